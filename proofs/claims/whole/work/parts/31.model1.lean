noncomputable def fX12_without (x0 : Int) (M : zMem) : Option (Int) :=
  (if x0 = 0 then some 10 else (if x0 = 1 then some 2 else (if x0 = 2 then some 4 else (if x0 = 3 then some 1 else (if x0 = 4 then some 12 else (if x0 = 5 then some 2 else (if x0 = 6 then some 3 else (if x0 = 7 then some 1 else (if x0 = 8 then some 5 else (if x0 = 9 then some 0 else some 1))))))))))
set_option maxRecDepth 100000 in
set_option maxHeartbeats 4000000 in
theorem fX12_without_ok {Z : zZ} (hZ : zB Z) {nn : Nat} (hn : 0 ≤ nn)  {x0 : Int} (hx0 : z32 x0) {M : zMem} {Q : Option zAV → zMem → zZ → Prop} (h : zSat (fX12_without x0 M) (fun r => Q (some (zI r)) M Z))  : zV zmX12_without nn 0 0 Z 0 [(0, zI x0)] [] M Q := by
  unfold fX12_without at h
  refine zV_iload_n 0 dX12_without_0 rfl rfl ?_
  refine zV_if_ne 9 dX12_without_1 (by decide) hx0 (fun hc_ => ?_) (fun hc_ => ?_)
  · replace h := zs_f h hc_
    refine zV_iload_n 0 dX12_without_9 rfl rfl ?_
    refine zV_iconst (v := 1) dX12_without_10 rfl ?_
    refine zV_icmp_ne 18 dX12_without_11 (by decide) hx0 zi_1 (fun hc_ => ?_) (fun hc_ => ?_)
    · replace h := zs_f h hc_
      refine zV_iload_n 0 dX12_without_18 rfl rfl ?_
      refine zV_iconst (v := 2) dX12_without_19 rfl ?_
      refine zV_icmp_ne 27 dX12_without_20 (by decide) hx0 zi_2 (fun hc_ => ?_) (fun hc_ => ?_)
      · replace h := zs_f h hc_
        refine zV_iload_n 0 dX12_without_27 rfl rfl ?_
        refine zV_iconst (v := 3) dX12_without_28 rfl ?_
        refine zV_icmp_ne 36 dX12_without_29 (by decide) hx0 zi_3 (fun hc_ => ?_) (fun hc_ => ?_)
        · replace h := zs_f h hc_
          refine zV_iload_n 0 dX12_without_36 rfl rfl ?_
          refine zV_iconst (v := 4) dX12_without_37 rfl ?_
          refine zV_icmp_ne 46 dX12_without_38 (by decide) hx0 zi_4 (fun hc_ => ?_) (fun hc_ => ?_)
          · replace h := zs_f h hc_
            refine zV_iload_n 0 dX12_without_46 rfl rfl ?_
            refine zV_iconst (v := 5) dX12_without_47 rfl ?_
            refine zV_icmp_ne 55 dX12_without_48 (by decide) hx0 zi_5 (fun hc_ => ?_) (fun hc_ => ?_)
            · replace h := zs_f h hc_
              refine zV_iload_n 0 dX12_without_55 rfl rfl ?_
              refine zV_bipush (v := 6) dX12_without_56 rfl ?_
              refine zV_icmp_ne 65 dX12_without_58 (by decide) hx0 zi_6 (fun hc_ => ?_) (fun hc_ => ?_)
              · replace h := zs_f h hc_
                refine zV_iload_n 0 dX12_without_65 rfl rfl ?_
                refine zV_bipush (v := 7) dX12_without_66 rfl ?_
                refine zV_icmp_ne 75 dX12_without_68 (by decide) hx0 zi_7 (fun hc_ => ?_) (fun hc_ => ?_)
                · replace h := zs_f h hc_
                  refine zV_iload_n 0 dX12_without_75 rfl rfl ?_
                  refine zV_bipush (v := 8) dX12_without_76 rfl ?_
                  refine zV_icmp_ne 85 dX12_without_78 (by decide) hx0 zi_8 (fun hc_ => ?_) (fun hc_ => ?_)
                  · replace h := zs_f h hc_
                    refine zV_iload_n 0 dX12_without_85 rfl rfl ?_
                    refine zV_bipush (v := 9) dX12_without_86 rfl ?_
                    refine zV_icmp_ne 95 dX12_without_88 (by decide) hx0 zi_9 (fun hc_ => ?_) (fun hc_ => ?_)
                    · replace h := zs_f h hc_
                      refine zV_iconst (v := 1) dX12_without_95 rfl ?_
                      exact zV_ireti dX12_without_96 rfl zi_1 h
                    · replace h := zs_t h hc_
                      refine zV_iconst (v := 0) dX12_without_91 rfl ?_
                      refine zV_goto 96 dX12_without_92 (by decide) ?_
                      exact zV_ireti dX12_without_96 rfl zi_0 h
                  · replace h := zs_t h hc_
                    refine zV_iconst (v := 5) dX12_without_81 rfl ?_
                    refine zV_goto 96 dX12_without_82 (by decide) ?_
                    exact zV_ireti dX12_without_96 rfl zi_5 h
                · replace h := zs_t h hc_
                  refine zV_iconst (v := 1) dX12_without_71 rfl ?_
                  refine zV_goto 96 dX12_without_72 (by decide) ?_
                  exact zV_ireti dX12_without_96 rfl zi_1 h
              · replace h := zs_t h hc_
                refine zV_iconst (v := 3) dX12_without_61 rfl ?_
                refine zV_goto 96 dX12_without_62 (by decide) ?_
                exact zV_ireti dX12_without_96 rfl zi_3 h
            · replace h := zs_t h hc_
              refine zV_iconst (v := 2) dX12_without_51 rfl ?_
              refine zV_goto 96 dX12_without_52 (by decide) ?_
              exact zV_ireti dX12_without_96 rfl zi_2 h
          · replace h := zs_t h hc_
            refine zV_bipush (v := 12) dX12_without_41 rfl ?_
            refine zV_goto 96 dX12_without_43 (by decide) ?_
            exact zV_ireti dX12_without_96 rfl zi_12 h
        · replace h := zs_t h hc_
          refine zV_iconst (v := 1) dX12_without_32 rfl ?_
          refine zV_goto 96 dX12_without_33 (by decide) ?_
          exact zV_ireti dX12_without_96 rfl zi_1 h
      · replace h := zs_t h hc_
        refine zV_iconst (v := 4) dX12_without_23 rfl ?_
        refine zV_goto 96 dX12_without_24 (by decide) ?_
        exact zV_ireti dX12_without_96 rfl zi_4 h
    · replace h := zs_t h hc_
      refine zV_iconst (v := 2) dX12_without_14 rfl ?_
      refine zV_goto 96 dX12_without_15 (by decide) ?_
      exact zV_ireti dX12_without_96 rfl zi_2 h
  · replace h := zs_t h hc_
    refine zV_bipush (v := 10) dX12_without_4 rfl ?_
    refine zV_goto 96 dX12_without_6 (by decide) ?_
    exact zV_ireti dX12_without_96 rfl zi_10 h
noncomputable def fX12_thrown (M : zMem) : Option (Int) :=
  some (M 200 0)
set_option maxRecDepth 100000 in
set_option maxHeartbeats 4000000 in
theorem fX12_thrown_ok {Z : zZ} (hZ : zB Z) {nn : Nat} (hn : 0 ≤ nn)   {M : zMem} {Q : Option zAV → zMem → zZ → Prop} (h : zSat (fX12_thrown M) (fun r => Q (some (zI r)) M Z))  : zV zmX12_thrown nn 0 0 Z 0 [(0, zR 200)] [] M Q := by
  unfold fX12_thrown at h
  refine zV_aload_n 0 dX12_thrown_0 rfl rfl ?_
  refine zV_getI (zq_200 hZ) zf_X12_0 zkf_X12_157 rfl dX12_thrown_1 (fun m1 => ?_)
  exact zV_ireti dX12_thrown_4 rfl m1 h
noncomputable def fX12_isFrom (x0 x1 x2 : Int) (M : zMem) : Option (Int) :=
  (if x0 < x1 then some 0 else (if x2 < x0 then some 0 else some 1))
set_option maxRecDepth 100000 in
set_option maxHeartbeats 4000000 in
theorem fX12_isFrom_ok {Z : zZ} (hZ : zB Z) {nn : Nat} (hn : 0 ≤ nn)  {x0 x1 x2 : Int} (hx0 : z32 x0) (hx1 : z32 x1) (hx2 : z32 x2) {M : zMem} {Q : Option zAV → zMem → zZ → Prop} (h : zSat (fX12_isFrom x0 x1 x2 M) (fun r => Q (some (zI r)) M Z))  : zV zmX12_isFrom nn 0 0 Z 0 [(0, zI x0), (1, zI x1), (2, zI x2)] [] M Q := by
  unfold fX12_isFrom at h
  refine zV_iload_n 0 dX12_isFrom_0 rfl rfl ?_
  refine zV_iload_n 1 dX12_isFrom_1 rfl rfl ?_
  refine zV_icmp_lt 14 dX12_isFrom_2 (by decide) hx0 hx1 (fun hc_ => ?_) (fun hc_ => ?_)
  · replace h := zs_t h hc_
    refine zV_iconst (v := 0) dX12_isFrom_14 rfl ?_
    exact zV_iretb dX12_isFrom_15 rfl (Or.inl rfl) h
  · replace h := zs_f h hc_
    refine zV_iload_n 0 dX12_isFrom_5 rfl rfl ?_
    refine zV_iload_n 2 dX12_isFrom_6 rfl rfl ?_
    refine zV_icmp_gt 14 dX12_isFrom_7 (by decide) hx0 hx2 (fun hc_ => ?_) (fun hc_ => ?_)
    · replace h := zs_t h hc_
      refine zV_iconst (v := 0) dX12_isFrom_14 rfl ?_
      exact zV_iretb dX12_isFrom_15 rfl (Or.inl rfl) h
    · replace h := zs_f h hc_
      refine zV_iconst (v := 1) dX12_isFrom_10 rfl ?_
      refine zV_goto 15 dX12_isFrom_11 (by decide) ?_
      exact zV_iretb dX12_isFrom_15 rfl (Or.inr rfl) h
noncomputable def fX12_away (x0 x1 : Int) (M : zMem) : Option (Int) :=
  (if x1 ≤ x0 then some (zw (x0 - x1)) else some (zw (x1 - x0)))
set_option maxRecDepth 100000 in
set_option maxHeartbeats 4000000 in
theorem fX12_away_ok {Z : zZ} (hZ : zB Z) {nn : Nat} (hn : 0 ≤ nn)  {x0 x1 : Int} (hx0 : z32 x0) (hx1 : z32 x1) {M : zMem} {Q : Option zAV → zMem → zZ → Prop} (h : zSat (fX12_away x0 x1 M) (fun r => Q (some (zI r)) M Z))  : zV zmX12_away nn 0 0 Z 0 [(0, zI x0), (1, zI x1)] [] M Q := by
  unfold fX12_away at h
  refine zV_iload_n 0 dX12_away_0 rfl rfl ?_
  refine zV_iload_n 1 dX12_away_1 rfl rfl ?_
  refine zV_icmp_ge 11 dX12_away_2 (by decide) hx0 hx1 (fun hc_ => ?_) (fun hc_ => ?_)
  · replace h := zs_t h hc_
    refine zV_iload_n 0 dX12_away_11 rfl rfl ?_
    refine zV_iload_n 1 dX12_away_12 rfl rfl ?_
    refine zV_isub dX12_away_13 ?_
    refine zV_w ?_
    exact zV_ireti dX12_away_14 rfl (z32_w _) h
  · replace h := zs_f h hc_
    refine zV_iload_n 1 dX12_away_5 rfl rfl ?_
    refine zV_iload_n 0 dX12_away_6 rfl rfl ?_
    refine zV_isub dX12_away_7 ?_
    refine zV_goto 14 dX12_away_8 (by decide) ?_
    refine zV_w ?_
    exact zV_ireti dX12_away_14 rfl (z32_w _) h
noncomputable def fX12_feed_j93 (x1 x3 x5 x7 x10 : Int) (M : zMem) : Option ((Int × zMem) ⊕ (Int × zMem)) :=
  (zgd ((0 : Int) ≤ (M 200 1) ∧ (M 200 1) < 1000) (some (.inl ((zw (x7 + 1)), (zup (zup M 203 (M 200 1) x10) 200 1 (zw (((zup M 203 (M 200 1) x10) 200 1) + 1)))))))
set_option maxRecDepth 100000 in
set_option maxHeartbeats 4000000 in
theorem fX12_feed_j93_ok {Z : zZ} (hZ : zB Z) {nn : Nat} (hn : 0 ≤ nn)  {x1 x3 x5 x7 x10 : Int} (hx1 : z64 x1) (hx3 : z64 x3) (hx5 : z64 x5) (hx7 : z32 x7) (hx10 : z32 x10) {M : zMem} {Q : Option zAV → zMem → zZ → Prop} {P : (Int × zMem) ⊕ (Int × zMem) → Prop} (h : zSat (fX12_feed_j93 x1 x3 x5 x7 x10 M) P)  (hc : ∀ s : Int × zMem, P (.inl s) → z32 (s.1) → zV zmX12_feed nn 0 0 Z 8 [(0, zR 200), (1, zL x1), (3, zL x3), (5, zL x5), (7, zI (s.1))] [] (s.2) Q) (he : ∀ s : Int × zMem, P (.inr s) → z32 (s.1) → zV zmX12_feed nn 0 0 Z 120 [(0, zR 200), (1, zL x1), (3, zL x3), (5, zL x5), (7, zI (s.1))] [] (s.2) Q)   : zV zmX12_feed nn 0 0 Z 93 [(0, zR 200), (1, zL x1), (3, zL x3), (5, zL x5), (7, zI x7), (10, zI x10)] [] M Q := by
  unfold fX12_feed_j93 at h
  refine zV_aload_n 0 dX12_feed_93 rfl rfl ?_
  refine zV_getR (j := 203) (zq_200 hZ) zf_X12_2 zkf_X12_7 rfl dX12_feed_94 ?_
  refine zV_aload_n 0 dX12_feed_97 rfl rfl ?_
  refine zV_getI (zq_200 hZ) zf_X12_1 zkf_X12_163 rfl dX12_feed_98 (fun m2 => ?_)
  refine zV_iload 5 dX12_feed_101 rfl ?_
  obtain ⟨hg, h⟩ := zs_gd h
  refine zV_iast (zq_203 hZ) (by decide) hg hx10 dX12_feed_103 ?_
  refine zV_aload_n 0 dX12_feed_104 rfl rfl ?_
  refine zV_dup dX12_feed_105 rfl ?_
  refine zV_getI (zq_200 hZ) zf_X12_1 zkf_X12_163 rfl dX12_feed_106 (fun m3 => ?_)
  refine zV_iconst (v := 1) dX12_feed_109 rfl ?_
  refine zV_iadd dX12_feed_110 ?_
  refine zV_w ?_
  refine zV_putI (zq_200 hZ) (by decide) zf_X12_1 zkf_X12_163 rfl dX12_feed_111 (z32_w _) ?_
  refine zV_iinc 4 [(7, zI (zw (x7 + 1))), (0, zR 200), (1, zL x1), (3, zL x3), (5, zL x5), (10, zI x10)] dX12_feed_114 rfl rfl (by decide) rfl ?_
  refine zV_goto 8 dX12_feed_117 (by decide) ?_
  refine zV_ls [1, 2, 3, 4, 0] rfl ?_
  exact hc _ h (z32_w _)
noncomputable def fX12_feed_j39 (x1 x3 x5 x7 s0 : Int) (M : zMem) : Option ((Int × zMem) ⊕ (Int × zMem)) :=
  (if 1000 ≤ (M 200 1) then some (.inl ((zw (x7 + 1)), M)) else (if (zw (zland (zlushr s0 (56 - (8 * (zand x7 7)))) 255)) = 10 then fX12_feed_j93 x1 x3 x5 x7 (zw (zland (zlushr s0 (56 - (8 * (zand x7 7)))) 255)) M else (if (zw (zland (zlushr s0 (56 - (8 * (zand x7 7)))) 255)) < 32 then some (.inl ((zw (x7 + 1)), M)) else (if 126 < (zw (zland (zlushr s0 (56 - (8 * (zand x7 7)))) 255)) then some (.inl ((zw (x7 + 1)), M)) else fX12_feed_j93 x1 x3 x5 x7 (zw (zland (zlushr s0 (56 - (8 * (zand x7 7)))) 255)) M))))
set_option maxRecDepth 100000 in
set_option maxHeartbeats 4000000 in
theorem fX12_feed_j39_ok {Z : zZ} (hZ : zB Z) {nn : Nat} (hn : 0 ≤ nn)  {x1 x3 x5 x7 s0 : Int} (hx1 : z64 x1) (hx3 : z64 x3) (hx5 : z64 x5) (hx7 : z32 x7) (hs0 : z64 s0) {M : zMem} {Q : Option zAV → zMem → zZ → Prop} {P : (Int × zMem) ⊕ (Int × zMem) → Prop} (h : zSat (fX12_feed_j39 x1 x3 x5 x7 s0 M) P)  (hc : ∀ s : Int × zMem, P (.inl s) → z32 (s.1) → zV zmX12_feed nn 0 0 Z 8 [(0, zR 200), (1, zL x1), (3, zL x3), (5, zL x5), (7, zI (s.1))] [] (s.2) Q) (he : ∀ s : Int × zMem, P (.inr s) → z32 (s.1) → zV zmX12_feed nn 0 0 Z 120 [(0, zR 200), (1, zL x1), (3, zL x3), (5, zL x5), (7, zI (s.1))] [] (s.2) Q)   : zV zmX12_feed nn 0 0 Z 39 [(0, zR 200), (1, zL x1), (3, zL x3), (5, zL x5), (7, zI x7)] [zL s0] M Q := by
  unfold fX12_feed_j39 at h
  refine zV_lstore [(8, zL s0), (0, zR 200), (1, zL x1), (3, zL x3), (5, zL x5), (7, zI x7)] dX12_feed_39 (by decide) rfl ?_
  refine zV_lload 0 dX12_feed_41 rfl ?_
  refine zV_bipush (v := 56) dX12_feed_43 rfl ?_
  refine zV_bipush (v := 8) dX12_feed_45 rfl ?_
  refine zV_iload 5 dX12_feed_47 rfl ?_
  refine zV_bipush (v := 7) dX12_feed_49 rfl ?_
  refine zV_iand dX12_feed_51 ?_
  refine zV_imul dX12_feed_52 ?_
  refine zV_isub dX12_feed_53 ?_
  refine zV_lushr dX12_feed_54 ?_
  refine zV_ldc2 (v := 255) zkl_X12_161 rfl dX12_feed_55 ?_
  refine zV_land dX12_feed_58 ?_
  refine zV_l2i dX12_feed_59 ?_
  refine zV_w ?_
  refine zV_istore [(10, zI (zw (zland (zlushr s0 (56 - (8 * (zand x7 7)))) 255))), (8, zL s0), (0, zR 200), (1, zL x1), (3, zL x3), (5, zL x5), (7, zI x7)] dX12_feed_60 (by decide) rfl ?_
  refine zV_aload_n 2 dX12_feed_62 rfl rfl ?_
  refine zV_getI (zq_200 hZ) zf_X12_1 zkf_X12_163 rfl dX12_feed_63 (fun m1 => ?_)
  refine zV_sipush (v := 1000) dX12_feed_66 rfl ?_
  refine zV_icmp_ge 114 dX12_feed_69 (by decide) m1 zi_1000 (fun hc_ => ?_) (fun hc_ => ?_)
  · replace h := zs_t h hc_
    refine zV_iinc 6 [(7, zI (zw (x7 + 1))), (10, zI (zw (zland (zlushr s0 (56 - (8 * (zand x7 7)))) 255))), (8, zL s0), (0, zR 200), (1, zL x1), (3, zL x3), (5, zL x5)] dX12_feed_114 rfl rfl (by decide) rfl ?_
    refine zV_goto 8 dX12_feed_117 (by decide) ?_
    refine zV_ls [3, 4, 5, 6, 0] rfl ?_
    exact hc _ h (z32_w _)
  · replace h := zs_f h hc_
    refine zV_iload 0 dX12_feed_72 rfl ?_
    refine zV_bipush (v := 10) dX12_feed_74 rfl ?_
    refine zV_icmp_eq 93 dX12_feed_76 (by decide) (z32_w _) zi_10 (fun hc_ => ?_) (fun hc_ => ?_)
    · replace h := zs_t h hc_
      refine zV_ls [2, 3, 4, 5, 6, 0] rfl ?_
      exact fX12_feed_j93_ok hZ hn hx1 hx3 hx5 hx7 (z32_w _) h hc he
    · replace h := zs_f h hc_
      refine zV_iload 0 dX12_feed_79 rfl ?_
      refine zV_bipush (v := 32) dX12_feed_81 rfl ?_
      refine zV_icmp_lt 114 dX12_feed_83 (by decide) (z32_w _) zi_32 (fun hc_ => ?_) (fun hc_ => ?_)
      · replace h := zs_t h hc_
        refine zV_iinc 6 [(7, zI (zw (x7 + 1))), (10, zI (zw (zland (zlushr s0 (56 - (8 * (zand x7 7)))) 255))), (8, zL s0), (0, zR 200), (1, zL x1), (3, zL x3), (5, zL x5)] dX12_feed_114 rfl rfl (by decide) rfl ?_
        refine zV_goto 8 dX12_feed_117 (by decide) ?_
        refine zV_ls [3, 4, 5, 6, 0] rfl ?_
        exact hc _ h (z32_w _)
      · replace h := zs_f h hc_
        refine zV_iload 0 dX12_feed_86 rfl ?_
        refine zV_bipush (v := 126) dX12_feed_88 rfl ?_
        refine zV_icmp_gt 114 dX12_feed_90 (by decide) (z32_w _) zi_126 (fun hc_ => ?_) (fun hc_ => ?_)
        · replace h := zs_t h hc_
          refine zV_iinc 6 [(7, zI (zw (x7 + 1))), (10, zI (zw (zland (zlushr s0 (56 - (8 * (zand x7 7)))) 255))), (8, zL s0), (0, zR 200), (1, zL x1), (3, zL x3), (5, zL x5)] dX12_feed_114 rfl rfl (by decide) rfl ?_
          refine zV_goto 8 dX12_feed_117 (by decide) ?_
          refine zV_ls [3, 4, 5, 6, 0] rfl ?_
          exact hc _ h (z32_w _)
        · replace h := zs_f h hc_
          refine zV_ls [2, 3, 4, 5, 6, 0] rfl ?_
          exact fX12_feed_j93_ok hZ hn hx1 hx3 hx5 hx7 (z32_w _) h hc he
noncomputable def fX12_feed_l8 (x1 x3 x5 x7 : Int) (M : zMem) : Option ((Int × zMem) ⊕ (Int × zMem)) :=
  (if 24 ≤ x7 then some (.inr (x7, M)) else (if 8 ≤ x7 then (if 16 ≤ x7 then fX12_feed_j39 x1 x3 x5 x7 x5 M else fX12_feed_j39 x1 x3 x5 x7 x3 M) else fX12_feed_j39 x1 x3 x5 x7 x1 M))
set_option maxRecDepth 100000 in
set_option maxHeartbeats 4000000 in
theorem fX12_feed_l8_ok {Z : zZ} (hZ : zB Z) {nn : Nat} (hn : 0 ≤ nn)  {x1 x3 x5 x7 : Int} (hx1 : z64 x1) (hx3 : z64 x3) (hx5 : z64 x5) (hx7 : z32 x7) {M : zMem} {Q : Option zAV → zMem → zZ → Prop} {P : (Int × zMem) ⊕ (Int × zMem) → Prop} (h : zSat (fX12_feed_l8 x1 x3 x5 x7 M) P)  (hc : ∀ s : Int × zMem, P (.inl s) → z32 (s.1) → zV zmX12_feed nn 0 0 Z 8 [(0, zR 200), (1, zL x1), (3, zL x3), (5, zL x5), (7, zI (s.1))] [] (s.2) Q) (he : ∀ s : Int × zMem, P (.inr s) → z32 (s.1) → zV zmX12_feed nn 0 0 Z 120 [(0, zR 200), (1, zL x1), (3, zL x3), (5, zL x5), (7, zI (s.1))] [] (s.2) Q)   : zV zmX12_feed nn 0 0 Z 8 [(0, zR 200), (1, zL x1), (3, zL x3), (5, zL x5), (7, zI x7)] [] M Q := by
  unfold fX12_feed_l8 at h
  refine zV_iload 4 dX12_feed_8 rfl ?_
  refine zV_bipush (v := 24) dX12_feed_10 rfl ?_
  refine zV_icmp_ge 120 dX12_feed_12 (by decide) hx7 zi_24 (fun hc_ => ?_) (fun hc_ => ?_)
  · replace h := zs_t h hc_
    exact he _ h hx7
  · replace h := zs_f h hc_
    refine zV_iload 4 dX12_feed_15 rfl ?_
    refine zV_bipush (v := 8) dX12_feed_17 rfl ?_
    refine zV_icmp_ge 26 dX12_feed_19 (by decide) hx7 zi_8 (fun hc_ => ?_) (fun hc_ => ?_)
    · replace h := zs_t h hc_
      refine zV_iload 4 dX12_feed_26 rfl ?_
      refine zV_bipush (v := 16) dX12_feed_28 rfl ?_
      refine zV_icmp_ge 37 dX12_feed_30 (by decide) hx7 zi_16 (fun hc_ => ?_) (fun hc_ => ?_)
      · replace h := zs_t h hc_
        refine zV_lload 3 dX12_feed_37 rfl ?_
        exact fX12_feed_j39_ok hZ hn hx1 hx3 hx5 hx7 hx5 h hc he
      · replace h := zs_f h hc_
        refine zV_lload_n 2 dX12_feed_33 rfl rfl ?_
        refine zV_goto 39 dX12_feed_34 (by decide) ?_
        exact fX12_feed_j39_ok hZ hn hx1 hx3 hx5 hx7 hx3 h hc he
    · replace h := zs_f h hc_
      refine zV_lload_n 1 dX12_feed_22 rfl rfl ?_
      refine zV_goto 39 dX12_feed_23 (by decide) ?_
      exact fX12_feed_j39_ok hZ hn hx1 hx3 hx5 hx7 hx1 h hc he
noncomputable def fX12_feed (x1 x3 x5 : Int) (M : zMem) : Option (Int × zMem) :=
  (zbd (zit (fun s4 => fX12_feed_l8 x1 x3 x5 (s4.1) (s4.2)) (0, (zup M 200 0 0))) fun s10 => some (((s10.2) 200 1), s10.2))
set_option maxRecDepth 100000 in
set_option maxHeartbeats 4000000 in
theorem fX12_feed_ok {Z : zZ} (hZ : zB Z) {nn : Nat} (hn : 0 ≤ nn)  {x1 x3 x5 : Int} (hx1 : z64 x1) (hx3 : z64 x3) (hx5 : z64 x5) {M : zMem} {Q : Option zAV → zMem → zZ → Prop} (h : zSat (fX12_feed x1 x3 x5 M) (fun r => Q (some (zI r.1)) r.2 Z))  : zV zmX12_feed nn 0 0 Z 0 [(0, zR 200), (1, zL x1), (3, zL x3), (5, zL x5)] [] M Q := by
  unfold fX12_feed at h
  refine zV_aload_n 0 dX12_feed_0 rfl rfl ?_
  refine zV_iconst (v := 0) dX12_feed_1 rfl ?_
  refine zV_putI (zq_200 hZ) (by decide) zf_X12_0 zkf_X12_157 rfl dX12_feed_2 zi_0 ?_
  refine zV_iconst (v := 0) dX12_feed_5 rfl ?_
  refine zV_istore [(7, zI 0), (0, zR 200), (1, zL x1), (3, zL x3), (5, zL x5)] dX12_feed_6 (by decide) rfl ?_
  refine zV_ls [1, 2, 3, 4, 0] rfl ?_
  refine (zV_loop (Vh := fun s4 : Int × zMem => z32 (s4.1) → zV zmX12_feed nn 0 0 Z 8 [(0, zR 200), (1, zL x1), (3, zL x3), (5, zL x5), (7, zI (s4.1))] [] (s4.2) Q) h (fun s4 P5 hP6 hc7 he8 => ?_)) zi_0
  intro c9
  refine fX12_feed_l8_ok hZ hn hx1 hx3 hx5 c9 hP6 hc7 (fun s10 h11 d12 => ?_)
  have h := he8 _ h11
  refine zV_aload_n 0 dX12_feed_120 rfl rfl ?_
  refine zV_getI (zq_200 hZ) zf_X12_1 zkf_X12_163 rfl dX12_feed_121 (fun m13 => ?_)
  exact zV_ireti dX12_feed_124 rfl m13 h
noncomputable def fX12_signAt (x1 : Int) (M : zMem) : Option (Int) :=
  (if (M 200 3) ≤ x1 then some 0 else (zgd ((0 : Int) ≤ x1 ∧ x1 < 1000) (some (M 203 x1))))
set_option maxRecDepth 100000 in
set_option maxHeartbeats 4000000 in
theorem fX12_signAt_ok {Z : zZ} (hZ : zB Z) {nn : Nat} (hn : 0 ≤ nn)  {x1 : Int} (hx1 : z32 x1) {M : zMem} {Q : Option zAV → zMem → zZ → Prop} (h : zSat (fX12_signAt x1 M) (fun r => Q (some (zI r)) M Z))  : zV zmX12_signAt nn 0 0 Z 0 [(0, zR 200), (1, zI x1)] [] M Q := by
  unfold fX12_signAt at h
  refine zV_iload_n 1 dX12_signAt_0 rfl rfl ?_
  refine zV_aload_n 0 dX12_signAt_1 rfl rfl ?_
  refine zV_getI (zq_200 hZ) zf_X12_3 zkf_X12_166 rfl dX12_signAt_2 (fun m1 => ?_)
  refine zV_icmp_ge 17 dX12_signAt_5 (by decide) hx1 m1 (fun hc_ => ?_) (fun hc_ => ?_)
  · replace h := zs_t h hc_
    refine zV_iconst (v := 0) dX12_signAt_17 rfl ?_
    exact zV_ireti dX12_signAt_18 rfl zi_0 h
  · replace h := zs_f h hc_
    refine zV_aload_n 0 dX12_signAt_8 rfl rfl ?_
    refine zV_getR (j := 203) (zq_200 hZ) zf_X12_2 zkf_X12_7 rfl dX12_signAt_9 ?_
    refine zV_iload_n 1 dX12_signAt_12 rfl rfl ?_
    obtain ⟨hg, h⟩ := zs_gd h
    refine zV_iald (zq_203 hZ) hg dX12_signAt_13 (fun m2 => ?_)
    refine zV_goto 18 dX12_signAt_14 (by decide) ?_
    exact zV_ireti dX12_signAt_18 rfl m2 h
noncomputable def fX12_nextToken_j39 (M : zMem) : Option ((zMem) ⊕ (zMem)) :=
  some (.inl (zup M 200 4 (zw ((M 200 4) + 1))))
set_option maxRecDepth 100000 in
set_option maxHeartbeats 4000000 in
theorem fX12_nextToken_j39_ok {Z : zZ} (hZ : zB Z) {nn : Nat} (hn : 1 ≤ nn)   {M : zMem} {Q : Option zAV → zMem → zZ → Prop} {P : (zMem) ⊕ (zMem) → Prop} (h : zSat (fX12_nextToken_j39 M) P)  (hc : ∀ s : zMem, P (.inl s) → zV zmX12_nextToken nn 0 0 Z 0 [(0, zR 200)] [] s Q) (he : ∀ s : zMem, P (.inr s) → zV zmX12_nextToken nn 0 0 Z 52 [(0, zR 200)] [] s Q)   : zV zmX12_nextToken nn 0 0 Z 39 [(0, zR 200)] [] M Q := by
  unfold fX12_nextToken_j39 at h
  refine zV_aload_n 0 dX12_nextToken_39 rfl rfl ?_
  refine zV_dup dX12_nextToken_40 rfl ?_
  refine zV_getI (zq_200 hZ) zf_X12_4 zkf_X12_169 rfl dX12_nextToken_41 (fun m5 => ?_)
  refine zV_iconst (v := 1) dX12_nextToken_44 rfl ?_
  refine zV_iadd dX12_nextToken_45 ?_
  refine zV_w ?_
  refine zV_putI (zq_200 hZ) (by decide) zf_X12_4 zkf_X12_169 rfl dX12_nextToken_46 (z32_w _) ?_
  refine zV_goto 0 dX12_nextToken_49 (by decide) ?_
  exact hc _ h 
noncomputable def fX12_nextToken_l0 (M : zMem) : Option ((zMem) ⊕ (zMem)) :=
  (if (M 200 3) ≤ (M 200 4) then some (.inr M) else (zgd ((0 : Int) ≤ (M 200 4) ∧ (M 200 4) < 1000) (if (M 203 (M 200 4)) = 32 then fX12_nextToken_j39  M else (zgd ((0 : Int) ≤ (M 200 4) ∧ (M 200 4) < 1000) (if (M 203 (M 200 4)) = 10 then fX12_nextToken_j39  M else some (.inr M))))))
set_option maxRecDepth 100000 in
set_option maxHeartbeats 4000000 in
theorem fX12_nextToken_l0_ok {Z : zZ} (hZ : zB Z) {nn : Nat} (hn : 1 ≤ nn)   {M : zMem} {Q : Option zAV → zMem → zZ → Prop} {P : (zMem) ⊕ (zMem) → Prop} (h : zSat (fX12_nextToken_l0 M) P)  (hc : ∀ s : zMem, P (.inl s) → zV zmX12_nextToken nn 0 0 Z 0 [(0, zR 200)] [] s Q) (he : ∀ s : zMem, P (.inr s) → zV zmX12_nextToken nn 0 0 Z 52 [(0, zR 200)] [] s Q)   : zV zmX12_nextToken nn 0 0 Z 0 [(0, zR 200)] [] M Q := by
  unfold fX12_nextToken_l0 at h
  refine zV_aload_n 0 dX12_nextToken_0 rfl rfl ?_
  refine zV_getI (zq_200 hZ) zf_X12_4 zkf_X12_169 rfl dX12_nextToken_1 (fun m1 => ?_)
  refine zV_aload_n 0 dX12_nextToken_4 rfl rfl ?_
  refine zV_getI (zq_200 hZ) zf_X12_3 zkf_X12_166 rfl dX12_nextToken_5 (fun m2 => ?_)
  refine zV_icmp_ge 52 dX12_nextToken_8 (by decide) m1 m2 (fun hc_ => ?_) (fun hc_ => ?_)
  · replace h := zs_t h hc_
    exact he _ h 
  · replace h := zs_f h hc_
    refine zV_aload_n 0 dX12_nextToken_11 rfl rfl ?_
    refine zV_getR (j := 203) (zq_200 hZ) zf_X12_2 zkf_X12_7 rfl dX12_nextToken_12 ?_
    refine zV_aload_n 0 dX12_nextToken_15 rfl rfl ?_
    refine zV_getI (zq_200 hZ) zf_X12_4 zkf_X12_169 rfl dX12_nextToken_16 (fun m3 => ?_)
    obtain ⟨hg, h⟩ := zs_gd h
    refine zV_iald (zq_203 hZ) hg dX12_nextToken_19 (fun m4 => ?_)
    refine zV_bipush (v := 32) dX12_nextToken_20 rfl ?_
    refine zV_icmp_eq 39 dX12_nextToken_22 (by decide) m4 zi_32 (fun hc_ => ?_) (fun hc_ => ?_)
    · replace h := zs_t h hc_
      exact fX12_nextToken_j39_ok hZ hn  h hc he
    · replace h := zs_f h hc_
      refine zV_aload_n 0 dX12_nextToken_25 rfl rfl ?_
      refine zV_getR (j := 203) (zq_200 hZ) zf_X12_2 zkf_X12_7 rfl dX12_nextToken_26 ?_
      refine zV_aload_n 0 dX12_nextToken_29 rfl rfl ?_
      refine zV_getI (zq_200 hZ) zf_X12_4 zkf_X12_169 rfl dX12_nextToken_30 (fun m6 => ?_)
      obtain ⟨hg, h⟩ := zs_gd h
      refine zV_iald (zq_203 hZ) hg dX12_nextToken_33 (fun m7 => ?_)
      refine zV_bipush (v := 10) dX12_nextToken_34 rfl ?_
      refine zV_icmp_ne 52 dX12_nextToken_36 (by decide) m7 zi_10 (fun hc_ => ?_) (fun hc_ => ?_)
      · replace h := zs_f h hc_
        exact he _ h 
      · replace h := zs_t h hc_
        exact fX12_nextToken_j39_ok hZ hn  h hc he
noncomputable def fX12_nextToken_j368 (s0 : Int) (M : zMem) : Option (zMem) :=
  some (zup M 200 6 s0)
set_option maxRecDepth 100000 in
set_option maxHeartbeats 4000000 in
theorem fX12_nextToken_j368_ok {Z : zZ} (hZ : zB Z) {nn : Nat} (hn : 1 ≤ nn)  {s0 : Int} (hs0 : z32 s0) {M : zMem} {Q : Option zAV → zMem → zZ → Prop} (h : zSat (fX12_nextToken_j368 s0 M) (fun r => Q none r Z))  : zV zmX12_nextToken nn 0 0 Z 368 [] [zI s0, zR 200] M Q := by
  unfold fX12_nextToken_j368 at h
  refine zV_putI (zq_200 hZ) (by decide) zf_X12_6 zkf_X12_182 rfl dX12_nextToken_368 hs0 ?_
  exact zV_vret dX12_nextToken_371 rfl h
noncomputable def fX12_nextToken_j363 (M : zMem) : Option (zMem) :=
  fX12_nextToken_j368 3 M
set_option maxRecDepth 100000 in
set_option maxHeartbeats 4000000 in
theorem fX12_nextToken_j363_ok {Z : zZ} (hZ : zB Z) {nn : Nat} (hn : 1 ≤ nn)   {M : zMem} {Q : Option zAV → zMem → zZ → Prop} (h : zSat (fX12_nextToken_j363 M) (fun r => Q none r Z))  : zV zmX12_nextToken nn 0 0 Z 363 [] [zR 200] M Q := by
  unfold fX12_nextToken_j363 at h
  refine zV_iconst (v := 3) dX12_nextToken_363 rfl ?_
  refine zV_goto 368 dX12_nextToken_364 (by decide) ?_
  exact fX12_nextToken_j368_ok hZ hn zi_3 h
noncomputable def fX12_nextToken_j367 (M : zMem) : Option (zMem) :=
  fX12_nextToken_j368 4 M
set_option maxRecDepth 100000 in
set_option maxHeartbeats 4000000 in
theorem fX12_nextToken_j367_ok {Z : zZ} (hZ : zB Z) {nn : Nat} (hn : 1 ≤ nn)   {M : zMem} {Q : Option zAV → zMem → zZ → Prop} (h : zSat (fX12_nextToken_j367 M) (fun r => Q none r Z))  : zV zmX12_nextToken nn 0 0 Z 367 [] [zR 200] M Q := by
  unfold fX12_nextToken_j367 at h
  refine zV_iconst (v := 4) dX12_nextToken_367 rfl ?_
  exact fX12_nextToken_j368_ok hZ hn zi_4 h
noncomputable def fX12_nextToken_j345 (x1 : Int) (M : zMem) : Option (zMem) :=
  (if x1 = 45 then fX12_nextToken_j363  M else (if x1 < 59 then fX12_nextToken_j367  M else (if 61 < x1 then fX12_nextToken_j367  M else fX12_nextToken_j363  M)))
set_option maxRecDepth 100000 in
set_option maxHeartbeats 4000000 in
theorem fX12_nextToken_j345_ok {Z : zZ} (hZ : zB Z) {nn : Nat} (hn : 1 ≤ nn)  {x1 : Int} (hx1 : z32 x1) {M : zMem} {Q : Option zAV → zMem → zZ → Prop} (h : zSat (fX12_nextToken_j345 x1 M) (fun r => Q none r Z))  : zV zmX12_nextToken nn 0 0 Z 345 [(1, zI x1)] [zR 200] M Q := by
  unfold fX12_nextToken_j345 at h
  refine zV_iload_n 0 dX12_nextToken_345 rfl rfl ?_
  refine zV_bipush (v := 45) dX12_nextToken_346 rfl ?_
  refine zV_icmp_eq 363 dX12_nextToken_348 (by decide) hx1 zi_45 (fun hc_ => ?_) (fun hc_ => ?_)
  · replace h := zs_t h hc_
    refine zV_ls [] rfl ?_
    exact fX12_nextToken_j363_ok hZ hn  h
  · replace h := zs_f h hc_
    refine zV_iload_n 0 dX12_nextToken_351 rfl rfl ?_
    refine zV_bipush (v := 59) dX12_nextToken_352 rfl ?_
    refine zV_icmp_lt 367 dX12_nextToken_354 (by decide) hx1 zi_59 (fun hc_ => ?_) (fun hc_ => ?_)
    · replace h := zs_t h hc_
      refine zV_ls [] rfl ?_
      exact fX12_nextToken_j367_ok hZ hn  h
    · replace h := zs_f h hc_
      refine zV_iload_n 0 dX12_nextToken_357 rfl rfl ?_
      refine zV_bipush (v := 61) dX12_nextToken_358 rfl ?_
      refine zV_icmp_gt 367 dX12_nextToken_360 (by decide) hx1 zi_61 (fun hc_ => ?_) (fun hc_ => ?_)
      · replace h := zs_t h hc_
        refine zV_ls [] rfl ?_
        exact fX12_nextToken_j367_ok hZ hn  h
      · replace h := zs_f h hc_
        refine zV_ls [] rfl ?_
        exact fX12_nextToken_j363_ok hZ hn  h
noncomputable def fX12_nextToken_j322 (x1 : Int) (M : zMem) : Option (zMem) :=
  (if x1 < 40 then fX12_nextToken_j345 x1 (zup M 200 4 (zw ((M 200 4) + 1))) else (if x1 ≤ 43 then fX12_nextToken_j363  (zup M 200 4 (zw ((M 200 4) + 1))) else fX12_nextToken_j345 x1 (zup M 200 4 (zw ((M 200 4) + 1)))))
set_option maxRecDepth 100000 in
set_option maxHeartbeats 4000000 in
theorem fX12_nextToken_j322_ok {Z : zZ} (hZ : zB Z) {nn : Nat} (hn : 1 ≤ nn)  {x1 : Int} (hx1 : z32 x1) {M : zMem} {Q : Option zAV → zMem → zZ → Prop} (h : zSat (fX12_nextToken_j322 x1 M) (fun r => Q none r Z))  : zV zmX12_nextToken nn 0 0 Z 322 [(0, zR 200), (1, zI x1)] [] M Q := by
  unfold fX12_nextToken_j322 at h
  refine zV_aload_n 0 dX12_nextToken_322 rfl rfl ?_
  refine zV_dup dX12_nextToken_323 rfl ?_
  refine zV_getI (zq_200 hZ) zf_X12_4 zkf_X12_169 rfl dX12_nextToken_324 (fun m20 => ?_)
  refine zV_iconst (v := 1) dX12_nextToken_327 rfl ?_
  refine zV_iadd dX12_nextToken_328 ?_
  refine zV_w ?_
  refine zV_putI (zq_200 hZ) (by decide) zf_X12_4 zkf_X12_169 rfl dX12_nextToken_329 (z32_w _) ?_
  refine zV_aload_n 0 dX12_nextToken_332 rfl rfl ?_
  refine zV_iload_n 1 dX12_nextToken_333 rfl rfl ?_
  refine zV_bipush (v := 40) dX12_nextToken_334 rfl ?_
  refine zV_icmp_lt 345 dX12_nextToken_336 (by decide) hx1 zi_40 (fun hc_ => ?_) (fun hc_ => ?_)
  · replace h := zs_t h hc_
    refine zV_ls [1] rfl ?_
    exact fX12_nextToken_j345_ok hZ hn hx1 h
  · replace h := zs_f h hc_
    refine zV_iload_n 1 dX12_nextToken_339 rfl rfl ?_
    refine zV_bipush (v := 43) dX12_nextToken_340 rfl ?_
    refine zV_icmp_le 363 dX12_nextToken_342 (by decide) hx1 zi_43 (fun hc_ => ?_) (fun hc_ => ?_)
    · replace h := zs_t h hc_
      refine zV_ls [] rfl ?_
      exact fX12_nextToken_j363_ok hZ hn  h
    · replace h := zs_f h hc_
      refine zV_ls [1] rfl ?_
      exact fX12_nextToken_j345_ok hZ hn hx1 h
noncomputable def fX12_nextToken_j286 (M : zMem) : Option ((zMem) ⊕ (zMem)) :=
  some (.inl (zup M 200 4 (zw ((M 200 4) + 1))))
set_option maxRecDepth 100000 in
set_option maxHeartbeats 4000000 in
theorem fX12_nextToken_j286_ok {Z : zZ} (hZ : zB Z) {nn : Nat} (hn : 1 ≤ nn)   {M : zMem} {Q : Option zAV → zMem → zZ → Prop} {P : (zMem) ⊕ (zMem) → Prop} (h : zSat (fX12_nextToken_j286 M) P)  (hc : ∀ s : zMem, P (.inl s) → zV zmX12_nextToken nn 0 0 Z 224 [(0, zR 200)] [] s Q) (he : ∀ s : zMem, P (.inr s) → zV zmX12_nextToken nn 0 0 Z 299 [(0, zR 200)] [] s Q)   : zV zmX12_nextToken nn 0 0 Z 286 [(0, zR 200)] [] M Q := by
  unfold fX12_nextToken_j286 at h
  refine zV_aload_n 0 dX12_nextToken_286 rfl rfl ?_
  refine zV_dup dX12_nextToken_287 rfl ?_
  refine zV_getI (zq_200 hZ) zf_X12_4 zkf_X12_169 rfl dX12_nextToken_288 (fun m33 => ?_)
  refine zV_iconst (v := 1) dX12_nextToken_291 rfl ?_
  refine zV_iadd dX12_nextToken_292 ?_
  refine zV_w ?_
  refine zV_putI (zq_200 hZ) (by decide) zf_X12_4 zkf_X12_169 rfl dX12_nextToken_293 (z32_w _) ?_
  refine zV_goto 224 dX12_nextToken_296 (by decide) ?_
  exact hc _ h 
noncomputable def fX12_nextToken_l224 (M : zMem) : Option ((zMem) ⊕ (zMem)) :=
  (zbd (fX12_signAt (M 200 4) M) fun r22 => (if r22 < 48 then some (.inr M) else (zbd (fX12_signAt (M 200 4) M) fun r27 => (if 57 < r27 then some (.inr M) else (if 4 ≤ (zw ((M 200 4) - (M 200 5))) then fX12_nextToken_j286  M else (zbd (fX12_signAt (M 200 4) M) fun r36 => fX12_nextToken_j286  (zup M 200 8 (zw ((((M 200 8) * 10) + r36) - 48)))))))))
set_option maxRecDepth 100000 in
set_option maxHeartbeats 4000000 in
theorem fX12_nextToken_l224_ok {Z : zZ} (hZ : zB Z) {nn : Nat} (hn : 1 ≤ nn)   {M : zMem} {Q : Option zAV → zMem → zZ → Prop} {P : (zMem) ⊕ (zMem) → Prop} (h : zSat (fX12_nextToken_l224 M) P)  (hc : ∀ s : zMem, P (.inl s) → zV zmX12_nextToken nn 0 0 Z 224 [(0, zR 200)] [] s Q) (he : ∀ s : zMem, P (.inr s) → zV zmX12_nextToken nn 0 0 Z 299 [(0, zR 200)] [] s Q)   : zV zmX12_nextToken nn 0 0 Z 224 [(0, zR 200)] [] M Q := by
  unfold fX12_nextToken_l224 at h
  refine zV_aload_n 0 dX12_nextToken_224 rfl rfl ?_
  refine zV_aload_n 0 dX12_nextToken_225 rfl rfl ?_
  refine zV_getI (zq_200 hZ) zf_X12_4 zkf_X12_169 rfl dX12_nextToken_226 (fun m21 => ?_)
  refine zV_cVI (y' := zmX12_signAt) (n' := 0) (As := [zI (M 200 4)]) zc_X12_185 (zq_200 hZ) rfl dX12_nextToken_229 (Nat.le_trans (by decide) hn) rfl (Nat.le_of_ble_eq_true rfl) (Nat.le_of_ble_eq_true rfl) rfl h (fun Q' h' => fX12_signAt_ok hZ (Nat.le_refl _) m21 h') (fun r22 c23 b24 h => ?_)
  refine zV_bipush (v := 48) dX12_nextToken_232 rfl ?_
  refine zV_icmp_lt 299 dX12_nextToken_234 (by decide) c23 zi_48 (fun hc_ => ?_) (fun hc_ => ?_)
  · replace h := zs_t h hc_
    exact he _ h 
  · replace h := zs_f h hc_
    refine zV_aload_n 0 dX12_nextToken_237 rfl rfl ?_
    refine zV_aload_n 0 dX12_nextToken_238 rfl rfl ?_
    refine zV_getI (zq_200 hZ) zf_X12_4 zkf_X12_169 rfl dX12_nextToken_239 (fun m26 => ?_)
    refine zV_cVI (y' := zmX12_signAt) (n' := 0) (As := [zI (M 200 4)]) zc_X12_185 (zq_200 hZ) rfl dX12_nextToken_242 (Nat.le_trans (by decide) hn) rfl (Nat.le_of_ble_eq_true rfl) (Nat.le_of_ble_eq_true rfl) rfl h (fun Q' h' => fX12_signAt_ok hZ (Nat.le_refl _) m26 h') (fun r27 c28 b29 h => ?_)
    refine zV_bipush (v := 57) dX12_nextToken_245 rfl ?_
    refine zV_icmp_gt 299 dX12_nextToken_247 (by decide) c28 zi_57 (fun hc_ => ?_) (fun hc_ => ?_)
    · replace h := zs_t h hc_
      exact he _ h 
    · replace h := zs_f h hc_
      refine zV_aload_n 0 dX12_nextToken_250 rfl rfl ?_
      refine zV_getI (zq_200 hZ) zf_X12_4 zkf_X12_169 rfl dX12_nextToken_251 (fun m31 => ?_)
      refine zV_aload_n 0 dX12_nextToken_254 rfl rfl ?_
      refine zV_getI (zq_200 hZ) zf_X12_5 zkf_X12_172 rfl dX12_nextToken_255 (fun m32 => ?_)
      refine zV_isub dX12_nextToken_258 ?_
      refine zV_iconst (v := 4) dX12_nextToken_259 rfl ?_
      refine zV_w2 ?_
      refine zV_icmp_ge 286 dX12_nextToken_260 (by decide) (z32_w _) zi_4 (fun hc_ => ?_) (fun hc_ => ?_)
      · replace h := zs_t h hc_
        exact fX12_nextToken_j286_ok hZ hn  h hc he
      · replace h := zs_f h hc_
        refine zV_aload_n 0 dX12_nextToken_263 rfl rfl ?_
        refine zV_aload_n 0 dX12_nextToken_264 rfl rfl ?_
        refine zV_getI (zq_200 hZ) zf_X12_8 zkf_X12_179 rfl dX12_nextToken_265 (fun m34 => ?_)
        refine zV_bipush (v := 10) dX12_nextToken_268 rfl ?_
        refine zV_imul dX12_nextToken_270 ?_
        refine zV_aload_n 0 dX12_nextToken_271 rfl rfl ?_
        refine zV_aload_n 0 dX12_nextToken_272 rfl rfl ?_
        refine zV_getI (zq_200 hZ) zf_X12_4 zkf_X12_169 rfl dX12_nextToken_273 (fun m35 => ?_)
        refine zV_cVI (y' := zmX12_signAt) (n' := 0) (As := [zI (M 200 4)]) zc_X12_185 (zq_200 hZ) rfl dX12_nextToken_276 (Nat.le_trans (by decide) hn) rfl (Nat.le_of_ble_eq_true rfl) (Nat.le_of_ble_eq_true rfl) rfl h (fun Q' h' => fX12_signAt_ok hZ (Nat.le_refl _) m35 h') (fun r36 c37 b38 h => ?_)
        refine zV_iadd dX12_nextToken_279 ?_
        refine zV_bipush (v := 48) dX12_nextToken_280 rfl ?_
        refine zV_isub dX12_nextToken_282 ?_
        refine zV_w ?_
        refine zV_putI (zq_200 hZ) (by decide) zf_X12_8 zkf_X12_179 rfl dX12_nextToken_283 (z32_w _) ?_
        exact fX12_nextToken_j286_ok hZ hn  h hc he
noncomputable def fX12_nextToken_j318 (s0 : Int) (M : zMem) : Option (zMem) :=
  some (zup M 200 6 s0)
set_option maxRecDepth 100000 in
set_option maxHeartbeats 4000000 in
theorem fX12_nextToken_j318_ok {Z : zZ} (hZ : zB Z) {nn : Nat} (hn : 1 ≤ nn)  {s0 : Int} (hs0 : z32 s0) {M : zMem} {Q : Option zAV → zMem → zZ → Prop} (h : zSat (fX12_nextToken_j318 s0 M) (fun r => Q none r Z))  : zV zmX12_nextToken nn 0 0 Z 318 [] [zI s0, zR 200] M Q := by
  unfold fX12_nextToken_j318 at h
  refine zV_putI (zq_200 hZ) (by decide) zf_X12_6 zkf_X12_182 rfl dX12_nextToken_318 hs0 ?_
  exact zV_vret dX12_nextToken_321 rfl h
noncomputable def fX12_nextToken_j299 (M : zMem) : Option (zMem) :=
  (if (zw ((M 200 4) - (M 200 5))) ≤ 4 then fX12_nextToken_j318 2 M else fX12_nextToken_j318 4 M)
set_option maxRecDepth 100000 in
set_option maxHeartbeats 4000000 in
theorem fX12_nextToken_j299_ok {Z : zZ} (hZ : zB Z) {nn : Nat} (hn : 1 ≤ nn)   {M : zMem} {Q : Option zAV → zMem → zZ → Prop} (h : zSat (fX12_nextToken_j299 M) (fun r => Q none r Z))  : zV zmX12_nextToken nn 0 0 Z 299 [(0, zR 200)] [] M Q := by
  unfold fX12_nextToken_j299 at h
  refine zV_aload_n 0 dX12_nextToken_299 rfl rfl ?_
  refine zV_aload_n 0 dX12_nextToken_300 rfl rfl ?_
  refine zV_getI (zq_200 hZ) zf_X12_4 zkf_X12_169 rfl dX12_nextToken_301 (fun m47 => ?_)
  refine zV_aload_n 0 dX12_nextToken_304 rfl rfl ?_
  refine zV_getI (zq_200 hZ) zf_X12_5 zkf_X12_172 rfl dX12_nextToken_305 (fun m48 => ?_)
  refine zV_isub dX12_nextToken_308 ?_
  refine zV_iconst (v := 4) dX12_nextToken_309 rfl ?_
  refine zV_w2 ?_
  refine zV_icmp_le 317 dX12_nextToken_310 (by decide) (z32_w _) zi_4 (fun hc_ => ?_) (fun hc_ => ?_)
  · replace h := zs_t h hc_
    refine zV_iconst (v := 2) dX12_nextToken_317 rfl ?_
    refine zV_ls [] rfl ?_
    exact fX12_nextToken_j318_ok hZ hn zi_2 h
  · replace h := zs_f h hc_
    refine zV_iconst (v := 4) dX12_nextToken_313 rfl ?_
    refine zV_goto 318 dX12_nextToken_314 (by decide) ?_
    refine zV_ls [] rfl ?_
    exact fX12_nextToken_j318_ok hZ hn zi_4 h
noncomputable def fX12_nextToken_j212 (x1 : Int) (M : zMem) : Option (zMem) :=
  (if x1 < 48 then fX12_nextToken_j322 x1 M else (if 57 < x1 then fX12_nextToken_j322 x1 M else (zbd (zit (fun s40 => fX12_nextToken_l224  s40) M) fun s45 => fX12_nextToken_j299  s45)))
set_option maxRecDepth 100000 in
set_option maxHeartbeats 4000000 in
theorem fX12_nextToken_j212_ok {Z : zZ} (hZ : zB Z) {nn : Nat} (hn : 1 ≤ nn)  {x1 : Int} (hx1 : z32 x1) {M : zMem} {Q : Option zAV → zMem → zZ → Prop} (h : zSat (fX12_nextToken_j212 x1 M) (fun r => Q none r Z))  : zV zmX12_nextToken nn 0 0 Z 212 [(0, zR 200), (1, zI x1)] [] M Q := by
  unfold fX12_nextToken_j212 at h
  refine zV_iload_n 1 dX12_nextToken_212 rfl rfl ?_
  refine zV_bipush (v := 48) dX12_nextToken_213 rfl ?_
  refine zV_icmp_lt 322 dX12_nextToken_215 (by decide) hx1 zi_48 (fun hc_ => ?_) (fun hc_ => ?_)
  · replace h := zs_t h hc_
    exact fX12_nextToken_j322_ok hZ hn hx1 h
  · replace h := zs_f h hc_
    refine zV_iload_n 1 dX12_nextToken_218 rfl rfl ?_
    refine zV_bipush (v := 57) dX12_nextToken_219 rfl ?_
    refine zV_icmp_gt 322 dX12_nextToken_221 (by decide) hx1 zi_57 (fun hc_ => ?_) (fun hc_ => ?_)
    · replace h := zs_t h hc_
      exact fX12_nextToken_j322_ok hZ hn hx1 h
    · replace h := zs_f h hc_
      refine zV_ls [0] rfl ?_
      refine (zV_loop (Vh := fun s40 : zMem => zV zmX12_nextToken nn 0 0 Z 224 [(0, zR 200)] [] s40 Q) h (fun s40 P41 hP42 hc43 he44 => ?_)) 
      refine fX12_nextToken_l224_ok hZ hn  hP42 hc43 (fun s45 h46  => ?_)
      have h := he44 _ h46
      exact fX12_nextToken_j299_ok hZ hn  h
noncomputable def fX12_nextToken_j175 (M : zMem) : Option ((zMem) ⊕ (zMem)) :=
  some (.inl (zup M 200 4 (zw ((M 200 4) + 1))))
set_option maxRecDepth 100000 in
set_option maxHeartbeats 4000000 in
theorem fX12_nextToken_j175_ok {Z : zZ} (hZ : zB Z) {nn : Nat} (hn : 1 ≤ nn)   {M : zMem} {Q : Option zAV → zMem → zZ → Prop} {P : (zMem) ⊕ (zMem) → Prop} (h : zSat (fX12_nextToken_j175 M) P)  (hc : ∀ s : zMem, P (.inl s) → zV zmX12_nextToken nn 0 0 Z 109 [(0, zR 200)] [] s Q) (he : ∀ s : zMem, P (.inr s) → zV zmX12_nextToken nn 0 0 Z 188 [(0, zR 200)] [] s Q)   : zV zmX12_nextToken nn 0 0 Z 175 [(0, zR 200)] [] M Q := by
  unfold fX12_nextToken_j175 at h
  refine zV_aload_n 0 dX12_nextToken_175 rfl rfl ?_
  refine zV_dup dX12_nextToken_176 rfl ?_
  refine zV_getI (zq_200 hZ) zf_X12_4 zkf_X12_169 rfl dX12_nextToken_177 (fun m61 => ?_)
  refine zV_iconst (v := 1) dX12_nextToken_180 rfl ?_
  refine zV_iadd dX12_nextToken_181 ?_
  refine zV_w ?_
  refine zV_putI (zq_200 hZ) (by decide) zf_X12_4 zkf_X12_169 rfl dX12_nextToken_182 (z32_w _) ?_
  refine zV_goto 109 dX12_nextToken_185 (by decide) ?_
  exact hc _ h 
noncomputable def fX12_nextToken_l109 (M : zMem) : Option ((zMem) ⊕ (zMem)) :=
  (zbd (fX12_signAt (M 200 4) M) fun r50 => (if r50 < 97 then some (.inr M) else (zbd (fX12_signAt (M 200 4) M) fun r55 => (if 122 < r55 then some (.inr M) else (if 8 ≤ (zw ((M 200 4) - (M 200 5))) then fX12_nextToken_j175  M else (zbd (fX12_signAt (M 200 4) M) fun r64 => fX12_nextToken_j175  (zup M 200 7 (zwl ((((M 200 7) * 27) + r64) - 96)))))))))
set_option maxRecDepth 100000 in
set_option maxHeartbeats 4000000 in
theorem fX12_nextToken_l109_ok {Z : zZ} (hZ : zB Z) {nn : Nat} (hn : 1 ≤ nn)   {M : zMem} {Q : Option zAV → zMem → zZ → Prop} {P : (zMem) ⊕ (zMem) → Prop} (h : zSat (fX12_nextToken_l109 M) P)  (hc : ∀ s : zMem, P (.inl s) → zV zmX12_nextToken nn 0 0 Z 109 [(0, zR 200)] [] s Q) (he : ∀ s : zMem, P (.inr s) → zV zmX12_nextToken nn 0 0 Z 188 [(0, zR 200)] [] s Q)   : zV zmX12_nextToken nn 0 0 Z 109 [(0, zR 200)] [] M Q := by
  unfold fX12_nextToken_l109 at h
  refine zV_aload_n 0 dX12_nextToken_109 rfl rfl ?_
  refine zV_aload_n 0 dX12_nextToken_110 rfl rfl ?_
  refine zV_getI (zq_200 hZ) zf_X12_4 zkf_X12_169 rfl dX12_nextToken_111 (fun m49 => ?_)
  refine zV_cVI (y' := zmX12_signAt) (n' := 0) (As := [zI (M 200 4)]) zc_X12_185 (zq_200 hZ) rfl dX12_nextToken_114 (Nat.le_trans (by decide) hn) rfl (Nat.le_of_ble_eq_true rfl) (Nat.le_of_ble_eq_true rfl) rfl h (fun Q' h' => fX12_signAt_ok hZ (Nat.le_refl _) m49 h') (fun r50 c51 b52 h => ?_)
  refine zV_bipush (v := 97) dX12_nextToken_117 rfl ?_
  refine zV_icmp_lt 188 dX12_nextToken_119 (by decide) c51 zi_97 (fun hc_ => ?_) (fun hc_ => ?_)
  · replace h := zs_t h hc_
    exact he _ h 
  · replace h := zs_f h hc_
    refine zV_aload_n 0 dX12_nextToken_122 rfl rfl ?_
    refine zV_aload_n 0 dX12_nextToken_123 rfl rfl ?_
    refine zV_getI (zq_200 hZ) zf_X12_4 zkf_X12_169 rfl dX12_nextToken_124 (fun m54 => ?_)
    refine zV_cVI (y' := zmX12_signAt) (n' := 0) (As := [zI (M 200 4)]) zc_X12_185 (zq_200 hZ) rfl dX12_nextToken_127 (Nat.le_trans (by decide) hn) rfl (Nat.le_of_ble_eq_true rfl) (Nat.le_of_ble_eq_true rfl) rfl h (fun Q' h' => fX12_signAt_ok hZ (Nat.le_refl _) m54 h') (fun r55 c56 b57 h => ?_)
    refine zV_bipush (v := 122) dX12_nextToken_130 rfl ?_
    refine zV_icmp_gt 188 dX12_nextToken_132 (by decide) c56 zi_122 (fun hc_ => ?_) (fun hc_ => ?_)
    · replace h := zs_t h hc_
      exact he _ h 
    · replace h := zs_f h hc_
      refine zV_aload_n 0 dX12_nextToken_135 rfl rfl ?_
      refine zV_getI (zq_200 hZ) zf_X12_4 zkf_X12_169 rfl dX12_nextToken_136 (fun m59 => ?_)
      refine zV_aload_n 0 dX12_nextToken_139 rfl rfl ?_
      refine zV_getI (zq_200 hZ) zf_X12_5 zkf_X12_172 rfl dX12_nextToken_140 (fun m60 => ?_)
      refine zV_isub dX12_nextToken_143 ?_
      refine zV_bipush (v := 8) dX12_nextToken_144 rfl ?_
      refine zV_w2 ?_
      refine zV_icmp_ge 175 dX12_nextToken_146 (by decide) (z32_w _) zi_8 (fun hc_ => ?_) (fun hc_ => ?_)
      · replace h := zs_t h hc_
        exact fX12_nextToken_j175_ok hZ hn  h hc he
      · replace h := zs_f h hc_
        refine zV_aload_n 0 dX12_nextToken_149 rfl rfl ?_
        refine zV_aload_n 0 dX12_nextToken_150 rfl rfl ?_
        refine zV_getL (zq_200 hZ) zf_X12_7 zkf_X12_175 rfl dX12_nextToken_151 (fun m62 => ?_)
        refine zV_ldc2 (v := 27) zkl_X12_188 rfl dX12_nextToken_154 ?_
        refine zV_lmul dX12_nextToken_157 ?_
        refine zV_aload_n 0 dX12_nextToken_158 rfl rfl ?_
        refine zV_aload_n 0 dX12_nextToken_159 rfl rfl ?_
        refine zV_getI (zq_200 hZ) zf_X12_4 zkf_X12_169 rfl dX12_nextToken_160 (fun m63 => ?_)
        refine zV_cVI (y' := zmX12_signAt) (n' := 0) (As := [zI (M 200 4)]) zc_X12_185 (zq_200 hZ) rfl dX12_nextToken_163 (Nat.le_trans (by decide) hn) rfl (Nat.le_of_ble_eq_true rfl) (Nat.le_of_ble_eq_true rfl) rfl h (fun Q' h' => fX12_signAt_ok hZ (Nat.le_refl _) m63 h') (fun r64 c65 b66 h => ?_)
        refine zV_i2l dX12_nextToken_166 c65 ?_
        refine zV_ladd dX12_nextToken_167 ?_
        refine zV_ldc2 (v := 96) zkl_X12_190 rfl dX12_nextToken_168 ?_
        refine zV_lsub dX12_nextToken_171 ?_
        refine zV_wl ?_
        refine zV_putL (zq_200 hZ) (by decide) zf_X12_7 zkf_X12_175 rfl dX12_nextToken_172 (z64_w _) ?_
        exact fX12_nextToken_j175_ok hZ hn  h hc he
noncomputable def fX12_nextToken_j208 (s0 : Int) (M : zMem) : Option (zMem) :=
  some (zup M 200 6 s0)
set_option maxRecDepth 100000 in
set_option maxHeartbeats 4000000 in
theorem fX12_nextToken_j208_ok {Z : zZ} (hZ : zB Z) {nn : Nat} (hn : 1 ≤ nn)  {s0 : Int} (hs0 : z32 s0) {M : zMem} {Q : Option zAV → zMem → zZ → Prop} (h : zSat (fX12_nextToken_j208 s0 M) (fun r => Q none r Z))  : zV zmX12_nextToken nn 0 0 Z 208 [] [zI s0, zR 200] M Q := by
  unfold fX12_nextToken_j208 at h
  refine zV_putI (zq_200 hZ) (by decide) zf_X12_6 zkf_X12_182 rfl dX12_nextToken_208 hs0 ?_
  exact zV_vret dX12_nextToken_211 rfl h
noncomputable def fX12_nextToken_j188 (M : zMem) : Option (zMem) :=
  (if (zw ((M 200 4) - (M 200 5))) ≤ 8 then fX12_nextToken_j208 1 M else fX12_nextToken_j208 4 M)
set_option maxRecDepth 100000 in
set_option maxHeartbeats 4000000 in
theorem fX12_nextToken_j188_ok {Z : zZ} (hZ : zB Z) {nn : Nat} (hn : 1 ≤ nn)   {M : zMem} {Q : Option zAV → zMem → zZ → Prop} (h : zSat (fX12_nextToken_j188 M) (fun r => Q none r Z))  : zV zmX12_nextToken nn 0 0 Z 188 [(0, zR 200)] [] M Q := by
  unfold fX12_nextToken_j188 at h
  refine zV_aload_n 0 dX12_nextToken_188 rfl rfl ?_
  refine zV_aload_n 0 dX12_nextToken_189 rfl rfl ?_
  refine zV_getI (zq_200 hZ) zf_X12_4 zkf_X12_169 rfl dX12_nextToken_190 (fun m75 => ?_)
  refine zV_aload_n 0 dX12_nextToken_193 rfl rfl ?_
  refine zV_getI (zq_200 hZ) zf_X12_5 zkf_X12_172 rfl dX12_nextToken_194 (fun m76 => ?_)
  refine zV_isub dX12_nextToken_197 ?_
  refine zV_bipush (v := 8) dX12_nextToken_198 rfl ?_
  refine zV_w2 ?_
  refine zV_icmp_le 207 dX12_nextToken_200 (by decide) (z32_w _) zi_8 (fun hc_ => ?_) (fun hc_ => ?_)
  · replace h := zs_t h hc_
    refine zV_iconst (v := 1) dX12_nextToken_207 rfl ?_
    refine zV_ls [] rfl ?_
    exact fX12_nextToken_j208_ok hZ hn zi_1 h
  · replace h := zs_f h hc_
    refine zV_iconst (v := 4) dX12_nextToken_203 rfl ?_
    refine zV_goto 208 dX12_nextToken_204 (by decide) ?_
    refine zV_ls [] rfl ?_
    exact fX12_nextToken_j208_ok hZ hn zi_4 h
noncomputable def fX12_nextToken_j52 (M : zMem) : Option (zMem) :=
  (if ((zup (zup (zup M 200 5 (M 200 4)) 200 7 0) 200 8 0) 200 4) = ((zup (zup (zup M 200 5 (M 200 4)) 200 7 0) 200 8 0) 200 3) then some (zup (zup (zup (zup M 200 5 (M 200 4)) 200 7 0) 200 8 0) 200 6 0) else (zgd ((0 : Int) ≤ ((zup (zup (zup M 200 5 (M 200 4)) 200 7 0) 200 8 0) 200 4) ∧ ((zup (zup (zup M 200 5 (M 200 4)) 200 7 0) 200 8 0) 200 4) < 1000) (if ((zup (zup (zup M 200 5 (M 200 4)) 200 7 0) 200 8 0) 203 ((zup (zup (zup M 200 5 (M 200 4)) 200 7 0) 200 8 0) 200 4)) < 97 then fX12_nextToken_j212 ((zup (zup (zup M 200 5 (M 200 4)) 200 7 0) 200 8 0) 203 ((zup (zup (zup M 200 5 (M 200 4)) 200 7 0) 200 8 0) 200 4)) (zup (zup (zup M 200 5 (M 200 4)) 200 7 0) 200 8 0) else (if 122 < ((zup (zup (zup M 200 5 (M 200 4)) 200 7 0) 200 8 0) 203 ((zup (zup (zup M 200 5 (M 200 4)) 200 7 0) 200 8 0) 200 4)) then fX12_nextToken_j212 ((zup (zup (zup M 200 5 (M 200 4)) 200 7 0) 200 8 0) 203 ((zup (zup (zup M 200 5 (M 200 4)) 200 7 0) 200 8 0) 200 4)) (zup (zup (zup M 200 5 (M 200 4)) 200 7 0) 200 8 0) else (zbd (zit (fun s68 => fX12_nextToken_l109  s68) (zup (zup (zup M 200 5 (M 200 4)) 200 7 0) 200 8 0)) fun s73 => fX12_nextToken_j188  s73)))))
set_option maxRecDepth 100000 in
set_option maxHeartbeats 4000000 in
theorem fX12_nextToken_j52_ok {Z : zZ} (hZ : zB Z) {nn : Nat} (hn : 1 ≤ nn)   {M : zMem} {Q : Option zAV → zMem → zZ → Prop} (h : zSat (fX12_nextToken_j52 M) (fun r => Q none r Z))  : zV zmX12_nextToken nn 0 0 Z 52 [(0, zR 200)] [] M Q := by
  unfold fX12_nextToken_j52 at h
  refine zV_aload_n 0 dX12_nextToken_52 rfl rfl ?_
  refine zV_aload_n 0 dX12_nextToken_53 rfl rfl ?_
  refine zV_getI (zq_200 hZ) zf_X12_4 zkf_X12_169 rfl dX12_nextToken_54 (fun m15 => ?_)
  refine zV_putI (zq_200 hZ) (by decide) zf_X12_5 zkf_X12_172 rfl dX12_nextToken_57 m15 ?_
  refine zV_aload_n 0 dX12_nextToken_60 rfl rfl ?_
  refine zV_lconst (v := 0) dX12_nextToken_61 rfl ?_
  refine zV_putL (zq_200 hZ) (by decide) zf_X12_7 zkf_X12_175 rfl dX12_nextToken_62 zj_0 ?_
  refine zV_aload_n 0 dX12_nextToken_65 rfl rfl ?_
  refine zV_iconst (v := 0) dX12_nextToken_66 rfl ?_
  refine zV_putI (zq_200 hZ) (by decide) zf_X12_8 zkf_X12_179 rfl dX12_nextToken_67 zi_0 ?_
  refine zV_aload_n 0 dX12_nextToken_70 rfl rfl ?_
  refine zV_getI (zq_200 hZ) zf_X12_4 zkf_X12_169 rfl dX12_nextToken_71 (fun m16 => ?_)
  refine zV_aload_n 0 dX12_nextToken_74 rfl rfl ?_
  refine zV_getI (zq_200 hZ) zf_X12_3 zkf_X12_166 rfl dX12_nextToken_75 (fun m17 => ?_)
  refine zV_icmp_ne 87 dX12_nextToken_78 (by decide) m16 m17 (fun hc_ => ?_) (fun hc_ => ?_)
  · replace h := zs_f h hc_
    refine zV_aload_n 0 dX12_nextToken_87 rfl rfl ?_
    refine zV_getR (j := 203) (zq_200 hZ) zf_X12_2 zkf_X12_7 rfl dX12_nextToken_88 ?_
    refine zV_aload_n 0 dX12_nextToken_91 rfl rfl ?_
    refine zV_getI (zq_200 hZ) zf_X12_4 zkf_X12_169 rfl dX12_nextToken_92 (fun m18 => ?_)
    obtain ⟨hg, h⟩ := zs_gd h
    refine zV_iald (zq_203 hZ) hg dX12_nextToken_95 (fun m19 => ?_)
    refine zV_istore_n [(1, zI ((zup (zup (zup M 200 5 (M 200 4)) 200 7 0) 200 8 0) 203 ((zup (zup (zup M 200 5 (M 200 4)) 200 7 0) 200 8 0) 200 4))), (0, zR 200)] dX12_nextToken_96 rfl (by decide) rfl ?_
    refine zV_iload_n 0 dX12_nextToken_97 rfl rfl ?_
    refine zV_bipush (v := 97) dX12_nextToken_98 rfl ?_
    refine zV_icmp_lt 212 dX12_nextToken_100 (by decide) m19 zi_97 (fun hc_ => ?_) (fun hc_ => ?_)
    · replace h := zs_t h hc_
      refine zV_ls [1, 0] rfl ?_
      exact fX12_nextToken_j212_ok hZ hn m19 h
    · replace h := zs_f h hc_
      refine zV_iload_n 0 dX12_nextToken_103 rfl rfl ?_
      refine zV_bipush (v := 122) dX12_nextToken_104 rfl ?_
      refine zV_icmp_gt 212 dX12_nextToken_106 (by decide) m19 zi_122 (fun hc_ => ?_) (fun hc_ => ?_)
      · replace h := zs_t h hc_
        refine zV_ls [1, 0] rfl ?_
        exact fX12_nextToken_j212_ok hZ hn m19 h
      · replace h := zs_f h hc_
        refine zV_ls [1] rfl ?_
        refine (zV_loop (Vh := fun s68 : zMem => zV zmX12_nextToken nn 0 0 Z 109 [(0, zR 200)] [] s68 Q) h (fun s68 P69 hP70 hc71 he72 => ?_)) 
        refine fX12_nextToken_l109_ok hZ hn  hP70 hc71 (fun s73 h74  => ?_)
        have h := he72 _ h74
        exact fX12_nextToken_j188_ok hZ hn  h
  · replace h := zs_t h hc_
    refine zV_aload_n 0 dX12_nextToken_81 rfl rfl ?_
    refine zV_iconst (v := 0) dX12_nextToken_82 rfl ?_
    refine zV_putI (zq_200 hZ) (by decide) zf_X12_6 zkf_X12_182 rfl dX12_nextToken_83 zi_0 ?_
    exact zV_vret dX12_nextToken_86 rfl h
noncomputable def fX12_nextToken (M : zMem) : Option (zMem) :=
  (zbd (zit (fun s8 => fX12_nextToken_l0  s8) M) fun s13 => fX12_nextToken_j52  s13)
set_option maxRecDepth 100000 in
set_option maxHeartbeats 4000000 in
theorem fX12_nextToken_ok {Z : zZ} (hZ : zB Z) {nn : Nat} (hn : 1 ≤ nn)   {M : zMem} {Q : Option zAV → zMem → zZ → Prop} (h : zSat (fX12_nextToken M) (fun r => Q none r Z))  : zV zmX12_nextToken nn 0 0 Z 0 [(0, zR 200)] [] M Q := by
  unfold fX12_nextToken at h
  refine (zV_loop (Vh := fun s8 : zMem => zV zmX12_nextToken nn 0 0 Z 0 [(0, zR 200)] [] s8 Q) h (fun s8 P9 hP10 hc11 he12 => ?_)) 
  refine fX12_nextToken_l0_ok hZ hn  hP10 hc11 (fun s13 h14  => ?_)
  have h := he12 _ h14
  exact fX12_nextToken_j52_ok hZ hn  h
noncomputable def fX12_isWord (x1 : Int) (M : zMem) : Option (Int) :=
  (if (M 200 6) = 1 then (if (M 200 7) = x1 then some 1 else some 0) else some 0)
set_option maxRecDepth 100000 in
set_option maxHeartbeats 4000000 in
theorem fX12_isWord_ok {Z : zZ} (hZ : zB Z) {nn : Nat} (hn : 0 ≤ nn)  {x1 : Int} (hx1 : z64 x1) {M : zMem} {Q : Option zAV → zMem → zZ → Prop} (h : zSat (fX12_isWord x1 M) (fun r => Q (some (zI r)) M Z))  : zV zmX12_isWord nn 0 0 Z 0 [(0, zR 200), (1, zL x1)] [] M Q := by
  unfold fX12_isWord at h
  refine zV_aload_n 0 dX12_isWord_0 rfl rfl ?_
  refine zV_getI (zq_200 hZ) zf_X12_6 zkf_X12_182 rfl dX12_isWord_1 (fun m1 => ?_)
  refine zV_iconst (v := 1) dX12_isWord_4 rfl ?_
  refine zV_icmp_ne 21 dX12_isWord_5 (by decide) m1 zi_1 (fun hc_ => ?_) (fun hc_ => ?_)
  · replace h := zs_f h hc_
    refine zV_iconst (v := 0) dX12_isWord_21 rfl ?_
    exact zV_iretb dX12_isWord_22 rfl (Or.inl rfl) h
  · replace h := zs_t h hc_
    refine zV_aload_n 0 dX12_isWord_8 rfl rfl ?_
    refine zV_getL (zq_200 hZ) zf_X12_7 zkf_X12_175 rfl dX12_isWord_9 (fun m2 => ?_)
    refine zV_lload_n 1 dX12_isWord_12 rfl rfl ?_
    refine zV_lcmp dX12_isWord_13 m2 hx1 ?_
    refine zV_lifne 21 dX12_isWord_14 (by decide) (fun hc_ => ?_) (fun hc_ => ?_)
    · replace h := zs_f h hc_
      refine zV_iconst (v := 0) dX12_isWord_21 rfl ?_
      exact zV_iretb dX12_isWord_22 rfl (Or.inl rfl) h
    · replace h := zs_t h hc_
      refine zV_iconst (v := 1) dX12_isWord_17 rfl ?_
      refine zV_goto 22 dX12_isWord_18 (by decide) ?_
      exact zV_iretb dX12_isWord_22 rfl (Or.inr rfl) h
noncomputable def fX12_isSign (x1 : Int) (M : zMem) : Option (Int) :=
  (if (M 200 6) = 3 then (zgd ((0 : Int) ≤ (M 200 5) ∧ (M 200 5) < 1000) (if (M 203 (M 200 5)) = x1 then some 1 else some 0)) else some 0)
set_option maxRecDepth 100000 in
set_option maxHeartbeats 4000000 in
theorem fX12_isSign_ok {Z : zZ} (hZ : zB Z) {nn : Nat} (hn : 0 ≤ nn)  {x1 : Int} (hx1 : z32 x1) {M : zMem} {Q : Option zAV → zMem → zZ → Prop} (h : zSat (fX12_isSign x1 M) (fun r => Q (some (zI r)) M Z))  : zV zmX12_isSign nn 0 0 Z 0 [(0, zR 200), (1, zI x1)] [] M Q := by
  unfold fX12_isSign at h
  refine zV_aload_n 0 dX12_isSign_0 rfl rfl ?_
  refine zV_getI (zq_200 hZ) zf_X12_6 zkf_X12_182 rfl dX12_isSign_1 (fun m1 => ?_)
  refine zV_iconst (v := 3) dX12_isSign_4 rfl ?_
  refine zV_icmp_ne 25 dX12_isSign_5 (by decide) m1 zi_3 (fun hc_ => ?_) (fun hc_ => ?_)
  · replace h := zs_f h hc_
    refine zV_iconst (v := 0) dX12_isSign_25 rfl ?_
    exact zV_iretb dX12_isSign_26 rfl (Or.inl rfl) h
  · replace h := zs_t h hc_
    refine zV_aload_n 0 dX12_isSign_8 rfl rfl ?_
    refine zV_getR (j := 203) (zq_200 hZ) zf_X12_2 zkf_X12_7 rfl dX12_isSign_9 ?_
    refine zV_aload_n 0 dX12_isSign_12 rfl rfl ?_
    refine zV_getI (zq_200 hZ) zf_X12_5 zkf_X12_172 rfl dX12_isSign_13 (fun m2 => ?_)
    obtain ⟨hg, h⟩ := zs_gd h
    refine zV_iald (zq_203 hZ) hg dX12_isSign_16 (fun m3 => ?_)
    refine zV_iload_n 1 dX12_isSign_17 rfl rfl ?_
    refine zV_icmp_ne 25 dX12_isSign_18 (by decide) m3 hx1 (fun hc_ => ?_) (fun hc_ => ?_)
    · replace h := zs_f h hc_
      refine zV_iconst (v := 0) dX12_isSign_25 rfl ?_
      exact zV_iretb dX12_isSign_26 rfl (Or.inl rfl) h
    · replace h := zs_t h hc_
      refine zV_iconst (v := 1) dX12_isSign_21 rfl ?_
      refine zV_goto 26 dX12_isSign_22 (by decide) ?_
      exact zV_iretb dX12_isSign_26 rfl (Or.inr rfl) h
noncomputable def fX12_fails (x1 : Int) (M : zMem) : Option (Int × zMem) :=
  some (0, (zup M 200 9 (zw (x1 + (16 * (M 200 5))))))
set_option maxRecDepth 100000 in
set_option maxHeartbeats 4000000 in
theorem fX12_fails_ok {Z : zZ} (hZ : zB Z) {nn : Nat} (hn : 0 ≤ nn)  {x1 : Int} (hx1 : z32 x1) {M : zMem} {Q : Option zAV → zMem → zZ → Prop} (h : zSat (fX12_fails x1 M) (fun r => Q (some (zI r.1)) r.2 Z))  : zV zmX12_fails nn 0 0 Z 0 [(0, zR 200), (1, zI x1)] [] M Q := by
  unfold fX12_fails at h
  refine zV_aload_n 0 dX12_fails_0 rfl rfl ?_
  refine zV_iload_n 1 dX12_fails_1 rfl rfl ?_
  refine zV_bipush (v := 16) dX12_fails_2 rfl ?_
  refine zV_aload_n 0 dX12_fails_4 rfl rfl ?_
  refine zV_getI (zq_200 hZ) zf_X12_5 zkf_X12_172 rfl dX12_fails_5 (fun m1 => ?_)
  refine zV_imul dX12_fails_8 ?_
  refine zV_iadd dX12_fails_9 ?_
  refine zV_w ?_
  refine zV_putI (zq_200 hZ) (by decide) zf_X12_9 zkf_X12_192 rfl dX12_fails_10 (z32_w _) ?_
  refine zV_iconst (v := 0) dX12_fails_13 rfl ?_
  exact zV_iretb dX12_fails_14 rfl (Or.inl rfl) h
noncomputable def fX12_puts (x1 : Int) (M : zMem) : Option (zMem) :=
  (zgd ((0 : Int) ≤ (M 200 29) ∧ (M 200 29) < 6000) (some (zup (zup M 229 (M 200 29) x1) 200 29 (zw (((zup M 229 (M 200 29) x1) 200 29) + 1)))))
set_option maxRecDepth 100000 in
set_option maxHeartbeats 4000000 in
theorem fX12_puts_ok {Z : zZ} (hZ : zB Z) {nn : Nat} (hn : 0 ≤ nn)  {x1 : Int} (hx1 : z32 x1) {M : zMem} {Q : Option zAV → zMem → zZ → Prop} (h : zSat (fX12_puts x1 M) (fun r => Q none r Z))  : zV zmX12_puts nn 0 0 Z 0 [(0, zR 200), (1, zI x1)] [] M Q := by
  unfold fX12_puts at h
  refine zV_aload_n 0 dX12_puts_0 rfl rfl ?_
  refine zV_getR (j := 229) (zq_200 hZ) zf_X12_28 zkf_X12_69 rfl dX12_puts_1 ?_
  refine zV_aload_n 0 dX12_puts_4 rfl rfl ?_
  refine zV_getI (zq_200 hZ) zf_X12_29 zkf_X12_195 rfl dX12_puts_5 (fun m1 => ?_)
  refine zV_iload_n 1 dX12_puts_8 rfl rfl ?_
  obtain ⟨hg, h⟩ := zs_gd h
  refine zV_iast (zq_229 hZ) (by decide) hg hx1 dX12_puts_9 ?_
  refine zV_aload_n 0 dX12_puts_10 rfl rfl ?_
  refine zV_dup dX12_puts_11 rfl ?_
  refine zV_getI (zq_200 hZ) zf_X12_29 zkf_X12_195 rfl dX12_puts_12 (fun m2 => ?_)
  refine zV_iconst (v := 1) dX12_puts_15 rfl ?_
  refine zV_iadd dX12_puts_16 ?_
  refine zV_w ?_
  refine zV_putI (zq_200 hZ) (by decide) zf_X12_29 zkf_X12_195 rfl dX12_puts_17 (z32_w _) ?_
  exact zV_vret dX12_puts_20 rfl h
noncomputable def fX12_fact (M : zMem) : Option (Int) :=
  (if (M 200 6) = 1 then (if (M 200 7) = 10416091 then some 1 else (if (M 200 7) = 8861527 then some 2 else (if (M 200 7) = 161156 then some 3 else (if (M 200 7) = 10939463 then some 4 else (if (M 200 7) = 453774 then some 5 else some 0))))) else some 0)
set_option maxRecDepth 100000 in
set_option maxHeartbeats 4000000 in
theorem fX12_fact_ok {Z : zZ} (hZ : zB Z) {nn : Nat} (hn : 0 ≤ nn)   {M : zMem} {Q : Option zAV → zMem → zZ → Prop} (h : zSat (fX12_fact M) (fun r => Q (some (zI r)) M Z))  : zV zmX12_fact nn 0 0 Z 0 [(0, zR 200)] [] M Q := by
  unfold fX12_fact at h
  refine zV_aload_n 0 dX12_fact_0 rfl rfl ?_
  refine zV_getI (zq_200 hZ) zf_X12_6 zkf_X12_182 rfl dX12_fact_1 (fun m1 => ?_)
  refine zV_iconst (v := 1) dX12_fact_4 rfl ?_
  refine zV_icmp_eq 10 dX12_fact_5 (by decide) m1 zi_1 (fun hc_ => ?_) (fun hc_ => ?_)
  · replace h := zs_t h hc_
    refine zV_aload_n 0 dX12_fact_10 rfl rfl ?_
    refine zV_getL (zq_200 hZ) zf_X12_7 zkf_X12_175 rfl dX12_fact_11 (fun m2 => ?_)
    refine zV_ldc2 (v := 10416091) zkl_X12_198 rfl dX12_fact_14 ?_
    refine zV_lcmp dX12_fact_17 m2 zj_10416091 ?_
    refine zV_lifne 23 dX12_fact_18 (by decide) (fun hc_ => ?_) (fun hc_ => ?_)
    · replace h := zs_f h hc_
      refine zV_aload_n 0 dX12_fact_23 rfl rfl ?_
      refine zV_getL (zq_200 hZ) zf_X12_7 zkf_X12_175 rfl dX12_fact_24 (fun m3 => ?_)
      refine zV_ldc2 (v := 8861527) zkl_X12_200 rfl dX12_fact_27 ?_
      refine zV_lcmp dX12_fact_30 m3 zj_8861527 ?_
      refine zV_lifne 36 dX12_fact_31 (by decide) (fun hc_ => ?_) (fun hc_ => ?_)
      · replace h := zs_f h hc_
        refine zV_aload_n 0 dX12_fact_36 rfl rfl ?_
        refine zV_getL (zq_200 hZ) zf_X12_7 zkf_X12_175 rfl dX12_fact_37 (fun m4 => ?_)
        refine zV_ldc2 (v := 161156) zkl_X12_202 rfl dX12_fact_40 ?_
        refine zV_lcmp dX12_fact_43 m4 zj_161156 ?_
        refine zV_lifne 49 dX12_fact_44 (by decide) (fun hc_ => ?_) (fun hc_ => ?_)
        · replace h := zs_f h hc_
          refine zV_aload_n 0 dX12_fact_49 rfl rfl ?_
          refine zV_getL (zq_200 hZ) zf_X12_7 zkf_X12_175 rfl dX12_fact_50 (fun m5 => ?_)
          refine zV_ldc2 (v := 10939463) zkl_X12_204 rfl dX12_fact_53 ?_
          refine zV_lcmp dX12_fact_56 m5 zj_10939463 ?_
          refine zV_lifne 62 dX12_fact_57 (by decide) (fun hc_ => ?_) (fun hc_ => ?_)
          · replace h := zs_f h hc_
            refine zV_aload_n 0 dX12_fact_62 rfl rfl ?_
            refine zV_getL (zq_200 hZ) zf_X12_7 zkf_X12_175 rfl dX12_fact_63 (fun m6 => ?_)
            refine zV_ldc2 (v := 453774) zkl_X12_206 rfl dX12_fact_66 ?_
            refine zV_lcmp dX12_fact_69 m6 zj_453774 ?_
            refine zV_lifne 75 dX12_fact_70 (by decide) (fun hc_ => ?_) (fun hc_ => ?_)
            · replace h := zs_f h hc_
              refine zV_iconst (v := 0) dX12_fact_75 rfl ?_
              exact zV_ireti dX12_fact_76 rfl zi_0 h
            · replace h := zs_t h hc_
              refine zV_iconst (v := 5) dX12_fact_73 rfl ?_
              exact zV_ireti dX12_fact_74 rfl zi_5 h
          · replace h := zs_t h hc_
            refine zV_iconst (v := 4) dX12_fact_60 rfl ?_
            exact zV_ireti dX12_fact_61 rfl zi_4 h
        · replace h := zs_t h hc_
          refine zV_iconst (v := 3) dX12_fact_47 rfl ?_
          exact zV_ireti dX12_fact_48 rfl zi_3 h
      · replace h := zs_t h hc_
        refine zV_iconst (v := 2) dX12_fact_34 rfl ?_
        exact zV_ireti dX12_fact_35 rfl zi_2 h
    · replace h := zs_t h hc_
      refine zV_iconst (v := 1) dX12_fact_21 rfl ?_
      exact zV_ireti dX12_fact_22 rfl zi_1 h
  · replace h := zs_f h hc_
    refine zV_iconst (v := 0) dX12_fact_8 rfl ?_
    exact zV_ireti dX12_fact_9 rfl zi_0 h
noncomputable def fX12_reads_j424 (x1 x2 : Int) (M : zMem) : Option ((Int × Int × zMem) ⊕ ((Int × Int × zMem) ⊕ (Int × zMem))) :=
  (zbd (fX12_nextToken M) fun M20 => some (.inl (x1, x2, M20)))
set_option maxRecDepth 100000 in
set_option maxHeartbeats 4000000 in
theorem fX12_reads_j424_ok {Z : zZ} (hZ : zB Z) {nn : Nat} (hn : 2 ≤ nn)  {x1 x2 : Int} (hx1 : z32 x1) (hx2 : z32 x2) {M : zMem} {Q : Option zAV → zMem → zZ → Prop} {P : (Int × Int × zMem) ⊕ ((Int × Int × zMem) ⊕ (Int × zMem)) → Prop} (h : zSat (fX12_reads_j424 x1 x2 M) P)  (hc : ∀ s : Int × Int × zMem, P (.inl s) → z32 (s.1) → z32 (s.2.1) → zV zmX12_reads nn 0 0 Z 11 [(0, zR 200), (1, zI (s.1)), (2, zI (s.2.1))] [] (s.2.2) Q)  (hr : ∀ r : Int × zMem, P (.inr (.inr r)) → (fun r => Q (some (zI r.1)) r.2 Z) r)  : zV zmX12_reads nn 0 0 Z 424 [(0, zR 200), (1, zI x1), (2, zI x2)] [] M Q := by
  unfold fX12_reads_j424 at h
  refine zV_aload_n 0 dX12_reads_424 rfl rfl ?_
  refine zV_cVV (y' := zmX12_nextToken) (n' := 1) (As := []) zc_X12_229 (zq_200 hZ) rfl dX12_reads_425 (Nat.le_trans (by decide) hn) rfl (Nat.le_of_ble_eq_true rfl) (Nat.le_of_ble_eq_true rfl) rfl h (fun Q' h' => fX12_nextToken_ok hZ (Nat.le_refl _)  h') (fun M20 h => ?_)
  refine zV_goto 11 dX12_reads_428 (by decide) ?_
  exact hc _ h hx1 hx2
noncomputable def fX12_reads_j237 (x1 x2 s0 : Int) (M : zMem) : Option ((Int × Int × zMem) ⊕ ((Int × Int × zMem) ⊕ (Int × zMem))) :=
  (zbd (fX12_puts s0 M) fun M16 => fX12_reads_j424 x1 1 M16)
set_option maxRecDepth 100000 in
set_option maxHeartbeats 4000000 in
theorem fX12_reads_j237_ok {Z : zZ} (hZ : zB Z) {nn : Nat} (hn : 2 ≤ nn)  {x1 x2 s0 : Int} (hx1 : z32 x1) (hx2 : z32 x2) (hs0 : z32 s0) {M : zMem} {Q : Option zAV → zMem → zZ → Prop} {P : (Int × Int × zMem) ⊕ ((Int × Int × zMem) ⊕ (Int × zMem)) → Prop} (h : zSat (fX12_reads_j237 x1 x2 s0 M) P)  (hc : ∀ s : Int × Int × zMem, P (.inl s) → z32 (s.1) → z32 (s.2.1) → zV zmX12_reads nn 0 0 Z 11 [(0, zR 200), (1, zI (s.1)), (2, zI (s.2.1))] [] (s.2.2) Q)  (hr : ∀ r : Int × zMem, P (.inr (.inr r)) → (fun r => Q (some (zI r.1)) r.2 Z) r)  : zV zmX12_reads nn 0 0 Z 237 [(0, zR 200), (1, zI x1), (2, zI x2)] [zI s0, zR 200] M Q := by
  unfold fX12_reads_j237 at h
  refine zV_cVV (y' := zmX12_puts) (n' := 0) (As := [zI s0]) zc_X12_225 (zq_200 hZ) rfl dX12_reads_237 (Nat.le_trans (by decide) hn) rfl (Nat.le_of_ble_eq_true rfl) (Nat.le_of_ble_eq_true rfl) rfl h (fun Q' h' => fX12_puts_ok hZ (Nat.le_refl _) hs0 h') (fun M16 h => ?_)
  refine zV_iconst (v := 1) dX12_reads_240 rfl ?_
  refine zV_istore_n [(2, zI 1), (0, zR 200), (1, zI x1)] dX12_reads_241 rfl (by decide) rfl ?_
  refine zV_goto 424 dX12_reads_242 (by decide) ?_
  refine zV_ls [1, 2, 0] rfl ?_
  exact fX12_reads_j424_ok hZ hn hx1 zi_1 h hc hr
noncomputable def fX12_reads_j206 (x1 x2 : Int) (M : zMem) : Option ((Int × Int × zMem) ⊕ ((Int × Int × zMem) ⊕ (Int × zMem))) :=
  (zbd (fX12_isSign 43 M) fun r5 => (if r5 = 0 then (zbd (fX12_isSign 45 M) fun r9 => (if r9 = 0 then fX12_reads_j237 x1 x2 22 M else fX12_reads_j237 x1 x2 21 M)) else fX12_reads_j237 x1 x2 20 M))
set_option maxRecDepth 100000 in
set_option maxHeartbeats 4000000 in
theorem fX12_reads_j206_ok {Z : zZ} (hZ : zB Z) {nn : Nat} (hn : 2 ≤ nn)  {x1 x2 : Int} (hx1 : z32 x1) (hx2 : z32 x2) {M : zMem} {Q : Option zAV → zMem → zZ → Prop} {P : (Int × Int × zMem) ⊕ ((Int × Int × zMem) ⊕ (Int × zMem)) → Prop} (h : zSat (fX12_reads_j206 x1 x2 M) P)  (hc : ∀ s : Int × Int × zMem, P (.inl s) → z32 (s.1) → z32 (s.2.1) → zV zmX12_reads nn 0 0 Z 11 [(0, zR 200), (1, zI (s.1)), (2, zI (s.2.1))] [] (s.2.2) Q)  (hr : ∀ r : Int × zMem, P (.inr (.inr r)) → (fun r => Q (some (zI r.1)) r.2 Z) r)  : zV zmX12_reads nn 0 0 Z 206 [(0, zR 200), (1, zI x1), (2, zI x2)] [] M Q := by
  unfold fX12_reads_j206 at h
  refine zV_aload_n 0 dX12_reads_206 rfl rfl ?_
  refine zV_aload_n 0 dX12_reads_207 rfl rfl ?_
  refine zV_bipush (v := 43) dX12_reads_208 rfl ?_
  refine zV_cVI (y' := zmX12_isSign) (n' := 0) (As := [zI 43]) zc_X12_218 (zq_200 hZ) rfl dX12_reads_210 (Nat.le_trans (by decide) hn) rfl (Nat.le_of_ble_eq_true rfl) (Nat.le_of_ble_eq_true rfl) rfl h (fun Q' h' => fX12_isSign_ok hZ (Nat.le_refl _) zi_43 h') (fun r5 c6 b7 h => ?_)
  refine zV_if_eq 221 dX12_reads_213 (by decide) c6 (fun hc_ => ?_) (fun hc_ => ?_)
  · replace h := zs_t h hc_
    refine zV_aload_n 0 dX12_reads_221 rfl rfl ?_
    refine zV_bipush (v := 45) dX12_reads_222 rfl ?_
    refine zV_cVI (y' := zmX12_isSign) (n' := 0) (As := [zI 45]) zc_X12_218 (zq_200 hZ) rfl dX12_reads_224 (Nat.le_trans (by decide) hn) rfl (Nat.le_of_ble_eq_true rfl) (Nat.le_of_ble_eq_true rfl) rfl h (fun Q' h' => fX12_isSign_ok hZ (Nat.le_refl _) zi_45 h') (fun r9 c10 b11 h => ?_)
    refine zV_if_eq 235 dX12_reads_227 (by decide) c10 (fun hc_ => ?_) (fun hc_ => ?_)
    · replace h := zs_t h hc_
      refine zV_bipush (v := 22) dX12_reads_235 rfl ?_
      exact fX12_reads_j237_ok hZ hn hx1 hx2 zi_22 h hc hr
    · replace h := zs_f h hc_
      refine zV_bipush (v := 21) dX12_reads_230 rfl ?_
      refine zV_goto 237 dX12_reads_232 (by decide) ?_
      exact fX12_reads_j237_ok hZ hn hx1 hx2 zi_21 h hc hr
  · replace h := zs_f h hc_
    refine zV_bipush (v := 20) dX12_reads_216 rfl ?_
    refine zV_goto 237 dX12_reads_218 (by decide) ?_
    exact fX12_reads_j237_ok hZ hn hx1 hx2 zi_20 h hc hr
noncomputable def fX12_reads_j342 (x1 x2 s0 : Int) (M : zMem) : Option ((Int × Int × zMem) ⊕ ((Int × Int × zMem) ⊕ (Int × zMem))) :=
  (zbd (fX12_puts s0 M) fun M45 => (zgd ((0 : Int) ≤ x1 ∧ x1 < 7) (fX12_reads_j424 x1 1 (zup M45 232 x1 0))))
set_option maxRecDepth 100000 in
set_option maxHeartbeats 4000000 in
theorem fX12_reads_j342_ok {Z : zZ} (hZ : zB Z) {nn : Nat} (hn : 2 ≤ nn)  {x1 x2 s0 : Int} (hx1 : z32 x1) (hx2 : z32 x2) (hs0 : z32 s0) {M : zMem} {Q : Option zAV → zMem → zZ → Prop} {P : (Int × Int × zMem) ⊕ ((Int × Int × zMem) ⊕ (Int × zMem)) → Prop} (h : zSat (fX12_reads_j342 x1 x2 s0 M) P)  (hc : ∀ s : Int × Int × zMem, P (.inl s) → z32 (s.1) → z32 (s.2.1) → zV zmX12_reads nn 0 0 Z 11 [(0, zR 200), (1, zI (s.1)), (2, zI (s.2.1))] [] (s.2.2) Q)  (hr : ∀ r : Int × zMem, P (.inr (.inr r)) → (fun r => Q (some (zI r.1)) r.2 Z) r)  : zV zmX12_reads nn 0 0 Z 342 [(0, zR 200), (1, zI x1), (2, zI x2)] [zI s0, zR 200] M Q := by
  unfold fX12_reads_j342 at h
  refine zV_cVV (y' := zmX12_puts) (n' := 0) (As := [zI s0]) zc_X12_225 (zq_200 hZ) rfl dX12_reads_342 (Nat.le_trans (by decide) hn) rfl (Nat.le_of_ble_eq_true rfl) (Nat.le_of_ble_eq_true rfl) rfl h (fun Q' h' => fX12_puts_ok hZ (Nat.le_refl _) hs0 h') (fun M45 h => ?_)
  refine zV_aload_n 0 dX12_reads_345 rfl rfl ?_
  refine zV_getR (j := 232) (zq_200 hZ) zf_X12_31 zkf_X12_75 rfl dX12_reads_346 ?_
  refine zV_iload_n 1 dX12_reads_349 rfl rfl ?_
  refine zV_iconst (v := 0) dX12_reads_350 rfl ?_
  obtain ⟨hg, h⟩ := zs_gd h
  refine zV_zast (zq_232 hZ) (by decide) hg (Or.inl rfl) dX12_reads_351 ?_
  refine zV_iconst (v := 1) dX12_reads_352 rfl ?_
  refine zV_istore_n [(2, zI 1), (0, zR 200), (1, zI x1)] dX12_reads_353 rfl (by decide) rfl ?_
  refine zV_goto 424 dX12_reads_354 (by decide) ?_
  refine zV_ls [1, 2, 0] rfl ?_
  exact fX12_reads_j424_ok hZ hn hx1 zi_1 h hc hr
noncomputable def fX12_reads_j324 (x1 x2 : Int) (M : zMem) : Option ((Int × Int × zMem) ⊕ ((Int × Int × zMem) ⊕ (Int × zMem))) :=
  (zbd (fX12_isWord 1111 M) fun r38 => (if r38 = 0 then fX12_reads_j342 x1 x2 27 M else fX12_reads_j342 x1 x2 26 M))
set_option maxRecDepth 100000 in
set_option maxHeartbeats 4000000 in
theorem fX12_reads_j324_ok {Z : zZ} (hZ : zB Z) {nn : Nat} (hn : 2 ≤ nn)  {x1 x2 : Int} (hx1 : z32 x1) (hx2 : z32 x2) {M : zMem} {Q : Option zAV → zMem → zZ → Prop} {P : (Int × Int × zMem) ⊕ ((Int × Int × zMem) ⊕ (Int × zMem)) → Prop} (h : zSat (fX12_reads_j324 x1 x2 M) P)  (hc : ∀ s : Int × Int × zMem, P (.inl s) → z32 (s.1) → z32 (s.2.1) → zV zmX12_reads nn 0 0 Z 11 [(0, zR 200), (1, zI (s.1)), (2, zI (s.2.1))] [] (s.2.2) Q)  (hr : ∀ r : Int × zMem, P (.inr (.inr r)) → (fun r => Q (some (zI r.1)) r.2 Z) r)  : zV zmX12_reads nn 0 0 Z 324 [(0, zR 200), (1, zI x1), (2, zI x2)] [] M Q := by
  unfold fX12_reads_j324 at h
  refine zV_aload_n 0 dX12_reads_324 rfl rfl ?_
  refine zV_aload_n 0 dX12_reads_325 rfl rfl ?_
  refine zV_ldc2 (v := 1111) zkl_X12_232 rfl dX12_reads_326 ?_
  refine zV_cVI (y' := zmX12_isWord) (n' := 0) (As := [zL 1111]) zc_X12_214 (zq_200 hZ) rfl dX12_reads_329 (Nat.le_trans (by decide) hn) rfl (Nat.le_of_ble_eq_true rfl) (Nat.le_of_ble_eq_true rfl) rfl h (fun Q' h' => fX12_isWord_ok hZ (Nat.le_refl _) zj_1111 h') (fun r38 c39 b40 h => ?_)
  refine zV_if_eq 340 dX12_reads_332 (by decide) c39 (fun hc_ => ?_) (fun hc_ => ?_)
  · replace h := zs_t h hc_
    refine zV_bipush (v := 27) dX12_reads_340 rfl ?_
    exact fX12_reads_j342_ok hZ hn hx1 hx2 zi_27 h hc hr
  · replace h := zs_f h hc_
    refine zV_bipush (v := 26) dX12_reads_335 rfl ?_
    refine zV_goto 342 dX12_reads_337 (by decide) ?_
    exact fX12_reads_j342_ok hZ hn hx1 hx2 zi_26 h hc hr
noncomputable def fX12_reads_j418 (x1 x2 : Int) (M : zMem) : Option ((Int × Int × zMem) ⊕ ((Int × Int × zMem) ⊕ (Int × zMem))) :=
  (zbd2 (fX12_fails 1 M) fun r54 M57 => some (.inr (.inr (r54, M57))))
set_option maxRecDepth 100000 in
set_option maxHeartbeats 4000000 in
theorem fX12_reads_j418_ok {Z : zZ} (hZ : zB Z) {nn : Nat} (hn : 2 ≤ nn)  {x1 x2 : Int} (hx1 : z32 x1) (hx2 : z32 x2) {M : zMem} {Q : Option zAV → zMem → zZ → Prop} {P : (Int × Int × zMem) ⊕ ((Int × Int × zMem) ⊕ (Int × zMem)) → Prop} (h : zSat (fX12_reads_j418 x1 x2 M) P)  (hc : ∀ s : Int × Int × zMem, P (.inl s) → z32 (s.1) → z32 (s.2.1) → zV zmX12_reads nn 0 0 Z 11 [(0, zR 200), (1, zI (s.1)), (2, zI (s.2.1))] [] (s.2.2) Q)  (hr : ∀ r : Int × zMem, P (.inr (.inr r)) → (fun r => Q (some (zI r.1)) r.2 Z) r)  : zV zmX12_reads nn 0 0 Z 418 [(0, zR 200), (1, zI x1), (2, zI x2)] [] M Q := by
  unfold fX12_reads_j418 at h
  refine zV_aload_n 0 dX12_reads_418 rfl rfl ?_
  refine zV_iconst (v := 1) dX12_reads_419 rfl ?_
  refine zV_cVIm (y' := zmX12_fails) (n' := 0) (As := [zI 1]) zc_X12_222 (zq_200 hZ) rfl dX12_reads_420 (Nat.le_trans (by decide) hn) rfl (Nat.le_of_ble_eq_true rfl) (Nat.le_of_ble_eq_true rfl) rfl h (fun Q' h' => fX12_fails_ok hZ (Nat.le_refl _) zi_1 h') (fun r54 M57 c55 b56 h => ?_)
  exact zV_iretb dX12_reads_423 rfl (b56 rfl) (hr _ h)
noncomputable def fX12_reads_j399 (x1 x2 : Int) (M : zMem) : Option ((Int × Int × zMem) ⊕ ((Int × Int × zMem) ⊕ (Int × zMem))) :=
  (if x1 = 0 then (zbd (fX12_isSign 59 M) fun r58 => (if r58 = 0 then fX12_reads_j418 x1 x2 M else (zbd (fX12_nextToken M) fun M65 => some (.inr (.inr (1, M65)))))) else fX12_reads_j418 x1 x2 M)
set_option maxRecDepth 100000 in
set_option maxHeartbeats 4000000 in
theorem fX12_reads_j399_ok {Z : zZ} (hZ : zB Z) {nn : Nat} (hn : 2 ≤ nn)  {x1 x2 : Int} (hx1 : z32 x1) (hx2 : z32 x2) {M : zMem} {Q : Option zAV → zMem → zZ → Prop} {P : (Int × Int × zMem) ⊕ ((Int × Int × zMem) ⊕ (Int × zMem)) → Prop} (h : zSat (fX12_reads_j399 x1 x2 M) P)  (hc : ∀ s : Int × Int × zMem, P (.inl s) → z32 (s.1) → z32 (s.2.1) → zV zmX12_reads nn 0 0 Z 11 [(0, zR 200), (1, zI (s.1)), (2, zI (s.2.1))] [] (s.2.2) Q)  (hr : ∀ r : Int × zMem, P (.inr (.inr r)) → (fun r => Q (some (zI r.1)) r.2 Z) r)  : zV zmX12_reads nn 0 0 Z 399 [(0, zR 200), (1, zI x1), (2, zI x2)] [] M Q := by
  unfold fX12_reads_j399 at h
  refine zV_iload_n 1 dX12_reads_399 rfl rfl ?_
  refine zV_if_ne 418 dX12_reads_400 (by decide) hx1 (fun hc_ => ?_) (fun hc_ => ?_)
  · replace h := zs_f h hc_
    exact fX12_reads_j418_ok hZ hn hx1 hx2 h hc hr
  · replace h := zs_t h hc_
    refine zV_aload_n 0 dX12_reads_403 rfl rfl ?_
    refine zV_bipush (v := 59) dX12_reads_404 rfl ?_
    refine zV_cVI (y' := zmX12_isSign) (n' := 0) (As := [zI 59]) zc_X12_218 (zq_200 hZ) rfl dX12_reads_406 (Nat.le_trans (by decide) hn) rfl (Nat.le_of_ble_eq_true rfl) (Nat.le_of_ble_eq_true rfl) rfl h (fun Q' h' => fX12_isSign_ok hZ (Nat.le_refl _) zi_59 h') (fun r58 c59 b60 h => ?_)
    refine zV_if_eq 418 dX12_reads_409 (by decide) c59 (fun hc_ => ?_) (fun hc_ => ?_)
    · replace h := zs_t h hc_
      exact fX12_reads_j418_ok hZ hn hx1 hx2 h hc hr
    · replace h := zs_f h hc_
      refine zV_aload_n 0 dX12_reads_412 rfl rfl ?_
      refine zV_cVV (y' := zmX12_nextToken) (n' := 1) (As := []) zc_X12_229 (zq_200 hZ) rfl dX12_reads_413 (Nat.le_trans (by decide) hn) rfl (Nat.le_of_ble_eq_true rfl) (Nat.le_of_ble_eq_true rfl) rfl h (fun Q' h' => fX12_nextToken_ok hZ (Nat.le_refl _)  h') (fun M65 h => ?_)
      refine zV_iconst (v := 1) dX12_reads_416 rfl ?_
      exact zV_iretb dX12_reads_417 rfl (Or.inr rfl) (hr _ h)
noncomputable def fX12_reads_l379 (x2 x1 : Int) (M : zMem) : Option ((Int) ⊕ (Int)) :=
  (if x1 ≤ 0 then some (.inr x1) else (zgd ((0 : Int) ≤ x1 ∧ x1 < 7) (if (M 231 x1) = 1 then some (.inl (zw (x1 + (-1)))) else some (.inr x1))))
set_option maxRecDepth 100000 in
set_option maxHeartbeats 4000000 in
theorem fX12_reads_l379_ok {Z : zZ} (hZ : zB Z) {nn : Nat} (hn : 2 ≤ nn)  {x2 x1 : Int} (hx2 : z32 x2) (hx1 : z32 x1) {M : zMem} {Q : Option zAV → zMem → zZ → Prop} {P : (Int) ⊕ (Int) → Prop} (h : zSat (fX12_reads_l379 x2 x1 M) P)  (hc : ∀ s : Int, P (.inl s) → z32 s → zV zmX12_reads nn 0 0 Z 379 [(0, zR 200), (1, zI s), (2, zI x2)] [] M Q) (he : ∀ s : Int, P (.inr s) → z32 s → zV zmX12_reads nn 0 0 Z 424 [(0, zR 200), (1, zI s), (2, zI x2)] [] M Q)   : zV zmX12_reads nn 0 0 Z 379 [(0, zR 200), (1, zI x1), (2, zI x2)] [] M Q := by
  unfold fX12_reads_l379 at h
  refine zV_iload_n 1 dX12_reads_379 rfl rfl ?_
  refine zV_if_le 424 dX12_reads_380 (by decide) hx1 (fun hc_ => ?_) (fun hc_ => ?_)
  · replace h := zs_t h hc_
    exact he _ h hx1
  · replace h := zs_f h hc_
    refine zV_aload_n 0 dX12_reads_383 rfl rfl ?_
    refine zV_getR (j := 231) (zq_200 hZ) zf_X12_30 zkf_X12_72 rfl dX12_reads_384 ?_
    refine zV_iload_n 1 dX12_reads_387 rfl rfl ?_
    obtain ⟨hg, h⟩ := zs_gd h
    refine zV_iald (zq_231 hZ) hg dX12_reads_388 (fun m70 => ?_)
    refine zV_iconst (v := 1) dX12_reads_389 rfl ?_
    refine zV_icmp_ne 424 dX12_reads_390 (by decide) m70 zi_1 (fun hc_ => ?_) (fun hc_ => ?_)
    · replace h := zs_f h hc_
      exact he _ h hx1
    · replace h := zs_t h hc_
      refine zV_iinc 1 [(1, zI (zw (x1 + (-1)))), (0, zR 200), (2, zI x2)] dX12_reads_393 rfl rfl (by decide) rfl ?_
      refine zV_goto 379 dX12_reads_396 (by decide) ?_
      refine zV_ls [1, 0, 2] rfl ?_
      exact hc _ h (z32_w _)
noncomputable def fX12_reads_j304 (x1 x2 : Int) (M : zMem) : Option ((Int × Int × zMem) ⊕ ((Int × Int × zMem) ⊕ (Int × zMem))) :=
  (zbd (fX12_isWord 1111 M) fun r34 => (if r34 = 0 then (zbd (fX12_isWord 423 M) fun r46 => (if r46 = 0 then (zbd (fX12_isSign 41 M) fun r50 => (if r50 = 0 then fX12_reads_j399 x1 x2 M else (if x1 ≤ 0 then fX12_reads_j399 x1 x2 M else (zbd (fX12_puts 29 M) fun M69 => (zbd (zit (fun s71 => fX12_reads_l379 x2 s71 M69) (zw (x1 + (-1)))) fun s77 => fX12_reads_j424 s77 x2 M69))))) else fX12_reads_j324 x1 x2 M)) else fX12_reads_j324 x1 x2 M))
set_option maxRecDepth 100000 in
set_option maxHeartbeats 4000000 in
theorem fX12_reads_j304_ok {Z : zZ} (hZ : zB Z) {nn : Nat} (hn : 2 ≤ nn)  {x1 x2 : Int} (hx1 : z32 x1) (hx2 : z32 x2) {M : zMem} {Q : Option zAV → zMem → zZ → Prop} {P : (Int × Int × zMem) ⊕ ((Int × Int × zMem) ⊕ (Int × zMem)) → Prop} (h : zSat (fX12_reads_j304 x1 x2 M) P)  (hc : ∀ s : Int × Int × zMem, P (.inl s) → z32 (s.1) → z32 (s.2.1) → zV zmX12_reads nn 0 0 Z 11 [(0, zR 200), (1, zI (s.1)), (2, zI (s.2.1))] [] (s.2.2) Q)  (hr : ∀ r : Int × zMem, P (.inr (.inr r)) → (fun r => Q (some (zI r.1)) r.2 Z) r)  : zV zmX12_reads nn 0 0 Z 304 [(0, zR 200), (1, zI x1), (2, zI x2)] [] M Q := by
  unfold fX12_reads_j304 at h
  refine zV_aload_n 0 dX12_reads_304 rfl rfl ?_
  refine zV_ldc2 (v := 1111) zkl_X12_232 rfl dX12_reads_305 ?_
  refine zV_cVI (y' := zmX12_isWord) (n' := 0) (As := [zL 1111]) zc_X12_214 (zq_200 hZ) rfl dX12_reads_308 (Nat.le_trans (by decide) hn) rfl (Nat.le_of_ble_eq_true rfl) (Nat.le_of_ble_eq_true rfl) rfl h (fun Q' h' => fX12_isWord_ok hZ (Nat.le_refl _) zj_1111 h') (fun r34 c35 b36 h => ?_)
  refine zV_if_ne 324 dX12_reads_311 (by decide) c35 (fun hc_ => ?_) (fun hc_ => ?_)
  · replace h := zs_f h hc_
    exact fX12_reads_j324_ok hZ hn hx1 hx2 h hc hr
  · replace h := zs_t h hc_
    refine zV_aload_n 0 dX12_reads_314 rfl rfl ?_
    refine zV_ldc2 (v := 423) zkl_X12_234 rfl dX12_reads_315 ?_
    refine zV_cVI (y' := zmX12_isWord) (n' := 0) (As := [zL 423]) zc_X12_214 (zq_200 hZ) rfl dX12_reads_318 (Nat.le_trans (by decide) hn) rfl (Nat.le_of_ble_eq_true rfl) (Nat.le_of_ble_eq_true rfl) rfl h (fun Q' h' => fX12_isWord_ok hZ (Nat.le_refl _) zj_423 h') (fun r46 c47 b48 h => ?_)
    refine zV_if_eq 357 dX12_reads_321 (by decide) c47 (fun hc_ => ?_) (fun hc_ => ?_)
    · replace h := zs_t h hc_
      refine zV_aload_n 0 dX12_reads_357 rfl rfl ?_
      refine zV_bipush (v := 41) dX12_reads_358 rfl ?_
      refine zV_cVI (y' := zmX12_isSign) (n' := 0) (As := [zI 41]) zc_X12_218 (zq_200 hZ) rfl dX12_reads_360 (Nat.le_trans (by decide) hn) rfl (Nat.le_of_ble_eq_true rfl) (Nat.le_of_ble_eq_true rfl) rfl h (fun Q' h' => fX12_isSign_ok hZ (Nat.le_refl _) zi_41 h') (fun r50 c51 b52 h => ?_)
      refine zV_if_eq 399 dX12_reads_363 (by decide) c51 (fun hc_ => ?_) (fun hc_ => ?_)
      · replace h := zs_t h hc_
        exact fX12_reads_j399_ok hZ hn hx1 hx2 h hc hr
      · replace h := zs_f h hc_
        refine zV_iload_n 1 dX12_reads_366 rfl rfl ?_
        refine zV_if_le 399 dX12_reads_367 (by decide) hx1 (fun hc_ => ?_) (fun hc_ => ?_)
        · replace h := zs_t h hc_
          exact fX12_reads_j399_ok hZ hn hx1 hx2 h hc hr
        · replace h := zs_f h hc_
          refine zV_aload_n 0 dX12_reads_370 rfl rfl ?_
          refine zV_bipush (v := 29) dX12_reads_371 rfl ?_
          refine zV_cVV (y' := zmX12_puts) (n' := 0) (As := [zI 29]) zc_X12_225 (zq_200 hZ) rfl dX12_reads_373 (Nat.le_trans (by decide) hn) rfl (Nat.le_of_ble_eq_true rfl) (Nat.le_of_ble_eq_true rfl) rfl h (fun Q' h' => fX12_puts_ok hZ (Nat.le_refl _) zi_29 h') (fun M69 h => ?_)
          refine zV_iinc 1 [(1, zI (zw (x1 + (-1)))), (0, zR 200), (2, zI x2)] dX12_reads_376 rfl rfl (by decide) rfl ?_
          refine zV_ls [1, 0, 2] rfl ?_
          refine (zV_loop (Vh := fun s71 : Int => z32 s71 → zV zmX12_reads nn 0 0 Z 379 [(0, zR 200), (1, zI s71), (2, zI x2)] [] M69 Q) h (fun s71 P72 hP73 hc74 he75 => ?_)) (z32_w _)
          intro c76
          refine fX12_reads_l379_ok hZ hn hx2 c76 hP73 hc74 (fun s77 h78 d79 => ?_)
          have h := he75 _ h78
          exact fX12_reads_j424_ok hZ hn d79 hx2 h hc hr
    · replace h := zs_f h hc_
      exact fX12_reads_j324_ok hZ hn hx1 hx2 h hc hr
noncomputable def fX12_reads_j289 (x1 x2 s0 : Int) (M : zMem) : Option ((Int × Int × zMem) ⊕ ((Int × Int × zMem) ⊕ (Int × zMem))) :=
  (zbd (fX12_puts s0 M) fun M87 => (zgd ((0 : Int) ≤ x1 ∧ x1 < 7) (fX12_reads_j424 x1 1 (zup M87 232 x1 1))))
set_option maxRecDepth 100000 in
set_option maxHeartbeats 4000000 in
theorem fX12_reads_j289_ok {Z : zZ} (hZ : zB Z) {nn : Nat} (hn : 2 ≤ nn)  {x1 x2 s0 : Int} (hx1 : z32 x1) (hx2 : z32 x2) (hs0 : z32 s0) {M : zMem} {Q : Option zAV → zMem → zZ → Prop} {P : (Int × Int × zMem) ⊕ ((Int × Int × zMem) ⊕ (Int × zMem)) → Prop} (h : zSat (fX12_reads_j289 x1 x2 s0 M) P)  (hc : ∀ s : Int × Int × zMem, P (.inl s) → z32 (s.1) → z32 (s.2.1) → zV zmX12_reads nn 0 0 Z 11 [(0, zR 200), (1, zI (s.1)), (2, zI (s.2.1))] [] (s.2.2) Q)  (hr : ∀ r : Int × zMem, P (.inr (.inr r)) → (fun r => Q (some (zI r.1)) r.2 Z) r)  : zV zmX12_reads nn 0 0 Z 289 [(0, zR 200), (1, zI x1), (2, zI x2)] [zI s0, zR 200] M Q := by
  unfold fX12_reads_j289 at h
  refine zV_cVV (y' := zmX12_puts) (n' := 0) (As := [zI s0]) zc_X12_225 (zq_200 hZ) rfl dX12_reads_289 (Nat.le_trans (by decide) hn) rfl (Nat.le_of_ble_eq_true rfl) (Nat.le_of_ble_eq_true rfl) rfl h (fun Q' h' => fX12_puts_ok hZ (Nat.le_refl _) hs0 h') (fun M87 h => ?_)
  refine zV_aload_n 0 dX12_reads_292 rfl rfl ?_
  refine zV_getR (j := 232) (zq_200 hZ) zf_X12_31 zkf_X12_75 rfl dX12_reads_293 ?_
  refine zV_iload_n 1 dX12_reads_296 rfl rfl ?_
  refine zV_iconst (v := 1) dX12_reads_297 rfl ?_
  obtain ⟨hg, h⟩ := zs_gd h
  refine zV_zast (zq_232 hZ) (by decide) hg (Or.inr rfl) dX12_reads_298 ?_
  refine zV_iconst (v := 1) dX12_reads_299 rfl ?_
  refine zV_istore_n [(2, zI 1), (0, zR 200), (1, zI x1)] dX12_reads_300 rfl (by decide) rfl ?_
  refine zV_goto 424 dX12_reads_301 (by decide) ?_
  refine zV_ls [1, 2, 0] rfl ?_
  exact fX12_reads_j424_ok hZ hn hx1 zi_1 h hc hr
noncomputable def fX12_reads_j263 (x1 x2 : Int) (M : zMem) : Option ((Int × Int × zMem) ⊕ ((Int × Int × zMem) ⊕ (Int × zMem))) :=
  (zgd ((0 : Int) ≤ x1 ∧ x1 < 7) (if (M 232 x1) = 0 then (zbd (fX12_isSign 60 M) fun r80 => (if r80 = 0 then fX12_reads_j289 x1 x2 25 M else fX12_reads_j289 x1 x2 24 M)) else fX12_reads_j304 x1 x2 M))
set_option maxRecDepth 100000 in
set_option maxHeartbeats 4000000 in
theorem fX12_reads_j263_ok {Z : zZ} (hZ : zB Z) {nn : Nat} (hn : 2 ≤ nn)  {x1 x2 : Int} (hx1 : z32 x1) (hx2 : z32 x2) {M : zMem} {Q : Option zAV → zMem → zZ → Prop} {P : (Int × Int × zMem) ⊕ ((Int × Int × zMem) ⊕ (Int × zMem)) → Prop} (h : zSat (fX12_reads_j263 x1 x2 M) P)  (hc : ∀ s : Int × Int × zMem, P (.inl s) → z32 (s.1) → z32 (s.2.1) → zV zmX12_reads nn 0 0 Z 11 [(0, zR 200), (1, zI (s.1)), (2, zI (s.2.1))] [] (s.2.2) Q)  (hr : ∀ r : Int × zMem, P (.inr (.inr r)) → (fun r => Q (some (zI r.1)) r.2 Z) r)  : zV zmX12_reads nn 0 0 Z 263 [(0, zR 200), (1, zI x1), (2, zI x2)] [] M Q := by
  unfold fX12_reads_j263 at h
  refine zV_aload_n 0 dX12_reads_263 rfl rfl ?_
  refine zV_getR (j := 232) (zq_200 hZ) zf_X12_31 zkf_X12_75 rfl dX12_reads_264 ?_
  refine zV_iload_n 1 dX12_reads_267 rfl rfl ?_
  obtain ⟨hg, h⟩ := zs_gd h
  refine zV_zald (zq_232 hZ) hg dX12_reads_268 (fun m33 => ?_)
  refine zV_if_ne 304 dX12_reads_269 (by decide) (z32_01 m33) (fun hc_ => ?_) (fun hc_ => ?_)
  · replace h := zs_f h hc_
    exact fX12_reads_j304_ok hZ hn hx1 hx2 h hc hr
  · replace h := zs_t h hc_
    refine zV_aload_n 0 dX12_reads_272 rfl rfl ?_
    refine zV_aload_n 0 dX12_reads_273 rfl rfl ?_
    refine zV_bipush (v := 60) dX12_reads_274 rfl ?_
    refine zV_cVI (y' := zmX12_isSign) (n' := 0) (As := [zI 60]) zc_X12_218 (zq_200 hZ) rfl dX12_reads_276 (Nat.le_trans (by decide) hn) rfl (Nat.le_of_ble_eq_true rfl) (Nat.le_of_ble_eq_true rfl) rfl h (fun Q' h' => fX12_isSign_ok hZ (Nat.le_refl _) zi_60 h') (fun r80 c81 b82 h => ?_)
    refine zV_if_eq 287 dX12_reads_279 (by decide) c81 (fun hc_ => ?_) (fun hc_ => ?_)
    · replace h := zs_t h hc_
      refine zV_bipush (v := 25) dX12_reads_287 rfl ?_
      exact fX12_reads_j289_ok hZ hn hx1 hx2 zi_25 h hc hr
    · replace h := zs_f h hc_
      refine zV_bipush (v := 24) dX12_reads_282 rfl ?_
      refine zV_goto 289 dX12_reads_284 (by decide) ?_
      exact fX12_reads_j289_ok hZ hn hx1 hx2 zi_24 h hc hr
noncomputable def fX12_reads_j172 (x1 x2 : Int) (M : zMem) : Option ((Int × Int × zMem) ⊕ ((Int × Int × zMem) ⊕ (Int × zMem))) :=
  (zbd (fX12_nextToken M) fun M111 => some (.inl (x1, x2, M111)))
set_option maxRecDepth 100000 in
set_option maxHeartbeats 4000000 in
theorem fX12_reads_j172_ok {Z : zZ} (hZ : zB Z) {nn : Nat} (hn : 2 ≤ nn)  {x1 x2 : Int} (hx1 : z32 x1) (hx2 : z32 x2) {M : zMem} {Q : Option zAV → zMem → zZ → Prop} {P : (Int × Int × zMem) ⊕ ((Int × Int × zMem) ⊕ (Int × zMem)) → Prop} (h : zSat (fX12_reads_j172 x1 x2 M) P)  (hc : ∀ s : Int × Int × zMem, P (.inl s) → z32 (s.1) → z32 (s.2.1) → zV zmX12_reads nn 0 0 Z 11 [(0, zR 200), (1, zI (s.1)), (2, zI (s.2.1))] [] (s.2.2) Q)  (hr : ∀ r : Int × zMem, P (.inr (.inr r)) → (fun r => Q (some (zI r.1)) r.2 Z) r)  : zV zmX12_reads nn 0 0 Z 172 [(0, zR 200), (1, zI x1), (2, zI x2)] [] M Q := by
  unfold fX12_reads_j172 at h
  refine zV_aload_n 0 dX12_reads_172 rfl rfl ?_
  refine zV_cVV (y' := zmX12_nextToken) (n' := 1) (As := []) zc_X12_229 (zq_200 hZ) rfl dX12_reads_173 (Nat.le_trans (by decide) hn) rfl (Nat.le_of_ble_eq_true rfl) (Nat.le_of_ble_eq_true rfl) rfl h (fun Q' h' => fX12_nextToken_ok hZ (Nat.le_refl _)  h') (fun M111 h => ?_)
  refine zV_goto 11 dX12_reads_176 (by decide) ?_
  exact hc _ h hx1 hx2
noncomputable def fX12_reads_j120 (x1 x2 s0 s1 : Int) (M : zMem) : Option ((Int × Int × zMem) ⊕ ((Int × Int × zMem) ⊕ (Int × zMem))) :=
  (zgd ((0 : Int) ≤ s1 ∧ s1 < 7) (zgd ((0 : Int) ≤ x1 ∧ x1 < 7) (fX12_reads_j172 x1 x2 (zup (zup M 231 s1 s0) 232 x1 0))))
set_option maxRecDepth 100000 in
set_option maxHeartbeats 4000000 in
theorem fX12_reads_j120_ok {Z : zZ} (hZ : zB Z) {nn : Nat} (hn : 2 ≤ nn)  {x1 x2 s0 s1 : Int} (hx1 : z32 x1) (hx2 : z32 x2) (hs0 : z32 s0) (hs1 : z32 s1) {M : zMem} {Q : Option zAV → zMem → zZ → Prop} {P : (Int × Int × zMem) ⊕ ((Int × Int × zMem) ⊕ (Int × zMem)) → Prop} (h : zSat (fX12_reads_j120 x1 x2 s0 s1 M) P)  (hc : ∀ s : Int × Int × zMem, P (.inl s) → z32 (s.1) → z32 (s.2.1) → zV zmX12_reads nn 0 0 Z 11 [(0, zR 200), (1, zI (s.1)), (2, zI (s.2.1))] [] (s.2.2) Q)  (hr : ∀ r : Int × zMem, P (.inr (.inr r)) → (fun r => Q (some (zI r.1)) r.2 Z) r)  : zV zmX12_reads nn 0 0 Z 120 [(0, zR 200), (1, zI x1), (2, zI x2)] [zI s0, zI s1, zR 231] M Q := by
  unfold fX12_reads_j120 at h
  obtain ⟨hg, h⟩ := zs_gd h
  refine zV_iast (zq_231 hZ) (by decide) hg hs0 dX12_reads_120 ?_
  refine zV_aload_n 0 dX12_reads_121 rfl rfl ?_
  refine zV_getR (j := 232) (zq_200 hZ) zf_X12_31 zkf_X12_75 rfl dX12_reads_122 ?_
  refine zV_iload_n 1 dX12_reads_125 rfl rfl ?_
  refine zV_iconst (v := 0) dX12_reads_126 rfl ?_
  obtain ⟨hg, h⟩ := zs_gd h
  refine zV_zast (zq_232 hZ) (by decide) hg (Or.inl rfl) dX12_reads_127 ?_
  refine zV_goto 172 dX12_reads_128 (by decide) ?_
  exact fX12_reads_j172_ok hZ hn hx1 hx2 h hc hr
noncomputable def fX12_reads_j99 (x1 x2 x4 s0 : Int) (M : zMem) : Option ((Int × Int × zMem) ⊕ ((Int × Int × zMem) ⊕ (Int × zMem))) :=
  (zbd (fX12_puts s0 M) fun M107 => (if x4 = 0 then fX12_reads_j120 (zw (x1 + 1)) x2 2 (zw (x1 + 1)) M107 else fX12_reads_j120 (zw (x1 + 1)) x2 1 (zw (x1 + 1)) M107))
set_option maxRecDepth 100000 in
set_option maxHeartbeats 4000000 in
theorem fX12_reads_j99_ok {Z : zZ} (hZ : zB Z) {nn : Nat} (hn : 2 ≤ nn)  {x1 x2 x4 s0 : Int} (hx1 : z32 x1) (hx2 : z32 x2) (hx4 : z32 x4) (hbx4 : x4 = 0 ∨ x4 = 1) (hs0 : z32 s0) {M : zMem} {Q : Option zAV → zMem → zZ → Prop} {P : (Int × Int × zMem) ⊕ ((Int × Int × zMem) ⊕ (Int × zMem)) → Prop} (h : zSat (fX12_reads_j99 x1 x2 x4 s0 M) P)  (hc : ∀ s : Int × Int × zMem, P (.inl s) → z32 (s.1) → z32 (s.2.1) → zV zmX12_reads nn 0 0 Z 11 [(0, zR 200), (1, zI (s.1)), (2, zI (s.2.1))] [] (s.2.2) Q)  (hr : ∀ r : Int × zMem, P (.inr (.inr r)) → (fun r => Q (some (zI r.1)) r.2 Z) r)  : zV zmX12_reads nn 0 0 Z 99 [(0, zR 200), (1, zI x1), (2, zI x2), (4, zI x4)] [zI s0, zR 200] M Q := by
  unfold fX12_reads_j99 at h
  refine zV_cVV (y' := zmX12_puts) (n' := 0) (As := [zI s0]) zc_X12_225 (zq_200 hZ) rfl dX12_reads_99 (Nat.le_trans (by decide) hn) rfl (Nat.le_of_ble_eq_true rfl) (Nat.le_of_ble_eq_true rfl) rfl h (fun Q' h' => fX12_puts_ok hZ (Nat.le_refl _) hs0 h') (fun M107 h => ?_)
  refine zV_iinc 1 [(1, zI (zw (x1 + 1))), (0, zR 200), (2, zI x2), (4, zI x4)] dX12_reads_102 rfl rfl (by decide) rfl ?_
  refine zV_aload_n 1 dX12_reads_105 rfl rfl ?_
  refine zV_getR (j := 231) (zq_200 hZ) zf_X12_30 zkf_X12_72 rfl dX12_reads_106 ?_
  refine zV_iload_n 0 dX12_reads_109 rfl rfl ?_
  refine zV_iload 3 dX12_reads_110 rfl ?_
  refine zV_if_eq 119 dX12_reads_112 (by decide) hx4 (fun hc_ => ?_) (fun hc_ => ?_)
  · replace h := zs_t h hc_
    refine zV_iconst (v := 2) dX12_reads_119 rfl ?_
    refine zV_ls [1, 0, 2] rfl ?_
    exact fX12_reads_j120_ok hZ hn (z32_w _) hx2 zi_2 (z32_w _) h hc hr
  · replace h := zs_f h hc_
    refine zV_iconst (v := 1) dX12_reads_115 rfl ?_
    refine zV_goto 120 dX12_reads_116 (by decide) ?_
    refine zV_ls [1, 0, 2] rfl ?_
    exact fX12_reads_j120_ok hZ hn (z32_w _) hx2 zi_1 (z32_w _) h hc hr
noncomputable def fX12_reads_j86 (x1 x2 x4 : Int) (M : zMem) : Option ((Int × Int × zMem) ⊕ ((Int × Int × zMem) ⊕ (Int × zMem))) :=
  (if x4 = 0 then fX12_reads_j99 x1 x2 x4 28 M else fX12_reads_j99 x1 x2 x4 30 M)
set_option maxRecDepth 100000 in
set_option maxHeartbeats 4000000 in
theorem fX12_reads_j86_ok {Z : zZ} (hZ : zB Z) {nn : Nat} (hn : 2 ≤ nn)  {x1 x2 x4 : Int} (hx1 : z32 x1) (hx2 : z32 x2) (hx4 : z32 x4) (hbx4 : x4 = 0 ∨ x4 = 1) {M : zMem} {Q : Option zAV → zMem → zZ → Prop} {P : (Int × Int × zMem) ⊕ ((Int × Int × zMem) ⊕ (Int × zMem)) → Prop} (h : zSat (fX12_reads_j86 x1 x2 x4 M) P)  (hc : ∀ s : Int × Int × zMem, P (.inl s) → z32 (s.1) → z32 (s.2.1) → zV zmX12_reads nn 0 0 Z 11 [(0, zR 200), (1, zI (s.1)), (2, zI (s.2.1))] [] (s.2.2) Q)  (hr : ∀ r : Int × zMem, P (.inr (.inr r)) → (fun r => Q (some (zI r.1)) r.2 Z) r)  : zV zmX12_reads nn 0 0 Z 86 [(0, zR 200), (1, zI x1), (2, zI x2), (4, zI x4)] [] M Q := by
  unfold fX12_reads_j86 at h
  refine zV_aload_n 0 dX12_reads_86 rfl rfl ?_
  refine zV_iload 3 dX12_reads_87 rfl ?_
  refine zV_if_eq 97 dX12_reads_89 (by decide) hx4 (fun hc_ => ?_) (fun hc_ => ?_)
  · replace h := zs_t h hc_
    refine zV_bipush (v := 28) dX12_reads_97 rfl ?_
    exact fX12_reads_j99_ok hZ hn hx1 hx2 hx4 hbx4 zi_28 h hc hr
  · replace h := zs_f h hc_
    refine zV_bipush (v := 30) dX12_reads_92 rfl ?_
    refine zV_goto 99 dX12_reads_94 (by decide) ?_
    exact fX12_reads_j99_ok hZ hn hx1 hx2 hx4 hbx4 zi_30 h hc hr
noncomputable def fX12_reads_l152 (x2 x1 : Int) (M : zMem) : Option ((Int) ⊕ (Int)) :=
  (if x1 ≤ 0 then some (.inr x1) else (zgd ((0 : Int) ≤ x1 ∧ x1 < 7) (if (M 231 x1) = 1 then some (.inl (zw (x1 + (-1)))) else some (.inr x1))))
set_option maxRecDepth 100000 in
set_option maxHeartbeats 4000000 in
theorem fX12_reads_l152_ok {Z : zZ} (hZ : zB Z) {nn : Nat} (hn : 2 ≤ nn)  {x2 x1 : Int} (hx2 : z32 x2) (hx1 : z32 x1) {M : zMem} {Q : Option zAV → zMem → zZ → Prop} {P : (Int) ⊕ (Int) → Prop} (h : zSat (fX12_reads_l152 x2 x1 M) P)  (hc : ∀ s : Int, P (.inl s) → z32 s → zV zmX12_reads nn 0 0 Z 152 [(0, zR 200), (1, zI s), (2, zI x2)] [] M Q) (he : ∀ s : Int, P (.inr s) → z32 s → zV zmX12_reads nn 0 0 Z 172 [(0, zR 200), (1, zI s), (2, zI x2)] [] M Q)   : zV zmX12_reads nn 0 0 Z 152 [(0, zR 200), (1, zI x1), (2, zI x2)] [] M Q := by
  unfold fX12_reads_l152 at h
  refine zV_iload_n 1 dX12_reads_152 rfl rfl ?_
  refine zV_if_le 172 dX12_reads_153 (by decide) hx1 (fun hc_ => ?_) (fun hc_ => ?_)
  · replace h := zs_t h hc_
    exact he _ h hx1
  · replace h := zs_f h hc_
    refine zV_aload_n 0 dX12_reads_156 rfl rfl ?_
    refine zV_getR (j := 231) (zq_200 hZ) zf_X12_30 zkf_X12_72 rfl dX12_reads_157 ?_
    refine zV_iload_n 1 dX12_reads_160 rfl rfl ?_
    obtain ⟨hg, h⟩ := zs_gd h
    refine zV_iald (zq_231 hZ) hg dX12_reads_161 (fun m117 => ?_)
    refine zV_iconst (v := 1) dX12_reads_162 rfl ?_
    refine zV_icmp_ne 172 dX12_reads_163 (by decide) m117 zi_1 (fun hc_ => ?_) (fun hc_ => ?_)
    · replace h := zs_f h hc_
      exact he _ h hx1
    · replace h := zs_t h hc_
      refine zV_iinc 1 [(1, zI (zw (x1 + (-1)))), (0, zR 200), (2, zI x2)] dX12_reads_166 rfl rfl (by decide) rfl ?_
      refine zV_goto 152 dX12_reads_169 (by decide) ?_
      refine zV_ls [1, 0, 2] rfl ?_
      exact hc _ h (z32_w _)
noncomputable def fX12_reads_j147 (x1 x2 s0 : Int) (M : zMem) : Option ((Int × Int × zMem) ⊕ ((Int × Int × zMem) ⊕ (Int × zMem))) :=
  (zbd (fX12_puts s0 M) fun M116 => (zbd (zit (fun s118 => fX12_reads_l152 0 s118 M116) x1) fun s124 => fX12_reads_j172 s124 0 M116))
set_option maxRecDepth 100000 in
set_option maxHeartbeats 4000000 in
theorem fX12_reads_j147_ok {Z : zZ} (hZ : zB Z) {nn : Nat} (hn : 2 ≤ nn)  {x1 x2 s0 : Int} (hx1 : z32 x1) (hx2 : z32 x2) (hs0 : z32 s0) {M : zMem} {Q : Option zAV → zMem → zZ → Prop} {P : (Int × Int × zMem) ⊕ ((Int × Int × zMem) ⊕ (Int × zMem)) → Prop} (h : zSat (fX12_reads_j147 x1 x2 s0 M) P)  (hc : ∀ s : Int × Int × zMem, P (.inl s) → z32 (s.1) → z32 (s.2.1) → zV zmX12_reads nn 0 0 Z 11 [(0, zR 200), (1, zI (s.1)), (2, zI (s.2.1))] [] (s.2.2) Q)  (hr : ∀ r : Int × zMem, P (.inr (.inr r)) → (fun r => Q (some (zI r.1)) r.2 Z) r)  : zV zmX12_reads nn 0 0 Z 147 [(0, zR 200), (1, zI x1), (2, zI x2)] [zI s0, zR 200] M Q := by
  unfold fX12_reads_j147 at h
  refine zV_cVV (y' := zmX12_puts) (n' := 0) (As := [zI s0]) zc_X12_225 (zq_200 hZ) rfl dX12_reads_147 (Nat.le_trans (by decide) hn) rfl (Nat.le_of_ble_eq_true rfl) (Nat.le_of_ble_eq_true rfl) rfl h (fun Q' h' => fX12_puts_ok hZ (Nat.le_refl _) hs0 h') (fun M116 h => ?_)
  refine zV_iconst (v := 0) dX12_reads_150 rfl ?_
  refine zV_istore_n [(2, zI 0), (0, zR 200), (1, zI x1)] dX12_reads_151 rfl (by decide) rfl ?_
  refine zV_ls [1, 2, 0] rfl ?_
  refine (zV_loop (Vh := fun s118 : Int => z32 s118 → zV zmX12_reads nn 0 0 Z 152 [(0, zR 200), (1, zI s118), (2, zI 0)] [] M116 Q) h (fun s118 P119 hP120 hc121 he122 => ?_)) hx1
  intro c123
  refine fX12_reads_l152_ok hZ hn zi_0 c123 hP120 hc121 (fun s124 h125 d126 => ?_)
  have h := he122 _ h125
  exact fX12_reads_j172_ok hZ hn d126 zi_0 h hc hr
noncomputable def fX12_reads_j65 (x1 x2 x3 x4 x5 : Int) (M : zMem) : Option ((Int × Int × zMem) ⊕ ((Int × Int × zMem) ⊕ (Int × zMem))) :=
  (if x1 = 5 then (zbd2 (fX12_fails 5 M) fun r127 M130 => some (.inr (.inr (r127, M130)))) else (if x4 = 0 then (if x5 = 0 then (if x3 ≤ 0 then fX12_reads_j147 x1 x2 (zw (100 + (M 200 8))) M else fX12_reads_j147 x1 x2 x3 M) else fX12_reads_j86 x1 x2 x4 M) else fX12_reads_j86 x1 x2 x4 M))
set_option maxRecDepth 100000 in
set_option maxHeartbeats 4000000 in
theorem fX12_reads_j65_ok {Z : zZ} (hZ : zB Z) {nn : Nat} (hn : 2 ≤ nn)  {x1 x2 x3 x4 x5 : Int} (hx1 : z32 x1) (hx2 : z32 x2) (hx3 : z32 x3) (hx4 : z32 x4) (hbx4 : x4 = 0 ∨ x4 = 1) (hx5 : z32 x5) (hbx5 : x5 = 0 ∨ x5 = 1) {M : zMem} {Q : Option zAV → zMem → zZ → Prop} {P : (Int × Int × zMem) ⊕ ((Int × Int × zMem) ⊕ (Int × zMem)) → Prop} (h : zSat (fX12_reads_j65 x1 x2 x3 x4 x5 M) P)  (hc : ∀ s : Int × Int × zMem, P (.inl s) → z32 (s.1) → z32 (s.2.1) → zV zmX12_reads nn 0 0 Z 11 [(0, zR 200), (1, zI (s.1)), (2, zI (s.2.1))] [] (s.2.2) Q)  (hr : ∀ r : Int × zMem, P (.inr (.inr r)) → (fun r => Q (some (zI r.1)) r.2 Z) r)  : zV zmX12_reads nn 0 0 Z 65 [(0, zR 200), (1, zI x1), (2, zI x2), (3, zI x3), (4, zI x4), (5, zI x5)] [] M Q := by
  unfold fX12_reads_j65 at h
  refine zV_iload_n 1 dX12_reads_65 rfl rfl ?_
  refine zV_iconst (v := 5) dX12_reads_66 rfl ?_
  refine zV_icmp_ne 76 dX12_reads_67 (by decide) hx1 zi_5 (fun hc_ => ?_) (fun hc_ => ?_)
  · replace h := zs_f h hc_
    refine zV_iload 4 dX12_reads_76 rfl ?_
    refine zV_if_ne 86 dX12_reads_78 (by decide) hx4 (fun hc_ => ?_) (fun hc_ => ?_)
    · replace h := zs_f h hc_
      refine zV_ls [0, 1, 2, 4] rfl ?_
      exact fX12_reads_j86_ok hZ hn hx1 hx2 hx4 hbx4 h hc hr
    · replace h := zs_t h hc_
      refine zV_iload 5 dX12_reads_81 rfl ?_
      refine zV_if_eq 131 dX12_reads_83 (by decide) hx5 (fun hc_ => ?_) (fun hc_ => ?_)
      · replace h := zs_t h hc_
        refine zV_aload_n 0 dX12_reads_131 rfl rfl ?_
        refine zV_iload_n 3 dX12_reads_132 rfl rfl ?_
        refine zV_if_le 140 dX12_reads_133 (by decide) hx3 (fun hc_ => ?_) (fun hc_ => ?_)
        · replace h := zs_t h hc_
          refine zV_bipush (v := 100) dX12_reads_140 rfl ?_
          refine zV_aload_n 0 dX12_reads_142 rfl rfl ?_
          refine zV_getI (zq_200 hZ) zf_X12_8 zkf_X12_179 rfl dX12_reads_143 (fun m112 => ?_)
          refine zV_iadd dX12_reads_146 ?_
          refine zV_w ?_
          refine zV_ls [0, 1, 2] rfl ?_
          exact fX12_reads_j147_ok hZ hn hx1 hx2 (z32_w _) h hc hr
        · replace h := zs_f h hc_
          refine zV_iload_n 3 dX12_reads_136 rfl rfl ?_
          refine zV_goto 147 dX12_reads_137 (by decide) ?_
          refine zV_ls [0, 1, 2] rfl ?_
          exact fX12_reads_j147_ok hZ hn hx1 hx2 hx3 h hc hr
      · replace h := zs_f h hc_
        refine zV_ls [0, 1, 2, 4] rfl ?_
        exact fX12_reads_j86_ok hZ hn hx1 hx2 hx4 hbx4 h hc hr
  · replace h := zs_t h hc_
    refine zV_aload_n 0 dX12_reads_70 rfl rfl ?_
    refine zV_iconst (v := 5) dX12_reads_71 rfl ?_
    refine zV_cVIm (y' := zmX12_fails) (n' := 0) (As := [zI 5]) zc_X12_222 (zq_200 hZ) rfl dX12_reads_72 (Nat.le_trans (by decide) hn) rfl (Nat.le_of_ble_eq_true rfl) (Nat.le_of_ble_eq_true rfl) rfl h (fun Q' h' => fX12_fails_ok hZ (Nat.le_refl _) zi_5 h') (fun r127 M130 c128 b129 h => ?_)
    exact zV_iretb dX12_reads_75 rfl (b129 rfl) (hr _ h)
noncomputable def fX12_reads_l11 (x1 x2 : Int) (M : zMem) : Option ((Int × Int × zMem) ⊕ ((Int × Int × zMem) ⊕ (Int × zMem))) :=
  (if x2 = 0 then (zbd (fX12_isSign 43 M) fun r1 => (if r1 = 0 then (zbd (fX12_isSign 45 M) fun r21 => (if r21 = 0 then (zbd (fX12_isSign 42 M) fun r25 => (if r25 = 0 then (zbd (fX12_isSign 60 M) fun r29 => (if r29 = 0 then (zbd (fX12_isSign 61 M) fun r88 => (if r88 = 0 then fX12_reads_j304 x1 x2 M else fX12_reads_j263 x1 x2 M)) else fX12_reads_j263 x1 x2 M)) else fX12_reads_j206 x1 x2 M)) else fX12_reads_j206 x1 x2 M)) else fX12_reads_j206 x1 x2 M)) else (zbd (fX12_fact M) fun r92 => (zbd (fX12_isWord 10631 M) fun r96 => (zbd (fX12_isSign 40 M) fun r100 => (if r92 = 0 then (if r96 = 0 then (if r100 = 0 then (if (M 200 6) = 2 then fX12_reads_j65 x1 x2 r92 r96 r100 M else (zbd2 (fX12_fails 1 M) fun r132 M135 => some (.inr (.inr (r132, M135))))) else fX12_reads_j65 x1 x2 r92 r96 r100 M) else fX12_reads_j65 x1 x2 r92 r96 r100 M) else fX12_reads_j65 x1 x2 r92 r96 r100 M)))))
set_option maxRecDepth 100000 in
set_option maxHeartbeats 4000000 in
theorem fX12_reads_l11_ok {Z : zZ} (hZ : zB Z) {nn : Nat} (hn : 2 ≤ nn)  {x1 x2 : Int} (hx1 : z32 x1) (hx2 : z32 x2) {M : zMem} {Q : Option zAV → zMem → zZ → Prop} {P : (Int × Int × zMem) ⊕ ((Int × Int × zMem) ⊕ (Int × zMem)) → Prop} (h : zSat (fX12_reads_l11 x1 x2 M) P)  (hc : ∀ s : Int × Int × zMem, P (.inl s) → z32 (s.1) → z32 (s.2.1) → zV zmX12_reads nn 0 0 Z 11 [(0, zR 200), (1, zI (s.1)), (2, zI (s.2.1))] [] (s.2.2) Q)  (hr : ∀ r : Int × zMem, P (.inr (.inr r)) → (fun r => Q (some (zI r.1)) r.2 Z) r)  : zV zmX12_reads nn 0 0 Z 11 [(0, zR 200), (1, zI x1), (2, zI x2)] [] M Q := by
  unfold fX12_reads_l11 at h
  refine zV_iload_n 2 dX12_reads_11 rfl rfl ?_
  refine zV_if_eq 179 dX12_reads_12 (by decide) hx2 (fun hc_ => ?_) (fun hc_ => ?_)
  · replace h := zs_t h hc_
    refine zV_aload_n 0 dX12_reads_179 rfl rfl ?_
    refine zV_bipush (v := 43) dX12_reads_180 rfl ?_
    refine zV_cVI (y' := zmX12_isSign) (n' := 0) (As := [zI 43]) zc_X12_218 (zq_200 hZ) rfl dX12_reads_182 (Nat.le_trans (by decide) hn) rfl (Nat.le_of_ble_eq_true rfl) (Nat.le_of_ble_eq_true rfl) rfl h (fun Q' h' => fX12_isSign_ok hZ (Nat.le_refl _) zi_43 h') (fun r1 c2 b3 h => ?_)
    refine zV_if_ne 206 dX12_reads_185 (by decide) c2 (fun hc_ => ?_) (fun hc_ => ?_)
    · replace h := zs_f h hc_
      exact fX12_reads_j206_ok hZ hn hx1 hx2 h hc hr
    · replace h := zs_t h hc_
      refine zV_aload_n 0 dX12_reads_188 rfl rfl ?_
      refine zV_bipush (v := 45) dX12_reads_189 rfl ?_
      refine zV_cVI (y' := zmX12_isSign) (n' := 0) (As := [zI 45]) zc_X12_218 (zq_200 hZ) rfl dX12_reads_191 (Nat.le_trans (by decide) hn) rfl (Nat.le_of_ble_eq_true rfl) (Nat.le_of_ble_eq_true rfl) rfl h (fun Q' h' => fX12_isSign_ok hZ (Nat.le_refl _) zi_45 h') (fun r21 c22 b23 h => ?_)
      refine zV_if_ne 206 dX12_reads_194 (by decide) c22 (fun hc_ => ?_) (fun hc_ => ?_)
      · replace h := zs_f h hc_
        exact fX12_reads_j206_ok hZ hn hx1 hx2 h hc hr
      · replace h := zs_t h hc_
        refine zV_aload_n 0 dX12_reads_197 rfl rfl ?_
        refine zV_bipush (v := 42) dX12_reads_198 rfl ?_
        refine zV_cVI (y' := zmX12_isSign) (n' := 0) (As := [zI 42]) zc_X12_218 (zq_200 hZ) rfl dX12_reads_200 (Nat.le_trans (by decide) hn) rfl (Nat.le_of_ble_eq_true rfl) (Nat.le_of_ble_eq_true rfl) rfl h (fun Q' h' => fX12_isSign_ok hZ (Nat.le_refl _) zi_42 h') (fun r25 c26 b27 h => ?_)
        refine zV_if_eq 245 dX12_reads_203 (by decide) c26 (fun hc_ => ?_) (fun hc_ => ?_)
        · replace h := zs_t h hc_
          refine zV_aload_n 0 dX12_reads_245 rfl rfl ?_
          refine zV_bipush (v := 60) dX12_reads_246 rfl ?_
          refine zV_cVI (y' := zmX12_isSign) (n' := 0) (As := [zI 60]) zc_X12_218 (zq_200 hZ) rfl dX12_reads_248 (Nat.le_trans (by decide) hn) rfl (Nat.le_of_ble_eq_true rfl) (Nat.le_of_ble_eq_true rfl) rfl h (fun Q' h' => fX12_isSign_ok hZ (Nat.le_refl _) zi_60 h') (fun r29 c30 b31 h => ?_)
          refine zV_if_ne 263 dX12_reads_251 (by decide) c30 (fun hc_ => ?_) (fun hc_ => ?_)
          · replace h := zs_f h hc_
            exact fX12_reads_j263_ok hZ hn hx1 hx2 h hc hr
          · replace h := zs_t h hc_
            refine zV_aload_n 0 dX12_reads_254 rfl rfl ?_
            refine zV_bipush (v := 61) dX12_reads_255 rfl ?_
            refine zV_cVI (y' := zmX12_isSign) (n' := 0) (As := [zI 61]) zc_X12_218 (zq_200 hZ) rfl dX12_reads_257 (Nat.le_trans (by decide) hn) rfl (Nat.le_of_ble_eq_true rfl) (Nat.le_of_ble_eq_true rfl) rfl h (fun Q' h' => fX12_isSign_ok hZ (Nat.le_refl _) zi_61 h') (fun r88 c89 b90 h => ?_)
            refine zV_if_eq 304 dX12_reads_260 (by decide) c89 (fun hc_ => ?_) (fun hc_ => ?_)
            · replace h := zs_t h hc_
              exact fX12_reads_j304_ok hZ hn hx1 hx2 h hc hr
            · replace h := zs_f h hc_
              exact fX12_reads_j263_ok hZ hn hx1 hx2 h hc hr
        · replace h := zs_f h hc_
          exact fX12_reads_j206_ok hZ hn hx1 hx2 h hc hr
  · replace h := zs_f h hc_
    refine zV_aload_n 0 dX12_reads_15 rfl rfl ?_
    refine zV_cVI (y' := zmX12_fact) (n' := 0) (As := []) zc_X12_208 (zq_200 hZ) rfl dX12_reads_16 (Nat.le_trans (by decide) hn) rfl (Nat.le_of_ble_eq_true rfl) (Nat.le_of_ble_eq_true rfl) rfl h (fun Q' h' => fX12_fact_ok hZ (Nat.le_refl _)  h') (fun r92 c93 b94 h => ?_)
    refine zV_istore_n [(3, zI r92), (0, zR 200), (1, zI x1), (2, zI x2)] dX12_reads_19 rfl (by decide) rfl ?_
    refine zV_aload_n 1 dX12_reads_20 rfl rfl ?_
    refine zV_ldc2 (v := 10631) zkl_X12_212 rfl dX12_reads_21 ?_
    refine zV_cVI (y' := zmX12_isWord) (n' := 0) (As := [zL 10631]) zc_X12_214 (zq_200 hZ) rfl dX12_reads_24 (Nat.le_trans (by decide) hn) rfl (Nat.le_of_ble_eq_true rfl) (Nat.le_of_ble_eq_true rfl) rfl h (fun Q' h' => fX12_isWord_ok hZ (Nat.le_refl _) zj_10631 h') (fun r96 c97 b98 h => ?_)
    refine zV_istore [(4, zI r96), (3, zI r92), (0, zR 200), (1, zI x1), (2, zI x2)] dX12_reads_27 (by decide) rfl ?_
    refine zV_aload_n 2 dX12_reads_29 rfl rfl ?_
    refine zV_bipush (v := 40) dX12_reads_30 rfl ?_
    refine zV_cVI (y' := zmX12_isSign) (n' := 0) (As := [zI 40]) zc_X12_218 (zq_200 hZ) rfl dX12_reads_32 (Nat.le_trans (by decide) hn) rfl (Nat.le_of_ble_eq_true rfl) (Nat.le_of_ble_eq_true rfl) rfl h (fun Q' h' => fX12_isSign_ok hZ (Nat.le_refl _) zi_40 h') (fun r100 c101 b102 h => ?_)
    refine zV_istore [(5, zI r100), (4, zI r96), (3, zI r92), (0, zR 200), (1, zI x1), (2, zI x2)] dX12_reads_35 (by decide) rfl ?_
    refine zV_iload_n 2 dX12_reads_37 rfl rfl ?_
    refine zV_if_ne 65 dX12_reads_38 (by decide) c93 (fun hc_ => ?_) (fun hc_ => ?_)
    · replace h := zs_f h hc_
      refine zV_ls [3, 4, 5, 2, 1, 0] rfl ?_
      exact fX12_reads_j65_ok hZ hn hx1 hx2 c93 c97 (b98 rfl) c101 (b102 rfl) h hc hr
    · replace h := zs_t h hc_
      refine zV_iload 1 dX12_reads_41 rfl ?_
      refine zV_if_ne 65 dX12_reads_43 (by decide) c97 (fun hc_ => ?_) (fun hc_ => ?_)
      · replace h := zs_f h hc_
        refine zV_ls [3, 4, 5, 2, 1, 0] rfl ?_
        exact fX12_reads_j65_ok hZ hn hx1 hx2 c93 c97 (b98 rfl) c101 (b102 rfl) h hc hr
      · replace h := zs_t h hc_
        refine zV_iload 0 dX12_reads_46 rfl ?_
        refine zV_if_ne 65 dX12_reads_48 (by decide) c101 (fun hc_ => ?_) (fun hc_ => ?_)
        · replace h := zs_f h hc_
          refine zV_ls [3, 4, 5, 2, 1, 0] rfl ?_
          exact fX12_reads_j65_ok hZ hn hx1 hx2 c93 c97 (b98 rfl) c101 (b102 rfl) h hc hr
        · replace h := zs_t h hc_
          refine zV_aload_n 3 dX12_reads_51 rfl rfl ?_
          refine zV_getI (zq_200 hZ) zf_X12_6 zkf_X12_182 rfl dX12_reads_52 (fun m131 => ?_)
          refine zV_iconst (v := 2) dX12_reads_55 rfl ?_
          refine zV_icmp_eq 65 dX12_reads_56 (by decide) m131 zi_2 (fun hc_ => ?_) (fun hc_ => ?_)
          · replace h := zs_t h hc_
            refine zV_ls [3, 4, 5, 2, 1, 0] rfl ?_
            exact fX12_reads_j65_ok hZ hn hx1 hx2 c93 c97 (b98 rfl) c101 (b102 rfl) h hc hr
          · replace h := zs_f h hc_
            refine zV_aload_n 3 dX12_reads_59 rfl rfl ?_
            refine zV_iconst (v := 1) dX12_reads_60 rfl ?_
            refine zV_cVIm (y' := zmX12_fails) (n' := 0) (As := [zI 1]) zc_X12_222 (zq_200 hZ) rfl dX12_reads_61 (Nat.le_trans (by decide) hn) rfl (Nat.le_of_ble_eq_true rfl) (Nat.le_of_ble_eq_true rfl) rfl h (fun Q' h' => fX12_fails_ok hZ (Nat.le_refl _) zi_1 h') (fun r132 M135 c133 b134 h => ?_)
            exact zV_iretb dX12_reads_64 rfl (b134 rfl) (hr _ h)
noncomputable def fX12_reads (M : zMem) : Option (Int × zMem) :=
  (zgd ((0 : Int) ≤ (0 : Int) ∧ (0 : Int) < 7) (zbd (zit (fun s136 => fX12_reads_l11 (s136.1) (s136.2.1) (s136.2.2)) (0, 1, (zup M 232 0 0))) fun e => zel e (fun _ => none) (fun r => some r)))
set_option maxRecDepth 100000 in
set_option maxHeartbeats 4000000 in
theorem fX12_reads_ok {Z : zZ} (hZ : zB Z) {nn : Nat} (hn : 2 ≤ nn)   {M : zMem} {Q : Option zAV → zMem → zZ → Prop} (h : zSat (fX12_reads M) (fun r => Q (some (zI r.1)) r.2 Z))  : zV zmX12_reads nn 0 0 Z 0 [(0, zR 200)] [] M Q := by
  unfold fX12_reads at h
  refine zV_iconst (v := 0) dX12_reads_0 rfl ?_
  refine zV_istore_n [(1, zI 0), (0, zR 200)] dX12_reads_1 rfl (by decide) rfl ?_
  refine zV_iconst (v := 1) dX12_reads_2 rfl ?_
  refine zV_istore_n [(2, zI 1), (1, zI 0), (0, zR 200)] dX12_reads_3 rfl (by decide) rfl ?_
  refine zV_aload_n 2 dX12_reads_4 rfl rfl ?_
  refine zV_getR (j := 232) (zq_200 hZ) zf_X12_31 zkf_X12_75 rfl dX12_reads_5 ?_
  refine zV_iconst (v := 0) dX12_reads_8 rfl ?_
  refine zV_iconst (v := 0) dX12_reads_9 rfl ?_
  obtain ⟨hg, h⟩ := zs_gd h
  refine zV_zast (zq_232 hZ) (by decide) hg (Or.inl rfl) dX12_reads_10 ?_
  refine zV_ls [2, 1, 0] rfl ?_
  refine (zV_loop (Vh := fun s136 : Int × Int × zMem => z32 (s136.1) → z32 (s136.2.1) → zV zmX12_reads nn 0 0 Z 11 [(0, zR 200), (1, zI (s136.1)), (2, zI (s136.2.1))] [] (s136.2.2) Q) h (fun s136 P137 hP138 hc139 he140 => ?_)) zi_0 zi_1
  intro c141 c142
  exact fX12_reads_l11_ok hZ hn c141 c142 hP138 hc139 (fun r147 h148 => he140 _ h148)
noncomputable def fX12_opens (x1 : Int) (M : zMem) : Option (zMem) :=
  (zgd ((0 : Int) ≤ x1 ∧ x1 < 7) (zgd ((0 : Int) ≤ x1 ∧ x1 < 7) (zgd ((0 : Int) ≤ x1 ∧ x1 < 7) (zgd ((0 : Int) ≤ x1 ∧ x1 < 7) (zgd ((0 : Int) ≤ x1 ∧ x1 < 7) (some (zup (zup (zup (zup (zup M 234 x1 0) 236 x1 0) 237 x1 0) 238 x1 20) 240 x1 0)))))))
set_option maxRecDepth 100000 in
set_option maxHeartbeats 4000000 in
theorem fX12_opens_ok {Z : zZ} (hZ : zB Z) {nn : Nat} (hn : 0 ≤ nn)  {x1 : Int} (hx1 : z32 x1) {M : zMem} {Q : Option zAV → zMem → zZ → Prop} (h : zSat (fX12_opens x1 M) (fun r => Q none r Z))  : zV zmX12_opens nn 0 0 Z 0 [(0, zR 200), (1, zI x1)] [] M Q := by
  unfold fX12_opens at h
  refine zV_aload_n 0 dX12_opens_0 rfl rfl ?_
  refine zV_getR (j := 234) (zq_200 hZ) zf_X12_33 zkf_X12_81 rfl dX12_opens_1 ?_
  refine zV_iload_n 1 dX12_opens_4 rfl rfl ?_
  refine zV_iconst (v := 0) dX12_opens_5 rfl ?_
  obtain ⟨hg, h⟩ := zs_gd h
  refine zV_iast (zq_234 hZ) (by decide) hg zi_0 dX12_opens_6 ?_
  refine zV_aload_n 0 dX12_opens_7 rfl rfl ?_
  refine zV_getR (j := 236) (zq_200 hZ) zf_X12_35 zkf_X12_87 rfl dX12_opens_8 ?_
  refine zV_iload_n 1 dX12_opens_11 rfl rfl ?_
  refine zV_iconst (v := 0) dX12_opens_12 rfl ?_
  obtain ⟨hg, h⟩ := zs_gd h
  refine zV_iast (zq_236 hZ) (by decide) hg zi_0 dX12_opens_13 ?_
  refine zV_aload_n 0 dX12_opens_14 rfl rfl ?_
  refine zV_getR (j := 237) (zq_200 hZ) zf_X12_36 zkf_X12_90 rfl dX12_opens_15 ?_
  refine zV_iload_n 1 dX12_opens_18 rfl rfl ?_
  refine zV_iconst (v := 0) dX12_opens_19 rfl ?_
  obtain ⟨hg, h⟩ := zs_gd h
  refine zV_iast (zq_237 hZ) (by decide) hg zi_0 dX12_opens_20 ?_
  refine zV_aload_n 0 dX12_opens_21 rfl rfl ?_
  refine zV_getR (j := 238) (zq_200 hZ) zf_X12_37 zkf_X12_93 rfl dX12_opens_22 ?_
  refine zV_iload_n 1 dX12_opens_25 rfl rfl ?_
  refine zV_bipush (v := 20) dX12_opens_26 rfl ?_
  obtain ⟨hg, h⟩ := zs_gd h
  refine zV_iast (zq_238 hZ) (by decide) hg zi_20 dX12_opens_28 ?_
  refine zV_aload_n 0 dX12_opens_29 rfl rfl ?_
  refine zV_getR (j := 240) (zq_200 hZ) zf_X12_39 zkf_X12_99 rfl dX12_opens_30 ?_
  refine zV_iload_n 1 dX12_opens_33 rfl rfl ?_
  refine zV_iconst (v := 0) dX12_opens_34 rfl ?_
  obtain ⟨hg, h⟩ := zs_gd h
  refine zV_iast (zq_240 hZ) (by decide) hg zi_0 dX12_opens_35 ?_
  exact zV_vret dX12_opens_36 rfl h
noncomputable def fX12_sums_j45 (x1 s0 s1 : Int) (M : zMem) : Option (zMem) :=
  (zgd ((0 : Int) ≤ s1 ∧ s1 < 7) (zgd ((0 : Int) ≤ x1 ∧ x1 < 7) (some (zup (zup M 237 s1 s0) 240 x1 0))))
set_option maxRecDepth 100000 in
set_option maxHeartbeats 4000000 in
theorem fX12_sums_j45_ok {Z : zZ} (hZ : zB Z) {nn : Nat} (hn : 0 ≤ nn)  {x1 s0 s1 : Int} (hx1 : z32 x1) (hs0 : z32 s0) (hs1 : z32 s1) {M : zMem} {Q : Option zAV → zMem → zZ → Prop} (h : zSat (fX12_sums_j45 x1 s0 s1 M) (fun r => Q none r Z))  : zV zmX12_sums nn 0 0 Z 45 [(0, zR 200), (1, zI x1)] [zI s0, zI s1, zR 237] M Q := by
  unfold fX12_sums_j45 at h
  obtain ⟨hg, h⟩ := zs_gd h
  refine zV_iast (zq_237 hZ) (by decide) hg hs0 dX12_sums_45 ?_
  refine zV_aload_n 0 dX12_sums_46 rfl rfl ?_
  refine zV_getR (j := 240) (zq_200 hZ) zf_X12_39 zkf_X12_99 rfl dX12_sums_47 ?_
  refine zV_iload_n 1 dX12_sums_50 rfl rfl ?_
  refine zV_iconst (v := 0) dX12_sums_51 rfl ?_
  obtain ⟨hg, h⟩ := zs_gd h
  refine zV_iast (zq_240 hZ) (by decide) hg zi_0 dX12_sums_52 ?_
  exact zV_vret dX12_sums_53 rfl h
noncomputable def fX12_sums (x1 : Int) (M : zMem) : Option (zMem) :=
  (zgd ((0 : Int) ≤ x1 ∧ x1 < 7) (if (M 238 x1) = 21 then (zgd ((0 : Int) ≤ x1 ∧ x1 < 7) (zgd ((0 : Int) ≤ x1 ∧ x1 < 7) (fX12_sums_j45 x1 (zw ((M 237 x1) - (M 239 x1))) x1 M))) else (zgd ((0 : Int) ≤ x1 ∧ x1 < 7) (zgd ((0 : Int) ≤ x1 ∧ x1 < 7) (fX12_sums_j45 x1 (zw ((M 237 x1) + (M 239 x1))) x1 M)))))
set_option maxRecDepth 100000 in
set_option maxHeartbeats 4000000 in
theorem fX12_sums_ok {Z : zZ} (hZ : zB Z) {nn : Nat} (hn : 0 ≤ nn)  {x1 : Int} (hx1 : z32 x1) {M : zMem} {Q : Option zAV → zMem → zZ → Prop} (h : zSat (fX12_sums x1 M) (fun r => Q none r Z))  : zV zmX12_sums nn 0 0 Z 0 [(0, zR 200), (1, zI x1)] [] M Q := by
  unfold fX12_sums at h
  refine zV_aload_n 0 dX12_sums_0 rfl rfl ?_
  refine zV_getR (j := 237) (zq_200 hZ) zf_X12_36 zkf_X12_90 rfl dX12_sums_1 ?_
  refine zV_iload_n 1 dX12_sums_4 rfl rfl ?_
  refine zV_aload_n 0 dX12_sums_5 rfl rfl ?_
  refine zV_getR (j := 238) (zq_200 hZ) zf_X12_37 zkf_X12_93 rfl dX12_sums_6 ?_
  refine zV_iload_n 1 dX12_sums_9 rfl rfl ?_
  obtain ⟨hg, h⟩ := zs_gd h
  refine zV_iald (zq_238 hZ) hg dX12_sums_10 (fun m1 => ?_)
  refine zV_bipush (v := 21) dX12_sums_11 rfl ?_
  refine zV_icmp_ne 32 dX12_sums_13 (by decide) m1 zi_21 (fun hc_ => ?_) (fun hc_ => ?_)
  · replace h := zs_f h hc_
    refine zV_aload_n 0 dX12_sums_32 rfl rfl ?_
    refine zV_getR (j := 237) (zq_200 hZ) zf_X12_36 zkf_X12_90 rfl dX12_sums_33 ?_
    refine zV_iload_n 1 dX12_sums_36 rfl rfl ?_
    obtain ⟨hg, h⟩ := zs_gd h
    refine zV_iald (zq_237 hZ) hg dX12_sums_37 (fun m2 => ?_)
    refine zV_aload_n 0 dX12_sums_38 rfl rfl ?_
    refine zV_getR (j := 239) (zq_200 hZ) zf_X12_38 zkf_X12_96 rfl dX12_sums_39 ?_
    refine zV_iload_n 1 dX12_sums_42 rfl rfl ?_
    obtain ⟨hg, h⟩ := zs_gd h
    refine zV_iald (zq_239 hZ) hg dX12_sums_43 (fun m3 => ?_)
    refine zV_iadd dX12_sums_44 ?_
    refine zV_w ?_
    exact fX12_sums_j45_ok hZ hn hx1 (z32_w _) hx1 h
  · replace h := zs_t h hc_
    refine zV_aload_n 0 dX12_sums_16 rfl rfl ?_
    refine zV_getR (j := 237) (zq_200 hZ) zf_X12_36 zkf_X12_90 rfl dX12_sums_17 ?_
    refine zV_iload_n 1 dX12_sums_20 rfl rfl ?_
    obtain ⟨hg, h⟩ := zs_gd h
    refine zV_iald (zq_237 hZ) hg dX12_sums_21 (fun m4 => ?_)
    refine zV_aload_n 0 dX12_sums_22 rfl rfl ?_
    refine zV_getR (j := 239) (zq_200 hZ) zf_X12_38 zkf_X12_96 rfl dX12_sums_23 ?_
    refine zV_iload_n 1 dX12_sums_26 rfl rfl ?_
    obtain ⟨hg, h⟩ := zs_gd h
    refine zV_iald (zq_239 hZ) hg dX12_sums_27 (fun m5 => ?_)
    refine zV_isub dX12_sums_28 ?_
    refine zV_goto 45 dX12_sums_29 (by decide) ?_
    refine zV_w ?_
    exact fX12_sums_j45_ok hZ hn hx1 (z32_w _) hx1 h
noncomputable def fX12_tests_j136 (x1 x2 : Int) (M : zMem) : Option (zMem) :=
  (zgd ((0 : Int) ≤ x1 ∧ x1 < 7) (zgd ((0 : Int) ≤ x1 ∧ x1 < 7) (zgd ((0 : Int) ≤ x1 ∧ x1 < 7) (zgd ((0 : Int) ≤ x1 ∧ x1 < 7) (some (zup (zup (zup (zup M 233 x1 x2) 236 x1 0) 237 x1 0) 238 x1 20))))))
set_option maxRecDepth 100000 in
set_option maxHeartbeats 4000000 in
theorem fX12_tests_j136_ok {Z : zZ} (hZ : zB Z) {nn : Nat} (hn : 1 ≤ nn)  {x1 x2 : Int} (hx1 : z32 x1) (hx2 : z32 x2) {M : zMem} {Q : Option zAV → zMem → zZ → Prop} (h : zSat (fX12_tests_j136 x1 x2 M) (fun r => Q none r Z))  : zV zmX12_tests nn 0 0 Z 136 [(0, zR 200), (1, zI x1), (2, zI x2)] [] M Q := by
  unfold fX12_tests_j136 at h
  refine zV_aload_n 0 dX12_tests_136 rfl rfl ?_
  refine zV_getR (j := 233) (zq_200 hZ) zf_X12_32 zkf_X12_78 rfl dX12_tests_137 ?_
  refine zV_iload_n 1 dX12_tests_140 rfl rfl ?_
  refine zV_iload_n 2 dX12_tests_141 rfl rfl ?_
  obtain ⟨hg, h⟩ := zs_gd h
  refine zV_iast (zq_233 hZ) (by decide) hg hx2 dX12_tests_142 ?_
  refine zV_aload_n 0 dX12_tests_143 rfl rfl ?_
  refine zV_getR (j := 236) (zq_200 hZ) zf_X12_35 zkf_X12_87 rfl dX12_tests_144 ?_
  refine zV_iload_n 1 dX12_tests_147 rfl rfl ?_
  refine zV_iconst (v := 0) dX12_tests_148 rfl ?_
  obtain ⟨hg, h⟩ := zs_gd h
  refine zV_iast (zq_236 hZ) (by decide) hg zi_0 dX12_tests_149 ?_
  refine zV_aload_n 0 dX12_tests_150 rfl rfl ?_
  refine zV_getR (j := 237) (zq_200 hZ) zf_X12_36 zkf_X12_90 rfl dX12_tests_151 ?_
  refine zV_iload_n 1 dX12_tests_154 rfl rfl ?_
  refine zV_iconst (v := 0) dX12_tests_155 rfl ?_
  obtain ⟨hg, h⟩ := zs_gd h
  refine zV_iast (zq_237 hZ) (by decide) hg zi_0 dX12_tests_156 ?_
  refine zV_aload_n 0 dX12_tests_157 rfl rfl ?_
  refine zV_getR (j := 238) (zq_200 hZ) zf_X12_37 zkf_X12_93 rfl dX12_tests_158 ?_
  refine zV_iload_n 1 dX12_tests_161 rfl rfl ?_
  refine zV_bipush (v := 20) dX12_tests_162 rfl ?_
  obtain ⟨hg, h⟩ := zs_gd h
  refine zV_iast (zq_238 hZ) (by decide) hg zi_20 dX12_tests_164 ?_
  exact zV_vret dX12_tests_165 rfl h
noncomputable def fX12_tests_j135 (x1 s0 : Int) (M : zMem) : Option (zMem) :=
  fX12_tests_j136 x1 s0 M
set_option maxRecDepth 100000 in
set_option maxHeartbeats 4000000 in
theorem fX12_tests_j135_ok {Z : zZ} (hZ : zB Z) {nn : Nat} (hn : 1 ≤ nn)  {x1 s0 : Int} (hx1 : z32 x1) (hs0 : z32 s0) (hbs0 : s0 = 0 ∨ s0 = 1) {M : zMem} {Q : Option zAV → zMem → zZ → Prop} (h : zSat (fX12_tests_j135 x1 s0 M) (fun r => Q none r Z))  : zV zmX12_tests nn 0 0 Z 135 [(0, zR 200), (1, zI x1)] [zI s0] M Q := by
  unfold fX12_tests_j135 at h
  refine zV_istore_n [(2, zI s0), (0, zR 200), (1, zI x1)] dX12_tests_135 rfl (by decide) rfl ?_
  refine zV_ls [1, 2, 0] rfl ?_
  exact fX12_tests_j136_ok hZ hn hx1 hs0 h
noncomputable def fX12_tests_j130 (x1 : Int) (M : zMem) : Option (zMem) :=
  fX12_tests_j135 x1 1 M
set_option maxRecDepth 100000 in
set_option maxHeartbeats 4000000 in
theorem fX12_tests_j130_ok {Z : zZ} (hZ : zB Z) {nn : Nat} (hn : 1 ≤ nn)  {x1 : Int} (hx1 : z32 x1) {M : zMem} {Q : Option zAV → zMem → zZ → Prop} (h : zSat (fX12_tests_j130 x1 M) (fun r => Q none r Z))  : zV zmX12_tests nn 0 0 Z 130 [(0, zR 200), (1, zI x1)] [] M Q := by
  unfold fX12_tests_j130 at h
  refine zV_iconst (v := 1) dX12_tests_130 rfl ?_
  refine zV_goto 135 dX12_tests_131 (by decide) ?_
  exact fX12_tests_j135_ok hZ hn hx1 zi_1 (Or.inr rfl) h
noncomputable def fX12_tests_j106 (x1 x2 : Int) (M : zMem) : Option (zMem) :=
  (zgd ((0 : Int) ≤ x1 ∧ x1 < 7) (if (M 234 x1) = 27 then (zgd ((0 : Int) ≤ x1 ∧ x1 < 7) (if (M 233 x1) = 0 then (if x2 = 0 then fX12_tests_j135 x1 0 M else fX12_tests_j130 x1 M) else fX12_tests_j130 x1 M)) else fX12_tests_j136 x1 x2 M))
set_option maxRecDepth 100000 in
set_option maxHeartbeats 4000000 in
theorem fX12_tests_j106_ok {Z : zZ} (hZ : zB Z) {nn : Nat} (hn : 1 ≤ nn)  {x1 x2 : Int} (hx1 : z32 x1) (hx2 : z32 x2) {M : zMem} {Q : Option zAV → zMem → zZ → Prop} (h : zSat (fX12_tests_j106 x1 x2 M) (fun r => Q none r Z))  : zV zmX12_tests nn 0 0 Z 106 [(0, zR 200), (1, zI x1), (2, zI x2)] [] M Q := by
  unfold fX12_tests_j106 at h
  refine zV_aload_n 0 dX12_tests_106 rfl rfl ?_
  refine zV_getR (j := 234) (zq_200 hZ) zf_X12_33 zkf_X12_81 rfl dX12_tests_107 ?_
  refine zV_iload_n 1 dX12_tests_110 rfl rfl ?_
  obtain ⟨hg, h⟩ := zs_gd h
  refine zV_iald (zq_234 hZ) hg dX12_tests_111 (fun m9 => ?_)
  refine zV_bipush (v := 27) dX12_tests_112 rfl ?_
  refine zV_icmp_ne 136 dX12_tests_114 (by decide) m9 zi_27 (fun hc_ => ?_) (fun hc_ => ?_)
  · replace h := zs_f h hc_
    exact fX12_tests_j136_ok hZ hn hx1 hx2 h
  · replace h := zs_t h hc_
    refine zV_aload_n 0 dX12_tests_117 rfl rfl ?_
    refine zV_getR (j := 233) (zq_200 hZ) zf_X12_32 zkf_X12_78 rfl dX12_tests_118 ?_
    refine zV_iload_n 1 dX12_tests_121 rfl rfl ?_
    obtain ⟨hg, h⟩ := zs_gd h
    refine zV_iald (zq_233 hZ) hg dX12_tests_122 (fun m10 => ?_)
    refine zV_if_ne 130 dX12_tests_123 (by decide) m10 (fun hc_ => ?_) (fun hc_ => ?_)
    · replace h := zs_f h hc_
      refine zV_ls [0, 1] rfl ?_
      exact fX12_tests_j130_ok hZ hn hx1 h
    · replace h := zs_t h hc_
      refine zV_iload_n 2 dX12_tests_126 rfl rfl ?_
      refine zV_if_eq 134 dX12_tests_127 (by decide) hx2 (fun hc_ => ?_) (fun hc_ => ?_)
      · replace h := zs_t h hc_
        refine zV_iconst (v := 0) dX12_tests_134 rfl ?_
        refine zV_ls [0, 1] rfl ?_
        exact fX12_tests_j135_ok hZ hn hx1 zi_0 (Or.inl rfl) h
      · replace h := zs_f h hc_
        refine zV_ls [0, 1] rfl ?_
        exact fX12_tests_j130_ok hZ hn hx1 h
noncomputable def fX12_tests_j105 (x1 s0 : Int) (M : zMem) : Option (zMem) :=
  fX12_tests_j106 x1 s0 M
set_option maxRecDepth 100000 in
set_option maxHeartbeats 4000000 in
theorem fX12_tests_j105_ok {Z : zZ} (hZ : zB Z) {nn : Nat} (hn : 1 ≤ nn)  {x1 s0 : Int} (hx1 : z32 x1) (hs0 : z32 s0) (hbs0 : s0 = 0 ∨ s0 = 1) {M : zMem} {Q : Option zAV → zMem → zZ → Prop} (h : zSat (fX12_tests_j105 x1 s0 M) (fun r => Q none r Z))  : zV zmX12_tests nn 0 0 Z 105 [(0, zR 200), (1, zI x1)] [zI s0] M Q := by
  unfold fX12_tests_j105 at h
  refine zV_istore_n [(2, zI s0), (0, zR 200), (1, zI x1)] dX12_tests_105 rfl (by decide) rfl ?_
  refine zV_ls [1, 2, 0] rfl ?_
  exact fX12_tests_j106_ok hZ hn hx1 hs0 h
noncomputable def fX12_tests_j104 (x1 : Int) (M : zMem) : Option (zMem) :=
  fX12_tests_j105 x1 0 M
set_option maxRecDepth 100000 in
set_option maxHeartbeats 4000000 in
theorem fX12_tests_j104_ok {Z : zZ} (hZ : zB Z) {nn : Nat} (hn : 1 ≤ nn)  {x1 : Int} (hx1 : z32 x1) {M : zMem} {Q : Option zAV → zMem → zZ → Prop} (h : zSat (fX12_tests_j104 x1 M) (fun r => Q none r Z))  : zV zmX12_tests nn 0 0 Z 104 [(0, zR 200), (1, zI x1)] [] M Q := by
  unfold fX12_tests_j104 at h
  refine zV_iconst (v := 0) dX12_tests_104 rfl ?_
  exact fX12_tests_j105_ok hZ hn hx1 zi_0 (Or.inl rfl) h
noncomputable def fX12_tests_j76 (x1 x2 : Int) (M : zMem) : Option (zMem) :=
  (zgd ((0 : Int) ≤ x1 ∧ x1 < 7) (if (M 234 x1) = 26 then (zgd ((0 : Int) ≤ x1 ∧ x1 < 7) (if (M 233 x1) = 0 then fX12_tests_j104 x1 M else (if x2 = 0 then fX12_tests_j104 x1 M else fX12_tests_j105 x1 1 M))) else fX12_tests_j106 x1 x2 M))
set_option maxRecDepth 100000 in
set_option maxHeartbeats 4000000 in
theorem fX12_tests_j76_ok {Z : zZ} (hZ : zB Z) {nn : Nat} (hn : 1 ≤ nn)  {x1 x2 : Int} (hx1 : z32 x1) (hx2 : z32 x2) {M : zMem} {Q : Option zAV → zMem → zZ → Prop} (h : zSat (fX12_tests_j76 x1 x2 M) (fun r => Q none r Z))  : zV zmX12_tests nn 0 0 Z 76 [(0, zR 200), (1, zI x1), (2, zI x2)] [] M Q := by
  unfold fX12_tests_j76 at h
  refine zV_aload_n 0 dX12_tests_76 rfl rfl ?_
  refine zV_getR (j := 234) (zq_200 hZ) zf_X12_33 zkf_X12_81 rfl dX12_tests_77 ?_
  refine zV_iload_n 1 dX12_tests_80 rfl rfl ?_
  obtain ⟨hg, h⟩ := zs_gd h
  refine zV_iald (zq_234 hZ) hg dX12_tests_81 (fun m8 => ?_)
  refine zV_bipush (v := 26) dX12_tests_82 rfl ?_
  refine zV_icmp_ne 106 dX12_tests_84 (by decide) m8 zi_26 (fun hc_ => ?_) (fun hc_ => ?_)
  · replace h := zs_f h hc_
    exact fX12_tests_j106_ok hZ hn hx1 hx2 h
  · replace h := zs_t h hc_
    refine zV_aload_n 0 dX12_tests_87 rfl rfl ?_
    refine zV_getR (j := 233) (zq_200 hZ) zf_X12_32 zkf_X12_78 rfl dX12_tests_88 ?_
    refine zV_iload_n 1 dX12_tests_91 rfl rfl ?_
    obtain ⟨hg, h⟩ := zs_gd h
    refine zV_iald (zq_233 hZ) hg dX12_tests_92 (fun m11 => ?_)
    refine zV_if_eq 104 dX12_tests_93 (by decide) m11 (fun hc_ => ?_) (fun hc_ => ?_)
    · replace h := zs_t h hc_
      refine zV_ls [0, 1] rfl ?_
      exact fX12_tests_j104_ok hZ hn hx1 h
    · replace h := zs_f h hc_
      refine zV_iload_n 2 dX12_tests_96 rfl rfl ?_
      refine zV_if_eq 104 dX12_tests_97 (by decide) hx2 (fun hc_ => ?_) (fun hc_ => ?_)
      · replace h := zs_t h hc_
        refine zV_ls [0, 1] rfl ?_
        exact fX12_tests_j104_ok hZ hn hx1 h
      · replace h := zs_f h hc_
        refine zV_iconst (v := 1) dX12_tests_100 rfl ?_
        refine zV_goto 105 dX12_tests_101 (by decide) ?_
        refine zV_ls [0, 1] rfl ?_
        exact fX12_tests_j105_ok hZ hn hx1 zi_1 (Or.inr rfl) h
noncomputable def fX12_tests_j75 (x1 s0 : Int) (M : zMem) : Option (zMem) :=
  fX12_tests_j76 x1 s0 M
set_option maxRecDepth 100000 in
set_option maxHeartbeats 4000000 in
theorem fX12_tests_j75_ok {Z : zZ} (hZ : zB Z) {nn : Nat} (hn : 1 ≤ nn)  {x1 s0 : Int} (hx1 : z32 x1) (hs0 : z32 s0) (hbs0 : s0 = 0 ∨ s0 = 1) {M : zMem} {Q : Option zAV → zMem → zZ → Prop} (h : zSat (fX12_tests_j75 x1 s0 M) (fun r => Q none r Z))  : zV zmX12_tests nn 0 0 Z 75 [(0, zR 200), (1, zI x1)] [zI s0] M Q := by
  unfold fX12_tests_j75 at h
  refine zV_istore_n [(2, zI s0), (0, zR 200), (1, zI x1)] dX12_tests_75 rfl (by decide) rfl ?_
  refine zV_ls [1, 2, 0] rfl ?_
  exact fX12_tests_j76_ok hZ hn hx1 hs0 h
noncomputable def fX12_tests_j44 (x1 x2 : Int) (M : zMem) : Option (zMem) :=
  (zgd ((0 : Int) ≤ x1 ∧ x1 < 7) (if (M 236 x1) = 25 then (zgd ((0 : Int) ≤ x1 ∧ x1 < 7) (zgd ((0 : Int) ≤ x1 ∧ x1 < 7) (if (M 235 x1) = (M 237 x1) then fX12_tests_j75 x1 1 M else fX12_tests_j75 x1 0 M))) else fX12_tests_j76 x1 x2 M))
set_option maxRecDepth 100000 in
set_option maxHeartbeats 4000000 in
theorem fX12_tests_j44_ok {Z : zZ} (hZ : zB Z) {nn : Nat} (hn : 1 ≤ nn)  {x1 x2 : Int} (hx1 : z32 x1) (hx2 : z32 x2) {M : zMem} {Q : Option zAV → zMem → zZ → Prop} (h : zSat (fX12_tests_j44 x1 x2 M) (fun r => Q none r Z))  : zV zmX12_tests nn 0 0 Z 44 [(0, zR 200), (1, zI x1), (2, zI x2)] [] M Q := by
  unfold fX12_tests_j44 at h
  refine zV_aload_n 0 dX12_tests_44 rfl rfl ?_
  refine zV_getR (j := 236) (zq_200 hZ) zf_X12_35 zkf_X12_87 rfl dX12_tests_45 ?_
  refine zV_iload_n 1 dX12_tests_48 rfl rfl ?_
  obtain ⟨hg, h⟩ := zs_gd h
  refine zV_iald (zq_236 hZ) hg dX12_tests_49 (fun m7 => ?_)
  refine zV_bipush (v := 25) dX12_tests_50 rfl ?_
  refine zV_icmp_ne 76 dX12_tests_52 (by decide) m7 zi_25 (fun hc_ => ?_) (fun hc_ => ?_)
  · replace h := zs_f h hc_
    exact fX12_tests_j76_ok hZ hn hx1 hx2 h
  · replace h := zs_t h hc_
    refine zV_aload_n 0 dX12_tests_55 rfl rfl ?_
    refine zV_getR (j := 235) (zq_200 hZ) zf_X12_34 zkf_X12_84 rfl dX12_tests_56 ?_
    refine zV_iload_n 1 dX12_tests_59 rfl rfl ?_
    obtain ⟨hg, h⟩ := zs_gd h
    refine zV_iald (zq_235 hZ) hg dX12_tests_60 (fun m12 => ?_)
    refine zV_aload_n 0 dX12_tests_61 rfl rfl ?_
    refine zV_getR (j := 237) (zq_200 hZ) zf_X12_36 zkf_X12_90 rfl dX12_tests_62 ?_
    refine zV_iload_n 1 dX12_tests_65 rfl rfl ?_
    obtain ⟨hg, h⟩ := zs_gd h
    refine zV_iald (zq_237 hZ) hg dX12_tests_66 (fun m13 => ?_)
    refine zV_icmp_ne 74 dX12_tests_67 (by decide) m12 m13 (fun hc_ => ?_) (fun hc_ => ?_)
    · replace h := zs_f h hc_
      refine zV_iconst (v := 0) dX12_tests_74 rfl ?_
      refine zV_ls [0, 1] rfl ?_
      exact fX12_tests_j75_ok hZ hn hx1 zi_0 (Or.inl rfl) h
    · replace h := zs_t h hc_
      refine zV_iconst (v := 1) dX12_tests_70 rfl ?_
      refine zV_goto 75 dX12_tests_71 (by decide) ?_
      refine zV_ls [0, 1] rfl ?_
      exact fX12_tests_j75_ok hZ hn hx1 zi_1 (Or.inr rfl) h
noncomputable def fX12_tests_j43 (x1 s0 : Int) (M : zMem) : Option (zMem) :=
  fX12_tests_j44 x1 s0 M
set_option maxRecDepth 100000 in
set_option maxHeartbeats 4000000 in
theorem fX12_tests_j43_ok {Z : zZ} (hZ : zB Z) {nn : Nat} (hn : 1 ≤ nn)  {x1 s0 : Int} (hx1 : z32 x1) (hs0 : z32 s0) (hbs0 : s0 = 0 ∨ s0 = 1) {M : zMem} {Q : Option zAV → zMem → zZ → Prop} (h : zSat (fX12_tests_j43 x1 s0 M) (fun r => Q none r Z))  : zV zmX12_tests nn 0 0 Z 43 [(0, zR 200), (1, zI x1)] [zI s0] M Q := by
  unfold fX12_tests_j43 at h
  refine zV_istore_n [(2, zI s0), (0, zR 200), (1, zI x1)] dX12_tests_43 rfl (by decide) rfl ?_
  refine zV_ls [1, 2, 0] rfl ?_
  exact fX12_tests_j44_ok hZ hn hx1 hs0 h
noncomputable def fX12_tests (x1 : Int) (M : zMem) : Option (zMem) :=
  (zbd (fX12_sums x1 M) fun M4 => (zgd ((0 : Int) ≤ x1 ∧ x1 < 7) (zgd ((0 : Int) ≤ x1 ∧ x1 < 7) (if (M4 236 x1) = 24 then (zgd ((0 : Int) ≤ x1 ∧ x1 < 7) (zgd ((0 : Int) ≤ x1 ∧ x1 < 7) (if (M4 237 x1) ≤ (M4 235 x1) then fX12_tests_j43 x1 0 M4 else fX12_tests_j43 x1 1 M4))) else fX12_tests_j44 x1 (M4 237 x1) M4))))
set_option maxRecDepth 100000 in
set_option maxHeartbeats 4000000 in
theorem fX12_tests_ok {Z : zZ} (hZ : zB Z) {nn : Nat} (hn : 1 ≤ nn)  {x1 : Int} (hx1 : z32 x1) {M : zMem} {Q : Option zAV → zMem → zZ → Prop} (h : zSat (fX12_tests x1 M) (fun r => Q none r Z))  : zV zmX12_tests nn 0 0 Z 0 [(0, zR 200), (1, zI x1)] [] M Q := by
  unfold fX12_tests at h
  refine zV_aload_n 0 dX12_tests_0 rfl rfl ?_
  refine zV_iload_n 1 dX12_tests_1 rfl rfl ?_
  refine zV_cVV (y' := zmX12_sums) (n' := 0) (As := [zI x1]) zc_X12_236 (zq_200 hZ) rfl dX12_tests_2 (Nat.le_trans (by decide) hn) rfl (Nat.le_of_ble_eq_true rfl) (Nat.le_of_ble_eq_true rfl) rfl h (fun Q' h' => fX12_sums_ok hZ (Nat.le_refl _) hx1 h') (fun M4 h => ?_)
  refine zV_aload_n 0 dX12_tests_5 rfl rfl ?_
  refine zV_getR (j := 237) (zq_200 hZ) zf_X12_36 zkf_X12_90 rfl dX12_tests_6 ?_
  refine zV_iload_n 1 dX12_tests_9 rfl rfl ?_
  obtain ⟨hg, h⟩ := zs_gd h
  refine zV_iald (zq_237 hZ) hg dX12_tests_10 (fun m5 => ?_)
  refine zV_istore_n [(2, zI (M4 237 x1)), (0, zR 200), (1, zI x1)] dX12_tests_11 rfl (by decide) rfl ?_
  refine zV_aload_n 1 dX12_tests_12 rfl rfl ?_
  refine zV_getR (j := 236) (zq_200 hZ) zf_X12_35 zkf_X12_87 rfl dX12_tests_13 ?_
  refine zV_iload_n 2 dX12_tests_16 rfl rfl ?_
  obtain ⟨hg, h⟩ := zs_gd h
  refine zV_iald (zq_236 hZ) hg dX12_tests_17 (fun m6 => ?_)
  refine zV_bipush (v := 24) dX12_tests_18 rfl ?_
  refine zV_icmp_ne 44 dX12_tests_20 (by decide) m6 zi_24 (fun hc_ => ?_) (fun hc_ => ?_)
  · replace h := zs_f h hc_
    refine zV_ls [1, 2, 0] rfl ?_
    exact fX12_tests_j44_ok hZ hn hx1 m5 h
  · replace h := zs_t h hc_
    refine zV_aload_n 1 dX12_tests_23 rfl rfl ?_
    refine zV_getR (j := 235) (zq_200 hZ) zf_X12_34 zkf_X12_84 rfl dX12_tests_24 ?_
    refine zV_iload_n 2 dX12_tests_27 rfl rfl ?_
    obtain ⟨hg, h⟩ := zs_gd h
    refine zV_iald (zq_235 hZ) hg dX12_tests_28 (fun m14 => ?_)
    refine zV_aload_n 1 dX12_tests_29 rfl rfl ?_
    refine zV_getR (j := 237) (zq_200 hZ) zf_X12_36 zkf_X12_90 rfl dX12_tests_30 ?_
    refine zV_iload_n 2 dX12_tests_33 rfl rfl ?_
    obtain ⟨hg, h⟩ := zs_gd h
    refine zV_iald (zq_237 hZ) hg dX12_tests_34 (fun m15 => ?_)
    refine zV_icmp_ge 42 dX12_tests_35 (by decide) m14 m15 (fun hc_ => ?_) (fun hc_ => ?_)
    · replace h := zs_t h hc_
      refine zV_iconst (v := 0) dX12_tests_42 rfl ?_
      refine zV_ls [1, 2] rfl ?_
      exact fX12_tests_j43_ok hZ hn hx1 zi_0 (Or.inl rfl) h
    · replace h := zs_f h hc_
      refine zV_iconst (v := 1) dX12_tests_38 rfl ?_
      refine zV_goto 43 dX12_tests_39 (by decide) ?_
      refine zV_ls [1, 2] rfl ?_
      exact fX12_tests_j43_ok hZ hn hx1 zi_1 (Or.inr rfl) h
noncomputable def fX12_worked_j66 (x1 x2 x3 s0 s1 : Int) (M : zMem) : Option ((Int × Int × zMem) ⊕ (Int × Int × zMem)) :=
  (zgd ((0 : Int) ≤ s1 ∧ s1 < 7) (zbd (fX12_opens x2 (zup M 241 s1 s0)) fun M11 => some (.inl (x2, (zw (x3 + 1)), M11))))
set_option maxRecDepth 100000 in
set_option maxHeartbeats 4000000 in
theorem fX12_worked_j66_ok {Z : zZ} (hZ : zB Z) {nn : Nat} (hn : 2 ≤ nn)  {x1 x2 x3 s0 s1 : Int} (hx1 : z32 x1) (hx2 : z32 x2) (hx3 : z32 x3) (hs0 : z32 s0) (hbs0 : s0 = 0 ∨ s0 = 1) (hs1 : z32 s1) {M : zMem} {Q : Option zAV → zMem → zZ → Prop} {P : (Int × Int × zMem) ⊕ (Int × Int × zMem) → Prop} (h : zSat (fX12_worked_j66 x1 x2 x3 s0 s1 M) P)  (hc : ∀ s : Int × Int × zMem, P (.inl s) → z32 (s.1) → z32 (s.2.1) → zV zmX12_worked nn 0 0 Z 14 [(0, zR 200), (1, zI x1), (2, zI (s.1)), (3, zI (s.2.1))] [] (s.2.2) Q) (he : ∀ s : Int × Int × zMem, P (.inr s) → z32 (s.1) → z32 (s.2.1) → zV zmX12_worked nn 0 0 Z 335 [(0, zR 200), (1, zI x1), (2, zI (s.1)), (3, zI (s.2.1))] [] (s.2.2) Q)   : zV zmX12_worked nn 0 0 Z 66 [(0, zR 200), (1, zI x1), (2, zI x2), (3, zI x3)] [zI s0, zI s1, zR 241] M Q := by
  unfold fX12_worked_j66 at h
  obtain ⟨hg, h⟩ := zs_gd h
  refine zV_iast (zq_241 hZ) (by decide) hg hs0 dX12_worked_66 ?_
  refine zV_aload_n 0 dX12_worked_67 rfl rfl ?_
  refine zV_iload_n 2 dX12_worked_68 rfl rfl ?_
  refine zV_cVV (y' := zmX12_opens) (n' := 0) (As := [zI x2]) zc_X12_239 (zq_200 hZ) rfl dX12_worked_69 (Nat.le_trans (by decide) hn) rfl (Nat.le_of_ble_eq_true rfl) (Nat.le_of_ble_eq_true rfl) rfl h (fun Q' h' => fX12_opens_ok hZ (Nat.le_refl _) hx2 h') (fun M11 h => ?_)
  refine zV_goto 329 dX12_worked_72 (by decide) ?_
  refine zV_iinc 3 [(3, zI (zw (x3 + 1))), (0, zR 200), (1, zI x1), (2, zI x2)] dX12_worked_329 rfl rfl (by decide) rfl ?_
  refine zV_goto 14 dX12_worked_332 (by decide) ?_
  refine zV_ls [1, 2, 3, 0] rfl ?_
  exact hc _ h hx2 (z32_w _)
noncomputable def fX12_worked_j46 (x1 x2 x3 x4 : Int) (M : zMem) : Option ((Int × Int × zMem) ⊕ (Int × Int × zMem)) :=
  (if x4 = 30 then fX12_worked_j66 x1 (zw (x2 + 1)) x3 1 (zw (x2 + 1)) M else fX12_worked_j66 x1 (zw (x2 + 1)) x3 0 (zw (x2 + 1)) M)
set_option maxRecDepth 100000 in
set_option maxHeartbeats 4000000 in
theorem fX12_worked_j46_ok {Z : zZ} (hZ : zB Z) {nn : Nat} (hn : 2 ≤ nn)  {x1 x2 x3 x4 : Int} (hx1 : z32 x1) (hx2 : z32 x2) (hx3 : z32 x3) (hx4 : z32 x4) {M : zMem} {Q : Option zAV → zMem → zZ → Prop} {P : (Int × Int × zMem) ⊕ (Int × Int × zMem) → Prop} (h : zSat (fX12_worked_j46 x1 x2 x3 x4 M) P)  (hc : ∀ s : Int × Int × zMem, P (.inl s) → z32 (s.1) → z32 (s.2.1) → zV zmX12_worked nn 0 0 Z 14 [(0, zR 200), (1, zI x1), (2, zI (s.1)), (3, zI (s.2.1))] [] (s.2.2) Q) (he : ∀ s : Int × Int × zMem, P (.inr s) → z32 (s.1) → z32 (s.2.1) → zV zmX12_worked nn 0 0 Z 335 [(0, zR 200), (1, zI x1), (2, zI (s.1)), (3, zI (s.2.1))] [] (s.2.2) Q)   : zV zmX12_worked nn 0 0 Z 46 [(0, zR 200), (1, zI x1), (2, zI x2), (3, zI x3), (4, zI x4)] [] M Q := by
  unfold fX12_worked_j46 at h
  refine zV_iinc 2 [(2, zI (zw (x2 + 1))), (0, zR 200), (1, zI x1), (3, zI x3), (4, zI x4)] dX12_worked_46 rfl rfl (by decide) rfl ?_
  refine zV_aload_n 1 dX12_worked_49 rfl rfl ?_
  refine zV_getR (j := 241) (zq_200 hZ) zf_X12_40 zkf_X12_102 rfl dX12_worked_50 ?_
  refine zV_iload_n 0 dX12_worked_53 rfl rfl ?_
  refine zV_iload 4 dX12_worked_54 rfl ?_
  refine zV_bipush (v := 30) dX12_worked_56 rfl ?_
  refine zV_icmp_ne 65 dX12_worked_58 (by decide) hx4 zi_30 (fun hc_ => ?_) (fun hc_ => ?_)
  · replace h := zs_f h hc_
    refine zV_iconst (v := 0) dX12_worked_65 rfl ?_
    refine zV_ls [1, 2, 0, 3] rfl ?_
    exact fX12_worked_j66_ok hZ hn hx1 (z32_w _) hx3 zi_0 (Or.inl rfl) (z32_w _) h hc he
  · replace h := zs_t h hc_
    refine zV_iconst (v := 1) dX12_worked_61 rfl ?_
    refine zV_goto 66 dX12_worked_62 (by decide) ?_
    refine zV_ls [1, 2, 0, 3] rfl ?_
    exact fX12_worked_j66_ok hZ hn hx1 (z32_w _) hx3 zi_1 (Or.inr rfl) (z32_w _) h hc he
noncomputable def fX12_worked_j89 (x1 x2 x3 x4 : Int) (M : zMem) : Option ((Int × Int × zMem) ⊕ (Int × Int × zMem)) :=
  (zbd (fX12_sums x2 M) fun M15 => (zgd ((0 : Int) ≤ x2 ∧ x2 < 7) (some (.inl (x2, (zw (x3 + 1)), (zup M15 238 x2 x4))))))
set_option maxRecDepth 100000 in
set_option maxHeartbeats 4000000 in
theorem fX12_worked_j89_ok {Z : zZ} (hZ : zB Z) {nn : Nat} (hn : 2 ≤ nn)  {x1 x2 x3 x4 : Int} (hx1 : z32 x1) (hx2 : z32 x2) (hx3 : z32 x3) (hx4 : z32 x4) {M : zMem} {Q : Option zAV → zMem → zZ → Prop} {P : (Int × Int × zMem) ⊕ (Int × Int × zMem) → Prop} (h : zSat (fX12_worked_j89 x1 x2 x3 x4 M) P)  (hc : ∀ s : Int × Int × zMem, P (.inl s) → z32 (s.1) → z32 (s.2.1) → zV zmX12_worked nn 0 0 Z 14 [(0, zR 200), (1, zI x1), (2, zI (s.1)), (3, zI (s.2.1))] [] (s.2.2) Q) (he : ∀ s : Int × Int × zMem, P (.inr s) → z32 (s.1) → z32 (s.2.1) → zV zmX12_worked nn 0 0 Z 335 [(0, zR 200), (1, zI x1), (2, zI (s.1)), (3, zI (s.2.1))] [] (s.2.2) Q)   : zV zmX12_worked nn 0 0 Z 89 [(0, zR 200), (1, zI x1), (2, zI x2), (3, zI x3), (4, zI x4)] [] M Q := by
  unfold fX12_worked_j89 at h
  refine zV_aload_n 0 dX12_worked_89 rfl rfl ?_
  refine zV_iload_n 2 dX12_worked_90 rfl rfl ?_
  refine zV_cVV (y' := zmX12_sums) (n' := 0) (As := [zI x2]) zc_X12_236 (zq_200 hZ) rfl dX12_worked_91 (Nat.le_trans (by decide) hn) rfl (Nat.le_of_ble_eq_true rfl) (Nat.le_of_ble_eq_true rfl) rfl h (fun Q' h' => fX12_sums_ok hZ (Nat.le_refl _) hx2 h') (fun M15 h => ?_)
  refine zV_aload_n 0 dX12_worked_94 rfl rfl ?_
  refine zV_getR (j := 238) (zq_200 hZ) zf_X12_37 zkf_X12_93 rfl dX12_worked_95 ?_
  refine zV_iload_n 2 dX12_worked_98 rfl rfl ?_
  refine zV_iload 4 dX12_worked_99 rfl ?_
  obtain ⟨hg, h⟩ := zs_gd h
  refine zV_iast (zq_238 hZ) (by decide) hg hx4 dX12_worked_101 ?_
  refine zV_goto 329 dX12_worked_102 (by decide) ?_
  refine zV_iinc 3 [(3, zI (zw (x3 + 1))), (0, zR 200), (1, zI x1), (2, zI x2), (4, zI x4)] dX12_worked_329 rfl rfl (by decide) rfl ?_
  refine zV_goto 14 dX12_worked_332 (by decide) ?_
  refine zV_ls [1, 2, 3, 0] rfl ?_
  exact hc _ h hx2 (z32_w _)
noncomputable def fX12_worked_j137 (x1 x2 x3 x4 : Int) (M : zMem) : Option ((Int × Int × zMem) ⊕ (Int × Int × zMem)) :=
  (zbd (fX12_sums x2 M) fun M19 => (zgd ((0 : Int) ≤ x2 ∧ x2 < 7) (zgd ((0 : Int) ≤ x2 ∧ x2 < 7) (zgd ((0 : Int) ≤ x2 ∧ x2 < 7) (zgd ((0 : Int) ≤ x2 ∧ x2 < 7) (zgd ((0 : Int) ≤ x2 ∧ x2 < 7) (some (.inl (x2, (zw (x3 + 1)), (zup (zup (zup (zup M19 235 x2 (M19 237 x2)) 236 x2 x4) 237 x2 0) 238 x2 20))))))))))
set_option maxRecDepth 100000 in
set_option maxHeartbeats 4000000 in
theorem fX12_worked_j137_ok {Z : zZ} (hZ : zB Z) {nn : Nat} (hn : 2 ≤ nn)  {x1 x2 x3 x4 : Int} (hx1 : z32 x1) (hx2 : z32 x2) (hx3 : z32 x3) (hx4 : z32 x4) {M : zMem} {Q : Option zAV → zMem → zZ → Prop} {P : (Int × Int × zMem) ⊕ (Int × Int × zMem) → Prop} (h : zSat (fX12_worked_j137 x1 x2 x3 x4 M) P)  (hc : ∀ s : Int × Int × zMem, P (.inl s) → z32 (s.1) → z32 (s.2.1) → zV zmX12_worked nn 0 0 Z 14 [(0, zR 200), (1, zI x1), (2, zI (s.1)), (3, zI (s.2.1))] [] (s.2.2) Q) (he : ∀ s : Int × Int × zMem, P (.inr s) → z32 (s.1) → z32 (s.2.1) → zV zmX12_worked nn 0 0 Z 335 [(0, zR 200), (1, zI x1), (2, zI (s.1)), (3, zI (s.2.1))] [] (s.2.2) Q)   : zV zmX12_worked nn 0 0 Z 137 [(0, zR 200), (1, zI x1), (2, zI x2), (3, zI x3), (4, zI x4)] [] M Q := by
  unfold fX12_worked_j137 at h
  refine zV_aload_n 0 dX12_worked_137 rfl rfl ?_
  refine zV_iload_n 2 dX12_worked_138 rfl rfl ?_
  refine zV_cVV (y' := zmX12_sums) (n' := 0) (As := [zI x2]) zc_X12_236 (zq_200 hZ) rfl dX12_worked_139 (Nat.le_trans (by decide) hn) rfl (Nat.le_of_ble_eq_true rfl) (Nat.le_of_ble_eq_true rfl) rfl h (fun Q' h' => fX12_sums_ok hZ (Nat.le_refl _) hx2 h') (fun M19 h => ?_)
  refine zV_aload_n 0 dX12_worked_142 rfl rfl ?_
  refine zV_getR (j := 235) (zq_200 hZ) zf_X12_34 zkf_X12_84 rfl dX12_worked_143 ?_
  refine zV_iload_n 2 dX12_worked_146 rfl rfl ?_
  refine zV_aload_n 0 dX12_worked_147 rfl rfl ?_
  refine zV_getR (j := 237) (zq_200 hZ) zf_X12_36 zkf_X12_90 rfl dX12_worked_148 ?_
  refine zV_iload_n 2 dX12_worked_151 rfl rfl ?_
  obtain ⟨hg, h⟩ := zs_gd h
  refine zV_iald (zq_237 hZ) hg dX12_worked_152 (fun m20 => ?_)
  obtain ⟨hg, h⟩ := zs_gd h
  refine zV_iast (zq_235 hZ) (by decide) hg m20 dX12_worked_153 ?_
  refine zV_aload_n 0 dX12_worked_154 rfl rfl ?_
  refine zV_getR (j := 236) (zq_200 hZ) zf_X12_35 zkf_X12_87 rfl dX12_worked_155 ?_
  refine zV_iload_n 2 dX12_worked_158 rfl rfl ?_
  refine zV_iload 4 dX12_worked_159 rfl ?_
  obtain ⟨hg, h⟩ := zs_gd h
  refine zV_iast (zq_236 hZ) (by decide) hg hx4 dX12_worked_161 ?_
  refine zV_aload_n 0 dX12_worked_162 rfl rfl ?_
  refine zV_getR (j := 237) (zq_200 hZ) zf_X12_36 zkf_X12_90 rfl dX12_worked_163 ?_
  refine zV_iload_n 2 dX12_worked_166 rfl rfl ?_
  refine zV_iconst (v := 0) dX12_worked_167 rfl ?_
  obtain ⟨hg, h⟩ := zs_gd h
  refine zV_iast (zq_237 hZ) (by decide) hg zi_0 dX12_worked_168 ?_
  refine zV_aload_n 0 dX12_worked_169 rfl rfl ?_
  refine zV_getR (j := 238) (zq_200 hZ) zf_X12_37 zkf_X12_93 rfl dX12_worked_170 ?_
  refine zV_iload_n 2 dX12_worked_173 rfl rfl ?_
  refine zV_bipush (v := 20) dX12_worked_174 rfl ?_
  obtain ⟨hg, h⟩ := zs_gd h
  refine zV_iast (zq_238 hZ) (by decide) hg zi_20 dX12_worked_176 ?_
  refine zV_goto 329 dX12_worked_177 (by decide) ?_
  refine zV_iinc 3 [(3, zI (zw (x3 + 1))), (0, zR 200), (1, zI x1), (2, zI x2), (4, zI x4)] dX12_worked_329 rfl rfl (by decide) rfl ?_
  refine zV_goto 14 dX12_worked_332 (by decide) ?_
  refine zV_ls [1, 2, 3, 0] rfl ?_
  exact hc _ h hx2 (z32_w _)
noncomputable def fX12_worked_j194 (x1 x2 x3 x4 : Int) (M : zMem) : Option ((Int × Int × zMem) ⊕ (Int × Int × zMem)) :=
  (zbd (fX12_tests x2 M) fun M24 => (zgd ((0 : Int) ≤ x2 ∧ x2 < 7) (some (.inl (x2, (zw (x3 + 1)), (zup M24 234 x2 x4))))))
set_option maxRecDepth 100000 in
set_option maxHeartbeats 4000000 in
theorem fX12_worked_j194_ok {Z : zZ} (hZ : zB Z) {nn : Nat} (hn : 2 ≤ nn)  {x1 x2 x3 x4 : Int} (hx1 : z32 x1) (hx2 : z32 x2) (hx3 : z32 x3) (hx4 : z32 x4) {M : zMem} {Q : Option zAV → zMem → zZ → Prop} {P : (Int × Int × zMem) ⊕ (Int × Int × zMem) → Prop} (h : zSat (fX12_worked_j194 x1 x2 x3 x4 M) P)  (hc : ∀ s : Int × Int × zMem, P (.inl s) → z32 (s.1) → z32 (s.2.1) → zV zmX12_worked nn 0 0 Z 14 [(0, zR 200), (1, zI x1), (2, zI (s.1)), (3, zI (s.2.1))] [] (s.2.2) Q) (he : ∀ s : Int × Int × zMem, P (.inr s) → z32 (s.1) → z32 (s.2.1) → zV zmX12_worked nn 0 0 Z 335 [(0, zR 200), (1, zI x1), (2, zI (s.1)), (3, zI (s.2.1))] [] (s.2.2) Q)   : zV zmX12_worked nn 0 0 Z 194 [(0, zR 200), (1, zI x1), (2, zI x2), (3, zI x3), (4, zI x4)] [] M Q := by
  unfold fX12_worked_j194 at h
  refine zV_aload_n 0 dX12_worked_194 rfl rfl ?_
  refine zV_iload_n 2 dX12_worked_195 rfl rfl ?_
  refine zV_cVV (y' := zmX12_tests) (n' := 1) (As := [zI x2]) zc_X12_242 (zq_200 hZ) rfl dX12_worked_196 (Nat.le_trans (by decide) hn) rfl (Nat.le_of_ble_eq_true rfl) (Nat.le_of_ble_eq_true rfl) rfl h (fun Q' h' => fX12_tests_ok hZ (Nat.le_refl _) hx2 h') (fun M24 h => ?_)
  refine zV_aload_n 0 dX12_worked_199 rfl rfl ?_
  refine zV_getR (j := 234) (zq_200 hZ) zf_X12_33 zkf_X12_81 rfl dX12_worked_200 ?_
  refine zV_iload_n 2 dX12_worked_203 rfl rfl ?_
  refine zV_iload 4 dX12_worked_204 rfl ?_
  obtain ⟨hg, h⟩ := zs_gd h
  refine zV_iast (zq_234 hZ) (by decide) hg hx4 dX12_worked_206 ?_
  refine zV_goto 329 dX12_worked_207 (by decide) ?_
  refine zV_iinc 3 [(3, zI (zw (x3 + 1))), (0, zR 200), (1, zI x1), (2, zI x2), (4, zI x4)] dX12_worked_329 rfl rfl (by decide) rfl ?_
  refine zV_goto 14 dX12_worked_332 (by decide) ?_
  refine zV_ls [1, 2, 3, 0] rfl ?_
  exact hc _ h hx2 (z32_w _)
noncomputable def fX12_worked_j292 (x1 x2 x3 x5 s0 : Int) (M : zMem) : Option ((Int × Int) ⊕ (Int × Int)) :=
  some (.inl ((zw (x2 + (-1))), s0))
set_option maxRecDepth 100000 in
set_option maxHeartbeats 4000000 in
theorem fX12_worked_j292_ok {Z : zZ} (hZ : zB Z) {nn : Nat} (hn : 2 ≤ nn)  {x1 x2 x3 x5 s0 : Int} (hx1 : z32 x1) (hx2 : z32 x2) (hx3 : z32 x3) (hx5 : z32 x5) (hs0 : z32 s0) (hbs0 : s0 = 0 ∨ s0 = 1) {M : zMem} {Q : Option zAV → zMem → zZ → Prop} {P : (Int × Int) ⊕ (Int × Int) → Prop} (h : zSat (fX12_worked_j292 x1 x2 x3 x5 s0 M) P)  (hc : ∀ s : Int × Int, P (.inl s) → z32 (s.1) → z32 (s.2) → zV zmX12_worked nn 0 0 Z 268 [(0, zR 200), (1, zI x1), (2, zI (s.1)), (3, zI x3), (5, zI (s.2))] [] M Q) (he : ∀ s : Int × Int, P (.inr s) → z32 (s.1) → z32 (s.2) → zV zmX12_worked nn 0 0 Z 300 [(0, zR 200), (1, zI x1), (2, zI (s.1)), (3, zI x3), (5, zI (s.2))] [] M Q)   : zV zmX12_worked nn 0 0 Z 292 [(0, zR 200), (1, zI x1), (2, zI x2), (3, zI x3), (5, zI x5)] [zI s0] M Q := by
  unfold fX12_worked_j292 at h
  refine zV_istore [(5, zI s0), (0, zR 200), (1, zI x1), (2, zI x2), (3, zI x3)] dX12_worked_292 (by decide) rfl ?_
  refine zV_iinc 3 [(2, zI (zw (x2 + (-1)))), (5, zI s0), (0, zR 200), (1, zI x1), (3, zI x3)] dX12_worked_294 rfl rfl (by decide) rfl ?_
  refine zV_goto 268 dX12_worked_297 (by decide) ?_
  refine zV_ls [2, 3, 0, 4, 1] rfl ?_
  exact hc _ h (z32_w _) hs0
noncomputable def fX12_worked_l268 (x1 x3 x2 x5 : Int) (M : zMem) : Option ((Int × Int) ⊕ (Int × Int)) :=
  (if x2 ≤ 0 then some (.inr (x2, x5)) else (zgd ((0 : Int) ≤ x2 ∧ x2 < 7) (if (M 241 x2) = 1 then (if x5 = 0 then fX12_worked_j292 x1 x2 x3 x5 1 M else fX12_worked_j292 x1 x2 x3 x5 0 M) else some (.inr (x2, x5)))))
set_option maxRecDepth 100000 in
set_option maxHeartbeats 4000000 in
theorem fX12_worked_l268_ok {Z : zZ} (hZ : zB Z) {nn : Nat} (hn : 2 ≤ nn)  {x1 x3 x2 x5 : Int} (hx1 : z32 x1) (hx3 : z32 x3) (hx2 : z32 x2) (hx5 : z32 x5) {M : zMem} {Q : Option zAV → zMem → zZ → Prop} {P : (Int × Int) ⊕ (Int × Int) → Prop} (h : zSat (fX12_worked_l268 x1 x3 x2 x5 M) P)  (hc : ∀ s : Int × Int, P (.inl s) → z32 (s.1) → z32 (s.2) → zV zmX12_worked nn 0 0 Z 268 [(0, zR 200), (1, zI x1), (2, zI (s.1)), (3, zI x3), (5, zI (s.2))] [] M Q) (he : ∀ s : Int × Int, P (.inr s) → z32 (s.1) → z32 (s.2) → zV zmX12_worked nn 0 0 Z 300 [(0, zR 200), (1, zI x1), (2, zI (s.1)), (3, zI x3), (5, zI (s.2))] [] M Q)   : zV zmX12_worked nn 0 0 Z 268 [(0, zR 200), (1, zI x1), (2, zI x2), (3, zI x3), (5, zI x5)] [] M Q := by
  unfold fX12_worked_l268 at h
  refine zV_iload_n 2 dX12_worked_268 rfl rfl ?_
  refine zV_if_le 300 dX12_worked_269 (by decide) hx2 (fun hc_ => ?_) (fun hc_ => ?_)
  · replace h := zs_t h hc_
    exact he _ h hx2 hx5
  · replace h := zs_f h hc_
    refine zV_aload_n 0 dX12_worked_272 rfl rfl ?_
    refine zV_getR (j := 241) (zq_200 hZ) zf_X12_40 zkf_X12_102 rfl dX12_worked_273 ?_
    refine zV_iload_n 2 dX12_worked_276 rfl rfl ?_
    obtain ⟨hg, h⟩ := zs_gd h
    refine zV_iald (zq_241 hZ) hg dX12_worked_277 (fun m25 => ?_)
    refine zV_iconst (v := 1) dX12_worked_278 rfl ?_
    refine zV_icmp_ne 300 dX12_worked_279 (by decide) m25 zi_1 (fun hc_ => ?_) (fun hc_ => ?_)
    · replace h := zs_f h hc_
      exact he _ h hx2 hx5
    · replace h := zs_t h hc_
      refine zV_iload 4 dX12_worked_282 rfl ?_
      refine zV_if_ne 291 dX12_worked_284 (by decide) hx5 (fun hc_ => ?_) (fun hc_ => ?_)
      · replace h := zs_f h hc_
        refine zV_iconst (v := 0) dX12_worked_291 rfl ?_
        exact fX12_worked_j292_ok hZ hn hx1 hx2 hx3 hx5 zi_0 (Or.inl rfl) h hc he
      · replace h := zs_t h hc_
        refine zV_iconst (v := 1) dX12_worked_287 rfl ?_
        refine zV_goto 292 dX12_worked_288 (by decide) ?_
        exact fX12_worked_j292_ok hZ hn hx1 hx2 hx3 hx5 zi_1 (Or.inr rfl) h hc he
noncomputable def fX12_worked_j328 (x1 x2 x3 s0 s1 : Int) (M : zMem) : Option ((Int × Int × zMem) ⊕ (Int × Int × zMem)) :=
  (zgd ((0 : Int) ≤ s1 ∧ s1 < 7) (some (.inl (x2, (zw (x3 + 1)), (zup M 239 s1 s0)))))
set_option maxRecDepth 100000 in
set_option maxHeartbeats 4000000 in
theorem fX12_worked_j328_ok {Z : zZ} (hZ : zB Z) {nn : Nat} (hn : 2 ≤ nn)  {x1 x2 x3 s0 s1 : Int} (hx1 : z32 x1) (hx2 : z32 x2) (hx3 : z32 x3) (hs0 : z32 s0) (hs1 : z32 s1) {M : zMem} {Q : Option zAV → zMem → zZ → Prop} {P : (Int × Int × zMem) ⊕ (Int × Int × zMem) → Prop} (h : zSat (fX12_worked_j328 x1 x2 x3 s0 s1 M) P)  (hc : ∀ s : Int × Int × zMem, P (.inl s) → z32 (s.1) → z32 (s.2.1) → zV zmX12_worked nn 0 0 Z 14 [(0, zR 200), (1, zI x1), (2, zI (s.1)), (3, zI (s.2.1))] [] (s.2.2) Q) (he : ∀ s : Int × Int × zMem, P (.inr s) → z32 (s.1) → z32 (s.2.1) → zV zmX12_worked nn 0 0 Z 335 [(0, zR 200), (1, zI x1), (2, zI (s.1)), (3, zI (s.2.1))] [] (s.2.2) Q)   : zV zmX12_worked nn 0 0 Z 328 [(0, zR 200), (1, zI x1), (2, zI x2), (3, zI x3)] [zI s0, zI s1, zR 239] M Q := by
  unfold fX12_worked_j328 at h
  obtain ⟨hg, h⟩ := zs_gd h
  refine zV_iast (zq_239 hZ) (by decide) hg hs0 dX12_worked_328 ?_
  refine zV_iinc 3 [(3, zI (zw (x3 + 1))), (0, zR 200), (1, zI x1), (2, zI x2)] dX12_worked_329 rfl rfl (by decide) rfl ?_
  refine zV_goto 14 dX12_worked_332 (by decide) ?_
  refine zV_ls [1, 2, 3, 0] rfl ?_
  exact hc _ h hx2 (z32_w _)
noncomputable def fX12_worked_j300 (x1 x2 x3 x5 : Int) (M : zMem) : Option ((Int × Int × zMem) ⊕ (Int × Int × zMem)) :=
  (zgd ((0 : Int) ≤ x2 ∧ x2 < 7) (if (M 240 x2) = 0 then fX12_worked_j328 x1 x2 x3 x5 x2 M else (zgd ((0 : Int) ≤ x2 ∧ x2 < 7) (fX12_worked_j328 x1 x2 x3 (zw ((M 239 x2) * x5)) x2 M))))
set_option maxRecDepth 100000 in
set_option maxHeartbeats 4000000 in
theorem fX12_worked_j300_ok {Z : zZ} (hZ : zB Z) {nn : Nat} (hn : 2 ≤ nn)  {x1 x2 x3 x5 : Int} (hx1 : z32 x1) (hx2 : z32 x2) (hx3 : z32 x3) (hx5 : z32 x5) {M : zMem} {Q : Option zAV → zMem → zZ → Prop} {P : (Int × Int × zMem) ⊕ (Int × Int × zMem) → Prop} (h : zSat (fX12_worked_j300 x1 x2 x3 x5 M) P)  (hc : ∀ s : Int × Int × zMem, P (.inl s) → z32 (s.1) → z32 (s.2.1) → zV zmX12_worked nn 0 0 Z 14 [(0, zR 200), (1, zI x1), (2, zI (s.1)), (3, zI (s.2.1))] [] (s.2.2) Q) (he : ∀ s : Int × Int × zMem, P (.inr s) → z32 (s.1) → z32 (s.2.1) → zV zmX12_worked nn 0 0 Z 335 [(0, zR 200), (1, zI x1), (2, zI (s.1)), (3, zI (s.2.1))] [] (s.2.2) Q)   : zV zmX12_worked nn 0 0 Z 300 [(0, zR 200), (1, zI x1), (2, zI x2), (3, zI x3), (5, zI x5)] [] M Q := by
  unfold fX12_worked_j300 at h
  refine zV_aload_n 0 dX12_worked_300 rfl rfl ?_
  refine zV_getR (j := 239) (zq_200 hZ) zf_X12_38 zkf_X12_96 rfl dX12_worked_301 ?_
  refine zV_iload_n 2 dX12_worked_304 rfl rfl ?_
  refine zV_aload_n 0 dX12_worked_305 rfl rfl ?_
  refine zV_getR (j := 240) (zq_200 hZ) zf_X12_39 zkf_X12_99 rfl dX12_worked_306 ?_
  refine zV_iload_n 2 dX12_worked_309 rfl rfl ?_
  obtain ⟨hg, h⟩ := zs_gd h
  refine zV_iald (zq_240 hZ) hg dX12_worked_310 (fun m37 => ?_)
  refine zV_if_ne 319 dX12_worked_311 (by decide) m37 (fun hc_ => ?_) (fun hc_ => ?_)
  · replace h := zs_f h hc_
    refine zV_aload_n 0 dX12_worked_319 rfl rfl ?_
    refine zV_getR (j := 239) (zq_200 hZ) zf_X12_38 zkf_X12_96 rfl dX12_worked_320 ?_
    refine zV_iload_n 2 dX12_worked_323 rfl rfl ?_
    obtain ⟨hg, h⟩ := zs_gd h
    refine zV_iald (zq_239 hZ) hg dX12_worked_324 (fun m38 => ?_)
    refine zV_iload 4 dX12_worked_325 rfl ?_
    refine zV_imul dX12_worked_327 ?_
    refine zV_w ?_
    refine zV_ls [0, 1, 2, 3] rfl ?_
    exact fX12_worked_j328_ok hZ hn hx1 hx2 hx3 (z32_w _) hx2 h hc he
  · replace h := zs_t h hc_
    refine zV_iload 4 dX12_worked_314 rfl ?_
    refine zV_goto 328 dX12_worked_316 (by decide) ?_
    refine zV_ls [0, 1, 2, 3] rfl ?_
    exact fX12_worked_j328_ok hZ hn hx1 hx2 hx3 hx5 hx2 h hc he
noncomputable def fX12_worked_j243 (x1 x2 x3 x4 s0 : Int) (M : zMem) : Option ((Int × Int × zMem) ⊕ (Int × Int × zMem)) :=
  (if x4 = 29 then (zbd (fX12_tests x2 M) fun M42 => (zgd ((0 : Int) ≤ x2 ∧ x2 < 7) (zbd (zit (fun s44 => fX12_worked_l268 x1 x3 (s44.1) (s44.2) M42) ((zw (x2 + (-1))), (M42 233 x2))) fun s51 => fX12_worked_j300 x1 (s51.1) x3 (s51.2) M42))) else (zbd (zit (fun s26 => fX12_worked_l268 x1 x3 (s26.1) (s26.2) M) (x2, s0)) fun s33 => fX12_worked_j300 x1 (s33.1) x3 (s33.2) M))
set_option maxRecDepth 100000 in
set_option maxHeartbeats 4000000 in
theorem fX12_worked_j243_ok {Z : zZ} (hZ : zB Z) {nn : Nat} (hn : 2 ≤ nn)  {x1 x2 x3 x4 s0 : Int} (hx1 : z32 x1) (hx2 : z32 x2) (hx3 : z32 x3) (hx4 : z32 x4) (hs0 : z32 s0) {M : zMem} {Q : Option zAV → zMem → zZ → Prop} {P : (Int × Int × zMem) ⊕ (Int × Int × zMem) → Prop} (h : zSat (fX12_worked_j243 x1 x2 x3 x4 s0 M) P)  (hc : ∀ s : Int × Int × zMem, P (.inl s) → z32 (s.1) → z32 (s.2.1) → zV zmX12_worked nn 0 0 Z 14 [(0, zR 200), (1, zI x1), (2, zI (s.1)), (3, zI (s.2.1))] [] (s.2.2) Q) (he : ∀ s : Int × Int × zMem, P (.inr s) → z32 (s.1) → z32 (s.2.1) → zV zmX12_worked nn 0 0 Z 335 [(0, zR 200), (1, zI x1), (2, zI (s.1)), (3, zI (s.2.1))] [] (s.2.2) Q)   : zV zmX12_worked nn 0 0 Z 243 [(0, zR 200), (1, zI x1), (2, zI x2), (3, zI x3), (4, zI x4)] [zI s0] M Q := by
  unfold fX12_worked_j243 at h
  refine zV_istore [(5, zI s0), (0, zR 200), (1, zI x1), (2, zI x2), (3, zI x3), (4, zI x4)] dX12_worked_243 (by decide) rfl ?_
  refine zV_iload 5 dX12_worked_245 rfl ?_
  refine zV_bipush (v := 29) dX12_worked_247 rfl ?_
  refine zV_icmp_ne 268 dX12_worked_249 (by decide) hx4 zi_29 (fun hc_ => ?_) (fun hc_ => ?_)
  · replace h := zs_f h hc_
    refine zV_ls [1, 2, 3, 4, 0] rfl ?_
    refine (zV_loop (Vh := fun s26 : Int × Int => z32 (s26.1) → z32 (s26.2) → zV zmX12_worked nn 0 0 Z 268 [(0, zR 200), (1, zI x1), (2, zI (s26.1)), (3, zI x3), (5, zI (s26.2))] [] M Q) h (fun s26 P27 hP28 hc29 he30 => ?_)) hx2 hs0
    intro c31 c32
    refine fX12_worked_l268_ok hZ hn hx1 hx3 c31 c32 hP28 hc29 (fun s33 h34 d35 d36 => ?_)
    have h := he30 _ h34
    exact fX12_worked_j300_ok hZ hn hx1 d35 hx3 d36 h hc he
  · replace h := zs_t h hc_
    refine zV_aload_n 1 dX12_worked_252 rfl rfl ?_
    refine zV_iload_n 3 dX12_worked_253 rfl rfl ?_
    refine zV_cVV (y' := zmX12_tests) (n' := 1) (As := [zI x2]) zc_X12_242 (zq_200 hZ) rfl dX12_worked_254 (Nat.le_trans (by decide) hn) rfl (Nat.le_of_ble_eq_true rfl) (Nat.le_of_ble_eq_true rfl) rfl h (fun Q' h' => fX12_tests_ok hZ (Nat.le_refl _) hx2 h') (fun M42 h => ?_)
    refine zV_aload_n 1 dX12_worked_257 rfl rfl ?_
    refine zV_getR (j := 233) (zq_200 hZ) zf_X12_32 zkf_X12_78 rfl dX12_worked_258 ?_
    refine zV_iload_n 3 dX12_worked_261 rfl rfl ?_
    obtain ⟨hg, h⟩ := zs_gd h
    refine zV_iald (zq_233 hZ) hg dX12_worked_262 (fun m43 => ?_)
    refine zV_istore [(5, zI (M42 233 x2)), (0, zR 200), (1, zI x1), (2, zI x2), (3, zI x3), (4, zI x4)] dX12_worked_263 (by decide) rfl ?_
    refine zV_iinc 3 [(2, zI (zw (x2 + (-1)))), (5, zI (M42 233 x2)), (0, zR 200), (1, zI x1), (3, zI x3), (4, zI x4)] dX12_worked_265 rfl rfl (by decide) rfl ?_
    refine zV_ls [2, 3, 0, 4, 1] rfl ?_
    refine (zV_loop (Vh := fun s44 : Int × Int => z32 (s44.1) → z32 (s44.2) → zV zmX12_worked nn 0 0 Z 268 [(0, zR 200), (1, zI x1), (2, zI (s44.1)), (3, zI x3), (5, zI (s44.2))] [] M42 Q) h (fun s44 P45 hP46 hc47 he48 => ?_)) (z32_w _) m43
    intro c49 c50
    refine fX12_worked_l268_ok hZ hn hx1 hx3 c49 c50 hP46 hc47 (fun s51 h52 d53 d54 => ?_)
    have h := he48 _ h52
    exact fX12_worked_j300_ok hZ hn hx1 d53 hx3 d54 h hc he
noncomputable def fX12_worked_l14 (x1 x2 x3 : Int) (M : zMem) : Option ((Int × Int × zMem) ⊕ (Int × Int × zMem)) :=
  (zgd ((0 : Int) ≤ x1 ∧ x1 < 24) (if (M 228 x1) ≤ x3 then some (.inr (x2, x3, M)) else (zgd ((0 : Int) ≤ x3 ∧ x3 < 6000) (if (M 229 x3) = 28 then fX12_worked_j46 x1 x2 x3 (M 229 x3) M else (if (M 229 x3) = 30 then fX12_worked_j46 x1 x2 x3 (M 229 x3) M else (if (M 229 x3) = 20 then fX12_worked_j89 x1 x2 x3 (M 229 x3) M else (if (M 229 x3) = 21 then fX12_worked_j89 x1 x2 x3 (M 229 x3) M else (if (M 229 x3) = 22 then (zgd ((0 : Int) ≤ x2 ∧ x2 < 7) (some (.inl (x2, (zw (x3 + 1)), (zup M 240 x2 (M 229 x3)))))) else (if (M 229 x3) = 24 then fX12_worked_j137 x1 x2 x3 (M 229 x3) M else (if (M 229 x3) = 25 then fX12_worked_j137 x1 x2 x3 (M 229 x3) M else (if (M 229 x3) = 26 then fX12_worked_j194 x1 x2 x3 (M 229 x3) M else (if (M 229 x3) = 27 then fX12_worked_j194 x1 x2 x3 (M 229 x3) M else (if (M 229 x3) < 100 then (if 20 ≤ (M 229 x3) then fX12_worked_j243 x1 x2 x3 (M 229 x3) 0 M else (zgd ((0 : Int) ≤ (M 229 x3) ∧ (M 229 x3) < 20) (fX12_worked_j243 x1 x2 x3 (M 229 x3) (M 242 (M 229 x3)) M))) else fX12_worked_j243 x1 x2 x3 (M 229 x3) (zw ((M 229 x3) - 100)) M)))))))))))))
set_option maxRecDepth 100000 in
set_option maxHeartbeats 4000000 in
theorem fX12_worked_l14_ok {Z : zZ} (hZ : zB Z) {nn : Nat} (hn : 2 ≤ nn)  {x1 x2 x3 : Int} (hx1 : z32 x1) (hx2 : z32 x2) (hx3 : z32 x3) {M : zMem} {Q : Option zAV → zMem → zZ → Prop} {P : (Int × Int × zMem) ⊕ (Int × Int × zMem) → Prop} (h : zSat (fX12_worked_l14 x1 x2 x3 M) P)  (hc : ∀ s : Int × Int × zMem, P (.inl s) → z32 (s.1) → z32 (s.2.1) → zV zmX12_worked nn 0 0 Z 14 [(0, zR 200), (1, zI x1), (2, zI (s.1)), (3, zI (s.2.1))] [] (s.2.2) Q) (he : ∀ s : Int × Int × zMem, P (.inr s) → z32 (s.1) → z32 (s.2.1) → zV zmX12_worked nn 0 0 Z 335 [(0, zR 200), (1, zI x1), (2, zI (s.1)), (3, zI (s.2.1))] [] (s.2.2) Q)   : zV zmX12_worked nn 0 0 Z 14 [(0, zR 200), (1, zI x1), (2, zI x2), (3, zI x3)] [] M Q := by
  unfold fX12_worked_l14 at h
  refine zV_iload_n 3 dX12_worked_14 rfl rfl ?_
  refine zV_aload_n 0 dX12_worked_15 rfl rfl ?_
  refine zV_getR (j := 228) (zq_200 hZ) zf_X12_27 zkf_X12_66 rfl dX12_worked_16 ?_
  refine zV_iload_n 1 dX12_worked_19 rfl rfl ?_
  obtain ⟨hg, h⟩ := zs_gd h
  refine zV_iald (zq_228 hZ) hg dX12_worked_20 (fun m6 => ?_)
  refine zV_icmp_ge 335 dX12_worked_21 (by decide) hx3 m6 (fun hc_ => ?_) (fun hc_ => ?_)
  · replace h := zs_t h hc_
    exact he _ h hx2 hx3
  · replace h := zs_f h hc_
    refine zV_aload_n 0 dX12_worked_24 rfl rfl ?_
    refine zV_getR (j := 229) (zq_200 hZ) zf_X12_28 zkf_X12_69 rfl dX12_worked_25 ?_
    refine zV_iload_n 3 dX12_worked_28 rfl rfl ?_
    obtain ⟨hg, h⟩ := zs_gd h
    refine zV_iald (zq_229 hZ) hg dX12_worked_29 (fun m7 => ?_)
    refine zV_istore [(4, zI (M 229 x3)), (0, zR 200), (1, zI x1), (2, zI x2), (3, zI x3)] dX12_worked_30 (by decide) rfl ?_
    refine zV_iload 0 dX12_worked_32 rfl ?_
    refine zV_bipush (v := 28) dX12_worked_34 rfl ?_
    refine zV_icmp_eq 46 dX12_worked_36 (by decide) m7 zi_28 (fun hc_ => ?_) (fun hc_ => ?_)
    · replace h := zs_t h hc_
      refine zV_ls [1, 2, 3, 4, 0] rfl ?_
      exact fX12_worked_j46_ok hZ hn hx1 hx2 hx3 m7 h hc he
    · replace h := zs_f h hc_
      refine zV_iload 0 dX12_worked_39 rfl ?_
      refine zV_bipush (v := 30) dX12_worked_41 rfl ?_
      refine zV_icmp_ne 75 dX12_worked_43 (by decide) m7 zi_30 (fun hc_ => ?_) (fun hc_ => ?_)
      · replace h := zs_f h hc_
        refine zV_iload 0 dX12_worked_75 rfl ?_
        refine zV_bipush (v := 20) dX12_worked_77 rfl ?_
        refine zV_icmp_eq 89 dX12_worked_79 (by decide) m7 zi_20 (fun hc_ => ?_) (fun hc_ => ?_)
        · replace h := zs_t h hc_
          refine zV_ls [1, 2, 3, 4, 0] rfl ?_
          exact fX12_worked_j89_ok hZ hn hx1 hx2 hx3 m7 h hc he
        · replace h := zs_f h hc_
          refine zV_iload 0 dX12_worked_82 rfl ?_
          refine zV_bipush (v := 21) dX12_worked_84 rfl ?_
          refine zV_icmp_ne 105 dX12_worked_86 (by decide) m7 zi_21 (fun hc_ => ?_) (fun hc_ => ?_)
          · replace h := zs_f h hc_
            refine zV_iload 0 dX12_worked_105 rfl ?_
            refine zV_bipush (v := 22) dX12_worked_107 rfl ?_
            refine zV_icmp_ne 123 dX12_worked_109 (by decide) m7 zi_22 (fun hc_ => ?_) (fun hc_ => ?_)
            · replace h := zs_f h hc_
              refine zV_iload 0 dX12_worked_123 rfl ?_
              refine zV_bipush (v := 24) dX12_worked_125 rfl ?_
              refine zV_icmp_eq 137 dX12_worked_127 (by decide) m7 zi_24 (fun hc_ => ?_) (fun hc_ => ?_)
              · replace h := zs_t h hc_
                refine zV_ls [1, 2, 3, 4, 0] rfl ?_
                exact fX12_worked_j137_ok hZ hn hx1 hx2 hx3 m7 h hc he
              · replace h := zs_f h hc_
                refine zV_iload 0 dX12_worked_130 rfl ?_
                refine zV_bipush (v := 25) dX12_worked_132 rfl ?_
                refine zV_icmp_ne 180 dX12_worked_134 (by decide) m7 zi_25 (fun hc_ => ?_) (fun hc_ => ?_)
                · replace h := zs_f h hc_
                  refine zV_iload 0 dX12_worked_180 rfl ?_
                  refine zV_bipush (v := 26) dX12_worked_182 rfl ?_
                  refine zV_icmp_eq 194 dX12_worked_184 (by decide) m7 zi_26 (fun hc_ => ?_) (fun hc_ => ?_)
                  · replace h := zs_t h hc_
                    refine zV_ls [1, 2, 3, 4, 0] rfl ?_
                    exact fX12_worked_j194_ok hZ hn hx1 hx2 hx3 m7 h hc he
                  · replace h := zs_f h hc_
                    refine zV_iload 0 dX12_worked_187 rfl ?_
                    refine zV_bipush (v := 27) dX12_worked_189 rfl ?_
                    refine zV_icmp_ne 210 dX12_worked_191 (by decide) m7 zi_27 (fun hc_ => ?_) (fun hc_ => ?_)
                    · replace h := zs_f h hc_
                      refine zV_iload 0 dX12_worked_210 rfl ?_
                      refine zV_bipush (v := 100) dX12_worked_212 rfl ?_
                      refine zV_icmp_lt 225 dX12_worked_214 (by decide) m7 zi_100 (fun hc_ => ?_) (fun hc_ => ?_)
                      · replace h := zs_t h hc_
                        refine zV_iload 0 dX12_worked_225 rfl ?_
                        refine zV_bipush (v := 20) dX12_worked_227 rfl ?_
                        refine zV_icmp_ge 242 dX12_worked_229 (by decide) m7 zi_20 (fun hc_ => ?_) (fun hc_ => ?_)
                        · replace h := zs_t h hc_
                          refine zV_iconst (v := 0) dX12_worked_242 rfl ?_
                          refine zV_ls [1, 2, 3, 4, 0] rfl ?_
                          exact fX12_worked_j243_ok hZ hn hx1 hx2 hx3 m7 zi_0 h hc he
                        · replace h := zs_f h hc_
                          refine zV_aload_n 1 dX12_worked_232 rfl rfl ?_
                          refine zV_getR (j := 242) (zq_200 hZ) zf_X12_41 zkf_X12_105 rfl dX12_worked_233 ?_
                          refine zV_iload 0 dX12_worked_236 rfl ?_
                          obtain ⟨hg, h⟩ := zs_gd h
                          refine zV_iald (zq_242 hZ) hg dX12_worked_238 (fun m55 => ?_)
                          refine zV_goto 243 dX12_worked_239 (by decide) ?_
                          refine zV_ls [1, 2, 3, 4, 0] rfl ?_
                          exact fX12_worked_j243_ok hZ hn hx1 hx2 hx3 m7 m55 h hc he
                      · replace h := zs_f h hc_
                        refine zV_iload 0 dX12_worked_217 rfl ?_
                        refine zV_bipush (v := 100) dX12_worked_219 rfl ?_
                        refine zV_isub dX12_worked_221 ?_
                        refine zV_goto 243 dX12_worked_222 (by decide) ?_
                        refine zV_w ?_
                        refine zV_ls [1, 2, 3, 4, 0] rfl ?_
                        exact fX12_worked_j243_ok hZ hn hx1 hx2 hx3 m7 (z32_w _) h hc he
                    · replace h := zs_t h hc_
                      refine zV_ls [1, 2, 3, 4, 0] rfl ?_
                      exact fX12_worked_j194_ok hZ hn hx1 hx2 hx3 m7 h hc he
                · replace h := zs_t h hc_
                  refine zV_ls [1, 2, 3, 4, 0] rfl ?_
                  exact fX12_worked_j137_ok hZ hn hx1 hx2 hx3 m7 h hc he
            · replace h := zs_t h hc_
              refine zV_aload_n 1 dX12_worked_112 rfl rfl ?_
              refine zV_getR (j := 240) (zq_200 hZ) zf_X12_39 zkf_X12_99 rfl dX12_worked_113 ?_
              refine zV_iload_n 3 dX12_worked_116 rfl rfl ?_
              refine zV_iload 0 dX12_worked_117 rfl ?_
              obtain ⟨hg, h⟩ := zs_gd h
              refine zV_iast (zq_240 hZ) (by decide) hg m7 dX12_worked_119 ?_
              refine zV_goto 329 dX12_worked_120 (by decide) ?_
              refine zV_iinc 4 [(3, zI (zw (x3 + 1))), (4, zI (M 229 x3)), (0, zR 200), (1, zI x1), (2, zI x2)] dX12_worked_329 rfl rfl (by decide) rfl ?_
              refine zV_goto 14 dX12_worked_332 (by decide) ?_
              refine zV_ls [2, 3, 4, 0] rfl ?_
              exact hc _ h hx2 (z32_w _)
          · replace h := zs_t h hc_
            refine zV_ls [1, 2, 3, 4, 0] rfl ?_
            exact fX12_worked_j89_ok hZ hn hx1 hx2 hx3 m7 h hc he
      · replace h := zs_t h hc_
        refine zV_ls [1, 2, 3, 4, 0] rfl ?_
        exact fX12_worked_j46_ok hZ hn hx1 hx2 hx3 m7 h hc he
noncomputable def fX12_worked (x1 : Int) (M : zMem) : Option (Int × zMem) :=
  (zbd (fX12_opens 0 M) fun M4 => (zgd ((0 : Int) ≤ x1 ∧ x1 < 24) (zbd (zit (fun s56 => fX12_worked_l14 x1 (s56.1) (s56.2.1) (s56.2.2)) (0, (M4 227 x1), M4)) fun s63 => (zbd (fX12_tests 0 (s63.2.2)) fun M70 => (zgd ((0 : Int) ≤ (0 : Int) ∧ (0 : Int) < 7) (some ((M70 233 0), M70)))))))
set_option maxRecDepth 100000 in
set_option maxHeartbeats 4000000 in
theorem fX12_worked_ok {Z : zZ} (hZ : zB Z) {nn : Nat} (hn : 2 ≤ nn)  {x1 : Int} (hx1 : z32 x1) {M : zMem} {Q : Option zAV → zMem → zZ → Prop} (h : zSat (fX12_worked x1 M) (fun r => Q (some (zI r.1)) r.2 Z))  : zV zmX12_worked nn 0 0 Z 0 [(0, zR 200), (1, zI x1)] [] M Q := by
  unfold fX12_worked at h
  refine zV_iconst (v := 0) dX12_worked_0 rfl ?_
  refine zV_istore_n [(2, zI 0), (0, zR 200), (1, zI x1)] dX12_worked_1 rfl (by decide) rfl ?_
  refine zV_aload_n 1 dX12_worked_2 rfl rfl ?_
  refine zV_iconst (v := 0) dX12_worked_3 rfl ?_
  refine zV_cVV (y' := zmX12_opens) (n' := 0) (As := [zI 0]) zc_X12_239 (zq_200 hZ) rfl dX12_worked_4 (Nat.le_trans (by decide) hn) rfl (Nat.le_of_ble_eq_true rfl) (Nat.le_of_ble_eq_true rfl) rfl h (fun Q' h' => fX12_opens_ok hZ (Nat.le_refl _) zi_0 h') (fun M4 h => ?_)
  refine zV_aload_n 1 dX12_worked_7 rfl rfl ?_
  refine zV_getR (j := 227) (zq_200 hZ) zf_X12_26 zkf_X12_63 rfl dX12_worked_8 ?_
  refine zV_iload_n 2 dX12_worked_11 rfl rfl ?_
  obtain ⟨hg, h⟩ := zs_gd h
  refine zV_iald (zq_227 hZ) hg dX12_worked_12 (fun m5 => ?_)
  refine zV_istore_n [(3, zI (M4 227 x1)), (2, zI 0), (0, zR 200), (1, zI x1)] dX12_worked_13 rfl (by decide) rfl ?_
  refine zV_ls [2, 3, 1, 0] rfl ?_
  refine (zV_loop (Vh := fun s56 : Int × Int × zMem => z32 (s56.1) → z32 (s56.2.1) → zV zmX12_worked nn 0 0 Z 14 [(0, zR 200), (1, zI x1), (2, zI (s56.1)), (3, zI (s56.2.1))] [] (s56.2.2) Q) h (fun s56 P57 hP58 hc59 he60 => ?_)) zi_0 m5
  intro c61 c62
  refine fX12_worked_l14_ok hZ hn hx1 c61 c62 hP58 hc59 (fun s63 h64 d65 d66 => ?_)
  have h := he60 _ h64
  refine zV_aload_n 0 dX12_worked_335 rfl rfl ?_
  refine zV_iconst (v := 0) dX12_worked_336 rfl ?_
  refine zV_cVV (y' := zmX12_tests) (n' := 1) (As := [zI 0]) zc_X12_242 (zq_200 hZ) rfl dX12_worked_337 (Nat.le_trans (by decide) hn) rfl (Nat.le_of_ble_eq_true rfl) (Nat.le_of_ble_eq_true rfl) rfl h (fun Q' h' => fX12_tests_ok hZ (Nat.le_refl _) zi_0 h') (fun M70 h => ?_)
  refine zV_aload_n 0 dX12_worked_340 rfl rfl ?_
  refine zV_getR (j := 233) (zq_200 hZ) zf_X12_32 zkf_X12_78 rfl dX12_worked_341 ?_
  refine zV_iconst (v := 0) dX12_worked_344 rfl ?_
  obtain ⟨hg, h⟩ := zs_gd h
  refine zV_iald (zq_233 hZ) hg dX12_worked_345 (fun m71 => ?_)
  exact zV_ireti dX12_worked_346 rfl m71 h
noncomputable def fX12_isKept (M : zMem) : Option (Int) :=
  (if (M 200 6) = 1 then (if (M 200 7) = 50934 then some 1 else (if (M 200 7) = 404978 then some 1 else (if (M 200 7) = 381245 then some 1 else (if (M 200 7) = 453774 then some 1 else (if (M 200 7) = 263328790 then some 1 else (if (M 200 7) = 144686 then some 1 else (if (M 200 7) = 10413527 then some 1 else (if (M 200 7) = 315918 then some 1 else (if (M 200 7) = 335207579 then some 1 else (if (M 200 7) = 10415990 then some 1 else (if (M 200 7) = 14006 then some 1 else (if (M 200 7) = 8009370239 then some 1 else (if (M 200 7) = 2461245202 then some 1 else (if (M 200 7) = 9665171 then some 1 else (if (M 200 7) = 385331 then some 1 else (if (M 200 7) = 3427 then some 1 else (if (M 200 7) = 3175 then some 1 else (if (M 200 7) = 453937 then some 1 else (if (M 200 7) = 70401 then some 1 else (if (M 200 7) = 1949438 then some 1 else (if (M 200 7) = 778957 then some 1 else (if (M 200 7) = 4081324 then some 1 else (if (M 200 7) = 10631 then some 1 else (if (M 200 7) = 1111 then some 1 else (if (M 200 7) = 423 then some 1 else some 0))))))))))))))))))))))))) else some 1)
set_option maxRecDepth 100000 in
set_option maxHeartbeats 4000000 in
theorem fX12_isKept_ok {Z : zZ} (hZ : zB Z) {nn : Nat} (hn : 0 ≤ nn)   {M : zMem} {Q : Option zAV → zMem → zZ → Prop} (h : zSat (fX12_isKept M) (fun r => Q (some (zI r)) M Z))  : zV zmX12_isKept nn 0 0 Z 0 [(0, zR 200)] [] M Q := by
  unfold fX12_isKept at h
  refine zV_aload_n 0 dX12_isKept_0 rfl rfl ?_
  refine zV_getI (zq_200 hZ) zf_X12_6 zkf_X12_182 rfl dX12_isKept_1 (fun m1 => ?_)
  refine zV_iconst (v := 1) dX12_isKept_4 rfl ?_
  refine zV_icmp_eq 10 dX12_isKept_5 (by decide) m1 zi_1 (fun hc_ => ?_) (fun hc_ => ?_)
  · replace h := zs_t h hc_
    refine zV_aload_n 0 dX12_isKept_10 rfl rfl ?_
    refine zV_getL (zq_200 hZ) zf_X12_7 zkf_X12_175 rfl dX12_isKept_11 (fun m2 => ?_)
    refine zV_ldc2 (v := 50934) zkl_X12_245 rfl dX12_isKept_14 ?_
    refine zV_lcmp dX12_isKept_17 m2 zj_50934 ?_
    refine zV_lifeq 285 dX12_isKept_18 (by decide) (fun hc_ => ?_) (fun hc_ => ?_)
    · replace h := zs_t h hc_
      refine zV_iconst (v := 1) dX12_isKept_285 rfl ?_
      refine zV_goto 290 dX12_isKept_286 (by decide) ?_
      exact zV_iretb dX12_isKept_290 rfl (Or.inr rfl) h
    · replace h := zs_f h hc_
      refine zV_aload_n 0 dX12_isKept_21 rfl rfl ?_
      refine zV_getL (zq_200 hZ) zf_X12_7 zkf_X12_175 rfl dX12_isKept_22 (fun m3 => ?_)
      refine zV_ldc2 (v := 404978) zkl_X12_247 rfl dX12_isKept_25 ?_
      refine zV_lcmp dX12_isKept_28 m3 zj_404978 ?_
      refine zV_lifeq 285 dX12_isKept_29 (by decide) (fun hc_ => ?_) (fun hc_ => ?_)
      · replace h := zs_t h hc_
        refine zV_iconst (v := 1) dX12_isKept_285 rfl ?_
        refine zV_goto 290 dX12_isKept_286 (by decide) ?_
        exact zV_iretb dX12_isKept_290 rfl (Or.inr rfl) h
      · replace h := zs_f h hc_
        refine zV_aload_n 0 dX12_isKept_32 rfl rfl ?_
        refine zV_getL (zq_200 hZ) zf_X12_7 zkf_X12_175 rfl dX12_isKept_33 (fun m4 => ?_)
        refine zV_ldc2 (v := 381245) zkl_X12_249 rfl dX12_isKept_36 ?_
        refine zV_lcmp dX12_isKept_39 m4 zj_381245 ?_
        refine zV_lifeq 285 dX12_isKept_40 (by decide) (fun hc_ => ?_) (fun hc_ => ?_)
        · replace h := zs_t h hc_
          refine zV_iconst (v := 1) dX12_isKept_285 rfl ?_
          refine zV_goto 290 dX12_isKept_286 (by decide) ?_
          exact zV_iretb dX12_isKept_290 rfl (Or.inr rfl) h
        · replace h := zs_f h hc_
          refine zV_aload_n 0 dX12_isKept_43 rfl rfl ?_
          refine zV_getL (zq_200 hZ) zf_X12_7 zkf_X12_175 rfl dX12_isKept_44 (fun m5 => ?_)
          refine zV_ldc2 (v := 453774) zkl_X12_206 rfl dX12_isKept_47 ?_
          refine zV_lcmp dX12_isKept_50 m5 zj_453774 ?_
          refine zV_lifeq 285 dX12_isKept_51 (by decide) (fun hc_ => ?_) (fun hc_ => ?_)
          · replace h := zs_t h hc_
            refine zV_iconst (v := 1) dX12_isKept_285 rfl ?_
            refine zV_goto 290 dX12_isKept_286 (by decide) ?_
            exact zV_iretb dX12_isKept_290 rfl (Or.inr rfl) h
          · replace h := zs_f h hc_
            refine zV_aload_n 0 dX12_isKept_54 rfl rfl ?_
            refine zV_getL (zq_200 hZ) zf_X12_7 zkf_X12_175 rfl dX12_isKept_55 (fun m6 => ?_)
            refine zV_ldc2 (v := 263328790) zkl_X12_251 rfl dX12_isKept_58 ?_
            refine zV_lcmp dX12_isKept_61 m6 zj_263328790 ?_
            refine zV_lifeq 285 dX12_isKept_62 (by decide) (fun hc_ => ?_) (fun hc_ => ?_)
            · replace h := zs_t h hc_
              refine zV_iconst (v := 1) dX12_isKept_285 rfl ?_
              refine zV_goto 290 dX12_isKept_286 (by decide) ?_
              exact zV_iretb dX12_isKept_290 rfl (Or.inr rfl) h
            · replace h := zs_f h hc_
              refine zV_aload_n 0 dX12_isKept_65 rfl rfl ?_
              refine zV_getL (zq_200 hZ) zf_X12_7 zkf_X12_175 rfl dX12_isKept_66 (fun m7 => ?_)
              refine zV_ldc2 (v := 144686) zkl_X12_253 rfl dX12_isKept_69 ?_
              refine zV_lcmp dX12_isKept_72 m7 zj_144686 ?_
              refine zV_lifeq 285 dX12_isKept_73 (by decide) (fun hc_ => ?_) (fun hc_ => ?_)
              · replace h := zs_t h hc_
                refine zV_iconst (v := 1) dX12_isKept_285 rfl ?_
                refine zV_goto 290 dX12_isKept_286 (by decide) ?_
                exact zV_iretb dX12_isKept_290 rfl (Or.inr rfl) h
              · replace h := zs_f h hc_
                refine zV_aload_n 0 dX12_isKept_76 rfl rfl ?_
                refine zV_getL (zq_200 hZ) zf_X12_7 zkf_X12_175 rfl dX12_isKept_77 (fun m8 => ?_)
                refine zV_ldc2 (v := 10413527) zkl_X12_255 rfl dX12_isKept_80 ?_
                refine zV_lcmp dX12_isKept_83 m8 zj_10413527 ?_
                refine zV_lifeq 285 dX12_isKept_84 (by decide) (fun hc_ => ?_) (fun hc_ => ?_)
                · replace h := zs_t h hc_
                  refine zV_iconst (v := 1) dX12_isKept_285 rfl ?_
                  refine zV_goto 290 dX12_isKept_286 (by decide) ?_
                  exact zV_iretb dX12_isKept_290 rfl (Or.inr rfl) h
                · replace h := zs_f h hc_
                  refine zV_aload_n 0 dX12_isKept_87 rfl rfl ?_
                  refine zV_getL (zq_200 hZ) zf_X12_7 zkf_X12_175 rfl dX12_isKept_88 (fun m9 => ?_)
                  refine zV_ldc2 (v := 315918) zkl_X12_257 rfl dX12_isKept_91 ?_
                  refine zV_lcmp dX12_isKept_94 m9 zj_315918 ?_
                  refine zV_lifeq 285 dX12_isKept_95 (by decide) (fun hc_ => ?_) (fun hc_ => ?_)
                  · replace h := zs_t h hc_
                    refine zV_iconst (v := 1) dX12_isKept_285 rfl ?_
                    refine zV_goto 290 dX12_isKept_286 (by decide) ?_
                    exact zV_iretb dX12_isKept_290 rfl (Or.inr rfl) h
                  · replace h := zs_f h hc_
                    refine zV_aload_n 0 dX12_isKept_98 rfl rfl ?_
                    refine zV_getL (zq_200 hZ) zf_X12_7 zkf_X12_175 rfl dX12_isKept_99 (fun m10 => ?_)
                    refine zV_ldc2 (v := 335207579) zkl_X12_259 rfl dX12_isKept_102 ?_
                    refine zV_lcmp dX12_isKept_105 m10 zj_335207579 ?_
                    refine zV_lifeq 285 dX12_isKept_106 (by decide) (fun hc_ => ?_) (fun hc_ => ?_)
                    · replace h := zs_t h hc_
                      refine zV_iconst (v := 1) dX12_isKept_285 rfl ?_
                      refine zV_goto 290 dX12_isKept_286 (by decide) ?_
                      exact zV_iretb dX12_isKept_290 rfl (Or.inr rfl) h
                    · replace h := zs_f h hc_
                      refine zV_aload_n 0 dX12_isKept_109 rfl rfl ?_
                      refine zV_getL (zq_200 hZ) zf_X12_7 zkf_X12_175 rfl dX12_isKept_110 (fun m11 => ?_)
                      refine zV_ldc2 (v := 10415990) zkl_X12_261 rfl dX12_isKept_113 ?_
                      refine zV_lcmp dX12_isKept_116 m11 zj_10415990 ?_
                      refine zV_lifeq 285 dX12_isKept_117 (by decide) (fun hc_ => ?_) (fun hc_ => ?_)
                      · replace h := zs_t h hc_
                        refine zV_iconst (v := 1) dX12_isKept_285 rfl ?_
                        refine zV_goto 290 dX12_isKept_286 (by decide) ?_
                        exact zV_iretb dX12_isKept_290 rfl (Or.inr rfl) h
                      · replace h := zs_f h hc_
                        refine zV_aload_n 0 dX12_isKept_120 rfl rfl ?_
                        refine zV_getL (zq_200 hZ) zf_X12_7 zkf_X12_175 rfl dX12_isKept_121 (fun m12 => ?_)
                        refine zV_ldc2 (v := 14006) zkl_X12_263 rfl dX12_isKept_124 ?_
                        refine zV_lcmp dX12_isKept_127 m12 zj_14006 ?_
                        refine zV_lifeq 285 dX12_isKept_128 (by decide) (fun hc_ => ?_) (fun hc_ => ?_)
                        · replace h := zs_t h hc_
                          refine zV_iconst (v := 1) dX12_isKept_285 rfl ?_
                          refine zV_goto 290 dX12_isKept_286 (by decide) ?_
                          exact zV_iretb dX12_isKept_290 rfl (Or.inr rfl) h
                        · replace h := zs_f h hc_
                          refine zV_aload_n 0 dX12_isKept_131 rfl rfl ?_
                          refine zV_getL (zq_200 hZ) zf_X12_7 zkf_X12_175 rfl dX12_isKept_132 (fun m13 => ?_)
                          refine zV_ldc2 (v := 8009370239) zkl_X12_265 rfl dX12_isKept_135 ?_
                          refine zV_lcmp dX12_isKept_138 m13 zj_8009370239 ?_
                          refine zV_lifeq 285 dX12_isKept_139 (by decide) (fun hc_ => ?_) (fun hc_ => ?_)
                          · replace h := zs_t h hc_
                            refine zV_iconst (v := 1) dX12_isKept_285 rfl ?_
                            refine zV_goto 290 dX12_isKept_286 (by decide) ?_
                            exact zV_iretb dX12_isKept_290 rfl (Or.inr rfl) h
                          · replace h := zs_f h hc_
                            refine zV_aload_n 0 dX12_isKept_142 rfl rfl ?_
                            refine zV_getL (zq_200 hZ) zf_X12_7 zkf_X12_175 rfl dX12_isKept_143 (fun m14 => ?_)
                            refine zV_ldc2 (v := 2461245202) zkl_X12_267 rfl dX12_isKept_146 ?_
                            refine zV_lcmp dX12_isKept_149 m14 zj_2461245202 ?_
                            refine zV_lifeq 285 dX12_isKept_150 (by decide) (fun hc_ => ?_) (fun hc_ => ?_)
                            · replace h := zs_t h hc_
                              refine zV_iconst (v := 1) dX12_isKept_285 rfl ?_
                              refine zV_goto 290 dX12_isKept_286 (by decide) ?_
                              exact zV_iretb dX12_isKept_290 rfl (Or.inr rfl) h
                            · replace h := zs_f h hc_
                              refine zV_aload_n 0 dX12_isKept_153 rfl rfl ?_
                              refine zV_getL (zq_200 hZ) zf_X12_7 zkf_X12_175 rfl dX12_isKept_154 (fun m15 => ?_)
                              refine zV_ldc2 (v := 9665171) zkl_X12_269 rfl dX12_isKept_157 ?_
                              refine zV_lcmp dX12_isKept_160 m15 zj_9665171 ?_
                              refine zV_lifeq 285 dX12_isKept_161 (by decide) (fun hc_ => ?_) (fun hc_ => ?_)
                              · replace h := zs_t h hc_
                                refine zV_iconst (v := 1) dX12_isKept_285 rfl ?_
                                refine zV_goto 290 dX12_isKept_286 (by decide) ?_
                                exact zV_iretb dX12_isKept_290 rfl (Or.inr rfl) h
                              · replace h := zs_f h hc_
                                refine zV_aload_n 0 dX12_isKept_164 rfl rfl ?_
                                refine zV_getL (zq_200 hZ) zf_X12_7 zkf_X12_175 rfl dX12_isKept_165 (fun m16 => ?_)
                                refine zV_ldc2 (v := 385331) zkl_X12_271 rfl dX12_isKept_168 ?_
                                refine zV_lcmp dX12_isKept_171 m16 zj_385331 ?_
                                refine zV_lifeq 285 dX12_isKept_172 (by decide) (fun hc_ => ?_) (fun hc_ => ?_)
                                · replace h := zs_t h hc_
                                  refine zV_iconst (v := 1) dX12_isKept_285 rfl ?_
                                  refine zV_goto 290 dX12_isKept_286 (by decide) ?_
                                  exact zV_iretb dX12_isKept_290 rfl (Or.inr rfl) h
                                · replace h := zs_f h hc_
                                  refine zV_aload_n 0 dX12_isKept_175 rfl rfl ?_
                                  refine zV_getL (zq_200 hZ) zf_X12_7 zkf_X12_175 rfl dX12_isKept_176 (fun m17 => ?_)
                                  refine zV_ldc2 (v := 3427) zkl_X12_273 rfl dX12_isKept_179 ?_
                                  refine zV_lcmp dX12_isKept_182 m17 zj_3427 ?_
                                  refine zV_lifeq 285 dX12_isKept_183 (by decide) (fun hc_ => ?_) (fun hc_ => ?_)
                                  · replace h := zs_t h hc_
                                    refine zV_iconst (v := 1) dX12_isKept_285 rfl ?_
                                    refine zV_goto 290 dX12_isKept_286 (by decide) ?_
                                    exact zV_iretb dX12_isKept_290 rfl (Or.inr rfl) h
                                  · replace h := zs_f h hc_
                                    refine zV_aload_n 0 dX12_isKept_186 rfl rfl ?_
                                    refine zV_getL (zq_200 hZ) zf_X12_7 zkf_X12_175 rfl dX12_isKept_187 (fun m18 => ?_)
                                    refine zV_ldc2 (v := 3175) zkl_X12_275 rfl dX12_isKept_190 ?_
                                    refine zV_lcmp dX12_isKept_193 m18 zj_3175 ?_
                                    refine zV_lifeq 285 dX12_isKept_194 (by decide) (fun hc_ => ?_) (fun hc_ => ?_)
                                    · replace h := zs_t h hc_
                                      refine zV_iconst (v := 1) dX12_isKept_285 rfl ?_
                                      refine zV_goto 290 dX12_isKept_286 (by decide) ?_
                                      exact zV_iretb dX12_isKept_290 rfl (Or.inr rfl) h
                                    · replace h := zs_f h hc_
                                      refine zV_aload_n 0 dX12_isKept_197 rfl rfl ?_
                                      refine zV_getL (zq_200 hZ) zf_X12_7 zkf_X12_175 rfl dX12_isKept_198 (fun m19 => ?_)
                                      refine zV_ldc2 (v := 453937) zkl_X12_277 rfl dX12_isKept_201 ?_
                                      refine zV_lcmp dX12_isKept_204 m19 zj_453937 ?_
                                      refine zV_lifeq 285 dX12_isKept_205 (by decide) (fun hc_ => ?_) (fun hc_ => ?_)
                                      · replace h := zs_t h hc_
                                        refine zV_iconst (v := 1) dX12_isKept_285 rfl ?_
                                        refine zV_goto 290 dX12_isKept_286 (by decide) ?_
                                        exact zV_iretb dX12_isKept_290 rfl (Or.inr rfl) h
                                      · replace h := zs_f h hc_
                                        refine zV_aload_n 0 dX12_isKept_208 rfl rfl ?_
                                        refine zV_getL (zq_200 hZ) zf_X12_7 zkf_X12_175 rfl dX12_isKept_209 (fun m20 => ?_)
                                        refine zV_ldc2 (v := 70401) zkl_X12_279 rfl dX12_isKept_212 ?_
                                        refine zV_lcmp dX12_isKept_215 m20 zj_70401 ?_
                                        refine zV_lifeq 285 dX12_isKept_216 (by decide) (fun hc_ => ?_) (fun hc_ => ?_)
                                        · replace h := zs_t h hc_
                                          refine zV_iconst (v := 1) dX12_isKept_285 rfl ?_
                                          refine zV_goto 290 dX12_isKept_286 (by decide) ?_
                                          exact zV_iretb dX12_isKept_290 rfl (Or.inr rfl) h
                                        · replace h := zs_f h hc_
                                          refine zV_aload_n 0 dX12_isKept_219 rfl rfl ?_
                                          refine zV_getL (zq_200 hZ) zf_X12_7 zkf_X12_175 rfl dX12_isKept_220 (fun m21 => ?_)
                                          refine zV_ldc2 (v := 1949438) zkl_X12_281 rfl dX12_isKept_223 ?_
                                          refine zV_lcmp dX12_isKept_226 m21 zj_1949438 ?_
                                          refine zV_lifeq 285 dX12_isKept_227 (by decide) (fun hc_ => ?_) (fun hc_ => ?_)
                                          · replace h := zs_t h hc_
                                            refine zV_iconst (v := 1) dX12_isKept_285 rfl ?_
                                            refine zV_goto 290 dX12_isKept_286 (by decide) ?_
                                            exact zV_iretb dX12_isKept_290 rfl (Or.inr rfl) h
                                          · replace h := zs_f h hc_
                                            refine zV_aload_n 0 dX12_isKept_230 rfl rfl ?_
                                            refine zV_getL (zq_200 hZ) zf_X12_7 zkf_X12_175 rfl dX12_isKept_231 (fun m22 => ?_)
                                            refine zV_ldc2 (v := 778957) zkl_X12_283 rfl dX12_isKept_234 ?_
                                            refine zV_lcmp dX12_isKept_237 m22 zj_778957 ?_
                                            refine zV_lifeq 285 dX12_isKept_238 (by decide) (fun hc_ => ?_) (fun hc_ => ?_)
                                            · replace h := zs_t h hc_
                                              refine zV_iconst (v := 1) dX12_isKept_285 rfl ?_
                                              refine zV_goto 290 dX12_isKept_286 (by decide) ?_
                                              exact zV_iretb dX12_isKept_290 rfl (Or.inr rfl) h
                                            · replace h := zs_f h hc_
                                              refine zV_aload_n 0 dX12_isKept_241 rfl rfl ?_
                                              refine zV_getL (zq_200 hZ) zf_X12_7 zkf_X12_175 rfl dX12_isKept_242 (fun m23 => ?_)
                                              refine zV_ldc2 (v := 4081324) zkl_X12_285 rfl dX12_isKept_245 ?_
                                              refine zV_lcmp dX12_isKept_248 m23 zj_4081324 ?_
                                              refine zV_lifeq 285 dX12_isKept_249 (by decide) (fun hc_ => ?_) (fun hc_ => ?_)
                                              · replace h := zs_t h hc_
                                                refine zV_iconst (v := 1) dX12_isKept_285 rfl ?_
                                                refine zV_goto 290 dX12_isKept_286 (by decide) ?_
                                                exact zV_iretb dX12_isKept_290 rfl (Or.inr rfl) h
                                              · replace h := zs_f h hc_
                                                refine zV_aload_n 0 dX12_isKept_252 rfl rfl ?_
                                                refine zV_getL (zq_200 hZ) zf_X12_7 zkf_X12_175 rfl dX12_isKept_253 (fun m24 => ?_)
                                                refine zV_ldc2 (v := 10631) zkl_X12_212 rfl dX12_isKept_256 ?_
                                                refine zV_lcmp dX12_isKept_259 m24 zj_10631 ?_
                                                refine zV_lifeq 285 dX12_isKept_260 (by decide) (fun hc_ => ?_) (fun hc_ => ?_)
                                                · replace h := zs_t h hc_
                                                  refine zV_iconst (v := 1) dX12_isKept_285 rfl ?_
                                                  refine zV_goto 290 dX12_isKept_286 (by decide) ?_
                                                  exact zV_iretb dX12_isKept_290 rfl (Or.inr rfl) h
                                                · replace h := zs_f h hc_
                                                  refine zV_aload_n 0 dX12_isKept_263 rfl rfl ?_
                                                  refine zV_getL (zq_200 hZ) zf_X12_7 zkf_X12_175 rfl dX12_isKept_264 (fun m25 => ?_)
                                                  refine zV_ldc2 (v := 1111) zkl_X12_232 rfl dX12_isKept_267 ?_
                                                  refine zV_lcmp dX12_isKept_270 m25 zj_1111 ?_
                                                  refine zV_lifeq 285 dX12_isKept_271 (by decide) (fun hc_ => ?_) (fun hc_ => ?_)
                                                  · replace h := zs_t h hc_
                                                    refine zV_iconst (v := 1) dX12_isKept_285 rfl ?_
                                                    refine zV_goto 290 dX12_isKept_286 (by decide) ?_
                                                    exact zV_iretb dX12_isKept_290 rfl (Or.inr rfl) h
                                                  · replace h := zs_f h hc_
                                                    refine zV_aload_n 0 dX12_isKept_274 rfl rfl ?_
                                                    refine zV_getL (zq_200 hZ) zf_X12_7 zkf_X12_175 rfl dX12_isKept_275 (fun m26 => ?_)
                                                    refine zV_ldc2 (v := 423) zkl_X12_234 rfl dX12_isKept_278 ?_
                                                    refine zV_lcmp dX12_isKept_281 m26 zj_423 ?_
                                                    refine zV_lifne 289 dX12_isKept_282 (by decide) (fun hc_ => ?_) (fun hc_ => ?_)
                                                    · replace h := zs_f h hc_
                                                      refine zV_iconst (v := 0) dX12_isKept_289 rfl ?_
                                                      exact zV_iretb dX12_isKept_290 rfl (Or.inl rfl) h
                                                    · replace h := zs_t h hc_
                                                      refine zV_iconst (v := 1) dX12_isKept_285 rfl ?_
                                                      refine zV_goto 290 dX12_isKept_286 (by decide) ?_
                                                      exact zV_iretb dX12_isKept_290 rfl (Or.inr rfl) h
  · replace h := zs_f h hc_
    refine zV_iconst (v := 1) dX12_isKept_8 rfl ?_
    exact zV_iretb dX12_isKept_9 rfl (Or.inr rfl) h
noncomputable def fX12_needsNumber (x1 x2 : Int) (M : zMem) : Option (Int × zMem) :=
  (if (M 200 6) = 2 then (zbd (fX12_isFrom (M 200 8) x1 x2 M) fun r3 => (if r3 = 0 then (zbd2 (fX12_fails 4 M) fun r7 M10 => (if r7 = 0 then some (0, M10) else some (1, M10))) else some (1, M))) else (zbd2 (fX12_fails 1 M) fun r11 M14 => some (r11, M14)))
set_option maxRecDepth 100000 in
set_option maxHeartbeats 4000000 in
theorem fX12_needsNumber_ok {Z : zZ} (hZ : zB Z) {nn : Nat} (hn : 1 ≤ nn)  {x1 x2 : Int} (hx1 : z32 x1) (hx2 : z32 x2) {M : zMem} {Q : Option zAV → zMem → zZ → Prop} (h : zSat (fX12_needsNumber x1 x2 M) (fun r => Q (some (zI r.1)) r.2 Z))  : zV zmX12_needsNumber nn 0 0 Z 0 [(0, zR 200), (1, zI x1), (2, zI x2)] [] M Q := by
  unfold fX12_needsNumber at h
  refine zV_aload_n 0 dX12_needsNumber_0 rfl rfl ?_
  refine zV_getI (zq_200 hZ) zf_X12_6 zkf_X12_182 rfl dX12_needsNumber_1 (fun m1 => ?_)
  refine zV_iconst (v := 2) dX12_needsNumber_4 rfl ?_
  refine zV_icmp_eq 16 dX12_needsNumber_5 (by decide) m1 zi_2 (fun hc_ => ?_) (fun hc_ => ?_)
  · replace h := zs_t h hc_
    refine zV_aload_n 0 dX12_needsNumber_16 rfl rfl ?_
    refine zV_getI (zq_200 hZ) zf_X12_8 zkf_X12_179 rfl dX12_needsNumber_17 (fun m2 => ?_)
    refine zV_iload_n 1 dX12_needsNumber_20 rfl rfl ?_
    refine zV_iload_n 2 dX12_needsNumber_21 rfl rfl ?_
    refine zV_cSI (y' := zmX12_isFrom) (n' := 0) (As := [zI (M 200 8), zI x1, zI x2]) zc_X12_287 dX12_needsNumber_22 (Nat.le_trans (by decide) hn) rfl (Nat.le_of_ble_eq_true rfl) (Nat.le_of_ble_eq_true rfl) rfl h (fun Q' h' => fX12_isFrom_ok hZ (Nat.le_refl _) m2 hx1 hx2 h') (fun r3 c4 b5 h => ?_)
    refine zV_if_ne 36 dX12_needsNumber_25 (by decide) c4 (fun hc_ => ?_) (fun hc_ => ?_)
    · replace h := zs_f h hc_
      refine zV_iconst (v := 1) dX12_needsNumber_36 rfl ?_
      refine zV_goto 41 dX12_needsNumber_37 (by decide) ?_
      exact zV_iretb dX12_needsNumber_41 rfl (Or.inr rfl) h
    · replace h := zs_t h hc_
      refine zV_aload_n 0 dX12_needsNumber_28 rfl rfl ?_
      refine zV_iconst (v := 4) dX12_needsNumber_29 rfl ?_
      refine zV_cVIm (y' := zmX12_fails) (n' := 0) (As := [zI 4]) zc_X12_222 (zq_200 hZ) rfl dX12_needsNumber_30 (Nat.le_trans (by decide) hn) rfl (Nat.le_of_ble_eq_true rfl) (Nat.le_of_ble_eq_true rfl) rfl h (fun Q' h' => fX12_fails_ok hZ (Nat.le_refl _) zi_4 h') (fun r7 M10 c8 b9 h => ?_)
      refine zV_if_eq 40 dX12_needsNumber_33 (by decide) c8 (fun hc_ => ?_) (fun hc_ => ?_)
      · replace h := zs_t h hc_
        refine zV_iconst (v := 0) dX12_needsNumber_40 rfl ?_
        exact zV_iretb dX12_needsNumber_41 rfl (Or.inl rfl) h
      · replace h := zs_f h hc_
        refine zV_iconst (v := 1) dX12_needsNumber_36 rfl ?_
        refine zV_goto 41 dX12_needsNumber_37 (by decide) ?_
        exact zV_iretb dX12_needsNumber_41 rfl (Or.inr rfl) h
  · replace h := zs_f h hc_
    refine zV_aload_n 0 dX12_needsNumber_8 rfl rfl ?_
    refine zV_iconst (v := 1) dX12_needsNumber_9 rfl ?_
    refine zV_cVIm (y' := zmX12_fails) (n' := 0) (As := [zI 1]) zc_X12_222 (zq_200 hZ) rfl dX12_needsNumber_10 (Nat.le_trans (by decide) hn) rfl (Nat.le_of_ble_eq_true rfl) (Nat.le_of_ble_eq_true rfl) rfl h (fun Q' h' => fX12_fails_ok hZ (Nat.le_refl _) zi_1 h') (fun r11 M14 c12 b13 h => ?_)
    refine zV_goto 41 dX12_needsNumber_13 (by decide) ?_
    exact zV_iretb dX12_needsNumber_41 rfl (b13 rfl) h
noncomputable def fX12_needs (x1 x3 x4 : Int) (M : zMem) : Option (Int × zMem) :=
  (zbd (fX12_isWord x1 M) fun r1 => (if r1 = 0 then (zbd2 (fX12_fails 1 M) fun r18 M21 => some (r18, M21)) else (zbd (fX12_nextToken M) fun M8 => (zbd2 (fX12_needsNumber x3 x4 M8) fun r9 M12 => (if r9 = 0 then some (0, M12) else (zbd (fX12_nextToken (zup M12 200 42 (M12 200 8))) fun M17 => some (1, M17)))))))
set_option maxRecDepth 100000 in
set_option maxHeartbeats 4000000 in
theorem fX12_needs_ok {Z : zZ} (hZ : zB Z) {nn : Nat} (hn : 2 ≤ nn)  {x1 x3 x4 : Int} (hx1 : z64 x1) (hx3 : z32 x3) (hx4 : z32 x4) {M : zMem} {Q : Option zAV → zMem → zZ → Prop} (h : zSat (fX12_needs x1 x3 x4 M) (fun r => Q (some (zI r.1)) r.2 Z))  : zV zmX12_needs nn 0 0 Z 0 [(0, zR 200), (1, zL x1), (3, zI x3), (4, zI x4)] [] M Q := by
  unfold fX12_needs at h
  refine zV_aload_n 0 dX12_needs_0 rfl rfl ?_
  refine zV_lload_n 1 dX12_needs_1 rfl rfl ?_
  refine zV_cVI (y' := zmX12_isWord) (n' := 0) (As := [zL x1]) zc_X12_214 (zq_200 hZ) rfl dX12_needs_2 (Nat.le_trans (by decide) hn) rfl (Nat.le_of_ble_eq_true rfl) (Nat.le_of_ble_eq_true rfl) rfl h (fun Q' h' => fX12_isWord_ok hZ (Nat.le_refl _) hx1 h') (fun r1 c2 b3 h => ?_)
  refine zV_if_ne 14 dX12_needs_5 (by decide) c2 (fun hc_ => ?_) (fun hc_ => ?_)
  · replace h := zs_f h hc_
    refine zV_aload_n 0 dX12_needs_14 rfl rfl ?_
    refine zV_cVV (y' := zmX12_nextToken) (n' := 1) (As := []) zc_X12_229 (zq_200 hZ) rfl dX12_needs_15 (Nat.le_trans (by decide) hn) rfl (Nat.le_of_ble_eq_true rfl) (Nat.le_of_ble_eq_true rfl) rfl h (fun Q' h' => fX12_nextToken_ok hZ (Nat.le_refl _)  h') (fun M8 h => ?_)
    refine zV_aload_n 0 dX12_needs_18 rfl rfl ?_
    refine zV_iload_n 2 dX12_needs_19 rfl rfl ?_
    refine zV_iload 3 dX12_needs_20 rfl ?_
    refine zV_cVIm (y' := zmX12_needsNumber) (n' := 1) (As := [zI x3, zI x4]) zc_X12_291 (zq_200 hZ) rfl dX12_needs_22 (Nat.le_trans (by decide) hn) rfl (Nat.le_of_ble_eq_true rfl) (Nat.le_of_ble_eq_true rfl) rfl h (fun Q' h' => fX12_needsNumber_ok hZ (Nat.le_refl _) hx3 hx4 h') (fun r9 M12 c10 b11 h => ?_)
    refine zV_if_ne 30 dX12_needs_25 (by decide) c10 (fun hc_ => ?_) (fun hc_ => ?_)
    · replace h := zs_f h hc_
      refine zV_aload_n 0 dX12_needs_30 rfl rfl ?_
      refine zV_aload_n 0 dX12_needs_31 rfl rfl ?_
      refine zV_getI (zq_200 hZ) zf_X12_8 zkf_X12_179 rfl dX12_needs_32 (fun m13 => ?_)
      refine zV_putI (zq_200 hZ) (by decide) zf_X12_42 zkf_X12_295 rfl dX12_needs_35 m13 ?_
      refine zV_aload_n 0 dX12_needs_38 rfl rfl ?_
      refine zV_cVV (y' := zmX12_nextToken) (n' := 1) (As := []) zc_X12_229 (zq_200 hZ) rfl dX12_needs_39 (Nat.le_trans (by decide) hn) rfl (Nat.le_of_ble_eq_true rfl) (Nat.le_of_ble_eq_true rfl) rfl h (fun Q' h' => fX12_nextToken_ok hZ (Nat.le_refl _)  h') (fun M17 h => ?_)
      refine zV_iconst (v := 1) dX12_needs_42 rfl ?_
      exact zV_iretb dX12_needs_43 rfl (Or.inr rfl) h
    · replace h := zs_t h hc_
      refine zV_iconst (v := 0) dX12_needs_28 rfl ?_
      exact zV_iretb dX12_needs_29 rfl (Or.inl rfl) h
  · replace h := zs_t h hc_
    refine zV_aload_n 0 dX12_needs_8 rfl rfl ?_
    refine zV_iconst (v := 1) dX12_needs_9 rfl ?_
    refine zV_cVIm (y' := zmX12_fails) (n' := 0) (As := [zI 1]) zc_X12_222 (zq_200 hZ) rfl dX12_needs_10 (Nat.le_trans (by decide) hn) rfl (Nat.le_of_ble_eq_true rfl) (Nat.le_of_ble_eq_true rfl) rfl h (fun Q' h' => fX12_fails_ok hZ (Nat.le_refl _) zi_1 h') (fun r18 M21 c19 b20 h => ?_)
    exact zV_iretb dX12_needs_13 rfl (b20 rfl) h
noncomputable def fX12_ends (M : zMem) : Option (Int × zMem) :=
  (zbd (fX12_isSign 59 M) fun r1 => (if r1 = 0 then (zbd2 (fX12_fails 1 M) fun r9 M12 => some (r9, M12)) else (zbd (fX12_nextToken M) fun M8 => some (1, M8))))
set_option maxRecDepth 100000 in
set_option maxHeartbeats 4000000 in
theorem fX12_ends_ok {Z : zZ} (hZ : zB Z) {nn : Nat} (hn : 2 ≤ nn)   {M : zMem} {Q : Option zAV → zMem → zZ → Prop} (h : zSat (fX12_ends M) (fun r => Q (some (zI r.1)) r.2 Z))  : zV zmX12_ends nn 0 0 Z 0 [(0, zR 200)] [] M Q := by
  unfold fX12_ends at h
  refine zV_aload_n 0 dX12_ends_0 rfl rfl ?_
  refine zV_bipush (v := 59) dX12_ends_1 rfl ?_
  refine zV_cVI (y' := zmX12_isSign) (n' := 0) (As := [zI 59]) zc_X12_218 (zq_200 hZ) rfl dX12_ends_3 (Nat.le_trans (by decide) hn) rfl (Nat.le_of_ble_eq_true rfl) (Nat.le_of_ble_eq_true rfl) rfl h (fun Q' h' => fX12_isSign_ok hZ (Nat.le_refl _) zi_59 h') (fun r1 c2 b3 h => ?_)
  refine zV_if_ne 15 dX12_ends_6 (by decide) c2 (fun hc_ => ?_) (fun hc_ => ?_)
  · replace h := zs_f h hc_
    refine zV_aload_n 0 dX12_ends_15 rfl rfl ?_
    refine zV_cVV (y' := zmX12_nextToken) (n' := 1) (As := []) zc_X12_229 (zq_200 hZ) rfl dX12_ends_16 (Nat.le_trans (by decide) hn) rfl (Nat.le_of_ble_eq_true rfl) (Nat.le_of_ble_eq_true rfl) rfl h (fun Q' h' => fX12_nextToken_ok hZ (Nat.le_refl _)  h') (fun M8 h => ?_)
    refine zV_iconst (v := 1) dX12_ends_19 rfl ?_
    exact zV_iretb dX12_ends_20 rfl (Or.inr rfl) h
  · replace h := zs_t h hc_
    refine zV_aload_n 0 dX12_ends_9 rfl rfl ?_
    refine zV_iconst (v := 1) dX12_ends_10 rfl ?_
    refine zV_cVIm (y' := zmX12_fails) (n' := 0) (As := [zI 1]) zc_X12_222 (zq_200 hZ) rfl dX12_ends_11 (Nat.le_trans (by decide) hn) rfl (Nat.le_of_ble_eq_true rfl) (Nat.le_of_ble_eq_true rfl) rfl h (fun Q' h' => fX12_fails_ok hZ (Nat.le_refl _) zi_1 h') (fun r9 M12 c10 b11 h => ?_)
    exact zV_iretb dX12_ends_14 rfl (b11 rfl) h
noncomputable def fX12_bowlOf_l2 (x1 : Int) (M : zMem) : Option ((Int) ⊕ ((Int) ⊕ (Int))) :=
  (zgd ((0 : Int) ≤ (1 : Int) ∧ (1 : Int) < 6) (if (M 211 1) ≤ x1 then some (.inr (.inl x1)) else (zgd ((0 : Int) ≤ x1 ∧ x1 < 12) (if (M 214 x1) = (M 200 7) then some (.inr (.inr x1)) else some (.inl (zw (x1 + 1)))))))
set_option maxRecDepth 100000 in
set_option maxHeartbeats 4000000 in
theorem fX12_bowlOf_l2_ok {Z : zZ} (hZ : zB Z) {nn : Nat} (hn : 0 ≤ nn)  {x1 : Int} (hx1 : z32 x1) {M : zMem} {Q : Option zAV → zMem → zZ → Prop} {P : (Int) ⊕ ((Int) ⊕ (Int)) → Prop} (h : zSat (fX12_bowlOf_l2 x1 M) P)  (hc : ∀ s : Int, P (.inl s) → z32 s → zV zmX12_bowlOf nn 0 0 Z 2 [(0, zR 200), (1, zI s)] [] M Q) (he : ∀ s : Int, P (.inr (.inl s)) → z32 s → zV zmX12_bowlOf nn 0 0 Z 34 [(0, zR 200), (1, zI s)] [] M Q) (hr : ∀ r : Int, P (.inr (.inr r)) → (fun r => Q (some (zI r)) M Z) r)  : zV zmX12_bowlOf nn 0 0 Z 2 [(0, zR 200), (1, zI x1)] [] M Q := by
  unfold fX12_bowlOf_l2 at h
  refine zV_iload_n 1 dX12_bowlOf_2 rfl rfl ?_
  refine zV_aload_n 0 dX12_bowlOf_3 rfl rfl ?_
  refine zV_getR (j := 211) (zq_200 hZ) zf_X12_10 zkf_X12_13 rfl dX12_bowlOf_4 ?_
  refine zV_iconst (v := 1) dX12_bowlOf_7 rfl ?_
  obtain ⟨hg, h⟩ := zs_gd h
  refine zV_iald (zq_211 hZ) hg dX12_bowlOf_8 (fun m1 => ?_)
  refine zV_icmp_ge 34 dX12_bowlOf_9 (by decide) hx1 m1 (fun hc_ => ?_) (fun hc_ => ?_)
  · replace h := zs_t h hc_
    exact he _ h hx1
  · replace h := zs_f h hc_
    refine zV_aload_n 0 dX12_bowlOf_12 rfl rfl ?_
    refine zV_getR (j := 214) (zq_200 hZ) zf_X12_13 zkf_X12_22 rfl dX12_bowlOf_13 ?_
    refine zV_iload_n 1 dX12_bowlOf_16 rfl rfl ?_
    obtain ⟨hg, h⟩ := zs_gd h
    refine zV_lald (zq_214 hZ) hg dX12_bowlOf_17 (fun m2 => ?_)
    refine zV_aload_n 0 dX12_bowlOf_18 rfl rfl ?_
    refine zV_getL (zq_200 hZ) zf_X12_7 zkf_X12_175 rfl dX12_bowlOf_19 (fun m3 => ?_)
    refine zV_lcmp dX12_bowlOf_22 m2 m3 ?_
    refine zV_lifne 28 dX12_bowlOf_23 (by decide) (fun hc_ => ?_) (fun hc_ => ?_)
    · replace h := zs_f h hc_
      refine zV_iinc 1 [(1, zI (zw (x1 + 1))), (0, zR 200)] dX12_bowlOf_28 rfl rfl (by decide) rfl ?_
      refine zV_goto 2 dX12_bowlOf_31 (by decide) ?_
      refine zV_ls [1, 0] rfl ?_
      exact hc _ h (z32_w _)
    · replace h := zs_t h hc_
      refine zV_iload_n 1 dX12_bowlOf_26 rfl rfl ?_
      exact zV_ireti dX12_bowlOf_27 rfl hx1 (hr _ h)
noncomputable def fX12_bowlOf (M : zMem) : Option (Int) :=
  (zbd (zit (fun s4 => fX12_bowlOf_l2 s4 M) 0) fun e => zel e (fun s10 => some (-1)) (fun r => some r))
set_option maxRecDepth 100000 in
set_option maxHeartbeats 4000000 in
theorem fX12_bowlOf_ok {Z : zZ} (hZ : zB Z) {nn : Nat} (hn : 0 ≤ nn)   {M : zMem} {Q : Option zAV → zMem → zZ → Prop} (h : zSat (fX12_bowlOf M) (fun r => Q (some (zI r)) M Z))  : zV zmX12_bowlOf nn 0 0 Z 0 [(0, zR 200)] [] M Q := by
  unfold fX12_bowlOf at h
  refine zV_iconst (v := 0) dX12_bowlOf_0 rfl ?_
  refine zV_istore_n [(1, zI 0), (0, zR 200)] dX12_bowlOf_1 rfl (by decide) rfl ?_
  refine zV_ls [1, 0] rfl ?_
  refine (zV_loop (Vh := fun s4 : Int => z32 s4 → zV zmX12_bowlOf nn 0 0 Z 2 [(0, zR 200), (1, zI s4)] [] M Q) h (fun s4 P5 hP6 hc7 he8 => ?_)) zi_0
  intro c9
  refine fX12_bowlOf_l2_ok hZ hn c9 hP6 hc7 (fun s10 h11 d12 => ?_) (fun r13 h14 => he8 _ h14)
  have h := he8 _ h11
  refine zV_iconst (v := (-1)) dX12_bowlOf_34 rfl ?_
  exact zV_ireti dX12_bowlOf_35 rfl zi_n1 h
noncomputable def fX12_readsBowl_j214 (M : zMem) : Option (Int × zMem) :=
  (zgd ((0 : Int) ≤ (1 : Int) ∧ (1 : Int) < 6) (zgd ((0 : Int) ≤ (1 : Int) ∧ (1 : Int) < 6) (zbd2 (fX12_ends (zup M 211 1 (zw ((M 211 1) + 1)))) fun r50 M53 => some (r50, M53))))
set_option maxRecDepth 100000 in
set_option maxHeartbeats 4000000 in
theorem fX12_readsBowl_j214_ok {Z : zZ} (hZ : zB Z) {nn : Nat} (hn : 3 ≤ nn)   {M : zMem} {Q : Option zAV → zMem → zZ → Prop} (h : zSat (fX12_readsBowl_j214 M) (fun r => Q (some (zI r.1)) r.2 Z))  : zV zmX12_readsBowl nn 0 0 Z 214 [(0, zR 200)] [] M Q := by
  unfold fX12_readsBowl_j214 at h
  refine zV_aload_n 0 dX12_readsBowl_214 rfl rfl ?_
  refine zV_getR (j := 211) (zq_200 hZ) zf_X12_10 zkf_X12_13 rfl dX12_readsBowl_215 ?_
  refine zV_iconst (v := 1) dX12_readsBowl_218 rfl ?_
  refine zV_dup2 dX12_readsBowl_219 rfl rfl ?_
  obtain ⟨hg, h⟩ := zs_gd h
  refine zV_iald (zq_211 hZ) hg dX12_readsBowl_220 (fun m49 => ?_)
  refine zV_iconst (v := 1) dX12_readsBowl_221 rfl ?_
  refine zV_iadd dX12_readsBowl_222 ?_
  refine zV_w ?_
  obtain ⟨hg, h⟩ := zs_gd h
  refine zV_iast (zq_211 hZ) (by decide) hg (z32_w _) dX12_readsBowl_223 ?_
  refine zV_aload_n 0 dX12_readsBowl_224 rfl rfl ?_
  refine zV_cVIm (y' := zmX12_ends) (n' := 2) (As := []) zc_X12_309 (zq_200 hZ) rfl dX12_readsBowl_225 (Nat.le_trans (by decide) hn) rfl (Nat.le_of_ble_eq_true rfl) (Nat.le_of_ble_eq_true rfl) rfl h (fun Q' h' => fX12_ends_ok hZ (Nat.le_refl _)  h') (fun r50 M53 c51 b52 h => ?_)
  exact zV_iretb dX12_readsBowl_228 rfl (b52 rfl) h
noncomputable def fX12_readsBowl_j200 (x1 s0 s1 : Int) (M : zMem) : Option (Int × zMem) :=
  (zgd ((0 : Int) ≤ s1 ∧ s1 < 72) (zgd ((0 : Int) ≤ x1 ∧ x1 < 72) (if ((zup M 218 s1 s0) 218 x1) ≤ 0 then fX12_readsBowl_j214  (zup M 218 s1 s0) else (zbd (fX12_nextToken (zup M 218 s1 s0)) fun M57 => fX12_readsBowl_j214  M57))))
set_option maxRecDepth 100000 in
set_option maxHeartbeats 4000000 in
theorem fX12_readsBowl_j200_ok {Z : zZ} (hZ : zB Z) {nn : Nat} (hn : 3 ≤ nn)  {x1 s0 s1 : Int} (hx1 : z32 x1) (hs0 : z32 s0) (hs1 : z32 s1) {M : zMem} {Q : Option zAV → zMem → zZ → Prop} (h : zSat (fX12_readsBowl_j200 x1 s0 s1 M) (fun r => Q (some (zI r.1)) r.2 Z))  : zV zmX12_readsBowl nn 0 0 Z 200 [(0, zR 200), (1, zI x1)] [zI s0, zI s1, zR 218] M Q := by
  unfold fX12_readsBowl_j200 at h
  obtain ⟨hg, h⟩ := zs_gd h
  refine zV_iast (zq_218 hZ) (by decide) hg hs0 dX12_readsBowl_200 ?_
  refine zV_aload_n 0 dX12_readsBowl_201 rfl rfl ?_
  refine zV_getR (j := 218) (zq_200 hZ) zf_X12_17 zkf_X12_35 rfl dX12_readsBowl_202 ?_
  refine zV_iload_n 1 dX12_readsBowl_205 rfl rfl ?_
  obtain ⟨hg, h⟩ := zs_gd h
  refine zV_iald (zq_218 hZ) hg dX12_readsBowl_206 (fun m48 => ?_)
  refine zV_if_le 214 dX12_readsBowl_207 (by decide) m48 (fun hc_ => ?_) (fun hc_ => ?_)
  · replace h := zs_t h hc_
    refine zV_ls [0] rfl ?_
    exact fX12_readsBowl_j214_ok hZ hn  h
  · replace h := zs_f h hc_
    refine zV_aload_n 0 dX12_readsBowl_210 rfl rfl ?_
    refine zV_cVV (y' := zmX12_nextToken) (n' := 1) (As := []) zc_X12_229 (zq_200 hZ) rfl dX12_readsBowl_211 (Nat.le_trans (by decide) hn) rfl (Nat.le_of_ble_eq_true rfl) (Nat.le_of_ble_eq_true rfl) rfl h (fun Q' h' => fX12_nextToken_ok hZ (Nat.le_refl _)  h') (fun M57 h => ?_)
    refine zV_ls [0] rfl ?_
    exact fX12_readsBowl_j214_ok hZ hn  h
noncomputable def fX12_readsBowl (M : zMem) : Option (Int × zMem) :=
  (zgd ((0 : Int) ≤ (1 : Int) ∧ (1 : Int) < 6) (if (M 211 1) = 12 then (zbd2 (fX12_fails 5 M) fun r66 M69 => some (r66, M69)) else (zbd (fX12_nextToken M) fun M5 => (zbd (fX12_isKept M5) fun r6 => (if r6 = 0 then (zbd (fX12_bowlOf M5) fun r10 => (if r10 < 0 then (zgd ((0 : Int) ≤ (1 : Int) ∧ (1 : Int) < 6) (zgd ((0 : Int) ≤ (1 : Int) ∧ (1 : Int) < 6) (zgd ((0 : Int) ≤ (M5 211 1) ∧ (M5 211 1) < 12) (zbd (fX12_nextToken (zup M5 214 (M5 211 1) (M5 200 7))) fun M20 => (zbd2 (fX12_needs 404978 1 9999 M20) fun r21 M24 => (if r21 = 0 then some (0, M24) else (zgd ((0 : Int) ≤ (zw (12 + (M5 211 1))) ∧ (zw (12 + (M5 211 1))) < 72) (zbd2 (fX12_needs 381245 1 99 (zup M24 215 (zw (12 + (M5 211 1))) (M24 200 42))) fun r26 M29 => (if r26 = 0 then some (0, M29) else (zgd ((0 : Int) ≤ (zw (12 + (M5 211 1))) ∧ (zw (12 + (M5 211 1))) < 72) (zbd2 (fX12_needs 453774 1 20 (zup M29 216 (zw (12 + (M5 211 1))) (M29 200 42))) fun r31 M34 => (if r31 = 0 then some (0, M34) else (zgd ((0 : Int) ≤ (zw (12 + (M5 211 1))) ∧ (zw (12 + (M5 211 1))) < 72) (zbd (fX12_isWord 263328790 (zup M34 217 (zw (12 + (M5 211 1))) (M34 200 42))) fun r36 => (if r36 = 0 then (zbd (fX12_isWord 144686 (zup M34 217 (zw (12 + (M5 211 1))) (M34 200 42))) fun r40 => (if r40 = 0 then (zbd (fX12_isWord 10413527 (zup M34 217 (zw (12 + (M5 211 1))) (M34 200 42))) fun r44 => (if r44 = 0 then fX12_readsBowl_j200 (zw (12 + (M5 211 1))) 0 (zw (12 + (M5 211 1))) (zup M34 217 (zw (12 + (M5 211 1))) (M34 200 42)) else fX12_readsBowl_j200 (zw (12 + (M5 211 1))) 3 (zw (12 + (M5 211 1))) (zup M34 217 (zw (12 + (M5 211 1))) (M34 200 42)))) else fX12_readsBowl_j200 (zw (12 + (M5 211 1))) 2 (zw (12 + (M5 211 1))) (zup M34 217 (zw (12 + (M5 211 1))) (M34 200 42)))) else fX12_readsBowl_j200 (zw (12 + (M5 211 1))) 1 (zw (12 + (M5 211 1))) (zup M34 217 (zw (12 + (M5 211 1))) (M34 200 42))))))))))))))))) else (zbd2 (fX12_fails 3 M5) fun r58 M61 => some (r58, M61)))) else (zbd2 (fX12_fails 1 M5) fun r62 M65 => some (r62, M65)))))))
set_option maxRecDepth 100000 in
set_option maxHeartbeats 4000000 in
theorem fX12_readsBowl_ok {Z : zZ} (hZ : zB Z) {nn : Nat} (hn : 3 ≤ nn)   {M : zMem} {Q : Option zAV → zMem → zZ → Prop} (h : zSat (fX12_readsBowl M) (fun r => Q (some (zI r.1)) r.2 Z))  : zV zmX12_readsBowl nn 0 0 Z 0 [(0, zR 200)] [] M Q := by
  unfold fX12_readsBowl at h
  refine zV_aload_n 0 dX12_readsBowl_0 rfl rfl ?_
  refine zV_getR (j := 211) (zq_200 hZ) zf_X12_10 zkf_X12_13 rfl dX12_readsBowl_1 ?_
  refine zV_iconst (v := 1) dX12_readsBowl_4 rfl ?_
  obtain ⟨hg, h⟩ := zs_gd h
  refine zV_iald (zq_211 hZ) hg dX12_readsBowl_5 (fun m1 => ?_)
  refine zV_bipush (v := 12) dX12_readsBowl_6 rfl ?_
  refine zV_icmp_ne 17 dX12_readsBowl_8 (by decide) m1 zi_12 (fun hc_ => ?_) (fun hc_ => ?_)
  · replace h := zs_f h hc_
    refine zV_aload_n 0 dX12_readsBowl_17 rfl rfl ?_
    refine zV_cVV (y' := zmX12_nextToken) (n' := 1) (As := []) zc_X12_229 (zq_200 hZ) rfl dX12_readsBowl_18 (Nat.le_trans (by decide) hn) rfl (Nat.le_of_ble_eq_true rfl) (Nat.le_of_ble_eq_true rfl) rfl h (fun Q' h' => fX12_nextToken_ok hZ (Nat.le_refl _)  h') (fun M5 h => ?_)
    refine zV_aload_n 0 dX12_readsBowl_21 rfl rfl ?_
    refine zV_cVI (y' := zmX12_isKept) (n' := 0) (As := []) zc_X12_298 (zq_200 hZ) rfl dX12_readsBowl_22 (Nat.le_trans (by decide) hn) rfl (Nat.le_of_ble_eq_true rfl) (Nat.le_of_ble_eq_true rfl) rfl h (fun Q' h' => fX12_isKept_ok hZ (Nat.le_refl _)  h') (fun r6 c7 b8 h => ?_)
    refine zV_if_eq 34 dX12_readsBowl_25 (by decide) c7 (fun hc_ => ?_) (fun hc_ => ?_)
    · replace h := zs_t h hc_
      refine zV_aload_n 0 dX12_readsBowl_34 rfl rfl ?_
      refine zV_cVI (y' := zmX12_bowlOf) (n' := 0) (As := []) zc_X12_302 (zq_200 hZ) rfl dX12_readsBowl_35 (Nat.le_trans (by decide) hn) rfl (Nat.le_of_ble_eq_true rfl) (Nat.le_of_ble_eq_true rfl) rfl h (fun Q' h' => fX12_bowlOf_ok hZ (Nat.le_refl _)  h') (fun r10 c11 b12 h => ?_)
      refine zV_if_lt 47 dX12_readsBowl_38 (by decide) c11 (fun hc_ => ?_) (fun hc_ => ?_)
      · replace h := zs_t h hc_
        refine zV_bipush (v := 12) dX12_readsBowl_47 rfl ?_
        refine zV_aload_n 0 dX12_readsBowl_49 rfl rfl ?_
        refine zV_getR (j := 211) (zq_200 hZ) zf_X12_10 zkf_X12_13 rfl dX12_readsBowl_50 ?_
        refine zV_iconst (v := 1) dX12_readsBowl_53 rfl ?_
        obtain ⟨hg, h⟩ := zs_gd h
        refine zV_iald (zq_211 hZ) hg dX12_readsBowl_54 (fun m14 => ?_)
        refine zV_iadd dX12_readsBowl_55 ?_
        refine zV_w ?_
        refine zV_istore_n [(1, zI (zw (12 + (M5 211 1)))), (0, zR 200)] dX12_readsBowl_56 rfl (by decide) rfl ?_
        refine zV_aload_n 1 dX12_readsBowl_57 rfl rfl ?_
        refine zV_getR (j := 214) (zq_200 hZ) zf_X12_13 zkf_X12_22 rfl dX12_readsBowl_58 ?_
        refine zV_aload_n 1 dX12_readsBowl_61 rfl rfl ?_
        refine zV_getR (j := 211) (zq_200 hZ) zf_X12_10 zkf_X12_13 rfl dX12_readsBowl_62 ?_
        refine zV_iconst (v := 1) dX12_readsBowl_65 rfl ?_
        obtain ⟨hg, h⟩ := zs_gd h
        refine zV_iald (zq_211 hZ) hg dX12_readsBowl_66 (fun m15 => ?_)
        refine zV_aload_n 1 dX12_readsBowl_67 rfl rfl ?_
        refine zV_getL (zq_200 hZ) zf_X12_7 zkf_X12_175 rfl dX12_readsBowl_68 (fun m16 => ?_)
        obtain ⟨hg, h⟩ := zs_gd h
        refine zV_last (zq_214 hZ) (by decide) hg m16 dX12_readsBowl_71 ?_
        refine zV_aload_n 1 dX12_readsBowl_72 rfl rfl ?_
        refine zV_cVV (y' := zmX12_nextToken) (n' := 1) (As := []) zc_X12_229 (zq_200 hZ) rfl dX12_readsBowl_73 (Nat.le_trans (by decide) hn) rfl (Nat.le_of_ble_eq_true rfl) (Nat.le_of_ble_eq_true rfl) rfl h (fun Q' h' => fX12_nextToken_ok hZ (Nat.le_refl _)  h') (fun M20 h => ?_)
        refine zV_aload_n 1 dX12_readsBowl_76 rfl rfl ?_
        refine zV_ldc2 (v := 404978) zkl_X12_247 rfl dX12_readsBowl_77 ?_
        refine zV_iconst (v := 1) dX12_readsBowl_80 rfl ?_
        refine zV_sipush (v := 9999) dX12_readsBowl_81 rfl ?_
        refine zV_cVIm (y' := zmX12_needs) (n' := 2) (As := [zL 404978, zI 1, zI 9999]) zc_X12_305 (zq_200 hZ) rfl dX12_readsBowl_84 (Nat.le_trans (by decide) hn) rfl (Nat.le_of_ble_eq_true rfl) (Nat.le_of_ble_eq_true rfl) rfl h (fun Q' h' => fX12_needs_ok hZ (Nat.le_refl _) zj_404978 zi_1 zi_9999 h') (fun r21 M24 c22 b23 h => ?_)
        refine zV_if_ne 92 dX12_readsBowl_87 (by decide) c22 (fun hc_ => ?_) (fun hc_ => ?_)
        · replace h := zs_f h hc_
          refine zV_aload_n 1 dX12_readsBowl_92 rfl rfl ?_
          refine zV_getR (j := 215) (zq_200 hZ) zf_X12_14 zkf_X12_26 rfl dX12_readsBowl_93 ?_
          refine zV_iload_n 0 dX12_readsBowl_96 rfl rfl ?_
          refine zV_aload_n 1 dX12_readsBowl_97 rfl rfl ?_
          refine zV_getI (zq_200 hZ) zf_X12_42 zkf_X12_295 rfl dX12_readsBowl_98 (fun m25 => ?_)
          obtain ⟨hg, h⟩ := zs_gd h
          refine zV_iast (zq_215 hZ) (by decide) hg m25 dX12_readsBowl_101 ?_
          refine zV_aload_n 1 dX12_readsBowl_102 rfl rfl ?_
          refine zV_ldc2 (v := 381245) zkl_X12_249 rfl dX12_readsBowl_103 ?_
          refine zV_iconst (v := 1) dX12_readsBowl_106 rfl ?_
          refine zV_bipush (v := 99) dX12_readsBowl_107 rfl ?_
          refine zV_cVIm (y' := zmX12_needs) (n' := 2) (As := [zL 381245, zI 1, zI 99]) zc_X12_305 (zq_200 hZ) rfl dX12_readsBowl_109 (Nat.le_trans (by decide) hn) rfl (Nat.le_of_ble_eq_true rfl) (Nat.le_of_ble_eq_true rfl) rfl h (fun Q' h' => fX12_needs_ok hZ (Nat.le_refl _) zj_381245 zi_1 zi_99 h') (fun r26 M29 c27 b28 h => ?_)
          refine zV_if_ne 117 dX12_readsBowl_112 (by decide) c27 (fun hc_ => ?_) (fun hc_ => ?_)
          · replace h := zs_f h hc_
            refine zV_aload_n 1 dX12_readsBowl_117 rfl rfl ?_
            refine zV_getR (j := 216) (zq_200 hZ) zf_X12_15 zkf_X12_29 rfl dX12_readsBowl_118 ?_
            refine zV_iload_n 0 dX12_readsBowl_121 rfl rfl ?_
            refine zV_aload_n 1 dX12_readsBowl_122 rfl rfl ?_
            refine zV_getI (zq_200 hZ) zf_X12_42 zkf_X12_295 rfl dX12_readsBowl_123 (fun m30 => ?_)
            obtain ⟨hg, h⟩ := zs_gd h
            refine zV_iast (zq_216 hZ) (by decide) hg m30 dX12_readsBowl_126 ?_
            refine zV_aload_n 1 dX12_readsBowl_127 rfl rfl ?_
            refine zV_ldc2 (v := 453774) zkl_X12_206 rfl dX12_readsBowl_128 ?_
            refine zV_iconst (v := 1) dX12_readsBowl_131 rfl ?_
            refine zV_bipush (v := 20) dX12_readsBowl_132 rfl ?_
            refine zV_cVIm (y' := zmX12_needs) (n' := 2) (As := [zL 453774, zI 1, zI 20]) zc_X12_305 (zq_200 hZ) rfl dX12_readsBowl_134 (Nat.le_trans (by decide) hn) rfl (Nat.le_of_ble_eq_true rfl) (Nat.le_of_ble_eq_true rfl) rfl h (fun Q' h' => fX12_needs_ok hZ (Nat.le_refl _) zj_453774 zi_1 zi_20 h') (fun r31 M34 c32 b33 h => ?_)
            refine zV_if_ne 142 dX12_readsBowl_137 (by decide) c32 (fun hc_ => ?_) (fun hc_ => ?_)
            · replace h := zs_f h hc_
              refine zV_aload_n 1 dX12_readsBowl_142 rfl rfl ?_
              refine zV_getR (j := 217) (zq_200 hZ) zf_X12_16 zkf_X12_32 rfl dX12_readsBowl_143 ?_
              refine zV_iload_n 0 dX12_readsBowl_146 rfl rfl ?_
              refine zV_aload_n 1 dX12_readsBowl_147 rfl rfl ?_
              refine zV_getI (zq_200 hZ) zf_X12_42 zkf_X12_295 rfl dX12_readsBowl_148 (fun m35 => ?_)
              obtain ⟨hg, h⟩ := zs_gd h
              refine zV_iast (zq_217 hZ) (by decide) hg m35 dX12_readsBowl_151 ?_
              refine zV_aload_n 1 dX12_readsBowl_152 rfl rfl ?_
              refine zV_getR (j := 218) (zq_200 hZ) zf_X12_17 zkf_X12_35 rfl dX12_readsBowl_153 ?_
              refine zV_iload_n 0 dX12_readsBowl_156 rfl rfl ?_
              refine zV_aload_n 1 dX12_readsBowl_157 rfl rfl ?_
              refine zV_ldc2 (v := 263328790) zkl_X12_251 rfl dX12_readsBowl_158 ?_
              refine zV_cVI (y' := zmX12_isWord) (n' := 0) (As := [zL 263328790]) zc_X12_214 (zq_200 hZ) rfl dX12_readsBowl_161 (Nat.le_trans (by decide) hn) rfl (Nat.le_of_ble_eq_true rfl) (Nat.le_of_ble_eq_true rfl) rfl h (fun Q' h' => fX12_isWord_ok hZ (Nat.le_refl _) zj_263328790 h') (fun r36 c37 b38 h => ?_)
              refine zV_if_eq 171 dX12_readsBowl_164 (by decide) c37 (fun hc_ => ?_) (fun hc_ => ?_)
              · replace h := zs_t h hc_
                refine zV_aload_n 1 dX12_readsBowl_171 rfl rfl ?_
                refine zV_ldc2 (v := 144686) zkl_X12_253 rfl dX12_readsBowl_172 ?_
                refine zV_cVI (y' := zmX12_isWord) (n' := 0) (As := [zL 144686]) zc_X12_214 (zq_200 hZ) rfl dX12_readsBowl_175 (Nat.le_trans (by decide) hn) rfl (Nat.le_of_ble_eq_true rfl) (Nat.le_of_ble_eq_true rfl) rfl h (fun Q' h' => fX12_isWord_ok hZ (Nat.le_refl _) zj_144686 h') (fun r40 c41 b42 h => ?_)
                refine zV_if_eq 185 dX12_readsBowl_178 (by decide) c41 (fun hc_ => ?_) (fun hc_ => ?_)
                · replace h := zs_t h hc_
                  refine zV_aload_n 1 dX12_readsBowl_185 rfl rfl ?_
                  refine zV_ldc2 (v := 10413527) zkl_X12_255 rfl dX12_readsBowl_186 ?_
                  refine zV_cVI (y' := zmX12_isWord) (n' := 0) (As := [zL 10413527]) zc_X12_214 (zq_200 hZ) rfl dX12_readsBowl_189 (Nat.le_trans (by decide) hn) rfl (Nat.le_of_ble_eq_true rfl) (Nat.le_of_ble_eq_true rfl) rfl h (fun Q' h' => fX12_isWord_ok hZ (Nat.le_refl _) zj_10413527 h') (fun r44 c45 b46 h => ?_)
                  refine zV_if_eq 199 dX12_readsBowl_192 (by decide) c45 (fun hc_ => ?_) (fun hc_ => ?_)
                  · replace h := zs_t h hc_
                    refine zV_iconst (v := 0) dX12_readsBowl_199 rfl ?_
                    refine zV_ls [1, 0] rfl ?_
                    exact fX12_readsBowl_j200_ok hZ hn (z32_w _) zi_0 (z32_w _) h
                  · replace h := zs_f h hc_
                    refine zV_iconst (v := 3) dX12_readsBowl_195 rfl ?_
                    refine zV_goto 200 dX12_readsBowl_196 (by decide) ?_
                    refine zV_ls [1, 0] rfl ?_
                    exact fX12_readsBowl_j200_ok hZ hn (z32_w _) zi_3 (z32_w _) h
                · replace h := zs_f h hc_
                  refine zV_iconst (v := 2) dX12_readsBowl_181 rfl ?_
                  refine zV_goto 200 dX12_readsBowl_182 (by decide) ?_
                  refine zV_ls [1, 0] rfl ?_
                  exact fX12_readsBowl_j200_ok hZ hn (z32_w _) zi_2 (z32_w _) h
              · replace h := zs_f h hc_
                refine zV_iconst (v := 1) dX12_readsBowl_167 rfl ?_
                refine zV_goto 200 dX12_readsBowl_168 (by decide) ?_
                refine zV_ls [1, 0] rfl ?_
                exact fX12_readsBowl_j200_ok hZ hn (z32_w _) zi_1 (z32_w _) h
            · replace h := zs_t h hc_
              refine zV_iconst (v := 0) dX12_readsBowl_140 rfl ?_
              exact zV_iretb dX12_readsBowl_141 rfl (Or.inl rfl) h
          · replace h := zs_t h hc_
            refine zV_iconst (v := 0) dX12_readsBowl_115 rfl ?_
            exact zV_iretb dX12_readsBowl_116 rfl (Or.inl rfl) h
        · replace h := zs_t h hc_
          refine zV_iconst (v := 0) dX12_readsBowl_90 rfl ?_
          exact zV_iretb dX12_readsBowl_91 rfl (Or.inl rfl) h
      · replace h := zs_f h hc_
        refine zV_aload_n 0 dX12_readsBowl_41 rfl rfl ?_
        refine zV_iconst (v := 3) dX12_readsBowl_42 rfl ?_
        refine zV_cVIm (y' := zmX12_fails) (n' := 0) (As := [zI 3]) zc_X12_222 (zq_200 hZ) rfl dX12_readsBowl_43 (Nat.le_trans (by decide) hn) rfl (Nat.le_of_ble_eq_true rfl) (Nat.le_of_ble_eq_true rfl) rfl h (fun Q' h' => fX12_fails_ok hZ (Nat.le_refl _) zi_3 h') (fun r58 M61 c59 b60 h => ?_)
        exact zV_iretb dX12_readsBowl_46 rfl (b60 rfl) h
    · replace h := zs_f h hc_
      refine zV_aload_n 0 dX12_readsBowl_28 rfl rfl ?_
      refine zV_iconst (v := 1) dX12_readsBowl_29 rfl ?_
      refine zV_cVIm (y' := zmX12_fails) (n' := 0) (As := [zI 1]) zc_X12_222 (zq_200 hZ) rfl dX12_readsBowl_30 (Nat.le_trans (by decide) hn) rfl (Nat.le_of_ble_eq_true rfl) (Nat.le_of_ble_eq_true rfl) rfl h (fun Q' h' => fX12_fails_ok hZ (Nat.le_refl _) zi_1 h') (fun r62 M65 c63 b64 h => ?_)
      exact zV_iretb dX12_readsBowl_33 rfl (b64 rfl) h
  · replace h := zs_t h hc_
    refine zV_aload_n 0 dX12_readsBowl_11 rfl rfl ?_
    refine zV_iconst (v := 5) dX12_readsBowl_12 rfl ?_
    refine zV_cVIm (y' := zmX12_fails) (n' := 0) (As := [zI 5]) zc_X12_222 (zq_200 hZ) rfl dX12_readsBowl_13 (Nat.le_trans (by decide) hn) rfl (Nat.le_of_ble_eq_true rfl) (Nat.le_of_ble_eq_true rfl) rfl h (fun Q' h' => fX12_fails_ok hZ (Nat.le_refl _) zi_5 h') (fun r66 M69 c67 b68 h => ?_)
    exact zV_iretb dX12_readsBowl_16 rfl (b68 rfl) h
noncomputable def fX12_readsPair (M : zMem) : Option (Int × zMem) :=
  (zgd ((0 : Int) ≤ (1 : Int) ∧ (1 : Int) < 6) (if (M 212 1) = 8 then (zbd2 (fX12_fails 5 M) fun r83 M86 => some (r83, M86)) else (zgd ((0 : Int) ≤ (1 : Int) ∧ (1 : Int) < 6) (zbd (fX12_nextToken M) fun M6 => (zbd (fX12_isKept M6) fun r7 => (if r7 = 0 then (zbd (fX12_bowlOf M6) fun r11 => (zgd ((0 : Int) ≤ (zw (8 + (M 212 1))) ∧ (zw (8 + (M 212 1))) < 48) (zgd ((0 : Int) ≤ (zw (8 + (M 212 1))) ∧ (zw (8 + (M 212 1))) < 48) (if 0 ≤ ((zup M6 220 (zw (8 + (M 212 1))) r11) 220 (zw (8 + (M 212 1)))) then (zbd (fX12_nextToken (zup M6 220 (zw (8 + (M 212 1))) r11)) fun M19 => (zbd2 (fX12_needsNumber 1 20 M19) fun r20 M23 => (if r20 = 0 then some (0, M23) else (zgd ((0 : Int) ≤ (zw (8 + (M 212 1))) ∧ (zw (8 + (M 212 1))) < 48) (zbd (fX12_nextToken (zup M23 221 (zw (8 + (M 212 1))) (M23 200 8))) fun M28 => (zbd (fX12_isKept M28) fun r29 => (if r29 = 0 then (zbd (fX12_bowlOf M28) fun r33 => (zgd ((0 : Int) ≤ (zw (8 + (M 212 1))) ∧ (zw (8 + (M 212 1))) < 48) (zgd ((0 : Int) ≤ (zw (8 + (M 212 1))) ∧ (zw (8 + (M 212 1))) < 48) (if 0 ≤ ((zup M28 222 (zw (8 + (M 212 1))) r33) 222 (zw (8 + (M 212 1)))) then (zgd ((0 : Int) ≤ (zw (8 + (M 212 1))) ∧ (zw (8 + (M 212 1))) < 48) (zgd ((0 : Int) ≤ (zw (8 + (M 212 1))) ∧ (zw (8 + (M 212 1))) < 48) (if ((zup M28 222 (zw (8 + (M 212 1))) r33) 222 (zw (8 + (M 212 1)))) = ((zup M28 222 (zw (8 + (M 212 1))) r33) 220 (zw (8 + (M 212 1)))) then (zbd2 (fX12_fails 3 (zup M28 222 (zw (8 + (M 212 1))) r33)) fun r63 M66 => some (r63, M66)) else (zbd (fX12_nextToken (zup M28 222 (zw (8 + (M 212 1))) r33)) fun M43 => (zbd2 (fX12_needsNumber 1 20 M43) fun r44 M47 => (if r44 = 0 then some (0, M47) else (zgd ((0 : Int) ≤ (zw (8 + (M 212 1))) ∧ (zw (8 + (M 212 1))) < 48) (zbd (fX12_nextToken (zup M47 223 (zw (8 + (M 212 1))) (M47 200 8))) fun M52 => (zbd2 (fX12_needs 335207579 0 9999 M52) fun r53 M56 => (if r53 = 0 then some (0, M56) else (zgd ((0 : Int) ≤ (zw (8 + (M 212 1))) ∧ (zw (8 + (M 212 1))) < 48) (zgd ((0 : Int) ≤ (1 : Int) ∧ (1 : Int) < 6) (zgd ((0 : Int) ≤ (1 : Int) ∧ (1 : Int) < 6) (zbd2 (fX12_ends (zup (zup M56 224 (zw (8 + (M 212 1))) (M56 200 42)) 212 1 (zw (((zup M56 224 (zw (8 + (M 212 1))) (M56 200 42)) 212 1) + 1)))) fun r59 M62 => some (r59, M62))))))))))))))) else (zbd2 (fX12_fails 2 (zup M28 222 (zw (8 + (M 212 1))) r33)) fun r67 M70 => some (r67, M70)))))) else (zbd2 (fX12_fails 1 M28) fun r71 M74 => some (r71, M74))))))))) else (zbd2 (fX12_fails 2 (zup M6 220 (zw (8 + (M 212 1))) r11)) fun r75 M78 => some (r75, M78)))))) else (zbd2 (fX12_fails 1 M6) fun r79 M82 => some (r79, M82))))))))
set_option maxRecDepth 100000 in
set_option maxHeartbeats 4000000 in
theorem fX12_readsPair_ok {Z : zZ} (hZ : zB Z) {nn : Nat} (hn : 3 ≤ nn)   {M : zMem} {Q : Option zAV → zMem → zZ → Prop} (h : zSat (fX12_readsPair M) (fun r => Q (some (zI r.1)) r.2 Z))  : zV zmX12_readsPair nn 0 0 Z 0 [(0, zR 200)] [] M Q := by
  unfold fX12_readsPair at h
  refine zV_aload_n 0 dX12_readsPair_0 rfl rfl ?_
  refine zV_getR (j := 212) (zq_200 hZ) zf_X12_11 zkf_X12_16 rfl dX12_readsPair_1 ?_
  refine zV_iconst (v := 1) dX12_readsPair_4 rfl ?_
  obtain ⟨hg, h⟩ := zs_gd h
  refine zV_iald (zq_212 hZ) hg dX12_readsPair_5 (fun m1 => ?_)
  refine zV_bipush (v := 8) dX12_readsPair_6 rfl ?_
  refine zV_icmp_ne 17 dX12_readsPair_8 (by decide) m1 zi_8 (fun hc_ => ?_) (fun hc_ => ?_)
  · replace h := zs_f h hc_
    refine zV_bipush (v := 8) dX12_readsPair_17 rfl ?_
    refine zV_aload_n 0 dX12_readsPair_19 rfl rfl ?_
    refine zV_getR (j := 212) (zq_200 hZ) zf_X12_11 zkf_X12_16 rfl dX12_readsPair_20 ?_
    refine zV_iconst (v := 1) dX12_readsPair_23 rfl ?_
    obtain ⟨hg, h⟩ := zs_gd h
    refine zV_iald (zq_212 hZ) hg dX12_readsPair_24 (fun m2 => ?_)
    refine zV_iadd dX12_readsPair_25 ?_
    refine zV_w ?_
    refine zV_istore_n [(1, zI (zw (8 + (M 212 1)))), (0, zR 200)] dX12_readsPair_26 rfl (by decide) rfl ?_
    refine zV_aload_n 1 dX12_readsPair_27 rfl rfl ?_
    refine zV_cVV (y' := zmX12_nextToken) (n' := 1) (As := []) zc_X12_229 (zq_200 hZ) rfl dX12_readsPair_28 (Nat.le_trans (by decide) hn) rfl (Nat.le_of_ble_eq_true rfl) (Nat.le_of_ble_eq_true rfl) rfl h (fun Q' h' => fX12_nextToken_ok hZ (Nat.le_refl _)  h') (fun M6 h => ?_)
    refine zV_aload_n 1 dX12_readsPair_31 rfl rfl ?_
    refine zV_cVI (y' := zmX12_isKept) (n' := 0) (As := []) zc_X12_298 (zq_200 hZ) rfl dX12_readsPair_32 (Nat.le_trans (by decide) hn) rfl (Nat.le_of_ble_eq_true rfl) (Nat.le_of_ble_eq_true rfl) rfl h (fun Q' h' => fX12_isKept_ok hZ (Nat.le_refl _)  h') (fun r7 c8 b9 h => ?_)
    refine zV_if_eq 44 dX12_readsPair_35 (by decide) c8 (fun hc_ => ?_) (fun hc_ => ?_)
    · replace h := zs_t h hc_
      refine zV_aload_n 1 dX12_readsPair_44 rfl rfl ?_
      refine zV_getR (j := 220) (zq_200 hZ) zf_X12_19 zkf_X12_41 rfl dX12_readsPair_45 ?_
      refine zV_iload_n 0 dX12_readsPair_48 rfl rfl ?_
      refine zV_aload_n 1 dX12_readsPair_49 rfl rfl ?_
      refine zV_cVI (y' := zmX12_bowlOf) (n' := 0) (As := []) zc_X12_302 (zq_200 hZ) rfl dX12_readsPair_50 (Nat.le_trans (by decide) hn) rfl (Nat.le_of_ble_eq_true rfl) (Nat.le_of_ble_eq_true rfl) rfl h (fun Q' h' => fX12_bowlOf_ok hZ (Nat.le_refl _)  h') (fun r11 c12 b13 h => ?_)
      obtain ⟨hg, h⟩ := zs_gd h
      refine zV_iast (zq_220 hZ) (by decide) hg c12 dX12_readsPair_53 ?_
      refine zV_aload_n 1 dX12_readsPair_54 rfl rfl ?_
      refine zV_getR (j := 220) (zq_200 hZ) zf_X12_19 zkf_X12_41 rfl dX12_readsPair_55 ?_
      refine zV_iload_n 0 dX12_readsPair_58 rfl rfl ?_
      obtain ⟨hg, h⟩ := zs_gd h
      refine zV_iald (zq_220 hZ) hg dX12_readsPair_59 (fun m15 => ?_)
      refine zV_if_ge 69 dX12_readsPair_60 (by decide) m15 (fun hc_ => ?_) (fun hc_ => ?_)
      · replace h := zs_t h hc_
        refine zV_aload_n 1 dX12_readsPair_69 rfl rfl ?_
        refine zV_cVV (y' := zmX12_nextToken) (n' := 1) (As := []) zc_X12_229 (zq_200 hZ) rfl dX12_readsPair_70 (Nat.le_trans (by decide) hn) rfl (Nat.le_of_ble_eq_true rfl) (Nat.le_of_ble_eq_true rfl) rfl h (fun Q' h' => fX12_nextToken_ok hZ (Nat.le_refl _)  h') (fun M19 h => ?_)
        refine zV_aload_n 1 dX12_readsPair_73 rfl rfl ?_
        refine zV_iconst (v := 1) dX12_readsPair_74 rfl ?_
        refine zV_bipush (v := 20) dX12_readsPair_75 rfl ?_
        refine zV_cVIm (y' := zmX12_needsNumber) (n' := 1) (As := [zI 1, zI 20]) zc_X12_291 (zq_200 hZ) rfl dX12_readsPair_77 (Nat.le_trans (by decide) hn) rfl (Nat.le_of_ble_eq_true rfl) (Nat.le_of_ble_eq_true rfl) rfl h (fun Q' h' => fX12_needsNumber_ok hZ (Nat.le_refl _) zi_1 zi_20 h') (fun r20 M23 c21 b22 h => ?_)
        refine zV_if_ne 85 dX12_readsPair_80 (by decide) c21 (fun hc_ => ?_) (fun hc_ => ?_)
        · replace h := zs_f h hc_
          refine zV_aload_n 1 dX12_readsPair_85 rfl rfl ?_
          refine zV_getR (j := 221) (zq_200 hZ) zf_X12_20 zkf_X12_44 rfl dX12_readsPair_86 ?_
          refine zV_iload_n 0 dX12_readsPair_89 rfl rfl ?_
          refine zV_aload_n 1 dX12_readsPair_90 rfl rfl ?_
          refine zV_getI (zq_200 hZ) zf_X12_8 zkf_X12_179 rfl dX12_readsPair_91 (fun m24 => ?_)
          obtain ⟨hg, h⟩ := zs_gd h
          refine zV_iast (zq_221 hZ) (by decide) hg m24 dX12_readsPair_94 ?_
          refine zV_aload_n 1 dX12_readsPair_95 rfl rfl ?_
          refine zV_cVV (y' := zmX12_nextToken) (n' := 1) (As := []) zc_X12_229 (zq_200 hZ) rfl dX12_readsPair_96 (Nat.le_trans (by decide) hn) rfl (Nat.le_of_ble_eq_true rfl) (Nat.le_of_ble_eq_true rfl) rfl h (fun Q' h' => fX12_nextToken_ok hZ (Nat.le_refl _)  h') (fun M28 h => ?_)
          refine zV_aload_n 1 dX12_readsPair_99 rfl rfl ?_
          refine zV_cVI (y' := zmX12_isKept) (n' := 0) (As := []) zc_X12_298 (zq_200 hZ) rfl dX12_readsPair_100 (Nat.le_trans (by decide) hn) rfl (Nat.le_of_ble_eq_true rfl) (Nat.le_of_ble_eq_true rfl) rfl h (fun Q' h' => fX12_isKept_ok hZ (Nat.le_refl _)  h') (fun r29 c30 b31 h => ?_)
          refine zV_if_eq 112 dX12_readsPair_103 (by decide) c30 (fun hc_ => ?_) (fun hc_ => ?_)
          · replace h := zs_t h hc_
            refine zV_aload_n 1 dX12_readsPair_112 rfl rfl ?_
            refine zV_getR (j := 222) (zq_200 hZ) zf_X12_21 zkf_X12_47 rfl dX12_readsPair_113 ?_
            refine zV_iload_n 0 dX12_readsPair_116 rfl rfl ?_
            refine zV_aload_n 1 dX12_readsPair_117 rfl rfl ?_
            refine zV_cVI (y' := zmX12_bowlOf) (n' := 0) (As := []) zc_X12_302 (zq_200 hZ) rfl dX12_readsPair_118 (Nat.le_trans (by decide) hn) rfl (Nat.le_of_ble_eq_true rfl) (Nat.le_of_ble_eq_true rfl) rfl h (fun Q' h' => fX12_bowlOf_ok hZ (Nat.le_refl _)  h') (fun r33 c34 b35 h => ?_)
            obtain ⟨hg, h⟩ := zs_gd h
            refine zV_iast (zq_222 hZ) (by decide) hg c34 dX12_readsPair_121 ?_
            refine zV_aload_n 1 dX12_readsPair_122 rfl rfl ?_
            refine zV_getR (j := 222) (zq_200 hZ) zf_X12_21 zkf_X12_47 rfl dX12_readsPair_123 ?_
            refine zV_iload_n 0 dX12_readsPair_126 rfl rfl ?_
            obtain ⟨hg, h⟩ := zs_gd h
            refine zV_iald (zq_222 hZ) hg dX12_readsPair_127 (fun m37 => ?_)
            refine zV_if_ge 137 dX12_readsPair_128 (by decide) m37 (fun hc_ => ?_) (fun hc_ => ?_)
            · replace h := zs_t h hc_
              refine zV_aload_n 1 dX12_readsPair_137 rfl rfl ?_
              refine zV_getR (j := 222) (zq_200 hZ) zf_X12_21 zkf_X12_47 rfl dX12_readsPair_138 ?_
              refine zV_iload_n 0 dX12_readsPair_141 rfl rfl ?_
              obtain ⟨hg, h⟩ := zs_gd h
              refine zV_iald (zq_222 hZ) hg dX12_readsPair_142 (fun m38 => ?_)
              refine zV_aload_n 1 dX12_readsPair_143 rfl rfl ?_
              refine zV_getR (j := 220) (zq_200 hZ) zf_X12_19 zkf_X12_41 rfl dX12_readsPair_144 ?_
              refine zV_iload_n 0 dX12_readsPair_147 rfl rfl ?_
              obtain ⟨hg, h⟩ := zs_gd h
              refine zV_iald (zq_220 hZ) hg dX12_readsPair_148 (fun m39 => ?_)
              refine zV_icmp_ne 158 dX12_readsPair_149 (by decide) m38 m39 (fun hc_ => ?_) (fun hc_ => ?_)
              · replace h := zs_f h hc_
                refine zV_aload_n 1 dX12_readsPair_158 rfl rfl ?_
                refine zV_cVV (y' := zmX12_nextToken) (n' := 1) (As := []) zc_X12_229 (zq_200 hZ) rfl dX12_readsPair_159 (Nat.le_trans (by decide) hn) rfl (Nat.le_of_ble_eq_true rfl) (Nat.le_of_ble_eq_true rfl) rfl h (fun Q' h' => fX12_nextToken_ok hZ (Nat.le_refl _)  h') (fun M43 h => ?_)
                refine zV_aload_n 1 dX12_readsPair_162 rfl rfl ?_
                refine zV_iconst (v := 1) dX12_readsPair_163 rfl ?_
                refine zV_bipush (v := 20) dX12_readsPair_164 rfl ?_
                refine zV_cVIm (y' := zmX12_needsNumber) (n' := 1) (As := [zI 1, zI 20]) zc_X12_291 (zq_200 hZ) rfl dX12_readsPair_166 (Nat.le_trans (by decide) hn) rfl (Nat.le_of_ble_eq_true rfl) (Nat.le_of_ble_eq_true rfl) rfl h (fun Q' h' => fX12_needsNumber_ok hZ (Nat.le_refl _) zi_1 zi_20 h') (fun r44 M47 c45 b46 h => ?_)
                refine zV_if_ne 174 dX12_readsPair_169 (by decide) c45 (fun hc_ => ?_) (fun hc_ => ?_)
                · replace h := zs_f h hc_
                  refine zV_aload_n 1 dX12_readsPair_174 rfl rfl ?_
                  refine zV_getR (j := 223) (zq_200 hZ) zf_X12_22 zkf_X12_50 rfl dX12_readsPair_175 ?_
                  refine zV_iload_n 0 dX12_readsPair_178 rfl rfl ?_
                  refine zV_aload_n 1 dX12_readsPair_179 rfl rfl ?_
                  refine zV_getI (zq_200 hZ) zf_X12_8 zkf_X12_179 rfl dX12_readsPair_180 (fun m48 => ?_)
                  obtain ⟨hg, h⟩ := zs_gd h
                  refine zV_iast (zq_223 hZ) (by decide) hg m48 dX12_readsPair_183 ?_
                  refine zV_aload_n 1 dX12_readsPair_184 rfl rfl ?_
                  refine zV_cVV (y' := zmX12_nextToken) (n' := 1) (As := []) zc_X12_229 (zq_200 hZ) rfl dX12_readsPair_185 (Nat.le_trans (by decide) hn) rfl (Nat.le_of_ble_eq_true rfl) (Nat.le_of_ble_eq_true rfl) rfl h (fun Q' h' => fX12_nextToken_ok hZ (Nat.le_refl _)  h') (fun M52 h => ?_)
                  refine zV_aload_n 1 dX12_readsPair_188 rfl rfl ?_
                  refine zV_ldc2 (v := 335207579) zkl_X12_259 rfl dX12_readsPair_189 ?_
                  refine zV_iconst (v := 0) dX12_readsPair_192 rfl ?_
                  refine zV_sipush (v := 9999) dX12_readsPair_193 rfl ?_
                  refine zV_cVIm (y' := zmX12_needs) (n' := 2) (As := [zL 335207579, zI 0, zI 9999]) zc_X12_305 (zq_200 hZ) rfl dX12_readsPair_196 (Nat.le_trans (by decide) hn) rfl (Nat.le_of_ble_eq_true rfl) (Nat.le_of_ble_eq_true rfl) rfl h (fun Q' h' => fX12_needs_ok hZ (Nat.le_refl _) zj_335207579 zi_0 zi_9999 h') (fun r53 M56 c54 b55 h => ?_)
                  refine zV_if_ne 204 dX12_readsPair_199 (by decide) c54 (fun hc_ => ?_) (fun hc_ => ?_)
                  · replace h := zs_f h hc_
                    refine zV_aload_n 1 dX12_readsPair_204 rfl rfl ?_
                    refine zV_getR (j := 224) (zq_200 hZ) zf_X12_23 zkf_X12_53 rfl dX12_readsPair_205 ?_
                    refine zV_iload_n 0 dX12_readsPair_208 rfl rfl ?_
                    refine zV_aload_n 1 dX12_readsPair_209 rfl rfl ?_
                    refine zV_getI (zq_200 hZ) zf_X12_42 zkf_X12_295 rfl dX12_readsPair_210 (fun m57 => ?_)
                    obtain ⟨hg, h⟩ := zs_gd h
                    refine zV_iast (zq_224 hZ) (by decide) hg m57 dX12_readsPair_213 ?_
                    refine zV_aload_n 1 dX12_readsPair_214 rfl rfl ?_
                    refine zV_getR (j := 212) (zq_200 hZ) zf_X12_11 zkf_X12_16 rfl dX12_readsPair_215 ?_
                    refine zV_iconst (v := 1) dX12_readsPair_218 rfl ?_
                    refine zV_dup2 dX12_readsPair_219 rfl rfl ?_
                    obtain ⟨hg, h⟩ := zs_gd h
                    refine zV_iald (zq_212 hZ) hg dX12_readsPair_220 (fun m58 => ?_)
                    refine zV_iconst (v := 1) dX12_readsPair_221 rfl ?_
                    refine zV_iadd dX12_readsPair_222 ?_
                    refine zV_w ?_
                    obtain ⟨hg, h⟩ := zs_gd h
                    refine zV_iast (zq_212 hZ) (by decide) hg (z32_w _) dX12_readsPair_223 ?_
                    refine zV_aload_n 1 dX12_readsPair_224 rfl rfl ?_
                    refine zV_cVIm (y' := zmX12_ends) (n' := 2) (As := []) zc_X12_309 (zq_200 hZ) rfl dX12_readsPair_225 (Nat.le_trans (by decide) hn) rfl (Nat.le_of_ble_eq_true rfl) (Nat.le_of_ble_eq_true rfl) rfl h (fun Q' h' => fX12_ends_ok hZ (Nat.le_refl _)  h') (fun r59 M62 c60 b61 h => ?_)
                    exact zV_iretb dX12_readsPair_228 rfl (b61 rfl) h
                  · replace h := zs_t h hc_
                    refine zV_iconst (v := 0) dX12_readsPair_202 rfl ?_
                    exact zV_iretb dX12_readsPair_203 rfl (Or.inl rfl) h
                · replace h := zs_t h hc_
                  refine zV_iconst (v := 0) dX12_readsPair_172 rfl ?_
                  exact zV_iretb dX12_readsPair_173 rfl (Or.inl rfl) h
              · replace h := zs_t h hc_
                refine zV_aload_n 1 dX12_readsPair_152 rfl rfl ?_
                refine zV_iconst (v := 3) dX12_readsPair_153 rfl ?_
                refine zV_cVIm (y' := zmX12_fails) (n' := 0) (As := [zI 3]) zc_X12_222 (zq_200 hZ) rfl dX12_readsPair_154 (Nat.le_trans (by decide) hn) rfl (Nat.le_of_ble_eq_true rfl) (Nat.le_of_ble_eq_true rfl) rfl h (fun Q' h' => fX12_fails_ok hZ (Nat.le_refl _) zi_3 h') (fun r63 M66 c64 b65 h => ?_)
                exact zV_iretb dX12_readsPair_157 rfl (b65 rfl) h
            · replace h := zs_f h hc_
              refine zV_aload_n 1 dX12_readsPair_131 rfl rfl ?_
              refine zV_iconst (v := 2) dX12_readsPair_132 rfl ?_
              refine zV_cVIm (y' := zmX12_fails) (n' := 0) (As := [zI 2]) zc_X12_222 (zq_200 hZ) rfl dX12_readsPair_133 (Nat.le_trans (by decide) hn) rfl (Nat.le_of_ble_eq_true rfl) (Nat.le_of_ble_eq_true rfl) rfl h (fun Q' h' => fX12_fails_ok hZ (Nat.le_refl _) zi_2 h') (fun r67 M70 c68 b69 h => ?_)
              exact zV_iretb dX12_readsPair_136 rfl (b69 rfl) h
          · replace h := zs_f h hc_
            refine zV_aload_n 1 dX12_readsPair_106 rfl rfl ?_
            refine zV_iconst (v := 1) dX12_readsPair_107 rfl ?_
            refine zV_cVIm (y' := zmX12_fails) (n' := 0) (As := [zI 1]) zc_X12_222 (zq_200 hZ) rfl dX12_readsPair_108 (Nat.le_trans (by decide) hn) rfl (Nat.le_of_ble_eq_true rfl) (Nat.le_of_ble_eq_true rfl) rfl h (fun Q' h' => fX12_fails_ok hZ (Nat.le_refl _) zi_1 h') (fun r71 M74 c72 b73 h => ?_)
            exact zV_iretb dX12_readsPair_111 rfl (b73 rfl) h
        · replace h := zs_t h hc_
          refine zV_iconst (v := 0) dX12_readsPair_83 rfl ?_
          exact zV_iretb dX12_readsPair_84 rfl (Or.inl rfl) h
      · replace h := zs_f h hc_
        refine zV_aload_n 1 dX12_readsPair_63 rfl rfl ?_
        refine zV_iconst (v := 2) dX12_readsPair_64 rfl ?_
        refine zV_cVIm (y' := zmX12_fails) (n' := 0) (As := [zI 2]) zc_X12_222 (zq_200 hZ) rfl dX12_readsPair_65 (Nat.le_trans (by decide) hn) rfl (Nat.le_of_ble_eq_true rfl) (Nat.le_of_ble_eq_true rfl) rfl h (fun Q' h' => fX12_fails_ok hZ (Nat.le_refl _) zi_2 h') (fun r75 M78 c76 b77 h => ?_)
        exact zV_iretb dX12_readsPair_68 rfl (b77 rfl) h
    · replace h := zs_f h hc_
      refine zV_aload_n 1 dX12_readsPair_38 rfl rfl ?_
      refine zV_iconst (v := 1) dX12_readsPair_39 rfl ?_
      refine zV_cVIm (y' := zmX12_fails) (n' := 0) (As := [zI 1]) zc_X12_222 (zq_200 hZ) rfl dX12_readsPair_40 (Nat.le_trans (by decide) hn) rfl (Nat.le_of_ble_eq_true rfl) (Nat.le_of_ble_eq_true rfl) rfl h (fun Q' h' => fX12_fails_ok hZ (Nat.le_refl _) zi_1 h') (fun r79 M82 c80 b81 h => ?_)
      exact zV_iretb dX12_readsPair_43 rfl (b81 rfl) h
  · replace h := zs_t h hc_
    refine zV_aload_n 0 dX12_readsPair_11 rfl rfl ?_
    refine zV_iconst (v := 5) dX12_readsPair_12 rfl ?_
    refine zV_cVIm (y' := zmX12_fails) (n' := 0) (As := [zI 5]) zc_X12_222 (zq_200 hZ) rfl dX12_readsPair_13 (Nat.le_trans (by decide) hn) rfl (Nat.le_of_ble_eq_true rfl) (Nat.le_of_ble_eq_true rfl) rfl h (fun Q' h' => fX12_fails_ok hZ (Nat.le_refl _) zi_5 h') (fun r83 M86 c84 b85 h => ?_)
    exact zV_iretb dX12_readsPair_16 rfl (b85 rfl) h
noncomputable def fX12_readsSpeak (M : zMem) : Option (Int × zMem) :=
  (zgd ((0 : Int) ≤ (1 : Int) ∧ (1 : Int) < 6) (if (M 213 1) = 4 then (zbd2 (fX12_fails 5 M) fun r15 M18 => some (r15, M18)) else (zbd (fX12_nextToken M) fun M5 => (zgd ((0 : Int) ≤ (1 : Int) ∧ (1 : Int) < 6) (zgd ((0 : Int) ≤ (4 + (M5 213 1)) ∧ (4 + (M5 213 1)) < 24) (zbd2 (fX12_reads (zup M5 227 (4 + (M5 213 1)) (M5 200 29))) fun r8 M11 => (if r8 = 0 then some (0, M11) else (zgd ((0 : Int) ≤ (1 : Int) ∧ (1 : Int) < 6) (zgd ((0 : Int) ≤ (4 + (M11 213 1)) ∧ (4 + (M11 213 1)) < 24) (zgd ((0 : Int) ≤ (1 : Int) ∧ (1 : Int) < 6) (zgd ((0 : Int) ≤ (1 : Int) ∧ (1 : Int) < 6) (some (1, (zup (zup M11 228 (4 + (M11 213 1)) (M11 200 29)) 213 1 (zw (((zup M11 228 (4 + (M11 213 1)) (M11 200 29)) 213 1) + 1))))))))))))))))
set_option maxRecDepth 100000 in
set_option maxHeartbeats 4000000 in
theorem fX12_readsSpeak_ok {Z : zZ} (hZ : zB Z) {nn : Nat} (hn : 3 ≤ nn)   {M : zMem} {Q : Option zAV → zMem → zZ → Prop} (h : zSat (fX12_readsSpeak M) (fun r => Q (some (zI r.1)) r.2 Z))  : zV zmX12_readsSpeak nn 0 0 Z 0 [(0, zR 200)] [] M Q := by
  unfold fX12_readsSpeak at h
  refine zV_aload_n 0 dX12_readsSpeak_0 rfl rfl ?_
  refine zV_getR (j := 213) (zq_200 hZ) zf_X12_12 zkf_X12_19 rfl dX12_readsSpeak_1 ?_
  refine zV_iconst (v := 1) dX12_readsSpeak_4 rfl ?_
  obtain ⟨hg, h⟩ := zs_gd h
  refine zV_iald (zq_213 hZ) hg dX12_readsSpeak_5 (fun m1 => ?_)
  refine zV_iconst (v := 4) dX12_readsSpeak_6 rfl ?_
  refine zV_icmp_ne 16 dX12_readsSpeak_7 (by decide) m1 zi_4 (fun hc_ => ?_) (fun hc_ => ?_)
  · replace h := zs_f h hc_
    refine zV_aload_n 0 dX12_readsSpeak_16 rfl rfl ?_
    refine zV_cVV (y' := zmX12_nextToken) (n' := 1) (As := []) zc_X12_229 (zq_200 hZ) rfl dX12_readsSpeak_17 (Nat.le_trans (by decide) hn) rfl (Nat.le_of_ble_eq_true rfl) (Nat.le_of_ble_eq_true rfl) rfl h (fun Q' h' => fX12_nextToken_ok hZ (Nat.le_refl _)  h') (fun M5 h => ?_)
    refine zV_aload_n 0 dX12_readsSpeak_20 rfl rfl ?_
    refine zV_getR (j := 227) (zq_200 hZ) zf_X12_26 zkf_X12_63 rfl dX12_readsSpeak_21 ?_
    refine zV_iconst (v := 4) dX12_readsSpeak_24 rfl ?_
    refine zV_aload_n 0 dX12_readsSpeak_25 rfl rfl ?_
    refine zV_getR (j := 213) (zq_200 hZ) zf_X12_12 zkf_X12_19 rfl dX12_readsSpeak_26 ?_
    refine zV_iconst (v := 1) dX12_readsSpeak_29 rfl ?_
    obtain ⟨hg, h⟩ := zs_gd h
    refine zV_iald (zq_213 hZ) hg dX12_readsSpeak_30 (fun m6 => ?_)
    refine zV_iadd dX12_readsSpeak_31 ?_
    refine zV_aload_n 0 dX12_readsSpeak_32 rfl rfl ?_
    refine zV_getI (zq_200 hZ) zf_X12_29 zkf_X12_195 rfl dX12_readsSpeak_33 (fun m7 => ?_)
    obtain ⟨hg, h⟩ := zs_gd h
    refine zV_iast (zq_227 hZ) (by decide) hg m7 dX12_readsSpeak_36 ?_
    refine zV_aload_n 0 dX12_readsSpeak_37 rfl rfl ?_
    refine zV_cVIm (y' := zmX12_reads) (n' := 2) (As := []) zc_X12_312 (zq_200 hZ) rfl dX12_readsSpeak_38 (Nat.le_trans (by decide) hn) rfl (Nat.le_of_ble_eq_true rfl) (Nat.le_of_ble_eq_true rfl) rfl h (fun Q' h' => fX12_reads_ok hZ (Nat.le_refl _)  h') (fun r8 M11 c9 b10 h => ?_)
    refine zV_if_ne 46 dX12_readsSpeak_41 (by decide) c9 (fun hc_ => ?_) (fun hc_ => ?_)
    · replace h := zs_f h hc_
      refine zV_aload_n 0 dX12_readsSpeak_46 rfl rfl ?_
      refine zV_getR (j := 228) (zq_200 hZ) zf_X12_27 zkf_X12_66 rfl dX12_readsSpeak_47 ?_
      refine zV_iconst (v := 4) dX12_readsSpeak_50 rfl ?_
      refine zV_aload_n 0 dX12_readsSpeak_51 rfl rfl ?_
      refine zV_getR (j := 213) (zq_200 hZ) zf_X12_12 zkf_X12_19 rfl dX12_readsSpeak_52 ?_
      refine zV_iconst (v := 1) dX12_readsSpeak_55 rfl ?_
      obtain ⟨hg, h⟩ := zs_gd h
      refine zV_iald (zq_213 hZ) hg dX12_readsSpeak_56 (fun m12 => ?_)
      refine zV_iadd dX12_readsSpeak_57 ?_
      refine zV_aload_n 0 dX12_readsSpeak_58 rfl rfl ?_
      refine zV_getI (zq_200 hZ) zf_X12_29 zkf_X12_195 rfl dX12_readsSpeak_59 (fun m13 => ?_)
      obtain ⟨hg, h⟩ := zs_gd h
      refine zV_iast (zq_228 hZ) (by decide) hg m13 dX12_readsSpeak_62 ?_
      refine zV_aload_n 0 dX12_readsSpeak_63 rfl rfl ?_
      refine zV_getR (j := 213) (zq_200 hZ) zf_X12_12 zkf_X12_19 rfl dX12_readsSpeak_64 ?_
      refine zV_iconst (v := 1) dX12_readsSpeak_67 rfl ?_
      refine zV_dup2 dX12_readsSpeak_68 rfl rfl ?_
      obtain ⟨hg, h⟩ := zs_gd h
      refine zV_iald (zq_213 hZ) hg dX12_readsSpeak_69 (fun m14 => ?_)
      refine zV_iconst (v := 1) dX12_readsSpeak_70 rfl ?_
      refine zV_iadd dX12_readsSpeak_71 ?_
      refine zV_w ?_
      obtain ⟨hg, h⟩ := zs_gd h
      refine zV_iast (zq_213 hZ) (by decide) hg (z32_w _) dX12_readsSpeak_72 ?_
      refine zV_iconst (v := 1) dX12_readsSpeak_73 rfl ?_
      exact zV_iretb dX12_readsSpeak_74 rfl (Or.inr rfl) h
    · replace h := zs_t h hc_
      refine zV_iconst (v := 0) dX12_readsSpeak_44 rfl ?_
      exact zV_iretb dX12_readsSpeak_45 rfl (Or.inl rfl) h
  · replace h := zs_t h hc_
    refine zV_aload_n 0 dX12_readsSpeak_10 rfl rfl ?_
    refine zV_iconst (v := 5) dX12_readsSpeak_11 rfl ?_
    refine zV_cVIm (y' := zmX12_fails) (n' := 0) (As := [zI 5]) zc_X12_222 (zq_200 hZ) rfl dX12_readsSpeak_12 (Nat.le_trans (by decide) hn) rfl (Nat.le_of_ble_eq_true rfl) (Nat.le_of_ble_eq_true rfl) rfl h (fun Q' h' => fX12_fails_ok hZ (Nat.le_refl _) zi_5 h') (fun r15 M18 c16 b17 h => ?_)
    exact zV_iretb dX12_readsSpeak_15 rfl (b17 rfl) h
noncomputable def fX12_what (M : zMem) : Option (Int) :=
  (if (M 200 6) = 1 then (if (M 200 7) = 8009370239 then some 0 else (if (M 200 7) = 2461245202 then some 1 else (if (M 200 7) = 9665171 then some 2 else (if (M 200 7) = 385331 then some 3 else (if (M 200 7) = 3427 then some 4 else (if (M 200 7) = 3175 then some 5 else (if (M 200 7) = 453937 then some 6 else (if (M 200 7) = 70401 then some 7 else (if (M 200 7) = 1949438 then some 8 else (if (M 200 7) = 778957 then some 9 else (if (M 200 7) = 4081324 then some 10 else some (-1)))))))))))) else some (-1))
set_option maxRecDepth 100000 in
set_option maxHeartbeats 4000000 in
theorem fX12_what_ok {Z : zZ} (hZ : zB Z) {nn : Nat} (hn : 0 ≤ nn)   {M : zMem} {Q : Option zAV → zMem → zZ → Prop} (h : zSat (fX12_what M) (fun r => Q (some (zI r)) M Z))  : zV zmX12_what nn 0 0 Z 0 [(0, zR 200)] [] M Q := by
  unfold fX12_what at h
  refine zV_aload_n 0 dX12_what_0 rfl rfl ?_
  refine zV_getI (zq_200 hZ) zf_X12_6 zkf_X12_182 rfl dX12_what_1 (fun m1 => ?_)
  refine zV_iconst (v := 1) dX12_what_4 rfl ?_
  refine zV_icmp_eq 10 dX12_what_5 (by decide) m1 zi_1 (fun hc_ => ?_) (fun hc_ => ?_)
  · replace h := zs_t h hc_
    refine zV_aload_n 0 dX12_what_10 rfl rfl ?_
    refine zV_getL (zq_200 hZ) zf_X12_7 zkf_X12_175 rfl dX12_what_11 (fun m2 => ?_)
    refine zV_ldc2 (v := 8009370239) zkl_X12_265 rfl dX12_what_14 ?_
    refine zV_lcmp dX12_what_17 m2 zj_8009370239 ?_
    refine zV_lifne 23 dX12_what_18 (by decide) (fun hc_ => ?_) (fun hc_ => ?_)
    · replace h := zs_f h hc_
      refine zV_aload_n 0 dX12_what_23 rfl rfl ?_
      refine zV_getL (zq_200 hZ) zf_X12_7 zkf_X12_175 rfl dX12_what_24 (fun m3 => ?_)
      refine zV_ldc2 (v := 2461245202) zkl_X12_267 rfl dX12_what_27 ?_
      refine zV_lcmp dX12_what_30 m3 zj_2461245202 ?_
      refine zV_lifne 36 dX12_what_31 (by decide) (fun hc_ => ?_) (fun hc_ => ?_)
      · replace h := zs_f h hc_
        refine zV_aload_n 0 dX12_what_36 rfl rfl ?_
        refine zV_getL (zq_200 hZ) zf_X12_7 zkf_X12_175 rfl dX12_what_37 (fun m4 => ?_)
        refine zV_ldc2 (v := 9665171) zkl_X12_269 rfl dX12_what_40 ?_
        refine zV_lcmp dX12_what_43 m4 zj_9665171 ?_
        refine zV_lifne 49 dX12_what_44 (by decide) (fun hc_ => ?_) (fun hc_ => ?_)
        · replace h := zs_f h hc_
          refine zV_aload_n 0 dX12_what_49 rfl rfl ?_
          refine zV_getL (zq_200 hZ) zf_X12_7 zkf_X12_175 rfl dX12_what_50 (fun m5 => ?_)
          refine zV_ldc2 (v := 385331) zkl_X12_271 rfl dX12_what_53 ?_
          refine zV_lcmp dX12_what_56 m5 zj_385331 ?_
          refine zV_lifne 62 dX12_what_57 (by decide) (fun hc_ => ?_) (fun hc_ => ?_)
          · replace h := zs_f h hc_
            refine zV_aload_n 0 dX12_what_62 rfl rfl ?_
            refine zV_getL (zq_200 hZ) zf_X12_7 zkf_X12_175 rfl dX12_what_63 (fun m6 => ?_)
            refine zV_ldc2 (v := 3427) zkl_X12_273 rfl dX12_what_66 ?_
            refine zV_lcmp dX12_what_69 m6 zj_3427 ?_
            refine zV_lifne 75 dX12_what_70 (by decide) (fun hc_ => ?_) (fun hc_ => ?_)
            · replace h := zs_f h hc_
              refine zV_aload_n 0 dX12_what_75 rfl rfl ?_
              refine zV_getL (zq_200 hZ) zf_X12_7 zkf_X12_175 rfl dX12_what_76 (fun m7 => ?_)
              refine zV_ldc2 (v := 3175) zkl_X12_275 rfl dX12_what_79 ?_
              refine zV_lcmp dX12_what_82 m7 zj_3175 ?_
              refine zV_lifne 88 dX12_what_83 (by decide) (fun hc_ => ?_) (fun hc_ => ?_)
              · replace h := zs_f h hc_
                refine zV_aload_n 0 dX12_what_88 rfl rfl ?_
                refine zV_getL (zq_200 hZ) zf_X12_7 zkf_X12_175 rfl dX12_what_89 (fun m8 => ?_)
                refine zV_ldc2 (v := 453937) zkl_X12_277 rfl dX12_what_92 ?_
                refine zV_lcmp dX12_what_95 m8 zj_453937 ?_
                refine zV_lifne 102 dX12_what_96 (by decide) (fun hc_ => ?_) (fun hc_ => ?_)
                · replace h := zs_f h hc_
                  refine zV_aload_n 0 dX12_what_102 rfl rfl ?_
                  refine zV_getL (zq_200 hZ) zf_X12_7 zkf_X12_175 rfl dX12_what_103 (fun m9 => ?_)
                  refine zV_ldc2 (v := 70401) zkl_X12_279 rfl dX12_what_106 ?_
                  refine zV_lcmp dX12_what_109 m9 zj_70401 ?_
                  refine zV_lifne 116 dX12_what_110 (by decide) (fun hc_ => ?_) (fun hc_ => ?_)
                  · replace h := zs_f h hc_
                    refine zV_aload_n 0 dX12_what_116 rfl rfl ?_
                    refine zV_getL (zq_200 hZ) zf_X12_7 zkf_X12_175 rfl dX12_what_117 (fun m10 => ?_)
                    refine zV_ldc2 (v := 1949438) zkl_X12_281 rfl dX12_what_120 ?_
                    refine zV_lcmp dX12_what_123 m10 zj_1949438 ?_
                    refine zV_lifne 130 dX12_what_124 (by decide) (fun hc_ => ?_) (fun hc_ => ?_)
                    · replace h := zs_f h hc_
                      refine zV_aload_n 0 dX12_what_130 rfl rfl ?_
                      refine zV_getL (zq_200 hZ) zf_X12_7 zkf_X12_175 rfl dX12_what_131 (fun m11 => ?_)
                      refine zV_ldc2 (v := 778957) zkl_X12_283 rfl dX12_what_134 ?_
                      refine zV_lcmp dX12_what_137 m11 zj_778957 ?_
                      refine zV_lifne 144 dX12_what_138 (by decide) (fun hc_ => ?_) (fun hc_ => ?_)
                      · replace h := zs_f h hc_
                        refine zV_aload_n 0 dX12_what_144 rfl rfl ?_
                        refine zV_getL (zq_200 hZ) zf_X12_7 zkf_X12_175 rfl dX12_what_145 (fun m12 => ?_)
                        refine zV_ldc2 (v := 4081324) zkl_X12_285 rfl dX12_what_148 ?_
                        refine zV_lcmp dX12_what_151 m12 zj_4081324 ?_
                        refine zV_lifne 158 dX12_what_152 (by decide) (fun hc_ => ?_) (fun hc_ => ?_)
                        · replace h := zs_f h hc_
                          refine zV_iconst (v := (-1)) dX12_what_158 rfl ?_
                          exact zV_ireti dX12_what_159 rfl zi_n1 h
                        · replace h := zs_t h hc_
                          refine zV_bipush (v := 10) dX12_what_155 rfl ?_
                          exact zV_ireti dX12_what_157 rfl zi_10 h
                      · replace h := zs_t h hc_
                        refine zV_bipush (v := 9) dX12_what_141 rfl ?_
                        exact zV_ireti dX12_what_143 rfl zi_9 h
                    · replace h := zs_t h hc_
                      refine zV_bipush (v := 8) dX12_what_127 rfl ?_
                      exact zV_ireti dX12_what_129 rfl zi_8 h
                  · replace h := zs_t h hc_
                    refine zV_bipush (v := 7) dX12_what_113 rfl ?_
                    exact zV_ireti dX12_what_115 rfl zi_7 h
                · replace h := zs_t h hc_
                  refine zV_bipush (v := 6) dX12_what_99 rfl ?_
                  exact zV_ireti dX12_what_101 rfl zi_6 h
              · replace h := zs_t h hc_
                refine zV_iconst (v := 5) dX12_what_86 rfl ?_
                exact zV_ireti dX12_what_87 rfl zi_5 h
            · replace h := zs_t h hc_
              refine zV_iconst (v := 4) dX12_what_73 rfl ?_
              exact zV_ireti dX12_what_74 rfl zi_4 h
          · replace h := zs_t h hc_
            refine zV_iconst (v := 3) dX12_what_60 rfl ?_
            exact zV_ireti dX12_what_61 rfl zi_3 h
        · replace h := zs_t h hc_
          refine zV_iconst (v := 2) dX12_what_47 rfl ?_
          exact zV_ireti dX12_what_48 rfl zi_2 h
      · replace h := zs_t h hc_
        refine zV_iconst (v := 1) dX12_what_34 rfl ?_
        exact zV_ireti dX12_what_35 rfl zi_1 h
    · replace h := zs_t h hc_
      refine zV_iconst (v := 0) dX12_what_21 rfl ?_
      exact zV_ireti dX12_what_22 rfl zi_0 h
  · replace h := zs_f h hc_
    refine zV_iconst (v := (-1)) dX12_what_8 rfl ?_
    exact zV_ireti dX12_what_9 rfl zi_n1 h
noncomputable def fX12_least (x0 : Int) (M : zMem) : Option (Int) :=
  (if x0 = 3 then some 0 else (if x0 = 6 then some 0 else (if x0 = 7 then some 0 else (if x0 = 9 then some 0 else some 1))))
set_option maxRecDepth 100000 in
set_option maxHeartbeats 4000000 in
theorem fX12_least_ok {Z : zZ} (hZ : zB Z) {nn : Nat} (hn : 0 ≤ nn)  {x0 : Int} (hx0 : z32 x0) {M : zMem} {Q : Option zAV → zMem → zZ → Prop} (h : zSat (fX12_least x0 M) (fun r => Q (some (zI r)) M Z))  : zV zmX12_least nn 0 0 Z 0 [(0, zI x0)] [] M Q := by
  unfold fX12_least at h
  refine zV_iload_n 0 dX12_least_0 rfl rfl ?_
  refine zV_iconst (v := 3) dX12_least_1 rfl ?_
  refine zV_icmp_eq 23 dX12_least_2 (by decide) hx0 zi_3 (fun hc_ => ?_) (fun hc_ => ?_)
  · replace h := zs_t h hc_
    refine zV_iconst (v := 0) dX12_least_23 rfl ?_
    refine zV_goto 28 dX12_least_24 (by decide) ?_
    exact zV_ireti dX12_least_28 rfl zi_0 h
  · replace h := zs_f h hc_
    refine zV_iload_n 0 dX12_least_5 rfl rfl ?_
    refine zV_bipush (v := 6) dX12_least_6 rfl ?_
    refine zV_icmp_eq 23 dX12_least_8 (by decide) hx0 zi_6 (fun hc_ => ?_) (fun hc_ => ?_)
    · replace h := zs_t h hc_
      refine zV_iconst (v := 0) dX12_least_23 rfl ?_
      refine zV_goto 28 dX12_least_24 (by decide) ?_
      exact zV_ireti dX12_least_28 rfl zi_0 h
    · replace h := zs_f h hc_
      refine zV_iload_n 0 dX12_least_11 rfl rfl ?_
      refine zV_bipush (v := 7) dX12_least_12 rfl ?_
      refine zV_icmp_eq 23 dX12_least_14 (by decide) hx0 zi_7 (fun hc_ => ?_) (fun hc_ => ?_)
      · replace h := zs_t h hc_
        refine zV_iconst (v := 0) dX12_least_23 rfl ?_
        refine zV_goto 28 dX12_least_24 (by decide) ?_
        exact zV_ireti dX12_least_28 rfl zi_0 h
      · replace h := zs_f h hc_
        refine zV_iload_n 0 dX12_least_17 rfl rfl ?_
        refine zV_bipush (v := 9) dX12_least_18 rfl ?_
        refine zV_icmp_ne 27 dX12_least_20 (by decide) hx0 zi_9 (fun hc_ => ?_) (fun hc_ => ?_)
        · replace h := zs_f h hc_
          refine zV_iconst (v := 1) dX12_least_27 rfl ?_
          exact zV_ireti dX12_least_28 rfl zi_1 h
        · replace h := zs_t h hc_
          refine zV_iconst (v := 0) dX12_least_23 rfl ?_
          refine zV_goto 28 dX12_least_24 (by decide) ?_
          exact zV_ireti dX12_least_28 rfl zi_0 h
noncomputable def fX12_most (x0 : Int) (M : zMem) : Option (Int) :=
  (if x0 = 0 then some 99 else (if x0 = 1 then some 3 else (if x0 = 2 then some 12 else (if x0 = 3 then some 9 else (if x0 = 4 then some 99 else (if x0 = 5 then some 20 else (if x0 = 6 then some 99 else (if x0 = 7 then some 99 else (if x0 = 8 then some 999 else (if x0 = 9 then some 999 else some 99))))))))))
set_option maxRecDepth 100000 in
set_option maxHeartbeats 4000000 in
theorem fX12_most_ok {Z : zZ} (hZ : zB Z) {nn : Nat} (hn : 0 ≤ nn)  {x0 : Int} (hx0 : z32 x0) {M : zMem} {Q : Option zAV → zMem → zZ → Prop} (h : zSat (fX12_most x0 M) (fun r => Q (some (zI r)) M Z))  : zV zmX12_most nn 0 0 Z 0 [(0, zI x0)] [] M Q := by
  unfold fX12_most at h
  refine zV_iload_n 0 dX12_most_0 rfl rfl ?_
  refine zV_if_ne 9 dX12_most_1 (by decide) hx0 (fun hc_ => ?_) (fun hc_ => ?_)
  · replace h := zs_f h hc_
    refine zV_iload_n 0 dX12_most_9 rfl rfl ?_
    refine zV_iconst (v := 1) dX12_most_10 rfl ?_
    refine zV_icmp_ne 18 dX12_most_11 (by decide) hx0 zi_1 (fun hc_ => ?_) (fun hc_ => ?_)
    · replace h := zs_f h hc_
      refine zV_iload_n 0 dX12_most_18 rfl rfl ?_
      refine zV_iconst (v := 2) dX12_most_19 rfl ?_
      refine zV_icmp_ne 28 dX12_most_20 (by decide) hx0 zi_2 (fun hc_ => ?_) (fun hc_ => ?_)
      · replace h := zs_f h hc_
        refine zV_iload_n 0 dX12_most_28 rfl rfl ?_
        refine zV_iconst (v := 3) dX12_most_29 rfl ?_
        refine zV_icmp_ne 38 dX12_most_30 (by decide) hx0 zi_3 (fun hc_ => ?_) (fun hc_ => ?_)
        · replace h := zs_f h hc_
          refine zV_iload_n 0 dX12_most_38 rfl rfl ?_
          refine zV_iconst (v := 4) dX12_most_39 rfl ?_
          refine zV_icmp_ne 48 dX12_most_40 (by decide) hx0 zi_4 (fun hc_ => ?_) (fun hc_ => ?_)
          · replace h := zs_f h hc_
            refine zV_iload_n 0 dX12_most_48 rfl rfl ?_
            refine zV_iconst (v := 5) dX12_most_49 rfl ?_
            refine zV_icmp_ne 58 dX12_most_50 (by decide) hx0 zi_5 (fun hc_ => ?_) (fun hc_ => ?_)
            · replace h := zs_f h hc_
              refine zV_iload_n 0 dX12_most_58 rfl rfl ?_
              refine zV_bipush (v := 6) dX12_most_59 rfl ?_
              refine zV_icmp_ne 69 dX12_most_61 (by decide) hx0 zi_6 (fun hc_ => ?_) (fun hc_ => ?_)
              · replace h := zs_f h hc_
                refine zV_iload_n 0 dX12_most_69 rfl rfl ?_
                refine zV_bipush (v := 7) dX12_most_70 rfl ?_
                refine zV_icmp_ne 80 dX12_most_72 (by decide) hx0 zi_7 (fun hc_ => ?_) (fun hc_ => ?_)
                · replace h := zs_f h hc_
                  refine zV_iload_n 0 dX12_most_80 rfl rfl ?_
                  refine zV_bipush (v := 8) dX12_most_81 rfl ?_
                  refine zV_icmp_ne 92 dX12_most_83 (by decide) hx0 zi_8 (fun hc_ => ?_) (fun hc_ => ?_)
                  · replace h := zs_f h hc_
                    refine zV_iload_n 0 dX12_most_92 rfl rfl ?_
                    refine zV_bipush (v := 9) dX12_most_93 rfl ?_
                    refine zV_icmp_ne 104 dX12_most_95 (by decide) hx0 zi_9 (fun hc_ => ?_) (fun hc_ => ?_)
                    · replace h := zs_f h hc_
                      refine zV_bipush (v := 99) dX12_most_104 rfl ?_
                      exact zV_ireti dX12_most_106 rfl zi_99 h
                    · replace h := zs_t h hc_
                      refine zV_sipush (v := 999) dX12_most_98 rfl ?_
                      refine zV_goto 106 dX12_most_101 (by decide) ?_
                      exact zV_ireti dX12_most_106 rfl zi_999 h
                  · replace h := zs_t h hc_
                    refine zV_sipush (v := 999) dX12_most_86 rfl ?_
                    refine zV_goto 106 dX12_most_89 (by decide) ?_
                    exact zV_ireti dX12_most_106 rfl zi_999 h
                · replace h := zs_t h hc_
                  refine zV_bipush (v := 99) dX12_most_75 rfl ?_
                  refine zV_goto 106 dX12_most_77 (by decide) ?_
                  exact zV_ireti dX12_most_106 rfl zi_99 h
              · replace h := zs_t h hc_
                refine zV_bipush (v := 99) dX12_most_64 rfl ?_
                refine zV_goto 106 dX12_most_66 (by decide) ?_
                exact zV_ireti dX12_most_106 rfl zi_99 h
            · replace h := zs_t h hc_
              refine zV_bipush (v := 20) dX12_most_53 rfl ?_
              refine zV_goto 106 dX12_most_55 (by decide) ?_
              exact zV_ireti dX12_most_106 rfl zi_20 h
          · replace h := zs_t h hc_
            refine zV_bipush (v := 99) dX12_most_43 rfl ?_
            refine zV_goto 106 dX12_most_45 (by decide) ?_
            exact zV_ireti dX12_most_106 rfl zi_99 h
        · replace h := zs_t h hc_
          refine zV_bipush (v := 9) dX12_most_33 rfl ?_
          refine zV_goto 106 dX12_most_35 (by decide) ?_
          exact zV_ireti dX12_most_106 rfl zi_9 h
      · replace h := zs_t h hc_
        refine zV_bipush (v := 12) dX12_most_23 rfl ?_
        refine zV_goto 106 dX12_most_25 (by decide) ?_
        exact zV_ireti dX12_most_106 rfl zi_12 h
    · replace h := zs_t h hc_
      refine zV_iconst (v := 3) dX12_most_14 rfl ?_
      refine zV_goto 106 dX12_most_15 (by decide) ?_
      exact zV_ireti dX12_most_106 rfl zi_3 h
  · replace h := zs_t h hc_
    refine zV_bipush (v := 99) dX12_most_4 rfl ?_
    refine zV_goto 106 dX12_most_6 (by decide) ?_
    exact zV_ireti dX12_most_106 rfl zi_99 h
noncomputable def fX12_readsSet (M : zMem) : Option (Int × zMem) :=
  (zbd (fX12_nextToken M) fun M4 => (zbd (fX12_what M4) fun r5 => (if 0 ≤ r5 then (zgd ((0 : Int) ≤ r5 ∧ r5 < 11) (if (M4 226 r5) = 0 then (zgd ((0 : Int) ≤ r5 ∧ r5 < 11) (zbd (fX12_nextToken (zup M4 226 r5 1)) fun M13 => (zbd (fX12_least r5 M13) fun r14 => (zbd (fX12_most r5 M13) fun r18 => (zbd2 (fX12_needsNumber r14 r18 M13) fun r22 M25 => (if r22 = 0 then some (0, M25) else (zgd ((0 : Int) ≤ (11 + r5) ∧ (11 + r5) < 66) (zbd (fX12_nextToken (zup M25 225 (11 + r5) (M25 200 8))) fun M30 => (zbd2 (fX12_ends M30) fun r31 M34 => some (r31, M34)))))))))) else (zbd2 (fX12_fails 3 M4) fun r35 M38 => some (r35, M38)))) else (zbd2 (fX12_fails 1 M4) fun r39 M42 => some (r39, M42)))))
set_option maxRecDepth 100000 in
set_option maxHeartbeats 4000000 in
theorem fX12_readsSet_ok {Z : zZ} (hZ : zB Z) {nn : Nat} (hn : 3 ≤ nn)   {M : zMem} {Q : Option zAV → zMem → zZ → Prop} (h : zSat (fX12_readsSet M) (fun r => Q (some (zI r.1)) r.2 Z))  : zV zmX12_readsSet nn 0 0 Z 0 [(0, zR 200)] [] M Q := by
  unfold fX12_readsSet at h
  refine zV_aload_n 0 dX12_readsSet_0 rfl rfl ?_
  refine zV_cVV (y' := zmX12_nextToken) (n' := 1) (As := []) zc_X12_229 (zq_200 hZ) rfl dX12_readsSet_1 (Nat.le_trans (by decide) hn) rfl (Nat.le_of_ble_eq_true rfl) (Nat.le_of_ble_eq_true rfl) rfl h (fun Q' h' => fX12_nextToken_ok hZ (Nat.le_refl _)  h') (fun M4 h => ?_)
  refine zV_aload_n 0 dX12_readsSet_4 rfl rfl ?_
  refine zV_cVI (y' := zmX12_what) (n' := 0) (As := []) zc_X12_315 (zq_200 hZ) rfl dX12_readsSet_5 (Nat.le_trans (by decide) hn) rfl (Nat.le_of_ble_eq_true rfl) (Nat.le_of_ble_eq_true rfl) rfl h (fun Q' h' => fX12_what_ok hZ (Nat.le_refl _)  h') (fun r5 c6 b7 h => ?_)
  refine zV_istore_n [(1, zI r5), (0, zR 200)] dX12_readsSet_8 rfl (by decide) rfl ?_
  refine zV_iload_n 0 dX12_readsSet_9 rfl rfl ?_
  refine zV_if_ge 19 dX12_readsSet_10 (by decide) c6 (fun hc_ => ?_) (fun hc_ => ?_)
  · replace h := zs_t h hc_
    refine zV_aload_n 1 dX12_readsSet_19 rfl rfl ?_
    refine zV_getR (j := 226) (zq_200 hZ) zf_X12_25 zkf_X12_59 rfl dX12_readsSet_20 ?_
    refine zV_iload_n 0 dX12_readsSet_23 rfl rfl ?_
    obtain ⟨hg, h⟩ := zs_gd h
    refine zV_zald (zq_226 hZ) hg dX12_readsSet_24 (fun m9 => ?_)
    refine zV_if_eq 34 dX12_readsSet_25 (by decide) (z32_01 m9) (fun hc_ => ?_) (fun hc_ => ?_)
    · replace h := zs_t h hc_
      refine zV_aload_n 1 dX12_readsSet_34 rfl rfl ?_
      refine zV_getR (j := 226) (zq_200 hZ) zf_X12_25 zkf_X12_59 rfl dX12_readsSet_35 ?_
      refine zV_iload_n 0 dX12_readsSet_38 rfl rfl ?_
      refine zV_iconst (v := 1) dX12_readsSet_39 rfl ?_
      obtain ⟨hg, h⟩ := zs_gd h
      refine zV_zast (zq_226 hZ) (by decide) hg (Or.inr rfl) dX12_readsSet_40 ?_
      refine zV_aload_n 1 dX12_readsSet_41 rfl rfl ?_
      refine zV_cVV (y' := zmX12_nextToken) (n' := 1) (As := []) zc_X12_229 (zq_200 hZ) rfl dX12_readsSet_42 (Nat.le_trans (by decide) hn) rfl (Nat.le_of_ble_eq_true rfl) (Nat.le_of_ble_eq_true rfl) rfl h (fun Q' h' => fX12_nextToken_ok hZ (Nat.le_refl _)  h') (fun M13 h => ?_)
      refine zV_aload_n 1 dX12_readsSet_45 rfl rfl ?_
      refine zV_iload_n 0 dX12_readsSet_46 rfl rfl ?_
      refine zV_cSI (y' := zmX12_least) (n' := 0) (As := [zI r5]) zc_X12_318 dX12_readsSet_47 (Nat.le_trans (by decide) hn) rfl (Nat.le_of_ble_eq_true rfl) (Nat.le_of_ble_eq_true rfl) rfl h (fun Q' h' => fX12_least_ok hZ (Nat.le_refl _) c6 h') (fun r14 c15 b16 h => ?_)
      refine zV_iload_n 0 dX12_readsSet_50 rfl rfl ?_
      refine zV_cSI (y' := zmX12_most) (n' := 0) (As := [zI r5]) zc_X12_321 dX12_readsSet_51 (Nat.le_trans (by decide) hn) rfl (Nat.le_of_ble_eq_true rfl) (Nat.le_of_ble_eq_true rfl) rfl h (fun Q' h' => fX12_most_ok hZ (Nat.le_refl _) c6 h') (fun r18 c19 b20 h => ?_)
      refine zV_cVIm (y' := zmX12_needsNumber) (n' := 1) (As := [zI r14, zI r18]) zc_X12_291 (zq_200 hZ) rfl dX12_readsSet_54 (Nat.le_trans (by decide) hn) rfl (Nat.le_of_ble_eq_true rfl) (Nat.le_of_ble_eq_true rfl) rfl h (fun Q' h' => fX12_needsNumber_ok hZ (Nat.le_refl _) c15 c19 h') (fun r22 M25 c23 b24 h => ?_)
      refine zV_if_ne 62 dX12_readsSet_57 (by decide) c23 (fun hc_ => ?_) (fun hc_ => ?_)
      · replace h := zs_f h hc_
        refine zV_aload_n 1 dX12_readsSet_62 rfl rfl ?_
        refine zV_getR (j := 225) (zq_200 hZ) zf_X12_24 zkf_X12_56 rfl dX12_readsSet_63 ?_
        refine zV_bipush (v := 11) dX12_readsSet_66 rfl ?_
        refine zV_iload_n 0 dX12_readsSet_68 rfl rfl ?_
        refine zV_iadd dX12_readsSet_69 ?_
        refine zV_aload_n 1 dX12_readsSet_70 rfl rfl ?_
        refine zV_getI (zq_200 hZ) zf_X12_8 zkf_X12_179 rfl dX12_readsSet_71 (fun m26 => ?_)
        obtain ⟨hg, h⟩ := zs_gd h
        refine zV_iast (zq_225 hZ) (by decide) hg m26 dX12_readsSet_74 ?_
        refine zV_aload_n 1 dX12_readsSet_75 rfl rfl ?_
        refine zV_cVV (y' := zmX12_nextToken) (n' := 1) (As := []) zc_X12_229 (zq_200 hZ) rfl dX12_readsSet_76 (Nat.le_trans (by decide) hn) rfl (Nat.le_of_ble_eq_true rfl) (Nat.le_of_ble_eq_true rfl) rfl h (fun Q' h' => fX12_nextToken_ok hZ (Nat.le_refl _)  h') (fun M30 h => ?_)
        refine zV_aload_n 1 dX12_readsSet_79 rfl rfl ?_
        refine zV_cVIm (y' := zmX12_ends) (n' := 2) (As := []) zc_X12_309 (zq_200 hZ) rfl dX12_readsSet_80 (Nat.le_trans (by decide) hn) rfl (Nat.le_of_ble_eq_true rfl) (Nat.le_of_ble_eq_true rfl) rfl h (fun Q' h' => fX12_ends_ok hZ (Nat.le_refl _)  h') (fun r31 M34 c32 b33 h => ?_)
        exact zV_iretb dX12_readsSet_83 rfl (b33 rfl) h
      · replace h := zs_t h hc_
        refine zV_iconst (v := 0) dX12_readsSet_60 rfl ?_
        exact zV_iretb dX12_readsSet_61 rfl (Or.inl rfl) h
    · replace h := zs_f h hc_
      refine zV_aload_n 1 dX12_readsSet_28 rfl rfl ?_
      refine zV_iconst (v := 3) dX12_readsSet_29 rfl ?_
      refine zV_cVIm (y' := zmX12_fails) (n' := 0) (As := [zI 3]) zc_X12_222 (zq_200 hZ) rfl dX12_readsSet_30 (Nat.le_trans (by decide) hn) rfl (Nat.le_of_ble_eq_true rfl) (Nat.le_of_ble_eq_true rfl) rfl h (fun Q' h' => fX12_fails_ok hZ (Nat.le_refl _) zi_3 h') (fun r35 M38 c36 b37 h => ?_)
      exact zV_iretb dX12_readsSet_33 rfl (b37 rfl) h
  · replace h := zs_f h hc_
    refine zV_aload_n 1 dX12_readsSet_13 rfl rfl ?_
    refine zV_iconst (v := 1) dX12_readsSet_14 rfl ?_
    refine zV_cVIm (y' := zmX12_fails) (n' := 0) (As := [zI 1]) zc_X12_222 (zq_200 hZ) rfl dX12_readsSet_15 (Nat.le_trans (by decide) hn) rfl (Nat.le_of_ble_eq_true rfl) (Nat.le_of_ble_eq_true rfl) rfl h (fun Q' h' => fX12_fails_ok hZ (Nat.le_refl _) zi_1 h') (fun r39 M42 c40 b41 h => ?_)
    exact zV_iretb dX12_readsSet_18 rfl (b41 rfl) h
noncomputable def fX12_readsAll_l23 (x1 : Int) (M : zMem) : Option ((Int × zMem) ⊕ (Int × zMem)) :=
  (if 11 ≤ x1 then some (.inr (x1, M)) else (zbd (fX12_without x1 M) fun r1 => (zgd ((0 : Int) ≤ (11 + x1) ∧ (11 + x1) < 66) (zgd ((0 : Int) ≤ x1 ∧ x1 < 11) (some (.inl ((zw (x1 + 1)), (zup (zup M 225 (11 + x1) r1) 226 x1 0))))))))
set_option maxRecDepth 100000 in
set_option maxHeartbeats 4000000 in
theorem fX12_readsAll_l23_ok {Z : zZ} (hZ : zB Z) {nn : Nat} (hn : 4 ≤ nn)  {x1 : Int} (hx1 : z32 x1) {M : zMem} {Q : Option zAV → zMem → zZ → Prop} {P : (Int × zMem) ⊕ (Int × zMem) → Prop} (h : zSat (fX12_readsAll_l23 x1 M) P)  (hc : ∀ s : Int × zMem, P (.inl s) → z32 (s.1) → zV zmX12_readsAll nn 0 0 Z 23 [(0, zR 200), (1, zI (s.1))] [] (s.2) Q) (he : ∀ s : Int × zMem, P (.inr s) → z32 (s.1) → zV zmX12_readsAll nn 0 0 Z 55 [(0, zR 200), (1, zI (s.1))] [] (s.2) Q)   : zV zmX12_readsAll nn 0 0 Z 23 [(0, zR 200), (1, zI x1)] [] M Q := by
  unfold fX12_readsAll_l23 at h
  refine zV_iload_n 1 dX12_readsAll_23 rfl rfl ?_
  refine zV_bipush (v := 11) dX12_readsAll_24 rfl ?_
  refine zV_icmp_ge 55 dX12_readsAll_26 (by decide) hx1 zi_11 (fun hc_ => ?_) (fun hc_ => ?_)
  · replace h := zs_t h hc_
    exact he _ h hx1
  · replace h := zs_f h hc_
    refine zV_aload_n 0 dX12_readsAll_29 rfl rfl ?_
    refine zV_getR (j := 225) (zq_200 hZ) zf_X12_24 zkf_X12_56 rfl dX12_readsAll_30 ?_
    refine zV_bipush (v := 11) dX12_readsAll_33 rfl ?_
    refine zV_iload_n 1 dX12_readsAll_35 rfl rfl ?_
    refine zV_iadd dX12_readsAll_36 ?_
    refine zV_iload_n 1 dX12_readsAll_37 rfl rfl ?_
    refine zV_cSI (y' := zmX12_without) (n' := 0) (As := [zI x1]) zc_X12_153 dX12_readsAll_38 (Nat.le_trans (by decide) hn) rfl (Nat.le_of_ble_eq_true rfl) (Nat.le_of_ble_eq_true rfl) rfl h (fun Q' h' => fX12_without_ok hZ (Nat.le_refl _) hx1 h') (fun r1 c2 b3 h => ?_)
    obtain ⟨hg, h⟩ := zs_gd h
    refine zV_iast (zq_225 hZ) (by decide) hg c2 dX12_readsAll_41 ?_
    refine zV_aload_n 0 dX12_readsAll_42 rfl rfl ?_
    refine zV_getR (j := 226) (zq_200 hZ) zf_X12_25 zkf_X12_59 rfl dX12_readsAll_43 ?_
    refine zV_iload_n 1 dX12_readsAll_46 rfl rfl ?_
    refine zV_iconst (v := 0) dX12_readsAll_47 rfl ?_
    obtain ⟨hg, h⟩ := zs_gd h
    refine zV_zast (zq_226 hZ) (by decide) hg (Or.inl rfl) dX12_readsAll_48 ?_
    refine zV_iinc 1 [(1, zI (zw (x1 + 1))), (0, zR 200)] dX12_readsAll_49 rfl rfl (by decide) rfl ?_
    refine zV_goto 23 dX12_readsAll_52 (by decide) ?_
    refine zV_ls [1, 0] rfl ?_
    exact hc _ h (z32_w _)
noncomputable def fX12_readsAll_j164 (s0 : Int) (M : zMem) : Option ((zMem) ⊕ ((zMem) ⊕ (Int × zMem))) :=
  (if s0 = 0 then some (.inr (.inr (0, M))) else some (.inl M))
set_option maxRecDepth 100000 in
set_option maxHeartbeats 4000000 in
theorem fX12_readsAll_j164_ok {Z : zZ} (hZ : zB Z) {nn : Nat} (hn : 4 ≤ nn)  {s0 : Int} (hs0 : z32 s0) (hbs0 : s0 = 0 ∨ s0 = 1) {M : zMem} {Q : Option zAV → zMem → zZ → Prop} {P : (zMem) ⊕ ((zMem) ⊕ (Int × zMem)) → Prop} (h : zSat (fX12_readsAll_j164 s0 M) P)  (hc : ∀ s : zMem, P (.inl s) → zV zmX12_readsAll nn 0 0 Z 84 [(0, zR 200)] [] s Q) (he : ∀ s : zMem, P (.inr (.inl s)) → zV zmX12_readsAll nn 0 0 Z 174 [(0, zR 200)] [] s Q) (hr : ∀ r : Int × zMem, P (.inr (.inr r)) → (fun r => Q (some (zI r.1)) r.2 Z) r)  : zV zmX12_readsAll nn 0 0 Z 164 [(0, zR 200)] [zI s0] M Q := by
  unfold fX12_readsAll_j164 at h
  refine zV_istore_n [(1, zI s0), (0, zR 200)] dX12_readsAll_164 rfl (by decide) rfl ?_
  refine zV_iload_n 0 dX12_readsAll_165 rfl rfl ?_
  refine zV_if_ne 171 dX12_readsAll_166 (by decide) hs0 (fun hc_ => ?_) (fun hc_ => ?_)
  · replace h := zs_f h hc_
    refine zV_goto 84 dX12_readsAll_171 (by decide) ?_
    refine zV_ls [1] rfl ?_
    exact hc _ h 
  · replace h := zs_t h hc_
    refine zV_iconst (v := 0) dX12_readsAll_169 rfl ?_
    exact zV_iretb dX12_readsAll_170 rfl (Or.inl rfl) (hr _ h)
noncomputable def fX12_readsAll_l84 (M : zMem) : Option ((zMem) ⊕ ((zMem) ⊕ (Int × zMem))) :=
  (if (M 200 6) = 0 then some (.inr (.inl M)) else (zbd (fX12_isWord 50934 M) fun r20 => (if r20 = 0 then (zbd (fX12_isWord 315918 M) fun r24 => (if r24 = 0 then (zbd (fX12_isWord 10415990 M) fun r28 => (if r28 = 0 then (zbd (fX12_isWord 14006 M) fun r32 => (if r32 = 0 then (zbd2 (fX12_fails 1 M) fun r36 M39 => fX12_readsAll_j164 r36 M39) else (zbd2 (fX12_readsSet M) fun r40 M43 => fX12_readsAll_j164 r40 M43))) else (zbd2 (fX12_readsSpeak M) fun r44 M47 => fX12_readsAll_j164 r44 M47))) else (zbd2 (fX12_readsPair M) fun r48 M51 => fX12_readsAll_j164 r48 M51))) else (zbd2 (fX12_readsBowl M) fun r52 M55 => fX12_readsAll_j164 r52 M55))))
set_option maxRecDepth 100000 in
set_option maxHeartbeats 4000000 in
theorem fX12_readsAll_l84_ok {Z : zZ} (hZ : zB Z) {nn : Nat} (hn : 4 ≤ nn)   {M : zMem} {Q : Option zAV → zMem → zZ → Prop} {P : (zMem) ⊕ ((zMem) ⊕ (Int × zMem)) → Prop} (h : zSat (fX12_readsAll_l84 M) P)  (hc : ∀ s : zMem, P (.inl s) → zV zmX12_readsAll nn 0 0 Z 84 [(0, zR 200)] [] s Q) (he : ∀ s : zMem, P (.inr (.inl s)) → zV zmX12_readsAll nn 0 0 Z 174 [(0, zR 200)] [] s Q) (hr : ∀ r : Int × zMem, P (.inr (.inr r)) → (fun r => Q (some (zI r.1)) r.2 Z) r)  : zV zmX12_readsAll nn 0 0 Z 84 [(0, zR 200)] [] M Q := by
  unfold fX12_readsAll_l84 at h
  refine zV_aload_n 0 dX12_readsAll_84 rfl rfl ?_
  refine zV_getI (zq_200 hZ) zf_X12_6 zkf_X12_182 rfl dX12_readsAll_85 (fun m19 => ?_)
  refine zV_if_eq 174 dX12_readsAll_88 (by decide) m19 (fun hc_ => ?_) (fun hc_ => ?_)
  · replace h := zs_t h hc_
    exact he _ h 
  · replace h := zs_f h hc_
    refine zV_aload_n 0 dX12_readsAll_91 rfl rfl ?_
    refine zV_ldc2 (v := 50934) zkl_X12_245 rfl dX12_readsAll_92 ?_
    refine zV_cVI (y' := zmX12_isWord) (n' := 0) (As := [zL 50934]) zc_X12_214 (zq_200 hZ) rfl dX12_readsAll_95 (Nat.le_trans (by decide) hn) rfl (Nat.le_of_ble_eq_true rfl) (Nat.le_of_ble_eq_true rfl) rfl h (fun Q' h' => fX12_isWord_ok hZ (Nat.le_refl _) zj_50934 h') (fun r20 c21 b22 h => ?_)
    refine zV_if_eq 108 dX12_readsAll_98 (by decide) c21 (fun hc_ => ?_) (fun hc_ => ?_)
    · replace h := zs_t h hc_
      refine zV_aload_n 0 dX12_readsAll_108 rfl rfl ?_
      refine zV_ldc2 (v := 315918) zkl_X12_257 rfl dX12_readsAll_109 ?_
      refine zV_cVI (y' := zmX12_isWord) (n' := 0) (As := [zL 315918]) zc_X12_214 (zq_200 hZ) rfl dX12_readsAll_112 (Nat.le_trans (by decide) hn) rfl (Nat.le_of_ble_eq_true rfl) (Nat.le_of_ble_eq_true rfl) rfl h (fun Q' h' => fX12_isWord_ok hZ (Nat.le_refl _) zj_315918 h') (fun r24 c25 b26 h => ?_)
      refine zV_if_eq 125 dX12_readsAll_115 (by decide) c25 (fun hc_ => ?_) (fun hc_ => ?_)
      · replace h := zs_t h hc_
        refine zV_aload_n 0 dX12_readsAll_125 rfl rfl ?_
        refine zV_ldc2 (v := 10415990) zkl_X12_261 rfl dX12_readsAll_126 ?_
        refine zV_cVI (y' := zmX12_isWord) (n' := 0) (As := [zL 10415990]) zc_X12_214 (zq_200 hZ) rfl dX12_readsAll_129 (Nat.le_trans (by decide) hn) rfl (Nat.le_of_ble_eq_true rfl) (Nat.le_of_ble_eq_true rfl) rfl h (fun Q' h' => fX12_isWord_ok hZ (Nat.le_refl _) zj_10415990 h') (fun r28 c29 b30 h => ?_)
        refine zV_if_eq 142 dX12_readsAll_132 (by decide) c29 (fun hc_ => ?_) (fun hc_ => ?_)
        · replace h := zs_t h hc_
          refine zV_aload_n 0 dX12_readsAll_142 rfl rfl ?_
          refine zV_ldc2 (v := 14006) zkl_X12_263 rfl dX12_readsAll_143 ?_
          refine zV_cVI (y' := zmX12_isWord) (n' := 0) (As := [zL 14006]) zc_X12_214 (zq_200 hZ) rfl dX12_readsAll_146 (Nat.le_trans (by decide) hn) rfl (Nat.le_of_ble_eq_true rfl) (Nat.le_of_ble_eq_true rfl) rfl h (fun Q' h' => fX12_isWord_ok hZ (Nat.le_refl _) zj_14006 h') (fun r32 c33 b34 h => ?_)
          refine zV_if_eq 159 dX12_readsAll_149 (by decide) c33 (fun hc_ => ?_) (fun hc_ => ?_)
          · replace h := zs_t h hc_
            refine zV_aload_n 0 dX12_readsAll_159 rfl rfl ?_
            refine zV_iconst (v := 1) dX12_readsAll_160 rfl ?_
            refine zV_cVIm (y' := zmX12_fails) (n' := 0) (As := [zI 1]) zc_X12_222 (zq_200 hZ) rfl dX12_readsAll_161 (Nat.le_trans (by decide) hn) rfl (Nat.le_of_ble_eq_true rfl) (Nat.le_of_ble_eq_true rfl) rfl h (fun Q' h' => fX12_fails_ok hZ (Nat.le_refl _) zi_1 h') (fun r36 M39 c37 b38 h => ?_)
            exact fX12_readsAll_j164_ok hZ hn c37 (b38 rfl) h hc he hr
          · replace h := zs_f h hc_
            refine zV_aload_n 0 dX12_readsAll_152 rfl rfl ?_
            refine zV_cVIm (y' := zmX12_readsSet) (n' := 3) (As := []) zc_X12_333 (zq_200 hZ) rfl dX12_readsAll_153 (Nat.le_trans (by decide) hn) rfl (Nat.le_of_ble_eq_true rfl) (Nat.le_of_ble_eq_true rfl) rfl h (fun Q' h' => fX12_readsSet_ok hZ (Nat.le_refl _)  h') (fun r40 M43 c41 b42 h => ?_)
            refine zV_goto 164 dX12_readsAll_156 (by decide) ?_
            exact fX12_readsAll_j164_ok hZ hn c41 (b42 rfl) h hc he hr
        · replace h := zs_f h hc_
          refine zV_aload_n 0 dX12_readsAll_135 rfl rfl ?_
          refine zV_cVIm (y' := zmX12_readsSpeak) (n' := 3) (As := []) zc_X12_330 (zq_200 hZ) rfl dX12_readsAll_136 (Nat.le_trans (by decide) hn) rfl (Nat.le_of_ble_eq_true rfl) (Nat.le_of_ble_eq_true rfl) rfl h (fun Q' h' => fX12_readsSpeak_ok hZ (Nat.le_refl _)  h') (fun r44 M47 c45 b46 h => ?_)
          refine zV_goto 164 dX12_readsAll_139 (by decide) ?_
          exact fX12_readsAll_j164_ok hZ hn c45 (b46 rfl) h hc he hr
      · replace h := zs_f h hc_
        refine zV_aload_n 0 dX12_readsAll_118 rfl rfl ?_
        refine zV_cVIm (y' := zmX12_readsPair) (n' := 3) (As := []) zc_X12_327 (zq_200 hZ) rfl dX12_readsAll_119 (Nat.le_trans (by decide) hn) rfl (Nat.le_of_ble_eq_true rfl) (Nat.le_of_ble_eq_true rfl) rfl h (fun Q' h' => fX12_readsPair_ok hZ (Nat.le_refl _)  h') (fun r48 M51 c49 b50 h => ?_)
        refine zV_goto 164 dX12_readsAll_122 (by decide) ?_
        exact fX12_readsAll_j164_ok hZ hn c49 (b50 rfl) h hc he hr
    · replace h := zs_f h hc_
      refine zV_aload_n 0 dX12_readsAll_101 rfl rfl ?_
      refine zV_cVIm (y' := zmX12_readsBowl) (n' := 3) (As := []) zc_X12_324 (zq_200 hZ) rfl dX12_readsAll_102 (Nat.le_trans (by decide) hn) rfl (Nat.le_of_ble_eq_true rfl) (Nat.le_of_ble_eq_true rfl) rfl h (fun Q' h' => fX12_readsBowl_ok hZ (Nat.le_refl _)  h') (fun r52 M55 c53 b54 h => ?_)
      refine zV_goto 164 dX12_readsAll_105 (by decide) ?_
      exact fX12_readsAll_j164_ok hZ hn c53 (b54 rfl) h hc he hr
noncomputable def fX12_readsAll (M : zMem) : Option (Int × zMem) :=
  (zgd ((0 : Int) ≤ (1 : Int) ∧ (1 : Int) < 6) (zgd ((0 : Int) ≤ (1 : Int) ∧ (1 : Int) < 6) (zgd ((0 : Int) ≤ (1 : Int) ∧ (1 : Int) < 6) (zbd (zit (fun s5 => fX12_readsAll_l23 (s5.1) (s5.2)) (0, (zup (zup (zup M 211 1 0) 212 1 0) 213 1 0))) fun s11 => (zbd (fX12_nextToken (zup (zup (zup (zup (s11.2) 200 29 1000) 200 3 ((zup (s11.2) 200 29 1000) 200 1)) 200 1 0) 200 4 0)) fun M18 => (zbd (zit (fun s56 => fX12_readsAll_l84  s56) M18) fun e => zel e (fun s61 => some (1, s61)) (fun r => some r)))))))
set_option maxRecDepth 100000 in
set_option maxHeartbeats 4000000 in
theorem fX12_readsAll_ok {Z : zZ} (hZ : zB Z) {nn : Nat} (hn : 4 ≤ nn)   {M : zMem} {Q : Option zAV → zMem → zZ → Prop} (h : zSat (fX12_readsAll M) (fun r => Q (some (zI r.1)) r.2 Z))  : zV zmX12_readsAll nn 0 0 Z 0 [(0, zR 200)] [] M Q := by
  unfold fX12_readsAll at h
  refine zV_aload_n 0 dX12_readsAll_0 rfl rfl ?_
  refine zV_getR (j := 211) (zq_200 hZ) zf_X12_10 zkf_X12_13 rfl dX12_readsAll_1 ?_
  refine zV_iconst (v := 1) dX12_readsAll_4 rfl ?_
  refine zV_iconst (v := 0) dX12_readsAll_5 rfl ?_
  obtain ⟨hg, h⟩ := zs_gd h
  refine zV_iast (zq_211 hZ) (by decide) hg zi_0 dX12_readsAll_6 ?_
  refine zV_aload_n 0 dX12_readsAll_7 rfl rfl ?_
  refine zV_getR (j := 212) (zq_200 hZ) zf_X12_11 zkf_X12_16 rfl dX12_readsAll_8 ?_
  refine zV_iconst (v := 1) dX12_readsAll_11 rfl ?_
  refine zV_iconst (v := 0) dX12_readsAll_12 rfl ?_
  obtain ⟨hg, h⟩ := zs_gd h
  refine zV_iast (zq_212 hZ) (by decide) hg zi_0 dX12_readsAll_13 ?_
  refine zV_aload_n 0 dX12_readsAll_14 rfl rfl ?_
  refine zV_getR (j := 213) (zq_200 hZ) zf_X12_12 zkf_X12_19 rfl dX12_readsAll_15 ?_
  refine zV_iconst (v := 1) dX12_readsAll_18 rfl ?_
  refine zV_iconst (v := 0) dX12_readsAll_19 rfl ?_
  obtain ⟨hg, h⟩ := zs_gd h
  refine zV_iast (zq_213 hZ) (by decide) hg zi_0 dX12_readsAll_20 ?_
  refine zV_iconst (v := 0) dX12_readsAll_21 rfl ?_
  refine zV_istore_n [(1, zI 0), (0, zR 200)] dX12_readsAll_22 rfl (by decide) rfl ?_
  refine zV_ls [1, 0] rfl ?_
  refine (zV_loop (Vh := fun s5 : Int × zMem => z32 (s5.1) → zV zmX12_readsAll nn 0 0 Z 23 [(0, zR 200), (1, zI (s5.1))] [] (s5.2) Q) h (fun s5 P6 hP7 hc8 he9 => ?_)) zi_0
  intro c10
  refine fX12_readsAll_l23_ok hZ hn c10 hP7 hc8 (fun s11 h12 d13 => ?_)
  have h := he9 _ h12
  refine zV_aload_n 0 dX12_readsAll_55 rfl rfl ?_
  refine zV_sipush (v := 1000) dX12_readsAll_56 rfl ?_
  refine zV_putI (zq_200 hZ) (by decide) zf_X12_29 zkf_X12_195 rfl dX12_readsAll_59 zi_1000 ?_
  refine zV_aload_n 0 dX12_readsAll_62 rfl rfl ?_
  refine zV_aload_n 0 dX12_readsAll_63 rfl rfl ?_
  refine zV_getI (zq_200 hZ) zf_X12_1 zkf_X12_163 rfl dX12_readsAll_64 (fun m14 => ?_)
  refine zV_putI (zq_200 hZ) (by decide) zf_X12_3 zkf_X12_166 rfl dX12_readsAll_67 m14 ?_
  refine zV_aload_n 0 dX12_readsAll_70 rfl rfl ?_
  refine zV_iconst (v := 0) dX12_readsAll_71 rfl ?_
  refine zV_putI (zq_200 hZ) (by decide) zf_X12_1 zkf_X12_163 rfl dX12_readsAll_72 zi_0 ?_
  refine zV_aload_n 0 dX12_readsAll_75 rfl rfl ?_
  refine zV_iconst (v := 0) dX12_readsAll_76 rfl ?_
  refine zV_putI (zq_200 hZ) (by decide) zf_X12_4 zkf_X12_169 rfl dX12_readsAll_77 zi_0 ?_
  refine zV_aload_n 0 dX12_readsAll_80 rfl rfl ?_
  refine zV_cVV (y' := zmX12_nextToken) (n' := 1) (As := []) zc_X12_229 (zq_200 hZ) rfl dX12_readsAll_81 (Nat.le_trans (by decide) hn) rfl (Nat.le_of_ble_eq_true rfl) (Nat.le_of_ble_eq_true rfl) rfl h (fun Q' h' => fX12_nextToken_ok hZ (Nat.le_refl _)  h') (fun M18 h => ?_)
  refine zV_ls [0] rfl ?_
  refine (zV_loop (Vh := fun s56 : zMem => zV zmX12_readsAll nn 0 0 Z 84 [(0, zR 200)] [] s56 Q) h (fun s56 P57 hP58 hc59 he60 => ?_)) 
  refine fX12_readsAll_l84_ok hZ hn  hP58 hc59 (fun s61 h62  => ?_) (fun r63 h64 => he60 _ h64)
  have h := he60 _ h62
  refine zV_iconst (v := 1) dX12_readsAll_174 rfl ?_
  exact zV_iretb dX12_readsAll_175 rfl (Or.inr rfl) h
noncomputable def fX12_lays_l38 (x1 x2 x3 : Int) (M : zMem) : Option ((Int × zMem) ⊕ (Int × zMem)) :=
  (if 12 ≤ x3 then some (.inr (x3, M)) else (zgd ((0 : Int) ≤ ((12 * x1) + x3) ∧ ((12 * x1) + x3) < 72) (zgd ((0 : Int) ≤ ((12 * x2) + x3) ∧ ((12 * x2) + x3) < 72) (zgd ((0 : Int) ≤ ((12 * x1) + x3) ∧ ((12 * x1) + x3) < 72) (zgd ((0 : Int) ≤ ((12 * x2) + x3) ∧ ((12 * x2) + x3) < 72) (zgd ((0 : Int) ≤ ((12 * x1) + x3) ∧ ((12 * x1) + x3) < 72) (zgd ((0 : Int) ≤ ((12 * x2) + x3) ∧ ((12 * x2) + x3) < 72) (zgd ((0 : Int) ≤ ((12 * x1) + x3) ∧ ((12 * x1) + x3) < 72) (zgd ((0 : Int) ≤ ((12 * x2) + x3) ∧ ((12 * x2) + x3) < 72) (zgd ((0 : Int) ≤ ((12 * x1) + x3) ∧ ((12 * x1) + x3) < 72) (zgd ((0 : Int) ≤ ((12 * x2) + x3) ∧ ((12 * x2) + x3) < 72) (some (.inl ((zw (x3 + 1)), (zup (zup (zup (zup (zup M 215 ((12 * x2) + x3) (M 215 ((12 * x1) + x3))) 216 ((12 * x2) + x3) ((zup M 215 ((12 * x2) + x3) (M 215 ((12 * x1) + x3))) 216 ((12 * x1) + x3))) 217 ((12 * x2) + x3) ((zup (zup M 215 ((12 * x2) + x3) (M 215 ((12 * x1) + x3))) 216 ((12 * x2) + x3) ((zup M 215 ((12 * x2) + x3) (M 215 ((12 * x1) + x3))) 216 ((12 * x1) + x3))) 217 ((12 * x1) + x3))) 218 ((12 * x2) + x3) ((zup (zup (zup M 215 ((12 * x2) + x3) (M 215 ((12 * x1) + x3))) 216 ((12 * x2) + x3) ((zup M 215 ((12 * x2) + x3) (M 215 ((12 * x1) + x3))) 216 ((12 * x1) + x3))) 217 ((12 * x2) + x3) ((zup (zup M 215 ((12 * x2) + x3) (M 215 ((12 * x1) + x3))) 216 ((12 * x2) + x3) ((zup M 215 ((12 * x2) + x3) (M 215 ((12 * x1) + x3))) 216 ((12 * x1) + x3))) 217 ((12 * x1) + x3))) 218 ((12 * x1) + x3))) 219 ((12 * x2) + x3) ((zup (zup (zup (zup M 215 ((12 * x2) + x3) (M 215 ((12 * x1) + x3))) 216 ((12 * x2) + x3) ((zup M 215 ((12 * x2) + x3) (M 215 ((12 * x1) + x3))) 216 ((12 * x1) + x3))) 217 ((12 * x2) + x3) ((zup (zup M 215 ((12 * x2) + x3) (M 215 ((12 * x1) + x3))) 216 ((12 * x2) + x3) ((zup M 215 ((12 * x2) + x3) (M 215 ((12 * x1) + x3))) 216 ((12 * x1) + x3))) 217 ((12 * x1) + x3))) 218 ((12 * x2) + x3) ((zup (zup (zup M 215 ((12 * x2) + x3) (M 215 ((12 * x1) + x3))) 216 ((12 * x2) + x3) ((zup M 215 ((12 * x2) + x3) (M 215 ((12 * x1) + x3))) 216 ((12 * x1) + x3))) 217 ((12 * x2) + x3) ((zup (zup M 215 ((12 * x2) + x3) (M 215 ((12 * x1) + x3))) 216 ((12 * x2) + x3) ((zup M 215 ((12 * x2) + x3) (M 215 ((12 * x1) + x3))) 216 ((12 * x1) + x3))) 217 ((12 * x1) + x3))) 218 ((12 * x1) + x3))) 219 ((12 * x1) + x3)))))))))))))))))
set_option maxRecDepth 100000 in
set_option maxHeartbeats 4000000 in
theorem fX12_lays_l38_ok {Z : zZ} (hZ : zB Z) {nn : Nat} (hn : 0 ≤ nn)  {x1 x2 x3 : Int} (hx1 : z32 x1) (hx2 : z32 x2) (hx3 : z32 x3) {M : zMem} {Q : Option zAV → zMem → zZ → Prop} {P : (Int × zMem) ⊕ (Int × zMem) → Prop} (h : zSat (fX12_lays_l38 x1 x2 x3 M) P)  (hc : ∀ s : Int × zMem, P (.inl s) → z32 (s.1) → zV zmX12_lays nn 0 0 Z 38 [(0, zR 200), (1, zI x1), (2, zI x2), (3, zI (s.1))] [] (s.2) Q) (he : ∀ s : Int × zMem, P (.inr s) → z32 (s.1) → zV zmX12_lays nn 0 0 Z 160 [(0, zR 200), (1, zI x1), (2, zI x2), (3, zI (s.1))] [] (s.2) Q)   : zV zmX12_lays nn 0 0 Z 38 [(0, zR 200), (1, zI x1), (2, zI x2), (3, zI x3)] [] M Q := by
  unfold fX12_lays_l38 at h
  refine zV_iload_n 3 dX12_lays_38 rfl rfl ?_
  refine zV_bipush (v := 12) dX12_lays_39 rfl ?_
  refine zV_icmp_ge 160 dX12_lays_41 (by decide) hx3 zi_12 (fun hc_ => ?_) (fun hc_ => ?_)
  · replace h := zs_t h hc_
    exact he _ h hx3
  · replace h := zs_f h hc_
    refine zV_aload_n 0 dX12_lays_44 rfl rfl ?_
    refine zV_getR (j := 215) (zq_200 hZ) zf_X12_14 zkf_X12_26 rfl dX12_lays_45 ?_
    refine zV_bipush (v := 12) dX12_lays_48 rfl ?_
    refine zV_iload_n 2 dX12_lays_50 rfl rfl ?_
    refine zV_imul dX12_lays_51 ?_
    refine zV_iload_n 3 dX12_lays_52 rfl rfl ?_
    refine zV_iadd dX12_lays_53 ?_
    refine zV_aload_n 0 dX12_lays_54 rfl rfl ?_
    refine zV_getR (j := 215) (zq_200 hZ) zf_X12_14 zkf_X12_26 rfl dX12_lays_55 ?_
    refine zV_bipush (v := 12) dX12_lays_58 rfl ?_
    refine zV_iload_n 1 dX12_lays_60 rfl rfl ?_
    refine zV_imul dX12_lays_61 ?_
    refine zV_iload_n 3 dX12_lays_62 rfl rfl ?_
    refine zV_iadd dX12_lays_63 ?_
    obtain ⟨hg, h⟩ := zs_gd h
    refine zV_iald (zq_215 hZ) hg dX12_lays_64 (fun m4 => ?_)
    obtain ⟨hg, h⟩ := zs_gd h
    refine zV_iast (zq_215 hZ) (by decide) hg m4 dX12_lays_65 ?_
    refine zV_aload_n 0 dX12_lays_66 rfl rfl ?_
    refine zV_getR (j := 216) (zq_200 hZ) zf_X12_15 zkf_X12_29 rfl dX12_lays_67 ?_
    refine zV_bipush (v := 12) dX12_lays_70 rfl ?_
    refine zV_iload_n 2 dX12_lays_72 rfl rfl ?_
    refine zV_imul dX12_lays_73 ?_
    refine zV_iload_n 3 dX12_lays_74 rfl rfl ?_
    refine zV_iadd dX12_lays_75 ?_
    refine zV_aload_n 0 dX12_lays_76 rfl rfl ?_
    refine zV_getR (j := 216) (zq_200 hZ) zf_X12_15 zkf_X12_29 rfl dX12_lays_77 ?_
    refine zV_bipush (v := 12) dX12_lays_80 rfl ?_
    refine zV_iload_n 1 dX12_lays_82 rfl rfl ?_
    refine zV_imul dX12_lays_83 ?_
    refine zV_iload_n 3 dX12_lays_84 rfl rfl ?_
    refine zV_iadd dX12_lays_85 ?_
    obtain ⟨hg, h⟩ := zs_gd h
    refine zV_iald (zq_216 hZ) hg dX12_lays_86 (fun m5 => ?_)
    obtain ⟨hg, h⟩ := zs_gd h
    refine zV_iast (zq_216 hZ) (by decide) hg m5 dX12_lays_87 ?_
    refine zV_aload_n 0 dX12_lays_88 rfl rfl ?_
    refine zV_getR (j := 217) (zq_200 hZ) zf_X12_16 zkf_X12_32 rfl dX12_lays_89 ?_
    refine zV_bipush (v := 12) dX12_lays_92 rfl ?_
    refine zV_iload_n 2 dX12_lays_94 rfl rfl ?_
    refine zV_imul dX12_lays_95 ?_
    refine zV_iload_n 3 dX12_lays_96 rfl rfl ?_
    refine zV_iadd dX12_lays_97 ?_
    refine zV_aload_n 0 dX12_lays_98 rfl rfl ?_
    refine zV_getR (j := 217) (zq_200 hZ) zf_X12_16 zkf_X12_32 rfl dX12_lays_99 ?_
    refine zV_bipush (v := 12) dX12_lays_102 rfl ?_
    refine zV_iload_n 1 dX12_lays_104 rfl rfl ?_
    refine zV_imul dX12_lays_105 ?_
    refine zV_iload_n 3 dX12_lays_106 rfl rfl ?_
    refine zV_iadd dX12_lays_107 ?_
    obtain ⟨hg, h⟩ := zs_gd h
    refine zV_iald (zq_217 hZ) hg dX12_lays_108 (fun m6 => ?_)
    obtain ⟨hg, h⟩ := zs_gd h
    refine zV_iast (zq_217 hZ) (by decide) hg m6 dX12_lays_109 ?_
    refine zV_aload_n 0 dX12_lays_110 rfl rfl ?_
    refine zV_getR (j := 218) (zq_200 hZ) zf_X12_17 zkf_X12_35 rfl dX12_lays_111 ?_
    refine zV_bipush (v := 12) dX12_lays_114 rfl ?_
    refine zV_iload_n 2 dX12_lays_116 rfl rfl ?_
    refine zV_imul dX12_lays_117 ?_
    refine zV_iload_n 3 dX12_lays_118 rfl rfl ?_
    refine zV_iadd dX12_lays_119 ?_
    refine zV_aload_n 0 dX12_lays_120 rfl rfl ?_
    refine zV_getR (j := 218) (zq_200 hZ) zf_X12_17 zkf_X12_35 rfl dX12_lays_121 ?_
    refine zV_bipush (v := 12) dX12_lays_124 rfl ?_
    refine zV_iload_n 1 dX12_lays_126 rfl rfl ?_
    refine zV_imul dX12_lays_127 ?_
    refine zV_iload_n 3 dX12_lays_128 rfl rfl ?_
    refine zV_iadd dX12_lays_129 ?_
    obtain ⟨hg, h⟩ := zs_gd h
    refine zV_iald (zq_218 hZ) hg dX12_lays_130 (fun m7 => ?_)
    obtain ⟨hg, h⟩ := zs_gd h
    refine zV_iast (zq_218 hZ) (by decide) hg m7 dX12_lays_131 ?_
    refine zV_aload_n 0 dX12_lays_132 rfl rfl ?_
    refine zV_getR (j := 219) (zq_200 hZ) zf_X12_18 zkf_X12_38 rfl dX12_lays_133 ?_
    refine zV_bipush (v := 12) dX12_lays_136 rfl ?_
    refine zV_iload_n 2 dX12_lays_138 rfl rfl ?_
    refine zV_imul dX12_lays_139 ?_
    refine zV_iload_n 3 dX12_lays_140 rfl rfl ?_
    refine zV_iadd dX12_lays_141 ?_
    refine zV_aload_n 0 dX12_lays_142 rfl rfl ?_
    refine zV_getR (j := 219) (zq_200 hZ) zf_X12_18 zkf_X12_38 rfl dX12_lays_143 ?_
    refine zV_bipush (v := 12) dX12_lays_146 rfl ?_
    refine zV_iload_n 1 dX12_lays_148 rfl rfl ?_
    refine zV_imul dX12_lays_149 ?_
    refine zV_iload_n 3 dX12_lays_150 rfl rfl ?_
    refine zV_iadd dX12_lays_151 ?_
    obtain ⟨hg, h⟩ := zs_gd h
    refine zV_iald (zq_219 hZ) hg dX12_lays_152 (fun m8 => ?_)
    obtain ⟨hg, h⟩ := zs_gd h
    refine zV_iast (zq_219 hZ) (by decide) hg m8 dX12_lays_153 ?_
    refine zV_iinc 3 [(3, zI (zw (x3 + 1))), (0, zR 200), (1, zI x1), (2, zI x2)] dX12_lays_154 rfl rfl (by decide) rfl ?_
    refine zV_goto 38 dX12_lays_157 (by decide) ?_
    refine zV_ls [1, 2, 3, 0] rfl ?_
    exact hc _ h (z32_w _)
noncomputable def fX12_lays_l162 (x1 x2 x3 : Int) (M : zMem) : Option ((Int × zMem) ⊕ (Int × zMem)) :=
  (if 8 ≤ x3 then some (.inr (x3, M)) else (zgd ((0 : Int) ≤ ((8 * x1) + x3) ∧ ((8 * x1) + x3) < 48) (zgd ((0 : Int) ≤ ((8 * x2) + x3) ∧ ((8 * x2) + x3) < 48) (zgd ((0 : Int) ≤ ((8 * x1) + x3) ∧ ((8 * x1) + x3) < 48) (zgd ((0 : Int) ≤ ((8 * x2) + x3) ∧ ((8 * x2) + x3) < 48) (zgd ((0 : Int) ≤ ((8 * x1) + x3) ∧ ((8 * x1) + x3) < 48) (zgd ((0 : Int) ≤ ((8 * x2) + x3) ∧ ((8 * x2) + x3) < 48) (zgd ((0 : Int) ≤ ((8 * x1) + x3) ∧ ((8 * x1) + x3) < 48) (zgd ((0 : Int) ≤ ((8 * x2) + x3) ∧ ((8 * x2) + x3) < 48) (zgd ((0 : Int) ≤ ((8 * x1) + x3) ∧ ((8 * x1) + x3) < 48) (zgd ((0 : Int) ≤ ((8 * x2) + x3) ∧ ((8 * x2) + x3) < 48) (some (.inl ((zw (x3 + 1)), (zup (zup (zup (zup (zup M 220 ((8 * x2) + x3) (M 220 ((8 * x1) + x3))) 221 ((8 * x2) + x3) ((zup M 220 ((8 * x2) + x3) (M 220 ((8 * x1) + x3))) 221 ((8 * x1) + x3))) 222 ((8 * x2) + x3) ((zup (zup M 220 ((8 * x2) + x3) (M 220 ((8 * x1) + x3))) 221 ((8 * x2) + x3) ((zup M 220 ((8 * x2) + x3) (M 220 ((8 * x1) + x3))) 221 ((8 * x1) + x3))) 222 ((8 * x1) + x3))) 223 ((8 * x2) + x3) ((zup (zup (zup M 220 ((8 * x2) + x3) (M 220 ((8 * x1) + x3))) 221 ((8 * x2) + x3) ((zup M 220 ((8 * x2) + x3) (M 220 ((8 * x1) + x3))) 221 ((8 * x1) + x3))) 222 ((8 * x2) + x3) ((zup (zup M 220 ((8 * x2) + x3) (M 220 ((8 * x1) + x3))) 221 ((8 * x2) + x3) ((zup M 220 ((8 * x2) + x3) (M 220 ((8 * x1) + x3))) 221 ((8 * x1) + x3))) 222 ((8 * x1) + x3))) 223 ((8 * x1) + x3))) 224 ((8 * x2) + x3) ((zup (zup (zup (zup M 220 ((8 * x2) + x3) (M 220 ((8 * x1) + x3))) 221 ((8 * x2) + x3) ((zup M 220 ((8 * x2) + x3) (M 220 ((8 * x1) + x3))) 221 ((8 * x1) + x3))) 222 ((8 * x2) + x3) ((zup (zup M 220 ((8 * x2) + x3) (M 220 ((8 * x1) + x3))) 221 ((8 * x2) + x3) ((zup M 220 ((8 * x2) + x3) (M 220 ((8 * x1) + x3))) 221 ((8 * x1) + x3))) 222 ((8 * x1) + x3))) 223 ((8 * x2) + x3) ((zup (zup (zup M 220 ((8 * x2) + x3) (M 220 ((8 * x1) + x3))) 221 ((8 * x2) + x3) ((zup M 220 ((8 * x2) + x3) (M 220 ((8 * x1) + x3))) 221 ((8 * x1) + x3))) 222 ((8 * x2) + x3) ((zup (zup M 220 ((8 * x2) + x3) (M 220 ((8 * x1) + x3))) 221 ((8 * x2) + x3) ((zup M 220 ((8 * x2) + x3) (M 220 ((8 * x1) + x3))) 221 ((8 * x1) + x3))) 222 ((8 * x1) + x3))) 223 ((8 * x1) + x3))) 224 ((8 * x1) + x3)))))))))))))))))
set_option maxRecDepth 100000 in
set_option maxHeartbeats 4000000 in
theorem fX12_lays_l162_ok {Z : zZ} (hZ : zB Z) {nn : Nat} (hn : 0 ≤ nn)  {x1 x2 x3 : Int} (hx1 : z32 x1) (hx2 : z32 x2) (hx3 : z32 x3) {M : zMem} {Q : Option zAV → zMem → zZ → Prop} {P : (Int × zMem) ⊕ (Int × zMem) → Prop} (h : zSat (fX12_lays_l162 x1 x2 x3 M) P)  (hc : ∀ s : Int × zMem, P (.inl s) → z32 (s.1) → zV zmX12_lays nn 0 0 Z 162 [(0, zR 200), (1, zI x1), (2, zI x2), (3, zI (s.1))] [] (s.2) Q) (he : ∀ s : Int × zMem, P (.inr s) → z32 (s.1) → zV zmX12_lays nn 0 0 Z 284 [(0, zR 200), (1, zI x1), (2, zI x2), (3, zI (s.1))] [] (s.2) Q)   : zV zmX12_lays nn 0 0 Z 162 [(0, zR 200), (1, zI x1), (2, zI x2), (3, zI x3)] [] M Q := by
  unfold fX12_lays_l162 at h
  refine zV_iload_n 3 dX12_lays_162 rfl rfl ?_
  refine zV_bipush (v := 8) dX12_lays_163 rfl ?_
  refine zV_icmp_ge 284 dX12_lays_165 (by decide) hx3 zi_8 (fun hc_ => ?_) (fun hc_ => ?_)
  · replace h := zs_t h hc_
    exact he _ h hx3
  · replace h := zs_f h hc_
    refine zV_aload_n 0 dX12_lays_168 rfl rfl ?_
    refine zV_getR (j := 220) (zq_200 hZ) zf_X12_19 zkf_X12_41 rfl dX12_lays_169 ?_
    refine zV_bipush (v := 8) dX12_lays_172 rfl ?_
    refine zV_iload_n 2 dX12_lays_174 rfl rfl ?_
    refine zV_imul dX12_lays_175 ?_
    refine zV_iload_n 3 dX12_lays_176 rfl rfl ?_
    refine zV_iadd dX12_lays_177 ?_
    refine zV_aload_n 0 dX12_lays_178 rfl rfl ?_
    refine zV_getR (j := 220) (zq_200 hZ) zf_X12_19 zkf_X12_41 rfl dX12_lays_179 ?_
    refine zV_bipush (v := 8) dX12_lays_182 rfl ?_
    refine zV_iload_n 1 dX12_lays_184 rfl rfl ?_
    refine zV_imul dX12_lays_185 ?_
    refine zV_iload_n 3 dX12_lays_186 rfl rfl ?_
    refine zV_iadd dX12_lays_187 ?_
    obtain ⟨hg, h⟩ := zs_gd h
    refine zV_iald (zq_220 hZ) hg dX12_lays_188 (fun m18 => ?_)
    obtain ⟨hg, h⟩ := zs_gd h
    refine zV_iast (zq_220 hZ) (by decide) hg m18 dX12_lays_189 ?_
    refine zV_aload_n 0 dX12_lays_190 rfl rfl ?_
    refine zV_getR (j := 221) (zq_200 hZ) zf_X12_20 zkf_X12_44 rfl dX12_lays_191 ?_
    refine zV_bipush (v := 8) dX12_lays_194 rfl ?_
    refine zV_iload_n 2 dX12_lays_196 rfl rfl ?_
    refine zV_imul dX12_lays_197 ?_
    refine zV_iload_n 3 dX12_lays_198 rfl rfl ?_
    refine zV_iadd dX12_lays_199 ?_
    refine zV_aload_n 0 dX12_lays_200 rfl rfl ?_
    refine zV_getR (j := 221) (zq_200 hZ) zf_X12_20 zkf_X12_44 rfl dX12_lays_201 ?_
    refine zV_bipush (v := 8) dX12_lays_204 rfl ?_
    refine zV_iload_n 1 dX12_lays_206 rfl rfl ?_
    refine zV_imul dX12_lays_207 ?_
    refine zV_iload_n 3 dX12_lays_208 rfl rfl ?_
    refine zV_iadd dX12_lays_209 ?_
    obtain ⟨hg, h⟩ := zs_gd h
    refine zV_iald (zq_221 hZ) hg dX12_lays_210 (fun m19 => ?_)
    obtain ⟨hg, h⟩ := zs_gd h
    refine zV_iast (zq_221 hZ) (by decide) hg m19 dX12_lays_211 ?_
    refine zV_aload_n 0 dX12_lays_212 rfl rfl ?_
    refine zV_getR (j := 222) (zq_200 hZ) zf_X12_21 zkf_X12_47 rfl dX12_lays_213 ?_
    refine zV_bipush (v := 8) dX12_lays_216 rfl ?_
    refine zV_iload_n 2 dX12_lays_218 rfl rfl ?_
    refine zV_imul dX12_lays_219 ?_
    refine zV_iload_n 3 dX12_lays_220 rfl rfl ?_
    refine zV_iadd dX12_lays_221 ?_
    refine zV_aload_n 0 dX12_lays_222 rfl rfl ?_
    refine zV_getR (j := 222) (zq_200 hZ) zf_X12_21 zkf_X12_47 rfl dX12_lays_223 ?_
    refine zV_bipush (v := 8) dX12_lays_226 rfl ?_
    refine zV_iload_n 1 dX12_lays_228 rfl rfl ?_
    refine zV_imul dX12_lays_229 ?_
    refine zV_iload_n 3 dX12_lays_230 rfl rfl ?_
    refine zV_iadd dX12_lays_231 ?_
    obtain ⟨hg, h⟩ := zs_gd h
    refine zV_iald (zq_222 hZ) hg dX12_lays_232 (fun m20 => ?_)
    obtain ⟨hg, h⟩ := zs_gd h
    refine zV_iast (zq_222 hZ) (by decide) hg m20 dX12_lays_233 ?_
    refine zV_aload_n 0 dX12_lays_234 rfl rfl ?_
    refine zV_getR (j := 223) (zq_200 hZ) zf_X12_22 zkf_X12_50 rfl dX12_lays_235 ?_
    refine zV_bipush (v := 8) dX12_lays_238 rfl ?_
    refine zV_iload_n 2 dX12_lays_240 rfl rfl ?_
    refine zV_imul dX12_lays_241 ?_
    refine zV_iload_n 3 dX12_lays_242 rfl rfl ?_
    refine zV_iadd dX12_lays_243 ?_
    refine zV_aload_n 0 dX12_lays_244 rfl rfl ?_
    refine zV_getR (j := 223) (zq_200 hZ) zf_X12_22 zkf_X12_50 rfl dX12_lays_245 ?_
    refine zV_bipush (v := 8) dX12_lays_248 rfl ?_
    refine zV_iload_n 1 dX12_lays_250 rfl rfl ?_
    refine zV_imul dX12_lays_251 ?_
    refine zV_iload_n 3 dX12_lays_252 rfl rfl ?_
    refine zV_iadd dX12_lays_253 ?_
    obtain ⟨hg, h⟩ := zs_gd h
    refine zV_iald (zq_223 hZ) hg dX12_lays_254 (fun m21 => ?_)
    obtain ⟨hg, h⟩ := zs_gd h
    refine zV_iast (zq_223 hZ) (by decide) hg m21 dX12_lays_255 ?_
    refine zV_aload_n 0 dX12_lays_256 rfl rfl ?_
    refine zV_getR (j := 224) (zq_200 hZ) zf_X12_23 zkf_X12_53 rfl dX12_lays_257 ?_
    refine zV_bipush (v := 8) dX12_lays_260 rfl ?_
    refine zV_iload_n 2 dX12_lays_262 rfl rfl ?_
    refine zV_imul dX12_lays_263 ?_
    refine zV_iload_n 3 dX12_lays_264 rfl rfl ?_
    refine zV_iadd dX12_lays_265 ?_
    refine zV_aload_n 0 dX12_lays_266 rfl rfl ?_
    refine zV_getR (j := 224) (zq_200 hZ) zf_X12_23 zkf_X12_53 rfl dX12_lays_267 ?_
    refine zV_bipush (v := 8) dX12_lays_270 rfl ?_
    refine zV_iload_n 1 dX12_lays_272 rfl rfl ?_
    refine zV_imul dX12_lays_273 ?_
    refine zV_iload_n 3 dX12_lays_274 rfl rfl ?_
    refine zV_iadd dX12_lays_275 ?_
    obtain ⟨hg, h⟩ := zs_gd h
    refine zV_iald (zq_224 hZ) hg dX12_lays_276 (fun m22 => ?_)
    obtain ⟨hg, h⟩ := zs_gd h
    refine zV_iast (zq_224 hZ) (by decide) hg m22 dX12_lays_277 ?_
    refine zV_iinc 3 [(3, zI (zw (x3 + 1))), (0, zR 200), (1, zI x1), (2, zI x2)] dX12_lays_278 rfl rfl (by decide) rfl ?_
    refine zV_goto 162 dX12_lays_281 (by decide) ?_
    refine zV_ls [1, 2, 3, 0] rfl ?_
    exact hc _ h (z32_w _)
noncomputable def fX12_lays_l286 (x1 x2 x3 : Int) (M : zMem) : Option ((Int × zMem) ⊕ (Int × zMem)) :=
  (if 11 ≤ x3 then some (.inr (x3, M)) else (zgd ((0 : Int) ≤ ((11 * x1) + x3) ∧ ((11 * x1) + x3) < 66) (zgd ((0 : Int) ≤ ((11 * x2) + x3) ∧ ((11 * x2) + x3) < 66) (some (.inl ((zw (x3 + 1)), (zup M 225 ((11 * x2) + x3) (M 225 ((11 * x1) + x3)))))))))
set_option maxRecDepth 100000 in
set_option maxHeartbeats 4000000 in
theorem fX12_lays_l286_ok {Z : zZ} (hZ : zB Z) {nn : Nat} (hn : 0 ≤ nn)  {x1 x2 x3 : Int} (hx1 : z32 x1) (hx2 : z32 x2) (hx3 : z32 x3) {M : zMem} {Q : Option zAV → zMem → zZ → Prop} {P : (Int × zMem) ⊕ (Int × zMem) → Prop} (h : zSat (fX12_lays_l286 x1 x2 x3 M) P)  (hc : ∀ s : Int × zMem, P (.inl s) → z32 (s.1) → zV zmX12_lays nn 0 0 Z 286 [(0, zR 200), (1, zI x1), (2, zI x2), (3, zI (s.1))] [] (s.2) Q) (he : ∀ s : Int × zMem, P (.inr s) → z32 (s.1) → zV zmX12_lays nn 0 0 Z 320 [(0, zR 200), (1, zI x1), (2, zI x2), (3, zI (s.1))] [] (s.2) Q)   : zV zmX12_lays nn 0 0 Z 286 [(0, zR 200), (1, zI x1), (2, zI x2), (3, zI x3)] [] M Q := by
  unfold fX12_lays_l286 at h
  refine zV_iload_n 3 dX12_lays_286 rfl rfl ?_
  refine zV_bipush (v := 11) dX12_lays_287 rfl ?_
  refine zV_icmp_ge 320 dX12_lays_289 (by decide) hx3 zi_11 (fun hc_ => ?_) (fun hc_ => ?_)
  · replace h := zs_t h hc_
    exact he _ h hx3
  · replace h := zs_f h hc_
    refine zV_aload_n 0 dX12_lays_292 rfl rfl ?_
    refine zV_getR (j := 225) (zq_200 hZ) zf_X12_24 zkf_X12_56 rfl dX12_lays_293 ?_
    refine zV_bipush (v := 11) dX12_lays_296 rfl ?_
    refine zV_iload_n 2 dX12_lays_298 rfl rfl ?_
    refine zV_imul dX12_lays_299 ?_
    refine zV_iload_n 3 dX12_lays_300 rfl rfl ?_
    refine zV_iadd dX12_lays_301 ?_
    refine zV_aload_n 0 dX12_lays_302 rfl rfl ?_
    refine zV_getR (j := 225) (zq_200 hZ) zf_X12_24 zkf_X12_56 rfl dX12_lays_303 ?_
    refine zV_bipush (v := 11) dX12_lays_306 rfl ?_
    refine zV_iload_n 1 dX12_lays_308 rfl rfl ?_
    refine zV_imul dX12_lays_309 ?_
    refine zV_iload_n 3 dX12_lays_310 rfl rfl ?_
    refine zV_iadd dX12_lays_311 ?_
    obtain ⟨hg, h⟩ := zs_gd h
    refine zV_iald (zq_225 hZ) hg dX12_lays_312 (fun m32 => ?_)
    obtain ⟨hg, h⟩ := zs_gd h
    refine zV_iast (zq_225 hZ) (by decide) hg m32 dX12_lays_313 ?_
    refine zV_iinc 3 [(3, zI (zw (x3 + 1))), (0, zR 200), (1, zI x1), (2, zI x2)] dX12_lays_314 rfl rfl (by decide) rfl ?_
    refine zV_goto 286 dX12_lays_317 (by decide) ?_
    refine zV_ls [1, 2, 3, 0] rfl ?_
    exact hc _ h (z32_w _)
noncomputable def fX12_lays_l322 (x1 x2 x3 : Int) (M : zMem) : Option ((Int × zMem) ⊕ (Int × zMem)) :=
  (if 4 ≤ x3 then some (.inr (x3, M)) else (zgd ((0 : Int) ≤ ((4 * x1) + x3) ∧ ((4 * x1) + x3) < 24) (zgd ((0 : Int) ≤ ((4 * x2) + x3) ∧ ((4 * x2) + x3) < 24) (zgd ((0 : Int) ≤ ((4 * x1) + x3) ∧ ((4 * x1) + x3) < 24) (zgd ((0 : Int) ≤ ((4 * x2) + x3) ∧ ((4 * x2) + x3) < 24) (some (.inl ((zw (x3 + 1)), (zup (zup M 227 ((4 * x2) + x3) (zw ((M 227 ((4 * x1) + x3)) + (1000 * (x2 - x1))))) 228 ((4 * x2) + x3) (zw (((zup M 227 ((4 * x2) + x3) (zw ((M 227 ((4 * x1) + x3)) + (1000 * (x2 - x1))))) 228 ((4 * x1) + x3)) + (1000 * (x2 - x1)))))))))))))
set_option maxRecDepth 100000 in
set_option maxHeartbeats 4000000 in
theorem fX12_lays_l322_ok {Z : zZ} (hZ : zB Z) {nn : Nat} (hn : 0 ≤ nn)  {x1 x2 x3 : Int} (hx1 : z32 x1) (hx2 : z32 x2) (hx3 : z32 x3) {M : zMem} {Q : Option zAV → zMem → zZ → Prop} {P : (Int × zMem) ⊕ (Int × zMem) → Prop} (h : zSat (fX12_lays_l322 x1 x2 x3 M) P)  (hc : ∀ s : Int × zMem, P (.inl s) → z32 (s.1) → zV zmX12_lays nn 0 0 Z 322 [(0, zR 200), (1, zI x1), (2, zI x2), (3, zI (s.1))] [] (s.2) Q) (he : ∀ s : Int × zMem, P (.inr s) → z32 (s.1) → zV zmX12_lays nn 0 0 Z 389 [(0, zR 200), (1, zI x1), (2, zI x2), (3, zI (s.1))] [] (s.2) Q)   : zV zmX12_lays nn 0 0 Z 322 [(0, zR 200), (1, zI x1), (2, zI x2), (3, zI x3)] [] M Q := by
  unfold fX12_lays_l322 at h
  refine zV_iload_n 3 dX12_lays_322 rfl rfl ?_
  refine zV_iconst (v := 4) dX12_lays_323 rfl ?_
  refine zV_icmp_ge 389 dX12_lays_324 (by decide) hx3 zi_4 (fun hc_ => ?_) (fun hc_ => ?_)
  · replace h := zs_t h hc_
    exact he _ h hx3
  · replace h := zs_f h hc_
    refine zV_aload_n 0 dX12_lays_327 rfl rfl ?_
    refine zV_getR (j := 227) (zq_200 hZ) zf_X12_26 zkf_X12_63 rfl dX12_lays_328 ?_
    refine zV_iconst (v := 4) dX12_lays_331 rfl ?_
    refine zV_iload_n 2 dX12_lays_332 rfl rfl ?_
    refine zV_imul dX12_lays_333 ?_
    refine zV_iload_n 3 dX12_lays_334 rfl rfl ?_
    refine zV_iadd dX12_lays_335 ?_
    refine zV_aload_n 0 dX12_lays_336 rfl rfl ?_
    refine zV_getR (j := 227) (zq_200 hZ) zf_X12_26 zkf_X12_63 rfl dX12_lays_337 ?_
    refine zV_iconst (v := 4) dX12_lays_340 rfl ?_
    refine zV_iload_n 1 dX12_lays_341 rfl rfl ?_
    refine zV_imul dX12_lays_342 ?_
    refine zV_iload_n 3 dX12_lays_343 rfl rfl ?_
    refine zV_iadd dX12_lays_344 ?_
    obtain ⟨hg, h⟩ := zs_gd h
    refine zV_iald (zq_227 hZ) hg dX12_lays_345 (fun m42 => ?_)
    refine zV_sipush (v := 1000) dX12_lays_346 rfl ?_
    refine zV_iload_n 2 dX12_lays_349 rfl rfl ?_
    refine zV_iload_n 1 dX12_lays_350 rfl rfl ?_
    refine zV_isub dX12_lays_351 ?_
    refine zV_imul dX12_lays_352 ?_
    refine zV_iadd dX12_lays_353 ?_
    refine zV_w ?_
    obtain ⟨hg, h⟩ := zs_gd h
    refine zV_iast (zq_227 hZ) (by decide) hg (z32_w _) dX12_lays_354 ?_
    refine zV_aload_n 0 dX12_lays_355 rfl rfl ?_
    refine zV_getR (j := 228) (zq_200 hZ) zf_X12_27 zkf_X12_66 rfl dX12_lays_356 ?_
    refine zV_iconst (v := 4) dX12_lays_359 rfl ?_
    refine zV_iload_n 2 dX12_lays_360 rfl rfl ?_
    refine zV_imul dX12_lays_361 ?_
    refine zV_iload_n 3 dX12_lays_362 rfl rfl ?_
    refine zV_iadd dX12_lays_363 ?_
    refine zV_aload_n 0 dX12_lays_364 rfl rfl ?_
    refine zV_getR (j := 228) (zq_200 hZ) zf_X12_27 zkf_X12_66 rfl dX12_lays_365 ?_
    refine zV_iconst (v := 4) dX12_lays_368 rfl ?_
    refine zV_iload_n 1 dX12_lays_369 rfl rfl ?_
    refine zV_imul dX12_lays_370 ?_
    refine zV_iload_n 3 dX12_lays_371 rfl rfl ?_
    refine zV_iadd dX12_lays_372 ?_
    obtain ⟨hg, h⟩ := zs_gd h
    refine zV_iald (zq_228 hZ) hg dX12_lays_373 (fun m43 => ?_)
    refine zV_sipush (v := 1000) dX12_lays_374 rfl ?_
    refine zV_iload_n 2 dX12_lays_377 rfl rfl ?_
    refine zV_iload_n 1 dX12_lays_378 rfl rfl ?_
    refine zV_isub dX12_lays_379 ?_
    refine zV_imul dX12_lays_380 ?_
    refine zV_iadd dX12_lays_381 ?_
    refine zV_w ?_
    obtain ⟨hg, h⟩ := zs_gd h
    refine zV_iast (zq_228 hZ) (by decide) hg (z32_w _) dX12_lays_382 ?_
    refine zV_iinc 3 [(3, zI (zw (x3 + 1))), (0, zR 200), (1, zI x1), (2, zI x2)] dX12_lays_383 rfl rfl (by decide) rfl ?_
    refine zV_goto 322 dX12_lays_386 (by decide) ?_
    refine zV_ls [1, 2, 3, 0] rfl ?_
    exact hc _ h (z32_w _)
noncomputable def fX12_lays_l391 (x1 x2 x3 : Int) (M : zMem) : Option ((Int × zMem) ⊕ (Int × zMem)) :=
  (if 1000 ≤ x3 then some (.inr (x3, M)) else (zgd ((0 : Int) ≤ ((1000 * x1) + x3) ∧ ((1000 * x1) + x3) < 6000) (zgd ((0 : Int) ≤ ((1000 * x2) + x3) ∧ ((1000 * x2) + x3) < 6000) (some (.inl ((zw (x3 + 1)), (zup M 229 ((1000 * x2) + x3) (M 229 ((1000 * x1) + x3)))))))))
set_option maxRecDepth 100000 in
set_option maxHeartbeats 4000000 in
theorem fX12_lays_l391_ok {Z : zZ} (hZ : zB Z) {nn : Nat} (hn : 0 ≤ nn)  {x1 x2 x3 : Int} (hx1 : z32 x1) (hx2 : z32 x2) (hx3 : z32 x3) {M : zMem} {Q : Option zAV → zMem → zZ → Prop} {P : (Int × zMem) ⊕ (Int × zMem) → Prop} (h : zSat (fX12_lays_l391 x1 x2 x3 M) P)  (hc : ∀ s : Int × zMem, P (.inl s) → z32 (s.1) → zV zmX12_lays nn 0 0 Z 391 [(0, zR 200), (1, zI x1), (2, zI x2), (3, zI (s.1))] [] (s.2) Q) (he : ∀ s : Int × zMem, P (.inr s) → z32 (s.1) → zV zmX12_lays nn 0 0 Z 428 [(0, zR 200), (1, zI x1), (2, zI x2), (3, zI (s.1))] [] (s.2) Q)   : zV zmX12_lays nn 0 0 Z 391 [(0, zR 200), (1, zI x1), (2, zI x2), (3, zI x3)] [] M Q := by
  unfold fX12_lays_l391 at h
  refine zV_iload_n 3 dX12_lays_391 rfl rfl ?_
  refine zV_sipush (v := 1000) dX12_lays_392 rfl ?_
  refine zV_icmp_ge 428 dX12_lays_395 (by decide) hx3 zi_1000 (fun hc_ => ?_) (fun hc_ => ?_)
  · replace h := zs_t h hc_
    exact he _ h hx3
  · replace h := zs_f h hc_
    refine zV_aload_n 0 dX12_lays_398 rfl rfl ?_
    refine zV_getR (j := 229) (zq_200 hZ) zf_X12_28 zkf_X12_69 rfl dX12_lays_399 ?_
    refine zV_sipush (v := 1000) dX12_lays_402 rfl ?_
    refine zV_iload_n 2 dX12_lays_405 rfl rfl ?_
    refine zV_imul dX12_lays_406 ?_
    refine zV_iload_n 3 dX12_lays_407 rfl rfl ?_
    refine zV_iadd dX12_lays_408 ?_
    refine zV_aload_n 0 dX12_lays_409 rfl rfl ?_
    refine zV_getR (j := 229) (zq_200 hZ) zf_X12_28 zkf_X12_69 rfl dX12_lays_410 ?_
    refine zV_sipush (v := 1000) dX12_lays_413 rfl ?_
    refine zV_iload_n 1 dX12_lays_416 rfl rfl ?_
    refine zV_imul dX12_lays_417 ?_
    refine zV_iload_n 3 dX12_lays_418 rfl rfl ?_
    refine zV_iadd dX12_lays_419 ?_
    obtain ⟨hg, h⟩ := zs_gd h
    refine zV_iald (zq_229 hZ) hg dX12_lays_420 (fun m53 => ?_)
    obtain ⟨hg, h⟩ := zs_gd h
    refine zV_iast (zq_229 hZ) (by decide) hg m53 dX12_lays_421 ?_
    refine zV_iinc 3 [(3, zI (zw (x3 + 1))), (0, zR 200), (1, zI x1), (2, zI x2)] dX12_lays_422 rfl rfl (by decide) rfl ?_
    refine zV_goto 391 dX12_lays_425 (by decide) ?_
    refine zV_ls [1, 2, 3, 0] rfl ?_
    exact hc _ h (z32_w _)
noncomputable def fX12_lays (x1 x2 : Int) (M : zMem) : Option (zMem) :=
  (zgd ((0 : Int) ≤ x1 ∧ x1 < 6) (zgd ((0 : Int) ≤ x2 ∧ x2 < 6) (zgd ((0 : Int) ≤ x1 ∧ x1 < 6) (zgd ((0 : Int) ≤ x2 ∧ x2 < 6) (zgd ((0 : Int) ≤ x1 ∧ x1 < 6) (zgd ((0 : Int) ≤ x2 ∧ x2 < 6) (zbd (zit (fun s9 => fX12_lays_l38 x1 x2 (s9.1) (s9.2)) (0, (zup (zup (zup M 211 x2 (M 211 x1)) 212 x2 ((zup M 211 x2 (M 211 x1)) 212 x1)) 213 x2 ((zup (zup M 211 x2 (M 211 x1)) 212 x2 ((zup M 211 x2 (M 211 x1)) 212 x1)) 213 x1)))) fun s15 => (zbd (zit (fun s23 => fX12_lays_l162 x1 x2 (s23.1) (s23.2)) (0, s15.2)) fun s29 => (zbd (zit (fun s33 => fX12_lays_l286 x1 x2 (s33.1) (s33.2)) (0, s29.2)) fun s39 => (zbd (zit (fun s44 => fX12_lays_l322 x1 x2 (s44.1) (s44.2)) (0, s39.2)) fun s50 => (zbd (zit (fun s54 => fX12_lays_l391 x1 x2 (s54.1) (s54.2)) (0, s50.2)) fun s60 => some (s60.2))))))))))))
set_option maxRecDepth 100000 in
set_option maxHeartbeats 4000000 in
theorem fX12_lays_ok {Z : zZ} (hZ : zB Z) {nn : Nat} (hn : 0 ≤ nn)  {x1 x2 : Int} (hx1 : z32 x1) (hx2 : z32 x2) {M : zMem} {Q : Option zAV → zMem → zZ → Prop} (h : zSat (fX12_lays x1 x2 M) (fun r => Q none r Z))  : zV zmX12_lays nn 0 0 Z 0 [(0, zR 200), (1, zI x1), (2, zI x2)] [] M Q := by
  unfold fX12_lays at h
  refine zV_aload_n 0 dX12_lays_0 rfl rfl ?_
  refine zV_getR (j := 211) (zq_200 hZ) zf_X12_10 zkf_X12_13 rfl dX12_lays_1 ?_
  refine zV_iload_n 2 dX12_lays_4 rfl rfl ?_
  refine zV_aload_n 0 dX12_lays_5 rfl rfl ?_
  refine zV_getR (j := 211) (zq_200 hZ) zf_X12_10 zkf_X12_13 rfl dX12_lays_6 ?_
  refine zV_iload_n 1 dX12_lays_9 rfl rfl ?_
  obtain ⟨hg, h⟩ := zs_gd h
  refine zV_iald (zq_211 hZ) hg dX12_lays_10 (fun m1 => ?_)
  obtain ⟨hg, h⟩ := zs_gd h
  refine zV_iast (zq_211 hZ) (by decide) hg m1 dX12_lays_11 ?_
  refine zV_aload_n 0 dX12_lays_12 rfl rfl ?_
  refine zV_getR (j := 212) (zq_200 hZ) zf_X12_11 zkf_X12_16 rfl dX12_lays_13 ?_
  refine zV_iload_n 2 dX12_lays_16 rfl rfl ?_
  refine zV_aload_n 0 dX12_lays_17 rfl rfl ?_
  refine zV_getR (j := 212) (zq_200 hZ) zf_X12_11 zkf_X12_16 rfl dX12_lays_18 ?_
  refine zV_iload_n 1 dX12_lays_21 rfl rfl ?_
  obtain ⟨hg, h⟩ := zs_gd h
  refine zV_iald (zq_212 hZ) hg dX12_lays_22 (fun m2 => ?_)
  obtain ⟨hg, h⟩ := zs_gd h
  refine zV_iast (zq_212 hZ) (by decide) hg m2 dX12_lays_23 ?_
  refine zV_aload_n 0 dX12_lays_24 rfl rfl ?_
  refine zV_getR (j := 213) (zq_200 hZ) zf_X12_12 zkf_X12_19 rfl dX12_lays_25 ?_
  refine zV_iload_n 2 dX12_lays_28 rfl rfl ?_
  refine zV_aload_n 0 dX12_lays_29 rfl rfl ?_
  refine zV_getR (j := 213) (zq_200 hZ) zf_X12_12 zkf_X12_19 rfl dX12_lays_30 ?_
  refine zV_iload_n 1 dX12_lays_33 rfl rfl ?_
  obtain ⟨hg, h⟩ := zs_gd h
  refine zV_iald (zq_213 hZ) hg dX12_lays_34 (fun m3 => ?_)
  obtain ⟨hg, h⟩ := zs_gd h
  refine zV_iast (zq_213 hZ) (by decide) hg m3 dX12_lays_35 ?_
  refine zV_iconst (v := 0) dX12_lays_36 rfl ?_
  refine zV_istore_n [(3, zI 0), (0, zR 200), (1, zI x1), (2, zI x2)] dX12_lays_37 rfl (by decide) rfl ?_
  refine zV_ls [1, 2, 3, 0] rfl ?_
  refine (zV_loop (Vh := fun s9 : Int × zMem => z32 (s9.1) → zV zmX12_lays nn 0 0 Z 38 [(0, zR 200), (1, zI x1), (2, zI x2), (3, zI (s9.1))] [] (s9.2) Q) h (fun s9 P10 hP11 hc12 he13 => ?_)) zi_0
  intro c14
  refine fX12_lays_l38_ok hZ hn hx1 hx2 c14 hP11 hc12 (fun s15 h16 d17 => ?_)
  have h := he13 _ h16
  refine zV_iconst (v := 0) dX12_lays_160 rfl ?_
  refine zV_istore_n [(3, zI 0), (0, zR 200), (1, zI x1), (2, zI x2)] dX12_lays_161 rfl (by decide) rfl ?_
  refine zV_ls [1, 2, 3, 0] rfl ?_
  refine (zV_loop (Vh := fun s23 : Int × zMem => z32 (s23.1) → zV zmX12_lays nn 0 0 Z 162 [(0, zR 200), (1, zI x1), (2, zI x2), (3, zI (s23.1))] [] (s23.2) Q) h (fun s23 P24 hP25 hc26 he27 => ?_)) zi_0
  intro c28
  refine fX12_lays_l162_ok hZ hn hx1 hx2 c28 hP25 hc26 (fun s29 h30 d31 => ?_)
  have h := he27 _ h30
  refine zV_iconst (v := 0) dX12_lays_284 rfl ?_
  refine zV_istore_n [(3, zI 0), (0, zR 200), (1, zI x1), (2, zI x2)] dX12_lays_285 rfl (by decide) rfl ?_
  refine zV_ls [1, 2, 3, 0] rfl ?_
  refine (zV_loop (Vh := fun s33 : Int × zMem => z32 (s33.1) → zV zmX12_lays nn 0 0 Z 286 [(0, zR 200), (1, zI x1), (2, zI x2), (3, zI (s33.1))] [] (s33.2) Q) h (fun s33 P34 hP35 hc36 he37 => ?_)) zi_0
  intro c38
  refine fX12_lays_l286_ok hZ hn hx1 hx2 c38 hP35 hc36 (fun s39 h40 d41 => ?_)
  have h := he37 _ h40
  refine zV_iconst (v := 0) dX12_lays_320 rfl ?_
  refine zV_istore_n [(3, zI 0), (0, zR 200), (1, zI x1), (2, zI x2)] dX12_lays_321 rfl (by decide) rfl ?_
  refine zV_ls [1, 2, 3, 0] rfl ?_
  refine (zV_loop (Vh := fun s44 : Int × zMem => z32 (s44.1) → zV zmX12_lays nn 0 0 Z 322 [(0, zR 200), (1, zI x1), (2, zI x2), (3, zI (s44.1))] [] (s44.2) Q) h (fun s44 P45 hP46 hc47 he48 => ?_)) zi_0
  intro c49
  refine fX12_lays_l322_ok hZ hn hx1 hx2 c49 hP46 hc47 (fun s50 h51 d52 => ?_)
  have h := he48 _ h51
  refine zV_iconst (v := 0) dX12_lays_389 rfl ?_
  refine zV_istore_n [(3, zI 0), (0, zR 200), (1, zI x1), (2, zI x2)] dX12_lays_390 rfl (by decide) rfl ?_
  refine zV_ls [1, 2, 3, 0] rfl ?_
  refine (zV_loop (Vh := fun s54 : Int × zMem => z32 (s54.1) → zV zmX12_lays nn 0 0 Z 391 [(0, zR 200), (1, zI x1), (2, zI x2), (3, zI (s54.1))] [] (s54.2) Q) h (fun s54 P55 hP56 hc57 he58 => ?_)) zi_0
  intro c59
  refine fX12_lays_l391_ok hZ hn hx1 hx2 c59 hP56 hc57 (fun s60 h61 d62 => ?_)
  have h := he58 _ h61
  exact zV_vret dX12_lays_428 rfl h
noncomputable def fX12_spindle_j77 (x1 x2 s0 s1 : Int) (M : zMem) : Option ((Int × Int × zMem) ⊕ (Int × Int × zMem)) :=
  some (.inl ((zw (s1 + s0)), (zw (x2 + 1)), M))
set_option maxRecDepth 100000 in
set_option maxHeartbeats 4000000 in
theorem fX12_spindle_j77_ok {Z : zZ} (hZ : zB Z) {nn : Nat} (hn : 5 ≤ nn)  {x1 x2 s0 s1 : Int} (hx1 : z32 x1) (hx2 : z32 x2) (hs0 : z32 s0) (hbs0 : s0 = 0 ∨ s0 = 1) (hs1 : z32 s1) {M : zMem} {Q : Option zAV → zMem → zZ → Prop} {P : (Int × Int × zMem) ⊕ (Int × Int × zMem) → Prop} (h : zSat (fX12_spindle_j77 x1 x2 s0 s1 M) P)  (hc : ∀ s : Int × Int × zMem, P (.inl s) → z32 (s.1) → z32 (s.2.1) → zV zmX12_spindle nn 0 0 Z 21 [(0, zR 200), (1, zI (s.1)), (2, zI (s.2.1))] [] (s.2.2) Q) (he : ∀ s : Int × Int × zMem, P (.inr s) → z32 (s.1) → z32 (s.2.1) → zV zmX12_spindle nn 0 0 Z 85 [(0, zR 200), (1, zI (s.1)), (2, zI (s.2.1))] [] (s.2.2) Q)   : zV zmX12_spindle nn 0 0 Z 77 [(0, zR 200), (1, zI x1), (2, zI x2)] [zI s0, zI s1] M Q := by
  unfold fX12_spindle_j77 at h
  refine zV_iadd dX12_spindle_77 ?_
  refine zV_w ?_
  refine zV_istore_n [(1, zI (zw (s1 + s0))), (0, zR 200), (2, zI x2)] dX12_spindle_78 rfl (by decide) rfl ?_
  refine zV_iinc 2 [(2, zI (zw (x2 + 1))), (1, zI (zw (s1 + s0))), (0, zR 200)] dX12_spindle_79 rfl rfl (by decide) rfl ?_
  refine zV_goto 21 dX12_spindle_82 (by decide) ?_
  refine zV_ls [2, 1, 0] rfl ?_
  exact hc _ h (z32_w _) (z32_w _)
noncomputable def fX12_spindle_j57 (x1 x2 s0 s1 : Int) (M : zMem) : Option ((Int × Int × zMem) ⊕ (Int × Int × zMem)) :=
  (zgd ((0 : Int) ≤ s1 ∧ s1 < 72) (zgd ((0 : Int) ≤ (12 + x2) ∧ (12 + x2) < 72) (if ((zup M 219 s1 s0) 218 (12 + x2)) = 3 then fX12_spindle_j77 x1 x2 0 x1 (zup M 219 s1 s0) else fX12_spindle_j77 x1 x2 1 x1 (zup M 219 s1 s0))))
set_option maxRecDepth 100000 in
set_option maxHeartbeats 4000000 in
theorem fX12_spindle_j57_ok {Z : zZ} (hZ : zB Z) {nn : Nat} (hn : 5 ≤ nn)  {x1 x2 s0 s1 : Int} (hx1 : z32 x1) (hx2 : z32 x2) (hs0 : z32 s0) (hs1 : z32 s1) {M : zMem} {Q : Option zAV → zMem → zZ → Prop} {P : (Int × Int × zMem) ⊕ (Int × Int × zMem) → Prop} (h : zSat (fX12_spindle_j57 x1 x2 s0 s1 M) P)  (hc : ∀ s : Int × Int × zMem, P (.inl s) → z32 (s.1) → z32 (s.2.1) → zV zmX12_spindle nn 0 0 Z 21 [(0, zR 200), (1, zI (s.1)), (2, zI (s.2.1))] [] (s.2.2) Q) (he : ∀ s : Int × Int × zMem, P (.inr s) → z32 (s.1) → z32 (s.2.1) → zV zmX12_spindle nn 0 0 Z 85 [(0, zR 200), (1, zI (s.1)), (2, zI (s.2.1))] [] (s.2.2) Q)   : zV zmX12_spindle nn 0 0 Z 57 [(0, zR 200), (1, zI x1), (2, zI x2)] [zI s0, zI s1, zR 219] M Q := by
  unfold fX12_spindle_j57 at h
  obtain ⟨hg, h⟩ := zs_gd h
  refine zV_iast (zq_219 hZ) (by decide) hg hs0 dX12_spindle_57 ?_
  refine zV_iload_n 1 dX12_spindle_58 rfl rfl ?_
  refine zV_aload_n 0 dX12_spindle_59 rfl rfl ?_
  refine zV_getR (j := 218) (zq_200 hZ) zf_X12_17 zkf_X12_35 rfl dX12_spindle_60 ?_
  refine zV_bipush (v := 12) dX12_spindle_63 rfl ?_
  refine zV_iload_n 2 dX12_spindle_65 rfl rfl ?_
  refine zV_iadd dX12_spindle_66 ?_
  obtain ⟨hg, h⟩ := zs_gd h
  refine zV_iald (zq_218 hZ) hg dX12_spindle_67 (fun m7 => ?_)
  refine zV_iconst (v := 3) dX12_spindle_68 rfl ?_
  refine zV_icmp_ne 76 dX12_spindle_69 (by decide) m7 zi_3 (fun hc_ => ?_) (fun hc_ => ?_)
  · replace h := zs_f h hc_
    refine zV_iconst (v := 1) dX12_spindle_76 rfl ?_
    exact fX12_spindle_j77_ok hZ hn hx1 hx2 zi_1 (Or.inr rfl) hx1 h hc he
  · replace h := zs_t h hc_
    refine zV_iconst (v := 0) dX12_spindle_72 rfl ?_
    refine zV_goto 77 dX12_spindle_73 (by decide) ?_
    exact fX12_spindle_j77_ok hZ hn hx1 hx2 zi_0 (Or.inl rfl) hx1 h hc he
noncomputable def fX12_spindle_l21 (x1 x2 : Int) (M : zMem) : Option ((Int × Int × zMem) ⊕ (Int × Int × zMem)) :=
  (zgd ((0 : Int) ≤ (1 : Int) ∧ (1 : Int) < 6) (if (M 211 1) ≤ x2 then some (.inr (x1, x2, M)) else (zgd ((0 : Int) ≤ (12 + x2) ∧ (12 + x2) < 72) (if (M 218 (12 + x2)) = 3 then fX12_spindle_j57 x1 x2 (-1) (zw (12 + x2)) M else fX12_spindle_j57 x1 x2 x1 (zw (12 + x2)) M))))
set_option maxRecDepth 100000 in
set_option maxHeartbeats 4000000 in
theorem fX12_spindle_l21_ok {Z : zZ} (hZ : zB Z) {nn : Nat} (hn : 5 ≤ nn)  {x1 x2 : Int} (hx1 : z32 x1) (hx2 : z32 x2) {M : zMem} {Q : Option zAV → zMem → zZ → Prop} {P : (Int × Int × zMem) ⊕ (Int × Int × zMem) → Prop} (h : zSat (fX12_spindle_l21 x1 x2 M) P)  (hc : ∀ s : Int × Int × zMem, P (.inl s) → z32 (s.1) → z32 (s.2.1) → zV zmX12_spindle nn 0 0 Z 21 [(0, zR 200), (1, zI (s.1)), (2, zI (s.2.1))] [] (s.2.2) Q) (he : ∀ s : Int × Int × zMem, P (.inr s) → z32 (s.1) → z32 (s.2.1) → zV zmX12_spindle nn 0 0 Z 85 [(0, zR 200), (1, zI (s.1)), (2, zI (s.2.1))] [] (s.2.2) Q)   : zV zmX12_spindle nn 0 0 Z 21 [(0, zR 200), (1, zI x1), (2, zI x2)] [] M Q := by
  unfold fX12_spindle_l21 at h
  refine zV_iload_n 2 dX12_spindle_21 rfl rfl ?_
  refine zV_aload_n 0 dX12_spindle_22 rfl rfl ?_
  refine zV_getR (j := 211) (zq_200 hZ) zf_X12_10 zkf_X12_13 rfl dX12_spindle_23 ?_
  refine zV_iconst (v := 1) dX12_spindle_26 rfl ?_
  obtain ⟨hg, h⟩ := zs_gd h
  refine zV_iald (zq_211 hZ) hg dX12_spindle_27 (fun m5 => ?_)
  refine zV_icmp_ge 85 dX12_spindle_28 (by decide) hx2 m5 (fun hc_ => ?_) (fun hc_ => ?_)
  · replace h := zs_t h hc_
    exact he _ h hx1 hx2
  · replace h := zs_f h hc_
    refine zV_aload_n 0 dX12_spindle_31 rfl rfl ?_
    refine zV_getR (j := 219) (zq_200 hZ) zf_X12_18 zkf_X12_38 rfl dX12_spindle_32 ?_
    refine zV_bipush (v := 12) dX12_spindle_35 rfl ?_
    refine zV_iload_n 2 dX12_spindle_37 rfl rfl ?_
    refine zV_iadd dX12_spindle_38 ?_
    refine zV_aload_n 0 dX12_spindle_39 rfl rfl ?_
    refine zV_getR (j := 218) (zq_200 hZ) zf_X12_17 zkf_X12_35 rfl dX12_spindle_40 ?_
    refine zV_bipush (v := 12) dX12_spindle_43 rfl ?_
    refine zV_iload_n 2 dX12_spindle_45 rfl rfl ?_
    refine zV_iadd dX12_spindle_46 ?_
    obtain ⟨hg, h⟩ := zs_gd h
    refine zV_iald (zq_218 hZ) hg dX12_spindle_47 (fun m6 => ?_)
    refine zV_iconst (v := 3) dX12_spindle_48 rfl ?_
    refine zV_icmp_ne 56 dX12_spindle_49 (by decide) m6 zi_3 (fun hc_ => ?_) (fun hc_ => ?_)
    · replace h := zs_f h hc_
      refine zV_iload_n 1 dX12_spindle_56 rfl rfl ?_
      refine zV_w2 ?_
      exact fX12_spindle_j57_ok hZ hn hx1 hx2 hx1 (z32_w _) h hc he
    · replace h := zs_t h hc_
      refine zV_iconst (v := (-1)) dX12_spindle_52 rfl ?_
      refine zV_goto 57 dX12_spindle_53 (by decide) ?_
      refine zV_w2 ?_
      exact fX12_spindle_j57_ok hZ hn hx1 hx2 zi_n1 (z32_w _) h hc he
noncomputable def fX12_spindle (M : zMem) : Option (Int × zMem) :=
  (zbd2 (fX12_readsAll (zup M 200 0 0)) fun r1 M4 => (if r1 = 0 then some ((M4 200 9), M4) else (zbd (zit (fun s8 => fX12_spindle_l21 (s8.1) (s8.2.1) (s8.2.2)) (0, 0, M4)) fun s15 => (zbd (fX12_lays 1 0 (s15.2.2)) fun M22 => some (0, (zup M22 200 43 0))))))
set_option maxRecDepth 100000 in
set_option maxHeartbeats 4000000 in
theorem fX12_spindle_ok {Z : zZ} (hZ : zB Z) {nn : Nat} (hn : 5 ≤ nn)   {M : zMem} {Q : Option zAV → zMem → zZ → Prop} (h : zSat (fX12_spindle M) (fun r => Q (some (zI r.1)) r.2 Z))  : zV zmX12_spindle nn 0 0 Z 0 [(0, zR 200)] [] M Q := by
  unfold fX12_spindle at h
  refine zV_aload_n 0 dX12_spindle_0 rfl rfl ?_
  refine zV_iconst (v := 0) dX12_spindle_1 rfl ?_
  refine zV_putI (zq_200 hZ) (by decide) zf_X12_0 zkf_X12_157 rfl dX12_spindle_2 zi_0 ?_
  refine zV_aload_n 0 dX12_spindle_5 rfl rfl ?_
  refine zV_cVIm (y' := zmX12_readsAll) (n' := 4) (As := []) zc_X12_336 (zq_200 hZ) rfl dX12_spindle_6 (Nat.le_trans (by decide) hn) rfl (Nat.le_of_ble_eq_true rfl) (Nat.le_of_ble_eq_true rfl) rfl h (fun Q' h' => fX12_readsAll_ok hZ (Nat.le_refl _)  h') (fun r1 M4 c2 b3 h => ?_)
  refine zV_if_ne 17 dX12_spindle_9 (by decide) c2 (fun hc_ => ?_) (fun hc_ => ?_)
  · replace h := zs_f h hc_
    refine zV_iconst (v := 0) dX12_spindle_17 rfl ?_
    refine zV_istore_n [(1, zI 0), (0, zR 200)] dX12_spindle_18 rfl (by decide) rfl ?_
    refine zV_iconst (v := 0) dX12_spindle_19 rfl ?_
    refine zV_istore_n [(2, zI 0), (1, zI 0), (0, zR 200)] dX12_spindle_20 rfl (by decide) rfl ?_
    refine zV_ls [2, 1, 0] rfl ?_
    refine (zV_loop (Vh := fun s8 : Int × Int × zMem => z32 (s8.1) → z32 (s8.2.1) → zV zmX12_spindle nn 0 0 Z 21 [(0, zR 200), (1, zI (s8.1)), (2, zI (s8.2.1))] [] (s8.2.2) Q) h (fun s8 P9 hP10 hc11 he12 => ?_)) zi_0 zi_0
    intro c13 c14
    refine fX12_spindle_l21_ok hZ hn c13 c14 hP10 hc11 (fun s15 h16 d17 d18 => ?_)
    have h := he12 _ h16
    refine zV_aload_n 0 dX12_spindle_85 rfl rfl ?_
    refine zV_iconst (v := 1) dX12_spindle_86 rfl ?_
    refine zV_iconst (v := 0) dX12_spindle_87 rfl ?_
    refine zV_cVV (y' := zmX12_lays) (n' := 0) (As := [zI 1, zI 0]) zc_X12_339 (zq_200 hZ) rfl dX12_spindle_88 (Nat.le_trans (by decide) hn) rfl (Nat.le_of_ble_eq_true rfl) (Nat.le_of_ble_eq_true rfl) rfl h (fun Q' h' => fX12_lays_ok hZ (Nat.le_refl _) zi_1 zi_0 h') (fun M22 h => ?_)
    refine zV_aload_n 0 dX12_spindle_91 rfl rfl ?_
    refine zV_iconst (v := 0) dX12_spindle_92 rfl ?_
    refine zV_putI (zq_200 hZ) (by decide) zf_X12_43 zkf_X12_343 rfl dX12_spindle_93 zi_0 ?_
    refine zV_iconst (v := 0) dX12_spindle_96 rfl ?_
    exact zV_ireti dX12_spindle_97 rfl zi_0 h
  · replace h := zs_t h hc_
    refine zV_aload_n 0 dX12_spindle_12 rfl rfl ?_
    refine zV_getI (zq_200 hZ) zf_X12_9 zkf_X12_192 rfl dX12_spindle_13 (fun m23 => ?_)
    exact zV_ireti dX12_spindle_16 rfl m23 h
noncomputable def fX12_isBowl (x1 : Int) (M : zMem) : Option (Int) :=
  (if x1 < 0 then some 0 else (zgd ((0 : Int) ≤ (0 : Int) ∧ (0 : Int) < 6) (if (M 211 0) ≤ x1 then some 0 else some 1)))
set_option maxRecDepth 100000 in
set_option maxHeartbeats 4000000 in
theorem fX12_isBowl_ok {Z : zZ} (hZ : zB Z) {nn : Nat} (hn : 0 ≤ nn)  {x1 : Int} (hx1 : z32 x1) {M : zMem} {Q : Option zAV → zMem → zZ → Prop} (h : zSat (fX12_isBowl x1 M) (fun r => Q (some (zI r)) M Z))  : zV zmX12_isBowl nn 0 0 Z 0 [(0, zR 200), (1, zI x1)] [] M Q := by
  unfold fX12_isBowl at h
  refine zV_iload_n 1 dX12_isBowl_0 rfl rfl ?_
  refine zV_if_lt 18 dX12_isBowl_1 (by decide) hx1 (fun hc_ => ?_) (fun hc_ => ?_)
  · replace h := zs_t h hc_
    refine zV_iconst (v := 0) dX12_isBowl_18 rfl ?_
    exact zV_iretb dX12_isBowl_19 rfl (Or.inl rfl) h
  · replace h := zs_f h hc_
    refine zV_iload_n 1 dX12_isBowl_4 rfl rfl ?_
    refine zV_aload_n 0 dX12_isBowl_5 rfl rfl ?_
    refine zV_getR (j := 211) (zq_200 hZ) zf_X12_10 zkf_X12_13 rfl dX12_isBowl_6 ?_
    refine zV_iconst (v := 0) dX12_isBowl_9 rfl ?_
    obtain ⟨hg, h⟩ := zs_gd h
    refine zV_iald (zq_211 hZ) hg dX12_isBowl_10 (fun m1 => ?_)
    refine zV_icmp_ge 18 dX12_isBowl_11 (by decide) hx1 m1 (fun hc_ => ?_) (fun hc_ => ?_)
    · replace h := zs_t h hc_
      refine zV_iconst (v := 0) dX12_isBowl_18 rfl ?_
      exact zV_iretb dX12_isBowl_19 rfl (Or.inl rfl) h
    · replace h := zs_f h hc_
      refine zV_iconst (v := 1) dX12_isBowl_14 rfl ?_
      refine zV_goto 19 dX12_isBowl_15 (by decide) ?_
      exact zV_iretb dX12_isBowl_19 rfl (Or.inr rfl) h
noncomputable def fX12_isPlaced (x1 : Int) (M : zMem) : Option (Int) :=
  (zbd (fX12_isBowl x1 M) fun r1 => (if r1 = 0 then some 0 else (zgd ((0 : Int) ≤ x1 ∧ x1 < 72) (if (M 219 x1) < 0 then some 0 else some 1))))
set_option maxRecDepth 100000 in
set_option maxHeartbeats 4000000 in
theorem fX12_isPlaced_ok {Z : zZ} (hZ : zB Z) {nn : Nat} (hn : 1 ≤ nn)  {x1 : Int} (hx1 : z32 x1) {M : zMem} {Q : Option zAV → zMem → zZ → Prop} (h : zSat (fX12_isPlaced x1 M) (fun r => Q (some (zI r)) M Z))  : zV zmX12_isPlaced nn 0 0 Z 0 [(0, zR 200), (1, zI x1)] [] M Q := by
  unfold fX12_isPlaced at h
  refine zV_aload_n 0 dX12_isPlaced_0 rfl rfl ?_
  refine zV_iload_n 1 dX12_isPlaced_1 rfl rfl ?_
  refine zV_cVI (y' := zmX12_isBowl) (n' := 0) (As := [zI x1]) zc_X12_346 (zq_200 hZ) rfl dX12_isPlaced_2 (Nat.le_trans (by decide) hn) rfl (Nat.le_of_ble_eq_true rfl) (Nat.le_of_ble_eq_true rfl) rfl h (fun Q' h' => fX12_isBowl_ok hZ (Nat.le_refl _) hx1 h') (fun r1 c2 b3 h => ?_)
  refine zV_if_eq 21 dX12_isPlaced_5 (by decide) c2 (fun hc_ => ?_) (fun hc_ => ?_)
  · replace h := zs_t h hc_
    refine zV_iconst (v := 0) dX12_isPlaced_21 rfl ?_
    exact zV_iretb dX12_isPlaced_22 rfl (Or.inl rfl) h
  · replace h := zs_f h hc_
    refine zV_aload_n 0 dX12_isPlaced_8 rfl rfl ?_
    refine zV_getR (j := 219) (zq_200 hZ) zf_X12_18 zkf_X12_38 rfl dX12_isPlaced_9 ?_
    refine zV_iload_n 1 dX12_isPlaced_12 rfl rfl ?_
    obtain ⟨hg, h⟩ := zs_gd h
    refine zV_iald (zq_219 hZ) hg dX12_isPlaced_13 (fun m5 => ?_)
    refine zV_if_lt 21 dX12_isPlaced_14 (by decide) m5 (fun hc_ => ?_) (fun hc_ => ?_)
    · replace h := zs_t h hc_
      refine zV_iconst (v := 0) dX12_isPlaced_21 rfl ?_
      exact zV_iretb dX12_isPlaced_22 rfl (Or.inl rfl) h
    · replace h := zs_f h hc_
      refine zV_iconst (v := 1) dX12_isPlaced_17 rfl ?_
      refine zV_goto 22 dX12_isPlaced_18 (by decide) ?_
      exact zV_iretb dX12_isPlaced_22 rfl (Or.inr rfl) h
noncomputable def fX12_placed_j29 (x1 x2 s0 s1 : Int) (M : zMem) : Option ((Int × Int) ⊕ (Int × Int)) :=
  some (.inl ((zw (s1 + s0)), (zw (x2 + 1))))
set_option maxRecDepth 100000 in
set_option maxHeartbeats 4000000 in
theorem fX12_placed_j29_ok {Z : zZ} (hZ : zB Z) {nn : Nat} (hn : 0 ≤ nn)  {x1 x2 s0 s1 : Int} (hx1 : z32 x1) (hx2 : z32 x2) (hs0 : z32 s0) (hbs0 : s0 = 0 ∨ s0 = 1) (hs1 : z32 s1) {M : zMem} {Q : Option zAV → zMem → zZ → Prop} {P : (Int × Int) ⊕ (Int × Int) → Prop} (h : zSat (fX12_placed_j29 x1 x2 s0 s1 M) P)  (hc : ∀ s : Int × Int, P (.inl s) → z32 (s.1) → z32 (s.2) → zV zmX12_placed nn 0 0 Z 4 [(0, zR 200), (1, zI (s.1)), (2, zI (s.2))] [] M Q) (he : ∀ s : Int × Int, P (.inr s) → z32 (s.1) → z32 (s.2) → zV zmX12_placed nn 0 0 Z 37 [(0, zR 200), (1, zI (s.1)), (2, zI (s.2))] [] M Q)   : zV zmX12_placed nn 0 0 Z 29 [(0, zR 200), (1, zI x1), (2, zI x2)] [zI s0, zI s1] M Q := by
  unfold fX12_placed_j29 at h
  refine zV_iadd dX12_placed_29 ?_
  refine zV_w ?_
  refine zV_istore_n [(1, zI (zw (s1 + s0))), (0, zR 200), (2, zI x2)] dX12_placed_30 rfl (by decide) rfl ?_
  refine zV_iinc 2 [(2, zI (zw (x2 + 1))), (1, zI (zw (s1 + s0))), (0, zR 200)] dX12_placed_31 rfl rfl (by decide) rfl ?_
  refine zV_goto 4 dX12_placed_34 (by decide) ?_
  refine zV_ls [2, 1, 0] rfl ?_
  exact hc _ h (z32_w _) (z32_w _)
noncomputable def fX12_placed_l4 (x1 x2 : Int) (M : zMem) : Option ((Int × Int) ⊕ (Int × Int)) :=
  (zgd ((0 : Int) ≤ (0 : Int) ∧ (0 : Int) < 6) (if (M 211 0) ≤ x2 then some (.inr (x1, x2)) else (zgd ((0 : Int) ≤ x2 ∧ x2 < 72) (if (M 219 x2) < 0 then fX12_placed_j29 x1 x2 0 x1 M else fX12_placed_j29 x1 x2 1 x1 M))))
set_option maxRecDepth 100000 in
set_option maxHeartbeats 4000000 in
theorem fX12_placed_l4_ok {Z : zZ} (hZ : zB Z) {nn : Nat} (hn : 0 ≤ nn)  {x1 x2 : Int} (hx1 : z32 x1) (hx2 : z32 x2) {M : zMem} {Q : Option zAV → zMem → zZ → Prop} {P : (Int × Int) ⊕ (Int × Int) → Prop} (h : zSat (fX12_placed_l4 x1 x2 M) P)  (hc : ∀ s : Int × Int, P (.inl s) → z32 (s.1) → z32 (s.2) → zV zmX12_placed nn 0 0 Z 4 [(0, zR 200), (1, zI (s.1)), (2, zI (s.2))] [] M Q) (he : ∀ s : Int × Int, P (.inr s) → z32 (s.1) → z32 (s.2) → zV zmX12_placed nn 0 0 Z 37 [(0, zR 200), (1, zI (s.1)), (2, zI (s.2))] [] M Q)   : zV zmX12_placed nn 0 0 Z 4 [(0, zR 200), (1, zI x1), (2, zI x2)] [] M Q := by
  unfold fX12_placed_l4 at h
  refine zV_iload_n 2 dX12_placed_4 rfl rfl ?_
  refine zV_aload_n 0 dX12_placed_5 rfl rfl ?_
  refine zV_getR (j := 211) (zq_200 hZ) zf_X12_10 zkf_X12_13 rfl dX12_placed_6 ?_
  refine zV_iconst (v := 0) dX12_placed_9 rfl ?_
  obtain ⟨hg, h⟩ := zs_gd h
  refine zV_iald (zq_211 hZ) hg dX12_placed_10 (fun m1 => ?_)
  refine zV_icmp_ge 37 dX12_placed_11 (by decide) hx2 m1 (fun hc_ => ?_) (fun hc_ => ?_)
  · replace h := zs_t h hc_
    exact he _ h hx1 hx2
  · replace h := zs_f h hc_
    refine zV_iload_n 1 dX12_placed_14 rfl rfl ?_
    refine zV_aload_n 0 dX12_placed_15 rfl rfl ?_
    refine zV_getR (j := 219) (zq_200 hZ) zf_X12_18 zkf_X12_38 rfl dX12_placed_16 ?_
    refine zV_iload_n 2 dX12_placed_19 rfl rfl ?_
    obtain ⟨hg, h⟩ := zs_gd h
    refine zV_iald (zq_219 hZ) hg dX12_placed_20 (fun m2 => ?_)
    refine zV_if_lt 28 dX12_placed_21 (by decide) m2 (fun hc_ => ?_) (fun hc_ => ?_)
    · replace h := zs_t h hc_
      refine zV_iconst (v := 0) dX12_placed_28 rfl ?_
      exact fX12_placed_j29_ok hZ hn hx1 hx2 zi_0 (Or.inl rfl) hx1 h hc he
    · replace h := zs_f h hc_
      refine zV_iconst (v := 1) dX12_placed_24 rfl ?_
      refine zV_goto 29 dX12_placed_25 (by decide) ?_
      exact fX12_placed_j29_ok hZ hn hx1 hx2 zi_1 (Or.inr rfl) hx1 h hc he
noncomputable def fX12_placed (M : zMem) : Option (Int) :=
  (zbd (zit (fun s3 => fX12_placed_l4 (s3.1) (s3.2) M) (0, 0)) fun s10 => some (s10.1))
set_option maxRecDepth 100000 in
set_option maxHeartbeats 4000000 in
theorem fX12_placed_ok {Z : zZ} (hZ : zB Z) {nn : Nat} (hn : 0 ≤ nn)   {M : zMem} {Q : Option zAV → zMem → zZ → Prop} (h : zSat (fX12_placed M) (fun r => Q (some (zI r)) M Z))  : zV zmX12_placed nn 0 0 Z 0 [(0, zR 200)] [] M Q := by
  unfold fX12_placed at h
  refine zV_iconst (v := 0) dX12_placed_0 rfl ?_
  refine zV_istore_n [(1, zI 0), (0, zR 200)] dX12_placed_1 rfl (by decide) rfl ?_
  refine zV_iconst (v := 0) dX12_placed_2 rfl ?_
  refine zV_istore_n [(2, zI 0), (1, zI 0), (0, zR 200)] dX12_placed_3 rfl (by decide) rfl ?_
  refine zV_ls [2, 1, 0] rfl ?_
  refine (zV_loop (Vh := fun s3 : Int × Int => z32 (s3.1) → z32 (s3.2) → zV zmX12_placed nn 0 0 Z 4 [(0, zR 200), (1, zI (s3.1)), (2, zI (s3.2))] [] M Q) h (fun s3 P4 hP5 hc6 he7 => ?_)) zi_0 zi_0
  intro c8 c9
  refine fX12_placed_l4_ok hZ hn c8 c9 hP5 hc6 (fun s10 h11 d12 d13 => ?_)
  have h := he7 _ h11
  refine zV_iload_n 1 dX12_placed_37 rfl rfl ?_
  exact zV_ireti dX12_placed_38 rfl d12 h
noncomputable def fX12_bowl (x1 x2 : Int) (M : zMem) : Option (Int × zMem) :=
  (zbd (fX12_isBowl x1 (zup M 200 0 0)) fun r1 => (if r1 = 0 then some ((-1), (zup M 200 0 0)) else (zbd (fX12_isFrom x2 0 4 (zup M 200 0 0)) fun r5 => (if r5 = 0 then some ((-1), (zup M 200 0 0)) else (if x2 = 0 then (zgd ((0 : Int) ≤ x1 ∧ x1 < 72) (some (((zup M 200 0 0) 215 x1), (zup M 200 0 0)))) else (if x2 = 1 then (zgd ((0 : Int) ≤ x1 ∧ x1 < 72) (some (((zup M 200 0 0) 216 x1), (zup M 200 0 0)))) else (if x2 = 2 then (zgd ((0 : Int) ≤ x1 ∧ x1 < 72) (some (((zup M 200 0 0) 217 x1), (zup M 200 0 0)))) else (if x2 = 3 then (zgd ((0 : Int) ≤ x1 ∧ x1 < 72) (some (((zup M 200 0 0) 218 x1), (zup M 200 0 0)))) else (zgd ((0 : Int) ≤ x1 ∧ x1 < 72) (some (((zup M 200 0 0) 219 x1), (zup M 200 0 0))))))))))))
set_option maxRecDepth 100000 in
set_option maxHeartbeats 4000000 in
theorem fX12_bowl_ok {Z : zZ} (hZ : zB Z) {nn : Nat} (hn : 1 ≤ nn)  {x1 x2 : Int} (hx1 : z32 x1) (hx2 : z32 x2) {M : zMem} {Q : Option zAV → zMem → zZ → Prop} (h : zSat (fX12_bowl x1 x2 M) (fun r => Q (some (zI r.1)) r.2 Z))  : zV zmX12_bowl nn 0 0 Z 0 [(0, zR 200), (1, zI x1), (2, zI x2)] [] M Q := by
  unfold fX12_bowl at h
  refine zV_aload_n 0 dX12_bowl_0 rfl rfl ?_
  refine zV_iconst (v := 0) dX12_bowl_1 rfl ?_
  refine zV_putI (zq_200 hZ) (by decide) zf_X12_0 zkf_X12_157 rfl dX12_bowl_2 zi_0 ?_
  refine zV_aload_n 0 dX12_bowl_5 rfl rfl ?_
  refine zV_iload_n 1 dX12_bowl_6 rfl rfl ?_
  refine zV_cVI (y' := zmX12_isBowl) (n' := 0) (As := [zI x1]) zc_X12_346 (zq_200 hZ) rfl dX12_bowl_7 (Nat.le_trans (by decide) hn) rfl (Nat.le_of_ble_eq_true rfl) (Nat.le_of_ble_eq_true rfl) rfl h (fun Q' h' => fX12_isBowl_ok hZ (Nat.le_refl _) hx1 h') (fun r1 c2 b3 h => ?_)
  refine zV_if_eq 22 dX12_bowl_10 (by decide) c2 (fun hc_ => ?_) (fun hc_ => ?_)
  · replace h := zs_t h hc_
    refine zV_iconst (v := (-1)) dX12_bowl_22 rfl ?_
    exact zV_ireti dX12_bowl_23 rfl zi_n1 h
  · replace h := zs_f h hc_
    refine zV_iload_n 2 dX12_bowl_13 rfl rfl ?_
    refine zV_iconst (v := 0) dX12_bowl_14 rfl ?_
    refine zV_iconst (v := 4) dX12_bowl_15 rfl ?_
    refine zV_cSI (y' := zmX12_isFrom) (n' := 0) (As := [zI x2, zI 0, zI 4]) zc_X12_287 dX12_bowl_16 (Nat.le_trans (by decide) hn) rfl (Nat.le_of_ble_eq_true rfl) (Nat.le_of_ble_eq_true rfl) rfl h (fun Q' h' => fX12_isFrom_ok hZ (Nat.le_refl _) hx2 zi_0 zi_4 h') (fun r5 c6 b7 h => ?_)
    refine zV_if_ne 24 dX12_bowl_19 (by decide) c6 (fun hc_ => ?_) (fun hc_ => ?_)
    · replace h := zs_f h hc_
      refine zV_iload_n 2 dX12_bowl_24 rfl rfl ?_
      refine zV_if_ne 37 dX12_bowl_25 (by decide) hx2 (fun hc_ => ?_) (fun hc_ => ?_)
      · replace h := zs_f h hc_
        refine zV_iload_n 2 dX12_bowl_37 rfl rfl ?_
        refine zV_iconst (v := 1) dX12_bowl_38 rfl ?_
        refine zV_icmp_ne 51 dX12_bowl_39 (by decide) hx2 zi_1 (fun hc_ => ?_) (fun hc_ => ?_)
        · replace h := zs_f h hc_
          refine zV_iload_n 2 dX12_bowl_51 rfl rfl ?_
          refine zV_iconst (v := 2) dX12_bowl_52 rfl ?_
          refine zV_icmp_ne 65 dX12_bowl_53 (by decide) hx2 zi_2 (fun hc_ => ?_) (fun hc_ => ?_)
          · replace h := zs_f h hc_
            refine zV_iload_n 2 dX12_bowl_65 rfl rfl ?_
            refine zV_iconst (v := 3) dX12_bowl_66 rfl ?_
            refine zV_icmp_ne 79 dX12_bowl_67 (by decide) hx2 zi_3 (fun hc_ => ?_) (fun hc_ => ?_)
            · replace h := zs_f h hc_
              refine zV_aload_n 0 dX12_bowl_79 rfl rfl ?_
              refine zV_getR (j := 219) (zq_200 hZ) zf_X12_18 zkf_X12_38 rfl dX12_bowl_80 ?_
              refine zV_iload_n 1 dX12_bowl_83 rfl rfl ?_
              obtain ⟨hg, h⟩ := zs_gd h
              refine zV_iald (zq_219 hZ) hg dX12_bowl_84 (fun m9 => ?_)
              exact zV_ireti dX12_bowl_85 rfl m9 h
            · replace h := zs_t h hc_
              refine zV_aload_n 0 dX12_bowl_70 rfl rfl ?_
              refine zV_getR (j := 218) (zq_200 hZ) zf_X12_17 zkf_X12_35 rfl dX12_bowl_71 ?_
              refine zV_iload_n 1 dX12_bowl_74 rfl rfl ?_
              obtain ⟨hg, h⟩ := zs_gd h
              refine zV_iald (zq_218 hZ) hg dX12_bowl_75 (fun m10 => ?_)
              refine zV_goto 85 dX12_bowl_76 (by decide) ?_
              exact zV_ireti dX12_bowl_85 rfl m10 h
          · replace h := zs_t h hc_
            refine zV_aload_n 0 dX12_bowl_56 rfl rfl ?_
            refine zV_getR (j := 217) (zq_200 hZ) zf_X12_16 zkf_X12_32 rfl dX12_bowl_57 ?_
            refine zV_iload_n 1 dX12_bowl_60 rfl rfl ?_
            obtain ⟨hg, h⟩ := zs_gd h
            refine zV_iald (zq_217 hZ) hg dX12_bowl_61 (fun m11 => ?_)
            refine zV_goto 85 dX12_bowl_62 (by decide) ?_
            exact zV_ireti dX12_bowl_85 rfl m11 h
        · replace h := zs_t h hc_
          refine zV_aload_n 0 dX12_bowl_42 rfl rfl ?_
          refine zV_getR (j := 216) (zq_200 hZ) zf_X12_15 zkf_X12_29 rfl dX12_bowl_43 ?_
          refine zV_iload_n 1 dX12_bowl_46 rfl rfl ?_
          obtain ⟨hg, h⟩ := zs_gd h
          refine zV_iald (zq_216 hZ) hg dX12_bowl_47 (fun m12 => ?_)
          refine zV_goto 85 dX12_bowl_48 (by decide) ?_
          exact zV_ireti dX12_bowl_85 rfl m12 h
      · replace h := zs_t h hc_
        refine zV_aload_n 0 dX12_bowl_28 rfl rfl ?_
        refine zV_getR (j := 215) (zq_200 hZ) zf_X12_14 zkf_X12_26 rfl dX12_bowl_29 ?_
        refine zV_iload_n 1 dX12_bowl_32 rfl rfl ?_
        obtain ⟨hg, h⟩ := zs_gd h
        refine zV_iald (zq_215 hZ) hg dX12_bowl_33 (fun m13 => ?_)
        refine zV_goto 85 dX12_bowl_34 (by decide) ?_
        exact zV_ireti dX12_bowl_85 rfl m13 h
    · replace h := zs_t h hc_
      refine zV_iconst (v := (-1)) dX12_bowl_22 rfl ?_
      exact zV_ireti dX12_bowl_23 rfl zi_n1 h
noncomputable def fX12_isNote (x1 : Int) (M : zMem) : Option (Int) :=
  (if x1 < 0 then some 0 else (if (M 200 43) ≤ x1 then some 0 else some 1))
set_option maxRecDepth 100000 in
set_option maxHeartbeats 4000000 in
theorem fX12_isNote_ok {Z : zZ} (hZ : zB Z) {nn : Nat} (hn : 0 ≤ nn)  {x1 : Int} (hx1 : z32 x1) {M : zMem} {Q : Option zAV → zMem → zZ → Prop} (h : zSat (fX12_isNote x1 M) (fun r => Q (some (zI r)) M Z))  : zV zmX12_isNote nn 0 0 Z 0 [(0, zR 200), (1, zI x1)] [] M Q := by
  unfold fX12_isNote at h
  refine zV_iload_n 1 dX12_isNote_0 rfl rfl ?_
  refine zV_if_lt 16 dX12_isNote_1 (by decide) hx1 (fun hc_ => ?_) (fun hc_ => ?_)
  · replace h := zs_t h hc_
    refine zV_iconst (v := 0) dX12_isNote_16 rfl ?_
    exact zV_iretb dX12_isNote_17 rfl (Or.inl rfl) h
  · replace h := zs_f h hc_
    refine zV_iload_n 1 dX12_isNote_4 rfl rfl ?_
    refine zV_aload_n 0 dX12_isNote_5 rfl rfl ?_
    refine zV_getI (zq_200 hZ) zf_X12_43 zkf_X12_343 rfl dX12_isNote_6 (fun m1 => ?_)
    refine zV_icmp_ge 16 dX12_isNote_9 (by decide) hx1 m1 (fun hc_ => ?_) (fun hc_ => ?_)
    · replace h := zs_t h hc_
      refine zV_iconst (v := 0) dX12_isNote_16 rfl ?_
      exact zV_iretb dX12_isNote_17 rfl (Or.inl rfl) h
    · replace h := zs_f h hc_
      refine zV_iconst (v := 1) dX12_isNote_12 rfl ?_
      refine zV_goto 17 dX12_isNote_13 (by decide) ?_
      exact zV_iretb dX12_isNote_17 rfl (Or.inr rfl) h
noncomputable def fX12_isBeat (x0 : Int) (M : zMem) : Option (Int) :=
  (if x0 < 0 then some 0 else (if 200 ≤ x0 then some 0 else some 1))
set_option maxRecDepth 100000 in
set_option maxHeartbeats 4000000 in
theorem fX12_isBeat_ok {Z : zZ} (hZ : zB Z) {nn : Nat} (hn : 0 ≤ nn)  {x0 : Int} (hx0 : z32 x0) {M : zMem} {Q : Option zAV → zMem → zZ → Prop} (h : zSat (fX12_isBeat x0 M) (fun r => Q (some (zI r)) M Z))  : zV zmX12_isBeat nn 0 0 Z 0 [(0, zI x0)] [] M Q := by
  unfold fX12_isBeat at h
  refine zV_iload_n 0 dX12_isBeat_0 rfl rfl ?_
  refine zV_if_lt 15 dX12_isBeat_1 (by decide) hx0 (fun hc_ => ?_) (fun hc_ => ?_)
  · replace h := zs_t h hc_
    refine zV_iconst (v := 0) dX12_isBeat_15 rfl ?_
    exact zV_iretb dX12_isBeat_16 rfl (Or.inl rfl) h
  · replace h := zs_f h hc_
    refine zV_iload_n 0 dX12_isBeat_4 rfl rfl ?_
    refine zV_sipush (v := 200) dX12_isBeat_5 rfl ?_
    refine zV_icmp_ge 15 dX12_isBeat_8 (by decide) hx0 zi_200 (fun hc_ => ?_) (fun hc_ => ?_)
    · replace h := zs_t h hc_
      refine zV_iconst (v := 0) dX12_isBeat_15 rfl ?_
      exact zV_iretb dX12_isBeat_16 rfl (Or.inl rfl) h
    · replace h := zs_f h hc_
      refine zV_iconst (v := 1) dX12_isBeat_11 rfl ?_
      refine zV_goto 16 dX12_isBeat_12 (by decide) ?_
      exact zV_iretb dX12_isBeat_16 rfl (Or.inr rfl) h
noncomputable def fX12_isFinger (x1 : Int) (M : zMem) : Option (Int) :=
  (if x1 < (-1) then some 0 else (zgd ((0 : Int) ≤ (1 : Int) ∧ (1 : Int) < 66) (if (zw (2 * (M 225 1))) ≤ x1 then some 0 else some 1)))
set_option maxRecDepth 100000 in
set_option maxHeartbeats 4000000 in
theorem fX12_isFinger_ok {Z : zZ} (hZ : zB Z) {nn : Nat} (hn : 0 ≤ nn)  {x1 : Int} (hx1 : z32 x1) {M : zMem} {Q : Option zAV → zMem → zZ → Prop} (h : zSat (fX12_isFinger x1 M) (fun r => Q (some (zI r)) M Z))  : zV zmX12_isFinger nn 0 0 Z 0 [(0, zR 200), (1, zI x1)] [] M Q := by
  unfold fX12_isFinger at h
  refine zV_iload_n 1 dX12_isFinger_0 rfl rfl ?_
  refine zV_iconst (v := (-1)) dX12_isFinger_1 rfl ?_
  refine zV_icmp_lt 21 dX12_isFinger_2 (by decide) hx1 zi_n1 (fun hc_ => ?_) (fun hc_ => ?_)
  · replace h := zs_t h hc_
    refine zV_iconst (v := 0) dX12_isFinger_21 rfl ?_
    exact zV_iretb dX12_isFinger_22 rfl (Or.inl rfl) h
  · replace h := zs_f h hc_
    refine zV_iload_n 1 dX12_isFinger_5 rfl rfl ?_
    refine zV_iconst (v := 2) dX12_isFinger_6 rfl ?_
    refine zV_aload_n 0 dX12_isFinger_7 rfl rfl ?_
    refine zV_getR (j := 225) (zq_200 hZ) zf_X12_24 zkf_X12_56 rfl dX12_isFinger_8 ?_
    refine zV_iconst (v := 1) dX12_isFinger_11 rfl ?_
    obtain ⟨hg, h⟩ := zs_gd h
    refine zV_iald (zq_225 hZ) hg dX12_isFinger_12 (fun m1 => ?_)
    refine zV_imul dX12_isFinger_13 ?_
    refine zV_w ?_
    refine zV_icmp_ge 21 dX12_isFinger_14 (by decide) hx1 (z32_w _) (fun hc_ => ?_) (fun hc_ => ?_)
    · replace h := zs_t h hc_
      refine zV_iconst (v := 0) dX12_isFinger_21 rfl ?_
      exact zV_iretb dX12_isFinger_22 rfl (Or.inl rfl) h
    · replace h := zs_f h hc_
      refine zV_iconst (v := 1) dX12_isFinger_17 rfl ?_
      refine zV_goto 22 dX12_isFinger_18 (by decide) ?_
      exact zV_iretb dX12_isFinger_22 rfl (Or.inr rfl) h
noncomputable def fX12_endOf (x1 : Int) (M : zMem) : Option (Int) :=
  (zgd ((0 : Int) ≤ x1 ∧ x1 < 120) (zgd ((0 : Int) ≤ x1 ∧ x1 < 120) (some (zw ((M 246 x1) + (M 247 x1))))))
set_option maxRecDepth 100000 in
set_option maxHeartbeats 4000000 in
theorem fX12_endOf_ok {Z : zZ} (hZ : zB Z) {nn : Nat} (hn : 0 ≤ nn)  {x1 : Int} (hx1 : z32 x1) {M : zMem} {Q : Option zAV → zMem → zZ → Prop} (h : zSat (fX12_endOf x1 M) (fun r => Q (some (zI r)) M Z))  : zV zmX12_endOf nn 0 0 Z 0 [(0, zR 200), (1, zI x1)] [] M Q := by
  unfold fX12_endOf at h
  refine zV_aload_n 0 dX12_endOf_0 rfl rfl ?_
  refine zV_getR (j := 246) (zq_200 hZ) zf_X12_45 zkf_X12_111 rfl dX12_endOf_1 ?_
  refine zV_iload_n 1 dX12_endOf_4 rfl rfl ?_
  obtain ⟨hg, h⟩ := zs_gd h
  refine zV_iald (zq_246 hZ) hg dX12_endOf_5 (fun m1 => ?_)
  refine zV_aload_n 0 dX12_endOf_6 rfl rfl ?_
  refine zV_getR (j := 247) (zq_200 hZ) zf_X12_46 zkf_X12_114 rfl dX12_endOf_7 ?_
  refine zV_iload_n 1 dX12_endOf_10 rfl rfl ?_
  obtain ⟨hg, h⟩ := zs_gd h
  refine zV_iald (zq_247 hZ) hg dX12_endOf_11 (fun m2 => ?_)
  refine zV_iadd dX12_endOf_12 ?_
  refine zV_w ?_
  exact zV_ireti dX12_endOf_13 rfl (z32_w _) h
noncomputable def fX12_lasts (x1 x2 : Int) (M : zMem) : Option (Int) :=
  (zgd ((0 : Int) ≤ x1 ∧ x1 < 120) (if x2 < (M 246 x1) then some 0 else (zbd (fX12_endOf x1 M) fun r2 => (if r2 ≤ x2 then some 0 else some 1))))
set_option maxRecDepth 100000 in
set_option maxHeartbeats 4000000 in
theorem fX12_lasts_ok {Z : zZ} (hZ : zB Z) {nn : Nat} (hn : 1 ≤ nn)  {x1 x2 : Int} (hx1 : z32 x1) (hx2 : z32 x2) {M : zMem} {Q : Option zAV → zMem → zZ → Prop} (h : zSat (fX12_lasts x1 x2 M) (fun r => Q (some (zI r)) M Z))  : zV zmX12_lasts nn 0 0 Z 0 [(0, zR 200), (1, zI x1), (2, zI x2)] [] M Q := by
  unfold fX12_lasts at h
  refine zV_iload_n 2 dX12_lasts_0 rfl rfl ?_
  refine zV_aload_n 0 dX12_lasts_1 rfl rfl ?_
  refine zV_getR (j := 246) (zq_200 hZ) zf_X12_45 zkf_X12_111 rfl dX12_lasts_2 ?_
  refine zV_iload_n 1 dX12_lasts_5 rfl rfl ?_
  obtain ⟨hg, h⟩ := zs_gd h
  refine zV_iald (zq_246 hZ) hg dX12_lasts_6 (fun m1 => ?_)
  refine zV_icmp_lt 23 dX12_lasts_7 (by decide) hx2 m1 (fun hc_ => ?_) (fun hc_ => ?_)
  · replace h := zs_t h hc_
    refine zV_iconst (v := 0) dX12_lasts_23 rfl ?_
    exact zV_iretb dX12_lasts_24 rfl (Or.inl rfl) h
  · replace h := zs_f h hc_
    refine zV_iload_n 2 dX12_lasts_10 rfl rfl ?_
    refine zV_aload_n 0 dX12_lasts_11 rfl rfl ?_
    refine zV_iload_n 1 dX12_lasts_12 rfl rfl ?_
    refine zV_cVI (y' := zmX12_endOf) (n' := 0) (As := [zI x1]) zc_X12_349 (zq_200 hZ) rfl dX12_lasts_13 (Nat.le_trans (by decide) hn) rfl (Nat.le_of_ble_eq_true rfl) (Nat.le_of_ble_eq_true rfl) rfl h (fun Q' h' => fX12_endOf_ok hZ (Nat.le_refl _) hx1 h') (fun r2 c3 b4 h => ?_)
    refine zV_icmp_ge 23 dX12_lasts_16 (by decide) hx2 c3 (fun hc_ => ?_) (fun hc_ => ?_)
    · replace h := zs_t h hc_
      refine zV_iconst (v := 0) dX12_lasts_23 rfl ?_
      exact zV_iretb dX12_lasts_24 rfl (Or.inl rfl) h
    · replace h := zs_f h hc_
      refine zV_iconst (v := 1) dX12_lasts_19 rfl ?_
      refine zV_goto 24 dX12_lasts_20 (by decide) ?_
      exact zV_iretb dX12_lasts_24 rfl (Or.inr rfl) h
noncomputable def fX12_note_j51 (x1 x2 x3 x4 x5 : Int) (M : zMem) : Option (Int × zMem) :=
  (zbd (fX12_isFrom x3 1 40 M) fun r11 => (if r11 = 0 then some ((-1), M) else (if 200 < (zw (x2 + x3)) then some ((-1), M) else (zbd (fX12_isFrom x4 1 9 M) fun r15 => (if r15 = 0 then some ((-1), M) else (zbd (fX12_isFinger x5 M) fun r19 => (if r19 = 0 then some ((-1), M) else (zgd ((0 : Int) ≤ (M 200 43) ∧ (M 200 43) < 120) (zgd ((0 : Int) ≤ ((zup M 245 (M 200 43) x1) 200 43) ∧ ((zup M 245 (M 200 43) x1) 200 43) < 120) (zgd ((0 : Int) ≤ ((zup (zup M 245 (M 200 43) x1) 246 ((zup M 245 (M 200 43) x1) 200 43) x2) 200 43) ∧ ((zup (zup M 245 (M 200 43) x1) 246 ((zup M 245 (M 200 43) x1) 200 43) x2) 200 43) < 120) (zgd ((0 : Int) ≤ ((zup (zup (zup M 245 (M 200 43) x1) 246 ((zup M 245 (M 200 43) x1) 200 43) x2) 247 ((zup (zup M 245 (M 200 43) x1) 246 ((zup M 245 (M 200 43) x1) 200 43) x2) 200 43) x3) 200 43) ∧ ((zup (zup (zup M 245 (M 200 43) x1) 246 ((zup M 245 (M 200 43) x1) 200 43) x2) 247 ((zup (zup M 245 (M 200 43) x1) 246 ((zup M 245 (M 200 43) x1) 200 43) x2) 200 43) x3) 200 43) < 120) (zgd ((0 : Int) ≤ ((zup (zup (zup (zup M 245 (M 200 43) x1) 246 ((zup M 245 (M 200 43) x1) 200 43) x2) 247 ((zup (zup M 245 (M 200 43) x1) 246 ((zup M 245 (M 200 43) x1) 200 43) x2) 200 43) x3) 248 ((zup (zup (zup M 245 (M 200 43) x1) 246 ((zup M 245 (M 200 43) x1) 200 43) x2) 247 ((zup (zup M 245 (M 200 43) x1) 246 ((zup M 245 (M 200 43) x1) 200 43) x2) 200 43) x3) 200 43) x4) 200 43) ∧ ((zup (zup (zup (zup M 245 (M 200 43) x1) 246 ((zup M 245 (M 200 43) x1) 200 43) x2) 247 ((zup (zup M 245 (M 200 43) x1) 246 ((zup M 245 (M 200 43) x1) 200 43) x2) 200 43) x3) 248 ((zup (zup (zup M 245 (M 200 43) x1) 246 ((zup M 245 (M 200 43) x1) 200 43) x2) 247 ((zup (zup M 245 (M 200 43) x1) 246 ((zup M 245 (M 200 43) x1) 200 43) x2) 200 43) x3) 200 43) x4) 200 43) < 120) (some ((zw (((zup (zup (zup (zup (zup (zup M 245 (M 200 43) x1) 246 ((zup M 245 (M 200 43) x1) 200 43) x2) 247 ((zup (zup M 245 (M 200 43) x1) 246 ((zup M 245 (M 200 43) x1) 200 43) x2) 200 43) x3) 248 ((zup (zup (zup M 245 (M 200 43) x1) 246 ((zup M 245 (M 200 43) x1) 200 43) x2) 247 ((zup (zup M 245 (M 200 43) x1) 246 ((zup M 245 (M 200 43) x1) 200 43) x2) 200 43) x3) 200 43) x4) 249 ((zup (zup (zup (zup M 245 (M 200 43) x1) 246 ((zup M 245 (M 200 43) x1) 200 43) x2) 247 ((zup (zup M 245 (M 200 43) x1) 246 ((zup M 245 (M 200 43) x1) 200 43) x2) 200 43) x3) 248 ((zup (zup (zup M 245 (M 200 43) x1) 246 ((zup M 245 (M 200 43) x1) 200 43) x2) 247 ((zup (zup M 245 (M 200 43) x1) 246 ((zup M 245 (M 200 43) x1) 200 43) x2) 200 43) x3) 200 43) x4) 200 43) x5) 200 43 (zw (((zup (zup (zup (zup (zup M 245 (M 200 43) x1) 246 ((zup M 245 (M 200 43) x1) 200 43) x2) 247 ((zup (zup M 245 (M 200 43) x1) 246 ((zup M 245 (M 200 43) x1) 200 43) x2) 200 43) x3) 248 ((zup (zup (zup M 245 (M 200 43) x1) 246 ((zup M 245 (M 200 43) x1) 200 43) x2) 247 ((zup (zup M 245 (M 200 43) x1) 246 ((zup M 245 (M 200 43) x1) 200 43) x2) 200 43) x3) 200 43) x4) 249 ((zup (zup (zup (zup M 245 (M 200 43) x1) 246 ((zup M 245 (M 200 43) x1) 200 43) x2) 247 ((zup (zup M 245 (M 200 43) x1) 246 ((zup M 245 (M 200 43) x1) 200 43) x2) 200 43) x3) 248 ((zup (zup (zup M 245 (M 200 43) x1) 246 ((zup M 245 (M 200 43) x1) 200 43) x2) 247 ((zup (zup M 245 (M 200 43) x1) 246 ((zup M 245 (M 200 43) x1) 200 43) x2) 200 43) x3) 200 43) x4) 200 43) x5) 200 43) + 1))) 200 43) - 1)), (zup (zup (zup (zup (zup (zup M 245 (M 200 43) x1) 246 ((zup M 245 (M 200 43) x1) 200 43) x2) 247 ((zup (zup M 245 (M 200 43) x1) 246 ((zup M 245 (M 200 43) x1) 200 43) x2) 200 43) x3) 248 ((zup (zup (zup M 245 (M 200 43) x1) 246 ((zup M 245 (M 200 43) x1) 200 43) x2) 247 ((zup (zup M 245 (M 200 43) x1) 246 ((zup M 245 (M 200 43) x1) 200 43) x2) 200 43) x3) 200 43) x4) 249 ((zup (zup (zup (zup M 245 (M 200 43) x1) 246 ((zup M 245 (M 200 43) x1) 200 43) x2) 247 ((zup (zup M 245 (M 200 43) x1) 246 ((zup M 245 (M 200 43) x1) 200 43) x2) 200 43) x3) 248 ((zup (zup (zup M 245 (M 200 43) x1) 246 ((zup M 245 (M 200 43) x1) 200 43) x2) 247 ((zup (zup M 245 (M 200 43) x1) 246 ((zup M 245 (M 200 43) x1) 200 43) x2) 200 43) x3) 200 43) x4) 200 43) x5) 200 43 (zw (((zup (zup (zup (zup (zup M 245 (M 200 43) x1) 246 ((zup M 245 (M 200 43) x1) 200 43) x2) 247 ((zup (zup M 245 (M 200 43) x1) 246 ((zup M 245 (M 200 43) x1) 200 43) x2) 200 43) x3) 248 ((zup (zup (zup M 245 (M 200 43) x1) 246 ((zup M 245 (M 200 43) x1) 200 43) x2) 247 ((zup (zup M 245 (M 200 43) x1) 246 ((zup M 245 (M 200 43) x1) 200 43) x2) 200 43) x3) 200 43) x4) 249 ((zup (zup (zup (zup M 245 (M 200 43) x1) 246 ((zup M 245 (M 200 43) x1) 200 43) x2) 247 ((zup (zup M 245 (M 200 43) x1) 246 ((zup M 245 (M 200 43) x1) 200 43) x2) 200 43) x3) 248 ((zup (zup (zup M 245 (M 200 43) x1) 246 ((zup M 245 (M 200 43) x1) 200 43) x2) 247 ((zup (zup M 245 (M 200 43) x1) 246 ((zup M 245 (M 200 43) x1) 200 43) x2) 200 43) x3) 200 43) x4) 200 43) x5) 200 43) + 1)))))))))))))))))
set_option maxRecDepth 100000 in
set_option maxHeartbeats 4000000 in
theorem fX12_note_j51_ok {Z : zZ} (hZ : zB Z) {nn : Nat} (hn : 2 ≤ nn)  {x1 x2 x3 x4 x5 : Int} (hx1 : z32 x1) (hx2 : z32 x2) (hx3 : z32 x3) (hx4 : z32 x4) (hx5 : z32 x5) {M : zMem} {Q : Option zAV → zMem → zZ → Prop} (h : zSat (fX12_note_j51 x1 x2 x3 x4 x5 M) (fun r => Q (some (zI r.1)) r.2 Z))  : zV zmX12_note nn 0 0 Z 51 [(0, zR 200), (1, zI x1), (2, zI x2), (3, zI x3), (4, zI x4), (5, zI x5)] [] M Q := by
  unfold fX12_note_j51 at h
  refine zV_iload_n 3 dX12_note_51 rfl rfl ?_
  refine zV_iconst (v := 1) dX12_note_52 rfl ?_
  refine zV_bipush (v := 40) dX12_note_53 rfl ?_
  refine zV_cSI (y' := zmX12_isFrom) (n' := 0) (As := [zI x3, zI 1, zI 40]) zc_X12_287 dX12_note_55 (Nat.le_trans (by decide) hn) rfl (Nat.le_of_ble_eq_true rfl) (Nat.le_of_ble_eq_true rfl) rfl h (fun Q' h' => fX12_isFrom_ok hZ (Nat.le_refl _) hx3 zi_1 zi_40 h') (fun r11 c12 b13 h => ?_)
  refine zV_if_eq 90 dX12_note_58 (by decide) c12 (fun hc_ => ?_) (fun hc_ => ?_)
  · replace h := zs_t h hc_
    refine zV_iconst (v := (-1)) dX12_note_90 rfl ?_
    exact zV_ireti dX12_note_91 rfl zi_n1 h
  · replace h := zs_f h hc_
    refine zV_iload_n 2 dX12_note_61 rfl rfl ?_
    refine zV_iload_n 3 dX12_note_62 rfl rfl ?_
    refine zV_iadd dX12_note_63 ?_
    refine zV_sipush (v := 200) dX12_note_64 rfl ?_
    refine zV_w2 ?_
    refine zV_icmp_gt 90 dX12_note_67 (by decide) (z32_w _) zi_200 (fun hc_ => ?_) (fun hc_ => ?_)
    · replace h := zs_t h hc_
      refine zV_iconst (v := (-1)) dX12_note_90 rfl ?_
      exact zV_ireti dX12_note_91 rfl zi_n1 h
    · replace h := zs_f h hc_
      refine zV_iload 4 dX12_note_70 rfl ?_
      refine zV_iconst (v := 1) dX12_note_72 rfl ?_
      refine zV_bipush (v := 9) dX12_note_73 rfl ?_
      refine zV_cSI (y' := zmX12_isFrom) (n' := 0) (As := [zI x4, zI 1, zI 9]) zc_X12_287 dX12_note_75 (Nat.le_trans (by decide) hn) rfl (Nat.le_of_ble_eq_true rfl) (Nat.le_of_ble_eq_true rfl) rfl h (fun Q' h' => fX12_isFrom_ok hZ (Nat.le_refl _) hx4 zi_1 zi_9 h') (fun r15 c16 b17 h => ?_)
      refine zV_if_eq 90 dX12_note_78 (by decide) c16 (fun hc_ => ?_) (fun hc_ => ?_)
      · replace h := zs_t h hc_
        refine zV_iconst (v := (-1)) dX12_note_90 rfl ?_
        exact zV_ireti dX12_note_91 rfl zi_n1 h
      · replace h := zs_f h hc_
        refine zV_aload_n 0 dX12_note_81 rfl rfl ?_
        refine zV_iload 5 dX12_note_82 rfl ?_
        refine zV_cVI (y' := zmX12_isFinger) (n' := 0) (As := [zI x5]) zc_X12_358 (zq_200 hZ) rfl dX12_note_84 (Nat.le_trans (by decide) hn) rfl (Nat.le_of_ble_eq_true rfl) (Nat.le_of_ble_eq_true rfl) rfl h (fun Q' h' => fX12_isFinger_ok hZ (Nat.le_refl _) hx5 h') (fun r19 c20 b21 h => ?_)
        refine zV_if_ne 92 dX12_note_87 (by decide) c20 (fun hc_ => ?_) (fun hc_ => ?_)
        · replace h := zs_f h hc_
          refine zV_aload_n 0 dX12_note_92 rfl rfl ?_
          refine zV_getR (j := 245) (zq_200 hZ) zf_X12_44 zkf_X12_108 rfl dX12_note_93 ?_
          refine zV_aload_n 0 dX12_note_96 rfl rfl ?_
          refine zV_getI (zq_200 hZ) zf_X12_43 zkf_X12_343 rfl dX12_note_97 (fun m23 => ?_)
          refine zV_iload_n 1 dX12_note_100 rfl rfl ?_
          obtain ⟨hg, h⟩ := zs_gd h
          refine zV_iast (zq_245 hZ) (by decide) hg hx1 dX12_note_101 ?_
          refine zV_aload_n 0 dX12_note_102 rfl rfl ?_
          refine zV_getR (j := 246) (zq_200 hZ) zf_X12_45 zkf_X12_111 rfl dX12_note_103 ?_
          refine zV_aload_n 0 dX12_note_106 rfl rfl ?_
          refine zV_getI (zq_200 hZ) zf_X12_43 zkf_X12_343 rfl dX12_note_107 (fun m24 => ?_)
          refine zV_iload_n 2 dX12_note_110 rfl rfl ?_
          obtain ⟨hg, h⟩ := zs_gd h
          refine zV_iast (zq_246 hZ) (by decide) hg hx2 dX12_note_111 ?_
          refine zV_aload_n 0 dX12_note_112 rfl rfl ?_
          refine zV_getR (j := 247) (zq_200 hZ) zf_X12_46 zkf_X12_114 rfl dX12_note_113 ?_
          refine zV_aload_n 0 dX12_note_116 rfl rfl ?_
          refine zV_getI (zq_200 hZ) zf_X12_43 zkf_X12_343 rfl dX12_note_117 (fun m25 => ?_)
          refine zV_iload_n 3 dX12_note_120 rfl rfl ?_
          obtain ⟨hg, h⟩ := zs_gd h
          refine zV_iast (zq_247 hZ) (by decide) hg hx3 dX12_note_121 ?_
          refine zV_aload_n 0 dX12_note_122 rfl rfl ?_
          refine zV_getR (j := 248) (zq_200 hZ) zf_X12_47 zkf_X12_117 rfl dX12_note_123 ?_
          refine zV_aload_n 0 dX12_note_126 rfl rfl ?_
          refine zV_getI (zq_200 hZ) zf_X12_43 zkf_X12_343 rfl dX12_note_127 (fun m26 => ?_)
          refine zV_iload 4 dX12_note_130 rfl ?_
          obtain ⟨hg, h⟩ := zs_gd h
          refine zV_iast (zq_248 hZ) (by decide) hg hx4 dX12_note_132 ?_
          refine zV_aload_n 0 dX12_note_133 rfl rfl ?_
          refine zV_getR (j := 249) (zq_200 hZ) zf_X12_48 zkf_X12_120 rfl dX12_note_134 ?_
          refine zV_aload_n 0 dX12_note_137 rfl rfl ?_
          refine zV_getI (zq_200 hZ) zf_X12_43 zkf_X12_343 rfl dX12_note_138 (fun m27 => ?_)
          refine zV_iload 5 dX12_note_141 rfl ?_
          obtain ⟨hg, h⟩ := zs_gd h
          refine zV_iast (zq_249 hZ) (by decide) hg hx5 dX12_note_143 ?_
          refine zV_aload_n 0 dX12_note_144 rfl rfl ?_
          refine zV_dup dX12_note_145 rfl ?_
          refine zV_getI (zq_200 hZ) zf_X12_43 zkf_X12_343 rfl dX12_note_146 (fun m28 => ?_)
          refine zV_iconst (v := 1) dX12_note_149 rfl ?_
          refine zV_iadd dX12_note_150 ?_
          refine zV_w ?_
          refine zV_putI (zq_200 hZ) (by decide) zf_X12_43 zkf_X12_343 rfl dX12_note_151 (z32_w _) ?_
          refine zV_aload_n 0 dX12_note_154 rfl rfl ?_
          refine zV_getI (zq_200 hZ) zf_X12_43 zkf_X12_343 rfl dX12_note_155 (fun m29 => ?_)
          refine zV_iconst (v := 1) dX12_note_158 rfl ?_
          refine zV_isub dX12_note_159 ?_
          refine zV_w ?_
          exact zV_ireti dX12_note_160 rfl (z32_w _) h
        · replace h := zs_t h hc_
          refine zV_iconst (v := (-1)) dX12_note_90 rfl ?_
          exact zV_ireti dX12_note_91 rfl zi_n1 h
noncomputable def fX12_note (x1 x2 x3 x4 x5 : Int) (M : zMem) : Option (Int × zMem) :=
  (if ((zup M 200 0 0) 200 43) = 24 then some ((-1), (zup M 200 0 0)) else (zbd (fX12_isPlaced x1 (zup M 200 0 0)) fun r2 => (if r2 = 0 then some ((-1), (zup M 200 0 0)) else (zbd (fX12_isBeat x2 (zup M 200 0 0)) fun r6 => (if r6 = 0 then some ((-1), (zup M 200 0 0)) else (if ((zup M 200 0 0) 200 43) ≤ 0 then fX12_note_j51 x1 x2 x3 x4 x5 (zup M 200 0 0) else (zgd ((0 : Int) ≤ (((zup M 200 0 0) 200 43) - 1) ∧ (((zup M 200 0 0) 200 43) - 1) < 120) (if x2 < ((zup M 200 0 0) 246 (((zup M 200 0 0) 200 43) - 1)) then some ((-1), (zup M 200 0 0)) else fX12_note_j51 x1 x2 x3 x4 x5 (zup M 200 0 0)))))))))
set_option maxRecDepth 100000 in
set_option maxHeartbeats 4000000 in
theorem fX12_note_ok {Z : zZ} (hZ : zB Z) {nn : Nat} (hn : 2 ≤ nn)  {x1 x2 x3 x4 x5 : Int} (hx1 : z32 x1) (hx2 : z32 x2) (hx3 : z32 x3) (hx4 : z32 x4) (hx5 : z32 x5) {M : zMem} {Q : Option zAV → zMem → zZ → Prop} (h : zSat (fX12_note x1 x2 x3 x4 x5 M) (fun r => Q (some (zI r.1)) r.2 Z))  : zV zmX12_note nn 0 0 Z 0 [(0, zR 200), (1, zI x1), (2, zI x2), (3, zI x3), (4, zI x4), (5, zI x5)] [] M Q := by
  unfold fX12_note at h
  refine zV_aload_n 0 dX12_note_0 rfl rfl ?_
  refine zV_iconst (v := 0) dX12_note_1 rfl ?_
  refine zV_putI (zq_200 hZ) (by decide) zf_X12_0 zkf_X12_157 rfl dX12_note_2 zi_0 ?_
  refine zV_aload_n 0 dX12_note_5 rfl rfl ?_
  refine zV_getI (zq_200 hZ) zf_X12_43 zkf_X12_343 rfl dX12_note_6 (fun m1 => ?_)
  refine zV_bipush (v := 24) dX12_note_9 rfl ?_
  refine zV_icmp_eq 90 dX12_note_11 (by decide) m1 zi_24 (fun hc_ => ?_) (fun hc_ => ?_)
  · replace h := zs_t h hc_
    refine zV_iconst (v := (-1)) dX12_note_90 rfl ?_
    exact zV_ireti dX12_note_91 rfl zi_n1 h
  · replace h := zs_f h hc_
    refine zV_aload_n 0 dX12_note_14 rfl rfl ?_
    refine zV_iload_n 1 dX12_note_15 rfl rfl ?_
    refine zV_cVI (y' := zmX12_isPlaced) (n' := 1) (As := [zI x1]) zc_X12_352 (zq_200 hZ) rfl dX12_note_16 (Nat.le_trans (by decide) hn) rfl (Nat.le_of_ble_eq_true rfl) (Nat.le_of_ble_eq_true rfl) rfl h (fun Q' h' => fX12_isPlaced_ok hZ (Nat.le_refl _) hx1 h') (fun r2 c3 b4 h => ?_)
    refine zV_if_eq 90 dX12_note_19 (by decide) c3 (fun hc_ => ?_) (fun hc_ => ?_)
    · replace h := zs_t h hc_
      refine zV_iconst (v := (-1)) dX12_note_90 rfl ?_
      exact zV_ireti dX12_note_91 rfl zi_n1 h
    · replace h := zs_f h hc_
      refine zV_iload_n 2 dX12_note_22 rfl rfl ?_
      refine zV_cSI (y' := zmX12_isBeat) (n' := 0) (As := [zI x2]) zc_X12_355 dX12_note_23 (Nat.le_trans (by decide) hn) rfl (Nat.le_of_ble_eq_true rfl) (Nat.le_of_ble_eq_true rfl) rfl h (fun Q' h' => fX12_isBeat_ok hZ (Nat.le_refl _) hx2 h') (fun r6 c7 b8 h => ?_)
      refine zV_if_eq 90 dX12_note_26 (by decide) c7 (fun hc_ => ?_) (fun hc_ => ?_)
      · replace h := zs_t h hc_
        refine zV_iconst (v := (-1)) dX12_note_90 rfl ?_
        exact zV_ireti dX12_note_91 rfl zi_n1 h
      · replace h := zs_f h hc_
        refine zV_aload_n 0 dX12_note_29 rfl rfl ?_
        refine zV_getI (zq_200 hZ) zf_X12_43 zkf_X12_343 rfl dX12_note_30 (fun m10 => ?_)
        refine zV_if_le 51 dX12_note_33 (by decide) m10 (fun hc_ => ?_) (fun hc_ => ?_)
        · replace h := zs_t h hc_
          exact fX12_note_j51_ok hZ hn hx1 hx2 hx3 hx4 hx5 h
        · replace h := zs_f h hc_
          refine zV_iload_n 2 dX12_note_36 rfl rfl ?_
          refine zV_aload_n 0 dX12_note_37 rfl rfl ?_
          refine zV_getR (j := 246) (zq_200 hZ) zf_X12_45 zkf_X12_111 rfl dX12_note_38 ?_
          refine zV_aload_n 0 dX12_note_41 rfl rfl ?_
          refine zV_getI (zq_200 hZ) zf_X12_43 zkf_X12_343 rfl dX12_note_42 (fun m30 => ?_)
          refine zV_iconst (v := 1) dX12_note_45 rfl ?_
          refine zV_isub dX12_note_46 ?_
          obtain ⟨hg, h⟩ := zs_gd h
          refine zV_iald (zq_246 hZ) hg dX12_note_47 (fun m31 => ?_)
          refine zV_icmp_lt 90 dX12_note_48 (by decide) hx2 m31 (fun hc_ => ?_) (fun hc_ => ?_)
          · replace h := zs_t h hc_
            refine zV_iconst (v := (-1)) dX12_note_90 rfl ?_
            exact zV_ireti dX12_note_91 rfl zi_n1 h
          · replace h := zs_f h hc_
            exact fX12_note_j51_ok hZ hn hx1 hx2 hx3 hx4 hx5 h
noncomputable def fX12_drop (M : zMem) : Option (Int × zMem) :=
  (if ((zup M 200 0 0) 200 43) = 0 then some (0, (zup M 200 0 0)) else some (1, (zup (zup M 200 0 0) 200 43 (zw (((zup M 200 0 0) 200 43) - 1)))))
set_option maxRecDepth 100000 in
set_option maxHeartbeats 4000000 in
theorem fX12_drop_ok {Z : zZ} (hZ : zB Z) {nn : Nat} (hn : 0 ≤ nn)   {M : zMem} {Q : Option zAV → zMem → zZ → Prop} (h : zSat (fX12_drop M) (fun r => Q (some (zI r.1)) r.2 Z))  : zV zmX12_drop nn 0 0 Z 0 [(0, zR 200)] [] M Q := by
  unfold fX12_drop at h
  refine zV_aload_n 0 dX12_drop_0 rfl rfl ?_
  refine zV_iconst (v := 0) dX12_drop_1 rfl ?_
  refine zV_putI (zq_200 hZ) (by decide) zf_X12_0 zkf_X12_157 rfl dX12_drop_2 zi_0 ?_
  refine zV_aload_n 0 dX12_drop_5 rfl rfl ?_
  refine zV_getI (zq_200 hZ) zf_X12_43 zkf_X12_343 rfl dX12_drop_6 (fun m1 => ?_)
  refine zV_if_ne 14 dX12_drop_9 (by decide) m1 (fun hc_ => ?_) (fun hc_ => ?_)
  · replace h := zs_f h hc_
    refine zV_aload_n 0 dX12_drop_14 rfl rfl ?_
    refine zV_dup dX12_drop_15 rfl ?_
    refine zV_getI (zq_200 hZ) zf_X12_43 zkf_X12_343 rfl dX12_drop_16 (fun m2 => ?_)
    refine zV_iconst (v := 1) dX12_drop_19 rfl ?_
    refine zV_isub dX12_drop_20 ?_
    refine zV_w ?_
    refine zV_putI (zq_200 hZ) (by decide) zf_X12_43 zkf_X12_343 rfl dX12_drop_21 (z32_w _) ?_
    refine zV_iconst (v := 1) dX12_drop_24 rfl ?_
    exact zV_iretb dX12_drop_25 rfl (Or.inr rfl) h
  · replace h := zs_t h hc_
    refine zV_iconst (v := 0) dX12_drop_12 rfl ?_
    exact zV_iretb dX12_drop_13 rfl (Or.inl rfl) h
noncomputable def fX12_finger (x1 x2 : Int) (M : zMem) : Option (Int × zMem) :=
  (zbd (fX12_isNote x1 (zup M 200 0 0)) fun r1 => (if r1 = 0 then some (0, (zup M 200 0 0)) else (zbd (fX12_isFinger x2 (zup M 200 0 0)) fun r5 => (if r5 = 0 then some (0, (zup M 200 0 0)) else (zgd ((0 : Int) ≤ x1 ∧ x1 < 120) (some (1, (zup (zup M 200 0 0) 249 x1 x2))))))))
set_option maxRecDepth 100000 in
set_option maxHeartbeats 4000000 in
theorem fX12_finger_ok {Z : zZ} (hZ : zB Z) {nn : Nat} (hn : 1 ≤ nn)  {x1 x2 : Int} (hx1 : z32 x1) (hx2 : z32 x2) {M : zMem} {Q : Option zAV → zMem → zZ → Prop} (h : zSat (fX12_finger x1 x2 M) (fun r => Q (some (zI r.1)) r.2 Z))  : zV zmX12_finger nn 0 0 Z 0 [(0, zR 200), (1, zI x1), (2, zI x2)] [] M Q := by
  unfold fX12_finger at h
  refine zV_aload_n 0 dX12_finger_0 rfl rfl ?_
  refine zV_iconst (v := 0) dX12_finger_1 rfl ?_
  refine zV_putI (zq_200 hZ) (by decide) zf_X12_0 zkf_X12_157 rfl dX12_finger_2 zi_0 ?_
  refine zV_aload_n 0 dX12_finger_5 rfl rfl ?_
  refine zV_iload_n 1 dX12_finger_6 rfl rfl ?_
  refine zV_cVI (y' := zmX12_isNote) (n' := 0) (As := [zI x1]) zc_X12_361 (zq_200 hZ) rfl dX12_finger_7 (Nat.le_trans (by decide) hn) rfl (Nat.le_of_ble_eq_true rfl) (Nat.le_of_ble_eq_true rfl) rfl h (fun Q' h' => fX12_isNote_ok hZ (Nat.le_refl _) hx1 h') (fun r1 c2 b3 h => ?_)
  refine zV_if_eq 21 dX12_finger_10 (by decide) c2 (fun hc_ => ?_) (fun hc_ => ?_)
  · replace h := zs_t h hc_
    refine zV_iconst (v := 0) dX12_finger_21 rfl ?_
    exact zV_iretb dX12_finger_22 rfl (Or.inl rfl) h
  · replace h := zs_f h hc_
    refine zV_aload_n 0 dX12_finger_13 rfl rfl ?_
    refine zV_iload_n 2 dX12_finger_14 rfl rfl ?_
    refine zV_cVI (y' := zmX12_isFinger) (n' := 0) (As := [zI x2]) zc_X12_358 (zq_200 hZ) rfl dX12_finger_15 (Nat.le_trans (by decide) hn) rfl (Nat.le_of_ble_eq_true rfl) (Nat.le_of_ble_eq_true rfl) rfl h (fun Q' h' => fX12_isFinger_ok hZ (Nat.le_refl _) hx2 h') (fun r5 c6 b7 h => ?_)
    refine zV_if_ne 23 dX12_finger_18 (by decide) c6 (fun hc_ => ?_) (fun hc_ => ?_)
    · replace h := zs_f h hc_
      refine zV_aload_n 0 dX12_finger_23 rfl rfl ?_
      refine zV_getR (j := 249) (zq_200 hZ) zf_X12_48 zkf_X12_120 rfl dX12_finger_24 ?_
      refine zV_iload_n 1 dX12_finger_27 rfl rfl ?_
      refine zV_iload_n 2 dX12_finger_28 rfl rfl ?_
      obtain ⟨hg, h⟩ := zs_gd h
      refine zV_iast (zq_249 hZ) (by decide) hg hx2 dX12_finger_29 ?_
      refine zV_iconst (v := 1) dX12_finger_30 rfl ?_
      exact zV_iretb dX12_finger_31 rfl (Or.inr rfl) h
    · replace h := zs_t h hc_
      refine zV_iconst (v := 0) dX12_finger_21 rfl ?_
      exact zV_iretb dX12_finger_22 rfl (Or.inl rfl) h
noncomputable def fX12_noteOf (x1 x2 : Int) (M : zMem) : Option (Int × zMem) :=
  (zbd (fX12_isNote x1 (zup M 200 0 0)) fun r1 => (if r1 = 0 then some ((-1), (zup M 200 0 0)) else (zbd (fX12_isFrom x2 0 4 (zup M 200 0 0)) fun r5 => (if r5 = 0 then some ((-1), (zup M 200 0 0)) else (if x2 = 0 then (zgd ((0 : Int) ≤ x1 ∧ x1 < 120) (some (((zup M 200 0 0) 245 x1), (zup M 200 0 0)))) else (if x2 = 1 then (zgd ((0 : Int) ≤ x1 ∧ x1 < 120) (some (((zup M 200 0 0) 246 x1), (zup M 200 0 0)))) else (if x2 = 2 then (zgd ((0 : Int) ≤ x1 ∧ x1 < 120) (some (((zup M 200 0 0) 247 x1), (zup M 200 0 0)))) else (if x2 = 3 then (zgd ((0 : Int) ≤ x1 ∧ x1 < 120) (some (((zup M 200 0 0) 248 x1), (zup M 200 0 0)))) else (zgd ((0 : Int) ≤ x1 ∧ x1 < 120) (some (((zup M 200 0 0) 249 x1), (zup M 200 0 0))))))))))))
set_option maxRecDepth 100000 in
set_option maxHeartbeats 4000000 in
theorem fX12_noteOf_ok {Z : zZ} (hZ : zB Z) {nn : Nat} (hn : 1 ≤ nn)  {x1 x2 : Int} (hx1 : z32 x1) (hx2 : z32 x2) {M : zMem} {Q : Option zAV → zMem → zZ → Prop} (h : zSat (fX12_noteOf x1 x2 M) (fun r => Q (some (zI r.1)) r.2 Z))  : zV zmX12_noteOf nn 0 0 Z 0 [(0, zR 200), (1, zI x1), (2, zI x2)] [] M Q := by
  unfold fX12_noteOf at h
  refine zV_aload_n 0 dX12_noteOf_0 rfl rfl ?_
  refine zV_iconst (v := 0) dX12_noteOf_1 rfl ?_
  refine zV_putI (zq_200 hZ) (by decide) zf_X12_0 zkf_X12_157 rfl dX12_noteOf_2 zi_0 ?_
  refine zV_aload_n 0 dX12_noteOf_5 rfl rfl ?_
  refine zV_iload_n 1 dX12_noteOf_6 rfl rfl ?_
  refine zV_cVI (y' := zmX12_isNote) (n' := 0) (As := [zI x1]) zc_X12_361 (zq_200 hZ) rfl dX12_noteOf_7 (Nat.le_trans (by decide) hn) rfl (Nat.le_of_ble_eq_true rfl) (Nat.le_of_ble_eq_true rfl) rfl h (fun Q' h' => fX12_isNote_ok hZ (Nat.le_refl _) hx1 h') (fun r1 c2 b3 h => ?_)
  refine zV_if_eq 22 dX12_noteOf_10 (by decide) c2 (fun hc_ => ?_) (fun hc_ => ?_)
  · replace h := zs_t h hc_
    refine zV_iconst (v := (-1)) dX12_noteOf_22 rfl ?_
    exact zV_ireti dX12_noteOf_23 rfl zi_n1 h
  · replace h := zs_f h hc_
    refine zV_iload_n 2 dX12_noteOf_13 rfl rfl ?_
    refine zV_iconst (v := 0) dX12_noteOf_14 rfl ?_
    refine zV_iconst (v := 4) dX12_noteOf_15 rfl ?_
    refine zV_cSI (y' := zmX12_isFrom) (n' := 0) (As := [zI x2, zI 0, zI 4]) zc_X12_287 dX12_noteOf_16 (Nat.le_trans (by decide) hn) rfl (Nat.le_of_ble_eq_true rfl) (Nat.le_of_ble_eq_true rfl) rfl h (fun Q' h' => fX12_isFrom_ok hZ (Nat.le_refl _) hx2 zi_0 zi_4 h') (fun r5 c6 b7 h => ?_)
    refine zV_if_ne 24 dX12_noteOf_19 (by decide) c6 (fun hc_ => ?_) (fun hc_ => ?_)
    · replace h := zs_f h hc_
      refine zV_iload_n 2 dX12_noteOf_24 rfl rfl ?_
      refine zV_if_ne 37 dX12_noteOf_25 (by decide) hx2 (fun hc_ => ?_) (fun hc_ => ?_)
      · replace h := zs_f h hc_
        refine zV_iload_n 2 dX12_noteOf_37 rfl rfl ?_
        refine zV_iconst (v := 1) dX12_noteOf_38 rfl ?_
        refine zV_icmp_ne 51 dX12_noteOf_39 (by decide) hx2 zi_1 (fun hc_ => ?_) (fun hc_ => ?_)
        · replace h := zs_f h hc_
          refine zV_iload_n 2 dX12_noteOf_51 rfl rfl ?_
          refine zV_iconst (v := 2) dX12_noteOf_52 rfl ?_
          refine zV_icmp_ne 65 dX12_noteOf_53 (by decide) hx2 zi_2 (fun hc_ => ?_) (fun hc_ => ?_)
          · replace h := zs_f h hc_
            refine zV_iload_n 2 dX12_noteOf_65 rfl rfl ?_
            refine zV_iconst (v := 3) dX12_noteOf_66 rfl ?_
            refine zV_icmp_ne 79 dX12_noteOf_67 (by decide) hx2 zi_3 (fun hc_ => ?_) (fun hc_ => ?_)
            · replace h := zs_f h hc_
              refine zV_aload_n 0 dX12_noteOf_79 rfl rfl ?_
              refine zV_getR (j := 249) (zq_200 hZ) zf_X12_48 zkf_X12_120 rfl dX12_noteOf_80 ?_
              refine zV_iload_n 1 dX12_noteOf_83 rfl rfl ?_
              obtain ⟨hg, h⟩ := zs_gd h
              refine zV_iald (zq_249 hZ) hg dX12_noteOf_84 (fun m9 => ?_)
              exact zV_ireti dX12_noteOf_85 rfl m9 h
            · replace h := zs_t h hc_
              refine zV_aload_n 0 dX12_noteOf_70 rfl rfl ?_
              refine zV_getR (j := 248) (zq_200 hZ) zf_X12_47 zkf_X12_117 rfl dX12_noteOf_71 ?_
              refine zV_iload_n 1 dX12_noteOf_74 rfl rfl ?_
              obtain ⟨hg, h⟩ := zs_gd h
              refine zV_iald (zq_248 hZ) hg dX12_noteOf_75 (fun m10 => ?_)
              refine zV_goto 85 dX12_noteOf_76 (by decide) ?_
              exact zV_ireti dX12_noteOf_85 rfl m10 h
          · replace h := zs_t h hc_
            refine zV_aload_n 0 dX12_noteOf_56 rfl rfl ?_
            refine zV_getR (j := 247) (zq_200 hZ) zf_X12_46 zkf_X12_114 rfl dX12_noteOf_57 ?_
            refine zV_iload_n 1 dX12_noteOf_60 rfl rfl ?_
            obtain ⟨hg, h⟩ := zs_gd h
            refine zV_iald (zq_247 hZ) hg dX12_noteOf_61 (fun m11 => ?_)
            refine zV_goto 85 dX12_noteOf_62 (by decide) ?_
            exact zV_ireti dX12_noteOf_85 rfl m11 h
        · replace h := zs_t h hc_
          refine zV_aload_n 0 dX12_noteOf_42 rfl rfl ?_
          refine zV_getR (j := 246) (zq_200 hZ) zf_X12_45 zkf_X12_111 rfl dX12_noteOf_43 ?_
          refine zV_iload_n 1 dX12_noteOf_46 rfl rfl ?_
          obtain ⟨hg, h⟩ := zs_gd h
          refine zV_iald (zq_246 hZ) hg dX12_noteOf_47 (fun m12 => ?_)
          refine zV_goto 85 dX12_noteOf_48 (by decide) ?_
          exact zV_ireti dX12_noteOf_85 rfl m12 h
      · replace h := zs_t h hc_
        refine zV_aload_n 0 dX12_noteOf_28 rfl rfl ?_
        refine zV_getR (j := 245) (zq_200 hZ) zf_X12_44 zkf_X12_108 rfl dX12_noteOf_29 ?_
        refine zV_iload_n 1 dX12_noteOf_32 rfl rfl ?_
        obtain ⟨hg, h⟩ := zs_gd h
        refine zV_iald (zq_245 hZ) hg dX12_noteOf_33 (fun m13 => ?_)
        refine zV_goto 85 dX12_noteOf_34 (by decide) ?_
        exact zV_ireti dX12_noteOf_85 rfl m13 h
    · replace h := zs_t h hc_
      refine zV_iconst (v := (-1)) dX12_noteOf_22 rfl ?_
      exact zV_ireti dX12_noteOf_23 rfl zi_n1 h
noncomputable def fX12_touchedIn_j47 (x1 x2 x3 x4 s0 s1 : Int) (M : zMem) : Option ((Int × Int) ⊕ (Int × Int)) :=
  some (.inl ((zw (s1 + s0)), (zw (x4 + 1))))
set_option maxRecDepth 100000 in
set_option maxHeartbeats 4000000 in
theorem fX12_touchedIn_j47_ok {Z : zZ} (hZ : zB Z) {nn : Nat} (hn : 2 ≤ nn)  {x1 x2 x3 x4 s0 s1 : Int} (hx1 : z32 x1) (hx2 : z32 x2) (hx3 : z32 x3) (hx4 : z32 x4) (hs0 : z32 s0) (hs1 : z32 s1) {M : zMem} {Q : Option zAV → zMem → zZ → Prop} {P : (Int × Int) ⊕ (Int × Int) → Prop} (h : zSat (fX12_touchedIn_j47 x1 x2 x3 x4 s0 s1 M) P)  (hc : ∀ s : Int × Int, P (.inl s) → z32 (s.1) → z32 (s.2) → zV zmX12_touchedIn nn 0 0 Z 5 [(0, zR 200), (1, zI x1), (2, zI x2), (3, zI (s.1)), (4, zI (s.2))] [] M Q) (he : ∀ s : Int × Int, P (.inr s) → z32 (s.1) → z32 (s.2) → zV zmX12_touchedIn nn 0 0 Z 55 [(0, zR 200), (1, zI x1), (2, zI x2), (3, zI (s.1)), (4, zI (s.2))] [] M Q)   : zV zmX12_touchedIn nn 0 0 Z 47 [(0, zR 200), (1, zI x1), (2, zI x2), (3, zI x3), (4, zI x4)] [zI s0, zI s1] M Q := by
  unfold fX12_touchedIn_j47 at h
  refine zV_iadd dX12_touchedIn_47 ?_
  refine zV_w ?_
  refine zV_istore_n [(3, zI (zw (s1 + s0))), (0, zR 200), (1, zI x1), (2, zI x2), (4, zI x4)] dX12_touchedIn_48 rfl (by decide) rfl ?_
  refine zV_iinc 4 [(4, zI (zw (x4 + 1))), (3, zI (zw (s1 + s0))), (0, zR 200), (1, zI x1), (2, zI x2)] dX12_touchedIn_49 rfl rfl (by decide) rfl ?_
  refine zV_goto 5 dX12_touchedIn_52 (by decide) ?_
  refine zV_ls [2, 3, 4, 1, 0] rfl ?_
  exact hc _ h (z32_w _) (z32_w _)
noncomputable def fX12_touchedIn_j46 (x1 x2 x3 x4 s0 : Int) (M : zMem) : Option ((Int × Int) ⊕ (Int × Int)) :=
  fX12_touchedIn_j47 x1 x2 x3 x4 0 s0 M
set_option maxRecDepth 100000 in
set_option maxHeartbeats 4000000 in
theorem fX12_touchedIn_j46_ok {Z : zZ} (hZ : zB Z) {nn : Nat} (hn : 2 ≤ nn)  {x1 x2 x3 x4 s0 : Int} (hx1 : z32 x1) (hx2 : z32 x2) (hx3 : z32 x3) (hx4 : z32 x4) (hs0 : z32 s0) {M : zMem} {Q : Option zAV → zMem → zZ → Prop} {P : (Int × Int) ⊕ (Int × Int) → Prop} (h : zSat (fX12_touchedIn_j46 x1 x2 x3 x4 s0 M) P)  (hc : ∀ s : Int × Int, P (.inl s) → z32 (s.1) → z32 (s.2) → zV zmX12_touchedIn nn 0 0 Z 5 [(0, zR 200), (1, zI x1), (2, zI x2), (3, zI (s.1)), (4, zI (s.2))] [] M Q) (he : ∀ s : Int × Int, P (.inr s) → z32 (s.1) → z32 (s.2) → zV zmX12_touchedIn nn 0 0 Z 55 [(0, zR 200), (1, zI x1), (2, zI x2), (3, zI (s.1)), (4, zI (s.2))] [] M Q)   : zV zmX12_touchedIn nn 0 0 Z 46 [(0, zR 200), (1, zI x1), (2, zI x2), (3, zI x3), (4, zI x4)] [zI s0] M Q := by
  unfold fX12_touchedIn_j46 at h
  refine zV_iconst (v := 0) dX12_touchedIn_46 rfl ?_
  exact fX12_touchedIn_j47_ok hZ hn hx1 hx2 hx3 hx4 zi_0 hs0 h hc he
noncomputable def fX12_touchedIn_l5 (x1 x2 x3 x4 : Int) (M : zMem) : Option ((Int × Int) ⊕ (Int × Int)) :=
  (if (M 200 43) ≤ x4 then some (.inr (x3, x4)) else (zgd ((0 : Int) ≤ x4 ∧ x4 < 120) (if (M 245 x4) = x1 then (zbd (fX12_lasts x4 x2 M) fun r3 => (if r3 = 0 then fX12_touchedIn_j46 x1 x2 x3 x4 x3 M else (zgd ((0 : Int) ≤ x4 ∧ x4 < 120) (fX12_touchedIn_j47 x1 x2 x3 x4 (M 248 x4) x3 M)))) else fX12_touchedIn_j46 x1 x2 x3 x4 x3 M)))
set_option maxRecDepth 100000 in
set_option maxHeartbeats 4000000 in
theorem fX12_touchedIn_l5_ok {Z : zZ} (hZ : zB Z) {nn : Nat} (hn : 2 ≤ nn)  {x1 x2 x3 x4 : Int} (hx1 : z32 x1) (hx2 : z32 x2) (hx3 : z32 x3) (hx4 : z32 x4) {M : zMem} {Q : Option zAV → zMem → zZ → Prop} {P : (Int × Int) ⊕ (Int × Int) → Prop} (h : zSat (fX12_touchedIn_l5 x1 x2 x3 x4 M) P)  (hc : ∀ s : Int × Int, P (.inl s) → z32 (s.1) → z32 (s.2) → zV zmX12_touchedIn nn 0 0 Z 5 [(0, zR 200), (1, zI x1), (2, zI x2), (3, zI (s.1)), (4, zI (s.2))] [] M Q) (he : ∀ s : Int × Int, P (.inr s) → z32 (s.1) → z32 (s.2) → zV zmX12_touchedIn nn 0 0 Z 55 [(0, zR 200), (1, zI x1), (2, zI x2), (3, zI (s.1)), (4, zI (s.2))] [] M Q)   : zV zmX12_touchedIn nn 0 0 Z 5 [(0, zR 200), (1, zI x1), (2, zI x2), (3, zI x3), (4, zI x4)] [] M Q := by
  unfold fX12_touchedIn_l5 at h
  refine zV_iload 4 dX12_touchedIn_5 rfl ?_
  refine zV_aload_n 0 dX12_touchedIn_7 rfl rfl ?_
  refine zV_getI (zq_200 hZ) zf_X12_43 zkf_X12_343 rfl dX12_touchedIn_8 (fun m1 => ?_)
  refine zV_icmp_ge 55 dX12_touchedIn_11 (by decide) hx4 m1 (fun hc_ => ?_) (fun hc_ => ?_)
  · replace h := zs_t h hc_
    exact he _ h hx3 hx4
  · replace h := zs_f h hc_
    refine zV_iload_n 3 dX12_touchedIn_14 rfl rfl ?_
    refine zV_aload_n 0 dX12_touchedIn_15 rfl rfl ?_
    refine zV_getR (j := 245) (zq_200 hZ) zf_X12_44 zkf_X12_108 rfl dX12_touchedIn_16 ?_
    refine zV_iload 4 dX12_touchedIn_19 rfl ?_
    obtain ⟨hg, h⟩ := zs_gd h
    refine zV_iald (zq_245 hZ) hg dX12_touchedIn_21 (fun m2 => ?_)
    refine zV_iload_n 1 dX12_touchedIn_22 rfl rfl ?_
    refine zV_icmp_ne 46 dX12_touchedIn_23 (by decide) m2 hx1 (fun hc_ => ?_) (fun hc_ => ?_)
    · replace h := zs_f h hc_
      exact fX12_touchedIn_j46_ok hZ hn hx1 hx2 hx3 hx4 hx3 h hc he
    · replace h := zs_t h hc_
      refine zV_aload_n 0 dX12_touchedIn_26 rfl rfl ?_
      refine zV_iload 4 dX12_touchedIn_27 rfl ?_
      refine zV_iload_n 2 dX12_touchedIn_29 rfl rfl ?_
      refine zV_cVI (y' := zmX12_lasts) (n' := 1) (As := [zI x4, zI x2]) zc_X12_364 (zq_200 hZ) rfl dX12_touchedIn_30 (Nat.le_trans (by decide) hn) rfl (Nat.le_of_ble_eq_true rfl) (Nat.le_of_ble_eq_true rfl) rfl h (fun Q' h' => fX12_lasts_ok hZ (Nat.le_refl _) hx4 hx2 h') (fun r3 c4 b5 h => ?_)
      refine zV_if_eq 46 dX12_touchedIn_33 (by decide) c4 (fun hc_ => ?_) (fun hc_ => ?_)
      · replace h := zs_t h hc_
        exact fX12_touchedIn_j46_ok hZ hn hx1 hx2 hx3 hx4 hx3 h hc he
      · replace h := zs_f h hc_
        refine zV_aload_n 0 dX12_touchedIn_36 rfl rfl ?_
        refine zV_getR (j := 248) (zq_200 hZ) zf_X12_47 zkf_X12_117 rfl dX12_touchedIn_37 ?_
        refine zV_iload 4 dX12_touchedIn_40 rfl ?_
        obtain ⟨hg, h⟩ := zs_gd h
        refine zV_iald (zq_248 hZ) hg dX12_touchedIn_42 (fun m7 => ?_)
        refine zV_goto 47 dX12_touchedIn_43 (by decide) ?_
        exact fX12_touchedIn_j47_ok hZ hn hx1 hx2 hx3 hx4 m7 hx3 h hc he
noncomputable def fX12_touchedIn (x1 x2 : Int) (M : zMem) : Option (Int) :=
  (zbd (zit (fun s8 => fX12_touchedIn_l5 x1 x2 (s8.1) (s8.2) M) (0, 0)) fun s15 => some (s15.1))
set_option maxRecDepth 100000 in
set_option maxHeartbeats 4000000 in
theorem fX12_touchedIn_ok {Z : zZ} (hZ : zB Z) {nn : Nat} (hn : 2 ≤ nn)  {x1 x2 : Int} (hx1 : z32 x1) (hx2 : z32 x2) {M : zMem} {Q : Option zAV → zMem → zZ → Prop} (h : zSat (fX12_touchedIn x1 x2 M) (fun r => Q (some (zI r)) M Z))  : zV zmX12_touchedIn nn 0 0 Z 0 [(0, zR 200), (1, zI x1), (2, zI x2)] [] M Q := by
  unfold fX12_touchedIn at h
  refine zV_iconst (v := 0) dX12_touchedIn_0 rfl ?_
  refine zV_istore_n [(3, zI 0), (0, zR 200), (1, zI x1), (2, zI x2)] dX12_touchedIn_1 rfl (by decide) rfl ?_
  refine zV_iconst (v := 0) dX12_touchedIn_2 rfl ?_
  refine zV_istore [(4, zI 0), (3, zI 0), (0, zR 200), (1, zI x1), (2, zI x2)] dX12_touchedIn_3 (by decide) rfl ?_
  refine zV_ls [2, 3, 4, 1, 0] rfl ?_
  refine (zV_loop (Vh := fun s8 : Int × Int => z32 (s8.1) → z32 (s8.2) → zV zmX12_touchedIn nn 0 0 Z 5 [(0, zR 200), (1, zI x1), (2, zI x2), (3, zI (s8.1)), (4, zI (s8.2))] [] M Q) h (fun s8 P9 hP10 hc11 he12 => ?_)) zi_0 zi_0
  intro c13 c14
  refine fX12_touchedIn_l5_ok hZ hn hx1 hx2 c13 c14 hP10 hc11 (fun s15 h16 d17 d18 => ?_)
  have h := he12 _ h16
  refine zV_iload_n 3 dX12_touchedIn_55 rfl rfl ?_
  exact zV_ireti dX12_touchedIn_56 rfl d17 h
noncomputable def fX12_touched (x1 x2 : Int) (M : zMem) : Option (Int × zMem) :=
  (zbd (fX12_isBowl x1 (zup M 200 0 0)) fun r1 => (if r1 = 0 then some ((-1), (zup M 200 0 0)) else (zbd (fX12_isBeat x2 (zup M 200 0 0)) fun r5 => (if r5 = 0 then some ((-1), (zup M 200 0 0)) else (zbd (fX12_touchedIn x1 x2 (zup M 200 0 0)) fun r9 => some (r9, (zup M 200 0 0)))))))
set_option maxRecDepth 100000 in
set_option maxHeartbeats 4000000 in
theorem fX12_touched_ok {Z : zZ} (hZ : zB Z) {nn : Nat} (hn : 3 ≤ nn)  {x1 x2 : Int} (hx1 : z32 x1) (hx2 : z32 x2) {M : zMem} {Q : Option zAV → zMem → zZ → Prop} (h : zSat (fX12_touched x1 x2 M) (fun r => Q (some (zI r.1)) r.2 Z))  : zV zmX12_touched nn 0 0 Z 0 [(0, zR 200), (1, zI x1), (2, zI x2)] [] M Q := by
  unfold fX12_touched at h
  refine zV_aload_n 0 dX12_touched_0 rfl rfl ?_
  refine zV_iconst (v := 0) dX12_touched_1 rfl ?_
  refine zV_putI (zq_200 hZ) (by decide) zf_X12_0 zkf_X12_157 rfl dX12_touched_2 zi_0 ?_
  refine zV_aload_n 0 dX12_touched_5 rfl rfl ?_
  refine zV_iload_n 1 dX12_touched_6 rfl rfl ?_
  refine zV_cVI (y' := zmX12_isBowl) (n' := 0) (As := [zI x1]) zc_X12_346 (zq_200 hZ) rfl dX12_touched_7 (Nat.le_trans (by decide) hn) rfl (Nat.le_of_ble_eq_true rfl) (Nat.le_of_ble_eq_true rfl) rfl h (fun Q' h' => fX12_isBowl_ok hZ (Nat.le_refl _) hx1 h') (fun r1 c2 b3 h => ?_)
  refine zV_if_eq 29 dX12_touched_10 (by decide) c2 (fun hc_ => ?_) (fun hc_ => ?_)
  · replace h := zs_t h hc_
    refine zV_iconst (v := (-1)) dX12_touched_29 rfl ?_
    exact zV_ireti dX12_touched_30 rfl zi_n1 h
  · replace h := zs_f h hc_
    refine zV_iload_n 2 dX12_touched_13 rfl rfl ?_
    refine zV_cSI (y' := zmX12_isBeat) (n' := 0) (As := [zI x2]) zc_X12_355 dX12_touched_14 (Nat.le_trans (by decide) hn) rfl (Nat.le_of_ble_eq_true rfl) (Nat.le_of_ble_eq_true rfl) rfl h (fun Q' h' => fX12_isBeat_ok hZ (Nat.le_refl _) hx2 h') (fun r5 c6 b7 h => ?_)
    refine zV_if_eq 29 dX12_touched_17 (by decide) c6 (fun hc_ => ?_) (fun hc_ => ?_)
    · replace h := zs_t h hc_
      refine zV_iconst (v := (-1)) dX12_touched_29 rfl ?_
      exact zV_ireti dX12_touched_30 rfl zi_n1 h
    · replace h := zs_f h hc_
      refine zV_aload_n 0 dX12_touched_20 rfl rfl ?_
      refine zV_iload_n 1 dX12_touched_21 rfl rfl ?_
      refine zV_iload_n 2 dX12_touched_22 rfl rfl ?_
      refine zV_cVI (y' := zmX12_touchedIn) (n' := 2) (As := [zI x1, zI x2]) zc_X12_367 (zq_200 hZ) rfl dX12_touched_23 (Nat.le_trans (by decide) hn) rfl (Nat.le_of_ble_eq_true rfl) (Nat.le_of_ble_eq_true rfl) rfl h (fun Q' h' => fX12_touchedIn_ok hZ (Nat.le_refl _) hx1 hx2 h') (fun r9 c10 b11 h => ?_)
      refine zV_goto 30 dX12_touched_26 (by decide) ?_
      exact zV_ireti dX12_touched_30 rfl c10 h
noncomputable def fX12_warms_j153 (x1 x2 x3 s0 : Int) (M : zMem) : Option ((Int × Int × zMem) ⊕ (Int × Int × zMem)) :=
  some (.inl (s0, (zw (x3 + 1)), M))
set_option maxRecDepth 100000 in
set_option maxHeartbeats 4000000 in
theorem fX12_warms_j153_ok {Z : zZ} (hZ : zB Z) {nn : Nat} (hn : 3 ≤ nn)  {x1 x2 x3 s0 : Int} (hx1 : z32 x1) (hx2 : z32 x2) (hx3 : z32 x3) (hs0 : z32 s0) {M : zMem} {Q : Option zAV → zMem → zZ → Prop} {P : (Int × Int × zMem) ⊕ (Int × Int × zMem) → Prop} (h : zSat (fX12_warms_j153 x1 x2 x3 s0 M) P)  (hc : ∀ s : Int × Int × zMem, P (.inl s) → z32 (s.1) → z32 (s.2.1) → zV zmX12_warms nn 0 0 Z 25 [(0, zR 200), (1, zI x1), (2, zI (s.1)), (3, zI (s.2.1))] [] (s.2.2) Q) (he : ∀ s : Int × Int × zMem, P (.inr s) → z32 (s.1) → z32 (s.2.1) → zV zmX12_warms nn 0 0 Z 160 [(0, zR 200), (1, zI x1), (2, zI (s.1)), (3, zI (s.2.1))] [] (s.2.2) Q)   : zV zmX12_warms nn 0 0 Z 153 [(0, zR 200), (1, zI x1), (2, zI x2), (3, zI x3)] [zI s0] M Q := by
  unfold fX12_warms_j153 at h
  refine zV_istore_n [(2, zI s0), (0, zR 200), (1, zI x1), (3, zI x3)] dX12_warms_153 rfl (by decide) rfl ?_
  refine zV_iinc 3 [(3, zI (zw (x3 + 1))), (2, zI s0), (0, zR 200), (1, zI x1)] dX12_warms_154 rfl rfl (by decide) rfl ?_
  refine zV_goto 25 dX12_warms_157 (by decide) ?_
  refine zV_ls [2, 3, 1, 0] rfl ?_
  exact hc _ h hs0 (z32_w _)
noncomputable def fX12_warms_j128 (x1 x2 x3 x4 x5 : Int) (M : zMem) : Option ((Int × Int × zMem) ⊕ (Int × Int × zMem)) :=
  (if x4 ≤ 0 then (zgd ((0 : Int) ≤ (7 : Int) ∧ (7 : Int) < 66) (fX12_warms_j153 x1 x2 x3 (max 0 (zw (x2 - (M 225 7)))) M)) else fX12_warms_j153 x1 x2 x3 (zw (x2 + x5)) M)
set_option maxRecDepth 100000 in
set_option maxHeartbeats 4000000 in
theorem fX12_warms_j128_ok {Z : zZ} (hZ : zB Z) {nn : Nat} (hn : 3 ≤ nn)  {x1 x2 x3 x4 x5 : Int} (hx1 : z32 x1) (hx2 : z32 x2) (hx3 : z32 x3) (hx4 : z32 x4) (hx5 : z32 x5) {M : zMem} {Q : Option zAV → zMem → zZ → Prop} {P : (Int × Int × zMem) ⊕ (Int × Int × zMem) → Prop} (h : zSat (fX12_warms_j128 x1 x2 x3 x4 x5 M) P)  (hc : ∀ s : Int × Int × zMem, P (.inl s) → z32 (s.1) → z32 (s.2.1) → zV zmX12_warms nn 0 0 Z 25 [(0, zR 200), (1, zI x1), (2, zI (s.1)), (3, zI (s.2.1))] [] (s.2.2) Q) (he : ∀ s : Int × Int × zMem, P (.inr s) → z32 (s.1) → z32 (s.2.1) → zV zmX12_warms nn 0 0 Z 160 [(0, zR 200), (1, zI x1), (2, zI (s.1)), (3, zI (s.2.1))] [] (s.2.2) Q)   : zV zmX12_warms nn 0 0 Z 128 [(0, zR 200), (1, zI x1), (2, zI x2), (3, zI x3), (4, zI x4), (5, zI x5)] [] M Q := by
  unfold fX12_warms_j128 at h
  refine zV_iload 4 dX12_warms_128 rfl ?_
  refine zV_if_le 140 dX12_warms_130 (by decide) hx4 (fun hc_ => ?_) (fun hc_ => ?_)
  · replace h := zs_t h hc_
    refine zV_iconst (v := 0) dX12_warms_140 rfl ?_
    refine zV_iload_n 2 dX12_warms_141 rfl rfl ?_
    refine zV_aload_n 0 dX12_warms_142 rfl rfl ?_
    refine zV_getR (j := 225) (zq_200 hZ) zf_X12_24 zkf_X12_56 rfl dX12_warms_143 ?_
    refine zV_bipush (v := 7) dX12_warms_146 rfl ?_
    obtain ⟨hg, h⟩ := zs_gd h
    refine zV_iald (zq_225 hZ) hg dX12_warms_148 (fun m9 => ?_)
    refine zV_isub dX12_warms_149 ?_
    refine zV_w ?_
    refine zV_mmax zml_X12_372 dX12_warms_150 (Nat.le_trans (by decide) hn) (Nat.le_of_ble_eq_true rfl) zi_0 (z32_w _) ?_
    refine zV_ls [0, 1, 2, 3] rfl ?_
    exact fX12_warms_j153_ok hZ hn hx1 hx2 hx3 (z32_max zi_0 (z32_w _)) h hc he
  · replace h := zs_f h hc_
    refine zV_iload_n 2 dX12_warms_133 rfl rfl ?_
    refine zV_iload 5 dX12_warms_134 rfl ?_
    refine zV_iadd dX12_warms_136 ?_
    refine zV_goto 153 dX12_warms_137 (by decide) ?_
    refine zV_w ?_
    refine zV_ls [0, 1, 2, 3] rfl ?_
    exact fX12_warms_j153_ok hZ hn hx1 hx2 hx3 (z32_w _) h hc he
noncomputable def fX12_warms_j122 (x1 x2 x3 x4 x5 : Int) (M : zMem) : Option ((Int × Int × zMem) ⊕ (Int × Int × zMem)) :=
  (zgd (¬ 2 = (0 : Int)) (fX12_warms_j128 x1 x2 x3 x4 (zdiv x5 2) M))
set_option maxRecDepth 100000 in
set_option maxHeartbeats 4000000 in
theorem fX12_warms_j122_ok {Z : zZ} (hZ : zB Z) {nn : Nat} (hn : 3 ≤ nn)  {x1 x2 x3 x4 x5 : Int} (hx1 : z32 x1) (hx2 : z32 x2) (hx3 : z32 x3) (hx4 : z32 x4) (hx5 : z32 x5) {M : zMem} {Q : Option zAV → zMem → zZ → Prop} {P : (Int × Int × zMem) ⊕ (Int × Int × zMem) → Prop} (h : zSat (fX12_warms_j122 x1 x2 x3 x4 x5 M) P)  (hc : ∀ s : Int × Int × zMem, P (.inl s) → z32 (s.1) → z32 (s.2.1) → zV zmX12_warms nn 0 0 Z 25 [(0, zR 200), (1, zI x1), (2, zI (s.1)), (3, zI (s.2.1))] [] (s.2.2) Q) (he : ∀ s : Int × Int × zMem, P (.inr s) → z32 (s.1) → z32 (s.2.1) → zV zmX12_warms nn 0 0 Z 160 [(0, zR 200), (1, zI x1), (2, zI (s.1)), (3, zI (s.2.1))] [] (s.2.2) Q)   : zV zmX12_warms nn 0 0 Z 122 [(0, zR 200), (1, zI x1), (2, zI x2), (3, zI x3), (4, zI x4), (5, zI x5)] [] M Q := by
  unfold fX12_warms_j122 at h
  refine zV_iload 5 dX12_warms_122 rfl ?_
  refine zV_iconst (v := 2) dX12_warms_124 rfl ?_
  obtain ⟨hg, h⟩ := zs_gd h
  refine zV_idiv dX12_warms_125 zi_2 hg ?_
  refine zV_istore [(5, zI (zdiv x5 2)), (0, zR 200), (1, zI x1), (2, zI x2), (3, zI x3), (4, zI x4)] dX12_warms_126 (by decide) rfl ?_
  refine zV_ls [1, 2, 3, 4, 5, 0] rfl ?_
  exact fX12_warms_j128_ok hZ hn hx1 hx2 hx3 hx4 (z32_i _) h hc he
noncomputable def fX12_warms_j82 (x1 x2 x3 : Int) (M : zMem) : Option ((Int × Int × zMem) ⊕ (Int × Int × zMem)) :=
  (zbd (fX12_touchedIn x1 x3 M) fun r3 => (zgd ((0 : Int) ≤ (6 : Int) ∧ (6 : Int) < 66) (zgd ((0 : Int) ≤ x1 ∧ x1 < 72) (if (M 218 x1) = 1 then fX12_warms_j122 x1 x2 x3 r3 (zw ((M 225 6) * r3)) M else (zgd ((0 : Int) ≤ x1 ∧ x1 < 72) (if (M 218 x1) = 2 then fX12_warms_j122 x1 x2 x3 r3 (zw ((M 225 6) * r3)) M else fX12_warms_j128 x1 x2 x3 r3 (zw ((M 225 6) * r3)) M))))))
set_option maxRecDepth 100000 in
set_option maxHeartbeats 4000000 in
theorem fX12_warms_j82_ok {Z : zZ} (hZ : zB Z) {nn : Nat} (hn : 3 ≤ nn)  {x1 x2 x3 : Int} (hx1 : z32 x1) (hx2 : z32 x2) (hx3 : z32 x3) {M : zMem} {Q : Option zAV → zMem → zZ → Prop} {P : (Int × Int × zMem) ⊕ (Int × Int × zMem) → Prop} (h : zSat (fX12_warms_j82 x1 x2 x3 M) P)  (hc : ∀ s : Int × Int × zMem, P (.inl s) → z32 (s.1) → z32 (s.2.1) → zV zmX12_warms nn 0 0 Z 25 [(0, zR 200), (1, zI x1), (2, zI (s.1)), (3, zI (s.2.1))] [] (s.2.2) Q) (he : ∀ s : Int × Int × zMem, P (.inr s) → z32 (s.1) → z32 (s.2.1) → zV zmX12_warms nn 0 0 Z 160 [(0, zR 200), (1, zI x1), (2, zI (s.1)), (3, zI (s.2.1))] [] (s.2.2) Q)   : zV zmX12_warms nn 0 0 Z 82 [(0, zR 200), (1, zI x1), (2, zI x2), (3, zI x3)] [] M Q := by
  unfold fX12_warms_j82 at h
  refine zV_aload_n 0 dX12_warms_82 rfl rfl ?_
  refine zV_iload_n 1 dX12_warms_83 rfl rfl ?_
  refine zV_iload_n 3 dX12_warms_84 rfl rfl ?_
  refine zV_cVI (y' := zmX12_touchedIn) (n' := 2) (As := [zI x1, zI x3]) zc_X12_367 (zq_200 hZ) rfl dX12_warms_85 (Nat.le_trans (by decide) hn) rfl (Nat.le_of_ble_eq_true rfl) (Nat.le_of_ble_eq_true rfl) rfl h (fun Q' h' => fX12_touchedIn_ok hZ (Nat.le_refl _) hx1 hx3 h') (fun r3 c4 b5 h => ?_)
  refine zV_istore [(4, zI r3), (0, zR 200), (1, zI x1), (2, zI x2), (3, zI x3)] dX12_warms_88 (by decide) rfl ?_
  refine zV_aload_n 1 dX12_warms_90 rfl rfl ?_
  refine zV_getR (j := 225) (zq_200 hZ) zf_X12_24 zkf_X12_56 rfl dX12_warms_91 ?_
  refine zV_bipush (v := 6) dX12_warms_94 rfl ?_
  obtain ⟨hg, h⟩ := zs_gd h
  refine zV_iald (zq_225 hZ) hg dX12_warms_96 (fun m7 => ?_)
  refine zV_iload 0 dX12_warms_97 rfl ?_
  refine zV_imul dX12_warms_99 ?_
  refine zV_w ?_
  refine zV_istore [(5, zI (zw ((M 225 6) * r3))), (4, zI r3), (0, zR 200), (1, zI x1), (2, zI x2), (3, zI x3)] dX12_warms_100 (by decide) rfl ?_
  refine zV_aload_n 2 dX12_warms_102 rfl rfl ?_
  refine zV_getR (j := 218) (zq_200 hZ) zf_X12_17 zkf_X12_35 rfl dX12_warms_103 ?_
  refine zV_iload_n 3 dX12_warms_106 rfl rfl ?_
  obtain ⟨hg, h⟩ := zs_gd h
  refine zV_iald (zq_218 hZ) hg dX12_warms_107 (fun m8 => ?_)
  refine zV_iconst (v := 1) dX12_warms_108 rfl ?_
  refine zV_icmp_eq 122 dX12_warms_109 (by decide) m8 zi_1 (fun hc_ => ?_) (fun hc_ => ?_)
  · replace h := zs_t h hc_
    refine zV_ls [2, 3, 4, 5, 1, 0] rfl ?_
    exact fX12_warms_j122_ok hZ hn hx1 hx2 hx3 c4 (z32_w _) h hc he
  · replace h := zs_f h hc_
    refine zV_aload_n 2 dX12_warms_112 rfl rfl ?_
    refine zV_getR (j := 218) (zq_200 hZ) zf_X12_17 zkf_X12_35 rfl dX12_warms_113 ?_
    refine zV_iload_n 3 dX12_warms_116 rfl rfl ?_
    obtain ⟨hg, h⟩ := zs_gd h
    refine zV_iald (zq_218 hZ) hg dX12_warms_117 (fun m10 => ?_)
    refine zV_iconst (v := 2) dX12_warms_118 rfl ?_
    refine zV_icmp_ne 128 dX12_warms_119 (by decide) m10 zi_2 (fun hc_ => ?_) (fun hc_ => ?_)
    · replace h := zs_f h hc_
      refine zV_ls [2, 3, 4, 5, 1, 0] rfl ?_
      exact fX12_warms_j128_ok hZ hn hx1 hx2 hx3 c4 (z32_w _) h hc he
    · replace h := zs_t h hc_
      refine zV_ls [2, 3, 4, 5, 1, 0] rfl ?_
      exact fX12_warms_j122_ok hZ hn hx1 hx2 hx3 c4 (z32_w _) h hc he
noncomputable def fX12_warms_l25 (x1 x2 x3 : Int) (M : zMem) : Option ((Int × Int × zMem) ⊕ (Int × Int × zMem)) :=
  (if 200 ≤ x3 then some (.inr (x2, x3, M)) else (zgd ((0 : Int) ≤ ((200 * x1) + x3) ∧ ((200 * x1) + x3) < 2400) (zgd ((0 : Int) ≤ x1 ∧ x1 < 12) (if ((zup M 250 ((200 * x1) + x3) x2) 251 x1) = 100000000 then (zgd ((0 : Int) ≤ x1 ∧ x1 < 72) (zgd ((0 : Int) ≤ (8 : Int) ∧ (8 : Int) < 66) (if x2 ≤ (zw (((zup M 250 ((200 * x1) + x3) x2) 217 x1) * ((zup M 250 ((200 * x1) + x3) x2) 225 8))) then fX12_warms_j82 x1 x2 x3 (zup M 250 ((200 * x1) + x3) x2) else (zgd ((0 : Int) ≤ x1 ∧ x1 < 12) (fX12_warms_j82 x1 x2 x3 (zup (zup M 250 ((200 * x1) + x3) x2) 251 x1 x3)))))) else fX12_warms_j82 x1 x2 x3 (zup M 250 ((200 * x1) + x3) x2)))))
set_option maxRecDepth 100000 in
set_option maxHeartbeats 4000000 in
theorem fX12_warms_l25_ok {Z : zZ} (hZ : zB Z) {nn : Nat} (hn : 3 ≤ nn)  {x1 x2 x3 : Int} (hx1 : z32 x1) (hx2 : z32 x2) (hx3 : z32 x3) {M : zMem} {Q : Option zAV → zMem → zZ → Prop} {P : (Int × Int × zMem) ⊕ (Int × Int × zMem) → Prop} (h : zSat (fX12_warms_l25 x1 x2 x3 M) P)  (hc : ∀ s : Int × Int × zMem, P (.inl s) → z32 (s.1) → z32 (s.2.1) → zV zmX12_warms nn 0 0 Z 25 [(0, zR 200), (1, zI x1), (2, zI (s.1)), (3, zI (s.2.1))] [] (s.2.2) Q) (he : ∀ s : Int × Int × zMem, P (.inr s) → z32 (s.1) → z32 (s.2.1) → zV zmX12_warms nn 0 0 Z 160 [(0, zR 200), (1, zI x1), (2, zI (s.1)), (3, zI (s.2.1))] [] (s.2.2) Q)   : zV zmX12_warms nn 0 0 Z 25 [(0, zR 200), (1, zI x1), (2, zI x2), (3, zI x3)] [] M Q := by
  unfold fX12_warms_l25 at h
  refine zV_iload_n 3 dX12_warms_25 rfl rfl ?_
  refine zV_sipush (v := 200) dX12_warms_26 rfl ?_
  refine zV_icmp_ge 160 dX12_warms_29 (by decide) hx3 zi_200 (fun hc_ => ?_) (fun hc_ => ?_)
  · replace h := zs_t h hc_
    exact he _ h hx2 hx3
  · replace h := zs_f h hc_
    refine zV_aload_n 0 dX12_warms_32 rfl rfl ?_
    refine zV_getR (j := 250) (zq_200 hZ) zf_X12_49 zkf_X12_123 rfl dX12_warms_33 ?_
    refine zV_sipush (v := 200) dX12_warms_36 rfl ?_
    refine zV_iload_n 1 dX12_warms_39 rfl rfl ?_
    refine zV_imul dX12_warms_40 ?_
    refine zV_iload_n 3 dX12_warms_41 rfl rfl ?_
    refine zV_iadd dX12_warms_42 ?_
    refine zV_iload_n 2 dX12_warms_43 rfl rfl ?_
    obtain ⟨hg, h⟩ := zs_gd h
    refine zV_iast (zq_250 hZ) (by decide) hg hx2 dX12_warms_44 ?_
    refine zV_aload_n 0 dX12_warms_45 rfl rfl ?_
    refine zV_getR (j := 251) (zq_200 hZ) zf_X12_50 zkf_X12_126 rfl dX12_warms_46 ?_
    refine zV_iload_n 1 dX12_warms_49 rfl rfl ?_
    obtain ⟨hg, h⟩ := zs_gd h
    refine zV_iald (zq_251 hZ) hg dX12_warms_50 (fun m2 => ?_)
    refine zV_ldcw (v := 100000000) zko_X12_371 rfl dX12_warms_51 ?_
    refine zV_icmp_ne 82 dX12_warms_54 (by decide) m2 zi_100000000 (fun hc_ => ?_) (fun hc_ => ?_)
    · replace h := zs_f h hc_
      exact fX12_warms_j82_ok hZ hn hx1 hx2 hx3 h hc he
    · replace h := zs_t h hc_
      refine zV_iload_n 2 dX12_warms_57 rfl rfl ?_
      refine zV_aload_n 0 dX12_warms_58 rfl rfl ?_
      refine zV_getR (j := 217) (zq_200 hZ) zf_X12_16 zkf_X12_32 rfl dX12_warms_59 ?_
      refine zV_iload_n 1 dX12_warms_62 rfl rfl ?_
      obtain ⟨hg, h⟩ := zs_gd h
      refine zV_iald (zq_217 hZ) hg dX12_warms_63 (fun m11 => ?_)
      refine zV_aload_n 0 dX12_warms_64 rfl rfl ?_
      refine zV_getR (j := 225) (zq_200 hZ) zf_X12_24 zkf_X12_56 rfl dX12_warms_65 ?_
      refine zV_bipush (v := 8) dX12_warms_68 rfl ?_
      obtain ⟨hg, h⟩ := zs_gd h
      refine zV_iald (zq_225 hZ) hg dX12_warms_70 (fun m12 => ?_)
      refine zV_imul dX12_warms_71 ?_
      refine zV_w ?_
      refine zV_icmp_le 82 dX12_warms_72 (by decide) hx2 (z32_w _) (fun hc_ => ?_) (fun hc_ => ?_)
      · replace h := zs_t h hc_
        exact fX12_warms_j82_ok hZ hn hx1 hx2 hx3 h hc he
      · replace h := zs_f h hc_
        refine zV_aload_n 0 dX12_warms_75 rfl rfl ?_
        refine zV_getR (j := 251) (zq_200 hZ) zf_X12_50 zkf_X12_126 rfl dX12_warms_76 ?_
        refine zV_iload_n 1 dX12_warms_79 rfl rfl ?_
        refine zV_iload_n 3 dX12_warms_80 rfl rfl ?_
        obtain ⟨hg, h⟩ := zs_gd h
        refine zV_iast (zq_251 hZ) (by decide) hg hx3 dX12_warms_81 ?_
        exact fX12_warms_j82_ok hZ hn hx1 hx2 hx3 h hc he
noncomputable def fX12_warms_l2 (x1 : Int) (M : zMem) : Option ((Int × zMem) ⊕ (Int × zMem)) :=
  (zgd ((0 : Int) ≤ (0 : Int) ∧ (0 : Int) < 6) (if (M 211 0) ≤ x1 then some (.inr (x1, M)) else (zgd ((0 : Int) ≤ x1 ∧ x1 < 12) (zbd (zit (fun s13 => fX12_warms_l25 x1 (s13.1) (s13.2.1) (s13.2.2)) (0, 0, (zup M 251 x1 100000000))) fun s20 => some (.inl ((zw (x1 + 1)), s20.2.2))))))
set_option maxRecDepth 100000 in
set_option maxHeartbeats 4000000 in
theorem fX12_warms_l2_ok {Z : zZ} (hZ : zB Z) {nn : Nat} (hn : 3 ≤ nn)  {x1 : Int} (hx1 : z32 x1) {M : zMem} {Q : Option zAV → zMem → zZ → Prop} {P : (Int × zMem) ⊕ (Int × zMem) → Prop} (h : zSat (fX12_warms_l2 x1 M) P)  (hc : ∀ s : Int × zMem, P (.inl s) → z32 (s.1) → zV zmX12_warms nn 0 0 Z 2 [(0, zR 200), (1, zI (s.1))] [] (s.2) Q) (he : ∀ s : Int × zMem, P (.inr s) → z32 (s.1) → zV zmX12_warms nn 0 0 Z 166 [(0, zR 200), (1, zI (s.1))] [] (s.2) Q)   : zV zmX12_warms nn 0 0 Z 2 [(0, zR 200), (1, zI x1)] [] M Q := by
  unfold fX12_warms_l2 at h
  refine zV_iload_n 1 dX12_warms_2 rfl rfl ?_
  refine zV_aload_n 0 dX12_warms_3 rfl rfl ?_
  refine zV_getR (j := 211) (zq_200 hZ) zf_X12_10 zkf_X12_13 rfl dX12_warms_4 ?_
  refine zV_iconst (v := 0) dX12_warms_7 rfl ?_
  obtain ⟨hg, h⟩ := zs_gd h
  refine zV_iald (zq_211 hZ) hg dX12_warms_8 (fun m1 => ?_)
  refine zV_icmp_ge 166 dX12_warms_9 (by decide) hx1 m1 (fun hc_ => ?_) (fun hc_ => ?_)
  · replace h := zs_t h hc_
    exact he _ h hx1
  · replace h := zs_f h hc_
    refine zV_iconst (v := 0) dX12_warms_12 rfl ?_
    refine zV_istore_n [(2, zI 0), (0, zR 200), (1, zI x1)] dX12_warms_13 rfl (by decide) rfl ?_
    refine zV_aload_n 1 dX12_warms_14 rfl rfl ?_
    refine zV_getR (j := 251) (zq_200 hZ) zf_X12_50 zkf_X12_126 rfl dX12_warms_15 ?_
    refine zV_iload_n 2 dX12_warms_18 rfl rfl ?_
    refine zV_ldcw (v := 100000000) zko_X12_371 rfl dX12_warms_19 ?_
    obtain ⟨hg, h⟩ := zs_gd h
    refine zV_iast (zq_251 hZ) (by decide) hg zi_100000000 dX12_warms_22 ?_
    refine zV_iconst (v := 0) dX12_warms_23 rfl ?_
    refine zV_istore_n [(3, zI 0), (2, zI 0), (0, zR 200), (1, zI x1)] dX12_warms_24 rfl (by decide) rfl ?_
    refine zV_ls [2, 3, 1, 0] rfl ?_
    refine (zV_loop (Vh := fun s13 : Int × Int × zMem => z32 (s13.1) → z32 (s13.2.1) → zV zmX12_warms nn 0 0 Z 25 [(0, zR 200), (1, zI x1), (2, zI (s13.1)), (3, zI (s13.2.1))] [] (s13.2.2) Q) h (fun s13 P14 hP15 hc16 he17 => ?_)) zi_0 zi_0
    intro c18 c19
    refine fX12_warms_l25_ok hZ hn hx1 c18 c19 hP15 hc16 (fun s20 h21 d22 d23 => ?_)
    have h := he17 _ h21
    refine zV_iinc 1 [(1, zI (zw (x1 + 1))), (0, zR 200), (2, zI (s20.1)), (3, zI (s20.2.1))] dX12_warms_160 rfl rfl (by decide) rfl ?_
    refine zV_goto 2 dX12_warms_163 (by decide) ?_
    refine zV_ls [1, 0] rfl ?_
    exact hc _ h (z32_w _)
noncomputable def fX12_warms (M : zMem) : Option (zMem) :=
  (zbd (zit (fun s24 => fX12_warms_l2 (s24.1) (s24.2)) (0, M)) fun s30 => some (s30.2))
set_option maxRecDepth 100000 in
set_option maxHeartbeats 4000000 in
theorem fX12_warms_ok {Z : zZ} (hZ : zB Z) {nn : Nat} (hn : 3 ≤ nn)   {M : zMem} {Q : Option zAV → zMem → zZ → Prop} (h : zSat (fX12_warms M) (fun r => Q none r Z))  : zV zmX12_warms nn 0 0 Z 0 [(0, zR 200)] [] M Q := by
  unfold fX12_warms at h
  refine zV_iconst (v := 0) dX12_warms_0 rfl ?_
  refine zV_istore_n [(1, zI 0), (0, zR 200)] dX12_warms_1 rfl (by decide) rfl ?_
  refine zV_ls [1, 0] rfl ?_
  refine (zV_loop (Vh := fun s24 : Int × zMem => z32 (s24.1) → zV zmX12_warms nn 0 0 Z 2 [(0, zR 200), (1, zI (s24.1))] [] (s24.2) Q) h (fun s24 P25 hP26 hc27 he28 => ?_)) zi_0
  intro c29
  refine fX12_warms_l2_ok hZ hn c29 hP26 hc27 (fun s30 h31 d32 => ?_)
  have h := he28 _ h31
  exact zV_vret dX12_warms_166 rfl h
