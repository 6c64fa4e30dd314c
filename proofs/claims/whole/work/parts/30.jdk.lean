noncomputable def fJ7_fill_53178_l5 (o0 no0 : Nat) (x1 x3 x2 : Int) (M : zMem) : Option ((Int × zMem) ⊕ (Int × zMem)) :=
  (if x3 ≤ x2 then some (.inr (x2, M)) else (zgd ((0 : Int) ≤ x2 ∧ x2 < ((no0 : Nat) : Int)) (some (.inl ((zw (x2 + 1)), (zup M o0 x2 x1))))))
set_option maxRecDepth 100000 in
set_option maxHeartbeats 4000000 in
theorem fJ7_fill_53178_l5_ok {Z : zZ} (hZ : zB Z) {nn : Nat} (hn : 0 ≤ nn) {o0 no0 : Nat} (hz_o0 : Z o0 = some (.inr (0, no0))) (hw_o0 : o0 < 1000)  {x1 x3 x2 : Int} (hx1 : z32 x1) (hx3 : z32 x3) (hx2 : z32 x2) {M : zMem} {Q : Option zAV → zMem → zZ → Prop} {P : (Int × zMem) ⊕ (Int × zMem) → Prop} (h : zSat (fJ7_fill_53178_l5 o0 no0 x1 x3 x2 M) P)  (hc : ∀ s : Int × zMem, P (.inl s) → z32 (s.1) → zV zmJ7_fill_53178 nn 0 0 Z 5 [(0, zR o0), (1, zI x1), (2, zI (s.1)), (3, zI x3)] [] (s.2) Q) (he : ∀ s : Int × zMem, P (.inr s) → z32 (s.1) → zV zmJ7_fill_53178 nn 0 0 Z 20 [(0, zR o0), (1, zI x1), (2, zI (s.1)), (3, zI x3)] [] (s.2) Q)   : zV zmJ7_fill_53178 nn 0 0 Z 5 [(0, zR o0), (1, zI x1), (2, zI x2), (3, zI x3)] [] M Q := by
  unfold fJ7_fill_53178_l5 at h
  refine zV_iload_n 2 dJ7_fill_53178_5 rfl rfl ?_
  refine zV_iload_n 3 dJ7_fill_53178_6 rfl rfl ?_
  refine zV_icmp_ge 20 dJ7_fill_53178_7 (by decide) hx2 hx3 (fun hc_ => ?_) (fun hc_ => ?_)
  · replace h := zs_t h hc_
    exact he _ h hx2
  · replace h := zs_f h hc_
    refine zV_aload_n 0 dJ7_fill_53178_10 rfl rfl ?_
    refine zV_iload_n 2 dJ7_fill_53178_11 rfl rfl ?_
    refine zV_iload_n 1 dJ7_fill_53178_12 rfl rfl ?_
    obtain ⟨hg, h⟩ := zs_gd h
    refine zV_iast hz_o0 hw_o0 hg hx1 dJ7_fill_53178_13 ?_
    refine zV_iinc 2 [(2, zI (zw (x2 + 1))), (0, zR o0), (1, zI x1), (3, zI x3)] dJ7_fill_53178_14 rfl rfl (by decide) rfl ?_
    refine zV_goto 5 dJ7_fill_53178_17 (by decide) ?_
    refine zV_ls [1, 2, 0, 3] rfl ?_
    exact hc _ h (z32_w _)
noncomputable def fJ7_fill_53178 (o0 no0 : Nat) (x1 : Int) (M : zMem) : Option (zMem) :=
  (zbd (zit (fun s1 => fJ7_fill_53178_l5 o0 no0 x1 (zw ((no0 : Nat) : Int)) (s1.1) (s1.2)) (0, M)) fun s7 => some (s7.2))
set_option maxRecDepth 100000 in
set_option maxHeartbeats 4000000 in
theorem fJ7_fill_53178_ok {Z : zZ} (hZ : zB Z) {nn : Nat} (hn : 0 ≤ nn) {o0 no0 : Nat} (hz_o0 : Z o0 = some (.inr (0, no0))) (hw_o0 : o0 < 1000)  {x1 : Int} (hx1 : z32 x1) {M : zMem} {Q : Option zAV → zMem → zZ → Prop} (h : zSat (fJ7_fill_53178 o0 no0 x1 M) (fun r => Q none r Z))  : zV zmJ7_fill_53178 nn 0 0 Z 0 [(0, zR o0), (1, zI x1)] [] M Q := by
  unfold fJ7_fill_53178 at h
  refine zV_iconst (v := 0) dJ7_fill_53178_0 rfl ?_
  refine zV_istore_n [(2, zI 0), (0, zR o0), (1, zI x1)] dJ7_fill_53178_1 rfl (by decide) rfl ?_
  refine zV_aload_n 1 dJ7_fill_53178_2 rfl rfl ?_
  refine zV_alen hz_o0 (by decide) dJ7_fill_53178_3 ?_
  refine zV_w ?_
  refine zV_istore_n [(3, zI (zw ((no0 : Nat) : Int))), (2, zI 0), (0, zR o0), (1, zI x1)] dJ7_fill_53178_4 rfl (by decide) rfl ?_
  refine zV_ls [2, 3, 1, 0] rfl ?_
  refine (zV_loop (Vh := fun s1 : Int × zMem => z32 (s1.1) → zV zmJ7_fill_53178 nn 0 0 Z 5 [(0, zR o0), (1, zI x1), (2, zI (s1.1)), (3, zI (zw ((no0 : Nat) : Int)))] [] (s1.2) Q) h (fun s1 P2 hP3 hc4 he5 => ?_)) zi_0
  intro c6
  refine fJ7_fill_53178_l5_ok hZ hn hz_o0 hw_o0 hx1 (z32_w _) c6 hP3 hc4 (fun s7 h8 d9 => ?_)
  have h := he5 _ h8
  exact zV_vret dJ7_fill_53178_20 rfl h
noncomputable def fJ6_bitCount_0f7a4 (x0 : Int) (M : zMem) : Option (Int) :=
  some (zand (zw ((zw ((zand ((zw ((zand (zw (x0 - (zand (zushr x0 1) 1431655765))) 858993459) + (zand (zushr (zw (x0 - (zand (zushr x0 1) 1431655765))) 2) 858993459))) + (zushr (zw ((zand (zw (x0 - (zand (zushr x0 1) 1431655765))) 858993459) + (zand (zushr (zw (x0 - (zand (zushr x0 1) 1431655765))) 2) 858993459))) 4)) 252645135) + (zushr (zand ((zw ((zand (zw (x0 - (zand (zushr x0 1) 1431655765))) 858993459) + (zand (zushr (zw (x0 - (zand (zushr x0 1) 1431655765))) 2) 858993459))) + (zushr (zw ((zand (zw (x0 - (zand (zushr x0 1) 1431655765))) 858993459) + (zand (zushr (zw (x0 - (zand (zushr x0 1) 1431655765))) 2) 858993459))) 4)) 252645135) 8))) + (zushr (zw ((zand ((zw ((zand (zw (x0 - (zand (zushr x0 1) 1431655765))) 858993459) + (zand (zushr (zw (x0 - (zand (zushr x0 1) 1431655765))) 2) 858993459))) + (zushr (zw ((zand (zw (x0 - (zand (zushr x0 1) 1431655765))) 858993459) + (zand (zushr (zw (x0 - (zand (zushr x0 1) 1431655765))) 2) 858993459))) 4)) 252645135) + (zushr (zand ((zw ((zand (zw (x0 - (zand (zushr x0 1) 1431655765))) 858993459) + (zand (zushr (zw (x0 - (zand (zushr x0 1) 1431655765))) 2) 858993459))) + (zushr (zw ((zand (zw (x0 - (zand (zushr x0 1) 1431655765))) 858993459) + (zand (zushr (zw (x0 - (zand (zushr x0 1) 1431655765))) 2) 858993459))) 4)) 252645135) 8))) 16))) 63)
set_option maxRecDepth 100000 in
set_option maxHeartbeats 4000000 in
theorem fJ6_bitCount_0f7a4_ok {Z : zZ} (hZ : zB Z) {nn : Nat} (hn : 0 ≤ nn)  {x0 : Int} (hx0 : z32 x0) {M : zMem} {Q : Option zAV → zMem → zZ → Prop} (h : zSat (fJ6_bitCount_0f7a4 x0 M) (fun r => Q (some (zI r)) M Z))  : zV zmJ6_bitCount_0f7a4 nn 0 0 Z 0 [(0, zI x0)] [] M Q := by
  unfold fJ6_bitCount_0f7a4 at h
  refine zV_iload_n 0 dJ6_bitCount_0f7a4_0 rfl rfl ?_
  refine zV_iload_n 0 dJ6_bitCount_0f7a4_1 rfl rfl ?_
  refine zV_iconst (v := 1) dJ6_bitCount_0f7a4_2 rfl ?_
  refine zV_iushr dJ6_bitCount_0f7a4_3 ?_
  refine zV_ldcw (v := 1431655765) zko_J6_265 rfl dJ6_bitCount_0f7a4_4 ?_
  refine zV_iand dJ6_bitCount_0f7a4_7 ?_
  refine zV_isub dJ6_bitCount_0f7a4_8 ?_
  refine zV_w ?_
  refine zV_istore_n [(0, zI (zw (x0 - (zand (zushr x0 1) 1431655765))))] dJ6_bitCount_0f7a4_9 rfl (by decide) rfl ?_
  refine zV_iload_n 0 dJ6_bitCount_0f7a4_10 rfl rfl ?_
  refine zV_ldcw (v := 858993459) zko_J6_266 rfl dJ6_bitCount_0f7a4_11 ?_
  refine zV_iand dJ6_bitCount_0f7a4_14 ?_
  refine zV_iload_n 0 dJ6_bitCount_0f7a4_15 rfl rfl ?_
  refine zV_iconst (v := 2) dJ6_bitCount_0f7a4_16 rfl ?_
  refine zV_iushr dJ6_bitCount_0f7a4_17 ?_
  refine zV_ldcw (v := 858993459) zko_J6_266 rfl dJ6_bitCount_0f7a4_18 ?_
  refine zV_iand dJ6_bitCount_0f7a4_21 ?_
  refine zV_iadd dJ6_bitCount_0f7a4_22 ?_
  refine zV_w ?_
  refine zV_istore_n [(0, zI (zw ((zand (zw (x0 - (zand (zushr x0 1) 1431655765))) 858993459) + (zand (zushr (zw (x0 - (zand (zushr x0 1) 1431655765))) 2) 858993459))))] dJ6_bitCount_0f7a4_23 rfl (by decide) rfl ?_
  refine zV_iload_n 0 dJ6_bitCount_0f7a4_24 rfl rfl ?_
  refine zV_iload_n 0 dJ6_bitCount_0f7a4_25 rfl rfl ?_
  refine zV_iconst (v := 4) dJ6_bitCount_0f7a4_26 rfl ?_
  refine zV_iushr dJ6_bitCount_0f7a4_27 ?_
  refine zV_iadd dJ6_bitCount_0f7a4_28 ?_
  refine zV_ldcw (v := 252645135) zko_J6_267 rfl dJ6_bitCount_0f7a4_29 ?_
  refine zV_iand dJ6_bitCount_0f7a4_32 ?_
  refine zV_istore_n [(0, zI (zand ((zw ((zand (zw (x0 - (zand (zushr x0 1) 1431655765))) 858993459) + (zand (zushr (zw (x0 - (zand (zushr x0 1) 1431655765))) 2) 858993459))) + (zushr (zw ((zand (zw (x0 - (zand (zushr x0 1) 1431655765))) 858993459) + (zand (zushr (zw (x0 - (zand (zushr x0 1) 1431655765))) 2) 858993459))) 4)) 252645135))] dJ6_bitCount_0f7a4_33 rfl (by decide) rfl ?_
  refine zV_iload_n 0 dJ6_bitCount_0f7a4_34 rfl rfl ?_
  refine zV_iload_n 0 dJ6_bitCount_0f7a4_35 rfl rfl ?_
  refine zV_bipush (v := 8) dJ6_bitCount_0f7a4_36 rfl ?_
  refine zV_iushr dJ6_bitCount_0f7a4_38 ?_
  refine zV_iadd dJ6_bitCount_0f7a4_39 ?_
  refine zV_w ?_
  refine zV_istore_n [(0, zI (zw ((zand ((zw ((zand (zw (x0 - (zand (zushr x0 1) 1431655765))) 858993459) + (zand (zushr (zw (x0 - (zand (zushr x0 1) 1431655765))) 2) 858993459))) + (zushr (zw ((zand (zw (x0 - (zand (zushr x0 1) 1431655765))) 858993459) + (zand (zushr (zw (x0 - (zand (zushr x0 1) 1431655765))) 2) 858993459))) 4)) 252645135) + (zushr (zand ((zw ((zand (zw (x0 - (zand (zushr x0 1) 1431655765))) 858993459) + (zand (zushr (zw (x0 - (zand (zushr x0 1) 1431655765))) 2) 858993459))) + (zushr (zw ((zand (zw (x0 - (zand (zushr x0 1) 1431655765))) 858993459) + (zand (zushr (zw (x0 - (zand (zushr x0 1) 1431655765))) 2) 858993459))) 4)) 252645135) 8))))] dJ6_bitCount_0f7a4_40 rfl (by decide) rfl ?_
  refine zV_iload_n 0 dJ6_bitCount_0f7a4_41 rfl rfl ?_
  refine zV_iload_n 0 dJ6_bitCount_0f7a4_42 rfl rfl ?_
  refine zV_bipush (v := 16) dJ6_bitCount_0f7a4_43 rfl ?_
  refine zV_iushr dJ6_bitCount_0f7a4_45 ?_
  refine zV_iadd dJ6_bitCount_0f7a4_46 ?_
  refine zV_w ?_
  refine zV_istore_n [(0, zI (zw ((zw ((zand ((zw ((zand (zw (x0 - (zand (zushr x0 1) 1431655765))) 858993459) + (zand (zushr (zw (x0 - (zand (zushr x0 1) 1431655765))) 2) 858993459))) + (zushr (zw ((zand (zw (x0 - (zand (zushr x0 1) 1431655765))) 858993459) + (zand (zushr (zw (x0 - (zand (zushr x0 1) 1431655765))) 2) 858993459))) 4)) 252645135) + (zushr (zand ((zw ((zand (zw (x0 - (zand (zushr x0 1) 1431655765))) 858993459) + (zand (zushr (zw (x0 - (zand (zushr x0 1) 1431655765))) 2) 858993459))) + (zushr (zw ((zand (zw (x0 - (zand (zushr x0 1) 1431655765))) 858993459) + (zand (zushr (zw (x0 - (zand (zushr x0 1) 1431655765))) 2) 858993459))) 4)) 252645135) 8))) + (zushr (zw ((zand ((zw ((zand (zw (x0 - (zand (zushr x0 1) 1431655765))) 858993459) + (zand (zushr (zw (x0 - (zand (zushr x0 1) 1431655765))) 2) 858993459))) + (zushr (zw ((zand (zw (x0 - (zand (zushr x0 1) 1431655765))) 858993459) + (zand (zushr (zw (x0 - (zand (zushr x0 1) 1431655765))) 2) 858993459))) 4)) 252645135) + (zushr (zand ((zw ((zand (zw (x0 - (zand (zushr x0 1) 1431655765))) 858993459) + (zand (zushr (zw (x0 - (zand (zushr x0 1) 1431655765))) 2) 858993459))) + (zushr (zw ((zand (zw (x0 - (zand (zushr x0 1) 1431655765))) 858993459) + (zand (zushr (zw (x0 - (zand (zushr x0 1) 1431655765))) 2) 858993459))) 4)) 252645135) 8))) 16))))] dJ6_bitCount_0f7a4_47 rfl (by decide) rfl ?_
  refine zV_iload_n 0 dJ6_bitCount_0f7a4_48 rfl rfl ?_
  refine zV_bipush (v := 63) dJ6_bitCount_0f7a4_49 rfl ?_
  refine zV_iand dJ6_bitCount_0f7a4_51 ?_
  exact zV_ireti dJ6_bitCount_0f7a4_52 rfl (z32_i _) h
