noncomputable def fX0_followed_l2 (x1 x2 : Int) (M : zMem) : Option ((Int) ⊕ ((Int) ⊕ (Int))) :=
  (if x1 ≤ x2 then some (.inr (.inl x2)) else (zbd (fX5_follows 80 x2 x1 M) fun r1 => (if r1 = 0 then some (.inl (zw (x2 + 1))) else some (.inr (.inr x2)))))
set_option maxRecDepth 100000 in
set_option maxHeartbeats 4000000 in
theorem fX0_followed_l2_ok {Z : zZ} (hZ : zB Z) {nn : Nat} (hn : 2 ≤ nn)  {x1 x2 : Int} (hx1 : z32 x1) (hx2 : z32 x2) {M : zMem} {Q : Option zAV → zMem → zZ → Prop} {P : (Int) ⊕ ((Int) ⊕ (Int)) → Prop} (h : zSat (fX0_followed_l2 x1 x2 M) P)  (hc : ∀ s : Int, P (.inl s) → z32 s → zV zmX0_followed nn 0 0 Z 2 [(0, zR 130), (1, zI x1), (2, zI s)] [] M Q) (he : ∀ s : Int, P (.inr (.inl s)) → z32 s → zV zmX0_followed nn 0 0 Z 27 [(0, zR 130), (1, zI x1), (2, zI s)] [] M Q) (hr : ∀ r : Int, P (.inr (.inr r)) → (fun r => Q (some (zI r)) M Z) r)  : zV zmX0_followed nn 0 0 Z 2 [(0, zR 130), (1, zI x1), (2, zI x2)] [] M Q := by
  unfold fX0_followed_l2 at h
  refine zV_iload_n 2 dX0_followed_2 rfl rfl ?_
  refine zV_iload_n 1 dX0_followed_3 rfl rfl ?_
  refine zV_icmp_ge 27 dX0_followed_4 (by decide) hx2 hx1 (fun hc_ => ?_) (fun hc_ => ?_)
  · replace h := zs_t h hc_
    exact he _ h hx2
  · replace h := zs_f h hc_
    refine zV_aload_n 0 dX0_followed_7 rfl rfl ?_
    refine zV_getR (j := 80) (zq_130 hZ) zf_X0_1 zkf_X0_28 rfl dX0_followed_8 ?_
    refine zV_iload_n 2 dX0_followed_11 rfl rfl ?_
    refine zV_iload_n 1 dX0_followed_12 rfl rfl ?_
    refine zV_cVI (y' := zmX5_follows) (n' := 1) (As := [zI x2, zI x1]) zc_X0_85 (zq_80 hZ) rfl dX0_followed_13 (Nat.le_trans (by decide) hn) rfl (Nat.le_of_ble_eq_true rfl) (Nat.le_of_ble_eq_true rfl) rfl h (fun Q' h' => fX5_follows_ok hZ (Nat.le_refl _) (zqpi_80 hZ) (by decide) hx2 hx1 h') (fun r1 c2 b3 h => ?_)
    refine zV_if_eq 21 dX0_followed_16 (by decide) c2 (fun hc_ => ?_) (fun hc_ => ?_)
    · replace h := zs_t h hc_
      refine zV_iinc 2 [(2, zI (zw (x2 + 1))), (0, zR 130), (1, zI x1)] dX0_followed_21 rfl rfl (by decide) rfl ?_
      refine zV_goto 2 dX0_followed_24 (by decide) ?_
      refine zV_ls [1, 2, 0] rfl ?_
      exact hc _ h (z32_w _)
    · replace h := zs_f h hc_
      refine zV_iload_n 2 dX0_followed_19 rfl rfl ?_
      exact zV_ireti dX0_followed_20 rfl hx2 (hr _ h)
noncomputable def fX0_followed (x1 : Int) (M : zMem) : Option (Int) :=
  (zbd (zit (fun s5 => fX0_followed_l2 x1 s5 M) 0) fun e => zel e (fun s11 => some (-1)) (fun r => some r))
set_option maxRecDepth 100000 in
set_option maxHeartbeats 4000000 in
theorem fX0_followed_ok {Z : zZ} (hZ : zB Z) {nn : Nat} (hn : 2 ≤ nn)  {x1 : Int} (hx1 : z32 x1) {M : zMem} {Q : Option zAV → zMem → zZ → Prop} (h : zSat (fX0_followed x1 M) (fun r => Q (some (zI r)) M Z))  : zV zmX0_followed nn 0 0 Z 0 [(0, zR 130), (1, zI x1)] [] M Q := by
  unfold fX0_followed at h
  refine zV_iconst (v := 0) dX0_followed_0 rfl ?_
  refine zV_istore_n [(2, zI 0), (0, zR 130), (1, zI x1)] dX0_followed_1 rfl (by decide) rfl ?_
  refine zV_ls [1, 2, 0] rfl ?_
  refine (zV_loop (Vh := fun s5 : Int => z32 s5 → zV zmX0_followed nn 0 0 Z 2 [(0, zR 130), (1, zI x1), (2, zI s5)] [] M Q) h (fun s5 P6 hP7 hc8 he9 => ?_)) zi_0
  intro c10
  refine fX0_followed_l2_ok hZ hn hx1 c10 hP7 hc8 (fun s11 h12 d13 => ?_) (fun r14 h15 => he9 _ h15)
  have h := he9 _ h12
  refine zV_iconst (v := (-1)) dX0_followed_27 rfl ?_
  exact zV_ireti dX0_followed_28 rfl zi_n1 h
noncomputable def fX0_sureFrom_j128 (x1 x2 x3 s0 s1 : Int) (M : zMem) : Option ((Int × Int × zMem) ⊕ (Int × Int × zMem)) :=
  some (.inl ((zw (s1 + s0)), (zw (x3 + 1)), M))
set_option maxRecDepth 100000 in
set_option maxHeartbeats 4000000 in
theorem fX0_sureFrom_j128_ok {Z : zZ} (hZ : zB Z) {nn : Nat} (hn : 3 ≤ nn)  {x1 x2 x3 s0 s1 : Int} (hx1 : z32 x1) (hx2 : z32 x2) (hx3 : z32 x3) (hs0 : z32 s0) (hbs0 : s0 = 0 ∨ s0 = 1) (hs1 : z32 s1) {M : zMem} {Q : Option zAV → zMem → zZ → Prop} {P : (Int × Int × zMem) ⊕ (Int × Int × zMem) → Prop} (h : zSat (fX0_sureFrom_j128 x1 x2 x3 s0 s1 M) P)  (hc : ∀ s : Int × Int × zMem, P (.inl s) → z32 (s.1) → z32 (s.2.1) → zV zmX0_sureFrom nn 0 0 Z 4 [(0, zR 130), (1, zI x1), (2, zI (s.1)), (3, zI (s.2.1))] [] (s.2.2) Q) (he : ∀ s : Int × Int × zMem, P (.inr s) → z32 (s.1) → z32 (s.2.1) → zV zmX0_sureFrom nn 0 0 Z 136 [(0, zR 130), (1, zI x1), (2, zI (s.1)), (3, zI (s.2.1))] [] (s.2.2) Q)   : zV zmX0_sureFrom nn 0 0 Z 128 [(0, zR 130), (1, zI x1), (2, zI x2), (3, zI x3)] [zI s0, zI s1] M Q := by
  unfold fX0_sureFrom_j128 at h
  refine zV_iadd dX0_sureFrom_128 ?_
  refine zV_w ?_
  refine zV_istore_n [(2, zI (zw (s1 + s0))), (0, zR 130), (1, zI x1), (3, zI x3)] dX0_sureFrom_129 rfl (by decide) rfl ?_
  refine zV_iinc 3 [(3, zI (zw (x3 + 1))), (2, zI (zw (s1 + s0))), (0, zR 130), (1, zI x1)] dX0_sureFrom_130 rfl rfl (by decide) rfl ?_
  refine zV_goto 4 dX0_sureFrom_133 (by decide) ?_
  refine zV_ls [2, 3, 1, 0] rfl ?_
  exact hc _ h (z32_w _) (z32_w _)
noncomputable def fX0_sureFrom_j123 (x1 x2 x3 s0 : Int) (M : zMem) : Option ((Int × Int × zMem) ⊕ (Int × Int × zMem)) :=
  fX0_sureFrom_j128 x1 x2 x3 0 s0 M
set_option maxRecDepth 100000 in
set_option maxHeartbeats 4000000 in
theorem fX0_sureFrom_j123_ok {Z : zZ} (hZ : zB Z) {nn : Nat} (hn : 3 ≤ nn)  {x1 x2 x3 s0 : Int} (hx1 : z32 x1) (hx2 : z32 x2) (hx3 : z32 x3) (hs0 : z32 s0) {M : zMem} {Q : Option zAV → zMem → zZ → Prop} {P : (Int × Int × zMem) ⊕ (Int × Int × zMem) → Prop} (h : zSat (fX0_sureFrom_j123 x1 x2 x3 s0 M) P)  (hc : ∀ s : Int × Int × zMem, P (.inl s) → z32 (s.1) → z32 (s.2.1) → zV zmX0_sureFrom nn 0 0 Z 4 [(0, zR 130), (1, zI x1), (2, zI (s.1)), (3, zI (s.2.1))] [] (s.2.2) Q) (he : ∀ s : Int × Int × zMem, P (.inr s) → z32 (s.1) → z32 (s.2.1) → zV zmX0_sureFrom nn 0 0 Z 136 [(0, zR 130), (1, zI x1), (2, zI (s.1)), (3, zI (s.2.1))] [] (s.2.2) Q)   : zV zmX0_sureFrom nn 0 0 Z 123 [(0, zR 130), (1, zI x1), (2, zI x2), (3, zI x3)] [zI s0] M Q := by
  unfold fX0_sureFrom_j123 at h
  refine zV_iconst (v := 0) dX0_sureFrom_123 rfl ?_
  refine zV_goto 128 dX0_sureFrom_124 (by decide) ?_
  exact fX0_sureFrom_j128_ok hZ hn hx1 hx2 hx3 zi_0 (Or.inl rfl) hs0 h hc he
noncomputable def fX0_sureFrom_j111 (x1 x2 x3 x6 s0 s1 : Int) (M : zMem) : Option ((Int × Int × zMem) ⊕ (Int × Int × zMem)) :=
  (zgd ((0 : Int) ≤ s1 ∧ s1 < 8) (if x3 < x1 then fX0_sureFrom_j123 x1 x2 x3 x2 (zup M 137 s1 s0) else (if x6 = 0 then fX0_sureFrom_j128 x1 x2 x3 1 x2 (zup M 137 s1 s0) else fX0_sureFrom_j123 x1 x2 x3 x2 (zup M 137 s1 s0))))
set_option maxRecDepth 100000 in
set_option maxHeartbeats 4000000 in
theorem fX0_sureFrom_j111_ok {Z : zZ} (hZ : zB Z) {nn : Nat} (hn : 3 ≤ nn)  {x1 x2 x3 x6 s0 s1 : Int} (hx1 : z32 x1) (hx2 : z32 x2) (hx3 : z32 x3) (hx6 : z32 x6) (hbx6 : x6 = 0 ∨ x6 = 1) (hs0 : z32 s0) (hs1 : z32 s1) {M : zMem} {Q : Option zAV → zMem → zZ → Prop} {P : (Int × Int × zMem) ⊕ (Int × Int × zMem) → Prop} (h : zSat (fX0_sureFrom_j111 x1 x2 x3 x6 s0 s1 M) P)  (hc : ∀ s : Int × Int × zMem, P (.inl s) → z32 (s.1) → z32 (s.2.1) → zV zmX0_sureFrom nn 0 0 Z 4 [(0, zR 130), (1, zI x1), (2, zI (s.1)), (3, zI (s.2.1))] [] (s.2.2) Q) (he : ∀ s : Int × Int × zMem, P (.inr s) → z32 (s.1) → z32 (s.2.1) → zV zmX0_sureFrom nn 0 0 Z 136 [(0, zR 130), (1, zI x1), (2, zI (s.1)), (3, zI (s.2.1))] [] (s.2.2) Q)   : zV zmX0_sureFrom nn 0 0 Z 111 [(0, zR 130), (1, zI x1), (2, zI x2), (3, zI x3), (6, zI x6)] [zI s0, zI s1, zR 137] M Q := by
  unfold fX0_sureFrom_j111 at h
  obtain ⟨hg, h⟩ := zs_gd h
  refine zV_iast (zq_137 hZ) (by decide) hg hs0 dX0_sureFrom_111 ?_
  refine zV_iload_n 2 dX0_sureFrom_112 rfl rfl ?_
  refine zV_iload_n 3 dX0_sureFrom_113 rfl rfl ?_
  refine zV_iload_n 1 dX0_sureFrom_114 rfl rfl ?_
  refine zV_icmp_lt 123 dX0_sureFrom_115 (by decide) hx3 hx1 (fun hc_ => ?_) (fun hc_ => ?_)
  · replace h := zs_t h hc_
    refine zV_ls [0, 1, 2, 3] rfl ?_
    exact fX0_sureFrom_j123_ok hZ hn hx1 hx2 hx3 hx2 h hc he
  · replace h := zs_f h hc_
    refine zV_iload 4 dX0_sureFrom_118 rfl ?_
    refine zV_if_eq 127 dX0_sureFrom_120 (by decide) hx6 (fun hc_ => ?_) (fun hc_ => ?_)
    · replace h := zs_t h hc_
      refine zV_iconst (v := 1) dX0_sureFrom_127 rfl ?_
      refine zV_ls [0, 1, 2, 3] rfl ?_
      exact fX0_sureFrom_j128_ok hZ hn hx1 hx2 hx3 zi_1 (Or.inr rfl) hx2 h hc he
    · replace h := zs_f h hc_
      refine zV_ls [0, 1, 2, 3] rfl ?_
      exact fX0_sureFrom_j123_ok hZ hn hx1 hx2 hx3 hx2 h hc he
noncomputable def fX0_sureFrom_j85 (x1 x2 x3 x5 s0 : Int) (M : zMem) : Option ((Int × Int × zMem) ⊕ (Int × Int × zMem)) :=
  (if s0 = 0 then (zgd ((0 : Int) ≤ x3 ∧ x3 < 24) (fX0_sureFrom_j111 x1 x2 x3 s0 (M 84 x3) x3 M)) else fX0_sureFrom_j111 x1 x2 x3 s0 x5 x3 M)
set_option maxRecDepth 100000 in
set_option maxHeartbeats 4000000 in
theorem fX0_sureFrom_j85_ok {Z : zZ} (hZ : zB Z) {nn : Nat} (hn : 3 ≤ nn)  {x1 x2 x3 x5 s0 : Int} (hx1 : z32 x1) (hx2 : z32 x2) (hx3 : z32 x3) (hx5 : z32 x5) (hs0 : z32 s0) (hbs0 : s0 = 0 ∨ s0 = 1) {M : zMem} {Q : Option zAV → zMem → zZ → Prop} {P : (Int × Int × zMem) ⊕ (Int × Int × zMem) → Prop} (h : zSat (fX0_sureFrom_j85 x1 x2 x3 x5 s0 M) P)  (hc : ∀ s : Int × Int × zMem, P (.inl s) → z32 (s.1) → z32 (s.2.1) → zV zmX0_sureFrom nn 0 0 Z 4 [(0, zR 130), (1, zI x1), (2, zI (s.1)), (3, zI (s.2.1))] [] (s.2.2) Q) (he : ∀ s : Int × Int × zMem, P (.inr s) → z32 (s.1) → z32 (s.2.1) → zV zmX0_sureFrom nn 0 0 Z 136 [(0, zR 130), (1, zI x1), (2, zI (s.1)), (3, zI (s.2.1))] [] (s.2.2) Q)   : zV zmX0_sureFrom nn 0 0 Z 85 [(0, zR 130), (1, zI x1), (2, zI x2), (3, zI x3), (5, zI x5)] [zI s0] M Q := by
  unfold fX0_sureFrom_j85 at h
  refine zV_istore [(6, zI s0), (0, zR 130), (1, zI x1), (2, zI x2), (3, zI x3), (5, zI x5)] dX0_sureFrom_85 (by decide) rfl ?_
  refine zV_aload_n 1 dX0_sureFrom_87 rfl rfl ?_
  refine zV_getR (j := 137) (zq_130 hZ) zf_X0_6 zkf_X0_21 rfl dX0_sureFrom_88 ?_
  refine zV_iload_n 4 dX0_sureFrom_91 rfl rfl ?_
  refine zV_iload 0 dX0_sureFrom_92 rfl ?_
  refine zV_if_eq 102 dX0_sureFrom_94 (by decide) hs0 (fun hc_ => ?_) (fun hc_ => ?_)
  · replace h := zs_t h hc_
    refine zV_aload_n 1 dX0_sureFrom_102 rfl rfl ?_
    refine zV_getR (j := 80) (zq_130 hZ) zf_X0_1 zkf_X0_28 rfl dX0_sureFrom_103 ?_
    refine zV_getR (j := 84) (zq_80 hZ) zf_X5_3 zkf_X0_77 rfl dX0_sureFrom_106 ?_
    refine zV_iload_n 4 dX0_sureFrom_109 rfl rfl ?_
    obtain ⟨hg, h⟩ := zs_gd h
    refine zV_iald (zq_84 hZ) hg dX0_sureFrom_110 (fun m8 => ?_)
    refine zV_ls [1, 2, 3, 4, 0] rfl ?_
    exact fX0_sureFrom_j111_ok hZ hn hx1 hx2 hx3 hs0 hbs0 m8 hx3 h hc he
  · replace h := zs_f h hc_
    refine zV_iload 5 dX0_sureFrom_97 rfl ?_
    refine zV_goto 111 dX0_sureFrom_99 (by decide) ?_
    refine zV_ls [1, 2, 3, 4, 0] rfl ?_
    exact fX0_sureFrom_j111_ok hZ hn hx1 hx2 hx3 hs0 hbs0 hx5 hx3 h hc he
noncomputable def fX0_sureFrom_j84 (x1 x2 x3 x5 : Int) (M : zMem) : Option ((Int × Int × zMem) ⊕ (Int × Int × zMem)) :=
  fX0_sureFrom_j85 x1 x2 x3 x5 0 M
set_option maxRecDepth 100000 in
set_option maxHeartbeats 4000000 in
theorem fX0_sureFrom_j84_ok {Z : zZ} (hZ : zB Z) {nn : Nat} (hn : 3 ≤ nn)  {x1 x2 x3 x5 : Int} (hx1 : z32 x1) (hx2 : z32 x2) (hx3 : z32 x3) (hx5 : z32 x5) {M : zMem} {Q : Option zAV → zMem → zZ → Prop} {P : (Int × Int × zMem) ⊕ (Int × Int × zMem) → Prop} (h : zSat (fX0_sureFrom_j84 x1 x2 x3 x5 M) P)  (hc : ∀ s : Int × Int × zMem, P (.inl s) → z32 (s.1) → z32 (s.2.1) → zV zmX0_sureFrom nn 0 0 Z 4 [(0, zR 130), (1, zI x1), (2, zI (s.1)), (3, zI (s.2.1))] [] (s.2.2) Q) (he : ∀ s : Int × Int × zMem, P (.inr s) → z32 (s.1) → z32 (s.2.1) → zV zmX0_sureFrom nn 0 0 Z 136 [(0, zR 130), (1, zI x1), (2, zI (s.1)), (3, zI (s.2.1))] [] (s.2.2) Q)   : zV zmX0_sureFrom nn 0 0 Z 84 [(0, zR 130), (1, zI x1), (2, zI x2), (3, zI x3), (5, zI x5)] [] M Q := by
  unfold fX0_sureFrom_j84 at h
  refine zV_iconst (v := 0) dX0_sureFrom_84 rfl ?_
  exact fX0_sureFrom_j85_ok hZ hn hx1 hx2 hx3 hx5 zi_0 (Or.inl rfl) h hc he
noncomputable def fX0_sureFrom_j58 (x1 x2 x3 x4 s0 : Int) (M : zMem) : Option ((Int × Int × zMem) ⊕ (Int × Int × zMem)) :=
  (if x4 = (-1) then fX0_sureFrom_j84 x1 x2 x3 s0 M else (zgd ((0 : Int) ≤ (4 : Int) ∧ (4 : Int) < 11) (if (M 59 4) < s0 then fX0_sureFrom_j84 x1 x2 x3 s0 M else fX0_sureFrom_j85 x1 x2 x3 s0 1 M)))
set_option maxRecDepth 100000 in
set_option maxHeartbeats 4000000 in
theorem fX0_sureFrom_j58_ok {Z : zZ} (hZ : zB Z) {nn : Nat} (hn : 3 ≤ nn)  {x1 x2 x3 x4 s0 : Int} (hx1 : z32 x1) (hx2 : z32 x2) (hx3 : z32 x3) (hx4 : z32 x4) (hs0 : z32 s0) {M : zMem} {Q : Option zAV → zMem → zZ → Prop} {P : (Int × Int × zMem) ⊕ (Int × Int × zMem) → Prop} (h : zSat (fX0_sureFrom_j58 x1 x2 x3 x4 s0 M) P)  (hc : ∀ s : Int × Int × zMem, P (.inl s) → z32 (s.1) → z32 (s.2.1) → zV zmX0_sureFrom nn 0 0 Z 4 [(0, zR 130), (1, zI x1), (2, zI (s.1)), (3, zI (s.2.1))] [] (s.2.2) Q) (he : ∀ s : Int × Int × zMem, P (.inr s) → z32 (s.1) → z32 (s.2.1) → zV zmX0_sureFrom nn 0 0 Z 136 [(0, zR 130), (1, zI x1), (2, zI (s.1)), (3, zI (s.2.1))] [] (s.2.2) Q)   : zV zmX0_sureFrom nn 0 0 Z 58 [(0, zR 130), (1, zI x1), (2, zI x2), (3, zI x3), (4, zI x4)] [zI s0] M Q := by
  unfold fX0_sureFrom_j58 at h
  refine zV_istore [(5, zI s0), (0, zR 130), (1, zI x1), (2, zI x2), (3, zI x3), (4, zI x4)] dX0_sureFrom_58 (by decide) rfl ?_
  refine zV_iload 5 dX0_sureFrom_60 rfl ?_
  refine zV_iconst (v := (-1)) dX0_sureFrom_62 rfl ?_
  refine zV_icmp_eq 84 dX0_sureFrom_63 (by decide) hx4 zi_n1 (fun hc_ => ?_) (fun hc_ => ?_)
  · replace h := zs_t h hc_
    refine zV_ls [1, 2, 3, 4, 0] rfl ?_
    exact fX0_sureFrom_j84_ok hZ hn hx1 hx2 hx3 hs0 h hc he
  · replace h := zs_f h hc_
    refine zV_iload 0 dX0_sureFrom_66 rfl ?_
    refine zV_aload_n 1 dX0_sureFrom_68 rfl rfl ?_
    refine zV_getR (j := 40) (zq_130 hZ) zf_X0_0 zkf_X0_24 rfl dX0_sureFrom_69 ?_
    refine zV_getR (j := 59) (zq_40 hZ) zf_X7_18 zkf_X0_80 rfl dX0_sureFrom_72 ?_
    refine zV_iconst (v := 4) dX0_sureFrom_75 rfl ?_
    obtain ⟨hg, h⟩ := zs_gd h
    refine zV_iald (zq_59 hZ) hg dX0_sureFrom_76 (fun m9 => ?_)
    refine zV_icmp_gt 84 dX0_sureFrom_77 (by decide) hs0 m9 (fun hc_ => ?_) (fun hc_ => ?_)
    · replace h := zs_t h hc_
      refine zV_ls [1, 2, 3, 4, 0] rfl ?_
      exact fX0_sureFrom_j84_ok hZ hn hx1 hx2 hx3 hs0 h hc he
    · replace h := zs_f h hc_
      refine zV_iconst (v := 1) dX0_sureFrom_80 rfl ?_
      refine zV_goto 85 dX0_sureFrom_81 (by decide) ?_
      refine zV_ls [1, 2, 3, 4, 0] rfl ?_
      exact fX0_sureFrom_j85_ok hZ hn hx1 hx2 hx3 hs0 zi_1 (Or.inr rfl) h hc he
noncomputable def fX0_sureFrom_j29 (x1 x2 x3 s0 : Int) (M : zMem) : Option ((Int × Int × zMem) ⊕ (Int × Int × zMem)) :=
  (if s0 = (-1) then fX0_sureFrom_j58 x1 x2 x3 s0 0 M else (zgd ((0 : Int) ≤ s0 ∧ s0 < 8) (zgd ((0 : Int) ≤ x3 ∧ x3 < 24) (fX0_sureFrom_j58 x1 x2 x3 s0 (zw ((M 137 s0) + (M 84 x3))) M))))
set_option maxRecDepth 100000 in
set_option maxHeartbeats 4000000 in
theorem fX0_sureFrom_j29_ok {Z : zZ} (hZ : zB Z) {nn : Nat} (hn : 3 ≤ nn)  {x1 x2 x3 s0 : Int} (hx1 : z32 x1) (hx2 : z32 x2) (hx3 : z32 x3) (hs0 : z32 s0) {M : zMem} {Q : Option zAV → zMem → zZ → Prop} {P : (Int × Int × zMem) ⊕ (Int × Int × zMem) → Prop} (h : zSat (fX0_sureFrom_j29 x1 x2 x3 s0 M) P)  (hc : ∀ s : Int × Int × zMem, P (.inl s) → z32 (s.1) → z32 (s.2.1) → zV zmX0_sureFrom nn 0 0 Z 4 [(0, zR 130), (1, zI x1), (2, zI (s.1)), (3, zI (s.2.1))] [] (s.2.2) Q) (he : ∀ s : Int × Int × zMem, P (.inr s) → z32 (s.1) → z32 (s.2.1) → zV zmX0_sureFrom nn 0 0 Z 136 [(0, zR 130), (1, zI x1), (2, zI (s.1)), (3, zI (s.2.1))] [] (s.2.2) Q)   : zV zmX0_sureFrom nn 0 0 Z 29 [(0, zR 130), (1, zI x1), (2, zI x2), (3, zI x3)] [zI s0] M Q := by
  unfold fX0_sureFrom_j29 at h
  refine zV_istore [(4, zI s0), (0, zR 130), (1, zI x1), (2, zI x2), (3, zI x3)] dX0_sureFrom_29 (by decide) rfl ?_
  refine zV_iload 0 dX0_sureFrom_31 rfl ?_
  refine zV_iconst (v := (-1)) dX0_sureFrom_33 rfl ?_
  refine zV_icmp_ne 41 dX0_sureFrom_34 (by decide) hs0 zi_n1 (fun hc_ => ?_) (fun hc_ => ?_)
  · replace h := zs_f h hc_
    refine zV_aload_n 1 dX0_sureFrom_41 rfl rfl ?_
    refine zV_getR (j := 137) (zq_130 hZ) zf_X0_6 zkf_X0_21 rfl dX0_sureFrom_42 ?_
    refine zV_iload 0 dX0_sureFrom_45 rfl ?_
    obtain ⟨hg, h⟩ := zs_gd h
    refine zV_iald (zq_137 hZ) hg dX0_sureFrom_47 (fun m6 => ?_)
    refine zV_aload_n 1 dX0_sureFrom_48 rfl rfl ?_
    refine zV_getR (j := 80) (zq_130 hZ) zf_X0_1 zkf_X0_28 rfl dX0_sureFrom_49 ?_
    refine zV_getR (j := 84) (zq_80 hZ) zf_X5_3 zkf_X0_77 rfl dX0_sureFrom_52 ?_
    refine zV_iload_n 4 dX0_sureFrom_55 rfl rfl ?_
    obtain ⟨hg, h⟩ := zs_gd h
    refine zV_iald (zq_84 hZ) hg dX0_sureFrom_56 (fun m7 => ?_)
    refine zV_iadd dX0_sureFrom_57 ?_
    refine zV_w ?_
    refine zV_ls [1, 2, 3, 4, 0] rfl ?_
    exact fX0_sureFrom_j58_ok hZ hn hx1 hx2 hx3 hs0 (z32_w _) h hc he
  · replace h := zs_t h hc_
    refine zV_iconst (v := 0) dX0_sureFrom_37 rfl ?_
    refine zV_goto 58 dX0_sureFrom_38 (by decide) ?_
    refine zV_ls [1, 2, 3, 4, 0] rfl ?_
    exact fX0_sureFrom_j58_ok hZ hn hx1 hx2 hx3 hs0 zi_0 h hc he
noncomputable def fX0_sureFrom_l4 (x1 x2 x3 : Int) (M : zMem) : Option ((Int × Int × zMem) ⊕ (Int × Int × zMem)) :=
  (if (M 80 0) ≤ x3 then some (.inr (x2, x3, M)) else (if x1 ≤ x3 then (zbd (fX0_followed x3 M) fun r2 => fX0_sureFrom_j29 x1 x2 x3 r2 M) else fX0_sureFrom_j29 x1 x2 x3 (-1) M))
set_option maxRecDepth 100000 in
set_option maxHeartbeats 4000000 in
theorem fX0_sureFrom_l4_ok {Z : zZ} (hZ : zB Z) {nn : Nat} (hn : 3 ≤ nn)  {x1 x2 x3 : Int} (hx1 : z32 x1) (hx2 : z32 x2) (hx3 : z32 x3) {M : zMem} {Q : Option zAV → zMem → zZ → Prop} {P : (Int × Int × zMem) ⊕ (Int × Int × zMem) → Prop} (h : zSat (fX0_sureFrom_l4 x1 x2 x3 M) P)  (hc : ∀ s : Int × Int × zMem, P (.inl s) → z32 (s.1) → z32 (s.2.1) → zV zmX0_sureFrom nn 0 0 Z 4 [(0, zR 130), (1, zI x1), (2, zI (s.1)), (3, zI (s.2.1))] [] (s.2.2) Q) (he : ∀ s : Int × Int × zMem, P (.inr s) → z32 (s.1) → z32 (s.2.1) → zV zmX0_sureFrom nn 0 0 Z 136 [(0, zR 130), (1, zI x1), (2, zI (s.1)), (3, zI (s.2.1))] [] (s.2.2) Q)   : zV zmX0_sureFrom nn 0 0 Z 4 [(0, zR 130), (1, zI x1), (2, zI x2), (3, zI x3)] [] M Q := by
  unfold fX0_sureFrom_l4 at h
  refine zV_iload_n 3 dX0_sureFrom_4 rfl rfl ?_
  refine zV_aload_n 0 dX0_sureFrom_5 rfl rfl ?_
  refine zV_getR (j := 80) (zq_130 hZ) zf_X0_1 zkf_X0_28 rfl dX0_sureFrom_6 ?_
  refine zV_getI (zq_80 hZ) zf_X5_0 zkf_X0_53 rfl dX0_sureFrom_9 (fun m1 => ?_)
  refine zV_icmp_ge 136 dX0_sureFrom_12 (by decide) hx3 m1 (fun hc_ => ?_) (fun hc_ => ?_)
  · replace h := zs_t h hc_
    exact he _ h hx2 hx3
  · replace h := zs_f h hc_
    refine zV_iload_n 3 dX0_sureFrom_15 rfl rfl ?_
    refine zV_iload_n 1 dX0_sureFrom_16 rfl rfl ?_
    refine zV_icmp_ge 24 dX0_sureFrom_17 (by decide) hx3 hx1 (fun hc_ => ?_) (fun hc_ => ?_)
    · replace h := zs_t h hc_
      refine zV_aload_n 0 dX0_sureFrom_24 rfl rfl ?_
      refine zV_iload_n 3 dX0_sureFrom_25 rfl rfl ?_
      refine zV_cVI (y' := zmX0_followed) (n' := 2) (As := [zI x3]) zc_X0_74 (zq_130 hZ) rfl dX0_sureFrom_26 (Nat.le_trans (by decide) hn) rfl (Nat.le_of_ble_eq_true rfl) (Nat.le_of_ble_eq_true rfl) rfl h (fun Q' h' => fX0_followed_ok hZ (Nat.le_refl _) hx3 h') (fun r2 c3 b4 h => ?_)
      exact fX0_sureFrom_j29_ok hZ hn hx1 hx2 hx3 c3 h hc he
    · replace h := zs_f h hc_
      refine zV_iconst (v := (-1)) dX0_sureFrom_20 rfl ?_
      refine zV_goto 29 dX0_sureFrom_21 (by decide) ?_
      exact fX0_sureFrom_j29_ok hZ hn hx1 hx2 hx3 zi_n1 h hc he
noncomputable def fX0_sureFrom (x1 : Int) (M : zMem) : Option (Int × zMem) :=
  (zbd (zit (fun s10 => fX0_sureFrom_l4 x1 (s10.1) (s10.2.1) (s10.2.2)) (0, 0, M)) fun s17 => some (s17.1, s17.2.2))
set_option maxRecDepth 100000 in
set_option maxHeartbeats 4000000 in
theorem fX0_sureFrom_ok {Z : zZ} (hZ : zB Z) {nn : Nat} (hn : 3 ≤ nn)  {x1 : Int} (hx1 : z32 x1) {M : zMem} {Q : Option zAV → zMem → zZ → Prop} (h : zSat (fX0_sureFrom x1 M) (fun r => Q (some (zI r.1)) r.2 Z))  : zV zmX0_sureFrom nn 0 0 Z 0 [(0, zR 130), (1, zI x1)] [] M Q := by
  unfold fX0_sureFrom at h
  refine zV_iconst (v := 0) dX0_sureFrom_0 rfl ?_
  refine zV_istore_n [(2, zI 0), (0, zR 130), (1, zI x1)] dX0_sureFrom_1 rfl (by decide) rfl ?_
  refine zV_iconst (v := 0) dX0_sureFrom_2 rfl ?_
  refine zV_istore_n [(3, zI 0), (2, zI 0), (0, zR 130), (1, zI x1)] dX0_sureFrom_3 rfl (by decide) rfl ?_
  refine zV_ls [2, 3, 1, 0] rfl ?_
  refine (zV_loop (Vh := fun s10 : Int × Int × zMem => z32 (s10.1) → z32 (s10.2.1) → zV zmX0_sureFrom nn 0 0 Z 4 [(0, zR 130), (1, zI x1), (2, zI (s10.1)), (3, zI (s10.2.1))] [] (s10.2.2) Q) h (fun s10 P11 hP12 hc13 he14 => ?_)) zi_0 zi_0
  intro c15 c16
  refine fX0_sureFrom_l4_ok hZ hn hx1 c15 c16 hP12 hc13 (fun s17 h18 d19 d20 => ?_)
  have h := he14 _ h18
  refine zV_iload_n 2 dX0_sureFrom_136 rfl rfl ?_
  exact zV_ireti dX0_sureFrom_137 rfl d19 h
noncomputable def fX0_countSure_l23 (x1 : Int) (M : zMem) : Option ((Int × zMem) ⊕ (Int × zMem)) :=
  (if x1 < 0 then some (.inr (x1, M)) else (zbd2 (fX0_sureFrom x1 M) fun r3 M6 => (zgd ((0 : Int) ≤ x1 ∧ x1 < 9) (some (.inl ((zw (x1 + (-1))), (zup M6 136 x1 r3)))))))
set_option maxRecDepth 100000 in
set_option maxHeartbeats 4000000 in
theorem fX0_countSure_l23_ok {Z : zZ} (hZ : zB Z) {nn : Nat} (hn : 4 ≤ nn)  {x1 : Int} (hx1 : z32 x1) {M : zMem} {Q : Option zAV → zMem → zZ → Prop} {P : (Int × zMem) ⊕ (Int × zMem) → Prop} (h : zSat (fX0_countSure_l23 x1 M) P)  (hc : ∀ s : Int × zMem, P (.inl s) → z32 (s.1) → zV zmX0_countSure nn 0 0 Z 23 [(0, zR 130), (1, zI (s.1))] [] (s.2) Q) (he : ∀ s : Int × zMem, P (.inr s) → z32 (s.1) → zV zmX0_countSure nn 0 0 Z 44 [(0, zR 130), (1, zI (s.1))] [] (s.2) Q)   : zV zmX0_countSure nn 0 0 Z 23 [(0, zR 130), (1, zI x1)] [] M Q := by
  unfold fX0_countSure_l23 at h
  refine zV_iload_n 1 dX0_countSure_23 rfl rfl ?_
  refine zV_if_lt 44 dX0_countSure_24 (by decide) hx1 (fun hc_ => ?_) (fun hc_ => ?_)
  · replace h := zs_t h hc_
    exact he _ h hx1
  · replace h := zs_f h hc_
    refine zV_aload_n 0 dX0_countSure_27 rfl rfl ?_
    refine zV_getR (j := 136) (zq_130 hZ) zf_X0_5 zkf_X0_18 rfl dX0_countSure_28 ?_
    refine zV_iload_n 1 dX0_countSure_31 rfl rfl ?_
    refine zV_aload_n 0 dX0_countSure_32 rfl rfl ?_
    refine zV_iload_n 1 dX0_countSure_33 rfl rfl ?_
    refine zV_cVIm (y' := zmX0_sureFrom) (n' := 3) (As := [zI x1]) zc_X0_70 (zq_130 hZ) rfl dX0_countSure_34 (Nat.le_trans (by decide) hn) rfl (Nat.le_of_ble_eq_true rfl) (Nat.le_of_ble_eq_true rfl) rfl h (fun Q' h' => fX0_sureFrom_ok hZ (Nat.le_refl _) hx1 h') (fun r3 M6 c4 b5 h => ?_)
    obtain ⟨hg, h⟩ := zs_gd h
    refine zV_iast (zq_136 hZ) (by decide) hg c4 dX0_countSure_37 ?_
    refine zV_iinc 1 [(1, zI (zw (x1 + (-1)))), (0, zR 130)] dX0_countSure_38 rfl rfl (by decide) rfl ?_
    refine zV_goto 23 dX0_countSure_41 (by decide) ?_
    refine zV_ls [1, 0] rfl ?_
    exact hc _ h (z32_w _)
noncomputable def fX0_countSure (M : zMem) : Option (zMem) :=
  (zgd ((0 : Int) ≤ (M 80 0) ∧ (M 80 0) < 9) (zbd (zit (fun s7 => fX0_countSure_l23 (s7.1) (s7.2)) ((zw (((zup M 136 (M 80 0) 0) 80 0) - 1)), (zup M 136 (M 80 0) 0))) fun s13 => some (s13.2)))
set_option maxRecDepth 100000 in
set_option maxHeartbeats 4000000 in
theorem fX0_countSure_ok {Z : zZ} (hZ : zB Z) {nn : Nat} (hn : 4 ≤ nn)   {M : zMem} {Q : Option zAV → zMem → zZ → Prop} (h : zSat (fX0_countSure M) (fun r => Q none r Z))  : zV zmX0_countSure nn 0 0 Z 0 [(0, zR 130)] [] M Q := by
  unfold fX0_countSure at h
  refine zV_aload_n 0 dX0_countSure_0 rfl rfl ?_
  refine zV_getR (j := 136) (zq_130 hZ) zf_X0_5 zkf_X0_18 rfl dX0_countSure_1 ?_
  refine zV_aload_n 0 dX0_countSure_4 rfl rfl ?_
  refine zV_getR (j := 80) (zq_130 hZ) zf_X0_1 zkf_X0_28 rfl dX0_countSure_5 ?_
  refine zV_getI (zq_80 hZ) zf_X5_0 zkf_X0_53 rfl dX0_countSure_8 (fun m1 => ?_)
  refine zV_iconst (v := 0) dX0_countSure_11 rfl ?_
  obtain ⟨hg, h⟩ := zs_gd h
  refine zV_iast (zq_136 hZ) (by decide) hg zi_0 dX0_countSure_12 ?_
  refine zV_aload_n 0 dX0_countSure_13 rfl rfl ?_
  refine zV_getR (j := 80) (zq_130 hZ) zf_X0_1 zkf_X0_28 rfl dX0_countSure_14 ?_
  refine zV_getI (zq_80 hZ) zf_X5_0 zkf_X0_53 rfl dX0_countSure_17 (fun m2 => ?_)
  refine zV_iconst (v := 1) dX0_countSure_20 rfl ?_
  refine zV_isub dX0_countSure_21 ?_
  refine zV_w ?_
  refine zV_istore_n [(1, zI (zw (((zup M 136 (M 80 0) 0) 80 0) - 1))), (0, zR 130)] dX0_countSure_22 rfl (by decide) rfl ?_
  refine zV_ls [1, 0] rfl ?_
  refine (zV_loop (Vh := fun s7 : Int × zMem => z32 (s7.1) → zV zmX0_countSure nn 0 0 Z 23 [(0, zR 130), (1, zI (s7.1))] [] (s7.2) Q) h (fun s7 P8 hP9 hc10 he11 => ?_)) (z32_w _)
  intro c12
  refine fX0_countSure_l23_ok hZ hn c12 hP9 hc10 (fun s13 h14 d15 => ?_)
  have h := he11 _ h14
  exact zV_vret dX0_countSure_44 rfl h
noncomputable def fX0_handHolds_l15 (x1 x2 x3 x4 x5 x6 x7 x8 : Int) (M : zMem) : Option ((Int × Int × Int × Int × Int) ⊕ ((Int × Int × Int × Int × Int) ⊕ (Int))) :=
  (if x1 < x8 then some (.inr (.inl (x4, x5, x6, x7, x8))) else (zbd (fX2_placeOf x8 M) fun r1 => (zbd (fX5_overlap 80 x8 x1 M) fun r5 => (if r5 = 0 then some (.inl (x4, x5, x6, x7, (zw (x8 + 1)))) else (if r1 < x2 then some (.inl (x4, x5, x6, x7, (zw (x8 + 1)))) else (if x3 ≤ r1 then some (.inl (x4, x5, x6, x7, (zw (x8 + 1)))) else (if (zand (zshr x5 r1) 1) = 0 then some (.inl ((zw (x4 + 1)), (zor x5 (zshl 1 r1)), (min x6 r1), (max x7 r1), (zw (x8 + 1)))) else some (.inr (.inr 0)))))))))
set_option maxRecDepth 100000 in
set_option maxHeartbeats 4000000 in
theorem fX0_handHolds_l15_ok {Z : zZ} (hZ : zB Z) {nn : Nat} (hn : 2 ≤ nn)  {x1 x2 x3 x4 x5 x6 x7 x8 : Int} (hx1 : z32 x1) (hx2 : z32 x2) (hx3 : z32 x3) (hx4 : z32 x4) (hx5 : z32 x5) (hx6 : z32 x6) (hx7 : z32 x7) (hx8 : z32 x8) {M : zMem} {Q : Option zAV → zMem → zZ → Prop} {P : (Int × Int × Int × Int × Int) ⊕ ((Int × Int × Int × Int × Int) ⊕ (Int)) → Prop} (h : zSat (fX0_handHolds_l15 x1 x2 x3 x4 x5 x6 x7 x8 M) P)  (hc : ∀ s : Int × Int × Int × Int × Int, P (.inl s) → z32 (s.1) → z32 (s.2.1) → z32 (s.2.2.1) → z32 (s.2.2.2.1) → z32 (s.2.2.2.2) → zV zmX0_handHolds nn 0 0 Z 15 [(0, zR 130), (1, zI x1), (2, zI x2), (3, zI x3), (4, zI (s.1)), (5, zI (s.2.1)), (6, zI (s.2.2.1)), (7, zI (s.2.2.2.1)), (8, zI (s.2.2.2.2))] [] M Q) (he : ∀ s : Int × Int × Int × Int × Int, P (.inr (.inl s)) → z32 (s.1) → z32 (s.2.1) → z32 (s.2.2.1) → z32 (s.2.2.2.1) → z32 (s.2.2.2.2) → zV zmX0_handHolds nn 0 0 Z 105 [(0, zR 130), (1, zI x1), (2, zI x2), (3, zI x3), (4, zI (s.1)), (5, zI (s.2.1)), (6, zI (s.2.2.1)), (7, zI (s.2.2.2.1)), (8, zI (s.2.2.2.2))] [] M Q) (hr : ∀ r : Int, P (.inr (.inr r)) → (fun r => Q (some (zI r)) M Z) r)  : zV zmX0_handHolds nn 0 0 Z 15 [(0, zR 130), (1, zI x1), (2, zI x2), (3, zI x3), (4, zI x4), (5, zI x5), (6, zI x6), (7, zI x7), (8, zI x8)] [] M Q := by
  unfold fX0_handHolds_l15 at h
  refine zV_iload 8 dX0_handHolds_15 rfl ?_
  refine zV_iload_n 1 dX0_handHolds_17 rfl rfl ?_
  refine zV_icmp_gt 105 dX0_handHolds_18 (by decide) hx8 hx1 (fun hc_ => ?_) (fun hc_ => ?_)
  · replace h := zs_t h hc_
    exact he _ h hx4 hx5 hx6 hx7 hx8
  · replace h := zs_f h hc_
    refine zV_aload_n 0 dX0_handHolds_21 rfl rfl ?_
    refine zV_getR (j := 100) (zq_130 hZ) zf_X0_2 zkf_X0_32 rfl dX0_handHolds_22 ?_
    refine zV_iload 8 dX0_handHolds_25 rfl ?_
    refine zV_cVI (y' := zmX2_placeOf) (n' := 0) (As := [zI x8]) zc_X0_99 (zq_100 hZ) rfl dX0_handHolds_27 (Nat.le_trans (by decide) hn) rfl (Nat.le_of_ble_eq_true rfl) (Nat.le_of_ble_eq_true rfl) rfl h (fun Q' h' => fX2_placeOf_ok hZ (Nat.le_refl _) hx8 h') (fun r1 c2 b3 h => ?_)
    refine zV_istore [(9, zI r1), (0, zR 130), (1, zI x1), (2, zI x2), (3, zI x3), (4, zI x4), (5, zI x5), (6, zI x6), (7, zI x7), (8, zI x8)] dX0_handHolds_30 (by decide) rfl ?_
    refine zV_aload_n 1 dX0_handHolds_32 rfl rfl ?_
    refine zV_getR (j := 80) (zq_130 hZ) zf_X0_1 zkf_X0_28 rfl dX0_handHolds_33 ?_
    refine zV_iload 9 dX0_handHolds_36 rfl ?_
    refine zV_iload_n 2 dX0_handHolds_38 rfl rfl ?_
    refine zV_cVI (y' := zmX5_overlap) (n' := 1) (As := [zI x8, zI x1]) zc_X0_104 (zq_80 hZ) rfl dX0_handHolds_39 (Nat.le_trans (by decide) hn) rfl (Nat.le_of_ble_eq_true rfl) (Nat.le_of_ble_eq_true rfl) rfl h (fun Q' h' => fX5_overlap_ok hZ (Nat.le_refl _) (zqpi_80 hZ) (by decide) hx8 hx1 h') (fun r5 c6 b7 h => ?_)
    refine zV_if_eq 99 dX0_handHolds_42 (by decide) c6 (fun hc_ => ?_) (fun hc_ => ?_)
    · replace h := zs_t h hc_
      refine zV_iinc 9 [(8, zI (zw (x8 + 1))), (9, zI r1), (0, zR 130), (1, zI x1), (2, zI x2), (3, zI x3), (4, zI x4), (5, zI x5), (6, zI x6), (7, zI x7)] dX0_handHolds_99 rfl rfl (by decide) rfl ?_
      refine zV_goto 15 dX0_handHolds_102 (by decide) ?_
      refine zV_ls [2, 3, 4, 5, 6, 7, 8, 9, 0] rfl ?_
      exact hc _ h hx4 hx5 hx6 hx7 (z32_w _)
    · replace h := zs_f h hc_
      refine zV_iload 0 dX0_handHolds_45 rfl ?_
      refine zV_iload_n 3 dX0_handHolds_47 rfl rfl ?_
      refine zV_icmp_lt 99 dX0_handHolds_48 (by decide) c2 hx2 (fun hc_ => ?_) (fun hc_ => ?_)
      · replace h := zs_t h hc_
        refine zV_iinc 9 [(8, zI (zw (x8 + 1))), (9, zI r1), (0, zR 130), (1, zI x1), (2, zI x2), (3, zI x3), (4, zI x4), (5, zI x5), (6, zI x6), (7, zI x7)] dX0_handHolds_99 rfl rfl (by decide) rfl ?_
        refine zV_goto 15 dX0_handHolds_102 (by decide) ?_
        refine zV_ls [2, 3, 4, 5, 6, 7, 8, 9, 0] rfl ?_
        exact hc _ h hx4 hx5 hx6 hx7 (z32_w _)
      · replace h := zs_f h hc_
        refine zV_iload 0 dX0_handHolds_51 rfl ?_
        refine zV_iload_n 4 dX0_handHolds_53 rfl rfl ?_
        refine zV_icmp_ge 99 dX0_handHolds_54 (by decide) c2 hx3 (fun hc_ => ?_) (fun hc_ => ?_)
        · replace h := zs_t h hc_
          refine zV_iinc 9 [(8, zI (zw (x8 + 1))), (9, zI r1), (0, zR 130), (1, zI x1), (2, zI x2), (3, zI x3), (4, zI x4), (5, zI x5), (6, zI x6), (7, zI x7)] dX0_handHolds_99 rfl rfl (by decide) rfl ?_
          refine zV_goto 15 dX0_handHolds_102 (by decide) ?_
          refine zV_ls [2, 3, 4, 5, 6, 7, 8, 9, 0] rfl ?_
          exact hc _ h hx4 hx5 hx6 hx7 (z32_w _)
        · replace h := zs_f h hc_
          refine zV_iload 6 dX0_handHolds_57 rfl ?_
          refine zV_iload 0 dX0_handHolds_59 rfl ?_
          refine zV_ishr dX0_handHolds_61 ?_
          refine zV_iconst (v := 1) dX0_handHolds_62 rfl ?_
          refine zV_iand dX0_handHolds_63 ?_
          refine zV_if_eq 69 dX0_handHolds_64 (by decide) (z32_i _) (fun hc_ => ?_) (fun hc_ => ?_)
          · replace h := zs_t h hc_
            refine zV_iload 6 dX0_handHolds_69 rfl ?_
            refine zV_iconst (v := 1) dX0_handHolds_71 rfl ?_
            refine zV_iload 0 dX0_handHolds_72 rfl ?_
            refine zV_ishl dX0_handHolds_74 ?_
            refine zV_ior dX0_handHolds_75 ?_
            refine zV_istore [(5, zI (zor x5 (zshl 1 r1))), (9, zI r1), (0, zR 130), (1, zI x1), (2, zI x2), (3, zI x3), (4, zI x4), (6, zI x6), (7, zI x7), (8, zI x8)] dX0_handHolds_76 (by decide) rfl ?_
            refine zV_iinc 6 [(4, zI (zw (x4 + 1))), (5, zI (zor x5 (zshl 1 r1))), (9, zI r1), (0, zR 130), (1, zI x1), (2, zI x2), (3, zI x3), (6, zI x6), (7, zI x7), (8, zI x8)] dX0_handHolds_78 rfl rfl (by decide) rfl ?_
            refine zV_iload 7 dX0_handHolds_81 rfl ?_
            refine zV_iload 2 dX0_handHolds_83 rfl ?_
            refine zV_mmin zml_X0_107 dX0_handHolds_85 (Nat.le_trans (by decide) hn) (Nat.le_of_ble_eq_true rfl) hx6 c2 ?_
            refine zV_istore [(6, zI (min x6 r1)), (4, zI (zw (x4 + 1))), (5, zI (zor x5 (zshl 1 r1))), (9, zI r1), (0, zR 130), (1, zI x1), (2, zI x2), (3, zI x3), (7, zI x7), (8, zI x8)] dX0_handHolds_88 (by decide) rfl ?_
            refine zV_iload 8 dX0_handHolds_90 rfl ?_
            refine zV_iload 3 dX0_handHolds_92 rfl ?_
            refine zV_mmax zml_X0_113 dX0_handHolds_94 (Nat.le_trans (by decide) hn) (Nat.le_of_ble_eq_true rfl) hx7 c2 ?_
            refine zV_istore [(7, zI (max x7 r1)), (6, zI (min x6 r1)), (4, zI (zw (x4 + 1))), (5, zI (zor x5 (zshl 1 r1))), (9, zI r1), (0, zR 130), (1, zI x1), (2, zI x2), (3, zI x3), (8, zI x8)] dX0_handHolds_97 (by decide) rfl ?_
            refine zV_iinc 9 [(8, zI (zw (x8 + 1))), (7, zI (max x7 r1)), (6, zI (min x6 r1)), (4, zI (zw (x4 + 1))), (5, zI (zor x5 (zshl 1 r1))), (9, zI r1), (0, zR 130), (1, zI x1), (2, zI x2), (3, zI x3)] dX0_handHolds_99 rfl rfl (by decide) rfl ?_
            refine zV_goto 15 dX0_handHolds_102 (by decide) ?_
            refine zV_ls [6, 7, 8, 9, 3, 4, 2, 1, 0] rfl ?_
            exact hc _ h (z32_w _) (z32_i _) (z32_min hx6 c2) (z32_max hx7 c2) (z32_w _)
          · replace h := zs_f h hc_
            refine zV_iconst (v := 0) dX0_handHolds_67 rfl ?_
            exact zV_iretb dX0_handHolds_68 rfl (Or.inl rfl) (hr _ h)
noncomputable def fX0_handHolds (x1 x2 x3 : Int) (M : zMem) : Option (Int) :=
  (zbd (zit (fun s9 => fX0_handHolds_l15 x1 x2 x3 (s9.1) (s9.2.1) (s9.2.2.1) (s9.2.2.2.1) (s9.2.2.2.2) M) (0, 0, x3, x2, 0)) fun e => zel e (fun s19 => (zgd ((0 : Int) ≤ (1 : Int) ∧ (1 : Int) < 11) (if (M 59 1) < s19.1 then some 0 else (zgd ((0 : Int) ≤ (2 : Int) ∧ (2 : Int) < 11) (if (M 59 2) < (zw (s19.2.2.2.1 - s19.2.2.1)) then some 0 else some 1))))) (fun r => some r))
set_option maxRecDepth 100000 in
set_option maxHeartbeats 4000000 in
theorem fX0_handHolds_ok {Z : zZ} (hZ : zB Z) {nn : Nat} (hn : 2 ≤ nn)  {x1 x2 x3 : Int} (hx1 : z32 x1) (hx2 : z32 x2) (hx3 : z32 x3) {M : zMem} {Q : Option zAV → zMem → zZ → Prop} (h : zSat (fX0_handHolds x1 x2 x3 M) (fun r => Q (some (zI r)) M Z))  : zV zmX0_handHolds nn 0 0 Z 0 [(0, zR 130), (1, zI x1), (2, zI x2), (3, zI x3)] [] M Q := by
  unfold fX0_handHolds at h
  refine zV_iconst (v := 0) dX0_handHolds_0 rfl ?_
  refine zV_istore [(4, zI 0), (0, zR 130), (1, zI x1), (2, zI x2), (3, zI x3)] dX0_handHolds_1 (by decide) rfl ?_
  refine zV_iconst (v := 0) dX0_handHolds_3 rfl ?_
  refine zV_istore [(5, zI 0), (4, zI 0), (0, zR 130), (1, zI x1), (2, zI x2), (3, zI x3)] dX0_handHolds_4 (by decide) rfl ?_
  refine zV_iload_n 5 dX0_handHolds_6 rfl rfl ?_
  refine zV_istore [(6, zI x3), (5, zI 0), (4, zI 0), (0, zR 130), (1, zI x1), (2, zI x2), (3, zI x3)] dX0_handHolds_7 (by decide) rfl ?_
  refine zV_iload_n 5 dX0_handHolds_9 rfl rfl ?_
  refine zV_istore [(7, zI x2), (6, zI x3), (5, zI 0), (4, zI 0), (0, zR 130), (1, zI x1), (2, zI x2), (3, zI x3)] dX0_handHolds_10 (by decide) rfl ?_
  refine zV_iconst (v := 0) dX0_handHolds_12 rfl ?_
  refine zV_istore [(8, zI 0), (7, zI x2), (6, zI x3), (5, zI 0), (4, zI 0), (0, zR 130), (1, zI x1), (2, zI x2), (3, zI x3)] dX0_handHolds_13 (by decide) rfl ?_
  refine zV_ls [5, 6, 7, 8, 4, 3, 2, 1, 0] rfl ?_
  refine (zV_loop (Vh := fun s9 : Int × Int × Int × Int × Int => z32 (s9.1) → z32 (s9.2.1) → z32 (s9.2.2.1) → z32 (s9.2.2.2.1) → z32 (s9.2.2.2.2) → zV zmX0_handHolds nn 0 0 Z 15 [(0, zR 130), (1, zI x1), (2, zI x2), (3, zI x3), (4, zI (s9.1)), (5, zI (s9.2.1)), (6, zI (s9.2.2.1)), (7, zI (s9.2.2.2.1)), (8, zI (s9.2.2.2.2))] [] M Q) h (fun s9 P10 hP11 hc12 he13 => ?_)) zi_0 zi_0 hx3 hx2 zi_0
  intro c14 c15 c16 c17 c18
  refine fX0_handHolds_l15_ok hZ hn hx1 hx2 hx3 c14 c15 c16 c17 c18 hP11 hc12 (fun s19 h20 d21 d22 d23 d24 d25 => ?_) (fun r26 h27 => he13 _ h27)
  have h := he13 _ h20
  refine zV_iload 4 dX0_handHolds_105 rfl ?_
  refine zV_aload_n 0 dX0_handHolds_107 rfl rfl ?_
  refine zV_getR (j := 40) (zq_130 hZ) zf_X0_0 zkf_X0_24 rfl dX0_handHolds_108 ?_
  refine zV_getR (j := 59) (zq_40 hZ) zf_X7_18 zkf_X0_80 rfl dX0_handHolds_111 ?_
  refine zV_iconst (v := 1) dX0_handHolds_114 rfl ?_
  obtain ⟨hg, h⟩ := zs_gd h
  refine zV_iald (zq_59 hZ) hg dX0_handHolds_115 (fun m28 => ?_)
  refine zV_icmp_gt 140 dX0_handHolds_116 (by decide) d21 m28 (fun hc_ => ?_) (fun hc_ => ?_)
  · replace h := zs_t h hc_
    refine zV_iconst (v := 0) dX0_handHolds_140 rfl ?_
    exact zV_iretb dX0_handHolds_141 rfl (Or.inl rfl) h
  · replace h := zs_f h hc_
    refine zV_iload 7 dX0_handHolds_119 rfl ?_
    refine zV_iload 6 dX0_handHolds_121 rfl ?_
    refine zV_isub dX0_handHolds_123 ?_
    refine zV_aload_n 0 dX0_handHolds_124 rfl rfl ?_
    refine zV_getR (j := 40) (zq_130 hZ) zf_X0_0 zkf_X0_24 rfl dX0_handHolds_125 ?_
    refine zV_getR (j := 59) (zq_40 hZ) zf_X7_18 zkf_X0_80 rfl dX0_handHolds_128 ?_
    refine zV_iconst (v := 2) dX0_handHolds_131 rfl ?_
    obtain ⟨hg, h⟩ := zs_gd h
    refine zV_iald (zq_59 hZ) hg dX0_handHolds_132 (fun m29 => ?_)
    refine zV_w2 ?_
    refine zV_icmp_gt 140 dX0_handHolds_133 (by decide) (z32_w _) m29 (fun hc_ => ?_) (fun hc_ => ?_)
    · replace h := zs_t h hc_
      refine zV_iconst (v := 0) dX0_handHolds_140 rfl ?_
      exact zV_iretb dX0_handHolds_141 rfl (Or.inl rfl) h
    · replace h := zs_f h hc_
      refine zV_iconst (v := 1) dX0_handHolds_136 rfl ?_
      refine zV_goto 141 dX0_handHolds_137 (by decide) ?_
      exact zV_iretb dX0_handHolds_141 rfl (Or.inr rfl) h
noncomputable def fX0_isHopeless_l25 (x1 x2 : Int) (M : zMem) : Option ((Int) ⊕ ((Int) ⊕ (Int))) :=
  (if 12 < x2 then some (.inr (.inl x2)) else (zbd (fX0_handHolds x1 0 x2 M) fun r3 => (if r3 = 0 then some (.inl (zw (x2 + 1))) else (zbd (fX0_handHolds x1 x2 12 M) fun r7 => (if r7 = 0 then some (.inl (zw (x2 + 1))) else some (.inr (.inr 0)))))))
set_option maxRecDepth 100000 in
set_option maxHeartbeats 4000000 in
theorem fX0_isHopeless_l25_ok {Z : zZ} (hZ : zB Z) {nn : Nat} (hn : 3 ≤ nn)  {x1 x2 : Int} (hx1 : z32 x1) (hx2 : z32 x2) {M : zMem} {Q : Option zAV → zMem → zZ → Prop} {P : (Int) ⊕ ((Int) ⊕ (Int)) → Prop} (h : zSat (fX0_isHopeless_l25 x1 x2 M) P)  (hc : ∀ s : Int, P (.inl s) → z32 s → zV zmX0_isHopeless nn 0 0 Z 25 [(0, zR 130), (1, zI x1), (2, zI s)] [] M Q) (he : ∀ s : Int, P (.inr (.inl s)) → z32 s → zV zmX0_isHopeless nn 0 0 Z 60 [(0, zR 130), (1, zI x1), (2, zI s)] [] M Q) (hr : ∀ r : Int, P (.inr (.inr r)) → (fun r => Q (some (zI r)) M Z) r)  : zV zmX0_isHopeless nn 0 0 Z 25 [(0, zR 130), (1, zI x1), (2, zI x2)] [] M Q := by
  unfold fX0_isHopeless_l25 at h
  refine zV_iload_n 2 dX0_isHopeless_25 rfl rfl ?_
  refine zV_bipush (v := 12) dX0_isHopeless_26 rfl ?_
  refine zV_icmp_gt 60 dX0_isHopeless_28 (by decide) hx2 zi_12 (fun hc_ => ?_) (fun hc_ => ?_)
  · replace h := zs_t h hc_
    exact he _ h hx2
  · replace h := zs_f h hc_
    refine zV_aload_n 0 dX0_isHopeless_31 rfl rfl ?_
    refine zV_iload_n 1 dX0_isHopeless_32 rfl rfl ?_
    refine zV_iconst (v := 0) dX0_isHopeless_33 rfl ?_
    refine zV_iload_n 2 dX0_isHopeless_34 rfl rfl ?_
    refine zV_cVI (y' := zmX0_handHolds) (n' := 2) (As := [zI x1, zI 0, zI x2]) zc_X0_95 (zq_130 hZ) rfl dX0_isHopeless_35 (Nat.le_trans (by decide) hn) rfl (Nat.le_of_ble_eq_true rfl) (Nat.le_of_ble_eq_true rfl) rfl h (fun Q' h' => fX0_handHolds_ok hZ (Nat.le_refl _) hx1 zi_0 hx2 h') (fun r3 c4 b5 h => ?_)
    refine zV_if_eq 54 dX0_isHopeless_38 (by decide) c4 (fun hc_ => ?_) (fun hc_ => ?_)
    · replace h := zs_t h hc_
      refine zV_iinc 2 [(2, zI (zw (x2 + 1))), (0, zR 130), (1, zI x1)] dX0_isHopeless_54 rfl rfl (by decide) rfl ?_
      refine zV_goto 25 dX0_isHopeless_57 (by decide) ?_
      refine zV_ls [1, 2, 0] rfl ?_
      exact hc _ h (z32_w _)
    · replace h := zs_f h hc_
      refine zV_aload_n 0 dX0_isHopeless_41 rfl rfl ?_
      refine zV_iload_n 1 dX0_isHopeless_42 rfl rfl ?_
      refine zV_iload_n 2 dX0_isHopeless_43 rfl rfl ?_
      refine zV_bipush (v := 12) dX0_isHopeless_44 rfl ?_
      refine zV_cVI (y' := zmX0_handHolds) (n' := 2) (As := [zI x1, zI x2, zI 12]) zc_X0_95 (zq_130 hZ) rfl dX0_isHopeless_46 (Nat.le_trans (by decide) hn) rfl (Nat.le_of_ble_eq_true rfl) (Nat.le_of_ble_eq_true rfl) rfl h (fun Q' h' => fX0_handHolds_ok hZ (Nat.le_refl _) hx1 hx2 zi_12 h') (fun r7 c8 b9 h => ?_)
      refine zV_if_eq 54 dX0_isHopeless_49 (by decide) c8 (fun hc_ => ?_) (fun hc_ => ?_)
      · replace h := zs_t h hc_
        refine zV_iinc 2 [(2, zI (zw (x2 + 1))), (0, zR 130), (1, zI x1)] dX0_isHopeless_54 rfl rfl (by decide) rfl ?_
        refine zV_goto 25 dX0_isHopeless_57 (by decide) ?_
        refine zV_ls [1, 2, 0] rfl ?_
        exact hc _ h (z32_w _)
      · replace h := zs_f h hc_
        refine zV_iconst (v := 0) dX0_isHopeless_52 rfl ?_
        exact zV_iretb dX0_isHopeless_53 rfl (Or.inl rfl) (hr _ h)
noncomputable def fX0_isHopeless (x1 : Int) (M : zMem) : Option (Int) :=
  (zgd ((0 : Int) ≤ x1 ∧ x1 < 24) (zgd ((0 : Int) ≤ (4 : Int) ∧ (4 : Int) < 11) (if (M 84 x1) ≤ (M 59 4) then (zbd (zit (fun s11 => fX0_isHopeless_l25 x1 s11 M) 0) fun e => zel e (fun s17 => some 1) (fun r => some r)) else some 1)))
set_option maxRecDepth 100000 in
set_option maxHeartbeats 4000000 in
theorem fX0_isHopeless_ok {Z : zZ} (hZ : zB Z) {nn : Nat} (hn : 3 ≤ nn)  {x1 : Int} (hx1 : z32 x1) {M : zMem} {Q : Option zAV → zMem → zZ → Prop} (h : zSat (fX0_isHopeless x1 M) (fun r => Q (some (zI r)) M Z))  : zV zmX0_isHopeless nn 0 0 Z 0 [(0, zR 130), (1, zI x1)] [] M Q := by
  unfold fX0_isHopeless at h
  refine zV_aload_n 0 dX0_isHopeless_0 rfl rfl ?_
  refine zV_getR (j := 80) (zq_130 hZ) zf_X0_1 zkf_X0_28 rfl dX0_isHopeless_1 ?_
  refine zV_getR (j := 84) (zq_80 hZ) zf_X5_3 zkf_X0_77 rfl dX0_isHopeless_4 ?_
  refine zV_iload_n 1 dX0_isHopeless_7 rfl rfl ?_
  obtain ⟨hg, h⟩ := zs_gd h
  refine zV_iald (zq_84 hZ) hg dX0_isHopeless_8 (fun m1 => ?_)
  refine zV_aload_n 0 dX0_isHopeless_9 rfl rfl ?_
  refine zV_getR (j := 40) (zq_130 hZ) zf_X0_0 zkf_X0_24 rfl dX0_isHopeless_10 ?_
  refine zV_getR (j := 59) (zq_40 hZ) zf_X7_18 zkf_X0_80 rfl dX0_isHopeless_13 ?_
  refine zV_iconst (v := 4) dX0_isHopeless_16 rfl ?_
  obtain ⟨hg, h⟩ := zs_gd h
  refine zV_iald (zq_59 hZ) hg dX0_isHopeless_17 (fun m2 => ?_)
  refine zV_icmp_le 23 dX0_isHopeless_18 (by decide) m1 m2 (fun hc_ => ?_) (fun hc_ => ?_)
  · replace h := zs_t h hc_
    refine zV_iconst (v := 0) dX0_isHopeless_23 rfl ?_
    refine zV_istore_n [(2, zI 0), (0, zR 130), (1, zI x1)] dX0_isHopeless_24 rfl (by decide) rfl ?_
    refine zV_ls [1, 2, 0] rfl ?_
    refine (zV_loop (Vh := fun s11 : Int => z32 s11 → zV zmX0_isHopeless nn 0 0 Z 25 [(0, zR 130), (1, zI x1), (2, zI s11)] [] M Q) h (fun s11 P12 hP13 hc14 he15 => ?_)) zi_0
    intro c16
    refine fX0_isHopeless_l25_ok hZ hn hx1 c16 hP13 hc14 (fun s17 h18 d19 => ?_) (fun r20 h21 => he15 _ h21)
    have h := he15 _ h18
    refine zV_iconst (v := 1) dX0_isHopeless_60 rfl ?_
    exact zV_iretb dX0_isHopeless_61 rfl (Or.inr rfl) h
  · replace h := zs_f h hc_
    refine zV_iconst (v := 1) dX0_isHopeless_21 rfl ?_
    exact zV_iretb dX0_isHopeless_22 rfl (Or.inr rfl) h
noncomputable def fX0_countPlayable_l5 (M : zMem) : Option ((zMem) ⊕ (zMem)) :=
  (if (M 80 0) ≤ (M 130 7) then some (.inr M) else (zbd (fX0_isHopeless (M 130 7) M) fun r4 => (if r4 = 0 then some (.inl (zup M 130 7 (zw ((M 130 7) + 1)))) else some (.inr M))))
set_option maxRecDepth 100000 in
set_option maxHeartbeats 4000000 in
theorem fX0_countPlayable_l5_ok {Z : zZ} (hZ : zB Z) {nn : Nat} (hn : 4 ≤ nn)   {M : zMem} {Q : Option zAV → zMem → zZ → Prop} {P : (zMem) ⊕ (zMem) → Prop} (h : zSat (fX0_countPlayable_l5 M) P)  (hc : ∀ s : zMem, P (.inl s) → zV zmX0_countPlayable nn 0 0 Z 5 [(0, zR 130)] [] s Q) (he : ∀ s : zMem, P (.inr s) → zV zmX0_countPlayable nn 0 0 Z 43 [(0, zR 130)] [] s Q)   : zV zmX0_countPlayable nn 0 0 Z 5 [(0, zR 130)] [] M Q := by
  unfold fX0_countPlayable_l5 at h
  refine zV_aload_n 0 dX0_countPlayable_5 rfl rfl ?_
  refine zV_getI (zq_130 hZ) zf_X0_7 zkf_X0_89 rfl dX0_countPlayable_6 (fun m1 => ?_)
  refine zV_aload_n 0 dX0_countPlayable_9 rfl rfl ?_
  refine zV_getR (j := 80) (zq_130 hZ) zf_X0_1 zkf_X0_28 rfl dX0_countPlayable_10 ?_
  refine zV_getI (zq_80 hZ) zf_X5_0 zkf_X0_53 rfl dX0_countPlayable_13 (fun m2 => ?_)
  refine zV_icmp_ge 43 dX0_countPlayable_16 (by decide) m1 m2 (fun hc_ => ?_) (fun hc_ => ?_)
  · replace h := zs_t h hc_
    exact he _ h 
  · replace h := zs_f h hc_
    refine zV_aload_n 0 dX0_countPlayable_19 rfl rfl ?_
    refine zV_aload_n 0 dX0_countPlayable_20 rfl rfl ?_
    refine zV_getI (zq_130 hZ) zf_X0_7 zkf_X0_89 rfl dX0_countPlayable_21 (fun m3 => ?_)
    refine zV_cVI (y' := zmX0_isHopeless) (n' := 3) (As := [zI (M 130 7)]) zc_X0_92 (zq_130 hZ) rfl dX0_countPlayable_24 (Nat.le_trans (by decide) hn) rfl (Nat.le_of_ble_eq_true rfl) (Nat.le_of_ble_eq_true rfl) rfl h (fun Q' h' => fX0_isHopeless_ok hZ (Nat.le_refl _) m3 h') (fun r4 c5 b6 h => ?_)
    refine zV_if_ne 43 dX0_countPlayable_27 (by decide) c5 (fun hc_ => ?_) (fun hc_ => ?_)
    · replace h := zs_f h hc_
      exact he _ h 
    · replace h := zs_t h hc_
      refine zV_aload_n 0 dX0_countPlayable_30 rfl rfl ?_
      refine zV_dup dX0_countPlayable_31 rfl ?_
      refine zV_getI (zq_130 hZ) zf_X0_7 zkf_X0_89 rfl dX0_countPlayable_32 (fun m8 => ?_)
      refine zV_iconst (v := 1) dX0_countPlayable_35 rfl ?_
      refine zV_iadd dX0_countPlayable_36 ?_
      refine zV_w ?_
      refine zV_putI (zq_130 hZ) (by decide) zf_X0_7 zkf_X0_89 rfl dX0_countPlayable_37 (z32_w _) ?_
      refine zV_goto 5 dX0_countPlayable_40 (by decide) ?_
      exact hc _ h 
noncomputable def fX0_countPlayable (M : zMem) : Option (zMem) :=
  (zbd (zit (fun s9 => fX0_countPlayable_l5  s9) (zup M 130 7 0)) fun s14 => some s14)
set_option maxRecDepth 100000 in
set_option maxHeartbeats 4000000 in
theorem fX0_countPlayable_ok {Z : zZ} (hZ : zB Z) {nn : Nat} (hn : 4 ≤ nn)   {M : zMem} {Q : Option zAV → zMem → zZ → Prop} (h : zSat (fX0_countPlayable M) (fun r => Q none r Z))  : zV zmX0_countPlayable nn 0 0 Z 0 [(0, zR 130)] [] M Q := by
  unfold fX0_countPlayable at h
  refine zV_aload_n 0 dX0_countPlayable_0 rfl rfl ?_
  refine zV_iconst (v := 0) dX0_countPlayable_1 rfl ?_
  refine zV_putI (zq_130 hZ) (by decide) zf_X0_7 zkf_X0_89 rfl dX0_countPlayable_2 zi_0 ?_
  refine (zV_loop (Vh := fun s9 : zMem => zV zmX0_countPlayable nn 0 0 Z 5 [(0, zR 130)] [] s9 Q) h (fun s9 P10 hP11 hc12 he13 => ?_)) 
  refine fX0_countPlayable_l5_ok hZ hn  hP11 hc12 (fun s14 h15  => ?_)
  have h := he13 _ h15
  exact zV_vret dX0_countPlayable_43 rfl h
noncomputable def fX0_isSettled (M : zMem) : Option (Int) :=
  (zgd ((0 : Int) ≤ (0 : Int) ∧ (0 : Int) < 9) (if (M 130 8) ≤ (M 136 0) then some 1 else (if (M 80 0) ≤ (M 130 7) then some 0 else (if (M 130 9) < (M 130 7) then some 0 else some 1))))
set_option maxRecDepth 100000 in
set_option maxHeartbeats 4000000 in
theorem fX0_isSettled_ok {Z : zZ} (hZ : zB Z) {nn : Nat} (hn : 0 ≤ nn)   {M : zMem} {Q : Option zAV → zMem → zZ → Prop} (h : zSat (fX0_isSettled M) (fun r => Q (some (zI r)) M Z))  : zV zmX0_isSettled nn 0 0 Z 0 [(0, zR 130)] [] M Q := by
  unfold fX0_isSettled at h
  refine zV_aload_n 0 dX0_isSettled_0 rfl rfl ?_
  refine zV_getI (zq_130 hZ) zf_X0_8 zkf_X0_40 rfl dX0_isSettled_1 (fun m1 => ?_)
  refine zV_aload_n 0 dX0_isSettled_4 rfl rfl ?_
  refine zV_getR (j := 136) (zq_130 hZ) zf_X0_5 zkf_X0_18 rfl dX0_isSettled_5 ?_
  refine zV_iconst (v := 0) dX0_isSettled_8 rfl ?_
  obtain ⟨hg, h⟩ := zs_gd h
  refine zV_iald (zq_136 hZ) hg dX0_isSettled_9 (fun m2 => ?_)
  refine zV_icmp_le 38 dX0_isSettled_10 (by decide) m1 m2 (fun hc_ => ?_) (fun hc_ => ?_)
  · replace h := zs_t h hc_
    refine zV_iconst (v := 1) dX0_isSettled_38 rfl ?_
    refine zV_goto 43 dX0_isSettled_39 (by decide) ?_
    exact zV_iretb dX0_isSettled_43 rfl (Or.inr rfl) h
  · replace h := zs_f h hc_
    refine zV_aload_n 0 dX0_isSettled_13 rfl rfl ?_
    refine zV_getI (zq_130 hZ) zf_X0_7 zkf_X0_89 rfl dX0_isSettled_14 (fun m3 => ?_)
    refine zV_aload_n 0 dX0_isSettled_17 rfl rfl ?_
    refine zV_getR (j := 80) (zq_130 hZ) zf_X0_1 zkf_X0_28 rfl dX0_isSettled_18 ?_
    refine zV_getI (zq_80 hZ) zf_X5_0 zkf_X0_53 rfl dX0_isSettled_21 (fun m4 => ?_)
    refine zV_icmp_ge 42 dX0_isSettled_24 (by decide) m3 m4 (fun hc_ => ?_) (fun hc_ => ?_)
    · replace h := zs_t h hc_
      refine zV_iconst (v := 0) dX0_isSettled_42 rfl ?_
      exact zV_iretb dX0_isSettled_43 rfl (Or.inl rfl) h
    · replace h := zs_f h hc_
      refine zV_aload_n 0 dX0_isSettled_27 rfl rfl ?_
      refine zV_getI (zq_130 hZ) zf_X0_9 zkf_X0_44 rfl dX0_isSettled_28 (fun m5 => ?_)
      refine zV_aload_n 0 dX0_isSettled_31 rfl rfl ?_
      refine zV_getI (zq_130 hZ) zf_X0_7 zkf_X0_89 rfl dX0_isSettled_32 (fun m6 => ?_)
      refine zV_icmp_lt 42 dX0_isSettled_35 (by decide) m5 m6 (fun hc_ => ?_) (fun hc_ => ?_)
      · replace h := zs_t h hc_
        refine zV_iconst (v := 0) dX0_isSettled_42 rfl ?_
        exact zV_iretb dX0_isSettled_43 rfl (Or.inl rfl) h
      · replace h := zs_f h hc_
        refine zV_iconst (v := 1) dX0_isSettled_38 rfl ?_
        refine zV_goto 43 dX0_isSettled_39 (by decide) ?_
        exact zV_iretb dX0_isSettled_43 rfl (Or.inr rfl) h
noncomputable def fX0_search_j119 (F_search : Int → Int → zMem → Option zMem) (x1 x2 x3 s0 s1 : Int) (M : zMem) : Option ((Int × zMem) ⊕ (Int × zMem)) :=
  (zgd ((0 : Int) ≤ (x1 + 1) ∧ (x1 + 1) < 9) (if (M 130 8) ≤ (zw ((zw (s1 + s0)) + (M 136 (x1 + 1)))) then some (.inl ((zw (x3 + 1)), M)) else (zbd (F_search (zw (x1 + 1)) (zw (s1 + s0)) M) fun M21 => some (.inl ((zw (x3 + 1)), M21)))))
set_option maxRecDepth 100000 in
set_option maxHeartbeats 4000000 in
theorem fX0_search_j119_ok {Z : zZ} (hZ : zB Z) {nn : Nat} (hn : 3 ≤ nn) {n0 : Nat} (hn0 : n0 + 1 ≤ nn) {F_search : Int → Int → zMem → Option zMem}  {x1 x2 x3 s0 s1 : Int} (hx1 : z32 x1) (hx2 : z32 x2) (hx3 : z32 x3) (hs0 : z32 s0) (hbs0 : s0 = 0 ∨ s0 = 1) (hs1 : z32 s1) {M : zMem} (hF_search : ∀ (y0 y1 : Int) (M : zMem) (Q : Option zAV → zMem → zZ → Prop), z32 y0 → z32 y1 → zSat (F_search y0 y1 M) (fun r => Q none r Z) → zV zmX0_search n0 0 0 Z 0 (zent 0 [zR 130, zI y0, zI y1]) [] M Q) {Q : Option zAV → zMem → zZ → Prop} {P : (Int × zMem) ⊕ (Int × zMem) → Prop} (h : zSat (fX0_search_j119 F_search x1 x2 x3 s0 s1 M) P)  (hc : ∀ s : Int × zMem, P (.inl s) → z32 (s.1) → zV zmX0_search nn 0 0 Z 54 [(0, zR 130), (1, zI x1), (2, zI x2), (3, zI (s.1))] [] (s.2) Q) (he : ∀ s : Int × zMem, P (.inr s) → z32 (s.1) → zV zmX0_search nn 0 0 Z 155 [(0, zR 130), (1, zI x1), (2, zI x2), (3, zI (s.1))] [] (s.2) Q)   : zV zmX0_search nn 0 0 Z 119 [(0, zR 130), (1, zI x1), (2, zI x2), (3, zI x3)] [zI s0, zI s1] M Q := by
  unfold fX0_search_j119 at h
  refine zV_iadd dX0_search_119 ?_
  refine zV_w ?_
  refine zV_istore [(4, zI (zw (s1 + s0))), (0, zR 130), (1, zI x1), (2, zI x2), (3, zI x3)] dX0_search_120 (by decide) rfl ?_
  refine zV_iload 0 dX0_search_122 rfl ?_
  refine zV_aload_n 1 dX0_search_124 rfl rfl ?_
  refine zV_getR (j := 136) (zq_130 hZ) zf_X0_5 zkf_X0_18 rfl dX0_search_125 ?_
  refine zV_iload_n 2 dX0_search_128 rfl rfl ?_
  refine zV_iconst (v := 1) dX0_search_129 rfl ?_
  refine zV_iadd dX0_search_130 ?_
  obtain ⟨hg, h⟩ := zs_gd h
  refine zV_iald (zq_136 hZ) hg dX0_search_131 (fun m16 => ?_)
  refine zV_iadd dX0_search_132 ?_
  refine zV_aload_n 1 dX0_search_133 rfl rfl ?_
  refine zV_getI (zq_130 hZ) zf_X0_8 zkf_X0_40 rfl dX0_search_134 (fun m17 => ?_)
  refine zV_w2 ?_
  refine zV_icmp_ge 149 dX0_search_137 (by decide) (z32_w _) m17 (fun hc_ => ?_) (fun hc_ => ?_)
  · replace h := zs_t h hc_
    refine zV_iinc 4 [(3, zI (zw (x3 + 1))), (4, zI (zw (s1 + s0))), (0, zR 130), (1, zI x1), (2, zI x2)] dX0_search_149 rfl rfl (by decide) rfl ?_
    refine zV_goto 54 dX0_search_152 (by decide) ?_
    refine zV_ls [2, 3, 4, 0] rfl ?_
    exact hc _ h (z32_w _)
  · replace h := zs_f h hc_
    refine zV_aload_n 1 dX0_search_140 rfl rfl ?_
    refine zV_iload_n 2 dX0_search_141 rfl rfl ?_
    refine zV_iconst (v := 1) dX0_search_142 rfl ?_
    refine zV_iadd dX0_search_143 ?_
    refine zV_iload 0 dX0_search_144 rfl ?_
    refine zV_w2 ?_
    refine zV_cVV (y' := zmX0_search) (n' := n0) (As := [zI (zw (x1 + 1)), zI (zw (s1 + s0))]) zc_X0_66 (zq_130 hZ) rfl dX0_search_146 hn0 rfl (Nat.le_of_ble_eq_true rfl) (Nat.le_of_ble_eq_true rfl) rfl h (fun Q' h' => hF_search _ _ _ Q' (z32_w _) (z32_w _) h') (fun M21 h => ?_)
    refine zV_iinc 4 [(3, zI (zw (x3 + 1))), (4, zI (zw (s1 + s0))), (0, zR 130), (1, zI x1), (2, zI x2)] dX0_search_149 rfl rfl (by decide) rfl ?_
    refine zV_goto 54 dX0_search_152 (by decide) ?_
    refine zV_ls [2, 3, 4, 0] rfl ?_
    exact hc _ h (z32_w _)
noncomputable def fX0_search_l54 (F_search : Int → Int → zMem → Option zMem) (x1 x2 x3 : Int) (M : zMem) : Option ((Int × zMem) ⊕ (Int × zMem)) :=
  (zgd ((0 : Int) ≤ (1 : Int) ∧ (1 : Int) < 11) (if (zw (2 * (M 59 1))) ≤ x3 then some (.inr (x3, M)) else (zbd (fX0_isSettled M) fun r4 => (if r4 = 0 then (zgd ((0 : Int) ≤ x1 ∧ x1 < 8) (zbd (fX2_faultOf 134 8 x1 (zup M 134 x1 x3)) fun r8 => (if r8 = 0 then (zbd (fX2_liftsAt 134 8 x1 (zup M 134 x1 x3)) fun r12 => (if r12 = 0 then fX0_search_j119 F_search x1 x2 x3 0 x2 (zup M 134 x1 x3) else fX0_search_j119 F_search x1 x2 x3 1 x2 (zup M 134 x1 x3))) else some (.inl ((zw (x3 + 1)), (zup M 134 x1 x3)))))) else some (.inr (x3, M))))))
set_option maxRecDepth 100000 in
set_option maxHeartbeats 4000000 in
theorem fX0_search_l54_ok {Z : zZ} (hZ : zB Z) {nn : Nat} (hn : 3 ≤ nn) {n0 : Nat} (hn0 : n0 + 1 ≤ nn) {F_search : Int → Int → zMem → Option zMem}  {x1 x2 x3 : Int} (hx1 : z32 x1) (hx2 : z32 x2) (hx3 : z32 x3) {M : zMem} (hF_search : ∀ (y0 y1 : Int) (M : zMem) (Q : Option zAV → zMem → zZ → Prop), z32 y0 → z32 y1 → zSat (F_search y0 y1 M) (fun r => Q none r Z) → zV zmX0_search n0 0 0 Z 0 (zent 0 [zR 130, zI y0, zI y1]) [] M Q) {Q : Option zAV → zMem → zZ → Prop} {P : (Int × zMem) ⊕ (Int × zMem) → Prop} (h : zSat (fX0_search_l54 F_search x1 x2 x3 M) P)  (hc : ∀ s : Int × zMem, P (.inl s) → z32 (s.1) → zV zmX0_search nn 0 0 Z 54 [(0, zR 130), (1, zI x1), (2, zI x2), (3, zI (s.1))] [] (s.2) Q) (he : ∀ s : Int × zMem, P (.inr s) → z32 (s.1) → zV zmX0_search nn 0 0 Z 155 [(0, zR 130), (1, zI x1), (2, zI x2), (3, zI (s.1))] [] (s.2) Q)   : zV zmX0_search nn 0 0 Z 54 [(0, zR 130), (1, zI x1), (2, zI x2), (3, zI x3)] [] M Q := by
  unfold fX0_search_l54 at h
  refine zV_iload_n 3 dX0_search_54 rfl rfl ?_
  refine zV_iconst (v := 2) dX0_search_55 rfl ?_
  refine zV_aload_n 0 dX0_search_56 rfl rfl ?_
  refine zV_getR (j := 40) (zq_130 hZ) zf_X0_0 zkf_X0_24 rfl dX0_search_57 ?_
  refine zV_getR (j := 59) (zq_40 hZ) zf_X7_18 zkf_X0_80 rfl dX0_search_60 ?_
  refine zV_iconst (v := 1) dX0_search_63 rfl ?_
  obtain ⟨hg, h⟩ := zs_gd h
  refine zV_iald (zq_59 hZ) hg dX0_search_64 (fun m3 => ?_)
  refine zV_imul dX0_search_65 ?_
  refine zV_w ?_
  refine zV_icmp_ge 155 dX0_search_66 (by decide) hx3 (z32_w _) (fun hc_ => ?_) (fun hc_ => ?_)
  · replace h := zs_t h hc_
    exact he _ h hx3
  · replace h := zs_f h hc_
    refine zV_aload_n 0 dX0_search_69 rfl rfl ?_
    refine zV_cVI (y' := zmX0_isSettled) (n' := 0) (As := []) zc_X0_122 (zq_130 hZ) rfl dX0_search_70 (Nat.le_trans (by decide) hn) rfl (Nat.le_of_ble_eq_true rfl) (Nat.le_of_ble_eq_true rfl) rfl h (fun Q' h' => fX0_isSettled_ok hZ (Nat.le_refl _)  h') (fun r4 c5 b6 h => ?_)
    refine zV_if_ne 155 dX0_search_73 (by decide) c5 (fun hc_ => ?_) (fun hc_ => ?_)
    · replace h := zs_f h hc_
      exact he _ h hx3
    · replace h := zs_t h hc_
      refine zV_aload_n 0 dX0_search_76 rfl rfl ?_
      refine zV_getR (j := 134) (zq_130 hZ) zf_X0_3 zkf_X0_9 rfl dX0_search_77 ?_
      refine zV_iload_n 1 dX0_search_80 rfl rfl ?_
      refine zV_iload_n 3 dX0_search_81 rfl rfl ?_
      obtain ⟨hg, h⟩ := zs_gd h
      refine zV_iast (zq_134 hZ) (by decide) hg hx3 dX0_search_82 ?_
      refine zV_aload_n 0 dX0_search_83 rfl rfl ?_
      refine zV_getR (j := 100) (zq_130 hZ) zf_X0_2 zkf_X0_32 rfl dX0_search_84 ?_
      refine zV_aload_n 0 dX0_search_87 rfl rfl ?_
      refine zV_getR (j := 134) (zq_130 hZ) zf_X0_3 zkf_X0_9 rfl dX0_search_88 ?_
      refine zV_iload_n 1 dX0_search_91 rfl rfl ?_
      refine zV_cVI (y' := zmX2_faultOf) (n' := 2) (As := [zR 134, zI x1]) zc_X0_125 (zq_100 hZ) rfl dX0_search_92 (Nat.le_trans (by decide) hn) rfl (Nat.le_of_ble_eq_true rfl) (Nat.le_of_ble_eq_true rfl) rfl h (fun Q' h' => fX2_faultOf_ok hZ (Nat.le_refl _) (zq_134 hZ) (by decide) hx1 h') (fun r8 c9 b10 h => ?_)
      refine zV_if_ne 149 dX0_search_95 (by decide) c9 (fun hc_ => ?_) (fun hc_ => ?_)
      · replace h := zs_f h hc_
        refine zV_iinc 3 [(3, zI (zw (x3 + 1))), (0, zR 130), (1, zI x1), (2, zI x2)] dX0_search_149 rfl rfl (by decide) rfl ?_
        refine zV_goto 54 dX0_search_152 (by decide) ?_
        refine zV_ls [1, 2, 3, 0] rfl ?_
        exact hc _ h (z32_w _)
      · replace h := zs_t h hc_
        refine zV_iload_n 2 dX0_search_98 rfl rfl ?_
        refine zV_aload_n 0 dX0_search_99 rfl rfl ?_
        refine zV_getR (j := 100) (zq_130 hZ) zf_X0_2 zkf_X0_32 rfl dX0_search_100 ?_
        refine zV_aload_n 0 dX0_search_103 rfl rfl ?_
        refine zV_getR (j := 134) (zq_130 hZ) zf_X0_3 zkf_X0_9 rfl dX0_search_104 ?_
        refine zV_iload_n 1 dX0_search_107 rfl rfl ?_
        refine zV_cVI (y' := zmX2_liftsAt) (n' := 2) (As := [zR 134, zI x1]) zc_X0_129 (zq_100 hZ) rfl dX0_search_108 (Nat.le_trans (by decide) hn) rfl (Nat.le_of_ble_eq_true rfl) (Nat.le_of_ble_eq_true rfl) rfl h (fun Q' h' => fX2_liftsAt_ok hZ (Nat.le_refl _) (zq_134 hZ) (by decide) hx1 h') (fun r12 c13 b14 h => ?_)
        refine zV_if_eq 118 dX0_search_111 (by decide) c13 (fun hc_ => ?_) (fun hc_ => ?_)
        · replace h := zs_t h hc_
          refine zV_iconst (v := 0) dX0_search_118 rfl ?_
          exact fX0_search_j119_ok hZ hn hn0 hx1 hx2 hx3 zi_0 (Or.inl rfl) hx2 hF_search h hc he
        · replace h := zs_f h hc_
          refine zV_iconst (v := 1) dX0_search_114 rfl ?_
          refine zV_goto 119 dX0_search_115 (by decide) ?_
          exact fX0_search_j119_ok hZ hn hn0 hx1 hx2 hx3 zi_1 (Or.inr rfl) hx2 hF_search h hc he
noncomputable def fX0_search_s (F_search : Int → Int → zMem → Option zMem) (x1 x2 : Int) (M : zMem) : Option (zMem) :=
  (if x1 < ((zup M 130 9 (max (M 130 9) x1)) 130 7) then (zbd (zit (fun s22 => fX0_search_l54 F_search x1 x2 (s22.1) (s22.2)) (0, (zup M 130 9 (max (M 130 9) x1)))) fun s28 => some (s28.2)) else (if x1 = ((zup M 130 9 (max (M 130 9) x1)) 80 0) then (zgd (((0 : Int) ≤ (0 : Int) ∧ (0 : Int) + 8 ≤ 8) ∧ ((0 : Int) ≤ (0 : Int) ∧ (0 : Int) + 8 ≤ 8) ∧ (0 : Int) ≤ (8 : Int)) (some (zcpy (zup (zup M 130 9 (max (M 130 9) x1)) 130 8 x2) 134 0 135 0 8))) else some (zup M 130 9 (max (M 130 9) x1))))
set_option maxRecDepth 100000 in
set_option maxHeartbeats 4000000 in
theorem fX0_search_s_ok {Z : zZ} (hZ : zB Z) {nn : Nat} (hn : 3 ≤ nn) {n0 : Nat} (hn0 : n0 + 1 ≤ nn) {F_search : Int → Int → zMem → Option zMem}  {x1 x2 : Int} (hx1 : z32 x1) (hx2 : z32 x2) {M : zMem} (hF_search : ∀ (y0 y1 : Int) (M : zMem) (Q : Option zAV → zMem → zZ → Prop), z32 y0 → z32 y1 → zSat (F_search y0 y1 M) (fun r => Q none r Z) → zV zmX0_search n0 0 0 Z 0 (zent 0 [zR 130, zI y0, zI y1]) [] M Q) {Q : Option zAV → zMem → zZ → Prop} (h : zSat (fX0_search_s F_search x1 x2 M) (fun r => Q none r Z))  : zV zmX0_search nn 0 0 Z 0 [(0, zR 130), (1, zI x1), (2, zI x2)] [] M Q := by
  unfold fX0_search_s at h
  refine zV_aload_n 0 dX0_search_0 rfl rfl ?_
  refine zV_aload_n 0 dX0_search_1 rfl rfl ?_
  refine zV_getI (zq_130 hZ) zf_X0_9 zkf_X0_44 rfl dX0_search_2 (fun m1 => ?_)
  refine zV_iload_n 1 dX0_search_5 rfl rfl ?_
  refine zV_mmax zml_X0_113 dX0_search_6 (Nat.le_trans (by decide) hn) (Nat.le_of_ble_eq_true rfl) m1 hx1 ?_
  refine zV_putI (zq_130 hZ) (by decide) zf_X0_9 zkf_X0_44 rfl dX0_search_9 (z32_max m1 hx1) ?_
  refine zV_iload_n 1 dX0_search_12 rfl rfl ?_
  refine zV_aload_n 0 dX0_search_13 rfl rfl ?_
  refine zV_getI (zq_130 hZ) zf_X0_7 zkf_X0_89 rfl dX0_search_14 (fun m2 => ?_)
  refine zV_icmp_lt 52 dX0_search_17 (by decide) hx1 m2 (fun hc_ => ?_) (fun hc_ => ?_)
  · replace h := zs_t h hc_
    refine zV_iconst (v := 0) dX0_search_52 rfl ?_
    refine zV_istore_n [(3, zI 0), (0, zR 130), (1, zI x1), (2, zI x2)] dX0_search_53 rfl (by decide) rfl ?_
    refine zV_ls [1, 2, 3, 0] rfl ?_
    refine (zV_loop (Vh := fun s22 : Int × zMem => z32 (s22.1) → zV zmX0_search nn 0 0 Z 54 [(0, zR 130), (1, zI x1), (2, zI x2), (3, zI (s22.1))] [] (s22.2) Q) h (fun s22 P23 hP24 hc25 he26 => ?_)) zi_0
    intro c27
    refine fX0_search_l54_ok hZ hn hn0 hx1 hx2 c27 hF_search hP24 hc25 (fun s28 h29 d30 => ?_)
    have h := he26 _ h29
    exact zV_vret dX0_search_155 rfl h
  · replace h := zs_f h hc_
    refine zV_iload_n 1 dX0_search_20 rfl rfl ?_
    refine zV_aload_n 0 dX0_search_21 rfl rfl ?_
    refine zV_getR (j := 80) (zq_130 hZ) zf_X0_1 zkf_X0_28 rfl dX0_search_22 ?_
    refine zV_getI (zq_80 hZ) zf_X5_0 zkf_X0_53 rfl dX0_search_25 (fun m31 => ?_)
    refine zV_icmp_ne 51 dX0_search_28 (by decide) hx1 m31 (fun hc_ => ?_) (fun hc_ => ?_)
    · replace h := zs_f h hc_
      exact zV_vret dX0_search_51 rfl h
    · replace h := zs_t h hc_
      refine zV_aload_n 0 dX0_search_31 rfl rfl ?_
      refine zV_iload_n 2 dX0_search_32 rfl rfl ?_
      refine zV_putI (zq_130 hZ) (by decide) zf_X0_8 zkf_X0_40 rfl dX0_search_33 hx2 ?_
      refine zV_aload_n 0 dX0_search_36 rfl rfl ?_
      refine zV_getR (j := 134) (zq_130 hZ) zf_X0_3 zkf_X0_9 rfl dX0_search_37 ?_
      refine zV_iconst (v := 0) dX0_search_40 rfl ?_
      refine zV_aload_n 0 dX0_search_41 rfl rfl ?_
      refine zV_getR (j := 135) (zq_130 hZ) zf_X0_4 zkf_X0_15 rfl dX0_search_42 ?_
      refine zV_iconst (v := 0) dX0_search_45 rfl ?_
      refine zV_bipush (v := 8) dX0_search_46 rfl ?_
      obtain ⟨hg, h⟩ := zs_gd h
      refine zV_acopy zac_X0_116 (zq_134 hZ) (zq_135 hZ) (by decide) hg dX0_search_48 (Nat.le_trans (by decide) hn) (Nat.le_of_ble_eq_true rfl) ?_
      exact zV_vret dX0_search_51 rfl h
noncomputable def fX0_search : Nat → Int → Int → zMem → Option (zMem)
  | 0, _, _, _ => none
  | d + 1, x1, x2, M => fX0_search_s (fX0_search d) x1 x2 M
theorem fX0_search_ok {Z : zZ} (hZ : zB Z) : ∀ (d : Nat) {nn : Nat} (hn : 3 + d ≤ nn) {x1 x2 : Int} (hx1 : z32 x1) (hx2 : z32 x2) {M : zMem} {Q : Option zAV → zMem → zZ → Prop} (h : zSat (fX0_search d x1 x2 M) (fun r => Q none r Z)), zV zmX0_search nn 0 0 Z 0 [(0, zR 130), (1, zI x1), (2, zI x2)] [] M Q
  | 0, _, _, _, _,  _, _,  _, _, h => h.elim
  | d + 1, nn, hn, x1, x2,  hx1, hx2,  M, Q, h => fX0_search_s_ok (n0 := nn - 1) hZ (by omega) (by omega) hx1 hx2 (fun _ _ M' Q' gx1 gx2 hh => fX0_search_ok hZ d (by omega) gx1 gx2 hh) h
noncomputable def fX0_learn (M : zMem) : Option (Int × zMem) :=
  (if (M 80 0) ≤ 8 then (if (M 130 10) = 0 then (zbd (fX0_countSure (zup (zup (zup M 130 10 1) 130 8 1000) 130 9 0)) fun M6 => (zbd (fX0_countPlayable M6) fun M10 => (zbd (fX0_search 20 0 0 M10) fun M14 => some (1, M14)))) else some (1, M)) else some (0, M))
set_option maxRecDepth 100000 in
set_option maxHeartbeats 4000000 in
theorem fX0_learn_ok {Z : zZ} (hZ : zB Z) {nn : Nat} (hn : 24 ≤ nn)   {M : zMem} {Q : Option zAV → zMem → zZ → Prop} (h : zSat (fX0_learn M) (fun r => Q (some (zI r.1)) r.2 Z))  : zV zmX0_learn nn 0 0 Z 0 [(0, zR 130)] [] M Q := by
  unfold fX0_learn at h
  refine zV_aload_n 0 dX0_learn_0 rfl rfl ?_
  refine zV_getR (j := 80) (zq_130 hZ) zf_X0_1 zkf_X0_28 rfl dX0_learn_1 ?_
  refine zV_getI (zq_80 hZ) zf_X5_0 zkf_X0_53 rfl dX0_learn_4 (fun m1 => ?_)
  refine zV_bipush (v := 8) dX0_learn_7 rfl ?_
  refine zV_icmp_le 14 dX0_learn_9 (by decide) m1 zi_8 (fun hc_ => ?_) (fun hc_ => ?_)
  · replace h := zs_t h hc_
    refine zV_aload_n 0 dX0_learn_14 rfl rfl ?_
    refine zV_getI (zq_130 hZ) zf_X0_10 zkf_X0_56 rfl dX0_learn_15 (fun m2 => ?_)
    refine zV_if_ne 52 dX0_learn_18 (by decide) m2 (fun hc_ => ?_) (fun hc_ => ?_)
    · replace h := zs_f h hc_
      refine zV_iconst (v := 1) dX0_learn_52 rfl ?_
      exact zV_iretb dX0_learn_53 rfl (Or.inr rfl) h
    · replace h := zs_t h hc_
      refine zV_aload_n 0 dX0_learn_21 rfl rfl ?_
      refine zV_iconst (v := 1) dX0_learn_22 rfl ?_
      refine zV_putB (zq_130 hZ) (by decide) zf_X0_10 zkf_X0_56 rfl dX0_learn_23 (Or.inr rfl) ?_
      refine zV_aload_n 0 dX0_learn_26 rfl rfl ?_
      refine zV_sipush (v := 1000) dX0_learn_27 rfl ?_
      refine zV_putI (zq_130 hZ) (by decide) zf_X0_8 zkf_X0_40 rfl dX0_learn_30 zi_1000 ?_
      refine zV_aload_n 0 dX0_learn_33 rfl rfl ?_
      refine zV_iconst (v := 0) dX0_learn_34 rfl ?_
      refine zV_putI (zq_130 hZ) (by decide) zf_X0_9 zkf_X0_44 rfl dX0_learn_35 zi_0 ?_
      refine zV_aload_n 0 dX0_learn_38 rfl rfl ?_
      refine zV_cVV (y' := zmX0_countSure) (n' := 4) (As := []) zc_X0_60 (zq_130 hZ) rfl dX0_learn_39 (Nat.le_trans (by decide) hn) rfl (Nat.le_of_ble_eq_true rfl) (Nat.le_of_ble_eq_true rfl) rfl h (fun Q' h' => fX0_countSure_ok hZ (Nat.le_refl _)  h') (fun M6 h => ?_)
      refine zV_aload_n 0 dX0_learn_42 rfl rfl ?_
      refine zV_cVV (y' := zmX0_countPlayable) (n' := 4) (As := []) zc_X0_63 (zq_130 hZ) rfl dX0_learn_43 (Nat.le_trans (by decide) hn) rfl (Nat.le_of_ble_eq_true rfl) (Nat.le_of_ble_eq_true rfl) rfl h (fun Q' h' => fX0_countPlayable_ok hZ (Nat.le_refl _)  h') (fun M10 h => ?_)
      refine zV_aload_n 0 dX0_learn_46 rfl rfl ?_
      refine zV_iconst (v := 0) dX0_learn_47 rfl ?_
      refine zV_iconst (v := 0) dX0_learn_48 rfl ?_
      refine zV_cVV (y' := zmX0_search) (n' := 23) (As := [zI 0, zI 0]) zc_X0_66 (zq_130 hZ) rfl dX0_learn_49 (Nat.le_trans (by decide) hn) rfl (Nat.le_of_ble_eq_true rfl) (Nat.le_of_ble_eq_true rfl) rfl h (fun Q' h' => fX0_search_ok hZ 20 (Nat.le_refl _) zi_0 zi_0 h') (fun M14 h => ?_)
      refine zV_iconst (v := 1) dX0_learn_52 rfl ?_
      exact zV_iretb dX0_learn_53 rfl (Or.inr rfl) h
  · replace h := zs_f h hc_
    refine zV_iconst (v := 0) dX0_learn_12 rfl ?_
    exact zV_iretb dX0_learn_13 rfl (Or.inl rfl) h
noncomputable def fX0_fewestLifts (M : zMem) : Option (Int × zMem) :=
  (zbd2 (fX0_learn M) fun r1 M4 => (if r1 = 0 then some ((-1), M4) else (if 1000 ≤ (M4 130 8) then some ((-1), M4) else some ((M4 130 8), M4))))
set_option maxRecDepth 100000 in
set_option maxHeartbeats 4000000 in
theorem fX0_fewestLifts_ok {Z : zZ} (hZ : zB Z) {nn : Nat} (hn : 25 ≤ nn)   {M : zMem} {Q : Option zAV → zMem → zZ → Prop} (h : zSat (fX0_fewestLifts M) (fun r => Q (some (zI r.1)) r.2 Z))  : zV zmX0_fewestLifts nn 0 0 Z 0 [(0, zR 130)] [] M Q := by
  unfold fX0_fewestLifts at h
  refine zV_aload_n 0 dX0_fewestLifts_0 rfl rfl ?_
  refine zV_cVIm (y' := zmX0_learn) (n' := 24) (As := []) zc_X0_36 (zq_130 hZ) rfl dX0_fewestLifts_1 (Nat.le_trans (by decide) hn) rfl (Nat.le_of_ble_eq_true rfl) (Nat.le_of_ble_eq_true rfl) rfl h (fun Q' h' => fX0_learn_ok hZ (Nat.le_refl _)  h') (fun r1 M4 c2 b3 h => ?_)
  refine zV_if_eq 24 dX0_fewestLifts_4 (by decide) c2 (fun hc_ => ?_) (fun hc_ => ?_)
  · replace h := zs_t h hc_
    refine zV_iconst (v := (-1)) dX0_fewestLifts_24 rfl ?_
    exact zV_ireti dX0_fewestLifts_25 rfl zi_n1 h
  · replace h := zs_f h hc_
    refine zV_aload_n 0 dX0_fewestLifts_7 rfl rfl ?_
    refine zV_getI (zq_130 hZ) zf_X0_8 zkf_X0_40 rfl dX0_fewestLifts_8 (fun m5 => ?_)
    refine zV_sipush (v := 1000) dX0_fewestLifts_11 rfl ?_
    refine zV_icmp_ge 24 dX0_fewestLifts_14 (by decide) m5 zi_1000 (fun hc_ => ?_) (fun hc_ => ?_)
    · replace h := zs_t h hc_
      refine zV_iconst (v := (-1)) dX0_fewestLifts_24 rfl ?_
      exact zV_ireti dX0_fewestLifts_25 rfl zi_n1 h
    · replace h := zs_f h hc_
      refine zV_aload_n 0 dX0_fewestLifts_17 rfl rfl ?_
      refine zV_getI (zq_130 hZ) zf_X0_8 zkf_X0_40 rfl dX0_fewestLifts_18 (fun m6 => ?_)
      refine zV_goto 25 dX0_fewestLifts_21 (by decide) ?_
      exact zV_ireti dX0_fewestLifts_25 rfl m6 h
noncomputable def fX0_fingerOf (x1 : Int) (M : zMem) : Option (Int × zMem) :=
  (zbd2 (fX0_learn M) fun r1 M4 => (if r1 = 0 then some ((-1), M4) else (if 1000 ≤ (M4 130 8) then some ((-1), M4) else (zbd (fX5_has 80 x1 M4) fun r6 => (if r6 = 0 then some ((-1), M4) else (zgd ((0 : Int) ≤ x1 ∧ x1 < 8) (some ((M4 135 x1), M4))))))))
set_option maxRecDepth 100000 in
set_option maxHeartbeats 4000000 in
theorem fX0_fingerOf_ok {Z : zZ} (hZ : zB Z) {nn : Nat} (hn : 25 ≤ nn)  {x1 : Int} (hx1 : z32 x1) {M : zMem} {Q : Option zAV → zMem → zZ → Prop} (h : zSat (fX0_fingerOf x1 M) (fun r => Q (some (zI r.1)) r.2 Z))  : zV zmX0_fingerOf nn 0 0 Z 0 [(0, zR 130), (1, zI x1)] [] M Q := by
  unfold fX0_fingerOf at h
  refine zV_aload_n 0 dX0_fingerOf_0 rfl rfl ?_
  refine zV_cVIm (y' := zmX0_learn) (n' := 24) (As := []) zc_X0_36 (zq_130 hZ) rfl dX0_fingerOf_1 (Nat.le_trans (by decide) hn) rfl (Nat.le_of_ble_eq_true rfl) (Nat.le_of_ble_eq_true rfl) rfl h (fun Q' h' => fX0_learn_ok hZ (Nat.le_refl _)  h') (fun r1 M4 c2 b3 h => ?_)
  refine zV_if_eq 37 dX0_fingerOf_4 (by decide) c2 (fun hc_ => ?_) (fun hc_ => ?_)
  · replace h := zs_t h hc_
    refine zV_iconst (v := (-1)) dX0_fingerOf_37 rfl ?_
    exact zV_ireti dX0_fingerOf_38 rfl zi_n1 h
  · replace h := zs_f h hc_
    refine zV_aload_n 0 dX0_fingerOf_7 rfl rfl ?_
    refine zV_getI (zq_130 hZ) zf_X0_8 zkf_X0_40 rfl dX0_fingerOf_8 (fun m5 => ?_)
    refine zV_sipush (v := 1000) dX0_fingerOf_11 rfl ?_
    refine zV_icmp_ge 37 dX0_fingerOf_14 (by decide) m5 zi_1000 (fun hc_ => ?_) (fun hc_ => ?_)
    · replace h := zs_t h hc_
      refine zV_iconst (v := (-1)) dX0_fingerOf_37 rfl ?_
      exact zV_ireti dX0_fingerOf_38 rfl zi_n1 h
    · replace h := zs_f h hc_
      refine zV_aload_n 0 dX0_fingerOf_17 rfl rfl ?_
      refine zV_getR (j := 80) (zq_130 hZ) zf_X0_1 zkf_X0_28 rfl dX0_fingerOf_18 ?_
      refine zV_iload_n 1 dX0_fingerOf_21 rfl rfl ?_
      refine zV_cVI (y' := zmX5_has) (n' := 0) (As := [zI x1]) zc_X0_47 (zq_80 hZ) rfl dX0_fingerOf_22 (Nat.le_trans (by decide) hn) rfl (Nat.le_of_ble_eq_true rfl) (Nat.le_of_ble_eq_true rfl) rfl h (fun Q' h' => fX5_has_ok hZ (Nat.le_refl _) (zqpi_80 hZ) (by decide) hx1 h') (fun r6 c7 b8 h => ?_)
      refine zV_if_eq 37 dX0_fingerOf_25 (by decide) c7 (fun hc_ => ?_) (fun hc_ => ?_)
      · replace h := zs_t h hc_
        refine zV_iconst (v := (-1)) dX0_fingerOf_37 rfl ?_
        exact zV_ireti dX0_fingerOf_38 rfl zi_n1 h
      · replace h := zs_f h hc_
        refine zV_aload_n 0 dX0_fingerOf_28 rfl rfl ?_
        refine zV_getR (j := 135) (zq_130 hZ) zf_X0_4 zkf_X0_15 rfl dX0_fingerOf_29 ?_
        refine zV_iload_n 1 dX0_fingerOf_32 rfl rfl ?_
        obtain ⟨hg, h⟩ := zs_gd h
        refine zV_iald (zq_135 hZ) hg dX0_fingerOf_33 (fun m10 => ?_)
        refine zV_goto 38 dX0_fingerOf_34 (by decide) ?_
        exact zV_ireti dX0_fingerOf_38 rfl m10 h
noncomputable def fX0_farthest (M : zMem) : Option (Int × zMem) :=
  (zbd2 (fX0_learn M) fun r1 M4 => (if r1 = 0 then some ((-1), M4) else some ((M4 130 9), M4)))
set_option maxRecDepth 100000 in
set_option maxHeartbeats 4000000 in
theorem fX0_farthest_ok {Z : zZ} (hZ : zB Z) {nn : Nat} (hn : 25 ≤ nn)   {M : zMem} {Q : Option zAV → zMem → zZ → Prop} (h : zSat (fX0_farthest M) (fun r => Q (some (zI r.1)) r.2 Z))  : zV zmX0_farthest nn 0 0 Z 0 [(0, zR 130)] [] M Q := by
  unfold fX0_farthest at h
  refine zV_aload_n 0 dX0_farthest_0 rfl rfl ?_
  refine zV_cVIm (y' := zmX0_learn) (n' := 24) (As := []) zc_X0_36 (zq_130 hZ) rfl dX0_farthest_1 (Nat.le_trans (by decide) hn) rfl (Nat.le_of_ble_eq_true rfl) (Nat.le_of_ble_eq_true rfl) rfl h (fun Q' h' => fX0_learn_ok hZ (Nat.le_refl _)  h') (fun r1 M4 c2 b3 h => ?_)
  refine zV_if_eq 14 dX0_farthest_4 (by decide) c2 (fun hc_ => ?_) (fun hc_ => ?_)
  · replace h := zs_t h hc_
    refine zV_iconst (v := (-1)) dX0_farthest_14 rfl ?_
    exact zV_ireti dX0_farthest_15 rfl zi_n1 h
  · replace h := zs_f h hc_
    refine zV_aload_n 0 dX0_farthest_7 rfl rfl ?_
    refine zV_getI (zq_130 hZ) zf_X0_9 zkf_X0_44 rfl dX0_farthest_8 (fun m5 => ?_)
    refine zV_goto 15 dX0_farthest_11 (by decide) ?_
    exact zV_ireti dX0_farthest_15 rfl m5 h
noncomputable def fX1_isPaired_l2 (x1 x2 : Int) (M : zMem) : Option ((Int) ⊕ ((Int) ⊕ (Int))) :=
  (if (M 40 7) ≤ x2 then some (.inr (.inl x2)) else (zgd ((0 : Int) ≤ x2 ∧ x2 < 8) (if (M 49 x2) = x1 then some (.inr (.inr 1)) else (zgd ((0 : Int) ≤ x2 ∧ x2 < 8) (if (M 51 x2) = x1 then some (.inr (.inr 1)) else some (.inl (zw (x2 + 1))))))))
set_option maxRecDepth 100000 in
set_option maxHeartbeats 4000000 in
theorem fX1_isPaired_l2_ok {Z : zZ} (hZ : zB Z) {nn : Nat} (hn : 0 ≤ nn)  {x1 x2 : Int} (hx1 : z32 x1) (hx2 : z32 x2) {M : zMem} {Q : Option zAV → zMem → zZ → Prop} {P : (Int) ⊕ ((Int) ⊕ (Int)) → Prop} (h : zSat (fX1_isPaired_l2 x1 x2 M) P)  (hc : ∀ s : Int, P (.inl s) → z32 s → zV zmX1_isPaired nn 0 0 Z 2 [(0, zR 150), (1, zI x1), (2, zI s)] [] M Q) (he : ∀ s : Int, P (.inr (.inl s)) → z32 s → zV zmX1_isPaired nn 0 0 Z 47 [(0, zR 150), (1, zI x1), (2, zI s)] [] M Q) (hr : ∀ r : Int, P (.inr (.inr r)) → (fun r => Q (some (zI r)) M Z) r)  : zV zmX1_isPaired nn 0 0 Z 2 [(0, zR 150), (1, zI x1), (2, zI x2)] [] M Q := by
  unfold fX1_isPaired_l2 at h
  refine zV_iload_n 2 dX1_isPaired_2 rfl rfl ?_
  refine zV_aload_n 0 dX1_isPaired_3 rfl rfl ?_
  refine zV_getR (j := 40) (zq_150 hZ) zf_X1_0 zkf_X1_34 rfl dX1_isPaired_4 ?_
  refine zV_getI (zq_40 hZ) zf_X7_7 zkf_X1_93 rfl dX1_isPaired_7 (fun m1 => ?_)
  refine zV_icmp_ge 47 dX1_isPaired_10 (by decide) hx2 m1 (fun hc_ => ?_) (fun hc_ => ?_)
  · replace h := zs_t h hc_
    exact he _ h hx2
  · replace h := zs_f h hc_
    refine zV_aload_n 0 dX1_isPaired_13 rfl rfl ?_
    refine zV_getR (j := 40) (zq_150 hZ) zf_X1_0 zkf_X1_34 rfl dX1_isPaired_14 ?_
    refine zV_getR (j := 49) (zq_40 hZ) zf_X7_8 zkf_X1_96 rfl dX1_isPaired_17 ?_
    refine zV_iload_n 2 dX1_isPaired_20 rfl rfl ?_
    obtain ⟨hg, h⟩ := zs_gd h
    refine zV_iald (zq_49 hZ) hg dX1_isPaired_21 (fun m2 => ?_)
    refine zV_iload_n 1 dX1_isPaired_22 rfl rfl ?_
    refine zV_icmp_eq 39 dX1_isPaired_23 (by decide) m2 hx1 (fun hc_ => ?_) (fun hc_ => ?_)
    · replace h := zs_t h hc_
      refine zV_iconst (v := 1) dX1_isPaired_39 rfl ?_
      exact zV_iretb dX1_isPaired_40 rfl (Or.inr rfl) (hr _ h)
    · replace h := zs_f h hc_
      refine zV_aload_n 0 dX1_isPaired_26 rfl rfl ?_
      refine zV_getR (j := 40) (zq_150 hZ) zf_X1_0 zkf_X1_34 rfl dX1_isPaired_27 ?_
      refine zV_getR (j := 51) (zq_40 hZ) zf_X7_10 zkf_X1_99 rfl dX1_isPaired_30 ?_
      refine zV_iload_n 2 dX1_isPaired_33 rfl rfl ?_
      obtain ⟨hg, h⟩ := zs_gd h
      refine zV_iald (zq_51 hZ) hg dX1_isPaired_34 (fun m3 => ?_)
      refine zV_iload_n 1 dX1_isPaired_35 rfl rfl ?_
      refine zV_icmp_ne 41 dX1_isPaired_36 (by decide) m3 hx1 (fun hc_ => ?_) (fun hc_ => ?_)
      · replace h := zs_f h hc_
        refine zV_iinc 2 [(2, zI (zw (x2 + 1))), (0, zR 150), (1, zI x1)] dX1_isPaired_41 rfl rfl (by decide) rfl ?_
        refine zV_goto 2 dX1_isPaired_44 (by decide) ?_
        refine zV_ls [1, 2, 0] rfl ?_
        exact hc _ h (z32_w _)
      · replace h := zs_t h hc_
        refine zV_iconst (v := 1) dX1_isPaired_39 rfl ?_
        exact zV_iretb dX1_isPaired_40 rfl (Or.inr rfl) (hr _ h)
noncomputable def fX1_isPaired (x1 : Int) (M : zMem) : Option (Int) :=
  (zbd (zit (fun s4 => fX1_isPaired_l2 x1 s4 M) 0) fun e => zel e (fun s10 => some 0) (fun r => some r))
set_option maxRecDepth 100000 in
set_option maxHeartbeats 4000000 in
theorem fX1_isPaired_ok {Z : zZ} (hZ : zB Z) {nn : Nat} (hn : 0 ≤ nn)  {x1 : Int} (hx1 : z32 x1) {M : zMem} {Q : Option zAV → zMem → zZ → Prop} (h : zSat (fX1_isPaired x1 M) (fun r => Q (some (zI r)) M Z))  : zV zmX1_isPaired nn 0 0 Z 0 [(0, zR 150), (1, zI x1)] [] M Q := by
  unfold fX1_isPaired at h
  refine zV_iconst (v := 0) dX1_isPaired_0 rfl ?_
  refine zV_istore_n [(2, zI 0), (0, zR 150), (1, zI x1)] dX1_isPaired_1 rfl (by decide) rfl ?_
  refine zV_ls [1, 2, 0] rfl ?_
  refine (zV_loop (Vh := fun s4 : Int => z32 s4 → zV zmX1_isPaired nn 0 0 Z 2 [(0, zR 150), (1, zI x1), (2, zI s4)] [] M Q) h (fun s4 P5 hP6 hc7 he8 => ?_)) zi_0
  intro c9
  refine fX1_isPaired_l2_ok hZ hn hx1 c9 hP6 hc7 (fun s10 h11 d12 => ?_) (fun r13 h14 => he8 _ h14)
  have h := he8 _ h11
  refine zV_iconst (v := 0) dX1_isPaired_47 rfl ?_
  exact zV_iretb dX1_isPaired_48 rfl (Or.inl rfl) h
noncomputable def fX1_listNodes_l15 (x1 : Int) (M : zMem) : Option ((Int × zMem) ⊕ ((Int × zMem) ⊕ (Int × zMem))) :=
  (if (M 40 0) ≤ x1 then some (.inr (.inl (x1, M))) else (zbd (fX1_isPaired x1 M) fun r6 => (if r6 = 0 then some (.inl ((zw (x1 + 1)), M)) else (if (M 150 3) < 8 then (zgd ((0 : Int) ≤ (M 150 3) ∧ (M 150 3) < 8) (zgd ((0 : Int) ≤ x1 ∧ x1 < 12) (some (.inl ((zw (x1 + 1)), (zup (zup (zup M 152 (M 150 3) x1) 153 x1 ((zup M 152 (M 150 3) x1) 150 3)) 150 3 (zw (((zup (zup M 152 (M 150 3) x1) 153 x1 ((zup M 152 (M 150 3) x1) 150 3)) 150 3) + 1)))))))) else some (.inr (.inr (0, M)))))))
set_option maxRecDepth 100000 in
set_option maxHeartbeats 4000000 in
theorem fX1_listNodes_l15_ok {Z : zZ} (hZ : zB Z) {nn : Nat} (hn : 1 ≤ nn)  {x1 : Int} (hx1 : z32 x1) {M : zMem} {Q : Option zAV → zMem → zZ → Prop} {P : (Int × zMem) ⊕ ((Int × zMem) ⊕ (Int × zMem)) → Prop} (h : zSat (fX1_listNodes_l15 x1 M) P)  (hc : ∀ s : Int × zMem, P (.inl s) → z32 (s.1) → zV zmX1_listNodes nn 0 0 Z 15 [(0, zR 150), (1, zI (s.1))] [] (s.2) Q) (he : ∀ s : Int × zMem, P (.inr (.inl s)) → z32 (s.1) → zV zmX1_listNodes nn 0 0 Z 81 [(0, zR 150), (1, zI (s.1))] [] (s.2) Q) (hr : ∀ r : Int × zMem, P (.inr (.inr r)) → (fun r => Q (some (zI r.1)) r.2 Z) r)  : zV zmX1_listNodes nn 0 0 Z 15 [(0, zR 150), (1, zI x1)] [] M Q := by
  unfold fX1_listNodes_l15 at h
  refine zV_iload_n 1 dX1_listNodes_15 rfl rfl ?_
  refine zV_aload_n 0 dX1_listNodes_16 rfl rfl ?_
  refine zV_getR (j := 40) (zq_150 hZ) zf_X1_0 zkf_X1_34 rfl dX1_listNodes_17 ?_
  refine zV_getI (zq_40 hZ) zf_X7_0 zkf_X1_84 rfl dX1_listNodes_20 (fun m5 => ?_)
  refine zV_icmp_ge 81 dX1_listNodes_23 (by decide) hx1 m5 (fun hc_ => ?_) (fun hc_ => ?_)
  · replace h := zs_t h hc_
    exact he _ h hx1
  · replace h := zs_f h hc_
    refine zV_aload_n 0 dX1_listNodes_26 rfl rfl ?_
    refine zV_iload_n 1 dX1_listNodes_27 rfl rfl ?_
    refine zV_cVI (y' := zmX1_isPaired) (n' := 0) (As := [zI x1]) zc_X1_89 (zq_150 hZ) rfl dX1_listNodes_28 (Nat.le_trans (by decide) hn) rfl (Nat.le_of_ble_eq_true rfl) (Nat.le_of_ble_eq_true rfl) rfl h (fun Q' h' => fX1_isPaired_ok hZ (Nat.le_refl _) hx1 h') (fun r6 c7 b8 h => ?_)
    refine zV_if_eq 75 dX1_listNodes_31 (by decide) c7 (fun hc_ => ?_) (fun hc_ => ?_)
    · replace h := zs_t h hc_
      refine zV_iinc 1 [(1, zI (zw (x1 + 1))), (0, zR 150)] dX1_listNodes_75 rfl rfl (by decide) rfl ?_
      refine zV_goto 15 dX1_listNodes_78 (by decide) ?_
      refine zV_ls [1, 0] rfl ?_
      exact hc _ h (z32_w _)
    · replace h := zs_f h hc_
      refine zV_aload_n 0 dX1_listNodes_34 rfl rfl ?_
      refine zV_getI (zq_150 hZ) zf_X1_3 zkf_X1_66 rfl dX1_listNodes_35 (fun m10 => ?_)
      refine zV_bipush (v := 8) dX1_listNodes_38 rfl ?_
      refine zV_icmp_lt 45 dX1_listNodes_40 (by decide) m10 zi_8 (fun hc_ => ?_) (fun hc_ => ?_)
      · replace h := zs_t h hc_
        refine zV_aload_n 0 dX1_listNodes_45 rfl rfl ?_
        refine zV_getR (j := 152) (zq_150 hZ) zf_X1_1 zkf_X1_9 rfl dX1_listNodes_46 ?_
        refine zV_aload_n 0 dX1_listNodes_49 rfl rfl ?_
        refine zV_getI (zq_150 hZ) zf_X1_3 zkf_X1_66 rfl dX1_listNodes_50 (fun m11 => ?_)
        refine zV_iload_n 1 dX1_listNodes_53 rfl rfl ?_
        obtain ⟨hg, h⟩ := zs_gd h
        refine zV_iast (zq_152 hZ) (by decide) hg hx1 dX1_listNodes_54 ?_
        refine zV_aload_n 0 dX1_listNodes_55 rfl rfl ?_
        refine zV_getR (j := 153) (zq_150 hZ) zf_X1_2 zkf_X1_15 rfl dX1_listNodes_56 ?_
        refine zV_iload_n 1 dX1_listNodes_59 rfl rfl ?_
        refine zV_aload_n 0 dX1_listNodes_60 rfl rfl ?_
        refine zV_getI (zq_150 hZ) zf_X1_3 zkf_X1_66 rfl dX1_listNodes_61 (fun m12 => ?_)
        obtain ⟨hg, h⟩ := zs_gd h
        refine zV_iast (zq_153 hZ) (by decide) hg m12 dX1_listNodes_64 ?_
        refine zV_aload_n 0 dX1_listNodes_65 rfl rfl ?_
        refine zV_dup dX1_listNodes_66 rfl ?_
        refine zV_getI (zq_150 hZ) zf_X1_3 zkf_X1_66 rfl dX1_listNodes_67 (fun m13 => ?_)
        refine zV_iconst (v := 1) dX1_listNodes_70 rfl ?_
        refine zV_iadd dX1_listNodes_71 ?_
        refine zV_w ?_
        refine zV_putI (zq_150 hZ) (by decide) zf_X1_3 zkf_X1_66 rfl dX1_listNodes_72 (z32_w _) ?_
        refine zV_iinc 1 [(1, zI (zw (x1 + 1))), (0, zR 150)] dX1_listNodes_75 rfl rfl (by decide) rfl ?_
        refine zV_goto 15 dX1_listNodes_78 (by decide) ?_
        refine zV_ls [1, 0] rfl ?_
        exact hc _ h (z32_w _)
      · replace h := zs_f h hc_
        refine zV_iconst (v := 0) dX1_listNodes_43 rfl ?_
        exact zV_iretb dX1_listNodes_44 rfl (Or.inl rfl) (hr _ h)
noncomputable def fX1_listNodes (M : zMem) : Option (Int × zMem) :=
  (zbd (fJ7_fill_53178 153 12 (-1) (zup M 150 3 0)) fun M4 => (zbd (zit (fun s14 => fX1_listNodes_l15 (s14.1) (s14.2)) (0, M4)) fun e => zel e (fun s20 => some (1, s20.2)) (fun r => some r)))
set_option maxRecDepth 100000 in
set_option maxHeartbeats 4000000 in
theorem fX1_listNodes_ok {Z : zZ} (hZ : zB Z) {nn : Nat} (hn : 1 ≤ nn)   {M : zMem} {Q : Option zAV → zMem → zZ → Prop} (h : zSat (fX1_listNodes M) (fun r => Q (some (zI r.1)) r.2 Z))  : zV zmX1_listNodes nn 0 0 Z 0 [(0, zR 150)] [] M Q := by
  unfold fX1_listNodes at h
  refine zV_aload_n 0 dX1_listNodes_0 rfl rfl ?_
  refine zV_iconst (v := 0) dX1_listNodes_1 rfl ?_
  refine zV_putI (zq_150 hZ) (by decide) zf_X1_3 zkf_X1_66 rfl dX1_listNodes_2 zi_0 ?_
  refine zV_aload_n 0 dX1_listNodes_5 rfl rfl ?_
  refine zV_getR (j := 153) (zq_150 hZ) zf_X1_2 zkf_X1_15 rfl dX1_listNodes_6 ?_
  refine zV_iconst (v := (-1)) dX1_listNodes_9 rfl ?_
  refine zV_cSV (y' := zmJ7_fill_53178) (n' := 0) (As := [zR 153, zI (-1)]) zc_X1_78 dX1_listNodes_10 (Nat.le_trans (by decide) hn) rfl (Nat.le_of_ble_eq_true rfl) (Nat.le_of_ble_eq_true rfl) rfl h (fun Q' h' => fJ7_fill_53178_ok hZ (Nat.le_refl _) (zq_153 hZ) (by decide) zi_n1 h') (fun M4 h => ?_)
  refine zV_iconst (v := 0) dX1_listNodes_13 rfl ?_
  refine zV_istore_n [(1, zI 0), (0, zR 150)] dX1_listNodes_14 rfl (by decide) rfl ?_
  refine zV_ls [1, 0] rfl ?_
  refine (zV_loop (Vh := fun s14 : Int × zMem => z32 (s14.1) → zV zmX1_listNodes nn 0 0 Z 15 [(0, zR 150), (1, zI (s14.1))] [] (s14.2) Q) h (fun s14 P15 hP16 hc17 he18 => ?_)) zi_0
  intro c19
  refine fX1_listNodes_l15_ok hZ hn c19 hP16 hc17 (fun s20 h21 d22 => ?_) (fun r23 h24 => he18 _ h24)
  have h := he18 _ h21
  refine zV_iconst (v := 1) dX1_listNodes_81 rfl ?_
  exact zV_iretb dX1_listNodes_82 rfl (Or.inr rfl) h
noncomputable def fX1_listNeighbours_l25 (x1 : Int) (M : zMem) : Option ((Int × zMem) ⊕ (Int × zMem)) :=
  (if (M 40 7) ≤ x1 then some (.inr (x1, M)) else (zgd ((0 : Int) ≤ x1 ∧ x1 < 8) (zgd ((0 : Int) ≤ (M 49 x1) ∧ (M 49 x1) < 12) (zgd ((0 : Int) ≤ x1 ∧ x1 < 8) (zgd ((0 : Int) ≤ (M 51 x1) ∧ (M 51 x1) < 12) (zgd ((0 : Int) ≤ (M 153 (M 49 x1)) ∧ (M 153 (M 49 x1)) < 8) (zgd ((0 : Int) ≤ (M 153 (M 49 x1)) ∧ (M 153 (M 49 x1)) < 8) (zgd ((0 : Int) ≤ (M 153 (M 51 x1)) ∧ (M 153 (M 51 x1)) < 8) (zgd ((0 : Int) ≤ (M 153 (M 51 x1)) ∧ (M 153 (M 51 x1)) < 8) (some (.inl ((zw (x1 + 1)), (zup (zup M 155 (M 153 (M 49 x1)) (zor (M 155 (M 153 (M 49 x1))) (zshl 1 (M 153 (M 51 x1))))) 155 (M 153 (M 51 x1)) (zor ((zup M 155 (M 153 (M 49 x1)) (zor (M 155 (M 153 (M 49 x1))) (zshl 1 (M 153 (M 51 x1))))) 155 (M 153 (M 51 x1))) (zshl 1 (M 153 (M 49 x1)))))))))))))))))
set_option maxRecDepth 100000 in
set_option maxHeartbeats 4000000 in
theorem fX1_listNeighbours_l25_ok {Z : zZ} (hZ : zB Z) {nn : Nat} (hn : 1 ≤ nn)  {x1 : Int} (hx1 : z32 x1) {M : zMem} {Q : Option zAV → zMem → zZ → Prop} {P : (Int × zMem) ⊕ (Int × zMem) → Prop} (h : zSat (fX1_listNeighbours_l25 x1 M) P)  (hc : ∀ s : Int × zMem, P (.inl s) → z32 (s.1) → zV zmX1_listNeighbours nn 0 0 Z 25 [(0, zR 150), (1, zI (s.1))] [] (s.2) Q) (he : ∀ s : Int × zMem, P (.inr s) → z32 (s.1) → zV zmX1_listNeighbours nn 0 0 Z 96 [(0, zR 150), (1, zI (s.1))] [] (s.2) Q)   : zV zmX1_listNeighbours nn 0 0 Z 25 [(0, zR 150), (1, zI x1)] [] M Q := by
  unfold fX1_listNeighbours_l25 at h
  refine zV_iload_n 1 dX1_listNeighbours_25 rfl rfl ?_
  refine zV_aload_n 0 dX1_listNeighbours_26 rfl rfl ?_
  refine zV_getR (j := 40) (zq_150 hZ) zf_X1_0 zkf_X1_34 rfl dX1_listNeighbours_27 ?_
  refine zV_getI (zq_40 hZ) zf_X7_7 zkf_X1_93 rfl dX1_listNeighbours_30 (fun m5 => ?_)
  refine zV_icmp_ge 96 dX1_listNeighbours_33 (by decide) hx1 m5 (fun hc_ => ?_) (fun hc_ => ?_)
  · replace h := zs_t h hc_
    exact he _ h hx1
  · replace h := zs_f h hc_
    refine zV_aload_n 0 dX1_listNeighbours_36 rfl rfl ?_
    refine zV_getR (j := 153) (zq_150 hZ) zf_X1_2 zkf_X1_15 rfl dX1_listNeighbours_37 ?_
    refine zV_aload_n 0 dX1_listNeighbours_40 rfl rfl ?_
    refine zV_getR (j := 40) (zq_150 hZ) zf_X1_0 zkf_X1_34 rfl dX1_listNeighbours_41 ?_
    refine zV_getR (j := 49) (zq_40 hZ) zf_X7_8 zkf_X1_96 rfl dX1_listNeighbours_44 ?_
    refine zV_iload_n 1 dX1_listNeighbours_47 rfl rfl ?_
    obtain ⟨hg, h⟩ := zs_gd h
    refine zV_iald (zq_49 hZ) hg dX1_listNeighbours_48 (fun m6 => ?_)
    obtain ⟨hg, h⟩ := zs_gd h
    refine zV_iald (zq_153 hZ) hg dX1_listNeighbours_49 (fun m7 => ?_)
    refine zV_istore_n [(2, zI (M 153 (M 49 x1))), (0, zR 150), (1, zI x1)] dX1_listNeighbours_50 rfl (by decide) rfl ?_
    refine zV_aload_n 1 dX1_listNeighbours_51 rfl rfl ?_
    refine zV_getR (j := 153) (zq_150 hZ) zf_X1_2 zkf_X1_15 rfl dX1_listNeighbours_52 ?_
    refine zV_aload_n 1 dX1_listNeighbours_55 rfl rfl ?_
    refine zV_getR (j := 40) (zq_150 hZ) zf_X1_0 zkf_X1_34 rfl dX1_listNeighbours_56 ?_
    refine zV_getR (j := 51) (zq_40 hZ) zf_X7_10 zkf_X1_99 rfl dX1_listNeighbours_59 ?_
    refine zV_iload_n 2 dX1_listNeighbours_62 rfl rfl ?_
    obtain ⟨hg, h⟩ := zs_gd h
    refine zV_iald (zq_51 hZ) hg dX1_listNeighbours_63 (fun m8 => ?_)
    obtain ⟨hg, h⟩ := zs_gd h
    refine zV_iald (zq_153 hZ) hg dX1_listNeighbours_64 (fun m9 => ?_)
    refine zV_istore_n [(3, zI (M 153 (M 51 x1))), (2, zI (M 153 (M 49 x1))), (0, zR 150), (1, zI x1)] dX1_listNeighbours_65 rfl (by decide) rfl ?_
    refine zV_aload_n 2 dX1_listNeighbours_66 rfl rfl ?_
    refine zV_getR (j := 155) (zq_150 hZ) zf_X1_4 zkf_X1_18 rfl dX1_listNeighbours_67 ?_
    refine zV_iload_n 1 dX1_listNeighbours_70 rfl rfl ?_
    refine zV_dup2 dX1_listNeighbours_71 rfl rfl ?_
    obtain ⟨hg, h⟩ := zs_gd h
    refine zV_iald (zq_155 hZ) hg dX1_listNeighbours_72 (fun m10 => ?_)
    refine zV_iconst (v := 1) dX1_listNeighbours_73 rfl ?_
    refine zV_iload_n 0 dX1_listNeighbours_74 rfl rfl ?_
    refine zV_ishl dX1_listNeighbours_75 ?_
    refine zV_ior dX1_listNeighbours_76 ?_
    obtain ⟨hg, h⟩ := zs_gd h
    refine zV_iast (zq_155 hZ) (by decide) hg (z32_i _) dX1_listNeighbours_77 ?_
    refine zV_aload_n 2 dX1_listNeighbours_78 rfl rfl ?_
    refine zV_getR (j := 155) (zq_150 hZ) zf_X1_4 zkf_X1_18 rfl dX1_listNeighbours_79 ?_
    refine zV_iload_n 0 dX1_listNeighbours_82 rfl rfl ?_
    refine zV_dup2 dX1_listNeighbours_83 rfl rfl ?_
    obtain ⟨hg, h⟩ := zs_gd h
    refine zV_iald (zq_155 hZ) hg dX1_listNeighbours_84 (fun m11 => ?_)
    refine zV_iconst (v := 1) dX1_listNeighbours_85 rfl ?_
    refine zV_iload_n 1 dX1_listNeighbours_86 rfl rfl ?_
    refine zV_ishl dX1_listNeighbours_87 ?_
    refine zV_ior dX1_listNeighbours_88 ?_
    obtain ⟨hg, h⟩ := zs_gd h
    refine zV_iast (zq_155 hZ) (by decide) hg (z32_i _) dX1_listNeighbours_89 ?_
    refine zV_iinc 3 [(1, zI (zw (x1 + 1))), (3, zI (M 153 (M 51 x1))), (2, zI (M 153 (M 49 x1))), (0, zR 150)] dX1_listNeighbours_90 rfl rfl (by decide) rfl ?_
    refine zV_goto 25 dX1_listNeighbours_93 (by decide) ?_
    refine zV_ls [3, 0] rfl ?_
    exact hc _ h (z32_w _)
noncomputable def fX1_listNeighbours (M : zMem) : Option (zMem) :=
  (zbd (fJ7_fill_53178 155 8 0 (zup (zup (zup M 150 10 0) 150 11 0) 150 8 0)) fun M4 => (zbd (zit (fun s12 => fX1_listNeighbours_l25 (s12.1) (s12.2)) (0, M4)) fun s18 => some (s18.2)))
set_option maxRecDepth 100000 in
set_option maxHeartbeats 4000000 in
theorem fX1_listNeighbours_ok {Z : zZ} (hZ : zB Z) {nn : Nat} (hn : 1 ≤ nn)   {M : zMem} {Q : Option zAV → zMem → zZ → Prop} (h : zSat (fX1_listNeighbours M) (fun r => Q none r Z))  : zV zmX1_listNeighbours nn 0 0 Z 0 [(0, zR 150)] [] M Q := by
  unfold fX1_listNeighbours at h
  refine zV_aload_n 0 dX1_listNeighbours_0 rfl rfl ?_
  refine zV_iconst (v := 0) dX1_listNeighbours_1 rfl ?_
  refine zV_putI (zq_150 hZ) (by decide) zf_X1_10 zkf_X1_102 rfl dX1_listNeighbours_2 zi_0 ?_
  refine zV_aload_n 0 dX1_listNeighbours_5 rfl rfl ?_
  refine zV_iconst (v := 0) dX1_listNeighbours_6 rfl ?_
  refine zV_putI (zq_150 hZ) (by decide) zf_X1_11 zkf_X1_105 rfl dX1_listNeighbours_7 zi_0 ?_
  refine zV_aload_n 0 dX1_listNeighbours_10 rfl rfl ?_
  refine zV_iconst (v := 0) dX1_listNeighbours_11 rfl ?_
  refine zV_putI (zq_150 hZ) (by decide) zf_X1_8 zkf_X1_108 rfl dX1_listNeighbours_12 zi_0 ?_
  refine zV_aload_n 0 dX1_listNeighbours_15 rfl rfl ?_
  refine zV_getR (j := 155) (zq_150 hZ) zf_X1_4 zkf_X1_18 rfl dX1_listNeighbours_16 ?_
  refine zV_iconst (v := 0) dX1_listNeighbours_19 rfl ?_
  refine zV_cSV (y' := zmJ7_fill_53178) (n' := 0) (As := [zR 155, zI 0]) zc_X1_78 dX1_listNeighbours_20 (Nat.le_trans (by decide) hn) rfl (Nat.le_of_ble_eq_true rfl) (Nat.le_of_ble_eq_true rfl) rfl h (fun Q' h' => fJ7_fill_53178_ok hZ (Nat.le_refl _) (zq_155 hZ) (by decide) zi_0 h') (fun M4 h => ?_)
  refine zV_iconst (v := 0) dX1_listNeighbours_23 rfl ?_
  refine zV_istore_n [(1, zI 0), (0, zR 150)] dX1_listNeighbours_24 rfl (by decide) rfl ?_
  refine zV_ls [1, 0] rfl ?_
  refine (zV_loop (Vh := fun s12 : Int × zMem => z32 (s12.1) → zV zmX1_listNeighbours nn 0 0 Z 25 [(0, zR 150), (1, zI (s12.1))] [] (s12.2) Q) h (fun s12 P13 hP14 hc15 he16 => ?_)) zi_0
  intro c17
  refine fX1_listNeighbours_l25_ok hZ hn c17 hP14 hc15 (fun s18 h19 d20 => ?_)
  have h := he16 _ h19
  exact zV_vret dX1_listNeighbours_96 rfl h
noncomputable def fX1_nextNode_j59 (x1 x2 : Int) (M : zMem) : Option ((Int × Int) ⊕ (Int × Int)) :=
  some (.inl (x2, (zw (x2 + 1))))
set_option maxRecDepth 100000 in
set_option maxHeartbeats 4000000 in
theorem fX1_nextNode_j59_ok {Z : zZ} (hZ : zB Z) {nn : Nat} (hn : 1 ≤ nn)  {x1 x2 : Int} (hx1 : z32 x1) (hx2 : z32 x2) {M : zMem} {Q : Option zAV → zMem → zZ → Prop} {P : (Int × Int) ⊕ (Int × Int) → Prop} (h : zSat (fX1_nextNode_j59 x1 x2 M) P)  (hc : ∀ s : Int × Int, P (.inl s) → z32 (s.1) → z32 (s.2) → zV zmX1_nextNode nn 0 0 Z 4 [(0, zR 150), (1, zI (s.1)), (2, zI (s.2))] [] M Q) (he : ∀ s : Int × Int, P (.inr s) → z32 (s.1) → z32 (s.2) → zV zmX1_nextNode nn 0 0 Z 67 [(0, zR 150), (1, zI (s.1)), (2, zI (s.2))] [] M Q)   : zV zmX1_nextNode nn 0 0 Z 59 [(0, zR 150), (1, zI x1), (2, zI x2)] [] M Q := by
  unfold fX1_nextNode_j59 at h
  refine zV_iload_n 2 dX1_nextNode_59 rfl rfl ?_
  refine zV_istore_n [(1, zI x2), (0, zR 150), (2, zI x2)] dX1_nextNode_60 rfl (by decide) rfl ?_
  refine zV_iinc 2 [(2, zI (zw (x2 + 1))), (1, zI x2), (0, zR 150)] dX1_nextNode_61 rfl rfl (by decide) rfl ?_
  refine zV_goto 4 dX1_nextNode_64 (by decide) ?_
  refine zV_ls [2, 1, 0] rfl ?_
  exact hc _ h hx2 (z32_w _)
noncomputable def fX1_nextNode_j28 (x1 x2 s0 : Int) (M : zMem) : Option ((Int × Int) ⊕ (Int × Int)) :=
  (if s0 = 0 then some (.inl (x1, (zw (x2 + 1)))) else (if x1 = (-1) then fX1_nextNode_j59 x1 x2 M else (zgd ((0 : Int) ≤ x2 ∧ x2 < 8) (zbd (fJ6_bitCount_0f7a4 (M 155 x2) M) fun r4 => (zgd ((0 : Int) ≤ x1 ∧ x1 < 8) (zbd (fJ6_bitCount_0f7a4 (M 155 x1) M) fun r9 => (if r9 ≤ r4 then some (.inl (x1, (zw (x2 + 1)))) else fX1_nextNode_j59 x1 x2 M)))))))
set_option maxRecDepth 100000 in
set_option maxHeartbeats 4000000 in
theorem fX1_nextNode_j28_ok {Z : zZ} (hZ : zB Z) {nn : Nat} (hn : 1 ≤ nn)  {x1 x2 s0 : Int} (hx1 : z32 x1) (hx2 : z32 x2) (hs0 : z32 s0) (hbs0 : s0 = 0 ∨ s0 = 1) {M : zMem} {Q : Option zAV → zMem → zZ → Prop} {P : (Int × Int) ⊕ (Int × Int) → Prop} (h : zSat (fX1_nextNode_j28 x1 x2 s0 M) P)  (hc : ∀ s : Int × Int, P (.inl s) → z32 (s.1) → z32 (s.2) → zV zmX1_nextNode nn 0 0 Z 4 [(0, zR 150), (1, zI (s.1)), (2, zI (s.2))] [] M Q) (he : ∀ s : Int × Int, P (.inr s) → z32 (s.1) → z32 (s.2) → zV zmX1_nextNode nn 0 0 Z 67 [(0, zR 150), (1, zI (s.1)), (2, zI (s.2))] [] M Q)   : zV zmX1_nextNode nn 0 0 Z 28 [(0, zR 150), (1, zI x1), (2, zI x2)] [zI s0] M Q := by
  unfold fX1_nextNode_j28 at h
  refine zV_istore_n [(3, zI s0), (0, zR 150), (1, zI x1), (2, zI x2)] dX1_nextNode_28 rfl (by decide) rfl ?_
  refine zV_iload_n 0 dX1_nextNode_29 rfl rfl ?_
  refine zV_if_eq 61 dX1_nextNode_30 (by decide) hs0 (fun hc_ => ?_) (fun hc_ => ?_)
  · replace h := zs_t h hc_
    refine zV_iinc 3 [(2, zI (zw (x2 + 1))), (3, zI s0), (0, zR 150), (1, zI x1)] dX1_nextNode_61 rfl rfl (by decide) rfl ?_
    refine zV_goto 4 dX1_nextNode_64 (by decide) ?_
    refine zV_ls [2, 3, 0] rfl ?_
    exact hc _ h hx1 (z32_w _)
  · replace h := zs_f h hc_
    refine zV_iload_n 2 dX1_nextNode_33 rfl rfl ?_
    refine zV_iconst (v := (-1)) dX1_nextNode_34 rfl ?_
    refine zV_icmp_eq 59 dX1_nextNode_35 (by decide) hx1 zi_n1 (fun hc_ => ?_) (fun hc_ => ?_)
    · replace h := zs_t h hc_
      refine zV_ls [1, 2, 3] rfl ?_
      exact fX1_nextNode_j59_ok hZ hn hx1 hx2 h hc he
    · replace h := zs_f h hc_
      refine zV_aload_n 1 dX1_nextNode_38 rfl rfl ?_
      refine zV_getR (j := 155) (zq_150 hZ) zf_X1_4 zkf_X1_18 rfl dX1_nextNode_39 ?_
      refine zV_iload_n 3 dX1_nextNode_42 rfl rfl ?_
      obtain ⟨hg, h⟩ := zs_gd h
      refine zV_iald (zq_155 hZ) hg dX1_nextNode_43 (fun m3 => ?_)
      refine zV_cSI (y' := zmJ6_bitCount_0f7a4) (n' := 0) (As := [zI (M 155 x2)]) zc_X1_111 dX1_nextNode_44 (Nat.le_trans (by decide) hn) rfl (Nat.le_of_ble_eq_true rfl) (Nat.le_of_ble_eq_true rfl) rfl h (fun Q' h' => fJ6_bitCount_0f7a4_ok hZ (Nat.le_refl _) m3 h') (fun r4 c5 b6 h => ?_)
      refine zV_aload_n 1 dX1_nextNode_47 rfl rfl ?_
      refine zV_getR (j := 155) (zq_150 hZ) zf_X1_4 zkf_X1_18 rfl dX1_nextNode_48 ?_
      refine zV_iload_n 2 dX1_nextNode_51 rfl rfl ?_
      obtain ⟨hg, h⟩ := zs_gd h
      refine zV_iald (zq_155 hZ) hg dX1_nextNode_52 (fun m8 => ?_)
      refine zV_cSI (y' := zmJ6_bitCount_0f7a4) (n' := 0) (As := [zI (M 155 x1)]) zc_X1_111 dX1_nextNode_53 (Nat.le_trans (by decide) hn) rfl (Nat.le_of_ble_eq_true rfl) (Nat.le_of_ble_eq_true rfl) rfl h (fun Q' h' => fJ6_bitCount_0f7a4_ok hZ (Nat.le_refl _) m8 h') (fun r9 c10 b11 h => ?_)
      refine zV_icmp_ge 61 dX1_nextNode_56 (by decide) c5 c10 (fun hc_ => ?_) (fun hc_ => ?_)
      · replace h := zs_t h hc_
        refine zV_iinc 3 [(2, zI (zw (x2 + 1))), (3, zI s0), (0, zR 150), (1, zI x1)] dX1_nextNode_61 rfl rfl (by decide) rfl ?_
        refine zV_goto 4 dX1_nextNode_64 (by decide) ?_
        refine zV_ls [2, 3, 0] rfl ?_
        exact hc _ h hx1 (z32_w _)
      · replace h := zs_f h hc_
        refine zV_ls [1, 2, 3] rfl ?_
        exact fX1_nextNode_j59_ok hZ hn hx1 hx2 h hc he
noncomputable def fX1_nextNode_l4 (x1 x2 : Int) (M : zMem) : Option ((Int × Int) ⊕ (Int × Int)) :=
  (if (M 150 3) ≤ x2 then some (.inr (x1, x2)) else (if (zand (zshr (M 150 10) x2) 1) = 0 then fX1_nextNode_j28 x1 x2 1 M else fX1_nextNode_j28 x1 x2 0 M))
set_option maxRecDepth 100000 in
set_option maxHeartbeats 4000000 in
theorem fX1_nextNode_l4_ok {Z : zZ} (hZ : zB Z) {nn : Nat} (hn : 1 ≤ nn)  {x1 x2 : Int} (hx1 : z32 x1) (hx2 : z32 x2) {M : zMem} {Q : Option zAV → zMem → zZ → Prop} {P : (Int × Int) ⊕ (Int × Int) → Prop} (h : zSat (fX1_nextNode_l4 x1 x2 M) P)  (hc : ∀ s : Int × Int, P (.inl s) → z32 (s.1) → z32 (s.2) → zV zmX1_nextNode nn 0 0 Z 4 [(0, zR 150), (1, zI (s.1)), (2, zI (s.2))] [] M Q) (he : ∀ s : Int × Int, P (.inr s) → z32 (s.1) → z32 (s.2) → zV zmX1_nextNode nn 0 0 Z 67 [(0, zR 150), (1, zI (s.1)), (2, zI (s.2))] [] M Q)   : zV zmX1_nextNode nn 0 0 Z 4 [(0, zR 150), (1, zI x1), (2, zI x2)] [] M Q := by
  unfold fX1_nextNode_l4 at h
  refine zV_iload_n 2 dX1_nextNode_4 rfl rfl ?_
  refine zV_aload_n 0 dX1_nextNode_5 rfl rfl ?_
  refine zV_getI (zq_150 hZ) zf_X1_3 zkf_X1_66 rfl dX1_nextNode_6 (fun m1 => ?_)
  refine zV_icmp_ge 67 dX1_nextNode_9 (by decide) hx2 m1 (fun hc_ => ?_) (fun hc_ => ?_)
  · replace h := zs_t h hc_
    exact he _ h hx1 hx2
  · replace h := zs_f h hc_
    refine zV_aload_n 0 dX1_nextNode_12 rfl rfl ?_
    refine zV_getI (zq_150 hZ) zf_X1_10 zkf_X1_102 rfl dX1_nextNode_13 (fun m2 => ?_)
    refine zV_iload_n 2 dX1_nextNode_16 rfl rfl ?_
    refine zV_ishr dX1_nextNode_17 ?_
    refine zV_iconst (v := 1) dX1_nextNode_18 rfl ?_
    refine zV_iand dX1_nextNode_19 ?_
    refine zV_if_ne 27 dX1_nextNode_20 (by decide) (z32_i _) (fun hc_ => ?_) (fun hc_ => ?_)
    · replace h := zs_f h hc_
      refine zV_iconst (v := 0) dX1_nextNode_27 rfl ?_
      exact fX1_nextNode_j28_ok hZ hn hx1 hx2 zi_0 (Or.inl rfl) h hc he
    · replace h := zs_t h hc_
      refine zV_iconst (v := 1) dX1_nextNode_23 rfl ?_
      refine zV_goto 28 dX1_nextNode_24 (by decide) ?_
      exact fX1_nextNode_j28_ok hZ hn hx1 hx2 zi_1 (Or.inr rfl) h hc he
noncomputable def fX1_nextNode (M : zMem) : Option (Int) :=
  (zbd (zit (fun s13 => fX1_nextNode_l4 (s13.1) (s13.2) M) ((-1), 0)) fun s20 => some (s20.1))
set_option maxRecDepth 100000 in
set_option maxHeartbeats 4000000 in
theorem fX1_nextNode_ok {Z : zZ} (hZ : zB Z) {nn : Nat} (hn : 1 ≤ nn)   {M : zMem} {Q : Option zAV → zMem → zZ → Prop} (h : zSat (fX1_nextNode M) (fun r => Q (some (zI r)) M Z))  : zV zmX1_nextNode nn 0 0 Z 0 [(0, zR 150)] [] M Q := by
  unfold fX1_nextNode at h
  refine zV_iconst (v := (-1)) dX1_nextNode_0 rfl ?_
  refine zV_istore_n [(1, zI (-1)), (0, zR 150)] dX1_nextNode_1 rfl (by decide) rfl ?_
  refine zV_iconst (v := 0) dX1_nextNode_2 rfl ?_
  refine zV_istore_n [(2, zI 0), (1, zI (-1)), (0, zR 150)] dX1_nextNode_3 rfl (by decide) rfl ?_
  refine zV_ls [2, 1, 0] rfl ?_
  refine (zV_loop (Vh := fun s13 : Int × Int => z32 (s13.1) → z32 (s13.2) → zV zmX1_nextNode nn 0 0 Z 4 [(0, zR 150), (1, zI (s13.1)), (2, zI (s13.2))] [] M Q) h (fun s13 P14 hP15 hc16 he17 => ?_)) zi_n1 zi_0
  intro c18 c19
  refine fX1_nextNode_l4_ok hZ hn c18 c19 hP15 hc16 (fun s20 h21 d22 d23 => ?_)
  have h := he17 _ h21
  refine zV_iload_n 1 dX1_nextNode_67 rfl rfl ?_
  exact zV_ireti dX1_nextNode_68 rfl d22 h
noncomputable def fX1_waysOf_l4 (x1 x2 x3 : Int) (M : zMem) : Option ((Int × Int) ⊕ (Int × Int)) :=
  (zbd (fJ6_bitCount_0f7a4 x1 M) fun r1 => (if r1 ≤ x3 then some (.inr (x2, x3)) else some (.inl ((zw (x2 * 7)), (zw (x3 + 1))))))
set_option maxRecDepth 100000 in
set_option maxHeartbeats 4000000 in
theorem fX1_waysOf_l4_ok {Z : zZ} (hZ : zB Z) {nn : Nat} (hn : 1 ≤ nn)  {x1 x2 x3 : Int} (hx1 : z32 x1) (hx2 : z32 x2) (hx3 : z32 x3) {M : zMem} {Q : Option zAV → zMem → zZ → Prop} {P : (Int × Int) ⊕ (Int × Int) → Prop} (h : zSat (fX1_waysOf_l4 x1 x2 x3 M) P)  (hc : ∀ s : Int × Int, P (.inl s) → z32 (s.1) → z32 (s.2) → zV zmX1_waysOf nn 0 0 Z 4 [(1, zI x1), (2, zI (s.1)), (3, zI (s.2))] [] M Q) (he : ∀ s : Int × Int, P (.inr s) → z32 (s.1) → z32 (s.2) → zV zmX1_waysOf nn 0 0 Z 23 [(1, zI x1), (2, zI (s.1)), (3, zI (s.2))] [] M Q)   : zV zmX1_waysOf nn 0 0 Z 4 [(1, zI x1), (2, zI x2), (3, zI x3)] [] M Q := by
  unfold fX1_waysOf_l4 at h
  refine zV_iload_n 2 dX1_waysOf_4 rfl rfl ?_
  refine zV_iload_n 0 dX1_waysOf_5 rfl rfl ?_
  refine zV_cSI (y' := zmJ6_bitCount_0f7a4) (n' := 0) (As := [zI x1]) zc_X1_111 dX1_waysOf_6 (Nat.le_trans (by decide) hn) rfl (Nat.le_of_ble_eq_true rfl) (Nat.le_of_ble_eq_true rfl) rfl h (fun Q' h' => fJ6_bitCount_0f7a4_ok hZ (Nat.le_refl _) hx1 h') (fun r1 c2 b3 h => ?_)
  refine zV_icmp_ge 23 dX1_waysOf_9 (by decide) hx3 c2 (fun hc_ => ?_) (fun hc_ => ?_)
  · replace h := zs_t h hc_
    exact he _ h hx2 hx3
  · replace h := zs_f h hc_
    refine zV_iload_n 1 dX1_waysOf_12 rfl rfl ?_
    refine zV_bipush (v := 7) dX1_waysOf_13 rfl ?_
    refine zV_imul dX1_waysOf_15 ?_
    refine zV_w ?_
    refine zV_istore_n [(2, zI (zw (x2 * 7))), (1, zI x1), (3, zI x3)] dX1_waysOf_16 rfl (by decide) rfl ?_
    refine zV_iinc 2 [(3, zI (zw (x3 + 1))), (2, zI (zw (x2 * 7))), (1, zI x1)] dX1_waysOf_17 rfl rfl (by decide) rfl ?_
    refine zV_goto 4 dX1_waysOf_20 (by decide) ?_
    refine zV_ls [2, 1, 0] rfl ?_
    exact hc _ h (z32_w _) (z32_w _)
noncomputable def fX1_waysOf (x1 : Int) (M : zMem) : Option (Int) :=
  (zbd (zit (fun s5 => fX1_waysOf_l4 x1 (s5.1) (s5.2) M) (1, 0)) fun s12 => some (s12.1))
set_option maxRecDepth 100000 in
set_option maxHeartbeats 4000000 in
theorem fX1_waysOf_ok {Z : zZ} (hZ : zB Z) {nn : Nat} (hn : 1 ≤ nn)  {x1 : Int} (hx1 : z32 x1) {M : zMem} {Q : Option zAV → zMem → zZ → Prop} (h : zSat (fX1_waysOf x1 M) (fun r => Q (some (zI r)) M Z))  : zV zmX1_waysOf nn 0 0 Z 0 [(0, zR 150), (1, zI x1)] [] M Q := by
  unfold fX1_waysOf at h
  refine zV_iconst (v := 1) dX1_waysOf_0 rfl ?_
  refine zV_istore_n [(2, zI 1), (0, zR 150), (1, zI x1)] dX1_waysOf_1 rfl (by decide) rfl ?_
  refine zV_iconst (v := 0) dX1_waysOf_2 rfl ?_
  refine zV_istore_n [(3, zI 0), (2, zI 1), (0, zR 150), (1, zI x1)] dX1_waysOf_3 rfl (by decide) rfl ?_
  refine zV_ls [3, 1, 0] rfl ?_
  refine (zV_loop (Vh := fun s5 : Int × Int => z32 (s5.1) → z32 (s5.2) → zV zmX1_waysOf nn 0 0 Z 4 [(1, zI x1), (2, zI (s5.1)), (3, zI (s5.2))] [] M Q) h (fun s5 P6 hP7 hc8 he9 => ?_)) zi_1 zi_0
  intro c10 c11
  refine fX1_waysOf_l4_ok hZ hn hx1 c10 c11 hP7 hc8 (fun s12 h13 d14 d15 => ?_)
  have h := he9 _ h13
  refine zV_iload_n 1 dX1_waysOf_23 rfl rfl ?_
  exact zV_ireti dX1_waysOf_24 rfl d14 h
noncomputable def fX1_spread_l5 (x1 x3 x4 : Int) (M : zMem) : Option ((Int × Int × zMem) ⊕ (Int × Int × zMem)) :=
  (if (M 150 3) ≤ x4 then some (.inr (x3, x4, M)) else (if (zand (zshr x1 x4) 1) = 0 then some (.inl (x3, (zw (x4 + 1)), M)) else (zgd (¬ 7 = (0 : Int)) (zgd ((0 : Int) ≤ x4 ∧ x4 < 8) (zgd (¬ 7 = (0 : Int)) (some (.inl ((zdiv x3 7), (zw (x4 + 1)), (zup M 160 x4 (zrem x3 7))))))))))
set_option maxRecDepth 100000 in
set_option maxHeartbeats 4000000 in
theorem fX1_spread_l5_ok {Z : zZ} (hZ : zB Z) {nn : Nat} (hn : 0 ≤ nn)  {x1 x3 x4 : Int} (hx1 : z32 x1) (hx3 : z32 x3) (hx4 : z32 x4) {M : zMem} {Q : Option zAV → zMem → zZ → Prop} {P : (Int × Int × zMem) ⊕ (Int × Int × zMem) → Prop} (h : zSat (fX1_spread_l5 x1 x3 x4 M) P)  (hc : ∀ s : Int × Int × zMem, P (.inl s) → z32 (s.1) → z32 (s.2.1) → zV zmX1_spread nn 0 0 Z 5 [(0, zR 150), (1, zI x1), (3, zI (s.1)), (4, zI (s.2.1))] [] (s.2.2) Q) (he : ∀ s : Int × Int × zMem, P (.inr s) → z32 (s.1) → z32 (s.2.1) → zV zmX1_spread nn 0 0 Z 45 [(0, zR 150), (1, zI x1), (3, zI (s.1)), (4, zI (s.2.1))] [] (s.2.2) Q)   : zV zmX1_spread nn 0 0 Z 5 [(0, zR 150), (1, zI x1), (3, zI x3), (4, zI x4)] [] M Q := by
  unfold fX1_spread_l5 at h
  refine zV_iload 3 dX1_spread_5 rfl ?_
  refine zV_aload_n 0 dX1_spread_7 rfl rfl ?_
  refine zV_getI (zq_150 hZ) zf_X1_3 zkf_X1_66 rfl dX1_spread_8 (fun m1 => ?_)
  refine zV_icmp_ge 45 dX1_spread_11 (by decide) hx4 m1 (fun hc_ => ?_) (fun hc_ => ?_)
  · replace h := zs_t h hc_
    exact he _ h hx3 hx4
  · replace h := zs_f h hc_
    refine zV_iload_n 1 dX1_spread_14 rfl rfl ?_
    refine zV_iload 3 dX1_spread_15 rfl ?_
    refine zV_ishr dX1_spread_17 ?_
    refine zV_iconst (v := 1) dX1_spread_18 rfl ?_
    refine zV_iand dX1_spread_19 ?_
    refine zV_if_eq 39 dX1_spread_20 (by decide) (z32_i _) (fun hc_ => ?_) (fun hc_ => ?_)
    · replace h := zs_t h hc_
      refine zV_iinc 3 [(4, zI (zw (x4 + 1))), (0, zR 150), (1, zI x1), (3, zI x3)] dX1_spread_39 rfl rfl (by decide) rfl ?_
      refine zV_goto 5 dX1_spread_42 (by decide) ?_
      refine zV_ls [1, 2, 3, 0] rfl ?_
      exact hc _ h hx3 (z32_w _)
    · replace h := zs_f h hc_
      refine zV_aload_n 0 dX1_spread_23 rfl rfl ?_
      refine zV_getR (j := 160) (zq_150 hZ) zf_X1_9 zkf_X1_31 rfl dX1_spread_24 ?_
      refine zV_iload 3 dX1_spread_27 rfl ?_
      refine zV_iload_n 2 dX1_spread_29 rfl rfl ?_
      refine zV_bipush (v := 7) dX1_spread_30 rfl ?_
      obtain ⟨hg, h⟩ := zs_gd h
      refine zV_irem dX1_spread_32 zi_7 hg ?_
      obtain ⟨hg, h⟩ := zs_gd h
      refine zV_iast (zq_160 hZ) (by decide) hg (z32_i _) dX1_spread_33 ?_
      refine zV_iload_n 2 dX1_spread_34 rfl rfl ?_
      refine zV_bipush (v := 7) dX1_spread_35 rfl ?_
      obtain ⟨hg, h⟩ := zs_gd h
      refine zV_idiv dX1_spread_37 zi_7 hg ?_
      refine zV_istore_n [(3, zI (zdiv x3 7)), (0, zR 150), (1, zI x1), (4, zI x4)] dX1_spread_38 rfl (by decide) rfl ?_
      refine zV_iinc 3 [(4, zI (zw (x4 + 1))), (3, zI (zdiv x3 7)), (0, zR 150), (1, zI x1)] dX1_spread_39 rfl rfl (by decide) rfl ?_
      refine zV_goto 5 dX1_spread_42 (by decide) ?_
      refine zV_ls [2, 3, 1, 0] rfl ?_
      exact hc _ h (z32_i _) (z32_w _)
noncomputable def fX1_spread (x1 x2 : Int) (M : zMem) : Option (zMem) :=
  (zbd (zit (fun s2 => fX1_spread_l5 x1 (s2.1) (s2.2.1) (s2.2.2)) (x2, 0, M)) fun s9 => some (s9.2.2))
set_option maxRecDepth 100000 in
set_option maxHeartbeats 4000000 in
theorem fX1_spread_ok {Z : zZ} (hZ : zB Z) {nn : Nat} (hn : 0 ≤ nn)  {x1 x2 : Int} (hx1 : z32 x1) (hx2 : z32 x2) {M : zMem} {Q : Option zAV → zMem → zZ → Prop} (h : zSat (fX1_spread x1 x2 M) (fun r => Q none r Z))  : zV zmX1_spread nn 0 0 Z 0 [(0, zR 150), (1, zI x1), (2, zI x2)] [] M Q := by
  unfold fX1_spread at h
  refine zV_iload_n 2 dX1_spread_0 rfl rfl ?_
  refine zV_istore_n [(3, zI x2), (0, zR 150), (1, zI x1), (2, zI x2)] dX1_spread_1 rfl (by decide) rfl ?_
  refine zV_iconst (v := 0) dX1_spread_2 rfl ?_
  refine zV_istore [(4, zI 0), (3, zI x2), (0, zR 150), (1, zI x1), (2, zI x2)] dX1_spread_3 (by decide) rfl ?_
  refine zV_ls [2, 3, 1, 0] rfl ?_
  refine (zV_loop (Vh := fun s2 : Int × Int × zMem => z32 (s2.1) → z32 (s2.2.1) → zV zmX1_spread nn 0 0 Z 5 [(0, zR 150), (1, zI x1), (3, zI (s2.1)), (4, zI (s2.2.1))] [] (s2.2.2) Q) h (fun s2 P3 hP4 hc5 he6 => ?_)) hx2 zi_0
  intro c7 c8
  refine fX1_spread_l5_ok hZ hn hx1 c7 c8 hP4 hc5 (fun s9 h10 d11 d12 => ?_)
  have h := he6 _ h10
  exact zV_vret dX1_spread_45 rfl h
noncomputable def fX1_toneOf (x1 : Int) (M : zMem) : Option (Int) :=
  (zgd ((0 : Int) ≤ x1 ∧ x1 < 8) (zgd ((0 : Int) ≤ (M 152 x1) ∧ (M 152 x1) < 12) (zgd ((0 : Int) ≤ x1 ∧ x1 < 8) (zgd ((0 : Int) ≤ (10 : Int) ∧ (10 : Int) < 11) (some (zw ((M 43 (M 152 x1)) + (((M 160 x1) - 3) * (M 59 10)))))))))
set_option maxRecDepth 100000 in
set_option maxHeartbeats 4000000 in
theorem fX1_toneOf_ok {Z : zZ} (hZ : zB Z) {nn : Nat} (hn : 0 ≤ nn)  {x1 : Int} (hx1 : z32 x1) {M : zMem} {Q : Option zAV → zMem → zZ → Prop} (h : zSat (fX1_toneOf x1 M) (fun r => Q (some (zI r)) M Z))  : zV zmX1_toneOf nn 0 0 Z 0 [(0, zR 150), (1, zI x1)] [] M Q := by
  unfold fX1_toneOf at h
  refine zV_aload_n 0 dX1_toneOf_0 rfl rfl ?_
  refine zV_getR (j := 40) (zq_150 hZ) zf_X1_0 zkf_X1_34 rfl dX1_toneOf_1 ?_
  refine zV_getR (j := 43) (zq_40 hZ) zf_X7_2 zkf_X1_142 rfl dX1_toneOf_4 ?_
  refine zV_aload_n 0 dX1_toneOf_7 rfl rfl ?_
  refine zV_getR (j := 152) (zq_150 hZ) zf_X1_1 zkf_X1_9 rfl dX1_toneOf_8 ?_
  refine zV_iload_n 1 dX1_toneOf_11 rfl rfl ?_
  obtain ⟨hg, h⟩ := zs_gd h
  refine zV_iald (zq_152 hZ) hg dX1_toneOf_12 (fun m1 => ?_)
  obtain ⟨hg, h⟩ := zs_gd h
  refine zV_iald (zq_43 hZ) hg dX1_toneOf_13 (fun m2 => ?_)
  refine zV_aload_n 0 dX1_toneOf_14 rfl rfl ?_
  refine zV_getR (j := 160) (zq_150 hZ) zf_X1_9 zkf_X1_31 rfl dX1_toneOf_15 ?_
  refine zV_iload_n 1 dX1_toneOf_18 rfl rfl ?_
  obtain ⟨hg, h⟩ := zs_gd h
  refine zV_iald (zq_160 hZ) hg dX1_toneOf_19 (fun m3 => ?_)
  refine zV_iconst (v := 3) dX1_toneOf_20 rfl ?_
  refine zV_isub dX1_toneOf_21 ?_
  refine zV_aload_n 0 dX1_toneOf_22 rfl rfl ?_
  refine zV_getR (j := 40) (zq_150 hZ) zf_X1_0 zkf_X1_34 rfl dX1_toneOf_23 ?_
  refine zV_getR (j := 59) (zq_40 hZ) zf_X7_18 zkf_X1_145 rfl dX1_toneOf_26 ?_
  refine zV_bipush (v := 10) dX1_toneOf_29 rfl ?_
  obtain ⟨hg, h⟩ := zs_gd h
  refine zV_iald (zq_59 hZ) hg dX1_toneOf_31 (fun m4 => ?_)
  refine zV_imul dX1_toneOf_32 ?_
  refine zV_iadd dX1_toneOf_33 ?_
  refine zV_w ?_
  exact zV_ireti dX1_toneOf_34 rfl (z32_w _) h
noncomputable def fX1_fits_j82 (x1 x2 x3 x4 s0 : Int) (M : zMem) : Option ((Int) ⊕ ((Int) ⊕ (Int))) :=
  (if s0 = 0 then some (.inl (zw (x2 + 1))) else (if (zand (zshr (M 150 10) x3) 1) = 0 then (if (zand (zshr (M 150 10) x4) 1) = 0 then (zbd (fX1_toneOf x3 M) fun r16 => (zbd (fX1_toneOf x4 M) fun r20 => (zbd (fX7_speedAt 40 x2 r16 r20 M) fun r24 => (zgd ((0 : Int) ≤ x2 ∧ x2 < 8) (if r24 ≤ (M 53 x2) then some (.inl (zw (x2 + 1))) else some (.inr (.inr 0))))))) else some (.inl (zw (x2 + 1)))) else some (.inl (zw (x2 + 1)))))
set_option maxRecDepth 100000 in
set_option maxHeartbeats 4000000 in
theorem fX1_fits_j82_ok {Z : zZ} (hZ : zB Z) {nn : Nat} (hn : 2 ≤ nn)  {x1 x2 x3 x4 s0 : Int} (hx1 : z32 x1) (hx2 : z32 x2) (hx3 : z32 x3) (hx4 : z32 x4) (hs0 : z32 s0) (hbs0 : s0 = 0 ∨ s0 = 1) {M : zMem} {Q : Option zAV → zMem → zZ → Prop} {P : (Int) ⊕ ((Int) ⊕ (Int)) → Prop} (h : zSat (fX1_fits_j82 x1 x2 x3 x4 s0 M) P)  (hc : ∀ s : Int, P (.inl s) → z32 s → zV zmX1_fits nn 0 0 Z 24 [(0, zR 150), (1, zI x1), (2, zI s)] [] M Q) (he : ∀ s : Int, P (.inr (.inl s)) → z32 s → zV zmX1_fits nn 0 0 Z 151 [(0, zR 150), (1, zI x1), (2, zI s)] [] M Q) (hr : ∀ r : Int, P (.inr (.inr r)) → (fun r => Q (some (zI r)) M Z) r)  : zV zmX1_fits nn 0 0 Z 82 [(0, zR 150), (1, zI x1), (2, zI x2), (3, zI x3), (4, zI x4)] [zI s0] M Q := by
  unfold fX1_fits_j82 at h
  refine zV_istore [(5, zI s0), (0, zR 150), (1, zI x1), (2, zI x2), (3, zI x3), (4, zI x4)] dX1_fits_82 (by decide) rfl ?_
  refine zV_iload 0 dX1_fits_84 rfl ?_
  refine zV_if_eq 145 dX1_fits_86 (by decide) hs0 (fun hc_ => ?_) (fun hc_ => ?_)
  · replace h := zs_t h hc_
    refine zV_iinc 3 [(2, zI (zw (x2 + 1))), (5, zI s0), (0, zR 150), (1, zI x1), (3, zI x3), (4, zI x4)] dX1_fits_145 rfl rfl (by decide) rfl ?_
    refine zV_goto 24 dX1_fits_148 (by decide) ?_
    refine zV_ls [2, 3, 0] rfl ?_
    exact hc _ h (z32_w _)
  · replace h := zs_f h hc_
    refine zV_aload_n 1 dX1_fits_89 rfl rfl ?_
    refine zV_getI (zq_150 hZ) zf_X1_10 zkf_X1_102 rfl dX1_fits_90 (fun m14 => ?_)
    refine zV_iload_n 4 dX1_fits_93 rfl rfl ?_
    refine zV_ishr dX1_fits_94 ?_
    refine zV_iconst (v := 1) dX1_fits_95 rfl ?_
    refine zV_iand dX1_fits_96 ?_
    refine zV_if_ne 145 dX1_fits_97 (by decide) (z32_i _) (fun hc_ => ?_) (fun hc_ => ?_)
    · replace h := zs_f h hc_
      refine zV_iinc 3 [(2, zI (zw (x2 + 1))), (5, zI s0), (0, zR 150), (1, zI x1), (3, zI x3), (4, zI x4)] dX1_fits_145 rfl rfl (by decide) rfl ?_
      refine zV_goto 24 dX1_fits_148 (by decide) ?_
      refine zV_ls [2, 3, 0] rfl ?_
      exact hc _ h (z32_w _)
    · replace h := zs_t h hc_
      refine zV_aload_n 1 dX1_fits_100 rfl rfl ?_
      refine zV_getI (zq_150 hZ) zf_X1_10 zkf_X1_102 rfl dX1_fits_101 (fun m15 => ?_)
      refine zV_iload 5 dX1_fits_104 rfl ?_
      refine zV_ishr dX1_fits_106 ?_
      refine zV_iconst (v := 1) dX1_fits_107 rfl ?_
      refine zV_iand dX1_fits_108 ?_
      refine zV_if_ne 145 dX1_fits_109 (by decide) (z32_i _) (fun hc_ => ?_) (fun hc_ => ?_)
      · replace h := zs_f h hc_
        refine zV_iinc 3 [(2, zI (zw (x2 + 1))), (5, zI s0), (0, zR 150), (1, zI x1), (3, zI x3), (4, zI x4)] dX1_fits_145 rfl rfl (by decide) rfl ?_
        refine zV_goto 24 dX1_fits_148 (by decide) ?_
        refine zV_ls [2, 3, 0] rfl ?_
        exact hc _ h (z32_w _)
      · replace h := zs_t h hc_
        refine zV_aload_n 1 dX1_fits_112 rfl rfl ?_
        refine zV_getR (j := 40) (zq_150 hZ) zf_X1_0 zkf_X1_34 rfl dX1_fits_113 ?_
        refine zV_iload_n 3 dX1_fits_116 rfl rfl ?_
        refine zV_aload_n 1 dX1_fits_117 rfl rfl ?_
        refine zV_iload_n 4 dX1_fits_118 rfl rfl ?_
        refine zV_cVI (y' := zmX1_toneOf) (n' := 0) (As := [zI x3]) zc_X1_148 (zq_150 hZ) rfl dX1_fits_119 (Nat.le_trans (by decide) hn) rfl (Nat.le_of_ble_eq_true rfl) (Nat.le_of_ble_eq_true rfl) rfl h (fun Q' h' => fX1_toneOf_ok hZ (Nat.le_refl _) hx3 h') (fun r16 c17 b18 h => ?_)
        refine zV_aload_n 1 dX1_fits_122 rfl rfl ?_
        refine zV_iload 5 dX1_fits_123 rfl ?_
        refine zV_cVI (y' := zmX1_toneOf) (n' := 0) (As := [zI x4]) zc_X1_148 (zq_150 hZ) rfl dX1_fits_125 (Nat.le_trans (by decide) hn) rfl (Nat.le_of_ble_eq_true rfl) (Nat.le_of_ble_eq_true rfl) rfl h (fun Q' h' => fX1_toneOf_ok hZ (Nat.le_refl _) hx4 h') (fun r20 c21 b22 h => ?_)
        refine zV_cVI (y' := zmX7_speedAt) (n' := 1) (As := [zI x2, zI r16, zI r20]) zc_X1_151 (zq_40 hZ) rfl dX1_fits_128 (Nat.le_trans (by decide) hn) rfl (Nat.le_of_ble_eq_true rfl) (Nat.le_of_ble_eq_true rfl) rfl h (fun Q' h' => fX7_speedAt_ok hZ (Nat.le_refl _) (zqsu_40 hZ) (by decide) hx2 c17 c21 h') (fun r24 c25 b26 h => ?_)
        refine zV_aload_n 1 dX1_fits_131 rfl rfl ?_
        refine zV_getR (j := 40) (zq_150 hZ) zf_X1_0 zkf_X1_34 rfl dX1_fits_132 ?_
        refine zV_getR (j := 53) (zq_40 hZ) zf_X7_12 zkf_X1_155 rfl dX1_fits_135 ?_
        refine zV_iload_n 3 dX1_fits_138 rfl rfl ?_
        obtain ⟨hg, h⟩ := zs_gd h
        refine zV_iald (zq_53 hZ) hg dX1_fits_139 (fun m28 => ?_)
        refine zV_icmp_le 145 dX1_fits_140 (by decide) c25 m28 (fun hc_ => ?_) (fun hc_ => ?_)
        · replace h := zs_t h hc_
          refine zV_iinc 3 [(2, zI (zw (x2 + 1))), (5, zI s0), (0, zR 150), (1, zI x1), (3, zI x3), (4, zI x4)] dX1_fits_145 rfl rfl (by decide) rfl ?_
          refine zV_goto 24 dX1_fits_148 (by decide) ?_
          refine zV_ls [2, 3, 0] rfl ?_
          exact hc _ h (z32_w _)
        · replace h := zs_f h hc_
          refine zV_iconst (v := 0) dX1_fits_143 rfl ?_
          exact zV_iretb dX1_fits_144 rfl (Or.inl rfl) (hr _ h)
noncomputable def fX1_fits_j77 (x1 x2 x3 x4 : Int) (M : zMem) : Option ((Int) ⊕ ((Int) ⊕ (Int))) :=
  fX1_fits_j82 x1 x2 x3 x4 1 M
set_option maxRecDepth 100000 in
set_option maxHeartbeats 4000000 in
theorem fX1_fits_j77_ok {Z : zZ} (hZ : zB Z) {nn : Nat} (hn : 2 ≤ nn)  {x1 x2 x3 x4 : Int} (hx1 : z32 x1) (hx2 : z32 x2) (hx3 : z32 x3) (hx4 : z32 x4) {M : zMem} {Q : Option zAV → zMem → zZ → Prop} {P : (Int) ⊕ ((Int) ⊕ (Int)) → Prop} (h : zSat (fX1_fits_j77 x1 x2 x3 x4 M) P)  (hc : ∀ s : Int, P (.inl s) → z32 s → zV zmX1_fits nn 0 0 Z 24 [(0, zR 150), (1, zI x1), (2, zI s)] [] M Q) (he : ∀ s : Int, P (.inr (.inl s)) → z32 s → zV zmX1_fits nn 0 0 Z 151 [(0, zR 150), (1, zI x1), (2, zI s)] [] M Q) (hr : ∀ r : Int, P (.inr (.inr r)) → (fun r => Q (some (zI r)) M Z) r)  : zV zmX1_fits nn 0 0 Z 77 [(0, zR 150), (1, zI x1), (2, zI x2), (3, zI x3), (4, zI x4)] [] M Q := by
  unfold fX1_fits_j77 at h
  refine zV_iconst (v := 1) dX1_fits_77 rfl ?_
  refine zV_goto 82 dX1_fits_78 (by decide) ?_
  exact fX1_fits_j82_ok hZ hn hx1 hx2 hx3 hx4 zi_1 (Or.inr rfl) h hc he hr
noncomputable def fX1_fits_l24 (x1 x2 : Int) (M : zMem) : Option ((Int) ⊕ ((Int) ⊕ (Int))) :=
  (if (M 40 7) ≤ x2 then some (.inr (.inl x2)) else (zgd ((0 : Int) ≤ x2 ∧ x2 < 8) (zgd ((0 : Int) ≤ (M 49 x2) ∧ (M 49 x2) < 12) (zgd ((0 : Int) ≤ x2 ∧ x2 < 8) (zgd ((0 : Int) ≤ (M 51 x2) ∧ (M 51 x2) < 12) (if (M 153 (M 49 x2)) = x1 then fX1_fits_j77 x1 x2 (M 153 (M 49 x2)) (M 153 (M 51 x2)) M else (if (M 153 (M 51 x2)) = x1 then fX1_fits_j77 x1 x2 (M 153 (M 49 x2)) (M 153 (M 51 x2)) M else fX1_fits_j82 x1 x2 (M 153 (M 49 x2)) (M 153 (M 51 x2)) 0 M)))))))
set_option maxRecDepth 100000 in
set_option maxHeartbeats 4000000 in
theorem fX1_fits_l24_ok {Z : zZ} (hZ : zB Z) {nn : Nat} (hn : 2 ≤ nn)  {x1 x2 : Int} (hx1 : z32 x1) (hx2 : z32 x2) {M : zMem} {Q : Option zAV → zMem → zZ → Prop} {P : (Int) ⊕ ((Int) ⊕ (Int)) → Prop} (h : zSat (fX1_fits_l24 x1 x2 M) P)  (hc : ∀ s : Int, P (.inl s) → z32 s → zV zmX1_fits nn 0 0 Z 24 [(0, zR 150), (1, zI x1), (2, zI s)] [] M Q) (he : ∀ s : Int, P (.inr (.inl s)) → z32 s → zV zmX1_fits nn 0 0 Z 151 [(0, zR 150), (1, zI x1), (2, zI s)] [] M Q) (hr : ∀ r : Int, P (.inr (.inr r)) → (fun r => Q (some (zI r)) M Z) r)  : zV zmX1_fits nn 0 0 Z 24 [(0, zR 150), (1, zI x1), (2, zI x2)] [] M Q := by
  unfold fX1_fits_l24 at h
  refine zV_iload_n 2 dX1_fits_24 rfl rfl ?_
  refine zV_aload_n 0 dX1_fits_25 rfl rfl ?_
  refine zV_getR (j := 40) (zq_150 hZ) zf_X1_0 zkf_X1_34 rfl dX1_fits_26 ?_
  refine zV_getI (zq_40 hZ) zf_X7_7 zkf_X1_93 rfl dX1_fits_29 (fun m9 => ?_)
  refine zV_icmp_ge 151 dX1_fits_32 (by decide) hx2 m9 (fun hc_ => ?_) (fun hc_ => ?_)
  · replace h := zs_t h hc_
    exact he _ h hx2
  · replace h := zs_f h hc_
    refine zV_aload_n 0 dX1_fits_35 rfl rfl ?_
    refine zV_getR (j := 153) (zq_150 hZ) zf_X1_2 zkf_X1_15 rfl dX1_fits_36 ?_
    refine zV_aload_n 0 dX1_fits_39 rfl rfl ?_
    refine zV_getR (j := 40) (zq_150 hZ) zf_X1_0 zkf_X1_34 rfl dX1_fits_40 ?_
    refine zV_getR (j := 49) (zq_40 hZ) zf_X7_8 zkf_X1_96 rfl dX1_fits_43 ?_
    refine zV_iload_n 2 dX1_fits_46 rfl rfl ?_
    obtain ⟨hg, h⟩ := zs_gd h
    refine zV_iald (zq_49 hZ) hg dX1_fits_47 (fun m10 => ?_)
    obtain ⟨hg, h⟩ := zs_gd h
    refine zV_iald (zq_153 hZ) hg dX1_fits_48 (fun m11 => ?_)
    refine zV_istore_n [(3, zI (M 153 (M 49 x2))), (0, zR 150), (1, zI x1), (2, zI x2)] dX1_fits_49 rfl (by decide) rfl ?_
    refine zV_aload_n 1 dX1_fits_50 rfl rfl ?_
    refine zV_getR (j := 153) (zq_150 hZ) zf_X1_2 zkf_X1_15 rfl dX1_fits_51 ?_
    refine zV_aload_n 1 dX1_fits_54 rfl rfl ?_
    refine zV_getR (j := 40) (zq_150 hZ) zf_X1_0 zkf_X1_34 rfl dX1_fits_55 ?_
    refine zV_getR (j := 51) (zq_40 hZ) zf_X7_10 zkf_X1_99 rfl dX1_fits_58 ?_
    refine zV_iload_n 3 dX1_fits_61 rfl rfl ?_
    obtain ⟨hg, h⟩ := zs_gd h
    refine zV_iald (zq_51 hZ) hg dX1_fits_62 (fun m12 => ?_)
    obtain ⟨hg, h⟩ := zs_gd h
    refine zV_iald (zq_153 hZ) hg dX1_fits_63 (fun m13 => ?_)
    refine zV_istore [(4, zI (M 153 (M 51 x2))), (3, zI (M 153 (M 49 x2))), (0, zR 150), (1, zI x1), (2, zI x2)] dX1_fits_64 (by decide) rfl ?_
    refine zV_iload_n 1 dX1_fits_66 rfl rfl ?_
    refine zV_iload_n 3 dX1_fits_67 rfl rfl ?_
    refine zV_icmp_eq 77 dX1_fits_68 (by decide) m11 hx1 (fun hc_ => ?_) (fun hc_ => ?_)
    · replace h := zs_t h hc_
      refine zV_ls [2, 3, 4, 1, 0] rfl ?_
      exact fX1_fits_j77_ok hZ hn hx1 hx2 m11 m13 h hc he hr
    · replace h := zs_f h hc_
      refine zV_iload 0 dX1_fits_71 rfl ?_
      refine zV_iload_n 3 dX1_fits_73 rfl rfl ?_
      refine zV_icmp_ne 81 dX1_fits_74 (by decide) m13 hx1 (fun hc_ => ?_) (fun hc_ => ?_)
      · replace h := zs_f h hc_
        refine zV_iconst (v := 0) dX1_fits_81 rfl ?_
        refine zV_ls [2, 3, 4, 1, 0] rfl ?_
        exact fX1_fits_j82_ok hZ hn hx1 hx2 m11 m13 zi_0 (Or.inl rfl) h hc he hr
      · replace h := zs_t h hc_
        refine zV_ls [2, 3, 4, 1, 0] rfl ?_
        exact fX1_fits_j77_ok hZ hn hx1 hx2 m11 m13 h hc he hr
noncomputable def fX1_fits (x1 : Int) (M : zMem) : Option (Int) :=
  (zbd (fX1_toneOf x1 M) fun r1 => (if r1 < 1 then some 0 else (zbd (fX1_toneOf x1 M) fun r5 => (if r5 ≤ 9999 then (zbd (zit (fun s29 => fX1_fits_l24 x1 s29 M) 0) fun e => zel e (fun s35 => some 1) (fun r => some r)) else some 0))))
set_option maxRecDepth 100000 in
set_option maxHeartbeats 4000000 in
theorem fX1_fits_ok {Z : zZ} (hZ : zB Z) {nn : Nat} (hn : 2 ≤ nn)  {x1 : Int} (hx1 : z32 x1) {M : zMem} {Q : Option zAV → zMem → zZ → Prop} (h : zSat (fX1_fits x1 M) (fun r => Q (some (zI r)) M Z))  : zV zmX1_fits nn 0 0 Z 0 [(0, zR 150), (1, zI x1)] [] M Q := by
  unfold fX1_fits at h
  refine zV_aload_n 0 dX1_fits_0 rfl rfl ?_
  refine zV_iload_n 1 dX1_fits_1 rfl rfl ?_
  refine zV_cVI (y' := zmX1_toneOf) (n' := 0) (As := [zI x1]) zc_X1_148 (zq_150 hZ) rfl dX1_fits_2 (Nat.le_trans (by decide) hn) rfl (Nat.le_of_ble_eq_true rfl) (Nat.le_of_ble_eq_true rfl) rfl h (fun Q' h' => fX1_toneOf_ok hZ (Nat.le_refl _) hx1 h') (fun r1 c2 b3 h => ?_)
  refine zV_iconst (v := 1) dX1_fits_5 rfl ?_
  refine zV_icmp_lt 20 dX1_fits_6 (by decide) c2 zi_1 (fun hc_ => ?_) (fun hc_ => ?_)
  · replace h := zs_t h hc_
    refine zV_iconst (v := 0) dX1_fits_20 rfl ?_
    exact zV_iretb dX1_fits_21 rfl (Or.inl rfl) h
  · replace h := zs_f h hc_
    refine zV_aload_n 0 dX1_fits_9 rfl rfl ?_
    refine zV_iload_n 1 dX1_fits_10 rfl rfl ?_
    refine zV_cVI (y' := zmX1_toneOf) (n' := 0) (As := [zI x1]) zc_X1_148 (zq_150 hZ) rfl dX1_fits_11 (Nat.le_trans (by decide) hn) rfl (Nat.le_of_ble_eq_true rfl) (Nat.le_of_ble_eq_true rfl) rfl h (fun Q' h' => fX1_toneOf_ok hZ (Nat.le_refl _) hx1 h') (fun r5 c6 b7 h => ?_)
    refine zV_sipush (v := 9999) dX1_fits_14 rfl ?_
    refine zV_icmp_le 22 dX1_fits_17 (by decide) c6 zi_9999 (fun hc_ => ?_) (fun hc_ => ?_)
    · replace h := zs_t h hc_
      refine zV_iconst (v := 0) dX1_fits_22 rfl ?_
      refine zV_istore_n [(2, zI 0), (0, zR 150), (1, zI x1)] dX1_fits_23 rfl (by decide) rfl ?_
      refine zV_ls [1, 2, 0] rfl ?_
      refine (zV_loop (Vh := fun s29 : Int => z32 s29 → zV zmX1_fits nn 0 0 Z 24 [(0, zR 150), (1, zI x1), (2, zI s29)] [] M Q) h (fun s29 P30 hP31 hc32 he33 => ?_)) zi_0
      intro c34
      refine fX1_fits_l24_ok hZ hn hx1 c34 hP31 hc32 (fun s35 h36 d37 => ?_) (fun r38 h39 => he33 _ h39)
      have h := he33 _ h36
      refine zV_iconst (v := 1) dX1_fits_151 rfl ?_
      exact zV_iretb dX1_fits_152 rfl (Or.inr rfl) h
    · replace h := zs_f h hc_
      refine zV_iconst (v := 0) dX1_fits_20 rfl ?_
      exact zV_iretb dX1_fits_21 rfl (Or.inl rfl) h
noncomputable def fX1_weightOf_l7 (x1 x2 x4 : Int) (M : zMem) : Option ((Int × Int) ⊕ (Int × Int)) :=
  (if x1 < x4 then some (.inr (x2, x4)) else (zgd (¬ 7 = (0 : Int)) (some (.inl ((zldiv x2 7), (zw (x4 + 1)))))))
set_option maxRecDepth 100000 in
set_option maxHeartbeats 4000000 in
theorem fX1_weightOf_l7_ok {Z : zZ} (hZ : zB Z) {nn : Nat} (hn : 1 ≤ nn)  {x1 x2 x4 : Int} (hx1 : z32 x1) (hx2 : z64 x2) (hx4 : z32 x4) {M : zMem} {Q : Option zAV → zMem → zZ → Prop} {P : (Int × Int) ⊕ (Int × Int) → Prop} (h : zSat (fX1_weightOf_l7 x1 x2 x4 M) P)  (hc : ∀ s : Int × Int, P (.inl s) → z64 (s.1) → z32 (s.2) → zV zmX1_weightOf nn 0 0 Z 7 [(1, zI x1), (2, zL (s.1)), (4, zI (s.2))] [] M Q) (he : ∀ s : Int × Int, P (.inr s) → z64 (s.1) → z32 (s.2) → zV zmX1_weightOf nn 0 0 Z 25 [(1, zI x1), (2, zL (s.1)), (4, zI (s.2))] [] M Q)   : zV zmX1_weightOf nn 0 0 Z 7 [(1, zI x1), (2, zL x2), (4, zI x4)] [] M Q := by
  unfold fX1_weightOf_l7 at h
  refine zV_iload 2 dX1_weightOf_7 rfl ?_
  refine zV_iload_n 0 dX1_weightOf_9 rfl rfl ?_
  refine zV_icmp_gt 25 dX1_weightOf_10 (by decide) hx4 hx1 (fun hc_ => ?_) (fun hc_ => ?_)
  · replace h := zs_t h hc_
    exact he _ h hx2 hx4
  · replace h := zs_f h hc_
    refine zV_lload_n 1 dX1_weightOf_13 rfl rfl ?_
    refine zV_ldc2 (v := 7) zkl_X1_53 rfl dX1_weightOf_14 ?_
    obtain ⟨hg, h⟩ := zs_gd h
    refine zV_ldiv dX1_weightOf_17 zj_7 hg ?_
    refine zV_lstore_n [(2, zL (zldiv x2 7)), (1, zI x1), (4, zI x4)] dX1_weightOf_18 rfl (by decide) rfl ?_
    refine zV_iinc 2 [(4, zI (zw (x4 + 1))), (2, zL (zldiv x2 7)), (1, zI x1)] dX1_weightOf_19 rfl rfl (by decide) rfl ?_
    refine zV_goto 7 dX1_weightOf_22 (by decide) ?_
    refine zV_ls [2, 1, 0] rfl ?_
    exact hc _ h (z64_i _) (z32_w _)
noncomputable def fX1_weightOf (x1 : Int) (M : zMem) : Option (Int) :=
  (zbd (zit (fun s1 => fX1_weightOf_l7 x1 (s1.1) (s1.2) M) (5764801, 0)) fun s8 => some (max 1 (s8.1)))
set_option maxRecDepth 100000 in
set_option maxHeartbeats 4000000 in
theorem fX1_weightOf_ok {Z : zZ} (hZ : zB Z) {nn : Nat} (hn : 1 ≤ nn)  {x1 : Int} (hx1 : z32 x1) {M : zMem} {Q : Option zAV → zMem → zZ → Prop} (h : zSat (fX1_weightOf x1 M) (fun r => Q (some (zL r)) M Z))  : zV zmX1_weightOf nn 0 0 Z 0 [(0, zR 150), (1, zI x1)] [] M Q := by
  unfold fX1_weightOf at h
  refine zV_ldc2 (v := 5764801) zkl_X1_47 rfl dX1_weightOf_0 ?_
  refine zV_lstore_n [(2, zL 5764801), (0, zR 150), (1, zI x1)] dX1_weightOf_3 rfl (by decide) rfl ?_
  refine zV_iconst (v := 0) dX1_weightOf_4 rfl ?_
  refine zV_istore [(4, zI 0), (2, zL 5764801), (0, zR 150), (1, zI x1)] dX1_weightOf_5 (by decide) rfl ?_
  refine zV_ls [3, 1, 0] rfl ?_
  refine (zV_loop (Vh := fun s1 : Int × Int => z64 (s1.1) → z32 (s1.2) → zV zmX1_weightOf nn 0 0 Z 7 [(1, zI x1), (2, zL (s1.1)), (4, zI (s1.2))] [] M Q) h (fun s1 P2 hP3 hc4 he5 => ?_)) zj_5764801 zi_0
  intro c6 c7
  refine fX1_weightOf_l7_ok hZ hn hx1 c6 c7 hP3 hc4 (fun s8 h9 d10 d11 => ?_)
  have h := he5 _ h9
  refine zV_lconst (v := 1) dX1_weightOf_25 rfl ?_
  refine zV_lload_n 1 dX1_weightOf_26 rfl rfl ?_
  refine zV_mmaxl zml_X1_167 dX1_weightOf_27 (Nat.le_trans (by decide) hn) (Nat.le_of_ble_eq_true rfl) zj_1 d10 ?_
  exact zV_lret dX1_weightOf_30 rfl (z64_max zj_1 d10) h
noncomputable def fX1_wayOf_l9 (x1 x2 x3 : Int) (M : zMem) : Option ((Int × Int) ⊕ (Int × Int)) :=
  (if x3 < 0 then some (.inr (x2, x3)) else (if (zand (zshr x1 x3) 1) = 0 then some (.inl (x2, (zw (x3 + (-1))))) else (zgd ((0 : Int) ≤ x3 ∧ x3 < 8) (some (.inl ((zw ((x2 * 7) + (M 160 x3))), (zw (x3 + (-1)))))))))
set_option maxRecDepth 100000 in
set_option maxHeartbeats 4000000 in
theorem fX1_wayOf_l9_ok {Z : zZ} (hZ : zB Z) {nn : Nat} (hn : 0 ≤ nn)  {x1 x2 x3 : Int} (hx1 : z32 x1) (hx2 : z32 x2) (hx3 : z32 x3) {M : zMem} {Q : Option zAV → zMem → zZ → Prop} {P : (Int × Int) ⊕ (Int × Int) → Prop} (h : zSat (fX1_wayOf_l9 x1 x2 x3 M) P)  (hc : ∀ s : Int × Int, P (.inl s) → z32 (s.1) → z32 (s.2) → zV zmX1_wayOf nn 0 0 Z 9 [(0, zR 150), (1, zI x1), (2, zI (s.1)), (3, zI (s.2))] [] M Q) (he : ∀ s : Int × Int, P (.inr s) → z32 (s.1) → z32 (s.2) → zV zmX1_wayOf nn 0 0 Z 39 [(0, zR 150), (1, zI x1), (2, zI (s.1)), (3, zI (s.2))] [] M Q)   : zV zmX1_wayOf nn 0 0 Z 9 [(0, zR 150), (1, zI x1), (2, zI x2), (3, zI x3)] [] M Q := by
  unfold fX1_wayOf_l9 at h
  refine zV_iload_n 3 dX1_wayOf_9 rfl rfl ?_
  refine zV_if_lt 39 dX1_wayOf_10 (by decide) hx3 (fun hc_ => ?_) (fun hc_ => ?_)
  · replace h := zs_t h hc_
    exact he _ h hx2 hx3
  · replace h := zs_f h hc_
    refine zV_iload_n 1 dX1_wayOf_13 rfl rfl ?_
    refine zV_iload_n 3 dX1_wayOf_14 rfl rfl ?_
    refine zV_ishr dX1_wayOf_15 ?_
    refine zV_iconst (v := 1) dX1_wayOf_16 rfl ?_
    refine zV_iand dX1_wayOf_17 ?_
    refine zV_if_eq 33 dX1_wayOf_18 (by decide) (z32_i _) (fun hc_ => ?_) (fun hc_ => ?_)
    · replace h := zs_t h hc_
      refine zV_iinc 3 [(3, zI (zw (x3 + (-1)))), (0, zR 150), (1, zI x1), (2, zI x2)] dX1_wayOf_33 rfl rfl (by decide) rfl ?_
      refine zV_goto 9 dX1_wayOf_36 (by decide) ?_
      refine zV_ls [1, 2, 3, 0] rfl ?_
      exact hc _ h hx2 (z32_w _)
    · replace h := zs_f h hc_
      refine zV_iload_n 2 dX1_wayOf_21 rfl rfl ?_
      refine zV_bipush (v := 7) dX1_wayOf_22 rfl ?_
      refine zV_imul dX1_wayOf_24 ?_
      refine zV_aload_n 0 dX1_wayOf_25 rfl rfl ?_
      refine zV_getR (j := 160) (zq_150 hZ) zf_X1_9 zkf_X1_31 rfl dX1_wayOf_26 ?_
      refine zV_iload_n 3 dX1_wayOf_29 rfl rfl ?_
      obtain ⟨hg, h⟩ := zs_gd h
      refine zV_iald (zq_160 hZ) hg dX1_wayOf_30 (fun m2 => ?_)
      refine zV_iadd dX1_wayOf_31 ?_
      refine zV_w ?_
      refine zV_istore_n [(2, zI (zw ((x2 * 7) + (M 160 x3)))), (0, zR 150), (1, zI x1), (3, zI x3)] dX1_wayOf_32 rfl (by decide) rfl ?_
      refine zV_iinc 3 [(3, zI (zw (x3 + (-1)))), (2, zI (zw ((x2 * 7) + (M 160 x3)))), (0, zR 150), (1, zI x1)] dX1_wayOf_33 rfl rfl (by decide) rfl ?_
      refine zV_goto 9 dX1_wayOf_36 (by decide) ?_
      refine zV_ls [2, 3, 1, 0] rfl ?_
      exact hc _ h (z32_w _) (z32_w _)
noncomputable def fX1_wayOf (x1 : Int) (M : zMem) : Option (Int) :=
  (zbd (zit (fun s3 => fX1_wayOf_l9 x1 (s3.1) (s3.2) M) (0, (zw ((M 150 3) - 1)))) fun s10 => some (s10.1))
set_option maxRecDepth 100000 in
set_option maxHeartbeats 4000000 in
theorem fX1_wayOf_ok {Z : zZ} (hZ : zB Z) {nn : Nat} (hn : 0 ≤ nn)  {x1 : Int} (hx1 : z32 x1) {M : zMem} {Q : Option zAV → zMem → zZ → Prop} (h : zSat (fX1_wayOf x1 M) (fun r => Q (some (zI r)) M Z))  : zV zmX1_wayOf nn 0 0 Z 0 [(0, zR 150), (1, zI x1)] [] M Q := by
  unfold fX1_wayOf at h
  refine zV_iconst (v := 0) dX1_wayOf_0 rfl ?_
  refine zV_istore_n [(2, zI 0), (0, zR 150), (1, zI x1)] dX1_wayOf_1 rfl (by decide) rfl ?_
  refine zV_aload_n 1 dX1_wayOf_2 rfl rfl ?_
  refine zV_getI (zq_150 hZ) zf_X1_3 zkf_X1_66 rfl dX1_wayOf_3 (fun m1 => ?_)
  refine zV_iconst (v := 1) dX1_wayOf_6 rfl ?_
  refine zV_isub dX1_wayOf_7 ?_
  refine zV_w ?_
  refine zV_istore_n [(3, zI (zw ((M 150 3) - 1))), (2, zI 0), (0, zR 150), (1, zI x1)] dX1_wayOf_8 rfl (by decide) rfl ?_
  refine zV_ls [2, 3, 1, 0] rfl ?_
  refine (zV_loop (Vh := fun s3 : Int × Int => z32 (s3.1) → z32 (s3.2) → zV zmX1_wayOf nn 0 0 Z 9 [(0, zR 150), (1, zI x1), (2, zI (s3.1)), (3, zI (s3.2))] [] M Q) h (fun s3 P4 hP5 hc6 he7 => ?_)) zi_0 (z32_w _)
  intro c8 c9
  refine fX1_wayOf_l9_ok hZ hn hx1 c8 c9 hP5 hc6 (fun s10 h11 d12 d13 => ?_)
  have h := he7 _ h11
  refine zV_iload_n 2 dX1_wayOf_39 rfl rfl ?_
  exact zV_ireti dX1_wayOf_40 rfl d12 h
noncomputable def fX1_costOf_j92 (x1 x4 x6 s0 : Int) (M : zMem) : Option ((Int × Int) ⊕ (Int × Int)) :=
  (if s0 = 0 then some (.inl (x4, (zw (x6 + 1)))) else (zgd ((0 : Int) ≤ x6 ∧ x6 < 8) (zgd ((0 : Int) ≤ x6 ∧ x6 < 8) (zbd (fX1_wayOf (M 156 x6) M) fun r13 => (zgd ((0 : Int) ≤ ((M 158 x6) + r13) ∧ ((M 158 x6) + r13) < 743) (some (.inl ((zwl (x4 + (M 157 ((M 158 x6) + r13)))), (zw (x6 + 1))))))))))
set_option maxRecDepth 100000 in
set_option maxHeartbeats 4000000 in
theorem fX1_costOf_j92_ok {Z : zZ} (hZ : zB Z) {nn : Nat} (hn : 2 ≤ nn)  {x1 x4 x6 s0 : Int} (hx1 : z32 x1) (hx4 : z64 x4) (hx6 : z32 x6) (hs0 : z32 s0) (hbs0 : s0 = 0 ∨ s0 = 1) {M : zMem} {Q : Option zAV → zMem → zZ → Prop} {P : (Int × Int) ⊕ (Int × Int) → Prop} (h : zSat (fX1_costOf_j92 x1 x4 x6 s0 M) P)  (hc : ∀ s : Int × Int, P (.inl s) → z64 (s.1) → z32 (s.2) → zV zmX1_costOf nn 0 0 Z 52 [(0, zR 150), (1, zI x1), (4, zL (s.1)), (6, zI (s.2))] [] M Q) (he : ∀ s : Int × Int, P (.inr s) → z64 (s.1) → z32 (s.2) → zV zmX1_costOf nn 0 0 Z 134 [(0, zR 150), (1, zI x1), (4, zL (s.1)), (6, zI (s.2))] [] M Q)   : zV zmX1_costOf nn 0 0 Z 92 [(0, zR 150), (1, zI x1), (4, zL x4), (6, zI x6)] [zI s0] M Q := by
  unfold fX1_costOf_j92 at h
  refine zV_istore [(7, zI s0), (0, zR 150), (1, zI x1), (4, zL x4), (6, zI x6)] dX1_costOf_92 (by decide) rfl ?_
  refine zV_iload 0 dX1_costOf_94 rfl ?_
  refine zV_if_eq 128 dX1_costOf_96 (by decide) hs0 (fun hc_ => ?_) (fun hc_ => ?_)
  · replace h := zs_t h hc_
    refine zV_iinc 4 [(6, zI (zw (x6 + 1))), (7, zI s0), (0, zR 150), (1, zI x1), (4, zL x4)] dX1_costOf_128 rfl rfl (by decide) rfl ?_
    refine zV_goto 52 dX1_costOf_131 (by decide) ?_
    refine zV_ls [2, 3, 4, 0] rfl ?_
    exact hc _ h hx4 (z32_w _)
  · replace h := zs_f h hc_
    refine zV_lload 3 dX1_costOf_99 rfl ?_
    refine zV_aload_n 1 dX1_costOf_101 rfl rfl ?_
    refine zV_getR (j := 157) (zq_150 hZ) zf_X1_6 zkf_X1_24 rfl dX1_costOf_102 ?_
    refine zV_aload_n 1 dX1_costOf_105 rfl rfl ?_
    refine zV_getR (j := 158) (zq_150 hZ) zf_X1_7 zkf_X1_28 rfl dX1_costOf_106 ?_
    refine zV_iload 4 dX1_costOf_109 rfl ?_
    obtain ⟨hg, h⟩ := zs_gd h
    refine zV_iald (zq_158 hZ) hg dX1_costOf_111 (fun m11 => ?_)
    refine zV_aload_n 1 dX1_costOf_112 rfl rfl ?_
    refine zV_aload_n 1 dX1_costOf_113 rfl rfl ?_
    refine zV_getR (j := 156) (zq_150 hZ) zf_X1_5 zkf_X1_21 rfl dX1_costOf_114 ?_
    refine zV_iload 4 dX1_costOf_117 rfl ?_
    obtain ⟨hg, h⟩ := zs_gd h
    refine zV_iald (zq_156 hZ) hg dX1_costOf_119 (fun m12 => ?_)
    refine zV_cVI (y' := zmX1_wayOf) (n' := 0) (As := [zI (M 156 x6)]) zc_X1_164 (zq_150 hZ) rfl dX1_costOf_120 (Nat.le_trans (by decide) hn) rfl (Nat.le_of_ble_eq_true rfl) (Nat.le_of_ble_eq_true rfl) rfl h (fun Q' h' => fX1_wayOf_ok hZ (Nat.le_refl _) m12 h') (fun r13 c14 b15 h => ?_)
    refine zV_iadd dX1_costOf_123 ?_
    obtain ⟨hg, h⟩ := zs_gd h
    refine zV_lald (zq_157 hZ) hg dX1_costOf_124 (fun m17 => ?_)
    refine zV_ladd dX1_costOf_125 ?_
    refine zV_wl ?_
    refine zV_lstore [(4, zL (zwl (x4 + (M 157 ((M 158 x6) + r13))))), (7, zI s0), (0, zR 150), (1, zI x1), (6, zI x6)] dX1_costOf_126 (by decide) rfl ?_
    refine zV_iinc 4 [(6, zI (zw (x6 + 1))), (4, zL (zwl (x4 + (M 157 ((M 158 x6) + r13))))), (7, zI s0), (0, zR 150), (1, zI x1)] dX1_costOf_128 rfl rfl (by decide) rfl ?_
    refine zV_goto 52 dX1_costOf_131 (by decide) ?_
    refine zV_ls [3, 4, 1, 0] rfl ?_
    exact hc _ h (z64_w _) (z32_w _)
noncomputable def fX1_costOf_j91 (x1 x4 x6 : Int) (M : zMem) : Option ((Int × Int) ⊕ (Int × Int)) :=
  fX1_costOf_j92 x1 x4 x6 0 M
set_option maxRecDepth 100000 in
set_option maxHeartbeats 4000000 in
theorem fX1_costOf_j91_ok {Z : zZ} (hZ : zB Z) {nn : Nat} (hn : 2 ≤ nn)  {x1 x4 x6 : Int} (hx1 : z32 x1) (hx4 : z64 x4) (hx6 : z32 x6) {M : zMem} {Q : Option zAV → zMem → zZ → Prop} {P : (Int × Int) ⊕ (Int × Int) → Prop} (h : zSat (fX1_costOf_j91 x1 x4 x6 M) P)  (hc : ∀ s : Int × Int, P (.inl s) → z64 (s.1) → z32 (s.2) → zV zmX1_costOf nn 0 0 Z 52 [(0, zR 150), (1, zI x1), (4, zL (s.1)), (6, zI (s.2))] [] M Q) (he : ∀ s : Int × Int, P (.inr s) → z64 (s.1) → z32 (s.2) → zV zmX1_costOf nn 0 0 Z 134 [(0, zR 150), (1, zI x1), (4, zL (s.1)), (6, zI (s.2))] [] M Q)   : zV zmX1_costOf nn 0 0 Z 91 [(0, zR 150), (1, zI x1), (4, zL x4), (6, zI x6)] [] M Q := by
  unfold fX1_costOf_j91 at h
  refine zV_iconst (v := 0) dX1_costOf_91 rfl ?_
  exact fX1_costOf_j92_ok hZ hn hx1 hx4 hx6 zi_0 (Or.inl rfl) h hc he
noncomputable def fX1_costOf_l52 (x1 x4 x6 : Int) (M : zMem) : Option ((Int × Int) ⊕ (Int × Int)) :=
  (if (M 150 3) ≤ x6 then some (.inr (x4, x6)) else (if (zand (zshr (M 150 11) x6) 1) = 0 then fX1_costOf_j91 x1 x4 x6 M else (zgd ((0 : Int) ≤ x6 ∧ x6 < 8) (if (zand (zshr (M 156 x6) x1) 1) = 0 then fX1_costOf_j91 x1 x4 x6 M else fX1_costOf_j92 x1 x4 x6 1 M))))
set_option maxRecDepth 100000 in
set_option maxHeartbeats 4000000 in
theorem fX1_costOf_l52_ok {Z : zZ} (hZ : zB Z) {nn : Nat} (hn : 2 ≤ nn)  {x1 x4 x6 : Int} (hx1 : z32 x1) (hx4 : z64 x4) (hx6 : z32 x6) {M : zMem} {Q : Option zAV → zMem → zZ → Prop} {P : (Int × Int) ⊕ (Int × Int) → Prop} (h : zSat (fX1_costOf_l52 x1 x4 x6 M) P)  (hc : ∀ s : Int × Int, P (.inl s) → z64 (s.1) → z32 (s.2) → zV zmX1_costOf nn 0 0 Z 52 [(0, zR 150), (1, zI x1), (4, zL (s.1)), (6, zI (s.2))] [] M Q) (he : ∀ s : Int × Int, P (.inr s) → z64 (s.1) → z32 (s.2) → zV zmX1_costOf nn 0 0 Z 134 [(0, zR 150), (1, zI x1), (4, zL (s.1)), (6, zI (s.2))] [] M Q)   : zV zmX1_costOf nn 0 0 Z 52 [(0, zR 150), (1, zI x1), (4, zL x4), (6, zI x6)] [] M Q := by
  unfold fX1_costOf_l52 at h
  refine zV_iload 3 dX1_costOf_52 rfl ?_
  refine zV_aload_n 0 dX1_costOf_54 rfl rfl ?_
  refine zV_getI (zq_150 hZ) zf_X1_3 zkf_X1_66 rfl dX1_costOf_55 (fun m9 => ?_)
  refine zV_icmp_ge 134 dX1_costOf_58 (by decide) hx6 m9 (fun hc_ => ?_) (fun hc_ => ?_)
  · replace h := zs_t h hc_
    exact he _ h hx4 hx6
  · replace h := zs_f h hc_
    refine zV_aload_n 0 dX1_costOf_61 rfl rfl ?_
    refine zV_getI (zq_150 hZ) zf_X1_11 zkf_X1_105 rfl dX1_costOf_62 (fun m10 => ?_)
    refine zV_iload 3 dX1_costOf_65 rfl ?_
    refine zV_ishr dX1_costOf_67 ?_
    refine zV_iconst (v := 1) dX1_costOf_68 rfl ?_
    refine zV_iand dX1_costOf_69 ?_
    refine zV_if_eq 91 dX1_costOf_70 (by decide) (z32_i _) (fun hc_ => ?_) (fun hc_ => ?_)
    · replace h := zs_t h hc_
      exact fX1_costOf_j91_ok hZ hn hx1 hx4 hx6 h hc he
    · replace h := zs_f h hc_
      refine zV_aload_n 0 dX1_costOf_73 rfl rfl ?_
      refine zV_getR (j := 156) (zq_150 hZ) zf_X1_5 zkf_X1_21 rfl dX1_costOf_74 ?_
      refine zV_iload 3 dX1_costOf_77 rfl ?_
      obtain ⟨hg, h⟩ := zs_gd h
      refine zV_iald (zq_156 hZ) hg dX1_costOf_79 (fun m18 => ?_)
      refine zV_iload_n 1 dX1_costOf_80 rfl rfl ?_
      refine zV_ishr dX1_costOf_81 ?_
      refine zV_iconst (v := 1) dX1_costOf_82 rfl ?_
      refine zV_iand dX1_costOf_83 ?_
      refine zV_if_eq 91 dX1_costOf_84 (by decide) (z32_i _) (fun hc_ => ?_) (fun hc_ => ?_)
      · replace h := zs_t h hc_
        exact fX1_costOf_j91_ok hZ hn hx1 hx4 hx6 h hc he
      · replace h := zs_f h hc_
        refine zV_iconst (v := 1) dX1_costOf_87 rfl ?_
        refine zV_goto 92 dX1_costOf_88 (by decide) ?_
        exact fX1_costOf_j92_ok hZ hn hx1 hx4 hx6 zi_1 (Or.inr rfl) h hc he
noncomputable def fX1_costOf (x1 : Int) (M : zMem) : Option (Int) :=
  (zgd ((0 : Int) ≤ x1 ∧ x1 < 8) (zgd ((0 : Int) ≤ x1 ∧ x1 < 8) (zgd ((0 : Int) ≤ (M 152 x1) ∧ (M 152 x1) < 12) (zgd ((0 : Int) ≤ x1 ∧ x1 < 8) (zbd (fX1_weightOf x1 M) fun r5 => (zbd (zit (fun s19 => fX1_costOf_l52 x1 (s19.1) (s19.2) M) ((zwl (((zw ((zabs (zw ((M 160 x1) - 3))) * (M 44 (M 152 x1)))) * 5764801) + ((M 160 x1) * r5))), 0)) fun s26 => some (min (s26.1) 1000000000000000)))))))
set_option maxRecDepth 100000 in
set_option maxHeartbeats 4000000 in
theorem fX1_costOf_ok {Z : zZ} (hZ : zB Z) {nn : Nat} (hn : 2 ≤ nn)  {x1 : Int} (hx1 : z32 x1) {M : zMem} {Q : Option zAV → zMem → zZ → Prop} (h : zSat (fX1_costOf x1 M) (fun r => Q (some (zL r)) M Z))  : zV zmX1_costOf nn 0 0 Z 0 [(0, zR 150), (1, zI x1)] [] M Q := by
  unfold fX1_costOf at h
  refine zV_aload_n 0 dX1_costOf_0 rfl rfl ?_
  refine zV_getR (j := 160) (zq_150 hZ) zf_X1_9 zkf_X1_31 rfl dX1_costOf_1 ?_
  refine zV_iload_n 1 dX1_costOf_4 rfl rfl ?_
  obtain ⟨hg, h⟩ := zs_gd h
  refine zV_iald (zq_160 hZ) hg dX1_costOf_5 (fun m1 => ?_)
  refine zV_iconst (v := 3) dX1_costOf_6 rfl ?_
  refine zV_isub dX1_costOf_7 ?_
  refine zV_w ?_
  refine zV_mabs zml_X1_158 dX1_costOf_8 (Nat.le_trans (by decide) hn) (Nat.le_of_ble_eq_true rfl) (z32_w _) ?_
  refine zV_aload_n 0 dX1_costOf_11 rfl rfl ?_
  refine zV_getR (j := 40) (zq_150 hZ) zf_X1_0 zkf_X1_34 rfl dX1_costOf_12 ?_
  refine zV_getR (j := 44) (zq_40 hZ) zf_X7_3 zkf_X1_161 rfl dX1_costOf_15 ?_
  refine zV_aload_n 0 dX1_costOf_18 rfl rfl ?_
  refine zV_getR (j := 152) (zq_150 hZ) zf_X1_1 zkf_X1_9 rfl dX1_costOf_19 ?_
  refine zV_iload_n 1 dX1_costOf_22 rfl rfl ?_
  obtain ⟨hg, h⟩ := zs_gd h
  refine zV_iald (zq_152 hZ) hg dX1_costOf_23 (fun m2 => ?_)
  obtain ⟨hg, h⟩ := zs_gd h
  refine zV_iald (zq_44 hZ) hg dX1_costOf_24 (fun m3 => ?_)
  refine zV_imul dX1_costOf_25 ?_
  refine zV_w ?_
  refine zV_i2l dX1_costOf_26 (z32_w _) ?_
  refine zV_lstore_n [(2, zL (zw ((zabs (zw ((M 160 x1) - 3))) * (M 44 (M 152 x1))))), (0, zR 150), (1, zI x1)] dX1_costOf_27 rfl (by decide) rfl ?_
  refine zV_lload_n 0 dX1_costOf_28 rfl rfl ?_
  refine zV_ldc2 (v := 5764801) zkl_X1_47 rfl dX1_costOf_29 ?_
  refine zV_lmul dX1_costOf_32 ?_
  refine zV_aload_n 1 dX1_costOf_33 rfl rfl ?_
  refine zV_getR (j := 160) (zq_150 hZ) zf_X1_9 zkf_X1_31 rfl dX1_costOf_34 ?_
  refine zV_iload_n 2 dX1_costOf_37 rfl rfl ?_
  obtain ⟨hg, h⟩ := zs_gd h
  refine zV_iald (zq_160 hZ) hg dX1_costOf_38 (fun m4 => ?_)
  refine zV_i2l dX1_costOf_39 m4 ?_
  refine zV_aload_n 1 dX1_costOf_40 rfl rfl ?_
  refine zV_iload_n 2 dX1_costOf_41 rfl rfl ?_
  refine zV_cVL (y' := zmX1_weightOf) (n' := 1) (As := [zI x1]) zc_X1_49 (zq_150 hZ) rfl dX1_costOf_42 (Nat.le_trans (by decide) hn) rfl (Nat.le_of_ble_eq_true rfl) (Nat.le_of_ble_eq_true rfl) rfl rfl h (fun Q' h' => fX1_weightOf_ok hZ (Nat.le_refl _) hx1 h') (fun r5 c6 b7 h => ?_)
  refine zV_lmul dX1_costOf_45 ?_
  refine zV_ladd dX1_costOf_46 ?_
  refine zV_wl ?_
  refine zV_lstore [(4, zL (zwl (((zw ((zabs (zw ((M 160 x1) - 3))) * (M 44 (M 152 x1)))) * 5764801) + ((M 160 x1) * r5)))), (2, zL (zw ((zabs (zw ((M 160 x1) - 3))) * (M 44 (M 152 x1))))), (0, zR 150), (1, zI x1)] dX1_costOf_47 (by decide) rfl ?_
  refine zV_iconst (v := 0) dX1_costOf_49 rfl ?_
  refine zV_istore [(6, zI 0), (4, zL (zwl (((zw ((zabs (zw ((M 160 x1) - 3))) * (M 44 (M 152 x1)))) * 5764801) + ((M 160 x1) * r5)))), (2, zL (zw ((zabs (zw ((M 160 x1) - 3))) * (M 44 (M 152 x1))))), (0, zR 150), (1, zI x1)] dX1_costOf_50 (by decide) rfl ?_
  refine zV_ls [3, 4, 1, 0] rfl ?_
  refine (zV_loop (Vh := fun s19 : Int × Int => z64 (s19.1) → z32 (s19.2) → zV zmX1_costOf nn 0 0 Z 52 [(0, zR 150), (1, zI x1), (4, zL (s19.1)), (6, zI (s19.2))] [] M Q) h (fun s19 P20 hP21 hc22 he23 => ?_)) (z64_w _) zi_0
  intro c24 c25
  refine fX1_costOf_l52_ok hZ hn hx1 c24 c25 hP21 hc22 (fun s26 h27 d28 d29 => ?_)
  have h := he23 _ h27
  refine zV_lload 2 dX1_costOf_134 rfl ?_
  refine zV_ldc2 (v := 1000000000000000) zkl_X1_45 rfl dX1_costOf_136 ?_
  refine zV_mminl zml_X1_130 dX1_costOf_139 (Nat.le_trans (by decide) hn) (Nat.le_of_ble_eq_true rfl) d28 zj_1000000000000000 ?_
  exact zV_lret dX1_costOf_142 rfl (z64_min d28 zj_1000000000000000) h
noncomputable def fX1_bestStep_l7 (x1 x2 x4 : Int) (M : zMem) : Option ((Int × Int × zMem) ⊕ (Int × Int × zMem)) :=
  (if 7 ≤ x4 then some (.inr (x2, x4, M)) else (zgd ((0 : Int) ≤ x1 ∧ x1 < 8) (zbd (fX1_fits x1 (zup M 160 x1 x4)) fun r1 => (if r1 = 0 then some (.inl (x2, (zw (x4 + 1)), (zup M 160 x1 x4))) else (zbd (fX1_costOf x1 (zup M 160 x1 x4)) fun r5 => some (.inl ((min x2 r5), (zw (x4 + 1)), (zup M 160 x1 x4))))))))
set_option maxRecDepth 100000 in
set_option maxHeartbeats 4000000 in
theorem fX1_bestStep_l7_ok {Z : zZ} (hZ : zB Z) {nn : Nat} (hn : 3 ≤ nn)  {x1 x2 x4 : Int} (hx1 : z32 x1) (hx2 : z64 x2) (hx4 : z32 x4) {M : zMem} {Q : Option zAV → zMem → zZ → Prop} {P : (Int × Int × zMem) ⊕ (Int × Int × zMem) → Prop} (h : zSat (fX1_bestStep_l7 x1 x2 x4 M) P)  (hc : ∀ s : Int × Int × zMem, P (.inl s) → z64 (s.1) → z32 (s.2.1) → zV zmX1_bestStep nn 0 0 Z 7 [(0, zR 150), (1, zI x1), (2, zL (s.1)), (4, zI (s.2.1))] [] (s.2.2) Q) (he : ∀ s : Int × Int × zMem, P (.inr s) → z64 (s.1) → z32 (s.2.1) → zV zmX1_bestStep nn 0 0 Z 46 [(0, zR 150), (1, zI x1), (2, zL (s.1)), (4, zI (s.2.1))] [] (s.2.2) Q)   : zV zmX1_bestStep nn 0 0 Z 7 [(0, zR 150), (1, zI x1), (2, zL x2), (4, zI x4)] [] M Q := by
  unfold fX1_bestStep_l7 at h
  refine zV_iload 3 dX1_bestStep_7 rfl ?_
  refine zV_bipush (v := 7) dX1_bestStep_9 rfl ?_
  refine zV_icmp_ge 46 dX1_bestStep_11 (by decide) hx4 zi_7 (fun hc_ => ?_) (fun hc_ => ?_)
  · replace h := zs_t h hc_
    exact he _ h hx2 hx4
  · replace h := zs_f h hc_
    refine zV_aload_n 0 dX1_bestStep_14 rfl rfl ?_
    refine zV_getR (j := 160) (zq_150 hZ) zf_X1_9 zkf_X1_31 rfl dX1_bestStep_15 ?_
    refine zV_iload_n 1 dX1_bestStep_18 rfl rfl ?_
    refine zV_iload 3 dX1_bestStep_19 rfl ?_
    obtain ⟨hg, h⟩ := zs_gd h
    refine zV_iast (zq_160 hZ) (by decide) hg hx4 dX1_bestStep_21 ?_
    refine zV_aload_n 0 dX1_bestStep_22 rfl rfl ?_
    refine zV_iload_n 1 dX1_bestStep_23 rfl rfl ?_
    refine zV_cVI (y' := zmX1_fits) (n' := 2) (As := [zI x1]) zc_X1_136 (zq_150 hZ) rfl dX1_bestStep_24 (Nat.le_trans (by decide) hn) rfl (Nat.le_of_ble_eq_true rfl) (Nat.le_of_ble_eq_true rfl) rfl h (fun Q' h' => fX1_fits_ok hZ (Nat.le_refl _) hx1 h') (fun r1 c2 b3 h => ?_)
    refine zV_if_eq 40 dX1_bestStep_27 (by decide) c2 (fun hc_ => ?_) (fun hc_ => ?_)
    · replace h := zs_t h hc_
      refine zV_iinc 3 [(4, zI (zw (x4 + 1))), (0, zR 150), (1, zI x1), (2, zL x2)] dX1_bestStep_40 rfl rfl (by decide) rfl ?_
      refine zV_goto 7 dX1_bestStep_43 (by decide) ?_
      refine zV_ls [1, 2, 3, 0] rfl ?_
      exact hc _ h hx2 (z32_w _)
    · replace h := zs_f h hc_
      refine zV_lload_n 2 dX1_bestStep_30 rfl rfl ?_
      refine zV_aload_n 0 dX1_bestStep_31 rfl rfl ?_
      refine zV_iload_n 1 dX1_bestStep_32 rfl rfl ?_
      refine zV_cVL (y' := zmX1_costOf) (n' := 2) (As := [zI x1]) zc_X1_139 (zq_150 hZ) rfl dX1_bestStep_33 (Nat.le_trans (by decide) hn) rfl (Nat.le_of_ble_eq_true rfl) (Nat.le_of_ble_eq_true rfl) rfl rfl h (fun Q' h' => fX1_costOf_ok hZ (Nat.le_refl _) hx1 h') (fun r5 c6 b7 h => ?_)
      refine zV_mminl zml_X1_130 dX1_bestStep_36 (Nat.le_trans (by decide) hn) (Nat.le_of_ble_eq_true rfl) hx2 c6 ?_
      refine zV_lstore_n [(2, zL (min x2 r5)), (0, zR 150), (1, zI x1), (4, zI x4)] dX1_bestStep_39 rfl (by decide) rfl ?_
      refine zV_iinc 3 [(4, zI (zw (x4 + 1))), (2, zL (min x2 r5)), (0, zR 150), (1, zI x1)] dX1_bestStep_40 rfl rfl (by decide) rfl ?_
      refine zV_goto 7 dX1_bestStep_43 (by decide) ?_
      refine zV_ls [2, 3, 1, 0] rfl ?_
      exact hc _ h (z64_min hx2 c6) (z32_w _)
noncomputable def fX1_bestStep (x1 : Int) (M : zMem) : Option (Int × zMem) :=
  (zbd (zit (fun s9 => fX1_bestStep_l7 x1 (s9.1) (s9.2.1) (s9.2.2)) (1000000000000000, 0, M)) fun s16 => some (s16.1, s16.2.2))
set_option maxRecDepth 100000 in
set_option maxHeartbeats 4000000 in
theorem fX1_bestStep_ok {Z : zZ} (hZ : zB Z) {nn : Nat} (hn : 3 ≤ nn)  {x1 : Int} (hx1 : z32 x1) {M : zMem} {Q : Option zAV → zMem → zZ → Prop} (h : zSat (fX1_bestStep x1 M) (fun r => Q (some (zL r.1)) r.2 Z))  : zV zmX1_bestStep nn 0 0 Z 0 [(0, zR 150), (1, zI x1)] [] M Q := by
  unfold fX1_bestStep at h
  refine zV_ldc2 (v := 1000000000000000) zkl_X1_45 rfl dX1_bestStep_0 ?_
  refine zV_lstore_n [(2, zL 1000000000000000), (0, zR 150), (1, zI x1)] dX1_bestStep_3 rfl (by decide) rfl ?_
  refine zV_iconst (v := 0) dX1_bestStep_4 rfl ?_
  refine zV_istore [(4, zI 0), (2, zL 1000000000000000), (0, zR 150), (1, zI x1)] dX1_bestStep_5 (by decide) rfl ?_
  refine zV_ls [2, 3, 1, 0] rfl ?_
  refine (zV_loop (Vh := fun s9 : Int × Int × zMem => z64 (s9.1) → z32 (s9.2.1) → zV zmX1_bestStep nn 0 0 Z 7 [(0, zR 150), (1, zI x1), (2, zL (s9.1)), (4, zI (s9.2.1))] [] (s9.2.2) Q) h (fun s9 P10 hP11 hc12 he13 => ?_)) zj_1000000000000000 zi_0
  intro c14 c15
  refine fX1_bestStep_l7_ok hZ hn hx1 c14 c15 hP11 hc12 (fun s16 h17 d18 d19 => ?_)
  have h := he13 _ h17
  refine zV_lload_n 2 dX1_bestStep_46 rfl rfl ?_
  exact zV_lret dX1_bestStep_47 rfl d18 h
noncomputable def fX1_leave_j60 (x1 x2 x3 : Int) (M : zMem) : Option ((Int × zMem) ⊕ (Int × zMem)) :=
  (zgd ((0 : Int) ≤ x1 ∧ x1 < 8) (if (zand (zshr (M 155 x1) x3) 1) = 0 then some (.inl ((zw (x3 + 1)), M)) else (zgd ((0 : Int) ≤ x3 ∧ x3 < 8) (zgd ((0 : Int) ≤ x1 ∧ x1 < 8) (zgd ((0 : Int) ≤ x3 ∧ x3 < 8) (some (.inl ((zw (x3 + 1)), (zup M 155 x3 (zand (zand (zor (M 155 x3) (M 155 x1)) (zxor x2 (-1))) (zxor (zshl 1 x3) (-1))))))))))))
set_option maxRecDepth 100000 in
set_option maxHeartbeats 4000000 in
theorem fX1_leave_j60_ok {Z : zZ} (hZ : zB Z) {nn : Nat} (hn : 0 ≤ nn)  {x1 x2 x3 : Int} (hx1 : z32 x1) (hx2 : z32 x2) (hx3 : z32 x3) {M : zMem} {Q : Option zAV → zMem → zZ → Prop} {P : (Int × zMem) ⊕ (Int × zMem) → Prop} (h : zSat (fX1_leave_j60 x1 x2 x3 M) P)  (hc : ∀ s : Int × zMem, P (.inl s) → z32 (s.1) → zV zmX1_leave nn 0 0 Z 16 [(0, zR 150), (1, zI x1), (2, zI x2), (3, zI (s.1))] [] (s.2) Q) (he : ∀ s : Int × zMem, P (.inr s) → z32 (s.1) → zV zmX1_leave nn 0 0 Z 108 [(0, zR 150), (1, zI x1), (2, zI x2), (3, zI (s.1))] [] (s.2) Q)   : zV zmX1_leave nn 0 0 Z 60 [(0, zR 150), (1, zI x1), (2, zI x2), (3, zI x3)] [] M Q := by
  unfold fX1_leave_j60 at h
  refine zV_aload_n 0 dX1_leave_60 rfl rfl ?_
  refine zV_getR (j := 155) (zq_150 hZ) zf_X1_4 zkf_X1_18 rfl dX1_leave_61 ?_
  refine zV_iload_n 1 dX1_leave_64 rfl rfl ?_
  obtain ⟨hg, h⟩ := zs_gd h
  refine zV_iald (zq_155 hZ) hg dX1_leave_65 (fun m4 => ?_)
  refine zV_iload_n 3 dX1_leave_66 rfl rfl ?_
  refine zV_ishr dX1_leave_67 ?_
  refine zV_iconst (v := 1) dX1_leave_68 rfl ?_
  refine zV_iand dX1_leave_69 ?_
  refine zV_if_eq 102 dX1_leave_70 (by decide) (z32_i _) (fun hc_ => ?_) (fun hc_ => ?_)
  · replace h := zs_t h hc_
    refine zV_iinc 3 [(3, zI (zw (x3 + 1))), (0, zR 150), (1, zI x1), (2, zI x2)] dX1_leave_102 rfl rfl (by decide) rfl ?_
    refine zV_goto 16 dX1_leave_105 (by decide) ?_
    refine zV_ls [1, 2, 3, 0] rfl ?_
    exact hc _ h (z32_w _)
  · replace h := zs_f h hc_
    refine zV_aload_n 0 dX1_leave_73 rfl rfl ?_
    refine zV_getR (j := 155) (zq_150 hZ) zf_X1_4 zkf_X1_18 rfl dX1_leave_74 ?_
    refine zV_iload_n 3 dX1_leave_77 rfl rfl ?_
    refine zV_aload_n 0 dX1_leave_78 rfl rfl ?_
    refine zV_getR (j := 155) (zq_150 hZ) zf_X1_4 zkf_X1_18 rfl dX1_leave_79 ?_
    refine zV_iload_n 3 dX1_leave_82 rfl rfl ?_
    obtain ⟨hg, h⟩ := zs_gd h
    refine zV_iald (zq_155 hZ) hg dX1_leave_83 (fun m5 => ?_)
    refine zV_aload_n 0 dX1_leave_84 rfl rfl ?_
    refine zV_getR (j := 155) (zq_150 hZ) zf_X1_4 zkf_X1_18 rfl dX1_leave_85 ?_
    refine zV_iload_n 1 dX1_leave_88 rfl rfl ?_
    obtain ⟨hg, h⟩ := zs_gd h
    refine zV_iald (zq_155 hZ) hg dX1_leave_89 (fun m6 => ?_)
    refine zV_ior dX1_leave_90 ?_
    refine zV_iload_n 2 dX1_leave_91 rfl rfl ?_
    refine zV_iconst (v := (-1)) dX1_leave_92 rfl ?_
    refine zV_ixor dX1_leave_93 ?_
    refine zV_iand dX1_leave_94 ?_
    refine zV_iconst (v := 1) dX1_leave_95 rfl ?_
    refine zV_iload_n 3 dX1_leave_96 rfl rfl ?_
    refine zV_ishl dX1_leave_97 ?_
    refine zV_iconst (v := (-1)) dX1_leave_98 rfl ?_
    refine zV_ixor dX1_leave_99 ?_
    refine zV_iand dX1_leave_100 ?_
    obtain ⟨hg, h⟩ := zs_gd h
    refine zV_iast (zq_155 hZ) (by decide) hg (z32_i _) dX1_leave_101 ?_
    refine zV_iinc 3 [(3, zI (zw (x3 + 1))), (0, zR 150), (1, zI x1), (2, zI x2)] dX1_leave_102 rfl rfl (by decide) rfl ?_
    refine zV_goto 16 dX1_leave_105 (by decide) ?_
    refine zV_ls [1, 2, 3, 0] rfl ?_
    exact hc _ h (z32_w _)
noncomputable def fX1_leave_l16 (x1 x2 x3 : Int) (M : zMem) : Option ((Int × zMem) ⊕ (Int × zMem)) :=
  (if (M 150 3) ≤ x3 then some (.inr (x3, M)) else (if (zand (zshr (M 150 11) x3) 1) = 0 then fX1_leave_j60 x1 x2 x3 M else (zgd ((0 : Int) ≤ x3 ∧ x3 < 8) (if (zand (M 156 x3) x2) = 0 then fX1_leave_j60 x1 x2 x3 M else fX1_leave_j60 x1 x2 x3 (zup M 150 11 (zand (M 150 11) (zxor (zshl 1 x3) (-1))))))))
set_option maxRecDepth 100000 in
set_option maxHeartbeats 4000000 in
theorem fX1_leave_l16_ok {Z : zZ} (hZ : zB Z) {nn : Nat} (hn : 0 ≤ nn)  {x1 x2 x3 : Int} (hx1 : z32 x1) (hx2 : z32 x2) (hx3 : z32 x3) {M : zMem} {Q : Option zAV → zMem → zZ → Prop} {P : (Int × zMem) ⊕ (Int × zMem) → Prop} (h : zSat (fX1_leave_l16 x1 x2 x3 M) P)  (hc : ∀ s : Int × zMem, P (.inl s) → z32 (s.1) → zV zmX1_leave nn 0 0 Z 16 [(0, zR 150), (1, zI x1), (2, zI x2), (3, zI (s.1))] [] (s.2) Q) (he : ∀ s : Int × zMem, P (.inr s) → z32 (s.1) → zV zmX1_leave nn 0 0 Z 108 [(0, zR 150), (1, zI x1), (2, zI x2), (3, zI (s.1))] [] (s.2) Q)   : zV zmX1_leave nn 0 0 Z 16 [(0, zR 150), (1, zI x1), (2, zI x2), (3, zI x3)] [] M Q := by
  unfold fX1_leave_l16 at h
  refine zV_iload_n 3 dX1_leave_16 rfl rfl ?_
  refine zV_aload_n 0 dX1_leave_17 rfl rfl ?_
  refine zV_getI (zq_150 hZ) zf_X1_3 zkf_X1_66 rfl dX1_leave_18 (fun m2 => ?_)
  refine zV_icmp_ge 108 dX1_leave_21 (by decide) hx3 m2 (fun hc_ => ?_) (fun hc_ => ?_)
  · replace h := zs_t h hc_
    exact he _ h hx3
  · replace h := zs_f h hc_
    refine zV_aload_n 0 dX1_leave_24 rfl rfl ?_
    refine zV_getI (zq_150 hZ) zf_X1_11 zkf_X1_105 rfl dX1_leave_25 (fun m3 => ?_)
    refine zV_iload_n 3 dX1_leave_28 rfl rfl ?_
    refine zV_ishr dX1_leave_29 ?_
    refine zV_iconst (v := 1) dX1_leave_30 rfl ?_
    refine zV_iand dX1_leave_31 ?_
    refine zV_if_eq 60 dX1_leave_32 (by decide) (z32_i _) (fun hc_ => ?_) (fun hc_ => ?_)
    · replace h := zs_t h hc_
      exact fX1_leave_j60_ok hZ hn hx1 hx2 hx3 h hc he
    · replace h := zs_f h hc_
      refine zV_aload_n 0 dX1_leave_35 rfl rfl ?_
      refine zV_getR (j := 156) (zq_150 hZ) zf_X1_5 zkf_X1_21 rfl dX1_leave_36 ?_
      refine zV_iload_n 3 dX1_leave_39 rfl rfl ?_
      obtain ⟨hg, h⟩ := zs_gd h
      refine zV_iald (zq_156 hZ) hg dX1_leave_40 (fun m7 => ?_)
      refine zV_iload_n 2 dX1_leave_41 rfl rfl ?_
      refine zV_iand dX1_leave_42 ?_
      refine zV_if_eq 60 dX1_leave_43 (by decide) (z32_i _) (fun hc_ => ?_) (fun hc_ => ?_)
      · replace h := zs_t h hc_
        exact fX1_leave_j60_ok hZ hn hx1 hx2 hx3 h hc he
      · replace h := zs_f h hc_
        refine zV_aload_n 0 dX1_leave_46 rfl rfl ?_
        refine zV_dup dX1_leave_47 rfl ?_
        refine zV_getI (zq_150 hZ) zf_X1_11 zkf_X1_105 rfl dX1_leave_48 (fun m8 => ?_)
        refine zV_iconst (v := 1) dX1_leave_51 rfl ?_
        refine zV_iload_n 3 dX1_leave_52 rfl rfl ?_
        refine zV_ishl dX1_leave_53 ?_
        refine zV_iconst (v := (-1)) dX1_leave_54 rfl ?_
        refine zV_ixor dX1_leave_55 ?_
        refine zV_iand dX1_leave_56 ?_
        refine zV_putI (zq_150 hZ) (by decide) zf_X1_11 zkf_X1_105 rfl dX1_leave_57 (z32_i _) ?_
        exact fX1_leave_j60_ok hZ hn hx1 hx2 hx3 h hc he
noncomputable def fX1_leave_j127 (s0 s1 : Int) (M : zMem) : Option (zMem) :=
  some (zup M 150 11 (zor s1 s0))
set_option maxRecDepth 100000 in
set_option maxHeartbeats 4000000 in
theorem fX1_leave_j127_ok {Z : zZ} (hZ : zB Z) {nn : Nat} (hn : 0 ≤ nn)  {s0 s1 : Int} (hs0 : z32 s0) (hs1 : z32 s1) {M : zMem} {Q : Option zAV → zMem → zZ → Prop} (h : zSat (fX1_leave_j127 s0 s1 M) (fun r => Q none r Z))  : zV zmX1_leave nn 0 0 Z 127 [] [zI s0, zI s1, zR 150] M Q := by
  unfold fX1_leave_j127 at h
  refine zV_ior dX1_leave_127 ?_
  refine zV_putI (zq_150 hZ) (by decide) zf_X1_11 zkf_X1_105 rfl dX1_leave_128 (z32_i _) ?_
  exact zV_vret dX1_leave_131 rfl h
noncomputable def fX1_leave (x1 : Int) (M : zMem) : Option (zMem) :=
  (zbd (zit (fun s9 => fX1_leave_l16 x1 (zshl 1 x1) (s9.1) (s9.2)) (0, (zup M 150 10 (zor (M 150 10) (zshl 1 x1))))) fun s15 => (zgd ((0 : Int) ≤ x1 ∧ x1 < 8) (if ((s15.2) 156 x1) = 0 then fX1_leave_j127 0 ((s15.2) 150 11) (s15.2) else fX1_leave_j127 (zshl 1 x1) ((s15.2) 150 11) (s15.2))))
set_option maxRecDepth 100000 in
set_option maxHeartbeats 4000000 in
theorem fX1_leave_ok {Z : zZ} (hZ : zB Z) {nn : Nat} (hn : 0 ≤ nn)  {x1 : Int} (hx1 : z32 x1) {M : zMem} {Q : Option zAV → zMem → zZ → Prop} (h : zSat (fX1_leave x1 M) (fun r => Q none r Z))  : zV zmX1_leave nn 0 0 Z 0 [(0, zR 150), (1, zI x1)] [] M Q := by
  unfold fX1_leave at h
  refine zV_iconst (v := 1) dX1_leave_0 rfl ?_
  refine zV_iload_n 1 dX1_leave_1 rfl rfl ?_
  refine zV_ishl dX1_leave_2 ?_
  refine zV_istore_n [(2, zI (zshl 1 x1)), (0, zR 150), (1, zI x1)] dX1_leave_3 rfl (by decide) rfl ?_
  refine zV_aload_n 1 dX1_leave_4 rfl rfl ?_
  refine zV_dup dX1_leave_5 rfl ?_
  refine zV_getI (zq_150 hZ) zf_X1_10 zkf_X1_102 rfl dX1_leave_6 (fun m1 => ?_)
  refine zV_iload_n 0 dX1_leave_9 rfl rfl ?_
  refine zV_ior dX1_leave_10 ?_
  refine zV_putI (zq_150 hZ) (by decide) zf_X1_10 zkf_X1_102 rfl dX1_leave_11 (z32_i _) ?_
  refine zV_iconst (v := 0) dX1_leave_14 rfl ?_
  refine zV_istore_n [(3, zI 0), (2, zI (zshl 1 x1)), (0, zR 150), (1, zI x1)] dX1_leave_15 rfl (by decide) rfl ?_
  refine zV_ls [2, 3, 1, 0] rfl ?_
  refine (zV_loop (Vh := fun s9 : Int × zMem => z32 (s9.1) → zV zmX1_leave nn 0 0 Z 16 [(0, zR 150), (1, zI x1), (2, zI (zshl 1 x1)), (3, zI (s9.1))] [] (s9.2) Q) h (fun s9 P10 hP11 hc12 he13 => ?_)) zi_0
  intro c14
  refine fX1_leave_l16_ok hZ hn hx1 (z32_i _) c14 hP11 hc12 (fun s15 h16 d17 => ?_)
  have h := he13 _ h16
  refine zV_aload_n 0 dX1_leave_108 rfl rfl ?_
  refine zV_dup dX1_leave_109 rfl ?_
  refine zV_getI (zq_150 hZ) zf_X1_11 zkf_X1_105 rfl dX1_leave_110 (fun m18 => ?_)
  refine zV_aload_n 0 dX1_leave_113 rfl rfl ?_
  refine zV_getR (j := 156) (zq_150 hZ) zf_X1_5 zkf_X1_21 rfl dX1_leave_114 ?_
  refine zV_iload_n 1 dX1_leave_117 rfl rfl ?_
  obtain ⟨hg, h⟩ := zs_gd h
  refine zV_iald (zq_156 hZ) hg dX1_leave_118 (fun m19 => ?_)
  refine zV_if_ne 126 dX1_leave_119 (by decide) m19 (fun hc_ => ?_) (fun hc_ => ?_)
  · replace h := zs_f h hc_
    refine zV_iload_n 2 dX1_leave_126 rfl rfl ?_
    refine zV_ls [] rfl ?_
    exact fX1_leave_j127_ok hZ hn (z32_i _) m18 h
  · replace h := zs_t h hc_
    refine zV_iconst (v := 0) dX1_leave_122 rfl ?_
    refine zV_goto 127 dX1_leave_123 (by decide) ?_
    refine zV_ls [] rfl ?_
    exact fX1_leave_j127_ok hZ hn zi_0 m18 h
noncomputable def fX1_takeOut_j18 (M : zMem) : Option (zMem) :=
  some (zup M 150 12 1000000000000000)
set_option maxRecDepth 100000 in
set_option maxHeartbeats 4000000 in
theorem fX1_takeOut_j18_ok {Z : zZ} (hZ : zB Z) {nn : Nat} (hn : 4 ≤ nn)   {M : zMem} {Q : Option zAV → zMem → zZ → Prop} (h : zSat (fX1_takeOut_j18 M) (fun r => Q none r Z))  : zV zmX1_takeOut nn 0 0 Z 18 [(0, zR 150)] [] M Q := by
  unfold fX1_takeOut_j18 at h
  refine zV_aload_n 0 dX1_takeOut_18 rfl rfl ?_
  refine zV_ldc2 (v := 1000000000000000) zkl_X1_45 rfl dX1_takeOut_19 ?_
  refine zV_putL (zq_150 hZ) (by decide) zf_X1_12 zkf_X1_41 rfl dX1_takeOut_22 zj_1000000000000000 ?_
  exact zV_vret dX1_takeOut_25 rfl h
noncomputable def fX1_takeOut_l61 (x1 x2 x3 : Int) (M : zMem) : Option ((Int × zMem) ⊕ (Int × zMem)) :=
  (if x2 ≤ x3 then some (.inr (x3, M)) else (if 743 ≤ (M 150 8) then some (.inr (x3, M)) else (zgd ((0 : Int) ≤ x1 ∧ x1 < 8) (zbd (fX1_spread (M 156 x1) x3 M) fun M18 => (zbd2 (fX1_bestStep x1 M18) fun r20 M23 => (zgd ((0 : Int) ≤ (M18 150 8) ∧ (M18 150 8) < 743) (some (.inl ((zw (x3 + 1)), (zup (zup M23 157 (M18 150 8) r20) 150 8 (zw (((zup M23 157 (M18 150 8) r20) 150 8) + 1))))))))))))
set_option maxRecDepth 100000 in
set_option maxHeartbeats 4000000 in
theorem fX1_takeOut_l61_ok {Z : zZ} (hZ : zB Z) {nn : Nat} (hn : 4 ≤ nn)  {x1 x2 x3 : Int} (hx1 : z32 x1) (hx2 : z32 x2) (hx3 : z32 x3) {M : zMem} {Q : Option zAV → zMem → zZ → Prop} {P : (Int × zMem) ⊕ (Int × zMem) → Prop} (h : zSat (fX1_takeOut_l61 x1 x2 x3 M) P)  (hc : ∀ s : Int × zMem, P (.inl s) → z32 (s.1) → zV zmX1_takeOut nn 0 0 Z 61 [(0, zR 150), (1, zI x1), (2, zI x2), (3, zI (s.1))] [] (s.2) Q) (he : ∀ s : Int × zMem, P (.inr s) → z32 (s.1) → zV zmX1_takeOut nn 0 0 Z 117 [(0, zR 150), (1, zI x1), (2, zI x2), (3, zI (s.1))] [] (s.2) Q)   : zV zmX1_takeOut nn 0 0 Z 61 [(0, zR 150), (1, zI x1), (2, zI x2), (3, zI x3)] [] M Q := by
  unfold fX1_takeOut_l61 at h
  refine zV_iload_n 3 dX1_takeOut_61 rfl rfl ?_
  refine zV_iload_n 2 dX1_takeOut_62 rfl rfl ?_
  refine zV_icmp_ge 117 dX1_takeOut_63 (by decide) hx3 hx2 (fun hc_ => ?_) (fun hc_ => ?_)
  · replace h := zs_t h hc_
    exact he _ h hx3
  · replace h := zs_f h hc_
    refine zV_aload_n 0 dX1_takeOut_66 rfl rfl ?_
    refine zV_getI (zq_150 hZ) zf_X1_8 zkf_X1_108 rfl dX1_takeOut_67 (fun m13 => ?_)
    refine zV_sipush (v := 743) dX1_takeOut_70 rfl ?_
    refine zV_icmp_ge 117 dX1_takeOut_73 (by decide) m13 zi_743 (fun hc_ => ?_) (fun hc_ => ?_)
    · replace h := zs_t h hc_
      exact he _ h hx3
    · replace h := zs_f h hc_
      refine zV_aload_n 0 dX1_takeOut_76 rfl rfl ?_
      refine zV_aload_n 0 dX1_takeOut_77 rfl rfl ?_
      refine zV_getR (j := 156) (zq_150 hZ) zf_X1_5 zkf_X1_21 rfl dX1_takeOut_78 ?_
      refine zV_iload_n 1 dX1_takeOut_81 rfl rfl ?_
      obtain ⟨hg, h⟩ := zs_gd h
      refine zV_iald (zq_156 hZ) hg dX1_takeOut_82 (fun m14 => ?_)
      refine zV_iload_n 3 dX1_takeOut_83 rfl rfl ?_
      refine zV_cVV (y' := zmX1_spread) (n' := 0) (As := [zI (M 156 x1), zI x3]) zc_X1_120 (zq_150 hZ) rfl dX1_takeOut_84 (Nat.le_trans (by decide) hn) rfl (Nat.le_of_ble_eq_true rfl) (Nat.le_of_ble_eq_true rfl) rfl h (fun Q' h' => fX1_spread_ok hZ (Nat.le_refl _) m14 hx3 h') (fun M18 h => ?_)
      refine zV_aload_n 0 dX1_takeOut_87 rfl rfl ?_
      refine zV_getR (j := 157) (zq_150 hZ) zf_X1_6 zkf_X1_24 rfl dX1_takeOut_88 ?_
      refine zV_aload_n 0 dX1_takeOut_91 rfl rfl ?_
      refine zV_getI (zq_150 hZ) zf_X1_8 zkf_X1_108 rfl dX1_takeOut_92 (fun m19 => ?_)
      refine zV_aload_n 0 dX1_takeOut_95 rfl rfl ?_
      refine zV_iload_n 1 dX1_takeOut_96 rfl rfl ?_
      refine zV_cVLm (y' := zmX1_bestStep) (n' := 3) (As := [zI x1]) zc_X1_124 (zq_150 hZ) rfl dX1_takeOut_97 (Nat.le_trans (by decide) hn) rfl (Nat.le_of_ble_eq_true rfl) (Nat.le_of_ble_eq_true rfl) rfl rfl h (fun Q' h' => fX1_bestStep_ok hZ (Nat.le_refl _) hx1 h') (fun r20 M23 c21 b22 h => ?_)
      obtain ⟨hg, h⟩ := zs_gd h
      refine zV_last (zq_157 hZ) (by decide) hg c21 dX1_takeOut_100 ?_
      refine zV_aload_n 0 dX1_takeOut_101 rfl rfl ?_
      refine zV_dup dX1_takeOut_102 rfl ?_
      refine zV_getI (zq_150 hZ) zf_X1_8 zkf_X1_108 rfl dX1_takeOut_103 (fun m24 => ?_)
      refine zV_iconst (v := 1) dX1_takeOut_106 rfl ?_
      refine zV_iadd dX1_takeOut_107 ?_
      refine zV_w ?_
      refine zV_putI (zq_150 hZ) (by decide) zf_X1_8 zkf_X1_108 rfl dX1_takeOut_108 (z32_w _) ?_
      refine zV_iinc 3 [(3, zI (zw (x3 + 1))), (0, zR 150), (1, zI x1), (2, zI x2)] dX1_takeOut_111 rfl rfl (by decide) rfl ?_
      refine zV_goto 61 dX1_takeOut_114 (by decide) ?_
      refine zV_ls [1, 2, 3, 0] rfl ?_
      exact hc _ h (z32_w _)
noncomputable def fX1_takeOut_j117 (x1 : Int) (M : zMem) : Option (zMem) :=
  (zbd (fX1_leave x1 M) fun M37 => (zgd ((0 : Int) ≤ x1 ∧ x1 < 8) (if (M37 156 x1) = 0 then (zgd ((0 : Int) ≤ x1 ∧ x1 < 8) (zgd ((0 : Int) ≤ (M37 158 x1) ∧ (M37 158 x1) < 743) (some (zup M37 150 12 (min 1000000000000000 (zwl ((M37 150 12) + (M37 157 (M37 158 x1))))))))) else some M37)))
set_option maxRecDepth 100000 in
set_option maxHeartbeats 4000000 in
theorem fX1_takeOut_j117_ok {Z : zZ} (hZ : zB Z) {nn : Nat} (hn : 4 ≤ nn)  {x1 : Int} (hx1 : z32 x1) {M : zMem} {Q : Option zAV → zMem → zZ → Prop} (h : zSat (fX1_takeOut_j117 x1 M) (fun r => Q none r Z))  : zV zmX1_takeOut nn 0 0 Z 117 [(0, zR 150), (1, zI x1)] [] M Q := by
  unfold fX1_takeOut_j117 at h
  refine zV_aload_n 0 dX1_takeOut_117 rfl rfl ?_
  refine zV_iload_n 1 dX1_takeOut_118 rfl rfl ?_
  refine zV_cVV (y' := zmX1_leave) (n' := 0) (As := [zI x1]) zc_X1_127 (zq_150 hZ) rfl dX1_takeOut_119 (Nat.le_trans (by decide) hn) rfl (Nat.le_of_ble_eq_true rfl) (Nat.le_of_ble_eq_true rfl) rfl h (fun Q' h' => fX1_leave_ok hZ (Nat.le_refl _) hx1 h') (fun M37 h => ?_)
  refine zV_aload_n 0 dX1_takeOut_122 rfl rfl ?_
  refine zV_getR (j := 156) (zq_150 hZ) zf_X1_5 zkf_X1_21 rfl dX1_takeOut_123 ?_
  refine zV_iload_n 1 dX1_takeOut_126 rfl rfl ?_
  obtain ⟨hg, h⟩ := zs_gd h
  refine zV_iald (zq_156 hZ) hg dX1_takeOut_127 (fun m38 => ?_)
  refine zV_if_ne 157 dX1_takeOut_128 (by decide) m38 (fun hc_ => ?_) (fun hc_ => ?_)
  · replace h := zs_f h hc_
    exact zV_vret dX1_takeOut_157 rfl h
  · replace h := zs_t h hc_
    refine zV_aload_n 0 dX1_takeOut_131 rfl rfl ?_
    refine zV_ldc2 (v := 1000000000000000) zkl_X1_45 rfl dX1_takeOut_132 ?_
    refine zV_aload_n 0 dX1_takeOut_135 rfl rfl ?_
    refine zV_getL (zq_150 hZ) zf_X1_12 zkf_X1_41 rfl dX1_takeOut_136 (fun m39 => ?_)
    refine zV_aload_n 0 dX1_takeOut_139 rfl rfl ?_
    refine zV_getR (j := 157) (zq_150 hZ) zf_X1_6 zkf_X1_24 rfl dX1_takeOut_140 ?_
    refine zV_aload_n 0 dX1_takeOut_143 rfl rfl ?_
    refine zV_getR (j := 158) (zq_150 hZ) zf_X1_7 zkf_X1_28 rfl dX1_takeOut_144 ?_
    refine zV_iload_n 1 dX1_takeOut_147 rfl rfl ?_
    obtain ⟨hg, h⟩ := zs_gd h
    refine zV_iald (zq_158 hZ) hg dX1_takeOut_148 (fun m40 => ?_)
    obtain ⟨hg, h⟩ := zs_gd h
    refine zV_lald (zq_157 hZ) hg dX1_takeOut_149 (fun m41 => ?_)
    refine zV_ladd dX1_takeOut_150 ?_
    refine zV_wl ?_
    refine zV_mminl zml_X1_130 dX1_takeOut_151 (Nat.le_trans (by decide) hn) (Nat.le_of_ble_eq_true rfl) zj_1000000000000000 (z64_w _) ?_
    refine zV_putL (zq_150 hZ) (by decide) zf_X1_12 zkf_X1_41 rfl dX1_takeOut_154 (z64_min zj_1000000000000000 (z64_w _)) ?_
    exact zV_vret dX1_takeOut_157 rfl h
noncomputable def fX1_takeOut (x1 : Int) (M : zMem) : Option (zMem) :=
  (if x1 = (-1) then fX1_takeOut_j18  M else (zgd ((0 : Int) ≤ x1 ∧ x1 < 8) (zbd (fJ6_bitCount_0f7a4 (M 155 x1) M) fun r2 => (if r2 ≤ 3 then (zgd ((0 : Int) ≤ x1 ∧ x1 < 8) (zgd ((0 : Int) ≤ x1 ∧ x1 < 8) (zgd ((0 : Int) ≤ x1 ∧ x1 < 8) (zgd ((0 : Int) ≤ x1 ∧ x1 < 8) (zbd (fX1_waysOf ((zup (zup M 156 x1 (M 155 x1)) 158 x1 ((zup M 156 x1 (M 155 x1)) 150 8)) 156 x1) (zup (zup M 156 x1 (M 155 x1)) 158 x1 ((zup M 156 x1 (M 155 x1)) 150 8))) fun r9 => (zbd (zit (fun s25 => fX1_takeOut_l61 x1 r9 (s25.1) (s25.2)) (0, (zup (zup M 156 x1 (M 155 x1)) 158 x1 ((zup M 156 x1 (M 155 x1)) 150 8)))) fun s31 => fX1_takeOut_j117 x1 (s31.2))))))) else fX1_takeOut_j18  M))))
set_option maxRecDepth 100000 in
set_option maxHeartbeats 4000000 in
theorem fX1_takeOut_ok {Z : zZ} (hZ : zB Z) {nn : Nat} (hn : 4 ≤ nn)  {x1 : Int} (hx1 : z32 x1) {M : zMem} {Q : Option zAV → zMem → zZ → Prop} (h : zSat (fX1_takeOut x1 M) (fun r => Q none r Z))  : zV zmX1_takeOut nn 0 0 Z 0 [(0, zR 150), (1, zI x1)] [] M Q := by
  unfold fX1_takeOut at h
  refine zV_iload_n 1 dX1_takeOut_0 rfl rfl ?_
  refine zV_iconst (v := (-1)) dX1_takeOut_1 rfl ?_
  refine zV_icmp_eq 18 dX1_takeOut_2 (by decide) hx1 zi_n1 (fun hc_ => ?_) (fun hc_ => ?_)
  · replace h := zs_t h hc_
    refine zV_ls [0] rfl ?_
    exact fX1_takeOut_j18_ok hZ hn  h
  · replace h := zs_f h hc_
    refine zV_aload_n 0 dX1_takeOut_5 rfl rfl ?_
    refine zV_getR (j := 155) (zq_150 hZ) zf_X1_4 zkf_X1_18 rfl dX1_takeOut_6 ?_
    refine zV_iload_n 1 dX1_takeOut_9 rfl rfl ?_
    obtain ⟨hg, h⟩ := zs_gd h
    refine zV_iald (zq_155 hZ) hg dX1_takeOut_10 (fun m1 => ?_)
    refine zV_cSI (y' := zmJ6_bitCount_0f7a4) (n' := 0) (As := [zI (M 155 x1)]) zc_X1_111 dX1_takeOut_11 (Nat.le_trans (by decide) hn) rfl (Nat.le_of_ble_eq_true rfl) (Nat.le_of_ble_eq_true rfl) rfl h (fun Q' h' => fJ6_bitCount_0f7a4_ok hZ (Nat.le_refl _) m1 h') (fun r2 c3 b4 h => ?_)
    refine zV_iconst (v := 3) dX1_takeOut_14 rfl ?_
    refine zV_icmp_le 26 dX1_takeOut_15 (by decide) c3 zi_3 (fun hc_ => ?_) (fun hc_ => ?_)
    · replace h := zs_t h hc_
      refine zV_aload_n 0 dX1_takeOut_26 rfl rfl ?_
      refine zV_getR (j := 156) (zq_150 hZ) zf_X1_5 zkf_X1_21 rfl dX1_takeOut_27 ?_
      refine zV_iload_n 1 dX1_takeOut_30 rfl rfl ?_
      refine zV_aload_n 0 dX1_takeOut_31 rfl rfl ?_
      refine zV_getR (j := 155) (zq_150 hZ) zf_X1_4 zkf_X1_18 rfl dX1_takeOut_32 ?_
      refine zV_iload_n 1 dX1_takeOut_35 rfl rfl ?_
      obtain ⟨hg, h⟩ := zs_gd h
      refine zV_iald (zq_155 hZ) hg dX1_takeOut_36 (fun m6 => ?_)
      obtain ⟨hg, h⟩ := zs_gd h
      refine zV_iast (zq_156 hZ) (by decide) hg m6 dX1_takeOut_37 ?_
      refine zV_aload_n 0 dX1_takeOut_38 rfl rfl ?_
      refine zV_getR (j := 158) (zq_150 hZ) zf_X1_7 zkf_X1_28 rfl dX1_takeOut_39 ?_
      refine zV_iload_n 1 dX1_takeOut_42 rfl rfl ?_
      refine zV_aload_n 0 dX1_takeOut_43 rfl rfl ?_
      refine zV_getI (zq_150 hZ) zf_X1_8 zkf_X1_108 rfl dX1_takeOut_44 (fun m7 => ?_)
      obtain ⟨hg, h⟩ := zs_gd h
      refine zV_iast (zq_158 hZ) (by decide) hg m7 dX1_takeOut_47 ?_
      refine zV_aload_n 0 dX1_takeOut_48 rfl rfl ?_
      refine zV_aload_n 0 dX1_takeOut_49 rfl rfl ?_
      refine zV_getR (j := 156) (zq_150 hZ) zf_X1_5 zkf_X1_21 rfl dX1_takeOut_50 ?_
      refine zV_iload_n 1 dX1_takeOut_53 rfl rfl ?_
      obtain ⟨hg, h⟩ := zs_gd h
      refine zV_iald (zq_156 hZ) hg dX1_takeOut_54 (fun m8 => ?_)
      refine zV_cVI (y' := zmX1_waysOf) (n' := 1) (As := [zI ((zup (zup M 156 x1 (M 155 x1)) 158 x1 ((zup M 156 x1 (M 155 x1)) 150 8)) 156 x1)]) zc_X1_117 (zq_150 hZ) rfl dX1_takeOut_55 (Nat.le_trans (by decide) hn) rfl (Nat.le_of_ble_eq_true rfl) (Nat.le_of_ble_eq_true rfl) rfl h (fun Q' h' => fX1_waysOf_ok hZ (Nat.le_refl _) m8 h') (fun r9 c10 b11 h => ?_)
      refine zV_istore_n [(2, zI r9), (0, zR 150), (1, zI x1)] dX1_takeOut_58 rfl (by decide) rfl ?_
      refine zV_iconst (v := 0) dX1_takeOut_59 rfl ?_
      refine zV_istore_n [(3, zI 0), (2, zI r9), (0, zR 150), (1, zI x1)] dX1_takeOut_60 rfl (by decide) rfl ?_
      refine zV_ls [2, 3, 1, 0] rfl ?_
      refine (zV_loop (Vh := fun s25 : Int × zMem => z32 (s25.1) → zV zmX1_takeOut nn 0 0 Z 61 [(0, zR 150), (1, zI x1), (2, zI r9), (3, zI (s25.1))] [] (s25.2) Q) h (fun s25 P26 hP27 hc28 he29 => ?_)) zi_0
      intro c30
      refine fX1_takeOut_l61_ok hZ hn hx1 c10 c30 hP27 hc28 (fun s31 h32 d33 => ?_)
      have h := he29 _ h32
      refine zV_ls [0, 1] rfl ?_
      exact fX1_takeOut_j117_ok hZ hn hx1 h
    · replace h := zs_f h hc_
      refine zV_ls [0] rfl ?_
      exact fX1_takeOut_j18_ok hZ hn  h
noncomputable def fX1_learn_l38 (x1 : Int) (M : zMem) : Option ((Int × zMem) ⊕ (Int × zMem)) :=
  (if (M 150 3) ≤ x1 then some (.inr (x1, M)) else (zbd (fX1_nextNode M) fun r11 => (zbd (fX1_takeOut r11 M) fun M18 => some (.inl ((zw (x1 + 1)), M18)))))
set_option maxRecDepth 100000 in
set_option maxHeartbeats 4000000 in
theorem fX1_learn_l38_ok {Z : zZ} (hZ : zB Z) {nn : Nat} (hn : 5 ≤ nn)  {x1 : Int} (hx1 : z32 x1) {M : zMem} {Q : Option zAV → zMem → zZ → Prop} {P : (Int × zMem) ⊕ (Int × zMem) → Prop} (h : zSat (fX1_learn_l38 x1 M) P)  (hc : ∀ s : Int × zMem, P (.inl s) → z32 (s.1) → zV zmX1_learn nn 0 0 Z 38 [(0, zR 150), (1, zI (s.1))] [] (s.2) Q) (he : ∀ s : Int × zMem, P (.inr s) → z32 (s.1) → zV zmX1_learn nn 0 0 Z 60 [(0, zR 150), (1, zI (s.1))] [] (s.2) Q)   : zV zmX1_learn nn 0 0 Z 38 [(0, zR 150), (1, zI x1)] [] M Q := by
  unfold fX1_learn_l38 at h
  refine zV_iload_n 1 dX1_learn_38 rfl rfl ?_
  refine zV_aload_n 0 dX1_learn_39 rfl rfl ?_
  refine zV_getI (zq_150 hZ) zf_X1_3 zkf_X1_66 rfl dX1_learn_40 (fun m10 => ?_)
  refine zV_icmp_ge 60 dX1_learn_43 (by decide) hx1 m10 (fun hc_ => ?_) (fun hc_ => ?_)
  · replace h := zs_t h hc_
    exact he _ h hx1
  · replace h := zs_f h hc_
    refine zV_aload_n 0 dX1_learn_46 rfl rfl ?_
    refine zV_aload_n 0 dX1_learn_47 rfl rfl ?_
    refine zV_cVI (y' := zmX1_nextNode) (n' := 1) (As := []) zc_X1_70 (zq_150 hZ) rfl dX1_learn_48 (Nat.le_trans (by decide) hn) rfl (Nat.le_of_ble_eq_true rfl) (Nat.le_of_ble_eq_true rfl) rfl h (fun Q' h' => fX1_nextNode_ok hZ (Nat.le_refl _)  h') (fun r11 c12 b13 h => ?_)
    refine zV_cVV (y' := zmX1_takeOut) (n' := 4) (As := [zI r11]) zc_X1_74 (zq_150 hZ) rfl dX1_learn_51 (Nat.le_trans (by decide) hn) rfl (Nat.le_of_ble_eq_true rfl) (Nat.le_of_ble_eq_true rfl) rfl h (fun Q' h' => fX1_takeOut_ok hZ (Nat.le_refl _) c12 h') (fun M18 h => ?_)
    refine zV_iinc 1 [(1, zI (zw (x1 + 1))), (0, zR 150)] dX1_learn_54 rfl rfl (by decide) rfl ?_
    refine zV_goto 38 dX1_learn_57 (by decide) ?_
    refine zV_ls [1, 0] rfl ?_
    exact hc _ h (z32_w _)
noncomputable def fX1_learn (M : zMem) : Option (zMem) :=
  (if (M 150 13) = 0 then (zbd2 (fX1_listNodes (zup (zup M 150 13 1) 150 12 1000000000000000)) fun r2 M5 => (if r2 = 0 then some M5 else (zbd (fX1_listNeighbours M5) fun M9 => (zbd (zit (fun s19 => fX1_learn_l38 (s19.1) (s19.2)) (0, (zup M9 150 12 0))) fun s25 => some (s25.2))))) else some M)
set_option maxRecDepth 100000 in
set_option maxHeartbeats 4000000 in
theorem fX1_learn_ok {Z : zZ} (hZ : zB Z) {nn : Nat} (hn : 5 ≤ nn)   {M : zMem} {Q : Option zAV → zMem → zZ → Prop} (h : zSat (fX1_learn M) (fun r => Q none r Z))  : zV zmX1_learn nn 0 0 Z 0 [(0, zR 150)] [] M Q := by
  unfold fX1_learn at h
  refine zV_aload_n 0 dX1_learn_0 rfl rfl ?_
  refine zV_getI (zq_150 hZ) zf_X1_13 zkf_X1_55 rfl dX1_learn_1 (fun m1 => ?_)
  refine zV_if_eq 8 dX1_learn_4 (by decide) m1 (fun hc_ => ?_) (fun hc_ => ?_)
  · replace h := zs_t h hc_
    refine zV_aload_n 0 dX1_learn_8 rfl rfl ?_
    refine zV_iconst (v := 1) dX1_learn_9 rfl ?_
    refine zV_putB (zq_150 hZ) (by decide) zf_X1_13 zkf_X1_55 rfl dX1_learn_10 (Or.inr rfl) ?_
    refine zV_aload_n 0 dX1_learn_13 rfl rfl ?_
    refine zV_ldc2 (v := 1000000000000000) zkl_X1_45 rfl dX1_learn_14 ?_
    refine zV_putL (zq_150 hZ) (by decide) zf_X1_12 zkf_X1_41 rfl dX1_learn_17 zj_1000000000000000 ?_
    refine zV_aload_n 0 dX1_learn_20 rfl rfl ?_
    refine zV_cVIm (y' := zmX1_listNodes) (n' := 1) (As := []) zc_X1_59 (zq_150 hZ) rfl dX1_learn_21 (Nat.le_trans (by decide) hn) rfl (Nat.le_of_ble_eq_true rfl) (Nat.le_of_ble_eq_true rfl) rfl h (fun Q' h' => fX1_listNodes_ok hZ (Nat.le_refl _)  h') (fun r2 M5 c3 b4 h => ?_)
    refine zV_if_eq 60 dX1_learn_24 (by decide) c3 (fun hc_ => ?_) (fun hc_ => ?_)
    · replace h := zs_t h hc_
      exact zV_vret dX1_learn_60 rfl h
    · replace h := zs_f h hc_
      refine zV_aload_n 0 dX1_learn_27 rfl rfl ?_
      refine zV_cVV (y' := zmX1_listNeighbours) (n' := 1) (As := []) zc_X1_63 (zq_150 hZ) rfl dX1_learn_28 (Nat.le_trans (by decide) hn) rfl (Nat.le_of_ble_eq_true rfl) (Nat.le_of_ble_eq_true rfl) rfl h (fun Q' h' => fX1_listNeighbours_ok hZ (Nat.le_refl _)  h') (fun M9 h => ?_)
      refine zV_aload_n 0 dX1_learn_31 rfl rfl ?_
      refine zV_lconst (v := 0) dX1_learn_32 rfl ?_
      refine zV_putL (zq_150 hZ) (by decide) zf_X1_12 zkf_X1_41 rfl dX1_learn_33 zj_0 ?_
      refine zV_iconst (v := 0) dX1_learn_36 rfl ?_
      refine zV_istore_n [(1, zI 0), (0, zR 150)] dX1_learn_37 rfl (by decide) rfl ?_
      refine zV_ls [1, 0] rfl ?_
      refine (zV_loop (Vh := fun s19 : Int × zMem => z32 (s19.1) → zV zmX1_learn nn 0 0 Z 38 [(0, zR 150), (1, zI (s19.1))] [] (s19.2) Q) h (fun s19 P20 hP21 hc22 he23 => ?_)) zi_0
      intro c24
      refine fX1_learn_l38_ok hZ hn c24 hP21 hc22 (fun s25 h26 d27 => ?_)
      have h := he23 _ h26
      exact zV_vret dX1_learn_60 rfl h
  · replace h := zs_f h hc_
    exact zV_vret dX1_learn_7 rfl h
noncomputable def fX1_leastGlass (M : zMem) : Option (Int × zMem) :=
  (zbd (fX1_learn M) fun M4 => (if (M4 150 12) < 1000000000000000 then (zgd (¬ 5764801 = (0 : Int)) (some ((zw (zldiv (M4 150 12) 5764801)), M4))) else some ((-1), M4)))
set_option maxRecDepth 100000 in
set_option maxHeartbeats 4000000 in
theorem fX1_leastGlass_ok {Z : zZ} (hZ : zB Z) {nn : Nat} (hn : 6 ≤ nn)   {M : zMem} {Q : Option zAV → zMem → zZ → Prop} (h : zSat (fX1_leastGlass M) (fun r => Q (some (zI r.1)) r.2 Z))  : zV zmX1_leastGlass nn 0 0 Z 0 [(0, zR 150)] [] M Q := by
  unfold fX1_leastGlass at h
  refine zV_aload_n 0 dX1_leastGlass_0 rfl rfl ?_
  refine zV_cVV (y' := zmX1_learn) (n' := 5) (As := []) zc_X1_38 (zq_150 hZ) rfl dX1_leastGlass_1 (Nat.le_trans (by decide) hn) rfl (Nat.le_of_ble_eq_true rfl) (Nat.le_of_ble_eq_true rfl) rfl h (fun Q' h' => fX1_learn_ok hZ (Nat.le_refl _)  h') (fun M4 h => ?_)
  refine zV_aload_n 0 dX1_leastGlass_4 rfl rfl ?_
  refine zV_getL (zq_150 hZ) zf_X1_12 zkf_X1_41 rfl dX1_leastGlass_5 (fun m5 => ?_)
  refine zV_ldc2 (v := 1000000000000000) zkl_X1_45 rfl dX1_leastGlass_8 ?_
  refine zV_lcmp dX1_leastGlass_11 m5 zj_1000000000000000 ?_
  refine zV_liflt 19 dX1_leastGlass_12 (by decide) (fun hc_ => ?_) (fun hc_ => ?_)
  · replace h := zs_t h hc_
    refine zV_aload_n 0 dX1_leastGlass_19 rfl rfl ?_
    refine zV_getL (zq_150 hZ) zf_X1_12 zkf_X1_41 rfl dX1_leastGlass_20 (fun m6 => ?_)
    refine zV_ldc2 (v := 5764801) zkl_X1_47 rfl dX1_leastGlass_23 ?_
    obtain ⟨hg, h⟩ := zs_gd h
    refine zV_ldiv dX1_leastGlass_26 zj_5764801 hg ?_
    refine zV_l2i dX1_leastGlass_27 ?_
    refine zV_w ?_
    exact zV_ireti dX1_leastGlass_28 rfl (z32_w _) h
  · replace h := zs_f h hc_
    refine zV_iconst (v := (-1)) dX1_leastGlass_15 rfl ?_
    refine zV_goto 28 dX1_leastGlass_16 (by decide) ?_
    exact zV_ireti dX1_leastGlass_28 rfl zi_n1 h
noncomputable def fX1_stepOf (x1 : Int) (M : zMem) : Option (Int × zMem) :=
  (zbd (fX1_learn M) fun M4 => (zgd ((0 : Int) ≤ x1 ∧ x1 < 12) (if (M4 153 x1) = (-1) then some (0, M4) else (zbd (fX1_weightOf (M4 153 x1) M4) fun r7 => (zgd (¬ r7 = (0 : Int)) (zgd (¬ 7 = (0 : Int)) (some ((zw ((zlrem (zldiv (M4 150 12) r7) 7) - 3)), M4))))))))
set_option maxRecDepth 100000 in
set_option maxHeartbeats 4000000 in
theorem fX1_stepOf_ok {Z : zZ} (hZ : zB Z) {nn : Nat} (hn : 6 ≤ nn)  {x1 : Int} (hx1 : z32 x1) {M : zMem} {Q : Option zAV → zMem → zZ → Prop} (h : zSat (fX1_stepOf x1 M) (fun r => Q (some (zI r.1)) r.2 Z))  : zV zmX1_stepOf nn 0 0 Z 0 [(0, zR 150), (1, zI x1)] [] M Q := by
  unfold fX1_stepOf at h
  refine zV_aload_n 0 dX1_stepOf_0 rfl rfl ?_
  refine zV_cVV (y' := zmX1_learn) (n' := 5) (As := []) zc_X1_38 (zq_150 hZ) rfl dX1_stepOf_1 (Nat.le_trans (by decide) hn) rfl (Nat.le_of_ble_eq_true rfl) (Nat.le_of_ble_eq_true rfl) rfl h (fun Q' h' => fX1_learn_ok hZ (Nat.le_refl _)  h') (fun M4 h => ?_)
  refine zV_aload_n 0 dX1_stepOf_4 rfl rfl ?_
  refine zV_getR (j := 153) (zq_150 hZ) zf_X1_2 zkf_X1_15 rfl dX1_stepOf_5 ?_
  refine zV_iload_n 1 dX1_stepOf_8 rfl rfl ?_
  obtain ⟨hg, h⟩ := zs_gd h
  refine zV_iald (zq_153 hZ) hg dX1_stepOf_9 (fun m5 => ?_)
  refine zV_istore_n [(2, zI (M4 153 x1)), (0, zR 150), (1, zI x1)] dX1_stepOf_10 rfl (by decide) rfl ?_
  refine zV_iload_n 0 dX1_stepOf_11 rfl rfl ?_
  refine zV_iconst (v := (-1)) dX1_stepOf_12 rfl ?_
  refine zV_icmp_ne 18 dX1_stepOf_13 (by decide) m5 zi_n1 (fun hc_ => ?_) (fun hc_ => ?_)
  · replace h := zs_f h hc_
    refine zV_aload_n 1 dX1_stepOf_18 rfl rfl ?_
    refine zV_getL (zq_150 hZ) zf_X1_12 zkf_X1_41 rfl dX1_stepOf_19 (fun m6 => ?_)
    refine zV_aload_n 1 dX1_stepOf_22 rfl rfl ?_
    refine zV_iload_n 0 dX1_stepOf_23 rfl rfl ?_
    refine zV_cVL (y' := zmX1_weightOf) (n' := 1) (As := [zI (M4 153 x1)]) zc_X1_49 (zq_150 hZ) rfl dX1_stepOf_24 (Nat.le_trans (by decide) hn) rfl (Nat.le_of_ble_eq_true rfl) (Nat.le_of_ble_eq_true rfl) rfl rfl h (fun Q' h' => fX1_weightOf_ok hZ (Nat.le_refl _) m5 h') (fun r7 c8 b9 h => ?_)
    obtain ⟨hg, h⟩ := zs_gd h
    refine zV_ldiv dX1_stepOf_27 c8 hg ?_
    refine zV_ldc2 (v := 7) zkl_X1_53 rfl dX1_stepOf_28 ?_
    obtain ⟨hg, h⟩ := zs_gd h
    refine zV_lrem dX1_stepOf_31 zj_7 hg ?_
    refine zV_l2i dX1_stepOf_32 ?_
    refine zV_iconst (v := 3) dX1_stepOf_33 rfl ?_
    refine zV_isub dX1_stepOf_34 ?_
    refine zV_w ?_
    exact zV_ireti dX1_stepOf_35 rfl (z32_w _) h
  · replace h := zs_t h hc_
    refine zV_iconst (v := 0) dX1_stepOf_16 rfl ?_
    exact zV_ireti dX1_stepOf_17 rfl zi_0 h
noncomputable def fX4_listNodes_l50 (x1 x2 : Int) (M : zMem) : Option ((Int × zMem) ⊕ (Int × zMem)) :=
  (if (M 80 0) ≤ x2 then some (.inr (x2, M)) else (zgd ((0 : Int) ≤ x2 ∧ x2 < 24) (if (M 82 x2) = x1 then (zgd ((0 : Int) ≤ x2 ∧ x2 < 24) (some (.inl ((zw (x2 + 1)), (zup M 174 x2 (M 170 4)))))) else some (.inl ((zw (x2 + 1)), M)))))
set_option maxRecDepth 100000 in
set_option maxHeartbeats 4000000 in
theorem fX4_listNodes_l50_ok {Z : zZ} (hZ : zB Z) {nn : Nat} (hn : 2 ≤ nn)  {x1 x2 : Int} (hx1 : z32 x1) (hx2 : z32 x2) {M : zMem} {Q : Option zAV → zMem → zZ → Prop} {P : (Int × zMem) ⊕ (Int × zMem) → Prop} (h : zSat (fX4_listNodes_l50 x1 x2 M) P)  (hc : ∀ s : Int × zMem, P (.inl s) → z32 (s.1) → zV zmX4_listNodes nn 0 0 Z 50 [(0, zR 170), (1, zI x1), (2, zI (s.1))] [] (s.2) Q) (he : ∀ s : Int × zMem, P (.inr s) → z32 (s.1) → zV zmX4_listNodes nn 0 0 Z 90 [(0, zR 170), (1, zI x1), (2, zI (s.1))] [] (s.2) Q)   : zV zmX4_listNodes nn 0 0 Z 50 [(0, zR 170), (1, zI x1), (2, zI x2)] [] M Q := by
  unfold fX4_listNodes_l50 at h
  refine zV_iload_n 2 dX4_listNodes_50 rfl rfl ?_
  refine zV_aload_n 0 dX4_listNodes_51 rfl rfl ?_
  refine zV_getR (j := 80) (zq_170 hZ) zf_X4_1 zkf_X4_28 rfl dX4_listNodes_52 ?_
  refine zV_getI (zq_80 hZ) zf_X5_0 zkf_X4_69 rfl dX4_listNodes_55 (fun m8 => ?_)
  refine zV_icmp_ge 90 dX4_listNodes_58 (by decide) hx2 m8 (fun hc_ => ?_) (fun hc_ => ?_)
  · replace h := zs_t h hc_
    exact he _ h hx2
  · replace h := zs_f h hc_
    refine zV_aload_n 0 dX4_listNodes_61 rfl rfl ?_
    refine zV_getR (j := 80) (zq_170 hZ) zf_X4_1 zkf_X4_28 rfl dX4_listNodes_62 ?_
    refine zV_getR (j := 82) (zq_80 hZ) zf_X5_1 zkf_X4_74 rfl dX4_listNodes_65 ?_
    refine zV_iload_n 2 dX4_listNodes_68 rfl rfl ?_
    obtain ⟨hg, h⟩ := zs_gd h
    refine zV_iald (zq_82 hZ) hg dX4_listNodes_69 (fun m9 => ?_)
    refine zV_iload_n 1 dX4_listNodes_70 rfl rfl ?_
    refine zV_icmp_ne 84 dX4_listNodes_71 (by decide) m9 hx1 (fun hc_ => ?_) (fun hc_ => ?_)
    · replace h := zs_f h hc_
      refine zV_iinc 2 [(2, zI (zw (x2 + 1))), (0, zR 170), (1, zI x1)] dX4_listNodes_84 rfl rfl (by decide) rfl ?_
      refine zV_goto 50 dX4_listNodes_87 (by decide) ?_
      refine zV_ls [1, 2, 0] rfl ?_
      exact hc _ h (z32_w _)
    · replace h := zs_t h hc_
      refine zV_aload_n 0 dX4_listNodes_74 rfl rfl ?_
      refine zV_getR (j := 174) (zq_170 hZ) zf_X4_3 zkf_X4_15 rfl dX4_listNodes_75 ?_
      refine zV_iload_n 2 dX4_listNodes_78 rfl rfl ?_
      refine zV_aload_n 0 dX4_listNodes_79 rfl rfl ?_
      refine zV_getI (zq_170 hZ) zf_X4_4 zkf_X4_49 rfl dX4_listNodes_80 (fun m10 => ?_)
      obtain ⟨hg, h⟩ := zs_gd h
      refine zV_iast (zq_174 hZ) (by decide) hg m10 dX4_listNodes_83 ?_
      refine zV_iinc 2 [(2, zI (zw (x2 + 1))), (0, zR 170), (1, zI x1)] dX4_listNodes_84 rfl rfl (by decide) rfl ?_
      refine zV_goto 50 dX4_listNodes_87 (by decide) ?_
      refine zV_ls [1, 2, 0] rfl ?_
      exact hc _ h (z32_w _)
noncomputable def fX4_listNodes_l7 (x1 : Int) (M : zMem) : Option ((Int × zMem) ⊕ (Int × zMem)) :=
  (if (M 40 0) ≤ x1 then some (.inr (x1, M)) else (zbd (fX7_hasPlace 40 x1 M) fun r2 => (if r2 = 0 then some (.inl ((zw (x1 + 1)), M)) else (if 8 ≤ (M 170 4) then some (.inl ((zw (x1 + 1)), M)) else (zgd ((0 : Int) ≤ (M 170 4) ∧ (M 170 4) < 8) (zbd (zit (fun s11 => fX4_listNodes_l50 x1 (s11.1) (s11.2)) (0, (zup M 173 (M 170 4) x1))) fun s17 => some (.inl ((zw (x1 + 1)), (zup (s17.2) 170 4 (zw (((s17.2) 170 4) + 1)))))))))))
set_option maxRecDepth 100000 in
set_option maxHeartbeats 4000000 in
theorem fX4_listNodes_l7_ok {Z : zZ} (hZ : zB Z) {nn : Nat} (hn : 2 ≤ nn)  {x1 : Int} (hx1 : z32 x1) {M : zMem} {Q : Option zAV → zMem → zZ → Prop} {P : (Int × zMem) ⊕ (Int × zMem) → Prop} (h : zSat (fX4_listNodes_l7 x1 M) P)  (hc : ∀ s : Int × zMem, P (.inl s) → z32 (s.1) → zV zmX4_listNodes nn 0 0 Z 7 [(0, zR 170), (1, zI (s.1))] [] (s.2) Q) (he : ∀ s : Int × zMem, P (.inr s) → z32 (s.1) → zV zmX4_listNodes nn 0 0 Z 106 [(0, zR 170), (1, zI (s.1))] [] (s.2) Q)   : zV zmX4_listNodes nn 0 0 Z 7 [(0, zR 170), (1, zI x1)] [] M Q := by
  unfold fX4_listNodes_l7 at h
  refine zV_iload_n 1 dX4_listNodes_7 rfl rfl ?_
  refine zV_aload_n 0 dX4_listNodes_8 rfl rfl ?_
  refine zV_getR (j := 40) (zq_170 hZ) zf_X4_0 zkf_X4_24 rfl dX4_listNodes_9 ?_
  refine zV_getI (zq_40 hZ) zf_X7_0 zkf_X4_62 rfl dX4_listNodes_12 (fun m1 => ?_)
  refine zV_icmp_ge 106 dX4_listNodes_15 (by decide) hx1 m1 (fun hc_ => ?_) (fun hc_ => ?_)
  · replace h := zs_t h hc_
    exact he _ h hx1
  · replace h := zs_f h hc_
    refine zV_aload_n 0 dX4_listNodes_18 rfl rfl ?_
    refine zV_getR (j := 40) (zq_170 hZ) zf_X4_0 zkf_X4_24 rfl dX4_listNodes_19 ?_
    refine zV_iload_n 1 dX4_listNodes_22 rfl rfl ?_
    refine zV_cVI (y' := zmX7_hasPlace) (n' := 1) (As := [zI x1]) zc_X4_65 (zq_40 hZ) rfl dX4_listNodes_23 (Nat.le_trans (by decide) hn) rfl (Nat.le_of_ble_eq_true rfl) (Nat.le_of_ble_eq_true rfl) rfl h (fun Q' h' => fX7_hasPlace_ok hZ (Nat.le_refl _) (zqsu_40 hZ) (by decide) hx1 h') (fun r2 c3 b4 h => ?_)
    refine zV_if_eq 100 dX4_listNodes_26 (by decide) c3 (fun hc_ => ?_) (fun hc_ => ?_)
    · replace h := zs_t h hc_
      refine zV_iinc 1 [(1, zI (zw (x1 + 1))), (0, zR 170)] dX4_listNodes_100 rfl rfl (by decide) rfl ?_
      refine zV_goto 7 dX4_listNodes_103 (by decide) ?_
      refine zV_ls [1, 0] rfl ?_
      exact hc _ h (z32_w _)
    · replace h := zs_f h hc_
      refine zV_aload_n 0 dX4_listNodes_29 rfl rfl ?_
      refine zV_getI (zq_170 hZ) zf_X4_4 zkf_X4_49 rfl dX4_listNodes_30 (fun m6 => ?_)
      refine zV_bipush (v := 8) dX4_listNodes_33 rfl ?_
      refine zV_icmp_ge 100 dX4_listNodes_35 (by decide) m6 zi_8 (fun hc_ => ?_) (fun hc_ => ?_)
      · replace h := zs_t h hc_
        refine zV_iinc 1 [(1, zI (zw (x1 + 1))), (0, zR 170)] dX4_listNodes_100 rfl rfl (by decide) rfl ?_
        refine zV_goto 7 dX4_listNodes_103 (by decide) ?_
        refine zV_ls [1, 0] rfl ?_
        exact hc _ h (z32_w _)
      · replace h := zs_f h hc_
        refine zV_aload_n 0 dX4_listNodes_38 rfl rfl ?_
        refine zV_getR (j := 173) (zq_170 hZ) zf_X4_2 zkf_X4_9 rfl dX4_listNodes_39 ?_
        refine zV_aload_n 0 dX4_listNodes_42 rfl rfl ?_
        refine zV_getI (zq_170 hZ) zf_X4_4 zkf_X4_49 rfl dX4_listNodes_43 (fun m7 => ?_)
        refine zV_iload_n 1 dX4_listNodes_46 rfl rfl ?_
        obtain ⟨hg, h⟩ := zs_gd h
        refine zV_iast (zq_173 hZ) (by decide) hg hx1 dX4_listNodes_47 ?_
        refine zV_iconst (v := 0) dX4_listNodes_48 rfl ?_
        refine zV_istore_n [(2, zI 0), (0, zR 170), (1, zI x1)] dX4_listNodes_49 rfl (by decide) rfl ?_
        refine zV_ls [1, 2, 0] rfl ?_
        refine (zV_loop (Vh := fun s11 : Int × zMem => z32 (s11.1) → zV zmX4_listNodes nn 0 0 Z 50 [(0, zR 170), (1, zI x1), (2, zI (s11.1))] [] (s11.2) Q) h (fun s11 P12 hP13 hc14 he15 => ?_)) zi_0
        intro c16
        refine fX4_listNodes_l50_ok hZ hn hx1 c16 hP13 hc14 (fun s17 h18 d19 => ?_)
        have h := he15 _ h18
        refine zV_aload_n 0 dX4_listNodes_90 rfl rfl ?_
        refine zV_dup dX4_listNodes_91 rfl ?_
        refine zV_getI (zq_170 hZ) zf_X4_4 zkf_X4_49 rfl dX4_listNodes_92 (fun m20 => ?_)
        refine zV_iconst (v := 1) dX4_listNodes_95 rfl ?_
        refine zV_iadd dX4_listNodes_96 ?_
        refine zV_w ?_
        refine zV_putI (zq_170 hZ) (by decide) zf_X4_4 zkf_X4_49 rfl dX4_listNodes_97 (z32_w _) ?_
        refine zV_iinc 1 [(1, zI (zw (x1 + 1))), (0, zR 170), (2, zI (s17.1))] dX4_listNodes_100 rfl rfl (by decide) rfl ?_
        refine zV_goto 7 dX4_listNodes_103 (by decide) ?_
        refine zV_ls [1, 0] rfl ?_
        exact hc _ h (z32_w _)
noncomputable def fX4_listNodes (M : zMem) : Option (zMem) :=
  (zbd (zit (fun s21 => fX4_listNodes_l7 (s21.1) (s21.2)) (0, (zup M 170 4 0))) fun s27 => some (s27.2))
set_option maxRecDepth 100000 in
set_option maxHeartbeats 4000000 in
theorem fX4_listNodes_ok {Z : zZ} (hZ : zB Z) {nn : Nat} (hn : 2 ≤ nn)   {M : zMem} {Q : Option zAV → zMem → zZ → Prop} (h : zSat (fX4_listNodes M) (fun r => Q none r Z))  : zV zmX4_listNodes nn 0 0 Z 0 [(0, zR 170)] [] M Q := by
  unfold fX4_listNodes at h
  refine zV_aload_n 0 dX4_listNodes_0 rfl rfl ?_
  refine zV_iconst (v := 0) dX4_listNodes_1 rfl ?_
  refine zV_putI (zq_170 hZ) (by decide) zf_X4_4 zkf_X4_49 rfl dX4_listNodes_2 zi_0 ?_
  refine zV_iconst (v := 0) dX4_listNodes_5 rfl ?_
  refine zV_istore_n [(1, zI 0), (0, zR 170)] dX4_listNodes_6 rfl (by decide) rfl ?_
  refine zV_ls [1, 0] rfl ?_
  refine (zV_loop (Vh := fun s21 : Int × zMem => z32 (s21.1) → zV zmX4_listNodes nn 0 0 Z 7 [(0, zR 170), (1, zI (s21.1))] [] (s21.2) Q) h (fun s21 P22 hP23 hc24 he25 => ?_)) zi_0
  intro c26
  refine fX4_listNodes_l7_ok hZ hn c26 hP23 hc24 (fun s27 h28 d29 => ?_)
  have h := he25 _ h28
  exact zV_vret dX4_listNodes_106 rfl h
noncomputable def fX4_passes_l4 (x1 x2 x3 : Int) (M : zMem) : Option ((Int × Int) ⊕ (Int × Int)) :=
  (if (M 80 0) ≤ x3 then some (.inr (x2, x3)) else (zgd ((0 : Int) ≤ x3 ∧ x3 < 24) (zgd ((0 : Int) ≤ (x3 - 1) ∧ (x3 - 1) < 24) (some (.inl ((zw (x2 + (zand (zxor (zshr x1 (M 174 x3)) (zshr x1 (M 174 (x3 - 1)))) 1))), (zw (x3 + 1))))))))
set_option maxRecDepth 100000 in
set_option maxHeartbeats 4000000 in
theorem fX4_passes_l4_ok {Z : zZ} (hZ : zB Z) {nn : Nat} (hn : 0 ≤ nn)  {x1 x2 x3 : Int} (hx1 : z32 x1) (hx2 : z32 x2) (hx3 : z32 x3) {M : zMem} {Q : Option zAV → zMem → zZ → Prop} {P : (Int × Int) ⊕ (Int × Int) → Prop} (h : zSat (fX4_passes_l4 x1 x2 x3 M) P)  (hc : ∀ s : Int × Int, P (.inl s) → z32 (s.1) → z32 (s.2) → zV zmX4_passes nn 0 0 Z 4 [(0, zR 170), (1, zI x1), (2, zI (s.1)), (3, zI (s.2))] [] M Q) (he : ∀ s : Int × Int, P (.inr s) → z32 (s.1) → z32 (s.2) → zV zmX4_passes nn 0 0 Z 45 [(0, zR 170), (1, zI x1), (2, zI (s.1)), (3, zI (s.2))] [] M Q)   : zV zmX4_passes nn 0 0 Z 4 [(0, zR 170), (1, zI x1), (2, zI x2), (3, zI x3)] [] M Q := by
  unfold fX4_passes_l4 at h
  refine zV_iload_n 3 dX4_passes_4 rfl rfl ?_
  refine zV_aload_n 0 dX4_passes_5 rfl rfl ?_
  refine zV_getR (j := 80) (zq_170 hZ) zf_X4_1 zkf_X4_28 rfl dX4_passes_6 ?_
  refine zV_getI (zq_80 hZ) zf_X5_0 zkf_X4_69 rfl dX4_passes_9 (fun m1 => ?_)
  refine zV_icmp_ge 45 dX4_passes_12 (by decide) hx3 m1 (fun hc_ => ?_) (fun hc_ => ?_)
  · replace h := zs_t h hc_
    exact he _ h hx2 hx3
  · replace h := zs_f h hc_
    refine zV_iload_n 2 dX4_passes_15 rfl rfl ?_
    refine zV_iload_n 1 dX4_passes_16 rfl rfl ?_
    refine zV_aload_n 0 dX4_passes_17 rfl rfl ?_
    refine zV_getR (j := 174) (zq_170 hZ) zf_X4_3 zkf_X4_15 rfl dX4_passes_18 ?_
    refine zV_iload_n 3 dX4_passes_21 rfl rfl ?_
    obtain ⟨hg, h⟩ := zs_gd h
    refine zV_iald (zq_174 hZ) hg dX4_passes_22 (fun m2 => ?_)
    refine zV_ishr dX4_passes_23 ?_
    refine zV_iload_n 1 dX4_passes_24 rfl rfl ?_
    refine zV_aload_n 0 dX4_passes_25 rfl rfl ?_
    refine zV_getR (j := 174) (zq_170 hZ) zf_X4_3 zkf_X4_15 rfl dX4_passes_26 ?_
    refine zV_iload_n 3 dX4_passes_29 rfl rfl ?_
    refine zV_iconst (v := 1) dX4_passes_30 rfl ?_
    refine zV_isub dX4_passes_31 ?_
    obtain ⟨hg, h⟩ := zs_gd h
    refine zV_iald (zq_174 hZ) hg dX4_passes_32 (fun m3 => ?_)
    refine zV_ishr dX4_passes_33 ?_
    refine zV_ixor dX4_passes_34 ?_
    refine zV_iconst (v := 1) dX4_passes_35 rfl ?_
    refine zV_iand dX4_passes_36 ?_
    refine zV_iadd dX4_passes_37 ?_
    refine zV_w ?_
    refine zV_istore_n [(2, zI (zw (x2 + (zand (zxor (zshr x1 (M 174 x3)) (zshr x1 (M 174 (x3 - 1)))) 1)))), (0, zR 170), (1, zI x1), (3, zI x3)] dX4_passes_38 rfl (by decide) rfl ?_
    refine zV_iinc 3 [(3, zI (zw (x3 + 1))), (2, zI (zw (x2 + (zand (zxor (zshr x1 (M 174 x3)) (zshr x1 (M 174 (x3 - 1)))) 1)))), (0, zR 170), (1, zI x1)] dX4_passes_39 rfl rfl (by decide) rfl ?_
    refine zV_goto 4 dX4_passes_42 (by decide) ?_
    refine zV_ls [2, 3, 1, 0] rfl ?_
    exact hc _ h (z32_w _) (z32_w _)
noncomputable def fX4_passes (x1 : Int) (M : zMem) : Option (Int) :=
  (zbd (zit (fun s4 => fX4_passes_l4 x1 (s4.1) (s4.2) M) (0, 1)) fun s11 => some (s11.1))
set_option maxRecDepth 100000 in
set_option maxHeartbeats 4000000 in
theorem fX4_passes_ok {Z : zZ} (hZ : zB Z) {nn : Nat} (hn : 0 ≤ nn)  {x1 : Int} (hx1 : z32 x1) {M : zMem} {Q : Option zAV → zMem → zZ → Prop} (h : zSat (fX4_passes x1 M) (fun r => Q (some (zI r)) M Z))  : zV zmX4_passes nn 0 0 Z 0 [(0, zR 170), (1, zI x1)] [] M Q := by
  unfold fX4_passes at h
  refine zV_iconst (v := 0) dX4_passes_0 rfl ?_
  refine zV_istore_n [(2, zI 0), (0, zR 170), (1, zI x1)] dX4_passes_1 rfl (by decide) rfl ?_
  refine zV_iconst (v := 1) dX4_passes_2 rfl ?_
  refine zV_istore_n [(3, zI 1), (2, zI 0), (0, zR 170), (1, zI x1)] dX4_passes_3 rfl (by decide) rfl ?_
  refine zV_ls [2, 3, 1, 0] rfl ?_
  refine (zV_loop (Vh := fun s4 : Int × Int => z32 (s4.1) → z32 (s4.2) → zV zmX4_passes nn 0 0 Z 4 [(0, zR 170), (1, zI x1), (2, zI (s4.1)), (3, zI (s4.2))] [] M Q) h (fun s4 P5 hP6 hc7 he8 => ?_)) zi_0 zi_1
  intro c9 c10
  refine fX4_passes_l4_ok hZ hn hx1 c9 c10 hP6 hc7 (fun s11 h12 d13 d14 => ?_)
  have h := he8 _ h12
  refine zV_iload_n 2 dX4_passes_45 rfl rfl ?_
  exact zV_ireti dX4_passes_46 rfl d13 h
noncomputable def fX4_nextOf_j60 (x1 x2 x3 : Int) (M : zMem) : Option ((Int × Int) ⊕ (Int × Int)) :=
  some (.inl (x3, (zw (x3 + 1))))
set_option maxRecDepth 100000 in
set_option maxHeartbeats 4000000 in
theorem fX4_nextOf_j60_ok {Z : zZ} (hZ : zB Z) {nn : Nat} (hn : 1 ≤ nn)  {x1 x2 x3 : Int} (hx1 : z32 x1) (hx2 : z32 x2) (hx3 : z32 x3) {M : zMem} {Q : Option zAV → zMem → zZ → Prop} {P : (Int × Int) ⊕ (Int × Int) → Prop} (h : zSat (fX4_nextOf_j60 x1 x2 x3 M) P)  (hc : ∀ s : Int × Int, P (.inl s) → z32 (s.1) → z32 (s.2) → zV zmX4_nextOf nn 0 0 Z 4 [(0, zR 170), (1, zI x1), (2, zI (s.1)), (3, zI (s.2))] [] M Q) (he : ∀ s : Int × Int, P (.inr s) → z32 (s.1) → z32 (s.2) → zV zmX4_nextOf nn 0 0 Z 68 [(0, zR 170), (1, zI x1), (2, zI (s.1)), (3, zI (s.2))] [] M Q)   : zV zmX4_nextOf nn 0 0 Z 60 [(0, zR 170), (1, zI x1), (2, zI x2), (3, zI x3)] [] M Q := by
  unfold fX4_nextOf_j60 at h
  refine zV_iload_n 3 dX4_nextOf_60 rfl rfl ?_
  refine zV_istore_n [(2, zI x3), (0, zR 170), (1, zI x1), (3, zI x3)] dX4_nextOf_61 rfl (by decide) rfl ?_
  refine zV_iinc 3 [(3, zI (zw (x3 + 1))), (2, zI x3), (0, zR 170), (1, zI x1)] dX4_nextOf_62 rfl rfl (by decide) rfl ?_
  refine zV_goto 4 dX4_nextOf_65 (by decide) ?_
  refine zV_ls [2, 3, 1, 0] rfl ?_
  exact hc _ h hx3 (z32_w _)
noncomputable def fX4_nextOf_j25 (x1 x2 x3 s0 : Int) (M : zMem) : Option ((Int × Int) ⊕ (Int × Int)) :=
  (if s0 = 0 then some (.inl (x2, (zw (x3 + 1)))) else (if x2 = (-1) then fX4_nextOf_j60 x1 x2 x3 M else (zgd ((0 : Int) ≤ (zor x1 (zshl 1 x3)) ∧ (zor x1 (zshl 1 x3)) < 256) (zgd ((0 : Int) ≤ (zor x1 (zshl 1 x2)) ∧ (zor x1 (zshl 1 x2)) < 256) (if (M 176 (zor x1 (zshl 1 x2))) ≤ (M 176 (zor x1 (zshl 1 x3))) then some (.inl (x2, (zw (x3 + 1)))) else fX4_nextOf_j60 x1 x2 x3 M)))))
set_option maxRecDepth 100000 in
set_option maxHeartbeats 4000000 in
theorem fX4_nextOf_j25_ok {Z : zZ} (hZ : zB Z) {nn : Nat} (hn : 1 ≤ nn)  {x1 x2 x3 s0 : Int} (hx1 : z32 x1) (hx2 : z32 x2) (hx3 : z32 x3) (hs0 : z32 s0) (hbs0 : s0 = 0 ∨ s0 = 1) {M : zMem} {Q : Option zAV → zMem → zZ → Prop} {P : (Int × Int) ⊕ (Int × Int) → Prop} (h : zSat (fX4_nextOf_j25 x1 x2 x3 s0 M) P)  (hc : ∀ s : Int × Int, P (.inl s) → z32 (s.1) → z32 (s.2) → zV zmX4_nextOf nn 0 0 Z 4 [(0, zR 170), (1, zI x1), (2, zI (s.1)), (3, zI (s.2))] [] M Q) (he : ∀ s : Int × Int, P (.inr s) → z32 (s.1) → z32 (s.2) → zV zmX4_nextOf nn 0 0 Z 68 [(0, zR 170), (1, zI x1), (2, zI (s.1)), (3, zI (s.2))] [] M Q)   : zV zmX4_nextOf nn 0 0 Z 25 [(0, zR 170), (1, zI x1), (2, zI x2), (3, zI x3)] [zI s0] M Q := by
  unfold fX4_nextOf_j25 at h
  refine zV_istore [(4, zI s0), (0, zR 170), (1, zI x1), (2, zI x2), (3, zI x3)] dX4_nextOf_25 (by decide) rfl ?_
  refine zV_iload 0 dX4_nextOf_27 rfl ?_
  refine zV_if_eq 62 dX4_nextOf_29 (by decide) hs0 (fun hc_ => ?_) (fun hc_ => ?_)
  · replace h := zs_t h hc_
    refine zV_iinc 4 [(3, zI (zw (x3 + 1))), (4, zI s0), (0, zR 170), (1, zI x1), (2, zI x2)] dX4_nextOf_62 rfl rfl (by decide) rfl ?_
    refine zV_goto 4 dX4_nextOf_65 (by decide) ?_
    refine zV_ls [2, 3, 4, 0] rfl ?_
    exact hc _ h hx2 (z32_w _)
  · replace h := zs_f h hc_
    refine zV_iload_n 3 dX4_nextOf_32 rfl rfl ?_
    refine zV_iconst (v := (-1)) dX4_nextOf_33 rfl ?_
    refine zV_icmp_eq 60 dX4_nextOf_34 (by decide) hx2 zi_n1 (fun hc_ => ?_) (fun hc_ => ?_)
    · replace h := zs_t h hc_
      refine zV_ls [1, 2, 3, 4] rfl ?_
      exact fX4_nextOf_j60_ok hZ hn hx1 hx2 hx3 h hc he
    · replace h := zs_f h hc_
      refine zV_aload_n 1 dX4_nextOf_37 rfl rfl ?_
      refine zV_getR (j := 176) (zq_170 hZ) zf_X4_5 zkf_X4_18 rfl dX4_nextOf_38 ?_
      refine zV_iload_n 2 dX4_nextOf_41 rfl rfl ?_
      refine zV_iconst (v := 1) dX4_nextOf_42 rfl ?_
      refine zV_iload_n 4 dX4_nextOf_43 rfl rfl ?_
      refine zV_ishl dX4_nextOf_44 ?_
      refine zV_ior dX4_nextOf_45 ?_
      obtain ⟨hg, h⟩ := zs_gd h
      refine zV_iald (zq_176 hZ) hg dX4_nextOf_46 (fun m2 => ?_)
      refine zV_aload_n 1 dX4_nextOf_47 rfl rfl ?_
      refine zV_getR (j := 176) (zq_170 hZ) zf_X4_5 zkf_X4_18 rfl dX4_nextOf_48 ?_
      refine zV_iload_n 2 dX4_nextOf_51 rfl rfl ?_
      refine zV_iconst (v := 1) dX4_nextOf_52 rfl ?_
      refine zV_iload_n 3 dX4_nextOf_53 rfl rfl ?_
      refine zV_ishl dX4_nextOf_54 ?_
      refine zV_ior dX4_nextOf_55 ?_
      obtain ⟨hg, h⟩ := zs_gd h
      refine zV_iald (zq_176 hZ) hg dX4_nextOf_56 (fun m3 => ?_)
      refine zV_icmp_ge 62 dX4_nextOf_57 (by decide) m2 m3 (fun hc_ => ?_) (fun hc_ => ?_)
      · replace h := zs_t h hc_
        refine zV_iinc 4 [(3, zI (zw (x3 + 1))), (4, zI s0), (0, zR 170), (1, zI x1), (2, zI x2)] dX4_nextOf_62 rfl rfl (by decide) rfl ?_
        refine zV_goto 4 dX4_nextOf_65 (by decide) ?_
        refine zV_ls [2, 3, 4, 0] rfl ?_
        exact hc _ h hx2 (z32_w _)
      · replace h := zs_f h hc_
        refine zV_ls [1, 2, 3, 4] rfl ?_
        exact fX4_nextOf_j60_ok hZ hn hx1 hx2 hx3 h hc he
noncomputable def fX4_nextOf_l4 (x1 x2 x3 : Int) (M : zMem) : Option ((Int × Int) ⊕ (Int × Int)) :=
  (if (M 170 4) ≤ x3 then some (.inr (x2, x3)) else (if (zand (zshr x1 x3) 1) = 0 then fX4_nextOf_j25 x1 x2 x3 1 M else fX4_nextOf_j25 x1 x2 x3 0 M))
set_option maxRecDepth 100000 in
set_option maxHeartbeats 4000000 in
theorem fX4_nextOf_l4_ok {Z : zZ} (hZ : zB Z) {nn : Nat} (hn : 1 ≤ nn)  {x1 x2 x3 : Int} (hx1 : z32 x1) (hx2 : z32 x2) (hx3 : z32 x3) {M : zMem} {Q : Option zAV → zMem → zZ → Prop} {P : (Int × Int) ⊕ (Int × Int) → Prop} (h : zSat (fX4_nextOf_l4 x1 x2 x3 M) P)  (hc : ∀ s : Int × Int, P (.inl s) → z32 (s.1) → z32 (s.2) → zV zmX4_nextOf nn 0 0 Z 4 [(0, zR 170), (1, zI x1), (2, zI (s.1)), (3, zI (s.2))] [] M Q) (he : ∀ s : Int × Int, P (.inr s) → z32 (s.1) → z32 (s.2) → zV zmX4_nextOf nn 0 0 Z 68 [(0, zR 170), (1, zI x1), (2, zI (s.1)), (3, zI (s.2))] [] M Q)   : zV zmX4_nextOf nn 0 0 Z 4 [(0, zR 170), (1, zI x1), (2, zI x2), (3, zI x3)] [] M Q := by
  unfold fX4_nextOf_l4 at h
  refine zV_iload_n 3 dX4_nextOf_4 rfl rfl ?_
  refine zV_aload_n 0 dX4_nextOf_5 rfl rfl ?_
  refine zV_getI (zq_170 hZ) zf_X4_4 zkf_X4_49 rfl dX4_nextOf_6 (fun m1 => ?_)
  refine zV_icmp_ge 68 dX4_nextOf_9 (by decide) hx3 m1 (fun hc_ => ?_) (fun hc_ => ?_)
  · replace h := zs_t h hc_
    exact he _ h hx2 hx3
  · replace h := zs_f h hc_
    refine zV_iload_n 1 dX4_nextOf_12 rfl rfl ?_
    refine zV_iload_n 3 dX4_nextOf_13 rfl rfl ?_
    refine zV_ishr dX4_nextOf_14 ?_
    refine zV_iconst (v := 1) dX4_nextOf_15 rfl ?_
    refine zV_iand dX4_nextOf_16 ?_
    refine zV_if_ne 24 dX4_nextOf_17 (by decide) (z32_i _) (fun hc_ => ?_) (fun hc_ => ?_)
    · replace h := zs_f h hc_
      refine zV_iconst (v := 0) dX4_nextOf_24 rfl ?_
      exact fX4_nextOf_j25_ok hZ hn hx1 hx2 hx3 zi_0 (Or.inl rfl) h hc he
    · replace h := zs_t h hc_
      refine zV_iconst (v := 1) dX4_nextOf_20 rfl ?_
      refine zV_goto 25 dX4_nextOf_21 (by decide) ?_
      exact fX4_nextOf_j25_ok hZ hn hx1 hx2 hx3 zi_1 (Or.inr rfl) h hc he
noncomputable def fX4_nextOf (x1 : Int) (M : zMem) : Option (Int) :=
  (zbd (zit (fun s4 => fX4_nextOf_l4 x1 (s4.1) (s4.2) M) ((-1), 0)) fun s11 => some (max 0 (s11.1)))
set_option maxRecDepth 100000 in
set_option maxHeartbeats 4000000 in
theorem fX4_nextOf_ok {Z : zZ} (hZ : zB Z) {nn : Nat} (hn : 1 ≤ nn)  {x1 : Int} (hx1 : z32 x1) {M : zMem} {Q : Option zAV → zMem → zZ → Prop} (h : zSat (fX4_nextOf x1 M) (fun r => Q (some (zI r)) M Z))  : zV zmX4_nextOf nn 0 0 Z 0 [(0, zR 170), (1, zI x1)] [] M Q := by
  unfold fX4_nextOf at h
  refine zV_iconst (v := (-1)) dX4_nextOf_0 rfl ?_
  refine zV_istore_n [(2, zI (-1)), (0, zR 170), (1, zI x1)] dX4_nextOf_1 rfl (by decide) rfl ?_
  refine zV_iconst (v := 0) dX4_nextOf_2 rfl ?_
  refine zV_istore_n [(3, zI 0), (2, zI (-1)), (0, zR 170), (1, zI x1)] dX4_nextOf_3 rfl (by decide) rfl ?_
  refine zV_ls [2, 3, 1, 0] rfl ?_
  refine (zV_loop (Vh := fun s4 : Int × Int => z32 (s4.1) → z32 (s4.2) → zV zmX4_nextOf nn 0 0 Z 4 [(0, zR 170), (1, zI x1), (2, zI (s4.1)), (3, zI (s4.2))] [] M Q) h (fun s4 P5 hP6 hc7 he8 => ?_)) zi_n1 zi_0
  intro c9 c10
  refine fX4_nextOf_l4_ok hZ hn hx1 c9 c10 hP6 hc7 (fun s11 h12 d13 d14 => ?_)
  have h := he8 _ h12
  refine zV_iconst (v := 0) dX4_nextOf_68 rfl ?_
  refine zV_iload_n 2 dX4_nextOf_69 rfl rfl ?_
  refine zV_mmax zml_X4_77 dX4_nextOf_70 (Nat.le_trans (by decide) hn) (Nat.le_of_ble_eq_true rfl) zi_0 d13 ?_
  exact zV_ireti dX4_nextOf_73 rfl (z32_max zi_0 d13) h
noncomputable def fX4_follow_l4 (x1 x2 : Int) (M : zMem) : Option ((Int × Int × zMem) ⊕ (Int × Int × zMem)) :=
  (if (M 170 4) ≤ x2 then some (.inr (x1, x2, M)) else (zbd (fX4_nextOf x1 M) fun r2 => (zgd ((0 : Int) ≤ r2 ∧ r2 < 8) (zgd ((0 : Int) ≤ x2 ∧ x2 < 8) (some (.inl ((zor x1 (zshl 1 r2)), (zw (x2 + 1)), (zup M 177 x2 (M 173 r2)))))))))
set_option maxRecDepth 100000 in
set_option maxHeartbeats 4000000 in
theorem fX4_follow_l4_ok {Z : zZ} (hZ : zB Z) {nn : Nat} (hn : 2 ≤ nn)  {x1 x2 : Int} (hx1 : z32 x1) (hx2 : z32 x2) {M : zMem} {Q : Option zAV → zMem → zZ → Prop} {P : (Int × Int × zMem) ⊕ (Int × Int × zMem) → Prop} (h : zSat (fX4_follow_l4 x1 x2 M) P)  (hc : ∀ s : Int × Int × zMem, P (.inl s) → z32 (s.1) → z32 (s.2.1) → zV zmX4_follow nn 0 0 Z 4 [(0, zR 170), (1, zI (s.1)), (2, zI (s.2.1))] [] (s.2.2) Q) (he : ∀ s : Int × Int × zMem, P (.inr s) → z32 (s.1) → z32 (s.2.1) → zV zmX4_follow nn 0 0 Z 42 [(0, zR 170), (1, zI (s.1)), (2, zI (s.2.1))] [] (s.2.2) Q)   : zV zmX4_follow nn 0 0 Z 4 [(0, zR 170), (1, zI x1), (2, zI x2)] [] M Q := by
  unfold fX4_follow_l4 at h
  refine zV_iload_n 2 dX4_follow_4 rfl rfl ?_
  refine zV_aload_n 0 dX4_follow_5 rfl rfl ?_
  refine zV_getI (zq_170 hZ) zf_X4_4 zkf_X4_49 rfl dX4_follow_6 (fun m1 => ?_)
  refine zV_icmp_ge 42 dX4_follow_9 (by decide) hx2 m1 (fun hc_ => ?_) (fun hc_ => ?_)
  · replace h := zs_t h hc_
    exact he _ h hx1 hx2
  · replace h := zs_f h hc_
    refine zV_aload_n 0 dX4_follow_12 rfl rfl ?_
    refine zV_iload_n 1 dX4_follow_13 rfl rfl ?_
    refine zV_cVI (y' := zmX4_nextOf) (n' := 1) (As := [zI x1]) zc_X4_56 (zq_170 hZ) rfl dX4_follow_14 (Nat.le_trans (by decide) hn) rfl (Nat.le_of_ble_eq_true rfl) (Nat.le_of_ble_eq_true rfl) rfl h (fun Q' h' => fX4_nextOf_ok hZ (Nat.le_refl _) hx1 h') (fun r2 c3 b4 h => ?_)
    refine zV_istore_n [(3, zI r2), (0, zR 170), (1, zI x1), (2, zI x2)] dX4_follow_17 rfl (by decide) rfl ?_
    refine zV_aload_n 1 dX4_follow_18 rfl rfl ?_
    refine zV_getR (j := 177) (zq_170 hZ) zf_X4_6 zkf_X4_21 rfl dX4_follow_19 ?_
    refine zV_iload_n 3 dX4_follow_22 rfl rfl ?_
    refine zV_aload_n 1 dX4_follow_23 rfl rfl ?_
    refine zV_getR (j := 173) (zq_170 hZ) zf_X4_2 zkf_X4_9 rfl dX4_follow_24 ?_
    refine zV_iload_n 0 dX4_follow_27 rfl rfl ?_
    obtain ⟨hg, h⟩ := zs_gd h
    refine zV_iald (zq_173 hZ) hg dX4_follow_28 (fun m6 => ?_)
    obtain ⟨hg, h⟩ := zs_gd h
    refine zV_iast (zq_177 hZ) (by decide) hg m6 dX4_follow_29 ?_
    refine zV_iload_n 2 dX4_follow_30 rfl rfl ?_
    refine zV_iconst (v := 1) dX4_follow_31 rfl ?_
    refine zV_iload_n 0 dX4_follow_32 rfl rfl ?_
    refine zV_ishl dX4_follow_33 ?_
    refine zV_ior dX4_follow_34 ?_
    refine zV_istore_n [(1, zI (zor x1 (zshl 1 r2))), (3, zI r2), (0, zR 170), (2, zI x2)] dX4_follow_35 rfl (by decide) rfl ?_
    refine zV_iinc 3 [(2, zI (zw (x2 + 1))), (1, zI (zor x1 (zshl 1 r2))), (3, zI r2), (0, zR 170)] dX4_follow_36 rfl rfl (by decide) rfl ?_
    refine zV_goto 4 dX4_follow_39 (by decide) ?_
    refine zV_ls [3, 1, 0] rfl ?_
    exact hc _ h (z32_i _) (z32_w _)
noncomputable def fX4_follow (M : zMem) : Option (zMem) :=
  (zbd (zit (fun s7 => fX4_follow_l4 (s7.1) (s7.2.1) (s7.2.2)) (0, 0, M)) fun s14 => some (s14.2.2))
set_option maxRecDepth 100000 in
set_option maxHeartbeats 4000000 in
theorem fX4_follow_ok {Z : zZ} (hZ : zB Z) {nn : Nat} (hn : 2 ≤ nn)   {M : zMem} {Q : Option zAV → zMem → zZ → Prop} (h : zSat (fX4_follow M) (fun r => Q none r Z))  : zV zmX4_follow nn 0 0 Z 0 [(0, zR 170)] [] M Q := by
  unfold fX4_follow at h
  refine zV_iconst (v := 0) dX4_follow_0 rfl ?_
  refine zV_istore_n [(1, zI 0), (0, zR 170)] dX4_follow_1 rfl (by decide) rfl ?_
  refine zV_iconst (v := 0) dX4_follow_2 rfl ?_
  refine zV_istore_n [(2, zI 0), (1, zI 0), (0, zR 170)] dX4_follow_3 rfl (by decide) rfl ?_
  refine zV_ls [2, 1, 0] rfl ?_
  refine (zV_loop (Vh := fun s7 : Int × Int × zMem => z32 (s7.1) → z32 (s7.2.1) → zV zmX4_follow nn 0 0 Z 4 [(0, zR 170), (1, zI (s7.1)), (2, zI (s7.2.1))] [] (s7.2.2) Q) h (fun s7 P8 hP9 hc10 he11 => ?_)) zi_0 zi_0
  intro c12 c13
  refine fX4_follow_l4_ok hZ hn c12 c13 hP9 hc10 (fun s14 h15 d16 d17 => ?_)
  have h := he11 _ h15
  exact zV_vret dX4_follow_42 rfl h
noncomputable def fX4_learn_l50 (x2 : Int) (M : zMem) : Option ((Int × zMem) ⊕ (Int × zMem)) :=
  (if x2 < 0 then some (.inr (x2, M)) else (zbd (fX4_passes x2 M) fun r8 => (zbd (fX4_nextOf x2 M) fun r12 => (zgd ((0 : Int) ≤ (zor x2 (zshl 1 r12)) ∧ (zor x2 (zshl 1 r12)) < 256) (zgd ((0 : Int) ≤ x2 ∧ x2 < 256) (some (.inl ((zw (x2 + (-1))), (zup M 176 x2 (zw (r8 + (M 176 (zor x2 (zshl 1 r12))))))))))))))
set_option maxRecDepth 100000 in
set_option maxHeartbeats 4000000 in
theorem fX4_learn_l50_ok {Z : zZ} (hZ : zB Z) {nn : Nat} (hn : 3 ≤ nn)  {x2 : Int} (hx2 : z32 x2) {M : zMem} {Q : Option zAV → zMem → zZ → Prop} {P : (Int × zMem) ⊕ (Int × zMem) → Prop} (h : zSat (fX4_learn_l50 x2 M) P)  (hc : ∀ s : Int × zMem, P (.inl s) → z32 (s.1) → zV zmX4_learn nn 0 0 Z 50 [(0, zR 170), (2, zI (s.1))] [] (s.2) Q) (he : ∀ s : Int × zMem, P (.inr s) → z32 (s.1) → zV zmX4_learn nn 0 0 Z 86 [(0, zR 170), (2, zI (s.1))] [] (s.2) Q)   : zV zmX4_learn nn 0 0 Z 50 [(0, zR 170), (2, zI x2)] [] M Q := by
  unfold fX4_learn_l50 at h
  refine zV_iload_n 1 dX4_learn_50 rfl rfl ?_
  refine zV_if_lt 86 dX4_learn_51 (by decide) hx2 (fun hc_ => ?_) (fun hc_ => ?_)
  · replace h := zs_t h hc_
    exact he _ h hx2
  · replace h := zs_f h hc_
    refine zV_aload_n 0 dX4_learn_54 rfl rfl ?_
    refine zV_getR (j := 176) (zq_170 hZ) zf_X4_5 zkf_X4_18 rfl dX4_learn_55 ?_
    refine zV_iload_n 1 dX4_learn_58 rfl rfl ?_
    refine zV_aload_n 0 dX4_learn_59 rfl rfl ?_
    refine zV_iload_n 1 dX4_learn_60 rfl rfl ?_
    refine zV_cVI (y' := zmX4_passes) (n' := 0) (As := [zI x2]) zc_X4_52 (zq_170 hZ) rfl dX4_learn_61 (Nat.le_trans (by decide) hn) rfl (Nat.le_of_ble_eq_true rfl) (Nat.le_of_ble_eq_true rfl) rfl h (fun Q' h' => fX4_passes_ok hZ (Nat.le_refl _) hx2 h') (fun r8 c9 b10 h => ?_)
    refine zV_aload_n 0 dX4_learn_64 rfl rfl ?_
    refine zV_getR (j := 176) (zq_170 hZ) zf_X4_5 zkf_X4_18 rfl dX4_learn_65 ?_
    refine zV_iload_n 1 dX4_learn_68 rfl rfl ?_
    refine zV_iconst (v := 1) dX4_learn_69 rfl ?_
    refine zV_aload_n 0 dX4_learn_70 rfl rfl ?_
    refine zV_iload_n 1 dX4_learn_71 rfl rfl ?_
    refine zV_cVI (y' := zmX4_nextOf) (n' := 1) (As := [zI x2]) zc_X4_56 (zq_170 hZ) rfl dX4_learn_72 (Nat.le_trans (by decide) hn) rfl (Nat.le_of_ble_eq_true rfl) (Nat.le_of_ble_eq_true rfl) rfl h (fun Q' h' => fX4_nextOf_ok hZ (Nat.le_refl _) hx2 h') (fun r12 c13 b14 h => ?_)
    refine zV_ishl dX4_learn_75 ?_
    refine zV_ior dX4_learn_76 ?_
    obtain ⟨hg, h⟩ := zs_gd h
    refine zV_iald (zq_176 hZ) hg dX4_learn_77 (fun m16 => ?_)
    refine zV_iadd dX4_learn_78 ?_
    refine zV_w ?_
    obtain ⟨hg, h⟩ := zs_gd h
    refine zV_iast (zq_176 hZ) (by decide) hg (z32_w _) dX4_learn_79 ?_
    refine zV_iinc 1 [(2, zI (zw (x2 + (-1)))), (0, zR 170)] dX4_learn_80 rfl rfl (by decide) rfl ?_
    refine zV_goto 50 dX4_learn_83 (by decide) ?_
    refine zV_ls [1, 0] rfl ?_
    exact hc _ h (z32_w _)
noncomputable def fX4_learn (M : zMem) : Option (Int × zMem) :=
  (if (M 40 1) ≤ 8 then (if (M 170 7) = 0 then (zbd (fX4_listNodes (zup M 170 7 1)) fun M6 => (zgd ((0 : Int) ≤ (zw ((zshl 1 (M6 170 4)) - 1)) ∧ (zw ((zshl 1 (M6 170 4)) - 1)) < 256) (zbd (zit (fun s17 => fX4_learn_l50 (s17.1) (s17.2)) ((zw ((zw ((zshl 1 (M6 170 4)) - 1)) - 1)), (zup M6 176 (zw ((zshl 1 (M6 170 4)) - 1)) 0))) fun s23 => (zbd (fX4_follow (s23.2)) fun M29 => some (1, M29))))) else some (1, M)) else some (0, M))
set_option maxRecDepth 100000 in
set_option maxHeartbeats 4000000 in
theorem fX4_learn_ok {Z : zZ} (hZ : zB Z) {nn : Nat} (hn : 3 ≤ nn)   {M : zMem} {Q : Option zAV → zMem → zZ → Prop} (h : zSat (fX4_learn M) (fun r => Q (some (zI r.1)) r.2 Z))  : zV zmX4_learn nn 0 0 Z 0 [(0, zR 170)] [] M Q := by
  unfold fX4_learn at h
  refine zV_aload_n 0 dX4_learn_0 rfl rfl ?_
  refine zV_getR (j := 40) (zq_170 hZ) zf_X4_0 zkf_X4_24 rfl dX4_learn_1 ?_
  refine zV_getI (zq_40 hZ) zf_X7_1 zkf_X4_36 rfl dX4_learn_4 (fun m1 => ?_)
  refine zV_bipush (v := 8) dX4_learn_7 rfl ?_
  refine zV_icmp_le 14 dX4_learn_9 (by decide) m1 zi_8 (fun hc_ => ?_) (fun hc_ => ?_)
  · replace h := zs_t h hc_
    refine zV_aload_n 0 dX4_learn_14 rfl rfl ?_
    refine zV_getI (zq_170 hZ) zf_X4_7 zkf_X4_42 rfl dX4_learn_15 (fun m2 => ?_)
    refine zV_if_ne 90 dX4_learn_18 (by decide) m2 (fun hc_ => ?_) (fun hc_ => ?_)
    · replace h := zs_f h hc_
      refine zV_iconst (v := 1) dX4_learn_90 rfl ?_
      exact zV_iretb dX4_learn_91 rfl (Or.inr rfl) h
    · replace h := zs_t h hc_
      refine zV_aload_n 0 dX4_learn_21 rfl rfl ?_
      refine zV_iconst (v := 1) dX4_learn_22 rfl ?_
      refine zV_putB (zq_170 hZ) (by decide) zf_X4_7 zkf_X4_42 rfl dX4_learn_23 (Or.inr rfl) ?_
      refine zV_aload_n 0 dX4_learn_26 rfl rfl ?_
      refine zV_cVV (y' := zmX4_listNodes) (n' := 2) (As := []) zc_X4_46 (zq_170 hZ) rfl dX4_learn_27 (Nat.le_trans (by decide) hn) rfl (Nat.le_of_ble_eq_true rfl) (Nat.le_of_ble_eq_true rfl) rfl h (fun Q' h' => fX4_listNodes_ok hZ (Nat.le_refl _)  h') (fun M6 h => ?_)
      refine zV_iconst (v := 1) dX4_learn_30 rfl ?_
      refine zV_aload_n 0 dX4_learn_31 rfl rfl ?_
      refine zV_getI (zq_170 hZ) zf_X4_4 zkf_X4_49 rfl dX4_learn_32 (fun m7 => ?_)
      refine zV_ishl dX4_learn_35 ?_
      refine zV_iconst (v := 1) dX4_learn_36 rfl ?_
      refine zV_isub dX4_learn_37 ?_
      refine zV_w ?_
      refine zV_istore_n [(1, zI (zw ((zshl 1 (M6 170 4)) - 1))), (0, zR 170)] dX4_learn_38 rfl (by decide) rfl ?_
      refine zV_aload_n 1 dX4_learn_39 rfl rfl ?_
      refine zV_getR (j := 176) (zq_170 hZ) zf_X4_5 zkf_X4_18 rfl dX4_learn_40 ?_
      refine zV_iload_n 0 dX4_learn_43 rfl rfl ?_
      refine zV_iconst (v := 0) dX4_learn_44 rfl ?_
      obtain ⟨hg, h⟩ := zs_gd h
      refine zV_iast (zq_176 hZ) (by decide) hg zi_0 dX4_learn_45 ?_
      refine zV_iload_n 0 dX4_learn_46 rfl rfl ?_
      refine zV_iconst (v := 1) dX4_learn_47 rfl ?_
      refine zV_isub dX4_learn_48 ?_
      refine zV_w ?_
      refine zV_istore_n [(2, zI (zw ((zw ((zshl 1 (M6 170 4)) - 1)) - 1))), (1, zI (zw ((zshl 1 (M6 170 4)) - 1))), (0, zR 170)] dX4_learn_49 rfl (by decide) rfl ?_
      refine zV_ls [2, 0] rfl ?_
      refine (zV_loop (Vh := fun s17 : Int × zMem => z32 (s17.1) → zV zmX4_learn nn 0 0 Z 50 [(0, zR 170), (2, zI (s17.1))] [] (s17.2) Q) h (fun s17 P18 hP19 hc20 he21 => ?_)) (z32_w _)
      intro c22
      refine fX4_learn_l50_ok hZ hn c22 hP19 hc20 (fun s23 h24 d25 => ?_)
      have h := he21 _ h24
      refine zV_aload_n 0 dX4_learn_86 rfl rfl ?_
      refine zV_cVV (y' := zmX4_follow) (n' := 2) (As := []) zc_X4_59 (zq_170 hZ) rfl dX4_learn_87 (Nat.le_trans (by decide) hn) rfl (Nat.le_of_ble_eq_true rfl) (Nat.le_of_ble_eq_true rfl) rfl h (fun Q' h' => fX4_follow_ok hZ (Nat.le_refl _)  h') (fun M29 h => ?_)
      refine zV_iconst (v := 1) dX4_learn_90 rfl ?_
      exact zV_iretb dX4_learn_91 rfl (Or.inr rfl) h
  · replace h := zs_f h hc_
    refine zV_iconst (v := 0) dX4_learn_12 rfl ?_
    exact zV_iretb dX4_learn_13 rfl (Or.inl rfl) h
noncomputable def fX4_leastMoved (M : zMem) : Option (Int × zMem) :=
  (zbd2 (fX4_learn M) fun r1 M4 => (if r1 = 0 then some ((-1), M4) else (zgd ((0 : Int) ≤ (0 : Int) ∧ (0 : Int) < 256) (some ((M4 176 0), M4)))))
set_option maxRecDepth 100000 in
set_option maxHeartbeats 4000000 in
theorem fX4_leastMoved_ok {Z : zZ} (hZ : zB Z) {nn : Nat} (hn : 4 ≤ nn)   {M : zMem} {Q : Option zAV → zMem → zZ → Prop} (h : zSat (fX4_leastMoved M) (fun r => Q (some (zI r.1)) r.2 Z))  : zV zmX4_leastMoved nn 0 0 Z 0 [(0, zR 170)] [] M Q := by
  unfold fX4_leastMoved at h
  refine zV_aload_n 0 dX4_leastMoved_0 rfl rfl ?_
  refine zV_cVIm (y' := zmX4_learn) (n' := 3) (As := []) zc_X4_32 (zq_170 hZ) rfl dX4_leastMoved_1 (Nat.le_trans (by decide) hn) rfl (Nat.le_of_ble_eq_true rfl) (Nat.le_of_ble_eq_true rfl) rfl h (fun Q' h' => fX4_learn_ok hZ (Nat.le_refl _)  h') (fun r1 M4 c2 b3 h => ?_)
  refine zV_if_eq 16 dX4_leastMoved_4 (by decide) c2 (fun hc_ => ?_) (fun hc_ => ?_)
  · replace h := zs_t h hc_
    refine zV_iconst (v := (-1)) dX4_leastMoved_16 rfl ?_
    exact zV_ireti dX4_leastMoved_17 rfl zi_n1 h
  · replace h := zs_f h hc_
    refine zV_aload_n 0 dX4_leastMoved_7 rfl rfl ?_
    refine zV_getR (j := 176) (zq_170 hZ) zf_X4_5 zkf_X4_18 rfl dX4_leastMoved_8 ?_
    refine zV_iconst (v := 0) dX4_leastMoved_11 rfl ?_
    obtain ⟨hg, h⟩ := zs_gd h
    refine zV_iald (zq_176 hZ) hg dX4_leastMoved_12 (fun m5 => ?_)
    refine zV_goto 17 dX4_leastMoved_13 (by decide) ?_
    exact zV_ireti dX4_leastMoved_17 rfl m5 h
noncomputable def fX4_bowlAt (x1 : Int) (M : zMem) : Option (Int × zMem) :=
  (if x1 < 0 then some ((-1), M) else (if (M 40 1) ≤ x1 then some ((-1), M) else (zbd2 (fX4_learn M) fun r2 M5 => (if r2 = 0 then some ((-1), M5) else (zgd ((0 : Int) ≤ x1 ∧ x1 < 8) (some ((M5 177 x1), M5)))))))
set_option maxRecDepth 100000 in
set_option maxHeartbeats 4000000 in
theorem fX4_bowlAt_ok {Z : zZ} (hZ : zB Z) {nn : Nat} (hn : 4 ≤ nn)  {x1 : Int} (hx1 : z32 x1) {M : zMem} {Q : Option zAV → zMem → zZ → Prop} (h : zSat (fX4_bowlAt x1 M) (fun r => Q (some (zI r.1)) r.2 Z))  : zV zmX4_bowlAt nn 0 0 Z 0 [(0, zR 170), (1, zI x1)] [] M Q := by
  unfold fX4_bowlAt at h
  refine zV_iload_n 1 dX4_bowlAt_0 rfl rfl ?_
  refine zV_if_lt 31 dX4_bowlAt_1 (by decide) hx1 (fun hc_ => ?_) (fun hc_ => ?_)
  · replace h := zs_t h hc_
    refine zV_iconst (v := (-1)) dX4_bowlAt_31 rfl ?_
    exact zV_ireti dX4_bowlAt_32 rfl zi_n1 h
  · replace h := zs_f h hc_
    refine zV_iload_n 1 dX4_bowlAt_4 rfl rfl ?_
    refine zV_aload_n 0 dX4_bowlAt_5 rfl rfl ?_
    refine zV_getR (j := 40) (zq_170 hZ) zf_X4_0 zkf_X4_24 rfl dX4_bowlAt_6 ?_
    refine zV_getI (zq_40 hZ) zf_X7_1 zkf_X4_36 rfl dX4_bowlAt_9 (fun m1 => ?_)
    refine zV_icmp_ge 31 dX4_bowlAt_12 (by decide) hx1 m1 (fun hc_ => ?_) (fun hc_ => ?_)
    · replace h := zs_t h hc_
      refine zV_iconst (v := (-1)) dX4_bowlAt_31 rfl ?_
      exact zV_ireti dX4_bowlAt_32 rfl zi_n1 h
    · replace h := zs_f h hc_
      refine zV_aload_n 0 dX4_bowlAt_15 rfl rfl ?_
      refine zV_cVIm (y' := zmX4_learn) (n' := 3) (As := []) zc_X4_32 (zq_170 hZ) rfl dX4_bowlAt_16 (Nat.le_trans (by decide) hn) rfl (Nat.le_of_ble_eq_true rfl) (Nat.le_of_ble_eq_true rfl) rfl h (fun Q' h' => fX4_learn_ok hZ (Nat.le_refl _)  h') (fun r2 M5 c3 b4 h => ?_)
      refine zV_if_eq 31 dX4_bowlAt_19 (by decide) c3 (fun hc_ => ?_) (fun hc_ => ?_)
      · replace h := zs_t h hc_
        refine zV_iconst (v := (-1)) dX4_bowlAt_31 rfl ?_
        exact zV_ireti dX4_bowlAt_32 rfl zi_n1 h
      · replace h := zs_f h hc_
        refine zV_aload_n 0 dX4_bowlAt_22 rfl rfl ?_
        refine zV_getR (j := 177) (zq_170 hZ) zf_X4_6 zkf_X4_21 rfl dX4_bowlAt_23 ?_
        refine zV_iload_n 1 dX4_bowlAt_26 rfl rfl ?_
        obtain ⟨hg, h⟩ := zs_gd h
        refine zV_iald (zq_177 hZ) hg dX4_bowlAt_27 (fun m6 => ?_)
        refine zV_goto 32 dX4_bowlAt_28 (by decide) ?_
        exact zV_ireti dX4_bowlAt_32 rfl m6 h
