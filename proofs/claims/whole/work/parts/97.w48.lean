/-! PURE PART, 48: groundOf, once the class has learnt -/
section GRX
variable {Pk : zMem}
variable {σ M : zMem} {k x b : Int}
theorem zwgt_p {n : Int} : 1 ≤ zwgt n ∧ zwgt n ≤ 823543 := by
  unfold zwgt
  repeat' split
  all_goals omega
theorem e_stepOf (h : St σ) (hk : M 150 13 ≠ 0) (hg : Cg σ M) (b0 : 0 ≤ b) (b1 : b < σ 40 0) : fX1_stepOf b M = some (zstp M b, M) := by
  have hbw := r_bw h
  obtain ⟨g1, g2, -⟩ := hg hk
  unfold fX1_stepOf fX1_learn
  rw [if_neg hk, zbd_s, zgd_t ⟨b0, by omega⟩]
  unfold zstp
  by_cases c : M 153 b = -1
  · rw [if_pos c, if_pos c]
  · have r := g2 b b0 b1
    have w := zwgt_p (n := M 153 b)
    have q0 : 0 ≤ M 150 12 / zwgt (M 153 b) := Int.ediv_nonneg g1.1 (by omega)
    have q1 : M 150 12 / zwgt (M 153 b) ≤ M 150 12 := Int.ediv_le_self _ g1.1
    rw [if_neg c, if_neg c, e_weightOf (by omega) r.2, zbd_s, zgd_t (by omega), zgd_t (by decide), zldiv_n ⟨by omega, by omega⟩ ⟨by omega, by omega⟩ g1.1 (by omega)]
    rw [zlrem_n ⟨by omega, by omega⟩ ⟨by decide, by decide⟩ q0 (by decide)]
    generalize M 150 12 / zwgt (M 153 b) = z
    rw [zw_i (by omega) (by omega)]
/-- the model where the class refuses -/
theorem m_grNo (hPk : zPk Pk σ) (h : St σ) (hA : zAg σ M) (hC : Cs σ M) (hb : ¬ (0 ≤ b ∧ b < σ 40 0)) : zSat (fX12_groundOf b M) (fun e' => e'.2 200 0 = 1 ∧ Inv Pk e'.2) := by
  unfold fX12_groundOf fX12_groundOf_j20 fX12_groundOf_j21
  rw [m_isBowl h hA.x, zbd_s, if_neg hb, if_pos rfl, zup_eq, if_pos rfl]
  exact ⟨zup_eq (M := M) (c := 200) (k := 0) (v := 1), Inv.m hPk hC h (hA.up rfl) ((zFm.refl M).up (by omega) (by omega))⟩
theorem m_grYes (hPk : zPk Pk σ) (h : St σ) (hA : zAg σ M) (hC : Cs σ M) (hb : 0 ≤ b ∧ b < σ 40 0) {gl : Int} {st : Int → Int} (g : zGP σ gl st) : zSat (fX12_groundOf b M) (fun e' => Inv Pk e'.2 ∧ ((gl = -1 ∧ e'.2 200 0 = 1) ∨ (gl ≠ -1 ∧ e'.2 200 0 = 0 ∧ e'.1 = st b))) := by
  have hbw := r_bw h
  unfold fX12_groundOf fX12_groundOf_j20 fX12_groundOf_j21
  rw [m_isBowl h hA.x, zbd_s, if_pos hb, if_neg (show ¬ (1 : Int) = 0 by decide), zS_bd2]
  refine zs_m (m_isGround h hA) ?_
  rintro ⟨r', W⟩ ⟨w1, w2, -, w3⟩
  dsimp only at w1 w2 w3 ⊢
  have iW : ∀ v : Int, Inv Pk (zup W 200 0 v) := fun v => Inv.m hPk hC h (w1.up rfl) (w2.up (by omega) (by omega))
  rcases w3 with ⟨q1, q2⟩ | ⟨q1, q2, q3⟩
  · have e := zGP_eq h g q2
    rw [if_pos q1, zup_eq, if_pos rfl]
    exact ⟨iW 1, Or.inl ⟨e.1, zup_eq (M := W) (c := 200) (k := 0) (v := 1)⟩⟩
  · have e := zGP_eq h g q3
    rw [if_neg (by omega), zup_eq, if_neg (show ¬ (0 : Int) = 1 by decide), zgd_t ⟨hb.1, by omega⟩]
    refine ⟨iW 0, Or.inr ⟨by omega, zup_eq (M := W) (c := 200) (k := 0) (v := 0), ?_⟩⟩
    show zup W 200 0 0 257 b = st b
    rw [zup_ne (by decide)]
    have := e.2 (by omega) b.toNat (by omega)
    rw [show ((b.toNat : Nat) : Int) = b by omega] at this
    exact this.symm
theorem c_groundOf (hL : zGL) (hI : Inv Pk M) : ∃ σ : zMem, zAg σ M ∧ St σ ∧ Cs σ M ∧ (¬ (0 ≤ b ∧ b < σ 40 0) → zSat (fX12_groundOf b M) (fun e' => e'.2 200 0 = 1 ∧ Inv Pk e'.2)) ∧ (0 ≤ b ∧ b < σ 40 0 → zSat (fX1_leastGlass M) (fun e => (e.1 = -1 → zSat (fX12_groundOf b e.2) (fun e' => e'.2 200 0 = 1 ∧ Inv Pk e'.2)) ∧ (e.1 ≠ -1 → zSat (fX1_stepOf b e.2) (fun f => zSat (fX12_groundOf b f.2) (fun e' => e'.1 = f.1 ∧ e'.2 200 0 = 0 ∧ Inv Pk e'.2))))) := by
  obtain ⟨σ, hA, h, hC, hPk⟩ := hI
  refine ⟨σ, hA, h, hC, fun hb => m_grNo hPk h hA hC hb, fun hb => ?_⟩
  refine zs_m (e_leastGlass hL h hA hC) ?_
  rintro ⟨r, N⟩ ⟨hN, hCN, k, hr⟩
  dsimp only at hN hCN k hr ⊢
  have g := (hCN.2.2.2.1 k).2.2
  rw [← hr] at g
  have m := m_grYes hPk h hN hCN hb g
  refine ⟨fun e => zs_m m ?_, fun e => ?_⟩
  · rintro e' ⟨i, q | q⟩
    · exact ⟨q.2, i⟩
    · exact absurd e q.1
  · rw [e_stepOf h k hCN.2.2.2.1 hb.1 hb.2]
    show zSat (fX12_groundOf b N) (fun e' => e'.1 = zstp N b ∧ e'.2 200 0 = 0 ∧ Inv Pk e'.2)
    refine zs_m m ?_
    rintro e' ⟨i, q | q⟩
    · exact absurd q.1 e
    · exact ⟨q.2.2, q.2.1, i⟩
end GRX
