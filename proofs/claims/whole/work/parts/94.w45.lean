/-! PURE PART, 45: the model's grinding, whole -/
section GRF
variable {σ M : zMem} {k x : Int}
theorem m_npr (h : St σ) (hA : zAx σ M) : zSat (zit (fun s6 : Int × Int => fX12_isGround_l4 (s6.1) (s6.2) M) (0, 0)) (fun e => e.1 = znpr σ) := by
  have hbw := r_bw h
  have key := zit_for (f := fun s6 : Int × Int => fX12_isGround_l4 (s6.1) (s6.2) M) (σ 40 0).toNat (fun i => (zsum (fun b => if zprd σ b then 1 else 0) i, (i : Int))) (e := (znpr σ, ((σ 40 0).toNat : Int))) ?_ ?_
  · rw [show zit (fun s6 : Int × Int => fX12_isGround_l4 (s6.1) (s6.2) M) (0, 0) = _ from key]; rfl
  · intro i hi
    have t1 : 0 ≤ zsum (fun b => if zprd σ b then 1 else 0) i := zsum_0 fun q _ => by split <;> omega
    have t2 : zsum (fun b => if zprd σ b then 1 else 0) i ≤ 1 * (i : Int) := zsum_le fun q _ => by split <;> omega
    show fX12_isGround_l4 (zsum (fun b => if zprd σ b then 1 else 0) i) i M = some (.inl (zsum (fun b => if zprd σ b then 1 else 0) i + (if zprd σ i then 1 else 0), ((i + 1 : Nat) : Int)))
    generalize zsum (fun b => if zprd σ b then 1 else 0) i = z at t1 t2 ⊢
    unfold fX12_isGround_l4 fX12_isGround_j28
    rw [a_bw h hA, zgd_t (by decide), if_neg (by omega), m_isPaired h hA, zbd_s, zw_i (x := (i : Int) + 1) (by omega) (by omega)]
    by_cases c : zprd σ i
    · rw [if_pos c, if_neg (show ¬ (1 : Int) = 0 by decide), zw_i (by omega) (by omega)]; rfl
    · rw [if_neg c, if_pos rfl, zw_i (by omega) (by omega)]; rfl
  · show fX12_isGround_l4 _ ((σ 40 0).toNat : Int) M = _
    unfold fX12_isGround_l4
    rw [a_bw h hA, zgd_t (by decide), if_pos (by omega)]
    rfl
theorem m_isGround (h : St σ) (hA : zAg σ M) : zSat (fX12_isGround M) (fun e => zAg σ e.2 ∧ zFm M e.2 ∧ e.2 200 0 = M 200 0 ∧ ((e.1 = 0 ∧ zGP σ (-1) (e.2 257)) ∨ (e.1 = 1 ∧ 0 ≤ e.2 200 57 ∧ zGP σ (e.2 200 57) (e.2 257)))) := by
  have hbw := r_bw h
  unfold fX12_isGround
  rw [zS_bd]
  refine zs_m (m_npr h hA.x) ?_
  rintro ⟨z, w⟩ hz
  dsimp only at hz
  subst hz
  dsimp only
  by_cases c : znpr σ ≤ 8
  · rw [if_pos c, zS_bd]
    generalize hM1 : zup M 200 57 100000000 = M1
    have m57 : M1 200 57 = 100000000 := by rw [← hM1, zup_eq]
    have m2 : ∀ q : Int, q ≠ 57 → M1 200 q = M 200 q := fun q hq => by rw [← hM1, zup_nk hq]
    have mc : ∀ c : Nat, c ≠ 200 → M1 c = M c := fun c hc => by funext q; rw [← hM1, zup_ne hc]
    have hA1 : zAg σ M1 := by rw [← hM1]; exact hA.up rfl
    have run := m_grinds h (σ 40 0).toNat 20 (by omega) 0 M1 (by omega) hA1.x (fun q hq => by omega)
    refine zs_m run ?_
    rintro V ⟨tV, bV⟩
    rw [m57] at bV
    have hAV : zAg σ V := fun c q hs => by
      by_cases c1 : c = 256 ∨ c = 257
      · rcases c1 with rfl | rfl <;> cases hs
      · by_cases c2 : c = 200
        · subst c2
          by_cases d : q = 57
          · subst d; cases hs
          · rw [tV.2.1 q d]; exact hA1 200 q hs
        · rw [tV.1 c (fun e => c1 (Or.inl e)) (fun e => c1 (Or.inr e)) c2]; exact hA1 c q hs
    have fm : zFm M V := fun c hc => by rw [tV.1 c (by omega) (by omega) (by omega), mc c (by omega)]
    have v0 : V 200 0 = M 200 0 := by rw [tV.2.1 0 (by decide), m2 0 (by decide)]
    have cb : ∀ t, zgOK σ t → zgls σ t ≤ 297 * 12 := fun t ht => by
      have := (zgc_b h (m := (σ 40 0).toNat) (by omega) ((zgOK_v h).1 ht)).2
      show zgc σ t (σ 40 0).toNat ≤ _
      omega
    rcases bV with ⟨e1, e2, e3⟩ | ⟨e1, e2, e3, e4⟩
    · rw [if_pos (by omega)]
      refine ⟨hAV, fm, v0, Or.inl ⟨rfl, Or.inl ⟨rfl, Or.inr fun t ht => ?_⟩⟩⟩
      have := e3 t ⟨(zgOK_v h).1 ht, fun q hq => by omega⟩
      have := cb t ht
      omega
    · rw [if_neg (by omega)]
      refine ⟨hAV, fm, v0, Or.inr ⟨rfl, ?_, Or.inr ⟨c, (zgOK_v h).2 e1.1, e2, fun t ht => e4 t ⟨(zgOK_v h).1 ht, fun q hq => by omega⟩⟩⟩⟩
      show 0 ≤ V 200 57
      rw [e2]; exact zgls_0 h _
  · rw [if_neg c]
    exact ⟨hA, zFm.refl M, rfl, Or.inl ⟨rfl, Or.inl ⟨rfl, Or.inl (by omega)⟩⟩⟩
end GRF
