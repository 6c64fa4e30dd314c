/-! PURE PART, 29: the model has tried -/
section TRD
variable {σ M : zMem} {k x : Int}
theorem m_trSave : zSat (zit (fun s3 : Int × zMem => fX12_hasTried_l13 (s3.1) (s3.2)) (0, M)) (fun e => (∀ c : Nat, c ≠ 252 → e.2 c = M c) ∧ ∀ q : Int, 0 ≤ q → q < 24 → e.2 252 q = M 249 q) := by
  refine zit_i2 (fun y N => fX12_hasTried_l13 y N) (fun m y N => m = (24 - y).toNat ∧ 0 ≤ y ∧ y ≤ 24 ∧ (∀ c : Nat, c ≠ 252 → N c = M c) ∧ ∀ q : Int, 0 ≤ q → q < y → N 252 q = M 249 q) ?_ _ ⟨rfl, by omega, by omega, fun _ _ => rfl, fun q q0 q1 => by omega⟩
  rintro m y N ⟨hm, y0, y1, g1, g2⟩
  show zSat (fX12_hasTried_l13 y N) _
  unfold fX12_hasTried_l13
  by_cases c : 24 ≤ y
  · rw [if_pos c]
    exact ⟨g1, fun q q0 q1 => g2 q q0 (by omega)⟩
  · rw [if_neg c, zgd_t ⟨y0, by omega⟩, zgd_t ⟨y0, by omega⟩, zw_i (by omega) (by omega)]
    refine ⟨(24 - (y + 1)).toNat, by omega, rfl, by show 0 ≤ y + 1; omega, by show y + 1 ≤ 24; omega, fun c hc => by funext q; show zup N 252 y _ c q = _; rw [zup_ne hc, g1 c hc], fun q q0 q1 => ?_⟩
    show zup N 252 y _ 252 q = _
    by_cases e : q = y
    · subst e; rw [zup_eq, g1 249 (by decide)]
    · rw [zup_nk e]; exact g2 q q0 (by have q1 : q < y + 1 := q1; omega)
theorem m_trBack : zSat (zit (fun s17 : Int × zMem => fX12_hasTried_l57 (s17.1) (s17.2)) (0, M)) (fun e => (∀ c : Nat, c ≠ 249 → e.2 c = M c) ∧ (∀ q : Int, 0 ≤ q → q < 24 → e.2 249 q = M 252 q) ∧ ∀ q : Int, q < 0 ∨ 24 ≤ q → e.2 249 q = M 249 q) := by
  refine zit_i2 (fun y N => fX12_hasTried_l57 y N) (fun m y N => m = (24 - y).toNat ∧ 0 ≤ y ∧ y ≤ 24 ∧ (∀ c : Nat, c ≠ 249 → N c = M c) ∧ (∀ q : Int, 0 ≤ q → q < y → N 249 q = M 252 q) ∧ ∀ q : Int, q < 0 ∨ 24 ≤ q → N 249 q = M 249 q) ?_ _ ⟨rfl, by omega, by omega, fun _ _ => rfl, fun q q0 q1 => by omega, fun _ _ => rfl⟩
  rintro m y N ⟨hm, y0, y1, g1, g2, g3⟩
  show zSat (fX12_hasTried_l57 y N) _
  unfold fX12_hasTried_l57
  by_cases c : 24 ≤ y
  · rw [if_pos c]
    exact ⟨g1, fun q q0 q1 => g2 q q0 (by omega), g3⟩
  · rw [if_neg c, zgd_t ⟨y0, by omega⟩, zgd_t ⟨y0, by omega⟩, zw_i (by omega) (by omega)]
    refine ⟨(24 - (y + 1)).toNat, by omega, rfl, by show 0 ≤ y + 1; omega, by show y + 1 ≤ 24; omega, fun c hc => by funext q; show zup N 249 y _ c q = _; rw [zup_ne hc, g1 c hc], fun q q0 q1 => ?_, fun q hq => ?_⟩
    · show zup N 249 y _ 249 q = _
      by_cases e : q = y
      · subst e; rw [zup_eq, g1 252 (by decide)]
      · rw [zup_nk e]; exact g2 q q0 (by have q1 : q < y + 1 := q1; omega)
    · show zup N 249 y _ 249 q = _
      rw [zup_nk (by omega)]; exact g3 q hq
theorem zSc_250 {c : Nat} (q : Int) (h1 : 250 ≤ c) (h2 : c < 262) : zSc c q = false := by
  have : c = 250 ∨ c = 251 ∨ c = 252 ∨ c = 253 ∨ c = 254 ∨ c = 255 ∨ c = 256 ∨ c = 257 ∨ c = 258 ∨ c = 259 ∨ c = 260 ∨ c = 261 := by omega
  rcases this with rfl | rfl | rfl | rfl | rfl | rfl | rfl | rfl | rfl | rfl | rfl | rfl <;> rfl
theorem m_hasTried (h : St σ) (hA : zAg σ M) : zSat (fX12_hasTried M) (fun e => zAg σ e.2 ∧ zFm M e.2 ∧ ((8 < σ 80 0 ∧ e.1 = 0) ∨ (σ 80 0 ≤ 8 ∧ e.1 = 1 ∧ 0 ≤ e.2 200 53 ∧ zFP σ (if 100000000 ≤ e.2 200 53 then -1 else e.2 200 53) (e.2 200 54) (e.2 253)))) := by
  have hnn := r_nn h
  unfold fX12_hasTried
  rw [a_nn h hA.x]
  by_cases c : σ 80 0 ≤ 8
  · rw [if_pos c, zS_bd]
    refine zs_m m_trSave ?_
    rintro ⟨y, M1⟩ ⟨a1, a2⟩
    dsimp only at a1 a2 ⊢
    rw [zS_bd]
    generalize hM2 : zup (zup M1 200 53 100000000) 200 54 0 = M2
    have m2 : ∀ c : Nat, c ≠ 200 → M2 c = M1 c := fun c hc => by funext q; rw [← hM2, zup_ne hc, zup_ne hc]
    have m53 : M2 200 53 = 100000000 := by rw [← hM2, zup_nk (by decide), zup_eq]
    have m54 : M2 200 54 = 0 := by rw [← hM2, zup_eq]
    have hA2 : zAx σ M2 := by
      rw [← hM2]
      refine zAx.up (zAx.up ?_ (Or.inl rfl)) (Or.inl rfl)
      intro c q hc hs
      by_cases e : c = 252
      · subst e; cases hs
      · rw [a1 c e]; exact hA c q hs
    have run := m_tries h c (σ 80 0).toNat 20 (by omega) 0 M2 (by omega) hA2 (fun q hq => by omega) ⟨fun q => by rw [m53] at q; omega, by rw [m54]; omega⟩
    refine zs_m run ?_
    rintro V ⟨tV, jV, fV, -, cV, bV⟩
    rw [zS_bd]
    refine zs_m m_trBack ?_
    rintro ⟨y', W⟩ ⟨b1, b2, b3⟩
    dsimp only at b1 b2 b3
    have wc : ∀ c : Nat, c ≠ 249 → c ≠ 253 → c ≠ 200 → c ≠ 252 → W c = M c := fun c c1 c2 c3 c4 => by
      rw [b1 c c1, tV.1 c c1 c2 c3, m2 c c3, a1 c c4]
    have w200 : ∀ q : Int, q ≠ 53 → q ≠ 54 → W 200 q = M 200 q := fun q q1 q2 => by
      rw [b1 200 (by decide), tV.2.1 q q1 q2, ← hM2, zup_nk q2, zup_nk q1, a1 200 (by decide)]
    have w249 : W 249 = M 249 := by
      funext q
      by_cases d : 0 ≤ q ∧ q < 24
      · rw [b2 q d.1 d.2, tV.1 252 (by decide) (by decide) (by decide), m2 252 (by decide), a2 q d.1 d.2]
      · rw [b3 q (by omega), tV.2.2 q (by omega), m2 249 (by decide), a1 249 (by decide)]
    refine ⟨?_, ?_, Or.inr ⟨c, rfl, ?_, ?_⟩⟩
    · intro c q hs
      show W c q = _
      by_cases c1 : c = 249
      · subst c1; rw [w249]; exact hA 249 q hs
      · by_cases c2 : c = 200
        · subst c2
          by_cases d : q = 53 ∨ q = 54
          · rcases d with rfl | rfl <;> cases hs
          · rw [w200 q (fun e => d (Or.inl e)) (fun e => d (Or.inr e))]; exact hA 200 q hs
        · by_cases c3 : c = 252 ∨ c = 253
          · rcases c3 with rfl | rfl <;> cases hs
          · rw [wc c c1 (fun e => c3 (Or.inr e)) c2 (fun e => c3 (Or.inl e))]; exact hA c q hs
    · intro c hc
      show W c = M c
      exact wc c (by omega) (by omega) (by omega) (by omega)
    · show 0 ≤ W 200 53
      rw [b1 200 (by decide)]
      rcases bV with ⟨e1, -, -⟩ | ⟨-, e2, -, -⟩
      · rw [e1, m53]; decide
      · rw [e2]; exact (zlfs_b _ _).1
    · show zFP σ (if 100000000 ≤ W 200 53 then -1 else W 200 53) (W 200 54) (W 253)
      rw [b1 200 (by decide), b1 253 (by decide)]
      rw [m53] at bV
      have b54 := fV.1
      rw [m54] at b54
      refine ⟨⟨⟨b54, jV.2, ?_⟩, fun t m m1 m2' => cV t m (by omega) m1 m2' (fun q hq => by omega)⟩, ?_⟩
      · rcases fV.2 with e | e
        · exact ⟨M 249, fun q hq => by rw [e, m54] at hq; simp at hq⟩
        · exact e
      · have cb : ∀ t, zcF σ t ≤ 8 := fun t => by
          have := (zlfs_b (σ := σ) t (σ 80 0).toNat).2
          unfold zcF; omega
        rcases bV with ⟨e1, e2, e3⟩ | ⟨e1, e2, e3, e4⟩
        · left
          rw [e1, if_pos (by omega)]
          refine ⟨rfl, fun t ht => ?_⟩
          have := e3 t ⟨ht, fun q hq => by omega⟩
          have := cb t
          omega
        · right
          rw [if_neg (by omega)]
          exact ⟨e1.1, e2, fun t ht => e4 t ⟨ht, fun q hq => by omega⟩⟩
  · rw [if_neg c]
    exact ⟨hA, zFm.refl M, Or.inl ⟨by omega, rfl⟩⟩
end TRD
