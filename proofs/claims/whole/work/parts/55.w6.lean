/-! PURE PART, 6: fingers: worn, WRONG, lifts -/
section HND
variable {σ M : zMem} {k b t n x : Int} {fg : Int → Int} {o1 no1 : Nat}
theorem zwo_r (h : St σ) {f : Int} : ∀ {j : Nat}, (j : Int) ≤ σ 80 0 → (-1 ≤ (zwo σ fg f j).2 ∧ (zwo σ fg f j).2 < j) ∧ (0 ≤ (zwo σ fg f j).1 ∧ (zwo σ fg f j).1 ≤ 40 * j) ∧ ((zwo σ fg f j).2 < 0 → (zwo σ fg f j).1 = 0)
  | 0, _ => by simp [zwo]
  | j + 1, hj => by
    obtain ⟨h1, h2, h3⟩ := zwo_r h (f := f) (j := j) (by omega)
    unfold zwo
    by_cases c1 : fg j = f
    · rw [if_pos c1]
      by_cases c2 : (zwo σ fg f j).2 < 0
      · rw [if_pos c2]; exact ⟨⟨by show (-1 : Int) ≤ j; omega, by show (j : Int) < _; omega⟩, ⟨h2.1, by show (zwo σ fg f j).1 ≤ _; omega⟩, fun _ => h3 c2⟩
      · rw [if_neg c2]
        have := r_nl h (k := (zwo σ fg f j).2) (by omega) (by omega)
        by_cases c3 : σ 83 j - (σ 83 (zwo σ fg f j).2 + σ 84 (zwo σ fg f j).2) < σ 59 5
        · rw [if_pos c3]; exact ⟨⟨by show (-1 : Int) ≤ j; omega, by show (j : Int) < _; omega⟩, ⟨by show 0 ≤ (zwo σ fg f j).1 + _; omega, by show (zwo σ fg f j).1 + _ ≤ _; omega⟩, fun q => by have q : (j : Int) < 0 := q; omega⟩
        · rw [if_neg c3]; exact ⟨⟨by show (-1 : Int) ≤ j; omega, by show (j : Int) < _; omega⟩, ⟨Int.le_refl 0, by show (0 : Int) ≤ _; omega⟩, fun _ => rfl⟩
    · rw [if_neg c1]; exact ⟨⟨h1.1, by omega⟩, ⟨h2.1, by omega⟩, h3⟩
theorem zwor_r (h : St σ) (h0 : 0 ≤ n) (h1 : n < σ 80 0) : 0 ≤ zwor σ fg n ∧ zwor σ fg n ≤ 960 := by
  have hn := r_nn h
  have := (zwo_r (fg := fg) h (f := fg n) (j := n.toNat + 1) (by omega)).2.1
  unfold zwor; omega
theorem e_worn (h : St σ) (hA : zAx σ M) (h0 : 0 ≤ n) (h1 : n < σ 80 0) (hn1 : n < no1) (hg : ∀ k : Int, 0 ≤ k → k ≤ n → M o1 k = fg k) : fX2_wornBefore o1 no1 n M = some (zwor σ fg n) := by
  have hn := r_nn h
  have ht := r_ti h
  have hl := r_nl h h0 h1
  unfold fX2_wornBefore
  obtain ⟨i, rfl⟩ : ∃ i : Nat, n = i := ⟨n.toNat, by omega⟩
  have el : (zwo σ fg (fg i) (i + 1)).2 = i := by
    unfold zwo; rw [if_pos rfl]
    split
    · rfl
    · split <;> rfl
  have hz := zwo_r (fg := fg) h (f := fg i) (j := i + 1) (by omega)
  have key := zit_for (f := fun s10 : Int × Int × Int => fX2_wornBefore_l8 o1 no1 i (s10.1) (s10.2.1) (s10.2.2) M) (i + 1) (fun j => ((if (zwo σ fg (fg i) j).2 < 0 then 0 else (zwo σ fg (fg i) j).1 + σ 84 (zwo σ fg (fg i) j).2), (if (zwo σ fg (fg i) j).2 < 0 then -1 else σ 83 (zwo σ fg (fg i) j).2 + σ 84 (zwo σ fg (fg i) j).2), (j : Int))) (e := (zwor σ fg i + σ 84 i, σ 83 i + σ 84 i, ((i + 1 : Nat) : Int))) ?_ ?_
  · rw [show zit (fun s10 : Int × Int × Int => fX2_wornBefore_l8 o1 no1 i (s10.1) (s10.2.1) (s10.2.2) M) (0, -1, 0) = _ from key, zbd_s]
    have hw := zwor_r (fg := fg) h h0 h1
    rw [hA.fl 84 rfl (by decide)]
    simp (disch := omega) only [zgd_t, zbd_s, zbd2_s, zw_i, if_pos, if_neg, ↓reduceIte, Nat.reduceAdd]
    simp only [Option.some.injEq]; omega
  · intro j hj
    have hz := zwo_r (fg := fg) h (f := fg i) (j := j) (by omega)
    have j0 : (0 : Int) ≤ j := by omega
    have j1 : (j : Int) < σ 80 0 := by omega
    have jl := r_nl h j0 j1
    dsimp only
    have ez : zwo σ fg (fg i) (j + 1) = if fg j = fg i then (if (zwo σ fg (fg i) j).2 < 0 then ((zwo σ fg (fg i) j).1, (j : Int)) else if σ 83 j - (σ 83 (zwo σ fg (fg i) j).2 + σ 84 (zwo σ fg (fg i) j).2) < σ 59 5 then ((zwo σ fg (fg i) j).1 + σ 84 (zwo σ fg (fg i) j).2, (j : Int)) else (0, (j : Int))) else zwo σ fg (fg i) j := rfl
    unfold fX2_wornBefore_l8 fX2_wornBefore_j57
    rw [hg j j0 (by omega), hg i h0 (by omega), hA.fl 83 rfl (by decide), hA.fl 84 rfl (by decide), hA.fl 59 rfl (by decide), e_end h hA j0 j1, zbd_s, ez]
    generalize zwo σ fg (fg i) j = s at hz ⊢
    obtain ⟨s1, s2⟩ := s
    dsimp only at hz ⊢
    by_cases c1 : fg j = fg i
    · by_cases c2 : s2 < 0
      · have : s1 = 0 := hz.2.2 c2
        simp (disch := omega) only [zgd_t, zbd_s, zbd2_s, zw_i, if_pos, if_neg, ↓reduceIte, Nat.reduceAdd, c1]
        try simp [this, show ¬ ((j : Int) < 0) by omega]
      · have sl := r_nl h (k := s2) (by omega) (by omega)
        by_cases c3 : σ 83 j - (σ 83 s2 + σ 84 s2) < σ 59 5
        · simp (disch := omega) only [zgd_t, zbd_s, zbd2_s, zw_i, if_pos, if_neg, ↓reduceIte, Nat.reduceAdd, c1, c3]
          try simp [show ¬ ((j : Int) < 0) by omega]
        · simp (disch := omega) only [zgd_t, zbd_s, zbd2_s, zw_i, if_pos, if_neg, ↓reduceIte, Nat.reduceAdd, c1, c3]
          try simp [show ¬ ((j : Int) < 0) by omega]
    · simp (disch := omega) only [zgd_t, zbd_s, zbd2_s, zw_i, if_pos, if_neg, ↓reduceIte, Nat.reduceAdd, c1]
      try simp
  · dsimp only
    unfold fX2_wornBefore_l8
    rw [if_pos (by omega), el, if_neg (by omega), if_neg (by omega)]
    rfl
theorem m_worn (h : St σ) (hA : zAx σ M) (h0 : 0 ≤ n) (h1 : n < σ 80 0) (hg : ∀ k : Int, 0 ≤ k → k ≤ n → M 249 k = fg k) : fX12_worn n M = some (zwor σ fg n) := by
  have hn := r_nn h
  have ht := r_ti h
  unfold fX12_worn
  obtain ⟨i, rfl⟩ : ∃ i : Nat, n = i := ⟨n.toNat, by omega⟩
  have key := zit_for (f := fun s10 : Int × Int × Int => fX12_worn_l7 i (s10.1) (s10.2.1) (s10.2.2) M) (i + 1) (fun j => ((zwo σ fg (fg i) j).1, (zwo σ fg (fg i) j).2, (j : Int))) (e := ((zwo σ fg (fg i) (i + 1)).1, (zwo σ fg (fg i) (i + 1)).2, ((i + 1 : Nat) : Int))) ?_ ?_
  · rw [show zit (fun s10 : Int × Int × Int => fX12_worn_l7 i (s10.1) (s10.2.1) (s10.2.2) M) (0, -1, 0) = _ from key]; rfl
  · intro j hj
    have hz := zwo_r (fg := fg) h (f := fg i) (j := j) (by omega)
    have j0 : (0 : Int) ≤ j := by omega
    have j1 : (j : Int) < σ 80 0 := by omega
    have jl := r_nl h j0 j1
    dsimp only
    have ez : zwo σ fg (fg i) (j + 1) = if fg j = fg i then (if (zwo σ fg (fg i) j).2 < 0 then ((zwo σ fg (fg i) j).1, (j : Int)) else if σ 83 j - (σ 83 (zwo σ fg (fg i) j).2 + σ 84 (zwo σ fg (fg i) j).2) < σ 59 5 then ((zwo σ fg (fg i) j).1 + σ 84 (zwo σ fg (fg i) j).2, (j : Int)) else (0, (j : Int))) else zwo σ fg (fg i) j := rfl
    unfold fX12_worn_l7 fX12_worn_j70 fX12_worn_j71
    rw [hg j j0 (by omega), hg i h0 (by omega), a_nr h hA j0 j1, a_st h hA (k := 5) (by decide) (by decide), ez]
    generalize zwo σ fg (fg i) j = s at hz ⊢
    obtain ⟨s1, s2⟩ := s
    dsimp only at hz ⊢
    by_cases c1 : fg j = fg i
    · by_cases c2 : s2 < 0
      · simp (disch := omega) only [zgd_t, zbd_s, zbd2_s, zw_i, if_pos, if_neg, ↓reduceIte, Nat.reduceAdd, c1]; try simp
      · have s1 : s2 < σ 80 0 := by omega
        have s0 : 0 ≤ s2 := by omega
        have sl := r_nl h s0 s1
        rw [m_end h hA s0 s1, zbd_s, a_nl h hA s0 s1]
        by_cases c3 : σ 83 j - (σ 83 s2 + σ 84 s2) < σ 59 5
        · simp (disch := omega) only [zgd_t, zbd_s, zbd2_s, zw_i, if_pos, if_neg, ↓reduceIte, Nat.reduceAdd, c1, c3]; try simp
        · simp (disch := omega) only [zgd_t, zbd_s, zbd2_s, zw_i, if_pos, if_neg, ↓reduceIte, Nat.reduceAdd, c1, c3]; try simp
    · simp (disch := omega) only [zgd_t, zbd_s, zbd2_s, zw_i, if_pos, if_neg, ↓reduceIte, Nat.reduceAdd, c1]
      try simp
  · dsimp only
    unfold fX12_worn_l7
    rw [if_pos (by omega)]
theorem m_isDry (h : St σ) (hA : zAx σ M) (h0 : 0 ≤ n) (h1 : n < σ 80 0) (t0 : 0 ≤ t) (t1 : t < 1000) (hg : ∀ k : Int, 0 ≤ k → k ≤ n → M 249 k = fg k) : fX12_isDry n t M = some (if zdry σ fg n t then 1 else 0) := by
  have hn := r_nn h
  have hl := r_nl h h0 h1
  have hw := zwor_r (fg := fg) h h0 h1
  unfold fX12_isDry
  rw [hg n h0 (Int.le_refl _), m_worn h hA h0 h1 hg, zbd_s, a_nr h hA h0 h1, a_st h hA (k := 4) (by decide) (by decide)]
  unfold zdry
  by_cases c1 : fg n < 0
  · simp (disch := omega) only [zgd_t, zbd_s, zbd2_s, zw_i, if_pos, if_neg, ↓reduceIte, Nat.reduceAdd, c1]
  · by_cases c2 : zwor σ fg n + t - σ 83 n < σ 59 4
    · simp (disch := omega) only [zgd_t, zbd_s, zbd2_s, zw_i, if_pos, if_neg, ↓reduceIte, Nat.reduceAdd, c1]
    · simp (disch := omega) only [zgd_t, zbd_s, zbd2_s, zw_i, if_pos, if_neg, ↓reduceIte, Nat.reduceAdd, c1]
theorem e_driesIn (h : St σ) (hA : zAx σ M) (h0 : 0 ≤ n) (h1 : n < σ 80 0) (t0 : 0 ≤ t) (t1 : t < 1000) : fX2_driesIn n t M = some (if zdry σ (σ 86) n (t + σ 83 n) then 1 else 0) := by
  have hn := r_nn h
  have hl := r_nl h h0 h1
  have hw := zwor_r (fg := σ 86) h h0 h1
  have hf := r_nf h h0 h1
  unfold fX2_driesIn
  rw [e_worn (fg := σ 86) h hA h0 h1 (by omega) (fun k _ _ => by rw [hA.fl 86 rfl (by decide)]), zbd_s, hA.fl 86 rfl (by decide), hA.fl 59 rfl (by decide)]
  unfold zdry
  by_cases c1 : σ 86 n = -1
  · simp (disch := omega) only [zgd_t, zbd_s, zbd2_s, zw_i, if_pos, if_neg, ↓reduceIte, Nat.reduceAdd, c1]
  · by_cases c2 : zwor σ (σ 86) n + t < σ 59 4
    · simp (disch := omega) only [zgd_t, zbd_s, zbd2_s, zw_i, if_pos, if_neg, ↓reduceIte, Nat.reduceAdd, c1]
    · simp (disch := omega) only [zgd_t, zbd_s, zbd2_s, zw_i, if_pos, if_neg, ↓reduceIte, Nat.reduceAdd, c1]
theorem e_overlap (h : St σ) (hA : zAx σ M) (h0 : 0 ≤ n) (h1 : n < σ 80 0) (k0 : 0 ≤ k) (k1 : k < σ 80 0) : fX5_overlap 80 k n M = some (if zmee σ k n then 1 else 0) := by
  have hn := r_nn h
  unfold fX5_overlap
  rw [e_end h hA h0 h1, e_end h hA k0 k1, zbd_s, zbd_s, show (80 + 3 : Nat) = 83 from rfl, hA.fl 83 rfl (by decide)]
  by_cases c1 : σ 83 n + σ 84 n ≤ σ 83 k
  · simp (disch := omega) only [zgd_t, zbd_s, zbd2_s, zw_i, if_pos, if_neg, ↓reduceIte, Nat.reduceAdd]
  · by_cases c2 : σ 83 k + σ 84 k ≤ σ 83 n
    · simp (disch := omega) only [zgd_t, zbd_s, zbd2_s, zw_i, if_pos, if_neg, ↓reduceIte, Nat.reduceAdd]
    · simp (disch := omega) only [zgd_t, zbd_s, zbd2_s, zw_i, if_pos, if_neg, ↓reduceIte, Nat.reduceAdd]
theorem m_meet (h : St σ) (hA : zAx σ M) (h0 : 0 ≤ n) (h1 : n < σ 80 0) (k0 : 0 ≤ k) (k1 : k < σ 80 0) : fX12_meet k n M = some (if zmee σ k n then 1 else 0) := by
  have hn := r_nn h
  unfold fX12_meet
  rw [m_end h hA h0 h1, m_end h hA k0 k1, zbd_s, zbd_s, a_nr h hA k0 k1, a_nr h hA h0 h1]
  by_cases c1 : σ 83 n + σ 84 n ≤ σ 83 k
  · simp (disch := omega) only [zgd_t, zbd_s, zbd2_s, zw_i, if_pos, if_neg, ↓reduceIte, Nat.reduceAdd]
  · by_cases c2 : σ 83 k + σ 84 k ≤ σ 83 n
    · simp (disch := omega) only [zgd_t, zbd_s, zbd2_s, zw_i, if_pos, if_neg, ↓reduceIte, Nat.reduceAdd]
    · simp (disch := omega) only [zgd_t, zbd_s, zbd2_s, zw_i, if_pos, if_neg, ↓reduceIte, Nat.reduceAdd]
theorem zat_r (h : St σ) (h0 : 0 ≤ n) (h1 : n < σ 80 0) : 0 ≤ zat σ n ∧ zat σ n < 12 := by
  have hb := r_nb h h0 h1
  have := r_pl h hb.1 hb.2.1
  unfold zat
  rcases this with g | g
  · exact absurd g.1 hb.2.2
  · exact g.2
theorem e_placeOf (h : St σ) (hA : zAx σ M) (h0 : 0 ≤ n) (h1 : n < σ 80 0) : fX2_placeOf n M = some (zat σ n) := by
  have hn := r_nn h
  have hw := r_bw h
  have hb := r_nb h h0 h1
  unfold fX2_placeOf
  rw [hA.fl 82 rfl (by decide), hA.fl 47 rfl (by decide)]
  simp (disch := omega) only [zgd_t, zbd_s, zbd2_s, zw_i, if_pos, if_neg, ↓reduceIte, Nat.reduceAdd]
  rfl
theorem m_at (h : St σ) (hA : zAx σ M) (h0 : 0 ≤ n) (h1 : n < σ 80 0) : fX12_at n M = some (zat σ n) := by
  have hn := r_nn h
  have hw := r_bw h
  have hb := r_nb h h0 h1
  unfold fX12_at
  rw [a_nb h hA h0 h1, a_pl h hA hb.1 hb.2.1]
  simp (disch := omega) only [zgd_t, zbd_s, zbd2_s, zw_i, if_pos, if_neg, ↓reduceIte, Nat.reduceAdd]
  rfl
theorem zcla_r : 2 ≤ zcla σ fg n k ∧ zcla σ fg n k ≤ 6 := by
  unfold zcla; repeat (first | split | omega)
theorem zmin_r (f : Int → Int) (hf : ∀ k : Int, 2 ≤ f k ∧ f k ≤ 6) : ∀ j : Nat, 2 ≤ zmin f j ∧ zmin f j ≤ 6
  | 0 => by simp [zmin]
  | j + 1 => by have := zmin_r f hf j; have := hf j; unfold zmin; omega
theorem e_leftHand (hA : zAx σ M) : fX7_leftHand 40 x M = some (if x < σ 59 1 then 1 else 0) := by
  unfold fX7_leftHand
  rw [show (40 + 19 : Nat) = 59 from rfl, hA.fl 59 rfl (by decide)]
  by_cases c : σ 59 1 ≤ x
  · simp (disch := omega) only [zgd_t, zbd_s, zbd2_s, zw_i, if_pos, if_neg, ↓reduceIte, Nat.reduceAdd]
  · simp (disch := omega) only [zgd_t, zbd_s, zbd2_s, zw_i, if_pos, if_neg, ↓reduceIte, Nat.reduceAdd]
theorem e_clash (h : St σ) (hA : zAx σ M) (h0 : 0 ≤ n) (h1 : n < σ 80 0) (hn1 : n < no1) (k0 : 0 ≤ k) (k1 : k < n) (hg : ∀ k : Int, 0 ≤ k → k ≤ n → M o1 k = fg k) (hm : zmee σ k n) (hk : 0 ≤ fg k) : fX2_clash o1 no1 k n M = some (zcla σ fg n k) := by
  have hn := r_nn h
  have ht := r_ti h
  have a1 := zat_r h h0 h1
  have a2 := zat_r h k0 (by omega)
  unfold fX2_clash fX2_clash_j54 fX2_clash_j80 zcla
  rw [hg n h0 (Int.le_refl _), hg k k0 (by omega), e_placeOf h hA h0 h1, e_placeOf h hA k0 (by omega), zbd_s, zbd_s, e_leftHand hA, e_leftHand hA, zbd_s, zbd_s, hA.fl 59 rfl (by decide)]
  rw [zgd_t ⟨h0, hn1⟩, zgd_t ⟨k0, by omega⟩]
  have hab : zabs (zat σ n - zat σ k) = if zat σ k ≤ zat σ n then zat σ n - zat σ k else zat σ k - zat σ n := by unfold zabs; split <;> split <;> omega
  rw [if_neg (show ¬ fg k < 0 by omega), if_neg (show ¬¬ zmee σ k n from fun q => q hm)]
  have tl : ∀ A B : Int, (A = if fg n < σ 59 1 then 1 else 0) → (B = if fg k < σ 59 1 then 1 else 0) → (if A = B then (if (1 : Int) = 0 then some 6 else zgd ((0 : Int) ≤ 2 ∧ (2 : Int) < 11) (if zw (zabs (zat σ n - zat σ k)) ≤ σ 59 2 then some (6 : Int) else some 4)) else (if (0 : Int) = 0 then some 6 else zgd ((0 : Int) ≤ 2 ∧ (2 : Int) < 11) (if zw (zabs (zat σ n - zat σ k)) ≤ σ 59 2 then some 6 else some 4))) = some (if ((fg k < σ 59 1) ↔ (fg n < σ 59 1)) ∧ (σ 59 2 < zat σ k - zat σ n ∨ σ 59 2 < zat σ n - zat σ k) then 4 else 6) := by
    intro A B hA hB
    have c0 : (A = B) ↔ ((fg k < σ 59 1) ↔ (fg n < σ 59 1)) := by
      rw [hA, hB]; by_cases c1 : fg n < σ 59 1 <;> by_cases c2 : fg k < σ 59 1 <;> simp [c1, c2]
    by_cases c1 : A = B
    · have c2 := c0.mp c1
      rw [if_pos c1, if_neg (show ¬ (1 : Int) = 0 by decide), zgd_t (by decide), hab]
      by_cases c3 : zat σ k ≤ zat σ n
      · rw [if_pos c3, zw_i (by omega) (by omega)]
        by_cases c4 : zat σ n - zat σ k ≤ σ 59 2
        · rw [if_pos c4, if_neg (fun q => by have := q.2; omega)]
        · rw [if_neg c4, if_pos ⟨c2, by omega⟩]
      · rw [if_neg c3, zw_i (by omega) (by omega)]
        by_cases c4 : zat σ k - zat σ n ≤ σ 59 2
        · rw [if_pos c4, if_neg (fun q => by have := q.2; omega)]
        · rw [if_neg c4, if_pos ⟨c2, by omega⟩]
    · rw [if_neg c1, if_pos rfl, if_neg (fun q => c1 (c0.mpr q.1))]
  by_cases c1 : fg n = fg k
  · rw [if_pos c1, if_pos c1.symm]
  · rw [if_neg c1, if_neg (show ¬ fg k = fg n from fun q => c1 q.symm), zw_i (x := zat σ n - zat σ k) (by omega) (by omega)]
    by_cases c2 : fg n ≤ fg k
    · rw [if_pos c2]
      by_cases c3 : zat σ n - zat σ k < 0
      · rw [if_pos c3, if_neg (show ¬ ((fg k < fg n ∧ zat σ n ≤ zat σ k) ∨ (fg n < fg k ∧ zat σ k ≤ zat σ n)) by omega)]
        exact tl _ _ rfl rfl
      · rw [if_neg c3, if_pos (show (fg k < fg n ∧ zat σ n ≤ zat σ k) ∨ (fg n < fg k ∧ zat σ k ≤ zat σ n) by omega)]
    · rw [if_neg c2]
      by_cases c3 : 0 < zat σ n - zat σ k
      · rw [if_pos c3, if_neg (show ¬ ((fg k < fg n ∧ zat σ n ≤ zat σ k) ∨ (fg n < fg k ∧ zat σ k ≤ zat σ n)) by omega)]
        exact tl _ _ rfl rfl
      · rw [if_neg c3, if_pos (show (fg k < fg n ∧ zat σ n ≤ zat σ k) ∨ (fg n < fg k ∧ zat σ k ≤ zat σ n) by omega)]
theorem e_faultOf (h : St σ) (hA : zAx σ M) (h0 : 0 ≤ n) (h1 : n < σ 80 0) (hn1 : n < no1) (hg : ∀ k : Int, 0 ≤ k → k ≤ n → M o1 k = fg k) (hr : ∀ k : Int, 0 ≤ k → k ≤ n → -1 ≤ fg k) : fX2_faultOf o1 no1 n M = some (zwro σ fg n) := by
  have hn := r_nn h
  have ht := r_ti h
  have hl := r_nl h h0 h1
  have hw := zwor_r (fg := fg) h h0 h1
  have hrn := hr n h0 (Int.le_refl _)
  unfold fX2_faultOf
  obtain ⟨i, rfl⟩ : ∃ i : Nat, n = i := ⟨n.toNat, by omega⟩
  rw [hg i h0 (Int.le_refl _), zgd_t ⟨h0, hn1⟩]
  unfold zwro
  by_cases c0 : fg i = -1
  · rw [if_pos c0, if_pos (by omega)]
  · have hmr := zmin_r (zcla σ fg i) (fun _ => zcla_r)
    have key : zit (fun s11 : Int × Int => fX2_faultOf_l15 o1 no1 i (s11.1) (s11.2) M) (6, 0) = some (zmin (zcla σ fg i) i, (i : Int)) := zit_for i (fun j => (zmin (zcla σ fg i) j, (j : Int))) (fun j hj => by
      have j0 : (0 : Int) ≤ j := by omega
      have jr := hr j j0 (by omega)
      show fX2_faultOf_l15 o1 no1 i (zmin (zcla σ fg i) j) j M = some (.inl (min (zmin (zcla σ fg i) j) (zcla σ fg i j), ((j + 1 : Nat) : Int)))
      unfold fX2_faultOf_l15
      rw [hg j j0 (by omega), e_overlap h hA h0 h1 j0 (by omega), zbd_s]
      have hmj := hmr j
      by_cases c1 : fg j = -1
      · have : zcla σ fg i j = 6 := by unfold zcla; rw [if_pos (by omega)]
        simp (disch := omega) only [zgd_t, zbd_s, zbd2_s, zw_i, if_pos, if_neg, ↓reduceIte, Nat.reduceAdd, c1, this]
        simp only [Option.some.injEq, Sum.inl.injEq, Prod.mk.injEq]; omega
      · by_cases c2 : zmee σ j i
        · rw [e_clash h hA h0 h1 hn1 j0 (by omega) hg c2 (by omega), zbd_s]
          simp (disch := omega) only [zgd_t, zbd_s, zbd2_s, zw_i, if_pos, if_neg, ↓reduceIte, Nat.reduceAdd, c1, c2]
          try simp
        · have : zcla σ fg i j = 6 := by unfold zcla; rw [if_neg (by omega), if_pos c2]
          simp (disch := omega) only [zgd_t, zbd_s, zbd2_s, zw_i, if_pos, if_neg, ↓reduceIte, Nat.reduceAdd, c1, c2, this]
          simp only [Option.some.injEq, Sum.inl.injEq, Prod.mk.injEq]; omega) (by
      show fX2_faultOf_l15 o1 no1 i (zmin (zcla σ fg i) i) i M = _
      unfold fX2_faultOf_l15
      rw [if_pos (Int.le_refl _)])
    rw [key, zbd_s, if_neg c0, if_neg (show ¬ fg i < 0 by omega), show ((i : Int).toNat) = i by omega]
    have hmj := hmr i
    by_cases c1 : zmin (zcla σ fg i) i < 6
    · rw [if_pos c1]; dsimp only; rw [if_neg (show ¬ 5 < zmin (zcla σ fg i) i by omega)]
    · rw [if_neg c1]; dsimp only
      rw [if_pos (show 5 < zmin (zcla σ fg i) i by omega), e_worn h hA h0 h1 hn1 hg, zbd_s, hA.fl 84 rfl (by decide), hA.fl 59 rfl (by decide)]
      unfold zdry
      by_cases c2 : zwor σ fg i + σ 84 i ≤ σ 59 4
      · simp (disch := omega) only [zgd_t, zbd_s, zbd2_s, zw_i, if_pos, if_neg, ↓reduceIte, Nat.reduceAdd]
      · simp (disch := omega) only [zgd_t, zbd_s, zbd2_s, zw_i, if_pos, if_neg, ↓reduceIte, Nat.reduceAdd]
theorem zdiv_h {f F : Int} (hF : 1 ≤ F ∧ F ≤ 3) (hf : 0 ≤ f ∧ f < 2 * F) : zdiv f F = if f < F then 0 else 1 := by
  rw [zdiv_n ⟨by omega, by omega⟩ ⟨by omega, by omega⟩ hf.1 (by omega)]
  have : F = 1 ∨ F = 2 ∨ F = 3 := by omega
  rcases this with rfl | rfl | rfl <;> split <;> omega
theorem m_w110 {z : Int} (h : St σ) (hA : zAx σ M) (h0 : 0 ≤ n) (h1 : n < σ 80 0) (k0 : 0 ≤ k) (k1 : k < σ 80 0) (hn2 : 0 ≤ fg n ∧ fg n < 2 * σ 59 1) (hk2 : 0 ≤ fg k ∧ fg k < 2 * σ 59 1) : fX12_wrongIs_j110 n (fg n) z k (fg k) M = some (.inl ((if ((fg k < σ 59 1) ↔ (fg n < σ 59 1)) ∧ (σ 59 2 < zat σ k - zat σ n ∨ σ 59 2 < zat σ n - zat σ k) then min z 4 else z), k + 1)) := by
  have hn := r_nn h
  have ht := r_ti h
  have a1 := zat_r h h0 h1
  have a2 := zat_r h k0 k1
  unfold fX12_wrongIs_j110
  rw [m_at h hA h0 h1, m_at h hA k0 k1, zbd_s, zbd_s, m_away (by omega) (by omega), zbd_s, a_st h hA (k := 1) (by decide) (by decide), a_st h hA (k := 2) (by decide) (by decide), zdiv_h ht.2.1 hn2, zdiv_h ht.2.1 hk2, zgd_t (by decide), zgd_t (show ¬ σ 59 1 = 0 by omega), zgd_t (by decide), zgd_t (show ¬ σ 59 1 = 0 by omega), zgd_t (by decide), zw_i (by omega) (by omega)]
  have hab : zabs (zat σ k - zat σ n) ≤ σ 59 2 ↔ ¬ (σ 59 2 < zat σ k - zat σ n ∨ σ 59 2 < zat σ n - zat σ k) := by unfold zabs; split <;> omega
  by_cases c4 : fg k < σ 59 1 <;> by_cases c5 : fg n < σ 59 1 <;> by_cases c6 : zabs (zat σ k - zat σ n) ≤ σ 59 2 <;> simp [c4, c5, c6] <;> grind
theorem m_wrongIs (h : St σ) (hA : zAx σ M) (h0 : 0 ≤ n) (h1 : n < σ 80 0) (hg : ∀ k : Int, 0 ≤ k → k ≤ n → M 249 k = fg k) (hr : ∀ k : Int, 0 ≤ k → k ≤ n → -1 ≤ fg k ∧ fg k < 2 * σ 59 1) : fX12_wrongIs n M = some (zwro σ fg n) := by
  have hn := r_nn h
  have ht := r_ti h
  have hl := r_nl h h0 h1
  have hw := zwor_r (fg := fg) h h0 h1
  have hrn := hr n h0 (Int.le_refl _)
  have a1 := zat_r h h0 h1
  unfold fX12_wrongIs
  obtain ⟨i, rfl⟩ : ∃ i : Nat, n = i := ⟨n.toNat, by omega⟩
  rw [hg i h0 (Int.le_refl _), zgd_t ⟨h0, by omega⟩]
  unfold zwro
  by_cases c0 : fg i < 0
  · rw [if_neg (by omega), if_pos c0]
  · have hmr := zmin_r (zcla σ fg i) (fun _ => zcla_r)
    have key : zit (fun s38 : Int × Int => fX12_wrongIs_l19 i (fg i) (s38.1) (s38.2) M) (6, 0) = some (zmin (zcla σ fg i) i, (i : Int)) := zit_for i (fun j => (zmin (zcla σ fg i) j, (j : Int))) (fun j hj => by
      have j0 : (0 : Int) ≤ j := by omega
      have jr := hr j j0 (by omega)
      have a2 := zat_r h j0 (by omega)
      show fX12_wrongIs_l19 i (fg i) (zmin (zcla σ fg i) j) j M = some (.inl (min (zmin (zcla σ fg i) j) (zcla σ fg i j), ((j + 1 : Nat) : Int)))
      unfold fX12_wrongIs_l19
      rw [hg j j0 (by omega), m_meet h hA h0 h1 j0 (by omega), zbd_s]
      have hmj := hmr j
      generalize zmin (zcla σ fg i) j = z at hmj ⊢
      by_cases c1 : fg j < 0
      · have : zcla σ fg i j = 6 := by unfold zcla; rw [if_pos (by omega)]
        simp (disch := omega) only [zgd_t, zbd_s, zbd2_s, zw_i, if_pos, if_neg, ↓reduceIte, Nat.reduceAdd, c1, this]
        simp only [Option.some.injEq, Sum.inl.injEq, Prod.mk.injEq]; omega
      · by_cases c2 : zmee σ j i
        · have w := fun z => m_w110 (z := z) h hA h0 h1 j0 (by omega) ⟨by omega, hrn.2⟩ ⟨by omega, jr.2⟩
          have zc : zcla σ fg i j = if fg j = fg i then 2 else if (fg j < fg i ∧ zat σ i ≤ zat σ j) ∨ (fg i < fg j ∧ zat σ j ≤ zat σ i) then 3 else if ((fg j < σ 59 1) ↔ (fg i < σ 59 1)) ∧ (σ 59 2 < zat σ j - zat σ i ∨ σ 59 2 < zat σ i - zat σ j) then 4 else 6 := by
            unfold zcla; rw [if_neg c1, if_neg (show ¬¬ zmee σ j i from fun q => q c2)]
          rw [if_neg (show ¬ (i : Int) ≤ j by omega), zgd_t ⟨j0, by omega⟩, if_neg c1, if_pos c2, if_neg (show ¬ (1 : Int) = 0 by decide), zc]
          unfold fX12_wrongIs_j64 fX12_wrongIs_j84 fX12_wrongIs_j104
          rw [m_at h hA h0 h1, m_at h hA j0 (by omega)]
          simp only [zbd_s, w z, w (min z 2), w (min z 3), w (min (min z 2) 3)]
          rcases Int.lt_trichotomy (fg j) (fg i) with c3 | c3 | c3
          · rw [if_neg (show ¬ fg j = fg i by omega), if_neg (show ¬ fg j = fg i by omega), if_neg (show ¬ fg i ≤ fg j by omega), if_pos (show fg j ≤ fg i by omega)]
            by_cases c4 : zat σ i ≤ zat σ j
            · rw [if_pos c4, if_pos (show (fg j < fg i ∧ zat σ i ≤ zat σ j) ∨ (fg i < fg j ∧ zat σ j ≤ zat σ i) by omega)]
              split <;> refine congrArg some (congrArg Sum.inl (Prod.ext ?_ ?_)) <;> dsimp only <;> omega
            · rw [if_neg c4, if_neg (show ¬ ((fg j < fg i ∧ zat σ i ≤ zat σ j) ∨ (fg i < fg j ∧ zat σ j ≤ zat σ i)) by omega)]
              split <;> refine congrArg some (congrArg Sum.inl (Prod.ext ?_ ?_)) <;> dsimp only <;> omega
          · simp only [if_pos c3, if_pos (show fg i ≤ fg j by omega), if_pos (show fg j ≤ fg i by omega)]
            split <;> refine congrArg some (congrArg Sum.inl (Prod.ext ?_ ?_)) <;> dsimp only <;> omega
          · rw [if_neg (show ¬ fg j = fg i by omega), if_neg (show ¬ fg j = fg i by omega), if_pos (show fg i ≤ fg j by omega), if_neg (show ¬ fg j ≤ fg i by omega)]
            by_cases c4 : zat σ i < zat σ j
            · rw [if_pos c4, if_neg (show ¬ ((fg j < fg i ∧ zat σ i ≤ zat σ j) ∨ (fg i < fg j ∧ zat σ j ≤ zat σ i)) by omega)]
              split <;> refine congrArg some (congrArg Sum.inl (Prod.ext ?_ ?_)) <;> dsimp only <;> omega
            · rw [if_neg c4, if_pos (show (fg j < fg i ∧ zat σ i ≤ zat σ j) ∨ (fg i < fg j ∧ zat σ j ≤ zat σ i) by omega)]
              split <;> refine congrArg some (congrArg Sum.inl (Prod.ext ?_ ?_)) <;> dsimp only <;> omega
        · have : zcla σ fg i j = 6 := by unfold zcla; rw [if_neg (by omega), if_pos c2]
          simp (disch := omega) only [zgd_t, zbd_s, zbd2_s, zw_i, if_pos, if_neg, ↓reduceIte, Nat.reduceAdd, c1, c2, this]
          simp only [Option.some.injEq, Sum.inl.injEq, Prod.mk.injEq]; omega) (by
      show fX12_wrongIs_l19 i (fg i) (zmin (zcla σ fg i) i) i M = _
      unfold fX12_wrongIs_l19
      rw [if_pos (Int.le_refl _)])
    rw [key, zbd_s, if_pos (show 0 ≤ fg i by omega), if_neg c0, show ((i : Int).toNat) = i by omega]
    have hmj := hmr i
    by_cases c1 : zmin (zcla σ fg i) i < 6
    · rw [if_pos c1]; dsimp only; rw [if_neg (show ¬ 6 ≤ zmin (zcla σ fg i) i by omega)]
    · rw [if_neg c1]; dsimp only
      rw [if_pos (show 6 ≤ zmin (zcla σ fg i) i by omega), m_end h hA h0 h1, zbd_s, zw_i (by omega) (by omega), m_isDry h hA h0 h1 (by omega) (by omega) hg, zbd_s]
      by_cases c2 : zdry σ fg i (σ 83 i + σ 84 i - 1)
      · rw [if_pos c2, if_pos c2, if_neg (by decide)]
      · rw [if_neg c2, if_neg c2, if_pos rfl]
end HND
