/-! PURE PART, 11: calls -/
theorem zit_first {S E : Type} {f : S → Option (S ⊕ E)} (st : Nat → S) (p : Nat → Prop) : ∀ n : Nat, (∀ i : Nat, i < n → ¬ p i → f (st i) = some (.inl (st (i + 1)))) → (∃ i : Nat, i < n ∧ p i ∧ (∀ j : Nat, j < i → ¬ p j) ∧ zit f (st 0) = zit f (st i)) ∨ ((∀ j : Nat, j < n → ¬ p j) ∧ zit f (st 0) = zit f (st n))
  | 0, _ => Or.inr ⟨fun j hj => by omega, rfl⟩
  | n + 1, h => by
    rcases zit_first st p n (fun i hi => h i (by omega)) with ⟨i, i1, i2, i3, i4⟩ | ⟨h1, h2⟩
    · exact Or.inl ⟨i, by omega, i2, i3, i4⟩
    · rcases Classical.em (p n) with hp | hp
      · exact Or.inl ⟨n, by omega, hp, h1, h2⟩
      · refine Or.inr ⟨fun j hj => ?_, ?_⟩
        · by_cases c : j = n
          · subst c; exact hp
          · exact h1 j (by omega)
        · rw [h2, zit_l (h n (by omega) hp)]
section CAL
variable {Pk : zMem}
variable {σ M : zMem} {k b t n x w : Int}
/-- class and model answer alike, and all is as it should be afterwards -/
def zAlike (Pk : zMem) (f : Option (Int × zMem)) (g : zMem → Option (Int × zMem)) : Prop := zSat f (fun e => zSat (g e.2) (fun e' => e'.1 = e.1 ∧ Inv Pk e'.2))
theorem zAlike.q {f : Option Int} {g : zMem → Option (Int × zMem)} (hI : Inv Pk (zup M 200 0 0)) (h : ∃ r, f = some r ∧ z32 r ∧ g M = some (r, zup M 200 0 0)) : zAlike Pk (zbd f fun r => some (r, M)) g := by
  obtain ⟨r, h1, -, h3⟩ := h
  rw [h1]
  show zSat (g M) _
  rw [h3]
  exact ⟨rfl, hI⟩
theorem c_bowl (hI : Inv Pk M) : zAlike Pk (zbd (fX11_bowl b w M) fun r => some (r, M)) (fX12_bowl b w) := by
  obtain ⟨σ, hA, h, hC, hPk⟩ := hI
  exact zAlike.q (Inv.z hPk hA h hC) (q_bowl h hA)
theorem c_noteOf (hI : Inv Pk M) : zAlike Pk (zbd (fX11_noteOf n w M) fun r => some (r, M)) (fX12_noteOf n w) := by
  obtain ⟨σ, hA, h, hC, hPk⟩ := hI
  exact zAlike.q (Inv.z hPk hA h hC) (q_noteOf h hA)
theorem c_count (hI : Inv Pk M) : zAlike Pk (zbd (fX11_count x M) fun r => some (r, M)) (fX12_count x) := by
  obtain ⟨σ, hA, h, hC, hPk⟩ := hI
  exact zAlike.q (Inv.z hPk hA h hC) (q_count h hA)
theorem c_beating (hI : Inv Pk M) : zAlike Pk (zbd (fX11_beating k M) fun r => some (r, M)) (fX12_beating k) := by
  obtain ⟨σ, hA, h, hC, hPk⟩ := hI
  exact zAlike.q (Inv.z hPk hA h hC) (q_beating h hA)
theorem c_within (hI : Inv Pk M) : zAlike Pk (zbd (fX11_within M) fun r => some (r, M)) (fX12_within) := by
  obtain ⟨σ, hA, h, hC, hPk⟩ := hI
  exact zAlike.q (Inv.z hPk hA h hC) (q_within h hA)
theorem c_spare (hI : Inv Pk M) : zAlike Pk (zbd (fX11_spare b M) fun r => some (r, M)) (fX12_spare b) := by
  obtain ⟨σ, hA, h, hC, hPk⟩ := hI
  exact zAlike.q (Inv.z hPk hA h hC) (q_spare h hA)
theorem g_nr (h : St σ) (h1 : n < σ 80 0) : ∀ k : Int, 0 ≤ k → k ≤ n → -1 ≤ σ 86 k ∧ σ 86 k < 2 * σ 59 1 := fun k k0 k1 => r_nf h k0 (by omega)
theorem zwro_r {fg : Int → Int} : 0 ≤ zwro σ fg n ∧ zwro σ fg n ≤ 5 := by
  have := zmin_r (zcla σ fg n) (fun _ => zcla_r) n.toNat
  unfold zwro; repeat (first | split | omega)
theorem c_wrong (hI : Inv Pk M) : zAlike Pk (zbd (fX11_wrong n M) fun r => some (r, M)) (fX12_wrong n) := by
  obtain ⟨σ, hA, h, hC, hPk⟩ := hI
  have hn := r_nn h
  have hA0 := zA0 hA
  refine zAlike.q (Inv.z hPk hA h hC) ?_
  unfold fX11_wrong fX12_wrong
  rw [e_has hA.x, m_isNote h hA0.x, zbd_s, zbd_s]
  by_cases c : 0 ≤ n ∧ n < σ 80 0
  · rw [if_pos c, if_neg (show ¬ (1 : Int) = 0 by decide), if_neg (show ¬ (1 : Int) = 0 by decide), e_faultOf (fg := σ 86) h hA.x c.1 c.2 (by omega) (fun k _ _ => by rw [hA.fl 86 rfl]) (fun k k0 k1 => (g_nr h c.2 k k0 k1).1), m_wrongIs (fg := σ 86) h hA0.x c.1 c.2 (g_nf h hA0 c.2) (g_nr h c.2)]
    have := zwro_r (σ := σ) (n := n) (fg := σ 86)
    exact ⟨_, rfl, ⟨by omega, by omega⟩, rfl⟩
  · rw [if_neg c, if_pos rfl, if_pos rfl]; exact ⟨_, rfl, ⟨by omega, by omega⟩, rfl⟩
theorem c_judged (hI : Inv Pk M) : zAlike Pk (zbd (fX11_judged M) fun r => some (r, M)) (fX12_judged) := by
  obtain ⟨σ, hA, h, hC, hPk⟩ := hI
  have hn := r_nn h
  have hA0 := zA0 hA
  refine zAlike.q (Inv.z hPk hA h hC) ?_
  unfold fX11_judged fX12_judged
  have w1 : ∀ i : Nat, (i : Int) < σ 80 0 → fX2_faultOf 86 24 i M = some (zwro σ (σ 86) i) := fun i hi => e_faultOf (fg := σ 86) h hA.x (by omega) hi (by omega) (fun k _ _ => by rw [hA.fl 86 rfl]) (fun k k0 k1 => (g_nr h hi k k0 k1).1)
  have w2 : ∀ i : Nat, (i : Int) < σ 80 0 → fX12_wrongIs i (zup M 200 0 0) = some (zwro σ (σ 86) i) := fun i hi => m_wrongIs (fg := σ 86) h hA0.x (by omega) hi (g_nf h hA0 hi) (g_nr h hi)
  have s1 : ∀ i : Nat, (i : Int) < σ 80 0 → fX11_judged_l2 i M = some (if zwro σ (σ 86) i = 0 then .inl ((i : Int) + 1) else .inr (.inr (i : Int))) := fun i hi => by
    unfold fX11_judged_l2
    rw [hA.fl 80 rfl, if_neg (by omega), w1 i hi, zbd_s, zw_i (by omega) (by omega)]
    split <;> rfl
  have s2 : ∀ i : Nat, (i : Int) < σ 80 0 → fX12_judged_l7 i (zup M 200 0 0) = some (if zwro σ (σ 86) i = 0 then .inl ((i : Int) + 1) else .inr (.inr ((i : Int), zup M 200 0 0))) := fun i hi => by
    unfold fX12_judged_l7
    have r := zwro_r (σ := σ) (n := i) (fg := σ 86)
    rw [a_nn h hA0.x, if_neg (by omega), w2 i hi, zbd_s, zw_i (by omega) (by omega)]
    by_cases c : zwro σ (σ 86) i = 0
    · rw [if_pos (by omega), if_pos c]
    · rw [if_neg (by omega), if_neg c]
  have t1 := zit_first (f := fun s6 : Int => fX11_judged_l2 s6 M) (fun i => (i : Int)) (fun i => zwro σ (σ 86) i ≠ 0) (σ 80 0).toNat (fun i hi hp => by
    show fX11_judged_l2 i M = _
    rw [s1 i (by omega), if_pos (Classical.not_not.mp hp)]; rfl)
  have t2 := zit_first (f := fun s6 : Int => fX12_judged_l7 s6 (zup M 200 0 0)) (fun i => (i : Int)) (fun i => zwro σ (σ 86) i ≠ 0) (σ 80 0).toNat (fun i hi hp => by
    show fX12_judged_l7 i (zup M 200 0 0) = _
    rw [s2 i (by omega), if_pos (Classical.not_not.mp hp)]; rfl)
  rcases t1 with ⟨i, i1, i2, i3, i4⟩ | ⟨i1, i2⟩
  · rcases t2 with ⟨j, j1, j2, j3, j4⟩ | ⟨j1, j2⟩
    · have : i = j := by
        rcases Nat.lt_trichotomy i j with c | c | c
        · exact absurd i2 (j3 i c)
        · exact c
        · exact absurd j2 (i3 j c)
      subst this
      refine ⟨(i : Int), ?_, ⟨by omega, by omega⟩, ?_⟩
      · rw [show zit (fun s6 : Int => fX11_judged_l2 s6 M) 0 = some (.inr (i : Int)) from i4.trans (zit_r (f := fun s6 : Int => fX11_judged_l2 s6 M) (s := (i : Int)) (by show fX11_judged_l2 i M = _; rw [s1 i (by omega), if_neg i2]))]; rfl
      · rw [show zit (fun s6 : Int => fX12_judged_l7 s6 (zup M 200 0 0)) 0 = some (.inr ((i : Int), zup M 200 0 0)) from j4.trans (zit_r (f := fun s6 : Int => fX12_judged_l7 s6 (zup M 200 0 0)) (s := (i : Int)) (by show fX12_judged_l7 i (zup M 200 0 0) = _; rw [s2 i (by omega), if_neg i2]))]; rfl
    · exact absurd i2 (j1 i i1)
  · rcases t2 with ⟨j, j1, j2, j3, j4⟩ | ⟨j1, j2⟩
    · exact absurd j2 (i1 j j1)
    · refine ⟨-1, ?_, ⟨by omega, by omega⟩, ?_⟩
      · rw [show zit (fun s6 : Int => fX11_judged_l2 s6 M) 0 = some (.inl ((σ 80 0).toNat : Int)) from i2.trans (zit_r (f := fun s6 : Int => fX11_judged_l2 s6 M) (s := ((σ 80 0).toNat : Int)) (by show fX11_judged_l2 ((σ 80 0).toNat : Int) M = _; unfold fX11_judged_l2; rw [hA.fl 80 rfl, if_pos (by omega)]))]; rfl
      · rw [show zit (fun s6 : Int => fX12_judged_l7 s6 (zup M 200 0 0)) 0 = some (.inl ((σ 80 0).toNat : Int)) from j2.trans (zit_r (f := fun s6 : Int => fX12_judged_l7 s6 (zup M 200 0 0)) (s := ((σ 80 0).toNat : Int)) (by show fX12_judged_l7 ((σ 80 0).toNat : Int) (zup M 200 0 0) = _; unfold fX12_judged_l7; rw [a_nn h hA0.x, if_pos (by omega)]))]; rfl
theorem zlfs_b (fg : Int → Int) (i : Nat) : 0 ≤ zlfs σ fg i ∧ zlfs σ fg i ≤ 1 * i := ⟨zsum_0 fun k _ => by show 0 ≤ (if zsty σ fg k then (0 : Int) else 1); split <;> omega, zsum_le fun k _ => by show (if zsty σ fg k then (0 : Int) else 1) ≤ 1; split <;> omega⟩
theorem c_lifts (hI : Inv Pk M) : zAlike Pk (zbd (fX11_lifts M) fun r => some (r, M)) (fX12_lifts) := by
  obtain ⟨σ, hA, h, hC, hPk⟩ := hI
  have hn := r_nn h
  have hA0 := zA0 hA
  refine zAlike.q (Inv.z hPk hA h hC) ⟨zlfs σ (σ 86) (σ 80 0).toNat, ?_, ?_, ?_⟩
  · unfold fX11_lifts
    rw [show zit (fun s6 : Int × Int => fX11_lifts_l4 (s6.1) (s6.2) M) (0, 0) = some (zlfs σ (σ 86) (σ 80 0).toNat, ((σ 80 0).toNat : Int)) from zit_for (σ 80 0).toNat (fun i => (zlfs σ (σ 86) i, (i : Int))) ?_ ?_]
    · rfl
    · intro i hi
      show fX11_lifts_l4 (zlfs σ (σ 86) i) i M = some (.inl (zlfs σ (σ 86) i + (if zsty σ (σ 86) i then 0 else 1), ((i + 1 : Nat) : Int)))
      have hb := zlfs_b (σ := σ) (σ 86) i
      unfold fX11_lifts_l4 fX11_lifts_j39
      rw [hA.fl 80 rfl, e_liftsAt (fg := σ 86) h hA.x (n := i) (by omega) (by omega) (by omega) (fun k _ _ => by rw [hA.fl 86 rfl]) (r_nf h (k := i) (by omega) (by omega)).1, zbd_s]
      by_cases c : zsty σ (σ 86) i
      · simp only [if_pos c]; simp (disch := omega) only [zgd_t, zbd_s, zbd2_s, zw_i, if_pos, if_neg, ↓reduceIte, Nat.reduceAdd]; try simp
      · simp only [if_neg c]; simp (disch := omega) only [zgd_t, zbd_s, zbd2_s, zw_i, if_pos, if_neg, ↓reduceIte, Nat.reduceAdd]; try simp
    · show fX11_lifts_l4 _ ((σ 80 0).toNat : Int) M = _
      unfold fX11_lifts_l4
      rw [hA.fl 80 rfl, if_pos (by omega)]
  · have hb := zlfs_b (σ := σ) (σ 86) (σ 80 0).toNat
    exact ⟨by omega, by omega⟩
  · unfold fX12_lifts
    rw [show zit (fun s6 : Int × Int => fX12_lifts_l9 (s6.1) (s6.2) (zup M 200 0 0)) (0, 0) = some (zlfs σ (σ 86) (σ 80 0).toNat, ((σ 80 0).toNat : Int)) from zit_for (σ 80 0).toNat (fun i => (zlfs σ (σ 86) i, (i : Int))) ?_ ?_]
    · rfl
    · intro i hi
      show fX12_lifts_l9 (zlfs σ (σ 86) i) i (zup M 200 0 0) = some (.inl (zlfs σ (σ 86) i + (if zsty σ (σ 86) i then 0 else 1), ((i + 1 : Nat) : Int)))
      have hb := zlfs_b (σ := σ) (σ 86) i
      unfold fX12_lifts_l9 fX12_lifts_j31
      rw [a_nn h hA0.x, m_stays (fg := σ 86) h hA0.x (n := i) (by omega) (by omega) (g_nf h hA0 (by omega)), zbd_s]
      by_cases c : zsty σ (σ 86) i
      · simp only [if_pos c]; simp (disch := omega) only [zgd_t, zbd_s, zbd2_s, zw_i, if_pos, if_neg, ↓reduceIte, Nat.reduceAdd]; try simp
      · simp only [if_neg c]; simp (disch := omega) only [zgd_t, zbd_s, zbd2_s, zw_i, if_pos, if_neg, ↓reduceIte, Nat.reduceAdd]; try simp
    · show fX12_lifts_l9 _ ((σ 80 0).toNat : Int) (zup M 200 0 0) = _
      unfold fX12_lifts_l9
      rw [a_nn h hA0.x, if_pos (by omega)]
theorem c_moved (hI : Inv Pk M) : zAlike Pk (zbd (fX11_moved M) fun r => some (r, M)) (fX12_moved) := by
  obtain ⟨σ, hA, h, hC, hPk⟩ := hI
  have hn := r_nn h
  have hA0 := zA0 hA
  let g : Int → Int := fun n => zabs (zat σ (n + 1) - zat σ n)
  have hg : ∀ i : Nat, (i : Int) + 1 < σ 80 0 → 0 ≤ g i ∧ g i ≤ 12 := fun i hi => by
    have a1 := zat_r h (n := (i : Int) + 1) (by omega) (by omega)
    have a2 := zat_r h (n := (i : Int)) (by omega) (by omega)
    exact ⟨zabs_n, zabs_le (by omega)⟩
  have hb : ∀ i : Nat, (i : Int) < σ 80 0 → 0 ≤ zsum g i ∧ zsum g i ≤ 12 * i := fun i hi => ⟨zsum_0 fun k hk => (hg k (by omega)).1, zsum_le fun k hk => (hg k (by omega)).2⟩
  by_cases c0 : σ 80 0 = 0
  · refine zAlike.q (Inv.z hPk hA h hC) ⟨0, ?_, ⟨by omega, by omega⟩, ?_⟩
    · unfold fX11_moved
      rw [zit_r (f := fun s10 : Int × Int => fX11_moved_l4 (s10.1) (s10.2) M) (e := (0, 1)) (by show fX11_moved_l4 0 1 M = _; unfold fX11_moved_l4; rw [hA.fl 80 rfl, if_pos (by omega)])]; rfl
    · unfold fX12_moved
      rw [zit_r (f := fun s14 : Int × Int => fX12_moved_l9 (s14.1) (s14.2) (zup M 200 0 0)) (e := (0, 1)) (by show fX12_moved_l9 0 1 (zup M 200 0 0) = _; unfold fX12_moved_l9; rw [a_nn h hA0.x, if_pos (by omega)])]; rfl
  · refine zAlike.q (Inv.z hPk hA h hC) ⟨zsum g ((σ 80 0).toNat - 1), ?_, ?_, ?_⟩
    · unfold fX11_moved
      rw [show zit (fun s10 : Int × Int => fX11_moved_l4 (s10.1) (s10.2) M) (0, 1) = some (zsum g ((σ 80 0).toNat - 1), (((σ 80 0).toNat - 1 : Nat) : Int) + 1) from zit_for ((σ 80 0).toNat - 1) (fun i => (zsum g i, (i : Int) + 1)) ?_ ?_]
      · rfl
      · intro i hi
        show fX11_moved_l4 (zsum g i) ((i : Int) + 1) M = some (.inl (zsum g i + g i, ((i + 1 : Nat) : Int) + 1))
        have h1 := hg i (by omega)
        have h2 := hb i (by omega)
        have a1 := zat_r h (n := (i : Int) + 1) (by omega) (by omega)
        have a2 := zat_r h (n := (i : Int)) (by omega) (by omega)
        unfold fX11_moved_l4
        rw [hA.fl 80 rfl, if_neg (by omega), e_placeOf h hA.x (by omega) (by omega), zbd_s, zw_i (x := (i : Int) + 1 - 1) (by omega) (by omega), show (i : Int) + 1 - 1 = i by omega, e_placeOf h hA.x (by omega) (by omega), zbd_s, zw_i (x := zat σ (i + 1) - zat σ i) (by omega) (by omega)]
        show some (Sum.inl (zw (zsum g i + g i), zw ((i : Int) + 1 + 1))) = _
        rw [zw_i (by omega) (by omega), zw_i (by omega) (by omega)]
        rfl
      · show fX11_moved_l4 _ ((((σ 80 0).toNat - 1 : Nat) : Int) + 1) M = _
        unfold fX11_moved_l4
        rw [hA.fl 80 rfl, if_pos (by omega)]
    · have := hb ((σ 80 0).toNat - 1) (by omega)
      exact ⟨by omega, by omega⟩
    · unfold fX12_moved
      rw [show zit (fun s14 : Int × Int => fX12_moved_l9 (s14.1) (s14.2) (zup M 200 0 0)) (0, 1) = some (zsum g ((σ 80 0).toNat - 1), (((σ 80 0).toNat - 1 : Nat) : Int) + 1) from zit_for ((σ 80 0).toNat - 1) (fun i => (zsum g i, (i : Int) + 1)) ?_ ?_]
      · rfl
      · intro i hi
        show fX12_moved_l9 (zsum g i) ((i : Int) + 1) (zup M 200 0 0) = some (.inl (zsum g i + g i, ((i + 1 : Nat) : Int) + 1))
        have h1 := hg i (by omega)
        have h2 := hb i (by omega)
        have a1 := zat_r h (n := (i : Int) + 1) (by omega) (by omega)
        have a2 := zat_r h (n := (i : Int)) (by omega) (by omega)
        unfold fX12_moved_l9
        rw [a_nn h hA0.x, if_neg (by omega), m_at h hA0.x (by omega) (by omega), zbd_s, zw_i (x := (i : Int) + 1 - 1) (by omega) (by omega), show (i : Int) + 1 - 1 = i by omega, m_at h hA0.x (by omega) (by omega), zbd_s, m_away (by omega) (by omega), zbd_s]
        show some (Sum.inl (zw (zsum g i + g i), zw ((i : Int) + 1 + 1))) = _
        rw [zw_i (by omega) (by omega), zw_i (by omega) (by omega)]
        rfl
      · show fX12_moved_l9 _ ((((σ 80 0).toNat - 1 : Nat) : Int) + 1) (zup M 200 0 0) = _
        unfold fX12_moved_l9
        rw [a_nn h hA0.x, if_pos (by omega)]
end CAL
