/-! PURE PART, 7: lifts; the plain questions -/
theorem zit_l {S E : Type} {f : S → Option (S ⊕ E)} {s s' : S} (h : f s = some (.inl s')) : zit f s = zit f s' := by rw [zit_eq, h]
theorem zit_r {S E : Type} {f : S → Option (S ⊕ E)} {s : S} {e : E} (h : f s = some (.inr e)) : zit f s = some e := by rw [zit_eq, h]
section LFT
variable {σ M : zMem} {k b t n x w : Int} {fg : Int → Int} {o1 no1 : Nat}
theorem zprv_r {f : Int} : ∀ (j : Nat), -1 ≤ zprv fg f j ∧ zprv fg f j < j
  | 0 => by simp [zprv]
  | j + 1 => by have := zprv_r (f := f) j; unfold zprv; split <;> omega
theorem e_follows (h : St σ) (hA : zAx σ M) (h0 : 0 ≤ n) (h1 : n < σ 80 0) (k0 : 0 ≤ k) (k1 : k < σ 80 0) : fX5_follows 80 k n M = some (if σ 82 k = σ 82 n ∧ σ 83 k + σ 84 k = σ 83 n then 1 else 0) := by
  have hn := r_nn h
  unfold fX5_follows
  rw [e_end h hA k0 k1, zbd_s, show (80 + 3 : Nat) = 83 from rfl, show (80 + 2 : Nat) = 82 from rfl, hA.fl 83 rfl (by decide), hA.fl 82 rfl (by decide), zgd_t ⟨k0, by omega⟩, zgd_t ⟨h0, by omega⟩, zgd_t ⟨h0, by omega⟩]
  by_cases c1 : σ 82 k = σ 82 n
  · by_cases c2 : σ 83 k + σ 84 k = σ 83 n
    · simp [c1, c2]
    · simp [c1, c2]
  · simp [c1]
theorem e_liftsAt (h : St σ) (hA : zAx σ M) (h0 : 0 ≤ n) (h1 : n < σ 80 0) (hn1 : n < no1) (hg : ∀ k : Int, 0 ≤ k → k ≤ n → M o1 k = fg k) (hr : -1 ≤ fg n) : fX2_liftsAt o1 no1 n M = some (if zsty σ fg n then 0 else 1) := by
  have hn := r_nn h
  unfold fX2_liftsAt
  obtain ⟨i, rfl⟩ : ∃ i : Nat, n = i := ⟨n.toNat, by omega⟩
  rw [hg i h0 (Int.le_refl _), zgd_t ⟨h0, hn1⟩]
  unfold zsty
  by_cases c0 : fg i = -1
  · rw [if_pos c0, if_neg (fun q => by have := q.1; omega)]
  · rw [if_neg c0, show ((i : Int).toNat) = i by omega, zw_i (by omega) (by omega)]
    have key : ∀ j : Nat, j ≤ i → zit (fun s8 : Int => fX2_liftsAt_l13 o1 no1 i s8 M) ((j : Int) - 1) = some (if 0 ≤ zprv fg (fg i) j then .inr (if σ 82 (zprv fg (fg i) j) = σ 82 i ∧ σ 83 (zprv fg (fg i) j) + σ 84 (zprv fg (fg i) j) = σ 83 i then 0 else 1) else .inl (-1)) := by
      intro j
      induction j with
      | zero =>
        intro _
        have : fX2_liftsAt_l13 o1 no1 i (((0 : Nat) : Int) - 1) M = some (.inr (.inl (-1))) := by unfold fX2_liftsAt_l13; rw [if_pos (by omega)]; rfl
        rw [zit_r this]; simp [zprv]
      | succ j ih =>
        intro hj
        have e1 : ((j + 1 : Nat) : Int) - 1 = j := by omega
        rw [e1]
        by_cases c1 : fg j = fg i
        · have e2 : zprv fg (fg i) (j + 1) = j := by unfold zprv; rw [if_pos c1]
          have st : fX2_liftsAt_l13 o1 no1 i j M = some (.inr (.inr (if σ 82 j = σ 82 i ∧ σ 83 j + σ 84 j = σ 83 i then 0 else 1))) := by
            unfold fX2_liftsAt_l13
            rw [hg j (by omega) (by omega), hg i h0 (Int.le_refl _), if_neg (by omega), zgd_t ⟨by omega, by omega⟩, zgd_t ⟨h0, hn1⟩, e_follows h hA h0 h1 (k := j) (by omega) (by omega), zbd_s, if_pos c1]
            by_cases c2 : σ 82 j = σ 82 i ∧ σ 83 j + σ 84 j = σ 83 i
            · simp [c2]
            · rw [if_neg c2, if_neg c2]; rfl
          rw [zit_r st, e2, if_pos (show (0 : Int) ≤ j by omega)]
        · have e2 : zprv fg (fg i) (j + 1) = zprv fg (fg i) j := by
            show (if fg j = fg i then (j : Int) else zprv fg (fg i) j) = _
            rw [if_neg c1]
          have st : fX2_liftsAt_l13 o1 no1 i j M = some (.inl ((j : Int) - 1)) := by
            unfold fX2_liftsAt_l13
            rw [hg j (by omega) (by omega), hg i h0 (Int.le_refl _), if_neg (by omega), zgd_t ⟨by omega, by omega⟩, zgd_t ⟨h0, hn1⟩, if_neg c1, zw_i (by omega) (by omega)]; rfl
          rw [zit_l st, e2]
          exact ih (by omega)
    rw [key i (Nat.le_refl _), zbd_s]
    by_cases c1 : 0 ≤ zprv fg (fg i) i
    · rw [if_pos c1]
      by_cases c2 : σ 82 (zprv fg (fg i) i) = σ 82 i ∧ σ 83 (zprv fg (fg i) i) + σ 84 (zprv fg (fg i) i) = σ 83 i
      · rw [if_pos c2, if_pos ⟨by omega, c1, c2⟩]; rfl
      · rw [if_neg c2, if_neg (fun q => c2 q.2.2)]; rfl
    · rw [if_neg c1, if_neg (fun q => c1 q.2.1)]; rfl
theorem m_stays (h : St σ) (hA : zAx σ M) (h0 : 0 ≤ n) (h1 : n < σ 80 0) (hg : ∀ k : Int, 0 ≤ k → k ≤ n → M 249 k = fg k) : fX12_stays n M = some (if zsty σ fg n then 1 else 0) := by
  have hn := r_nn h
  unfold fX12_stays
  obtain ⟨i, rfl⟩ : ∃ i : Nat, n = i := ⟨n.toNat, by omega⟩
  rw [zw_i (by omega) (by omega)]
  have key : ∀ j : Nat, j ≤ i → zit (fun s3 : Int => fX12_stays_l4 i s3 M) ((j : Int) - 1) = some (zprv fg (fg i) j) := by
    intro j
    induction j with
    | zero =>
      intro _
      have : fX12_stays_l4 i (((0 : Nat) : Int) - 1) M = some (.inr (-1)) := by unfold fX12_stays_l4; rw [if_pos (by omega)]; rfl
      exact zit_r this
    | succ j ih =>
      intro hj
      have e1 : ((j + 1 : Nat) : Int) - 1 = j := by omega
      rw [e1]
      have e2 : zprv fg (fg i) (j + 1) = if fg j = fg i then (j : Int) else zprv fg (fg i) j := rfl
      by_cases c1 : fg j = fg i
      · have st : fX12_stays_l4 i j M = some (.inr (j : Int)) := by
          unfold fX12_stays_l4
          rw [hg j (by omega) (by omega), hg i h0 (Int.le_refl _), if_neg (by omega), zgd_t ⟨by omega, by omega⟩, zgd_t ⟨by omega, by omega⟩, if_pos c1]
        rw [e2, if_pos c1]; exact zit_r st
      · have st : fX12_stays_l4 i j M = some (.inl ((j : Int) - 1)) := by
          unfold fX12_stays_l4
          rw [hg j (by omega) (by omega), hg i h0 (Int.le_refl _), if_neg (by omega), zgd_t ⟨by omega, by omega⟩, zgd_t ⟨by omega, by omega⟩, if_neg c1, zw_i (by omega) (by omega)]; rfl
        rw [e2, if_neg c1]
        exact (zit_l (f := fun s3 : Int => fX12_stays_l4 i s3 M) (s := (j : Int)) st).trans (ih (by omega))
  rw [key i (Nat.le_refl _), zbd_s]
  unfold fX12_stays_j29 zsty
  rw [hg i h0 (Int.le_refl _), zgd_t ⟨h0, by omega⟩, show ((i : Int).toNat) = i by omega]
  have hp := zprv_r (fg := fg) (f := fg i) i
  by_cases c0 : fg i < 0
  · rw [if_pos c0, if_neg (fun q => by have := q.1; omega)]
  · by_cases c1 : zprv fg (fg i) i < 0
    · rw [if_neg c0, if_pos c1, if_neg (fun q => by have := q.2.1; omega)]
    · have p0 : 0 ≤ zprv fg (fg i) i := by omega
      have p1 : zprv fg (fg i) i < σ 80 0 := by omega
      rw [if_neg c0, if_neg c1, zgd_t ⟨p0, by omega⟩, zgd_t ⟨h0, by omega⟩, m_end h hA p0 p1, zbd_s, zgd_t ⟨h0, by omega⟩, a_nb h hA p0 p1, a_nb h hA h0 h1, a_nr h hA h0 h1]
      generalize zprv fg (fg i) i = p at *
      by_cases c2 : σ 82 p = σ 82 i
      · by_cases c3 : σ 83 p + σ 84 p = σ 83 i
        · rw [if_pos c2, if_pos c3, if_pos ⟨by omega, p0, c2, c3⟩]
        · rw [if_pos c2, if_neg c3, if_neg (fun q => c3 q.2.2.2)]
      · rw [if_neg c2, if_neg (fun q => c2 q.2.2.1)]
end LFT
section QST
variable {σ M : zMem} {k b t n x w : Int}
theorem zA0 (hA : zAg σ M) : zAg σ (zup M 200 0 0) := hA.up rfl
theorem g_nf (h : St σ) (hA : zAg σ M) (h1 : n < σ 80 0) : ∀ k : Int, 0 ≤ k → k ≤ n → M 249 k = σ 86 k := fun k k0 k1 => a_nf h hA k0 (by omega)
theorem q_bowl (h : St σ) (hA : zAg σ M) : ∃ r, fX11_bowl b w M = some r ∧ z32 r ∧ fX12_bowl b w M = some (r, zup M 200 0 0) := by
  have hb := r_bw h
  have hA0 := zA0 hA
  unfold fX11_bowl fX12_bowl
  rw [e_hasBowl hA.x, m_isBowl h hA0.x, m_isFrom, zbd_s, zbd_s, zbd_s]
  by_cases c0 : 0 ≤ b ∧ b < σ 40 0
  · obtain ⟨b0, b1⟩ := c0
    have t1 := r_tn h b0 b1
    have t2 := r_sz h b0 b1
    have t3 := r_wl h b0 b1
    have t4 := r_kd h b0 b1
    have t5 := r_pl h b0 b1
    rw [if_pos (show 0 ≤ b ∧ b < σ 40 0 from ⟨b0, b1⟩), if_neg (show ¬ (1 : Int) = 0 by decide), if_neg (show ¬ (1 : Int) = 0 by decide), hA.fl 43 rfl, hA.fl 44 rfl, hA.fl 45 rfl, hA.fl 46 rfl, hA.fl 47 rfl, a_tn h hA0.x b0 b1, a_sz h hA0.x b0 b1, a_wl h hA0.x b0 b1, a_kd h hA0.x b0 b1, a_pl h hA0.x b0 b1]
    by_cases c1 : w = 0
    · simp (disch := omega) only [zgd_t, zbd_s, zbd2_s, zw_i, if_pos, if_neg, ↓reduceIte, Nat.reduceAdd, c1]; exact ⟨_, rfl, ⟨by omega, by omega⟩, rfl⟩
    by_cases c2 : w = 1
    · simp (disch := omega) only [zgd_t, zbd_s, zbd2_s, zw_i, if_pos, if_neg, ↓reduceIte, Nat.reduceAdd, c2]; exact ⟨_, rfl, ⟨by omega, by omega⟩, rfl⟩
    by_cases c3 : w = 2
    · simp (disch := omega) only [zgd_t, zbd_s, zbd2_s, zw_i, if_pos, if_neg, ↓reduceIte, Nat.reduceAdd, c3]; exact ⟨_, rfl, ⟨by omega, by omega⟩, rfl⟩
    by_cases c4 : w = 3
    · simp (disch := omega) only [zgd_t, zbd_s, zbd2_s, zw_i, if_pos, if_neg, ↓reduceIte, Nat.reduceAdd, c4]; exact ⟨_, rfl, ⟨by omega, by omega⟩, rfl⟩
    by_cases c5 : w = 4
    · simp (disch := omega) only [zgd_t, zbd_s, zbd2_s, zw_i, if_pos, if_neg, ↓reduceIte, Nat.reduceAdd, c5]; exact ⟨_, rfl, ⟨by omega, by omega⟩, rfl⟩
    · simp (disch := omega) only [zgd_t, zbd_s, zbd2_s, zw_i, if_pos, if_neg, ↓reduceIte, Nat.reduceAdd]; exact ⟨_, rfl, ⟨by omega, by omega⟩, rfl⟩
  · rw [if_neg c0, if_pos rfl, if_pos rfl]; exact ⟨_, rfl, ⟨by omega, by omega⟩, rfl⟩
theorem q_noteOf (h : St σ) (hA : zAg σ M) : ∃ r, fX11_noteOf n w M = some r ∧ z32 r ∧ fX12_noteOf n w M = some (r, zup M 200 0 0) := by
  have hb := r_nn h
  have hbw := r_bw h
  have ht := r_ti h
  have hA0 := zA0 hA
  unfold fX11_noteOf fX12_noteOf
  rw [e_has hA.x, m_isNote h hA0.x, m_isFrom, zbd_s, zbd_s, zbd_s]
  by_cases c0 : 0 ≤ n ∧ n < σ 80 0
  · obtain ⟨b0, b1⟩ := c0
    have t1 := r_nb h b0 b1
    have t2 := r_nl h b0 b1
    have t3 := r_np h b0 b1
    have t4 := r_nf h b0 b1
    rw [if_pos (show 0 ≤ n ∧ n < σ 80 0 from ⟨b0, b1⟩), if_neg (show ¬ (1 : Int) = 0 by decide), if_neg (show ¬ (1 : Int) = 0 by decide), hA.fl 82 rfl, hA.fl 83 rfl, hA.fl 84 rfl, hA.fl 85 rfl, hA.fl 86 rfl, a_nb h hA0.x b0 b1, a_nr h hA0.x b0 b1, a_nl h hA0.x b0 b1, a_np h hA0.x b0 b1, a_nf h hA0 b0 b1]
    by_cases c1 : w = 0
    · simp (disch := omega) only [zgd_t, zbd_s, zbd2_s, zw_i, if_pos, if_neg, ↓reduceIte, Nat.reduceAdd, c1]; exact ⟨_, rfl, ⟨by omega, by omega⟩, rfl⟩
    by_cases c2 : w = 1
    · simp (disch := omega) only [zgd_t, zbd_s, zbd2_s, zw_i, if_pos, if_neg, ↓reduceIte, Nat.reduceAdd, c2]; exact ⟨_, rfl, ⟨by omega, by omega⟩, rfl⟩
    by_cases c3 : w = 2
    · simp (disch := omega) only [zgd_t, zbd_s, zbd2_s, zw_i, if_pos, if_neg, ↓reduceIte, Nat.reduceAdd, c3]; exact ⟨_, rfl, ⟨by omega, by omega⟩, rfl⟩
    by_cases c4 : w = 3
    · simp (disch := omega) only [zgd_t, zbd_s, zbd2_s, zw_i, if_pos, if_neg, ↓reduceIte, Nat.reduceAdd, c4]; exact ⟨_, rfl, ⟨by omega, by omega⟩, rfl⟩
    by_cases c5 : w = 4
    · simp (disch := omega) only [zgd_t, zbd_s, zbd2_s, zw_i, if_pos, if_neg, ↓reduceIte, Nat.reduceAdd, c5]; exact ⟨_, rfl, ⟨by omega, by omega⟩, rfl⟩
    · simp (disch := omega) only [zgd_t, zbd_s, zbd2_s, zw_i, if_pos, if_neg, ↓reduceIte, Nat.reduceAdd]; exact ⟨_, rfl, ⟨by omega, by omega⟩, rfl⟩
  · rw [if_neg c0, if_pos rfl, if_pos rfl]; exact ⟨_, rfl, ⟨by omega, by omega⟩, rfl⟩
theorem m_placed (h : St σ) (hA : zAx σ M) : fX12_placed M = some (σ 40 1) := by
  have hb := r_bw h
  unfold fX12_placed
  have hpl : σ 40 1 = zsum (fun b => if σ 47 b < 0 then 0 else 1) (σ 40 0).toNat := h.1.2.2.2.2.1
  rw [show zit (fun s3 : Int × Int => fX12_placed_l4 (s3.1) (s3.2) M) (0, 0) = some (σ 40 1, ((σ 40 0).toNat : Int)) from ?_]
  · rfl
  rw [hpl]
  refine zit_for (σ 40 0).toNat (fun i => (zsum (fun b => if σ 47 b < 0 then 0 else 1) i, (i : Int))) ?_ ?_
  · intro i hi
    show fX12_placed_l4 (zsum (fun b => if σ 47 b < 0 then 0 else 1) i) i M = some (.inl (zsum (fun b => if σ 47 b < 0 then 0 else 1) i + (if σ 47 i < 0 then 0 else 1), ((i + 1 : Nat) : Int)))
    have s1 : zsum (fun b => if σ 47 b < 0 then 0 else 1) i ≤ 1 * i := zsum_le fun k _ => by show (if σ 47 k < 0 then (0 : Int) else 1) ≤ 1; split <;> omega
    have s0 : 0 ≤ zsum (fun b => if σ 47 b < 0 then 0 else 1) i := zsum_0 fun k _ => by show 0 ≤ (if σ 47 k < 0 then (0 : Int) else 1); split <;> omega
    generalize zsum (fun b => if σ 47 b < 0 then 0 else 1) i = z at s0 s1 ⊢
    unfold fX12_placed_l4 fX12_placed_j29
    rw [a_bw h hA, a_pl h hA (k := i) (by omega) (by omega)]
    by_cases c : σ 47 i < 0
    · simp (disch := omega) only [zgd_t, zbd_s, zbd2_s, zw_i, if_pos, if_neg, ↓reduceIte, Nat.reduceAdd, c]; try simp
    · simp (disch := omega) only [zgd_t, zbd_s, zbd2_s, zw_i, if_pos, if_neg, ↓reduceIte, Nat.reduceAdd, c]; try simp
  · show fX12_placed_l4 _ ((σ 40 0).toNat : Int) M = _
    unfold fX12_placed_l4
    rw [a_bw h hA, zgd_t (by decide), if_pos (by omega)]
theorem r_pc (h : St σ) : 0 ≤ σ 40 1 ∧ σ 40 1 ≤ 12 := by
  have hb := r_bw h
  have hpl : σ 40 1 = zsum (fun b => if σ 47 b < 0 then 0 else 1) (σ 40 0).toNat := h.1.2.2.2.2.1
  have s1 : zsum (fun b => if σ 47 b < 0 then 0 else 1) (σ 40 0).toNat ≤ 1 * ((σ 40 0).toNat : Int) := zsum_le fun k _ => by show (if σ 47 k < 0 then (0 : Int) else 1) ≤ 1; split <;> omega
  have s0 : 0 ≤ zsum (fun b => if σ 47 b < 0 then 0 else 1) (σ 40 0).toNat := zsum_0 fun k _ => by show 0 ≤ (if σ 47 k < 0 then (0 : Int) else 1); split <;> omega
  omega
theorem q_count (h : St σ) (hA : zAg σ M) : ∃ r, fX11_count x M = some r ∧ z32 r ∧ fX12_count x M = some (r, zup M 200 0 0) := by
  have h1 := r_bw h
  have h2 := r_pn h
  have h3 := r_sn h
  have h4 := r_nn h
  have h5 := r_pc h
  have h6 := h.2.2.2.1.1.2
  have hA0 := zA0 hA
  unfold fX11_count fX11_count_j23 fX12_count
  rw [m_isFrom, zbd_s, m_placed h hA0.x, zbd_s, a_bw h hA0.x, a_pn h hA0.x, a_sn h hA0.x, a_nn h hA0.x, a_tp h hA0.x, hA.fl 40 rfl, hA.fl 80 rfl, hA.fl 59 rfl, hA 20 1 rfl]
  by_cases c : x < 5 ∨ 16 ≤ x
  · by_cases c0 : x = 0
    · simp (disch := omega) only [zgd_t, zbd_s, zbd2_s, zw_i, if_pos, if_neg, ↓reduceIte, Nat.reduceAdd, c0]; exact ⟨_, rfl, ⟨by omega, by omega⟩, rfl⟩
    by_cases c1 : x = 1
    · simp (disch := omega) only [zgd_t, zbd_s, zbd2_s, zw_i, if_pos, if_neg, ↓reduceIte, Nat.reduceAdd, c1]; exact ⟨_, rfl, ⟨by omega, by omega⟩, rfl⟩
    by_cases c2 : x = 2
    · simp (disch := omega) only [zgd_t, zbd_s, zbd2_s, zw_i, if_pos, if_neg, ↓reduceIte, Nat.reduceAdd, c2]; exact ⟨_, rfl, ⟨by omega, by omega⟩, rfl⟩
    by_cases c3 : x = 3
    · simp (disch := omega) only [zgd_t, zbd_s, zbd2_s, zw_i, if_pos, if_neg, ↓reduceIte, Nat.reduceAdd, c3]; exact ⟨_, rfl, ⟨by omega, by omega⟩, rfl⟩
    by_cases c4 : x = 4
    · simp (disch := omega) only [zgd_t, zbd_s, zbd2_s, zw_i, if_pos, if_neg, ↓reduceIte, Nat.reduceAdd, c4]; exact ⟨_, rfl, ⟨by omega, by omega⟩, rfl⟩
    by_cases c5 : x = 16
    · simp (disch := omega) only [zgd_t, zbd_s, zbd2_s, zw_i, if_pos, if_neg, ↓reduceIte, Nat.reduceAdd, c5]; exact ⟨_, rfl, ⟨by omega, by omega⟩, rfl⟩
    · by_cases c6 : x < 5
      · simp (disch := omega) only [zgd_t, zbd_s, zbd2_s, zw_i, if_pos, if_neg, ↓reduceIte, Nat.reduceAdd]; exact ⟨_, rfl, ⟨by omega, by omega⟩, rfl⟩
      · simp (disch := omega) only [zgd_t, zbd_s, zbd2_s, zw_i, if_pos, if_neg, ↓reduceIte, Nat.reduceAdd]; exact ⟨_, rfl, ⟨by omega, by omega⟩, rfl⟩
  · have s := r_st h (k := x - 5) (by omega) (by omega)
    rw [a_st h hA0.x (k := x - 5) (by omega) (by omega)]
    have s2 : 0 ≤ zlea (x - 5) ∧ zmos (x - 5) ≤ 999 := by
      constructor
      · unfold zlea; repeat (first | split | omega)
      · unfold zmos; repeat (first | split | omega)
    simp (disch := omega) only [zgd_t, zbd_s, zbd2_s, zw_i, if_pos, if_neg, ↓reduceIte, Nat.reduceAdd]; exact ⟨_, rfl, ⟨by omega, by omega⟩, rfl⟩
end QST
