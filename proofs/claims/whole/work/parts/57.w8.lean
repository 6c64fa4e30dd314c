/-! PURE PART, 8: pairs, spares, hands moving, fingers judged, warmth asked -/
section QS2
variable {σ M : zMem} {k b t n x w : Int}
theorem zabs_n {a : Int} : 0 ≤ zabs a := by unfold zabs; split <;> omega
theorem zabs_le {a c : Int} (h : -c ≤ a ∧ a ≤ c) : zabs a ≤ c := by unfold zabs; split <;> omega
/-- how fast pair k beats at two tones -/
def zspd (σ : zMem) (k a c : Int) : Int := zabs (a * σ 52 k - c * σ 50 k)
theorem zspd_b (h : St σ) (k0 : 0 ≤ k) (k1 : k < σ 40 7) {a c : Int} (ha : 0 ≤ a + 1000 ∧ a ≤ 20000) (hc : 0 ≤ c + 1000 ∧ c ≤ 20000) : (-20000 ≤ a * σ 52 k ∧ a * σ 52 k ≤ 420000) ∧ (-20000 ≤ c * σ 50 k ∧ c * σ 50 k ≤ 420000) := by
  have hq := r_pQ h k0 k1
  have hp := r_pP h k0 k1
  have a1 := zmul_b (a := a + 1000) (b := σ 52 k) (A := 21000) (B := 20) (by omega) (by omega)
  have c1 := zmul_b (a := c + 1000) (b := σ 50 k) (A := 21000) (B := 20) (by omega) (by omega)
  have e1 : (a + 1000) * σ 52 k = a * σ 52 k + 1000 * σ 52 k := Int.add_mul ..
  have e2 : (c + 1000) * σ 50 k = c * σ 50 k + 1000 * σ 50 k := Int.add_mul ..
  have a2 := zmul_b (a := a + 1000) (b := 20 - σ 52 k) (A := 21000) (B := 20) (by omega) (by omega)
  have c2 := zmul_b (a := c + 1000) (b := 20 - σ 50 k) (A := 21000) (B := 20) (by omega) (by omega)
  have e3 : (a + 1000) * (20 - σ 52 k) = (a + 1000) * 20 - (a + 1000) * σ 52 k := Int.mul_sub ..
  have e4 : (c + 1000) * (20 - σ 50 k) = (c + 1000) * 20 - (c + 1000) * σ 50 k := Int.mul_sub ..
  omega
theorem e_speedAt (h : St σ) (hA : zAx σ M) (k0 : 0 ≤ k) (k1 : k < σ 40 7) {a c : Int} (ha : 0 ≤ a + 1000 ∧ a ≤ 20000) (hc : 0 ≤ c + 1000 ∧ c ≤ 20000) : fX7_speedAt 40 k a c M = some (zspd σ k a c) := by
  have hp := r_pn h
  have hb := zspd_b h k0 k1 ha hc
  unfold fX7_speedAt
  rw [show (40 + 12 : Nat) = 52 from rfl, show (40 + 10 : Nat) = 50 from rfl, hA.fl 52 rfl (by decide), hA.fl 50 rfl (by decide), zgd_t ⟨k0, by omega⟩, zgd_t ⟨k0, by omega⟩, zw_i (x := a * σ 52 k - c * σ 50 k) (by omega) (by omega)]
  have h1 : 0 ≤ zabs (a * σ 52 k - c * σ 50 k) := zabs_n
  have h2 : zabs (a * σ 52 k - c * σ 50 k) ≤ 1000000 := zabs_le (by omega)
  rw [zw_i (by omega) (by omega)]
  rfl
theorem m_beats (h : St σ) (hA : zAx σ M) (k0 : 0 ≤ k) (k1 : k < σ 40 7) {a c : Int} (ha : -300 ≤ a ∧ a ≤ 300) (hc : -300 ≤ c ∧ c ≤ 300) : fX12_beats k a c M = some (zspd σ k (σ 43 (σ 49 k) + a) (σ 43 (σ 51 k) + c)) := by
  have hp := r_pn h
  have hbw := r_bw h
  have h1 := r_pA h k0 k1
  have h2 := r_pB h k0 k1
  have t1 := r_tn h h1.1 h1.2
  have t2 := r_tn h h2.1 h2.2.1
  have hb := zspd_b h k0 k1 (a := σ 43 (σ 49 k) + a) (c := σ 43 (σ 51 k) + c) (by omega) (by omega)
  unfold fX12_beats
  rw [a_pA h hA k0 k1, a_pB h hA k0 k1, a_pP h hA k0 k1, a_pQ h hA k0 k1, a_tn h hA h1.1 h1.2, a_tn h hA h2.1 h2.2.1, zgd_t ⟨k0, by omega⟩, zgd_t ⟨h1.1, by omega⟩, zgd_t ⟨k0, by omega⟩, zgd_t ⟨k0, by omega⟩, zgd_t ⟨h2.1, by omega⟩, zgd_t ⟨k0, by omega⟩, zw_i (x := (σ 43 (σ 49 k) + a) * σ 52 k) (by omega) (by omega), zw_i (x := (σ 43 (σ 51 k) + c) * σ 50 k) (by omega) (by omega), m_away (by omega) (by omega), zbd_s]
  rfl
theorem e_speedOf (h : St σ) (hA : zAx σ M) (k0 : 0 ≤ k) (k1 : k < σ 40 7) : fX7_speedOf 40 k M = some (zspd σ k (σ 43 (σ 49 k)) (σ 43 (σ 51 k))) := by
  have hp := r_pn h
  have hbw := r_bw h
  have h1 := r_pA h k0 k1
  have h2 := r_pB h k0 k1
  have t1 := r_tn h h1.1 h1.2
  have t2 := r_tn h h2.1 h2.2.1
  unfold fX7_speedOf
  rw [show (40 + 9 : Nat) = 49 from rfl, show (40 + 11 : Nat) = 51 from rfl, show (40 + 3 : Nat) = 43 from rfl, hA.fl 49 rfl (by decide), hA.fl 51 rfl (by decide), hA.fl 43 rfl (by decide), zgd_t ⟨k0, by omega⟩, zgd_t ⟨h1.1, by omega⟩, zgd_t ⟨k0, by omega⟩, zgd_t ⟨h2.1, by omega⟩, e_speedAt h hA k0 k1 (by omega) (by omega), zbd_s]
theorem zspd_r (h : St σ) (k0 : 0 ≤ k) (k1 : k < σ 40 7) : 0 ≤ zspd σ k (σ 43 (σ 49 k)) (σ 43 (σ 51 k)) ∧ zspd σ k (σ 43 (σ 49 k)) (σ 43 (σ 51 k)) ≤ 1000000 := by
  have h1 := r_pA h k0 k1
  have h2 := r_pB h k0 k1
  have t1 := r_tn h h1.1 h1.2
  have t2 := r_tn h h2.1 h2.2.1
  have hb := zspd_b h k0 k1 (a := σ 43 (σ 49 k)) (c := σ 43 (σ 51 k)) (by omega) (by omega)
  exact ⟨zabs_n, zabs_le (by omega)⟩
theorem q_beating (h : St σ) (hA : zAg σ M) : ∃ r, fX11_beating k M = some r ∧ z32 r ∧ fX12_beating k M = some (r, zup M 200 0 0) := by
  have hp := r_pn h
  have hA0 := zA0 hA
  unfold fX11_beating fX12_beating fX7_hasPair
  rw [a_pn h hA0.x, hA.fl 40 rfl]
  by_cases c0 : k < 0
  · simp (disch := omega) only [zgd_t, zbd_s, zbd2_s, zw_i, if_pos, if_neg, ↓reduceIte, Nat.reduceAdd]; exact ⟨_, rfl, ⟨by omega, by omega⟩, rfl⟩
  · by_cases c1 : σ 40 7 ≤ k
    · simp (disch := omega) only [zgd_t, zbd_s, zbd2_s, zw_i, if_pos, if_neg, ↓reduceIte, Nat.reduceAdd]; exact ⟨_, rfl, ⟨by omega, by omega⟩, rfl⟩
    · have hr := zspd_r h (k := k) (by omega) (by omega)
      rw [e_speedOf h hA.x (by omega) (by omega), m_beats h hA0.x (k := k) (by omega) (by omega) (by omega) (by omega), Int.add_zero, Int.add_zero]
      simp (disch := omega) only [zgd_t, zbd_s, zbd2_s, zw_i, if_pos, if_neg, ↓reduceIte, Nat.reduceAdd]; exact ⟨_, rfl, ⟨by omega, by omega⟩, rfl⟩
/-- bits gathered one by one -/
def zbits (p : Int → Bool) : Nat → Int
  | 0 => 0
  | k + 1 => if p k = true then zor (zbits p k) (zshl 1 k) else zbits p k
theorem zbits_32 (p : Int → Bool) : ∀ k : Nat, z32 (zbits p k)
  | 0 => ⟨by show (-2147483648 : Int) ≤ 0; decide, by show (0 : Int) ≤ 2147483647; decide⟩
  | k + 1 => by unfold zbits; split; exact z32_i _; exact zbits_32 p k
theorem zbits_n (p : Int → Bool) : ∀ k : Nat, k ≤ 31 → ∃ m : Nat, zbits p k = m ∧ m < 2 ^ k
  | 0, _ => ⟨0, rfl, by decide⟩
  | k + 1, hk => by
    obtain ⟨m, hm, hl⟩ := zbits_n p k (by omega)
    have hp : 2 ^ k ≤ 2 ^ 30 := Nat.pow_le_pow_right (by decide) (by omega)
    have hp' : 2 ^ k < 2 ^ (k + 1) := Nat.pow_lt_pow_right (by decide) (by omega)
    unfold zbits
    split
    · rw [hm, zshl_1 k (by omega), zor_n (by omega) (by omega)]
      exact ⟨_, rfl, Nat.or_lt_two_pow (by omega) (by omega)⟩
    · exact ⟨m, hm, by omega⟩
theorem q_within (h : St σ) (hA : zAg σ M) : ∃ r, fX11_within M = some r ∧ z32 r ∧ fX12_within M = some (r, zup M 200 0 0) := by
  have hp := r_pn h
  have hA0 := zA0 hA
  let p : Int → Bool := fun k => decide (zspd σ k (σ 43 (σ 49 k)) (σ 43 (σ 51 k)) ≤ σ 53 k)
  refine ⟨zbits p (σ 40 7).toNat, ?_, zbits_32 _ _, ?_⟩
  · unfold fX11_within
    rw [show zit (fun s7 : Int × Int => fX11_within_l4 (s7.1) (s7.2) M) (0, 0) = some (zbits p (σ 40 7).toNat, ((σ 40 7).toNat : Int)) from zit_for (σ 40 7).toNat (fun i => (zbits p i, (i : Int))) ?_ ?_]
    · rfl
    · intro i hi
      show fX11_within_l4 (zbits p i) i M = some (.inl ((if p i = true then zor (zbits p i) (zshl 1 i) else zbits p i), ((i + 1 : Nat) : Int)))
      unfold fX11_within_l4
      rw [hA.fl 40 rfl, hA.fl 53 rfl, e_speedOf h hA.x (k := i) (by omega) (by omega), zbd_s]
      have e : (p i = true) ↔ zspd σ i (σ 43 (σ 49 i)) (σ 43 (σ 51 i)) ≤ σ 53 i := by show decide _ = true ↔ _; exact decide_eq_true_iff
      by_cases c : σ 53 i < zspd σ i (σ 43 (σ 49 i)) (σ 43 (σ 51 i))
      · rw [if_neg (show ¬ p i = true from fun q => by have := e.mp q; omega)]
        simp (disch := omega) only [zgd_t, zbd_s, zbd2_s, zw_i, if_pos, if_neg, ↓reduceIte, Nat.reduceAdd]; try simp
      · rw [if_pos (show p i = true from e.mpr (by omega))]
        simp (disch := omega) only [zgd_t, zbd_s, zbd2_s, zw_i, if_pos, if_neg, ↓reduceIte, Nat.reduceAdd]; try simp
    · show fX11_within_l4 (zbits p (σ 40 7).toNat) ((σ 40 7).toNat : Int) M = _
      unfold fX11_within_l4
      rw [hA.fl 40 rfl, if_pos (by omega)]
  · unfold fX12_within
    rw [show zit (fun s7 : Int × Int => fX12_within_l9 (s7.1) (s7.2) (zup M 200 0 0)) (0, 0) = some (zbits p (σ 40 7).toNat, ((σ 40 7).toNat : Int)) from zit_for (σ 40 7).toNat (fun i => (zbits p i, (i : Int))) ?_ ?_]
    · rfl
    · intro i hi
      show fX12_within_l9 (zbits p i) i (zup M 200 0 0) = some (.inl ((if p i = true then zor (zbits p i) (zshl 1 i) else zbits p i), ((i + 1 : Nat) : Int)))
      unfold fX12_within_l9 fX12_within_j43
      rw [a_pn h hA0.x, m_beats h hA0.x (k := i) (by omega) (by omega) (by omega) (by omega), zbd_s, a_pW h hA0.x (k := i) (by omega) (by omega), Int.add_zero, Int.add_zero]
      have e : (p i = true) ↔ zspd σ i (σ 43 (σ 49 i)) (σ 43 (σ 51 i)) ≤ σ 53 i := by show decide _ = true ↔ _; exact decide_eq_true_iff
      by_cases c : σ 53 i < zspd σ i (σ 43 (σ 49 i)) (σ 43 (σ 51 i))
      · rw [if_neg (show ¬ p i = true from fun q => by have := e.mp q; omega)]
        simp (disch := omega) only [zgd_t, zbd_s, zbd2_s, zw_i, if_pos, if_neg, ↓reduceIte, Nat.reduceAdd, zor_0 (zbits_32 p i)]; try simp
      · rw [if_pos (show p i = true from e.mpr (by omega))]
        simp (disch := omega) only [zgd_t, zbd_s, zbd2_s, zw_i, if_pos, if_neg, ↓reduceIte, Nat.reduceAdd]; try simp
    · show fX12_within_l9 (zbits p (σ 40 7).toNat) ((σ 40 7).toNat : Int) (zup M 200 0 0) = _
      unfold fX12_within_l9
      rw [a_pn h hA0.x, zgd_t (by decide), if_pos (by omega)]
/-- the nearest spare among the first -/
def znsp (σ : zMem) (b : Int) : Nat → Int
  | 0 => -1
  | k + 1 => if σ 46 k = 3 ∧ (znsp σ b k = -1 ∨ zabs (σ 43 k - σ 43 b) < zabs (σ 43 (znsp σ b k) - σ 43 b)) then (k : Int) else znsp σ b k
theorem znsp_r : ∀ k : Nat, -1 ≤ znsp σ b k ∧ znsp σ b k < k
  | 0 => by simp [znsp]
  | k + 1 => by have := znsp_r k; unfold znsp; split <;> omega
theorem q_spare (h : St σ) (hA : zAg σ M) : ∃ r, fX11_spare b M = some r ∧ z32 r ∧ fX12_spare b M = some (r, zup M 200 0 0) := by
  have hbw := r_bw h
  have hA0 := zA0 hA
  unfold fX11_spare fX12_spare
  rw [e_hasPlace h hA.x, m_isPlaced h hA0.x, zbd_s, zbd_s]
  by_cases c0 : 0 ≤ b ∧ b < σ 40 0 ∧ σ 46 b ≠ 3
  · obtain ⟨b0, b1, b2⟩ := c0
    have tb := r_tn h b0 b1
    rw [if_pos (show 0 ≤ b ∧ b < σ 40 0 ∧ σ 46 b ≠ 3 from ⟨b0, b1, b2⟩), if_neg (show ¬ (1 : Int) = 0 by decide), if_neg (show ¬ (1 : Int) = 0 by decide)]
    have hzr := znsp_r (σ := σ) (b := b) (σ 40 0).toNat
    refine ⟨znsp σ b (σ 40 0).toNat, ?_, ⟨by omega, by omega⟩, ?_⟩
    · unfold fX7_nearestSpare
      rw [show zit (fun s11 : Int × Int => fX7_nearestSpare_l4 40 b (s11.1) (s11.2) M) (-1, 0) = some (znsp σ b (σ 40 0).toNat, ((σ 40 0).toNat : Int)) from zit_for (σ 40 0).toNat (fun i => (znsp σ b i, (i : Int))) ?_ ?_]
      · rfl
      · intro i hi
        show fX7_nearestSpare_l4 40 b (znsp σ b i) i M = some (.inl ((if σ 46 i = 3 ∧ (znsp σ b i = -1 ∨ zabs (σ 43 i - σ 43 b) < zabs (σ 43 (znsp σ b i) - σ 43 b)) then (i : Int) else znsp σ b i), ((i + 1 : Nat) : Int)))
        have hr := znsp_r (σ := σ) (b := b) i
        unfold fX7_nearestSpare_l4 fX7_nearestSpare_j42
        rw [show (40 + 6 : Nat) = 46 from rfl, hA.fl 40 rfl, hA.fl 46 rfl, e_apart h hA.x (b := i) (k := b) (by omega) (by omega) b0 b1, zbd_s]
        generalize znsp σ b i = z at hr ⊢
        by_cases c1 : σ 46 i = 3
        · by_cases c2 : z = -1
          · simp (disch := omega) only [zgd_t, zbd_s, zbd2_s, zw_i, if_pos, if_neg, ↓reduceIte, Nat.reduceAdd, c1, c2]; try simp
          · rw [e_apart h hA.x (b := z) (k := b) (by omega) (by omega) b0 b1, zbd_s]
            by_cases c3 : zabs (σ 43 z - σ 43 b) ≤ zabs (σ 43 i - σ 43 b)
            · rw [if_neg (show ¬ (σ 46 i = 3 ∧ (z = -1 ∨ zabs (σ 43 i - σ 43 b) < zabs (σ 43 z - σ 43 b))) by omega)]
              simp (disch := omega) only [zgd_t, zbd_s, zbd2_s, zw_i, if_pos, if_neg, ↓reduceIte, Nat.reduceAdd, c1, c2]; try simp
            · rw [if_pos (show (σ 46 i = 3 ∧ (z = -1 ∨ zabs (σ 43 i - σ 43 b) < zabs (σ 43 z - σ 43 b))) by omega)]
              simp (disch := omega) only [zgd_t, zbd_s, zbd2_s, zw_i, if_pos, if_neg, ↓reduceIte, Nat.reduceAdd, c1, c2]; try simp
        · simp (disch := omega) only [zgd_t, zbd_s, zbd2_s, zw_i, if_pos, if_neg, ↓reduceIte, Nat.reduceAdd, c1]; try simp
      · show fX7_nearestSpare_l4 40 b _ ((σ 40 0).toNat : Int) M = _
        unfold fX7_nearestSpare_l4
        rw [hA.fl 40 rfl, if_pos (by omega)]
    · rw [show zit (fun s19 : Int × Int => fX12_spare_l19 b (s19.1) (s19.2) (zup M 200 0 0)) (-1, 0) = some (znsp σ b (σ 40 0).toNat, ((σ 40 0).toNat : Int)) from zit_for (σ 40 0).toNat (fun i => (znsp σ b i, (i : Int))) ?_ ?_]
      · rfl
      · intro i hi
        show fX12_spare_l19 b (znsp σ b i) i (zup M 200 0 0) = some (.inl ((if σ 46 i = 3 ∧ (znsp σ b i = -1 ∨ zabs (σ 43 i - σ 43 b) < zabs (σ 43 (znsp σ b i) - σ 43 b)) then (i : Int) else znsp σ b i), ((i + 1 : Nat) : Int)))
        have hr := znsp_r (σ := σ) (b := b) i
        have i0 : (0 : Int) ≤ i := by omega
        have i1 : (i : Int) < σ 40 0 := by omega
        have hpl := r_pl h i0 i1
        have ti := r_tn h i0 i1
        unfold fX12_spare_l19 fX12_spare_j78
        rw [a_bw h hA0.x, a_pl h hA0.x i0 i1, a_tn h hA0.x i0 i1, a_tn h hA0.x b0 b1, m_away (by omega) (by omega), zbd_s, zgd_t (by decide), if_neg (show ¬ σ 40 0 ≤ i by omega), zgd_t ⟨i0, by omega⟩]
        generalize znsp σ b i = z at hr ⊢
        by_cases c1 : σ 46 i = 3
        · rw [if_neg (show ¬ 0 ≤ σ 47 i by omega)]
          by_cases c2 : z = -1
          · simp (disch := omega) only [zgd_t, zbd_s, zbd2_s, zw_i, if_pos, if_neg, ↓reduceIte, Nat.reduceAdd, c1, c2]; try simp
          · have z0 : 0 ≤ z := by omega
            have z1 : z < σ 40 0 := by omega
            have tz := r_tn h z0 z1
            rw [a_tn h hA0.x z0 z1, m_away (by omega) (by omega), zbd_s]
            by_cases c3 : zabs (σ 43 z - σ 43 b) ≤ zabs (σ 43 i - σ 43 b)
            · rw [if_neg (show ¬ (σ 46 i = 3 ∧ (z = -1 ∨ zabs (σ 43 i - σ 43 b) < zabs (σ 43 z - σ 43 b))) by omega)]
              simp (disch := omega) only [zgd_t, zbd_s, zbd2_s, zw_i, if_pos, if_neg, ↓reduceIte, Nat.reduceAdd, c1]; try simp
            · rw [if_pos (show (σ 46 i = 3 ∧ (z = -1 ∨ zabs (σ 43 i - σ 43 b) < zabs (σ 43 z - σ 43 b))) by omega)]
              simp (disch := omega) only [zgd_t, zbd_s, zbd2_s, zw_i, if_pos, if_neg, ↓reduceIte, Nat.reduceAdd, c1]; try simp
        · rw [if_pos (show 0 ≤ σ 47 i by omega)]
          simp (disch := omega) only [zgd_t, zbd_s, zbd2_s, zw_i, if_pos, if_neg, ↓reduceIte, Nat.reduceAdd, c1]; try simp
      · show fX12_spare_l19 b _ ((σ 40 0).toNat : Int) (zup M 200 0 0) = _
        unfold fX12_spare_l19
        rw [a_bw h hA0.x, zgd_t (by decide), if_pos (by omega)]
  · rw [if_neg c0, if_pos rfl, if_pos rfl]; exact ⟨_, rfl, ⟨by omega, by omega⟩, rfl⟩
end QS2
