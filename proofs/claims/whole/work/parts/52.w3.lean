/-! PURE PART, 3: what is asked, as plain functions of the state -/
theorem zmul_b {a b A B : Int} (h : 0 ≤ a ∧ a ≤ A) (g : 0 ≤ b ∧ b ≤ B) : 0 ≤ a * b ∧ a * b ≤ A * B := ⟨Int.mul_nonneg h.1 g.1, Int.mul_le_mul h.2 g.2 g.1 (Int.le_trans h.1 h.2)⟩
def ztg (σ : zMem) (b t k : Int) : Int := if σ 82 k = b ∧ σ 83 k ≤ t ∧ t < σ 83 k + σ 84 k then σ 85 k else 0
def ztou (σ : zMem) (b t : Int) : Int := zsum (ztg σ b t) (σ 80 0).toNat
def zwst (σ : zMem) (b w p : Int) : Int := if p ≤ 0 then max 0 (w - σ 59 7) else w + (if σ 46 b = 0 then σ 59 6 * p else (σ 59 6 * p) / 2)
def zwm (σ : zMem) (b : Int) : Nat → Int
  | 0 => 0
  | t + 1 => zwst σ b (zwm σ b t) (ztou σ b t)
def zck (σ : zMem) (b : Int) : Nat → Int
  | 0 => -1
  | t + 1 => if zck σ b t = -1 ∧ σ 45 b * σ 59 8 < zwm σ b t then (t : Int) else zck σ b t
def zwo (σ : zMem) (fg : Int → Int) (f : Int) : Nat → Int × Int
  | 0 => (0, -1)
  | j + 1 => if fg j = f then (if (zwo σ fg f j).2 < 0 then ((zwo σ fg f j).1, (j : Int)) else if σ 83 j - (σ 83 (zwo σ fg f j).2 + σ 84 (zwo σ fg f j).2) < σ 59 5 then ((zwo σ fg f j).1 + σ 84 (zwo σ fg f j).2, (j : Int)) else (0, (j : Int))) else zwo σ fg f j
def zwor (σ : zMem) (fg : Int → Int) (n : Int) : Int := (zwo σ fg (fg n) (n.toNat + 1)).1
abbrev zdry (σ : zMem) (fg : Int → Int) (n t : Int) : Prop := 0 ≤ fg n ∧ σ 59 4 ≤ zwor σ fg n + t - σ 83 n
def zat (σ : zMem) (k : Int) : Int := σ 47 (σ 82 k)
abbrev zmee (σ : zMem) (k n : Int) : Prop := σ 83 k < σ 83 n + σ 84 n ∧ σ 83 n < σ 83 k + σ 84 k
def zcla (σ : zMem) (fg : Int → Int) (n k : Int) : Int :=
  if fg k < 0 then 6 else if ¬ zmee σ k n then 6 else if fg k = fg n then 2 else if (fg k < fg n ∧ zat σ n ≤ zat σ k) ∨ (fg n < fg k ∧ zat σ k ≤ zat σ n) then 3 else if ((fg k < σ 59 1) ↔ (fg n < σ 59 1)) ∧ (σ 59 2 < zat σ k - zat σ n ∨ σ 59 2 < zat σ n - zat σ k) then 4 else 6
def zmin (f : Int → Int) : Nat → Int
  | 0 => 6
  | n + 1 => min (zmin f n) (f n)
def zwro (σ : zMem) (fg : Int → Int) (n : Int) : Int := if fg n < 0 then 1 else if zmin (zcla σ fg n) n.toNat < 6 then zmin (zcla σ fg n) n.toNat else if zdry σ fg n (σ 83 n + σ 84 n - 1) then 5 else 0
def zprv (fg : Int → Int) (f : Int) : Nat → Int
  | 0 => -1
  | j + 1 => if fg j = f then (j : Int) else zprv fg f j
abbrev zsty (σ : zMem) (fg : Int → Int) (n : Int) : Prop := 0 ≤ fg n ∧ 0 ≤ zprv fg (fg n) n.toNat ∧ σ 82 (zprv fg (fg n) n.toNat) = σ 82 n ∧ σ 83 (zprv fg (fg n) n.toNat) + σ 84 (zprv fg (fg n) n.toNat) = σ 83 n
def zlw (σ : zMem) (k : Nat) (F : Int → Int) : Int := match zrp F (zseg (σ 56) (zca (σ 58) k) (σ 58 k - zca (σ 58) k).toNat) [] with
  | some (v :: _) => v
  | _ => 0
def zfc (σ : zMem) (n t tr : Int) : Int → Int := fun i => if i = 1 then σ 44 (σ 82 n) * tr else if i = 2 then σ 85 n - (if σ 46 (σ 82 n) = 2 then 1 else 0) else if i = 3 then zwm σ (σ 82 n) t.toNat else if i = 4 then t - σ 83 n else σ 45 (σ 82 n)
def zall (σ : zMem) (F : Int → Int) : Nat → Bool
  | 0 => true
  | k + 1 => zall σ F k && decide (zlw σ k F ≠ 0)
def zcrk (σ : zMem) (b : Int) : Int := zck σ b 200
def zwhy (σ : zMem) (fg : Int → Int) (n t tr : Int) : Int := if t - σ 83 n < σ 59 3 then 1 else if zcrk σ (σ 82 n) ≠ -1 ∧ zcrk σ (σ 82 n) ≤ t then 2 else if zdry σ fg n t then 3 else if zall σ (zfc σ n t tr) (σ 40 13).toNat = true then 0 else 4
section BAS
variable {σ M : zMem} {k b t n x : Int}
theorem e_hasBowl (hA : zAx σ M) : fX7_hasBowl 40 b M = some (if 0 ≤ b ∧ b < σ 40 0 then 1 else 0) := by
  unfold fX7_hasBowl
  rw [hA.fl 40 rfl (by decide)]
  by_cases h0 : b < 0
  · simp (disch := omega) only [zgd_t, zbd_s, zbd2_s, zw_i, if_pos, if_neg, ↓reduceIte, Nat.reduceAdd]
  · by_cases h1 : σ 40 0 ≤ b
    · simp (disch := omega) only [zgd_t, zbd_s, zbd2_s, zw_i, if_pos, if_neg, ↓reduceIte, Nat.reduceAdd]
    · simp (disch := omega) only [zgd_t, zbd_s, zbd2_s, zw_i, if_pos, if_neg, ↓reduceIte, Nat.reduceAdd]
theorem e_hasPlace (h : St σ) (hA : zAx σ M) : fX7_hasPlace 40 b M = some (if 0 ≤ b ∧ b < σ 40 0 ∧ σ 46 b ≠ 3 then 1 else 0) := by
  unfold fX7_hasPlace
  have hb := r_bw h
  rw [e_hasBowl hA, zbd_s, show (40 + 6 : Nat) = 46 from rfl, hA.fl 46 rfl (by decide)]
  by_cases h0 : 0 ≤ b ∧ b < σ 40 0
  · by_cases h1 : σ 46 b = 3
    · simp (disch := omega) only [zgd_t, zbd_s, zbd2_s, zw_i, if_pos, if_neg, ↓reduceIte, Nat.reduceAdd, h1]; try simp
    · simp (disch := omega) only [zgd_t, zbd_s, zbd2_s, zw_i, if_pos, if_neg, ↓reduceIte, Nat.reduceAdd, h1]; try simp [h0, h1]
  · rw [if_neg h0]; simp only [if_pos]; rw [if_neg (by omega)]
theorem e_has (hA : zAx σ M) : fX5_has 80 n M = some (if 0 ≤ n ∧ n < σ 80 0 then 1 else 0) := by
  unfold fX5_has
  rw [hA.fl 80 rfl (by decide)]
  by_cases h0 : n < 0
  · simp (disch := omega) only [zgd_t, zbd_s, zbd2_s, zw_i, if_pos, if_neg, ↓reduceIte, Nat.reduceAdd]
  · by_cases h1 : σ 80 0 ≤ n
    · simp (disch := omega) only [zgd_t, zbd_s, zbd2_s, zw_i, if_pos, if_neg, ↓reduceIte, Nat.reduceAdd]
    · simp (disch := omega) only [zgd_t, zbd_s, zbd2_s, zw_i, if_pos, if_neg, ↓reduceIte, Nat.reduceAdd]
theorem e_end (h : St σ) (hA : zAx σ M) (h0 : 0 ≤ n) (h1 : n < σ 80 0) : fX5_endOf 80 n M = some (σ 83 n + σ 84 n) := by
  unfold fX5_endOf
  have hn := r_nn h
  have hl := r_nl h h0 h1
  rw [show (80 + 3 : Nat) = 83 from rfl, show (80 + 4 : Nat) = 84 from rfl, hA.fl 83 rfl (by decide), hA.fl 84 rfl (by decide)]
  simp (disch := omega) only [zgd_t, zbd_s, zbd2_s, zw_i, if_pos, if_neg, ↓reduceIte, Nat.reduceAdd]
theorem e_lasts (h : St σ) (hA : zAx σ M) : fX5_lasts 80 n t M = some (if 0 ≤ n ∧ n < σ 80 0 ∧ σ 83 n ≤ t ∧ t < σ 83 n + σ 84 n then 1 else 0) := by
  unfold fX5_lasts
  have hn := r_nn h
  rw [e_has hA, zbd_s]
  by_cases h0 : 0 ≤ n ∧ n < σ 80 0
  · rw [show (80 + 3 : Nat) = 83 from rfl, hA.fl 83 rfl (by decide), e_end h hA h0.1 h0.2, zbd_s]
    by_cases h1 : t < σ 83 n
    · simp (disch := omega) only [zgd_t, zbd_s, zbd2_s, zw_i, if_pos, if_neg, ↓reduceIte, Nat.reduceAdd]; try simp
    · by_cases h2 : σ 83 n + σ 84 n ≤ t
      · simp (disch := omega) only [zgd_t, zbd_s, zbd2_s, zw_i, if_pos, if_neg, ↓reduceIte, Nat.reduceAdd]; try simp
      · simp (disch := omega) only [zgd_t, zbd_s, zbd2_s, zw_i, if_pos, if_neg, ↓reduceIte, Nat.reduceAdd]; try simp
  · rw [if_neg h0]; simp only [if_pos]; rw [if_neg (by omega)]
theorem m_isFrom {a c : Int} : fX12_isFrom x a c M = some (if a ≤ x ∧ x ≤ c then 1 else 0) := by
  unfold fX12_isFrom
  by_cases h0 : x < a
  · simp (disch := omega) only [zgd_t, zbd_s, zbd2_s, zw_i, if_pos, if_neg, ↓reduceIte, Nat.reduceAdd]
  · by_cases h1 : c < x
    · simp (disch := omega) only [zgd_t, zbd_s, zbd2_s, zw_i, if_pos, if_neg, ↓reduceIte, Nat.reduceAdd]
    · simp (disch := omega) only [zgd_t, zbd_s, zbd2_s, zw_i, if_pos, if_neg, ↓reduceIte, Nat.reduceAdd]
theorem m_isBeat : fX12_isBeat x M = some (if 0 ≤ x ∧ x < 200 then 1 else 0) := by
  unfold fX12_isBeat
  by_cases h0 : x < 0
  · simp (disch := omega) only [zgd_t, zbd_s, zbd2_s, zw_i, if_pos, if_neg, ↓reduceIte, Nat.reduceAdd]
  · by_cases h1 : 200 ≤ x
    · simp (disch := omega) only [zgd_t, zbd_s, zbd2_s, zw_i, if_pos, if_neg, ↓reduceIte, Nat.reduceAdd]
    · simp (disch := omega) only [zgd_t, zbd_s, zbd2_s, zw_i, if_pos, if_neg, ↓reduceIte, Nat.reduceAdd]
theorem e_isBeat : fX11_isBeat x M = some (if 0 ≤ x ∧ x < 200 then 1 else 0) := m_isBeat (M := M)
theorem m_isBowl (h : St σ) (hA : zAx σ M) : fX12_isBowl b M = some (if 0 ≤ b ∧ b < σ 40 0 then 1 else 0) := by
  unfold fX12_isBowl
  rw [a_bw h hA, zgd_t (by decide)]
  by_cases h0 : b < 0
  · simp (disch := omega) only [zgd_t, zbd_s, zbd2_s, zw_i, if_pos, if_neg, ↓reduceIte, Nat.reduceAdd]
  · by_cases h1 : σ 40 0 ≤ b
    · simp (disch := omega) only [zgd_t, zbd_s, zbd2_s, zw_i, if_pos, if_neg, ↓reduceIte, Nat.reduceAdd]
    · simp (disch := omega) only [zgd_t, zbd_s, zbd2_s, zw_i, if_pos, if_neg, ↓reduceIte, Nat.reduceAdd]
theorem m_isPlaced (h : St σ) (hA : zAx σ M) : fX12_isPlaced b M = some (if 0 ≤ b ∧ b < σ 40 0 ∧ σ 46 b ≠ 3 then 1 else 0) := by
  unfold fX12_isPlaced
  have hb := r_bw h
  rw [m_isBowl h hA, zbd_s]
  by_cases h0 : 0 ≤ b ∧ b < σ 40 0
  · have hp := r_pl h h0.1 h0.2
    simp (disch := omega) only [zgd_t, zbd_s, zbd2_s, zw_i, if_pos, if_neg, ↓reduceIte, Nat.reduceAdd, a_pl h hA h0.1 h0.2]
    by_cases h1 : σ 46 b = 3
    · simp (disch := omega) only [zgd_t, zbd_s, zbd2_s, zw_i, if_pos, if_neg, ↓reduceIte, Nat.reduceAdd, h1]; try simp
    · rcases hp with hp | hp
      · exact absurd hp.1 h1
      · simp [h0, h1, hp.2.1, Int.not_lt.mpr hp.2.1]
  · rw [if_neg h0]; simp only [if_pos]; rw [if_neg (by omega)]
theorem m_isNote (h : St σ) (hA : zAx σ M) : fX12_isNote n M = some (if 0 ≤ n ∧ n < σ 80 0 then 1 else 0) := by
  unfold fX12_isNote
  rw [a_nn h hA]
  by_cases h0 : n < 0
  · simp (disch := omega) only [zgd_t, zbd_s, zbd2_s, zw_i, if_pos, if_neg, ↓reduceIte, Nat.reduceAdd]
  · by_cases h1 : σ 80 0 ≤ n
    · simp (disch := omega) only [zgd_t, zbd_s, zbd2_s, zw_i, if_pos, if_neg, ↓reduceIte, Nat.reduceAdd]
    · simp (disch := omega) only [zgd_t, zbd_s, zbd2_s, zw_i, if_pos, if_neg, ↓reduceIte, Nat.reduceAdd]
theorem e_hasFinger (h : St σ) (hA : zAx σ M) : fX7_hasFinger 40 x M = some (if -1 ≤ x ∧ x < 2 * σ 59 1 then 1 else 0) := by
  unfold fX7_hasFinger
  have ht := r_ti h
  rw [show (40 + 19 : Nat) = 59 from rfl, hA.fl 59 rfl (by decide)]
  by_cases h0 : x < -1
  · simp (disch := omega) only [zgd_t, zbd_s, zbd2_s, zw_i, if_pos, if_neg, ↓reduceIte, Nat.reduceAdd]
  · by_cases h1 : 2 * σ 59 1 ≤ x
    · simp (disch := omega) only [zgd_t, zbd_s, zbd2_s, zw_i, if_pos, if_neg, ↓reduceIte, Nat.reduceAdd]
    · simp (disch := omega) only [zgd_t, zbd_s, zbd2_s, zw_i, if_pos, if_neg, ↓reduceIte, Nat.reduceAdd]
theorem m_isFinger (h : St σ) (hA : zAx σ M) : fX12_isFinger x M = some (if -1 ≤ x ∧ x < 2 * σ 59 1 then 1 else 0) := by
  unfold fX12_isFinger
  have ht := r_ti h
  rw [a_st h hA (k := 1) (by decide) (by decide)]
  by_cases h0 : x < -1
  · simp (disch := omega) only [zgd_t, zbd_s, zbd2_s, zw_i, if_pos, if_neg, ↓reduceIte, Nat.reduceAdd]
  · by_cases h1 : 2 * σ 59 1 ≤ x
    · simp (disch := omega) only [zgd_t, zbd_s, zbd2_s, zw_i, if_pos, if_neg, ↓reduceIte, Nat.reduceAdd]
    · simp (disch := omega) only [zgd_t, zbd_s, zbd2_s, zw_i, if_pos, if_neg, ↓reduceIte, Nat.reduceAdd]
theorem m_end (h : St σ) (hA : zAx σ M) (h0 : 0 ≤ n) (h1 : n < σ 80 0) : fX12_endOf n M = some (σ 83 n + σ 84 n) := by
  unfold fX12_endOf
  have hn := r_nn h
  have hl := r_nl h h0 h1
  rw [a_nr h hA h0 h1, a_nl h hA h0 h1]
  simp (disch := omega) only [zgd_t, zbd_s, zbd2_s, zw_i, if_pos, if_neg, ↓reduceIte, Nat.reduceAdd]
theorem m_lasts (h : St σ) (hA : zAx σ M) (h0 : 0 ≤ n) (h1 : n < σ 80 0) : fX12_lasts n t M = some (if σ 83 n ≤ t ∧ t < σ 83 n + σ 84 n then 1 else 0) := by
  unfold fX12_lasts
  have hn := r_nn h
  rw [a_nr h hA h0 h1, m_end h hA h0 h1, zbd_s]
  by_cases h1 : t < σ 83 n
  · simp (disch := omega) only [zgd_t, zbd_s, zbd2_s, zw_i, if_pos, if_neg, ↓reduceIte, Nat.reduceAdd]
  · by_cases h2 : σ 83 n + σ 84 n ≤ t
    · simp (disch := omega) only [zgd_t, zbd_s, zbd2_s, zw_i, if_pos, if_neg, ↓reduceIte, Nat.reduceAdd]
    · simp (disch := omega) only [zgd_t, zbd_s, zbd2_s, zw_i, if_pos, if_neg, ↓reduceIte, Nat.reduceAdd]
theorem m_away {a c : Int} (ha : -1000000000 ≤ a ∧ a ≤ 1000000000) (hc : -1000000000 ≤ c ∧ c ≤ 1000000000) : fX12_away a c M = some (zabs (a - c)) := by
  unfold fX12_away zabs
  by_cases h0 : c ≤ a
  · simp (disch := omega) only [zgd_t, zbd_s, zbd2_s, zw_i, if_pos, if_neg, ↓reduceIte, Nat.reduceAdd]
  · simp (disch := omega) only [zgd_t, zbd_s, zbd2_s, zw_i, if_pos, if_neg, ↓reduceIte, Nat.reduceAdd]; try simp only [Option.some.injEq]; omega
theorem e_apart (h : St σ) (hA : zAx σ M) (h0 : 0 ≤ b) (h1 : b < σ 40 0) (g0 : 0 ≤ k) (g1 : k < σ 40 0) : fX7_apart 40 b k M = some (zabs (σ 43 b - σ 43 k)) := by
  unfold fX7_apart
  have hb := r_bw h
  have t1 := r_tn h h0 h1
  have t2 := r_tn h g0 g1
  rw [show (40 + 3 : Nat) = 43 from rfl, hA.fl 43 rfl (by decide)]
  have hz : zabs (σ 43 b - σ 43 k) ≤ 9999 ∧ 0 ≤ zabs (σ 43 b - σ 43 k) := by unfold zabs; split <;> omega
  simp (disch := omega) only [zgd_t, zbd_s, zbd2_s, zw_i, if_pos, if_neg, ↓reduceIte, Nat.reduceAdd]
theorem ztg_b (h : St σ) (h0 : 0 ≤ k) (h1 : k < σ 80 0) : 0 ≤ ztg σ b t k ∧ ztg σ b t k ≤ 9 := by
  have := r_np h h0 h1
  unfold ztg; split <;> omega
theorem ztou_b (h : St σ) {i : Nat} (hi : i ≤ (σ 80 0).toNat) : 0 ≤ zsum (ztg σ b t) i ∧ zsum (ztg σ b t) i ≤ 9 * i := by
  have hn := r_nn h
  exact ⟨zsum_0 fun q hq => (ztg_b h (by omega) (by omega)).1, zsum_le fun q hq => (ztg_b h (by omega) (by omega)).2⟩
theorem m_touchedIn (h : St σ) (hA : zAx σ M) : fX12_touchedIn b t M = some (ztou σ b t) := by
  unfold fX12_touchedIn
  have hn := r_nn h
  rw [show zit (fun s8 : Int × Int => fX12_touchedIn_l5 b t (s8.1) (s8.2) M) (0, 0) = some (ztou σ b t, ((σ 80 0).toNat : Int)) from zit_for (σ 80 0).toNat (fun i => (zsum (ztg σ b t) i, (i : Int))) ?_ ?_]
  · rfl
  · intro i hi
    show fX12_touchedIn_l5 b t (zsum (ztg σ b t) i) (i : Int) M = some (.inl (zsum (ztg σ b t) i + ztg σ b t i, ((i + 1 : Nat) : Int)))
    have hb := ztou_b (b := b) (t := t) h (Nat.le_of_lt hi)
    have i0 : (0 : Int) ≤ i := by omega
    have i1 : (i : Int) < σ 80 0 := by omega
    have n_b := r_nb h (k := i) i0 i1; have n_l := r_nl h (k := i) i0 i1; have n_p := r_np h (k := i) i0 i1
    generalize zsum (ztg σ b t) i = z at hb ⊢
    unfold fX12_touchedIn_l5 fX12_touchedIn_j46 fX12_touchedIn_j47 ztg
    rw [a_nn h hA, a_nb h hA i0 i1, m_lasts h hA i0 i1, a_np h hA i0 i1, zbd_s]
    by_cases c1 : σ 82 i = b
    · by_cases c2 : σ 83 i ≤ t ∧ t < σ 83 i + σ 84 i
      · simp (disch := omega) only [zgd_t, zbd_s, zbd2_s, zw_i, if_pos, if_neg, ↓reduceIte, Nat.reduceAdd, c1, c2]; try simp
      · simp (disch := omega) only [zgd_t, zbd_s, zbd2_s, zw_i, if_pos, if_neg, ↓reduceIte, Nat.reduceAdd, c1, c2]; try simp
    · simp (disch := omega) only [zgd_t, zbd_s, zbd2_s, zw_i, if_pos, if_neg, ↓reduceIte, Nat.reduceAdd, c1]; try simp
  · show fX12_touchedIn_l5 b t (zsum (ztg σ b t) (σ 80 0).toNat) ((σ 80 0).toNat : Int) M = _
    unfold fX12_touchedIn_l5
    rw [a_nn h hA, if_pos (by omega)]; rfl
end BAS
