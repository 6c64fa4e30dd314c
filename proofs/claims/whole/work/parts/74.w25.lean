/-! PURE PART, 25: mark -/
theorem zcpy_n {M : zMem} {i0 i1 a : Nat} {sp dp k : Int} (h : a ≠ i1) : zcpy M i0 sp i1 dp k a = M a := by
  funext b; unfold zcpy; rw [if_neg (fun q => h q.1)]
theorem zcpy_e {M : zMem} {i0 i1 : Nat} {b k : Int} (h0 : 0 ≤ b) (h1 : b < k) : zcpy M i0 0 i1 0 k i1 b = M i0 b := by
  unfold zcpy; rw [if_pos ⟨rfl, h0, by omega⟩, show (0 : Int) + (b - 0) = b by omega]
section MRK
variable {σ M N : zMem} {k s x w : Int}
theorem e_copy7 {o o1 : Nat} (h : o + 20 ≤ o1 ∨ o1 + 20 ≤ o) : zSat (fX7_copy o o1 M) (fun N => (∀ c : Nat, c < o ∨ o + 20 ≤ c → N c = M c) ∧ (N o 0 = M o1 0 ∧ N o 1 = M o1 1 ∧ N o 7 = M o1 7 ∧ N o 13 = M o1 13 ∧ N o 14 = M o1 14) ∧ ∀ (i : Nat) (q : Int), 3 ≤ i → i ≤ 19 → i ≠ 8 → i ≠ 14 → i ≠ 15 → i ≠ 17 → 0 ≤ q → q < zlen i → N (o + i) q = M (o1 + i) q) := by
  unfold fX7_copy
  simp (disch := omega) only [zgd_t, zcpy_n, zup_ne]
  refine ⟨fun c hc => ?_, ⟨?_, ?_, ?_, ?_, ?_⟩, fun i q i0 i1 e8 e14 e15 e17 q0 q1 => ?_⟩
  · funext q
    simp (disch := omega) only [zcpy_n, zup_ne]
  · simp (disch := omega) only [zcpy_n, zup_nk, zup_eq]
  · simp (disch := omega) only [zcpy_n, zup_nk, zup_eq]
  · simp (disch := omega) only [zcpy_n, zup_nk, zup_eq]
  · simp (disch := omega) only [zcpy_n, zup_nk, zup_eq]
  · simp (disch := omega) only [zcpy_n, zup_nk, zup_eq]
  · have : i = 3 ∨ i = 4 ∨ i = 5 ∨ i = 6 ∨ i = 7 ∨ i = 9 ∨ i = 10 ∨ i = 11 ∨ i = 12 ∨ i = 13 ∨ i = 16 ∨ i = 18 ∨ i = 19 := by omega
    rcases this with rfl | rfl | rfl | rfl | rfl | rfl | rfl | rfl | rfl | rfl | rfl | rfl | rfl <;> (have q1 : q < _ := q1; simp only [zlen, Nat.reduceLeDiff, ↓reduceIte, Nat.reduceEqDiff] at q1; simp (disch := omega) only [zcpy_n, zup_ne, zcpy_e])
theorem e_copy5 {o o1 : Nat} (h : o + 7 ≤ o1 ∨ o1 + 7 ≤ o) : zSat (fX5_copy o o1 M) (fun N => (∀ c : Nat, c < o ∨ o + 7 ≤ c → N c = M c) ∧ N o 0 = M o1 0 ∧ ∀ (i : Nat) (q : Int), 2 ≤ i → i ≤ 6 → 0 ≤ q → q < 24 → N (o + i) q = M (o1 + i) q) := by
  unfold fX5_copy
  simp (disch := omega) only [zgd_t, zcpy_n, zup_ne]
  refine ⟨fun c hc => ?_, ?_, fun i q i0 i1 q0 q1 => ?_⟩
  · funext q
    simp (disch := omega) only [zcpy_n, zup_ne]
  · simp (disch := omega) only [zcpy_n, zup_nk, zup_eq]
  · have : i = 2 ∨ i = 3 ∨ i = 4 ∨ i = 5 ∨ i = 6 := by omega
    rcases this with rfl | rfl | rfl | rfl | rfl <;> simp (disch := omega) only [zcpy_n, zup_ne, zcpy_e]
/-- the model's part of a mark: rows and NOTES from a to b -/
theorem m_mark79 {m x : Int} (hm : 0 ≤ m ∧ m < 4) : zSat (fX12_mark_j79 m x M) (fun e => e.1 = 1 ∧ (∀ (c : Nat) (q : Int), ¬ (245 ≤ c ∧ c < 250 ∧ (if x = 0 then 24 + 24 * m else 0) ≤ q ∧ q < (if x = 0 then 24 + 24 * m else 0) + 24) → e.2 c q = M c q) ∧ ∀ (c : Nat) (q : Int), 245 ≤ c → c < 250 → 0 ≤ q → q < 24 → e.2 c ((if x = 0 then 24 + 24 * m else 0) + q) = M c ((if x = 0 then 0 else 24 + 24 * m) + q)) := by
  generalize ha : (if x = 0 then 0 else 24 + 24 * m) = a
  generalize hb : (if x = 0 then 24 + 24 * m else 0) = b
  have kp : ∀ (o : Nat) (M : zMem), zSat (fX12_keeps o 120 m x M) (fun N => zL1 o a b 24 M N) := fun o M => by
    have := m_keeps (M := M) (o := o) (x := x) hm
    rw [ha, hb] at this; exact this
  have ab : a + 24 ≤ b ∨ b + 24 ≤ a := by
    by_cases c : x = 0
    · rw [if_pos c] at ha hb; omega
    · rw [if_neg c] at ha hb; omega
  unfold fX12_mark_j79
  rw [zS_bd]
  refine zs_m (kp 245 M) ?_
  rintro M1 ⟨p1, q1⟩
  rw [zS_bd]
  refine zs_m (kp 246 M1) ?_
  rintro M2 ⟨p2, q2⟩
  rw [zS_bd]
  refine zs_m (kp 247 M2) ?_
  rintro M3 ⟨p3, q3⟩
  rw [zS_bd]
  refine zs_m (kp 248 M3) ?_
  rintro M4 ⟨p4, q4⟩
  rw [zS_bd]
  refine zs_m (kp 249 M4) ?_
  rintro M5 ⟨p5, q5⟩
  refine ⟨rfl, fun c q hq => ?_, fun c q c0 c1 k0 k1 => ?_⟩
  · show M5 c q = M c q
    rw [p5 c q (by omega), p4 c q (by omega), p3 c q (by omega), p2 c q (by omega), p1 c q (by omega)]
  · show M5 c (b + q) = M c (a + q)
    have : c = 245 ∨ c = 246 ∨ c = 247 ∨ c = 248 ∨ c = 249 := by omega
    rcases this with rfl | rfl | rfl | rfl | rfl
    · rw [p5 _ _ (by omega), p4 _ _ (by omega), p3 _ _ (by omega), p2 _ _ (by omega), q1 q k0 k1]
    · rw [p5 _ _ (by omega), p4 _ _ (by omega), p3 _ _ (by omega), q2 q k0 k1, p1 _ _ (by omega)]
    · rw [p5 _ _ (by omega), p4 _ _ (by omega), q3 q k0 k1, p2 _ _ (by omega), p1 _ _ (by omega)]
    · rw [p5 _ _ (by omega), q4 q k0 k1, p3 _ _ (by omega), p2 _ _ (by omega), p1 _ _ (by omega)]
    · rw [q5 q k0 k1, p4 _ _ (by omega), p3 _ _ (by omega), p2 _ _ (by omega), p1 _ _ (by omega)]
theorem zrow_st {j : Int} {c : Nat} {q : Int} (hj : j = 0 ∨ 2 ≤ j) (h : zrow j c q) : zSc c q = true ∧ c ≠ 249 := by
  have hl := zrow_lt h
  refine ⟨?_, by omega⟩
  have hz : zprt c q = true → zSc c q = true := fun z => by unfold zSc; rw [z]; cases zfull c <;> rfl
  apply hz
  unfold zprt
  unfold zrow at h
  simp only [Bool.or_eq_true, Bool.and_eq_true, Bool.not_eq_true', decide_eq_true_eq, beq_iff_eq, decide_eq_false_iff_not, Bool.and_eq_false_iff]
  rcases h with ⟨h1, h2, h3⟩ | ⟨h1, h2, h3, h4⟩ | ⟨h1, h2, h3, h4⟩ | ⟨h1, h3, h4⟩ | ⟨h1, h2, h3, h4⟩ | ⟨h1, h3, h4⟩
  · have : ¬ q = 1 := by omega
    simp [h1, h2, this]
  · have : ¬ (12 ≤ q) ∨ ¬ (q < 24) := by omega
    simp [h1, h2]; omega
  · have : ¬ (8 ≤ q) ∨ ¬ (q < 16) := by omega
    simp [h1, h2]; omega
  · have : ¬ (11 ≤ q) ∨ ¬ (q < 22) := by omega
    simp [h1]; omega
  · have : ¬ (4 ≤ q) ∨ ¬ (q < 8) := by omega
    simp [h1, h2]; omega
  · have : ¬ (1000 ≤ q) ∨ ¬ (q < 2000) := by omega
    simp [h1]; omega
/-- a SPINDLE carried from (o, j) of σ to (o', j') of W, where M lies between -/
theorem zSu_via {o o' : Nat} {j j' : Int} {W : zMem} (hA : zAg σ M) (hj : j = 0 ∨ 2 ≤ j) (hj6 : j ≤ 5 ∧ 0 ≤ j' ∧ j' ≤ 5) (h : zSu o j σ) (ho : ∀ c : Nat, o ≤ c → c < o + 20 → M c = σ c) (H : W o' 0 = M o 0 ∧ W o' 1 = M o 1 ∧ W o' 7 = M o 7 ∧ W o' 13 = M o 13 ∧ W o' 14 = M o 14)
    (Ha : ∀ (i : Nat) (q : Int), 3 ≤ i → i ≤ 19 → i ≠ 8 → i ≠ 14 → i ≠ 15 → i ≠ 17 → 0 ≤ q → q < zlen i → W (o' + i) q = M (o + i) q)
    (H1 : ∀ c : Nat, 211 ≤ c → c < 214 → W c j' = M c j) (H2 : ∀ (c : Nat) (q : Int), 215 ≤ c → c < 220 → 0 ≤ q → q < 12 → W c (12 * j' + q) = M c (12 * j + q)) (H3 : ∀ (c : Nat) (q : Int), 220 ≤ c → c < 225 → 0 ≤ q → q < 8 → W c (8 * j' + q) = M c (8 * j + q)) (H4 : ∀ q : Int, 0 ≤ q → q < 11 → W 225 (11 * j' + q) = M 225 (11 * j + q)) (H5 : ∀ (c : Nat) (q : Int), 227 ≤ c → c < 229 → 0 ≤ q → q < 4 → W c (4 * j' + q) = zw (M c (4 * j + q) + 1000 * (j' - j))) (H6 : ∀ q : Int, 0 ≤ q → q < 1000 → W 229 (1000 * j' + q) = M 229 (1000 * j + q)) : zSu o' j' W := by
  have row : ∀ (c : Nat) (q : Int), zrow j c q → M c q = σ c q := fun c q hq => hA c q (zrow_st hj hq).1
  have e0 := ho o (by omega) (by omega)
  refine zSu_cp h (by rw [← e0]; exact H) (fun i q a1 a2 a3 a4 a5 a6 a7 a8 => by rw [Ha i q a1 a2 a3 a4 a5 a6 a7 a8, ho (o + i) (by omega) (by omega)]) (fun c a1 a2 => by rw [H1 c a1 a2, row c j (Or.inl ⟨a1, a2, rfl⟩)]) (fun c q a1 a2 a3 a4 => by rw [H2 c q a1 a2 a3 a4, row c _ (Or.inr (Or.inl ⟨a1, a2, by omega, by omega⟩))]) (fun c q a1 a2 a3 a4 => by rw [H3 c q a1 a2 a3 a4, row c _ (Or.inr (Or.inr (Or.inl ⟨a1, a2, by omega, by omega⟩)))]) (fun q a3 a4 => by rw [H4 q a3 a4, row 225 _ (Or.inr (Or.inr (Or.inr (Or.inl ⟨rfl, by omega, by omega⟩))))]) (fun c q a1 a2 a3 a4 a5 => ?_) (fun q a3 a4 => by rw [H6 q a3 a4, row 229 _ (Or.inr (Or.inr (Or.inr (Or.inr (Or.inr ⟨rfl, by omega, by omega⟩)))))])
  rw [H5 c q a1 a2 a3 a4, row c _ (Or.inr (Or.inr (Or.inr (Or.inr (Or.inl ⟨a1, a2, by omega, by omega⟩)))))]
  have sp := h.2.2.2.2.2.2 q.toNat (by omega)
  rw [show ((q.toNat : Nat) : Int) = q by omega] at sp
  have : c = 227 ∨ c = 228 := by omega
  rcases this with rfl | rfl <;> exact zw_i (by omega) (by omega)
theorem zPi_via {o o' : Nat} {j j' nn nn' : Int} {so so' : Nat} {W : zMem} (hA : zAg σ M) (h : zPi o j nn so σ) (hn : nn' = nn) (ho : ∀ c : Nat, o ≤ c → c < o + 7 → M c = σ c) (hso : ∀ c : Nat, so ≤ c → c < so + 20 → M c = σ c) (H0 : W o' 0 = M o 0) (Hs : W so' 0 = M so 0 ∧ W (so' + 19) 1 = M (so + 19) 1) (H6 : ∀ b : Int, 0 ≤ b → b < 12 → W (so' + 6) b = M (so + 6) b) (hb : σ so 0 ≤ 12) (Ha : ∀ (i : Nat) (q : Int), 2 ≤ i → i ≤ 6 → 0 ≤ q → q < 24 → W (o' + i) q = M (o + i) q) (Hm : ∀ (c : Nat) (q : Int), 245 ≤ c → c < 250 → 0 ≤ q → q < 24 → W c (24 * j' + q) = M c (24 * j + q)) : zPi o' j' nn' so' W :=
  zPi_cp h hn (by rw [H0, ho o (by omega) (by omega)]) ⟨by rw [Hs.1, hso so (by omega) (by omega)], by rw [Hs.2, hso (so + 19) (by omega) (by omega)]⟩ (fun b b0 b1 => by rw [H6 b b0 (by omega), hso (so + 6) (by omega) (by omega)]) (fun i q a1 a2 a3 a4 => by rw [Ha i q a1 a2 a3 a4, ho (o + i) (by omega) (by omega)]) (fun c q a1 a2 a3 a4 => by
    rw [Hm c q a1 a2 a3 a4]
    refine hA c _ ?_
    have : c = 245 ∨ c = 246 ∨ c = 247 ∨ c = 248 ∨ c = 249 := by omega
    rcases this with rfl | rfl | rfl | rfl | rfl <;> rfl)
end MRK
