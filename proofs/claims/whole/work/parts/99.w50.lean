/-! PURE PART, 50: ways of a scope -/
section GRC
variable {σ M : zMem} {k x b : Int}
theorem zbsu_b {S N : Nat} : 0 ≤ zbsu S N ∧ zbsu S N ≤ N := by
  refine ⟨zsum_0 fun q _ => by split <;> omega, ?_⟩
  have : zbsu S N ≤ 1 * (N : Int) := zsum_le fun q _ => by split <;> omega
  omega
theorem e_waysOf {S : Nat} (hS : S < 256) : fX1_waysOf (S : Int) M = some (7 ^ (zbsu S 8).toNat) := by
  have bb := zbsu_b (S := S) (N := 8)
  unfold fX1_waysOf
  obtain ⟨p, hp⟩ : ∃ p : Nat, zbsu S 8 = p := ⟨(zbsu S 8).toNat, by omega⟩
  have key : zit (fun s5 : Int × Int => fX1_waysOf_l4 (S : Int) (s5.1) (s5.2) M) (1, 0) = some (7 ^ p, (p : Int)) := by
    refine zit_for (f := fun s5 : Int × Int => fX1_waysOf_l4 (S : Int) (s5.1) (s5.2) M) p (fun i => (7 ^ i, (i : Int))) (fun i hi => ?_) ?_
    · have p0 : (0 : Int) < 7 ^ i := Int.pow_pos (by decide)
      have p1 : (7 : Int) ^ i ≤ 7 ^ 7 := by
        have := Nat.pow_le_pow_right (n := 7) (by decide) (show i ≤ 7 by omega)
        exact_mod_cast this
      have e7 : (7 : Int) ^ 7 = 823543 := by decide
      show fX1_waysOf_l4 (S : Int) (7 ^ i) i M = some (.inl (7 ^ (i + 1), ((i + 1 : Nat) : Int)))
      unfold fX1_waysOf_l4
      rw [e_bc hS, zbd_s, if_neg (by omega), zw_i (x := 7 ^ i * 7) (by omega) (by omega), zw_i (by omega) (by omega), Int.pow_succ]
      rfl
    · show fX1_waysOf_l4 (S : Int) (7 ^ p) p M = _
      unfold fX1_waysOf_l4
      rw [e_bc hS, zbd_s, if_pos (by omega)]
  rw [key, zbd_s, hp]
  rfl
/-- the way of steps a through the nodes of S from i on, of n -/
def zsf (a : Int → Int) (S n : Nat) : Nat → Int
  | 0 => 0
  | d + 1 => if S.testBit (n - 1 - d) then zsf a S n d * 7 + a ((n - 1 - d : Nat) : Int) else zsf a S n d
theorem zsf_b {a : Int → Int} {S n : Nat} (ha : ∀ q : Nat, q < n → S.testBit q = true → 0 ≤ a q ∧ a q ≤ 6) : ∀ d : Nat, d ≤ n → 0 ≤ zsf a S n d ∧ zsf a S n d < 7 ^ d
  | 0, _ => by
    show (0 : Int) ≤ 0 ∧ (0 : Int) < 1
    decide
  | d + 1, hd => by
    have i := zsf_b ha d (by omega)
    have p0 : (0 : Int) < 7 ^ d := Int.pow_pos (by decide)
    unfold zsf
    rw [Int.pow_succ]
    cases ht : S.testBit (n - 1 - d) with
    | true =>
      have := ha (n - 1 - d) (by omega) ht
      rw [if_pos rfl]
      omega
    | false =>
      rw [if_neg (by decide)]
      omega
theorem e_wayOf {n S : Nat} (hn : M 150 3 = n) (h8 : n ≤ 8) (hS : S < 256) (ha : ∀ q : Nat, q < n → S.testBit q = true → 0 ≤ M 160 q ∧ M 160 q ≤ 6) : fX1_wayOf (S : Int) M = some (zsf (M 160) S n n) := by
  unfold fX1_wayOf
  have key : zit (fun s3 : Int × Int => fX1_wayOf_l9 (S : Int) (s3.1) (s3.2) M) (0, (n : Int) - 1) = some (zsf (M 160) S n n, -1) := by
    have := zit_for (f := fun s3 : Int × Int => fX1_wayOf_l9 (S : Int) (s3.1) (s3.2) M) n (fun i => (zsf (M 160) S n i, (n : Int) - 1 - i)) (e := (zsf (M 160) S n n, -1)) (fun i hi => ?_) ?_
    · rw [show (n : Int) - 1 = (n : Int) - 1 - ((0 : Nat) : Int) by omega]
      exact this
    · have b := zsf_b ha i (by omega)
      have p1 : (7 : Int) ^ i ≤ 7 ^ 7 := by
        have := Nat.pow_le_pow_right (n := 7) (by decide) (show i ≤ 7 by omega)
        exact_mod_cast this
      have e7 : (7 : Int) ^ 7 = 823543 := by decide
      have ei : (n : Int) - 1 - i = ((n - 1 - i : Nat) : Int) := by omega
      show fX1_wayOf_l9 (S : Int) (zsf (M 160) S n i) ((n : Int) - 1 - i) M = some (.inl (zsf (M 160) S n (i + 1), (n : Int) - 1 - ((i + 1 : Nat) : Int)))
      unfold fX1_wayOf_l9
      have us : zsf (M 160) S n (i + 1) = if S.testBit (n - 1 - i) then zsf (M 160) S n i * 7 + M 160 ((n - 1 - i : Nat) : Int) else zsf (M 160) S n i := rfl
      rw [us]
      generalize zsf (M 160) S n i = z at b ⊢
      rw [if_neg (by omega), ei, zbit_n (by omega) (by omega), show (n : Int) - 1 - ((i + 1 : Nat) : Int) = ((n - 1 - i : Nat) : Int) + -1 by omega, zw_i (x := ((n - 1 - i : Nat) : Int) + -1) (by omega) (by omega)]
      cases ht : S.testBit (n - 1 - i) with
      | true =>
        have := ha (n - 1 - i) (by omega) ht
        rw [if_pos rfl, if_neg (by decide), zgd_t ⟨by omega, by omega⟩, zw_i (by omega) (by omega)]
        rfl
      | false =>
        rw [if_pos (show (if false = true then (1 : Int) else 0) = 0 by decide)]
        rfl
    · show fX1_wayOf_l9 (S : Int) _ ((n : Int) - 1 - n) M = _
      unfold fX1_wayOf_l9
      rw [if_pos (by omega), show (n : Int) - 1 - n = -1 by omega]
  rw [hn, zw_i (by omega) (by omega), key, zbd_s]
end GRC
