/-! PURE PART, 52: what fits at a node -/
section GRT
variable {σ M : zMem} {k x b : Int}
theorem zbsu_s {S m : Nat} : zbsu S (m + 1) = zbsu S m + (if S.testBit m then 1 else 0) := by
  show zbsu S m + (if S.testBit ((m : Int)).toNat then 1 else 0) = _
  rw [show ((m : Int)).toNat = m by omega]
theorem zsc_bs {S n : Nat} : ∀ d : Nat, d ≤ n → (zsc S n d : Int) = zbsu S n - zbsu S (n - d)
  | 0, _ => by
    show (0 : Int) = _
    rw [Nat.sub_zero]; omega
  | d + 1, hd => by
    have i := zsc_bs (S := S) (n := n) d (by omega)
    have e : n - d = (n - (d + 1)) + 1 := by omega
    rw [e, zbsu_s, show n - (d + 1) = n - 1 - d by omega] at i
    rw [show n - (d + 1) = n - 1 - d by omega]
    unfold zsc
    cases ht : S.testBit (n - 1 - d) with
    | true => rw [ht, if_pos rfl] at i; rw [if_pos rfl]; omega
    | false => rw [ht, if_neg (by decide)] at i; rw [if_neg (by decide)]; omega
theorem zbsu_k {S n : Nat} (hS : S < 2 ^ n) : ∀ k : Nat, zbsu S (n + k) = zbsu S n
  | 0 => rfl
  | k + 1 => by
    rw [show n + (k + 1) = (n + k) + 1 by omega, zbsu_s, zbsu_k hS k, Nat.testBit_lt_two_pow (Nat.lt_of_lt_of_le hS (Nat.pow_le_pow_right (by omega) (by omega)))]
    rw [if_neg (by decide)]; omega
theorem zsc_8 {S n : Nat} (hS : S < 2 ^ n) (h8 : n ≤ 8) : (zsc S n n : Int) = zbsu S 8 := by
  rw [zsc_bs n (Nat.le_refl _), Nat.sub_self]
  have := zbsu_k hS (8 - n)
  rw [show n + (8 - n) = 8 by omega] at this
  rw [this]
  show zbsu S n - 0 = _
  omega
/-- the tone of a node -/
def zto (σ M : zMem) (i : Int) : Int := σ 43 (M 152 i) + (M 160 i - 3) * σ 59 10
theorem e_toneOf (h : St σ) (hA : zAx σ M) (h8 : znpr σ ≤ 8) (hG : zGn σ M (σ 40 0)) {i : Int} (i0 : 0 ≤ i) (i1 : i < znpr σ) (hs : 0 ≤ M 160 i ∧ M 160 i ≤ 6) : fX1_toneOf i M = some (zto σ M i) ∧ -300 ≤ zto σ M i ∧ zto σ M i ≤ 10299 := by
  have hbw := r_bw h
  have nd := hG.2.1 i i0 (by rw [zgn_N]; exact i1)
  have tn := r_tn h nd.1.1 nd.1.2
  have m := zgm (a := M 160 i - 3) (b := σ 59 10) (by omega) (r_s10 h)
  unfold fX1_toneOf
  refine ⟨?_, ?_, ?_⟩
  · rw [zgd_t ⟨i0, by omega⟩, zgd_t ⟨nd.1.1, by omega⟩, zgd_t ⟨i0, by omega⟩, zgd_t (by decide), hA.fl 43 rfl (by decide), hA.fl 59 rfl (by decide), zw_i (by omega) (by omega)]
    rfl
  · unfold zto; omega
  · unfold zto; omega
end GRT
