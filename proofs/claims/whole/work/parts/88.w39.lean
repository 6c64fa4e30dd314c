/-! PURE PART, 39: the class's table of an order -/
section ORT
variable {σ M : zMem} {k x : Int}
theorem zpx {S a b : Nat} (hS : S < 2147483648) (ha : a < 32) (hb : b < 32) : zand (zxor (zshr (S : Int) (a : Int)) (zshr (S : Int) (b : Int))) 1 = if S.testBit a = S.testBit b then 0 else 1 := by
  have e : ∀ k : Nat, k < 32 → zshr (S : Int) (k : Int) = ((S / 2 ^ k : Nat) : Int) := fun k hk => by rw [zshr_i ⟨by omega, by omega⟩ hk]; simp
  have l : ∀ k : Nat, S / 2 ^ k < 2147483648 := fun k => Nat.lt_of_le_of_lt (Nat.div_le_self _ _) hS
  have lx : S / 2 ^ a ^^^ S / 2 ^ b < 2 ^ 31 := Nat.xor_lt_two_pow (l a) (l b)
  rw [e a ha, e b hb, zxor_n (l a) (l b), zand_1 ⟨by omega, by omega⟩]
  have t : (S / 2 ^ a ^^^ S / 2 ^ b).testBit 0 = (S.testBit a ^^ S.testBit b) := by
    rw [Nat.testBit_xor, Nat.testBit_div_two_pow, Nat.testBit_div_two_pow]; simp
  rw [Nat.testBit_zero] at t
  generalize S / 2 ^ a ^^^ S / 2 ^ b = z at t ⊢
  cases h1 : S.testBit a <;> cases h2 : S.testBit b <;> rw [h1, h2] at t <;> simp at t ⊢ <;> omega
/-- how often the tune goes over the border of S -/
def zpa (σ : zMem) (S : Nat) : Int := zsum (fun n => if S.testBit (zct σ (σ 82 (n + 1))).toNat = S.testBit (zct σ (σ 82 n)).toNat then 0 else 1) ((σ 80 0).toNat - 1)
theorem zpa_b (h : St σ) (S : Nat) : 0 ≤ zpa σ S ∧ zpa σ S ≤ 24 := by
  have hnn := r_nn h
  refine ⟨zsum_0 fun q _ => by split <;> omega, ?_⟩
  have : zpa σ S ≤ 1 * ((σ 80 0).toNat - 1 : Nat) := zsum_le fun q _ => by split <;> omega
  omega
theorem e_passes (h : St σ) (h8 : σ 40 1 ≤ 8) (hA : zAx σ M) (hN : zNd σ M (σ 40 0)) {S : Nat} (hS : S < 256) : fX4_passes S M = some (zpa σ S) := by
  have hnn := r_nn h
  unfold fX4_passes
  have tb : ∀ i : Nat, 0 ≤ zsum (fun n => if S.testBit (zct σ (σ 82 (n + 1))).toNat = S.testBit (zct σ (σ 82 n)).toNat then 0 else 1) i ∧ zsum (fun n => if S.testBit (zct σ (σ 82 (n + 1))).toNat = S.testBit (zct σ (σ 82 n)).toNat then 0 else 1) i ≤ 1 * i := fun i => ⟨zsum_0 fun q _ => by split <;> omega, zsum_le fun q _ => by split <;> omega⟩
  by_cases c0 : σ 80 0 = 0
  · rw [zit_r (f := fun s4 : Int × Int => fX4_passes_l4 S (s4.1) (s4.2) M) (s := (0, 1)) (e := (0, 1)) (by show fX4_passes_l4 S 0 1 M = _; unfold fX4_passes_l4; rw [hA.fl 80 rfl (by decide), if_pos (by omega)]), zbd_s]
    unfold zpa; rw [c0]; rfl
  · have key := zit_for (f := fun s4 : Int × Int => fX4_passes_l4 S (s4.1) (s4.2) M) ((σ 80 0).toNat - 1) (fun i => (zsum (fun n => if S.testBit (zct σ (σ 82 (n + 1))).toNat = S.testBit (zct σ (σ 82 n)).toNat then 0 else 1) i, (i : Int) + 1)) (e := (zpa σ S, (((σ 80 0).toNat - 1 : Nat) : Int) + 1)) ?_ ?_
    · rw [show zit (fun s4 : Int × Int => fX4_passes_l4 S (s4.1) (s4.2) M) (0, 1) = _ from key, zbd_s]
    · intro i hi
      have n1 := r_nb h (k := (i : Int) + 1) (by omega) (by omega)
      have n2 := r_nb h (k := i) (by omega) (by omega)
      have a1 := zct_lt h n1
      have a2 := zct_lt h n2
      have b1 := zct_0 (σ := σ) (a := σ 82 ((i : Int) + 1))
      have b2 := zct_0 (σ := σ) (a := σ 82 i)
      have t2 := tb i
      show fX4_passes_l4 S (zsum (fun n => if S.testBit (zct σ (σ 82 (n + 1))).toNat = S.testBit (zct σ (σ 82 n)).toNat then 0 else 1) i) ((i : Int) + 1) M = some (.inl (zsum (fun n => if S.testBit (zct σ (σ 82 (n + 1))).toNat = S.testBit (zct σ (σ 82 n)).toNat then 0 else 1) i + (if S.testBit (zct σ (σ 82 ((i : Int) + 1))).toNat = S.testBit (zct σ (σ 82 i)).toNat then 0 else 1), ((i + 1 : Nat) : Int) + 1))
      generalize zsum (fun n => if S.testBit (zct σ (σ 82 (n + 1))).toNat = S.testBit (zct σ (σ 82 n)).toNat then 0 else 1) i = z at t2 ⊢
      unfold fX4_passes_l4
      rw [hA.fl 80 rfl (by decide), if_neg (by omega), show (i : Int) + 1 - 1 = i by omega, zgd_t ⟨by omega, by omega⟩, zgd_t ⟨by omega, by omega⟩, hN.2.2 ((i : Int) + 1) (by omega) (by omega) n1.2.1, hN.2.2 i (by omega) (by omega) n2.2.1, zw_i (x := (i : Int) + 1 + 1) (by omega) (by omega)]
      have p := zpx (S := S) (a := (zct σ (σ 82 ((i : Int) + 1))).toNat) (b := (zct σ (σ 82 i)).toNat) (by omega) (by omega) (by omega)
      rw [show (((zct σ (σ 82 ((i : Int) + 1))).toNat : Nat) : Int) = zct σ (σ 82 ((i : Int) + 1)) by omega, show (((zct σ (σ 82 i)).toNat : Nat) : Int) = zct σ (σ 82 i) by omega] at p
      rw [p, zw_i (by split <;> omega) (by split <;> omega)]
      rfl
    · show fX4_passes_l4 S _ ((((σ 80 0).toNat - 1 : Nat) : Int) + 1) M = _
      unfold fX4_passes_l4
      rw [hA.fl 80 rfl (by decide), if_pos (by omega)]
      rfl
/-- the first of the best nodes to go on with from S -/
def zNx (N : Nat) (T : Int → Int) (S j : Nat) : Prop := j < N ∧ S.testBit j = false ∧ (∀ i : Nat, i < N → S.testBit i = false → T ((S ||| 2 ^ j : Nat) : Int) ≤ T ((S ||| 2 ^ i : Nat) : Int)) ∧ ∀ i : Nat, i < j → S.testBit i = false → T ((S ||| 2 ^ j : Nat) : Int) < T ((S ||| 2 ^ i : Nat) : Int)
theorem zor_up {S j : Nat} (h : S.testBit j = false) : S < S ||| 2 ^ j := by
  have le : S ≤ S ||| 2 ^ j := Nat.left_le_or
  have ne : S ≠ S ||| 2 ^ j := fun e => by
    have : (S ||| 2 ^ j).testBit j = true := by rw [Nat.testBit_or, Nat.testBit_two_pow_self]; simp
    rw [← e, h] at this
    cases this
  omega
theorem zNx_c {N S j y : Nat} {T T' : Int → Int} (h : zNx N T S j) (hy : y ≤ S) (e : ∀ q : Nat, y < q → T' q = T q) : zNx N T' S j := by
  obtain ⟨h1, h2, h3, h4⟩ := h
  have e' : ∀ i : Nat, S.testBit i = false → T' ((S ||| 2 ^ i : Nat) : Int) = T ((S ||| 2 ^ i : Nat) : Int) := fun i hi => e _ (by have := zor_up hi; omega)
  refine ⟨h1, h2, fun i a b => by rw [e' i b, e' j h2]; exact h3 i a b, fun i a b => by rw [e' i b, e' j h2]; exact h4 i a b⟩
theorem zor_b {N S i : Nat} (hS : S < 2 ^ N) (hi : i < N) : S ||| 2 ^ i < 2 ^ N := Nat.or_lt_two_pow hS (Nat.pow_lt_pow_right (by omega) hi)
theorem zp256 {N : Nat} (h : N ≤ 8) : 2 ^ N ≤ 256 := Nat.pow_le_pow_right (by omega) h
theorem e_nextOf {N S : Nat} (h8 : N ≤ 8) (hN : M 170 4 = N) (hS : S < 2 ^ N) (hu : ∃ i : Nat, i < N ∧ S.testBit i = false) (hT : ∀ i : Nat, i < N → S.testBit i = false → M 176 ((S ||| 2 ^ i : Nat) : Int) < 2147483647) : zSat (fX4_nextOf S M) (fun r => ∃ j : Nat, r = j ∧ zNx N (M 176) S j) := by
  have p8 := zp256 h8
  unfold fX4_nextOf
  rw [zS_bd]
  refine zs_m (P := fun e : Int × Int => ∃ j : Nat, e.1 = j ∧ zNx N (M 176) S j) ?_ (fun e he => ?_)
  rotate_left
  · obtain ⟨j, g1, g2⟩ := he
    exact ⟨j, by show max 0 e.1 = j; omega, g2⟩
  refine zit_i2 (fun a c => fX4_nextOf_l4 S a c M) (fun m a c => ∃ i : Nat, c = i ∧ m = N - i ∧ i ≤ N ∧ ((a = -1 ∧ ∀ q : Nat, q < i → S.testBit q = true) ∨ ∃ j : Nat, a = j ∧ j < i ∧ zNx i (M 176) S j)) ?_ _ ⟨0, rfl, rfl, by omega, Or.inl ⟨rfl, fun q hq => by omega⟩⟩
  rintro m a c ⟨i, rfl, hm, hi, hJ⟩
  show zSat (fX4_nextOf_l4 S a i M) _
  unfold fX4_nextOf_l4
  rw [hN]
  by_cases ci : (N : Int) ≤ i
  · rw [if_pos ci]
    have : i = N := by omega
    subst this
    rcases hJ with ⟨-, g⟩ | ⟨j, g1, -, g2⟩
    · obtain ⟨q, q1, q2⟩ := hu
      rw [g q q1] at q2; cases q2
    · exact ⟨j, g1, g2⟩
  · have bd := zor_b hS (show i < N by omega)
    rw [if_neg ci, zbit_n (by omega) (by omega)]
    -- node i is the best so far
    have take : S.testBit i = false → (∀ j : Nat, a = j → j < i → zNx i (M 176) S j → M 176 ((S ||| 2 ^ i : Nat) : Int) < M 176 ((S ||| 2 ^ j : Nat) : Int)) → zNx (i + 1) (M 176) S i := fun ht lt => by
      refine ⟨by omega, ht, fun q q1 q2 => ?_, fun q q1 q2 => ?_⟩
      · by_cases e : q = i
        · subst e; exact Int.le_refl _
        · rcases hJ with ⟨g1, g2⟩ | ⟨j, g1, g2, g4⟩
          · rw [g2 q (by omega)] at q2; cases q2
          · have := g4.2.2.1 q (by omega) q2
            have := lt j g1 g2 g4
            omega
      · rcases hJ with ⟨g1, g2⟩ | ⟨j, g1, g2, g4⟩
        · rw [g2 q (by omega)] at q2; cases q2
        · have := g4.2.2.1 q (by omega) q2
          have := lt j g1 g2 g4
          omega
    cases ht : S.testBit i with
    | true =>
      rw [if_neg (by decide)]
      unfold fX4_nextOf_j25
      rw [if_pos rfl, zw_i (x := (i : Int) + 1) (by omega) (by omega)]
      refine ⟨N - (i + 1), by omega, i + 1, by show (i : Int) + 1 = _; omega, rfl, by omega, ?_⟩
      rcases hJ with ⟨g1, g2⟩ | ⟨j, g1, g2, g4⟩
      · exact Or.inl ⟨g1, fun q hq => by
          by_cases e : q = i
          · subst e; exact ht
          · exact g2 q (by omega)⟩
      · exact Or.inr ⟨j, g1, by omega, by have := g4.1; omega, g4.2.1, fun q q1 q2 => by
          by_cases e : q = i
          · subst e; rw [ht] at q2; cases q2
          · exact g4.2.2.1 q (by omega) q2, g4.2.2.2⟩
    | false =>
      rw [if_pos (by decide)]
      unfold fX4_nextOf_j25 fX4_nextOf_j60
      rw [if_neg (by decide), zw_i (x := (i : Int) + 1) (by omega) (by omega)]
      rcases hJ with ⟨g1, g2⟩ | ⟨j, g1, g2, g4⟩
      · rw [if_pos g1]
        exact ⟨N - (i + 1), by omega, i + 1, by show (i : Int) + 1 = _; omega, rfl, by omega, Or.inr ⟨i, rfl, by omega, take ht (fun j g3 _ _ => by omega)⟩⟩
      · subst g1
        have bj := zor_b hS (show j < N by omega)
        rw [if_neg (by omega), zshl_1 i (by omega), zshl_1 j (by omega), zor_n (by omega) (Nat.lt_of_lt_of_le (Nat.pow_lt_pow_right (by omega) (show i < 31 by omega)) (by decide)), zor_n (by omega) (Nat.lt_of_lt_of_le (Nat.pow_lt_pow_right (by omega) (show j < 31 by omega)) (by decide)), zgd_t ⟨by omega, by omega⟩, zgd_t ⟨by omega, by omega⟩]
        by_cases cb : M 176 ((S ||| 2 ^ j : Nat) : Int) ≤ M 176 ((S ||| 2 ^ i : Nat) : Int)
        · rw [if_pos cb]
          refine ⟨N - (i + 1), by omega, i + 1, by show (i : Int) + 1 = _; omega, rfl, by omega, Or.inr ⟨j, rfl, by omega, by have := g4.1; omega, g4.2.1, fun q q1 q2 => ?_, g4.2.2.2⟩⟩
          by_cases e : q = i
          · subst e; exact cb
          · exact g4.2.2.1 q (by omega) q2
        · rw [if_neg cb]
          refine ⟨N - (i + 1), by omega, i + 1, by show (i : Int) + 1 = _; omega, rfl, by omega, Or.inr ⟨i, rfl, by omega, take ht (fun j' g3 _ _ => ?_)⟩⟩
          have : j' = j := by omega
          subst this
          omega
end ORT
