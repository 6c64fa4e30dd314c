/-! PURE PART, 54: what a step costs at a node -/
section GRK
variable {σ M : zMem} {k x b : Int}
theorem zsf_c {a : Int → Int} {S n : Nat} (ha : ∀ q : Nat, q < n → S.testBit q = true → 0 ≤ a q ∧ a q ≤ 6) : ∀ d : Nat, d ≤ n → 0 ≤ zsf a S n d ∧ zsf a S n d < 7 ^ zsc S n d
  | 0, _ => by
    show (0 : Int) ≤ 0 ∧ (0 : Int) < 1
    decide
  | d + 1, hd => by
    have i := zsf_c ha d (by omega)
    unfold zsf zsc
    cases ht : S.testBit (n - 1 - d) with
    | true =>
      have := ha (n - 1 - d) (by omega) ht
      rw [if_pos rfl, if_pos rfl, Int.pow_succ]
      omega
    | false =>
      rw [if_neg (by decide), if_neg (by decide)]
      exact i
/-- what the table of node w says of the steps -/
def ztb (M : zMem) (n : Nat) (w : Int) : Int := M 157 (M 158 w + zsf (M 160) (M 156 w).toNat n n)
def zcs (M : zMem) (n q : Nat) (i : Int) (m : Nat) : Int := zsum (fun w => if q.testBit w.toNat = true ∧ (M 156 w).toNat.testBit i.toNat = true then ztb M n w else 0) m
def zown (σ M : zMem) (i : Int) : Int := zabs (M 160 i - 3) * σ 44 (M 152 i) * 5764801 + M 160 i * zwgt i
/-- what stands in the tables of nodes that wait for node i -/
def zwt (M : zMem) (n q : Nat) (i : Int) : Prop := ∀ w : Nat, w < n → q.testBit w = true → (0 ≤ M 156 w ∧ M 156 w < 2 ^ n ∧ zbsu (M 156 w).toNat 8 ≤ 3 ∧ 0 ≤ M 158 w ∧ M 158 w + 7 ^ zsc (M 156 w).toNat n n ≤ 743) ∧ ((M 156 w).toNat.testBit i.toNat = true → (∀ j : Nat, j < n → (M 156 w).toNat.testBit j = true → 0 ≤ M 160 j ∧ M 160 j ≤ 6) ∧ 0 ≤ ztb M n w ∧ ztb M n w ≤ 1000000000000000)
theorem e_costOf (h : St σ) (hA : zAx σ M) (h8 : znpr σ ≤ 8) (hG : zGn σ M (σ 40 0)) {n : Nat} (hn : (n : Int) = znpr σ) {i : Nat} (i1 : i < n) (hi : 0 ≤ M 160 i ∧ M 160 i ≤ 6) {q : Nat} (hq : M 150 11 = q) (q8 : q < 256) (hw : zwt M n q i) : fX1_costOf i M = some (min (zown σ M i + zcs M n q i n) 1000000000000000) := by
  have hbw := r_bw h
  have nd := hG.2.1 i (by omega) (by rw [zgn_N]; omega)
  have sz := r_sz h nd.1.1 nd.1.2
  have n3 : M 150 3 = n := by rw [hG.1, zgn_N, hn]
  have z1 := zgp1 (a := M 160 i - 3) (b := σ 44 (M 152 i)) (by omega) sz
  have zb := zabs_n (a := M 160 i - 3)
  have zl := zabs_le (a := M 160 i - 3) (c := 3) (by omega)
  have wp := zwgt_p (n := (i : Int))
  have mw : 0 ≤ M 160 i * zwgt i ∧ M 160 i * zwgt i ≤ 6 * 823543 := by
    have a1 : 0 ≤ M 160 i * zwgt i := Int.mul_nonneg hi.1 (by omega)
    have a2 : M 160 i * zwgt i ≤ 6 * 823543 := Int.mul_le_mul hi.2 wp.2 (by omega) (by omega)
    exact ⟨a1, a2⟩
  have p8 : (2 : Int) ^ n ≤ 256 := by
    have := zp256 (N := n) (by omega)
    have e : (2 : Int) ^ n = ((2 ^ n : Nat) : Int) := (Int.natCast_pow 2 n).symm
    rw [e]; omega
  have tb : ∀ w : Nat, w < n → 0 ≤ (if q.testBit w = true ∧ (M 156 w).toNat.testBit i = true then ztb M n w else 0) ∧ (if q.testBit w = true ∧ (M 156 w).toNat.testBit i = true then ztb M n w else 0) ≤ 1000000000000000 := fun w hwn => by
    by_cases c : q.testBit w = true ∧ (M 156 w).toNat.testBit i = true
    · rw [if_pos c]; exact ((hw w hwn c.1).2 c.2).2
    · rw [if_neg c]; omega
  have cb : ∀ m : Nat, m ≤ n → 0 ≤ zcs M n q i m ∧ zcs M n q i m ≤ 1000000000000000 * m := fun m hm => ⟨zsum_0 fun w hw' => (tb w (by omega)).1, zsum_le fun w hw' => (tb w (by omega)).2⟩
  unfold fX1_costOf
  rw [zgd_t ⟨by omega, by omega⟩, zgd_t ⟨by omega, by omega⟩, zgd_t ⟨nd.1.1, by omega⟩, zgd_t ⟨by omega, by omega⟩, e_weightOf (by omega) (by omega), zbd_s, hA.fl 44 rfl (by decide), zw_i (x := M 160 i - 3) (by omega) (by omega), zw_i (x := zabs (M 160 i - 3) * σ 44 (M 152 i)) (by omega) (by omega), zwl_i (by omega) (by omega)]
  have ob : 0 ≤ zown σ M i ∧ zown σ M i ≤ 297 * 5764801 + 6 * 823543 := by unfold zown; omega
  show zbd (zit (fun s18 : Int × Int => fX1_costOf_l52 (i : Int) (s18.1) (s18.2) M) (zown σ M i, 0)) _ = _
  generalize zown σ M i = o at ob ⊢
  have key := zit_for (f := fun s18 : Int × Int => fX1_costOf_l52 (i : Int) (s18.1) (s18.2) M) n (fun m => (o + zcs M n q i m, (m : Int))) (e := (o + zcs M n q i n, (n : Int))) ?_ ?_
  · rw [show (o, (0 : Int)) = (o + zcs M n q i 0, ((0 : Nat) : Int)) by rw [show zcs M n q i 0 = 0 from rfl, Int.add_zero]; rfl, key, zbd_s]
  · intro m hm
    have c1 := cb m (by omega)
    have t1 := tb m hm
    show fX1_costOf_l52 (i : Int) (o + zcs M n q i m) m M = some (.inl (o + (zcs M n q i m + (if q.testBit m = true ∧ (M 156 m).toNat.testBit i = true then ztb M n m else 0)), ((m + 1 : Nat) : Int)))
    generalize zcs M n q i m = z at c1 ⊢
    unfold fX1_costOf_l52 fX1_costOf_j91 fX1_costOf_j92
    rw [n3, if_neg (by omega), hq, zbit_n (by omega) (by omega), if_pos (show (0 : Int) = 0 from rfl), if_neg (show ¬ (1 : Int) = 0 by decide), zw_i (x := (m : Int) + 1) (by omega) (by omega), zgd_t ⟨by omega, by omega⟩, zgd_t ⟨by omega, by omega⟩, zgd_t ⟨by omega, by omega⟩]
    cases t2 : q.testBit m with
    | false =>
      rw [if_pos (by decide), if_neg (fun e => by cases e.1), Int.add_zero]
      rfl
    | true =>
      have w1 := hw m hm t2
      obtain ⟨S, hS⟩ : ∃ S : Nat, M 156 m = S := ⟨(M 156 m).toNat, by omega⟩
      have sN : (M 156 m).toNat = S := by omega
      have s2 : S < 2 ^ n := by
        have := w1.1.2.1
        rw [hS] at this
        exact_mod_cast this
      rw [sN] at w1
      rw [if_neg (by decide), hS, zbit_n (by omega) (by omega)]
      rw [t2] at t1
      rw [sN] at t1
      rw [show ((S : Int)).toNat = S by omega]
      cases t3 : S.testBit i with
      | false =>
        rw [if_pos (by decide), if_neg (fun e => by cases e.2), Int.add_zero]
        rfl
      | true =>
        have w2 := w1.2 (by rw [show ((i : Int)).toNat = i by omega]; exact t3)
        have zc := zsc_8 s2 (by omega)
        have z3 := w1.1.2.2.1
        have z4 := w1.1.2.2.2
        have wy := zsf_c (a := M 160) (S := S) (n := n) w2.1 n (Nat.le_refl _)
        have p3 : (7 : Int) ^ zsc S n n ≤ 7 ^ 3 := by
          have := Nat.pow_le_pow_right (n := 7) (by decide) (show zsc S n n ≤ 3 by omega)
          exact_mod_cast this
        have e3 : (7 : Int) ^ 3 = 343 := by decide
        have et : ztb M n m = M 157 (M 158 m + zsf (M 160) S n n) := by unfold ztb; rw [sN]
        rw [if_neg (by decide), e_wayOf n3 (by omega) (by omega) w2.1, zbd_s, zgd_t ⟨by omega, by omega⟩, if_pos ⟨rfl, rfl⟩, ← et, zwl_i (by omega) (by omega), Int.add_assoc]
        rfl
  · show fX1_costOf_l52 (i : Int) _ (n : Int) M = _
    unfold fX1_costOf_l52
    rw [n3, if_pos (by omega)]
end GRK
