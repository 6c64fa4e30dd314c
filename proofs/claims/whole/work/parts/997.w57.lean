/-! PURE PART, 57: a node leaves -/
section GRV
variable {σ M : zMem} {k x b : Int}
theorem zclr : ∀ S : Nat, S < 256 → ∀ i : Nat, i < 8 → zand (S : Int) (zxor (zshl 1 (i : Int)) (-1)) = ((S &&& (255 - 2 ^ i) : Nat) : Int) := by decide +kernel
theorem zcb : ∀ i : Nat, i < 8 → ∀ j : Nat, j < 8 → (255 - 2 ^ i).testBit j = !(decide (j = i)) := by decide +kernel
theorem zan : ∀ S : Nat, S < 256 → ∀ i : Nat, i < 8 → (zand (S : Int) (zshl 1 (i : Int)) = 0 ↔ S.testBit i = false) := by decide +kernel
theorem ztb_8 {S j : Nat} (hS : S < 256) (hj : 8 ≤ j) : S.testBit j = false := Nat.testBit_lt_two_pow (Nat.lt_of_lt_of_le hS (by
  have : 2 ^ 8 ≤ 2 ^ j := Nat.pow_le_pow_right (by omega) hj
  omega))
theorem zcl_t {S i j : Nat} (hS : S < 256) (hi : i < 8) : (S &&& (255 - 2 ^ i)).testBit j = (S.testBit j && !(decide (j = i))) := by
  rw [Nat.testBit_and]
  by_cases c : j < 8
  · rw [zcb i hi j c]
  · rw [ztb_8 hS (by omega)]; rfl
theorem zcl_b {S i : Nat} (hS : S < 256) : S &&& (255 - 2 ^ i) < 256 := Nat.lt_of_le_of_lt Nat.and_le_left hS
def zLv (M V : zMem) (i a : Nat) : Prop := ((M 155 i).toNat.testBit a = false → V 155 a = M 155 a) ∧ ((M 155 i).toNat.testBit a = true → ∃ m : Nat, m < 256 ∧ V 155 a = m ∧ ∀ b : Nat, m.testBit b = ((((M 155 a).toNat.testBit b || (M 155 i).toNat.testBit b) && !(decide (b = i))) && !(decide (b = a))))
def zLi (M V : zMem) (i n g q j : Nat) : Prop := (∀ c : Nat, c ≠ 150 → c ≠ 155 → V c = M c) ∧ (∀ y : Int, y ≠ 10 → y ≠ 11 → V 150 y = M 150 y) ∧ V 150 10 = ((g ||| 2 ^ i : Nat) : Int) ∧ (∃ q1 : Nat, q1 < 256 ∧ V 150 11 = q1 ∧ ∀ w : Nat, q1.testBit w = (q.testBit w && !(decide (w < j) && (M 156 w).toNat.testBit i))) ∧ (∀ a : Nat, a < j → zLv M V i a) ∧ ∀ a : Nat, j ≤ a → V 155 a = M 155 a
theorem e_leave {n i g q : Nat} (hn : M 150 3 = n) (h8 : n ≤ 8) (hi : i < n) (hg : M 150 10 = g) (g8 : g < 256) (hq : M 150 11 = q) (q8 : q < 256) (hm : ∀ a : Nat, a < n → 0 ≤ M 155 a ∧ M 155 a < 256) (hs : (M 155 i).toNat.testBit i = false) (hw : ∀ w : Nat, w < n → q.testBit w = true → 0 ≤ M 156 w ∧ M 156 w < 256) : zSat (fX1_leave i M) (fun V => (∀ c : Nat, c ≠ 150 → c ≠ 155 → V c = M c) ∧ (∀ y : Int, y ≠ 10 → y ≠ 11 → V 150 y = M 150 y) ∧ V 150 10 = ((g ||| 2 ^ i : Nat) : Int) ∧ (∃ q1 : Nat, q1 < 256 ∧ V 150 11 = q1 ∧ ∀ w : Nat, w < n → (q1.testBit w = true ↔ (q.testBit w = true ∧ (M 156 w).toNat.testBit i = false) ∨ (w = i ∧ M 156 i ≠ 0))) ∧ ∀ a : Nat, a < n → zLv M V i a) := by
  have i8 : i < 8 := by omega
  have og := zor1 (S := g) (a := i) g8 i8
  have mi := hm i hi
  unfold fX1_leave
  rw [zS_bd, hg, og.1]
  refine zs_m (P := fun e : Int × zMem => zLi M e.2 i n g q n) ?_ ?_
  · refine zit_i2 (fun y V => fX1_leave_l16 (i : Int) (zshl 1 (i : Int)) y V) (fun m y V => ∃ j : Nat, y = (j : Int) ∧ m = n - j ∧ j ≤ n ∧ zLi M V i n g q j) ?_ _ ⟨0, rfl, rfl, by omega, fun c c1 c2 => funext fun y => zup_ne c1, fun y y1 y2 => zup_nk y1, zup_eq, ⟨q, q8, (by rw [zup_nk (by decide)]; exact hq), fun w => by rw [decide_eq_false (by omega)]; simp⟩, fun a ha => by omega, fun a ha => by rw [zup_ne (by decide)]⟩
    rintro m y V ⟨j, rfl, hmj, hj, f1, f2, f3, ⟨q1, q1b, q1e, q1t⟩, f5, f6⟩
    show zSat (fX1_leave_l16 (i : Int) (zshl 1 (i : Int)) j V) _
    unfold fX1_leave_l16
    rw [f2 3 (by decide) (by decide), hn]
    by_cases c : (n : Int) ≤ j
    · rw [if_pos c]
      have : j = n := by omega
      subst this
      exact ⟨f1, f2, f3, ⟨q1, q1b, q1e, q1t⟩, f5, f6⟩
    have j8 : j < 8 := by omega
    have vi : V 155 i = M 155 i := by
      by_cases e : i < j
      · exact (f5 i e).1 hs
      · exact f6 i (by omega)
    have vj : V 155 j = M 155 j := f6 j (by omega)
    have mj := hm j (by omega)
    -- the second half, for either mask
    have half : ∀ (W : zMem) (q2 : Nat), (∀ c : Nat, c ≠ 150 → W c = V c) → (∀ y : Int, y ≠ 11 → W 150 y = V 150 y) → q2 < 256 → W 150 11 = q2 → (∀ w : Nat, q2.testBit w = (q.testBit w && !(decide (w < j + 1) && (M 156 w).toNat.testBit i))) → zSat (fX1_leave_j60 (i : Int) (zshl 1 (i : Int)) j W) (fun x : (Int × zMem) ⊕ (Int × zMem) => zel x (fun s' => ∃ m', m' < m ∧ ∃ j : Nat, s'.1 = (j : Int) ∧ m' = n - j ∧ j ≤ n ∧ zLi M s'.2 i n g q j) (fun e => zLi M e.2 i n g q n)) := by
      intro W q2 w1 w2 w3 w4 w5
      unfold fX1_leave_j60
      have wi : W 155 i = ((M 155 i).toNat : Nat) := by rw [w1 155 (by decide), vi]; omega
      have wj : W 155 j = ((M 155 j).toNat : Nat) := by rw [w1 155 (by decide), vj]; omega
      rw [zgd_t ⟨by omega, by omega⟩, zgd_t ⟨by omega, by omega⟩, zgd_t ⟨by omega, by omega⟩, zgd_t ⟨by omega, by omega⟩, wi, wj, zbit_n (by omega) (by omega), zw_i (x := (j : Int) + 1) (by omega) (by omega)]
      cases ht : (M 155 i).toNat.testBit j with
      | false =>
        rw [if_pos (show (if false = true then (1 : Int) else 0) = 0 by decide)]
        refine ⟨n - (j + 1), by omega, j + 1, rfl, rfl, by omega, fun c c1 c2 => by show W c = _; rw [w1 c c1, f1 c c1 c2], fun y y1 y2 => by show W 150 y = _; rw [w2 y y2, f2 y y1 y2], by show W 150 10 = _; rw [w2 10 (by decide), f3], ⟨q2, w3, w4, w5⟩, fun a ha => ?_, fun a ha => by show W 155 a = _; rw [w1 155 (by decide), f6 a (by omega)]⟩
        show zLv M W i a
        by_cases e : a = j
        · subst e
          exact ⟨fun _ => by rw [w1 155 (by decide), vj], fun q => by rw [ht] at q; cases q⟩
        · have := f5 a (by omega)
          unfold zLv at this ⊢
          rw [w1 155 (by decide)]; exact this
      | true =>
        have o1 := zor_n (a := (M 155 j).toNat) (b := (M 155 i).toNat) (by omega) (by omega)
        have o2 : (M 155 j).toNat ||| (M 155 i).toNat < 2 ^ 8 := Nat.or_lt_two_pow (by omega) (by omega)
        have o3 : (M 155 j).toNat ||| (M 155 i).toNat < 256 := o2
        have z1 := zclr _ o3 i i8
        have z1b := zcl_b (i := i) o3
        have z2 := zclr _ z1b j j8
        have z2b := zcl_b (i := j) z1b
        rw [if_neg (show ¬ (if true = true then (1 : Int) else 0) = 0 by decide), o1, z1, z2]
        have tb : ∀ b : Nat, ((((M 155 j).toNat ||| (M 155 i).toNat) &&& (255 - 2 ^ i)) &&& (255 - 2 ^ j)).testBit b = ((((M 155 j).toNat.testBit b || (M 155 i).toNat.testBit b) && !(decide (b = i))) && !(decide (b = j))) := fun b => by
          rw [zcl_t z1b j8, zcl_t o3 i8, Nat.testBit_or]
        generalize hmm : (((M 155 j).toNat ||| (M 155 i).toNat) &&& (255 - 2 ^ i)) &&& (255 - 2 ^ j) = mm at z2b tb ⊢
        refine ⟨n - (j + 1), by omega, j + 1, rfl, rfl, by omega, fun c c1 c2 => ?_, fun y y1 y2 => ?_, ?_, ⟨q2, w3, ?_, w5⟩, fun a ha => ?_, fun a ha => ?_⟩
        · show zup W 155 j mm c = _
          funext y; rw [zup_ne c2, w1 c c1, f1 c c1 c2]
        · show zup W 155 j mm 150 y = _
          rw [zup_ne (by decide), w2 y y2, f2 y y1 y2]
        · show zup W 155 j mm 150 10 = _
          rw [zup_ne (by decide), w2 10 (by decide), f3]
        · show zup W 155 j mm 150 11 = _
          rw [zup_ne (by decide), w4]
        · show zLv M (zup W 155 j mm) i a
          by_cases e : a = j
          · subst e
            exact ⟨fun q => (by rw [ht] at q; cases q), fun _ => ⟨mm, z2b, zup_eq, tb⟩⟩
          · have := f5 a (by omega)
            unfold zLv at this ⊢
            rw [zup_nk (show (a : Int) ≠ j by omega), w1 155 (by decide)]; exact this
        · show zup W 155 j mm 155 a = _
          rw [zup_nk (show (a : Int) ≠ j by omega), w1 155 (by decide), f6 a (by omega)]
    rw [if_neg c, q1e, zbit_n (by omega) (by omega), f1 156 (by decide) (by decide), zgd_t ⟨by omega, by omega⟩]
    have qj := q1t j
    rw [decide_eq_false (by omega), Bool.false_and, Bool.not_false, Bool.and_true] at qj
    have same : (q.testBit j = false ∨ (M 156 j).toNat.testBit i = false) → ∀ w : Nat, q1.testBit w = (q.testBit w && !(decide (w < j + 1) && (M 156 w).toNat.testBit i)) := fun hor w => by
      rw [q1t w]
      by_cases e : w = j
      · subst e
        rcases hor with q | q <;> rw [q] <;> simp
      · rw [show decide (w < j + 1) = decide (w < j) from decide_eq_decide.2 (by omega)]
    rw [qj]
    cases t1 : q.testBit j with
    | false =>
      rw [if_pos (show (if false = true then (1 : Int) else 0) = 0 by decide)]
      exact half V q1 (fun _ _ => rfl) (fun _ _ => rfl) q1b q1e (same (Or.inl t1))
    | true =>
      have sj := hw j (by omega) t1
      have za := zan (M 156 j).toNat (by omega) i i8
      rw [show (((M 156 j).toNat : Nat) : Int) = M 156 j by omega] at za
      rw [if_neg (show ¬ (if true = true then (1 : Int) else 0) = 0 by decide)]
      cases t2 : (M 156 j).toNat.testBit i with
      | false =>
        rw [if_pos (za.2 t2)]
        exact half V q1 (fun _ _ => rfl) (fun _ _ => rfl) q1b q1e (same (Or.inr t2))
      | true =>
        rw [if_neg (fun e => by have := za.1 e; rw [t2] at this; cases this), zclr q1 q1b j j8]
        refine half _ (q1 &&& (255 - 2 ^ j)) (fun c hc => funext fun y => zup_ne hc) (fun y hy => zup_nk hy) (zcl_b q1b) zup_eq (fun w => ?_)
        rw [zcl_t q1b j8, q1t w]
        by_cases e : w = j
        · subst e
          rw [t2, decide_eq_true (show w = w from rfl), decide_eq_true (show w < w + 1 by omega)]; simp
        · rw [decide_eq_false e, show decide (w < j + 1) = decide (w < j) from decide_eq_decide.2 (by omega)]; simp
  · rintro ⟨y, V⟩ ⟨f1, f2, f3, ⟨q1, q1b, q1e, q1t⟩, f5, f6⟩
    dsimp only at f1 f2 f3 q1e f5 f6 ⊢
    have q1s : ∀ w : Nat, w < n → (q1.testBit w = true ↔ (q.testBit w = true ∧ (M 156 w).toNat.testBit i = false)) := fun w hw => by
      rw [q1t w, decide_eq_true hw, Bool.true_and, Bool.and_eq_true, Bool.not_eq_true']
    have e156 : V 156 i = M 156 i := by rw [f1 156 (by decide) (by decide)]
    rw [zgd_t ⟨by omega, by omega⟩]
    unfold fX1_leave_j127
    by_cases c : M 156 i = 0
    · rw [if_pos (show V 156 i = 0 by rw [e156]; exact c), q1e, zor_0 ⟨by omega, by omega⟩]
      refine ⟨fun c c1 c2 => funext fun y => by rw [zup_ne c1, f1 c c1 c2], fun y y1 y2 => by rw [zup_nk y2, f2 y y1 y2], by rw [zup_nk (by decide), f3], ⟨q1, q1b, zup_eq, fun w hw => ?_⟩, fun a ha => ?_⟩
      · rw [q1s w hw]
        exact ⟨Or.inl, fun q => q.elim id fun q => absurd c q.2⟩
      · have := f5 a ha
        unfold zLv at this ⊢
        rw [zup_ne (by decide)]; exact this
    · have o := zor1 (S := q1) (a := i) q1b i8
      rw [if_neg (show ¬ V 156 i = 0 by rw [e156]; exact c), q1e, o.1]
      refine ⟨fun c c1 c2 => funext fun y => by rw [zup_ne c1, f1 c c1 c2], fun y y1 y2 => by rw [zup_nk y2, f2 y y1 y2], by rw [zup_nk (by decide), f3], ⟨q1 ||| 2 ^ i, o.2, zup_eq, fun w hw => ?_⟩, fun a ha => ?_⟩
      · rw [Nat.testBit_or, Nat.testBit_two_pow, Bool.or_eq_true, q1s w hw, decide_eq_true_eq]
        exact ⟨fun q => q.elim Or.inl fun e => Or.inr ⟨e.symm, c⟩, fun q => q.elim Or.inl fun e => Or.inr e.1.symm⟩
      · have := f5 a ha
        unfold zLv at this ⊢
        rw [zup_ne (by decide)]; exact this
end GRV
