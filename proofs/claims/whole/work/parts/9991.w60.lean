/-! PURE PART, 60: neighbours once a node is taken out -/
section GS1
variable {σ M V : zMem} {k x b : Int} {n g q S : Nat} {a a' : Int → Int}
theorem zsum_pm {f g : Int → Int} : ∀ {n : Nat}, (∀ k : Nat, k < n → f (k : Int) ≤ g k) → zsum f n ≤ zsum g n
  | 0, _ => Int.le_refl _
  | n + 1, h => by
    have h1 := zsum_pm (n := n) (fun k hk => h k (by omega))
    have h2 := h n (by omega)
    unfold zsum; omega
theorem zsum_cm {p : Int → Prop} [DecidablePred p] {c : Int} : ∀ {n : Nat}, zsum (fun k => if p k then c else 0) n = c * zsum (fun k => if p k then 1 else 0) n
  | 0 => by simp [zsum]
  | n + 1 => by
    show zsum (fun k => if p k then c else 0) n + (if p n then c else 0) = c * (zsum (fun k => if p k then 1 else 0) n + (if p n then 1 else 0))
    rw [zsum_cm (n := n), Int.mul_add]
    by_cases e : p n
    · rw [if_pos e, if_pos e]; omega
    · rw [if_neg e, if_neg e]; omega
/-- who is near whom, of those that are not gone -/
def yNr (σ M : zMem) (n g : Nat) : Prop := (∀ a : Nat, a < n → 0 ≤ M 155 a ∧ M 155 a < 2 ^ n) ∧ ∀ a : Nat, a < n → g.testBit a = false → (M 155 a).toNat.testBit a = false ∧ (∀ j : Nat, (M 155 a).toNat.testBit j = true → j < n ∧ g.testBit j = false ∧ (M 155 j).toNat.testBit a = true) ∧ ∀ j : Nat, j < n → j ≠ a → zNb σ (σ 40 7) a j → g.testBit j = false → (M 155 a).toNat.testBit j = true
/-- twice the pairs of nodes near each other, of those that are not gone; how many are not gone -/
def ydq (M : zMem) (n g : Nat) : Int := zsum (fun a => if g.testBit a.toNat = true then 0 else zbsu (M 155 a).toNat 8) n
def yr (n g : Nat) : Int := n - zbsu g n
/-- what the rows of r nodes come to at most, if they are not all near each other -/
def yP (r : Int) : Int := if r ≤ 0 then 0 else if r = 1 then 1 else if r = 2 then 8 else if r = 3 then 57 else if r = 4 then 400 else if r = 5 then 449 else if r = 6 then 498 else if r = 7 then 547 else 596
def y7 (D : Int) : Int := if D = 0 then 1 else if D = 1 then 7 else if D = 2 then 49 else 343
def yD (M : zMem) (n g : Nat) : Prop := ydq M n g ≤ 16 ∧ 0 ≤ M 150 8 ∧ (((ydq M n g ≤ 14 ∨ yr n g ≤ 4) ∧ M 150 8 + yP (yr n g) ≤ 743) ∨ (M 150 8 = 0 ∧ ∀ a : Nat, a < n → g.testBit a = false → 1 ≤ zbsu (M 155 a).toNat 8))
theorem yP_0 {r : Int} : 0 ≤ yP r := by
  unfold yP
  repeat' split
  all_goals omega
theorem yP_t {r D : Int} (r1 : 1 ≤ r) (r8 : r ≤ 8) (d0 : 0 ≤ D) (d3 : D ≤ 3) (dr : D + 1 ≤ r) (h : D * r ≤ 14 ∨ r ≤ 4) : y7 D + yP (r - 1) ≤ yP r := by
  have hr : r = 1 ∨ r = 2 ∨ r = 3 ∨ r = 4 ∨ r = 5 ∨ r = 6 ∨ r = 7 ∨ r = 8 := by omega
  have hd : D = 0 ∨ D = 1 ∨ D = 2 ∨ D = 3 := by omega
  rcases hd with rfl | rfl | rfl | rfl <;> rcases hr with rfl | rfl | rfl | rfl | rfl | rfl | rfl | rfl <;> first | omega | decide
theorem yP_u {r D : Int} (r1 : 1 ≤ r) (r8 : r ≤ 8) (d0 : 0 ≤ D) (d3 : D ≤ 3) (h : r ≤ 5 ∨ D ≤ 2) : y7 D + yP (r - 1) ≤ 743 := by
  have hr : r = 1 ∨ r = 2 ∨ r = 3 ∨ r = 4 ∨ r = 5 ∨ r = 6 ∨ r = 7 ∨ r = 8 := by omega
  have hd : D = 0 ∨ D = 1 ∨ D = 2 ∨ D = 3 := by omega
  rcases hd with rfl | rfl | rfl | rfl <;> rcases hr with rfl | rfl | rfl | rfl | rfl | rfl | rfl | rfl <;> first | omega | decide
theorem y7_e {S : Nat} (hS : S < 2 ^ n) (h8 : n ≤ 8) (h3 : zbsu S 8 ≤ 3) : (7 : Int) ^ zsc S n n = y7 (zbsu S 8) := by
  have zc := zsc_8 hS h8
  rw [← zc] at h3 ⊢
  generalize zsc S n n = d at h3 ⊢
  have hd : d = 0 ∨ d = 1 ∨ d = 2 ∨ d = 3 := by omega
  rcases hd with rfl | rfl | rfl | rfl <;> decide
theorem zlt2 {m n : Nat} (h : ∀ b : Nat, n ≤ b → m.testBit b = false) : m < 2 ^ n := Nat.lt_pow_two_of_testBit m h
theorem ztb_n {m n b : Nat} (h : m < 2 ^ n) (hb : n ≤ b) : m.testBit b = false := Nat.testBit_lt_two_pow (Nat.lt_of_lt_of_le h (Nat.pow_le_pow_right (by omega) hb))
/-- the bits of a mask after node i left -/
theorem yL_t {i a : Nat} (hL : zLv M V i a) (ht : (M 155 i).toNat.testBit a = true) (b : Nat) : (V 155 a).toNat.testBit b = true ↔ ((M 155 a).toNat.testBit b = true ∨ (M 155 i).toNat.testBit b = true) ∧ b ≠ i ∧ b ≠ a := by
  obtain ⟨m, m1, m2, m3⟩ := hL.2 ht
  rw [m2, show ((m : Int)).toNat = m by omega, m3 b, Bool.and_eq_true, Bool.and_eq_true, Bool.or_eq_true, Bool.not_eq_true', Bool.not_eq_true', decide_eq_false_iff_not, decide_eq_false_iff_not, and_assoc]
theorem yNr_step (hN : yNr σ M n g) {i : Nat} (i1 : i < n) (gi : g.testBit i = false) (hL : ∀ a : Nat, a < n → zLv M V i a) : yNr σ V n (g ||| 2 ^ i) := by
  obtain ⟨hb, hN⟩ := hN
  have bi := hb i i1
  refine ⟨fun a ha => ?_, fun a ha hg => ?_⟩
  · have ba := hb a ha
    cases t : (M 155 i).toNat.testBit a with
    | false => rw [(hL a ha).1 t]; exact ba
    | true =>
      obtain ⟨m, m1, m2, m3⟩ := (hL a ha).2 t
      have : m < 2 ^ n := zlt2 fun b hb => by
        rw [m3 b, ztb_n (zS2 ba.1 ba.2) hb, ztb_n (zS2 bi.1 bi.2) hb]; rfl
      rw [m2]
      refine ⟨by omega, ?_⟩
      have e : (2 : Int) ^ n = ((2 ^ n : Nat) : Int) := (Int.natCast_pow 2 n).symm
      rw [e]; omega
  · obtain ⟨ga, ai⟩ := zor_f.1 hg
    obtain ⟨n1, n2, n3⟩ := hN a ha ga
    obtain ⟨-, i2, -⟩ := hN i i1 gi
    -- who stays near
    have stay : ∀ j l : Nat, j < n → l ≠ i → l ≠ j → (M 155 j).toNat.testBit l = true → (V 155 j).toNat.testBit l = true := fun j l hj l1 l2 hb => by
      cases t : (M 155 i).toNat.testBit j with
      | false => rw [(hL j hj).1 t]; exact hb
      | true => exact (yL_t (hL j hj) t l).2 ⟨Or.inl hb, l1, l2⟩
    cases t : (M 155 i).toNat.testBit a with
    | false =>
      rw [(hL a ha).1 t]
      refine ⟨n1, fun j hj => ?_, fun j j1 j2 j3 j4 => n3 j j1 j2 j3 (zor_f.1 j4).1⟩
      obtain ⟨x1, x2, x3⟩ := n2 j hj
      have ji : j ≠ i := fun e => by rw [e] at x3; rw [x3] at t; cases t
      have ja : a ≠ j := fun e => by rw [← e, n1] at hj; cases hj
      exact ⟨x1, zor_f.2 ⟨x2, ji⟩, stay j a x1 ai ja x3⟩
    | true =>
      have T := yL_t (hL a ha) t
      refine ⟨?_, fun j hj => ?_, fun j j1 j2 j3 j4 => ?_⟩
      · cases u : (V 155 a).toNat.testBit a with
        | false => rfl
        | true => exact absurd rfl ((T a).1 u).2.2
      · obtain ⟨h1, h2, h3⟩ := (T j).1 hj
        cases t2 : (M 155 i).toNat.testBit j with
        | true =>
          obtain ⟨x1, x2, -⟩ := i2 j t2
          exact ⟨x1, zor_f.2 ⟨x2, h2⟩, (yL_t (hL j x1) t2 a).2 ⟨Or.inr t, ai, fun e => h3 e.symm⟩⟩
        | false =>
          have hj' : (M 155 a).toNat.testBit j = true := by
            rcases h1 with z | z
            · exact z
            · rw [t2] at z; cases z
          obtain ⟨x1, x2, x3⟩ := n2 j hj'
          exact ⟨x1, zor_f.2 ⟨x2, h2⟩, stay j a x1 ai (fun e => h3 e.symm) x3⟩
      · obtain ⟨z1, z2⟩ := zor_f.1 j4
        exact (T j).2 ⟨Or.inl (n3 j j1 j2 j3 z1), z2, j2⟩
theorem yQ_step (n8 : n ≤ 8) (hN : yNr σ M n g) (hQ : yQ M n g q) {i : Nat} (i1 : i < n) (gi : g.testBit i = false) (hS : M 156 i = S) (eS : (M 155 i).toNat = S) (S2 : S < 2 ^ n) (S3 : zbsu S 8 ≤ 3) (hL : ∀ a : Nat, a < n → zLv M V i a) {q' : Nat} (hq' : ∀ w : Nat, w < n → (q'.testBit w = true ↔ (q.testBit w = true ∧ (M 156 w).toNat.testBit i = false) ∨ (w = i ∧ S ≠ 0))) (v6 : V 156 = M 156) (v8 : V 158 = M 158) (us : M 158 i = M 150 8) (u0 : 0 ≤ M 150 8) (vu : V 150 8 = M 150 8 + 7 ^ zsc S n n) (v7 : ∀ y : Int, y < M 158 i → V 157 y = M 157 y) (vT : ∀ x : Int, 0 ≤ x → x < 7 ^ zsc S n n → 0 ≤ V 157 (M 158 i + x) ∧ V 157 (M 158 i + x) ≤ 1000000000000000) : yQ V n (g ||| 2 ^ i) q' := by
  intro w hw hqw
  rw [v6, v8, vu]
  have stay : ∀ j l : Nat, j < n → l ≠ i → l ≠ j → (M 155 j).toNat.testBit l = true → (V 155 j).toNat.testBit l = true := fun j l hj l1 l2 hb => by
    cases t : (M 155 i).toNat.testBit j with
    | false => rw [(hL j hj).1 t]; exact hb
    | true => exact (yL_t (hL j hj) t l).2 ⟨Or.inl hb, l1, l2⟩
  rcases (hq' w hw).1 hqw with ⟨z1, z2⟩ | ⟨z1, z2⟩
  · obtain ⟨w1, w2, w3, w4, w5⟩ := hQ w hw z1
    have p0 : (0 : Int) < 7 ^ zsc S n n := Int.pow_pos (by decide)
    have w21 := w2.2.2.2.2
    have ne : w ≠ i := fun e => by rw [e, gi] at w1; cases w1
    have nb : ∀ j : Nat, (M 156 w).toNat.testBit j = true → j ≠ i := fun j hj e => by rw [e, z2] at hj; cases hj
    refine ⟨zor_t.2 (Or.inl w1), ⟨w2.1, w2.2.1, w2.2.2.1, w2.2.2.2.1, by omega⟩, fun y y0 y1 => ?_, w4, fun j hj hb => ⟨zor_f.2 ⟨(w5 j hj hb).1, nb j hb⟩, fun l hl lb ne => stay j l hj (nb l lb) ne ((w5 j hj hb).2 l hl lb ne)⟩⟩
    rw [v7 _ (by omega)]; exact w3 y y0 y1
  · subst z1
    have e2 : (2 : Int) ^ n = ((2 ^ n : Nat) : Int) := (Int.natCast_pow 2 n).symm
    have eN : (M 156 w).toNat = S := by omega
    rw [eN, hS]
    refine ⟨zor_t.2 (Or.inr rfl), ⟨by omega, by rw [e2]; omega, S3, by rw [us]; exact u0, by rw [us]; exact Int.le_refl _⟩, vT, ?_, fun j hj hb => ?_⟩
    · obtain ⟨j, hj⟩ := Nat.exists_testBit_of_ne_zero z2
      refine ⟨j, ?_, hj⟩
      by_cases c : j < n
      · exact c
      · rw [ztb_n S2 (by omega)] at hj; cases hj
    · obtain ⟨s1, s2, -⟩ := hN.2 w hw gi
      rw [eS] at s1 s2
      have jw : j ≠ w := fun e => by rw [e, s1] at hb; cases hb
      refine ⟨zor_f.2 ⟨(s2 j hb).2.1, jw⟩, fun l hl lb ne => ?_⟩
      have lw : l ≠ w := fun e => by rw [e, s1] at lb; cases lb
      exact (yL_t (hL j hj) (by rw [eS]; exact hb) l).2 ⟨Or.inr (by rw [eS]; exact lb), lw, ne⟩
/-- bits of a mask with node i gone and its neighbours in -/
theorem ybc {A B m i j : Nat} (hi : i < 8) (hj : j < 8) (ij : i ≠ j) (hA : A.testBit i = true) (hB : B.testBit j = true) (hm : ∀ b : Nat, m.testBit b = true ↔ (A.testBit b = true ∨ B.testBit b = true) ∧ b ≠ i ∧ b ≠ j) : zbsu m 8 + 2 ≤ zbsu A 8 + zbsu B 8 := by
  have e1 : zsum (fun w => if w = (i : Int) then 1 else 0) 8 = 1 := zsum_k hi
  have e2 : zsum (fun w => if w = (j : Int) then 1 else 0) 8 = 1 := zsum_k hj
  have : zsum (fun w => (if m.testBit w.toNat = true then 1 else 0) + (if w = (i : Int) then 1 else 0) + (if w = (j : Int) then 1 else 0)) 8 ≤ zsum (fun w => (if A.testBit w.toNat = true then 1 else 0) + (if B.testBit w.toNat = true then 1 else 0)) 8 := zsum_pm fun w hw => by
    have e : ((w : Int)).toNat = w := by omega
    rw [e]
    by_cases c1 : w = i
    · subst c1
      rw [if_neg (show ¬ m.testBit w = true from fun z => ((hm w).1 z).2.1 rfl), if_pos rfl, if_neg (show ¬ (w : Int) = j by omega), if_pos hA]
      split <;> omega
    · by_cases c2 : w = j
      · subst c2
        rw [if_neg (show ¬ m.testBit w = true from fun z => ((hm w).1 z).2.2 rfl), if_pos rfl, if_neg (show ¬ (w : Int) = i by omega), if_pos hB]
        split <;> omega
      · rw [if_neg (show ¬ (w : Int) = i by omega), if_neg (show ¬ (w : Int) = j by omega)]
        by_cases c3 : m.testBit w = true
        · rw [if_pos c3]
          rcases ((hm w).1 c3).1 with z | z
          · rw [if_pos z]; split <;> omega
          · rw [if_pos z]; split <;> omega
        · rw [if_neg c3]; split <;> split <;> omega
  rw [zsum_add, zsum_add, zsum_add, e1, e2] at this
  show zsum (fun w => if m.testBit w.toNat = true then 1 else 0) 8 + 2 ≤ zsum (fun w => if A.testBit w.toNat = true then 1 else 0) 8 + zsum (fun w => if B.testBit w.toNat = true then 1 else 0) 8
  omega
theorem zbsu_n (n8 : n ≤ 8) (hS : S < 2 ^ n) : zbsu S 8 = zbsu S n := by
  have := zbsu_k hS (8 - n)
  rwa [show n + (8 - n) = 8 by omega] at this
theorem yr_s : zsum (fun a => if ¬ g.testBit a.toNat = true then 1 else 0) n = yr n g := by
  have e : zsum (fun a => (if ¬ g.testBit a.toNat = true then 1 else 0) + (if g.testBit a.toNat = true then 1 else 0)) n = zsum (fun _ => 1) n := zsum_eq fun k hk => by
    by_cases c : g.testBit ((k : Int)).toNat = true
    · rw [if_neg (fun z => z c), if_pos c]; rfl
    · rw [if_pos c, if_neg c]; rfl
  have o : ∀ m : Nat, zsum (fun _ => 1) m = m := by
    intro m
    induction m with
    | zero => rfl
    | succ m ih => show zsum (fun _ => 1) m + 1 = _; rw [ih]; omega
  rw [zsum_add, o] at e
  unfold yr zbsu
  omega
/-- what a node with the fewest neighbours has at most -/
theorem yD_f (n8 : n ≤ 8) (hN : yNr σ M n g) {i : Nat} (i1 : i < n) (gi : g.testBit i = false) (hl : ∀ a : Nat, a < n → g.testBit a = false → zbsu (M 155 i).toNat 8 ≤ zbsu (M 155 a).toNat 8) : zbsu (M 155 i).toNat 8 + 1 ≤ yr n g ∧ zbsu (M 155 i).toNat 8 * yr n g ≤ ydq M n g := by
  have bi := hN.1 i i1
  have e8 := zbsu_n n8 (zS2 bi.1 bi.2)
  have bb := zbsu_b (S := (M 155 i).toNat) (N := 8)
  have k1 : zsum (fun a => if ¬ g.testBit a.toNat = true then zbsu (M 155 i).toNat 8 else 0) n ≤ zsum (fun a => if g.testBit a.toNat = true then 0 else zbsu (M 155 a).toNat 8) n := zsum_pm fun a ha => by
    have e : ((a : Int)).toNat = a := by omega
    rw [e]
    cases t : g.testBit a with
    | true => rw [if_neg (by decide), if_pos rfl]; exact Int.le_refl _
    | false => rw [if_pos (by decide), if_neg (by decide)]; exact hl a ha t
  have k2 : zsum (fun a => (if (M 155 i).toNat.testBit a.toNat = true then 1 else 0) + (if a = (i : Int) then 1 else 0)) n ≤ zsum (fun a => if ¬ g.testBit a.toNat = true then 1 else 0) n := zsum_pm fun a ha => by
    have e : ((a : Int)).toNat = a := by omega
    rw [e]
    obtain ⟨s1, s2, -⟩ := hN.2 i i1 gi
    by_cases c : a = i
    · subst c
      rw [s1, gi, if_neg (by decide), if_pos rfl, if_pos (by decide)]; omega
    · rw [if_neg (show ¬ (a : Int) = i by omega)]
      cases t : (M 155 i).toNat.testBit a with
      | true => rw [(s2 a t).2.1, if_pos rfl, if_pos (by decide)]; omega
      | false =>
        rw [if_neg (by decide)]
        split <;> omega
  rw [zsum_add, zsum_k i1] at k2
  rw [zsum_cm] at k1
  have ez : zsum (fun k => if (M 155 i).toNat.testBit k.toNat = true then 1 else 0) n = zbsu (M 155 i).toNat 8 := e8.symm
  rw [ez] at k2
  rw [yr_s] at k1 k2
  exact ⟨k2, k1⟩
/-- how many are near each other once it is gone -/
theorem yD_k (n8 : n ≤ 8) (hN : yNr σ M n g) {i : Nat} (i1 : i < n) (gi : g.testBit i = false) (hL : ∀ a : Nat, a < n → zLv M V i a) : ydq V n (g ||| 2 ^ i) + zbsu (M 155 i).toNat 8 ≤ ydq M n g + (zbsu (M 155 i).toNat 8 - 2) * zbsu (M 155 i).toNat 8 := by
  have bi := hN.1 i i1
  have e8 := zbsu_n n8 (zS2 bi.1 bi.2)
  have bb := zbsu_b (S := (M 155 i).toNat) (N := 8)
  have key : zsum (fun a => (if (g ||| 2 ^ i).testBit a.toNat = true then 0 else zbsu (V 155 a).toNat 8) + (if a = (i : Int) then zbsu (M 155 i).toNat 8 else 0)) n ≤ zsum (fun a => (if g.testBit a.toNat = true then 0 else zbsu (M 155 a).toNat 8) + (if (M 155 i).toNat.testBit a.toNat = true then zbsu (M 155 i).toNat 8 - 2 else 0)) n := zsum_pm fun a ha => by
    have e : ((a : Int)).toNat = a := by omega
    rw [e]
    obtain ⟨s1, s2, -⟩ := hN.2 i i1 gi
    by_cases c : a = i
    · subst c
      rw [if_pos (zor_t.2 (Or.inr rfl)), if_pos rfl, gi, if_neg (by decide), s1, if_neg (by decide)]
      omega
    · rw [if_neg (show ¬ (a : Int) = i by omega)]
      cases tg : g.testBit a with
      | true =>
        rw [if_pos (zor_t.2 (Or.inl tg)), if_pos rfl]
        cases t : (M 155 i).toNat.testBit a with
        | false => rw [if_neg (by decide)]; omega
        | true => have := (s2 a t).2.1; rw [tg] at this; cases this
      | false =>
        rw [zor_f.2 ⟨tg, c⟩, if_neg (by decide), if_neg (by decide)]
        cases t : (M 155 i).toNat.testBit a with
        | false => rw [if_neg (by decide), (hL a ha).1 t]; omega
        | true =>
          rw [if_pos rfl]
          have := ybc (A := (M 155 a).toNat) (B := (M 155 i).toNat) (m := (V 155 a).toNat) (i := i) (j := a) (by omega) (by omega) (fun e => c e.symm) (s2 a t).2.2 t (yL_t (hL a ha) t)
          omega
  rw [zsum_add, zsum_add, zsum_k i1, zsum_cm] at key
  have ez : zsum (fun k => if (M 155 i).toNat.testBit k.toNat = true then 1 else 0) n = zbsu (M 155 i).toNat 8 := e8.symm
  rw [ez] at key
  exact key
theorem yD_3 (n8 : n ≤ 8) (hN : yNr σ M n g) {i : Nat} (i1 : i < n) (gi : g.testBit i = false) (hD : yD M n g) (hl : ∀ a : Nat, a < n → g.testBit a = false → zbsu (M 155 i).toNat 8 ≤ zbsu (M 155 a).toNat 8) : zbsu (M 155 i).toNat 8 ≤ 3 := by
  have f := yD_f n8 hN i1 gi hl
  have d := hD.1
  generalize zbsu (M 155 i).toNat 8 = D at f ⊢
  by_cases c : D ≤ 3
  · exact c
  · have : 4 * 5 ≤ D * yr n g := Int.mul_le_mul (by omega) (by omega) (by omega) (by omega)
    omega
/-- the row of the node taken out fits into the table, and what is to come fits behind it -/
theorem yD_u (n8 : n ≤ 8) (hN : yNr σ M n g) {i : Nat} (i1 : i < n) (gi : g.testBit i = false) (hD : yD M n g) (hl : ∀ a : Nat, a < n → g.testBit a = false → zbsu (M 155 i).toNat 8 ≤ zbsu (M 155 a).toNat 8) : M 150 8 + y7 (zbsu (M 155 i).toNat 8) + yP (yr n g - 1) ≤ 743 ∧ (ydq M n g + (zbsu (M 155 i).toNat 8 - 3) * zbsu (M 155 i).toNat 8 ≤ 14 ∨ yr n g ≤ 5) := by
  have f := yD_f n8 hN i1 gi hl
  have d3 := yD_3 n8 hN i1 gi hD hl
  have d0 := (zbsu_b (S := (M 155 i).toNat) (N := 8)).1
  have g0 := (zbsu_b (S := g) (N := n)).1
  have r8 : yr n g ≤ 8 := by unfold yr; omega
  obtain ⟨h16, u0, hu⟩ := hD
  rcases hu with ⟨h1, h2⟩ | ⟨h1, h2⟩
  · generalize zbsu (M 155 i).toNat 8 = D at f d3 d0 ⊢
    generalize yr n g = r at f h1 h2 r8 ⊢
    have t := yP_t (r := r) (D := D) (by omega) r8 d0 d3 f.1 (h1.imp (fun e => by omega) id)
    refine ⟨by omega, ?_⟩
    rcases h1 with h1 | h1
    · refine Or.inl ?_
      have hd : D = 0 ∨ D = 1 ∨ D = 2 ∨ D = 3 := by omega
      rcases hd with rfl | rfl | rfl | rfl <;> omega
    · exact Or.inr (by omega)
  · have d1 := h2 i i1 gi
    generalize zbsu (M 155 i).toNat 8 = D at f d3 d0 d1 ⊢
    generalize yr n g = r at f r8 ⊢
    by_cases c : r ≤ 5
    · have t := yP_u (r := r) (D := D) (by omega) r8 d0 d3 (Or.inl c)
      exact ⟨by omega, Or.inr c⟩
    · have hd : D = 1 ∨ D = 2 ∨ D = 3 := by omega
      rcases hd with rfl | rfl | rfl
      · have t := yP_u (r := r) (D := 1) (by omega) r8 (by decide) (by decide) (Or.inr (by decide))
        exact ⟨by omega, Or.inl (by omega)⟩
      · have t := yP_u (r := r) (D := 2) (by omega) r8 (by decide) (by decide) (Or.inr (by decide))
        exact ⟨by omega, Or.inl (by omega)⟩
      · omega
theorem yD_step (n8 : n ≤ 8) (hN : yNr σ M n g) {i : Nat} (i1 : i < n) (gi : g.testBit i = false) (hL : ∀ a : Nat, a < n → zLv M V i a) (hl : ∀ a : Nat, a < n → g.testBit a = false → zbsu (M 155 i).toNat 8 ≤ zbsu (M 155 a).toNat 8) (hD : yD M n g) (vu : V 150 8 = M 150 8 + y7 (zbsu (M 155 i).toNat 8)) : yD V n (g ||| 2 ^ i) := by
  have k := yD_k n8 hN i1 gi hL
  have d3 := yD_3 n8 hN i1 gi hD hl
  have d0 := (zbsu_b (S := (M 155 i).toNat) (N := 8)).1
  have u := yD_u n8 hN i1 gi hD hl
  have r1 : yr n (g ||| 2 ^ i) = yr n g - 1 := by
    unfold yr
    rw [zbsu_up i1 gi]; omega
  obtain ⟨h16, u0, -⟩ := hD
  unfold yD
  rw [r1, vu]
  generalize ydq V n (g ||| 2 ^ i) = e' at k ⊢
  generalize ydq M n g = e at k u h16
  generalize zbsu (M 155 i).toNat 8 = D at k d3 d0 u ⊢
  have hd : D = 0 ∨ D = 1 ∨ D = 2 ∨ D = 3 := by omega
  have y0 : 0 ≤ y7 D := by rcases hd with rfl | rfl | rfl | rfl <;> decide
  refine ⟨?_, by omega, Or.inl ⟨?_, by omega⟩⟩
  · rcases hd with rfl | rfl | rfl | rfl <;> omega
  · rcases u.2 with v | v
    · refine Or.inl ?_
      rcases hd with rfl | rfl | rfl | rfl <;> omega
    · exact Or.inr (by omega)
end GS1
