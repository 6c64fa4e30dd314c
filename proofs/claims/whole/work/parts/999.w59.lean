/-! PURE PART, 59: what is known once a node is taken out -/
section GRZ
variable {σ M V : zMem} {k x b : Int} {n g q S : Nat} {a a' : Int → Int}
theorem zsum_z {n : Nat} : zsum (fun _ => 0) n = 0 := by
  induction n with
  | zero => rfl
  | succ n ih => show zsum (fun _ => 0) n + 0 = 0; rw [ih]; rfl
theorem zsum_k {c : Int} {i n : Nat} (h : i < n) : zsum (fun w => if w = (i : Int) then c else 0) n = c := by
  have := zsum_up (f := fun _ => 0) (b := (i : Int)) (v := c) (n := n) (by omega) (by omega)
  rw [this, zsum_z]; omega
theorem zsf_z {n : Nat} : ∀ d : Nat, zsf a 0 n d = 0
  | 0 => rfl
  | d + 1 => by unfold zsf; rw [Nat.zero_testBit, if_neg (by decide)]; exact zsf_z d
/-- what waits -/
def yQ (M : zMem) (n g q : Nat) : Prop := ∀ w : Nat, w < n → q.testBit w = true → g.testBit w = true ∧ (0 ≤ M 156 w ∧ M 156 w < 2 ^ n ∧ zbsu (M 156 w).toNat 8 ≤ 3 ∧ 0 ≤ M 158 w ∧ M 158 w + 7 ^ zsc (M 156 w).toNat n n ≤ M 150 8) ∧ (∀ y : Int, 0 ≤ y → y < 7 ^ zsc (M 156 w).toNat n n → 0 ≤ M 157 (M 158 w + y) ∧ M 157 (M 158 w + y) ≤ 1000000000000000) ∧ (∃ j : Nat, j < n ∧ (M 156 w).toNat.testBit j = true) ∧ ∀ j : Nat, j < n → (M 156 w).toNat.testBit j = true → g.testBit j = false ∧ ∀ l : Nat, l < n → (M 156 w).toNat.testBit l = true → l ≠ j → (M 155 j).toNat.testBit l = true
def yrs (M : zMem) (n q : Nat) (a : Int → Int) : Int := zsum (fun w => if q.testBit w.toNat = true then ytb M n a w else 0) n
def yno (M : zMem) (n q : Nat) (a : Int → Int) (i : Int) : Int := zsum (fun w => if q.testBit w.toNat = true ∧ (M 156 w).toNat.testBit i.toNat = false then ytb M n a w else 0) n
def yal (σ : zMem) (B : Int → Int) (g : Nat) (a : Int → Int) (n : Nat) : Int := zsum (fun i => if g.testBit i.toNat = true then yow σ B a i else 0) n
def yFt (σ : zMem) (B : Int → Int) (g : Nat) (a : Int → Int) (n : Nat) : Prop := (∀ i : Nat, i < n → g.testBit i = true → 1 ≤ yto σ B a i ∧ yto σ B a i ≤ 9999) ∧ ∀ k : Int, 0 ≤ k → k < σ 40 7 → (g.testBit (zgn σ (σ 49 k)).toNat = true ∨ g.testBit (zgn σ (σ 51 k)).toNat = true) → yok σ B a k
/-- what is known stands for the best of the nodes that are gone -/
def yV (σ M : zMem) (n g q : Nat) : Prop := (0 ≤ M 150 12 ∧ M 150 12 ≤ 1000000000000000) ∧ ∀ a : Int → Int, yR n a → (yFt σ (M 152) g a n → M 150 12 + yrs M n q a ≤ yal σ (M 152) g a n) ∧ (1000000000000000 ≤ M 150 12 + yrs M n q a ∨ ∃ a' : Int → Int, yR n a' ∧ (∀ j : Nat, j < n → g.testBit j = false → a' j = a j) ∧ yFt σ (M 152) g a' n ∧ M 150 12 + yrs M n q a = yal σ (M 152) g a' n)
theorem ytb_b (n8 : n ≤ 8) (hQ : yQ M n g q) (ha : yR n a) {w : Nat} (hw : w < n) (hqw : q.testBit w = true) : (0 ≤ zsf a (M 156 w).toNat n n ∧ M 158 w + zsf a (M 156 w).toNat n n < M 150 8) ∧ 0 ≤ ytb M n a w ∧ ytb M n a w ≤ 1000000000000000 := by
  obtain ⟨-, ⟨w1, w2, w3, w30, w31⟩, w4, -⟩ := hQ w hw hqw
  have s2 := zS2 w1 w2
  have b := zsf_c (a := a) (S := (M 156 w).toNat) (n := n) (fun j hj _ => ha j hj) n (Nat.le_refl _)
  exact ⟨⟨b.1, by omega⟩, w4 _ b.1 b.2⟩
theorem yrs_2 {i : Nat} : yrs M n q a = yno M n q a i + yhg M n q a i := by
  unfold yrs yno yhg
  rw [← zsum_add]
  refine zsum_eq fun w hw => ?_
  cases t1 : q.testBit ((w : Int)).toNat with
  | false => rw [if_neg (by decide), if_neg (fun e => by cases e.1), if_neg (fun e => by cases e.1)]; rfl
  | true =>
    cases t2 : (M 156 w).toNat.testBit ((i : Int)).toNat with
    | false => rw [if_pos rfl, if_pos ⟨rfl, rfl⟩, if_neg (fun e => by cases e.2)]; omega
    | true => rw [if_pos rfl, if_neg (fun e => by cases e.2), if_pos ⟨rfl, rfl⟩]; omega
theorem yno_0 (n8 : n ≤ 8) (hQ : yQ M n g q) (ha : yR n a) {i : Nat} : 0 ≤ yno M n q a i := zsum_0 fun w hw => by
  by_cases c : q.testBit ((w : Int)).toNat = true ∧ (M 156 w).toNat.testBit ((i : Int)).toNat = false
  · rw [if_pos c]; exact (ytb_b n8 hQ ha hw c.1).2.1
  · rw [if_neg c]; exact Int.le_refl _
theorem yhg_0 (n8 : n ≤ 8) (hQ : yQ M n g q) (ha : yR n a) {i : Nat} : 0 ≤ yhg M n q a i := zsum_0 fun w hw => by
  by_cases c : q.testBit ((w : Int)).toNat = true ∧ (M 156 w).toNat.testBit ((i : Int)).toNat = true
  · rw [if_pos c]; exact (ytb_b n8 hQ ha hw c.1).2.1
  · rw [if_neg c]; exact Int.le_refl _
theorem yno_set {i : Nat} {v : Int} : yno M n q (yset a i v) i = yno M n q a i := zsum_eq fun w hw => by
  by_cases c : q.testBit ((w : Int)).toNat = true ∧ (M 156 w).toNat.testBit ((i : Int)).toNat = false
  · rw [if_pos c, if_pos c]
    unfold ytb
    rw [zsf_cg (a := yset a i v) (a' := a) (fun j hj hb => yset_n (fun e => ?_)) n (Nat.le_refl _)]
    have : j = i := by omega
    rw [this] at hb
    have c2 : (M 156 w).toNat.testBit i = false := c.2
    rw [c2] at hb; cases hb
  · rw [if_neg c, if_neg c]
theorem yset_s {i : Int} : yset a i (a i) = a := funext fun y => by
  by_cases e : y = i
  · rw [e, yset_e]
  · rw [yset_n e]
theorem zor_t {i j : Nat} : (g ||| 2 ^ i).testBit j = true ↔ g.testBit j = true ∨ j = i := by
  rw [Nat.testBit_or, Nat.testBit_two_pow, Bool.or_eq_true, decide_eq_true_eq]
  exact ⟨fun e => e.imp id Eq.symm, fun e => e.imp id Eq.symm⟩
theorem zor_f {i j : Nat} : (g ||| 2 ^ i).testBit j = false ↔ g.testBit j = false ∧ j ≠ i := by
  have := zor_t (g := g) (i := i) (j := j)
  cases t1 : (g ||| 2 ^ i).testBit j with
  | true =>
    rw [t1] at this
    refine ⟨fun e => (by cases e), fun e => ?_⟩
    rcases this.1 rfl with q | q
    · rw [q] at e; cases e.1
    · exact absurd q e.2
  | false =>
    rw [t1] at this
    refine ⟨fun _ => ⟨?_, fun e => ?_⟩, fun _ => rfl⟩
    · cases t2 : g.testBit j with
      | false => rfl
      | true => have := this.2 (Or.inl t2); cases this
    · have := this.2 (Or.inr e); cases this
theorem yal_up {B : Int → Int} {i : Nat} (hi : i < n) (gi : g.testBit i = false) : yal σ B (g ||| 2 ^ i) a n = yal σ B g a n + yow σ B a i := by
  unfold yal
  rw [show yow σ B a i = zsum (fun w => if w = (i : Int) then yow σ B a i else 0) n from (zsum_k hi).symm, ← zsum_add]
  refine zsum_eq fun w hw => ?_
  have e : ((w : Int)).toNat = w := by omega
  rw [e]
  by_cases c : w = i
  · subst c
    rw [if_pos (zor_t.2 (Or.inr rfl)), gi, if_neg (by decide), if_pos rfl]; omega
  · rw [if_neg (show ¬ (w : Int) = i by omega)]
    cases t : g.testBit w with
    | true => rw [if_pos (zor_t.2 (Or.inl t)), if_pos rfl]; omega
    | false => rw [zor_f.2 ⟨t, c⟩, if_neg (by decide)]; omega
theorem yV_step (h : St σ) (h8 : znpr σ ≤ 8) (hn : (n : Int) = znpr σ) (hG : zGn σ M (σ 40 0)) {i : Nat} (i1 : i < n) (gi : g.testBit i = false) (hQ : yQ M n g q) (hS : M 156 i = S) (hV : yV σ M n g q) {q' : Nat} (hq' : ∀ w : Nat, w < n → (q'.testBit w = true ↔ (q.testBit w = true ∧ (M 156 w).toNat.testBit i = false) ∨ (w = i ∧ S ≠ 0))) (v2 : V 152 = M 152) (v6 : V 156 = M 156) (v8 : V 158 = M 158) (us : M 158 i = M 150 8) (v7 : ∀ y : Int, y < M 158 i → V 157 y = M 157 y) (vT : ∀ x : Int, 0 ≤ x → x < 7 ^ zsc S n n → yT σ M n g q i S x (V 157 (M 158 i + x))) (vL : V 150 12 = if S = 0 then min 1000000000000000 (M 150 12 + V 157 (M 158 i)) else M 150 12) : yV σ V n (g ||| 2 ^ i) q' := by
  have n8 : n ≤ 8 := by omega
  have qi : q.testBit i = false := by
    cases t : q.testBit i with
    | false => rfl
    | true => have := (hQ i i1 t).1; rw [gi] at this; cases this
  obtain ⟨hL, hR⟩ := hV
  -- the row of steps a
  have row : ∀ a : Int → Int, yR n a → yT σ M n g q i S (zsf a S n n) (ytb V n a i) := fun a ha => by
    have b := zsf_c (a := a) (S := S) (n := n) (fun j hj _ => ha j hj) n (Nat.le_refl _)
    have := vT _ b.1 b.2
    unfold ytb
    rw [v6, v8, hS]; exact this
  have t0 : S = 0 → ∀ a : Int → Int, ytb V n a i = V 157 (M 158 i) := fun e a => by
    unfold ytb
    rw [v6, v8, hS, e]
    show V 157 (M 158 i + zsf a 0 n n) = _
    rw [zsf_z, Int.add_zero]
  have sm : ∀ a : Int → Int, yR n a → yrs V n q' a = yno M n q a i + (if S = 0 then 0 else ytb V n a i) := fun a ha => by
    rw [show (if S = 0 then 0 else ytb V n a i) = zsum (fun w => if w = (i : Int) then (if S = 0 then 0 else ytb V n a i) else 0) n from (zsum_k i1).symm]
    unfold yrs yno
    rw [← zsum_add]
    refine zsum_eq fun w hw => ?_
    have e : ((w : Int)).toNat = w := by omega
    have ei : ((i : Int)).toNat = i := by omega
    rw [e, ei]
    have hw' := hq' w hw
    by_cases c : w = i
    · subst c
      rw [if_neg (show ¬ (q.testBit w = true ∧ (M 156 w).toNat.testBit w = false) from fun z => by rw [qi] at z; cases z.1), if_pos rfl]
      by_cases s : S = 0
      · rw [if_pos s, if_neg (fun z => by
          rcases hw'.1 z with z | z
          · rw [qi] at z; cases z.1
          · exact z.2 s)]; rfl
      · rw [if_neg s, if_pos (hw'.2 (Or.inr ⟨rfl, s⟩))]; omega
    · rw [if_neg (show ¬ (w : Int) = i by omega)]
      by_cases z : q.testBit w = true ∧ (M 156 w).toNat.testBit i = false
      · rw [if_pos z, if_pos (hw'.2 (Or.inl z))]
        have b := ytb_b n8 hQ ha hw z.1
        have : ytb V n a w = ytb M n a w := by
          unfold ytb
          rw [v6, v8, v7 _ (by omega)]
        omega
      · rw [if_neg z, if_neg (fun u => by
          rcases hw'.1 u with u | u
          · exact z u
          · exact c u.1)]; rfl
  have t00 := t0
  -- R' against X
  have key : ∀ a : Int → Int, yR n a → V 150 12 + yrs V n q' a ≤ M 150 12 + ytb V n a i + yno M n q a i ∧ (V 150 12 + yrs V n q' a = M 150 12 + ytb V n a i + yno M n q a i ∨ 1000000000000000 ≤ V 150 12 + yrs V n q' a) := fun a ha => by
    have o := yno_0 n8 hQ ha (i := i)
    rw [sm a ha, vL]
    by_cases s : S = 0
    · rw [if_pos s, if_pos s, ← t0 s a]
      omega
    · rw [if_neg s, if_neg s]
      omega
  have nd := hG.2.1 i (by omega) (by rw [zgn_N]; omega)
  refine ⟨?_, fun a ha => ⟨fun hF => ?_, ?_⟩⟩
  · rw [vL]
    by_cases s : S = 0
    · have r0 := (row (fun _ => 0) (fun j hj => ⟨Int.le_refl 0, by show (0 : Int) ≤ 6; decide⟩)).1.1
      rw [t0 s] at r0
      rw [if_pos s]; omega
    · rw [if_neg s]; exact hL
  · rw [v2] at hF ⊢
    have k1 := (key a ha).1
    have r := (row a ha).2 a ha rfl
    have fg : yFt σ (M 152) g a n := ⟨fun j hj hb => hF.1 j hj (zor_t.2 (Or.inl hb)), fun k k0 k1 ho => hF.2 k k0 k1 (ho.imp (fun e => zor_t.2 (Or.inl e)) (fun e => zor_t.2 (Or.inl e)))⟩
    have fi : yfit σ (M 152) (yset a i (a i)) g i := by
      rw [yset_s]
      refine ⟨hF.1 i i1 (zor_t.2 (Or.inr rfl)), fun k k0 k1 ho t1 t2 => hF.2 k k0 k1 (ho.imp (fun e => zor_t.2 (Or.inr ?_)) (fun e => zor_t.2 (Or.inr ?_)))⟩
      · rw [e]; omega
      · rw [e]; omega
    have r1 := r.1 (a i) (ha i i1).1 (ha i i1).2 fi
    rw [yset_s] at r1
    have r2 := (hR a ha).1 fg
    have s2 := yrs_2 (M := M) (n := n) (q := q) (a := a) (i := i)
    have u := yal_up (σ := σ) (B := M 152) (a := a) i1 gi
    rw [u]
    unfold ycov at r1
    omega
  · rw [v2]
    by_cases big : 1000000000000000 ≤ V 150 12 + yrs V n q' a
    · exact Or.inl big
    have k1 : V 150 12 + yrs V n q' a = M 150 12 + ytb V n a i + yno M n q a i := by
      rcases (key a ha).2 with e | e
      · exact e
      · exact absurd e big
    have o := yno_0 n8 hQ ha (i := i)
    have r := (row a ha).2 a ha rfl
    rcases r.2 with e | ⟨v, ⟨v0, v1⟩, fv, e⟩
    · omega
    have hav : yR n (yset a i v) := ha.set v0 v1
    have ow := yow_0 h (B := M 152) (a := yset a i v) (i := i) nd.1 (by rw [yset_e]; exact ⟨v0, v1⟩)
    have hg0 := yhg_0 n8 hQ hav (i := i)
    have no := yno_set (M := M) (n := n) (q := q) (a := a) (i := i) (v := v)
    have s2 := yrs_2 (M := M) (n := n) (q := q) (a := yset a i v) (i := i)
    have e2 : ytb V n a i = yow σ (M 152) (yset a i v) i + yhg M n q (yset a i v) i := by unfold ycov at e; omega
    rcases (hR _ hav).2 with w | ⟨a', ra, sa, fa, ea⟩
    · omega
    · refine Or.inr ⟨a', ra, fun j hj hb => ?_, ⟨fun j hj hb => ?_, fun k k0 k1 ho => ?_⟩, ?_⟩
      · have := zor_f.1 hb
        rw [sa j hj this.1, yset_n (by omega)]
      · rcases zor_t.1 hb with z | z
        · exact fa.1 j hj z
        · rw [z, yto_cg (σ := σ) (B := M 152) (a := a') (a' := yset a i v) (sa i i1 gi)]
          exact fv.1
      · by_cases c : g.testBit (zgn σ (σ 49 k)).toNat = true ∨ g.testBit (zgn σ (σ 51 k)).toNat = true
        · exact fa.2 k k0 k1 c
        · have c1 : g.testBit (zgn σ (σ 49 k)).toNat = false := by
            cases t : g.testBit (zgn σ (σ 49 k)).toNat with
            | false => rfl
            | true => exact absurd (Or.inl t) c
          have c2 : g.testBit (zgn σ (σ 51 k)).toNat = false := by
            cases t : g.testBit (zgn σ (σ 51 k)).toNat with
            | false => rfl
            | true => exact absurd (Or.inr t) c
          have pa := r_pA h k0 k1
          have pb := r_pB h k0 k1
          have pp := zpr_A h k0 k1
          have la := zgn_l pa.1 pp.1 pa.2
          have lb := zgn_l pb.1 pp.2 pb.2.1
          have a0 := zgn_0 (σ := σ) (a := σ 49 k)
          have b0 := zgn_0 (σ := σ) (a := σ 51 k)
          rw [zgn_N] at la lb
          have ho' : zgn σ (σ 49 k) = i ∨ zgn σ (σ 51 k) = i := by
            rcases ho with z | z
            · rcases zor_t.1 z with z | z
              · rw [c1] at z; cases z
              · exact Or.inl (by omega)
            · rcases zor_t.1 z with z | z
              · rw [c2] at z; cases z
              · exact Or.inr (by omega)
          have f := fv.2 k k0 k1 ho' c1 c2
          have eA : (((zgn σ (σ 49 k)).toNat : Nat) : Int) = zgn σ (σ 49 k) := by omega
          have eB : (((zgn σ (σ 51 k)).toNat : Nat) : Int) = zgn σ (σ 51 k) := by omega
          have xA := sa (zgn σ (σ 49 k)).toNat (by omega) c1
          have xB := sa (zgn σ (σ 51 k)).toNat (by omega) c2
          rw [eA] at xA
          rw [eB] at xB
          unfold yok at f ⊢
          rw [yto_cg (σ := σ) (B := M 152) xA, yto_cg (σ := σ) (B := M 152) xB]
          exact f
      · have u := yal_up (σ := σ) (B := M 152) (a := a') i1 gi
        have w : yow σ (M 152) a' i = yow σ (M 152) (yset a i v) i := yow_cg (sa i i1 gi)
        rw [u, w]
        omega
end GRZ
