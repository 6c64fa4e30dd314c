/-! PURE PART, 27: searches: the first of the best -/
section BST
variable {σ M : zMem} {k n x : Int} {fg fg' : Int → Int}
/-- after a search among C: what was best stays, or the first of the best of C is now -/
def zBest (C : (Int → Int) → Prop) (cost : (Int → Int) → Int) (n : Nat) (l0 : Int) (b0 : Int → Int) (l1 : Int) (b1 : Int → Int) : Prop :=
  (l1 = l0 ∧ (∀ q : Nat, q < n → b1 q = b0 q) ∧ ∀ t : Int → Int, C t → l0 ≤ cost t) ∨ (C b1 ∧ l1 = cost b1 ∧ l1 < l0 ∧ ∀ t : Int → Int, C t → l1 < cost t ∨ (l1 = cost t ∧ zlex b1 t n))
theorem zBest.none {C : (Int → Int) → Prop} {cost : (Int → Int) → Int} {n : Nat} {l0 : Int} {b0 : Int → Int} (h : ∀ t, C t → l0 ≤ cost t) : zBest C cost n l0 b0 l0 b0 := Or.inl ⟨rfl, fun _ _ => rfl, h⟩
/-- what C is, and cost, hang on the first n numbers alone -/
def zLoc (C : (Int → Int) → Prop) (cost : (Int → Int) → Int) (n : Nat) : Prop := ∀ t t' : Int → Int, (∀ q : Nat, q < n → t q = t' q) → (C t → C t') ∧ cost t = cost t'
theorem zlex_refl {f : Int → Int} {n : Nat} : zlex f f n := Or.inl fun _ _ => rfl
theorem zlex_c {f f' g : Int → Int} {n : Nat} (h : ∀ q : Nat, q < n → f q = f' q) (hl : zlex f g n) : zlex f' g n := by
  rcases hl with hl | ⟨a, a1, a2, a3⟩
  · exact Or.inl fun q hq => (h q hq).symm.trans (hl q hq)
  · exact Or.inr ⟨a, a1, fun j hj => (h j (by omega)).symm.trans (a2 j hj), by rw [← h a a1]; exact a3⟩
theorem zBest.comp {C1 C2 : (Int → Int) → Prop} {cost : (Int → Int) → Int} {n : Nat} {l0 l1 l2 : Int} {b0 b1 b2 : Int → Int} (L1 : zLoc C1 cost n) (h1 : zBest C1 cost n l0 b0 l1 b1) (h2 : zBest C2 cost n l1 b1 l2 b2) (hx : ∀ t1 t2, C1 t1 → C2 t2 → zlex t1 t2 n) : zBest (fun t => C1 t ∨ C2 t) cost n l0 b0 l2 b2 := by
  rcases h2 with ⟨e1, e2, e3⟩ | ⟨c1, c2, c3, c4⟩
  · rcases h1 with ⟨d1, d2, d3⟩ | ⟨d1, d2, d3, d4⟩
    · exact Or.inl ⟨e1.trans d1, fun q hq => (e2 q hq).trans (d2 q hq), fun t ht => ht.elim (d3 t) (fun h => by have := e3 t h; omega)⟩
    · have lc := L1 b1 b2 (fun q hq => (e2 q hq).symm)
      refine Or.inr ⟨Or.inl (lc.1 d1), by rw [e1, d2]; exact lc.2, by omega, fun t ht => ?_⟩
      rcases ht with ht | ht
      · rcases d4 t ht with g | g
        · exact Or.inl (by omega)
        · exact Or.inr ⟨by omega, zlex_c (fun q hq => (e2 q hq).symm) g.2⟩
      · have g := e3 t ht
        by_cases c : l1 = cost t
        · exact Or.inr ⟨by omega, zlex_c (fun q hq => (e2 q hq).symm) (hx b1 t d1 ht)⟩
        · exact Or.inl (by omega)
  · refine Or.inr ⟨Or.inr c1, c2, ?_, fun t ht => ?_⟩
    · rcases h1 with ⟨d1, -, -⟩ | ⟨-, -, d3, -⟩ <;> omega
    · rcases ht with ht | ht
      · left
        rcases h1 with ⟨d1, -, d3⟩ | ⟨-, -, -, d4⟩
        · have := d3 t ht; omega
        · have := d4 t ht; omega
      · exact c4 t ht
theorem zBest.iff {C C' : (Int → Int) → Prop} {cost : (Int → Int) → Int} {n : Nat} {l0 l1 : Int} {b0 b1 : Int → Int} (h : zBest C cost n l0 b0 l1 b1) (hc : ∀ t, C t ↔ C' t) : zBest C' cost n l0 b0 l1 b1 := by
  have : C = C' := funext fun t => propext (hc t)
  rw [← this]; exact h
/-- prefixes -/
theorem zwo_p {f : Int} : ∀ {j : Nat}, (∀ q : Nat, q < j → fg q = fg' q) → zwo σ fg f j = zwo σ fg' f j
  | 0, _ => rfl
  | j + 1, h => by unfold zwo; rw [zwo_p (j := j) (fun q hq => h q (by omega)), h j (by omega)]
theorem zmin_p {f g : Int → Int} : ∀ {j : Nat}, (∀ q : Nat, q < j → f q = g q) → zmin f j = zmin g j
  | 0, _ => rfl
  | j + 1, h => by unfold zmin; rw [zmin_p (j := j) (fun q hq => h q (by omega)), h j (by omega)]
theorem zprv_p {f : Int} : ∀ {j : Nat}, (∀ q : Nat, q < j → fg q = fg' q) → zprv fg f j = zprv fg' f j
  | 0, _ => rfl
  | j + 1, h => by unfold zprv; rw [zprv_p (j := j) (fun q hq => h q (by omega)), h j (by omega)]
theorem zwro_p {m : Nat} (h : ∀ q : Nat, q ≤ m → fg q = fg' q) : zwro σ fg m = zwro σ fg' m := by
  have e := h m (Nat.le_refl _)
  have c : zmin (zcla σ fg m) m = zmin (zcla σ fg' m) m := zmin_p fun q hq => by unfold zcla; rw [e, h q (by omega)]
  unfold zwro zdry zwor
  rw [show ((m : Int).toNat) = m by omega, c, e, zwo_p (j := m + 1) (fun q hq => h q (by omega))]
theorem zsty_p {m : Nat} (h : ∀ q : Nat, q ≤ m → fg q = fg' q) : zsty σ fg m ↔ zsty σ fg' m := by
  unfold zsty
  rw [show ((m : Int).toNat) = m by omega, h m (Nat.le_refl _), zprv_p (j := m) (fun q hq => h q (by omega))]
theorem zlfs_p {m : Nat} (h : ∀ q : Nat, q < m → fg q = fg' q) : zlfs σ fg m = zlfs σ fg' m := zsum_eq fun q hq => by
  simp only [zsty_p (σ := σ) (m := q) (fun r hr => h r (by omega))]
theorem zvalid_p {m : Nat} (h : ∀ q : Nat, q < m → fg q = fg' q) : zvalid σ fg m → zvalid σ fg' m := fun v q hq => by
  rw [← h q hq, ← zwro_p (σ := σ) (m := q) (fun r hr => h r (by omega))]; exact v q hq
theorem zvalid_m {m m' : Nat} (h : m' ≤ m) (v : zvalid σ fg m) : zvalid σ fg m' := fun q hq => v q (by omega)
end BST
