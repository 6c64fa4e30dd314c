/-! PURE PART, 55: the best step at a node -/
section GRL
variable {σ M : zMem} {k x b : Int}
theorem zup_2 {c : Nat} {k v w : Int} : zup (zup M c k w) c k v = zup M c k v := by
  funext a b
  unfold zup
  by_cases e : a = c ∧ b = k
  · rw [if_pos e, if_pos e]
  · rw [if_neg e, if_neg e, if_neg e]
/-- what step v costs at node i -/
def zcov (σ M : zMem) (n q : Nat) (i v : Int) : Int := min (zown σ (zup M 160 i v) i + zcs (zup M 160 i v) n q i n) 1000000000000000
theorem e_bestStep (h : St σ) (hA : zAx σ M) (h8 : znpr σ ≤ 8) (hG : zGn σ M (σ 40 0)) {n : Nat} (hn : (n : Int) = znpr σ) {i : Nat} (i1 : i < n) {g q : Nat} (hg : M 150 10 = g) (g8 : g < 256) (hs : ∀ j : Nat, j ≠ i → zNb σ (σ 40 7) i j → g.testBit j = false → 0 ≤ M 160 j ∧ M 160 j ≤ 6) (hq : M 150 11 = q) (q8 : q < 256) (hw : ∀ v : Int, 0 ≤ v → v ≤ 6 → zwt (zup M 160 i v) n q i) : zSat (fX1_bestStep i M) (fun e => e.2 = zup M 160 i 6 ∧ e.1 ≤ 1000000000000000 ∧ (∀ v : Int, 0 ≤ v → v ≤ 6 → zfit σ (zup M 160 i v) g i → e.1 ≤ zcov σ M n q i v) ∧ (e.1 = 1000000000000000 ∨ ∃ v : Int, (0 ≤ v ∧ v ≤ 6) ∧ zfit σ (zup M 160 i v) g i ∧ e.1 = zcov σ M n q i v)) := by
  unfold fX1_bestStep
  rw [zS_bd]
  refine zs_m (P := fun e : Int × Int × zMem => e.2.2 = zup M 160 i 6 ∧ e.1 ≤ 1000000000000000 ∧ (∀ v : Int, 0 ≤ v → v ≤ 6 → zfit σ (zup M 160 i v) g i → e.1 ≤ zcov σ M n q i v) ∧ (e.1 = 1000000000000000 ∨ ∃ v : Int, (0 ≤ v ∧ v ≤ 6) ∧ zfit σ (zup M 160 i v) g i ∧ e.1 = zcov σ M n q i v)) ?_ (fun e he => he)
  refine zit_i3 (fun a b c => fX1_bestStep_l7 (i : Int) a b c) (fun m a y V => m = (7 - y).toNat ∧ 0 ≤ y ∧ y ≤ 7 ∧ (V = M ∨ ∃ v, V = zup M 160 i v) ∧ (0 < y → V = zup M 160 i (y - 1)) ∧ a ≤ 1000000000000000 ∧ (∀ v : Int, 0 ≤ v → v < y → zfit σ (zup M 160 i v) g i → a ≤ zcov σ M n q i v) ∧ (a = 1000000000000000 ∨ ∃ v : Int, (0 ≤ v ∧ v ≤ 6) ∧ zfit σ (zup M 160 i v) g i ∧ a = zcov σ M n q i v)) ?_ _ ⟨rfl, by omega, by omega, Or.inl rfl, fun c => by omega, by omega, fun v v0 v1 => by omega, Or.inl rfl⟩
  rintro m a y V ⟨hm, y0, y1, hV, hVy, a1, a2, a3⟩
  show zSat (fX1_bestStep_l7 (i : Int) a y V) _
  unfold fX1_bestStep_l7
  by_cases c : 7 ≤ y
  · rw [if_pos c]
    have : y = 7 := by omega
    subst this
    exact ⟨hVy (by omega), a1, fun v v0 v1 => a2 v v0 (by omega), a3⟩
  have eV : zup V 160 i y = zup M 160 i y := by
    rcases hV with e | ⟨v, e⟩
    · rw [e]
    · rw [e, zup_2]
  rw [if_neg c, zgd_t ⟨by omega, by omega⟩, eV, zw_i (x := y + 1) (by omega) (by omega), zS_bd]
  have k1 : (7 - (y + 1)).toNat < m := by clear a3 hV; omega
  have k2 : 0 ≤ y + 1 := by clear a3 hV; omega
  have k3 : y + 1 ≤ 7 := by clear a3 hV; omega
  have k4 : y + 1 - 1 = y := by clear a3 hV; omega
  have hA1 : zAx σ (zup M 160 i y) := hA.up (Or.inl rfl)
  have c1 : ∀ c : Nat, c ≠ 160 → zup M 160 i y c = M c := fun c hc => funext fun q => zup_ne hc
  have hG1 : zGn σ (zup M 160 i y) (σ 40 0) := by
    unfold zGn at hG ⊢
    rw [c1 150 (by decide), c1 152 (by decide), c1 153 (by decide)]; exact hG
  have hi1 : 0 ≤ zup M 160 i y 160 i ∧ zup M 160 i y 160 i ≤ 6 := by rw [zup_eq]; omega
  refine zs_m (e_fits h hA1 h8 hG1 (i := i) (by omega) (by omega) hi1 (g := g) (by rw [c1 150 (by decide)]; exact hg) g8 (fun j j1 j2 => ?_)) ?_
  · by_cases e : j = i
    · subst e; exact hi1
    · rw [zup_nk (by omega)]; exact hs j e j1 j2
  · intro r hr
    have done : ∀ a' : Int, a' ≤ 1000000000000000 → (∀ v : Int, 0 ≤ v → v < y + 1 → zfit σ (zup M 160 i v) g i → a' ≤ zcov σ M n q i v) → (a' = 1000000000000000 ∨ ∃ v : Int, (0 ≤ v ∧ v ≤ 6) ∧ zfit σ (zup M 160 i v) g i ∧ a' = zcov σ M n q i v) → zSat (some (Sum.inl (a', y + 1, zup M 160 i y)) : Option ((Int × Int × zMem) ⊕ (Int × Int × zMem))) (fun x : (Int × Int × zMem) ⊕ (Int × Int × zMem) => zel x (fun s' => ∃ m', m' < m ∧ m' = (7 - s'.2.1).toNat ∧ 0 ≤ s'.2.1 ∧ s'.2.1 ≤ 7 ∧ (s'.2.2 = M ∨ ∃ v, s'.2.2 = zup M 160 i v) ∧ (0 < s'.2.1 → s'.2.2 = zup M 160 i (s'.2.1 - 1)) ∧ s'.1 ≤ 1000000000000000 ∧ (∀ v : Int, 0 ≤ v → v < s'.2.1 → zfit σ (zup M 160 i v) g i → s'.1 ≤ zcov σ M n q i v) ∧ (s'.1 = 1000000000000000 ∨ ∃ v : Int, (0 ≤ v ∧ v ≤ 6) ∧ zfit σ (zup M 160 i v) g i ∧ s'.1 = zcov σ M n q i v)) (fun e => e.2.2 = zup M 160 i 6 ∧ e.1 ≤ 1000000000000000 ∧ (∀ v : Int, 0 ≤ v → v ≤ 6 → zfit σ (zup M 160 i v) g i → e.1 ≤ zcov σ M n q i v) ∧ (e.1 = 1000000000000000 ∨ ∃ v : Int, (0 ≤ v ∧ v ≤ 6) ∧ zfit σ (zup M 160 i v) g i ∧ e.1 = zcov σ M n q i v))) := fun a' b1 b2 b3 => ⟨(7 - (y + 1)).toNat, k1, rfl, k2, k3, Or.inr ⟨y, rfl⟩, fun _ => by show zup M 160 i y = zup M 160 i (y + 1 - 1); rw [k4], b1, b2, b3⟩
    rcases hr with ⟨r1, r2⟩ | ⟨r1, r2⟩
    · have co := e_costOf h hA1 h8 hG1 hn i1 hi1 (q := q) (by rw [c1 150 (by decide)]; exact hq) q8 (hw y y0 (by omega))
      rw [if_neg (by omega), co, zbd_s]
      show zSat (some (Sum.inl (min a (zcov σ M n q i y), y + 1, zup M 160 i y))) _
      refine done _ (by omega) (fun v v0 v1 vf => ?_) ?_
      · by_cases e : v = y
        · subst e; omega
        · have := a2 v v0 (by omega) vf; omega
      · by_cases e : a ≤ zcov σ M n q i y
        · rw [show min a (zcov σ M n q i y) = a by omega]; exact a3
        · rw [show min a (zcov σ M n q i y) = zcov σ M n q i y by omega]; exact Or.inr ⟨y, ⟨y0, by omega⟩, r2, rfl⟩
    · rw [if_pos r1]
      refine done a a1 (fun v v0 v1 vf => ?_) a3
      by_cases e : v = y
      · subst e; exact absurd vf r2
      · exact a2 v v0 (by omega) vf
end GRL
