/-! PURE PART, 56: the next node to take out -/
section GRM
variable {σ M : zMem} {k x b : Int}
def zNn (M : zMem) (g m : Nat) (r : Int) : Prop := (r = -1 ∧ ∀ a : Nat, a < m → g.testBit a = true) ∨ ∃ j : Nat, r = j ∧ j < m ∧ g.testBit j = false ∧ ∀ a : Nat, a < m → g.testBit a = false → zbsu (M 155 j).toNat 8 ≤ zbsu (M 155 a).toNat 8
theorem e_bc' {v : Int} (h0 : 0 ≤ v) (h1 : v < 256) : fJ6_bitCount_0f7a4 v M = some (zbsu v.toNat 8) := by
  have := e_bc (M := M) (S := v.toNat) (by omega)
  rwa [show ((v.toNat : Nat) : Int) = v by omega] at this
theorem e_nextNode {n g : Nat} (hn : M 150 3 = n) (h8 : n ≤ 8) (hg : M 150 10 = g) (g8 : g < 256) (hm : ∀ a : Nat, a < n → 0 ≤ M 155 a ∧ M 155 a < 256) : zSat (fX1_nextNode M) (zNn M g n) := by
  unfold fX1_nextNode
  rw [zS_bd]
  refine zs_m (P := fun e : Int × Int => zNn M g n e.1) ?_ (fun e (he : zNn M g n e.1) => he)
  refine zit_i2 (fun r y => fX1_nextNode_l4 r y M) (fun m r y => ∃ i : Nat, y = (i : Int) ∧ m = n - i ∧ i ≤ n ∧ zNn M g i r) ?_ _ ⟨0, rfl, rfl, by omega, Or.inl ⟨rfl, fun a ha => by omega⟩⟩
  rintro m r y ⟨i, rfl, hmi, hi, hN⟩
  show zSat (fX1_nextNode_l4 r i M) _
  unfold fX1_nextNode_l4 fX1_nextNode_j28 fX1_nextNode_j59
  rw [hn, hg]
  by_cases c : (n : Int) ≤ i
  · rw [if_pos c]
    have : i = n := by omega
    subst this
    exact hN
  have go : ∀ r' : Int, zNn M g (i + 1) r' → zSat (some (Sum.inl (r', (i : Int) + 1)) : Option ((Int × Int) ⊕ (Int × Int))) (fun x : (Int × Int) ⊕ (Int × Int) => zel x (fun s' => ∃ m', m' < m ∧ ∃ i : Nat, s'.2 = (i : Int) ∧ m' = n - i ∧ i ≤ n ∧ zNn M g i s'.1) (fun e => zNn M g n e.1)) := fun r' q => ⟨n - (i + 1), by clear hN q; omega, i + 1, rfl, rfl, by clear hN q; omega, q⟩
  rw [if_neg c, zbit_n (by clear hN; omega) (by clear hN; omega), zw_i (x := (i : Int) + 1) (by clear hN; omega) (by clear hN; omega), if_neg (show ¬ (1 : Int) = 0 by decide), if_pos (show (0 : Int) = 0 from rfl)]
  have i8 : (0 : Int) ≤ i ∧ (i : Int) < 8 := by clear hN; omega
  have mi := hm i (by clear hN; omega)
  cases ht : g.testBit i with
  | true =>
    rw [if_neg (by decide)]
    refine go r ?_
    rcases hN with ⟨r1, r2⟩ | ⟨j, r1, r2, r3, r4⟩
    · exact Or.inl ⟨r1, fun a ha => by
        by_cases e : a = i
        · subst e; exact ht
        · exact r2 a (by omega)⟩
    · exact Or.inr ⟨j, r1, by omega, r3, fun a ha hb => by
        by_cases e : a = i
        · subst e; rw [ht] at hb; cases hb
        · exact r4 a (by omega) hb⟩
  | false =>
    rw [if_pos (by decide)]
    rcases hN with ⟨r1, r2⟩ | ⟨j, r1, r2, r3, r4⟩
    · rw [if_pos r1]
      refine go i (Or.inr ⟨i, rfl, by omega, ht, fun a ha hb => ?_⟩)
      by_cases e : a = i
      · subst e; exact Int.le_refl _
      · rw [r2 a (by omega)] at hb; cases hb
    · have mj := hm j (by omega)
      rw [if_neg (by omega), zgd_t i8, e_bc' mi.1 mi.2, zbd_s, r1, zgd_t ⟨by omega, by omega⟩, e_bc' mj.1 mj.2, zbd_s]
      by_cases d : zbsu (M 155 j).toNat 8 ≤ zbsu (M 155 i).toNat 8
      · rw [if_pos d]
        refine go j (Or.inr ⟨j, rfl, by omega, r3, fun a ha hb => ?_⟩)
        by_cases e : a = i
        · subst e; exact d
        · exact r4 a (by omega) hb
      · rw [if_neg d]
        refine go i (Or.inr ⟨i, rfl, by omega, ht, fun a ha hb => ?_⟩)
        by_cases e : a = i
        · subst e; exact Int.le_refl _
        · have := r4 a (by omega) hb
          omega
end GRM
