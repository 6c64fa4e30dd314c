/-! PURE PART, 51: a way spread over its scope -/
section GRS
variable {σ M : zMem} {k x b : Int}
/-- how many of the last d nodes of n are in S -/
def zsc (S n : Nat) : Nat → Nat
  | 0 => 0
  | d + 1 => if S.testBit (n - 1 - d) then zsc S n d + 1 else zsc S n d
theorem zsc_le {S n : Nat} : ∀ d : Nat, zsc S n d ≤ d
  | 0 => Nat.le_refl _
  | d + 1 => by
    have := zsc_le (S := S) (n := n) d
    unfold zsc
    split <;> omega
theorem e_spread {n S : Nat} {w : Int} (hn : M 150 3 = n) (h8 : n ≤ 8) (hS : S < 256) (w0 : 0 ≤ w) (w1 : w < 7 ^ zsc S n n) : zSat (fX1_spread (S : Int) w M) (fun V => (∀ c : Nat, c ≠ 160 → V c = M c) ∧ (∀ q : Int, (∀ j : Nat, q = j → j < n → S.testBit j = false) → V 160 q = M 160 q) ∧ (∀ j : Nat, j < n → S.testBit j = true → 0 ≤ V 160 j ∧ V 160 j ≤ 6) ∧ zsf (V 160) S n n = w) := by
  unfold fX1_spread
  rw [zS_bd]
  refine zs_m (P := fun e : Int × Int × zMem => (∀ c : Nat, c ≠ 160 → e.2.2 c = M c) ∧ (∀ q : Int, (∀ j : Nat, q = j → j < n → S.testBit j = false) → e.2.2 160 q = M 160 q) ∧ (∀ j : Nat, j < n → S.testBit j = true → 0 ≤ e.2.2 160 j ∧ e.2.2 160 j ≤ 6) ∧ zsf (e.2.2 160) S n n = w) ?_ (fun e (he : (∀ c : Nat, c ≠ 160 → e.2.2 c = M c) ∧ (∀ q : Int, (∀ j : Nat, q = j → j < n → S.testBit j = false) → e.2.2 160 q = M 160 q) ∧ (∀ j : Nat, j < n → S.testBit j = true → 0 ≤ e.2.2 160 j ∧ e.2.2 160 j ≤ 6) ∧ zsf (e.2.2 160) S n n = w) => he)
  refine zit_i3 (fun a b c => fX1_spread_l5 (S : Int) a b c) (fun m a b V => ∃ i : Nat, b = i ∧ m = n - i ∧ i ≤ n ∧ (0 ≤ a ∧ a < 7 ^ zsc S n (n - i)) ∧ (∀ c : Nat, c ≠ 160 → V c = M c) ∧ (∀ q : Int, (∀ j : Nat, q = j → j < n → S.testBit j = false) → V 160 q = M 160 q) ∧ (∀ j : Nat, j < i → S.testBit j = true → 0 ≤ V 160 j ∧ V 160 j ≤ 6) ∧ ∀ t : Int → Int, (∀ j : Nat, j < i → t j = V 160 j) → zsf t S n (n - i) = a → zsf t S n n = w) ?_ _ ⟨0, rfl, rfl, by omega, ⟨w0, w1⟩, fun _ _ => rfl, fun _ _ => rfl, fun j hj => by omega, fun t _ ht => ht⟩
  rintro m a b V ⟨i, rfl, hm, hi, ⟨a0, a1⟩, f1, f2, f3, f4⟩
  show zSat (fX1_spread_l5 (S : Int) a i V) _
  unfold fX1_spread_l5
  rw [f1 150 (by decide), hn]
  by_cases c : (n : Int) ≤ i
  · rw [if_pos c]
    have : i = n := by omega
    subst this
    refine ⟨f1, f2, f3, f4 _ (fun _ _ => rfl) ?_⟩
    rw [show i - i = 0 by omega] at a1 ⊢
    show (0 : Int) = a
    have a1 : a < 1 := a1
    omega
  · have p1 : (7 : Int) ^ zsc S n (n - i) ≤ 7 ^ 8 := by
      have := zsc_le (S := S) (n := n) (n - i)
      have := Nat.pow_le_pow_right (n := 7) (by decide) (show zsc S n (n - i) ≤ 8 by omega)
      exact_mod_cast this
    have e8 : (7 : Int) ^ 8 = 5764801 := by decide
    have ed : n - i = (n - (i + 1)) + 1 := by omega
    have eb : n - 1 - (n - (i + 1)) = i := by omega
    rw [if_neg c, zbit_n (by omega) (by omega), zw_i (x := (i : Int) + 1) (by omega) (by omega)]
    have us : ∀ t : Int → Int, zsf t S n (n - i) = if S.testBit i then zsf t S n (n - (i + 1)) * 7 + t i else zsf t S n (n - (i + 1)) := fun t => by
      rw [ed]
      show (if S.testBit (n - 1 - (n - (i + 1))) then zsf t S n (n - (i + 1)) * 7 + t ((n - 1 - (n - (i + 1)) : Nat) : Int) else _) = _
      rw [eb]
    have uc : zsc S n (n - i) = if S.testBit i then zsc S n (n - (i + 1)) + 1 else zsc S n (n - (i + 1)) := by
      rw [ed]
      show (if S.testBit (n - 1 - (n - (i + 1))) then _ else _) = _
      rw [eb]
    cases ht : S.testBit i with
    | false =>
      rw [ht, if_neg (by decide)] at uc
      rw [if_pos (show (if false = true then (1 : Int) else 0) = 0 by decide)]
      refine ⟨n - (i + 1), by omega, i + 1, by show (i : Int) + 1 = _; omega, rfl, by omega, ⟨a0, by rw [← uc]; exact a1⟩, f1, f2, fun j hj hb => ?_, fun t g1 g2 => f4 t (fun j hj => g1 j (by omega)) ?_⟩
      · by_cases e : j = i
        · subst e; rw [ht] at hb; cases hb
        · exact f3 j (by omega) hb
      · rw [us t, ht, if_neg (by decide)]; exact g2
    | true =>
      rw [ht, if_pos rfl] at uc
      rw [if_neg (show ¬ (if true = true then (1 : Int) else 0) = 0 by decide), zgd_t (by decide), zgd_t ⟨by omega, by omega⟩, zgd_t (by decide), zdiv_n ⟨by omega, by omega⟩ ⟨by decide, by decide⟩ a0 (by decide), zrem_n ⟨by omega, by omega⟩ ⟨by decide, by decide⟩ a0 (by decide)]
      rw [uc, Int.pow_succ] at a1
      refine ⟨n - (i + 1), by omega, i + 1, by show (i : Int) + 1 = _; omega, rfl, by omega, ⟨by show 0 ≤ a / 7; omega, by show a / 7 < _; omega⟩, fun c hc => by show zup V 160 i (a % 7) c = M c; funext q; rw [zup_ne hc, f1 c hc], fun q hq => ?_, fun j hj hb => ?_, fun t g1 g2 => f4 t (fun j hj => ?_) ?_⟩
      · show zup V 160 i (a % 7) 160 q = _
        rw [zup_nk (fun e => by have := hq i e (by omega); rw [ht] at this; cases this)]
        exact f2 q hq
      · show 0 ≤ zup V 160 i (a % 7) 160 j ∧ zup V 160 i (a % 7) 160 j ≤ 6
        by_cases e : j = i
        · subst e; rw [zup_eq]; omega
        · rw [zup_nk (by omega)]; exact f3 j (by omega) hb
      · have g : t j = zup V 160 i (a % 7) 160 j := g1 j (by omega)
        rw [g, zup_nk (by omega)]
      · have g : t i = zup V 160 i (a % 7) 160 i := g1 i (by omega)
        rw [zup_eq] at g
        have g2 : zsf t S n (n - (i + 1)) = a / 7 := g2
        rw [us t, ht, if_pos rfl, g, g2]
        omega
end GRS
