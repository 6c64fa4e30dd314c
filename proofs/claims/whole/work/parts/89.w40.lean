/-! PURE PART, 40: the class's table of an order, filled and followed -/
section ORU
variable {σ M : zMem} {k x : Int}
def zTy (σ : zMem) (N : Nat) (T : Int → Int) (y : Nat) : Prop := T ((2 ^ N - 1 : Nat) : Int) = 0 ∧ (∀ S : Nat, y ≤ S → S < 2 ^ N - 1 → ∃ j : Nat, zNx N T S j ∧ T S = zpa σ S + T ((S ||| 2 ^ j : Nat) : Int)) ∧ ∀ S : Nat, y ≤ S → S ≤ 2 ^ N - 1 → 0 ≤ T S ∧ T S ≤ 24 * ((2 ^ N - 1 - S : Nat) : Int)
theorem zuns {N S : Nat} (hS : S < 2 ^ N - 1) : ∃ i : Nat, i < N ∧ S.testBit i = false := by
  by_cases c : ∃ i : Nat, i < N ∧ S.testBit i = false
  · exact c
  · exfalso
    have : S = 2 ^ N - 1 := Nat.eq_of_testBit_eq fun i => by
      rw [Nat.testBit_two_pow_sub_one]
      by_cases d : i < N
      · rw [decide_eq_true d]
        cases ht : S.testBit i with
        | true => rfl
        | false => exact absurd ⟨i, d, ht⟩ c
      · rw [decide_eq_false d]
        exact Nat.testBit_lt_two_pow (Nat.lt_of_lt_of_le (by omega : S < 2 ^ N) (Nat.pow_le_pow_right (by omega) (by omega)))
    omega
theorem zNd.f {V : zMem} {y : Int} (h : zNd σ M y) (h1 : V 170 = M 170) (h2 : V 173 = M 173) (h3 : V 174 = M 174) : zNd σ V y := by
  unfold zNd at h ⊢; rw [h1, h2, h3]; exact h
theorem e_ofill (h : St σ) (h8 : σ 40 1 ≤ 8) (hA : zAx σ M) (hN : zNd σ M (σ 40 0)) {N : Nat} (hn : (N : Int) = σ 40 1) (h0 : M 176 ((2 ^ N - 1 : Nat) : Int) = 0) : zSat (zit (fun s17 : Int × zMem => fX4_learn_l50 (s17.1) (s17.2)) (((2 ^ N - 1 : Nat) : Int) - 1, M)) (fun e => (∀ c : Nat, c ≠ 176 → e.2 c = M c) ∧ zTy σ N (e.2 176) 0) := by
  have p8 := zp256 (N := N) (by omega)
  have p1 : 0 < 2 ^ N := Nat.two_pow_pos N
  refine zit_i2 (fun y W => fX4_learn_l50 y W) (fun m y W => ∃ i : Nat, y = (i : Int) - 1 ∧ m = i ∧ i ≤ 2 ^ N - 1 ∧ (∀ c : Nat, c ≠ 176 → W c = M c) ∧ zTy σ N (W 176) i) ?_ _ ⟨2 ^ N - 1, rfl, rfl, by omega, fun _ _ => rfl, h0, fun S a b => by omega, fun S a b => ?_⟩
  · rintro m y W ⟨i, rfl, hm, hi, g1, g2⟩
    show zSat (fX4_learn_l50 ((i : Int) - 1) W) _
    unfold fX4_learn_l50
    by_cases ci : (i : Int) - 1 < 0
    · rw [if_pos ci]
      have : i = 0 := by omega
      subst this
      exact ⟨g1, g2⟩
    · obtain ⟨S, rfl⟩ : ∃ S, i = S + 1 := ⟨i - 1, by omega⟩
      have hAW : zAx σ W := fun c q hc hs => by
        by_cases e : c = 176
        · subst e; cases hs
        · rw [g1 c e]; exact hA c q hc hs
      have hNW : zNd σ W (σ 40 0) := hN.f (g1 170 (by decide)) (g1 173 (by decide)) (g1 174 (by decide))
      have hS1 : S < 2 ^ N - 1 := by omega
      have up : ∀ q : Nat, q < N → S.testBit q = false → S + 1 ≤ S ||| 2 ^ q ∧ S ||| 2 ^ q ≤ 2 ^ N - 1 := fun q q1 q2 => by
        have := zor_up q2
        have := zor_b (N := N) (S := S) (by omega) q1
        omega
      obtain ⟨t1, t2, t3⟩ := g2
      rw [if_neg ci, show ((S + 1 : Nat) : Int) - 1 = S by omega, e_passes h h8 hAW hNW (by omega), zbd_s, zS_bd]
      refine zs_m (e_nextOf (N := N) (by omega) (by rw [hNW.1, zct_N h, hn]) (by omega) (zuns hS1) (fun q q1 q2 => by have u := up q q1 q2; have := t3 _ u.1 u.2; omega)) ?_
      rintro r ⟨j, rfl, hx⟩
      have uj := up j hx.1 hx.2.1
      have bj := t3 _ uj.1 uj.2
      have pb := zpa_b h S
      have p2 : 2 ^ j < 2 ^ N := Nat.pow_lt_pow_right (by omega) hx.1
      rw [zshl_1 j (by have := hx.1; omega), zor_n (by omega) (by omega), zgd_t ⟨by omega, by omega⟩, zgd_t ⟨by omega, by omega⟩, zw_i (x := (S : Int) + -1) (by omega) (by omega), zw_i (x := zpa σ S + W 176 ((S ||| 2 ^ j : Nat) : Int)) (by omega) (by omega)]
      generalize hv : zpa σ S + W 176 ((S ||| 2 ^ j : Nat) : Int) = v
      have ev : ∀ q : Nat, S < q → zup W 176 S v 176 q = W 176 q := fun q hq => zup_nk (by omega)
      refine ⟨S, by omega, S, by show (S : Int) + -1 = _; omega, rfl, by omega, fun c hc => by show zup W 176 S v c = M c; funext q; rw [zup_ne hc, g1 c hc], ?_, fun S' a b => ?_, fun S' a b => ?_⟩
      · show zup W 176 S v 176 _ = 0
        rw [ev _ hS1]; exact t1
      · show ∃ j, zNx N (zup W 176 S v 176) S' j ∧ zup W 176 S v 176 S' = zpa σ S' + zup W 176 S v 176 ((S' ||| 2 ^ j : Nat) : Int)
        by_cases e : S' = S
        · subst e
          refine ⟨j, zNx_c hx (Nat.le_refl _) ev, ?_⟩
          rw [zup_eq, ev _ (by omega), hv]
        · obtain ⟨j', k1, k2⟩ := t2 S' (by omega) b
          refine ⟨j', zNx_c k1 a ev, ?_⟩
          rw [ev _ (by omega), ev _ (by have := zor_up k1.2.1; omega)]; exact k2
      · show 0 ≤ zup W 176 S v 176 S' ∧ zup W 176 S v 176 S' ≤ _
        by_cases e : S' = S
        · subst e
          rw [zup_eq, ← hv]; omega
        · rw [ev _ (by omega)]; exact t3 S' (by omega) b
  · have : S = 2 ^ N - 1 := by omega
    subst this
    rw [h0]; omega
/-- the nodes of the first p of an order -/
def zpm (σ : zMem) (g : Int → Int) : Nat → Nat
  | 0 => 0
  | p + 1 => zpm σ g p ||| 2 ^ (zct σ (g p)).toNat
theorem zpm_p {g g' : Int → Int} : ∀ {p : Nat}, (∀ q : Nat, q < p → g q = g' q) → zpm σ g p = zpm σ g' p
  | 0, _ => rfl
  | p + 1, h => by unfold zpm; rw [zpm_p (p := p) (fun q hq => h q (by omega)), h p (by omega)]
def zbsu (S N : Nat) : Int := zsum (fun i => if S.testBit i.toNat then 1 else 0) N
theorem zbsu_up {S N j : Nat} (hj : j < N) (h : S.testBit j = false) : zbsu (S ||| 2 ^ j) N = zbsu S N + 1 := by
  have e := zsum_up (f := fun i : Int => if S.testBit i.toNat then (1 : Int) else 0) (b := (j : Int)) (v := 1) (n := N) (by omega) (by omega)
  have e0 : (if S.testBit ((j : Int)).toNat then (1 : Int) else 0) = 0 := by rw [show ((j : Int)).toNat = j by omega, h]; rfl
  have e1 : zbsu (S ||| 2 ^ j) N = zsum (fun k : Int => if k = j then 1 else if S.testBit k.toNat then (1 : Int) else 0) N := zsum_eq fun q hq => by
    rw [show ((q : Int)).toNat = q by omega, Nat.testBit_or, Nat.testBit_two_pow]
    by_cases c : (q : Int) = j
    · rw [if_pos c, decide_eq_true (by omega)]; simp
    · rw [if_neg c, decide_eq_false (by omega)]; simp
  rw [e1, e, e0]
  show zbsu S N + (1 - 0) = _
  omega
theorem zbsu_u {S N : Nat} (h : zbsu S N < N) : ∃ i : Nat, i < N ∧ S.testBit i = false := by
  by_cases c : ∃ i : Nat, i < N ∧ S.testBit i = false
  · exact c
  · exfalso
    have : 1 * (N : Int) ≤ zbsu S N := zsum_ge fun q hq => by
      cases ht : S.testBit ((q : Int)).toNat with
      | true => rw [if_pos rfl]; omega
      | false => exact absurd ⟨q, hq, ht⟩ c
    omega
def zFl (σ : zMem) (N : Nat) (T f : Int → Int) (p : Nat) : Prop := zpm σ f p < 2 ^ N ∧ zbsu (zpm σ f p) N = p ∧ ∀ q : Nat, q < p → zpd σ (f q) ∧ zNx N T (zpm σ f q) (zct σ (f q)).toNat
theorem e_follow (h : St σ) (h8 : σ 40 1 ≤ 8) (hN : zNd σ M (σ 40 0)) {N : Nat} (hn : (N : Int) = σ 40 1) (hT : zTy σ N (M 176) 0) : zSat (fX4_follow M) (fun V => (∀ c : Nat, c ≠ 177 → V c = M c) ∧ zFl σ N (M 176) (V 177) N) := by
  have p8 := zp256 (N := N) (by omega)
  have p1 : 0 < 2 ^ N := Nat.two_pow_pos N
  unfold fX4_follow
  rw [zS_bd]
  refine zs_m (P := fun e : Int × Int × zMem => (∀ c : Nat, c ≠ 177 → e.2.2 c = M c) ∧ zFl σ N (M 176) (e.2.2 177) N) ?_ (fun e (he : (∀ c : Nat, c ≠ 177 → e.2.2 c = M c) ∧ zFl σ N (M 176) (e.2.2 177) N) => he)
  refine zit_i3 (fun a b c => fX4_follow_l4 a b c) (fun m a b V => ∃ p : Nat, b = p ∧ m = N - p ∧ p ≤ N ∧ (∀ c : Nat, c ≠ 177 → V c = M c) ∧ a = (zpm σ (V 177) p : Nat) ∧ zFl σ N (M 176) (V 177) p) ?_ _ ⟨0, rfl, rfl, by omega, fun _ _ => rfl, rfl, p1, ?_, fun q hq => by omega⟩
  · rintro m a b V ⟨p, rfl, hm, hp, g1, rfl, g2, g3, g4⟩
    show zSat (fX4_follow_l4 (zpm σ (V 177) p : Nat) p V) _
    unfold fX4_follow_l4
    have n4 : V 170 4 = N := by rw [g1 170 (by decide), hN.1, zct_N h, hn]
    rw [n4]
    by_cases cp : (N : Int) ≤ p
    · rw [if_pos cp]
      have : p = N := by omega
      subst this
      exact ⟨g1, g2, g3, g4⟩
    · rw [if_neg cp, zS_bd]
      refine zs_m (e_nextOf (N := N) (S := zpm σ (V 177) p) (by omega) n4 g2 (zbsu_u (by omega)) (fun q q1 q2 => by
        have := zor_b g2 q1
        rw [g1 176 (by decide)]
        have := hT.2.2 (zpm σ (V 177) p ||| 2 ^ q) (by omega) (by omega)
        omega)) ?_
      rintro r ⟨j, rfl, hx⟩
      have hj := hx.1
      have p2 : 2 ^ j < 2 ^ N := Nat.pow_lt_pow_right (by omega) hj
      rw [zgd_t ⟨by omega, by omega⟩, zgd_t ⟨by omega, by omega⟩, zshl_1 j (by omega), zor_n (by omega) (by omega), zw_i (x := (p : Int) + 1) (by omega) (by omega)]
      have nd := hN.2.1 j (by omega) (by rw [zct_N h]; omega)
      have e173 : V 173 j = M 173 j := by rw [g1 173 (by decide)]
      rw [g1 176 (by decide)] at hx
      have ep : zpm σ (zup V 177 p (V 173 j) 177) p = zpm σ (V 177) p := zpm_p fun q hq => zup_nk (by omega)
      have ec : (zct σ (zup V 177 p (V 173 j) 177 p)).toNat = j := by rw [zup_eq, e173, nd.2.2]; omega
      have es : zpm σ (zup V 177 p (V 173 j) 177) (p + 1) = zpm σ (V 177) p ||| 2 ^ j := by
        show zpm σ (zup V 177 p (V 173 j) 177) p ||| 2 ^ (zct σ (zup V 177 p (V 173 j) 177 p)).toNat = _
        rw [ep, ec]
      refine ⟨N - (p + 1), by omega, p + 1, by show (p : Int) + 1 = _; omega, rfl, by omega, fun c hc => by show zup V 177 p (V 173 j) c = M c; funext q; rw [zup_ne hc, g1 c hc], ?_, ?_, ?_, fun q hq => ?_⟩
      · show ((zpm σ (V 177) p ||| 2 ^ j : Nat) : Int) = (zpm σ (zup V 177 p (V 173 j) 177) (p + 1) : Nat)
        rw [es]
      · show zpm σ (zup V 177 p (V 173 j) 177) (p + 1) < _
        rw [es]; exact zor_b g2 hj
      · show zbsu (zpm σ (zup V 177 p (V 173 j) 177) (p + 1)) N = _
        rw [es, zbsu_up hj hx.2.1, g3]; omega
      · show zpd σ (zup V 177 p (V 173 j) 177 q) ∧ zNx N (M 176) (zpm σ (zup V 177 p (V 173 j) 177) q) (zct σ (zup V 177 p (V 173 j) 177 q)).toNat
        by_cases e : q = p
        · subst e
          rw [ec, ep, zup_eq, e173]
          exact ⟨nd.1, hx⟩
        · have := g4 q (by omega)
          rw [zpm_p (σ := σ) (p := q) (g := zup V 177 p (V 173 j) 177) (g' := V 177) (fun r hr => zup_nk (by omega)), zup_nk (show (q : Int) ≠ p by omega)]
          exact this
  · show zbsu 0 N = 0
    have e1 : zbsu 0 N ≤ 0 * (N : Int) := zsum_le fun q _ => by simp
    have e2 : 0 ≤ zbsu 0 N := zsum_0 fun q _ => by simp
    omega
end ORU
