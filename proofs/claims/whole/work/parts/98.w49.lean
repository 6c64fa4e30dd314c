/-! PURE PART, 49: the class's neighbours of a grinding -/
section GRB
variable {σ M : zMem} {k x b : Int}
theorem e_bc {S : Nat} (hS : S < 256) : fJ6_bitCount_0f7a4 (S : Int) M = some (zbsu S 8) := by
  unfold fJ6_bitCount_0f7a4
  congr 1
  revert S
  decide +kernel
theorem zbsu_or {S N j : Nat} (hj : j < N) : zbsu (S ||| 2 ^ j) N ≤ zbsu S N + 1 := by
  cases ht : S.testBit j with
  | false => rw [zbsu_up hj ht]; omega
  | true =>
    have : zbsu (S ||| 2 ^ j) N = zbsu S N := zsum_eq fun q hq => by
      rw [show ((q : Int)).toNat = q by omega, Nat.testBit_or, Nat.testBit_two_pow]
      by_cases c : j = q
      · subst c; rw [ht]; rfl
      · rw [decide_eq_false c, Bool.or_false]
    omega
theorem zpr_A (h : St σ) (k0 : 0 ≤ k) (k1 : k < σ 40 7) : zprd σ (σ 49 k) ∧ zprd σ (σ 51 k) := by
  have e : ((k.toNat : Nat) : Int) = k := by omega
  refine ⟨zpr_m (m := k.toNat + 1) (by omega) ?_, zpr_m (m := k.toNat + 1) (by omega) ?_⟩
  · unfold zpr; rw [e, decide_eq_true rfl]; simp
  · unfold zpr; rw [e, decide_eq_true (rfl : σ 51 k = σ 51 k)]; simp
/-- nodes a, j are in one of the first y pairs -/
def zNb (σ : zMem) (y a j : Int) : Prop := ∃ k : Int, (0 ≤ k ∧ k < y) ∧ ((zgn σ (σ 49 k) = a ∧ zgn σ (σ 51 k) = j) ∨ (zgn σ (σ 51 k) = a ∧ zgn σ (σ 49 k) = j))
theorem zNb_s {y a j : Int} (h0 : 0 ≤ y) : zNb σ (y + 1) a j ↔ zNb σ y a j ∨ (zgn σ (σ 49 y) = a ∧ zgn σ (σ 51 y) = j) ∨ (zgn σ (σ 51 y) = a ∧ zgn σ (σ 49 y) = j) := by
  constructor
  · rintro ⟨k, ⟨k0, k1⟩, g⟩
    by_cases c : k = y
    · subst c; exact Or.inr g
    · exact Or.inl ⟨k, ⟨k0, by omega⟩, g⟩
  · rintro (⟨k, ⟨k0, k1⟩, g⟩ | g)
    · exact ⟨k, ⟨k0, by omega⟩, g⟩
    · exact ⟨y, ⟨h0, by omega⟩, g⟩
def zNg (σ V : zMem) (y : Int) : Prop := (∀ a : Nat, a < 8 → ∃ m : Nat, m < 256 ∧ V 155 a = m ∧ ∀ j : Nat, m.testBit j = true ↔ zNb σ y a j) ∧ zsum (fun a => zbsu (V 155 a).toNat 8) 8 ≤ 2 * y
theorem zor1 {S a : Nat} (hS : S < 256) (ha : a < 8) : zor (S : Int) (zshl 1 (a : Int)) = ((S ||| 2 ^ a : Nat) : Int) ∧ S ||| 2 ^ a < 256 := by
  have p : 2 ^ a < 2 ^ 8 := Nat.pow_lt_pow_right (by omega) ha
  have b := zor_b (N := 8) (S := S) (i := a) hS ha
  refine ⟨?_, b⟩
  rw [zshl_1 a (by omega), zor_n (by omega) (by omega)]
theorem e_listNeighbours (h : St σ) (hA : zAx σ M) (h8 : znpr σ ≤ 8) (hG : zGn σ M (σ 40 0)) : zSat (fX1_listNeighbours M) (fun V => (∀ c : Nat, c ≠ 150 → c ≠ 155 → V c = M c) ∧ (∀ q : Int, q ≠ 8 → q ≠ 10 → q ≠ 11 → V 150 q = M 150 q) ∧ (V 150 10 = 0 ∧ V 150 11 = 0 ∧ V 150 8 = 0) ∧ zNg σ V (σ 40 7)) := by
  have hbw := r_bw h
  have hpn := r_pn h
  unfold fX1_listNeighbours
  rw [show fJ7_fill_53178 155 8 0 (zup (zup (zup M 150 10 0) 150 11 0) 150 8 0) = some (zfil (zup (zup (zup M 150 10 0) 150 11 0) 150 8 0) 155 8 0) from e_fill (o := 155) (n := 8) (by decide), zbd_s, zS_bd]
  refine zs_m (P := fun e : Int × zMem => (∀ c : Nat, c ≠ 150 → c ≠ 155 → e.2 c = M c) ∧ (∀ q : Int, q ≠ 8 → q ≠ 10 → q ≠ 11 → e.2 150 q = M 150 q) ∧ (e.2 150 10 = 0 ∧ e.2 150 11 = 0 ∧ e.2 150 8 = 0) ∧ zNg σ e.2 (σ 40 7)) ?_ (fun e (he : (∀ c : Nat, c ≠ 150 → c ≠ 155 → e.2 c = M c) ∧ (∀ q : Int, q ≠ 8 → q ≠ 10 → q ≠ 11 → e.2 150 q = M 150 q) ∧ (e.2 150 10 = 0 ∧ e.2 150 11 = 0 ∧ e.2 150 8 = 0) ∧ zNg σ e.2 (σ 40 7)) => he)
  refine zit_i2 (fun y V => fX1_listNeighbours_l25 y V) (fun m y V => m = (σ 40 7 - y).toNat ∧ 0 ≤ y ∧ y ≤ σ 40 7 ∧ (∀ c : Nat, c ≠ 150 → c ≠ 155 → V c = M c) ∧ (∀ q : Int, q ≠ 8 → q ≠ 10 → q ≠ 11 → V 150 q = M 150 q) ∧ (V 150 10 = 0 ∧ V 150 11 = 0 ∧ V 150 8 = 0) ∧ zNg σ V y) ?_ _ ⟨rfl, by omega, by omega, fun c a b => ?_, fun q a b d => ?_, ⟨?_, ?_, ?_⟩, fun a ha => ⟨0, by omega, ?_, fun j => ?_⟩, ?_⟩
  · rintro m y V ⟨hm, y0, y1, f1, f2, f3, n1, n2⟩
    have hAV : zAx σ V := fun c q hc hs => by
      by_cases c1 : c = 150 ∨ c = 155
      · rcases c1 with rfl | rfl <;> cases hs
      · rw [f1 c (fun e => c1 (Or.inl e)) (fun e => c1 (Or.inr e))]; exact hA c q hc hs
    show zSat (fX1_listNeighbours_l25 y V) _
    unfold fX1_listNeighbours_l25
    rw [hAV.fl 40 rfl (by decide), hAV.fl 49 rfl (by decide), hAV.fl 51 rfl (by decide), f1 153 (by decide) (by decide)]
    by_cases c : σ 40 7 ≤ y
    · rw [if_pos c]
      have : y = σ 40 7 := by omega
      subst this
      exact ⟨f1, f2, f3, n1, n2⟩
    have pa := r_pA h y0 (by omega)
    have pb := r_pB h y0 (by omega)
    have pp := zpr_A h y0 (show y < σ 40 7 by omega)
    have ga : M 153 (σ 49 y) = zgn σ (σ 49 y) := by rw [hG.2.2 _ pa.1 (by omega), if_pos ⟨pa.2, pp.1⟩]
    have gb : M 153 (σ 51 y) = zgn σ (σ 51 y) := by rw [hG.2.2 _ pb.1 (by omega), if_pos ⟨pb.2.1, pp.2⟩]
    have la := zgn_l pa.1 pp.1 pa.2
    have lb := zgn_l pb.1 pp.2 pb.2.1
    have a0 := zgn_0 (σ := σ) (a := σ 49 y)
    have b0 := zgn_0 (σ := σ) (a := σ 51 y)
    rw [zgn_N] at la lb
    have ne : zgn σ (σ 49 y) ≠ zgn σ (σ 51 y) := fun e => pb.2.2 (zgn_inj pa.1 pb.1 pp.1 pp.2 e).symm
    obtain ⟨A, hAe⟩ : ∃ A : Nat, zgn σ (σ 49 y) = A := ⟨(zgn σ (σ 49 y)).toNat, by omega⟩
    obtain ⟨B, hBe⟩ : ∃ B : Nat, zgn σ (σ 51 y) = B := ⟨(zgn σ (σ 51 y)).toNat, by omega⟩
    have nb : ∀ a j : Int, zNb σ (y + 1) a j ↔ zNb σ y a j ∨ ((A : Int) = a ∧ (B : Int) = j) ∨ ((B : Int) = a ∧ (A : Int) = j) := fun a j => by
      rw [zNb_s y0, hAe, hBe]
    rw [hAe] at ga la ne
    rw [hBe] at gb lb ne
    obtain ⟨mA, qA, eA, bA⟩ := n1 A (by omega)
    obtain ⟨mB, qB, eB, bB⟩ := n1 B (by omega)
    have oA := zor1 (S := mA) (a := B) qA (by omega)
    have oB := zor1 (S := mB) (a := A) qB (by omega)
    rw [if_neg c, ga, gb, zgd_t ⟨by omega, by omega⟩, zgd_t ⟨by omega, by omega⟩, zgd_t ⟨by omega, by omega⟩, zgd_t ⟨by omega, by omega⟩, zgd_t ⟨by omega, by omega⟩, zgd_t ⟨by omega, by omega⟩, zgd_t ⟨by omega, by omega⟩, zgd_t ⟨by omega, by omega⟩, zw_i (x := y + 1) (by omega) (by omega), zup_nk (show (B : Int) ≠ A by omega), eA, eB, oA.1, oB.1]
    generalize hW : zup (zup V 155 A ((mA ||| 2 ^ B : Nat) : Int)) 155 B ((mB ||| 2 ^ A : Nat) : Int) = W
    have wc : ∀ c : Nat, c ≠ 155 → W c = V c := fun c hc => by funext q; rw [← hW, zup_ne hc, zup_ne hc]
    have wB : W 155 B = ((mB ||| 2 ^ A : Nat) : Int) := by rw [← hW, zup_eq]
    have wA : W 155 A = ((mA ||| 2 ^ B : Nat) : Int) := by rw [← hW, zup_nk (by omega), zup_eq]
    have wo : ∀ q : Int, q ≠ A → q ≠ B → W 155 q = V 155 q := fun q q1 q2 => by rw [← hW, zup_nk q2, zup_nk q1]
    refine ⟨(σ 40 7 - (y + 1)).toNat, by omega, rfl, by show 0 ≤ y + 1; omega, by show y + 1 ≤ _; omega, fun c a b => by show W c = M c; rw [wc c b, f1 c a b], fun q a b d => by show W 150 q = _; rw [wc 150 (by decide), f2 q a b d], by show W 150 10 = 0 ∧ W 150 11 = 0 ∧ W 150 8 = 0; rw [wc 150 (by decide)]; exact f3, fun a ha => ?_, ?_⟩
    · show ∃ m : Nat, m < 256 ∧ W 155 a = m ∧ ∀ j : Nat, m.testBit j = true ↔ zNb σ (y + 1) a j
      by_cases cA : a = A
      · subst cA
        refine ⟨mA ||| 2 ^ B, oA.2, wA, fun j => ?_⟩
        rw [nb, Nat.testBit_or, Nat.testBit_two_pow, Bool.or_eq_true, bA j, decide_eq_true_eq]
        constructor
        · rintro (q | q)
          · exact Or.inl q
          · exact Or.inr (Or.inl ⟨rfl, by omega⟩)
        · rintro (q | q | q)
          · exact Or.inl q
          · exact Or.inr (by have := q.2; omega)
          · exact absurd q.1 (by omega)
      · by_cases cB : a = B
        · subst cB
          refine ⟨mB ||| 2 ^ A, oB.2, wB, fun j => ?_⟩
          rw [nb, Nat.testBit_or, Nat.testBit_two_pow, Bool.or_eq_true, bB j, decide_eq_true_eq]
          constructor
          · rintro (q | q)
            · exact Or.inl q
            · exact Or.inr (Or.inr ⟨rfl, by omega⟩)
          · rintro (q | q | q)
            · exact Or.inl q
            · exact absurd q.1 (by omega)
            · exact Or.inr (by have := q.2; omega)
        · obtain ⟨mm, q1, q2, q3⟩ := n1 a ha
          refine ⟨mm, q1, by rw [wo a (by omega) (by omega), q2], fun j => ?_⟩
          rw [nb, q3 j]
          constructor
          · exact Or.inl
          · rintro (q | q | q)
            · exact q
            · exact absurd q.1 (by omega)
            · exact absurd q.1 (by omega)
    · show zsum (fun a => zbsu (W 155 a).toNat 8) 8 ≤ 2 * (y + 1)
      have u1 := zsum_up (f := fun a => zbsu (V 155 a).toNat 8) (b := (A : Int)) (v := zbsu (mA ||| 2 ^ B) 8) (n := 8) (by omega) (by omega)
      have u2 := zsum_up (f := fun k => if k = (A : Int) then zbsu (mA ||| 2 ^ B) 8 else zbsu (V 155 k).toNat 8) (b := (B : Int)) (v := zbsu (mB ||| 2 ^ A) 8) (n := 8) (by omega) (by omega)
      have e : zsum (fun a => zbsu (W 155 a).toNat 8) 8 = zsum (fun k => if k = (B : Int) then zbsu (mB ||| 2 ^ A) 8 else if k = (A : Int) then zbsu (mA ||| 2 ^ B) 8 else zbsu (V 155 k).toNat 8) 8 := zsum_eq fun q hq => by
        by_cases c1 : (q : Int) = B
        · rw [if_pos c1, c1, wB]; rfl
        · rw [if_neg c1]
          by_cases c2 : (q : Int) = A
          · rw [if_pos c2, c2, wA]; rfl
          · rw [if_neg c2, wo q c2 c1]
      have v1 : zbsu (V 155 A).toNat 8 = zbsu mA 8 := by rw [eA]; rfl
      have v2 : zbsu (V 155 B).toNat 8 = zbsu mB 8 := by rw [eB]; rfl
      have w1 := zbsu_or (S := mA) (N := 8) (j := B) (by omega)
      have w2 := zbsu_or (S := mB) (N := 8) (j := A) (by omega)
      rw [if_neg (show ¬ (B : Int) = A by omega)] at u2
      rw [e, u2, u1, v1, v2]
      omega
  · funext q; rw [zfil_n b, zup_ne a, zup_ne a, zup_ne a]
  · rw [zfil_n (by decide), zup_nk a, zup_nk d, zup_nk b]
  · rw [zfil_n (by decide), zup_nk (by decide), zup_nk (by decide), zup_eq]
  · rw [zfil_n (by decide), zup_nk (by decide), zup_eq]
  · rw [zfil_n (by decide), zup_eq]
  · rw [zfil_e (by omega) (by omega)]; rfl
  · rw [Nat.zero_testBit]
    constructor
    · intro q; cases q
    · rintro ⟨k, ⟨k0, k1⟩, -⟩; omega
  · have : zsum (fun a => zbsu (zfil (zup (zup (zup M 150 10 0) 150 11 0) 150 8 0) 155 8 0 155 a).toNat 8) 8 ≤ 0 * ((8 : Nat) : Int) := zsum_le fun q hq => by
      rw [zfil_e (by omega) (by omega)]; decide
    omega
end GRB
