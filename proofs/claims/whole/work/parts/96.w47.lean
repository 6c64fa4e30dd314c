/-! PURE PART, 47: ground and groundOf, once the class has learnt -/
section GRW
variable {Pk : zMem}
variable {σ M : zMem} {k x b : Int}
theorem zldiv_n {a b : Int} (ha : z64 a) (hb : z64 b) (ha0 : 0 ≤ a) (hb0 : 0 < b) : zldiv a b = a / b := by
  unfold zldiv
  have e2 : (Int64.ofInt b).toInt = b := zwl_id hb
  have e1 : (Int64.ofInt a).toInt = a := zwl_id ha
  rw [Int64.toInt_div_of_ne_right _ _ (fun h => by
    have := congrArg Int64.toInt h
    rw [e2] at this
    have e3 : (-1 : Int64).toInt = -1 := by decide +kernel
    rw [e3] at this; omega), e1, e2, Int.tdiv_eq_ediv_of_nonneg ha0]
theorem zlrem_n {a b : Int} (ha : z64 a) (hb : z64 b) (ha0 : 0 ≤ a) (hb0 : 0 < b) : zlrem a b = a % b := by
  have d := zldiv_n ha hb ha0 hb0
  unfold zldiv at d
  unfold zlrem
  have e2 : (Int64.ofInt b).toInt = b := zwl_id hb
  have e1 : (Int64.ofInt a).toInt = a := zwl_id ha
  have m0 := Int.emod_nonneg a (show b ≠ 0 by omega)
  have m1 := Int.emod_lt_of_pos a hb0
  have m2 := Int.emod_add_mul_ediv a b
  have q0 : 0 ≤ a / b := Int.ediv_nonneg ha0 (by omega)
  have q1 : 0 ≤ b * (a / b) := Int.mul_nonneg (by omega) q0
  have hx := ha.2
  rw [Int64.toInt_sub, Int64.toInt_mul, d, e1, e2]
  have c : a / b * b = b * (a / b) := Int.mul_comm _ _
  rw [c]
  generalize b * (a / b) = w at m2 q1 ⊢
  simp only [Int.bmod_def]
  omega
theorem e_weightOf {n : Int} (h0 : 0 ≤ n) (h1 : n < 8) : fX1_weightOf n M = some (zwgt n) := by
  have st : ∀ (i : Nat) (v : Int), (i : Int) ≤ n → 0 ≤ v → v ≤ 5764801 → fX1_weightOf_l7 n v i M = some (.inl (v / 7, ((i + 1 : Nat) : Int))) := fun i v hi v0 v1 => by
    unfold fX1_weightOf_l7
    rw [if_neg (by omega), zgd_t (by decide), zldiv_n ⟨by omega, by omega⟩ ⟨by decide, by decide⟩ v0 (by decide), zw_i (by omega) (by omega)]
    rfl
  have ex : ∀ (i : Nat) (v : Int), n < i → fX1_weightOf_l7 n v i M = some (.inr (v, (i : Int))) := fun i v hi => by
    unfold fX1_weightOf_l7
    rw [if_pos hi]
  unfold fX1_weightOf
  have key : ∀ k : Nat, (k : Int) = n + 1 → zit (fun s1 : Int × Int => fX1_weightOf_l7 n (s1.1) (s1.2) M) (5764801, 0) = some (5764801 / 7 ^ k, (k : Int)) := fun k hk => by
    refine zit_for (f := fun s1 : Int × Int => fX1_weightOf_l7 n (s1.1) (s1.2) M) k (fun i => (5764801 / 7 ^ i, (i : Int))) (fun i hi => ?_) (ex k _ (by omega))
    have p0 : (0 : Int) < 7 ^ i := Int.pow_pos (by decide)
    have q0 : (0 : Int) ≤ 5764801 / 7 ^ i := Int.ediv_nonneg (by decide) (by omega)
    have q1 : (5764801 : Int) / 7 ^ i ≤ 5764801 := Int.ediv_le_self _ (by decide)
    show fX1_weightOf_l7 n (5764801 / 7 ^ i) i M = some (.inl (5764801 / 7 ^ (i + 1), ((i + 1 : Nat) : Int)))
    rw [st i _ (by omega) q0 q1, Int.pow_succ, Int.ediv_ediv_of_nonneg (by omega)]
  rw [key (n.toNat + 1) (by omega), zbd_s]
  have : n = 0 ∨ n = 1 ∨ n = 2 ∨ n = 3 ∨ n = 4 ∨ n = 5 ∨ n = 6 ∨ n = 7 := by omega
  rcases this with rfl | rfl | rfl | rfl | rfl | rfl | rfl | rfl <;> decide
/-- the class learns right -/
def zGL : Prop := ∀ σ M : zMem, St σ → zAx σ M → Cg σ M → zSat (fX1_learn M) (fun N => zFr 150 161 M N ∧ N 150 13 ≠ 0 ∧ Cg σ N)
theorem Cs.grd {N : zMem} (hC : Cs σ M) (f : zFr 150 161 M N) (hf : Cg σ N) : Cs σ N := by
  obtain ⟨h1, h2, h3, -, h5⟩ := hC
  refine ⟨h1.fr (fun c _ _ => f c (by omega)), ?_, ?_, hf, ?_⟩
  · unfold Cv at h2 ⊢; rw [f 110 (by omega), f 90 (by omega), f 116 (by omega), f 117 (by omega)]; exact h2
  · unfold Cf at h3 ⊢; rw [f 130 (by omega), f 135 (by omega)]; exact h3
  · unfold Co at h5 ⊢; rw [f 170 (by omega), f 176 (by omega), f 177 (by omega)]; exact h5
theorem e_leastGlass (hL : zGL) (h : St σ) (hA : zAg σ M) (hC : Cs σ M) : zSat (fX1_leastGlass M) (fun e => zAg σ e.2 ∧ Cs σ e.2 ∧ e.2 150 13 ≠ 0 ∧ e.1 = (if e.2 150 12 < 1000000000000000 then e.2 150 12 / 5764801 else -1)) := by
  unfold fX1_leastGlass
  rw [zS_bd]
  refine zs_m (hL σ M h hA.x hC.2.2.2.1) ?_
  rintro N ⟨f, k, g⟩
  have hN : zAg σ N := hA.fr (f.mono (by omega) (by omega))
  have hCN := hC.grd f g
  have b := (g k).1
  by_cases c : N 150 12 < 1000000000000000
  · rw [if_pos c, zgd_t (by decide), zldiv_n ⟨by omega, by omega⟩ ⟨by decide, by decide⟩ b.1 (by decide), zw_i (by omega) (by omega)]
    exact ⟨hN, hCN, k, by rw [if_pos c]⟩
  · rw [if_neg c]
    exact ⟨hN, hCN, k, by rw [if_neg c]⟩
theorem c_ground (hL : zGL) (hI : Inv Pk M) : zAlike Pk (fX11_ground M) (fX12_ground) := by
  obtain ⟨σ, hA, h, hC, hPk⟩ := hI
  unfold zAlike fX11_ground
  rw [zS_bd2]
  refine zs_m (e_leastGlass hL h hA hC) ?_
  rintro ⟨r, N⟩ ⟨hN, hCN, k, hr⟩
  dsimp only at hN hCN k hr
  have g := (hCN.2.2.2.1 k).2.2
  rw [← hr] at g
  show zSat (fX12_ground N) (fun e' => e'.1 = r ∧ Inv Pk e'.2)
  unfold fX12_ground
  rw [zS_bd2]
  refine zs_m (m_isGround h (zA0 hN)) ?_
  rintro ⟨r', W⟩ ⟨w1, w2, -, w3⟩
  dsimp only at w1 w2 w3 ⊢
  have iW : Inv Pk W := Inv.m hPk hCN h w1 (((zFm.refl N).up (by omega) (by omega)).trans w2)
  rcases w3 with ⟨q1, q2⟩ | ⟨q1, q2, q3⟩
  · rw [if_pos q1]
    exact ⟨(zGP_eq h q2 g).1, iW⟩
  · rw [if_neg (by omega)]
    exact ⟨(zGP_eq h q3 g).1, iW⟩
end GRW
