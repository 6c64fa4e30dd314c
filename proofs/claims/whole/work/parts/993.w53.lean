/-! PURE PART, 53: what fits at a node, asked -/
section GRQ
variable {σ M : zMem} {k x b : Int}
/-- node i keeps its tone, and its pairs with nodes that are not gone -/
def zfk (σ M : zMem) (g : Nat) (i : Int) (y : Int) : Prop := ∀ k : Int, 0 ≤ k → k < y → (zgn σ (σ 49 k) = i ∨ zgn σ (σ 51 k) = i) → g.testBit (zgn σ (σ 49 k)).toNat = false → g.testBit (zgn σ (σ 51 k)).toNat = false → zspd σ k (zto σ M (zgn σ (σ 49 k))) (zto σ M (zgn σ (σ 51 k))) ≤ σ 53 k
def zfit (σ M : zMem) (g : Nat) (i : Int) : Prop := (1 ≤ zto σ M i ∧ zto σ M i ≤ 9999) ∧ zfk σ M g i (σ 40 7)
theorem zfk_s {g : Nat} {i y : Int} (h0 : 0 ≤ y) (h : zfk σ M g i y) (n : (zgn σ (σ 49 y) = i ∨ zgn σ (σ 51 y) = i) → g.testBit (zgn σ (σ 49 y)).toNat = false → g.testBit (zgn σ (σ 51 y)).toNat = false → zspd σ y (zto σ M (zgn σ (σ 49 y))) (zto σ M (zgn σ (σ 51 y))) ≤ σ 53 y) : zfk σ M g i (y + 1) := fun k k0 k1 => by
  by_cases e : k = y
  · subst e; exact n
  · exact h k k0 (by omega)
theorem e_fits (h : St σ) (hA : zAx σ M) (h8 : znpr σ ≤ 8) (hG : zGn σ M (σ 40 0)) {i : Int} (i0 : 0 ≤ i) (i1 : i < znpr σ) (hi : 0 ≤ M 160 i ∧ M 160 i ≤ 6) {g : Nat} (hg : M 150 10 = g) (g8 : g < 256) (hs : ∀ j : Nat, zNb σ (σ 40 7) i j → g.testBit j = false → 0 ≤ M 160 j ∧ M 160 j ≤ 6) : zSat (fX1_fits i M) (fun r => (r = 1 ∧ zfit σ M g i) ∨ (r = 0 ∧ ¬ zfit σ M g i)) := by
  have hbw := r_bw h
  have hpn := r_pn h
  have ti := e_toneOf h hA h8 hG i0 i1 hi
  unfold fX1_fits
  rw [ti.1, zbd_s, zbd_s]
  by_cases c1 : zto σ M i < 1
  · rw [if_pos c1]
    exact Or.inr ⟨rfl, fun q => by have := q.1.1; omega⟩
  rw [if_neg c1]
  by_cases c2 : zto σ M i ≤ 9999
  · rw [if_pos c2, zS_bd]
    refine zs_m (P := fun e : Int ⊕ Int => zel e (fun _ => zfk σ M g i (σ 40 7)) (fun r => r = 0 ∧ ¬ zfk σ M g i (σ 40 7))) ?_ ?_
    · refine zit_inv (fun (m : Nat) (y : Int) => m = (σ 40 7 - y).toNat ∧ 0 ≤ y ∧ y ≤ σ 40 7 ∧ zfk σ M g i y) ?_ _ _ ⟨rfl, by omega, by omega, fun k k0 k1 => by omega⟩
      rintro m y ⟨hm, y0, y1, f⟩
      show zSat (fX1_fits_l24 i y M) _
      unfold fX1_fits_l24 fX1_fits_j77 fX1_fits_j82
      rw [hA.fl 40 rfl (by decide), hA.fl 49 rfl (by decide), hA.fl 51 rfl (by decide), hA.fl 53 rfl (by decide)]
      by_cases c : σ 40 7 ≤ y
      · rw [if_pos c]
        have : y = σ 40 7 := by omega
        subst this
        exact f
      have pa := r_pA h y0 (by omega)
      have pb := r_pB h y0 (by omega)
      have pp := zpr_A h y0 (show y < σ 40 7 by omega)
      have ga : M 153 (σ 49 y) = zgn σ (σ 49 y) := by rw [hG.2.2 _ pa.1 (by omega), if_pos ⟨pa.2, pp.1⟩]
      have gb : M 153 (σ 51 y) = zgn σ (σ 51 y) := by rw [hG.2.2 _ pb.1 (by omega), if_pos ⟨pb.2.1, pp.2⟩]
      have la := zgn_l pa.1 pp.1 pa.2
      have lb := zgn_l pb.1 pp.2 pb.2.1
      have a0 := zgn_0 (σ := σ) (a := σ 49 y)
      have b0 := zgn_0 (σ := σ) (a := σ 51 y)
      rw [zgn_N] at la lb
      have nx : zfk σ M g i (y + 1) → zSat (some (Sum.inl (y + 1)) : Option (Int ⊕ (Int ⊕ Int))) (fun x : Int ⊕ (Int ⊕ Int) => zel x (fun s' => ∃ m', m' < m ∧ m' = (σ 40 7 - s').toNat ∧ 0 ≤ s' ∧ s' ≤ σ 40 7 ∧ zfk σ M g i s') (fun e => zel e (fun _ => zfk σ M g i (σ 40 7)) (fun r => r = 0 ∧ ¬ zfk σ M g i (σ 40 7)))) := fun q => ⟨(σ 40 7 - (y + 1)).toNat, by omega, rfl, by omega, by omega, q⟩
      rw [if_neg c, zgd_t ⟨by omega, by omega⟩, zgd_t ⟨by omega, by omega⟩, zgd_t ⟨by omega, by omega⟩, zgd_t ⟨by omega, by omega⟩, ga, gb, zw_i (x := y + 1) (by omega) (by omega), if_neg (show ¬ (1 : Int) = 0 by decide), if_pos (show (0 : Int) = 0 from rfl)]
      have one : (zgn σ (σ 49 y) = i ∨ zgn σ (σ 51 y) = i) → zSat (if zand (zshr (M 150 10) (zgn σ (σ 49 y))) 1 = 0 then (if zand (zshr (M 150 10) (zgn σ (σ 51 y))) 1 = 0 then (zbd (fX1_toneOf (zgn σ (σ 49 y)) M) fun r16 => (zbd (fX1_toneOf (zgn σ (σ 51 y)) M) fun r20 => (zbd (fX7_speedAt 40 y r16 r20 M) fun r24 => (zgd ((0 : Int) ≤ y ∧ y < 8) (if r24 ≤ σ 53 y then some (.inl (y + 1)) else some (.inr (.inr 0))))))) else some (.inl (y + 1))) else some (.inl (y + 1)) : Option (Int ⊕ (Int ⊕ Int))) (fun x : Int ⊕ (Int ⊕ Int) => zel x (fun s' => ∃ m', m' < m ∧ m' = (σ 40 7 - s').toNat ∧ 0 ≤ s' ∧ s' ≤ σ 40 7 ∧ zfk σ M g i s') (fun e => zel e (fun _ => zfk σ M g i (σ 40 7)) (fun r => r = 0 ∧ ¬ zfk σ M g i (σ 40 7)))) := by
        intro hor
        have z1 := zbit_n (a := g) (k := (zgn σ (σ 49 y)).toNat) (by omega) (by omega)
        have z2 := zbit_n (a := g) (k := (zgn σ (σ 51 y)).toNat) (by omega) (by omega)
        have eA : (((zgn σ (σ 49 y)).toNat : Nat) : Int) = zgn σ (σ 49 y) := by omega
        have eB : (((zgn σ (σ 51 y)).toNat : Nat) : Int) = zgn σ (σ 51 y) := by omega
        rw [eA] at z1
        rw [eB] at z2
        rw [hg, z1, z2]
        cases t1 : g.testBit (zgn σ (σ 49 y)).toNat with
        | true =>
          rw [if_neg (by decide)]
          exact nx (zfk_s y0 f fun _ q _ => by rw [t1] at q; cases q)
        | false =>
          rw [if_pos (by decide)]
          cases t2 : g.testBit (zgn σ (σ 51 y)).toNat with
          | true =>
            rw [if_neg (by decide)]
            exact nx (zfk_s y0 f fun _ _ q => by rw [t2] at q; cases q)
          | false =>
            have sA : 0 ≤ M 160 (zgn σ (σ 49 y)) ∧ M 160 (zgn σ (σ 49 y)) ≤ 6 := by
              rcases hor with q | q
              · rw [q]; exact hi
              · have := hs (zgn σ (σ 49 y)).toNat ⟨y, ⟨y0, by omega⟩, Or.inr ⟨q, eA.symm⟩⟩ t1
                rwa [eA] at this
            have sB : 0 ≤ M 160 (zgn σ (σ 51 y)) ∧ M 160 (zgn σ (σ 51 y)) ≤ 6 := by
              rcases hor with q | q
              · have := hs (zgn σ (σ 51 y)).toNat ⟨y, ⟨y0, by omega⟩, Or.inl ⟨q, eB.symm⟩⟩ t2
                rwa [eB] at this
              · rw [q]; exact hi
            have tA := e_toneOf h hA h8 hG a0 (by omega) sA
            have tB := e_toneOf h hA h8 hG b0 (by omega) sB
            rw [if_pos (by decide), tA.1, zbd_s, tB.1, zbd_s, e_speedAt h hA y0 (by omega) (by omega) (by omega), zbd_s, zgd_t ⟨y0, by omega⟩]
            by_cases d : zspd σ y (zto σ M (zgn σ (σ 49 y))) (zto σ M (zgn σ (σ 51 y))) ≤ σ 53 y
            · rw [if_pos d]
              exact nx (zfk_s y0 f fun _ _ _ => d)
            · rw [if_neg d]
              exact ⟨rfl, fun q => d (q y y0 (by omega) hor t1 t2)⟩
      by_cases d1 : zgn σ (σ 49 y) = i
      · rw [if_pos d1]
        exact one (Or.inl d1)
      · rw [if_neg d1]
        by_cases d2 : zgn σ (σ 51 y) = i
        · rw [if_pos d2]
          exact one (Or.inr d2)
        · rw [if_neg d2]
          exact nx (zfk_s y0 f fun q _ _ => by rcases q with q | q
                                               · exact absurd q d1
                                               · exact absurd q d2)
    · intro e he
      cases e with
      | inl y => exact Or.inl ⟨rfl, ⟨by omega, c2⟩, he⟩
      | inr r =>
        have he : r = 0 ∧ ¬ zfk σ M g i (σ 40 7) := he
        exact Or.inr ⟨he.1, fun q => he.2 q.2⟩
  · rw [if_neg c2]
    exact Or.inr ⟨rfl, fun q => c2 q.1.2⟩
end GRQ
