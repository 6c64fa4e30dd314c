/-! PURE PART, 34: fewest, fingered, far -/
section FEW
variable {Pk : zMem}
variable {σ M : zMem} {n k x : Int}
set_option maxRecDepth 20000 in
theorem e_flearn (h : St σ) (hA : zAx σ M) (hC : Cf σ M) : zSat (fX0_learn M) (fun e => zFr 130 138 M e.2 ∧ ((8 < σ 80 0 ∧ e.1 = 0 ∧ e.2 = M) ∨ (σ 80 0 ≤ 8 ∧ e.1 = 1 ∧ e.2 130 10 ≠ 0 ∧ 0 ≤ e.2 130 8 ∧ zFP σ (if 1000 ≤ e.2 130 8 then -1 else e.2 130 8) (e.2 130 9) (e.2 135)))) := by
  have hnn := r_nn h
  unfold fX0_learn
  rw [hA.fl 80 rfl (by decide)]
  by_cases c : σ 80 0 ≤ 8
  · rw [if_pos c]
    by_cases ck : M 130 10 = 0
    · rw [if_pos ck, zS_bd]
      generalize hM1 : zup (zup (zup M 130 10 1) 130 8 1000) 130 9 0 = M1
      have m1 : ∀ c : Nat, c ≠ 130 → M1 c = M c := fun c hc => by funext q; rw [← hM1, zup_ne hc, zup_ne hc, zup_ne hc]
      have hA1 : zAx σ M1 := by rw [← hM1]; exact ((hA.up (Or.inl rfl)).up (Or.inl rfl)).up (Or.inl rfl)
      refine zs_m (e_countSure h hA1 c) ?_
      rintro M6 ⟨a1, a2, a3⟩
      have hA6 : zAx σ M6 := fun c q hc hs => by
        by_cases e : c = 136 ∨ c = 137
        · rcases e with rfl | rfl <;> cases hs
        · rw [a1 c (fun g => e (Or.inl g)) (fun g => e (Or.inr g))]; exact hA1 c q hc hs
      rw [zS_bd]
      refine zs_m (e_playable h hA6) ?_
      rintro M10 ⟨b1, b2, b3, b4, b5⟩
      have hA10 : zAx σ M10 := fun c q hc hs => by
        by_cases e : c = 130
        · subst e; cases hs
        · rw [b1 c e]; exact hA6 c q hc hs
      have e10 : M10 130 10 = 1 := by rw [b2 10 (by decide), a1 130 (by decide) (by decide), ← hM1, zup_nk (by decide), zup_nk (by decide), zup_eq]
      have e8 : M10 130 8 = 1000 := by rw [b2 8 (by decide), a1 130 (by decide) (by decide), ← hM1, zup_nk (by decide), zup_eq]
      have e9 : M10 130 9 = 0 := by rw [b2 9 (by decide), a1 130 (by decide) (by decide), ← hM1, zup_eq]
      have hd : zHd σ M10 := by
        unfold zHd
        rw [b1 136 (by decide)]
        exact ⟨a3, a2, ⟨b3, b4⟩, b5⟩
      have s0 := (a3 0 (by omega)).1
      have z0 : zlfs σ (M10 134) 0 = 0 := rfl
      have run := e_search h c (σ 80 0).toNat 20 (by omega) 0 M10 (by omega) hA10 hd (by omega) (fun q hq => by omega) ⟨fun q => by rw [e8] at q; omega, by rw [e9]; omega⟩ (by rw [z0, e8, b1 136 (by decide)]; omega)
      rw [zS_bd]
      refine zs_m run ?_
      rintro V ⟨tV, jV, fV, -, cV, bV⟩
      refine ⟨fun q hq => ?_, Or.inr ⟨c, rfl, ?_, ?_, ?_⟩⟩
      · show V q = M q
        rw [tV.1 q (by omega) (by omega) (by omega), b1 q (by omega), a1 q (by omega) (by omega), m1 q (by omega)]
      · show V 130 10 ≠ 0
        rw [tV.2.1 10 (by decide) (by decide), e10]; decide
      · show 0 ≤ V 130 8
        rcases bV with ⟨e1, -, -⟩ | ⟨-, e2, -, -⟩
        · rw [e1, e8]; decide
        · rw [e2]; exact (zlfs_b _ _).1
      · show zFP σ (if 1000 ≤ V 130 8 then -1 else V 130 8) (V 130 9) (V 135)
        rw [e8] at bV
        have b54 := fV.1
        rw [e9] at b54
        refine ⟨⟨⟨b54, jV.2, ?_⟩, fun t m m1 m2' => cV t m (by omega) m1 m2' (fun q hq => by omega)⟩, ?_⟩
        · rcases fV.2 with e | e
          · exact ⟨M 134, fun q hq => by rw [e, e9] at hq; simp at hq⟩
          · exact e
        · have cb : ∀ t, zcF σ t ≤ 8 := fun t => by
            have := (zlfs_b (σ := σ) t (σ 80 0).toNat).2
            unfold zcF; omega
          rcases bV with ⟨e1, e2, e3⟩ | ⟨e1, e2, e3, e4⟩
          · left
            rw [e1, if_pos (by omega)]
            refine ⟨rfl, fun t ht => ?_⟩
            have := e3 t ⟨ht, fun q hq => by omega⟩
            have := cb t
            omega
          · right
            rw [if_neg (by omega)]
            exact ⟨e1.1, e2, fun t ht => e4 t ⟨ht, fun q hq => by omega⟩⟩
    · rw [if_neg ck]
      exact ⟨zFr.refl _ _ _, Or.inr ⟨c, rfl, ck, hC ck c⟩⟩
  · rw [if_neg c]
    exact ⟨zFr.refl _ _ _, Or.inl ⟨by omega, rfl, rfl⟩⟩
theorem Cs.fng {N : zMem} (hC : Cs σ M) (f : zFr 130 138 M N) (hf : Cf σ N) : Cs σ N := by
  obtain ⟨h1, h2, -, h4, h5⟩ := hC
  have e : zstp N = zstp M := funext fun b => by unfold zstp; rw [f 150 (by omega), f 153 (by omega)]
  refine ⟨h1.fr (fun c _ _ => f c (by omega)), ?_, hf, ?_, ?_⟩
  · unfold Cv at h2 ⊢; rw [f 110 (by omega), f 90 (by omega), f 116 (by omega), f 117 (by omega)]; exact h2
  · unfold Cg at h4 ⊢; rw [f 150 (by omega), f 153 (by omega), e]; exact h4
  · unfold Co at h5 ⊢; rw [f 170 (by omega), f 176 (by omega), f 177 (by omega)]; exact h5
/-- class and model have both tried: what they found is the same -/
theorem zSat_or {α : Type} {o : Option α} {P : α → Prop} (C : Prop) (h1 : C → zSat o P) (h2 : ¬ C → zSat o P) : zSat o P := (Classical.em C).elim h1 h2
theorem zFP_n {fe fa : Int} {kp : Int → Int} (g : zFP σ fe fa kp) : -1 ≤ fe := by
  rcases g.2 with g | g
  · omega
  · have := (zlfs_b (σ := σ) kp (σ 80 0).toNat).1; omega
theorem c_tried (hI : Inv Pk M) : ∃ σ : zMem, zAg σ M ∧ St σ ∧ Cs σ M ∧ zPk Pk σ ∧ zSat (fX0_learn M) (fun e => zAg σ e.2 ∧ Cs σ e.2 ∧ zSat (fX12_hasTried (zup e.2 200 0 0)) (fun e' => Inv Pk e'.2 ∧ ((8 < σ 80 0 ∧ e.1 = 0 ∧ e'.1 = 0) ∨ (σ 80 0 ≤ 8 ∧ e.1 = 1 ∧ e'.1 = 1 ∧ e.2 130 9 = e'.2 200 54 ∧ ((1000 ≤ e.2 130 8 ∧ 100000000 ≤ e'.2 200 53) ∨ (e.2 130 8 < 1000 ∧ e'.2 200 53 < 100000000 ∧ e.2 130 8 = e'.2 200 53 ∧ ∀ q : Nat, (q : Int) < σ 80 0 → e.2 135 q = e'.2 253 q)))))) := by
  obtain ⟨σ, hA, h, hC, hPk⟩ := hI
  refine ⟨σ, hA, h, hC, hPk, zs_m (e_flearn h hA.x hC.2.2.1) ?_⟩
  rintro ⟨r, N⟩ ⟨f, hcase⟩
  dsimp only at f hcase ⊢
  have hN : zAg σ N := hA.fr (f.mono (by omega) (by omega))
  have hCN : Cs σ N := by
    rcases hcase with ⟨-, -, rfl⟩ | ⟨c1, c2, c3, c5, c4⟩
    · exact hC
    · exact hC.fng f (fun _ _ => ⟨c5, c4⟩)
  refine ⟨hN, hCN, zs_m (m_hasTried h (zA0 hN)) ?_⟩
  rintro ⟨r', W⟩ ⟨w1, w2, w3⟩
  dsimp only at w1 w2 w3 ⊢
  refine ⟨Inv.m hPk hCN h w1 (((zFm.refl N).up (by omega) (by omega)).trans w2), ?_⟩
  rcases hcase with ⟨c1, c2, -⟩ | ⟨c1, c2, c3, c5, c4⟩
  · rcases w3 with ⟨d1, d2⟩ | ⟨d1, d2, -, -⟩
    · exact Or.inl ⟨c1, c2, d2⟩
    · omega
  · rcases w3 with ⟨d1, d2⟩ | ⟨d1, d2, d4, d3⟩
    · omega
    · have e := zFP_eq c4 d3
      refine Or.inr ⟨c1, c2, d2, e.2.1, ?_⟩
      have e1 := e.1
      by_cases k1 : 1000 ≤ N 130 8
      · by_cases k2 : 100000000 ≤ W 200 53
        · exact Or.inl ⟨k1, k2⟩
        · rw [if_pos k1, if_neg k2] at e1
          omega
      · by_cases k2 : 100000000 ≤ W 200 53
        · rw [if_neg k1, if_pos k2] at e1
          omega
        · rw [if_neg k1, if_neg k2] at e1
          refine Or.inr ⟨by omega, by omega, e1, fun q hq => ?_⟩
          have := e.2.2 (by rw [if_neg k1]; omega) q hq
          exact this
theorem c_fewest (hI : Inv Pk M) : zAlike Pk (fX11_fewest M) (fX12_fewest) := by
  obtain ⟨σ, hA, h, hC, hPk, g⟩ := c_tried hI
  unfold zAlike fX11_fewest fX0_fewestLifts
  rw [zS_bd2, zS_bd2]
  refine zs_m g ?_
  rintro ⟨r, N⟩ ⟨hN, hCN, g2⟩
  dsimp only at hN hCN g2 ⊢
  have fin : ∀ a : Int, (∀ e' : Int × zMem, (Inv Pk e'.2 ∧ ((8 < σ 80 0 ∧ r = 0 ∧ e'.1 = 0) ∨ (σ 80 0 ≤ 8 ∧ r = 1 ∧ e'.1 = 1 ∧ N 130 9 = e'.2 200 54 ∧ ((1000 ≤ N 130 8 ∧ 100000000 ≤ e'.2 200 53) ∨ (N 130 8 < 1000 ∧ e'.2 200 53 < 100000000 ∧ N 130 8 = e'.2 200 53 ∧ ∀ q : Nat, (q : Int) < σ 80 0 → N 135 q = e'.2 253 q))))) → (if e'.1 = 0 then -1 else if 100000000 ≤ e'.2 200 53 then -1 else e'.2 200 53) = a) → zSat (fX12_fewest N) (fun e' => e'.1 = a ∧ Inv Pk e'.2) := by
    intro a ha
    unfold fX12_fewest
    rw [zS_bd2]
    refine zs_m g2 ?_
    intro e' he
    have := ha e' he
    by_cases d1 : e'.1 = 0
    · rw [if_pos d1] at this ⊢; exact ⟨this, he.1⟩
    · rw [if_neg d1] at this ⊢
      by_cases d2 : 100000000 ≤ e'.2 200 53
      · rw [if_pos d2] at this ⊢; exact ⟨this, he.1⟩
      · rw [if_neg d2] at this ⊢; exact ⟨this, he.1⟩
  by_cases c1 : r = 0
  · rw [if_pos c1]
    refine fin (-1) fun e' he => ?_
    rcases he.2 with q | q
    · rw [if_pos q.2.2]
    · omega
  · rw [if_neg c1]
    by_cases c2 : 1000 ≤ N 130 8
    · rw [if_pos c2]
      refine fin (-1) fun e' he => ?_
      rcases he.2 with q | q
      · omega
      · rcases q.2.2.2.2 with p | p
        · rw [if_neg (by omega), if_pos p.2]
        · omega
    · rw [if_neg c2]
      refine fin (N 130 8) fun e' he => ?_
      rcases he.2 with q | q
      · omega
      · rcases q.2.2.2.2 with p | p
        · omega
        · rw [if_neg (by omega), if_neg (by omega)]; exact p.2.2.1.symm
theorem c_far (hI : Inv Pk M) : zAlike Pk (fX11_far M) (fX12_far) := by
  obtain ⟨σ, hA, h, hC, hPk, g⟩ := c_tried hI
  unfold zAlike fX11_far fX0_farthest
  rw [zS_bd2, zS_bd2]
  refine zs_m g ?_
  rintro ⟨r, N⟩ ⟨hN, hCN, g2⟩
  dsimp only at hN hCN g2 ⊢
  by_cases c1 : r = 0
  · rw [if_pos c1]
    show zSat (fX12_far N) (fun e' => e'.1 = -1 ∧ Inv Pk e'.2)
    unfold fX12_far
    rw [zS_bd2]
    refine zs_m g2 ?_
    intro e' he
    rcases he.2 with q | q
    · rw [if_pos q.2.2]; exact ⟨rfl, he.1⟩
    · omega
  · rw [if_neg c1]
    show zSat (fX12_far N) (fun e' => e'.1 = N 130 9 ∧ Inv Pk e'.2)
    unfold fX12_far
    rw [zS_bd2]
    refine zs_m g2 ?_
    intro e' he
    rcases he.2 with q | q
    · omega
    · rw [if_neg (by omega)]; exact ⟨q.2.2.2.1.symm, he.1⟩
theorem c_fingered (hI : Inv Pk M) : zAlike Pk (fX11_fingered n M) (fX12_fingered n) := by
  obtain ⟨σ, hA, h, hC, hPk, g⟩ := c_tried hI
  have hnn := r_nn h
  unfold zAlike fX11_fingered fX0_fingerOf
  rw [zS_bd2, zS_bd2]
  refine zs_m g ?_
  rintro ⟨r, N⟩ ⟨hN, hCN, g2⟩
  dsimp only at hN hCN g2 ⊢
  have fin : ∀ a : Int, (¬ (0 ≤ n ∧ n < σ 80 0) → a = -1) → (0 ≤ n ∧ n < σ 80 0 → ∀ e' : Int × zMem, (Inv Pk e'.2 ∧ ((8 < σ 80 0 ∧ r = 0 ∧ e'.1 = 0) ∨ (σ 80 0 ≤ 8 ∧ r = 1 ∧ e'.1 = 1 ∧ N 130 9 = e'.2 200 54 ∧ ((1000 ≤ N 130 8 ∧ 100000000 ≤ e'.2 200 53) ∨ (N 130 8 < 1000 ∧ e'.2 200 53 < 100000000 ∧ N 130 8 = e'.2 200 53 ∧ ∀ q : Nat, (q : Int) < σ 80 0 → N 135 q = e'.2 253 q))))) → (if e'.1 = 0 then -1 else if 100000000 ≤ e'.2 200 53 then -1 else e'.2 253 n) = a) → zSat (fX12_fingered n N) (fun e' => e'.1 = a ∧ Inv Pk e'.2) := by
    intro a hb ha
    unfold fX12_fingered
    rw [m_isNote h (zA0 hN).x, zbd_s]
    by_cases c : 0 ≤ n ∧ n < σ 80 0
    · rw [if_pos c, if_neg (show ¬ (1 : Int) = 0 by decide), zS_bd2]
      refine zs_m g2 ?_
      intro e' he
      have := ha c e' he
      by_cases d1 : e'.1 = 0
      · rw [if_pos d1] at this ⊢; exact ⟨this, he.1⟩
      · rw [if_neg d1] at this ⊢
        by_cases d2 : 100000000 ≤ e'.2 200 53
        · rw [if_pos d2] at this ⊢; exact ⟨this, he.1⟩
        · rw [if_neg d2] at this ⊢
          rw [zgd_t ⟨by omega, by omega⟩]; exact ⟨this, he.1⟩
    · rw [if_neg c, if_pos rfl]
      exact ⟨(hb c).symm, Inv.z hPk hN h hCN⟩
  by_cases c1 : r = 0
  · rw [if_pos c1]
    refine fin (-1) (fun _ => rfl) fun _ e' he => ?_
    rcases he.2 with q | q
    · rw [if_pos q.2.2]
    · omega
  · rw [if_neg c1]
    by_cases c2 : 1000 ≤ N 130 8
    · rw [if_pos c2]
      refine fin (-1) (fun _ => rfl) fun _ e' he => ?_
      rcases he.2 with q | q
      · omega
      · rcases q.2.2.2.2 with p | p
        · rw [if_neg (by omega), if_pos p.2]
        · omega
    · rw [if_neg c2, e_has hN.x, zbd_s]
      by_cases c3 : 0 ≤ n ∧ n < σ 80 0
      · rw [if_pos c3, if_neg (show ¬ (1 : Int) = 0 by decide)]
        -- NOTES are 8 at most here
        refine (zSat_or (σ 80 0 ≤ 8) ?_ ?_)
        · intro h8
          rw [zgd_t ⟨by omega, by omega⟩]
          show zSat (fX12_fingered n N) (fun e' => e'.1 = N 135 n ∧ Inv Pk e'.2)
          refine fin (N 135 n) (fun q => absurd c3 q) fun _ e' he => ?_
          rcases he.2 with q | q
          · omega
          · rcases q.2.2.2.2 with p | p
            · omega
            · have := p.2.2.2 n.toNat (by omega)
              rw [show ((n.toNat : Nat) : Int) = n by omega] at this
              rw [if_neg (by omega), if_neg (by omega)]; exact this.symm
        · intro h8
          exfalso
          obtain ⟨e', -, he⟩ := zS_ex.mp g2
          rcases he.2 with q | q
          · omega
          · omega
      · rw [if_neg c3, if_pos rfl]
        exact fin (-1) (fun _ => rfl) (fun q => absurd q c3)
end FEW
