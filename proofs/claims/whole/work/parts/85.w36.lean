/-! PURE PART, 36: the model's search for an order -/
section ORE
variable {σ M : zMem} {k x : Int}
theorem zpsm_N (h : St σ) {G : Int → Int} (ho : zOrd σ G (M 259)) : zpsm σ M ((σ 80 0).toNat - 1) = zcO σ G := by
  have hnn := r_nn h
  rw [zcO_s h ho]
  refine zsum_eq fun q hq => ?_
  have n1 := (ho.2 _ (r_nb h (k := (q : Int) + 1) (by omega) (by omega))).1
  have n2 := (ho.2 _ (r_nb h (k := q) (by omega) (by omega))).1
  show (if 0 ≤ M 259 (σ 82 ((q : Int) + 1)) ∧ 0 ≤ M 259 (σ 82 q) then zabs (M 259 (σ 82 ((q : Int) + 1)) - M 259 (σ 82 q)) else 0) = _
  rw [if_pos ⟨n1, n2⟩]
def zLf (M V : zMem) : Prop := (∀ c : Nat, c ≠ 260 → c ≠ 200 → V c = M c) ∧ (∀ q : Int, q ≠ 60 → V 200 q = M 200 q)
theorem zLf.refl : zLf M M := ⟨fun _ _ _ => rfl, fun _ _ => rfl⟩
theorem zLf.trans {V W : zMem} (h : zLf M V) (g : zLf V W) : zLf M W := ⟨fun c a b => (g.1 c a b).trans (h.1 c a b), fun q a => (g.2 q a).trans (h.2 q a)⟩
theorem zLf.ax {V : zMem} (hA : zAx σ M) (h : zLf M V) : zAx σ V := fun c q hc hs => by
  by_cases c1 : c = 260
  · subst c1; cases hs
  · by_cases c2 : c = 200
    · subst c2
      by_cases d : q = 60
      · subst d; cases hs
      · rw [h.2 q d]; exact hA 200 q hc hs
    · rw [h.1 c c1 c2]; exact hA c q hc hs
theorem zPx_st (h : St σ) {p : Nat} {G : Int → Int} {y : Int} (hP : zPx σ M p G) (hy : zpd σ y) (hm : M 259 y = -1) : zPx σ (zup M 259 y p) (p + 1) (fun q => if q = p then y else G q) := by
  have hbw := r_bw h
  obtain ⟨h1, h2, h3⟩ := hP
  refine ⟨fun q hq => ?_, fun b b0 b1 => ?_, ?_⟩
  · dsimp only
    by_cases e : q = p
    · subst e
      rw [if_pos rfl]
      exact ⟨hy, zup_eq⟩
    · have g := h1 q (by omega)
      rw [if_neg (by omega)]
      refine ⟨g.1, ?_⟩
      rw [zup_nk (fun e => by rw [e] at g; have := g.2; omega)]
      exact g.2
  · by_cases e : b = y
    · subst e
      right
      rw [zup_eq]
      exact ⟨by omega, by omega, if_pos rfl⟩
    · rw [zup_nk e]
      rcases h2 b b0 b1 with g | ⟨g1, g2, g3⟩
      · exact Or.inl g
      · exact Or.inr ⟨g1, by omega, by show (if M 259 b = p then y else G (M 259 b)) = b; rw [if_neg (by omega)]; exact g3⟩
  · have e := zsum_up (f := fun b => if 0 ≤ M 259 b then 1 else 0) (b := y) (v := 1) (n := (σ 40 0).toNat) hy.1 (by have := hy.2.1; omega)
    rw [h3] at e
    have e' : zsum (fun b => if 0 ≤ zup M 259 y p 259 b then (1 : Int) else 0) (σ 40 0).toNat = zsum (fun k => if k = y then 1 else if 0 ≤ M 259 k then 1 else 0) (σ 40 0).toNat := zsum_eq fun q hq => by
      by_cases c : (q : Int) = y
      · rw [if_pos c, c, zup_eq, if_pos (by omega)]
      · rw [if_neg c, zup_nk c]
    rw [e', e, hm]
    show (p : Int) + (1 - if (0 : Int) ≤ -1 then 1 else 0) = ((p + 1 : Nat) : Int)
    rw [if_neg (by decide)]; omega
set_option maxRecDepth 20000 in
theorem m_lines (h : St σ) (h8 : σ 40 1 ≤ 8) : ∀ (r d : Nat), r < d → ∀ (p : Nat) (M : zMem) (G B : Int → Int), (p : Int) + r = σ 40 1 → zAx σ M → zPx σ M p G → zRp σ M B → zSat (fX12_lines d p (σ 40 1) M) (fun V => zLf M V ∧ ∃ B' : Int → Int, zBest (zCq σ G p) (zcO σ) (σ 40 1).toNat (M 200 60) B (V 200 60) B' ∧ zRp σ V B') := by
  have hbw := r_bw h
  intro r
  induction r with
  | zero =>
    intro d hd p M G B hp hA hP hR
    have hp : (p : Int) = σ 40 1 := by omega
    have hN : (σ 40 1).toNat = p := by omega
    obtain ⟨d, rfl⟩ : ∃ e, d = e + 1 := ⟨d - 1, by omega⟩
    have ho := zPx_N h hP hp
    have hs : ∀ b : Int, 0 ≤ b → b < 12 → -1 ≤ M 259 b ∧ M 259 b < 12 := fun b b0 b1 => by
      rcases hP.2.1 b b0 b1 with e | ⟨e1, e2, -⟩ <;> omega
    show zSat (fX12_lines_s (fX12_lines d) p (σ 40 1) M) _
    unfold fX12_lines_s
    rw [zS_bd]
    refine zs_m (m_lsum h hA (fX12_lines d) hs) ?_
    rintro ⟨z, w⟩ hz
    dsimp only at hz
    rw [zpsm_N h ho] at hz
    subst hz
    dsimp only
    have ce : ∀ t, zCq σ G p t → zcO σ t = zcO σ G := fun t ht => zcO_p fun q hq => ht.2 q (by omega)
    by_cases c0 : zcO σ G < M 200 60
    · rw [if_pos c0, if_pos hp, zS_bd]
      refine zs_m (m_lcopy (fX12_lines d)) ?_
      rintro ⟨y, V⟩ ⟨g1, g2⟩
      dsimp only at g1 g2
      have v6 : V 200 60 = zcO σ G := by rw [g1 200 (by decide), zup_eq]
      have v26 : ∀ b : Int, 0 ≤ b → b < 12 → V 260 b = M 259 b := fun b b0 b1 => by rw [g2 b b0 b1, zup_ne (by decide)]
      refine ⟨⟨fun c a b => ?_, fun q a => ?_⟩, G, Or.inr ⟨⟨⟨_, ho⟩, fun _ _ => rfl⟩, v6, by show V 200 60 < _; rw [v6]; exact c0, fun t ht => Or.inr ⟨?_, ?_⟩⟩, fun _ b b0 b1 => ?_⟩
      · show V c = M c
        funext q; rw [g1 c a, zup_ne b]
      · show V 200 q = _; rw [g1 200 (by decide), zup_nk a]
      · show V 200 60 = _; rw [v6, ce t ht]
      · rw [hN]; exact Or.inl fun q hq => (ht.2 q hq).symm
      · show V 260 b = _
        rw [v26 b b0 b1]
        by_cases c : zpd σ b
        · rw [if_pos c, zO_s ho c]
        · rw [if_neg c]
          rcases hP.2.1 b b0 b1 with e | ⟨e1, e2, e3⟩
          · exact e
          · have := (hP.1 (M 259 b).toNat (by omega)).1
            rw [show (((M 259 b).toNat : Nat) : Int) = M 259 b by omega, e3] at this
            exact absurd this c
    · rw [if_neg c0]
      exact ⟨zLf.refl, B, zBest.none fun t ht => by rw [ce t ht]; omega, hR⟩
  | succ r ih =>
    intro d hd p M G B hp hA hP hR
    obtain ⟨d, rfl⟩ : ∃ e, d = e + 1 := ⟨d - 1, by omega⟩
    have hpN : (p : Int) < σ 40 1 := by omega
    have hs : ∀ b : Int, 0 ≤ b → b < 12 → -1 ≤ M 259 b ∧ M 259 b < 12 := fun b b0 b1 => by
      rcases hP.2.1 b b0 b1 with e | ⟨e1, e2, -⟩ <;> omega
    show zSat (fX12_lines_s (fX12_lines d) p (σ 40 1) M) _
    unfold fX12_lines_s
    rw [zS_bd]
    refine zs_m (m_lsum h hA (fX12_lines d) hs) ?_
    rintro ⟨z, w⟩ hz
    dsimp only at hz
    subst hz
    dsimp only
    by_cases c0 : zpsm σ M ((σ 80 0).toNat - 1) < M 200 60
    · rw [if_pos c0, if_neg (by omega), zS_bd]
      refine zs_m (P := fun e => zLf M e.2 ∧ ∃ B' : Int → Int, zBest (fun t => zCq σ G p t ∧ t p < σ 40 0) (zcO σ) (σ 40 1).toNat (M 200 60) B (e.2 200 60) B' ∧ zRp σ e.2 B') ?_ ?_
      · refine zit_i2 (fun y V => fX12_lines_l141 (fX12_lines d) p (σ 40 1) y V) (fun m y V => m = (σ 40 0 - y).toNat ∧ 0 ≤ y ∧ y ≤ σ 40 0 ∧ zLf M V ∧ ∃ B' : Int → Int, zBest (fun t => zCq σ G p t ∧ t p < y) (zcO σ) (σ 40 1).toNat (M 200 60) B (V 200 60) B' ∧ zRp σ V B') ?_ _ ⟨rfl, by omega, by omega, zLf.refl, B, ?_, hR⟩
        · rintro m y V ⟨hm, y0, y1, tV, B', bV, rV⟩
          have hAV : zAx σ V := tV.ax hA
          have v9 : V 259 = M 259 := tV.1 259 (by decide) (by decide)
          show zSat (fX12_lines_l141 (fX12_lines d) p (σ 40 1) y V) _
          unfold fX12_lines_l141
          rw [a_bw h hAV, zgd_t (by decide)]
          by_cases cy : σ 40 0 ≤ y
          · rw [if_pos cy]
            have : y = σ 40 0 := by omega
            subst this
            exact ⟨tV, B', bV, rV⟩
          rw [if_neg cy, zgd_t ⟨by omega, by omega⟩, a_pl h hAV y0 (by omega), v9, zw_i (x := y + 1) (by omega) (by omega)]
          -- when no order goes on with y
          have skip : (∀ t, zCq σ G p t → t p ≠ y) → zSat (some (Sum.inl (y + 1, V)) : Option ((Int × zMem) ⊕ (Int × zMem))) (fun x : (Int × zMem) ⊕ (Int × zMem) => zel x (fun s' => ∃ m', m' < m ∧ m' = (σ 40 0 - s'.1).toNat ∧ 0 ≤ s'.1 ∧ s'.1 ≤ σ 40 0 ∧ zLf M s'.2 ∧ ∃ B' : Int → Int, zBest (fun t => zCq σ G p t ∧ t p < s'.1) (zcO σ) (σ 40 1).toNat (M 200 60) B (s'.2 200 60) B' ∧ zRp σ s'.2 B') (fun e => zLf M e.2 ∧ ∃ B' : Int → Int, zBest (fun t => zCq σ G p t ∧ t p < σ 40 0) (zcO σ) (σ 40 1).toNat (M 200 60) B (e.2 200 60) B' ∧ zRp σ e.2 B')) := by
            intro no
            refine ⟨(σ 40 0 - (y + 1)).toNat, by omega, rfl, by show 0 ≤ y + 1; omega, by show y + 1 ≤ _; omega, tV, B', ?_, rV⟩
            refine bV.iff fun t => ⟨fun g => ⟨g.1, by show t p < y + 1; have := g.2; omega⟩, fun g => ⟨g.1, ?_⟩⟩
            have g2 : t p < y + 1 := g.2
            have := no t g.1
            omega
          by_cases cp : σ 47 y < 0
          · rw [if_pos cp]
            refine skip fun t ht e => ?_
            obtain ⟨⟨s, hs⟩, -⟩ := ht
            have := (hs.1 p (by omega) hpN).1
            rw [e] at this
            have := this.2.2
            have := r_pl h y0 (by omega)
            omega
          rw [if_neg cp, zgd_t ⟨by omega, by omega⟩]
          have hpy : zpd σ y := ⟨y0, by omega, by have := r_pl h y0 (by omega); omega⟩
          by_cases cs : M 259 y < 0
          · rw [if_pos cs, zgd_t ⟨by omega, by omega⟩, zw_i (x := (p : Int) + 1) (by omega) (by omega), show (p : Int) + 1 = ((p + 1 : Nat) : Int) by omega, zS_bd]
            have my : M 259 y = -1 := by have := hs y y0 (by omega); omega
            have hA1 : zAx σ (zup V 259 y p) := fun c q hc hq => by
              by_cases e : c = 259
              · subst e; cases hq
              · rw [zup_ne e]; exact hAV c q hc hq
            have hPV : zPx σ V p G := by unfold zPx at hP ⊢; rw [v9]; exact hP
            have rV1 : zRp σ (zup V 259 y p) B' := fun g b b0 b1 => by
              rw [zup_ne (by decide)]
              rw [zup_ne (by decide)] at g
              exact rV g b b0 b1
            refine zs_m (ih d (by omega) (p + 1) (zup V 259 y p) (fun q => if q = p then y else G q) B' (by omega) hA1 (zPx_st h hPV hpy (by rw [v9]; exact my)) rV1) ?_
            rintro W ⟨tW, B'', bW, rW⟩
            rw [zup_ne (by decide)] at bW
            rw [zgd_t ⟨by omega, by omega⟩]
            have w9 : zup W 259 y (-1) 259 = M 259 := by
              funext q
              by_cases e : q = y
              · subst e; rw [zup_eq, my]
              · rw [zup_nk e, tW.1 259 (by decide) (by decide), zup_nk e, v9]
            refine ⟨(σ 40 0 - (y + 1)).toNat, by omega, rfl, by show 0 ≤ y + 1; omega, by show y + 1 ≤ _; omega, ⟨fun c a b => ?_, fun q a => ?_⟩, B'', ?_, fun g b b0 b1 => ?_⟩
            · show zup W 259 y (-1) c = M c
              by_cases e : c = 259
              · subst e; exact w9
              · funext q; rw [zup_ne e, tW.1 c a b, zup_ne e, tV.1 c a b]
            · show zup W 259 y (-1) 200 q = _
              rw [zup_ne (by decide), tW.2 q a, zup_ne (by decide), tV.2 q a]
            · show zBest (fun t => zCq σ G p t ∧ t p < y + 1) (zcO σ) (σ 40 1).toNat (M 200 60) B (zup W 259 y (-1) 200 60) B''
              rw [zup_ne (by decide)]
              have bW' : zBest (fun t => zCq σ G p t ∧ t p = y) (zcO σ) (σ 40 1).toNat (V 200 60) B' (W 200 60) B'' := bW.iff fun t => by
                constructor
                · rintro ⟨g1, g2⟩
                  exact ⟨⟨g1, fun q hq => (g2 q (by omega)).trans (if_neg (by omega))⟩, (g2 p (by omega)).trans (if_pos rfl)⟩
                · rintro ⟨⟨g1, g2⟩, g3⟩
                  refine ⟨g1, fun q hq => ?_⟩
                  dsimp only
                  by_cases e : q = p
                  · subst e; rw [if_pos rfl]; exact g3
                  · rw [if_neg (by omega)]; exact g2 q (by omega)
              refine (zBest.comp ?_ bV bW' ?_).iff fun t => ?_
              · intro t t' ht
                refine ⟨fun g => ⟨⟨zCo_p ht g.1.1, fun q hq => by rw [← ht q (by omega)]; exact g.1.2 q hq⟩, by rw [← ht p (by omega)]; exact g.2⟩, zcO_p ht⟩
              · intro t1 t2 g1 g2
                exact Or.inr ⟨p, by omega, fun j hj => (g1.1.2 j hj).trans (g2.1.2 j hj).symm, by have := g1.2; have := g2.2; omega⟩
              · constructor
                · rintro (g | g)
                  · exact ⟨g.1, by have := g.2; omega⟩
                  · exact ⟨g.1, by have := g.2; omega⟩
                · intro g
                  by_cases e : t p = y
                  · exact Or.inr ⟨g.1, e⟩
                  · exact Or.inl ⟨g.1, by have := g.2; omega⟩
            · show zup W 259 y (-1) 260 b = _
              rw [zup_ne (by decide)]
              refine rW ?_ b b0 b1
              have g : zup W 259 y (-1) 200 60 < 100000000 := g
              rw [zup_ne (by decide)] at g
              exact g
          · rw [if_neg cs]
            refine skip fun t ht e => ?_
            obtain ⟨⟨s, ho⟩, hg⟩ := ht
            have a1 := zPx_s hP (by omega) ho hg y0 (by omega) (by omega)
            have a2 := (ho.1 p (by omega) hpN).2
            rw [e] at a2
            rcases hP.2.1 y y0 (by omega) with e | ⟨e1, e2, e3⟩
            · omega
            · have := a1.2; omega
        · exact zBest.none fun t ht => by
            obtain ⟨⟨⟨s, ho⟩, -⟩, h0⟩ := ht
            have := (ho.1 p (by omega) hpN).1.1
            omega
      · rintro ⟨y, V⟩ ⟨tV, B', bV, rV⟩
        dsimp only at tV bV rV
        refine ⟨tV, B', bV.iff fun t => ⟨fun g => g.1, fun g => ⟨g, ?_⟩⟩, rV⟩
        obtain ⟨⟨s, ho⟩, -⟩ := g
        exact (ho.1 p (by omega) hpN).1.2.1
    · rw [if_neg c0]
      refine ⟨zLf.refl, B, zBest.none fun t ht => ?_, hR⟩
      obtain ⟨⟨s, ho⟩, hg⟩ := ht
      have := zpsm_le h hP (by omega) ho hg
      omega
end ORE
