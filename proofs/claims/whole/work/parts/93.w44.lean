/-! PURE PART, 44: the model's search for how to grind, whole -/
section GRE
variable {σ M : zMem} {k x : Int}
def zgc (σ : zMem) (t : Int → Int) (m : Nat) : Int := zsum (fun b => zabs (t b) * σ 44 b) m
theorem zgc_p {t t' : Int → Int} {m : Nat} (e : ∀ q : Nat, q < m → t q = t' q) : zgc σ t m = zgc σ t' m := zsum_eq fun q hq => by rw [e q hq]
def zGp (σ : zMem) (t0 : Int → Int) (n : Nat) (t : Int → Int) : Prop := zgv σ t (σ 40 0).toNat ∧ ∀ q : Nat, q < n → t q = t0 q
def zGf (σ : zMem) (n : Nat) (M V : zMem) : Prop := (∀ c : Nat, c ≠ 256 → c ≠ 257 → c ≠ 200 → V c = M c) ∧ (∀ q : Int, q ≠ 57 → V 200 q = M 200 q) ∧ ∀ q : Int, q < n → V 256 q = M 256 q
theorem zGf.refl (n : Nat) : zGf σ n M M := ⟨fun _ _ _ _ => rfl, fun _ _ => rfl, fun _ _ => rfl⟩
theorem zGf.trans {n : Nat} {V W : zMem} (h : zGf σ n M V) (g : zGf σ n V W) : zGf σ n M W := ⟨fun c a b d => (g.1 c a b d).trans (h.1 c a b d), fun q a => (g.2.1 q a).trans (h.2.1 q a), fun q hq => (g.2.2 q hq).trans (h.2.2 q hq)⟩
theorem zGf.ax {n : Nat} {V : zMem} (hA : zAx σ M) (h : zGf σ n M V) : zAx σ V := fun c q hc hs => by
  by_cases c1 : c = 256 ∨ c = 257
  · rcases c1 with rfl | rfl <;> cases hs
  · by_cases c2 : c = 200
    · subst c2
      by_cases d : q = 57
      · subst d; cases hs
      · rw [h.2.1 q d]; exact hA 200 q hc hs
    · rw [h.1 c (fun e => c1 (Or.inl e)) (fun e => c1 (Or.inr e)) c2]; exact hA c q hc hs
theorem zgp1 {a b : Int} (ha : -3 ≤ a ∧ a ≤ 3) (hb : 1 ≤ b ∧ b ≤ 99) : 0 ≤ zabs a * b ∧ zabs a * b ≤ 297 := by
  have z1 := zabs_n (a := a)
  have z2 := zabs_le (a := a) (c := 3) (by omega)
  generalize zabs a = z at z1 z2
  have := zgm (a := z) (b := b) (by omega) (by omega)
  exact ⟨Int.mul_nonneg z1 (by omega), this.2⟩
theorem zgc_b (h : St σ) {t : Int → Int} {m : Nat} (hm : (m : Int) ≤ σ 40 0) (g : zgv σ t m) : 0 ≤ zgc σ t m ∧ zgc σ t m ≤ 297 * m := by
  have p : ∀ q : Nat, q < m → 0 ≤ zabs (t q) * σ 44 q ∧ zabs (t q) * σ 44 q ≤ 297 := fun q hq => zgp1 (zgd1_r (g q hq).1) (r_sz h (by omega) (by omega))
  exact ⟨zsum_0 fun q hq => (p q hq).1, zsum_le fun q hq => (p q hq).2⟩
theorem zgc_m (h : St σ) {t : Int → Int} {m n : Nat} (hm : m ≤ n) (hn : (n : Int) ≤ σ 40 0) (g : zgv σ t n) : zgc σ t m ≤ zgc σ t n :=
  zsum_mono hm fun q _ hq => (zgp1 (zgd1_r (g q hq).1) (r_sz h (by omega) (by omega))).1
theorem m_gcopy (F : Int → Int → zMem → Option zMem) : zSat (zit (fun s32 : Int × zMem => fX12_grinds_l26 F (s32.1) (s32.2)) (0, M)) (fun e => (∀ c : Nat, c ≠ 257 → e.2 c = M c) ∧ ∀ q : Int, 0 ≤ q → q < 12 → e.2 257 q = M 256 q) := by
  refine zit_i2 (fun y N => fX12_grinds_l26 F y N) (fun m y N => m = (12 - y).toNat ∧ 0 ≤ y ∧ y ≤ 12 ∧ (∀ c : Nat, c ≠ 257 → N c = M c) ∧ ∀ q : Int, 0 ≤ q → q < y → N 257 q = M 256 q) ?_ _ ⟨rfl, by omega, by omega, fun _ _ => rfl, fun q q0 q1 => by omega⟩
  rintro m y N ⟨hm, y0, y1, g1, g2⟩
  show zSat (fX12_grinds_l26 F y N) _
  unfold fX12_grinds_l26
  by_cases c : 12 ≤ y
  · rw [if_pos c]
    exact ⟨g1, fun q q0 q1 => g2 q q0 (by omega)⟩
  · rw [if_neg c, zgd_t ⟨y0, by omega⟩, zgd_t ⟨y0, by omega⟩, zw_i (by omega) (by omega)]
    refine ⟨(12 - (y + 1)).toNat, by omega, rfl, by show 0 ≤ y + 1; omega, by show y + 1 ≤ 12; omega, fun c hc => by funext q; show zup N 257 y _ c q = _; rw [zup_ne hc, g1 c hc], fun q q0 q1 => ?_⟩
    show zup N 257 y _ 257 q = _
    by_cases e : q = y
    · subst e; rw [zup_eq, g1 256 (by decide)]
    · rw [zup_nk e]; exact g2 q q0 (by have q1 : q < y + 1 := q1; omega)
set_option maxRecDepth 20000 in
theorem m_grinds (h : St σ) : ∀ (r d : Nat), r < d → ∀ (n : Nat) (M : zMem), (n : Int) + r = σ 40 0 → zAx σ M → zgv σ (M 256) n → zSat (fX12_grinds d n (zgc σ (M 256) n) M) (fun V => zGf σ n M V ∧ zBest (zGp σ (M 256) n) (zgls σ) (σ 40 0).toNat (M 200 57) (M 257) (V 200 57) (V 257)) := by
  have hbw := r_bw h
  have h10 := r_s10 h
  intro r
  induction r with
  | zero =>
    intro d hd n M hn hA hv
    have hn : (n : Int) = σ 40 0 := by omega
    have hN : (σ 40 0).toNat = n := by omega
    obtain ⟨d, rfl⟩ : ∃ e, d = e + 1 := ⟨d - 1, by omega⟩
    show zSat (fX12_grinds_s (fX12_grinds d) n (zgc σ (M 256) n) M) _
    unfold fX12_grinds_s
    have ce : ∀ t, zGp σ (M 256) n t → zgls σ t = zgc σ (M 256) n := fun t ht => by
      show zgc σ t (σ 40 0).toNat = _
      rw [hN]; exact zgc_p ht.2
    by_cases c0 : zgc σ (M 256) n < M 200 57
    · rw [if_pos c0, zgd_t (by decide), a_bw h hA, if_pos hn, zS_bd]
      refine zs_m (m_gcopy (fX12_grinds d)) ?_
      rintro ⟨y, V⟩ ⟨g1, g2⟩
      dsimp only at g1 g2
      have v57 : V 200 57 = zgc σ (M 256) n := by rw [g1 200 (by decide), zup_eq]
      have b2 : ∀ q : Nat, q < n → V 257 q = M 256 q := fun q hq => by
        rw [g2 q (by omega) (by omega), zup_ne (by decide)]
      have cV : zGp σ (M 256) n (V 257) := ⟨by rw [hN]; exact zgv_p h (fun q hq => (b2 q hq).symm) hv, b2⟩
      refine ⟨⟨fun c a b e => ?_, fun q a => ?_, fun q _ => ?_⟩, Or.inr ⟨cV, ?_, ?_, fun t ht => Or.inr ⟨?_, ?_⟩⟩⟩
      · show V c = M c
        funext q; rw [g1 c b, zup_ne e]
      · show V 200 q = _; rw [g1 200 (by decide), zup_nk a]
      · show V 256 q = _; rw [g1 256 (by decide), zup_ne (by decide)]
      · show V 200 57 = _; rw [v57, ce _ cV]
      · show V 200 57 < _; rw [v57]; exact c0
      · show V 200 57 = _; rw [v57, ce t ht]
      · show zlex (V 257) t _
        rw [hN]; exact Or.inl fun q hq => (b2 q hq).trans (ht.2 q hq).symm
    · rw [if_neg c0]
      exact ⟨zGf.refl n, zBest.none fun t ht => by rw [ce t ht]; omega⟩
  | succ r ih =>
    intro d hd n M hn hA hv
    obtain ⟨d, rfl⟩ : ∃ e, d = e + 1 := ⟨d - 1, by omega⟩
    have hnN : (n : Int) < σ 40 0 := by omega
    have cb := zgc_b h (m := n) (by omega) hv
    have szn := r_sz h (k := n) (by omega) hnN
    show zSat (fX12_grinds_s (fX12_grinds d) n (zgc σ (M 256) n) M) _
    unfold fX12_grinds_s
    by_cases c0 : zgc σ (M 256) n < M 200 57
    · -- the loop over the steps of this BOWL
      have loop : ∀ s : Int, (s = 0 ∨ s = 3) → (∀ t : Int → Int, zgd1 σ t n ↔ -s ≤ t n ∧ t n ≤ s) → zSat (fX12_grinds_j64 (fX12_grinds d) n (zgc σ (M 256) n) s M) (fun V => zGf σ n M V ∧ zBest (zGp σ (M 256) n) (zgls σ) (σ 40 0).toNat (M 200 57) (M 257) (V 200 57) (V 257)) := by
        intro s s03 hd1
        unfold fX12_grinds_j64
        rw [zw_i (x := -s) (by omega) (by omega), zS_bd]
        refine zs_m (P := fun e => zGf σ n M e.2 ∧ zBest (fun t => zGp σ (M 256) n t ∧ t n < s + 1) (zgls σ) (σ 40 0).toNat (M 200 57) (M 257) (e.2 200 57) (e.2 257)) ?_ ?_
        · refine zit_i2 (fun y V => fX12_grinds_l69 (fX12_grinds d) n (zgc σ (M 256) n) s y V) (fun m y V => m = (s + 1 - y).toNat ∧ -s ≤ y ∧ y ≤ s + 1 ∧ zGf σ n M V ∧ zBest (fun t => zGp σ (M 256) n t ∧ t n < y) (zgls σ) (σ 40 0).toNat (M 200 57) (M 257) (V 200 57) (V 257)) ?_ _ ⟨rfl, by omega, by omega, zGf.refl n, ?_⟩
          · rintro m y V ⟨hm, y0, y1, tV, bV⟩
            have hAV : zAx σ V := tV.ax hA
            show zSat (fX12_grinds_l69 (fX12_grinds d) n (zgc σ (M 256) n) s y V) _
            unfold fX12_grinds_l69
            by_cases cy : s < y
            · rw [if_pos cy]
              have : y = s + 1 := by omega
              subst this
              exact ⟨tV, bV⟩
            have ym := zgm (a := y) (b := σ 59 10) (by omega) h10
            have tn := r_tn h (k := n) (by omega) hnN
            rw [if_neg cy]
            generalize hV1 : zup V 256 n y = V1
            have v6 : ∀ q : Nat, q < n → V1 256 q = M 256 q := fun q hq => by
              rw [← hV1, zup_nk (by omega), tV.2.2 q (by omega)]
            have v6n : V1 256 n = y := by rw [← hV1, zup_eq]
            have vc : ∀ c : Nat, c ≠ 256 → V1 c = V c := fun c e => by funext q; rw [← hV1, zup_ne e]
            have hA1 : zAx σ V1 := by rw [← hV1]; exact hAV.up (Or.inl rfl)
            have tV1 : zGf σ n M V1 := ⟨fun c a b e => by rw [vc c a]; exact tV.1 c a b e, fun q a => by rw [vc 200 (by decide)]; exact tV.2.1 q a, fun q hq => by rw [← hV1, zup_nk (by omega)]; exact tV.2.2 q hq⟩
            have hr1 : ∀ q : Nat, q ≤ n → -3 ≤ V1 256 q ∧ V1 256 q ≤ 3 := fun q hq => by
              by_cases e : q = n
              · subst e; rw [v6n]; omega
              · rw [v6 q (by omega)]; exact zgd1_r (hv q (by omega)).1
            have ag : ∀ t : Int → Int, (∀ q : Nat, q < n → t q = M 256 q) → t n = y → ∀ q : Nat, q ≤ n → t q = V1 256 q := fun t ht hty q hq => by
              by_cases e : q = n
              · subst e; rw [hty, v6n]
              · rw [ht q (by omega), v6 q (by omega)]
            -- when nothing goes on with y
            have skip : (∀ t, zGp σ (M 256) n t → t n ≠ y) → zSat (some (Sum.inl (y + 1, V1)) : Option ((Int × zMem) ⊕ (Int × zMem))) (fun x : (Int × zMem) ⊕ (Int × zMem) => zel x (fun s' => ∃ m', m' < m ∧ m' = (s + 1 - s'.1).toNat ∧ -s ≤ s'.1 ∧ s'.1 ≤ s + 1 ∧ zGf σ n M s'.2 ∧ zBest (fun t => zGp σ (M 256) n t ∧ t n < s'.1) (zgls σ) (σ 40 0).toNat (M 200 57) (M 257) (s'.2 200 57) (s'.2 257)) (fun e => zGf σ n M e.2 ∧ zBest (fun t => zGp σ (M 256) n t ∧ t n < s + 1) (zgls σ) (σ 40 0).toNat (M 200 57) (M 257) (e.2 200 57) (e.2 257))) := by
              intro no
              refine ⟨(s + 1 - (y + 1)).toNat, by omega, rfl, by show -s ≤ y + 1; omega, by show y + 1 ≤ _; omega, tV1, ?_⟩
              show zBest (fun t => zGp σ (M 256) n t ∧ t n < y + 1) (zgls σ) (σ 40 0).toNat (M 200 57) (M 257) (V1 200 57) (V1 257)
              rw [vc 200 (by decide), vc 257 (by decide)]
              refine bV.iff fun t => ⟨fun g => ⟨g.1, by have := g.2; omega⟩, fun g => ⟨g.1, ?_⟩⟩
              have := no t g.1
              have := g.2
              omega
            rw [zgd_t ⟨by omega, by omega⟩, zgd_t ⟨by omega, by omega⟩, zgd_t (by decide), a_tn h hA1 (by omega) hnN, a_st h hA1 (k := 10) (by decide) (by decide), zw_i (x := σ 43 n + y * σ 59 10) (by omega) (by omega), m_isFrom, zbd_s, zw_i (x := y + 1) (by omega) (by omega)]
            have gte : ∀ t : Int → Int, t n = y → zgt σ t n = σ 43 n + y * σ 59 10 := fun t e => by unfold zgt; rw [e]
            by_cases cf : 1 ≤ σ 43 n + y * σ 59 10 ∧ σ 43 n + y * σ 59 10 ≤ 9999
            · rw [if_pos cf, if_neg (show ¬ (1 : Int) = 0 by decide), zS_bd]
              refine zs_m (m_goes h hA1 hnN hr1) ?_
              intro r13 hr13
              rcases hr13 with ⟨e1, gk⟩ | ⟨e1, gk⟩
              · rw [if_neg (by omega)]
                have hv1 : zgv σ (V1 256) (n + 1) := fun q hq => by
                  by_cases e : q = n
                  · subst e
                    exact ⟨(hd1 _).2 (by rw [v6n]; omega), by rw [gte _ v6n]; exact cf, gk⟩
                  · exact zgv_p h (m := n) (fun q hq => (v6 q hq).symm) hv q (by omega)
                have zb := zgp1 (a := y) (b := σ 44 n) (by omega) szn
                have lf : zgc σ (V1 256) (n + 1) = zgc σ (M 256) n + zabs y * σ 44 n := by
                  show zgc σ (V1 256) n + zabs (V1 256 n) * σ 44 n = _
                  rw [zgc_p (σ := σ) (m := n) (t := V1 256) (t' := M 256) v6, v6n]
                have rc := ih d (by omega) (n + 1) V1 (by omega) hA1 hv1
                rw [lf] at rc
                have stp : zSat (zbd (fX12_grinds d ((n + 1 : Nat) : Int) (zgc σ (M 256) n + zabs y * σ 44 n) V1) fun M21 => some (Sum.inl (y + 1, M21))) (fun x : (Int × zMem) ⊕ (Int × zMem) => zel x (fun s' => ∃ m', m' < m ∧ m' = (s + 1 - s'.1).toNat ∧ -s ≤ s'.1 ∧ s'.1 ≤ s + 1 ∧ zGf σ n M s'.2 ∧ zBest (fun t => zGp σ (M 256) n t ∧ t n < s'.1) (zgls σ) (σ 40 0).toNat (M 200 57) (M 257) (s'.2 200 57) (s'.2 257)) (fun e => zGf σ n M e.2 ∧ zBest (fun t => zGp σ (M 256) n t ∧ t n < s + 1) (zgls σ) (σ 40 0).toNat (M 200 57) (M 257) (e.2 200 57) (e.2 257))) := by
                  rw [zS_bd]
                  refine zs_m rc ?_
                  rintro W ⟨tW, bW⟩
                  rw [vc 200 (by decide), vc 257 (by decide)] at bW
                  refine ⟨(s + 1 - (y + 1)).toNat, by omega, rfl, by show -s ≤ y + 1; omega, by show y + 1 ≤ _; omega, tV1.trans ⟨tW.1, tW.2.1, fun q hq => tW.2.2 q (by omega)⟩, ?_⟩
                  show zBest (fun t => zGp σ (M 256) n t ∧ t n < y + 1) (zgls σ) (σ 40 0).toNat (M 200 57) (M 257) (W 200 57) (W 257)
                  have bW' : zBest (fun t => zGp σ (M 256) n t ∧ t n = y) (zgls σ) (σ 40 0).toNat (V 200 57) (V 257) (W 200 57) (W 257) := bW.iff fun t => by
                    constructor
                    · rintro ⟨g1, g2⟩
                      exact ⟨⟨g1, fun q hq => (g2 q (by omega)).trans (v6 q hq)⟩, (g2 n (by omega)).trans v6n⟩
                    · rintro ⟨⟨g1, g2⟩, g3⟩
                      exact ⟨g1, fun q hq => ag t g2 g3 q (by omega)⟩
                  refine (zBest.comp ?_ bV bW' ?_).iff fun t => ?_
                  · intro t t' ht
                    exact ⟨fun g => ⟨⟨zgv_p h ht g.1.1, fun q hq => by rw [← ht q (by omega)]; exact g.1.2 q hq⟩, by rw [← ht n (by omega)]; exact g.2⟩, zgc_p ht⟩
                  · intro t1 t2 g1 g2
                    exact Or.inr ⟨n, by omega, fun j hj => (g1.1.2 j hj).trans (g2.1.2 j hj).symm, by have := g1.2; have := g2.2; omega⟩
                  · constructor
                    · rintro (g | g)
                      · exact ⟨g.1, by have := g.2; omega⟩
                      · exact ⟨g.1, by have := g.2; omega⟩
                    · intro g
                      by_cases e : t n = y
                      · exact Or.inr ⟨g.1, e⟩
                      · exact Or.inl ⟨g.1, by have := g.2; omega⟩
                unfold fX12_grinds_j136
                rw [a_sz h hA1 (by omega) hnN, zgd_t ⟨by omega, by omega⟩, zgd_t ⟨by omega, by omega⟩, zw_i (x := (n : Int) + 1) (by omega) (by omega), show (n : Int) + 1 = ((n + 1 : Nat) : Int) by omega, zw_i (x := y + 1) (by omega) (by omega)]
                by_cases c3 : 0 ≤ y
                · rw [zabs_r, if_pos c3] at stp zb
                  rw [if_pos c3, zw_i (by omega) (by omega)]
                  exact stp
                · rw [zabs_r, if_neg c3] at stp zb
                  rw [if_neg c3, zw_i (x := -y) (by omega) (by omega), zw_i (by omega) (by omega)]
                  exact stp
              · rw [if_pos e1]
                refine skip fun t ht e => gk ?_
                exact zgk_p h (ag t ht.2 e) (ht.1 n (by omega)).2.2
            · rw [if_neg cf, if_pos rfl]
              refine skip fun t ht e => cf ?_
              have := (ht.1 n (by omega)).2.1
              rw [gte t e] at this
              exact this
          · exact zBest.none fun t ht => by
              have := (hd1 t).1 (ht.1.1 n (by omega)).1
              have := ht.2
              omega
        · rintro ⟨y, V⟩ ⟨tV, bV⟩
          dsimp only at tV bV
          refine ⟨tV, bV.iff fun t => ⟨fun g => g.1, fun g => ⟨g, ?_⟩⟩⟩
          have := (hd1 t).1 (g.1 n (by omega)).1
          omega
      rw [if_pos c0, zgd_t (by decide), a_bw h hA, if_neg (by omega), m_isPaired h hA, zbd_s]
      by_cases cp : zprd σ n
      · rw [if_pos cp, if_neg (show ¬ (1 : Int) = 0 by decide)]
        refine loop 3 (Or.inr rfl) fun t => ⟨fun g => zgd1_r g, fun g => Or.inl ⟨cp, g⟩⟩
      · rw [if_neg cp, if_pos rfl]
        refine loop 0 (Or.inl rfl) fun t => ⟨fun g => ?_, fun g => Or.inr ⟨cp, by omega⟩⟩
        rcases g with g | g
        · exact absurd g.1 cp
        · have := g.2; omega
    · rw [if_neg c0]
      refine ⟨zGf.refl n, zBest.none fun t ht => ?_⟩
      have e1 : zgc σ t n = zgc σ (M 256) n := zgc_p ht.2
      have e2 := zgc_m h (t := t) (m := n) (n := (σ 40 0).toNat) (by omega) (by omega) ht.1
      show _ ≤ zgc σ t (σ 40 0).toNat
      omega
end GRE
