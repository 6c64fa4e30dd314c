/-! PURE PART, 28: the model's search for fingerings -/
section TRY
variable {σ M : zMem} {k x : Int}
/-- fingerings of all NOTES that begin as fg does -/
def zCp (σ : zMem) (fg : Int → Int) (p : Nat) (t : Int → Int) : Prop := zvalid σ t (σ 80 0).toNat ∧ ∀ q : Nat, q < p → t q = fg q
def zcF (σ : zMem) (t : Int → Int) : Int := zlfs σ t (σ 80 0).toNat
/-- how far one comes, beginning as fg does, with less than y at p -/
def zFar (σ : zMem) (fg : Int → Int) (p : Nat) (y : Int) (far : Int) : Prop := ∀ (t : Int → Int) (m : Nat), p < m → (m : Int) ≤ σ 80 0 → zvalid σ t m → (∀ q : Nat, q < p → t q = fg q) → t p < y → (m : Int) ≤ far
/-- what a search leaves as it was -/
def zTf (σ : zMem) (n : Nat) (M V : zMem) : Prop := (∀ c : Nat, c ≠ 249 → c ≠ 253 → c ≠ 200 → V c = M c) ∧ (∀ q : Int, q ≠ 53 → q ≠ 54 → V 200 q = M 200 q) ∧ ∀ q : Int, q < n ∨ σ 80 0 ≤ q → V 249 q = M 249 q
theorem zTf.refl (n : Nat) : zTf σ n M M := ⟨fun _ _ _ _ => rfl, fun _ _ _ => rfl, fun _ _ => rfl⟩
theorem zTf.trans {n : Nat} {V W : zMem} (h : zTf σ n M V) (g : zTf σ n V W) : zTf σ n M W := ⟨fun c a b d => (g.1 c a b d).trans (h.1 c a b d), fun q a b => (g.2.1 q a b).trans (h.2.1 q a b), fun q hq => (g.2.2 q hq).trans (h.2.2 q hq)⟩
theorem zTf.ax {n : Nat} {V : zMem} (hA : zAx σ M) (h : zTf σ n M V) : zAx σ V := fun c q hc hs => by
  by_cases c1 : c = 253
  · subst c1; cases hs
  · by_cases c2 : c = 200
    · subst c2
      by_cases d : q = 53 ∨ q = 54
      · rcases d with rfl | rfl <;> cases hs
      · rw [h.2.1 q (fun e => d (Or.inl e)) (fun e => d (Or.inr e))]; exact hA 200 q hc hs
    · rw [h.1 c hc c1 c2]; exact hA c q hc hs
def zJ (σ M : zMem) : Prop := (M 200 53 < 100000000 → σ 80 0 ≤ M 200 54) ∧ M 200 54 ≤ σ 80 0
def zFa (M V : zMem) (σ : zMem) : Prop := M 200 54 ≤ V 200 54 ∧ (V 200 54 = M 200 54 ∨ ∃ t : Int → Int, zvalid σ t (V 200 54).toNat)
theorem zFa.trans {V W : zMem} (h : zFa M V σ) (g : zFa V W σ) : zFa M W σ := by
  refine ⟨Int.le_trans h.1 g.1, ?_⟩
  rcases g.2 with e | e
  · rcases h.2 with f | f
    · exact Or.inl (e.trans f)
    · rw [e]; exact Or.inr f
  · exact Or.inr e
theorem m_triesCopy (F : Int → Int → zMem → Option zMem) : zSat (zit (fun s27 : Int × zMem => fX12_tries_l36 F (s27.1) (s27.2)) (0, M)) (fun e => (∀ c : Nat, c ≠ 253 → e.2 c = M c) ∧ ∀ q : Int, 0 ≤ q → q < 24 → e.2 253 q = M 249 q) := by
  refine zit_i2 (fun y N => fX12_tries_l36 F y N) (fun m y N => m = (24 - y).toNat ∧ 0 ≤ y ∧ y ≤ 24 ∧ (∀ c : Nat, c ≠ 253 → N c = M c) ∧ ∀ q : Int, 0 ≤ q → q < y → N 253 q = M 249 q) ?_ _ ⟨rfl, by omega, by omega, fun _ _ => rfl, fun q q0 q1 => by omega⟩
  rintro m y N ⟨hm, y0, y1, g1, g2⟩
  show zSat (fX12_tries_l36 F y N) _
  unfold fX12_tries_l36
  by_cases c : 24 ≤ y
  · rw [if_pos c]
    exact ⟨g1, fun q q0 q1 => g2 q q0 (by omega)⟩
  · rw [if_neg c, zgd_t ⟨y0, by omega⟩, zgd_t ⟨y0, by omega⟩, zw_i (by omega) (by omega)]
    refine ⟨(24 - (y + 1)).toNat, by omega, rfl, by show 0 ≤ y + 1; omega, by show y + 1 ≤ 24; omega, fun c hc => by funext q; show zup N 253 y _ c q = _; rw [zup_ne hc, g1 c hc], fun q q0 q1 => ?_⟩
    show zup N 253 y _ 253 q = _
    by_cases e : q = y
    · subst e; rw [zup_eq, g1 249 (by decide)]
    · rw [zup_nk e]; exact g2 q q0 (by have q1 : q < y + 1 := q1; omega)
set_option maxRecDepth 20000 in
theorem m_tries (h : St σ) (h8 : σ 80 0 ≤ 8) : ∀ (r d : Nat), r < d → ∀ (n : Nat) (M : zMem), (n : Int) + r = σ 80 0 → zAx σ M → zvalid σ (M 249) n → zJ σ M → zSat (fX12_tries d n (zlfs σ (M 249) n) M) (fun V => zTf σ n M V ∧ zJ σ V ∧ zFa M V σ ∧ (n : Int) ≤ V 200 54 ∧ (∀ (t : Int → Int) (m : Nat), n ≤ m → (m : Int) ≤ σ 80 0 → zvalid σ t m → (∀ q : Nat, q < n → t q = M 249 q) → (m : Int) ≤ V 200 54) ∧ zBest (zCp σ (M 249) n) (zcF σ) (σ 80 0).toNat (M 200 53) (M 253) (V 200 53) (V 253)) := by
  have hnn := r_nn h
  have hti := r_ti h
  intro r
  induction r with
  | zero =>
    intro d hd n M hn hA hv hJ
    have hn : (n : Int) = σ 80 0 := by omega
    have hN : (σ 80 0).toNat = n := by omega
    obtain ⟨d, rfl⟩ : ∃ e, d = e + 1 := ⟨d - 1, by omega⟩
    have lb := zlfs_b (σ := σ) (M 249) n
    show zSat (fX12_tries_s (fX12_tries d) n (zlfs σ (M 249) n) M) _
    unfold fX12_tries_s
    have e43 : zup M 200 54 (max (M 200 54) n) 200 43 = σ 80 0 := by rw [zup_nk (by decide)]; exact a_nn h hA
    rw [e43, zup_nk (show (53 : Int) ≠ 54 by decide)]
    have tf : zTf σ n M (zup M 200 54 (max (M 200 54) n)) := ⟨fun c a b e => by funext q; exact zup_ne e, fun q a b => zup_nk b, fun q _ => zup_ne (by decide)⟩
    have far1 : (n : Int) ≤ zup M 200 54 (max (M 200 54) n) 200 54 := by rw [zup_eq]; omega
    have fa1 : zFa M (zup M 200 54 (max (M 200 54) n)) σ := by
      refine ⟨by rw [zup_eq]; omega, ?_⟩
      rw [zup_eq]
      by_cases c : M 200 54 < n
      · right; rw [show max (M 200 54) (n : Int) = n by omega]; exact ⟨M 249, hv⟩
      · left; omega
    by_cases c0 : zlfs σ (M 249) n < M 200 53
    · rw [if_pos c0, if_pos hn, zS_bd]
      refine zs_m (m_triesCopy (fX12_tries d)) ?_
      rintro ⟨y, V⟩ ⟨g1, g2⟩
      dsimp only at g1 g2
      have v53 : V 200 53 = zlfs σ (M 249) n := by rw [g1 200 (by decide), zup_eq]
      have v54 : V 200 54 = max (M 200 54) n := by rw [g1 200 (by decide), zup_nk (by decide), zup_eq]
      have b2 : ∀ q : Nat, q < n → V 253 q = M 249 q := fun q hq => by
        rw [g2 q (by omega) (by omega), zup_ne (by decide), zup_ne (by decide)]
      refine ⟨⟨fun c a b e => ?_, fun q a b => ?_, fun q _ => ?_⟩, ⟨fun _ => ?_, ?_⟩, ⟨?_, ?_⟩, ?_, fun t m a1 a2 a3 a4 => ?_, ?_⟩
      · show V c = M c
        funext q; rw [g1 c b, zup_ne e, zup_ne e]
      · show V 200 q = _; rw [g1 200 (by decide), zup_nk a, zup_nk b]
      · show V 249 q = _; rw [g1 249 (by decide), zup_ne (by decide), zup_ne (by decide)]
      · show σ 80 0 ≤ V 200 54; rw [v54]; omega
      · show V 200 54 ≤ σ 80 0; rw [v54]; have := hJ.2; omega
      · show M 200 54 ≤ V 200 54; rw [v54]; omega
      · show V 200 54 = M 200 54 ∨ ∃ t, zvalid σ t (V 200 54).toNat
        rw [v54]; have := fa1.2; rw [zup_eq] at this; exact this
      · show (n : Int) ≤ V 200 54; rw [v54]; omega
      · show (m : Int) ≤ V 200 54; rw [v54]; omega
      · right
        show zCp σ (M 249) n (V 253) ∧ V 200 53 = zcF σ (V 253) ∧ V 200 53 < M 200 53 ∧ _
        have ev : zvalid σ (V 253) n := zvalid_p (fun q hq => (b2 q hq).symm) hv
        have el : zlfs σ (V 253) n = zlfs σ (M 249) n := zlfs_p b2
        refine ⟨⟨by rw [hN]; exact ev, b2⟩, by rw [v53]; unfold zcF; rw [hN, el], by rw [v53]; exact c0, fun t ht => Or.inr ⟨?_, ?_⟩⟩
        · show V 200 53 = _
          rw [v53]; unfold zcF; rw [hN]; exact (zlfs_p fun q hq => ht.2 q hq).symm
        · show zlex (V 253) t _
          rw [hN]; exact Or.inl fun q hq => (b2 q hq).trans (ht.2 q hq).symm
    · rw [if_neg c0]
      refine ⟨tf, ⟨fun q => ?_, ?_⟩, fa1, far1, fun t m a1 a2 a3 a4 => by rw [zup_eq]; omega, ?_⟩
      · rw [zup_eq]; omega
      · rw [zup_eq]; have := hJ.2; omega
      · have e253 : zup M 200 54 (max (M 200 54) n) 253 = M 253 := funext fun q => zup_ne (by decide)
        rw [zup_nk (show (53 : Int) ≠ 54 by decide), e253]
        refine zBest.none fun t ht => ?_
        unfold zcF; rw [hN, zlfs_p (σ := σ) (fg := t) (fg' := M 249) (fun q hq => ht.2 q hq)]; omega
  | succ r ih =>
    intro d hd n M hn hA hv hJ
    obtain ⟨d, rfl⟩ : ∃ e, d = e + 1 := ⟨d - 1, by omega⟩
    have lb := zlfs_b (σ := σ) (M 249) n
    have hnN : (n : Int) < σ 80 0 := by omega
    show zSat (fX12_tries_s (fX12_tries d) n (zlfs σ (M 249) n) M) _
    unfold fX12_tries_s
    have e43 : zup M 200 54 (max (M 200 54) n) 200 43 = σ 80 0 := by rw [zup_nk (by decide)]; exact a_nn h hA
    rw [e43, zup_nk (show (53 : Int) ≠ 54 by decide)]
    generalize hM1 : zup M 200 54 (max (M 200 54) n) = M1
    have m54 : M1 200 54 = max (M 200 54) n := by rw [← hM1, zup_eq]
    have m53 : M1 200 53 = M 200 53 := by rw [← hM1, zup_nk (by decide)]
    have mc : ∀ c : Nat, c ≠ 200 → M1 c = M c := fun c e => by funext q; rw [← hM1, zup_ne e]
    have tf : zTf σ n M M1 := ⟨fun c a b e => mc c e, fun q a b => by rw [← hM1, zup_nk b], fun q _ => by rw [mc 249 (by decide)]⟩
    have fa1 : zFa M M1 σ := by
      refine ⟨by rw [m54]; omega, ?_⟩
      rw [m54]
      by_cases c : M 200 54 < n
      · right; rw [show max (M 200 54) (n : Int) = n by omega]; exact ⟨M 249, hv⟩
      · left; omega
    have J1 : zJ σ M1 := ⟨fun q => by rw [m54]; have := hJ.1 (by omega); omega, by rw [m54]; have := hJ.2; omega⟩
    by_cases c0 : zlfs σ (M 249) n < M 200 53
    · rw [if_pos c0, if_neg (by omega), zS_bd]
      refine zs_m (P := fun e => zTf σ n M1 e.2 ∧ zJ σ e.2 ∧ zFa M1 e.2 σ ∧ zFar σ (M 249) n (2 * σ 59 1) (e.2 200 54) ∧ zBest (fun t => zCp σ (M 249) n t ∧ t n < 2 * σ 59 1) (zcF σ) (σ 80 0).toNat (M1 200 53) (M1 253) (e.2 200 53) (e.2 253)) ?_ ?_
      · refine zit_i2 (fun y V => fX12_tries_l63 (fX12_tries d) n (zlfs σ (M 249) n) y V) (fun m y V => m = (2 * σ 59 1 - y).toNat ∧ 0 ≤ y ∧ y ≤ 2 * σ 59 1 ∧ zTf σ n M1 V ∧ zJ σ V ∧ zFa M1 V σ ∧ zFar σ (M 249) n y (V 200 54) ∧ zBest (fun t => zCp σ (M 249) n t ∧ t n < y) (zcF σ) (σ 80 0).toNat (M1 200 53) (M1 253) (V 200 53) (V 253)) ?_ _ ⟨rfl, by omega, by omega, zTf.refl n, J1, ⟨Int.le_refl _, Or.inl rfl⟩, ?_, ?_⟩
        · rintro m y V ⟨hm, y0, y1, tV, jV, fV, rV, bV⟩
          have hAV : zAx σ V := (tf.trans tV).ax hA
          show zSat (fX12_tries_l63 (fX12_tries d) n (zlfs σ (M 249) n) y V) _
          unfold fX12_tries_l63 fX12_tries_j108
          rw [a_st h hAV (k := 1) (by decide) (by decide), zw_i (x := 2 * σ 59 1) (by omega) (by omega), zgd_t (by decide)]
          by_cases cy : 2 * σ 59 1 ≤ y
          · rw [if_pos cy]
            have : y = 2 * σ 59 1 := by omega
            subst this
            exact ⟨tV, jV, fV, rV, bV⟩
          rw [if_neg cy, zgd_t ⟨by omega, by omega⟩]
          generalize hV1 : zup V 249 n y = V1
          have v9 : ∀ q : Nat, q < n → V1 249 q = M 249 q := fun q hq => by
            rw [← hV1, zup_nk (by omega), tV.2.2 q (Or.inl (by omega)), mc 249 (by decide)]
          have v9n : V1 249 n = y := by rw [← hV1, zup_eq]
          have vc : ∀ c : Nat, c ≠ 249 → V1 c = V c := fun c e => by funext q; rw [← hV1, zup_ne e]
          have hA1 : zAx σ V1 := by rw [← hV1]; exact hAV.up (Or.inr rfl)
          have hr1 : ∀ q : Int, 0 ≤ q → q ≤ n → -1 ≤ V1 249 q ∧ V1 249 q < 2 * σ 59 1 := fun q q0 q1 => by
            by_cases e : q = n
            · rw [e, v9n]; omega
            · have := hv q.toNat (by omega)
              rw [show ((q.toNat : Nat) : Int) = q by omega] at this
              have e9 := v9 q.toNat (by omega)
              rw [show ((q.toNat : Nat) : Int) = q by omega] at e9
              rw [e9]; omega
          have tV1 : zTf σ n M1 V1 := ⟨fun c a b e => by rw [vc c a]; exact tV.1 c a b e, fun q a b => by rw [vc 200 (by decide)]; exact tV.2.1 q a b, fun q hq => by rw [← hV1, zup_nk (by omega)]; exact tV.2.2 q hq⟩
          have jV1 : zJ σ V1 := by unfold zJ at jV ⊢; rw [vc 200 (by decide)]; exact jV
          rw [m_wrongIs (fg := V1 249) h hA1 (n := n) (by omega) hnN (fun _ _ _ => rfl) hr1, zbd_s, zw_i (x := y + 1) (by omega) (by omega)]
          -- a fingering with y here agrees with V1 so far
          have ag : ∀ t : Int → Int, (∀ q : Nat, q < n → t q = M 249 q) → t n = y → ∀ q : Nat, q ≤ n → t q = V1 249 q := fun t ht hty q hq => by
            by_cases e : q = n
            · subst e; rw [hty, v9n]
            · rw [ht q (by omega), v9 q (by omega)]
          by_cases cw : zwro σ (V1 249) n = 0
          · rw [if_pos cw, m_stays (fg := V1 249) h hA1 (n := n) (by omega) hnN (fun _ _ _ => rfl), zbd_s]
            have hv1 : zvalid σ (V1 249) (n + 1) := fun q hq => by
              by_cases e : q = n
              · subst e; exact ⟨by rw [v9n]; omega, by rw [v9n]; omega, cw⟩
              · have v := hv q (by omega)
                rw [v9 q (by omega), zwro_p (σ := σ) (m := q) (fg := V1 249) (fg' := M 249) (fun r hr => v9 r (by omega))]; exact v
            have lf : zlfs σ (V1 249) (n + 1) = zlfs σ (M 249) n + (if zsty σ (V1 249) n then 0 else 1) := by
              show zlfs σ (V1 249) n + (if zsty σ (V1 249) n then 0 else 1) = _
              rw [zlfs_p (σ := σ) (m := n) (fg := V1 249) (fg' := M 249) v9]
            have rc := ih d (by omega) (n + 1) V1 (by omega) hA1 hv1 jV1
            rw [lf] at rc
            have stp : zSat (zbd (fX12_tries d ((n + 1 : Nat) : Int) (zlfs σ (M 249) n + (if zsty σ (V1 249) n then 0 else 1)) V1) fun M16 => some (Sum.inl (y + 1, M16))) (fun x : (Int × zMem) ⊕ (Int × zMem) => zel x (fun s' => ∃ m', m' < m ∧ m' = (2 * σ 59 1 - s'.1).toNat ∧ 0 ≤ s'.1 ∧ s'.1 ≤ 2 * σ 59 1 ∧ zTf σ n M1 s'.2 ∧ zJ σ s'.2 ∧ zFa M1 s'.2 σ ∧ zFar σ (M 249) n s'.1 (s'.2 200 54) ∧ zBest (fun t => zCp σ (M 249) n t ∧ t n < s'.1) (zcF σ) (σ 80 0).toNat (M1 200 53) (M1 253) (s'.2 200 53) (s'.2 253)) (fun e => zTf σ n M1 e.2 ∧ zJ σ e.2 ∧ zFa M1 e.2 σ ∧ zFar σ (M 249) n (2 * σ 59 1) (e.2 200 54) ∧ zBest (fun t => zCp σ (M 249) n t ∧ t n < 2 * σ 59 1) (zcF σ) (σ 80 0).toNat (M1 200 53) (M1 253) (e.2 200 53) (e.2 253))) := by
              rw [zS_bd]
              refine zs_m rc ?_
              rintro W ⟨tW, jW, fW, nW, cW, bW⟩
              rw [vc 200 (by decide), vc 253 (by decide)] at bW
              have fV1 : zFa M1 V1 σ := by unfold zFa at fV ⊢; rw [vc 200 (by decide)]; exact fV
              refine ⟨(2 * σ 59 1 - (y + 1)).toNat, by omega, rfl, by show 0 ≤ y + 1; omega, by show y + 1 ≤ _; omega, ?_, jW, fV1.trans fW, ?_, ?_⟩
              · exact tV1.trans ⟨tW.1, tW.2.1, fun q hq => tW.2.2 q (by omega)⟩
              · intro t m' a1 a2 a3 a4 a5
                have a5 : t n < y + 1 := a5
                show (m' : Int) ≤ W 200 54
                by_cases e : t n = y
                · exact cW t m' (by omega) a2 a3 (fun q hq => ag t a4 e q (by omega))
                · have := rV t m' a1 a2 a3 a4 (by omega)
                  have f1 := fW.1
                  rw [vc 200 (by decide)] at f1
                  omega
              · show zBest (fun t => zCp σ (M 249) n t ∧ t n < y + 1) (zcF σ) (σ 80 0).toNat (M1 200 53) (M1 253) (W 200 53) (W 253)
                have bW' : zBest (fun t => zCp σ (M 249) n t ∧ t n = y) (zcF σ) (σ 80 0).toNat (V 200 53) (V 253) (W 200 53) (W 253) := bW.iff fun t => by
                  constructor
                  · rintro ⟨g1, g2⟩
                    exact ⟨⟨g1, fun q hq => (g2 q (by omega)).trans (v9 q hq)⟩, (g2 n (by omega)).trans v9n⟩
                  · rintro ⟨⟨g1, g2⟩, g3⟩
                    exact ⟨g1, fun q hq => ag t g2 g3 q (by omega)⟩
                refine (zBest.comp ?_ bV bW' ?_).iff fun t => ?_
                · intro t t' ht
                  refine ⟨fun g => ⟨⟨zvalid_p ht g.1.1, fun q hq => by rw [← ht q (by omega)]; exact g.1.2 q hq⟩, by rw [← ht n (by omega)]; exact g.2⟩, zlfs_p ht⟩
                · intro t1 t2 g1 g2
                  exact Or.inr ⟨n, by omega, fun j hj => (g1.1.2 j hj).trans (g2.1.2 j hj).symm, by have := g1.2; have := g2.2; omega⟩
                · constructor
                  · rintro (g | g)
                    · exact ⟨g.1, by have := g.2; omega⟩
                    · exact ⟨g.1, by have := g.2; omega⟩
                  · intro g
                    by_cases e : t n = y
                    · exact Or.inr ⟨g.1, e⟩
                    · exact Or.inl ⟨g.1, by have := g.2; omega⟩
            by_cases cs : zsty σ (V1 249) n
            · rw [if_pos cs] at stp
              rw [if_pos cs, if_neg (show ¬ (1 : Int) = 0 by decide), zw_i (x := zlfs σ (M 249) n + 0) (by omega) (by omega), zw_i (x := (n : Int) + 1) (by omega) (by omega), show (n : Int) + 1 = ((n + 1 : Nat) : Int) by omega]
              exact stp
            · rw [if_neg cs] at stp
              rw [if_neg cs, if_pos rfl, zw_i (x := zlfs σ (M 249) n + 1) (by omega) (by omega), zw_i (x := (n : Int) + 1) (by omega) (by omega), show (n : Int) + 1 = ((n + 1 : Nat) : Int) by omega]
              exact stp
          · rw [if_neg cw]
            have no : ∀ t : Int → Int, (∀ q : Nat, q < n → t q = M 249 q) → t n = y → ∀ m : Nat, n < m → ¬ zvalid σ t m := fun t ht hty m hm hvt => by
              have := (hvt n hm).2.2
              rw [zwro_p (σ := σ) (m := n) (fg := t) (fg' := V1 249) (ag t ht hty)] at this
              exact cw this
            have fV1 : zFa M1 V1 σ := by unfold zFa at fV ⊢; rw [vc 200 (by decide)]; exact fV
            refine ⟨(2 * σ 59 1 - (y + 1)).toNat, by omega, rfl, by show 0 ≤ y + 1; omega, by show y + 1 ≤ _; omega, tV1, jV1, fV1, ?_, ?_⟩
            · intro t m' a1 a2 a3 a4 a5
              have a5 : t n < y + 1 := a5
              show (m' : Int) ≤ V1 200 54
              rw [vc 200 (by decide)]
              by_cases e : t n = y
              · exact absurd a3 (no t a4 e m' a1)
              · exact rV t m' a1 a2 a3 a4 (by omega)
            · show zBest (fun t => zCp σ (M 249) n t ∧ t n < y + 1) (zcF σ) (σ 80 0).toNat (M1 200 53) (M1 253) (V1 200 53) (V1 253)
              rw [vc 200 (by decide), vc 253 (by decide)]
              refine bV.iff fun t => ⟨fun g => ⟨g.1, by have := g.2; omega⟩, fun g => ⟨g.1, ?_⟩⟩
              by_cases e : t n = y
              · exact absurd g.1.1 (no t g.1.2 e _ (by omega))
              · have := g.2; omega
        · intro t m' a1 a2 a3 a4 a5
          have := (a3 n a1).1
          omega
        · exact zBest.none fun t ht => by
            have := (ht.1.1 n (by omega)).1
            have := ht.2
            omega
      · rintro ⟨y, V⟩ ⟨tV, jV, fV, rV, bV⟩
        dsimp only at tV jV fV rV bV
        refine ⟨tf.trans tV, jV, fa1.trans fV, ?_, fun t m a1 a2 a3 a4 => ?_, ?_⟩
        · have := fV.1; rw [m54] at this
          show (n : Int) ≤ V 200 54
          omega
        · show (m : Int) ≤ V 200 54
          have f1 := fV.1
          rw [m54] at f1
          by_cases e : m = n
          · omega
          · exact rV t m (by omega) a2 a3 a4 (a3 n (by omega)).2.1
        · rw [m53, mc 253 (by decide)] at bV
          exact bV.iff fun t => ⟨fun g => g.1, fun g => ⟨g, (g.1 n (by omega)).2.1⟩⟩
    · rw [if_neg c0]
      refine ⟨tf, J1, fa1, by rw [m54]; omega, fun t m a1 a2 a3 a4 => ?_, ?_⟩
      · have := hJ.1 (by omega)
        rw [m54]; omega
      · rw [m53, mc 253 (by decide)]
        refine zBest.none fun t ht => ?_
        have e1 : zlfs σ t n = zlfs σ (M 249) n := zlfs_p fun q hq => ht.2 q hq
        have e2 : zlfs σ t n ≤ zlfs σ t (σ 80 0).toNat := zsum_mono (by omega) (fun q _ _ => by show 0 ≤ (if zsty σ t q then (0 : Int) else 1); split <;> omega)
        unfold zcF
        omega
end TRY
