/-! PURE PART, 33: the class's search for fingerings -/
section SEA
variable {σ M : zMem} {k x : Int}
def zSf (n : Nat) (M V : zMem) : Prop := (∀ c : Nat, c ≠ 130 → c ≠ 134 → c ≠ 135 → V c = M c) ∧ (∀ q : Int, q ≠ 8 → q ≠ 9 → V 130 q = M 130 q) ∧ ∀ q : Int, q < n → V 134 q = M 134 q
theorem zSf.refl (n : Nat) : zSf n M M := ⟨fun _ _ _ _ => rfl, fun _ _ _ => rfl, fun _ _ => rfl⟩
theorem zSf.trans {n : Nat} {V W : zMem} (h : zSf n M V) (g : zSf n V W) : zSf n M W := ⟨fun c a b d => (g.1 c a b d).trans (h.1 c a b d), fun q a b => (g.2.1 q a b).trans (h.2.1 q a b), fun q hq => (g.2.2 q hq).trans (h.2.2 q hq)⟩
theorem zSf.ax {n : Nat} {V : zMem} (hA : zAx σ M) (h : zSf n M V) : zAx σ V := fun c q hc hs => by
  by_cases c1 : c = 130 ∨ c = 134 ∨ c = 135
  · rcases c1 with rfl | rfl | rfl <;> cases hs
  · rw [h.1 c (fun e => c1 (Or.inl e)) (fun e => c1 (Or.inr (Or.inl e))) (fun e => c1 (Or.inr (Or.inr e)))]; exact hA c q hc hs
def zJc (σ M : zMem) : Prop := (M 130 8 < 1000 → σ 80 0 ≤ M 130 9) ∧ M 130 9 ≤ σ 80 0
def zFc (M V : zMem) (σ : zMem) : Prop := M 130 9 ≤ V 130 9 ∧ (V 130 9 = M 130 9 ∨ ∃ t : Int → Int, zvalid σ t (V 130 9).toNat)
theorem zFc.trans {V W : zMem} (h : zFc M V σ) (g : zFc V W σ) : zFc M W σ := by
  refine ⟨Int.le_trans h.1 g.1, ?_⟩
  rcases g.2 with e | e
  · rcases h.2 with f | f
    · exact Or.inl (e.trans f)
    · rw [e]; exact Or.inr f
  · exact Or.inr e
/-- what was counted ahead of the search -/
def zHd (σ M : zMem) : Prop := (∀ f : Nat, (f : Int) ≤ σ 80 0 → (0 ≤ M 136 f ∧ M 136 f ≤ 8) ∧ ∀ t : Int → Int, zvalid σ t (σ 80 0).toNat → M 136 f ≤ zlfs σ t (σ 80 0).toNat - zlfs σ t f) ∧ M 136 (σ 80 0) = 0 ∧ (0 ≤ M 130 7 ∧ M 130 7 ≤ σ 80 0) ∧ (M 130 7 < σ 80 0 → ∀ t : Int → Int, ¬ zvalid σ t ((M 130 7).toNat + 1))
theorem zHd.f {n : Nat} {V : zMem} (hH : zHd σ M) (h : zSf n M V) : zHd σ V := by
  unfold zHd at hH ⊢
  rw [h.1 136 (by decide) (by decide) (by decide), h.2.1 7 (by decide) (by decide)]; exact hH
theorem e_isSettled (hA : zAx σ M) : fX0_isSettled M = some (if M 130 8 ≤ M 136 0 ∨ (M 130 7 < σ 80 0 ∧ M 130 7 ≤ M 130 9) then 1 else 0) := by
  unfold fX0_isSettled
  rw [hA.fl 80 rfl (by decide), zgd_t (by decide)]
  by_cases c1 : M 130 8 ≤ M 136 0
  · rw [if_pos c1, if_pos (Or.inl c1)]
  · rw [if_neg c1]
    by_cases c2 : σ 80 0 ≤ M 130 7
    · rw [if_pos c2, if_neg (by omega)]
    · rw [if_neg c2]
      by_cases c3 : M 130 9 < M 130 7
      · rw [if_pos c3, if_neg (by omega)]
      · rw [if_neg c3, if_pos (by omega)]
set_option maxRecDepth 20000 in
theorem e_search (h : St σ) (h8 : σ 80 0 ≤ 8) : ∀ (r d : Nat), r < d → ∀ (n : Nat) (M : zMem), (n : Int) + r = σ 80 0 → zAx σ M → zHd σ M → (n : Int) ≤ M 130 7 → zvalid σ (M 134) n → zJc σ M → zlfs σ (M 134) n + M 136 n < M 130 8 → zSat (fX0_search d n (zlfs σ (M 134) n) M) (fun V => zSf n M V ∧ zJc σ V ∧ zFc M V σ ∧ (n : Int) ≤ V 130 9 ∧ (∀ (t : Int → Int) (m : Nat), n ≤ m → (m : Int) ≤ σ 80 0 → zvalid σ t m → (∀ q : Nat, q < n → t q = M 134 q) → (m : Int) ≤ V 130 9) ∧ zBest (zCp σ (M 134) n) (zcF σ) (σ 80 0).toNat (M 130 8) (M 135) (V 130 8) (V 135)) := by
  have hnn := r_nn h
  have hti := r_ti h
  intro r
  induction r with
  | zero =>
    intro d hd n M hn hA hH hP hv hJ hl
    have hn : (n : Int) = σ 80 0 := by omega
    have hN : (σ 80 0).toNat = n := by omega
    obtain ⟨d, rfl⟩ : ∃ e, d = e + 1 := ⟨d - 1, by omega⟩
    have lb := zlfs_b (σ := σ) (M 134) n
    obtain ⟨H1, H2, H3, H4⟩ := hH
    show zSat (fX0_search_s (fX0_search d) n (zlfs σ (M 134) n) M) _
    unfold fX0_search_s
    rw [zup_nk (show (7 : Int) ≠ 9 by decide), if_neg (by omega), zup_ne (show (80 : Nat) ≠ 130 by decide), hA.fl 80 rfl (by decide), if_pos hn, zgd_t (by omega)]
    generalize hV : zcpy (zup (zup M 130 9 (max (M 130 9) n)) 130 8 (zlfs σ (M 134) n)) 134 0 135 0 8 = V
    have vc : ∀ c : Nat, c ≠ 130 → c ≠ 135 → V c = M c := fun c c1 c2 => by funext q; rw [← hV, zcpy_n c2, zup_ne c1, zup_ne c1]
    have v8 : V 130 8 = zlfs σ (M 134) n := by rw [← hV, zcpy_n (by decide), zup_eq]
    have v9 : V 130 9 = max (M 130 9) n := by rw [← hV, zcpy_n (by decide), zup_nk (by decide), zup_eq]
    have b2 : ∀ q : Nat, q < n → V 135 q = M 134 q := fun q hq => by rw [← hV, zcpy_e (by omega) (by omega), zup_ne (by decide), zup_ne (by decide)]
    have el : zlfs σ (V 135) n = zlfs σ (M 134) n := zlfs_p b2
    have hnv : M 136 n = 0 := by rw [hn]; exact H2
    refine ⟨⟨fun c a b e => vc c a e, fun q a b => ?_, fun q _ => by rw [vc 134 (by decide) (by decide)]⟩, ⟨fun _ => by rw [v9]; omega, by rw [v9]; have := hJ.2; omega⟩, ⟨by rw [v9]; omega, ?_⟩, by rw [v9]; omega, fun t m a1 a2 a3 a4 => by rw [v9]; omega, Or.inr ⟨⟨by rw [hN]; exact zvalid_p (fun q hq => (b2 q hq).symm) hv, b2⟩, by rw [v8]; unfold zcF; rw [hN, el], by rw [v8]; omega, fun t ht => Or.inr ⟨?_, ?_⟩⟩⟩
    · rw [← hV, zcpy_n (by decide), zup_nk a, zup_nk b]
    · rw [v9]
      by_cases c : M 130 9 < n
      · right; rw [show max (M 130 9) (n : Int) = n by omega]; exact ⟨M 134, hv⟩
      · left; omega
    · rw [v8]; unfold zcF; rw [hN]; exact (zlfs_p fun q hq => ht.2 q hq).symm
    · rw [hN]; exact Or.inl fun q hq => (b2 q hq).trans (ht.2 q hq).symm
  | succ r ih =>
    intro d hd n M hn hA hH hP hv hJ hl
    obtain ⟨d, rfl⟩ : ∃ e, d = e + 1 := ⟨d - 1, by omega⟩
    have lb := zlfs_b (σ := σ) (M 134) n
    have hnN : (n : Int) < σ 80 0 := by omega
    have hH' := hH
    obtain ⟨H1, H2, H3, H4⟩ := hH'
    show zSat (fX0_search_s (fX0_search d) n (zlfs σ (M 134) n) M) _
    unfold fX0_search_s
    rw [zup_nk (show (7 : Int) ≠ 9 by decide), zup_ne (show (80 : Nat) ≠ 130 by decide), hA.fl 80 rfl (by decide)]
    generalize hM1 : zup M 130 9 (max (M 130 9) n) = M1
    have m9 : M1 130 9 = max (M 130 9) n := by rw [← hM1, zup_eq]
    have m8 : M1 130 8 = M 130 8 := by rw [← hM1, zup_nk (by decide)]
    have mc : ∀ c : Nat, c ≠ 130 → M1 c = M c := fun c e => by funext q; rw [← hM1, zup_ne e]
    have tf : zSf n M M1 := ⟨fun c a b e => mc c a, fun q a b => by rw [← hM1, zup_nk b], fun q _ => by rw [mc 134 (by decide)]⟩
    have fa1 : zFc M M1 σ := by
      refine ⟨by rw [m9]; omega, ?_⟩
      rw [m9]
      by_cases c : M 130 9 < n
      · right; rw [show max (M 130 9) (n : Int) = n by omega]; exact ⟨M 134, hv⟩
      · left; omega
    have J1 : zJc σ M1 := ⟨fun q => by rw [m9]; have := hJ.1 (by omega); omega, by rw [m9]; have := hJ.2; omega⟩
    by_cases cP : (n : Int) < M 130 7
    · rw [if_pos cP, zS_bd]
      refine zs_m (P := fun e => zSf n M1 e.2 ∧ zJc σ e.2 ∧ zFc M1 e.2 σ ∧ (∀ (t : Int → Int) (m : Nat), n < m → (m : Int) ≤ σ 80 0 → zvalid σ t m → (∀ q : Nat, q < n → t q = M 134 q) → (m : Int) ≤ e.2 130 9) ∧ zBest (zCp σ (M 134) n) (zcF σ) (σ 80 0).toNat (M1 130 8) (M1 135) (e.2 130 8) (e.2 135)) ?_ ?_
      · refine zit_i2 (fun y V => fX0_search_l54 (fX0_search d) n (zlfs σ (M 134) n) y V) (fun m y V => m = (2 * σ 59 1 - y).toNat ∧ 0 ≤ y ∧ y ≤ 2 * σ 59 1 ∧ zSf n M1 V ∧ zJc σ V ∧ zFc M1 V σ ∧ zFar σ (M 134) n y (V 130 9) ∧ zBest (fun t => zCp σ (M 134) n t ∧ t n < y) (zcF σ) (σ 80 0).toNat (M1 130 8) (M1 135) (V 130 8) (V 135)) ?_ _ ⟨rfl, by omega, by omega, zSf.refl n, J1, ⟨Int.le_refl _, Or.inl rfl⟩, ?_, ?_⟩
        · rintro m y V ⟨hm, y0, y1, tV, jV, fV, rV, bV⟩
          have hAV : zAx σ V := (tf.trans tV).ax hA
          have hHV : zHd σ V := hH.f (tf.trans tV)
          have e7 : V 130 7 = M 130 7 := (tf.trans tV).2.1 7 (by decide) (by decide)
          have e136 : V 136 = M 136 := (tf.trans tV).1 136 (by decide) (by decide) (by decide)
          show zSat (fX0_search_l54 (fX0_search d) n (zlfs σ (M 134) n) y V) _
          unfold fX0_search_l54 fX0_search_j119
          rw [hAV.fl 59 rfl (by decide), zw_i (x := 2 * σ 59 1) (by omega) (by omega), zgd_t (by decide)]
          by_cases cy : 2 * σ 59 1 ≤ y
          · rw [if_pos cy]
            have : y = 2 * σ 59 1 := by omega
            subst this
            refine ⟨tV, jV, fV, fun t m a1 a2 a3 a4 => rV t m a1 a2 a3 a4 (a3 n a1).2.1, bV.iff fun t => ⟨fun g => g.1, fun g => ⟨g, (g.1 n (by omega)).2.1⟩⟩⟩
          rw [if_neg cy, e_isSettled hAV, zbd_s]
          by_cases cS : V 130 8 ≤ V 136 0 ∨ (V 130 7 < σ 80 0 ∧ V 130 7 ≤ V 130 9)
          · rw [if_pos cS, if_neg (show ¬ (1 : Int) = 0 by decide)]
            have rest : ∀ t, zCp σ (M 134) n t → V 130 8 ≤ zcF σ t := fun t ht => by
              rcases cS with q | q
              · have a := (H1 0 (by omega)).2 t ht.1
                rw [e136] at q
                have : zlfs σ t 0 = 0 := rfl
                have q : V 130 8 ≤ M 136 ((0 : Nat) : Int) := q
                unfold zcF; omega
              · rw [e7] at q
                exact absurd (zvalid_m (m' := (M 130 7).toNat + 1) (by omega) ht.1) (H4 q.1 t)
            refine ⟨tV, jV, fV, fun t m a1 a2 a3 a4 => ?_, ?_⟩
            · show (m : Int) ≤ V 130 9
              rcases cS with q | q
              · have a := (H1 0 (by omega)).1
                rw [e136] at q
                have q : V 130 8 ≤ M 136 ((0 : Nat) : Int) := q
                have := jV.1 (by omega)
                omega
              · rw [e7] at q
                by_cases d : (m : Int) ≤ V 130 9
                · exact d
                · exact absurd (zvalid_m (m' := (M 130 7).toNat + 1) (by omega) a3) (H4 q.1 t)
            · show zBest _ _ _ _ _ (V 130 8) (V 135)
              have L : zLoc (fun t => zCp σ (M 134) n t ∧ t n < y) (zcF σ) (σ 80 0).toNat := by
                intro t t' ht
                refine ⟨fun g => ⟨⟨zvalid_p ht g.1.1, fun q hq => by rw [← ht q (by omega)]; exact g.1.2 q hq⟩, by rw [← ht n (by omega)]; exact g.2⟩, zlfs_p ht⟩
              refine (zBest.comp L bV (zBest.none (C := fun t => zCp σ (M 134) n t ∧ y ≤ t n) fun t ht => rest t ht.1) ?_).iff fun t => ?_
              · intro t1 t2 g1 g2
                exact Or.inr ⟨n, by omega, fun j hj => (g1.1.2 j hj).trans (g2.1.2 j hj).symm, by have := g1.2; have := g2.2; omega⟩
              · constructor
                · rintro (g | g)
                  · exact g.1
                  · exact g.1
                · intro g
                  by_cases e : t n < y
                  · exact Or.inl ⟨g, e⟩
                  · exact Or.inr ⟨g, by omega⟩
          rw [if_neg cS, if_pos rfl, zgd_t ⟨by omega, by omega⟩]
          generalize hV1 : zup V 134 n y = V1
          have v9 : ∀ q : Nat, q < n → V1 134 q = M 134 q := fun q hq => by
            rw [← hV1, zup_nk (by omega), tV.2.2 q (by omega), mc 134 (by decide)]
          have v9n : V1 134 n = y := by rw [← hV1, zup_eq]
          have vc : ∀ c : Nat, c ≠ 134 → V1 c = V c := fun c e => by funext q; rw [← hV1, zup_ne e]
          have hA1 : zAx σ V1 := by rw [← hV1]; exact hAV.up (Or.inl rfl)
          have hr1 : ∀ q : Int, 0 ≤ q → q ≤ n → -1 ≤ V1 134 q := fun q q0 q1 => by
            by_cases e : q = n
            · rw [e, v9n]; omega
            · have := hv q.toNat (by omega)
              rw [show ((q.toNat : Nat) : Int) = q by omega] at this
              have e9 := v9 q.toNat (by omega)
              rw [show ((q.toNat : Nat) : Int) = q by omega] at e9
              rw [e9]; omega
          have tV1 : zSf n M1 V1 := ⟨fun c a b e => by rw [vc c b]; exact tV.1 c a b e, fun q a b => by rw [vc 130 (by decide)]; exact tV.2.1 q a b, fun q hq => by rw [← hV1, zup_nk (by omega)]; exact tV.2.2 q hq⟩
          have jV1 : zJc σ V1 := by unfold zJc at jV ⊢; rw [vc 130 (by decide)]; exact jV
          have fV1 : zFc M1 V1 σ := by unfold zFc at fV ⊢; rw [vc 130 (by decide)]; exact fV
          rw [e_faultOf (fg := V1 134) h hA1 (n := n) (by omega) hnN (by omega) (fun _ _ _ => rfl) hr1, zbd_s, zw_i (x := y + 1) (by omega) (by omega)]
          have ag : ∀ t : Int → Int, (∀ q : Nat, q < n → t q = M 134 q) → t n = y → ∀ q : Nat, q ≤ n → t q = V1 134 q := fun t ht hty q hq => by
            by_cases e : q = n
            · subst e; rw [hty, v9n]
            · rw [ht q (by omega), v9 q (by omega)]
          -- nothing of y is better, and one comes no farther by it
          have skip : (∀ t, zCp σ (M 134) n t → t n = y → V 130 8 ≤ zcF σ t) → (∀ (t : Int → Int) (m : Nat), n < m → (m : Int) ≤ σ 80 0 → zvalid σ t m → (∀ q : Nat, q < n → t q = M 134 q) → t n = y → (m : Int) ≤ V 130 9) → zel (.inl (y + 1, V1) : (Int × zMem) ⊕ (Int × zMem)) (fun s' => ∃ m', m' < m ∧ m' = (2 * σ 59 1 - s'.1).toNat ∧ 0 ≤ s'.1 ∧ s'.1 ≤ 2 * σ 59 1 ∧ zSf n M1 s'.2 ∧ zJc σ s'.2 ∧ zFc M1 s'.2 σ ∧ zFar σ (M 134) n s'.1 (s'.2 130 9) ∧ zBest (fun t => zCp σ (M 134) n t ∧ t n < s'.1) (zcF σ) (σ 80 0).toNat (M1 130 8) (M1 135) (s'.2 130 8) (s'.2 135)) (fun e => zSf n M1 e.2 ∧ zJc σ e.2 ∧ zFc M1 e.2 σ ∧ (∀ (t : Int → Int) (m : Nat), n < m → (m : Int) ≤ σ 80 0 → zvalid σ t m → (∀ q : Nat, q < n → t q = M 134 q) → (m : Int) ≤ e.2 130 9) ∧ zBest (zCp σ (M 134) n) (zcF σ) (σ 80 0).toNat (M1 130 8) (M1 135) (e.2 130 8) (e.2 135)) := by
            intro hb hfar
            refine ⟨(2 * σ 59 1 - (y + 1)).toNat, by omega, rfl, by show 0 ≤ y + 1; omega, by show y + 1 ≤ _; omega, tV1, jV1, fV1, ?_, ?_⟩
            · intro t m' a1 a2 a3 a4 a5
              have a5 : t n < y + 1 := a5
              show (m' : Int) ≤ V1 130 9
              rw [vc 130 (by decide)]
              by_cases e : t n = y
              · exact hfar t m' a1 a2 a3 a4 e
              · exact rV t m' a1 a2 a3 a4 (by omega)
            · show zBest (fun t => zCp σ (M 134) n t ∧ t n < y + 1) (zcF σ) (σ 80 0).toNat (M1 130 8) (M1 135) (V1 130 8) (V1 135)
              rw [vc 130 (by decide), vc 135 (by decide)]
              have L : zLoc (fun t => zCp σ (M 134) n t ∧ t n < y) (zcF σ) (σ 80 0).toNat := by
                intro t t' ht
                refine ⟨fun g => ⟨⟨zvalid_p ht g.1.1, fun q hq => by rw [← ht q (by omega)]; exact g.1.2 q hq⟩, by rw [← ht n (by omega)]; exact g.2⟩, zlfs_p ht⟩
              refine (zBest.comp L bV (zBest.none (C := fun t => zCp σ (M 134) n t ∧ t n = y) fun t ht => hb t ht.1 ht.2) ?_).iff fun t => ?_
              · intro t1 t2 g1 g2
                exact Or.inr ⟨n, by omega, fun j hj => (g1.1.2 j hj).trans (g2.1.2 j hj).symm, by have := g1.2; have := g2.2; omega⟩
              · constructor
                · rintro (g | g)
                  · exact ⟨g.1, by have := g.2; omega⟩
                  · exact ⟨g.1, by have := g.2; omega⟩
                · intro g
                  by_cases e : t n = y
                  · exact Or.inr ⟨g.1, e⟩
                  · exact Or.inl ⟨g.1, by have := g.2; omega⟩
          by_cases cw : zwro σ (V1 134) n = 0
          · rw [if_pos cw, e_liftsAt (fg := V1 134) h hA1 (n := n) (by omega) hnN (by omega) (fun _ _ _ => rfl) (hr1 n (by omega) (by omega)), zbd_s]
            have hv1 : zvalid σ (V1 134) (n + 1) := fun q hq => by
              by_cases e : q = n
              · subst e; exact ⟨by rw [v9n]; omega, by rw [v9n]; omega, cw⟩
              · have v := hv q (by omega)
                rw [v9 q (by omega), zwro_p (σ := σ) (m := q) (fg := V1 134) (fg' := M 134) (fun r hr => v9 r (by omega))]; exact v
            have lf : zlfs σ (V1 134) (n + 1) = zlfs σ (M 134) n + (if zsty σ (V1 134) n then 0 else 1) := by
              show zlfs σ (V1 134) n + (if zsty σ (V1 134) n then 0 else 1) = _
              rw [zlfs_p (σ := σ) (m := n) (fg := V1 134) (fg' := M 134) v9]
            have su := H1 (n + 1) (by omega)
            have e136n : V1 136 ((n : Int) + 1) = M 136 ((n + 1 : Nat) : Int) := by rw [vc 136 (by decide), e136, show (n : Int) + 1 = ((n + 1 : Nat) : Int) by omega]
            have e8 : V1 130 8 = V 130 8 := by rw [vc 130 (by decide)]
            have stp : ∀ s : Int, s = (if zsty σ (V1 134) n then 0 else 1) → zSat (zgd ((0 : Int) ≤ (n : Int) + 1 ∧ (n : Int) + 1 < 9) (if V1 130 8 ≤ zw (zw (zlfs σ (M 134) n + s) + V1 136 ((n : Int) + 1)) then some (.inl (y + 1, V1)) else zbd (fX0_search d (zw ((n : Int) + 1)) (zw (zlfs σ (M 134) n + s)) V1) fun M21 => some (.inl (y + 1, M21)))) (fun x : (Int × zMem) ⊕ (Int × zMem) => zel x (fun s' => ∃ m', m' < m ∧ m' = (2 * σ 59 1 - s'.1).toNat ∧ 0 ≤ s'.1 ∧ s'.1 ≤ 2 * σ 59 1 ∧ zSf n M1 s'.2 ∧ zJc σ s'.2 ∧ zFc M1 s'.2 σ ∧ zFar σ (M 134) n s'.1 (s'.2 130 9) ∧ zBest (fun t => zCp σ (M 134) n t ∧ t n < s'.1) (zcF σ) (σ 80 0).toNat (M1 130 8) (M1 135) (s'.2 130 8) (s'.2 135)) (fun e => zSf n M1 e.2 ∧ zJc σ e.2 ∧ zFc M1 e.2 σ ∧ (∀ (t : Int → Int) (m : Nat), n < m → (m : Int) ≤ σ 80 0 → zvalid σ t m → (∀ q : Nat, q < n → t q = M 134 q) → (m : Int) ≤ e.2 130 9) ∧ zBest (zCp σ (M 134) n) (zcF σ) (σ 80 0).toNat (M1 130 8) (M1 135) (e.2 130 8) (e.2 135))) := by
              intro s hs
              have s01 : 0 ≤ s ∧ s ≤ 1 := by rw [hs]; split <;> omega
              rw [zgd_t ⟨by omega, by omega⟩, e136n, zw_i (x := zlfs σ (M 134) n + s) (by omega) (by omega), zw_i (x := zlfs σ (M 134) n + s + M 136 ((n + 1 : Nat) : Int)) (by omega) (by omega), zw_i (x := (n : Int) + 1) (by omega) (by omega), show (n : Int) + 1 = ((n + 1 : Nat) : Int) by omega]
              have lf' : zlfs σ (V1 134) (n + 1) = zlfs σ (M 134) n + s := by rw [lf, hs]
              by_cases cp : V1 130 8 ≤ zlfs σ (M 134) n + s + M 136 ((n + 1 : Nat) : Int)
              · rw [if_pos cp]
                refine skip (fun t ht hty => ?_) (fun t m' a1 a2 a3 a4 a5 => ?_)
                · have a := su.2 t ht.1
                  have b : zlfs σ t (n + 1) = zlfs σ (V1 134) (n + 1) := zlfs_p fun q hq => ag t ht.2 hty q (by omega)
                  unfold zcF; omega
                · have := jV.1 (by omega)
                  omega
              · rw [if_neg cp, ← lf', zS_bd]
                have rc := ih d (by omega) (n + 1) V1 (by omega) hA1 (hH.f (tf.trans tV1)) (by rw [vc 130 (by decide), e7]; omega) hv1 jV1 (by rw [lf', vc 136 (by decide), e136]; omega)
                refine zs_m rc ?_
                rintro W ⟨tW, jW, fW, nW, cW, bW⟩
                rw [vc 130 (by decide), vc 135 (by decide)] at bW
                refine ⟨(2 * σ 59 1 - (y + 1)).toNat, by omega, rfl, by show 0 ≤ y + 1; omega, by show y + 1 ≤ _; omega, ?_, jW, fV1.trans fW, ?_, ?_⟩
                · exact tV1.trans ⟨tW.1, tW.2.1, fun q hq => tW.2.2 q (by omega)⟩
                · intro t m' a1 a2 a3 a4 a5
                  have a5 : t n < y + 1 := a5
                  show (m' : Int) ≤ W 130 9
                  by_cases e : t n = y
                  · exact cW t m' (by omega) a2 a3 (fun q hq => ag t a4 e q (by omega))
                  · have := rV t m' a1 a2 a3 a4 (by omega)
                    have f1 := fW.1
                    rw [vc 130 (by decide)] at f1
                    omega
                · show zBest (fun t => zCp σ (M 134) n t ∧ t n < y + 1) (zcF σ) (σ 80 0).toNat (M1 130 8) (M1 135) (W 130 8) (W 135)
                  have bW' : zBest (fun t => zCp σ (M 134) n t ∧ t n = y) (zcF σ) (σ 80 0).toNat (V 130 8) (V 135) (W 130 8) (W 135) := bW.iff fun t => by
                    constructor
                    · rintro ⟨g1, g2⟩
                      exact ⟨⟨g1, fun q hq => (g2 q (by omega)).trans (v9 q hq)⟩, (g2 n (by omega)).trans v9n⟩
                    · rintro ⟨⟨g1, g2⟩, g3⟩
                      exact ⟨g1, fun q hq => ag t g2 g3 q (by omega)⟩
                  refine (zBest.comp ?_ bV bW' ?_).iff fun t => ?_
                  · intro t t' ht
                    refine ⟨fun g => ⟨⟨zvalid_p ht g.1.1, fun q hq => by rw [← ht q (by omega)]; exact g.1.2 q hq⟩, by rw [← ht n (by omega)]; exact g.2⟩, zlfs_p ht⟩
                  · intro t1 t2 g1 g2
                    exact Or.inr ⟨n, by omega, fun j hj => (g1.1.2 j hj).trans (g2.1.2 j hj).symm, by have := g1.2; have := g2.2; omega⟩
                  · constructor
                    · rintro (g | g)
                      · exact ⟨g.1, by have := g.2; omega⟩
                      · exact ⟨g.1, by have := g.2; omega⟩
                    · intro g
                      by_cases e : t n = y
                      · exact Or.inr ⟨g.1, e⟩
                      · exact Or.inl ⟨g.1, by have := g.2; omega⟩
            by_cases cs : zsty σ (V1 134) n
            · rw [if_pos cs, if_pos rfl]
              exact stp 0 (by rw [if_pos cs])
            · rw [if_neg cs, if_neg (show ¬ (1 : Int) = 0 by decide)]
              exact stp 1 (by rw [if_neg cs])
          · rw [if_neg cw]
            have no : ∀ t : Int → Int, (∀ q : Nat, q < n → t q = M 134 q) → t n = y → ∀ m : Nat, n < m → ¬ zvalid σ t m := fun t ht hty m hm hvt => by
              have := (hvt n hm).2.2
              rw [zwro_p (σ := σ) (m := n) (fg := t) (fg' := V1 134) (ag t ht hty)] at this
              exact cw this
            exact skip (fun t ht hty => absurd ht.1 (no t ht.2 hty _ (by omega))) (fun t m' a1 a2 a3 a4 a5 => absurd a3 (no t a4 a5 m' a1))
        · intro t m' a1 a2 a3 a4 a5
          have := (a3 n a1).1
          omega
        · exact zBest.none fun t ht => by
            have := (ht.1.1 n (by omega)).1
            have := ht.2
            omega
      · rintro ⟨y, V⟩ ⟨tV, jV, fV, rV, bV⟩
        dsimp only at tV jV fV rV bV
        refine ⟨tf.trans tV, jV, fa1.trans fV, ?_, fun t m a1 a2 a3 a4 => ?_, ?_⟩
        · have := fV.1; rw [m9] at this
          show (n : Int) ≤ V 130 9
          omega
        · show (m : Int) ≤ V 130 9
          have f1 := fV.1
          rw [m9] at f1
          by_cases e : m = n
          · omega
          · exact rV t m (by omega) a2 a3 a4
        · rw [m8, mc 135 (by decide)] at bV
          exact bV
    · rw [if_neg cP, if_neg (by omega)]
      have eP : M 130 7 = n := by omega
      have no : ∀ (t : Int → Int) (m : Nat), n < m → ¬ zvalid σ t m := fun t m hm hvt => by
        have := H4 (by omega) t
        rw [eP, show ((n : Int).toNat) = n by omega] at this
        exact this (zvalid_m (by omega) hvt)
      refine ⟨tf, J1, fa1, by rw [m9]; omega, fun t m a1 a2 a3 a4 => ?_, ?_⟩
      · by_cases e : m = n
        · rw [m9]; omega
        · exact absurd a3 (no t m (by omega))
      · rw [m8, mc 135 (by decide)]
        exact zBest.none fun t ht => absurd ht.1 (no t _ (by omega))
end SEA
