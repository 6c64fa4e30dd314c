/-! PURE PART, 18: speaking counted: class and model -/
section VO2
variable {σ M : zMem} {k b s t n x w tr : Int} {F F' : Int → Int}
theorem e_reasonOf (h : St σ) (hA : zAx σ M) (hw : Cw σ M) (hv : Cv σ M) (h0 : 0 ≤ n) (h1 : n < σ 80 0) (ht : σ 83 n ≤ t ∧ t < σ 83 n + σ 84 n) : zSat (fX9_reasonOf n t M) (fun e => e.1 = zwhy σ (σ 86) n t (σ 59 0) ∧ zVc σ M e.2) := by
  unfold fX9_reasonOf
  rw [zS_bd2]
  refine zs_m (e_reasonKept h hA hw hv h0 h1 ht) ?_
  rintro ⟨r, N⟩ ⟨hr, g⟩
  exact ⟨by show min 4 r = _; rw [show r = zrk σ n t from hr, zwhy_k], g⟩
theorem zrk_0 : zrk σ n t = 0 ↔ zwhy σ (σ 86) n t (σ 59 0) = 0 := by
  have := zrk_r (σ := σ) (n := n) (t := t)
  rw [zwhy_k]; omega
/-- one BEAT of a NOTE at a treadle -/
def zsp1 (σ : zMem) (tr n a : Int) : Int := if zwhy σ (σ 86) n (σ 83 n + a) tr = 0 then 1 else 0
theorem zsp1_r {a : Int} : 0 ≤ zsp1 σ tr n a ∧ zsp1 σ tr n a ≤ 1 := by unfold zsp1; split <;> omega
theorem zspn_b (i : Nat) : 0 ≤ zsum (zsp1 σ tr n) i ∧ zsum (zsp1 σ tr n) i ≤ 1 * i := ⟨zsum_0 fun _ _ => zsp1_r.1, zsum_le fun _ _ => zsp1_r.2⟩
theorem zspn_r (h : St σ) (h0 : 0 ≤ n) (h1 : n < σ 80 0) : 0 ≤ zspn σ tr n ∧ zspn σ tr n ≤ 40 := by
  have := zspn_b (σ := σ) (tr := tr) (n := n) (σ 84 n).toNat
  have := r_nl h h0 h1
  show 0 ≤ zsum (zsp1 σ tr n) _ ∧ zsum (zsp1 σ tr n) _ ≤ 40
  omega
theorem zspa_b (h : St σ) {i : Nat} (hi : (i : Int) ≤ σ 80 0) : 0 ≤ zsum (zspn σ tr) i ∧ zsum (zspn σ tr) i ≤ 40 * i := ⟨zsum_0 fun q hq => (zspn_r h (by omega) (by omega)).1, zsum_le fun q hq => (zspn_r h (by omega) (by omega)).2⟩
theorem e_spokenBy (h : St σ) (hA : zAx σ M) (hw : Cw σ M) (hv : Cv σ M) (h0 : 0 ≤ n) (h1 : n < σ 80 0) : zSat (fX9_spokenBy n M) (fun e => e.1 = zspn σ (σ 59 0) n ∧ zVc σ M e.2) := by
  have hnn := r_nn h
  have nl := r_nl h h0 h1
  unfold fX9_spokenBy
  rw [zgd_t ⟨h0, by omega⟩, hA.fl 83 rfl (by decide), zS_bd]
  refine zit_i3 (fun a y N => fX9_spokenBy_l12 n a y N) (fun m a y N => ∃ i : Nat, y = σ 83 n + i ∧ (i : Int) ≤ σ 84 n ∧ m = (σ 84 n - i).toNat ∧ a = zsum (zsp1 σ (σ 59 0) n) i ∧ zFr 90 130 M N ∧ Cw σ N ∧ Cv σ N ∧ (0 < i → zVc σ M N)) ?_ _ ⟨0, by simp, by omega, rfl, rfl, zFr.refl _ _ _, hw, hv, fun q => by omega⟩
  rintro m a y N ⟨i, rfl, i1, hm, rfl, f, w1, v1, gi⟩
  have hN : zAx σ N := hA.fr (f.mono (by omega) (by omega))
  have hb := zspn_b (σ := σ) (tr := σ 59 0) (n := n) i
  show zSat (fX9_spokenBy_l12 n (zsum (zsp1 σ (σ 59 0) n) i) (σ 83 n + i) N) _
  unfold fX9_spokenBy_l12 fX9_spokenBy_j39
  rw [e_end h hN h0 h1, zbd_s]
  by_cases c : σ 83 n + σ 84 n ≤ σ 83 n + i
  · rw [if_pos c]
    have : (σ 84 n).toNat = i := by omega
    refine ⟨?_, gi (by omega)⟩
    show zsum (zsp1 σ (σ 59 0) n) i = zsum (zsp1 σ (σ 59 0) n) (σ 84 n).toNat
    rw [this]
  · rw [if_neg c, zS_bd2]
    refine zs_m (e_reasonKept h hN w1 v1 h0 h1 ⟨by omega, by omega⟩) ?_
    rintro ⟨r, V⟩ ⟨hr, g⟩
    dsimp only at hr g ⊢
    have gV : zVc σ M V := ⟨f.trans g.1, g.2⟩
    have stp : ∀ z : Int, z = zsp1 σ (σ 59 0) n i → (fun x : (Int × Int × zMem) ⊕ (Int × Int × zMem) => zel x (fun s' => ∃ m', m' < m ∧ ∃ i : Nat, s'.2.1 = σ 83 n + i ∧ (i : Int) ≤ σ 84 n ∧ m' = (σ 84 n - i).toNat ∧ s'.1 = zsum (zsp1 σ (σ 59 0) n) i ∧ zFr 90 130 M s'.2.2 ∧ Cw σ s'.2.2 ∧ Cv σ s'.2.2 ∧ (0 < i → zVc σ M s'.2.2)) (fun s17 => zSat (some (s17.1, s17.2.2)) fun e => e.1 = zspn σ (σ 59 0) n ∧ zVc σ M e.2)) (.inl (zw (zsum (zsp1 σ (σ 59 0) n) i + z), zw (σ 83 n + i + 1), V)) := by
      intro z hz
      have zr := zsp1_r (σ := σ) (tr := σ 59 0) (n := n) (a := i)
      refine ⟨(σ 84 n - (i + 1 : Nat)).toNat, by omega, i + 1, by show zw (σ 83 n + i + 1) = _; rw [zw_i (by omega) (by omega)]; omega, by omega, rfl, ?_, gV.1, gV.2.1, gV.2.2.1, fun _ => gV⟩
      show zw (zsum (zsp1 σ (σ 59 0) n) i + z) = zsum (zsp1 σ (σ 59 0) n) i + zsp1 σ (σ 59 0) n i
      rw [hz, zw_i (by omega) (by omega)]
    by_cases c1 : r = 0
    · rw [if_pos c1]; exact stp 1 (by unfold zsp1; rw [if_pos (zrk_0.mp (by rw [← hr]; exact c1))])
    · rw [if_neg c1]; exact stp 0 (by unfold zsp1; rw [if_neg (fun q => c1 (by rw [hr]; exact zrk_0.mpr q))])
theorem e_speaksAt (h : St σ) (hA : zAx σ M) (hw : Cw σ M) (hv : Cv σ M) (h0 : 0 ≤ n) (h1 : n < σ 80 0) (ht : σ 83 n ≤ t ∧ t < σ 83 n + σ 84 n) (htr : 1 ≤ tr ∧ tr ≤ 99) : zSat (fX9_speaksAt n t tr M) (fun e => e.1 = (if zwhy σ (σ 86) n t tr = 0 then 1 else 0) ∧ zVc σ M e.2) := by
  have hsw := h.1.2.2.2.2.2.1
  unfold fX9_speaksAt fX9_speaksAt_j31 fX9_speaksAt_j55
  rw [zS_bd2]
  refine zs_m (e_reasonKept h hA hw hv h0 h1 ht) ?_
  rintro ⟨r, N⟩ ⟨hr, g⟩
  dsimp only at hr g ⊢
  have hN : zAx σ N := hA.fr (g.1.mono (by omega) (by omega))
  have rr := zrk_r (σ := σ) (n := n) (t := t)
  have wt := zwhy_t (n := n) (t := t) (tr := tr) h
  simp only [hN.fl 40 rfl (by decide), hN.fl 59 rfl (by decide), zgd_t (show (0 : Int) ≤ 0 ∧ (0 : Int) < 11 by decide)]
  by_cases c1 : σ 40 14 = 0
  · rw [if_pos c1]
    have za := zals_nil (F := zfc σ n t tr) h c1 (σ 40 13).toNat
    have zb := zals_nil (F := zfc σ n t (σ 59 0)) h c1 (σ 40 13).toNat
    have r4 : zrk σ n t ≠ 4 := by
      unfold zrk
      generalize zcrk σ (σ 82 n) = z
      rw [zb, if_neg (show ¬ (true = false) by decide)]
      repeat (first | split | decide)
    by_cases c2 : r = 0
    · rw [if_pos c2, if_pos (wt.mpr ⟨Or.inl (by omega), za⟩)]; exact ⟨rfl, g⟩
    · rw [if_neg c2, if_neg (fun q => by have := (wt.mp q).1; omega)]; exact ⟨rfl, g⟩
  · rw [if_neg c1]
    by_cases c2 : tr = σ 59 0
    · rw [if_pos c2, c2]
      by_cases c3 : r = 0
      · rw [if_pos c3, if_pos (zrk_0.mp (by omega))]; exact ⟨rfl, g⟩
      · rw [if_neg c3, if_neg (fun q => by have := zrk_0.mpr q; omega)]; exact ⟨rfl, g⟩
    · rw [if_neg c2]
      have law : (r = 0 ∨ r = 4) → zSat (zbd (fX9_tellLaw n t N) fun M10 => zbd (fX9_speedOf n tr M10) fun r12 => zbd2 (fX3_allows (M10 40 14) r12 M10) fun r16 M19 => some (r16, M19)) (fun e => e.1 = (if zwhy σ (σ 86) n t tr = 0 then 1 else 0) ∧ zVc σ M e.2) := by
        intro hr4
        rw [zS_bd]
        refine zs_m (e_tellLaw h hN g.2.1 g.2.2.2.2 h0 h1 ht) ?_
        rintro V ⟨f1, g1⟩
        have hV : zAx σ V := hN.fr (f1.mono (by omega) (by omega))
        rw [e_vspeed h hV h0 h1 htr, zbd_s, hV.fl 40 rfl (by decide), zS_bd2]
        refine zs_m (e_allows (F := zfc σ n t tr) h hV (m := σ 40 14) ⟨by omega, by omega⟩ (g1 tr)) ?_
        rintro ⟨r', W⟩ ⟨hr', f3, -⟩
        dsimp only at hr' f3 ⊢
        rw [show zals σ (zfc σ n t tr) (fun q => decide (σ 40 14 / 2 ^ q % 2 = 1)) (σ 40 13).toNat = zals σ (zfc σ n t tr) (zswb σ) (σ 40 13).toNat from rfl] at hr'
        refine ⟨?_, g.law ((f1.mono (by omega) (by omega)).trans f3)⟩
        show r' = _
        rw [hr']
        cases ha : zals σ (zfc σ n t tr) (zswb σ) (σ 40 13).toNat with
        | false => rw [if_neg (by decide), if_neg (fun q => by have := (wt.mp q).2; rw [ha] at this; cases this)]
        | true => rw [if_pos rfl, if_pos (wt.mpr ⟨by omega, ha⟩)]
      by_cases c3 : r = 0
      · rw [if_pos c3]; exact law (Or.inl c3)
      · rw [if_neg c3]
        by_cases c4 : r = 4
        · rw [if_pos c4]; exact law (Or.inr c4)
        · rw [if_neg c4, if_neg (fun q => by have := (wt.mp q).1; omega)]; exact ⟨rfl, g⟩
theorem e_spoken1 (h : St σ) (hA : zAx σ M) (g0 : zVc σ M M) (h0 : 0 ≤ n) (h1 : n < σ 80 0) (htr : 1 ≤ tr ∧ tr ≤ 99) {acc : Int} (hacc : 0 ≤ acc ∧ acc ≤ 1000) : zSat (zit (fun s17 : Int × Int × zMem => fX9_spokenAt_l40 tr n (s17.1) (s17.2.1) (s17.2.2)) (acc, σ 83 n, M)) (fun e => e.1 = acc + zspn σ tr n ∧ zVc σ M e.2.2) := by
  have hnn := r_nn h
  have nl := r_nl h h0 h1
  refine zit_i3 (fun a y N => fX9_spokenAt_l40 tr n a y N) (fun m a y N => ∃ i : Nat, y = σ 83 n + i ∧ (i : Int) ≤ σ 84 n ∧ m = (σ 84 n - i).toNat ∧ a = acc + zsum (zsp1 σ tr n) i ∧ zVc σ M N) ?_ _ ⟨0, by simp, by omega, rfl, by simp [zsum], g0⟩
  rintro m a y N ⟨i, rfl, i1, hm, rfl, g⟩
  have hN : zAx σ N := g.ax hA
  have hb := zspn_b (σ := σ) (tr := tr) (n := n) i
  show zSat (fX9_spokenAt_l40 tr n (acc + zsum (zsp1 σ tr n) i) (σ 83 n + i) N) _
  unfold fX9_spokenAt_l40 fX9_spokenAt_j70
  rw [e_end h hN h0 h1, zbd_s]
  by_cases c : σ 83 n + σ 84 n ≤ σ 83 n + i
  · rw [if_pos c]
    have : (σ 84 n).toNat = i := by omega
    refine ⟨?_, g⟩
    show acc + zsum (zsp1 σ tr n) i = acc + zsum (zsp1 σ tr n) (σ 84 n).toNat
    rw [this]
  · rw [if_neg c, zS_bd2]
    refine zs_m (e_speaksAt h hN g.2.1 g.2.2.1 h0 h1 (t := σ 83 n + i) ⟨by omega, by omega⟩ htr) ?_
    rintro ⟨r, V⟩ ⟨hr, gV⟩
    dsimp only at hr gV ⊢
    have zr := zsp1_r (σ := σ) (tr := tr) (n := n) (a := i)
    have hr : r = zsp1 σ tr n i := hr
    have stp : zel (.inl (zw (acc + zsum (zsp1 σ tr n) i + r), zw (σ 83 n + i + 1), V) : (Int × Int × zMem) ⊕ (Int × Int × zMem)) (fun s' => ∃ m', m' < m ∧ ∃ i : Nat, s'.2.1 = σ 83 n + i ∧ (i : Int) ≤ σ 84 n ∧ m' = (σ 84 n - i).toNat ∧ s'.1 = acc + zsum (zsp1 σ tr n) i ∧ zVc σ M s'.2.2) (fun e => e.1 = acc + zspn σ tr n ∧ zVc σ M e.2.2) := by
      refine ⟨(σ 84 n - (i + 1 : Nat)).toNat, by omega, i + 1, by show zw (σ 83 n + i + 1) = _; rw [zw_i (by omega) (by omega)]; omega, by omega, rfl, ?_, g.trans gV⟩
      show zw (acc + zsum (zsp1 σ tr n) i + r) = acc + (zsum (zsp1 σ tr n) i + zsp1 σ tr n i)
      rw [hr, zw_i (by omega) (by omega)]; omega
    by_cases c1 : r = 0
    · rw [if_pos c1]; rw [c1] at stp; exact stp
    · rw [if_neg c1]; rw [show r = 1 by omega] at stp; exact stp
theorem e_spokenAt (h : St σ) (hA : zAx σ M) (hw : Cw σ M) (hv : Cv σ M) (htr : 1 ≤ tr ∧ tr ≤ 99) : zSat (fX9_spokenAt tr M) (fun e => e.1 = zspa σ tr ∧ zVc σ M e.2) := by
  have hnn := r_nn h
  unfold fX9_spokenAt fX9_spokenAt_j91
  rw [zS_bd]
  refine zs_m (e_vlearn h hA hw hv) ?_
  intro N g
  have hN : zAx σ N := g.ax hA
  rw [zgd_t ⟨by omega, by omega⟩]
  have old := (g.2.2.1 g.2.2.2.1).2.2 tr htr.1 htr.2
  by_cases c : N 117 tr = -1
  · rw [if_pos c, zS_bd]
    refine zs_m (P := fun e => e.1 = zspa σ tr ∧ zVc σ N e.2.2) ?_ ?_
    · refine zit_i3 (fun a y V => fX9_spokenAt_l18 tr a y V) (fun m a y V => ∃ i : Nat, y = (i : Int) ∧ (i : Int) ≤ σ 80 0 ∧ m = (σ 80 0 - i).toNat ∧ a = zsum (zspn σ tr) i ∧ zVc σ N V) ?_ _ ⟨0, rfl, by omega, rfl, rfl, zFr.refl _ _ _, g.2⟩
      rintro m a y V ⟨i, rfl, i1, hm, rfl, gV⟩
      have hV : zAx σ V := gV.ax hN
      have hb := zspa_b (tr := tr) h i1
      show zSat (fX9_spokenAt_l18 tr (zsum (zspn σ tr) i) i V) _
      unfold fX9_spokenAt_l18
      rw [hV.fl 80 rfl (by decide), hV.fl 83 rfl (by decide)]
      by_cases c0 : σ 80 0 ≤ i
      · rw [if_pos c0]
        have : (σ 80 0).toNat = i := by omega
        refine ⟨?_, gV⟩
        show zsum (zspn σ tr) i = zspa σ tr
        unfold zspa; rw [this]
      · rw [if_neg c0, zgd_t ⟨by omega, by omega⟩, zS_bd]
        refine zs_m (e_spoken1 h hV ⟨zFr.refl _ _ _, gV.2⟩ (n := i) (by omega) (by omega) htr (by omega)) ?_
        rintro ⟨a, y, W⟩ ⟨ha, gW⟩
        dsimp only at ha gW ⊢
        exact ⟨(σ 80 0 - (i + 1 : Nat)).toNat, by omega, i + 1, by show zw ((i : Int) + 1) = _; rw [zw_i (by omega) (by omega)]; omega, by omega, rfl, ha, gV.trans gW⟩
    · rintro ⟨a, y, V⟩ ⟨ha, gV⟩
      dsimp only at ha gV ⊢
      obtain ⟨v1, v2, v3, v4, v5⟩ := g.trans gV
      rw [zgd_t ⟨by omega, by omega⟩, zgd_t ⟨by omega, by omega⟩]
      refine ⟨by show zup V 117 tr a 117 tr = _; rw [zup_eq, ha], v1.up (by omega) (by omega), v2.fr (fun c _ _ => by funext q; exact zup_ne (by omega)), ?_, by dsimp only; rw [zup_ne (by decide)]; exact v4, by dsimp only; rw [zup_ne (by decide)]; exact v5⟩
      intro _
      obtain ⟨w1, w2, w3⟩ := v3 v4
      refine ⟨by dsimp only; rw [zup_ne (by decide)]; exact w1, fun n' a' a1 a2 a3 a4 => by dsimp only; rw [zup_ne (by decide)]; exact w2 n' a' a1 a2 a3 a4, fun tr' t0 t1 => ?_⟩
      dsimp only
      by_cases e : tr' = tr
      · subst e; rw [zup_eq]; exact Or.inr ha
      · rw [zup_nk e]; exact w3 tr' t0 t1
  · rw [if_neg c, zgd_t ⟨by omega, by omega⟩]
    rcases old with old | old
    · exact absurd old c
    · exact ⟨old, g⟩
/-- the NOTES that speak in a BEAT -/
def zspk (σ : zMem) (t n : Int) : Bool := decide (σ 83 n ≤ t) && decide (t < σ 83 n + σ 84 n) && decide (zwhy σ (σ 86) n t (σ 59 0) = 0)
theorem e_speakingIn (h : St σ) (hA : zAx σ M) (hw : Cw σ M) (hv : Cv σ M) : zSat (fX9_speakingIn t M) (fun e => e.1 = zbits (zspk σ t) (σ 80 0).toNat ∧ zFr 90 130 M e.2 ∧ Cw σ e.2 ∧ Cv σ e.2 ∧ (e.1 ≠ 0 → e.2 90 5 ≠ 0)) := by
  have hnn := r_nn h
  unfold fX9_speakingIn
  rw [zS_bd]
  refine zit_i3 (fun a y N => fX9_speakingIn_l4 t a y N) (fun m a y N => ∃ i : Nat, y = (i : Int) ∧ (i : Int) ≤ σ 80 0 ∧ m = (σ 80 0 - i).toNat ∧ a = zbits (zspk σ t) i ∧ zFr 90 130 M N ∧ Cw σ N ∧ Cv σ N ∧ (a ≠ 0 → N 90 5 ≠ 0)) ?_ _ ⟨0, rfl, by omega, rfl, rfl, zFr.refl _ _ _, hw, hv, fun q => absurd rfl q⟩
  rintro m a y N ⟨i, rfl, i1, hm, rfl, f, w1, v1, k1⟩
  have hN : zAx σ N := hA.fr (f.mono (by omega) (by omega))
  show zSat (fX9_speakingIn_l4 t (zbits (zspk σ t) i) i N) _
  unfold fX9_speakingIn_l4
  rw [hN.fl 80 rfl (by decide), e_lasts h hN, zbd_s]
  by_cases c : σ 80 0 ≤ i
  · rw [if_pos c]
    have : (σ 80 0).toNat = i := by omega
    refine ⟨?_, f, w1, v1, k1⟩
    show zbits (zspk σ t) i = _
    rw [this]
  · rw [if_neg c, zw_i (by omega) (by omega)]
    have zs : zbits (zspk σ t) (i + 1) = if zspk σ t i = true then zor (zbits (zspk σ t) i) (zshl 1 i) else zbits (zspk σ t) i := rfl
    by_cases c1 : σ 83 i ≤ t ∧ t < σ 83 i + σ 84 i
    · rw [if_pos (show 0 ≤ (i : Int) ∧ (i : Int) < σ 80 0 ∧ σ 83 i ≤ t ∧ t < σ 83 i + σ 84 i from ⟨by omega, by omega, c1⟩), if_neg (show ¬ (1 : Int) = 0 by decide), zS_bd2]
      refine zs_m (e_reasonKept h hN w1 v1 (n := i) (by omega) (by omega) c1) ?_
      rintro ⟨r, V⟩ ⟨hr, g⟩
      dsimp only at hr g ⊢
      by_cases c2 : r = 0
      · rw [if_pos c2]
        have : zspk σ t i = true := by unfold zspk; simp [c1.1, c1.2, zrk_0.mp (hr.symm.trans c2)]
        exact ⟨(σ 80 0 - (i + 1 : Nat)).toNat, by omega, i + 1, by show (i : Int) + 1 = _; omega, by omega, rfl, by rw [zs, if_pos this], f.trans g.1, g.2.1, g.2.2.1, fun _ => g.2.2.2.2⟩
      · rw [if_neg c2]
        have : zspk σ t i = false := by
          unfold zspk
          have : ¬ zwhy σ (σ 86) i t (σ 59 0) = 0 := fun q => c2 (hr.trans (zrk_0.mpr q))
          simp [this]
        exact ⟨(σ 80 0 - (i + 1 : Nat)).toNat, by omega, i + 1, by show (i : Int) + 1 = _; omega, by omega, rfl, by rw [zs, this]; rfl, f.trans g.1, g.2.1, g.2.2.1, fun _ => g.2.2.2.2⟩
    · rw [if_neg (show ¬ (0 ≤ (i : Int) ∧ (i : Int) < σ 80 0 ∧ σ 83 i ≤ t ∧ t < σ 83 i + σ 84 i) from fun q => c1 q.2.2), if_pos rfl]
      have : zspk σ t i = false := by
        unfold zspk
        by_cases d : σ 83 i ≤ t
        · have : ¬ t < σ 83 i + σ 84 i := fun q => c1 ⟨d, q⟩
          simp [this]
        · simp [d]
      exact ⟨(σ 80 0 - (i + 1 : Nat)).toNat, by omega, i + 1, by show (i : Int) + 1 = _; omega, by omega, rfl, by rw [zs, this]; rfl, f, w1, v1, k1⟩
end VO2
