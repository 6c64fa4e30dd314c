/-! PURE PART, 5: warming learnt; the model's warmth -/
section WR2
variable {σ M : zMem} {k b t n x : Int}
theorem e_wlearn (h : St σ) (hA : zAx σ M) (hC : Cw σ M) : zSat (fX10_learn M) (fun N => zFr 90 96 M N ∧ Cw σ N ∧ N 90 5 ≠ 0) := by
  unfold fX10_learn
  by_cases h5 : M 90 5 = 0
  · have hb := r_bw h
    rw [if_pos h5, zS_bd]
    have f1 : zFr 90 96 M (zup M 90 5 1) := (zFr.refl _ _ _).up (by omega) (by omega)
    refine zit_i2 (fun y N => fX10_learn_l15 y N) (fun m y O => ∃ i : Nat, y = (i : Int) ∧ (i : Int) ≤ σ 40 0 ∧ m = (σ 40 0 - i).toNat ∧ zFr 93 96 (zup M 90 5 1) O ∧ ∀ b : Int, 0 ≤ b → b < i → O 95 b = zcrk σ b ∧ ∀ t : Int, 0 ≤ t → t < 200 → O 94 (b * 200 + t) = zwm σ b t.toNat) ?_ _ ⟨0, rfl, by omega, rfl, zFr.refl _ _ _, fun b b0 b1 => by omega⟩
    rintro m y O ⟨i, hy, i1, hm, gF, hO⟩
    subst hy
    have f2 : zFr 90 96 M O := f1.trans (gF.mono (by omega) (by omega))
    have hAO : zAx σ O := hA.fr (f2.mono (by omega) (by omega))
    show zSat (fX10_learn_l15 i O) _
    unfold fX10_learn_l15
    rw [hAO.fl 40 rfl (by decide)]
    by_cases hy : σ 40 0 ≤ i
    · rw [if_pos hy]
      refine ⟨f2, fun _ b b0 b1 => hO b b0 (by omega), ?_⟩
      show O 90 5 ≠ 0
      rw [gF 90 (by omega), zup_eq]; decide
    · rw [if_neg hy, zS_bd]
      refine zs_m (e_press (b := i) h hAO) ?_
      rintro U ⟨uF, uP⟩
      have hAU : zAx σ U := hAO.fr (uF.mono (by omega) (by omega))
      rw [zS_bd]
      refine zs_m (e_warm h hAU (b := i) (by omega) (by omega) uP) ?_
      rintro V ⟨vF, v5, v4, vc, vw⟩
      simp (disch := omega) only [zgd_t, zbd_s, zbd2_s, zw_i, if_pos, if_neg, ↓reduceIte, Nat.reduceAdd]
      refine ⟨(σ 40 0 - (i + 1 : Nat)).toNat, by omega, i + 1, by show (i : Int) + 1 = _; omega, by omega, rfl, (gF.trans (uF.mono (by omega) (by omega))).trans (vF.mono (by omega) (by omega)), fun b b0 b1 => ?_⟩
      show V 95 b = _ ∧ ∀ t : Int, 0 ≤ t → t < 200 → V 94 (b * 200 + t) = _
      by_cases hb : b = i
      · subst hb; exact ⟨vc, vw⟩
      · have := hO b b0 (by omega)
        refine ⟨by rw [v5 b hb, uF 95 (by omega)]; exact this.1, fun t t0 t1 => ?_⟩
        rw [v4 _ (by omega), uF 94 (by omega)]; exact this.2 t t0 t1
  · rw [if_neg h5]; exact ⟨zFr.refl _ _ _, hC, h5⟩
/-- the model's scratch -/
def zFm (M N : zMem) : Prop := ∀ c : Nat, c < 200 ∨ 300 ≤ c → N c = M c
theorem zFm.refl (M : zMem) : zFm M M := fun _ _ => rfl
theorem zFm.trans {M N O : zMem} (h : zFm M N) (g : zFm N O) : zFm M O := fun c hc => (g c hc).trans (h c hc)
theorem zFm.up {M N : zMem} (h : zFm M N) {c : Nat} {k v : Int} (ha : 200 ≤ c) (hb : c < 300) : zFm M (zup N c k v) := fun d hd => by
  rw [← h d hd]; funext q; exact zup_ne (by omega)
def zcrm (σ : zMem) (b : Int) : Int := if zcrk σ b = -1 then 100000000 else zcrk σ b
/-- what the model keeps of warmth -/
def Cm (σ M : zMem) : Prop := ∀ b : Int, 0 ≤ b → b < σ 40 0 → M 251 b = zcrm σ b ∧ ∀ t : Int, 0 ≤ t → t < 200 → M 250 (200 * b + t) = zwm σ b t.toNat
theorem Cm.fr {N : zMem} (h : Cm σ M) (h0 : N 250 = M 250) (h1 : N 251 = M 251) : Cm σ N := by unfold Cm at h ⊢; rw [h0, h1]; exact h
/-- cells 250 and 251 alone may have changed -/
theorem zAx.f250 {N : zMem} (hA : zAx σ M) (hf : zFr 250 252 M N) : zAx σ N := fun c k hn hs => by
  by_cases hc : c < 250 ∨ 252 ≤ c
  · rw [hf c hc]; exact hA c k hn hs
  · have : c = 250 ∨ c = 251 := by omega
    rcases this with rfl | rfl <;> cases hs
theorem zAg.f250 {N : zMem} (hA : zAg σ M) (hf : zFr 250 252 M N) : zAg σ N := (hA.x.f250 hf).g (by rw [hf 249 (by omega)]; exact hA.fl 249 rfl)
theorem zFr.m {a b : Nat} {N : zMem} (h : zFr a b M N) (ha : 200 ≤ a) (hb : b ≤ 300) : zFm M N := fun c hc => h c (by omega)
theorem zck_m {i : Nat} : zck σ b (i + 1) = if zck σ b i = -1 ∧ σ 45 b * σ 59 8 < zwm σ b i then (i : Int) else zck σ b i := rfl
theorem m_warms (h : St σ) (hA : zAx σ M) : zSat (fX12_warms M) (fun N => zFr 250 252 M N ∧ Cm σ N) := by
  have hb := r_bw h
  have ht := r_ti h
  unfold fX12_warms
  rw [zS_bd]
  refine zit_i2 (fun y N => fX12_warms_l2 y N) (fun m y O => ∃ i : Nat, y = (i : Int) ∧ (i : Int) ≤ σ 40 0 ∧ m = (σ 40 0 - i).toNat ∧ zFr 250 252 M O ∧ ∀ b : Int, 0 ≤ b → b < i → O 251 b = zcrm σ b ∧ ∀ t : Int, 0 ≤ t → t < 200 → O 250 (200 * b + t) = zwm σ b t.toNat) ?_ _ ⟨0, rfl, by omega, rfl, zFr.refl _ _ _, fun b b0 b1 => by omega⟩
  rintro m y O ⟨i, hy, i1, hm, gF, hO⟩
  subst hy
  have hAO : zAx σ O := hA.f250 gF
  show zSat (fX12_warms_l2 i O) _
  unfold fX12_warms_l2
  rw [a_bw h hAO]
  by_cases hy : σ 40 0 ≤ i
  · simp (disch := omega) only [zgd_t, zbd_s, zbd2_s, zw_i, if_pos, if_neg, ↓reduceIte, Nat.reduceAdd]
    exact ⟨gF, fun b b0 b1 => hO b b0 (by omega)⟩
  · have i2 : (i : Int) < σ 40 0 := by omega
    have i0 : (0 : Int) ≤ i := by omega
    have hw := r_wl h i0 i2
    have hl := zmul_b (a := σ 45 i) (b := σ 59 8) (A := 20) (B := 999) (by omega) (by omega)
    simp (disch := omega) only [zgd_t, zbd_s, zbd2_s, zw_i, if_pos, if_neg, ↓reduceIte, Nat.reduceAdd]
    rw [zS_bd]
    refine zs_m (P := fun e => zFr 250 252 O e.2.2 ∧ (∀ q : Int, q ≠ i → e.2.2 251 q = O 251 q) ∧ (∀ q : Int, q < 200 * i ∨ 200 * i + 200 ≤ q → e.2.2 250 q = O 250 q) ∧ e.2.2 251 i = zcrm σ i ∧ ∀ t : Int, 0 ≤ t → t < 200 → e.2.2 250 (200 * i + t) = zwm σ i t.toNat) ?_ ?_
    · refine zit_i3 (fun w y N => fX12_warms_l25 i w y N) (fun m w y N => ∃ j : Nat, y = (j : Int) ∧ j ≤ 200 ∧ m = 200 - j ∧ w = zwm σ i j ∧ zFr 250 252 O N ∧ (∀ q : Int, q ≠ i → N 251 q = O 251 q) ∧ (∀ q : Int, q < 200 * i ∨ 200 * i + 200 ≤ q → N 250 q = O 250 q) ∧ N 251 i = (if zck σ i j = -1 then 100000000 else zck σ i j) ∧ ∀ t : Nat, t < j → N 250 (200 * i + t) = zwm σ i t) ?_ 200 ⟨0, rfl, by omega, rfl, rfl, (zFr.refl _ _ _).up (by omega) (by omega), fun q hq => zup_nk hq, fun q hq => zup_ne (by decide), zup_eq, fun t ht => by omega⟩
      rintro m w y N ⟨j, hy, j1, hm, hwi, hF, h5, h4, hc, hN⟩
      subst hy hwi
      have hA' : zAx σ N := hAO.f250 hF
      show zSat (fX12_warms_l25 i (zwm σ i j) j N) _
      have hwb := zwm_b (b := i) h j
      have hcr := zck_r (σ := σ) i j
      unfold fX12_warms_l25
      by_cases hy : (200 : Int) ≤ j
      · rw [if_pos hy]
        have : j = 200 := by omega
        subst this
        refine ⟨hF, h5, h4, hc, fun t t0 t1 => ?_⟩
        have := hN t.toNat (by omega)
        rwa [show ((t.toNat : Nat) : Int) = t by omega] at this
      · have hpr := ztou_r (b := i) (t := j) h
        have hm6 := zmul_b (a := σ 59 6) (b := ztou σ i j) ht.2.2.2.2.2.2.1 hpr
        have fin : ∀ V : zMem, zFr 250 252 O V → (∀ q : Int, q ≠ i → V 251 q = O 251 q) → (∀ q : Int, q < 200 * i ∨ 200 * i + 200 ≤ q → V 250 q = O 250 q) → V 251 i = (if zck σ i (j + 1) = -1 then 100000000 else zck σ i (j + 1)) → (∀ t : Nat, t < j + 1 → V 250 (200 * i + t) = zwm σ i t) → zSat (fX12_warms_j82 i (zwm σ i j) j V) (fun x => zel x (fun s' => ∃ m', m' < m ∧ ∃ j : Nat, s'.2.1 = (j : Int) ∧ j ≤ 200 ∧ m' = 200 - j ∧ s'.1 = zwm σ i j ∧ zFr 250 252 O s'.2.2 ∧ (∀ q : Int, q ≠ i → s'.2.2 251 q = O 251 q) ∧ (∀ q : Int, q < 200 * i ∨ 200 * i + 200 ≤ q → s'.2.2 250 q = O 250 q) ∧ s'.2.2 251 i = (if zck σ i j = -1 then 100000000 else zck σ i j) ∧ ∀ t : Nat, t < j → s'.2.2 250 (200 * i + t) = zwm σ i t) (fun e => zFr 250 252 O e.2.2 ∧ (∀ q : Int, q ≠ i → e.2.2 251 q = O 251 q) ∧ (∀ q : Int, q < 200 * i ∨ 200 * i + 200 ≤ q → e.2.2 250 q = O 250 q) ∧ e.2.2 251 i = zcrm σ i ∧ ∀ t : Int, 0 ≤ t → t < 200 → e.2.2 250 (200 * i + t) = zwm σ i t.toNat)) := by
          intro V gF g5 g4 gc gV
          have hAV : zAx σ V := hAO.f250 gF
          have kk := r_kd h i0 i2
          unfold fX12_warms_j82 fX12_warms_j122 fX12_warms_j128 fX12_warms_j153
          rw [m_touchedIn h hAV, zbd_s, a_kd h hAV i0 i2, a_st h hAV (k := 6) (by decide) (by decide), a_st h hAV (k := 7) (by decide) (by decide)]
          have hd : zdiv (σ 59 6 * ztou σ i j) 2 = σ 59 6 * ztou σ i j / 2 := zdiv_n ⟨by omega, by omega⟩ ⟨by omega, by omega⟩ hm6.1 (by omega)
          have stp : ∀ z : Int, z = zwst σ i (zwm σ i j) (ztou σ i j) → (fun x : (Int × Int × zMem) ⊕ (Int × Int × zMem) => zel x (fun s' => ∃ m', m' < m ∧ ∃ j : Nat, s'.2.1 = (j : Int) ∧ j ≤ 200 ∧ m' = 200 - j ∧ s'.1 = zwm σ i j ∧ zFr 250 252 O s'.2.2 ∧ (∀ q : Int, q ≠ i → s'.2.2 251 q = O 251 q) ∧ (∀ q : Int, q < 200 * i ∨ 200 * i + 200 ≤ q → s'.2.2 250 q = O 250 q) ∧ s'.2.2 251 i = (if zck σ i j = -1 then 100000000 else zck σ i j) ∧ ∀ t : Nat, t < j → s'.2.2 250 (200 * i + t) = zwm σ i t) (fun e => zFr 250 252 O e.2.2 ∧ (∀ q : Int, q ≠ i → e.2.2 251 q = O 251 q) ∧ (∀ q : Int, q < 200 * i ∨ 200 * i + 200 ≤ q → e.2.2 250 q = O 250 q) ∧ e.2.2 251 i = zcrm σ i ∧ ∀ t : Int, 0 ≤ t → t < 200 → e.2.2 250 (200 * i + t) = zwm σ i t.toNat)) (.inl (z, (j : Int) + 1, V)) := by
            intro z hz
            exact ⟨200 - (j + 1), by omega, j + 1, by show (j : Int) + 1 = _; omega, by omega, rfl, hz, gF, g5, g4, gc, gV⟩
          by_cases c1 : ztou σ i j ≤ 0
          · have z0 : ztou σ i j = 0 := by omega
            have ez : max 0 (zwm σ i j - σ 59 7) = zwst σ i (zwm σ i j) (ztou σ i j) := by unfold zwst; rw [if_pos c1]
            by_cases c2 : σ 46 i = 1
            · simp (disch := omega) only [zgd_t, zbd_s, zbd2_s, zw_i, if_pos, if_neg, ↓reduceIte, Nat.reduceAdd, c2]; exact stp _ ez
            · by_cases c3 : σ 46 i = 2
              · simp (disch := omega) only [zgd_t, zbd_s, zbd2_s, zw_i, if_pos, if_neg, ↓reduceIte, Nat.reduceAdd, c2, c3]; exact stp _ ez
              · simp (disch := omega) only [zgd_t, zbd_s, zbd2_s, zw_i, if_pos, if_neg, ↓reduceIte, Nat.reduceAdd, c2, c3]; exact stp _ ez
          · have c3 : σ 46 i ≠ 3 := fun q => c1 (by rw [ztou_k h q]; exact Int.le_refl _)
            by_cases c2 : σ 46 i = 1
            · simp (disch := omega) only [zgd_t, zbd_s, zbd2_s, zw_i, if_pos, if_neg, ↓reduceIte, Nat.reduceAdd, c2, hd]; exact stp _ (by unfold zwst; rw [if_neg c1, if_neg (by omega)])
            · by_cases c4 : σ 46 i = 2
              · simp (disch := omega) only [zgd_t, zbd_s, zbd2_s, zw_i, if_pos, if_neg, ↓reduceIte, Nat.reduceAdd, c2, c4, hd]; exact stp _ (by unfold zwst; rw [if_neg c1, if_neg (by omega)])
              · simp (disch := omega) only [zgd_t, zbd_s, zbd2_s, zw_i, if_pos, if_neg, ↓reduceIte, Nat.reduceAdd, c2, c4, hd]; exact stp _ (by unfold zwst; rw [if_neg c1, if_pos (by omega)])
        have e4 : ∀ t : Nat, t < j + 1 → zup N 250 (200 * i + j) (zwm σ i j) 250 (200 * i + t) = zwm σ i t := by
          intro t ht
          by_cases ht' : t = j
          · subst ht'; exact zup_eq
          · rw [zup_nk (by omega)]; exact hN t (by omega)
        simp (disch := omega) only [zgd_t, zbd_s, zbd2_s, zw_i, if_pos, if_neg, ↓reduceIte, Nat.reduceAdd]
        rw [zup_ne (show (251 : Nat) ≠ 250 by decide), zup_ne (show (217 : Nat) ≠ 250 by decide), zup_ne (show (225 : Nat) ≠ 250 by decide), hc, a_wl h hA' i0 i2, a_st h hA' (k := 8) (by decide) (by decide)]
        simp (disch := omega) only [zgd_t, zbd_s, zbd2_s, zw_i, if_pos, if_neg, ↓reduceIte, Nat.reduceAdd]
        have hzc : zck σ i (j + 1) = if zck σ i j = -1 ∧ σ 45 i * σ 59 8 < zwm σ i j then (j : Int) else zck σ i j := rfl
        by_cases c1 : zck σ i j = -1
        · by_cases c2 : zwm σ i j ≤ σ 45 i * σ 59 8
          · rw [if_pos c1, if_pos rfl, if_pos c2]
            refine fin _ (hF.up (by omega) (by omega)) (fun q hq => ?_) (fun q hq => ?_) ?_ e4
            · rw [zup_ne (by decide)]; exact h5 q hq
            · rw [zup_nk (by omega)]; exact h4 q hq
            · rw [zup_ne (by decide), hc, hzc, if_neg (show ¬ (zck σ i j = -1 ∧ σ 45 i * σ 59 8 < zwm σ i j) by omega)]
          · rw [if_pos c1, if_pos rfl, if_neg c2]
            refine fin _ ((hF.up (by omega) (by omega)).up (by omega) (by omega)) (fun q hq => ?_) (fun q hq => ?_) ?_ (fun t ht => ?_)
            · rw [zup_nk hq, zup_ne (by decide)]; exact h5 q hq
            · rw [zup_ne (by decide), zup_nk (by omega)]; exact h4 q hq
            · rw [zup_eq, hzc, if_pos (show zck σ i j = -1 ∧ σ 45 i * σ 59 8 < zwm σ i j by omega), if_neg (by omega)]
            · rw [zup_ne (by decide)]; exact e4 t ht
        · rw [if_neg c1, if_neg (by omega)]
          refine fin _ (hF.up (by omega) (by omega)) (fun q hq => ?_) (fun q hq => ?_) ?_ e4
          · rw [zup_ne (by decide)]; exact h5 q hq
          · rw [zup_nk (by omega)]; exact h4 q hq
          · rw [zup_ne (by decide), hc, hzc, if_neg (show ¬ (zck σ i j = -1 ∧ σ 45 i * σ 59 8 < zwm σ i j) from fun q => c1 q.1)]
    · rintro ⟨w, y, V⟩ ⟨vF, v5, v4, vc, vw⟩
      refine ⟨(σ 40 0 - (i + 1 : Nat)).toNat, by omega, i + 1, by show (i : Int) + 1 = _; omega, by omega, rfl, gF.trans vF, fun b b0 b1 => ?_⟩
      show V 251 b = _ ∧ ∀ t : Int, 0 ≤ t → t < 200 → V 250 (200 * b + t) = _
      by_cases hb : b = i
      · subst hb; exact ⟨vc, vw⟩
      · have := hO b b0 (by omega)
        refine ⟨(v5 b hb).trans this.1, fun t t0 t1 => ?_⟩
        exact (v4 _ (by omega)).trans (this.2 t t0 t1)
end WR2
