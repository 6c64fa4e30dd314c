/-! PURE PART, 17: the class's voice -/
section VOI
variable {σ M : zMem} {k b s t n x w tr : Int} {F F' : Int → Int}
theorem zals_split (p : Nat → Bool) : ∀ m : Nat, zall σ F m = (zals σ F (fun q => !p q) m && zals σ F p m)
  | 0 => rfl
  | m + 1 => by
    show (zall σ F m && decide (zlw σ m F ≠ 0)) = ((zals σ F (fun q => !p q) m && (!!p m || decide (zlw σ m F ≠ 0))) && (zals σ F p m && (!p m || decide (zlw σ m F ≠ 0))))
    rw [zals_split p m]
    cases zals σ F (fun q => !p q) m <;> cases zals σ F p m <;> cases p m <;> simp
theorem zals_c {p p' : Nat → Bool} : ∀ m : Nat, (∀ q : Nat, q < m → p q = p' q ∧ (p q = true → (zlw σ q F ≠ 0 ↔ zlw σ q F' ≠ 0))) → zals σ F p m = zals σ F' p' m
  | 0, _ => rfl
  | m + 1, h => by
    show (zals σ F p m && (!p m || decide (zlw σ m F ≠ 0))) = (zals σ F' p' m && (!p' m || decide (zlw σ m F' ≠ 0)))
    rw [zals_c m (fun q hq => h q (by omega)), (h m (by omega)).1]
    cases hp : p' m with
    | false => simp
    | true =>
      have := (h m (by omega)).2 (by rw [(h m (by omega)).1, hp])
      simp only [this]
theorem zlw_ns (h : St σ) {q : Nat} (hq : (q : Int) < σ 40 13) (hb : zswb σ q = false) (hF : ∀ i : Int, i ≠ 1 → F i = F' i) : zlw σ q F = zlw σ q F' := by
  obtain ⟨-, -, v, hv, -, hn⟩ := r_sp h q hq
  have z : ∀ G : Int → Int, zlw σ q G = v G := fun G => by unfold zlw; rw [hv G]
  rw [z, z]
  refine hn ?_ F F' hF
  unfold zswb at hb
  have := of_decide_eq_false hb
  omega
theorem zfc_1 {tr' : Int} : ∀ i : Int, i ≠ 1 → zfc σ n t tr i = zfc σ n t tr' i := fun i hi => by
  unfold zfc; rw [if_neg hi, if_neg hi]
theorem zals_tr (h : St σ) {tr' : Int} : zals σ (zfc σ n t tr) (fun q => !zswb σ q) (σ 40 13).toNat = zals σ (zfc σ n t tr') (fun q => !zswb σ q) (σ 40 13).toNat :=
  zals_c _ fun q hq => ⟨rfl, fun hp => by
    have : zswb σ q = false := by simpa using hp
    rw [zlw_ns h (by omega) this (zfc_1 (tr := tr) (tr' := tr'))]⟩
theorem zrk_r : 0 ≤ zrk σ n t ∧ zrk σ n t ≤ 5 := by unfold zrk; repeat (first | split | omega)
theorem zwhy_r {fg : Int → Int} : 0 ≤ zwhy σ fg n t tr ∧ zwhy σ fg n t tr ≤ 4 := by unfold zwhy; repeat (first | split | omega)
theorem zwhy_k : zwhy σ (σ 86) n t (σ 59 0) = min 4 (zrk σ n t) := by
  unfold zwhy zrk
  generalize zcrk σ (σ 82 n) = z
  rw [zals_split (zswb σ)]
  by_cases c1 : t - σ 83 n < σ 59 3
  · simp only [if_pos c1]; rfl
  simp only [if_neg c1]
  by_cases c2 : z ≠ -1 ∧ z ≤ t
  · simp only [if_pos c2]; rfl
  simp only [if_neg c2]
  by_cases c3 : zdry σ (σ 86) n t
  · simp only [if_pos c3]; rfl
  simp only [if_neg c3]
  cases zals σ (zfc σ n t (σ 59 0)) (fun q => !zswb σ q) (σ 40 13).toNat <;> cases zals σ (zfc σ n t (σ 59 0)) (zswb σ) (σ 40 13).toNat <;> rfl
/-- speaking at a treadle, out of the reason kept -/
theorem zwhy_t (h : St σ) : (zwhy σ (σ 86) n t tr = 0) ↔ ((zrk σ n t = 0 ∨ zrk σ n t = 4) ∧ zals σ (zfc σ n t tr) (zswb σ) (σ 40 13).toNat = true) := by
  unfold zwhy zrk
  generalize zcrk σ (σ 82 n) = z
  rw [zals_split (zswb σ), zals_tr h (tr' := σ 59 0)]
  by_cases c1 : t - σ 83 n < σ 59 3
  · simp only [if_pos c1]; simp
  simp only [if_neg c1]
  by_cases c2 : z ≠ -1 ∧ z ≤ t
  · simp only [if_pos c2]; simp
  simp only [if_neg c2]
  by_cases c3 : zdry σ (σ 86) n t
  · simp only [if_pos c3]; simp
  simp only [if_neg c3]
  cases zals σ (zfc σ n t (σ 59 0)) (fun q => !zswb σ q) (σ 40 13).toNat <;> cases zals σ (zfc σ n t (σ 59 0)) (zswb σ) (σ 40 13).toNat <;> cases zals σ (zfc σ n t tr) (zswb σ) (σ 40 13).toNat <;> simp
theorem zals_nil (h : St σ) (hs : σ 40 14 = 0) : ∀ m : Nat, zals σ F (zswb σ) m = true
  | 0 => rfl
  | m + 1 => by
    show (zals σ F (zswb σ) m && _) = true
    rw [zals_nil h hs m]
    have : zswb σ m = false := by unfold zswb; rw [hs]; simp
    simp [this]
theorem zmask (h : St σ) {q : Nat} (hq : q < 4) : decide (zxor (σ 40 14) (-1) / 2 ^ q % 2 = 1) = !zswb σ q := by
  have hs := h.1.2.2.2.2.2.1
  rw [zxor_m1 ⟨by omega, by omega⟩]
  unfold zswb
  have : q = 0 ∨ q = 1 ∨ q = 2 ∨ q = 3 := by omega
  rw [Bool.eq_iff_iff]
  rcases this with rfl | rfl | rfl | rfl <;> simp <;> omega
/-- class: what is known of warming and voice, and has changed alone -/
def zVc (σ M N : zMem) : Prop := zFr 90 130 M N ∧ Cw σ N ∧ Cv σ N ∧ N 110 7 ≠ 0 ∧ N 90 5 ≠ 0
theorem e_vlearn (h : St σ) (hA : zAx σ M) (hw : Cw σ M) (hv : Cv σ M) : zSat (fX9_learn M) (fun N => zVc σ M N) := by
  unfold fX9_learn
  by_cases c : M 110 7 = 0
  · rw [if_pos c, zS_bd]
    have hA' : zAx σ (zup M 110 7 1) := hA.up (Or.inl rfl)
    refine zs_m (e_wlearn h hA' (hw.fr fun c _ _ => by funext q; exact zup_ne (by omega))) ?_
    rintro N ⟨f1, w1, k1⟩
    rw [e_fill (by omega), zbd_s, e_fill (by omega), zbd_s]
    have fil : ∀ c : Nat, c ≠ 116 → c ≠ 117 → zfil (zfil N 117 ((100 : Nat) : Int) (-1)) 116 ((960 : Nat) : Int) (-1) c = N c := fun c c1 c2 => by
      funext q; unfold zfil; rw [if_neg (fun g => c1 g.1), if_neg (fun g => c2 g.1)]
    have nl := fun n (h0 : 0 ≤ n) (h1 : n < σ 80 0) => r_nl h h0 h1
    have hnn := r_nn h
    refine ⟨fun c hc => ?_, w1.fr (fun c _ _ => fil c (by omega) (by omega)), ?_, ?_, ?_⟩
    · rw [fil c (by omega) (by omega), f1 c (by omega)]; funext q; exact zup_ne (by omega)
    · intro _
      refine ⟨?_, ?_, ?_⟩
      · rw [fil 90 (by decide) (by decide)]; exact k1
      · intro n a h0 h1 a0 a1
        have := nl n h0 h1
        left
        unfold zfil; exact if_pos ⟨rfl, by omega, by omega⟩
      · intro tr t0 t1
        left
        unfold zfil; rw [if_neg (by omega)]; exact if_pos ⟨rfl, by omega, by omega⟩
    · show zfil (zfil N 117 ((100 : Nat) : Int) (-1)) 116 ((960 : Nat) : Int) (-1) 110 7 ≠ 0
      rw [fil 110 (by decide) (by decide), f1 110 (by omega), zup_eq]; decide
    · show zfil (zfil N 117 ((100 : Nat) : Int) (-1)) 116 ((960 : Nat) : Int) (-1) 90 5 ≠ 0
      rw [fil 90 (by decide) (by decide)]; exact k1
  · rw [if_neg c]
    exact ⟨zFr.refl _ _ _, hw, hv, c, (hv c).1⟩
theorem e_isCracked (h : St σ) (hw : Cw σ M) (hk : M 90 5 ≠ 0) (b0 : 0 ≤ b) (b1 : b < σ 40 0) : fX10_isCracked b t M = some (if zcrk σ b ≠ -1 ∧ zcrk σ b ≤ t then 1 else 0) := by
  have hb := r_bw h
  unfold fX10_isCracked
  rw [zgd_t ⟨b0, by omega⟩, zgd_t ⟨b0, by omega⟩, (hw hk b b0 b1).1]
  generalize zcrk σ b = z
  by_cases c1 : z = -1
  · rw [if_pos c1, if_neg (fun q => q.1 c1)]
  · rw [if_neg c1]
    by_cases c2 : t < z
    · rw [if_pos c2, if_neg (fun q => by have := q.2; omega)]
    · rw [if_neg c2, if_pos ⟨c1, by omega⟩]
theorem e_tellLaw (h : St σ) (hA : zAx σ M) (hw : Cw σ M) (hk : M 90 5 ≠ 0) (h0 : 0 ≤ n) (h1 : n < σ 80 0) (ht : σ 83 n ≤ t ∧ t < σ 83 n + σ 84 n) : zSat (fX9_tellLaw n t M) (fun N => zFr 123 124 M N ∧ ∀ tr : Int, zfct (zup N 123 25 (σ 44 (σ 82 n) * tr)) (zfc σ n t tr)) := by
  have hnn := r_nn h
  have hbw := r_bw h
  have nb := r_nb h h0 h1
  have nl := r_nl h h0 h1
  have np := r_np h h0 h1
  have wm := (hw hk _ nb.1 nb.2.1).2 t (by omega) (by omega)
  have key : ∀ pr : Int, pr = σ 85 n - (if σ 46 (σ 82 n) = 2 then 1 else 0) → zSat (fX3_tell pr (zwm σ (σ 82 n) t.toNat) (t - σ 83 n) (σ 45 (σ 82 n)) M) (fun N => zFr 123 124 M N ∧ ∀ tr : Int, zfct (zup N 123 25 (σ 44 (σ 82 n) * tr)) (zfc σ n t tr)) := by
    intro pr hpr
    unfold fX3_tell
    rw [zgd_t (by decide), zgd_t (by decide), zgd_t (by decide), zgd_t (by decide)]
    refine ⟨((((zFr.refl _ _ _).up (by omega) (by omega)).up (by omega) (by omega)).up (by omega) (by omega)).up (by omega) (by omega), fun tr => ?_⟩
    unfold zfct
    refine ⟨by simp [zup, zfc], by simp [zup, zfc, hpr], by simp [zup, zfc], by simp [zup, zfc], by simp [zup, zfc]⟩
  unfold fX9_tellLaw fX9_tellLaw_j37 fX10_heatOf
  rw [hA.fl 82 rfl (by decide), hA.fl 83 rfl (by decide), hA.fl 85 rfl (by decide), hA.fl 45 rfl (by decide), hA.fl 46 rfl (by decide), zgd_t ⟨h0, by omega⟩, zgd_t ⟨h0, by omega⟩, zgd_t ⟨nb.1, by omega⟩, wm]
  simp only [zgd_t (show (0 : Int) ≤ σ 82 n * 200 + t ∧ σ 82 n * 200 + t < 2400 by omega), zbd_s, zgd_t (show (0 : Int) ≤ n ∧ n < 24 by omega), zgd_t (show (0 : Int) ≤ σ 82 n ∧ σ 82 n < 12 by omega), zw_i (x := t - σ 83 n) (by omega) (by omega)]
  by_cases c : σ 46 (σ 82 n) = 2
  · rw [if_pos c, zw_i (x := σ 85 n - 1) (by omega) (by omega), zS_bd]
    exact zs_m (key _ (by rw [if_pos c])) fun N g => g
  · rw [if_neg c, zw_i (x := σ 85 n - 0) (by omega) (by omega), zS_bd]
    exact zs_m (key _ (by rw [if_neg c])) fun N g => g
theorem e_vspeed (h : St σ) (hA : zAx σ M) (h0 : 0 ≤ n) (h1 : n < σ 80 0) (htr : 1 ≤ tr ∧ tr ≤ 99) : fX9_speedOf n tr M = some (σ 44 (σ 82 n) * tr) := by
  have hnn := r_nn h
  have hbw := r_bw h
  have nb := r_nb h h0 h1
  have sz := r_sz h nb.1 nb.2.1
  have hm := zmul_b (a := σ 44 (σ 82 n)) (b := tr) (A := 99) (B := 99) (by omega) (by omega)
  unfold fX9_speedOf
  rw [hA.fl 82 rfl (by decide), hA.fl 44 rfl (by decide), zgd_t ⟨h0, by omega⟩, zgd_t ⟨nb.1, by omega⟩, zw_i (by omega) (by omega)]
theorem e_reasonFound (h : St σ) (hA : zAx σ M) (hw : Cw σ M) (hk : M 90 5 ≠ 0) (h0 : 0 ≤ n) (h1 : n < σ 80 0) (ht : σ 83 n ≤ t ∧ t < σ 83 n + σ 84 n) : zSat (fX9_reasonFound n t M) (fun e => e.1 = zrk σ n t ∧ zFr 122 124 M e.2) := by
  have hnn := r_nn h
  have hsn := r_sn h
  have hti := r_ti h
  have nb := r_nb h h0 h1
  have nl := r_nl h h0 h1
  have hsw := h.1.2.2.2.2.2.1
  unfold fX9_reasonFound
  rw [hA.fl 59 rfl (by decide), hA.fl 82 rfl (by decide), hA.fl 83 rfl (by decide), zgd_t ⟨h0, by omega⟩, zgd_t (by decide), zgd_t ⟨h0, by omega⟩, zw_i (x := t - σ 83 n) (by omega) (by omega), e_isCracked h hw hk nb.1 nb.2.1, zbd_s, e_driesIn h hA h0 h1 (by omega) (by omega), zbd_s, show t - σ 83 n + σ 83 n = t by omega]
  unfold zrk
  generalize zcrk σ (σ 82 n) = z
  by_cases c1 : t - σ 83 n < σ 59 3
  · rw [if_neg (by omega), if_pos c1]; exact ⟨rfl, zFr.refl _ _ _⟩
  rw [if_pos (by omega), if_neg c1]
  by_cases c2 : z ≠ -1 ∧ z ≤ t
  · rw [if_pos c2, if_pos c2, if_neg (show ¬ (1 : Int) = 0 by decide)]; exact ⟨rfl, zFr.refl _ _ _⟩
  rw [if_neg c2, if_neg c2, if_pos rfl]
  by_cases c3 : zdry σ (σ 86) n t
  · rw [if_pos c3, if_pos c3, if_neg (show ¬ (1 : Int) = 0 by decide)]; exact ⟨rfl, zFr.refl _ _ _⟩
  rw [if_neg c3, if_neg c3, if_pos rfl, zS_bd]
  refine zs_m (e_tellLaw h hA hw hk h0 h1 ht) ?_
  rintro N ⟨f1, g1⟩
  have hN : zAx σ N := hA.fr (f1.mono (by omega) (by omega))
  rw [hN.fl 59 rfl (by decide), zgd_t (by decide), e_vspeed h hN h0 h1 hti.1, zbd_s, hN.fl 40 rfl (by decide), zS_bd2]
  refine zs_m (e_allows h hN (m := zxor (σ 40 14) (-1)) (z32_i _) (g1 (σ 59 0))) ?_
  rintro ⟨r, V⟩ ⟨hr, f2, g2⟩
  dsimp only at hr f2 g2 ⊢
  have hV : zAx σ V := hN.fr (f2.mono (by omega) (by omega))
  rw [zals_c (F' := zfc σ n t (σ 59 0)) (p' := fun q => !zswb σ q) (σ 40 13).toNat (fun q hq => ⟨zmask h (by omega), fun _ => Iff.rfl⟩)] at hr
  have f12 : zFr 122 124 M V := (f1.mono (by omega) (by omega)).trans f2
  cases ha : zals σ (zfc σ n t (σ 59 0)) (fun q => !zswb σ q) (σ 40 13).toNat with
  | false =>
    rw [ha] at hr
    have : r = 0 := hr
    rw [if_pos this, if_pos rfl]; exact ⟨rfl, f12⟩
  | true =>
    rw [ha] at hr
    have : r = 1 := hr
    rw [if_neg (show ¬ r = 0 by omega), if_neg (by decide), hV.fl 40 rfl (by decide), zS_bd2]
    refine zs_m (e_allows (F := zfc σ n t (σ 59 0)) h hV (m := σ 40 14) ⟨by omega, by omega⟩ (by
      obtain ⟨q1, q2, q3, q4, q5⟩ := g2
      exact ⟨by rw [zup_eq]; simp [zfc], by rw [zup_nk (by decide)]; exact q2, by rw [zup_nk (by decide)]; exact q3, by rw [zup_nk (by decide)]; exact q4, by rw [zup_nk (by decide)]; exact q5⟩)) ?_
    rintro ⟨r', W⟩ ⟨hr', f3, -⟩
    dsimp only at hr' f3 ⊢
    rw [show zals σ (zfc σ n t (σ 59 0)) (fun q => decide (σ 40 14 / 2 ^ q % 2 = 1)) (σ 40 13).toNat = zals σ (zfc σ n t (σ 59 0)) (zswb σ) (σ 40 13).toNat from rfl] at hr'
    cases hb : zals σ (zfc σ n t (σ 59 0)) (zswb σ) (σ 40 13).toNat with
    | false =>
      rw [hb] at hr'
      have : r' = 0 := hr'
      rw [if_pos this, if_pos rfl]; exact ⟨rfl, f12.trans f3⟩
    | true =>
      rw [hb] at hr'
      have : r' = 1 := hr'
      rw [if_neg (show ¬ r' = 0 by omega), if_neg (by decide)]; exact ⟨rfl, f12.trans f3⟩
theorem zVc.law {N V : zMem} (g : zVc σ M N) (f : zFr 122 124 N V) : zVc σ M V := by
  obtain ⟨g1, g2, g3, g4, g5⟩ := g
  refine ⟨g1.trans (f.mono (by omega) (by omega)), g2.fr (fun c _ _ => f c (by omega)), ?_, by rw [f 110 (by omega)]; exact g4, by rw [f 90 (by omega)]; exact g5⟩
  unfold Cv at g3 ⊢
  rw [f 110 (by omega), f 90 (by omega), f 116 (by omega), f 117 (by omega)]; exact g3
theorem e_reasonKept (h : St σ) (hA : zAx σ M) (hw : Cw σ M) (hv : Cv σ M) (h0 : 0 ≤ n) (h1 : n < σ 80 0) (ht : σ 83 n ≤ t ∧ t < σ 83 n + σ 84 n) : zSat (fX9_reasonKept n t M) (fun e => e.1 = zrk σ n t ∧ zVc σ M e.2) := by
  have hnn := r_nn h
  have nl := r_nl h h0 h1
  unfold fX9_reasonKept fX9_reasonKept_j57
  rw [e_lasts h hA, zbd_s, if_pos (show 0 ≤ n ∧ n < σ 80 0 ∧ σ 83 n ≤ t ∧ t < σ 83 n + σ 84 n from ⟨h0, h1, ht⟩), if_neg (show ¬ (1 : Int) = 0 by decide), zS_bd]
  refine zs_m (e_vlearn h hA hw hv) ?_
  intro N gN
  obtain ⟨g1, g2, g3, g4, g5⟩ := gN
  have hN : zAx σ N := hA.fr (g1.mono (by omega) (by omega))
  rw [hN.fl 83 rfl (by decide), zw_i (x := n * 40 + t - σ 83 n) (by omega) (by omega), show n * 40 + t - σ 83 n = n * 40 + (t - σ 83 n) by omega]
  have hi : (0 : Int) ≤ n * 40 + (t - σ 83 n) ∧ n * 40 + (t - σ 83 n) < 960 := by omega
  rw [zgd_t ⟨h0, by omega⟩, zgd_t hi]
  have old := (g3 g4).2.1 n (t - σ 83 n) h0 h1 (by omega) (by omega)
  rw [show σ 83 n + (t - σ 83 n) = t by omega] at old
  have rr := zrk_r (σ := σ) (n := n) (t := t)
  by_cases c : N 116 (n * 40 + (t - σ 83 n)) = -1
  · rw [if_pos c, zS_bd2]
    refine zs_m (e_reasonFound h hN g2 g5 h0 h1 ht) ?_
    rintro ⟨r, V⟩ ⟨hr, f⟩
    dsimp only at hr f ⊢
    obtain ⟨v1, v2, v3, v4, v5⟩ := zVc.law (M := M) ⟨g1, g2, g3, g4, g5⟩ f
    rw [zgd_t hi, zgd_t hi, hr]
    refine ⟨zup_eq, v1.up (by omega) (by omega), v2.fr (fun c _ _ => by funext q; exact zup_ne (by omega)), ?_, by dsimp only; rw [zup_ne (by decide)]; exact v4, by dsimp only; rw [zup_ne (by decide)]; exact v5⟩
    intro _
    obtain ⟨w1, w2, w3⟩ := v3 v4
    refine ⟨by dsimp only; rw [zup_ne (by decide)]; exact w1, fun n' a' a1 a2 a3 a4 => ?_, fun tr t0 t1 => by dsimp only; rw [zup_ne (by decide)]; exact w3 tr t0 t1⟩
    have nl' := r_nl h a1 a2
    by_cases e : n' * 40 + a' = n * 40 + (t - σ 83 n)
    · have : n' = n := by omega
      subst this
      have : a' = t - σ 83 n' := by omega
      subst this
      right
      show zup V 116 _ _ 116 _ = _
      rw [zup_eq, show σ 83 n' + (t - σ 83 n') = t by omega]
    · show zup V 116 _ _ 116 _ = -1 ∨ zup V 116 _ _ 116 _ = _
      rw [zup_nk e]; exact w2 n' a' a1 a2 a3 a4
  · rw [if_neg c, zgd_t hi]
    rcases old with old | old
    · exact absurd old c
    · exact ⟨old, g1, g2, g3, g4, g5⟩
theorem zVc.trans {N V : zMem} (g : zVc σ M N) (f : zVc σ N V) : zVc σ M V := ⟨g.1.trans f.1, f.2⟩
theorem zVc.ax {N : zMem} (hA : zAx σ M) (g : zVc σ M N) : zAx σ N := hA.fr (g.1.mono (by omega) (by omega))
theorem zVc.ag {N : zMem} (hA : zAg σ M) (g : zVc σ M N) : zAg σ N := hA.fr (g.1.mono (by omega) (by omega))
theorem zVc.cs {N : zMem} (hC : Cs σ M) (g : zVc σ M N) : Cs σ N := by
  obtain ⟨h1, h2, h3, h4, h5⟩ := hC
  have hf := g.1
  have e : zstp N = zstp M := funext fun b => by unfold zstp; rw [hf 150 (by omega), hf 153 (by omega)]
  refine ⟨g.2.1, g.2.2.1, ?_, ?_, ?_⟩
  · unfold Cf at h3 ⊢; rw [hf 130 (by omega), hf 135 (by omega)]; exact h3
  · unfold Cg at h4 ⊢; rw [hf 150 (by omega), hf 153 (by omega), e]; exact h4
  · unfold Co at h5 ⊢; rw [hf 170 (by omega), hf 176 (by omega), hf 177 (by omega)]; exact h5
end VOI
