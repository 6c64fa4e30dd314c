/-! PURE PART, 21: silence -/
section SIL
variable {Pk : zMem}
variable {σ M : zMem} {k b s t n x w tr S : Int}
abbrev zla (σ : zMem) (t n : Int) : Prop := σ 83 n ≤ t ∧ t < σ 83 n + σ 84 n
/-- v is the first NOTE that lasts in a BEAT, or there is none -/
def zFi (σ : zMem) (t v : Int) : Prop := (v = -1 ∧ ∀ n : Int, 0 ≤ n → n < σ 80 0 → ¬ zla σ t n) ∨ (0 ≤ v ∧ v < σ 80 0 ∧ zla σ t v ∧ ∀ m : Int, 0 ≤ m → m < v → ¬ zla σ t m)
theorem zFi_eq {v v' : Int} (h : zFi σ t v) (h' : zFi σ t v') : v = v' := by
  rcases h with ⟨a1, a2⟩ | ⟨a1, a2, a3, a4⟩
  · rcases h' with ⟨b1, b2⟩ | ⟨b1, b2, b3, b4⟩
    · omega
    · exact absurd b3 (a2 _ b1 b2)
  · rcases h' with ⟨b1, b2⟩ | ⟨b1, b2, b3, b4⟩
    · exact absurd a3 (b2 _ a1 a2)
    · rcases Int.lt_trichotomy v v' with c | c | c
      · exact absurd a3 (b4 _ a1 c)
      · exact c
      · exact absurd b3 (a4 _ b1 c)
theorem e_firstIn (h : St σ) (hA : zAx σ M) : zSat (fX5_firstIn 80 t M) (fun v => zFi σ t v) := by
  have hnn := r_nn h
  unfold fX5_firstIn
  have st : ∀ i : Nat, (i : Int) < σ 80 0 → fX5_firstIn_l2 80 t i M = some (if zla σ t i then .inr (.inr (i : Int)) else .inl ((i : Int) + 1)) := by
    intro i hi
    unfold fX5_firstIn_l2
    rw [hA.fl 80 rfl (by decide), if_neg (by omega), e_lasts h hA, zbd_s, zw_i (by omega) (by omega)]
    by_cases c : zla σ t i
    · rw [if_pos (show 0 ≤ (i : Int) ∧ (i : Int) < σ 80 0 ∧ σ 83 i ≤ t ∧ t < σ 83 i + σ 84 i from ⟨by omega, hi, c⟩), if_pos c]; rfl
    · rw [if_neg (show ¬ (0 ≤ (i : Int) ∧ (i : Int) < σ 80 0 ∧ σ 83 i ≤ t ∧ t < σ 83 i + σ 84 i) from fun q => c q.2.2), if_neg c]; rfl
  have t1 := zit_first (f := fun s6 : Int => fX5_firstIn_l2 80 t s6 M) (fun i => (i : Int)) (fun i => zla σ t i) (σ 80 0).toNat (fun i hi hp => by
    show fX5_firstIn_l2 80 t i M = _
    rw [st i (by omega), if_neg hp]; rfl)
  rcases t1 with ⟨i, i1, i2, i3, i4⟩ | ⟨i1, i2⟩
  · rw [show zit (fun s6 : Int => fX5_firstIn_l2 80 t s6 M) 0 = some (.inr (i : Int)) from i4.trans (zit_r (f := fun s6 : Int => fX5_firstIn_l2 80 t s6 M) (s := (i : Int)) (by show fX5_firstIn_l2 80 t i M = _; rw [st i (by omega), if_pos i2]))]
    refine Or.inr ⟨by omega, by omega, i2, fun m m0 m1 => ?_⟩
    have := i3 m.toNat (by omega)
    rwa [show ((m.toNat : Nat) : Int) = m by omega] at this
  · rw [show zit (fun s6 : Int => fX5_firstIn_l2 80 t s6 M) 0 = some (.inl ((σ 80 0).toNat : Int)) from i2.trans (zit_r (f := fun s6 : Int => fX5_firstIn_l2 80 t s6 M) (s := ((σ 80 0).toNat : Int)) (by show fX5_firstIn_l2 80 t ((σ 80 0).toNat : Int) M = _; unfold fX5_firstIn_l2; rw [hA.fl 80 rfl (by decide), if_pos (by omega)]))]
    refine Or.inl ⟨rfl, fun m m0 m1 => ?_⟩
    have := i1 m.toNat (by omega)
    rwa [show ((m.toNat : Nat) : Int) = m by omega] at this
theorem m_first (h : St σ) (hA : zAx σ M) : zSat (zit (fun s18 : Int × Int => fX12_silence_l47 w t (s18.1) (s18.2) M) (-1, zw (M 200 43 - 1))) (fun e => zFi σ t e.1) := by
  have hnn := r_nn h
  rw [a_nn h hA, zw_i (by omega) (by omega)]
  refine zit_i2 (fun a y => fX12_silence_l47 w t a y M) (fun m a y => m = (y + 1).toNat ∧ -1 ≤ y ∧ y < σ 80 0 ∧ ((a = -1 ∧ ∀ q : Int, y < q → q < σ 80 0 → ¬ zla σ t q) ∨ (y < a ∧ a < σ 80 0 ∧ zla σ t a ∧ ∀ q : Int, y < q → q < a → ¬ zla σ t q))) ?_ _ ⟨rfl, by omega, by omega, Or.inl ⟨rfl, fun q q0 q1 => by omega⟩⟩
  rintro m a y ⟨hm, y0, y1, hc⟩
  show zSat (fX12_silence_l47 w t a y M) _
  unfold fX12_silence_l47 fX12_silence_j69
  by_cases c : y < 0
  · rw [if_pos c]
    show zFi σ t a
    rcases hc with ⟨a1, a2⟩ | ⟨a1, a2, a3, a4⟩
    · exact Or.inl ⟨a1, fun q q0 q1 => a2 q (by omega) q1⟩
    · exact Or.inr ⟨by omega, a2, a3, fun q q0 q1 => a4 q (by omega) q1⟩
  · rw [if_neg c, m_lasts h hA (by omega) y1, zbd_s, zw_i (by omega) (by omega)]
    by_cases c1 : zla σ t y
    · rw [if_pos c1, if_neg (show ¬ (1 : Int) = 0 by decide)]
      exact ⟨y.toNat, by omega, by show _ = (y + -1 + 1).toNat; omega, by show -1 ≤ y + -1; omega, by show y + -1 < _; omega, Or.inr ⟨by show y + -1 < y; omega, y1, c1, fun q q0 q1 => by have q0 : y + -1 < q := q0; have q1 : q < y := q1; omega⟩⟩
    · rw [if_neg c1, if_pos rfl]
      refine ⟨y.toNat, by omega, by show _ = (y + -1 + 1).toNat; omega, by show -1 ≤ y + -1; omega, by show y + -1 < _; omega, ?_⟩
      show (a = -1 ∧ ∀ q : Int, y + -1 < q → q < σ 80 0 → ¬ zla σ t q) ∨ (y + -1 < a ∧ a < σ 80 0 ∧ zla σ t a ∧ ∀ q : Int, y + -1 < q → q < a → ¬ zla σ t q)
      rcases hc with ⟨a1, a2⟩ | ⟨a1, a2, a3, a4⟩
      · refine Or.inl ⟨a1, fun q q0 q1 => ?_⟩
        by_cases d : q = y
        · subst d; exact c1
        · exact a2 q (by omega) q1
      · refine Or.inr ⟨by omega, a2, a3, fun q q0 q1 => ?_⟩
        by_cases d : q = y
        · subst d; exact c1
        · exact a4 q (by omega) q1
/-- the first silent BEAT from one on -/
def zsi1 (σ : zMem) (t : Int) : Prop := (∃ n : Int, 0 ≤ n ∧ n < σ 80 0 ∧ zla σ t n) ∧ zbits (zspk σ t) (σ 80 0).toNat = 0
def zSil (σ : zMem) (t r : Int) : Prop := (r = -1 ∧ ∀ y : Int, t ≤ y → y < 200 → ¬ zsi1 σ y) ∨ (t ≤ r ∧ r < 200 ∧ zsi1 σ r ∧ ∀ y : Int, t ≤ y → y < r → ¬ zsi1 σ y)
theorem zSil_eq {v v' : Int} (h : zSil σ t v) (h' : zSil σ t v') : v = v' := by
  rcases h with ⟨a1, a2⟩ | ⟨a1, a2, a3, a4⟩
  · rcases h' with ⟨b1, b2⟩ | ⟨b1, b2, b3, b4⟩
    · omega
    · exact absurd b3 (a2 _ b1 b2)
  · rcases h' with ⟨b1, b2⟩ | ⟨b1, b2, b3, b4⟩
    · exact absurd a3 (b2 _ a1 a2)
    · rcases Int.lt_trichotomy v v' with c | c | c
      · exact absurd a3 (b4 _ a1 c)
      · exact c
      · exact absurd b3 (a4 _ b1 c)
theorem zFi_ex {v : Int} (h : zFi σ t v) : (v ≠ -1) ↔ ∃ n : Int, 0 ≤ n ∧ n < σ 80 0 ∧ zla σ t n := by
  rcases h with ⟨a1, a2⟩ | ⟨a1, a2, a3, a4⟩
  · exact ⟨fun q => absurd a1 q, fun ⟨n, n0, n1, n2⟩ => absurd n2 (a2 n n0 n1)⟩
  · exact ⟨fun _ => ⟨v, a1, a2, a3⟩, fun _ => by omega⟩
set_option maxRecDepth 20000 in
theorem e_silentFrom (h : St σ) (hA : zAx σ M) (hw : Cw σ M) (hv : Cv σ M) (ht : 0 ≤ t ∧ t < 200) : zSat (fX9_silentFrom t M) (fun e => zSil σ t e.1 ∧ zFr 90 130 M e.2 ∧ Cw σ e.2 ∧ Cv σ e.2) := by
  unfold fX9_silentFrom
  rw [zS_bd]
  refine zit_i2 (fun y N => fX9_silentFrom_l2 y N) (fun m y N => m = (200 - y).toNat ∧ t ≤ y ∧ y ≤ 200 ∧ zFr 90 130 M N ∧ Cw σ N ∧ Cv σ N ∧ ∀ z : Int, t ≤ z → z < y → ¬ zsi1 σ z) ?_ _ ⟨rfl, by omega, by omega, zFr.refl _ _ _, hw, hv, fun z z0 z1 => by omega⟩
  rintro m y N ⟨hm, y0, y1, f, w1, v1, hz⟩
  have hN : zAx σ N := hA.fr (f.mono (by omega) (by omega))
  show zSat (fX9_silentFrom_l2 y N) _
  unfold fX9_silentFrom_l2
  by_cases c : 200 ≤ y
  · rw [if_pos c]
    exact ⟨Or.inl ⟨rfl, fun z z0 z1 => hz z z0 (by omega)⟩, f, w1, v1⟩
  · rw [if_neg c, zS_bd, zw_i (by omega) (by omega)]
    refine zs_m (e_firstIn h hN) ?_
    intro v hv'
    have nxt : ∀ N' : zMem, zFr 90 130 M N' → Cw σ N' → Cv σ N' → ¬ zsi1 σ y → zel (.inl (y + 1, N') : (Int × zMem) ⊕ ((Int × zMem) ⊕ (Int × zMem))) (fun s' => ∃ m', m' < m ∧ m' = (200 - s'.1).toNat ∧ t ≤ s'.1 ∧ s'.1 ≤ 200 ∧ zFr 90 130 M s'.2 ∧ Cw σ s'.2 ∧ Cv σ s'.2 ∧ ∀ z : Int, t ≤ z → z < s'.1 → ¬ zsi1 σ z) (fun x => zSat (zel x (fun s15 => some (-1, s15.2)) (fun r => some r)) fun e => zSil σ t e.1 ∧ zFr 90 130 M e.2 ∧ Cw σ e.2 ∧ Cv σ e.2) := by
      intro N' f' w' v' hn
      refine ⟨(200 - (y + 1)).toNat, by omega, rfl, by show t ≤ y + 1; omega, by show y + 1 ≤ 200; omega, f', w', v', fun z z0 z1 => ?_⟩
      have z1 : z < y + 1 := z1
      by_cases d : z = y
      · subst d; exact hn
      · exact hz z z0 (by omega)
    by_cases c1 : v = -1
    · rw [if_pos c1]
      exact nxt N f w1 v1 (fun q => absurd c1 ((zFi_ex hv').mpr q.1))
    · rw [if_neg c1, zS_bd2]
      refine zs_m (e_speakingIn (t := y) h hN w1 v1) ?_
      rintro ⟨r, V⟩ ⟨hr, fV, wV, vV, -⟩
      dsimp only at hr fV wV vV ⊢
      by_cases c2 : r = 0
      · rw [if_pos c2]
        exact ⟨Or.inr ⟨y0, by show y < 200; omega, ⟨(zFi_ex hv').mp c1, hr.symm.trans c2⟩, hz⟩, f.trans fV, wV, vV⟩
      · rw [if_neg c2]
        exact nxt V (f.trans fV) wV vV (fun q => c2 (hr.trans q.2))
set_option maxRecDepth 20000 in
theorem m_silence (h : St σ) (g : zMo σ M) (ht : 0 ≤ t ∧ t < 200) (hw : 0 ≤ w ∧ w ≤ 2) : zSat (zbd (zit (fun s38 : Int × zMem => fX12_silence_l29 w (s38.1) (s38.2)) (t, M)) fun e => zel e (fun s44 => some ((-1 : Int), s44.2)) (fun r => some r)) (fun e => zFr 233 243 M e.2 ∧ ∃ r v : Int, zSil σ t r ∧ zFi σ r v ∧ e.1 = (if r = -1 then -1 else if w = 0 then r else if w = 1 then v else zwhy σ (σ 86) v r (σ 59 0))) := by
  have hnn := r_nn h
  have hti := r_ti h
  rw [zS_bd]
  refine zit_i2 (fun y N => fX12_silence_l29 w y N) (fun m y N => m = (200 - y).toNat ∧ t ≤ y ∧ y ≤ 200 ∧ zFr 233 243 M N ∧ ∀ z : Int, t ≤ z → z < y → ¬ zsi1 σ z) ?_ _ ⟨rfl, by omega, by omega, zFr.refl _ _ _, fun z z0 z1 => by omega⟩
  rintro m y N ⟨hm, y0, y1, f, hz⟩
  have gN := g.f f
  show zSat (fX12_silence_l29 w y N) _
  unfold fX12_silence_l29
  by_cases c : 200 ≤ y
  · rw [if_pos c]
    refine ⟨f, -1, -1, Or.inl ⟨rfl, fun z z0 z1 => hz z z0 (by omega)⟩, ?_, by rw [if_pos rfl]⟩
    refine Or.inl ⟨rfl, fun n n0 n1 q => ?_⟩
    have := r_nl h n0 n1
    have := q.1
    omega
  · rw [if_neg c, zS_bd, zw_i (x := y + 1) (by omega) (by omega)]
    refine zs_m (m_first h gN.1.x) ?_
    rintro ⟨v, yy⟩ hv'
    dsimp only at hv' ⊢
    have nxt : ∀ N' : zMem, zFr 233 243 M N' → ¬ zsi1 σ y → zel (.inl (y + 1, N') : (Int × zMem) ⊕ ((Int × zMem) ⊕ (Int × zMem))) (fun s' => ∃ m', m' < m ∧ m' = (200 - s'.1).toNat ∧ t ≤ s'.1 ∧ s'.1 ≤ 200 ∧ zFr 233 243 M s'.2 ∧ ∀ z : Int, t ≤ z → z < s'.1 → ¬ zsi1 σ z) (fun x => zSat (zel x (fun s44 => some ((-1 : Int), s44.2)) (fun r => some r)) fun e => zFr 233 243 M e.2 ∧ ∃ r v : Int, zSil σ t r ∧ zFi σ r v ∧ e.1 = (if r = -1 then -1 else if w = 0 then r else if w = 1 then v else zwhy σ (σ 86) v r (σ 59 0))) := by
      intro N' f' hn
      refine ⟨(200 - (y + 1)).toNat, by omega, rfl, by show t ≤ y + 1; omega, by show y + 1 ≤ 200; omega, f', fun z z0 z1 => ?_⟩
      have z1 : z < y + 1 := z1
      by_cases d : z = y
      · subst d; exact hn
      · exact hz z z0 (by omega)
    have vr : v = -1 ∨ (0 ≤ v ∧ v < σ 80 0 ∧ zla σ y v) := by
      rcases hv' with ⟨a1, a2⟩ | ⟨a1, a2, a3, a4⟩
      · exact Or.inl a1
      · exact Or.inr ⟨a1, a2, a3⟩
    by_cases c1 : v < 0
    · rw [if_pos c1]
      exact nxt N f (fun q => absurd (show v = -1 by omega) ((zFi_ex hv').mpr q.1))
    · rw [if_neg c1, zS_bd2]
      refine zs_m (m_soundsIn (t := y) h gN) ?_
      rintro ⟨r, V⟩ ⟨hr, fV⟩
      dsimp only at hr fV ⊢
      obtain ⟨mm, hmm, -⟩ := zbits_n (zspk σ y) (σ 80 0).toNat (by omega)
      by_cases c2 : r = 0
      · have hs : zSil σ t y := Or.inr ⟨y0, by omega, ⟨(zFi_ex hv').mp (by omega), hr.symm.trans c2⟩, hz⟩
        rw [if_pos (by omega)]
        by_cases d0 : w = 0
        · rw [if_pos d0]
          exact ⟨f.trans fV, y, v, hs, hv', by show y = _; rw [if_neg (by omega), if_pos d0]⟩
        · rw [if_neg d0]
          by_cases d1 : w = 1
          · rw [if_pos d1]
            exact ⟨f.trans fV, y, v, hs, hv', by show v = _; rw [if_neg (by omega), if_neg d0, if_pos d1]⟩
          · have gV := gN.f fV
            rw [if_neg d1, a_st h gV.1.x (k := 0) (by decide) (by decide), zgd_t (by decide), zS_bd2]
            refine zs_m (m_why1 h gV (n := v) (t := y) (by omega) (by omega) (by rcases vr with q | q; omega; exact q.2.2) hti.1) ?_
            rintro ⟨r', W⟩ ⟨hr', fW⟩
            dsimp only at hr' fW
            exact ⟨(f.trans fV).trans fW, y, v, hs, hv', by show r' = _; rw [if_neg (by omega), if_neg d0, if_neg d1]; exact hr'⟩
      · have : ¬ r ≤ 0 := by omega
        rw [if_neg this]
        exact nxt V (f.trans fV) (fun q => c2 (hr.trans q.2))
set_option maxRecDepth 20000 in
theorem c_silence (hI : Inv Pk M) : zAlike Pk (fX11_silence t w M) (fX12_silence t w) := by
  obtain ⟨σ, hA, h, hC, hPk⟩ := hI
  unfold zAlike fX11_silence
  rw [e_isBeat, zbd_s]
  by_cases c : 0 ≤ t ∧ t < 200
  · rw [if_pos c, if_neg (show ¬ (1 : Int) = 0 by decide), zS_bd2]
    refine zs_m (e_silentFrom h hA.x hC.1 hC.2.1 c) ?_
    rintro ⟨r, N⟩ ⟨hs, f, w1, v1⟩
    dsimp only at hs f w1 v1 ⊢
    have hN : zAg σ N := hA.fr (f.mono (by omega) (by omega))
    -- the model at a memory that the class may leave
    have fin : ∀ (V : zMem) (a : Int), zAg σ V → Cs σ V → (0 ≤ w ∧ w ≤ 2 → ∃ v : Int, zFi σ r v ∧ a = (if r = -1 then -1 else if w = 0 then r else if w = 1 then v else zwhy σ (σ 86) v r (σ 59 0))) → (¬ (0 ≤ w ∧ w ≤ 2) → a = -1) → zSat (fX12_silence t w V) (fun e' => e'.1 = a ∧ Inv Pk e'.2) := by
      intro V a hV hCV ha hb
      unfold fX12_silence
      rw [m_isBeat, zbd_s, if_pos c, if_neg (show ¬ (1 : Int) = 0 by decide), m_isFrom, zbd_s]
      by_cases d : 0 ≤ w ∧ w ≤ 2
      · rw [if_pos d, if_neg (show ¬ (1 : Int) = 0 by decide), zS_bd]
        refine zs_m (m_mo h (zA0 hV)) ?_
        rintro U ⟨gU, fU⟩
        refine zs_m (m_silence h gU c d) ?_
        rintro ⟨r', W⟩ ⟨fW, q, v', hs', hv', e'⟩
        dsimp only at fW e' ⊢
        obtain ⟨v, hv, ev⟩ := ha d
        have : q = r := zSil_eq hs' hs
        subst this
        have : v' = v := zFi_eq hv' hv
        subst this
        exact ⟨e'.trans ev.symm, zIm hPk hCV h gU fU fW⟩
      · rw [if_neg d, if_pos rfl]
        exact ⟨(hb d).symm, Inv.z hPk hV h hCV⟩
    unfold fX11_silence_j19
    by_cases c0 : r = -1
    · rw [if_pos c0]
      refine fin N (-1) hN (hC.v f w1 v1) (fun _ => ⟨-1, ?_, by rw [if_pos c0]⟩) (fun _ => rfl)
      refine Or.inl ⟨rfl, fun n n0 n1 q => ?_⟩
      have := r_nl h n0 n1
      have := q.1
      omega
    · rw [if_neg c0, zS_bd]
      refine zs_m (e_firstIn h hN.x) ?_
      intro v hv
      by_cases d0 : w = 0
      · rw [if_pos d0]
        exact fin N r hN (hC.v f w1 v1) (fun _ => ⟨v, hv, by rw [if_neg c0, if_pos d0]⟩) (fun q => absurd (show 0 ≤ w ∧ w ≤ 2 by omega) q)
      · rw [if_neg d0]
        by_cases d1 : w = 1
        · rw [if_pos d1]
          exact fin N v hN (hC.v f w1 v1) (fun _ => ⟨v, hv, by rw [if_neg c0, if_neg d0, if_pos d1]⟩) (fun q => absurd (show 0 ≤ w ∧ w ≤ 2 by omega) q)
        · rw [if_neg d1]
          by_cases d2 : w = 2
          · rw [if_pos d2, zS_bd2]
            have vr : 0 ≤ v ∧ v < σ 80 0 ∧ zla σ r v := by
              rcases hs with q | q
              · exact absurd q.1 c0
              · have := (zFi_ex hv).mpr q.2.2.1.1
                rcases hv with q | q
                · exact absurd q.1 this
                · exact ⟨q.1, q.2.1, q.2.2.1⟩
            refine zs_m (e_reasonOf h hN.x w1 v1 vr.1 vr.2.1 vr.2.2) ?_
            rintro ⟨a, V⟩ ⟨ha, gV⟩
            dsimp only at ha gV
            show zSat (fX12_silence t w V) (fun e' => e'.1 = a ∧ Inv Pk e'.2)
            exact fin V a (gV.ag hN) (gV.cs (hC.v f w1 v1)) (fun _ => ⟨v, hv, by rw [if_neg c0, if_neg d0, if_neg d1]; exact ha⟩) (fun q => absurd (show 0 ≤ w ∧ w ≤ 2 by omega) q)
          · rw [if_neg d2]
            exact fin N (-1) hN (hC.v f w1 v1) (fun q => by omega) (fun _ => rfl)
  · rw [if_neg c, if_pos rfl]
    unfold fX11_silence_j19
    rw [if_pos rfl]
    show zSat (fX12_silence t w M) _
    unfold fX12_silence
    rw [m_isBeat, zbd_s, if_neg c, if_pos rfl]
    exact ⟨rfl, Inv.z hPk hA h hC⟩
end SIL
