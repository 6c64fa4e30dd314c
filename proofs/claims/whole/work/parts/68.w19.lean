/-! PURE PART, 19: speaking counted by the model; calls speaks, sounds, atTreadle, best, why -/
section VO3
variable {Pk : zMem}
variable {σ M : zMem} {k b s t n x w tr : Int} {F F' : Int → Int}
/-- model: laws' scratch alone has changed -/
theorem Cm.f233 {N : zMem} (hM : Cm σ M) (f : zFr 233 243 M N) : Cm σ N := hM.fr (f 250 (by omega)) (f 251 (by omega))
theorem g_f233 {N : zMem} (hg : M 249 = σ 249) (f : zFr 233 243 M N) : N 249 = σ 249 := by rw [f 249 (by omega)]; exact hg
/-- what the model's own reckoning needs -/
def zMo (σ M : zMem) : Prop := zAg σ M ∧ Cm σ M
theorem zMo.f {N : zMem} (g : zMo σ M) (f : zFr 233 243 M N) : zMo σ N := ⟨g.1.f233 (f.mono (by omega) (by omega)), g.2.f233 f⟩
theorem m_why1 (h : St σ) (g : zMo σ M) (h0 : 0 ≤ n) (h1 : n < σ 80 0) (ht : σ 83 n ≤ t ∧ t < σ 83 n + σ 84 n) (htr : 1 ≤ tr ∧ tr ≤ 99) : zSat (fX12_whyIn n t tr M) (fun e => e.1 = zwhy σ (σ 86) n t tr ∧ zFr 233 243 M e.2) := m_whyIn h g.1.x g.2 h0 h1 ht htr (g_nf h g.1 h1)
theorem m_speaksFor (h : St σ) (g : zMo σ M) (h0 : 0 ≤ n) (h1 : n < σ 80 0) (htr : 1 ≤ tr ∧ tr ≤ 99) : zSat (fX12_speaksFor n tr M) (fun e => e.1 = zspn σ tr n ∧ zFr 233 243 M e.2) := by
  have hnn := r_nn h
  have nl := r_nl h h0 h1
  unfold fX12_speaksFor
  rw [zgd_t ⟨h0, by omega⟩, a_nr h g.1.x h0 h1, zS_bd]
  refine zit_i3 (fun a y N => fX12_speaksFor_l10 n tr a y N) (fun m a y N => ∃ i : Nat, y = σ 83 n + i ∧ (i : Int) ≤ σ 84 n ∧ m = (σ 84 n - i).toNat ∧ a = zsum (zsp1 σ tr n) i ∧ zFr 233 243 M N) ?_ _ ⟨0, by simp, by omega, rfl, rfl, zFr.refl _ _ _⟩
  rintro m a y N ⟨i, rfl, i1, hm, rfl, f⟩
  have gN := g.f f
  have hb := zspn_b (σ := σ) (tr := tr) (n := n) i
  show zSat (fX12_speaksFor_l10 n tr (zsum (zsp1 σ tr n) i) (σ 83 n + i) N) _
  unfold fX12_speaksFor_l10 fX12_speaksFor_j37
  rw [m_end h gN.1.x h0 h1, zbd_s]
  by_cases c : σ 83 n + σ 84 n ≤ σ 83 n + i
  · rw [if_pos c]
    have : (σ 84 n).toNat = i := by omega
    refine ⟨?_, f⟩
    show zsum (zsp1 σ tr n) i = zsum (zsp1 σ tr n) (σ 84 n).toNat
    rw [this]
  · rw [if_neg c, zS_bd2]
    refine zs_m (m_why1 h gN h0 h1 (t := σ 83 n + i) ⟨by omega, by omega⟩ htr) ?_
    rintro ⟨r, V⟩ ⟨hr, fV⟩
    dsimp only at hr fV ⊢
    have zr := zsp1_r (σ := σ) (tr := tr) (n := n) (a := i)
    have stp : ∀ z : Int, z = zsp1 σ tr n i → zel (.inl (zw (zsum (zsp1 σ tr n) i + z), zw (σ 83 n + i + 1), V) : (Int × Int × zMem) ⊕ (Int × Int × zMem)) (fun s' => ∃ m', m' < m ∧ ∃ i : Nat, s'.2.1 = σ 83 n + i ∧ (i : Int) ≤ σ 84 n ∧ m' = (σ 84 n - i).toNat ∧ s'.1 = zsum (zsp1 σ tr n) i ∧ zFr 233 243 M s'.2.2) (fun s17 => zSat (some (s17.1, s17.2.2)) fun e => e.1 = zspn σ tr n ∧ zFr 233 243 M e.2) := by
      intro z hz
      refine ⟨(σ 84 n - (i + 1 : Nat)).toNat, by omega, i + 1, by show zw (σ 83 n + i + 1) = _; rw [zw_i (by omega) (by omega)]; omega, by omega, rfl, ?_, f.trans fV⟩
      show zw (zsum (zsp1 σ tr n) i + z) = zsum (zsp1 σ tr n) i + zsp1 σ tr n i
      rw [hz, zw_i (by omega) (by omega)]
    by_cases c1 : r = 0
    · rw [if_pos c1]; exact stp 1 (by unfold zsp1; rw [if_pos (hr.symm.trans c1)])
    · rw [if_neg c1]; exact stp 0 (by unfold zsp1; rw [if_neg (fun q => c1 (hr.trans q))])
set_option maxRecDepth 20000 in
theorem m_allAt (h : St σ) (g : zMo σ M) (htr : 1 ≤ tr ∧ tr ≤ 99) : zSat (fX12_allAt tr M) (fun e => e.1 = zspa σ tr ∧ zFr 233 243 M e.2) := by
  have hnn := r_nn h
  unfold fX12_allAt
  rw [zS_bd]
  refine zit_i3 (fun a y V => fX12_allAt_l4 tr a y V) (fun m a y V => ∃ i : Nat, y = (i : Int) ∧ (i : Int) ≤ σ 80 0 ∧ m = (σ 80 0 - i).toNat ∧ a = zsum (zspn σ tr) i ∧ zFr 233 243 M V) ?_ _ ⟨0, rfl, by omega, rfl, rfl, zFr.refl _ _ _⟩
  rintro m a y V ⟨i, rfl, i1, hm, rfl, f⟩
  have gV := g.f f
  have hb := zspa_b (tr := tr) h i1
  show zSat (fX12_allAt_l4 tr (zsum (zspn σ tr) i) i V) _
  unfold fX12_allAt_l4
  rw [a_nn h gV.1.x]
  by_cases c0 : σ 80 0 ≤ i
  · rw [if_pos c0]
    have : (σ 80 0).toNat = i := by omega
    refine ⟨?_, f⟩
    show zsum (zspn σ tr) i = zspa σ tr
    unfold zspa; rw [this]
  · rw [if_neg c0, zS_bd2]
    have i0 : (0 : Int) ≤ i := Int.natCast_nonneg i
    have i2 : (i : Int) < σ 80 0 := Int.not_le.mp c0
    have st := m_speaksFor h gV i0 i2 htr
    refine zs_m st ?_
    rintro ⟨r, W⟩ ⟨hr, fW⟩
    dsimp only at hr fW ⊢
    have zr := zspn_r (tr := tr) h (n := (i : Int)) (by omega) (by omega)
    refine ⟨(σ 80 0 - (i + 1 : Nat)).toNat, by omega, i + 1, by show zw ((i : Int) + 1) = _; rw [zw_i (by omega) (by omega)]; omega, by omega, rfl, ?_, f.trans fW⟩
    show zw (zsum (zspn σ tr) i + r) = zsum (zspn σ tr) i + zspn σ tr i
    rw [hr, zw_i (by omega) (by omega)]
set_option maxRecDepth 20000 in
theorem m_soundsIn (h : St σ) (g : zMo σ M) : zSat (fX12_soundsIn t M) (fun e => e.1 = zbits (zspk σ t) (σ 80 0).toNat ∧ zFr 233 243 M e.2) := by
  have hnn := r_nn h
  have hti := r_ti h
  unfold fX12_soundsIn
  rw [zS_bd]
  refine zit_i3 (fun a y N => fX12_soundsIn_l4 t a y N) (fun m a y N => ∃ i : Nat, y = (i : Int) ∧ (i : Int) ≤ σ 80 0 ∧ m = (σ 80 0 - i).toNat ∧ a = zbits (zspk σ t) i ∧ zFr 233 243 M N) ?_ _ ⟨0, rfl, by omega, rfl, rfl, zFr.refl _ _ _⟩
  rintro m a y N ⟨i, rfl, i1, hm, rfl, f⟩
  have gN := g.f f
  show zSat (fX12_soundsIn_l4 t (zbits (zspk σ t) i) i N) _
  unfold fX12_soundsIn_l4 fX12_soundsIn_j43 fX12_soundsIn_j44
  rw [a_nn h gN.1.x]
  by_cases c : σ 80 0 ≤ i
  · rw [if_pos c]
    have : (σ 80 0).toNat = i := by omega
    refine ⟨?_, f⟩
    show zbits (zspk σ t) i = _
    rw [this]
  · rw [if_neg c, m_lasts h gN.1.x (n := i) (by omega) (by omega), zbd_s, zw_i (by omega) (by omega), zor_0 (zbits_32 _ _), a_st h gN.1.x (k := 0) (by decide) (by decide), zgd_t (by decide)]
    have zs : zbits (zspk σ t) (i + 1) = if zspk σ t i = true then zor (zbits (zspk σ t) i) (zshl 1 i) else zbits (zspk σ t) i := rfl
    by_cases c1 : σ 83 i ≤ t ∧ t < σ 83 i + σ 84 i
    · rw [if_pos c1, if_neg (show ¬ (1 : Int) = 0 by decide), zS_bd2]
      have i0 : (0 : Int) ≤ i := Int.natCast_nonneg i
      have i2 : (i : Int) < σ 80 0 := Int.not_le.mp c
      have st := m_why1 h gN i0 i2 c1 hti.1
      refine zs_m st ?_
      rintro ⟨r, V⟩ ⟨hr, fV⟩
      dsimp only at hr fV ⊢
      by_cases c2 : r = 0
      · rw [if_pos c2]
        have : zspk σ t i = true := by unfold zspk; simp [c1.1, c1.2, hr.symm.trans c2]
        exact ⟨(σ 80 0 - (i + 1 : Nat)).toNat, by omega, i + 1, by show (i : Int) + 1 = _; omega, by omega, rfl, by rw [zs, if_pos this], f.trans fV⟩
      · rw [if_neg c2]
        have : zspk σ t i = false := by
          unfold zspk
          have : ¬ zwhy σ (σ 86) i t (σ 59 0) = 0 := fun q => c2 (hr.trans q)
          simp [this]
        exact ⟨(σ 80 0 - (i + 1 : Nat)).toNat, by omega, i + 1, by show (i : Int) + 1 = _; omega, by omega, rfl, by rw [zs, this]; rfl, f.trans fV⟩
    · rw [if_neg c1, if_pos rfl]
      have : zspk σ t i = false := by
        unfold zspk
        by_cases d : σ 83 i ≤ t
        · have : ¬ t < σ 83 i + σ 84 i := fun q => c1 ⟨d, q⟩
          simp [this]
        · simp [d]
      exact ⟨(σ 80 0 - (i + 1 : Nat)).toNat, by omega, i + 1, by show (i : Int) + 1 = _; omega, by omega, rfl, by rw [zs, this]; rfl, f⟩
/-- the model has warmed all: what follows needs no more -/
theorem m_mo (h : St σ) (hA : zAg σ M) : zSat (fX12_warms M) (fun N => zMo σ N ∧ zFr 250 252 M N) :=
  zs_m (m_warms h hA.x) fun N g => ⟨⟨hA.f250 g.1, g.2⟩, g.1⟩
theorem zIm {N V : zMem} (hPk : zPk Pk σ) (hC : Cs σ M) (h : St σ) (g : zMo σ N) (f1 : zFr 250 252 (zup M 200 0 x) N) (f2 : zFr 233 243 N V) : Inv Pk V :=
  Inv.m hPk hC h ((g.f f2).1) ((((zFm.refl M).up (by omega) (by omega)).trans (f1.m (by omega) (by omega))).trans (f2.m (by omega) (by omega)))
theorem c_speaks (hI : Inv Pk M) : zAlike Pk (fX11_speaks n M) (fX12_speaks n) := by
  obtain ⟨σ, hA, h, hC, hPk⟩ := hI
  have hti := r_ti h
  unfold zAlike fX11_speaks
  rw [e_has hA.x, zbd_s]
  by_cases c : 0 ≤ n ∧ n < σ 80 0
  · rw [if_pos c, if_neg (show ¬ (1 : Int) = 0 by decide), zS_bd2]
    refine zs_m (e_spokenBy h hA.x hC.1 hC.2.1 c.1 c.2) ?_
    rintro ⟨r, N⟩ ⟨hr, g⟩
    have hN := g.ag hA
    have hCN := g.cs hC
    show zSat (fX12_speaks n N) (fun e' => e'.1 = r ∧ Inv Pk e'.2)
    unfold fX12_speaks
    rw [m_isNote h (zA0 hN).x, zbd_s, if_pos c, if_neg (show ¬ (1 : Int) = 0 by decide), zS_bd]
    refine zs_m (m_mo h (zA0 hN)) ?_
    rintro V ⟨gV, fV⟩
    rw [a_st h gV.1.x (k := 0) (by decide) (by decide), zgd_t (by decide), zS_bd2]
    refine zs_m (m_speaksFor h gV c.1 c.2 hti.1) ?_
    rintro ⟨r', W⟩ ⟨hr', fW⟩
    exact ⟨hr'.trans hr.symm, zIm hPk hCN h gV fV fW⟩
  · rw [if_neg c, if_pos rfl]
    show zSat (fX12_speaks n M) _
    unfold fX12_speaks
    rw [m_isNote h (zA0 hA).x, zbd_s, if_neg c, if_pos rfl]
    exact ⟨rfl, Inv.z hPk hA h hC⟩
theorem c_atTreadle (hI : Inv Pk M) : zAlike Pk (fX11_atTreadle tr M) (fX12_atTreadle tr) := by
  obtain ⟨σ, hA, h, hC, hPk⟩ := hI
  unfold zAlike fX11_atTreadle
  by_cases c : 1 ≤ tr ∧ tr ≤ 99
  · rw [if_neg (by omega), if_neg (by omega), zS_bd2]
    refine zs_m (e_spokenAt h hA.x hC.1 hC.2.1 c) ?_
    rintro ⟨r, N⟩ ⟨hr, g⟩
    have hN := g.ag hA
    have hCN := g.cs hC
    show zSat (fX12_atTreadle tr N) (fun e' => e'.1 = r ∧ Inv Pk e'.2)
    unfold fX12_atTreadle
    rw [m_isFrom, zbd_s, if_pos c, if_neg (show ¬ (1 : Int) = 0 by decide), zS_bd]
    refine zs_m (m_mo h (zA0 hN)) ?_
    rintro V ⟨gV, fV⟩
    rw [zS_bd2]
    refine zs_m (m_allAt h gV c) ?_
    rintro ⟨r', W⟩ ⟨hr', fW⟩
    exact ⟨hr'.trans hr.symm, zIm hPk hCN h gV fV fW⟩
  · have fin : zSat (fX12_atTreadle tr M) (fun e' => e'.1 = -1 ∧ Inv Pk e'.2) := by
      unfold fX12_atTreadle
      rw [m_isFrom, zbd_s, if_neg c, if_pos rfl]
      exact ⟨rfl, Inv.z hPk hA h hC⟩
    by_cases c1 : tr < 1
    · rw [if_pos c1]; exact fin
    · rw [if_neg c1, if_pos (by omega)]; exact fin
theorem c_sounds (hI : Inv Pk M) : zAlike Pk (fX11_sounds t M) (fX12_sounds t) := by
  obtain ⟨σ, hA, h, hC, hPk⟩ := hI
  unfold zAlike fX11_sounds
  rw [e_isBeat, zbd_s]
  by_cases c : 0 ≤ t ∧ t < 200
  · rw [if_pos c, if_neg (show ¬ (1 : Int) = 0 by decide), zS_bd2]
    refine zs_m (e_speakingIn h hA.x hC.1 hC.2.1) ?_
    rintro ⟨r, N⟩ ⟨hr, f, w1, v1, -⟩
    dsimp only at hr f w1 v1
    have hN : zAg σ N := hA.fr (f.mono (by omega) (by omega))
    have hCN : Cs σ N := by
      obtain ⟨-, -, h3, h4, h5⟩ := hC
      have e : zstp N = zstp M := funext fun b => by unfold zstp; rw [f 150 (by omega), f 153 (by omega)]
      refine ⟨w1, v1, ?_, ?_, ?_⟩
      · unfold Cf at h3 ⊢; rw [f 130 (by omega), f 135 (by omega)]; exact h3
      · unfold Cg at h4 ⊢; rw [f 150 (by omega), f 153 (by omega), e]; exact h4
      · unfold Co at h5 ⊢; rw [f 170 (by omega), f 176 (by omega), f 177 (by omega)]; exact h5
    show zSat (fX12_sounds t N) (fun e' => e'.1 = r ∧ Inv Pk e'.2)
    unfold fX12_sounds
    rw [m_isBeat, zbd_s, if_pos c, if_neg (show ¬ (1 : Int) = 0 by decide), zS_bd]
    refine zs_m (m_mo h (zA0 hN)) ?_
    rintro V ⟨gV, fV⟩
    rw [zS_bd2]
    refine zs_m (m_soundsIn h gV) ?_
    rintro ⟨r', W⟩ ⟨hr', fW⟩
    exact ⟨hr'.trans hr.symm, zIm hPk hCN h gV fV fW⟩
  · rw [if_neg c, if_pos rfl]
    show zSat (fX12_sounds t M) _
    unfold fX12_sounds
    rw [m_isBeat, zbd_s, if_neg c, if_pos rfl]
    exact ⟨rfl, Inv.z hPk hA h hC⟩
/-- where the class throws, and where it doesn't -/
theorem c_why (hI : Inv Pk M) : ∃ σ : zMem, zAg σ M ∧ St σ ∧ Cs σ M ∧ ((0 ≤ n ∧ n < σ 80 0 ∧ σ 83 n ≤ t ∧ t < σ 83 n + σ 84 n → zSat (fX9_reasonOf n t M) (fun e => zSat (fX12_why n t e.2) (fun e' => e'.1 = e.1 ∧ e'.2 200 0 = 0 ∧ Inv Pk e'.2))) ∧ (¬ (0 ≤ n ∧ n < σ 80 0 ∧ σ 83 n ≤ t ∧ t < σ 83 n + σ 84 n) → zSat (fX12_why n t M) (fun e' => e'.2 200 0 = 1 ∧ Inv Pk e'.2))) := by
  obtain ⟨σ, hA, h, hC, hPk⟩ := hI
  have hti := r_ti h
  refine ⟨σ, hA, h, hC, fun c => ?_, fun c => ?_⟩
  · have nl := r_nl h c.1 c.2.1
    refine zs_m (e_reasonOf h hA.x hC.1 hC.2.1 c.1 c.2.1 c.2.2) ?_
    rintro ⟨r, N⟩ ⟨hr, g⟩
    have hN := g.ag hA
    have hCN := g.cs hC
    show zSat (fX12_why n t N) (fun e' => e'.1 = r ∧ e'.2 200 0 = 0 ∧ Inv Pk e'.2)
    unfold fX12_why fX12_why_j29 fX12_why_j30
    rw [m_isNote h hN.x, zbd_s, if_pos (show 0 ≤ n ∧ n < σ 80 0 from ⟨c.1, c.2.1⟩), if_neg (show ¬ (1 : Int) = 0 by decide), m_isBeat, zbd_s, if_pos (show 0 ≤ t ∧ t < 200 by omega), if_neg (show ¬ (1 : Int) = 0 by decide), m_lasts h hN.x c.1 c.2.1, zbd_s, if_pos c.2.2, if_neg (show ¬ (1 : Int) = 0 by decide), zup_eq, if_neg (show ¬ (0 : Int) = 1 by decide), zS_bd]
    refine zs_m (m_mo h (zA0 hN)) ?_
    rintro V ⟨gV, fV⟩
    rw [a_st h gV.1.x (k := 0) (by decide) (by decide), zgd_t (by decide), zS_bd2]
    refine zs_m (m_why1 h gV c.1 c.2.1 c.2.2 hti.1) ?_
    rintro ⟨r', W⟩ ⟨hr', fW⟩
    dsimp only at hr' fW
    exact ⟨hr'.trans hr.symm, by show W 200 0 = 0; rw [fW 200 (by omega), fV 200 (by omega), zup_eq], zIm hPk hCN h gV fV fW⟩
  · have fin : zSat (some ((0 : Int), zup M 200 0 1)) (fun e' => e'.2 200 0 = 1 ∧ Inv Pk e'.2) := by
      show zup M 200 0 1 200 0 = 1 ∧ Inv Pk (zup M 200 0 1)
      exact ⟨zup_eq, Inv.m hPk hC h (hA.up rfl) ((zFm.refl M).up (by omega) (by omega))⟩
    unfold fX12_why fX12_why_j29 fX12_why_j30
    rw [m_isNote h hA.x, zbd_s, m_isBeat, zbd_s, zup_eq, if_pos rfl]
    by_cases d1 : 0 ≤ n ∧ n < σ 80 0
    · rw [if_pos d1, if_neg (show ¬ (1 : Int) = 0 by decide), m_lasts h hA.x d1.1 d1.2, zbd_s]
      have nl := r_nl h d1.1 d1.2
      by_cases d2 : 0 ≤ t ∧ t < 200
      · rw [if_pos d2, if_neg (show ¬ (1 : Int) = 0 by decide), if_neg (show ¬ (σ 83 n ≤ t ∧ t < σ 83 n + σ 84 n) from fun q => c ⟨d1.1, d1.2, q⟩), if_pos rfl]; exact fin
      · rw [if_neg d2, if_pos rfl]; exact fin
    · rw [if_neg d1, if_pos rfl]; exact fin
/-- the best treadle among the first -/
def zbst (σ : zMem) : Nat → Int
  | 0 => 1
  | i + 1 => if zspa σ (zbst σ i) < zspa σ ((i : Int) + 2) then (i : Int) + 2 else zbst σ i
theorem zbst_r : ∀ i : Nat, 1 ≤ zbst σ i ∧ zbst σ i ≤ (i : Int) + 1
  | 0 => by simp [zbst]
  | i + 1 => by have := zbst_r i; unfold zbst; split <;> omega
theorem zspa_r (h : St σ) : 0 ≤ zspa σ tr ∧ zspa σ tr ≤ 960 := by
  have hnn := r_nn h
  have := zspa_b (tr := tr) h (i := (σ 80 0).toNat) (by omega)
  unfold zspa; omega
theorem c_best (hI : Inv Pk M) : zAlike Pk (fX11_best x M) (fX12_best x) := by
  obtain ⟨σ, hA, h, hC, hPk⟩ := hI
  unfold zAlike fX11_best
  by_cases c : 0 ≤ x ∧ x ≤ 1
  · have key : zSat (fX11_best_j11 x M) (fun e => e.1 = (if x = 0 then zbst σ 98 else zspa σ (zbst σ 98)) ∧ zFr 90 130 M e.2 ∧ Cw σ e.2 ∧ Cv σ e.2) := by
      unfold fX11_best_j11
      rw [zS_bd]
      refine zit_i3 (fun a y N => fX11_best_l15 x a y N) (fun m a y N => ∃ i : Nat, y = (i : Int) + 2 ∧ i ≤ 98 ∧ m = 98 - i ∧ a = zbst σ i ∧ zFr 90 130 M N ∧ Cw σ N ∧ Cv σ N) ?_ 98 ⟨0, rfl, by omega, rfl, rfl, zFr.refl _ _ _, hC.1, hC.2.1⟩
      rintro m a y N ⟨i, rfl, i1, hm, rfl, f, w1, v1⟩
      have hN : zAx σ N := hA.x.fr (f.mono (by omega) (by omega))
      have zr := zbst_r (σ := σ) i
      show zSat (fX11_best_l15 x (zbst σ i) ((i : Int) + 2) N) _
      unfold fX11_best_l15
      by_cases c0 : (99 : Int) < (i : Int) + 2
      · rw [if_pos c0]
        have : i = 98 := by omega
        subst this
        by_cases c1 : x = 0
        · show zSat (if x = 0 then _ else _) _
          rw [if_pos c1]
          exact ⟨by rw [if_pos c1], f, w1, v1⟩
        · show zSat (if x = 0 then _ else _) _
          rw [if_neg c1, zS_bd2]
          refine zs_m (e_spokenAt h hN w1 v1 (tr := zbst σ 98) (by omega)) ?_
          rintro ⟨r, V⟩ ⟨hr, g⟩
          dsimp only at hr g
          exact ⟨by rw [if_neg c1]; exact hr, f.trans g.1, g.2.1, g.2.2.1⟩
      · rw [if_neg c0, zS_bd2]
        refine zs_m (e_spokenAt h hN w1 v1 (tr := (i : Int) + 2) (by omega)) ?_
        rintro ⟨r1, V⟩ ⟨hr1, g1⟩
        dsimp only at hr1 g1 ⊢
        rw [zS_bd2]
        refine zs_m (e_spokenAt h (g1.ax hN) g1.2.1 g1.2.2.1 (tr := zbst σ i) (by omega)) ?_
        rintro ⟨r2, W⟩ ⟨hr2, g2⟩
        dsimp only at hr2 g2 ⊢
        have zs : zbst σ (i + 1) = if zspa σ (zbst σ i) < zspa σ ((i : Int) + 2) then (i : Int) + 2 else zbst σ i := rfl
        rw [zw_i (by omega) (by omega)]
        by_cases c1 : r1 ≤ r2
        · rw [if_pos c1]
          exact ⟨98 - (i + 1), by omega, i + 1, by show (i : Int) + 2 + 1 = _; omega, by omega, rfl, by rw [zs, if_neg (by omega)], (f.trans g1.1).trans g2.1, g2.2.1, g2.2.2.1⟩
        · rw [if_neg c1]
          exact ⟨98 - (i + 1), by omega, i + 1, by show (i : Int) + 2 + 1 = _; omega, by omega, rfl, by rw [zs, if_pos (by omega)], (f.trans g1.1).trans g2.1, g2.2.1, g2.2.2.1⟩
    have fin : zSat (fX11_best_j11 x M) (fun e => zSat (fX12_best x e.2) (fun e' => e'.1 = e.1 ∧ Inv Pk e'.2)) := by
      refine zs_m key ?_
      rintro ⟨r, N⟩ ⟨hr, f, w1, v1⟩
      dsimp only at hr f w1 v1
      have hN : zAg σ N := hA.fr (f.mono (by omega) (by omega))
      have hCN : Cs σ N := by
        obtain ⟨-, -, h3, h4, h5⟩ := hC
        have e : zstp N = zstp M := funext fun b => by unfold zstp; rw [f 150 (by omega), f 153 (by omega)]
        refine ⟨w1, v1, ?_, ?_, ?_⟩
        · unfold Cf at h3 ⊢; rw [f 130 (by omega), f 135 (by omega)]; exact h3
        · unfold Cg at h4 ⊢; rw [f 150 (by omega), f 153 (by omega), e]; exact h4
        · unfold Co at h5 ⊢; rw [f 170 (by omega), f 176 (by omega), f 177 (by omega)]; exact h5
      show zSat (fX12_best x N) (fun e' => e'.1 = r ∧ Inv Pk e'.2)
      unfold fX12_best
      rw [m_isFrom, zbd_s, if_pos c, if_neg (show ¬ (1 : Int) = 0 by decide), zS_bd]
      refine zs_m (m_mo h (zA0 hN)) ?_
      rintro V ⟨gV, fV⟩
      rw [zS_bd]
      refine zit_i4 (fun a q y U => fX12_best_l27 x a q y U) (fun m a q y U => zFr 233 243 V U ∧ ((y = 1 ∧ a = 0 ∧ q = -1 ∧ m = 99) ∨ ∃ i : Nat, y = (i : Int) + 2 ∧ i ≤ 98 ∧ m = 98 - i ∧ a = zbst σ i ∧ q = zspa σ (zbst σ i))) ?_ 99 ⟨zFr.refl _ _ _, Or.inl ⟨rfl, rfl, rfl, rfl⟩⟩
      rintro m a q y U ⟨fU, hcase⟩
      have gU := gV.f fU
      show zSat (fX12_best_l27 x a q y U) _
      unfold fX12_best_l27
      rcases hcase with ⟨rfl, rfl, rfl, rfl⟩ | ⟨i, rfl, i1, hm, rfl, rfl⟩
      · rw [if_neg (by decide), zS_bd2]
        refine zs_m (m_allAt h gU (tr := 1) (by omega)) ?_
        rintro ⟨r1, W⟩ ⟨hr1, fW⟩
        dsimp only at hr1 fW ⊢
        have := zspa_r (tr := 1) h
        rw [if_pos (by omega), zw_i (by omega) (by omega)]
        exact ⟨98, by omega, fU.trans fW, Or.inr ⟨0, rfl, by omega, rfl, rfl, hr1⟩⟩
      · have zr := zbst_r (σ := σ) i
        by_cases c0 : (100 : Int) ≤ (i : Int) + 2
        · rw [if_pos c0]
          have : i = 98 := by omega
          subst this
          by_cases c1 : x = 0
          · show zSat (if x = 0 then _ else _) _
            rw [if_pos c1]
            rw [if_pos c1] at hr
            exact ⟨hr.symm, zIm hPk hCN h gV fV fU⟩
          · show zSat (if x = 0 then _ else _) _
            rw [if_neg c1]
            rw [if_neg c1] at hr
            exact ⟨hr.symm, zIm hPk hCN h gV fV fU⟩
        · rw [if_neg c0, zS_bd2]
          refine zs_m (m_allAt h gU (tr := (i : Int) + 2) (by omega)) ?_
          rintro ⟨r1, W⟩ ⟨hr1, fW⟩
          dsimp only at hr1 fW ⊢
          have zs : zbst σ (i + 1) = if zspa σ (zbst σ i) < zspa σ ((i : Int) + 2) then (i : Int) + 2 else zbst σ i := rfl
          rw [zw_i (by omega) (by omega)]
          by_cases c1 : zspa σ (zbst σ i) < r1
          · rw [if_pos c1]
            exact ⟨98 - (i + 1), by omega, fU.trans fW, Or.inr ⟨i + 1, by show (i : Int) + 2 + 1 = _; omega, by omega, rfl, by rw [zs, if_pos (by omega)], by rw [zs, if_pos (by omega)]; exact hr1⟩⟩
          · rw [if_neg c1]
            exact ⟨98 - (i + 1), by omega, fU.trans fW, Or.inr ⟨i + 1, by show (i : Int) + 2 + 1 = _; omega, by omega, rfl, by rw [zs, if_neg (by omega)], by rw [zs, if_neg (by omega)]⟩⟩
    by_cases c0 : x = 0
    · rw [if_pos c0]; exact fin
    · rw [if_neg c0, if_pos (by omega)]; exact fin
  · rw [if_neg (by omega), if_neg (by omega)]
    show zSat (fX12_best x M) _
    unfold fX12_best
    rw [m_isFrom, zbd_s, if_neg c, if_pos rfl]
    exact ⟨rfl, Inv.z hPk hA h hC⟩
end VO3
