/-! PURE PART, 12: warmth asked; drop, finger, note, exchange -/
section CA2
variable {Pk : zMem}
variable {σ M : zMem} {k b t n x w : Int}
/-- the class has learnt warming: nothing else has changed -/
theorem Cs.wrm {N : zMem} (hC : Cs σ M) (hf : zFr 90 96 M N) (hw : Cw σ N) (hk : N 90 5 ≠ 0) : Cs σ N := by
  obtain ⟨h1, h2, h3, h4, h5⟩ := hC
  have e : zstp N = zstp M := funext fun b => by unfold zstp; rw [hf 150 (by omega), hf 153 (by omega)]
  refine ⟨hw, ?_, ?_, ?_, ?_⟩
  · unfold Cv at h2 ⊢; rw [hf 110 (by omega), hf 116 (by omega), hf 117 (by omega)]; exact fun q => ⟨hk, (h2 q).2⟩
  · unfold Cf at h3 ⊢; rw [hf 130 (by omega), hf 135 (by omega)]; exact h3
  · unfold Cg at h4 ⊢; rw [hf 150 (by omega), hf 153 (by omega), e]; exact h4
  · unfold Co at h5 ⊢; rw [hf 170 (by omega), hf 176 (by omega), hf 177 (by omega)]; exact h5
theorem q_touched (h : St σ) (hA : zAg σ M) : ∃ r, fX11_touched b t M = some r ∧ z32 r ∧ fX12_touched b t M = some (r, zup M 200 0 0) := by
  have hb := r_bw h
  have hA0 := zA0 hA
  have tr := ztou_r (b := b) (t := t) h
  unfold fX11_touched fX12_touched
  rw [e_hasBowl hA.x, m_isBowl h hA0.x, zbd_s, zbd_s]
  by_cases c0 : 0 ≤ b ∧ b < σ 40 0
  · rw [if_pos c0, if_neg (show ¬ (1 : Int) = 0 by decide), if_neg (show ¬ (1 : Int) = 0 by decide), e_isBeat, m_isBeat, zbd_s, zbd_s]
    by_cases c1 : 0 ≤ t ∧ t < 200
    · rw [if_pos c1, if_neg (show ¬ (1 : Int) = 0 by decide), if_neg (show ¬ (1 : Int) = 0 by decide), e_pressOn h hA.x, m_touchedIn h hA0.x, zbd_s, zbd_s]
      exact ⟨_, rfl, ⟨by omega, by omega⟩, rfl⟩
    · rw [if_neg c1, if_pos rfl, if_pos rfl]
      exact ⟨_, rfl, ⟨by decide, by decide⟩, rfl⟩
  · rw [if_neg c0, if_pos rfl, if_pos rfl]
    exact ⟨_, rfl, ⟨by decide, by decide⟩, rfl⟩
theorem c_touched (hI : Inv Pk M) : zAlike Pk (zbd (fX11_touched b t M) fun r => some (r, M)) (fX12_touched b t) := by
  obtain ⟨σ, hA, h, hC, hPk⟩ := hI
  exact zAlike.q (Inv.z hPk hA h hC) (q_touched h hA)
theorem c_warmth (hI : Inv Pk M) : zAlike Pk (fX11_warmth b t M) (fX12_warmth b t) := by
  obtain ⟨σ, hA, h, hC, hPk⟩ := hI
  have hb := r_bw h
  unfold zAlike fX11_warmth
  rw [zS_bd]
  refine zs_m (e_wlearn h hA.x hC.1) ?_
  rintro N ⟨hf, hw, hk⟩
  have hN : zAg σ N := hA.fr (hf.mono (by omega) (by omega))
  have hCN := hC.wrm hf hw hk
  have hN0 := zA0 hN
  rw [e_hasBowl hN.x, e_isBeat, zbd_s, zbd_s]
  by_cases c0 : 0 ≤ b ∧ b < σ 40 0
  · by_cases c1 : 0 ≤ t ∧ t < 200
    · have e : fX10_heatOf b t N = some (zwm σ b t.toNat) := by
        unfold fX10_heatOf; rw [zgd_t ⟨by omega, by omega⟩, (hw hk b c0.1 c0.2).2 t c1.1 c1.2]
      simp only [if_pos c0, if_pos c1, if_neg (show ¬ (1 : Int) = 0 by decide), e, zbd_s]
      show zSat (fX12_warmth b t N) _
      unfold fX12_warmth
      rw [m_isBowl h hN0.x, m_isBeat, zbd_s, zbd_s]
      simp only [if_pos c0, if_pos c1, if_neg (show ¬ (1 : Int) = 0 by decide)]
      rw [zS_bd]
      refine zs_m (m_warms h hN0.x) ?_
      rintro V ⟨vF, vC⟩
      rw [zgd_t ⟨by omega, by omega⟩]
      exact ⟨((vC b c0.1 c0.2).2 t c1.1 c1.2), Inv.m hPk hCN h (hN0.f250 vF) (((zFm.refl N).up (by omega) (by omega)).trans (vF.m (by omega) (by omega)))⟩
    · simp only [if_pos c0, if_neg c1, if_neg (show ¬ (1 : Int) = 0 by decide), if_pos rfl]
      show zSat (fX12_warmth b t N) _
      unfold fX12_warmth
      rw [m_isBowl h hN0.x, m_isBeat, zbd_s, zbd_s]
      simp only [if_pos c0, if_neg c1, if_neg (show ¬ (1 : Int) = 0 by decide), if_pos rfl]
      exact ⟨rfl, Inv.z hPk hN h hCN⟩
  · simp only [if_neg c0, if_pos rfl]
    show zSat (fX12_warmth b t N) _
    unfold fX12_warmth
    rw [m_isBowl h hN0.x, zbd_s]
    simp only [if_neg c0, if_pos rfl]
    exact ⟨rfl, Inv.z hPk hN h hCN⟩
theorem c_cracked (hI : Inv Pk M) : zAlike Pk (fX11_cracked b M) (fX12_cracked b) := by
  obtain ⟨σ, hA, h, hC, hPk⟩ := hI
  have hb := r_bw h
  unfold zAlike fX11_cracked
  rw [zS_bd]
  refine zs_m (e_wlearn h hA.x hC.1) ?_
  rintro N ⟨hf, hw, hk⟩
  have hN : zAg σ N := hA.fr (hf.mono (by omega) (by omega))
  have hCN := hC.wrm hf hw hk
  have hN0 := zA0 hN
  rw [e_hasBowl hN.x, zbd_s]
  by_cases c0 : 0 ≤ b ∧ b < σ 40 0
  · have e : fX10_crackOf b N = some (zcrk σ b) := by
      unfold fX10_crackOf; rw [zgd_t ⟨by omega, by omega⟩, (hw hk b c0.1 c0.2).1]
    simp only [if_pos c0, if_neg (show ¬ (1 : Int) = 0 by decide), e, zbd_s]
    show zSat (fX12_cracked b N) _
    unfold fX12_cracked
    rw [m_isBowl h hN0.x, zbd_s]
    simp only [if_pos c0, if_neg (show ¬ (1 : Int) = 0 by decide)]
    rw [zS_bd]
    refine zs_m (m_warms h hN0.x) ?_
    rintro V ⟨vF, vC⟩
    have hr := zck_r (σ := σ) b 200
    have hv := (vC b c0.1 c0.2).1
    unfold zcrm zcrk at hv
    have hI := Inv.m hPk hCN h (hN0.f250 vF) (((zFm.refl N).up (by omega) (by omega)).trans (vF.m (by omega) (by omega)))
    rw [zgd_t ⟨by omega, by omega⟩]
    unfold zcrk
    generalize zck σ b 200 = z at hv hr ⊢
    by_cases c1 : z = -1
    · rw [if_pos c1] at hv
      rw [hv, if_pos rfl, c1]; exact ⟨rfl, hI⟩
    · rw [if_neg c1] at hv
      rw [hv, if_neg (by omega), zgd_t ⟨by omega, by omega⟩]
      exact ⟨rfl, hI⟩
  · simp only [if_neg c0, if_pos rfl]
    show zSat (fX12_cracked b N) _
    unfold fX12_cracked
    rw [m_isBowl h hN0.x, zbd_s]
    simp only [if_neg c0, if_pos rfl]
    exact ⟨rfl, Inv.z hPk hN h hCN⟩
/-- what playing has kept is forgotten -/
def zfgt (M : zMem) : zMem := zup (zup (zup (zup M 90 5 0) 110 7 0) 130 10 0) 170 7 0
theorem zfgt_0 : zfgt M 90 5 = 0 ∧ zfgt M 110 7 = 0 ∧ zfgt M 130 10 = 0 ∧ zfgt M 170 7 = 0 := by
  unfold zfgt; simp [zup]
theorem zfgt_n {c : Nat} (h : c ≠ 90 ∧ c ≠ 110 ∧ c ≠ 130 ∧ c ≠ 170) : zfgt M c = M c := by
  funext q; unfold zfgt; rw [zup_ne h.2.2.2, zup_ne h.2.2.1, zup_ne h.2.1, zup_ne h.1]
theorem zAg.fgt (hA : zAg σ M) : zAg σ (zfgt M) := (((hA.up rfl).up rfl).up rfl).up rfl
theorem Cs.fgt {σ' N : zMem} (hC : Cs σ M) (h90 : N 90 5 = 0 ∧ N 110 7 = 0 ∧ N 130 10 = 0 ∧ N 170 7 = 0) (hN : ∀ c : Nat, 150 ≤ c → c < 170 → N c = M c) (H : σ' 40 0 = σ 40 0 ∧ σ' 40 7 = σ 40 7) (Hc : ∀ c : Nat, c = 43 ∨ c = 44 ∨ (49 ≤ c ∧ c < 54) ∨ c = 59 → σ' c = σ c) : Cs σ' N :=
  ⟨fun q => absurd h90.1 q, fun q => absurd h90.2.1 q, fun q => absurd h90.2.2.1 q, hC.2.2.2.1.c hN H Hc, fun q => absurd h90.2.2.2 q⟩
theorem zrow_lt {j : Int} {c : Nat} (h : zrow j c k) : 211 ≤ c ∧ c < 230 := by
  rcases h with h | h | h | h | h | h <;> omega
theorem c_drop (hI : Inv Pk M) : zAlike Pk (fX11_drop M) (fX12_drop) := by
  obtain ⟨σ, hA, h, hC, hPk⟩ := hI
  have hn := r_nn h
  unfold zAlike fX11_drop
  rw [hA.fl 80 rfl]
  by_cases c0 : σ 80 0 = 0
  · rw [if_pos c0]
    show zSat (fX12_drop M) _
    unfold fX12_drop
    rw [a_nn h (zA0 hA).x, if_pos c0]
    exact ⟨rfl, Inv.z hPk hA h hC⟩
  · rw [if_neg c0, zw_i (by omega) (by omega)]
    show zSat (fX12_drop (zfgt (zup M 80 0 (σ 80 0 - 1)))) _
    unfold fX12_drop
    have e : zup (zfgt (zup M 80 0 (σ 80 0 - 1))) 200 0 0 200 43 = σ 80 0 := by
      rw [zup_nk (by decide), zfgt_n (by decide), zup_ne (by decide)]; exact a_nn h hA.x
    rw [e, if_neg c0, zw_i (by omega) (by omega)]
    refine ⟨rfl, zup (zup σ 80 0 (σ 80 0 - 1)) 200 43 (σ 80 0 - 1), ?_, ?_, ?_⟩
    · exact (zAg.up (zAg.fgt (hA.upd 80 0 (σ 80 0 - 1))) rfl).upd 200 43 (σ 80 0 - 1)
    · have ec : ∀ c : Nat, c ≠ 80 → c ≠ 200 → zup (zup σ 80 0 (σ 80 0 - 1)) 200 43 (σ 80 0 - 1) c = σ c := fun c c1 c2 => by funext q; rw [zup_ne c2, zup_ne c1]
      have e80 : zup (zup σ 80 0 (σ 80 0 - 1)) 200 43 (σ 80 0 - 1) 80 0 = σ 80 0 - 1 := by rw [zup_ne (by decide), zup_eq]
      refine ⟨zSu_fr h.1 (fun c _ _ => ec c (by omega) (by omega)) (fun c k hk => by rw [ec c (by have := zrow_lt hk; omega) (by have := zrow_lt hk; omega)]), ?_, zMk_fr h.2.2.1 ⟨ec 6 (by decide) (by decide), ec 7 (by decide) (by decide), ec 262 (by decide) (by decide), ec 263 (by decide) (by decide)⟩ (fun c _ _ => ec c (by omega) (by omega)) (fun j c k _ hk => by rw [ec c (by have := zrow_lt hk; omega) (by have := zrow_lt hk; omega)]) (fun c k _ _ _ => by rw [ec c (by omega) (by omega)]), zTa_fr h.2.2.2.1 ⟨by rw [zup_nk (by decide), zup_ne (by decide)], by rw [ec 20 (by decide) (by decide)], ec 21 (by decide) (by decide), ec 203 (by decide) (by decide)⟩, zSt0_fr h.2.2.2.2 (fun c _ _ => ec c (by omega) (by omega))⟩
      obtain ⟨⟨p1, p2, p3⟩, p4, p5⟩ := h.2.1
      refine ⟨⟨by rw [e80, zup_eq], by rw [e80]; omega, by rw [e80]; omega⟩, ?_, ?_⟩
      · intro k k0 k1
        rw [e80] at k1
        have := p4 k k0 (by omega)
        unfold zNo at this ⊢
        rw [ec 245 (by decide) (by decide), ec 246 (by decide) (by decide), ec 247 (by decide) (by decide), ec 248 (by decide) (by decide), ec 249 (by decide) (by decide), ec (80 + 2) (by decide) (by decide), ec (80 + 3) (by decide) (by decide), ec (80 + 4) (by decide) (by decide), ec (80 + 5) (by decide) (by decide), ec (80 + 6) (by decide) (by decide), ec 40 (by decide) (by decide), ec (40 + 6) (by decide) (by decide), ec (40 + 19) (by decide) (by decide)]
        exact this
      · intro k k0 k1
        rw [e80] at k1
        rw [ec (80 + 3) (by decide) (by decide)]
        exact p5 k k0 (by omega)
    · refine ⟨hC.fgt ?_ ?_ ?_ ?_, fun q => ⟨by rw [zup_ne (by decide), zup_ne (by decide)]; exact (hPk q).1, by rw [zup_ne (by decide), zup_ne (by decide)]; exact (hPk q).2⟩⟩
      · have := zfgt_0 (M := zup M 80 0 (σ 80 0 - 1))
        simp only [zup_ne (show (90 : Nat) ≠ 200 by decide), zup_ne (show (110 : Nat) ≠ 200 by decide), zup_ne (show (130 : Nat) ≠ 200 by decide), zup_ne (show (170 : Nat) ≠ 200 by decide)]
        exact this
      · intro c c0 c1
        funext q
        dsimp only
        rw [zup_ne (by omega), zup_ne (by omega), zfgt_n (by omega), zup_ne (by omega)]
      · exact ⟨by rw [zup_ne (by decide), zup_ne (by decide)], by rw [zup_ne (by decide), zup_ne (by decide)]⟩
      · intro c hc; funext q; rw [zup_ne (by omega), zup_ne (by omega)]
theorem zsum_c {f g : Int → Int} (h : ∀ k, f k = g k) (n : Nat) : zsum f n = zsum g n := zsum_eq fun k _ => h k
/-- all but the voice hang on other cells than the fingers told -/
theorem Cs.fing {σ' N : zMem} (h1 : Cw σ M) (h3 : Cf σ M) (h4 : Cg σ M) (h5 : Co σ M) (ec : ∀ c : Nat, c ≠ 86 → c ≠ 249 → σ' c = σ c) (eM : ∀ c : Nat, 90 ≤ c → c < 200 → c ≠ 110 → N c = M c) (hv : N 110 7 = 0) : Cs σ' N := by
  have t0 : ∀ b t, ztg σ' b t = ztg σ b t := fun b t => by funext k; unfold ztg; rw [ec 82 (by decide) (by decide), ec 83 (by decide) (by decide), ec 84 (by decide) (by decide), ec 85 (by decide) (by decide)]
  have t1 : ∀ b t, ztou σ' b t = ztou σ b t := fun b t => by unfold ztou; rw [t0, ec 80 (by decide) (by decide)]
  have t2 : ∀ b (i : Nat), zwm σ' b i = zwm σ b i := by
    intro b i
    induction i with
    | zero => rfl
    | succ i ih => show zwst σ' b (zwm σ' b i) (ztou σ' b i) = zwst σ b (zwm σ b i) (ztou σ b i); rw [ih, t1]; unfold zwst; rw [ec 59 (by decide) (by decide), ec 46 (by decide) (by decide)]
  have t3 : ∀ b (i : Nat), zck σ' b i = zck σ b i := by
    intro b i
    induction i with
    | zero => rfl
    | succ i ih => rw [zck_m, zck_m, ih, t2, ec 45 (by decide) (by decide), ec 59 (by decide) (by decide)]
  have w1 : ∀ fg f (j : Nat), zwo σ' fg f j = zwo σ fg f j := by
    intro fg f j
    induction j with
    | zero => rfl
    | succ j ih => unfold zwo; rw [ih, ec 83 (by decide) (by decide), ec 84 (by decide) (by decide), ec 59 (by decide) (by decide)]
  have w2 : ∀ fg n, zwro σ' fg n = zwro σ fg n := by
    intro fg n
    have c1 : zcla σ' fg n = zcla σ fg n := by
      funext k; unfold zcla zmee zat; rw [ec 83 (by decide) (by decide), ec 84 (by decide) (by decide), ec 47 (by decide) (by decide), ec 82 (by decide) (by decide), ec 59 (by decide) (by decide)]
    unfold zwro zdry zwor
    rw [c1, w1, ec 83 (by decide) (by decide), ec 84 (by decide) (by decide), ec 59 (by decide) (by decide)]
  have w3 : ∀ fg m, zvalid σ' fg m ↔ zvalid σ fg m := fun fg m => by unfold zvalid; simp only [w2, ec 59 (by decide) (by decide)]
  have w4 : ∀ fg m, zlfs σ' fg m = zlfs σ fg m := fun fg m => by unfold zlfs zsty; rw [ec 82 (by decide) (by decide), ec 83 (by decide) (by decide), ec 84 (by decide) (by decide)]
  have o1 : ∀ s, zcst σ' s = zcst σ s := fun s => by unfold zcst; rw [ec 82 (by decide) (by decide), ec 80 (by decide) (by decide)]
  have o2 : ∀ g s, zOrd σ' g s ↔ zOrd σ g s := fun g s => by unfold zOrd zpd; rw [ec 40 (by decide) (by decide), ec 46 (by decide) (by decide)]
  refine ⟨?_, fun q => absurd hv q, ?_, h4.c (fun c a b => eM c (by omega) (by omega) (by omega)) ⟨by rw [ec 40 (by decide) (by decide)], by rw [ec 40 (by decide) (by decide)]⟩ (fun c hc => ec c (by omega) (by omega)), ?_⟩
  · unfold Cw zcrk at h1 ⊢
    simp only [eM 90 (by omega) (by omega) (by omega), eM 93 (by omega) (by omega) (by omega), eM 94 (by omega) (by omega) (by omega), eM 95 (by omega) (by omega) (by omega), ec 40 (by decide) (by decide), t3, t1, t2]
    exact h1
  · unfold Cf zFP at h3 ⊢
    simp only [eM 130 (by omega) (by omega) (by omega), eM 135 (by omega) (by omega) (by omega), ec 80 (by decide) (by decide), w3, w4]
    exact h3
  · unfold Co zOP at h5 ⊢
    simp only [eM 170 (by omega) (by omega) (by omega), eM 176 (by omega) (by omega) (by omega), eM 177 (by omega) (by omega) (by omega), ec 40 (by decide) (by decide), o1, o2]
    exact h5
theorem c_finger (hI : Inv Pk M) : zAlike Pk (fX11_finger n x M) (fX12_finger n x) := by
  obtain ⟨σ, hA, h, hC, hPk⟩ := hI
  have hn := r_nn h
  unfold zAlike fX11_finger
  rw [e_has hA.x, zbd_s, e_hasFinger h hA.x, zbd_s]
  by_cases c0 : 0 ≤ n ∧ n < σ 80 0
  · by_cases c1 : -1 ≤ x ∧ x < 2 * σ 59 1
    · simp only [if_pos c0, if_pos c1, if_neg (show ¬ (1 : Int) = 0 by decide)]
      rw [zgd_t ⟨c0.1, by omega⟩]
      show zSat (fX12_finger n x (zup (zup M 86 n x) 110 7 0)) _
      have hA' : zAx σ (zup M 110 7 0) := (hA.up rfl).x
      unfold fX12_finger
      have e1 : fX12_isNote n (zup (zup (zup M 86 n x) 110 7 0) 200 0 0) = some (if 0 ≤ n ∧ n < σ 80 0 then 1 else 0) := by
        have : fX12_isNote n (zup (zup (zup M 86 n x) 110 7 0) 200 0 0) = fX12_isNote n M := by
          unfold fX12_isNote; rw [zup_nk (by decide), zup_ne (by decide), zup_ne (by decide)]
        rw [this]; exact m_isNote h hA.x
      have e2 : fX12_isFinger x (zup (zup (zup M 86 n x) 110 7 0) 200 0 0) = some (if -1 ≤ x ∧ x < 2 * σ 59 1 then 1 else 0) := by
        have : fX12_isFinger x (zup (zup (zup M 86 n x) 110 7 0) 200 0 0) = fX12_isFinger x M := by
          unfold fX12_isFinger; rw [zup_ne (by decide), zup_ne (by decide), zup_ne (by decide)]
        rw [this]; exact m_isFinger h hA.x
      rw [e1, zbd_s, e2, zbd_s]
      simp only [if_pos c0, if_pos c1, if_neg (show ¬ (1 : Int) = 0 by decide)]
      rw [zgd_t ⟨c0.1, by omega⟩]
      refine ⟨rfl, zup (zup σ 86 n x) 249 n x, ?_, ?_, ?_⟩
      · exact (((hA.upd 86 n x).up rfl).up rfl).upd 249 n x
      · have ec : ∀ c : Nat, c ≠ 86 → c ≠ 249 → zup (zup σ 86 n x) 249 n x c = σ c := fun c c1 c2 => by funext q; rw [zup_ne c2, zup_ne c1]
        refine ⟨zSu_fr h.1 (fun c _ _ => ec c (by omega) (by omega)) (fun c k hk => by rw [ec c (by have := zrow_lt hk; omega) (by have := zrow_lt hk; omega)]), ?_, zMk_fr h.2.2.1 ⟨ec 6 (by decide) (by decide), ec 7 (by decide) (by decide), ec 262 (by decide) (by decide), ec 263 (by decide) (by decide)⟩ (fun c _ _ => ec c (by omega) (by omega)) (fun j c k _ hk => by rw [ec c (by have := zrow_lt hk; omega) (by have := zrow_lt hk; omega)]) (fun c k _ _ _ => by rw [zup_nk (by omega), zup_ne (by omega)]), zTa_fr h.2.2.2.1 ⟨by rw [ec 200 (by decide) (by decide)], by rw [ec 20 (by decide) (by decide)], ec 21 (by decide) (by decide), ec 203 (by decide) (by decide)⟩, zSt0_fr h.2.2.2.2 (fun c _ _ => ec c (by omega) (by omega))⟩
        obtain ⟨⟨p1, p2, p3⟩, p4, p5⟩ := h.2.1
        refine ⟨⟨by rw [ec 80 (by decide) (by decide), ec 200 (by decide) (by decide)]; exact p1, by rw [ec 80 (by decide) (by decide)]; exact p2, by rw [ec 80 (by decide) (by decide)]; exact p3⟩, ?_, ?_⟩
        · intro k k0 k1
          rw [ec 80 (by decide) (by decide)] at k1
          have := p4 k k0 k1
          unfold zNo at this ⊢
          rw [ec 245 (by decide) (by decide), ec 246 (by decide) (by decide), ec 247 (by decide) (by decide), ec 248 (by decide) (by decide), ec (80 + 2) (by decide) (by decide), ec (80 + 3) (by decide) (by decide), ec (80 + 4) (by decide) (by decide), ec (80 + 5) (by decide) (by decide), ec 40 (by decide) (by decide), ec (40 + 6) (by decide) (by decide), ec (40 + 19) (by decide) (by decide)]
          refine ⟨this.1, this.2.1, this.2.2.1, this.2.2.2.1, ?_⟩
          have t := this.2.2.2.2
          rw [z24] at t ⊢
          by_cases ck : k = n
          · subst ck
            rw [zup_eq, zup_ne (show (80 + 6 : Nat) ≠ 249 by decide), show (80 + 6 : Nat) = 86 from rfl, zup_eq]
            exact ⟨rfl, c1⟩
          · rw [zup_nk ck, zup_ne (show (249 : Nat) ≠ 86 by decide), zup_ne (show (80 + 6 : Nat) ≠ 249 by decide), zup_nk ck]
            exact t
        · intro k k0 k1
          rw [ec 80 (by decide) (by decide)] at k1
          rw [ec (80 + 3) (by decide) (by decide)]
          exact p5 k k0 k1
      · obtain ⟨h1, h2, h3, h4, h5⟩ := hC
        have ec : ∀ c : Nat, c ≠ 86 → c ≠ 249 → zup (zup σ 86 n x) 249 n x c = σ c := fun c c1 c2 => by funext q; rw [zup_ne c2, zup_ne c1]
        have eM : ∀ c : Nat, 90 ≤ c → c < 200 → c ≠ 110 → zup (zup (zup (zup M 86 n x) 110 7 0) 200 0 0) 249 n x c = M c := fun c a1 a2 a3 => by funext q; rw [zup_ne (by omega), zup_ne (by omega), zup_ne (by omega), zup_ne (by omega)]
        exact ⟨Cs.fing h1 h3 h4 h5 ec eM (by dsimp only; rw [zup_ne (by decide), zup_ne (by decide), zup_eq]), fun q => ⟨by rw [zup_ne (by decide), zup_ne (by decide)]; exact (hPk q).1, by rw [zup_ne (by decide), zup_ne (by decide)]; exact (hPk q).2⟩⟩
    · simp only [if_pos c0, if_neg c1, if_neg (show ¬ (1 : Int) = 0 by decide), if_pos rfl]
      show zSat (fX12_finger n x M) _
      unfold fX12_finger
      rw [m_isNote h (zA0 hA).x, zbd_s, m_isFinger h (zA0 hA).x, zbd_s]
      simp only [if_pos c0, if_neg c1, if_neg (show ¬ (1 : Int) = 0 by decide), if_pos rfl]
      exact ⟨rfl, Inv.z hPk hA h hC⟩
  · simp only [if_neg c0, if_pos rfl]
    show zSat (fX12_finger n x M) _
    unfold fX12_finger
    rw [m_isNote h (zA0 hA).x, zbd_s]
    simp only [if_neg c0, if_pos rfl]
    exact ⟨rfl, Inv.z hPk hA h hC⟩
end CA2
