/-! PURE PART, 26: mark, laid and gone back to -/
section MR2
variable {Pk : zMem}
variable {σ M N : zMem} {x : Int}
theorem zAg_c4 (hA : zAg σ M) {c : Nat} (h : 400 ≤ c) : M c = σ c := hA.fl c (by unfold zfull; simp [h])
theorem zAg_c40 (hA : zAg σ M) {c : Nat} (h : (40 ≤ c ∧ c < 60) ∨ (80 ≤ c ∧ c < 90)) : M c = σ c := hA.fl c (by
  unfold zfull
  rcases h with h | h
  · simp [h.1, h.2]
  · simp [h.1, h.2])
theorem c_lay (hI : Inv Pk M) {m : Nat} (hm : m < 4) (hN : ∀ c : Nat, c ≠ 6 → c ≠ 7 → (c < 400 + 20 * m ∨ 420 + 20 * m ≤ c) → (c < 500 + 10 * m ∨ 510 + 10 * m ≤ c) → N c = M c) (h6 : N 6 m = ((400 + 20 * m : Nat) : Int)) (h7 : N 7 m = ((500 + 10 * m : Nat) : Int)) (h6' : ∀ q : Int, q ≠ m → N 6 q = M 6 q) (h7' : ∀ q : Int, q ≠ m → N 7 q = M 7 q) :
    zSat (fX11_lay_j44 (400 + 20 * m) (500 + 10 * m) m N) (fun e => e.1 = 1 ∧ (∀ q : Int, e.2 6 q = N 6 q ∧ e.2 7 q = N 7 q) ∧ zSat (fX12_mark m 0 e.2) (fun e' => e'.1 = 1 ∧ Inv N e'.2 ∧ ∀ q : Int, e'.2 6 q = N 6 q ∧ e'.2 7 q = N 7 q)) := by
  obtain ⟨σ, hA, h, hC, hPk⟩ := hI
  have hnn := r_nn h
  have hm' : (0 : Int) ≤ m ∧ (m : Int) < 4 := by omega
  unfold fX11_lay_j44
  rw [zgd_t hm', zgd_t h6, zS_bd]
  refine zs_m (e_copy7 (o := 400 + 20 * m) (o1 := 40) (by omega)) ?_
  rintro N1 ⟨a1, a2, a3⟩
  rw [zgd_t hm', zgd_t (show N1 7 m = _ by rw [a1 7 (by omega)]; exact h7), zS_bd]
  refine zs_m (e_copy5 (o := 500 + 10 * m) (o1 := 80) (by omega)) ?_
  rintro N2 ⟨b1, b2, b3⟩
  have n2 : ∀ c : Nat, c ≠ 6 → c ≠ 7 → (c < 400 + 20 * m ∨ 420 + 20 * m ≤ c) → (c < 500 + 10 * m ∨ 510 + 10 * m ≤ c) → N2 c = M c := fun c c1 c2 c3 c4 => by
    rw [b1 c (by omega), a1 c (by omega), hN c c1 c2 c3 c4]
  have n6 : N2 6 = N 6 := by rw [b1 6 (by omega), a1 6 (by omega)]
  have n7 : N2 7 = N 7 := by rw [b1 7 (by omega), a1 7 (by omega)]
  refine ⟨rfl, fun q => ⟨by show N2 6 q = _; rw [n6], by show N2 7 q = _; rw [n7]⟩, ?_⟩
  show zSat (fX12_mark m 0 N2) _
  unfold fX12_mark fX12_mark_j29
  rw [m_isFrom, zbd_s, if_pos (show (0 : Int) ≤ m ∧ (m : Int) ≤ 3 by omega), if_neg (show ¬ (1 : Int) = 0 by decide), if_pos rfl, zgd_t hm', if_pos rfl, zS_bd, zw_i (x := 2 + (m : Int)) (by omega) (by omega)]
  refine zs_m (m_lays (j1 := 0) (j2 := 2 + (m : Int)) (by omega) (by omega) (by omega)) ?_
  intro M8 ld
  obtain ⟨l0, l1, l2, l3, l4, l5, l6⟩ := ld
  rw [zgd_t hm']
  refine zs_m (m_mark79 (x := 0) hm') ?_
  rintro ⟨r, W⟩ ⟨hr, k1, k2⟩
  dsimp only at hr k1 k2
  rw [if_pos rfl] at k1
  simp only [if_pos] at k2
  -- what lies in W
  have w0 : ∀ (c : Nat) (q : Int), ¬ (245 ≤ c ∧ c < 250 ∧ 24 + 24 * (m : Int) ≤ q ∧ q < 24 + 24 * (m : Int) + 24) → ¬ (c = 263 ∧ q = m) → ¬ zrow (2 + (m : Int)) c q → ¬ (c = 262 ∧ q = m) → ¬ (c = 200 ∧ q = 0) → W c q = N2 c q := fun c q c1 c2 c3 c4 c5 => by
    rw [k1 c q c1]
    have : zup M8 263 m (M8 200 43) c q = M8 c q := by unfold zup; rw [if_neg c2]
    rw [this, l0 c q c3]
    unfold zup
    rw [if_neg c4, if_neg c5]
  have wr : ∀ (c : Nat) (q : Int), 211 ≤ c → c < 230 → W c q = M8 c q := fun c q c0 c1 => by
    rw [k1 c q (by omega), zup_ne (by omega)]
  have m8 : ∀ (c : Nat) (q : Int), 211 ≤ c → c < 230 → zup (zup N2 200 0 0) 262 m 1 c q = M c q := fun c q c0 c1 => by
    rw [zup_ne (by omega), zup_ne (by omega), n2 c (by omega) (by omega) (by omega) (by omega)]
  have nr : ∀ (j : Int) (c : Nat) (q : Int), j ≠ 2 + (m : Int) → zrow j c q → ¬ zrow (2 + (m : Int)) c q := fun j c q hj hq hq' => by
    unfold zrow at hq hq'; omega
  have wM : ∀ c : Nat, c < 200 → c ≠ 6 → c ≠ 7 → W c = M c := fun c c0 c1 c2 => by
    funext q
    rw [w0 c q (by omega) (by omega) (fun g => by have := zrow_lt g; omega) (by omega) (by omega), n2 c c1 c2 (by omega) (by omega)]
  have w400 : ∀ c : Nat, 400 ≤ c → W c = N2 c := fun c c0 => by
    funext q
    rw [w0 c q (by omega) (by omega) (fun g => by have := zrow_lt g; omega) (by omega) (by omega)]
  have w6 : W 6 = N 6 := by
    funext q
    rw [w0 6 q (by omega) (by omega) (fun g => by have := zrow_lt g; omega) (by omega) (by omega), n6]
  have w7 : W 7 = N 7 := by
    funext q
    rw [w0 7 q (by omega) (by omega) (fun g => by have := zrow_lt g; omega) (by omega) (by omega), n7]
  have wrow : ∀ (j : Int) (c : Nat) (q : Int), j ≠ 2 + (m : Int) → zrow j c q → W c q = M c q := fun j c q hj hq => by
    have hl := zrow_lt hq
    rw [wr c q hl.1 hl.2, l0 c q (nr j c q hj hq), m8 c q hl.1 hl.2]
  have hsu0 : ∀ W' : zMem, (∀ c : Nat, 40 ≤ c → c < 60 → W' c = M c) → (∀ (c : Nat) (q : Int), zrow 0 c q → W' c q = M c q) → zSu 40 0 W' := fun W' g1 g2 => zSu_fr h.1 (fun c c0 c1 => by rw [g1 c c0 (by omega), zAg_c40 hA (by omega)]) (fun c q hq => by rw [g2 c q hq]; exact hA c q (zrow_st (Or.inl rfl) hq).1)
  have nn43 : M8 200 43 = σ 200 43 := by
    rw [l0 200 43 (fun g => by have := zrow_lt g; omega), zup_ne (by decide), zup_nk (by decide), n2 200 (by omega) (by omega) (by omega) (by omega)]
    exact hA 200 43 rfl
  have w263 : W 263 m = σ 200 43 := by rw [k1 263 _ (by omega), zup_eq]; exact nn43
  have w43 : W 200 43 = σ 200 43 := by rw [k1 200 _ (by omega), zup_ne (by decide)]; exact nn43
  have wn : ∀ (c : Nat) (q : Int), 245 ≤ c → c < 250 → ¬ (24 + 24 * (m : Int) ≤ q ∧ q < 24 + 24 * (m : Int) + 24) → W c q = M c q := fun c q c0 c1 hq => by
    rw [w0 c q (by omega) (by omega) (fun g => by have := zrow_lt g; omega) (by omega) (by omega), n2 c (by omega) (by omega) (by omega) (by omega)]
  have st : St W := by
    refine ⟨hsu0 W (fun c c0 c1 => wM c (by omega) (by omega) (by omega)) (fun c q hq => wrow 0 c q (by omega) hq), ?_, ?_, ?_, ?_⟩
    · rw [w43]
      exact zPi_fr h.2.1 (fun c c0 c1 => by rw [wM c (by omega) (by omega) (by omega), zAg_c40 hA (by omega)]) (fun c c0 c1 => by rw [wM c (by omega) (by omega) (by omega), zAg_c40 hA (by omega)]) (fun c q c0 c1 q0 q1 => by
        rw [wn c q c0 c1 (by omega)]
        refine hA c q ?_
        have : c = 245 ∨ c = 246 ∨ c = 247 ∨ c = 248 ∨ c = 249 := by omega
        rcases this with rfl | rfl | rfl | rfl | rfl <;> rfl)
    · intro r hr4
      by_cases e : r = m
      · subst e
        refine Or.inr ⟨?_, by rw [w6]; exact h6, by rw [w7]; exact h7, ?_, ?_⟩
        · rw [k1 262 _ (by omega), zup_ne (by decide), l0 262 _ (fun g => by have := zrow_lt g; omega), zup_eq]
        · refine zSu_via (o := 40) (j := 0) hA (Or.inl rfl) ⟨by omega, by omega, by omega⟩ h.1 (fun c c0 c1 => zAg_c40 hA (by omega)) ?_ (fun i q i0 i1 e8 e14 e15 e17 q0 q1 => ?_) (fun c c0 c1 => ?_) (fun c q c0 c1 q0 q1 => ?_) (fun c q c0 c1 q0 q1 => ?_) (fun q q0 q1 => ?_) (fun c q c0 c1 q0 q1 => ?_) (fun q q0 q1 => ?_)
          · rw [w400 (400 + 20 * r) (by omega), b1 (400 + 20 * r) (by omega), a2.1, a2.2.1, a2.2.2.1, a2.2.2.2.1, a2.2.2.2.2, hN 40 (by omega) (by omega) (by omega) (by omega)]
            exact ⟨rfl, rfl, rfl, rfl, rfl⟩
          · rw [w400 _ (by omega), b1 _ (by omega), a3 i q i0 i1 e8 e14 e15 e17 q0 q1, hN (40 + i) (by omega) (by omega) (by omega) (by omega)]
          · rw [wr c _ c0 (by omega), l1 c c0 c1, m8 c _ c0 (by omega)]
          · rw [wr c _ (by omega) (by omega), l2 c q c0 c1 q0 q1, m8 c _ (by omega) (by omega)]
          · rw [wr c _ (by omega) (by omega), l3 c q c0 c1 q0 q1, m8 c _ (by omega) (by omega)]
          · rw [wr 225 _ (by omega) (by omega), l4 q q0 q1, m8 225 _ (by omega) (by omega)]
          · rw [wr c _ (by omega) (by omega), l5 c q c0 c1 q0 q1, m8 c _ (by omega) (by omega)]
          · rw [wr 229 _ (by omega) (by omega), l6 q q0 q1, m8 229 _ (by omega) (by omega)]
        · refine zPi_via (o := 80) (j := 0) (so := 40) hA h.2.1 w263 (fun c c0 c1 => zAg_c40 hA (by omega)) (fun c c0 c1 => zAg_c40 hA (by omega)) ?_ ⟨?_, ?_⟩ (fun b b0 b1' => ?_) (r_bw h).2 (fun i q i0 i1 q0 q1 => ?_) (fun c q c0 c1 q0 q1 => ?_)
          · rw [w400 _ (by omega), b2, a1 80 (by omega), hN 80 (by omega) (by omega) (by omega) (by omega)]
          · rw [w400 (400 + 20 * r) (by omega), b1 (400 + 20 * r) (by omega), a2.1, hN 40 (by omega) (by omega) (by omega) (by omega)]
          · rw [w400 _ (by omega), b1 _ (by omega), a3 19 1 (by omega) (by omega) (by omega) (by omega) (by omega) (by omega) (by omega) (by decide), hN (40 + 19) (by omega) (by omega) (by omega) (by omega)]
          · rw [w400 _ (by omega), b1 _ (by omega), a3 6 b (by omega) (by omega) (by omega) (by omega) (by omega) (by omega) b0 (by show b < 12; omega), hN (40 + 6) (by omega) (by omega) (by omega) (by omega)]
          · rw [w400 _ (by omega), b3 i q i0 i1 q0 q1, a1 (80 + i) (by omega), hN (80 + i) (by omega) (by omega) (by omega) (by omega)]
          · have := k2 c q c0 c1 q0 q1
            rw [show 24 * (1 + (r : Int)) + q = 24 + 24 * (r : Int) + q by omega, this, zup_ne (by omega), l0 c _ (fun g => by have := zrow_lt g; omega), zup_ne (by omega), zup_ne (by omega), n2 c (by omega) (by omega) (by omega) (by omega)]
            rw [show 24 * (0 : Int) + q = 0 + q by omega]
      · have e262 : W 262 r = σ 262 r := by
          rw [w0 262 r (by omega) (by omega) (fun g => by have := zrow_lt g; omega) (by omega) (by omega), n2 262 (by omega) (by omega) (by omega) (by omega)]
          exact hA 262 r rfl
        have e263 : W 263 r = σ 263 r := by
          rw [w0 263 r (by omega) (by omega) (fun g => by have := zrow_lt g; omega) (by omega) (by omega), n2 263 (by omega) (by omega) (by omega) (by omega)]
          exact hA 263 r rfl
        have e6 : W 6 r = σ 6 r := by rw [w6, h6' r (by omega)]; exact hA 6 r rfl
        have e7 : W 7 r = σ 7 r := by rw [w7, h7' r (by omega)]; exact hA 7 r rfl
        rw [e262, e263, e6, e7]
        rcases h.2.2.1 r hr4 with g | ⟨g1, g2, g3, g4, g5⟩
        · exact Or.inl g
        · have c4 : ∀ c : Nat, 400 ≤ c → (c < 400 + 20 * m ∨ 420 + 20 * m ≤ c) → (c < 500 + 10 * m ∨ 510 + 10 * m ≤ c) → W c = σ c := fun c c0 c1 c2 => by
            rw [w400 c c0, n2 c (by omega) (by omega) c1 c2, zAg_c4 hA c0]
          refine Or.inr ⟨g1, g2, g3, zSu_fr g4 (fun c c0 c1 => c4 c (by omega) (by omega) (by omega)) (fun c q hq => ?_), zPi_fr g5 (fun c c0 c1 => c4 c (by omega) (by omega) (by omega)) (fun c c0 c1 => c4 c (by omega) (by omega) (by omega)) (fun c q c0 c1 q0 q1 => ?_)⟩
          · rw [wrow (2 + r) c q (by omega) hq]; exact hA c q (zrow_st (Or.inr (by omega)) hq).1
          · rw [wn c q c0 c1 (by omega)]
            refine hA c q ?_
            have : c = 245 ∨ c = 246 ∨ c = 247 ∨ c = 248 ∨ c = 249 := by omega
            rcases this with rfl | rfl | rfl | rfl | rfl <;> rfl
    · refine zTa_fr h.2.2.2.1 ⟨?_, ?_, ?_, ?_⟩
      · rw [w0 200 1 (by omega) (by omega) (fun g => by have := zrow_lt g; omega) (by omega) (by omega), n2 200 (by omega) (by omega) (by omega) (by omega)]; exact hA 200 1 rfl
      · rw [wM 20 (by omega) (by omega) (by omega)]; exact hA 20 1 rfl
      · rw [wM 21 (by omega) (by omega) (by omega)]; exact hA.fl 21 rfl
      · funext q
        rw [w0 203 q (by omega) (by omega) (fun g => by have := zrow_lt g; omega) (by omega) (by omega), n2 203 (by omega) (by omega) (by omega) (by omega), hA.fl 203 rfl]
    · exact zSt0_fr h.2.2.2.2 (fun c c0 c1 => by rw [w400 c (by omega), n2 c (by omega) (by omega) (by omega) (by omega), zAg_c4 hA (by omega)])
  refine ⟨hr, ⟨W, zAg.refl W, st, Cs.sig (σ := σ) (hC.fr fun c c0 c1 => wM c (by omega) (by omega) (by omega)) (fun c c0 => ?_), fun q => ⟨by rw [w6], by rw [w7]⟩⟩, fun q => ⟨by show W 6 q = _; rw [w6], by show W 7 q = _; rw [w7]⟩⟩
  rw [wM c (by omega) (by omega) (by omega), zAg_c40 hA c0]
/-- nothing lies on the mark, or there is none such -/
theorem c_mark0 (hI : Inv Pk M) {m x : Int} (hm : ¬ (0 ≤ m ∧ m < 4) ∨ (x ≠ 0 ∧ M 6 m < 0)) : zSat (fX12_mark m x M) (fun e' => e'.1 = 0 ∧ Inv Pk e'.2) := by
  obtain ⟨σ, hA, h, hC, hPk⟩ := hI
  unfold fX12_mark
  rw [m_isFrom, zbd_s]
  by_cases c : 0 ≤ m ∧ m ≤ 3
  · rw [if_pos c, if_neg (show ¬ (1 : Int) = 0 by decide)]
    rcases hm with hm | hm
    · omega
    · rw [if_neg hm.1, zgd_t ⟨by omega, by omega⟩]
      have := h.2.2.1 m.toNat (by omega)
      rw [show ((m.toNat : Nat) : Int) = m by omega] at this
      have e6 : M 6 m = σ 6 m := hA 6 m rfl
      rcases this with g | g
      · rw [show zup M 200 0 0 262 m = 0 by rw [zup_ne (by decide)]; exact (hA 262 m rfl).trans g.1, if_pos rfl]
        exact ⟨rfl, Inv.z hPk hA h hC⟩
      · have := g.2.1; omega
  · rw [if_neg c, if_pos rfl]
    exact ⟨rfl, Inv.z hPk hA h hC⟩
theorem r_pk (hI : Inv Pk M) (q : Int) : M 6 q = Pk 6 q ∧ M 7 q = Pk 7 q := by
  obtain ⟨σ, hA, h, hC, hPk⟩ := hI
  rw [show M 6 q = σ 6 q from hA 6 q rfl, show M 7 q = σ 7 q from hA 7 q rfl]
  exact hPk q
theorem r_mark (hI : Inv Pk M) {m : Nat} (hm : m < 4) : (M 6 m < 0 ∧ M 7 m < 0) ∨ (M 6 m = ((400 + 20 * m : Nat) : Int) ∧ M 7 m = ((500 + 10 * m : Nat) : Int)) := by
  obtain ⟨σ, hA, h, hC, hPk⟩ := hI
  rw [show M 6 m = σ 6 m from hA 6 m rfl, show M 7 m = σ 7 m from hA 7 m rfl]
  rcases h.2.2.1 m hm with g | g
  · exact Or.inl g.2
  · exact Or.inr ⟨g.2.1, g.2.2.1⟩
theorem c_goBack (hI : Inv Pk M) {m : Nat} (hm : m < 4) (hl : ¬ M 6 m < 0) {x : Int} (hx : x ≠ 0) :
    zSat (fX11_goBack (400 + 20 * m) (500 + 10 * m) m M) (fun e => e.1 = 1 ∧ zSat (fX12_mark m x e.2) (fun e' => e'.1 = 1 ∧ Inv Pk e'.2 ∧ ∀ q : Int, e'.2 6 q = M 6 q ∧ e'.2 7 q = M 7 q)) := by
  obtain ⟨σ, hA, h, hC, hPk⟩ := hI
  have hm' : (0 : Int) ≤ m ∧ (m : Int) < 4 := by omega
  have e6 : M 6 m = σ 6 m := hA 6 m rfl
  have e7 : M 7 m = σ 7 m := hA 7 m rfl
  obtain ⟨g1, g2, g3, g4, g5⟩ : σ 262 m = 1 ∧ σ 6 m = ((400 + 20 * m : Nat) : Int) ∧ σ 7 m = ((500 + 10 * m : Nat) : Int) ∧ zSu (400 + 20 * m) (2 + m) σ ∧ zPi (500 + 10 * m) (1 + m) (σ 263 m) (400 + 20 * m) σ := by
    rcases h.2.2.1 m hm with g | g
    · rw [e6] at hl; exact absurd g.2.1 hl
    · exact g
  unfold fX11_goBack
  rw [zgd_t hm', zgd_t (e6.trans g2), zgd_t hm', zgd_t (e7.trans g3), zgd_t hm', zgd_t (e6.trans g2), zS_bd]
  refine zs_m (e_copy7 (o := 40) (o1 := 400 + 20 * m) (by omega)) ?_
  rintro N1 ⟨a1, a2, a3⟩
  rw [zgd_t hm', zgd_t (show N1 7 m = _ by rw [a1 7 (by omega)]; exact e7.trans g3), zS_bd]
  refine zs_m (e_copy5 (o := 80) (o1 := 500 + 10 * m) (by omega)) ?_
  rintro N2 ⟨b1, b2, b3⟩
  show zSat (some ((1 : Int), zup (zfgt N2) 150 13 0)) _
  refine ⟨rfl, ?_⟩
  show zSat (fX12_mark m x (zup (zfgt N2) 150 13 0)) _
  have z0 := zfgt_0 (M := N2)
  generalize hV : zup (zfgt N2) 150 13 0 = V
  have v1 : ∀ c : Nat, (c < 90 ∨ 200 ≤ c) → V c = N2 c := fun c hc => by
    funext q; rw [← hV, zup_ne (by omega), zfgt_n (by omega)]
  have vM : ∀ c : Nat, (c < 40 ∨ (60 ≤ c ∧ c < 80) ∨ (87 ≤ c ∧ c < 90) ∨ 200 ≤ c) → V c = M c := fun c hc => by
    rw [v1 c (by omega), b1 c (by omega), a1 c (by omega)]
  have vz : V 90 5 = 0 ∧ V 110 7 = 0 ∧ V 130 10 = 0 ∧ V 170 7 = 0 ∧ V 150 13 = 0 := by
    rw [← hV, zup_ne (by decide), zup_ne (by decide), zup_ne (by decide), zup_ne (by decide), zup_eq]
    exact ⟨z0.1, z0.2.1, z0.2.2.1, z0.2.2.2, rfl⟩
  unfold fX12_mark fX12_mark_j29
  rw [m_isFrom, zbd_s, if_pos (show (0 : Int) ≤ m ∧ (m : Int) ≤ 3 by omega), if_neg (show ¬ (1 : Int) = 0 by decide), if_neg hx, zgd_t hm', show zup V 200 0 0 262 m = 1 by rw [zup_ne (by decide), vM 262 (by omega)]; exact (hA 262 m rfl).trans g1, if_neg (show ¬ (1 : Int) = 0 by decide), zgd_t hm', if_neg hx, zS_bd, zw_i (x := 2 + (m : Int)) (by omega) (by omega)]
  refine zs_m (m_lays (j1 := 2 + (m : Int)) (j2 := 0) (by omega) (by omega) (by omega)) ?_
  intro M8 ld
  obtain ⟨l0, l1, l2, l3, l4, l5, l6⟩ := ld
  rw [zgd_t hm']
  refine zs_m (m_mark79 (x := x) hm') ?_
  rintro ⟨r, W⟩ ⟨hr, k1, k2⟩
  dsimp only at hr k1 k2
  rw [if_neg hx] at k1
  simp only [if_neg hx] at k2
  have w0 : ∀ (c : Nat) (q : Int), ¬ (245 ≤ c ∧ c < 250 ∧ 0 ≤ q ∧ q < 24) → ¬ (c = 200 ∧ q = 43) → ¬ zrow 0 c q → ¬ (c = 262 ∧ q = m) → ¬ (c = 200 ∧ q = 0) → W c q = V c q := fun c q c1 c2 c3 c4 c5 => by
    rw [k1 c q (by omega)]
    have : zup M8 200 43 (M8 263 m) c q = M8 c q := by unfold zup; rw [if_neg c2]
    rw [this, l0 c q c3]
    unfold zup
    rw [if_neg c4, if_neg c5]
  have wr : ∀ (c : Nat) (q : Int), 211 ≤ c → c < 230 → W c q = M8 c q := fun c q c0 c1 => by
    rw [k1 c q (by omega), zup_ne (by omega)]
  have m8 : ∀ (c : Nat) (q : Int), 211 ≤ c → c < 230 → zup (zup V 200 0 0) 262 m 1 c q = M c q := fun c q c0 c1 => by
    rw [zup_ne (by omega), zup_ne (by omega), vM c (by omega)]
  have wV : ∀ c : Nat, (c < 200 ∨ 300 ≤ c) → W c = V c := fun c c0 => by
    funext q
    rw [w0 c q (by omega) (by omega) (fun g => by have := zrow_lt g; omega) (by omega) (by omega)]
  have wrow : ∀ (j : Int) (c : Nat) (q : Int), j ≠ 0 → zrow j c q → W c q = M c q := fun j c q hj hq => by
    have hl := zrow_lt hq
    rw [wr c q hl.1 hl.2, l0 c q (fun hq' => by unfold zrow at hq hq'; omega), m8 c q hl.1 hl.2]
  have w262 : ∀ q : Int, W 262 q = σ 262 q := fun q => by
    rw [k1 262 q (by omega), zup_ne (by decide), l0 262 q (fun g => by have := zrow_lt g; omega)]
    by_cases e : q = m
    · subst e; rw [zup_eq, g1]
    · rw [zup_nk e, zup_ne (by decide), vM 262 (by omega)]; exact hA 262 q rfl
  have w263 : ∀ q : Int, W 263 q = σ 263 q := fun q => by
    rw [w0 263 q (by omega) (by omega) (fun g => by have := zrow_lt g; omega) (by omega) (by omega), vM 263 (by omega)]; exact hA 263 q rfl
  have w43 : W 200 43 = σ 263 m := by
    rw [k1 200 43 (by omega), zup_eq, l0 263 m (fun g => by have := zrow_lt g; omega), zup_ne (by decide), zup_ne (by decide), vM 263 (by omega)]; exact hA 263 m rfl
  have wn : ∀ (c : Nat) (q : Int), 245 ≤ c → c < 250 → ¬ (0 ≤ q ∧ q < 24) → W c q = M c q := fun c q c0 c1 hq => by
    rw [w0 c q (by omega) (by omega) (fun g => by have := zrow_lt g; omega) (by omega) (by omega), vM c (by omega)]
  have c4 : ∀ c : Nat, 400 ≤ c → W c = σ c := fun c c0 => by rw [wV c (by omega), vM c (by omega), zAg_c4 hA c0]
  have st : St W := by
    refine ⟨?_, ?_, ?_, ?_, ?_⟩
    · refine zSu_via (o := 400 + 20 * m) (j := 2 + (m : Int)) hA (Or.inr (by omega)) ⟨by omega, by omega, by omega⟩ g4 (fun c c0 c1 => zAg_c4 hA (by omega)) ?_ (fun i q i0 i1 e8 e14 e15 e17 q0 q1 => ?_) (fun c c0 c1 => ?_) (fun c q c0 c1 q0 q1 => ?_) (fun c q c0 c1 q0 q1 => ?_) (fun q q0 q1 => ?_) (fun c q c0 c1 q0 q1 => ?_) (fun q q0 q1 => ?_)
      · rw [wV 40 (by omega), v1 40 (by omega), b1 40 (by omega)]; exact a2
      · rw [wV _ (by omega), v1 _ (by omega), b1 _ (by omega), a3 i q i0 i1 e8 e14 e15 e17 q0 q1]
      · rw [wr c _ c0 (by omega), l1 c c0 c1, m8 c _ c0 (by omega)]
      · rw [wr c _ (by omega) (by omega), l2 c q c0 c1 q0 q1, m8 c _ (by omega) (by omega)]
      · rw [wr c _ (by omega) (by omega), l3 c q c0 c1 q0 q1, m8 c _ (by omega) (by omega)]
      · rw [wr 225 _ (by omega) (by omega), l4 q q0 q1, m8 225 _ (by omega) (by omega)]
      · rw [wr c _ (by omega) (by omega), l5 c q c0 c1 q0 q1, m8 c _ (by omega) (by omega)]
      · rw [wr 229 _ (by omega) (by omega), l6 q q0 q1, m8 229 _ (by omega) (by omega)]
    · refine zPi_via (o := 500 + 10 * m) (j := 1 + (m : Int)) (so := 400 + 20 * m) hA g5 w43 (fun c c0 c1 => zAg_c4 hA (by omega)) (fun c c0 c1 => zAg_c4 hA (by omega)) ?_ ⟨?_, ?_⟩ (fun b b0 b1' => ?_) g4.1.1.2.2 (fun i q i0 i1 q0 q1 => ?_) (fun c q c0 c1 q0 q1 => ?_)
      · rw [wV 80 (by omega), v1 80 (by omega), b2, a1 _ (by omega)]
      · rw [wV 40 (by omega), v1 40 (by omega), b1 40 (by omega), a2.1]
      · rw [wV _ (by omega), v1 _ (by omega), b1 _ (by omega), a3 19 1 (by omega) (by omega) (by omega) (by omega) (by omega) (by omega) (by omega) (by decide)]
      · rw [wV _ (by omega), v1 _ (by omega), b1 _ (by omega), a3 6 b (by omega) (by omega) (by omega) (by omega) (by omega) (by omega) b0 (by show b < 12; omega)]
      · rw [wV _ (by omega), v1 _ (by omega), b3 i q i0 i1 q0 q1, a1 _ (by omega)]
      · have := k2 c q c0 c1 q0 q1
        rw [show 24 * (0 : Int) + q = 0 + q by omega, this, zup_ne (by omega), l0 c _ (fun g => by have := zrow_lt g; omega), zup_ne (by omega), zup_ne (by omega), vM c (by omega)]
        rw [show 24 * (1 + (m : Int)) + q = 24 + 24 * (m : Int) + q by omega]
    · intro r hr4
      have e6' : W 6 r = σ 6 r := by rw [wV 6 (by omega), vM 6 (by omega)]; exact hA 6 r rfl
      have e7' : W 7 r = σ 7 r := by rw [wV 7 (by omega), vM 7 (by omega)]; exact hA 7 r rfl
      rw [w262, w263, e6', e7']
      rcases h.2.2.1 r hr4 with g | ⟨p1, p2, p3, p4, p5⟩
      · exact Or.inl g
      · refine Or.inr ⟨p1, p2, p3, zSu_fr p4 (fun c c0 c1 => c4 c (by omega)) (fun c q hq => ?_), zPi_fr p5 (fun c c0 c1 => c4 c (by omega)) (fun c c0 c1 => c4 c (by omega)) (fun c q c0 c1 q0 q1 => ?_)⟩
        · rw [wrow (2 + r) c q (by omega) hq]; exact hA c q (zrow_st (Or.inr (by omega)) hq).1
        · rw [wn c q c0 c1 (by omega)]
          refine hA c q ?_
          have : c = 245 ∨ c = 246 ∨ c = 247 ∨ c = 248 ∨ c = 249 := by omega
          rcases this with rfl | rfl | rfl | rfl | rfl <;> rfl
    · refine zTa_fr h.2.2.2.1 ⟨?_, ?_, ?_, ?_⟩
      · rw [w0 200 1 (by omega) (by omega) (fun g => by have := zrow_lt g; omega) (by omega) (by omega), vM 200 (by omega)]; exact hA 200 1 rfl
      · rw [wV 20 (by omega), vM 20 (by omega)]; exact hA 20 1 rfl
      · rw [wV 21 (by omega), vM 21 (by omega)]; exact hA.fl 21 rfl
      · funext q
        rw [w0 203 q (by omega) (by omega) (fun g => by have := zrow_lt g; omega) (by omega) (by omega), vM 203 (by omega), hA.fl 203 rfl]
    · exact zSt0_fr h.2.2.2.2 (fun c c0 c1 => c4 c (by omega))
  refine ⟨hr, ⟨W, zAg.refl W, st, ?_, fun q => ⟨by rw [wV 6 (by omega), vM 6 (by omega), hA 6 q rfl]; exact (hPk q).1, by rw [wV 7 (by omega), vM 7 (by omega), hA 7 q rfl]; exact (hPk q).2⟩⟩, fun q => ⟨by show W 6 q = _; rw [wV 6 (by omega), vM 6 (by omega)], by show W 7 q = _; rw [wV 7 (by omega), vM 7 (by omega)]⟩⟩
  refine ⟨fun q => absurd ?_ q, fun q => absurd ?_ q, fun q => absurd ?_ q, fun q => absurd ?_ q, fun q => absurd ?_ q⟩
  · show W 90 5 = 0; rw [wV 90 (by omega)]; exact vz.1
  · show W 110 7 = 0; rw [wV 110 (by omega)]; exact vz.2.1
  · show W 130 10 = 0; rw [wV 130 (by omega)]; exact vz.2.2.1
  · show W 150 13 = 0; rw [wV 150 (by omega)]; exact vz.2.2.2.2
  · show W 170 7 = 0; rw [wV 170 (by omega)]; exact vz.2.2.2.1
end MR2
