/-! PURE PART, 80: spindle -/
section RD3
variable {Pk : zMem}
variable {σ M V B Mc : zMem} {T : Int → Int} {n : Int}
theorem zSc_cl {c : Nat} {k : Int} (h : zSc c k = true) : c < 20 ∨ (c = 20 ∧ k = 1) ∨ c = 21 ∨ (40 ≤ c ∧ c < 60) ∨ (80 ≤ c ∧ c < 90) ∨ 200 ≤ c := by
  unfold zSc zfull zprt at h
  simp only [Bool.or_eq_true, Bool.and_eq_true, decide_eq_true_eq, beq_iff_eq] at h
  omega
theorem zSc_2 {k : Int} (h : zSc 200 k = true) : k = 1 ∨ k = 43 := by
  have : zSc 200 k = (k == 1 || k == 43) := by
    unfold zSc zfull zprt
    simp
  rw [this] at h
  simpa using h
set_option maxHeartbeats 1000000 in
theorem c_spindle (hI : Inv Pk M) : zAlike Pk (fX11_spindle M) (fX12_spindle) := by
  obtain ⟨σ, hA, h, hC, hPk⟩ := hI
  obtain ⟨Mc, f, e1, a1, a2, a3, a4, a5, a6, a7⟩ := e_init h hA
  have hTa := h.2.2.2.1
  have hS : ∀ k : Int, 0 ≤ k → k < 11 → Mc 1001 k = zlea k ∧ Mc 1002 k = zmos k := fun k k0 k1 => by
    rw [a6 1001 (by decide) (by decide) (by decide) (by decide) (by decide) (by decide), a6 1002 (by decide) (by decide) (by decide) (by decide) (by decide) (by decide), hA.fl 1001 rfl, hA.fl 1002 rfl]
    exact (h.2.2.2.2 k k0 k1).2
  -- the model's run from a memory B
  have run : ∀ B : zMem, B 200 1 = M 200 1 → B 203 = M 203 → ∃ W : zMem, fX12_readsAll B = zbd (zit (fun s56 : zMem => fX12_readsAll_l84 s56) W) (fun e => zel e (fun s61 => some (1, s61)) (fun r => some r)) ∧ xL (σ 21) (σ 20 1) Mc W Mc W ∧ (∀ c : Nat, c < 200 ∨ 300 ≤ c → W c = B c) ∧ W 200 1 = 0 ∧ ∀ (c : Nat) (k : Int), zSc c k = true → ¬ (c = 200 ∧ k = 1) → W c k = B c k := fun B b1 b2 => by
    refine m_init ?_ (fun k k0 k1 => ?_) a2 a1 ⟨a3.1, a3.2.1⟩ a4 a5
    · rw [b1, hA 200 1 rfl]; exact hTa.1.1
    · rw [b2, hA.fl 203 rfl]; exact (hTa.2 k k0 k1).1
  obtain ⟨W0, -, L0, -⟩ := run M rfl rfl
  unfold zAlike fX11_spindle
  rw [e1]
  rcases s_lines hS _ 0 Mc W0 rfl L0 a3.2.2 (Int.le_refl _) (by omega) with ⟨x', M', V', c1, -, c3, c4⟩ | ⟨x', Mf, Vf0, c1, -, c3⟩
  · -- all is read
    have mM : ∀ c : Nat, c < 20 ∨ c = 21 ∨ (40 ≤ c ∧ c < 60) ∨ 80 ≤ c → M' c = M c := fun c hc => by rw [c3.1.2.1 c (by omega), a6 c (by omega) (by omega) (by omega) (by omega) (by omega) (by omega)]
    have j67 : fX6_read_j62 M' = some (0, M') := by
      unfold fX6_read_j62
      rw [if_pos c4]
    obtain ⟨N1, n1, k1, k2, k3⟩ := zS_ex.1 (e_copy7 (M := zup M' 20 1 0) (o := 40) (o1 := 60) (by omega))
    have fg : ∀ Y : zMem, fX11_forgetAll Y = some (zup (zup (zup (zup (zup Y 90 5 0) 110 7 0) 130 10 0) 170 7 0) 150 13 0) := fun Y => rfl
    rw [c1, zbd_s]
    dsimp only
    rw [j67, zbd2_s]
    dsimp only
    rw [if_pos rfl, n1, zbd_s, fg, zbd_s]
    generalize hN2 : zup (zup (zup (zup (zup (zup N1 80 0 0) 90 5 0) 110 7 0) 130 10 0) 170 7 0) 150 13 0 = N2
    have n2c : ∀ c : Nat, c ≠ 80 → c ≠ 90 → c ≠ 110 → c ≠ 130 → c ≠ 170 → c ≠ 150 → N2 c = N1 c := fun c d1 d2 d3 d4 d5 d6 => by rw [← hN2, zup_c d6, zup_c d5, zup_c d4, zup_c d3, zup_c d2, zup_c d1]
    have n80 : N2 80 0 = 0 := by
      rw [← hN2, zup_ne (by decide), zup_ne (by decide), zup_ne (by decide), zup_ne (by decide), zup_ne (by decide), zup_eq]
    have n90 : N2 90 5 = 0 ∧ N2 110 7 = 0 ∧ N2 130 10 = 0 ∧ N2 170 7 = 0 ∧ N2 150 13 = 0 := by
      rw [← hN2]
      simp (disch := decide) only [zup_eq, zup_ne]
      exact ⟨trivial, trivial, trivial, trivial, trivial⟩
    have n2M : ∀ c : Nat, c < 20 ∨ c = 21 ∨ 200 ≤ c → N2 c = M c := fun c hc => by rw [n2c c (by omega) (by omega) (by omega) (by omega) (by omega) (by omega), k1 c (by omega), zup_c (by omega), mM c (by omega)]
    show zSat (fX12_spindle N2) (fun e' => e'.1 = 0 ∧ Inv Pk e'.2)
    unfold fX12_spindle
    obtain ⟨W, r1, L, r2, r3, r4⟩ := run (zup N2 200 0 0) (by rw [zup_nk (by decide), n2M 200 (by omega)]) (by rw [zup_c (by decide), n2M 203 (by omega)])
    rcases s_lines hS _ 0 Mc W rfl L a3.2.2 (Int.le_refl _) (by omega) with ⟨x2, M2, V1, d1, d2, d3, d4⟩ | ⟨x2, Mf, Vf, d1, d2, d3⟩
    rotate_left
    · rw [c1] at d1
      have q : (1 : Int) = 0 := congrArg (fun x : Int × Int × zMem => x.1) (Option.some.inj d1)
      exact absurd q (by decide)
    rw [c1] at d1
    have eM : M' = M2 := congrArg (fun x : Int × Int × zMem => x.2.2) (Option.some.inj d1)
    subst eM
    rw [r1, d2, zbd_s]
    show zSat (zbd2 (some (1, V1)) _) _
    rw [zbd2_s]
    dsimp only
    rw [if_neg (show ¬ (1 : Int) = 0 by decide), zS_bd]
    obtain ⟨⟨-, -, fvA, fvZ⟩, ⟨⟨nm1, nm2, nm3⟩, -⟩, ⟨⟨np1, np2, np3⟩, dB, dP, ⟨dS, -⟩, dpl⟩, ⟨⟨s1, s2, s3⟩, z2, z3, z4, z5⟩⟩ := d3
    have ab := c3.1.1.2.2.1
    have bb := c3.1.1.1.2.2
    refine zs_m (m_place (V := V1) (b := M' 60 0) nm1 nm2 nm3) ?_
    rintro ⟨q1, q2, Vp⟩ ⟨p1, p2⟩
    dsimp only at p1 p2 ⊢
    rw [zS_bd]
    refine zs_m (m_lays (M := Vp) (j1 := 1) (j2 := 0) (by omega) (by omega) (by omega)) ?_
    intro U ld
    obtain ⟨l0, l1, l2, l3, l4, l5, l6⟩ := ld
    refine ⟨rfl, ?_⟩
    show Inv Pk (zup U 200 43 0)
    generalize hWf : zup U 200 43 0 = Wf
    have wfU : ∀ c : Nat, c ≠ 200 → Wf c = U c := fun c hc => by rw [← hWf, zup_c hc]
    have nr0 : ∀ (c : Nat) (k : Int), c < 211 ∨ 230 ≤ c → ¬ zrow 0 c k := fun c k hc hq => by
      have := zrow_lt hq; omega
    have lowc : ∀ c : Nat, c < 200 ∨ 300 ≤ c → Wf c = N2 c := fun c hc => by
      funext k
      rw [wfU c (by omega), l0 c k (nr0 c k (by omega)), p1 c k (by omega), fvA c hc, r2 c hc, zup_ne (by omega)]
    have stc : ∀ (c : Nat) (k : Int), zSc c k = true → c ≠ 200 → 200 ≤ c → ¬ zrow 0 c k → Wf c k = σ c k := fun c k hs c0 c1 hr => by
      have c219 : ¬ (c = 219 ∧ 12 ≤ k ∧ k < 12 + M' 60 0) := fun q => by
        rw [q.1, zSc_12 (by omega) q.2.1 (by omega)] at hs; cases hs
      rw [wfU c c0, l0 c k hr, p1 c k c219, fvZ c k hs, r4 c k hs (by omega), zup_ne c0, n2M c (by omega)]
      exact hA c k hs
    -- the SPINDLE as it was read
    generalize hX : (fun c : Nat => if c < 200 then M' c else Vp c : zMem) = X
    have xM : ∀ c : Nat, c < 200 → X c = M' c := fun c hc => by rw [← hX]; exact if_pos hc
    have xV : ∀ c : Nat, 200 ≤ c → X c = Vp c := fun c hc => by rw [← hX]; exact if_neg (by omega)
    have pc : ∀ c : Nat, c ≠ 219 → Vp c = V1 c := fun c hc => funext fun k => p1 c k (fun q => hc q.1)
    have zS : zSu 60 1 X := by
      refine ⟨⟨⟨?_, ?_, ?_⟩, ⟨?_, ?_, ?_⟩, ⟨?_, ?_, ?_⟩⟩, fun k k0 k1 => ?_, fun k k0 k1 => ?_, fun k k0 k1 => ?_, ?_, ⟨?_, ?_⟩, fun k hk => ?_⟩
      · rw [xV 211 (by omega), pc 211 (by decide), xM 60 (by omega)]; exact nm1
      · rw [xM 60 (by omega)]; exact nm2
      · rw [xM 60 (by omega)]; exact nm3
      · rw [xV 212 (by omega), pc 212 (by decide), xM 60 (by omega)]; exact np1
      · rw [xM 60 (by omega)]; exact np2
      · rw [xM 60 (by omega)]; exact np3
      · rw [xV 213 (by omega), pc 213 (by decide), xM 60 (by omega)]; exact s1
      · rw [xM 60 (by omega)]; exact s2
      · rw [xM 60 (by omega)]; exact s3
      · rw [xM 60 (by omega)] at k1
        obtain ⟨b1, b2, b3, b4, b5⟩ := dB k k0 k1
        have pk := p2 k k0 k1
        have sm : zsum (fun q => if V1 218 (12 + q) = 3 then 0 else 1) k.toNat = zsum (fun b => if M' 66 b = 3 then 0 else 1) k.toNat := zsum_eq fun q hq => by rw [(dB q (by omega) (by omega)).2.2.2.1.1]
        have sb := zsum_p01 (p := fun b => M' 66 b = 3) (n := k.toNat)
        rw [b4.1, sm] at pk
        unfold zBo
        rw [xV 215 (by omega), xV 216 (by omega), xV 217 (by omega), xV 218 (by omega), xV 219 (by omega), xM (60 + 3) (by omega), xM (60 + 4) (by omega), xM (60 + 5) (by omega), xM (60 + 6) (by omega), xM (60 + 7) (by omega), pc 215 (by decide), pc 216 (by decide), pc 217 (by decide), pc 218 (by decide)]
        refine ⟨b1, b2, b3, b4, ?_, ?_⟩
        · show Vp 219 (12 + k) = M' 67 k
          rw [pk, b5]
        · show (M' 66 k = 3 ∧ M' 67 k = -1) ∨ (M' 66 k ≠ 3 ∧ 0 ≤ M' 67 k ∧ M' 67 k < 12)
          rw [b5]
          by_cases u : M' 66 k = 3
          · exact Or.inl ⟨u, if_pos u⟩
          · rw [if_neg u]
            exact Or.inr ⟨u, sb.1, by omega⟩
      · rw [xM 60 (by omega)] at k1
        unfold zPa
        rw [xV 220 (by omega), xV 221 (by omega), xV 222 (by omega), xV 223 (by omega), xV 224 (by omega), xM (60 + 9) (by omega), xM (60 + 10) (by omega), xM (60 + 11) (by omega), xM (60 + 12) (by omega), xM (60 + 13) (by omega), xM 60 (by omega), pc 220 (by decide), pc 221 (by decide), pc 222 (by decide), pc 223 (by decide), pc 224 (by decide)]
        exact dP k k0 k1
      · rw [xV 225 (by omega), xM (60 + 19) (by omega), pc 225 (by decide)]
        exact dS k k0 k1
      · rw [xM 60 (by omega), xM (60 + 7) (by omega), dpl]
        refine zsum_eq fun b hb => ?_
        have b5 := (dB b (by omega) (by omega)).2.2.2.2
        have sb := zsum_p01 (p := fun b => M' 66 b = 3) (n := ((b : Int)).toNat)
        show _ = if M' 67 b < 0 then 0 else 1
        rw [b5]
        by_cases u : M' 66 b = 3
        · rw [if_pos u, if_pos u, if_pos (by decide)]
        · rw [if_neg u, if_neg u, if_neg (by omega)]
      · rw [xM 60 (by omega)]; exact z4.1
      · rw [xM 60 (by omega)]
        have p4 : (2 : Int) ^ (M' 60 13).toNat ≤ 2 ^ 4 := by
          have := Nat.pow_le_pow_right (n := 2) (by decide) (show (M' 60 13).toNat ≤ 4 by omega)
          exact_mod_cast this
        have e4 : (2 : Int) ^ 4 = 16 := by decide
        have := z4.2
        omega
      · rw [xM 60 (by omega)] at hk ⊢
        rw [xM (60 + 18) (by omega), xM (60 + 16) (by omega), xV 227 (by omega), xV 228 (by omega), xV 229 (by omega), pc 227 (by decide), pc 228 (by decide), pc 229 (by decide)]
        obtain ⟨y1, y2, y3⟩ := z5 k hk
        refine ⟨⟨y1.1, y1.2.1, by show M' 78 k ≤ 1000; omega⟩, ⟨y2.1, y2.2.1, by show V1 228 (4 * 1 + k) ≤ 1000 * 1 + 1000; have := y2.2.2; have : V1 228 (4 * 1 + (k : Int)) = V1 228 (4 + k) := rfl; omega⟩, y3⟩
    have su : zSu 40 0 Wf := by
      have w40 : ∀ q : Int, Wf 40 q = N1 40 q := fun q => by rw [lowc 40 (by omega), n2c 40 (by decide) (by decide) (by decide) (by decide) (by decide) (by decide)]
      refine zSu_cp zS ⟨?_, ?_, ?_, ?_, ?_⟩ (fun i k i0 i1 i2 i3 i4 i5 k0 k1 => ?_) (fun c c0 c1 => ?_) (fun c k c0 c1 k0 k1 => ?_) (fun c k c0 c1 k0 k1 => ?_) (fun k k0 k1 => ?_) (fun c k c0 c1 k0 k1 k2 => ?_) (fun k k0 k1 => ?_)
      · rw [w40, k2.1, xM 60 (by omega), zup_ne (by decide)]
      · rw [w40, k2.2.1, xM 60 (by omega), zup_ne (by decide)]
      · rw [w40, k2.2.2.1, xM 60 (by omega), zup_ne (by decide)]
      · rw [w40, k2.2.2.2.1, xM 60 (by omega), zup_ne (by decide)]
      · rw [w40, k2.2.2.2.2, xM 60 (by omega), zup_ne (by decide)]
      · rw [lowc (40 + i) (by omega), n2c (40 + i) (by omega) (by omega) (by omega) (by omega) (by omega) (by omega), k3 i k i0 i1 i2 i3 i4 i5 k0 k1, xM (60 + i) (by omega), zup_ne (by omega)]
      · rw [wfU c (by omega), l1 c c0 c1, xV c (by omega)]
      · rw [wfU c (by omega), l2 c k c0 c1 k0 k1, xV c (by omega)]
      · rw [wfU c (by omega), l3 c k c0 c1 k0 k1, xV c (by omega)]
      · rw [wfU 225 (by omega), l4 k k0 k1, xV 225 (by omega)]
      · rw [xM 60 (by omega)] at k2
        rw [wfU c (by omega), l5 c k c0 c1 k0 k1, xV c (by omega)]
        have y := (z5 k.toNat (by omega)).2.1
        rw [show ((k.toNat : Nat) : Int) = k by omega] at y
        have : c = 227 ∨ c = 228 := by omega
        rcases this with rfl | rfl
        · rw [pc 227 (by decide), show (4 * 1 + k : Int) = 4 + k by omega]
          exact zw_i (by omega) (by omega)
        · rw [pc 228 (by decide), show (4 * 1 + k : Int) = 4 + k by omega]
          exact zw_i (by omega) (by omega)
      · rw [wfU 229 (by omega), l6 k k0 k1, xV 229 (by omega)]
    have w1 : Wf 200 1 = 0 := by rw [← hWf, zup_nk (by decide), l0 200 1 (nr0 200 1 (by omega)), p1 200 1 (by omega), fvZ 200 1 rfl, r3]
    have w43 : Wf 200 43 = 0 := by rw [← hWf, zup_eq]
    have w80 : Wf 80 0 = 0 := by rw [lowc 80 (by omega)]; exact n80
    have w201 : Wf 20 1 = 0 := by rw [lowc 20 (by omega), n2c 20 (by decide) (by decide) (by decide) (by decide) (by decide) (by decide), k1 20 (by omega), zup_eq]
    refine ⟨Wf, zAg.refl _, ⟨su, ⟨⟨by rw [w43, w80], by omega, by omega⟩, fun k k0 k1 => by omega, fun k k0 k1 => by omega⟩, ?_, ⟨⟨by rw [w1, w201], by omega, by omega⟩, fun k k0 k1 => by omega⟩, ?_⟩, ?_, fun q => ⟨by rw [lowc 6 (by omega), n2M 6 (by omega), hA 6 q rfl]; exact (hPk q).1, by rw [lowc 7 (by omega), n2M 7 (by omega), hA 7 q rfl]; exact (hPk q).2⟩⟩
    · refine zMk_fr h.2.2.1 ⟨?_, ?_, ?_, ?_⟩ (fun c c0 c1 => ?_) (fun j c k j2 hr => ?_) (fun c k c0 c1 k0 => ?_)
      · rw [lowc 6 (by omega), n2M 6 (by omega)]; exact hA.fl 6 rfl
      · rw [lowc 7 (by omega), n2M 7 (by omega)]; exact hA.fl 7 rfl
      · funext k; exact stc 262 k rfl (by decide) (by decide) (nr0 262 k (by omega))
      · funext k; exact stc 263 k rfl (by decide) (by decide) (nr0 263 k (by omega))
      · rw [lowc c (by omega), n2M c (by omega)]; exact zAg_c4 hA c0
      · have hl := zrow_lt hr
        refine stc c k (zrow_st (Or.inr j2) hr).1 (by omega) (by omega) (fun q => ?_)
        unfold zrow at hr q
        omega
      · have hs : zSc c k = true := by
          have : c = 245 ∨ c = 246 ∨ c = 247 ∨ c = 248 ∨ c = 249 := by omega
          rcases this with rfl | rfl | rfl | rfl | rfl <;> rfl
        exact stc c k hs (by omega) (by omega) (nr0 c k (by omega))
    · refine zSt0_fr h.2.2.2.2 (fun c c0 c1 => ?_)
      rw [lowc c (by omega), n2M c (by omega)]; exact zAg_c4 hA (by omega)
    · have q90 : Wf 90 5 = 0 := by rw [lowc 90 (by omega)]; exact n90.1
      have q110 : Wf 110 7 = 0 := by rw [lowc 110 (by omega)]; exact n90.2.1
      have q130 : Wf 130 10 = 0 := by rw [lowc 130 (by omega)]; exact n90.2.2.1
      have q170 : Wf 170 7 = 0 := by rw [lowc 170 (by omega)]; exact n90.2.2.2.1
      have q150 : Wf 150 13 = 0 := by rw [lowc 150 (by omega)]; exact n90.2.2.2.2
      exact ⟨fun q => absurd q90 q, fun q => absurd q110 q, fun q => absurd q130 q, fun q => absurd q150 q, fun q => absurd q170 q⟩
  · -- a FAULT
    have fM : ∀ c : Nat, c < 20 ∨ c = 21 ∨ (40 ≤ c ∧ c < 60) ∨ 80 ≤ c → Mf c = M c := fun c hc => by rw [c3.2.2.2.1 c (by omega), a6 c (by omega) (by omega) (by omega) (by omega) (by omega) (by omega)]
    obtain ⟨g1, g2, g3, g4, -⟩ := c3
    have j67 : fX6_read_j62 Mf = some (Mf 30 5 + 16 * (Mf 23 (Mf 30 3) % 1024), Mf) := by
      unfold fX6_read_j62 fX6_placeSeen fX8_placeAt
      rw [if_neg (by omega), if_neg (by omega), if_neg (by omega), zgd_t ⟨g2.1, by omega⟩, zgd_t (by decide), zrem_n ⟨by omega, by omega⟩ ⟨by decide, by decide⟩ g3.2.1.1 (by decide), zbd_s, zbd_s, zw_i (by omega) (by omega)]
    rw [c1, zbd_s]
    dsimp only
    rw [j67, zbd2_s]
    dsimp only
    rw [if_neg (show ¬ Mf 30 5 + 16 * (Mf 23 (Mf 30 3) % 1024) = 0 by omega)]
    show zSat (fX12_spindle (zup Mf 20 1 0)) (fun e' => e'.1 = Mf 30 5 + 16 * (Mf 23 (Mf 30 3) % 1024) ∧ Inv Pk e'.2)
    unfold fX12_spindle
    have b2 : ∀ c : Nat, c ≠ 20 → c ≠ 200 → zup (zup Mf 20 1 0) 200 0 0 c = Mf c := fun c d1 d2 => by rw [zup_c d2, zup_c d1]
    obtain ⟨W, r1, L, r2, r3, r4⟩ := run (zup (zup Mf 20 1 0) 200 0 0) (by rw [zup_nk (by decide), zup_ne (by decide), fM 200 (by omega)]) (by rw [b2 203 (by decide) (by decide), fM 203 (by omega)])
    rcases s_lines hS _ 0 Mc W rfl L a3.2.2 (Int.le_refl _) (by omega) with ⟨x2, M2, V1, d1, d2, d3, d4⟩ | ⟨x2, Mg, Vf, d1, d2, d3⟩
    · rw [c1] at d1
      have q : (0 : Int) = 1 := congrArg (fun x : Int × Int × zMem => x.1) (Option.some.inj d1)
      exact absurd q (by decide)
    rw [c1] at d1
    have eM : Mf = Mg := congrArg (fun x : Int × Int × zMem => x.2.2) (Option.some.inj d1)
    subst eM
    obtain ⟨-, -, v3, -, v5, v6⟩ := d3
    rw [r1, d2, zbd_s]
    show zSat (zbd2 (some (0, Vf)) _) _
    rw [zbd2_s]
    dsimp only
    rw [if_pos rfl]
    refine ⟨v3.1, zup (zup σ 20 1 0) 200 1 0, fun c k hs => ?_, ⟨?_, ?_, ?_, ⟨⟨?_, ?_, ?_⟩, fun k k0 k1 => ?_⟩, ?_⟩, ?_, fun q => ⟨by rw [zup_ne (by decide), zup_ne (by decide)]; exact (hPk q).1, by rw [zup_ne (by decide), zup_ne (by decide)]; exact (hPk q).2⟩⟩
    · show Vf c k = _
      rw [v6 c k hs]
      by_cases u : c = 200 ∧ k = 1
      · rw [u.1, u.2, r3, zup_eq]
      · rw [r4 c k hs u]
        have k0 : ¬ (c = 200 ∧ k = 0) := fun q => by
          rw [q.1, q.2] at hs; cases hs
        have e1 : zup (zup Mf 20 1 0) 200 0 0 c k = zup Mf 20 1 0 c k := by unfold zup; rw [if_neg k0]
        have e2 : zup (zup σ 20 1 0) 200 1 0 c k = zup σ 20 1 0 c k := by
          show (if c = 200 ∧ k = 1 then 0 else zup σ 20 1 0 c k) = _
          rw [if_neg u]
        rw [e1, e2]
        by_cases w : c = 20 ∧ k = 1
        · rw [w.1, w.2, zup_eq, zup_eq]
        · have cl := zSc_cl hs
          have e3 : zup Mf 20 1 0 c k = Mf c k := by unfold zup; rw [if_neg w]
          have e4 : zup σ 20 1 0 c k = σ c k := by unfold zup; rw [if_neg w]
          rw [e3, e4, fM c (by omega)]
          exact hA c k hs
    · exact zSu_fr h.1 (fun c c0 c1 => by rw [zup_c (by omega), zup_c (by omega)]) (fun c k hr => by
        have := zrow_lt hr
        rw [zup_ne (by omega), zup_ne (by omega)])
    · rw [zup_nk (show (43 : Int) ≠ 1 by decide), zup_ne (show (200 : Nat) ≠ 20 by decide)]
      exact zPi_fr h.2.1 (fun c c0 c1 => by rw [zup_c (by omega), zup_c (by omega)]) (fun c c0 c1 => by rw [zup_c (by omega), zup_c (by omega)]) (fun c k c0 c1 _ _ => by rw [zup_ne (by omega), zup_ne (by omega)])
    · exact zMk_fr h.2.2.1 ⟨by rw [zup_c (by decide), zup_c (by decide)], by rw [zup_c (by decide), zup_c (by decide)], by rw [zup_c (by decide), zup_c (by decide)], by rw [zup_c (by decide), zup_c (by decide)]⟩ (fun c c0 c1 => by rw [zup_c (by omega), zup_c (by omega)]) (fun j c k _ hr => by
        have := zrow_lt hr
        rw [zup_ne (by omega), zup_ne (by omega)]) (fun c k c0 c1 _ => by rw [zup_ne (by omega), zup_ne (by omega)])
    · rw [zup_eq, zup_ne (show (20 : Nat) ≠ 200 by decide), zup_eq]
    · rw [zup_ne (show (20 : Nat) ≠ 200 by decide), zup_eq]; decide
    · rw [zup_ne (show (20 : Nat) ≠ 200 by decide), zup_eq]; decide
    · rw [zup_ne (show (20 : Nat) ≠ 200 by decide), zup_eq] at k1
      omega
    · exact zSt0_fr h.2.2.2.2 (fun c c0 c1 => by rw [zup_c (by omega), zup_c (by omega)])
    · refine Cs.sig (hC.fr (fun c c0 c1 => ?_)) (fun c hc => by rw [zup_c (by omega), zup_c (by omega)])
      show Vf c = M c
      rw [v5 c (by omega), r2 c (by omega), b2 c (by omega) (by omega), fM c (by omega)]
end RD3
