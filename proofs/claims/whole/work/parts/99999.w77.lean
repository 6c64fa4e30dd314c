/-! PURE PART, 77: the line of a law -/
section SP6
variable {M V M' V' M0 V0 : zMem} {T : Int → Int} {n : Int} {D d fu L : Nat}
theorem zSc_4 {c : Nat} {k : Int} (hc : 227 ≤ c ∧ c < 229) (h0 : 4 ≤ k) (h1 : k < 8) : zSc c k = false := by
  have : c = 227 ∨ c = 228 := by omega
  rcases this with rfl | rfl <;> (simp only [zSc, zfull, zprt, decide_eq_true h0, decide_eq_true h1]; rfl)
theorem zrp_ns {F F' : Int → Int} (h : ∀ i : Int, i ≠ 1 → F i = F' i) : ∀ (l : List Int) (st : List Int), -125 ∉ l → zrp F l st = zrp F' l st
  | [], _, _ => rfl
  | c :: l, st, hn => by
    have hc : c ≠ -125 := fun e => hn (by rw [e]; exact List.mem_cons_self)
    have hl : -125 ∉ l := fun e => hn (List.mem_cons_of_mem _ e)
    have e : zr1 F c st = zr1 F' c st := by
      have o : zro F c = zro F' c := by
        unfold zro
        rw [if_neg hc, if_neg hc, h 5 (by decide), h 2 (by decide), h 3 (by decide), h 4 (by decide)]
      unfold zr1
      rw [o]
    show zbd (zr1 F c st) (zrp F l) = zbd (zr1 F' c st) (zrp F' l)
    rw [e]
    cases zr1 F' c st with
    | none => rfl
    | some s => exact zrp_ns h l s hl
theorem xbit {a k : Nat} (ha : a < 2147483648) (hk : k < 32) : (a : Int) / 2 ^ k % 2 = if a.testBit k then 1 else 0 := by
  rw [← zbit_i (a := (a : Int)) ⟨by omega, by omega⟩ hk, zbit_n ha hk]
theorem s_xs {lc lm : List Int} {v : (Int → Int) → Int} {h : Nat} (hh : h ≤ 32) (h1 : xVal h lc v) (h2 : xMc 0 0 lm v) {sw : Int} (h3 : sw = 0 → -125 ∉ lc) : zXs lc lm sw := by
  refine ⟨v, fun F => h1 F [] (by simpa using hh), fun X hX => ?_, fun hs F F' hF => ?_⟩
  · have e2 : zmo 0 X 242 = X 242 := by unfold zmo; rw [zup_c (by decide), zup_c (by decide), zup_c (by decide), zup_c (by decide), zup_c (by decide)]
    have pre : xPre 0 0 (zmo 0 X) := by
      unfold zmo
      refine ⟨Or.inl rfl, fun _ => zup_eq, fun _ => ⟨?_, ?_⟩, fun _ => ?_, fun _ => ?_⟩
      · exact (zup_ne (by decide)).trans ((zup_ne (by decide)).trans zup_eq)
      · exact (zup_ne (by decide)).trans zup_eq
      · exact (zup_ne (by decide)).trans ((zup_ne (by decide)).trans ((zup_ne (by decide)).trans zup_eq))
      · exact (zup_ne (by decide)).trans ((zup_ne (by decide)).trans ((zup_ne (by decide)).trans ((zup_ne (by decide)).trans zup_eq)))
    obtain ⟨X', e, r, -⟩ := h2 (zmo 0 X) (by rw [e2]; exact hX) pre
    rw [e2] at r
    exact ⟨X', e, (zmt_233 (D := 0) (X := X')).trans r⟩
  · have a := h1 F [] (by simpa using hh)
    have b := h1 F' [] (by simpa using hh)
    rw [zrp_ns hF lc [] (h3 hs), b] at a
    exact ((List.cons.inj (Option.some.inj a)).1).symm
set_option maxHeartbeats 1000000 in
theorem s_speak (h : xL T n M0 V0 M V) (hc : (M 23 (M 30 3) / 1024) = 109) (hb : M 60 13 < 4) : xS (xL1 T n M0 V0 M) (xFt M0 V0) (fX6_speakLine M) (fX12_readsSpeak V) := by
  obtain ⟨hK, hN, hD, z1, z2, z3, z4, z5⟩ := h
  have ab := hK.1.2.2.1
  have bb := hK.1.1.2.2
  obtain ⟨sp, hsp⟩ : ∃ sp : Nat, M 60 13 = sp := ⟨(M 60 13).toNat, by omega⟩
  have g1 : xGo M (zup M 30 3 (M 30 3 + 1)) 1 60 0 (M 60 0) := ⟨fun d d1 d2 => zup_c d1, fun q hq => zup_nk hq, zup_eq, fun q hq => zup_ne (by decide), zup_ne (by decide)⟩
  obtain ⟨V1, n1, fV1, k1⟩ := s_go hK (by omega) (by omega) (o := 60) (by omega) g1 rfl (fun _ _ _ => rfl) hK.2.2
  have hlt := (s_next hK (by omega) (by omega)).1
  have v213 : V1 213 1 = sp := by rw [fV1.1 213 (by decide), z1.1, hsp]
  have v29 : V1 200 29 = V 200 29 := fV1.2 29 (by omega)
  unfold fX6_speakLine fX12_readsSpeak fX12_reads
  rw [zw_i (x := M 30 3 + 1) (by omega) (by omega), zgd_t (show (0 : Int) ≤ 1 ∧ (1 : Int) < 6 by decide), z1.1, hsp, if_neg (show ¬ (sp : Int) = 4 by omega), n1, zbd_s, zgd_t (show (0 : Int) ≤ 1 ∧ (1 : Int) < 6 by decide), v213, zgd_t ⟨by omega, by omega⟩, zgd_t (show (0 : Int) ≤ 0 ∧ (0 : Int) < 7 by decide)]
  have m1c : ∀ c : Nat, c ≠ 30 → zup M 30 3 (M 30 3 + 1) c = M c := fun c hc => zup_c hc
  have m1q : ∀ q : Int, q ≠ 3 → zup M 30 3 (M 30 3 + 1) 30 q = M 30 q := fun q hq => zup_nk hq
  have m13 : zup M 30 3 (M 30 3 + 1) 30 3 = M 30 3 + 1 := zup_eq
  clear g1 n1
  generalize zup M 30 3 (M 30 3 + 1) = M1 at *
  generalize hX : zup (zup V1 227 (4 + (sp : Int)) (V1 200 29)) 232 0 0 = X
  have xc : ∀ c : Nat, c ≠ 227 → c ≠ 232 → X c = V1 c := fun c c1 c2 => by rw [← hX, zup_c c2, zup_c c1]
  have x227 : ∀ q : Int, X 227 q = if q = 4 + (sp : Int) then V 200 29 else V 227 q := fun q => by
    rw [← hX, zup_ne (by decide)]
    by_cases u : q = 4 + (sp : Int)
    · rw [if_pos u, u, zup_eq, v29]
    · rw [if_neg u, zup_nk u, fV1.1 227 (by decide)]
  have kX : xK T n M0 V0 M1 X := xK_v k1 (xc 203 (by decide) (by decide)) (fun q _ _ => by rw [xc 200 (by decide) (by decide)]) (by rw [← hX]; exact (k1.2.2.up (by omega) (zSc_4 (by omega) (by omega) (by omega))).up (by omega) rfl)
  have p2 : (2 : Int) ^ sp = ((2 ^ sp : Nat) : Int) := (Int.natCast_pow 2 sp).symm
  have p16 : 2 ^ sp ≤ 2 ^ 3 := Nat.pow_le_pow_right (by omega) (by omega)
  have w14 : 0 ≤ M 60 14 ∧ M 60 14 < 2 ^ sp := by
    have := z4
    rw [hsp, show ((sp : Int)).toNat = sp by omega] at this; exact this
  have pX : xP T n M0 V0 M1 X := ⟨kX, by rw [m1c 60 (by decide), m13]; omega, by rw [xc 200 (by decide) (by decide), v29, m13]; omega, by rw [m1c 60 (by decide), hsp]; omega, by rw [m1c 60 (by decide)]; rw [p2] at w14; omega⟩
  have go := s_law M1 X pX (Or.inl rfl) (fun _ => by rw [← hX]; exact zup_eq)
  rcases go with ⟨Mf, Vf, a1, a2, a3⟩ | ⟨M2, V2, lc, lm, v, a1, a2, a3, a4, a5, a6, a7, a8, -, -, -, b3⟩
  · have a1 : fX6_chain 80 0 0 M1 = some (0, Mf) := a1
    have zz : zit (fun s136 : Int × Int × zMem => fX12_reads_l11 (s136.1) (s136.2.1) (s136.2.2)) (0, 1, X) = some (.inr (0, Vf)) := a2
    rw [a1, zbd2_s, zz]
    exact ⟨Mf, Vf, Or.inr ⟨rfl, rfl, a3⟩⟩
  have a1 : fX6_chain 80 0 0 M1 = some (1, M2) := a1
  have st := m_stop (D := 0) a4 (by omega) b3
  rw [if_neg (fun q => by omega)] at st
  unfold fX12_reads_j399 fX12_reads_j418 at st
  rw [if_pos (show ((0 : Nat) : Int) = 0 from rfl), m_isSign a4.1.1 (s := 59) (by decide), zbd_s] at st
  rw [a1, zbd2_s]
  dsimp only
  rw [if_neg (show ¬ (1 : Int) = 0 by decide), e_take a4.1.1]
  by_cases c5 : (M2 23 (M2 30 3) / 1024) = 59
  · have g2 : xGo M2 (zup M2 30 3 (M2 30 3 + 1)) 1 60 0 (M2 60 0) := ⟨fun d d1 d2 => zup_c d1, fun q hq => zup_nk hq, zup_eq, fun q hq => zup_ne (by decide), zup_ne (by decide)⟩
    obtain ⟨W, n2, fW, k2⟩ := s_go a4.1 (by omega) (by omega) (o := 60) (by omega) g2 rfl (fun _ _ _ => rfl) a4.1.2.2
    rw [if_pos c5, if_neg (show ¬ (1 : Int) = 0 by decide), n2, zbd_s] at st
    have zz : zit (fun s136 : Int × Int × zMem => fX12_reads_l11 (s136.1) (s136.2.1) (s136.2.2)) (0, 1, X) = some (.inr (1, W)) := a2.trans (zit_r st)
    obtain ⟨⟨e1, e2, e3, e4, e5, e6⟩, e7, e8, f1, f2, f3, f4, f5⟩ := a3
    rw [m1c 60 (by decide)] at e4 e5 e6 e7
    rw [xc 200 (by decide) (by decide), v29] at f3 f4 f5
    have m213 : zup M2 30 3 (M2 30 3 + 1) 60 13 = sp := by rw [zup_ne (by decide), e3 13 (by decide) (by decide), m1c 60 (by decide), hsp]
    have m216 : zup M2 30 3 (M2 30 3 + 1) 60 16 = M2 60 16 := zup_ne (by decide)
    have w213 : W 213 1 = sp := by rw [fW.1 213 (by decide), f1 213 (by decide) (by decide) (by decide) (by decide), xc 213 (by decide) (by decide), v213]
    have w29 : W 200 29 = V2 200 29 := fW.2 29 (by omega)
    rw [if_pos c5, zbd2_s, zz, zbd_s]
    dsimp only [zel]
    unfold fX7_endSpeak
    rw [if_neg (show ¬ (1 : Int) = 0 by decide), m213, m216, if_neg (show ¬ (4 : Int) ≤ sp by omega), zgd_t ⟨by omega, by omega⟩, zup_ne (show (60 : Nat) ≠ 60 + 18 by decide), m213, zw_i (x := (sp : Int) + 1) (by omega) (by omega), zbd_s, zbd2_s]
    dsimp only
    rw [if_neg (show ¬ (1 : Int) = 0 by decide), zgd_t (show (0 : Int) ≤ 1 ∧ (1 : Int) < 6 by decide), zgd_t (show (0 : Int) ≤ 4 + W 213 1 ∧ 4 + W 213 1 < 24 by omega), zgd_t (show (0 : Int) ≤ 1 ∧ (1 : Int) < 6 by decide), zgd_t (show (0 : Int) ≤ 1 ∧ (1 : Int) < 6 by decide), zup_ne (show (213 : Nat) ≠ 228 by decide), w213, zw_i (x := (sp : Int) + 1) (by omega) (by omega), w29]
    generalize hR : zup (zup (zup M2 30 3 (M2 30 3 + 1)) (60 + 18) (sp : Int) (M2 60 16)) 60 13 ((sp : Int) + 1) = R
    generalize hU : zup (zup W 228 (4 + (sp : Int)) (V2 200 29)) 213 1 ((sp : Int) + 1) = U
    have r13 : R 60 13 = ((sp + 1 : Nat) : Int) := by rw [← hR, zup_eq]; rfl
    have r60' : ∀ q : Int, q ≠ 13 → R 60 q = M2 60 q := fun q hq => by rw [← hR, zup_nk hq, zup_ne (by decide), zup_ne (by decide)]
    have r60 : ∀ q : Int, q ≠ 13 → q ≠ 14 → q ≠ 16 → R 60 q = M 60 q := fun q q1 q2 q3 => by rw [r60' q q1, e3 q q2 q3, m1c 60 (by decide)]
    have rc' : ∀ c : Nat, c ≠ 30 → c ≠ 60 → c ≠ 78 → R c = M2 c := fun c c1 c2 c3 => by rw [← hR, zup_c c2, zup_c c3, zup_c c1]
    have rc : ∀ c : Nat, c ≠ 30 → c ≠ 60 → c ≠ 76 → c ≠ 78 → R c = M c := fun c c1 c2 c3 c4 => by rw [rc' c c1 c2 c4, e1 c c1 c2 c3, m1c c c1]
    have r30 : ∀ q : Int, q ≠ 3 → R 30 q = M 30 q := fun q hq => by rw [← hR, zup_ne (by decide), zup_ne (by decide), zup_nk hq, e2 q hq, m1q q hq]
    have r303 : R 30 3 = M2 30 3 + 1 := by rw [← hR, zup_ne (by decide), zup_ne (by decide), zup_eq]
    have r78 : ∀ q : Int, R 78 q = if q = sp then M2 60 16 else M 78 q := fun q => by
      rw [← hR, zup_ne (show (78 : Nat) ≠ 60 by decide)]
      by_cases u : q = sp
      · rw [if_pos u, u]; exact zup_eq
      · rw [if_neg u]
        show zup (zup M2 30 3 (M2 30 3 + 1)) 78 (sp : Int) (M2 60 16) 78 q = _
        rw [zup_nk u, zup_ne (by decide), e1 78 (by decide) (by decide) (by decide), m1c 78 (by decide)]
    have r76 : R 76 = M2 76 := rc' 76 (by decide) (by decide) (by decide)
    have r16 : R 60 16 = M 60 16 + lc.length := by rw [r60' 16 (by decide), e5]
    have u213 : U 213 1 = (sp : Int) + 1 := by rw [← hU, zup_eq]
    have uc' : ∀ c : Nat, c ≠ 200 → c ≠ 213 → c ≠ 228 → U c = V2 c := fun c c1 c2 c3 => by rw [← hU, zup_c c2, zup_c c3, fW.1 c c1]
    have uc : ∀ c : Nat, c ≠ 200 → c ≠ 213 → c ≠ 227 → c ≠ 228 → c ≠ 229 → c ≠ 231 → c ≠ 232 → U c = V c := fun c c1 c2 c3 c4 c5 c6 c7 => by rw [uc' c c1 c2 c4, f1 c c1 c5 c6 c7, xc c c3 c7, fV1.1 c c1]
    have u29 : U 200 29 = V 200 29 + lm.length := by rw [← hU, zup_ne (by decide), zup_ne (by decide), w29, f4]
    have u227 : ∀ q : Int, U 227 q = if q = 4 + (sp : Int) then V 200 29 else V 227 q := fun q => by rw [uc' 227 (by decide) (by decide) (by decide), f1 227 (by decide) (by decide) (by decide) (by decide), x227 q]
    have u228 : ∀ q : Int, U 228 q = if q = 4 + (sp : Int) then V2 200 29 else V 228 q := fun q => by
      rw [← hU, zup_ne (by decide)]
      by_cases u : q = 4 + (sp : Int)
      · rw [if_pos u, u, zup_eq]
      · rw [if_neg u, zup_nk u, fW.1 228 (by decide), f1 228 (by decide) (by decide) (by decide) (by decide), xc 228 (by decide) (by decide), fV1.1 228 (by decide)]
    have u229 : U 229 = V2 229 := uc' 229 (by decide) (by decide) (by decide)
    have kU : xFv V0 U := by rw [← hU]; exact (k2.2.2.up (by omega) (zSc_4 (by omega) (by omega) (by omega))).up (by omega) rfl
    have jR : xJ T n R U := xJ_c k2.1 (by rw [rc' 20 (by decide) (by decide) (by decide), zup_c (by decide)]) (by rw [rc' 21 (by decide) (by decide) (by decide), zup_c (by decide)]) (by rw [rc' 23 (by decide) (by decide) (by decide), zup_c (by decide)]) (by rw [rc' 24 (by decide) (by decide) (by decide), zup_c (by decide)]) (by rw [r303, zup_eq]) (by rw [← hU, zup_c (by decide), zup_c (by decide)]) (fun q q0 q1 => by rw [← hU, zup_ne (by decide), zup_ne (by decide)])
    have cR : xFc M0 R := fun c hc => by rw [rc' c (by omega) (by omega) (by omega)]; exact a4.1.2.1 c hc
    -- the bits of those that name speed
    obtain ⟨a, ha⟩ : ∃ a : Nat, M 60 14 = a := ⟨(M 60 14).toNat, by omega⟩
    have a16 : a < 2 ^ sp := by rw [ha, p2] at w14; omega
    have bits : ∃ b : Nat, R 60 14 = b ∧ b < 2 ^ (sp + 1) ∧ (∀ k : Nat, k < sp → b.testBit k = a.testBit k) ∧ (b.testBit sp = false → -125 ∉ lc) := by
      rw [r60' 14 (by decide), Nat.pow_succ]
      rcases e7 with ⟨q1, q2⟩ | ⟨q1, q2⟩
      · exact ⟨a, by rw [q2, ha], by omega, fun _ _ => rfl, fun _ => q1⟩
      · refine ⟨a ||| 2 ^ sp, by rw [q2, ha, hsp, zshl_1 sp (by omega), zor_n (by omega) (by omega)], ?_, fun k hk => ?_, fun q => ?_⟩
        · have := Nat.or_lt_two_pow (n := sp + 1) (show a < 2 ^ (sp + 1) by rw [Nat.pow_succ]; omega) (show 2 ^ sp < 2 ^ (sp + 1) by rw [Nat.pow_succ]; omega)
          rw [Nat.pow_succ] at this; exact this
        · rw [Nat.testBit_or, Nat.testBit_two_pow, decide_eq_false (by omega), Bool.or_false]
        · rw [Nat.testBit_or, Nat.testBit_two_pow, decide_eq_true rfl, Bool.or_true] at q; cases q
    obtain ⟨b, b14, b2, b4, b5⟩ := bits
    have p32 : 2 ^ (sp + 1) ≤ 2 ^ 4 := Nat.pow_le_pow_right (by omega) (by omega)
    have hz := a4.2.1
    have hz2 := a4.2.2.1
    have hZ : xZ R U := by
      refine ⟨⟨by rw [u213, r13]; rfl, by rw [r13]; omega, by rw [r13]; omega⟩, ⟨by omega, by rw [r303, r60' 16 (by decide)]; omega, ?_⟩, ⟨by rw [u29]; omega, by rw [u29, ← f4, r303]; omega⟩, ⟨by rw [b14]; omega, ?_⟩, fun k hk => ?_⟩
      · rw [r13, show (((sp + 1 : Nat) : Int)).toNat = sp + 1 by omega]
        unfold zca
        rw [if_neg (by omega), r78, if_pos (by omega), r60' 16 (by decide)]
      · rw [r13, b14, show (((sp + 1 : Nat) : Int)).toNat = sp + 1 by omega, show (2 : Int) ^ (sp + 1) = ((2 ^ (sp + 1) : Nat) : Int) from (Int.natCast_pow 2 (sp + 1)).symm]
        omega
      · rw [r13] at hk
        have zc : ∀ k : Nat, k ≤ sp → zca (R 78) k = zca (M 78) k := fun k hk => by
          unfold zca
          by_cases u : k = 0
          · rw [if_pos u, if_pos u]
          · rw [if_neg u, if_neg u, r78, if_neg (by omega)]
        rw [zc k (by omega)]
        by_cases u : k = sp
        · subst u
          have z6 := z2.2.2
          rw [hsp, show ((k : Int)).toNat = k by omega] at z6
          rw [← z6, r78, if_pos rfl, u227, if_pos rfl, u228, if_pos rfl, e5, f4, u29, r16, u229, r76, show (M 60 16 + (lc.length : Int) - M 60 16).toNat = lc.length by omega, show (V 200 29 + (lm.length : Int) - V 200 29).toNat = lm.length by omega, e6, f5]
          refine ⟨⟨by omega, by omega, by omega⟩, ⟨by omega, by omega, by omega⟩, s_xs (h := 5 - 0 + 4 * (5 - 0)) (by decide) a7 a8 fun q => b5 ?_⟩
          rw [b14, xbit (by omega) (by omega)] at q
          cases t : b.testBit k with
          | false => rfl
          | true => rw [t, if_pos rfl] at q; cases q
        · obtain ⟨y1, y2, y3⟩ := z5 k (by omega)
          rw [r78, if_neg (by omega), u227, if_neg (by omega), u228, if_neg (by omega), u29, r16, u229, r76]
          refine ⟨⟨y1.1, y1.2.1, by omega⟩, ⟨y2.1, y2.2.1, by omega⟩, ?_⟩
          have s1 : zseg (M2 76) (zca (M 78) k) (M 78 k - zca (M 78) k).toNat = zseg (M 76) (zca (M 78) k) (M 78 k - zca (M 78) k).toNat := zseg_c fun i hi => by rw [e4 _ (by omega), m1c 76 (by decide)]
          have s2 : zseg (V2 229) (V 227 (4 + k)) (V 228 (4 + k) - V 227 (4 + k)).toNat = zseg (V 229) (V 227 (4 + k)) (V 228 (4 + k) - V 227 (4 + k)).toNat := zseg_c fun i hi => by rw [f3 _ (by omega), xc 229 (by decide) (by decide), fV1.1 229 (by decide)]
          rw [s1, s2, b14, xbit (by omega) (by omega), b4 k (by omega), ← xbit (by omega) (by omega), ← ha]
          exact y3
    refine ⟨R, U, Or.inl ⟨rfl, rfl, ⟨⟨jR, cR, kU⟩, ?_, ⟨?_, fun k k0 k1 => ?_, fun k k0 k1 => ?_, ?_, ?_⟩, hZ⟩, by rw [r303]; omega, r30 5 (by decide)⟩⟩
    · exact xNm_c hN (r60 0 (by decide) (by decide) (by decide)) (rc 32 (by decide) (by decide) (by decide) (by decide)) (by rw [uc 211 (by decide) (by decide) (by decide) (by decide) (by decide) (by decide) (by decide)]) (uc 214 (by decide) (by decide) (by decide) (by decide) (by decide) (by decide) (by decide))
    · rw [uc 212 (by decide) (by decide) (by decide) (by decide) (by decide) (by decide) (by decide), r60 7 (by decide) (by decide) (by decide)]; exact hD.1
    · rw [r60 0 (by decide) (by decide) (by decide)] at k1
      exact xBo_c k0 (hD.2.1 k k0 k1) (fun d d0 d1 q q0 q1 => by rw [rc d (by omega) (by omega) (by omega) (by omega)]) (fun d d0 d1 => by rw [uc d (by omega) (by omega) (by omega) (by omega) (by omega) (by omega) (by omega)])
    · rw [r60 7 (by decide) (by decide) (by decide)] at k1
      exact xPa_c (hD.2.2.1 k k0 k1) (fun d d0 d1 => by rw [rc d (by omega) (by omega) (by omega) (by omega)]) (by rw [r60 0 (by decide) (by decide) (by decide)]; exact Int.le_refl _) (fun d d0 d1 => by rw [uc d (by omega) (by omega) (by omega) (by omega) (by omega) (by omega) (by omega)])
    · exact xTd_c hD.2.2.2.1 (rc 79 (by decide) (by decide) (by decide) (by decide)) (r30 4 (by decide)) (uc 225 (by decide) (by decide) (by decide) (by decide) (by decide) (by decide) (by decide)) (uc 226 (by decide) (by decide) (by decide) (by decide) (by decide) (by decide) (by decide))
    · rw [r60 1 (by decide) (by decide) (by decide), r60 0 (by decide) (by decide) (by decide), rc 66 (by decide) (by decide) (by decide) (by decide)]; exact hD.2.2.2.2
  · obtain ⟨-, f2, f3⟩ := s_fail a4.1 (k := 1) (by decide) (by decide)
    rw [if_neg c5, if_pos rfl, f2] at st
    have zz : zit (fun s136 : Int × Int × zMem => fX12_reads_l11 (s136.1) (s136.2.1) (s136.2.2)) (0, 1, X) = some (.inr (0, zup V2 200 9 (1 + 16 * V2 200 5))) := a2.trans (zit_r st)
    rw [if_neg c5, zbd2_s, zz]
    exact ⟨_, _, Or.inr ⟨rfl, rfl, f3⟩⟩
end SP6
