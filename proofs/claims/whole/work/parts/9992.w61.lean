/-! PURE PART, 61: a node is taken out; all are -/
section GS2
variable {σ M V : zMem} {k x b : Int} {n g q S : Nat} {a a' : Int → Int}
def zEl (σ M : zMem) (n g q : Nat) : Prop := zGn σ M (σ 40 0) ∧ (M 150 10 = g ∧ g < 256) ∧ (M 150 11 = q ∧ q < 256) ∧ yNr σ M n g ∧ yQ M n g q ∧ yD M n g ∧ yV σ M n g q
/-- the scope of node i and where its row begins are told -/
theorem zEl_1 {M1 : zMem} (hE : zEl σ M n g q) {i : Nat} (gi : g.testBit i = false) (mc : ∀ c : Nat, c ≠ 156 → c ≠ 158 → M1 c = M c) (mi : ∀ w : Int, w ≠ i → M1 156 w = M 156 w ∧ M1 158 w = M 158 w) : zEl σ M1 n g q := by
  obtain ⟨hG, hg, hq, hN, hQ, hD, hV⟩ := hE
  have ne : ∀ w : Nat, w < n → q.testBit w = true → (w : Int) ≠ i := fun w hw hqw e => by
    have : w = i := by omega
    have := (hQ w hw hqw).1
    rw [‹w = i›, gi] at this; cases this
  have rs : ∀ a : Int → Int, yrs M1 n q a = yrs M n q a := fun a => zsum_eq fun w hw => by
    by_cases c : q.testBit ((w : Int)).toNat = true
    · rw [if_pos c, if_pos c]
      unfold ytb
      rw [(mi w (ne w hw c)).1, (mi w (ne w hw c)).2, mc 157 (by decide) (by decide)]
    · rw [if_neg c, if_neg c]
  refine ⟨?_, ?_, ?_, ?_, fun w hw hqw => ?_, ?_, ?_⟩
  · unfold zGn at hG ⊢
    rw [mc 150 (by decide) (by decide), mc 152 (by decide) (by decide), mc 153 (by decide) (by decide)]; exact hG
  · rw [mc 150 (by decide) (by decide)]; exact hg
  · rw [mc 150 (by decide) (by decide)]; exact hq
  · unfold yNr at hN ⊢
    rw [mc 155 (by decide) (by decide)]; exact hN
  · rw [(mi w (ne w hw hqw)).1, (mi w (ne w hw hqw)).2, mc 157 (by decide) (by decide), mc 155 (by decide) (by decide), mc 150 (by decide) (by decide)]
    exact hQ w hw hqw
  · unfold yD ydq at hD ⊢
    rw [mc 155 (by decide) (by decide), mc 150 (by decide) (by decide)]; exact hD
  · unfold yV at hV ⊢
    rw [mc 150 (by decide) (by decide), mc 152 (by decide) (by decide)]
    refine ⟨hV.1, fun a ha => ?_⟩
    rw [rs a]
    exact hV.2 a ha
theorem zNb_lt (h : St σ) {a j : Int} (hb : zNb σ (σ 40 7) a j) : (0 ≤ j ∧ j < znpr σ) ∧ (0 ≤ a ∧ a < znpr σ) ∧ j ≠ a ∧ zNb σ (σ 40 7) j a := by
  obtain ⟨k, ⟨k0, k1⟩, g⟩ := hb
  have pa := r_pA h k0 k1
  have pb := r_pB h k0 k1
  have pp := zpr_A h k0 k1
  have la := zgn_l pa.1 pp.1 pa.2
  have lb := zgn_l pb.1 pp.2 pb.2.1
  have a0 := zgn_0 (σ := σ) (a := σ 49 k)
  have b0 := zgn_0 (σ := σ) (a := σ 51 k)
  rw [zgn_N] at la lb
  have ne : zgn σ (σ 49 k) ≠ zgn σ (σ 51 k) := fun e => pb.2.2 (zgn_inj pa.1 pb.1 pp.1 pp.2 e).symm
  rcases g with ⟨g1, g2⟩ | ⟨g1, g2⟩
  · exact ⟨by omega, by omega, by omega, k, ⟨k0, k1⟩, Or.inr ⟨g2, g1⟩⟩
  · exact ⟨by omega, by omega, by omega, k, ⟨k0, k1⟩, Or.inl ⟨g2, g1⟩⟩
theorem e_takeOut (h : St σ) (hA : zAx σ M) (h8 : znpr σ ≤ 8) (hn : (n : Int) = znpr σ) (hE : zEl σ M n g q) {i : Nat} (i1 : i < n) (gi : g.testBit i = false) (hl : ∀ a : Nat, a < n → g.testBit a = false → zbsu (M 155 i).toNat 8 ≤ zbsu (M 155 a).toNat 8) : zSat (fX1_takeOut i M) (fun V => (zFr 150 161 M V ∧ V 150 13 = M 150 13 ∧ V 153 = M 153) ∧ ∃ q' : Nat, zEl σ V n (g ||| 2 ^ i) q') := by
  have n8 : n ≤ 8 := by omega
  have p256 := zp256 n8
  have bi := hE.2.2.2.1.1 i i1
  have S3 := yD_3 n8 hE.2.2.2.1 i1 gi hE.2.2.2.2.2.1 hl
  have yu := yD_u n8 hE.2.2.2.1 i1 gi hE.2.2.2.2.2.1 hl
  have u0 := hE.2.2.2.2.2.1.2.1
  obtain ⟨S, hS⟩ : ∃ S : Nat, M 155 i = S := ⟨(M 155 i).toNat, by omega⟩
  have eS : (M 155 i).toNat = S := by omega
  have S2 : S < 2 ^ n := by rw [← eS]; exact zS2 bi.1 bi.2
  rw [eS] at S3 yu
  have y7S := y7_e S2 n8 S3
  have yp := yP_0 (r := yr n g - 1)
  have zc := zsc_8 S2 n8
  unfold fX1_takeOut
  rw [if_neg (by omega), zgd_t ⟨by omega, by omega⟩, hS, e_bc (by omega), zbd_s, if_pos S3, zgd_t ⟨by omega, by omega⟩, zgd_t ⟨by omega, by omega⟩, zgd_t ⟨by omega, by omega⟩, zgd_t ⟨by omega, by omega⟩, zup_ne (show (150 : Nat) ≠ 156 by decide), zup_ne (show (156 : Nat) ≠ 158 by decide), zup_eq, e_waysOf (by omega), zbd_s, show (zbsu S 8).toNat = zsc S n n by omega, zS_bd]
  generalize hM1 : zup (zup M 156 i (S : Int)) 158 i (M 150 8) = M1
  have m1c : ∀ c : Nat, c ≠ 156 → c ≠ 158 → M1 c = M c := fun c hc hd => by rw [← hM1, zup_c hd, zup_c hc]
  have m1i : M1 156 i = S := by rw [← hM1, zup_ne (by decide), zup_eq]
  have us : M1 158 i = M1 150 8 := by rw [m1c 150 (by decide) (by decide), ← hM1, zup_eq]
  have hA1 : zAx σ M1 := by rw [← hM1]; exact (hA.up (Or.inl rfl)).up (Or.inl rfl)
  have E1 : zEl σ M1 n g q := zEl_1 hE gi m1c fun w hw => by
    rw [← hM1, zup_ne (show (156 : Nat) ≠ 158 by decide), zup_nk hw, zup_nk hw, zup_ne (show (158 : Nat) ≠ 156 by decide)]
    exact ⟨rfl, rfl⟩
  have hl1 : ∀ a : Nat, a < n → g.testBit a = false → zbsu (M1 155 i).toNat 8 ≤ zbsu (M1 155 a).toNat 8 := by
    rw [m1c 155 (by decide) (by decide)]; exact hl
  rw [← m1c 150 (by decide) (by decide)] at yu u0
  obtain ⟨hG, ⟨hg, g8⟩, ⟨hq, q8⟩, hN, hQ, hD, hV⟩ := E1
  have m155 : M1 155 i = S := by rw [m1c 155 (by decide) (by decide)]; exact hS
  have e155 : (M1 155 i).toNat = S := by omega
  obtain ⟨s1, s2, s3⟩ := hN.2 i i1 gi
  rw [e155] at s1 s2 s3
  have iq : q.testBit i = false := by
    cases t : q.testBit i with
    | false => rfl
    | true => have := (hQ i i1 t).1; rw [gi] at this; cases this
  refine zs_m (e_rows h hA1 h8 hG hn i1 hg g8 hq q8 iq m1i S2 S3 s1 (fun j ne nb gj => s3 j (by have := (zNb_lt h nb).1; omega) ne nb gj) (fun w hw hqw => ?_) u0 (by omega)) ?_
  · obtain ⟨-, w2, w3, -, w5⟩ := hQ w hw hqw
    refine ⟨w2, w3, fun hiw j hj hb ne => ?_⟩
    have := (w5 i i1 hiw).2 j hj hb ne
    rwa [e155] at this
  rintro ⟨y, V1⟩ ⟨r1, r0, r8, r2, r3⟩
  dsimp only at r1 r0 r8 r2 r3 ⊢
  rw [← us] at r2 r3
  unfold fX1_takeOut_j117
  rw [zS_bd]
  have p0 : (0 : Int) < 7 ^ zsc S n n := Int.pow_pos (by decide)
  refine zs_m (e_leave (n := n) (i := i) (g := g) (q := q) (by rw [r0 3 (by decide), hG.1, zgn_N, hn]) n8 i1 (by rw [r0 10 (by decide)]; exact hg) g8 (by rw [r0 11 (by decide)]; exact hq) q8 (fun a ha => ?_) (by rw [r1 155 (by decide) (by decide) (by decide), e155]; exact s1) (fun w hw hqw => ?_)) ?_
  · rw [r1 155 (by decide) (by decide) (by decide)]
    have := hN.1 a ha
    have t := zS2 this.1 this.2
    omega
  · rw [r1 156 (by decide) (by decide) (by decide)]
    have := (hQ w hw hqw).2.1
    have t := zS2 this.1 this.2.1
    omega
  rintro V2 ⟨l1, l2, l3, ⟨q', q'8, l4, l5⟩, l6⟩
  have v2i : V2 156 i = S := by rw [l1 156 (by decide) (by decide), r1 156 (by decide) (by decide) (by decide)]; exact m1i
  have v2s : V2 158 i = M1 158 i := by rw [l1 158 (by decide) (by decide), r1 158 (by decide) (by decide) (by decide)]
  have T0 := (r3 0 (Int.le_refl _) p0).1
  rw [Int.add_zero] at T0
  have v210 : V2 150 12 = M1 150 12 := by rw [l2 12 (by decide) (by decide), r0 12 (by decide)]
  have v2157 : V2 157 = V1 157 := l1 157 (by decide) (by decide)
  have fin : ∀ V3 : zMem, (∀ c : Nat, c ≠ 150 → V3 c = V2 c) → (∀ y : Int, y ≠ 12 → V3 150 y = V2 150 y) → V3 150 12 = (if S = 0 then min 1000000000000000 (M1 150 12 + V3 157 (M1 158 i)) else M1 150 12) → (zFr 150 161 M V3 ∧ V3 150 13 = M 150 13 ∧ V3 153 = M 153) ∧ ∃ q' : Nat, zEl σ V3 n (g ||| 2 ^ i) q' := by
    intro V3 c1 c2 c3
    have v3c : ∀ c : Nat, c ≠ 150 → c ≠ 155 → c ≠ 157 → c ≠ 160 → V3 c = M1 c := fun c d1 d2 d3 d4 => by rw [c1 c d1, l1 c d1 d2, r1 c d1 d3 d4]
    have v37 : V3 157 = V1 157 := by rw [c1 157 (by decide), v2157]
    have hL : ∀ a : Nat, a < n → zLv M1 V3 i a := fun a ha => by
      have := l6 a ha
      unfold zLv at this ⊢
      rw [r1 155 (by decide) (by decide) (by decide)] at this
      rw [c1 155 (by decide)]; exact this
    have hq' : ∀ w : Nat, w < n → (q'.testBit w = true ↔ (q.testBit w = true ∧ (M1 156 w).toNat.testBit i = false) ∨ (w = i ∧ S ≠ 0)) := fun w hw => by
      have := l5 w hw
      rw [r1 156 (by decide) (by decide) (by decide), m1i] at this
      rw [this, show (S : Int) ≠ 0 ↔ S ≠ 0 by omega]
    have v7 : ∀ y : Int, y < M1 158 i → V3 157 y = M1 157 y := fun y hy => by rw [v37]; exact r2 y hy
    have vT : ∀ x : Int, 0 ≤ x → x < 7 ^ zsc S n n → yT σ M1 n g q i S x (V3 157 (M1 158 i + x)) := fun x x0 x1 => by rw [v37]; exact r3 x x0 x1
    have e8 : V3 158 = M1 158 := v3c 158 (by decide) (by decide) (by decide) (by decide)
    have vu : V3 150 8 = M1 150 8 + 7 ^ zsc S n n := by rw [c2 8 (by decide), l2 8 (by decide) (by decide), r8]
    have e6 : V3 156 = M1 156 := v3c 156 (by decide) (by decide) (by decide) (by decide)
    have e2 : V3 152 = M1 152 := v3c 152 (by decide) (by decide) (by decide) (by decide)
    have e3 : V3 153 = M1 153 := v3c 153 (by decide) (by decide) (by decide) (by decide)
    refine ⟨⟨fun c hc => ?_, ?_, ?_⟩, q', ?_, ⟨?_, ?_⟩, ⟨?_, q'8⟩, ?_, ?_, ?_, ?_⟩
    · rw [v3c c (by omega) (by omega) (by omega) (by omega), m1c c (by omega) (by omega)]
    · rw [c2 13 (by decide), l2 13 (by decide) (by decide), r0 13 (by decide), m1c 150 (by decide) (by decide)]
    · rw [e3, m1c 153 (by decide) (by decide)]
    · unfold zGn at hG ⊢
      rw [c2 3 (by decide), l2 3 (by decide) (by decide), r0 3 (by decide), e2, e3]; exact hG
    · rw [c2 10 (by decide), l3]
    · exact (zor1 (S := g) (a := i) g8 (by omega)).2
    · rw [c2 11 (by decide), l4]
    · exact yNr_step hN i1 gi hL
    · exact yQ_step n8 hN hQ i1 gi m1i e155 S2 S3 hL hq' e6 e8 us u0 vu v7 (fun x x0 x1 => (vT x x0 x1).1)
    · exact yD_step n8 hN i1 gi hL hl1 hD (by rw [e155, ← y7S]; exact vu)
    · exact yV_step h h8 hn hG i1 gi hQ m1i hV hq' e2 e6 e8 us v7 vT c3
  rw [zgd_t ⟨by omega, by omega⟩, v2i]
  by_cases c : S = 0
  · rw [if_pos (by omega), zgd_t ⟨by omega, by omega⟩, v2s, zgd_t ⟨by omega, by omega⟩, v210, v2157, zwl_i (by have := hV.1; omega) (by have := hV.1; omega)]
    refine fin _ (fun c hc => zup_c hc) (fun y hy => zup_nk hy) ?_
    rw [zup_eq, if_pos c, zup_c (by decide), v2157]
  · rw [if_neg (by omega)]
    refine fin V2 (fun _ _ => rfl) (fun _ _ => rfl) ?_
    rw [if_neg c, v210]
theorem e_gloop (h : St σ) (hA : zAx σ M) (h8 : znpr σ ≤ 8) (hn : (n : Int) = znpr σ) (hE : zEl σ M n 0 0) : zSat (zit (fun s19 : Int × zMem => fX1_learn_l38 (s19.1) (s19.2)) (0, M)) (fun e => (zFr 150 161 M e.2 ∧ e.2 150 13 = M 150 13 ∧ e.2 153 = M 153) ∧ ∃ g q : Nat, zEl σ e.2 n g q ∧ ∀ a : Nat, a < n → g.testBit a = true) := by
  have n8 : n ≤ 8 := by omega
  have p256 := zp256 n8
  have z0 : zbsu 0 n = 0 := by
    have : zbsu 0 n ≤ 0 * (n : Int) := zsum_le fun q hq => by rw [Nat.zero_testBit]; decide
    have := (zbsu_b (S := 0) (N := n)).1
    omega
  refine zit_i2 (fun y V => fX1_learn_l38 y V) (fun m y V => ∃ i g q : Nat, y = (i : Int) ∧ m = n - i ∧ i ≤ n ∧ zbsu g n = i ∧ (zFr 150 161 M V ∧ V 150 13 = M 150 13 ∧ V 153 = M 153) ∧ zEl σ V n g q) ?_ _ ⟨0, 0, 0, rfl, rfl, by omega, z0, ⟨zFr.refl _ _ _, rfl, rfl⟩, hE⟩
  rintro m y V ⟨i, g, q, rfl, hm, hi, hb, ⟨f1, f2, f3⟩, hV⟩
  show zSat (fX1_learn_l38 i V) _
  unfold fX1_learn_l38
  have n3 : V 150 3 = n := by rw [hV.1.1, zgn_N, hn]
  rw [n3]
  by_cases c : (n : Int) ≤ i
  · rw [if_pos c]
    refine ⟨⟨f1, f2, f3⟩, g, q, hV, fun a ha => ?_⟩
    cases t : g.testBit a with
    | true => rfl
    | false =>
      have u := zbsu_up ha t
      have := (zbsu_b (S := g ||| 2 ^ a) (N := n)).2
      omega
  · rw [if_neg c, zS_bd]
    refine zs_m (e_nextNode (n := n) (g := g) n3 n8 hV.2.1.1 hV.2.1.2 (fun a ha => ?_)) ?_
    · have := hV.2.2.2.1.1 a ha
      have t := zS2 this.1 this.2
      omega
    · intro r hr
      rcases hr with ⟨-, r2⟩ | ⟨j, rfl, r2, r3, r4⟩
      · obtain ⟨j, j1, j2⟩ := zbsu_u (S := g) (N := n) (by omega)
        rw [r2 j j1] at j2; cases j2
      · rw [zS_bd]
        refine zs_m (e_takeOut h (hA.fr (f1.mono (by omega) (by omega))) h8 hn hV r2 r3 r4) ?_
        rintro W ⟨⟨w1, w2, w3⟩, q', hW⟩
        rw [zw_i (by omega) (by omega)]
        have u := zbsu_up r2 r3
        exact ⟨n - (i + 1), by omega, i + 1, g ||| 2 ^ j, q', by show (i : Int) + 1 = _; omega, rfl, by omega, by omega, ⟨f1.trans w1, by show W 150 13 = _; rw [w2, f2], by show W 153 = _; rw [w3, f3]⟩, hW⟩
end GS2
