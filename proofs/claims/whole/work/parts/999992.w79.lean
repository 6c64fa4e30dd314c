/-! PURE PART, 79: before and behind the lines -/
section RD2
variable {σ M V B Mc : zMem} {T : Int → Int} {n : Int}
theorem m_without {k : Int} : fX12_without k V = some (zunt k) := by
  unfold fX12_without zunt
  simp only [apply_ite (some : Int → Option Int)]
theorem zunt_b {k : Int} (h0 : 0 ≤ k) (h1 : k < 11) : zlea k ≤ zunt k ∧ zunt k ≤ zmos k := by
  have : k = 0 ∨ k = 1 ∨ k = 2 ∨ k = 3 ∨ k = 4 ∨ k = 5 ∨ k = 6 ∨ k = 7 ∨ k = 8 ∨ k = 9 ∨ k = 10 := by omega
  rcases this with rfl | rfl | rfl | rfl | rfl | rfl | rfl | rfl | rfl | rfl | rfl <;> decide
theorem m_untold : zSat (zit (fun s5 : Int × zMem => fX12_readsAll_l23 (s5.1) (s5.2)) (0, V)) (fun e => (∀ c : Nat, c ≠ 225 → c ≠ 226 → e.2 c = V c) ∧ (∀ q : Int, ¬ (11 ≤ q ∧ q < 22) → e.2 225 q = V 225 q) ∧ ∀ k : Int, 0 ≤ k → k < 11 → e.2 225 (11 + k) = zunt k ∧ e.2 226 k = 0) := by
  refine zit_i2 (fun y N => fX12_readsAll_l23 y N) (fun m y N => m = (11 - y).toNat ∧ 0 ≤ y ∧ y ≤ 11 ∧ (∀ c : Nat, c ≠ 225 → c ≠ 226 → N c = V c) ∧ (∀ q : Int, ¬ (11 ≤ q ∧ q < 22) → N 225 q = V 225 q) ∧ ∀ k : Int, 0 ≤ k → k < y → N 225 (11 + k) = zunt k ∧ N 226 k = 0) ?_ _ ⟨rfl, by omega, by omega, fun _ _ _ => rfl, fun _ _ => rfl, fun k k0 k1 => by omega⟩
  rintro m y N ⟨hm, y0, y1, f1, f2, f3⟩
  show zSat (fX12_readsAll_l23 y N) _
  unfold fX12_readsAll_l23
  by_cases c : 11 ≤ y
  · rw [if_pos c]
    have : y = 11 := by omega
    subst this
    exact ⟨f1, f2, f3⟩
  · rw [if_neg c, m_without, zbd_s, zgd_t ⟨by omega, by omega⟩, zgd_t ⟨by omega, by omega⟩, zw_i (by omega) (by omega)]
    refine ⟨(11 - (y + 1)).toNat, by omega, rfl, by show 0 ≤ y + 1; omega, by show y + 1 ≤ 11; omega, fun c c1 c2 => ?_, fun q hq => ?_, fun k k0 k1 => ⟨?_, ?_⟩⟩
    · show zup (zup N 225 (11 + y) (zunt y)) 226 y 0 c = _
      rw [zup_c c2, zup_c c1, f1 c c1 c2]
    · show zup (zup N 225 (11 + y) (zunt y)) 226 y 0 225 q = _
      rw [zup_ne (by decide), zup_nk (by omega), f2 q hq]
    · have k1 : k < y + 1 := k1
      show zup (zup N 225 (11 + y) (zunt y)) 226 y 0 225 (11 + k) = _
      rw [zup_ne (by decide)]
      by_cases u : k = y
      · rw [u, zup_eq]
      · rw [zup_nk (by omega)]; exact (f3 k k0 (by omega)).1
    · have k1 : k < y + 1 := k1
      show zup (zup N 225 (11 + y) (zunt y)) 226 y 0 226 k = _
      by_cases u : k = y
      · rw [u, zup_eq]
      · rw [zup_nk u, zup_ne (by decide)]; exact (f3 k k0 (by omega)).2
/-- the model begins to read -/
theorem m_init (hB : B 200 1 = n) (hBT : ∀ k : Int, 0 ≤ k → k < n → B 203 k = T k) (hM : (Mc 20 1 = n ∧ 0 ≤ n ∧ n ≤ 1000) ∧ Mc 21 = T ∧ Mc 20 3 ≤ 1001) {f : Nat} (hA : xA T n Mc f 0 0) (h30 : Mc 30 3 = 0 ∧ Mc 30 4 = 0) (h60 : Mc 60 0 = 0 ∧ Mc 60 1 = 0 ∧ Mc 60 7 = 0 ∧ Mc 60 13 = 0 ∧ Mc 60 14 = 0 ∧ Mc 60 16 = 0) (h79 : ∀ k : Int, 0 ≤ k → k < 11 → Mc 79 k = zunt k) : ∃ W : zMem, fX12_readsAll B = zbd (zit (fun s56 : zMem => fX12_readsAll_l84 s56) W) (fun e => zel e (fun s61 => some (1, s61)) (fun r => some r)) ∧ xL T n Mc W Mc W ∧ (∀ c : Nat, c < 200 ∨ 300 ≤ c → W c = B c) ∧ W 200 1 = 0 ∧ ∀ (c : Nat) (k : Int), zSc c k = true → ¬ (c = 200 ∧ k = 1) → W c k = B c k := by
  generalize hB1 : zup (zup (zup B 211 1 0) 212 1 0) 213 1 0 = B1
  obtain ⟨⟨x, N⟩, e1, g1, g2, g3⟩ := zS_ex.1 (m_untold (V := B1))
  dsimp only at g1 g2 g3
  generalize hP : zup (zup (zup (zup N 200 29 1000) 200 3 (zup N 200 29 1000 200 1)) 200 1 0) 200 4 0 = P
  have b1c : ∀ c : Nat, c ≠ 211 → c ≠ 212 → c ≠ 213 → B1 c = B c := fun c c1 c2 c3 => by rw [← hB1, zup_c c3, zup_c c2, zup_c c1]
  have n200 : N 200 = B 200 := by rw [g1 200 (by decide) (by decide), b1c 200 (by decide) (by decide) (by decide)]
  have p3 : P 200 3 = n := by rw [← hP, zup_nk (by decide), zup_nk (by decide), zup_eq, zup_nk (by decide), n200, hB]
  have p4 : P 200 4 = 0 := by rw [← hP, zup_eq]
  have p1 : P 200 1 = 0 := by rw [← hP, zup_nk (by decide), zup_eq]
  have p29 : P 200 29 = 1000 := by rw [← hP, zup_nk (by decide), zup_nk (by decide), zup_nk (by decide), zup_eq]
  have pq : ∀ q : Int, q ≠ 29 → q ≠ 3 → q ≠ 1 → q ≠ 4 → P 200 q = B 200 q := fun q q1 q2 q3 q4 => by rw [← hP, zup_nk q4, zup_nk q3, zup_nk q2, zup_nk q1, n200]
  have pc : ∀ c : Nat, c ≠ 200 → P c = N c := fun c hc => by rw [← hP, zup_c hc, zup_c hc, zup_c hc, zup_c hc]
  have pB : ∀ c : Nat, c ≠ 200 → c ≠ 211 → c ≠ 212 → c ≠ 213 → c ≠ 225 → c ≠ 226 → P c = B c := fun c c0 c1 c2 c3 c4 c5 => by rw [pc c c0, g1 c c4 c5, b1c c c1 c2 c3]
  obtain ⟨W, e2, fW, gW⟩ := s_first hM (V := P) ⟨p3, fun k k0 k1 => by rw [pB 203 (by decide) (by decide) (by decide) (by decide) (by decide) (by decide)]; exact hBT k k0 k1⟩ (f := f) (i := 0) (by rw [p4]; exact hA) (by rw [p4]; exact Int.le_refl _) (by rw [p4]; exact hM.1.2.1)
  have e1' : zit (fun s5 : Int × zMem => fX12_readsAll_l23 (s5.1) (s5.2)) (0, B1) = some (x, N) := e1
  have w211 : W 211 1 = 0 := by rw [fW.1 211 (by decide), pc 211 (by decide), g1 211 (by decide) (by decide), ← hB1, zup_ne (by decide), zup_ne (by decide), zup_eq]
  have w212 : W 212 1 = 0 := by rw [fW.1 212 (by decide), pc 212 (by decide), g1 212 (by decide) (by decide), ← hB1, zup_ne (by decide), zup_eq]
  have w213 : W 213 1 = 0 := by rw [fW.1 213 (by decide), pc 213 (by decide), g1 213 (by decide) (by decide), ← hB1, zup_eq]
  refine ⟨W, ?_, ⟨⟨gW Mc rfl rfl rfl rfl h30.1, fun _ _ => rfl, fun _ _ => rfl, zAg.refl _⟩, ⟨⟨by rw [w211, h60.1], by omega, by omega⟩, fun k k0 k1 => by omega⟩, ⟨⟨by rw [w212, h60.2.2.1], by omega, by omega⟩, fun k k0 k1 => by omega, fun k k0 k1 => by omega, ⟨fun k k0 k1 => ?_, 0, by rw [h30.2]; rfl, by decide, fun k k1 => ?_⟩, ?_⟩, ⟨⟨by rw [w213, h60.2.2.2.1], by omega, by omega⟩, ⟨by omega, by omega, ?_⟩, ⟨?_, ?_⟩, ⟨by omega, ?_⟩, fun k hk => by omega⟩⟩, fun c hc => ?_, ?_, fun c k hs hk => ?_⟩
  · unfold fX12_readsAll
    rw [zgd_t (by decide), zgd_t (by decide), zgd_t (by decide), hB1, e1', zbd_s]
    dsimp only
    rw [hP, e2, zbd_s]
  · rw [fW.1 225 (by decide), pc 225 (by decide), (g3 k k0 k1).1, h79 k k0 k1]
    exact ⟨rfl, zunt_b k0 k1⟩
  · rw [fW.1 226 (by decide), pc 226 (by decide), (g3 k (by omega) (by omega)).2, Nat.zero_testBit]; rfl
  · rw [h60.1, h60.2.1]; rfl
  · rw [h60.2.2.2.1, h60.2.2.2.2.2]; rfl
  · rw [fW.2 29 (by omega), p29]; omega
  · rw [fW.2 29 (by omega), p29, h30.1]; omega
  · rw [h60.2.2.2.1, h60.2.2.2.2.1]; decide
  · rw [fW.1 c (by omega), pB c (by omega) (by omega) (by omega) (by omega) (by omega) (by omega)]
  · rw [fW.2 1 (by omega), p1]
  · by_cases c1 : c = 200
    · subst c1
      have hq : k = 43 := by
        have : (k = 1 ∨ k = 43) := by
          have hs' : (k == 1 || k == 43) = true := by
            have : zSc 200 k = (k == 1 || k == 43) := by
              unfold zSc zfull zprt
              simp
            rw [← this]; exact hs
          simpa using hs'
        rcases this with q | q
        · exact absurd ⟨rfl, q⟩ hk
        · exact q
      rw [hq, fW.2 43 (by omega), pq 43 (by decide) (by decide) (by decide) (by decide)]
    · rw [fW.1 c c1, pc c c1]
      by_cases c2 : c = 226
      · subst c2; cases hs
      · by_cases c3 : c = 225
        · subst c3
          by_cases u : 11 ≤ k ∧ k < 22
          · rw [zSc_11 u.1 u.2] at hs; cases hs
          · rw [g2 k u, b1c 225 (by decide) (by decide) (by decide)]
        · rw [g1 c c3 c2, ← hB1]
          have k1 : (c = 211 ∨ c = 212 ∨ c = 213) → k ≠ 1 := fun q e => by
            subst e
            rcases q with rfl | rfl | rfl <;> cases hs
          by_cases c4 : c = 211 ∨ c = 212 ∨ c = 213
          · rw [zup_nk (k1 c4), zup_nk (k1 c4), zup_nk (k1 c4)]
          · rw [zup_ne (by omega), zup_ne (by omega), zup_ne (by omega)]
/-- the class begins to read -/
theorem e_init (h : St σ) (hA : zAg σ M) : ∃ (Mc : zMem) (f : Nat), fX6_read M = zbd (zit (fun s17 : Int × Int × zMem => fX6_read_l33 (s17.1) (s17.2.1) (s17.2.2)) (1, 0, Mc)) (fun s24 => fX6_read_j62 (s24.2.2)) ∧ xA (σ 21) (σ 20 1) Mc f 0 0 ∧ ((Mc 20 1 = σ 20 1 ∧ 0 ≤ σ 20 1 ∧ σ 20 1 ≤ 1000) ∧ Mc 21 = σ 21 ∧ Mc 20 3 ≤ 1001) ∧ (Mc 30 3 = 0 ∧ Mc 30 4 = 0 ∧ Mc 30 5 = 0) ∧ (Mc 60 0 = 0 ∧ Mc 60 1 = 0 ∧ Mc 60 7 = 0 ∧ Mc 60 13 = 0 ∧ Mc 60 14 = 0 ∧ Mc 60 16 = 0) ∧ (∀ k : Int, 0 ≤ k → k < 11 → Mc 79 k = zunt k) ∧ (∀ c : Nat, c ≠ 20 → c ≠ 23 → c ≠ 24 → c ≠ 30 → c ≠ 60 → c ≠ 79 → Mc c = M c) ∧ ∀ q : Int, q ≠ 3 → Mc 20 q = M 20 q := by
  obtain ⟨-, -, -, hT, h0⟩ := h
  generalize hM4 : zcpy (zup (zup (zup (zup (zup (zup M 60 0 0) 60 1 0) 60 7 0) 60 13 0) 60 14 0) 60 16 0) 1000 0 79 0 11 = M4
  have m4c : ∀ c : Nat, c ≠ 60 → c ≠ 79 → M4 c = M c := fun c c1 c2 => by rw [← hM4, zcpy_n c2, zup_c c1, zup_c c1, zup_c c1, zup_c c1, zup_c c1, zup_c c1]
  have m460 : M4 60 0 = 0 ∧ M4 60 1 = 0 ∧ M4 60 7 = 0 ∧ M4 60 13 = 0 ∧ M4 60 14 = 0 ∧ M4 60 16 = 0 := by
    rw [← hM4, zcpy_n (show 60 ≠ 79 by decide)]
    simp (disch := decide) only [zup_eq, zup_nk]
    exact ⟨trivial, trivial, trivial, trivial, trivial, trivial⟩
  have m479 : ∀ k : Int, 0 ≤ k → k < 11 → M4 79 k = zunt k := fun k k0 k1 => by
    rw [← hM4, zcpy_e k0 k1, zup_ne (by decide), zup_ne (by decide), zup_ne (by decide), zup_ne (by decide), zup_ne (by decide), zup_ne (by decide), hA.fl 1000 rfl]
    exact (h0 k k0 k1).1
  generalize hM5 : zup (zup (zup M4 30 3 0) 30 4 0) 30 5 0 = M5
  have m5c : ∀ c : Nat, c ≠ 30 → M5 c = M4 c := fun c hc => by rw [← hM5, zup_c hc, zup_c hc, zup_c hc]
  have m5 : ∀ c : Nat, c ≠ 30 → c ≠ 60 → c ≠ 79 → M5 c = M c := fun c c1 c2 c3 => by rw [m5c c c1, m4c c c2 c3]
  have e201 : M5 20 1 = σ 20 1 := by rw [m5 20 (by decide) (by decide) (by decide)]; exact hA 20 1 rfl
  have e21 : M5 21 = σ 21 := by rw [m5 21 (by decide) (by decide) (by decide)]; exact hA.fl 21 rfl
  obtain ⟨Mc, e, ⟨f1, f2⟩, b, f, a⟩ := zS_ex.1 (e_split (M := M5) e201 hT.1.2.1 hT.1.2.2 (fun k k0 k1 => by rw [e21]; exact (hT.2 k k0 k1).2))
  rw [e21] at a
  have m30 : Mc 30 = M5 30 := f1 30 (by decide) (by decide) (by decide)
  refine ⟨Mc, f, ?_, a, ⟨⟨by rw [f2 1 (by decide), e201], hT.1.2⟩, by rw [f1 21 (by decide) (by decide) (by decide), e21], b.2⟩, ?_, ?_, fun k k0 k1 => ?_, fun c c1 c2 c3 c4 c5 c6 => ?_, fun q hq => ?_⟩
  · unfold fX6_read fX7_clear
    rw [zgd_t (by decide)]
    show zbd (some (zcpy (zup (zup (zup (zup (zup (zup M 60 0 0) 60 1 0) 60 7 0) 60 13 0) 60 14 0) 60 16 0) 1000 0 79 0 11)) _ = _
    rw [hM4, zbd_s, hM5, e, zbd_s]
  · rw [m30, ← hM5, zup_nk (show (3 : Int) ≠ 5 by decide), zup_nk (show (3 : Int) ≠ 4 by decide), zup_eq, zup_nk (show (4 : Int) ≠ 5 by decide), zup_eq, zup_eq]
    exact ⟨rfl, rfl, rfl⟩
  · rw [f1 60 (by decide) (by decide) (by decide), m5c 60 (by decide)]; exact m460
  · rw [f1 79 (by decide) (by decide) (by decide), m5c 79 (by decide)]; exact m479 k k0 k1
  · rw [f1 c c1 c2 c3, m5 c c4 c5 c6]
  · rw [f2 q hq, m5 20 (by decide) (by decide) (by decide)]
/-- the model's PLACES -/
theorem m_place {b : Int} (hb : V 211 1 = b) (b0 : 0 ≤ b) (b1 : b ≤ 12) : zSat (zit (fun s8 : Int × Int × zMem => fX12_spindle_l21 (s8.1) (s8.2.1) (s8.2.2)) (0, 0, V)) (fun e => (∀ (c : Nat) (k : Int), ¬ (c = 219 ∧ 12 ≤ k ∧ k < 12 + b) → e.2.2 c k = V c k) ∧ ∀ k : Int, 0 ≤ k → k < b → e.2.2 219 (12 + k) = if V 218 (12 + k) = 3 then -1 else zsum (fun q => if V 218 (12 + q) = 3 then 0 else 1) k.toNat) := by
  refine zit_i3 (fun a y N => fX12_spindle_l21 a y N) (fun m a y N => m = (b - y).toNat ∧ 0 ≤ y ∧ y ≤ b ∧ a = zsum (fun q => if V 218 (12 + q) = 3 then 0 else 1) y.toNat ∧ (∀ (c : Nat) (k : Int), ¬ (c = 219 ∧ 12 ≤ k ∧ k < 12 + b) → N c k = V c k) ∧ ∀ k : Int, 0 ≤ k → k < y → N 219 (12 + k) = if V 218 (12 + k) = 3 then -1 else zsum (fun q => if V 218 (12 + q) = 3 then 0 else 1) k.toNat) ?_ _ ⟨rfl, by omega, by omega, rfl, fun _ _ _ => rfl, fun k k0 k1 => by omega⟩
  rintro m a y N ⟨hm, y0, y1, ha, f1, f2⟩
  show zSat (fX12_spindle_l21 a y N) _
  unfold fX12_spindle_l21
  rw [zgd_t (by decide), f1 211 1 (by omega), hb]
  by_cases c : b ≤ y
  · rw [if_pos c]
    have : y = b := by omega
    subst this
    exact ⟨f1, f2⟩
  have ab := zsum_p01 (p := fun q => V 218 (12 + q) = 3) (n := y.toNat)
  have e218 : N 218 (12 + y) = V 218 (12 + y) := f1 218 _ (by omega)
  rw [if_neg c, zgd_t ⟨by omega, by omega⟩, e218, zw_i (x := 12 + y) (by omega) (by omega)]
  have step : ∀ s0 t : Int, s0 = (if V 218 (12 + y) = 3 then -1 else a) → zSat (fX12_spindle_j57 a y s0 (12 + y) N) (fun x : (Int × Int × zMem) ⊕ (Int × Int × zMem) => zel x (fun s' => ∃ m', m' < m ∧ m' = (b - s'.2.1).toNat ∧ 0 ≤ s'.2.1 ∧ s'.2.1 ≤ b ∧ s'.1 = zsum (fun q => if V 218 (12 + q) = 3 then 0 else 1) s'.2.1.toNat ∧ (∀ (c : Nat) (k : Int), ¬ (c = 219 ∧ 12 ≤ k ∧ k < 12 + b) → s'.2.2 c k = V c k) ∧ ∀ k : Int, 0 ≤ k → k < s'.2.1 → s'.2.2 219 (12 + k) = if V 218 (12 + k) = 3 then -1 else zsum (fun q => if V 218 (12 + q) = 3 then 0 else 1) k.toNat) (fun e => (∀ (c : Nat) (k : Int), ¬ (c = 219 ∧ 12 ≤ k ∧ k < 12 + b) → e.2.2 c k = V c k) ∧ ∀ k : Int, 0 ≤ k → k < b → e.2.2 219 (12 + k) = if V 218 (12 + k) = 3 then -1 else zsum (fun q => if V 218 (12 + q) = 3 then 0 else 1) k.toNat)) := fun s0 t hs => by
    unfold fX12_spindle_j57 fX12_spindle_j77
    rw [zgd_t ⟨by omega, by omega⟩, zgd_t ⟨by omega, by omega⟩, zup_ne (show (218 : Nat) ≠ 219 by decide), e218, zw_i (x := y + 1) (by omega) (by omega), zw_i (x := a + 0) (by omega) (by omega), zw_i (x := a + 1) (by omega) (by omega)]
    have fin : ∀ d : Int, d = a + (if V 218 (12 + y) = 3 then 0 else 1) → zSat (some (Sum.inl (d, y + 1, zup N 219 (12 + y) s0)) : Option ((Int × Int × zMem) ⊕ (Int × Int × zMem))) (fun x : (Int × Int × zMem) ⊕ (Int × Int × zMem) => zel x (fun s' => ∃ m', m' < m ∧ m' = (b - s'.2.1).toNat ∧ 0 ≤ s'.2.1 ∧ s'.2.1 ≤ b ∧ s'.1 = zsum (fun q => if V 218 (12 + q) = 3 then 0 else 1) s'.2.1.toNat ∧ (∀ (c : Nat) (k : Int), ¬ (c = 219 ∧ 12 ≤ k ∧ k < 12 + b) → s'.2.2 c k = V c k) ∧ ∀ k : Int, 0 ≤ k → k < s'.2.1 → s'.2.2 219 (12 + k) = if V 218 (12 + k) = 3 then -1 else zsum (fun q => if V 218 (12 + q) = 3 then 0 else 1) k.toNat) (fun e => (∀ (c : Nat) (k : Int), ¬ (c = 219 ∧ 12 ≤ k ∧ k < 12 + b) → e.2.2 c k = V c k) ∧ ∀ k : Int, 0 ≤ k → k < b → e.2.2 219 (12 + k) = if V 218 (12 + k) = 3 then -1 else zsum (fun q => if V 218 (12 + q) = 3 then 0 else 1) k.toNat)) := fun d hd => by
      refine ⟨(b - (y + 1)).toNat, by omega, rfl, by show 0 ≤ y + 1; omega, by show y + 1 ≤ b; omega, ?_, fun c k hk => ?_, fun k k0 k1 => ?_⟩
      · show d = zsum (fun q => if V 218 (12 + q) = 3 then 0 else 1) (y + 1).toNat
        rw [show (y + 1).toNat = y.toNat + 1 by omega]
        show d = zsum (fun q => if V 218 (12 + q) = 3 then 0 else 1) y.toNat + (if V 218 (12 + (y.toNat : Int)) = 3 then 0 else 1)
        rw [show ((y.toNat : Nat) : Int) = y by omega, ← ha, hd]
      · show zup N 219 (12 + y) s0 c k = _
        by_cases u : c = 219
        · subst u
          rw [zup_nk (by omega)]; exact f1 219 k hk
        · rw [zup_ne u]; exact f1 c k hk
      · have k1 : k < y + 1 := k1
        show zup N 219 (12 + y) s0 219 (12 + k) = _
        by_cases u : k = y
        · rw [u, zup_eq, hs, ha]
        · rw [zup_nk (by omega)]; exact f2 k k0 (by omega)
    by_cases d : V 218 (12 + y) = 3
    · rw [if_pos d]; exact fin _ (by rw [if_pos d])
    · rw [if_neg d]; exact fin _ (by rw [if_neg d])
  by_cases d : V 218 (12 + y) = 3
  · rw [if_pos d]; exact step _ 0 (by rw [if_pos d])
  · rw [if_neg d]; exact step _ 0 (by rw [if_neg d])
end RD2
