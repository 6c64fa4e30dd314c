/-! PURE PART, 73: codes put while a law is read -/
section SP2
variable {M V M' V' M'' V'' M0 V0 : zMem} {T : Int → Int} {n : Int}
def xP (T : Int → Int) (n : Int) (M0 V0 M V : zMem) : Prop := xK T n M0 V0 M V ∧ (0 ≤ M 60 16 ∧ M 60 16 ≤ M 30 3) ∧ (1000 ≤ V 200 29 ∧ V 200 29 ≤ 1000 + M 30 3) ∧ (0 ≤ M 60 13 ∧ M 60 13 ≤ 3) ∧ (0 ≤ M 60 14 ∧ M 60 14 < 16)
/-- what the reading of a piece of a law has done -/
def xE (M V M' V' : zMem) (lc lm : List Int) : Prop :=
  ((∀ c : Nat, c ≠ 30 → c ≠ 60 → c ≠ 76 → M' c = M c) ∧ (∀ q : Int, q ≠ 3 → M' 30 q = M 30 q) ∧ (∀ q : Int, q ≠ 14 → q ≠ 16 → M' 60 q = M 60 q) ∧ (∀ q : Int, q < M 60 16 → M' 76 q = M 76 q) ∧ M' 60 16 = M 60 16 + lc.length ∧ zseg (M' 76) (M 60 16) lc.length = lc) ∧
  (((-125 ∉ lc) ∧ M' 60 14 = M 60 14) ∨ ((-125 ∈ lc) ∧ M' 60 14 = zor (M 60 14) (zshl 1 (M 60 13)))) ∧ M 30 3 ≤ M' 30 3 ∧
  (∀ c : Nat, c ≠ 200 → c ≠ 229 → c ≠ 231 → c ≠ 232 → V' c = V c) ∧ (∀ q : Int, q < 4 ∨ 8 < q → q ≠ 29 → V' 200 q = V 200 q) ∧ (∀ q : Int, q < V 200 29 → V' 229 q = V 229 q) ∧ V' 200 29 = V 200 29 + lm.length ∧ zseg (V' 229) (V 200 29) lm.length = lm
theorem xE.refl (M V : zMem) : xE M V M V [] [] := ⟨⟨fun _ _ _ _ => rfl, fun _ _ => rfl, fun _ _ _ => rfl, fun _ _ => rfl, by simp, rfl⟩, Or.inl ⟨by simp, rfl⟩, Int.le_refl _, fun _ _ _ _ _ => rfl, fun _ _ _ => rfl, fun _ _ => rfl, by simp, rfl⟩
theorem zseg_l {f : Int → Int} : ∀ {m : Nat} {a : Int}, (zseg f a m).length = m
  | 0, _ => rfl
  | m + 1, a => by unfold zseg; rw [List.length_cons, zseg_l]
theorem zseg_a {f : Int → Int} : ∀ {m k : Nat} {a : Int}, zseg f a (m + k) = zseg f a m ++ zseg f (a + m) k
  | 0, k, a => by rw [Nat.zero_add, show a + ((0 : Nat) : Int) = a by omega]; rfl
  | m + 1, k, a => by
    rw [show m + 1 + k = (m + k) + 1 by omega]
    show f a :: zseg f (a + 1) (m + k) = f a :: (zseg f (a + 1) m ++ zseg f (a + ((m + 1 : Nat) : Int)) k)
    rw [zseg_a, show a + 1 + (m : Int) = a + ((m + 1 : Nat) : Int) by omega]
theorem xE.trans {l1 m1 l2 m2 : List Int} (h : xE M V M' V' l1 m1) (g : xE M' V' M'' V'' l2 m2) : xE M V M'' V'' (l1 ++ l2) (m1 ++ m2) := by
  obtain ⟨⟨a1, a2, a3, a4, a5, a6⟩, a7, a8, b1, b2, b3, b4, b5⟩ := h
  obtain ⟨⟨c1, c2, c3, c4, c5, c6⟩, c7, c8, d1, d2, d3, d4, d5⟩ := g
  have cm : (M 60 16) ≤ M' 60 16 := by rw [a5]; omega
  have vm : (V 200 29) ≤ V' 200 29 := by rw [b4]; omega
  refine ⟨⟨fun c x y z => (c1 c x y z).trans (a1 c x y z), fun q x => (c2 q x).trans (a2 q x), fun q x y => (c3 q x y).trans (a3 q x y), fun q x => (c4 q (by omega)).trans (a4 q x), ?_, ?_⟩, ?_, by omega, fun c x y z w => (d1 c x y z w).trans (b1 c x y z w), fun q x y => (d2 q x y).trans (b2 q x y), fun q x => (d3 q (by omega)).trans (b3 q x), ?_, ?_⟩
  · rw [c5, a5, List.length_append]; omega
  · rw [List.length_append, zseg_a]
    congr 1
    · refine Eq.trans ?_ a6
      exact zseg_c fun i hi => c4 _ (by omega)
    · rw [← a5]; exact c6
  · rw [a3 13 (by decide) (by decide)] at c7
    rcases a7 with ⟨x1, x2⟩ | ⟨x1, x2⟩
    · rcases c7 with ⟨y1, y2⟩ | ⟨y1, y2⟩
      · exact Or.inl ⟨fun q => (List.mem_append.1 q).elim x1 y1, by rw [y2, x2]⟩
      · exact Or.inr ⟨List.mem_append.2 (Or.inr y1), by rw [y2, x2]⟩
    · rcases c7 with ⟨y1, y2⟩ | ⟨y1, y2⟩
      · exact Or.inr ⟨List.mem_append.2 (Or.inl x1), by rw [y2, x2]⟩
      · exact Or.inr ⟨List.mem_append.2 (Or.inl x1), by rw [y2, x2, zor_i]⟩
  · rw [d4, b4, List.length_append]; omega
  · rw [List.length_append, zseg_a]
    congr 1
    · refine Eq.trans ?_ b5
      exact zseg_c fun i hi => d3 _ (by omega)
    · rw [← b4]; exact d5
/-- the class puts a code -/
theorem s_code (h : xP T n M0 V0 M V) {x : Int} (hl : M 60 16 < M 30 3) : ∃ R : zMem, fX7_putCode 60 x M = some R ∧ xE M V R V [x] [] ∧ xP T n M0 V0 R V ∧ R 30 3 = M 30 3 := by
  obtain ⟨hK, ⟨a0, a1⟩, hv, ⟨s0, s1⟩, ⟨w0, w1⟩⟩ := h
  have ab := hK.1.2.2.1
  have bb := hK.1.1.2.2
  unfold fX7_putCode fX7_putCode_j30
  rw [if_neg (by omega), zgd_t ⟨a0, by omega⟩, zup_ne (show (60 : Nat) ≠ 60 + 16 by decide), zw_i (x := M 60 16 + 1) (by omega) (by omega)]
  show ∃ R : zMem, (if x = -125 then some (zup (zup (zup M 76 (M 60 16) x) 60 16 (M 60 16 + 1)) 60 14 (zor (zup (zup M 76 (M 60 16) x) 60 16 (M 60 16 + 1) 60 14) (zshl 1 (zup (zup M 76 (M 60 16) x) 60 16 (M 60 16 + 1) 60 13)))) else some (zup (zup M 76 (M 60 16) x) 60 16 (M 60 16 + 1))) = some R ∧ _
  rw [zup_nk (show (14 : Int) ≠ 16 by decide), zup_nk (show (13 : Int) ≠ 16 by decide), zup_ne (show (60 : Nat) ≠ 76 by decide), zup_ne (show (60 : Nat) ≠ 76 by decide)]
  generalize hU : zup (zup M 76 (M 60 16) x) 60 16 (M 60 16 + 1) = U
  have u76 : U 76 = zup M 76 (M 60 16) x 76 := by rw [← hU, zup_c (by decide)]
  have u16 : U 60 16 = M 60 16 + 1 := by rw [← hU, zup_eq]
  have u60 : ∀ q : Int, q ≠ 16 → U 60 q = M 60 q := fun q hq => by rw [← hU, zup_nk hq, zup_ne (by decide)]
  have uc : ∀ c : Nat, c ≠ 60 → c ≠ 76 → U c = M c := fun c c1 c2 => by rw [← hU, zup_c c1, zup_c c2]
  have fin : ∀ (R : zMem), (∀ c : Nat, c ≠ 60 → R c = U c) → (∀ q : Int, q ≠ 14 → R 60 q = U 60 q) → ((x ≠ -125 ∧ R 60 14 = M 60 14) ∨ (x = -125 ∧ R 60 14 = zor (M 60 14) (zshl 1 (M 60 13)))) → xE M V R V [x] [] ∧ xP T n M0 V0 R V ∧ R 30 3 = M 30 3 := by
    intro R r1 r2 r3
    have r30 : R 30 = M 30 := by rw [r1 30 (by decide), uc 30 (by decide) (by decide)]
    have r16 : R 60 16 = M 60 16 + 1 := by rw [r2 16 (by decide), u16]
    refine ⟨⟨⟨fun c c1 c2 c3 => by rw [r1 c c2, uc c c2 c3], fun q _ => by rw [r30], fun q q1 q2 => by rw [r2 q q1, u60 q q2], fun q hq => by rw [r1 76 (by decide), u76, zup_nk (by omega)], by rw [r16]; rfl, ?_⟩, ?_, by rw [r30]; exact Int.le_refl _, fun _ _ _ _ _ => rfl, fun _ _ _ => rfl, fun _ _ => rfl, by simp, rfl⟩, ⟨⟨?_, fun c hc => ?_, hK.2.2⟩, ⟨by omega, by rw [r16, r30]; omega⟩, by rw [r30]; exact hv, by rw [r2 13 (by decide), u60 13 (by decide)]; exact ⟨s0, s1⟩, ?_⟩, by rw [r30]⟩
    · show [R 76 (M 60 16)] = [x]
      rw [r1 76 (by decide), u76, zup_eq]
    · rcases r3 with ⟨x1, x2⟩ | ⟨x1, x2⟩
      · exact Or.inl ⟨fun q => x1 (List.mem_singleton.1 q).symm, x2⟩
      · exact Or.inr ⟨List.mem_singleton.2 x1.symm, x2⟩
    · exact xJ_c hK.1 (by rw [r1 20 (by decide), uc 20 (by decide) (by decide)]) (by rw [r1 21 (by decide), uc 21 (by decide) (by decide)]) (by rw [r1 23 (by decide), uc 23 (by decide) (by decide)]) (by rw [r1 24 (by decide), uc 24 (by decide) (by decide)]) (by rw [r30]) rfl (fun _ _ _ => rfl)
    · rw [r1 c (by omega), uc c (by omega) (by omega)]; exact hK.2.1 c hc
    · rcases r3 with ⟨x1, x2⟩ | ⟨x1, x2⟩
      · rw [x2]; exact ⟨w0, w1⟩
      · rw [x2]
        obtain ⟨a, ha⟩ : ∃ a : Nat, M 60 14 = a := ⟨(M 60 14).toNat, by omega⟩
        obtain ⟨b, hb⟩ : ∃ b : Nat, M 60 13 = b := ⟨(M 60 13).toNat, by omega⟩
        have p4 : 2 ^ b < 2 ^ 4 := Nat.pow_lt_pow_right (by omega) (by omega)
        have ob : a ||| 2 ^ b < 2 ^ 4 := Nat.or_lt_two_pow (by omega) p4
        rw [ha, hb, zshl_1 b (by omega), zor_n (by omega) (by omega)]
        omega
  by_cases c : x = -125
  · rw [if_pos c]
    exact ⟨_, rfl, fin _ (fun d hd => zup_c hd) (fun q hq => zup_nk hq) (Or.inr ⟨c, zup_eq⟩)⟩
  · rw [if_neg c]
    exact ⟨_, rfl, fin _ (fun _ _ => rfl) (fun _ _ => rfl) (Or.inl ⟨c, u60 14 (by decide)⟩)⟩
def xpu (V : zMem) (c : Int) : zMem := zup (zup V 229 (V 200 29) c) 200 29 (V 200 29 + 1)
theorem zSc_229 {k : Int} (h0 : 1000 ≤ k) (h1 : k < 2000) : zSc 229 k = false := by
  simp only [zSc, zfull, zprt, decide_eq_true h0, decide_eq_true h1]; rfl
theorem m_puts (h : xP T n M0 V0 M V) {c : Int} : fX12_puts c V = some (xpu V c) := by
  obtain ⟨hK, -, hv, -⟩ := h
  have ab := hK.1.2.2.1
  have bb := hK.1.1.2.2
  unfold fX12_puts xpu
  rw [zgd_t ⟨by omega, by omega⟩, zup_ne (show (200 : Nat) ≠ 229 by decide), zw_i (by omega) (by omega)]
/-- the model puts a code, both go on -/
theorem s_step (h : xP T n M0 V0 M V) (c0 : (M 23 (M 30 3) / 1024) ≠ 0) (c1 : (M 23 (M 30 3) / 1024) ≠ 1) {c : Int} {V2 : zMem} (hV : ∀ d : Nat, d ≠ 231 → d ≠ 232 → V2 d = xpu V c d) : ∃ W : zMem, fX12_nextToken V2 = some W ∧ xE M V (zup M 30 3 (M 30 3 + 1)) W [] [c] ∧ xP T n M0 V0 (zup M 30 3 (M 30 3 + 1)) W ∧ W 231 = V2 231 ∧ W 232 = V2 232 := by
  obtain ⟨hK, ⟨a0, a1⟩, ⟨v0, v1⟩, hs, hw⟩ := h
  have ab := hK.1.2.2.1
  have bb := hK.1.1.2.2
  have v200 : ∀ q : Int, q ≠ 29 → V2 200 q = V 200 q := fun q hq => by rw [hV 200 (by decide) (by decide)]; unfold xpu; rw [zup_nk hq, zup_ne (by decide)]
  have v29 : V2 200 29 = V 200 29 + 1 := by rw [hV 200 (by decide) (by decide)]; unfold xpu; rw [zup_eq]
  have vc : ∀ d : Nat, d ≠ 200 → d ≠ 229 → d ≠ 231 → d ≠ 232 → V2 d = V d := fun d d1 d2 d3 d4 => by rw [hV d d3 d4]; unfold xpu; rw [zup_c d1, zup_c d2]
  have v229 : V2 229 = zup V 229 (V 200 29) c 229 := by rw [hV 229 (by decide) (by decide)]; unfold xpu; rw [zup_c (by decide)]
  have hlt := (s_next hK c0 c1).1
  have f2 : xFv V0 V2 := by
    refine ⟨fun d hd => by rw [vc d (by omega) (by omega) (by omega) (by omega)]; exact hK.2.2.1 d hd, fun d q hs => ?_⟩
    by_cases e1 : d = 200
    · subst e1
      by_cases e2 : q = 29
      · subst e2; cases hs
      · rw [v200 q e2]; exact hK.2.2.2 200 q hs
    · by_cases e3 : d = 229
      · subst e3
        rw [v229]
        by_cases e4 : q = V 200 29
        · rw [e4, zSc_229 (by omega) (by omega)] at hs; cases hs
        · rw [zup_nk e4]; exact hK.2.2.2 229 q hs
      · by_cases e5 : d = 231 ∨ d = 232
        · rcases e5 with rfl | rfl <;> cases hs
        · rw [vc d e1 e3 (fun e => e5 (Or.inl e)) (fun e => e5 (Or.inr e))]; exact hK.2.2.2 d q hs
  have h2 : xK T n M0 V0 M V2 := xK_v hK (vc 203 (by decide) (by decide) (by decide) (by decide)) (fun q q0 q1 => v200 q (by omega)) f2
  obtain ⟨-, W, e, fW, vW, gW⟩ := s_next h2 c0 c1
  have m1c : ∀ c : Nat, c ≠ 30 → zup M 30 3 (M 30 3 + 1) c = M c := fun c hc => zup_c hc
  have m13 : zup M 30 3 (M 30 3 + 1) 30 3 = M 30 3 + 1 := zup_eq
  have m1q : ∀ q : Int, q ≠ 3 → zup M 30 3 (M 30 3 + 1) 30 q = M 30 q := fun q hq => zup_nk hq
  refine ⟨W, e, ⟨⟨fun d d1 _ _ => m1c d d1, m1q, fun q _ _ => by rw [m1c 60 (by decide)], fun q _ => by rw [m1c 76 (by decide)], by rw [m1c 60 (by decide)]; simp, rfl⟩, Or.inl ⟨by simp, by rw [m1c 60 (by decide)]⟩, by rw [m13]; omega, fun d d1 d2 d3 d4 => by rw [fW.1 d d1, vc d d1 d2 d3 d4], fun q q1 q2 => by rw [fW.2 q q1, v200 q q2], fun q hq => by rw [fW.1 229 (by decide), v229, zup_nk (by omega)], by rw [fW.2 29 (by omega), v29]; rfl, ?_⟩, ⟨⟨gW _ (m1c 20 (by decide)) (m1c 21 (by decide)) (m1c 23 (by decide)) (m1c 24 (by decide)) m13, hK.2.1.up (by omega), vW⟩, ⟨by rw [m1c 60 (by decide)]; exact a0, by rw [m1c 60 (by decide), m13]; omega⟩, ⟨by rw [fW.2 29 (by omega), v29]; omega, by rw [fW.2 29 (by omega), v29, m13]; omega⟩, by rw [m1c 60 (by decide)]; exact hs, by rw [m1c 60 (by decide)]; exact hw⟩, fW.1 231 (by decide), fW.1 232 (by decide)⟩
  show [W 229 (V 200 29)] = [c]
  rw [fW.1 229 (by decide), v229, zup_eq]
/-- the model's loop -/
noncomputable def xfR (s : Int × Int × zMem) : Option ((Int × Int × zMem) ⊕ ((Int × Int × zMem) ⊕ (Int × zMem))) := fX12_reads_l11 s.1 s.2.1 s.2.2
theorem m_pop {D : Nat} {y : Int} : ∀ d : Nat, D ≤ d → d < 7 → (∀ j : Nat, D < j → j ≤ d → V 231 j = 1) → (D = 0 ∨ V 231 D ≠ 1) → zit (fun s118 : Int => fX12_reads_l152 y s118 V) (d : Int) = some (D : Int)
  | 0, h0, _, _, _ => by
    have : D = 0 := by omega
    subst this
    refine zit_r ?_
    show fX12_reads_l152 y 0 V = _
    unfold fX12_reads_l152
    rw [if_pos (by decide)]
    rfl
  | d + 1, h0, h7, ho, hD => by
    by_cases e : D = d + 1
    · subst e
      refine zit_r ?_
      show fX12_reads_l152 y ((d + 1 : Nat) : Int) V = _
      unfold fX12_reads_l152
      rw [if_neg (by omega), zgd_t ⟨by omega, by omega⟩, if_neg (by
        rcases hD with q | q
        · omega
        · exact q)]
    · have st : fX12_reads_l152 y ((d + 1 : Nat) : Int) V = some (.inl (d : Int)) := by
        unfold fX12_reads_l152
        rw [if_neg (by omega), zgd_t ⟨by omega, by omega⟩, if_pos (ho (d + 1) (by omega) (Nat.le_refl _)), zw_i (by omega) (by omega), show ((d + 1 : Nat) : Int) + -1 = d by omega]
      rw [zit_l (f := fun s118 : Int => fX12_reads_l152 y s118 V) (s := ((d + 1 : Nat) : Int)) st]
      exact m_pop d (by omega) (by omega) (fun j j0 j1 => ho j j0 (by omega)) hD
theorem m_pop2 {D : Nat} {y : Int} {d : Nat} (h0 : D ≤ d) (h7 : d < 7) (ho : ∀ j : Nat, D < j → j ≤ d → V 231 j = 1) (hD : D = 0 ∨ V 231 D ≠ 1) : zit (fun s71 : Int => fX12_reads_l379 y s71 V) (d : Int) = some (D : Int) := m_pop (y := y) d h0 h7 ho hD
end SP2
