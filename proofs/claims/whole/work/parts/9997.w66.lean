/-! PURE PART, 66: what is seen, by class and model -/
section TK4
variable {M V M0 V0 : zMem} {T T' : Int → Int} {n p e s c w t v : Int}
/-- the class's token and the model's -/
def xSe (T : Int → Int) (c t w v p : Int) : Prop := (c = 0 ∧ t = 0) ∨ (c = 1 ∧ t = 4) ∨ (t = 1 ∧ xWd w c) ∨ (t = 2 ∧ c = 1000 + v ∧ 0 ≤ v ∧ v ≤ 9999) ∨ (t = 3 ∧ c = T p ∧ xsg (T p))
theorem xSe_r (h : xSe T c t w v p) : c = 0 ∨ c = 1 ∨ c = 2 ∨ xsg c ∨ (100 ≤ c ∧ c ≤ 128) ∨ (1000 ≤ c ∧ c ≤ 10999) := by
  rcases h with h | h | ⟨-, h⟩ | h | h
  · omega
  · omega
  · rcases h with h | ⟨k, k1, k2, -⟩
    · omega
    · omega
  · omega
  · have := h.2.2
    rw [← h.2.1] at this
    exact Or.inr (Or.inr (Or.inr (Or.inl this)))
theorem xSe_w (h : xSe T c t w v p) {k : Nat} (hk : k < 29) : (t = 1 ∧ w = xwk k) ↔ c = 100 + (k : Int) := by
  constructor
  · rintro ⟨h1, h2⟩
    rcases h with h | h | ⟨-, h⟩ | h | h
    · omega
    · omega
    · rcases h with h | ⟨l, l1, l2, l3⟩
      · exact absurd h2 (h.2 k hk)
      · have := xwk_i k hk l l1 (by rw [← h2, l3])
        omega
    · omega
    · omega
  · intro e
    rcases h with h | h | ⟨h0, h⟩ | h | h
    · omega
    · omega
    · rcases h with h | ⟨l, l1, l2, l3⟩
      · omega
      · have : l = k := by omega
        rw [this] at l3
        exact ⟨h0, l3⟩
    · omega
    · have := h.2.2
      have := h.2.1
      omega
theorem xSe_1 (h : xSe T c t w v p) : t = 1 ↔ (c = 2 ∨ (100 ≤ c ∧ c ≤ 128)) := by
  rcases h with h | h | ⟨h0, h⟩ | h | h
  · omega
  · omega
  · rcases h with h | ⟨l, l1, l2, l3⟩
    · omega
    · omega
  · omega
  · have := h.2.2
    have := h.2.1
    omega
theorem xSe_2 (h : xSe T c t w v p) : (t = 2 ↔ 1000 ≤ c) ∧ (t = 2 → v = c - 1000) := by
  rcases h with h | h | ⟨h0, h⟩ | h | h
  · omega
  · omega
  · rcases h with h | ⟨l, l1, l2, l3⟩
    · omega
    · omega
  · omega
  · have := h.2.2
    have := h.2.1
    omega
theorem xSe_3 (h : xSe T c t w v p) (hs : xsg s) : (t = 3 ∧ T p = s) ↔ c = s := by
  rcases h with h | h | ⟨h0, h⟩ | h | h
  · omega
  · omega
  · rcases h with h | ⟨l, l1, l2, l3⟩
    · omega
    · omega
  · omega
  · have := h.2.2
    have := h.2.1
    omega
theorem xck_mk {e : Int} (h1 : xck T p e c) (h2 : xmk T p e t w v) : xSe T c t w v p := by
  rcases h1 with ⟨a, b⟩ | ⟨a, b⟩ | ⟨a, a', b⟩
  · rcases h2 with ⟨x, y⟩ | ⟨x, y⟩ | ⟨x, x', y⟩
    · rcases b with ⟨b1, b2⟩ | ⟨b1, b2⟩
      · rcases y with ⟨y1, y2, y3⟩ | ⟨y1, y2⟩
        · rw [← y3] at b2
          exact Or.inr (Or.inr (Or.inl ⟨y2, b2⟩))
        · omega
      · rcases y with ⟨y1, y2, y3⟩ | ⟨y1, y2⟩
        · omega
        · exact Or.inr (Or.inl ⟨b2, y2⟩)
    · omega
    · exact absurd a x
  · rcases h2 with ⟨x, y⟩ | ⟨x, y⟩ | ⟨x, x', y⟩
    · omega
    · rcases b with ⟨b1, b2, b3, b4⟩ | ⟨b1, b2⟩
      · rcases y with ⟨y1, y2, y3⟩ | ⟨y1, y2⟩
        · rw [← y3] at b2 b3 b4
          exact Or.inr (Or.inr (Or.inr (Or.inl ⟨y2, b2, b3, b4⟩)))
        · omega
      · rcases y with ⟨y1, y2, y3⟩ | ⟨y1, y2⟩
        · omega
        · exact Or.inr (Or.inl ⟨b2, y2⟩)
    · exact absurd a x'
  · rcases h2 with ⟨x, y⟩ | ⟨x, y⟩ | ⟨x, x', y⟩
    · exact absurd x a
    · exact absurd x a'
    · rcases b with ⟨b1, b2⟩ | ⟨b1, b2⟩
      · rcases y with ⟨y1, y2⟩ | ⟨y1, y2⟩
        · exact Or.inr (Or.inr (Or.inr (Or.inr ⟨y2, b2, b1⟩)))
        · exact absurd b1 y1
      · rcases y with ⟨y1, y2⟩ | ⟨y1, y2⟩
        · exact absurd y1 b1
        · exact Or.inr (Or.inl ⟨b2, y2⟩)
/-- a word stands at p -/
def xW (T : Int → Int) (n p w : Int) : Prop := 0 ≤ p ∧ ∃ e : Int, xen T n p e ∧ xlet (T p) ∧ e - p ≤ 8 ∧ w = xwv T p (e - p).toNat
/-- class and model see the same token -/
def xJ (T : Int → Int) (n : Int) (M V : zMem) : Prop := ((M 20 1 = n ∧ 0 ≤ n ∧ n ≤ 1000) ∧ M 21 = T ∧ M 20 3 ≤ 1001) ∧ (V 200 3 = n ∧ ∀ k : Int, 0 ≤ k → k < n → V 203 k = T k) ∧ (0 ≤ M 30 3 ∧ M 30 3 < M 20 3) ∧ ((M 23 (M 30 3) % 1024 = V 200 5 ∧ 0 ≤ M 23 (M 30 3) ∧ M 23 (M 30 3) ≤ 2147483647) ∧ 0 ≤ V 200 5 ∧ V 200 5 ≤ n ∧ (V 200 6 = 0 ∨ V 200 5 < n)) ∧ xSe T (M 23 (M 30 3) / 1024) (V 200 6) (V 200 7) (V 200 8) (V 200 5) ∧ (V 200 6 = 1 → xW T n (V 200 5) (V 200 7)) ∧ ((M 23 (M 30 3) / 1024) = 0 ∨ (M 23 (M 30 3) / 1024) = 1 ∨ ∃ f : Nat, xA T n M f (M 30 3 + 1) (V 200 4) ∧ 0 ≤ V 200 4 ∧ V 200 4 ≤ n)
/-- what the class, what the model changes while it reads -/
def xFc (M0 M : zMem) : Prop := ∀ c : Nat, c < 30 ∨ (40 ≤ c ∧ c < 60) ∨ 80 ≤ c → M c = M0 c
def xFv (V0 V : zMem) : Prop := (∀ c : Nat, c < 200 ∨ 300 ≤ c → V c = V0 c) ∧ zAg V0 V
def xK (T : Int → Int) (n : Int) (M0 V0 M V : zMem) : Prop := xJ T n M V ∧ xFc M0 M ∧ xFv V0 V
def xFt (M0 V0 M V : zMem) : Prop := (0 < M 30 5 ∧ M 30 5 ≤ 5) ∧ (0 ≤ M 30 3 ∧ M 30 3 < M 20 3 ∧ M 20 3 ≤ 1001) ∧ (V 200 9 = M 30 5 + 16 * (M 23 (M 30 3) % 1024) ∧ (0 ≤ M 23 (M 30 3) ∧ M 23 (M 30 3) ≤ 2147483647) ∧ M 23 (M 30 3) % 1024 ≤ 1000) ∧ xFc M0 M ∧ xFv V0 V
def xS (Q F : zMem → zMem → Prop) (f g : Option (Int × zMem)) : Prop := ∃ M' V' : zMem, (f = some (1, M') ∧ g = some (1, V') ∧ Q M' V') ∨ (f = some (0, M') ∧ g = some (0, V') ∧ F M' V')
theorem xFc.up (h : xFc M0 M) {c : Nat} {k v : Int} (hc : (30 ≤ c ∧ c < 40) ∨ (60 ≤ c ∧ c < 80)) : xFc M0 (zup M c k v) := fun d hd => by rw [zup_c (by omega)]; exact h d hd
theorem xFv.up (h : xFv V0 V) {c : Nat} {k v : Int} (hc : 200 ≤ c ∧ c < 300) (hs : zSc c k = false) : xFv V0 (zup V c k v) := ⟨fun d hd => by rw [zup_c (by omega)]; exact h.1 d hd, h.2.up hs⟩
theorem zSc_200 {q : Int} (h0 : 4 ≤ q) (h1 : q ≤ 8) : zSc 200 q = false := by
  have : q = 4 ∨ q = 5 ∨ q = 6 ∨ q = 7 ∨ q = 8 := by omega
  rcases this with rfl | rfl | rfl | rfl | rfl <;> rfl
theorem xFv.nx {W : zMem} (h : xFv V0 V) (f : xFn V W) : xFv V0 W := ⟨fun d hd => by rw [f.1 d (by omega)]; exact h.1 d hd, fun c q hs => by
  by_cases e : c = 200
  · subst e
    by_cases u : q < 4 ∨ 8 < q
    · rw [f.2 q u]; exact h.2 200 q hs
    · rw [zSc_200 (by omega) (by omega)] at hs; cases hs
  · rw [f.1 c e]; exact h.2 c q hs⟩
theorem xA_c {M' : zMem} (h1 : M' 20 = M 20) (h2 : M' 23 = M 23) (h3 : M' 24 = M 24) : ∀ (f : Nat) (i s : Int), xA T n M f i s → xA T n M' f i s
  | 0, _, _, h => h
  | f + 1, i, s, h => by
    obtain ⟨a, p, b, c, d⟩ := h
    refine ⟨by rw [h1]; exact a, p, b, by rw [h2]; exact c, ?_⟩
    rw [h2]
    rcases d with d | ⟨d1, e, c, d2, d3, d4, d5⟩
    · exact Or.inl d
    · exact Or.inr ⟨d1, e, c, d2, d3, d4, d5.imp id (xA_c h1 h2 h3 f (i + 1) e)⟩
theorem xJ_c {M' V' : zMem} (h : xJ T n M V) (h1 : M' 20 = M 20) (h0 : M' 21 = M 21) (h2 : M' 23 = M 23) (h3 : M' 24 = M 24) (h4 : M' 30 3 = M 30 3) (v1 : V' 203 = V 203) (v2 : ∀ q : Int, 3 ≤ q → q ≤ 8 → V' 200 q = V 200 q) : xJ T n M' V' := by
  obtain ⟨a1, a2, a3, a4, a5, a6, a7⟩ := h
  unfold xJ
  rw [h1, h0, h2, h4, v1, v2 3 (by decide) (by decide), v2 4 (by decide) (by decide), v2 5 (by decide) (by decide), v2 6 (by decide) (by decide), v2 7 (by decide) (by decide), v2 8 (by decide) (by decide)]
  exact ⟨a1, a2, a3, a4, a5, a6, a7.imp id (Or.imp id fun ⟨f, x, y⟩ => ⟨f, xA_c h1 h2 h3 f _ _ x, y⟩)⟩
/-- from a place on, the next token of both -/
theorem s_first {f : Nat} {i : Int} (hM : (M 20 1 = n ∧ 0 ≤ n ∧ n ≤ 1000) ∧ M 21 = T ∧ M 20 3 ≤ 1001) (hV : V 200 3 = n ∧ ∀ k : Int, 0 ≤ k → k < n → V 203 k = T k) (hA : xA T n M f i (V 200 4)) (h0 : 0 ≤ V 200 4) (h1 : V 200 4 ≤ n) : ∃ W : zMem, fX12_nextToken V = some W ∧ xFn V W ∧ ∀ M' : zMem, M' 20 = M 20 → M' 21 = M 21 → M' 23 = M 23 → M' 24 = M 24 → M' 30 3 = i → xJ T n M' W := by
  obtain ⟨W, e, fW, p, hk, w5, hp⟩ := zS_ex.1 (m_nextToken hV.1 hM.1.2.1 hM.1.2.2 hV.2 rfl h0 h1)
  refine ⟨W, e, fW, fun M' m1 m0 m2 m3 m4 => ?_⟩
  cases f with
  | zero => exact hA.elim
  | succ f =>
    obtain ⟨⟨i0, i1⟩, p', hk', q24, hp'⟩ := hA
    have ep := xsk_u hk hk'
    subst ep
    have pb : V 200 4 ≤ p ∧ p ≤ n := ⟨hk.1, hk.2.1⟩
    have hV' : W 200 3 = n ∧ ∀ k : Int, 0 ≤ k → k < n → W 203 k = T k := by
      rw [fW.2 3 (by omega), fW.1 203 (by decide)]; exact hV
    unfold xJ
    rw [m1, m0, m2, m4, w5]
    refine ⟨hM, hV', ⟨i0, i1⟩, ⟨q24, by omega, by omega, ?_⟩, ?_⟩
    · rcases hp with q | q
      · exact Or.inl q.2
      · exact Or.inr q.1
    · rcases hp' with ⟨x1, x2⟩ | ⟨x1, e1, c, x2, x3, x4, x5⟩
      · rcases hp with ⟨y1, y2⟩ | ⟨y1, -⟩
        · rw [x2, y2]
          exact ⟨Or.inl ⟨rfl, rfl⟩, fun q => (by cases q), Or.inl rfl⟩
        · omega
      · rcases hp with ⟨y1, -⟩ | ⟨y1, e2, y2, y3, y4⟩
        · omega
        · have ee := xen_u x2 y2
          subst ee
          have eb := x2.1
          rw [x4]
          refine ⟨xck_mk x3 y4, fun q => ?_, Or.inr ?_⟩
          · rcases y4 with ⟨z1, z2⟩ | ⟨z1, z2⟩ | ⟨z1, z2, z3⟩
            · rcases z2 with ⟨u1, u2, u3⟩ | ⟨u1, u2⟩
              · exact ⟨by omega, e1, x2, z1, u1, u3⟩
              · omega
            · omega
            · omega
          · rcases x5 with q | q
            · exact Or.inl q
            · refine Or.inr ⟨f, xA_c m1 m2 m3 f _ _ ?_, by rw [y3]; omega, by rw [y3]; omega⟩
              rw [y3]; exact q
theorem s_next (h : xK T n M0 V0 M V) (c0 : (M 23 (M 30 3) / 1024) ≠ 0) (c1 : (M 23 (M 30 3) / 1024) ≠ 1) : M 30 3 + 1 < M 20 3 ∧ ∃ W : zMem, fX12_nextToken V = some W ∧ xFn V W ∧ xFv V0 W ∧ ∀ M' : zMem, M' 20 = M 20 → M' 21 = M 21 → M' 23 = M 23 → M' 24 = M 24 → M' 30 3 = M 30 3 + 1 → xJ T n M' W := by
  obtain ⟨⟨a1, a2, a3, a4, a5, a6, a7⟩, fc, fv⟩ := h
  rcases a7 with q | q | ⟨f, x, y0, y1⟩
  · exact absurd q c0
  · exact absurd q c1
  · obtain ⟨W, e, fW, g⟩ := s_first a1 a2 x y0 y1
    refine ⟨?_, W, e, fW, fv.nx fW, g⟩
    cases f with
    | zero => exact x.elim
    | succ f => exact x.1.2
theorem s_fail (h : xK T n M0 V0 M V) {k : Int} (k0 : 0 < k) (k1 : k ≤ 5) : fX6_refuse k M = some (0, zup M 30 5 k) ∧ fX12_fails k V = some (0, zup V 200 9 (k + 16 * V 200 5)) ∧ xFt M0 V0 (zup M 30 5 k) (zup V 200 9 (k + 16 * V 200 5)) := by
  obtain ⟨⟨a1, a2, a3, a4, a5, a6, a7⟩, fc, fv⟩ := h
  have b := a1.1
  refine ⟨rfl, ?_, ?_, ?_, ?_, fc.up (by omega), fv.up (by omega) rfl⟩
  · unfold fX12_fails
    rw [zw_i (by omega) (by omega)]
  · rw [zup_eq]; exact ⟨k0, k1⟩
  · rw [zup_nk (by decide), zup_ne (by decide)]; exact ⟨a3.1, a3.2, a1.2.2⟩
  · rw [zup_eq, zup_eq, zup_nk (show (3 : Int) ≠ 5 by decide), zup_ne (show (23 : Nat) ≠ 30 by decide), a4.1.1]
    exact ⟨rfl, a4.1.2, by omega⟩
theorem e_seen (h : xJ T n M V) : fX6_seen M = some (M 23 (M 30 3) / 1024) ∧ fX6_placeSeen M = some (V 200 5) := by
  obtain ⟨a1, a2, a3, a4, -⟩ := h
  unfold fX6_seen fX6_placeSeen fX8_tokenAt fX8_placeAt
  rw [if_neg (by omega), if_neg (by omega), if_neg (by omega), if_neg (by omega), zgd_t ⟨a3.1, by omega⟩, zgd_t (by decide), zgd_t ⟨a3.1, by omega⟩, zgd_t (by decide), zdiv_n ⟨by omega, by omega⟩ ⟨by decide, by decide⟩ a4.1.2.1 (by decide), zrem_n ⟨by omega, by omega⟩ ⟨by decide, by decide⟩ a4.1.2.1 (by decide), a4.1.1]
  exact ⟨rfl, rfl⟩
theorem m_isWord (h : xJ T n M V) {k : Nat} (hk : k < 29) {w : Int} (hw : w = xwk k) : fX12_isWord w V = some (if (M 23 (M 30 3) / 1024) = 100 + (k : Int) then 1 else 0) := by
  have e := xSe_w h.2.2.2.2.1 hk
  unfold fX12_isWord
  by_cases c : (M 23 (M 30 3) / 1024) = 100 + (k : Int)
  · obtain ⟨e1, e2⟩ := e.2 c
    rw [if_pos e1, if_pos (by rw [e2, hw]), if_pos c]
  · rw [if_neg c]
    by_cases d : V 200 6 = 1
    · rw [if_pos d, if_neg (fun q => c (e.1 ⟨d, by rw [q, hw]⟩))]
    · rw [if_neg d]
theorem m_isSign (h : xJ T n M V) (hs : xsg s) : fX12_isSign s V = some (if (M 23 (M 30 3) / 1024) = s then 1 else 0) := by
  obtain ⟨a1, a2, a3, a4, a5, -⟩ := h
  have e := xSe_3 a5 hs
  have b := a1.1
  unfold fX12_isSign
  by_cases d : V 200 6 = 3
  · have pn : V 200 5 < n := by
      rcases a4.2.2.2 with q | q
      · omega
      · exact q
    rw [if_pos d, zgd_t ⟨a4.2.1, by omega⟩, a2.2 _ a4.2.1 pn]
    by_cases c : T (V 200 5) = s
    · rw [if_pos c, if_pos (e.1 ⟨d, c⟩)]
    · rw [if_neg c, if_neg (fun q => c (e.2 q).2)]
  · rw [if_neg d, if_neg (fun q => d (e.2 q).1)]
end TK4
