/-! PURE PART, 69: what is read so far; the line of a BOWL -/
section TK7
variable {M V M0 V0 : zMem} {T T' : Int → Int} {n p e s c w t v : Int}
def xBo (M V : zMem) (k : Int) : Prop := (V 215 (12 + k) = M 63 k ∧ 1 ≤ M 63 k ∧ M 63 k ≤ 9999) ∧ (V 216 (12 + k) = M 64 k ∧ 1 ≤ M 64 k ∧ M 64 k ≤ 99) ∧ (V 217 (12 + k) = M 65 k ∧ 1 ≤ M 65 k ∧ M 65 k ≤ 20) ∧ (V 218 (12 + k) = M 66 k ∧ 0 ≤ M 66 k ∧ M 66 k ≤ 3) ∧ M 67 k = if M 66 k = 3 then -1 else zsum (fun b => if M 66 b = 3 then 0 else 1) k.toNat
def xPa (M V : zMem) (k : Int) : Prop := (V 220 (8 + k) = M 69 k ∧ 0 ≤ M 69 k ∧ M 69 k < M 60 0) ∧ (V 221 (8 + k) = M 70 k ∧ 1 ≤ M 70 k ∧ M 70 k ≤ 20) ∧ (V 222 (8 + k) = M 71 k ∧ 0 ≤ M 71 k ∧ M 71 k < M 60 0 ∧ M 71 k ≠ M 69 k) ∧ (V 223 (8 + k) = M 72 k ∧ 1 ≤ M 72 k ∧ M 72 k ≤ 20) ∧ (V 224 (8 + k) = M 73 k ∧ 0 ≤ M 73 k ∧ M 73 k ≤ 9999)
def xTd (M V : zMem) : Prop := (∀ k : Int, 0 ≤ k → k < 11 → V 225 (11 + k) = M 79 k ∧ zlea k ≤ M 79 k ∧ M 79 k ≤ zmos k) ∧ ∃ m : Nat, M 30 4 = m ∧ m < 2048 ∧ ∀ k : Nat, k < 11 → V 226 k = if m.testBit k then 1 else 0
def xD (M V : zMem) : Prop := (V 212 1 = M 60 7 ∧ 0 ≤ M 60 7 ∧ M 60 7 ≤ 8) ∧ (∀ k : Int, 0 ≤ k → k < M 60 0 → xBo M V k) ∧ (∀ k : Int, 0 ≤ k → k < M 60 7 → xPa M V k) ∧ xTd M V ∧ M 60 1 = zsum (fun b => if M 66 b = 3 then 0 else 1) (M 60 0).toNat
def xZ (M V : zMem) : Prop := (V 213 1 = M 60 13 ∧ 0 ≤ M 60 13 ∧ M 60 13 ≤ 4) ∧ (0 ≤ M 60 16 ∧ M 60 16 ≤ M 30 3 ∧ M 60 16 = zca (M 78) (M 60 13).toNat) ∧ (1000 ≤ V 200 29 ∧ V 200 29 ≤ 1000 + M 30 3) ∧ (0 ≤ M 60 14 ∧ M 60 14 < 2 ^ (M 60 13).toNat) ∧ ∀ k : Nat, (k : Int) < M 60 13 → (0 ≤ zca (M 78) k ∧ zca (M 78) k ≤ M 78 k ∧ M 78 k ≤ M 60 16) ∧ (1000 ≤ V 227 (4 + k) ∧ V 227 (4 + k) ≤ V 228 (4 + k) ∧ V 228 (4 + k) ≤ V 200 29) ∧ zXs (zseg (M 76) (zca (M 78) k) (M 78 k - zca (M 78) k).toNat) (zseg (V 229) (V 227 (4 + k)) (V 228 (4 + k) - V 227 (4 + k)).toNat) (M 60 14 / 2 ^ k % 2)
def xL (T : Int → Int) (n : Int) (M0 V0 M V : zMem) : Prop := xK T n M0 V0 M V ∧ xNm T n M V ∧ xD M V ∧ xZ M V
/-- read on by at least a token -/
def xL1 (T : Int → Int) (n : Int) (M0 V0 Ms M V : zMem) : Prop := xL T n M0 V0 M V ∧ Ms 30 3 < M 30 3 ∧ M 30 5 = Ms 30 5
theorem xZ_c {M' V' : zMem} (h : xZ M V) (h1 : M' 60 13 = M 60 13) (h2 : M' 60 14 = M 60 14) (h3 : M' 60 16 = M 60 16) (h4 : M' 76 = M 76) (h5 : M' 78 = M 78) (h6 : M 30 3 ≤ M' 30 3) (v1 : V' 213 1 = V 213 1) (v2 : V' 227 = V 227) (v3 : V' 228 = V 228) (v4 : V' 229 = V 229) (v5 : V' 200 29 = V 200 29) : xZ M' V' := by
  obtain ⟨a1, a2, a3, a4, a5⟩ := h
  unfold xZ
  rw [h1, h2, h3, h4, h5, v1, v2, v3, v4, v5]
  exact ⟨a1, ⟨a2.1, by omega, a2.2.2⟩, ⟨a3.1, by omega⟩, a4, a5⟩
theorem xTd_c {M' V' : zMem} (h : xTd M V) (h1 : M' 79 = M 79) (h2 : M' 30 4 = M 30 4) (v1 : V' 225 = V 225) (v2 : V' 226 = V 226) : xTd M' V' := by
  unfold xTd at h ⊢
  rw [h1, h2, v1, v2]; exact h
theorem xPa_c {M' V' : zMem} {k : Int} (h : xPa M V k) (h1 : ∀ d : Nat, 69 ≤ d → d < 74 → M' d k = M d k) (h2 : M 60 0 ≤ M' 60 0) (v1 : ∀ d : Nat, 220 ≤ d → d < 225 → V' d (8 + k) = V d (8 + k)) : xPa M' V' k := by
  obtain ⟨a1, a2, a3, a4, a5⟩ := h
  unfold xPa
  rw [h1 69 (by omega) (by omega), h1 70 (by omega) (by omega), h1 71 (by omega) (by omega), h1 72 (by omega) (by omega), h1 73 (by omega) (by omega), v1 220 (by omega) (by omega), v1 221 (by omega) (by omega), v1 222 (by omega) (by omega), v1 223 (by omega) (by omega), v1 224 (by omega) (by omega)]
  exact ⟨⟨a1.1, a1.2.1, by omega⟩, a2, ⟨a3.1, a3.2.1, by omega, a3.2.2.2⟩, a4, a5⟩
theorem xBo_c {M' V' : zMem} {k : Int} (k0 : 0 ≤ k) (h : xBo M V k) (h1 : ∀ d : Nat, 63 ≤ d → d < 68 → ∀ q : Int, 0 ≤ q → q ≤ k → M' d q = M d q) (v1 : ∀ d : Nat, 215 ≤ d → d < 219 → V' d (12 + k) = V d (12 + k)) : xBo M' V' k := by
  obtain ⟨a1, a2, a3, a4, a5⟩ := h
  unfold xBo
  rw [h1 63 (by omega) (by omega) k k0 (Int.le_refl _), h1 64 (by omega) (by omega) k k0 (Int.le_refl _), h1 65 (by omega) (by omega) k k0 (Int.le_refl _), h1 66 (by omega) (by omega) k k0 (Int.le_refl _), h1 67 (by omega) (by omega) k k0 (Int.le_refl _), v1 215 (by omega) (by omega), v1 216 (by omega) (by omega), v1 217 (by omega) (by omega), v1 218 (by omega) (by omega)]
  refine ⟨a1, a2, a3, a4, ?_⟩
  rw [a5]
  have : zsum (fun b => if M 66 b = 3 then 0 else 1) k.toNat = zsum (fun b => if M' 66 b = 3 then 0 else 1) k.toNat := zsum_eq fun q hq => by rw [h1 66 (by omega) (by omega) q (by omega) (by omega)]
  rw [this]
theorem zSc_12 {c : Nat} {k : Int} (hc : 215 ≤ c ∧ c < 220) (h0 : 12 ≤ k) (h1 : k < 24) : zSc c k = false := by
  have : c = 215 ∨ c = 216 ∨ c = 217 ∨ c = 218 ∨ c = 219 := by omega
  rcases this with rfl | rfl | rfl | rfl | rfl <;> (simp only [zSc, zfull, zprt, decide_eq_true h0, decide_eq_true h1]; rfl)
theorem zSc_8 {c : Nat} {k : Int} (hc : 220 ≤ c ∧ c < 225) (h0 : 8 ≤ k) (h1 : k < 16) : zSc c k = false := by
  have : c = 220 ∨ c = 221 ∨ c = 222 ∨ c = 223 ∨ c = 224 := by omega
  rcases this with rfl | rfl | rfl | rfl | rfl <;> (simp only [zSc, zfull, zprt, decide_eq_true h0, decide_eq_true h1]; rfl)
theorem e_putBowl {kd : Int} (h0 : 0 ≤ M 60 0) (h1 : M 60 0 < 12) (p0 : 0 ≤ M 60 1) (p1 : M 60 1 ≤ 12) : fX7_putBowl 60 kd M = some (zup (zup (zup (zup M 66 (M 60 0) kd) 67 (M 60 0) (if kd = 3 then -1 else M 60 1)) 60 1 (M 60 1 + (if kd = 3 then 0 else 1))) 60 0 (M 60 0 + 1)) := by
  unfold fX7_putBowl fX7_putBowl_j31 fX7_putBowl_j47
  rw [zgd_t ⟨h0, h1⟩]
  show (if kd = 3 then zgd ((0 : Int) ≤ zup M 66 (M 60 0) kd 60 0 ∧ zup M 66 (M 60 0) kd 60 0 < 12) _ else zgd ((0 : Int) ≤ zup M 66 (M 60 0) kd 60 0 ∧ zup M 66 (M 60 0) kd 60 0 < 12) _) = _
  have e0 : zup M 66 (M 60 0) kd 60 0 = M 60 0 := zup_ne (by decide)
  have e1 : zup M 66 (M 60 0) kd 60 1 = M 60 1 := zup_ne (by decide)
  by_cases c : kd = 3
  · rw [if_pos c, if_pos c, if_pos c, if_pos c, zgd_t (by rw [e0]; exact ⟨h0, h1⟩), e0, zup_ne (show (60 : Nat) ≠ 67 by decide), e1, zw_i (x := M 60 1 + 0) (by omega) (by omega)]
    rw [zup_nk (show (0 : Int) ≠ 1 by decide), zup_ne (show (60 : Nat) ≠ 67 by decide), e0, zw_i (x := M 60 0 + 1) (by omega) (by omega)]
  · rw [if_neg c, if_neg c, if_neg c, if_neg c, zgd_t (by rw [e0]; exact ⟨h0, h1⟩), e0, e1, zup_ne (show (60 : Nat) ≠ 67 by decide), e1, zw_i (x := M 60 1 + 1) (by omega) (by omega)]
    rw [zup_nk (show (0 : Int) ≠ 1 by decide), zup_ne (show (60 : Nat) ≠ 67 by decide), e0, zw_i (x := M 60 0 + 1) (by omega) (by omega)]
theorem s_newName (h : xK T n M0 V0 M V) (hN : xNm T n M V) (hb : M 60 0 < 12) : (∃ Mf Vf : zMem, fX6_newName (M 60 0) M = some (0, Mf) ∧ ((fX12_isKept V = some 1 ∧ fX12_fails 1 V = some (0, Vf)) ∨ (fX12_isKept V = some 0 ∧ ∃ r : Int, fX12_bowlOf V = some r ∧ ¬ r < 0 ∧ fX12_fails 3 V = some (0, Vf))) ∧ xFt M0 V0 Mf Vf) ∨ (∃ M' W : zMem, fX6_newName (M 60 0) M = some (1, M') ∧ fX12_isKept V = some 0 ∧ fX12_bowlOf V = some (-1) ∧ fX12_nextToken (zup V 214 (M 60 0) (V 200 7)) = some W ∧ ((∀ c : Nat, c ≠ 30 → c ≠ 32 → M' c = M c) ∧ (∀ q : Int, q ≠ 3 → M' 30 q = M 30 q) ∧ M' 30 3 = M 30 3 + 1 ∧ (∀ q : Int, q ≠ M 60 0 → M' 32 q = M 32 q) ∧ xW T n (M' 32 (M 60 0)) (V 200 7)) ∧ xFn (zup V 214 (M 60 0) (V 200 7)) W ∧ xK T n M0 V0 M' W) := by
  have nm := e_isName h.1
  have kp := m_isKept h.1
  have ps := (e_seen h.1).2
  have s1 := xSe_1 h.1.2.2.2.2.1
  have ab := h.1.2.2.1
  have bb := h.1.1.2.2
  unfold fX6_newName
  rw [nm, zbd_s]
  by_cases c : (M 23 (M 30 3) / 1024) = 2 ∨ (125 ≤ (M 23 (M 30 3) / 1024) ∧ (M 23 (M 30 3) / 1024) ≤ 128)
  · have ht : V 200 6 = 1 := s1.2 (by omega)
    obtain ⟨b, b1, b2, b3, b4⟩ := s_bowlSeen h.1 hN ht
    rw [if_pos c] at kp
    rw [if_pos c, if_neg (show ¬ (1 : Int) = 0 by decide), b1, zbd_s]
    by_cases d : b = -1
    · rw [if_pos d, ps, zbd_s, zgd_t ⟨hN.1.2.1, hb⟩, zup_ne (show (30 : Nat) ≠ 32 by decide), zw_i (x := M 30 3 + 1) (by omega) (by omega)]
      have h2 : xK T n M0 V0 M (zup V 214 (M 60 0) (V 200 7)) := ⟨xJ_c h.1 rfl rfl rfl rfl rfl (zup_c (by decide)) (fun q _ _ => zup_ne (by decide)), h.2.1, h.2.2.up (by omega) rfl⟩
      obtain ⟨-, W, e, fW, vW, gW⟩ := s_next h2 (by omega) (by omega)
      rw [d] at b2
      refine Or.inr ⟨_, W, rfl, kp, b2, e, ⟨fun c c1 c2 => by rw [zup_c c1, zup_c c2], fun q hq => by rw [zup_nk hq, zup_ne (by decide)], zup_eq, fun q hq => by rw [zup_ne (by decide), zup_nk hq], ?_⟩, fW, gW _ (by rw [zup_c (by decide), zup_c (by decide)]) (by rw [zup_c (by decide), zup_c (by decide)]) (by rw [zup_c (by decide), zup_c (by decide)]) (by rw [zup_c (by decide), zup_c (by decide)]) zup_eq, (h.2.1.up (by omega)).up (by omega), vW⟩
      rw [zup_ne (by decide), zup_eq]
      exact h.1.2.2.2.2.2.1 ht
    · obtain ⟨f1, f2, f3⟩ := s_fail h (k := 3) (by decide) (by decide)
      rw [if_neg d, f1]
      exact Or.inl ⟨_, _, rfl, Or.inr ⟨kp, b, b2, by omega, f2⟩, f3⟩
  · rw [if_neg c] at kp
    obtain ⟨f1, f2, f3⟩ := s_fail h (k := 1) (by decide) (by decide)
    rw [if_neg c, if_pos rfl, f1]
    exact Or.inl ⟨_, _, rfl, Or.inl ⟨kp, f2⟩, f3⟩
theorem zsum_p01 {p : Int → Prop} [DecidablePred p] {n : Nat} : 0 ≤ zsum (fun b => if p b then 0 else 1) n ∧ zsum (fun b => if p b then 0 else 1) n ≤ n := by
  refine ⟨zsum_0 fun q _ => by split <;> omega, ?_⟩
  have : zsum (fun b => if p b then 0 else 1) n ≤ 1 * (n : Int) := zsum_le fun q _ => by split <;> omega
  omega
end TK7
