/-! PURE PART, 72: laws, operands first and operands between -/
section SP1
variable {M V M0 V0 X X' X'' : zMem} {F : Int → Int} {D : Nat}
def xVal (h : Nat) (lc : List Int) (v : (Int → Int) → Int) : Prop := ∀ (F : Int → Int) (st : List Int), st.length + h ≤ 32 → zrp F lc st = some (v F :: st)
def xF3 (F : Int → Int) : Prop := ∀ i : Int, 1 ≤ i → i ≤ 5 → z32 (F i)
def xV3 (v : (Int → Int) → Int) : Prop := ∀ F : Int → Int, xF3 F → z32 (v F)
theorem zrp_app (F : Int → Int) : ∀ (l1 l2 st : List Int), zrp F (l1 ++ l2) st = zbd (zrp F l1 st) (zrp F l2)
  | [], l2, st => rfl
  | c :: l1, l2, st => by
    show zbd (zr1 F c st) (zrp F (l1 ++ l2)) = zbd (zbd (zr1 F c st) (zrp F l1)) (zrp F l2)
    cases zr1 F c st with
    | none => rfl
    | some s => exact zrp_app F l1 l2 s
theorem zmr_app : ∀ (l1 l2 : List Int) (d : Nat) (X : zMem), zmr (l1 ++ l2) d X = zbd (zmr l1 d X) (fun s => zmr l2 s.1 s.2)
  | [], l2, d, X => rfl
  | c :: l1, l2, d, X => by
    show zbd (zm1 c d X) (fun s => zmr (l1 ++ l2) s.1 s.2) = zbd (zbd (zm1 c d X) (fun s => zmr l1 s.1 s.2)) (fun s => zmr l2 s.1 s.2)
    cases zm1 c d X with
    | none => rfl
    | some s => exact zmr_app l1 l2 s.1 s.2
theorem xVal_op {c : Int} (h0 : -1000 ≤ c) (ho : zop c = true) : xVal 1 [c] (fun F => zro F c) := fun F st hl => by
  show zbd (zr1 F c st) (zrp F []) = _
  unfold zr1
  rw [if_neg (by omega), if_pos ho, if_pos (by omega)]
  rfl
theorem xVal_not {h : Nat} {l : List Int} {v : (Int → Int) → Int} (hv : xVal h l v) : xVal h (l ++ [-111]) (fun F => if v F = 0 then 1 else 0) := fun F st hl => by
  rw [zrp_app, hv F st hl, zbd_s]
  show zbd (zr1 F (-111) (v F :: st)) (zrp F []) = _
  unfold zr1
  rw [if_neg (by decide), if_neg (by decide), if_pos rfl]
  rfl
theorem xVal_bin {h h1 h2 : Nat} {l1 l2 : List Int} {v1 v2 : (Int → Int) → Int} {s : Int} (hv1 : xVal h1 l1 v1) (hv2 : xVal h2 l2 v2) (e1 : h1 ≤ h) (e2 : h2 + 1 ≤ h) (hs : s = 42 ∨ s = 43 ∨ s = 45 ∨ s = 60 ∨ s = 61 ∨ s = 112 ∨ s = 113) : xVal h (l1 ++ l2 ++ [-s]) (fun F => zrj s (v1 F) (v2 F)) := fun F st hl => by
  rw [zrp_app, zrp_app, hv1 F st (by omega), zbd_s, hv2 F _ (by rw [List.length_cons]; omega), zbd_s]
  show zbd (zr1 F (-s) (v2 F :: v1 F :: st)) (zrp F []) = _
  have z : zr1 F (-s) (v2 F :: v1 F :: st) = some (zrj (- -s) (v1 F) (v2 F) :: st) := by
    unfold zr1
    rw [if_neg (by omega), if_neg (by unfold zop; rcases hs with rfl | rfl | rfl | rfl | rfl | rfl | rfl <;> decide), if_neg (by omega)]
  rw [z, Int.neg_neg]
  rfl
theorem zrj_32 {s l r : Int} (hs : s = 42 ∨ s = 43 ∨ s = 45 ∨ s = 60 ∨ s = 61 ∨ s = 112 ∨ s = 113) : z32 (zrj s l r) := by
  have h01 : ∀ (p : Prop) [Decidable p] (a b : Int), z32 a → z32 b → z32 (if p then a else b) := fun p _ a b ha hb => by split <;> assumption
  have z0 : z32 0 := ⟨by decide, by decide⟩
  have z1 : z32 1 := ⟨by decide, by decide⟩
  unfold zrj
  exact h01 _ _ _ (z32_i _) (h01 _ _ _ (z32_i _) (h01 _ _ _ (z32_i _) (h01 _ _ _ (h01 _ _ _ z0 z1) (h01 _ _ _ (h01 _ _ _ z1 z0) (h01 _ _ _ (h01 _ _ _ z0 (h01 _ _ _ z0 z1)) (h01 _ _ _ (h01 _ _ _ z0 z1) z1))))))
theorem zrj_42 {l r : Int} : zrj 42 l r = zw (l * r) := by unfold zrj; rw [if_pos rfl]
theorem zrj_43 {l r : Int} : zrj 43 l r = zw (l + r) := by unfold zrj; rw [if_neg (show ¬ (43 : Int) = 42 by decide), if_pos rfl]
theorem zrj_45 {l r : Int} : zrj 45 l r = zw (l - r) := by unfold zrj; rw [if_neg (show ¬ (45 : Int) = 42 by decide), if_neg (show ¬ (45 : Int) = 43 by decide), if_pos rfl]
theorem zrj_60 {l r : Int} : zrj 60 l r = if r ≤ l then 0 else 1 := by unfold zrj; rw [if_neg (show ¬ (60 : Int) = 42 by decide), if_neg (show ¬ (60 : Int) = 43 by decide), if_neg (show ¬ (60 : Int) = 45 by decide), if_pos (show (60 : Int) = 60 from rfl)]
theorem zrj_61 {l r : Int} : zrj 61 l r = if l = r then 1 else 0 := by unfold zrj; rw [if_neg (show ¬ (61 : Int) = 42 by decide), if_neg (show ¬ (61 : Int) = 43 by decide), if_neg (show ¬ (61 : Int) = 45 by decide), if_neg (show ¬ (61 : Int) = 60 by decide), if_pos (show (61 : Int) = 61 from rfl)]
theorem zrj_112 {l r : Int} : zrj 112 l r = if l = 0 then 0 else if r = 0 then 0 else 1 := by unfold zrj; rw [if_neg (show ¬ (112 : Int) = 42 by decide), if_neg (show ¬ (112 : Int) = 43 by decide), if_neg (show ¬ (112 : Int) = 45 by decide), if_neg (show ¬ (112 : Int) = 60 by decide), if_neg (show ¬ (112 : Int) = 61 by decide), if_pos (show (112 : Int) = 112 from rfl)]
theorem zrj_113 {l r : Int} : zrj 113 l r = if l = 0 then (if r = 0 then 0 else 1) else 1 := by unfold zrj; rw [if_neg (show ¬ (113 : Int) = 42 by decide), if_neg (show ¬ (113 : Int) = 43 by decide), if_neg (show ¬ (113 : Int) = 45 by decide), if_neg (show ¬ (113 : Int) = 60 by decide), if_neg (show ¬ (113 : Int) = 61 by decide), if_neg (show ¬ (113 : Int) = 112 by decide)]
/-- machine memories alike up to depth D, but for rows from lo on at D itself -/
def xEq (lo D : Nat) (X X' : zMem) : Prop := (∀ c : Nat, 233 ≤ c → c ≤ 241 → ∀ j : Nat, j ≤ D → (j < D ∨ c < lo ∨ c = 241) → X' c j = X c j) ∧ X' 242 = X 242
theorem xEq.refl (lo D : Nat) (X : zMem) : xEq lo D X X := ⟨fun _ _ _ _ _ _ => rfl, rfl⟩
theorem xEq.trans {lo : Nat} (h : xEq lo D X X') (g : xEq lo D X' X'') : xEq lo D X X'' := ⟨fun c c0 c1 j j0 j1 => (g.1 c c0 c1 j j0 j1).trans (h.1 c c0 c1 j j0 j1), g.2.trans h.2⟩
theorem xEq.mono {lo lo' : Nat} (h : xEq lo D X X') (hl : lo' ≤ lo) : xEq lo' D X X' := ⟨fun c c0 c1 j j0 j1 => h.1 c c0 c1 j j0 (by omega), h.2⟩
theorem xEq.up {lo : Nat} (h : xEq lo D X X') {c : Nat} {v : Int} (h0 : lo ≤ c) (h1 : c ≤ 240) : xEq lo D X (zup X' c (D : Int) v) := ⟨fun d d0 d1 j j0 j1 => by
  by_cases e : d = c
  · subst e
    rw [zup_nk (by omega)]; exact h.1 d d0 d1 j j0 j1
  · rw [zup_ne e]; exact h.1 d d0 d1 j j0 j1, by rw [zup_c (by omega)]; exact h.2⟩
/-- a frame at D stands still below -/
def xBt (D : Nat) (X : zMem) : Prop := D = 0 ∨ X 241 D ≠ 1
theorem zmd_D {v : Int} (h : xBt D X) : zmd D v X = (D, zup X 239 (D : Int) (if X 240 D = 0 then v else zw (X 239 D * v))) := by
  cases D with
  | zero => rfl
  | succ d =>
    unfold zmd
    rw [if_neg (by
      rcases h with h | h
      · omega
      · exact h)]
def xr2 (D : Nat) (X : zMem) : Int := if X 238 D = 21 then zw (X 237 D - X 239 D) else zw (X 237 D + X 239 D)
def xr1 (D : Nat) (X : zMem) : Int := if X 236 D = 25 then (if X 235 D = xr2 D X then 1 else 0) else if X 236 D = 24 then (if xr2 D X ≤ X 235 D then 0 else 1) else xr2 D X
def xr0 (D : Nat) (X : zMem) : Int := if X 234 D = 27 then (if X 233 D = 0 then (if xr1 D X = 0 then 0 else 1) else 1) else if X 234 D = 26 then (if X 233 D = 0 then 0 else if xr1 D X = 0 then 0 else 1) else xr1 D X
theorem zms_237 : zms (D : Int) X 237 D = xr2 D X := by unfold zms xr2; rw [zup_ne (by decide), zup_eq]
theorem zms_o {c : Nat} {j : Int} (h1 : c ≠ 237) (h2 : c ≠ 240) : zms (D : Int) X c j = X c j := by unfold zms; rw [zup_ne h2, zup_ne h1]
theorem zms_240 : zms (D : Int) X 240 D = 0 := by unfold zms; rw [zup_eq]
theorem zmt_233 : zmt (D : Int) X 233 D = xr0 D X := by
  unfold zmt
  rw [zup_ne (by decide), zup_ne (by decide), zup_ne (by decide), zup_eq]
  unfold zmv xr0 xr1
  simp only [zms_237, zms_o (D := D) (X := X) (show (236 : Nat) ≠ 237 by decide) (show (236 : Nat) ≠ 240 by decide), zms_o (D := D) (X := X) (show (235 : Nat) ≠ 237 by decide) (show (235 : Nat) ≠ 240 by decide), zms_o (D := D) (X := X) (show (234 : Nat) ≠ 237 by decide) (show (234 : Nat) ≠ 240 by decide), zms_o (D := D) (X := X) (show (233 : Nat) ≠ 237 by decide) (show (233 : Nat) ≠ 240 by decide)]
  by_cases c1 : X 234 D = 27
  · have c2 : ¬ X 234 D = 26 := by omega
    rw [if_pos c1, if_pos c1, if_neg c2]
  · rw [if_neg c1, if_neg c1]
theorem zms_e {lo : Nat} (h : xEq lo D X X') (hl : lo ≤ 237) : xEq lo D X (zms D X') := by
  unfold zms
  exact (h.up (by omega) (by omega)).up (by omega) (by omega)
theorem zmt_e {lo : Nat} (h : xEq lo D X X') (hl : lo ≤ 233) : xEq lo D X (zmt D X') := by
  unfold zmt
  exact ((((zms_e h (by omega)).up (by omega) (by omega)).up (by omega) (by omega)).up (by omega) (by omega)).up (by omega) (by omega)
/-- what a chain's codes do at depth D: level 4 a PART, 3 a product, 2 a sum, 1 a comparison, 0 all -/
def xPre (L D : Nat) (X : zMem) : Prop := xBt D X ∧ (L ≤ 3 → X 240 D = 0) ∧ (L ≤ 2 → X 237 D = 0 ∧ X 238 D = 20) ∧ (L ≤ 1 → X 236 D = 0) ∧ (L = 0 → X 234 D = 0)
def xrd (L D : Nat) (X : zMem) : Int := if L = 3 then X 239 D else if L = 2 then xr2 D X else if L = 1 then xr1 D X else xr0 D X
def xlo (L : Nat) : Nat := if L = 3 then 239 else if L = 2 then 237 else if L = 1 then 235 else 233
def xMp (d : Nat) (lm : List Int) (v : (Int → Int) → Int) : Prop := ∀ X : zMem, xF3 (X 242) → ∃ X' : zMem, zmr lm d X = some (zmd d (v (X 242)) X') ∧ xEq 241 d X X'
def xMc (L D : Nat) (lm : List Int) (v : (Int → Int) → Int) : Prop := ∀ X : zMem, xF3 (X 242) → xPre L D X → ∃ X' : zMem, zmr lm D X = some (D, X') ∧ xrd L D X' = v (X 242) ∧ xEq (xlo L) D X X'
theorem xBt_e {lo : Nat} (h : xBt D X) (e : xEq lo D X X') : xBt D X' := by
  rcases h with h | h
  · exact Or.inl h
  · exact Or.inr (by rw [e.1 241 (by omega) (by omega) D (Nat.le_refl _) (by omega)]; exact h)
theorem xMc_43 {lm : List Int} {v : (Int → Int) → Int} (h : xMp D lm v) : xMc 3 D lm v := fun X hF hp => by
  obtain ⟨X', e, q⟩ := h X hF
  have b := xBt_e hp.1 q
  have z : X' 240 D = 0 := by rw [q.1 240 (by omega) (by omega) D (Nat.le_refl _) (by omega)]; exact hp.2.1 (by omega)
  refine ⟨_, by rw [e, zmd_D b, z, if_pos rfl], ?_, (q.mono (by decide)).up (by decide) (by omega)⟩
  show zup X' 239 (D : Int) (v (X 242)) 239 D = _
  rw [zup_eq]
theorem xMc_32 {lm : List Int} {v : (Int → Int) → Int} (hv : xV3 v) (h : xMc 3 D lm v) : xMc 2 D lm v := fun X hF hp => by
  obtain ⟨X', e, r, q⟩ := h X hF ⟨hp.1, fun _ => hp.2.1 (by omega), fun c => by omega, fun c => by omega, fun c => by omega⟩
  refine ⟨X', e, ?_, q.mono (by decide)⟩
  have r : X' 239 D = v (X 242) := r
  have p := hp.2.2.1 (by omega)
  show xr2 D X' = _
  unfold xr2
  have e8 := q.1 238 (by omega) (by omega) D (Nat.le_refl _) (by show D < D ∨ 238 < 239 ∨ _; omega)
  have e7 := q.1 237 (by omega) (by omega) D (Nat.le_refl _) (by show D < D ∨ 237 < 239 ∨ _; omega)
  rw [e8, e7, p.1, p.2, if_neg (by decide), r, Int.zero_add]
  exact zw_id (hv _ hF)
theorem xMc_21 {lm : List Int} {v : (Int → Int) → Int} (h : xMc 2 D lm v) : xMc 1 D lm v := fun X hF hp => by
  obtain ⟨X', e, r, q⟩ := h X hF ⟨hp.1, fun _ => hp.2.1 (by omega), fun _ => hp.2.2.1 (by omega), fun c => by omega, fun c => by omega⟩
  refine ⟨X', e, ?_, q.mono (by decide)⟩
  have r : xr2 D X' = v (X 242) := r
  show xr1 D X' = _
  unfold xr1
  have e6 := q.1 236 (by omega) (by omega) D (Nat.le_refl _) (by show D < D ∨ 236 < 237 ∨ _; omega)
  rw [e6, hp.2.2.2.1 (by omega), if_neg (by decide), if_neg (by decide), r]
theorem xMc_10 {lm : List Int} {v : (Int → Int) → Int} (h : xMc 1 D lm v) : xMc 0 D lm v := fun X hF hp => by
  obtain ⟨X', e, r, q⟩ := h X hF ⟨hp.1, fun _ => hp.2.1 (by omega), fun _ => hp.2.2.1 (by omega), fun _ => hp.2.2.2.1 (by omega), fun c => by omega⟩
  refine ⟨X', e, ?_, q.mono (by decide)⟩
  have r : xr1 D X' = v (X 242) := r
  show xr0 D X' = _
  unfold xr0
  have e4 := q.1 234 (by omega) (by omega) D (Nat.le_refl _) (by show D < D ∨ 234 < 235 ∨ _; omega)
  rw [e4, hp.2.2.2.2 rfl, if_neg (by decide), if_neg (by decide), r]
theorem xMc_mul {l1 l2 : List Int} {v1 v2 : (Int → Int) → Int} (h1 : xMc 3 D l1 v1) (h2 : xMp D l2 v2) : xMc 3 D (l1 ++ 22 :: l2) (fun F => zrj 42 (v1 F) (v2 F)) := fun X hF hp => by
  obtain ⟨X1, e1, r1, q1⟩ := h1 X hF hp
  have q2 : xEq 239 D X (zup X1 240 (D : Int) 22) := q1.up (by decide) (by omega)
  obtain ⟨X2, e2, q3⟩ := h2 (zup X1 240 (D : Int) 22) (by rw [q2.2]; exact hF)
  have q4 : xEq 239 D X X2 := q2.trans (q3.mono (by decide))
  have b := xBt_e hp.1 q4
  have z : X2 240 D = 22 := by rw [q3.1 240 (by omega) (by omega) D (Nat.le_refl _) (by omega), zup_eq]
  have y : X2 239 D = v1 (X 242) := by
    rw [q3.1 239 (by omega) (by omega) D (Nat.le_refl _) (by omega), zup_ne (by decide)]
    exact r1
  refine ⟨_, ?_, ?_, q4.up (c := 239) (v := zw (v1 (X 242) * v2 (X 242))) (by decide) (by omega)⟩
  · rw [zmr_app, e1, zbd_s]
    show zbd (zm1 22 D X1) (fun s => zmr l2 s.1 s.2) = _
    have z1 : zm1 22 D X1 = some (D, zup X1 240 (D : Int) 22) := by
      unfold zm1
      rw [if_neg (by decide), if_neg (by decide), if_pos rfl]
    rw [z1, zbd_s, e2, zmd_D b, z, if_neg (by decide), y, q2.2]
  · show zup X2 239 (D : Int) _ 239 D = zrj 42 (v1 (X 242)) (v2 (X 242))
    rw [zup_eq, zrj_42]
theorem xMc_add {c s : Int} (hc : (c = 20 ∧ s = 43) ∨ (c = 21 ∧ s = 45)) {l1 l2 : List Int} {v1 v2 : (Int → Int) → Int} (h1 : xMc 2 D l1 v1) (h2 : xMc 3 D l2 v2) : xMc 2 D (l1 ++ c :: l2) (fun F => zrj s (v1 F) (v2 F)) := fun X hF hp => by
  obtain ⟨X1, e1, r1, q1⟩ := h1 X hF hp
  have r1 : xr2 D X1 = v1 (X 242) := r1
  have q2 : xEq 237 D X (zup (zms D X1) 238 (D : Int) c) := (zms_e q1 (by decide)).up (by decide) (by omega)
  have pre : xPre 3 D (zup (zms D X1) 238 (D : Int) c) := ⟨xBt_e hp.1 q2, fun _ => by rw [zup_ne (by decide), zms_240], fun c => by omega, fun c => by omega, fun c => by omega⟩
  obtain ⟨X2, e2, r2, q3⟩ := h2 _ (by rw [q2.2]; exact hF) pre
  have r2 : X2 239 D = v2 (X 242) := by rw [q2.2] at r2; exact r2
  refine ⟨X2, ?_, ?_, q2.trans (q3.mono (by decide))⟩
  · rw [zmr_app, e1, zbd_s]
    show zbd (zm1 c D X1) (fun s => zmr l2 s.1 s.2) = _
    have z1 : zm1 c D X1 = some (D, zup (zms D X1) 238 (D : Int) c) := by
      unfold zm1
      rw [if_neg (by omega), if_pos (by omega)]
    rw [z1, zbd_s, e2]
  · show xr2 D X2 = zrj s (v1 (X 242)) (v2 (X 242))
    have e8 := q3.1 238 (by omega) (by omega) D (Nat.le_refl _) (by show D < D ∨ 238 < 239 ∨ _; omega)
    have e7 := q3.1 237 (by omega) (by omega) D (Nat.le_refl _) (by show D < D ∨ 237 < 239 ∨ _; omega)
    rw [zup_eq] at e8
    rw [zup_ne (by decide), zms_237, r1] at e7
    unfold xr2
    rw [e8, e7, r2]
    rcases hc with ⟨rfl, rfl⟩ | ⟨rfl, rfl⟩
    · rw [zrj_43, if_neg (show ¬ (20 : Int) = 21 by decide)]
    · rw [zrj_45, if_pos rfl]
theorem xMc_cmp {c s : Int} (hc : (c = 24 ∧ s = 60) ∨ (c = 25 ∧ s = 61)) {l1 l2 : List Int} {v1 v2 : (Int → Int) → Int} (h1 : xMc 2 D l1 v1) (h2 : xMc 2 D l2 v2) : xMc 1 D (l1 ++ c :: l2) (fun F => zrj s (v1 F) (v2 F)) := fun X hF hp => by
  obtain ⟨X1, e1, r1, q1⟩ := h1 X hF ⟨hp.1, fun _ => hp.2.1 (by omega), fun _ => hp.2.2.1 (by omega), fun c => by omega, fun c => by omega⟩
  have r1 : xr2 D X1 = v1 (X 242) := r1
  generalize hY : zup (zup (zup (zup (zms D X1) 235 (D : Int) (zms D X1 237 D)) 236 (D : Int) c) 237 (D : Int) 0) 238 (D : Int) 20 = Y
  have q2 : xEq 235 D X Y := by
    rw [← hY]
    exact ((((zms_e (q1.mono (by decide)) (by decide)).up (by decide) (by omega)).up (by decide) (by omega)).up (by decide) (by omega)).up (by decide) (by omega)
  have y5 : Y 235 D = v1 (X 242) := by rw [← hY, zup_ne (by decide), zup_ne (by decide), zup_ne (by decide), zup_eq, zms_237, r1]
  have y6 : Y 236 D = c := by rw [← hY, zup_ne (by decide), zup_ne (by decide), zup_eq]
  have pre : xPre 2 D Y := ⟨xBt_e hp.1 q2, fun _ => by rw [← hY, zup_ne (by decide), zup_ne (by decide), zup_ne (by decide), zup_ne (by decide), zms_240], fun _ => ⟨by rw [← hY, zup_ne (by decide), zup_eq], by rw [← hY, zup_eq]⟩, fun c => by omega, fun c => by omega⟩
  obtain ⟨X2, e2, r2, q3⟩ := h2 _ (by rw [q2.2]; exact hF) pre
  have r2 : xr2 D X2 = v2 (X 242) := by rw [q2.2] at r2; exact r2
  refine ⟨X2, ?_, ?_, q2.trans (q3.mono (by decide))⟩
  · rw [zmr_app, e1, zbd_s]
    show zbd (zm1 c D X1) (fun s => zmr l2 s.1 s.2) = _
    have z1 : zm1 c D X1 = some (D, Y) := by
      unfold zm1
      rw [if_neg (by omega), if_neg (by omega), if_neg (by omega), if_pos (by omega), hY]
    rw [z1, zbd_s, e2]
  · show xr1 D X2 = zrj s (v1 (X 242)) (v2 (X 242))
    have e6 := q3.1 236 (by omega) (by omega) D (Nat.le_refl _) (by show D < D ∨ 236 < 237 ∨ _; omega)
    have e5 := q3.1 235 (by omega) (by omega) D (Nat.le_refl _) (by show D < D ∨ 235 < 237 ∨ _; omega)
    unfold xr1
    rw [e6, e5, y5, y6, r2]
    rcases hc with ⟨rfl, rfl⟩ | ⟨rfl, rfl⟩
    · rw [zrj_60, if_neg (show ¬ (24 : Int) = 25 by decide), if_pos (show (24 : Int) = 24 from rfl)]
    · rw [zrj_61, if_pos (show (25 : Int) = 25 from rfl)]
theorem xMc_jn {c s : Int} (hc : (c = 26 ∧ s = 112) ∨ (c = 27 ∧ s = 113)) {l1 l2 : List Int} {v1 v2 : (Int → Int) → Int} (h1 : xMc 0 D l1 v1) (h2 : xMc 1 D l2 v2) : xMc 0 D (l1 ++ c :: l2) (fun F => zrj s (v1 F) (v2 F)) := fun X hF hp => by
  obtain ⟨X1, e1, r1, q1⟩ := h1 X hF hp
  have r1 : xr0 D X1 = v1 (X 242) := r1
  generalize hY : zup (zmt D X1) 234 (D : Int) c = Y
  have q2 : xEq 233 D X Y := by
    rw [← hY]
    exact (zmt_e q1 (by decide)).up (by decide) (by omega)
  have y3 : Y 233 D = v1 (X 242) := by rw [← hY, zup_ne (by decide), zmt_233, r1]
  have y4 : Y 234 D = c := by rw [← hY, zup_eq]
  have pre : xPre 1 D Y := by
    refine ⟨xBt_e hp.1 q2, fun _ => ?_, fun _ => ⟨?_, ?_⟩, fun _ => ?_, fun c => by omega⟩
    · rw [← hY, zup_ne (by decide)]
      unfold zmt
      rw [zup_ne (by decide), zup_ne (by decide), zup_ne (by decide), zup_ne (by decide), zms_240]
    · rw [← hY, zup_ne (by decide)]
      unfold zmt
      rw [zup_ne (by decide), zup_eq]
    · rw [← hY, zup_ne (by decide)]
      unfold zmt
      rw [zup_eq]
    · rw [← hY, zup_ne (by decide)]
      unfold zmt
      rw [zup_ne (by decide), zup_ne (by decide), zup_eq]
  obtain ⟨X2, e2, r2, q3⟩ := h2 _ (by rw [q2.2]; exact hF) pre
  have r2 : xr1 D X2 = v2 (X 242) := by rw [q2.2] at r2; exact r2
  refine ⟨X2, ?_, ?_, q2.trans (q3.mono (by decide))⟩
  · rw [zmr_app, e1, zbd_s]
    show zbd (zm1 c D X1) (fun s => zmr l2 s.1 s.2) = _
    have z1 : zm1 c D X1 = some (D, Y) := by
      unfold zm1
      rw [if_neg (by omega), if_neg (by omega), if_neg (by omega), if_neg (by omega), if_pos (by omega), hY]
    rw [z1, zbd_s, e2]
  · show xr0 D X2 = zrj s (v1 (X 242)) (v2 (X 242))
    have e4 := q3.1 234 (by omega) (by omega) D (Nat.le_refl _) (by show D < D ∨ 234 < 235 ∨ _; omega)
    have e3 := q3.1 233 (by omega) (by omega) D (Nat.le_refl _) (by show D < D ∨ 233 < 235 ∨ _; omega)
    unfold xr0
    rw [e4, e3, y3, y4, r2]
    rcases hc with ⟨rfl, rfl⟩ | ⟨rfl, rfl⟩
    · rw [zrj_112, if_neg (show ¬ (26 : Int) = 27 by decide), if_pos (show (26 : Int) = 26 from rfl)]
    · rw [zrj_113, if_pos (show (27 : Int) = 27 from rfl)]
/-- operands -/
theorem xMp_num {x : Int} (h0 : 0 ≤ x) (h1 : x ≤ 9999) : xMp D [100 + x] (fun _ => x) := fun X _ => by
  refine ⟨X, ?_, xEq.refl _ _ _⟩
  show zbd (zm1 (100 + x) D X) (fun s => some (s.1, s.2)) = _
  have z : zm1 (100 + x) D X = some (zmd D (zw (100 + x - 100)) X) := by
    unfold zm1
    rw [if_neg (by omega), if_neg (by omega), if_neg (by omega), if_neg (by omega), if_neg (by omega), if_neg (by omega), if_pos (by omega)]
  rw [z, zw_i (by omega) (by omega), show 100 + x - 100 = x by omega]
  rfl
theorem xMp_fact {f : Int} (h0 : 1 ≤ f) (h1 : f ≤ 5) : xMp D [f] (fun F => F f) := fun X _ => by
  refine ⟨X, ?_, xEq.refl _ _ _⟩
  show zbd (zm1 f D X) (fun s => some (s.1, s.2)) = _
  have z : zm1 f D X = some (zmd D (X 242 f) X) := by
    unfold zm1
    rw [if_neg (by omega), if_neg (by omega), if_neg (by omega), if_neg (by omega), if_neg (by omega), if_neg (by omega), if_neg (by omega), if_pos (by omega)]
  rw [z]
  rfl
theorem zup_nk2 {Y : zMem} {e c : Nat} {k j w : Int} (h : j ≠ k) : zup Y e k w c j = Y c j := by unfold zup; rw [if_neg (fun q => h q.2)]
theorem zmo_q {d : Nat} {a : Int} : xEq 241 d X (zmo ((d + 1 : Nat) : Int) (zup X 241 ((d + 1 : Nat) : Int) a)) := by
  refine ⟨fun c c0 c1 j j0 j1 => ?_, ?_⟩
  · unfold zmo
    have nj : ∀ {Y : zMem} {e : Nat} {w : Int}, zup Y e ((d + 1 : Nat) : Int) w c j = Y c j := fun {Y e w} => zup_nk2 (by omega)
    rw [nj, nj, nj, nj, nj, nj]
  · unfold zmo
    rw [zup_c (by decide), zup_c (by decide), zup_c (by decide), zup_c (by decide), zup_c (by decide), zup_c (by decide)]
theorem xMp_not {d : Nat} (hd : d < 6) {l : List Int} {v : (Int → Int) → Int} (h : xMp (d + 1) l v) : xMp d (30 :: l) (fun F => if v F = 0 then 1 else 0) := fun X hF => by
  have q1 := zmo_q (X := X) (d := d) (a := 1)
  generalize hY : zmo ((d + 1 : Nat) : Int) (zup X 241 ((d + 1 : Nat) : Int) 1) = Y at q1
  obtain ⟨X', e, q2⟩ := h Y (by rw [q1.2]; exact hF)
  have y1 : Y 241 ((d + 1 : Nat) : Int) = 1 := by
    rw [← hY]
    unfold zmo
    rw [zup_ne (by decide), zup_ne (by decide), zup_ne (by decide), zup_ne (by decide), zup_ne (by decide), zup_eq]
  have b : X' 241 ((d + 1 : Nat) : Int) = 1 := by rw [q2.1 241 (by omega) (by omega) (d + 1) (Nat.le_refl _) (by omega)]; exact y1
  refine ⟨X', ?_, ⟨fun c c0 c1 j j0 j1 => ?_, q2.2.trans q1.2⟩⟩
  · show zbd (zm1 30 d X) (fun s => zmr l s.1 s.2) = _
    have z : zm1 30 d X = some (d + 1, Y) := by
      unfold zm1
      rw [if_pos (by decide), if_pos hd, if_pos rfl, hY]
    rw [z, zbd_s, e, q1.2]
    show some (zmd (d + 1) (v (X 242)) X') = _
    rw [show zmd (d + 1) (v (X 242)) X' = zmd d (if v (X 242) = 0 then 1 else 0) X' by unfold zmd; rw [if_pos b]; cases d <;> rfl]
  · rw [q2.1 c c0 c1 j (by omega) (by omega), q1.1 c c0 c1 j j0 j1]
theorem xMp_par {d : Nat} (hd : d < 6) {l : List Int} {v : (Int → Int) → Int} (h : xMc 0 (d + 1) l v) : xMp d (28 :: (l ++ [29])) v := fun X hF => by
  have q1 := zmo_q (X := X) (d := d) (a := 0)
  generalize hY : zmo ((d + 1 : Nat) : Int) (zup X 241 ((d + 1 : Nat) : Int) 0) = Y at q1
  have pre : xPre 0 (d + 1) Y := by
    rw [← hY]
    unfold zmo
    refine ⟨Or.inr ?_, fun _ => zup_eq, fun _ => ⟨?_, ?_⟩, fun _ => ?_, fun _ => ?_⟩
    · rw [zup_ne (by decide), zup_ne (by decide), zup_ne (by decide), zup_ne (by decide), zup_ne (by decide), zup_eq]; decide
    · rw [zup_ne (by decide), zup_ne (by decide), zup_eq]
    · rw [zup_ne (by decide), zup_eq]
    · rw [zup_ne (by decide), zup_ne (by decide), zup_ne (by decide), zup_eq]
    · rw [zup_ne (by decide), zup_ne (by decide), zup_ne (by decide), zup_ne (by decide), zup_eq]
  obtain ⟨X', e, r, q2⟩ := h Y (by rw [q1.2]; exact hF) pre
  have r : xr0 (d + 1) X' = v (X 242) := by rw [q1.2] at r; exact r
  refine ⟨zmt ((d + 1 : Nat) : Int) X', ?_, ?_⟩
  · show zbd (zm1 28 d X) (fun s => zmr (l ++ [29]) s.1 s.2) = _
    have z : zm1 28 d X = some (d + 1, Y) := by
      unfold zm1
      rw [if_pos (by decide), if_pos hd, if_neg (by decide), hY]
    rw [z, zbd_s, zmr_app, e, zbd_s]
    show zbd (zm1 29 (d + 1) X') (fun s => some (s.1, s.2)) = _
    have z2 : zm1 29 (d + 1) X' = some (zmd d (zmt ((d + 1 : Nat) : Int) X' 233 ((d + 1 : Nat) : Int)) (zmt ((d + 1 : Nat) : Int) X')) := by
      unfold zm1
      rw [if_neg (by decide), if_neg (by decide), if_neg (by decide), if_neg (by decide), if_neg (by decide), if_pos rfl]
    rw [z2, zmt_233, r]
    rfl
  · have q3 := zmt_e (X' := X') q2 (by decide)
    exact ⟨fun c c0 c1 j j0 j1 => by rw [q3.1 c c0 c1 j (by omega) (by omega), q1.1 c c0 c1 j j0 j1], q3.2.trans q1.2⟩
end SP1
