/-! PURE PART, 63: signs and tokens, the class -/
section TK1
variable {M V : zMem} {T T' : Int → Int} {n p e s : Int}
abbrev xlet (s : Int) : Prop := 97 ≤ s ∧ s ≤ 122
abbrev xdig (s : Int) : Prop := 48 ≤ s ∧ s ≤ 57
abbrev xspc (s : Int) : Prop := s = 32 ∨ s = 10
abbrev xsg (s : Int) : Prop := (40 ≤ s ∧ s ≤ 43) ∨ s = 45 ∨ (59 ≤ s ∧ s ≤ 61)
abbrev xsi (s : Int) : Prop := s = 10 ∨ (32 ≤ s ∧ s ≤ 126)
/-- from s on, p is the first place of no space -/
def xsk (T : Int → Int) (n s p : Int) : Prop := s ≤ p ∧ p ≤ n ∧ (∀ q : Int, s ≤ q → q < p → xspc (T q)) ∧ (p = n ∨ ¬ xspc (T p))
theorem xsk_u {p' : Int} (h : xsk T n s p) (h' : xsk T n s p') : p = p' := by
  obtain ⟨a1, a2, a3, a4⟩ := h
  obtain ⟨b1, b2, b3, b4⟩ := h'
  by_cases c : p < p'
  · have := b3 p a1 c
    rcases a4 with q | q
    · omega
    · exact absurd this q
  · by_cases d : p' < p
    · have := a3 p' b1 d
      rcases b4 with q | q
      · omega
      · exact absurd this q
    · omega
theorem xsk_s (hs : xspc (T s)) (h : xsk T n (s + 1) p) : xsk T n s p := by
  obtain ⟨a1, a2, a3, a4⟩ := h
  refine ⟨by omega, a2, fun q q0 q1 => ?_, a4⟩
  by_cases c : q = s
  · rw [c]; exact hs
  · exact a3 q (by omega) q1
/-- the token at p ends at e -/
def xen (T : Int → Int) (n p e : Int) : Prop := (p < e ∧ e ≤ n) ∧ ((xlet (T p) ∧ (∀ q : Int, p ≤ q → q < e → xlet (T q)) ∧ (e = n ∨ ¬ xlet (T e))) ∨ (xdig (T p) ∧ (∀ q : Int, p ≤ q → q < e → xdig (T q)) ∧ (e = n ∨ ¬ xdig (T e))) ∨ (¬ xlet (T p) ∧ ¬ xdig (T p) ∧ e = p + 1))
theorem xen_u {e' : Int} (h : xen T n p e) (h' : xen T n p e') : e = e' := by
  obtain ⟨⟨a1, a2⟩, a3⟩ := h
  obtain ⟨⟨b1, b2⟩, b3⟩ := h'
  have key : ∀ (P : Int → Prop) (e e' : Int), p < e → p < e' → e' ≤ n → (∀ q : Int, p ≤ q → q < e' → P (T q)) → (e = n ∨ ¬ P (T e)) → e' ≤ e := fun P e e' h1 h2 h3 h4 h5 => by
    by_cases c : e < e'
    · have := h4 e (by omega) c
      rcases h5 with q | q
      · omega
      · exact absurd this q
    · omega
  rcases a3 with ⟨l, x, y⟩ | ⟨d, x, y⟩ | ⟨nl, nd, x⟩
  · rcases b3 with ⟨l', x', y'⟩ | ⟨d', -, -⟩ | ⟨nl', -, -⟩
    · have k1 := key (fun z => 97 ≤ z ∧ z ≤ 122) e e' a1 b1 b2 x' y
      have k2 := key (fun z => 97 ≤ z ∧ z ≤ 122) e' e b1 a1 a2 x y'
      omega
    · omega
    · exact absurd l nl'
  · rcases b3 with ⟨l', -, -⟩ | ⟨d', x', y'⟩ | ⟨-, nd', -⟩
    · omega
    · have k1 := key (fun z => 48 ≤ z ∧ z ≤ 57) e e' a1 b1 b2 x' y
      have k2 := key (fun z => 48 ≤ z ∧ z ≤ 57) e' e b1 a1 a2 x y'
      omega
    · exact absurd d nd'
  · rcases b3 with ⟨l', -, -⟩ | ⟨d', -, -⟩ | ⟨-, -, x'⟩
    · exact absurd l' nl
    · exact absurd d' nd
    · omega
def xwv (T : Int → Int) (p : Int) : Nat → Int
  | 0 => 0
  | k + 1 => xwv T p k * 27 + (T (p + k) - 96)
def xdv (T : Int → Int) (p : Int) : Nat → Int
  | 0 => 0
  | k + 1 => xdv T p k * 10 + (T (p + k) - 48)
theorem xwv_0 : ∀ k : Nat, (∀ i : Nat, i < k → xlet (T (p + i))) → 0 ≤ xwv T p k
  | 0, _ => Int.le_refl _
  | k + 1, h => by
    have := xwv_0 k (fun i hi => h i (by omega))
    have := h k (by omega)
    unfold xwv; omega
theorem xwv_inj {p' : Int} : ∀ k k' : Nat, (∀ i : Nat, i < k → xlet (T (p + i))) → (∀ i : Nat, i < k' → xlet (T' (p' + i))) → xwv T p k = xwv T' p' k' → k = k' ∧ ∀ i : Nat, i < k → T (p + i) = T' (p' + i)
  | 0, 0, _, _, _ => ⟨rfl, fun i hi => by omega⟩
  | 0, k' + 1, _, h', e => by
    have := xwv_0 (T := T') (p := p') k' (fun i hi => h' i (by omega))
    have := h' k' (by omega)
    unfold xwv at e; omega
  | k + 1, 0, h, _, e => by
    have := xwv_0 (T := T) (p := p) k (fun i hi => h i (by omega))
    have := h k (by omega)
    unfold xwv at e; omega
  | k + 1, k' + 1, h, h', e => by
    have a := h k (by omega)
    have b := h' k' (by omega)
    have e : xwv T p k * 27 + (T (p + k) - 96) = xwv T' p' k' * 27 + (T' (p' + k') - 96) := e
    have e1 : xwv T p k = xwv T' p' k' := by omega
    obtain ⟨i1, i2⟩ := xwv_inj k k' (fun i hi => h i (by omega)) (fun i hi => h' i (by omega)) e1
    subst i1
    refine ⟨rfl, fun i hi => ?_⟩
    by_cases c : i = k
    · subst c; omega
    · exact i2 i (by omega)
theorem xwv_c {p' : Int} : ∀ k : Nat, (∀ i : Nat, i < k → T (p + i) = T' (p' + i)) → xwv T p k = xwv T' p' k
  | 0, _ => rfl
  | k + 1, h => by
    unfold xwv
    rw [xwv_c k (fun i hi => h i (by omega)), h k (by omega)]
theorem xdv_b : ∀ k : Nat, (∀ i : Nat, i < k → xdig (T (p + i))) → 0 ≤ xdv T p k ∧ xdv T p k < 10 ^ k
  | 0, _ => by
    show (0 : Int) ≤ 0 ∧ (0 : Int) < 1
    decide
  | k + 1, h => by
    have i := xdv_b k (fun i hi => h i (by omega))
    have := h k (by omega)
    unfold xdv
    rw [Int.pow_succ]
    omega
def xwk (k : Nat) : Int := if k = 0 then 50934 else if k = 1 then 404978 else if k = 2 then 381245 else if k = 3 then 453774 else if k = 4 then 263328790 else if k = 5 then 144686 else if k = 6 then 10413527 else if k = 7 then 315918 else if k = 8 then 335207579 else if k = 9 then 10415990 else if k = 10 then 14006 else if k = 11 then 10631 else if k = 12 then 1111 else if k = 13 then 423 else if k = 14 then 8009370239 else if k = 15 then 2461245202 else if k = 16 then 9665171 else if k = 17 then 385331 else if k = 18 then 3427 else if k = 19 then 3175 else if k = 20 then 453937 else if k = 21 then 70401 else if k = 22 then 1949438 else if k = 23 then 778957 else if k = 24 then 4081324 else if k = 25 then 10416091 else if k = 26 then 8861527 else if k = 27 then 161156 else 10939463
def xln (k : Nat) : Nat := if k = 4 ∨ k = 8 then 6 else if k = 14 ∨ k = 15 then 7 else if k = 6 ∨ k = 9 ∨ k = 16 ∨ k = 22 ∨ k = 23 ∨ k = 24 ∨ k = 25 ∨ k = 26 ∨ k = 28 then 5 else if k = 10 ∨ k = 11 ∨ k = 12 ∨ k = 18 ∨ k = 19 then 3 else if k = 13 then 2 else 4
theorem xtx : ∀ k : Nat, k < 29 → (xwv zTx (8 * (k : Int)) (xln k) = xwk k ∧ xln k ≤ 8) ∧ ∀ i : Nat, i < 8 → (i < xln k → xlet (zTx (8 * (k : Int) + i))) ∧ (xln k ≤ i → zTx (8 * (k : Int) + i) = 46) := by decide +kernel
theorem xwk_i : ∀ k : Nat, k < 29 → ∀ l : Nat, l < 29 → xwk k = xwk l → k = l := by decide +kernel
theorem xsx : ∀ s : Nat, s < 127 → (zSx (s : Int) < 0 ↔ ¬ xsg (s : Int)) := by decide +kernel
/-- the class's word for a value -/
def xWd (w c : Int) : Prop := (c = 2 ∧ ∀ k : Nat, k < 29 → w ≠ xwk k) ∨ ∃ k : Nat, k < 29 ∧ c = 100 + (k : Int) ∧ w = xwk k
/-- the class's token at p -/
def xck (T : Int → Int) (p e c : Int) : Prop := (xlet (T p) ∧ ((e - p ≤ 8 ∧ xWd (xwv T p (e - p).toNat) c) ∨ (8 < e - p ∧ c = 1))) ∨ (xdig (T p) ∧ ((e - p ≤ 4 ∧ c = 1000 + xdv T p (e - p).toNat ∧ 0 ≤ xdv T p (e - p).toNat ∧ xdv T p (e - p).toNat ≤ 9999) ∨ (4 < e - p ∧ c = 1))) ∨ (¬ xlet (T p) ∧ ¬ xdig (T p) ∧ ((xsg (T p) ∧ c = T p) ∨ (¬ xsg (T p) ∧ c = 1)))
theorem e_isLetter (h0 : 0 ≤ p) (h1 : p < 1000) : fX8_isLetter p M = some (if xlet (M 21 p) then 1 else 0) := by
  unfold fX8_isLetter
  rw [zgd_t ⟨h0, h1⟩, zgd_t ⟨h0, h1⟩]
  by_cases c : xlet (M 21 p)
  · rw [if_pos c, if_neg (by omega), if_neg (by omega)]
  · rw [if_neg c]
    by_cases d : M 21 p < 97
    · rw [if_pos d]
    · rw [if_neg d, if_pos (by omega)]
theorem e_isDigit (h0 : 0 ≤ p) (h1 : p < 1000) : fX8_isDigit p M = some (if xdig (M 21 p) then 1 else 0) := by
  unfold fX8_isDigit
  rw [zgd_t ⟨h0, h1⟩, zgd_t ⟨h0, h1⟩]
  by_cases c : xdig (M 21 p)
  · rw [if_pos c, if_neg (by omega), if_neg (by omega)]
  · rw [if_neg c]
    by_cases d : M 21 p < 48
    · rw [if_pos d]
    · rw [if_neg d, if_pos (by omega)]
theorem e_endOf (hn : M 20 1 = n) (n1 : n ≤ 1000) (h0 : 0 ≤ p) (h1 : p < n) : zSat (fX8_endOf p M) (xen (M 21) n p) := by
  unfold fX8_endOf
  rw [e_isLetter h0 (by omega), zbd_s, zw_i (x := p + 1) (by omega) (by omega)]
  by_cases c : xlet (M 21 p)
  · rw [if_pos c, if_neg (show ¬ (1 : Int) = 0 by decide), zS_bd]
    refine zit_inv (fun (m : Nat) (y : Int) => m = (n - y).toNat ∧ p < y ∧ y ≤ n ∧ ∀ q : Int, p ≤ q → q < y → xlet (M 21 q)) ?_ _ _ ⟨rfl, by omega, by omega, fun q q0 q1 => by rw [show q = p by omega]; exact c⟩
    rintro m y ⟨hm, y0, y1, g⟩
    show zSat (fX8_endOf_l12 y M) _
    unfold fX8_endOf_l12
    rw [hn]
    by_cases d : n ≤ y
    · rw [if_pos d]
      exact ⟨⟨y0, y1⟩, Or.inl ⟨c, g, Or.inl (by omega)⟩⟩
    · rw [if_neg d, e_isLetter (by omega) (by omega), zbd_s]
      by_cases f : xlet (M 21 y)
      · rw [if_pos f, if_neg (show ¬ (1 : Int) = 0 by decide), zw_i (by omega) (by omega)]
        exact ⟨(n - (y + 1)).toNat, by omega, rfl, by omega, by omega, fun q q0 q1 => by
          by_cases u : q = y
          · rw [u]; exact f
          · exact g q q0 (by omega)⟩
      · rw [if_neg f, if_pos rfl]
        exact ⟨⟨y0, y1⟩, Or.inl ⟨c, g, Or.inr f⟩⟩
  · rw [if_neg c, if_pos rfl, e_isDigit h0 (by omega), zbd_s]
    by_cases c2 : xdig (M 21 p)
    · rw [if_pos c2, if_neg (show ¬ (1 : Int) = 0 by decide), zS_bd]
      refine zit_inv (fun (m : Nat) (y : Int) => m = (n - y).toNat ∧ p < y ∧ y ≤ n ∧ ∀ q : Int, p ≤ q → q < y → xdig (M 21 q)) ?_ _ _ ⟨rfl, by omega, by omega, fun q q0 q1 => by rw [show q = p by omega]; exact c2⟩
      rintro m y ⟨hm, y0, y1, g⟩
      show zSat (fX8_endOf_l42 y M) _
      unfold fX8_endOf_l42
      rw [hn]
      by_cases d : n ≤ y
      · rw [if_pos d]
        exact ⟨⟨y0, y1⟩, Or.inr (Or.inl ⟨c2, g, Or.inl (by omega)⟩)⟩
      · rw [if_neg d, e_isDigit (by omega) (by omega), zbd_s]
        by_cases f : xdig (M 21 y)
        · rw [if_pos f, if_neg (show ¬ (1 : Int) = 0 by decide), zw_i (by omega) (by omega)]
          exact ⟨(n - (y + 1)).toNat, by omega, rfl, by omega, by omega, fun q q0 q1 => by
            by_cases u : q = y
            · rw [u]; exact f
            · exact g q q0 (by omega)⟩
        · rw [if_neg f, if_pos rfl]
          exact ⟨⟨y0, y1⟩, Or.inr (Or.inl ⟨c2, g, Or.inr f⟩)⟩
    · rw [if_neg c2, if_pos rfl]
      exact ⟨⟨by omega, by omega⟩, Or.inr (Or.inr ⟨c, c2, rfl⟩)⟩
theorem e_fills {k : Nat} (hk : k < 29) (h0 : 0 ≤ p) (he : p < e) (h1 : e ≤ 1000) (h8 : e - p ≤ 8) (hl : ∀ q : Int, p ≤ q → q < e → xlet (M 21 q)) : zSat (fX8_fills (8 * (k : Int)) p e M) (fun r => (r = 1 ∧ xwv (M 21) p (e - p).toNat = xwk k) ∨ (r = 0 ∧ xwv (M 21) p (e - p).toNat ≠ xwk k)) := by
  obtain ⟨⟨t1, t2⟩, t3⟩ := xtx k hk
  have hl' : ∀ i : Nat, i < (e - p).toNat → xlet (M 21 (p + i)) := fun i hi => hl _ (by omega) (by omega)
  unfold fX8_fills
  rw [zS_bd]
  refine zs_m (P := fun x : Int ⊕ Int => zel x (fun _ => ∀ i : Nat, i < 8 → zTx (8 * (k : Int) + i) = if e ≤ p + i then 46 else M 21 (p + i)) (fun r => r = 0 ∧ ∃ i : Nat, i < 8 ∧ zTx (8 * (k : Int) + i) ≠ if e ≤ p + i then 46 else M 21 (p + i))) ?_ ?_
  · refine zit_inv (fun (m : Nat) (y : Int) => ∃ j : Nat, y = (j : Int) ∧ m = 8 - j ∧ j ≤ 8 ∧ ∀ i : Nat, i < j → zTx (8 * (k : Int) + i) = if e ≤ p + i then 46 else M 21 (p + i)) ?_ _ _ ⟨0, rfl, rfl, by omega, fun i hi => by omega⟩
    rintro m y ⟨j, rfl, hm, hj, g⟩
    show zSat (fX8_fills_l3 (8 * (k : Int)) p e j M) _
    unfold fX8_fills_l3 fX8_fills_j44
    by_cases d : (8 : Int) ≤ j
    · rw [if_pos d]
      have : j = 8 := by omega
      subst this
      exact g
    · rw [if_neg d, zw_i (x := 8 * (k : Int) + j) (by omega) (by omega), if_neg (by omega), zw_i (x := p + j) (by omega) (by omega), zgd_t ⟨by omega, by omega⟩, zw_i (x := (j : Int) + 1) (by omega) (by omega)]
      have go : ∀ v : Int, v = (if e ≤ p + j then 46 else M 21 (p + j)) → zSat (if zTx (8 * (k : Int) + j) = v then some (.inl ((j : Int) + 1)) else some (.inr (.inr 0)) : Option (Int ⊕ (Int ⊕ Int))) (fun x : Int ⊕ (Int ⊕ Int) => zel x (fun s' => ∃ m', m' < m ∧ ∃ j : Nat, s' = (j : Int) ∧ m' = 8 - j ∧ j ≤ 8 ∧ ∀ i : Nat, i < j → zTx (8 * (k : Int) + i) = if e ≤ p + i then 46 else M 21 (p + i)) (fun x => zel x (fun _ => ∀ i : Nat, i < 8 → zTx (8 * (k : Int) + i) = if e ≤ p + i then 46 else M 21 (p + i)) (fun r => r = 0 ∧ ∃ i : Nat, i < 8 ∧ zTx (8 * (k : Int) + i) ≠ if e ≤ p + i then 46 else M 21 (p + i)))) := fun v hv => by
        by_cases f : zTx (8 * (k : Int) + j) = v
        · rw [if_pos f]
          refine ⟨8 - (j + 1), by omega, j + 1, rfl, rfl, by omega, fun i hi => ?_⟩
          by_cases u : i = j
          · rw [u, f, hv]
          · exact g i (by omega)
        · rw [if_neg f]
          exact ⟨rfl, j, by omega, by rw [← hv]; exact f⟩
      by_cases f : e ≤ p + j
      · rw [if_pos f]
        exact go 46 (by rw [if_pos f])
      · rw [if_neg f, zgd_t ⟨by omega, by omega⟩, zgd_t ⟨by omega, by omega⟩]
        exact go _ (by rw [if_neg f])
  · intro x hx
    cases x with
    | inl y =>
      have hx : ∀ i : Nat, i < 8 → zTx (8 * (k : Int) + i) = if e ≤ p + i then 46 else M 21 (p + i) := hx
      refine Or.inl ⟨rfl, ?_⟩
      have L : (e - p).toNat = xln k := by
        by_cases c1 : (e - p).toNat < xln k
        · have a := hx (e - p).toNat (by omega)
          rw [if_pos (by omega)] at a
          have b := (t3 (e - p).toNat (by omega)).1 c1
          omega
        · by_cases c2 : xln k < (e - p).toNat
          · have a := hx (xln k) (by omega)
            rw [if_neg (by omega)] at a
            have b := (t3 (xln k) (by omega)).2 (Nat.le_refl _)
            have d := hl' (xln k) c2
            omega
          · omega
      rw [L, ← t1]
      refine xwv_c _ fun i hi => ?_
      have a := hx i (by omega)
      rw [if_neg (by omega)] at a
      exact a.symm
    | inr r =>
      have hx : r = 0 ∧ ∃ i : Nat, i < 8 ∧ zTx (8 * (k : Int) + i) ≠ if e ≤ p + i then 46 else M 21 (p + i) := hx
      obtain ⟨r0, i, i8, ni⟩ := hx
      refine Or.inr ⟨r0, fun w => ni ?_⟩
      rw [← t1] at w
      obtain ⟨w1, w2⟩ := xwv_inj _ _ hl' (fun i hi => (t3 i (by omega)).1 hi) w
      by_cases c : e ≤ p + i
      · rw [if_pos c]; exact (t3 i i8).2 (by omega)
      · rw [if_neg c]; exact (w2 i (by omega)).symm
theorem e_wordFrom (h0 : 0 ≤ p) (he : p < e) (h1 : e ≤ 1000) (h8 : e - p ≤ 8) (hl : ∀ q : Int, p ≤ q → q < e → xlet (M 21 q)) : zSat (fX8_wordFrom p e M) (xWd (xwv (M 21) p (e - p).toNat)) := by
  unfold fX8_wordFrom
  rw [zS_bd]
  refine zs_m (P := fun x : Int ⊕ Int => zel x (fun _ => ∀ k : Nat, k < 29 → xwv (M 21) p (e - p).toNat ≠ xwk k) (fun r => ∃ k : Nat, k < 29 ∧ r = 100 + (k : Int) ∧ xwv (M 21) p (e - p).toNat = xwk k)) ?_ ?_
  · refine zit_inv (fun (m : Nat) (y : Int) => ∃ j : Nat, y = 8 * (j : Int) ∧ m = 29 - j ∧ j ≤ 29 ∧ ∀ k : Nat, k < j → xwv (M 21) p (e - p).toNat ≠ xwk k) ?_ _ _ ⟨0, rfl, rfl, by omega, fun i hi => by omega⟩
    rintro m y ⟨j, rfl, hm, hj, g⟩
    show zSat (fX8_wordFrom_l2 p e (8 * (j : Int)) M) _
    unfold fX8_wordFrom_l2
    by_cases d : (232 : Int) ≤ 8 * (j : Int)
    · rw [if_pos d]
      have : j = 29 := by omega
      subst this
      exact g
    · rw [if_neg d, zS_bd]
      refine zs_m (e_fills (k := j) (by omega) h0 he h1 h8 hl) ?_
      rintro r (⟨r1, r2⟩ | ⟨r1, r2⟩)
      · rw [if_neg (by omega), zgd_t (by decide), zdiv_n ⟨by omega, by omega⟩ ⟨by decide, by decide⟩ (by omega) (by decide), zw_i (by omega) (by omega)]
        exact ⟨j, by omega, by omega, r2⟩
      · rw [if_pos r1, zw_i (by omega) (by omega)]
        refine ⟨29 - (j + 1), by omega, j + 1, by omega, rfl, by omega, fun k hk => ?_⟩
        by_cases u : k = j
        · rw [u]; exact r2
        · exact g k (by omega)
  · intro x hx
    cases x with
    | inl y => exact Or.inl ⟨rfl, hx⟩
    | inr r => exact Or.inr hx
theorem e_valueFrom (h0 : 0 ≤ p) (he : p < e) (h1 : e ≤ 1000) (h4 : e - p ≤ 4) (hl : ∀ q : Int, p ≤ q → q < e → xdig (M 21 q)) : fX8_valueFrom p e M = some (xdv (M 21) p (e - p).toNat) := by
  unfold fX8_valueFrom
  have key := zit_for (f := fun s2 : Int × Int => fX8_valueFrom_l5 e (s2.1) (s2.2) M) (e - p).toNat (fun i => (xdv (M 21) p i, p + (i : Int))) (e := (xdv (M 21) p (e - p).toNat, e)) ?_ ?_
  · rw [show (0, p) = (xdv (M 21) p 0, p + ((0 : Nat) : Int)) by rw [show p + ((0 : Nat) : Int) = p by omega]; rfl, key, zbd_s]
  · intro i hi
    have b := xdv_b (T := M 21) (p := p) i (fun q hq => hl _ (by omega) (by omega))
    have d := hl (p + i) (by omega) (by omega)
    have p3 : (10 : Int) ^ i ≤ 10 ^ 3 := by
      have := Nat.pow_le_pow_right (n := 10) (by decide) (show i ≤ 3 by omega)
      exact_mod_cast this
    have e3 : (10 : Int) ^ 3 = 1000 := by decide
    show fX8_valueFrom_l5 e (xdv (M 21) p i) (p + i) M = some (.inl (xdv (M 21) p i * 10 + (M 21 (p + i) - 48), p + ((i + 1 : Nat) : Int)))
    generalize xdv (M 21) p i = z at b ⊢
    unfold fX8_valueFrom_l5
    rw [if_neg (by omega), zgd_t ⟨by omega, by omega⟩, zw_i (by omega) (by omega), zw_i (by omega) (by omega)]
    rw [show z * 10 + M 21 (p + i) - 48 = z * 10 + (M 21 (p + i) - 48) by omega, show p + (i : Int) + 1 = p + ((i + 1 : Nat) : Int) by omega]
  · show fX8_valueFrom_l5 e _ (p + ((e - p).toNat : Int)) M = _
    unfold fX8_valueFrom_l5
    rw [if_pos (by omega), show p + ((e - p).toNat : Int) = e by omega]
theorem e_tokenFrom (n1 : n ≤ 1000) (h0 : 0 ≤ p) (h1 : p < n) (hT : ∀ k : Int, 0 ≤ k → k < n → xsi (M 21 k)) (he : xen (M 21) n p e) : zSat (fX8_tokenFrom p e M) (xck (M 21) p e) := by
  obtain ⟨⟨a1, a2⟩, a3⟩ := he
  unfold fX8_tokenFrom
  rw [e_isLetter h0 (by omega), zbd_s, zw_i (x := e - p) (by omega) (by omega)]
  by_cases c : xlet (M 21 p)
  · have al : ∀ q : Int, p ≤ q → q < e → xlet (M 21 q) := by
      rcases a3 with ⟨-, x, -⟩ | ⟨d, -, -⟩ | ⟨nl, -, -⟩
      · exact x
      · omega
      · exact absurd c nl
    rw [if_pos c, if_neg (show ¬ (1 : Int) = 0 by decide)]
    by_cases d : e - p ≤ 8
    · rw [if_pos d, zS_bd]
      exact zs_m (e_wordFrom h0 a1 (by omega) d al) fun r hr => Or.inl ⟨c, Or.inl ⟨d, hr⟩⟩
    · rw [if_neg d]
      exact Or.inl ⟨c, Or.inr ⟨by omega, rfl⟩⟩
  · rw [if_neg c, if_pos rfl, e_isDigit h0 (by omega), zbd_s]
    by_cases c2 : xdig (M 21 p)
    · have al : ∀ q : Int, p ≤ q → q < e → xdig (M 21 q) := by
        rcases a3 with ⟨l, -, -⟩ | ⟨-, x, -⟩ | ⟨-, nd, -⟩
        · exact absurd l c
        · exact x
        · exact absurd c2 nd
      rw [if_pos c2, if_neg (show ¬ (1 : Int) = 0 by decide)]
      by_cases d : e - p ≤ 4
      · have b := xdv_b (T := M 21) (p := p) (e - p).toNat (fun i hi => al _ (by omega) (by omega))
        have p4 : (10 : Int) ^ (e - p).toNat ≤ 10 ^ 4 := by
          have := Nat.pow_le_pow_right (n := 10) (by decide) (show (e - p).toNat ≤ 4 by omega)
          exact_mod_cast this
        have e4 : (10 : Int) ^ 4 = 10000 := by decide
        rw [if_pos d, e_valueFrom h0 a1 (by omega) d al, zbd_s, zw_i (by omega) (by omega)]
        exact Or.inr (Or.inl ⟨c2, Or.inl ⟨d, rfl, b.1, by omega⟩⟩)
      · rw [if_neg d]
        exact Or.inr (Or.inl ⟨c2, Or.inr ⟨by omega, rfl⟩⟩)
    · have si := hT p h0 h1
      have sx := xsx (M 21 p).toNat (by omega)
      rw [show (((M 21 p).toNat : Nat) : Int) = M 21 p by omega] at sx
      rw [if_neg c2, if_pos rfl, zgd_t ⟨h0, by omega⟩, zgd_t ⟨h0, by omega⟩]
      by_cases d : zSx (M 21 p) < 0
      · rw [if_pos d]
        exact Or.inr (Or.inr ⟨c, c2, Or.inr ⟨sx.1 d, rfl⟩⟩)
      · rw [if_neg d]
        refine Or.inr (Or.inr ⟨c, c2, Or.inl ⟨?_, rfl⟩⟩)
        by_cases u : xsg (M 21 p)
        · exact u
        · exact absurd (sx.2 u) d
end TK1
