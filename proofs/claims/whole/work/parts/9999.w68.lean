/-! PURE PART, 68: names and numbers, read by both -/
section TK6
variable {M V M0 V0 : zMem} {T T' : Int → Int} {n p e s c w t v : Int}
theorem e_letterAt (hn : M 20 1 = n) (n1 : n ≤ 1000) (hT : M 21 = T) (h0 : 0 ≤ p) : fX8_letterAt p M = some (if p < n ∧ xlet (T p) then T p else 32) := by
  unfold fX8_letterAt fX8_letterAt_j38 fX8_letterAt_j39
  rw [if_neg (by omega), hn, hT]
  by_cases c : n ≤ p
  · rw [if_pos c, if_pos rfl, if_neg (by omega)]
  · rw [if_neg c, zgd_t ⟨h0, by omega⟩, zgd_t ⟨h0, by omega⟩, zgd_t ⟨h0, by omega⟩, if_neg (show ¬ (1 : Int) = 0 by decide), if_pos rfl]
    by_cases d : T p < 97
    · rw [if_pos d, if_neg (by omega)]
    · rw [if_neg d]
      by_cases f : 122 < T p
      · rw [if_pos f, if_neg (by omega)]
      · rw [if_neg f, if_pos (by omega)]
theorem xW_l (h : xW T n p w) : ∃ L : Nat, L ≤ 8 ∧ 0 < L ∧ p + L ≤ n ∧ w = xwv T p L ∧ (∀ i : Nat, i < L → xlet (T (p + i))) ∧ (p + L = n ∨ ¬ xlet (T (p + L))) := by
  obtain ⟨p0, e, ⟨⟨e1, e2⟩, e3⟩, l, e8, hw⟩ := h
  rcases e3 with ⟨-, x, y⟩ | ⟨d, -, -⟩ | ⟨nl, -, -⟩
  · refine ⟨(e - p).toNat, by omega, by omega, by omega, hw, fun i hi => x _ (by omega) (by omega), ?_⟩
    rw [show p + ((e - p).toNat : Int) = e by omega]; exact y
  · omega
  · exact absurd l nl
theorem e_sameWord {p' w' : Int} (hn : M 20 1 = n) (n1 : n ≤ 1000) (hT : M 21 = T) (h : xW T n p w) (h' : xW T n p' w') : fX8_sameWord p p' M = some (if w = w' then 1 else 0) := by
  have p0 := h.1
  have p0' := h'.1
  obtain ⟨L, L8, Lp, Ln, hw, hl, hend⟩ := xW_l h
  obtain ⟨L', L8', Lp', Ln', hw', hl', hend'⟩ := xW_l h'
  apply zSat_v
  unfold fX8_sameWord
  rw [zS_bd]
  refine zs_m (P := fun x : Int ⊕ Int => zel x (fun _ => False) (fun r => r = if w = w' then 1 else 0)) ?_ ?_
  · refine zit_inv (fun (m : Nat) (y : Int) => ∃ j : Nat, y = (j : Int) ∧ m = 9 - j ∧ j ≤ L ∧ j ≤ L' ∧ ∀ i : Nat, i < j → T (p + i) = T (p' + i)) ?_ _ _ ⟨0, rfl, rfl, by omega, by omega, fun i hi => by omega⟩
    rintro m y ⟨j, rfl, hm, j1, j2, g⟩
    show zSat (fX8_sameWord_l2 p p' j M) _
    unfold fX8_sameWord_l2
    rw [if_neg (by omega), zw_i (x := p + j) (by omega) (by omega), zw_i (x := p' + j) (by omega) (by omega), e_letterAt hn n1 hT (by omega), zbd_s, e_letterAt hn n1 hT (by omega), zbd_s]
    have a1 : (if p + (j : Int) < n ∧ xlet (T (p + j)) then T (p + j) else 32) = if j < L then T (p + j) else 32 := by
      by_cases c : j < L
      · rw [if_pos c, if_pos ⟨by omega, hl j c⟩]
      · have : j = L := by omega
        subst this
        rw [if_neg c, if_neg (fun q => by
          rcases hend with z | z
          · have := q.1; omega
          · exact z q.2)]
    have a2 : (if p' + (j : Int) < n ∧ xlet (T (p' + j)) then T (p' + j) else 32) = if j < L' then T (p' + j) else 32 := by
      by_cases c : j < L'
      · rw [if_pos c, if_pos ⟨by omega, hl' j c⟩]
      · have : j = L' := by omega
        subst this
        rw [if_neg c, if_neg (fun q => by
          rcases hend' with z | z
          · have := q.1; omega
          · exact z q.2)]
    rw [a1, a2]
    by_cases c1 : j < L
    · have l1 := hl j c1
      rw [if_pos c1]
      by_cases c2 : j < L'
      · have l2 := hl' j c2
        rw [if_pos c2]
        by_cases d : T (p + j) = T (p' + j)
        · rw [if_pos d, if_neg (by omega), zw_i (by omega) (by omega)]
          refine ⟨9 - (j + 1), by omega, j + 1, rfl, rfl, by omega, by omega, fun i hi => ?_⟩
          by_cases u : i = j
          · rw [u]; exact d
          · exact g i (by omega)
        · rw [if_neg d]
          show (0 : Int) = _
          rw [if_neg (fun q => d ((xwv_inj L L' hl hl' (by rw [← hw, ← hw', q])).2 j c1))]
      · rw [if_neg c2, if_neg (by omega)]
        show (0 : Int) = _
        rw [if_neg (fun q => by
          have := (xwv_inj L L' hl hl' (by rw [← hw, ← hw', q])).1
          omega)]
    · rw [if_neg c1]
      by_cases c2 : j < L'
      · have l2 := hl' j c2
        rw [if_pos c2, if_neg (by omega)]
        show (0 : Int) = _
        rw [if_neg (fun q => by
          have := (xwv_inj L L' hl hl' (by rw [← hw, ← hw', q])).1
          omega)]
      · rw [if_neg c2, if_pos rfl, if_pos rfl]
        show (1 : Int) = _
        have eL : L = L' := by omega
        subst eL
        rw [if_pos (by rw [hw, hw']; exact xwv_c L fun i hi => g i (by omega))]
  · intro x hx
    cases x with
    | inl y => exact hx.elim
    | inr r => exact hx
theorem e_isName (h : xJ T n M V) : fX6_isName M = some (if (M 23 (M 30 3) / 1024) = 2 ∨ (125 ≤ (M 23 (M 30 3) / 1024) ∧ (M 23 (M 30 3) / 1024) ≤ 128) then 1 else 0) := by
  unfold fX6_isName
  rw [(e_seen h).1, zbd_s, zbd_s, zbd_s]
  generalize (M 23 (M 30 3) / 1024) = c
  by_cases c1 : c = 2
  · rw [if_pos c1, if_pos (Or.inl c1)]
  · rw [if_neg c1]
    by_cases c2 : c < 125
    · rw [if_pos c2, if_neg (by omega)]
    · rw [if_neg c2]
      by_cases c3 : 128 < c
      · rw [if_pos c3, if_neg (by omega)]
      · rw [if_neg c3, if_pos (by omega)]
/-- the names told before -/
def xNm (T : Int → Int) (n : Int) (M V : zMem) : Prop := (V 211 1 = M 60 0 ∧ 0 ≤ M 60 0 ∧ M 60 0 ≤ 12) ∧ ∀ k : Int, 0 ≤ k → k < M 60 0 → xW T n (M 32 k) (V 214 k)
theorem s_bowlSeen (h : xJ T n M V) (hN : xNm T n M V) (ht : V 200 6 = 1) : ∃ b : Int, fX6_bowlSeen M = some b ∧ fX12_bowlOf V = some b ∧ -1 ≤ b ∧ b < M 60 0 := by
  obtain ⟨⟨n1, n2, n3⟩, hN⟩ := hN
  have hw := h.2.2.2.2.2.1 ht
  have hx := h.1
  have ps := (e_seen h).2
  -- the first that is the word
  have go : ∀ j : Nat, (j : Int) ≤ M 60 0 → (∀ k : Int, 0 ≤ k → k < j → V 214 k ≠ V 200 7) → ∃ b : Int, zit (fun s11 : Int => fX6_bowlSeen_l2 s11 M) (j : Int) = (if b = -1 then some (.inl (M 60 0)) else some (.inr b)) ∧ zit (fun s4 : Int => fX12_bowlOf_l2 s4 V) (j : Int) = (if b = -1 then some (.inl (M 60 0)) else some (.inr b)) ∧ -1 ≤ b ∧ b < M 60 0 := by
    intro j
    generalize hm : (M 60 0).toNat - j = m
    induction m generalizing j with
    | zero =>
      intro j1 hj
      have : (j : Int) = M 60 0 := by omega
      refine ⟨-1, ?_, ?_, by omega, by omega⟩
      · rw [if_pos rfl, this]
        refine zit_r ?_
        unfold fX6_bowlSeen_l2
        rw [if_pos (Int.le_refl _)]
      · rw [if_pos rfl, this]
        refine zit_r ?_
        unfold fX12_bowlOf_l2
        rw [zgd_t (by decide), n1, if_pos (Int.le_refl _)]
    | succ m ih =>
      intro j1 hj
      have jl : (j : Int) < M 60 0 := by omega
      have sw := e_sameWord (M := M) hx.1.1 hx.1.2.2 hx.2.1 (hN j (by omega) jl) hw
      have e1 : fX6_bowlSeen_l2 (j : Int) M = if V 214 j = V 200 7 then some (.inr (.inr (j : Int))) else some (.inl ((j : Int) + 1)) := by
        unfold fX6_bowlSeen_l2
        rw [if_neg (by omega), zgd_t ⟨by omega, by omega⟩, ps, zbd_s, sw, zbd_s, zw_i (by omega) (by omega)]
        by_cases q : V 214 j = V 200 7
        · rw [if_pos q, if_neg (by decide), if_pos q]
        · rw [if_neg q, if_pos rfl, if_neg q]
      have e2 : fX12_bowlOf_l2 (j : Int) V = if V 214 j = V 200 7 then some (.inr (.inr (j : Int))) else some (.inl ((j : Int) + 1)) := by
        unfold fX12_bowlOf_l2
        rw [zgd_t (by decide), n1, if_neg (by omega), zgd_t ⟨by omega, by omega⟩, zw_i (by omega) (by omega)]
      by_cases q : V 214 j = V 200 7
      · rw [if_pos q] at e1 e2
        refine ⟨j, ?_, ?_, by omega, jl⟩
        · rw [if_neg (by omega)]; exact zit_r e1
        · rw [if_neg (by omega)]; exact zit_r e2
      · rw [if_neg q] at e1 e2
        obtain ⟨b, b1, b2, b3⟩ := ih (j + 1) (by omega) (by omega) (fun k k0 k1 => by
          by_cases u : k = j
          · rw [u]; exact q
          · exact hj k k0 (by omega))
        refine ⟨b, ?_, ?_, b3⟩
        · rw [zit_l e1]; exact b1
        · rw [zit_l e2]; exact b2
  obtain ⟨b, b1, b2, b3, b4⟩ := go 0 (by omega) (fun k k0 k1 => by omega)
  refine ⟨b, ?_, ?_, b3, b4⟩
  · unfold fX6_bowlSeen
    rw [show zit (fun s11 : Int => fX6_bowlSeen_l2 s11 M) 0 = _ from b1]
    by_cases q : b = -1
    · rw [if_pos q, zbd_s, q]; rfl
    · rw [if_neg q, zbd_s]; rfl
  · unfold fX12_bowlOf
    rw [show zit (fun s4 : Int => fX12_bowlOf_l2 s4 V) 0 = _ from b2]
    by_cases q : b = -1
    · rw [if_pos q, zbd_s, q]; rfl
    · rw [if_neg q, zbd_s]; rfl
theorem e_take {x : Int} (h : xJ T n M V) : fX6_take x M = if (M 23 (M 30 3) / 1024) = x then some (1, zup M 30 3 (M 30 3 + 1)) else some (0, zup M 30 5 1) := by
  have a := h.2.2.1
  have b := h.1.2.2
  unfold fX6_take
  rw [(e_seen h).1, zbd_s, zw_i (x := M 30 3 + 1) (by omega) (by omega)]
  rfl
/-- only how far the model is has changed, and the number read -/
def xFm (V W : zMem) : Prop := (∀ c : Nat, c ≠ 200 → W c = V c) ∧ ∀ q : Int, q < 4 ∨ 8 < q → q ≠ 42 → W 200 q = V 200 q
/-- the class has gone on by d tokens, row o has x at i -/
def xGo (M M' : zMem) (d : Int) (o : Nat) (i x : Int) : Prop := (∀ c : Nat, c ≠ 30 → c ≠ o → M' c = M c) ∧ (∀ q : Int, q ≠ 3 → M' 30 q = M 30 q) ∧ M' 30 3 = M 30 3 + d ∧ (∀ q : Int, q ≠ i → M' o q = M o q) ∧ M' o i = x
theorem s_go {M' : zMem} {o : Nat} {i x : Int} (h : xK T n M0 V0 M V) (c0 : (M 23 (M 30 3) / 1024) ≠ 0) (c1 : (M 23 (M 30 3) / 1024) ≠ 1) (ho : 60 ≤ o ∧ o < 80) (g : xGo M M' 1 o i x) {V2 : zMem} (v1 : V2 203 = V 203) (v2 : ∀ q : Int, 3 ≤ q → q ≤ 8 → V2 200 q = V 200 q) (v3 : xFv V0 V2) : ∃ W : zMem, fX12_nextToken V2 = some W ∧ xFn V2 W ∧ xK T n M0 V0 M' W := by
  have h2 : xK T n M0 V0 M V2 := ⟨xJ_c h.1 rfl rfl rfl rfl rfl v1 v2, h.2.1, v3⟩
  obtain ⟨-, W, e, fW, vW, gW⟩ := s_next h2 c0 c1
  refine ⟨W, e, fW, gW M' (g.1 20 (by decide) (by omega)) (g.1 21 (by decide) (by omega)) (g.1 23 (by decide) (by omega)) (g.1 24 (by decide) (by omega)) g.2.2.1, fun c hc => ?_, vW⟩
  rw [g.1 c (by omega) (by omega)]; exact h.2.1 c hc
theorem s_number (h : xK T n M0 V0 M V) {o no : Nat} {i lo hi : Int} (ho : 60 ≤ o ∧ o < 80) (i0 : 0 ≤ i) (i1 : i < no) (hno : no ≤ 100) : (∃ Mf Vf : zMem, fX6_number o no i lo hi M = some (0, Mf) ∧ fX12_needsNumber lo hi V = some (0, Vf) ∧ xFt M0 V0 Mf Vf) ∨ (∃ (M' : zMem) (x : Int), (lo ≤ x ∧ x ≤ hi) ∧ fX6_number o no i lo hi M = some (1, M') ∧ xGo M M' 1 o i x ∧ fX12_needsNumber lo hi V = some (1, V) ∧ V 200 8 = x ∧ (M 23 (M 30 3) / 1024) ≠ 0 ∧ (M 23 (M 30 3) / 1024) ≠ 1) := by
  have a := h.1.2.2.1
  have b := h.1.1.2.2
  have s2 := xSe_2 h.1.2.2.2.2.1
  have rg := xSe_r h.1.2.2.2.2.1
  have e0 := (e_seen h.1).1
  unfold fX6_number fX6_number_j34 fX6_number_j50 fX12_needsNumber
  rw [e0, zbd_s]
  generalize hc : (M 23 (M 30 3) / 1024) = c at s2 rg ⊢
  rw [zw_i (x := c - 1000) (by omega) (by omega), zw_i (x := ((no : Nat) : Int)) (by omega) (by omega)]
  by_cases t : V 200 6 = 2
  · have c3 := s2.1.1 t
    have hv := s2.2 t
    rw [if_pos t, if_pos (show 0 ≤ c - 1000 by omega), hv]
    have isf : fX12_isFrom (c - 1000) lo hi V = some (if lo ≤ c - 1000 ∧ c - 1000 ≤ hi then 1 else 0) := by
      unfold fX12_isFrom
      by_cases q1 : c - 1000 < lo
      · rw [if_pos q1, if_neg (by omega)]
      · rw [if_neg q1]
        by_cases q2 : hi < c - 1000
        · rw [if_pos q2, if_neg (by omega)]
        · rw [if_neg q2, if_pos (by omega)]
    rw [isf, zbd_s]
    obtain ⟨f1, f2, f3⟩ := s_fail h (k := 4) (by decide) (by decide)
    by_cases q1 : lo ≤ c - 1000 ∧ c - 1000 ≤ hi
    · rw [if_neg (by omega), if_pos q1.2, if_neg (by omega), if_pos i1, zgd_t ⟨i0, i1⟩, if_pos q1, if_neg (show ¬ (1 : Int) = 0 by decide), zup_ne (show (30 : Nat) ≠ o by omega), zw_i (x := M 30 3 + 1) (by omega) (by omega)]
      refine Or.inr ⟨_, c - 1000, q1, rfl, ⟨fun d d1 d2 => by rw [zup_c d1, zup_c d2], fun q hq => by rw [zup_nk hq, zup_ne (by omega)], zup_eq, fun q hq => by rw [zup_ne (by omega), zup_nk hq], by rw [zup_ne (by omega), zup_eq]⟩, rfl, rfl, by omega, by omega⟩
    · refine Or.inl ⟨_, _, ?_, ?_, f3⟩
      · by_cases q2 : c - 1000 < lo
        · rw [if_pos q2, f1]; rfl
        · rw [if_neg q2, if_neg (by omega), f1]; rfl
      · rw [if_neg q1, if_pos rfl, f2]; rfl
  · have c3 : ¬ 1000 ≤ c := fun q => t (s2.1.2 q)
    obtain ⟨f1, f2, f3⟩ := s_fail h (k := 1) (by decide) (by decide)
    rw [if_neg t, if_neg (show ¬ 0 ≤ c - 1000 by omega)]
    exact Or.inl ⟨_, _, by rw [f1]; rfl, by rw [f2]; rfl, f3⟩
theorem s_needs (h : xK T n M0 V0 M V) {k : Nat} (hk : k < 29) {w : Int} (hw : w = xwk k) {o no : Nat} {i lo hi : Int} (ho : 60 ≤ o ∧ o < 80) (i0 : 0 ≤ i) (i1 : i < no) (hno : no ≤ 100) : (∃ Mf Vf : zMem, (fX6_take (100 + (k : Int)) M = some (0, Mf) ∨ ∃ M1 : zMem, fX6_take (100 + (k : Int)) M = some (1, M1) ∧ fX6_number o no i lo hi M1 = some (0, Mf)) ∧ fX12_needs w lo hi V = some (0, Vf) ∧ xFt M0 V0 Mf Vf) ∨ (∃ (M1 M' W : zMem) (x : Int), (lo ≤ x ∧ x ≤ hi) ∧ fX6_take (100 + (k : Int)) M = some (1, M1) ∧ fX6_number o no i lo hi M1 = some (1, M') ∧ xGo M M' 2 o i x ∧ fX12_needs w lo hi V = some (1, W) ∧ W 200 42 = x ∧ xFm V W ∧ xK T n M0 V0 M' W) := by
  have tk := e_take (x := 100 + (k : Int)) h.1
  have iw := m_isWord h.1 hk hw
  unfold fX12_needs
  rw [iw, zbd_s]
  by_cases c : (M 23 (M 30 3) / 1024) = 100 + (k : Int)
  · rw [if_pos c] at tk
    rw [if_pos c, if_neg (show ¬ (1 : Int) = 0 by decide)]
    have g1 : xGo M (zup M 30 3 (M 30 3 + 1)) 1 60 0 (M 60 0) := ⟨fun d d1 d2 => zup_c d1, fun q hq => zup_nk hq, zup_eq, fun q hq => zup_ne (by decide), zup_ne (by decide)⟩
    obtain ⟨W1, n1, fW1, k1⟩ := s_go h (by omega) (by omega) (o := 60) (by omega) g1 rfl (fun _ _ _ => rfl) h.2.2
    rw [n1, zbd_s]
    rcases s_number k1 (lo := lo) (hi := hi) ho i0 i1 hno with ⟨Mf, Vf, a1, a2, a3⟩ | ⟨M', x, hx, a1, g2, a2, a3, a4, a5⟩
    · rw [a2, zbd2_s]
      exact Or.inl ⟨Mf, Vf, Or.inr ⟨_, tk, a1⟩, if_pos rfl, a3⟩
    · rw [a2, zbd2_s]
      show _ ∨ (∃ (M1 M' W : zMem) (x : Int), (lo ≤ x ∧ x ≤ hi) ∧ fX6_take (100 + (k : Int)) M = some (1, M1) ∧ fX6_number o no i lo hi M1 = some (1, M') ∧ xGo M M' 2 o i x ∧ (if (1 : Int) = 0 then some (0, W1) else (zbd (fX12_nextToken (zup W1 200 42 (W1 200 8))) fun M17 => some (1, M17))) = some (1, W) ∧ W 200 42 = x ∧ xFm V W ∧ xK T n M0 V0 M' W)
      rw [if_neg (show ¬ (1 : Int) = 0 by decide)]
      obtain ⟨W2, n2, fW2, k2⟩ := s_go k1 a4 a5 ho g2 (V2 := zup W1 200 42 (W1 200 8)) (by rw [zup_c (by decide)]) (fun q q0 q1 => zup_nk (by omega)) (k1.2.2.up (by omega) rfl)
      rw [n2, zbd_s]
      refine Or.inr ⟨_, M', W2, x, hx, tk, a1, ⟨fun d d1 d2 => ?_, fun q hq => ?_, ?_, fun q hq => ?_, g2.2.2.2.2⟩, rfl, ?_, ⟨fun d hd => ?_, fun q q1 q2 => ?_⟩, k2⟩
      · rw [g2.1 d d1 d2, zup_c d1]
      · rw [g2.2.1 q hq, zup_nk hq]
      · rw [g2.2.2.1, zup_eq]; omega
      · rw [g2.2.2.2.1 q hq, zup_ne (by omega)]
      · rw [fW2.2 42 (by omega), zup_eq, a3]
      · rw [fW2.1 d hd, zup_c hd, fW1.1 d hd]
      · rw [fW2.2 q q1, zup_nk q2, fW1.2 q q1]
  · rw [if_neg c] at tk
    rw [if_neg c, if_pos rfl]
    obtain ⟨f1, f2, f3⟩ := s_fail h (k := 1) (by decide) (by decide)
    exact Or.inl ⟨_, _, Or.inl tk, by rw [f2]; rfl, f3⟩
theorem s_ends (h : xK T n M0 V0 M V) : (∃ Mf Vf : zMem, fX6_take 59 M = some (0, Mf) ∧ fX12_ends V = some (0, Vf) ∧ xFt M0 V0 Mf Vf) ∨ (∃ W : zMem, fX6_take 59 M = some (1, zup M 30 3 (M 30 3 + 1)) ∧ fX12_ends V = some (1, W) ∧ xFn V W ∧ xK T n M0 V0 (zup M 30 3 (M 30 3 + 1)) W) := by
  have tk := e_take (x := 59) h.1
  have iw := m_isSign h.1 (s := 59) (by decide)
  unfold fX12_ends
  rw [iw, zbd_s]
  by_cases c : (M 23 (M 30 3) / 1024) = 59
  · rw [if_pos c] at tk
    rw [if_pos c, if_neg (show ¬ (1 : Int) = 0 by decide)]
    have g1 : xGo M (zup M 30 3 (M 30 3 + 1)) 1 60 0 (M 60 0) := ⟨fun d d1 d2 => zup_c d1, fun q hq => zup_nk hq, zup_eq, fun q hq => zup_ne (by decide), zup_ne (by decide)⟩
    obtain ⟨W1, n1, fW1, k1⟩ := s_go h (by omega) (by omega) (o := 60) (by omega) g1 rfl (fun _ _ _ => rfl) h.2.2
    rw [n1, zbd_s]
    exact Or.inr ⟨W1, tk, rfl, fW1, k1⟩
  · rw [if_neg c] at tk
    rw [if_neg c, if_pos rfl]
    obtain ⟨f1, f2, f3⟩ := s_fail h (k := 1) (by decide) (by decide)
    exact Or.inl ⟨_, _, tk, by rw [f2]; rfl, f3⟩
end TK6
