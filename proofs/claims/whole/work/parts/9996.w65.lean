/-! PURE PART, 65: the model's next token; words alike -/
section TK3
variable {M V : zMem} {T T' : Int → Int} {n p e s : Int}
theorem xwv_b : ∀ k : Nat, (∀ i : Nat, i < k → xlet (T (p + i))) → 0 ≤ xwv T p k ∧ xwv T p k < 27 ^ k
  | 0, _ => by
    show (0 : Int) ≤ 0 ∧ (0 : Int) < 1
    decide
  | k + 1, h => by
    have i := xwv_b k (fun i hi => h i (by omega))
    have := h k (by omega)
    unfold xwv
    rw [Int.pow_succ]
    omega
def xmk (T : Int → Int) (p e t w v : Int) : Prop := (xlet (T p) ∧ ((e - p ≤ 8 ∧ t = 1 ∧ w = xwv T p (e - p).toNat) ∨ (8 < e - p ∧ t = 4))) ∨ (xdig (T p) ∧ ((e - p ≤ 4 ∧ t = 2 ∧ v = xdv T p (e - p).toNat) ∨ (4 < e - p ∧ t = 4))) ∨ (¬ xlet (T p) ∧ ¬ xdig (T p) ∧ ((xsg (T p) ∧ t = 3) ∨ (¬ xsg (T p) ∧ t = 4)))
def xFn (V W : zMem) : Prop := (∀ c : Nat, c ≠ 200 → W c = V c) ∧ ∀ q : Int, q < 4 ∨ 8 < q → W 200 q = V 200 q
theorem m_signAt (hn : V 200 3 = n) (n1 : n ≤ 1000) (hT : ∀ k : Int, 0 ≤ k → k < n → V 203 k = T k) (h0 : 0 ≤ p) : fX12_signAt p V = some (if n ≤ p then 0 else T p) := by
  unfold fX12_signAt
  rw [hn]
  by_cases c : n ≤ p
  · rw [if_pos c, if_pos c]
  · rw [if_neg c, if_neg c, zgd_t ⟨h0, by omega⟩, hT p h0 (by omega)]
theorem m_nextToken (hn : V 200 3 = n) (n0 : 0 ≤ n) (n1 : n ≤ 1000) (hT : ∀ k : Int, 0 ≤ k → k < n → V 203 k = T k) (hs : V 200 4 = s) (s0 : 0 ≤ s) (s1 : s ≤ n) : zSat (fX12_nextToken V) (fun W => xFn V W ∧ ∃ p : Int, xsk T n s p ∧ W 200 5 = p ∧ ((p = n ∧ W 200 6 = 0) ∨ (p < n ∧ ∃ e : Int, xen T n p e ∧ W 200 4 = e ∧ xmk T p e (W 200 6) (W 200 7) (W 200 8)))) := by
  unfold fX12_nextToken
  rw [zS_bd]
  refine zs_m (P := fun N : zMem => (∀ c : Nat, c ≠ 200 → N c = V c) ∧ (∀ q : Int, q ≠ 4 → N 200 q = V 200 q) ∧ xsk T n s (N 200 4)) ?_ ?_
  · refine zit_inv (fun (m : Nat) (N : zMem) => m = (n - N 200 4).toNat ∧ (∀ c : Nat, c ≠ 200 → N c = V c) ∧ (∀ q : Int, q ≠ 4 → N 200 q = V 200 q) ∧ s ≤ N 200 4 ∧ N 200 4 ≤ n ∧ ∀ q : Int, s ≤ q → q < N 200 4 → xspc (T q)) ?_ _ _ ⟨rfl, fun _ _ => rfl, fun _ _ => rfl, by omega, by omega, fun q q0 q1 => by omega⟩
    rintro m N ⟨hm, f1, f2, y0, y1, g⟩
    show zSat (fX12_nextToken_l0 N) _
    unfold fX12_nextToken_l0 fX12_nextToken_j39
    rw [f2 3 (by decide), hn]
    generalize hy : N 200 4 = y at *
    by_cases c : n ≤ y
    · rw [if_pos c]
      refine ⟨f1, f2, ?_⟩
      rw [hy]
      exact ⟨y0, y1, g, Or.inl (by omega)⟩
    · have e3 : N 203 y = T y := by rw [f1 203 (by decide)]; exact hT y (by omega) (by omega)
      rw [if_neg c, zgd_t ⟨by omega, by omega⟩, zgd_t ⟨by omega, by omega⟩, e3, zw_i (x := y + 1) (by omega) (by omega)]
      have go : xspc (T y) → zSat (some (Sum.inl (zup N 200 4 (y + 1))) : Option (zMem ⊕ zMem)) (fun x : zMem ⊕ zMem => zel x (fun N' => ∃ m', m' < m ∧ m' = (n - N' 200 4).toNat ∧ (∀ c : Nat, c ≠ 200 → N' c = V c) ∧ (∀ q : Int, q ≠ 4 → N' 200 q = V 200 q) ∧ s ≤ N' 200 4 ∧ N' 200 4 ≤ n ∧ ∀ q : Int, s ≤ q → q < N' 200 4 → xspc (T q)) (fun N => (∀ c : Nat, c ≠ 200 → N c = V c) ∧ (∀ q : Int, q ≠ 4 → N 200 q = V 200 q) ∧ xsk T n s (N 200 4))) := fun hs => by
        have u : zup N 200 4 (y + 1) 200 4 = y + 1 := zup_eq
        refine ⟨(n - (y + 1)).toNat, by omega, by rw [u], fun c hc => by rw [zup_c hc, f1 c hc], fun q hq => by rw [zup_nk hq, f2 q hq], by rw [u]; omega, by rw [u]; omega, fun q q0 q1 => ?_⟩
        rw [u] at q1
        by_cases w : q = y
        · rw [w]; exact hs
        · exact g q q0 (by omega)
      by_cases c1 : T y = 32
      · rw [if_pos c1]; exact go (Or.inl c1)
      rw [if_neg c1]
      by_cases c2 : T y = 10
      · rw [if_pos c2]; exact go (Or.inr c2)
      rw [if_neg c2]
      refine ⟨f1, f2, ?_⟩
      rw [hy]
      exact ⟨y0, y1, g, Or.inr (by omega)⟩
  · rintro N ⟨f1, f2, hk⟩
    generalize hp : N 200 4 = p at hk
    have kb := hk
    obtain ⟨k1, k2, -, -⟩ := kb
    unfold fX12_nextToken_j52
    rw [hp]
    generalize hB : zup (zup (zup N 200 5 p) 200 7 0) 200 8 0 = B
    have b5 : B 200 5 = p := by rw [← hB, zup_nk (by decide), zup_nk (by decide), zup_eq]
    have b7 : B 200 7 = 0 := by rw [← hB, zup_nk (by decide), zup_eq]
    have b8 : B 200 8 = 0 := by rw [← hB, zup_eq]
    have bq : ∀ q : Int, q ≠ 5 → q ≠ 7 → q ≠ 8 → B 200 q = N 200 q := fun q q1 q2 q3 => by rw [← hB, zup_nk q3, zup_nk q2, zup_nk q1]
    have bc : ∀ c : Nat, c ≠ 200 → B c = V c := fun c hc => by rw [← hB, zup_c hc, zup_c hc, zup_c hc, f1 c hc]
    have b4 : B 200 4 = p := by rw [bq 4 (by decide) (by decide) (by decide), hp]
    have b3 : B 200 3 = n := by rw [bq 3 (by decide) (by decide) (by decide), f2 3 (by decide), hn]
    have bT : ∀ k : Int, 0 ≤ k → k < n → B 203 k = T k := fun k k0 k1 => by rw [bc 203 (by decide)]; exact hT k k0 k1
    have fB : xFn V B := ⟨bc, fun q hq => by rw [bq q (by omega) (by omega) (by omega), f2 q (by omega)]⟩
    -- any memory that differs from B only there
    have fin : ∀ W : zMem, (∀ c : Nat, c ≠ 200 → W c = B c) → (∀ q : Int, q < 4 ∨ 8 < q → W 200 q = B 200 q) → xFn V W := fun W w1 w2 => ⟨fun c hc => by rw [w1 c hc, bc c hc], fun q hq => by rw [w2 q hq, fB.2 q hq]⟩
    rw [b4, b3]
    by_cases c : p = n
    · rw [if_pos c]
      refine ⟨fin _ (fun c hc => zup_c hc) (fun q hq => zup_nk (by omega)), p, hk, ?_, Or.inl ⟨c, zup_eq⟩⟩
      rw [zup_nk (by decide), b5]
    have pn : p < n := by omega
    rw [if_neg c, zgd_t ⟨by omega, by omega⟩, bT p (by omega) pn]
    have nonl : ¬ xlet (T p) → zSat (fX12_nextToken_j212 (T p) B) (fun W => xFn V W ∧ ∃ p : Int, xsk T n s p ∧ W 200 5 = p ∧ ((p = n ∧ W 200 6 = 0) ∨ (p < n ∧ ∃ e : Int, xen T n p e ∧ W 200 4 = e ∧ xmk T p e (W 200 6) (W 200 7) (W 200 8)))) := by
      intro nl
      unfold fX12_nextToken_j212
      have nond : ¬ xdig (T p) → zSat (fX12_nextToken_j322 (T p) B) (fun W => xFn V W ∧ ∃ p : Int, xsk T n s p ∧ W 200 5 = p ∧ ((p = n ∧ W 200 6 = 0) ∨ (p < n ∧ ∃ e : Int, xen T n p e ∧ W 200 4 = e ∧ xmk T p e (W 200 6) (W 200 7) (W 200 8)))) := by
        intro nd
        unfold fX12_nextToken_j322 fX12_nextToken_j345 fX12_nextToken_j363 fX12_nextToken_j367 fX12_nextToken_j368
        rw [b4, zw_i (x := p + 1) (by omega) (by omega)]
        have done : ∀ t : Int, ((xsg (T p) ∧ t = 3) ∨ (¬ xsg (T p) ∧ t = 4)) → zSat (some (zup (zup B 200 4 (p + 1)) 200 6 t)) (fun W => xFn V W ∧ ∃ p : Int, xsk T n s p ∧ W 200 5 = p ∧ ((p = n ∧ W 200 6 = 0) ∨ (p < n ∧ ∃ e : Int, xen T n p e ∧ W 200 4 = e ∧ xmk T p e (W 200 6) (W 200 7) (W 200 8)))) := fun t ht => by
          refine ⟨fin _ (fun c hc => by rw [zup_c hc, zup_c hc]) (fun q hq => by rw [zup_nk (by omega), zup_nk (by omega)]), p, hk, ?_, Or.inr ⟨pn, p + 1, ⟨⟨by omega, by omega⟩, Or.inr (Or.inr ⟨nl, nd, rfl⟩)⟩, ?_, Or.inr (Or.inr ⟨nl, nd, ?_⟩)⟩⟩
          · rw [zup_nk (by decide), zup_nk (by decide), b5]
          · rw [zup_nk (by decide), zup_eq]
          · rw [zup_eq]; exact ht
        by_cases c1 : T p < 40
        · rw [if_pos c1, if_neg (by omega), if_pos (by omega)]
          exact done 4 (Or.inr ⟨by omega, rfl⟩)
        rw [if_neg c1]
        by_cases c2 : T p ≤ 43
        · rw [if_pos c2]
          exact done 3 (Or.inl ⟨by omega, rfl⟩)
        rw [if_neg c2]
        by_cases c3 : T p = 45
        · rw [if_pos c3]
          exact done 3 (Or.inl ⟨by omega, rfl⟩)
        rw [if_neg c3]
        by_cases c4 : T p < 59
        · rw [if_pos c4]
          exact done 4 (Or.inr ⟨by omega, rfl⟩)
        rw [if_neg c4]
        by_cases c5 : 61 < T p
        · rw [if_pos c5]
          exact done 4 (Or.inr ⟨by omega, rfl⟩)
        rw [if_neg c5]
        exact done 3 (Or.inl ⟨by omega, rfl⟩)
      by_cases d1 : T p < 48
      · rw [if_pos d1]; exact nond (by omega)
      rw [if_neg d1]
      by_cases d2 : 57 < T p
      · rw [if_pos d2]; exact nond (by omega)
      rw [if_neg d2, zS_bd]
      have dg : xdig (T p) := by omega
      refine zs_m (P := fun W : zMem => (∀ c : Nat, c ≠ 200 → W c = B c) ∧ (∀ q : Int, q ≠ 4 → q ≠ 8 → W 200 q = B 200 q) ∧ xen T n p (W 200 4) ∧ W 200 8 = xdv T p (min (W 200 4 - p).toNat 4)) ?_ ?_
      · refine zit_inv (fun (m : Nat) (W : zMem) => m = (n - W 200 4).toNat ∧ (∀ c : Nat, c ≠ 200 → W c = B c) ∧ (∀ q : Int, q ≠ 4 → q ≠ 8 → W 200 q = B 200 q) ∧ p ≤ W 200 4 ∧ W 200 4 ≤ n ∧ (∀ q : Int, p ≤ q → q < W 200 4 → xdig (T q)) ∧ W 200 8 = xdv T p (min (W 200 4 - p).toNat 4)) ?_ _ _ ⟨rfl, fun _ _ => rfl, fun _ _ _ => rfl, by omega, by omega, fun q q0 q1 => by omega, by rw [b4, b8, show (p - p).toNat = 0 by omega]; rfl⟩
        rintro m W ⟨hm, w1, w2, y0, y1, g, hv⟩
        show zSat (fX12_nextToken_l224 W) _
        unfold fX12_nextToken_l224 fX12_nextToken_j286
        have w3 : W 200 3 = n := by rw [w2 3 (by decide) (by decide), b3]
        have wT : ∀ k : Int, 0 ≤ k → k < n → W 203 k = T k := fun k k0 k1 => by rw [w1 203 (by decide)]; exact bT k k0 k1
        rw [w2 5 (by decide) (by decide), b5]
        generalize hy : W 200 4 = y at *
        rw [m_signAt w3 n1 wT (by omega), zbd_s, zbd_s]
        have stop : (y = n ∨ ¬ xdig (T y)) → zSat (some (Sum.inr W) : Option (zMem ⊕ zMem)) (fun x : zMem ⊕ zMem => zel x (fun W => ∃ m', m' < m ∧ m' = (n - W 200 4).toNat ∧ (∀ c : Nat, c ≠ 200 → W c = B c) ∧ (∀ q : Int, q ≠ 4 → q ≠ 8 → W 200 q = B 200 q) ∧ p ≤ W 200 4 ∧ W 200 4 ≤ n ∧ (∀ q : Int, p ≤ q → q < W 200 4 → xdig (T q)) ∧ W 200 8 = xdv T p (min (W 200 4 - p).toNat 4)) (fun W => (∀ c : Nat, c ≠ 200 → W c = B c) ∧ (∀ q : Int, q ≠ 4 → q ≠ 8 → W 200 q = B 200 q) ∧ xen T n p (W 200 4) ∧ W 200 8 = xdv T p (min (W 200 4 - p).toNat 4))) := fun hor => by
          refine ⟨w1, w2, ?_, ?_⟩
          · rw [hy]
            refine ⟨⟨?_, y1⟩, Or.inr (Or.inl ⟨dg, g, hor⟩)⟩
            by_cases u : y = p
            · rw [u] at hor
              rcases hor with q | q
              · omega
              · exact absurd dg q
            · omega
          · rw [hy]; exact hv
        by_cases c1 : n ≤ y
        · rw [if_pos c1, if_pos (by decide)]
          exact stop (Or.inl (by omega))
        rw [if_neg c1]
        by_cases c2 : T y < 48
        · rw [if_pos c2]
          exact stop (Or.inr (by omega))
        rw [if_neg c2, zbd_s]
        by_cases c3 : 57 < T y
        · rw [if_pos c3]
          exact stop (Or.inr (by omega))
        rw [if_neg c3, zw_i (x := y - p) (by omega) (by omega)]
        have g' : ∀ q : Int, p ≤ q → q < y + 1 → xdig (T q) := fun q q0 q1 => by
          by_cases u : q = y
          · rw [u]; omega
          · exact g q q0 (by omega)
        by_cases c4 : 4 ≤ y - p
        · rw [if_pos c4, zw_i (x := y + 1) (by omega) (by omega)]
          have u4 : zup W 200 4 (y + 1) 200 4 = y + 1 := zup_eq
          refine ⟨(n - (y + 1)).toNat, by omega, by rw [u4], fun c hc => by rw [zup_c hc, w1 c hc], fun q q1 q2 => by rw [zup_nk q1, w2 q q1 q2], by rw [u4]; omega, by rw [u4]; omega, by rw [u4]; exact g', ?_⟩
          rw [u4, zup_nk (by decide), hv, show min (y - p).toNat 4 = 4 by omega, show min (y + 1 - p).toNat 4 = 4 by omega]
        · have b := xdv_b (T := T) (p := p) (y - p).toNat (fun i hi => g _ (by omega) (by omega))
          have p3 : (10 : Int) ^ (y - p).toNat ≤ 10 ^ 3 := by
            have := Nat.pow_le_pow_right (n := 10) (by decide) (show (y - p).toNat ≤ 3 by omega)
            exact_mod_cast this
          have e3 : (10 : Int) ^ 3 = 1000 := by decide
          rw [show min (y - p).toNat 4 = (y - p).toNat by omega] at hv
          rw [if_neg c4, zup_nk (show (4 : Int) ≠ 8 by decide), hy, hv, zw_i (x := y + 1) (by omega) (by omega), zw_i (by omega) (by omega)]
          generalize hX : zup (zup W 200 8 (xdv T p (y - p).toNat * 10 + T y - 48)) 200 4 (y + 1) = X
          have u4 : X 200 4 = y + 1 := by rw [← hX, zup_eq]
          have u8 : X 200 8 = xdv T p (y - p).toNat * 10 + T y - 48 := by rw [← hX, zup_nk (by decide), zup_eq]
          refine ⟨(n - (y + 1)).toNat, by omega, by rw [u4], fun c hc => by rw [← hX, zup_c hc, zup_c hc, w1 c hc], fun q q1 q2 => by rw [← hX, zup_nk q1, zup_nk q2, w2 q q1 q2], by rw [u4]; omega, by rw [u4]; omega, by rw [u4]; exact g', ?_⟩
          rw [u4, u8, show min (y + 1 - p).toNat 4 = (y - p).toNat + 1 by omega]
          show _ = xdv T p (y - p).toNat * 10 + (T (p + ((y - p).toNat : Int)) - 48)
          rw [show p + ((y - p).toNat : Int) = y by omega]; omega
      · rintro W ⟨w1, w2, w3, w4⟩
        unfold fX12_nextToken_j299 fX12_nextToken_j318
        have hb := w3.1
        rw [w2 5 (by decide) (by decide), b5, zw_i (x := W 200 4 - p) (by omega) (by omega)]
        by_cases c4 : W 200 4 - p ≤ 4
        · rw [if_pos c4]
          refine ⟨fin _ (fun c hc => by rw [zup_c hc, w1 c hc]) (fun q hq => by rw [zup_nk (by omega), w2 q (by omega) (by omega)]), p, hk, ?_, Or.inr ⟨pn, W 200 4, w3, ?_, Or.inr (Or.inl ⟨dg, Or.inl ⟨c4, zup_eq, ?_⟩⟩)⟩⟩
          · rw [zup_nk (by decide), w2 5 (by decide) (by decide), b5]
          · rw [zup_nk (by decide)]
          · rw [zup_nk (by decide), w4, show min (W 200 4 - p).toNat 4 = (W 200 4 - p).toNat by omega]
        · rw [if_neg c4]
          refine ⟨fin _ (fun c hc => by rw [zup_c hc, w1 c hc]) (fun q hq => by rw [zup_nk (by omega), w2 q (by omega) (by omega)]), p, hk, ?_, Or.inr ⟨pn, W 200 4, w3, ?_, Or.inr (Or.inl ⟨dg, Or.inr ⟨by omega, zup_eq⟩⟩)⟩⟩
          · rw [zup_nk (by decide), w2 5 (by decide) (by decide), b5]
          · rw [zup_nk (by decide)]
    by_cases l1 : T p < 97
    · rw [if_pos l1]; exact nonl (by omega)
    rw [if_neg l1]
    by_cases l2 : 122 < T p
    · rw [if_pos l2]; exact nonl (by omega)
    rw [if_neg l2, zS_bd]
    have le : xlet (T p) := by omega
    refine zs_m (P := fun W : zMem => (∀ c : Nat, c ≠ 200 → W c = B c) ∧ (∀ q : Int, q ≠ 4 → q ≠ 7 → W 200 q = B 200 q) ∧ xen T n p (W 200 4) ∧ W 200 7 = xwv T p (min (W 200 4 - p).toNat 8)) ?_ ?_
    · refine zit_inv (fun (m : Nat) (W : zMem) => m = (n - W 200 4).toNat ∧ (∀ c : Nat, c ≠ 200 → W c = B c) ∧ (∀ q : Int, q ≠ 4 → q ≠ 7 → W 200 q = B 200 q) ∧ p ≤ W 200 4 ∧ W 200 4 ≤ n ∧ (∀ q : Int, p ≤ q → q < W 200 4 → xlet (T q)) ∧ W 200 7 = xwv T p (min (W 200 4 - p).toNat 8)) ?_ _ _ ⟨rfl, fun _ _ => rfl, fun _ _ _ => rfl, by omega, by omega, fun q q0 q1 => by omega, by rw [b4, b7, show (p - p).toNat = 0 by omega]; rfl⟩
      rintro m W ⟨hm, w1, w2, y0, y1, g, hv⟩
      show zSat (fX12_nextToken_l109 W) _
      unfold fX12_nextToken_l109 fX12_nextToken_j175
      have w3 : W 200 3 = n := by rw [w2 3 (by decide) (by decide), b3]
      have wT : ∀ k : Int, 0 ≤ k → k < n → W 203 k = T k := fun k k0 k1 => by rw [w1 203 (by decide)]; exact bT k k0 k1
      rw [w2 5 (by decide) (by decide), b5]
      generalize hy : W 200 4 = y at *
      rw [m_signAt w3 n1 wT (by omega), zbd_s, zbd_s]
      have stop : (y = n ∨ ¬ xlet (T y)) → zSat (some (Sum.inr W) : Option (zMem ⊕ zMem)) (fun x : zMem ⊕ zMem => zel x (fun W => ∃ m', m' < m ∧ m' = (n - W 200 4).toNat ∧ (∀ c : Nat, c ≠ 200 → W c = B c) ∧ (∀ q : Int, q ≠ 4 → q ≠ 7 → W 200 q = B 200 q) ∧ p ≤ W 200 4 ∧ W 200 4 ≤ n ∧ (∀ q : Int, p ≤ q → q < W 200 4 → xlet (T q)) ∧ W 200 7 = xwv T p (min (W 200 4 - p).toNat 8)) (fun W => (∀ c : Nat, c ≠ 200 → W c = B c) ∧ (∀ q : Int, q ≠ 4 → q ≠ 7 → W 200 q = B 200 q) ∧ xen T n p (W 200 4) ∧ W 200 7 = xwv T p (min (W 200 4 - p).toNat 8))) := fun hor => by
        refine ⟨w1, w2, ?_, ?_⟩
        · rw [hy]
          refine ⟨⟨?_, y1⟩, Or.inl ⟨le, g, hor⟩⟩
          by_cases u : y = p
          · rw [u] at hor
            rcases hor with q | q
            · omega
            · exact absurd le q
          · omega
        · rw [hy]; exact hv
      by_cases c1 : n ≤ y
      · rw [if_pos c1, if_pos (by decide)]
        exact stop (Or.inl (by omega))
      rw [if_neg c1]
      by_cases c2 : T y < 97
      · rw [if_pos c2]
        exact stop (Or.inr (by omega))
      rw [if_neg c2, zbd_s]
      by_cases c3 : 122 < T y
      · rw [if_pos c3]
        exact stop (Or.inr (by omega))
      rw [if_neg c3, zw_i (x := y - p) (by omega) (by omega)]
      have g' : ∀ q : Int, p ≤ q → q < y + 1 → xlet (T q) := fun q q0 q1 => by
        by_cases u : q = y
        · rw [u]; omega
        · exact g q q0 (by omega)
      by_cases c4 : 8 ≤ y - p
      · rw [if_pos c4, zw_i (x := y + 1) (by omega) (by omega)]
        have u4 : zup W 200 4 (y + 1) 200 4 = y + 1 := zup_eq
        refine ⟨(n - (y + 1)).toNat, by omega, by rw [u4], fun c hc => by rw [zup_c hc, w1 c hc], fun q q1 q2 => by rw [zup_nk q1, w2 q q1 q2], by rw [u4]; omega, by rw [u4]; omega, by rw [u4]; exact g', ?_⟩
        rw [u4, zup_nk (by decide), hv, show min (y - p).toNat 8 = 8 by omega, show min (y + 1 - p).toNat 8 = 8 by omega]
      · have b := xwv_b (T := T) (p := p) (y - p).toNat (fun i hi => g _ (by omega) (by omega))
        have p3 : (27 : Int) ^ (y - p).toNat ≤ 27 ^ 7 := by
          have := Nat.pow_le_pow_right (n := 27) (by decide) (show (y - p).toNat ≤ 7 by omega)
          exact_mod_cast this
        have e3 : (27 : Int) ^ 7 = 10460353203 := by decide
        rw [show min (y - p).toNat 8 = (y - p).toNat by omega] at hv
        rw [if_neg c4, zup_nk (show (4 : Int) ≠ 7 by decide), hy, hv, zw_i (x := y + 1) (by omega) (by omega), zwl_i (by omega) (by omega)]
        generalize hX : zup (zup W 200 7 (xwv T p (y - p).toNat * 27 + T y - 96)) 200 4 (y + 1) = X
        have u4 : X 200 4 = y + 1 := by rw [← hX, zup_eq]
        have u8 : X 200 7 = xwv T p (y - p).toNat * 27 + T y - 96 := by rw [← hX, zup_nk (by decide), zup_eq]
        refine ⟨(n - (y + 1)).toNat, by omega, by rw [u4], fun c hc => by rw [← hX, zup_c hc, zup_c hc, w1 c hc], fun q q1 q2 => by rw [← hX, zup_nk q1, zup_nk q2, w2 q q1 q2], by rw [u4]; omega, by rw [u4]; omega, by rw [u4]; exact g', ?_⟩
        rw [u4, u8, show min (y + 1 - p).toNat 8 = (y - p).toNat + 1 by omega]
        show _ = xwv T p (y - p).toNat * 27 + (T (p + ((y - p).toNat : Int)) - 96)
        rw [show p + ((y - p).toNat : Int) = y by omega]; omega
    · rintro W ⟨w1, w2, w3, w4⟩
      unfold fX12_nextToken_j188 fX12_nextToken_j208
      have hb := w3.1
      rw [w2 5 (by decide) (by decide), b5, zw_i (x := W 200 4 - p) (by omega) (by omega)]
      by_cases c4 : W 200 4 - p ≤ 8
      · rw [if_pos c4]
        refine ⟨fin _ (fun c hc => by rw [zup_c hc, w1 c hc]) (fun q hq => by rw [zup_nk (by omega), w2 q (by omega) (by omega)]), p, hk, ?_, Or.inr ⟨pn, W 200 4, w3, ?_, Or.inl ⟨le, Or.inl ⟨c4, zup_eq, ?_⟩⟩⟩⟩
        · rw [zup_nk (by decide), w2 5 (by decide) (by decide), b5]
        · rw [zup_nk (by decide)]
        · rw [zup_nk (by decide), w4, show min (W 200 4 - p).toNat 8 = (W 200 4 - p).toNat by omega]
      · rw [if_neg c4]
        refine ⟨fin _ (fun c hc => by rw [zup_c hc, w1 c hc]) (fun q hq => by rw [zup_nk (by omega), w2 q (by omega) (by omega)]), p, hk, ?_, Or.inr ⟨pn, W 200 4, w3, ?_, Or.inl ⟨le, Or.inr ⟨by omega, zup_eq⟩⟩⟩⟩
        · rw [zup_nk (by decide), w2 5 (by decide) (by decide), b5]
        · rw [zup_nk (by decide)]
end TK3
