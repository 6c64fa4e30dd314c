/-! PURE PART, 64: the TAPE split -/
section TK2
variable {M V : zMem} {T T' : Int → Int} {n p e s : Int}
/-- from place s of the TAPE on, the tokens are those from the i-th on -/
def xA (T : Int → Int) (n : Int) (M : zMem) : Nat → Int → Int → Prop
  | 0, _, _ => False
  | f + 1, i, s => (0 ≤ i ∧ i < M 20 3) ∧ ∃ p : Int, xsk T n s p ∧ (M 23 i % 1024 = p ∧ 0 ≤ M 23 i ∧ M 23 i ≤ 2147483647) ∧ ((p = n ∧ M 23 i / 1024 = 0) ∨ (p < n ∧ ∃ e c : Int, xen T n p e ∧ xck T p e c ∧ M 23 i / 1024 = c ∧ (c = 1 ∨ xA T n M f (i + 1) e)))
theorem xA_s {f : Nat} {i : Int} (hs : xspc (T s)) (h : xA T n M f i (s + 1)) : xA T n M f i s := by
  cases f with
  | zero => exact h
  | succ f =>
    obtain ⟨h1, p, h2, h3⟩ := h
    exact ⟨h1, p, xsk_s hs h2, h3⟩
theorem xck_r {c : Int} (h : xck T p e c) : 0 ≤ c ∧ c ≤ 20000 := by
  rcases h with ⟨-, ⟨-, ⟨h, -⟩ | ⟨k, k1, k2, -⟩⟩ | ⟨-, h⟩⟩ | ⟨-, ⟨-, h⟩ | ⟨-, h⟩⟩ | ⟨-, -, ⟨h1, h2⟩ | ⟨-, h⟩⟩
  · omega
  · omega
  · omega
  · omega
  · omega
  · have : xsg c := by rw [h2]; exact h1
    omega
  · omega
theorem e_put {c q : Int} (h0 : 0 ≤ M 20 3) (h1 : M 20 3 ≤ 1000) (c0 : 0 ≤ c ∧ c ≤ 20000) (q0 : 0 ≤ q ∧ q ≤ 1000) : fX8_put c q M = some (zup (zup M 23 (M 20 3) (c * 1024 + q)) 20 3 (M 20 3 + 1)) := by
  unfold fX8_put
  rw [if_neg (by omega), zgd_t ⟨by omega, by omega⟩, zup_ne (show (20 : Nat) ≠ 23 by decide), zw_i (x := c * 1024 + q) (by omega) (by omega), zw_i (x := M 20 3 + 1) (by omega) (by omega)]
def xFs (M V : zMem) : Prop := (∀ c : Nat, c ≠ 20 → c ≠ 23 → c ≠ 24 → V c = M c) ∧ ∀ q : Int, q ≠ 3 → V 20 q = M 20 q
/-- W has the tokens of V before the j-th -/
def xag (V W : zMem) (j : Int) : Prop := ∀ i : Int, 0 ≤ i → i < j → W 23 i = V 23 i
def xSp (T : Int → Int) (n : Int) (V : zMem) (l a : Int) : Prop := (l ≠ 1 → ∀ (W : zMem) (f : Nat), xag V W (V 20 3) → xA T n W f (V 20 3) a → ∃ f' : Nat, xA T n W f' 0 0) ∧ (l = 1 → ∀ W : zMem, xag V W (V 20 3) → V 20 3 ≤ W 20 3 → ∃ f' : Nat, xA T n W f' 0 0)
theorem e_split (hn : M 20 1 = n) (n0 : 0 ≤ n) (n1 : n ≤ 1000) (hT : ∀ k : Int, 0 ≤ k → k < n → xsi (M 21 k)) : zSat (fX8_split M) (fun V => xFs M V ∧ (1 ≤ V 20 3 ∧ V 20 3 ≤ 1001) ∧ ∃ f : Nat, xA (M 21) n V f 0 0) := by
  unfold fX8_split
  rw [zS_bd]
  refine zs_m (P := fun x : Int × Int × zMem => xFs M x.2.2 ∧ (0 ≤ x.2.2 20 3 ∧ x.2.2 20 3 ≤ n) ∧ (x.1 = 1 ∨ x.2.1 = n) ∧ xSp (M 21) n x.2.2 x.1 x.2.1) ?_ ?_
  · refine zit_i3 (fun a b c => fX8_split_l9 a b c) (fun m l a V => m = (n - a).toNat ∧ 0 ≤ a ∧ a ≤ n ∧ xFs M V ∧ (0 ≤ V 20 3 ∧ V 20 3 ≤ a) ∧ xSp (M 21) n V l a) ?_ _ ⟨rfl, by omega, by omega, ⟨fun c c1 c2 c3 => zup_c c1, fun q hq => zup_nk hq⟩, by rw [zup_eq]; omega, fun _ W f _ hW => ?_, fun e => by omega⟩
    · rintro m l a V ⟨hm, a0, a1, fV, ⟨j0, j1⟩, g1, g2⟩
      have v21 : V 21 = M 21 := fV.1 21 (by decide) (by decide) (by decide)
      have v1 : V 20 1 = n := by rw [fV.2 1 (by decide)]; exact hn
      show zSat (fX8_split_l9 l a V) _
      unfold fX8_split_l9
      rw [v1]
      by_cases c : n ≤ a
      · rw [if_pos c]
        exact ⟨fV, ⟨j0, by show V 20 3 ≤ n; omega⟩, Or.inr (by show a = n; omega), g1, g2⟩
      rw [if_neg c]
      by_cases cl : l = 1
      · rw [if_pos cl]
        exact ⟨fV, ⟨j0, by show V 20 3 ≤ n; omega⟩, Or.inl cl, g1, g2⟩
      rw [if_neg cl, zgd_t ⟨by omega, by omega⟩, zgd_t ⟨by omega, by omega⟩, zw_i (x := a + 1) (by omega) (by omega)]
      have spc : xspc (V 21 a) → zSat (some (Sum.inl (l, a + 1, V)) : Option ((Int × Int × zMem) ⊕ (Int × Int × zMem))) (fun x : (Int × Int × zMem) ⊕ (Int × Int × zMem) => zel x (fun s' => ∃ m', m' < m ∧ m' = (n - s'.2.1).toNat ∧ 0 ≤ s'.2.1 ∧ s'.2.1 ≤ n ∧ xFs M s'.2.2 ∧ (0 ≤ s'.2.2 20 3 ∧ s'.2.2 20 3 ≤ s'.2.1) ∧ xSp (M 21) n s'.2.2 s'.1 s'.2.1) (fun x => xFs M x.2.2 ∧ (0 ≤ x.2.2 20 3 ∧ x.2.2 20 3 ≤ n) ∧ (x.1 = 1 ∨ x.2.1 = n) ∧ xSp (M 21) n x.2.2 x.1 x.2.1)) := fun hs => by
        rw [v21] at hs
        exact ⟨(n - (a + 1)).toNat, by omega, rfl, by show 0 ≤ a + 1; omega, by show a + 1 ≤ n; omega, fV, ⟨j0, by show V 20 3 ≤ a + 1; omega⟩, fun q W f hW hA => g1 q W f hW (xA_s hs hA), g2⟩
      by_cases s1 : V 21 a = 32
      · rw [if_pos s1]; exact spc (Or.inl s1)
      rw [if_neg s1]
      by_cases s2 : V 21 a = 10
      · rw [if_pos s2]; exact spc (Or.inr s2)
      rw [if_neg s2, zS_bd]
      have nsp : ¬ xspc (M 21 a) := by rw [← v21]; omega
      refine zs_m (e_endOf v1 n1 a0 (by omega)) ?_
      intro e he
      rw [v21] at he
      rw [zS_bd]
      refine zs_m (e_tokenFrom (n := n) (M := V) n1 a0 (by omega) (by rw [v21]; exact hT) (by rw [v21]; exact he)) ?_
      intro t ht
      rw [v21] at ht
      have he' := he.1
      have tr := xck_r ht
      rw [e_put j0 (by omega) tr ⟨by omega, by omega⟩, zbd_s, zw_i (x := e - 1) (by omega) (by omega), show max a (e - 1) + 1 = e by omega, zw_i (x := e) (by omega) (by omega)]
      generalize hU : zup (zup V 23 (V 20 3) (t * 1024 + a)) 20 3 (V 20 3 + 1) = U
      have u4 : U 20 3 = V 20 3 + 1 := by rw [← hU, zup_eq]
      have u23 : ∀ i : Int, U 23 i = if i = V 20 3 then t * 1024 + a else V 23 i := fun i => by
        rw [← hU, zup_ne (by decide)]
        by_cases q : i = V 20 3
        · rw [if_pos q, q, zup_eq]
        · rw [if_neg q, zup_nk q]
      have ag : ∀ W : zMem, xag U W (V 20 3 + 1) → xag V W (V 20 3) ∧ W 23 (V 20 3) / 1024 = t ∧ (W 23 (V 20 3) % 1024 = a ∧ 0 ≤ W 23 (V 20 3) ∧ W 23 (V 20 3) ≤ 2147483647) := fun W hW => by
        have e := hW (V 20 3) j0 (by omega)
        rw [u23, if_pos rfl] at e
        refine ⟨fun i i0 i1 => ?_, by omega, by omega, by omega, by omega⟩
        have := hW i i0 (by omega)
        rw [u23, if_neg (by omega)] at this
        exact this
      refine ⟨(n - e).toNat, by omega, rfl, by show 0 ≤ e; omega, by show e ≤ n; omega, ⟨fun c c1 c2 c3 => ?_, fun q hq => ?_⟩, by show 0 ≤ U 20 3 ∧ U 20 3 ≤ e; omega, fun q W f hW hA => ?_, fun q W hW hc => ?_⟩
      · show U c = M c
        rw [← hU, zup_c c1, zup_c c2, fV.1 c c1 c2 c3]
      · show U 20 q = M 20 q
        rw [← hU, zup_nk hq, zup_ne (by decide), fV.2 q hq]
      · have hW : xag U W (U 20 3) := hW
        have hA : xA (M 21) n W f (U 20 3) e := hA
        rw [u4] at hW hA
        obtain ⟨w1, w2, w3⟩ := ag W hW
        have lt : V 20 3 < W 20 3 := by
          cases f with
          | zero => exact hA.elim
          | succ f => have := hA.1.2; omega
        exact g1 cl W (f + 1) w1 ⟨⟨j0, lt⟩, a, ⟨by omega, by omega, fun q q0 q1 => by omega, Or.inr nsp⟩, w3, Or.inr ⟨by omega, e, t, he, ht, w2, Or.inr hA⟩⟩
      · have hW : xag U W (U 20 3) := hW
        have hc : U 20 3 ≤ W 20 3 := hc
        have q : t = 1 := q
        rw [u4] at hW hc
        obtain ⟨w1, w2, w3⟩ := ag W hW
        exact g1 cl W 1 w1 ⟨⟨j0, by omega⟩, a, ⟨by omega, by omega, fun q q0 q1 => by omega, Or.inr nsp⟩, w3, Or.inr ⟨by omega, e, t, he, ht, w2, Or.inl q⟩⟩
    · rw [zup_eq] at hW
      exact ⟨f, hW⟩
  · rintro ⟨l, a, V⟩ ⟨fV, ⟨j0, j1⟩, hor, g1, g2⟩
    dsimp only at fV j0 j1 hor g1 g2 ⊢
    have v1 : V 20 1 = n := by rw [fV.2 1 (by decide)]; exact hn
    unfold fX8_split_j77
    rw [v1, e_put j0 (by omega) ⟨by decide, by decide⟩ ⟨n0, n1⟩, zbd_s, show (0 : Int) * 1024 + n = n by omega]
    generalize hU : zup (zup V 23 (V 20 3) n) 20 3 (V 20 3 + 1) = U
    have u4 : U 20 3 = V 20 3 + 1 := by rw [← hU, zup_eq]
    have ag : xag V U (V 20 3) := fun i i0 i1 => by
      rw [← hU]
      rw [zup_ne (by decide), zup_nk (by omega)]
    refine ⟨⟨fun c c1 c2 c3 => ?_, fun q hq => ?_⟩, by omega, ?_⟩
    · rw [← hU, zup_c c1, zup_c c2, fV.1 c c1 c2 c3]
    · rw [← hU, zup_nk hq, zup_ne (by decide), fV.2 q hq]
    · by_cases c : l = 1
      · exact g2 c U ag (by omega)
      · have an : a = n := by
          rcases hor with q | q
          · exact absurd q c
          · exact q
        refine g1 c U 1 ag ⟨⟨j0, by omega⟩, n, ⟨by omega, by omega, fun q q0 q1 => by omega, Or.inl rfl⟩, ?_, Or.inl ⟨rfl, ?_⟩⟩
        · rw [← hU, zup_ne (by decide), zup_eq]; exact ⟨by omega, by omega, by omega⟩
        · rw [← hU, zup_ne (by decide), zup_eq]; omega
end TK2
