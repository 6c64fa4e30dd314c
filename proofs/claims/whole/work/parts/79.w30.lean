/-! PURE PART, 30: NOTES that no fingers can play -/
section HOP
variable {σ M : zMem} {k x : Int}
theorem zsum_add {f g : Int → Int} : ∀ n : Nat, zsum (fun q => f q + g q) n = zsum f n + zsum g n
  | 0 => rfl
  | n + 1 => by show zsum (fun q => f q + g q) n + (f n + g n) = zsum f n + f n + (zsum g n + g n); rw [zsum_add n]; omega
theorem zsum_swap {f : Int → Int → Int} (n : Nat) : ∀ m : Nat, zsum (fun a => zsum (fun b => f a b) m) n = zsum (fun b => zsum (fun a => f a b) n) m
  | 0 => by
    show zsum (fun _ => 0) n = 0
    induction n with
    | zero => rfl
    | succ n ih => show zsum (fun _ => 0) n + 0 = 0; rw [ih]; rfl
  | m + 1 => by
    show zsum (fun a => zsum (fun b => f a b) m + f a m) n = zsum (fun b => zsum (fun a => f a b) n) m + zsum (fun a => f a m) n
    rw [zsum_add, zsum_swap n m]
/-- at most one of the first n -/
theorem zsum_1 {p : Int → Prop} [DecidablePred p] : ∀ n : Nat, (∀ a b : Nat, a < n → b < n → p a → p b → a = b) → zsum (fun a => if p a then 1 else 0) n ≤ 1
  | 0, _ => by simp [zsum]
  | n + 1, h => by
    show zsum (fun a => if p a then 1 else 0) n + (if p n then 1 else 0) ≤ 1
    have ih := zsum_1 n (fun a b ha hb => h a b (by omega) (by omega))
    by_cases c : p n
    · have : zsum (fun a => if p a then 1 else 0) n ≤ 0 * (n : Int) := zsum_le fun a ha => by
        have : ¬ p a := fun q => by have := h a n (by omega) (by omega) q c; omega
        rw [if_neg this]; exact Int.le_refl _
      rw [if_pos c]; omega
    · rw [if_neg c]; omega
/-- so many as there are numbers at most -/
theorem zsum_pig {p : Int → Prop} [DecidablePred p] {t : Int → Int} {F : Nat} (n : Nat) (hr : ∀ a : Nat, a < n → p a → 0 ≤ t a ∧ t a < F) (hi : ∀ a b : Nat, a < n → b < n → p a → p b → t a = t b → a = b) : zsum (fun a => if p a then 1 else 0) n ≤ F := by
  have one : ∀ (F : Nat) (v : Int), 0 ≤ v → v < F → zsum (fun f => if v = f then 1 else 0) F = 1 := by
    intro F v v0 v1
    have e : zsum (fun f => if v = f then 1 else 0) F = zsum (fun f => if f = v then 1 else (fun _ => (0 : Int)) f) F := zsum_eq fun f _ => by
      by_cases c : v = (f : Int)
      · rw [if_pos c, if_pos c.symm]
      · rw [if_neg c, if_neg (fun q => c q.symm)]
    rw [e, zsum_up v0 v1]
    have z : ∀ m : Nat, zsum (fun _ => (0 : Int)) m = 0 := by
      intro m
      induction m with
      | zero => rfl
      | succ m ih => show zsum (fun _ => 0) m + 0 = 0; rw [ih]; rfl
    rw [z]; rfl
  have e1 : zsum (fun a => if p a then 1 else 0) n = zsum (fun a => zsum (fun f => if p a ∧ t a = f then 1 else 0) F) n := zsum_eq fun a ha => by
    by_cases c : p a
    · have := hr a ha c
      rw [if_pos c]
      have : zsum (fun f => if p a ∧ t a = f then 1 else 0) F = zsum (fun f => if t a = f then 1 else 0) F := zsum_eq fun f _ => by
        by_cases d : t a = (f : Int)
        · rw [if_pos ⟨c, d⟩, if_pos d]
        · rw [if_neg (fun q => d q.2), if_neg d]
      rw [this, one F (t a) (by omega) (by omega)]
    · rw [if_neg c]
      have : zsum (fun f => if p a ∧ t a = f then 1 else 0) F = zsum (fun _ => 0) F := zsum_eq fun f _ => by rw [if_neg (fun q => c q.1)]
      rw [this]
      have z : ∀ m : Nat, zsum (fun _ => (0 : Int)) m = 0 := by
        intro m
        induction m with
        | zero => rfl
        | succ m ih => show zsum (fun _ => 0) m + 0 = 0; rw [ih]; rfl
      rw [z]
  rw [e1, zsum_swap]
  have := zsum_le (f := fun f => zsum (fun a => if p a ∧ t a = f then 1 else 0) n) (hi := 1) (n := F) (fun f _ => zsum_1 n (fun a b ha hb qa qb => hi a b ha hb qa.1 qb.1 (qa.2.trans qb.2.symm)))
  omega
/-- all that lasts as NOTE n begins, at PLACES from a on and below b -/
abbrev zhs (σ : zMem) (n a b o : Int) : Prop := zmee σ o n ∧ a ≤ zat σ o ∧ zat σ o < b
def zhok (σ : zMem) (n : Nat) (a b : Int) : Prop := (∀ o p : Nat, o ≤ n → p ≤ n → zhs σ n a b o → zhs σ n a b p → zat σ o = zat σ p → o = p) ∧ zsum (fun o => if zhs σ n a b o then 1 else 0) (n + 1) ≤ σ 59 1 ∧ ∀ o p : Nat, o ≤ n → p ≤ n → zhs σ n a b o → zhs σ n a b p → zat σ o - zat σ p ≤ σ 59 2
theorem zit_i5 {A B C D G E : Type} {P : E → Prop} (g : A → B → C → D → G → Option ((A × B × C × D × G) ⊕ E)) (I : Nat → A → B → C → D → G → Prop) (step : ∀ m a b c d e, I m a b c d e → zSat (g a b c d e) (fun x => zel x (fun s' => ∃ m', m' < m ∧ I m' s'.1 s'.2.1 s'.2.2.1 s'.2.2.2.1 s'.2.2.2.2) P)) (m : Nat) {a : A} {b : B} {c : C} {d : D} {e : G} (h : I m a b c d e) : zSat (zit (fun s => g s.1 s.2.1 s.2.2.1 s.2.2.2.1 s.2.2.2.2) (a, b, c, d, e)) P :=
  zit_inv (fun m s => I m s.1 s.2.1 s.2.2.1 s.2.2.2.1 s.2.2.2.2) (fun m s hs => step m s.1 s.2.1 s.2.2.1 s.2.2.2.1 s.2.2.2.2 hs) m (a, b, c, d, e) h
def zlgs (σ : zMem) (n : Nat) (a b : Int) (i : Nat) (l g : Int) : Prop := (l = b ∧ g = a) ∨ ((∃ o : Nat, o < i ∧ zhs σ n a b o ∧ l = zat σ o) ∧ ∃ o : Nat, o < i ∧ zhs σ n a b o ∧ g = zat σ o)
set_option maxRecDepth 20000 in
theorem e_handHolds (h : St σ) (hA : zAx σ M) {n : Nat} (hn : (n : Int) < σ 80 0) {a b : Int} (ha : 0 ≤ a ∧ a ≤ 12) (hb : 0 ≤ b ∧ b ≤ 12) (hab : a ≤ b) : zSat (fX0_handHolds n a b M) (fun r => (r = 0 ∨ r = 1) ∧ (zhok σ n a b → r = 1)) := by
  have hnn := r_nn h
  have hti := r_ti h
  unfold fX0_handHolds
  rw [zS_bd]
  refine zit_i5 (fun u v l g y => fX0_handHolds_l15 n a b u v l g y M) (fun m u v l g y => ∃ (i mk : Nat), y = (i : Int) ∧ i ≤ n + 1 ∧ m = n + 1 - i ∧ v = (mk : Int) ∧ mk < 2 ^ 12 ∧ (∀ p : Nat, mk.testBit p = true ↔ ∃ o : Nat, o < i ∧ zhs σ n a b o ∧ zat σ o = p) ∧ u = zsum (fun o => if zhs σ n a b o then 1 else 0) i ∧ zlgs σ n a b i l g) ?_ (n + 1) ⟨0, 0, rfl, by omega, by omega, rfl, by decide, fun p => by simp, rfl, Or.inl ⟨rfl, rfl⟩⟩
  rintro m u v l g y ⟨i, mk, rfl, i1, hm, rfl, hmk, hbits, hu, hlg⟩
  show zSat (fX0_handHolds_l15 n a b u mk l g i M) _
  have ub : 0 ≤ u ∧ u ≤ 1 * i := by
    rw [hu]; exact ⟨zsum_0 fun q _ => by show 0 ≤ (if zhs σ n a b q then (1 : Int) else 0); split <;> omega, zsum_le fun q _ => by show (if zhs σ n a b q then (1 : Int) else 0) ≤ 1; split <;> omega⟩
  unfold fX0_handHolds_l15
  by_cases c : (n : Int) < i
  · rw [if_pos c]
    have : i = n + 1 := by omega
    subst this
    show zSat (zgd _ (if M 59 1 < u then some 0 else zgd _ (if M 59 2 < zw (g - l) then some 0 else some 1))) _
    rw [hA.fl 59 rfl (by decide), zgd_t (by decide), zgd_t (by decide)]
    by_cases c1 : σ 59 1 < u
    · rw [if_pos c1]
      exact ⟨Or.inl rfl, fun q => by have := q.2.1; omega⟩
    · rw [if_neg c1]
      have gl : -13 ≤ g - l ∧ g - l ≤ 13 ∧ (zhok σ n a b → g - l ≤ σ 59 2) := by
        rcases hlg with ⟨e1, e2⟩ | ⟨⟨o, o1, o2, o3⟩, ⟨p, p1, p2, p3⟩⟩
        · refine ⟨by omega, by omega, fun _ => ?_⟩
          by_cases d : g - l ≤ σ 59 2
          · exact d
          · omega
        · have r1 := zat_r h (n := (o : Int)) (by omega) (by omega)
          have r2 := zat_r h (n := (p : Int)) (by omega) (by omega)
          exact ⟨by omega, by omega, fun q => by rw [o3, p3]; exact q.2.2 p o (by omega) (by omega) p2 o2⟩
      rw [zw_i (by omega) (by omega)]
      by_cases c2 : σ 59 2 < g - l
      · rw [if_pos c2]
        exact ⟨Or.inl rfl, fun q => by have := gl.2.2 q; omega⟩
      · rw [if_neg c2]
        exact ⟨Or.inr rfl, fun _ => rfl⟩
  · have i0 : (0 : Int) ≤ i := by omega
    have ar := zat_r h (n := (i : Int)) i0 (by omega)
    rw [if_neg c, e_placeOf h hA i0 (by omega), zbd_s, e_overlap h hA (n := n) (by omega) hn i0 (by omega), zbd_s, zw_i (x := (i : Int) + 1) (by omega) (by omega)]
    have skip : ¬ zhs σ n a b i → zel (.inl (u, (mk : Int), l, g, (i : Int) + 1) : (Int × Int × Int × Int × Int) ⊕ ((Int × Int × Int × Int × Int) ⊕ Int)) (fun s' => ∃ m', m' < m ∧ ∃ (i mk : Nat), s'.2.2.2.2 = (i : Int) ∧ i ≤ n + 1 ∧ m' = n + 1 - i ∧ s'.2.1 = (mk : Int) ∧ mk < 2 ^ 12 ∧ (∀ p : Nat, mk.testBit p = true ↔ ∃ o : Nat, o < i ∧ zhs σ n a b o ∧ zat σ o = p) ∧ s'.1 = zsum (fun o => if zhs σ n a b o then 1 else 0) i ∧ zlgs σ n a b i s'.2.2.1 s'.2.2.2.1) (fun x => zSat (zel x (fun s19 => zgd ((0 : Int) ≤ 1 ∧ (1 : Int) < 11) (if M 59 1 < s19.1 then some 0 else zgd ((0 : Int) ≤ 2 ∧ (2 : Int) < 11) (if M 59 2 < zw (s19.2.2.2.1 - s19.2.2.1) then some 0 else some 1))) (fun r => some r)) fun r => (r = 0 ∨ r = 1) ∧ (zhok σ n a b → r = 1)) := by
      intro hs
      refine ⟨n + 1 - (i + 1), by omega, i + 1, mk, by show (i : Int) + 1 = _; omega, by omega, rfl, rfl, hmk, fun p => ?_, ?_, ?_⟩
      · rw [hbits p]
        constructor
        · rintro ⟨o, o1, o2⟩; exact ⟨o, by omega, o2⟩
        · rintro ⟨o, o1, o2⟩
          by_cases e : o = i
          · subst e; exact absurd o2.1 hs
          · exact ⟨o, by omega, o2⟩
      · show u = zsum (fun o => if zhs σ n a b o then 1 else 0) i + (if zhs σ n a b i then 1 else 0)
        rw [if_neg hs]; omega
      · rcases hlg with e | ⟨⟨o, o1, o2⟩, ⟨p, p1, p2⟩⟩
        · exact Or.inl e
        · exact Or.inr ⟨⟨o, by omega, o2⟩, ⟨p, by omega, p2⟩⟩
    by_cases d1 : zmee σ i n
    · rw [if_pos d1, if_neg (show ¬ (1 : Int) = 0 by decide)]
      by_cases d2 : zat σ i < a
      · rw [if_pos d2]; exact skip (fun q => by have := q.2.1; omega)
      by_cases d3 : b ≤ zat σ i
      · rw [if_neg d2, if_pos d3]; exact skip (fun q => by have := q.2.2; omega)
      have hs : zhs σ n a b i := ⟨d1, by omega, by omega⟩
      rw [if_neg d2, if_neg d3]
      obtain ⟨p, hp⟩ : ∃ p : Nat, zat σ i = p := ⟨(zat σ i).toNat, by omega⟩
      have hp12 : p < 12 := by omega
      have pw : (2 : Nat) ^ p ≤ 2 ^ 11 := Nat.pow_le_pow_right (by decide) (by omega)
      rw [hp, zbit_n (by omega) (by omega)]
      cases hb1 : mk.testBit p with
      | true =>
        rw [if_pos rfl, if_neg (show ¬ (1 : Int) = 0 by decide)]
        refine ⟨Or.inl rfl, fun q => ?_⟩
        obtain ⟨o, o1, o2, o3⟩ := (hbits p).mp hb1
        have := q.1 o i (by omega) (by omega) o2 hs (by rw [o3, hp])
        omega
      | false =>
        rw [if_neg (show ¬ (false = true) by decide), if_pos rfl, zshl_1 p (by omega), zor_n (by omega) (by omega), zw_i (x := u + 1) (by omega) (by omega)]
        refine ⟨n + 1 - (i + 1), by omega, i + 1, mk ||| 2 ^ p, by show (i : Int) + 1 = _; omega, by omega, rfl, rfl, Nat.or_lt_two_pow hmk (by omega), fun q => ?_, ?_, ?_⟩
        · rw [Nat.testBit_or, Nat.testBit_two_pow]
          constructor
          · intro hq
            rcases Bool.or_eq_true_iff.mp hq with hq | hq
            · obtain ⟨o, o1, o2⟩ := (hbits q).mp hq
              exact ⟨o, by omega, o2⟩
            · have : p = q := of_decide_eq_true hq
              exact ⟨i, by omega, hs, by rw [hp, this]⟩
          · rintro ⟨o, o1, o2, o3⟩
            by_cases e : o = i
            · subst e
              have : p = q := by omega
              simp [this]
            · rw [(hbits q).mpr ⟨o, by omega, o2, o3⟩]; rfl
        · show u + 1 = zsum (fun o => if zhs σ n a b o then 1 else 0) i + (if zhs σ n a b i then 1 else 0)
          rw [if_pos hs]; omega
        · right
          show (∃ o : Nat, o < i + 1 ∧ zhs σ n a b o ∧ min l (p : Int) = zat σ o) ∧ ∃ o : Nat, o < i + 1 ∧ zhs σ n a b o ∧ max g (p : Int) = zat σ o
          rcases hlg with ⟨e1, e2⟩ | ⟨⟨o, o1, o2, o3⟩, ⟨r, r1, r2, r3⟩⟩
          · exact ⟨⟨i, by omega, hs, by omega⟩, ⟨i, by omega, hs, by omega⟩⟩
          · constructor
            · by_cases e : l ≤ (p : Int)
              · exact ⟨o, by omega, o2, by omega⟩
              · exact ⟨i, by omega, hs, by omega⟩
            · by_cases e : (p : Int) ≤ g
              · exact ⟨r, by omega, r2, by omega⟩
              · exact ⟨i, by omega, hs, by omega⟩
    · rw [if_neg d1, if_pos rfl]
      exact skip (fun q => d1 q.1)
end HOP
