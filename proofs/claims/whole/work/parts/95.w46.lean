/-! PURE PART, 46: the class's nodes of a grinding -/
section GRN
variable {σ M : zMem} {k x : Int}
theorem zfil_n {o c : Nat} {n v q : Int} (h : c ≠ o) : zfil M o n v c q = M c q := by unfold zfil; rw [if_neg (fun e => h e.1)]
theorem zfil_e {o : Nat} {n v q : Int} (h0 : 0 ≤ q) (h1 : q < n) : zfil M o n v o q = v := by unfold zfil; rw [if_pos ⟨rfl, h0, h1⟩]
theorem e_gPaired (h : St σ) (hA : zAx σ M) {b : Int} : fX1_isPaired b M = some (if zprd σ b then 1 else 0) := by
  have hpn := r_pn h
  apply zSat_v
  unfold fX1_isPaired
  rw [zS_bd]
  refine zs_m (P := fun e : Int ⊕ Int => zel e (fun _ => ¬ zprd σ b) (fun r => r = 1 ∧ zprd σ b)) ?_ ?_
  · refine zit_inv (fun (m : Nat) (y : Int) => ∃ i : Nat, y = (i : Int) ∧ m = (σ 40 7).toNat - i ∧ (i : Int) ≤ σ 40 7 ∧ zpr σ b i = false) ?_ _ _ ⟨0, rfl, rfl, by omega, rfl⟩
    rintro m y ⟨i, rfl, hm, hi, g⟩
    show zSat (fX1_isPaired_l2 b i M) _
    unfold fX1_isPaired_l2
    rw [hA.fl 40 rfl (by decide), hA.fl 49 rfl (by decide), hA.fl 51 rfl (by decide)]
    by_cases c : σ 40 7 ≤ i
    · rw [if_pos c]
      show ¬ zpr σ b (σ 40 7).toNat = true
      rw [show (σ 40 7).toNat = i by omega, g]; exact Bool.false_ne_true
    · rw [if_neg c, zgd_t ⟨by omega, by omega⟩, zgd_t ⟨by omega, by omega⟩]
      have up : zpr σ b (i + 1) = true → zprd σ b := fun e => zpr_m (by omega) e
      by_cases d1 : σ 49 i = b
      · rw [if_pos d1]
        exact ⟨rfl, up (by unfold zpr; rw [decide_eq_true d1]; simp)⟩
      · rw [if_neg d1]
        by_cases d2 : σ 51 i = b
        · rw [if_pos d2]
          exact ⟨rfl, up (by unfold zpr; rw [decide_eq_true d2]; simp)⟩
        · rw [if_neg d2, zw_i (by omega) (by omega)]
          exact ⟨(σ 40 7).toNat - (i + 1), by omega, i + 1, by omega, rfl, by omega, by unfold zpr; rw [g, decide_eq_false d1, decide_eq_false d2]; rfl⟩
  · intro e he
    cases e with
    | inl y =>
      have he : ¬ zprd σ b := he
      show (0 : Int) = _
      rw [if_neg he]
    | inr r =>
      have he : r = 1 ∧ zprd σ b := he
      show r = _
      rw [if_pos he.2]; exact he.1
/-- how many BOWLS before b are in a pair -/
def zgn (σ : zMem) (b : Int) : Int := zsum (fun b => if zprd σ b then 1 else 0) b.toNat
theorem zgn_N : zgn σ (σ 40 0) = znpr σ := rfl
theorem zgn_m {a b : Int} (h : a ≤ b) : zgn σ a ≤ zgn σ b := zsum_mono (by omega) fun q _ _ => by split <;> omega
theorem zgn_s {a : Int} (h0 : 0 ≤ a) : zgn σ (a + 1) = zgn σ a + (if zprd σ a then 1 else 0) := by
  unfold zgn
  rw [show (a + 1).toNat = a.toNat + 1 by omega]
  show zsum _ a.toNat + (if zprd σ ((a.toNat : Nat) : Int) then 1 else 0) = _
  rw [show ((a.toNat : Nat) : Int) = a by omega]
theorem zgn_0 {a : Int} : 0 ≤ zgn σ a := zsum_0 fun q _ => by split <;> omega
theorem zgn_l {a b : Int} (a0 : 0 ≤ a) (ha : zprd σ a) (hl : a < b) : zgn σ a < zgn σ b := by
  have e := zgn_s (σ := σ) a0
  rw [if_pos ha] at e
  have := zgn_m (σ := σ) (a := a + 1) (b := b) (by omega)
  omega
theorem zgn_inj {a b : Int} (a0 : 0 ≤ a) (b0 : 0 ≤ b) (ha : zprd σ a) (hb : zprd σ b) (e : zgn σ a = zgn σ b) : a = b := by
  by_cases c1 : a < b
  · have := zgn_l a0 ha c1; omega
  · by_cases c2 : b < a
    · have := zgn_l b0 hb c2; omega
    · omega
def zGn (σ N : zMem) (y : Int) : Prop := N 150 3 = zgn σ y ∧ (∀ i : Int, 0 ≤ i → i < zgn σ y → (0 ≤ N 152 i ∧ N 152 i < y) ∧ zprd σ (N 152 i) ∧ zgn σ (N 152 i) = i) ∧ ∀ b : Int, 0 ≤ b → b < 12 → N 153 b = if b < y ∧ zprd σ b then zgn σ b else -1
def zGnf (M V : zMem) : Prop := (∀ c : Nat, c ≠ 150 → c ≠ 152 → c ≠ 153 → V c = M c) ∧ ∀ q : Int, q ≠ 3 → V 150 q = M 150 q
theorem zGnf.ax {V : zMem} (hA : zAx σ M) (h : zGnf M V) : zAx σ V := fun c q hc hs => by
  by_cases c1 : c = 150 ∨ c = 152 ∨ c = 153
  · rcases c1 with rfl | rfl | rfl <;> cases hs
  · rw [h.1 c (fun e => c1 (Or.inl e)) (fun e => c1 (Or.inr (Or.inl e))) (fun e => c1 (Or.inr (Or.inr e)))]; exact hA c q hc hs
theorem e_glistNodes (h : St σ) (hA : zAx σ M) : zSat (fX1_listNodes M) (fun e => zGnf M e.2 ∧ (∀ b : Int, 0 ≤ b → b < 12 → -1 ≤ e.2 153 b ∧ e.2 153 b < 8) ∧ ((e.1 = 0 ∧ 8 < znpr σ) ∨ (e.1 = 1 ∧ znpr σ ≤ 8 ∧ zGn σ e.2 (σ 40 0)))) := by
  have hbw := r_bw h
  unfold fX1_listNodes
  rw [show fJ7_fill_53178 153 12 (-1) (zup M 150 3 0) = some (zfil (zup M 150 3 0) 153 12 (-1)) from e_fill (o := 153) (n := 12) (by decide), zbd_s, zS_bd]
  have rng : ∀ {N : zMem} {y : Int}, zgn σ y ≤ 8 → zGn σ N y → ∀ b : Int, 0 ≤ b → b < 12 → -1 ≤ N 153 b ∧ N 153 b < 8 := fun {N y} hy g b b0 b1 => by
    rw [g.2.2 b b0 b1]
    by_cases c : b < y ∧ zprd σ b
    · rw [if_pos c]
      have := zgn_l b0 c.2 c.1
      have := zgn_0 (σ := σ) (a := b)
      omega
    · rw [if_neg c]; omega
  refine zs_m (P := fun e : (Int × zMem) ⊕ (Int × zMem) => zel e (fun s => zGnf M s.2 ∧ znpr σ ≤ 8 ∧ zGn σ s.2 (σ 40 0)) (fun r => zGnf M r.2 ∧ r.1 = 0 ∧ 8 < znpr σ ∧ ∀ b : Int, 0 ≤ b → b < 12 → -1 ≤ r.2 153 b ∧ r.2 153 b < 8)) ?_ ?_
  · refine zit_i2 (fun y N => fX1_listNodes_l15 y N) (fun m y N => m = (σ 40 0 - y).toNat ∧ 0 ≤ y ∧ y ≤ σ 40 0 ∧ zgn σ y ≤ 8 ∧ zGnf M N ∧ zGn σ N y) ?_ _ ⟨rfl, by omega, by omega, by show zgn σ 0 ≤ 8; show (0 : Int) ≤ 8; decide, ⟨fun c a b d => ?_, fun q hq => ?_⟩, ?_, fun i i0 i1 => ?_, fun b b0 b1 => ?_⟩
    · rintro m y N ⟨hm, y0, y1, y8, fN, n1, n2, n3⟩
      have hAN : zAx σ N := fN.ax hA
      have rg := rng y8 ⟨n1, n2, n3⟩
      show zSat (fX1_listNodes_l15 y N) _
      unfold fX1_listNodes_l15
      rw [hAN.fl 40 rfl (by decide)]
      by_cases c : σ 40 0 ≤ y
      · rw [if_pos c]
        have : y = σ 40 0 := by omega
        subst this
        exact ⟨fN, y8, n1, n2, n3⟩
      rw [if_neg c, e_gPaired h hAN, zbd_s, zw_i (x := y + 1) (by omega) (by omega)]
      have cs := zgn_s (σ := σ) y0
      have ge := zgn_0 (σ := σ) (a := y)
      by_cases d : zprd σ y
      · rw [if_pos d] at cs
        rw [if_pos d, if_neg (show ¬ (1 : Int) = 0 by decide), n1]
        by_cases e8 : zgn σ y < 8
        · rw [if_pos e8, zgd_t ⟨ge, e8⟩, zgd_t ⟨by omega, by omega⟩, zup_ne (show (150 : Nat) ≠ 153 by decide), zup_ne (show (150 : Nat) ≠ 152 by decide), n1, zw_i (by omega) (by omega)]
          refine ⟨(σ 40 0 - (y + 1)).toNat, by omega, rfl, by show 0 ≤ y + 1; omega, by show y + 1 ≤ _; omega, by show zgn σ (y + 1) ≤ 8; omega, ⟨fun c a b e => ?_, fun q hq => ?_⟩, ?_, fun i i0 i1 => ?_, fun b b0 b1 => ?_⟩
          · show zup (zup (zup N 152 _ y) 153 y _) 150 3 _ c = M c
            funext q
            rw [zup_ne a, zup_ne e, zup_ne b, fN.1 c a b e]
          · show zup (zup (zup N 152 _ y) 153 y _) 150 3 _ 150 q = _
            rw [zup_nk hq, zup_ne (by decide), zup_ne (by decide), fN.2 q hq]
          · show zup (zup (zup N 152 (zgn σ y) y) 153 y (zgn σ y)) 150 3 (zgn σ y + 1) 150 3 = zgn σ (y + 1)
            rw [zup_eq, cs]
          · have i1 : i < zgn σ (y + 1) := i1
            have e152 : zup (zup (zup N 152 (zgn σ y) y) 153 y (zgn σ y)) 150 3 (zgn σ y + 1) 152 i = if i = zgn σ y then y else N 152 i := by
              rw [zup_ne (by decide), zup_ne (by decide)]
              by_cases q : i = zgn σ y
              · rw [if_pos q, q, zup_eq]
              · rw [if_neg q, zup_nk q]
            show (0 ≤ zup (zup (zup N 152 (zgn σ y) y) 153 y (zgn σ y)) 150 3 (zgn σ y + 1) 152 i ∧ zup (zup (zup N 152 (zgn σ y) y) 153 y (zgn σ y)) 150 3 (zgn σ y + 1) 152 i < y + 1) ∧ zprd σ (zup (zup (zup N 152 (zgn σ y) y) 153 y (zgn σ y)) 150 3 (zgn σ y + 1) 152 i) ∧ zgn σ (zup (zup (zup N 152 (zgn σ y) y) 153 y (zgn σ y)) 150 3 (zgn σ y + 1) 152 i) = i
            rw [e152]
            by_cases q : i = zgn σ y
            · rw [if_pos q]; exact ⟨⟨y0, by omega⟩, d, q.symm⟩
            · rw [if_neg q]
              have := n2 i i0 (by omega)
              exact ⟨⟨this.1.1, by have := this.1.2; omega⟩, this.2⟩
          · show zup (zup (zup N 152 (zgn σ y) y) 153 y (zgn σ y)) 150 3 (zgn σ y + 1) 153 b = if b < y + 1 ∧ zprd σ b then zgn σ b else -1
            rw [zup_ne (by decide)]
            by_cases q : b = y
            · rw [q, zup_eq, if_pos ⟨by omega, d⟩]
            · rw [zup_nk q, zup_ne (by decide), n3 b b0 b1]
              by_cases w : b < y ∧ zprd σ b
              · rw [if_pos w, if_pos ⟨by omega, w.2⟩]
              · rw [if_neg w, if_neg (fun w' => w ⟨by omega, w'.2⟩)]
        · rw [if_neg e8]
          have := zgn_l y0 d (show y < σ 40 0 by omega)
          exact ⟨fN, rfl, by rw [← zgn_N]; omega, rg⟩
      · rw [if_neg d] at cs
        rw [if_neg d, if_pos rfl]
        refine ⟨(σ 40 0 - (y + 1)).toNat, by omega, rfl, by show 0 ≤ y + 1; omega, by show y + 1 ≤ _; omega, by show zgn σ (y + 1) ≤ 8; omega, fN, ?_, fun i i0 i1 => ?_, fun b b0 b1 => ?_⟩
        · show N 150 3 = zgn σ (y + 1)
          rw [cs, n1]; omega
        · have i1 : i < zgn σ (y + 1) := i1
          have := n2 i i0 (by omega)
          exact ⟨⟨this.1.1, by show N 152 i < y + 1; have := this.1.2; omega⟩, this.2⟩
        · show N 153 b = if b < y + 1 ∧ zprd σ b then zgn σ b else -1
          rw [n3 b b0 b1]
          by_cases w : b < y ∧ zprd σ b
          · rw [if_pos w, if_pos ⟨by omega, w.2⟩]
          · rw [if_neg w, if_neg (fun w' => w ⟨by
              by_cases q : b = y
              · subst q; exact absurd w'.2 d
              · have := w'.1; omega, w'.2⟩)]
    · funext q; rw [zfil_n d, zup_ne a]
    · rw [zfil_n (by decide), zup_nk hq]
    · rw [zfil_n (by decide), zup_eq]; rfl
    · have i1 : i < 0 := i1
      omega
    · rw [zfil_e (by omega) (by omega), if_neg (fun q => by have := q.1; omega)]
  · intro e he
    cases e with
    | inl s =>
      have he : zGnf M s.2 ∧ znpr σ ≤ 8 ∧ zGn σ s.2 (σ 40 0) := he
      exact ⟨he.1, rng (by rw [zgn_N]; exact he.2.1) he.2.2, Or.inr ⟨rfl, he.2⟩⟩
    | inr r =>
      have he : zGnf M r.2 ∧ r.1 = 0 ∧ 8 < znpr σ ∧ ∀ b : Int, 0 ≤ b → b < 12 → -1 ≤ r.2 153 b ∧ r.2 153 b < 8 := he
      exact ⟨he.1, he.2.2.2, Or.inl ⟨he.2.1, he.2.2.1⟩⟩
end GRN
