/-! PURE PART, 43: the model's search for how to grind -/
section GRD
variable {σ M : zMem} {k x : Int}
theorem zSat_v {α : Type} {o : Option α} {v : α} (h : zSat o (fun r => r = v)) : o = some v := by
  cases o with
  | none => exact absurd h (fun q => q)
  | some e => have h : e = v := h; rw [h]
theorem zpr_m {b : Int} {m : Nat} : ∀ {n : Nat}, m ≤ n → zpr σ b m = true → zpr σ b n = true
  | 0, h, e => by have : m = 0 := by omega
                  subst this; exact e
  | n + 1, h, e => by
    by_cases c : m = n + 1
    · subst c; exact e
    · unfold zpr
      rw [zpr_m (n := n) (by omega) e]; rfl
theorem m_isPaired (h : St σ) (hA : zAx σ M) {b : Int} : fX12_isPaired b M = some (if zprd σ b then 1 else 0) := by
  have hpn := r_pn h
  apply zSat_v
  unfold fX12_isPaired
  rw [zS_bd]
  refine zs_m (P := fun e : Int ⊕ Int => zel e (fun _ => ¬ zprd σ b) (fun r => r = 1 ∧ zprd σ b)) ?_ ?_
  · refine zit_inv (fun (m : Nat) (y : Int) => ∃ i : Nat, y = (i : Int) ∧ m = (σ 40 7).toNat - i ∧ (i : Int) ≤ σ 40 7 ∧ zpr σ b i = false) ?_ _ _ ⟨0, rfl, rfl, by omega, rfl⟩
    rintro m y ⟨i, rfl, hm, hi, g⟩
    show zSat (fX12_isPaired_l2 b i M) _
    unfold fX12_isPaired_l2
    rw [a_pn h hA, zgd_t (by decide)]
    by_cases c : σ 40 7 ≤ i
    · rw [if_pos c]
      show ¬ zpr σ b (σ 40 7).toNat = true
      rw [show (σ 40 7).toNat = i by omega, g]; exact Bool.false_ne_true
    · rw [if_neg c, zgd_t ⟨by omega, by omega⟩, zgd_t ⟨by omega, by omega⟩, a_pA h hA (by omega) (by omega), a_pB h hA (by omega) (by omega)]
      have up : zpr σ b (i + 1) = true → zprd σ b := fun e => zpr_m (by omega) e
      by_cases d1 : σ 49 i = b
      · rw [if_pos d1]
        exact ⟨rfl, up (by unfold zpr; rw [decide_eq_true d1]; simp)⟩
      · rw [if_neg d1]
        by_cases d2 : σ 51 i = b
        · rw [if_pos d2]
          exact ⟨rfl, up (by unfold zpr; rw [decide_eq_true d2]; simp)⟩
        · rw [if_neg d2, zw_i (by omega) (by omega)]
          exact ⟨(σ 40 7).toNat - (i + 1), by omega, i + 1, by omega, rfl, by omega, by unfold zpr; rw [g, decide_eq_false d1, decide_eq_false d2]; rfl⟩
  · intro e he
    cases e with
    | inl y =>
      have he : ¬ zprd σ b := he
      show (0 : Int) = _
      rw [if_neg he]
    | inr r =>
      have he : r = 1 ∧ zprd σ b := he
      show r = _
      rw [if_pos he.2]; exact he.1
/-- what one BOWL must keep, once those before it are settled -/
def zgk (σ : zMem) (t : Int → Int) (b : Int) : Prop := ∀ k : Int, 0 ≤ k → k < σ 40 7 → max (σ 49 k) (σ 51 k) = b → zspd σ k (zgt σ t (σ 49 k)) (zgt σ t (σ 51 k)) ≤ σ 53 k
def zgd1 (σ : zMem) (t : Int → Int) (b : Int) : Prop := (zprd σ b ∧ -3 ≤ t b ∧ t b ≤ 3) ∨ (¬ zprd σ b ∧ t b = 0)
def zgv (σ : zMem) (t : Int → Int) (m : Nat) : Prop := ∀ b : Nat, b < m → zgd1 σ t b ∧ (1 ≤ zgt σ t b ∧ zgt σ t b ≤ 9999) ∧ zgk σ t b
theorem zgd1_r {t : Int → Int} {b : Int} (h : zgd1 σ t b) : -3 ≤ t b ∧ t b ≤ 3 := by
  rcases h with h | h
  · exact h.2
  · have := h.2; omega
theorem zgk_p (h : St σ) {t t' : Int → Int} {b : Nat} (e : ∀ q : Nat, q ≤ b → t q = t' q) (g : zgk σ t b) : zgk σ t' b := fun k k0 k1 km => by
  have a := r_pA h k0 k1
  have c := r_pB h k0 k1
  have e1 := e (σ 49 k).toNat (by omega)
  have e2 := e (σ 51 k).toNat (by omega)
  rw [show (((σ 49 k).toNat : Nat) : Int) = σ 49 k by omega] at e1
  rw [show (((σ 51 k).toNat : Nat) : Int) = σ 51 k by omega] at e2
  have := g k k0 k1 km
  unfold zgt at this ⊢
  rw [← e1, ← e2]; exact this
theorem zgv_p (h : St σ) {t t' : Int → Int} {m : Nat} (e : ∀ q : Nat, q < m → t q = t' q) (g : zgv σ t m) : zgv σ t' m := fun b hb => by
  obtain ⟨g1, g2, g3⟩ := g b hb
  have eb := e b hb
  refine ⟨?_, ?_, zgk_p h (fun q hq => e q (by omega)) g3⟩
  · unfold zgd1 at g1 ⊢; rw [← eb]; exact g1
  · unfold zgt at g2 ⊢; rw [← eb]; exact g2
theorem zgOK_v (h : St σ) {t : Int → Int} : zgOK σ t ↔ zgv σ t (σ 40 0).toNat := by
  have hbw := r_bw h
  constructor
  · rintro ⟨g1, g2⟩ b hb
    have := g1 b (by omega) (by omega)
    exact ⟨this.1, this.2, fun k k0 k1 _ => g2 k k0 k1⟩
  · intro g
    refine ⟨fun b b0 b1 => ?_, fun k k0 k1 => ?_⟩
    · have := g b.toNat (by omega)
      rw [show ((b.toNat : Nat) : Int) = b by omega] at this
      exact ⟨this.1, this.2.1⟩
    · have a := r_pA h k0 k1
      have c := r_pB h k0 k1
      exact (g (max (σ 49 k) (σ 51 k)).toNat (by omega)).2.2 k k0 k1 (by omega)
theorem r_s10 (h : St σ) : 0 ≤ σ 59 10 ∧ σ 59 10 ≤ 99 := by
  have := r_st h (k := 10) (by decide) (by decide)
  have e1 : zlea 10 = 1 ∨ zlea 10 = 0 := by decide
  have e2 : zmos 10 ≤ 99 := by decide
  omega
theorem zgm {a b : Int} (ha : -3 ≤ a ∧ a ≤ 3) (hb : 0 ≤ b ∧ b ≤ 99) : -297 ≤ a * b ∧ a * b ≤ 297 := by
  have : a = -3 ∨ a = -2 ∨ a = -1 ∨ a = 0 ∨ a = 1 ∨ a = 2 ∨ a = 3 := by omega
  rcases this with rfl | rfl | rfl | rfl | rfl | rfl | rfl <;> omega
theorem m_goes (h : St σ) (hA : zAx σ M) {b : Nat} (hb : (b : Int) < σ 40 0) (ht : ∀ q : Nat, q ≤ b → -3 ≤ M 256 q ∧ M 256 q ≤ 3) : zSat (fX12_goes b M) (fun r => (r = 1 ∧ zgk σ (M 256) b) ∨ (r = 0 ∧ ¬ zgk σ (M 256) b)) := by
  have hpn := r_pn h
  have hbw := r_bw h
  have h10 := r_s10 h
  unfold fX12_goes
  rw [zS_bd]
  refine zs_m (P := fun e : Int ⊕ Int => zel e (fun _ => zgk σ (M 256) b) (fun r => r = 0 ∧ ¬ zgk σ (M 256) b)) ?_ ?_
  · refine zit_inv (fun m y => m = (σ 40 7 - y).toNat ∧ 0 ≤ y ∧ y ≤ σ 40 7 ∧ ∀ k : Int, 0 ≤ k → k < y → max (σ 49 k) (σ 51 k) = b → zspd σ k (zgt σ (M 256) (σ 49 k)) (zgt σ (M 256) (σ 51 k)) ≤ σ 53 k) ?_ _ _ ⟨rfl, by omega, by omega, fun k k0 k1 => by omega⟩
    rintro m y ⟨hm, y0, y1, g⟩
    show zSat (fX12_goes_l2 b y M) _
    unfold fX12_goes_l2
    rw [a_pn h hA, zgd_t (by decide)]
    by_cases c : σ 40 7 ≤ y
    · rw [if_pos c]
      exact fun k k0 k1 km => g k k0 (by omega) km
    · have pa := r_pA h y0 (by omega)
      have pb := r_pB h y0 (by omega)
      rw [if_neg c, zgd_t ⟨by omega, by omega⟩, zgd_t ⟨by omega, by omega⟩, a_pA h hA y0 (by omega), a_pB h hA y0 (by omega), zw_i (x := y + 1) (by omega) (by omega)]
      by_cases d : max (σ 49 y) (σ 51 y) = b
      · have t1 := ht (σ 49 y).toNat (by omega)
        have t2 := ht (σ 51 y).toNat (by omega)
        rw [show (((σ 49 y).toNat : Nat) : Int) = σ 49 y by omega] at t1
        rw [show (((σ 51 y).toNat : Nat) : Int) = σ 51 y by omega] at t2
        have m1 := zgm t1 h10
        have m2 := zgm t2 h10
        rw [if_pos d, a_st h hA (k := 10) (by decide) (by decide), a_pW h hA y0 (by omega), zw_i (x := M 256 (σ 49 y) * σ 59 10) (by omega) (by omega), zw_i (x := M 256 (σ 51 y) * σ 59 10) (by omega) (by omega), m_beats h hA y0 (by omega) (by omega) (by omega), zbd_s]
        simp only [zgd_t (show (0 : Int) ≤ y ∧ y < 48 by omega), zgd_t (show (0 : Int) ≤ σ 49 y ∧ σ 49 y < 12 by omega), zgd_t (show (0 : Int) ≤ σ 51 y ∧ σ 51 y < 12 by omega), zgd_t (show (0 : Int) ≤ 10 ∧ (10 : Int) < 66 by decide)]
        by_cases e : zspd σ y (σ 43 (σ 49 y) + M 256 (σ 49 y) * σ 59 10) (σ 43 (σ 51 y) + M 256 (σ 51 y) * σ 59 10) ≤ σ 53 y
        · rw [if_pos e]
          refine ⟨(σ 40 7 - (y + 1)).toNat, by omega, rfl, by omega, by omega, fun k k0 k1 km => ?_⟩
          by_cases q : k = y
          · subst q; exact e
          · exact g k k0 (by omega) km
        · rw [if_neg e]
          exact ⟨rfl, fun q => e (q y y0 (by omega) d)⟩
      · rw [if_neg d]
        refine ⟨(σ 40 7 - (y + 1)).toNat, by omega, rfl, by omega, by omega, fun k k0 k1 km => ?_⟩
        by_cases q : k = y
        · subst q; exact absurd km d
        · exact g k k0 (by omega) km
  · intro e he
    cases e with
    | inl y => exact Or.inl ⟨rfl, he⟩
    | inr r => exact Or.inr he
end GRD
