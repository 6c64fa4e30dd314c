/-! PURE PART, 38: the class's nodes of an order -/
section ORN
variable {σ M : zMem} {k x : Int}
/-- how many BOWLS before b have a place -/
def zct (σ : zMem) (b : Int) : Int := zsum (fun b => if σ 47 b < 0 then 0 else 1) b.toNat
theorem zct_n (σ : zMem) : zct σ (σ 40 0) = zsum (fun b => if σ 47 b < 0 then 0 else 1) (σ 40 0).toNat := rfl
theorem zct_N (h : St σ) : zct σ (σ 40 0) = σ 40 1 := h.1.2.2.2.2.1.symm
theorem zct_m {a b : Int} (h : a ≤ b) : zct σ a ≤ zct σ b := zsum_mono (by omega) fun q _ _ => by split <;> omega
theorem zct_s {a : Int} (h0 : 0 ≤ a) : zct σ (a + 1) = zct σ a + (if σ 47 a < 0 then 0 else 1) := by
  unfold zct
  rw [show (a + 1).toNat = a.toNat + 1 by omega]
  show zsum _ a.toNat + (if σ 47 ((a.toNat : Nat) : Int) < 0 then 0 else 1) = _
  rw [show ((a.toNat : Nat) : Int) = a by omega]
theorem zct_0 {a : Int} : 0 ≤ zct σ a := zsum_0 fun q _ => by split <;> omega
theorem zpd_47 (h : St σ) {b : Int} (hb : zpd σ b) : ¬ σ 47 b < 0 := by
  have := r_pl h hb.1 hb.2.1
  have := hb.2.2
  omega
theorem zct_l (h : St σ) {a b : Int} (ha : zpd σ a) (hl : a < b) : zct σ a < zct σ b := by
  have e := zct_s (σ := σ) ha.1
  rw [if_neg (zpd_47 h ha)] at e
  have := zct_m (σ := σ) (a := a + 1) (b := b) (by omega)
  omega
theorem zct_lt (h : St σ) {a : Int} (ha : zpd σ a) : zct σ a < σ 40 1 := by rw [← zct_N h]; exact zct_l h ha ha.2.1
theorem zct_inj (h : St σ) {a b : Int} (ha : zpd σ a) (hb : zpd σ b) (e : zct σ a = zct σ b) : a = b := by
  by_cases c1 : a < b
  · have := zct_l h ha c1; omega
  · by_cases c2 : b < a
    · have := zct_l h hb c2; omega
    · omega
/-- the nodes as they are listed, for BOWLS before y -/
def zNd (σ N : zMem) (y : Int) : Prop := N 170 4 = zct σ y ∧ (∀ i : Int, 0 ≤ i → i < zct σ y → zpd σ (N 173 i) ∧ N 173 i < y ∧ zct σ (N 173 i) = i) ∧ ∀ n : Int, 0 ≤ n → n < σ 80 0 → σ 82 n < y → N 174 n = zct σ (σ 82 n)
theorem e_ln50 (h : St σ) (hA : zAx σ M) {b : Int} : zSat (zit (fun s11 : Int × zMem => fX4_listNodes_l50 b (s11.1) (s11.2)) (0, M)) (fun e => (∀ c : Nat, c ≠ 174 → e.2 c = M c) ∧ ∀ n : Int, 0 ≤ n → n < σ 80 0 → e.2 174 n = if σ 82 n = b then M 170 4 else M 174 n) := by
  have hnn := r_nn h
  refine zit_i2 (fun y N => fX4_listNodes_l50 b y N) (fun m y N => m = (σ 80 0 - y).toNat ∧ 0 ≤ y ∧ y ≤ σ 80 0 ∧ (∀ c : Nat, c ≠ 174 → N c = M c) ∧ (∀ n : Int, 0 ≤ n → n < y → N 174 n = if σ 82 n = b then M 170 4 else M 174 n) ∧ ∀ n : Int, y ≤ n → N 174 n = M 174 n) ?_ _ ⟨rfl, by omega, by omega, fun _ _ => rfl, fun q q0 q1 => by omega, fun _ _ => rfl⟩
  rintro m y N ⟨hm, y0, y1, g1, g2, g3⟩
  show zSat (fX4_listNodes_l50 b y N) _
  unfold fX4_listNodes_l50
  rw [g1 80 (by decide), g1 82 (by decide), g1 170 (by decide), hA.fl 80 rfl (by decide), hA.fl 82 rfl (by decide), zw_i (x := y + 1) (by omega) (by omega)]
  by_cases c : σ 80 0 ≤ y
  · rw [if_pos c]
    exact ⟨g1, fun n n0 n1 => g2 n n0 (by omega)⟩
  · rw [if_neg c, zgd_t ⟨y0, by omega⟩]
    by_cases d : σ 82 y = b
    · rw [if_pos d, zgd_t ⟨y0, by omega⟩]
      refine ⟨(σ 80 0 - (y + 1)).toNat, by omega, rfl, by show 0 ≤ y + 1; omega, by show y + 1 ≤ _; omega, fun c hc => by funext q; show zup N 174 y _ c q = _; rw [zup_ne hc, g1 c hc], fun n n0 n1 => ?_, fun n hn => ?_⟩
      · show zup N 174 y _ 174 n = _
        have n1 : n < y + 1 := n1
        by_cases e : n = y
        · subst e; rw [zup_eq, if_pos d]
        · rw [zup_nk e]; exact g2 n n0 (by omega)
      · have hn : y + 1 ≤ n := hn
        show zup N 174 y _ 174 n = _
        rw [zup_nk (by omega)]; exact g3 n (by omega)
    · rw [if_neg d]
      refine ⟨(σ 80 0 - (y + 1)).toNat, by omega, rfl, by show 0 ≤ y + 1; omega, by show y + 1 ≤ _; omega, g1, fun n n0 n1 => ?_, fun n hn => ?_⟩
      · have n1 : n < y + 1 := n1
        show N 174 n = _
        by_cases e : n = y
        · subst e; rw [if_neg d]; exact g3 n (by omega)
        · exact g2 n n0 (by omega)
      · have hn : y + 1 ≤ n := hn
        exact g3 n (by omega)
def zNf (M V : zMem) : Prop := (∀ c : Nat, c ≠ 170 → c ≠ 173 → c ≠ 174 → V c = M c) ∧ ∀ q : Int, q ≠ 4 → V 170 q = M 170 q
theorem zNf.ax {V : zMem} (hA : zAx σ M) (h : zNf M V) : zAx σ V := fun c q hc hs => by
  by_cases c1 : c = 170 ∨ c = 173 ∨ c = 174
  · rcases c1 with rfl | rfl | rfl <;> cases hs
  · rw [h.1 c (fun e => c1 (Or.inl e)) (fun e => c1 (Or.inr (Or.inl e))) (fun e => c1 (Or.inr (Or.inr e)))]; exact hA c q hc hs
theorem e_listNodes (h : St σ) (h8 : σ 40 1 ≤ 8) (hA : zAx σ M) : zSat (fX4_listNodes M) (fun V => zNf M V ∧ zNd σ V (σ 40 0)) := by
  have hbw := r_bw h
  unfold fX4_listNodes
  rw [zS_bd]
  refine zs_m (P := fun e : Int × zMem => zNf M e.2 ∧ zNd σ e.2 (σ 40 0)) ?_ (fun e (he : zNf M e.2 ∧ zNd σ e.2 (σ 40 0)) => he)
  refine zit_i2 (fun y N => fX4_listNodes_l7 y N) (fun m y N => m = (σ 40 0 - y).toNat ∧ 0 ≤ y ∧ y ≤ σ 40 0 ∧ zNf M N ∧ zNd σ N y) ?_ _ ⟨rfl, by omega, by omega, ⟨fun c a b d => by funext q; exact zup_ne a, fun q hq => zup_nk hq⟩, by rw [zup_eq]; rfl, fun i i0 i1 => ?_, fun n n0 n1 n2 => ?_⟩
  · rintro m y N ⟨hm, y0, y1, fN, n1, n2, n3⟩
    have hAN : zAx σ N := fN.ax hA
    show zSat (fX4_listNodes_l7 y N) _
    unfold fX4_listNodes_l7
    rw [hAN.fl 40 rfl (by decide)]
    by_cases c : σ 40 0 ≤ y
    · rw [if_pos c]
      have : y = σ 40 0 := by omega
      subst this
      exact ⟨fN, n1, n2, n3⟩
    rw [if_neg c, e_hasPlace h hAN, zbd_s, zw_i (x := y + 1) (by omega) (by omega)]
    have cs := zct_s (σ := σ) y0
    by_cases d : 0 ≤ y ∧ y < σ 40 0 ∧ σ 46 y ≠ 3
    · have hpy : zpd σ y := d
      rw [if_neg (zpd_47 h hpy)] at cs
      have lt := zct_lt h hpy
      have ge := zct_0 (σ := σ) (a := y)
      rw [if_pos d, if_neg (by decide), n1, if_neg (by omega), zgd_t ⟨ge, by omega⟩, zS_bd]
      have hA1 : zAx σ (zup N 173 (zct σ y) y) := hAN.up (Or.inl rfl)
      refine zs_m (e_ln50 h hA1) ?_
      rintro ⟨w, V⟩ ⟨v1, v2⟩
      dsimp only at v1 v2 ⊢
      have v4 : V 170 4 = zct σ y := by rw [v1 170 (by decide), zup_ne (by decide), n1]
      rw [v4, zw_i (by omega) (by omega)]
      refine ⟨(σ 40 0 - (y + 1)).toNat, by omega, rfl, by show 0 ≤ y + 1; omega, by show y + 1 ≤ _; omega, ⟨fun c a b e => ?_, fun q hq => ?_⟩, ?_, fun i i0 i1 => ?_, fun n n0 n1' n2' => ?_⟩
      · show zup V 170 4 _ c = M c
        funext q
        rw [zup_ne a, v1 c e, zup_ne b, fN.1 c a b e]
      · show zup V 170 4 _ 170 q = _
        rw [zup_nk hq, v1 170 (by decide), zup_ne (by decide), fN.2 q hq]
      · show zup V 170 4 (zct σ y + 1) 170 4 = zct σ (y + 1)
        rw [zup_eq, cs]
      · have i1 : i < zct σ (y + 1) := i1
        show zpd σ (zup V 170 4 (zct σ y + 1) 173 i) ∧ zup V 170 4 (zct σ y + 1) 173 i < y + 1 ∧ zct σ (zup V 170 4 (zct σ y + 1) 173 i) = i
        rw [zup_ne (by decide), v1 173 (by decide)]
        by_cases e : i = zct σ y
        · rw [e, zup_eq]; exact ⟨hpy, by omega, rfl⟩
        · rw [zup_nk e]
          have := n2 i i0 (by omega)
          exact ⟨this.1, by omega, this.2.2⟩
      · have n2' : σ 82 n < y + 1 := n2'
        show zup V 170 4 (zct σ y + 1) 174 n = _
        rw [zup_ne (by decide), v2 n n0 n1', zup_ne (by decide), zup_ne (by decide)]
        by_cases e : σ 82 n = y
        · rw [if_pos e, n1, e]
        · rw [if_neg e]; exact n3 n n0 n1' (by omega)
    · have hpy : ¬ zpd σ y := d
      have pl := r_pl h y0 (by omega)
      have n47 : σ 47 y < 0 := by
        by_cases q : σ 46 y = 3
        · omega
        · exact absurd ⟨y0, by omega, q⟩ d
      rw [if_pos n47] at cs
      rw [if_neg d, if_pos rfl]
      refine ⟨(σ 40 0 - (y + 1)).toNat, by omega, rfl, by show 0 ≤ y + 1; omega, by show y + 1 ≤ _; omega, fN, ?_, fun i i0 i1 => ?_, fun n n0 n1' n2' => ?_⟩
      · show N 170 4 = zct σ (y + 1)
        rw [cs, n1]; omega
      · have i1 : i < zct σ (y + 1) := i1
        have := n2 i i0 (by omega)
        exact ⟨this.1, by show N 173 i < y + 1; omega, this.2.2⟩
      · have n2' : σ 82 n < y + 1 := n2'
        have nb := r_nb h n0 n1'
        refine n3 n n0 n1' ?_
        by_cases e : σ 82 n = y
        · rw [e] at nb; exact absurd nb d
        · omega
  · have : zct σ 0 = 0 := rfl
    omega
  · have := (r_nb h n0 n1).1
    omega
end ORN
