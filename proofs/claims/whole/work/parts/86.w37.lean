/-! PURE PART, 37: the model's order, whole -/
section ORF
variable {σ M : zMem} {k x : Int}
theorem zOP_r {le : Int} {B : Int → Int} (hc : zCo σ B) (h : St σ) (hl : le = zcO σ B) (hm : ∀ t, zCo σ t → le < zcO σ t ∨ (le = zcO σ t ∧ zlex B t (σ 40 1).toNat)) : zOP σ le B := by
  obtain ⟨s, ho⟩ := hc
  refine ⟨s, ho, by rw [hl, zcO_s h ho], fun g t ht => ?_⟩
  rw [← zcO_s h ht]
  exact hm g ⟨t, ht⟩
theorem zcO_b (h : St σ) {g : Int → Int} (hc : zCo σ g) (h8 : σ 40 1 ≤ 8) : zcO σ g ≤ 12 * 24 := by
  have hnn := r_nn h
  obtain ⟨s, ho⟩ := hc
  rw [zcO_s h ho]
  have : zcst σ s ≤ 12 * ((σ 80 0).toNat - 1 : Nat) := zsum_le fun q hq => by
    have n1 := ho.2 _ (r_nb h (k := (q : Int) + 1) (by omega) (by omega))
    have n2 := ho.2 _ (r_nb h (k := q) (by omega) (by omega))
    exact zabs_le (by omega)
  omega
theorem m_hl0 (x1 : Int) : zSat (zit (fun s5 : Int × zMem => fX12_hasLines_l22 x1 (s5.1) (s5.2)) (0, M)) (fun e => (∀ c : Nat, c ≠ 259 → e.2 c = M c) ∧ ∀ q : Int, 0 ≤ q → q < 12 → e.2 259 q = -1) := by
  refine zit_i2 (fun y N => fX12_hasLines_l22 x1 y N) (fun m y N => m = (12 - y).toNat ∧ 0 ≤ y ∧ y ≤ 12 ∧ (∀ c : Nat, c ≠ 259 → N c = M c) ∧ ∀ q : Int, 0 ≤ q → q < y → N 259 q = -1) ?_ _ ⟨rfl, by omega, by omega, fun _ _ => rfl, fun q q0 q1 => by omega⟩
  rintro m y N ⟨hm, y0, y1, g1, g2⟩
  show zSat (fX12_hasLines_l22 x1 y N) _
  unfold fX12_hasLines_l22
  by_cases c : 12 ≤ y
  · rw [if_pos c]
    exact ⟨g1, fun q q0 q1 => g2 q q0 (by omega)⟩
  · rw [if_neg c, zgd_t ⟨y0, by omega⟩, zw_i (by omega) (by omega)]
    refine ⟨(12 - (y + 1)).toNat, by omega, rfl, by show 0 ≤ y + 1; omega, by show y + 1 ≤ 12; omega, fun c hc => by funext q; show zup N 259 y _ c q = _; rw [zup_ne hc, g1 c hc], fun q q0 q1 => ?_⟩
    show zup N 259 y _ 259 q = _
    by_cases e : q = y
    · subst e; rw [zup_eq]
    · rw [zup_nk e]; exact g2 q q0 (by have q1 : q < y + 1 := q1; omega)
theorem m_hasLines (h : St σ) (hA : zAg σ M) : zSat (fX12_hasLines M) (fun e => zAg σ e.2 ∧ zFm M e.2 ∧ ((8 < σ 40 1 ∧ e.1 = 0) ∨ (σ 40 1 ≤ 8 ∧ e.1 = 1 ∧ ∀ (le : Int) (fo : Int → Int), zOP σ le fo → e.2 200 60 = le ∧ ∀ b : Int, 0 ≤ b → b < 12 → e.2 260 b = if zpd σ b then zps σ fo b else -1))) := by
  have hbw := r_bw h
  have hpl : σ 40 1 = zsum (fun b => if σ 47 b < 0 then 0 else 1) (σ 40 0).toNat := h.1.2.2.2.2.1
  have hp0 : 0 ≤ σ 40 1 := by rw [hpl]; exact zsum_0 fun q _ => by split <;> omega
  unfold fX12_hasLines
  rw [m_placed h hA.x, zbd_s]
  by_cases c : σ 40 1 ≤ 8
  · rw [if_pos c, zS_bd]
    refine zs_m (m_hl0 _) ?_
    rintro ⟨y, M1⟩ ⟨a1, a2⟩
    dsimp only at a1 a2 ⊢
    rw [zS_bd]
    have m60 : M1 200 60 = 100000000 := by rw [a1 200 (by decide), zup_eq]
    have mc : ∀ c : Nat, c ≠ 259 → c ≠ 200 → M1 c = M c := fun c hc hd => by funext q; rw [a1 c hc, zup_ne hd]
    have m2 : ∀ q : Int, q ≠ 60 → M1 200 q = M 200 q := fun q hq => by rw [a1 200 (by decide), zup_nk hq]
    have hA1 : zAg σ M1 := fun c q hs => by
      by_cases c1 : c = 259
      · subst c1; cases hs
      · by_cases c2 : c = 200
        · subst c2
          by_cases d : q = 60
          · subst d; cases hs
          · rw [m2 q d]; exact hA 200 q hs
        · rw [mc c c1 c2]; exact hA c q hs
    have hP : zPx σ M1 0 (fun _ => 0) := by
      refine ⟨fun q hq => by omega, fun b b0 b1 => Or.inl (a2 b b0 b1), ?_⟩
      have : zsum (fun b => if 0 ≤ M1 259 b then (1 : Int) else 0) (σ 40 0).toNat = zsum (fun _ => 0) (σ 40 0).toNat := zsum_eq fun q hq => by
        rw [a2 q (by omega) (by omega)]; rfl
      rw [this]
      have e1 : zsum (fun _ => 0) (σ 40 0).toNat ≤ 0 * ((σ 40 0).toNat : Int) := zsum_le fun _ _ => Int.le_refl _
      have e2 : 0 ≤ zsum (fun _ => 0) (σ 40 0).toNat := zsum_0 fun _ _ => Int.le_refl _
      show zsum (fun _ => 0) (σ 40 0).toNat = 0
      omega
    have run := m_lines h c (σ 40 1).toNat 20 (by omega) 0 M1 (fun _ => 0) (fun _ => 0) (by omega) hA1.x hP (fun q => by omega)
    refine zs_m run ?_
    rintro V ⟨tV, B, bV, rV⟩
    refine ⟨?_, ?_, Or.inr ⟨c, rfl, fun le fo hO => ?_⟩⟩
    · intro c q hs
      show V c q = _
      by_cases c1 : c = 260
      · subst c1; cases hs
      · by_cases c2 : c = 200
        · subst c2
          by_cases d : q = 60
          · subst d; cases hs
          · rw [tV.2 q d]; exact hA1 200 q hs
        · rw [tV.1 c c1 c2]; exact hA1 c q hs
    · intro c hc
      show V c = M c
      rw [tV.1 c (by omega) (by omega), mc c (by omega) (by omega)]
    · show V 200 60 = le ∧ ∀ b : Int, 0 ≤ b → b < 12 → V 260 b = if zpd σ b then zps σ fo b else -1
      have cfo : zCo σ fo := ⟨_, hO.choose_spec.1⟩
      have cb := zcO_b h cfo c
      rw [m60] at bV
      rcases bV with ⟨e1, e2, e3⟩ | ⟨e1, e2, e3, e4⟩
      · have := e3 fo ⟨cfo, fun q hq => by omega⟩
        omega
      · have hO' := zOP_r e1.1 h e2 fun t ht => e4 t ⟨ht, fun q hq => by omega⟩
        have eq := zOP_eq hO' hO
        refine ⟨eq.1, fun b b0 b1 => ?_⟩
        rw [rV e3 b b0 b1]
        have : zps σ B b = zps σ fo b := by unfold zps; exact zprv_p fun q hq => eq.2 q (by omega)
        rw [this]
  · rw [if_neg c]
    exact ⟨hA, zFm.refl M, Or.inl ⟨by omega, rfl⟩⟩
end ORF
