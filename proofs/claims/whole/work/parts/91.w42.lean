/-! PURE PART, 42: order and ordered, class and model -/
section ORW
variable {Pk : zMem}
variable {σ M : zMem} {k x n : Int}
theorem e_olearn (h : St σ) (hA : zAx σ M) (hC : Co σ M) : zSat (fX4_learn M) (fun e => zFr 170 179 M e.2 ∧ ((8 < σ 40 1 ∧ e.1 = 0 ∧ e.2 = M) ∨ (σ 40 1 ≤ 8 ∧ e.1 = 1 ∧ zOP σ (e.2 176 0) (e.2 177)))) := by
  have hp0 : 0 ≤ σ 40 1 := by rw [← zct_N h]; exact zct_0
  unfold fX4_learn
  rw [hA.fl 40 rfl (by decide)]
  by_cases c : σ 40 1 ≤ 8
  · rw [if_pos c]
    by_cases ck : M 170 7 = 0
    · rw [if_pos ck, zS_bd]
      refine zs_m (e_listNodes h c (M := zup M 170 7 1) (hA.up (Or.inl rfl))) ?_
      intro M6 hM6
      obtain ⟨f6, n6⟩ := hM6
      obtain ⟨N, hn⟩ : ∃ N : Nat, (N : Int) = σ 40 1 := ⟨(σ 40 1).toNat, by omega⟩
      have p8 := zp256 (N := N) (by omega)
      have p1 : 0 < 2 ^ N := Nat.two_pow_pos N
      have e4 : M6 170 4 = N := by rw [n6.1, zct_N h, hn]
      have e1 : zw (((2 ^ N : Nat) : Int) - 1) = ((2 ^ N - 1 : Nat) : Int) := by rw [zw_i (by omega) (by omega)]; omega
      have hA6 : zAx σ M6 := f6.ax (hA.up (Or.inl rfl))
      have hs : ∀ i : Nat, i < N → ∃ b : Int, zpd σ b ∧ zct σ b = i := fun i hi => by
        have := n6.2.1 i (by omega) (by rw [zct_N h]; omega)
        exact ⟨_, this.1, this.2.2⟩
      rw [e4, zshl_1 N (by omega), e1, zgd_t ⟨by omega, by omega⟩, zw_i (x := ((2 ^ N - 1 : Nat) : Int) - 1) (by omega) (by omega), zS_bd]
      generalize hM7 : zup M6 176 ((2 ^ N - 1 : Nat) : Int) 0 = M7
      have c7 : ∀ c : Nat, c ≠ 176 → M7 c = M6 c := fun c hc => by funext q; rw [← hM7, zup_ne hc]
      have hA7 : zAx σ M7 := by rw [← hM7]; exact hA6.up (Or.inl rfl)
      have n7 : zNd σ M7 (σ 40 0) := n6.f (c7 170 (by decide)) (c7 173 (by decide)) (c7 174 (by decide))
      refine zs_m (e_ofill h c hA7 n7 hn (by rw [← hM7, zup_eq])) ?_
      rintro ⟨y, W⟩ ⟨w1, w2⟩
      dsimp only at w1 w2 ⊢
      have nW : zNd σ W (σ 40 0) := n7.f (w1 170 (by decide)) (w1 173 (by decide)) (w1 174 (by decide))
      rw [zS_bd]
      refine zs_m (e_follow h c nW hn w2) ?_
      rintro V ⟨v1, v2⟩
      refine ⟨fun c hc => ?_, Or.inr ⟨c, rfl, ?_⟩⟩
      · show V c = M c
        rw [v1 c (by omega), w1 c (by omega), c7 c (by omega), f6.1 c (by omega) (by omega) (by omega)]
        funext q; exact zup_ne (by omega)
      · show zOP σ (V 176 0) (V 177)
        rw [v1 176 (by decide)]
        exact zFl_OP h hn w2 hs v2
    · rw [if_neg ck]
      exact ⟨zFr.refl _ _ _, Or.inr ⟨c, rfl, hC ck⟩⟩
  · rw [if_neg c]
    exact ⟨zFr.refl _ _ _, Or.inl ⟨by omega, rfl, rfl⟩⟩
theorem Cs.ord {N : zMem} (hC : Cs σ M) (f : zFr 170 179 M N) (hf : Co σ N) : Cs σ N := by
  obtain ⟨h1, h2, h3, h4, -⟩ := hC
  have e : zstp N = zstp M := funext fun b => by unfold zstp; rw [f 150 (by omega), f 153 (by omega)]
  refine ⟨h1.fr (fun c _ _ => f c (by omega)), ?_, ?_, ?_, hf⟩
  · unfold Cv at h2 ⊢; rw [f 110 (by omega), f 90 (by omega), f 116 (by omega), f 117 (by omega)]; exact h2
  · unfold Cf at h3 ⊢; rw [f 130 (by omega), f 135 (by omega)]; exact h3
  · unfold Cg at h4 ⊢; rw [f 150 (by omega), f 153 (by omega), e]; exact h4
theorem zSat_ex {α : Type} {o : Option α} {P : α → Prop} (h : zSat o P) : ∃ e, P e := by
  cases o with
  | none => exact absurd h (fun q => q)
  | some e => exact ⟨e, h⟩
theorem zOP_ex (h : St σ) (h8 : σ 40 1 ≤ 8) : ∃ (le : Int) (fo : Int → Int), zOP σ le fo := by
  obtain ⟨e, -, he⟩ := zSat_ex (e_olearn (M := zup σ 170 7 0) h ((zAg.refl σ).x.up (Or.inl rfl)) (fun q => absurd zup_eq q))
  rcases he with ⟨q, -⟩ | ⟨-, -, q⟩
  · omega
  · exact ⟨_, _, q⟩
/-- class and model have both learnt an order -/
theorem c_lined (hI : Inv Pk M) : ∃ σ : zMem, zAg σ M ∧ St σ ∧ Cs σ M ∧ zPk Pk σ ∧ zSat (fX4_learn M) (fun e => zAg σ e.2 ∧ Cs σ e.2 ∧ ((8 < σ 40 1 ∧ e.1 = 0) ∨ (σ 40 1 ≤ 8 ∧ e.1 = 1 ∧ zOP σ (e.2 176 0) (e.2 177)))) := by
  obtain ⟨σ, hA, h, hC, hPk⟩ := hI
  refine ⟨σ, hA, h, hC, hPk, zs_m (e_olearn h hA.x hC.2.2.2.2) ?_⟩
  rintro ⟨r, N⟩ ⟨f, hcase⟩
  dsimp only at f hcase ⊢
  have hN : zAg σ N := hA.fr (f.mono (by omega) (by omega))
  rcases hcase with ⟨c1, c2, c3⟩ | ⟨c1, c2, c3⟩
  · subst c3; exact ⟨hN, hC, Or.inl ⟨c1, c2⟩⟩
  · exact ⟨hN, hC.ord f (fun _ => c3), Or.inr ⟨c1, c2, c3⟩⟩
theorem m_hlI (hPk : zPk Pk σ) (h : St σ) (hA : zAg σ M) (hC : Cs σ M) : zSat (fX12_hasLines (zup M 200 0 0)) (fun e => Inv Pk e.2 ∧ ((8 < σ 40 1 ∧ e.1 = 0) ∨ (σ 40 1 ≤ 8 ∧ e.1 = 1 ∧ ∀ (le : Int) (fo : Int → Int), zOP σ le fo → e.2 200 60 = le ∧ ∀ b : Int, 0 ≤ b → b < 12 → e.2 260 b = if zpd σ b then zps σ fo b else -1))) := by
  refine zs_m (m_hasLines h (zA0 hA)) ?_
  rintro ⟨r', W⟩ ⟨w1, w2, w3⟩
  exact ⟨Inv.m hPk hC h w1 (((zFm.refl M).up (by omega) (by omega)).trans w2), w3⟩
theorem c_order (hI : Inv Pk M) : zAlike Pk (fX11_order M) (fX12_order) := by
  obtain ⟨σ, hA, h, hC, hPk, g⟩ := c_lined hI
  unfold zAlike fX11_order fX4_leastMoved
  rw [zS_bd2, zS_bd2]
  refine zs_m g ?_
  rintro ⟨r, N⟩ ⟨hN, hCN, g2⟩
  dsimp only at hN hCN g2 ⊢
  rcases g2 with ⟨c1, c2⟩ | ⟨c1, c2, c3⟩
  · rw [if_pos c2]
    show zSat (fX12_order N) (fun e' => e'.1 = -1 ∧ Inv Pk e'.2)
    unfold fX12_order
    rw [zS_bd2]
    refine zs_m (m_hlI hPk h hN hCN) ?_
    rintro ⟨r', W⟩ ⟨w1, w2⟩
    dsimp only at w1 w2 ⊢
    rcases w2 with ⟨-, q⟩ | ⟨q, -⟩
    · rw [if_pos q]; exact ⟨rfl, w1⟩
    · omega
  · rw [if_neg (by omega), zgd_t (by decide)]
    show zSat (fX12_order N) (fun e' => e'.1 = N 176 0 ∧ Inv Pk e'.2)
    unfold fX12_order
    rw [zS_bd2]
    refine zs_m (m_hlI hPk h hN hCN) ?_
    rintro ⟨r', W⟩ ⟨w1, w2⟩
    dsimp only at w1 w2 ⊢
    rcases w2 with ⟨q, -⟩ | ⟨-, q1, q2⟩
    · omega
    · rw [if_neg (by omega)]; exact ⟨(q2 _ _ c3).1, w1⟩
theorem m_ol20 : zSat (zit (fun s6 : Int => fX12_ordered_l20 n s6 M) 0) (fun e => zel e (fun _ => ∀ b : Int, 0 ≤ b → b < 12 → M 260 b ≠ n) (fun r => r.2 = M ∧ 0 ≤ r.1 ∧ r.1 < 12 ∧ M 260 r.1 = n)) := by
  refine zit_inv (fun m y => m = (12 - y).toNat ∧ 0 ≤ y ∧ y ≤ 12 ∧ ∀ b : Int, 0 ≤ b → b < y → M 260 b ≠ n) ?_ _ _ ⟨rfl, by omega, by omega, fun b b0 b1 => by omega⟩
  rintro m y ⟨hm, y0, y1, g⟩
  show zSat (fX12_ordered_l20 n y M) _
  unfold fX12_ordered_l20
  by_cases c : 12 ≤ y
  · rw [if_pos c]
    exact fun b b0 b1 => g b b0 (by omega)
  · rw [if_neg c, zgd_t ⟨y0, by omega⟩]
    by_cases d : M 260 y = n
    · rw [if_pos d]
      exact ⟨rfl, y0, by show y < 12; omega, d⟩
    · rw [if_neg d, zw_i (by omega) (by omega)]
      refine ⟨(12 - (y + 1)).toNat, by omega, rfl, by omega, by omega, fun b b0 b1 => ?_⟩
      by_cases e : b = y
      · subst e; exact d
      · exact g b b0 (by omega)
theorem c_ordered (hI : Inv Pk M) : zAlike Pk (fX11_ordered n M) (fX12_ordered n) := by
  obtain ⟨σ, hA, h, hC, hPk, g⟩ := c_lined hI
  have hbw := r_bw h
  -- the model, where an order is known
  have mo : ∀ (N : zMem) (le : Int) (fo : Int → Int), zAg σ N → Cs σ N → σ 40 1 ≤ 8 → zOP σ le fo → 0 ≤ n → zSat (fX12_ordered n N) (fun e' => e'.1 = (if n < σ 40 1 then fo n else -1) ∧ Inv Pk e'.2) := by
    intro N le fo hN hCN h8 hO n0
    unfold fX12_ordered
    rw [if_neg (by omega), zS_bd2]
    refine zs_m (m_hlI hPk h hN hCN) ?_
    rintro ⟨r', W⟩ ⟨w1, w2⟩
    dsimp only at w1 w2 ⊢
    rcases w2 with ⟨q, -⟩ | ⟨-, q1, q2⟩
    · omega
    · rw [if_neg (by omega), zS_bd]
      have q3 := (q2 _ _ hO).2
      obtain ⟨s, ho, -, -⟩ := hO
      refine zs_m m_ol20 ?_
      intro e he
      cases e with
      | inl y =>
        have he : ∀ b : Int, 0 ≤ b → b < 12 → W 260 b ≠ n := he
        refine ⟨?_, w1⟩
        show -1 = _
        by_cases c : n < σ 40 1
        · exfalso
          have fn := ho.1 n n0 c
          refine he (fo n) fn.1.1 (by have := fn.1.2.1; omega) ?_
          rw [q3 _ fn.1.1 (by have := fn.1.2.1; omega), if_pos fn.1, zO_s ho fn.1]; exact fn.2
        · rw [if_neg c]
      | inr r =>
        obtain ⟨r1, r2⟩ := r
        have he : r2 = W ∧ 0 ≤ r1 ∧ r1 < 12 ∧ W 260 r1 = n := he
        obtain ⟨rfl, b0, b1, b2⟩ := he
        refine ⟨?_, w1⟩
        show r1 = _
        rw [q3 r1 b0 b1] at b2
        by_cases c : zpd σ r1
        · rw [if_pos c, zO_s ho c] at b2
          have sb := ho.2 r1 c
          rw [if_pos (by omega), ← b2]
          exact sb.2.2.symm
        · rw [if_neg c] at b2; omega
  -- the model, where none is looked for
  have mn : ∀ N : zMem, zAg σ N → Cs σ N → 8 < σ 40 1 → 0 ≤ n → zSat (fX12_ordered n N) (fun e' => e'.1 = -1 ∧ Inv Pk e'.2) := by
    intro N hN hCN h8 n0
    unfold fX12_ordered
    rw [if_neg (by omega), zS_bd2]
    refine zs_m (m_hlI hPk h hN hCN) ?_
    rintro ⟨r', W⟩ ⟨w1, w2⟩
    dsimp only at w1 w2 ⊢
    rcases w2 with ⟨-, q⟩ | ⟨q, -⟩
    · rw [if_pos q]; exact ⟨rfl, w1⟩
    · omega
  unfold zAlike fX11_ordered fX4_bowlAt
  rw [zS_bd2]
  by_cases c0 : n < 0
  · rw [if_pos c0]
    show zSat (fX12_ordered n M) (fun e' => e'.1 = -1 ∧ Inv Pk e'.2)
    unfold fX12_ordered
    rw [if_pos c0]
    exact ⟨rfl, Inv.z hPk hA h hC⟩
  rw [if_neg c0, hA.x.fl 40 rfl (by decide)]
  by_cases c1 : σ 40 1 ≤ n
  · rw [if_pos c1]
    show zSat (fX12_ordered n M) (fun e' => e'.1 = -1 ∧ Inv Pk e'.2)
    by_cases c8 : σ 40 1 ≤ 8
    · obtain ⟨le, fo, hO⟩ := zOP_ex h c8
      have := mo M le fo hA hC c8 hO (by omega)
      rw [if_neg (by omega)] at this
      exact this
    · exact mn M hA hC (by omega) (by omega)
  · rw [if_neg c1, zS_bd2]
    refine zs_m g ?_
    rintro ⟨r, N⟩ ⟨hN, hCN, g2⟩
    dsimp only at hN hCN g2 ⊢
    rcases g2 with ⟨d1, d2⟩ | ⟨d1, d2, d3⟩
    · rw [if_pos d2]
      exact mn N hN hCN d1 (by omega)
    · rw [if_neg (by omega), zgd_t ⟨by omega, by omega⟩]
      have := mo N _ _ hN hCN d1 d3 (by omega)
      rw [if_pos (by omega)] at this
      exact this
end ORW
