/-! PURE PART, 13: note, exchange -/
def zup5 (M : zMem) (c : Nat) (n b f l p g : Int) : zMem := zup (zup (zup (zup (zup M c n b) (c + 1) n f) (c + 2) n l) (c + 3) n p) (c + 4) n g
theorem zup5_n {M : zMem} {c a : Nat} {n b f l p g : Int} (h : a < c ∨ c + 5 ≤ a) : zup5 M c n b f l p g a = M a := by
  funext q; unfold zup5; rw [zup_ne (by omega), zup_ne (by omega), zup_ne (by omega), zup_ne (by omega), zup_ne (by omega)]
theorem zup5_k {M : zMem} {c a : Nat} {n b f l p g q : Int} (h : q ≠ n) : zup5 M c n b f l p g a q = M a q := by
  unfold zup5; rw [zup_nk h, zup_nk h, zup_nk h, zup_nk h, zup_nk h]
theorem zup5_e {M : zMem} {c : Nat} {n b f l p g : Int} : zup5 M c n b f l p g c n = b ∧ zup5 M c n b f l p g (c + 1) n = f ∧ zup5 M c n b f l p g (c + 2) n = l ∧ zup5 M c n b f l p g (c + 3) n = p ∧ zup5 M c n b f l p g (c + 4) n = g := by
  unfold zup5
  refine ⟨?_, ?_, ?_, ?_, zup_eq⟩
  · rw [zup_ne (by omega), zup_ne (by omega), zup_ne (by omega), zup_ne (by omega), zup_eq]
  · rw [zup_ne (by omega), zup_ne (by omega), zup_ne (by omega), zup_eq]
  · rw [zup_ne (by omega), zup_ne (by omega), zup_eq]
  · rw [zup_ne (by omega), zup_eq]
theorem zAg.upd5 {σ M : zMem} (h : zAg σ M) (c : Nat) (n b f l p g : Int) : zAg (zup5 σ c n b f l p g) (zup5 M c n b f l p g) := ((((h.upd _ _ _).upd _ _ _).upd _ _ _).upd _ _ _).upd _ _ _
section CA3
variable {Pk : zMem}
variable {σ M : zMem} {k b t n x w : Int}
theorem e_takes (h : St σ) (hA : zAx σ M) {f l : Int} (hf : z32 f) : fX5_takes 80 f l M = some (if σ 80 0 < 24 ∧ 0 ≤ f ∧ (σ 80 0 = 0 ∨ σ 83 (σ 80 0 - 1) ≤ f) ∧ f < 200 ∧ 1 ≤ l ∧ l ≤ 40 ∧ f + l ≤ 200 then 1 else 0) := by
  have hn := r_nn h
  obtain ⟨f1, f2⟩ := hf
  unfold fX5_takes fX5_takes_j32 fX5_takes_j39 fX5_takes_j40
  rw [show (80 + 3 : Nat) = 83 from rfl, hA.fl 80 rfl (by decide), hA.fl 83 rfl (by decide)]
  have tl : (if (1 : Int) = 0 then some (0 : Int) else if 200 ≤ f then some 0 else if l < 1 then some 0 else if 40 < l then some 0 else if 200 < zw (f + l) then some 0 else some 1) = some (if f < 200 ∧ 1 ≤ l ∧ l ≤ 40 ∧ f + l ≤ 200 then 1 else 0) := by
    rw [if_neg (by decide)]
    by_cases d1 : 200 ≤ f
    · rw [if_pos d1, if_neg (by omega)]
    by_cases d2 : l < 1
    · rw [if_neg d1, if_pos d2, if_neg (by omega)]
    by_cases d3 : 40 < l
    · rw [if_neg d1, if_neg d2, if_pos d3, if_neg (by omega)]
    rw [if_neg d1, if_neg d2, if_neg d3]
    by_cases d5 : -2147483648 ≤ f + l
    · rw [zw_i d5 (by omega)]
      by_cases d4 : 200 < f + l
      · rw [if_pos d4, if_neg (by omega)]
      · rw [if_neg d4, if_pos (by omega)]
    · omega
  by_cases c1 : 24 ≤ σ 80 0
  · rw [if_pos c1, if_pos rfl, if_neg (by omega)]
  · rw [if_neg c1]
    by_cases c2 : σ 80 0 = 0
    · rw [if_pos c2]
      by_cases c3 : f < 0
      · rw [if_pos c3, if_pos rfl, if_neg (by omega)]
      · rw [if_neg c3, tl]
        by_cases c4 : f < 200 ∧ 1 ≤ l ∧ l ≤ 40 ∧ f + l ≤ 200
        · rw [if_pos c4, if_pos ⟨by omega, by omega, Or.inl c2, c4⟩]
        · rw [if_neg c4, if_neg (fun q => c4 q.2.2.2)]
    · have hl := r_nl h (k := σ 80 0 - 1) (by omega) (by omega)
      rw [if_neg c2, zgd_t ⟨by omega, by omega⟩]
      by_cases c3 : f < σ 83 (σ 80 0 - 1)
      · rw [if_pos c3, if_pos rfl, if_neg (by omega)]
      · rw [if_neg c3, tl]
        by_cases c4 : f < 200 ∧ 1 ≤ l ∧ l ≤ 40 ∧ f + l ≤ 200
        · rw [if_pos c4, if_pos ⟨by omega, by omega, Or.inr (by omega), c4⟩]
        · rw [if_neg c4, if_neg (fun q => c4 q.2.2.2)]
theorem e_add {f l p g : Int} (h0 : 0 ≤ M 80 0) (h1 : M 80 0 < 24) : fX5_add 80 b f l p g M = some (zup (zup5 M 82 (M 80 0) b f l p g) 80 0 (M 80 0 + 1)) := by
  unfold fX5_add
  simp (disch := omega) only [zup_ne, zgd_t, zw_i, Nat.reduceAdd]
  rfl
theorem m_add {f l p g : Int} (hf : (1 ≤ l ∧ l ≤ 40) ∧ f + l ≤ 200 ∧ -1 ≤ f ∧ (1 ≤ p ∧ p ≤ 9)) (hg : fX12_isFinger g M = some 1) (h0 : 0 ≤ M 200 43) (h1 : M 200 43 < 24) : fX12_note_j51 b f l p g M = some (M 200 43, zup (zup5 M 245 (M 200 43) b f l p g) 200 43 (M 200 43 + 1)) := by
  unfold fX12_note_j51
  rw [m_isFrom, zbd_s, if_pos hf.1, if_neg (show ¬ (1 : Int) = 0 by decide), m_isFrom, zbd_s, if_pos hf.2.2.2, if_neg (show ¬ (1 : Int) = 0 by decide), zw_i (x := f + l) (by omega) (by omega), if_neg (by omega), hg, zbd_s, if_neg (show ¬ (1 : Int) = 0 by decide)]
  simp (disch := omega) only [zup_ne, zgd_t, zw_i, Nat.reduceAdd, zup_eq]
  simp only [Int.add_sub_cancel]
  rfl
theorem m_addN {f l p g : Int} (hf : f < 200 ∧ -1 ≤ f ∧ z32 l) (hg : ¬ (1 ≤ l ∧ l ≤ 40 ∧ f + l ≤ 200 ∧ 1 ≤ p ∧ p ≤ 9 ∧ fX12_isFinger g M = some 1)) (hs : fX12_isFinger g M = some 1 ∨ fX12_isFinger g M = some 0) : fX12_note_j51 b f l p g M = some (-1, M) := by
  obtain ⟨f1, f2, l1, l2⟩ := hf
  unfold fX12_note_j51
  rw [m_isFrom, zbd_s, m_isFrom, zbd_s]
  by_cases d1 : 1 ≤ l ∧ l ≤ 40
  · rw [if_pos d1, if_neg (show ¬ (1 : Int) = 0 by decide), zw_i (x := f + l) (by omega) (by omega)]
    by_cases d2 : 200 < f + l
    · rw [if_pos d2]
    · rw [if_neg d2]
      by_cases d3 : 1 ≤ p ∧ p ≤ 9
      · rw [if_pos d3, if_neg (show ¬ (1 : Int) = 0 by decide)]
        rcases hs with hs | hs
        · exact absurd ⟨d1.1, d1.2, by omega, d3.1, d3.2, hs⟩ hg
        · rw [hs]; rfl
      · rw [if_neg d3, if_pos rfl]
  · rw [if_neg d1, if_pos rfl]
theorem St.add {f l p g : Int} (h : St σ) (hb : 0 ≤ b ∧ b < σ 40 0 ∧ σ 46 b ≠ 3) (hn : σ 80 0 < 24) (hf : 0 ≤ f ∧ (σ 80 0 = 0 ∨ σ 83 (σ 80 0 - 1) ≤ f) ∧ 1 ≤ l ∧ l ≤ 40 ∧ f + l ≤ 200) (hp : 1 ≤ p ∧ p ≤ 9) (hg : -1 ≤ g ∧ g < 2 * σ 59 1) : St (zup (zup5 (zup (zup5 σ 82 (σ 80 0) b f l p g) 80 0 (σ 80 0 + 1)) 245 (σ 80 0) b f l p g) 200 43 (σ 80 0 + 1)) := by
  have hnn := r_nn h
  generalize hσ' : zup (zup5 (zup (zup5 σ 82 (σ 80 0) b f l p g) 80 0 (σ 80 0 + 1)) 245 (σ 80 0) b f l p g) 200 43 (σ 80 0 + 1) = σ'
  have ec : ∀ c : Nat, (c < 80 ∨ 87 ≤ c) → (c < 245 ∨ 250 ≤ c) → c ≠ 200 → σ' c = σ c := fun c c1 c2 c3 => by
    funext q; rw [← hσ', zup_ne c3, zup5_n (by omega), zup_ne (by omega), zup5_n (by omega)]
  have eq : ∀ (c : Nat) (q : Int), q ≠ σ 80 0 → c ≠ 80 → c ≠ 200 → σ' c q = σ c q := fun c q hq c1 c2 => by
    rw [← hσ', zup_ne c2, zup5_k hq, zup_ne c1, zup5_k hq]
  have e80 : σ' 80 0 = σ 80 0 + 1 := by rw [← hσ', zup_ne (by decide), zup5_n (by omega), zup_eq]
  have e200 : σ' 200 43 = σ 80 0 + 1 := by rw [← hσ', zup_eq]
  have e201 : σ' 200 1 = σ 200 1 := by rw [← hσ', zup_nk (by decide), zup5_n (by omega), zup_ne (by decide), zup5_n (by omega)]
  have ne := zup5_e (M := zup (zup5 σ 82 (σ 80 0) b f l p g) 80 0 (σ 80 0 + 1)) (c := 245) (n := σ 80 0) (b := b) (f := f) (l := l) (p := p) (g := g)
  have nc := zup5_e (M := σ) (c := 82) (n := σ 80 0) (b := b) (f := f) (l := l) (p := p) (g := g)
  have m5 : ∀ c : Nat, 245 ≤ c → c < 250 → σ' c (σ 80 0) = zup5 (zup (zup5 σ 82 (σ 80 0) b f l p g) 80 0 (σ 80 0 + 1)) 245 (σ 80 0) b f l p g c (σ 80 0) := fun c c0 c1 => by rw [← hσ', zup_ne (by omega)]
  have c5 : ∀ c : Nat, 82 ≤ c → c < 87 → σ' c (σ 80 0) = zup5 σ 82 (σ 80 0) b f l p g c (σ 80 0) := fun c c0 c1 => by rw [← hσ', zup_ne (by omega), zup5_n (by omega), zup_ne (by omega)]
  refine ⟨zSu_fr h.1 (fun c _ _ => ec c (by omega) (by omega) (by omega)) (fun c k hk => by rw [ec c (by have := zrow_lt hk; omega) (by have := zrow_lt hk; omega) (by have := zrow_lt hk; omega)]), ?_, zMk_fr h.2.2.1 ⟨ec 6 (by omega) (by omega) (by omega), ec 7 (by omega) (by omega) (by omega), ec 262 (by omega) (by omega) (by omega), ec 263 (by omega) (by omega) (by omega)⟩ (fun c _ _ => ec c (by omega) (by omega) (by omega)) (fun j c k _ hk => by rw [ec c (by have := zrow_lt hk; omega) (by have := zrow_lt hk; omega) (by have := zrow_lt hk; omega)]) (fun c k _ _ _ => eq c k (by omega) (by omega) (by omega)), zTa_fr h.2.2.2.1 ⟨e201, by rw [ec 20 (by omega) (by omega) (by omega)], ec 21 (by omega) (by omega) (by omega), ec 203 (by omega) (by omega) (by omega)⟩, zSt0_fr h.2.2.2.2 (fun c _ _ => ec c (by omega) (by omega) (by omega))⟩
  obtain ⟨⟨p1, p2, p3⟩, p4, p5⟩ := h.2.1
  refine ⟨⟨by rw [e80, e200], by rw [e80]; omega, by rw [e80]; omega⟩, ?_, ?_⟩
  · intro k k0 k1
    rw [e80] at k1
    unfold zNo
    rw [ec 40 (by omega) (by omega) (by omega), ec (40 + 6) (by omega) (by omega) (by omega), ec (40 + 19) (by omega) (by omega) (by omega)]
    by_cases ck : k = σ 80 0
    · subst ck
      simp only [z24]
      rw [m5 245 (by omega) (by omega), m5 246 (by omega) (by omega), m5 247 (by omega) (by omega), m5 248 (by omega) (by omega), m5 249 (by omega) (by omega), c5 (80 + 2) (by omega) (by omega), c5 (80 + 3) (by omega) (by omega), c5 (80 + 4) (by omega) (by omega), c5 (80 + 5) (by omega) (by omega), c5 (80 + 6) (by omega) (by omega)]
      rw [show zup5 (zup (zup5 σ 82 (σ 80 0) b f l p g) 80 0 (σ 80 0 + 1)) 245 (σ 80 0) b f l p g 245 (σ 80 0) = b from ne.1, show zup5 (zup (zup5 σ 82 (σ 80 0) b f l p g) 80 0 (σ 80 0 + 1)) 245 (σ 80 0) b f l p g 246 (σ 80 0) = f from ne.2.1, show zup5 (zup (zup5 σ 82 (σ 80 0) b f l p g) 80 0 (σ 80 0 + 1)) 245 (σ 80 0) b f l p g 247 (σ 80 0) = l from ne.2.2.1, show zup5 (zup (zup5 σ 82 (σ 80 0) b f l p g) 80 0 (σ 80 0 + 1)) 245 (σ 80 0) b f l p g 248 (σ 80 0) = p from ne.2.2.2.1, show zup5 (zup (zup5 σ 82 (σ 80 0) b f l p g) 80 0 (σ 80 0 + 1)) 245 (σ 80 0) b f l p g 249 (σ 80 0) = g from ne.2.2.2.2, show zup5 σ 82 (σ 80 0) b f l p g (80 + 2) (σ 80 0) = b from nc.1, show zup5 σ 82 (σ 80 0) b f l p g (80 + 3) (σ 80 0) = f from nc.2.1, show zup5 σ 82 (σ 80 0) b f l p g (80 + 4) (σ 80 0) = l from nc.2.2.1, show zup5 σ 82 (σ 80 0) b f l p g (80 + 5) (σ 80 0) = p from nc.2.2.2.1, show zup5 σ 82 (σ 80 0) b f l p g (80 + 6) (σ 80 0) = g from nc.2.2.2.2]
      exact ⟨⟨rfl, hb⟩, ⟨rfl, hf.1, hf.2.2.2.2⟩, ⟨rfl, hf.2.2.1, hf.2.2.2.1⟩, ⟨rfl, hp⟩, rfl, hg⟩
    · have := p4 k k0 (by omega)
      unfold zNo at this
      rw [z24] at this ⊢
      rw [eq 245 k ck (by omega) (by omega), eq 246 k ck (by omega) (by omega), eq 247 k ck (by omega) (by omega), eq 248 k ck (by omega) (by omega), eq 249 k ck (by omega) (by omega), eq (80 + 2) k ck (by omega) (by omega), eq (80 + 3) k ck (by omega) (by omega), eq (80 + 4) k ck (by omega) (by omega), eq (80 + 5) k ck (by omega) (by omega), eq (80 + 6) k ck (by omega) (by omega)]
      exact this
  · intro k k0 k1
    rw [e80] at k1
    rw [eq (80 + 3) k (by omega) (by omega) (by omega)]
    by_cases ck : k + 1 = σ 80 0
    · rw [ck, c5 (80 + 3) (by omega) (by omega), show zup5 σ 82 (σ 80 0) b f l p g (80 + 3) (σ 80 0) = f from nc.2.1]
      have := hf.2.1
      rw [show σ 80 0 - 1 = k by omega] at this
      show σ 83 k ≤ f
      omega
    · rw [eq (80 + 3) (k + 1) ck (by omega) (by omega)]
      exact p5 k k0 (by omega)
theorem c_note {f l p g : Int} (hI : Inv Pk M) (z1 : z32 f) (z2 : z32 l) : zAlike Pk (fX11_note b f l p g M) (fX12_note b f l p g) := by
  obtain ⟨σ, hA, h, hC, hPk⟩ := hI
  have hn := r_nn h
  have hA0 := zA0 hA
  unfold zAlike fX11_note fX11_note_j52 fX11_note_j53
  rw [e_hasPlace h hA.x, zbd_s, e_takes h hA.x z1, zbd_s, e_hasFinger h hA.x, zbd_s]
  have hfin : fX12_isFinger g (zup M 200 0 0) = some (if -1 ≤ g ∧ g < 2 * σ 59 1 then 1 else 0) := m_isFinger h hA0.x
  have bad : ¬ ((0 ≤ b ∧ b < σ 40 0 ∧ σ 46 b ≠ 3) ∧ (σ 80 0 < 24 ∧ 0 ≤ f ∧ (σ 80 0 = 0 ∨ σ 83 (σ 80 0 - 1) ≤ f) ∧ f < 200 ∧ 1 ≤ l ∧ l ≤ 40 ∧ f + l ≤ 200) ∧ (1 ≤ p ∧ p ≤ 9) ∧ (-1 ≤ g ∧ g < 2 * σ 59 1)) → zSat (some ((-1 : Int), M)) (fun e => zSat (fX12_note b f l p g e.2) (fun e' => e'.1 = e.1 ∧ Inv Pk e'.2)) := by
    intro hb
    show zSat (fX12_note b f l p g M) _
    have hIz := Inv.z hPk hA h hC
    unfold fX12_note
    rw [a_nn h hA0.x, m_isPlaced h hA0.x, zbd_s, m_isBeat, zbd_s]
    by_cases d1 : σ 80 0 = 24
    · rw [if_pos d1]; exact ⟨rfl, hIz⟩
    by_cases d2 : 0 ≤ b ∧ b < σ 40 0 ∧ σ 46 b ≠ 3
    · by_cases d3 : 0 ≤ f ∧ f < 200
      · have tl : ∀ hq : (σ 80 0 = 0 ∨ σ 83 (σ 80 0 - 1) ≤ f), fX12_note_j51 b f l p g (zup M 200 0 0) = some (-1, zup M 200 0 0) := fun hq => by
          refine m_addN ⟨d3.2, by omega, z2⟩ (fun q => hb ⟨d2, ⟨by omega, d3.1, hq, d3.2, q.1, q.2.1, q.2.2.1⟩, ⟨q.2.2.2.1, q.2.2.2.2.1⟩, ?_⟩) ?_
          · have q6 := q.2.2.2.2.2
            rw [hfin] at q6
            by_cases d : -1 ≤ g ∧ g < 2 * σ 59 1
            · exact d
            · rw [if_neg d] at q6; cases q6
          · rw [hfin]
            by_cases d : -1 ≤ g ∧ g < 2 * σ 59 1
            · rw [if_pos d]; exact Or.inl rfl
            · rw [if_neg d]; exact Or.inr rfl
        simp only [if_neg d1, if_pos d2, if_pos d3, if_neg (show ¬ (1 : Int) = 0 by decide)]
        by_cases d4 : σ 80 0 ≤ 0
        · rw [if_pos d4, tl (Or.inl (by omega))]; exact ⟨rfl, hIz⟩
        · rw [if_neg d4, zgd_t ⟨by omega, by omega⟩, a_nr h hA0.x (k := σ 80 0 - 1) (by omega) (by omega)]
          by_cases d5 : f < σ 83 (σ 80 0 - 1)
          · rw [if_pos d5]; exact ⟨rfl, hIz⟩
          · rw [if_neg d5, tl (Or.inr (by omega))]; exact ⟨rfl, hIz⟩
      · simp only [if_neg d1, if_pos d2, if_neg d3, if_neg (show ¬ (1 : Int) = 0 by decide), if_pos rfl]; exact ⟨rfl, hIz⟩
    · simp only [if_neg d1, if_neg d2, if_pos rfl]; exact ⟨rfl, hIz⟩
  by_cases d1 : 0 ≤ b ∧ b < σ 40 0 ∧ σ 46 b ≠ 3
  · by_cases d2 : σ 80 0 < 24 ∧ 0 ≤ f ∧ (σ 80 0 = 0 ∨ σ 83 (σ 80 0 - 1) ≤ f) ∧ f < 200 ∧ 1 ≤ l ∧ l ≤ 40 ∧ f + l ≤ 200
    · by_cases d3 : p < 1
      · simp only [if_pos d1, if_pos d2, if_pos d3, if_neg (show ¬ (1 : Int) = 0 by decide), if_pos rfl]
        exact bad (fun q => by have := q.2.2.1.1; omega)
      by_cases d4 : 9 < p
      · simp only [if_pos d1, if_pos d2, if_neg d3, if_pos d4, if_neg (show ¬ (1 : Int) = 0 by decide), if_pos rfl]
        exact bad (fun q => by have := q.2.2.1.2; omega)
      by_cases d5 : -1 ≤ g ∧ g < 2 * σ 59 1
      · simp only [if_pos d1, if_pos d2, if_neg d3, if_neg d4, if_pos d5, if_neg (show ¬ (1 : Int) = 0 by decide)]
        have e80 : M 80 0 = σ 80 0 := by rw [hA.fl 80 rfl]
        rw [e_add (by omega) (by omega), zbd_s, e80]
        show zSat (fX12_note b f l p g (zfgt (zup (zup5 M 82 (σ 80 0) b f l p g) 80 0 (σ 80 0 + 1)))) (fun e' => e'.1 = zw (zfgt (zup (zup5 M 82 (σ 80 0) b f l p g) 80 0 (σ 80 0 + 1)) 80 0 - 1) ∧ Inv Pk e'.2)
        have hr : zfgt (zup (zup5 M 82 (σ 80 0) b f l p g) 80 0 (σ 80 0 + 1)) 80 0 = σ 80 0 + 1 := by rw [zfgt_n (by decide), zup_eq]
        generalize hN : zfgt (zup (zup5 M 82 (σ 80 0) b f l p g) 80 0 (σ 80 0 + 1)) = N at hr ⊢
        have nN : ∀ c : Nat, 200 ≤ c → N c = M c := fun c hc => by funext q; rw [← hN, zfgt_n (by omega), zup_ne (by omega), zup5_n (by omega)]
        have hfin' : fX12_isFinger g (zup N 200 0 0) = some 1 := by
          have : fX12_isFinger g (zup N 200 0 0) = fX12_isFinger g (zup M 200 0 0) := by
            unfold fX12_isFinger; rw [zup_ne (by decide), zup_ne (by decide), nN 225 (by omega)]
          rw [this, hfin, if_pos d5]
        have hpl : fX12_isPlaced b (zup N 200 0 0) = some 1 := by
          have : fX12_isPlaced b (zup N 200 0 0) = fX12_isPlaced b (zup M 200 0 0) := by
            unfold fX12_isPlaced fX12_isBowl; simp only [zup_ne (show (211 : Nat) ≠ 200 by decide), zup_ne (show (219 : Nat) ≠ 200 by decide), nN 211 (by omega), nN 219 (by omega)]
          rw [this, m_isPlaced h hA0.x, if_pos d1]
        have e43 : zup N 200 0 0 200 43 = σ 80 0 := by rw [zup_nk (by decide), nN 200 (by omega)]; exact a_nn h hA.x
        unfold fX12_note
        rw [e43, if_neg (by omega), hpl, zbd_s, m_isBeat, zbd_s, if_pos (show 0 ≤ f ∧ f < 200 from ⟨d2.2.1, d2.2.2.2.1⟩), if_neg (show ¬ (1 : Int) = 0 by decide), if_neg (show ¬ (1 : Int) = 0 by decide)]
        have ad := m_add (M := zup N 200 0 0) (b := b) (f := f) (l := l) (p := p) (g := g) ⟨⟨d2.2.2.2.2.1, d2.2.2.2.2.2.1⟩, d2.2.2.2.2.2.2, by omega, by omega, by omega⟩ hfin' (by omega) (by omega)
        rw [e43] at ad
        have fin : zSat (fX12_note_j51 b f l p g (zup N 200 0 0)) (fun e' => e'.1 = zw (N 80 0 - 1) ∧ Inv Pk e'.2) := by
          rw [ad]
          refine ⟨by show σ 80 0 = _; rw [hr, zw_i (by omega) (by omega)]; omega, zup (zup5 (zup (zup5 σ 82 (σ 80 0) b f l p g) 80 0 (σ 80 0 + 1)) 245 (σ 80 0) b f l p g) 200 43 (σ 80 0 + 1), ?_, h.add d1 d2.1 ⟨d2.2.1, d2.2.2.1, d2.2.2.2.2⟩ ⟨by omega, by omega⟩ d5, ?_⟩
          · rw [← hN]
            exact ((zAg.up (zAg.fgt ((hA.upd5 82 (σ 80 0) b f l p g).upd 80 0 (σ 80 0 + 1))) rfl).upd5 245 (σ 80 0) b f l p g).upd 200 43 (σ 80 0 + 1)
          · have q0 := zfgt_0 (M := zup (zup5 M 82 (σ 80 0) b f l p g) 80 0 (σ 80 0 + 1))
            rw [hN] at q0
            refine ⟨hC.fgt ?_ ?_ ?_ ?_, fun q => ⟨by rw [zup_ne (by decide), zup5_n (by omega), zup_ne (by decide), zup5_n (by omega)]; exact (hPk q).1, by rw [zup_ne (by decide), zup5_n (by omega), zup_ne (by decide), zup5_n (by omega)]; exact (hPk q).2⟩⟩
            · simp only [zup_ne (show (90 : Nat) ≠ 200 by decide), zup_ne (show (110 : Nat) ≠ 200 by decide), zup_ne (show (130 : Nat) ≠ 200 by decide), zup_ne (show (170 : Nat) ≠ 200 by decide), zup5_n (show (90 : Nat) < 245 ∨ 245 + 5 ≤ 90 by omega), zup5_n (show (110 : Nat) < 245 ∨ 245 + 5 ≤ 110 by omega), zup5_n (show (130 : Nat) < 245 ∨ 245 + 5 ≤ 130 by omega), zup5_n (show (170 : Nat) < 245 ∨ 245 + 5 ≤ 170 by omega)]
              exact q0
            · intro c c0 c1
              funext q
              dsimp only
              rw [zup_ne (by omega), zup5_n (by omega), zup_ne (by omega), ← hN, zfgt_n (by omega), zup_ne (by omega), zup5_n (by omega)]
            · exact ⟨by rw [zup_ne (by decide), zup5_n (by omega), zup_ne (by decide), zup5_n (by omega)], by rw [zup_ne (by decide), zup5_n (by omega), zup_ne (by decide), zup5_n (by omega)]⟩
            · intro c hc; funext q; rw [zup_ne (by omega), zup5_n (by omega), zup_ne (by omega), zup5_n (by omega)]
        by_cases d6 : σ 80 0 ≤ 0
        · rw [if_pos d6]; exact fin
        · rw [if_neg d6, zgd_t ⟨by omega, by omega⟩]
          have e246 : zup N 200 0 0 246 (σ 80 0 - 1) = σ 83 (σ 80 0 - 1) := by
            rw [zup_ne (by decide), nN 246 (by omega)]; exact a_nr h hA.x (by omega) (by omega)
          rw [e246, if_neg (by omega)]; exact fin
      · simp only [if_pos d1, if_pos d2, if_neg d3, if_neg d4, if_neg d5, if_neg (show ¬ (1 : Int) = 0 by decide), if_pos rfl]
        exact bad (fun q => d5 q.2.2.2)
    · simp only [if_pos d1, if_neg d2, if_neg (show ¬ (1 : Int) = 0 by decide), if_pos rfl]
      exact bad (fun q => d2 q.2.1)
  · simp only [if_neg d1, if_pos rfl]
    exact bad (fun q => d1 q.1)
end CA3
