/-! PURE PART, 14: exchange -/
def zren (M : zMem) (c : Nat) (n b s : Int) : zMem := fun a q => if a = c ∧ 0 ≤ q ∧ q < n ∧ M c q = b then s else M a q
theorem zren_n {M : zMem} {c a : Nat} {n b s : Int} (h : a ≠ c) : zren M c n b s a = M a := by
  funext q; unfold zren; rw [if_neg (fun g => h g.1)]
theorem zren_0 {M : zMem} {c : Nat} {b s : Int} : zren M c 0 b s = M := by
  funext a q; unfold zren; rw [if_neg (by omega)]
theorem zren_s {M : zMem} {c i : Nat} {b s : Int} (h : M c i = b) : zup (zren M c i b s) c i s = zren M c ((i + 1 : Nat) : Int) b s := by
  funext a q; unfold zup zren
  by_cases c1 : a = c
  · subst c1
    by_cases c2 : q = (i : Int)
    · subst c2; rw [if_pos ⟨rfl, rfl⟩, if_pos ⟨rfl, by omega, by omega, h⟩]
    · rw [if_neg (fun g => c2 g.2)]
      by_cases c3 : 0 ≤ q ∧ q < (i : Int) ∧ M a q = b
      · rw [if_pos ⟨rfl, c3⟩, if_pos ⟨rfl, c3.1, by omega, c3.2.2⟩]
      · rw [if_neg (fun g => c3 g.2), if_neg (fun g => c3 ⟨g.2.1, by have := g.2.2.1; omega, g.2.2.2⟩)]
  · rw [if_neg (fun g => c1 g.1), if_neg (fun g => c1 g.1), if_neg (fun g => c1 g.1)]
theorem zren_k {M : zMem} {c i : Nat} {b s : Int} (h : M c i ≠ b) : zren M c i b s = zren M c ((i + 1 : Nat) : Int) b s := by
  funext a q; unfold zren
  by_cases c3 : a = c ∧ 0 ≤ q ∧ q < (i : Int) ∧ M c q = b
  · rw [if_pos c3, if_pos ⟨c3.1, c3.2.1, by omega, c3.2.2.2⟩]
  · rw [if_neg c3, if_neg]
    rintro ⟨g1, g2, g3, g4⟩
    refine c3 ⟨g1, g2, ?_, g4⟩
    by_cases c2 : q = (i : Int)
    · subst c2; exact absurd g4 h
    · omega
theorem zren_i {M : zMem} {c : Nat} {n b s : Int} {i : Nat} (h : n ≤ i) : zren M c n b s c i = M c i := by
  unfold zren; rw [if_neg (by omega)]
theorem zren_c {M : zMem} {c : Nat} {n b s q : Int} : zren M c n b s c q = if 0 ≤ q ∧ q < n ∧ M c q = b then s else M c q := by
  unfold zren
  by_cases h : 0 ≤ q ∧ q < n ∧ M c q = b
  · rw [if_pos ⟨rfl, h⟩, if_pos h]
  · rw [if_neg (fun g => h g.2), if_neg h]
theorem zAg.ren {σ M : zMem} (h : zAg σ M) {c : Nat} (hc : zfull c = true) (n b s : Int) : zAg (zren σ c n b s) (zren M c n b s) := fun a q haq => by
  unfold zren
  rw [h.fl c hc]
  split
  · rfl
  · exact h a q haq
theorem zsum_up {f : Int → Int} {b v : Int} : ∀ {n : Nat}, 0 ≤ b → b < n → zsum (fun k => if k = b then v else f k) n = zsum f n + (v - f b)
  | 0, h0, h1 => by omega
  | n + 1, h0, h1 => by
    show zsum (fun k => if k = b then v else f k) n + (if (n : Int) = b then v else f n) = zsum f n + f n + (v - f b)
    by_cases c : (n : Int) = b
    · have : zsum (fun k => if k = b then v else f k) n = zsum f n := zsum_eq fun k hk => by rw [if_neg (by omega)]
      rw [this, if_pos c, c]; omega
    · rw [zsum_up (n := n) h0 (by omega), if_neg c]; omega
section CA4
variable {Pk : zMem}
variable {σ M : zMem} {k b s t n x w : Int}
theorem e_rename : fX5_rename 80 b s M = some (zren M 82 (M 80 0) b s) ∨ M 80 0 < 0 ∨ 24 < M 80 0 := by
  by_cases c0 : M 80 0 < 0 ∨ 24 < M 80 0
  · exact Or.inr c0
  refine Or.inl ?_
  unfold fX5_rename
  rw [show zit (fun s3 : Int × zMem => fX5_rename_l2 80 b s (s3.1) (s3.2)) (0, M) = some (((M 80 0).toNat : Int), zren M 82 ((M 80 0).toNat : Int) b s) from ?_]
  · rw [show (((M 80 0).toNat : Nat) : Int) = M 80 0 by omega]; rfl
  have key := zit_for (f := fun s3 : Int × zMem => fX5_rename_l2 80 b s (s3.1) (s3.2)) (M 80 0).toNat (fun i => ((i : Int), zren M 82 i b s)) (e := (((M 80 0).toNat : Int), zren M 82 ((M 80 0).toNat : Int) b s)) ?_ ?_
  · have e0 : zren M 82 ((0 : Nat) : Int) b s = M := zren_0
    rw [e0] at key; exact key
  · intro i hi
    show fX5_rename_l2 80 b s i (zren M 82 i b s) = some (.inl (((i + 1 : Nat) : Int), zren M 82 ((i + 1 : Nat) : Int) b s))
    unfold fX5_rename_l2
    rw [show (80 + 2 : Nat) = 82 from rfl, zren_n (show (80 : Nat) ≠ 82 by decide), zren_i (Int.le_refl _), if_neg (by omega), zgd_t ⟨by omega, by omega⟩, zw_i (by omega) (by omega)]
    by_cases c : M 82 i = b
    · rw [if_pos c, zgd_t ⟨by omega, by omega⟩, zren_s c]; rfl
    · rw [if_neg c, zren_k c]; rfl
  · show fX5_rename_l2 80 b s ((M 80 0).toNat : Int) (zren M 82 ((M 80 0).toNat : Int) b s) = _
    unfold fX5_rename_l2
    rw [zren_n (show (80 : Nat) ≠ 82 by decide), if_pos (by omega)]
theorem m_rename (h0 : 0 ≤ M 200 43) (h1 : M 200 43 ≤ 24) : zit (fun s14 : Int × zMem => fX12_exchange_l67 b s (s14.1) (s14.2)) (0, M) = some (M 200 43, zren M 245 (M 200 43) b s) := by
  have key := zit_for (f := fun s3 : Int × zMem => fX12_exchange_l67 b s (s3.1) (s3.2)) (M 200 43).toNat (fun i => ((i : Int), zren M 245 i b s)) (e := (((M 200 43).toNat : Int), zren M 245 ((M 200 43).toNat : Int) b s)) ?_ ?_
  · have e0 : zren M 245 ((0 : Nat) : Int) b s = M := zren_0
    rw [e0] at key
    rw [show (((M 200 43).toNat : Nat) : Int) = M 200 43 by omega] at key
    exact key
  · intro i hi
    show fX12_exchange_l67 b s i (zren M 245 i b s) = some (.inl (((i + 1 : Nat) : Int), zren M 245 ((i + 1 : Nat) : Int) b s))
    unfold fX12_exchange_l67 fX12_exchange_j100
    rw [zren_n (show (200 : Nat) ≠ 245 by decide), zren_i (Int.le_refl _), if_neg (by omega), zgd_t ⟨by omega, by omega⟩, zgd_t ⟨by omega, by omega⟩, zw_i (by omega) (by omega)]
    by_cases c : M 245 i = b
    · rw [if_pos c, zren_s c, show (i : Int) + 1 = ((i + 1 : Nat) : Int) by omega]
    · rw [if_neg c, zgd_t ⟨by omega, by omega⟩]
      have : zup (zren M 245 i b s) 245 i (M 245 i) = zren M 245 i b s := by
        funext a q; unfold zup
        split
        · rename_i g; rw [g.1, g.2]; exact (zren_i (Int.le_refl _)).symm
        · rfl
      rw [this, zren_k c, show (i : Int) + 1 = ((i + 1 : Nat) : Int) by omega, zgd_t ⟨by omega, by omega⟩]
  · show fX12_exchange_l67 b s ((M 200 43).toNat : Int) (zren M 245 ((M 200 43).toNat : Int) b s) = _
    unfold fX12_exchange_l67
    rw [zren_n (show (200 : Nat) ≠ 245 by decide), if_pos (by omega)]
/-- BOWL b and the spare s change their PLACES: the class's rows at c (kinds) and c + 1 (places) -/
def zswp (M : zMem) (c : Nat) (b s v : Int) : zMem := zup (zup (zup (zup M (c + 1) s v) c s 0) (c + 1) b (-1)) c b 3
theorem zswp_n {M : zMem} {c a : Nat} {b s v : Int} (h : a ≠ c ∧ a ≠ c + 1) : zswp M c b s v a = M a := by
  funext q; unfold zswp; rw [zup_ne h.1, zup_ne h.2, zup_ne h.1, zup_ne h.2]
theorem zswp_c {M : zMem} {c : Nat} {b s v q : Int} : zswp M c b s v c q = if q = b then 3 else if q = s then 0 else M c q := by
  unfold zswp zup
  by_cases c1 : q = b
  · simp [c1]
  · by_cases c2 : q = s
    · simp [c1, c2]
    · simp [c1, c2]
theorem zswp_d {M : zMem} {c : Nat} {b s v q : Int} : zswp M c b s v (c + 1) q = if q = b then -1 else if q = s then v else M (c + 1) q := by
  unfold zswp zup
  by_cases c1 : q = b
  · simp [c1]
  · by_cases c2 : q = s
    · simp [c1, c2]
    · simp [c1, c2]
theorem zAg.swp (h : zAg σ M) (c : Nat) (b s v : Int) : zAg (zswp σ c b s v) (zswp M c b s v) := (((h.upd _ _ _).upd _ _ _).upd _ _ _).upd _ _ _
/-- the model's way of it -/
theorem zswp_m {M : zMem} {b s v : Int} (hbs : b ≠ s) : zup (zup (zup (zup M 219 s v) 219 b (-1)) 218 s 0) 218 b 3 = zswp M 218 b s v := by
  funext a q; unfold zswp zup
  by_cases c1 : a = 218
  · subst c1; simp
  · by_cases c2 : a = 219
    · subst c2; simp
    · simp [c1, c2]
theorem St.exch (h : St σ) (hb : 0 ≤ b ∧ b < σ 40 0 ∧ σ 46 b ≠ 3) (hs : 0 ≤ s ∧ s < σ 40 0 ∧ σ 46 s = 3) : St (zren (zswp (zren (zswp σ 46 b s (σ 47 b)) 82 (σ 80 0) b s) 218 b s (σ 47 b)) 245 (σ 80 0) b s) := by
  have hbw := r_bw h
  have hnn := r_nn h
  have hbs : b ≠ s := fun q => by rw [q] at hb; exact hb.2.2 hs.2.2
  have plb := r_pl h hb.1 hb.2.1
  have pls := r_pl h hs.1 hs.2.1
  generalize hσ' : zren (zswp (zren (zswp σ 46 b s (σ 47 b)) 82 (σ 80 0) b s) 218 b s (σ 47 b)) 245 (σ 80 0) b s = σ'
  have ec : ∀ c : Nat, c ≠ 46 → c ≠ 47 → c ≠ 82 → c ≠ 218 → c ≠ 219 → c ≠ 245 → σ' c = σ c := fun c c1 c2 c3 c4 c5 c6 => by
    rw [← hσ', zren_n c6, zswp_n ⟨c4, c5⟩, zren_n c3, zswp_n ⟨c1, c2⟩]
  have e46 : ∀ q, σ' 46 q = if q = b then 3 else if q = s then 0 else σ 46 q := fun q => by
    rw [← hσ', zren_n (by decide), zswp_n (by decide), zren_n (by decide), zswp_c]
  have e47 : ∀ q, σ' 47 q = if q = b then -1 else if q = s then σ 47 b else σ 47 q := fun q => by
    rw [← hσ', zren_n (by decide), zswp_n (by decide), zren_n (by decide), show (47 : Nat) = 46 + 1 from rfl, zswp_d]
  have e218 : ∀ q, σ' 218 q = if q = b then 3 else if q = s then 0 else σ 218 q := fun q => by
    rw [← hσ', zren_n (by decide), zswp_c, zren_n (by decide), zswp_n (by decide)]
  have e219 : ∀ q, σ' 219 q = if q = b then -1 else if q = s then σ 47 b else σ 219 q := fun q => by
    rw [← hσ', zren_n (by decide), show (219 : Nat) = 218 + 1 from rfl, zswp_d, zren_n (by decide), zswp_n (by decide)]
  have e82 : ∀ q, σ' 82 q = if 0 ≤ q ∧ q < σ 80 0 ∧ σ 82 q = b then s else σ 82 q := fun q => by
    rw [← hσ', zren_n (by decide), zswp_n (by decide), zren_c, zswp_n (by decide)]
  have e245 : ∀ q, σ' 245 q = if 0 ≤ q ∧ q < σ 80 0 ∧ σ 245 q = b then s else σ 245 q := fun q => by
    rw [← hσ', zren_c, zswp_n (by decide), zren_n (by decide), zswp_n (by decide)]
  have r218 : ∀ (j : Int) (c : Nat) (k : Int), 2 ≤ j → zrow j c k → σ' c k = σ c k := fun j c k hj hk => by
    by_cases c1 : c = 218
    · subst c1
      have : 12 * j ≤ k := by rcases hk with g | g | g | g | g | g <;> omega
      rw [e218, if_neg (by omega), if_neg (by omega)]
    · by_cases c2 : c = 219
      · subst c2
        have : 12 * j ≤ k := by rcases hk with g | g | g | g | g | g <;> omega
        rw [e219, if_neg (by omega), if_neg (by omega)]
      · rw [ec c (by have := zrow_lt hk; omega) (by have := zrow_lt hk; omega) (by have := zrow_lt hk; omega) c1 c2 (by have := zrow_lt hk; omega)]
  refine ⟨?_, ?_, zMk_fr h.2.2.1 ⟨ec 6 (by decide) (by decide) (by decide) (by decide) (by decide) (by decide), ec 7 (by decide) (by decide) (by decide) (by decide) (by decide) (by decide), ec 262 (by decide) (by decide) (by decide) (by decide) (by decide) (by decide), ec 263 (by decide) (by decide) (by decide) (by decide) (by decide) (by decide)⟩ (fun c _ _ => ec c (by omega) (by omega) (by omega) (by omega) (by omega) (by omega)) r218 (fun c k c0 c1 k0 => ?_), zTa_fr h.2.2.2.1 ⟨by rw [ec 200 (by decide) (by decide) (by decide) (by decide) (by decide) (by decide)], by rw [ec 20 (by decide) (by decide) (by decide) (by decide) (by decide) (by decide)], ec 21 (by decide) (by decide) (by decide) (by decide) (by decide) (by decide), ec 203 (by decide) (by decide) (by decide) (by decide) (by decide) (by decide)⟩, zSt0_fr h.2.2.2.2 (fun c _ _ => ec c (by omega) (by omega) (by omega) (by omega) (by omega) (by omega))⟩
  · obtain ⟨hh, hB, hP, hS, hpl, hsp⟩ := h.1
    have ec' : ∀ c : Nat, c ≠ 46 → c ≠ 47 → c ≠ 82 → c ≠ 218 → c ≠ 219 → c ≠ 245 → σ' c = σ c := ec
    unfold zSu
    rw [ec 40 (by decide) (by decide) (by decide) (by decide) (by decide) (by decide), ec 211 (by decide) (by decide) (by decide) (by decide) (by decide) (by decide), ec 212 (by decide) (by decide) (by decide) (by decide) (by decide) (by decide), ec 213 (by decide) (by decide) (by decide) (by decide) (by decide) (by decide), ec 225 (by decide) (by decide) (by decide) (by decide) (by decide) (by decide), ec (40 + 19) (by decide) (by decide) (by decide) (by decide) (by decide) (by decide)]
    refine ⟨hh, ?_, ?_, hS, ?_, ?_⟩
    · intro k k0 k1
      have := hB k k0 k1
      unfold zBo at this ⊢
      rw [z12] at this ⊢
      rw [ec 215 (by decide) (by decide) (by decide) (by decide) (by decide) (by decide), ec 216 (by decide) (by decide) (by decide) (by decide) (by decide) (by decide), ec 217 (by decide) (by decide) (by decide) (by decide) (by decide) (by decide), ec (40 + 3) (by decide) (by decide) (by decide) (by decide) (by decide) (by decide), ec (40 + 4) (by decide) (by decide) (by decide) (by decide) (by decide) (by decide), ec (40 + 5) (by decide) (by decide) (by decide) (by decide) (by decide) (by decide), show σ' (40 + 6) k = _ from e46 k, show σ' (40 + 7) k = _ from e47 k, e218, e219]
      refine ⟨this.1, this.2.1, this.2.2.1, ?_⟩
      have t := this.2.2.2
      by_cases c1 : k = b
      · rw [if_pos c1, if_pos c1, if_pos c1, if_pos c1]; exact ⟨⟨rfl, by omega, by omega⟩, rfl, Or.inl ⟨rfl, rfl⟩⟩
      · rw [if_neg c1, if_neg c1, if_neg c1, if_neg c1]
        by_cases c2 : k = s
        · rw [if_pos c2, if_pos c2, if_pos c2, if_pos c2]; exact ⟨⟨rfl, by omega, by omega⟩, rfl, Or.inr ⟨by omega, by omega, by omega⟩⟩
        · rw [if_neg c2, if_neg c2, if_neg c2, if_neg c2]; exact t
    · intro k k0 k1
      have := hP k k0 k1
      unfold zPa at this ⊢
      rw [ec 220 (by decide) (by decide) (by decide) (by decide) (by decide) (by decide), ec 221 (by decide) (by decide) (by decide) (by decide) (by decide) (by decide), ec 222 (by decide) (by decide) (by decide) (by decide) (by decide) (by decide), ec 223 (by decide) (by decide) (by decide) (by decide) (by decide) (by decide), ec 224 (by decide) (by decide) (by decide) (by decide) (by decide) (by decide), ec (40 + 9) (by decide) (by decide) (by decide) (by decide) (by decide) (by decide), ec (40 + 10) (by decide) (by decide) (by decide) (by decide) (by decide) (by decide), ec (40 + 11) (by decide) (by decide) (by decide) (by decide) (by decide) (by decide), ec (40 + 12) (by decide) (by decide) (by decide) (by decide) (by decide) (by decide), ec (40 + 13) (by decide) (by decide) (by decide) (by decide) (by decide) (by decide), ec 40 (by decide) (by decide) (by decide) (by decide) (by decide) (by decide)]
      exact this
    · rw [hpl]
      have e1 : zsum (fun q => if σ' (40 + 7) q < 0 then 0 else 1) (σ 40 0).toNat = zsum (fun q => if q = b then 0 else if q = s then 1 else if σ 47 q < 0 then 0 else 1) (σ 40 0).toNat := zsum_eq fun q _ => by
        show (if σ' 47 q < 0 then (0 : Int) else 1) = _
        rw [e47]
        by_cases c1 : (q : Int) = b
        · rw [if_pos c1, if_pos c1]; rfl
        · by_cases c2 : (q : Int) = s
          · rw [if_neg c1, if_neg c1, if_pos c2, if_pos c2, if_neg (by omega)]
          · rw [if_neg c1, if_neg c1, if_neg c2, if_neg c2]
      rw [e1, zsum_up (f := fun q => if q = s then 1 else if σ 47 q < 0 then 0 else 1) hb.1 (by omega), zsum_up (f := fun q => if σ 47 q < 0 then 0 else 1) hs.1 (by omega)]
      show zsum (fun q => if σ 47 q < 0 then 0 else 1) (σ 40 0).toNat = _
      rw [if_neg hbs, if_neg (show ¬ σ 47 b < 0 by omega), if_pos (show σ 47 s < 0 by omega)]
      omega
    · unfold zSp at hsp ⊢
      rw [ec 40 (by decide) (by decide) (by decide) (by decide) (by decide) (by decide), ec (40 + 18) (by decide) (by decide) (by decide) (by decide) (by decide) (by decide), ec (40 + 16) (by decide) (by decide) (by decide) (by decide) (by decide) (by decide), ec 227 (by decide) (by decide) (by decide) (by decide) (by decide) (by decide), ec 228 (by decide) (by decide) (by decide) (by decide) (by decide) (by decide), ec 229 (by decide) (by decide) (by decide) (by decide) (by decide) (by decide)]
      exact hsp
  · obtain ⟨hh, hN, hO⟩ := h.2.1
    unfold zPi
    rw [ec 200 (by decide) (by decide) (by decide) (by decide) (by decide) (by decide), ec 80 (by decide) (by decide) (by decide) (by decide) (by decide) (by decide), ec (80 + 3) (by decide) (by decide) (by decide) (by decide) (by decide) (by decide)]
    refine ⟨hh, fun k k0 k1 => ?_, hO⟩
    have := hN k k0 k1
    unfold zNo at this ⊢
    rw [z24] at this ⊢
    rw [ec 246 (by decide) (by decide) (by decide) (by decide) (by decide) (by decide), ec 247 (by decide) (by decide) (by decide) (by decide) (by decide) (by decide), ec 248 (by decide) (by decide) (by decide) (by decide) (by decide) (by decide), ec 249 (by decide) (by decide) (by decide) (by decide) (by decide) (by decide), ec (80 + 3) (by decide) (by decide) (by decide) (by decide) (by decide) (by decide), ec (80 + 4) (by decide) (by decide) (by decide) (by decide) (by decide) (by decide), ec (80 + 5) (by decide) (by decide) (by decide) (by decide) (by decide) (by decide), ec (80 + 6) (by decide) (by decide) (by decide) (by decide) (by decide) (by decide), ec 40 (by decide) (by decide) (by decide) (by decide) (by decide) (by decide), ec (40 + 19) (by decide) (by decide) (by decide) (by decide) (by decide) (by decide)]
    refine ⟨?_, this.2⟩
    have t : σ 245 k = σ 82 k ∧ 0 ≤ σ 82 k ∧ σ 82 k < σ 40 0 ∧ σ 46 (σ 82 k) ≠ 3 := this.1
    show σ' 245 k = σ' 82 k ∧ 0 ≤ σ' 82 k ∧ σ' 82 k < σ 40 0 ∧ σ' 46 (σ' 82 k) ≠ 3
    rw [e245, e82, t.1]
    by_cases c : σ 82 k = b
    · rw [if_pos ⟨k0, k1, c⟩, e46, if_neg (fun q => hbs q.symm), if_pos rfl]
      exact ⟨rfl, hs.1, hs.2.1, by decide⟩
    · rw [if_neg (fun q => c q.2.2), e46, if_neg c, if_neg (fun q => by have := t.2.2.2; rw [q] at this; exact this hs.2.2)]
      exact ⟨rfl, t.2⟩
  · by_cases cc : c = 245
    · subst cc; rw [e245, if_neg (by omega)]
    · rw [ec c (by omega) (by omega) (by omega) (by omega) (by omega) cc]
theorem c_exchange (hI : Inv Pk M) : zAlike Pk (fX11_exchange b s M) (fX12_exchange b s) := by
  obtain ⟨σ, hA, h, hC, hPk⟩ := hI
  have hn := r_nn h
  have hbw := r_bw h
  have hA0 := zA0 hA
  unfold zAlike fX11_exchange
  rw [e_hasPlace h hA.x, zbd_s, e_hasBowl hA.x, zbd_s, e_hasPlace h hA.x, zbd_s]
  have bad : ¬ ((0 ≤ b ∧ b < σ 40 0 ∧ σ 46 b ≠ 3) ∧ (0 ≤ s ∧ s < σ 40 0) ∧ σ 46 s = 3) → zSat (some ((0 : Int), M)) (fun e => zSat (fX12_exchange b s e.2) (fun e' => e'.1 = e.1 ∧ Inv Pk e'.2)) := by
    intro hb
    show zSat (fX12_exchange b s M) _
    unfold fX12_exchange
    rw [m_isPlaced h hA0.x, zbd_s, m_isBowl h hA0.x, zbd_s]
    by_cases d1 : 0 ≤ b ∧ b < σ 40 0 ∧ σ 46 b ≠ 3
    · by_cases d2 : 0 ≤ s ∧ s < σ 40 0
      · have hp := r_pl h d2.1 d2.2
        simp only [if_pos d1, if_pos d2, if_neg (show ¬ (1 : Int) = 0 by decide)]
        rw [zgd_t ⟨d2.1, by omega⟩, a_pl h hA0.x d2.1 d2.2]
        have : ¬ σ 46 s = 3 := fun q => hb ⟨d1, d2, q⟩
        rw [if_neg (by omega)]
        exact ⟨rfl, Inv.z hPk hA h hC⟩
      · simp only [if_pos d1, if_neg d2, if_neg (show ¬ (1 : Int) = 0 by decide), if_pos rfl]
        exact ⟨rfl, Inv.z hPk hA h hC⟩
    · simp only [if_neg d1, if_pos rfl]
      exact ⟨rfl, Inv.z hPk hA h hC⟩
  by_cases d1 : 0 ≤ b ∧ b < σ 40 0 ∧ σ 46 b ≠ 3
  · by_cases d2 : 0 ≤ s ∧ s < σ 40 0
    · by_cases d3 : σ 46 s = 3
      · have hbs : b ≠ s := fun q => by rw [q] at d1; exact d1.2.2 d3
        have pls := r_pl h d2.1 d2.2
        simp only [if_pos d1, if_pos d2, if_neg (show ¬ (0 ≤ s ∧ s < σ 40 0 ∧ σ 46 s ≠ 3) from fun q => q.2.2 d3), if_neg (show ¬ (1 : Int) = 0 by decide), if_pos rfl]
        have es : fX7_swap 40 b s M = some (zswp M 46 b s (σ 47 b)) := by
          unfold fX7_swap
          rw [zgd_t ⟨d1.1, by omega⟩, zgd_t ⟨d2.1, by omega⟩, zgd_t ⟨d2.1, by omega⟩, zgd_t ⟨d1.1, by omega⟩, zgd_t ⟨d1.1, by omega⟩, show M (40 + 7) b = σ 47 b by rw [show (40 + 7 : Nat) = 47 from rfl, hA.fl 47 rfl]]
          rfl
        rw [es, zbd_s]
        have er := e_rename (M := zswp M 46 b s (σ 47 b)) (b := b) (s := s)
        have e80 : zswp M 46 b s (σ 47 b) 80 0 = σ 80 0 := by rw [zswp_n (by decide), hA.fl 80 rfl]
        rw [e80] at er
        rcases er with er | er
        · rw [er, zbd_s]
          show zSat (fX12_exchange b s (zfgt (zren (zswp M 46 b s (σ 47 b)) 82 (σ 80 0) b s))) (fun e' => e'.1 = 1 ∧ Inv Pk e'.2)
          have q0 := zfgt_0 (M := zren (zswp M 46 b s (σ 47 b)) 82 (σ 80 0) b s)
          generalize hN : zfgt (zren (zswp M 46 b s (σ 47 b)) 82 (σ 80 0) b s) = N at q0 ⊢
          have nN : ∀ c : Nat, 200 ≤ c → N c = M c := fun c hc => by rw [← hN, zfgt_n (by omega), zren_n (by omega), zswp_n (by omega)]
          have hb1 : fX12_isPlaced b (zup N 200 0 0) = some 1 := by
            have : fX12_isPlaced b (zup N 200 0 0) = fX12_isPlaced b (zup M 200 0 0) := by
              unfold fX12_isPlaced fX12_isBowl; simp only [zup_ne (show (211 : Nat) ≠ 200 by decide), zup_ne (show (219 : Nat) ≠ 200 by decide), nN 211 (by omega), nN 219 (by omega)]
            rw [this, m_isPlaced h hA0.x, if_pos d1]
          have hs1 : fX12_isBowl s (zup N 200 0 0) = some 1 := by
            have : fX12_isBowl s (zup N 200 0 0) = fX12_isBowl s (zup M 200 0 0) := by
              unfold fX12_isBowl; simp only [zup_ne (show (211 : Nat) ≠ 200 by decide), nN 211 (by omega)]
            rw [this, m_isBowl h hA0.x, if_pos d2]
          have es9 : zup N 200 0 0 219 s = σ 47 s := by rw [zup_ne (by decide), nN 219 (by omega)]; exact a_pl h hA.x d2.1 d2.2
          have eb9 : zup N 200 0 0 219 b = σ 47 b := by rw [zup_ne (by decide), nN 219 (by omega)]; exact a_pl h hA.x d1.1 d1.2.1
          unfold fX12_exchange
          rw [hb1, zbd_s, hs1, zbd_s, if_neg (show ¬ (1 : Int) = 0 by decide), if_neg (show ¬ (1 : Int) = 0 by decide), zgd_t ⟨d2.1, by omega⟩, es9, if_pos (by omega), eb9, zgd_t ⟨d1.1, by omega⟩, zgd_t ⟨d2.1, by omega⟩, zgd_t ⟨d1.1, by omega⟩, zgd_t ⟨d2.1, by omega⟩, zgd_t ⟨d1.1, by omega⟩, zswp_m hbs]
          have e43 : zswp (zup N 200 0 0) 218 b s (σ 47 b) 200 43 = σ 80 0 := by
            rw [zswp_n (by decide), zup_nk (by decide), nN 200 (by omega)]; exact a_nn h hA.x
          rw [m_rename (by omega) (by omega), zbd_s, e43]
          refine ⟨rfl, zren (zswp (zren (zswp σ 46 b s (σ 47 b)) 82 (σ 80 0) b s) 218 b s (σ 47 b)) 245 (σ 80 0) b s, ?_, h.exch d1 ⟨d2.1, d2.2, d3⟩, ?_⟩
          · rw [← hN]
            exact ((zAg.up (zAg.fgt ((hA.swp 46 b s (σ 47 b)).ren rfl (σ 80 0) b s)) rfl).swp 218 b s (σ 47 b)).ren rfl (σ 80 0) b s
          · refine ⟨hC.fgt ?_ ?_ ?_ ?_, fun q => ⟨by rw [zren_n (by decide), zswp_n (by decide), zren_n (by decide), zswp_n (by decide)]; exact (hPk q).1, by rw [zren_n (by decide), zswp_n (by decide), zren_n (by decide), zswp_n (by decide)]; exact (hPk q).2⟩⟩
            · simp only [zren_n (show (90 : Nat) ≠ 245 by decide), zren_n (show (110 : Nat) ≠ 245 by decide), zren_n (show (130 : Nat) ≠ 245 by decide), zren_n (show (170 : Nat) ≠ 245 by decide), zswp_n (show (90 : Nat) ≠ 218 ∧ 90 ≠ 218 + 1 by decide), zswp_n (show (110 : Nat) ≠ 218 ∧ 110 ≠ 218 + 1 by decide), zswp_n (show (130 : Nat) ≠ 218 ∧ 130 ≠ 218 + 1 by decide), zswp_n (show (170 : Nat) ≠ 218 ∧ 170 ≠ 218 + 1 by decide), zup_ne (show (90 : Nat) ≠ 200 by decide), zup_ne (show (110 : Nat) ≠ 200 by decide), zup_ne (show (130 : Nat) ≠ 200 by decide), zup_ne (show (170 : Nat) ≠ 200 by decide)]
              exact q0
            · intro c c0 c1
              dsimp only
              rw [zren_n (by omega), zswp_n (by omega)]
              funext q
              rw [zup_ne (by omega), ← hN, zfgt_n (by omega), zren_n (by omega), zswp_n (by omega)]
            · exact ⟨by rw [zren_n (by decide), zswp_n (by decide), zren_n (by decide), zswp_n (by decide)], by rw [zren_n (by decide), zswp_n (by decide), zren_n (by decide), zswp_n (by decide)]⟩
            · intro c hc; rw [zren_n (by omega), zswp_n (by omega), zren_n (by omega), zswp_n (by omega)]
        · omega
      · simp only [if_pos d1, if_pos d2, if_pos (show (0 ≤ s ∧ s < σ 40 0 ∧ σ 46 s ≠ 3) from ⟨d2.1, d2.2, d3⟩), if_neg (show ¬ (1 : Int) = 0 by decide)]
        exact bad (fun q => d3 q.2.2)
    · simp only [if_pos d1, if_neg d2, if_neg (show ¬ (1 : Int) = 0 by decide), if_pos rfl]
      exact bad (fun q => d2 q.2.1)
  · simp only [if_neg d1, if_pos rfl]
    exact bad (fun q => d1 q.1)
end CA4
