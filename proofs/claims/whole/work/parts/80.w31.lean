/-! PURE PART, 31: what is hopeless is so -/
section HO2
variable {σ M : zMem} {k x : Int} {t : Int → Int}
theorem r_mono (h : St σ) : ∀ (i j : Nat), i ≤ j → (j : Int) < σ 80 0 → σ 83 i ≤ σ 83 j := by
  intro i j hij
  induction hij with
  | refl => intro _; exact Int.le_refl _
  | step hij ih =>
    rename_i j
    intro hj
    have h1 := ih (by omega)
    have h2 := h.2.1.2.2 j (by omega) (by omega)
    have h2 : σ 83 j ≤ σ 83 ((j : Int) + 1) := h2
    rw [show ((j + 1 : Nat) : Int) = (j : Int) + 1 by omega]
    omega
theorem zmin_le {f : Int → Int} : ∀ {n : Nat} {q : Nat}, q < n → zmin f n ≤ f q
  | 0, _, h => by omega
  | n + 1, q, h => by
    unfold zmin
    by_cases c : q = n
    · subst c; omega
    · have := zmin_le (f := f) (n := n) (q := q) (by omega); omega
theorem zwro_0 {n : Nat} (h : zwro σ t n = 0) : 0 ≤ t n ∧ (∀ o : Nat, o < n → zcla σ t n o = 6) ∧ ¬ zdry σ t n (σ 83 n + σ 84 n - 1) := by
  unfold zwro at h
  rw [show ((n : Int).toNat) = n by omega] at h
  have mr := zmin_r (zcla σ t n) (fun _ => zcla_r) n
  by_cases c1 : t n < 0
  · rw [if_pos c1] at h; omega
  rw [if_neg c1] at h
  by_cases c2 : zmin (zcla σ t n) n < 6
  · rw [if_pos c2] at h; omega
  rw [if_neg c2] at h
  by_cases c3 : zdry σ t n (σ 83 n + σ 84 n - 1)
  · rw [if_pos c3] at h; omega
  · refine ⟨by omega, fun o ho => ?_, c3⟩
    have a := zmin_le (f := zcla σ t n) ho
    have b := (zcla_r (σ := σ) (fg := t) (n := n) (k := o)).2
    omega
/-- two that last together, in a fingering without WRONG ones -/
theorem zval_pr (h : St σ) {n : Nat} (hv : zvalid σ t (n + 1)) (hn : (n : Int) < σ 80 0) {o p : Nat} (hop : o < p) (hp : p ≤ n) (ho' : zmee σ o n) (hp' : zmee σ p n) : ((t o < t p ∧ zat σ o < zat σ p) ∨ (t p < t o ∧ zat σ p < zat σ o)) ∧ (((t o < σ 59 1) ↔ (t p < σ 59 1)) → zat σ o - zat σ p ≤ σ 59 2 ∧ zat σ p - zat σ o ≤ σ 59 2) := by
  have m1 := r_mono h o p (by omega) (by omega)
  have m2 := r_mono h p n hp hn
  have lp := r_nl h (k := p) (by omega) (by omega)
  have mt : zmee σ o p := ⟨by omega, by have := ho'.2; omega⟩
  have v0 := (hv o (by omega)).1
  have z := (zwro_0 (hv p (by omega)).2.2).2.1 o hop
  unfold zcla at z
  rw [if_neg (by omega), if_neg (show ¬¬ zmee σ o p from fun q => q mt)] at z
  by_cases c1 : t o = t p
  · rw [if_pos c1] at z; omega
  rw [if_neg c1] at z
  by_cases c2 : (t o < t p ∧ zat σ p ≤ zat σ o) ∨ (t p < t o ∧ zat σ o ≤ zat σ p)
  · rw [if_pos c2] at z; omega
  rw [if_neg c2] at z
  by_cases c3 : ((t o < σ 59 1) ↔ (t p < σ 59 1)) ∧ (σ 59 2 < zat σ o - zat σ p ∨ σ 59 2 < zat σ p - zat σ o)
  · rw [if_pos c3] at z; omega
  · refine ⟨by omega, fun q => ?_⟩
    by_cases d : σ 59 2 < zat σ o - zat σ p ∨ σ 59 2 < zat σ p - zat σ o
    · exact absurd ⟨q, d⟩ c3
    · omega
theorem zval_p2 (h : St σ) {n : Nat} (hv : zvalid σ t (n + 1)) (hn : (n : Int) < σ 80 0) {o p : Nat} (hop : o ≠ p) (ho : o ≤ n) (hp : p ≤ n) (ho' : zmee σ o n) (hp' : zmee σ p n) : ((t o < t p ∧ zat σ o < zat σ p) ∨ (t p < t o ∧ zat σ p < zat σ o)) ∧ (((t o < σ 59 1) ↔ (t p < σ 59 1)) → zat σ o - zat σ p ≤ σ 59 2 ∧ zat σ p - zat σ o ≤ σ 59 2) := by
  rcases Nat.lt_or_gt_of_ne hop with c | c
  · exact zval_pr h hv hn c hp ho' hp'
  · have := zval_pr h hv hn c ho hp' ho'
    exact ⟨this.1.symm, fun q => (this.2 q.symm).symm⟩
theorem zsplit {P : Nat → Prop} {f : Nat → Int} : ∀ k : Nat, (∀ o, P o → f o < k) → ∃ s : Nat, s ≤ k ∧ (∀ o, P o → f o < s) ∧ (s = 0 ∨ ∃ o, P o ∧ f o = (s : Int) - 1)
  | 0, h => ⟨0, by omega, h, Or.inl rfl⟩
  | k + 1, h => by
    rcases Classical.em (∃ o, P o ∧ f o = k) with ⟨o, h1, h2⟩ | hn
    · exact ⟨k + 1, by omega, h, Or.inr ⟨o, h1, by omega⟩⟩
    · obtain ⟨s, s1, s2, s3⟩ := zsplit (P := P) (f := f) k (fun o ho => by
        have := h o ho
        have : ¬ f o = k := fun q => hn ⟨o, ho, q⟩
        omega)
      exact ⟨s, by omega, s2, s3⟩
theorem zval_hok (h : St σ) {n : Nat} (hv : zvalid σ t (n + 1)) (hn : (n : Int) < σ 80 0) : σ 84 n ≤ σ 59 4 ∧ ∃ s : Int, 0 ≤ s ∧ s ≤ 12 ∧ zhok σ n 0 s ∧ zhok σ n s 12 := by
  have hti := r_ti h
  have hnn := r_nn h
  refine ⟨?_, ?_⟩
  · have v := zwro_0 (hv n (by omega)).2.2
    have w := zwor_r (fg := t) h (n := (n : Int)) (by omega) hn
    by_cases c : σ 84 n ≤ σ 59 4
    · exact c
    · exact absurd ⟨v.1, by omega⟩ v.2.2
  obtain ⟨F, hF⟩ : ∃ F : Nat, σ 59 1 = F := ⟨(σ 59 1).toNat, by omega⟩
  have rng : ∀ o : Nat, o ≤ n → 0 ≤ t o ∧ t o < 2 * σ 59 1 := fun o ho => ⟨(hv o (by omega)).1, (hv o (by omega)).2.1⟩
  have ar : ∀ o : Nat, o ≤ n → 0 ≤ zat σ o ∧ zat σ o < 12 := fun o ho => zat_r h (by omega) (by omega)
  obtain ⟨s, s1, s2, s3⟩ := zsplit (P := fun o => o ≤ n ∧ zmee σ o n ∧ t o < σ 59 1) (f := fun o => zat σ o) 12 (fun o ho => by have := ar o ho.1; omega)
  -- below s the left hand, from s on the right hand
  have lft : ∀ o : Nat, o ≤ n → zhs σ n 0 s o → t o < σ 59 1 := fun o ho hs => by
    by_cases c : t o < σ 59 1
    · exact c
    · rcases s3 with s3 | ⟨p, p1, p2⟩
      · have := hs.2.2; have := hs.2.1; omega
      · have hop : o ≠ p := fun q => by subst q; exact c p1.2.2
        have := (zval_p2 h hv hn hop ho p1.1 hs.1 p1.2.1).1
        have := hs.2.2
        have := p1.2.2
        omega
  have rgt : ∀ o : Nat, o ≤ n → zhs σ n s 12 o → σ 59 1 ≤ t o := fun o ho hs => by
    by_cases c : t o < σ 59 1
    · have := s2 o ⟨ho, hs.1, c⟩
      have := hs.2.1
      omega
    · omega
  have inj : ∀ (a b : Int) (o p : Nat), o ≤ n → p ≤ n → zhs σ n a b o → zhs σ n a b p → zat σ o = zat σ p → o = p := fun a b o p ho hp h1 h2 e => by
    by_cases c : o = p
    · exact c
    · have := (zval_p2 h hv hn c ho hp h1.1 h2.1).1
      omega
  have injt : ∀ (a b : Int) (o p : Nat), o < n + 1 → p < n + 1 → zhs σ n a b o → zhs σ n a b p → t o = t p → o = p := fun a b o p ho hp h1 h2 e => by
    by_cases c : o = p
    · exact c
    · have := (zval_p2 h hv hn c (by omega) (by omega) h1.1 h2.1).1
      omega
  refine ⟨s, by omega, by omega, ⟨inj 0 s, ?_, ?_⟩, ⟨inj s 12, ?_, ?_⟩⟩
  · rw [hF]
    exact zsum_pig (p := fun o => zhs σ n 0 s o) (t := t) (F := F) (n + 1) (fun o ho hs => ⟨(rng o (by omega)).1, by have := lft o (by omega) hs; omega⟩) (injt 0 s)
  · intro o p ho hp h1 h2
    by_cases c : o = p
    · subst c; omega
    · exact ((zval_p2 h hv hn c ho hp h1.1 h2.1).2 ⟨fun _ => lft p hp h2, fun _ => lft o ho h1⟩).1
  · rw [hF]
    refine zsum_pig (p := fun o => zhs σ n s 12 o) (t := fun o => t o - σ 59 1) (F := F) (n + 1) (fun o ho hs => ?_) (fun o p ho hp h1 h2 e => injt s 12 o p ho hp h1 h2 (by have e : t o - σ 59 1 = t p - σ 59 1 := e; omega))
    have a := rgt o (by omega) hs
    have b := rng o (by omega)
    show 0 ≤ t o - σ 59 1 ∧ t o - σ 59 1 < F
    omega
  · intro o p ho hp h1 h2
    by_cases c : o = p
    · subst c; omega
    · have a := rgt o ho h1
      have b := rgt p hp h2
      exact ((zval_p2 h hv hn c ho hp h1.1 h2.1).2 ⟨fun q => by omega, fun q => by omega⟩).1
set_option maxRecDepth 20000 in
theorem e_isHopeless (h : St σ) (hA : zAx σ M) {n : Nat} (hn : (n : Int) < σ 80 0) : zSat (fX0_isHopeless n M) (fun r => (r = 0 ∨ r = 1) ∧ (r ≠ 0 → ∀ t : Int → Int, ¬ zvalid σ t (n + 1))) := by
  have hnn := r_nn h
  unfold fX0_isHopeless
  rw [hA.fl 84 rfl (by decide), hA.fl 59 rfl (by decide), zgd_t ⟨by omega, by omega⟩, zgd_t (by decide)]
  by_cases c0 : σ 84 n ≤ σ 59 4
  · rw [if_pos c0, zS_bd]
    refine zit_inv (fun m y => ∃ i : Nat, y = (i : Int) ∧ i ≤ 13 ∧ m = 13 - i ∧ ∀ s : Int, 0 ≤ s → s < i → ¬ (zhok σ n 0 s ∧ zhok σ n s 12)) ?_ 13 0 ⟨0, rfl, by omega, rfl, fun s s0 s1 => by omega⟩
    rintro m y ⟨i, rfl, i1, hm, hs⟩
    show zSat (fX0_isHopeless_l25 n i M) _
    unfold fX0_isHopeless_l25
    by_cases c : (12 : Int) < i
    · rw [if_pos c]
      refine ⟨Or.inr rfl, fun _ t hv => ?_⟩
      obtain ⟨-, s, s0, s1, s2, s3⟩ := zval_hok h hv hn
      exact hs s s0 (by omega) ⟨s2, s3⟩
    · have nx : ∀ r1 : Prop, (¬ (zhok σ n 0 i ∧ zhok σ n i 12)) → zel (.inl ((i : Int) + 1) : Int ⊕ (Int ⊕ Int)) (fun s' => ∃ m', m' < m ∧ ∃ i : Nat, s' = (i : Int) ∧ i ≤ 13 ∧ m' = 13 - i ∧ ∀ s : Int, 0 ≤ s → s < i → ¬ (zhok σ n 0 s ∧ zhok σ n s 12)) (fun x => zSat (zel x (fun s17 => some 1) (fun r => some r)) fun r => (r = 0 ∨ r = 1) ∧ (r ≠ 0 → ∀ t : Int → Int, ¬ zvalid σ t (n + 1))) := by
        intro _ hno
        refine ⟨13 - (i + 1), by omega, i + 1, by omega, by omega, rfl, fun s s0 s1 => ?_⟩
        by_cases e : s = i
        · subst e; exact hno
        · exact hs s s0 (by omega)
      rw [if_neg c, zS_bd, zw_i (x := (i : Int) + 1) (by omega) (by omega)]
      refine zs_m (e_handHolds h hA hn (a := 0) (b := i) (by omega) (by omega) (by omega)) ?_
      rintro r1 ⟨g1, g2⟩
      by_cases d1 : r1 = 0
      · rw [if_pos d1]
        exact nx True (fun q => by have := g2 q.1; omega)
      · rw [if_neg d1, zS_bd]
        refine zs_m (e_handHolds h hA hn (a := i) (b := 12) (by omega) (by omega) (by omega)) ?_
        rintro r2 ⟨g3, g4⟩
        by_cases d2 : r2 = 0
        · rw [if_pos d2]
          exact nx True (fun q => by have := g4 q.2; omega)
        · rw [if_neg d2]
          exact ⟨Or.inl rfl, fun q => absurd rfl q⟩
  · rw [if_neg c0]
    exact ⟨Or.inr rfl, fun _ t hv => c0 (zval_hok h hv hn).1⟩
theorem e_playable (h : St σ) (hA : zAx σ M) : zSat (fX0_countPlayable M) (fun V => (∀ c : Nat, c ≠ 130 → V c = M c) ∧ (∀ q : Int, q ≠ 7 → V 130 q = M 130 q) ∧ 0 ≤ V 130 7 ∧ V 130 7 ≤ σ 80 0 ∧ (V 130 7 < σ 80 0 → ∀ t : Int → Int, ¬ zvalid σ t ((V 130 7).toNat + 1))) := by
  have hnn := r_nn h
  unfold fX0_countPlayable
  rw [zS_bd]
  refine zit_inv (fun m V => ∃ i : Nat, V 130 7 = (i : Int) ∧ (i : Int) ≤ σ 80 0 ∧ m = (σ 80 0 - i).toNat ∧ (∀ c : Nat, c ≠ 130 → V c = M c) ∧ ∀ q : Int, q ≠ 7 → V 130 q = M 130 q) ?_ _ _ ⟨0, zup_eq, by omega, rfl, fun c hc => by funext q; exact zup_ne hc, fun q hq => zup_nk hq⟩
  rintro m V ⟨i, e7, i1, hm, g1, g2⟩
  have hAV : zAx σ V := fun c q hc hs => by
    by_cases e : c = 130
    · subst e; cases hs
    · rw [g1 c e]; exact hA c q hc hs
  show zSat (fX0_countPlayable_l5 V) _
  unfold fX0_countPlayable_l5
  rw [hAV.fl 80 rfl (by decide), e7]
  by_cases c : σ 80 0 ≤ i
  · rw [if_pos c]
    exact ⟨g1, g2, by omega, by omega, fun q => by omega⟩
  · rw [if_neg c, zS_bd]
    refine zs_m (e_isHopeless h hAV (n := i) (by omega)) ?_
    rintro r ⟨r1, r2⟩
    by_cases d : r = 0
    · rw [if_pos d, zw_i (by omega) (by omega)]
      exact ⟨(σ 80 0 - (i + 1 : Nat)).toNat, by omega, i + 1, by show zup V 130 7 _ 130 7 = _; rw [zup_eq]; omega, by omega, rfl, fun c hc => by funext q; show zup V 130 7 _ c q = _; rw [zup_ne hc, g1 c hc], fun q hq => by show zup V 130 7 _ 130 q = _; rw [zup_nk hq]; exact g2 q hq⟩
    · rw [if_neg d]
      refine ⟨g1, g2, by omega, by omega, fun _ t => ?_⟩
      show ¬ zvalid σ t ((V 130 7).toNat + 1)
      rw [show (V 130 7).toNat = i by omega]
      exact r2 d t
end HO2
