/-! PURE PART, 15: laws -/
section LAW
variable {σ M : zMem} {k b s t n x w : Int} {F F' : Int → Int}
theorem zro_c (h : ∀ i : Int, 1 ≤ i → i ≤ 5 → F i = F' i) (c : Int) : zro F c = zro F' c := by
  unfold zro; rw [h 1 (by decide) (by decide), h 2 (by decide) (by decide), h 3 (by decide) (by decide), h 4 (by decide) (by decide), h 5 (by decide) (by decide)]
theorem zrp_c (h : ∀ i : Int, 1 ≤ i → i ≤ 5 → F i = F' i) : ∀ (l st : List Int), zrp F l st = zrp F' l st
  | [], st => rfl
  | c :: cs, st => by
    unfold zrp zr1
    rw [zro_c h c]
    congr 1
    funext st'
    exact zrp_c h cs st'
/-- a list as it lies in the class's stack -/
def zstk (N : zMem) : List Int → Prop
  | [] => True
  | y :: r => N 122 (r.length : Int) = y ∧ zstk N r
theorem zstk_up {N : zMem} {j v : Int} : ∀ {l : List Int}, zstk N l → (l.length : Int) ≤ j → zstk (zup N 122 j v) l
  | [], _, _ => trivial
  | y :: r, h, hj => by
    have hj' : (r.length : Int) + 1 ≤ j := by simpa using hj
    exact ⟨by rw [zup_nk (by omega)]; exact h.1, zstk_up h.2 (by omega)⟩
/-- the facts as the class has them -/
def zfct (N : zMem) (F : Int → Int) : Prop := N 123 25 = F 1 ∧ N 123 26 = F 2 ∧ N 123 27 = F 3 ∧ N 123 28 = F 4 ∧ N 123 3 = F 5
theorem e_isOperand : fX3_isOperand x M = some (if zop x = true then 1 else 0) := by
  unfold fX3_isOperand zop
  by_cases c0 : 0 ≤ x
  · simp [c0]
  · by_cases c1 : x = -103
    · simp [c1]
    · by_cases c2 : -125 < x
      · have : ¬ x ≤ -125 := by omega
        simp [c0, c1, c2, this]
      · by_cases c3 : x < -128
        · have : ¬ -128 ≤ x := by omega
          simp [c0, c1, c2, c3, this]
        · have a : -128 ≤ x := by omega
          have a' : x ≤ -125 := by omega
          simp [c0, c1, c2, c3, a, a']
theorem e_joined {a c : Int} : fX3_joined x a c M = some (zrj x a c) := by
  unfold fX3_joined zrj
  repeat (first | rfl | split)
theorem e_law1 {N : zMem} {e i : Int} {st st' : List Int} (hr : zr1 F (N 56 i) st = some st') (hl : st.length ≤ 32) (hs : zstk N st) (hF : zfct N F) (hi : 0 ≤ i ∧ i < e ∧ e ≤ 1000) : ∃ N' : zMem, fX3_valueOf_l33 e st.length i N = some (.inl ((st'.length : Int), i + 1, N')) ∧ st'.length ≤ 32 ∧ zstk N' st' ∧ zFr 122 123 N N' := by
  obtain ⟨f1, f2, f3, f4, f5⟩ := hF
  unfold zr1 at hr
  unfold fX3_valueOf_l33 fX3_valueOf_j94 fX3_valueOf_j136
  rw [if_neg (show ¬ e ≤ i by omega), zgd_t ⟨hi.1, by omega⟩, e_isOperand, zbd_s, zw_i (x := i + 1) (by omega) (by omega)]
  generalize N 56 i = c at hr ⊢
  by_cases c0 : c < -1000
  · rw [if_pos c0] at hr; cases hr
  rw [if_neg c0] at hr
  by_cases c1 : zop c = true
  · rw [if_pos c1] at hr
    by_cases c2 : st.length < 32
    · rw [if_pos c2] at hr
      cases hr
      have z0 : zro F c = if c < 0 then N 123 (-c - 100) else c := by
        unfold zro
        by_cases d0 : 0 ≤ c
        · rw [if_pos d0, if_neg (by omega)]
        · rw [if_neg d0, if_pos (show c < 0 by omega)]
          have : c = -103 ∨ c = -125 ∨ c = -126 ∨ c = -127 ∨ c = -128 := by
            unfold zop at c1; simp only [Bool.or_eq_true, Bool.and_eq_true, decide_eq_true_eq] at c1; omega
          rcases this with rfl | rfl | rfl | rfl | rfl
          · exact f5.symm
          · exact f1.symm
          · exact f2.symm
          · exact f3.symm
          · exact f4.symm
      refine ⟨zup N 122 st.length (zro F c), ?_, by simp; omega, ⟨zup_eq, zstk_up hs (by omega)⟩, (zFr.refl _ _ _).up (by omega) (by omega)⟩
      rw [if_pos c1, if_neg (show ¬ (1 : Int) = 0 by decide), if_neg (show ¬ (32 : Int) ≤ st.length by omega), zw_i (x := (st.length : Int) + 1) (by omega) (by omega)]
      by_cases d0 : c < 0
      · have : c = -103 ∨ c = -125 ∨ c = -126 ∨ c = -127 ∨ c = -128 := by
          unfold zop at c1; simp only [Bool.or_eq_true, Bool.and_eq_true, decide_eq_true_eq] at c1; omega
        rw [if_pos d0, zgd_t ⟨by omega, by omega⟩, zgd_t ⟨by omega, by omega⟩, z0, if_pos d0]
        simp
      · rw [if_neg d0, zgd_t ⟨by omega, by omega⟩, z0, if_neg d0]
        simp
    · rw [if_neg c2] at hr; cases hr
  · rw [if_neg c1] at hr
    rw [if_neg c1, if_pos rfl]
    by_cases c2 : c = -111
    · rw [if_pos c2] at hr ⊢
      cases st with
      | nil => cases hr
      | cons y r =>
        cases hr
        have hl' : r.length + 1 ≤ 32 := by simpa using hl
        have e1 : ((y :: r).length : Int) = r.length + 1 := by simp
        rw [e1, if_neg (by omega), show (r.length : Int) + 1 - 1 = r.length by omega, zgd_t ⟨by omega, by omega⟩, hs.1, zw_i (x := (r.length : Int)) (by omega) (by omega)]
        refine ⟨zup N 122 r.length (if y = 0 then 1 else 0), ?_, by simpa using hl, ⟨zup_eq, zstk_up hs.2 (by omega)⟩, (zFr.refl _ _ _).up (by omega) (by omega)⟩
        by_cases d : y = 0
        · rw [if_pos d, if_pos d, zgd_t ⟨by omega, by omega⟩]; simp
        · rw [if_neg d, if_neg d, zgd_t ⟨by omega, by omega⟩]; simp
    · rw [if_neg c2] at hr ⊢
      match st, hr with
      | y :: z :: r, hr =>
        cases hr
        have hl' : r.length + 1 + 1 ≤ 32 := by simpa using hl
        have e1 : ((y :: z :: r).length : Int) = r.length + 1 + 1 := by simp
        have cneg : c < 0 := by
          have : ¬ 0 ≤ c := fun q => c1 (by unfold zop; simp [q])
          omega
        have h1 : N 122 ((r.length : Int) + 1) = y := by have := hs.1; simpa using this
        rw [e1, if_neg (by omega), zw_i (x := (r.length : Int) + 1 + 1 + -1) (by omega) (by omega), show (r.length : Int) + 1 + 1 + -1 = r.length + 1 by omega, show (r.length : Int) + 1 - 1 = r.length by omega, zgd_t ⟨by omega, by omega⟩, zgd_t ⟨by omega, by omega⟩, e_joined, zbd_s, zgd_t ⟨by omega, by omega⟩, hs.2.1, h1, zw_i (x := -c) (by omega) (by omega)]
        exact ⟨zup N 122 r.length (zrj (-c) z y), by simp, by simp; omega, ⟨zup_eq, zstk_up hs.2.2 (by omega)⟩, (zFr.refl _ _ _).up (by omega) (by omega)⟩
      | [], hr => cases hr
      | [y], hr => cases hr
theorem e_lawrun {e : Int} (he : e ≤ 1000) : ∀ (m : Nat) (i : Int) (N : zMem) (st st' : List Int), zrp F (zseg (N 56) i m) st = some st' → st.length ≤ 32 → zstk N st → zfct N F → 0 ≤ i → i + m = e → ∃ N' : zMem, zit (fun s16 : Int × Int × zMem => fX3_valueOf_l33 e (s16.1) (s16.2.1) (s16.2.2)) ((st.length : Int), i, N) = some ((st'.length : Int), e, N') ∧ zstk N' st' ∧ zFr 122 123 N N'
  | 0, i, N, st, st', hr, hl, hs, hF, hi, hie => by
    have : st = st' := by simpa [zseg, zrp] using hr
    subst this
    have hie : i = e := by simpa using hie
    subst hie
    refine ⟨N, zit_r (f := fun s16 : Int × Int × zMem => fX3_valueOf_l33 i (s16.1) (s16.2.1) (s16.2.2)) (s := ((st.length : Int), i, N)) ?_, hs, zFr.refl _ _ _⟩
    show fX3_valueOf_l33 i st.length i N = _
    unfold fX3_valueOf_l33
    rw [if_pos (Int.le_refl _)]
  | m + 1, i, N, st, st', hr, hl, hs, hF, hi, hie => by
    unfold zseg zrp at hr
    cases h1 : zr1 F (N 56 i) st with
    | none => rw [h1] at hr; cases hr
    | some s1 =>
      rw [h1] at hr
      obtain ⟨N1, g1, g2, g3, g4⟩ := e_law1 h1 hl hs hF (e := e) ⟨hi, by omega, he⟩
      have hr' : zrp F (zseg (N1 56) (i + 1) m) s1 = some st' := by rw [g4 56 (by omega)]; exact hr
      have hF1 : zfct N1 F := by unfold zfct at hF ⊢; rw [g4 123 (by omega)]; exact hF
      obtain ⟨N2, k1, k2, k3⟩ := e_lawrun he m (i + 1) N1 s1 st' hr' g2 g3 hF1 (by omega) (by omega)
      exact ⟨N2, (zit_l (f := fun s16 : Int × Int × zMem => fX3_valueOf_l33 e (s16.1) (s16.2.1) (s16.2.2)) (s := ((st.length : Int), i, N)) g1).trans k1, k2, g4.trans k3⟩
theorem r_sp (h : St σ) (q : Nat) (hq : (q : Int) < σ 40 13) : (0 ≤ zca (σ 58) q ∧ zca (σ 58) q ≤ σ 58 q ∧ σ 58 q ≤ 1000) ∧ (0 ≤ σ 227 q ∧ σ 227 q ≤ σ 228 q ∧ σ 228 q ≤ 1000) ∧ zXs (zseg (σ 56) (zca (σ 58) q) (σ 58 q - zca (σ 58) q).toNat) (zseg (σ 229) (σ 227 q) (σ 228 q - σ 227 q).toNat) (σ 40 14 / 2 ^ q % 2) := by
  have := h.1.2.2.2.2.2.2 q hq
  simpa using this
theorem e_valueOf (h : St σ) (hA : zAx σ M) {q : Nat} (hq : (q : Int) < σ 40 13) (hF : zfct M F) : zSat (fX3_valueOf q M) (fun e => e.1 = zlw σ q F ∧ zFr 122 123 M e.2) := by
  have hsn := r_sn h
  obtain ⟨⟨p1, p2, p3⟩, -, v, hv, -⟩ := r_sp h q hq
  have run := hv F
  have zl : zlw σ q F = v F := by unfold zlw; rw [run]
  obtain ⟨N, g1, g2, g3⟩ := e_lawrun (F := F) p3 (σ 58 q - zca (σ 58) q).toNat (zca (σ 58) q) M [] [v F] (by rw [hA.fl 56 rfl (by decide)]; exact run) (by simp) trivial hF p1 (by omega)
  unfold fX3_valueOf fX3_valueOf_j31
  rw [zgd_t ⟨by omega, by omega⟩, hA.fl 58 rfl (by decide), zl]
  have g2 : N 122 0 = v F := g2.1
  have fin : zSat (zbd (zit (fun s16 : Int × Int × zMem => fX3_valueOf_l33 (σ 58 q) (s16.1) (s16.2.1) (s16.2.2)) (0, zca (σ 58) q, M)) fun s23 => zgd ((0 : Int) ≤ 0 ∧ (0 : Int) < 32) (some (s23.2.2 122 0, s23.2.2))) (fun e => e.1 = v F ∧ zFr 122 123 M e.2) := by
    rw [show zit (fun s16 : Int × Int × zMem => fX3_valueOf_l33 (σ 58 q) (s16.1) (s16.2.1) (s16.2.2)) (0, zca (σ 58) q, M) = _ from g1, zbd_s, zgd_t (by decide)]
    exact ⟨g2, g3⟩
  unfold zca at fin
  by_cases c : q = 0
  · rw [if_pos c] at fin; rw [if_pos (by omega)]; exact fin
  · rw [if_neg c] at fin; rw [if_neg (by omega), zgd_t ⟨by omega, by omega⟩]; exact fin
theorem e_allows (h : St σ) (hA : zAx σ M) {m : Int} (hm : z32 m) {sp : Int} (hF : zfct (zup M 123 25 sp) F) : zSat (fX3_allows m sp M) (fun e => e.1 = (if zals σ F (fun q => decide (m / 2 ^ q % 2 = 1)) (σ 40 13).toNat = true then 1 else 0) ∧ zFr 122 124 M e.2 ∧ zfct e.2 F) := by
  have hsn := r_sn h
  unfold fX3_allows
  rw [zgd_t (by decide), zS_bd]
  refine zit_i2 (fun y N => fX3_allows_l10 m y N) (fun r y N => ∃ i : Nat, y = (i : Int) ∧ (i : Int) ≤ σ 40 13 ∧ r = (σ 40 13 - i).toNat ∧ zFr 122 124 M N ∧ zfct N F ∧ zals σ F (fun q => decide (m / 2 ^ q % 2 = 1)) i = true) ?_ _ ⟨0, rfl, by omega, rfl, (zFr.refl _ _ _).up (by omega) (by omega), hF, rfl⟩
  rintro r y N ⟨i, rfl, i1, hr, gF, gf, ga⟩
  have hA' : zAx σ N := hA.fr (gF.mono (by omega) (by omega))
  show zSat (fX3_allows_l10 m i N) _
  unfold fX3_allows_l10
  rw [hA'.fl 40 rfl (by decide)]
  by_cases c0 : σ 40 13 ≤ i
  · rw [if_pos c0]
    have : (σ 40 13).toNat = i := by omega
    rw [this]
    exact ⟨(if_pos ga).symm, gF, gf⟩
  · rw [if_neg c0, zbit_i hm (by omega), zw_i (by omega) (by omega)]
    have es : ∀ B : Bool, zals σ F (fun q => decide (m / 2 ^ q % 2 = 1)) (i + 1) = B ↔ (zals σ F (fun q => decide (m / 2 ^ q % 2 = 1)) i && (!decide (m / 2 ^ i % 2 = 1) || decide (zlw σ i F ≠ 0))) = B := fun B => Iff.rfl
    by_cases c1 : m / 2 ^ i % 2 = 0
    · rw [if_pos c1]
      exact ⟨(σ 40 13 - (i + 1 : Nat)).toNat, by omega, i + 1, by show (i : Int) + 1 = _; omega, by omega, rfl, gF, gf, (es true).mpr (by rw [ga]; simp [c1])⟩
    · have c1' : m / 2 ^ i % 2 = 1 := by omega
      rw [if_neg c1, zS_bd2]
      refine zs_m (e_valueOf h hA' (q := i) (by omega) gf) ?_
      rintro ⟨v, V⟩ ⟨hv, vF⟩
      dsimp only at hv vF ⊢
      have gF' : zFr 122 124 M V := gF.trans (vF.mono (by omega) (by omega))
      have gf' : zfct V F := by unfold zfct at gf ⊢; rw [vF 123 (by omega)]; exact gf
      by_cases c2 : v = 0
      · rw [if_pos c2]
        have hz : zals σ F (fun q => decide (m / 2 ^ q % 2 = 1)) (i + 1) = false := (es false).mpr (by rw [ga]; simp [c1', ← hv, c2])
        have mono : ∀ j : Nat, i + 1 ≤ j → zals σ F (fun q => decide (m / 2 ^ q % 2 = 1)) j = false := by
          intro j hj
          induction hj with
          | refl => exact hz
          | step _ ih => show (_ && _) = false; rw [ih]; rfl
        refine ⟨?_, gF', gf'⟩
        show (0 : Int) = _
        rw [mono _ (by omega)]; rfl
      · rw [if_neg c2]
        exact ⟨(σ 40 13 - (i + 1 : Nat)).toNat, by omega, i + 1, by show (i : Int) + 1 = _; omega, by omega, rfl, gF', gf', (es true).mpr (by rw [ga]; simp [c1', ← hv, c2])⟩
end LAW
