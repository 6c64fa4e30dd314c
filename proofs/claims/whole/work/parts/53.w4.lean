/-! PURE PART, 4: frames; how BOWLS warm -/
/-- only cells from a up to b (without b) may have changed -/
def zFr (a b : Nat) (M N : zMem) : Prop := ∀ c : Nat, c < a ∨ b ≤ c → N c = M c
theorem zFr.refl (a b : Nat) (M : zMem) : zFr a b M M := fun _ _ => rfl
theorem zFr.trans {a b : Nat} {M N O : zMem} (h : zFr a b M N) (g : zFr a b N O) : zFr a b M O := fun c hc => (g c hc).trans (h c hc)
theorem zFr.mono {a b a' b' : Nat} {M N : zMem} (h : zFr a b M N) (ha : a' ≤ a) (hb : b ≤ b') : zFr a' b' M N := fun c hc => h c (by omega)
theorem zFr.up {a b : Nat} {M N : zMem} (h : zFr a b M N) {c : Nat} {k v : Int} (ha : a ≤ c) (hb : c < b) : zFr a b M (zup N c k v) := fun d hd => by
  rw [← h d hd]; funext q; exact zup_ne (by omega)
theorem zSc_mid {c : Nat} (k : Int) (h1 : 90 ≤ c) (h2 : c < 200) : zSc c k = false := by
  unfold zSc zfull zprt
  have a1 : ¬ c < 20 := by omega
  have a2 : ¬ c = 21 := by omega
  have a3 : ¬ c < 60 := by omega
  have a4 : ¬ c < 90 := by omega
  have a5 : ¬ c = 203 := by omega
  have a6 : ¬ 245 ≤ c := by omega
  have a7 : ¬ c = 262 := by omega
  have a8 : ¬ c = 263 := by omega
  have a9 : ¬ 400 ≤ c := by omega
  have b1 : ¬ c = 20 := by omega
  have b2 : ¬ c = 200 := by omega
  have b3 : ¬ 211 ≤ c := by omega
  have b4 : ¬ 215 ≤ c := by omega
  have b5 : ¬ 220 ≤ c := by omega
  have b6 : ¬ c = 225 := by omega
  have b7 : ¬ 227 ≤ c := by omega
  have b8 : ¬ c = 229 := by omega
  try simp [a1, a2, a3, a4, a5, a6, a7, a8, a9, b1, b2, b3, b4, b5, b6, b7, b8]
theorem zAg.fr {σ M N : zMem} (h : zAg σ M) (hf : zFr 90 200 M N) : zAg σ N := fun c k hs => by
  by_cases hc : c < 90 ∨ 200 ≤ c
  · rw [hf c hc]; exact h c k hs
  · rw [zSc_mid k (by omega) (by omega)] at hs; cases hs
theorem zAx.fr {σ M N : zMem} (h : zAx σ M) (hf : zFr 90 200 M N) : zAx σ N := fun c k hn hs => by
  by_cases hc : c < 90 ∨ 200 ≤ c
  · rw [hf c hc]; exact h c k hn hs
  · rw [zSc_mid k (by omega) (by omega)] at hs; cases hs
def zfil (M : zMem) (o : Nat) (n v : Int) : zMem := fun c k => if c = o ∧ 0 ≤ k ∧ k < n then v else M c k
theorem e_fill {o n : Nat} {v : Int} {M : zMem} (hn : n < 2147483648) : fJ7_fill_53178 o n v M = some (zfil M o n v) := by
  unfold fJ7_fill_53178
  rw [zw_i (x := ((n : Nat) : Int)) (by omega) (by omega)]
  rw [show zit (fun s1 : Int × zMem => fJ7_fill_53178_l5 o n v (n : Int) (s1.1) (s1.2)) (0, M) = some ((n : Int), zfil M o n v) from ?_]
  · rfl
  have e0 : zfil M o 0 v = M := by
    funext c k; unfold zfil; rw [if_neg (by omega)]
  have key := zit_for (f := fun s1 : Int × zMem => fJ7_fill_53178_l5 o n v (n : Int) (s1.1) (s1.2)) n (fun i => ((i : Int), zfil M o i v)) (e := ((n : Int), zfil M o n v)) ?_ ?_
  · show zit (fun s1 : Int × zMem => fJ7_fill_53178_l5 o n v (n : Int) (s1.1) (s1.2)) (((0 : Nat) : Int), M) = _
    have e0' : zfil M o ((0 : Nat) : Int) v = M := e0
    rw [e0'] at key; exact key
  · intro i hi
    show fJ7_fill_53178_l5 o n v (n : Int) (i : Int) (zfil M o i v) = some (.inl (((i + 1 : Nat) : Int), zfil M o ((i + 1 : Nat) : Int) v))
    have e1 : zup (zfil M o i v) o i v = zfil M o ((i + 1 : Nat) : Int) v := by
      funext c k; unfold zup zfil
      by_cases hc : c = o
      · by_cases hk : k = (i : Int)
        · rw [if_pos ⟨hc, hk⟩, if_pos ⟨hc, by omega, by omega⟩]
        · rw [if_neg (fun q => hk q.2)]
          by_cases hq : 0 ≤ k ∧ k < (i : Int)
          · rw [if_pos ⟨hc, hq⟩, if_pos ⟨hc, by omega, by omega⟩]
          · rw [if_neg (fun q => hq q.2), if_neg (fun q => hq ⟨q.2.1, by have := q.2.2; omega⟩)]
      · rw [if_neg (fun q => hc q.1), if_neg (fun q => hc q.1), if_neg (fun q => hc q.1)]
    unfold fJ7_fill_53178_l5
    simp (disch := omega) only [zgd_t, zbd_s, zbd2_s, zw_i, if_pos, if_neg, ↓reduceIte, Nat.reduceAdd, e1]
    try simp
  · show fJ7_fill_53178_l5 o n v (n : Int) (n : Int) (zfil M o n v) = _
    unfold fJ7_fill_53178_l5
    rw [if_pos (Int.le_refl _)]
section WRM
variable {σ M : zMem} {k b t n x : Int}
theorem ztou_k (h : St σ) (hk : σ 46 b = 3) : ztou σ b t = 0 := by
  have hn := r_nn h
  have e : ztou σ b t = zsum (fun _ => 0) (σ 80 0).toNat := zsum_eq fun q hq => by
    unfold ztg
    rw [if_neg]
    rintro ⟨g, -⟩
    have := (r_nb h (k := q) (by omega) (by omega)).2.2
    rw [g] at this; exact this hk
  rw [e]
  have z : ∀ m : Nat, zsum (fun _ => 0) m = 0 := by
    intro m
    induction m with
    | zero => rfl
    | succ m ih => show zsum (fun _ => 0) m + 0 = 0; rw [ih]; rfl
  exact z _
theorem ztou_r (h : St σ) : 0 ≤ ztou σ b t ∧ ztou σ b t ≤ 216 := by
  have hn := r_nn h
  have := ztou_b (b := b) (t := t) h (Nat.le_refl _)
  unfold ztou; omega
theorem zwm_b (h : St σ) : ∀ i : Nat, 0 ≤ zwm σ b i ∧ zwm σ b i ≤ 21384 * i
  | 0 => by simp [zwm]
  | i + 1 => by
    have ih := zwm_b h i
    have hp := ztou_r (b := b) (t := i) h
    have ht := r_ti h
    have hm := zmul_b (a := σ 59 6) (b := ztou σ b i) ht.2.2.2.2.2.2.1 hp
    show 0 ≤ zwst σ b (zwm σ b i) (ztou σ b i) ∧ zwst σ b (zwm σ b i) (ztou σ b i) ≤ _
    unfold zwst
    split
    · omega
    · split <;> omega
theorem zck_r (b : Int) : ∀ i : Nat, -1 ≤ zck σ b i ∧ zck σ b i < i
  | 0 => by simp [zck]
  | i + 1 => by
    have ih := zck_r b i
    unfold zck
    split <;> omega
/-- what is kept of warming is right where it is known -/
def Cw (σ M : zMem) : Prop := M 90 5 ≠ 0 → ∀ b : Int, 0 ≤ b → b < σ 40 0 → M 95 b = zcrk σ b ∧ ∀ t : Int, 0 ≤ t → t < 200 → M 94 (b * 200 + t) = zwm σ b t.toNat
theorem Cw.fr {N : zMem} (h : Cw σ M) (hf : ∀ c : Nat, 90 ≤ c → c < 96 → N c = M c) : Cw σ N := by
  unfold Cw at h ⊢
  rw [hf 90 (by omega) (by omega), hf 94 (by omega) (by omega), hf 95 (by omega) (by omega)]
  exact h
/-- what a BOWL is touched by, asked of the NOTES -/
theorem e_pressOn (h : St σ) (hA : zAx σ M) : fX5_pressOn 80 b t M = some (ztou σ b t) := by
  unfold fX5_pressOn
  have hn := r_nn h
  rw [show zit (fun s8 : Int × Int => fX5_pressOn_l5 80 b t (s8.1) (s8.2) M) (0, 0) = some (ztou σ b t, ((σ 80 0).toNat : Int)) from zit_for (σ 80 0).toNat (fun i => (zsum (ztg σ b t) i, (i : Int))) ?_ ?_]
  · rfl
  · intro i hi
    show fX5_pressOn_l5 80 b t (zsum (ztg σ b t) i) (i : Int) M = some (.inl (zsum (ztg σ b t) i + ztg σ b t i, ((i + 1 : Nat) : Int)))
    have hb := ztou_b (b := b) (t := t) h (Nat.le_of_lt hi)
    have i0 : (0 : Int) ≤ i := by omega
    have i1 : (i : Int) < σ 80 0 := by omega
    have n_b := r_nb h (k := i) i0 i1; have n_l := r_nl h (k := i) i0 i1; have n_p := r_np h (k := i) i0 i1
    generalize zsum (ztg σ b t) i = z at hb ⊢
    unfold fX5_pressOn_l5 ztg
    rw [show (80 + 2 : Nat) = 82 from rfl, show (80 + 5 : Nat) = 85 from rfl, hA.fl 80 rfl (by decide), hA.fl 82 rfl (by decide), hA.fl 85 rfl (by decide), e_lasts h hA, zbd_s]
    by_cases c1 : σ 82 i = b
    · by_cases c2 : σ 83 i ≤ t ∧ t < σ 83 i + σ 84 i
      · have c3 : 0 ≤ (i : Int) ∧ (i : Int) < σ 80 0 ∧ σ 83 i ≤ t ∧ t < σ 83 i + σ 84 i := ⟨i0, i1, c2.1, c2.2⟩
        rw [if_pos c3]; simp (disch := omega) only [zgd_t, zbd_s, zbd2_s, zw_i, if_pos, if_neg, ↓reduceIte, Nat.reduceAdd, c1, c2]; try simp
      · have c3 : ¬ (0 ≤ (i : Int) ∧ (i : Int) < σ 80 0 ∧ σ 83 i ≤ t ∧ t < σ 83 i + σ 84 i) := fun q => c2 q.2.2
        rw [if_neg c3]; simp (disch := omega) only [zgd_t, zbd_s, zbd2_s, zw_i, if_pos, if_neg, ↓reduceIte, Nat.reduceAdd, c1, c2]; try simp
    · simp (disch := omega) only [zgd_t, zbd_s, zbd2_s, zw_i, if_pos, if_neg, ↓reduceIte, Nat.reduceAdd, c1]; try simp
  · show fX5_pressOn_l5 80 b t (zsum (ztg σ b t) (σ 80 0).toNat) ((σ 80 0).toNat : Int) M = _
    unfold fX5_pressOn_l5
    rw [hA.fl 80 rfl (by decide), if_pos (by omega)]; rfl
/-- one NOTE's presses on its BOWL -/
theorem e_press1 (h : St σ) (hA : zAx σ M) {i : Nat} (hi : (i : Int) < σ 80 0) (hb : σ 82 i = b) (hM : ∀ t : Int, 0 ≤ t → t < 200 → M 93 t = zsum (ztg σ b t) i) :
    zSat (zit (fun s14 : Int × zMem => fX10_press_l44 b i (s14.1) (s14.2)) (M 83 i, M)) (fun e => zFr 93 94 M e.2 ∧ ∀ t : Int, 0 ≤ t → t < 200 → e.2 93 t = zsum (ztg σ b t) (i + 1)) := by
  have hn := r_nn h
  have i0 : (0 : Int) ≤ i := by omega
  have n_b := r_nb h (k := i) i0 hi; have n_l := r_nl h (k := i) i0 hi; have n_p := r_np h (k := i) i0 hi
  rw [hA.fl 83 rfl (by decide)]
  refine zit_i2 (fun y N => fX10_press_l44 b i y N) (fun m y N => m = (σ 83 i + σ 84 i - y).toNat ∧ σ 83 i ≤ y ∧ y ≤ σ 83 i + σ 84 i ∧ zFr 93 94 M N ∧ ∀ t : Int, 0 ≤ t → t < 200 → N 93 t = zsum (ztg σ b t) i + (if σ 83 i ≤ t ∧ t < y then σ 85 i else 0)) ?_ _ ⟨rfl, Int.le_refl _, by omega, zFr.refl _ _ _, fun t t0 t1 => by rw [hM t t0 t1, if_neg (by omega)]; simp⟩
  rintro m y N ⟨hm, y0, y1, hF, hN⟩
  have hA' : zAx σ N := hA.fr (hF.mono (by omega) (by omega))
  show zSat (fX10_press_l44 b i y N) _
  unfold fX10_press_l44
  rw [e_end h hA' i0 hi, zbd_s, hA'.fl 85 rfl (by decide)]
  by_cases hy : σ 83 i + σ 84 i ≤ y
  · rw [if_pos hy]
    refine ⟨hF, fun t t0 t1 => ?_⟩
    have e : y = σ 83 i + σ 84 i := by omega
    show N 93 t = zsum (ztg σ b t) i + (if σ 82 i = b ∧ σ 83 i ≤ t ∧ t < σ 83 i + σ 84 i then σ 85 i else 0)
    rw [hN t t0 t1, e]
    by_cases hc : σ 83 i ≤ t ∧ t < σ 83 i + σ 84 i
    · rw [if_pos hc, if_pos ⟨hb, hc⟩]
    · rw [if_neg hc, if_neg (fun q => hc q.2)]
  · rw [if_neg hy]
    have hs := hN y (by omega) (by omega)
    have hb2 := ztou_b (b := b) (t := y) h (i := i) (by omega)
    rw [if_neg (by omega)] at hs
    simp (disch := omega) only [zgd_t, zbd_s, zbd2_s, zw_i, if_pos, if_neg, ↓reduceIte, Nat.reduceAdd, hs]
    refine ⟨(σ 83 i + σ 84 i - (y + 1)).toNat, by omega, rfl, by show _ ≤ y + 1; omega, by show y + 1 ≤ _; omega, hF.up (by omega) (by omega), fun t t0 t1 => ?_⟩
    show zup N 93 y (zsum (ztg σ b y) i + 0 + σ 85 i) 93 t = zsum (ztg σ b t) i + (if σ 83 i ≤ t ∧ t < y + 1 then σ 85 i else 0)
    by_cases he : t = y
    · rw [he, zup_eq, if_pos (by omega)]; omega
    · rw [zup_nk (by omega), hN t t0 t1]
      by_cases hc : σ 83 i ≤ t ∧ t < y
      · rw [if_pos hc, if_pos (by omega)]
      · rw [if_neg hc, if_neg (by omega)]
/-- all presses on one BOWL -/
theorem e_press (h : St σ) (hA : zAx σ M) : zSat (fX10_press b M) (fun N => zFr 93 94 M N ∧ ∀ t : Int, 0 ≤ t → t < 200 → N 93 t = ztou σ b t) := by
  have hn := r_nn h
  unfold fX10_press
  rw [e_fill (by omega), zbd_s, zS_bd]
  have f1 : zFr 93 94 M (zfil M 93 200 0) := fun c hc => by
    funext q; unfold zfil; rw [if_neg (by omega)]
  refine zit_i2 (fun y N => fX10_press_l10 b y N) (fun m y N => ∃ i : Nat, y = (i : Int) ∧ (i : Int) ≤ σ 80 0 ∧ m = (σ 80 0 - i).toNat ∧ zFr 93 94 M N ∧ ∀ t : Int, 0 ≤ t → t < 200 → N 93 t = zsum (ztg σ b t) i) ?_ _ ⟨0, rfl, by omega, rfl, f1, fun t t0 t1 => by unfold zfil; rw [if_pos ⟨rfl, t0, t1⟩]; rfl⟩
  rintro m y N ⟨i, hy, i1, hm, hF, hN⟩
  subst hy
  have hA' : zAx σ N := hA.fr (hF.mono (by omega) (by omega))
  show zSat (fX10_press_l10 b i N) _
  unfold fX10_press_l10
  rw [hA'.fl 80 rfl (by decide), hA'.fl 82 rfl (by decide)]
  by_cases hy : σ 80 0 ≤ i
  · rw [if_pos hy]
    refine ⟨hF, fun t t0 t1 => ?_⟩
    have : (σ 80 0).toNat = i := by omega
    show N 93 t = _
    rw [hN t t0 t1]; unfold ztou; rw [this]
  · have i1 : (i : Int) < σ 80 0 := by omega
    by_cases hb : σ 82 i = b
    · simp (disch := omega) only [zgd_t, zbd_s, zbd2_s, zw_i, if_pos, if_neg, ↓reduceIte, Nat.reduceAdd, hb]
      rw [zS_bd]
      refine zs_m (e_press1 h hA' i1 hb hN) ?_
      rintro ⟨y, O⟩ ⟨gF, gO⟩
      exact ⟨(σ 80 0 - (i + 1 : Nat)).toNat, by omega, i + 1, by show (i : Int) + 1 = _; omega, by omega, rfl, hF.trans gF, gO⟩
    · simp (disch := omega) only [zgd_t, zbd_s, zbd2_s, zw_i, if_pos, if_neg, ↓reduceIte, Nat.reduceAdd, hb]
      refine ⟨(σ 80 0 - (i + 1 : Nat)).toNat, by omega, i + 1, by show (i : Int) + 1 = _; omega, by omega, rfl, hF, fun t t0 t1 => ?_⟩
      show N 93 t = zsum (ztg σ b t) i + (if σ 82 i = b ∧ σ 83 i ≤ t ∧ t < σ 83 i + σ 84 i then σ 85 i else 0)
      rw [if_neg (fun q => hb q.1), Int.add_zero]; exact hN t t0 t1
set_option maxRecDepth 20000 in
/-- one BOWL's warmth -/
theorem e_warm (h : St σ) (hA : zAx σ M) (b0 : 0 ≤ b) (b1 : b < σ 40 0) (hP : ∀ t : Int, 0 ≤ t → t < 200 → M 93 t = ztou σ b t) :
    zSat (fX10_warm b M) (fun N => zFr 94 96 M N ∧ (∀ q : Int, q ≠ b → N 95 q = M 95 q) ∧ (∀ q : Int, q < b * 200 ∨ b * 200 + 200 ≤ q → N 94 q = M 94 q) ∧ N 95 b = zcrk σ b ∧ ∀ t : Int, 0 ≤ t → t < 200 → N 94 (b * 200 + t) = zwm σ b t.toNat) := by
  have hb := r_bw h
  have hw := r_wl h b0 b1
  have ht := r_ti h
  have hl := zmul_b (a := σ 45 b) (b := σ 59 8) (A := 20) (B := 999) (by omega) (by omega)
  unfold fX10_warm
  rw [hA.fl 45 rfl (by decide), hA.fl 59 rfl (by decide)]
  simp (disch := omega) only [zgd_t, zbd_s, zbd2_s, zw_i, if_pos, if_neg, ↓reduceIte, Nat.reduceAdd]
  rw [zS_bd]
  refine zit_i3 (fun w y N => fX10_warm_l33 b (σ 45 b * σ 59 8) w y N) (fun m w y N => ∃ i : Nat, y = (i : Int) ∧ i ≤ 200 ∧ m = 200 - i ∧ w = zwm σ b i ∧ zFr 94 96 M N ∧ (∀ q : Int, q ≠ b → N 95 q = M 95 q) ∧ (∀ q : Int, q < b * 200 ∨ b * 200 + 200 ≤ q → N 94 q = M 94 q) ∧ N 95 b = zck σ b i ∧ ∀ t : Nat, t < i → N 94 (b * 200 + t) = zwm σ b t) ?_ 200 ⟨0, rfl, by omega, rfl, rfl, (zFr.refl _ _ _).up (by omega) (by omega), fun q hq => zup_nk hq, fun q hq => zup_ne (by decide), zup_eq, fun t ht => by omega⟩
  rintro m w y N ⟨i, hy, i1, hm, hwi, hF, h5, h4, hc, hN⟩
  subst hy hwi
  have hA' : zAx σ N := hA.fr (hF.mono (by omega) (by omega))
  show zSat (fX10_warm_l33 b (σ 45 b * σ 59 8) (zwm σ b i) i N) _
  have hwb := zwm_b (b := b) h i
  unfold fX10_warm_l33
  by_cases hy : (200 : Int) ≤ i
  · rw [if_pos hy]
    have : i = 200 := by omega
    subst this
    refine ⟨hF, h5, h4, hc, fun t t0 t1 => ?_⟩
    have := hN t.toNat (by omega)
    rwa [show ((t.toNat : Nat) : Int) = t by omega] at this
  · have hp := hP i (by omega) (by omega)
    have hpr := ztou_r (b := b) (t := i) h
    have hm6 := zmul_b (a := σ 59 6) (b := ztou σ b i) ht.2.2.2.2.2.2.1 hpr
    -- what follows the crack
    have fin : ∀ O : zMem, zFr 94 96 M O → (∀ q : Int, q ≠ b → O 95 q = M 95 q) → (∀ q : Int, q < b * 200 ∨ b * 200 + 200 ≤ q → O 94 q = M 94 q) → O 95 b = zck σ b (i + 1) → (∀ t : Nat, t < i + 1 → O 94 (b * 200 + t) = zwm σ b t) → zSat (fX10_warm_j78 b (σ 45 b * σ 59 8) (zwm σ b i) i O) (fun x => zel x (fun s' => ∃ m', m' < m ∧ ∃ i : Nat, s'.2.1 = i ∧ i ≤ 200 ∧ m' = 200 - i ∧ s'.1 = zwm σ b i ∧ zFr 94 96 M s'.2.2 ∧ (∀ q : Int, q ≠ b → s'.2.2 95 q = M 95 q) ∧ (∀ q : Int, q < b * 200 ∨ b * 200 + 200 ≤ q → s'.2.2 94 q = M 94 q) ∧ s'.2.2 95 b = zck σ b i ∧ ∀ t : Nat, t < i → s'.2.2 94 (b * 200 + t) = zwm σ b t) (fun x => zSat (some x.2.2) fun N => zFr 94 96 M N ∧ (∀ q : Int, q ≠ b → N 95 q = M 95 q) ∧ (∀ q : Int, q < b * 200 ∨ b * 200 + 200 ≤ q → N 94 q = M 94 q) ∧ N 95 b = zcrk σ b ∧ ∀ t : Int, 0 ≤ t → t < 200 → N 94 (b * 200 + t) = zwm σ b t.toNat)) := by
      intro O gF g5 g4 gc gO
      have hA'' : zAx σ O := hA.fr (gF.mono (by omega) (by omega))
      unfold fX10_warm_j78 fX10_warm_j130
      rw [gF 93 (by omega), hp, hA''.fl 59 rfl (by decide), hA''.fl 46 rfl (by decide)]
      by_cases c1 : ztou σ b i ≤ 0
      · simp (disch := omega) only [zgd_t, zbd_s, zbd2_s, zw_i, if_pos, if_neg, ↓reduceIte, Nat.reduceAdd]
        refine ⟨200 - (i + 1), by omega, i + 1, by show (i : Int) + 1 = _; omega, by omega, rfl, ?_, gF, g5, g4, gc, gO⟩
        show max 0 (zwm σ b i - σ 59 7) = zwst σ b (zwm σ b i) (ztou σ b i)
        unfold zwst; rw [if_pos c1]
      · by_cases c2 : σ 46 b = 0
        · simp (disch := omega) only [zgd_t, zbd_s, zbd2_s, zw_i, if_pos, if_neg, ↓reduceIte, Nat.reduceAdd, c2]
          refine ⟨200 - (i + 1), by omega, i + 1, by show (i : Int) + 1 = _; omega, by omega, rfl, ?_, gF, g5, g4, gc, gO⟩
          show zwm σ b i + σ 59 6 * ztou σ b i = zwst σ b (zwm σ b i) (ztou σ b i)
          unfold zwst; rw [if_neg c1, if_pos c2]
        · have hd : zdiv (σ 59 6 * ztou σ b i) 2 = σ 59 6 * ztou σ b i / 2 := zdiv_n ⟨by omega, by omega⟩ ⟨by omega, by omega⟩ hm6.1 (by omega)
          simp (disch := omega) only [zgd_t, zbd_s, zbd2_s, zw_i, if_pos, if_neg, ↓reduceIte, Nat.reduceAdd, c2, hd]
          refine ⟨200 - (i + 1), by omega, i + 1, by show (i : Int) + 1 = _; omega, by omega, rfl, ?_, gF, g5, g4, gc, gO⟩
          show zwm σ b i + σ 59 6 * ztou σ b i / 2 = zwst σ b (zwm σ b i) (ztou σ b i)
          unfold zwst; rw [if_neg c1, if_neg c2]
    have e4 : ∀ t : Nat, t < i + 1 → zup N 94 (b * 200 + i) (zwm σ b i) 94 (b * 200 + t) = zwm σ b t := by
      intro t ht
      by_cases ht' : t = i
      · subst ht'; exact zup_eq
      · rw [zup_nk (by omega)]; exact hN t (by omega)
    simp (disch := omega) only [zgd_t, zbd_s, zbd2_s, zw_i, if_pos, if_neg, ↓reduceIte, Nat.reduceAdd]
    rw [zup_ne (show (95 : Nat) ≠ 94 by decide), hc]
    have hzc : zck σ b (i + 1) = if zck σ b i = -1 ∧ σ 45 b * σ 59 8 < zwm σ b i then (i : Int) else zck σ b i := rfl
    by_cases c1 : zck σ b i = -1
    · by_cases c2 : zwm σ b i ≤ σ 45 b * σ 59 8
      · rw [if_pos c1, if_pos c2]
        refine fin _ (hF.up (by omega) (by omega)) (fun q hq => ?_) (fun q hq => ?_) ?_ e4
        · rw [zup_ne (by decide)]; exact h5 q hq
        · rw [zup_nk (by omega)]; exact h4 q hq
        · rw [zup_ne (by decide), hc, hzc, if_neg (by omega)]
      · rw [if_pos c1, if_neg c2]
        refine fin _ ((hF.up (by omega) (by omega)).up (by omega) (by omega)) (fun q hq => ?_) (fun q hq => ?_) ?_ (fun t ht => ?_)
        · rw [zup_nk hq, zup_ne (by decide)]; exact h5 q hq
        · rw [zup_ne (by decide), zup_nk (by omega)]; exact h4 q hq
        · rw [zup_eq, hzc, if_pos (by omega)]
        · rw [zup_ne (by decide)]; exact e4 t ht
    · rw [if_neg c1]
      refine fin _ (hF.up (by omega) (by omega)) (fun q hq => ?_) (fun q hq => ?_) ?_ e4
      · rw [zup_ne (by decide)]; exact h5 q hq
      · rw [zup_nk (by omega)]; exact h4 q hq
      · rw [zup_ne (by decide), hc, hzc, if_neg (fun q => c1 q.1)]
end WRM
