/-! the functions that the methods are: answers or nothing -/
def zSat {α : Type} (o : Option α) (P : α → Prop) : Prop := match o with
  | some x => P x
  | none => False
def zgd {α : Type} (c : Prop) [Decidable c] (k : Option α) : Option α := if c then k else none
def zbd {α β : Type} (o : Option α) (k : α → Option β) : Option β := match o with
  | some x => k x
  | none => none
def zbd2 {α γ β : Type} (o : Option (α × γ)) (k : α → γ → Option β) : Option β := match o with
  | some x => k x.1 x.2
  | none => none
def zel {α β γ : Type} (e : α ⊕ β) (f : α → γ) (g : β → γ) : γ := match e with
  | .inl x => f x
  | .inr x => g x
theorem zs_gd {α : Type} {c : Prop} [Decidable c] {k : Option α} {P : α → Prop} (h : zSat (zgd c k) P) : c ∧ zSat k P := by
  unfold zgd at h
  by_cases hc : c
  · rw [if_pos hc] at h; exact ⟨hc, h⟩
  · rw [if_neg hc] at h; exact h.elim
theorem zs_t {α : Type} {c : Prop} [Decidable c] {a b : Option α} {P : α → Prop} (h : zSat (if c then a else b) P) (hc : c) : zSat a P := by rw [if_pos hc] at h; exact h
theorem zs_f {α : Type} {c : Prop} [Decidable c] {a b : Option α} {P : α → Prop} (h : zSat (if c then a else b) P) (hc : ¬ c) : zSat b P := by rw [if_neg hc] at h; exact h
theorem zs_b {α β : Type} {o : Option α} {k : α → Option β} {P : β → Prop} (h : zSat (zbd o k) P) : zSat o (fun x => zSat (k x) P) := by
  cases o with
  | none => exact h
  | some x => exact h
theorem zs_b2 {α γ β : Type} {o : Option (α × γ)} {k : α → γ → Option β} {P : β → Prop} (h : zSat (zbd2 o k) P) : zSat o (fun x => zSat (k x.1 x.2) P) := by
  cases o with
  | none => exact h
  | some x => exact h
theorem zs_m {α : Type} {o : Option α} {P P' : α → Prop} (h : zSat o P) (g : ∀ x, P x → P' x) : zSat o P' := by
  cases o with
  | none => exact h
  | some x => exact g x h
def zitN {S E : Type} (f : S → Option (S ⊕ E)) : Nat → S → Option E
  | 0, _ => none
  | n + 1, s => match f s with
    | none => none
    | some (.inl s') => zitN f n s'
    | some (.inr e) => some e
theorem zitN_mono {S E : Type} {f : S → Option (S ⊕ E)} : ∀ {n : Nat} {s : S} {e : E}, zitN f n s = some e → zitN f (n + 1) s = some e
  | 0, _, _, h => by cases h
  | n + 1, s, e, h => by
    unfold zitN at h ⊢
    cases hf : f s with
    | none => rw [hf] at h; cases h
    | some x =>
      rw [hf] at h
      cases x with
      | inl s' => exact zitN_mono h
      | inr e' => exact h
theorem zitN_le {S E : Type} {f : S → Option (S ⊕ E)} {n k : Nat} {s : S} {e : E} (h : zitN f n s = some e) (hk : n ≤ k) : zitN f k s = some e := by
  induction hk with
  | refl => exact h
  | step _ ih => exact zitN_mono ih
noncomputable def zit {S E : Type} (f : S → Option (S ⊕ E)) (s : S) : Option E := @dite _ (∃ n, (zitN f n s).isSome = true) (Classical.propDecidable _) (fun h => zitN f (Classical.choose h) s) (fun _ => none)
theorem zit_iff {S E : Type} {f : S → Option (S ⊕ E)} {s : S} {e : E} : zit f s = some e ↔ ∃ n, zitN f n s = some e := by
  unfold zit
  constructor
  · intro h
    split at h
    · exact ⟨_, h⟩
    · cases h
  · rintro ⟨n, hn⟩
    have hx : ∃ n, (zitN f n s).isSome = true := ⟨n, by rw [hn]; rfl⟩
    rw [dif_pos hx]
    obtain ⟨e', he'⟩ := Option.isSome_iff_exists.mp (Classical.choose_spec hx)
    have h1 := zitN_le he' (Nat.le_max_left _ n)
    have h2 := zitN_le hn (Nat.le_max_right (Classical.choose hx) n)
    rw [he', ← h1, h2]
/-- a round of a loop -/
theorem zit_eq {S E : Type} (f : S → Option (S ⊕ E)) (s : S) : zit f s = match f s with
    | none => none
    | some (.inl s') => zit f s'
    | some (.inr e) => some e := by
  cases hf : f s with
  | none =>
    cases hz : zit f s with
    | none => rfl
    | some e =>
      obtain ⟨n, hn⟩ := zit_iff.mp hz
      cases n with
      | zero => cases hn
      | succ n => unfold zitN at hn; rw [hf] at hn; cases hn
  | some x =>
    cases x with
    | inl s' =>
      show zit f s = zit f s'
      cases hz : zit f s' with
      | some e =>
        obtain ⟨n, hn⟩ := zit_iff.mp hz
        exact zit_iff.mpr ⟨n + 1, by unfold zitN; rw [hf]; exact hn⟩
      | none =>
        cases hy : zit f s with
        | none => rfl
        | some e =>
          obtain ⟨n, hn⟩ := zit_iff.mp hy
          cases n with
          | zero => cases hn
          | succ n =>
            unfold zitN at hn; rw [hf] at hn
            rw [zit_iff.mpr ⟨n, hn⟩] at hz
            cases hz
    | inr e => exact zit_iff.mpr ⟨1, by unfold zitN; rw [hf]⟩
theorem zit_ind {S E : Type} {f : S → Option (S ⊕ E)} {Vh : S → Prop} {K : E → Prop} (step : ∀ (s : S) (P : S ⊕ E → Prop), zSat (f s) P → (∀ s', P (.inl s') → Vh s') → (∀ e, P (.inr e) → K e) → Vh s) : ∀ (n : Nat) (s : S) (e : E), zitN f n s = some e → K e → Vh s
  | 0, _, _, h, _ => by cases h
  | n + 1, s, e, h, hk => by
    unfold zitN at h
    cases hf : f s with
    | none => rw [hf] at h; cases h
    | some x =>
      rw [hf] at h
      refine step s (fun y => y = x) (by rw [hf]; exact rfl) (fun s' hs' => ?_) (fun e' he' => ?_)
      · subst hs'; exact zit_ind step n s' e h hk
      · subst he'; cases h; exact hk
theorem zV_loop {S E α : Type} {f : S → Option (S ⊕ E)} {k : E → Option α} {P : α → Prop} {Vh : S → Prop} {s0 : S} (h : zSat (zbd (zit f s0) k) P) (step : ∀ (s : S) (P' : S ⊕ E → Prop), zSat (f s) P' → (∀ s', P' (.inl s') → Vh s') → (∀ e, P' (.inr e) → zSat (k e) P) → Vh s) : Vh s0 := by
  have h := zs_b h
  cases hz : zit f s0 with
  | none => rw [hz] at h; exact h.elim
  | some e =>
    rw [hz] at h
    obtain ⟨n, hn⟩ := zit_iff.mp hz
    exact zit_ind step n s0 e hn h
theorem z64_32 {x : Int} (h : z32 x) : z64 x := ⟨by have := h.1; omega, by have := h.2; omega⟩
theorem zlt_b {o : Nat} (h : o < 900) : o < 1000 := by omega
theorem zlt_o {o k : Nat} (h : o < 900) (hk : k < 100) : o + k < 1000 := by omega
section ZL
variable {y : zMI} {n kc ks : Nat} {Z : zZ} {pc : Nat} {ls : List (Nat × zAV)} {st : List zAV} {M : zMem} {Q : Option zAV → zMem → zZ → Prop}
theorem zV_if (C : Prop) (kt : C → zV y n kc ks Z pc ls st M Q) (kf : ¬ C → zV y n kc ks Z pc ls st M Q) : zV y n kc ks Z pc ls st M Q := (Classical.em C).elim kt kf
theorem zV_wn (p : Nat) {x : Int} {st' : List zAV} (hx : st[p]? = some (zI x)) (hs : st.set p (zI (zw x)) = st') (k : zV y n kc ks Z pc ls st' M Q) : zV y n kc ks Z pc ls st M Q := by
  subst hs
  have hm : ∀ ad : Nat → Nat, (st.set p (zI (zw x))).map (zcv ad) = st.map (zcv ad) := by
    intro ad
    rw [List.map_set]
    have e : zcv ad (zI (zw x)) = zcv ad (zI x) := congrArg Value.int (zw_of x)
    rw [e]
    apply List.ext_getElem?
    intro i
    rw [List.getElem?_set]
    by_cases hi : p = i
    · subst hi
      obtain ⟨hlt, -⟩ := List.getElem?_eq_some_iff.mp hx
      rw [if_pos rfl, if_pos (by rw [List.length_map]; exact hlt), List.getElem?_map, hx]; rfl
    · rw [if_neg hi]
  refine zV_mv (fun h _ v hv => ?_) (fun p l e R s m args below meth c H locs cells slots A D ad la Qf E Wd S hl w => by rw [hm ad] at w; exact w) k
  rcases List.mem_or_eq_of_mem_set hv with h1 | h1
  · exact h v h1
  · subst h1; trivial
theorem zV_wnl (p : Nat) {x : Int} {st' : List zAV} (hx : st[p]? = some (zL x)) (hs : st.set p (zL (zwl x)) = st') (k : zV y n kc ks Z pc ls st' M Q) : zV y n kc ks Z pc ls st M Q := by
  subst hs
  have hm : ∀ ad : Nat → Nat, (st.set p (zL (zwl x))).map (zcv ad) = st.map (zcv ad) := by
    intro ad
    rw [List.map_set]
    have e : zcv ad (zL (zwl x)) = zcv ad (zL x) := congrArg Value.long (zwl_of x)
    rw [e]
    apply List.ext_getElem?
    intro i
    rw [List.getElem?_set]
    by_cases hi : p = i
    · subst hi
      obtain ⟨hlt, -⟩ := List.getElem?_eq_some_iff.mp hx
      rw [if_pos rfl, if_pos (by rw [List.length_map]; exact hlt), List.getElem?_map, hx]; rfl
    · rw [if_neg hi]
  refine zV_mv (fun h _ v hv => ?_) (fun p l e R s m args below meth c H locs cells slots A D ad la Qf E Wd S hl w => by rw [hm ad] at w; exact w) k
  rcases List.mem_or_eq_of_mem_set hv with h1 | h1
  · exact h v h1
  · subst h1; trivial
/-- tableswitch, to one of its targets -/
theorem zV_tsw {dflt lo hi : Int} {offs : Array Int} {len : Nat} {x : Int} (tgt : Nat) (hd : decode y.2.1 pc = .ok (.tableswitch dflt lo hi offs, len)) (hx : z32 x) (h : (¬ x < lo ∧ ¬ hi < x) ∧ (offs[(x - lo).toNat]?).map (fun o => (pc : Int) + o) = some (tgt : Int)) (k : zV y n kc ks Z tgt ls st M Q) : zV y n kc ks Z pc ls (zI x :: st) M Q := by
  have e : (Int32.ofInt x).toInt = x := zw_id hx
  obtain ⟨off, h1, h2⟩ := Option.map_eq_some_iff.mp h.2
  exact zV_mv (fun g _ => zl_t g) (fun p l e1 R s m args below meth c H locs cells slots A D ad la Qf E Wd S hl w => lv_tableIn (off := off) (tgt := tgt) E.1 E.2.1 hd (by rw [e]; exact h.1.1) (by rw [e]; exact h.1.2) (by rw [e]; exact h1) h2 w) k
theorem zV_tswd {dflt lo hi : Int} {offs : Array Int} {len : Nat} {x : Int} (tgt : Nat) (hd : decode y.2.1 pc = .ok (.tableswitch dflt lo hi offs, len)) (hx : z32 x) (h : ((x < lo ∨ hi < x) ∧ (pc : Int) + dflt = (tgt : Int)) ∨ ((¬ x < lo ∧ ¬ hi < x) ∧ (offs[(x - lo).toNat]?).map (fun o => (pc : Int) + o) = some (tgt : Int))) (k : zV y n kc ks Z tgt ls st M Q) : zV y n kc ks Z pc ls (zI x :: st) M Q := by
  have e : (Int32.ofInt x).toInt = x := zw_id hx
  rcases h with h | h
  · exact zV_mv (fun g _ => zl_t g) (fun p l e1 R s m args below meth c H locs cells slots A D ad la Qf E Wd S hl w => lv_tableOut (tgt := tgt) E.1 E.2.1 hd (by rw [e]; exact h.1) h.2 w) k
  · exact zV_tsw tgt hd hx h k
/-- lookupswitch -/
theorem zV_lsw {dflt : Int} {ps : Array (Int × Int)} {len : Nat} {x : Int} (tgt : Nat) (hd : decode y.2.1 pc = .ok (.lookupswitch dflt ps, len)) (hp : (ps.toList.zip (ps.toList.drop 1)).all (fun (a, next) => a.1 < next.1) = true) (hx : z32 x) (h : (pc : Int) + Op.lookupswitch.offset ps.toList dflt x = (tgt : Int)) (k : zV y n kc ks Z tgt ls st M Q) : zV y n kc ks Z pc ls (zI x :: st) M Q := by
  have e : (Int32.ofInt x).toInt = x := zw_id hx
  exact zV_mv (fun g _ => zl_t g) (fun p l e1 R s m args below meth c H locs cells slots A D ad la Qf E Wd S hl w => lv_lookup (tgt := tgt) E.1 E.2.1 hd hp rfl (by rw [e]; exact h) w) k
theorem zlc_c (a b : Int) : (a < b ∧ (if a < b then (-1 : Int) else if a = b then 0 else 1) = -1) ∨ (a = b ∧ (if a < b then (-1 : Int) else if a = b then 0 else 1) = 0) ∨ (b < a ∧ (if a < b then (-1 : Int) else if a = b then 0 else 1) = 1) := by
  by_cases h1 : a < b
  · exact Or.inl ⟨h1, if_pos h1⟩
  · by_cases h2 : a = b
    · exact Or.inr (Or.inl ⟨h2, by rw [if_neg h1, if_pos h2]⟩)
    · exact Or.inr (Or.inr ⟨by omega, by rw [if_neg h1, if_neg h2]⟩)
theorem zV_lifeq {a b off : Int} (tgt : Nat) (hd : decode y.2.1 pc = .ok (.ifCond .eq off, 3)) (ht : (pc : Int) + off = (tgt : Int)) (kt : a = b → zV y n kc ks Z tgt ls st M Q) (kf : ¬ a = b → zV y n kc ks Z (pc + 3) ls st M Q) : zV y n kc ks Z pc ls (zI (if a < b then -1 else if a = b then 0 else 1) :: st) M Q := by
  have hq := zlc_c a b
  generalize (if a < b then (-1 : Int) else if a = b then 0 else 1) = v at hq ⊢
  exact zV_if_eq tgt hd ht ⟨by omega, by omega⟩ (fun h => kt (by omega)) (fun h => kf (by omega))
theorem zV_lifne {a b off : Int} (tgt : Nat) (hd : decode y.2.1 pc = .ok (.ifCond .ne off, 3)) (ht : (pc : Int) + off = (tgt : Int)) (kt : ¬ a = b → zV y n kc ks Z tgt ls st M Q) (kf : a = b → zV y n kc ks Z (pc + 3) ls st M Q) : zV y n kc ks Z pc ls (zI (if a < b then -1 else if a = b then 0 else 1) :: st) M Q := by
  have hq := zlc_c a b
  generalize (if a < b then (-1 : Int) else if a = b then 0 else 1) = v at hq ⊢
  exact zV_if_ne tgt hd ht ⟨by omega, by omega⟩ (fun h => kt (by omega)) (fun h => kf (by omega))
theorem zV_liflt {a b off : Int} (tgt : Nat) (hd : decode y.2.1 pc = .ok (.ifCond .lt off, 3)) (ht : (pc : Int) + off = (tgt : Int)) (kt : a < b → zV y n kc ks Z tgt ls st M Q) (kf : ¬ a < b → zV y n kc ks Z (pc + 3) ls st M Q) : zV y n kc ks Z pc ls (zI (if a < b then -1 else if a = b then 0 else 1) :: st) M Q := by
  have hq := zlc_c a b
  generalize (if a < b then (-1 : Int) else if a = b then 0 else 1) = v at hq ⊢
  exact zV_if_lt tgt hd ht ⟨by omega, by omega⟩ (fun h => kt (by omega)) (fun h => kf (by omega))
theorem zV_lifge {a b off : Int} (tgt : Nat) (hd : decode y.2.1 pc = .ok (.ifCond .ge off, 3)) (ht : (pc : Int) + off = (tgt : Int)) (kt : b ≤ a → zV y n kc ks Z tgt ls st M Q) (kf : ¬ b ≤ a → zV y n kc ks Z (pc + 3) ls st M Q) : zV y n kc ks Z pc ls (zI (if a < b then -1 else if a = b then 0 else 1) :: st) M Q := by
  have hq := zlc_c a b
  generalize (if a < b then (-1 : Int) else if a = b then 0 else 1) = v at hq ⊢
  exact zV_if_ge tgt hd ht ⟨by omega, by omega⟩ (fun h => kt (by omega)) (fun h => kf (by omega))
theorem zV_lifgt {a b off : Int} (tgt : Nat) (hd : decode y.2.1 pc = .ok (.ifCond .gt off, 3)) (ht : (pc : Int) + off = (tgt : Int)) (kt : b < a → zV y n kc ks Z tgt ls st M Q) (kf : ¬ b < a → zV y n kc ks Z (pc + 3) ls st M Q) : zV y n kc ks Z pc ls (zI (if a < b then -1 else if a = b then 0 else 1) :: st) M Q := by
  have hq := zlc_c a b
  generalize (if a < b then (-1 : Int) else if a = b then 0 else 1) = v at hq ⊢
  exact zV_if_gt tgt hd ht ⟨by omega, by omega⟩ (fun h => kt (by omega)) (fun h => kf (by omega))
theorem zV_lifle {a b off : Int} (tgt : Nat) (hd : decode y.2.1 pc = .ok (.ifCond .le off, 3)) (ht : (pc : Int) + off = (tgt : Int)) (kt : a ≤ b → zV y n kc ks Z tgt ls st M Q) (kf : ¬ a ≤ b → zV y n kc ks Z (pc + 3) ls st M Q) : zV y n kc ks Z pc ls (zI (if a < b then -1 else if a = b then 0 else 1) :: st) M Q := by
  have hq := zlc_c a b
  generalize (if a < b then (-1 : Int) else if a = b then 0 else 1) = v at hq ⊢
  exact zV_if_le tgt hd ht ⟨by omega, by omega⟩ (fun h => kt (by omega)) (fun h => kf (by omega))
theorem zV_cVI {α : Type} {y' : zMI} {n' na idx : Nat} {i ci : Nat} {ksl : List Int} {T : u_T} {N : Nat} {As st0 : List zAV} {f : Option Int} {k : Int → Option α} {P : α → Prop} (hc : zCV y.1.cls idx y' na) (hz : Z i = some (.inl (ci, ksl))) (hcl : vwCl[ci]? = some (y'.1.cls, T, N)) (hd : decode y.2.1 pc = .ok (.invokevirtual idx, 3)) (hn : n' + 1 ≤ n) (hna : As.length = na) (hL : ((zR i :: As).map zcat).sum ≤ y'.2.2.1) (hst : (st.map zcat).sum ≤ 8) (hs0 : st0 = As.reverse ++ zR i :: st) (h : zSat (zbd f k) P)
    (hok : ∀ Q' : Option zAV → zMem → zZ → Prop, zSat f (fun r => Q' (some (zI r)) M Z) → zV y' n' 0 0 Z 0 (zent 0 (zR i :: As)) [] M Q') (kk : ∀ r : Int, z32 r → (y'.2.2.2 = some .boolean → r = 0 ∨ r = 1) → zSat (k r) P → zV y n 0 0 Z (pc + 3) ls (zI r :: st) M Q) : zV y n 0 0 Z pc ls st0 M Q := by
  refine zV_callV (kc := 0) (ks := 0) (mc := 0) (ms := 0) (Q' := fun o M' Z' => ∃ r : Int, o = some (zI r) ∧ M' = M ∧ Z' = Z ∧ zSat (k r) P) hc hz hcl hd hn hna hL hst hs0 (hok _ (zs_m (zs_b h) (fun x hx => ⟨x, rfl, rfl, rfl, hx⟩))) ?_
  intro r M1 Z1 hcan hq
  obtain ⟨x, rfl, rfl, rfl, hx⟩ := hq
  exact kk x hcan.1 hcan.2 hx
theorem zV_cVIm {α : Type} {y' : zMI} {n' na idx : Nat} {i ci : Nat} {ksl : List Int} {T : u_T} {N : Nat} {As st0 : List zAV} {f : Option (Int × zMem)} {k : Int → zMem → Option α} {P : α → Prop} (hc : zCV y.1.cls idx y' na) (hz : Z i = some (.inl (ci, ksl))) (hcl : vwCl[ci]? = some (y'.1.cls, T, N)) (hd : decode y.2.1 pc = .ok (.invokevirtual idx, 3)) (hn : n' + 1 ≤ n) (hna : As.length = na) (hL : ((zR i :: As).map zcat).sum ≤ y'.2.2.1) (hst : (st.map zcat).sum ≤ 8) (hs0 : st0 = As.reverse ++ zR i :: st) (h : zSat (zbd2 f k) P)
    (hok : ∀ Q' : Option zAV → zMem → zZ → Prop, zSat f (fun r => Q' (some (zI r.1)) r.2 Z) → zV y' n' 0 0 Z 0 (zent 0 (zR i :: As)) [] M Q') (kk : ∀ (r : Int) (M1 : zMem), z32 r → (y'.2.2.2 = some .boolean → r = 0 ∨ r = 1) → zSat (k r M1) P → zV y n 0 0 Z (pc + 3) ls (zI r :: st) M1 Q) : zV y n 0 0 Z pc ls st0 M Q := by
  refine zV_callV (kc := 0) (ks := 0) (mc := 0) (ms := 0) (Q' := fun o M' Z' => ∃ (r : Int), o = some (zI r) ∧ Z' = Z ∧ zSat (k r M') P) hc hz hcl hd hn hna hL hst hs0 (hok _ (zs_m (zs_b2 h) (fun x hx => ⟨x.1, rfl, rfl, hx⟩))) ?_
  intro r M1 Z1 hcan hq
  obtain ⟨x, rfl, rfl, hx⟩ := hq
  exact kk x M1 hcan.1 hcan.2 hx
theorem zV_cVL {α : Type} {y' : zMI} {n' na idx : Nat} {i ci : Nat} {ksl : List Int} {T : u_T} {N : Nat} {As st0 : List zAV} {f : Option Int} {k : Int → Option α} {P : α → Prop} (hc : zCV y.1.cls idx y' na) (hz : Z i = some (.inl (ci, ksl))) (hcl : vwCl[ci]? = some (y'.1.cls, T, N)) (hd : decode y.2.1 pc = .ok (.invokevirtual idx, 3)) (hn : n' + 1 ≤ n) (hna : As.length = na) (hL : ((zR i :: As).map zcat).sum ≤ y'.2.2.1) (hst : (st.map zcat).sum ≤ 8) (hs0 : st0 = As.reverse ++ zR i :: st) (hlong : y'.2.2.2 = some .long) (h : zSat (zbd f k) P)
    (hok : ∀ Q' : Option zAV → zMem → zZ → Prop, zSat f (fun r => Q' (some (zL r)) M Z) → zV y' n' 0 0 Z 0 (zent 0 (zR i :: As)) [] M Q') (kk : ∀ r : Int, z64 r → (y'.2.2.2 = some .boolean → r = 0 ∨ r = 1) → zSat (k r) P → zV y n 0 0 Z (pc + 3) ls (zL r :: st) M Q) : zV y n 0 0 Z pc ls st0 M Q := by
  refine zV_callV (kc := 0) (ks := 0) (mc := 0) (ms := 0) (Q' := fun o M' Z' => ∃ r : Int, o = some (zL r) ∧ M' = M ∧ Z' = Z ∧ zSat (k r) P) hc hz hcl hd hn hna hL hst hs0 (hok _ (zs_m (zs_b h) (fun x hx => ⟨x, rfl, rfl, rfl, hx⟩))) ?_
  intro r M1 Z1 hcan hq
  obtain ⟨x, rfl, rfl, rfl, hx⟩ := hq
  exact kk x hcan (fun hq => absurd hq (by rw [hlong]; decide)) hx
theorem zV_cVLm {α : Type} {y' : zMI} {n' na idx : Nat} {i ci : Nat} {ksl : List Int} {T : u_T} {N : Nat} {As st0 : List zAV} {f : Option (Int × zMem)} {k : Int → zMem → Option α} {P : α → Prop} (hc : zCV y.1.cls idx y' na) (hz : Z i = some (.inl (ci, ksl))) (hcl : vwCl[ci]? = some (y'.1.cls, T, N)) (hd : decode y.2.1 pc = .ok (.invokevirtual idx, 3)) (hn : n' + 1 ≤ n) (hna : As.length = na) (hL : ((zR i :: As).map zcat).sum ≤ y'.2.2.1) (hst : (st.map zcat).sum ≤ 8) (hs0 : st0 = As.reverse ++ zR i :: st) (hlong : y'.2.2.2 = some .long) (h : zSat (zbd2 f k) P)
    (hok : ∀ Q' : Option zAV → zMem → zZ → Prop, zSat f (fun r => Q' (some (zL r.1)) r.2 Z) → zV y' n' 0 0 Z 0 (zent 0 (zR i :: As)) [] M Q') (kk : ∀ (r : Int) (M1 : zMem), z64 r → (y'.2.2.2 = some .boolean → r = 0 ∨ r = 1) → zSat (k r M1) P → zV y n 0 0 Z (pc + 3) ls (zL r :: st) M1 Q) : zV y n 0 0 Z pc ls st0 M Q := by
  refine zV_callV (kc := 0) (ks := 0) (mc := 0) (ms := 0) (Q' := fun o M' Z' => ∃ (r : Int), o = some (zL r) ∧ Z' = Z ∧ zSat (k r M') P) hc hz hcl hd hn hna hL hst hs0 (hok _ (zs_m (zs_b2 h) (fun x hx => ⟨x.1, rfl, rfl, hx⟩))) ?_
  intro r M1 Z1 hcan hq
  obtain ⟨x, rfl, rfl, hx⟩ := hq
  exact kk x M1 hcan (fun hq => absurd hq (by rw [hlong]; decide)) hx
theorem zV_cVV {α : Type} {y' : zMI} {n' na idx : Nat} {i ci : Nat} {ksl : List Int} {T : u_T} {N : Nat} {As st0 : List zAV} {f : Option zMem} {k : zMem → Option α} {P : α → Prop} (hc : zCV y.1.cls idx y' na) (hz : Z i = some (.inl (ci, ksl))) (hcl : vwCl[ci]? = some (y'.1.cls, T, N)) (hd : decode y.2.1 pc = .ok (.invokevirtual idx, 3)) (hn : n' + 1 ≤ n) (hna : As.length = na) (hL : ((zR i :: As).map zcat).sum ≤ y'.2.2.1) (hst : (st.map zcat).sum ≤ 8) (hs0 : st0 = As.reverse ++ zR i :: st) (h : zSat (zbd f k) P)
    (hok : ∀ Q' : Option zAV → zMem → zZ → Prop, zSat f (fun r => Q' none r Z) → zV y' n' 0 0 Z 0 (zent 0 (zR i :: As)) [] M Q') (kk : ∀ (M1 : zMem), zSat (k M1) P → zV y n 0 0 Z (pc + 3) ls st M1 Q) : zV y n 0 0 Z pc ls st0 M Q := by
  refine zV_callV (kc := 0) (ks := 0) (mc := 0) (ms := 0) (Q' := fun o M' Z' => o = none ∧ Z' = Z ∧ zSat (k M') P) hc hz hcl hd hn hna hL hst hs0 (hok _ (zs_m (zs_b h) (fun x hx => ⟨rfl, rfl, hx⟩))) ?_
  intro r M1 Z1 hcan hq
  obtain ⟨rfl, rfl, hx⟩ := hq
  exact kk M1 hx
theorem zV_cSI {α : Type} {y' : zMI} {n' na idx : Nat} {As st0 : List zAV} {f : Option Int} {k : Int → Option α} {P : α → Prop} (hc : zCS y.1.cls idx y' na) (hd : decode y.2.1 pc = .ok (.invokestatic idx, 3)) (hn : n' + 1 ≤ n) (hna : As.length = na) (hL : (As.map zcat).sum ≤ y'.2.2.1) (hst : (st.map zcat).sum ≤ 8) (hs0 : st0 = As.reverse ++ st) (h : zSat (zbd f k) P)
    (hok : ∀ Q' : Option zAV → zMem → zZ → Prop, zSat f (fun r => Q' (some (zI r)) M Z) → zV y' n' 0 0 Z 0 (zent 0 As) [] M Q') (kk : ∀ r : Int, z32 r → (y'.2.2.2 = some .boolean → r = 0 ∨ r = 1) → zSat (k r) P → zV y n 0 0 Z (pc + 3) ls (zI r :: st) M Q) : zV y n 0 0 Z pc ls st0 M Q := by
  refine zV_callS (kc := 0) (ks := 0) (mc := 0) (ms := 0) (Q' := fun o M' Z' => ∃ r : Int, o = some (zI r) ∧ M' = M ∧ Z' = Z ∧ zSat (k r) P) hc hd hn hna hL hst hs0 (hok _ (zs_m (zs_b h) (fun x hx => ⟨x, rfl, rfl, rfl, hx⟩))) ?_
  intro r M1 Z1 hcan hq
  obtain ⟨x, rfl, rfl, rfl, hx⟩ := hq
  exact kk x hcan.1 hcan.2 hx
theorem zV_cSIm {α : Type} {y' : zMI} {n' na idx : Nat} {As st0 : List zAV} {f : Option (Int × zMem)} {k : Int → zMem → Option α} {P : α → Prop} (hc : zCS y.1.cls idx y' na) (hd : decode y.2.1 pc = .ok (.invokestatic idx, 3)) (hn : n' + 1 ≤ n) (hna : As.length = na) (hL : (As.map zcat).sum ≤ y'.2.2.1) (hst : (st.map zcat).sum ≤ 8) (hs0 : st0 = As.reverse ++ st) (h : zSat (zbd2 f k) P)
    (hok : ∀ Q' : Option zAV → zMem → zZ → Prop, zSat f (fun r => Q' (some (zI r.1)) r.2 Z) → zV y' n' 0 0 Z 0 (zent 0 As) [] M Q') (kk : ∀ (r : Int) (M1 : zMem), z32 r → (y'.2.2.2 = some .boolean → r = 0 ∨ r = 1) → zSat (k r M1) P → zV y n 0 0 Z (pc + 3) ls (zI r :: st) M1 Q) : zV y n 0 0 Z pc ls st0 M Q := by
  refine zV_callS (kc := 0) (ks := 0) (mc := 0) (ms := 0) (Q' := fun o M' Z' => ∃ (r : Int), o = some (zI r) ∧ Z' = Z ∧ zSat (k r M') P) hc hd hn hna hL hst hs0 (hok _ (zs_m (zs_b2 h) (fun x hx => ⟨x.1, rfl, rfl, hx⟩))) ?_
  intro r M1 Z1 hcan hq
  obtain ⟨x, rfl, rfl, hx⟩ := hq
  exact kk x M1 hcan.1 hcan.2 hx
theorem zV_cSL {α : Type} {y' : zMI} {n' na idx : Nat} {As st0 : List zAV} {f : Option Int} {k : Int → Option α} {P : α → Prop} (hc : zCS y.1.cls idx y' na) (hd : decode y.2.1 pc = .ok (.invokestatic idx, 3)) (hn : n' + 1 ≤ n) (hna : As.length = na) (hL : (As.map zcat).sum ≤ y'.2.2.1) (hst : (st.map zcat).sum ≤ 8) (hs0 : st0 = As.reverse ++ st) (hlong : y'.2.2.2 = some .long) (h : zSat (zbd f k) P)
    (hok : ∀ Q' : Option zAV → zMem → zZ → Prop, zSat f (fun r => Q' (some (zL r)) M Z) → zV y' n' 0 0 Z 0 (zent 0 As) [] M Q') (kk : ∀ r : Int, z64 r → (y'.2.2.2 = some .boolean → r = 0 ∨ r = 1) → zSat (k r) P → zV y n 0 0 Z (pc + 3) ls (zL r :: st) M Q) : zV y n 0 0 Z pc ls st0 M Q := by
  refine zV_callS (kc := 0) (ks := 0) (mc := 0) (ms := 0) (Q' := fun o M' Z' => ∃ r : Int, o = some (zL r) ∧ M' = M ∧ Z' = Z ∧ zSat (k r) P) hc hd hn hna hL hst hs0 (hok _ (zs_m (zs_b h) (fun x hx => ⟨x, rfl, rfl, rfl, hx⟩))) ?_
  intro r M1 Z1 hcan hq
  obtain ⟨x, rfl, rfl, rfl, hx⟩ := hq
  exact kk x hcan (fun hq => absurd hq (by rw [hlong]; decide)) hx
theorem zV_cSLm {α : Type} {y' : zMI} {n' na idx : Nat} {As st0 : List zAV} {f : Option (Int × zMem)} {k : Int → zMem → Option α} {P : α → Prop} (hc : zCS y.1.cls idx y' na) (hd : decode y.2.1 pc = .ok (.invokestatic idx, 3)) (hn : n' + 1 ≤ n) (hna : As.length = na) (hL : (As.map zcat).sum ≤ y'.2.2.1) (hst : (st.map zcat).sum ≤ 8) (hs0 : st0 = As.reverse ++ st) (hlong : y'.2.2.2 = some .long) (h : zSat (zbd2 f k) P)
    (hok : ∀ Q' : Option zAV → zMem → zZ → Prop, zSat f (fun r => Q' (some (zL r.1)) r.2 Z) → zV y' n' 0 0 Z 0 (zent 0 As) [] M Q') (kk : ∀ (r : Int) (M1 : zMem), z64 r → (y'.2.2.2 = some .boolean → r = 0 ∨ r = 1) → zSat (k r M1) P → zV y n 0 0 Z (pc + 3) ls (zL r :: st) M1 Q) : zV y n 0 0 Z pc ls st0 M Q := by
  refine zV_callS (kc := 0) (ks := 0) (mc := 0) (ms := 0) (Q' := fun o M' Z' => ∃ (r : Int), o = some (zL r) ∧ Z' = Z ∧ zSat (k r M') P) hc hd hn hna hL hst hs0 (hok _ (zs_m (zs_b2 h) (fun x hx => ⟨x.1, rfl, rfl, hx⟩))) ?_
  intro r M1 Z1 hcan hq
  obtain ⟨x, rfl, rfl, hx⟩ := hq
  exact kk x M1 hcan (fun hq => absurd hq (by rw [hlong]; decide)) hx
theorem zV_cSV {α : Type} {y' : zMI} {n' na idx : Nat} {As st0 : List zAV} {f : Option zMem} {k : zMem → Option α} {P : α → Prop} (hc : zCS y.1.cls idx y' na) (hd : decode y.2.1 pc = .ok (.invokestatic idx, 3)) (hn : n' + 1 ≤ n) (hna : As.length = na) (hL : (As.map zcat).sum ≤ y'.2.2.1) (hst : (st.map zcat).sum ≤ 8) (hs0 : st0 = As.reverse ++ st) (h : zSat (zbd f k) P)
    (hok : ∀ Q' : Option zAV → zMem → zZ → Prop, zSat f (fun r => Q' none r Z) → zV y' n' 0 0 Z 0 (zent 0 As) [] M Q') (kk : ∀ (M1 : zMem), zSat (k M1) P → zV y n 0 0 Z (pc + 3) ls st M1 Q) : zV y n 0 0 Z pc ls st0 M Q := by
  refine zV_callS (kc := 0) (ks := 0) (mc := 0) (ms := 0) (Q' := fun o M' Z' => o = none ∧ Z' = Z ∧ zSat (k M') P) hc hd hn hna hL hst hs0 (hok _ (zs_m (zs_b h) (fun x hx => ⟨rfl, rfl, hx⟩))) ?_
  intro r M1 Z1 hcan hq
  obtain ⟨rfl, rfl, hx⟩ := hq
  exact kk M1 hx
end ZL
