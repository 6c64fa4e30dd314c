section ZN
def zfr (M : zMem) (i : Nat) (v : Int) : zMem := fun a b => if a = i then v else M a b
theorem zfr_ne {M : zMem} {i a : Nat} {v b : Int} (h : a ≠ i) : zfr M i v a b = M a b := by unfold zfr; rw [if_neg h]
theorem zfr_eq {M : zMem} {i : Nat} {v b : Int} : zfr M i v i b = v := by unfold zfr; rw [if_pos rfl]
theorem zuz_ne {Z : zZ} {i a : Nat} {h : zSh} (g : a ≠ i) : zuz Z i h a = Z a := by unfold zuz; rw [if_neg g]
theorem zuz_eq {Z : zZ} {i : Nat} {h : zSh} : zuz Z i h i = some h := by unfold zuz; rw [if_pos rfl]
theorem zkan.mono {Z Z' : zZ} (hal : ∀ i : Nat, (Z i).isSome = true → (Z' i).isSome = true) {kd x : Int} (hx : zkan Z kd x) : zkan Z' kd x := by
  unfold zkan at hx ⊢
  split
  · rw [if_pos (by assumption)] at hx; exact hx
  · rw [if_neg (by assumption)] at hx
    split
    · rw [if_pos (by assumption)] at hx; exact hx
    · rw [if_neg (by assumption)] at hx
      split
      · rw [if_pos (by assumption)] at hx; exact hx.imp id (hal _)
      · rw [if_neg (by assumption)] at hx; exact hal _ hx
theorem zean.mono {Z Z' : zZ} (hal : ∀ i : Nat, (Z i).isSome = true → (Z' i).isSome = true) {t : Nat} {x : Int} (hx : zean Z t x) : zean Z' t x := by
  unfold zean at hx ⊢
  split
  · rw [if_pos (by assumption)] at hx; exact hx
  · rw [if_neg (by assumption)] at hx
    split
    · rw [if_pos (by assumption)] at hx; exact hx.imp id (hal _)
    · rw [if_neg (by assumption)] at hx; exact hx
theorem zsv.ad {Z Z' : zZ} {ad ad' : Nat → Nat} (he : zExt Z ad Z' ad') {kd x : Int} (hx : zkan Z kd x) : zsv ad' kd x = zsv ad kd x := by
  unfold zkan at hx
  unfold zsv zrv
  split
  · rfl
  · rw [if_neg (by assumption)] at hx
    split
    · rfl
    · rw [if_neg (by assumption)] at hx
      split
      · rw [if_pos (by assumption)] at hx
        split
        · rfl
        · rcases hx with h | h
          · contradiction
          · rw [(he.1 _ h).2]
      · rw [if_neg (by assumption)] at hx
        rw [(he.1 _ hx).2]
theorem zev.ad {Z Z' : zZ} {ad ad' : Nat → Nat} (he : zExt Z ad Z' ad') {t : Nat} {x : Int} (hx : zean Z t x) : zev ad' t x = zev ad t x := by
  unfold zean at hx
  unfold zev zrv
  split
  · rfl
  · rw [if_neg (by assumption)] at hx
    split
    · rw [if_pos (by assumption)] at hx
      split
      · rfl
      · rcases hx with h | h
        · contradiction
        · rw [(he.1 _ h).2]
    · rfl
theorem zarrV_congr {cA : ClassId} {n : Nat} {f g : Nat → Value} (h : ∀ j : Nat, j < n → f j = g j) : arrV cA n f = arrV cA n g := by
  unfold arrV
  congr 2
  funext j
  exact h j.val j.isLt
/-- a cell, seen from a larger world -/
theorem zcell.grow {s : State} {D : va_G} {Z Z' : zZ} {ad ad' : Nat → Nat} {M M' : zMem} {H H' : Heap} {i : Nat} {h : zSh} (g : zcell s D Z ad M H i h) (he : zExt Z ad Z' ad') (hi : (Z i).isSome = true) (hM : ∀ k : Int, M' i k = M i k) (hH : H'[ad i]? = H[ad i]?) : zcell s D Z' ad' M' H' i h := by
  have hal : ∀ i : Nat, (Z i).isSome = true → (Z' i).isSome = true := fun i hi => (he.1 i hi).1
  have hai : ad' i = ad i := (he.1 i hi).2
  rcases h with ⟨ci, ks⟩ | ⟨t, n⟩
  · obtain ⟨⟨r, h1, h2, h3⟩, h4⟩ := g
    refine ⟨⟨r, h1, h2, ?_⟩, fun k hk => by rw [hM]; exact (h4 k hk).mono hal⟩
    rw [hai]
    refine (h3.kept hH).to (fun k hk => ?_)
    rw [hM, zsv.ad he (h4 k (by omega))]
  · intro ht
    obtain ⟨⟨cell, h1, h2, h3, h4, h5, h6⟩, h7, h8⟩ := g ht
    refine ⟨⟨cell, by rw [hai, hH]; exact h1, h2, fun q => ?_, h4, h5, fun j hj => by rw [hM, zev.ad he (h8 j hj)]; exact h6 j hj⟩, h7, fun j hj => by rw [hM]; exact (h8 j hj).mono hal⟩
    have e := h3 q
    rw [e]
    exact zarrV_congr (fun j hj => by rw [hM, zev.ad he (h8 j hj)])
/-- the world with a new cell -/
theorem zWd.add {s : State} {D : va_G} {Z : zZ} {ad : Nat → Nat} {M M' : zMem} {A : Nat → Prop} {H H' : Heap} {i : Nat} {h : zSh} (g : zWd s D Z ad M A H) (hi : i < 1000) (hz : Z i = none) (hsz : H'.size = H.size + 1) (ho : ∀ q : Nat, q < H.size → H'[q]? = H[q]?) (hA : A H.size) (hM : ∀ (a : Nat) (b : Int), a ≠ i → M' a b = M a b)
    (hc : zcell s D (zuz Z i h) (zua ad i H.size) M' H' i h) : zWd s D (zuz Z i h) (zua ad i H.size) M' A H' ∧ zExt Z ad (zuz Z i h) (zua ad i H.size) := by
  have hne : ∀ j : Nat, (Z j).isSome = true → j ≠ i := fun j hj e => by subst e; rw [hz] at hj; cases hj
  have hE : zExt Z ad (zuz Z i h) (zua ad i H.size) := by
    refine ⟨fun j hj => ⟨?_, ?_⟩, fun j hj => ?_⟩
    · rw [zuz_ne (hne j hj)]; exact hj
    · unfold zua; rw [if_neg (hne j hj)]
    · unfold zua; rw [if_neg (by omega)]
  have back : ∀ (j : Nat) (g' : zSh), zuz Z i h j = some g' → (j = i ∧ zua ad i H.size j = H.size) ∨ (j ≠ i ∧ Z j = some g' ∧ zua ad i H.size j = ad j) := by
    intro j g' hj
    by_cases e : j = i
    · left; subst e; exact ⟨rfl, by unfold zua; rw [if_pos rfl]⟩
    · right; rw [zuz_ne e] at hj; exact ⟨e, hj, by unfold zua; rw [if_neg e]⟩
  refine ⟨⟨fun j g' hj => ?_, fun a b ga gb ha1 ha hb hq hab => ?_, fun j g' hj hj1 => ?_, fun j g' hj hq => ?_⟩, hE⟩
  · by_cases e : j = i
    · subst e
      rw [zuz_eq] at hj
      cases hj
      exact hc
    · rw [zuz_ne e] at hj
      by_cases eo : g' = .inr (9, 0)
      · subst eo
        intro q
        exact absurd q (by decide)
      · exact (g.1 j g' hj).grow hE (by rw [hj]; rfl) (fun k => hM j k e) (ho _ (g.2.2.2 j g' hj (Or.inr eo)))
  · rcases back a ga ha with ⟨e1, e2⟩ | ⟨e1, e2, e3⟩ <;> rcases back b gb hb with ⟨f1, f2⟩ | ⟨f1, f2, f3⟩
    · rw [e1, f1]
    · rw [e2, f3] at hab; have := g.2.2.2 b gb f2 hq; omega
    · rw [e3, f2] at hab; have := g.2.2.2 a ga e2 (Or.inl ha1); omega
    · rw [e3, f3] at hab; exact g.2.1 a b ga gb ha1 e2 f2 hq hab
  · rcases back j g' hj with ⟨e1, e2⟩ | ⟨e1, e2, e3⟩
    · rw [e2]; exact hA
    · rw [e3]; exact g.2.2.1 j g' e2 hj1
  · rcases back j g' hj with ⟨e1, e2⟩ | ⟨e1, e2, e3⟩
    · rw [e2]; omega
    · rw [e3]; have := g.2.2.2 j g' e2 hq; omega
end ZN
section ZNR
variable {y : zMI} {n kc ks : Nat} {Z : zZ} {pc : Nat} {ls : List (Nat × zAV)} {st : List zAV} {M : zMem} {Q : Option zAV → zMem → zZ → Prop}
/-- behind a making -/
theorem zV_made {i ln : Nat} {h : zSh} {kc' ks' : Nat} {M' : zMem} {p : Program} {l : Launch} {e : Env} {R : Room} {s : State} {m : MethodId} {args : Array Value} {below : List Frame} {meth : Method} {c : Code} {H H' : Heap} {locs : List Loc} {cells slots : Nat} {A : Nat → Prop} {D : va_G} {ad : Nat → Nat} {la : Array Slot} {Qf : State → Prop}
    (kk : zV y n kc ks (zuz Z i h) (pc + ln) ls (zR i :: st) M' Q) (hi : i < 1000) (E : zEnv y n (kc + kc') (ks + ks') p R s m args meth c cells slots A D ad) (Wd : zWd s D Z ad M A H) (S : va_S A s.heap H locs) (hl : lv_has la y.2.2.1 (ls.map fun q => (q.1, zcv ad q.2))) (h1 : ∀ q ∈ ls, zlive Z q.2) (h2 : ∀ v ∈ st, zlive Z v)
    (hr : zHr y (kc + kc') (ks + ks') Z ad Q p l e R s m args below meth c cells slots A D Qf) (hz : Z i = none) (hsz : H'.size = H.size + 1) (ho : ∀ q : Nat, q < H.size → H'[q]? = H[q]?) (hM : ∀ (a : Nat) (b : Int), a ≠ i → M' a b = M a b) (hc : zcell s D (zuz Z i h) (zua ad i H.size) M' H' i h) :
    W p l e R s m args below meth c H' locs (cells + kc') (slots + ks') Qf (F0 m (pc + ln) la (.ref H.size :: st.map (zcv ad))) := by
  obtain ⟨x1, x2, x3, x4, x5, x6, x7, x8, x9, x10, x11, x12, x13, x14⟩ := E
  obtain ⟨hW, hE⟩ := Wd.add hi hz hsz ho (x11 _ S.1) hM hc
  have hls : (ls.map fun q => (q.1, zcv (zua ad i H.size) q.2)) = ls.map fun q => (q.1, zcv ad q.2) := List.map_congr_left fun q hq => by rw [(hE.cv (h1 q hq)).1]
  have hst : st.map (zcv (zua ad i H.size)) = st.map (zcv ad) := List.map_congr_left fun v hv => (hE.cv (h2 v hv)).1
  have w := kk p l e R s m args below meth c H' locs (cells + kc') (slots + ks') A D (zua ad i H.size) la Qf ⟨x1, x2, x3, x4, x5, x6, x7, x8, by omega, by omega, x11, x12, x13, x14.ad hE.2⟩ hW
    ⟨Nat.le_trans S.1 (by omega), fun q g1 g2 => (ho q (Nat.lt_of_lt_of_le g1 S.1)).trans (S.2.1 q g1 g2), S.2.2⟩ (by rw [hls]; exact hl) (fun q hq => (hE.cv (h1 q hq)).2)
    (zl_1 (by show (zuz Z i h i).isSome = true; rw [zuz_eq]; rfl) (fun v hv => (hE.cv (h2 v hv)).2)) (fun r2 M2 Z2 ad2 H2 locs2 c2 s2 pc2 la2 g1 g2 g3 g4 g5 => hr r2 M2 Z2 ad2 H2 locs2 c2 s2 pc2 la2 (hE.tr g1) g2 g3 (by omega) (by omega))
  rw [List.map_cons, hst] at w
  have e0 : zcv (zua ad i H.size) (zR i) = .ref H.size := by show Value.ref (zua ad i H.size i) = _; unfold zua; rw [if_pos rfl]
  rw [e0] at w
  exact w
/-- newarray -/
theorem zV_newa {i k t : Nat} {aty : ArrayType} (hty : newarray.typeOf aty = zty t) (ht : t ≤ 3) (harr : Cond.arrayClass (zty t) ∈ zT) (hi : i < 1000) (hz : Z i = none) (hk : k < 100000) (hd : decode y.2.1 pc = .ok (.newarray aty, 2)) (kk : zV y n kc ks (zuz Z i (.inr (t, k))) (pc + 2) ls (zR i :: st) (zfr M i 0) Q) : zV y n (kc + 1) (ks + k) Z pc ls (zI k :: st) M Q := by
  intro p l e R s m args below meth c H locs cells slots A D ad la Qf E Wd S hl h1 h2 hr
  obtain ⟨x1, x2, x3, x4, x5, x6, x7, x8, x9, x10, x11, x12, x13, x14⟩ := id E
  have e1 : (Int32.ofInt k).toInt = k := zw_id ⟨by omega, by omega⟩
  have hcb : componentBytes (zty t) ≤ 8 := by
    rcases (show t = 0 ∨ t = 1 ∨ t = 2 ∨ t = 3 by omega) with rfl | rfl | rfl | rfl <;> decide
  refine W.newaK x1 x2 (by rw [hty]; exact x5 _ harr) rfl hd (n := Int32.ofInt k) (N := k) (rest := st.map (zcv ad)) rfl (fun q => ?_) (by show (Int32.ofInt k).toInt.toNat = k; rw [e1]; omega) (by rw [hty]; exact Nat.le_trans (Nat.mul_le_mul_left k hcb) (by omega)) (by omega) (by omega) rfl fun H' cA f1 f2 f3 f4 => ?_
  · rw [Int32.lt_iff_toInt_lt, e1] at q
    have : (0 : Int32).toInt = 0 := rfl
    omega
  · refine zV_made (kc' := 1) (ks' := k) kk hi E Wd S hl h1 (zl_t h2) hr hz f2 f3 (fun a b hab => zfr_ne hab) ?_
    rw [hty] at f1 f4
    have ed : ∀ j : Nat, defaultValue (zty t) = zev (zua ad i H.size) t (zfr M i 0 i j) := by
      intro j
      rw [zfr_eq]
      rcases (show t = 0 ∨ t = 1 ∨ t = 2 ∨ t = 3 by omega) with rfl | rfl | rfl | rfl <;> rfl
    have ea : zua ad i H.size i = H.size := by unfold zua; rw [if_pos rfl]
    have ec : arrV cA k (fun _ => defaultValue (zty t)) = arrV cA k (fun j => zev (zua ad i H.size) t (zfr M i 0 i j)) := zarrV_congr (fun j _ => ed j)
    intro _
    refine ⟨⟨arrV cA k (fun _ => defaultValue (zty t)), by rw [ea]; exact f1, ⟨f4 _ _, fun q => (by omega)⟩, fun _ => ec, fun q => (by cases q), arrV_size _ _ _, fun j hj => by rw [arrV_read _ _ hj, ed j]⟩, by omega, fun j hj => ?_⟩
    rw [zfr_eq]
    unfold zean
    rcases (show t = 0 ∨ t = 1 ∨ t = 2 ∨ t = 3 by omega) with rfl | rfl | rfl | rfl
    · exact z32_0
    · exact ⟨by decide, by decide⟩
    · exact Or.inl rfl
    · exact z64_0
/-- anewarray -/
theorem zV_newq {i k t idx : Nat} {C : String} (hC : zty t = .object C) (ht : t = 4 ∨ t = 5) (hcl : Cond.classLink y.1.cls idx C ∈ zT) (hov : C = "GlassSpindle$Setup" ∨ C = "GlassSpindle$Piece") (hi : i < 1000) (hz : Z i = none) (hk : k < 100000) (hd : decode y.2.1 pc = .ok (.anewarray idx, 3)) (kk : zV y n kc ks (zuz Z i (.inr (t, k))) (pc + 3) ls (zR i :: st) (zfr M i (-1)) Q) : zV y n (kc + 1) (ks + k) Z pc ls (zI k :: st) M Q := by
  intro p l e R s m args below meth c H locs cells slots A D ad la Qf E Wd S hl h1 h2 hr
  obtain ⟨x1, x2, x3, x4, x5, x6, x7, x8, x9, x10, x11, x12, x13, x14⟩ := id E
  have e1 : (Int32.ofInt k).toInt = k := zw_id ⟨by omega, by omega⟩
  have e2 : (Int32.ofInt k).toNatClampNeg = k := by show (Int32.ofInt k).toInt.toNat = k; rw [e1]; omega
  have hao : va_AO C s := by
    obtain ⟨-, -, -, -, -, -, -, g8, g9⟩ := x14
    rcases hov with rfl | rfl
    · exact g8
    · exact g9
  refine W.anew x1 x2 x4 (x5 _ hcl) (va_AO.use hao) rfl hd (n := Int32.ofInt k) (rest := st.map (zcv ad)) rfl (fun q => ?_) (by rw [e2]; omega) (by omega) (by rw [e2]; omega) fun cA kA comp f1 f2 f3 f4 => ?_
  · rw [Int32.lt_iff_toInt_lt, e1] at q
    have : (0 : Int32).toInt = 0 := rfl
    omega
  · rw [e2]
    have z1 : (H.push ({ cls := cA, slots := Array.replicate k .null, vm := .none } : Cell)).size = H.size + 1 := by rw [Array.size_push]
    have g1 : (H.push ({ cls := cA, slots := Array.replicate k .null, vm := .none } : Cell))[H.size]? = some (arrV cA k (fun _ => .null)) := by rw [Array.getElem?_push_size, ← arrV_new]
    have o1 : ∀ q : Nat, q < H.size → (H.push ({ cls := cA, slots := Array.replicate k .null, vm := .none } : Cell))[q]? = H[q]? := fun q hq => by rw [Array.getElem?_push, if_neg (Nat.ne_of_lt hq)]
    refine zV_made (kc' := 1) (ks' := k) kk hi E Wd S hl h1 (zl_t h2) hr hz z1 o1 (fun a b hab => zfr_ne hab) ?_
    have ed : ∀ j : Nat, (.null : Value) = zev (zua ad i H.size) t (zfr M i (-1) i j) := by
      intro j
      rw [zfr_eq]
      rcases ht with rfl | rfl <;> rfl
    have ea : zua ad i H.size i = H.size := by unfold zua; rw [if_pos rfl]
    intro _
    refine ⟨⟨arrV cA k (fun _ => .null), by rw [ea]; exact g1, ?_, fun _ => zarrV_congr (fun j _ => ed j), fun q => (by cases q), arrV_size _ _ _, fun j hj => by rw [arrV_read _ _ hj, ed j]⟩, by omega, fun j hj => ?_⟩
    · exact ⟨by rw [hC]; exact ⟨fun k h => (by cases h), kA, f2, comp, f3⟩, fun _ => by rw [hC]; exact ⟨kA, comp, f2, f3, f4, f1⟩⟩
    · rw [zfr_eq]
      unfold zean
      rcases ht with rfl | rfl <;> exact Or.inl (by decide)
/-- kinds of a class's slots as they are made -/
def zraw (tys : List Nat) : List Int := tys.map fun t => if t = 0 then -1 else if t = 1 then -2 else -3
/-- new: a class of the tables; its slots' kinds, with no reference set yet -/
theorem zV_newo {i ci idx N : Nat} {C : String} {T : u_T} {ty0 : Nat → FieldType} {raw : List Int} {M' : zMem} (hcl : vwCl[ci]? = some (C, T, N)) (hin : ∀ w ∈ u_ws C T N, w ∈ zT) (hty : ∀ k, k < N → parseFieldDescriptor (T k).2.2.1 = some (ty0 k)) (hlk : Cond.classLink y.1.cls idx C ∈ zT) (hins : Cond.instantiable C N ∈ zT) (hini : Cond.initialized C ∈ zT) (hi : i < 1000) (hz : Z i = none) (hlen : raw.length = N)
    (hraw : ∀ k, k < N → (raw.getD k (-1) = -1 ∨ raw.getD k (-1) = -2 ∨ raw.getD k (-1) = -3) ∧ ∀ ad : Nat → Nat, defaultValue (ty0 k) = zsv ad (raw.getD k (-1)) (M' i k)) (hkan : ∀ k : Nat, k < N → zkan Z (raw.getD k (-1)) (M' i k)) (hM : ∀ (a : Nat) (b : Int), a ≠ i → M' a b = M a b) (hd : decode y.2.1 pc = .ok (.new idx, 3)) (kk : zV y n kc ks (zuz Z i (.inl (ci, raw))) (pc + 3) ls (zR i :: st) M' Q) : zV y n (kc + 1) (ks + N) Z pc ls st M Q := by
  intro p l e R s m args below meth c H locs cells slots A D ad la Qf E Wd S hl h1 h2 hr
  obtain ⟨x1, x2, x3, x4, x5, x6, x7, x8, x9, x10, x11, x12, x13, x14⟩ := id E
  have hKn := x6.1 ci _ hcl
  refine W.newcK x1 x2 x4 (x5 _ hlk) (x5 _ hins) (x5 _ hini) rfl hd (by omega) (by omega) hKn.2.1 rfl fun H1 kC hkC e1 z1 o1 => ?_
  refine zV_made (kc' := 1) (ks' := N) kk hi E Wd S hl h1 h2 hr hz z1 o1 hM ?_
  have ea : zua ad i H.size i = H.size := by unfold zua; rw [if_pos rfl]
  have hal : ∀ j : Nat, (Z j).isSome = true → (zuz Z i (.inl (ci, raw)) j).isSome = true := by
    intro j hj
    by_cases e : j = i
    · subst e; rw [zuz_eq]; rfl
    · rw [zuz_ne e]; exact hj
  refine ⟨⟨_, hcl, hlen.symm, ?_⟩, fun k hk => (hkan k (by omega)).mono hal⟩
  rw [ea]
  exact (u_born ty0 x5 hin hKn hkC e1 hty).to (fun k hk => (hraw k hk).2 _)
end ZNR
