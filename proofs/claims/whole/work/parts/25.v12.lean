section ZQ
variable {y : zMI} {n kc ks : Nat} {Z : zZ} {pc : Nat} {ls : List (Nat × zAV)} {st : List zAV} {M : zMem} {Q : Option zAV → zMem → zZ → Prop}
theorem zty_ref {t : Nat} (ht : t = 4 ∨ t = 5) : (zty t).isReference = true := by rcases ht with rfl | rfl <;> rfl
/-- a reference is read out of a row -/
theorem zV_aaldR {i t n0 c : Nat} {j : Int} (hz : Z i = some (.inr (t, n0))) (ht : t = 4 ∨ t = 5) (hj : 0 ≤ j ∧ j < n0) (hv : M i j = (c : Int)) (hd : decode y.2.1 pc = .ok (.aaload, 1)) (kk : (Z c).isSome = true → zV y n kc ks Z (pc + 1) ls (zR c :: st) M Q) : zV y n kc ks Z pc ls (zI j :: zR i :: st) M Q := by
  intro p l e R s m args below meth c0 H locs cells slots A D ad la Qf E Wd S hl h1 h2 hr
  obtain ⟨⟨cell, q1, q2, q3, q4, q5, q6⟩, q7, q8⟩ := Wd.1 i _ hz (by rcases ht with rfl | rfl <;> decide)
  obtain ⟨c1, c2, c3, c4⟩ := zclamp q7 hj.1 hj.2
  have hk := q8 j.toNat c4
  have hvv := q6 j.toNat c4
  rw [c3] at hk hvv
  have e1 : zev ad t (M i j) = .ref (ad c) := by
    rw [hv]
    unfold zev zrv
    rcases ht with rfl | rfl
    · rw [if_neg (by decide), if_pos (Or.inl rfl), if_neg (by omega)]; rfl
    · rw [if_neg (by decide), if_pos (Or.inr rfl), if_neg (by omega)]; rfl
  have hal : (Z c).isSome = true := by
    rw [hv] at hk
    unfold zean at hk
    rcases ht with rfl | rfl
    · rw [if_neg (by decide), if_pos (Or.inl rfl)] at hk
      rcases hk with h | h
      · omega
      · exact h
    · rw [if_neg (by decide), if_pos (Or.inr rfl)] at hk
      rcases hk with h | h
      · omega
      · exact h
  refine W.aald E.1 E.2.1 (v := .ref (ad c)) (rest := st.map (zcv ad)) q1 q2.1 (zty_ref ht) q4 (by rw [q5]; exact c2) (by rw [c1, ← e1]; exact hvv) rfl rfl hd ?_
  exact kk hal p l e R s m args below meth c0 H locs cells slots A D ad la Qf E Wd S hl h1 (zl_1 hal (zl_t (zl_t h2))) hr
theorem zV_aaldN {i t n0 : Nat} {j : Int} (hz : Z i = some (.inr (t, n0))) (ht : t = 4 ∨ t = 5) (hj : 0 ≤ j ∧ j < n0) (hv : M i j < 0) (hd : decode y.2.1 pc = .ok (.aaload, 1)) (kk : zV y n kc ks Z (pc + 1) ls (zN :: st) M Q) : zV y n kc ks Z pc ls (zI j :: zR i :: st) M Q := by
  intro p l e R s m args below meth c0 H locs cells slots A D ad la Qf E Wd S hl h1 h2 hr
  obtain ⟨⟨cell, q1, q2, q3, q4, q5, q6⟩, q7, q8⟩ := Wd.1 i _ hz (by rcases ht with rfl | rfl <;> decide)
  obtain ⟨c1, c2, c3, c4⟩ := zclamp q7 hj.1 hj.2
  have hvv := q6 j.toNat c4
  rw [c3] at hvv
  have e1 : zev ad t (M i j) = .null := by
    unfold zev zrv
    rcases ht with rfl | rfl
    · rw [if_neg (by decide), if_pos (Or.inl rfl), if_pos hv]
    · rw [if_neg (by decide), if_pos (Or.inr rfl), if_pos hv]
  refine W.aald E.1 E.2.1 (v := .null) (rest := st.map (zcv ad)) q1 q2.1 (zty_ref ht) q4 (by rw [q5]; exact c2) (by rw [c1, ← e1]; exact hvv) rfl rfl hd ?_
  exact kk p l e R s m args below meth c0 H locs cells slots A D ad la Qf E Wd S hl h1 (zl_1 (by exact trivial) (zl_t (zl_t h2))) hr
/-- a cell is put into a row -/
theorem zV_aast {i t n0 c ci : Nat} {j : Int} {ksl : List Int} {C : String} {T : u_T} {N : Nat} (hz : Z i = some (.inr (t, n0))) (ht : t = 4 ∨ t = 5) (hi : i < 1000) (hj : 0 ≤ j ∧ j < n0) (hzc : Z c = some (.inl (ci, ksl))) (hcl : vwCl[ci]? = some (C, T, N)) (hC : zty t = .object C) (hd : decode y.2.1 pc = .ok (.aastore, 1)) (kk : zV y n kc ks Z (pc + 1) ls st (zup M i j (c : Int)) Q) : zV y n kc ks Z pc ls (zR c :: zI j :: zR i :: st) M Q := by
  intro p l e R s m args below meth c0 H locs cells slots A D ad la Qf E Wd S hl h1 h2 hr
  have ht6 : t ≤ 6 := by omega
  obtain ⟨⟨cell, q1, q2, q3, q4, q5, q6⟩, q7, q8⟩ := Wd.1 i _ hz ht6
  obtain ⟨c1, c2, c3, c4⟩ := zclamp q7 hj.1 hj.2
  obtain ⟨⟨r', g1, g2, cellV, v1, v2, v3, -⟩, -⟩ := Wd.1 c _ hzc
  cases hcl.symm.trans g1
  have hcls := (E.2.2.2.2.2.1.1 ci _ hcl).2
  have hRA := q2.2 ht
  rw [hC] at hRA
  obtain ⟨kA, comp, k1, k2, k3, -⟩ := hRA
  have hcomp : comp = D.1 ci := Option.some.inj (k3.symm.trans hcls.1)
  subst hcomp
  obtain ⟨kC, hkC, -⟩ := hcls.2
  refine W.aast E.1 E.2.1 (rest := st.map (zcv ad)) q1 q2.1.1 q4 k1 k2 rfl hkC ⟨fun q => c2 (Or.inl q), by rw [c1, q5]; exact c4⟩ v1 (fun q h => by rw [v3] at h; cases h) (by rw [v2]; exact hkC) (by rw [v2]; exact va_assign hcls) rfl rfl hd fun H' e1 e2 e3 => ?_
  rw [c1] at e1 ⊢
  have ev : (.ref (ad c) : Value) = zev ad t (c : Int) := by
    unfold zev zrv
    rcases ht with rfl | rfl
    · rw [if_neg (by decide), if_pos (Or.inl rfl), if_neg (by omega)]; rfl
    · rw [if_neg (by decide), if_pos (Or.inr rfl), if_neg (by omega)]; rfl
  rw [ev] at e1
  refine kk p l e R s m args below meth c0 H' _ cells slots A D ad la Qf E (Wd.sta hz ht6 hi hj.1 hj.2 ?_ q1 e1 e2 e3) (S.put e2 e3 (Wd.2.2.1 i _ hz hi)) hl h1 (zl_t (zl_t (zl_t h2))) hr
  unfold zean
  rcases ht with rfl | rfl
  · rw [if_neg (by decide), if_pos (Or.inl rfl)]
    right
    show (Z c).isSome = true
    rw [hzc]; rfl
  · rw [if_neg (by decide), if_pos (Or.inr rfl)]
    right
    show (Z c).isSome = true
    rw [hzc]; rfl
theorem zV_nnR {c : Nat} {off : Int} (tgt : Nat) (hd : decode y.2.1 pc = .ok (.ifnonnull off, 3)) (ht : (pc : Int) + off = (tgt : Int)) (k : zV y n kc ks Z tgt ls st M Q) : zV y n kc ks Z pc ls (zR c :: st) M Q :=
  zV_mv (fun h _ => zl_t h) (fun p l e R s m args below meth c0 H locs cells slots A D ad la Qf E Wd S hl w => lv_ifnonnull E.1 E.2.1 hd ht w) k
theorem zV_nnN {off : Int} (hd : decode y.2.1 pc = .ok (.ifnonnull off, 3)) (k : zV y n kc ks Z (pc + 3) ls st M Q) : zV y n kc ks Z pc ls (zN :: st) M Q :=
  zV_mv (fun h _ => zl_t h) (fun p l e R s m args below meth c0 H locs cells slots A D ad la Qf E Wd S hl w => lv_ifnonnullN E.1 E.2.1 hd w) k
theorem zV_nuR {c : Nat} {off : Int} (hd : decode y.2.1 pc = .ok (.ifnull off, 3)) (k : zV y n kc ks Z (pc + 3) ls st M Q) : zV y n kc ks Z pc ls (zR c :: st) M Q :=
  zV_mv (fun h _ => zl_t h) (fun p l e R s m args below meth c0 H locs cells slots A D ad la Qf E Wd S hl w => lv_ifnull E.1 E.2.1 hd w) k
theorem zV_nuN {off : Int} (tgt : Nat) (hd : decode y.2.1 pc = .ok (.ifnull off, 3)) (ht : (pc : Int) + off = (tgt : Int)) (k : zV y n kc ks Z tgt ls st M Q) : zV y n kc ks Z pc ls (zN :: st) M Q :=
  zV_mv (fun h _ => zl_t h) (fun p l e R s m args below meth c0 H locs cells slots A D ad la Qf E Wd S hl w => lv_ifnullN E.1 E.2.1 hd ht w) k
/-- the static row of settings is cloned, and the clone cast to int[] -/
def zcl (M : zMem) (i : Nat) : zMem := fun a b => if a = i then M 1000 b else M a b
theorem zV_clone {i idx idc : Nat} (hw : Cond.methodLink y.1.cls idx ⟨"[I", "clone", "()Ljava/lang/Object;"⟩ ∈ zT ∧ Cond.sameMethod "[I" "java/lang/Object" "clone" "()Ljava/lang/Object;" ∈ zT ∧ Cond.native ⟨"java/lang/Object", "clone", "()Ljava/lang/Object;"⟩ ∈ zT ∧ Cond.instanceMethod ⟨"java/lang/Object", "clone", "()Ljava/lang/Object;"⟩ ∈ zT ∧ Cond.selects "[I" ⟨"[I", "clone", "()Ljava/lang/Object;"⟩ ⟨"java/lang/Object", "clone", "()Ljava/lang/Object;"⟩ ∈ zT ∧ Cond.classLink y.1.cls idc "[I" ∈ zT) (hcas : Cond.castable "[I" "java/lang/Cloneable" ∈ lw_tbl) (hz0 : Z 1000 = some (.inr (0, 11))) (hi : i < 1000) (hz : Z i = none)
    (hd : decode y.2.1 pc = .ok (.invokevirtual idx, 3)) (hd2 : decode y.2.1 (pc + 3) = .ok (.checkcast idc, 3)) (hn : 1 ≤ n) (hst : (st.map zcat).sum ≤ 8) (kk : zV y n kc ks (zuz Z i (.inr (0, 11))) (pc + 6) ls (zR i :: st) (zcl M i) Q) : zV y n (kc + 1) (ks + 11) Z pc ls (zR 1000 :: st) M Q := by
  intro p l e R s m args below meth c H locs cells slots A D ad la Qf E Wd S hl h1 h2 hr
  obtain ⟨x1, x2, x3, x4, x5, x6, x7, x8, x9, x10, x11, x12, x13, x14⟩ := id E
  obtain ⟨g1, -, -, -, -, -, g7, -⟩ := x14
  obtain ⟨⟨cell, q1, q2, q3, q4, q5, q6⟩, q7, q8⟩ := Wd.1 1000 _ hz0 (by decide)
  obtain ⟨cell0, o1, o2, o3, o4⟩ := g7
  have hlt0 : ad 1000 < s.heap.size := (Array.getElem?_eq_some_iff.mp o1).1
  have hcc : cell0 = cell := by
    have := S.2.1 (ad 1000) hlt0 o4
    rw [o1] at this
    exact (Option.some.inj (this.symm.trans q1).symm).symm ▸ rfl
  subst hcc
  obtain ⟨c0, t0', f1, f2, f3⟩ := Cond.castable_spec (va_Nw.use (A := args) rfl (g1 _ hcas rfl))
  have hci : cell0.cls = c0 := Option.some.inj (o3.symm.trans f1)
  subst hci
  have hzz := zst_s13 (st := st) (ad := ad) hst hn x8
  obtain ⟨p21, kS, hkS, compS, hkindS⟩ := q2.1
  have ecell : ({ cls := cell0.cls, slots := cell0.slots } : Cell) = arrV cell0.cls 11 (fun j => zev ad 0 (M 1000 j)) := by
    unfold arrV
    congr 1
    apply Array.ext_getElem?
    intro j
    by_cases hj : j < 11
    · rw [q6 j hj]
      have := arrV_read cell0.cls (N := 11) (fun j => zev ad 0 (M 1000 j)) hj
      exact this.symm
    · rw [Array.getElem?_eq_none (by omega), Array.getElem?_eq_none (by simp; omega)]
  have key : W p l e R s m args below meth c (H.push (arrV cell0.cls 11 (fun j => zev ad 0 (M 1000 j)))) locs (cells + 1) (slots + 11) Qf (F0 m (pc + 6) la (.ref H.size :: st.map (zcv ad))) := by
    have z1 : (H.push (arrV cell0.cls 11 (fun j => zev ad 0 (M 1000 j)))).size = H.size + 1 := by rw [Array.size_push]
    have e1 : (H.push (arrV cell0.cls 11 (fun j => zev ad 0 (M 1000 j))))[H.size]? = some (arrV cell0.cls 11 (fun j => zev ad 0 (M 1000 j))) := by rw [Array.getElem?_push_size]
    have oo : ∀ q : Nat, q < H.size → (H.push (arrV cell0.cls 11 (fun j => zev ad 0 (M 1000 j))))[q]? = H[q]? := fun q hq => by rw [Array.getElem?_push, if_neg (Nat.ne_of_lt hq)]
    refine zV_made (kc' := 1) (ks' := 11) kk hi E Wd S hl h1 (zl_t h2) hr hz z1 oo (fun a b hab => by unfold zcl; rw [if_neg hab]) ?_
    have ea : zua ad i H.size i = H.size := by unfold zua; rw [if_pos rfl]
    have ev : ∀ j : Nat, zev ad 0 (M 1000 j) = zev (zua ad i H.size) 0 (zcl M i i j) := fun j => by unfold zcl; rw [if_pos rfl]; rfl
    intro _
    refine ⟨⟨arrV cell0.cls 11 (fun j => zev ad 0 (M 1000 j)), by rw [ea]; exact e1, ⟨⟨fun k h => (by cases h), kS, hkS, compS, hkindS⟩, fun q => (by omega)⟩, fun _ => zarrV_congr (fun j _ => ev j), fun q => (by cases q), arrV_size _ _ _, fun j hj => by rw [arrV_read _ _ hj, ev j]⟩, by decide, fun j hj => ?_⟩
    unfold zcl
    rw [if_pos rfl]
    exact q8 j hj
  intro T hT X
  have hkA := State.isArrayOf_alike X.warmed.alike q2.1
  obtain ⟨-, kA, hkA, comp, hkind⟩ := hkA
  obtain ⟨vm', X', stp⟩ := X.cloneArray x1 x4 (x5 _ hw.1) (x5 _ hw.2.1) (x5 _ hw.2.2.1) (x5 _ hw.2.2.2.1) (x5 _ hw.2.2.2.2.1) (a := ad 1000) (cell := cell0) (by rw [hT]; exact q1) p21 q4 o3 f2 f3
    (fun i v hv => by
      have hk' : T.vm.classes[cell0.cls]? = some kA := hkA
      have hi11 : i < 11 := by
        have := (Array.getElem?_eq_some_iff.mp hv).1
        omega
      have e := (q6 i hi11).symm.trans hv
      cases e
      simp [State.fitsSlot, State.slotType?, hk', hkind, zev, zty, fits])
    (g := F0 m pc la (.ref (ad 1000) :: st.map (zcv ad))) rfl (hl.1.trans x3.symm) rfl (by rw [x2]; exact hd) (by omega) (by show 2 * 0 + _ + 14 ≤ _; omega) (by omega) (by rw [q5]; omega) (hloader := Vm.clonesLoader_of_array hkS hkindS)
  rw [ecell, q5] at X'
  rw [ecell] at stp
  have hcast := ((T.setVm vm').pushCell (arrV cell0.cls 11 (fun j => zev ad 0 (M 1000 j))))
  obtain ⟨vm2, X2, st2⟩ := X'.checkcastYes x1 x4 (x5 _ hw.2.2.2.2.2) (a := H.size) (cell := arrV cell0.cls 11 (fun j => zev ad 0 (M 1000 j))) (by show ((T.heap).push _)[H.size]? = _; rw [hT, Array.getElem?_push_size]) (by rfl) o3 (va_asg _ _) (g := F0 m (pc + 3) la (.ref H.size :: st.map (zcv ad))) rfl rfl (by rw [x2]; exact hd2)
  obtain ⟨t, b1, b2⟩ := key _ (by show (T.heap).push _ = _; rw [hT]) X2
  refine ⟨t, stp t ?_, b2⟩
  rw [hT]
  exact st2 t b1
end ZQ
