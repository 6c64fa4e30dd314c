section ZC
variable {y : zMI} {n kc ks : Nat} {Z : zZ} {pc : Nat} {ls : List (Nat × zAV)} {st : List zAV} {M : zMem} {Q : Option zAV → zMem → zZ → Prop}
theorem zV_zast {i n0 : Nat} {j v : Int} (hz : Z i = some (.inr (2, n0))) (hi : i < 1000) (hj : 0 ≤ j ∧ j < n0) (hv : v = 0 ∨ v = 1) (hd : decode y.2.1 pc = .ok (.bastore, 1)) (kk : zV y n kc ks Z (pc + 1) ls st (zup M i j v) Q) : zV y n kc ks Z pc ls (zI v :: zI j :: zR i :: st) M Q := by
  intro p l e R s m args below meth c H locs cells slots A D ad la Qf E Wd S hl h1 h2 hr
  obtain ⟨⟨cell, q1, q2, q3, q4, q5, q6⟩, q7, q8⟩ := Wd.1 i _ hz (by decide)
  obtain ⟨c1, c2, c3, c4⟩ := zclamp q7 hj.1 hj.2
  refine W.zast E.1 E.2.1 (rest := st.map (zcv ad)) q1 q2.1 q4 (by rw [q5]; exact c2) rfl rfl hd fun H' e1 e2 e3 => ?_
  have hn : narrow .boolean (.int (Int32.ofInt v)) = zev ad 2 v := by rcases hv with rfl | rfl <;> rfl
  rw [c1] at e1 ⊢
  rw [hn] at e1
  exact kk p l e R s m args below meth c H' _ cells slots A D ad la Qf E (Wd.sta hz (by decide) hi hj.1 hj.2 hv q1 e1 e2 e3) (S.put e2 e3 (Wd.2.2.1 i _ hz hi)) hl h1 (zl_t (zl_t (zl_t h2))) hr
theorem zchr_r (a : Int) : 0 ≤ zchr a ∧ zchr a < 65536 := by
  unfold zchr
  rw [pk_char, nI_toInt (by omega)]
  omega
theorem zV_cast {i n0 : Nat} {j a : Int} (hz : Z i = some (.inr (1, n0))) (hi : i < 1000) (hj : 0 ≤ j ∧ j < n0) (hd : decode y.2.1 pc = .ok (.castore, 1)) (kk : zV y n kc ks Z (pc + 1) ls st (zup M i j (zchr a)) Q) : zV y n kc ks Z pc ls (zI (zchr a) :: zI j :: zR i :: st) M Q := by
  intro p l e R s m args below meth c H locs cells slots A D ad la Qf E Wd S hl h1 h2 hr
  obtain ⟨⟨cell, q1, q2, q3, q4, q5, q6⟩, q7, q8⟩ := Wd.1 i _ hz (by decide)
  obtain ⟨c1, c2, c3, c4⟩ := zclamp q7 hj.1 hj.2
  refine W.cast E.1 E.2.1 (rest := st.map (zcv ad)) q1 q2.1 q4 (by rw [q5]; exact c2) rfl rfl hd fun H' e1 e2 e3 => ?_
  have hn : narrow .char (.int (Int32.ofInt (zchr a))) = zev ad 1 (zchr a) := by
    have e : Int32.ofInt (zchr a) = ((Int32.ofInt a).toUInt32 % 65536).toInt32 := Int32.ofInt_toInt _
    show narrow .char (.int (Int32.ofInt (zchr a))) = .int (Int32.ofInt (zchr a))
    rw [e]; exact pk_nc _
  rw [c1] at e1 ⊢
  rw [hn] at e1
  exact kk p l e R s m args below meth c H' _ cells slots A D ad la Qf E (Wd.sta hz (by decide) hi hj.1 hj.2 (zchr_r a) q1 e1 e2 e3) (S.put e2 e3 (Wd.2.2.1 i _ hz hi)) hl h1 (zl_t (zl_t (zl_t h2))) hr
theorem zV_alen {i t n0 : Nat} (hz : Z i = some (.inr (t, n0))) (ht : t ≤ 6) (hd : decode y.2.1 pc = .ok (.arraylength, 1)) (kk : zV y n kc ks Z (pc + 1) ls (zI n0 :: st) M Q) : zV y n kc ks Z pc ls (zR i :: st) M Q := by
  intro p l e R s m args below meth c H locs cells slots A D ad la Qf E Wd S hl h1 h2 hr
  obtain ⟨⟨cell, q1, q2, q3, q4, q5, q6⟩, q7, q8⟩ := Wd.1 i _ hz ht
  refine W.alen E.1 E.2.1 (n := Int32.ofInt n0) (rest := st.map (zcv ad)) q1 q2.1 (by rw [q5]; rfl) rfl rfl hd ?_
  exact kk p l e R s m args below meth c H locs cells slots A D ad la Qf E Wd S hl h1 (zl_1 (by exact trivial) (zl_t h2)) hr
/-- what a caller knows of an answer -/
def zcan (ret : Option FieldType) : Option zAV → Prop
  | some (.inl x) => z32 x ∧ (ret = some .boolean → x = 0 ∨ x = 1)
  | some (.inr (.inl x)) => z64 x
  | some (.inr (.inr _)) => False
  | none => True
theorem z01 {x : Int} (h : z32 x) (hn : narrow .boolean (.int (Int32.ofInt x)) = .int (Int32.ofInt x)) : x = 0 ∨ x = 1 := by
  have e : narrow .boolean (.int (Int32.ofInt x)) = .int (Int32.ofInt x &&& 1) := rfl
  rw [e] at hn
  have h1 : Int32.ofInt x &&& 1 = Int32.ofInt x := by injection hn
  obtain ⟨j, hj, hx⟩ := pk_andE (Int32.ofInt x) (m := 1) 1 (by decide)
  rw [h1] at hx
  have hx2 : x = j := by
    have h2 : zw x = (nI j).toInt := congrArg Int32.toInt hx
    rw [zw_id h, nI_toInt (by omega)] at h2
    exact h2
  omega
theorem zRi.can {y : zMI} {pc : Nat} {r : Option zAV} (h : zRi y pc r) : zcan y.2.2.2 r := by
  rcases r with _ | x | x | x
  · trivial
  · obtain ⟨-, h2, ty, h3, h4⟩ := h
    refine ⟨h2, fun q => ?_⟩
    rw [h3] at q
    cases q
    exact z01 h2 h4
  · exact h.2.1
  · exact h
theorem zV_iret {v : Int} {ty : FieldType} (hd : decode y.2.1 pc = .ok (.ireturn, 1)) (hty : y.2.2.2 = some ty) (hn : narrow ty (.int (Int32.ofInt v)) = .int (Int32.ofInt v)) (hv : z32 v) (hq : Q (some (zI v)) M Z) : zV y n kc ks Z pc ls [zI v] M Q := by
  intro p l e R s m args below meth c H locs cells slots A D ad la Qf E Wd S hl h1 h2 hr
  exact hr (some (zI v)) M Z ad H locs cells slots pc la zExt.rf Wd S (by omega) (by omega) hq ⟨hd, hv, ty, hty, hn⟩
theorem zV_ireti {v : Int} (hd : decode y.2.1 pc = .ok (.ireturn, 1)) (hty : y.2.2.2 = some .int) (hv : z32 v) (hq : Q (some (zI v)) M Z) : zV y n kc ks Z pc ls [zI v] M Q := zV_iret hd hty (vp_nar_int _) hv hq
theorem zV_iretb {v : Int} (hd : decode y.2.1 pc = .ok (.ireturn, 1)) (hty : y.2.2.2 = some .boolean) (hv : v = 0 ∨ v = 1) (hq : Q (some (zI v)) M Z) : zV y n kc ks Z pc ls [zI v] M Q :=
  zV_iret hd hty (by rcases hv with rfl | rfl <;> rfl) (by rcases hv with rfl | rfl <;> exact ⟨by decide, by decide⟩) hq
theorem zV_iretc {v : Int} (hd : decode y.2.1 pc = .ok (.ireturn, 1)) (hty : y.2.2.2 = some .char) (hv : 0 ≤ v ∧ v < 65536) (hq : Q (some (zI v)) M Z) : zV y n kc ks Z pc ls [zI v] M Q := by
  refine zV_iret hd hty ?_ ⟨by omega, by omega⟩ hq
  have e : Int32.ofInt v = nI v.toNat := by
    have : (v.toNat : Int) = v := by omega
    rw [nI, ← Int32.ofInt_eq_ofNat, this]
  rw [e]
  exact (pk_charN (by omega)).1
theorem zV_lret {v : Int} (hd : decode y.2.1 pc = .ok (.lreturn, 1)) (hty : y.2.2.2 = some .long) (hv : z64 v) (hq : Q (some (zL v)) M Z) : zV y n kc ks Z pc ls [zL v] M Q := by
  intro p l e R s m args below meth c H locs cells slots A D ad la Qf E Wd S hl h1 h2 hr
  exact hr (some (zL v)) M Z ad H locs cells slots pc la zExt.rf Wd S (by omega) (by omega) hq ⟨hd, hv, hty⟩
theorem zV_vret (hd : decode y.2.1 pc = .ok (.return_, 1)) (hty : y.2.2.2 = none) (hq : Q none M Z) : zV y n kc ks Z pc ls [] M Q := by
  intro p l e R s m args below meth c H locs cells slots A D ad la Qf E Wd S hl h1 h2 hr
  exact hr none M Z ad H locs cells slots pc la zExt.rf Wd S (by omega) (by omega) hq ⟨hd, hty⟩
/-- the locals with which a method begins -/
def zent : Nat → List zAV → List (Nat × zAV)
  | _, [] => []
  | i, v :: vs => (i, v) :: zent (if zcat v = 2 then i + 2 else i + 1) vs
theorem zent_map (ad : Nat → Nat) : ∀ (vs : List zAV) (i : Nat), (zent i vs).map (fun q => (q.1, zcv ad q.2)) = lv_args i (vs.map (zcv ad))
  | [], _ => rfl
  | v :: vs, i => by
    show (i, zcv ad v) :: (zent (if zcat v = 2 then i + 2 else i + 1) vs).map _ = (i, zcv ad v) :: lv_args (if (zcv ad v).category = 2 then i + 2 else i + 1) (vs.map (zcv ad))
    rw [zent_map ad vs, zcat_cv]
theorem zent_live : ∀ (vs : List zAV) (i : Nat), (∀ v ∈ vs, zlive Z v) → ∀ q ∈ zent i vs, zlive Z q.2
  | [], _, _, q, h => nomatch h
  | v :: vs, i, hl, q, h => by
    rcases List.mem_cons.mp h with rfl | h
    · exact hl _ List.mem_cons_self
    · exact zent_live vs _ (fun w hw => hl w (List.mem_cons_of_mem _ hw)) q h
theorem zent_len (ad : Nat → Nat) : ∀ (vs : List zAV), (lg_sl (vs.map (zcv ad))).length = (vs.map zcat).sum
  | [] => rfl
  | v :: vs => by
    have ih := zent_len ad vs
    unfold lg_sl at ih ⊢
    rw [List.map_cons, List.flatMap_cons, List.length_append, ih, zcat_cv, List.map_cons, List.sum_cons]
    rcases v with x | x | _ | i <;> rfl
def zrm (n mc ms : Nat) : Room := { frames := n, cells := mc, slots := ms, locals := 60 * n }
def zPc (D : va_G) (Z : zZ) (ad : Nat → Nat) (M : zMem) (A : Nat → Prop) (As : List zAV) : Array Value → State → Prop := fun v U => v = (As.map (zcv ad)).toArray ∧ zWd U D Z ad M A U.heap ∧ va_K D vwCl [] U ∧ (∀ q : Nat, U.heap.size ≤ q → A q) ∧ zGr ad A U U.heap
def zQc (y : zMI) (D : va_G) (Z : zZ) (ad : Nat → Nat) (A : Nat → Prop) (Q : Option zAV → zMem → zZ → Prop) : Array Value → State → Outcome → State → Prop := fun _ u o t =>
  ∃ (r : Option zAV) (M' : zMem) (Z' : zZ) (ad' : Nat → Nat), o = .returned (r.map (zcv ad')) ∧ Q r M' Z' ∧ zcan y.2.2.2 r ∧ zExt Z ad Z' ad' ∧ zWd t D Z' ad' M' A t.heap ∧ va_F A u t
/-- a method's contract, as the kit has it -/
theorem zV_met {mc ms : Nat} {As : List zAV} (hy : plainName y.1.cls = true) (hV : zV y n mc ms Z 0 (zent 0 As) [] M Q) (hlv : ∀ v ∈ As, zlive Z v) (hL : (As.map zcat).sum ≤ y.2.2.1) (l : Launch) (D : va_G) (ad : Nat → Nat) (A : Nat → Prop) :
    Met l y.1 (Cond.code y.1 y.2.1 y.2.2.1 y.2.2.2 :: zT) (zrm n mc ms) (zPc D Z ad M A As) (zQc y D Z ad A Q) mc ms A := by
  refine Met.ofW (cc := y.2.1) (maxL := y.2.2.1) (ret := y.2.2.2) hy rfl ?_
  intro p e s m args below meth c s₁ B hml hP
  obtain ⟨rfl, hWd, hK, hA, hG⟩ := hP
  have hts := atoms_spec (ws := Cond.code y.1 y.2.1 y.2.2.1 y.2.2.2 :: zT) B.pre
  have hown : s.vm.findClass y.1.cls = some m.cls := findClass_of_methodNamed B.named
  have hl := lv_entry (As.map (zcv ad)) (n := y.2.2.1) (by rw [zent_len]; exact hL)
  rw [lg_entry_eq]
  rw [← zent_map] at hl
  refine hV p l e _ s m _ below meth c s.heap [] 0 0 A D ad _ _ ⟨B.exec, B.bytes, hml, hown, fun w hw => hts w (List.mem_cons_of_mem _ hw), hK, Nat.le_refl _, Nat.le_refl _, ?_, ?_, hA, B.notSynchronized, (name_of_methodNamed B.named B.method).1, hG⟩ hWd va_S.rf hl (zent_live As 0 hlv) (fun v h => nomatch h) ?_
  · show 0 + mc ≤ mc; omega
  · show 0 + ms ≤ ms; omega
  · intro r M' Z' ad' H' locs' cells' slots' pc' la hE hW' hS' hc hs hq hri
    refine W.widen (k := mc) (n := ms) (by omega) (by omega) ?_
    have key : ∀ t : State, t.heap = H' → s.WarmedH t.vm → zQc y D Z ad A Q (As.map (zcv ad)).toArray s (.returned (r.map (zcv ad'))) t := fun t ht hw => ⟨r, M', Z', ad', rfl, hq, hri.can, hE, by rw [ht]; exact hW'.moved hw.alike, hS'.F ht⟩
    rcases r with _ | x | x | x
    · exact W.vret B.exec B.bytes (B.returns.trans hri.2) key hS'.2.2 hri.1 B.notSynchronized
    · obtain ⟨hd, -, ty, hty, hn⟩ := hri
      exact W.zret B.exec B.bytes (B.returns.trans hty) hn key hS'.2.2 hd B.notSynchronized
    · exact W.lret B.exec B.bytes (B.returns.trans hri.2.2) key hS'.2.2 hri.1 B.notSynchronized
    · exact hri.elim
end ZC
