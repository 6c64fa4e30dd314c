/-! MACHINE ROWS, 84: a method that throws, a method that catches -/
/-- what a throw asks of the start -/
def zGx (l : Launch) (A : Nat → Prop) (U : State) (H : Heap) : Prop :=
  l.stackTraces = false ∧ vx_Zq Bundle.tN "UNASSIGNED_STACK" Bundle.steD A U H ∧ vx_Zq Bundle.tN "SUPPRESSED_SENTINEL" Bundle.listD A U H ∧ (∃ sa : Nat, vk_R RX11 201 "no such note lasts then" sa U) ∧ ∃ sa : Nat, vk_R RX11 259 "no such bowl, or no grinding" sa U
theorem zGx.to {l : Launch} {A : Nat → Prop} {s U : State} {H0 H : Heap} (g : zGx l A s H0) (hW : s.WarmedH U.vm) (hq : ∀ a : Nat, a < H0.size → ¬ A a → H[a]? = H0[a]?) : zGx l A U H := by
  obtain ⟨g1, g2, g3, ⟨a, g4⟩, b, g5⟩ := g
  exact ⟨g1, (vx_Zq.moved hW.alike g2).kept hq, (vx_Zq.moved hW.alike g3).kept hq, ⟨a, g4.warm hW⟩, b, g5.warm hW⟩
theorem zGx.same {l : Launch} {A : Nat → Prop} {s U : State} {H : Heap} (g : zGx l A s H) (hv : s.vm = U.vm) : zGx l A U H := by
  have ha : s.vm.Alike U.vm := by rw [hv]; exact Vm.Alike.refl _
  obtain ⟨g1, g2, g3, ⟨a, g4⟩, b, g5⟩ := g
  exact ⟨g1, vx_Zq.moved ha g2, vx_Zq.moved ha g3, ⟨a, g4.same hv.symm⟩, b, g5.same hv.symm⟩
theorem zxat0 : ∀ w ∈ (zOA.filter vx_no).filter goodWord, w ∈ lw_tbl := by decide +kernel
theorem zxat1 : ∀ w ∈ (zOA.filter vx_no).filter (fun w => !goodWord w), zNl w = true ∧ w ∈ lw_tbl := by decide +kernel
theorem zxat2 : ∀ w ∈ Cond.classLink RX11 199 zNE :: Cond.initialized zNE :: zOA.filter vx_no, vx_ot w = true := by decide +kernel
theorem zxat3 : Cond.castable zNE zNE ∈ lw_tbl := by decide +kernel
theorem zxat4 : Cond.classLink RX11 199 zNE ∈ zT := List.mem_filter.mpr ⟨by decide +kernel, by decide +kernel⟩
theorem zxat5 : Cond.initialized zNE ∈ zT := List.mem_filter.mpr ⟨by decide +kernel, by decide +kernel⟩
theorem zxat {args : Array Value} {s : State} (h : ∀ w ∈ zT, w.before args s = true) (hg : ∀ w ∈ lw_tbl, zNl w = true → va_Nw w s) : ∀ w ∈ zOA.filter vx_no, w.before args s = true := by
  intro w hw
  by_cases g : goodWord w = true
  · exact h w (List.mem_filter.mpr ⟨zxat0 w (List.mem_filter.mpr ⟨hw, g⟩), g⟩)
  · obtain ⟨a, b⟩ := zxat1 w (List.mem_filter.mpr ⟨hw, by simpa using g⟩)
    exact va_Nw.use (zNl_tab a) (hg w b a)
/-- a place where the method throws -/
def zTh (l : Launch) (y : zMI) (pc : Nat) : Prop :=
  ∀ (p : Program) (e : Env) (R : Room) (s : State) (m : MethodId) (args : Array Value) (below : List Frame) (meth : Method) (c : Code) (H : Heap) (locs : List Loc) (cells slots : Nat) (A : Nat → Prop) (la : Array Slot) (Qc : Array Value → State → Outcome → State → Prop) (XC : String → State → State → Prop) (mc ms : Nat),
    p.tables.exec = Jvm.exec → c.code = y.2.1 → c.maxLocals = y.2.2.1 → s.vm.findClass y.1.cls = some m.cls → (∀ w ∈ zT, w.before args s = true) → (∀ w ∈ lw_tbl, zNl w = true → va_Nw w s) → zGx l A s s.heap → va_S A s.heap H locs → la.size = y.2.2.1 → (∀ x ∈ c.exceptionTable.toList, False) → 6 ≤ R.frames → 120 ≤ R.locals → cells + 1 ≤ R.cells → slots + 6 ≤ R.slots → meth.locks = false →
    (∀ t : State, s.vm.Alike t.vm → H.size ≤ t.heap.size → (∀ q : Nat, q < H.size → t.heap[q]? = H[q]?) → XC zNE s t) → cells + 1 ≤ mc → slots + 6 ≤ ms → W p l e R s m args below meth c H locs cells slots (vx_MQ below Qc XC args s mc ms A) (F0 m pc la [])
theorem zTh_S {l : Launch} {y : zMI} {pc : Nat} (hy : y.1.cls = RX11) (d0 : decode y.2.1 pc = .ok (.new 199, 3)) (d3 : decode y.2.1 (pc + 3) = .ok (.dup, 1)) (d4 : decode y.2.1 (pc + 4) = .ok (.ldc 201, 2)) (d6 : decode y.2.1 (pc + 6) = .ok (.invokespecial 203, 3)) (d9 : decode y.2.1 (pc + 9) = .ok (.athrow, 1)) : zTh l y pc := by
  intro p e R s m args below meth c H locs cells slots A la Qc XC mc ms h1 h2 h3 h4 h5 h6 hX hS hla htb hf hlo hc1 hs1 hlk hx hc hs
  obtain ⟨g1, g2, g3, ⟨sa, g4⟩, -⟩ := id hX
  rw [hy] at h4
  exact zthrow h1 h2 g1 h4 (h5 _ zxat4) (h5 _ zxat5) g4 (zxat h5 h6) zxat2 g2 g3 hS (hla.trans h3.symm) d0 d3 (Or.inl ⟨d4, rfl⟩) d6 d9 htb (by omega) (by omega) hc1 hs1 hlk hx hS.2.2 hc hs
theorem zTh_W {l : Launch} {y : zMI} {pc : Nat} (hy : y.1.cls = RX11) (d0 : decode y.2.1 pc = .ok (.new 199, 3)) (d3 : decode y.2.1 (pc + 3) = .ok (.dup, 1)) (d4 : decode y.2.1 (pc + 4) = .ok (.ldc_w 259, 3)) (d6 : decode y.2.1 (pc + 7) = .ok (.invokespecial 203, 3)) (d9 : decode y.2.1 (pc + 10) = .ok (.athrow, 1)) : zTh l y pc := by
  intro p e R s m args below meth c H locs cells slots A la Qc XC mc ms h1 h2 h3 h4 h5 h6 hX hS hla htb hf hlo hc1 hs1 hlk hx hc hs
  obtain ⟨g1, g2, g3, -, sa, g4⟩ := id hX
  rw [hy] at h4
  exact zthrow h1 h2 g1 h4 (h5 _ zxat4) (h5 _ zxat5) g4 (zxat h5 h6) zxat2 g2 g3 hS (hla.trans h3.symm) d0 d3 (Or.inr ⟨d4, rfl⟩) d6 d9 htb (by omega) (by omega) hc1 hs1 hlk hx hS.2.2 hc hs
section ZX
variable {X : zCx} {Ex : zEx} {y : zMI} {n kc ks : Nat} {Z : zZ} {pc : Nat} {ls : List (Nat × zAV)} {st : List zAV} {M : zMem} {Q : Option zAV → zMem → zZ → Prop}
def zPX (l : Launch) (D : va_G) (Z : zZ) (ad : Nat → Nat) (M : zMem) (A : Nat → Prop) (As : List zAV) : Array Value → State → Prop := fun v U => zPc D Z ad M A As v U ∧ zGx l A U U.heap
theorem zPX_blind {l : Launch} {D : va_G} {ad : Nat → Nat} {A : Nat → Prop} {As : List zAV} : FrameBlind (zPX l D Z ad M A As) := by
  intro a U g mk h
  exact ⟨zPc_blind a U g mk h.1, zGx.same (s := U) (U := U.calling g mk a) h.2 rfl⟩
theorem zX_pre {l : Launch} {D : va_G} {ad : Nat → Nat} {A : Nat → Prop} {As : List zAV} {s : State} {H : Heap} {locs : List Loc} (Wd : zWd s D Z ad M A H) (S : va_S A s.heap H locs) (hK : va_K D vwCl [] s) (hA : ∀ q : Nat, s.heap.size ≤ q → A q) (hG : zGr ad A s s.heap) (hX : zGx l A s s.heap) : ∀ U : State, U.heap = H → s.WarmedH U.vm → zPX l D Z ad M A As (As.map (zcv ad)).toArray U := fun U hU hW =>
  ⟨zV_pre Wd S hK hA hG U hU hW, hX.to hW (fun a h1 h2 => by rw [hU]; exact S.2.1 a h1 h2)⟩
/-- thrown: the world as it then stands -/
def zXC (D : va_G) (Z : zZ) (ad : Nat → Nat) (A : Nat → Prop) (Q : Option zAV → zMem → zZ → Prop) : String → State → State → Prop := fun E u t =>
  E = zNE ∧ ∃ (M' : zMem) (Z' : zZ) (ad' : Nat → Nat), Q none M' Z' ∧ zExt Z ad Z' ad' ∧ zWd t D Z' ad' M' A t.heap ∧ va_F A u t
theorem zWd.more {s : State} {D : va_G} {ad : Nat → Nat} {A : Nat → Prop} {H H' : Heap} (g : zWd s D Z ad M A H) (hz : H.size ≤ H'.size) (hk : ∀ q : Nat, q < H.size → H'[q]? = H[q]?) : zWd s D Z ad M A H' :=
  ⟨fun i h hi => by
    by_cases eo : h = .inr (9, 0)
    · subst eo
      intro q
      exact absurd q (by decide)
    · exact (g.1 i h hi).kept (fun _ => rfl) (hk _ (g.2.2.2 i h hi (Or.inr eo))), g.2.1, g.2.2.1, fun i h hi hq => Nat.lt_of_lt_of_le (g.2.2.2 i h hi hq) hz⟩
/-- a method that returns, or throws at pcT -/
theorem zX_met {mc ms pcT : Nat} {As : List zAV} {l : Launch} (hy : plainName y.1.cls = true) (hn : 6 ≤ n) (hne : y.2.2.2 ≠ none) (hV : zY (fun _ _ _ _ _ _ _ _ _ _ _ _ _ _ => True) (fun pc r la => pc = pcT ∧ r = none ∧ la.size = y.2.2.1) y n mc ms Z 0 (zent 0 As) [] M Q) (hT : zTh l y pcT) (hlv : ∀ v ∈ As, zlive Z v) (hL : (As.map zcat).sum ≤ y.2.2.1) (D : va_G) (ad : Nat → Nat) (A : Nat → Prop) :
    vx_Met l y.1 (Cond.code y.1 y.2.1 y.2.2.1 y.2.2.2 :: zT) (zrm n (mc + 1) (ms + 6)) (zPX l D Z ad M A As) (zQc y D Z ad A (fun r M' Z' => r ≠ none ∧ Q r M' Z')) (zXC D Z ad A Q) (mc + 1) (ms + 6) A := by
  refine vx_ofW (cc := y.2.1) (maxL := y.2.2.1) (ret := y.2.2.2) hy rfl ?_
  intro p e s m args below meth c s₁ B hml htb hP
  obtain ⟨⟨rfl, hWd, hK, hA, hG⟩, hX⟩ := hP
  have hts := atoms_spec (ws := Cond.code y.1 y.2.1 y.2.2.1 y.2.2.2 :: zT) B.pre
  have hown : s.vm.findClass y.1.cls = some m.cls := findClass_of_methodNamed B.named
  have hl := lv_entry (As.map (zcv ad)) (n := y.2.2.1) (by rw [zent_len]; exact hL)
  rw [lg_entry_eq]
  rw [← zent_map] at hl
  refine hV p l e _ s m _ below meth c s.heap [] 0 0 A D ad _ _ ⟨B.exec, B.bytes, hml, hown, fun w hw => hts w (List.mem_cons_of_mem _ hw), hK, Nat.le_refl _, Nat.le_refl _, ?_, ?_, hA, B.notSynchronized, (name_of_methodNamed B.named B.method).1, hG, trivial⟩ hWd va_S.rf hl (zent_live As 0 hlv) (fun v h => nomatch h) ?_
  · show 0 + mc ≤ mc + 1; omega
  · show 0 + ms ≤ ms + 6; omega
  · intro r M' Z' ad' H' locs' cells' slots' pc' la hE hW' hS' hc hs hq hri
    rcases hri with hri | ⟨rfl, rfl, hla⟩
    · refine vx_ret ?_
      refine W.widen (k := mc + 1) (n := ms + 6) (by omega) (by omega) ?_
      have key : ∀ t : State, t.heap = H' → s.WarmedH t.vm → zQc y D Z ad A (fun r M' Z' => r ≠ none ∧ Q r M' Z') (As.map (zcv ad)).toArray s (.returned (r.map (zcv ad'))) t := fun t ht hw => ⟨r, M', Z', ad', rfl, ⟨fun hr0 => by subst hr0; exact hne hri.2, hq⟩, hri.can, hE, by rw [ht]; exact hW'.moved hw.alike, hS'.F ht⟩
      rcases r with _ | x | x | x
      · exact W.vret B.exec B.bytes (B.returns.trans hri.2) key hS'.2.2 hri.1 B.notSynchronized
      · obtain ⟨hd, -, ty, hty, hn⟩ := hri
        exact W.zret B.exec B.bytes (B.returns.trans hty) hn key hS'.2.2 hd B.notSynchronized
      · exact W.lret B.exec B.bytes (B.returns.trans hri.2.2) key hS'.2.2 hri.1 B.notSynchronized
      · exact hri.elim
    · refine hT p e _ s m _ below meth c H' locs' cells' slots' A la _ _ _ _ B.exec B.bytes hml hown (fun w hw => hts w (List.mem_cons_of_mem _ hw)) hG.1 hX hS' hla htb ?_ ?_ ?_ ?_ B.notSynchronized (fun t hv hz hk => ⟨rfl, M', Z', ad', hq, hE, (hW'.more hz hk).moved hv, Nat.le_trans hS'.1 hz, fun q h1 h2 => by rw [hk q (Nat.lt_of_lt_of_le h1 hS'.1)]; exact hS'.2.1 q h1 h2⟩) (by omega) (by omega)
      · show 6 ≤ n; exact hn
      · show 120 ≤ 60 * n; omega
      · show cells' + 1 ≤ mc + 1; omega
      · show slots' + 6 ≤ ms + 6; omega
/-- what a method with a table knows -/
def zXw (hh : List (Nat × Nat × Nat × Nat)) : zCx := fun _ l _ _ s _ _ _ _ c A _ _ _ => zGx l A s s.heap ∧ c.exceptionTable.toList = tableOf hh
/-- a method of an object is called that may throw; what it throws is caught at hpc -/
theorem zY_callVX {hh : List (Nat × Nat × Nat × Nat)} {y' : zMI} {n' mc ms na i ci idx hpc hp' : Nat} {ksl : List Int} {T : u_T} {N : Nat} {As st0 : List zAV} {Q' : Option zAV → zMem → zZ → Prop} {xe : ExceptionTableEntry} (ht : tableOf hh = [xe]) (hcov : covers xe pc = true) (h0 : xe.catchType ≠ 0) (hlk : Cond.classLink y.1.cls xe.catchType zNE ∈ zT) (hhp : xe.handlerPc = hpc)
    (hso : ∀ (p : Program) (l : Launch) (e : Env) (R : Room) (s : State) (m : MethodId) (args : Array Value) (below : List Frame) (meth : Method) (c : Code) (H : Heap) (locs : List Loc) (cells slots : Nat) (ad : Nat → Nat) (la : Array Slot) (Qf : State → Prop) (q : Nat), p.tables.exec = Jvm.exec → c.code = y.2.1 → lv_has la y.2.2.1 (ls.map fun q => (q.1, zcv ad q.2)) → (∀ la' : Array Slot, lv_has la' y.2.2.1 (ls.map fun q => (q.1, zcv ad q.2)) → W p l e R s m args below meth c H locs cells slots Qf (F0 m hp' la' [])) → W p l e R s m args below meth c H locs cells slots Qf (F0 m hpc la [.ref q]))
    (hc : zCV y.1.cls idx y' na) (hz : Z i = some (.inl (ci, ksl))) (hcl : vwCl[ci]? = some (y'.1.cls, T, N)) (hd : decode y.2.1 pc = .ok (.invokevirtual idx, 3)) (hn : n' + 1 ≤ n) (hna : As.length = na) (hst : (st.map zcat).sum ≤ 8) (hs0 : st0 = As.reverse ++ zR i :: st)
    (hM : (∀ v ∈ zR i :: As, zlive Z v) → ∀ (l : Launch) (D : va_G) (ad : Nat → Nat) (A : Nat → Prop), vx_Met l y'.1 (Cond.code y'.1 y'.2.1 y'.2.2.1 y'.2.2.2 :: zT) (zrm n' mc ms) (zPX l D Z ad M A (zR i :: As)) (zQc y' D Z ad A (fun r M' Z' => r ≠ none ∧ Q' r M' Z')) (zXC D Z ad A Q') mc ms A)
    (kk : ∀ (r : Option zAV) (M' : zMem) (Z' : zZ), zcan y'.2.2.2 r → r ≠ none ∧ Q' r M' Z' → zY (zXw hh) Ex y n kc ks Z' (pc + 3) ls (r.toList ++ st) M' Q)
    (kx : ∀ (M' : zMem) (Z' : zZ), Q' none M' Z' → zY (zXw hh) Ex y n kc ks Z' hp' ls [] M' Q) : zY (zXw hh) Ex y n (kc + mc) (ks + ms) Z pc ls st0 M Q := by
  subst hs0
  intro p l e R s m args below meth c H locs cells slots A D ad la Qf E Wd S hl h1 h2 hr
  obtain ⟨c1, c2, c3, c4, c5, c6, c7, c8⟩ := hc
  obtain ⟨x1, x2, x3, x4, x5, x6, x7, x8, x9, x10, x11, x12, x13, x14, x15, x16⟩ := id E
  have hAl : ∀ v ∈ As, zlive Z v := fun v hv => h2 v (List.mem_append_left _ (List.mem_reverse.mpr hv))
  have hil : zlive Z (zR i) := h2 _ (List.mem_append_right _ List.mem_cons_self)
  have hM' := hM (zl_1 hil hAl) l D ad A
  obtain ⟨⟨r, g1, g2, cell, g3, g4, g5, g6⟩, -⟩ := Wd.1 i _ hz
  cases hcl.symm.trans g1
  have hR : (zrm n' mc ms).frames + 1 ≤ R.frames ∧ 8 + (y'.2.2.1 + 11) + (zrm n' mc ms).locals ≤ R.locals := ⟨by show n' + 1 ≤ R.frames; omega, by show 8 + (y'.2.2.1 + 11) + 60 * n' ≤ R.locals; omega⟩
  have h2' : ∀ v ∈ st, zlive Z v := fun v hv => h2 v (List.mem_append_right _ (List.mem_cons_of_mem _ hv))
  have hrun : vx_Run p l e R s m args below meth c H locs cells slots mc ms (F0 m pc la ((As.reverse ++ zR i :: st).map (zcv ad))) (st.map (zcv ad)) (zQc y' D Z ad A (fun r M' Z' => r ≠ none ∧ Q' r M' Z') ((zR i :: As).map (zcv ad)).toArray) (zXC D Z ad A Q') A := by
    refine vx_runV (C := y'.1.cls) (As := As.map (zcv ad)) (b := ad i) (nL := y.2.2.1) (Ts := zT) (own := y.1.cls) (n := na) ⟨x1, x2, x3, x4, x5⟩ hM' (cwV na x5 (fun w hw => ?_) rfl rfl rfl ⟨rfl, c6⟩ hR) ⟨zPX_blind, ⟨cell, g3, by rw [g5]; rfl, by rw [g4]; exact (x6.1 ci _ hcl).2.1⟩, zX_pre Wd S x6 x11 x14 x15⟩ rfl (by rw [List.length_map]; exact hna) hl.1 (by show (As.reverse ++ zR i :: st).map (zcv ad) = _; rw [List.map_append, List.map_cons, List.map_reverse]; rfl) (zst_sum hst) hd ⟨by omega, by omega⟩
    rcases List.mem_append.mp (show w ∈ ([.methodLink y.1.cls idx y'.1, .instanceMethod y'.1, .selects y'.1.cls y'.1 y'.1, .initialized y'.1.cls] : List Cond) ++ _ from hw) with h | h
    · simp only [List.mem_cons, List.not_mem_nil, or_false] at h
      rcases h with rfl | rfl | rfl | rfl
      · exact zT_good _ c1
      · exact zT_good _ c2
      · exact zT_good _ c3
      · exact zT_good _ c5
    · exact zT_code c4 w h
  intro T hT Xs
  rcases hrun T hT Xs with ⟨v, st₀, t, T', L, q0, X', hL, e1, e2, ⟨r2, M', Z', ad', ho, hQ, hcan, hE, hW, hz1, hk1⟩, stp⟩ | ⟨q, st₀, t, T', L, E', ce, q0, X', hL, e1, e2, ⟨rfl, M', Z', ad', hQ, hE, hW, hz1, hk1⟩, hce, hcv, hcls, stp⟩
  · have hv : v = r2.map (zcv ad') := by injection ho
    subst hv
    rw [q0] at hz1 hk1
    have hal : t.vm.Alike s.vm := by rw [← e2]; exact X'.warmed.alike.symm
    have hS' : va_S A s.heap T'.heap (locs ++ L) := ⟨Nat.le_trans S.1 (by rw [e1]; exact hz1), fun q g1 g2 => by rw [e1, hk1 q (Nat.lt_of_lt_of_le g1 S.1) g2]; exact S.2.1 q g1 g2, fun q hq => (List.mem_append.mp hq).elim (fun h => S.2.2 q h) (fun h => hL q h)⟩
    have hrl : ∀ v ∈ r2.toList, zlive Z' v := by
      intro v hv
      rcases r2 with _ | x | x | x
      · simp at hv
      · simp at hv; subst hv; trivial
      · simp at hv; subst hv; trivial
      · exact hcan.elim
    have hls : (ls.map fun q => (q.1, zcv ad' q.2)) = ls.map fun q => (q.1, zcv ad q.2) := List.map_congr_left fun q hq => by rw [(hE.cv (h1 q hq)).1]
    have hst' : st.map (zcv ad') = st.map (zcv ad) := List.map_congr_left fun v hv => (hE.cv (h2' v hv)).1
    have w := kk r2 M' Z' hcan hQ p l e R s m args below meth c T'.heap (locs ++ L) (cells + mc) (slots + ms) A D ad' la Qf ⟨x1, x2, x3, x4, x5, x6, x7, x8, by omega, by omega, x11, x12, x13, x14.ad hE.2, x15, x16⟩ (by rw [e1]; exact hW.moved hal) hS' (by rw [hls]; exact hl) (fun q hq => (hE.cv (h1 q hq)).2)
      (fun v hv => (List.mem_append.mp hv).elim (hrl v) (fun h => (hE.cv (h2' v h)).2)) (fun r3 M2 Z2 ad2 H2 locs2 c2 s2 pc2 la2 g1 g2 g3 g4 g5 => hr r3 M2 Z2 ad2 H2 locs2 c2 s2 pc2 la2 (hE.tr g1) g2 g3 (by omega) (by omega))
    rw [List.map_append, hst', ← Option.toList_map] at w
    obtain ⟨t2, a1, b1⟩ := w T' rfl X'
    exact ⟨t2, stp t2 a1, b1⟩
  · rw [q0] at hz1 hk1
    have hal : t.vm.Alike s.vm := by rw [← e2]; exact X'.warmed.alike.symm
    have hS' : va_S A s.heap T'.heap (locs ++ L) := ⟨Nat.le_trans S.1 (by rw [e1]; exact hz1), fun q g1 g2 => by rw [e1, hk1 q (Nat.lt_of_lt_of_le g1 S.1) g2]; exact S.2.1 q g1 g2, fun q hq => (List.mem_append.mp hq).elim (fun h => S.2.2 q h) (fun h => hL q h)⟩
    have hls : (ls.map fun q => (q.1, zcv ad' q.2)) = ls.map fun q => (q.1, zcv ad q.2) := List.map_congr_left fun q hq => by rw [(hE.cv (h1 q hq)).1]
    have w : vx_W p l e R s m args below meth c T'.heap (locs ++ L) (cells + mc) (slots + ms) Qf (F0 m pc la (st.map (zcv ad))) q := by
      refine vx_catch (own := y.1.cls) (name := zNE) (E := zNE) (ce := ce) x4 [] xe [] (by rw [x16, ht]; rfl) (fun z hz => nomatch hz) hcov h0 (x5 _ hlk) (va_Nw.use rfl (x14.1 _ zxat3 rfl)) (by rw [e1]; exact hce) hcv hcls ?_
      rw [hhp]
      refine hso p l e R s m args below meth c T'.heap (locs ++ L) (cells + mc) (slots + ms) ad la Qf q x1 x2 hl (fun la' hl' => ?_)
      exact kx M' Z' hQ p l e R s m args below meth c T'.heap (locs ++ L) (cells + mc) (slots + ms) A D ad' la' Qf ⟨x1, x2, x3, x4, x5, x6, x7, x8, by omega, by omega, x11, x12, x13, x14.ad hE.2, x15, x16⟩ (by rw [e1]; exact hW.moved hal) hS' (by rw [hls]; exact hl') (fun q hq => (hE.cv (h1 q hq)).2) (fun v hv => nomatch hv) (fun r3 M2 Z2 ad2 H2 locs2 c2 s2 pc2 la2 g1 g2 g3 g4 g5 => hr r3 M2 Z2 ad2 H2 locs2 c2 s2 pc2 la2 (hE.tr g1) g2 g3 (by omega) (by omega))
    obtain ⟨t2, a1, b1⟩ := w T' rfl X'
    exact ⟨t2, stp.trans a1, b1⟩
/-- a method with a table that catches all: its contract -/
theorem zY_metW {mc ms : Nat} {As : List zAV} {hh : List (Nat × Nat × Nat × Nat)} {l : Launch} (hy : plainName y.1.cls = true) (hV : zY (zXw hh) (fun _ _ _ => False) y n mc ms Z 0 (zent 0 As) [] M Q) (hlv : ∀ v ∈ As, zlive Z v) (hL : (As.map zcat).sum ≤ y.2.2.1) (D : va_G) (ad : Nat → Nat) (A : Nat → Prop) :
    Met l y.1 (Cond.codeWith y.1 y.2.1 y.2.2.1 y.2.2.2 hh :: zT) (zrm n mc ms) (zPX l D Z ad M A As) (zQc y D Z ad A Q) mc ms A := by
  refine va_MetW (cc := y.2.1) (maxL := y.2.2.1) (ret := y.2.2.2) hy rfl ?_
  intro p e s m args below meth c s₁ B hml hP
  obtain ⟨⟨rfl, hWd, hK, hA, hG⟩, hX⟩ := hP
  have hts := atoms_spec (ws := Cond.codeWith y.1 y.2.1 y.2.2.1 y.2.2.2 hh :: zT) B.pre
  have hown : s.vm.findClass y.1.cls = some m.cls := findClass_of_methodNamed B.named
  have hl := lv_entry (As.map (zcv ad)) (n := y.2.2.1) (by rw [zent_len]; exact hL)
  rw [lg_entry_eq]
  rw [← zent_map] at hl
  refine hV p l e _ s m _ below meth c s.heap [] 0 0 A D ad _ _ ⟨B.exec, B.bytes, hml, hown, fun w hw => hts w (List.mem_cons_of_mem _ hw), hK, Nat.le_refl _, Nat.le_refl _, ?_, ?_, hA, B.notSynchronized, (name_of_methodNamed B.named B.method).1, hG, hX, vx_table (x := y.1) B (hts _ List.mem_cons_self)⟩ hWd va_S.rf hl (zent_live As 0 hlv) (fun v h => nomatch h) ?_
  · show 0 + mc ≤ mc; omega
  · show 0 + ms ≤ ms; omega
  · intro r M' Z' ad' H' locs' cells' slots' pc' la hE hW' hS' hc hs hq hri
    rcases hri with hri | hri
    · refine W.widen (k := mc) (n := ms) (by omega) (by omega) ?_
      have key : ∀ t : State, t.heap = H' → s.WarmedH t.vm → zQc y D Z ad A Q (As.map (zcv ad)).toArray s (.returned (r.map (zcv ad'))) t := fun t ht hw => ⟨r, M', Z', ad', rfl, hq, hri.can, hE, by rw [ht]; exact hW'.moved hw.alike, hS'.F ht⟩
      rcases r with _ | x | x | x
      · exact W.vret B.exec B.bytes (B.returns.trans hri.2) key hS'.2.2 hri.1 B.notSynchronized
      · obtain ⟨hd, -, ty, hty, hn⟩ := hri
        exact W.zret B.exec B.bytes (B.returns.trans hty) hn key hS'.2.2 hd B.notSynchronized
      · exact W.lret B.exec B.bytes (B.returns.trans hri.2.2) key hS'.2.2 hri.1 B.notSynchronized
      · exact hri.elim
    · exact hri.elim
/-- the law knows this of the start -/
def zXl (sb sL : Nat) (sx : Nat → Int32) : zCx := fun _ l _ _ s _ _ _ _ _ A _ _ a1 => zGx l A s s.heap ∧ a1 3 = sb ∧ ¬ A sb ∧ sb < s.heap.size ∧ va_X sb sL sx s s.heap
/-- a static method with a table is called -/
theorem zY_callSW {sb sL : Nat} {sx : Nat → Int32} {y' : zMI} {hh : List (Nat × Nat × Nat × Nat)} {n' mc ms na idx : Nat} {As st0 : List zAV} {Q' : Option zAV → zMem → zZ → Prop} (c1 : Cond.methodLink y.1.cls idx y'.1 ∈ zT) (c2 : Cond.static y'.1 ∈ zT) (c4 : Cond.codeWith y'.1 y'.2.1 y'.2.2.1 y'.2.2.2 hh ∈ zT) (c5 : Cond.initialized y'.1.cls ∈ zT) (c6 : y'.1.cls ≠ "java/lang/invoke/MethodHandle" ∧ y'.1.cls ≠ "java/lang/invoke/VarHandle" ∧ (parseMethodDescriptor y'.1.desc).map (fun d => d.parameters.length) = some na) (c7 : plainName y'.1.cls = true) (c8 : y'.2.2.1 ≤ 41) (hd : decode y.2.1 pc = .ok (.invokestatic idx, 3)) (hn : n' + 1 ≤ n) (hna : As.length = na) (hL : (As.map zcat).sum ≤ y'.2.2.1) (hst : (st.map zcat).sum ≤ 8) (hs0 : st0 = As.reverse ++ st)
    (hV : zY (zXw hh) (fun _ _ _ => False) y' n' mc ms Z 0 (zent 0 As) [] M Q') (kk : ∀ (r : Option zAV) (M' : zMem) (Z' : zZ), zcan y'.2.2.2 r → Q' r M' Z' → zY (zXl sb sL sx) Ex y n kc ks Z' (pc + 3) ls (r.toList ++ st) M' Q) : zY (zXl sb sL sx) Ex y n (kc + mc) (ks + ms) Z pc ls st0 M Q := by
  subst hs0
  intro p l e R s m args below meth c H locs cells slots A D ad la Qf E Wd S hl h1 h2 hr
  obtain ⟨x1, x2, x3, x4, x5, x6, x7, x8, x9, x10, x11, x12, x13, x14, x15⟩ := id E
  have hAl : ∀ v ∈ As, zlive Z v := fun v hv => h2 v (List.mem_append_left _ (List.mem_reverse.mpr hv))
  have hM := zY_metW (y := y') (As := As) (l := l) c7 hV hAl hL D ad A
  have hR : (zrm n' mc ms).frames + 1 ≤ R.frames ∧ 8 + (y'.2.2.1 + 11) + (zrm n' mc ms).locals ≤ R.locals := ⟨by show n' + 1 ≤ R.frames; omega, by show 8 + (y'.2.2.1 + 11) + 60 * n' ≤ R.locals; omega⟩
  refine zY_back (y' := y') (a := (As.map (zcv ad)).toArray) (Z := Z) (X := zXl sb sL sx) ?_ E S hl h1 (fun v hv => h2 v (List.mem_append_right _ hv)) hr kk
  refine vx_runSW (hh := hh) (bytes := y'.2.1) (maxL := y'.2.2.1) (ret := y'.2.2.2) (As := As.map (zcv ad)) (nL := y.2.2.1) (Ts := zT) (own := y.1.cls) (n := na) ⟨x1, x2, x3, x4, x5⟩ hM (vx_cwSW na x5 (fun w hw => ?_) rfl rfl rfl c6 hR) ⟨zPX_blind, zX_pre Wd S x6 x11 x14 x15.1⟩ rfl (by rw [List.length_map]; exact hna) hl.1 (by show (As.reverse ++ st).map (zcv ad) = _; rw [List.map_append, List.map_reverse]) (zst_sum hst) hd ⟨by omega, by omega⟩
  rcases List.mem_append.mp (show w ∈ ([.methodLink y.1.cls idx y'.1, .static y'.1, .initialized y'.1.cls] : List Cond) ++ _ from hw) with h | h
  · simp only [List.mem_cons, List.not_mem_nil, or_false] at h
    rcases h with rfl | rfl | rfl
    · exact zT_good _ c1
    · exact zT_good _ c2
    · exact zT_good _ c5
  · exact zT_code c4 w h
end ZX
