section ZK
variable {y : zMI} {n kc ks : Nat} {Z : zZ} {pc : Nat} {ls : List (Nat × zAV)} {st : List zAV} {M : zMem} {Q : Option zAV → zMem → zZ → Prop}
/-- a method's own words -/
def zMW (y : zMI) (na : Nat) : Prop := Cond.code y.1 y.2.1 y.2.2.1 y.2.2.2 ∈ zT ∧ Cond.initialized y.1.cls ∈ zT ∧ (y.1.cls ≠ "java/lang/invoke/MethodHandle" ∧ y.1.cls ≠ "java/lang/invoke/VarHandle" ∧ (parseMethodDescriptor y.1.desc).map (fun d => d.parameters.length) = some na) ∧ plainName y.1.cls = true ∧ y.2.2.1 ≤ 41
def zCV (own : String) (idx : Nat) (y : zMI) (na : Nat) : Prop := Cond.methodLink own idx y.1 ∈ zT ∧ Cond.instanceMethod y.1 ∈ zT ∧ Cond.selects y.1.cls y.1 y.1 ∈ zT ∧ zMW y na
def zCS (own : String) (idx : Nat) (y : zMI) (na : Nat) : Prop := Cond.methodLink own idx y.1 ∈ zT ∧ Cond.static y.1 ∈ zT ∧ zMW y na
def zCI (own : String) (idx : Nat) (y : zMI) (na : Nat) : Prop := Cond.methodLink own idx y.1 ∈ zT ∧ Cond.instanceMethod y.1 ∈ zT ∧ y.1.name = "<init>" ∧ y.2.2.2 = none ∧ zMW y na
def zCN (own : String) (idx : Nat) (y : zMI) (na : Nat) : Prop := (∃ host : String, Cond.methodLinkNest own idx y.1 host ∈ lw_tbl) ∧ Cond.instanceMethod y.1 ∈ zT ∧ y.1.name = "<init>" ∧ y.2.2.2 = none ∧ zMW y na
theorem zT_code {w : Cond} (h : w ∈ zT) : GoodIn zT (w :: zT) := fun v hv => by
  rcases List.mem_cons.mp hv with rfl | hv
  · exact zT_good _ h
  · exact zT_good _ hv
theorem zPc_blind {D : va_G} {ad : Nat → Nat} {A : Nat → Prop} {As : List zAV} : FrameBlind (zPc D Z ad M A As) := by
  intro a U g mk h
  obtain ⟨h1, h2, h3, h4, h5⟩ := h
  exact ⟨h1, zWd.moved (u := U) (U := U.calling g mk a) (Vm.Alike.refl U.vm) h2, va_K.moved (u := U) (U := U.calling g mk a) (Vm.Alike.refl U.vm) h3, h4, zGr.same (s := U) (U := U.calling g mk a) h5 rfl⟩
/-- behind a call that has run -/
theorem zV_back {y' : zMI} {mc ms : Nat} {Q' : Option zAV → zMem → zZ → Prop} {p : Program} {l : Launch} {e : Env} {R : Room} {s : State} {m : MethodId} {args : Array Value} {below : List Frame} {meth : Method} {c : Code} {H : Heap} {locs : List Loc} {cells slots : Nat} {A : Nat → Prop} {D : va_G} {ad : Nat → Nat} {la : Array Slot} {Qf : State → Prop} {st0 : List Value} {a : Array Value}
    (hr : va_Run p l e R s m args below meth c H locs cells slots mc ms (F0 m pc la st0) (st.map (zcv ad)) (zQc y' D Z ad A Q' a) A)
    (E : zEnv y n (kc + mc) (ks + ms) p R s m args meth c cells slots A D ad) (S : va_S A s.heap H locs) (hl : lv_has la y.2.2.1 (ls.map fun q => (q.1, zcv ad q.2))) (h1 : ∀ q ∈ ls, zlive Z q.2) (h2 : ∀ v ∈ st, zlive Z v)
    (hf : zHr y (kc + mc) (ks + ms) Z ad Q p l e R s m args below meth c cells slots A D Qf)
    (kk : ∀ (r : Option zAV) (M' : zMem) (Z' : zZ), zcan y'.2.2.2 r → Q' r M' Z' → zV y n kc ks Z' (pc + 3) ls (r.toList ++ st) M' Q) : W p l e R s m args below meth c H locs cells slots Qf (F0 m pc la st0) := by
  intro T hT X
  obtain ⟨v, st₀, t, T', L, h0, X', hL, e1, e2, hq, stp⟩ := hr T hT X
  obtain ⟨r, M', Z', ad', ho, hQ, hcan, hE, hW, hz, hk⟩ := hq
  have hv : v = r.map (zcv ad') := by injection ho
  subst hv
  rw [h0] at hz hk
  have hwarm : s.WarmedH T'.vm := X'.warmed
  have hal : t.vm.Alike s.vm := by rw [← e2]; exact hwarm.alike.symm
  have hS' : va_S A s.heap T'.heap (locs ++ L) := ⟨Nat.le_trans S.1 (by rw [e1]; exact hz), fun q g1 g2 => by rw [e1, hk q (Nat.lt_of_lt_of_le g1 S.1) g2]; exact S.2.1 q g1 g2, fun q hq => by
      rcases List.mem_append.mp hq with h | h
      · exact S.2.2 q h
      · exact hL q h⟩
  have hrl : ∀ v ∈ r.toList, zlive Z' v := by
    intro v hv
    rcases r with _ | x | x | x
    · simp at hv
    · simp at hv; subst hv; trivial
    · simp at hv; subst hv; trivial
    · exact hcan.elim
  obtain ⟨x1, x2, x3, x4, x5, x6, x7, x8, x9, x10, x11, x12, x13, x14⟩ := E
  have hls : (ls.map fun q => (q.1, zcv ad' q.2)) = ls.map fun q => (q.1, zcv ad q.2) := List.map_congr_left fun q hq => by rw [(hE.cv (h1 q hq)).1]
  have hst : st.map (zcv ad') = st.map (zcv ad) := List.map_congr_left fun v hv => (hE.cv (h2 v hv)).1
  have w := kk r M' Z' hcan hQ p l e R s m args below meth c T'.heap (locs ++ L) (cells + mc) (slots + ms) A D ad' la Qf ⟨x1, x2, x3, x4, x5, x6, x7, x8, by omega, by omega, x11, x12, x13, x14.ad hE.2⟩ (by rw [e1]; exact hW.moved hal) hS' (by rw [hls]; exact hl) (fun q hq => (hE.cv (h1 q hq)).2)
    (fun v hv => (List.mem_append.mp hv).elim (hrl v) (fun h => (hE.cv (h2 v h)).2)) (fun r2 M2 Z2 ad2 H2 locs2 c2 s2 pc2 la2 g1 g2 g3 g4 g5 => hf r2 M2 Z2 ad2 H2 locs2 c2 s2 pc2 la2 (hE.tr g1) g2 g3 (by omega) (by omega))
  rw [List.map_append, hst, ← Option.toList_map] at w
  obtain ⟨t2, a1, b1⟩ := w T' rfl X'
  exact ⟨t2, stp t2 a1, b1⟩
theorem zst_sum {ad : Nat → Nat} {m : MethodId} {la : Array Slot} {rest : List Value} (h : (st.map zcat).sum ≤ 8) : 2 * (F0 m pc la rest).monitorRoom + ((st.map (zcv ad)).map fun v => v.category).sum ≤ 8 := by
  refine lv_room (m := m) (pc := pc) (ls := la) (rest := rest) ?_
  rw [List.map_map]
  have : ((fun v : Value => v.category) ∘ zcv ad) = zcat := funext fun v => zcat_cv ad v
  rw [this]
  exact h
theorem zV_pre {D : va_G} {ad : Nat → Nat} {A : Nat → Prop} {As : List zAV} {s : State} {H : Heap} {locs : List Loc} (Wd : zWd s D Z ad M A H) (S : va_S A s.heap H locs) (hK : va_K D vwCl [] s) (hA : ∀ q : Nat, s.heap.size ≤ q → A q) (hG : zGr ad A s s.heap) : ∀ U : State, U.heap = H → s.WarmedH U.vm → zPc D Z ad M A As (As.map (zcv ad)).toArray U := fun U hU hW =>
  ⟨rfl, by rw [hU]; exact Wd.moved hW.alike, va_K.moved hW.alike hK, fun q hq => hA q (Nat.le_trans S.1 (by rw [← hU]; exact hq)), hG.to hW (fun a h1 h2 => by rw [hU]; exact S.2.1 a h1 h2)⟩
/-- a method of an object is called -/
theorem zV_callV {y' : zMI} {n' mc ms na i ci idx : Nat} {ksl : List Int} {T : u_T} {N : Nat} {As st0 : List zAV} {Q' : Option zAV → zMem → zZ → Prop} (hc : zCV y.1.cls idx y' na) (hz : Z i = some (.inl (ci, ksl))) (hcl : vwCl[ci]? = some (y'.1.cls, T, N)) (hd : decode y.2.1 pc = .ok (.invokevirtual idx, 3)) (hn : n' + 1 ≤ n) (hna : As.length = na) (hL : ((zR i :: As).map zcat).sum ≤ y'.2.2.1) (hst : (st.map zcat).sum ≤ 8) (hs0 : st0 = As.reverse ++ zR i :: st)
    (hV : zV y' n' mc ms Z 0 (zent 0 (zR i :: As)) [] M Q') (kk : ∀ (r : Option zAV) (M' : zMem) (Z' : zZ), zcan y'.2.2.2 r → Q' r M' Z' → zV y n kc ks Z' (pc + 3) ls (r.toList ++ st) M' Q) : zV y n (kc + mc) (ks + ms) Z pc ls st0 M Q := by
  subst hs0
  intro p l e R s m args below meth c H locs cells slots A D ad la Qf E Wd S hl h1 h2 hr
  obtain ⟨c1, c2, c3, c4, c5, c6, c7, c8⟩ := hc
  obtain ⟨x1, x2, x3, x4, x5, x6, x7, x8, x9, x10, x11, x12, x13, x14⟩ := id E
  have hAl : ∀ v ∈ As, zlive Z v := fun v hv => h2 v (List.mem_append_left _ (List.mem_reverse.mpr hv))
  have hil : zlive Z (zR i) := h2 _ (List.mem_append_right _ List.mem_cons_self)
  have hM := zV_met (y := y') (As := zR i :: As) c7 hV (zl_1 hil hAl) hL l D ad A
  obtain ⟨⟨r, g1, g2, cell, g3, g4, g5, g6⟩, -⟩ := Wd.1 i _ hz
  cases hcl.symm.trans g1
  have hR : (zrm n' mc ms).frames + 1 ≤ R.frames ∧ 8 + (y'.2.2.1 + 11) + (zrm n' mc ms).locals ≤ R.locals := ⟨by show n' + 1 ≤ R.frames; omega, by show 8 + (y'.2.2.1 + 11) + 60 * n' ≤ R.locals; omega⟩
  refine zV_back (y' := y') (a := ((zR i :: As).map (zcv ad)).toArray) (Z := Z) ?_ E S hl h1 (fun v hv => h2 v (List.mem_append_right _ (List.mem_cons_of_mem _ hv))) hr kk
  refine va_runV (C := y'.1.cls) (As := As.map (zcv ad)) (b := ad i) (nL := y.2.2.1) (Ts := zT) (own := y.1.cls) (n := na) ⟨x1, x2, x3, x4, x5⟩ hM (cwV na x5 (fun w hw => ?_) rfl rfl rfl ⟨rfl, c6⟩ hR) ⟨zPc_blind, ⟨cell, g3, by rw [g5]; rfl, by rw [g4]; exact (x6.1 ci _ hcl).2.1⟩, zV_pre Wd S x6 x11 x14⟩ rfl (by rw [List.length_map]; exact hna) hl.1 (by show (As.reverse ++ zR i :: st).map (zcv ad) = _; rw [List.map_append, List.map_cons, List.map_reverse]; rfl) (zst_sum hst) hd ⟨by omega, by omega⟩
  rcases List.mem_append.mp (show w ∈ ([.methodLink y.1.cls idx y'.1, .instanceMethod y'.1, .selects y'.1.cls y'.1 y'.1, .initialized y'.1.cls] : List Cond) ++ _ from hw) with h | h
  · simp only [List.mem_cons, List.not_mem_nil, or_false] at h
    rcases h with rfl | rfl | rfl | rfl
    · exact zT_good _ c1
    · exact zT_good _ c2
    · exact zT_good _ c3
    · exact zT_good _ c5
  · exact zT_code c4 w h
/-- a static method is called -/
theorem zV_callS {y' : zMI} {n' mc ms na idx : Nat} {As st0 : List zAV} {Q' : Option zAV → zMem → zZ → Prop} (hc : zCS y.1.cls idx y' na) (hd : decode y.2.1 pc = .ok (.invokestatic idx, 3)) (hn : n' + 1 ≤ n) (hna : As.length = na) (hL : (As.map zcat).sum ≤ y'.2.2.1) (hst : (st.map zcat).sum ≤ 8) (hs0 : st0 = As.reverse ++ st)
    (hV : zV y' n' mc ms Z 0 (zent 0 As) [] M Q') (kk : ∀ (r : Option zAV) (M' : zMem) (Z' : zZ), zcan y'.2.2.2 r → Q' r M' Z' → zV y n kc ks Z' (pc + 3) ls (r.toList ++ st) M' Q) : zV y n (kc + mc) (ks + ms) Z pc ls st0 M Q := by
  subst hs0
  intro p l e R s m args below meth c H locs cells slots A D ad la Qf E Wd S hl h1 h2 hr
  obtain ⟨c1, c2, c4, c5, c6, c7, c8⟩ := hc
  obtain ⟨x1, x2, x3, x4, x5, x6, x7, x8, x9, x10, x11, x12, x13, x14⟩ := id E
  have hAl : ∀ v ∈ As, zlive Z v := fun v hv => h2 v (List.mem_append_left _ (List.mem_reverse.mpr hv))
  have hM := zV_met (y := y') (As := As) c7 hV hAl hL l D ad A
  have hR : (zrm n' mc ms).frames + 1 ≤ R.frames ∧ 8 + (y'.2.2.1 + 11) + (zrm n' mc ms).locals ≤ R.locals := ⟨by show n' + 1 ≤ R.frames; omega, by show 8 + (y'.2.2.1 + 11) + 60 * n' ≤ R.locals; omega⟩
  refine zV_back (y' := y') (a := (As.map (zcv ad)).toArray) (Z := Z) ?_ E S hl h1 (fun v hv => h2 v (List.mem_append_right _ hv)) hr kk
  refine va_runS (As := As.map (zcv ad)) (nL := y.2.2.1) (Ts := zT) (own := y.1.cls) (n := na) ⟨x1, x2, x3, x4, x5⟩ hM ⟨callB_of na x5 (zT_code c4) rfl rfl rfl (x5 _ c5) (x5 _ c1) c6 hR, x5 _ c2⟩ ⟨zPc_blind, zV_pre Wd S x6 x11 x14⟩ rfl (by rw [List.length_map]; exact hna) hl.1 (by show (As.reverse ++ st).map (zcv ad) = _; rw [List.map_append, List.map_reverse]) (zst_sum hst) hd ⟨by omega, by omega⟩
/-- a constructor is called -/
theorem zV_callI {y' : zMI} {n' mc ms na i idx : Nat} {As st0 : List zAV} {Q' : Option zAV → zMem → zZ → Prop} (hc : zCI y.1.cls idx y' na) (hd : decode y.2.1 pc = .ok (.invokespecial idx, 3)) (hn : n' + 1 ≤ n) (hna : As.length = na) (hL : ((zR i :: As).map zcat).sum ≤ y'.2.2.1) (hst : (st.map zcat).sum ≤ 8) (hs0 : st0 = As.reverse ++ zR i :: st)
    (hV : zV y' n' mc ms Z 0 (zent 0 (zR i :: As)) [] M Q') (kk : ∀ (r : Option zAV) (M' : zMem) (Z' : zZ), zcan y'.2.2.2 r → Q' r M' Z' → zV y n kc ks Z' (pc + 3) ls (r.toList ++ st) M' Q) : zV y n (kc + mc) (ks + ms) Z pc ls st0 M Q := by
  subst hs0
  intro p l e R s m args below meth c H locs cells slots A D ad la Qf E Wd S hl h1 h2 hr
  obtain ⟨c1, c2, c3, c3', c4, c5, c6, c7, c8⟩ := hc
  obtain ⟨x1, x2, x3, x4, x5, x6, x7, x8, x9, x10, x11, x12, x13, x14⟩ := id E
  have hAl : ∀ v ∈ As, zlive Z v := fun v hv => h2 v (List.mem_append_left _ (List.mem_reverse.mpr hv))
  have hil : zlive Z (zR i) := h2 _ (List.mem_append_right _ List.mem_cons_self)
  have hM := zV_met (y := y') (As := zR i :: As) c7 hV (zl_1 hil hAl) hL l D ad A
  have hR : (zrm n' mc ms).frames + 1 ≤ R.frames ∧ 8 + (y'.2.2.1 + 11) + (zrm n' mc ms).locals ≤ R.locals := ⟨by show n' + 1 ≤ R.frames; omega, by show 8 + (y'.2.2.1 + 11) + 60 * n' ≤ R.locals; omega⟩
  refine zV_back (y' := y') (a := ((zR i :: As).map (zcv ad)).toArray) (Z := Z) ?_ E S hl h1 (fun v hv => h2 v (List.mem_append_right _ (List.mem_cons_of_mem _ hv))) hr kk
  have hb := callB_of (own := y.1.cls) (index := idx) (R := R) na x5 (zT_code c4) rfl (rfl : (zrm n' mc ms).cells = mc) (rfl : (zrm n' mc ms).slots = ms) (x5 _ c5) (x5 _ c1) c6 hR
  rw [c3'] at hb hM
  exact va_runI (As := As.map (zcv ad)) (b := ad i) (nL := y.2.2.1) (Ts := zT) (own := y.1.cls) (n := na) ⟨x1, x2, x3, x4, x5⟩ hM ⟨hb, c3, x5 _ c2⟩ ⟨zPc_blind, zV_pre Wd S x6 x11 x14⟩ rfl (by rw [List.length_map]; exact hna) hl.1 (by show (As.reverse ++ zR i :: st).map (zcv ad) = _; rw [List.map_append, List.map_cons, List.map_reverse]; rfl) (zst_sum hst) hd ⟨by omega, by omega⟩
/-- a nest mate's constructor is called -/
theorem zV_callN {y' : zMI} {n' mc ms na i idx : Nat} {As st0 : List zAV} {Q' : Option zAV → zMem → zZ → Prop} (hc : zCN y.1.cls idx y' na) (hd : decode y.2.1 pc = .ok (.invokespecial idx, 3)) (hn : n' + 1 ≤ n) (hna : As.length = na) (hL : ((zR i :: As).map zcat).sum ≤ y'.2.2.1) (hst : (st.map zcat).sum ≤ 8) (hs0 : st0 = As.reverse ++ zR i :: st)
    (hV : zV y' n' mc ms Z 0 (zent 0 (zR i :: As)) [] M Q') (kk : ∀ (r : Option zAV) (M' : zMem) (Z' : zZ), zcan y'.2.2.2 r → Q' r M' Z' → zV y n kc ks Z' (pc + 3) ls (r.toList ++ st) M' Q) : zV y n (kc + mc) (ks + ms) Z pc ls st0 M Q := by
  subst hs0
  intro p l e R s m args below meth c H locs cells slots A D ad la Qf E Wd S hl h1 h2 hr
  obtain ⟨⟨host, c1⟩, c2, c3, c3', c4, c5, c6, c7, c8⟩ := hc
  obtain ⟨x1, x2, x3, x4, x5, x6, x7, x8, x9, x10, x11, x12, x13, x14⟩ := id E
  have hAl : ∀ v ∈ As, zlive Z v := fun v hv => h2 v (List.mem_append_left _ (List.mem_reverse.mpr hv))
  have hil : zlive Z (zR i) := h2 _ (List.mem_append_right _ List.mem_cons_self)
  have hM := zV_met (y := y') (As := zR i :: As) c7 hV (zl_1 hil hAl) hL l D ad A
  have hR : (zrm n' mc ms).frames + 1 ≤ R.frames ∧ 8 + (y'.2.2.1 + 11) + (zrm n' mc ms).locals ≤ R.locals := ⟨by show n' + 1 ≤ R.frames; omega, by show 8 + (y'.2.2.1 + 11) + 60 * n' ≤ R.locals; omega⟩
  refine zV_back (y' := y') (a := ((zR i :: As).map (zcv ad)).toArray) (Z := Z) ?_ E S hl h1 (fun v hv => h2 v (List.mem_append_right _ (List.mem_cons_of_mem _ hv))) hr kk
  have hb := va_cnB (own := y.1.cls) (host := host) (index := idx) (R := R) (args := args) na x5 (zT_code c4) rfl (rfl : (zrm n' mc ms).cells = mc) (rfl : (zrm n' mc ms).slots = ms) (x14.1 _ c1 rfl) (x5 _ c5) c6 hR
  rw [c3'] at hb hM
  exact va_runIN (As := As.map (zcv ad)) (b := ad i) (nL := y.2.2.1) (Ts := zT) (own := y.1.cls) (n := na) ⟨x1, x2, x3, x4, x5⟩ hM ⟨hb, c3, x5 _ c2⟩ ⟨zPc_blind, zV_pre Wd S x6 x11 x14⟩ rfl (by rw [List.length_map]; exact hna) hl.1 (by show (As.reverse ++ zR i :: st).map (zcv ad) = _; rw [List.map_append, List.map_cons, List.map_reverse]; rfl) (zst_sum hst) hd ⟨by omega, by omega⟩
end ZK
