section ZO
variable {y : zMI} {n kc ks : Nat} {Z : zZ} {pc : Nat} {ls : List (Nat × zAV)} {st : List zAV} {M : zMem} {Q : Option zAV → zMem → zZ → Prop}
theorem zlo_n {a k o d : Int} {r : List (Int × Int)} (h : ¬ k = a) : Op.lookupswitch.offset ((a, o) :: r) d k = Op.lookupswitch.offset r d k := by
  simp [Op.lookupswitch.offset, Ne.symm h]
theorem zlo_e {d k : Int} : Op.lookupswitch.offset [] d k = d := rfl
theorem zV_ldS {idx i : Nat} (hi : (y.1.cls = "GlassSpindle$Tape" ∧ idx = 63 ∧ i = 1010) ∨ (y.1.cls = "GlassSpindle$Tape" ∧ idx = 56 ∧ i = 1011) ∨ (y.1.cls = "GlassSpindle$Law" ∧ idx = 15 ∧ i = 1010)) (hz : (Z i).isSome = true) (hd : decode y.2.1 pc = .ok (.ldc idx, 2)) (k : zV y n kc ks Z (pc + 2) ls (zR i :: st) M Q) : zV y n kc ks Z pc ls st M Q := by
  refine zV_mv (fun h _ => zl_1 (by exact hz) h) (fun p l e R s m args below meth c H locs cells slots A D ad la Qf E Wd S hl w => ?_) k
  obtain ⟨x1, x2, x3, x4, x5, x6, x7, x8, x9, x10, x11, x12, x13, x14⟩ := E
  obtain ⟨g1, -, ⟨b1, b2, b3⟩, -⟩ := x14
  rcases hi with ⟨hc, rfl, rfl⟩ | ⟨hc, rfl, rfl⟩ | ⟨hc, rfl, rfl⟩
  · rw [hc] at x4; exact va_ldcS x1 x2 x4 b2 hd w
  · rw [hc] at x4; exact va_ldcS x1 x2 x4 b3 hd w
  · rw [hc] at x4; exact va_ldcS x1 x2 x4 b1 hd w
/-- the texts: their rows of bytes, their coder -/
def zBy (k : Nat) (j : Int) : Int := ((zSb.getD k []).getD j.toNat 0).toInt
theorem zV_kval {idx k : Nat} (hk : k < 2) (hw : Cond.fieldLink y.1.cls idx "java/lang/String" "value" "[B" ∈ zT) (hz : (Z (1020 + k)).isSome = true) (hd : decode y.2.1 pc = .ok (.getfield idx, 3)) (kk : zV y n kc ks Z (pc + 3) ls (zR (1020 + k) :: st) M Q) : zV y n kc ks Z pc ls (zR (1010 + k) :: st) M Q := by
  refine zV_mv (fun h _ => zl_1 (by exact hz) (zl_t h)) (fun p l e R s m args below meth c H locs cells slots A D ad la Qf E Wd S hl w => ?_) kk
  obtain ⟨x1, x2, x3, x4, x5, x6, x7, x8, x9, x10, x11, x12, x13, x14⟩ := E
  obtain ⟨g1, -, -, g4, -⟩ := x14
  exact vk_getf x1 x2 (g4.1 k hk).2.2.1 S x4 (x5 _ hw) (fun _ h => h) hd w
theorem zV_kcod {idx k : Nat} (hk : k < 2) (hw : Cond.fieldLink y.1.cls idx "java/lang/String" "coder" "B" ∈ zT) (hd : decode y.2.1 pc = .ok (.getfield idx, 3)) (kk : zV y n kc ks Z (pc + 3) ls (zI 0 :: st) M Q) : zV y n kc ks Z pc ls (zR (1010 + k) :: st) M Q := by
  refine zV_mv (fun h _ => zl_1 (by exact trivial) (zl_t h)) (fun p l e R s m args below meth c H locs cells slots A D ad la Qf E Wd S hl w => ?_) kk
  obtain ⟨x1, x2, x3, x4, x5, x6, x7, x8, x9, x10, x11, x12, x13, x14⟩ := E
  obtain ⟨g1, -, -, g4, -⟩ := x14
  exact vk_getf x1 x2 (g4.1 k hk).2.1 S x4 (x5 _ hw) (fun _ h => h) hd w
theorem zV_kcmp {idx : Nat} (hw : Cond.fieldLink y.1.cls idx "java/lang/String" "COMPACT_STRINGS" "Z" ∈ zT) (hd : decode y.2.1 pc = .ok (.getstatic idx, 3)) (kk : zV y n kc ks Z (pc + 3) ls (zI 1 :: st) M Q) : zV y n kc ks Z pc ls st M Q := by
  refine zV_mv (fun h _ => zl_1 (by exact trivial) h) (fun p l e R s m args below meth c H locs cells slots A D ad la Qf E Wd S hl w => ?_) kk
  obtain ⟨x1, x2, x3, x4, x5, x6, x7, x8, x9, x10, x11, x12, x13, x14⟩ := E
  obtain ⟨g1, -, -, -, g5, -⟩ := x14
  exact va_gets x1 x2 g5 S x4 (x5 _ hw) (fun _ h => h) hd w
theorem zV_kfmt {idx : Nat} (hw : Cond.fieldLink y.1.cls idx "jdk/internal/util/Preconditions" "SIOOBE_FORMATTER" "Ljava/util/function/BiFunction;" ∈ zT) (hz : (Z 1030).isSome = true) (hd : decode y.2.1 pc = .ok (.getstatic idx, 3)) (k1 : zV y n kc ks Z (pc + 3) ls (zN :: st) M Q) (k2 : zV y n kc ks Z (pc + 3) ls (zR 1030 :: st) M Q) : zV y n kc ks Z pc ls st M Q := by
  intro p l e R s m args below meth c H locs cells slots A D ad la Qf E Wd S hl h1 h2 hr
  obtain ⟨x1, x2, x3, x4, x5, x6, x7, x8, x9, x10, x11, x12, x13, x14⟩ := id E
  obtain ⟨g1, -, -, -, -, g6, -⟩ := x14
  rcases g6 with g6 | g6
  · exact va_gets x1 x2 g6 S x4 (x5 _ hw) (fun _ h => h) hd (k1 p l e R s m args below meth c H locs cells slots A D ad la Qf E Wd S hl h1 (zl_1 (by exact trivial) h2) hr)
  · exact va_gets x1 x2 g6 S x4 (x5 _ hw) (fun _ h => h) hd (k2 p l e R s m args below meth c H locs cells slots A D ad la Qf E Wd S hl h1 (zl_1 (by exact hz) h2) hr)
theorem zV_klen {k : Nat} {v : Int} (hk : k < 2) (hv : v = (zSl.getD k 0 : Nat)) (hd : decode y.2.1 pc = .ok (.arraylength, 1)) (kk : zV y n kc ks Z (pc + 1) ls (zI v :: st) M Q) : zV y n kc ks Z pc ls (zR (1020 + k) :: st) M Q := by
  refine zV_mv (fun h _ => zl_1 (by exact trivial) (zl_t h)) (fun p l e R s m args below meth c H locs cells slots A D ad la Qf E Wd S hl w => ?_) kk
  obtain ⟨x1, x2, x3, x4, x5, x6, x7, x8, x9, x10, x11, x12, x13, x14⟩ := E
  obtain ⟨g1, -, -, g4, -⟩ := x14
  obtain ⟨cell, t1, t2, t3, t4, t5, t6, t7⟩ := (g4.1 k hk).2.2.2.kept S.2.1
  refine W.alen x1 x2 (n := Int32.ofInt v) (rest := st.map (zcv ad)) t1 t2 (by rw [t5, hv]; rfl) rfl rfl hd w
theorem zV_kbyt {k : Nat} {j : Int} (hk : k < 2) (hj : 0 ≤ j ∧ j < (zSl.getD k 0 : Nat)) (hd : decode y.2.1 pc = .ok (.baload, 1)) (kk : zV y n kc ks Z (pc + 1) ls (zI (zBy k j) :: st) M Q) : zV y n kc ks Z pc ls (zI j :: zR (1020 + k) :: st) M Q := by
  refine zV_mv (fun h _ => zl_1 (by exact trivial) (zl_t (zl_t h))) (fun p l e R s m args below meth c H locs cells slots A D ad la Qf E Wd S hl w => ?_) kk
  obtain ⟨x1, x2, x3, x4, x5, x6, x7, x8, x9, x10, x11, x12, x13, x14⟩ := E
  obtain ⟨g1, -, -, g4, -⟩ := x14
  obtain ⟨cell, t1, t2, t3, t4, t5, t6, t7⟩ := (g4.1 k hk).2.2.2.kept S.2.1
  have hN : zSl.getD k 0 < 2 ^ 31 := by
    rcases (show k = 0 ∨ k = 1 by omega) with rfl | rfl <;> decide
  obtain ⟨c1, c2, c3, c4⟩ := zclamp hN hj.1 hj.2
  have hsz : (Int32.ofInt j).toNatClampNeg < cell.slots.size := by rw [c1]; omega
  have e : zcv ad (zI (zBy k j)) = .int ((zSb.getD k []).getD j.toNat 0) := congrArg Value.int (Int32.ofInt_toInt _)
  rw [List.map_cons, e] at w
  refine W.bald x1 x2 (v := .int ((zSb.getD k []).getD j.toNat 0)) (rest := st.map (zcv ad)) t1 t2 t3 (fun q => ?_) ?_ rfl rfl hd w
  · rcases q with q | q
    · exact c2 (Or.inl q)
    · omega
  · rw [c1]; exact t6 j.toNat c4
/-- a method of a text is called -/
theorem zV_callK {y' : zMI} {n' na k idx : Nat} {As st0 : List zAV} {Q' : Option zAV → zMem → zZ → Prop} (hc : zCV y.1.cls idx y' na) (hk : k < 2) (hcl : y'.1.cls = "java/lang/String") (hd : decode y.2.1 pc = .ok (.invokevirtual idx, 3)) (hn : n' + 1 ≤ n) (hna : As.length = na) (hL : ((zR (1010 + k) :: As).map zcat).sum ≤ y'.2.2.1) (hst : (st.map zcat).sum ≤ 8) (hs0 : st0 = As.reverse ++ zR (1010 + k) :: st)
    (hV : zV y' n' 0 0 Z 0 (zent 0 (zR (1010 + k) :: As)) [] M Q') (kk : ∀ (r : Option zAV) (M' : zMem) (Z' : zZ), zcan y'.2.2.2 r → Q' r M' Z' → zV y n kc ks Z' (pc + 3) ls (r.toList ++ st) M' Q) : zV y n kc ks Z pc ls st0 M Q := by
  subst hs0
  intro p l e R s m args below meth c H locs cells slots A D ad la Qf E Wd S hl h1 h2 hr
  obtain ⟨c1, c2, c3, c4, c5, c6, c7, c8⟩ := hc
  obtain ⟨x1, x2, x3, x4, x5, x6, x7, x8, x9, x10, x11, x12, x13, x14⟩ := id E
  have hAl : ∀ v ∈ As, zlive Z v := fun v hv => h2 v (List.mem_append_left _ (List.mem_reverse.mpr hv))
  have hil : zlive Z (zR (1010 + k)) := h2 _ (List.mem_append_right _ List.mem_cons_self)
  have hM := zV_met (y := y') (As := zR (1010 + k) :: As) c7 hV (zl_1 hil hAl) hL l D ad A
  have hrec := vk_recv x14.2.2.2.1 hk S
  rw [← hcl] at hrec
  have hR : (zrm n' 0 0).frames + 1 ≤ R.frames ∧ 8 + (y'.2.2.1 + 11) + (zrm n' 0 0).locals ≤ R.locals := ⟨by show n' + 1 ≤ R.frames; omega, by show 8 + (y'.2.2.1 + 11) + 60 * n' ≤ R.locals; omega⟩
  refine zV_back (y' := y') (kc := kc) (ks := ks) (mc := 0) (ms := 0) (a := ((zR (1010 + k) :: As).map (zcv ad)).toArray) (Z := Z) ?_ E S hl h1 (fun v hv => h2 v (List.mem_append_right _ (List.mem_cons_of_mem _ hv))) hr kk
  refine va_runV (C := y'.1.cls) (As := As.map (zcv ad)) (b := ad (1010 + k)) (nL := y.2.2.1) (Ts := zT) (own := y.1.cls) (n := na) ⟨x1, x2, x3, x4, x5⟩ hM (cwV na x5 (fun w hw => ?_) rfl rfl rfl ⟨rfl, c6⟩ hR) ⟨zPc_blind, hrec, zV_pre Wd S x6 x11 x14⟩ rfl (by rw [List.length_map]; exact hna) hl.1 (by show (As.reverse ++ zR (1010 + k) :: st).map (zcv ad) = _; rw [List.map_append, List.map_cons, List.map_reverse]; rfl) (zst_sum hst) hd ⟨by omega, by omega⟩
  rcases List.mem_append.mp (show w ∈ ([.methodLink y.1.cls idx y'.1, .instanceMethod y'.1, .selects y'.1.cls y'.1 y'.1, .initialized y'.1.cls] : List Cond) ++ _ from hw) with h | h
  · simp only [List.mem_cons, List.not_mem_nil, or_false] at h
    rcases h with rfl | rfl | rfl | rfl
    · exact zT_good _ c1
    · exact zT_good _ c2
    · exact zT_good _ c3
    · exact zT_good _ c5
  · exact zT_code c4 w h
theorem zV_i2b {a : Int} (hd : decode y.2.1 pc = .ok (.i2b, 1)) (k : zV y n kc ks Z (pc + 1) ls (zI ((Int32.ofInt a).toInt8.toInt32.toInt) :: st) M Q) : zV y n kc ks Z pc ls (zI a :: st) M Q :=
  zV_mv (fun h _ => zl_1 (by exact trivial) (zl_t h)) (fun p l e R s m args below meth c H locs cells slots A D ad la Qf E Wd S hl w => lv_i2b E.1 E.2.1 hd (Int32.ofInt_toInt _).symm w) k
theorem zV_aloadN {kf : Fin 4} {i : Nat} (j : Nat) (hd : decode y.2.1 pc = .ok (.aload_n kf, 1)) (hi : (kf : Nat) = i) (hj : ls[j]? = some (i, zN)) (k : zV y n kc ks Z (pc + 1) ls (zN :: st) M Q) : zV y n kc ks Z pc ls st M Q :=
  zV_mv (fun h g => zl_1 (by exact trivial) h) (fun p l e R s m args below meth c H locs cells slots A D ad la Qf E Wd S hl w => lv_aload_nN E.1 E.2.1 hd hi (zl_at j hj hl) w) k
end ZO
