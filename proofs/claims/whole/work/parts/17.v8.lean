section ZX
theorem zT_inc {L : List Cond} {i : Nat} {w : Cond} (hL : ∀ w ∈ L, w ∈ lw_tbl) (h : L[i]? = some w) (hg : goodWord w = true) : w ∈ zT := List.mem_filter.mpr ⟨hL w (List.mem_of_getElem? h), hg⟩
theorem zL_0 : ∀ w ∈ k2_sels lw_privs, w ∈ lw_tbl := fun _ h => List.mem_append_left _ h
theorem zL_a : ∀ w ∈ tables_1, w ∈ lw_tbl := fun _ h => List.mem_append_right _ h
theorem zL_1 : ∀ w ∈ tables_1_1, w ∈ lw_tbl := fun _ h => zL_a _ (List.mem_append_left _ h)
theorem zL_2 : ∀ w ∈ tables_1_2, w ∈ lw_tbl := fun _ h => zL_a _ (List.mem_append_right _ (List.mem_append_left _ h))
theorem zL_3 : ∀ w ∈ tables_1_3, w ∈ lw_tbl := fun _ h => zL_a _ (List.mem_append_right _ (List.mem_append_right _ (List.mem_append_left _ h)))
theorem zL_4 : ∀ w ∈ tables_1_4, w ∈ lw_tbl := fun _ h => zL_a _ (List.mem_append_right _ (List.mem_append_right _ (List.mem_append_right _ (List.mem_append_left _ h))))
theorem zL_5 : ∀ w ∈ tables_1_5, w ∈ lw_tbl := fun _ h => zL_a _ (List.mem_append_right _ (List.mem_append_right _ (List.mem_append_right _ (List.mem_append_right _ (List.mem_append_left _ h)))))
theorem zL_6 : ∀ w ∈ tables_1_6, w ∈ lw_tbl := fun _ h => zL_a _ (List.mem_append_right _ (List.mem_append_right _ (List.mem_append_right _ (List.mem_append_right _ (List.mem_append_right _ (List.mem_append_left _ h))))))
theorem zL_7 : ∀ w ∈ tables_1_7, w ∈ lw_tbl := fun _ h => zL_a _ (List.mem_append_right _ (List.mem_append_right _ (List.mem_append_right _ (List.mem_append_right _ (List.mem_append_right _ (List.mem_append_right _ (List.mem_append_left _ h)))))))
theorem zL_8 : ∀ w ∈ tables_1_8, w ∈ lw_tbl := fun _ h => zL_a _ (List.mem_append_right _ (List.mem_append_right _ (List.mem_append_right _ (List.mem_append_right _ (List.mem_append_right _ (List.mem_append_right _ (List.mem_append_right _ (List.mem_append_left _ h))))))))
theorem zL_9 : ∀ w ∈ tables_1_9, w ∈ lw_tbl := fun _ h => zL_a _ (List.mem_append_right _ (List.mem_append_right _ (List.mem_append_right _ (List.mem_append_right _ (List.mem_append_right _ (List.mem_append_right _ (List.mem_append_right _ (List.mem_append_right _ (h)))))))))
variable {y : zMI} {n kc ks : Nat} {Z : zZ} {pc : Nat} {ls : List (Nat × zAV)} {st : List zAV} {M : zMem} {Q : Option zAV → zMem → zZ → Prop}
/-- a function of Math: its words -/
def zML (own : String) (idx : Nat) (x : MethodName) (cc : ByteArray) (mL : Nat) (r : FieldType) : Prop := Cond.methodLink own idx x ∈ zT ∧ Cond.static x ∈ zT ∧ Cond.initialized "java/lang/Math" ∈ zT ∧ Cond.code x cc mL (some r) ∈ zT
def zabs (a : Int) : Int := if 0 ≤ a then a else -a
theorem zst_s13 {ad : Nat → Nat} (h : (st.map zcat).sum ≤ 8) {R : Room} (hn : 1 ≤ n) (hR : 60 * n ≤ R.locals) : ((st.map (zcv ad)).map fun v => v.category).sum + 15 ≤ R.locals := by
  rw [List.map_map]
  have : ((fun v : Value => v.category) ∘ zcv ad) = zcat := funext fun v => zcat_cv ad v
  rw [this]
  omega
theorem zV_mmax {a b : Int} {idx : Nat} (hw : zML y.1.cls idx Lib.Math.max.name Lib.Math.max.code 2 .int) (hd : decode y.2.1 pc = .ok (.invokestatic idx, 3)) (hn : 1 ≤ n) (hst : (st.map zcat).sum ≤ 8) (ha : z32 a) (hb : z32 b) (k : zV y n kc ks Z (pc + 3) ls (zI (max a b) :: st) M Q) : zV y n kc ks Z pc ls (zI b :: zI a :: st) M Q := by
  refine zV_mv (fun h _ => zl_1 (by exact trivial) (zl_t (zl_t h))) (fun p l e R s m args below meth c H locs cells slots A D ad la Qf E Wd S hl w => ?_) k
  obtain ⟨x1, x2, x3, x4, x5, x6, x7, x8, x9, x10, x11, x12, x13, x14⟩ := E
  have e : zcv ad (zI (max a b)) = .int (if Int32.ofInt a < Int32.ofInt b then Int32.ofInt b else Int32.ofInt a) := by
    by_cases h : a < b
    · rw [if_pos ((z32_lt ha hb).mpr h), Int.max_eq_right (by omega)]; rfl
    · rw [if_neg (fun q => h ((z32_lt ha hb).mp q)), Int.max_eq_left (by omega)]; rfl
  rw [List.map_cons, e] at w
  have hz := zst_s13 (st := st) (ad := ad) hst hn x8
  exact va_mmax x1 x2 (x3.trans hl.1.symm) x4 (x5 _ hw.1) (x5 _ hw.2.1) (x5 _ hw.2.2.1) (x5 _ hw.2.2.2) (by omega) (by omega) (by omega) (by omega) hd w
theorem zV_mmin {a b : Int} {idx : Nat} (hw : zML y.1.cls idx Lib.Math.min.name Lib.Math.min.code 2 .int) (hd : decode y.2.1 pc = .ok (.invokestatic idx, 3)) (hn : 1 ≤ n) (hst : (st.map zcat).sum ≤ 8) (ha : z32 a) (hb : z32 b) (k : zV y n kc ks Z (pc + 3) ls (zI (min a b) :: st) M Q) : zV y n kc ks Z pc ls (zI b :: zI a :: st) M Q := by
  refine zV_mv (fun h _ => zl_1 (by exact trivial) (zl_t (zl_t h))) (fun p l e R s m args below meth c H locs cells slots A D ad la Qf E Wd S hl w => ?_) k
  obtain ⟨x1, x2, x3, x4, x5, x6, x7, x8, x9, x10, x11, x12, x13, x14⟩ := E
  have hz := zst_s13 (st := st) (ad := ad) hst hn x8
  refine va_mmin x1 x2 (x3.trans hl.1.symm) x4 (x5 _ hw.1) (x5 _ hw.2.1) (x5 _ hw.2.2.1) (x5 _ hw.2.2.2) (by omega) (by omega) (by omega) (by omega) hd ?_
  rw [List.map_cons] at w
  refine W.eq ?_ w
  congr 2
  show Value.int _ = Value.int _
  congr 1
  by_cases h : a < b
  · have h' := (z32_lt ha hb).mpr h
    have h3 : ¬ Int32.ofInt b < Int32.ofInt a := fun q => by have := (z32_lt hb ha).mp q; omega
    rw [Int.min_eq_left (by omega)]
    simp [h', h3]
  · by_cases h2 : a = b
    · subst h2; simp
    · have h' : ¬ Int32.ofInt a < Int32.ofInt b := fun q => h ((z32_lt ha hb).mp q)
      have h3 : Int32.ofInt b < Int32.ofInt a := (z32_lt hb ha).mpr (by omega)
      rw [Int.min_eq_right (by omega)]
      simp [h', h3]
theorem zV_mabs {a : Int} {idx : Nat} (hw : zML y.1.cls idx Lib.Math.abs.name Lib.Math.abs.code 1 .int) (hd : decode y.2.1 pc = .ok (.invokestatic idx, 3)) (hn : 1 ≤ n) (hst : (st.map zcat).sum ≤ 8) (ha : z32 a) (k : zV y n kc ks Z (pc + 3) ls (zI (zabs a) :: st) M Q) : zV y n kc ks Z pc ls (zI a :: st) M Q := by
  refine zV_mv (fun h _ => zl_1 (by exact trivial) (zl_t h)) (fun p l e R s m args below meth c H locs cells slots A D ad la Qf E Wd S hl w => ?_) k
  obtain ⟨x1, x2, x3, x4, x5, x6, x7, x8, x9, x10, x11, x12, x13, x14⟩ := E
  have hz := zst_s13 (st := st) (ad := ad) hst hn x8
  have e : zcv ad (zI (zabs a)) = .int (if 0 ≤ Int32.ofInt a then Int32.ofInt a else 0 - Int32.ofInt a) := by
    unfold zabs
    by_cases h : 0 ≤ a
    · rw [if_pos h, if_pos (show (0 : Int32) ≤ Int32.ofInt a from (z32_le z32_0 ha).mpr h)]; rfl
    · rw [if_neg h, if_neg (show ¬ (0 : Int32) ≤ Int32.ofInt a from fun q => h ((z32_le z32_0 ha).mp q))]
      show Value.int _ = Value.int _
      have e0 : (0 : Int32) - Int32.ofInt a = Int32.ofInt (0 - a) := (Int32.ofInt_sub 0 a).symm
      rw [e0, Int.zero_sub]
  rw [List.map_cons, e] at w
  exact va_mabs x1 x2 (x3.trans hl.1.symm) x4 (x5 _ hw.1) (x5 _ hw.2.1) (x5 _ hw.2.2.1) (x5 _ hw.2.2.2) (by omega) (by omega) (by omega) (by omega) hd w
theorem zV_mmaxl {a b : Int} {idx : Nat} (hw : zML y.1.cls idx Lib.MathLoose.max_long.x Lib.MathLoose.max_long.code 4 .long) (hd : decode y.2.1 pc = .ok (.invokestatic idx, 3)) (hn : 1 ≤ n) (hst : (st.map zcat).sum ≤ 8) (ha : z64 a) (hb : z64 b) (k : zV y n kc ks Z (pc + 3) ls (zL (max a b) :: st) M Q) : zV y n kc ks Z pc ls (zL b :: zL a :: st) M Q := by
  refine zV_mv (fun h _ => zl_1 (by exact trivial) (zl_t (zl_t h))) (fun p l e R s m args below meth c H locs cells slots A D ad la Qf E Wd S hl w => ?_) k
  obtain ⟨x1, x2, x3, x4, x5, x6, x7, x8, x9, x10, x11, x12, x13, x14⟩ := E
  have hz := zst_s13 (st := st) (ad := ad) hst hn x8
  refine va_mmax_long x1 x2 (x3.trans hl.1.symm) x4 (x5 _ hw.1) (x5 _ hw.2.1) (x5 _ hw.2.2.1) (x5 _ hw.2.2.2) (by omega) (by omega) (by omega) (by omega) hd ?_
  rw [List.map_cons] at w
  refine W.eq ?_ w
  congr 2
  show Value.long _ = Value.long _
  congr 1
  by_cases h : b < a
  · have h' := (z64_lt hb ha).mpr h
    rw [Int.max_eq_left (by omega)]
    simp [h']
  · have h' : ¬ Int64.ofInt b < Int64.ofInt a := fun q => h ((z64_lt hb ha).mp q)
    rw [Int.max_eq_right (by omega)]
    simp [h']
theorem zV_mminl {a b : Int} {idx : Nat} (hw : zML y.1.cls idx Lib.MathLoose.min_long.x Lib.MathLoose.min_long.code 4 .long) (hd : decode y.2.1 pc = .ok (.invokestatic idx, 3)) (hn : 1 ≤ n) (hst : (st.map zcat).sum ≤ 8) (ha : z64 a) (hb : z64 b) (k : zV y n kc ks Z (pc + 3) ls (zL (min a b) :: st) M Q) : zV y n kc ks Z pc ls (zL b :: zL a :: st) M Q := by
  refine zV_mv (fun h _ => zl_1 (by exact trivial) (zl_t (zl_t h))) (fun p l e R s m args below meth c H locs cells slots A D ad la Qf E Wd S hl w => ?_) k
  obtain ⟨x1, x2, x3, x4, x5, x6, x7, x8, x9, x10, x11, x12, x13, x14⟩ := E
  have hz := zst_s13 (st := st) (ad := ad) hst hn x8
  refine va_mmin_long x1 x2 (x3.trans hl.1.symm) x4 (x5 _ hw.1) (x5 _ hw.2.1) (x5 _ hw.2.2.1) (x5 _ hw.2.2.2) (by omega) (by omega) (by omega) (by omega) hd ?_
  rw [List.map_cons] at w
  refine W.eq ?_ w
  congr 2
  show Value.long _ = Value.long _
  congr 1
  by_cases h : a < b
  · have h' := (z64_lt ha hb).mpr h
    have h3 : ¬ Int64.ofInt b < Int64.ofInt a := fun q => by have := (z64_lt hb ha).mp q; omega
    rw [Int.min_eq_left (by omega)]
    simp [h', h3]
  · by_cases h2 : a = b
    · subst h2; simp
    · have h' : ¬ Int64.ofInt a < Int64.ofInt b := fun q => h ((z64_lt ha hb).mp q)
      have h3 : Int64.ofInt b < Int64.ofInt a := (z64_lt hb ha).mpr (by omega)
      rw [Int.min_eq_right (by omega)]
      simp [h', h3]
theorem z32_max {a b : Int} (ha : z32 a) (hb : z32 b) : z32 (max a b) := ⟨by have := ha.1; omega, by have := ha.2; have := hb.2; omega⟩
theorem z32_min {a b : Int} (ha : z32 a) (hb : z32 b) : z32 (min a b) := ⟨by have := ha.1; have := hb.1; omega, by have := ha.2; omega⟩
theorem z64_max {a b : Int} (ha : z64 a) (hb : z64 b) : z64 (max a b) := ⟨by have := ha.1; omega, by have := ha.2; have := hb.2; omega⟩
theorem z64_min {a b : Int} (ha : z64 a) (hb : z64 b) : z64 (min a b) := ⟨by have := ha.1; have := hb.1; omega, by have := ha.2; omega⟩
/-- a static row of the class's -/
theorem zV_gets {idx i : Nat} {nm host : String} (hw : Cond.fieldLinkNest y.1.cls idx "GlassSpindle" nm "[I" host ∈ lw_tbl) (hi : (nm = "SETTING_UNTOLD" ∧ i = 1000) ∨ (nm = "SETTING_LEAST" ∧ i = 1001) ∨ (nm = "SETTING_MOST" ∧ i = 1002)) (hz : (Z i).isSome = true) (hd : decode y.2.1 pc = .ok (.getstatic idx, 3)) (k : zV y n kc ks Z (pc + 3) ls (zR i :: st) M Q) : zV y n kc ks Z pc ls st M Q := by
  refine zV_mv (fun h _ => zl_1 (by exact hz) h) (fun p l e R s m args below meth c H locs cells slots A D ad la Qf E Wd S hl w => ?_) k
  obtain ⟨x1, x2, x3, x4, x5, x6, x7, x8, x9, x10, x11, x12, x13, x14⟩ := E
  obtain ⟨g1, ⟨a1, a2, a3⟩, -⟩ := x14
  have hl := va_Nw.use (A := args) rfl (g1 _ hw rfl)
  rcases hi with ⟨rfl, rfl⟩ | ⟨rfl, rfl⟩ | ⟨rfl, rfl⟩
  · exact va_getsN x1 x2 a1 S x4 hl (fun _ h => h) hd w
  · exact va_getsN x1 x2 a2 S x4 hl (fun _ h => h) hd w
  · exact va_getsN x1 x2 a3 S x4 hl (fun _ h => h) hd w
/-- logical shift of ints -/
def zushr (a b : Int) : Int := ((Int32.ofInt a).toUInt32 >>> ((Int32.ofInt b).toUInt32 &&& Int32.toUInt32 31)).toInt32.toInt
theorem zV_iushr {a b : Int} (hd : decode y.2.1 pc = .ok (.iushr, 1)) (k : zV y n kc ks Z (pc + 1) ls (zI (zushr a b) :: st) M Q) : zV y n kc ks Z pc ls (zI b :: zI a :: st) M Q :=
  zV_mv (fun h _ => zl_1 (by exact trivial) (zl_t (zl_t h))) (fun p l e R s m args below meth c H locs cells slots A D ad la Qf E Wd S hl w => lv_iushr E.1 E.2.1 hd (Int32.ofInt_toInt _).symm w) k
/-- a stretch is copied -/
def zcpy (M : zMem) (i0 : Nat) (sp : Int) (i1 : Nat) (dp k : Int) : zMem := fun a b => if a = i1 ∧ dp ≤ b ∧ b < dp + k then M i0 (sp + (b - dp)) else M a b
theorem zcell_arr {s : State} {D : va_G} {ad : Nat → Nat} {H : Heap} {i t n0 : Nat} (g : zcell s D Z ad M H i (.inr (t, n0))) (ht : t ≤ 6) : ∃ cell : Cell, H[ad i]? = some cell ∧ zIA s cell t ∧ (i < 1000 → cell = arrV cell.cls n0 (fun j => zev ad t (M i j))) ∧ cell.vm ≠ .unknown ∧ cell.slots.size = n0 ∧ ∀ j : Nat, j < n0 → cell.slots[j]? = some (zev ad t (M i j)) := (g ht).1
/-- an array's cell is another one -/
theorem zWd.arr {s : State} {D : va_G} {ad : Nat → Nat} {M' : zMem} {A : Nat → Prop} {H H' : Heap} (g : zWd s D Z ad M A H) {i t n0 : Nat} {cA : ClassId} {cell : Cell} (hz : Z i = some (.inr (t, n0))) (ht : t ≤ 6) (hi : i < 1000) (hc : H[ad i]? = some cell) (hcls : cell.cls = cA) (hM : ∀ (a : Nat) (b : Int), a ≠ i → M' a b = M a b) (hv : ∀ j : Nat, j < n0 → zean Z t (M' i j))
    (e1 : H'[ad i]? = some (arrV cA n0 (fun j => zev ad t (M' i j)))) (e2 : H'.size = H.size) (e3 : ∀ q, q ≠ ad i → H'[q]? = H[q]?) : zWd s D Z ad M' A H' := by
  refine ⟨fun i' h' hi' => ?_, g.2.1, g.2.2.1, fun i h hi hq => by rw [e2]; exact g.2.2.2 i h hi hq⟩
  by_cases hii : i' = i
  · subst hii
    cases hz.symm.trans hi'
    intro _
    obtain ⟨⟨cell', h1, h2, h3, h4, h5, h6⟩, h7, h8⟩ := g.1 i' _ hz ht
    cases hc.symm.trans h1
    subst hcls
    refine ⟨⟨_, e1, ?_, fun _ => rfl, ?_, by rw [arrV_size], fun k hk => by rw [arrV_read _ _ hk]⟩, h7, hv⟩
    · exact ⟨⟨fun k q => (by cases q), h2.1.2⟩, h2.2⟩
    · intro q; cases q
  · exact g.oth hi hz hi' hii (fun k => hM i' k hii) e3
theorem zV_acopy {i0 i1 n0 n1 idx : Nat} {sp dp k : Int} (hw : Cond.methodLink y.1.cls idx arraycopyName ∈ zT ∧ Cond.native arraycopyName ∈ zT ∧ Cond.static arraycopyName ∈ zT ∧ Cond.initialized "java/lang/System" ∈ zT) (hz0 : Z i0 = some (.inr (0, n0))) (hz1 : Z i1 = some (.inr (0, n1))) (hi : i1 < 1000) (hb : (0 ≤ sp ∧ sp + k ≤ n0) ∧ (0 ≤ dp ∧ dp + k ≤ n1) ∧ 0 ≤ k) (hd : decode y.2.1 pc = .ok (.invokestatic idx, 3)) (hn : 1 ≤ n) (hst : (st.map zcat).sum ≤ 8)
    (kk : zV y n kc ks Z (pc + 3) ls st (zcpy M i0 sp i1 dp k) Q) : zV y n kc ks Z pc ls (zI k :: zI dp :: zR i1 :: zI sp :: zR i0 :: st) M Q := by
  intro p l e R s m args below meth c H locs cells slots A D ad la Qf E Wd S hl h1 h2 hr
  obtain ⟨x1, x2, x3, x4, x5, x6, x7, x8, x9, x10, x11, x12, x13, x14⟩ := id E
  obtain ⟨⟨⟨b1, b2⟩, ⟨b3, b4⟩, b5⟩⟩ := (⟨hb⟩ : PLift _)
  obtain ⟨⟨c0, p1, p2, p3, p4, p5, p6⟩, p7, p8⟩ := Wd.1 i0 _ hz0 (by decide)
  obtain ⟨⟨c1, q1, q2, q3, q4, q5, q6⟩, q7, q8⟩ := Wd.1 i1 _ hz1 (by decide)
  have sz : ∀ z : Int, 0 ≤ z → z < 2 ^ 31 → (Int32.ofInt z).toInt = z ∧ (Int32.ofInt z).toNatClampNeg = z.toNat ∧ ¬ Int32.ofInt z < 0 := by
    intro z g1 g2
    have e1 : (Int32.ofInt z).toInt = z := zw_id ⟨by omega, by omega⟩
    refine ⟨e1, by show (Int32.ofInt z).toInt.toNat = _; rw [e1], fun q => ?_⟩
    rw [Int32.lt_iff_toInt_lt, e1] at q
    have : (0 : Int32).toInt = 0 := rfl
    omega
  obtain ⟨s1, s2, s3⟩ := sz sp b1 (by omega)
  obtain ⟨d1, d2, d3⟩ := sz dp b3 (by omega)
  obtain ⟨k1, k2, k3⟩ := sz k b5 (by omega)
  intro T hT X
  obtain ⟨p21, k0, hk0, cm0, hkk0⟩ := p2.1
  obtain ⟨q21, k1', hk1, cm1, hkk1⟩ := q2.1
  have hsum : ((st.map (zcv ad)).map fun v => v.category).sum ≤ 8 := by
    rw [List.map_map]
    have : ((fun v : Value => v.category) ∘ zcv ad) = zcat := funext fun v => zcat_cv ad v
    rw [this]; exact hst
  have hnw : nativeFrameWords "java/lang/System" "arraycopy" 5 ≤ 30 := by decide
  obtain ⟨vm', X', step⟩ := X.arraycopy x1 x4 (x5 _ hw.1) (x5 _ hw.2.1) (x5 _ hw.2.2.1) (x5 _ hw.2.2.2) (src := ad i0) (dst := ad i1) (cs := c0) (cd := c1) (srcPos := Int32.ofInt sp) (destPos := Int32.ofInt dp) (n := Int32.ofInt k) (by rw [hT]; exact p1) (by rw [hT]; exact q1)
    p21 q21 p4 q4 hk0 hk1 hkk0 hkk1 (by simp [refKind, zty]) s3 d3 k3
    (by rw [s1, k1, p5]; omega) (by rw [d1, k1, q5]; omega)
    (fun vm₁ _ i hi => by
      have hx : c0.slots.getD ((Int32.ofInt sp).toNatClampNeg + i) .null = .int (Int32.ofInt (M i0 ((sp.toNat + i : Nat) : Int))) := by
        rw [s2, Array.getD_eq_getD_getElem?, p6 _ (by rw [k2] at hi; omega)]; rfl
      exact ⟨by rw [hx]; rfl, by rw [hx]; trivial⟩)
    (g := F0 m pc la (.int (Int32.ofInt k) :: .int (Int32.ofInt dp) :: .ref (ad i1) :: .int (Int32.ofInt sp) :: .ref (ad i0) :: st.map (zcv ad))) rfl (by rw [x3]; exact hl.1) (rest := st.map (zcv ad)) rfl (by rw [x2]; exact hd) (by omega) (by show 2 * 0 + _ + _ ≤ _; omega)
  have e1 : copied c0 c1 (Int32.ofInt sp) (Int32.ofInt dp) (Int32.ofInt k) = arrV c1.cls n1 (fun j => zev ad 0 (zcpy M i0 sp i1 dp k i1 j)) := by
    have es : c0.stretch (Int32.ofInt sp).toNatClampNeg (Int32.ofInt k).toNatClampNeg = (List.range k.toNat).map (fun i => Value.int (Int32.ofInt (M i0 ((sp.toNat + i : Nat) : Int)))) := by
      rw [s2, k2]
      unfold Cell.stretch
      apply List.map_congr_left
      intro i hi'
      have hi2 := List.mem_range.mp hi'
      rw [Array.getD_eq_getD_getElem?, p6 _ (by omega)]
      rfl
    show c1.storeRun (Int32.ofInt dp).toNatClampNeg (c0.stretch (Int32.ofInt sp).toNatClampNeg (Int32.ofInt k).toNatClampNeg) = _
    rw [es, d2, q3 hi, Cell.storeRun, va_pairs]
    congr 1
    funext j
    simp only [List.length_map, List.length_range, Nat.add_zero, zcpy]
    by_cases h : dp.toNat ≤ j ∧ j < dp.toNat + k.toNat
    · rw [if_pos h, if_pos ⟨by trivial, by omega, by omega⟩, List.getD_eq_getElem?_getD, List.getElem?_map, List.getElem?_range (by omega)]
      show Value.int _ = Value.int _
      congr 3
      omega
    · rw [if_neg h, if_neg (by omega)]
  rw [e1] at X' step
  have hlt : ad i1 < H.size := (Array.getElem?_eq_some_iff.mp q1).1
  have oq : ∀ q : Nat, q ≠ ad i1 → (H.setIfInBounds (ad i1) (arrV c1.cls n1 (fun j => zev ad 0 (zcpy M i0 sp i1 dp k i1 j))))[q]? = H[q]? := fun q hq => by simp [Array.getElem?_setIfInBounds, Ne.symm hq]
  have hWd' : zWd s D Z ad (zcpy M i0 sp i1 dp k) A (H.setIfInBounds (ad i1) (arrV c1.cls n1 (fun j => zev ad 0 (zcpy M i0 sp i1 dp k i1 j)))) := by
    refine Wd.arr hz1 (by decide) hi q1 rfl (fun a b hab => ?_) (fun j hj => ?_) (by simp [Array.getElem?_setIfInBounds, hlt]) (by simp) oq
    · unfold zcpy; rw [if_neg (fun q => hab q.1)]
    · unfold zcpy
      by_cases h : dp ≤ (j : Int) ∧ (j : Int) < dp + k
      · rw [if_pos ⟨rfl, h⟩]
        have := p8 (sp + (j - dp)).toNat (by omega)
        rw [show (((sp + ((j : Int) - dp)).toNat : Nat) : Int) = sp + ((j : Int) - dp) by omega] at this
        exact this
      · rw [if_neg (fun q => h q.2)]; exact q8 j hj
  have hA1 := Wd.2.2.1 i1 _ hz1 hi
  obtain ⟨t, a1, b1⟩ := kk p l e R s m args below meth c _ _ cells slots A D ad la Qf E hWd' (⟨by simp; exact S.1, fun q g1 g2 => by
      rw [oq q (fun e => g2 (by rw [e]; exact hA1))]
      exact S.2.1 q g1 g2, fun q hq => by
      rcases List.mem_append.mp hq with h | h
      · exact S.2.2 q h
      · obtain ⟨z, -, hz⟩ := List.mem_map.mp h
        rw [← hz]
        exact hA1⟩) hl h1 (zl_t (zl_t (zl_t (zl_t (zl_t h2))))) hr _ (by rw [← hT]; rfl) X'
  exact ⟨t, step t a1, b1⟩
end ZX
