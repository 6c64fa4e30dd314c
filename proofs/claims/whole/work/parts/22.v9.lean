/-- the reader's cell before its first reading -/
def zRd0 : zSh := .inl (6, [20, 32, -3, -1, -1, -1])
theorem zB_out {Z : zZ} (hZ : zB Z) : zB (zuz Z 30 zRd) := by
  intro q hq
  have h : q.1 ≠ 30 := by
    intro e
    have : ∀ q ∈ zZl, q.1 ≠ 30 := by decide +kernel
    exact this q hq e
  unfold zuz
  rw [if_neg h]
  exact hZ q hq
theorem zRx {Z : zZ} (h : Z 30 = some zRd0 ∨ Z 30 = some zRd) : ∃ ksl : List Int, Z 30 = some (.inl (6, ksl)) := by
  rcases h with h | h <;> exact ⟨_, h⟩
theorem zR_out (Z : zZ) : zuz Z 30 zRd 30 = some zRd := by unfold zuz; rw [if_pos rfl]
section ZO
variable {y : zMI} {n kc ks : Nat} {Z : zZ} {pc : Nat} {ls : List (Nat × zAV)} {st : List zAV} {M : zMem} {Q : Option zAV → zMem → zZ → Prop}
theorem zV_cVIz {α : Type} (Z1 : zZ) {y' : zMI} {n' na idx : Nat} {i ci : Nat} {T : u_T} {N : Nat} {As st0 : List zAV} {f : Option (Int × zMem)} {k : Int → zMem → Option α} {P : α → Prop} (hc : zCV y.1.cls idx y' na) (hz : ∃ ksl : List Int, Z i = some (.inl (ci, ksl))) (hcl : vwCl[ci]? = some (y'.1.cls, T, N)) (hd : decode y.2.1 pc = .ok (.invokevirtual idx, 3)) (hn : n' + 1 ≤ n) (hna : As.length = na) (hL : ((zR i :: As).map zcat).sum ≤ y'.2.2.1) (hst : (st.map zcat).sum ≤ 8) (hs0 : st0 = As.reverse ++ zR i :: st) (h : zSat (zbd2 f k) P)
    (hok : ∀ Q' : Option zAV → zMem → zZ → Prop, zSat f (fun r => Q' (some (zI r.1)) r.2 Z1) → zV y' n' 0 0 Z 0 (zent 0 (zR i :: As)) [] M Q') (kk : ∀ (r : Int) (M1 : zMem), z32 r → (y'.2.2.2 = some .boolean → r = 0 ∨ r = 1) → zSat (k r M1) P → zV y n 0 0 Z1 (pc + 3) ls (zI r :: st) M1 Q) : zV y n 0 0 Z pc ls st0 M Q := by
  obtain ⟨ksl, hz⟩ := hz
  refine zV_callV (kc := 0) (ks := 0) (mc := 0) (ms := 0) (Q' := fun o M' Z' => ∃ (r : Int), o = some (zI r) ∧ Z' = Z1 ∧ zSat (k r M') P) hc hz hcl hd hn hna hL hst hs0 (hok _ (zs_m (zs_b2 h) (fun x hx => ⟨x.1, rfl, rfl, hx⟩))) ?_
  intro r M1 Z1 hcan hq
  obtain ⟨x, rfl, rfl, hx⟩ := hq
  exact kk x M1 hcan.1 hcan.2 hx
/-- the reader is told where to read to -/
theorem zV_putO {idx k : Nat} {C nm dsc : String} {fin : Bool} {ty : FieldType} (hR0 : Z 30 = some zRd0 ∨ Z 30 = some zRd) (hZ : zB Z) (hF : zFld 6 k C nm dsc fin ty) (hw : Cond.fieldLink y.1.cls idx C nm dsc ∈ zT) (hd : decode y.2.1 pc = .ok (.putfield idx, 3)) (hk : k = 2) (hfin : fin = false) (hfit : ∀ a : Nat, narrow ty (.ref a) = .ref a ∧ fits ty (.ref a) = true) (kk : zV y n kc ks (zuz Z 30 zRd) (pc + 3) ls st M Q) : zV y n kc ks Z pc ls (zR 60 :: zR 30 :: st) M Q := by
  subst hk; subst hfin
  intro p l e R s m args below meth c H locs cells slots A D ad la Qf E Wd S hl h1 h2 hr
  obtain ⟨T, N, ty0, f1, f2, f3, f4, f5, f6, f7⟩ := hF
  have hz60 := zq_60 hZ
  obtain ⟨ksl, hz30, hlen, hkinds⟩ : ∃ ksl : List Int, Z 30 = some (.inl (6, ksl)) ∧ ksl.length = 6 ∧ ∀ k : Nat, k < 6 → k ≠ 2 → ksl.getD k (-1) = [20, 32, 60, -1, -1, -1].getD k (-1) := by
    rcases hR0 with h | h
    · exact ⟨_, h, rfl, by decide⟩
    · exact ⟨_, h, rfl, by decide⟩
  obtain ⟨⟨r, g1, g2, cell, q1, q2, q3, q4⟩, g4⟩ := Wd.1 30 _ hz30
  cases f1.symm.trans g1
  have hN : N = 6 := g2.trans hlen
  subst hN
  have hK := E.2.2.2.2.2.1
  have hts := E.2.2.2.2.1
  have hap := va_apart (own := y.1.cls) hts f5 ty0 f6 f7 hK f1
  obtain ⟨hS, hfc, kC, hkC, hkind⟩ := hK.1 6 _ f1
  obtain ⟨cf, kf, fi, f, hfi, hsl⟩ := hS 2 f2
  have hlay := hts _ (f5 _ (u_in_lay f2))
  unfold u_lay at hlay
  have hfi : s.fieldFound? (T 2).1 (T 2).2.1 (T 2).2.2.1 = some (cf, kf, fi, f) := hfi
  rw [f3] at hlay hfi
  simp only [Bool.false_eq_true, if_false] at hlay
  have hst := (u_facts hfc hkC (Or.inl hlay) hfi).1
  have h6 := u_store hfc hkC hkind hlay hfi f4 (hfit (ad 60)).1 (hfit (ad 60)).2
  refine W.putK E.1 E.2.1 (f := f) (v := .ref (ad 60)) (rest := st.map (zcv ad)) ⟨E.2.2.2.1, hts _ hw, ⟨_, _, _, hfi⟩, hst⟩ (by rw [q2]; exact h6) q1 q3 (by rw [hsl]; exact k2_hasslot (q4 2 f2)) rfl rfl hd fun H' e1 e2 e3 => ?_
  rw [hsl] at e1
  have hal : ∀ i : Nat, (Z i).isSome = true → (zuz Z 30 zRd i).isSome = true := by
    intro i hi
    unfold zuz
    split
    · rfl
    · exact hi
  have hkan : ∀ (kd x : Int), zkan Z kd x → zkan (zuz Z 30 zRd) kd x := by
    intro kd x hx
    unfold zkan at hx ⊢
    split
    · rw [if_pos (by assumption)] at hx; exact hx
    · rw [if_neg (by assumption)] at hx
      split
      · rw [if_pos (by assumption)] at hx; exact hx
      · rw [if_neg (by assumption)] at hx
        split
        · rw [if_pos (by assumption)] at hx; exact hx.imp id (hal _)
        · rw [if_neg (by assumption)] at hx; exact hal _ hx
  have hean : ∀ (t : Nat) (x : Int), zean Z t x → zean (zuz Z 30 zRd) t x := by
    intro t x hx
    unfold zean at hx ⊢
    split
    · rw [if_pos (by assumption)] at hx; exact hx
    · rw [if_neg (by assumption)] at hx
      split
      · rw [if_pos (by assumption)] at hx; exact hx.imp id (hal _)
      · rw [if_neg (by assumption)] at hx; exact hx
  have hcell : ∀ (i : Nat) (h : zSh), Z i = some h → i ≠ 30 → zcell s D (zuz Z 30 zRd) ad M H' i h := by
    intro i h hi hne
    have g := Wd.oth (M' := M) (H' := H') (by decide) hz30 hi hne (fun _ => rfl) e3
    rcases h with ⟨ci, kss⟩ | ⟨t, n0⟩
    · exact ⟨g.1, fun k hk => hkan _ _ (g.2 k hk)⟩
    · intro ht
      obtain ⟨a1, a2, a3⟩ := g ht
      exact ⟨a1, a2, fun j hj => hean _ _ (a3 j hj)⟩
  have hWd : zWd s D (zuz Z 30 zRd) ad M A H' := by
    refine ⟨fun i h hi => ?_, fun i j h g hi1 hi hj hq hij => ?_, fun i h hi hi1 => ?_, fun i h hi hq => ?_⟩
    · by_cases hne : i = 30
      · subst hne
        rw [zR_out] at hi
        cases hi
        refine ⟨⟨_, f1, rfl, t_OB.to (V := updV (fun k => zsv ad (ksl.getD k (-1)) (M 30 k)) 2 (.ref (ad 60))) ⟨_, e1, q2, q3, t_set q4 hap f2 _⟩ (fun j hj => ?_)⟩, fun k hk => ?_⟩
        · unfold updV
          by_cases hj2 : j = 2
          · subst hj2; rw [if_pos rfl]; rfl
          · rw [if_neg hj2]
            show zsv ad (ksl.getD j (-1)) (M 30 j) = _
            rw [hkinds j hj hj2]
        · have hk6 : k < 6 := hk
          by_cases hk2 : k = 2
          · subst hk2
            show zkan _ 60 _
            unfold zkan
            rw [if_neg (by decide), if_neg (by decide), if_neg (by decide)]
            show (zuz Z 30 zRd 60).isSome = true
            unfold zuz
            rw [if_neg (by decide), hz60]; rfl
          · have := hkan _ _ (g4 k (by rw [hlen]; exact hk6))
            rw [hkinds k hk6 hk2] at this
            exact this
      · unfold zuz at hi
        rw [if_neg hne] at hi
        exact hcell i h hi hne
    · have back : ∀ (i : Nat) (h : zSh), zuz Z 30 zRd i = some h → ∃ g, Z i = some g ∧ (i < 1000 ∨ g = h) := by
        intro i h hi
        unfold zuz at hi
        split at hi
        · rename_i q; subst q; exact ⟨_, hz30, Or.inl (by decide)⟩
        · exact ⟨_, hi, Or.inr rfl⟩
      obtain ⟨a, ha, -⟩ := back i h hi
      obtain ⟨b, hb, hb2⟩ := back j g hj
      exact Wd.2.1 i j a b hi1 ha hb (hb2.elim Or.inl (fun e => by rw [e]; exact hq)) hij
    · have : ∃ g, Z i = some g := by
        unfold zuz at hi
        split at hi
        · rename_i q; subst q; exact ⟨_, hz30⟩
        · exact ⟨_, hi⟩
      obtain ⟨a, ha⟩ := this
      exact Wd.2.2.1 i a ha hi1
    · have : ∃ g, Z i = some g ∧ (i < 1000 ∨ g = h) := by
        unfold zuz at hi
        split at hi
        · rename_i q; subst q; exact ⟨_, hz30, Or.inl (by decide)⟩
        · exact ⟨_, hi, Or.inr rfl⟩
      obtain ⟨a, ha, ha2⟩ := this
      rw [e2]
      exact Wd.2.2.2 i a ha (ha2.elim Or.inl (fun e => by rw [e]; exact hq))
  have hE : zExt Z ad (zuz Z 30 zRd) ad := ⟨fun i hi => ⟨hal i hi, rfl⟩, fun _ _ => rfl⟩
  exact kk p l e R s m args below meth c H' _ cells slots A D ad la Qf E hWd (S.put e2 e3 (Wd.2.2.1 30 _ hz30 (by decide))) hl (fun q hq => (hE.cv (h1 q hq)).2) (fun v hv => (hE.cv (h2 v (List.mem_cons_of_mem _ (List.mem_cons_of_mem _ hv)))).2) (fun r2 M2 Z2 ad2 H2 locs2 c2 s2 pc2 la2 a1 => hr r2 M2 Z2 ad2 H2 locs2 c2 s2 pc2 la2 (hE.tr a1))
theorem zlo_n {a k o d : Int} {r : List (Int × Int)} (h : ¬ k = a) : Op.lookupswitch.offset ((a, o) :: r) d k = Op.lookupswitch.offset r d k := by
  simp [Op.lookupswitch.offset, Ne.symm h]
theorem zlo_e {d k : Int} : Op.lookupswitch.offset [] d k = d := rfl
theorem zV_ldS {idx i : Nat} (hi : (y.1.cls = "GlassSpindle$Tape" ∧ idx = 63 ∧ i = 1010) ∨ (y.1.cls = "GlassSpindle$Tape" ∧ idx = 56 ∧ i = 1011) ∨ (y.1.cls = "GlassSpindle$Law" ∧ idx = 15 ∧ i = 1010)) (hz : (Z i).isSome = true) (hd : decode y.2.1 pc = .ok (.ldc idx, 2)) (k : zV y n kc ks Z (pc + 2) ls (zR i :: st) M Q) : zV y n kc ks Z pc ls st M Q := by
  refine zV_mv (fun h _ => zl_1 (by exact hz) h) (fun p l e R s m args below meth c H locs cells slots A D ad la Qf E Wd S hl w => ?_) k
  obtain ⟨x1, x2, x3, x4, x5, x6, x7, x8, x9, x10, x11, x12, x13, x14⟩ := E
  obtain ⟨g1, -, ⟨b1, b2, b3⟩, -⟩ := x14
  rcases hi with ⟨hc, rfl, rfl⟩ | ⟨hc, rfl, rfl⟩ | ⟨hc, rfl, rfl⟩
  · rw [hc] at x4; exact va_ldcS x1 x2 x4 b2 hd w
  · rw [hc] at x4; exact va_ldcS x1 x2 x4 b3 hd w
  · rw [hc] at x4; exact va_ldcS x1 x2 x4 b1 hd w
/-- the texts: their rows of bytes, their coder -/
def zBy (k : Nat) (j : Int) : Int := ((zSb.getD k []).getD j.toNat 0).toInt
theorem zV_kval {idx k : Nat} (hk : k < 2) (hw : Cond.fieldLink y.1.cls idx "java/lang/String" "value" "[B" ∈ zT) (hz : (Z (1020 + k)).isSome = true) (hd : decode y.2.1 pc = .ok (.getfield idx, 3)) (kk : zV y n kc ks Z (pc + 3) ls (zR (1020 + k) :: st) M Q) : zV y n kc ks Z pc ls (zR (1010 + k) :: st) M Q := by
  refine zV_mv (fun h _ => zl_1 (by exact hz) (zl_t h)) (fun p l e R s m args below meth c H locs cells slots A D ad la Qf E Wd S hl w => ?_) kk
  obtain ⟨x1, x2, x3, x4, x5, x6, x7, x8, x9, x10, x11, x12, x13, x14⟩ := E
  obtain ⟨g1, -, -, g4, -⟩ := x14
  exact vk_getf x1 x2 (g4.1 k hk).2.2.1 S x4 (x5 _ hw) (fun _ h => h) hd w
theorem zV_kcod {idx k : Nat} (hk : k < 2) (hw : Cond.fieldLink y.1.cls idx "java/lang/String" "coder" "B" ∈ zT) (hd : decode y.2.1 pc = .ok (.getfield idx, 3)) (kk : zV y n kc ks Z (pc + 3) ls (zI 0 :: st) M Q) : zV y n kc ks Z pc ls (zR (1010 + k) :: st) M Q := by
  refine zV_mv (fun h _ => zl_1 (by exact trivial) (zl_t h)) (fun p l e R s m args below meth c H locs cells slots A D ad la Qf E Wd S hl w => ?_) kk
  obtain ⟨x1, x2, x3, x4, x5, x6, x7, x8, x9, x10, x11, x12, x13, x14⟩ := E
  obtain ⟨g1, -, -, g4, -⟩ := x14
  exact vk_getf x1 x2 (g4.1 k hk).2.1 S x4 (x5 _ hw) (fun _ h => h) hd w
theorem zV_kcmp {idx : Nat} (hw : Cond.fieldLink y.1.cls idx "java/lang/String" "COMPACT_STRINGS" "Z" ∈ zT) (hd : decode y.2.1 pc = .ok (.getstatic idx, 3)) (kk : zV y n kc ks Z (pc + 3) ls (zI 1 :: st) M Q) : zV y n kc ks Z pc ls st M Q := by
  refine zV_mv (fun h _ => zl_1 (by exact trivial) h) (fun p l e R s m args below meth c H locs cells slots A D ad la Qf E Wd S hl w => ?_) kk
  obtain ⟨x1, x2, x3, x4, x5, x6, x7, x8, x9, x10, x11, x12, x13, x14⟩ := E
  obtain ⟨g1, -, -, -, g5, -⟩ := x14
  exact va_gets x1 x2 g5 S x4 (x5 _ hw) (fun _ h => h) hd w
theorem zV_kfmt {idx : Nat} (hw : Cond.fieldLink y.1.cls idx "jdk/internal/util/Preconditions" "SIOOBE_FORMATTER" "Ljava/util/function/BiFunction;" ∈ zT) (hz : (Z 1030).isSome = true) (hd : decode y.2.1 pc = .ok (.getstatic idx, 3)) (k1 : zV y n kc ks Z (pc + 3) ls (zN :: st) M Q) (k2 : zV y n kc ks Z (pc + 3) ls (zR 1030 :: st) M Q) : zV y n kc ks Z pc ls st M Q := by
  intro p l e R s m args below meth c H locs cells slots A D ad la Qf E Wd S hl h1 h2 hr
  obtain ⟨x1, x2, x3, x4, x5, x6, x7, x8, x9, x10, x11, x12, x13, x14⟩ := id E
  obtain ⟨g1, -, -, -, -, g6, -⟩ := x14
  rcases g6 with g6 | g6
  · exact va_gets x1 x2 g6 S x4 (x5 _ hw) (fun _ h => h) hd (k1 p l e R s m args below meth c H locs cells slots A D ad la Qf E Wd S hl h1 (zl_1 (by exact trivial) h2) hr)
  · exact va_gets x1 x2 g6 S x4 (x5 _ hw) (fun _ h => h) hd (k2 p l e R s m args below meth c H locs cells slots A D ad la Qf E Wd S hl h1 (zl_1 (by exact hz) h2) hr)
theorem zV_klen {k : Nat} {v : Int} (hk : k < 2) (hv : v = (zSl.getD k 0 : Nat)) (hd : decode y.2.1 pc = .ok (.arraylength, 1)) (kk : zV y n kc ks Z (pc + 1) ls (zI v :: st) M Q) : zV y n kc ks Z pc ls (zR (1020 + k) :: st) M Q := by
  refine zV_mv (fun h _ => zl_1 (by exact trivial) (zl_t h)) (fun p l e R s m args below meth c H locs cells slots A D ad la Qf E Wd S hl w => ?_) kk
  obtain ⟨x1, x2, x3, x4, x5, x6, x7, x8, x9, x10, x11, x12, x13, x14⟩ := E
  obtain ⟨g1, -, -, g4, -⟩ := x14
  obtain ⟨cell, t1, t2, t3, t4, t5, t6, t7⟩ := (g4.1 k hk).2.2.2.kept S.2.1
  refine W.alen x1 x2 (n := Int32.ofInt v) (rest := st.map (zcv ad)) t1 t2 (by rw [t5, hv]; rfl) rfl rfl hd w
theorem zV_kbyt {k : Nat} {j : Int} (hk : k < 2) (hj : 0 ≤ j ∧ j < (zSl.getD k 0 : Nat)) (hd : decode y.2.1 pc = .ok (.baload, 1)) (kk : zV y n kc ks Z (pc + 1) ls (zI (zBy k j) :: st) M Q) : zV y n kc ks Z pc ls (zI j :: zR (1020 + k) :: st) M Q := by
  refine zV_mv (fun h _ => zl_1 (by exact trivial) (zl_t (zl_t h))) (fun p l e R s m args below meth c H locs cells slots A D ad la Qf E Wd S hl w => ?_) kk
  obtain ⟨x1, x2, x3, x4, x5, x6, x7, x8, x9, x10, x11, x12, x13, x14⟩ := E
  obtain ⟨g1, -, -, g4, -⟩ := x14
  obtain ⟨cell, t1, t2, t3, t4, t5, t6, t7⟩ := (g4.1 k hk).2.2.2.kept S.2.1
  have hN : zSl.getD k 0 < 2 ^ 31 := by
    rcases (show k = 0 ∨ k = 1 by omega) with rfl | rfl <;> decide
  obtain ⟨c1, c2, c3, c4⟩ := zclamp hN hj.1 hj.2
  have hsz : (Int32.ofInt j).toNatClampNeg < cell.slots.size := by rw [c1]; omega
  have e : zcv ad (zI (zBy k j)) = .int ((zSb.getD k []).getD j.toNat 0) := congrArg Value.int (Int32.ofInt_toInt _)
  rw [List.map_cons, e] at w
  refine W.bald x1 x2 (v := .int ((zSb.getD k []).getD j.toNat 0)) (rest := st.map (zcv ad)) t1 t2 t3 (fun q => ?_) ?_ rfl rfl hd w
  · rcases q with q | q
    · exact c2 (Or.inl q)
    · omega
  · rw [c1]; exact t6 j.toNat c4
/-- a method of a text is called -/
theorem zV_callK {y' : zMI} {n' na k idx : Nat} {As st0 : List zAV} {Q' : Option zAV → zMem → zZ → Prop} (hc : zCV y.1.cls idx y' na) (hk : k < 2) (hcl : y'.1.cls = "java/lang/String") (hd : decode y.2.1 pc = .ok (.invokevirtual idx, 3)) (hn : n' + 1 ≤ n) (hna : As.length = na) (hL : ((zR (1010 + k) :: As).map zcat).sum ≤ y'.2.2.1) (hst : (st.map zcat).sum ≤ 8) (hs0 : st0 = As.reverse ++ zR (1010 + k) :: st)
    (hV : zV y' n' 0 0 Z 0 (zent 0 (zR (1010 + k) :: As)) [] M Q') (kk : ∀ (r : Option zAV) (M' : zMem) (Z' : zZ), zcan y'.2.2.2 r → Q' r M' Z' → zV y n kc ks Z' (pc + 3) ls (r.toList ++ st) M' Q) : zV y n kc ks Z pc ls st0 M Q := by
  subst hs0
  intro p l e R s m args below meth c H locs cells slots A D ad la Qf E Wd S hl h1 h2 hr
  obtain ⟨c1, c2, c3, c4, c5, c6, c7, c8⟩ := hc
  obtain ⟨x1, x2, x3, x4, x5, x6, x7, x8, x9, x10, x11, x12, x13, x14⟩ := id E
  have hAl : ∀ v ∈ As, zlive Z v := fun v hv => h2 v (List.mem_append_left _ (List.mem_reverse.mpr hv))
  have hil : zlive Z (zR (1010 + k)) := h2 _ (List.mem_append_right _ List.mem_cons_self)
  have hM := zV_met (y := y') (As := zR (1010 + k) :: As) c7 hV (zl_1 hil hAl) hL l D ad A
  have hrec := vk_recv x14.2.2.2.1 hk S
  rw [← hcl] at hrec
  have hR : (zrm n' 0 0).frames + 1 ≤ R.frames ∧ 8 + (y'.2.2.1 + 11) + (zrm n' 0 0).locals ≤ R.locals := ⟨by show n' + 1 ≤ R.frames; omega, by show 8 + (y'.2.2.1 + 11) + 60 * n' ≤ R.locals; omega⟩
  refine zV_back (y' := y') (kc := kc) (ks := ks) (mc := 0) (ms := 0) (a := ((zR (1010 + k) :: As).map (zcv ad)).toArray) (Z := Z) ?_ E S hl h1 (fun v hv => h2 v (List.mem_append_right _ (List.mem_cons_of_mem _ hv))) hr kk
  refine va_runV (C := y'.1.cls) (As := As.map (zcv ad)) (b := ad (1010 + k)) (nL := y.2.2.1) (Ts := zT) (own := y.1.cls) (n := na) ⟨x1, x2, x3, x4, x5⟩ hM (cwV na x5 (fun w hw => ?_) rfl rfl rfl ⟨rfl, c6⟩ hR) ⟨zPc_blind, hrec, zV_pre Wd S x6 x11 x14⟩ rfl (by rw [List.length_map]; exact hna) hl.1 (by show (As.reverse ++ zR (1010 + k) :: st).map (zcv ad) = _; rw [List.map_append, List.map_cons, List.map_reverse]; rfl) (zst_sum hst) hd ⟨by omega, by omega⟩
  rcases List.mem_append.mp (show w ∈ ([.methodLink y.1.cls idx y'.1, .instanceMethod y'.1, .selects y'.1.cls y'.1 y'.1, .initialized y'.1.cls] : List Cond) ++ _ from hw) with h | h
  · simp only [List.mem_cons, List.not_mem_nil, or_false] at h
    rcases h with rfl | rfl | rfl | rfl
    · exact zT_good _ c1
    · exact zT_good _ c2
    · exact zT_good _ c3
    · exact zT_good _ c5
  · exact zT_code c4 w h
theorem zV_i2b {a : Int} (hd : decode y.2.1 pc = .ok (.i2b, 1)) (k : zV y n kc ks Z (pc + 1) ls (zI ((Int32.ofInt a).toInt8.toInt32.toInt) :: st) M Q) : zV y n kc ks Z pc ls (zI a :: st) M Q :=
  zV_mv (fun h _ => zl_1 (by exact trivial) (zl_t h)) (fun p l e R s m args below meth c H locs cells slots A D ad la Qf E Wd S hl w => lv_i2b E.1 E.2.1 hd (Int32.ofInt_toInt _).symm w) k
theorem zV_aloadN {kf : Fin 4} {i : Nat} (j : Nat) (hd : decode y.2.1 pc = .ok (.aload_n kf, 1)) (hi : (kf : Nat) = i) (hj : ls[j]? = some (i, zN)) (k : zV y n kc ks Z (pc + 1) ls (zN :: st) M Q) : zV y n kc ks Z pc ls st M Q :=
  zV_mv (fun h g => zl_1 (by exact trivial) h) (fun p l e R s m args below meth c H locs cells slots A D ad la Qf E Wd S hl w => lv_aload_nN E.1 E.2.1 hd hi (zl_at j hj hl) w) k
end ZO
