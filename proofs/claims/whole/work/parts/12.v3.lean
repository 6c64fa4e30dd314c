section ZM
theorem zup_ne {M : zMem} {c a : Nat} {k v b : Int} (h : a ≠ c) : zup M c k v a b = M a b := by unfold zup; rw [if_neg (fun q => h q.1)]
theorem zup_nk {M : zMem} {c a : Nat} {k v b : Int} (h : b ≠ k) : zup M c k v a b = M a b := by unfold zup; rw [if_neg (fun q => h q.2)]
theorem zup_eq {M : zMem} {c : Nat} {k v : Int} : zup M c k v c k = v := by unfold zup; rw [if_pos ⟨rfl, rfl⟩]
theorem zcell.kept {s : State} {D : va_G} {Z : zZ} {ad : Nat → Nat} {M M' : zMem} {H H' : Heap} {i : Nat} {h : zSh} (g : zcell s D Z ad M H i h) (hM : ∀ k : Int, M' i k = M i k) (hH : H'[ad i]? = H[ad i]?) : zcell s D Z ad M' H' i h := by
  rcases h with ⟨ci, ks⟩ | ⟨t, n⟩
  · obtain ⟨⟨r, h1, h2, h3⟩, h4⟩ := g
    refine ⟨⟨r, h1, h2, (h3.kept hH).to (fun k _ => by rw [hM])⟩, fun k hk => by rw [hM]; exact h4 k hk⟩
  · intro ht
    obtain ⟨⟨cell, h1, h2, h3, h4, h5, h6⟩, h7, h8⟩ := g ht
    refine ⟨⟨cell, by rw [hH]; exact h1, h2, fun q => ?_, h4, h5, fun j hj => by rw [hM]; exact h6 j hj⟩, h7, fun j hj => by rw [hM]; exact h8 j hj⟩
    have := h3 q
    simp only [hM]
    exact this
theorem zcell.moved {u U : State} (hvm : u.vm.Alike U.vm) {D : va_G} {Z : zZ} {ad : Nat → Nat} {M : zMem} {H : Heap} {i : Nat} {h : zSh} (g : zcell u D Z ad M H i h) : zcell U D Z ad M H i h := by
  rcases h with ⟨ci, ks⟩ | ⟨t, n⟩
  · exact g
  · intro ht
    obtain ⟨⟨cell, h1, h2, h3⟩, h4⟩ := g ht
    exact ⟨⟨cell, h1, ⟨State.isArrayOf_alike hvm h2.1, fun q => (h2.2 q).moved hvm⟩, h3⟩, h4⟩
theorem zWd.moved {u U : State} (hvm : u.vm.Alike U.vm) {D : va_G} {Z : zZ} {ad : Nat → Nat} {M : zMem} {A : Nat → Prop} {H : Heap} (g : zWd u D Z ad M A H) : zWd U D Z ad M A H := ⟨fun i h hi => (g.1 i h hi).moved hvm, g.2⟩
theorem zclamp {j : Int} {n : Nat} (hn : n < 2 ^ 31) (h0 : 0 ≤ j) (h : j < n) : (Int32.ofInt j).toNatClampNeg = j.toNat ∧ ¬ (Int32.ofInt j < 0 ∨ n ≤ (Int32.ofInt j).toNatClampNeg) ∧ ((j.toNat : Nat) : Int) = j ∧ j.toNat < n := by
  have e : (Int32.ofInt j).toInt = j := zw_id ⟨by omega, by omega⟩
  have e2 : (Int32.ofInt j).toNatClampNeg = j.toNat := by
    show (Int32.ofInt j).toInt.toNat = j.toNat
    rw [e]
  refine ⟨e2, fun q => ?_, by omega, by omega⟩
  rcases q with q | q
  · rw [Int32.lt_iff_toInt_lt, e] at q
    have : (0 : Int32).toInt = 0 := rfl
    omega
  · rw [e2] at q; omega
/-- another cell than the one that is written (one of which nothing is known: shape (9, 0)) -/
theorem zWd.oth {s : State} {D : va_G} {Z : zZ} {ad : Nat → Nat} {M M' : zMem} {A : Nat → Prop} {H H' : Heap} (g : zWd s D Z ad M A H) {i i' : Nat} {h h' : zSh} (hi : i < 1000) (hz : Z i = some h) (hi' : Z i' = some h') (hne : i' ≠ i) (hM : ∀ k : Int, M' i' k = M i' k) (e3 : ∀ q, q ≠ ad i → H'[q]? = H[q]?) : zcell s D Z ad M' H' i' h' := by
  by_cases e : h' = .inr (9, 0)
  · subst e
    intro q
    exact absurd q (by decide)
  · exact (g.1 i' h' hi').kept hM (e3 _ (fun q => hne ((g.2.1 i i' _ _ hi hz hi' (Or.inr e) q.symm).symm)))
/-- behind a store into an array -/
theorem zWd.sta {s : State} {D : va_G} {Z : zZ} {ad : Nat → Nat} {M : zMem} {A : Nat → Prop} {H H' : Heap} (g : zWd s D Z ad M A H) {i t n : Nat} {j v : Int} {cell : Cell} (hz : Z i = some (.inr (t, n))) (ht : t ≤ 6) (hi : i < 1000) (h0 : 0 ≤ j) (hj : j < n) (hv : zean Z t v) (hc : H[ad i]? = some cell)
    (e1 : H'[ad i]? = some (cell.setSlot j.toNat (zev ad t v))) (e2 : H'.size = H.size) (e3 : ∀ q, q ≠ ad i → H'[q]? = H[q]?) : zWd s D Z ad (zup M i j v) A H' := by
  refine ⟨fun i' h' hi' => ?_, g.2.1, g.2.2.1, fun i h hi hq => by rw [e2]; exact g.2.2.2 i h hi hq⟩
  by_cases hii : i' = i
  · subst hii
    cases hz.symm.trans hi'
    intro _
    obtain ⟨⟨cell', h1, h2, h3, h4, h5, h6⟩, h7, h8⟩ := g.1 i' _ hz ht
    cases hc.symm.trans h1
    have e := h3 hi
    have hjn : j.toNat < n := by omega
    have hjj : ((j.toNat : Nat) : Int) = j := by omega
    have ez : ∀ k : Nat, updV (fun j => zev ad t (M i' j)) j.toNat (zev ad t v) k = zev ad t (zup M i' j v i' k) := by
      intro k
      unfold updV
      by_cases hk : k = j.toNat
      · subst hk; rw [if_pos rfl, hjj, zup_eq]
      · rw [if_neg hk, zup_nk (by omega)]
    have ec : cell.setSlot j.toNat (zev ad t v) = arrV cell.cls n (fun k => zev ad t (zup M i' j v i' k)) := by
      rw [e, arrV_store]
      exact congrArg _ (funext ez)
    refine ⟨⟨_, e1, ?_, fun _ => by rw [ec]; rfl, ?_, by rw [ec, arrV_size], fun k hk => by rw [ec, arrV_read _ _ hk]⟩, h7, fun k hk => ?_⟩
    · rw [ec]
      rw [e] at h2
      exact h2
    · rw [ec]; intro q; cases q
    · by_cases hk2 : (k : Int) = j
      · rw [hk2, zup_eq]; exact hv
      · rw [zup_nk hk2]; exact h8 k hk
  · exact g.oth hi hz hi' hii (fun k => zup_ne hii) e3
/-- a field of a class: its place in the table -/
def zFld (ci k : Nat) (C nm dsc : String) (fin : Bool) (ty : FieldType) : Prop := ∃ (T : u_T) (N : Nat) (ty0 : Nat → FieldType), vwCl[ci]? = some (C, T, N) ∧ k < N ∧ T k = (C, nm, dsc, fin) ∧ parseFieldDescriptor dsc = some ty ∧ (∀ w ∈ u_ws C T N, w ∈ zT) ∧ (∀ k, k < N → parseFieldDescriptor (T k).2.2.1 = some (ty0 k)) ∧ (∀ a, a < N → ∀ b, b < N → a ≠ b → (T a).2.1 ≠ (T b).2.1)
/-- behind a store into a field -/
theorem zWd.stf {s : State} {D : va_G} {Z : zZ} {ad : Nat → Nat} {M : zMem} {A : Nat → Prop} {H H' : Heap} (g : zWd s D Z ad M A H) {i ci k : Nat} {kd v : Int} {ksl : List Int} {r : vw_C} {cell : Cell} (hz : Z i = some (.inl (ci, ksl))) (hi : i < 1000) (hk : ksl[k]? = some kd) (hr : vwCl[ci]? = some r) (hap : ∀ x y, x < r.2.2 → y < r.2.2 → x ≠ y → (D.2 ci) x ≠ (D.2 ci) y) (hv : zkan Z kd v) (hc : H[ad i]? = some cell)
    (e1 : H'[ad i]? = some (cell.setSlot (D.2 ci k) (zsv ad kd v))) (e2 : H'.size = H.size) (e3 : ∀ q, q ≠ ad i → H'[q]? = H[q]?) : zWd s D Z ad (zup M i k v) A H' := by
  refine ⟨fun i' h' hi' => ?_, g.2.1, g.2.2.1, fun i h hi hq => by rw [e2]; exact g.2.2.2 i h hi hq⟩
  have hkl : k < ksl.length := (List.getElem?_eq_some_iff.mp hk).1
  have hkd : ksl.getD k (-1) = kd := by rw [List.getD_eq_getElem?_getD, hk]; rfl
  by_cases hii : i' = i
  · subst hii
    cases hz.symm.trans hi'
    obtain ⟨⟨r', h1, h2, cell', h3, h4, h5, h6⟩, h7⟩ := g.1 i' _ hz
    cases hr.symm.trans h1
    cases hc.symm.trans h3
    refine ⟨⟨r, hr, h2, t_OB.to (V := updV (fun k => zsv ad (ksl.getD k (-1)) (M i' k)) k (zsv ad kd v)) ⟨_, e1, h4, h5, t_set h6 hap (by omega) _⟩ (fun j _ => ?_)⟩, fun j hj => ?_⟩
    · unfold updV
      by_cases hj : j = k
      · subst hj; rw [if_pos rfl, zup_eq, hkd]
      · rw [if_neg hj, zup_nk (by omega)]
    · by_cases hjk : j = k
      · subst hjk; rw [zup_eq, hkd]; exact hv
      · rw [zup_nk (by omega)]; exact h7 j hj
  · exact g.oth hi hz hi' hii (fun k => zup_ne hii) e3
end ZM
section ZG
variable {y : zMI} {n kc ks : Nat} {Z : zZ} {pc : Nat} {ls : List (Nat × zAV)} {st : List zAV} {M : zMem} {Q : Option zAV → zMem → zZ → Prop}
/-- a field is read, of any kind -/
theorem zV_getf {i ci k idx : Nat} {ksl : List Int} {C nm dsc : String} {fin : Bool} {ty : FieldType} {kd : Int} {v : zAV} (hz : Z i = some (.inl (ci, ksl))) (hF : zFld ci k C nm dsc fin ty) (hw : Cond.fieldLink y.1.cls idx C nm dsc ∈ zT) (hk : ksl[k]? = some kd) (hd : decode y.2.1 pc = .ok (.getfield idx, 3))
    (hv : ∀ ad : Nat → Nat, zsv ad kd (M i k) = zcv ad v) (hlv : zkan Z kd (M i k) → zlive Z v) (kk : zkan Z kd (M i k) → zV y n kc ks Z (pc + 3) ls (v :: st) M Q) : zV y n kc ks Z pc ls (zR i :: st) M Q := by
  intro p l e R s m args below meth c H locs cells slots A D ad la Qf E Wd S hl h1 h2 hr
  obtain ⟨T, N, ty0, f1, f2, f3, f4, f5, f6, f7⟩ := hF
  obtain ⟨⟨r, g1, g2, g3⟩, g4⟩ := Wd.1 i _ hz
  cases f1.symm.trans g1
  have hkl : k < ksl.length := (List.getElem?_eq_some_iff.mp hk).1
  have hkd : ksl.getD k (-1) = kd := by rw [List.getD_eq_getElem?_getD, hk]; rfl
  have hkn := g4 k hkl
  rw [hkd] at hkn
  have w := kk hkn p l e R s m args below meth c H locs cells slots A D ad la Qf E Wd S hl h1 (zl_1 (hlv hkn) (zl_t h2)) hr
  rw [List.map_cons, ← hv ad] at w
  refine va_get (D := D) (cl := vwCl) (tys := []) (ws := [(ad i, .inr (ci, (List.range N).map (fun k => zsv ad (ksl.getD k (-1)) (M i k))))]) (ref := C) (C := C) (T := T) (N := N) (ci := ci) (fs := (List.range N).map (fun k => zsv ad (ksl.getD k (-1)) (M i k))) E.1 E.2.1 E.2.2.2.2.1 f5 E.2.2.2.1 E.2.2.2.2.2.1 ?_ 0 rfl f1 k f2 (by rw [f3]; exact E.2.2.2.2.1 _ hw) (by rw [f3]; exact fun _ h => h) ?_ hd w
  · intro k0 q hq
    match k0, hq with
    | 0, hq =>
      cases hq
      refine ⟨_, f1, g3.to (fun j hj => ?_)⟩
      simp only [vp_V, List.getD_eq_getElem?_getD, List.getElem?_map]
      rw [List.getElem?_range hj]
      rfl
    | k0 + 1, hq => simp at hq
  · rw [List.getElem?_map, List.getElem?_range f2, Option.map_some, hkd]
theorem zV_getI {i ci k idx : Nat} {ksl : List Int} {C nm dsc : String} {fin : Bool} {ty : FieldType} (hz : Z i = some (.inl (ci, ksl))) (hF : zFld ci k C nm dsc fin ty) (hw : Cond.fieldLink y.1.cls idx C nm dsc ∈ zT) (hk : ksl[k]? = some (-1)) (hd : decode y.2.1 pc = .ok (.getfield idx, 3))
    (kk : z32 (M i k) → zV y n kc ks Z (pc + 3) ls (zI (M i k) :: st) M Q) : zV y n kc ks Z pc ls (zR i :: st) M Q := zV_getf hz hF hw hk hd (fun _ => rfl) (fun _ => by exact trivial) (fun h => kk h)
theorem zV_getL {i ci k idx : Nat} {ksl : List Int} {C nm dsc : String} {fin : Bool} {ty : FieldType} (hz : Z i = some (.inl (ci, ksl))) (hF : zFld ci k C nm dsc fin ty) (hw : Cond.fieldLink y.1.cls idx C nm dsc ∈ zT) (hk : ksl[k]? = some (-2)) (hd : decode y.2.1 pc = .ok (.getfield idx, 3))
    (kk : z64 (M i k) → zV y n kc ks Z (pc + 3) ls (zL (M i k) :: st) M Q) : zV y n kc ks Z pc ls (zR i :: st) M Q := zV_getf hz hF hw hk hd (fun _ => rfl) (fun _ => by exact trivial) (fun h => kk h)
theorem zV_getR {i ci k idx j : Nat} {ksl : List Int} {C nm dsc : String} {fin : Bool} {ty : FieldType} (hz : Z i = some (.inl (ci, ksl))) (hF : zFld ci k C nm dsc fin ty) (hw : Cond.fieldLink y.1.cls idx C nm dsc ∈ zT) (hk : ksl[k]? = some (j : Int)) (hd : decode y.2.1 pc = .ok (.getfield idx, 3))
    (kk : zV y n kc ks Z (pc + 3) ls (zR j :: st) M Q) : zV y n kc ks Z pc ls (zR i :: st) M Q := by
  have e1 : ¬ (j : Int) = -1 := by omega
  have e2 : ¬ (j : Int) = -2 := by omega
  have e3 : ¬ (j : Int) = -3 := by omega
  refine zV_getf hz hF hw hk hd (v := zR j) (fun ad => ?_) (fun h => ?_) (fun _ => kk)
  · unfold zsv; rw [if_neg e1, if_neg e2, if_neg e3]; rfl
  · unfold zkan at h; rw [if_neg e1, if_neg e2, if_neg e3] at h; exact h
/-- a field is written -/
theorem zV_putf {i ci k idx : Nat} {ksl : List Int} {C nm dsc : String} {ty : FieldType} {kd v : Int} {u : zAV} (hz : Z i = some (.inl (ci, ksl))) (hi : i < 1000) (hF : zFld ci k C nm dsc false ty) (hw : Cond.fieldLink y.1.cls idx C nm dsc ∈ zT) (hk : ksl[k]? = some kd) (hd : decode y.2.1 pc = .ok (.putfield idx, 3))
    (hu : ∀ ad : Nat → Nat, zcv ad u = zsv ad kd v) (hkn : zkan Z kd v) (hn : ∀ ad : Nat → Nat, narrow ty (zcv ad u) = zcv ad u) (hft : ∀ ad : Nat → Nat, fits ty (zcv ad u) = true) (kk : zV y n kc ks Z (pc + 3) ls st (zup M i k v) Q) : zV y n kc ks Z pc ls (u :: zR i :: st) M Q := by
  intro p l e R s m args below meth c H locs cells slots A D ad la Qf E Wd S hl h1 h2 hr
  obtain ⟨T, N, ty0, f1, f2, f3, f4, f5, f6, f7⟩ := hF
  obtain ⟨⟨r, g1, g2, cell, q1, q2, q3, q4⟩, g4⟩ := Wd.1 i _ hz
  cases f1.symm.trans g1
  have hK := E.2.2.2.2.2.1
  have hts := E.2.2.2.2.1
  have hap := va_apart (own := y.1.cls) hts f5 ty0 f6 f7 hK f1
  obtain ⟨hS, hfc, kC, hkC, hkind⟩ := hK.1 ci _ f1
  obtain ⟨cf, kf, fi, f, hfi, hsl⟩ := hS k f2
  have hlay := hts _ (f5 _ (u_in_lay f2))
  unfold u_lay at hlay
  have hfi : s.fieldFound? (T k).1 (T k).2.1 (T k).2.2.1 = some (cf, kf, fi, f) := hfi
  rw [f3] at hlay hfi
  simp only [Bool.false_eq_true, if_false] at hlay
  have hst := (u_facts hfc hkC (Or.inl hlay) hfi).1
  have h6 := u_store hfc hkC hkind hlay hfi f4 (hn ad) (hft ad)
  refine W.putK E.1 E.2.1 (f := f) (v := zcv ad u) (rest := st.map (zcv ad)) ⟨E.2.2.2.1, hts _ hw, ⟨_, _, _, hfi⟩, hst⟩ (by rw [q2]; exact h6) q1 q3 (by rw [hsl]; exact k2_hasslot (q4 k f2)) rfl rfl hd fun H' e1 e2 e3 => ?_
  rw [hsl, hu ad] at e1
  exact kk p l e R s m args below meth c H' _ cells slots A D ad la Qf E (Wd.stf hz hi hk f1 hap hkn q1 e1 e2 e3) (S.put e2 e3 (Wd.2.2.1 i _ hz hi)) hl h1 (zl_t (zl_t h2)) hr
theorem zV_putI {i ci k idx : Nat} {ksl : List Int} {C nm dsc : String} {v : Int} (hz : Z i = some (.inl (ci, ksl))) (hi : i < 1000) (hF : zFld ci k C nm dsc false .int) (hw : Cond.fieldLink y.1.cls idx C nm dsc ∈ zT) (hk : ksl[k]? = some (-1)) (hd : decode y.2.1 pc = .ok (.putfield idx, 3)) (hv : z32 v)
    (kk : zV y n kc ks Z (pc + 3) ls st (zup M i k v) Q) : zV y n kc ks Z pc ls (zI v :: zR i :: st) M Q := zV_putf hz hi hF hw hk hd (fun _ => rfl) hv (fun _ => vp_nar_int _) (fun _ => rfl) kk
theorem zV_putB {i ci k idx : Nat} {ksl : List Int} {C nm dsc : String} {v : Int} (hz : Z i = some (.inl (ci, ksl))) (hi : i < 1000) (hF : zFld ci k C nm dsc false .boolean) (hw : Cond.fieldLink y.1.cls idx C nm dsc ∈ zT) (hk : ksl[k]? = some (-1)) (hd : decode y.2.1 pc = .ok (.putfield idx, 3)) (hv : v = 0 ∨ v = 1)
    (kk : zV y n kc ks Z (pc + 3) ls st (zup M i k v) Q) : zV y n kc ks Z pc ls (zI v :: zR i :: st) M Q := zV_putf hz hi hF hw hk hd (fun _ => rfl) (by rcases hv with rfl | rfl <;> exact ⟨by decide, by decide⟩) (fun _ => by rcases hv with rfl | rfl <;> rfl) (fun _ => by rcases hv with rfl | rfl <;> rfl) kk
theorem zV_putL {i ci k idx : Nat} {ksl : List Int} {C nm dsc : String} {v : Int} (hz : Z i = some (.inl (ci, ksl))) (hi : i < 1000) (hF : zFld ci k C nm dsc false .long) (hw : Cond.fieldLink y.1.cls idx C nm dsc ∈ zT) (hk : ksl[k]? = some (-2)) (hd : decode y.2.1 pc = .ok (.putfield idx, 3)) (hv : z64 v)
    (kk : zV y n kc ks Z (pc + 3) ls st (zup M i k v) Q) : zV y n kc ks Z pc ls (zL v :: zR i :: st) M Q := zV_putf hz hi hF hw hk hd (fun _ => rfl) hv (fun _ => rfl) (fun _ => rfl) kk
end ZG
