/-- shapes told as a list in front of others -/
def zLk : List (Nat × zSh) → Nat → Option zSh
  | [], _ => none
  | q :: L, a => if a = q.1 then some q.2 else zLk L a
def zLs (L : List (Nat × zSh)) (Z : zZ) : zZ := fun a => match zLk L a with
  | some h => some h
  | none => Z a
theorem zLs_add (L : List (Nat × zSh)) (Z : zZ) (i : Nat) (h : zSh) : zuz (zLs L Z) i h = zLs ((i, h) :: L) Z := by
  funext a
  show (if a = i then some h else zLs L Z a) = match (if a = i then some h else zLk L a) with | some h => some h | none => Z a
  by_cases e : a = i
  · rw [if_pos e, if_pos e]
  · rw [if_neg e, if_neg e]; rfl
theorem zLk_filter (L : List (Nat × zSh)) (i a : Nat) (h : a ≠ i) : zLk (L.filter (fun q => !(q.1 == i))) a = zLk L a := by
  induction L with
  | nil => rfl
  | cons q L ih =>
    by_cases hq : q.1 = i
    · rw [List.filter_cons_of_neg (by simp [hq])]
      rw [ih]
      show _ = if a = q.1 then some q.2 else zLk L a
      rw [if_neg (by rw [hq]; exact h)]
    · rw [List.filter_cons_of_pos (by simp [hq])]
      show (if a = q.1 then some q.2 else zLk _ a) = if a = q.1 then some q.2 else zLk L a
      rw [ih]
theorem zLs_set (L : List (Nat × zSh)) (Z : zZ) (i : Nat) (h : zSh) : zuz (zLs L Z) i h = zLs ((i, h) :: L.filter (fun q => !(q.1 == i))) Z := by
  funext a
  unfold zuz zLs
  by_cases e : a = i
  · subst e
    rw [if_pos rfl]
    show _ = match (if a = a then some h else _) with | some h => some h | none => Z a
    rw [if_pos rfl]
  · rw [if_neg e]
    show _ = match (if a = i then some h else zLk (L.filter _) a) with | some h => some h | none => Z a
    rw [if_neg e, zLk_filter L i a e]
theorem zLs_app (L1 L2 : List (Nat × zSh)) (Z : zZ) : zLs (L1 ++ L2) Z = zLs L1 (zLs L2 Z) := by
  funext a
  unfold zLs
  induction L1 with
  | nil => rfl
  | cons q L ih =>
    show (match (if a = q.1 then some q.2 else zLk (L ++ L2) a) with | some h => some h | none => Z a) = match (if a = q.1 then some q.2 else zLk L a) with | some h => some h | none => _
    by_cases e : a = q.1
    · rw [if_pos e, if_pos e]
    · rw [if_neg e, if_neg e]; exact ih
section ZP
variable {y : zMI} {n kc ks : Nat} {Z : zZ} {pc : Nat} {ls : List (Nat × zAV)} {st : List zAV} {M : zMem} {Q : Option zAV → zMem → zZ → Prop}
theorem zV_Z {Z' : zZ} (h : Z = Z') (k : zV y n kc ks Z' pc ls st M Q) : zV y n kc ks Z pc ls st M Q := by subst h; exact k
theorem zV_le {kc' ks' : Nat} (h1 : kc' ≤ kc) (h2 : ks' ≤ ks) (k : zV y n kc' ks' Z pc ls st M Q) : zV y n kc ks Z pc ls st M Q := by
  intro p l e R s m args below meth c H locs cells slots A D ad la Qf E Wd S hl g1 g2 hr
  obtain ⟨x1, x2, x3, x4, x5, x6, x7, x8, x9, x10, x11, x12, x13, x14⟩ := E
  exact k p l e R s m args below meth c H locs cells slots A D ad la Qf ⟨x1, x2, x3, x4, x5, x6, x7, x8, by omega, by omega, x11, x12, x13, x14⟩ Wd S hl g1 g2 (fun r2 M2 Z2 ad2 H2 locs2 c2 s2 pc2 la2 a1 a2 a3 a4 a5 => hr r2 M2 Z2 ad2 H2 locs2 c2 s2 pc2 la2 a1 a2 a3 (by omega) (by omega))
theorem zV_mono {n' : Nat} (h : n' ≤ n) (k : zV y n' kc ks Z pc ls st M Q) : zV y n kc ks Z pc ls st M Q := by
  intro p l e R s m args below meth c H locs cells slots A D ad la Qf E Wd S hl g1 g2 hr
  obtain ⟨x1, x2, x3, x4, x5, x6, x7, x8, x9, x10, x11, x12, x13, x14⟩ := E
  exact k p l e R s m args below meth c H locs cells slots A D ad la Qf ⟨x1, x2, x3, x4, x5, x6, by omega, by omega, x9, x10, x11, x12, x13, x14⟩ Wd S hl g1 g2 hr
/-- a cell's slot comes to hold the cell j for ever -/
theorem zWd.stS {s : State} {D : va_G} {ad : Nat → Nat} {A : Nat → Prop} {H H' : Heap} (g : zWd s D Z ad M A H) {i ci k j : Nat} {ksl : List Int} {r : vw_C} {cell : Cell} (hz : Z i = some (.inl (ci, ksl))) (hi : i < 1000) (hk : k < ksl.length) (hr : vwCl[ci]? = some r) (hap : ∀ x y, x < r.2.2 → y < r.2.2 → x ≠ y → (D.2 ci) x ≠ (D.2 ci) y) (hj : (Z j).isSome = true) (hc : H[ad i]? = some cell)
    (e1 : H'[ad i]? = some (cell.setSlot (D.2 ci k) (.ref (ad j)))) (e2 : H'.size = H.size) (e3 : ∀ q, q ≠ ad i → H'[q]? = H[q]?) : zWd s D (zuz Z i (.inl (ci, ksl.set k (j : Int)))) ad M A H' ∧ zExt Z ad (zuz Z i (.inl (ci, ksl.set k (j : Int)))) ad := by
  have hal : ∀ a : Nat, (Z a).isSome = true → (zuz Z i (.inl (ci, ksl.set k (j : Int))) a).isSome = true := by
    intro a ha
    by_cases e : a = i
    · subst e; rw [zuz_eq]; rfl
    · rw [zuz_ne e]; exact ha
  have hE : zExt Z ad (zuz Z i (.inl (ci, ksl.set k (j : Int)))) ad := ⟨fun a ha => ⟨hal a ha, rfl⟩, fun _ _ => rfl⟩
  have back : ∀ (a : Nat) (h : zSh), zuz Z i (.inl (ci, ksl.set k (j : Int))) a = some h → ∃ g, Z a = some g ∧ (a < 1000 ∨ g = h) := by
    intro a h ha
    by_cases e : a = i
    · subst e; exact ⟨_, hz, Or.inl hi⟩
    · rw [zuz_ne e] at ha; exact ⟨_, ha, Or.inr rfl⟩
  refine ⟨⟨fun a h ha => ?_, fun a b h h' ha1 ha hb hq hab => ?_, fun a h ha ha1 => ?_, fun a h ha hq => ?_⟩, hE⟩
  · by_cases e : a = i
    · subst e
      rw [zuz_eq] at ha
      cases ha
      obtain ⟨⟨r', h1, h2, cell', h3, h4, h5, h6⟩, h7⟩ := g.1 a _ hz
      cases hr.symm.trans h1
      cases hc.symm.trans h3
      have n1 : ¬ (j : Int) = -1 := by omega
      have n2 : ¬ (j : Int) = -2 := by omega
      have n3 : ¬ (j : Int) = -3 := by omega
      refine ⟨⟨r, hr, by rw [List.length_set]; exact h2, t_OB.to (V := updV (fun k => zsv ad (ksl.getD k (-1)) (M a k)) k (.ref (ad j))) ⟨_, e1, h4, h5, t_set h6 hap (by omega) _⟩ (fun x hx => ?_)⟩, fun x hx => ?_⟩
      · unfold updV
        by_cases hxk : x = k
        · subst hxk
          rw [if_pos rfl, List.getD_eq_getElem?_getD, List.getElem?_set_self hk]
          show _ = zsv ad (j : Int) _
          unfold zsv
          rw [if_neg n1, if_neg n2, if_neg n3]; rfl
        · rw [if_neg hxk, List.getD_eq_getElem?_getD, List.getElem?_set_ne (Ne.symm hxk), ← List.getD_eq_getElem?_getD]
      · rw [List.length_set] at hx
        by_cases hxk : x = k
        · subst hxk
          rw [List.getD_eq_getElem?_getD, List.getElem?_set_self hk]
          show zkan _ (j : Int) _
          unfold zkan
          rw [if_neg n1, if_neg n2, if_neg n3]
          exact hal j hj
        · rw [List.getD_eq_getElem?_getD, List.getElem?_set_ne (Ne.symm hxk), ← List.getD_eq_getElem?_getD]
          exact (h7 x hx).mono hal
    · rw [zuz_ne e] at ha
      have g0 := g.oth (M' := M) (H' := H') hi hz ha e (fun _ => rfl) e3
      exact g0.grow hE (by rw [ha]; rfl) (fun _ => rfl) rfl
  · obtain ⟨x, hx, -⟩ := back a h ha
    obtain ⟨x', hx', hb2⟩ := back b h' hb
    exact g.2.1 a b x x' ha1 hx hx' (hb2.elim Or.inl (fun e => by rw [e]; exact hq)) hab
  · obtain ⟨x, hx, -⟩ := back a h ha
    exact g.2.2.1 a x hx ha1
  · obtain ⟨x, hx, ha2⟩ := back a h ha
    rw [e2]; exact g.2.2.2 a x hx (ha2.elim Or.inl (fun e => by rw [e]; exact hq))
/-- a constructor sets a final field to a cell -/
theorem zV_putS {i ci k idx j : Nat} {ksl : List Int} {C nm dsc : String} {ty : FieldType} {Z' : zZ} (hz : Z i = some (.inl (ci, ksl))) (hi : i < 1000) (hF : zFld ci k C nm dsc true ty) (hw : Cond.fieldLink y.1.cls idx C nm dsc ∈ zT) (hk : k < ksl.length) (hd : decode y.2.1 pc = .ok (.putfield idx, 3)) (hini : y.1.name = "<init>") (hown : C = y.1.cls) (hfit : ∀ a : Nat, narrow ty (.ref a) = .ref a ∧ fits ty (.ref a) = true) (hZ' : zuz Z i (.inl (ci, ksl.set k (j : Int))) = Z')
    (kk : zV y n kc ks Z' (pc + 3) ls st M Q) : zV y n kc ks Z pc ls (zR j :: zR i :: st) M Q := by
  subst hZ'
  intro p l e R s m args below meth c H locs cells slots A D ad la Qf E Wd S hl h1 h2 hr
  obtain ⟨T, N, ty0, f1, f2, f3, f4, f5, f6, f7⟩ := hF
  obtain ⟨⟨r, g1, g2, cell, q1, q2, q3, q4⟩, g4⟩ := Wd.1 i _ hz
  cases f1.symm.trans g1
  have hK := E.2.2.2.2.2.1
  have hts := E.2.2.2.2.1
  have hown' := E.2.2.2.1
  have hap := va_apart (own := y.1.cls) hts f5 ty0 f6 f7 hK f1
  obtain ⟨hS, hfc, kC, hkC, hkind⟩ := hK.1 ci _ f1
  obtain ⟨cf, kf, fi, f, hfi, hsl⟩ := hS k f2
  have hlay := hts _ (f5 _ (u_in_lay f2))
  unfold u_lay at hlay
  have hfi : s.fieldFound? (T k).1 (T k).2.1 (T k).2.2.1 = some (cf, kf, fi, f) := hfi
  rw [f3] at hlay hfi
  rw [if_pos rfl] at hlay
  have hst := (u_facts hfc hkC (Or.inr hlay) hfi).1
  have hcf : m.cls = cf := by
    obtain ⟨_, _, c', _, _, _, -, -, hf', -, -, -, hown2, -⟩ := Cond.laysFinal_spec hlay
    have e1 : c' = cf := by have := hfi.symm.trans hf'; simp at this; exact this.1.symm
    rw [← e1]
    have hown2 : s.vm.findClass C = some c' := hown2
    rw [hown] at hown2
    exact Option.some.inj (hown'.symm.trans hown2)
  have h6 := u_fits hfc hkC hkind (Or.inr hlay) hfi f4 (hfit (ad j)).1 (hfit (ad j)).2
  refine W.putFinK E.1 E.2.1 hown' (hts _ hw) hfi hst hcf (E.2.2.2.2.2.2.2.2.2.2.2.2.1.trans hini) (v := .ref (ad j)) (rest := st.map (zcv ad)) (by rw [q2]; exact h6) q1 q3 (by rw [hsl]; exact k2_hasslot (q4 k f2)) rfl rfl hd fun H' e1 e2 e3 => ?_
  rw [hsl] at e1
  obtain ⟨hW, hE⟩ := Wd.stS hz hi hk f1 hap (h2 _ List.mem_cons_self) q1 e1 e2 e3
  exact kk p l e R s m args below meth c H' _ cells slots A D ad la Qf E hW (S.put e2 e3 (Wd.2.2.1 i _ hz hi)) hl (fun q hq => (hE.cv (h1 q hq)).2) (fun v hv => (hE.cv (h2 v (List.mem_cons_of_mem _ (List.mem_cons_of_mem _ hv)))).2) (fun r2 M2 Z2 ad2 H2 locs2 c2 s2 pc2 la2 a1 => hr r2 M2 Z2 ad2 H2 locs2 c2 s2 pc2 la2 (hE.tr a1))
/-- Object.<init> -/
theorem zV_objI {i idx : Nat} (hw : Cond.methodLink y.1.cls idx Lib.objectInit ∈ zT ∧ Cond.instanceMethod Lib.objectInit ∈ zT ∧ Cond.code Lib.objectInit ⟨#[0xb1]⟩ 1 none ∈ zT) (hd : decode y.2.1 pc = .ok (.invokespecial idx, 3)) (hn : 1 ≤ n) (hst : (st.map zcat).sum ≤ 8) (kk : zV y n kc ks Z (pc + 3) ls st M Q) : zV y n kc ks Z pc ls (zR i :: st) M Q := by
  refine zV_mv (fun h _ => zl_t h) (fun p l e R s m args below meth c H locs cells slots A D ad la Qf E Wd S hl w => ?_) kk
  obtain ⟨x1, x2, x3, x4, x5, x6, x7, x8, x9, x10, x11, x12, x13, x14⟩ := E
  have hz := zst_s13 (st := st) (ad := ad) hst hn x8
  exact W.objInit x1 x2 x4 (x5 _ hw.1) (x5 _ hw.2.1) (x5 _ hw.2.2) rfl (hl.1.trans x3.symm) (a := ad i) (rest := st.map (zcv ad)) rfl hd (by omega) (by show 2 * 0 + _ + 12 ≤ _; omega) w
end ZP
