/-! MACHINE ROWS, 83: zY X: as zV, at contexts of which X is known (printed by gen/ygen.py out of the V kit's own rows) -/
abbrev zCx : Type := Program → Launch → Env → Room → State → MethodId → Array Value → List Frame → Method → Code → (Nat → Prop) → va_G → (State → Prop) → (Nat → Nat) → Prop
theorem zXad {ad ad' : Nat → Nat} (h : ∀ i : Nat, 1000 ≤ i → ad' i = ad i) : (fun i => ad' (1000 + i)) = fun i => ad (1000 + i) := funext fun i => h _ (by omega)
def zEY (X : zCx) (y : zMI) (n kc ks : Nat) (p : Program) (l : Launch) (e : Env) (R : Room) (s : State) (m : MethodId) (args : Array Value) (below : List Frame) (meth : Method) (c : Code) (cells slots : Nat) (A : Nat → Prop) (D : va_G) (ad : Nat → Nat) (Qf : State → Prop) : Prop :=
  p.tables.exec = Jvm.exec ∧ c.code = y.2.1 ∧ c.maxLocals = y.2.2.1 ∧ s.vm.findClass y.1.cls = some m.cls ∧ (∀ w ∈ zT, w.before args s = true) ∧ va_K D vwCl [] s ∧ n ≤ R.frames ∧ 60 * n ≤ R.locals ∧ cells + kc ≤ R.cells ∧ slots + ks ≤ R.slots ∧ (∀ q : Nat, s.heap.size ≤ q → A q) ∧ meth.locks = false ∧ meth.name = y.1.name ∧ (zGr ad A s s.heap ∧ X p l e R s m args below meth c A D Qf (fun i => ad (1000 + i)))
abbrev zEx : Type := Nat → Option zAV → Array Slot → Prop
/-- the method's ends: it returns, or it comes to a place that Ex names -/
def zHY (Ex : zEx) (y : zMI) (kc ks : Nat) (Z : zZ) (ad : Nat → Nat) (Q : Option zAV → zMem → zZ → Prop) (p : Program) (l : Launch) (e : Env) (R : Room) (s : State) (m : MethodId) (args : Array Value) (below : List Frame) (meth : Method) (c : Code) (cells slots : Nat) (A : Nat → Prop) (D : va_G) (Qf : State → Prop) : Prop :=
  ∀ (r : Option zAV) (M' : zMem) (Z' : zZ) (ad' : Nat → Nat) (H' : Heap) (locs' : List Loc) (cells' slots' pc : Nat) (ls : Array Slot), zExt Z ad Z' ad' → zWd s D Z' ad' M' A H' → va_S A s.heap H' locs' → cells' ≤ cells + kc → slots' ≤ slots + ks → Q r M' Z' → (zRi y pc r ∨ Ex pc r ls) →
    W p l e R s m args below meth c H' locs' cells' slots' Qf (F0 m pc ls (r.toList.map (zcv ad')))
def zY (X : zCx) (Ex : zEx) (y : zMI) (n kc ks : Nat) (Z : zZ) (pc : Nat) (ls : List (Nat × zAV)) (st : List zAV) (M : zMem) (Q : Option zAV → zMem → zZ → Prop) : Prop :=
  ∀ (p : Program) (l : Launch) (e : Env) (R : Room) (s : State) (m : MethodId) (args : Array Value) (below : List Frame) (meth : Method) (c : Code) (H : Heap) (locs : List Loc) (cells slots : Nat) (A : Nat → Prop) (D : va_G) (ad : Nat → Nat) (la : Array Slot) (Qf : State → Prop),
    zEY X y n kc ks p l e R s m args below meth c cells slots A D ad Qf → zWd s D Z ad M A H → va_S A s.heap H locs → lv_has la y.2.2.1 (ls.map fun q => (q.1, zcv ad q.2)) → (∀ q ∈ ls, zlive Z q.2) → (∀ v ∈ st, zlive Z v) →
    zHY Ex y kc ks Z ad Q p l e R s m args below meth c cells slots A D Qf → W p l e R s m args below meth c H locs cells slots Qf (F0 m pc la (st.map (zcv ad)))
section ZY
variable {X : zCx} {Ex : zEx} {y : zMI} {n kc ks : Nat} {Z : zZ} {pc : Nat} {ls : List (Nat × zAV)} {st : List zAV} {M : zMem} {Q : Option zAV → zMem → zZ → Prop}
theorem zEY.env {p : Program} {l : Launch} {e : Env} {R : Room} {s : State} {m : MethodId} {args : Array Value} {below : List Frame} {meth : Method} {c : Code} {cells slots : Nat} {A : Nat → Prop} {D : va_G} {ad : Nat → Nat} {Qf : State → Prop} (E : zEY X y n kc ks p l e R s m args below meth c cells slots A D ad Qf) : zEnv y n kc ks p R s m args meth c cells slots A D ad := by
  obtain ⟨x1, x2, x3, x4, x5, x6, x7, x8, x9, x10, x11, x12, x13, x14⟩ := E
  exact ⟨x1, x2, x3, x4, x5, x6, x7, x8, x9, x10, x11, x12, x13, x14.1⟩
theorem zY_of (k : zV y n kc ks Z pc ls st M Q) : zY X Ex y n kc ks Z pc ls st M Q := fun p l e R s m args below meth c H locs cells slots A D ad la Qf E a1 a2 a3 a4 a5 hr => k p l e R s m args below meth c H locs cells slots A D ad la Qf E.env a1 a2 a3 a4 a5 (fun r M' Z' ad' H' locs' cells' slots' pc ls b1 b2 b3 b4 b5 b6 b7 => hr r M' Z' ad' H' locs' cells' slots' pc ls b1 b2 b3 b4 b5 b6 (Or.inl b7))
theorem zY_exit (r : Option zAV) (hst : st = r.toList) (hx : ∀ la : Array Slot, la.size = y.2.2.1 → Ex pc r la) (hq : Q r M Z) : zY X Ex y n kc ks Z pc ls st M Q := by
  intro p l e R s m args below meth c H locs cells slots A D ad la Qf E Wd S hl h1 h2 hr
  subst hst
  exact hr r M Z ad H locs cells slots pc la zExt.rf Wd S (Nat.le_add_right _ _) (Nat.le_add_right _ _) hq (Or.inr (hx la hl.1))
theorem zY_mv {pc' : Nat} {st' : List zAV} (hlv : (∀ v ∈ st, zlive Z v) → (∀ q ∈ ls, zlive Z q.2) → ∀ v ∈ st', zlive Z v)
    (h : ∀ (p : Program) (l : Launch) (e : Env) (R : Room) (s : State) (m : MethodId) (args : Array Value) (below : List Frame) (meth : Method) (c : Code) (H : Heap) (locs : List Loc) (cells slots : Nat) (A : Nat → Prop) (D : va_G) (ad : Nat → Nat) (la : Array Slot) (Qf : State → Prop),
      zEY X y n kc ks p l e R s m args below meth c cells slots A D ad Qf → zWd s D Z ad M A H → va_S A s.heap H locs → lv_has la y.2.2.1 (ls.map fun q => (q.1, zcv ad q.2)) → W p l e R s m args below meth c H locs cells slots Qf (F0 m pc' la (st'.map (zcv ad))) → W p l e R s m args below meth c H locs cells slots Qf (F0 m pc la (st.map (zcv ad))))
    (k : zY X Ex y n kc ks Z pc' ls st' M Q) : zY X Ex y n kc ks Z pc ls st M Q :=
  fun p l e R s m args below meth c H locs cells slots A D ad la Qf E Wd S hl h1 h2 hr => h p l e R s m args below meth c H locs cells slots A D ad la Qf E Wd S hl (k p l e R s m args below meth c H locs cells slots A D ad la Qf E Wd S hl h1 (hlv h2 h1) hr)
theorem zY_iconst {i v : Int} (hd : decode y.2.1 pc = .ok (.iconst i, 1)) (hv : i = v) (k : zY X Ex y n kc ks Z (pc + 1) ls (zI v :: st) M Q) : zY X Ex y n kc ks Z pc ls st M Q := by
  subst hv
  exact zY_mv (fun h _ => zl_1 (by exact trivial) h) (fun p l e R s m args below meth c H locs cells slots A D ad la Qf E Wd S hl w => lv_iconst E.1 E.2.1 hd rfl w) k
theorem zY_bipush {i v : Int} (hd : decode y.2.1 pc = .ok (.bipush i, 2)) (hv : (Int8.ofInt i).toInt32 = Int32.ofInt v) (k : zY X Ex y n kc ks Z (pc + 2) ls (zI v :: st) M Q) : zY X Ex y n kc ks Z pc ls st M Q :=
  zY_mv (fun h _ => zl_1 (by exact trivial) h) (fun p l e R s m args below meth c H locs cells slots A D ad la Qf E Wd S hl w => lv_bipush E.1 E.2.1 hd hv w) k
theorem zY_ldc2 {i : Nat} {v : Int} {v3 : Int64} (hw : Cond.constantLong y.1.cls i v3 ∈ zT) (hv : v3 = Int64.ofInt v) (hd : decode y.2.1 pc = .ok (.ldc2_w i, 3)) (k : zY X Ex y n kc ks Z (pc + 3) ls (zL v :: st) M Q) : zY X Ex y n kc ks Z pc ls st M Q := by
  subst hv
  exact zY_mv (fun h _ => zl_1 (by exact trivial) h) (fun p l e R s m args below meth c H locs cells slots A D ad la Qf E Wd S hl w => lv_ldc2 E.1 E.2.1 E.2.2.2.1 (E.2.2.2.2.1 _ hw) hd w) k
theorem zY_iload_n {kf : Fin 4} {i : Nat} {x : Int} (j : Nat) (hd : decode y.2.1 pc = .ok (.iload_n kf, 1)) (hi : (kf : Nat) = i) (hj : ls[j]? = some (i, zI x)) (k : zY X Ex y n kc ks Z (pc + 1) ls (zI x :: st) M Q) : zY X Ex y n kc ks Z pc ls st M Q :=
  zY_mv (fun h _ => zl_1 (by exact trivial) h) (fun p l e R s m args below meth c H locs cells slots A D ad la Qf E Wd S hl w => lv_iload_n E.1 E.2.1 hd hi (zl_at j hj hl) w) k
theorem zY_iload {i : Nat} {x : Int} (j : Nat) (hd : decode y.2.1 pc = .ok (.iload i, 2)) (hj : ls[j]? = some (i, zI x)) (k : zY X Ex y n kc ks Z (pc + 2) ls (zI x :: st) M Q) : zY X Ex y n kc ks Z pc ls st M Q :=
  zY_mv (fun h _ => zl_1 (by exact trivial) h) (fun p l e R s m args below meth c H locs cells slots A D ad la Qf E Wd S hl w => lv_iload E.1 E.2.1 hd (zl_at j hj hl) w) k
theorem zY_aload_n {kf : Fin 4} {i x : Nat} (j : Nat) (hd : decode y.2.1 pc = .ok (.aload_n kf, 1)) (hi : (kf : Nat) = i) (hj : ls[j]? = some (i, zR x)) (k : zY X Ex y n kc ks Z (pc + 1) ls (zR x :: st) M Q) : zY X Ex y n kc ks Z pc ls st M Q :=
  zY_mv (fun h g => zl_1 (zl_mem j hj g) h) (fun p l e R s m args below meth c H locs cells slots A D ad la Qf E Wd S hl w => lv_aload_n E.1 E.2.1 hd hi (zl_at j hj hl) w) k
theorem zY_iadd {a b : Int} (hd : decode y.2.1 pc = .ok (.iadd, 1)) (k : zY X Ex y n kc ks Z (pc + 1) ls (zI (a + b) :: st) M Q) : zY X Ex y n kc ks Z pc ls (zI b :: zI a :: st) M Q :=
  zY_mv (fun h _ => zl_1 (by exact trivial) (zl_t (zl_t h))) (fun p l e R s m args below meth c H locs cells slots A D ad la Qf E Wd S hl w => lv_iadd E.1 E.2.1 hd (by have e : zcv ad (zI (a + b)) = .int (Int32.ofInt a + Int32.ofInt b) := congrArg Value.int (Int32.ofInt_add ..); rw [List.map_cons, e] at w; exact w)) k
theorem zY_isub {a b : Int} (hd : decode y.2.1 pc = .ok (.isub, 1)) (k : zY X Ex y n kc ks Z (pc + 1) ls (zI (a - b) :: st) M Q) : zY X Ex y n kc ks Z pc ls (zI b :: zI a :: st) M Q :=
  zY_mv (fun h _ => zl_1 (by exact trivial) (zl_t (zl_t h))) (fun p l e R s m args below meth c H locs cells slots A D ad la Qf E Wd S hl w => lv_isub E.1 E.2.1 hd (by have e : zcv ad (zI (a - b)) = .int (Int32.ofInt a - Int32.ofInt b) := congrArg Value.int (Int32.ofInt_sub ..); rw [List.map_cons, e] at w; exact w)) k
theorem zY_iand {a b : Int} (hd : decode y.2.1 pc = .ok (.iand, 1)) (k : zY X Ex y n kc ks Z (pc + 1) ls (zI (zand a b) :: st) M Q) : zY X Ex y n kc ks Z pc ls (zI b :: zI a :: st) M Q :=
  zY_mv (fun h _ => zl_1 (by exact trivial) (zl_t (zl_t h))) (fun p l e R s m args below meth c H locs cells slots A D ad la Qf E Wd S hl w => lv_iand E.1 E.2.1 hd (by have e : zcv ad (zI (zand a b)) = .int (Int32.ofInt a &&& Int32.ofInt b) := congrArg Value.int (Int32.ofInt_toInt _); rw [List.map_cons, e] at w; exact w)) k
theorem zY_land {a b : Int} (hd : decode y.2.1 pc = .ok (.land, 1)) (k : zY X Ex y n kc ks Z (pc + 1) ls (zL (zland a b) :: st) M Q) : zY X Ex y n kc ks Z pc ls (zL b :: zL a :: st) M Q :=
  zY_mv (fun h _ => zl_1 (by exact trivial) (zl_t (zl_t h))) (fun p l e R s m args below meth c H locs cells slots A D ad la Qf E Wd S hl w => lv_land E.1 E.2.1 hd (by have e : zcv ad (zL (zland a b)) = .long (Int64.ofInt a &&& Int64.ofInt b) := congrArg Value.long (Int64.ofInt_toInt _); rw [List.map_cons, e] at w; exact w)) k
theorem zY_lor {a b : Int} (hd : decode y.2.1 pc = .ok (.lor, 1)) (k : zY X Ex y n kc ks Z (pc + 1) ls (zL (zlor a b) :: st) M Q) : zY X Ex y n kc ks Z pc ls (zL b :: zL a :: st) M Q :=
  zY_mv (fun h _ => zl_1 (by exact trivial) (zl_t (zl_t h))) (fun p l e R s m args below meth c H locs cells slots A D ad la Qf E Wd S hl w => lv_lor E.1 E.2.1 hd (by have e : zcv ad (zL (zlor a b)) = .long (Int64.ofInt a ||| Int64.ofInt b) := congrArg Value.long (Int64.ofInt_toInt _); rw [List.map_cons, e] at w; exact w)) k
theorem zY_lshl {a b : Int} (hd : decode y.2.1 pc = .ok (.lshl, 1)) (k : zY X Ex y n kc ks Z (pc + 1) ls (zL (zlshl a b) :: st) M Q) : zY X Ex y n kc ks Z pc ls (zI b :: zL a :: st) M Q :=
  zY_mv (fun h _ => zl_1 (by exact trivial) (zl_t (zl_t h))) (fun p l e R s m args below meth c H locs cells slots A D ad la Qf E Wd S hl w => lv_lshl E.1 E.2.1 hd (Int64.ofInt_toInt _).symm w) k
theorem zY_i2l {a : Int} (hd : decode y.2.1 pc = .ok (.i2l, 1)) (ha : z32 a) (k : zY X Ex y n kc ks Z (pc + 1) ls (zL a :: st) M Q) : zY X Ex y n kc ks Z pc ls (zI a :: st) M Q :=
  zY_mv (fun h _ => zl_1 (by exact trivial) (zl_t h)) (fun p l e R s m args below meth c H locs cells slots A D ad la Qf E Wd S hl w => lv_i2l E.1 E.2.1 hd (by rw [← Int64.toInt_inj, Int32.toInt_toInt64, show (Int32.ofInt a).toInt = a from zw_id ha, show (Int64.ofInt a).toInt = a from zwl_id ⟨by have := ha.1; omega, by have := ha.2; omega⟩]) w) k
theorem zY_dup {v : zAV} (hd : decode y.2.1 pc = .ok (.dup, 1)) (hv : zcat v = 1) (k : zY X Ex y n kc ks Z (pc + 1) ls (v :: v :: st) M Q) : zY X Ex y n kc ks Z pc ls (v :: st) M Q :=
  zY_mv (fun h _ => zl_1 (h v List.mem_cons_self) h) (fun p l e R s m args below meth c H locs cells slots A D ad la Qf E Wd S hl w => lv_dup E.1 E.2.1 hd ((zcat_cv ad v).trans hv) w) k
theorem zY_br {pt pf : Nat} {st' : List zAV} {C : Prop} (hlv : (∀ v ∈ st, zlive Z v) → ∀ v ∈ st', zlive Z v)
    (h : ∀ (p : Program) (l : Launch) (e : Env) (R : Room) (s : State) (m : MethodId) (args : Array Value) (below : List Frame) (meth : Method) (c : Code) (H : Heap) (locs : List Loc) (cells slots : Nat) (ad : Nat → Nat) (la : Array Slot) (Qf : State → Prop), p.tables.exec = Jvm.exec → c.code = y.2.1 →
      (C → W p l e R s m args below meth c H locs cells slots Qf (F0 m pt la (st'.map (zcv ad)))) → (¬ C → W p l e R s m args below meth c H locs cells slots Qf (F0 m pf la (st'.map (zcv ad)))) → W p l e R s m args below meth c H locs cells slots Qf (F0 m pc la (st.map (zcv ad))))
    (kt : C → zY X Ex y n kc ks Z pt ls st' M Q) (kf : ¬ C → zY X Ex y n kc ks Z pf ls st' M Q) : zY X Ex y n kc ks Z pc ls st M Q :=
  fun p l e R s m args below meth c H locs cells slots A D ad la Qf E Wd S hl h1 h2 hr => h p l e R s m args below meth c H locs cells slots ad la Qf E.1 E.2.1 (fun hc => kt hc p l e R s m args below meth c H locs cells slots A D ad la Qf E Wd S hl h1 (hlv h2) hr) (fun hc => kf hc p l e R s m args below meth c H locs cells slots A D ad la Qf E Wd S hl h1 (hlv h2) hr)
theorem zY_icmp_eq {a b : Int} {off : Int} (tgt : Nat) (hd : decode y.2.1 pc = .ok (.if_icmp .eq off, 3)) (ht : (pc : Int) + off = (tgt : Int)) (ha : z32 a) (hb : z32 b) (kt : a = b → zY X Ex y n kc ks Z tgt ls st M Q) (kf : ¬ a = b → zY X Ex y n kc ks Z (pc + 3) ls st M Q) : zY X Ex y n kc ks Z pc ls (zI b :: zI a :: st) M Q :=
  zY_br (fun h => zl_t (zl_t h)) (fun p l e R s m args below meth c H locs cells slots ad la Qf e1 e2 wt wf => lv_icmp_eq e1 e2 hd ht (fun q => wt ((z32_eq ha hb).mp q)) (fun q => wf (fun z => q ((z32_eq ha hb).mpr z)))) kt kf
theorem zY_icmp_ne {a b : Int} {off : Int} (tgt : Nat) (hd : decode y.2.1 pc = .ok (.if_icmp .ne off, 3)) (ht : (pc : Int) + off = (tgt : Int)) (ha : z32 a) (hb : z32 b) (kt : ¬ a = b → zY X Ex y n kc ks Z tgt ls st M Q) (kf : a = b → zY X Ex y n kc ks Z (pc + 3) ls st M Q) : zY X Ex y n kc ks Z pc ls (zI b :: zI a :: st) M Q :=
  zY_br (C := a = b) (fun h => zl_t (zl_t h)) (fun p l e R s m args below meth c H locs cells slots ad la Qf e1 e2 wt wf => lv_icmp_ne e1 e2 hd ht (fun q => wf (fun z => q ((z32_eq ha hb).mpr z))) (fun q => wt ((z32_eq ha hb).mp q))) kf kt
theorem zY_icmp_gt {a b : Int} {off : Int} (tgt : Nat) (hd : decode y.2.1 pc = .ok (.if_icmp .gt off, 3)) (ht : (pc : Int) + off = (tgt : Int)) (ha : z32 a) (hb : z32 b) (kt : b < a → zY X Ex y n kc ks Z tgt ls st M Q) (kf : ¬ b < a → zY X Ex y n kc ks Z (pc + 3) ls st M Q) : zY X Ex y n kc ks Z pc ls (zI b :: zI a :: st) M Q :=
  zY_br (fun h => zl_t (zl_t h)) (fun p l e R s m args below meth c H locs cells slots ad la Qf e1 e2 wt wf => lv_icmp_gt e1 e2 hd ht (fun q => wt ((z32_lt hb ha).mp q)) (fun q => wf (fun z => q ((z32_lt hb ha).mpr z)))) kt kf
theorem zY_if_eq {a : Int} {off : Int} (tgt : Nat) (hd : decode y.2.1 pc = .ok (.ifCond .eq off, 3)) (ht : (pc : Int) + off = (tgt : Int)) (ha : z32 a) (kt : a = 0 → zY X Ex y n kc ks Z tgt ls st M Q) (kf : ¬ a = 0 → zY X Ex y n kc ks Z (pc + 3) ls st M Q) : zY X Ex y n kc ks Z pc ls (zI a :: st) M Q :=
  zY_br (fun h => zl_t h) (fun p l e R s m args below meth c H locs cells slots ad la Qf e1 e2 wt wf => lv_if_eq e1 e2 hd ht (fun q => wt ((z32_eq ha z32_0).mp q)) (fun q => wf (fun z => q ((z32_eq ha z32_0).mpr z)))) kt kf
theorem zY_if_ne {a : Int} {off : Int} (tgt : Nat) (hd : decode y.2.1 pc = .ok (.ifCond .ne off, 3)) (ht : (pc : Int) + off = (tgt : Int)) (ha : z32 a) (kt : ¬ a = 0 → zY X Ex y n kc ks Z tgt ls st M Q) (kf : a = 0 → zY X Ex y n kc ks Z (pc + 3) ls st M Q) : zY X Ex y n kc ks Z pc ls (zI a :: st) M Q :=
  zY_br (C := a = 0) (fun h => zl_t h) (fun p l e R s m args below meth c H locs cells slots ad la Qf e1 e2 wt wf => lv_if_ne e1 e2 hd ht (fun q => wf (fun z => q ((z32_eq ha z32_0).mpr z))) (fun q => wt ((z32_eq ha z32_0).mp q))) kf kt
theorem zY_goto {off : Int} (tgt : Nat) (hd : decode y.2.1 pc = .ok (.goto off, 3)) (ht : (pc : Int) + off = (tgt : Int)) (k : zY X Ex y n kc ks Z tgt ls st M Q) : zY X Ex y n kc ks Z pc ls st M Q :=
  zY_mv (fun h _ => h) (fun p l e R s m args below meth c H locs cells slots A D ad la Qf E Wd S hl w => lv_goto E.1 E.2.1 hd ht w) k
theorem zY_istore_n {kf : Fin 4} {i : Nat} {x : Int} (ls' : List (Nat × zAV)) (hd : decode y.2.1 pc = .ok (.istore_n kf, 1)) (hi : (kf : Nat) = i) (hn : i < y.2.2.1) (hl' : zst i (zI x) ls = ls') (k : zY X Ex y n kc ks Z (pc + 1) ls' st M Q) : zY X Ex y n kc ks Z pc ls (zI x :: st) M Q := by
  subst hl'
  intro p l e R s m args below meth c H locs cells slots A D ad la Qf E Wd S hl h1 h2 hr
  refine lv_istore_n E.1 E.2.1 hd hi hl hn (zst_map1 ad i (zI x) ls rfl) (fun la' hl' => ?_)
  exact k p l e R s m args below meth c H locs cells slots A D ad la' Qf E Wd S hl' (zst_live (h2 _ List.mem_cons_self) h1) (zl_t h2) hr
theorem zY_istore {i : Nat} {x : Int} (ls' : List (Nat × zAV)) (hd : decode y.2.1 pc = .ok (.istore i, 2)) (hn : i < y.2.2.1) (hl' : zst i (zI x) ls = ls') (k : zY X Ex y n kc ks Z (pc + 2) ls' st M Q) : zY X Ex y n kc ks Z pc ls (zI x :: st) M Q := by
  subst hl'
  intro p l e R s m args below meth c H locs cells slots A D ad la Qf E Wd S hl h1 h2 hr
  refine lv_istore E.1 E.2.1 hd hl hn (zst_map1 ad i (zI x) ls rfl) (fun la' hl' => ?_)
  exact k p l e R s m args below meth c H locs cells slots A D ad la' Qf E Wd S hl' (zst_live (h2 _ List.mem_cons_self) h1) (zl_t h2) hr
theorem zY_astore_n {kf : Fin 4} {i : Nat} {x : Nat} (ls' : List (Nat × zAV)) (hd : decode y.2.1 pc = .ok (.astore_n kf, 1)) (hi : (kf : Nat) = i) (hn : i < y.2.2.1) (hl' : zst i (zR x) ls = ls') (k : zY X Ex y n kc ks Z (pc + 1) ls' st M Q) : zY X Ex y n kc ks Z pc ls (zR x :: st) M Q := by
  subst hl'
  intro p l e R s m args below meth c H locs cells slots A D ad la Qf E Wd S hl h1 h2 hr
  refine lv_astore_n E.1 E.2.1 hd hi hl hn (zst_map1 ad i (zR x) ls rfl) (fun la' hl' => ?_)
  exact k p l e R s m args below meth c H locs cells slots A D ad la' Qf E Wd S hl' (zst_live (h2 _ List.mem_cons_self) h1) (zl_t h2) hr
theorem zY_iinc {i : Nat} (j : Nat) {m0 x v : Int} (ls' : List (Nat × zAV)) (hd : decode y.2.1 pc = .ok (.iinc i m0, 3)) (hj : ls[j]? = some (i, zI x)) (hv : zw (x + m0) = v) (hn : i < y.2.2.1) (hl' : zst i (zI v) ls = ls') (k : zY X Ex y n kc ks Z (pc + 3) ls' st M Q) : zY X Ex y n kc ks Z pc ls st M Q := by
  subst hl'; subst hv
  intro p l e R s m args below meth c H locs cells slots A D ad la Qf E Wd S hl h1 h2 hr
  refine lv_iinc (k := j) E.1 E.2.1 hd hl (by rw [List.getElem?_map, hj]; rfl) (by rw [zw_of]; exact (Int32.ofInt_add ..).symm) hn (zst_map1 ad i (zI (zw (x + m0))) ls rfl) (fun la' hl' => ?_)
  exact k p l e R s m args below meth c H locs cells slots A D ad la' Qf E Wd S hl' (zst_live trivial h1) h2 hr
theorem zY_ls (ps : List Nat) {ls' : List (Nat × zAV)} (hl' : ps.filterMap (fun k => ls[k]?) = ls') (k : zY X Ex y n kc ks Z pc ls' st M Q) : zY X Ex y n kc ks Z pc ls st M Q := by
  subst hl'
  intro p l e R s m args below meth c H locs cells slots A D ad la Qf E Wd S hl h1 h2 hr
  refine k p l e R s m args below meth c H locs cells slots A D ad la Qf E Wd S ⟨hl.1, hl.2.1, fun q hq => ?_⟩ (fun q hq => ?_) h2 hr
  · obtain ⟨q0, h3, rfl⟩ := List.mem_map.mp hq
    obtain ⟨i, -, hi⟩ := List.mem_filterMap.mp h3
    exact hl.2.2 _ (List.mem_map.mpr ⟨q0, List.mem_of_getElem? hi, rfl⟩)
  · obtain ⟨i, -, hi⟩ := List.mem_filterMap.mp hq
    exact h1 q (List.mem_of_getElem? hi)
theorem zY_lcmp {a b : Int} (hd : decode y.2.1 pc = .ok (.lcmp, 1)) (ha : z64 a) (hb : z64 b) (k : zY X Ex y n kc ks Z (pc + 1) ls (zI (if a < b then -1 else if a = b then 0 else 1) :: st) M Q) : zY X Ex y n kc ks Z pc ls (zL b :: zL a :: st) M Q := by
  refine zY_mv (fun h _ => zl_1 (by exact trivial) (zl_t (zl_t h))) (fun p l e R s m args below meth c H locs cells slots A D ad la Qf E Wd S hl w => W.lcmp E.1 E.2.1 hd ?_) k
  have e : zcv ad (zI (if a < b then -1 else if a = b then 0 else 1)) = .int (lg_cmp (Int64.ofInt a) (Int64.ofInt b)) := by
    unfold lg_cmp
    by_cases h1 : b < a
    · rw [if_pos ((z64_lt hb ha).mpr h1), if_neg (by omega), if_neg (by omega)]; rfl
    · by_cases h2 : a = b
      · rw [if_neg (fun q => h1 ((z64_lt hb ha).mp q)), if_pos ((z64_eq ha hb).mpr h2), if_neg (by omega), if_pos h2]; rfl
      · rw [if_neg (fun q => h1 ((z64_lt hb ha).mp q)), if_neg (fun q => h2 ((z64_eq ha hb).mp q)), if_pos (by omega)]; rfl
  rw [List.map_cons, e] at w
  exact w
theorem zY_getf {i ci k idx : Nat} {ksl : List Int} {C nm dsc : String} {fin : Bool} {ty : FieldType} {kd : Int} {v : zAV} (hz : Z i = some (.inl (ci, ksl))) (hF : zFld ci k C nm dsc fin ty) (hw : Cond.fieldLink y.1.cls idx C nm dsc ∈ zT) (hk : ksl[k]? = some kd) (hd : decode y.2.1 pc = .ok (.getfield idx, 3))
    (hv : ∀ ad : Nat → Nat, zsv ad kd (M i k) = zcv ad v) (hlv : zkan Z kd (M i k) → zlive Z v) (kk : zkan Z kd (M i k) → zY X Ex y n kc ks Z (pc + 3) ls (v :: st) M Q) : zY X Ex y n kc ks Z pc ls (zR i :: st) M Q := by
  intro p l e R s m args below meth c H locs cells slots A D ad la Qf E Wd S hl h1 h2 hr
  obtain ⟨T, N, ty0, f1, f2, f3, f4, f5, f6, f7⟩ := hF
  obtain ⟨⟨r, g1, g2, g3⟩, g4⟩ := Wd.1 i _ hz
  cases f1.symm.trans g1
  have hkl : k < ksl.length := (List.getElem?_eq_some_iff.mp hk).1
  have hkd : ksl.getD k (-1) = kd := by rw [List.getD_eq_getElem?_getD, hk]; rfl
  have hkn := g4 k hkl
  rw [hkd] at hkn
  have w := kk hkn p l e R s m args below meth c H locs cells slots A D ad la Qf E Wd S hl h1 (zl_1 (hlv hkn) (zl_t h2)) hr
  rw [List.map_cons, ← hv ad] at w
  refine va_get (D := D) (cl := vwCl) (tys := []) (ws := [(ad i, .inr (ci, (List.range N).map (fun k => zsv ad (ksl.getD k (-1)) (M i k))))]) (ref := C) (C := C) (T := T) (N := N) (ci := ci) (fs := (List.range N).map (fun k => zsv ad (ksl.getD k (-1)) (M i k))) E.1 E.2.1 E.2.2.2.2.1 f5 E.2.2.2.1 E.2.2.2.2.2.1 ?_ 0 rfl f1 k f2 (by rw [f3]; exact E.2.2.2.2.1 _ hw) (by rw [f3]; exact fun _ h => h) ?_ hd w
  · intro k0 q hq
    match k0, hq with
    | 0, hq =>
      cases hq
      refine ⟨_, f1, g3.to (fun j hj => ?_)⟩
      simp only [vp_V, List.getD_eq_getElem?_getD, List.getElem?_map]
      rw [List.getElem?_range hj]
      rfl
    | k0 + 1, hq => simp at hq
  · rw [List.getElem?_map, List.getElem?_range f2, Option.map_some, hkd]
theorem zY_getR {i ci k idx j : Nat} {ksl : List Int} {C nm dsc : String} {fin : Bool} {ty : FieldType} (hz : Z i = some (.inl (ci, ksl))) (hF : zFld ci k C nm dsc fin ty) (hw : Cond.fieldLink y.1.cls idx C nm dsc ∈ zT) (hk : ksl[k]? = some (j : Int)) (hd : decode y.2.1 pc = .ok (.getfield idx, 3))
    (kk : zY X Ex y n kc ks Z (pc + 3) ls (zR j :: st) M Q) : zY X Ex y n kc ks Z pc ls (zR i :: st) M Q := by
  have e1 : ¬ (j : Int) = -1 := by omega
  have e2 : ¬ (j : Int) = -2 := by omega
  have e3 : ¬ (j : Int) = -3 := by omega
  refine zY_getf hz hF hw hk hd (v := zR j) (fun ad => ?_) (fun h => ?_) (fun _ => kk)
  · unfold zsv; rw [if_neg e1, if_neg e2, if_neg e3]; rfl
  · unfold zkan at h; rw [if_neg e1, if_neg e2, if_neg e3] at h; exact h
theorem zY_iald {i n0 : Nat} {j : Int} (hz : Z i = some (.inr (0, n0))) (hj : 0 ≤ j ∧ j < n0) (hd : decode y.2.1 pc = .ok (.iaload, 1)) (kk : z32 (M i j) → zY X Ex y n kc ks Z (pc + 1) ls (zI (M i j) :: st) M Q) : zY X Ex y n kc ks Z pc ls (zI j :: zR i :: st) M Q := by
  intro p l e R s m args below meth c H locs cells slots A D ad la Qf E Wd S hl h1 h2 hr
  obtain ⟨⟨cell, q1, q2, q3, q4, q5, q6⟩, q7, q8⟩ := Wd.1 i _ hz (by decide)
  obtain ⟨c1, c2, c3, c4⟩ := zclamp q7 hj.1 hj.2
  have hk := q8 j.toNat c4
  have hv := q6 j.toNat c4
  rw [c3] at hk hv
  refine W.iald E.1 E.2.1 (v := zcv ad (zI (M i j))) (rest := st.map (zcv ad)) q1 q2.1 q4 (by rw [q5]; exact c2) (by rw [c1]; exact hv) rfl rfl hd ?_
  exact kk hk p l e R s m args below meth c H locs cells slots A D ad la Qf E Wd S hl h1 (zl_1 (by exact trivial) (zl_t (zl_t h2))) hr
theorem zY_lald {i n0 : Nat} {j : Int} (hz : Z i = some (.inr (3, n0))) (hj : 0 ≤ j ∧ j < n0) (hd : decode y.2.1 pc = .ok (.laload, 1)) (kk : z64 (M i j) → zY X Ex y n kc ks Z (pc + 1) ls (zL (M i j) :: st) M Q) : zY X Ex y n kc ks Z pc ls (zI j :: zR i :: st) M Q := by
  intro p l e R s m args below meth c H locs cells slots A D ad la Qf E Wd S hl h1 h2 hr
  obtain ⟨⟨cell, q1, q2, q3, q4, q5, q6⟩, q7, q8⟩ := Wd.1 i _ hz (by decide)
  obtain ⟨c1, c2, c3, c4⟩ := zclamp q7 hj.1 hj.2
  have hk := q8 j.toNat c4
  have hv := q6 j.toNat c4
  rw [c3] at hk hv
  refine W.lald E.1 E.2.1 (v := zcv ad (zL (M i j))) (rest := st.map (zcv ad)) q1 q2.1 q4 (by rw [q5]; exact c2) (by rw [c1]; exact hv) rfl rfl hd ?_
  exact kk hk p l e R s m args below meth c H locs cells slots A D ad la Qf E Wd S hl h1 (zl_1 (by exact trivial) (zl_t (zl_t h2))) hr
theorem zY_alen {i t n0 : Nat} (hz : Z i = some (.inr (t, n0))) (ht : t ≤ 6) (hd : decode y.2.1 pc = .ok (.arraylength, 1)) (kk : zY X Ex y n kc ks Z (pc + 1) ls (zI n0 :: st) M Q) : zY X Ex y n kc ks Z pc ls (zR i :: st) M Q := by
  intro p l e R s m args below meth c H locs cells slots A D ad la Qf E Wd S hl h1 h2 hr
  obtain ⟨⟨cell, q1, q2, q3, q4, q5, q6⟩, q7, q8⟩ := Wd.1 i _ hz ht
  refine W.alen E.1 E.2.1 (n := Int32.ofInt n0) (rest := st.map (zcv ad)) q1 q2.1 (by rw [q5]; rfl) rfl rfl hd ?_
  exact kk p l e R s m args below meth c H locs cells slots A D ad la Qf E Wd S hl h1 (zl_1 (by exact trivial) (zl_t h2)) hr
theorem zY_iret {v : Int} {ty : FieldType} (hd : decode y.2.1 pc = .ok (.ireturn, 1)) (hty : y.2.2.2 = some ty) (hn : narrow ty (.int (Int32.ofInt v)) = .int (Int32.ofInt v)) (hv : z32 v) (hq : Q (some (zI v)) M Z) : zY X Ex y n kc ks Z pc ls [zI v] M Q := by
  intro p l e R s m args below meth c H locs cells slots A D ad la Qf E Wd S hl h1 h2 hr
  exact hr (some (zI v)) M Z ad H locs cells slots pc la zExt.rf Wd S (by omega) (by omega) hq (Or.inl ⟨hd, hv, ty, hty, hn⟩)
theorem zY_ireti {v : Int} (hd : decode y.2.1 pc = .ok (.ireturn, 1)) (hty : y.2.2.2 = some .int) (hv : z32 v) (hq : Q (some (zI v)) M Z) : zY X Ex y n kc ks Z pc ls [zI v] M Q := zY_iret hd hty (vp_nar_int _) hv hq
theorem zY_iretb {v : Int} (hd : decode y.2.1 pc = .ok (.ireturn, 1)) (hty : y.2.2.2 = some .boolean) (hv : v = 0 ∨ v = 1) (hq : Q (some (zI v)) M Z) : zY X Ex y n kc ks Z pc ls [zI v] M Q :=
  zY_iret hd hty (by rcases hv with rfl | rfl <;> rfl) (by rcases hv with rfl | rfl <;> exact ⟨by decide, by decide⟩) hq
theorem zY_back {y' : zMI} {mc ms : Nat} {Q' : Option zAV → zMem → zZ → Prop} {p : Program} {l : Launch} {e : Env} {R : Room} {s : State} {m : MethodId} {args : Array Value} {below : List Frame} {meth : Method} {c : Code} {H : Heap} {locs : List Loc} {cells slots : Nat} {A : Nat → Prop} {D : va_G} {ad : Nat → Nat} {la : Array Slot} {Qf : State → Prop} {st0 : List Value} {a : Array Value}
    (hr : va_Run p l e R s m args below meth c H locs cells slots mc ms (F0 m pc la st0) (st.map (zcv ad)) (zQc y' D Z ad A Q' a) A)
    (E : zEY X y n (kc + mc) (ks + ms) p l e R s m args below meth c cells slots A D ad Qf) (S : va_S A s.heap H locs) (hl : lv_has la y.2.2.1 (ls.map fun q => (q.1, zcv ad q.2))) (h1 : ∀ q ∈ ls, zlive Z q.2) (h2 : ∀ v ∈ st, zlive Z v)
    (hf : zHY Ex y (kc + mc) (ks + ms) Z ad Q p l e R s m args below meth c cells slots A D Qf)
    (kk : ∀ (r : Option zAV) (M' : zMem) (Z' : zZ), zcan y'.2.2.2 r → Q' r M' Z' → zY X Ex y n kc ks Z' (pc + 3) ls (r.toList ++ st) M' Q) : W p l e R s m args below meth c H locs cells slots Qf (F0 m pc la st0) := by
  intro T hT X
  obtain ⟨v, st₀, t, T', L, h0, X', hL, e1, e2, hq, stp⟩ := hr T hT X
  obtain ⟨r, M', Z', ad', ho, hQ, hcan, hE, hW, hz, hk⟩ := hq
  have hv : v = r.map (zcv ad') := by injection ho
  subst hv
  rw [h0] at hz hk
  have hwarm : s.WarmedH T'.vm := X'.warmed
  have hal : t.vm.Alike s.vm := by rw [← e2]; exact hwarm.alike.symm
  have hS' : va_S A s.heap T'.heap (locs ++ L) := ⟨Nat.le_trans S.1 (by rw [e1]; exact hz), fun q g1 g2 => by rw [e1, hk q (Nat.lt_of_lt_of_le g1 S.1) g2]; exact S.2.1 q g1 g2, fun q hq => by
      rcases List.mem_append.mp hq with h | h
      · exact S.2.2 q h
      · exact hL q h⟩
  have hrl : ∀ v ∈ r.toList, zlive Z' v := by
    intro v hv
    rcases r with _ | x | x | x
    · simp at hv
    · simp at hv; subst hv; trivial
    · simp at hv; subst hv; trivial
    · exact hcan.elim
  obtain ⟨x1, x2, x3, x4, x5, x6, x7, x8, x9, x10, x11, x12, x13, x14⟩ := E
  have hls : (ls.map fun q => (q.1, zcv ad' q.2)) = ls.map fun q => (q.1, zcv ad q.2) := List.map_congr_left fun q hq => by rw [(hE.cv (h1 q hq)).1]
  have hst : st.map (zcv ad') = st.map (zcv ad) := List.map_congr_left fun v hv => (hE.cv (h2 v hv)).1
  have w := kk r M' Z' hcan hQ p l e R s m args below meth c T'.heap (locs ++ L) (cells + mc) (slots + ms) A D ad' la Qf ⟨x1, x2, x3, x4, x5, x6, x7, x8, by omega, by omega, x11, x12, x13, ⟨x14.1.ad hE.2, by rw [zXad hE.2]; exact x14.2⟩⟩ (by rw [e1]; exact hW.moved hal) hS' (by rw [hls]; exact hl) (fun q hq => (hE.cv (h1 q hq)).2)
    (fun v hv => (List.mem_append.mp hv).elim (hrl v) (fun h => (hE.cv (h2 v h)).2)) (fun r2 M2 Z2 ad2 H2 locs2 c2 s2 pc2 la2 g1 g2 g3 g4 g5 => hf r2 M2 Z2 ad2 H2 locs2 c2 s2 pc2 la2 (hE.tr g1) g2 g3 (by omega) (by omega))
  rw [List.map_append, hst, ← Option.toList_map] at w
  obtain ⟨t2, a1, b1⟩ := w T' rfl X'
  exact ⟨t2, stp t2 a1, b1⟩
theorem zY_callV {y' : zMI} {n' mc ms na i ci idx : Nat} {ksl : List Int} {T : u_T} {N : Nat} {As st0 : List zAV} {Q' : Option zAV → zMem → zZ → Prop} (hc : zCV y.1.cls idx y' na) (hz : Z i = some (.inl (ci, ksl))) (hcl : vwCl[ci]? = some (y'.1.cls, T, N)) (hd : decode y.2.1 pc = .ok (.invokevirtual idx, 3)) (hn : n' + 1 ≤ n) (hna : As.length = na) (hL : ((zR i :: As).map zcat).sum ≤ y'.2.2.1) (hst : (st.map zcat).sum ≤ 8) (hs0 : st0 = As.reverse ++ zR i :: st)
    (hV : zV y' n' mc ms Z 0 (zent 0 (zR i :: As)) [] M Q') (kk : ∀ (r : Option zAV) (M' : zMem) (Z' : zZ), zcan y'.2.2.2 r → Q' r M' Z' → zY X Ex y n kc ks Z' (pc + 3) ls (r.toList ++ st) M' Q) : zY X Ex y n (kc + mc) (ks + ms) Z pc ls st0 M Q := by
  subst hs0
  intro p l e R s m args below meth c H locs cells slots A D ad la Qf E Wd S hl h1 h2 hr
  obtain ⟨c1, c2, c3, c4, c5, c6, c7, c8⟩ := hc
  obtain ⟨x1, x2, x3, x4, x5, x6, x7, x8, x9, x10, x11, x12, x13, x14⟩ := id E
  have hAl : ∀ v ∈ As, zlive Z v := fun v hv => h2 v (List.mem_append_left _ (List.mem_reverse.mpr hv))
  have hil : zlive Z (zR i) := h2 _ (List.mem_append_right _ List.mem_cons_self)
  have hM := zV_met (y := y') (As := zR i :: As) c7 hV (zl_1 hil hAl) hL l D ad A
  obtain ⟨⟨r, g1, g2, cell, g3, g4, g5, g6⟩, -⟩ := Wd.1 i _ hz
  cases hcl.symm.trans g1
  have hR : (zrm n' mc ms).frames + 1 ≤ R.frames ∧ 8 + (y'.2.2.1 + 11) + (zrm n' mc ms).locals ≤ R.locals := ⟨by show n' + 1 ≤ R.frames; omega, by show 8 + (y'.2.2.1 + 11) + 60 * n' ≤ R.locals; omega⟩
  refine zY_back (y' := y') (a := ((zR i :: As).map (zcv ad)).toArray) (Z := Z) ?_ E S hl h1 (fun v hv => h2 v (List.mem_append_right _ (List.mem_cons_of_mem _ hv))) hr kk
  refine va_runV (C := y'.1.cls) (As := As.map (zcv ad)) (b := ad i) (nL := y.2.2.1) (Ts := zT) (own := y.1.cls) (n := na) ⟨x1, x2, x3, x4, x5⟩ hM (cwV na x5 (fun w hw => ?_) rfl rfl rfl ⟨rfl, c6⟩ hR) ⟨zPc_blind, ⟨cell, g3, by rw [g5]; rfl, by rw [g4]; exact (x6.1 ci _ hcl).2.1⟩, zV_pre Wd S x6 x11 x14.1⟩ rfl (by rw [List.length_map]; exact hna) hl.1 (by show (As.reverse ++ zR i :: st).map (zcv ad) = _; rw [List.map_append, List.map_cons, List.map_reverse]; rfl) (zst_sum hst) hd ⟨by omega, by omega⟩
  rcases List.mem_append.mp (show w ∈ ([.methodLink y.1.cls idx y'.1, .instanceMethod y'.1, .selects y'.1.cls y'.1 y'.1, .initialized y'.1.cls] : List Cond) ++ _ from hw) with h | h
  · simp only [List.mem_cons, List.not_mem_nil, or_false] at h
    rcases h with rfl | rfl | rfl | rfl
    · exact zT_good _ c1
    · exact zT_good _ c2
    · exact zT_good _ c3
    · exact zT_good _ c5
  · exact zT_code c4 w h
theorem zY_callS {y' : zMI} {n' mc ms na idx : Nat} {As st0 : List zAV} {Q' : Option zAV → zMem → zZ → Prop} (hc : zCS y.1.cls idx y' na) (hd : decode y.2.1 pc = .ok (.invokestatic idx, 3)) (hn : n' + 1 ≤ n) (hna : As.length = na) (hL : (As.map zcat).sum ≤ y'.2.2.1) (hst : (st.map zcat).sum ≤ 8) (hs0 : st0 = As.reverse ++ st)
    (hV : zV y' n' mc ms Z 0 (zent 0 As) [] M Q') (kk : ∀ (r : Option zAV) (M' : zMem) (Z' : zZ), zcan y'.2.2.2 r → Q' r M' Z' → zY X Ex y n kc ks Z' (pc + 3) ls (r.toList ++ st) M' Q) : zY X Ex y n (kc + mc) (ks + ms) Z pc ls st0 M Q := by
  subst hs0
  intro p l e R s m args below meth c H locs cells slots A D ad la Qf E Wd S hl h1 h2 hr
  obtain ⟨c1, c2, c4, c5, c6, c7, c8⟩ := hc
  obtain ⟨x1, x2, x3, x4, x5, x6, x7, x8, x9, x10, x11, x12, x13, x14⟩ := id E
  have hAl : ∀ v ∈ As, zlive Z v := fun v hv => h2 v (List.mem_append_left _ (List.mem_reverse.mpr hv))
  have hM := zV_met (y := y') (As := As) c7 hV hAl hL l D ad A
  have hR : (zrm n' mc ms).frames + 1 ≤ R.frames ∧ 8 + (y'.2.2.1 + 11) + (zrm n' mc ms).locals ≤ R.locals := ⟨by show n' + 1 ≤ R.frames; omega, by show 8 + (y'.2.2.1 + 11) + 60 * n' ≤ R.locals; omega⟩
  refine zY_back (y' := y') (a := (As.map (zcv ad)).toArray) (Z := Z) ?_ E S hl h1 (fun v hv => h2 v (List.mem_append_right _ hv)) hr kk
  refine va_runS (As := As.map (zcv ad)) (nL := y.2.2.1) (Ts := zT) (own := y.1.cls) (n := na) ⟨x1, x2, x3, x4, x5⟩ hM ⟨callB_of na x5 (zT_code c4) rfl rfl rfl (x5 _ c5) (x5 _ c1) c6 hR, x5 _ c2⟩ ⟨zPc_blind, zV_pre Wd S x6 x11 x14.1⟩ rfl (by rw [List.length_map]; exact hna) hl.1 (by show (As.reverse ++ st).map (zcv ad) = _; rw [List.map_append, List.map_reverse]) (zst_sum hst) hd ⟨by omega, by omega⟩
theorem zY_callI {y' : zMI} {n' mc ms na i idx : Nat} {As st0 : List zAV} {Q' : Option zAV → zMem → zZ → Prop} (hc : zCI y.1.cls idx y' na) (hd : decode y.2.1 pc = .ok (.invokespecial idx, 3)) (hn : n' + 1 ≤ n) (hna : As.length = na) (hL : ((zR i :: As).map zcat).sum ≤ y'.2.2.1) (hst : (st.map zcat).sum ≤ 8) (hs0 : st0 = As.reverse ++ zR i :: st)
    (hV : zV y' n' mc ms Z 0 (zent 0 (zR i :: As)) [] M Q') (kk : ∀ (r : Option zAV) (M' : zMem) (Z' : zZ), zcan y'.2.2.2 r → Q' r M' Z' → zY X Ex y n kc ks Z' (pc + 3) ls (r.toList ++ st) M' Q) : zY X Ex y n (kc + mc) (ks + ms) Z pc ls st0 M Q := by
  subst hs0
  intro p l e R s m args below meth c H locs cells slots A D ad la Qf E Wd S hl h1 h2 hr
  obtain ⟨c1, c2, c3, c3', c4, c5, c6, c7, c8⟩ := hc
  obtain ⟨x1, x2, x3, x4, x5, x6, x7, x8, x9, x10, x11, x12, x13, x14⟩ := id E
  have hAl : ∀ v ∈ As, zlive Z v := fun v hv => h2 v (List.mem_append_left _ (List.mem_reverse.mpr hv))
  have hil : zlive Z (zR i) := h2 _ (List.mem_append_right _ List.mem_cons_self)
  have hM := zV_met (y := y') (As := zR i :: As) c7 hV (zl_1 hil hAl) hL l D ad A
  have hR : (zrm n' mc ms).frames + 1 ≤ R.frames ∧ 8 + (y'.2.2.1 + 11) + (zrm n' mc ms).locals ≤ R.locals := ⟨by show n' + 1 ≤ R.frames; omega, by show 8 + (y'.2.2.1 + 11) + 60 * n' ≤ R.locals; omega⟩
  refine zY_back (y' := y') (a := ((zR i :: As).map (zcv ad)).toArray) (Z := Z) ?_ E S hl h1 (fun v hv => h2 v (List.mem_append_right _ (List.mem_cons_of_mem _ hv))) hr kk
  have hb := callB_of (own := y.1.cls) (index := idx) (R := R) na x5 (zT_code c4) rfl (rfl : (zrm n' mc ms).cells = mc) (rfl : (zrm n' mc ms).slots = ms) (x5 _ c5) (x5 _ c1) c6 hR
  rw [c3'] at hb hM
  exact va_runI (As := As.map (zcv ad)) (b := ad i) (nL := y.2.2.1) (Ts := zT) (own := y.1.cls) (n := na) ⟨x1, x2, x3, x4, x5⟩ hM ⟨hb, c3, x5 _ c2⟩ ⟨zPc_blind, zV_pre Wd S x6 x11 x14.1⟩ rfl (by rw [List.length_map]; exact hna) hl.1 (by show (As.reverse ++ zR i :: st).map (zcv ad) = _; rw [List.map_append, List.map_cons, List.map_reverse]; rfl) (zst_sum hst) hd ⟨by omega, by omega⟩
theorem zY_if (C : Prop) (kt : C → zY X Ex y n kc ks Z pc ls st M Q) (kf : ¬ C → zY X Ex y n kc ks Z pc ls st M Q) : zY X Ex y n kc ks Z pc ls st M Q := (Classical.em C).elim kt kf
theorem zY_wn (p : Nat) {x : Int} {st' : List zAV} (hx : st[p]? = some (zI x)) (hs : st.set p (zI (zw x)) = st') (k : zY X Ex y n kc ks Z pc ls st' M Q) : zY X Ex y n kc ks Z pc ls st M Q := by
  subst hs
  have hm : ∀ ad : Nat → Nat, (st.set p (zI (zw x))).map (zcv ad) = st.map (zcv ad) := by
    intro ad
    rw [List.map_set]
    have e : zcv ad (zI (zw x)) = zcv ad (zI x) := congrArg Value.int (zw_of x)
    rw [e]
    apply List.ext_getElem?
    intro i
    rw [List.getElem?_set]
    by_cases hi : p = i
    · subst hi
      obtain ⟨hlt, -⟩ := List.getElem?_eq_some_iff.mp hx
      rw [if_pos rfl, if_pos (by rw [List.length_map]; exact hlt), List.getElem?_map, hx]; rfl
    · rw [if_neg hi]
  refine zY_mv (fun h _ v hv => ?_) (fun p l e R s m args below meth c H locs cells slots A D ad la Qf E Wd S hl w => by rw [hm ad] at w; exact w) k
  rcases List.mem_or_eq_of_mem_set hv with h1 | h1
  · exact h v h1
  · subst h1; trivial
theorem zY_wnl (p : Nat) {x : Int} {st' : List zAV} (hx : st[p]? = some (zL x)) (hs : st.set p (zL (zwl x)) = st') (k : zY X Ex y n kc ks Z pc ls st' M Q) : zY X Ex y n kc ks Z pc ls st M Q := by
  subst hs
  have hm : ∀ ad : Nat → Nat, (st.set p (zL (zwl x))).map (zcv ad) = st.map (zcv ad) := by
    intro ad
    rw [List.map_set]
    have e : zcv ad (zL (zwl x)) = zcv ad (zL x) := congrArg Value.long (zwl_of x)
    rw [e]
    apply List.ext_getElem?
    intro i
    rw [List.getElem?_set]
    by_cases hi : p = i
    · subst hi
      obtain ⟨hlt, -⟩ := List.getElem?_eq_some_iff.mp hx
      rw [if_pos rfl, if_pos (by rw [List.length_map]; exact hlt), List.getElem?_map, hx]; rfl
    · rw [if_neg hi]
  refine zY_mv (fun h _ v hv => ?_) (fun p l e R s m args below meth c H locs cells slots A D ad la Qf E Wd S hl w => by rw [hm ad] at w; exact w) k
  rcases List.mem_or_eq_of_mem_set hv with h1 | h1
  · exact h v h1
  · subst h1; trivial
theorem zY_tsw {dflt lo hi : Int} {offs : Array Int} {len : Nat} {x : Int} (tgt : Nat) (hd : decode y.2.1 pc = .ok (.tableswitch dflt lo hi offs, len)) (hx : z32 x) (h : (¬ x < lo ∧ ¬ hi < x) ∧ (offs[(x - lo).toNat]?).map (fun o => (pc : Int) + o) = some (tgt : Int)) (k : zY X Ex y n kc ks Z tgt ls st M Q) : zY X Ex y n kc ks Z pc ls (zI x :: st) M Q := by
  have e : (Int32.ofInt x).toInt = x := zw_id hx
  obtain ⟨off, h1, h2⟩ := Option.map_eq_some_iff.mp h.2
  exact zY_mv (fun g _ => zl_t g) (fun p l e1 R s m args below meth c H locs cells slots A D ad la Qf E Wd S hl w => lv_tableIn (off := off) (tgt := tgt) E.1 E.2.1 hd (by rw [e]; exact h.1.1) (by rw [e]; exact h.1.2) (by rw [e]; exact h1) h2 w) k
theorem zY_tswd {dflt lo hi : Int} {offs : Array Int} {len : Nat} {x : Int} (tgt : Nat) (hd : decode y.2.1 pc = .ok (.tableswitch dflt lo hi offs, len)) (hx : z32 x) (h : ((x < lo ∨ hi < x) ∧ (pc : Int) + dflt = (tgt : Int)) ∨ ((¬ x < lo ∧ ¬ hi < x) ∧ (offs[(x - lo).toNat]?).map (fun o => (pc : Int) + o) = some (tgt : Int))) (k : zY X Ex y n kc ks Z tgt ls st M Q) : zY X Ex y n kc ks Z pc ls (zI x :: st) M Q := by
  have e : (Int32.ofInt x).toInt = x := zw_id hx
  rcases h with h | h
  · exact zY_mv (fun g _ => zl_t g) (fun p l e1 R s m args below meth c H locs cells slots A D ad la Qf E Wd S hl w => lv_tableOut (tgt := tgt) E.1 E.2.1 hd (by rw [e]; exact h.1) h.2 w) k
  · exact zY_tsw tgt hd hx h k
theorem zY_lifeq {a b off : Int} (tgt : Nat) (hd : decode y.2.1 pc = .ok (.ifCond .eq off, 3)) (ht : (pc : Int) + off = (tgt : Int)) (kt : a = b → zY X Ex y n kc ks Z tgt ls st M Q) (kf : ¬ a = b → zY X Ex y n kc ks Z (pc + 3) ls st M Q) : zY X Ex y n kc ks Z pc ls (zI (if a < b then -1 else if a = b then 0 else 1) :: st) M Q := by
  have hq := zlc_c a b
  generalize (if a < b then (-1 : Int) else if a = b then 0 else 1) = v at hq ⊢
  exact zY_if_eq tgt hd ht ⟨by omega, by omega⟩ (fun h => kt (by omega)) (fun h => kf (by omega))
theorem zY_made {i ln : Nat} {h : zSh} {kc' ks' : Nat} {M' : zMem} {p : Program} {l : Launch} {e : Env} {R : Room} {s : State} {m : MethodId} {args : Array Value} {below : List Frame} {meth : Method} {c : Code} {H H' : Heap} {locs : List Loc} {cells slots : Nat} {A : Nat → Prop} {D : va_G} {ad : Nat → Nat} {la : Array Slot} {Qf : State → Prop}
    (kk : zY X Ex y n kc ks (zuz Z i h) (pc + ln) ls (zR i :: st) M' Q) (hi : i < 1000) (E : zEY X y n (kc + kc') (ks + ks') p l e R s m args below meth c cells slots A D ad Qf) (Wd : zWd s D Z ad M A H) (S : va_S A s.heap H locs) (hl : lv_has la y.2.2.1 (ls.map fun q => (q.1, zcv ad q.2))) (h1 : ∀ q ∈ ls, zlive Z q.2) (h2 : ∀ v ∈ st, zlive Z v)
    (hr : zHY Ex y (kc + kc') (ks + ks') Z ad Q p l e R s m args below meth c cells slots A D Qf) (hz : Z i = none) (hsz : H'.size = H.size + 1) (ho : ∀ q : Nat, q < H.size → H'[q]? = H[q]?) (hM : ∀ (a : Nat) (b : Int), a ≠ i → M' a b = M a b) (hc : zcell s D (zuz Z i h) (zua ad i H.size) M' H' i h) :
    W p l e R s m args below meth c H' locs (cells + kc') (slots + ks') Qf (F0 m (pc + ln) la (.ref H.size :: st.map (zcv ad))) := by
  obtain ⟨x1, x2, x3, x4, x5, x6, x7, x8, x9, x10, x11, x12, x13, x14⟩ := E
  obtain ⟨hW, hE⟩ := Wd.add hi hz hsz ho (x11 _ S.1) hM hc
  have hls : (ls.map fun q => (q.1, zcv (zua ad i H.size) q.2)) = ls.map fun q => (q.1, zcv ad q.2) := List.map_congr_left fun q hq => by rw [(hE.cv (h1 q hq)).1]
  have hst : st.map (zcv (zua ad i H.size)) = st.map (zcv ad) := List.map_congr_left fun v hv => (hE.cv (h2 v hv)).1
  have w := kk p l e R s m args below meth c H' locs (cells + kc') (slots + ks') A D (zua ad i H.size) la Qf ⟨x1, x2, x3, x4, x5, x6, x7, x8, by omega, by omega, x11, x12, x13, ⟨x14.1.ad hE.2, by rw [zXad hE.2]; exact x14.2⟩⟩ hW
    ⟨Nat.le_trans S.1 (by omega), fun q g1 g2 => (ho q (Nat.lt_of_lt_of_le g1 S.1)).trans (S.2.1 q g1 g2), S.2.2⟩ (by rw [hls]; exact hl) (fun q hq => (hE.cv (h1 q hq)).2)
    (zl_1 (by show (zuz Z i h i).isSome = true; rw [zuz_eq]; rfl) (fun v hv => (hE.cv (h2 v hv)).2)) (fun r2 M2 Z2 ad2 H2 locs2 c2 s2 pc2 la2 g1 g2 g3 g4 g5 => hr r2 M2 Z2 ad2 H2 locs2 c2 s2 pc2 la2 (hE.tr g1) g2 g3 (by omega) (by omega))
  rw [List.map_cons, hst] at w
  have e0 : zcv (zua ad i H.size) (zR i) = .ref H.size := by show Value.ref (zua ad i H.size i) = _; unfold zua; rw [if_pos rfl]
  rw [e0] at w
  exact w
theorem zY_newa {i k t : Nat} {aty : ArrayType} (hty : newarray.typeOf aty = zty t) (ht : t ≤ 3) (harr : Cond.arrayClass (zty t) ∈ zT) (hi : i < 1000) (hz : Z i = none) (hk : k < 100000) (hd : decode y.2.1 pc = .ok (.newarray aty, 2)) (kk : zY X Ex y n kc ks (zuz Z i (.inr (t, k))) (pc + 2) ls (zR i :: st) (zfr M i 0) Q) : zY X Ex y n (kc + 1) (ks + k) Z pc ls (zI k :: st) M Q := by
  intro p l e R s m args below meth c H locs cells slots A D ad la Qf E Wd S hl h1 h2 hr
  obtain ⟨x1, x2, x3, x4, x5, x6, x7, x8, x9, x10, x11, x12, x13, x14⟩ := id E
  have e1 : (Int32.ofInt k).toInt = k := zw_id ⟨by omega, by omega⟩
  have hcb : componentBytes (zty t) ≤ 8 := by
    rcases (show t = 0 ∨ t = 1 ∨ t = 2 ∨ t = 3 by omega) with rfl | rfl | rfl | rfl <;> decide
  refine W.newaK x1 x2 (by rw [hty]; exact x5 _ harr) rfl hd (n := Int32.ofInt k) (N := k) (rest := st.map (zcv ad)) rfl (fun q => ?_) (by show (Int32.ofInt k).toInt.toNat = k; rw [e1]; omega) (by rw [hty]; exact Nat.le_trans (Nat.mul_le_mul_left k hcb) (by omega)) (by omega) (by omega) rfl fun H' cA f1 f2 f3 f4 => ?_
  · rw [Int32.lt_iff_toInt_lt, e1] at q
    have : (0 : Int32).toInt = 0 := rfl
    omega
  · refine zY_made (kc' := 1) (ks' := k) kk hi E Wd S hl h1 (zl_t h2) hr hz f2 f3 (fun a b hab => zfr_ne hab) ?_
    rw [hty] at f1 f4
    have ed : ∀ j : Nat, defaultValue (zty t) = zev (zua ad i H.size) t (zfr M i 0 i j) := by
      intro j
      rw [zfr_eq]
      rcases (show t = 0 ∨ t = 1 ∨ t = 2 ∨ t = 3 by omega) with rfl | rfl | rfl | rfl <;> rfl
    have ea : zua ad i H.size i = H.size := by unfold zua; rw [if_pos rfl]
    have ec : arrV cA k (fun _ => defaultValue (zty t)) = arrV cA k (fun j => zev (zua ad i H.size) t (zfr M i 0 i j)) := zarrV_congr (fun j _ => ed j)
    intro _
    refine ⟨⟨arrV cA k (fun _ => defaultValue (zty t)), by rw [ea]; exact f1, ⟨f4 _ _, fun q => (by omega)⟩, fun _ => ec, fun q => (by cases q), arrV_size _ _ _, fun j hj => by rw [arrV_read _ _ hj, ed j]⟩, by omega, fun j hj => ?_⟩
    rw [zfr_eq]
    unfold zean
    rcases (show t = 0 ∨ t = 1 ∨ t = 2 ∨ t = 3 by omega) with rfl | rfl | rfl | rfl
    · exact z32_0
    · exact ⟨by decide, by decide⟩
    · exact Or.inl rfl
    · exact z64_0
theorem zY_newo {i ci idx N : Nat} {C : String} {T : u_T} {ty0 : Nat → FieldType} {raw : List Int} {M' : zMem} (hcl : vwCl[ci]? = some (C, T, N)) (hin : ∀ w ∈ u_ws C T N, w ∈ zT) (hty : ∀ k, k < N → parseFieldDescriptor (T k).2.2.1 = some (ty0 k)) (hlk : Cond.classLink y.1.cls idx C ∈ zT) (hins : Cond.instantiable C N ∈ zT) (hini : Cond.initialized C ∈ zT) (hi : i < 1000) (hz : Z i = none) (hlen : raw.length = N)
    (hraw : ∀ k, k < N → (raw.getD k (-1) = -1 ∨ raw.getD k (-1) = -2 ∨ raw.getD k (-1) = -3) ∧ ∀ ad : Nat → Nat, defaultValue (ty0 k) = zsv ad (raw.getD k (-1)) (M' i k)) (hkan : ∀ k : Nat, k < N → zkan Z (raw.getD k (-1)) (M' i k)) (hM : ∀ (a : Nat) (b : Int), a ≠ i → M' a b = M a b) (hd : decode y.2.1 pc = .ok (.new idx, 3)) (kk : zY X Ex y n kc ks (zuz Z i (.inl (ci, raw))) (pc + 3) ls (zR i :: st) M' Q) : zY X Ex y n (kc + 1) (ks + N) Z pc ls st M Q := by
  intro p l e R s m args below meth c H locs cells slots A D ad la Qf E Wd S hl h1 h2 hr
  obtain ⟨x1, x2, x3, x4, x5, x6, x7, x8, x9, x10, x11, x12, x13, x14⟩ := id E
  have hKn := x6.1 ci _ hcl
  refine W.newcK x1 x2 x4 (x5 _ hlk) (x5 _ hins) (x5 _ hini) rfl hd (by omega) (by omega) hKn.2.1 rfl fun H1 kC hkC e1 z1 o1 => ?_
  refine zY_made (kc' := 1) (ks' := N) kk hi E Wd S hl h1 h2 hr hz z1 o1 hM ?_
  have ea : zua ad i H.size i = H.size := by unfold zua; rw [if_pos rfl]
  have hal : ∀ j : Nat, (Z j).isSome = true → (zuz Z i (.inl (ci, raw)) j).isSome = true := by
    intro j hj
    by_cases e : j = i
    · subst e; rw [zuz_eq]; rfl
    · rw [zuz_ne e]; exact hj
  refine ⟨⟨_, hcl, hlen.symm, ?_⟩, fun k hk => (hkan k (by omega)).mono hal⟩
  rw [ea]
  exact (u_born ty0 x5 hin hKn hkC e1 hty).to (fun k hk => (hraw k hk).2 _)
theorem zY_le {kc' ks' : Nat} (h1 : kc' ≤ kc) (h2 : ks' ≤ ks) (k : zY X Ex y n kc' ks' Z pc ls st M Q) : zY X Ex y n kc ks Z pc ls st M Q := by
  intro p l e R s m args below meth c H locs cells slots A D ad la Qf E Wd S hl g1 g2 hr
  obtain ⟨x1, x2, x3, x4, x5, x6, x7, x8, x9, x10, x11, x12, x13, x14⟩ := E
  exact k p l e R s m args below meth c H locs cells slots A D ad la Qf ⟨x1, x2, x3, x4, x5, x6, x7, x8, by omega, by omega, x11, x12, x13, x14⟩ Wd S hl g1 g2 (fun r2 M2 Z2 ad2 H2 locs2 c2 s2 pc2 la2 a1 a2 a3 a4 a5 => hr r2 M2 Z2 ad2 H2 locs2 c2 s2 pc2 la2 a1 a2 a3 (by omega) (by omega))
theorem zY_mono {n' : Nat} (h : n' ≤ n) (k : zY X Ex y n' kc ks Z pc ls st M Q) : zY X Ex y n kc ks Z pc ls st M Q := by
  intro p l e R s m args below meth c H locs cells slots A D ad la Qf E Wd S hl g1 g2 hr
  obtain ⟨x1, x2, x3, x4, x5, x6, x7, x8, x9, x10, x11, x12, x13, x14⟩ := E
  exact k p l e R s m args below meth c H locs cells slots A D ad la Qf ⟨x1, x2, x3, x4, x5, x6, by omega, by omega, x9, x10, x11, x12, x13, x14⟩ Wd S hl g1 g2 hr
end ZY
