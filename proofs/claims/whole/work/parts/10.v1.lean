/-! THE V KIT: an abstract machine over the kit's W: cells have fixed numbers (their addresses are hidden in 'ad'), ints are Lean's Int, memory is zMem. -/
abbrev zMem : Type := Nat → Int → Int
abbrev zAV : Type := Int ⊕ (Int ⊕ Option Nat)
abbrev zI (x : Int) : zAV := .inl x
abbrev zL (x : Int) : zAV := .inr (.inl x)
abbrev zR (i : Nat) : zAV := .inr (.inr (some i))
abbrev zN : zAV := .inr (.inr none)
abbrev zSh : Type := (Nat × List Int) ⊕ (Nat × Nat)
abbrev zZ : Type := Nat → Option zSh
abbrev zMI : Type := MethodName × ByteArray × Nat × Option FieldType
def zup (M : zMem) (c : Nat) (k v : Int) : zMem := fun a b => if a = c ∧ b = k then v else M a b
def zuz (Z : zZ) (i : Nat) (h : zSh) : zZ := fun a => if a = i then some h else Z a
def zua (f : Nat → Nat) (i a : Nat) : Nat → Nat := fun j => if j = i then a else f j
def z32 (x : Int) : Prop := -2147483648 ≤ x ∧ x ≤ 2147483647
def z64 (x : Int) : Prop := -9223372036854775808 ≤ x ∧ x ≤ 9223372036854775807
def zw (x : Int) : Int := (Int32.ofInt x).toInt
def zwl (x : Int) : Int := (Int64.ofInt x).toInt
theorem z32_w (x : Int) : z32 (zw x) := by
  have h1 := Int32.le_toInt (Int32.ofInt x)
  have h2 := Int32.toInt_lt (Int32.ofInt x)
  exact ⟨by simpa [zw] using h1, by have : zw x < 2 ^ 31 := h2; omega⟩
theorem z64_w (x : Int) : z64 (zwl x) := by
  have h1 := Int64.le_toInt (Int64.ofInt x)
  have h2 := Int64.toInt_lt (Int64.ofInt x)
  exact ⟨by simpa [zwl] using h1, by have : zwl x < 2 ^ 63 := h2; omega⟩
theorem zw_id {x : Int} (h : z32 x) : zw x = x := by
  unfold zw; obtain ⟨h1, h2⟩ := h
  exact Int32.toInt_ofInt_of_le (by omega) (by omega)
theorem zwl_id {x : Int} (h : z64 x) : zwl x = x := by
  unfold zwl; obtain ⟨h1, h2⟩ := h
  exact Int64.toInt_ofInt_of_le (by omega) (by omega)
theorem zw_of (x : Int) : Int32.ofInt (zw x) = Int32.ofInt x := by unfold zw; exact Int32.ofInt_toInt _
theorem zwl_of (x : Int) : Int64.ofInt (zwl x) = Int64.ofInt x := by unfold zwl; exact Int64.ofInt_toInt _
theorem z32_lt {x y : Int} (hx : z32 x) (hy : z32 y) : Int32.ofInt x < Int32.ofInt y ↔ x < y := by
  rw [Int32.lt_iff_toInt_lt, show (Int32.ofInt x).toInt = x from zw_id hx, show (Int32.ofInt y).toInt = y from zw_id hy]
theorem z32_le {x y : Int} (hx : z32 x) (hy : z32 y) : Int32.ofInt x ≤ Int32.ofInt y ↔ x ≤ y := by
  rw [Int32.le_iff_toInt_le, show (Int32.ofInt x).toInt = x from zw_id hx, show (Int32.ofInt y).toInt = y from zw_id hy]
theorem z32_eq {x y : Int} (hx : z32 x) (hy : z32 y) : Int32.ofInt x = Int32.ofInt y ↔ x = y := by
  rw [← Int32.toInt_inj, show (Int32.ofInt x).toInt = x from zw_id hx, show (Int32.ofInt y).toInt = y from zw_id hy]
theorem z64_lt {x y : Int} (hx : z64 x) (hy : z64 y) : Int64.ofInt x < Int64.ofInt y ↔ x < y := by
  rw [Int64.lt_iff_toInt_lt, show (Int64.ofInt x).toInt = x from zwl_id hx, show (Int64.ofInt y).toInt = y from zwl_id hy]
theorem z64_eq {x y : Int} (hx : z64 x) (hy : z64 y) : Int64.ofInt x = Int64.ofInt y ↔ x = y := by
  rw [← Int64.toInt_inj, show (Int64.ofInt x).toInt = x from zwl_id hx, show (Int64.ofInt y).toInt = y from zwl_id hy]
theorem z32_0 : z32 0 := ⟨by decide, by decide⟩
theorem z64_0 : z64 0 := ⟨by decide, by decide⟩
/-- an abstract value as the machine has it -/
def zcv (ad : Nat → Nat) : zAV → Value
  | .inl x => .int (Int32.ofInt x)
  | .inr (.inl x) => .long (Int64.ofInt x)
  | .inr (.inr (some i)) => .ref (ad i)
  | .inr (.inr none) => .null
def zcat : zAV → Nat
  | .inr (.inl _) => 2
  | _ => 1
theorem zcat_cv (ad : Nat → Nat) (v : zAV) : (zcv ad v).category = zcat v := by
  rcases v with x | x | _ | i <;> rfl
def zlive (Z : zZ) : zAV → Prop
  | .inr (.inr (some i)) => (Z i).isSome = true
  | _ => True
/-- kinds of slots: -1 int, -2 long, -3 a reference kept in the memory (below 0: null), else the cell that it always is -/
def zrv (ad : Nat → Nat) (x : Int) : Value := if x < 0 then .null else .ref (ad x.toNat)
def zsv (ad : Nat → Nat) (kind x : Int) : Value :=
  if kind = -1 then .int (Int32.ofInt x) else if kind = -2 then .long (Int64.ofInt x) else if kind = -3 then zrv ad x else .ref (ad kind.toNat)
/-- element types: 0 int, 1 char, 2 boolean, 3 long, 4 and 5 references (Setup, Piece), 6 byte, 9 no array -/
def zty (t : Nat) : FieldType := match t with
  | 0 => .int
  | 1 => .char
  | 2 => .boolean
  | 3 => .long
  | 4 => .object "GlassSpindle$Setup"
  | 5 => .object "GlassSpindle$Piece"
  | _ => .byte
def zev (ad : Nat → Nat) (t : Nat) (x : Int) : Value :=
  if t = 3 then .long (Int64.ofInt x) else if t = 4 ∨ t = 5 then zrv ad x else .int (Int32.ofInt x)
/-- what a slot's number may be -/
def zkan (Z : zZ) (kind x : Int) : Prop :=
  if kind = -1 then z32 x else if kind = -2 then z64 x else if kind = -3 then (x < 0 ∨ (Z x.toNat).isSome = true) else (Z kind.toNat).isSome = true
def zean (Z : zZ) (t : Nat) (x : Int) : Prop :=
  if t = 3 then z64 x else if t = 4 ∨ t = 5 then (x < 0 ∨ (Z x.toNat).isSome = true) else if t = 1 then (0 ≤ x ∧ x < 65536) else if t = 2 then (x = 0 ∨ x = 1) else z32 x
def zIA (s : State) (cell : Cell) (t : Nat) : Prop := s.isArrayOf cell (zty t) ∧ (t = 4 ∨ t = 5 → va_RA s cell.cls (zty t))
def zcell (s : State) (D : va_G) (Z : zZ) (ad : Nat → Nat) (M : zMem) (H : Heap) (i : Nat) : zSh → Prop
  | .inl (ci, ks) => (∃ r : vw_C, vwCl[ci]? = some r ∧ r.2.2 = ks.length ∧ t_OB (ad i) (D.1 ci) r.2.2 (D.2 ci) H (fun k => zsv ad (ks.getD k (-1)) (M i k))) ∧ ∀ k : Nat, k < ks.length → zkan Z (ks.getD k (-1)) (M i k)
  | .inr (t, n) => t ≤ 6 → ((∃ cell : Cell, H[ad i]? = some cell ∧ zIA s cell t ∧ (i < 1000 → cell = arrV cell.cls n (fun j => zev ad t (M i j))) ∧ cell.vm ≠ .unknown ∧ cell.slots.size = n ∧ ∀ j : Nat, j < n → cell.slots[j]? = some (zev ad t (M i j))) ∧ n < 2 ^ 31 ∧ ∀ j : Nat, j < n → zean Z t (M i j))
def zWd (s : State) (D : va_G) (Z : zZ) (ad : Nat → Nat) (M : zMem) (A : Nat → Prop) (H : Heap) : Prop :=
  (∀ (i : Nat) (h : zSh), Z i = some h → zcell s D Z ad M H i h) ∧ (∀ (i j : Nat) (h g : zSh), i < 1000 → Z i = some h → Z j = some g → (j < 1000 ∨ g ≠ .inr (9, 0)) → ad i = ad j → i = j) ∧ (∀ (i : Nat) (h : zSh), Z i = some h → i < 1000 → A (ad i)) ∧ ∀ (i : Nat) (h : zSh), Z i = some h → (i < 1000 ∨ h ≠ .inr (9, 0)) → ad i < H.size
def zExt (Z : zZ) (ad : Nat → Nat) (Z' : zZ) (ad' : Nat → Nat) : Prop := (∀ i : Nat, (Z i).isSome = true → (Z' i).isSome = true ∧ ad' i = ad i) ∧ ∀ i : Nat, 1000 ≤ i → ad' i = ad i

/-- the tables' words that a callee may read too -/
def zT : List Cond := lw_tbl.filter goodWord
theorem zT_good : GoodIn zT zT := fun w hw => ⟨hw, good_of_word (List.mem_filter.mp hw).2⟩
theorem zT_in {i : Nat} {w : Cond} (h : lw_tbl[i]? = some w) (hg : goodWord w = true) : w ∈ zT := List.mem_filter.mpr ⟨List.mem_of_getElem? h, hg⟩
/-- the two texts: their bytes -/
def zSb : List (List Int32) := [[98, 111, 119, 108, 46, 46, 46, 46, 116, 111, 110, 101, 46, 46, 46, 46, 115, 105, 122, 101, 46, 46, 46, 46, 119, 97, 108, 108, 46, 46, 46, 46, 114, 105, 109, 109, 101, 100, 46, 46, 103, 105, 108, 116, 46, 46, 46, 46, 115, 112, 97, 114, 101, 46, 46, 46, 112, 97, 105, 114, 46, 46, 46, 46, 119, 105, 116, 104, 105, 110, 46, 46, 115, 112, 101, 97, 107, 46, 46, 46, 115, 101, 116, 46, 46, 46, 46, 46, 110, 111, 116, 46, 46, 46, 46, 46, 97, 110, 100, 46, 46, 46, 46, 46, 111, 114, 46, 46, 46, 46, 46, 46, 116, 114, 101, 97, 100, 108, 101, 46, 102, 105, 110, 103, 101, 114, 115, 46, 114, 101, 97, 99, 104, 46, 46, 46, 115, 111, 111, 110, 46, 46, 46, 46, 100, 114, 121, 46, 46, 46, 46, 46, 100, 105, 112, 46, 46, 46, 46, 46, 119, 97, 114, 109, 46, 46, 46, 46, 99, 111, 111, 108, 46, 46, 46, 46, 99, 114, 97, 99, 107, 46, 46, 46, 97, 108, 111, 110, 103, 46, 46, 46, 103, 114, 105, 110, 100, 46, 46, 46, 115, 112, 101, 101, 100, 46, 46, 46, 112, 114, 101, 115, 115, 46, 46, 46, 104, 101, 97, 116, 46, 46, 46, 46, 116, 111, 117, 99, 104, 46, 46, 46], [40, 41, 60, 61, 43, 45, 42, 59]]
def zSl : List Nat := [232, 8]
def zNl : Cond → Bool
  | .methodLinkNest .. => true
  | .fieldLinkNest .. => true
  | .declares .. => true
  | .castable .. => true
  | _ => false
/-- what stands outside the world, at addresses of its own (1000 and on): static rows, texts, links between nest mates -/
def zGr (ad : Nat → Nat) (A : Nat → Prop) (U : State) (H : Heap) : Prop :=
  (∀ w ∈ lw_tbl, zNl w = true → va_Nw w U) ∧ (va_Z "GlassSpindle" "SETTING_UNTOLD" "[I" (.ref (ad 1000)) A U H ∧ va_Z "GlassSpindle" "SETTING_LEAST" "[I" (.ref (ad 1001)) A U H ∧ va_Z "GlassSpindle" "SETTING_MOST" "[I" (.ref (ad 1002)) A U H) ∧
  (vk_R "GlassSpindle$Law" 15 "bowl....tone....size....wall....rimmed..gilt....spare...pair....within..speak...set.....not.....and.....or......treadle.fingers.reach...soon....dry.....dip.....warm....cool....crack...along...grind...speed...press...heat....touch..." (ad 1010) U ∧ vk_R "GlassSpindle$Tape" 63 "bowl....tone....size....wall....rimmed..gilt....spare...pair....within..speak...set.....not.....and.....or......treadle.fingers.reach...soon....dry.....dip.....warm....cool....crack...along...grind...speed...press...heat....touch..." (ad 1010) U ∧ vk_R "GlassSpindle$Tape" 56 "()<=+-*;" (ad 1011) U) ∧
  vk_S 2 zSl zSb (fun i => ad (1010 + i)) (fun i => ad (1020 + i)) A U H ∧ va_Z "java/lang/String" "COMPACT_STRINGS" "Z" (.int 1) A U H ∧ (va_Z "jdk/internal/util/Preconditions" "SIOOBE_FORMATTER" "Ljava/util/function/BiFunction;" .null A U H ∨ va_Z "jdk/internal/util/Preconditions" "SIOOBE_FORMATTER" "Ljava/util/function/BiFunction;" (.ref (ad 1030)) A U H) ∧ va_O "[I" (ad 1000) A U H ∧ va_AO "GlassSpindle$Setup" U ∧ va_AO "GlassSpindle$Piece" U
theorem zNl_warm {w : Cond} (hw : zNl w = true) {s U : State} (hW : s.WarmedH U.vm) (h : va_Nw w s) : va_Nw w U := by
  cases w <;> simp [zNl] at hw
  · exact va_Nw.warmM hW h
  · exact va_Nw.warmF hW h
  · exact va_Nw.warmD hW h
  · exact va_Nw.warmC hW h
theorem zNl_tab {w : Cond} (hw : zNl w = true) : w.onTables = true := by
  cases w <;> simp [zNl] at hw <;> rfl
theorem zGr.to {ad : Nat → Nat} {A : Nat → Prop} {s U : State} {H0 H : Heap} (g : zGr ad A s H0) (hW : s.WarmedH U.vm) (hq : ∀ a : Nat, a < H0.size → ¬ A a → H[a]? = H0[a]?) : zGr ad A U H := by
  obtain ⟨g1, ⟨a1, a2, a3⟩, ⟨b1, b2, b3⟩, g4, g5, g6, g7, g8, g9⟩ := g
  have hv := hW.alike
  exact ⟨fun w hw hn => zNl_warm hn hW (g1 w hw hn), ⟨(a1.moved hv).kept hq, (a2.moved hv).kept hq, (a3.moved hv).kept hq⟩, ⟨b1.warm hW, b2.warm hW, b3.warm hW⟩, (g4.moved hv).kept hq, (g5.moved hv).kept hq, g6.imp (fun g => (g.moved hv).kept hq) (fun g => (g.moved hv).kept hq), (g7.moved hv).kept hq, g8.moved hv, g9.moved hv⟩
theorem zGr.same {ad : Nat → Nat} {A : Nat → Prop} {s U : State} {H : Heap} (g : zGr ad A s H) (hv : s.vm = U.vm) : zGr ad A U H := by
  obtain ⟨g1, ⟨a1, a2, a3⟩, ⟨b1, b2, b3⟩, g4, g5, g6, g7, g8, g9⟩ := g
  have ha : s.vm.Alike U.vm := by rw [hv]; exact Vm.Alike.refl _
  exact ⟨fun w hw hn => va_Nw.same (zNl_tab hn) hv (g1 w hw hn), ⟨a1.moved ha, a2.moved ha, a3.moved ha⟩, ⟨b1.same hv.symm, b2.same hv.symm, b3.same hv.symm⟩, g4.moved ha, g5.moved ha, g6.imp (fun g => g.moved ha) (fun g => g.moved ha), g7.moved ha, g8.moved ha, g9.moved ha⟩
theorem zGr.ad {ad ad' : Nat → Nat} {A : Nat → Prop} {s : State} {H : Heap} (g : zGr ad A s H) (h : ∀ i : Nat, 1000 ≤ i → ad' i = ad i) : zGr ad' A s H := by
  unfold zGr at g ⊢
  rw [h 1000 (by omega), h 1001 (by omega), h 1002 (by omega), h 1010 (by omega), h 1011 (by omega), h 1030 (by omega), show (fun i => ad' (1010 + i)) = fun i => ad (1010 + i) from funext fun i => h _ (by omega), show (fun i => ad' (1020 + i)) = fun i => ad (1020 + i) from funext fun i => h _ (by omega)]
  exact g
/-- what holds in every method's body -/
def zEnv (y : zMI) (n kc ks : Nat) (p : Program) (R : Room) (s : State) (m : MethodId) (args : Array Value) (meth : Method) (c : Code) (cells slots : Nat) (A : Nat → Prop) (D : va_G) (ad : Nat → Nat) : Prop :=
  p.tables.exec = Jvm.exec ∧ c.code = y.2.1 ∧ c.maxLocals = y.2.2.1 ∧ s.vm.findClass y.1.cls = some m.cls ∧ (∀ w ∈ zT, w.before args s = true) ∧ va_K D vwCl [] s ∧ n ≤ R.frames ∧ 60 * n ≤ R.locals ∧ cells + kc ≤ R.cells ∧ slots + ks ≤ R.slots ∧ (∀ q : Nat, s.heap.size ≤ q → A q) ∧ meth.locks = false ∧ meth.name = y.1.name ∧ zGr ad A s s.heap
/-- the instruction at pc hands r back -/
def zRi (y : zMI) (pc : Nat) : Option zAV → Prop
  | none => decode y.2.1 pc = .ok (.return_, 1) ∧ y.2.2.2 = none
  | some (.inl x) => decode y.2.1 pc = .ok (.ireturn, 1) ∧ z32 x ∧ ∃ ty : FieldType, y.2.2.2 = some ty ∧ narrow ty (.int (Int32.ofInt x)) = .int (Int32.ofInt x)
  | some (.inr (.inl x)) => decode y.2.1 pc = .ok (.lreturn, 1) ∧ z64 x ∧ y.2.2.2 = some .long
  | some (.inr (.inr _)) => False
def zHr (y : zMI) (kc ks : Nat) (Z : zZ) (ad : Nat → Nat) (Q : Option zAV → zMem → zZ → Prop) (p : Program) (l : Launch) (e : Env) (R : Room) (s : State) (m : MethodId) (args : Array Value) (below : List Frame) (meth : Method) (c : Code) (cells slots : Nat) (A : Nat → Prop) (D : va_G) (Qf : State → Prop) : Prop :=
  ∀ (r : Option zAV) (M' : zMem) (Z' : zZ) (ad' : Nat → Nat) (H' : Heap) (locs' : List Loc) (cells' slots' pc : Nat) (ls : Array Slot), zExt Z ad Z' ad' → zWd s D Z' ad' M' A H' → va_S A s.heap H' locs' → cells' ≤ cells + kc → slots' ≤ slots + ks → Q r M' Z' → zRi y pc r →
    W p l e R s m args below meth c H' locs' cells' slots' Qf (F0 m pc ls (r.toList.map (zcv ad')))
/-- from pc, with these locals, operands and memory, the method ends, and what it hands back has Q -/
def zV (y : zMI) (n kc ks : Nat) (Z : zZ) (pc : Nat) (ls : List (Nat × zAV)) (st : List zAV) (M : zMem) (Q : Option zAV → zMem → zZ → Prop) : Prop :=
  ∀ (p : Program) (l : Launch) (e : Env) (R : Room) (s : State) (m : MethodId) (args : Array Value) (below : List Frame) (meth : Method) (c : Code) (H : Heap) (locs : List Loc) (cells slots : Nat) (A : Nat → Prop) (D : va_G) (ad : Nat → Nat) (la : Array Slot) (Qf : State → Prop),
    zEnv y n kc ks p R s m args meth c cells slots A D ad → zWd s D Z ad M A H → va_S A s.heap H locs → lv_has la y.2.2.1 (ls.map fun q => (q.1, zcv ad q.2)) → (∀ q ∈ ls, zlive Z q.2) → (∀ v ∈ st, zlive Z v) →
    zHr y kc ks Z ad Q p l e R s m args below meth c cells slots A D Qf → W p l e R s m args below meth c H locs cells slots Qf (F0 m pc la (st.map (zcv ad)))
theorem zExt.rf {Z : zZ} {ad : Nat → Nat} : zExt Z ad Z ad := ⟨fun _ h => ⟨h, rfl⟩, fun _ _ => rfl⟩
theorem zExt.tr {Z Z1 Z2 : zZ} {ad ad1 ad2 : Nat → Nat} (h : zExt Z ad Z1 ad1) (g : zExt Z1 ad1 Z2 ad2) : zExt Z ad Z2 ad2 := ⟨fun i hi => ⟨(g.1 i (h.1 i hi).1).1, (g.1 i (h.1 i hi).1).2.trans (h.1 i hi).2⟩, fun i hi => (g.2 i hi).trans (h.2 i hi)⟩
theorem zExt.cv {Z Z1 : zZ} {ad ad1 : Nat → Nat} (h : zExt Z ad Z1 ad1) {v : zAV} (hv : zlive Z v) : zcv ad1 v = zcv ad v ∧ zlive Z1 v := by
  rcases v with x | x | _ | i
  · exact ⟨rfl, trivial⟩
  · exact ⟨rfl, trivial⟩
  · exact ⟨rfl, trivial⟩
  · exact ⟨congrArg Value.ref (h.1 i hv).2, (h.1 i hv).1⟩
section ZR
variable {y : zMI} {n kc ks : Nat} {Z : zZ} {pc : Nat} {ls : List (Nat × zAV)} {st : List zAV} {M : zMem} {Q : Option zAV → zMem → zZ → Prop}
/-- an instruction that moves operands alone -/
theorem zV_mv {pc' : Nat} {st' : List zAV} (hlv : (∀ v ∈ st, zlive Z v) → (∀ q ∈ ls, zlive Z q.2) → ∀ v ∈ st', zlive Z v)
    (h : ∀ (p : Program) (l : Launch) (e : Env) (R : Room) (s : State) (m : MethodId) (args : Array Value) (below : List Frame) (meth : Method) (c : Code) (H : Heap) (locs : List Loc) (cells slots : Nat) (A : Nat → Prop) (D : va_G) (ad : Nat → Nat) (la : Array Slot) (Qf : State → Prop),
      zEnv y n kc ks p R s m args meth c cells slots A D ad → zWd s D Z ad M A H → va_S A s.heap H locs → lv_has la y.2.2.1 (ls.map fun q => (q.1, zcv ad q.2)) → W p l e R s m args below meth c H locs cells slots Qf (F0 m pc' la (st'.map (zcv ad))) → W p l e R s m args below meth c H locs cells slots Qf (F0 m pc la (st.map (zcv ad))))
    (k : zV y n kc ks Z pc' ls st' M Q) : zV y n kc ks Z pc ls st M Q :=
  fun p l e R s m args below meth c H locs cells slots A D ad la Qf E Wd S hl h1 h2 hr => h p l e R s m args below meth c H locs cells slots A D ad la Qf E Wd S hl (k p l e R s m args below meth c H locs cells slots A D ad la Qf E Wd S hl h1 (hlv h2 h1) hr)
theorem zl_1 {v : zAV} {st : List zAV} (hv : zlive Z v) (h : ∀ v ∈ st, zlive Z v) : ∀ w ∈ v :: st, zlive Z w := fun w hw => (List.mem_cons.mp hw).elim (fun e => e ▸ hv) (h w)
theorem zl_t {v : zAV} {st : List zAV} (h : ∀ w ∈ v :: st, zlive Z w) : ∀ w ∈ st, zlive Z w := fun w hw => h w (List.mem_cons_of_mem _ hw)
theorem zV_iconst {i v : Int} (hd : decode y.2.1 pc = .ok (.iconst i, 1)) (hv : i = v) (k : zV y n kc ks Z (pc + 1) ls (zI v :: st) M Q) : zV y n kc ks Z pc ls st M Q := by
  subst hv
  exact zV_mv (fun h _ => zl_1 (by exact trivial) h) (fun p l e R s m args below meth c H locs cells slots A D ad la Qf E Wd S hl w => lv_iconst E.1 E.2.1 hd rfl w) k
theorem zV_bipush {i v : Int} (hd : decode y.2.1 pc = .ok (.bipush i, 2)) (hv : (Int8.ofInt i).toInt32 = Int32.ofInt v) (k : zV y n kc ks Z (pc + 2) ls (zI v :: st) M Q) : zV y n kc ks Z pc ls st M Q :=
  zV_mv (fun h _ => zl_1 (by exact trivial) h) (fun p l e R s m args below meth c H locs cells slots A D ad la Qf E Wd S hl w => lv_bipush E.1 E.2.1 hd hv w) k
theorem zV_sipush {i v : Int} (hd : decode y.2.1 pc = .ok (.sipush i, 3)) (hv : (Int16.ofInt i).toInt32 = Int32.ofInt v) (k : zV y n kc ks Z (pc + 3) ls (zI v :: st) M Q) : zV y n kc ks Z pc ls st M Q :=
  zV_mv (fun h _ => zl_1 (by exact trivial) h) (fun p l e R s m args below meth c H locs cells slots A D ad la Qf E Wd S hl w => lv_sipush E.1 E.2.1 hd hv w) k
theorem zV_lconst {i : Fin 2} {v : Int} (hd : decode y.2.1 pc = .ok (.lconst i, 1)) (hv : Int64.ofNat (i : Nat) = Int64.ofInt v) (k : zV y n kc ks Z (pc + 1) ls (zL v :: st) M Q) : zV y n kc ks Z pc ls st M Q :=
  zV_mv (fun h _ => zl_1 (by exact trivial) h) (fun p l e R s m args below meth c H locs cells slots A D ad la Qf E Wd S hl w => lv_lconst E.1 E.2.1 hd hv w) k
theorem zV_ldc {i : Nat} {v : Int} {v3 : Int32} (hw : Cond.constant y.1.cls i v3 ∈ zT) (hv : v3 = Int32.ofInt v) (hd : decode y.2.1 pc = .ok (.ldc i, 2)) (k : zV y n kc ks Z (pc + 2) ls (zI v :: st) M Q) : zV y n kc ks Z pc ls st M Q := by
  subst hv
  exact zV_mv (fun h _ => zl_1 (by exact trivial) h) (fun p l e R s m args below meth c H locs cells slots A D ad la Qf E Wd S hl w => lv_ldc E.1 E.2.1 E.2.2.2.1 (E.2.2.2.2.1 _ hw) hd w) k
theorem zV_ldcw {i : Nat} {v : Int} {v3 : Int32} (hw : Cond.constant y.1.cls i v3 ∈ zT) (hv : v3 = Int32.ofInt v) (hd : decode y.2.1 pc = .ok (.ldc_w i, 3)) (k : zV y n kc ks Z (pc + 3) ls (zI v :: st) M Q) : zV y n kc ks Z pc ls st M Q := by
  subst hv
  exact zV_mv (fun h _ => zl_1 (by exact trivial) h) (fun p l e R s m args below meth c H locs cells slots A D ad la Qf E Wd S hl w => lv_ldcw E.1 E.2.1 E.2.2.2.1 (E.2.2.2.2.1 _ hw) hd w) k
theorem zV_ldc2 {i : Nat} {v : Int} {v3 : Int64} (hw : Cond.constantLong y.1.cls i v3 ∈ zT) (hv : v3 = Int64.ofInt v) (hd : decode y.2.1 pc = .ok (.ldc2_w i, 3)) (k : zV y n kc ks Z (pc + 3) ls (zL v :: st) M Q) : zV y n kc ks Z pc ls st M Q := by
  subst hv
  exact zV_mv (fun h _ => zl_1 (by exact trivial) h) (fun p l e R s m args below meth c H locs cells slots A D ad la Qf E Wd S hl w => lv_ldc2 E.1 E.2.1 E.2.2.2.1 (E.2.2.2.2.1 _ hw) hd w) k
theorem zl_at {la : Array Slot} {nL i : Nat} {ad : Nat → Nat} {v : zAV} (j : Nat) (hj : ls[j]? = some (i, v)) (h : lv_has la nL (ls.map fun q => (q.1, zcv ad q.2))) : la[i]? = some (.val (zcv ad v)) := lv_at h j (by rw [List.getElem?_map, hj]; rfl)
theorem zl_mem {i : Nat} {v : zAV} (j : Nat) (hj : ls[j]? = some (i, v)) (h : ∀ q ∈ ls, zlive Z q.2) : zlive Z v := h (i, v) (List.mem_of_getElem? hj)
theorem zV_iload_n {kf : Fin 4} {i : Nat} {x : Int} (j : Nat) (hd : decode y.2.1 pc = .ok (.iload_n kf, 1)) (hi : (kf : Nat) = i) (hj : ls[j]? = some (i, zI x)) (k : zV y n kc ks Z (pc + 1) ls (zI x :: st) M Q) : zV y n kc ks Z pc ls st M Q :=
  zV_mv (fun h _ => zl_1 (by exact trivial) h) (fun p l e R s m args below meth c H locs cells slots A D ad la Qf E Wd S hl w => lv_iload_n E.1 E.2.1 hd hi (zl_at j hj hl) w) k
theorem zV_iload {i : Nat} {x : Int} (j : Nat) (hd : decode y.2.1 pc = .ok (.iload i, 2)) (hj : ls[j]? = some (i, zI x)) (k : zV y n kc ks Z (pc + 2) ls (zI x :: st) M Q) : zV y n kc ks Z pc ls st M Q :=
  zV_mv (fun h _ => zl_1 (by exact trivial) h) (fun p l e R s m args below meth c H locs cells slots A D ad la Qf E Wd S hl w => lv_iload E.1 E.2.1 hd (zl_at j hj hl) w) k
theorem zV_lload_n {kf : Fin 4} {i : Nat} {x : Int} (j : Nat) (hd : decode y.2.1 pc = .ok (.lload_n kf, 1)) (hi : (kf : Nat) = i) (hj : ls[j]? = some (i, zL x)) (k : zV y n kc ks Z (pc + 1) ls (zL x :: st) M Q) : zV y n kc ks Z pc ls st M Q :=
  zV_mv (fun h _ => zl_1 (by exact trivial) h) (fun p l e R s m args below meth c H locs cells slots A D ad la Qf E Wd S hl w => lv_lload_n E.1 E.2.1 hd hi (zl_at j hj hl) w) k
theorem zV_lload {i : Nat} {x : Int} (j : Nat) (hd : decode y.2.1 pc = .ok (.lload i, 2)) (hj : ls[j]? = some (i, zL x)) (k : zV y n kc ks Z (pc + 2) ls (zL x :: st) M Q) : zV y n kc ks Z pc ls st M Q :=
  zV_mv (fun h _ => zl_1 (by exact trivial) h) (fun p l e R s m args below meth c H locs cells slots A D ad la Qf E Wd S hl w => lv_lload E.1 E.2.1 hd (zl_at j hj hl) w) k
theorem zV_aload_n {kf : Fin 4} {i x : Nat} (j : Nat) (hd : decode y.2.1 pc = .ok (.aload_n kf, 1)) (hi : (kf : Nat) = i) (hj : ls[j]? = some (i, zR x)) (k : zV y n kc ks Z (pc + 1) ls (zR x :: st) M Q) : zV y n kc ks Z pc ls st M Q :=
  zV_mv (fun h g => zl_1 (zl_mem j hj g) h) (fun p l e R s m args below meth c H locs cells slots A D ad la Qf E Wd S hl w => lv_aload_n E.1 E.2.1 hd hi (zl_at j hj hl) w) k
theorem zV_aload {i x : Nat} (j : Nat) (hd : decode y.2.1 pc = .ok (.aload i, 2)) (hj : ls[j]? = some (i, zR x)) (k : zV y n kc ks Z (pc + 2) ls (zR x :: st) M Q) : zV y n kc ks Z pc ls st M Q :=
  zV_mv (fun h g => zl_1 (zl_mem j hj g) h) (fun p l e R s m args below meth c H locs cells slots A D ad la Qf E Wd S hl w => lv_aload E.1 E.2.1 hd (zl_at j hj hl) w) k
end ZR
