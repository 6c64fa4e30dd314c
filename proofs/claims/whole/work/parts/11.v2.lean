section ZS
variable {y : zMI} {n kc ks : Nat} {Z : zZ} {pc : Nat} {ls : List (Nat × zAV)} {st : List zAV} {M : zMem} {Q : Option zAV → zMem → zZ → Prop}
def zand (a b : Int) : Int := (Int32.ofInt a &&& Int32.ofInt b).toInt
def zor (a b : Int) : Int := (Int32.ofInt a ||| Int32.ofInt b).toInt
def zxor (a b : Int) : Int := (Int32.ofInt a ^^^ Int32.ofInt b).toInt
def zshl (a b : Int) : Int := (Int32.ofInt a <<< (Int32.ofInt b &&& 31)).toInt
def zshr (a b : Int) : Int := (Int32.ofInt a >>> (Int32.ofInt b &&& 31)).toInt
def zdiv (a b : Int) : Int := (Int32.ofInt a / Int32.ofInt b).toInt
def zrem (a b : Int) : Int := (Int32.ofInt a - Int32.ofInt a / Int32.ofInt b * Int32.ofInt b).toInt
def zland (a b : Int) : Int := (Int64.ofInt a &&& Int64.ofInt b).toInt
def zlor (a b : Int) : Int := (Int64.ofInt a ||| Int64.ofInt b).toInt
def zlshl (a b : Int) : Int := (Int64.ofInt a <<< ((Int32.ofInt b).toInt64 &&& 63)).toInt
def zlushr (a b : Int) : Int := ((Int64.ofInt a).toUInt64 >>> ((Int32.ofInt b).toInt64.toUInt64 &&& Int64.toUInt64 63)).toInt64.toInt
def zldiv (a b : Int) : Int := (Int64.ofInt a / Int64.ofInt b).toInt
def zlrem (a b : Int) : Int := (Int64.ofInt a - Int64.ofInt a / Int64.ofInt b * Int64.ofInt b).toInt
def zchr (a : Int) : Int := ((Int32.ofInt a).toUInt32 % 65536).toInt32.toInt
theorem z32_i (x : Int32) : z32 x.toInt := by
  have h1 := Int32.le_toInt x
  have h2 := Int32.toInt_lt x
  exact ⟨by simpa using h1, by have : x.toInt < 2 ^ 31 := h2; omega⟩
theorem z64_i (x : Int64) : z64 x.toInt := by
  have h1 := Int64.le_toInt x
  have h2 := Int64.toInt_lt x
  exact ⟨by simpa using h1, by have : x.toInt < 2 ^ 63 := h2; omega⟩

theorem zV_iadd {a b : Int} (hd : decode y.2.1 pc = .ok (.iadd, 1)) (k : zV y n kc ks Z (pc + 1) ls (zI (a + b) :: st) M Q) : zV y n kc ks Z pc ls (zI b :: zI a :: st) M Q :=
  zV_mv (fun h _ => zl_1 (by exact trivial) (zl_t (zl_t h))) (fun p l e R s m args below meth c H locs cells slots A D ad la Qf E Wd S hl w => lv_iadd E.1 E.2.1 hd (by have e : zcv ad (zI (a + b)) = .int (Int32.ofInt a + Int32.ofInt b) := congrArg Value.int (Int32.ofInt_add ..); rw [List.map_cons, e] at w; exact w)) k
theorem zV_isub {a b : Int} (hd : decode y.2.1 pc = .ok (.isub, 1)) (k : zV y n kc ks Z (pc + 1) ls (zI (a - b) :: st) M Q) : zV y n kc ks Z pc ls (zI b :: zI a :: st) M Q :=
  zV_mv (fun h _ => zl_1 (by exact trivial) (zl_t (zl_t h))) (fun p l e R s m args below meth c H locs cells slots A D ad la Qf E Wd S hl w => lv_isub E.1 E.2.1 hd (by have e : zcv ad (zI (a - b)) = .int (Int32.ofInt a - Int32.ofInt b) := congrArg Value.int (Int32.ofInt_sub ..); rw [List.map_cons, e] at w; exact w)) k
theorem zV_imul {a b : Int} (hd : decode y.2.1 pc = .ok (.imul, 1)) (k : zV y n kc ks Z (pc + 1) ls (zI (a * b) :: st) M Q) : zV y n kc ks Z pc ls (zI b :: zI a :: st) M Q :=
  zV_mv (fun h _ => zl_1 (by exact trivial) (zl_t (zl_t h))) (fun p l e R s m args below meth c H locs cells slots A D ad la Qf E Wd S hl w => lv_imul E.1 E.2.1 hd (by have e : zcv ad (zI (a * b)) = .int (Int32.ofInt a * Int32.ofInt b) := congrArg Value.int (Int32.ofInt_mul ..); rw [List.map_cons, e] at w; exact w)) k
theorem zV_iand {a b : Int} (hd : decode y.2.1 pc = .ok (.iand, 1)) (k : zV y n kc ks Z (pc + 1) ls (zI (zand a b) :: st) M Q) : zV y n kc ks Z pc ls (zI b :: zI a :: st) M Q :=
  zV_mv (fun h _ => zl_1 (by exact trivial) (zl_t (zl_t h))) (fun p l e R s m args below meth c H locs cells slots A D ad la Qf E Wd S hl w => lv_iand E.1 E.2.1 hd (by have e : zcv ad (zI (zand a b)) = .int (Int32.ofInt a &&& Int32.ofInt b) := congrArg Value.int (Int32.ofInt_toInt _); rw [List.map_cons, e] at w; exact w)) k
theorem zV_ior {a b : Int} (hd : decode y.2.1 pc = .ok (.ior, 1)) (k : zV y n kc ks Z (pc + 1) ls (zI (zor a b) :: st) M Q) : zV y n kc ks Z pc ls (zI b :: zI a :: st) M Q :=
  zV_mv (fun h _ => zl_1 (by exact trivial) (zl_t (zl_t h))) (fun p l e R s m args below meth c H locs cells slots A D ad la Qf E Wd S hl w => lv_ior E.1 E.2.1 hd (by have e : zcv ad (zI (zor a b)) = .int (Int32.ofInt a ||| Int32.ofInt b) := congrArg Value.int (Int32.ofInt_toInt _); rw [List.map_cons, e] at w; exact w)) k
theorem zV_ixor {a b : Int} (hd : decode y.2.1 pc = .ok (.ixor, 1)) (k : zV y n kc ks Z (pc + 1) ls (zI (zxor a b) :: st) M Q) : zV y n kc ks Z pc ls (zI b :: zI a :: st) M Q :=
  zV_mv (fun h _ => zl_1 (by exact trivial) (zl_t (zl_t h))) (fun p l e R s m args below meth c H locs cells slots A D ad la Qf E Wd S hl w => lv_ixor E.1 E.2.1 hd (by have e : zcv ad (zI (zxor a b)) = .int (Int32.ofInt a ^^^ Int32.ofInt b) := congrArg Value.int (Int32.ofInt_toInt _); rw [List.map_cons, e] at w; exact w)) k
theorem zV_ishl {a b : Int} (hd : decode y.2.1 pc = .ok (.ishl, 1)) (k : zV y n kc ks Z (pc + 1) ls (zI (zshl a b) :: st) M Q) : zV y n kc ks Z pc ls (zI b :: zI a :: st) M Q :=
  zV_mv (fun h _ => zl_1 (by exact trivial) (zl_t (zl_t h))) (fun p l e R s m args below meth c H locs cells slots A D ad la Qf E Wd S hl w => lv_ishl E.1 E.2.1 hd (by have e : zcv ad (zI (zshl a b)) = .int (Int32.ofInt a <<< (Int32.ofInt b &&& 31)) := congrArg Value.int (Int32.ofInt_toInt _); rw [List.map_cons, e] at w; exact w)) k
theorem zV_ishr {a b : Int} (hd : decode y.2.1 pc = .ok (.ishr, 1)) (k : zV y n kc ks Z (pc + 1) ls (zI (zshr a b) :: st) M Q) : zV y n kc ks Z pc ls (zI b :: zI a :: st) M Q :=
  zV_mv (fun h _ => zl_1 (by exact trivial) (zl_t (zl_t h))) (fun p l e R s m args below meth c H locs cells slots A D ad la Qf E Wd S hl w => lv_ishr E.1 E.2.1 hd (by have e : zcv ad (zI (zshr a b)) = .int (Int32.ofInt a >>> (Int32.ofInt b &&& 31)) := congrArg Value.int (Int32.ofInt_toInt _); rw [List.map_cons, e] at w; exact w)) k
theorem zV_idiv {a b : Int} (hd : decode y.2.1 pc = .ok (.idiv, 1)) (hb : z32 b) (h0 : ¬ b = 0) (k : zV y n kc ks Z (pc + 1) ls (zI (zdiv a b) :: st) M Q) : zV y n kc ks Z pc ls (zI b :: zI a :: st) M Q :=
  zV_mv (fun h _ => zl_1 (by exact trivial) (zl_t (zl_t h))) (fun p l e R s m args below meth c H locs cells slots A D ad la Qf E Wd S hl w => lv_idiv E.1 E.2.1 hd (fun q => h0 ((z32_eq hb z32_0).mp q)) (by have e : zcv ad (zI (zdiv a b)) = .int (Int32.ofInt a / Int32.ofInt b) := congrArg Value.int (Int32.ofInt_toInt _); rw [List.map_cons, e] at w; exact w)) k
theorem zV_irem {a b : Int} (hd : decode y.2.1 pc = .ok (.irem, 1)) (hb : z32 b) (h0 : ¬ b = 0) (k : zV y n kc ks Z (pc + 1) ls (zI (zrem a b) :: st) M Q) : zV y n kc ks Z pc ls (zI b :: zI a :: st) M Q :=
  zV_mv (fun h _ => zl_1 (by exact trivial) (zl_t (zl_t h))) (fun p l e R s m args below meth c H locs cells slots A D ad la Qf E Wd S hl w => lv_irem E.1 E.2.1 hd (fun q => h0 ((z32_eq hb z32_0).mp q)) (by have e : zcv ad (zI (zrem a b)) = .int (Int32.ofInt a - Int32.ofInt a / Int32.ofInt b * Int32.ofInt b) := congrArg Value.int (Int32.ofInt_toInt _); rw [List.map_cons, e] at w; exact w)) k
theorem zV_ineg {a : Int} (hd : decode y.2.1 pc = .ok (.ineg, 1)) (k : zV y n kc ks Z (pc + 1) ls (zI (-a) :: st) M Q) : zV y n kc ks Z pc ls (zI a :: st) M Q :=
  zV_mv (fun h _ => zl_1 (by exact trivial) (zl_t h)) (fun p l e R s m args below meth c H locs cells slots A D ad la Qf E Wd S hl w => lv_ineg E.1 E.2.1 hd (by have e : zcv ad (zI (-a)) = .int (-Int32.ofInt a) := congrArg Value.int (Int32.ofInt_neg _); rw [List.map_cons, e] at w; exact w)) k
theorem zV_ladd {a b : Int} (hd : decode y.2.1 pc = .ok (.ladd, 1)) (k : zV y n kc ks Z (pc + 1) ls (zL (a + b) :: st) M Q) : zV y n kc ks Z pc ls (zL b :: zL a :: st) M Q :=
  zV_mv (fun h _ => zl_1 (by exact trivial) (zl_t (zl_t h))) (fun p l e R s m args below meth c H locs cells slots A D ad la Qf E Wd S hl w => lv_ladd E.1 E.2.1 hd (by have e : zcv ad (zL (a + b)) = .long (Int64.ofInt a + Int64.ofInt b) := congrArg Value.long (Int64.ofInt_add ..); rw [List.map_cons, e] at w; exact w)) k
theorem zV_lsub {a b : Int} (hd : decode y.2.1 pc = .ok (.lsub, 1)) (k : zV y n kc ks Z (pc + 1) ls (zL (a - b) :: st) M Q) : zV y n kc ks Z pc ls (zL b :: zL a :: st) M Q :=
  zV_mv (fun h _ => zl_1 (by exact trivial) (zl_t (zl_t h))) (fun p l e R s m args below meth c H locs cells slots A D ad la Qf E Wd S hl w => lv_lsub E.1 E.2.1 hd (by have e : zcv ad (zL (a - b)) = .long (Int64.ofInt a - Int64.ofInt b) := congrArg Value.long (Int64.ofInt_sub ..); rw [List.map_cons, e] at w; exact w)) k
theorem zV_lmul {a b : Int} (hd : decode y.2.1 pc = .ok (.lmul, 1)) (k : zV y n kc ks Z (pc + 1) ls (zL (a * b) :: st) M Q) : zV y n kc ks Z pc ls (zL b :: zL a :: st) M Q :=
  zV_mv (fun h _ => zl_1 (by exact trivial) (zl_t (zl_t h))) (fun p l e R s m args below meth c H locs cells slots A D ad la Qf E Wd S hl w => lv_lmul E.1 E.2.1 hd (by have e : zcv ad (zL (a * b)) = .long (Int64.ofInt a * Int64.ofInt b) := congrArg Value.long (Int64.ofInt_mul ..); rw [List.map_cons, e] at w; exact w)) k
theorem zV_land {a b : Int} (hd : decode y.2.1 pc = .ok (.land, 1)) (k : zV y n kc ks Z (pc + 1) ls (zL (zland a b) :: st) M Q) : zV y n kc ks Z pc ls (zL b :: zL a :: st) M Q :=
  zV_mv (fun h _ => zl_1 (by exact trivial) (zl_t (zl_t h))) (fun p l e R s m args below meth c H locs cells slots A D ad la Qf E Wd S hl w => lv_land E.1 E.2.1 hd (by have e : zcv ad (zL (zland a b)) = .long (Int64.ofInt a &&& Int64.ofInt b) := congrArg Value.long (Int64.ofInt_toInt _); rw [List.map_cons, e] at w; exact w)) k
theorem zV_lor {a b : Int} (hd : decode y.2.1 pc = .ok (.lor, 1)) (k : zV y n kc ks Z (pc + 1) ls (zL (zlor a b) :: st) M Q) : zV y n kc ks Z pc ls (zL b :: zL a :: st) M Q :=
  zV_mv (fun h _ => zl_1 (by exact trivial) (zl_t (zl_t h))) (fun p l e R s m args below meth c H locs cells slots A D ad la Qf E Wd S hl w => lv_lor E.1 E.2.1 hd (by have e : zcv ad (zL (zlor a b)) = .long (Int64.ofInt a ||| Int64.ofInt b) := congrArg Value.long (Int64.ofInt_toInt _); rw [List.map_cons, e] at w; exact w)) k
theorem zV_ldiv {a b : Int} (hd : decode y.2.1 pc = .ok (.ldiv, 1)) (hb : z64 b) (h0 : ¬ b = 0) (k : zV y n kc ks Z (pc + 1) ls (zL (zldiv a b) :: st) M Q) : zV y n kc ks Z pc ls (zL b :: zL a :: st) M Q :=
  zV_mv (fun h _ => zl_1 (by exact trivial) (zl_t (zl_t h))) (fun p l e R s m args below meth c H locs cells slots A D ad la Qf E Wd S hl w => lv_ldiv E.1 E.2.1 hd (fun q => h0 ((z64_eq hb z64_0).mp q)) (by have e : zcv ad (zL (zldiv a b)) = .long (Int64.ofInt a / Int64.ofInt b) := congrArg Value.long (Int64.ofInt_toInt _); rw [List.map_cons, e] at w; exact w)) k
theorem zV_lrem {a b : Int} (hd : decode y.2.1 pc = .ok (.lrem, 1)) (hb : z64 b) (h0 : ¬ b = 0) (k : zV y n kc ks Z (pc + 1) ls (zL (zlrem a b) :: st) M Q) : zV y n kc ks Z pc ls (zL b :: zL a :: st) M Q :=
  zV_mv (fun h _ => zl_1 (by exact trivial) (zl_t (zl_t h))) (fun p l e R s m args below meth c H locs cells slots A D ad la Qf E Wd S hl w => lv_lrem E.1 E.2.1 hd (fun q => h0 ((z64_eq hb z64_0).mp q)) (by have e : zcv ad (zL (zlrem a b)) = .long (Int64.ofInt a - Int64.ofInt a / Int64.ofInt b * Int64.ofInt b) := congrArg Value.long (Int64.ofInt_toInt _); rw [List.map_cons, e] at w; exact w)) k
theorem zV_lshl {a b : Int} (hd : decode y.2.1 pc = .ok (.lshl, 1)) (k : zV y n kc ks Z (pc + 1) ls (zL (zlshl a b) :: st) M Q) : zV y n kc ks Z pc ls (zI b :: zL a :: st) M Q :=
  zV_mv (fun h _ => zl_1 (by exact trivial) (zl_t (zl_t h))) (fun p l e R s m args below meth c H locs cells slots A D ad la Qf E Wd S hl w => lv_lshl E.1 E.2.1 hd (Int64.ofInt_toInt _).symm w) k
theorem zV_lushr {a b : Int} (hd : decode y.2.1 pc = .ok (.lushr, 1)) (k : zV y n kc ks Z (pc + 1) ls (zL (zlushr a b) :: st) M Q) : zV y n kc ks Z pc ls (zI b :: zL a :: st) M Q :=
  zV_mv (fun h _ => zl_1 (by exact trivial) (zl_t (zl_t h))) (fun p l e R s m args below meth c H locs cells slots A D ad la Qf E Wd S hl w => lv_lushr E.1 E.2.1 hd (Int64.ofInt_toInt _).symm w) k
theorem zV_i2l {a : Int} (hd : decode y.2.1 pc = .ok (.i2l, 1)) (ha : z32 a) (k : zV y n kc ks Z (pc + 1) ls (zL a :: st) M Q) : zV y n kc ks Z pc ls (zI a :: st) M Q :=
  zV_mv (fun h _ => zl_1 (by exact trivial) (zl_t h)) (fun p l e R s m args below meth c H locs cells slots A D ad la Qf E Wd S hl w => lv_i2l E.1 E.2.1 hd (by rw [← Int64.toInt_inj, Int32.toInt_toInt64, show (Int32.ofInt a).toInt = a from zw_id ha, show (Int64.ofInt a).toInt = a from zwl_id ⟨by have := ha.1; omega, by have := ha.2; omega⟩]) w) k
theorem zV_l2i {a : Int} (hd : decode y.2.1 pc = .ok (.l2i, 1)) (k : zV y n kc ks Z (pc + 1) ls (zI a :: st) M Q) : zV y n kc ks Z pc ls (zL a :: st) M Q :=
  zV_mv (fun h _ => zl_1 (by exact trivial) (zl_t h)) (fun p l e R s m args below meth c H locs cells slots A D ad la Qf E Wd S hl w => lv_l2i E.1 E.2.1 hd Int64.toInt32_ofInt w) k
theorem zV_i2c {a : Int} (hd : decode y.2.1 pc = .ok (.i2c, 1)) (k : zV y n kc ks Z (pc + 1) ls (zI (zchr a) :: st) M Q) : zV y n kc ks Z pc ls (zI a :: st) M Q :=
  zV_mv (fun h _ => zl_1 (by exact trivial) (zl_t h)) (fun p l e R s m args below meth c H locs cells slots A D ad la Qf E Wd S hl w => lv_i2c E.1 E.2.1 hd (Int32.ofInt_toInt _).symm w) k
theorem zV_dup {v : zAV} (hd : decode y.2.1 pc = .ok (.dup, 1)) (hv : zcat v = 1) (k : zV y n kc ks Z (pc + 1) ls (v :: v :: st) M Q) : zV y n kc ks Z pc ls (v :: st) M Q :=
  zV_mv (fun h _ => zl_1 (h v List.mem_cons_self) h) (fun p l e R s m args below meth c H locs cells slots A D ad la Qf E Wd S hl w => lv_dup E.1 E.2.1 hd ((zcat_cv ad v).trans hv) w) k
theorem zV_pop {v : zAV} (hd : decode y.2.1 pc = .ok (.pop, 1)) (hv : zcat v = 1) (k : zV y n kc ks Z (pc + 1) ls st M Q) : zV y n kc ks Z pc ls (v :: st) M Q :=
  zV_mv (fun h _ => zl_t h) (fun p l e R s m args below meth c H locs cells slots A D ad la Qf E Wd S hl w => lv_pop E.1 E.2.1 hd ((zcat_cv ad v).trans hv) w) k
theorem zV_dup_x1 {v u : zAV} (hd : decode y.2.1 pc = .ok (.dup_x1, 1)) (hv : zcat v = 1) (hu : zcat u = 1) (k : zV y n kc ks Z (pc + 1) ls (v :: u :: v :: st) M Q) : zV y n kc ks Z pc ls (v :: u :: st) M Q :=
  zV_mv (fun h _ => zl_1 (h v List.mem_cons_self) (zl_1 (h u (List.mem_cons_of_mem _ List.mem_cons_self)) (zl_1 (h v List.mem_cons_self) (zl_t (zl_t h))))) (fun p l e R s m args below meth c H locs cells slots A D ad la Qf E Wd S hl w => lv_dup_x1 E.1 E.2.1 hd ((zcat_cv ad v).trans hv) ((zcat_cv ad u).trans hu) w) k
theorem zV_dup2 {v u : zAV} (hd : decode y.2.1 pc = .ok (.dup2, 1)) (hv : zcat v = 1) (hu : zcat u = 1) (k : zV y n kc ks Z (pc + 1) ls (v :: u :: v :: u :: st) M Q) : zV y n kc ks Z pc ls (v :: u :: st) M Q :=
  zV_mv (fun h _ => zl_1 (h v List.mem_cons_self) (zl_1 (h u (List.mem_cons_of_mem _ List.mem_cons_self)) h)) (fun p l e R s m args below meth c H locs cells slots A D ad la Qf E Wd S hl w => lv_dup2_11 E.1 E.2.1 hd ((zcat_cv ad v).trans hv) ((zcat_cv ad u).trans hu) w) k
/-- a branch: what the machine asks, and what it means -/
theorem zV_br {pt pf : Nat} {st' : List zAV} {C : Prop} (hlv : (∀ v ∈ st, zlive Z v) → ∀ v ∈ st', zlive Z v)
    (h : ∀ (p : Program) (l : Launch) (e : Env) (R : Room) (s : State) (m : MethodId) (args : Array Value) (below : List Frame) (meth : Method) (c : Code) (H : Heap) (locs : List Loc) (cells slots : Nat) (ad : Nat → Nat) (la : Array Slot) (Qf : State → Prop), p.tables.exec = Jvm.exec → c.code = y.2.1 →
      (C → W p l e R s m args below meth c H locs cells slots Qf (F0 m pt la (st'.map (zcv ad)))) → (¬ C → W p l e R s m args below meth c H locs cells slots Qf (F0 m pf la (st'.map (zcv ad)))) → W p l e R s m args below meth c H locs cells slots Qf (F0 m pc la (st.map (zcv ad))))
    (kt : C → zV y n kc ks Z pt ls st' M Q) (kf : ¬ C → zV y n kc ks Z pf ls st' M Q) : zV y n kc ks Z pc ls st M Q :=
  fun p l e R s m args below meth c H locs cells slots A D ad la Qf E Wd S hl h1 h2 hr => h p l e R s m args below meth c H locs cells slots ad la Qf E.1 E.2.1 (fun hc => kt hc p l e R s m args below meth c H locs cells slots A D ad la Qf E Wd S hl h1 (hlv h2) hr) (fun hc => kf hc p l e R s m args below meth c H locs cells slots A D ad la Qf E Wd S hl h1 (hlv h2) hr)
theorem zV_icmp_eq {a b : Int} {off : Int} (tgt : Nat) (hd : decode y.2.1 pc = .ok (.if_icmp .eq off, 3)) (ht : (pc : Int) + off = (tgt : Int)) (ha : z32 a) (hb : z32 b) (kt : a = b → zV y n kc ks Z tgt ls st M Q) (kf : ¬ a = b → zV y n kc ks Z (pc + 3) ls st M Q) : zV y n kc ks Z pc ls (zI b :: zI a :: st) M Q :=
  zV_br (fun h => zl_t (zl_t h)) (fun p l e R s m args below meth c H locs cells slots ad la Qf e1 e2 wt wf => lv_icmp_eq e1 e2 hd ht (fun q => wt ((z32_eq ha hb).mp q)) (fun q => wf (fun z => q ((z32_eq ha hb).mpr z)))) kt kf
theorem zV_icmp_ne {a b : Int} {off : Int} (tgt : Nat) (hd : decode y.2.1 pc = .ok (.if_icmp .ne off, 3)) (ht : (pc : Int) + off = (tgt : Int)) (ha : z32 a) (hb : z32 b) (kt : ¬ a = b → zV y n kc ks Z tgt ls st M Q) (kf : a = b → zV y n kc ks Z (pc + 3) ls st M Q) : zV y n kc ks Z pc ls (zI b :: zI a :: st) M Q :=
  zV_br (C := a = b) (fun h => zl_t (zl_t h)) (fun p l e R s m args below meth c H locs cells slots ad la Qf e1 e2 wt wf => lv_icmp_ne e1 e2 hd ht (fun q => wf (fun z => q ((z32_eq ha hb).mpr z))) (fun q => wt ((z32_eq ha hb).mp q))) kf kt
theorem zV_icmp_lt {a b : Int} {off : Int} (tgt : Nat) (hd : decode y.2.1 pc = .ok (.if_icmp .lt off, 3)) (ht : (pc : Int) + off = (tgt : Int)) (ha : z32 a) (hb : z32 b) (kt : a < b → zV y n kc ks Z tgt ls st M Q) (kf : ¬ a < b → zV y n kc ks Z (pc + 3) ls st M Q) : zV y n kc ks Z pc ls (zI b :: zI a :: st) M Q :=
  zV_br (fun h => zl_t (zl_t h)) (fun p l e R s m args below meth c H locs cells slots ad la Qf e1 e2 wt wf => lv_icmp_lt e1 e2 hd ht (fun q => wt ((z32_lt ha hb).mp q)) (fun q => wf (fun z => q ((z32_lt ha hb).mpr z)))) kt kf
theorem zV_icmp_ge {a b : Int} {off : Int} (tgt : Nat) (hd : decode y.2.1 pc = .ok (.if_icmp .ge off, 3)) (ht : (pc : Int) + off = (tgt : Int)) (ha : z32 a) (hb : z32 b) (kt : b ≤ a → zV y n kc ks Z tgt ls st M Q) (kf : ¬ b ≤ a → zV y n kc ks Z (pc + 3) ls st M Q) : zV y n kc ks Z pc ls (zI b :: zI a :: st) M Q :=
  zV_br (fun h => zl_t (zl_t h)) (fun p l e R s m args below meth c H locs cells slots ad la Qf e1 e2 wt wf => lv_icmp_ge e1 e2 hd ht (fun q => wt ((z32_le hb ha).mp q)) (fun q => wf (fun z => q ((z32_le hb ha).mpr z)))) kt kf
theorem zV_icmp_gt {a b : Int} {off : Int} (tgt : Nat) (hd : decode y.2.1 pc = .ok (.if_icmp .gt off, 3)) (ht : (pc : Int) + off = (tgt : Int)) (ha : z32 a) (hb : z32 b) (kt : b < a → zV y n kc ks Z tgt ls st M Q) (kf : ¬ b < a → zV y n kc ks Z (pc + 3) ls st M Q) : zV y n kc ks Z pc ls (zI b :: zI a :: st) M Q :=
  zV_br (fun h => zl_t (zl_t h)) (fun p l e R s m args below meth c H locs cells slots ad la Qf e1 e2 wt wf => lv_icmp_gt e1 e2 hd ht (fun q => wt ((z32_lt hb ha).mp q)) (fun q => wf (fun z => q ((z32_lt hb ha).mpr z)))) kt kf
theorem zV_icmp_le {a b : Int} {off : Int} (tgt : Nat) (hd : decode y.2.1 pc = .ok (.if_icmp .le off, 3)) (ht : (pc : Int) + off = (tgt : Int)) (ha : z32 a) (hb : z32 b) (kt : a ≤ b → zV y n kc ks Z tgt ls st M Q) (kf : ¬ a ≤ b → zV y n kc ks Z (pc + 3) ls st M Q) : zV y n kc ks Z pc ls (zI b :: zI a :: st) M Q :=
  zV_br (fun h => zl_t (zl_t h)) (fun p l e R s m args below meth c H locs cells slots ad la Qf e1 e2 wt wf => lv_icmp_le e1 e2 hd ht (fun q => wt ((z32_le ha hb).mp q)) (fun q => wf (fun z => q ((z32_le ha hb).mpr z)))) kt kf
theorem zV_if_eq {a : Int} {off : Int} (tgt : Nat) (hd : decode y.2.1 pc = .ok (.ifCond .eq off, 3)) (ht : (pc : Int) + off = (tgt : Int)) (ha : z32 a) (kt : a = 0 → zV y n kc ks Z tgt ls st M Q) (kf : ¬ a = 0 → zV y n kc ks Z (pc + 3) ls st M Q) : zV y n kc ks Z pc ls (zI a :: st) M Q :=
  zV_br (fun h => zl_t h) (fun p l e R s m args below meth c H locs cells slots ad la Qf e1 e2 wt wf => lv_if_eq e1 e2 hd ht (fun q => wt ((z32_eq ha z32_0).mp q)) (fun q => wf (fun z => q ((z32_eq ha z32_0).mpr z)))) kt kf
theorem zV_if_ne {a : Int} {off : Int} (tgt : Nat) (hd : decode y.2.1 pc = .ok (.ifCond .ne off, 3)) (ht : (pc : Int) + off = (tgt : Int)) (ha : z32 a) (kt : ¬ a = 0 → zV y n kc ks Z tgt ls st M Q) (kf : a = 0 → zV y n kc ks Z (pc + 3) ls st M Q) : zV y n kc ks Z pc ls (zI a :: st) M Q :=
  zV_br (C := a = 0) (fun h => zl_t h) (fun p l e R s m args below meth c H locs cells slots ad la Qf e1 e2 wt wf => lv_if_ne e1 e2 hd ht (fun q => wf (fun z => q ((z32_eq ha z32_0).mpr z))) (fun q => wt ((z32_eq ha z32_0).mp q))) kf kt
theorem zV_if_lt {a : Int} {off : Int} (tgt : Nat) (hd : decode y.2.1 pc = .ok (.ifCond .lt off, 3)) (ht : (pc : Int) + off = (tgt : Int)) (ha : z32 a) (kt : a < 0 → zV y n kc ks Z tgt ls st M Q) (kf : ¬ a < 0 → zV y n kc ks Z (pc + 3) ls st M Q) : zV y n kc ks Z pc ls (zI a :: st) M Q :=
  zV_br (fun h => zl_t h) (fun p l e R s m args below meth c H locs cells slots ad la Qf e1 e2 wt wf => lv_if_lt e1 e2 hd ht (fun q => wt ((z32_lt ha z32_0).mp q)) (fun q => wf (fun z => q ((z32_lt ha z32_0).mpr z)))) kt kf
theorem zV_if_ge {a : Int} {off : Int} (tgt : Nat) (hd : decode y.2.1 pc = .ok (.ifCond .ge off, 3)) (ht : (pc : Int) + off = (tgt : Int)) (ha : z32 a) (kt : 0 ≤ a → zV y n kc ks Z tgt ls st M Q) (kf : ¬ 0 ≤ a → zV y n kc ks Z (pc + 3) ls st M Q) : zV y n kc ks Z pc ls (zI a :: st) M Q :=
  zV_br (fun h => zl_t h) (fun p l e R s m args below meth c H locs cells slots ad la Qf e1 e2 wt wf => lv_if_ge e1 e2 hd ht (fun q => wt ((z32_le z32_0 ha).mp q)) (fun q => wf (fun z => q ((z32_le z32_0 ha).mpr z)))) kt kf
theorem zV_if_gt {a : Int} {off : Int} (tgt : Nat) (hd : decode y.2.1 pc = .ok (.ifCond .gt off, 3)) (ht : (pc : Int) + off = (tgt : Int)) (ha : z32 a) (kt : 0 < a → zV y n kc ks Z tgt ls st M Q) (kf : ¬ 0 < a → zV y n kc ks Z (pc + 3) ls st M Q) : zV y n kc ks Z pc ls (zI a :: st) M Q :=
  zV_br (fun h => zl_t h) (fun p l e R s m args below meth c H locs cells slots ad la Qf e1 e2 wt wf => lv_if_gt e1 e2 hd ht (fun q => wt ((z32_lt z32_0 ha).mp q)) (fun q => wf (fun z => q ((z32_lt z32_0 ha).mpr z)))) kt kf
theorem zV_if_le {a : Int} {off : Int} (tgt : Nat) (hd : decode y.2.1 pc = .ok (.ifCond .le off, 3)) (ht : (pc : Int) + off = (tgt : Int)) (ha : z32 a) (kt : a ≤ 0 → zV y n kc ks Z tgt ls st M Q) (kf : ¬ a ≤ 0 → zV y n kc ks Z (pc + 3) ls st M Q) : zV y n kc ks Z pc ls (zI a :: st) M Q :=
  zV_br (fun h => zl_t h) (fun p l e R s m args below meth c H locs cells slots ad la Qf e1 e2 wt wf => lv_if_le e1 e2 hd ht (fun q => wt ((z32_le ha z32_0).mp q)) (fun q => wf (fun z => q ((z32_le ha z32_0).mpr z)))) kt kf
theorem zV_goto {off : Int} (tgt : Nat) (hd : decode y.2.1 pc = .ok (.goto off, 3)) (ht : (pc : Int) + off = (tgt : Int)) (k : zV y n kc ks Z tgt ls st M Q) : zV y n kc ks Z pc ls st M Q :=
  zV_mv (fun h _ => h) (fun p l e R s m args below meth c H locs cells slots A D ad la Qf E Wd S hl w => lv_goto E.1 E.2.1 hd ht w) k
/-- a local is set: what it was goes, and a long that it cuts -/
def zst (i : Nat) (v : zAV) (ls : List (Nat × zAV)) : List (Nat × zAV) := (i, v) :: ls.filter (fun q => !(q.1 == i) && (!(zcat v == 2 && q.1 == i + 1) && !(q.1 + 1 == i && zcat q.2 == 2)))
theorem zst_live {i : Nat} {v : zAV} (hv : zlive Z v) (h : ∀ q ∈ ls, zlive Z q.2) : ∀ q ∈ zst i v ls, zlive Z q.2 := fun q hq => (List.mem_cons.mp hq).elim (fun e => e ▸ hv) (fun hq => h q (List.mem_filter.mp hq).1)
theorem zst_map (ad : Nat → Nat) (i : Nat) (v : zAV) (ls : List (Nat × zAV)) : (zst i v ls).map (fun q => (q.1, zcv ad q.2)) = (i, zcv ad v) :: (ls.map fun q => (q.1, zcv ad q.2)).filter (fun q => !(q.1 == i) && (!(zcat v == 2 && q.1 == i + 1) && !(q.1 + 1 == i && q.2.category == 2))) := by
  unfold zst
  rw [List.map_cons, List.filter_map]
  congr 2
  apply List.filter_congr
  intro q _
  simp only [Function.comp, zcat_cv]
theorem zst_map1 (ad : Nat → Nat) (i : Nat) (v : zAV) (ls : List (Nat × zAV)) (hv : zcat v = 1) : (i, zcv ad v) :: (ls.map fun q => (q.1, zcv ad q.2)).filter (fun q => !(q.1 == i) && !(q.1 + 1 == i && q.2.category == 2)) = (zst i v ls).map (fun q => (q.1, zcv ad q.2)) := by
  rw [zst_map, hv]
  simp
theorem zst_map2 (ad : Nat → Nat) (i : Nat) (v : zAV) (ls : List (Nat × zAV)) (hv : zcat v = 2) : (i, zcv ad v) :: (ls.map fun q => (q.1, zcv ad q.2)).filter (fun q => !(q.1 == i) && (!(q.1 == i + 1) && !(q.1 + 1 == i && q.2.category == 2))) = (zst i v ls).map (fun q => (q.1, zcv ad q.2)) := by
  rw [zst_map, hv]
  simp
theorem zV_istore_n {kf : Fin 4} {i : Nat} {x : Int} (ls' : List (Nat × zAV)) (hd : decode y.2.1 pc = .ok (.istore_n kf, 1)) (hi : (kf : Nat) = i) (hn : i < y.2.2.1) (hl' : zst i (zI x) ls = ls') (k : zV y n kc ks Z (pc + 1) ls' st M Q) : zV y n kc ks Z pc ls (zI x :: st) M Q := by
  subst hl'
  intro p l e R s m args below meth c H locs cells slots A D ad la Qf E Wd S hl h1 h2 hr
  refine lv_istore_n E.1 E.2.1 hd hi hl hn (zst_map1 ad i (zI x) ls rfl) (fun la' hl' => ?_)
  exact k p l e R s m args below meth c H locs cells slots A D ad la' Qf E Wd S hl' (zst_live (h2 _ List.mem_cons_self) h1) (zl_t h2) hr
theorem zV_istore {i : Nat} {x : Int} (ls' : List (Nat × zAV)) (hd : decode y.2.1 pc = .ok (.istore i, 2)) (hn : i < y.2.2.1) (hl' : zst i (zI x) ls = ls') (k : zV y n kc ks Z (pc + 2) ls' st M Q) : zV y n kc ks Z pc ls (zI x :: st) M Q := by
  subst hl'
  intro p l e R s m args below meth c H locs cells slots A D ad la Qf E Wd S hl h1 h2 hr
  refine lv_istore E.1 E.2.1 hd hl hn (zst_map1 ad i (zI x) ls rfl) (fun la' hl' => ?_)
  exact k p l e R s m args below meth c H locs cells slots A D ad la' Qf E Wd S hl' (zst_live (h2 _ List.mem_cons_self) h1) (zl_t h2) hr
theorem zV_lstore_n {kf : Fin 4} {i : Nat} {x : Int} (ls' : List (Nat × zAV)) (hd : decode y.2.1 pc = .ok (.lstore_n kf, 1)) (hi : (kf : Nat) = i) (hn : i + 1 < y.2.2.1) (hl' : zst i (zL x) ls = ls') (k : zV y n kc ks Z (pc + 1) ls' st M Q) : zV y n kc ks Z pc ls (zL x :: st) M Q := by
  subst hl'
  intro p l e R s m args below meth c H locs cells slots A D ad la Qf E Wd S hl h1 h2 hr
  refine lv_lstore_n E.1 E.2.1 hd hi hl hn (zst_map2 ad i (zL x) ls rfl) (fun la' hl' => ?_)
  exact k p l e R s m args below meth c H locs cells slots A D ad la' Qf E Wd S hl' (zst_live (h2 _ List.mem_cons_self) h1) (zl_t h2) hr
theorem zV_lstore {i : Nat} {x : Int} (ls' : List (Nat × zAV)) (hd : decode y.2.1 pc = .ok (.lstore i, 2)) (hn : i + 1 < y.2.2.1) (hl' : zst i (zL x) ls = ls') (k : zV y n kc ks Z (pc + 2) ls' st M Q) : zV y n kc ks Z pc ls (zL x :: st) M Q := by
  subst hl'
  intro p l e R s m args below meth c H locs cells slots A D ad la Qf E Wd S hl h1 h2 hr
  refine lv_lstore E.1 E.2.1 hd hl hn (zst_map2 ad i (zL x) ls rfl) (fun la' hl' => ?_)
  exact k p l e R s m args below meth c H locs cells slots A D ad la' Qf E Wd S hl' (zst_live (h2 _ List.mem_cons_self) h1) (zl_t h2) hr
theorem zV_astore_n {kf : Fin 4} {i : Nat} {x : Nat} (ls' : List (Nat × zAV)) (hd : decode y.2.1 pc = .ok (.astore_n kf, 1)) (hi : (kf : Nat) = i) (hn : i < y.2.2.1) (hl' : zst i (zR x) ls = ls') (k : zV y n kc ks Z (pc + 1) ls' st M Q) : zV y n kc ks Z pc ls (zR x :: st) M Q := by
  subst hl'
  intro p l e R s m args below meth c H locs cells slots A D ad la Qf E Wd S hl h1 h2 hr
  refine lv_astore_n E.1 E.2.1 hd hi hl hn (zst_map1 ad i (zR x) ls rfl) (fun la' hl' => ?_)
  exact k p l e R s m args below meth c H locs cells slots A D ad la' Qf E Wd S hl' (zst_live (h2 _ List.mem_cons_self) h1) (zl_t h2) hr
theorem zV_astore {i : Nat} {x : Nat} (ls' : List (Nat × zAV)) (hd : decode y.2.1 pc = .ok (.astore i, 2)) (hn : i < y.2.2.1) (hl' : zst i (zR x) ls = ls') (k : zV y n kc ks Z (pc + 2) ls' st M Q) : zV y n kc ks Z pc ls (zR x :: st) M Q := by
  subst hl'
  intro p l e R s m args below meth c H locs cells slots A D ad la Qf E Wd S hl h1 h2 hr
  refine lv_astore E.1 E.2.1 hd hl hn (zst_map1 ad i (zR x) ls rfl) (fun la' hl' => ?_)
  exact k p l e R s m args below meth c H locs cells slots A D ad la' Qf E Wd S hl' (zst_live (h2 _ List.mem_cons_self) h1) (zl_t h2) hr
theorem zV_iinc {i : Nat} (j : Nat) {m0 x v : Int} (ls' : List (Nat × zAV)) (hd : decode y.2.1 pc = .ok (.iinc i m0, 3)) (hj : ls[j]? = some (i, zI x)) (hv : zw (x + m0) = v) (hn : i < y.2.2.1) (hl' : zst i (zI v) ls = ls') (k : zV y n kc ks Z (pc + 3) ls' st M Q) : zV y n kc ks Z pc ls st M Q := by
  subst hl'; subst hv
  intro p l e R s m args below meth c H locs cells slots A D ad la Qf E Wd S hl h1 h2 hr
  refine lv_iinc (k := j) E.1 E.2.1 hd hl (by rw [List.getElem?_map, hj]; rfl) (by rw [zw_of]; exact (Int32.ofInt_add ..).symm) hn (zst_map1 ad i (zI (zw (x + m0))) ls rfl) (fun la' hl' => ?_)
  exact k p l e R s m args below meth c H locs cells slots A D ad la' Qf E Wd S hl' (zst_live trivial h1) h2 hr
/-- the same number, made small -/
theorem zV_w {x : Int} (k : zV y n kc ks Z pc ls (zI (zw x) :: st) M Q) : zV y n kc ks Z pc ls (zI x :: st) M Q :=
  zV_mv (fun h _ => zl_1 (by exact trivial) (zl_t h)) (fun p l e R s m args below meth c H locs cells slots A D ad la Qf E Wd S hl w => by have e : zcv ad (zI (zw x)) = zcv ad (zI x) := congrArg Value.int (zw_of x); rw [List.map_cons, e] at w; exact w) k
theorem zV_w2 {x : Int} {v : zAV} (k : zV y n kc ks Z pc ls (v :: zI (zw x) :: st) M Q) : zV y n kc ks Z pc ls (v :: zI x :: st) M Q :=
  zV_mv (fun h _ => zl_1 (h v List.mem_cons_self) (zl_1 (by exact trivial) (zl_t (zl_t h)))) (fun p l e R s m args below meth c H locs cells slots A D ad la Qf E Wd S hl w => by have e : zcv ad (zI (zw x)) = zcv ad (zI x) := congrArg Value.int (zw_of x); rw [List.map_cons, List.map_cons, e] at w; exact w) k
theorem zV_wl {x : Int} (k : zV y n kc ks Z pc ls (zL (zwl x) :: st) M Q) : zV y n kc ks Z pc ls (zL x :: st) M Q :=
  zV_mv (fun h _ => zl_1 (by exact trivial) (zl_t h)) (fun p l e R s m args below meth c H locs cells slots A D ad la Qf E Wd S hl w => by have e : zcv ad (zL (zwl x)) = zcv ad (zL x) := congrArg Value.long (zwl_of x); rw [List.map_cons, e] at w; exact w) k
theorem zV_wl2 {x : Int} {v : zAV} (k : zV y n kc ks Z pc ls (v :: zL (zwl x) :: st) M Q) : zV y n kc ks Z pc ls (v :: zL x :: st) M Q :=
  zV_mv (fun h _ => zl_1 (h v List.mem_cons_self) (zl_1 (by exact trivial) (zl_t (zl_t h)))) (fun p l e R s m args below meth c H locs cells slots A D ad la Qf E Wd S hl w => by have e : zcv ad (zL (zwl x)) = zcv ad (zL x) := congrArg Value.long (zwl_of x); rw [List.map_cons, List.map_cons, e] at w; exact w) k
/-- fewer locals, in another order -/
theorem zV_ls (ps : List Nat) {ls' : List (Nat × zAV)} (hl' : ps.filterMap (fun k => ls[k]?) = ls') (k : zV y n kc ks Z pc ls' st M Q) : zV y n kc ks Z pc ls st M Q := by
  subst hl'
  intro p l e R s m args below meth c H locs cells slots A D ad la Qf E Wd S hl h1 h2 hr
  refine k p l e R s m args below meth c H locs cells slots A D ad la Qf E Wd S ⟨hl.1, hl.2.1, fun q hq => ?_⟩ (fun q hq => ?_) h2 hr
  · obtain ⟨q0, h3, rfl⟩ := List.mem_map.mp hq
    obtain ⟨i, -, hi⟩ := List.mem_filterMap.mp h3
    exact hl.2.2 _ (List.mem_map.mpr ⟨q0, List.mem_of_getElem? hi, rfl⟩)
  · obtain ⟨i, -, hi⟩ := List.mem_filterMap.mp hq
    exact h1 q (List.mem_of_getElem? hi)
/-- lcmp and a branch on it -/
theorem zV_lcmp {a b : Int} (hd : decode y.2.1 pc = .ok (.lcmp, 1)) (ha : z64 a) (hb : z64 b) (k : zV y n kc ks Z (pc + 1) ls (zI (if a < b then -1 else if a = b then 0 else 1) :: st) M Q) : zV y n kc ks Z pc ls (zL b :: zL a :: st) M Q := by
  refine zV_mv (fun h _ => zl_1 (by exact trivial) (zl_t (zl_t h))) (fun p l e R s m args below meth c H locs cells slots A D ad la Qf E Wd S hl w => W.lcmp E.1 E.2.1 hd ?_) k
  have e : zcv ad (zI (if a < b then -1 else if a = b then 0 else 1)) = .int (lg_cmp (Int64.ofInt a) (Int64.ofInt b)) := by
    unfold lg_cmp
    by_cases h1 : b < a
    · rw [if_pos ((z64_lt hb ha).mpr h1), if_neg (by omega), if_neg (by omega)]; rfl
    · by_cases h2 : a = b
      · rw [if_neg (fun q => h1 ((z64_lt hb ha).mp q)), if_pos ((z64_eq ha hb).mpr h2), if_neg (by omega), if_pos h2]; rfl
      · rw [if_neg (fun q => h1 ((z64_lt hb ha).mp q)), if_neg (fun q => h2 ((z64_eq ha hb).mp q)), if_pos (by omega)]; rfl
  rw [List.map_cons, e] at w
  exact w
end ZS
