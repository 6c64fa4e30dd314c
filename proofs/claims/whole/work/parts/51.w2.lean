/-! PURE PART, 2: what the state is; class and model hold the same -/
/-- cells that are state whole -/
def zfull (c : Nat) : Bool := c < 20 || c == 21 || (40 ≤ c && c < 60) || (80 ≤ c && c < 90) || c == 203 || (245 ≤ c && c < 250) || c == 262 || c == 263 || 400 ≤ c
/-- places of other cells that are state -/
def zprt (c : Nat) (k : Int) : Bool :=
  (c == 20 && k == 1) || (c == 200 && (k == 1 || k == 43)) || (211 ≤ c && c < 214 && !(k == 1)) ||
  (215 ≤ c && c < 220 && !(decide (12 ≤ k) && decide (k < 24))) || (220 ≤ c && c < 225 && !(decide (8 ≤ k) && decide (k < 16))) ||
  (c == 225 && !(decide (11 ≤ k) && decide (k < 22))) || (227 ≤ c && c < 229 && !(decide (4 ≤ k) && decide (k < 8))) || (c == 229 && !(decide (1000 ≤ k) && decide (k < 2000)))
def zSc (c : Nat) (k : Int) : Bool := zfull c || zprt c k
/-- M holds the state of σ; but for the fingers of the model -/
def zAx (σ M : zMem) : Prop := ∀ (c : Nat) (k : Int), c ≠ 249 → zSc c k = true → M c k = σ c k
def zAg (σ M : zMem) : Prop := ∀ (c : Nat) (k : Int), zSc c k = true → M c k = σ c k
theorem zAg.x {σ M : zMem} (h : zAg σ M) : zAx σ M := fun c k _ hs => h c k hs
theorem zAx.g {σ M : zMem} (h : zAx σ M) (hf : M 249 = σ 249) : zAg σ M := fun c k hs => by
  by_cases hc : c = 249
  · subst hc; rw [hf]
  · exact h c k hc hs
theorem zAg.refl (σ : zMem) : zAg σ σ := fun _ _ _ => rfl
theorem zAg.trans {σ M N : zMem} (h : zAg σ M) (g : zAg M N) : zAg σ N := fun c k hs => (g c k hs).trans (h c k hs)
theorem zAg.up {σ M : zMem} (h : zAg σ M) {c : Nat} {k v : Int} (hs : zSc c k = false) : zAg σ (zup M c k v) := fun a b hab => by
  unfold zup
  split
  · rename_i e; rw [e.1, e.2, hs] at hab; cases hab
  · exact h a b hab
theorem zAx.up {σ M : zMem} (h : zAx σ M) {c : Nat} {k v : Int} (hs : zSc c k = false ∨ c = 249) : zAx σ (zup M c k v) := fun a b ha hab => by
  unfold zup
  split
  · rename_i e
    rcases hs with hs | hs
    · rw [e.1, e.2, hs] at hab; cases hab
    · exact absurd (e.1.trans hs) ha
  · exact h a b ha hab
theorem zAg.to {σ M N : zMem} (h : zAg σ M) (hN : ∀ (c : Nat) (k : Int), zSc c k = true → N c k = M c k) : zAg σ N := fun c k hs => (hN c k hs).trans (h c k hs)
theorem zAx.fl {σ M : zMem} (h : zAx σ M) (c : Nat) (hc : zfull c = true) (hn : c ≠ 249) : M c = σ c := funext fun k => h c k hn (by unfold zSc; rw [hc]; rfl)
theorem zAg.fl {σ M : zMem} (h : zAg σ M) (c : Nat) (hc : zfull c = true) : M c = σ c := funext fun k => h c k (by unfold zSc; rw [hc]; rfl)
/-- operands first: what the class makes of a law -/
def zro (F : Int → Int) (c : Int) : Int := if 0 ≤ c then c else if c = -103 then F 5 else if c = -125 then F 1 else if c = -126 then F 2 else if c = -127 then F 3 else F 4
def zrj (s l r : Int) : Int := if s = 42 then zw (l * r) else if s = 43 then zw (l + r) else if s = 45 then zw (l - r) else if s = 60 then (if r ≤ l then 0 else 1) else if s = 61 then (if l = r then 1 else 0) else if s = 112 then (if l = 0 then 0 else if r = 0 then 0 else 1) else if l = 0 then (if r = 0 then 0 else 1) else 1
def zop (c : Int) : Bool := decide (0 ≤ c) || decide (c = -103) || (decide (-128 ≤ c) && decide (c ≤ -125))
def zr1 (F : Int → Int) (c : Int) (st : List Int) : Option (List Int) :=
  if c < -1000 then none else if zop c = true then (if st.length < 32 then some (zro F c :: st) else none)
  else if c = -111 then (match st with
    | x :: r => some ((if x = 0 then 1 else 0) :: r)
    | [] => none)
  else (match st with
    | y :: x :: r => some (zrj (-c) x y :: r)
    | _ => none)
def zrp (F : Int → Int) : List Int → List Int → Option (List Int)
  | [], st => some st
  | c :: cs, st => zbd (zr1 F c st) (zrp F cs)
/-- the model's way: as it stands, with its rows 233 to 241 -/
def zmo (d : Int) (M : zMem) : zMem := zup (zup (zup (zup (zup M 234 d 0) 236 d 0) 237 d 0) 238 d 20) 240 d 0
def zms (d : Int) (M : zMem) : zMem := zup (zup M 237 d (if M 238 d = 21 then zw (M 237 d - M 239 d) else zw (M 237 d + M 239 d))) 240 d 0
def zmv (d : Int) (M : zMem) : Int :=
  let v1 := if M 236 d = 24 then (if M 237 d ≤ M 235 d then 0 else 1) else M 237 d
  let v2 := if M 236 d = 25 then (if M 235 d = M 237 d then 1 else 0) else v1
  let v3 := if M 234 d = 26 then (if M 233 d = 0 then 0 else if v2 = 0 then 0 else 1) else v2
  if M 234 d = 27 then (if M 233 d = 0 then (if v3 = 0 then 0 else 1) else 1) else v3
def zmt (d : Int) (M : zMem) : zMem := zup (zup (zup (zup (zms d M) 233 d (zmv d (zms d M))) 236 d 0) 237 d 0) 238 d 20
def zmd : Nat → Int → zMem → Nat × zMem
  | 0, v, M => (0, zup M 239 0 (if M 240 0 = 0 then v else zw (M 239 0 * v)))
  | d + 1, v, M => if M 241 (d + 1 : Nat) = 1 then zmd d (if v = 0 then 1 else 0) M else (d + 1, zup M 239 (d + 1 : Nat) (if M 240 (d + 1 : Nat) = 0 then v else zw (M 239 (d + 1 : Nat) * v)))
def zm1 (c : Int) (d : Nat) (M : zMem) : Option (Nat × zMem) :=
  if c = 28 ∨ c = 30 then (if d < 6 then some (d + 1, zmo (d + 1 : Nat) (zup M 241 (d + 1 : Nat) (if c = 30 then 1 else 0))) else none)
  else if c = 20 ∨ c = 21 then some (d, zup (zms d M) 238 d c)
  else if c = 22 then some (d, zup M 240 d c)
  else if c = 24 ∨ c = 25 then some (d, zup (zup (zup (zup (zms d M) 235 d (zms d M 237 d)) 236 d c) 237 d 0) 238 d 20)
  else if c = 26 ∨ c = 27 then some (d, zup (zmt d M) 234 d c)
  else if c = 29 then (match d with
    | 0 => none
    | e + 1 => some (zmd e (zmt (e + 1 : Nat) M 233 (e + 1 : Nat)) (zmt (e + 1 : Nat) M)))
  else if 100 ≤ c then some (zmd d (zw (c - 100)) M) else if 1 ≤ c ∧ c ≤ 5 then some (zmd d (M 242 c) M) else none
def zmr : List Int → Nat → zMem → Option (Nat × zMem)
  | [], d, M => some (d, M)
  | c :: cs, d, M => zbd (zm1 c d M) (fun s => zmr cs s.1 s.2)
/-- a stretch of a row -/
def zseg (f : Int → Int) (a : Int) : Nat → List Int
  | 0 => []
  | n + 1 => f a :: zseg f (a + 1) n
/-- two stretches are the same law; sw = 0: without speed -/
def zXs (lc lm : List Int) (sw : Int) : Prop := ∃ v : (Int → Int) → Int, (∀ F : Int → Int, zrp F lc [] = some [v F]) ∧ (∀ M : zMem, (∀ i : Int, 1 ≤ i → i ≤ 5 → z32 (M 242 i)) → ∃ M' : zMem, zmr lm 0 (zmo 0 M) = some (0, M') ∧ zmt 0 M' 233 0 = v (M 242)) ∧ (sw = 0 → ∀ F F' : Int → Int, (∀ i : Int, i ≠ 1 → F i = F' i) → v F = v F')
def zunt (k : Int) : Int := if k = 0 then 10 else if k = 1 then 2 else if k = 2 then 4 else if k = 3 then 1 else if k = 4 then 12 else if k = 5 then 2 else if k = 6 then 3 else if k = 7 then 1 else if k = 8 then 5 else if k = 9 then 0 else 1
def zlea (k : Int) : Int := if k = 3 then 0 else if k = 6 then 0 else if k = 7 then 0 else if k = 9 then 0 else 1
def zmos (k : Int) : Int := if k = 0 then 99 else if k = 1 then 3 else if k = 2 then 12 else if k = 3 then 9 else if k = 4 then 99 else if k = 5 then 20 else if k = 6 then 99 else if k = 7 then 99 else if k = 8 then 999 else if k = 9 then 999 else 99
def zBo (o : Nat) (j : Int) (σ : zMem) (k : Int) : Prop :=
  (σ 215 (12 * j + k) = σ (o + 3) k ∧ 1 ≤ σ (o + 3) k ∧ σ (o + 3) k ≤ 9999) ∧ (σ 216 (12 * j + k) = σ (o + 4) k ∧ 1 ≤ σ (o + 4) k ∧ σ (o + 4) k ≤ 99) ∧ (σ 217 (12 * j + k) = σ (o + 5) k ∧ 1 ≤ σ (o + 5) k ∧ σ (o + 5) k ≤ 20) ∧ (σ 218 (12 * j + k) = σ (o + 6) k ∧ 0 ≤ σ (o + 6) k ∧ σ (o + 6) k ≤ 3) ∧ (σ 219 (12 * j + k) = σ (o + 7) k ∧ ((σ (o + 6) k = 3 ∧ σ (o + 7) k = -1) ∨ (σ (o + 6) k ≠ 3 ∧ 0 ≤ σ (o + 7) k ∧ σ (o + 7) k < 12)))
def zPa (o : Nat) (j : Int) (σ : zMem) (k : Int) : Prop :=
  (σ 220 (8 * j + k) = σ (o + 9) k ∧ 0 ≤ σ (o + 9) k ∧ σ (o + 9) k < σ o 0) ∧ (σ 221 (8 * j + k) = σ (o + 10) k ∧ 1 ≤ σ (o + 10) k ∧ σ (o + 10) k ≤ 20) ∧ (σ 222 (8 * j + k) = σ (o + 11) k ∧ 0 ≤ σ (o + 11) k ∧ σ (o + 11) k < σ o 0 ∧ σ (o + 11) k ≠ σ (o + 9) k) ∧ (σ 223 (8 * j + k) = σ (o + 12) k ∧ 1 ≤ σ (o + 12) k ∧ σ (o + 12) k ≤ 20) ∧ (σ 224 (8 * j + k) = σ (o + 13) k ∧ 0 ≤ σ (o + 13) k ∧ σ (o + 13) k ≤ 9999)
/-- where a law begins among the class's codes -/
def zca (f : Int → Int) (k : Nat) : Int := if k = 0 then 0 else f ((k : Int) - 1)
def zSp (o : Nat) (j : Int) (σ : zMem) : Prop := (0 ≤ σ o 14 ∧ σ o 14 < 16) ∧ ∀ k : Nat, (k : Int) < σ o 13 →
  (0 ≤ zca (σ (o + 18)) k ∧ zca (σ (o + 18)) k ≤ σ (o + 18) k ∧ σ (o + 18) k ≤ 1000) ∧ (1000 * j ≤ σ 227 (4 * j + k) ∧ σ 227 (4 * j + k) ≤ σ 228 (4 * j + k) ∧ σ 228 (4 * j + k) ≤ 1000 * j + 1000) ∧
  zXs (zseg (σ (o + 16)) (zca (σ (o + 18)) k) (σ (o + 18) k - zca (σ (o + 18)) k).toNat) (zseg (σ 229) (σ 227 (4 * j + k)) (σ 228 (4 * j + k) - σ 227 (4 * j + k)).toNat) (σ o 14 / 2 ^ k % 2)
/-- the SPINDLE at o is the model's in row j -/
def zSu (o : Nat) (j : Int) (σ : zMem) : Prop :=
  ((σ 211 j = σ o 0 ∧ 0 ≤ σ o 0 ∧ σ o 0 ≤ 12) ∧ (σ 212 j = σ o 7 ∧ 0 ≤ σ o 7 ∧ σ o 7 ≤ 8) ∧ (σ 213 j = σ o 13 ∧ 0 ≤ σ o 13 ∧ σ o 13 ≤ 4)) ∧
  (∀ k : Int, 0 ≤ k → k < σ o 0 → zBo o j σ k) ∧ (∀ k : Int, 0 ≤ k → k < σ o 7 → zPa o j σ k) ∧
  (∀ k : Int, 0 ≤ k → k < 11 → σ 225 (11 * j + k) = σ (o + 19) k ∧ zlea k ≤ σ (o + 19) k ∧ σ (o + 19) k ≤ zmos k) ∧
  σ o 1 = zsum (fun b => if σ (o + 7) b < 0 then 0 else 1) (σ o 0).toNat ∧ zSp o j σ
def zNo (o : Nat) (j : Int) (so : Nat) (σ : zMem) (k : Int) : Prop :=
  (σ 245 (24 * j + k) = σ (o + 2) k ∧ 0 ≤ σ (o + 2) k ∧ σ (o + 2) k < σ so 0 ∧ σ (so + 6) (σ (o + 2) k) ≠ 3) ∧ (σ 246 (24 * j + k) = σ (o + 3) k ∧ 0 ≤ σ (o + 3) k ∧ σ (o + 3) k + σ (o + 4) k ≤ 200) ∧ (σ 247 (24 * j + k) = σ (o + 4) k ∧ 1 ≤ σ (o + 4) k ∧ σ (o + 4) k ≤ 40) ∧ (σ 248 (24 * j + k) = σ (o + 5) k ∧ 1 ≤ σ (o + 5) k ∧ σ (o + 5) k ≤ 9) ∧ (σ 249 (24 * j + k) = σ (o + 6) k ∧ -1 ≤ σ (o + 6) k ∧ σ (o + 6) k < 2 * σ (so + 19) 1)
/-- the NOTES at o are the model's in row j -/
def zPi (o : Nat) (j nn : Int) (so : Nat) (σ : zMem) : Prop :=
  (nn = σ o 0 ∧ 0 ≤ σ o 0 ∧ σ o 0 ≤ 24) ∧ (∀ k : Int, 0 ≤ k → k < σ o 0 → zNo o j so σ k) ∧ ∀ k : Int, 0 ≤ k → k + 1 < σ o 0 → σ (o + 3) k ≤ σ (o + 3) (k + 1)
def zMk (σ : zMem) : Prop := ∀ m : Nat, m < 4 → (σ 262 m = 0 ∧ σ 6 m < 0 ∧ σ 7 m < 0) ∨ (σ 262 m = 1 ∧ σ 6 m = ((400 + 20 * m : Nat) : Int) ∧ σ 7 m = ((500 + 10 * m : Nat) : Int) ∧ zSu (400 + 20 * m) (2 + m) σ ∧ zPi (500 + 10 * m) (1 + m) (σ 263 m) (400 + 20 * m) σ)
def zTa (σ : zMem) : Prop := (σ 200 1 = σ 20 1 ∧ 0 ≤ σ 20 1 ∧ σ 20 1 ≤ 1000) ∧ ∀ k : Int, 0 ≤ k → k < σ 20 1 → σ 203 k = σ 21 k ∧ (σ 21 k = 10 ∨ (32 ≤ σ 21 k ∧ σ 21 k ≤ 126))
def zSt0 (σ : zMem) : Prop := ∀ k : Int, 0 ≤ k → k < 11 → σ 1000 k = zunt k ∧ σ 1001 k = zlea k ∧ σ 1002 k = zmos k
def St (σ : zMem) : Prop := zSu 40 0 σ ∧ zPi 80 0 (σ 200 43) 40 σ ∧ zMk σ ∧ zTa σ ∧ zSt0 σ
section ACC
variable {σ M : zMem} {k : Int}
theorem r_bw (h : St σ) : 0 ≤ σ 40 0 ∧ σ 40 0 ≤ 12 := h.1.1.1.2
theorem r_pn (h : St σ) : 0 ≤ σ 40 7 ∧ σ 40 7 ≤ 8 := h.1.1.2.1.2
theorem r_sn (h : St σ) : 0 ≤ σ 40 13 ∧ σ 40 13 ≤ 4 := h.1.1.2.2.2
theorem r_nn (h : St σ) : 0 ≤ σ 80 0 ∧ σ 80 0 ≤ 24 := h.2.1.1.2
theorem r_bo (h : St σ) (h0 : 0 ≤ k) (h1 : k < σ 40 0) : zBo 40 0 σ k := h.1.2.1 k h0 h1
theorem r_pa (h : St σ) (h0 : 0 ≤ k) (h1 : k < σ 40 7) : zPa 40 0 σ k := h.1.2.2.1 k h0 h1
theorem r_no (h : St σ) (h0 : 0 ≤ k) (h1 : k < σ 80 0) : zNo 80 0 40 σ k := h.2.1.2.1 k h0 h1
theorem r_tn (h : St σ) (h0 : 0 ≤ k) (h1 : k < σ 40 0) : 1 ≤ σ 43 k ∧ σ 43 k ≤ 9999 := (r_bo h h0 h1).1.2
theorem r_sz (h : St σ) (h0 : 0 ≤ k) (h1 : k < σ 40 0) : 1 ≤ σ 44 k ∧ σ 44 k ≤ 99 := (r_bo h h0 h1).2.1.2
theorem r_wl (h : St σ) (h0 : 0 ≤ k) (h1 : k < σ 40 0) : 1 ≤ σ 45 k ∧ σ 45 k ≤ 20 := (r_bo h h0 h1).2.2.1.2
theorem r_kd (h : St σ) (h0 : 0 ≤ k) (h1 : k < σ 40 0) : 0 ≤ σ 46 k ∧ σ 46 k ≤ 3 := (r_bo h h0 h1).2.2.2.1.2
theorem r_pl (h : St σ) (h0 : 0 ≤ k) (h1 : k < σ 40 0) : (σ 46 k = 3 ∧ σ 47 k = -1) ∨ (σ 46 k ≠ 3 ∧ 0 ≤ σ 47 k ∧ σ 47 k < 12) := (r_bo h h0 h1).2.2.2.2.2
theorem r_st (h : St σ) (h0 : 0 ≤ k) (h1 : k < 11) : zlea k ≤ σ 59 k ∧ σ 59 k ≤ zmos k := (h.1.2.2.2.1 k h0 h1).2
theorem r_pA (h : St σ) (h0 : 0 ≤ k) (h1 : k < σ 40 7) : 0 ≤ σ 49 k ∧ σ 49 k < σ 40 0 := (r_pa h h0 h1).1.2
theorem r_pP (h : St σ) (h0 : 0 ≤ k) (h1 : k < σ 40 7) : 1 ≤ σ 50 k ∧ σ 50 k ≤ 20 := (r_pa h h0 h1).2.1.2
theorem r_pB (h : St σ) (h0 : 0 ≤ k) (h1 : k < σ 40 7) : 0 ≤ σ 51 k ∧ σ 51 k < σ 40 0 ∧ σ 51 k ≠ σ 49 k := (r_pa h h0 h1).2.2.1.2
theorem r_pQ (h : St σ) (h0 : 0 ≤ k) (h1 : k < σ 40 7) : 1 ≤ σ 52 k ∧ σ 52 k ≤ 20 := (r_pa h h0 h1).2.2.2.1.2
theorem r_pW (h : St σ) (h0 : 0 ≤ k) (h1 : k < σ 40 7) : 0 ≤ σ 53 k ∧ σ 53 k ≤ 9999 := (r_pa h h0 h1).2.2.2.2.2
theorem r_nb (h : St σ) (h0 : 0 ≤ k) (h1 : k < σ 80 0) : 0 ≤ σ 82 k ∧ σ 82 k < σ 40 0 ∧ σ 46 (σ 82 k) ≠ 3 := (r_no h h0 h1).1.2
theorem r_nl (h : St σ) (h0 : 0 ≤ k) (h1 : k < σ 80 0) : 0 ≤ σ 83 k ∧ 1 ≤ σ 84 k ∧ σ 84 k ≤ 40 ∧ σ 83 k + σ 84 k ≤ 200 := ⟨(r_no h h0 h1).2.1.2.1, (r_no h h0 h1).2.2.1.2.1, (r_no h h0 h1).2.2.1.2.2, (r_no h h0 h1).2.1.2.2⟩
theorem r_np (h : St σ) (h0 : 0 ≤ k) (h1 : k < σ 80 0) : 1 ≤ σ 85 k ∧ σ 85 k ≤ 9 := (r_no h h0 h1).2.2.2.1.2
theorem r_nf (h : St σ) (h0 : 0 ≤ k) (h1 : k < σ 80 0) : -1 ≤ σ 86 k ∧ σ 86 k < 2 * σ 59 1 := (r_no h h0 h1).2.2.2.2.2
theorem r_ti (h : St σ) : (1 ≤ σ 59 0 ∧ σ 59 0 ≤ 99) ∧ (1 ≤ σ 59 1 ∧ σ 59 1 ≤ 3) ∧ (1 ≤ σ 59 2 ∧ σ 59 2 ≤ 12) ∧ (0 ≤ σ 59 3 ∧ σ 59 3 ≤ 9) ∧ (1 ≤ σ 59 4 ∧ σ 59 4 ≤ 99) ∧ (1 ≤ σ 59 5 ∧ σ 59 5 ≤ 20) ∧ (0 ≤ σ 59 6 ∧ σ 59 6 ≤ 99) ∧ (0 ≤ σ 59 7 ∧ σ 59 7 ≤ 99) ∧ (1 ≤ σ 59 8 ∧ σ 59 8 ≤ 999) ∧ (0 ≤ σ 59 9 ∧ σ 59 9 ≤ 999) ∧ (1 ≤ σ 59 10 ∧ σ 59 10 ≤ 99) :=
  ⟨r_st (k := 0) h (by decide) (by decide), r_st (k := 1) h (by decide) (by decide), r_st (k := 2) h (by decide) (by decide), r_st (k := 3) h (by decide) (by decide), r_st (k := 4) h (by decide) (by decide), r_st (k := 5) h (by decide) (by decide), r_st (k := 6) h (by decide) (by decide), r_st (k := 7) h (by decide) (by decide), r_st (k := 8) h (by decide) (by decide), r_st (k := 9) h (by decide) (by decide), r_st (k := 10) h (by decide) (by decide)⟩
theorem zpr_0 {c : Nat} {n : Int} (hz : ∀ q : Int, q < n → zSc c q = true) (hA : zAx σ M) (hc : c ≠ 249) (h1 : k < n) : M c k = σ c k := hA c k hc (hz k h1)
theorem zt_bo {c : Nat} (hc : 215 ≤ c ∧ c < 220) (h1 : k < 12) : zSc c k = true := by
  unfold zSc zprt
  have a : ¬ (12 ≤ k) := by omega
  simp [hc.1, hc.2, a]
theorem zt_pa {c : Nat} (hc : 220 ≤ c ∧ c < 225) (h1 : k < 8) : zSc c k = true := by
  unfold zSc zprt
  have a : ¬ (8 ≤ k) := by omega
  simp [hc.1, hc.2, a]
theorem zt_se (h1 : k < 11) : zSc 225 k = true := by
  unfold zSc zprt
  have a : ¬ (11 ≤ k) := by omega
  simp [a]
theorem zt_li {c : Nat} (hc : 227 ≤ c ∧ c < 229) (h1 : k < 4) : zSc c k = true := by
  unfold zSc zprt
  have a : ¬ (4 ≤ k) := by omega
  simp [hc.1, hc.2, a]
theorem zt_co (h1 : k < 1000) : zSc 229 k = true := by
  unfold zSc zprt
  have a : ¬ (1000 ≤ k) := by omega
  simp [a]
theorem a_bw (h : St σ) (hA : zAx σ M) : M 211 0 = σ 40 0 := (hA 211 0 (by decide) rfl).trans h.1.1.1.1
theorem a_pn (h : St σ) (hA : zAx σ M) : M 212 0 = σ 40 7 := (hA 212 0 (by decide) rfl).trans h.1.1.2.1.1
theorem a_sn (h : St σ) (hA : zAx σ M) : M 213 0 = σ 40 13 := (hA 213 0 (by decide) rfl).trans h.1.1.2.2.1
theorem a_nn (h : St σ) (hA : zAx σ M) : M 200 43 = σ 80 0 := (hA 200 43 (by decide) rfl).trans h.2.1.1.1
theorem a_tp (h : St σ) (hA : zAx σ M) : M 200 1 = σ 20 1 := (hA 200 1 (by decide) rfl).trans h.2.2.2.1.1.1
theorem z12 (a : Int) : 12 * (0 : Int) + a = a := by omega
theorem z8_ (a : Int) : 8 * (0 : Int) + a = a := by omega
theorem z11 (a : Int) : 11 * (0 : Int) + a = a := by omega
theorem z24 (a : Int) : 24 * (0 : Int) + a = a := by omega
theorem a_tn (h : St σ) (hA : zAx σ M) (h0 : 0 ≤ k) (h1 : k < σ 40 0) : M 215 k = σ 43 k := (hA 215 k (by decide) (zt_bo (by decide) (by have := r_bw h; omega))).trans (by have := (r_bo h h0 h1).1.1; rwa [z12] at this)
theorem a_sz (h : St σ) (hA : zAx σ M) (h0 : 0 ≤ k) (h1 : k < σ 40 0) : M 216 k = σ 44 k := (hA 216 k (by decide) (zt_bo (by decide) (by have := r_bw h; omega))).trans (by have := (r_bo h h0 h1).2.1.1; rwa [z12] at this)
theorem a_wl (h : St σ) (hA : zAx σ M) (h0 : 0 ≤ k) (h1 : k < σ 40 0) : M 217 k = σ 45 k := (hA 217 k (by decide) (zt_bo (by decide) (by have := r_bw h; omega))).trans (by have := (r_bo h h0 h1).2.2.1.1; rwa [z12] at this)
theorem a_kd (h : St σ) (hA : zAx σ M) (h0 : 0 ≤ k) (h1 : k < σ 40 0) : M 218 k = σ 46 k := (hA 218 k (by decide) (zt_bo (by decide) (by have := r_bw h; omega))).trans (by have := (r_bo h h0 h1).2.2.2.1.1; rwa [z12] at this)
theorem a_pl (h : St σ) (hA : zAx σ M) (h0 : 0 ≤ k) (h1 : k < σ 40 0) : M 219 k = σ 47 k := (hA 219 k (by decide) (zt_bo (by decide) (by have := r_bw h; omega))).trans (by have := (r_bo h h0 h1).2.2.2.2.1; rwa [z12] at this)
theorem a_pA (h : St σ) (hA : zAx σ M) (h0 : 0 ≤ k) (h1 : k < σ 40 7) : M 220 k = σ 49 k := (hA 220 k (by decide) (zt_pa (by decide) (by have := r_pn h; omega))).trans (by have := (r_pa h h0 h1).1.1; rwa [z8_] at this)
theorem a_pP (h : St σ) (hA : zAx σ M) (h0 : 0 ≤ k) (h1 : k < σ 40 7) : M 221 k = σ 50 k := (hA 221 k (by decide) (zt_pa (by decide) (by have := r_pn h; omega))).trans (by have := (r_pa h h0 h1).2.1.1; rwa [z8_] at this)
theorem a_pB (h : St σ) (hA : zAx σ M) (h0 : 0 ≤ k) (h1 : k < σ 40 7) : M 222 k = σ 51 k := (hA 222 k (by decide) (zt_pa (by decide) (by have := r_pn h; omega))).trans (by have := (r_pa h h0 h1).2.2.1.1; rwa [z8_] at this)
theorem a_pQ (h : St σ) (hA : zAx σ M) (h0 : 0 ≤ k) (h1 : k < σ 40 7) : M 223 k = σ 52 k := (hA 223 k (by decide) (zt_pa (by decide) (by have := r_pn h; omega))).trans (by have := (r_pa h h0 h1).2.2.2.1.1; rwa [z8_] at this)
theorem a_pW (h : St σ) (hA : zAx σ M) (h0 : 0 ≤ k) (h1 : k < σ 40 7) : M 224 k = σ 53 k := (hA 224 k (by decide) (zt_pa (by decide) (by have := r_pn h; omega))).trans (by have := (r_pa h h0 h1).2.2.2.2.1; rwa [z8_] at this)
theorem a_st (h : St σ) (hA : zAx σ M) (h0 : 0 ≤ k) (h1 : k < 11) : M 225 k = σ 59 k := (hA 225 k (by decide) (zt_se h1)).trans (by have := (h.1.2.2.2.1 k h0 h1).1; rwa [z11] at this)
theorem a_nb (h : St σ) (hA : zAx σ M) (h0 : 0 ≤ k) (h1 : k < σ 80 0) : M 245 k = σ 82 k := (hA 245 k (by decide) rfl).trans (by have := (r_no h h0 h1).1.1; rwa [z24] at this)
theorem a_nr (h : St σ) (hA : zAx σ M) (h0 : 0 ≤ k) (h1 : k < σ 80 0) : M 246 k = σ 83 k := (hA 246 k (by decide) rfl).trans (by have := (r_no h h0 h1).2.1.1; rwa [z24] at this)
theorem a_nl (h : St σ) (hA : zAx σ M) (h0 : 0 ≤ k) (h1 : k < σ 80 0) : M 247 k = σ 84 k := (hA 247 k (by decide) rfl).trans (by have := (r_no h h0 h1).2.2.1.1; rwa [z24] at this)
theorem a_np (h : St σ) (hA : zAx σ M) (h0 : 0 ≤ k) (h1 : k < σ 80 0) : M 248 k = σ 85 k := (hA 248 k (by decide) rfl).trans (by have := (r_no h h0 h1).2.2.2.1.1; rwa [z24] at this)
theorem a_nf (h : St σ) (hA : zAg σ M) (h0 : 0 ≤ k) (h1 : k < σ 80 0) : M 249 k = σ 86 k := (hA 249 k rfl).trans (by have := (r_no h h0 h1).2.2.2.2.1; rwa [z24] at this)
end ACC
