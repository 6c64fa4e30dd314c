/-! PURE PART, 1: answers, loops, sums, bits -/
theorem zS_gd {α : Type} {c : Prop} [Decidable c] {k : Option α} {P : α → Prop} : zSat (zgd c k) P ↔ (c ∧ zSat k P) := by
  unfold zgd
  by_cases hc : c
  · rw [if_pos hc]; exact ⟨fun h => ⟨hc, h⟩, fun h => h.2⟩
  · rw [if_neg hc]; exact ⟨fun h => h.elim, fun h => absurd h.1 hc⟩
theorem zS_bd {α β : Type} {o : Option α} {k : α → Option β} {P : β → Prop} : zSat (zbd o k) P ↔ zSat o (fun x => zSat (k x) P) := by
  cases o <;> exact Iff.rfl
theorem zS_bd2 {α γ β : Type} {o : Option (α × γ)} {k : α → γ → Option β} {P : β → Prop} : zSat (zbd2 o k) P ↔ zSat o (fun x => zSat (k x.1 x.2) P) := by
  cases o <;> exact Iff.rfl
theorem zS_if {α : Type} {c : Prop} [Decidable c] {a b : Option α} {P : α → Prop} : zSat (if c then a else b) P ↔ ((c → zSat a P) ∧ (¬ c → zSat b P)) := by
  by_cases hc : c
  · rw [if_pos hc]; exact ⟨fun h => ⟨fun _ => h, fun g => absurd hc g⟩, fun h => h.1 hc⟩
  · rw [if_neg hc]; exact ⟨fun h => ⟨fun g => absurd g hc, fun _ => h⟩, fun h => h.2 hc⟩
theorem zS_some {α : Type} {x : α} {P : α → Prop} : zSat (some x) P ↔ P x := Iff.rfl
theorem zS_ex {α : Type} {o : Option α} {P : α → Prop} : zSat o P ↔ ∃ x, o = some x ∧ P x := by
  cases o with
  | none => exact ⟨fun h => h.elim, fun ⟨_, h, _⟩ => by cases h⟩
  | some x => exact ⟨fun h => ⟨x, rfl, h⟩, fun ⟨_, h, g⟩ => by cases h; exact g⟩
theorem zS_of {α : Type} {o : Option α} {x : α} {P : α → Prop} (h : o = some x) (g : P x) : zSat o P := by rw [h]; exact g
theorem zgd_t {α : Type} {c : Prop} [Decidable c] {k : Option α} (h : c) : zgd c k = k := if_pos h
theorem zbd_s {α β : Type} {x : α} {k : α → Option β} : zbd (some x) k = k x := rfl
theorem zbd2_s {α γ β : Type} {x : α × γ} {k : α → γ → Option β} : zbd2 (some x) k = k x.1 x.2 := rfl
theorem zel_l {α β γ : Type} {x : α} {f : α → γ} {g : β → γ} : zel (.inl x : α ⊕ β) f g = f x := rfl
theorem zel_r {α β γ : Type} {x : β} {f : α → γ} {g : β → γ} : zel (.inr x : α ⊕ β) f g = g x := rfl
/-- a loop whose states are known -/
theorem zit_for {S E : Type} {f : S → Option (S ⊕ E)} (n : Nat) (st : Nat → S) {e : E} (h : ∀ i, i < n → f (st i) = some (.inl (st (i + 1)))) (he : f (st n) = some (.inr e)) : zit f (st 0) = some e := by
  have key : ∀ k, k ≤ n → zit f (st (n - k)) = some e := by
    intro k
    induction k with
    | zero => intro _; rw [Nat.sub_zero, zit_eq, he]
    | succ k ih =>
      intro hk
      rw [zit_eq, h (n - (k + 1)) (by omega)]
      show zit f (st (n - (k + 1) + 1)) = _
      rw [show n - (k + 1) + 1 = n - k by omega]
      exact ih (by omega)
  have := key n (Nat.le_refl n)
  rwa [Nat.sub_self] at this
/-- a loop with an invariant and a number that falls -/
theorem zit_inv {S E : Type} {f : S → Option (S ⊕ E)} {P : E → Prop} (I : Nat → S → Prop) (step : ∀ m s, I m s → zSat (f s) (fun x => zel x (fun s' => ∃ m', m' < m ∧ I m' s') P)) : ∀ m s, I m s → zSat (zit f s) P := by
  intro m
  induction m using Nat.strongRecOn with
  | ind m ih =>
    intro s hs
    have h := step m s hs
    rw [zit_eq]
    cases hf : f s with
    | none => rw [hf] at h; exact h
    | some x =>
      rw [hf] at h
      cases x with
      | inl s' => obtain ⟨m', hm, hI⟩ := h; exact ih m' hm s' hI
      | inr e => exact h
theorem zit_i2 {A B E : Type} {P : E → Prop} (g : A → B → Option ((A × B) ⊕ E)) (I : Nat → A → B → Prop) (step : ∀ m a b, I m a b → zSat (g a b) (fun x => zel x (fun s' => ∃ m', m' < m ∧ I m' s'.1 s'.2) P)) (m : Nat) {a : A} {b : B} (h : I m a b) : zSat (zit (fun s => g s.1 s.2) (a, b)) P :=
  zit_inv (fun m s => I m s.1 s.2) (fun m s hs => step m s.1 s.2 hs) m (a, b) h
theorem zit_i3 {A B C E : Type} {P : E → Prop} (g : A → B → C → Option ((A × B × C) ⊕ E)) (I : Nat → A → B → C → Prop) (step : ∀ m a b c, I m a b c → zSat (g a b c) (fun x => zel x (fun s' => ∃ m', m' < m ∧ I m' s'.1 s'.2.1 s'.2.2) P)) (m : Nat) {a : A} {b : B} {c : C} (h : I m a b c) : zSat (zit (fun s => g s.1 s.2.1 s.2.2) (a, b, c)) P :=
  zit_inv (fun m s => I m s.1 s.2.1 s.2.2) (fun m s hs => step m s.1 s.2.1 s.2.2 hs) m (a, b, c) h
theorem zit_i4 {A B C D E : Type} {P : E → Prop} (g : A → B → C → D → Option ((A × B × C × D) ⊕ E)) (I : Nat → A → B → C → D → Prop) (step : ∀ m a b c d, I m a b c d → zSat (g a b c d) (fun x => zel x (fun s' => ∃ m', m' < m ∧ I m' s'.1 s'.2.1 s'.2.2.1 s'.2.2.2) P)) (m : Nat) {a : A} {b : B} {c : C} {d : D} (h : I m a b c d) : zSat (zit (fun s => g s.1 s.2.1 s.2.2.1 s.2.2.2) (a, b, c, d)) P :=
  zit_inv (fun m s => I m s.1 s.2.1 s.2.2.1 s.2.2.2) (fun m s hs => step m s.1 s.2.1 s.2.2.1 s.2.2.2 hs) m (a, b, c, d) h
theorem zw_i {x : Int} (h1 : -2147483648 ≤ x) (h2 : x ≤ 2147483647) : zw x = x := zw_id ⟨h1, h2⟩
theorem zwl_i {x : Int} (h1 : -9223372036854775808 ≤ x) (h2 : x ≤ 9223372036854775807) : zwl x = x := zwl_id ⟨h1, h2⟩
/-- sums -/
def zsum (f : Int → Int) : Nat → Int
  | 0 => 0
  | n + 1 => zsum f n + f (n : Int)
theorem zsum_le {f : Int → Int} {hi : Int} : ∀ {n : Nat}, (∀ k : Nat, k < n → f (k : Int) ≤ hi) → zsum f n ≤ hi * n
  | 0, _ => by simp [zsum]
  | n + 1, h => by
    have h1 := zsum_le (n := n) (fun k hk => h k (by omega))
    have h2 := h n (by omega)
    have e : hi * ((n + 1 : Nat) : Int) = hi * n + hi := by rw [Int.natCast_add, Int.mul_add]; simp
    rw [e]; unfold zsum; omega
theorem zsum_ge {f : Int → Int} {lo : Int} : ∀ {n : Nat}, (∀ k : Nat, k < n → lo ≤ f (k : Int)) → lo * n ≤ zsum f n
  | 0, _ => by simp [zsum]
  | n + 1, h => by
    have h1 := zsum_ge (n := n) (fun k hk => h k (by omega))
    have h2 := h n (by omega)
    have e : lo * ((n + 1 : Nat) : Int) = lo * n + lo := by rw [Int.natCast_add, Int.mul_add]; simp
    rw [e]; unfold zsum; omega
theorem zsum_0 {f : Int → Int} {n : Nat} (h : ∀ k : Nat, k < n → 0 ≤ f (k : Int)) : 0 ≤ zsum f n := by
  have := zsum_ge (lo := 0) h; simpa using this
theorem zsum_eq {f g : Int → Int} : ∀ {n : Nat}, (∀ k : Nat, k < n → f (k : Int) = g k) → zsum f n = zsum g n
  | 0, _ => rfl
  | n + 1, h => by unfold zsum; rw [zsum_eq (n := n) (fun k hk => h k (by omega)), h n (by omega)]
theorem zsum_mono {f : Int → Int} {n m : Nat} (h : n ≤ m) (hf : ∀ k : Nat, n ≤ k → k < m → 0 ≤ f (k : Int)) : zsum f n ≤ zsum f m := by
  induction h with
  | refl => exact Int.le_refl _
  | step h ih =>
    rename_i m
    have h1 := ih (fun k a b => hf k a (by omega))
    have h2 := hf m h (by omega)
    show zsum f n ≤ zsum f m + f m
    omega
/-- bits -/
theorem zbv_n {a : Nat} (ha : a < 2147483648) : (Int32.ofInt (a : Int)).toBitVec.toNat = a := by
  show (BitVec.ofInt 32 (a : Int)).toNat = a
  rw [BitVec.toNat_ofInt]
  have e : ((2 ^ 32 : Nat) : Int) = 4294967296 := by decide
  rw [e]; omega
theorem zand_n {a b : Nat} (ha : a < 2147483648) (hb : b < 2147483648) : zand (a : Int) (b : Int) = ((a &&& b : Nat) : Int) := by
  show ((Int32.ofInt (a : Int)).toBitVec &&& (Int32.ofInt (b : Int)).toBitVec).toInt = _
  have e : ((Int32.ofInt (a : Int)).toBitVec &&& (Int32.ofInt (b : Int)).toBitVec).toNat = a &&& b := by rw [BitVec.toNat_and, zbv_n ha, zbv_n hb]
  have hl : a &&& b < 2147483648 := Nat.lt_of_le_of_lt Nat.and_le_left ha
  rw [BitVec.toInt_eq_toNat_of_lt (by rw [e]; omega), e]
theorem zor_n {a b : Nat} (ha : a < 2147483648) (hb : b < 2147483648) : zor (a : Int) (b : Int) = ((a ||| b : Nat) : Int) := by
  show ((Int32.ofInt (a : Int)).toBitVec ||| (Int32.ofInt (b : Int)).toBitVec).toInt = _
  have e : ((Int32.ofInt (a : Int)).toBitVec ||| (Int32.ofInt (b : Int)).toBitVec).toNat = a ||| b := by rw [BitVec.toNat_or, zbv_n ha, zbv_n hb]
  have hl : a ||| b < 2 ^ 31 := Nat.or_lt_two_pow (by omega) (by omega)
  rw [BitVec.toInt_eq_toNat_of_lt (by rw [e]; omega), e]
theorem zxor_n {a b : Nat} (ha : a < 2147483648) (hb : b < 2147483648) : zxor (a : Int) (b : Int) = ((a ^^^ b : Nat) : Int) := by
  show ((Int32.ofInt (a : Int)).toBitVec ^^^ (Int32.ofInt (b : Int)).toBitVec).toInt = _
  have e : ((Int32.ofInt (a : Int)).toBitVec ^^^ (Int32.ofInt (b : Int)).toBitVec).toNat = a ^^^ b := by rw [BitVec.toNat_xor, zbv_n ha, zbv_n hb]
  have hl : a ^^^ b < 2 ^ 31 := Nat.xor_lt_two_pow (by omega) (by omega)
  rw [BitVec.toInt_eq_toNat_of_lt (by rw [e]; omega), e]
theorem zshl_1 : ∀ k : Nat, k < 31 → zshl 1 (k : Int) = ((2 ^ k : Nat) : Int) := by decide +kernel
theorem zshn : ∀ k : Nat, k < 32 → ((Int32.ofInt (k : Int) &&& 31).toBitVec.smod 32).toNat = k := by decide +kernel
theorem zshr_i {a : Int} (ha : z32 a) {k : Nat} (hk : k < 32) : zshr a (k : Int) = a / 2 ^ k := by
  show (BitVec.sshiftRight' (Int32.ofInt a).toBitVec ((Int32.ofInt (k : Int) &&& 31).toBitVec.smod 32)).toInt = _
  rw [BitVec.toInt_sshiftRight', zshn k hk]
  have e : (Int32.ofInt a).toBitVec.toInt = a := zw_id ha
  rw [e, Int.shiftRight_eq_div_pow, Int.natCast_pow]; rfl
theorem zand_1 {a : Int} (ha : z32 a) : zand a 1 = a % 2 := by
  show ((Int32.ofInt a).toBitVec &&& (Int32.ofInt (1 : Int)).toBitVec).toInt = _
  have e1 : (Int32.ofInt (1 : Int)).toBitVec.toNat = 1 := by decide +kernel
  have e0 : (Int32.ofInt a).toBitVec.toNat = (a % 4294967296).toNat := by
    show (BitVec.ofInt 32 a).toNat = _
    rw [BitVec.toNat_ofInt]; rfl
  have e : ((Int32.ofInt a).toBitVec &&& (Int32.ofInt (1 : Int)).toBitVec).toNat = (a % 4294967296).toNat % 2 := by
    rw [BitVec.toNat_and, e0, e1, Nat.and_one_is_mod]
  rw [BitVec.toInt_eq_toNat_of_lt (by rw [e]; omega), e]
  omega
theorem z32_shr (a b : Int) : z32 (zshr a b) := z32_i _
theorem zbit_i {a : Int} (ha : z32 a) {k : Nat} (hk : k < 32) : zand (zshr a (k : Int)) 1 = a / 2 ^ k % 2 := by
  rw [zand_1 (z32_shr _ _), zshr_i ha hk]
theorem zbit_n {a : Nat} (ha : a < 2147483648) {k : Nat} (hk : k < 32) : zand (zshr (a : Int) (k : Int)) 1 = if a.testBit k then 1 else 0 := by
  rw [zbit_i ⟨by omega, by omega⟩ hk, Nat.testBit_eq_decide_div_mod_eq]
  have e : ((a : Int) / 2 ^ k % 2) = ((a / 2 ^ k % 2 : Nat) : Int) := by simp
  rw [e]
  by_cases h : a / 2 ^ k % 2 = 1
  · simp [h]
  · have : a / 2 ^ k % 2 = 0 := by omega
    simp [this]
theorem zand_01 (a : Int) : zand a 1 = 0 ∨ zand a 1 = 1 := by
  have h : zand a 1 = zand (zw a) 1 := by unfold zand; rw [zw_of]
  rw [h, zand_1 (z32_w _)]; omega
theorem zxor_m1 {a : Int} (ha : z32 a) : zxor a (-1) = -a - 1 := by
  show ((Int32.ofInt a).toBitVec ^^^ (Int32.ofInt (-1 : Int)).toBitVec).toInt = _
  have e1 : (Int32.ofInt (-1 : Int)).toBitVec = BitVec.allOnes 32 := by decide +kernel
  rw [e1, BitVec.xor_allOnes, BitVec.toInt_not]
  have e0 : (Int32.ofInt a).toBitVec.toNat = (a % 4294967296).toNat := by
    show (BitVec.ofInt 32 a).toNat = _
    rw [BitVec.toNat_ofInt]; rfl
  obtain ⟨h1, h2⟩ := ha
  rw [e0]
  simp only [Int.bmod_def]
  omega
theorem zor_0 {a : Int} (ha : z32 a) : zor a 0 = a := by
  unfold zor
  have e : Int32.ofInt 0 = 0 := rfl
  rw [e, Int32.or_zero]; exact zw_id ha
theorem zdiv_p {a b : Int} (ha : z32 a) (hb : z32 b) (hb0 : 0 < b) : zdiv a b = Int.tdiv a b := by
  unfold zdiv
  have e2 : (Int32.ofInt b).toInt = b := zw_id hb
  have e1 : (Int32.ofInt a).toInt = a := zw_id ha
  rw [Int32.toInt_div_of_ne_right _ _ (fun h => by have := congrArg Int32.toInt h; rw [e2] at this; have e3 : (-1 : Int32).toInt = -1 := by decide +kernel
                                                   rw [e3] at this; omega), e1, e2]
theorem zdiv_n {a b : Int} (ha : z32 a) (hb : z32 b) (ha0 : 0 ≤ a) (hb0 : 0 < b) : zdiv a b = a / b := by
  rw [zdiv_p ha hb hb0, Int.tdiv_eq_ediv_of_nonneg ha0]
theorem zrem_n {a b : Int} (ha : z32 a) (hb : z32 b) (ha0 : 0 ≤ a) (hb0 : 0 < b) : zrem a b = a % b := by
  have e : zrem a b = zw (zw a - zdiv a b * zw b) := by
    unfold zrem zw zdiv
    rw [Int32.ofInt_sub, Int32.ofInt_mul, Int32.ofInt_toInt, Int32.ofInt_toInt, Int32.ofInt_toInt]
  rw [e, zw_id ha, zw_id hb, zdiv_n ha hb ha0 hb0, show a - a / b * b = a % b by rw [Int.emod_def, Int.mul_comm]]
  have h1 := Int.emod_nonneg a (show b ≠ 0 by omega)
  have h2 := Int.emod_lt_of_pos a hb0
  obtain ⟨h3, h4⟩ := hb
  exact zw_i (by omega) (by omega)
theorem zabs_r {a : Int} : zabs a = if 0 ≤ a then a else -a := rfl
