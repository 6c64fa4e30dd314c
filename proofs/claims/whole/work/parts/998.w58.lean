/-! PURE PART, 58: the rows of a node -/
section GRY
variable {σ M V : zMem} {k x b : Int} {n g q S : Nat} {a a' : Int → Int}
def yR (n : Nat) (a : Int → Int) : Prop := ∀ j : Nat, j < n → 0 ≤ a j ∧ a j ≤ 6
def yset (a : Int → Int) (i v : Int) : Int → Int := fun q => if q = i then v else a q
theorem yset_e {i v : Int} : yset a i v i = v := if_pos rfl
theorem yset_n {i v j : Int} (h : j ≠ i) : yset a i v j = a j := if_neg h
theorem yR.set {i : Nat} {v : Int} (h : yR n a) (v0 : 0 ≤ v) (v1 : v ≤ 6) : yR n (yset a i v) := fun j hj => by
  by_cases e : (j : Int) = i
  · rw [e, yset_e]; exact ⟨v0, v1⟩
  · rw [yset_n e]; exact h j hj
def yto (σ : zMem) (B a : Int → Int) (i : Int) : Int := σ 43 (B i) + (a i - 3) * σ 59 10
def yok (σ : zMem) (B a : Int → Int) (k : Int) : Prop := zspd σ k (yto σ B a (zgn σ (σ 49 k))) (yto σ B a (zgn σ (σ 51 k))) ≤ σ 53 k
def yfit (σ : zMem) (B a : Int → Int) (g : Nat) (i : Int) : Prop := (1 ≤ yto σ B a i ∧ yto σ B a i ≤ 9999) ∧ ∀ k : Int, 0 ≤ k → k < σ 40 7 → (zgn σ (σ 49 k) = i ∨ zgn σ (σ 51 k) = i) → g.testBit (zgn σ (σ 49 k)).toNat = false → g.testBit (zgn σ (σ 51 k)).toNat = false → yok σ B a k
theorem yfit_z {i : Int} : zfit σ M g i ↔ yfit σ (M 152) (M 160) g i := Iff.rfl
def yow (σ : zMem) (B a : Int → Int) (i : Int) : Int := zabs (a i - 3) * σ 44 (B i) * 5764801 + a i * zwgt i
def ytb (M : zMem) (n : Nat) (a : Int → Int) (w : Int) : Int := M 157 (M 158 w + zsf a (M 156 w).toNat n n)
def yhg (M : zMem) (n q : Nat) (a : Int → Int) (i : Int) : Int := zsum (fun w => if q.testBit w.toNat = true ∧ (M 156 w).toNat.testBit i.toNat = true then ytb M n a w else 0) n
def ycov (σ M : zMem) (n q : Nat) (a : Int → Int) (i : Int) : Int := min (yow σ (M 152) a i + yhg M n q a i) 1000000000000000
theorem zup_160 {i v : Int} : zup V 160 i v 160 = yset (V 160) i v := by
  funext y
  by_cases e : y = i
  · rw [e, zup_eq, yset_e]
  · rw [zup_nk e, yset_n e]
theorem zup_c {c d : Nat} {i v : Int} (h : d ≠ c) : zup V c i v d = V d := funext fun _ => zup_ne h
theorem zfit_y {i v : Int} : zfit σ (zup V 160 i v) g i ↔ yfit σ (V 152) (yset (V 160) i v) g i := by
  rw [yfit_z, zup_160, zup_c (by decide)]
theorem zcov_y {i v : Int} : zcov σ V n q i v = ycov σ V n q (yset (V 160) i v) i := by
  show min (yow σ (zup V 160 i v 152) (zup V 160 i v 160) i + zsum (fun w => if q.testBit w.toNat = true ∧ (zup V 160 i v 156 w).toNat.testBit i.toNat = true then zup V 160 i v 157 (zup V 160 i v 158 w + zsf (zup V 160 i v 160) (zup V 160 i v 156 w).toNat n n) else 0) n) 1000000000000000 = _
  rw [zup_160, zup_c (show 152 ≠ 160 by decide), zup_c (show 156 ≠ 160 by decide), zup_c (show 157 ≠ 160 by decide), zup_c (show 158 ≠ 160 by decide)]
  rfl
theorem zsf_cg (h : ∀ j : Nat, j < n → S.testBit j = true → a j = a' j) : ∀ d : Nat, d ≤ n → zsf a S n d = zsf a' S n d
  | 0, _ => rfl
  | d + 1, hd => by
    unfold zsf
    rw [zsf_cg h d (by omega)]
    cases ht : S.testBit (n - 1 - d) with
    | true => rw [h (n - 1 - d) (by omega) ht]
    | false => rfl
theorem zsf_inj (h : ∀ j : Nat, j < n → S.testBit j = true → 0 ≤ a j ∧ a j ≤ 6) (h' : ∀ j : Nat, j < n → S.testBit j = true → 0 ≤ a' j ∧ a' j ≤ 6) : ∀ d : Nat, d ≤ n → zsf a S n d = zsf a' S n d → ∀ j : Nat, n - d ≤ j → j < n → S.testBit j = true → a j = a' j
  | 0, _, _, j, h1, h2, _ => by omega
  | d + 1, hd, e, j, h1, h2, hb => by
    unfold zsf at e
    cases ht : S.testBit (n - 1 - d) with
    | true =>
      rw [ht, if_pos rfl, if_pos rfl] at e
      have b := h (n - 1 - d) (by omega) ht
      have b' := h' (n - 1 - d) (by omega) ht
      by_cases c : j = n - 1 - d
      · rw [c]; omega
      · exact zsf_inj h h' d (by omega) (by omega) j (by omega) h2 hb
    | false =>
      rw [ht, if_neg (by decide), if_neg (by decide)] at e
      by_cases c : j = n - 1 - d
      · rw [c, ht] at hb; cases hb
      · exact zsf_inj h h' d (by omega) e j (by omega) h2 hb
theorem yto_cg {B : Int → Int} {i : Int} (h : a i = a' i) : yto σ B a i = yto σ B a' i := by unfold yto; rw [h]
theorem yow_cg {B : Int → Int} {i : Int} (h : a i = a' i) : yow σ B a i = yow σ B a' i := by unfold yow; rw [h]
theorem yfit_cg {B : Int → Int} {i : Int} (h : a i = a' i) (hn : ∀ j : Nat, zNb σ (σ 40 7) i j → g.testBit j = false → a j = a' j) (hf : yfit σ B a g i) : yfit σ B a' g i := by
  refine ⟨by rw [← yto_cg (σ := σ) (B := B) h]; exact hf.1, fun k k0 k1 ho t1 t2 => ?_⟩
  have := hf.2 k k0 k1 ho t1 t2
  have a0 := zgn_0 (σ := σ) (a := σ 49 k)
  have b0 := zgn_0 (σ := σ) (a := σ 51 k)
  have eA : (((zgn σ (σ 49 k)).toNat : Nat) : Int) = zgn σ (σ 49 k) := by omega
  have eB : (((zgn σ (σ 51 k)).toNat : Nat) : Int) = zgn σ (σ 51 k) := by omega
  have hA : a (zgn σ (σ 49 k)) = a' (zgn σ (σ 49 k)) := by
    rcases ho with e | e
    · rw [e]; exact h
    · have := hn (zgn σ (σ 49 k)).toNat ⟨k, ⟨k0, k1⟩, Or.inr ⟨e, eA.symm⟩⟩ t1
      rwa [eA] at this
  have hB : a (zgn σ (σ 51 k)) = a' (zgn σ (σ 51 k)) := by
    rcases ho with e | e
    · have := hn (zgn σ (σ 51 k)).toNat ⟨k, ⟨k0, k1⟩, Or.inl ⟨e, eB.symm⟩⟩ t2
      rwa [eB] at this
    · rw [e]; exact h
  unfold yok at this ⊢
  rw [← yto_cg (σ := σ) (B := B) hA, ← yto_cg (σ := σ) (B := B) hB]
  exact this
theorem ycov_cg {i : Int} (h2 : V 152 = M 152) (h6 : V 156 = M 156) (h : a i = a' i) (ht : ∀ w : Nat, w < n → q.testBit w = true → (M 156 w).toNat.testBit i.toNat = true → ytb V n a w = ytb M n a' w) : ycov σ V n q a i = ycov σ M n q a' i := by
  unfold ycov
  rw [h2, yow_cg (σ := σ) (B := M 152) h]
  have : yhg V n q a i = yhg M n q a' i := zsum_eq fun w hw => by
    rw [h6]
    by_cases c : q.testBit ((w : Int)).toNat = true ∧ (M 156 w).toNat.testBit i.toNat = true
    · rw [if_pos c, if_pos c]; exact ht w hw c.1 c.2
    · rw [if_neg c, if_neg c]
  rw [this]
theorem yow_0 (h : St σ) {B : Int → Int} {i : Int} (hB : 0 ≤ B i ∧ B i < σ 40 0) (hi : 0 ≤ a i ∧ a i ≤ 6) : 0 ≤ yow σ B a i ∧ yow σ B a i ≤ 297 * 5764801 + 6 * 823543 := by
  have sz := r_sz h hB.1 hB.2
  have z1 := zgp1 (a := a i - 3) (b := σ 44 (B i)) (by omega) sz
  have wp := zwgt_p (n := i)
  have a1 : 0 ≤ a i * zwgt i := Int.mul_nonneg hi.1 (by omega)
  have a2 : a i * zwgt i ≤ 6 * 823543 := Int.mul_le_mul hi.2 wp.2 (by omega) (by omega)
  unfold yow
  omega
/-- what stands in a row of node i, x its way -/
def yT (σ M : zMem) (n g q i S : Nat) (x t : Int) : Prop := (0 ≤ t ∧ t ≤ 1000000000000000) ∧ ∀ a : Int → Int, yR n a → zsf a S n n = x → (∀ v : Int, 0 ≤ v → v ≤ 6 → yfit σ (M 152) (yset a i v) g i → t ≤ ycov σ M n q (yset a i v) i) ∧ (t = 1000000000000000 ∨ ∃ v : Int, (0 ≤ v ∧ v ≤ 6) ∧ yfit σ (M 152) (yset a i v) g i ∧ t = ycov σ M n q (yset a i v) i)
/-- what waits, by the time node i with scope S is taken out -/
def yW (M : zMem) (n q i S : Nat) : Prop := ∀ w : Nat, w < n → q.testBit w = true → (0 ≤ M 156 w ∧ M 156 w < 2 ^ n ∧ zbsu (M 156 w).toNat 8 ≤ 3 ∧ 0 ≤ M 158 w ∧ M 158 w + 7 ^ zsc (M 156 w).toNat n n ≤ M 150 8) ∧ (∀ y : Int, 0 ≤ y → y < 7 ^ zsc (M 156 w).toNat n n → 0 ≤ M 157 (M 158 w + y) ∧ M 157 (M 158 w + y) ≤ 1000000000000000) ∧ ((M 156 w).toNat.testBit i = true → ∀ j : Nat, j < n → (M 156 w).toNat.testBit j = true → j ≠ i → S.testBit j = true)
theorem zsc_3 {S n : Nat} (hS : S < 2 ^ n) (h8 : n ≤ 8) (h3 : zbsu S 8 ≤ 3) : (7 : Int) ^ zsc S n n ≤ 343 := by
  have zc := zsc_8 hS h8
  have p3 : (7 : Int) ^ zsc S n n ≤ 7 ^ 3 := by
    have := Nat.pow_le_pow_right (n := 7) (by decide) (show zsc S n n ≤ 3 by omega)
    exact_mod_cast this
  have e3 : (7 : Int) ^ 3 = 343 := by decide
  omega
theorem zS2 {v : Int} (h0 : 0 ≤ v) (h : v < 2 ^ n) : v.toNat < 2 ^ n := by
  have e : (2 : Int) ^ n = ((2 ^ n : Nat) : Int) := (Int.natCast_pow 2 n).symm
  rw [e] at h; omega
theorem e_rows (h : St σ) (hA : zAx σ M) (h8 : znpr σ ≤ 8) (hG : zGn σ M (σ 40 0)) (hn : (n : Int) = znpr σ) {i : Nat} (i1 : i < n) (hg : M 150 10 = g) (g8 : g < 256) (hq : M 150 11 = q) (q8 : q < 256) (iq : q.testBit i = false) (hS : M 156 i = S) (S2 : S < 2 ^ n) (S3 : zbsu S 8 ≤ 3) (Si : S.testBit i = false) (near : ∀ j : Nat, j ≠ i → zNb σ (σ 40 7) i j → g.testBit j = false → S.testBit j = true) (wait : yW M n q i S) (u0 : 0 ≤ M 150 8) (u7 : M 150 8 + 7 ^ zsc S n n ≤ 743) : zSat (zit (fun s25 : Int × zMem => fX1_takeOut_l61 i (7 ^ zsc S n n) (s25.1) (s25.2)) (0, M)) (fun e => (∀ c : Nat, c ≠ 150 → c ≠ 157 → c ≠ 160 → e.2 c = M c) ∧ (∀ y : Int, y ≠ 8 → e.2 150 y = M 150 y) ∧ e.2 150 8 = M 150 8 + 7 ^ zsc S n n ∧ (∀ y : Int, y < M 150 8 → e.2 157 y = M 157 y) ∧ ∀ x : Int, 0 ≤ x → x < 7 ^ zsc S n n → yT σ M n g q i S x (e.2 157 (M 150 8 + x))) := by
  have n8 : n ≤ 8 := by omega
  have p343 := zsc_3 S2 n8 S3
  have p256 := zp256 n8
  have n3 : M 150 3 = n := by rw [hG.1, zgn_N, hn]
  refine zit_i2 (fun y V => fX1_takeOut_l61 (i : Int) (7 ^ zsc S n n) y V) (fun m y V => m = (7 ^ zsc S n n - y).toNat ∧ 0 ≤ y ∧ y ≤ 7 ^ zsc S n n ∧ (∀ c : Nat, c ≠ 150 → c ≠ 157 → c ≠ 160 → V c = M c) ∧ (∀ y : Int, y ≠ 8 → V 150 y = M 150 y) ∧ V 150 8 = M 150 8 + y ∧ (∀ y : Int, y < M 150 8 → V 157 y = M 157 y) ∧ ∀ x : Int, 0 ≤ x → x < y → yT σ M n g q i S x (V 157 (M 150 8 + x))) ?_ _ ⟨rfl, Int.le_refl _, Int.le_of_lt (Int.pow_pos (by decide)), fun _ _ _ _ => rfl, fun _ _ => rfl, by omega, fun _ _ => rfl, fun x x0 x1 => by omega⟩
  rintro m y V ⟨hm, y0, y1, f1, f0, f8, f2, f3⟩
  show zSat (fX1_takeOut_l61 (i : Int) (7 ^ zsc S n n) y V) _
  unfold fX1_takeOut_l61
  by_cases c : 7 ^ zsc S n n ≤ y
  · rw [if_pos c]
    have : y = 7 ^ zsc S n n := by omega
    subst this
    exact ⟨f1, f0, f8, f2, f3⟩
  have y2 : y < 7 ^ zsc S n n := by omega
  rw [if_neg c, f8, if_neg (by omega), zgd_t ⟨by omega, by omega⟩, f1 156 (by decide) (by decide) (by decide), hS, zS_bd]
  refine zs_m (e_spread (n := n) (S := S) (w := y) (by rw [f0 3 (by decide)]; exact n3) n8 (by omega) y0 y2) ?_
  rintro U ⟨u1, u2, u3, u4⟩
  have uc : ∀ c : Nat, c ≠ 150 → c ≠ 157 → c ≠ 160 → U c = M c := fun c c0 c1 c2 => by rw [u1 c c2, f1 c c0 c1 c2]
  have uz : ∀ z : Int, z ≠ 8 → U 150 z = M 150 z := fun z hz => by rw [u1 150 (by decide), f0 z hz]
  have u8 : U 150 8 = M 150 8 + y := by rw [u1 150 (by decide), f8]
  have u157 : U 157 = V 157 := u1 157 (by decide)
  have hAU : zAx σ U := fun c y hc hs => by
    by_cases c1 : c = 150 ∨ c = 157 ∨ c = 160
    · rcases c1 with rfl | rfl | rfl <;> cases hs
    · rw [uc c (fun e => c1 (Or.inl e)) (fun e => c1 (Or.inr (Or.inl e))) (fun e => c1 (Or.inr (Or.inr e)))]; exact hA c y hc hs
  have hGU : zGn σ U (σ 40 0) := by
    unfold zGn at hG ⊢
    rw [uz 3 (by decide), uc 152 (by decide) (by decide) (by decide), uc 153 (by decide) (by decide) (by decide)]; exact hG
  -- tables of the nodes that wait, asked with steps a
  have tabs : ∀ w : Nat, w < n → q.testBit w = true → ∀ a : Int → Int, (∀ j : Nat, j < n → (M 156 w).toNat.testBit j = true → 0 ≤ a j ∧ a j ≤ 6) → ytb U n a w = ytb M n a w ∧ 0 ≤ ytb M n a w ∧ ytb M n a w ≤ 1000000000000000 := fun w hw hqw a ha => by
    obtain ⟨⟨w1, w2, w3, w30, w31⟩, w4, -⟩ := wait w hw hqw
    have s2 := zS2 w1 w2
    have b := zsf_c (a := a) (S := (M 156 w).toNat) (n := n) ha n (Nat.le_refl _)
    have p := zsc_3 s2 n8 w3
    have ne : w ≠ i := fun e => by rw [e, iq] at hqw; cases hqw
    unfold ytb
    rw [uc 156 (by decide) (by decide) (by decide), uc 158 (by decide) (by decide) (by decide), u157, f2 _ (by omega)]
    exact ⟨rfl, w4 _ b.1 b.2⟩
  have inS : ∀ w : Nat, w < n → q.testBit w = true → (M 156 w).toNat.testBit i = true → ∀ v : Int, 0 ≤ v → v ≤ 6 → ∀ j : Nat, j < n → (M 156 w).toNat.testBit j = true → 0 ≤ yset (U 160) i v j ∧ yset (U 160) i v j ≤ 6 := fun w hw hqw hiw v v0 v1 j hj hb => by
    by_cases e : j = i
    · rw [e, yset_e]; exact ⟨v0, v1⟩
    · rw [yset_n (by omega)]
      exact u3 j hj ((wait w hw hqw).2.2 hiw j hj hb e)
  have best := e_bestStep h hAU h8 hGU hn i1 (g := g) (q := q) (by rw [uz 10 (by decide)]; exact hg) g8 (fun j j1 j2 j3 => by
    have sj := near j j1 j2 j3
    have : j < n := by
      by_cases e : j < n
      · exact e
      · rw [Nat.testBit_lt_two_pow (Nat.lt_of_lt_of_le S2 (Nat.pow_le_pow_right (by omega) (by omega)))] at sj; cases sj
    exact u3 j this sj) (by rw [uz 11 (by decide)]; exact hq) q8 (fun v v0 v1 w hw hqw => by
    have wt := wait w hw hqw
    show (0 ≤ zup U 160 i v 156 w ∧ zup U 160 i v 156 w < 2 ^ n ∧ zbsu (zup U 160 i v 156 w).toNat 8 ≤ 3 ∧ 0 ≤ zup U 160 i v 158 w ∧ zup U 160 i v 158 w + 7 ^ zsc (zup U 160 i v 156 w).toNat n n ≤ 743) ∧ ((zup U 160 i v 156 w).toNat.testBit ((i : Int)).toNat = true → (∀ j : Nat, j < n → (zup U 160 i v 156 w).toNat.testBit j = true → 0 ≤ zup U 160 i v 160 j ∧ zup U 160 i v 160 j ≤ 6) ∧ 0 ≤ zup U 160 i v 157 (zup U 160 i v 158 w + zsf (zup U 160 i v 160) (zup U 160 i v 156 w).toNat n n) ∧ zup U 160 i v 157 (zup U 160 i v 158 w + zsf (zup U 160 i v 160) (zup U 160 i v 156 w).toNat n n) ≤ 1000000000000000)
    rw [zup_160, zup_c (show 156 ≠ 160 by decide), zup_c (show 157 ≠ 160 by decide), zup_c (show 158 ≠ 160 by decide), show ((i : Int)).toNat = i by omega, uc 156 (by decide) (by decide) (by decide), uc 158 (by decide) (by decide) (by decide)]
    refine ⟨⟨wt.1.1, wt.1.2.1, wt.1.2.2.1, wt.1.2.2.2.1, by have := wt.1.2.2.2.2; have p0 : (0 : Int) < 7 ^ zsc S n n := Int.pow_pos (by decide); omega⟩, fun hiw => ?_⟩
    have r := inS w hw hqw hiw v v0 v1
    have t := tabs w hw hqw _ r
    have e : U 157 (M 158 w + zsf (yset (U 160) i v) (M 156 w).toNat n n) = ytb U n (yset (U 160) i v) w := by
      unfold ytb; rw [uc 156 (by decide) (by decide) (by decide), uc 158 (by decide) (by decide) (by decide)]
    rw [e, t.1]
    exact ⟨r, t.2⟩)
  rw [zS_bd2]
  refine zs_m best ?_
  rintro ⟨t, W⟩ ⟨t1, t2, t3, t4⟩
  dsimp only at t1 t2 t3 t4 ⊢
  have w8 : W 150 8 = M 150 8 + y := by rw [t1, zup_ne (by decide), u8]
  rw [u8, zgd_t ⟨by omega, by omega⟩, zup_ne (show (150 : Nat) ≠ 157 by decide), w8, zw_i (x := y + 1) (by omega) (by omega), zw_i (x := M 150 8 + y + 1) (by omega) (by omega)]
  have hyT : yT σ M n g q i S y t := by
    -- steps a on the way y
    have cov : ∀ a : Int → Int, yR n a → zsf a S n n = y → ∀ v : Int, 0 ≤ v → v ≤ 6 → zcov σ U n q i v = ycov σ M n q (yset a i v) i ∧ (zfit σ (zup U 160 i v) g i ↔ yfit σ (M 152) (yset a i v) g i) := fun a ha hy v v0 v1 => by
      have same : ∀ j : Nat, j < n → S.testBit j = true → a j = U 160 j := fun j hj hb => zsf_inj (fun j hj _ => ha j hj) u3 n (Nat.le_refl _) (by rw [hy, u4]) j (by omega) hj hb
      have sa : ∀ j : Nat, j < n → S.testBit j = true → yset (U 160) i v j = yset a i v j := fun j hj hb => by
        have e : (j : Int) ≠ i := fun e => by
          have : j = i := by omega
          rw [this, Si] at hb; cases hb
        rw [yset_n e, yset_n e, same j hj hb]
      have nb : ∀ j : Nat, zNb σ (σ 40 7) i j → g.testBit j = false → yset (U 160) i v j = yset a i v j := fun j j1 j2 => by
        by_cases e : j = i
        · rw [e, yset_e, yset_e]
        · have sj := near j e j1 j2
          have : j < n := by
            by_cases e : j < n
            · exact e
            · rw [Nat.testBit_lt_two_pow (Nat.lt_of_lt_of_le S2 (Nat.pow_le_pow_right (by omega) (by omega)))] at sj; cases sj
          exact sa j this sj
      constructor
      · rw [zcov_y]
        refine ycov_cg (uc 152 (by decide) (by decide) (by decide)) (uc 156 (by decide) (by decide) (by decide)) (by rw [yset_e, yset_e]) fun w hw hqw hiw => ?_
        have hiw : (M 156 w).toNat.testBit i = true := hiw
        have r := inS w hw hqw hiw v v0 v1
        rw [(tabs w hw hqw _ r).1]
        unfold ytb
        rw [zsf_cg (a := yset (U 160) i v) (a' := yset a i v) (fun j hj hb => ?_) n (Nat.le_refl _)]
        by_cases e : j = i
        · rw [e, yset_e, yset_e]
        · exact sa j hj ((wait w hw hqw).2.2 hiw j hj hb e)
      · rw [zfit_y, uc 152 (by decide) (by decide) (by decide)]
        exact ⟨yfit_cg (by rw [yset_e, yset_e]) nb, yfit_cg (by rw [yset_e, yset_e]) fun j j1 j2 => (nb j j1 j2).symm⟩
    refine ⟨⟨?_, t2⟩, fun a ha hy => ⟨fun v v0 v1 hf => ?_, ?_⟩⟩
    · rcases t4 with e | ⟨v, ⟨v0, v1⟩, -, e⟩
      · omega
      · rw [e, zcov_y]
        have nd := hGU.2.1 i (by omega) (by rw [zgn_N]; omega)
        have o := yow_0 h (B := U 152) (a := yset (U 160) i v) (i := i) nd.1 (by rw [yset_e]; exact ⟨v0, v1⟩)
        have hg0 : 0 ≤ yhg U n q (yset (U 160) i v) i := zsum_0 fun w hw => by
          by_cases c : q.testBit ((w : Int)).toNat = true ∧ (U 156 w).toNat.testBit ((i : Int)).toNat = true
          · rw [if_pos c]
            have c2 : (M 156 w).toNat.testBit i = true := by
              have := c.2
              rw [uc 156 (by decide) (by decide) (by decide)] at this
              exact this
            have t := tabs w hw c.1 _ (inS w hw c.1 c2 v v0 v1)
            rw [t.1]; exact t.2.1
          · rw [if_neg c]; exact Int.le_refl _
        unfold ycov
        omega
    · have cv := cov a ha hy v v0 v1
      rw [← cv.1]
      exact t3 v v0 v1 (cv.2.2 hf)
    · rcases t4 with e | ⟨v, hv, hf, e⟩
      · exact Or.inl e
      · have cv := cov a ha hy v hv.1 hv.2
        exact Or.inr ⟨v, hv, cv.2.1 hf, by rw [← cv.1]; exact e⟩
  clear t3 t4
  generalize hX : zup (zup W 157 (M 150 8 + y) t) 150 8 (M 150 8 + y + 1) = X
  have x1c : ∀ c : Nat, c ≠ 150 → c ≠ 157 → c ≠ 160 → X c = M c := fun c c0 c1 c2 => by
    rw [← hX, zup_c c0, zup_c c1, t1, zup_c c2, uc c c0 c1 c2]
  have x0c : ∀ z : Int, z ≠ 8 → X 150 z = M 150 z := fun z hz => by
    rw [← hX, zup_nk hz, zup_ne (by decide), t1, zup_ne (by decide), uz z hz]
  have x8 : X 150 8 = M 150 8 + y + 1 := by rw [← hX, zup_eq]
  have xe : X 157 (M 150 8 + y) = t := by rw [← hX, zup_ne (by decide), zup_eq]
  have x7 : ∀ z : Int, z ≠ M 150 8 + y → X 157 z = V 157 z := fun z hz => by
    rw [← hX, zup_ne (by decide), zup_nk hz, t1, zup_ne (by decide), u157]
  refine ⟨(7 ^ zsc S n n - (y + 1)).toNat, by omega, rfl, by show 0 ≤ y + 1; omega, by show y + 1 ≤ _; omega, x1c, x0c, by show X 150 8 = M 150 8 + (y + 1); omega, fun z hz => ?_, fun x x0 x1 => ?_⟩
  · show X 157 z = _
    rw [x7 z (by omega)]; exact f2 z hz
  · have x1 : x < y + 1 := x1
    show yT σ M n g q i S x (X 157 (M 150 8 + x))
    by_cases e : x = y
    · rw [e, xe]; exact hyT
    · rw [x7 _ (by omega)]; exact f3 x x0 (by omega)
end GRY
