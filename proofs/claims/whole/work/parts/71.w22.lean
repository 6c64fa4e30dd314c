/-! PURE PART, 22: feed -/
section FED
variable {σ M : zMem} {k b s t n x w tr S : Int}
/-- all that is kept hangs on cells 40 to 89 -/
theorem Cs.sig {σ' : zMem} (hC : Cs σ M) (ec : ∀ c : Nat, (40 ≤ c ∧ c < 60) ∨ (80 ≤ c ∧ c < 90) → σ' c = σ c) : Cs σ' M := by
  obtain ⟨h1, h2, h3, h4, h5⟩ := hC
  have e40 := ec 40 (by omega)
  have e43 := ec 43 (by omega)
  have e44 := ec 44 (by omega)
  have e45 := ec 45 (by omega)
  have e46 := ec 46 (by omega)
  have e47 := ec 47 (by omega)
  have e56 := ec 56 (by omega)
  have e58 := ec 58 (by omega)
  have e59 := ec 59 (by omega)
  have e80 := ec 80 (by omega)
  have e82 := ec 82 (by omega)
  have e83 := ec 83 (by omega)
  have e84 := ec 84 (by omega)
  have e85 := ec 85 (by omega)
  have e86 := ec 86 (by omega)
  have t0 : ∀ b t, ztg σ' b t = ztg σ b t := fun b t => by funext k; unfold ztg; rw [e82, e83, e84, e85]
  have t1 : ∀ b t, ztou σ' b t = ztou σ b t := fun b t => by unfold ztou; rw [t0, e80]
  have t2 : ∀ b (i : Nat), zwm σ' b i = zwm σ b i := by
    intro b i
    induction i with
    | zero => rfl
    | succ i ih => show zwst σ' b (zwm σ' b i) (ztou σ' b i) = zwst σ b (zwm σ b i) (ztou σ b i); rw [ih, t1]; unfold zwst; rw [e59, e46]
  have t3 : ∀ b (i : Nat), zck σ' b i = zck σ b i := by
    intro b i
    induction i with
    | zero => rfl
    | succ i ih => rw [zck_m, zck_m, ih, t2, e45, e59]
  have t4 : ∀ b, zcrk σ' b = zcrk σ b := fun b => t3 b 200
  have w1 : ∀ fg f (j : Nat), zwo σ' fg f j = zwo σ fg f j := by
    intro fg f j
    induction j with
    | zero => rfl
    | succ j ih => unfold zwo; rw [ih, e83, e84, e59]
  have w0 : ∀ fg n, zwor σ' fg n = zwor σ fg n := fun fg n => by unfold zwor; rw [w1]
  have w2 : ∀ fg n, zwro σ' fg n = zwro σ fg n := by
    intro fg n
    have c1 : zcla σ' fg n = zcla σ fg n := by
      funext k; unfold zcla zmee zat; rw [e83, e84, e47, e82, e59]
    unfold zwro zdry
    rw [c1, w0, e83, e84, e59]
  have w3 : ∀ fg m, zvalid σ' fg m ↔ zvalid σ fg m := fun fg m => by unfold zvalid; simp only [w2, e59]
  have w4 : ∀ fg m, zlfs σ' fg m = zlfs σ fg m := fun fg m => by unfold zlfs zsty; rw [e82, e83, e84]
  have o1 : ∀ s, zcst σ' s = zcst σ s := fun s => by unfold zcst; rw [e82, e80]
  have o2 : ∀ g s, zOrd σ' g s ↔ zOrd σ g s := fun g s => by unfold zOrd zpd; rw [e40, e46]
  have l1 : ∀ q F, zlw σ' q F = zlw σ q F := fun q F => by unfold zlw; rw [e56, e58]
  have l2 : ∀ n t tr, zfc σ' n t tr = zfc σ n t tr := fun n t tr => by funext i; unfold zfc; simp only [e44, e82, e85, e46, t2, e83, e45]
  have l3 : ∀ F p (m : Nat), zals σ' F p m = zals σ F p m := by
    intro F p m
    induction m with
    | zero => rfl
    | succ m ih => show (zals σ' F p m && _) = (zals σ F p m && _); rw [ih, l1]
  have l4 : ∀ F (m : Nat), zall σ' F m = zall σ F m := by
    intro F m
    induction m with
    | zero => rfl
    | succ m ih => rw [zall_s, zall_s, ih, l1]
  have l5 : zswb σ' = zswb σ := by funext q; unfold zswb; rw [e40]
  have r1 : ∀ n t, zrk σ' n t = zrk σ n t := fun n t => by unfold zrk zdry; simp only [e83, e59, t4, e82, e86, w0, l2, l3, l5, e40]
  have r2 : ∀ n t tr, zwhy σ' (σ' 86) n t tr = zwhy σ (σ 86) n t tr := fun n t tr => by unfold zwhy zdry; simp only [e83, e59, t4, e82, e86, w0, l2, l4, e40]
  have r3 : ∀ tr n, zspn σ' tr n = zspn σ tr n := fun tr n => by unfold zspn; rw [e84]; exact zsum_eq fun k _ => by rw [r2, e83]
  have r4 : ∀ tr, zspa σ' tr = zspa σ tr := fun tr => by unfold zspa; rw [e80]; exact zsum_eq fun k _ => r3 tr k
  refine ⟨?_, ?_, ?_, h4.c (fun c a b => rfl) ⟨by rw [e40], by rw [e40]⟩ (fun c hc => ec c (by omega)), ?_⟩
  · unfold Cw at h1 ⊢
    simp only [e40, t4, t1, t2]
    exact h1
  · unfold Cv at h2 ⊢
    simp only [e80, e84, e83, r1, r4]
    exact h2
  · unfold Cf zFP at h3 ⊢
    simp only [e80, w3, w4]
    exact h3
  · unfold Co zOP at h5 ⊢
    simp only [e40, o1, o2]
    exact h5
theorem zand_255 (a : Int) : zand a 255 = a % 256 := by
  show ((Int32.ofInt a).toBitVec &&& (Int32.ofInt (255 : Int)).toBitVec).toInt = _
  have e1 : (Int32.ofInt (255 : Int)).toBitVec.toNat = 2 ^ 8 - 1 := by decide +kernel
  have e0 : (Int32.ofInt a).toBitVec.toNat = (a % 4294967296).toNat := by
    show (BitVec.ofInt 32 a).toNat = _
    rw [BitVec.toNat_ofInt]; rfl
  have e : ((Int32.ofInt a).toBitVec &&& (Int32.ofInt (255 : Int)).toBitVec).toNat = (a % 4294967296).toNat % 2 ^ 8 := by
    rw [BitVec.toNat_and, e0, e1, Nat.and_two_pow_sub_one_eq_mod]
  rw [BitVec.toInt_eq_toNat_of_lt (by rw [e]; omega), e]
  omega
theorem zland_255 (a : Int) : zland a 255 = a % 256 := by
  show ((Int64.ofInt a).toBitVec &&& (Int64.ofInt (255 : Int)).toBitVec).toInt = _
  have e1 : (Int64.ofInt (255 : Int)).toBitVec.toNat = 2 ^ 8 - 1 := by decide +kernel
  have e0 : (Int64.ofInt a).toBitVec.toNat = (a % 18446744073709551616).toNat := by
    show (BitVec.ofInt 64 a).toNat = _
    rw [BitVec.toNat_ofInt]; rfl
  have e : ((Int64.ofInt a).toBitVec &&& (Int64.ofInt (255 : Int)).toBitVec).toNat = (a % 18446744073709551616).toNat % 2 ^ 8 := by
    rw [BitVec.toNat_and, e0, e1, Nat.and_two_pow_sub_one_eq_mod]
  rw [BitVec.toInt_eq_toNat_of_lt (by rw [e]; omega), e]
  omega
theorem zchr_b : ∀ s : Nat, s < 256 → zchr (s : Int) = s := by decide +kernel
theorem zand_7 : ∀ q : Nat, q < 24 → zand (q : Int) 7 = ((q % 8 : Nat) : Int) := by decide +kernel
/-- a sign comes behind the TAPE (cells c: signs; d, p: how many) -/
abbrev zgood (s : Int) : Prop := s = 10 ∨ (32 ≤ s ∧ s ≤ 126)
def zpsh (c d : Nat) (s : Int) (M : zMem) : zMem := if zgood s ∧ M d 1 < 1000 then zup (zup M c (M d 1) s) d 1 (M d 1 + 1) else M
def zfed (c d : Nat) : List Int → zMem → zMem
  | [], M => M
  | s :: l, M => zfed c d l (zpsh c d s M)
theorem zfed_app {c d : Nat} : ∀ (l l' : List Int) (M : zMem), zfed c d (l ++ l') M = zfed c d l' (zfed c d l M)
  | [], _, _ => rfl
  | _ :: l, l', M => zfed_app l l' _
theorem zpsh_n {c d a : Nat} (h : a ≠ c ∧ a ≠ d) : zpsh c d s M a = M a := by
  unfold zpsh; split
  · funext q; rw [zup_ne h.2, zup_ne h.1]
  · rfl
theorem zfed_n {c d a : Nat} (h : a ≠ c ∧ a ≠ d) : ∀ (l : List Int) (M : zMem), zfed c d l M a = M a
  | [], _ => rfl
  | s :: l, M => by show zfed c d l (zpsh c d s M) a = _; rw [zfed_n h l, zpsh_n h]
theorem zpsh_k {c d : Nat} (hcd : c ≠ d) (hk : k ≠ 1) : zpsh c d s M d k = M d k := by
  unfold zpsh; split
  · rw [zup_nk hk, zup_ne (Ne.symm hcd)]
  · rfl
theorem zfed_k {c d : Nat} (hcd : c ≠ d) (hk : k ≠ 1) : ∀ (l : List Int) (M : zMem), zfed c d l M d k = M d k
  | [], _ => rfl
  | s :: l, M => by show zfed c d l (zpsh c d s M) d k = _; rw [zfed_k hcd hk l, zpsh_k hcd hk]
theorem zpsh_1 {c d : Nat} (hcd : c ≠ d) : zpsh c d s M d 1 = if zgood s ∧ M d 1 < 1000 then M d 1 + 1 else M d 1 := by
  unfold zpsh; split
  · rw [zup_eq]
  · rfl
theorem zAg.psh {c d : Nat} (hA : zAg σ M) (hd : zSc d 1 = true) : zAg (zpsh c d s σ) (zpsh c d s M) := by
  unfold zpsh
  rw [hA d 1 hd]
  split
  · exact (hA.upd _ _ _).upd _ _ _
  · exact hA
theorem zAg.fed {c d : Nat} (hd : zSc d 1 = true) : ∀ (l : List Int) {σ M : zMem}, zAg σ M → zAg (zfed c d l σ) (zfed c d l M)
  | [], _, _, h => h
  | _ :: l, _, _, h => zAg.fed hd l (h.psh hd)
/-- what two tapes have in common -/
def zTR (X Y : zMem) : Prop := (Y 200 1 = X 20 1 ∧ 0 ≤ X 20 1 ∧ X 20 1 ≤ 1000) ∧ ∀ k : Int, 0 ≤ k → k < X 20 1 → Y 203 k = X 21 k ∧ zgood (X 21 k)
theorem zTR.psh {X Y : zMem} (h : zTR X Y) (s : Int) : zTR (zpsh 21 20 s X) (zpsh 203 200 s Y) := by
  obtain ⟨⟨h1, h2, h3⟩, h4⟩ := h
  unfold zpsh
  rw [h1]
  by_cases c : zgood s ∧ X 20 1 < 1000
  · rw [if_pos c, if_pos c]
    refine ⟨⟨by rw [zup_eq, zup_eq], by rw [zup_eq]; omega, by rw [zup_eq]; omega⟩, fun k k0 k1 => ?_⟩
    rw [zup_eq] at k1
    rw [zup_ne (show (203 : Nat) ≠ 200 by decide), zup_ne (show (21 : Nat) ≠ 20 by decide)]
    by_cases d : k = X 20 1
    · subst d; rw [zup_eq, zup_eq]; exact ⟨rfl, c.1⟩
    · rw [zup_nk d, zup_nk d]; exact h4 k k0 (by omega)
  · rw [if_neg c, if_neg c]; exact ⟨⟨h1, h2, h3⟩, h4⟩
theorem zTR.fed : ∀ (l : List Int) {X Y : zMem}, zTR X Y → zTR (zfed 21 20 l X) (zfed 203 200 l Y)
  | [], _, _, h => h
  | s :: l, _, _, h => zTR.fed l (h.psh s)
/-- the bytes of a long, highest first, from the i-th on -/
def zby (v : Int) (i : Nat) : Int := zlushr v (56 - 8 * (i : Int)) % 256
theorem zby_r {v : Int} {i : Nat} : 0 ≤ zby v i ∧ zby v i < 256 := by unfold zby; omega
theorem e_addBytes {v : Int} (h0 : 0 ≤ M 20 1 ∧ M 20 1 ≤ 1000) : fX8_addBytes v M = some (zfed 21 20 [zby v 0, zby v 1, zby v 2, zby v 3, zby v 4, zby v 5, zby v 6, zby v 7] M) := by
  have st : ∀ (i : Nat) (N : zMem), i < 8 → 0 ≤ N 20 1 ∧ N 20 1 ≤ 1000 → fX8_addBytes_l3 v (56 - 8 * (i : Int)) N = some (.inl (56 - 8 * ((i + 1 : Nat) : Int), zpsh 21 20 (zby v i) N)) ∧ (0 ≤ zpsh 21 20 (zby v i) N 20 1 ∧ zpsh 21 20 (zby v i) N 20 1 ≤ 1000) := by
    intro i N hi hN
    refine ⟨?_, by rw [zpsh_1 (by decide)]; split <;> omega⟩
    have br := zby_r (v := v) (i := i)
    have hc : zchr (zby v i) = zby v i := by
      have := zchr_b (zby v i).toNat (by omega)
      rwa [show (((zby v i).toNat : Nat) : Int) = zby v i by omega] at this
    unfold fX8_addBytes_l3 fX8_addBytes_j38 fX8_addBytes_j42 fX8_addBytes_j43
    rw [if_neg (by omega), zand_255, show zlushr v (56 - 8 * (i : Int)) % 256 = zby v i from rfl, zw_i (x := 56 - 8 * (i : Int) + -8) (by omega) (by omega), show 56 - 8 * (i : Int) + -8 = 56 - 8 * ((i + 1 : Nat) : Int) by omega]
    unfold zpsh
    generalize zby v i = q at br hc ⊢
    have ok : zgood q → (if (1 : Int) = 0 then some (Sum.inl (56 - 8 * ((i + 1 : Nat) : Int), N)) else if 1000 ≤ N 20 1 then some (Sum.inl (56 - 8 * ((i + 1 : Nat) : Int), N)) else zgd ((0 : Int) ≤ N 20 1 ∧ N 20 1 < 1000) (some (Sum.inl (56 - 8 * ((i + 1 : Nat) : Int), zup (zup N 21 (N 20 1) (zchr q)) 20 1 (zw (zup N 21 (N 20 1) (zchr q) 20 1 + 1)))))) = (some (Sum.inl (56 - 8 * ((i + 1 : Nat) : Int), if zgood q ∧ N 20 1 < 1000 then zup (zup N 21 (N 20 1) q) 20 1 (N 20 1 + 1) else N)) : Option ((Int × zMem) ⊕ (Int × zMem))) := by
      intro hg
      rw [if_neg (by decide)]
      by_cases c : 1000 ≤ N 20 1
      · rw [if_pos c, if_neg (fun q => by have := q.2; omega)]
      · rw [if_neg c, zgd_t ⟨hN.1, by omega⟩, if_pos ⟨hg, by omega⟩, hc, zup_ne (show (20 : Nat) ≠ 21 by decide), zw_i (by omega) (by omega)]
    by_cases c1 : q = 10
    · rw [if_pos c1]; exact ok (Or.inl c1)
    · rw [if_neg c1]
      by_cases c2 : q < 32
      · rw [if_pos c2, if_pos rfl, if_neg (fun g => by have := g.1; omega)]
      · rw [if_neg c2]
        by_cases c3 : 126 < q
        · rw [if_pos c3, if_pos rfl, if_neg (fun g => by have := g.1; omega)]
        · rw [if_neg c3]; exact ok (Or.inr ⟨by omega, by omega⟩)
  obtain ⟨s0, b0⟩ := st 0 M (by omega) h0
  obtain ⟨s1, b1⟩ := st 1 _ (by omega) b0
  obtain ⟨s2, b2⟩ := st 2 _ (by omega) b1
  obtain ⟨s3, b3⟩ := st 3 _ (by omega) b2
  obtain ⟨s4, b4⟩ := st 4 _ (by omega) b3
  obtain ⟨s5, b5⟩ := st 5 _ (by omega) b4
  obtain ⟨s6, b6⟩ := st 6 _ (by omega) b5
  obtain ⟨s7, b7⟩ := st 7 _ (by omega) b6
  unfold fX8_addBytes
  have key : zit (fun s4 : Int × zMem => fX8_addBytes_l3 v (s4.1) (s4.2)) (56, M) = some (56 - 8 * ((8 : Nat) : Int), zfed 21 20 [zby v 0, zby v 1, zby v 2, zby v 3, zby v 4, zby v 5, zby v 6, zby v 7] M) := by
    refine (zit_l (f := fun s4 : Int × zMem => fX8_addBytes_l3 v (s4.1) (s4.2)) (s := (56 - 8 * ((0 : Nat) : Int), M)) s0).trans ?_
    refine (zit_l (f := fun s4 : Int × zMem => fX8_addBytes_l3 v (s4.1) (s4.2)) s1).trans ?_
    refine (zit_l (f := fun s4 : Int × zMem => fX8_addBytes_l3 v (s4.1) (s4.2)) s2).trans ?_
    refine (zit_l (f := fun s4 : Int × zMem => fX8_addBytes_l3 v (s4.1) (s4.2)) s3).trans ?_
    refine (zit_l (f := fun s4 : Int × zMem => fX8_addBytes_l3 v (s4.1) (s4.2)) s4).trans ?_
    refine (zit_l (f := fun s4 : Int × zMem => fX8_addBytes_l3 v (s4.1) (s4.2)) s5).trans ?_
    refine (zit_l (f := fun s4 : Int × zMem => fX8_addBytes_l3 v (s4.1) (s4.2)) s6).trans ?_
    refine (zit_l (f := fun s4 : Int × zMem => fX8_addBytes_l3 v (s4.1) (s4.2)) s7).trans ?_
    refine zit_r (f := fun s4 : Int × zMem => fX8_addBytes_l3 v (s4.1) (s4.2)) ?_
    show fX8_addBytes_l3 v (56 - 8 * ((8 : Nat) : Int)) _ = _
    unfold fX8_addBytes_l3
    rw [if_pos (by decide)]
    rfl
  rw [key]; rfl
end FED
