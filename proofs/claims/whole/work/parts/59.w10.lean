/-! PURE PART, 10: the state carried over: copies, changes -/
theorem zseg_c {f g : Int → Int} : ∀ {n : Nat} {a b : Int}, (∀ i : Nat, i < n → f (a + i) = g (b + i)) → zseg f a n = zseg g b n
  | 0, _, _, _ => rfl
  | n + 1, a, b, h => by
    unfold zseg
    have h0 := h 0 (by omega)
    simp only [Int.natCast_zero, Int.add_zero] at h0
    rw [h0, zseg_c (n := n) (a := a + 1) (b := b + 1) (fun i hi => ?_)]
    have := h (i + 1) (by omega)
    rw [show a + 1 + (i : Int) = a + ((i + 1 : Nat) : Int) by omega, show b + 1 + (i : Int) = b + ((i + 1 : Nat) : Int) by omega]
    exact this
/-- how long a row of a Setup is -/
def zlen (i : Nat) : Int := if i ≤ 7 then 12 else if i ≤ 13 then 8 else if i = 16 then 1000 else if i = 18 then 4 else 11
theorem zSu_cp {o o' : Nat} {j j' : Int} {σ σ' : zMem} (h : zSu o j σ)
    (H : σ' o' 0 = σ o 0 ∧ σ' o' 1 = σ o 1 ∧ σ' o' 7 = σ o 7 ∧ σ' o' 13 = σ o 13 ∧ σ' o' 14 = σ o 14)
    (Ha : ∀ (i : Nat) (k : Int), 3 ≤ i → i ≤ 19 → i ≠ 8 → i ≠ 14 → i ≠ 15 → i ≠ 17 → 0 ≤ k → k < zlen i → σ' (o' + i) k = σ (o + i) k)
    (H1 : ∀ c : Nat, 211 ≤ c → c < 214 → σ' c j' = σ c j)
    (H2 : ∀ (c : Nat) (k : Int), 215 ≤ c → c < 220 → 0 ≤ k → k < 12 → σ' c (12 * j' + k) = σ c (12 * j + k))
    (H3 : ∀ (c : Nat) (k : Int), 220 ≤ c → c < 225 → 0 ≤ k → k < 8 → σ' c (8 * j' + k) = σ c (8 * j + k))
    (H4 : ∀ k : Int, 0 ≤ k → k < 11 → σ' 225 (11 * j' + k) = σ 225 (11 * j + k))
    (H5 : ∀ (c : Nat) (k : Int), 227 ≤ c → c < 229 → 0 ≤ k → k < 4 → k < σ o 13 → σ' c (4 * j' + k) = σ c (4 * j + k) + 1000 * (j' - j))
    (H6 : ∀ k : Int, 0 ≤ k → k < 1000 → σ' 229 (1000 * j' + k) = σ 229 (1000 * j + k)) : zSu o' j' σ' := by
  obtain ⟨⟨⟨a1, a2, a3⟩, ⟨b1, b2, b3⟩, ⟨c1, c2, c3⟩⟩, hB, hP, hS, hpl, ⟨hs1, hs2⟩⟩ := h
  obtain ⟨e0, e1, e7, e13, e14⟩ := H
  unfold zSu
  rw [H1 211 (by omega) (by omega), H1 212 (by omega) (by omega), H1 213 (by omega) (by omega), e0, e1, e7, e13]
  refine ⟨⟨⟨a1, a2, a3⟩, ⟨b1, b2, b3⟩, ⟨c1, c2, c3⟩⟩, fun k k0 k1 => ?_, fun k k0 k1 => ?_, fun k k0 k1 => ?_, ?_, ?_⟩
  · have := hB k k0 k1
    unfold zBo at this ⊢
    rw [H2 215 k (by omega) (by omega) k0 (by omega), H2 216 k (by omega) (by omega) k0 (by omega), H2 217 k (by omega) (by omega) k0 (by omega), H2 218 k (by omega) (by omega) k0 (by omega), H2 219 k (by omega) (by omega) k0 (by omega), Ha 3 k (by omega) (by omega) (by omega) (by omega) (by omega) (by omega) k0 (show k < 12 by omega), Ha 4 k (by omega) (by omega) (by omega) (by omega) (by omega) (by omega) k0 (show k < 12 by omega), Ha 5 k (by omega) (by omega) (by omega) (by omega) (by omega) (by omega) k0 (show k < 12 by omega), Ha 6 k (by omega) (by omega) (by omega) (by omega) (by omega) (by omega) k0 (show k < 12 by omega), Ha 7 k (by omega) (by omega) (by omega) (by omega) (by omega) (by omega) k0 (show k < 12 by omega)]
    exact this
  · have := hP k k0 k1
    unfold zPa at this ⊢
    rw [H3 220 k (by omega) (by omega) k0 (by omega), H3 221 k (by omega) (by omega) k0 (by omega), H3 222 k (by omega) (by omega) k0 (by omega), H3 223 k (by omega) (by omega) k0 (by omega), H3 224 k (by omega) (by omega) k0 (by omega), Ha 9 k (by omega) (by omega) (by omega) (by omega) (by omega) (by omega) k0 (show k < 8 by omega), Ha 10 k (by omega) (by omega) (by omega) (by omega) (by omega) (by omega) k0 (show k < 8 by omega), Ha 11 k (by omega) (by omega) (by omega) (by omega) (by omega) (by omega) k0 (show k < 8 by omega), Ha 12 k (by omega) (by omega) (by omega) (by omega) (by omega) (by omega) k0 (show k < 8 by omega), Ha 13 k (by omega) (by omega) (by omega) (by omega) (by omega) (by omega) k0 (show k < 8 by omega), e0]
    exact this
  · rw [H4 k k0 k1, Ha 19 k (by omega) (by omega) (by omega) (by omega) (by omega) (by omega) k0 k1]
    exact hS k k0 k1
  · rw [hpl]
    refine (zsum_eq fun k hk => ?_).symm
    rw [Ha 7 k (by omega) (by omega) (by omega) (by omega) (by omega) (by omega) (by omega) (show (k : Int) < 12 by omega)]
  · unfold zSp
    rw [e13, e14]
    refine ⟨hs1, fun k hk => ?_⟩
    obtain ⟨⟨p1, p2, p3⟩, ⟨q1, q2, q3⟩, hx⟩ := hs2 k hk
    have ek : σ' (o' + 18) k = σ (o + 18) k := Ha 18 k (by omega) (by omega) (by omega) (by omega) (by omega) (by omega) (by omega) (show (k : Int) < 4 by omega)
    have ec : zca (σ' (o' + 18)) k = zca (σ (o + 18)) k := by
      unfold zca
      by_cases c : k = 0
      · rw [if_pos c, if_pos c]
      · rw [if_neg c, if_neg c]; exact Ha 18 _ (by omega) (by omega) (by omega) (by omega) (by omega) (by omega) (by omega) (show (k : Int) - 1 < 4 by omega)
    have f1 := H5 227 k (by omega) (by omega) (by omega) (by omega) hk
    have f2 := H5 228 k (by omega) (by omega) (by omega) (by omega) hk
    have s1 : zseg (σ' (o' + 16)) (zca (σ (o + 18)) k) (σ (o + 18) k - zca (σ (o + 18)) k).toNat = zseg (σ (o + 16)) (zca (σ (o + 18)) k) (σ (o + 18) k - zca (σ (o + 18)) k).toNat := zseg_c fun i hi => Ha 16 _ (by omega) (by omega) (by omega) (by omega) (by omega) (by omega) (by omega) (show _ < (1000 : Int) by omega)
    have s2 : zseg (σ' 229) (σ 227 (4 * j + k) + 1000 * (j' - j)) (σ 228 (4 * j + k) - σ 227 (4 * j + k)).toNat = zseg (σ 229) (σ 227 (4 * j + k)) (σ 228 (4 * j + k) - σ 227 (4 * j + k)).toNat := zseg_c fun i hi => by
      have := H6 (σ 227 (4 * j + k) + i - 1000 * j) (by omega) (by omega)
      rw [show 1000 * j' + (σ 227 (4 * j + k) + i - 1000 * j) = σ 227 (4 * j + k) + 1000 * (j' - j) + i by omega, show 1000 * j + (σ 227 (4 * j + k) + i - 1000 * j) = σ 227 (4 * j + k) + i by omega] at this
      exact this
    rw [ek, ec, f1, f2, s1, show σ 228 (4 * j + k) + 1000 * (j' - j) - (σ 227 (4 * j + k) + 1000 * (j' - j)) = σ 228 (4 * j + k) - σ 227 (4 * j + k) by omega, s2]
    exact ⟨⟨p1, p2, p3⟩, ⟨by omega, by omega, by omega⟩, hx⟩
theorem zPi_cp {o o' : Nat} {j j' nn nn' : Int} {so so' : Nat} {σ σ' : zMem} (h : zPi o j nn so σ) (hn : nn' = nn) (H0 : σ' o' 0 = σ o 0) (Hs : σ' so' 0 = σ so 0 ∧ σ' (so' + 19) 1 = σ (so + 19) 1) (H6 : ∀ b : Int, 0 ≤ b → b < σ so 0 → σ' (so' + 6) b = σ (so + 6) b)
    (Ha : ∀ (i : Nat) (k : Int), 2 ≤ i → i ≤ 6 → 0 ≤ k → k < 24 → σ' (o' + i) k = σ (o + i) k)
    (Hm : ∀ (c : Nat) (k : Int), 245 ≤ c → c < 250 → 0 ≤ k → k < 24 → σ' c (24 * j' + k) = σ c (24 * j + k)) : zPi o' j' nn' so' σ' := by
  obtain ⟨⟨a1, a2, a3⟩, hN, hO⟩ := h
  unfold zPi
  rw [H0, hn]
  refine ⟨⟨a1, a2, a3⟩, fun k k0 k1 => ?_, fun k k0 k1 => ?_⟩
  · have := hN k k0 k1
    unfold zNo at this ⊢
    rw [Hm 245 k (by omega) (by omega) k0 (by omega), Hm 246 k (by omega) (by omega) k0 (by omega), Hm 247 k (by omega) (by omega) k0 (by omega), Hm 248 k (by omega) (by omega) k0 (by omega), Hm 249 k (by omega) (by omega) k0 (by omega), Ha 2 k (by omega) (by omega) k0 (by omega), Ha 3 k (by omega) (by omega) k0 (by omega), Ha 4 k (by omega) (by omega) k0 (by omega), Ha 5 k (by omega) (by omega) k0 (by omega), Ha 6 k (by omega) (by omega) k0 (by omega), Hs.1, Hs.2, H6 _ this.1.2.1 this.1.2.2.1]
    exact this
  · rw [Ha 3 k (by omega) (by omega) k0 (by omega), Ha 3 (k + 1) (by omega) (by omega) (by omega) (by omega)]
    exact hO k k0 k1
/-- the model's cells of row j -/
def zrow (j : Int) (c : Nat) (k : Int) : Prop := (211 ≤ c ∧ c < 214 ∧ k = j) ∨ (215 ≤ c ∧ c < 220 ∧ 12 * j ≤ k ∧ k < 12 * j + 12) ∨ (220 ≤ c ∧ c < 225 ∧ 8 * j ≤ k ∧ k < 8 * j + 8) ∨ (c = 225 ∧ 11 * j ≤ k ∧ k < 11 * j + 11) ∨ (227 ≤ c ∧ c < 229 ∧ 4 * j ≤ k ∧ k < 4 * j + 4) ∨ (c = 229 ∧ 1000 * j ≤ k ∧ k < 1000 * j + 1000)
theorem zSu_fr {o : Nat} {j : Int} {σ σ' : zMem} (h : zSu o j σ) (Ho : ∀ c : Nat, o ≤ c → c < o + 20 → σ' c = σ c) (Hr : ∀ (c : Nat) (k : Int), zrow j c k → σ' c k = σ c k) : zSu o j σ' := by
  refine zSu_cp h ⟨?_, ?_, ?_, ?_, ?_⟩ ?_ ?_ ?_ ?_ ?_ ?_ ?_
  · rw [Ho o (by omega) (by omega)]
  · rw [Ho o (by omega) (by omega)]
  · rw [Ho o (by omega) (by omega)]
  · rw [Ho o (by omega) (by omega)]
  · rw [Ho o (by omega) (by omega)]
  · intro i k _ _ _ _ _ _ _ _; rw [Ho (o + i) (by omega) (by omega)]
  · intro c c0 c1; exact Hr c j (Or.inl ⟨c0, c1, rfl⟩)
  · intro c k c0 c1 k0 k1; exact Hr c _ (Or.inr (Or.inl ⟨c0, c1, by omega, by omega⟩))
  · intro c k c0 c1 k0 k1; exact Hr c _ (Or.inr (Or.inr (Or.inl ⟨c0, c1, by omega, by omega⟩)))
  · intro k k0 k1; exact Hr 225 _ (Or.inr (Or.inr (Or.inr (Or.inl ⟨rfl, by omega, by omega⟩))))
  · intro c k c0 c1 k0 k1 _; rw [Hr c _ (Or.inr (Or.inr (Or.inr (Or.inr (Or.inl ⟨c0, c1, by omega, by omega⟩)))))]; omega
  · intro k k0 k1; exact Hr 229 _ (Or.inr (Or.inr (Or.inr (Or.inr (Or.inr ⟨rfl, by omega, by omega⟩)))))
theorem zPi_fr {o : Nat} {j nn : Int} {so : Nat} {σ σ' : zMem} (h : zPi o j nn so σ) (Ho : ∀ c : Nat, o ≤ c → c < o + 7 → σ' c = σ c) (Hs : ∀ c : Nat, so ≤ c → c < so + 20 → σ' c = σ c) (Hm : ∀ (c : Nat) (k : Int), 245 ≤ c → c < 250 → 24 * j ≤ k → k < 24 * j + 24 → σ' c k = σ c k) : zPi o j nn so σ' :=
  zPi_cp h rfl (by rw [Ho o (by omega) (by omega)]) ⟨by rw [Hs so (by omega) (by omega)], by rw [Hs (so + 19) (by omega) (by omega)]⟩ (fun b _ _ => by rw [Hs (so + 6) (by omega) (by omega)]) (fun i k _ _ _ _ => by rw [Ho (o + i) (by omega) (by omega)]) (fun c k c0 c1 k0 k1 => Hm c _ c0 c1 (by omega) (by omega))
theorem zMk_fr {σ σ' : zMem} (h : zMk σ) (H : σ' 6 = σ 6 ∧ σ' 7 = σ 7 ∧ σ' 262 = σ 262 ∧ σ' 263 = σ 263) (Ho : ∀ c : Nat, 400 ≤ c → c < 600 → σ' c = σ c) (Hr : ∀ (j : Int) (c : Nat) (k : Int), 2 ≤ j → zrow j c k → σ' c k = σ c k) (Hm : ∀ (c : Nat) (k : Int), 245 ≤ c → c < 250 → 24 ≤ k → σ' c k = σ c k) : zMk σ' := by
  intro m hm
  rw [H.1, H.2.1, H.2.2.1, H.2.2.2]
  rcases h m hm with g | ⟨g1, g2, g3, g4, g5⟩
  · exact Or.inl g
  · exact Or.inr ⟨g1, g2, g3, zSu_fr g4 (fun c c0 c1 => Ho c (by omega) (by omega)) (fun c k hk => Hr (2 + m) c k (by omega) hk), zPi_fr g5 (fun c c0 c1 => Ho c (by omega) (by omega)) (fun c c0 c1 => Ho c (by omega) (by omega)) (fun c k c0 c1 k0 k1 => Hm c k c0 c1 (by omega))⟩
theorem zTa_fr {σ σ' : zMem} (h : zTa σ) (H : σ' 200 1 = σ 200 1 ∧ σ' 20 1 = σ 20 1 ∧ σ' 21 = σ 21 ∧ σ' 203 = σ 203) : zTa σ' := by
  unfold zTa; rw [H.1, H.2.1, H.2.2.1, H.2.2.2]; exact h
theorem zSt0_fr {σ σ' : zMem} (h : zSt0 σ) (H : ∀ c : Nat, 1000 ≤ c → c < 1003 → σ' c = σ c) : zSt0 σ' := by
  unfold zSt0; rw [H 1000 (by omega) (by omega), H 1001 (by omega) (by omega), H 1002 (by omega) (by omega)]; exact h
theorem zAg.upd {σ M : zMem} (h : zAg σ M) (c : Nat) (k v : Int) : zAg (zup σ c k v) (zup M c k v) := fun a b hab => by
  unfold zup
  split
  · rfl
  · exact h a b hab
/-- kept grindings hang on tones, sizes, pairs and grind alone -/
theorem zGP_c {σ σ' : zMem} {gl : Int} {st : Int → Int} (h : zGP σ gl st) (H : σ' 40 0 = σ 40 0 ∧ σ' 40 7 = σ 40 7) (Hc : ∀ c : Nat, c = 43 ∨ c = 44 ∨ (49 ≤ c ∧ c < 54) ∨ c = 59 → σ' c = σ c) : zGP σ' gl st := by
  have p : ∀ (b : Int) (k : Nat), zpr σ' b k = zpr σ b k := by
    intro b k
    induction k with
    | zero => rfl
    | succ k ih => show (zpr σ' b k || _ || _) = (zpr σ b k || _ || _); rw [ih, Hc 49 (by omega), Hc 51 (by omega)]
  have pr : ∀ b : Int, zprd σ' b ↔ zprd σ b := fun b => by unfold zprd; rw [p, H.2]
  have np : znpr σ' = znpr σ := by
    unfold znpr; rw [H.1]; exact zsum_eq fun k _ => by simp only [pr]
  have gt : ∀ d b, zgt σ' d b = zgt σ d b := fun d b => by unfold zgt; rw [Hc 43 (by omega), Hc 59 (by omega)]
  have sp : ∀ k a c, zspd σ' k a c = zspd σ k a c := fun k a c => by unfold zspd; rw [Hc 52 (by omega), Hc 50 (by omega)]
  have ok : ∀ d, zgOK σ' d ↔ zgOK σ d := fun d => by
    unfold zgOK
    simp only [pr, gt, sp, H.1, H.2, Hc 49 (by omega), Hc 51 (by omega), Hc 53 (by omega)]
  have gl' : ∀ d, zgls σ' d = zgls σ d := fun d => by unfold zgls; rw [H.1, Hc 44 (by omega)]
  unfold zGP
  simp only [np, ok, gl', H.1]
  exact h
theorem Cg.c {σ σ' M N : zMem} (h : Cg σ M) (hM : ∀ c : Nat, 150 ≤ c → c < 170 → N c = M c) (H : σ' 40 0 = σ 40 0 ∧ σ' 40 7 = σ 40 7) (Hc : ∀ c : Nat, c = 43 ∨ c = 44 ∨ (49 ≤ c ∧ c < 54) ∨ c = 59 → σ' c = σ c) : Cg σ' N := by
  have e : zstp N = zstp M := funext fun b => by unfold zstp; rw [hM 150 (by omega) (by omega), hM 153 (by omega) (by omega)]
  unfold Cg
  rw [hM 150 (by omega) (by omega), hM 153 (by omega) (by omega), e, H.1]
  intro hk
  obtain ⟨h1, h2, h3⟩ := h hk
  exact ⟨h1, h2, zGP_c h3 H Hc⟩
