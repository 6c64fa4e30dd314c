/-! PURE PART, 9: what is kept, the invariant; the first calls -/
/-- a fingering of the first m NOTES in which none is WRONG -/
def zvalid (σ : zMem) (fg : Int → Int) (m : Nat) : Prop := ∀ k : Nat, k < m → 0 ≤ fg k ∧ fg k < 2 * σ 59 1 ∧ zwro σ fg k = 0
def zlfs (σ : zMem) (fg : Int → Int) (m : Nat) : Int := zsum (fun k => if zsty σ fg k then 0 else 1) m
def zlex (f g : Int → Int) (n : Nat) : Prop := (∀ k : Nat, k < n → f k = g k) ∨ ∃ k : Nat, k < n ∧ (∀ j : Nat, j < k → f j = g j) ∧ f k < g k
theorem zlex_anti {f g : Int → Int} {n : Nat} (h : zlex f g n) (h' : zlex g f n) : ∀ k : Nat, k < n → f k = g k := by
  rcases h with h | ⟨a, a1, a2, a3⟩
  · exact h
  rcases h' with h' | ⟨b, b1, b2, b3⟩
  · exact fun k hk => (h' k hk).symm
  · exfalso
    rcases Nat.lt_trichotomy a b with c | c | c
    · have := b2 a c; omega
    · subst c; omega
    · have := a2 b c; omega
/-- FEWEST and FAR: what they must be -/
def zFP (σ : zMem) (fe fa : Int) (kp : Int → Int) : Prop :=
  ((0 ≤ fa ∧ fa ≤ σ 80 0 ∧ ∃ fg : Int → Int, zvalid σ fg fa.toNat) ∧ ∀ (fg : Int → Int) (m : Nat), (m : Int) ≤ σ 80 0 → zvalid σ fg m → (m : Int) ≤ fa) ∧
  ((fe = -1 ∧ ∀ fg : Int → Int, ¬ zvalid σ fg (σ 80 0).toNat) ∨ (zvalid σ kp (σ 80 0).toNat ∧ fe = zlfs σ kp (σ 80 0).toNat ∧ ∀ fg : Int → Int, zvalid σ fg (σ 80 0).toNat → fe < zlfs σ fg (σ 80 0).toNat ∨ (fe = zlfs σ fg (σ 80 0).toNat ∧ zlex kp fg (σ 80 0).toNat)))
theorem zFP_eq {σ : zMem} {fe fa fe' fa' : Int} {kp kp' : Int → Int} (h : zFP σ fe fa kp) (h' : zFP σ fe' fa' kp') : fe = fe' ∧ fa = fa' ∧ (fe ≠ -1 → ∀ k : Nat, (k : Int) < σ 80 0 → kp k = kp' k) := by
  obtain ⟨⟨⟨h1, h2, fg, h3⟩, h4⟩, h5⟩ := h
  obtain ⟨⟨⟨g1, g2, fg', g3⟩, g4⟩, g5⟩ := h'
  have ha : fa = fa' := by
    have a1 := h4 fg' fa'.toNat (by omega) g3
    have a2 := g4 fg fa.toNat (by omega) h3
    omega
  rcases h5 with ⟨e1, e2⟩ | ⟨v1, v2, v3⟩
  · rcases g5 with ⟨e1', e2'⟩ | ⟨v1', v2', v3'⟩
    · exact ⟨by omega, ha, fun q => absurd e1 q⟩
    · exact absurd v1' (e2 _)
  · rcases g5 with ⟨e1', e2'⟩ | ⟨v1', v2', v3'⟩
    · exact absurd v1 (e2' _)
    · have b1 := v3 _ v1'
      have b2 := v3' _ v1
      refine ⟨by omega, ha, fun _ k hk => ?_⟩
      have c1 : zlex kp kp' (σ 80 0).toNat := by
        rcases b1 with b1 | b1
        · omega
        · exact b1.2
      have c2 : zlex kp' kp (σ 80 0).toNat := by
        rcases b2 with b2 | b2
        · omega
        · exact b2.2
      exact zlex_anti c1 c2 k (by omega)
abbrev zpd (σ : zMem) (b : Int) : Prop := 0 ≤ b ∧ b < σ 40 0 ∧ σ 46 b ≠ 3
/-- an order of the BOWLS with PLACES, and where each of them is in it -/
def zOrd (σ : zMem) (g s : Int → Int) : Prop := (∀ p : Int, 0 ≤ p → p < σ 40 1 → zpd σ (g p) ∧ s (g p) = p) ∧ ∀ b : Int, zpd σ b → 0 ≤ s b ∧ s b < σ 40 1 ∧ g (s b) = b
def zcst (σ : zMem) (s : Int → Int) : Int := zsum (fun n => zabs (s (σ 82 (n + 1)) - s (σ 82 n))) ((σ 80 0).toNat - 1)
def zOP (σ : zMem) (le : Int) (fo : Int → Int) : Prop := ∃ s : Int → Int, zOrd σ fo s ∧ le = zcst σ s ∧ ∀ g t : Int → Int, zOrd σ g t → le < zcst σ t ∨ (le = zcst σ t ∧ zlex fo g (σ 40 1).toNat)
theorem zOP_eq {σ : zMem} {le le' : Int} {fo fo' : Int → Int} (h : zOP σ le fo) (h' : zOP σ le' fo') : le = le' ∧ ∀ k : Nat, (k : Int) < σ 40 1 → fo k = fo' k := by
  obtain ⟨s, h1, h2, h3⟩ := h
  obtain ⟨s', g1, g2, g3⟩ := h'
  have b1 := h3 _ _ g1
  have b2 := g3 _ _ h1
  refine ⟨by omega, fun k hk => ?_⟩
  have c1 : zlex fo fo' (σ 40 1).toNat := by
    rcases b1 with b1 | b1
    · omega
    · exact b1.2
  have c2 : zlex fo' fo (σ 40 1).toNat := by
    rcases b2 with b2 | b2
    · omega
    · exact b2.2
  exact zlex_anti c1 c2 k (by omega)
/-- some pair among the first m has BOWL b -/
def zpr (σ : zMem) (b : Int) : Nat → Bool
  | 0 => false
  | k + 1 => zpr σ b k || decide (σ 49 k = b) || decide (σ 51 k = b)
abbrev zprd (σ : zMem) (b : Int) : Prop := zpr σ b (σ 40 7).toNat = true
def znpr (σ : zMem) : Int := zsum (fun b => if zprd σ b then 1 else 0) (σ 40 0).toNat
def zgt (σ : zMem) (d : Int → Int) (b : Int) : Int := σ 43 b + d b * σ 59 10
/-- steps by which the BOWLS may be GROUND -/
def zgOK (σ : zMem) (d : Int → Int) : Prop := (∀ b : Int, 0 ≤ b → b < σ 40 0 → ((zprd σ b ∧ -3 ≤ d b ∧ d b ≤ 3) ∨ (¬ zprd σ b ∧ d b = 0)) ∧ 1 ≤ zgt σ d b ∧ zgt σ d b ≤ 9999) ∧ ∀ k : Int, 0 ≤ k → k < σ 40 7 → zspd σ k (zgt σ d (σ 49 k)) (zgt σ d (σ 51 k)) ≤ σ 53 k
def zgls (σ : zMem) (d : Int → Int) : Int := zsum (fun b => zabs (d b) * σ 44 b) (σ 40 0).toNat
def zGP (σ : zMem) (gl : Int) (st : Int → Int) : Prop := (gl = -1 ∧ (8 < znpr σ ∨ ∀ d : Int → Int, ¬ zgOK σ d)) ∨ (znpr σ ≤ 8 ∧ zgOK σ st ∧ gl = zgls σ st ∧ ∀ d : Int → Int, zgOK σ d → gl < zgls σ d ∨ (gl = zgls σ d ∧ zlex st d (σ 40 0).toNat))
theorem zgls_0 {σ : zMem} (h : St σ) (d : Int → Int) : 0 ≤ zgls σ d := zsum_0 fun k hk => by
  have := r_sz h (k := k) (by omega) (by omega)
  exact Int.mul_nonneg zabs_n (by omega)
theorem zGP_eq {σ : zMem} (h0 : St σ) {gl gl' : Int} {st st' : Int → Int} (h : zGP σ gl st) (h' : zGP σ gl' st') : gl = gl' ∧ (gl ≠ -1 → ∀ k : Nat, (k : Int) < σ 40 0 → st k = st' k) := by
  rcases h with ⟨e1, e2⟩ | ⟨n1, v1, v2, v3⟩
  · rcases h' with ⟨e1', e2'⟩ | ⟨n1', v1', v2', v3'⟩
    · exact ⟨by omega, fun q => absurd e1 q⟩
    · rcases e2 with e2 | e2
      · omega
      · exact absurd v1' (e2 _)
  · rcases h' with ⟨e1', e2'⟩ | ⟨n1', v1', v2', v3'⟩
    · rcases e2' with e2' | e2'
      · omega
      · exact absurd v1 (e2' _)
    · have b1 := v3 _ v1'
      have b2 := v3' _ v1
      refine ⟨by omega, fun _ k hk => ?_⟩
      have c1 : zlex st st' (σ 40 0).toNat := by
        rcases b1 with b1 | b1
        · omega
        · exact b1.2
      have c2 : zlex st' st (σ 40 0).toNat := by
        rcases b2 with b2 | b2
        · omega
        · exact b2.2
      exact zlex_anti c1 c2 k (by omega)
/-- laws asked by a mask -/
def zals (σ : zMem) (F : Int → Int) (p : Nat → Bool) : Nat → Bool
  | 0 => true
  | k + 1 => zals σ F p k && (!p k || decide (zlw σ k F ≠ 0))
def zswb (σ : zMem) (k : Nat) : Bool := decide (σ 40 14 / 2 ^ k % 2 = 1)
/-- the reason as the class keeps it: 5 where a law without speed is broken -/
def zrk (σ : zMem) (n t : Int) : Int := if t - σ 83 n < σ 59 3 then 1 else if zcrk σ (σ 82 n) ≠ -1 ∧ zcrk σ (σ 82 n) ≤ t then 2 else if zdry σ (σ 86) n t then 3 else if zals σ (zfc σ n t (σ 59 0)) (fun k => !zswb σ k) (σ 40 13).toNat = false then 5 else if zals σ (zfc σ n t (σ 59 0)) (zswb σ) (σ 40 13).toNat = false then 4 else 0
/-- in how many BEATS a NOTE speaks at a treadle; all NOTES together -/
def zspn (σ : zMem) (tr n : Int) : Int := zsum (fun a => if zwhy σ (σ 86) n (σ 83 n + a) tr = 0 then 1 else 0) (σ 84 n).toNat
def zspa (σ : zMem) (tr : Int) : Int := zsum (zspn σ tr) (σ 80 0).toNat
def Cv (σ M : zMem) : Prop := M 110 7 ≠ 0 → M 90 5 ≠ 0 ∧ (∀ n a : Int, 0 ≤ n → n < σ 80 0 → 0 ≤ a → a < σ 84 n → M 116 (n * 40 + a) = -1 ∨ M 116 (n * 40 + a) = zrk σ n (σ 83 n + a)) ∧ ∀ tr : Int, 1 ≤ tr → tr ≤ 99 → M 117 tr = -1 ∨ M 117 tr = zspa σ tr
def Cf (σ M : zMem) : Prop := M 130 10 ≠ 0 → σ 80 0 ≤ 8 → 0 ≤ M 130 8 ∧ zFP σ (if 1000 ≤ M 130 8 then -1 else M 130 8) (M 130 9) (M 135)
def zwgt (n : Int) : Int := if n = 0 then 823543 else if n = 1 then 117649 else if n = 2 then 16807 else if n = 3 then 2401 else if n = 4 then 343 else if n = 5 then 49 else if n = 6 then 7 else 1
def zstp (M : zMem) (b : Int) : Int := if M 153 b = -1 then 0 else M 150 12 / zwgt (M 153 b) % 7 - 3
def Cg (σ M : zMem) : Prop := M 150 13 ≠ 0 → (0 ≤ M 150 12 ∧ M 150 12 ≤ 1000000000000000) ∧ (∀ b : Int, 0 ≤ b → b < σ 40 0 → -1 ≤ M 153 b ∧ M 153 b < 8) ∧ zGP σ (if M 150 12 < 1000000000000000 then M 150 12 / 5764801 else -1) (zstp M)
def Co (σ M : zMem) : Prop := M 170 7 ≠ 0 → zOP σ (M 176 0) (M 177)
def Cs (σ M : zMem) : Prop := Cw σ M ∧ Cv σ M ∧ Cf σ M ∧ Cg σ M ∧ Co σ M
/-- what is laid is as P has it -/
def zPk (P σ : zMem) : Prop := ∀ q : Int, σ 6 q = P 6 q ∧ σ 7 q = P 7 q
def Inv (P M : zMem) : Prop := ∃ σ : zMem, zAg σ M ∧ St σ ∧ Cs σ M ∧ zPk P σ
theorem Cs.fr {σ M N : zMem} (h : Cs σ M) (hf : ∀ c : Nat, 90 ≤ c → c < 200 → N c = M c) : Cs σ N := by
  obtain ⟨h1, h2, h3, h4, h5⟩ := h
  have e : ∀ b, zstp N b = zstp M b := fun b => by unfold zstp; rw [hf 150 (by omega) (by omega), hf 153 (by omega) (by omega)]
  have e' : zstp N = zstp M := funext e
  refine ⟨h1.fr fun c a b => hf c a (by omega), ?_, ?_, ?_, ?_⟩
  · unfold Cv at h2 ⊢; rw [hf 110 (by omega) (by omega), hf 90 (by omega) (by omega), hf 116 (by omega) (by omega), hf 117 (by omega) (by omega)]; exact h2
  · unfold Cf at h3 ⊢; rw [hf 130 (by omega) (by omega), hf 135 (by omega) (by omega)]; exact h3
  · unfold Cg at h4 ⊢; rw [hf 150 (by omega) (by omega), hf 153 (by omega) (by omega), e']; exact h4
  · unfold Co at h5 ⊢; rw [hf 170 (by omega) (by omega), hf 176 (by omega) (by omega), hf 177 (by omega) (by omega)]; exact h5
/-- a question that the model answers in its scratch -/
theorem Inv.m {P σ M N : zMem} (hPk : zPk P σ) (hC : Cs σ M) (h : St σ) (hN : zAg σ N) (hf : zFm M N) : Inv P N := ⟨σ, hN, h, hC.fr fun c _ hc => hf c (by omega), hPk⟩
theorem Inv.z {P σ M : zMem} (hPk : zPk P σ) (hA : zAg σ M) (h : St σ) (hC : Cs σ M) : Inv P (zup M 200 0 0) := Inv.m hPk hC h (zA0 hA) ((zFm.refl M).up (by omega) (by omega))
