/-! PURE PART, 62: the class learns right -/
section GS3
variable {σ M V : zMem} {k x b : Int} {n g q S : Nat} {a a' : Int → Int}
theorem zgn_sum {F : Int → Int} : ∀ m : Nat, zsum (fun b => if zprd σ b then F (zgn σ b) else 0) m = zsum F (zgn σ m).toNat
  | 0 => rfl
  | m + 1 => by
    have s := zgn_s (σ := σ) (a := (m : Int)) (by omega)
    have g0 := zgn_0 (σ := σ) (a := (m : Int))
    show zsum (fun b => if zprd σ b then F (zgn σ b) else 0) m + (if zprd σ m then F (zgn σ m) else 0) = _
    rw [zgn_sum m, show (((m + 1 : Nat) : Int)) = (m : Int) + 1 from rfl, s]
    by_cases c : zprd σ m
    · rw [if_pos c, if_pos c, show (zgn σ m + 1).toNat = (zgn σ m).toNat + 1 by omega]
      show _ = zsum F (zgn σ m).toNat + F ((zgn σ m).toNat : Int)
      rw [show (((zgn σ m).toNat : Nat) : Int) = zgn σ m by omega]
    · rw [if_neg c, if_neg c, Int.add_zero, Int.add_zero]
theorem zsum_mc {f : Int → Int} {c : Int} : ∀ {n : Nat}, zsum (fun i => f i * c) n = zsum f n * c
  | 0 => by simp [zsum]
  | n + 1 => by
    show zsum (fun i => f i * c) n + f n * c = (zsum f n + f n) * c
    rw [zsum_mc (n := n), Int.add_mul]
theorem zsum_t {f : Int → Int} {n : Nat} : ∀ {m : Nat}, n ≤ m → (∀ k : Nat, n ≤ k → k < m → f k = 0) → zsum f m = zsum f n
  | 0, h, _ => by rw [show n = 0 by omega]
  | m + 1, h, hf => by
    by_cases e : n = m + 1
    · rw [e]
    · show zsum f m + f m = _
      rw [zsum_t (m := m) (by omega) (fun k k0 k1 => hf k k0 (by omega)), hf m (by omega) (by omega), Int.add_zero]
/-- steps as digits -/
def yH (c : Int → Int) : Nat → Int
  | 0 => 0
  | m + 1 => 7 * yH c m + c m
theorem yH_lex {c c' : Int → Int} : ∀ {m : Nat}, yR m c → yR m c' → yH c m ≤ yH c' m → zlex c c' m
  | 0, _, _, _ => Or.inl fun k hk => by omega
  | m + 1, h, h', hl => by
    have hl : 7 * yH c m + c m ≤ 7 * yH c' m + c' m := hl
    have b := h m (by omega)
    have b' := h' m (by omega)
    rcases yH_lex (m := m) (fun j hj => h j (by omega)) (fun j hj => h' j (by omega)) (by omega) with e | ⟨k, k1, k2, k3⟩
    · have eq : ∀ r : Nat, r ≤ m → yH c r = yH c' r := fun r => by
        induction r with
        | zero => intro _; rfl
        | succ r ih =>
          intro hr
          show 7 * yH c r + c r = 7 * yH c' r + c' r
          rw [ih (by omega), e r (by omega)]
      have := eq m (Nat.le_refl _)
      by_cases q : c m = c' m
      · refine Or.inl fun k hk => ?_
        by_cases e2 : k = m
        · rw [e2]; exact q
        · exact e k (by omega)
      · exact Or.inr ⟨m, by omega, e, by omega⟩
    · exact Or.inr ⟨k, by omega, k2, k3⟩
theorem yH_8 {c : Int → Int} : yH c 8 = 823543 * c 0 + 117649 * c 1 + 16807 * c 2 + 2401 * c 3 + 343 * c 4 + 49 * c 5 + 7 * c 6 + c 7 := by
  show 7 * (7 * (7 * (7 * (7 * (7 * (7 * (7 * 0 + c 0) + c 1) + c 2) + c 3) + c 4) + c 5) + c 6) + c 7 = _
  omega
theorem yH_b {c : Int → Int} (h : yR 8 c) : 0 ≤ yH c 8 ∧ yH c 8 < 5764801 := by
  have h0 := h 0 (by omega)
  have h1 := h 1 (by omega)
  have h2 := h 2 (by omega)
  have h3 := h 3 (by omega)
  have h4 := h 4 (by omega)
  have h5 := h 5 (by omega)
  have h6 := h 6 (by omega)
  have h7 := h 7 (by omega)
  have e : yH c 8 = 823543 * c ((0 : Nat) : Int) + 117649 * c ((1 : Nat) : Int) + 16807 * c ((2 : Nat) : Int) + 2401 * c ((3 : Nat) : Int) + 343 * c ((4 : Nat) : Int) + 49 * c ((5 : Nat) : Int) + 7 * c ((6 : Nat) : Int) + c ((7 : Nat) : Int) := yH_8
  rw [e]
  omega
theorem yH_d {c : Int → Int} (h : yR 8 c) {gl : Int} {j : Nat} (hj : j < 8) : (gl * 5764801 + yH c 8) / zwgt j % 7 = c j := by
  have h0 := h 0 (by omega)
  have h1 := h 1 (by omega)
  have h2 := h 2 (by omega)
  have h3 := h 3 (by omega)
  have h4 := h 4 (by omega)
  have h5 := h 5 (by omega)
  have h6 := h 6 (by omega)
  have h7 := h 7 (by omega)
  have e : yH c 8 = 823543 * c ((0 : Nat) : Int) + 117649 * c ((1 : Nat) : Int) + 16807 * c ((2 : Nat) : Int) + 2401 * c ((3 : Nat) : Int) + 343 * c ((4 : Nat) : Int) + 49 * c ((5 : Nat) : Int) + 7 * c ((6 : Nat) : Int) + c ((7 : Nat) : Int) := yH_8
  rw [e]
  have : j = 0 ∨ j = 1 ∨ j = 2 ∨ j = 3 ∨ j = 4 ∨ j = 5 ∨ j = 6 ∨ j = 7 := by omega
  rcases this with rfl | rfl | rfl | rfl | rfl | rfl | rfl | rfl
  · rw [show zwgt ((0 : Nat) : Int) = 823543 by decide]; omega
  · rw [show zwgt ((1 : Nat) : Int) = 117649 by decide]; omega
  · rw [show zwgt ((2 : Nat) : Int) = 16807 by decide]; omega
  · rw [show zwgt ((3 : Nat) : Int) = 2401 by decide]; omega
  · rw [show zwgt ((4 : Nat) : Int) = 343 by decide]; omega
  · rw [show zwgt ((5 : Nat) : Int) = 49 by decide]; omega
  · rw [show zwgt ((6 : Nat) : Int) = 7 by decide]; omega
  · rw [show zwgt ((7 : Nat) : Int) = 1 by decide]; omega
/-- steps, 0 beyond the nodes -/
def yc (n : Nat) (a : Int → Int) (i : Int) : Int := if i < n then a i else 0
theorem yc_R (h : yR n a) : yR 8 (yc n a) := fun j hj => by
  unfold yc
  by_cases c : (j : Int) < n
  · rw [if_pos c]; exact h j (by omega)
  · rw [if_neg c]; omega
theorem ydg (n8 : n ≤ 8) : zsum (fun i => a i * zwgt i) n = yH (yc n a) 8 := by
  have e1 : zsum (fun i => a i * zwgt i) n = zsum (fun i => yc n a i * zwgt i) n := zsum_eq fun i hi => by
    unfold yc; rw [if_pos (by omega)]
  have e2 : zsum (fun i => yc n a i * zwgt i) 8 = zsum (fun i => yc n a i * zwgt i) n := zsum_t n8 fun k k0 k1 => by
    unfold yc; rw [if_neg (by omega), Int.zero_mul]
  rw [e1, ← e2, yH_8]
  show 0 + yc n a 0 * 823543 + yc n a 1 * 117649 + yc n a 2 * 16807 + yc n a 3 * 2401 + yc n a 4 * 343 + yc n a 5 * 49 + yc n a 6 * 7 + yc n a 7 * 1 = _
  omega
/-- glass and digits of steps of the nodes -/
theorem yval (n8 : n ≤ 8) {B : Int → Int} : zsum (yow σ B a) n = zsum (fun i => zabs (a i - 3) * σ 44 (B i)) n * 5764801 + yH (yc n a) 8 := by
  rw [← ydg n8, ← zsum_mc, ← zsum_add]
  rfl
/-- the steps of the nodes, from steps of the BOWLS -/
def yad (B d : Int → Int) (i : Int) : Int := d (B i) + 3
theorem yB (h : St σ) (hG : zGn σ M (σ 40 0)) (b0 : 0 ≤ b) (b1 : b < σ 40 0) (hp : zprd σ b) : M 152 (zgn σ b) = b := by
  have l := zgn_l b0 hp b1
  have g := hG.2.1 (zgn σ b) zgn_0 l
  exact zgn_inj g.1.1 b0 g.2.1 hp g.2.2
theorem ygl (h : St σ) (hG : zGn σ M (σ 40 0)) (hn : (n : Int) = znpr σ) {d : Int → Int} (hd : ∀ b : Int, 0 ≤ b → b < σ 40 0 → ¬ zprd σ b → d b = 0) : zsum (fun i => zabs (yad (M 152) d i - 3) * σ 44 (M 152 i)) n = zgls σ d := by
  have hbw := r_bw h
  have e := zgn_sum (σ := σ) (F := fun i => zabs (yad (M 152) d i - 3) * σ 44 (M 152 i)) (σ 40 0).toNat
  rw [show (((σ 40 0).toNat : Nat) : Int) = σ 40 0 by omega, zgn_N, show (znpr σ).toNat = n by omega] at e
  rw [← e]
  refine zsum_eq fun b hb => ?_
  by_cases c : zprd σ b
  · rw [if_pos c]
    show zabs (d (M 152 (zgn σ b)) + 3 - 3) * σ 44 (M 152 (zgn σ b)) = _
    rw [yB h hG (by omega) (by omega) c, Int.add_sub_cancel]
  · rw [if_neg c, hd b (by omega) (by omega) c]
    rw [show zabs 0 = 0 by decide, Int.zero_mul]
theorem yad_ok (h : St σ) (hG : zGn σ M (σ 40 0)) (hn : (n : Int) = znpr σ) {d : Int → Int} (hd : zgOK σ d) : yR n (yad (M 152) d) ∧ yFt σ (M 152) g (yad (M 152) d) n := by
  have nd : ∀ i : Nat, i < n → (0 ≤ M 152 i ∧ M 152 i < σ 40 0) ∧ zprd σ (M 152 i) := fun i hi => by
    have := hG.2.1 i (by omega) (by rw [zgn_N]; omega)
    exact ⟨this.1, this.2.1⟩
  refine ⟨fun i hi => ?_, fun i hi _ => ?_, fun k k0 k1 _ => ?_⟩
  · have := nd i hi
    have o := (hd.1 _ this.1.1 this.1.2).1
    unfold yad
    rcases o with o | o
    · omega
    · exact absurd this.2 o.1
  · have := nd i hi
    have o := (hd.1 _ this.1.1 this.1.2).2
    unfold yto yad
    rw [Int.add_sub_cancel]; exact o
  · have o := hd.2 k k0 k1
    have pa := r_pA h k0 k1
    have pb := r_pB h k0 k1
    have pp := zpr_A h k0 k1
    unfold yok yto yad
    rw [Int.add_sub_cancel, Int.add_sub_cancel, yB h hG pa.1 pa.2 pp.1, yB h hG pb.1 pb.2.1 pp.2]
    exact o
theorem yGP (h : St σ) (h8 : znpr σ ≤ 8) (hn : (n : Int) = znpr σ) (hE : zEl σ M n g q) (all : ∀ a : Nat, a < n → g.testBit a = true) : (0 ≤ M 150 12 ∧ M 150 12 ≤ 1000000000000000) ∧ (∀ b : Int, 0 ≤ b → b < σ 40 0 → -1 ≤ M 153 b ∧ M 153 b < 8) ∧ zGP σ (if M 150 12 < 1000000000000000 then M 150 12 / 5764801 else -1) (zstp M) := by
  have hbw := r_bw h
  have n8 : n ≤ 8 := by omega
  obtain ⟨hG, -, -, -, hQ, -, hV⟩ := hE
  have r0 : ∀ a : Int → Int, yrs M n q a = 0 := fun a => by
    have : yrs M n q a = zsum (fun _ => 0) n := zsum_eq fun w hw => by
      by_cases c : q.testBit ((w : Int)).toNat = true
      · obtain ⟨-, -, -, ⟨j, j1, j2⟩, w5⟩ := hQ w hw c
        have := (w5 j j1 j2).1
        rw [all j j1] at this; cases this
      · rw [if_neg c]
    rw [this, zsum_z]
  have al : ∀ a : Int → Int, yal σ (M 152) g a n = zsum (yow σ (M 152) a) n := fun a => zsum_eq fun w hw => by
    rw [show ((w : Int)).toNat = w by omega, all w hw, if_pos rfl]
  have lo : ∀ d : Int → Int, zgOK σ d → M 150 12 ≤ zgls σ d * 5764801 + yH (yc n (yad (M 152) d)) 8 := fun d hd => by
    have o := yad_ok (g := g) h hG hn hd
    have := (hV.2 _ o.1).1 o.2
    rw [r0, al, Int.add_zero, yval n8, ygl h hG hn (fun b b0 b1 bp => by
      rcases (hd.1 b b0 b1).1 with z | z
      · exact absurd z.1 bp
      · exact z.2)] at this
    exact this
  refine ⟨hV.1, fun b b0 b1 => ?_, ?_⟩
  · rw [hG.2.2 b b0 (by omega)]
    by_cases c : b < σ 40 0 ∧ zprd σ b
    · rw [if_pos c]
      have := zgn_l b0 c.2 c.1
      have := zgn_0 (σ := σ) (a := b)
      rw [zgn_N] at *
      omega
    · rw [if_neg c]; omega
  by_cases big : 1000000000000000 ≤ M 150 12
  · rw [if_neg (by omega)]
    refine Or.inl ⟨rfl, Or.inr fun d hd => ?_⟩
    have l := lo d hd
    have gb : zgls σ d ≤ 297 * 12 := by
      have := (zgc_b h (m := (σ 40 0).toNat) (by omega) ((zgOK_v h).1 hd)).2
      show zgc σ d (σ 40 0).toNat ≤ _
      omega
    have hb := (yH_b (yc_R (yad_ok (g := g) h hG hn hd).1)).2
    omega
  · rw [if_pos (by omega)]
    obtain ⟨-, u⟩ := hV.2 (fun _ => 0) (fun j _ => ⟨Int.le_refl 0, by show (0 : Int) ≤ 6; decide⟩)
    rw [r0, Int.add_zero] at u
    rcases u with u | ⟨a, ra, -, fa, ea⟩
    · exact absurd u big
    rw [al, yval n8] at ea
    have hb := yH_b (yc_R ra)
    -- the steps that the class tells
    have dg : ∀ j : Nat, j < n → M 150 12 / zwgt j % 7 = a j := fun j hj => by
      rw [ea, yH_d (yc_R ra) (by omega)]
      unfold yc; rw [if_pos (by omega)]
    have s1 : ∀ b : Int, 0 ≤ b → b < σ 40 0 → zprd σ b → zstp M b = a (zgn σ b) - 3 := fun b b0 b1 bp => by
      have g0 := zgn_0 (σ := σ) (a := b)
      have l := zgn_l b0 bp b1
      rw [zgn_N] at l
      have e153 : M 153 b = zgn σ b := by rw [hG.2.2 b b0 (by omega), if_pos ⟨b1, bp⟩]
      unfold zstp
      rw [e153, if_neg (by omega)]
      have := dg (zgn σ b).toNat (by omega)
      rw [show (((zgn σ b).toNat : Nat) : Int) = zgn σ b by omega] at this
      rw [this]
    have s2 : ∀ b : Int, 0 ≤ b → b < σ 40 0 → ¬ zprd σ b → zstp M b = 0 := fun b b0 b1 bp => by
      have e153 : M 153 b = -1 := by rw [hG.2.2 b b0 (by omega), if_neg (fun z => bp z.2)]
      unfold zstp
      rw [if_pos e153]
    have sa : ∀ i : Nat, i < n → yad (M 152) (zstp M) i = a i := fun i hi => by
      have nd := hG.2.1 i (by omega) (by rw [zgn_N]; omega)
      unfold yad
      rw [s1 _ nd.1.1 nd.1.2 nd.2.1, nd.2.2]; omega
    have gla : zsum (fun i => zabs (a i - 3) * σ 44 (M 152 i)) n = zgls σ (zstp M) := by
      rw [← ygl h hG hn s2]
      refine zsum_eq fun i hi => ?_
      rw [sa i hi]
    rw [gla] at ea
    have ok : zgOK σ (zstp M) := by
      refine ⟨fun b b0 b1 => ?_, fun k k0 k1 => ?_⟩
      · by_cases c : zprd σ b
        · have g0 := zgn_0 (σ := σ) (a := b)
          have l := zgn_l b0 c b1
          rw [zgn_N] at l
          have e : (((zgn σ b).toNat : Nat) : Int) = zgn σ b := by omega
          have r := ra (zgn σ b).toNat (by omega)
          have f := fa.1 (zgn σ b).toNat (by omega) (all _ (by omega))
          rw [e] at r f
          unfold yto at f
          rw [yB h hG b0 b1 c] at f
          unfold zgt
          rw [s1 b b0 b1 c]
          exact ⟨Or.inl ⟨c, by omega, by omega⟩, f⟩
        · unfold zgt
          rw [s2 b b0 b1 c, Int.zero_mul, Int.add_zero]
          exact ⟨Or.inr ⟨c, rfl⟩, r_tn h b0 b1⟩
      · have pa := r_pA h k0 k1
        have pb := r_pB h k0 k1
        have pp := zpr_A h k0 k1
        have la := zgn_l pa.1 pp.1 pa.2
        have a0 := zgn_0 (σ := σ) (a := σ 49 k)
        rw [zgn_N] at la
        have f := fa.2 k k0 k1 (Or.inl (all _ (by omega)))
        unfold yok yto at f
        rw [yB h hG pa.1 pa.2 pp.1, yB h hG pb.1 pb.2.1 pp.2] at f
        unfold zgt
        rw [s1 _ pa.1 pa.2 pp.1, s1 _ pb.1 pb.2.1 pp.2]
        exact f
    have gl : M 150 12 / 5764801 = zgls σ (zstp M) := by rw [ea]; omega
    refine Or.inr ⟨h8, ok, gl, fun d hd => ?_⟩
    rw [gl]
    have l := lo d hd
    have od := yad_ok (g := g) h hG hn hd
    have hd' := yH_b (yc_R od.1)
    rw [ea] at l
    by_cases c : zgls σ (zstp M) < zgls σ d
    · exact Or.inl c
    refine Or.inr ⟨by omega, ?_⟩
    have lx := yH_lex (yc_R ra) (yc_R od.1) (by omega)
    have same : ∀ b : Nat, (b : Int) < σ 40 0 → (zprd σ b → yc n a (zgn σ b) = yc n (yad (M 152) d) (zgn σ b)) → zstp M b = d b := fun b hb hc => by
      by_cases c : zprd σ b
      · have g0 := zgn_0 (σ := σ) (a := b)
        have l := zgn_l (by omega) c hb
        rw [zgn_N] at l
        have e := hc c
        unfold yc at e
        rw [if_pos (by omega), if_pos (by omega)] at e
        unfold yad at e
        rw [yB h hG (by omega) hb c] at e
        rw [s1 b (by omega) hb c]; omega
      · rw [s2 b (by omega) hb c]
        rcases (hd.1 b (by omega) hb).1 with z | z
        · exact absurd z.1 c
        · exact z.2.symm
    rcases lx with e | ⟨k, k1, k2, k3⟩
    · refine Or.inl fun b hb => same b (by omega) fun c => ?_
      have g0 := zgn_0 (σ := σ) (a := b)
      have l := zgn_l (by omega) c (show (b : Int) < σ 40 0 by omega)
      rw [zgn_N] at l
      have := e (zgn σ b).toNat (by omega)
      rwa [show (((zgn σ b).toNat : Nat) : Int) = zgn σ b by omega] at this
    · have kn : k < n := by
        by_cases z : k < n
        · exact z
        · unfold yc at k3
          rw [if_neg (by omega), if_neg (by omega)] at k3; omega
      have nd := hG.2.1 k (by omega) (by rw [zgn_N]; omega)
      have eb : (((M 152 k).toNat : Nat) : Int) = M 152 k := by omega
      refine Or.inr ⟨(M 152 k).toNat, by omega, fun b hb => same b (by omega) fun c => ?_, ?_⟩
      · have g0 := zgn_0 (σ := σ) (a := b)
        have l := zgn_l (by omega) c (show (b : Int) < M 152 k by omega)
        rw [nd.2.2] at l
        have := k2 (zgn σ b).toNat (by omega)
        rwa [show (((zgn σ b).toNat : Nat) : Int) = zgn σ b by omega] at this
      · rw [eb, s1 _ nd.1.1 nd.1.2 nd.2.1, nd.2.2]
        unfold yc at k3
        rw [if_pos (by omega), if_pos (by omega)] at k3
        unfold yad at k3
        omega
/-- a BOWL of some pair has a neighbour -/
theorem zpr_e {b : Int} : ∀ {m : Nat}, zpr σ b m = true → ∃ k : Nat, k < m ∧ (σ 49 k = b ∨ σ 51 k = b)
  | 0, h => by cases h
  | m + 1, h => by
    unfold zpr at h
    rw [Bool.or_eq_true, Bool.or_eq_true, decide_eq_true_eq, decide_eq_true_eq] at h
    rcases h with (h | h) | h
    · obtain ⟨k, k1, k2⟩ := zpr_e h
      exact ⟨k, by omega, k2⟩
    · exact ⟨m, by omega, Or.inl h⟩
    · exact ⟨m, by omega, Or.inr h⟩
theorem zpr_nb (h : St σ) {b : Int} (b0 : 0 ≤ b) (hb : zprd σ b) : ∃ j : Nat, zNb σ (σ 40 7) (zgn σ b) j := by
  obtain ⟨k, k1, k2⟩ := zpr_e hb
  have a0 := zgn_0 (σ := σ) (a := σ 49 k)
  have c0 := zgn_0 (σ := σ) (a := σ 51 k)
  rcases k2 with e | e
  · exact ⟨(zgn σ (σ 51 k)).toNat, k, ⟨by omega, by omega⟩, Or.inl ⟨by rw [e], by omega⟩⟩
  · exact ⟨(zgn σ (σ 49 k)).toNat, k, ⟨by omega, by omega⟩, Or.inr ⟨by rw [e], by omega⟩⟩
theorem zbsu_1 {S j : Nat} (hj : j < 8) (hb : S.testBit j = true) : 1 ≤ zbsu S 8 := by
  have : zsum (fun w => if w = (j : Int) then 1 else 0) 8 ≤ zbsu S 8 := zsum_pm fun w hw => by
    have e : ((w : Int)).toNat = w := by omega
    rw [e]
    by_cases c : w = j
    · subst c
      rw [if_pos rfl, if_pos hb]; exact Int.le_refl _
    · rw [if_neg (show ¬ (w : Int) = j by omega)]
      split <;> omega
  rw [zsum_k hj] at this
  exact this
theorem zGL_ok : zGL := by
  intro σ M h hA hC
  have hpn := r_pn h
  have hbw := r_bw h
  unfold fX1_learn
  by_cases kn : M 150 13 = 0
  · rw [if_pos kn, zS_bd2]
    have hA0 : zAx σ (zup (zup M 150 13 1) 150 12 1000000000000000) := (hA.up (Or.inl rfl)).up (Or.inl rfl)
    generalize hM0 : zup (zup M 150 13 1) 150 12 1000000000000000 = M0 at hA0 ⊢
    have m10 : M0 150 12 = 1000000000000000 := by rw [← hM0, zup_eq]
    have m11 : M0 150 13 = 1 := by rw [← hM0, zup_nk (by decide), zup_eq]
    have mc : ∀ c : Nat, c ≠ 150 → M0 c = M c := fun c hc => by rw [← hM0, zup_c hc, zup_c hc]
    refine zs_m (e_glistNodes h hA0) ?_
    rintro ⟨r, M5⟩ ⟨f1, f2, f3⟩
    dsimp only at f1 f2 f3 ⊢
    have fr5 : zFr 150 161 M M5 := fun c hc => by rw [f1.1 c (by omega) (by omega) (by omega), mc c (by omega)]
    rcases f3 with ⟨e1, e2⟩ | ⟨e1, e2, e3⟩
    · rw [if_pos e1]
      have v10 : M5 150 12 = 1000000000000000 := by rw [f1.2 12 (by decide), m10]
      refine ⟨fr5, by rw [f1.2 13 (by decide), m11]; decide, fun _ => ⟨by omega, fun b b0 b1 => f2 b b0 (by omega), ?_⟩⟩
      rw [if_neg (by omega)]
      exact Or.inl ⟨rfl, Or.inl e2⟩
    · rw [if_neg (by omega), zS_bd]
      have hA5 : zAx σ M5 := f1.ax hA0
      refine zs_m (e_listNeighbours h hA5 e2 e3) ?_
      rintro M9 ⟨l1, l2, l3, l4, l5⟩
      rw [zS_bd]
      have n0 : 0 ≤ znpr σ := by rw [← zgn_N]; exact zgn_0
      obtain ⟨n, hn⟩ : ∃ n : Nat, (n : Int) = znpr σ := ⟨(znpr σ).toNat, by omega⟩
      have n8 : n ≤ 8 := by omega
      generalize hW : zup M9 150 12 0 = W
      have wc : ∀ c : Nat, c ≠ 150 → W c = M9 c := fun c hc => by rw [← hW, zup_c hc]
      have w0 : ∀ y : Int, y ≠ 12 → W 150 y = M9 150 y := fun y hy => by rw [← hW, zup_nk hy]
      have w10 : W 150 12 = 0 := by rw [← hW, zup_eq]
      have frW : zFr 150 161 M W := fun c hc => by rw [wc c (by omega), l1 c (by omega) (by omega), fr5 c hc]
      have hAW : zAx σ W := hA.fr (frW.mono (by omega) (by omega))
      have E : zEl σ W n 0 0 := by
        refine ⟨?_, ⟨by rw [w0 10 (by decide), l3.1]; rfl, by omega⟩, ⟨by rw [w0 11 (by decide), l3.2.1]; rfl, by omega⟩, ⟨fun a ha => ?_, fun a ha _ => ?_⟩, fun w hw hq => (by rw [Nat.zero_testBit] at hq; cases hq), ?_, ?_⟩
        · unfold zGn at e3 ⊢
          rw [w0 3 (by decide), l2 3 (by decide) (by decide) (by decide), wc 152 (by decide), wc 153 (by decide), l1 152 (by decide) (by decide), l1 153 (by decide) (by decide)]
          exact e3
        · obtain ⟨m, m1, m2, m3⟩ := l4 a (by omega)
          rw [wc 155 (by decide), m2]
          have : m < 2 ^ n := zlt2 fun b hb => by
            cases t : m.testBit b with
            | false => rfl
            | true => have := (zNb_lt h ((m3 b).1 t)).1; omega
          have e : (2 : Int) ^ n = ((2 ^ n : Nat) : Int) := (Int.natCast_pow 2 n).symm
          rw [e]; omega
        · obtain ⟨m, m1, m2, m3⟩ := l4 a (by omega)
          have em : (M9 155 a).toNat = m := by rw [m2]; omega
          rw [wc 155 (by decide), em]
          refine ⟨?_, fun j hj => ?_, fun j j1 j2 j3 _ => (m3 j).2 j3⟩
          · cases t : m.testBit a with
            | false => rfl
            | true => exact absurd rfl (zNb_lt h ((m3 a).1 t)).2.2.1
          · have nb := zNb_lt h ((m3 j).1 hj)
            have jn : j < n := by have := nb.1; omega
            obtain ⟨mj, x1, x2, x3⟩ := l4 j (by omega)
            refine ⟨jn, Nat.zero_testBit _, ?_⟩
            rw [x2, show ((mj : Int)).toNat = mj by omega]
            exact (x3 a).2 nb.2.2.2
        · have nr : ∀ a : Nat, a < n → 1 ≤ zbsu (W 155 a).toNat 8 := fun a ha => by
            obtain ⟨m, m1, m2, m3⟩ := l4 a (by omega)
            have em : (W 155 a).toNat = m := by rw [wc 155 (by decide), m2]; omega
            have nd := e3.2.1 a (by omega) (by rw [zgn_N]; omega)
            obtain ⟨j, hj⟩ := zpr_nb h nd.1.1 nd.2.1
            rw [nd.2.2] at hj
            have jb := (zNb_lt h hj).1
            rw [em]
            exact zbsu_1 (j := j) (by omega) ((m3 j).2 hj)
          refine ⟨?_, by rw [w0 8 (by decide), l3.2.2]; exact Int.le_refl _, Or.inr ⟨by rw [w0 8 (by decide), l3.2.2], fun a ha _ => nr a ha⟩⟩
          unfold ydq
          have e : zsum (fun a => if Nat.testBit 0 a.toNat = true then 0 else zbsu (W 155 a).toNat 8) n = zsum (fun a => zbsu (M9 155 a).toNat 8) n := zsum_eq fun a ha => by
            rw [Nat.zero_testBit, if_neg (by decide), wc 155 (by decide)]
          have := zsum_mono (f := fun a => zbsu (M9 155 a).toNat 8) n8 (fun k _ _ => (zbsu_b).1)
          rw [e]
          omega
        · have y0 : ∀ a : Int → Int, yrs W n 0 a = 0 := fun a => by
            have : yrs W n 0 a = zsum (fun _ => 0) n := zsum_eq fun w hw => by rw [Nat.zero_testBit, if_neg (by decide)]
            rw [this, zsum_z]
          have yl : ∀ a : Int → Int, yal σ (W 152) 0 a n = 0 := fun a => by
            have : yal σ (W 152) 0 a n = zsum (fun _ => 0) n := zsum_eq fun w hw => by rw [Nat.zero_testBit, if_neg (by decide)]
            rw [this, zsum_z]
          have yf : ∀ a : Int → Int, yFt σ (W 152) 0 a n := fun a => ⟨fun i hi hb => (by rw [Nat.zero_testBit] at hb; cases hb), fun k k0 k1 ho => by rw [Nat.zero_testBit, Nat.zero_testBit] at ho; rcases ho with z | z <;> cases z⟩
          refine ⟨by omega, fun a ha => ?_⟩
          rw [y0, w10, yl]
          exact ⟨fun _ => by omega, Or.inr ⟨a, ha, fun _ _ _ => rfl, yf a, by rw [yl]; rfl⟩⟩
      refine zs_m (e_gloop h hAW e2 hn E) ?_
      rintro ⟨y, N⟩ ⟨⟨g1, g2, g3⟩, g, q, hE, all⟩
      dsimp only at g1 g2 g3 hE
      have n11 : N 150 13 = 1 := by rw [g2, w0 13 (by decide), l2 13 (by decide) (by decide) (by decide), f1.2 13 (by decide), m11]
      exact ⟨frW.trans g1, by show N 150 13 ≠ 0; rw [n11]; decide, fun _ => yGP h e2 hn hE all⟩
  · rw [if_neg kn]
    exact ⟨zFr.refl _ _ _, kn, hC⟩
end GS3
