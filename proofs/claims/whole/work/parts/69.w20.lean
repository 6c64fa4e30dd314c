/-! PURE PART, 20: along, silence -/
section ALG
variable {Pk : zMem}
variable {σ M : zMem} {k b s t n x w tr S : Int} {F F' : Int → Int}
theorem zor_i (a c : Int) : zor (zor a c) c = zor a c := by
  unfold zor
  rw [Int32.ofInt_toInt, Int32.or_assoc, Int32.or_self]
/-- some NOTE among the first i rouses BOWL b -/
def zrou (σ : zMem) (S b : Int) : Nat → Bool
  | 0 => false
  | i + 1 => zrou σ S b i || (decide (zabs (σ 47 b - σ 47 (σ 82 i)) = 1) && decide (zabs (σ 43 b - σ 43 (σ 82 i)) ≤ σ 59 9) && decide (zand (zshr S i) 1 = 1))
theorem zrou_0 : ∀ i : Nat, i ≤ 24 → zrou σ 0 b i = false
  | 0, _ => rfl
  | i + 1, hi => by
    show (zrou σ 0 b i || _) = false
    rw [zrou_0 i (by omega)]
    have : zand (zshr 0 (i : Int)) 1 = 0 := by
      rw [zbit_i ⟨by decide, by decide⟩ (by omega)]; simp
    simp [this]
theorem r_p47 (h : St σ) (h0 : 0 ≤ b) (h1 : b < σ 40 0) : -1 ≤ σ 47 b ∧ σ 47 b < 12 := by
  have := r_pl h h0 h1; omega
theorem zabs_s (a c : Int) : zabs (a - c) = zabs (c - a) := by unfold zabs; split <;> split <;> omega
theorem e_isRoused (h : St σ) (hA : zAx σ M) (b0 : 0 ≤ b) (b1 : b < σ 40 0) : fX9_isRoused b S M = some (if zrou σ S b (σ 80 0).toNat = true then 1 else 0) := by
  have hnn := r_nn h
  have hbw := r_bw h
  have pb := r_p47 h b0 b1
  unfold fX9_isRoused
  have st : ∀ i : Nat, (i : Int) < σ 80 0 → fX9_isRoused_l2 b S i M = some (if zabs (σ 47 b - σ 47 (σ 82 i)) = 1 ∧ zabs (σ 43 b - σ 43 (σ 82 i)) ≤ σ 59 9 ∧ zand (zshr S i) 1 = 1 then .inr (.inr 1) else .inl ((i : Int) + 1)) := by
    intro i hi
    have nb := r_nb h (k := i) (by omega) hi
    have pi := r_p47 h nb.1 nb.2.1
    have z1 : 0 ≤ zabs (σ 47 b - σ 47 (σ 82 i)) := zabs_n
    have z2 : zabs (σ 47 b - σ 47 (σ 82 i)) ≤ 13 := zabs_le (by omega)
    have zb := zand_01 (zshr S i)
    unfold fX9_isRoused_l2 fX9_isRoused_j78 fX9_isRoused_j79
    rw [hA.fl 80 rfl (by decide), hA.fl 82 rfl (by decide), hA.fl 47 rfl (by decide), hA.fl 59 rfl (by decide), if_neg (by omega), zgd_t ⟨by omega, by omega⟩, zgd_t ⟨b0, by omega⟩, zgd_t ⟨nb.1, by omega⟩, zw_i (x := σ 47 b - σ 47 (σ 82 i)) (by omega) (by omega), zw_i (x := zabs (σ 47 b - σ 47 (σ 82 i))) (by omega) (by omega), e_apart h hA b0 b1 nb.1 nb.2.1, zbd_s, zgd_t (by decide), zw_i (x := (i : Int) + 1) (by omega) (by omega)]
    by_cases c1 : zabs (σ 47 b - σ 47 (σ 82 i)) = 1
    · rw [if_pos c1]
      by_cases c2 : σ 59 9 < zabs (σ 43 b - σ 43 (σ 82 i))
      · rw [if_pos c2, if_pos rfl, if_neg (fun q => by have := q.2.1; omega)]
      · rw [if_neg c2, if_neg (show ¬ (1 : Int) = 0 by decide)]
        by_cases c3 : zand (zshr S i) 1 = 0
        · rw [if_pos c3, if_neg (fun q => by have := q.2.2; omega)]
        · rw [if_neg c3, if_pos ⟨c1, by omega, by omega⟩]
    · rw [if_neg c1, if_pos rfl, if_neg (fun q => c1 q.1)]
  have zs : ∀ i : Nat, zrou σ S b (i + 1) = (zrou σ S b i || (decide (zabs (σ 47 b - σ 47 (σ 82 i)) = 1) && decide (zabs (σ 43 b - σ 43 (σ 82 i)) ≤ σ 59 9) && decide (zand (zshr S i) 1 = 1))) := fun _ => rfl
  have mono : ∀ i j : Nat, i ≤ j → zrou σ S b i = true → zrou σ S b j = true := by
    intro i j hij
    induction hij with
    | refl => exact id
    | step _ ih => intro q; rw [zs, ih q]; rfl
  have t1 := zit_first (f := fun s10 : Int => fX9_isRoused_l2 b S s10 M) (fun i => (i : Int)) (fun i => zabs (σ 47 b - σ 47 (σ 82 i)) = 1 ∧ zabs (σ 43 b - σ 43 (σ 82 i)) ≤ σ 59 9 ∧ zand (zshr S i) 1 = 1) (σ 80 0).toNat (fun i hi hp => by
    show fX9_isRoused_l2 b S i M = _
    rw [st i (by omega), if_neg hp]; rfl)
  rcases t1 with ⟨i, i1, i2, i3, i4⟩ | ⟨i1, i2⟩
  · rw [show zit (fun s10 : Int => fX9_isRoused_l2 b S s10 M) 0 = some (.inr 1) from i4.trans (zit_r (f := fun s10 : Int => fX9_isRoused_l2 b S s10 M) (s := (i : Int)) (by show fX9_isRoused_l2 b S i M = _; rw [st i (by omega), if_pos i2]))]
    rw [if_pos (mono (i + 1) _ (by omega) (by rw [zs]; simp [i2]))]; rfl
  · rw [show zit (fun s10 : Int => fX9_isRoused_l2 b S s10 M) 0 = some (.inl ((σ 80 0).toNat : Int)) from i2.trans (zit_r (f := fun s10 : Int => fX9_isRoused_l2 b S s10 M) (s := ((σ 80 0).toNat : Int)) (by show fX9_isRoused_l2 b S ((σ 80 0).toNat : Int) M = _; unfold fX9_isRoused_l2; rw [hA.fl 80 rfl (by decide), if_pos (by omega)]))]
    have : ∀ j : Nat, j ≤ (σ 80 0).toNat → zrou σ S b j = false := by
      intro j
      induction j with
      | zero => intro _; rfl
      | succ j ih =>
        intro hj
        rw [zs, ih (by omega)]
        have hn := i1 j (by omega)
        by_cases d1 : zabs (σ 47 b - σ 47 (σ 82 j)) = 1
        · by_cases d2 : zabs (σ 43 b - σ 43 (σ 82 j)) ≤ σ 59 9
          · have : ¬ zand (zshr S j) 1 = 1 := fun q => hn ⟨d1, d2, q⟩
            simp [this]
          · simp [d2]
        · simp [d1]
    rw [this _ (Nat.le_refl _)]; rfl
theorem m_rouses (h : St σ) (hA : zAx σ M) (b0 : 0 ≤ b) (b1 : b < σ 40 0) : zit (fun s35 : Int × Int => fX12_along_l77 t S b (s35.1) (s35.2) M) (x, 0) = some ((if zrou σ S b (σ 80 0).toNat = true then zor x (zshl 1 b) else x), ((σ 80 0).toNat : Int)) := by
  have hnn := r_nn h
  have hbw := r_bw h
  have pb := r_p47 h b0 b1
  have tb := r_tn h b0 b1
  have hp : ∀ i : Nat, (i : Int) < σ 80 0 → fX12_along_l77 t S b (if zrou σ S b i = true then zor x (zshl 1 b) else x) i M = some (.inl ((if zrou σ S b (i + 1) = true then zor x (zshl 1 b) else x), ((i + 1 : Nat) : Int))) := by
    intro i hi
    have i0 : (0 : Int) ≤ i := by omega
    have nb := r_nb h i0 hi
    have pi := r_p47 h nb.1 nb.2.1
    have ti := r_tn h nb.1 nb.2.1
    have zb := zand_01 (zshr S i)
    have zs : zrou σ S b (i + 1) = (zrou σ S b i || (decide (zabs (σ 47 b - σ 47 (σ 82 i)) = 1) && decide (zabs (σ 43 b - σ 43 (σ 82 i)) ≤ σ 59 9) && decide (zand (zshr S i) 1 = 1))) := rfl
    unfold fX12_along_l77
    rw [a_nn h hA, a_nb h hA i0 hi, a_pl h hA nb.1 nb.2.1, a_pl h hA b0 b1, a_tn h hA nb.1 nb.2.1, a_tn h hA b0 b1, a_st h hA (k := 9) (by decide) (by decide), if_neg (by omega), zgd_t ⟨i0, by omega⟩, zgd_t ⟨nb.1, by omega⟩, zgd_t ⟨b0, by omega⟩, m_away (by omega) (by omega), zbd_s, zgd_t ⟨nb.1, by omega⟩, zgd_t ⟨b0, by omega⟩, m_away (by omega) (by omega), zbd_s, zgd_t (by decide), zw_i (x := (i : Int) + 1) (by omega) (by omega), zabs_s (σ 47 (σ 82 i)), zabs_s (σ 43 (σ 82 i)), show (i : Int) + 1 = ((i + 1 : Nat) : Int) by omega, zs]
    by_cases c1 : zand (zshr S i) 1 = 1
    · rw [if_pos c1]
      by_cases c2 : zabs (σ 47 b - σ 47 (σ 82 i)) = 1
      · rw [if_pos c2]
        by_cases c3 : σ 59 9 < zabs (σ 43 b - σ 43 (σ 82 i))
        · rw [if_pos c3]
          have : ¬ zabs (σ 43 b - σ 43 (σ 82 i)) ≤ σ 59 9 := by omega
          simp [this]
        · rw [if_neg c3]
          have : zabs (σ 43 b - σ 43 (σ 82 i)) ≤ σ 59 9 := by omega
          cases hz : zrou σ S b i with
          | true => simp [zor_i]
          | false => simp [c1, c2, this]
      · rw [if_neg c2]; simp [c2]
    · rw [if_neg c1]; simp [c1]
  exact zit_for (σ 80 0).toNat (fun i => ((if zrou σ S b i = true then zor x (zshl 1 b) else x), (i : Int))) (fun i hi => hp i (by omega)) (by
    show fX12_along_l77 t S b _ ((σ 80 0).toNat : Int) M = _
    unfold fX12_along_l77
    rw [a_nn h hA, if_pos (by omega)])
/-- BOWL b rings along -/
def zalg (σ : zMem) (t S b : Int) : Bool := decide (σ 46 b ≠ 3) && decide (¬ (zcrk σ b ≠ -1 ∧ zcrk σ b ≤ t)) && decide (ztou σ b t = 0) && zrou σ S b (σ 80 0).toNat
theorem e_ringing (h : St σ) (hA : zAx σ M) (hw : Cw σ M) (hk : M 90 5 ≠ 0) (ht : 0 ≤ t ∧ t < 200) : zit (fun s22 : Int × Int => fX9_ringingIn_l17 t S (s22.1) (s22.2) M) (0, 0) = some (zbits (zalg σ t S) (σ 40 0).toNat, ((σ 40 0).toNat : Int)) := by
  have hbw := r_bw h
  refine zit_for (σ 40 0).toNat (fun i => (zbits (zalg σ t S) i, (i : Int))) (fun i hi => ?_) ?_
  · show fX9_ringingIn_l17 t S (zbits (zalg σ t S) i) i M = some (.inl ((if zalg σ t S i = true then zor (zbits (zalg σ t S) i) (zshl 1 i) else zbits (zalg σ t S) i), ((i + 1 : Nat) : Int)))
    have i0 : (0 : Int) ≤ i := by omega
    have i1 : (i : Int) < σ 40 0 := by omega
    have ep : fX5_pressOn 80 i t M = some (ztou σ i t) := e_pressOn h hA
    unfold fX9_ringingIn_l17 fX9_ringingIn_j71 fX9_ringingIn_j72
    rw [hA.fl 40 rfl (by decide), if_neg (by omega), e_hasPlace h hA, zbd_s, ep, zbd_s, e_isCracked h hw hk i0 i1, zbd_s, e_isRoused h hA i0 i1, zbd_s, zw_i (x := (i : Int) + 1) (by omega) (by omega), show (i : Int) + 1 = ((i + 1 : Nat) : Int) by omega]
    unfold zalg
    by_cases c1 : σ 46 i = 3
    · rw [if_neg (show ¬ (0 ≤ (i : Int) ∧ (i : Int) < σ 40 0 ∧ σ 46 i ≠ 3) from fun q => q.2.2 c1)]
      simp [c1]
    · rw [if_pos (show (0 ≤ (i : Int) ∧ (i : Int) < σ 40 0 ∧ σ 46 i ≠ 3) from ⟨i0, i1, c1⟩), if_neg (show ¬ (1 : Int) = 0 by decide)]
      by_cases c2 : ztou σ i t = 0
      · rw [if_pos c2]
        by_cases c3 : zcrk σ i ≠ -1 ∧ zcrk σ i ≤ t
        · rw [if_pos c3]
          simp [c3]
        · rw [if_neg c3]
          cases hz : zrou σ S i (σ 80 0).toNat with
          | true => simp only [decide_eq_true c1, decide_eq_true c2, decide_eq_true c3, ne_eq]; simp [c1]
          | false => simp
      · rw [if_neg c2]; simp [c2]
  · show fX9_ringingIn_l17 t S _ ((σ 40 0).toNat : Int) M = _
    unfold fX9_ringingIn_l17
    rw [hA.fl 40 rfl (by decide), if_pos (by omega)]
theorem m_along (h : St σ) (g : zMo σ M) (ht : 0 ≤ t ∧ t < 200) : zit (fun s46 : Int × Int => fX12_along_l29 t S (s46.1) (s46.2) M) (0, 0) = some (zbits (zalg σ t S) (σ 40 0).toNat, ((σ 40 0).toNat : Int)) := by
  have hbw := r_bw h
  have hA := g.1.x
  refine zit_for (σ 40 0).toNat (fun i => (zbits (zalg σ t S) i, (i : Int))) (fun i hi => ?_) ?_
  · show fX12_along_l29 t S (zbits (zalg σ t S) i) i M = some (.inl ((if zalg σ t S i = true then zor (zbits (zalg σ t S) i) (zshl 1 i) else zbits (zalg σ t S) i), ((i + 1 : Nat) : Int)))
    have i0 : (0 : Int) ≤ i := by omega
    have i1 : (i : Int) < σ 40 0 := by omega
    have pl := r_pl h i0 i1
    have tr := ztou_r (b := i) (t := t) h
    have ck : -1 ≤ zcrk σ i ∧ zcrk σ i < 200 := zck_r (σ := σ) i 200
    have cm := (g.2 i i0 i1).1
    unfold fX12_along_l29
    rw [a_bw h hA, zgd_t (by decide), if_neg (by omega), a_pl h hA i0 i1, zgd_t ⟨i0, by omega⟩, zgd_t ⟨i0, by omega⟩, cm, m_touchedIn h hA, zbd_s, m_rouses h hA i0 i1, zbd_s, zw_i (x := (i : Int) + 1) (by omega) (by omega), show (i : Int) + 1 = ((i + 1 : Nat) : Int) by omega]
    unfold zalg zcrm
    generalize zcrk σ i = z at ck ⊢
    by_cases c1 : σ 46 i = 3
    · rw [if_pos (show σ 47 i < 0 by omega)]; simp [c1]
    · rw [if_neg (show ¬ σ 47 i < 0 by omega)]
      by_cases c3 : z ≠ -1 ∧ z ≤ t
      · rw [if_neg c3.1, if_pos c3.2]; simp [c3]
      · have : ¬ (if z = -1 then 100000000 else z) ≤ t := by
          by_cases d : z = -1
          · rw [if_pos d]; omega
          · rw [if_neg d]; exact fun q => c3 ⟨d, q⟩
        rw [if_neg this]
        by_cases c2 : ztou σ i t = 0
        · rw [if_pos (by omega)]
          cases hz : zrou σ S i (σ 80 0).toNat with
          | true => simp only [decide_eq_true c1, decide_eq_true c2, decide_eq_true c3, ne_eq]; simp [c1]
          | false => simp
        · rw [if_neg (by omega)]; simp [c2]
  · show fX12_along_l29 t S _ ((σ 40 0).toNat : Int) M = _
    unfold fX12_along_l29
    rw [a_bw h hA, zgd_t (by decide), if_pos (by omega)]
theorem zbits_f {p : Int → Bool} : ∀ m : Nat, (∀ i : Nat, i < m → p i = false) → zbits p m = 0
  | 0, _ => rfl
  | m + 1, h => by
    show (if p m = true then _ else zbits p m) = 0
    rw [h m (by omega), zbits_f m (fun i hi => h i (by omega))]; rfl
/-- the voice alone has changed: what else is kept is kept -/
theorem Cs.v {N : zMem} (hC : Cs σ M) (f : zFr 90 130 M N) (w1 : Cw σ N) (v1 : Cv σ N) : Cs σ N := by
  obtain ⟨-, -, h3, h4, h5⟩ := hC
  have e : zstp N = zstp M := funext fun b => by unfold zstp; rw [f 150 (by omega), f 153 (by omega)]
  refine ⟨w1, v1, ?_, ?_, ?_⟩
  · unfold Cf at h3 ⊢; rw [f 130 (by omega), f 135 (by omega)]; exact h3
  · unfold Cg at h4 ⊢; rw [f 150 (by omega), f 153 (by omega), e]; exact h4
  · unfold Co at h5 ⊢; rw [f 170 (by omega), f 176 (by omega), f 177 (by omega)]; exact h5
set_option maxRecDepth 20000 in
theorem c_along (hI : Inv Pk M) : zAlike Pk (fX11_along t M) (fX12_along t) := by
  obtain ⟨σ, hA, h, hC, hPk⟩ := hI
  have hnn := r_nn h
  unfold zAlike fX11_along fX9_ringingIn
  rw [e_isBeat, zbd_s]
  by_cases c : 0 ≤ t ∧ t < 200
  · rw [if_pos c, if_neg (show ¬ (1 : Int) = 0 by decide), zS_bd2, zS_bd2]
    refine zs_m (e_speakingIn h hA.x hC.1 hC.2.1) ?_
    rintro ⟨r, N⟩ ⟨hr, f, w1, v1, kn⟩
    dsimp only at hr f w1 v1 kn ⊢
    have hN : zAg σ N := hA.fr (f.mono (by omega) (by omega))
    have hCN : Cs σ N := hC.v f w1 v1
    have fin : zSat (fX12_along t N) (fun e' => e'.1 = zbits (zalg σ t r) (σ 40 0).toNat ∧ Inv Pk e'.2) := by
      unfold fX12_along
      rw [m_isBeat, zbd_s, if_pos c, if_neg (show ¬ (1 : Int) = 0 by decide), zS_bd]
      refine zs_m (m_mo h (zA0 hN)) ?_
      rintro V ⟨gV, fV⟩
      rw [zS_bd2]
      refine zs_m (m_soundsIn h gV) ?_
      rintro ⟨r', W⟩ ⟨hr', fW⟩
      dsimp only at hr' fW ⊢
      rw [m_along h (gV.f fW) c, zbd_s, hr', hr]
      exact ⟨rfl, zIm hPk hCN h gV fV fW⟩
    by_cases c0 : r = 0
    · rw [if_pos c0]
      show zSat (fX12_along t N) (fun e' => e'.1 = 0 ∧ Inv Pk e'.2)
      refine zs_m fin ?_
      rintro e ⟨e1, e2⟩
      refine ⟨?_, e2⟩
      rw [e1]
      refine zbits_f _ fun i _ => ?_
      unfold zalg
      rw [c0, zrou_0 _ (by omega)]; simp
    · rw [if_neg c0, e_ringing h hN.x w1 (kn c0) c, zbd_s]
      show zSat (fX12_along t N) (fun e' => e'.1 = zbits (zalg σ t r) (σ 40 0).toNat ∧ Inv Pk e'.2)
      exact fin
  · rw [if_neg c, if_pos rfl]
    show zSat (fX12_along t M) _
    unfold fX12_along
    rw [m_isBeat, zbd_s, if_neg c, if_pos rfl]
    exact ⟨rfl, Inv.z hPk hA h hC⟩
end ALG
