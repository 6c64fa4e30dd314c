/-! PURE PART, 16: the model's laws; WHY, as the model has it -/
section MLW
variable {σ M : zMem} {k b s t n x w : Int} {F F' : Int → Int} {d : Nat}
theorem m_opens {d : Int} (hd : 0 ≤ d ∧ d < 7) : fX12_opens d M = some (zmo d M) := by
  unfold fX12_opens
  rw [zgd_t hd, zgd_t hd, zgd_t hd, zgd_t hd, zgd_t hd]; rfl
theorem m_sums {d : Int} (hd : 0 ≤ d ∧ d < 7) : fX12_sums d M = some (zms d M) := by
  unfold fX12_sums fX12_sums_j45 zms
  simp only [zgd_t hd]
  by_cases c : M 238 d = 21
  · rw [if_pos c, if_pos c]
  · rw [if_neg c, if_neg c]
def zmT (d v : Int) (N : zMem) : zMem := zup (zup (zup (zup N 233 d v) 236 d 0) 237 d 0) 238 d 20
theorem m_t136 {d v : Int} (hd : 0 ≤ d ∧ d < 7) : fX12_tests_j136 d v M = some (zmT d v M) := by
  unfold fX12_tests_j136
  simp only [zgd_t hd]; rfl
theorem m_t106 {d v : Int} (hd : 0 ≤ d ∧ d < 7) : fX12_tests_j106 d v M = some (zmT d (if M 234 d = 27 then (if M 233 d = 0 then (if v = 0 then 0 else 1) else 1) else v) M) := by
  unfold fX12_tests_j106 fX12_tests_j130 fX12_tests_j135
  simp only [zgd_t hd, m_t136 hd]
  by_cases c : M 234 d = 27
  · by_cases c1 : M 233 d = 0
    · by_cases c2 : v = 0
      · simp [c, c1, c2]
      · simp [c, c1, c2]
    · simp [c, c1]
  · simp [c]
theorem m_t76 {d v : Int} (hd : 0 ≤ d ∧ d < 7) : fX12_tests_j76 d v M = fX12_tests_j106 d (if M 234 d = 26 then (if M 233 d = 0 then 0 else if v = 0 then 0 else 1) else v) M := by
  unfold fX12_tests_j76 fX12_tests_j104 fX12_tests_j105
  simp only [zgd_t hd]
  by_cases c : M 234 d = 26
  · by_cases c1 : M 233 d = 0
    · simp [c, c1]
    · by_cases c2 : v = 0
      · simp [c, c1, c2]
      · simp [c, c1, c2]
  · simp [c]
theorem m_t44 {d v : Int} (hd : 0 ≤ d ∧ d < 7) : fX12_tests_j44 d v M = fX12_tests_j76 d (if M 236 d = 25 then (if M 235 d = M 237 d then 1 else 0) else v) M := by
  unfold fX12_tests_j44 fX12_tests_j75
  simp only [zgd_t hd]
  by_cases c : M 236 d = 25
  · by_cases c1 : M 235 d = M 237 d
    · simp [c, c1]
    · simp [c, c1]
  · simp [c]
theorem m_tests {d : Int} (hd : 0 ≤ d ∧ d < 7) : fX12_tests d M = some (zmt d M) := by
  unfold fX12_tests fX12_tests_j43
  rw [m_sums hd, zbd_s]
  show _ = some (zmT d (zmv d (zms d M)) (zms d M))
  generalize zms d M = N
  simp only [zgd_t hd, m_t44 hd, m_t76 hd, m_t106 hd]
  unfold zmv
  by_cases c : N 236 d = 24
  · by_cases c1 : N 237 d ≤ N 235 d
    · simp only [if_pos c, if_pos c1]
    · simp only [if_pos c, if_neg c1]
  · simp only [if_neg c]
/-- what is delivered to the next open level -/
theorem m_deliver {q i : Int} (hi : z32 (i + 1)) : ∀ (d : Nat) (v : Int), d < 7 → zbd (zit (fun s26 : Int × Int => fX12_worked_l268 q i (s26.1) (s26.2) M) ((d : Int), v)) (fun s33 => fX12_worked_j300 q (s33.1) i (s33.2) M) = some (.inl (((zmd d v M).1 : Int), i + 1, (zmd d v M).2))
  | 0, v, _ => by
    rw [zit_r (f := fun s26 : Int × Int => fX12_worked_l268 q i (s26.1) (s26.2) M) (e := (((0 : Nat) : Int), v)) (by show fX12_worked_l268 q i ((0 : Nat) : Int) v M = _; unfold fX12_worked_l268; rw [if_pos (by omega)]), zbd_s]
    unfold fX12_worked_j300 fX12_worked_j328
    rw [zw_i (x := i + 1) hi.1 hi.2]
    dsimp only
    rw [zgd_t ⟨by omega, by omega⟩]
    by_cases c : M 240 ((0 : Nat) : Int) = 0
    · rw [if_pos c, zgd_t ⟨by omega, by omega⟩]
      unfold zmd
      rw [if_pos (show M 240 0 = 0 from c)]; rfl
    · rw [if_neg c, zgd_t ⟨by omega, by omega⟩, zgd_t ⟨by omega, by omega⟩]
      unfold zmd
      rw [if_neg (show ¬ M 240 0 = 0 from c)]; rfl
  | d + 1, v, hd => by
    by_cases c0 : M 241 ((d + 1 : Nat) : Int) = 1
    · have st : fX12_worked_l268 q i ((d + 1 : Nat) : Int) v M = some (.inl ((d : Int), if v = 0 then 1 else 0)) := by
        unfold fX12_worked_l268 fX12_worked_j292
        rw [if_neg (by omega), zgd_t ⟨by omega, by omega⟩, if_pos c0, zw_i (x := ((d + 1 : Nat) : Int) + -1) (by omega) (by omega), show ((d + 1 : Nat) : Int) + -1 = d by omega]
        by_cases c1 : v = 0
        · rw [if_pos c1, if_pos c1]
        · rw [if_neg c1, if_neg c1]
      rw [zit_l (f := fun s26 : Int × Int => fX12_worked_l268 q i (s26.1) (s26.2) M) (s := (((d + 1 : Nat) : Int), v)) st, m_deliver hi d _ (by omega)]
      have : zmd (d + 1) v M = zmd d (if v = 0 then 1 else 0) M := by
        show (if M 241 ((d + 1 : Nat) : Int) = 1 then _ else _) = _
        rw [if_pos c0]
      rw [this]
    · rw [zit_r (f := fun s26 : Int × Int => fX12_worked_l268 q i (s26.1) (s26.2) M) (s := (((d + 1 : Nat) : Int), v)) (e := (((d + 1 : Nat) : Int), v)) (by show fX12_worked_l268 q i ((d + 1 : Nat) : Int) v M = _; unfold fX12_worked_l268; rw [if_neg (by omega), zgd_t ⟨by omega, by omega⟩, if_neg c0]), zbd_s]
      have : zmd (d + 1) v M = (d + 1, zup M 239 (d + 1 : Nat) (if M 240 (d + 1 : Nat) = 0 then v else zw (M 239 (d + 1 : Nat) * v))) := by
        show (if M 241 ((d + 1 : Nat) : Int) = 1 then _ else _) = _
        rw [if_neg c0]
      rw [this]
      unfold fX12_worked_j300 fX12_worked_j328
      rw [zw_i (x := i + 1) hi.1 hi.2]
      dsimp only
      rw [zgd_t ⟨by omega, by omega⟩]
      by_cases c : M 240 ((d + 1 : Nat) : Int) = 0
      · rw [if_pos c, zgd_t ⟨by omega, by omega⟩, if_pos c]
      · rw [if_neg c, zgd_t ⟨by omega, by omega⟩, zgd_t ⟨by omega, by omega⟩, if_neg c]
theorem zmd_r : ∀ (d : Nat) (v : Int) (N : zMem), (zmd d v N).1 ≤ d ∧ zFr 233 242 N (zmd d v N).2
  | 0, v, N => ⟨Nat.le_refl _, (zFr.refl _ _ _).up (by omega) (by omega)⟩
  | d + 1, v, N => by
    unfold zmd
    split
    · have := zmd_r d (if v = 0 then 1 else 0) N
      exact ⟨by omega, this.2⟩
    · exact ⟨Nat.le_refl _, (zFr.refl _ _ _).up (by omega) (by omega)⟩
theorem zms_f {d : Int} : zFr 233 242 M (zms d M) := ((zFr.refl _ _ _).up (by omega) (by omega)).up (by omega) (by omega)
theorem zmt_f {d : Int} : zFr 233 242 M (zmt d M) := (((zms_f.up (by omega) (by omega)).up (by omega) (by omega)).up (by omega) (by omega)).up (by omega) (by omega)
theorem zmo_f {N : zMem} {d : Int} (h : zFr 233 242 M N) : zFr 233 242 M (zmo d N) := ((((h.up (by omega) (by omega)).up (by omega) (by omega)).up (by omega) (by omega)).up (by omega) (by omega)).up (by omega) (by omega)
theorem zm1_f {c : Int} {s : Nat × zMem} (hd : d ≤ 6) (h : zm1 c d M = some s) : s.1 ≤ 6 ∧ zFr 233 242 M s.2 := by
  unfold zm1 at h
  by_cases c1 : c = 28 ∨ c = 30
  · rw [if_pos c1] at h
    by_cases c2 : d < 6
    · rw [if_pos c2] at h; cases h; exact ⟨c2, zmo_f ((zFr.refl _ _ _).up (by omega) (by omega))⟩
    · rw [if_neg c2] at h; cases h
  rw [if_neg c1] at h
  by_cases c2 : c = 20 ∨ c = 21
  · rw [if_pos c2] at h; cases h; exact ⟨hd, zms_f.up (by omega) (by omega)⟩
  rw [if_neg c2] at h
  by_cases c3 : c = 22
  · rw [if_pos c3] at h; cases h; exact ⟨hd, (zFr.refl _ _ _).up (by omega) (by omega)⟩
  rw [if_neg c3] at h
  by_cases c4 : c = 24 ∨ c = 25
  · rw [if_pos c4] at h; cases h; exact ⟨hd, (((zms_f.up (by omega) (by omega)).up (by omega) (by omega)).up (by omega) (by omega)).up (by omega) (by omega)⟩
  rw [if_neg c4] at h
  by_cases c5 : c = 26 ∨ c = 27
  · rw [if_pos c5] at h; cases h; exact ⟨hd, zmt_f.up (by omega) (by omega)⟩
  rw [if_neg c5] at h
  by_cases c6 : c = 29
  · rw [if_pos c6] at h
    cases d with
    | zero => cases h
    | succ e =>
      cases h
      have := zmd_r e (zmt (e + 1 : Nat) M 233 (e + 1 : Nat)) (zmt (e + 1 : Nat) M)
      exact ⟨by omega, zmt_f.trans this.2⟩
  rw [if_neg c6] at h
  by_cases c7 : 100 ≤ c
  · rw [if_pos c7] at h; cases h
    have := zmd_r d (zw (c - 100)) M
    exact ⟨by omega, this.2⟩
  rw [if_neg c7] at h
  by_cases c8 : 1 ≤ c ∧ c ≤ 5
  · rw [if_pos c8] at h; cases h
    have := zmd_r d (M 242 c) M
    exact ⟨by omega, this.2⟩
  · rw [if_neg c8] at h; cases h
theorem m_work1 {q i e : Int} {s : Nat × zMem} (hd : d ≤ 6) (hq : 0 ≤ q ∧ q < 24) (hi : 0 ≤ i ∧ i < e ∧ e ≤ 6000) (he : M 228 q = e) (h : zm1 (M 229 i) d M = some s) : fX12_worked_l14 q d i M = some (.inl ((s.1 : Int), i + 1, s.2)) := by
  unfold fX12_worked_l14 fX12_worked_j46 fX12_worked_j66 fX12_worked_j89 fX12_worked_j137 fX12_worked_j194 fX12_worked_j243
  rw [zgd_t hq, he, if_neg (by omega), zgd_t ⟨by omega, by omega⟩, zw_i (x := i + 1) (by omega) (by omega)]
  have hd7 : (0 : Int) ≤ d ∧ (d : Int) < 7 := by omega
  unfold zm1 at h
  generalize M 229 i = c at h ⊢
  by_cases c1 : c = 28 ∨ c = 30
  · rw [if_pos c1] at h
    by_cases c2 : d < 6
    · rw [if_pos c2] at h; cases h
      have e1 : zw ((d : Int) + 1) = ((d + 1 : Nat) : Int) := by rw [zw_i (by omega) (by omega)]; omega
      rcases c1 with rfl | rfl
      · rw [if_pos rfl, if_neg (by decide), e1, zgd_t ⟨by omega, by omega⟩, m_opens ⟨by omega, by omega⟩, zbd_s, if_neg (by decide)]
      · rw [if_neg (by decide), if_pos rfl, if_pos rfl, e1, zgd_t ⟨by omega, by omega⟩, m_opens ⟨by omega, by omega⟩, zbd_s, if_pos rfl]
    · rw [if_neg c2] at h; cases h
  rw [if_neg c1] at h
  rw [if_neg (show ¬ c = 28 from fun q => c1 (Or.inl q)), if_neg (show ¬ c = 30 from fun q => c1 (Or.inr q))]
  by_cases c2 : c = 20 ∨ c = 21
  · rw [if_pos c2] at h; cases h
    rcases c2 with rfl | rfl
    · rw [if_pos rfl, m_sums hd7, zbd_s, zgd_t hd7]
    · rw [if_neg (by decide), if_pos rfl, m_sums hd7, zbd_s, zgd_t hd7]
  rw [if_neg c2] at h
  rw [if_neg (show ¬ c = 20 from fun q => c2 (Or.inl q)), if_neg (show ¬ c = 21 from fun q => c2 (Or.inr q))]
  by_cases c3 : c = 22
  · rw [if_pos c3] at h; cases h
    rw [if_pos c3, zgd_t hd7]
  rw [if_neg c3] at h
  rw [if_neg c3]
  by_cases c4 : c = 24 ∨ c = 25
  · rw [if_pos c4] at h; cases h
    rcases c4 with rfl | rfl
    · rw [if_pos rfl, m_sums hd7, zbd_s, zgd_t hd7, zgd_t hd7, zgd_t hd7, zgd_t hd7, zgd_t hd7]
    · rw [if_neg (by decide), if_pos rfl, m_sums hd7, zbd_s, zgd_t hd7, zgd_t hd7, zgd_t hd7, zgd_t hd7, zgd_t hd7]
  rw [if_neg c4] at h
  rw [if_neg (show ¬ c = 24 from fun q => c4 (Or.inl q)), if_neg (show ¬ c = 25 from fun q => c4 (Or.inr q))]
  by_cases c5 : c = 26 ∨ c = 27
  · rw [if_pos c5] at h; cases h
    rcases c5 with rfl | rfl
    · rw [if_pos rfl, m_tests hd7, zbd_s, zgd_t hd7]
    · rw [if_neg (by decide), if_pos rfl, m_tests hd7, zbd_s, zgd_t hd7]
  rw [if_neg c5] at h
  rw [if_neg (show ¬ c = 26 from fun q => c5 (Or.inl q)), if_neg (show ¬ c = 27 from fun q => c5 (Or.inr q))]
  by_cases c6 : c = 29
  · rw [if_pos c6] at h
    subst c6
    cases d with
    | zero => cases h
    | succ e =>
      cases h
      rw [if_pos (by decide), if_pos (by decide), if_pos rfl, m_tests hd7, zbd_s, zgd_t hd7, zw_i (x := ((e + 1 : Nat) : Int) + -1) (by omega) (by omega), show ((e + 1 : Nat) : Int) + -1 = e by omega]
      exact m_deliver ⟨by omega, by omega⟩ e _ (by omega)
  rw [if_neg c6] at h
  by_cases c7 : 100 ≤ c
  · rw [if_pos c7] at h; cases h
    rw [if_neg (by omega), if_neg c6]
    exact m_deliver ⟨by omega, by omega⟩ d _ (by omega)
  rw [if_neg c7] at h
  by_cases c8 : 1 ≤ c ∧ c ≤ 5
  · rw [if_pos c8] at h; cases h
    rw [if_pos (by omega), if_neg (by omega), zgd_t ⟨by omega, by omega⟩, if_neg c6]
    exact m_deliver ⟨by omega, by omega⟩ d _ (by omega)
  · rw [if_neg c8] at h; cases h
theorem m_workrun {q e : Int} (he : e ≤ 6000) (hq : 0 ≤ q ∧ q < 24) : ∀ (m : Nat) (i : Int) (N : zMem) (d : Nat) (s : Nat × zMem), zmr (zseg (N 229) i m) d N = some s → d ≤ 6 → N 228 q = e → 0 ≤ i → i + m = e → zit (fun s56 : Int × Int × zMem => fX12_worked_l14 q (s56.1) (s56.2.1) (s56.2.2)) ((d : Int), i, N) = some ((s.1 : Int), e, s.2) ∧ s.1 ≤ 6 ∧ zFr 233 242 N s.2
  | 0, i, N, d, s, hr, hd, hN, hi, hie => by
    have : (d, N) = s := by simpa [zseg, zmr] using hr
    subst this
    have hie : i = e := by simpa using hie
    subst hie
    refine ⟨zit_r (f := fun s56 : Int × Int × zMem => fX12_worked_l14 q (s56.1) (s56.2.1) (s56.2.2)) (s := ((d : Int), i, N)) ?_, hd, zFr.refl _ _ _⟩
    show fX12_worked_l14 q d i N = _
    unfold fX12_worked_l14
    rw [zgd_t hq, hN, if_pos (Int.le_refl _)]
  | m + 1, i, N, d, s, hr, hd, hN, hi, hie => by
    unfold zseg zmr at hr
    cases h1 : zm1 (N 229 i) d N with
    | none => rw [h1] at hr; cases hr
    | some s1 =>
      rw [h1] at hr
      have f1 := zm1_f hd h1
      have st := m_work1 hd hq (e := e) ⟨hi, by omega, he⟩ hN h1
      have hr' : zmr (zseg (s1.2 229) (i + 1) m) s1.1 s1.2 = some s := by rw [f1.2 229 (by omega)]; exact hr
      have g := m_workrun he hq m (i + 1) s1.2 s1.1 s hr' f1.1 (by rw [f1.2 228 (by omega)]; exact hN) (by omega) (by omega)
      exact ⟨(zit_l (f := fun s56 : Int × Int × zMem => fX12_worked_l14 q (s56.1) (s56.2.1) (s56.2.2)) (s := ((d : Int), i, N)) st).trans g.1, g.2.1, f1.2.trans g.2.2⟩
theorem zSc_233 {c : Nat} (k : Int) (h1 : 230 ≤ c) (h2 : c < 245) : zSc c k = false := by
  have : c = 230 ∨ c = 231 ∨ c = 232 ∨ c = 233 ∨ c = 234 ∨ c = 235 ∨ c = 236 ∨ c = 237 ∨ c = 238 ∨ c = 239 ∨ c = 240 ∨ c = 241 ∨ c = 242 ∨ c = 243 ∨ c = 244 := by omega
  rcases this with rfl | rfl | rfl | rfl | rfl | rfl | rfl | rfl | rfl | rfl | rfl | rfl | rfl | rfl | rfl <;> rfl
theorem zAx.f233 {N : zMem} (hA : zAx σ M) (hf : zFr 230 245 M N) : zAx σ N := fun c k hn hs => by
  by_cases hc : c < 230 ∨ 245 ≤ c
  · rw [hf c hc]; exact hA c k hn hs
  · rw [zSc_233 k (by omega) (by omega)] at hs; cases hs
theorem zAg.f233 {N : zMem} (hA : zAg σ M) (hf : zFr 230 245 M N) : zAg σ N := (hA.x.f233 hf).g (by rw [hf 249 (by omega)]; exact hA.fl 249 rfl)
theorem m_worked (h : St σ) (hA : zAx σ M) {q : Nat} (hq : (q : Int) < σ 40 13) (hF : ∀ i : Int, 1 ≤ i → i ≤ 5 → M 242 i = F i) (hz : ∀ i : Int, 1 ≤ i → i ≤ 5 → z32 (F i)) : zSat (fX12_worked q M) (fun e => e.1 = zlw σ q F ∧ zFr 233 242 M e.2) := by
  have hsn := r_sn h
  obtain ⟨-, ⟨p1, p2, p3⟩, v, hv, hm, -⟩ := r_sp h q hq
  have zl : zlw σ q F = v F := by unfold zlw; rw [hv F]
  have vF : v (M 242) = v F := by
    have a := hv (M 242)
    rw [zrp_c hF, hv F] at a
    have a := Option.some.inj a
    exact ((List.cons.inj a).1).symm
  obtain ⟨M', g1, g2⟩ := hm M (fun i i0 i1 => by rw [hF i i0 i1]; exact hz i i0 i1)
  have e7 : M 227 q = σ 227 q := hA 227 q (by decide) (zt_li (by decide) (by omega))
  have e8 : M 228 q = σ 228 q := hA 228 q (by decide) (zt_li (by decide) (by omega))
  have fo : zFr 233 242 M (zmo 0 M) := zmo_f (zFr.refl _ _ _)
  have es : zseg (zmo 0 M 229) (σ 227 q) (σ 228 q - σ 227 q).toNat = zseg (σ 229) (σ 227 q) (σ 228 q - σ 227 q).toNat := zseg_c fun i hi => by
    rw [fo 229 (by omega)]; exact hA 229 _ (by decide) (zt_co (by omega))
  have run := m_workrun (q := (q : Int)) (e := σ 228 q) (by omega) ⟨by omega, by omega⟩ (σ 228 q - σ 227 q).toNat (σ 227 q) (zmo 0 M) 0 (0, M') (by rw [es]; exact g1) (by omega) (by rw [fo 228 (by omega)]; exact e8) (by omega) (by omega)
  unfold fX12_worked
  rw [m_opens (by decide), zbd_s, zgd_t ⟨by omega, by omega⟩, show zmo 0 M 227 q = σ 227 q by rw [fo 227 (by omega)]; exact e7]
  rw [show zit (fun s56 : Int × Int × zMem => fX12_worked_l14 q (s56.1) (s56.2.1) (s56.2.2)) (0, σ 227 q, zmo 0 M) = _ from run.1, zbd_s]
  dsimp only
  rw [m_tests (by decide), zbd_s, zgd_t (by decide), zl, ← vF]
  exact ⟨g2, (fo.trans run.2.2).trans zmt_f⟩
theorem zall_s (i : Nat) : zall σ F (i + 1) = (zall σ F i && decide (zlw σ i F ≠ 0)) := rfl
theorem m_whyIn {fg : Int → Int} {tr : Int} (h : St σ) (hA : zAx σ M) (hM : Cm σ M) (h0 : 0 ≤ n) (h1 : n < σ 80 0) (ht : σ 83 n ≤ t ∧ t < σ 83 n + σ 84 n) (htr : 1 ≤ tr ∧ tr ≤ 99) (hg : ∀ k : Int, 0 ≤ k → k ≤ n → M 249 k = fg k) : zSat (fX12_whyIn n t tr M) (fun e => e.1 = zwhy σ fg n t tr ∧ zFr 233 243 M e.2) := by
  have hn := r_nn h
  have hbw := r_bw h
  have hsn := r_sn h
  have hti := r_ti h
  have nb := r_nb h h0 h1
  have nl := r_nl h h0 h1
  have np := r_np h h0 h1
  have sz := r_sz h nb.1 nb.2.1
  have kd := r_kd h nb.1 nb.2.1
  have cr := (hM _ nb.1 nb.2.1).1
  have wm := (hM _ nb.1 nb.2.1).2 t (by omega) (by omega)
  have ckr : -1 ≤ zcrk σ (σ 82 n) ∧ zcrk σ (σ 82 n) < 200 := zck_r (σ := σ) (σ 82 n) 200
  have hmul := zmul_b (a := σ 44 (σ 82 n)) (b := tr) (A := 99) (B := 99) (by omega) (by omega)
  unfold fX12_whyIn fX12_whyIn_j93
  rw [a_nb h hA h0 h1, a_nr h hA h0 h1, a_st h hA (k := 3) (by decide) (by decide), zw_i (x := t - σ 83 n) (by omega) (by omega), cr, a_sz h hA nb.1 nb.2.1, m_isDry h hA h0 h1 (t := t) (by omega) (by omega) hg, zbd_s, zw_i (x := σ 44 (σ 82 n) * tr) (by omega) (by omega)]
  simp only [zgd_t (show (0 : Int) ≤ n ∧ n < 120 by omega), zgd_t (show (0 : Int) ≤ 3 ∧ (3 : Int) < 66 by decide), zgd_t (show (0 : Int) ≤ σ 82 n ∧ σ 82 n < 12 by omega), zgd_t (show (0 : Int) ≤ σ 82 n ∧ σ 82 n < 72 by omega), zgd_t (show (0 : Int) ≤ 1 ∧ (1 : Int) < 20 by decide), zgd_t (show (0 : Int) ≤ 2 ∧ (2 : Int) < 20 by decide), zgd_t (show (0 : Int) ≤ 3 ∧ (3 : Int) < 20 by decide), zgd_t (show (0 : Int) ≤ 4 ∧ (4 : Int) < 20 by decide), zgd_t (show (0 : Int) ≤ 5 ∧ (5 : Int) < 20 by decide), zgd_t (show (0 : Int) ≤ 200 * σ 82 n + t ∧ 200 * σ 82 n + t < 2400 by omega), zup_ne (show (218 : Nat) ≠ 242 by decide), zup_ne (show (248 : Nat) ≠ 242 by decide), zup_ne (show (250 : Nat) ≠ 242 by decide), zup_ne (show (246 : Nat) ≠ 242 by decide), zup_ne (show (217 : Nat) ≠ 242 by decide)]
  rw [a_kd h hA nb.1 nb.2.1, a_np h hA h0 h1, wm, a_nr h hA h0 h1, a_wl h hA nb.1 nb.2.1]
  unfold zwhy
  by_cases c1 : t - σ 83 n < σ 59 3
  · rw [if_neg (by omega), if_pos c1]; exact ⟨rfl, zFr.refl _ _ _⟩
  rw [if_pos (by omega), if_neg c1]
  have em : zcrm σ (σ 82 n) = if zcrk σ (σ 82 n) = -1 then 100000000 else zcrk σ (σ 82 n) := by unfold zcrm; rfl
  rw [em]
  generalize zcrk σ (σ 82 n) = z at ckr ⊢
  by_cases c2 : z ≠ -1 ∧ z ≤ t
  · rw [if_pos c2, if_neg]
    · exact ⟨rfl, zFr.refl _ _ _⟩
    · rw [if_neg c2.1]; omega
  have c2' : t < (if z = -1 then 100000000 else z) := by
    by_cases d : z = -1
    · rw [if_pos d]; omega
    · rw [if_neg d]
      have : ¬ z ≤ t := fun q => c2 ⟨d, q⟩
      omega
  rw [if_pos c2', if_neg c2]
  by_cases c3 : zdry σ fg n t
  · rw [if_pos c3, if_pos c3, if_neg (show ¬ (1 : Int) = 0 by decide)]; exact ⟨rfl, zFr.refl _ _ _⟩
  rw [if_neg c3, if_neg c3, if_pos rfl, zw_i (x := t - σ 83 n) (by omega) (by omega)]
  have fin : ∀ pr : Int, pr = σ 85 n - (if σ 46 (σ 82 n) = 2 then 1 else 0) → zSat (zbd (zit (fun s20 : Int × zMem => fX12_whyIn_l144 (s20.1) (s20.2)) (0, zup (zup (zup (zup (zup M 242 1 (σ 44 (σ 82 n) * tr)) 242 2 pr) 242 3 (zwm σ (σ 82 n) t.toNat)) 242 4 (t - σ 83 n)) 242 5 (σ 45 (σ 82 n)))) fun e => zel e (fun s26 => some (0, s26.2)) (fun r => some r)) (fun e => e.1 = (if zall σ (zfc σ n t tr) (σ 40 13).toNat = true then 0 else 4) ∧ zFr 233 243 M e.2) := by
    intro pr hpr
    generalize hN : zup (zup (zup (zup (zup M 242 1 (σ 44 (σ 82 n) * tr)) 242 2 pr) 242 3 (zwm σ (σ 82 n) t.toNat)) 242 4 (t - σ 83 n)) 242 5 (σ 45 (σ 82 n)) = N
    have fN : zFr 233 243 M N := by
      rw [← hN]; exact (((((zFr.refl _ _ _).up (by omega) (by omega)).up (by omega) (by omega)).up (by omega) (by omega)).up (by omega) (by omega)).up (by omega) (by omega)
    have F0 : ∀ i : Int, 1 ≤ i → i ≤ 5 → N 242 i = zfc σ n t tr i := fun i i0 i1 => by
      rw [← hN]
      have : i = 1 ∨ i = 2 ∨ i = 3 ∨ i = 4 ∨ i = 5 := by omega
      rcases this with rfl | rfl | rfl | rfl | rfl <;> simp [zup, zfc, hpr]
    have wb := zwm_b (b := σ 82 n) h t.toNat
    have wl := r_wl h nb.1 nb.2.1
    have Fz : ∀ i : Int, 1 ≤ i → i ≤ 5 → z32 (zfc σ n t tr i) := fun i i0 i1 => by
      have e1 : zfc σ n t tr 1 = σ 44 (σ 82 n) * tr := by simp [zfc]
      have e2 : zfc σ n t tr 2 = pr := by simp [zfc, hpr]
      have e3 : zfc σ n t tr 3 = zwm σ (σ 82 n) t.toNat := by simp [zfc]
      have e4 : zfc σ n t tr 4 = t - σ 83 n := by simp [zfc]
      have e5 : zfc σ n t tr 5 = σ 45 (σ 82 n) := by simp [zfc]
      have pb : -1 ≤ pr ∧ pr ≤ 9 := by rw [hpr]; split <;> omega
      have : i = 1 ∨ i = 2 ∨ i = 3 ∨ i = 4 ∨ i = 5 := by omega
      rcases this with rfl | rfl | rfl | rfl | rfl
      · rw [e1]; exact ⟨by omega, by omega⟩
      · rw [e2]; exact ⟨by omega, by omega⟩
      · rw [e3]; exact ⟨by omega, by omega⟩
      · rw [e4]; exact ⟨by omega, by omega⟩
      · rw [e5]; exact ⟨by omega, by omega⟩
    rw [zS_bd]
    refine zit_i2 (fun y N => fX12_whyIn_l144 y N) (fun r y V => ∃ i : Nat, y = (i : Int) ∧ (i : Int) ≤ σ 40 13 ∧ r = (σ 40 13 - i).toNat ∧ zFr 233 243 M V ∧ V 242 = N 242 ∧ zall σ (zfc σ n t tr) i = true) ?_ _ ⟨0, rfl, by omega, rfl, fN, rfl, rfl⟩
    rintro r y V ⟨i, rfl, i1, hr, vF, ve, va⟩
    have hA' : zAx σ V := hA.f233 (vF.mono (by omega) (by omega))
    show zSat (fX12_whyIn_l144 i V) _
    unfold fX12_whyIn_l144
    rw [a_sn h hA', zgd_t (by decide)]
    by_cases c0 : σ 40 13 ≤ i
    · rw [if_pos c0]
      have : (σ 40 13).toNat = i := by omega
      rw [this]
      exact ⟨(if_pos va).symm, vF⟩
    · rw [if_neg c0, zS_bd2]
      refine zs_m (m_worked (F := zfc σ n t tr) h hA' (q := i) (by omega) (fun j j0 j1 => by rw [ve]; exact F0 j j0 j1) Fz) ?_
      rintro ⟨u, U⟩ ⟨hu, uF⟩
      dsimp only at hu uF ⊢
      have gF' : zFr 233 243 M U := vF.trans (uF.mono (by omega) (by omega))
      by_cases c5 : u = 0
      · rw [if_pos c5]
        have hz : zall σ (zfc σ n t tr) (i + 1) = false := by rw [zall_s, va]; simp [← hu, c5]
        have mono : ∀ j : Nat, i + 1 ≤ j → zall σ (zfc σ n t tr) j = false := by
          intro j hj
          induction hj with
          | refl => exact hz
          | step _ ih => rw [zall_s, ih]; rfl
        refine ⟨?_, gF'⟩
        show (4 : Int) = _
        rw [mono _ (by omega)]; rfl
      · rw [if_neg c5, zw_i (by omega) (by omega)]
        exact ⟨(σ 40 13 - (i + 1 : Nat)).toNat, by omega, i + 1, by show (i : Int) + 1 = _; omega, by omega, rfl, gF', by rw [← ve]; exact uF 242 (by omega), by rw [zall_s, va]; simp [← hu, c5]⟩
  by_cases c4 : σ 46 (σ 82 n) = 2
  · rw [if_pos c4, zw_i (x := σ 85 n - 1) (by omega) (by omega)]
    exact fin _ (by rw [if_pos c4])
  · rw [if_neg c4, zw_i (x := σ 85 n - 0) (by omega) (by omega)]
    exact fin _ (by rw [if_neg c4])
end MLW
