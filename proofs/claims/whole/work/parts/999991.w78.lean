/-! PURE PART, 78: all lines -/
section RD1
variable {M V M' V' M0 V0 : zMem} {T : Int → Int} {n : Int}
theorem s_line (hS : ∀ k : Int, 0 ≤ k → k < 11 → M0 1001 k = zlea k ∧ M0 1002 k = zmos k) (h : xL T n M0 V0 M V) (hc : (M 23 (M 30 3) / 1024) ≠ 0) : (∃ M' V' : zMem, fX6_line M = some (1, M') ∧ fX12_readsAll_l84 V = some (.inl V') ∧ xL1 T n M0 V0 M M' V') ∨ (∃ Mf Vf : zMem, fX6_line M = some (0, Mf) ∧ fX12_readsAll_l84 V = some (.inr (.inr (0, Vf))) ∧ xFt M0 V0 Mf Vf) := by
  have hJ := h.1.1
  have t0 : V 200 6 ≠ 0 := fun q => by
    rcases hJ.2.2.2.2.1 with x | x | x | x | x
    · exact hc x.1
    · omega
    · omega
    · omega
    · omega
  have fin : ∀ (f g : Option (Int × zMem)), xS (xL1 T n M0 V0 M) (xFt M0 V0) f g → (∃ M' V' : zMem, (zbd2 f fun r M => some (r, M)) = some (1, M') ∧ (zbd2 g fun r M => fX12_readsAll_j164 r M) = some (.inl V') ∧ xL1 T n M0 V0 M M' V') ∨ (∃ Mf Vf : zMem, (zbd2 f fun r M => some (r, M)) = some (0, Mf) ∧ (zbd2 g fun r M => fX12_readsAll_j164 r M) = some (.inr (.inr (0, Vf))) ∧ xFt M0 V0 Mf Vf) := fun f g hs => by
    obtain ⟨M', V', q | q⟩ := hs
    · exact Or.inl ⟨M', V', by rw [q.1]; rfl, by rw [q.2.1]; rfl, q.2.2⟩
    · exact Or.inr ⟨M', V', by rw [q.1]; rfl, by rw [q.2.1]; rfl, q.2.2⟩
  have bad : ∀ k : Int, 0 < k → k ≤ 5 → xS (xL1 T n M0 V0 M) (xFt M0 V0) (fX6_refuse k M) (fX12_fails k V) := fun k k0 k1 => by
    obtain ⟨f1, f2, f3⟩ := s_fail h.1 k0 k1
    exact ⟨_, _, Or.inr ⟨f1, f2, f3⟩⟩
  unfold fX6_line fX12_readsAll_l84
  rw [if_neg t0, (e_seen hJ).1, zbd_s, m_isWord hJ (k := 0) (by omega) xwk_0.symm, zbd_s, m_isWord hJ (k := 7) (by omega) xwk_7.symm, zbd_s, m_isWord hJ (k := 9) (by omega) xwk_9.symm, zbd_s, m_isWord hJ (k := 10) (by omega) xwk_10.symm, zbd_s]
  have nb := h.2.1.1
  have np := h.2.2.1.1
  have ns := h.2.2.2.1
  by_cases c1 : (M 23 (M 30 3) / 1024) = 100
  · rw [if_pos c1, if_pos (show (M 23 (M 30 3) / 1024) = 100 + ((0 : Nat) : Int) from c1), if_neg (show ¬ (1 : Int) = 0 by decide)]
    by_cases d : 12 ≤ M 60 0
    · rw [if_pos d]
      refine fin _ _ ?_
      unfold fX12_readsBowl
      rw [zgd_t (by decide), if_pos (show V 211 1 = 12 by omega)]
      obtain ⟨M', V', q | q⟩ := bad 5 (by decide) (by decide)
      · exact ⟨M', V', Or.inl ⟨q.1, by rw [q.2.1]; rfl, q.2.2⟩⟩
      · exact ⟨M', V', Or.inr ⟨q.1, by rw [q.2.1]; rfl, q.2.2⟩⟩
    · rw [if_neg d]
      exact fin _ _ (s_bowl h c1 (by omega))
  rw [if_neg c1, if_neg (show ¬ (M 23 (M 30 3) / 1024) = 100 + ((0 : Nat) : Int) from c1), if_pos (show (0 : Int) = 0 from rfl)]
  by_cases c2 : (M 23 (M 30 3) / 1024) = 107
  · rw [if_pos c2, if_pos (show (M 23 (M 30 3) / 1024) = 100 + ((7 : Nat) : Int) from c2), if_neg (show ¬ (1 : Int) = 0 by decide)]
    by_cases d : 8 ≤ M 60 7
    · rw [if_pos d]
      refine fin _ _ ?_
      unfold fX12_readsPair
      rw [zgd_t (by decide), if_pos (show V 212 1 = 8 by omega)]
      obtain ⟨M', V', q | q⟩ := bad 5 (by decide) (by decide)
      · exact ⟨M', V', Or.inl ⟨q.1, by rw [q.2.1]; rfl, q.2.2⟩⟩
      · exact ⟨M', V', Or.inr ⟨q.1, by rw [q.2.1]; rfl, q.2.2⟩⟩
    · rw [if_neg d]
      exact fin _ _ (s_pair h c2 (by omega))
  rw [if_neg c2, if_neg (show ¬ (M 23 (M 30 3) / 1024) = 100 + ((7 : Nat) : Int) from c2), if_pos (show (0 : Int) = 0 from rfl)]
  by_cases c3 : (M 23 (M 30 3) / 1024) = 109
  · rw [if_pos c3, if_pos (show (M 23 (M 30 3) / 1024) = 100 + ((9 : Nat) : Int) from c3), if_neg (show ¬ (1 : Int) = 0 by decide)]
    by_cases d : 4 ≤ M 60 13
    · rw [if_pos d]
      refine fin _ _ ?_
      unfold fX12_readsSpeak
      rw [zgd_t (by decide), if_pos (show V 213 1 = 4 by omega)]
      obtain ⟨M', V', q | q⟩ := bad 5 (by decide) (by decide)
      · exact ⟨M', V', Or.inl ⟨q.1, by rw [q.2.1]; rfl, q.2.2⟩⟩
      · exact ⟨M', V', Or.inr ⟨q.1, by rw [q.2.1]; rfl, q.2.2⟩⟩
    · rw [if_neg d]
      exact fin _ _ (s_speak h c3 (by omega))
  rw [if_neg c3, if_neg (show ¬ (M 23 (M 30 3) / 1024) = 100 + ((9 : Nat) : Int) from c3), if_pos (show (0 : Int) = 0 from rfl)]
  by_cases c4 : (M 23 (M 30 3) / 1024) = 110
  · rw [if_pos c4, if_pos (show (M 23 (M 30 3) / 1024) = 100 + ((10 : Nat) : Int) from c4), if_neg (show ¬ (1 : Int) = 0 by decide)]
    exact fin _ _ (s_set hS h c4)
  · rw [if_neg c4, if_neg (show ¬ (M 23 (M 30 3) / 1024) = 100 + ((10 : Nat) : Int) from c4), if_pos (show (0 : Int) = 0 from rfl)]
    exact fin _ _ (bad 1 (by decide) (by decide))
theorem s_lines (hS : ∀ k : Int, 0 ≤ k → k < 11 → M0 1001 k = zlea k ∧ M0 1002 k = zmos k) : ∀ (m : Nat) (x : Int) (M V : zMem), m = (M 20 3 - M 30 3).toNat → xL T n M0 V0 M V → M 30 5 = 0 → 0 ≤ x → x ≤ M 30 3 → (∃ (x' : Int) (M' V' : zMem), zit (fun s17 : Int × Int × zMem => fX6_read_l33 (s17.1) (s17.2.1) (s17.2.2)) (1, x, M) = some (1, x', M') ∧ zit (fun s56 : zMem => fX12_readsAll_l84 s56) V = some (.inl V') ∧ xL T n M0 V0 M' V' ∧ M' 30 5 = 0) ∨ (∃ (x' : Int) (Mf Vf : zMem), zit (fun s17 : Int × Int × zMem => fX6_read_l33 (s17.1) (s17.2.1) (s17.2.2)) (1, x, M) = some (0, x', Mf) ∧ zit (fun s56 : zMem => fX12_readsAll_l84 s56) V = some (.inr (0, Vf)) ∧ xFt M0 V0 Mf Vf) := by
  intro m
  induction m using Nat.strongRecOn with
  | ind m ih =>
  intro x M V hm h h5 x0 x1
  have hJ := h.1.1
  have ab := hJ.2.2.1
  have bb := hJ.1.2.2
  by_cases c0 : (M 23 (M 30 3) / 1024) = 0
  · refine Or.inl ⟨x, M, V, zit_r ?_, zit_r ?_, h, h5⟩
    · show fX6_read_l33 1 x M = _
      unfold fX6_read_l33
      rw [if_neg (by omega), if_neg (by decide), (e_seen hJ).1, zbd_s, if_pos c0]
    · show fX12_readsAll_l84 V = _
      unfold fX12_readsAll_l84
      have : V 200 6 = 0 := by
        rcases hJ.2.2.2.2.1 with y | y | ⟨-, y⟩ | y | y
        · exact y.2
        · omega
        · rcases y with y | ⟨k, k1, k2, -⟩
          · omega
          · omega
        · omega
        · have := y.2.1
          have := y.2.2
          omega
      rw [if_pos this]
  · have st : fX6_read_l33 1 x M = zbd2 (fX6_line M) (fun r13 M16 => some (.inl (r13, x + 1, M16))) := by
      unfold fX6_read_l33
      rw [if_neg (by omega), if_neg (by decide), (e_seen hJ).1, zbd_s, if_neg c0, zw_i (by omega) (by omega)]
    rcases s_line hS h c0 with ⟨M1, V1, a1, a2, a3, a4, a5⟩ | ⟨Mf, Vf, a1, a2, a3⟩
    · rw [a1, zbd2_s] at st
      have e204 : M1 20 3 = M 20 3 := by rw [a3.1.2.1 20 (by omega), h.1.2.1 20 (by omega)]
      rcases ih (M1 20 3 - M1 30 3).toNat (by omega) (x + 1) M1 V1 rfl a3 (by rw [a5]; exact h5) (by omega) (by omega) with ⟨x', M', V', b1, b2, b3⟩ | ⟨x', Mf, Vf, b1, b2, b3⟩
      · exact Or.inl ⟨x', M', V', (zit_l (f := fun s17 : Int × Int × zMem => fX6_read_l33 (s17.1) (s17.2.1) (s17.2.2)) (s := (1, x, M)) st).trans b1, (zit_l (f := fun s56 : zMem => fX12_readsAll_l84 s56) (s := V) a2).trans b2, b3⟩
      · exact Or.inr ⟨x', Mf, Vf, (zit_l (f := fun s17 : Int × Int × zMem => fX6_read_l33 (s17.1) (s17.2.1) (s17.2.2)) (s := (1, x, M)) st).trans b1, (zit_l (f := fun s56 : zMem => fX12_readsAll_l84 s56) (s := V) a2).trans b2, b3⟩
    · rw [a1, zbd2_s] at st
      have st2 : fX6_read_l33 0 (x + 1) Mf = some (.inr (0, x + 1, Mf)) := by
        unfold fX6_read_l33
        by_cases u : 1000 < x + 1
        · rw [if_pos u]
        · rw [if_neg u, if_pos rfl]
      exact Or.inr ⟨x + 1, Mf, Vf, (zit_l (f := fun s17 : Int × Int × zMem => fX6_read_l33 (s17.1) (s17.2.1) (s17.2.2)) (s := (1, x, M)) st).trans (zit_r (f := fun s17 : Int × Int × zMem => fX6_read_l33 (s17.1) (s17.2.1) (s17.2.2)) (s := (0, x + 1, Mf)) st2), zit_r (f := fun s56 : zMem => fX12_readsAll_l84 s56) (s := V) a2, a3⟩
end RD1
