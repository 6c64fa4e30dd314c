/-! PURE PART, 23: feed, both -/
section FE2
variable {Pk : zMem}
variable {σ M : zMem} {k s x w : Int} {a b c : Int}
def zbl (a b c : Int) (i : Nat) : Int := zby (if i < 8 then a else if i < 16 then b else c) (i % 8)
def zfdn (a b c : Int) (M : zMem) : Nat → zMem
  | 0 => M
  | i + 1 => zpsh 203 200 (zbl a b c i) (zfdn a b c M i)
def zbs (v : Int) : List Int := [zby v 0, zby v 1, zby v 2, zby v 3, zby v 4, zby v 5, zby v 6, zby v 7]
theorem zfdn_fed : zfdn a b c M 24 = zfed 203 200 (zbs a ++ (zbs b ++ zbs c)) M := rfl
theorem zfdn_b (h : 0 ≤ M 200 1 ∧ M 200 1 ≤ 1000) : ∀ i : Nat, 0 ≤ zfdn a b c M i 200 1 ∧ zfdn a b c M i 200 1 ≤ 1000
  | 0 => h
  | i + 1 => by
    have := zfdn_b h i
    show 0 ≤ zpsh 203 200 (zbl a b c i) (zfdn a b c M i) 200 1 ∧ zpsh 203 200 (zbl a b c i) (zfdn a b c M i) 200 1 ≤ 1000
    rw [zpsh_1 (by decide)]; split <;> omega
theorem m_feed1 (h : 0 ≤ M 200 1 ∧ M 200 1 ≤ 1000) {v : Int} {i : Nat} (hi : i < 24) : fX12_feed_j39 a b c i v M = some (.inl (((i + 1 : Nat) : Int), zpsh 203 200 (zby v (i % 8)) M)) := by
  have br := zby_r (v := v) (i := i % 8)
  unfold fX12_feed_j39 fX12_feed_j93
  rw [zland_255, zand_7 i hi, show zlushr v (56 - 8 * ((i % 8 : Nat) : Int)) % 256 = zby v (i % 8) from rfl, zw_i (x := zby v (i % 8)) (by omega) (by omega), zw_i (x := (i : Int) + 1) (by omega) (by omega), show (i : Int) + 1 = ((i + 1 : Nat) : Int) by omega]
  unfold zpsh
  generalize zby v (i % 8) = q at br ⊢
  by_cases c0 : 1000 ≤ M 200 1
  · rw [if_pos c0, if_neg (fun g => by have := g.2; omega)]
  · rw [if_neg c0, zgd_t ⟨h.1, by omega⟩, zup_ne (show (200 : Nat) ≠ 203 by decide), zw_i (x := M 200 1 + 1) (by omega) (by omega)]
    by_cases c1 : q = 10
    · rw [if_pos c1, if_pos ⟨Or.inl c1, by omega⟩]
    · rw [if_neg c1]
      by_cases c2 : q < 32
      · rw [if_pos c2, if_neg (fun g => by have := g.1; omega)]
      · rw [if_neg c2]
        by_cases c3 : 126 < q
        · rw [if_pos c3, if_neg (fun g => by have := g.1; omega)]
        · rw [if_neg c3, if_pos ⟨Or.inr ⟨by omega, by omega⟩, by omega⟩]
theorem m_feed (h : 0 ≤ M 200 1 ∧ M 200 1 ≤ 1000) : fX12_feed a b c M = some (zfed 203 200 (zbs a ++ (zbs b ++ zbs c)) (zup M 200 0 0) 200 1, zfed 203 200 (zbs a ++ (zbs b ++ zbs c)) (zup M 200 0 0)) := by
  have h' : 0 ≤ zup M 200 0 0 200 1 ∧ zup M 200 0 0 200 1 ≤ 1000 := by rw [zup_nk (by decide)]; exact h
  unfold fX12_feed
  rw [show zit (fun s4 : Int × zMem => fX12_feed_l8 a b c (s4.1) (s4.2)) (0, zup M 200 0 0) = some (((24 : Nat) : Int), zfdn a b c (zup M 200 0 0) 24) from zit_for 24 (fun i => ((i : Int), zfdn a b c (zup M 200 0 0) i)) (fun i hi => by
    show fX12_feed_l8 a b c i (zfdn a b c (zup M 200 0 0) i) = some (.inl (((i + 1 : Nat) : Int), zpsh 203 200 (zbl a b c i) (zfdn a b c (zup M 200 0 0) i)))
    have hb := zfdn_b (a := a) (b := b) (c := c) h' i
    unfold fX12_feed_l8 zbl
    rw [if_neg (by omega), m_feed1 hb hi, m_feed1 hb hi, m_feed1 hb hi]
    by_cases c1 : i < 8
    · rw [if_neg (by omega), if_pos c1]
    · rw [if_pos (by omega), if_neg c1]
      by_cases c2 : i < 16
      · rw [if_neg (by omega), if_pos c2]
      · rw [if_pos (by omega), if_neg c2]) (by
    show fX12_feed_l8 a b c ((24 : Nat) : Int) _ = _
    unfold fX12_feed_l8
    rw [if_pos (by decide)])]
  rw [zbd_s, zfdn_fed]
theorem zfed_b {d e : Nat} (hde : d ≠ e) : ∀ (l : List Int) (M : zMem), 0 ≤ M e 1 ∧ M e 1 ≤ 1000 → 0 ≤ zfed d e l M e 1 ∧ zfed d e l M e 1 ≤ 1000
  | [], _, h => h
  | s :: l, M, h => zfed_b hde l _ (by rw [zpsh_1 hde]; split <;> omega)
theorem e_feed (h : 0 ≤ M 20 1 ∧ M 20 1 ≤ 1000) : fX11_feed a b c M = some (zfed 21 20 (zbs a ++ (zbs b ++ zbs c)) M 20 1, zfed 21 20 (zbs a ++ (zbs b ++ zbs c)) M) := by
  unfold fX11_feed
  rw [e_addBytes h, zbd_s, e_addBytes (zfed_b (by decide) _ _ h), zbd_s, e_addBytes (zfed_b (by decide) _ _ (zfed_b (by decide) _ _ h)), zbd_s, zfed_app, zfed_app]
  rfl
theorem c_feed (hI : Inv Pk M) : zAlike Pk (fX11_feed a b c M) (fX12_feed a b c) := by
  obtain ⟨σ, hA, h, hC, hPk⟩ := hI
  have hta := h.2.2.2.1
  have e20 : M 20 1 = σ 20 1 := hA 20 1 rfl
  have e201 : M 200 1 = σ 20 1 := a_tp h hA.x
  unfold zAlike
  rw [e_feed (by rw [e20]; exact hta.1.2)]
  show zSat (fX12_feed a b c (zfed 21 20 (zbs a ++ (zbs b ++ zbs c)) M)) (fun e' => e'.1 = zfed 21 20 (zbs a ++ (zbs b ++ zbs c)) M 20 1 ∧ Inv Pk e'.2)
  have e1 : zfed 21 20 (zbs a ++ (zbs b ++ zbs c)) M 200 1 = σ 20 1 := by rw [zfed_n (by decide)]; exact e201
  rw [m_feed (by rw [e1]; exact hta.1.2)]
  show zfed 203 200 (zbs a ++ (zbs b ++ zbs c)) (zup (zfed 21 20 (zbs a ++ (zbs b ++ zbs c)) M) 200 0 0) 200 1 = zfed 21 20 (zbs a ++ (zbs b ++ zbs c)) M 20 1 ∧ Inv Pk (zfed 203 200 (zbs a ++ (zbs b ++ zbs c)) (zup (zfed 21 20 (zbs a ++ (zbs b ++ zbs c)) M) 200 0 0))
  generalize zbs a ++ (zbs b ++ zbs c) = l
  have hAl : zAg (zfed 21 20 l σ) (zfed 21 20 l M) := zAg.fed rfl l hA
  have hA2 : zAg (zfed 203 200 l (zfed 21 20 l σ)) (zfed 203 200 l (zup (zfed 21 20 l M) 200 0 0)) := zAg.fed rfl l (hAl.up rfl)
  have tr0 : zTR σ (zfed 21 20 l σ) := ⟨⟨by rw [zfed_n (by decide)]; exact hta.1.1, hta.1.2⟩, fun k k0 k1 => by rw [zfed_n (by decide)]; exact hta.2 k k0 k1⟩
  have tr := tr0.fed l
  generalize hσ' : zfed 203 200 l (zfed 21 20 l σ) = σ' at hA2 tr
  have ec : ∀ q : Nat, q ≠ 20 → q ≠ 21 → q ≠ 200 → q ≠ 203 → σ' q = σ q := fun q q1 q2 q3 q4 => by rw [← hσ', zfed_n ⟨q4, q3⟩, zfed_n ⟨q2, q1⟩]
  have e20' : σ' 20 = zfed 21 20 l σ 20 := by rw [← hσ', zfed_n (by decide)]
  have e21' : σ' 21 = zfed 21 20 l σ 21 := by rw [← hσ', zfed_n (by decide)]
  have e43 : σ' 200 43 = σ 200 43 := by rw [← hσ', zfed_k (by decide) (by decide), zfed_n (by decide)]
  have st : St σ' := by
    refine ⟨zSu_fr h.1 (fun c _ _ => ec c (by omega) (by omega) (by omega) (by omega)) (fun c k hk => by rw [ec c (by have := zrow_lt hk; omega) (by have := zrow_lt hk; omega) (by have := zrow_lt hk; omega) (by have := zrow_lt hk; omega)]), ?_, zMk_fr h.2.2.1 ⟨ec 6 (by decide) (by decide) (by decide) (by decide), ec 7 (by decide) (by decide) (by decide) (by decide), ec 262 (by decide) (by decide) (by decide) (by decide), ec 263 (by decide) (by decide) (by decide) (by decide)⟩ (fun c _ _ => ec c (by omega) (by omega) (by omega) (by omega)) (fun j c k _ hk => by rw [ec c (by have := zrow_lt hk; omega) (by have := zrow_lt hk; omega) (by have := zrow_lt hk; omega) (by have := zrow_lt hk; omega)]) (fun c k _ _ _ => by rw [ec c (by omega) (by omega) (by omega) (by omega)]), ?_, zSt0_fr h.2.2.2.2 (fun c _ _ => ec c (by omega) (by omega) (by omega) (by omega))⟩
    · rw [e43]
      exact zPi_fr h.2.1 (fun c _ _ => ec c (by omega) (by omega) (by omega) (by omega)) (fun c _ _ => ec c (by omega) (by omega) (by omega) (by omega)) (fun c k _ _ _ _ => by rw [ec c (by omega) (by omega) (by omega) (by omega)])
    · unfold zTa
      rw [e20', e21']
      exact tr
  refine ⟨?_, σ', hA2, st, ?_, fun q => ⟨by rw [ec 6 (by decide) (by decide) (by decide) (by decide)]; exact (hPk q).1, by rw [ec 7 (by decide) (by decide) (by decide) (by decide)]; exact (hPk q).2⟩⟩
  · have g1 := hA2 200 1 rfl
    have g2 := hAl 20 1 rfl
    rw [g1, g2, tr.1.1]
  · refine Cs.sig (σ := σ) (hC.fr fun q q0 q1 => ?_) (fun q q0 => ec q (by omega) (by omega) (by omega) (by omega))
    rw [zfed_n (by omega)]
    funext z
    rw [zup_ne (by omega), zfed_n (by omega)]
end FE2
