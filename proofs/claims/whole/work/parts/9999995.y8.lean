/-! MACHINE ROWS, 90: the start -/
theorem z32_unt (k : Int) : z32 (zunt k) ∧ z32 (zlea k) ∧ z32 (zmos k) := by
  refine ⟨?_, ?_, ?_⟩
  · unfold zunt
    repeat' split
    all_goals exact ⟨by decide, by decide⟩
  · unfold zlea
    repeat' split
    all_goals exact ⟨by decide, by decide⟩
  · unfold zmos
    repeat' split
    all_goals exact ⟨by decide, by decide⟩
section STA
variable {s : State} {b L : Nat} {xs : Nat → Int32}
theorem zKn (hts : ∀ w ∈ lw_tbl, w.before #[Value.ref b] s = true) : ∀ ci : Nat, ∃ q : ClassId × (Nat → Nat), ∀ r : vw_C, vwCl[ci]? = some r → u_Kn s r.1 r.2.1 r.2.2 q.1 q.2 := fun ci => match ci with
  | 0 => by
    obtain ⟨c, i, h⟩ := u_known (C := RX0) (T := TX0) (N := 11) (n := 11) hts (fun w hw => (List.mem_filter.mp (zinX0 w hw)).1) (hts _ (List.mem_filter.mp zkb_X0).1)
    exact ⟨(c, i), fun r hr => by cases hr; exact h⟩
  | 1 => by
    obtain ⟨c, i, h⟩ := u_known (C := RX1) (T := TX1) (N := 14) (n := 14) hts (fun w hw => (List.mem_filter.mp (zinX1 w hw)).1) (hts _ (List.mem_filter.mp zkb_X1).1)
    exact ⟨(c, i), fun r hr => by cases hr; exact h⟩
  | 2 => by
    obtain ⟨c, i, h⟩ := u_known (C := RX2) (T := TX2) (N := 2) (n := 2) hts (fun w hw => (List.mem_filter.mp (zinX2 w hw)).1) (hts _ (List.mem_filter.mp zkb_X2).1)
    exact ⟨(c, i), fun r hr => by cases hr; exact h⟩
  | 3 => by
    obtain ⟨c, i, h⟩ := u_known (C := RX3) (T := TX3) (N := 3) (n := 3) hts (fun w hw => (List.mem_filter.mp (zinX3 w hw)).1) (hts _ (List.mem_filter.mp zkb_X3).1)
    exact ⟨(c, i), fun r hr => by cases hr; exact h⟩
  | 4 => by
    obtain ⟨c, i, h⟩ := u_known (C := RX4) (T := TX4) (N := 8) (n := 8) hts (fun w hw => (List.mem_filter.mp (zinX4 w hw)).1) (hts _ (List.mem_filter.mp zkb_X4).1)
    exact ⟨(c, i), fun r hr => by cases hr; exact h⟩
  | 5 => by
    obtain ⟨c, i, h⟩ := u_known (C := RX5) (T := TX5) (N := 6) (n := 6) hts (fun w hw => (List.mem_filter.mp (zinX5 w hw)).1) (hts _ (List.mem_filter.mp zkb_X5).1)
    exact ⟨(c, i), fun r hr => by cases hr; exact h⟩
  | 6 => by
    obtain ⟨c, i, h⟩ := u_known (C := RX6) (T := TX6) (N := 6) (n := 6) hts (fun w hw => (List.mem_filter.mp (zinX6 w hw)).1) (hts _ (List.mem_filter.mp zkb_X6).1)
    exact ⟨(c, i), fun r hr => by cases hr; exact h⟩
  | 7 => by
    obtain ⟨c, i, h⟩ := u_known (C := RX7) (T := TX7) (N := 19) (n := 19) hts (fun w hw => (List.mem_filter.mp (zinX7 w hw)).1) (hts _ (List.mem_filter.mp zkb_X7).1)
    exact ⟨(c, i), fun r hr => by cases hr; exact h⟩
  | 8 => by
    obtain ⟨c, i, h⟩ := u_known (C := RX8) (T := TX8) (N := 4) (n := 4) hts (fun w hw => (List.mem_filter.mp (zinX8 w hw)).1) (hts _ (List.mem_filter.mp zkb_X8).1)
    exact ⟨(c, i), fun r hr => by cases hr; exact h⟩
  | 9 => by
    obtain ⟨c, i, h⟩ := u_known (C := RX9) (T := TX9) (N := 8) (n := 8) hts (fun w hw => (List.mem_filter.mp (zinX9 w hw)).1) (hts _ (List.mem_filter.mp zkb_X9).1)
    exact ⟨(c, i), fun r hr => by cases hr; exact h⟩
  | 10 => by
    obtain ⟨c, i, h⟩ := u_known (C := RX10) (T := TX10) (N := 6) (n := 6) hts (fun w hw => (List.mem_filter.mp (zinX10 w hw)).1) (hts _ (List.mem_filter.mp zkb_X10).1)
    exact ⟨(c, i), fun r hr => by cases hr; exact h⟩
  | 11 => by
    obtain ⟨c, i, h⟩ := u_known (C := RX11) (T := TX11) (N := 13) (n := 13) hts (fun w hw => (List.mem_filter.mp (zinX11 w hw)).1) (hts _ (List.mem_filter.mp zkb_X11).1)
    exact ⟨(c, i), fun r hr => by cases hr; exact h⟩
  | 12 => by
    obtain ⟨c, i, h⟩ := u_known (C := RX12) (T := TX12) (N := 63) (n := 63) hts (fun w hw => (List.mem_filter.mp (zinX12 w hw)).1) (hts _ (List.mem_filter.mp zkb_X12).1)
    exact ⟨(c, i), fun r hr => by cases hr; exact h⟩
  | _ + 13 => ⟨(0, fun _ => 0), fun r hr => by simp [vwCl] at hr⟩
theorem zstart {A : Nat → Prop} (hA : ∀ a : Nat, a < s.heap.size → ¬ A a) (hts : ∀ w ∈ lw_tbl, w.before #[Value.ref b] s = true) (hgv : (Jvm.Cond.and given_1 narrow_1).before #[Value.ref b] s = true) (hL : L ≤ 448) (hX : va_X b L xs s s.heap) (l : Launch) (hl : l.stackTraces = false) (D : va_G) :
    ∃ ad : Nat → Nat, ad 1003 = b ∧ zGr ad A s s.heap ∧ zGx l A s s.heap ∧ zWd s D (zZ0 L) ad (zm0 (fun k => (xs k.toNat).toInt)) A s.heap := by
  have gi : ∀ {k : Nat} {w : Cond}, zfl[k]? = some w → w.before #[Value.ref b] s = true := fun h => flat_of_before _ hgv _ (List.mem_of_getElem? h)
  obtain ⟨aU, cU, eU, u1, u2, u3, u4, u5⟩ := zrow11 (f := fun j => zunt j) (gi zfl_U.1) (gi zfl_U.2.1) (fun j hj => gi (zfl_U.2.2.1 j hj))
  obtain ⟨aL, cL, eL, l1, l2, l3, l4, l5⟩ := zrow11 (f := fun j => zlea j) (gi zfl_L.1) (gi zfl_L.2.1) (fun j hj => gi (zfl_L.2.2 j hj))
  obtain ⟨aM, cM, eM, m1, m2, m3, m4, m5⟩ := zrow11 (f := fun j => zmos j) (gi zfl_M.1) (gi zfl_M.2.1) (fun j hj => gi (zfl_M.2.2 j hj))
  have two : ∀ i : Nat, i < 2 → i = 0 ∨ i = 1 := fun i h => by omega
  have ne01 : (Cond.not (.eq (zst1 0) (zst1 1))).before #[Value.ref b] s = true := gi zfl_S1.2.2.2.2.2
  obtain ⟨adK, adV, hSt, hSe⟩ := vk_Sof (args := #[Value.ref b]) (s := s) (N := 2) (tm := zst1) (len := zSl) (byt := zSb) (A := A) (fun i hi => by
      rcases two i hi with rfl | rfl
      · exact (by decide : (232 : Nat) < 2 ^ 31)
      · exact (by decide : (8 : Nat) < 2 ^ 31)) (fun i hi => by
      rcases two i hi with rfl | rfl
      · exact gi zfl_S0.1
      · exact gi zfl_S1.1) (fun i hi => by
      rcases two i hi with rfl | rfl
      · exact gi zfl_S0.2.1
      · exact gi zfl_S1.2.1) (fun i hi => by
      rcases two i hi with rfl | rfl
      · exact gi zfl_S0.2.2.1
      · exact gi zfl_S1.2.2.1) (fun i hi => by
      rcases two i hi with rfl | rfl
      · exact gi zfl_S0.2.2.2
      · exact gi zfl_S1.2.2.2.1) (fun i hi j hj => by
      rcases two i hi with rfl | rfl
      · exact gi (zfl_B0 j hj)
      · exact gi (zfl_B1 j hj)) (fun i j hi hj hij => by
      rcases two i hi with rfl | rfl <;> rcases two j hj with rfl | rfl
      · exact absurd rfl hij
      · exact Or.inl ne01
      · exact Or.inr ne01
      · exact absurd rfl hij) hA
  obtain ⟨vf, ef, hf⟩ := Cond.isRef_spec (args := #[Value.ref b]) (first := s) (o := none) (s := s) (idx := []) (gi zfl_1.2.1)
  obtain ⟨fm, hfm⟩ : ∃ fm : Nat, va_Z "jdk/internal/util/Preconditions" "SIOOBE_FORMATTER" "Ljava/util/function/BiFunction;" .null A s s.heap ∨ va_Z "jdk/internal/util/Preconditions" "SIOOBE_FORMATTER" "Ljava/util/function/BiFunction;" (.ref fm) A s s.heap := by
    have z := va_Zof (hts _ (zL_3 _ (List.mem_of_getElem? (i := 105) rfl))) (hts _ (zL_1 _ (List.mem_of_getElem? (i := 17) rfl))) ef hA
    cases vf with
    | null => exact ⟨0, Or.inl z⟩
    | ref q => exact ⟨q, Or.inr z⟩
    | _ => cases hf
  obtain ⟨s1, i1, j1, k1, t1, -⟩ := Cond.exactly_spec (args := #[Value.ref b]) (first := s) (o := none) (s := s) (idx := []) (gi zfl_T.1)
  obtain ⟨s2, i2, j2, k2, t2, -⟩ := Cond.exactly_spec (args := #[Value.ref b]) (first := s) (o := none) (s := s) (idx := []) (gi zfl_T.2)
  obtain ⟨scr, x1, x2, x3, x4, x5⟩ := id hX
  refine ⟨fun i => if i = 1000 then aU else if i = 1001 then aL else if i = 1002 then aM else if i = 1003 then b else if i = 1010 then adK 0 else if i = 1011 then adK 1 else if i = 1020 then adV 0 else if i = 1021 then adV 1 else fm, rfl, ?_, ?_, ?_⟩
  · refine ⟨fun w hw hn => va_Nw.of (zNl_tab hn) (hts w hw), ⟨va_Zof (hts _ (zL_1 _ (List.mem_of_getElem? (i := 64) rfl))) (hts _ (zL_1 _ (List.mem_of_getElem? (i := 1) rfl))) eU hA, va_Zof (hts _ (zL_4 _ (List.mem_of_getElem? (i := 53) rfl))) (hts _ (zL_1 _ (List.mem_of_getElem? (i := 1) rfl))) eL hA, va_Zof (hts _ (zL_4 _ (List.mem_of_getElem? (i := 55) rfl))) (hts _ (zL_1 _ (List.mem_of_getElem? (i := 1) rfl))) eM hA⟩, ⟨vk_R.of (hts _ (zL_2 _ (List.mem_of_getElem? (i := 65) rfl))) (hSe 0 (by decide)), vk_R.of (hts _ (zL_3 _ (List.mem_of_getElem? (i := 84) rfl))) (va_eqR (gi zfl_S1.2.2.2.2.1) (hSe 0 (by decide))), vk_R.of (hts _ (zL_3 _ (List.mem_of_getElem? (i := 132) rfl))) (hSe 1 (by decide))⟩, ⟨fun i hi => ?_, fun i j hi hj e => ?_⟩, va_Zof (hts _ (zL_2 _ (List.mem_of_getElem? (i := 75) rfl))) (hts _ (zL_1 _ (List.mem_of_getElem? (i := 10) rfl))) (va_eqt (gi zfl_1.1)) hA, hfm, va_Oof (gi zfl_U.2.2.2) eU hA, va_AO.of (hts _ (zL_2 _ (List.mem_of_getElem? (i := 12) rfl))), va_AO.of (hts _ (zL_2 _ (List.mem_of_getElem? (i := 13) rfl)))⟩
    · rcases two i hi with rfl | rfl
      · exact hSt.1 0 hi
      · exact hSt.1 1 hi
    · rcases two i hi with rfl | rfl <;> rcases two j hj with rfl | rfl
      · rfl
      · exact hSt.2 0 1 hi hj e
      · exact hSt.2 1 0 hi hj e
      · rfl
  · exact ⟨hl, vx_Zqof (hts _ (zL_6 _ (List.mem_of_getElem? (i := 154) rfl))) (hts _ (zL_1 _ (List.mem_of_getElem? (i := 22) rfl))) (gi zfl_1.2.2.1) hA, vx_Zqof (hts _ (zL_6 _ (List.mem_of_getElem? (i := 156) rfl))) (hts _ (zL_1 _ (List.mem_of_getElem? (i := 22) rfl))) (gi zfl_1.2.2.2) hA, ⟨s1, vk_R.of (hts _ (zL_6 _ (List.mem_of_getElem? (i := 166) rfl))) t1⟩, ⟨s2, vk_R.of (hts _ (zL_6 _ (List.mem_of_getElem? (i := 199) rfl))) t2⟩⟩
  · have hn : ∀ (i : Nat) (h : zSh), zZ0 L i = some h → ¬ i < 1000 := fun i h hi q => by rw [zZ0_n q] at hi; cases hi
    have hk : ∀ (i : Nat) (h : zSh), zZ0 L i = some h → h = .inr (9, 0) ∨ (i = 1000 ∧ h = .inr (0, 11)) ∨ (i = 1001 ∧ h = .inr (0, 11)) ∨ (i = 1002 ∧ h = .inr (0, 11)) ∨ (i = 1003 ∧ h = .inr (0, L)) := by
      intro i h hi
      unfold zZ0 at hi
      split at hi
      · cases hi
        rename_i q
        rcases q with q | q | q
        · exact Or.inr (Or.inl ⟨q, rfl⟩)
        · exact Or.inr (Or.inr (Or.inl ⟨q, rfl⟩))
        · exact Or.inr (Or.inr (Or.inr (Or.inl ⟨q, rfl⟩)))
      · split at hi
        · cases hi
          rename_i q
          exact Or.inr (Or.inr (Or.inr (Or.inr ⟨q, rfl⟩)))
        · split at hi
          · cases hi; exact Or.inl rfl
          · cases hi
    refine ⟨fun i h hi => ?_, fun i j h g hi1 hi => absurd hi1 (hn i h hi), fun i h hi hi1 => absurd hi1 (hn i h hi), fun i h hi hq => ?_⟩
    · rcases hk i h hi with rfl | ⟨rfl, rfl⟩ | ⟨rfl, rfl⟩ | ⟨rfl, rfl⟩ | ⟨rfl, rfl⟩
      · intro q
        exact absurd q (by decide)
      · exact fun _ => ⟨⟨cU, u1, ⟨u2, fun q => absurd q (by decide)⟩, fun q => absurd q (by decide), u3, u4, u5⟩, by decide, fun j _ => (z32_unt j).1⟩
      · exact fun _ => ⟨⟨cL, l1, ⟨l2, fun q => absurd q (by decide)⟩, fun q => absurd q (by decide), l3, l4, l5⟩, by decide, fun j _ => (z32_unt j).2.1⟩
      · exact fun _ => ⟨⟨cM, m1, ⟨m2, fun q => absurd q (by decide)⟩, fun q => absurd q (by decide), m3, m4, m5⟩, by decide, fun j _ => (z32_unt j).2.2⟩
      · refine fun _ => ⟨⟨scr, x1, ⟨x2, fun q => absurd q (by decide)⟩, fun q => absurd q (by decide), x3, x4, fun j hj => ?_⟩, by omega, fun j _ => z32_i _⟩
        rw [x5 j hj]
        show some (Value.int (xs j)) = some (Value.int (Int32.ofInt (xs ((j : Int)).toNat).toInt))
        rw [Int32.ofInt_toInt, Int.toNat_natCast]
    · rcases hk i h hi with rfl | ⟨rfl, rfl⟩ | ⟨rfl, rfl⟩ | ⟨rfl, rfl⟩ | ⟨rfl, rfl⟩
      · exact (hq.elim (fun q => absurd q (hn i _ hi)) (fun q => absurd rfl q))
      · exact (Array.getElem?_eq_some_iff.mp u1).1
      · exact (Array.getElem?_eq_some_iff.mp l1).1
      · exact (Array.getElem?_eq_some_iff.mp m1).1
      · exact (Array.getElem?_eq_some_iff.mp x1).1
end STA
