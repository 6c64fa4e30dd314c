/-! MACHINE ROWS, 82: mark -/
section MK2
variable {Pk : zMem}
theorem zkc_X11_goBack : Cond.code yX11_goBack cX11_goBack 2 (some .boolean) ∈ zT := zT_inc (i := 104) zL_6 rfl rfl
theorem zkm_X11_288 : Cond.methodLink RX11 288 yX11_goBack ∈ zT := zT_inc (i := 101) zL_6 rfl rfl
theorem zkn_X11_goBack : Cond.instanceMethod yX11_goBack ∈ zT := zT_inc (i := 103) zL_6 rfl rfl
theorem zks_X11_goBack : Cond.selects RX11 yX11_goBack yX11_goBack ∈ zT := zT_inc (i := 68) zL_0 (by decide +kernel) rfl
theorem zkc_X11_lay : Cond.code yX11_lay cX11_lay 2 (some .boolean) ∈ zT := zT_inc (i := 113) zL_6 rfl rfl
theorem zkm_X11_291 : Cond.methodLink RX11 291 yX11_lay ∈ zT := zT_inc (i := 110) zL_6 rfl rfl
theorem zkn_X11_lay : Cond.instanceMethod yX11_lay ∈ zT := zT_inc (i := 112) zL_6 rfl rfl
theorem zks_X11_lay : Cond.selects RX11 yX11_lay yX11_lay ∈ zT := zT_inc (i := 69) zL_0 (by decide +kernel) rfl
theorem zkc_X11_mark : Cond.code yX11_mark cX11_mark 3 (some .boolean) ∈ zT := zT_inc (i := 100) zL_6 rfl rfl
abbrev zmX11_mark : zMI := (yX11_mark, cX11_mark, 3, (some .boolean))
theorem zmw_X11_goBack : zMW zmX11_goBack 1 := ⟨zkc_X11_goBack, zki_X11, by decide +kernel, by decide +kernel, by decide⟩
theorem zmw_X11_lay : zMW zmX11_lay 1 := ⟨zkc_X11_lay, zki_X11, by decide +kernel, by decide +kernel, by decide⟩
theorem zmw_X11_mark : zMW zmX11_mark 2 := ⟨zkc_X11_mark, zki_X11, by decide +kernel, by decide +kernel, by decide⟩
theorem zc_X11_288 : zCV RX11 288 zmX11_goBack 1 := ⟨zkm_X11_288, zkn_X11_goBack, zks_X11_goBack, zmw_X11_goBack⟩
theorem zc_X11_291 : zCV RX11 291 zmX11_lay 1 := ⟨zkm_X11_291, zkn_X11_lay, zks_X11_lay, zmw_X11_lay⟩
theorem zV_lift {y : zMI} {n kc ks kc' ks' : Nat} {Z : zZ} {pc : Nat} {ls : List (Nat × zAV)} {st : List zAV} {M : zMem} {Q : Option zAV → zMem → zZ → Prop} (h1 : kc ≤ kc') (h2 : ks ≤ ks') (k : zV y n kc ks Z pc ls st M Q) : zV y n kc' ks' Z pc ls st M Q :=
  fun p l e R s m args below meth c H locs cells slots A D ad la Qf E Wd S hl a b hr => by
    obtain ⟨x1, x2, x3, x4, x5, x6, x7, x8, x9, x10, x11⟩ := E
    exact k p l e R s m args below meth c H locs cells slots A D ad la Qf ⟨x1, x2, x3, x4, x5, x6, x7, x8, by omega, by omega, x11⟩ Wd S hl a b (fun r M' Z' ad' H' locs' cells' slots' pc ls q1 q2 q3 q4 q5 q6 q7 => hr r M' Z' ad' H' locs' cells' slots' pc ls q1 q2 q3 (by omega) (by omega) q6 q7)
theorem zgb0 {Z : zZ} (hZ : zB Z) {nn : Nat} {x1 : Int} (h0 : 0 ≤ x1 ∧ x1 < 4) {M : zMem} (h6 : M 6 x1 < 0) {Q : Option zAV → zMem → zZ → Prop} (h : Q (some (zI 0)) M Z) : zV zmX11_goBack nn 0 0 Z 0 [(0, zR 0), (1, zI x1)] [] M Q := by
  refine zV_aload_n 0 dX11_goBack_0 rfl rfl ?_
  refine zV_getR (j := 6) (zq_0 hZ) zf_X11_5 zkf_X11_42 rfl dX11_goBack_1 ?_
  refine zV_iload_n 1 dX11_goBack_4 rfl rfl ?_
  refine zV_aaldN (zq_6 hZ) (Or.inl rfl) h0 h6 dX11_goBack_5 ?_
  refine zV_nuN 18 dX11_goBack_6 (by decide) ?_
  refine zV_iconst (v := 0) dX11_goBack_18 rfl ?_
  exact zV_iretb dX11_goBack_19 rfl (Or.inl rfl) h
/-- which marks' cells are there -/
def zMz (Z : zZ) (M : zMem) : Prop := ∀ m : Nat, m < 4 → (M 6 m < 0 → (∀ i : Nat, 400 + 20 * m ≤ i → i < 420 + 20 * m → Z i = none) ∧ ∀ i : Nat, 500 + 10 * m ≤ i → i < 510 + 10 * m → Z i = none) ∧ (¬ M 6 m < 0 → zSU Z (400 + 20 * m) ∧ zPI Z (500 + 10 * m))
theorem zMz.same {Z : zZ} {M M' : zMem} (h : zMz Z M) (e : ∀ q : Int, M' 6 q = M 6 q) : zMz Z M' := fun m hm => by rw [e]; exact h m hm
theorem zLs_r {L : List (Nat × zSh)} {lo hi : Nat} (h : L.all (fun q => decide (lo ≤ q.1) && decide (q.1 < hi)) = true) {Z : zZ} {i : Nat} (hi' : i < lo ∨ hi ≤ i) : zLs L Z i = Z i := by
  refine zLs_n ?_
  induction L with
  | nil => rfl
  | cons q L ih =>
    rw [List.all_cons, Bool.and_eq_true, Bool.and_eq_true, decide_eq_true_eq, decide_eq_true_eq] at h
    unfold zLk
    rw [if_neg (by omega)]
    exact ih h.2
/-- a mark is laid: the cells of the others stay -/
theorem zMz.lay {Z Z' : zZ} {M N : zMem} {m : Nat} (h : zMz Z M) (hz : ∀ i : Nat, (i < 400 + 20 * m ∨ 420 + 20 * m ≤ i) → (i < 500 + 10 * m ∨ 510 + 10 * m ≤ i) → Z' i = Z i) (hm : m < 4) (hS : zSU Z' (400 + 20 * m)) (hP : zPI Z' (500 + 10 * m)) (h6 : ¬ N 6 m < 0) (h6' : ∀ q : Int, q ≠ m → N 6 q = M 6 q) : zMz Z' N := fun r hr => by
  by_cases e : r = m
  · subst e
    exact ⟨fun q => absurd q h6, fun _ => ⟨hS, hP⟩⟩
  · rw [h6' r (by omega)]
    have g := h r hr
    refine ⟨fun q => ⟨fun i i0 i1 => ?_, fun i i0 i1 => ?_⟩, fun q => ⟨fun x hx => ?_, fun x hx => ?_⟩⟩
    · rw [hz i (by omega) (by omega)]; exact (g.1 q).1 i i0 i1
    · rw [hz i (by omega) (by omega)]; exact (g.1 q).2 i i0 i1
    · have b : 400 + 20 * r ≤ x.1 ∧ x.1 < 420 + 20 * r := by
        have : ∀ y ∈ zSUl (400 + 20 * r), 400 + 20 * r ≤ y.1 ∧ y.1 < 420 + 20 * r := by
          unfold zSUl
          simp only [List.forall_mem_cons]
          exact ⟨by omega, by omega, by omega, by omega, by omega, by omega, by omega, by omega, by omega, by omega, by omega, by omega, by omega, by omega, fun _ h => nomatch h⟩
        exact this x hx
      rw [hz x.1 (by omega) (by omega)]; exact (g.2 q).1 x hx
    · have b : 500 + 10 * r ≤ x.1 ∧ x.1 < 510 + 10 * r := by
        have : ∀ y ∈ zPIl (500 + 10 * r), 500 + 10 * r ≤ y.1 ∧ y.1 < 510 + 10 * r := by
          unfold zPIl
          simp only [List.forall_mem_cons]
          exact ⟨by omega, by omega, by omega, by omega, by omega, by omega, fun _ h => nomatch h⟩
        exact this x hx
      rw [hz x.1 (by omega) (by omega)]; exact (g.2 q).2 x hx
/-- what mark leaves behind -/
def zQm (Z : zZ) (x1 x2 : Int) (r : Option zAV) (M' : zMem) (Z' : zZ) : Prop := ∃ b : Int, r = some (zI b) ∧ (b = 0 ∨ b = 1) ∧ zB Z' ∧ Z' 30 = Z 30 ∧ Z' 1003 = Z 1003 ∧ zSat (fX12_mark x1 x2 M') (fun e' => e'.1 = b ∧ (∃ P : zMem, Inv P e'.2) ∧ zMz Z' e'.2)
theorem zlm0_c {M : zMem} {c : Nat} (h6 : c ≠ 6) (h7 : c ≠ 7) (h4 : c < 400 ∨ 420 ≤ c) (h5 : c < 500 ∨ 510 ≤ c) : zlm0 M c = M c := by
  funext q
  unfold zlm0 zmI_X5_500 zmI_X7_400 zup zno zfr zcl
  repeat (first | rw [if_neg (by omega)] | (dsimp only; rw [if_neg (by omega)]))
theorem zlm0_6 {M : zMem} : zlm0 M 6 0 = 400 ∧ zlm0 M 7 0 = 500 := ⟨rfl, rfl⟩
theorem zlm0_q {M : zMem} {q : Int} (h : q ≠ 0) : zlm0 M 6 q = M 6 q ∧ zlm0 M 7 q = M 7 q := by
  unfold zlm0 zmI_X5_500 zmI_X7_400 zup zno zfr zcl
  constructor
  · repeat (first | rw [if_neg (by omega)] | (dsimp only; rw [if_neg (by omega)]))
  · repeat (first | rw [if_neg (by omega)] | (dsimp only; rw [if_neg (by omega)]))
theorem v_lay0 {Z : zZ} (hZ : zB Z) {nn : Nat} (hn : 3 ≤ nn) {M : zMem} (hI : Inv Pk M) (hM : zMz Z M) (hl : M 6 ((0 : Nat) : Int) < 0) : zV zmX11_lay nn 20 1260 Z 0 [(0, zR 0), (1, zI ((0 : Nat) : Int))] [] M (zQm Z ((0 : Nat) : Int) 0) := by
  obtain ⟨g4, g5⟩ := (hM 0 (by decide)).1 hl
  have r4 : ∀ i ∈ (400 :: 403 :: 404 :: 405 :: 406 :: 407 :: 409 :: 410 :: 411 :: 412 :: 413 :: 416 :: 418 :: 419 :: [] : List Nat), 400 ≤ i ∧ i < 420 := by decide
  have r5 : ∀ i ∈ (500 :: 502 :: 503 :: 504 :: 505 :: 506 :: [] : List Nat), 500 ≤ i ∧ i < 510 := by decide
  refine zla_0 hZ hn (fun i hi => g4 i (r4 i hi).1 (r4 i hi).2) (fun i hi => g5 i (r5 i hi).1 (r5 i hi).2) (zq_1000 hZ) hl ?_
  have cl := c_lay hI (m := 0) (by decide) (N := zlm0 M) (fun c c1 c2 c3 c4 => zlm0_c c1 c2 c3 c4) zlm0_6.1 zlm0_6.2 (fun q hq => (zlm0_q hq).1) (fun q hq => (zlm0_q hq).2)
  refine zs_m (o := fX11_lay_j44 400 500 0 (zlm0 M)) cl ?_
  rintro ⟨r, W⟩ ⟨r1, r2, r3⟩
  dsimp only at r1 r2 r3
  subst r1
  have z6 : ∀ i : Nat, (i < 400 ∨ 420 ≤ i) → (i < 500 ∨ 510 ≤ i) → zlz0 Z i = Z i := fun i i0 i1 => by
    unfold zlz0
    rw [zLs_r (lo := 500) (hi := 510) rfl i1, zLs_r (lo := 400) (hi := 420) rfl i0]
  refine ⟨1, rfl, Or.inr rfl, zlz0_B hZ, z6 30 (by omega) (by omega), z6 1003 (by omega) (by omega), zs_m r3 fun e' he => ⟨he.1, ⟨_, he.2.1⟩, ?_⟩⟩
  refine zMz.same (M := zlm0 M) ?_ fun q => (he.2.2 q).1
  exact hM.lay (m := 0) z6 (by decide) zlz0_S zlz0_P (by rw [show zlm0 M 6 ((0 : Nat) : Int) = 400 from zlm0_6.1]; decide) (fun q hq => (zlm0_q hq).1)
theorem zlm1_c {M : zMem} {c : Nat} (h6 : c ≠ 6) (h7 : c ≠ 7) (h4 : c < 420 ∨ 440 ≤ c) (h5 : c < 510 ∨ 520 ≤ c) : zlm1 M c = M c := by
  funext q
  unfold zlm1 zmI_X5_510 zmI_X7_420 zup zno zfr zcl
  repeat (first | rw [if_neg (by omega)] | (dsimp only; rw [if_neg (by omega)]))
theorem zlm1_6 {M : zMem} : zlm1 M 6 1 = 420 ∧ zlm1 M 7 1 = 510 := ⟨rfl, rfl⟩
theorem zlm1_q {M : zMem} {q : Int} (h : q ≠ 1) : zlm1 M 6 q = M 6 q ∧ zlm1 M 7 q = M 7 q := by
  unfold zlm1 zmI_X5_510 zmI_X7_420 zup zno zfr zcl
  constructor
  · repeat (first | rw [if_neg (by omega)] | (dsimp only; rw [if_neg (by omega)]))
  · repeat (first | rw [if_neg (by omega)] | (dsimp only; rw [if_neg (by omega)]))
theorem v_lay1 {Z : zZ} (hZ : zB Z) {nn : Nat} (hn : 3 ≤ nn) {M : zMem} (hI : Inv Pk M) (hM : zMz Z M) (hl : M 6 ((1 : Nat) : Int) < 0) : zV zmX11_lay nn 20 1260 Z 0 [(0, zR 0), (1, zI ((1 : Nat) : Int))] [] M (zQm Z ((1 : Nat) : Int) 0) := by
  obtain ⟨g4, g5⟩ := (hM 1 (by decide)).1 hl
  have r4 : ∀ i ∈ (420 :: 423 :: 424 :: 425 :: 426 :: 427 :: 429 :: 430 :: 431 :: 432 :: 433 :: 436 :: 438 :: 439 :: [] : List Nat), 420 ≤ i ∧ i < 440 := by decide
  have r5 : ∀ i ∈ (510 :: 512 :: 513 :: 514 :: 515 :: 516 :: [] : List Nat), 510 ≤ i ∧ i < 520 := by decide
  refine zla_1 hZ hn (fun i hi => g4 i (r4 i hi).1 (r4 i hi).2) (fun i hi => g5 i (r5 i hi).1 (r5 i hi).2) (zq_1000 hZ) hl ?_
  have cl := c_lay hI (m := 1) (by decide) (N := zlm1 M) (fun c c1 c2 c3 c4 => zlm1_c c1 c2 c3 c4) zlm1_6.1 zlm1_6.2 (fun q hq => (zlm1_q hq).1) (fun q hq => (zlm1_q hq).2)
  refine zs_m (o := fX11_lay_j44 420 510 1 (zlm1 M)) cl ?_
  rintro ⟨r, W⟩ ⟨r1, r2, r3⟩
  dsimp only at r1 r2 r3
  subst r1
  have z6 : ∀ i : Nat, (i < 420 ∨ 440 ≤ i) → (i < 510 ∨ 520 ≤ i) → zlz1 Z i = Z i := fun i i0 i1 => by
    unfold zlz1
    rw [zLs_r (lo := 510) (hi := 520) rfl i1, zLs_r (lo := 420) (hi := 440) rfl i0]
  refine ⟨1, rfl, Or.inr rfl, zlz1_B hZ, z6 30 (by omega) (by omega), z6 1003 (by omega) (by omega), zs_m r3 fun e' he => ⟨he.1, ⟨_, he.2.1⟩, ?_⟩⟩
  refine zMz.same (M := zlm1 M) ?_ fun q => (he.2.2 q).1
  exact hM.lay (m := 1) z6 (by decide) zlz1_S zlz1_P (by rw [show zlm1 M 6 ((1 : Nat) : Int) = 420 from zlm1_6.1]; decide) (fun q hq => (zlm1_q hq).1)
theorem zlm2_c {M : zMem} {c : Nat} (h6 : c ≠ 6) (h7 : c ≠ 7) (h4 : c < 440 ∨ 460 ≤ c) (h5 : c < 520 ∨ 530 ≤ c) : zlm2 M c = M c := by
  funext q
  unfold zlm2 zmI_X5_520 zmI_X7_440 zup zno zfr zcl
  repeat (first | rw [if_neg (by omega)] | (dsimp only; rw [if_neg (by omega)]))
theorem zlm2_6 {M : zMem} : zlm2 M 6 2 = 440 ∧ zlm2 M 7 2 = 520 := ⟨rfl, rfl⟩
theorem zlm2_q {M : zMem} {q : Int} (h : q ≠ 2) : zlm2 M 6 q = M 6 q ∧ zlm2 M 7 q = M 7 q := by
  unfold zlm2 zmI_X5_520 zmI_X7_440 zup zno zfr zcl
  constructor
  · repeat (first | rw [if_neg (by omega)] | (dsimp only; rw [if_neg (by omega)]))
  · repeat (first | rw [if_neg (by omega)] | (dsimp only; rw [if_neg (by omega)]))
theorem v_lay2 {Z : zZ} (hZ : zB Z) {nn : Nat} (hn : 3 ≤ nn) {M : zMem} (hI : Inv Pk M) (hM : zMz Z M) (hl : M 6 ((2 : Nat) : Int) < 0) : zV zmX11_lay nn 20 1260 Z 0 [(0, zR 0), (1, zI ((2 : Nat) : Int))] [] M (zQm Z ((2 : Nat) : Int) 0) := by
  obtain ⟨g4, g5⟩ := (hM 2 (by decide)).1 hl
  have r4 : ∀ i ∈ (440 :: 443 :: 444 :: 445 :: 446 :: 447 :: 449 :: 450 :: 451 :: 452 :: 453 :: 456 :: 458 :: 459 :: [] : List Nat), 440 ≤ i ∧ i < 460 := by decide
  have r5 : ∀ i ∈ (520 :: 522 :: 523 :: 524 :: 525 :: 526 :: [] : List Nat), 520 ≤ i ∧ i < 530 := by decide
  refine zla_2 hZ hn (fun i hi => g4 i (r4 i hi).1 (r4 i hi).2) (fun i hi => g5 i (r5 i hi).1 (r5 i hi).2) (zq_1000 hZ) hl ?_
  have cl := c_lay hI (m := 2) (by decide) (N := zlm2 M) (fun c c1 c2 c3 c4 => zlm2_c c1 c2 c3 c4) zlm2_6.1 zlm2_6.2 (fun q hq => (zlm2_q hq).1) (fun q hq => (zlm2_q hq).2)
  refine zs_m (o := fX11_lay_j44 440 520 2 (zlm2 M)) cl ?_
  rintro ⟨r, W⟩ ⟨r1, r2, r3⟩
  dsimp only at r1 r2 r3
  subst r1
  have z6 : ∀ i : Nat, (i < 440 ∨ 460 ≤ i) → (i < 520 ∨ 530 ≤ i) → zlz2 Z i = Z i := fun i i0 i1 => by
    unfold zlz2
    rw [zLs_r (lo := 520) (hi := 530) rfl i1, zLs_r (lo := 440) (hi := 460) rfl i0]
  refine ⟨1, rfl, Or.inr rfl, zlz2_B hZ, z6 30 (by omega) (by omega), z6 1003 (by omega) (by omega), zs_m r3 fun e' he => ⟨he.1, ⟨_, he.2.1⟩, ?_⟩⟩
  refine zMz.same (M := zlm2 M) ?_ fun q => (he.2.2 q).1
  exact hM.lay (m := 2) z6 (by decide) zlz2_S zlz2_P (by rw [show zlm2 M 6 ((2 : Nat) : Int) = 440 from zlm2_6.1]; decide) (fun q hq => (zlm2_q hq).1)
theorem zlm3_c {M : zMem} {c : Nat} (h6 : c ≠ 6) (h7 : c ≠ 7) (h4 : c < 460 ∨ 480 ≤ c) (h5 : c < 530 ∨ 540 ≤ c) : zlm3 M c = M c := by
  funext q
  unfold zlm3 zmI_X5_530 zmI_X7_460 zup zno zfr zcl
  repeat (first | rw [if_neg (by omega)] | (dsimp only; rw [if_neg (by omega)]))
theorem zlm3_6 {M : zMem} : zlm3 M 6 3 = 460 ∧ zlm3 M 7 3 = 530 := ⟨rfl, rfl⟩
theorem zlm3_q {M : zMem} {q : Int} (h : q ≠ 3) : zlm3 M 6 q = M 6 q ∧ zlm3 M 7 q = M 7 q := by
  unfold zlm3 zmI_X5_530 zmI_X7_460 zup zno zfr zcl
  constructor
  · repeat (first | rw [if_neg (by omega)] | (dsimp only; rw [if_neg (by omega)]))
  · repeat (first | rw [if_neg (by omega)] | (dsimp only; rw [if_neg (by omega)]))
theorem v_lay3 {Z : zZ} (hZ : zB Z) {nn : Nat} (hn : 3 ≤ nn) {M : zMem} (hI : Inv Pk M) (hM : zMz Z M) (hl : M 6 ((3 : Nat) : Int) < 0) : zV zmX11_lay nn 20 1260 Z 0 [(0, zR 0), (1, zI ((3 : Nat) : Int))] [] M (zQm Z ((3 : Nat) : Int) 0) := by
  obtain ⟨g4, g5⟩ := (hM 3 (by decide)).1 hl
  have r4 : ∀ i ∈ (460 :: 463 :: 464 :: 465 :: 466 :: 467 :: 469 :: 470 :: 471 :: 472 :: 473 :: 476 :: 478 :: 479 :: [] : List Nat), 460 ≤ i ∧ i < 480 := by decide
  have r5 : ∀ i ∈ (530 :: 532 :: 533 :: 534 :: 535 :: 536 :: [] : List Nat), 530 ≤ i ∧ i < 540 := by decide
  refine zla_3 hZ hn (fun i hi => g4 i (r4 i hi).1 (r4 i hi).2) (fun i hi => g5 i (r5 i hi).1 (r5 i hi).2) (zq_1000 hZ) hl ?_
  have cl := c_lay hI (m := 3) (by decide) (N := zlm3 M) (fun c c1 c2 c3 c4 => zlm3_c c1 c2 c3 c4) zlm3_6.1 zlm3_6.2 (fun q hq => (zlm3_q hq).1) (fun q hq => (zlm3_q hq).2)
  refine zs_m (o := fX11_lay_j44 460 530 3 (zlm3 M)) cl ?_
  rintro ⟨r, W⟩ ⟨r1, r2, r3⟩
  dsimp only at r1 r2 r3
  subst r1
  have z6 : ∀ i : Nat, (i < 460 ∨ 480 ≤ i) → (i < 530 ∨ 540 ≤ i) → zlz3 Z i = Z i := fun i i0 i1 => by
    unfold zlz3
    rw [zLs_r (lo := 530) (hi := 540) rfl i1, zLs_r (lo := 460) (hi := 480) rfl i0]
  refine ⟨1, rfl, Or.inr rfl, zlz3_B hZ, z6 30 (by omega) (by omega), z6 1003 (by omega) (by omega), zs_m r3 fun e' he => ⟨he.1, ⟨_, he.2.1⟩, ?_⟩⟩
  refine zMz.same (M := zlm3 M) ?_ fun q => (he.2.2 q).1
  exact hM.lay (m := 3) z6 (by decide) zlz3_S zlz3_P (by rw [show zlm3 M 6 ((3 : Nat) : Int) = 460 from zlm3_6.1]; decide) (fun q hq => (zlm3_q hq).1)
theorem v_lay {Z : zZ} (hZ : zB Z) {nn : Nat} (hn : 3 ≤ nn) {M : zMem} (hI : Inv Pk M) (hM : zMz Z M) {m : Nat} (hm : m < 4) : zV zmX11_lay nn 20 1260 Z 0 [(0, zR 0), (1, zI m)] [] M (zQm Z m 0) := by
  by_cases hl : M 6 m < 0
  · have : m = 0 ∨ m = 1 ∨ m = 2 ∨ m = 3 := by omega
    rcases this with rfl | rfl | rfl | rfl
    · exact v_lay0 hZ hn hI hM hl
    · exact v_lay1 hZ hn hI hM hl
    · exact v_lay2 hZ hn hI hM hl
    · exact v_lay3 hZ hn hI hM hl
  · obtain ⟨hS, hP⟩ := (hM m hm).2 hl
    have rm := r_mark hI hm
    have e6 : M 6 m = ((400 + 20 * m : Nat) : Int) := by omega
    have e7 : M 7 m = ((500 + 10 * m : Nat) : Int) := by omega
    refine zV_lift (Nat.zero_le _) (Nat.zero_le _) (fX11_lay_ok hZ hn hS (by omega) hP (by omega) ⟨by omega, by omega⟩ ?_)
    unfold fX11_lay
    rw [zgd_t (show (0 : Int) ≤ m ∧ (m : Int) < 4 by omega), zgd_t e6, zgd_t (show (0 : Int) ≤ m ∧ (m : Int) < 4 by omega), zgd_t e7]
    refine zs_m (c_lay hI hm (N := M) (fun _ _ _ _ _ => rfl) e6 e7 (fun _ _ => rfl) (fun _ _ => rfl)) ?_
    rintro ⟨r, W⟩ ⟨r1, r2, r3⟩
    dsimp only at r1 r2 r3
    subst r1
    exact ⟨1, rfl, Or.inr rfl, hZ, rfl, rfl, zs_m r3 fun e' he => ⟨he.1, ⟨_, he.2.1⟩, hM.same fun q => (he.2.2 q).1⟩⟩
theorem v_mark {Z : zZ} (hZ : zB Z) {nn : Nat} (hn : 4 ≤ nn) {M : zMem} (hI : Inv Pk M) (hM : zMz Z M) {x1 x2 : Int} (hx1 : z32 x1) (hx2 : x2 = 0 ∨ x2 = 1) : zV zmX11_mark nn 20 1260 Z 0 [(0, zR 0), (1, zI x1), (2, zI x2)] [] M (zQm Z x1 x2) := by
  have bad : (¬ (0 ≤ x1 ∧ x1 < 4) ∨ (x2 ≠ 0 ∧ M 6 x1 < 0)) → zQm Z x1 x2 (some (zI 0)) M Z := fun q => ⟨0, rfl, Or.inl rfl, hZ, rfl, rfl, zs_m (c_mark0 hI q) fun e' he => ⟨he.1, ⟨_, he.2⟩, hM.same fun q => by rw [(r_pk he.2 q).1, (r_pk hI q).1]⟩⟩
  refine zV_iload_n 1 dX11_mark_0 rfl rfl ?_
  refine zV_if_lt 9 dX11_mark_1 (by decide) hx1 (fun c => ?_) (fun c => ?_)
  · refine zV_iconst (v := 0) dX11_mark_9 rfl ?_
    exact zV_iretb dX11_mark_10 rfl (Or.inl rfl) (bad (Or.inl (by omega)))
  refine zV_iload_n 1 dX11_mark_4 rfl rfl ?_
  refine zV_iconst (v := 4) dX11_mark_5 rfl ?_
  refine zV_icmp_lt 11 dX11_mark_6 (by decide) hx1 ⟨by decide, by decide⟩ (fun c2 => ?_) (fun c2 => ?_)
  rotate_left
  · refine zV_iconst (v := 0) dX11_mark_9 rfl ?_
    exact zV_iretb dX11_mark_10 rfl (Or.inl rfl) (bad (Or.inl (by omega)))
  obtain ⟨m, rfl⟩ : ∃ m : Nat, x1 = m := ⟨x1.toNat, by omega⟩
  have hm : m < 4 := by omega
  refine zV_iload_n 2 dX11_mark_11 rfl rfl ?_
  refine zV_if_eq 23 dX11_mark_12 (by decide) (z32_01 hx2) (fun c3 => ?_) (fun c3 => ?_)
  · subst c3
    refine zV_aload_n 0 dX11_mark_23 rfl rfl ?_
    refine zV_iload_n 1 dX11_mark_24 rfl rfl ?_
    refine zV_callV (kc := 0) (ks := 0) (mc := 20) (ms := 1260) (n' := 3) (As := [zI m]) (Q' := zQm Z m 0) zc_X11_291 (zq_0 hZ) rfl dX11_mark_25 (by omega) rfl (Nat.le_of_ble_eq_true rfl) (Nat.le_of_ble_eq_true rfl) rfl (v_lay hZ (Nat.le_refl _) hI hM hm) ?_
    rintro r M' Z' _ ⟨b, rfl, hb, q⟩
    exact zV_iretb dX11_mark_28 rfl hb ⟨b, rfl, hb, q⟩
  · refine zV_aload_n 0 dX11_mark_15 rfl rfl ?_
    refine zV_iload_n 1 dX11_mark_16 rfl rfl ?_
    refine zV_lift (Nat.zero_le _) (Nat.zero_le _) ?_
    refine zV_callV (kc := 0) (ks := 0) (mc := 0) (ms := 0) (n' := 3) (As := [zI m]) (Q' := zQm Z m x2) zc_X11_288 (zq_0 hZ) rfl dX11_mark_17 (by omega) rfl (Nat.le_of_ble_eq_true rfl) (Nat.le_of_ble_eq_true rfl) rfl ?_ ?_
    · by_cases hl : M 6 m < 0
      · exact zgb0 hZ ⟨by omega, by omega⟩ hl (bad (Or.inr ⟨c3, hl⟩))
      · obtain ⟨hS, hP⟩ := (hM m hm).2 hl
        refine fX11_goBack_ok hZ (by decide) hS (by omega) hP (by omega) ⟨by omega, by omega⟩ ?_
        refine zs_m (c_goBack hI hm hl c3) ?_
        rintro ⟨r, W⟩ ⟨r1, r2⟩
        dsimp only at r1 r2
        subst r1
        exact ⟨1, rfl, Or.inr rfl, hZ, rfl, rfl, zs_m r2 fun e' he => ⟨he.1, ⟨_, he.2.1⟩, hM.same fun q => (he.2.2 q).1⟩⟩
    · rintro r M' Z' _ ⟨b, rfl, hb, q⟩
      refine zV_goto 28 dX11_mark_20 (by decide) ?_
      exact zV_iretb dX11_mark_28 rfl hb ⟨b, rfl, hb, q⟩
end MK2
