/-! MACHINE ROWS, 88: the law (printed by gen/part_d.py) -/
theorem zkc_X11_init : Cond.code yX11_init cX11_init 1 none ∈ zT := zT_inc (i := 31) zL_1 rfl rfl
theorem zkn_X11_init : Cond.instanceMethod yX11_init ∈ zT := zT_inc (i := 30) zL_1 rfl rfl
theorem zkm_L_19 : Cond.methodLink RL 19 yX11_init ∈ zT := zT_inc (i := 29) zL_1 rfl rfl
theorem zkc_X12_init : Cond.code yX12_init cX12_init 2 none ∈ zT := zT_inc (i := 208) zL_6 rfl rfl
theorem zkn_X12_init : Cond.instanceMethod yX12_init ∈ zT := zT_inc (i := 207) zL_6 rfl rfl
theorem zkm_L_22 : Cond.methodLink RL 22 yX12_init ∈ zT := zT_inc (i := 206) zL_6 rfl rfl
theorem zkx_L_8 : Cond.classLink RL 8 RX11 ∈ zT := zT_inc (i := 27) zL_1 rfl rfl
theorem zkx_L_20 : Cond.classLink RL 20 RX12 ∈ zT := zT_inc (i := 204) zL_6 rfl rfl
theorem zkb_X11 : Cond.instantiable RX11 13 ∈ zT := zT_inc (i := 28) zL_1 rfl rfl
theorem zkb_X12 : Cond.instantiable RX12 63 ∈ zT := zT_inc (i := 205) zL_6 rfl rfl
theorem zmw_X11_init : zMW zmX11_init 0 := ⟨zkc_X11_init, zki_X11, by decide +kernel, by decide +kernel, by decide⟩
theorem zmw_X12_init : zMW zmX12_init 0 := ⟨zkc_X12_init, zki_X12, by decide +kernel, by decide +kernel, by decide⟩
theorem zc_L_19 : zCI RL 19 zmX11_init 0 := ⟨zkm_L_19, zkn_X11_init, rfl, rfl, zmw_X11_init⟩
theorem zc_L_22 : zCI RL 22 zmX12_init 0 := ⟨zkm_L_22, zkn_X12_init, rfl, rfl, zmw_X12_init⟩
set_option maxRecDepth 100000 in
theorem zno_r_X11_0 (M : zMem) : ∀ k, k < 13 → (zr11.getD k (-1) = -1 ∨ zr11.getD k (-1) = -2 ∨ zr11.getD k (-1) = -3) ∧ ∀ ad : Nat → Nat, defaultValue (tyX11 k) = zsv ad (zr11.getD k (-1)) (zno M 0 zr11 0 k) := by
  intro k hk
  rcases (show k = 0 ∨ k = 1 ∨ k = 2 ∨ k = 3 ∨ k = 4 ∨ k = 5 ∨ k = 6 ∨ k = 7 ∨ k = 8 ∨ k = 9 ∨ k = 10 ∨ k = 11 ∨ k = 12 by omega) with rfl | rfl | rfl | rfl | rfl | rfl | rfl | rfl | rfl | rfl | rfl | rfl | rfl <;> exact ⟨by decide, fun _ => rfl⟩
set_option maxRecDepth 100000 in
theorem zno_k_X11_0 (M : zMem) (Z : zZ) : ∀ k : Nat, k < 13 → zkan Z (zr11.getD k (-1)) (zno M 0 zr11 0 k) := by
  intro k hk
  rcases (show k = 0 ∨ k = 1 ∨ k = 2 ∨ k = 3 ∨ k = 4 ∨ k = 5 ∨ k = 6 ∨ k = 7 ∨ k = 8 ∨ k = 9 ∨ k = 10 ∨ k = 11 ∨ k = 12 by omega) with rfl | rfl | rfl | rfl | rfl | rfl | rfl | rfl | rfl | rfl | rfl | rfl | rfl <;> first | exact z32_0 | exact z64_0 | exact Or.inl (show (-1 : Int) < 0 by decide)
set_option maxRecDepth 100000 in
theorem zno_r_X12_200 (M : zMem) : ∀ k, k < 63 → (zr12.getD k (-1) = -1 ∨ zr12.getD k (-1) = -2 ∨ zr12.getD k (-1) = -3) ∧ ∀ ad : Nat → Nat, defaultValue (tyX12 k) = zsv ad (zr12.getD k (-1)) (zno M 200 zr12 200 k) := by
  intro k hk
  rcases (show k = 0 ∨ k = 1 ∨ k = 2 ∨ k = 3 ∨ k = 4 ∨ k = 5 ∨ k = 6 ∨ k = 7 ∨ k = 8 ∨ k = 9 ∨ k = 10 ∨ k = 11 ∨ k = 12 ∨ k = 13 ∨ k = 14 ∨ k = 15 ∨ k = 16 ∨ k = 17 ∨ k = 18 ∨ k = 19 ∨ k = 20 ∨ k = 21 ∨ k = 22 ∨ k = 23 ∨ k = 24 ∨ k = 25 ∨ k = 26 ∨ k = 27 ∨ k = 28 ∨ k = 29 ∨ k = 30 ∨ k = 31 ∨ k = 32 ∨ k = 33 ∨ k = 34 ∨ k = 35 ∨ k = 36 ∨ k = 37 ∨ k = 38 ∨ k = 39 ∨ k = 40 ∨ k = 41 ∨ k = 42 ∨ k = 43 ∨ k = 44 ∨ k = 45 ∨ k = 46 ∨ k = 47 ∨ k = 48 ∨ k = 49 ∨ k = 50 ∨ k = 51 ∨ k = 52 ∨ k = 53 ∨ k = 54 ∨ k = 55 ∨ k = 56 ∨ k = 57 ∨ k = 58 ∨ k = 59 ∨ k = 60 ∨ k = 61 ∨ k = 62 by omega) with rfl | rfl | rfl | rfl | rfl | rfl | rfl | rfl | rfl | rfl | rfl | rfl | rfl | rfl | rfl | rfl | rfl | rfl | rfl | rfl | rfl | rfl | rfl | rfl | rfl | rfl | rfl | rfl | rfl | rfl | rfl | rfl | rfl | rfl | rfl | rfl | rfl | rfl | rfl | rfl | rfl | rfl | rfl | rfl | rfl | rfl | rfl | rfl | rfl | rfl | rfl | rfl | rfl | rfl | rfl | rfl | rfl | rfl | rfl | rfl | rfl | rfl | rfl <;> exact ⟨by decide, fun _ => rfl⟩
set_option maxRecDepth 100000 in
theorem zno_k_X12_200 (M : zMem) (Z : zZ) : ∀ k : Nat, k < 63 → zkan Z (zr12.getD k (-1)) (zno M 200 zr12 200 k) := by
  intro k hk
  rcases (show k = 0 ∨ k = 1 ∨ k = 2 ∨ k = 3 ∨ k = 4 ∨ k = 5 ∨ k = 6 ∨ k = 7 ∨ k = 8 ∨ k = 9 ∨ k = 10 ∨ k = 11 ∨ k = 12 ∨ k = 13 ∨ k = 14 ∨ k = 15 ∨ k = 16 ∨ k = 17 ∨ k = 18 ∨ k = 19 ∨ k = 20 ∨ k = 21 ∨ k = 22 ∨ k = 23 ∨ k = 24 ∨ k = 25 ∨ k = 26 ∨ k = 27 ∨ k = 28 ∨ k = 29 ∨ k = 30 ∨ k = 31 ∨ k = 32 ∨ k = 33 ∨ k = 34 ∨ k = 35 ∨ k = 36 ∨ k = 37 ∨ k = 38 ∨ k = 39 ∨ k = 40 ∨ k = 41 ∨ k = 42 ∨ k = 43 ∨ k = 44 ∨ k = 45 ∨ k = 46 ∨ k = 47 ∨ k = 48 ∨ k = 49 ∨ k = 50 ∨ k = 51 ∨ k = 52 ∨ k = 53 ∨ k = 54 ∨ k = 55 ∨ k = 56 ∨ k = 57 ∨ k = 58 ∨ k = 59 ∨ k = 60 ∨ k = 61 ∨ k = 62 by omega) with rfl | rfl | rfl | rfl | rfl | rfl | rfl | rfl | rfl | rfl | rfl | rfl | rfl | rfl | rfl | rfl | rfl | rfl | rfl | rfl | rfl | rfl | rfl | rfl | rfl | rfl | rfl | rfl | rfl | rfl | rfl | rfl | rfl | rfl | rfl | rfl | rfl | rfl | rfl | rfl | rfl | rfl | rfl | rfl | rfl | rfl | rfl | rfl | rfl | rfl | rfl | rfl | rfl | rfl | rfl | rfl | rfl | rfl | rfl | rfl | rfl | rfl | rfl <;> first | exact z32_0 | exact z64_0 | exact Or.inl (show (-1 : Int) < 0 by decide)
abbrev zb11 : List (Nat × zSh) := ((0, .inl (11, [20, 30, 40, 60, 80, 6, 7, 90, 100, 110, 130, 150, 170])) :: (170, .inl (4, [40, 80, 173, 174, -1, 176, 177, -1])) :: (177, .inr (0, 8)) :: (176, .inr (0, 256)) :: (174, .inr (0, 24)) :: (173, .inr (0, 8)) :: (150, .inl (1, [40, 152, 153, -1, 155, 156, 157, 158, -1, 160, -1, -1, -2, -1])) :: (160, .inr (0, 8)) :: (158, .inr (0, 8)) :: (157, .inr (3, 743)) :: (156, .inr (0, 8)) :: (155, .inr (0, 8)) :: (153, .inr (0, 12)) :: (152, .inr (0, 8)) :: (130, .inl (0, [40, 80, 100, 134, 135, 136, 137, -1, -1, -1, -1])) :: (137, .inr (0, 8)) :: (136, .inr (0, 9)) :: (135, .inr (0, 8)) :: (134, .inr (0, 8)) :: (110, .inl (9, [40, 80, 90, 100, 120, 116, 117, -1])) :: (120, .inl (3, [40, 122, 123])) :: (123, .inr (0, 29)) :: (122, .inr (0, 32)) :: (117, .inr (0, 100)) :: (116, .inr (0, 960)) :: (100, .inl (2, [40, 80])) :: (90, .inl (10, [40, 80, 93, 94, 95, -1])) :: (95, .inr (0, 12)) :: (94, .inr (0, 2400)) :: (93, .inr (0, 200)) :: (7, .inr (5, 4)) :: (6, .inr (4, 4)) :: (80, .inl (5, [-1, 82, 83, 84, 85, 86])) :: (86, .inr (0, 24)) :: (85, .inr (0, 24)) :: (84, .inr (0, 24)) :: (83, .inr (0, 24)) :: (82, .inr (0, 24)) :: (30, .inl (6, [20, 60, 32, -1, -1, -1])) :: (32, .inr (0, 12)) :: (60, .inl (7, [-1, -1, 63, 64, 65, 66, 67, -1, 69, 70, 71, 72, 73, -1, -1, 76, -1, 78, 79])) :: (79, .inr (0, 11)) :: (78, .inr (0, 4)) :: (76, .inr (0, 1000)) :: (73, .inr (0, 8)) :: (72, .inr (0, 8)) :: (71, .inr (0, 8)) :: (70, .inr (0, 8)) :: (69, .inr (0, 8)) :: (67, .inr (0, 12)) :: (66, .inr (0, 12)) :: (65, .inr (0, 12)) :: (64, .inr (0, 12)) :: (63, .inr (0, 12)) :: (40, .inl (7, [-1, -1, 43, 44, 45, 46, 47, -1, 49, 50, 51, 52, 53, -1, -1, 56, -1, 58, 59])) :: (59, .inr (0, 11)) :: (58, .inr (0, 4)) :: (56, .inr (0, 1000)) :: (53, .inr (0, 8)) :: (52, .inr (0, 8)) :: (51, .inr (0, 8)) :: (50, .inr (0, 8)) :: (49, .inr (0, 8)) :: (47, .inr (0, 12)) :: (46, .inr (0, 12)) :: (45, .inr (0, 12)) :: (44, .inr (0, 12)) :: (43, .inr (0, 12)) :: (20, .inl (8, [21, -1, 23, -1])) :: (23, .inr (0, 1001)) :: (21, .inr (1, 1000)) :: [])
abbrev zb12 : List (Nat × zSh) := ((200, .inl (12, [-1, -1, 203, -1, -1, -1, -1, -2, -1, -1, 211, 212, 213, 214, 215, 216, 217, 218, 219, 220, 221, 222, 223, 224, 225, 226, 227, 228, 229, -1, 231, 232, 233, 234, 235, 236, 237, 238, 239, 240, 241, 242, -1, -1, 245, 246, 247, 248, 249, 250, 251, 252, 253, -1, -1, 256, 257, -1, 259, 260, -1, 262, 263])) :: (263, .inr (0, 4)) :: (262, .inr (2, 4)) :: (260, .inr (0, 12)) :: (259, .inr (0, 12)) :: (257, .inr (0, 12)) :: (256, .inr (0, 12)) :: (253, .inr (0, 24)) :: (252, .inr (0, 24)) :: (251, .inr (0, 12)) :: (250, .inr (0, 2400)) :: (249, .inr (0, 120)) :: (248, .inr (0, 120)) :: (247, .inr (0, 120)) :: (246, .inr (0, 120)) :: (245, .inr (0, 120)) :: (242, .inr (0, 20)) :: (241, .inr (0, 7)) :: (240, .inr (0, 7)) :: (239, .inr (0, 7)) :: (238, .inr (0, 7)) :: (237, .inr (0, 7)) :: (236, .inr (0, 7)) :: (235, .inr (0, 7)) :: (234, .inr (0, 7)) :: (233, .inr (0, 7)) :: (232, .inr (2, 7)) :: (231, .inr (0, 7)) :: (229, .inr (0, 6000)) :: (228, .inr (0, 24)) :: (227, .inr (0, 24)) :: (226, .inr (2, 11)) :: (225, .inr (0, 66)) :: (224, .inr (0, 48)) :: (223, .inr (0, 48)) :: (222, .inr (0, 48)) :: (221, .inr (0, 48)) :: (220, .inr (0, 48)) :: (219, .inr (0, 72)) :: (218, .inr (0, 72)) :: (217, .inr (0, 72)) :: (216, .inr (0, 72)) :: (215, .inr (0, 72)) :: (214, .inr (3, 12)) :: (213, .inr (0, 6)) :: (212, .inr (0, 6)) :: (211, .inr (0, 6)) :: (203, .inr (0, 1000)) :: [])
/-- the cells as the law begins -/
def zZ0 (L : Nat) : zZ := fun i => if i = 1000 ∨ i = 1001 ∨ i = 1002 then some (.inr (0, 11)) else if i = 1003 then some (.inr (0, L)) else if i = 1010 ∨ i = 1011 ∨ i = 1020 ∨ i = 1021 ∨ i = 1030 then some (.inr (9, 0)) else none
theorem zZ0_n {L i : Nat} (h : i < 1000) : zZ0 L i = none := by
  unfold zZ0
  rw [if_neg (by omega), if_neg (by omega), if_neg (by omega)]
def zZf (L : Nat) : zZ := zuz (zLs zb12 (zLs zb11 (zZ0 L))) 300 (.inr (3, 1))
theorem zb_lt11 : zb11.all (fun q => decide (0 ≤ q.1) && decide (q.1 < 200)) = true := by decide +kernel
theorem zb_lt12 : zb12.all (fun q => decide (200 ≤ q.1) && decide (q.1 < 300)) = true := by decide +kernel
theorem zZf_hi {L i : Nat} (h : 301 ≤ i) : zZf L i = zZ0 L i := by
  unfold zZf
  rw [zuz_ne (by omega), zLs_r zb_lt12 (by omega), zLs_r zb_lt11 (by omega)]
theorem zLs_k {L : List (Nat × zSh)} {Z : zZ} {i : Nat} {h : zSh} (e : zLk L i = some h) : zLs L Z i = some h := by
  unfold zLs
  rw [e]
def zeS : zSh → zSh → Bool
  | .inl a, .inl b => decide (a = b)
  | .inr a, .inr b => decide (a = b)
  | _, _ => false
theorem zeS_eq {a b : zSh} (h : zeS a b = true) : a = b := by
  rcases a with a | a <;> rcases b with b | b
  · exact congrArg _ (of_decide_eq_true h)
  · cases h
  · cases h
  · exact congrArg _ (of_decide_eq_true h)
def zeO : Option zSh → zSh → Bool
  | some g, h => zeS g h
  | none, _ => false
theorem zeO_eq {o : Option zSh} {h : zSh} (e : zeO o h = true) : o = some h := by
  cases o with
  | none => cases e
  | some g => rw [zeS_eq e]
theorem zb_allB : zZl.all (fun q => (zeO (zLk zb12 q.1) q.2 && decide (q.1 ≠ 300)) || ((decide (q.1 < 200) && zeO (zLk zb11 q.1) q.2) || ((decide (q.1 = 300) && zeS q.2 (.inr (3, 1))) || ((decide (q.1 = 1000 ∨ q.1 = 1001 ∨ q.1 = 1002) && zeS q.2 (.inr (0, 11))) || (decide (q.1 = 1010 ∨ q.1 = 1011 ∨ q.1 = 1020 ∨ q.1 = 1021 ∨ q.1 = 1030) && zeS q.2 (.inr (9, 0))))))) = true := by decide +kernel
theorem zb_all : ∀ q ∈ zZl, (zLk zb12 q.1 = some q.2 ∧ q.1 ≠ 300) ∨ (q.1 < 200 ∧ zLk zb11 q.1 = some q.2) ∨ (q.1 = 300 ∧ q.2 = .inr (3, 1)) ∨ ((q.1 = 1000 ∨ q.1 = 1001 ∨ q.1 = 1002) ∧ q.2 = .inr (0, 11)) ∨ ((q.1 = 1010 ∨ q.1 = 1011 ∨ q.1 = 1020 ∨ q.1 = 1021 ∨ q.1 = 1030) ∧ q.2 = .inr (9, 0)) := fun q hq => by
  have h := List.all_eq_true.mp zb_allB q hq
  simp only [Bool.or_eq_true, Bool.and_eq_true, decide_eq_true_eq] at h
  rcases h with ⟨a, b⟩ | ⟨a, b⟩ | ⟨a, b⟩ | ⟨a, b⟩ | ⟨a, b⟩
  · exact Or.inl ⟨zeO_eq a, b⟩
  · exact Or.inr (Or.inl ⟨a, zeO_eq b⟩)
  · exact Or.inr (Or.inr (Or.inl ⟨a, zeS_eq b⟩))
  · exact Or.inr (Or.inr (Or.inr (Or.inl ⟨a, zeS_eq b⟩)))
  · exact Or.inr (Or.inr (Or.inr (Or.inr ⟨a, zeS_eq b⟩)))
theorem zZf_B {L : Nat} : zB (zZf L) := by
  intro q hq
  rcases zb_all q hq with ⟨e, n⟩ | ⟨n, e⟩ | ⟨n, e⟩ | ⟨n, e⟩ | ⟨n, e⟩
  · unfold zZf
    rw [zuz_ne n]
    exact zLs_k e
  · unfold zZf
    rw [zuz_ne (by omega), zLs_r zb_lt12 (by omega)]
    exact zLs_k e
  · rw [n, e]; unfold zZf; exact zuz_eq
  · rw [zZf_hi (by omega), e]; unfold zZ0; rw [if_pos n]
  · rw [zZf_hi (by omega), e]; unfold zZ0; rw [if_neg (by omega), if_neg (by omega), if_pos n]
theorem zZf_Mz {L : Nat} {xs : Int → Int} : zMz (zZf L) (zmf (zm0 xs)) := fun m hm => ⟨fun _ => ⟨fun i i0 i1 => by rw [zZf_hi (by omega)]; exact zZ0_n (by omega), fun i i0 i1 => by rw [zZf_hi (by omega)]; exact zZ0_n (by omega)⟩, fun q => absurd (show zmf (zm0 xs) 6 m < 0 by rw [zmf_6]; decide) q⟩
theorem zZf_Law {L : Nat} {xs : Int → Int} : zLaw L (zZf L) (zmf (zm0 xs)) := ⟨zZf_B, by rw [zZf_hi (by decide)]; rfl, ⟨_, zmf_Inv⟩, zZf_Mz⟩
section LL
variable {Ex : zEx} {nm : String} {sb sL : Nat} {sx : Nat → Int32}
theorem zY_Z {X : zCx} {y : zMI} {n kc ks : Nat} {Z Z' : zZ} {pc : Nat} {ls : List (Nat × zAV)} {st : List zAV} {M : zMem} {Q : Option zAV → zMem → zZ → Prop} (h : Z = Z') (k : zY X Ex y n kc ks Z' pc ls st M Q) : zY X Ex y n kc ks Z pc ls st M Q := by
  rw [h]; exact k
set_option maxRecDepth 100000 in
theorem v_loop (hsL : sL ≤ 448) : ∀ (k : Nat) (i : Int) (Z : zZ) (M : zMem), 0 ≤ i → i ≤ sL → (sL : Int) < i + 7 * k + 7 → zLaw sL Z M → zY (zXl sb sL sx) Ex (zmL nm) 100 (20 * k) (1260 * k) Z 23 (zll i) [] M (fun r _ _ => r = some (zI 1)) := by
  intro k
  induction k with
  | zero =>
    intro i Z M i0 i1 i2 hL
    have hS := hL.2.1
    refine zY_iload 0 dL_law_23 rfl ?_
    refine zY_aload_n 4 dL_law_25 rfl rfl ?_
    refine zY_alen hS (by decide) dL_law_26 ?_
    refine zY_bipush (v := 7) dL_law_27 rfl ?_
    refine zY_isub dL_law_29 ?_
    refine zY_icmp_gt 1284 dL_law_30 (by decide) ⟨by omega, by omega⟩ ⟨by omega, by omega⟩ (fun c => ?_) (fun c => absurd c (by omega))
    refine zY_iconst (v := 1) dL_law_1284 rfl ?_
    exact zY_iretb dL_law_1285 rfl (Or.inr rfl) rfl
  | succ k ih =>
    intro i Z M i0 i1 i2 hL
    have hS := hL.2.1
    refine zY_iload 0 dL_law_23 rfl ?_
    refine zY_aload_n 4 dL_law_25 rfl rfl ?_
    refine zY_alen hS (by decide) dL_law_26 ?_
    refine zY_bipush (v := 7) dL_law_27 rfl ?_
    refine zY_isub dL_law_29 ?_
    refine zY_icmp_gt 1284 dL_law_30 (by decide) ⟨by omega, by omega⟩ ⟨by omega, by omega⟩ (fun c => ?_) (fun c => ?_)
    · refine zY_iconst (v := 1) dL_law_1284 rfl ?_
      exact zY_iretb dL_law_1285 rfl (Or.inr rfl) rfl
    have hi : 0 ≤ i ∧ i + 7 ≤ sL := by omega
    have nx : ∀ (Z' : zZ) (M' : zMem), zLaw sL Z' M' → zY (zXl sb sL sx) Ex (zmL nm) 100 (20 * k) (1260 * k) Z' 1278 (zll i) [] M' (fun r _ _ => r = some (zI 1)) := fun Z' M' hL' => by
      refine zY_iinc 0 (v := i + 7) (zll (i + 7)) dL_law_1278 rfl (zw_id ⟨by omega, by omega⟩) (Nat.le_of_ble_eq_true rfl) rfl ?_
      refine zY_goto 23 dL_law_1281 (by decide) ?_
      exact ih (i + 7) Z' M' (by omega) (by omega) (by omega) hL'
    show zY (zXl sb sL sx) Ex (zmL nm) 100 (20 * k + 20) (1260 * k + 1260) Z 33 (zll i) [] M (fun r _ _ => r = some (zI 1))
    refine zY_aload_n 4 dL_law_33 rfl rfl ?_
    refine zY_iload 0 dL_law_34 rfl ?_
    refine zY_sld hS ⟨by omega, by omega⟩ dL_law_36 ?_
    refine zY_bipush (v := 63) dL_law_37 rfl ?_
    refine zY_iand dL_law_39 ?_
    have hv : z32 (zand (sx i.toNat).toInt 63) := z32_i _
    generalize zand (sx i.toNat).toInt 63 = v at hv ⊢
    refine zY_if (v = 0) (fun hc => zY_tsw 192 dL_law_40 hv (by rw [hc]; decide) (L_0 hi hL nx)) (fun hc0 => ?_)
    refine zY_if (v = 1) (fun hc => zY_tsw 339 dL_law_40 hv (by rw [hc]; decide) (L_1 hi hL nx)) (fun hc1 => ?_)
    refine zY_if (v = 2) (fun hc => zY_tsw 352 dL_law_40 hv (by rw [hc]; decide) (L_2 hi hL nx)) (fun hc2 => ?_)
    refine zY_if (v = 3) (fun hc => zY_tsw 389 dL_law_40 hv (by rw [hc]; decide) (L_3 hi hL nx)) (fun hc3 => ?_)
    refine zY_if (v = 4) (fun hc => zY_tsw 462 dL_law_40 hv (by rw [hc]; decide) (L_4 hi hL nx)) (fun hc4 => ?_)
    refine zY_if (v = 5) (fun hc => zY_tsw 475 dL_law_40 hv (by rw [hc]; decide) (L_5 hi hL nx)) (fun hc5 => ?_)
    refine zY_if (v = 6) (fun hc => zY_tsw 512 dL_law_40 hv (by rw [hc]; decide) (L_6 hi hL nx)) (fun hc6 => ?_)
    refine zY_if (v = 7) (fun hc => zY_tsw 549 dL_law_40 hv (by rw [hc]; decide) (L_7 hi hL nx)) (fun hc7 => ?_)
    refine zY_if (v = 8) (fun hc => zY_tsw 586 dL_law_40 hv (by rw [hc]; decide) (L_8 hi hL nx)) (fun hc8 => ?_)
    refine zY_if (v = 9) (fun hc => zY_tsw 623 dL_law_40 hv (by rw [hc]; decide) (L_9 hi hL nx)) (fun hc9 => ?_)
    refine zY_if (v = 10) (fun hc => zY_tsw 648 dL_law_40 hv (by rw [hc]; decide) (L_10 hi hL nx)) (fun hc10 => ?_)
    refine zY_if (v = 11) (fun hc => zY_tsw 716 dL_law_40 hv (by rw [hc]; decide) (L_11 hi hL nx)) (fun hc11 => ?_)
    refine zY_if (v = 12) (fun hc => zY_tsw 741 dL_law_40 hv (by rw [hc]; decide) (L_12 hi hL nx)) (fun hc12 => ?_)
    refine zY_if (v = 13) (fun hc => zY_tsw 766 dL_law_40 hv (by rw [hc]; decide) (L_13 hi hL nx)) (fun hc13 => ?_)
    refine zY_if (v = 14) (fun hc => zY_tsw 791 dL_law_40 hv (by rw [hc]; decide) (L_14 hi hL nx)) (fun hc14 => ?_)
    refine zY_if (v = 15) (fun hc => zY_tsw 828 dL_law_40 hv (by rw [hc]; decide) (L_15 hi hL nx)) (fun hc15 => ?_)
    refine zY_if (v = 16) (fun hc => zY_tsw 853 dL_law_40 hv (by rw [hc]; decide) (L_16 hi hL nx)) (fun hc16 => ?_)
    refine zY_if (v = 17) (fun hc => zY_tsw 878 dL_law_40 hv (by rw [hc]; decide) (L_17 hi hL nx)) (fun hc17 => ?_)
    refine zY_if (v = 18) (fun hc => zY_tsw 903 dL_law_40 hv (by rw [hc]; decide) (L_18 hi hL nx)) (fun hc18 => ?_)
    refine zY_if (v = 19) (fun hc => zY_tsw 916 dL_law_40 hv (by rw [hc]; decide) (L_19 hi hL nx)) (fun hc19 => ?_)
    refine zY_if (v = 20) (fun hc => zY_tsw 929 dL_law_40 hv (by rw [hc]; decide) (L_20 hi hL nx)) (fun hc20 => ?_)
    refine zY_if (v = 21) (fun hc => zY_tsw 942 dL_law_40 hv (by rw [hc]; decide) (L_21 hi hL nx)) (fun hc21 => ?_)
    refine zY_if (v = 22) (fun hc => zY_tsw 967 dL_law_40 hv (by rw [hc]; decide) (L_22 hi hL nx)) (fun hc22 => ?_)
    refine zY_if (v = 23) (fun hc => zY_tsw 980 dL_law_40 hv (by rw [hc]; decide) (L_23 hi hL nx)) (fun hc23 => ?_)
    refine zY_if (v = 24) (fun hc => zY_tsw 1005 dL_law_40 hv (by rw [hc]; decide) (L_24 hi hL nx)) (fun hc24 => ?_)
    refine zY_if (v = 25) (fun hc => zY_tsw 1018 dL_law_40 hv (by rw [hc]; decide) (L_25 hi hL nx)) (fun hc25 => ?_)
    refine zY_if (v = 26) (fun hc => zY_tsw 1031 dL_law_40 hv (by rw [hc]; decide) (L_26 hi hL nx)) (fun hc26 => ?_)
    refine zY_if (v = 27) (fun hc => zY_tsw 1087 dL_law_40 hv (by rw [hc]; decide) (L_27 hi hL nx)) (fun hc27 => ?_)
    refine zY_if (v = 28) (fun hc => zY_tsw 1112 dL_law_40 hv (by rw [hc]; decide) (L_28 hi hL nx)) (fun hc28 => ?_)
    refine zY_if (v = 29) (fun hc => zY_tsw 1149 dL_law_40 hv (by rw [hc]; decide) (L_29 hi hL nx)) (fun hc29 => ?_)
    refine zY_if (v = 30) (fun hc => zY_tsw 1162 dL_law_40 hv (by rw [hc]; decide) (L_30 hi hL nx)) (fun hc30 => ?_)
    refine zY_if (v = 31) (fun hc => zY_tsw 1175 dL_law_40 hv (by rw [hc]; decide) (L_31 hi hL nx)) (fun hc31 => ?_)
    refine zY_if (v = 32) (fun hc => zY_tsw 1200 dL_law_40 hv (by rw [hc]; decide) (L_32 hi hL nx)) (fun hc32 => ?_)
    refine zY_if (v = 33) (fun hc => zY_tsw 1253 dL_law_40 hv (by rw [hc]; decide) (L_33 hi hL nx)) (fun hc33 => ?_)
    exact zY_tswd 1278 dL_law_40 hv (Or.inl ⟨by omega, by decide⟩) (zY_le (Nat.le_add_right _ _) (Nat.le_add_right _ _) (nx Z M hL))
theorem v_law (hsL : sL ≤ 448) {xs : Int → Int} : zY (zXl sb sL sx) Ex (zmL nm) 101 (1280 + 1 + 47 + 1 + 70 + 1) (80640 + 1 + 10968 + 63 + 9334 + 13) (zZ0 sL) 0 [(0, zR 1003)] [] (zm0 xs) (fun r _ _ => r = some (zI 1)) := by
  refine zY_newo (i := 0) (ci := 11) (N := 13) (raw := zr11) (M' := zno (zm0 xs) 0 zr11) rfl zinX11 tyX11_ok zkx_L_8 zkb_X11 zki_X11 (by decide) (zZ0_n (by decide)) rfl (zno_r_X11_0 _) (zno_k_X11_0 _ _) (fun a b h => zno_ne h) dL_law_0 ?_
  refine zY_Z (zLs_add [] _ 0 _) ?_
  refine zY_dup dL_law_3 rfl ?_
  refine zY_callI (mc := 70) (ms := 9334) (n' := 100) (As := []) (Q' := fun r M1 Z1 => r = none ∧ zmI_X11_0 (zno (zm0 xs) 0 zr11) = M1 ∧ zLs zb11 (zZ0 sL) = Z1) zc_L_19 dL_law_4 (by decide) rfl (Nat.le_of_ble_eq_true rfl) (Nat.le_of_ble_eq_true rfl) rfl (zcI_X11_0 (Z := zZ0 sL) (fun i hi => zZ0_n ((show ∀ i ∈ (20 :: 21 :: 23 :: 40 :: 43 :: 44 :: 45 :: 46 :: 47 :: 49 :: 50 :: 51 :: 52 :: 53 :: 56 :: 58 :: 59 :: 60 :: 63 :: 64 :: 65 :: 66 :: 67 :: 69 :: 70 :: 71 :: 72 :: 73 :: 76 :: 78 :: 79 :: 30 :: 32 :: 80 :: 82 :: 83 :: 84 :: 85 :: 86 :: 6 :: 7 :: 90 :: 93 :: 94 :: 95 :: 100 :: 110 :: 116 :: 117 :: 120 :: 122 :: 123 :: 130 :: 134 :: 135 :: 136 :: 137 :: 150 :: 152 :: 153 :: 155 :: 156 :: 157 :: 158 :: 160 :: 170 :: 173 :: 174 :: 176 :: 177 :: [] : List Nat), i < 1000 by decide) i hi)) rfl ⟨rfl, rfl, rfl, rfl, rfl⟩ (by decide) ⟨rfl, rfl, rfl⟩) ?_
  rintro r M1 Z1 - ⟨rfl, rfl, rfl⟩
  refine zY_astore_n [(1, zR 0), (0, zR 1003)] dL_law_7 rfl (Nat.le_of_ble_eq_true rfl) rfl ?_
  refine zY_newo (i := 200) (ci := 12) (N := 63) (raw := zr12) (M' := zno (zmI_X11_0 (zno (zm0 xs) 0 zr11)) 200 zr12) rfl zinX12 tyX12_ok zkx_L_20 zkb_X12 zki_X12 (by decide) (by rw [zLs_r zb_lt11 (by decide)]; exact zZ0_n (by decide)) rfl (zno_r_X12_200 _) (zno_k_X12_200 _ _) (fun a b h => zno_ne h) dL_law_8 ?_
  refine zY_Z (zLs_add [] _ 200 _) ?_
  refine zY_dup dL_law_11 rfl ?_
  refine zY_callI (mc := 47) (ms := 10968) (n' := 100) (As := []) (Q' := fun r M1 Z1 => r = none ∧ zmI_X12_200 (zno (zmI_X11_0 (zno (zm0 xs) 0 zr11)) 200 zr12) = M1 ∧ zLs zb12 (zLs zb11 (zZ0 sL)) = Z1) zc_L_22 dL_law_12 (by decide) rfl (Nat.le_of_ble_eq_true rfl) (Nat.le_of_ble_eq_true rfl) rfl (zcI_X12_200 (Z := zLs zb11 (zZ0 sL)) (fun i hi => by
    have hi2 := (show ∀ i ∈ (203 :: 211 :: 212 :: 213 :: 214 :: 215 :: 216 :: 217 :: 218 :: 219 :: 220 :: 221 :: 222 :: 223 :: 224 :: 225 :: 226 :: 227 :: 228 :: 229 :: 231 :: 232 :: 233 :: 234 :: 235 :: 236 :: 237 :: 238 :: 239 :: 240 :: 241 :: 242 :: 245 :: 246 :: 247 :: 248 :: 249 :: 250 :: 251 :: 252 :: 253 :: 256 :: 257 :: 259 :: 260 :: 262 :: 263 :: [] : List Nat), 200 ≤ i ∧ i < 1000 by decide) i hi
    rw [zLs_r zb_lt11 (by omega)]; exact zZ0_n hi2.2) (by decide) ⟨rfl, rfl, rfl⟩) ?_
  rintro r M1 Z1 - ⟨rfl, rfl, rfl⟩
  refine zY_astore_n [(2, zR 200), (1, zR 0), (0, zR 1003)] dL_law_15 rfl (Nat.le_of_ble_eq_true rfl) rfl ?_
  refine zY_iconst (v := 1) dL_law_16 rfl ?_
  refine zY_newa (i := 300) (k := 1) (t := 3) rfl (by decide) zka_long (by decide) (by rw [zLs_r zb_lt12 (by decide), zLs_r zb_lt11 (by decide)]; exact zZ0_n (by decide)) (by decide) dL_law_17 ?_
  refine zY_astore_n [(3, zR 300), (2, zR 200), (1, zR 0), (0, zR 1003)] dL_law_19 rfl (Nat.le_of_ble_eq_true rfl) rfl ?_
  refine zY_iconst (v := 0) dL_law_20 rfl ?_
  refine zY_istore (zll 0) dL_law_21 (Nat.le_of_ble_eq_true rfl) rfl ?_
  refine zY_mono (n' := 100) (by decide) ?_
  exact v_loop hsL 64 0 (zZf sL) (zmf (zm0 xs)) (by decide) (by omega) (by omega) zZf_Law
end LL
