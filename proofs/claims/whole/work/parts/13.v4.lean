section ZA
variable {y : zMI} {n kc ks : Nat} {Z : zZ} {pc : Nat} {ls : List (Nat × zAV)} {st : List zAV} {M : zMem} {Q : Option zAV → zMem → zZ → Prop}
theorem zV_iald {i n0 : Nat} {j : Int} (hz : Z i = some (.inr (0, n0))) (hj : 0 ≤ j ∧ j < n0) (hd : decode y.2.1 pc = .ok (.iaload, 1)) (kk : z32 (M i j) → zV y n kc ks Z (pc + 1) ls (zI (M i j) :: st) M Q) : zV y n kc ks Z pc ls (zI j :: zR i :: st) M Q := by
  intro p l e R s m args below meth c H locs cells slots A D ad la Qf E Wd S hl h1 h2 hr
  obtain ⟨⟨cell, q1, q2, q3, q4, q5, q6⟩, q7, q8⟩ := Wd.1 i _ hz (by decide)
  obtain ⟨c1, c2, c3, c4⟩ := zclamp q7 hj.1 hj.2
  have hk := q8 j.toNat c4
  have hv := q6 j.toNat c4
  rw [c3] at hk hv
  refine W.iald E.1 E.2.1 (v := zcv ad (zI (M i j))) (rest := st.map (zcv ad)) q1 q2.1 q4 (by rw [q5]; exact c2) (by rw [c1]; exact hv) rfl rfl hd ?_
  exact kk hk p l e R s m args below meth c H locs cells slots A D ad la Qf E Wd S hl h1 (zl_1 (by exact trivial) (zl_t (zl_t h2))) hr
theorem zV_cald {i n0 : Nat} {j : Int} (hz : Z i = some (.inr (1, n0))) (hj : 0 ≤ j ∧ j < n0) (hd : decode y.2.1 pc = .ok (.caload, 1)) (kk : (0 ≤ M i j ∧ M i j < 65536) → zV y n kc ks Z (pc + 1) ls (zI (M i j) :: st) M Q) : zV y n kc ks Z pc ls (zI j :: zR i :: st) M Q := by
  intro p l e R s m args below meth c H locs cells slots A D ad la Qf E Wd S hl h1 h2 hr
  obtain ⟨⟨cell, q1, q2, q3, q4, q5, q6⟩, q7, q8⟩ := Wd.1 i _ hz (by decide)
  obtain ⟨c1, c2, c3, c4⟩ := zclamp q7 hj.1 hj.2
  have hk := q8 j.toNat c4
  have hv := q6 j.toNat c4
  rw [c3] at hk hv
  refine W.cald E.1 E.2.1 (v := zcv ad (zI (M i j))) (rest := st.map (zcv ad)) q1 q2.1 q4 (by rw [q5]; exact c2) (by rw [c1]; exact hv) rfl rfl hd ?_
  exact kk hk p l e R s m args below meth c H locs cells slots A D ad la Qf E Wd S hl h1 (zl_1 (by exact trivial) (zl_t (zl_t h2))) hr
theorem zV_zald {i n0 : Nat} {j : Int} (hz : Z i = some (.inr (2, n0))) (hj : 0 ≤ j ∧ j < n0) (hd : decode y.2.1 pc = .ok (.baload, 1)) (kk : (M i j = 0 ∨ M i j = 1) → zV y n kc ks Z (pc + 1) ls (zI (M i j) :: st) M Q) : zV y n kc ks Z pc ls (zI j :: zR i :: st) M Q := by
  intro p l e R s m args below meth c H locs cells slots A D ad la Qf E Wd S hl h1 h2 hr
  obtain ⟨⟨cell, q1, q2, q3, q4, q5, q6⟩, q7, q8⟩ := Wd.1 i _ hz (by decide)
  obtain ⟨c1, c2, c3, c4⟩ := zclamp q7 hj.1 hj.2
  have hk := q8 j.toNat c4
  have hv := q6 j.toNat c4
  rw [c3] at hk hv
  refine W.zald E.1 E.2.1 (v := zcv ad (zI (M i j))) (rest := st.map (zcv ad)) q1 q2.1 q4 (by rw [q5]; exact c2) (by rw [c1]; exact hv) rfl rfl hd ?_
  exact kk hk p l e R s m args below meth c H locs cells slots A D ad la Qf E Wd S hl h1 (zl_1 (by exact trivial) (zl_t (zl_t h2))) hr
theorem zV_lald {i n0 : Nat} {j : Int} (hz : Z i = some (.inr (3, n0))) (hj : 0 ≤ j ∧ j < n0) (hd : decode y.2.1 pc = .ok (.laload, 1)) (kk : z64 (M i j) → zV y n kc ks Z (pc + 1) ls (zL (M i j) :: st) M Q) : zV y n kc ks Z pc ls (zI j :: zR i :: st) M Q := by
  intro p l e R s m args below meth c H locs cells slots A D ad la Qf E Wd S hl h1 h2 hr
  obtain ⟨⟨cell, q1, q2, q3, q4, q5, q6⟩, q7, q8⟩ := Wd.1 i _ hz (by decide)
  obtain ⟨c1, c2, c3, c4⟩ := zclamp q7 hj.1 hj.2
  have hk := q8 j.toNat c4
  have hv := q6 j.toNat c4
  rw [c3] at hk hv
  refine W.lald E.1 E.2.1 (v := zcv ad (zL (M i j))) (rest := st.map (zcv ad)) q1 q2.1 q4 (by rw [q5]; exact c2) (by rw [c1]; exact hv) rfl rfl hd ?_
  exact kk hk p l e R s m args below meth c H locs cells slots A D ad la Qf E Wd S hl h1 (zl_1 (by exact trivial) (zl_t (zl_t h2))) hr
theorem zV_iast {i n0 : Nat} {j v : Int} (hz : Z i = some (.inr (0, n0))) (hi : i < 1000) (hj : 0 ≤ j ∧ j < n0) (hv : z32 v) (hd : decode y.2.1 pc = .ok (.iastore, 1)) (kk : zV y n kc ks Z (pc + 1) ls st (zup M i j v) Q) : zV y n kc ks Z pc ls (zI v :: zI j :: zR i :: st) M Q := by
  intro p l e R s m args below meth c H locs cells slots A D ad la Qf E Wd S hl h1 h2 hr
  obtain ⟨⟨cell, q1, q2, q3, q4, q5, q6⟩, q7, q8⟩ := Wd.1 i _ hz (by decide)
  obtain ⟨c1, c2, c3, c4⟩ := zclamp q7 hj.1 hj.2
  refine W.iast E.1 E.2.1 (rest := st.map (zcv ad)) q1 q2.1 q4 (by rw [q5]; exact c2) rfl rfl hd fun H' e1 e2 e3 => ?_
  rw [c1] at e1 ⊢
  exact kk p l e R s m args below meth c H' _ cells slots A D ad la Qf E (Wd.sta hz (by decide) hi hj.1 hj.2 hv q1 e1 e2 e3) (S.put e2 e3 (Wd.2.2.1 i _ hz hi)) hl h1 (zl_t (zl_t (zl_t h2))) hr
theorem zV_last {i n0 : Nat} {j v : Int} (hz : Z i = some (.inr (3, n0))) (hi : i < 1000) (hj : 0 ≤ j ∧ j < n0) (hv : z64 v) (hd : decode y.2.1 pc = .ok (.lastore, 1)) (kk : zV y n kc ks Z (pc + 1) ls st (zup M i j v) Q) : zV y n kc ks Z pc ls (zL v :: zI j :: zR i :: st) M Q := by
  intro p l e R s m args below meth c H locs cells slots A D ad la Qf E Wd S hl h1 h2 hr
  obtain ⟨⟨cell, q1, q2, q3, q4, q5, q6⟩, q7, q8⟩ := Wd.1 i _ hz (by decide)
  obtain ⟨c1, c2, c3, c4⟩ := zclamp q7 hj.1 hj.2
  refine W.last E.1 E.2.1 (rest := st.map (zcv ad)) q1 q2.1 q4 (by rw [q5]; exact c2) rfl rfl hd fun H' e1 e2 e3 => ?_
  rw [c1] at e1 ⊢
  exact kk p l e R s m args below meth c H' _ cells slots A D ad la Qf E (Wd.sta hz (by decide) hi hj.1 hj.2 hv q1 e1 e2 e3) (S.put e2 e3 (Wd.2.2.1 i _ hz hi)) hl h1 (zl_t (zl_t (zl_t h2))) hr
theorem z32_ch {x : Int} (h : 0 ≤ x ∧ x < 65536) : z32 x := ⟨by omega, by omega⟩
theorem z32_01 {x : Int} (h : x = 0 ∨ x = 1) : z32 x := by rcases h with rfl | rfl <;> exact ⟨by decide, by decide⟩
end ZA
