/-! PURE PART, 67: words kept, facts, settings -/
section TK5
variable {M V M0 V0 : zMem} {T T' : Int → Int} {n p e s c w t v : Int}
theorem xwk_0 : xwk 0 = 50934 := by decide +kernel
theorem xwk_1 : xwk 1 = 404978 := by decide +kernel
theorem xwk_2 : xwk 2 = 381245 := by decide +kernel
theorem xwk_3 : xwk 3 = 453774 := by decide +kernel
theorem xwk_4 : xwk 4 = 263328790 := by decide +kernel
theorem xwk_5 : xwk 5 = 144686 := by decide +kernel
theorem xwk_6 : xwk 6 = 10413527 := by decide +kernel
theorem xwk_7 : xwk 7 = 315918 := by decide +kernel
theorem xwk_8 : xwk 8 = 335207579 := by decide +kernel
theorem xwk_9 : xwk 9 = 10415990 := by decide +kernel
theorem xwk_10 : xwk 10 = 14006 := by decide +kernel
theorem xwk_11 : xwk 11 = 10631 := by decide +kernel
theorem xwk_12 : xwk 12 = 1111 := by decide +kernel
theorem xwk_13 : xwk 13 = 423 := by decide +kernel
theorem xwk_14 : xwk 14 = 8009370239 := by decide +kernel
theorem xwk_15 : xwk 15 = 2461245202 := by decide +kernel
theorem xwk_16 : xwk 16 = 9665171 := by decide +kernel
theorem xwk_17 : xwk 17 = 385331 := by decide +kernel
theorem xwk_18 : xwk 18 = 3427 := by decide +kernel
theorem xwk_19 : xwk 19 = 3175 := by decide +kernel
theorem xwk_20 : xwk 20 = 453937 := by decide +kernel
theorem xwk_21 : xwk 21 = 70401 := by decide +kernel
theorem xwk_22 : xwk 22 = 1949438 := by decide +kernel
theorem xwk_23 : xwk 23 = 778957 := by decide +kernel
theorem xwk_24 : xwk 24 = 4081324 := by decide +kernel
theorem xwk_25 : xwk 25 = 10416091 := by decide +kernel
theorem xwk_26 : xwk 26 = 8861527 := by decide +kernel
theorem xwk_27 : xwk 27 = 161156 := by decide +kernel
theorem xwk_28 : xwk 28 = 10939463 := by decide +kernel
theorem m_isKept (h : xJ T n M V) : fX12_isKept V = some (if (M 23 (M 30 3) / 1024) = 2 ∨ (125 ≤ (M 23 (M 30 3) / 1024) ∧ (M 23 (M 30 3) / 1024) ≤ 128) then 0 else 1) := by
  have a5 := h.2.2.2.2.1
  have e1 := xSe_1 a5
  generalize (M 23 (M 30 3) / 1024) = c at a5 e1 ⊢
  unfold fX12_isKept
  by_cases d : V 200 6 = 1
  · rw [if_pos d]
    have hw : xWd (V 200 7) c := by
      rcases a5 with q | q | q | q | q
      · omega
      · omega
      · exact q.2
      · omega
      · omega
    generalize V 200 7 = w at hw ⊢
    rcases hw with ⟨hc, g⟩ | ⟨k, k1, hc, g⟩
    · rw [if_neg (show ¬ w = 50934 from by rw [← xwk_0]; exact g 0 (by omega)), if_neg (show ¬ w = 404978 from by rw [← xwk_1]; exact g 1 (by omega)), if_neg (show ¬ w = 381245 from by rw [← xwk_2]; exact g 2 (by omega)), if_neg (show ¬ w = 453774 from by rw [← xwk_3]; exact g 3 (by omega)), if_neg (show ¬ w = 263328790 from by rw [← xwk_4]; exact g 4 (by omega)), if_neg (show ¬ w = 144686 from by rw [← xwk_5]; exact g 5 (by omega)), if_neg (show ¬ w = 10413527 from by rw [← xwk_6]; exact g 6 (by omega)), if_neg (show ¬ w = 315918 from by rw [← xwk_7]; exact g 7 (by omega)), if_neg (show ¬ w = 335207579 from by rw [← xwk_8]; exact g 8 (by omega)), if_neg (show ¬ w = 10415990 from by rw [← xwk_9]; exact g 9 (by omega)), if_neg (show ¬ w = 14006 from by rw [← xwk_10]; exact g 10 (by omega)), if_neg (show ¬ w = 8009370239 from by rw [← xwk_14]; exact g 14 (by omega)), if_neg (show ¬ w = 2461245202 from by rw [← xwk_15]; exact g 15 (by omega)), if_neg (show ¬ w = 9665171 from by rw [← xwk_16]; exact g 16 (by omega)), if_neg (show ¬ w = 385331 from by rw [← xwk_17]; exact g 17 (by omega)), if_neg (show ¬ w = 3427 from by rw [← xwk_18]; exact g 18 (by omega)), if_neg (show ¬ w = 3175 from by rw [← xwk_19]; exact g 19 (by omega)), if_neg (show ¬ w = 453937 from by rw [← xwk_20]; exact g 20 (by omega)), if_neg (show ¬ w = 70401 from by rw [← xwk_21]; exact g 21 (by omega)), if_neg (show ¬ w = 1949438 from by rw [← xwk_22]; exact g 22 (by omega)), if_neg (show ¬ w = 778957 from by rw [← xwk_23]; exact g 23 (by omega)), if_neg (show ¬ w = 4081324 from by rw [← xwk_24]; exact g 24 (by omega)), if_neg (show ¬ w = 10631 from by rw [← xwk_11]; exact g 11 (by omega)), if_neg (show ¬ w = 1111 from by rw [← xwk_12]; exact g 12 (by omega)), if_neg (show ¬ w = 423 from by rw [← xwk_13]; exact g 13 (by omega))]
      subst hc; rfl
    · subst hc
      subst g
      have kk : k = 0 ∨ k = 1 ∨ k = 2 ∨ k = 3 ∨ k = 4 ∨ k = 5 ∨ k = 6 ∨ k = 7 ∨ k = 8 ∨ k = 9 ∨ k = 10 ∨ k = 11 ∨ k = 12 ∨ k = 13 ∨ k = 14 ∨ k = 15 ∨ k = 16 ∨ k = 17 ∨ k = 18 ∨ k = 19 ∨ k = 20 ∨ k = 21 ∨ k = 22 ∨ k = 23 ∨ k = 24 ∨ k = 25 ∨ k = 26 ∨ k = 27 ∨ k = 28 := by omega
      clear d e1 a5
      rcases kk with rfl | rfl | rfl | rfl | rfl | rfl | rfl | rfl | rfl | rfl | rfl | rfl | rfl | rfl | rfl | rfl | rfl | rfl | rfl | rfl | rfl | rfl | rfl | rfl | rfl | rfl | rfl | rfl | rfl <;> decide +kernel
  · rw [if_neg d]
    have d' := fun q => d (e1.2 q)
    rw [if_neg (fun q => d' (by omega))]
theorem m_fact (h : xJ T n M V) : fX12_fact V = some (if (M 23 (M 30 3) / 1024) = 125 then 1 else if (M 23 (M 30 3) / 1024) = 126 then 2 else if (M 23 (M 30 3) / 1024) = 127 then 3 else if (M 23 (M 30 3) / 1024) = 128 then 4 else if (M 23 (M 30 3) / 1024) = 103 then 5 else 0) := by
  have a5 := h.2.2.2.2.1
  have e1 := xSe_1 a5
  generalize (M 23 (M 30 3) / 1024) = c at a5 e1 ⊢
  unfold fX12_fact
  by_cases d : V 200 6 = 1
  · rw [if_pos d]
    have hw : xWd (V 200 7) c := by
      rcases a5 with q | q | q | q | q
      · omega
      · omega
      · exact q.2
      · omega
      · omega
    generalize V 200 7 = w at hw ⊢
    rcases hw with ⟨hc, g⟩ | ⟨k, k1, hc, g⟩
    · rw [if_neg (show ¬ w = 10416091 from by rw [← xwk_25]; exact g 25 (by omega)), if_neg (show ¬ w = 8861527 from by rw [← xwk_26]; exact g 26 (by omega)), if_neg (show ¬ w = 161156 from by rw [← xwk_27]; exact g 27 (by omega)), if_neg (show ¬ w = 10939463 from by rw [← xwk_28]; exact g 28 (by omega)), if_neg (show ¬ w = 453774 from by rw [← xwk_3]; exact g 3 (by omega))]
      subst hc; rfl
    · subst hc
      subst g
      have kk : k = 0 ∨ k = 1 ∨ k = 2 ∨ k = 3 ∨ k = 4 ∨ k = 5 ∨ k = 6 ∨ k = 7 ∨ k = 8 ∨ k = 9 ∨ k = 10 ∨ k = 11 ∨ k = 12 ∨ k = 13 ∨ k = 14 ∨ k = 15 ∨ k = 16 ∨ k = 17 ∨ k = 18 ∨ k = 19 ∨ k = 20 ∨ k = 21 ∨ k = 22 ∨ k = 23 ∨ k = 24 ∨ k = 25 ∨ k = 26 ∨ k = 27 ∨ k = 28 := by omega
      clear d e1 a5
      rcases kk with rfl | rfl | rfl | rfl | rfl | rfl | rfl | rfl | rfl | rfl | rfl | rfl | rfl | rfl | rfl | rfl | rfl | rfl | rfl | rfl | rfl | rfl | rfl | rfl | rfl | rfl | rfl | rfl | rfl <;> decide +kernel
  · rw [if_neg d]
    have d' := fun q => d (e1.2 q)
    rw [if_neg (fun q => d' (by omega)), if_neg (fun q => d' (by omega)), if_neg (fun q => d' (by omega)), if_neg (fun q => d' (by omega)), if_neg (fun q => d' (by omega))]
theorem m_what (h : xJ T n M V) : fX12_what V = some (if 114 ≤ (M 23 (M 30 3) / 1024) ∧ (M 23 (M 30 3) / 1024) ≤ 124 then (M 23 (M 30 3) / 1024) - 114 else -1) := by
  have a5 := h.2.2.2.2.1
  have e1 := xSe_1 a5
  generalize (M 23 (M 30 3) / 1024) = c at a5 e1 ⊢
  unfold fX12_what
  by_cases d : V 200 6 = 1
  · rw [if_pos d]
    have hw : xWd (V 200 7) c := by
      rcases a5 with q | q | q | q | q
      · omega
      · omega
      · exact q.2
      · omega
      · omega
    generalize V 200 7 = w at hw ⊢
    rcases hw with ⟨hc, g⟩ | ⟨k, k1, hc, g⟩
    · rw [if_neg (show ¬ w = 8009370239 from by rw [← xwk_14]; exact g 14 (by omega)), if_neg (show ¬ w = 2461245202 from by rw [← xwk_15]; exact g 15 (by omega)), if_neg (show ¬ w = 9665171 from by rw [← xwk_16]; exact g 16 (by omega)), if_neg (show ¬ w = 385331 from by rw [← xwk_17]; exact g 17 (by omega)), if_neg (show ¬ w = 3427 from by rw [← xwk_18]; exact g 18 (by omega)), if_neg (show ¬ w = 3175 from by rw [← xwk_19]; exact g 19 (by omega)), if_neg (show ¬ w = 453937 from by rw [← xwk_20]; exact g 20 (by omega)), if_neg (show ¬ w = 70401 from by rw [← xwk_21]; exact g 21 (by omega)), if_neg (show ¬ w = 1949438 from by rw [← xwk_22]; exact g 22 (by omega)), if_neg (show ¬ w = 778957 from by rw [← xwk_23]; exact g 23 (by omega)), if_neg (show ¬ w = 4081324 from by rw [← xwk_24]; exact g 24 (by omega))]
      subst hc; rfl
    · subst hc
      subst g
      have kk : k = 0 ∨ k = 1 ∨ k = 2 ∨ k = 3 ∨ k = 4 ∨ k = 5 ∨ k = 6 ∨ k = 7 ∨ k = 8 ∨ k = 9 ∨ k = 10 ∨ k = 11 ∨ k = 12 ∨ k = 13 ∨ k = 14 ∨ k = 15 ∨ k = 16 ∨ k = 17 ∨ k = 18 ∨ k = 19 ∨ k = 20 ∨ k = 21 ∨ k = 22 ∨ k = 23 ∨ k = 24 ∨ k = 25 ∨ k = 26 ∨ k = 27 ∨ k = 28 := by omega
      clear d e1 a5
      rcases kk with rfl | rfl | rfl | rfl | rfl | rfl | rfl | rfl | rfl | rfl | rfl | rfl | rfl | rfl | rfl | rfl | rfl | rfl | rfl | rfl | rfl | rfl | rfl | rfl | rfl | rfl | rfl | rfl | rfl <;> decide +kernel
  · rw [if_neg d]
    have d' := fun q => d (e1.2 q)
    rw [if_neg (fun q => d' (by omega))]
end TK5
