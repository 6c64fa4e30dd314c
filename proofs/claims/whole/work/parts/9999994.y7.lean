/-! MACHINE ROWS, 89: the start -/
theorem zrow11 {args : Array Value} {s : State} {tm : Term} {f : Nat → Int} (harr : (Cond.arrayOf tm .int).before args s = true) (hlen : (Cond.eq (.length tm) (.int (Int32.ofNat 11))).before args s = true) (hel : ∀ j : Nat, j < 11 → (Cond.eq (.elem tm (.int (Int32.ofNat j))) (.int (Int32.ofInt (f j)))).before args s = true) :
    ∃ (t : Nat) (cell : Cell), tm.eval args s none [] s = some (.ref t) ∧ s.heap[t]? = some cell ∧ s.isArrayOf cell .int ∧ cell.vm ≠ .unknown ∧ cell.slots.size = 11 ∧ ∀ j : Nat, j < 11 → cell.slots[j]? = some (.int (Int32.ofInt (f j))) := by
  obtain ⟨t, cell, ht, hat, hs, hv5⟩ := Jvm.Lib.length_spec (va_eqt hlen)
  obtain ⟨hcell, hkn, -, -⟩ := State.arrayAt?_spec hat
  obtain ⟨hof, -⟩ := Cond.arrayOf_spec harr ht hcell
  obtain ⟨t2, ht2, hT⟩ := va_Tof (N := 11) (f := fun j => .int (Int32.ofInt (f j))) (A := fun _ => False) (by decide) harr (va_eqt hlen) (fun j hj => va_eqt (hel j hj)) (fun _ _ h => h)
  cases ht.symm.trans ht2
  obtain ⟨cell2, g1, g2, g3, g4, g5, g6, -⟩ := hT
  cases hcell.symm.trans g1
  refine ⟨t, cell, ht, hcell, hof, hkn, ?_, g6⟩
  have hle : cell.slots.size ≤ 11 := (Int32.ofNat_le_ofNat hs (by decide)).mp (show Int32.ofNat cell.slots.size ≤ Int32.ofNat 11 by rw [show Int32.ofNat cell.slots.size = cell.slots.size.toInt32 from rfl, g5]; exact Int32.le_refl _)
  omega
/-- the parts of what the Statement gives of the start -/
def zfl : List Cond := flatC (Cond.and given_1 narrow_1)
abbrev zsU : Term := .static "GlassSpindle" "SETTING_UNTOLD" "[I"
abbrev zsL : Term := .static "GlassSpindle" "SETTING_LEAST" "[I"
abbrev zsM : Term := .static "GlassSpindle" "SETTING_MOST" "[I"
def zst1 : Nat → Term := fun i => if i = 0 then .string "GlassSpindle$Law" 15 else .string "GlassSpindle$Tape" 56
theorem zfl_U : zfl[5]? = some (.arrayOf zsU .int) ∧ zfl[6]? = some (.eq (.length zsU) (.int (Int32.ofNat 11))) ∧ (∀ j : Nat, j < 11 → zfl[7 + j]? = some (.eq (.elem zsU (.int (Int32.ofNat j))) (.int (Int32.ofInt (zunt j))))) ∧ zfl[652]? = some (.exactly zsU "[I") := by decide +kernel
theorem zfl_L : zfl[24]? = some (.arrayOf zsL .int) ∧ zfl[25]? = some (.eq (.length zsL) (.int (Int32.ofNat 11))) ∧ ∀ j : Nat, j < 11 → zfl[26 + j]? = some (.eq (.elem zsL (.int (Int32.ofNat j))) (.int (Int32.ofInt (zlea j)))) := by decide +kernel
theorem zfl_M : zfl[38]? = some (.arrayOf zsM .int) ∧ zfl[39]? = some (.eq (.length zsM) (.int (Int32.ofNat 11))) ∧ ∀ j : Nat, j < 11 → zfl[40 + j]? = some (.eq (.elem zsM (.int (Int32.ofNat j))) (.int (Int32.ofInt (zmos j)))) := by decide +kernel
theorem zfl_1 : zfl[18]? = some (.eq (.static "java/lang/String" "COMPACT_STRINGS" "Z") (.int 1)) ∧ zfl[19]? = some (.isRef (.static "jdk/internal/util/Preconditions" "SIOOBE_FORMATTER" "Ljava/util/function/BiFunction;")) ∧ zfl[51]? = some (.isRef (.static Bundle.tN "UNASSIGNED_STACK" Bundle.steD)) ∧ zfl[52]? = some (.isRef (.static Bundle.tN "SUPPRESSED_SENTINEL" Bundle.listD)) := by decide +kernel
theorem zfl_S0 : zfl[96]? = some (.exactly (zst1 0) "java/lang/String") ∧ zfl[97]? = some (.eq (.field (zst1 0) "java/lang/String" "coder" "B") (.int 0)) ∧ zfl[98]? = some (.arrayOf (.field (zst1 0) "java/lang/String" "value" "[B") .byte) ∧ zfl[99]? = some (.eq (.length (.field (zst1 0) "java/lang/String" "value" "[B")) (.int (Int32.ofNat 232))) := by decide +kernel
theorem zfl_S1 : zfl[569]? = some (.exactly (zst1 1) "java/lang/String") ∧ zfl[570]? = some (.eq (.field (zst1 1) "java/lang/String" "coder" "B") (.int 0)) ∧ zfl[571]? = some (.arrayOf (.field (zst1 1) "java/lang/String" "value" "[B") .byte) ∧ zfl[572]? = some (.eq (.length (.field (zst1 1) "java/lang/String" "value" "[B")) (.int (Int32.ofNat 8))) ∧ zfl[568]? = some (.eq (zst1 0) (.string "GlassSpindle$Tape" 63)) ∧ zfl[581]? = some (.not (.eq (zst1 0) (zst1 1))) := by decide +kernel
theorem zfl_B0 : ∀ j : Nat, j < 232 → zfl[100 + j]? = some (.eq (.elem (.field (zst1 0) "java/lang/String" "value" "[B") (.int (Int32.ofNat j))) (.int ((zSb.getD 0 []).getD j 0))) := by decide +kernel
theorem zfl_B1 : ∀ j : Nat, j < 8 → zfl[573 + j]? = some (.eq (.elem (.field (zst1 1) "java/lang/String" "value" "[B") (.int (Int32.ofNat j))) (.int ((zSb.getD 1 []).getD j 0))) := by decide +kernel
theorem zfl_T : zfl[583]? = some (.exactly (.string "GlassSpindle" 201) "java/lang/String") ∧ zfl[613]? = some (.exactly (.string "GlassSpindle" 259) "java/lang/String") := by decide +kernel
