/-! THE CLAIM IS FALSE AS IT IS PRINTED: at the start rf_about, which meets every premise, the law never ends -/
theorem rf_false_1 : ¬ Claimed_1_1 := by
  intro h
  have hC := h launch0 rfl lists_1 trivial
  obtain ⟨hL, hW, hadm, hleast, hcas, hclk, hfr, hargs, hheap, happ, hcalls, hrest, hpre⟩ := rf_atStart
  obtain ⟨n, o, hw, hrun, hend, hpost⟩ := hC start1.p0 start1.e0 hadm hcas hclk rf_about ⟨0, 0⟩ start1.args0 Lib.HandBits.below0 hfr hargs hheap happ ⟨hcalls, hrest, hpre⟩
  exact rf_open (rf_never n) hend
theorem rf_false_2 : ¬ Claimed_1_2 := by
  intro h
  have hC := h launch0 rfl lists_1 trivial
  obtain ⟨hL, hW, hadm, hleast, hcas, hclk, hfr, hargs, hheap, happ, hcalls, hrest, hpre⟩ := rf_atStart
  obtain ⟨n, o, hw, hrun, hend, hpost⟩ := hC start1.p0 start1.e0 hadm hcas hclk rf_about ⟨0, 0⟩ start1.args0 Lib.HandBits.below0 hfr hargs hheap happ ⟨hcalls, hrest, hpre⟩
  exact rf_open (rf_never n) hend
theorem rf_false : ¬ (Claimed_1_1 ∧ Claimed_1_2) := fun h => rf_false_1 h.1
