theorem rf_words : ∀ c ∈ (Cond.code x code maxLocals ret :: tables_1), c.before start1.args0 rf_about = true := by
  intro c hc
  rcases List.mem_cons.mp hc with h | h
  · rw [h]; exact rf_easy_ok (rf_lowOf rf_isLow) rf_push rfl start1.word_code
  · have h1 : c ∈ tables_1_1 ++ (tables_1_2 ++ (tables_1_3 ++ (tables_1_4 ++ (tables_1_5 ++ (tables_1_6 ++ (tables_1_7)))))) := h
    rcases List.mem_append.mp h1 with h2 | h1
    · exact rf_words_1 c h2
    rcases List.mem_append.mp h1 with h2 | h1
    · exact rf_words_2 c h2
    rcases List.mem_append.mp h1 with h2 | h1
    · exact rf_words_3 c h2
    rcases List.mem_append.mp h1 with h2 | h1
    · exact rf_words_4 c h2
    rcases List.mem_append.mp h1 with h2 | h1
    · exact rf_words_5 c h2
    rcases List.mem_append.mp h1 with h2 | h1
    · exact rf_words_6 c h2
    exact rf_words_7 c h1
set_option maxRecDepth 16384 in
theorem rf_atStart : AtStart classFile x code maxLocals ret World_1 tables_1 room_1 Calls_1 rest_1 Pre_1 launch0 start1.p0 start1.e0 rf_about ⟨0, 0⟩ start1.args0 Lib.HandBits.below0 :=
  ⟨lists_1, trivial, launch0.admits_env _ _ _, launch0.least_env, fairChoices_fair.cas, fairChoices_fair.clock, rfl, by decide +kernel, by decide +kernel,
    (Spec.applies_iff rfl).mpr ⟨rfl, rfl, rfl, by decide +kernel, by decide +kernel, by decide +kernel, launch0.hasRoom_least _ room_1 (by decide +kernel) (by decide +kernel) (by decide +kernel) (by decide +kernel) (by decide +kernel) (by decide +kernel), atoms_intro rf_words⟩,
    trivial, (show rest_1_c.before start1.args0 rf_about = true by decide +kernel), (show (Cond.and given_1 narrow_1).before start1.args0 rf_about = true by decide +kernel)⟩
