set_option maxRecDepth 16384 in
theorem rf_w_7_0 : (tables_1_7.take 60).all (fun c => rf_easy c || c.before start1.args0 rf_about) = true := by decide +kernel
set_option maxRecDepth 16384 in
theorem rf_w_7_1 : ((tables_1_7.drop 60)).all (fun c => rf_easy c || c.before start1.args0 rf_about) = true := by decide +kernel
theorem rf_words_7 : ∀ c ∈ tables_1_7, c.before start1.args0 rf_about = true := fun c h => rf_word (List.all_eq_true.mp (start1.su_all_split _ 60 (tables_1_7) rf_w_7_0 (rf_w_7_1)) c h) (start1.words_7 c h)
