set_option maxRecDepth 16384 in
theorem rf_w_1_0 : (tables_1_1.take 60).all (fun c => rf_easy c || c.before start1.args0 rf_about) = true := by decide +kernel
set_option maxRecDepth 16384 in
theorem rf_w_1_1 : ((tables_1_1.drop 60).take 60).all (fun c => rf_easy c || c.before start1.args0 rf_about) = true := by decide +kernel
set_option maxRecDepth 16384 in
theorem rf_w_1_2 : (((tables_1_1.drop 60).drop 60).take 60).all (fun c => rf_easy c || c.before start1.args0 rf_about) = true := by decide +kernel
set_option maxRecDepth 16384 in
theorem rf_w_1_3 : ((((tables_1_1.drop 60).drop 60).drop 60)).all (fun c => rf_easy c || c.before start1.args0 rf_about) = true := by decide +kernel
theorem rf_words_1 : ∀ c ∈ tables_1_1, c.before start1.args0 rf_about = true := fun c h => rf_word (List.all_eq_true.mp (start1.su_all_split _ 60 (tables_1_1) rf_w_1_0 (start1.su_all_split _ 60 ((tables_1_1.drop 60)) rf_w_1_1 (start1.su_all_split _ 60 (((tables_1_1.drop 60).drop 60)) rf_w_1_2 (rf_w_1_3)))) c h) (start1.words_1 c h)
