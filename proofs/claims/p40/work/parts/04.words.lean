set_option maxRecDepth 16384 in
theorem rf_w_1_0 : (tables_1_1.take 120).all (fun c => rf_easy c || c.before start1.args0 rf_about) = true := by decide +kernel
set_option maxRecDepth 16384 in
theorem rf_w_1_1 : ((tables_1_1.drop 120)).all (fun c => rf_easy c || c.before start1.args0 rf_about) = true := by decide +kernel
theorem rf_words_1 : ∀ c ∈ tables_1_1, c.before start1.args0 rf_about = true := fun c h => rf_word (List.all_eq_true.mp (start1.su_all_split _ 120 (tables_1_1) rf_w_1_0 (rf_w_1_1)) c h) (start1.words_1 c h)
set_option maxRecDepth 16384 in
theorem rf_w_2_0 : (tables_1_2.take 120).all (fun c => rf_easy c || c.before start1.args0 rf_about) = true := by decide +kernel
set_option maxRecDepth 16384 in
theorem rf_w_2_1 : ((tables_1_2.drop 120)).all (fun c => rf_easy c || c.before start1.args0 rf_about) = true := by decide +kernel
theorem rf_words_2 : ∀ c ∈ tables_1_2, c.before start1.args0 rf_about = true := fun c h => rf_word (List.all_eq_true.mp (start1.su_all_split _ 120 (tables_1_2) rf_w_2_0 (rf_w_2_1)) c h) (start1.words_2 c h)
set_option maxRecDepth 16384 in
theorem rf_w_3_0 : (tables_1_3.take 120).all (fun c => rf_easy c || c.before start1.args0 rf_about) = true := by decide +kernel
set_option maxRecDepth 16384 in
theorem rf_w_3_1 : ((tables_1_3.drop 120)).all (fun c => rf_easy c || c.before start1.args0 rf_about) = true := by decide +kernel
theorem rf_words_3 : ∀ c ∈ tables_1_3, c.before start1.args0 rf_about = true := fun c h => rf_word (List.all_eq_true.mp (start1.su_all_split _ 120 (tables_1_3) rf_w_3_0 (rf_w_3_1)) c h) (start1.words_3 c h)
set_option maxRecDepth 16384 in
theorem rf_w_4_0 : (tables_1_4.take 120).all (fun c => rf_easy c || c.before start1.args0 rf_about) = true := by decide +kernel
set_option maxRecDepth 16384 in
theorem rf_w_4_1 : ((tables_1_4.drop 120)).all (fun c => rf_easy c || c.before start1.args0 rf_about) = true := by decide +kernel
theorem rf_words_4 : ∀ c ∈ tables_1_4, c.before start1.args0 rf_about = true := fun c h => rf_word (List.all_eq_true.mp (start1.su_all_split _ 120 (tables_1_4) rf_w_4_0 (rf_w_4_1)) c h) (start1.words_4 c h)
set_option maxRecDepth 16384 in
theorem rf_w_5_0 : (tables_1_5.take 120).all (fun c => rf_easy c || c.before start1.args0 rf_about) = true := by decide +kernel
set_option maxRecDepth 16384 in
theorem rf_w_5_1 : ((tables_1_5.drop 120)).all (fun c => rf_easy c || c.before start1.args0 rf_about) = true := by decide +kernel
theorem rf_words_5 : ∀ c ∈ tables_1_5, c.before start1.args0 rf_about = true := fun c h => rf_word (List.all_eq_true.mp (start1.su_all_split _ 120 (tables_1_5) rf_w_5_0 (rf_w_5_1)) c h) (start1.words_5 c h)
set_option maxRecDepth 16384 in
theorem rf_w_6_0 : (tables_1_6.take 120).all (fun c => rf_easy c || c.before start1.args0 rf_about) = true := by decide +kernel
set_option maxRecDepth 16384 in
theorem rf_w_6_1 : ((tables_1_6.drop 120)).all (fun c => rf_easy c || c.before start1.args0 rf_about) = true := by decide +kernel
theorem rf_words_6 : ∀ c ∈ tables_1_6, c.before start1.args0 rf_about = true := fun c h => rf_word (List.all_eq_true.mp (start1.su_all_split _ 120 (tables_1_6) rf_w_6_0 (rf_w_6_1)) c h) (start1.words_6 c h)
set_option maxRecDepth 16384 in
theorem rf_w_7_0 : (tables_1_7).all (fun c => rf_easy c || c.before start1.args0 rf_about) = true := by decide +kernel
theorem rf_words_7 : ∀ c ∈ tables_1_7, c.before start1.args0 rf_about = true := fun c h => rf_word (List.all_eq_true.mp (rf_w_7_0) c h) (start1.words_7 c h)
