abbrev cL_law : ByteArray := code
/-! the law: its script, its end -/
def am_L (X : am_X) (L : Nat) (xs : Nat → Int32) : Prop := (match X with
  | (_, _, _, _, s, _, _, _, _, _, _, g, _) => va_X (g.2.2.2 1200) L xs s s.heap ∧ g.2.2.2 1200 < g.1 ∧ g.1 ≤ s.heap.size) ∧ ∀ {pc : Nat}, decode cL_law pc = .ok (.ireturn, 1) → ∀ (lv : List (Nat × Value)) (τ : am_T), am_W X 4 (pc, lv, [.int (nI 1)], am_D τ)
section
variable {X : am_X} {own : String} {cc : ByteArray} {nL pc : Nat} {lv : List (Nat × Value)} {st : List Value} {σ : am_S} {L : Nat} {xs : Nat → Int32}
theorem am_sald {j : Nat} {i : Int32} (hd : decode cc pc = .ok (.iaload, 1)) (hX : match X with
  | (_, _, _, _, s, _, _, _, _, _, _, g, _) => va_X (g.2.2.2 1200) L xs s s.heap ∧ g.2.2.2 1200 < g.1 ∧ g.1 ≤ s.heap.size) (hin : am_in i L = true) (hj : i.toNatClampNeg = j) (hF : am_F X own cc nL) (k : am_W X nL (pc + 1, lv, .int (xs j) :: st, σ)) : am_W X nL (pc, lv, .int i :: .ref 1200 :: st, σ) := by
  obtain ⟨p, l, e, R, s, m, args, below, meth, c, Q, g, n0⟩ := X
  intro H locs ls hn hI hS hl
  subst hj
  have hk := k H locs ls hn hI hS hl
  have he : am_ad g 1200 = g.2.2.2 1200 := if_neg (by decide)
  show W p l e R s m args below meth c H locs _ _ Q (F0 m pc ls (.int i :: .ref (am_ad g 1200) :: st.map (am_rv g)))
  rw [he]
  exact va_sld hF.1 hF.2.1 hX.1 (Nat.lt_of_lt_of_le hX.2.1 hX.2.2) (Nat.not_le.mpr hX.2.1) hS (am_in_vp hin) hd hk
theorem am_xlen (hd : decode cc pc = .ok (.arraylength, 1)) (hX : match X with
  | (_, _, _, _, s, _, _, _, _, _, _, g, _) => va_X (g.2.2.2 1200) L xs s s.heap ∧ g.2.2.2 1200 < g.1 ∧ g.1 ≤ s.heap.size) (hF : am_F X own cc nL) (k : am_W X nL (pc + 1, lv, .int (nI L) :: st, σ)) : am_W X nL (pc, lv, .ref 1200 :: st, σ) := by
  obtain ⟨p, l, e, R, s, m, args, below, meth, c, Q, g, n0⟩ := X
  intro H locs ls hn hI hS hl
  have hk := k H locs ls hn hI hS hl
  have he : am_ad g 1200 = g.2.2.2 1200 := if_neg (by decide)
  show W p l e R s m args below meth c H locs _ _ Q (F0 m pc ls (.ref (am_ad g 1200) :: st.map (am_rv g)))
  rw [he]
  exact va_slen hF.1 hF.2.1 hX.1 (Nat.lt_of_lt_of_le hX.2.1 hX.2.2) (Nat.not_le.mpr hX.2.1) hS hd hk
end
def s_law_0 : List am_Q := [(18, .iload_n 3, 0, 0, 0, .null), (19, .aload_n 0, 0, 0, 0, .null)]
theorem t_s_law_0 : s_law_0.all (am_ok 15 cL_law) = true := by decide +kernel
theorem d_L_law_20 : decode cL_law 20 = .ok (.arraylength, 1) := by decide +kernel
def s_law_1 : List am_Q := [(21, .iconst 4, 0, 0, 0, .int (nI 4)), (22, .isub, 0, 0, 0, .null)]
theorem t_s_law_1 : s_law_1.all (am_ok 15 cL_law) = true := by decide +kernel
theorem d_L_law_23 : decode cL_law 23 = .ok (.if_icmp .gt 1431, 3) := by decide +kernel
def s_law_2 : List am_Q := [(1454, .iconst 1, 0, 0, 0, .int (nI 1))]
theorem t_s_law_2 : s_law_2.all (am_ok 15 cL_law) = true := by decide +kernel
theorem d_L_law_1455 : decode cL_law 1455 = .ok (.ireturn, 1) := by decide +kernel
def s_law_3 : List am_Q := [(26, .aload_n 0, 0, 0, 0, .null), (27, .iload_n 3, 0, 0, 0, .null)]
theorem t_s_law_3 : s_law_3.all (am_ok 15 cL_law) = true := by decide +kernel
theorem d_L_law_28 : decode cL_law 28 = .ok (.iaload, 1) := by decide +kernel
def s_law_4 : List am_Q := [(29, .bipush 63, 0, 0, 0, .int (nI 63)), (31, .iand, 0, 0, 0, .null)]
theorem t_s_law_4 : s_law_4.all (am_ok 15 cL_law) = true := by decide +kernel
theorem d_L_law_32 : decode cL_law 32 = .ok (.tableswitch 1416 0 38 #[172, 231, 254, 317, 340, 383, 426, 460, 493, 526, 569, 602, 635, 678, 711, 754, 787, 820, 863, 896, 929, 952, 985, 1008, 1031, 1064, 1087, 1110, 1153, 1186, 1229, 1252, 1285, 1328, 1341, 1354, 1367, 1390, 1403], 172) := by decide +kernel
def s_law_5 : List am_Q := [(1448, .iinc 3 4, 0, 0, 0, .int (nI 4)), (1451, .goto (-1433), 18, 0, 0, .null)]
theorem t_s_law_5 : s_law_5.all (am_ok 15 cL_law) = true := by decide +kernel
def s_law_6 : List am_Q := [(204, .aload_n 1, 0, 0, 0, .null), (205, .aload_n 0, 0, 0, 0, .null), (206, .iload_n 3, 0, 0, 0, .null), (207, .iconst 1, 0, 0, 0, .int (nI 1)), (208, .iadd, 0, 0, 0, .null)]
theorem t_s_law_6 : s_law_6.all (am_ok 15 cL_law) = true := by decide +kernel
theorem d_L_law_209 : decode cL_law 209 = .ok (.iaload, 1) := by decide +kernel
def s_law_7 : List am_Q := [(210, .aload_n 0, 0, 0, 0, .null), (211, .iload_n 3, 0, 0, 0, .null), (212, .iconst 2, 0, 0, 0, .int (nI 2)), (213, .iadd, 0, 0, 0, .null)]
theorem t_s_law_7 : s_law_7.all (am_ok 15 cL_law) = true := by decide +kernel
theorem d_L_law_214 : decode cL_law 214 = .ok (.iaload, 1) := by decide +kernel
def s_law_8 : List am_Q := [(215, .aload_n 0, 0, 0, 0, .null), (216, .iload_n 3, 0, 0, 0, .null), (217, .iconst 3, 0, 0, 0, .int (nI 3)), (218, .iadd, 0, 0, 0, .null)]
theorem t_s_law_8 : s_law_8.all (am_ok 15 cL_law) = true := by decide +kernel
theorem d_L_law_219 : decode cL_law 219 = .ok (.iaload, 1) := by decide +kernel
theorem d_L_law_220 : decode cL_law 220 = .ok (.ifCond .eq 7, 3) := by decide +kernel
def s_law_9 : List am_Q := [(227, .iconst 0, 0, 0, 0, .int (nI 0))]
theorem t_s_law_9 : s_law_9.all (am_ok 15 cL_law) = true := by decide +kernel
theorem d_L_law_228 : decode cL_law 228 = .ok (.invokevirtual 13, 3) := by decide +kernel
def s_law_10 : List am_Q := [(231, .aload_n 2, 0, 0, 0, .null), (232, .aload_n 0, 0, 0, 0, .null), (233, .iload_n 3, 0, 0, 0, .null), (234, .iconst 1, 0, 0, 0, .int (nI 1)), (235, .iadd, 0, 0, 0, .null)]
theorem t_s_law_10 : s_law_10.all (am_ok 15 cL_law) = true := by decide +kernel
theorem d_L_law_236 : decode cL_law 236 = .ok (.iaload, 1) := by decide +kernel
def s_law_11 : List am_Q := [(237, .aload_n 0, 0, 0, 0, .null), (238, .iload_n 3, 0, 0, 0, .null), (239, .iconst 2, 0, 0, 0, .int (nI 2)), (240, .iadd, 0, 0, 0, .null)]
theorem t_s_law_11 : s_law_11.all (am_ok 15 cL_law) = true := by decide +kernel
theorem d_L_law_241 : decode cL_law 241 = .ok (.iaload, 1) := by decide +kernel
def s_law_12 : List am_Q := [(242, .aload_n 0, 0, 0, 0, .null), (243, .iload_n 3, 0, 0, 0, .null), (244, .iconst 3, 0, 0, 0, .int (nI 3)), (245, .iadd, 0, 0, 0, .null)]
theorem t_s_law_12 : s_law_12.all (am_ok 15 cL_law) = true := by decide +kernel
theorem d_L_law_246 : decode cL_law 246 = .ok (.iaload, 1) := by decide +kernel
theorem d_L_law_247 : decode cL_law 247 = .ok (.ifCond .eq 7, 3) := by decide +kernel
def s_law_13 : List am_Q := [(254, .iconst 0, 0, 0, 0, .int (nI 0))]
theorem t_s_law_13 : s_law_13.all (am_ok 15 cL_law) = true := by decide +kernel
theorem d_L_law_255 : decode cL_law 255 = .ok (.invokevirtual 17, 3) := by decide +kernel
theorem d_L_law_258 : decode cL_law 258 = .ok (.if_icmp .eq 1190, 3) := by decide +kernel
def s_law_14 : List am_Q := [(1448, .iinc 3 4, 0, 0, 0, .int (nI 4)), (1451, .goto (-1433), 18, 0, 0, .null)]
theorem t_s_law_14 : s_law_14.all (am_ok 15 cL_law) = true := by decide +kernel
def s_law_15 : List am_Q := [(261, .iconst 0, 0, 0, 0, .int (nI 0))]
theorem t_s_law_15 : s_law_15.all (am_ok 15 cL_law) = true := by decide +kernel
def s_law_16 : List am_Q := [(250, .iconst 1, 0, 0, 0, .int (nI 1)), (251, .goto 4, 255, 0, 0, .null)]
theorem t_s_law_16 : s_law_16.all (am_ok 15 cL_law) = true := by decide +kernel
def s_law_17 : List am_Q := [(223, .iconst 1, 0, 0, 0, .int (nI 1)), (224, .goto 4, 228, 0, 0, .null)]
theorem t_s_law_17 : s_law_17.all (am_ok 15 cL_law) = true := by decide +kernel
def s_law_18 : List am_Q := [(263, .aload_n 1, 0, 0, 0, .null), (264, .aload_n 0, 0, 0, 0, .null), (265, .iload_n 3, 0, 0, 0, .null), (266, .iconst 1, 0, 0, 0, .int (nI 1)), (267, .iadd, 0, 0, 0, .null)]
theorem t_s_law_18 : s_law_18.all (am_ok 15 cL_law) = true := by decide +kernel
theorem d_L_law_268 : decode cL_law 268 = .ok (.iaload, 1) := by decide +kernel
theorem d_L_law_269 : decode cL_law 269 = .ok (.invokevirtual 18, 3) := by decide +kernel
def s_law_19 : List am_Q := [(272, .aload_n 2, 0, 0, 0, .null), (273, .aload_n 0, 0, 0, 0, .null), (274, .iload_n 3, 0, 0, 0, .null), (275, .iconst 1, 0, 0, 0, .int (nI 1)), (276, .iadd, 0, 0, 0, .null)]
theorem t_s_law_19 : s_law_19.all (am_ok 15 cL_law) = true := by decide +kernel
theorem d_L_law_277 : decode cL_law 277 = .ok (.iaload, 1) := by decide +kernel
theorem d_L_law_278 : decode cL_law 278 = .ok (.invokevirtual 22, 3) := by decide +kernel
theorem d_L_law_281 : decode cL_law 281 = .ok (.if_icmp .eq 1167, 3) := by decide +kernel
def s_law_20 : List am_Q := [(1448, .iinc 3 4, 0, 0, 0, .int (nI 4)), (1451, .goto (-1433), 18, 0, 0, .null)]
theorem t_s_law_20 : s_law_20.all (am_ok 15 cL_law) = true := by decide +kernel
def s_law_21 : List am_Q := [(284, .iconst 0, 0, 0, 0, .int (nI 0))]
theorem t_s_law_21 : s_law_21.all (am_ok 15 cL_law) = true := by decide +kernel
def s_law_22 : List am_Q := [(286, .aload_n 1, 0, 0, 0, .null), (287, .aload_n 0, 0, 0, 0, .null), (288, .iload_n 3, 0, 0, 0, .null), (289, .iconst 1, 0, 0, 0, .int (nI 1)), (290, .iadd, 0, 0, 0, .null)]
theorem t_s_law_22 : s_law_22.all (am_ok 15 cL_law) = true := by decide +kernel
theorem d_L_law_291 : decode cL_law 291 = .ok (.iaload, 1) := by decide +kernel
def s_law_23 : List am_Q := [(292, .i2l, 0, 0, 0, .null), (293, .bipush 32, 0, 0, 0, .int (nI 32)), (295, .lshl, 0, 0, 0, .null), (296, .aload_n 0, 0, 0, 0, .null), (297, .iload_n 3, 0, 0, 0, .null), (298, .iconst 2, 0, 0, 0, .int (nI 2)), (299, .iadd, 0, 0, 0, .null)]
theorem t_s_law_23 : s_law_23.all (am_ok 15 cL_law) = true := by decide +kernel
theorem d_L_law_300 : decode cL_law 300 = .ok (.iaload, 1) := by decide +kernel
def s_law_24 : List am_Q := [(301, .i2l, 0, 0, 0, .null), (302, .ldc2_w 23, 0, 0, 34, .long (lN 4294967295)), (305, .land, 0, 0, 0, .null), (306, .lor, 0, 0, 0, .null), (307, .aload_n 0, 0, 0, 0, .null), (308, .iload_n 3, 0, 0, 0, .null), (309, .iconst 3, 0, 0, 0, .int (nI 3)), (310, .iadd, 0, 0, 0, .null)]
theorem t_s_law_24 : s_law_24.all (am_ok 15 cL_law) = true := by decide +kernel
theorem d_L_law_311 : decode cL_law 311 = .ok (.iaload, 1) := by decide +kernel
theorem d_L_law_312 : decode cL_law 312 = .ok (.invokevirtual 25, 3) := by decide +kernel
def s_law_25 : List am_Q := [(315, .aload_n 2, 0, 0, 0, .null), (316, .aload_n 0, 0, 0, 0, .null), (317, .iload_n 3, 0, 0, 0, .null), (318, .iconst 1, 0, 0, 0, .int (nI 1)), (319, .iadd, 0, 0, 0, .null)]
theorem t_s_law_25 : s_law_25.all (am_ok 15 cL_law) = true := by decide +kernel
theorem d_L_law_320 : decode cL_law 320 = .ok (.iaload, 1) := by decide +kernel
def s_law_26 : List am_Q := [(321, .i2l, 0, 0, 0, .null), (322, .bipush 32, 0, 0, 0, .int (nI 32)), (324, .lshl, 0, 0, 0, .null), (325, .aload_n 0, 0, 0, 0, .null), (326, .iload_n 3, 0, 0, 0, .null), (327, .iconst 2, 0, 0, 0, .int (nI 2)), (328, .iadd, 0, 0, 0, .null)]
theorem t_s_law_26 : s_law_26.all (am_ok 15 cL_law) = true := by decide +kernel
theorem d_L_law_329 : decode cL_law 329 = .ok (.iaload, 1) := by decide +kernel
def s_law_27 : List am_Q := [(330, .i2l, 0, 0, 0, .null), (331, .ldc2_w 23, 0, 0, 34, .long (lN 4294967295)), (334, .land, 0, 0, 0, .null), (335, .lor, 0, 0, 0, .null), (336, .aload_n 0, 0, 0, 0, .null), (337, .iload_n 3, 0, 0, 0, .null), (338, .iconst 3, 0, 0, 0, .int (nI 3)), (339, .iadd, 0, 0, 0, .null)]
theorem t_s_law_27 : s_law_27.all (am_ok 15 cL_law) = true := by decide +kernel
theorem d_L_law_340 : decode cL_law 340 = .ok (.iaload, 1) := by decide +kernel
theorem d_L_law_341 : decode cL_law 341 = .ok (.invokevirtual 29, 3) := by decide +kernel
theorem d_L_law_344 : decode cL_law 344 = .ok (.if_icmp .eq 1104, 3) := by decide +kernel
def s_law_28 : List am_Q := [(1448, .iinc 3 4, 0, 0, 0, .int (nI 4)), (1451, .goto (-1433), 18, 0, 0, .null)]
theorem t_s_law_28 : s_law_28.all (am_ok 15 cL_law) = true := by decide +kernel
def s_law_29 : List am_Q := [(347, .iconst 0, 0, 0, 0, .int (nI 0))]
theorem t_s_law_29 : s_law_29.all (am_ok 15 cL_law) = true := by decide +kernel
def s_law_30 : List am_Q := [(349, .aload_n 1, 0, 0, 0, .null), (350, .aload_n 0, 0, 0, 0, .null), (351, .iload_n 3, 0, 0, 0, .null), (352, .iconst 1, 0, 0, 0, .int (nI 1)), (353, .iadd, 0, 0, 0, .null)]
theorem t_s_law_30 : s_law_30.all (am_ok 15 cL_law) = true := by decide +kernel
theorem d_L_law_354 : decode cL_law 354 = .ok (.iaload, 1) := by decide +kernel
theorem d_L_law_355 : decode cL_law 355 = .ok (.invokevirtual 30, 3) := by decide +kernel
def s_law_31 : List am_Q := [(358, .aload_n 2, 0, 0, 0, .null), (359, .aload_n 0, 0, 0, 0, .null), (360, .iload_n 3, 0, 0, 0, .null), (361, .iconst 1, 0, 0, 0, .int (nI 1)), (362, .iadd, 0, 0, 0, .null)]
theorem t_s_law_31 : s_law_31.all (am_ok 15 cL_law) = true := by decide +kernel
theorem d_L_law_363 : decode cL_law 363 = .ok (.iaload, 1) := by decide +kernel
theorem d_L_law_364 : decode cL_law 364 = .ok (.invokevirtual 33, 3) := by decide +kernel
theorem d_L_law_367 : decode cL_law 367 = .ok (.if_icmp .eq 1081, 3) := by decide +kernel
def s_law_32 : List am_Q := [(1448, .iinc 3 4, 0, 0, 0, .int (nI 4)), (1451, .goto (-1433), 18, 0, 0, .null)]
theorem t_s_law_32 : s_law_32.all (am_ok 15 cL_law) = true := by decide +kernel
def s_law_33 : List am_Q := [(370, .iconst 0, 0, 0, 0, .int (nI 0))]
theorem t_s_law_33 : s_law_33.all (am_ok 15 cL_law) = true := by decide +kernel
def s_law_34 : List am_Q := [(372, .aload_n 1, 0, 0, 0, .null), (373, .aload_n 0, 0, 0, 0, .null), (374, .iload_n 3, 0, 0, 0, .null), (375, .iconst 1, 0, 0, 0, .int (nI 1)), (376, .iadd, 0, 0, 0, .null)]
theorem t_s_law_34 : s_law_34.all (am_ok 15 cL_law) = true := by decide +kernel
theorem d_L_law_377 : decode cL_law 377 = .ok (.iaload, 1) := by decide +kernel
def s_law_35 : List am_Q := [(378, .aload_n 0, 0, 0, 0, .null), (379, .iload_n 3, 0, 0, 0, .null), (380, .iconst 2, 0, 0, 0, .int (nI 2)), (381, .iadd, 0, 0, 0, .null)]
theorem t_s_law_35 : s_law_35.all (am_ok 15 cL_law) = true := by decide +kernel
theorem d_L_law_382 : decode cL_law 382 = .ok (.iaload, 1) := by decide +kernel
def s_law_36 : List am_Q := [(383, .aload_n 0, 0, 0, 0, .null), (384, .iload_n 3, 0, 0, 0, .null), (385, .iconst 3, 0, 0, 0, .int (nI 3)), (386, .iadd, 0, 0, 0, .null)]
theorem t_s_law_36 : s_law_36.all (am_ok 15 cL_law) = true := by decide +kernel
theorem d_L_law_387 : decode cL_law 387 = .ok (.iaload, 1) := by decide +kernel
theorem d_L_law_388 : decode cL_law 388 = .ok (.invokevirtual 34, 3) := by decide +kernel
def s_law_37 : List am_Q := [(391, .aload_n 2, 0, 0, 0, .null), (392, .aload_n 0, 0, 0, 0, .null), (393, .iload_n 3, 0, 0, 0, .null), (394, .iconst 1, 0, 0, 0, .int (nI 1)), (395, .iadd, 0, 0, 0, .null)]
theorem t_s_law_37 : s_law_37.all (am_ok 15 cL_law) = true := by decide +kernel
theorem d_L_law_396 : decode cL_law 396 = .ok (.iaload, 1) := by decide +kernel
def s_law_38 : List am_Q := [(397, .aload_n 0, 0, 0, 0, .null), (398, .iload_n 3, 0, 0, 0, .null), (399, .iconst 2, 0, 0, 0, .int (nI 2)), (400, .iadd, 0, 0, 0, .null)]
theorem t_s_law_38 : s_law_38.all (am_ok 15 cL_law) = true := by decide +kernel
theorem d_L_law_401 : decode cL_law 401 = .ok (.iaload, 1) := by decide +kernel
def s_law_39 : List am_Q := [(402, .aload_n 0, 0, 0, 0, .null), (403, .iload_n 3, 0, 0, 0, .null), (404, .iconst 3, 0, 0, 0, .int (nI 3)), (405, .iadd, 0, 0, 0, .null)]
theorem t_s_law_39 : s_law_39.all (am_ok 15 cL_law) = true := by decide +kernel
theorem d_L_law_406 : decode cL_law 406 = .ok (.iaload, 1) := by decide +kernel
theorem d_L_law_407 : decode cL_law 407 = .ok (.invokevirtual 38, 3) := by decide +kernel
theorem d_L_law_410 : decode cL_law 410 = .ok (.if_icmp .eq 1038, 3) := by decide +kernel
def s_law_40 : List am_Q := [(1448, .iinc 3 4, 0, 0, 0, .int (nI 4)), (1451, .goto (-1433), 18, 0, 0, .null)]
theorem t_s_law_40 : s_law_40.all (am_ok 15 cL_law) = true := by decide +kernel
def s_law_41 : List am_Q := [(413, .iconst 0, 0, 0, 0, .int (nI 0))]
theorem t_s_law_41 : s_law_41.all (am_ok 15 cL_law) = true := by decide +kernel
def s_law_42 : List am_Q := [(415, .aload_n 1, 0, 0, 0, .null), (416, .aload_n 0, 0, 0, 0, .null), (417, .iload_n 3, 0, 0, 0, .null), (418, .iconst 1, 0, 0, 0, .int (nI 1)), (419, .iadd, 0, 0, 0, .null)]
theorem t_s_law_42 : s_law_42.all (am_ok 15 cL_law) = true := by decide +kernel
theorem d_L_law_420 : decode cL_law 420 = .ok (.iaload, 1) := by decide +kernel
def s_law_43 : List am_Q := [(421, .aload_n 0, 0, 0, 0, .null), (422, .iload_n 3, 0, 0, 0, .null), (423, .iconst 2, 0, 0, 0, .int (nI 2)), (424, .iadd, 0, 0, 0, .null)]
theorem t_s_law_43 : s_law_43.all (am_ok 15 cL_law) = true := by decide +kernel
theorem d_L_law_425 : decode cL_law 425 = .ok (.iaload, 1) := by decide +kernel
def s_law_44 : List am_Q := [(426, .aload_n 0, 0, 0, 0, .null), (427, .iload_n 3, 0, 0, 0, .null), (428, .iconst 3, 0, 0, 0, .int (nI 3)), (429, .iadd, 0, 0, 0, .null)]
theorem t_s_law_44 : s_law_44.all (am_ok 15 cL_law) = true := by decide +kernel
theorem d_L_law_430 : decode cL_law 430 = .ok (.iaload, 1) := by decide +kernel
theorem d_L_law_431 : decode cL_law 431 = .ok (.invokevirtual 39, 3) := by decide +kernel
def s_law_45 : List am_Q := [(434, .aload_n 2, 0, 0, 0, .null), (435, .aload_n 0, 0, 0, 0, .null), (436, .iload_n 3, 0, 0, 0, .null), (437, .iconst 1, 0, 0, 0, .int (nI 1)), (438, .iadd, 0, 0, 0, .null)]
theorem t_s_law_45 : s_law_45.all (am_ok 15 cL_law) = true := by decide +kernel
theorem d_L_law_439 : decode cL_law 439 = .ok (.iaload, 1) := by decide +kernel
def s_law_46 : List am_Q := [(440, .aload_n 0, 0, 0, 0, .null), (441, .iload_n 3, 0, 0, 0, .null), (442, .iconst 2, 0, 0, 0, .int (nI 2)), (443, .iadd, 0, 0, 0, .null)]
theorem t_s_law_46 : s_law_46.all (am_ok 15 cL_law) = true := by decide +kernel
theorem d_L_law_444 : decode cL_law 444 = .ok (.iaload, 1) := by decide +kernel
def s_law_47 : List am_Q := [(445, .aload_n 0, 0, 0, 0, .null), (446, .iload_n 3, 0, 0, 0, .null), (447, .iconst 3, 0, 0, 0, .int (nI 3)), (448, .iadd, 0, 0, 0, .null)]
theorem t_s_law_47 : s_law_47.all (am_ok 15 cL_law) = true := by decide +kernel
theorem d_L_law_449 : decode cL_law 449 = .ok (.iaload, 1) := by decide +kernel
theorem d_L_law_450 : decode cL_law 450 = .ok (.invokevirtual 42, 3) := by decide +kernel
theorem d_L_law_453 : decode cL_law 453 = .ok (.if_icmp .eq 995, 3) := by decide +kernel
def s_law_48 : List am_Q := [(1448, .iinc 3 4, 0, 0, 0, .int (nI 4)), (1451, .goto (-1433), 18, 0, 0, .null)]
theorem t_s_law_48 : s_law_48.all (am_ok 15 cL_law) = true := by decide +kernel
def s_law_49 : List am_Q := [(456, .iconst 0, 0, 0, 0, .int (nI 0))]
theorem t_s_law_49 : s_law_49.all (am_ok 15 cL_law) = true := by decide +kernel
def s_law_50 : List am_Q := [(458, .aload_n 1, 0, 0, 0, .null), (459, .aload_n 0, 0, 0, 0, .null), (460, .iload_n 3, 0, 0, 0, .null), (461, .iconst 1, 0, 0, 0, .int (nI 1)), (462, .iadd, 0, 0, 0, .null)]
theorem t_s_law_50 : s_law_50.all (am_ok 15 cL_law) = true := by decide +kernel
theorem d_L_law_463 : decode cL_law 463 = .ok (.iaload, 1) := by decide +kernel
def s_law_51 : List am_Q := [(464, .aload_n 0, 0, 0, 0, .null), (465, .iload_n 3, 0, 0, 0, .null), (466, .iconst 2, 0, 0, 0, .int (nI 2)), (467, .iadd, 0, 0, 0, .null)]
theorem t_s_law_51 : s_law_51.all (am_ok 15 cL_law) = true := by decide +kernel
theorem d_L_law_468 : decode cL_law 468 = .ok (.iaload, 1) := by decide +kernel
theorem d_L_law_469 : decode cL_law 469 = .ok (.invokevirtual 43, 3) := by decide +kernel
def s_law_52 : List am_Q := [(472, .aload_n 2, 0, 0, 0, .null), (473, .aload_n 0, 0, 0, 0, .null), (474, .iload_n 3, 0, 0, 0, .null), (475, .iconst 1, 0, 0, 0, .int (nI 1)), (476, .iadd, 0, 0, 0, .null)]
theorem t_s_law_52 : s_law_52.all (am_ok 15 cL_law) = true := by decide +kernel
theorem d_L_law_477 : decode cL_law 477 = .ok (.iaload, 1) := by decide +kernel
def s_law_53 : List am_Q := [(478, .aload_n 0, 0, 0, 0, .null), (479, .iload_n 3, 0, 0, 0, .null), (480, .iconst 2, 0, 0, 0, .int (nI 2)), (481, .iadd, 0, 0, 0, .null)]
theorem t_s_law_53 : s_law_53.all (am_ok 15 cL_law) = true := by decide +kernel
theorem d_L_law_482 : decode cL_law 482 = .ok (.iaload, 1) := by decide +kernel
theorem d_L_law_483 : decode cL_law 483 = .ok (.invokevirtual 47, 3) := by decide +kernel
def s_law_54 : List am_Q := [(486, .lcmp, 0, 0, 0, .null)]
theorem t_s_law_54 : s_law_54.all (am_ok 15 cL_law) = true := by decide +kernel
theorem d_L_law_487 : decode cL_law 487 = .ok (.ifCond .eq 961, 3) := by decide +kernel
def s_law_55 : List am_Q := [(1448, .iinc 3 4, 0, 0, 0, .int (nI 4)), (1451, .goto (-1433), 18, 0, 0, .null)]
theorem t_s_law_55 : s_law_55.all (am_ok 15 cL_law) = true := by decide +kernel
def s_law_56 : List am_Q := [(490, .iconst 0, 0, 0, 0, .int (nI 0))]
theorem t_s_law_56 : s_law_56.all (am_ok 15 cL_law) = true := by decide +kernel
def s_law_57 : List am_Q := [(492, .aload_n 1, 0, 0, 0, .null), (493, .aload_n 0, 0, 0, 0, .null), (494, .iload_n 3, 0, 0, 0, .null), (495, .iconst 1, 0, 0, 0, .int (nI 1)), (496, .iadd, 0, 0, 0, .null)]
theorem t_s_law_57 : s_law_57.all (am_ok 15 cL_law) = true := by decide +kernel
theorem d_L_law_497 : decode cL_law 497 = .ok (.iaload, 1) := by decide +kernel
def s_law_58 : List am_Q := [(498, .aload_n 0, 0, 0, 0, .null), (499, .iload_n 3, 0, 0, 0, .null), (500, .iconst 2, 0, 0, 0, .int (nI 2)), (501, .iadd, 0, 0, 0, .null)]
theorem t_s_law_58 : s_law_58.all (am_ok 15 cL_law) = true := by decide +kernel
theorem d_L_law_502 : decode cL_law 502 = .ok (.iaload, 1) := by decide +kernel
theorem d_L_law_503 : decode cL_law 503 = .ok (.invokevirtual 48, 3) := by decide +kernel
def s_law_59 : List am_Q := [(506, .aload_n 2, 0, 0, 0, .null), (507, .aload_n 0, 0, 0, 0, .null), (508, .iload_n 3, 0, 0, 0, .null), (509, .iconst 1, 0, 0, 0, .int (nI 1)), (510, .iadd, 0, 0, 0, .null)]
theorem t_s_law_59 : s_law_59.all (am_ok 15 cL_law) = true := by decide +kernel
theorem d_L_law_511 : decode cL_law 511 = .ok (.iaload, 1) := by decide +kernel
def s_law_60 : List am_Q := [(512, .aload_n 0, 0, 0, 0, .null), (513, .iload_n 3, 0, 0, 0, .null), (514, .iconst 2, 0, 0, 0, .int (nI 2)), (515, .iadd, 0, 0, 0, .null)]
theorem t_s_law_60 : s_law_60.all (am_ok 15 cL_law) = true := by decide +kernel
theorem d_L_law_516 : decode cL_law 516 = .ok (.iaload, 1) := by decide +kernel
theorem d_L_law_517 : decode cL_law 517 = .ok (.invokevirtual 52, 3) := by decide +kernel
theorem d_L_law_520 : decode cL_law 520 = .ok (.if_icmp .eq 928, 3) := by decide +kernel
def s_law_61 : List am_Q := [(1448, .iinc 3 4, 0, 0, 0, .int (nI 4)), (1451, .goto (-1433), 18, 0, 0, .null)]
theorem t_s_law_61 : s_law_61.all (am_ok 15 cL_law) = true := by decide +kernel
def s_law_62 : List am_Q := [(523, .iconst 0, 0, 0, 0, .int (nI 0))]
theorem t_s_law_62 : s_law_62.all (am_ok 15 cL_law) = true := by decide +kernel
def s_law_63 : List am_Q := [(525, .aload_n 1, 0, 0, 0, .null), (526, .aload_n 0, 0, 0, 0, .null), (527, .iload_n 3, 0, 0, 0, .null), (528, .iconst 1, 0, 0, 0, .int (nI 1)), (529, .iadd, 0, 0, 0, .null)]
theorem t_s_law_63 : s_law_63.all (am_ok 15 cL_law) = true := by decide +kernel
theorem d_L_law_530 : decode cL_law 530 = .ok (.iaload, 1) := by decide +kernel
def s_law_64 : List am_Q := [(531, .aload_n 0, 0, 0, 0, .null), (532, .iload_n 3, 0, 0, 0, .null), (533, .iconst 2, 0, 0, 0, .int (nI 2)), (534, .iadd, 0, 0, 0, .null)]
theorem t_s_law_64 : s_law_64.all (am_ok 15 cL_law) = true := by decide +kernel
theorem d_L_law_535 : decode cL_law 535 = .ok (.iaload, 1) := by decide +kernel
theorem d_L_law_536 : decode cL_law 536 = .ok (.invokevirtual 53, 3) := by decide +kernel
def s_law_65 : List am_Q := [(539, .aload_n 2, 0, 0, 0, .null), (540, .aload_n 0, 0, 0, 0, .null), (541, .iload_n 3, 0, 0, 0, .null), (542, .iconst 1, 0, 0, 0, .int (nI 1)), (543, .iadd, 0, 0, 0, .null)]
theorem t_s_law_65 : s_law_65.all (am_ok 15 cL_law) = true := by decide +kernel
theorem d_L_law_544 : decode cL_law 544 = .ok (.iaload, 1) := by decide +kernel
def s_law_66 : List am_Q := [(545, .aload_n 0, 0, 0, 0, .null), (546, .iload_n 3, 0, 0, 0, .null), (547, .iconst 2, 0, 0, 0, .int (nI 2)), (548, .iadd, 0, 0, 0, .null)]
theorem t_s_law_66 : s_law_66.all (am_ok 15 cL_law) = true := by decide +kernel
theorem d_L_law_549 : decode cL_law 549 = .ok (.iaload, 1) := by decide +kernel
theorem d_L_law_550 : decode cL_law 550 = .ok (.invokevirtual 56, 3) := by decide +kernel
theorem d_L_law_553 : decode cL_law 553 = .ok (.if_icmp .eq 895, 3) := by decide +kernel
def s_law_67 : List am_Q := [(1448, .iinc 3 4, 0, 0, 0, .int (nI 4)), (1451, .goto (-1433), 18, 0, 0, .null)]
theorem t_s_law_67 : s_law_67.all (am_ok 15 cL_law) = true := by decide +kernel
def s_law_68 : List am_Q := [(556, .iconst 0, 0, 0, 0, .int (nI 0))]
theorem t_s_law_68 : s_law_68.all (am_ok 15 cL_law) = true := by decide +kernel
def s_law_69 : List am_Q := [(558, .aload_n 1, 0, 0, 0, .null), (559, .aload_n 0, 0, 0, 0, .null), (560, .iload_n 3, 0, 0, 0, .null), (561, .iconst 1, 0, 0, 0, .int (nI 1)), (562, .iadd, 0, 0, 0, .null)]
theorem t_s_law_69 : s_law_69.all (am_ok 15 cL_law) = true := by decide +kernel
theorem d_L_law_563 : decode cL_law 563 = .ok (.iaload, 1) := by decide +kernel
def s_law_70 : List am_Q := [(564, .aload_n 0, 0, 0, 0, .null), (565, .iload_n 3, 0, 0, 0, .null), (566, .iconst 2, 0, 0, 0, .int (nI 2)), (567, .iadd, 0, 0, 0, .null)]
theorem t_s_law_70 : s_law_70.all (am_ok 15 cL_law) = true := by decide +kernel
theorem d_L_law_568 : decode cL_law 568 = .ok (.iaload, 1) := by decide +kernel
def s_law_71 : List am_Q := [(569, .aload_n 0, 0, 0, 0, .null), (570, .iload_n 3, 0, 0, 0, .null), (571, .iconst 3, 0, 0, 0, .int (nI 3)), (572, .iadd, 0, 0, 0, .null)]
theorem t_s_law_71 : s_law_71.all (am_ok 15 cL_law) = true := by decide +kernel
theorem d_L_law_573 : decode cL_law 573 = .ok (.iaload, 1) := by decide +kernel
theorem d_L_law_574 : decode cL_law 574 = .ok (.invokevirtual 57, 3) := by decide +kernel
def s_law_72 : List am_Q := [(577, .aload_n 2, 0, 0, 0, .null), (578, .aload_n 0, 0, 0, 0, .null), (579, .iload_n 3, 0, 0, 0, .null), (580, .iconst 1, 0, 0, 0, .int (nI 1)), (581, .iadd, 0, 0, 0, .null)]
theorem t_s_law_72 : s_law_72.all (am_ok 15 cL_law) = true := by decide +kernel
theorem d_L_law_582 : decode cL_law 582 = .ok (.iaload, 1) := by decide +kernel
def s_law_73 : List am_Q := [(583, .aload_n 0, 0, 0, 0, .null), (584, .iload_n 3, 0, 0, 0, .null), (585, .iconst 2, 0, 0, 0, .int (nI 2)), (586, .iadd, 0, 0, 0, .null)]
theorem t_s_law_73 : s_law_73.all (am_ok 15 cL_law) = true := by decide +kernel
theorem d_L_law_587 : decode cL_law 587 = .ok (.iaload, 1) := by decide +kernel
def s_law_74 : List am_Q := [(588, .aload_n 0, 0, 0, 0, .null), (589, .iload_n 3, 0, 0, 0, .null), (590, .iconst 3, 0, 0, 0, .int (nI 3)), (591, .iadd, 0, 0, 0, .null)]
theorem t_s_law_74 : s_law_74.all (am_ok 15 cL_law) = true := by decide +kernel
theorem d_L_law_592 : decode cL_law 592 = .ok (.iaload, 1) := by decide +kernel
theorem d_L_law_593 : decode cL_law 593 = .ok (.invokevirtual 60, 3) := by decide +kernel
theorem d_L_law_596 : decode cL_law 596 = .ok (.if_icmp .eq 852, 3) := by decide +kernel
def s_law_75 : List am_Q := [(1448, .iinc 3 4, 0, 0, 0, .int (nI 4)), (1451, .goto (-1433), 18, 0, 0, .null)]
theorem t_s_law_75 : s_law_75.all (am_ok 15 cL_law) = true := by decide +kernel
def s_law_76 : List am_Q := [(599, .iconst 0, 0, 0, 0, .int (nI 0))]
theorem t_s_law_76 : s_law_76.all (am_ok 15 cL_law) = true := by decide +kernel
def s_law_77 : List am_Q := [(601, .aload_n 1, 0, 0, 0, .null), (602, .aload_n 0, 0, 0, 0, .null), (603, .iload_n 3, 0, 0, 0, .null), (604, .iconst 1, 0, 0, 0, .int (nI 1)), (605, .iadd, 0, 0, 0, .null)]
theorem t_s_law_77 : s_law_77.all (am_ok 15 cL_law) = true := by decide +kernel
theorem d_L_law_606 : decode cL_law 606 = .ok (.iaload, 1) := by decide +kernel
def s_law_78 : List am_Q := [(607, .aload_n 0, 0, 0, 0, .null), (608, .iload_n 3, 0, 0, 0, .null), (609, .iconst 2, 0, 0, 0, .int (nI 2)), (610, .iadd, 0, 0, 0, .null)]
theorem t_s_law_78 : s_law_78.all (am_ok 15 cL_law) = true := by decide +kernel
theorem d_L_law_611 : decode cL_law 611 = .ok (.iaload, 1) := by decide +kernel
theorem d_L_law_612 : decode cL_law 612 = .ok (.invokevirtual 61, 3) := by decide +kernel
def s_law_79 : List am_Q := [(615, .aload_n 2, 0, 0, 0, .null), (616, .aload_n 0, 0, 0, 0, .null), (617, .iload_n 3, 0, 0, 0, .null), (618, .iconst 1, 0, 0, 0, .int (nI 1)), (619, .iadd, 0, 0, 0, .null)]
theorem t_s_law_79 : s_law_79.all (am_ok 15 cL_law) = true := by decide +kernel
theorem d_L_law_620 : decode cL_law 620 = .ok (.iaload, 1) := by decide +kernel
def s_law_80 : List am_Q := [(621, .aload_n 0, 0, 0, 0, .null), (622, .iload_n 3, 0, 0, 0, .null), (623, .iconst 2, 0, 0, 0, .int (nI 2)), (624, .iadd, 0, 0, 0, .null)]
theorem t_s_law_80 : s_law_80.all (am_ok 15 cL_law) = true := by decide +kernel
theorem d_L_law_625 : decode cL_law 625 = .ok (.iaload, 1) := by decide +kernel
theorem d_L_law_626 : decode cL_law 626 = .ok (.invokevirtual 64, 3) := by decide +kernel
theorem d_L_law_629 : decode cL_law 629 = .ok (.if_icmp .eq 819, 3) := by decide +kernel
def s_law_81 : List am_Q := [(1448, .iinc 3 4, 0, 0, 0, .int (nI 4)), (1451, .goto (-1433), 18, 0, 0, .null)]
theorem t_s_law_81 : s_law_81.all (am_ok 15 cL_law) = true := by decide +kernel
def s_law_82 : List am_Q := [(632, .iconst 0, 0, 0, 0, .int (nI 0))]
theorem t_s_law_82 : s_law_82.all (am_ok 15 cL_law) = true := by decide +kernel
def s_law_83 : List am_Q := [(634, .aload_n 1, 0, 0, 0, .null), (635, .aload_n 0, 0, 0, 0, .null), (636, .iload_n 3, 0, 0, 0, .null), (637, .iconst 1, 0, 0, 0, .int (nI 1)), (638, .iadd, 0, 0, 0, .null)]
theorem t_s_law_83 : s_law_83.all (am_ok 15 cL_law) = true := by decide +kernel
theorem d_L_law_639 : decode cL_law 639 = .ok (.iaload, 1) := by decide +kernel
def s_law_84 : List am_Q := [(640, .aload_n 0, 0, 0, 0, .null), (641, .iload_n 3, 0, 0, 0, .null), (642, .iconst 2, 0, 0, 0, .int (nI 2)), (643, .iadd, 0, 0, 0, .null)]
theorem t_s_law_84 : s_law_84.all (am_ok 15 cL_law) = true := by decide +kernel
theorem d_L_law_644 : decode cL_law 644 = .ok (.iaload, 1) := by decide +kernel
theorem d_L_law_645 : decode cL_law 645 = .ok (.invokevirtual 65, 3) := by decide +kernel
def s_law_85 : List am_Q := [(648, .aload_n 2, 0, 0, 0, .null), (649, .aload_n 0, 0, 0, 0, .null), (650, .iload_n 3, 0, 0, 0, .null), (651, .iconst 1, 0, 0, 0, .int (nI 1)), (652, .iadd, 0, 0, 0, .null)]
theorem t_s_law_85 : s_law_85.all (am_ok 15 cL_law) = true := by decide +kernel
theorem d_L_law_653 : decode cL_law 653 = .ok (.iaload, 1) := by decide +kernel
def s_law_86 : List am_Q := [(654, .aload_n 0, 0, 0, 0, .null), (655, .iload_n 3, 0, 0, 0, .null), (656, .iconst 2, 0, 0, 0, .int (nI 2)), (657, .iadd, 0, 0, 0, .null)]
theorem t_s_law_86 : s_law_86.all (am_ok 15 cL_law) = true := by decide +kernel
theorem d_L_law_658 : decode cL_law 658 = .ok (.iaload, 1) := by decide +kernel
theorem d_L_law_659 : decode cL_law 659 = .ok (.invokevirtual 68, 3) := by decide +kernel
theorem d_L_law_662 : decode cL_law 662 = .ok (.if_icmp .eq 786, 3) := by decide +kernel
def s_law_87 : List am_Q := [(1448, .iinc 3 4, 0, 0, 0, .int (nI 4)), (1451, .goto (-1433), 18, 0, 0, .null)]
theorem t_s_law_87 : s_law_87.all (am_ok 15 cL_law) = true := by decide +kernel
def s_law_88 : List am_Q := [(665, .iconst 0, 0, 0, 0, .int (nI 0))]
theorem t_s_law_88 : s_law_88.all (am_ok 15 cL_law) = true := by decide +kernel
def s_law_89 : List am_Q := [(667, .aload_n 1, 0, 0, 0, .null), (668, .aload_n 0, 0, 0, 0, .null), (669, .iload_n 3, 0, 0, 0, .null), (670, .iconst 1, 0, 0, 0, .int (nI 1)), (671, .iadd, 0, 0, 0, .null)]
theorem t_s_law_89 : s_law_89.all (am_ok 15 cL_law) = true := by decide +kernel
theorem d_L_law_672 : decode cL_law 672 = .ok (.iaload, 1) := by decide +kernel
def s_law_90 : List am_Q := [(673, .aload_n 0, 0, 0, 0, .null), (674, .iload_n 3, 0, 0, 0, .null), (675, .iconst 2, 0, 0, 0, .int (nI 2)), (676, .iadd, 0, 0, 0, .null)]
theorem t_s_law_90 : s_law_90.all (am_ok 15 cL_law) = true := by decide +kernel
theorem d_L_law_677 : decode cL_law 677 = .ok (.iaload, 1) := by decide +kernel
def s_law_91 : List am_Q := [(678, .aload_n 0, 0, 0, 0, .null), (679, .iload_n 3, 0, 0, 0, .null), (680, .iconst 3, 0, 0, 0, .int (nI 3)), (681, .iadd, 0, 0, 0, .null)]
theorem t_s_law_91 : s_law_91.all (am_ok 15 cL_law) = true := by decide +kernel
theorem d_L_law_682 : decode cL_law 682 = .ok (.iaload, 1) := by decide +kernel
theorem d_L_law_683 : decode cL_law 683 = .ok (.invokevirtual 69, 3) := by decide +kernel
def s_law_92 : List am_Q := [(686, .aload_n 2, 0, 0, 0, .null), (687, .aload_n 0, 0, 0, 0, .null), (688, .iload_n 3, 0, 0, 0, .null), (689, .iconst 1, 0, 0, 0, .int (nI 1)), (690, .iadd, 0, 0, 0, .null)]
theorem t_s_law_92 : s_law_92.all (am_ok 15 cL_law) = true := by decide +kernel
theorem d_L_law_691 : decode cL_law 691 = .ok (.iaload, 1) := by decide +kernel
def s_law_93 : List am_Q := [(692, .aload_n 0, 0, 0, 0, .null), (693, .iload_n 3, 0, 0, 0, .null), (694, .iconst 2, 0, 0, 0, .int (nI 2)), (695, .iadd, 0, 0, 0, .null)]
theorem t_s_law_93 : s_law_93.all (am_ok 15 cL_law) = true := by decide +kernel
theorem d_L_law_696 : decode cL_law 696 = .ok (.iaload, 1) := by decide +kernel
def s_law_94 : List am_Q := [(697, .aload_n 0, 0, 0, 0, .null), (698, .iload_n 3, 0, 0, 0, .null), (699, .iconst 3, 0, 0, 0, .int (nI 3)), (700, .iadd, 0, 0, 0, .null)]
theorem t_s_law_94 : s_law_94.all (am_ok 15 cL_law) = true := by decide +kernel
theorem d_L_law_701 : decode cL_law 701 = .ok (.iaload, 1) := by decide +kernel
theorem d_L_law_702 : decode cL_law 702 = .ok (.invokevirtual 72, 3) := by decide +kernel
theorem d_L_law_705 : decode cL_law 705 = .ok (.if_icmp .eq 743, 3) := by decide +kernel
def s_law_95 : List am_Q := [(1448, .iinc 3 4, 0, 0, 0, .int (nI 4)), (1451, .goto (-1433), 18, 0, 0, .null)]
theorem t_s_law_95 : s_law_95.all (am_ok 15 cL_law) = true := by decide +kernel
def s_law_96 : List am_Q := [(708, .iconst 0, 0, 0, 0, .int (nI 0))]
theorem t_s_law_96 : s_law_96.all (am_ok 15 cL_law) = true := by decide +kernel
def s_law_97 : List am_Q := [(710, .aload_n 1, 0, 0, 0, .null), (711, .aload_n 0, 0, 0, 0, .null), (712, .iload_n 3, 0, 0, 0, .null), (713, .iconst 1, 0, 0, 0, .int (nI 1)), (714, .iadd, 0, 0, 0, .null)]
theorem t_s_law_97 : s_law_97.all (am_ok 15 cL_law) = true := by decide +kernel
theorem d_L_law_715 : decode cL_law 715 = .ok (.iaload, 1) := by decide +kernel
def s_law_98 : List am_Q := [(716, .aload_n 0, 0, 0, 0, .null), (717, .iload_n 3, 0, 0, 0, .null), (718, .iconst 2, 0, 0, 0, .int (nI 2)), (719, .iadd, 0, 0, 0, .null)]
theorem t_s_law_98 : s_law_98.all (am_ok 15 cL_law) = true := by decide +kernel
theorem d_L_law_720 : decode cL_law 720 = .ok (.iaload, 1) := by decide +kernel
theorem d_L_law_721 : decode cL_law 721 = .ok (.invokevirtual 73, 3) := by decide +kernel
def s_law_99 : List am_Q := [(724, .aload_n 2, 0, 0, 0, .null), (725, .aload_n 0, 0, 0, 0, .null), (726, .iload_n 3, 0, 0, 0, .null), (727, .iconst 1, 0, 0, 0, .int (nI 1)), (728, .iadd, 0, 0, 0, .null)]
theorem t_s_law_99 : s_law_99.all (am_ok 15 cL_law) = true := by decide +kernel
theorem d_L_law_729 : decode cL_law 729 = .ok (.iaload, 1) := by decide +kernel
def s_law_100 : List am_Q := [(730, .aload_n 0, 0, 0, 0, .null), (731, .iload_n 3, 0, 0, 0, .null), (732, .iconst 2, 0, 0, 0, .int (nI 2)), (733, .iadd, 0, 0, 0, .null)]
theorem t_s_law_100 : s_law_100.all (am_ok 15 cL_law) = true := by decide +kernel
theorem d_L_law_734 : decode cL_law 734 = .ok (.iaload, 1) := by decide +kernel
theorem d_L_law_735 : decode cL_law 735 = .ok (.invokevirtual 76, 3) := by decide +kernel
theorem d_L_law_738 : decode cL_law 738 = .ok (.if_icmp .eq 710, 3) := by decide +kernel
def s_law_101 : List am_Q := [(1448, .iinc 3 4, 0, 0, 0, .int (nI 4)), (1451, .goto (-1433), 18, 0, 0, .null)]
theorem t_s_law_101 : s_law_101.all (am_ok 15 cL_law) = true := by decide +kernel
def s_law_102 : List am_Q := [(741, .iconst 0, 0, 0, 0, .int (nI 0))]
theorem t_s_law_102 : s_law_102.all (am_ok 15 cL_law) = true := by decide +kernel
def s_law_103 : List am_Q := [(743, .aload_n 1, 0, 0, 0, .null), (744, .aload_n 0, 0, 0, 0, .null), (745, .iload_n 3, 0, 0, 0, .null), (746, .iconst 1, 0, 0, 0, .int (nI 1)), (747, .iadd, 0, 0, 0, .null)]
theorem t_s_law_103 : s_law_103.all (am_ok 15 cL_law) = true := by decide +kernel
theorem d_L_law_748 : decode cL_law 748 = .ok (.iaload, 1) := by decide +kernel
def s_law_104 : List am_Q := [(749, .aload_n 0, 0, 0, 0, .null), (750, .iload_n 3, 0, 0, 0, .null), (751, .iconst 2, 0, 0, 0, .int (nI 2)), (752, .iadd, 0, 0, 0, .null)]
theorem t_s_law_104 : s_law_104.all (am_ok 15 cL_law) = true := by decide +kernel
theorem d_L_law_753 : decode cL_law 753 = .ok (.iaload, 1) := by decide +kernel
def s_law_105 : List am_Q := [(754, .aload_n 0, 0, 0, 0, .null), (755, .iload_n 3, 0, 0, 0, .null), (756, .iconst 3, 0, 0, 0, .int (nI 3)), (757, .iadd, 0, 0, 0, .null)]
theorem t_s_law_105 : s_law_105.all (am_ok 15 cL_law) = true := by decide +kernel
theorem d_L_law_758 : decode cL_law 758 = .ok (.iaload, 1) := by decide +kernel
theorem d_L_law_759 : decode cL_law 759 = .ok (.invokevirtual 77, 3) := by decide +kernel
def s_law_106 : List am_Q := [(762, .aload_n 2, 0, 0, 0, .null), (763, .aload_n 0, 0, 0, 0, .null), (764, .iload_n 3, 0, 0, 0, .null), (765, .iconst 1, 0, 0, 0, .int (nI 1)), (766, .iadd, 0, 0, 0, .null)]
theorem t_s_law_106 : s_law_106.all (am_ok 15 cL_law) = true := by decide +kernel
theorem d_L_law_767 : decode cL_law 767 = .ok (.iaload, 1) := by decide +kernel
def s_law_107 : List am_Q := [(768, .aload_n 0, 0, 0, 0, .null), (769, .iload_n 3, 0, 0, 0, .null), (770, .iconst 2, 0, 0, 0, .int (nI 2)), (771, .iadd, 0, 0, 0, .null)]
theorem t_s_law_107 : s_law_107.all (am_ok 15 cL_law) = true := by decide +kernel
theorem d_L_law_772 : decode cL_law 772 = .ok (.iaload, 1) := by decide +kernel
def s_law_108 : List am_Q := [(773, .aload_n 0, 0, 0, 0, .null), (774, .iload_n 3, 0, 0, 0, .null), (775, .iconst 3, 0, 0, 0, .int (nI 3)), (776, .iadd, 0, 0, 0, .null)]
theorem t_s_law_108 : s_law_108.all (am_ok 15 cL_law) = true := by decide +kernel
theorem d_L_law_777 : decode cL_law 777 = .ok (.iaload, 1) := by decide +kernel
theorem d_L_law_778 : decode cL_law 778 = .ok (.invokevirtual 80, 3) := by decide +kernel
theorem d_L_law_781 : decode cL_law 781 = .ok (.if_icmp .eq 667, 3) := by decide +kernel
def s_law_109 : List am_Q := [(1448, .iinc 3 4, 0, 0, 0, .int (nI 4)), (1451, .goto (-1433), 18, 0, 0, .null)]
theorem t_s_law_109 : s_law_109.all (am_ok 15 cL_law) = true := by decide +kernel
def s_law_110 : List am_Q := [(784, .iconst 0, 0, 0, 0, .int (nI 0))]
theorem t_s_law_110 : s_law_110.all (am_ok 15 cL_law) = true := by decide +kernel
def s_law_111 : List am_Q := [(786, .aload_n 1, 0, 0, 0, .null), (787, .aload_n 0, 0, 0, 0, .null), (788, .iload_n 3, 0, 0, 0, .null), (789, .iconst 1, 0, 0, 0, .int (nI 1)), (790, .iadd, 0, 0, 0, .null)]
theorem t_s_law_111 : s_law_111.all (am_ok 15 cL_law) = true := by decide +kernel
theorem d_L_law_791 : decode cL_law 791 = .ok (.iaload, 1) := by decide +kernel
def s_law_112 : List am_Q := [(792, .aload_n 0, 0, 0, 0, .null), (793, .iload_n 3, 0, 0, 0, .null), (794, .iconst 2, 0, 0, 0, .int (nI 2)), (795, .iadd, 0, 0, 0, .null)]
theorem t_s_law_112 : s_law_112.all (am_ok 15 cL_law) = true := by decide +kernel
theorem d_L_law_796 : decode cL_law 796 = .ok (.iaload, 1) := by decide +kernel
theorem d_L_law_797 : decode cL_law 797 = .ok (.invokevirtual 81, 3) := by decide +kernel
def s_law_113 : List am_Q := [(800, .aload_n 2, 0, 0, 0, .null), (801, .aload_n 0, 0, 0, 0, .null), (802, .iload_n 3, 0, 0, 0, .null), (803, .iconst 1, 0, 0, 0, .int (nI 1)), (804, .iadd, 0, 0, 0, .null)]
theorem t_s_law_113 : s_law_113.all (am_ok 15 cL_law) = true := by decide +kernel
theorem d_L_law_805 : decode cL_law 805 = .ok (.iaload, 1) := by decide +kernel
def s_law_114 : List am_Q := [(806, .aload_n 0, 0, 0, 0, .null), (807, .iload_n 3, 0, 0, 0, .null), (808, .iconst 2, 0, 0, 0, .int (nI 2)), (809, .iadd, 0, 0, 0, .null)]
theorem t_s_law_114 : s_law_114.all (am_ok 15 cL_law) = true := by decide +kernel
theorem d_L_law_810 : decode cL_law 810 = .ok (.iaload, 1) := by decide +kernel
theorem d_L_law_811 : decode cL_law 811 = .ok (.invokevirtual 84, 3) := by decide +kernel
theorem d_L_law_814 : decode cL_law 814 = .ok (.if_icmp .eq 634, 3) := by decide +kernel
def s_law_115 : List am_Q := [(1448, .iinc 3 4, 0, 0, 0, .int (nI 4)), (1451, .goto (-1433), 18, 0, 0, .null)]
theorem t_s_law_115 : s_law_115.all (am_ok 15 cL_law) = true := by decide +kernel
def s_law_116 : List am_Q := [(817, .iconst 0, 0, 0, 0, .int (nI 0))]
theorem t_s_law_116 : s_law_116.all (am_ok 15 cL_law) = true := by decide +kernel
def s_law_117 : List am_Q := [(819, .aload_n 1, 0, 0, 0, .null), (820, .aload_n 0, 0, 0, 0, .null), (821, .iload_n 3, 0, 0, 0, .null), (822, .iconst 1, 0, 0, 0, .int (nI 1)), (823, .iadd, 0, 0, 0, .null)]
theorem t_s_law_117 : s_law_117.all (am_ok 15 cL_law) = true := by decide +kernel
theorem d_L_law_824 : decode cL_law 824 = .ok (.iaload, 1) := by decide +kernel
def s_law_118 : List am_Q := [(825, .aload_n 0, 0, 0, 0, .null), (826, .iload_n 3, 0, 0, 0, .null), (827, .iconst 2, 0, 0, 0, .int (nI 2)), (828, .iadd, 0, 0, 0, .null)]
theorem t_s_law_118 : s_law_118.all (am_ok 15 cL_law) = true := by decide +kernel
theorem d_L_law_829 : decode cL_law 829 = .ok (.iaload, 1) := by decide +kernel
theorem d_L_law_830 : decode cL_law 830 = .ok (.invokevirtual 85, 3) := by decide +kernel
def s_law_119 : List am_Q := [(833, .aload_n 2, 0, 0, 0, .null), (834, .aload_n 0, 0, 0, 0, .null), (835, .iload_n 3, 0, 0, 0, .null), (836, .iconst 1, 0, 0, 0, .int (nI 1)), (837, .iadd, 0, 0, 0, .null)]
theorem t_s_law_119 : s_law_119.all (am_ok 15 cL_law) = true := by decide +kernel
theorem d_L_law_838 : decode cL_law 838 = .ok (.iaload, 1) := by decide +kernel
def s_law_120 : List am_Q := [(839, .aload_n 0, 0, 0, 0, .null), (840, .iload_n 3, 0, 0, 0, .null), (841, .iconst 2, 0, 0, 0, .int (nI 2)), (842, .iadd, 0, 0, 0, .null)]
theorem t_s_law_120 : s_law_120.all (am_ok 15 cL_law) = true := by decide +kernel
theorem d_L_law_843 : decode cL_law 843 = .ok (.iaload, 1) := by decide +kernel
theorem d_L_law_844 : decode cL_law 844 = .ok (.invokevirtual 88, 3) := by decide +kernel
theorem d_L_law_847 : decode cL_law 847 = .ok (.if_icmp .eq 601, 3) := by decide +kernel
def s_law_121 : List am_Q := [(1448, .iinc 3 4, 0, 0, 0, .int (nI 4)), (1451, .goto (-1433), 18, 0, 0, .null)]
theorem t_s_law_121 : s_law_121.all (am_ok 15 cL_law) = true := by decide +kernel
def s_law_122 : List am_Q := [(850, .iconst 0, 0, 0, 0, .int (nI 0))]
theorem t_s_law_122 : s_law_122.all (am_ok 15 cL_law) = true := by decide +kernel
def s_law_123 : List am_Q := [(852, .aload_n 1, 0, 0, 0, .null), (853, .aload_n 0, 0, 0, 0, .null), (854, .iload_n 3, 0, 0, 0, .null), (855, .iconst 1, 0, 0, 0, .int (nI 1)), (856, .iadd, 0, 0, 0, .null)]
theorem t_s_law_123 : s_law_123.all (am_ok 15 cL_law) = true := by decide +kernel
theorem d_L_law_857 : decode cL_law 857 = .ok (.iaload, 1) := by decide +kernel
def s_law_124 : List am_Q := [(858, .aload_n 0, 0, 0, 0, .null), (859, .iload_n 3, 0, 0, 0, .null), (860, .iconst 2, 0, 0, 0, .int (nI 2)), (861, .iadd, 0, 0, 0, .null)]
theorem t_s_law_124 : s_law_124.all (am_ok 15 cL_law) = true := by decide +kernel
theorem d_L_law_862 : decode cL_law 862 = .ok (.iaload, 1) := by decide +kernel
def s_law_125 : List am_Q := [(863, .aload_n 0, 0, 0, 0, .null), (864, .iload_n 3, 0, 0, 0, .null), (865, .iconst 3, 0, 0, 0, .int (nI 3)), (866, .iadd, 0, 0, 0, .null)]
theorem t_s_law_125 : s_law_125.all (am_ok 15 cL_law) = true := by decide +kernel
theorem d_L_law_867 : decode cL_law 867 = .ok (.iaload, 1) := by decide +kernel
theorem d_L_law_868 : decode cL_law 868 = .ok (.invokevirtual 89, 3) := by decide +kernel
def s_law_126 : List am_Q := [(871, .aload_n 2, 0, 0, 0, .null), (872, .aload_n 0, 0, 0, 0, .null), (873, .iload_n 3, 0, 0, 0, .null), (874, .iconst 1, 0, 0, 0, .int (nI 1)), (875, .iadd, 0, 0, 0, .null)]
theorem t_s_law_126 : s_law_126.all (am_ok 15 cL_law) = true := by decide +kernel
theorem d_L_law_876 : decode cL_law 876 = .ok (.iaload, 1) := by decide +kernel
def s_law_127 : List am_Q := [(877, .aload_n 0, 0, 0, 0, .null), (878, .iload_n 3, 0, 0, 0, .null), (879, .iconst 2, 0, 0, 0, .int (nI 2)), (880, .iadd, 0, 0, 0, .null)]
theorem t_s_law_127 : s_law_127.all (am_ok 15 cL_law) = true := by decide +kernel
theorem d_L_law_881 : decode cL_law 881 = .ok (.iaload, 1) := by decide +kernel
def s_law_128 : List am_Q := [(882, .aload_n 0, 0, 0, 0, .null), (883, .iload_n 3, 0, 0, 0, .null), (884, .iconst 3, 0, 0, 0, .int (nI 3)), (885, .iadd, 0, 0, 0, .null)]
theorem t_s_law_128 : s_law_128.all (am_ok 15 cL_law) = true := by decide +kernel
theorem d_L_law_886 : decode cL_law 886 = .ok (.iaload, 1) := by decide +kernel
theorem d_L_law_887 : decode cL_law 887 = .ok (.invokevirtual 92, 3) := by decide +kernel
theorem d_L_law_890 : decode cL_law 890 = .ok (.if_icmp .eq 558, 3) := by decide +kernel
def s_law_129 : List am_Q := [(1448, .iinc 3 4, 0, 0, 0, .int (nI 4)), (1451, .goto (-1433), 18, 0, 0, .null)]
theorem t_s_law_129 : s_law_129.all (am_ok 15 cL_law) = true := by decide +kernel
def s_law_130 : List am_Q := [(893, .iconst 0, 0, 0, 0, .int (nI 0))]
theorem t_s_law_130 : s_law_130.all (am_ok 15 cL_law) = true := by decide +kernel
def s_law_131 : List am_Q := [(895, .aload_n 1, 0, 0, 0, .null), (896, .aload_n 0, 0, 0, 0, .null), (897, .iload_n 3, 0, 0, 0, .null), (898, .iconst 1, 0, 0, 0, .int (nI 1)), (899, .iadd, 0, 0, 0, .null)]
theorem t_s_law_131 : s_law_131.all (am_ok 15 cL_law) = true := by decide +kernel
theorem d_L_law_900 : decode cL_law 900 = .ok (.iaload, 1) := by decide +kernel
def s_law_132 : List am_Q := [(901, .aload_n 0, 0, 0, 0, .null), (902, .iload_n 3, 0, 0, 0, .null), (903, .iconst 2, 0, 0, 0, .int (nI 2)), (904, .iadd, 0, 0, 0, .null)]
theorem t_s_law_132 : s_law_132.all (am_ok 15 cL_law) = true := by decide +kernel
theorem d_L_law_905 : decode cL_law 905 = .ok (.iaload, 1) := by decide +kernel
theorem d_L_law_906 : decode cL_law 906 = .ok (.invokevirtual 93, 3) := by decide +kernel
def s_law_133 : List am_Q := [(909, .aload_n 2, 0, 0, 0, .null), (910, .aload_n 0, 0, 0, 0, .null), (911, .iload_n 3, 0, 0, 0, .null), (912, .iconst 1, 0, 0, 0, .int (nI 1)), (913, .iadd, 0, 0, 0, .null)]
theorem t_s_law_133 : s_law_133.all (am_ok 15 cL_law) = true := by decide +kernel
theorem d_L_law_914 : decode cL_law 914 = .ok (.iaload, 1) := by decide +kernel
def s_law_134 : List am_Q := [(915, .aload_n 0, 0, 0, 0, .null), (916, .iload_n 3, 0, 0, 0, .null), (917, .iconst 2, 0, 0, 0, .int (nI 2)), (918, .iadd, 0, 0, 0, .null)]
theorem t_s_law_134 : s_law_134.all (am_ok 15 cL_law) = true := by decide +kernel
theorem d_L_law_919 : decode cL_law 919 = .ok (.iaload, 1) := by decide +kernel
theorem d_L_law_920 : decode cL_law 920 = .ok (.invokevirtual 96, 3) := by decide +kernel
theorem d_L_law_923 : decode cL_law 923 = .ok (.if_icmp .eq 525, 3) := by decide +kernel
def s_law_135 : List am_Q := [(1448, .iinc 3 4, 0, 0, 0, .int (nI 4)), (1451, .goto (-1433), 18, 0, 0, .null)]
theorem t_s_law_135 : s_law_135.all (am_ok 15 cL_law) = true := by decide +kernel
def s_law_136 : List am_Q := [(926, .iconst 0, 0, 0, 0, .int (nI 0))]
theorem t_s_law_136 : s_law_136.all (am_ok 15 cL_law) = true := by decide +kernel
def s_law_137 : List am_Q := [(928, .aload_n 1, 0, 0, 0, .null), (929, .aload_n 0, 0, 0, 0, .null), (930, .iload_n 3, 0, 0, 0, .null), (931, .iconst 1, 0, 0, 0, .int (nI 1)), (932, .iadd, 0, 0, 0, .null)]
theorem t_s_law_137 : s_law_137.all (am_ok 15 cL_law) = true := by decide +kernel
theorem d_L_law_933 : decode cL_law 933 = .ok (.iaload, 1) := by decide +kernel
def s_law_138 : List am_Q := [(934, .aload_n 0, 0, 0, 0, .null), (935, .iload_n 3, 0, 0, 0, .null), (936, .iconst 2, 0, 0, 0, .int (nI 2)), (937, .iadd, 0, 0, 0, .null)]
theorem t_s_law_138 : s_law_138.all (am_ok 15 cL_law) = true := by decide +kernel
theorem d_L_law_938 : decode cL_law 938 = .ok (.iaload, 1) := by decide +kernel
theorem d_L_law_939 : decode cL_law 939 = .ok (.invokevirtual 97, 3) := by decide +kernel
def s_law_139 : List am_Q := [(942, .aload_n 2, 0, 0, 0, .null), (943, .aload_n 0, 0, 0, 0, .null), (944, .iload_n 3, 0, 0, 0, .null), (945, .iconst 1, 0, 0, 0, .int (nI 1)), (946, .iadd, 0, 0, 0, .null)]
theorem t_s_law_139 : s_law_139.all (am_ok 15 cL_law) = true := by decide +kernel
theorem d_L_law_947 : decode cL_law 947 = .ok (.iaload, 1) := by decide +kernel
def s_law_140 : List am_Q := [(948, .aload_n 0, 0, 0, 0, .null), (949, .iload_n 3, 0, 0, 0, .null), (950, .iconst 2, 0, 0, 0, .int (nI 2)), (951, .iadd, 0, 0, 0, .null)]
theorem t_s_law_140 : s_law_140.all (am_ok 15 cL_law) = true := by decide +kernel
theorem d_L_law_952 : decode cL_law 952 = .ok (.iaload, 1) := by decide +kernel
theorem d_L_law_953 : decode cL_law 953 = .ok (.invokevirtual 100, 3) := by decide +kernel
theorem d_L_law_956 : decode cL_law 956 = .ok (.if_icmp .eq 492, 3) := by decide +kernel
def s_law_141 : List am_Q := [(1448, .iinc 3 4, 0, 0, 0, .int (nI 4)), (1451, .goto (-1433), 18, 0, 0, .null)]
theorem t_s_law_141 : s_law_141.all (am_ok 15 cL_law) = true := by decide +kernel
def s_law_142 : List am_Q := [(959, .iconst 0, 0, 0, 0, .int (nI 0))]
theorem t_s_law_142 : s_law_142.all (am_ok 15 cL_law) = true := by decide +kernel
def s_law_143 : List am_Q := [(961, .aload_n 1, 0, 0, 0, .null), (962, .aload_n 0, 0, 0, 0, .null), (963, .iload_n 3, 0, 0, 0, .null), (964, .iconst 1, 0, 0, 0, .int (nI 1)), (965, .iadd, 0, 0, 0, .null)]
theorem t_s_law_143 : s_law_143.all (am_ok 15 cL_law) = true := by decide +kernel
theorem d_L_law_966 : decode cL_law 966 = .ok (.iaload, 1) := by decide +kernel
theorem d_L_law_967 : decode cL_law 967 = .ok (.invokevirtual 101, 3) := by decide +kernel
def s_law_144 : List am_Q := [(970, .aload_n 2, 0, 0, 0, .null), (971, .aload_n 0, 0, 0, 0, .null), (972, .iload_n 3, 0, 0, 0, .null), (973, .iconst 1, 0, 0, 0, .int (nI 1)), (974, .iadd, 0, 0, 0, .null)]
theorem t_s_law_144 : s_law_144.all (am_ok 15 cL_law) = true := by decide +kernel
theorem d_L_law_975 : decode cL_law 975 = .ok (.iaload, 1) := by decide +kernel
theorem d_L_law_976 : decode cL_law 976 = .ok (.invokevirtual 104, 3) := by decide +kernel
theorem d_L_law_979 : decode cL_law 979 = .ok (.if_icmp .eq 469, 3) := by decide +kernel
def s_law_145 : List am_Q := [(1448, .iinc 3 4, 0, 0, 0, .int (nI 4)), (1451, .goto (-1433), 18, 0, 0, .null)]
theorem t_s_law_145 : s_law_145.all (am_ok 15 cL_law) = true := by decide +kernel
def s_law_146 : List am_Q := [(982, .iconst 0, 0, 0, 0, .int (nI 0))]
theorem t_s_law_146 : s_law_146.all (am_ok 15 cL_law) = true := by decide +kernel
def s_law_147 : List am_Q := [(984, .aload_n 1, 0, 0, 0, .null), (985, .aload_n 0, 0, 0, 0, .null), (986, .iload_n 3, 0, 0, 0, .null), (987, .iconst 1, 0, 0, 0, .int (nI 1)), (988, .iadd, 0, 0, 0, .null)]
theorem t_s_law_147 : s_law_147.all (am_ok 15 cL_law) = true := by decide +kernel
theorem d_L_law_989 : decode cL_law 989 = .ok (.iaload, 1) := by decide +kernel
def s_law_148 : List am_Q := [(990, .aload_n 0, 0, 0, 0, .null), (991, .iload_n 3, 0, 0, 0, .null), (992, .iconst 2, 0, 0, 0, .int (nI 2)), (993, .iadd, 0, 0, 0, .null)]
theorem t_s_law_148 : s_law_148.all (am_ok 15 cL_law) = true := by decide +kernel
theorem d_L_law_994 : decode cL_law 994 = .ok (.iaload, 1) := by decide +kernel
theorem d_L_law_995 : decode cL_law 995 = .ok (.invokevirtual 105, 3) := by decide +kernel
def s_law_149 : List am_Q := [(998, .aload_n 2, 0, 0, 0, .null), (999, .aload_n 0, 0, 0, 0, .null), (1000, .iload_n 3, 0, 0, 0, .null), (1001, .iconst 1, 0, 0, 0, .int (nI 1)), (1002, .iadd, 0, 0, 0, .null)]
theorem t_s_law_149 : s_law_149.all (am_ok 15 cL_law) = true := by decide +kernel
theorem d_L_law_1003 : decode cL_law 1003 = .ok (.iaload, 1) := by decide +kernel
def s_law_150 : List am_Q := [(1004, .aload_n 0, 0, 0, 0, .null), (1005, .iload_n 3, 0, 0, 0, .null), (1006, .iconst 2, 0, 0, 0, .int (nI 2)), (1007, .iadd, 0, 0, 0, .null)]
theorem t_s_law_150 : s_law_150.all (am_ok 15 cL_law) = true := by decide +kernel
theorem d_L_law_1008 : decode cL_law 1008 = .ok (.iaload, 1) := by decide +kernel
theorem d_L_law_1009 : decode cL_law 1009 = .ok (.invokevirtual 108, 3) := by decide +kernel
theorem d_L_law_1012 : decode cL_law 1012 = .ok (.if_icmp .eq 436, 3) := by decide +kernel
def s_law_151 : List am_Q := [(1448, .iinc 3 4, 0, 0, 0, .int (nI 4)), (1451, .goto (-1433), 18, 0, 0, .null)]
theorem t_s_law_151 : s_law_151.all (am_ok 15 cL_law) = true := by decide +kernel
def s_law_152 : List am_Q := [(1015, .iconst 0, 0, 0, 0, .int (nI 0))]
theorem t_s_law_152 : s_law_152.all (am_ok 15 cL_law) = true := by decide +kernel
def s_law_153 : List am_Q := [(1017, .aload_n 1, 0, 0, 0, .null), (1018, .aload_n 0, 0, 0, 0, .null), (1019, .iload_n 3, 0, 0, 0, .null), (1020, .iconst 1, 0, 0, 0, .int (nI 1)), (1021, .iadd, 0, 0, 0, .null)]
theorem t_s_law_153 : s_law_153.all (am_ok 15 cL_law) = true := by decide +kernel
theorem d_L_law_1022 : decode cL_law 1022 = .ok (.iaload, 1) := by decide +kernel
theorem d_L_law_1023 : decode cL_law 1023 = .ok (.invokevirtual 109, 3) := by decide +kernel
def s_law_154 : List am_Q := [(1026, .aload_n 2, 0, 0, 0, .null), (1027, .aload_n 0, 0, 0, 0, .null), (1028, .iload_n 3, 0, 0, 0, .null), (1029, .iconst 1, 0, 0, 0, .int (nI 1)), (1030, .iadd, 0, 0, 0, .null)]
theorem t_s_law_154 : s_law_154.all (am_ok 15 cL_law) = true := by decide +kernel
theorem d_L_law_1031 : decode cL_law 1031 = .ok (.iaload, 1) := by decide +kernel
theorem d_L_law_1032 : decode cL_law 1032 = .ok (.invokevirtual 112, 3) := by decide +kernel
theorem d_L_law_1035 : decode cL_law 1035 = .ok (.if_icmp .eq 413, 3) := by decide +kernel
def s_law_155 : List am_Q := [(1448, .iinc 3 4, 0, 0, 0, .int (nI 4)), (1451, .goto (-1433), 18, 0, 0, .null)]
theorem t_s_law_155 : s_law_155.all (am_ok 15 cL_law) = true := by decide +kernel
def s_law_156 : List am_Q := [(1038, .iconst 0, 0, 0, 0, .int (nI 0))]
theorem t_s_law_156 : s_law_156.all (am_ok 15 cL_law) = true := by decide +kernel
def s_law_157 : List am_Q := [(1040, .aload_n 1, 0, 0, 0, .null), (1041, .aload_n 0, 0, 0, 0, .null), (1042, .iload_n 3, 0, 0, 0, .null), (1043, .iconst 1, 0, 0, 0, .int (nI 1)), (1044, .iadd, 0, 0, 0, .null)]
theorem t_s_law_157 : s_law_157.all (am_ok 15 cL_law) = true := by decide +kernel
theorem d_L_law_1045 : decode cL_law 1045 = .ok (.iaload, 1) := by decide +kernel
theorem d_L_law_1046 : decode cL_law 1046 = .ok (.invokevirtual 113, 3) := by decide +kernel
def s_law_158 : List am_Q := [(1049, .aload_n 2, 0, 0, 0, .null), (1050, .aload_n 0, 0, 0, 0, .null), (1051, .iload_n 3, 0, 0, 0, .null), (1052, .iconst 1, 0, 0, 0, .int (nI 1)), (1053, .iadd, 0, 0, 0, .null)]
theorem t_s_law_158 : s_law_158.all (am_ok 15 cL_law) = true := by decide +kernel
theorem d_L_law_1054 : decode cL_law 1054 = .ok (.iaload, 1) := by decide +kernel
theorem d_L_law_1055 : decode cL_law 1055 = .ok (.invokevirtual 116, 3) := by decide +kernel
theorem d_L_law_1058 : decode cL_law 1058 = .ok (.if_icmp .eq 390, 3) := by decide +kernel
def s_law_159 : List am_Q := [(1448, .iinc 3 4, 0, 0, 0, .int (nI 4)), (1451, .goto (-1433), 18, 0, 0, .null)]
theorem t_s_law_159 : s_law_159.all (am_ok 15 cL_law) = true := by decide +kernel
def s_law_160 : List am_Q := [(1061, .iconst 0, 0, 0, 0, .int (nI 0))]
theorem t_s_law_160 : s_law_160.all (am_ok 15 cL_law) = true := by decide +kernel
def s_law_161 : List am_Q := [(1063, .aload_n 1, 0, 0, 0, .null), (1064, .aload_n 0, 0, 0, 0, .null), (1065, .iload_n 3, 0, 0, 0, .null), (1066, .iconst 1, 0, 0, 0, .int (nI 1)), (1067, .iadd, 0, 0, 0, .null)]
theorem t_s_law_161 : s_law_161.all (am_ok 15 cL_law) = true := by decide +kernel
theorem d_L_law_1068 : decode cL_law 1068 = .ok (.iaload, 1) := by decide +kernel
def s_law_162 : List am_Q := [(1069, .aload_n 0, 0, 0, 0, .null), (1070, .iload_n 3, 0, 0, 0, .null), (1071, .iconst 2, 0, 0, 0, .int (nI 2)), (1072, .iadd, 0, 0, 0, .null)]
theorem t_s_law_162 : s_law_162.all (am_ok 15 cL_law) = true := by decide +kernel
theorem d_L_law_1073 : decode cL_law 1073 = .ok (.iaload, 1) := by decide +kernel
theorem d_L_law_1074 : decode cL_law 1074 = .ok (.invokevirtual 117, 3) := by decide +kernel
def s_law_163 : List am_Q := [(1077, .aload_n 2, 0, 0, 0, .null), (1078, .aload_n 0, 0, 0, 0, .null), (1079, .iload_n 3, 0, 0, 0, .null), (1080, .iconst 1, 0, 0, 0, .int (nI 1)), (1081, .iadd, 0, 0, 0, .null)]
theorem t_s_law_163 : s_law_163.all (am_ok 15 cL_law) = true := by decide +kernel
theorem d_L_law_1082 : decode cL_law 1082 = .ok (.iaload, 1) := by decide +kernel
def s_law_164 : List am_Q := [(1083, .aload_n 0, 0, 0, 0, .null), (1084, .iload_n 3, 0, 0, 0, .null), (1085, .iconst 2, 0, 0, 0, .int (nI 2)), (1086, .iadd, 0, 0, 0, .null)]
theorem t_s_law_164 : s_law_164.all (am_ok 15 cL_law) = true := by decide +kernel
theorem d_L_law_1087 : decode cL_law 1087 = .ok (.iaload, 1) := by decide +kernel
theorem d_L_law_1088 : decode cL_law 1088 = .ok (.invokevirtual 120, 3) := by decide +kernel
theorem d_L_law_1091 : decode cL_law 1091 = .ok (.if_icmp .eq 357, 3) := by decide +kernel
def s_law_165 : List am_Q := [(1448, .iinc 3 4, 0, 0, 0, .int (nI 4)), (1451, .goto (-1433), 18, 0, 0, .null)]
theorem t_s_law_165 : s_law_165.all (am_ok 15 cL_law) = true := by decide +kernel
def s_law_166 : List am_Q := [(1094, .iconst 0, 0, 0, 0, .int (nI 0))]
theorem t_s_law_166 : s_law_166.all (am_ok 15 cL_law) = true := by decide +kernel
def s_law_167 : List am_Q := [(1096, .aload_n 1, 0, 0, 0, .null), (1097, .aload_n 0, 0, 0, 0, .null), (1098, .iload_n 3, 0, 0, 0, .null), (1099, .iconst 1, 0, 0, 0, .int (nI 1)), (1100, .iadd, 0, 0, 0, .null)]
theorem t_s_law_167 : s_law_167.all (am_ok 15 cL_law) = true := by decide +kernel
theorem d_L_law_1101 : decode cL_law 1101 = .ok (.iaload, 1) := by decide +kernel
theorem d_L_law_1102 : decode cL_law 1102 = .ok (.invokevirtual 121, 3) := by decide +kernel
def s_law_168 : List am_Q := [(1105, .aload_n 2, 0, 0, 0, .null), (1106, .aload_n 0, 0, 0, 0, .null), (1107, .iload_n 3, 0, 0, 0, .null), (1108, .iconst 1, 0, 0, 0, .int (nI 1)), (1109, .iadd, 0, 0, 0, .null)]
theorem t_s_law_168 : s_law_168.all (am_ok 15 cL_law) = true := by decide +kernel
theorem d_L_law_1110 : decode cL_law 1110 = .ok (.iaload, 1) := by decide +kernel
theorem d_L_law_1111 : decode cL_law 1111 = .ok (.invokevirtual 124, 3) := by decide +kernel
theorem d_L_law_1114 : decode cL_law 1114 = .ok (.if_icmp .eq 334, 3) := by decide +kernel
def s_law_169 : List am_Q := [(1448, .iinc 3 4, 0, 0, 0, .int (nI 4)), (1451, .goto (-1433), 18, 0, 0, .null)]
theorem t_s_law_169 : s_law_169.all (am_ok 15 cL_law) = true := by decide +kernel
def s_law_170 : List am_Q := [(1117, .iconst 0, 0, 0, 0, .int (nI 0))]
theorem t_s_law_170 : s_law_170.all (am_ok 15 cL_law) = true := by decide +kernel
def s_law_171 : List am_Q := [(1119, .aload_n 1, 0, 0, 0, .null), (1120, .aload_n 0, 0, 0, 0, .null), (1121, .iload_n 3, 0, 0, 0, .null), (1122, .iconst 1, 0, 0, 0, .int (nI 1)), (1123, .iadd, 0, 0, 0, .null)]
theorem t_s_law_171 : s_law_171.all (am_ok 15 cL_law) = true := by decide +kernel
theorem d_L_law_1124 : decode cL_law 1124 = .ok (.iaload, 1) := by decide +kernel
theorem d_L_law_1125 : decode cL_law 1125 = .ok (.invokevirtual 125, 3) := by decide +kernel
def s_law_172 : List am_Q := [(1128, .aload_n 2, 0, 0, 0, .null), (1129, .aload_n 0, 0, 0, 0, .null), (1130, .iload_n 3, 0, 0, 0, .null), (1131, .iconst 1, 0, 0, 0, .int (nI 1)), (1132, .iadd, 0, 0, 0, .null)]
theorem t_s_law_172 : s_law_172.all (am_ok 15 cL_law) = true := by decide +kernel
theorem d_L_law_1133 : decode cL_law 1133 = .ok (.iaload, 1) := by decide +kernel
theorem d_L_law_1134 : decode cL_law 1134 = .ok (.invokevirtual 128, 3) := by decide +kernel
theorem d_L_law_1137 : decode cL_law 1137 = .ok (.if_icmp .eq 311, 3) := by decide +kernel
def s_law_173 : List am_Q := [(1448, .iinc 3 4, 0, 0, 0, .int (nI 4)), (1451, .goto (-1433), 18, 0, 0, .null)]
theorem t_s_law_173 : s_law_173.all (am_ok 15 cL_law) = true := by decide +kernel
def s_law_174 : List am_Q := [(1140, .iconst 0, 0, 0, 0, .int (nI 0))]
theorem t_s_law_174 : s_law_174.all (am_ok 15 cL_law) = true := by decide +kernel
def s_law_175 : List am_Q := [(1142, .aload_n 1, 0, 0, 0, .null), (1143, .aload_n 0, 0, 0, 0, .null), (1144, .iload_n 3, 0, 0, 0, .null), (1145, .iconst 1, 0, 0, 0, .int (nI 1)), (1146, .iadd, 0, 0, 0, .null)]
theorem t_s_law_175 : s_law_175.all (am_ok 15 cL_law) = true := by decide +kernel
theorem d_L_law_1147 : decode cL_law 1147 = .ok (.iaload, 1) := by decide +kernel
def s_law_176 : List am_Q := [(1148, .aload_n 0, 0, 0, 0, .null), (1149, .iload_n 3, 0, 0, 0, .null), (1150, .iconst 2, 0, 0, 0, .int (nI 2)), (1151, .iadd, 0, 0, 0, .null)]
theorem t_s_law_176 : s_law_176.all (am_ok 15 cL_law) = true := by decide +kernel
theorem d_L_law_1152 : decode cL_law 1152 = .ok (.iaload, 1) := by decide +kernel
def s_law_177 : List am_Q := [(1153, .aload_n 0, 0, 0, 0, .null), (1154, .iload_n 3, 0, 0, 0, .null), (1155, .iconst 3, 0, 0, 0, .int (nI 3)), (1156, .iadd, 0, 0, 0, .null)]
theorem t_s_law_177 : s_law_177.all (am_ok 15 cL_law) = true := by decide +kernel
theorem d_L_law_1157 : decode cL_law 1157 = .ok (.iaload, 1) := by decide +kernel
theorem d_L_law_1158 : decode cL_law 1158 = .ok (.invokevirtual 129, 3) := by decide +kernel
def s_law_178 : List am_Q := [(1161, .aload_n 2, 0, 0, 0, .null), (1162, .aload_n 0, 0, 0, 0, .null), (1163, .iload_n 3, 0, 0, 0, .null), (1164, .iconst 1, 0, 0, 0, .int (nI 1)), (1165, .iadd, 0, 0, 0, .null)]
theorem t_s_law_178 : s_law_178.all (am_ok 15 cL_law) = true := by decide +kernel
theorem d_L_law_1166 : decode cL_law 1166 = .ok (.iaload, 1) := by decide +kernel
def s_law_179 : List am_Q := [(1167, .aload_n 0, 0, 0, 0, .null), (1168, .iload_n 3, 0, 0, 0, .null), (1169, .iconst 2, 0, 0, 0, .int (nI 2)), (1170, .iadd, 0, 0, 0, .null)]
theorem t_s_law_179 : s_law_179.all (am_ok 15 cL_law) = true := by decide +kernel
theorem d_L_law_1171 : decode cL_law 1171 = .ok (.iaload, 1) := by decide +kernel
def s_law_180 : List am_Q := [(1172, .aload_n 0, 0, 0, 0, .null), (1173, .iload_n 3, 0, 0, 0, .null), (1174, .iconst 3, 0, 0, 0, .int (nI 3)), (1175, .iadd, 0, 0, 0, .null)]
theorem t_s_law_180 : s_law_180.all (am_ok 15 cL_law) = true := by decide +kernel
theorem d_L_law_1176 : decode cL_law 1176 = .ok (.iaload, 1) := by decide +kernel
theorem d_L_law_1177 : decode cL_law 1177 = .ok (.invokevirtual 132, 3) := by decide +kernel
theorem d_L_law_1180 : decode cL_law 1180 = .ok (.if_icmp .eq 268, 3) := by decide +kernel
def s_law_181 : List am_Q := [(1448, .iinc 3 4, 0, 0, 0, .int (nI 4)), (1451, .goto (-1433), 18, 0, 0, .null)]
theorem t_s_law_181 : s_law_181.all (am_ok 15 cL_law) = true := by decide +kernel
def s_law_182 : List am_Q := [(1183, .iconst 0, 0, 0, 0, .int (nI 0))]
theorem t_s_law_182 : s_law_182.all (am_ok 15 cL_law) = true := by decide +kernel
def s_law_183 : List am_Q := [(1185, .aload_n 1, 0, 0, 0, .null), (1186, .aload_n 0, 0, 0, 0, .null), (1187, .iload_n 3, 0, 0, 0, .null), (1188, .iconst 1, 0, 0, 0, .int (nI 1)), (1189, .iadd, 0, 0, 0, .null)]
theorem t_s_law_183 : s_law_183.all (am_ok 15 cL_law) = true := by decide +kernel
theorem d_L_law_1190 : decode cL_law 1190 = .ok (.iaload, 1) := by decide +kernel
def s_law_184 : List am_Q := [(1191, .aload_n 0, 0, 0, 0, .null), (1192, .iload_n 3, 0, 0, 0, .null), (1193, .iconst 2, 0, 0, 0, .int (nI 2)), (1194, .iadd, 0, 0, 0, .null)]
theorem t_s_law_184 : s_law_184.all (am_ok 15 cL_law) = true := by decide +kernel
theorem d_L_law_1195 : decode cL_law 1195 = .ok (.iaload, 1) := by decide +kernel
theorem d_L_law_1196 : decode cL_law 1196 = .ok (.invokevirtual 133, 3) := by decide +kernel
def s_law_185 : List am_Q := [(1199, .aload_n 2, 0, 0, 0, .null), (1200, .aload_n 0, 0, 0, 0, .null), (1201, .iload_n 3, 0, 0, 0, .null), (1202, .iconst 1, 0, 0, 0, .int (nI 1)), (1203, .iadd, 0, 0, 0, .null)]
theorem t_s_law_185 : s_law_185.all (am_ok 15 cL_law) = true := by decide +kernel
theorem d_L_law_1204 : decode cL_law 1204 = .ok (.iaload, 1) := by decide +kernel
def s_law_186 : List am_Q := [(1205, .aload_n 0, 0, 0, 0, .null), (1206, .iload_n 3, 0, 0, 0, .null), (1207, .iconst 2, 0, 0, 0, .int (nI 2)), (1208, .iadd, 0, 0, 0, .null)]
theorem t_s_law_186 : s_law_186.all (am_ok 15 cL_law) = true := by decide +kernel
theorem d_L_law_1209 : decode cL_law 1209 = .ok (.iaload, 1) := by decide +kernel
theorem d_L_law_1210 : decode cL_law 1210 = .ok (.invokevirtual 136, 3) := by decide +kernel
theorem d_L_law_1213 : decode cL_law 1213 = .ok (.if_icmp .eq 235, 3) := by decide +kernel
def s_law_187 : List am_Q := [(1448, .iinc 3 4, 0, 0, 0, .int (nI 4)), (1451, .goto (-1433), 18, 0, 0, .null)]
theorem t_s_law_187 : s_law_187.all (am_ok 15 cL_law) = true := by decide +kernel
def s_law_188 : List am_Q := [(1216, .iconst 0, 0, 0, 0, .int (nI 0))]
theorem t_s_law_188 : s_law_188.all (am_ok 15 cL_law) = true := by decide +kernel
def s_law_189 : List am_Q := [(1218, .aload_n 1, 0, 0, 0, .null), (1219, .aload_n 0, 0, 0, 0, .null), (1220, .iload_n 3, 0, 0, 0, .null), (1221, .iconst 1, 0, 0, 0, .int (nI 1)), (1222, .iadd, 0, 0, 0, .null)]
theorem t_s_law_189 : s_law_189.all (am_ok 15 cL_law) = true := by decide +kernel
theorem d_L_law_1223 : decode cL_law 1223 = .ok (.iaload, 1) := by decide +kernel
def s_law_190 : List am_Q := [(1224, .aload_n 0, 0, 0, 0, .null), (1225, .iload_n 3, 0, 0, 0, .null), (1226, .iconst 2, 0, 0, 0, .int (nI 2)), (1227, .iadd, 0, 0, 0, .null)]
theorem t_s_law_190 : s_law_190.all (am_ok 15 cL_law) = true := by decide +kernel
theorem d_L_law_1228 : decode cL_law 1228 = .ok (.iaload, 1) := by decide +kernel
def s_law_191 : List am_Q := [(1229, .aload_n 0, 0, 0, 0, .null), (1230, .iload_n 3, 0, 0, 0, .null), (1231, .iconst 3, 0, 0, 0, .int (nI 3)), (1232, .iadd, 0, 0, 0, .null)]
theorem t_s_law_191 : s_law_191.all (am_ok 15 cL_law) = true := by decide +kernel
theorem d_L_law_1233 : decode cL_law 1233 = .ok (.iaload, 1) := by decide +kernel
theorem d_L_law_1234 : decode cL_law 1234 = .ok (.invokevirtual 137, 3) := by decide +kernel
def s_law_192 : List am_Q := [(1237, .aload_n 2, 0, 0, 0, .null), (1238, .aload_n 0, 0, 0, 0, .null), (1239, .iload_n 3, 0, 0, 0, .null), (1240, .iconst 1, 0, 0, 0, .int (nI 1)), (1241, .iadd, 0, 0, 0, .null)]
theorem t_s_law_192 : s_law_192.all (am_ok 15 cL_law) = true := by decide +kernel
theorem d_L_law_1242 : decode cL_law 1242 = .ok (.iaload, 1) := by decide +kernel
def s_law_193 : List am_Q := [(1243, .aload_n 0, 0, 0, 0, .null), (1244, .iload_n 3, 0, 0, 0, .null), (1245, .iconst 2, 0, 0, 0, .int (nI 2)), (1246, .iadd, 0, 0, 0, .null)]
theorem t_s_law_193 : s_law_193.all (am_ok 15 cL_law) = true := by decide +kernel
theorem d_L_law_1247 : decode cL_law 1247 = .ok (.iaload, 1) := by decide +kernel
def s_law_194 : List am_Q := [(1248, .aload_n 0, 0, 0, 0, .null), (1249, .iload_n 3, 0, 0, 0, .null), (1250, .iconst 3, 0, 0, 0, .int (nI 3)), (1251, .iadd, 0, 0, 0, .null)]
theorem t_s_law_194 : s_law_194.all (am_ok 15 cL_law) = true := by decide +kernel
theorem d_L_law_1252 : decode cL_law 1252 = .ok (.iaload, 1) := by decide +kernel
theorem d_L_law_1253 : decode cL_law 1253 = .ok (.invokevirtual 140, 3) := by decide +kernel
theorem d_L_law_1256 : decode cL_law 1256 = .ok (.if_icmp .eq 192, 3) := by decide +kernel
def s_law_195 : List am_Q := [(1448, .iinc 3 4, 0, 0, 0, .int (nI 4)), (1451, .goto (-1433), 18, 0, 0, .null)]
theorem t_s_law_195 : s_law_195.all (am_ok 15 cL_law) = true := by decide +kernel
def s_law_196 : List am_Q := [(1259, .iconst 0, 0, 0, 0, .int (nI 0))]
theorem t_s_law_196 : s_law_196.all (am_ok 15 cL_law) = true := by decide +kernel
def s_law_197 : List am_Q := [(1261, .aload_n 1, 0, 0, 0, .null), (1262, .aload_n 0, 0, 0, 0, .null), (1263, .iload_n 3, 0, 0, 0, .null), (1264, .iconst 1, 0, 0, 0, .int (nI 1)), (1265, .iadd, 0, 0, 0, .null)]
theorem t_s_law_197 : s_law_197.all (am_ok 15 cL_law) = true := by decide +kernel
theorem d_L_law_1266 : decode cL_law 1266 = .ok (.iaload, 1) := by decide +kernel
theorem d_L_law_1267 : decode cL_law 1267 = .ok (.invokevirtual 141, 3) := by decide +kernel
def s_law_198 : List am_Q := [(1270, .aload_n 2, 0, 0, 0, .null), (1271, .aload_n 0, 0, 0, 0, .null), (1272, .iload_n 3, 0, 0, 0, .null), (1273, .iconst 1, 0, 0, 0, .int (nI 1)), (1274, .iadd, 0, 0, 0, .null)]
theorem t_s_law_198 : s_law_198.all (am_ok 15 cL_law) = true := by decide +kernel
theorem d_L_law_1275 : decode cL_law 1275 = .ok (.iaload, 1) := by decide +kernel
theorem d_L_law_1276 : decode cL_law 1276 = .ok (.invokevirtual 144, 3) := by decide +kernel
theorem d_L_law_1279 : decode cL_law 1279 = .ok (.if_icmp .eq 169, 3) := by decide +kernel
def s_law_199 : List am_Q := [(1448, .iinc 3 4, 0, 0, 0, .int (nI 4)), (1451, .goto (-1433), 18, 0, 0, .null)]
theorem t_s_law_199 : s_law_199.all (am_ok 15 cL_law) = true := by decide +kernel
def s_law_200 : List am_Q := [(1282, .iconst 0, 0, 0, 0, .int (nI 0))]
theorem t_s_law_200 : s_law_200.all (am_ok 15 cL_law) = true := by decide +kernel
def s_law_201 : List am_Q := [(1284, .aload_n 1, 0, 0, 0, .null), (1285, .aload_n 0, 0, 0, 0, .null), (1286, .iload_n 3, 0, 0, 0, .null), (1287, .iconst 1, 0, 0, 0, .int (nI 1)), (1288, .iadd, 0, 0, 0, .null)]
theorem t_s_law_201 : s_law_201.all (am_ok 15 cL_law) = true := by decide +kernel
theorem d_L_law_1289 : decode cL_law 1289 = .ok (.iaload, 1) := by decide +kernel
def s_law_202 : List am_Q := [(1290, .aload_n 0, 0, 0, 0, .null), (1291, .iload_n 3, 0, 0, 0, .null), (1292, .iconst 2, 0, 0, 0, .int (nI 2)), (1293, .iadd, 0, 0, 0, .null)]
theorem t_s_law_202 : s_law_202.all (am_ok 15 cL_law) = true := by decide +kernel
theorem d_L_law_1294 : decode cL_law 1294 = .ok (.iaload, 1) := by decide +kernel
theorem d_L_law_1295 : decode cL_law 1295 = .ok (.invokevirtual 145, 3) := by decide +kernel
def s_law_203 : List am_Q := [(1298, .aload_n 2, 0, 0, 0, .null), (1299, .aload_n 0, 0, 0, 0, .null), (1300, .iload_n 3, 0, 0, 0, .null), (1301, .iconst 1, 0, 0, 0, .int (nI 1)), (1302, .iadd, 0, 0, 0, .null)]
theorem t_s_law_203 : s_law_203.all (am_ok 15 cL_law) = true := by decide +kernel
theorem d_L_law_1303 : decode cL_law 1303 = .ok (.iaload, 1) := by decide +kernel
def s_law_204 : List am_Q := [(1304, .aload_n 0, 0, 0, 0, .null), (1305, .iload_n 3, 0, 0, 0, .null), (1306, .iconst 2, 0, 0, 0, .int (nI 2)), (1307, .iadd, 0, 0, 0, .null)]
theorem t_s_law_204 : s_law_204.all (am_ok 15 cL_law) = true := by decide +kernel
theorem d_L_law_1308 : decode cL_law 1308 = .ok (.iaload, 1) := by decide +kernel
theorem d_L_law_1309 : decode cL_law 1309 = .ok (.invokevirtual 148, 3) := by decide +kernel
theorem d_L_law_1312 : decode cL_law 1312 = .ok (.if_icmp .eq 136, 3) := by decide +kernel
def s_law_205 : List am_Q := [(1448, .iinc 3 4, 0, 0, 0, .int (nI 4)), (1451, .goto (-1433), 18, 0, 0, .null)]
theorem t_s_law_205 : s_law_205.all (am_ok 15 cL_law) = true := by decide +kernel
def s_law_206 : List am_Q := [(1315, .iconst 0, 0, 0, 0, .int (nI 0))]
theorem t_s_law_206 : s_law_206.all (am_ok 15 cL_law) = true := by decide +kernel
def s_law_207 : List am_Q := [(1317, .aload_n 1, 0, 0, 0, .null), (1318, .aload_n 0, 0, 0, 0, .null), (1319, .iload_n 3, 0, 0, 0, .null), (1320, .iconst 1, 0, 0, 0, .int (nI 1)), (1321, .iadd, 0, 0, 0, .null)]
theorem t_s_law_207 : s_law_207.all (am_ok 15 cL_law) = true := by decide +kernel
theorem d_L_law_1322 : decode cL_law 1322 = .ok (.iaload, 1) := by decide +kernel
def s_law_208 : List am_Q := [(1323, .aload_n 0, 0, 0, 0, .null), (1324, .iload_n 3, 0, 0, 0, .null), (1325, .iconst 2, 0, 0, 0, .int (nI 2)), (1326, .iadd, 0, 0, 0, .null)]
theorem t_s_law_208 : s_law_208.all (am_ok 15 cL_law) = true := by decide +kernel
theorem d_L_law_1327 : decode cL_law 1327 = .ok (.iaload, 1) := by decide +kernel
def s_law_209 : List am_Q := [(1328, .aload_n 0, 0, 0, 0, .null), (1329, .iload_n 3, 0, 0, 0, .null), (1330, .iconst 3, 0, 0, 0, .int (nI 3)), (1331, .iadd, 0, 0, 0, .null)]
theorem t_s_law_209 : s_law_209.all (am_ok 15 cL_law) = true := by decide +kernel
theorem d_L_law_1332 : decode cL_law 1332 = .ok (.iaload, 1) := by decide +kernel
theorem d_L_law_1333 : decode cL_law 1333 = .ok (.invokevirtual 149, 3) := by decide +kernel
def s_law_210 : List am_Q := [(1336, .aload_n 2, 0, 0, 0, .null), (1337, .aload_n 0, 0, 0, 0, .null), (1338, .iload_n 3, 0, 0, 0, .null), (1339, .iconst 1, 0, 0, 0, .int (nI 1)), (1340, .iadd, 0, 0, 0, .null)]
theorem t_s_law_210 : s_law_210.all (am_ok 15 cL_law) = true := by decide +kernel
theorem d_L_law_1341 : decode cL_law 1341 = .ok (.iaload, 1) := by decide +kernel
def s_law_211 : List am_Q := [(1342, .aload_n 0, 0, 0, 0, .null), (1343, .iload_n 3, 0, 0, 0, .null), (1344, .iconst 2, 0, 0, 0, .int (nI 2)), (1345, .iadd, 0, 0, 0, .null)]
theorem t_s_law_211 : s_law_211.all (am_ok 15 cL_law) = true := by decide +kernel
theorem d_L_law_1346 : decode cL_law 1346 = .ok (.iaload, 1) := by decide +kernel
def s_law_212 : List am_Q := [(1347, .aload_n 0, 0, 0, 0, .null), (1348, .iload_n 3, 0, 0, 0, .null), (1349, .iconst 3, 0, 0, 0, .int (nI 3)), (1350, .iadd, 0, 0, 0, .null)]
theorem t_s_law_212 : s_law_212.all (am_ok 15 cL_law) = true := by decide +kernel
theorem d_L_law_1351 : decode cL_law 1351 = .ok (.iaload, 1) := by decide +kernel
theorem d_L_law_1352 : decode cL_law 1352 = .ok (.invokevirtual 152, 3) := by decide +kernel
theorem d_L_law_1355 : decode cL_law 1355 = .ok (.if_icmp .eq 93, 3) := by decide +kernel
def s_law_213 : List am_Q := [(1448, .iinc 3 4, 0, 0, 0, .int (nI 4)), (1451, .goto (-1433), 18, 0, 0, .null)]
theorem t_s_law_213 : s_law_213.all (am_ok 15 cL_law) = true := by decide +kernel
def s_law_214 : List am_Q := [(1358, .iconst 0, 0, 0, 0, .int (nI 0))]
theorem t_s_law_214 : s_law_214.all (am_ok 15 cL_law) = true := by decide +kernel
def s_law_215 : List am_Q := [(1360, .aload_n 1, 0, 0, 0, .null)]
theorem t_s_law_215 : s_law_215.all (am_ok 15 cL_law) = true := by decide +kernel
theorem d_L_law_1361 : decode cL_law 1361 = .ok (.invokevirtual 153, 3) := by decide +kernel
def s_law_216 : List am_Q := [(1364, .aload_n 2, 0, 0, 0, .null)]
theorem t_s_law_216 : s_law_216.all (am_ok 15 cL_law) = true := by decide +kernel
theorem d_L_law_1365 : decode cL_law 1365 = .ok (.invokevirtual 157, 3) := by decide +kernel
theorem d_L_law_1368 : decode cL_law 1368 = .ok (.if_icmp .eq 80, 3) := by decide +kernel
def s_law_217 : List am_Q := [(1448, .iinc 3 4, 0, 0, 0, .int (nI 4)), (1451, .goto (-1433), 18, 0, 0, .null)]
theorem t_s_law_217 : s_law_217.all (am_ok 15 cL_law) = true := by decide +kernel
def s_law_218 : List am_Q := [(1371, .iconst 0, 0, 0, 0, .int (nI 0))]
theorem t_s_law_218 : s_law_218.all (am_ok 15 cL_law) = true := by decide +kernel
def s_law_219 : List am_Q := [(1373, .aload_n 1, 0, 0, 0, .null)]
theorem t_s_law_219 : s_law_219.all (am_ok 15 cL_law) = true := by decide +kernel
theorem d_L_law_1374 : decode cL_law 1374 = .ok (.invokevirtual 158, 3) := by decide +kernel
def s_law_220 : List am_Q := [(1377, .aload_n 2, 0, 0, 0, .null)]
theorem t_s_law_220 : s_law_220.all (am_ok 15 cL_law) = true := by decide +kernel
theorem d_L_law_1378 : decode cL_law 1378 = .ok (.invokevirtual 161, 3) := by decide +kernel
theorem d_L_law_1381 : decode cL_law 1381 = .ok (.if_icmp .eq 67, 3) := by decide +kernel
def s_law_221 : List am_Q := [(1448, .iinc 3 4, 0, 0, 0, .int (nI 4)), (1451, .goto (-1433), 18, 0, 0, .null)]
theorem t_s_law_221 : s_law_221.all (am_ok 15 cL_law) = true := by decide +kernel
def s_law_222 : List am_Q := [(1384, .iconst 0, 0, 0, 0, .int (nI 0))]
theorem t_s_law_222 : s_law_222.all (am_ok 15 cL_law) = true := by decide +kernel
def s_law_223 : List am_Q := [(1386, .aload_n 1, 0, 0, 0, .null)]
theorem t_s_law_223 : s_law_223.all (am_ok 15 cL_law) = true := by decide +kernel
theorem d_L_law_1387 : decode cL_law 1387 = .ok (.invokevirtual 162, 3) := by decide +kernel
def s_law_224 : List am_Q := [(1390, .aload_n 2, 0, 0, 0, .null)]
theorem t_s_law_224 : s_law_224.all (am_ok 15 cL_law) = true := by decide +kernel
theorem d_L_law_1391 : decode cL_law 1391 = .ok (.invokevirtual 165, 3) := by decide +kernel
theorem d_L_law_1394 : decode cL_law 1394 = .ok (.if_icmp .eq 54, 3) := by decide +kernel
def s_law_225 : List am_Q := [(1448, .iinc 3 4, 0, 0, 0, .int (nI 4)), (1451, .goto (-1433), 18, 0, 0, .null)]
theorem t_s_law_225 : s_law_225.all (am_ok 15 cL_law) = true := by decide +kernel
def s_law_226 : List am_Q := [(1397, .iconst 0, 0, 0, 0, .int (nI 0))]
theorem t_s_law_226 : s_law_226.all (am_ok 15 cL_law) = true := by decide +kernel
def s_law_227 : List am_Q := [(1399, .aload_n 1, 0, 0, 0, .null), (1400, .aload_n 0, 0, 0, 0, .null), (1401, .iload_n 3, 0, 0, 0, .null), (1402, .iconst 1, 0, 0, 0, .int (nI 1)), (1403, .iadd, 0, 0, 0, .null)]
theorem t_s_law_227 : s_law_227.all (am_ok 15 cL_law) = true := by decide +kernel
theorem d_L_law_1404 : decode cL_law 1404 = .ok (.iaload, 1) := by decide +kernel
theorem d_L_law_1405 : decode cL_law 1405 = .ok (.invokevirtual 166, 3) := by decide +kernel
def s_law_228 : List am_Q := [(1408, .aload_n 2, 0, 0, 0, .null), (1409, .aload_n 0, 0, 0, 0, .null), (1410, .iload_n 3, 0, 0, 0, .null), (1411, .iconst 1, 0, 0, 0, .int (nI 1)), (1412, .iadd, 0, 0, 0, .null)]
theorem t_s_law_228 : s_law_228.all (am_ok 15 cL_law) = true := by decide +kernel
theorem d_L_law_1413 : decode cL_law 1413 = .ok (.iaload, 1) := by decide +kernel
theorem d_L_law_1414 : decode cL_law 1414 = .ok (.invokevirtual 169, 3) := by decide +kernel
theorem d_L_law_1417 : decode cL_law 1417 = .ok (.if_icmp .eq 31, 3) := by decide +kernel
def s_law_229 : List am_Q := [(1448, .iinc 3 4, 0, 0, 0, .int (nI 4)), (1451, .goto (-1433), 18, 0, 0, .null)]
theorem t_s_law_229 : s_law_229.all (am_ok 15 cL_law) = true := by decide +kernel
def s_law_230 : List am_Q := [(1420, .iconst 0, 0, 0, 0, .int (nI 0))]
theorem t_s_law_230 : s_law_230.all (am_ok 15 cL_law) = true := by decide +kernel
def s_law_231 : List am_Q := [(1422, .aload_n 1, 0, 0, 0, .null)]
theorem t_s_law_231 : s_law_231.all (am_ok 15 cL_law) = true := by decide +kernel
theorem d_L_law_1423 : decode cL_law 1423 = .ok (.invokevirtual 170, 3) := by decide +kernel
def s_law_232 : List am_Q := [(1426, .aload_n 2, 0, 0, 0, .null)]
theorem t_s_law_232 : s_law_232.all (am_ok 15 cL_law) = true := by decide +kernel
theorem d_L_law_1427 : decode cL_law 1427 = .ok (.invokevirtual 173, 3) := by decide +kernel
theorem d_L_law_1430 : decode cL_law 1430 = .ok (.if_icmp .eq 18, 3) := by decide +kernel
def s_law_233 : List am_Q := [(1448, .iinc 3 4, 0, 0, 0, .int (nI 4)), (1451, .goto (-1433), 18, 0, 0, .null)]
theorem t_s_law_233 : s_law_233.all (am_ok 15 cL_law) = true := by decide +kernel
def s_law_234 : List am_Q := [(1433, .iconst 0, 0, 0, 0, .int (nI 0))]
theorem t_s_law_234 : s_law_234.all (am_ok 15 cL_law) = true := by decide +kernel
def s_law_235 : List am_Q := [(1435, .aload_n 1, 0, 0, 0, .null)]
theorem t_s_law_235 : s_law_235.all (am_ok 15 cL_law) = true := by decide +kernel
theorem d_L_law_1436 : decode cL_law 1436 = .ok (.invokevirtual 174, 3) := by decide +kernel
def s_law_236 : List am_Q := [(1439, .aload_n 2, 0, 0, 0, .null)]
theorem t_s_law_236 : s_law_236.all (am_ok 15 cL_law) = true := by decide +kernel
theorem d_L_law_1440 : decode cL_law 1440 = .ok (.invokevirtual 177, 3) := by decide +kernel
theorem d_L_law_1443 : decode cL_law 1443 = .ok (.if_icmp .eq 5, 3) := by decide +kernel
def s_law_237 : List am_Q := [(1448, .iinc 3 4, 0, 0, 0, .int (nI 4)), (1451, .goto (-1433), 18, 0, 0, .null)]
theorem t_s_law_237 : s_law_237.all (am_ok 15 cL_law) = true := by decide +kernel
def s_law_238 : List am_Q := [(1446, .iconst 0, 0, 0, 0, .int (nI 0))]
theorem t_s_law_238 : s_law_238.all (am_ok 15 cL_law) = true := by decide +kernel
def law_255 (L : Nat) (xs : Nat → Int32) (k18 : am_T → Int32 → Option (Int32 × am_T)) (τ : am_T) (a3 : Int32) (s0 : Int32) (s1 : Int32) (s2 : Int32) (s4 : Int32) : Option (Int32 × am_T) :=
  (M_flat τ s2 s1 s0).bind (fun x2 =>
  if s4 = x2.1 then
  (k18 x2.2 (a3 + (nI 4)))
else
  (some ((nI 0), x2.2)))
set_option maxRecDepth 20000 in
theorem ok_law_255 {L : Nat} {xs : Nat → Int32} {X : am_X} {τ' : am_T} (hF : am_F X "ShareHouseLaw" cL_law 4) (hR : am_R X 12 261) (hB : am_L X L xs) {k18 : am_T → Int32 → Option (Int32 × am_T)} (hk18 : ∀ (τ : am_T) (a3 : Int32), k18 τ a3 = some (nI 1, τ') → am_W X 4 (18, [(0, .ref 1200), (1, .ref 0), (2, .ref 140), (3, .int a3)], [], am_D τ)) {τ : am_T} {a3 : Int32} {s0 : Int32} {s1 : Int32} {s2 : Int32} {s4 : Int32} (h : law_255 L xs k18 τ a3 s0 s1 s2 s4 = some (nI 1, τ')) : am_W X 4 (255, [(0, .ref 1200), (1, .ref 0), (2, .ref 140), (3, .int a3)], [.int s0, .int s1, .int s2, .ref 140, .int s4], am_D τ) := by
  unfold law_255 at h
  refine am_bd h (fun x2 hx h => ?_)
  refine am_callV (As := [.int s2, .int s1, .int s0]) (r := (some (.int x2.1))) (st := [.int s4]) (σ' := am_D x2.2) (ci := 12) hF hR d_L_law_255 (c_M_flat (τ' := x2.2) hx) (Nat.le_refl _) (Nat.le_refl _) wl_L_17 wi_yX12_flat we_yX12_flat wn_ShareHouseModel wc_yX12_flat (Nat.le_of_ble_eq_true rfl) (Nat.le_of_ble_eq_true rfl) rfl rfl wy_yX12_flat rfl ⟨by decide, by decide⟩ (Nat.le_of_ble_eq_true rfl) ?_
  refine am_ite h (fun hc h => ?_) (fun hc h => ?_)
  · refine am_icmp_eq_t (t := 1448) d_L_law_258 (by decide) hc hF ?_
    refine am_seg s_law_14 (y := (18, [(3, .int (a3 + (nI 4))), (0, .ref 1200), (1, .ref 0), (2, .ref 140)], [], am_D x2.2)) hF t_s_law_14 rfl rfl ?_
    refine am_pick [1, 2, 3, 0] rfl ?_
    exact hk18 _ _ h
  · refine am_icmp_eq_f (t := 1448) d_L_law_258 (by decide) hc hF ?_
    refine am_seg s_law_15 (y := (262, [(0, .ref 1200), (1, .ref 0), (2, .ref 140), (3, .int a3)], [.int (nI 0)], am_D x2.2)) hF t_s_law_15 rfl rfl ?_
    exact absurd (am_pair h).1 (by decide)
def law_228 (L : Nat) (xs : Nat → Int32) (k18 : am_T → Int32 → Option (Int32 × am_T)) (τ : am_T) (a3 : Int32) (s0 : Int32) (s1 : Int32) (s2 : Int32) : Option (Int32 × am_T) :=
  (X_flat τ s2 s1 s0).bind (fun x1 =>
  am_g (am_in (a3 + (nI 1)) L) (am_g (am_in (a3 + (nI 2)) L) (am_g (am_in (a3 + (nI 3)) L) (if (xs ((a3 + (nI 3)).toNatClampNeg)) = 0 then
  (law_255 L xs k18 x1.2 a3 (nI 0) (xs ((a3 + (nI 2)).toNatClampNeg)) (xs ((a3 + (nI 1)).toNatClampNeg)) x1.1)
else
  (law_255 L xs k18 x1.2 a3 (nI 1) (xs ((a3 + (nI 2)).toNatClampNeg)) (xs ((a3 + (nI 1)).toNatClampNeg)) x1.1)))))
set_option maxRecDepth 20000 in
theorem ok_law_228 {L : Nat} {xs : Nat → Int32} {X : am_X} {τ' : am_T} (hF : am_F X "ShareHouseLaw" cL_law 4) (hR : am_R X 12 261) (hB : am_L X L xs) {k18 : am_T → Int32 → Option (Int32 × am_T)} (hk18 : ∀ (τ : am_T) (a3 : Int32), k18 τ a3 = some (nI 1, τ') → am_W X 4 (18, [(0, .ref 1200), (1, .ref 0), (2, .ref 140), (3, .int a3)], [], am_D τ)) {τ : am_T} {a3 : Int32} {s0 : Int32} {s1 : Int32} {s2 : Int32} (h : law_228 L xs k18 τ a3 s0 s1 s2 = some (nI 1, τ')) : am_W X 4 (228, [(0, .ref 1200), (1, .ref 0), (2, .ref 140), (3, .int a3)], [.int s0, .int s1, .int s2, .ref 0], am_D τ) := by
  unfold law_228 at h
  refine am_bd h (fun x1 hx h => ?_)
  refine am_callV (As := [.int s2, .int s1, .int s0]) (r := (some (.int x1.1))) (st := []) (σ' := am_D x1.2) (ci := 11) hF hR d_L_law_228 (c_X_flat (τ' := x1.2) hx) (Nat.le_refl _) (Nat.le_refl _) wl_L_13 wi_yX11_flat we_yX11_flat wn_ShareHouse wc_yX11_flat (Nat.le_of_ble_eq_true rfl) (Nat.le_of_ble_eq_true rfl) rfl rfl wy_yX11_flat rfl ⟨by decide, by decide⟩ (Nat.le_of_ble_eq_true rfl) ?_
  refine am_seg s_law_10 (y := (236, [(0, .ref 1200), (1, .ref 0), (2, .ref 140), (3, .int a3)], [.int (a3 + (nI 1)), .ref 1200, .ref 140, .int x1.1], am_D x1.2)) hF t_s_law_10 rfl rfl ?_
  refine am_gd h (fun hi h => ?_)
  refine am_sald (j := ((a3 + (nI 1)).toNatClampNeg)) d_L_law_236 hB.1 hi rfl hF ?_
  refine am_seg s_law_11 (y := (241, [(0, .ref 1200), (1, .ref 0), (2, .ref 140), (3, .int a3)], [.int (a3 + (nI 2)), .ref 1200, .int (xs ((a3 + (nI 1)).toNatClampNeg)), .ref 140, .int x1.1], am_D x1.2)) hF t_s_law_11 rfl rfl ?_
  refine am_gd h (fun hi h => ?_)
  refine am_sald (j := ((a3 + (nI 2)).toNatClampNeg)) d_L_law_241 hB.1 hi rfl hF ?_
  refine am_seg s_law_12 (y := (246, [(0, .ref 1200), (1, .ref 0), (2, .ref 140), (3, .int a3)], [.int (a3 + (nI 3)), .ref 1200, .int (xs ((a3 + (nI 2)).toNatClampNeg)), .int (xs ((a3 + (nI 1)).toNatClampNeg)), .ref 140, .int x1.1], am_D x1.2)) hF t_s_law_12 rfl rfl ?_
  refine am_gd h (fun hi h => ?_)
  refine am_sald (j := ((a3 + (nI 3)).toNatClampNeg)) d_L_law_246 hB.1 hi rfl hF ?_
  refine am_ite h (fun hc h => ?_) (fun hc h => ?_)
  · refine am_if_eq_t (t := 254) d_L_law_247 (by decide) hc hF ?_
    refine am_seg s_law_13 (y := (255, [(0, .ref 1200), (1, .ref 0), (2, .ref 140), (3, .int a3)], [.int (nI 0), .int (xs ((a3 + (nI 2)).toNatClampNeg)), .int (xs ((a3 + (nI 1)).toNatClampNeg)), .ref 140, .int x1.1], am_D x1.2)) hF t_s_law_13 rfl rfl ?_
    exact ok_law_255 hF hR hB hk18 h
  · refine am_if_eq_f (t := 254) d_L_law_247 (by decide) hc hF ?_
    refine am_seg s_law_16 (y := (255, [(0, .ref 1200), (1, .ref 0), (2, .ref 140), (3, .int a3)], [.int (nI 1), .int (xs ((a3 + (nI 2)).toNatClampNeg)), .int (xs ((a3 + (nI 1)).toNatClampNeg)), .ref 140, .int x1.1], am_D x1.2)) hF t_s_law_16 rfl rfl ?_
    exact ok_law_255 hF hR hB hk18 h
def law_204 (L : Nat) (xs : Nat → Int32) (k18 : am_T → Int32 → Option (Int32 × am_T)) (τ : am_T) (a3 : Int32) : Option (Int32 × am_T) :=
  am_g (am_in (a3 + (nI 1)) L) (am_g (am_in (a3 + (nI 2)) L) (am_g (am_in (a3 + (nI 3)) L) (if (xs ((a3 + (nI 3)).toNatClampNeg)) = 0 then
  (law_228 L xs k18 τ a3 (nI 0) (xs ((a3 + (nI 2)).toNatClampNeg)) (xs ((a3 + (nI 1)).toNatClampNeg)))
else
  (law_228 L xs k18 τ a3 (nI 1) (xs ((a3 + (nI 2)).toNatClampNeg)) (xs ((a3 + (nI 1)).toNatClampNeg))))))
set_option maxRecDepth 20000 in
theorem ok_law_204 {L : Nat} {xs : Nat → Int32} {X : am_X} {τ' : am_T} (hF : am_F X "ShareHouseLaw" cL_law 4) (hR : am_R X 12 261) (hB : am_L X L xs) {k18 : am_T → Int32 → Option (Int32 × am_T)} (hk18 : ∀ (τ : am_T) (a3 : Int32), k18 τ a3 = some (nI 1, τ') → am_W X 4 (18, [(0, .ref 1200), (1, .ref 0), (2, .ref 140), (3, .int a3)], [], am_D τ)) {τ : am_T} {a3 : Int32} (h : law_204 L xs k18 τ a3 = some (nI 1, τ')) : am_W X 4 (204, [(0, .ref 1200), (1, .ref 0), (2, .ref 140), (3, .int a3)], [], am_D τ) := by
  unfold law_204 at h
  refine am_seg s_law_6 (y := (209, [(0, .ref 1200), (1, .ref 0), (2, .ref 140), (3, .int a3)], [.int (a3 + (nI 1)), .ref 1200, .ref 0], am_D τ)) hF t_s_law_6 rfl rfl ?_
  refine am_gd h (fun hi h => ?_)
  refine am_sald (j := ((a3 + (nI 1)).toNatClampNeg)) d_L_law_209 hB.1 hi rfl hF ?_
  refine am_seg s_law_7 (y := (214, [(0, .ref 1200), (1, .ref 0), (2, .ref 140), (3, .int a3)], [.int (a3 + (nI 2)), .ref 1200, .int (xs ((a3 + (nI 1)).toNatClampNeg)), .ref 0], am_D τ)) hF t_s_law_7 rfl rfl ?_
  refine am_gd h (fun hi h => ?_)
  refine am_sald (j := ((a3 + (nI 2)).toNatClampNeg)) d_L_law_214 hB.1 hi rfl hF ?_
  refine am_seg s_law_8 (y := (219, [(0, .ref 1200), (1, .ref 0), (2, .ref 140), (3, .int a3)], [.int (a3 + (nI 3)), .ref 1200, .int (xs ((a3 + (nI 2)).toNatClampNeg)), .int (xs ((a3 + (nI 1)).toNatClampNeg)), .ref 0], am_D τ)) hF t_s_law_8 rfl rfl ?_
  refine am_gd h (fun hi h => ?_)
  refine am_sald (j := ((a3 + (nI 3)).toNatClampNeg)) d_L_law_219 hB.1 hi rfl hF ?_
  refine am_ite h (fun hc h => ?_) (fun hc h => ?_)
  · refine am_if_eq_t (t := 227) d_L_law_220 (by decide) hc hF ?_
    refine am_seg s_law_9 (y := (228, [(0, .ref 1200), (1, .ref 0), (2, .ref 140), (3, .int a3)], [.int (nI 0), .int (xs ((a3 + (nI 2)).toNatClampNeg)), .int (xs ((a3 + (nI 1)).toNatClampNeg)), .ref 0], am_D τ)) hF t_s_law_9 rfl rfl ?_
    exact ok_law_228 hF hR hB hk18 h
  · refine am_if_eq_f (t := 227) d_L_law_220 (by decide) hc hF ?_
    refine am_seg s_law_17 (y := (228, [(0, .ref 1200), (1, .ref 0), (2, .ref 140), (3, .int a3)], [.int (nI 1), .int (xs ((a3 + (nI 2)).toNatClampNeg)), .int (xs ((a3 + (nI 1)).toNatClampNeg)), .ref 0], am_D τ)) hF t_s_law_17 rfl rfl ?_
    exact ok_law_228 hF hR hB hk18 h
def law_263 (L : Nat) (xs : Nat → Int32) (k18 : am_T → Int32 → Option (Int32 × am_T)) (τ : am_T) (a3 : Int32) : Option (Int32 × am_T) :=
  am_g (am_in (a3 + (nI 1)) L) ((X_days τ (xs ((a3 + (nI 1)).toNatClampNeg))).bind (fun x3 =>
  am_g (am_in (a3 + (nI 1)) L) ((M_days x3.2 (xs ((a3 + (nI 1)).toNatClampNeg))).bind (fun x4 =>
  if x3.1 = x4.1 then
  (k18 x4.2 (a3 + (nI 4)))
else
  (some ((nI 0), x4.2))))))
set_option maxRecDepth 20000 in
theorem ok_law_263 {L : Nat} {xs : Nat → Int32} {X : am_X} {τ' : am_T} (hF : am_F X "ShareHouseLaw" cL_law 4) (hR : am_R X 12 261) (hB : am_L X L xs) {k18 : am_T → Int32 → Option (Int32 × am_T)} (hk18 : ∀ (τ : am_T) (a3 : Int32), k18 τ a3 = some (nI 1, τ') → am_W X 4 (18, [(0, .ref 1200), (1, .ref 0), (2, .ref 140), (3, .int a3)], [], am_D τ)) {τ : am_T} {a3 : Int32} (h : law_263 L xs k18 τ a3 = some (nI 1, τ')) : am_W X 4 (263, [(0, .ref 1200), (1, .ref 0), (2, .ref 140), (3, .int a3)], [], am_D τ) := by
  unfold law_263 at h
  refine am_seg s_law_18 (y := (268, [(0, .ref 1200), (1, .ref 0), (2, .ref 140), (3, .int a3)], [.int (a3 + (nI 1)), .ref 1200, .ref 0], am_D τ)) hF t_s_law_18 rfl rfl ?_
  refine am_gd h (fun hi h => ?_)
  refine am_sald (j := ((a3 + (nI 1)).toNatClampNeg)) d_L_law_268 hB.1 hi rfl hF ?_
  refine am_bd h (fun x3 hx h => ?_)
  refine am_callV (As := [.int (xs ((a3 + (nI 1)).toNatClampNeg))]) (r := (some (.int x3.1))) (st := []) (σ' := am_D x3.2) (ci := 11) hF hR d_L_law_269 (c_X_days (τ' := x3.2) hx) (Nat.le_refl _) (Nat.le_refl _) wl_L_18 wi_yX11_days we_yX11_days wn_ShareHouse wc_yX11_days (Nat.le_of_ble_eq_true rfl) (Nat.le_of_ble_eq_true rfl) rfl rfl wy_yX11_days rfl ⟨by decide, by decide⟩ (Nat.le_of_ble_eq_true rfl) ?_
  refine am_seg s_law_19 (y := (277, [(0, .ref 1200), (1, .ref 0), (2, .ref 140), (3, .int a3)], [.int (a3 + (nI 1)), .ref 1200, .ref 140, .int x3.1], am_D x3.2)) hF t_s_law_19 rfl rfl ?_
  refine am_gd h (fun hi h => ?_)
  refine am_sald (j := ((a3 + (nI 1)).toNatClampNeg)) d_L_law_277 hB.1 hi rfl hF ?_
  refine am_bd h (fun x4 hx h => ?_)
  refine am_callV (As := [.int (xs ((a3 + (nI 1)).toNatClampNeg))]) (r := (some (.int x4.1))) (st := [.int x3.1]) (σ' := am_D x4.2) (ci := 12) hF hR d_L_law_278 (c_M_days (τ' := x4.2) hx) (Nat.le_refl _) (Nat.le_refl _) wl_L_22 wi_yX12_days we_yX12_days wn_ShareHouseModel wc_yX12_days (Nat.le_of_ble_eq_true rfl) (Nat.le_of_ble_eq_true rfl) rfl rfl wy_yX12_days rfl ⟨by decide, by decide⟩ (Nat.le_of_ble_eq_true rfl) ?_
  refine am_ite h (fun hc h => ?_) (fun hc h => ?_)
  · refine am_icmp_eq_t (t := 1448) d_L_law_281 (by decide) hc hF ?_
    refine am_seg s_law_20 (y := (18, [(3, .int (a3 + (nI 4))), (0, .ref 1200), (1, .ref 0), (2, .ref 140)], [], am_D x4.2)) hF t_s_law_20 rfl rfl ?_
    refine am_pick [1, 2, 3, 0] rfl ?_
    exact hk18 _ _ h
  · refine am_icmp_eq_f (t := 1448) d_L_law_281 (by decide) hc hF ?_
    refine am_seg s_law_21 (y := (285, [(0, .ref 1200), (1, .ref 0), (2, .ref 140), (3, .int a3)], [.int (nI 0)], am_D x4.2)) hF t_s_law_21 rfl rfl ?_
    exact absurd (am_pair h).1 (by decide)
def law_286 (L : Nat) (xs : Nat → Int32) (k18 : am_T → Int32 → Option (Int32 × am_T)) (τ : am_T) (a3 : Int32) : Option (Int32 × am_T) :=
  am_g (am_in (a3 + (nI 1)) L) (am_g (am_in (a3 + (nI 2)) L) (am_g (am_in (a3 + (nI 3)) L) ((X_feed τ (((Int32.toInt64 (xs ((a3 + (nI 1)).toNatClampNeg))) <<< (Int32.toInt64 (nI 32) &&& 63)) ||| ((Int32.toInt64 (xs ((a3 + (nI 2)).toNatClampNeg))) &&& (lN 4294967295))) (xs ((a3 + (nI 3)).toNatClampNeg))).bind (fun x5 =>
  am_g (am_in (a3 + (nI 1)) L) (am_g (am_in (a3 + (nI 2)) L) (am_g (am_in (a3 + (nI 3)) L) ((M_feed x5.2 (((Int32.toInt64 (xs ((a3 + (nI 1)).toNatClampNeg))) <<< (Int32.toInt64 (nI 32) &&& 63)) ||| ((Int32.toInt64 (xs ((a3 + (nI 2)).toNatClampNeg))) &&& (lN 4294967295))) (xs ((a3 + (nI 3)).toNatClampNeg))).bind (fun x6 =>
  if x5.1 = x6.1 then
  (k18 x6.2 (a3 + (nI 4)))
else
  (some ((nI 0), x6.2))))))))))
set_option maxRecDepth 20000 in
theorem ok_law_286 {L : Nat} {xs : Nat → Int32} {X : am_X} {τ' : am_T} (hF : am_F X "ShareHouseLaw" cL_law 4) (hR : am_R X 12 261) (hB : am_L X L xs) {k18 : am_T → Int32 → Option (Int32 × am_T)} (hk18 : ∀ (τ : am_T) (a3 : Int32), k18 τ a3 = some (nI 1, τ') → am_W X 4 (18, [(0, .ref 1200), (1, .ref 0), (2, .ref 140), (3, .int a3)], [], am_D τ)) {τ : am_T} {a3 : Int32} (h : law_286 L xs k18 τ a3 = some (nI 1, τ')) : am_W X 4 (286, [(0, .ref 1200), (1, .ref 0), (2, .ref 140), (3, .int a3)], [], am_D τ) := by
  unfold law_286 at h
  refine am_seg s_law_22 (y := (291, [(0, .ref 1200), (1, .ref 0), (2, .ref 140), (3, .int a3)], [.int (a3 + (nI 1)), .ref 1200, .ref 0], am_D τ)) hF t_s_law_22 rfl rfl ?_
  refine am_gd h (fun hi h => ?_)
  refine am_sald (j := ((a3 + (nI 1)).toNatClampNeg)) d_L_law_291 hB.1 hi rfl hF ?_
  refine am_seg s_law_23 (y := (300, [(0, .ref 1200), (1, .ref 0), (2, .ref 140), (3, .int a3)], [.int (a3 + (nI 2)), .ref 1200, .long ((Int32.toInt64 (xs ((a3 + (nI 1)).toNatClampNeg))) <<< (Int32.toInt64 (nI 32) &&& 63)), .ref 0], am_D τ)) hF t_s_law_23 rfl rfl ?_
  refine am_gd h (fun hi h => ?_)
  refine am_sald (j := ((a3 + (nI 2)).toNatClampNeg)) d_L_law_300 hB.1 hi rfl hF ?_
  refine am_seg s_law_24 (y := (311, [(0, .ref 1200), (1, .ref 0), (2, .ref 140), (3, .int a3)], [.int (a3 + (nI 3)), .ref 1200, .long (((Int32.toInt64 (xs ((a3 + (nI 1)).toNatClampNeg))) <<< (Int32.toInt64 (nI 32) &&& 63)) ||| ((Int32.toInt64 (xs ((a3 + (nI 2)).toNatClampNeg))) &&& (lN 4294967295))), .ref 0], am_D τ)) hF t_s_law_24 rfl rfl ?_
  refine am_gd h (fun hi h => ?_)
  refine am_sald (j := ((a3 + (nI 3)).toNatClampNeg)) d_L_law_311 hB.1 hi rfl hF ?_
  refine am_bd h (fun x5 hx h => ?_)
  refine am_callV (As := [.long (((Int32.toInt64 (xs ((a3 + (nI 1)).toNatClampNeg))) <<< (Int32.toInt64 (nI 32) &&& 63)) ||| ((Int32.toInt64 (xs ((a3 + (nI 2)).toNatClampNeg))) &&& (lN 4294967295))), .int (xs ((a3 + (nI 3)).toNatClampNeg))]) (r := (some (.int x5.1))) (st := []) (σ' := am_D x5.2) (ci := 11) hF hR d_L_law_312 (c_X_feed (τ' := x5.2) hx) (Nat.le_refl _) (Nat.le_refl _) wl_L_25 wi_yX11_feed we_yX11_feed wn_ShareHouse wc_yX11_feed (Nat.le_of_ble_eq_true rfl) (Nat.le_of_ble_eq_true rfl) rfl rfl wy_yX11_feed rfl ⟨by decide, by decide⟩ (Nat.le_of_ble_eq_true rfl) ?_
  refine am_seg s_law_25 (y := (320, [(0, .ref 1200), (1, .ref 0), (2, .ref 140), (3, .int a3)], [.int (a3 + (nI 1)), .ref 1200, .ref 140, .int x5.1], am_D x5.2)) hF t_s_law_25 rfl rfl ?_
  refine am_gd h (fun hi h => ?_)
  refine am_sald (j := ((a3 + (nI 1)).toNatClampNeg)) d_L_law_320 hB.1 hi rfl hF ?_
  refine am_seg s_law_26 (y := (329, [(0, .ref 1200), (1, .ref 0), (2, .ref 140), (3, .int a3)], [.int (a3 + (nI 2)), .ref 1200, .long ((Int32.toInt64 (xs ((a3 + (nI 1)).toNatClampNeg))) <<< (Int32.toInt64 (nI 32) &&& 63)), .ref 140, .int x5.1], am_D x5.2)) hF t_s_law_26 rfl rfl ?_
  refine am_gd h (fun hi h => ?_)
  refine am_sald (j := ((a3 + (nI 2)).toNatClampNeg)) d_L_law_329 hB.1 hi rfl hF ?_
  refine am_seg s_law_27 (y := (340, [(0, .ref 1200), (1, .ref 0), (2, .ref 140), (3, .int a3)], [.int (a3 + (nI 3)), .ref 1200, .long (((Int32.toInt64 (xs ((a3 + (nI 1)).toNatClampNeg))) <<< (Int32.toInt64 (nI 32) &&& 63)) ||| ((Int32.toInt64 (xs ((a3 + (nI 2)).toNatClampNeg))) &&& (lN 4294967295))), .ref 140, .int x5.1], am_D x5.2)) hF t_s_law_27 rfl rfl ?_
  refine am_gd h (fun hi h => ?_)
  refine am_sald (j := ((a3 + (nI 3)).toNatClampNeg)) d_L_law_340 hB.1 hi rfl hF ?_
  refine am_bd h (fun x6 hx h => ?_)
  refine am_callV (As := [.long (((Int32.toInt64 (xs ((a3 + (nI 1)).toNatClampNeg))) <<< (Int32.toInt64 (nI 32) &&& 63)) ||| ((Int32.toInt64 (xs ((a3 + (nI 2)).toNatClampNeg))) &&& (lN 4294967295))), .int (xs ((a3 + (nI 3)).toNatClampNeg))]) (r := (some (.int x6.1))) (st := [.int x5.1]) (σ' := am_D x6.2) (ci := 12) hF hR d_L_law_341 (c_M_feed (τ' := x6.2) hx) (Nat.le_refl _) (Nat.le_refl _) wl_L_29 wi_yX12_feed we_yX12_feed wn_ShareHouseModel wc_yX12_feed (Nat.le_of_ble_eq_true rfl) (Nat.le_of_ble_eq_true rfl) rfl rfl wy_yX12_feed rfl ⟨by decide, by decide⟩ (Nat.le_of_ble_eq_true rfl) ?_
  refine am_ite h (fun hc h => ?_) (fun hc h => ?_)
  · refine am_icmp_eq_t (t := 1448) d_L_law_344 (by decide) hc hF ?_
    refine am_seg s_law_28 (y := (18, [(3, .int (a3 + (nI 4))), (0, .ref 1200), (1, .ref 0), (2, .ref 140)], [], am_D x6.2)) hF t_s_law_28 rfl rfl ?_
    refine am_pick [1, 2, 3, 0] rfl ?_
    exact hk18 _ _ h
  · refine am_icmp_eq_f (t := 1448) d_L_law_344 (by decide) hc hF ?_
    refine am_seg s_law_29 (y := (348, [(0, .ref 1200), (1, .ref 0), (2, .ref 140), (3, .int a3)], [.int (nI 0)], am_D x6.2)) hF t_s_law_29 rfl rfl ?_
    exact absurd (am_pair h).1 (by decide)
def law_349 (L : Nat) (xs : Nat → Int32) (k18 : am_T → Int32 → Option (Int32 × am_T)) (τ : am_T) (a3 : Int32) : Option (Int32 × am_T) :=
  am_g (am_in (a3 + (nI 1)) L) ((X_lease τ (xs ((a3 + (nI 1)).toNatClampNeg))).bind (fun x7 =>
  am_g (am_in (a3 + (nI 1)) L) ((M_lease x7.2 (xs ((a3 + (nI 1)).toNatClampNeg))).bind (fun x8 =>
  if x7.1 = x8.1 then
  (k18 x8.2 (a3 + (nI 4)))
else
  (some ((nI 0), x8.2))))))
set_option maxRecDepth 20000 in
theorem ok_law_349 {L : Nat} {xs : Nat → Int32} {X : am_X} {τ' : am_T} (hF : am_F X "ShareHouseLaw" cL_law 4) (hR : am_R X 12 261) (hB : am_L X L xs) {k18 : am_T → Int32 → Option (Int32 × am_T)} (hk18 : ∀ (τ : am_T) (a3 : Int32), k18 τ a3 = some (nI 1, τ') → am_W X 4 (18, [(0, .ref 1200), (1, .ref 0), (2, .ref 140), (3, .int a3)], [], am_D τ)) {τ : am_T} {a3 : Int32} (h : law_349 L xs k18 τ a3 = some (nI 1, τ')) : am_W X 4 (349, [(0, .ref 1200), (1, .ref 0), (2, .ref 140), (3, .int a3)], [], am_D τ) := by
  unfold law_349 at h
  refine am_seg s_law_30 (y := (354, [(0, .ref 1200), (1, .ref 0), (2, .ref 140), (3, .int a3)], [.int (a3 + (nI 1)), .ref 1200, .ref 0], am_D τ)) hF t_s_law_30 rfl rfl ?_
  refine am_gd h (fun hi h => ?_)
  refine am_sald (j := ((a3 + (nI 1)).toNatClampNeg)) d_L_law_354 hB.1 hi rfl hF ?_
  refine am_bd h (fun x7 hx h => ?_)
  refine am_callV (As := [.int (xs ((a3 + (nI 1)).toNatClampNeg))]) (r := (some (.int x7.1))) (st := []) (σ' := am_D x7.2) (ci := 11) hF hR d_L_law_355 (c_X_lease (τ' := x7.2) hx) (Nat.le_refl _) (Nat.le_refl _) wl_L_30 wi_yX11_lease we_yX11_lease wn_ShareHouse wc_yX11_lease (Nat.le_of_ble_eq_true rfl) (Nat.le_of_ble_eq_true rfl) rfl rfl wy_yX11_lease rfl ⟨by decide, by decide⟩ (Nat.le_of_ble_eq_true rfl) ?_
  refine am_seg s_law_31 (y := (363, [(0, .ref 1200), (1, .ref 0), (2, .ref 140), (3, .int a3)], [.int (a3 + (nI 1)), .ref 1200, .ref 140, .int x7.1], am_D x7.2)) hF t_s_law_31 rfl rfl ?_
  refine am_gd h (fun hi h => ?_)
  refine am_sald (j := ((a3 + (nI 1)).toNatClampNeg)) d_L_law_363 hB.1 hi rfl hF ?_
  refine am_bd h (fun x8 hx h => ?_)
  refine am_callV (As := [.int (xs ((a3 + (nI 1)).toNatClampNeg))]) (r := (some (.int x8.1))) (st := [.int x7.1]) (σ' := am_D x8.2) (ci := 12) hF hR d_L_law_364 (c_M_lease (τ' := x8.2) hx) (Nat.le_refl _) (Nat.le_refl _) wl_L_33 wi_yX12_lease we_yX12_lease wn_ShareHouseModel wc_yX12_lease (Nat.le_of_ble_eq_true rfl) (Nat.le_of_ble_eq_true rfl) rfl rfl wy_yX12_lease rfl ⟨by decide, by decide⟩ (Nat.le_of_ble_eq_true rfl) ?_
  refine am_ite h (fun hc h => ?_) (fun hc h => ?_)
  · refine am_icmp_eq_t (t := 1448) d_L_law_367 (by decide) hc hF ?_
    refine am_seg s_law_32 (y := (18, [(3, .int (a3 + (nI 4))), (0, .ref 1200), (1, .ref 0), (2, .ref 140)], [], am_D x8.2)) hF t_s_law_32 rfl rfl ?_
    refine am_pick [1, 2, 3, 0] rfl ?_
    exact hk18 _ _ h
  · refine am_icmp_eq_f (t := 1448) d_L_law_367 (by decide) hc hF ?_
    refine am_seg s_law_33 (y := (371, [(0, .ref 1200), (1, .ref 0), (2, .ref 140), (3, .int a3)], [.int (nI 0)], am_D x8.2)) hF t_s_law_33 rfl rfl ?_
    exact absurd (am_pair h).1 (by decide)
def law_372 (L : Nat) (xs : Nat → Int32) (k18 : am_T → Int32 → Option (Int32 × am_T)) (τ : am_T) (a3 : Int32) : Option (Int32 × am_T) :=
  am_g (am_in (a3 + (nI 1)) L) (am_g (am_in (a3 + (nI 2)) L) (am_g (am_in (a3 + (nI 3)) L) ((X_clause τ (xs ((a3 + (nI 1)).toNatClampNeg)) (xs ((a3 + (nI 2)).toNatClampNeg)) (xs ((a3 + (nI 3)).toNatClampNeg))).bind (fun x9 =>
  am_g (am_in (a3 + (nI 1)) L) (am_g (am_in (a3 + (nI 2)) L) (am_g (am_in (a3 + (nI 3)) L) ((M_clause x9.2 (xs ((a3 + (nI 1)).toNatClampNeg)) (xs ((a3 + (nI 2)).toNatClampNeg)) (xs ((a3 + (nI 3)).toNatClampNeg))).bind (fun x10 =>
  if x9.1 = x10.1 then
  (k18 x10.2 (a3 + (nI 4)))
else
  (some ((nI 0), x10.2))))))))))
set_option maxRecDepth 20000 in
theorem ok_law_372 {L : Nat} {xs : Nat → Int32} {X : am_X} {τ' : am_T} (hF : am_F X "ShareHouseLaw" cL_law 4) (hR : am_R X 12 261) (hB : am_L X L xs) {k18 : am_T → Int32 → Option (Int32 × am_T)} (hk18 : ∀ (τ : am_T) (a3 : Int32), k18 τ a3 = some (nI 1, τ') → am_W X 4 (18, [(0, .ref 1200), (1, .ref 0), (2, .ref 140), (3, .int a3)], [], am_D τ)) {τ : am_T} {a3 : Int32} (h : law_372 L xs k18 τ a3 = some (nI 1, τ')) : am_W X 4 (372, [(0, .ref 1200), (1, .ref 0), (2, .ref 140), (3, .int a3)], [], am_D τ) := by
  unfold law_372 at h
  refine am_seg s_law_34 (y := (377, [(0, .ref 1200), (1, .ref 0), (2, .ref 140), (3, .int a3)], [.int (a3 + (nI 1)), .ref 1200, .ref 0], am_D τ)) hF t_s_law_34 rfl rfl ?_
  refine am_gd h (fun hi h => ?_)
  refine am_sald (j := ((a3 + (nI 1)).toNatClampNeg)) d_L_law_377 hB.1 hi rfl hF ?_
  refine am_seg s_law_35 (y := (382, [(0, .ref 1200), (1, .ref 0), (2, .ref 140), (3, .int a3)], [.int (a3 + (nI 2)), .ref 1200, .int (xs ((a3 + (nI 1)).toNatClampNeg)), .ref 0], am_D τ)) hF t_s_law_35 rfl rfl ?_
  refine am_gd h (fun hi h => ?_)
  refine am_sald (j := ((a3 + (nI 2)).toNatClampNeg)) d_L_law_382 hB.1 hi rfl hF ?_
  refine am_seg s_law_36 (y := (387, [(0, .ref 1200), (1, .ref 0), (2, .ref 140), (3, .int a3)], [.int (a3 + (nI 3)), .ref 1200, .int (xs ((a3 + (nI 2)).toNatClampNeg)), .int (xs ((a3 + (nI 1)).toNatClampNeg)), .ref 0], am_D τ)) hF t_s_law_36 rfl rfl ?_
  refine am_gd h (fun hi h => ?_)
  refine am_sald (j := ((a3 + (nI 3)).toNatClampNeg)) d_L_law_387 hB.1 hi rfl hF ?_
  refine am_bd h (fun x9 hx h => ?_)
  refine am_callV (As := [.int (xs ((a3 + (nI 1)).toNatClampNeg)), .int (xs ((a3 + (nI 2)).toNatClampNeg)), .int (xs ((a3 + (nI 3)).toNatClampNeg))]) (r := (some (.int x9.1))) (st := []) (σ' := am_D x9.2) (ci := 11) hF hR d_L_law_388 (c_X_clause (τ' := x9.2) hx) (Nat.le_refl _) (Nat.le_refl _) wl_L_34 wi_yX11_clause we_yX11_clause wn_ShareHouse wc_yX11_clause (Nat.le_of_ble_eq_true rfl) (Nat.le_of_ble_eq_true rfl) rfl rfl wy_yX11_clause rfl ⟨by decide, by decide⟩ (Nat.le_of_ble_eq_true rfl) ?_
  refine am_seg s_law_37 (y := (396, [(0, .ref 1200), (1, .ref 0), (2, .ref 140), (3, .int a3)], [.int (a3 + (nI 1)), .ref 1200, .ref 140, .int x9.1], am_D x9.2)) hF t_s_law_37 rfl rfl ?_
  refine am_gd h (fun hi h => ?_)
  refine am_sald (j := ((a3 + (nI 1)).toNatClampNeg)) d_L_law_396 hB.1 hi rfl hF ?_
  refine am_seg s_law_38 (y := (401, [(0, .ref 1200), (1, .ref 0), (2, .ref 140), (3, .int a3)], [.int (a3 + (nI 2)), .ref 1200, .int (xs ((a3 + (nI 1)).toNatClampNeg)), .ref 140, .int x9.1], am_D x9.2)) hF t_s_law_38 rfl rfl ?_
  refine am_gd h (fun hi h => ?_)
  refine am_sald (j := ((a3 + (nI 2)).toNatClampNeg)) d_L_law_401 hB.1 hi rfl hF ?_
  refine am_seg s_law_39 (y := (406, [(0, .ref 1200), (1, .ref 0), (2, .ref 140), (3, .int a3)], [.int (a3 + (nI 3)), .ref 1200, .int (xs ((a3 + (nI 2)).toNatClampNeg)), .int (xs ((a3 + (nI 1)).toNatClampNeg)), .ref 140, .int x9.1], am_D x9.2)) hF t_s_law_39 rfl rfl ?_
  refine am_gd h (fun hi h => ?_)
  refine am_sald (j := ((a3 + (nI 3)).toNatClampNeg)) d_L_law_406 hB.1 hi rfl hF ?_
  refine am_bd h (fun x10 hx h => ?_)
  refine am_callV (As := [.int (xs ((a3 + (nI 1)).toNatClampNeg)), .int (xs ((a3 + (nI 2)).toNatClampNeg)), .int (xs ((a3 + (nI 3)).toNatClampNeg))]) (r := (some (.int x10.1))) (st := [.int x9.1]) (σ' := am_D x10.2) (ci := 12) hF hR d_L_law_407 (c_M_clause (τ' := x10.2) hx) (Nat.le_refl _) (Nat.le_refl _) wl_L_38 wi_yX12_clause we_yX12_clause wn_ShareHouseModel wc_yX12_clause (Nat.le_of_ble_eq_true rfl) (Nat.le_of_ble_eq_true rfl) rfl rfl wy_yX12_clause rfl ⟨by decide, by decide⟩ (Nat.le_of_ble_eq_true rfl) ?_
  refine am_ite h (fun hc h => ?_) (fun hc h => ?_)
  · refine am_icmp_eq_t (t := 1448) d_L_law_410 (by decide) hc hF ?_
    refine am_seg s_law_40 (y := (18, [(3, .int (a3 + (nI 4))), (0, .ref 1200), (1, .ref 0), (2, .ref 140)], [], am_D x10.2)) hF t_s_law_40 rfl rfl ?_
    refine am_pick [1, 2, 3, 0] rfl ?_
    exact hk18 _ _ h
  · refine am_icmp_eq_f (t := 1448) d_L_law_410 (by decide) hc hF ?_
    refine am_seg s_law_41 (y := (414, [(0, .ref 1200), (1, .ref 0), (2, .ref 140), (3, .int a3)], [.int (nI 0)], am_D x10.2)) hF t_s_law_41 rfl rfl ?_
    exact absurd (am_pair h).1 (by decide)
def law_415 (L : Nat) (xs : Nat → Int32) (k18 : am_T → Int32 → Option (Int32 × am_T)) (τ : am_T) (a3 : Int32) : Option (Int32 × am_T) :=
  am_g (am_in (a3 + (nI 1)) L) (am_g (am_in (a3 + (nI 2)) L) (am_g (am_in (a3 + (nI 3)) L) ((X_share τ (xs ((a3 + (nI 1)).toNatClampNeg)) (xs ((a3 + (nI 2)).toNatClampNeg)) (xs ((a3 + (nI 3)).toNatClampNeg))).bind (fun x11 =>
  am_g (am_in (a3 + (nI 1)) L) (am_g (am_in (a3 + (nI 2)) L) (am_g (am_in (a3 + (nI 3)) L) ((M_share x11.2 (xs ((a3 + (nI 1)).toNatClampNeg)) (xs ((a3 + (nI 2)).toNatClampNeg)) (xs ((a3 + (nI 3)).toNatClampNeg))).bind (fun x12 =>
  if x11.1 = x12.1 then
  (k18 x12.2 (a3 + (nI 4)))
else
  (some ((nI 0), x12.2))))))))))
set_option maxRecDepth 20000 in
theorem ok_law_415 {L : Nat} {xs : Nat → Int32} {X : am_X} {τ' : am_T} (hF : am_F X "ShareHouseLaw" cL_law 4) (hR : am_R X 12 261) (hB : am_L X L xs) {k18 : am_T → Int32 → Option (Int32 × am_T)} (hk18 : ∀ (τ : am_T) (a3 : Int32), k18 τ a3 = some (nI 1, τ') → am_W X 4 (18, [(0, .ref 1200), (1, .ref 0), (2, .ref 140), (3, .int a3)], [], am_D τ)) {τ : am_T} {a3 : Int32} (h : law_415 L xs k18 τ a3 = some (nI 1, τ')) : am_W X 4 (415, [(0, .ref 1200), (1, .ref 0), (2, .ref 140), (3, .int a3)], [], am_D τ) := by
  unfold law_415 at h
  refine am_seg s_law_42 (y := (420, [(0, .ref 1200), (1, .ref 0), (2, .ref 140), (3, .int a3)], [.int (a3 + (nI 1)), .ref 1200, .ref 0], am_D τ)) hF t_s_law_42 rfl rfl ?_
  refine am_gd h (fun hi h => ?_)
  refine am_sald (j := ((a3 + (nI 1)).toNatClampNeg)) d_L_law_420 hB.1 hi rfl hF ?_
  refine am_seg s_law_43 (y := (425, [(0, .ref 1200), (1, .ref 0), (2, .ref 140), (3, .int a3)], [.int (a3 + (nI 2)), .ref 1200, .int (xs ((a3 + (nI 1)).toNatClampNeg)), .ref 0], am_D τ)) hF t_s_law_43 rfl rfl ?_
  refine am_gd h (fun hi h => ?_)
  refine am_sald (j := ((a3 + (nI 2)).toNatClampNeg)) d_L_law_425 hB.1 hi rfl hF ?_
  refine am_seg s_law_44 (y := (430, [(0, .ref 1200), (1, .ref 0), (2, .ref 140), (3, .int a3)], [.int (a3 + (nI 3)), .ref 1200, .int (xs ((a3 + (nI 2)).toNatClampNeg)), .int (xs ((a3 + (nI 1)).toNatClampNeg)), .ref 0], am_D τ)) hF t_s_law_44 rfl rfl ?_
  refine am_gd h (fun hi h => ?_)
  refine am_sald (j := ((a3 + (nI 3)).toNatClampNeg)) d_L_law_430 hB.1 hi rfl hF ?_
  refine am_bd h (fun x11 hx h => ?_)
  refine am_callV (As := [.int (xs ((a3 + (nI 1)).toNatClampNeg)), .int (xs ((a3 + (nI 2)).toNatClampNeg)), .int (xs ((a3 + (nI 3)).toNatClampNeg))]) (r := (some (.int x11.1))) (st := []) (σ' := am_D x11.2) (ci := 11) hF hR d_L_law_431 (c_X_share (τ' := x11.2) hx) (Nat.le_refl _) (Nat.le_refl _) wl_L_39 wi_yX11_share we_yX11_share wn_ShareHouse wc_yX11_share (Nat.le_of_ble_eq_true rfl) (Nat.le_of_ble_eq_true rfl) rfl rfl wy_yX11_share rfl ⟨by decide, by decide⟩ (Nat.le_of_ble_eq_true rfl) ?_
  refine am_seg s_law_45 (y := (439, [(0, .ref 1200), (1, .ref 0), (2, .ref 140), (3, .int a3)], [.int (a3 + (nI 1)), .ref 1200, .ref 140, .int x11.1], am_D x11.2)) hF t_s_law_45 rfl rfl ?_
  refine am_gd h (fun hi h => ?_)
  refine am_sald (j := ((a3 + (nI 1)).toNatClampNeg)) d_L_law_439 hB.1 hi rfl hF ?_
  refine am_seg s_law_46 (y := (444, [(0, .ref 1200), (1, .ref 0), (2, .ref 140), (3, .int a3)], [.int (a3 + (nI 2)), .ref 1200, .int (xs ((a3 + (nI 1)).toNatClampNeg)), .ref 140, .int x11.1], am_D x11.2)) hF t_s_law_46 rfl rfl ?_
  refine am_gd h (fun hi h => ?_)
  refine am_sald (j := ((a3 + (nI 2)).toNatClampNeg)) d_L_law_444 hB.1 hi rfl hF ?_
  refine am_seg s_law_47 (y := (449, [(0, .ref 1200), (1, .ref 0), (2, .ref 140), (3, .int a3)], [.int (a3 + (nI 3)), .ref 1200, .int (xs ((a3 + (nI 2)).toNatClampNeg)), .int (xs ((a3 + (nI 1)).toNatClampNeg)), .ref 140, .int x11.1], am_D x11.2)) hF t_s_law_47 rfl rfl ?_
  refine am_gd h (fun hi h => ?_)
  refine am_sald (j := ((a3 + (nI 3)).toNatClampNeg)) d_L_law_449 hB.1 hi rfl hF ?_
  refine am_bd h (fun x12 hx h => ?_)
  refine am_callV (As := [.int (xs ((a3 + (nI 1)).toNatClampNeg)), .int (xs ((a3 + (nI 2)).toNatClampNeg)), .int (xs ((a3 + (nI 3)).toNatClampNeg))]) (r := (some (.int x12.1))) (st := [.int x11.1]) (σ' := am_D x12.2) (ci := 12) hF hR d_L_law_450 (c_M_share (τ' := x12.2) hx) (Nat.le_refl _) (Nat.le_refl _) wl_L_42 wi_yX12_share we_yX12_share wn_ShareHouseModel wc_yX12_share (Nat.le_of_ble_eq_true rfl) (Nat.le_of_ble_eq_true rfl) rfl rfl wy_yX12_share rfl ⟨by decide, by decide⟩ (Nat.le_of_ble_eq_true rfl) ?_
  refine am_ite h (fun hc h => ?_) (fun hc h => ?_)
  · refine am_icmp_eq_t (t := 1448) d_L_law_453 (by decide) hc hF ?_
    refine am_seg s_law_48 (y := (18, [(3, .int (a3 + (nI 4))), (0, .ref 1200), (1, .ref 0), (2, .ref 140)], [], am_D x12.2)) hF t_s_law_48 rfl rfl ?_
    refine am_pick [1, 2, 3, 0] rfl ?_
    exact hk18 _ _ h
  · refine am_icmp_eq_f (t := 1448) d_L_law_453 (by decide) hc hF ?_
    refine am_seg s_law_49 (y := (457, [(0, .ref 1200), (1, .ref 0), (2, .ref 140), (3, .int a3)], [.int (nI 0)], am_D x12.2)) hF t_s_law_49 rfl rfl ?_
    exact absurd (am_pair h).1 (by decide)
def law_458 (L : Nat) (xs : Nat → Int32) (k18 : am_T → Int32 → Option (Int32 × am_T)) (τ : am_T) (a3 : Int32) : Option (Int32 × am_T) :=
  am_g (am_in (a3 + (nI 1)) L) (am_g (am_in (a3 + (nI 2)) L) ((X_sum τ (xs ((a3 + (nI 1)).toNatClampNeg)) (xs ((a3 + (nI 2)).toNatClampNeg))).bind (fun x13 =>
  am_g (am_in (a3 + (nI 1)) L) (am_g (am_in (a3 + (nI 2)) L) ((M_sum x13.2 (xs ((a3 + (nI 1)).toNatClampNeg)) (xs ((a3 + (nI 2)).toNatClampNeg))).bind (fun x14 =>
  if (lg_cmp x13.1 x14.1) = 0 then
  (k18 x14.2 (a3 + (nI 4)))
else
  (some ((nI 0), x14.2))))))))
set_option maxRecDepth 20000 in
theorem ok_law_458 {L : Nat} {xs : Nat → Int32} {X : am_X} {τ' : am_T} (hF : am_F X "ShareHouseLaw" cL_law 4) (hR : am_R X 12 261) (hB : am_L X L xs) {k18 : am_T → Int32 → Option (Int32 × am_T)} (hk18 : ∀ (τ : am_T) (a3 : Int32), k18 τ a3 = some (nI 1, τ') → am_W X 4 (18, [(0, .ref 1200), (1, .ref 0), (2, .ref 140), (3, .int a3)], [], am_D τ)) {τ : am_T} {a3 : Int32} (h : law_458 L xs k18 τ a3 = some (nI 1, τ')) : am_W X 4 (458, [(0, .ref 1200), (1, .ref 0), (2, .ref 140), (3, .int a3)], [], am_D τ) := by
  unfold law_458 at h
  refine am_seg s_law_50 (y := (463, [(0, .ref 1200), (1, .ref 0), (2, .ref 140), (3, .int a3)], [.int (a3 + (nI 1)), .ref 1200, .ref 0], am_D τ)) hF t_s_law_50 rfl rfl ?_
  refine am_gd h (fun hi h => ?_)
  refine am_sald (j := ((a3 + (nI 1)).toNatClampNeg)) d_L_law_463 hB.1 hi rfl hF ?_
  refine am_seg s_law_51 (y := (468, [(0, .ref 1200), (1, .ref 0), (2, .ref 140), (3, .int a3)], [.int (a3 + (nI 2)), .ref 1200, .int (xs ((a3 + (nI 1)).toNatClampNeg)), .ref 0], am_D τ)) hF t_s_law_51 rfl rfl ?_
  refine am_gd h (fun hi h => ?_)
  refine am_sald (j := ((a3 + (nI 2)).toNatClampNeg)) d_L_law_468 hB.1 hi rfl hF ?_
  refine am_bd h (fun x13 hx h => ?_)
  refine am_callV (As := [.int (xs ((a3 + (nI 1)).toNatClampNeg)), .int (xs ((a3 + (nI 2)).toNatClampNeg))]) (r := (some (.long x13.1))) (st := []) (σ' := am_D x13.2) (ci := 11) hF hR d_L_law_469 (c_X_sum (τ' := x13.2) hx) (Nat.le_refl _) (Nat.le_refl _) wl_L_43 wi_yX11_sum we_yX11_sum wn_ShareHouse wc_yX11_sum (Nat.le_of_ble_eq_true rfl) (Nat.le_of_ble_eq_true rfl) rfl rfl wy_yX11_sum rfl ⟨by decide, by decide⟩ (Nat.le_of_ble_eq_true rfl) ?_
  refine am_seg s_law_52 (y := (477, [(0, .ref 1200), (1, .ref 0), (2, .ref 140), (3, .int a3)], [.int (a3 + (nI 1)), .ref 1200, .ref 140, .long x13.1], am_D x13.2)) hF t_s_law_52 rfl rfl ?_
  refine am_gd h (fun hi h => ?_)
  refine am_sald (j := ((a3 + (nI 1)).toNatClampNeg)) d_L_law_477 hB.1 hi rfl hF ?_
  refine am_seg s_law_53 (y := (482, [(0, .ref 1200), (1, .ref 0), (2, .ref 140), (3, .int a3)], [.int (a3 + (nI 2)), .ref 1200, .int (xs ((a3 + (nI 1)).toNatClampNeg)), .ref 140, .long x13.1], am_D x13.2)) hF t_s_law_53 rfl rfl ?_
  refine am_gd h (fun hi h => ?_)
  refine am_sald (j := ((a3 + (nI 2)).toNatClampNeg)) d_L_law_482 hB.1 hi rfl hF ?_
  refine am_bd h (fun x14 hx h => ?_)
  refine am_callV (As := [.int (xs ((a3 + (nI 1)).toNatClampNeg)), .int (xs ((a3 + (nI 2)).toNatClampNeg))]) (r := (some (.long x14.1))) (st := [.long x13.1]) (σ' := am_D x14.2) (ci := 12) hF hR d_L_law_483 (c_M_sum (τ' := x14.2) hx) (Nat.le_refl _) (Nat.le_refl _) wl_L_47 wi_yX12_sum we_yX12_sum wn_ShareHouseModel wc_yX12_sum (Nat.le_of_ble_eq_true rfl) (Nat.le_of_ble_eq_true rfl) rfl rfl wy_yX12_sum rfl ⟨by decide, by decide⟩ (Nat.le_of_ble_eq_true rfl) ?_
  refine am_seg s_law_54 (y := (487, [(0, .ref 1200), (1, .ref 0), (2, .ref 140), (3, .int a3)], [.int (lg_cmp x13.1 x14.1)], am_D x14.2)) hF t_s_law_54 rfl rfl ?_
  refine am_ite h (fun hc h => ?_) (fun hc h => ?_)
  · refine am_if_eq_t (t := 1448) d_L_law_487 (by decide) hc hF ?_
    refine am_seg s_law_55 (y := (18, [(3, .int (a3 + (nI 4))), (0, .ref 1200), (1, .ref 0), (2, .ref 140)], [], am_D x14.2)) hF t_s_law_55 rfl rfl ?_
    refine am_pick [1, 2, 3, 0] rfl ?_
    exact hk18 _ _ h
  · refine am_if_eq_f (t := 1448) d_L_law_487 (by decide) hc hF ?_
    refine am_seg s_law_56 (y := (491, [(0, .ref 1200), (1, .ref 0), (2, .ref 140), (3, .int a3)], [.int (nI 0)], am_D x14.2)) hF t_s_law_56 rfl rfl ?_
    exact absurd (am_pair h).1 (by decide)
def law_492 (L : Nat) (xs : Nat → Int32) (k18 : am_T → Int32 → Option (Int32 × am_T)) (τ : am_T) (a3 : Int32) : Option (Int32 × am_T) :=
  am_g (am_in (a3 + (nI 1)) L) (am_g (am_in (a3 + (nI 2)) L) ((X_law τ (xs ((a3 + (nI 1)).toNatClampNeg)) (xs ((a3 + (nI 2)).toNatClampNeg))).bind (fun x15 =>
  am_g (am_in (a3 + (nI 1)) L) (am_g (am_in (a3 + (nI 2)) L) ((M_law x15.2 (xs ((a3 + (nI 1)).toNatClampNeg)) (xs ((a3 + (nI 2)).toNatClampNeg))).bind (fun x16 =>
  if x15.1 = x16.1 then
  (k18 x16.2 (a3 + (nI 4)))
else
  (some ((nI 0), x16.2))))))))
set_option maxRecDepth 20000 in
theorem ok_law_492 {L : Nat} {xs : Nat → Int32} {X : am_X} {τ' : am_T} (hF : am_F X "ShareHouseLaw" cL_law 4) (hR : am_R X 12 261) (hB : am_L X L xs) {k18 : am_T → Int32 → Option (Int32 × am_T)} (hk18 : ∀ (τ : am_T) (a3 : Int32), k18 τ a3 = some (nI 1, τ') → am_W X 4 (18, [(0, .ref 1200), (1, .ref 0), (2, .ref 140), (3, .int a3)], [], am_D τ)) {τ : am_T} {a3 : Int32} (h : law_492 L xs k18 τ a3 = some (nI 1, τ')) : am_W X 4 (492, [(0, .ref 1200), (1, .ref 0), (2, .ref 140), (3, .int a3)], [], am_D τ) := by
  unfold law_492 at h
  refine am_seg s_law_57 (y := (497, [(0, .ref 1200), (1, .ref 0), (2, .ref 140), (3, .int a3)], [.int (a3 + (nI 1)), .ref 1200, .ref 0], am_D τ)) hF t_s_law_57 rfl rfl ?_
  refine am_gd h (fun hi h => ?_)
  refine am_sald (j := ((a3 + (nI 1)).toNatClampNeg)) d_L_law_497 hB.1 hi rfl hF ?_
  refine am_seg s_law_58 (y := (502, [(0, .ref 1200), (1, .ref 0), (2, .ref 140), (3, .int a3)], [.int (a3 + (nI 2)), .ref 1200, .int (xs ((a3 + (nI 1)).toNatClampNeg)), .ref 0], am_D τ)) hF t_s_law_58 rfl rfl ?_
  refine am_gd h (fun hi h => ?_)
  refine am_sald (j := ((a3 + (nI 2)).toNatClampNeg)) d_L_law_502 hB.1 hi rfl hF ?_
  refine am_bd h (fun x15 hx h => ?_)
  refine am_callV (As := [.int (xs ((a3 + (nI 1)).toNatClampNeg)), .int (xs ((a3 + (nI 2)).toNatClampNeg))]) (r := (some (.int x15.1))) (st := []) (σ' := am_D x15.2) (ci := 11) hF hR d_L_law_503 (c_X_law (τ' := x15.2) hx) (Nat.le_refl _) (Nat.le_refl _) wl_L_48 wi_yX11_law we_yX11_law wn_ShareHouse wc_yX11_law (Nat.le_of_ble_eq_true rfl) (Nat.le_of_ble_eq_true rfl) rfl rfl wy_yX11_law rfl ⟨by decide, by decide⟩ (Nat.le_of_ble_eq_true rfl) ?_
  refine am_seg s_law_59 (y := (511, [(0, .ref 1200), (1, .ref 0), (2, .ref 140), (3, .int a3)], [.int (a3 + (nI 1)), .ref 1200, .ref 140, .int x15.1], am_D x15.2)) hF t_s_law_59 rfl rfl ?_
  refine am_gd h (fun hi h => ?_)
  refine am_sald (j := ((a3 + (nI 1)).toNatClampNeg)) d_L_law_511 hB.1 hi rfl hF ?_
  refine am_seg s_law_60 (y := (516, [(0, .ref 1200), (1, .ref 0), (2, .ref 140), (3, .int a3)], [.int (a3 + (nI 2)), .ref 1200, .int (xs ((a3 + (nI 1)).toNatClampNeg)), .ref 140, .int x15.1], am_D x15.2)) hF t_s_law_60 rfl rfl ?_
  refine am_gd h (fun hi h => ?_)
  refine am_sald (j := ((a3 + (nI 2)).toNatClampNeg)) d_L_law_516 hB.1 hi rfl hF ?_
  refine am_bd h (fun x16 hx h => ?_)
  refine am_callV (As := [.int (xs ((a3 + (nI 1)).toNatClampNeg)), .int (xs ((a3 + (nI 2)).toNatClampNeg))]) (r := (some (.int x16.1))) (st := [.int x15.1]) (σ' := am_D x16.2) (ci := 12) hF hR d_L_law_517 (c_M_law (τ' := x16.2) hx) (Nat.le_refl _) (Nat.le_refl _) wl_L_52 wi_yX12_law we_yX12_law wn_ShareHouseModel wc_yX12_law (Nat.le_of_ble_eq_true rfl) (Nat.le_of_ble_eq_true rfl) rfl rfl wy_yX12_law rfl ⟨by decide, by decide⟩ (Nat.le_of_ble_eq_true rfl) ?_
  refine am_ite h (fun hc h => ?_) (fun hc h => ?_)
  · refine am_icmp_eq_t (t := 1448) d_L_law_520 (by decide) hc hF ?_
    refine am_seg s_law_61 (y := (18, [(3, .int (a3 + (nI 4))), (0, .ref 1200), (1, .ref 0), (2, .ref 140)], [], am_D x16.2)) hF t_s_law_61 rfl rfl ?_
    refine am_pick [1, 2, 3, 0] rfl ?_
    exact hk18 _ _ h
  · refine am_icmp_eq_f (t := 1448) d_L_law_520 (by decide) hc hF ?_
    refine am_seg s_law_62 (y := (524, [(0, .ref 1200), (1, .ref 0), (2, .ref 140), (3, .int a3)], [.int (nI 0)], am_D x16.2)) hF t_s_law_62 rfl rfl ?_
    exact absurd (am_pair h).1 (by decide)
def law_525 (L : Nat) (xs : Nat → Int32) (k18 : am_T → Int32 → Option (Int32 × am_T)) (τ : am_T) (a3 : Int32) : Option (Int32 × am_T) :=
  am_g (am_in (a3 + (nI 1)) L) (am_g (am_in (a3 + (nI 2)) L) ((X_rule τ (xs ((a3 + (nI 1)).toNatClampNeg)) (xs ((a3 + (nI 2)).toNatClampNeg))).bind (fun x17 =>
  am_g (am_in (a3 + (nI 1)) L) (am_g (am_in (a3 + (nI 2)) L) ((M_rule x17.2 (xs ((a3 + (nI 1)).toNatClampNeg)) (xs ((a3 + (nI 2)).toNatClampNeg))).bind (fun x18 =>
  if x17.1 = x18.1 then
  (k18 x18.2 (a3 + (nI 4)))
else
  (some ((nI 0), x18.2))))))))
set_option maxRecDepth 20000 in
theorem ok_law_525 {L : Nat} {xs : Nat → Int32} {X : am_X} {τ' : am_T} (hF : am_F X "ShareHouseLaw" cL_law 4) (hR : am_R X 12 261) (hB : am_L X L xs) {k18 : am_T → Int32 → Option (Int32 × am_T)} (hk18 : ∀ (τ : am_T) (a3 : Int32), k18 τ a3 = some (nI 1, τ') → am_W X 4 (18, [(0, .ref 1200), (1, .ref 0), (2, .ref 140), (3, .int a3)], [], am_D τ)) {τ : am_T} {a3 : Int32} (h : law_525 L xs k18 τ a3 = some (nI 1, τ')) : am_W X 4 (525, [(0, .ref 1200), (1, .ref 0), (2, .ref 140), (3, .int a3)], [], am_D τ) := by
  unfold law_525 at h
  refine am_seg s_law_63 (y := (530, [(0, .ref 1200), (1, .ref 0), (2, .ref 140), (3, .int a3)], [.int (a3 + (nI 1)), .ref 1200, .ref 0], am_D τ)) hF t_s_law_63 rfl rfl ?_
  refine am_gd h (fun hi h => ?_)
  refine am_sald (j := ((a3 + (nI 1)).toNatClampNeg)) d_L_law_530 hB.1 hi rfl hF ?_
  refine am_seg s_law_64 (y := (535, [(0, .ref 1200), (1, .ref 0), (2, .ref 140), (3, .int a3)], [.int (a3 + (nI 2)), .ref 1200, .int (xs ((a3 + (nI 1)).toNatClampNeg)), .ref 0], am_D τ)) hF t_s_law_64 rfl rfl ?_
  refine am_gd h (fun hi h => ?_)
  refine am_sald (j := ((a3 + (nI 2)).toNatClampNeg)) d_L_law_535 hB.1 hi rfl hF ?_
  refine am_bd h (fun x17 hx h => ?_)
  refine am_callV (As := [.int (xs ((a3 + (nI 1)).toNatClampNeg)), .int (xs ((a3 + (nI 2)).toNatClampNeg))]) (r := (some (.int x17.1))) (st := []) (σ' := am_D x17.2) (ci := 11) hF hR d_L_law_536 (c_X_rule (τ' := x17.2) hx) (Nat.le_refl _) (Nat.le_refl _) wl_L_53 wi_yX11_rule we_yX11_rule wn_ShareHouse wc_yX11_rule (Nat.le_of_ble_eq_true rfl) (Nat.le_of_ble_eq_true rfl) rfl rfl wy_yX11_rule rfl ⟨by decide, by decide⟩ (Nat.le_of_ble_eq_true rfl) ?_
  refine am_seg s_law_65 (y := (544, [(0, .ref 1200), (1, .ref 0), (2, .ref 140), (3, .int a3)], [.int (a3 + (nI 1)), .ref 1200, .ref 140, .int x17.1], am_D x17.2)) hF t_s_law_65 rfl rfl ?_
  refine am_gd h (fun hi h => ?_)
  refine am_sald (j := ((a3 + (nI 1)).toNatClampNeg)) d_L_law_544 hB.1 hi rfl hF ?_
  refine am_seg s_law_66 (y := (549, [(0, .ref 1200), (1, .ref 0), (2, .ref 140), (3, .int a3)], [.int (a3 + (nI 2)), .ref 1200, .int (xs ((a3 + (nI 1)).toNatClampNeg)), .ref 140, .int x17.1], am_D x17.2)) hF t_s_law_66 rfl rfl ?_
  refine am_gd h (fun hi h => ?_)
  refine am_sald (j := ((a3 + (nI 2)).toNatClampNeg)) d_L_law_549 hB.1 hi rfl hF ?_
  refine am_bd h (fun x18 hx h => ?_)
  refine am_callV (As := [.int (xs ((a3 + (nI 1)).toNatClampNeg)), .int (xs ((a3 + (nI 2)).toNatClampNeg))]) (r := (some (.int x18.1))) (st := [.int x17.1]) (σ' := am_D x18.2) (ci := 12) hF hR d_L_law_550 (c_M_rule (τ' := x18.2) hx) (Nat.le_refl _) (Nat.le_refl _) wl_L_56 wi_yX12_rule we_yX12_rule wn_ShareHouseModel wc_yX12_rule (Nat.le_of_ble_eq_true rfl) (Nat.le_of_ble_eq_true rfl) rfl rfl wy_yX12_rule rfl ⟨by decide, by decide⟩ (Nat.le_of_ble_eq_true rfl) ?_
  refine am_ite h (fun hc h => ?_) (fun hc h => ?_)
  · refine am_icmp_eq_t (t := 1448) d_L_law_553 (by decide) hc hF ?_
    refine am_seg s_law_67 (y := (18, [(3, .int (a3 + (nI 4))), (0, .ref 1200), (1, .ref 0), (2, .ref 140)], [], am_D x18.2)) hF t_s_law_67 rfl rfl ?_
    refine am_pick [1, 2, 3, 0] rfl ?_
    exact hk18 _ _ h
  · refine am_icmp_eq_f (t := 1448) d_L_law_553 (by decide) hc hF ?_
    refine am_seg s_law_68 (y := (557, [(0, .ref 1200), (1, .ref 0), (2, .ref 140), (3, .int a3)], [.int (nI 0)], am_D x18.2)) hF t_s_law_68 rfl rfl ?_
    exact absurd (am_pair h).1 (by decide)
def law_558 (L : Nat) (xs : Nat → Int32) (k18 : am_T → Int32 → Option (Int32 × am_T)) (τ : am_T) (a3 : Int32) : Option (Int32 × am_T) :=
  am_g (am_in (a3 + (nI 1)) L) (am_g (am_in (a3 + (nI 2)) L) (am_g (am_in (a3 + (nI 3)) L) ((X_cost τ (xs ((a3 + (nI 1)).toNatClampNeg)) (xs ((a3 + (nI 2)).toNatClampNeg)) (xs ((a3 + (nI 3)).toNatClampNeg))).bind (fun x19 =>
  am_g (am_in (a3 + (nI 1)) L) (am_g (am_in (a3 + (nI 2)) L) (am_g (am_in (a3 + (nI 3)) L) ((M_cost x19.2 (xs ((a3 + (nI 1)).toNatClampNeg)) (xs ((a3 + (nI 2)).toNatClampNeg)) (xs ((a3 + (nI 3)).toNatClampNeg))).bind (fun x20 =>
  if x19.1 = x20.1 then
  (k18 x20.2 (a3 + (nI 4)))
else
  (some ((nI 0), x20.2))))))))))
set_option maxRecDepth 20000 in
theorem ok_law_558 {L : Nat} {xs : Nat → Int32} {X : am_X} {τ' : am_T} (hF : am_F X "ShareHouseLaw" cL_law 4) (hR : am_R X 12 261) (hB : am_L X L xs) {k18 : am_T → Int32 → Option (Int32 × am_T)} (hk18 : ∀ (τ : am_T) (a3 : Int32), k18 τ a3 = some (nI 1, τ') → am_W X 4 (18, [(0, .ref 1200), (1, .ref 0), (2, .ref 140), (3, .int a3)], [], am_D τ)) {τ : am_T} {a3 : Int32} (h : law_558 L xs k18 τ a3 = some (nI 1, τ')) : am_W X 4 (558, [(0, .ref 1200), (1, .ref 0), (2, .ref 140), (3, .int a3)], [], am_D τ) := by
  unfold law_558 at h
  refine am_seg s_law_69 (y := (563, [(0, .ref 1200), (1, .ref 0), (2, .ref 140), (3, .int a3)], [.int (a3 + (nI 1)), .ref 1200, .ref 0], am_D τ)) hF t_s_law_69 rfl rfl ?_
  refine am_gd h (fun hi h => ?_)
  refine am_sald (j := ((a3 + (nI 1)).toNatClampNeg)) d_L_law_563 hB.1 hi rfl hF ?_
  refine am_seg s_law_70 (y := (568, [(0, .ref 1200), (1, .ref 0), (2, .ref 140), (3, .int a3)], [.int (a3 + (nI 2)), .ref 1200, .int (xs ((a3 + (nI 1)).toNatClampNeg)), .ref 0], am_D τ)) hF t_s_law_70 rfl rfl ?_
  refine am_gd h (fun hi h => ?_)
  refine am_sald (j := ((a3 + (nI 2)).toNatClampNeg)) d_L_law_568 hB.1 hi rfl hF ?_
  refine am_seg s_law_71 (y := (573, [(0, .ref 1200), (1, .ref 0), (2, .ref 140), (3, .int a3)], [.int (a3 + (nI 3)), .ref 1200, .int (xs ((a3 + (nI 2)).toNatClampNeg)), .int (xs ((a3 + (nI 1)).toNatClampNeg)), .ref 0], am_D τ)) hF t_s_law_71 rfl rfl ?_
  refine am_gd h (fun hi h => ?_)
  refine am_sald (j := ((a3 + (nI 3)).toNatClampNeg)) d_L_law_573 hB.1 hi rfl hF ?_
  refine am_bd h (fun x19 hx h => ?_)
  refine am_callV (As := [.int (xs ((a3 + (nI 1)).toNatClampNeg)), .int (xs ((a3 + (nI 2)).toNatClampNeg)), .int (xs ((a3 + (nI 3)).toNatClampNeg))]) (r := (some (.int x19.1))) (st := []) (σ' := am_D x19.2) (ci := 11) hF hR d_L_law_574 (c_X_cost (τ' := x19.2) hx) (Nat.le_refl _) (Nat.le_refl _) wl_L_57 wi_yX11_cost we_yX11_cost wn_ShareHouse wc_yX11_cost (Nat.le_of_ble_eq_true rfl) (Nat.le_of_ble_eq_true rfl) rfl rfl wy_yX11_cost rfl ⟨by decide, by decide⟩ (Nat.le_of_ble_eq_true rfl) ?_
  refine am_seg s_law_72 (y := (582, [(0, .ref 1200), (1, .ref 0), (2, .ref 140), (3, .int a3)], [.int (a3 + (nI 1)), .ref 1200, .ref 140, .int x19.1], am_D x19.2)) hF t_s_law_72 rfl rfl ?_
  refine am_gd h (fun hi h => ?_)
  refine am_sald (j := ((a3 + (nI 1)).toNatClampNeg)) d_L_law_582 hB.1 hi rfl hF ?_
  refine am_seg s_law_73 (y := (587, [(0, .ref 1200), (1, .ref 0), (2, .ref 140), (3, .int a3)], [.int (a3 + (nI 2)), .ref 1200, .int (xs ((a3 + (nI 1)).toNatClampNeg)), .ref 140, .int x19.1], am_D x19.2)) hF t_s_law_73 rfl rfl ?_
  refine am_gd h (fun hi h => ?_)
  refine am_sald (j := ((a3 + (nI 2)).toNatClampNeg)) d_L_law_587 hB.1 hi rfl hF ?_
  refine am_seg s_law_74 (y := (592, [(0, .ref 1200), (1, .ref 0), (2, .ref 140), (3, .int a3)], [.int (a3 + (nI 3)), .ref 1200, .int (xs ((a3 + (nI 2)).toNatClampNeg)), .int (xs ((a3 + (nI 1)).toNatClampNeg)), .ref 140, .int x19.1], am_D x19.2)) hF t_s_law_74 rfl rfl ?_
  refine am_gd h (fun hi h => ?_)
  refine am_sald (j := ((a3 + (nI 3)).toNatClampNeg)) d_L_law_592 hB.1 hi rfl hF ?_
  refine am_bd h (fun x20 hx h => ?_)
  refine am_callV (As := [.int (xs ((a3 + (nI 1)).toNatClampNeg)), .int (xs ((a3 + (nI 2)).toNatClampNeg)), .int (xs ((a3 + (nI 3)).toNatClampNeg))]) (r := (some (.int x20.1))) (st := [.int x19.1]) (σ' := am_D x20.2) (ci := 12) hF hR d_L_law_593 (c_M_cost (τ' := x20.2) hx) (Nat.le_refl _) (Nat.le_refl _) wl_L_60 wi_yX12_cost we_yX12_cost wn_ShareHouseModel wc_yX12_cost (Nat.le_of_ble_eq_true rfl) (Nat.le_of_ble_eq_true rfl) rfl rfl wy_yX12_cost rfl ⟨by decide, by decide⟩ (Nat.le_of_ble_eq_true rfl) ?_
  refine am_ite h (fun hc h => ?_) (fun hc h => ?_)
  · refine am_icmp_eq_t (t := 1448) d_L_law_596 (by decide) hc hF ?_
    refine am_seg s_law_75 (y := (18, [(3, .int (a3 + (nI 4))), (0, .ref 1200), (1, .ref 0), (2, .ref 140)], [], am_D x20.2)) hF t_s_law_75 rfl rfl ?_
    refine am_pick [1, 2, 3, 0] rfl ?_
    exact hk18 _ _ h
  · refine am_icmp_eq_f (t := 1448) d_L_law_596 (by decide) hc hF ?_
    refine am_seg s_law_76 (y := (600, [(0, .ref 1200), (1, .ref 0), (2, .ref 140), (3, .int a3)], [.int (nI 0)], am_D x20.2)) hF t_s_law_76 rfl rfl ?_
    exact absurd (am_pair h).1 (by decide)
def law_601 (L : Nat) (xs : Nat → Int32) (k18 : am_T → Int32 → Option (Int32 × am_T)) (τ : am_T) (a3 : Int32) : Option (Int32 × am_T) :=
  am_g (am_in (a3 + (nI 1)) L) (am_g (am_in (a3 + (nI 2)) L) ((X_right τ (xs ((a3 + (nI 1)).toNatClampNeg)) (xs ((a3 + (nI 2)).toNatClampNeg))).bind (fun x21 =>
  am_g (am_in (a3 + (nI 1)) L) (am_g (am_in (a3 + (nI 2)) L) ((M_right x21.2 (xs ((a3 + (nI 1)).toNatClampNeg)) (xs ((a3 + (nI 2)).toNatClampNeg))).bind (fun x22 =>
  if x21.1 = x22.1 then
  (k18 x22.2 (a3 + (nI 4)))
else
  (some ((nI 0), x22.2))))))))
set_option maxRecDepth 20000 in
theorem ok_law_601 {L : Nat} {xs : Nat → Int32} {X : am_X} {τ' : am_T} (hF : am_F X "ShareHouseLaw" cL_law 4) (hR : am_R X 12 261) (hB : am_L X L xs) {k18 : am_T → Int32 → Option (Int32 × am_T)} (hk18 : ∀ (τ : am_T) (a3 : Int32), k18 τ a3 = some (nI 1, τ') → am_W X 4 (18, [(0, .ref 1200), (1, .ref 0), (2, .ref 140), (3, .int a3)], [], am_D τ)) {τ : am_T} {a3 : Int32} (h : law_601 L xs k18 τ a3 = some (nI 1, τ')) : am_W X 4 (601, [(0, .ref 1200), (1, .ref 0), (2, .ref 140), (3, .int a3)], [], am_D τ) := by
  unfold law_601 at h
  refine am_seg s_law_77 (y := (606, [(0, .ref 1200), (1, .ref 0), (2, .ref 140), (3, .int a3)], [.int (a3 + (nI 1)), .ref 1200, .ref 0], am_D τ)) hF t_s_law_77 rfl rfl ?_
  refine am_gd h (fun hi h => ?_)
  refine am_sald (j := ((a3 + (nI 1)).toNatClampNeg)) d_L_law_606 hB.1 hi rfl hF ?_
  refine am_seg s_law_78 (y := (611, [(0, .ref 1200), (1, .ref 0), (2, .ref 140), (3, .int a3)], [.int (a3 + (nI 2)), .ref 1200, .int (xs ((a3 + (nI 1)).toNatClampNeg)), .ref 0], am_D τ)) hF t_s_law_78 rfl rfl ?_
  refine am_gd h (fun hi h => ?_)
  refine am_sald (j := ((a3 + (nI 2)).toNatClampNeg)) d_L_law_611 hB.1 hi rfl hF ?_
  refine am_bd h (fun x21 hx h => ?_)
  refine am_callV (As := [.int (xs ((a3 + (nI 1)).toNatClampNeg)), .int (xs ((a3 + (nI 2)).toNatClampNeg))]) (r := (some (.int x21.1))) (st := []) (σ' := am_D x21.2) (ci := 11) hF hR d_L_law_612 (c_X_right (τ' := x21.2) hx) (Nat.le_refl _) (Nat.le_refl _) wl_L_61 wi_yX11_right we_yX11_right wn_ShareHouse wc_yX11_right (Nat.le_of_ble_eq_true rfl) (Nat.le_of_ble_eq_true rfl) rfl rfl wy_yX11_right rfl ⟨by decide, by decide⟩ (Nat.le_of_ble_eq_true rfl) ?_
  refine am_seg s_law_79 (y := (620, [(0, .ref 1200), (1, .ref 0), (2, .ref 140), (3, .int a3)], [.int (a3 + (nI 1)), .ref 1200, .ref 140, .int x21.1], am_D x21.2)) hF t_s_law_79 rfl rfl ?_
  refine am_gd h (fun hi h => ?_)
  refine am_sald (j := ((a3 + (nI 1)).toNatClampNeg)) d_L_law_620 hB.1 hi rfl hF ?_
  refine am_seg s_law_80 (y := (625, [(0, .ref 1200), (1, .ref 0), (2, .ref 140), (3, .int a3)], [.int (a3 + (nI 2)), .ref 1200, .int (xs ((a3 + (nI 1)).toNatClampNeg)), .ref 140, .int x21.1], am_D x21.2)) hF t_s_law_80 rfl rfl ?_
  refine am_gd h (fun hi h => ?_)
  refine am_sald (j := ((a3 + (nI 2)).toNatClampNeg)) d_L_law_625 hB.1 hi rfl hF ?_
  refine am_bd h (fun x22 hx h => ?_)
  refine am_callV (As := [.int (xs ((a3 + (nI 1)).toNatClampNeg)), .int (xs ((a3 + (nI 2)).toNatClampNeg))]) (r := (some (.int x22.1))) (st := [.int x21.1]) (σ' := am_D x22.2) (ci := 12) hF hR d_L_law_626 (c_M_right (τ' := x22.2) hx) (Nat.le_refl _) (Nat.le_refl _) wl_L_64 wi_yX12_right we_yX12_right wn_ShareHouseModel wc_yX12_right (Nat.le_of_ble_eq_true rfl) (Nat.le_of_ble_eq_true rfl) rfl rfl wy_yX12_right rfl ⟨by decide, by decide⟩ (Nat.le_of_ble_eq_true rfl) ?_
  refine am_ite h (fun hc h => ?_) (fun hc h => ?_)
  · refine am_icmp_eq_t (t := 1448) d_L_law_629 (by decide) hc hF ?_
    refine am_seg s_law_81 (y := (18, [(3, .int (a3 + (nI 4))), (0, .ref 1200), (1, .ref 0), (2, .ref 140)], [], am_D x22.2)) hF t_s_law_81 rfl rfl ?_
    refine am_pick [1, 2, 3, 0] rfl ?_
    exact hk18 _ _ h
  · refine am_icmp_eq_f (t := 1448) d_L_law_629 (by decide) hc hF ?_
    refine am_seg s_law_82 (y := (633, [(0, .ref 1200), (1, .ref 0), (2, .ref 140), (3, .int a3)], [.int (nI 0)], am_D x22.2)) hF t_s_law_82 rfl rfl ?_
    exact absurd (am_pair h).1 (by decide)
def law_634 (L : Nat) (xs : Nat → Int32) (k18 : am_T → Int32 → Option (Int32 × am_T)) (τ : am_T) (a3 : Int32) : Option (Int32 × am_T) :=
  am_g (am_in (a3 + (nI 1)) L) (am_g (am_in (a3 + (nI 2)) L) ((X_costOf τ (xs ((a3 + (nI 1)).toNatClampNeg)) (xs ((a3 + (nI 2)).toNatClampNeg))).bind (fun x23 =>
  am_g (am_in (a3 + (nI 1)) L) (am_g (am_in (a3 + (nI 2)) L) ((M_costOf x23.2 (xs ((a3 + (nI 1)).toNatClampNeg)) (xs ((a3 + (nI 2)).toNatClampNeg))).bind (fun x24 =>
  if x23.1 = x24.1 then
  (k18 x24.2 (a3 + (nI 4)))
else
  (some ((nI 0), x24.2))))))))
set_option maxRecDepth 20000 in
theorem ok_law_634 {L : Nat} {xs : Nat → Int32} {X : am_X} {τ' : am_T} (hF : am_F X "ShareHouseLaw" cL_law 4) (hR : am_R X 12 261) (hB : am_L X L xs) {k18 : am_T → Int32 → Option (Int32 × am_T)} (hk18 : ∀ (τ : am_T) (a3 : Int32), k18 τ a3 = some (nI 1, τ') → am_W X 4 (18, [(0, .ref 1200), (1, .ref 0), (2, .ref 140), (3, .int a3)], [], am_D τ)) {τ : am_T} {a3 : Int32} (h : law_634 L xs k18 τ a3 = some (nI 1, τ')) : am_W X 4 (634, [(0, .ref 1200), (1, .ref 0), (2, .ref 140), (3, .int a3)], [], am_D τ) := by
  unfold law_634 at h
  refine am_seg s_law_83 (y := (639, [(0, .ref 1200), (1, .ref 0), (2, .ref 140), (3, .int a3)], [.int (a3 + (nI 1)), .ref 1200, .ref 0], am_D τ)) hF t_s_law_83 rfl rfl ?_
  refine am_gd h (fun hi h => ?_)
  refine am_sald (j := ((a3 + (nI 1)).toNatClampNeg)) d_L_law_639 hB.1 hi rfl hF ?_
  refine am_seg s_law_84 (y := (644, [(0, .ref 1200), (1, .ref 0), (2, .ref 140), (3, .int a3)], [.int (a3 + (nI 2)), .ref 1200, .int (xs ((a3 + (nI 1)).toNatClampNeg)), .ref 0], am_D τ)) hF t_s_law_84 rfl rfl ?_
  refine am_gd h (fun hi h => ?_)
  refine am_sald (j := ((a3 + (nI 2)).toNatClampNeg)) d_L_law_644 hB.1 hi rfl hF ?_
  refine am_bd h (fun x23 hx h => ?_)
  refine am_callV (As := [.int (xs ((a3 + (nI 1)).toNatClampNeg)), .int (xs ((a3 + (nI 2)).toNatClampNeg))]) (r := (some (.int x23.1))) (st := []) (σ' := am_D x23.2) (ci := 11) hF hR d_L_law_645 (c_X_costOf (τ' := x23.2) hx) (Nat.le_refl _) (Nat.le_refl _) wl_L_65 wi_yX11_costOf we_yX11_costOf wn_ShareHouse wc_yX11_costOf (Nat.le_of_ble_eq_true rfl) (Nat.le_of_ble_eq_true rfl) rfl rfl wy_yX11_costOf rfl ⟨by decide, by decide⟩ (Nat.le_of_ble_eq_true rfl) ?_
  refine am_seg s_law_85 (y := (653, [(0, .ref 1200), (1, .ref 0), (2, .ref 140), (3, .int a3)], [.int (a3 + (nI 1)), .ref 1200, .ref 140, .int x23.1], am_D x23.2)) hF t_s_law_85 rfl rfl ?_
  refine am_gd h (fun hi h => ?_)
  refine am_sald (j := ((a3 + (nI 1)).toNatClampNeg)) d_L_law_653 hB.1 hi rfl hF ?_
  refine am_seg s_law_86 (y := (658, [(0, .ref 1200), (1, .ref 0), (2, .ref 140), (3, .int a3)], [.int (a3 + (nI 2)), .ref 1200, .int (xs ((a3 + (nI 1)).toNatClampNeg)), .ref 140, .int x23.1], am_D x23.2)) hF t_s_law_86 rfl rfl ?_
  refine am_gd h (fun hi h => ?_)
  refine am_sald (j := ((a3 + (nI 2)).toNatClampNeg)) d_L_law_658 hB.1 hi rfl hF ?_
  refine am_bd h (fun x24 hx h => ?_)
  refine am_callV (As := [.int (xs ((a3 + (nI 1)).toNatClampNeg)), .int (xs ((a3 + (nI 2)).toNatClampNeg))]) (r := (some (.int x24.1))) (st := [.int x23.1]) (σ' := am_D x24.2) (ci := 12) hF hR d_L_law_659 (c_M_costOf (τ' := x24.2) hx) (Nat.le_refl _) (Nat.le_refl _) wl_L_68 wi_yX12_costOf we_yX12_costOf wn_ShareHouseModel wc_yX12_costOf (Nat.le_of_ble_eq_true rfl) (Nat.le_of_ble_eq_true rfl) rfl rfl wy_yX12_costOf rfl ⟨by decide, by decide⟩ (Nat.le_of_ble_eq_true rfl) ?_
  refine am_ite h (fun hc h => ?_) (fun hc h => ?_)
  · refine am_icmp_eq_t (t := 1448) d_L_law_662 (by decide) hc hF ?_
    refine am_seg s_law_87 (y := (18, [(3, .int (a3 + (nI 4))), (0, .ref 1200), (1, .ref 0), (2, .ref 140)], [], am_D x24.2)) hF t_s_law_87 rfl rfl ?_
    refine am_pick [1, 2, 3, 0] rfl ?_
    exact hk18 _ _ h
  · refine am_icmp_eq_f (t := 1448) d_L_law_662 (by decide) hc hF ?_
    refine am_seg s_law_88 (y := (666, [(0, .ref 1200), (1, .ref 0), (2, .ref 140), (3, .int a3)], [.int (nI 0)], am_D x24.2)) hF t_s_law_88 rfl rfl ?_
    exact absurd (am_pair h).1 (by decide)
def law_667 (L : Nat) (xs : Nat → Int32) (k18 : am_T → Int32 → Option (Int32 × am_T)) (τ : am_T) (a3 : Int32) : Option (Int32 × am_T) :=
  am_g (am_in (a3 + (nI 1)) L) (am_g (am_in (a3 + (nI 2)) L) (am_g (am_in (a3 + (nI 3)) L) ((X_part τ (xs ((a3 + (nI 1)).toNatClampNeg)) (xs ((a3 + (nI 2)).toNatClampNeg)) (xs ((a3 + (nI 3)).toNatClampNeg))).bind (fun x25 =>
  am_g (am_in (a3 + (nI 1)) L) (am_g (am_in (a3 + (nI 2)) L) (am_g (am_in (a3 + (nI 3)) L) ((M_part x25.2 (xs ((a3 + (nI 1)).toNatClampNeg)) (xs ((a3 + (nI 2)).toNatClampNeg)) (xs ((a3 + (nI 3)).toNatClampNeg))).bind (fun x26 =>
  if x25.1 = x26.1 then
  (k18 x26.2 (a3 + (nI 4)))
else
  (some ((nI 0), x26.2))))))))))
set_option maxRecDepth 20000 in
theorem ok_law_667 {L : Nat} {xs : Nat → Int32} {X : am_X} {τ' : am_T} (hF : am_F X "ShareHouseLaw" cL_law 4) (hR : am_R X 12 261) (hB : am_L X L xs) {k18 : am_T → Int32 → Option (Int32 × am_T)} (hk18 : ∀ (τ : am_T) (a3 : Int32), k18 τ a3 = some (nI 1, τ') → am_W X 4 (18, [(0, .ref 1200), (1, .ref 0), (2, .ref 140), (3, .int a3)], [], am_D τ)) {τ : am_T} {a3 : Int32} (h : law_667 L xs k18 τ a3 = some (nI 1, τ')) : am_W X 4 (667, [(0, .ref 1200), (1, .ref 0), (2, .ref 140), (3, .int a3)], [], am_D τ) := by
  unfold law_667 at h
  refine am_seg s_law_89 (y := (672, [(0, .ref 1200), (1, .ref 0), (2, .ref 140), (3, .int a3)], [.int (a3 + (nI 1)), .ref 1200, .ref 0], am_D τ)) hF t_s_law_89 rfl rfl ?_
  refine am_gd h (fun hi h => ?_)
  refine am_sald (j := ((a3 + (nI 1)).toNatClampNeg)) d_L_law_672 hB.1 hi rfl hF ?_
  refine am_seg s_law_90 (y := (677, [(0, .ref 1200), (1, .ref 0), (2, .ref 140), (3, .int a3)], [.int (a3 + (nI 2)), .ref 1200, .int (xs ((a3 + (nI 1)).toNatClampNeg)), .ref 0], am_D τ)) hF t_s_law_90 rfl rfl ?_
  refine am_gd h (fun hi h => ?_)
  refine am_sald (j := ((a3 + (nI 2)).toNatClampNeg)) d_L_law_677 hB.1 hi rfl hF ?_
  refine am_seg s_law_91 (y := (682, [(0, .ref 1200), (1, .ref 0), (2, .ref 140), (3, .int a3)], [.int (a3 + (nI 3)), .ref 1200, .int (xs ((a3 + (nI 2)).toNatClampNeg)), .int (xs ((a3 + (nI 1)).toNatClampNeg)), .ref 0], am_D τ)) hF t_s_law_91 rfl rfl ?_
  refine am_gd h (fun hi h => ?_)
  refine am_sald (j := ((a3 + (nI 3)).toNatClampNeg)) d_L_law_682 hB.1 hi rfl hF ?_
  refine am_bd h (fun x25 hx h => ?_)
  refine am_callV (As := [.int (xs ((a3 + (nI 1)).toNatClampNeg)), .int (xs ((a3 + (nI 2)).toNatClampNeg)), .int (xs ((a3 + (nI 3)).toNatClampNeg))]) (r := (some (.int x25.1))) (st := []) (σ' := am_D x25.2) (ci := 11) hF hR d_L_law_683 (c_X_part (τ' := x25.2) hx) (Nat.le_refl _) (Nat.le_refl _) wl_L_69 wi_yX11_part we_yX11_part wn_ShareHouse wc_yX11_part (Nat.le_of_ble_eq_true rfl) (Nat.le_of_ble_eq_true rfl) rfl rfl wy_yX11_part rfl ⟨by decide, by decide⟩ (Nat.le_of_ble_eq_true rfl) ?_
  refine am_seg s_law_92 (y := (691, [(0, .ref 1200), (1, .ref 0), (2, .ref 140), (3, .int a3)], [.int (a3 + (nI 1)), .ref 1200, .ref 140, .int x25.1], am_D x25.2)) hF t_s_law_92 rfl rfl ?_
  refine am_gd h (fun hi h => ?_)
  refine am_sald (j := ((a3 + (nI 1)).toNatClampNeg)) d_L_law_691 hB.1 hi rfl hF ?_
  refine am_seg s_law_93 (y := (696, [(0, .ref 1200), (1, .ref 0), (2, .ref 140), (3, .int a3)], [.int (a3 + (nI 2)), .ref 1200, .int (xs ((a3 + (nI 1)).toNatClampNeg)), .ref 140, .int x25.1], am_D x25.2)) hF t_s_law_93 rfl rfl ?_
  refine am_gd h (fun hi h => ?_)
  refine am_sald (j := ((a3 + (nI 2)).toNatClampNeg)) d_L_law_696 hB.1 hi rfl hF ?_
  refine am_seg s_law_94 (y := (701, [(0, .ref 1200), (1, .ref 0), (2, .ref 140), (3, .int a3)], [.int (a3 + (nI 3)), .ref 1200, .int (xs ((a3 + (nI 2)).toNatClampNeg)), .int (xs ((a3 + (nI 1)).toNatClampNeg)), .ref 140, .int x25.1], am_D x25.2)) hF t_s_law_94 rfl rfl ?_
  refine am_gd h (fun hi h => ?_)
  refine am_sald (j := ((a3 + (nI 3)).toNatClampNeg)) d_L_law_701 hB.1 hi rfl hF ?_
  refine am_bd h (fun x26 hx h => ?_)
  refine am_callV (As := [.int (xs ((a3 + (nI 1)).toNatClampNeg)), .int (xs ((a3 + (nI 2)).toNatClampNeg)), .int (xs ((a3 + (nI 3)).toNatClampNeg))]) (r := (some (.int x26.1))) (st := [.int x25.1]) (σ' := am_D x26.2) (ci := 12) hF hR d_L_law_702 (c_M_part (τ' := x26.2) hx) (Nat.le_refl _) (Nat.le_refl _) wl_L_72 wi_yX12_part we_yX12_part wn_ShareHouseModel wc_yX12_part (Nat.le_of_ble_eq_true rfl) (Nat.le_of_ble_eq_true rfl) rfl rfl wy_yX12_part rfl ⟨by decide, by decide⟩ (Nat.le_of_ble_eq_true rfl) ?_
  refine am_ite h (fun hc h => ?_) (fun hc h => ?_)
  · refine am_icmp_eq_t (t := 1448) d_L_law_705 (by decide) hc hF ?_
    refine am_seg s_law_95 (y := (18, [(3, .int (a3 + (nI 4))), (0, .ref 1200), (1, .ref 0), (2, .ref 140)], [], am_D x26.2)) hF t_s_law_95 rfl rfl ?_
    refine am_pick [1, 2, 3, 0] rfl ?_
    exact hk18 _ _ h
  · refine am_icmp_eq_f (t := 1448) d_L_law_705 (by decide) hc hF ?_
    refine am_seg s_law_96 (y := (709, [(0, .ref 1200), (1, .ref 0), (2, .ref 140), (3, .int a3)], [.int (nI 0)], am_D x26.2)) hF t_s_law_96 rfl rfl ?_
    exact absurd (am_pair h).1 (by decide)
def law_710 (L : Nat) (xs : Nat → Int32) (k18 : am_T → Int32 → Option (Int32 × am_T)) (τ : am_T) (a3 : Int32) : Option (Int32 × am_T) :=
  am_g (am_in (a3 + (nI 1)) L) (am_g (am_in (a3 + (nI 2)) L) ((X_landlord τ (xs ((a3 + (nI 1)).toNatClampNeg)) (xs ((a3 + (nI 2)).toNatClampNeg))).bind (fun x27 =>
  am_g (am_in (a3 + (nI 1)) L) (am_g (am_in (a3 + (nI 2)) L) ((M_landlord x27.2 (xs ((a3 + (nI 1)).toNatClampNeg)) (xs ((a3 + (nI 2)).toNatClampNeg))).bind (fun x28 =>
  if x27.1 = x28.1 then
  (k18 x28.2 (a3 + (nI 4)))
else
  (some ((nI 0), x28.2))))))))
set_option maxRecDepth 20000 in
theorem ok_law_710 {L : Nat} {xs : Nat → Int32} {X : am_X} {τ' : am_T} (hF : am_F X "ShareHouseLaw" cL_law 4) (hR : am_R X 12 261) (hB : am_L X L xs) {k18 : am_T → Int32 → Option (Int32 × am_T)} (hk18 : ∀ (τ : am_T) (a3 : Int32), k18 τ a3 = some (nI 1, τ') → am_W X 4 (18, [(0, .ref 1200), (1, .ref 0), (2, .ref 140), (3, .int a3)], [], am_D τ)) {τ : am_T} {a3 : Int32} (h : law_710 L xs k18 τ a3 = some (nI 1, τ')) : am_W X 4 (710, [(0, .ref 1200), (1, .ref 0), (2, .ref 140), (3, .int a3)], [], am_D τ) := by
  unfold law_710 at h
  refine am_seg s_law_97 (y := (715, [(0, .ref 1200), (1, .ref 0), (2, .ref 140), (3, .int a3)], [.int (a3 + (nI 1)), .ref 1200, .ref 0], am_D τ)) hF t_s_law_97 rfl rfl ?_
  refine am_gd h (fun hi h => ?_)
  refine am_sald (j := ((a3 + (nI 1)).toNatClampNeg)) d_L_law_715 hB.1 hi rfl hF ?_
  refine am_seg s_law_98 (y := (720, [(0, .ref 1200), (1, .ref 0), (2, .ref 140), (3, .int a3)], [.int (a3 + (nI 2)), .ref 1200, .int (xs ((a3 + (nI 1)).toNatClampNeg)), .ref 0], am_D τ)) hF t_s_law_98 rfl rfl ?_
  refine am_gd h (fun hi h => ?_)
  refine am_sald (j := ((a3 + (nI 2)).toNatClampNeg)) d_L_law_720 hB.1 hi rfl hF ?_
  refine am_bd h (fun x27 hx h => ?_)
  refine am_callV (As := [.int (xs ((a3 + (nI 1)).toNatClampNeg)), .int (xs ((a3 + (nI 2)).toNatClampNeg))]) (r := (some (.int x27.1))) (st := []) (σ' := am_D x27.2) (ci := 11) hF hR d_L_law_721 (c_X_landlord (τ' := x27.2) hx) (Nat.le_refl _) (Nat.le_refl _) wl_L_73 wi_yX11_landlord we_yX11_landlord wn_ShareHouse wc_yX11_landlord (Nat.le_of_ble_eq_true rfl) (Nat.le_of_ble_eq_true rfl) rfl rfl wy_yX11_landlord rfl ⟨by decide, by decide⟩ (Nat.le_of_ble_eq_true rfl) ?_
  refine am_seg s_law_99 (y := (729, [(0, .ref 1200), (1, .ref 0), (2, .ref 140), (3, .int a3)], [.int (a3 + (nI 1)), .ref 1200, .ref 140, .int x27.1], am_D x27.2)) hF t_s_law_99 rfl rfl ?_
  refine am_gd h (fun hi h => ?_)
  refine am_sald (j := ((a3 + (nI 1)).toNatClampNeg)) d_L_law_729 hB.1 hi rfl hF ?_
  refine am_seg s_law_100 (y := (734, [(0, .ref 1200), (1, .ref 0), (2, .ref 140), (3, .int a3)], [.int (a3 + (nI 2)), .ref 1200, .int (xs ((a3 + (nI 1)).toNatClampNeg)), .ref 140, .int x27.1], am_D x27.2)) hF t_s_law_100 rfl rfl ?_
  refine am_gd h (fun hi h => ?_)
  refine am_sald (j := ((a3 + (nI 2)).toNatClampNeg)) d_L_law_734 hB.1 hi rfl hF ?_
  refine am_bd h (fun x28 hx h => ?_)
  refine am_callV (As := [.int (xs ((a3 + (nI 1)).toNatClampNeg)), .int (xs ((a3 + (nI 2)).toNatClampNeg))]) (r := (some (.int x28.1))) (st := [.int x27.1]) (σ' := am_D x28.2) (ci := 12) hF hR d_L_law_735 (c_M_landlord (τ' := x28.2) hx) (Nat.le_refl _) (Nat.le_refl _) wl_L_76 wi_yX12_landlord we_yX12_landlord wn_ShareHouseModel wc_yX12_landlord (Nat.le_of_ble_eq_true rfl) (Nat.le_of_ble_eq_true rfl) rfl rfl wy_yX12_landlord rfl ⟨by decide, by decide⟩ (Nat.le_of_ble_eq_true rfl) ?_
  refine am_ite h (fun hc h => ?_) (fun hc h => ?_)
  · refine am_icmp_eq_t (t := 1448) d_L_law_738 (by decide) hc hF ?_
    refine am_seg s_law_101 (y := (18, [(3, .int (a3 + (nI 4))), (0, .ref 1200), (1, .ref 0), (2, .ref 140)], [], am_D x28.2)) hF t_s_law_101 rfl rfl ?_
    refine am_pick [1, 2, 3, 0] rfl ?_
    exact hk18 _ _ h
  · refine am_icmp_eq_f (t := 1448) d_L_law_738 (by decide) hc hF ?_
    refine am_seg s_law_102 (y := (742, [(0, .ref 1200), (1, .ref 0), (2, .ref 140), (3, .int a3)], [.int (nI 0)], am_D x28.2)) hF t_s_law_102 rfl rfl ?_
    exact absurd (am_pair h).1 (by decide)
def law_743 (L : Nat) (xs : Nat → Int32) (k18 : am_T → Int32 → Option (Int32 × am_T)) (τ : am_T) (a3 : Int32) : Option (Int32 × am_T) :=
  am_g (am_in (a3 + (nI 1)) L) (am_g (am_in (a3 + (nI 2)) L) (am_g (am_in (a3 + (nI 3)) L) ((X_sell τ (xs ((a3 + (nI 1)).toNatClampNeg)) (xs ((a3 + (nI 2)).toNatClampNeg)) (xs ((a3 + (nI 3)).toNatClampNeg))).bind (fun x29 =>
  am_g (am_in (a3 + (nI 1)) L) (am_g (am_in (a3 + (nI 2)) L) (am_g (am_in (a3 + (nI 3)) L) ((M_sell x29.2 (xs ((a3 + (nI 1)).toNatClampNeg)) (xs ((a3 + (nI 2)).toNatClampNeg)) (xs ((a3 + (nI 3)).toNatClampNeg))).bind (fun x30 =>
  if x29.1 = x30.1 then
  (k18 x30.2 (a3 + (nI 4)))
else
  (some ((nI 0), x30.2))))))))))
set_option maxRecDepth 20000 in
theorem ok_law_743 {L : Nat} {xs : Nat → Int32} {X : am_X} {τ' : am_T} (hF : am_F X "ShareHouseLaw" cL_law 4) (hR : am_R X 12 261) (hB : am_L X L xs) {k18 : am_T → Int32 → Option (Int32 × am_T)} (hk18 : ∀ (τ : am_T) (a3 : Int32), k18 τ a3 = some (nI 1, τ') → am_W X 4 (18, [(0, .ref 1200), (1, .ref 0), (2, .ref 140), (3, .int a3)], [], am_D τ)) {τ : am_T} {a3 : Int32} (h : law_743 L xs k18 τ a3 = some (nI 1, τ')) : am_W X 4 (743, [(0, .ref 1200), (1, .ref 0), (2, .ref 140), (3, .int a3)], [], am_D τ) := by
  unfold law_743 at h
  refine am_seg s_law_103 (y := (748, [(0, .ref 1200), (1, .ref 0), (2, .ref 140), (3, .int a3)], [.int (a3 + (nI 1)), .ref 1200, .ref 0], am_D τ)) hF t_s_law_103 rfl rfl ?_
  refine am_gd h (fun hi h => ?_)
  refine am_sald (j := ((a3 + (nI 1)).toNatClampNeg)) d_L_law_748 hB.1 hi rfl hF ?_
  refine am_seg s_law_104 (y := (753, [(0, .ref 1200), (1, .ref 0), (2, .ref 140), (3, .int a3)], [.int (a3 + (nI 2)), .ref 1200, .int (xs ((a3 + (nI 1)).toNatClampNeg)), .ref 0], am_D τ)) hF t_s_law_104 rfl rfl ?_
  refine am_gd h (fun hi h => ?_)
  refine am_sald (j := ((a3 + (nI 2)).toNatClampNeg)) d_L_law_753 hB.1 hi rfl hF ?_
  refine am_seg s_law_105 (y := (758, [(0, .ref 1200), (1, .ref 0), (2, .ref 140), (3, .int a3)], [.int (a3 + (nI 3)), .ref 1200, .int (xs ((a3 + (nI 2)).toNatClampNeg)), .int (xs ((a3 + (nI 1)).toNatClampNeg)), .ref 0], am_D τ)) hF t_s_law_105 rfl rfl ?_
  refine am_gd h (fun hi h => ?_)
  refine am_sald (j := ((a3 + (nI 3)).toNatClampNeg)) d_L_law_758 hB.1 hi rfl hF ?_
  refine am_bd h (fun x29 hx h => ?_)
  refine am_callV (As := [.int (xs ((a3 + (nI 1)).toNatClampNeg)), .int (xs ((a3 + (nI 2)).toNatClampNeg)), .int (xs ((a3 + (nI 3)).toNatClampNeg))]) (r := (some (.int x29.1))) (st := []) (σ' := am_D x29.2) (ci := 11) hF hR d_L_law_759 (c_X_sell (τ' := x29.2) hx) (Nat.le_refl _) (Nat.le_refl _) wl_L_77 wi_yX11_sell we_yX11_sell wn_ShareHouse wc_yX11_sell (Nat.le_of_ble_eq_true rfl) (Nat.le_of_ble_eq_true rfl) rfl rfl wy_yX11_sell rfl ⟨by decide, by decide⟩ (Nat.le_of_ble_eq_true rfl) ?_
  refine am_seg s_law_106 (y := (767, [(0, .ref 1200), (1, .ref 0), (2, .ref 140), (3, .int a3)], [.int (a3 + (nI 1)), .ref 1200, .ref 140, .int x29.1], am_D x29.2)) hF t_s_law_106 rfl rfl ?_
  refine am_gd h (fun hi h => ?_)
  refine am_sald (j := ((a3 + (nI 1)).toNatClampNeg)) d_L_law_767 hB.1 hi rfl hF ?_
  refine am_seg s_law_107 (y := (772, [(0, .ref 1200), (1, .ref 0), (2, .ref 140), (3, .int a3)], [.int (a3 + (nI 2)), .ref 1200, .int (xs ((a3 + (nI 1)).toNatClampNeg)), .ref 140, .int x29.1], am_D x29.2)) hF t_s_law_107 rfl rfl ?_
  refine am_gd h (fun hi h => ?_)
  refine am_sald (j := ((a3 + (nI 2)).toNatClampNeg)) d_L_law_772 hB.1 hi rfl hF ?_
  refine am_seg s_law_108 (y := (777, [(0, .ref 1200), (1, .ref 0), (2, .ref 140), (3, .int a3)], [.int (a3 + (nI 3)), .ref 1200, .int (xs ((a3 + (nI 2)).toNatClampNeg)), .int (xs ((a3 + (nI 1)).toNatClampNeg)), .ref 140, .int x29.1], am_D x29.2)) hF t_s_law_108 rfl rfl ?_
  refine am_gd h (fun hi h => ?_)
  refine am_sald (j := ((a3 + (nI 3)).toNatClampNeg)) d_L_law_777 hB.1 hi rfl hF ?_
  refine am_bd h (fun x30 hx h => ?_)
  refine am_callV (As := [.int (xs ((a3 + (nI 1)).toNatClampNeg)), .int (xs ((a3 + (nI 2)).toNatClampNeg)), .int (xs ((a3 + (nI 3)).toNatClampNeg))]) (r := (some (.int x30.1))) (st := [.int x29.1]) (σ' := am_D x30.2) (ci := 12) hF hR d_L_law_778 (c_M_sell (τ' := x30.2) hx) (Nat.le_refl _) (Nat.le_refl _) wl_L_80 wi_yX12_sell we_yX12_sell wn_ShareHouseModel wc_yX12_sell (Nat.le_of_ble_eq_true rfl) (Nat.le_of_ble_eq_true rfl) rfl rfl wy_yX12_sell rfl ⟨by decide, by decide⟩ (Nat.le_of_ble_eq_true rfl) ?_
  refine am_ite h (fun hc h => ?_) (fun hc h => ?_)
  · refine am_icmp_eq_t (t := 1448) d_L_law_781 (by decide) hc hF ?_
    refine am_seg s_law_109 (y := (18, [(3, .int (a3 + (nI 4))), (0, .ref 1200), (1, .ref 0), (2, .ref 140)], [], am_D x30.2)) hF t_s_law_109 rfl rfl ?_
    refine am_pick [1, 2, 3, 0] rfl ?_
    exact hk18 _ _ h
  · refine am_icmp_eq_f (t := 1448) d_L_law_781 (by decide) hc hF ?_
    refine am_seg s_law_110 (y := (785, [(0, .ref 1200), (1, .ref 0), (2, .ref 140), (3, .int a3)], [.int (nI 0)], am_D x30.2)) hF t_s_law_110 rfl rfl ?_
    exact absurd (am_pair h).1 (by decide)
def law_786 (L : Nat) (xs : Nat → Int32) (k18 : am_T → Int32 → Option (Int32 × am_T)) (τ : am_T) (a3 : Int32) : Option (Int32 × am_T) :=
  am_g (am_in (a3 + (nI 1)) L) (am_g (am_in (a3 + (nI 2)) L) ((X_owner τ (xs ((a3 + (nI 1)).toNatClampNeg)) (xs ((a3 + (nI 2)).toNatClampNeg))).bind (fun x31 =>
  am_g (am_in (a3 + (nI 1)) L) (am_g (am_in (a3 + (nI 2)) L) ((M_owner x31.2 (xs ((a3 + (nI 1)).toNatClampNeg)) (xs ((a3 + (nI 2)).toNatClampNeg))).bind (fun x32 =>
  if x31.1 = x32.1 then
  (k18 x32.2 (a3 + (nI 4)))
else
  (some ((nI 0), x32.2))))))))
set_option maxRecDepth 20000 in
theorem ok_law_786 {L : Nat} {xs : Nat → Int32} {X : am_X} {τ' : am_T} (hF : am_F X "ShareHouseLaw" cL_law 4) (hR : am_R X 12 261) (hB : am_L X L xs) {k18 : am_T → Int32 → Option (Int32 × am_T)} (hk18 : ∀ (τ : am_T) (a3 : Int32), k18 τ a3 = some (nI 1, τ') → am_W X 4 (18, [(0, .ref 1200), (1, .ref 0), (2, .ref 140), (3, .int a3)], [], am_D τ)) {τ : am_T} {a3 : Int32} (h : law_786 L xs k18 τ a3 = some (nI 1, τ')) : am_W X 4 (786, [(0, .ref 1200), (1, .ref 0), (2, .ref 140), (3, .int a3)], [], am_D τ) := by
  unfold law_786 at h
  refine am_seg s_law_111 (y := (791, [(0, .ref 1200), (1, .ref 0), (2, .ref 140), (3, .int a3)], [.int (a3 + (nI 1)), .ref 1200, .ref 0], am_D τ)) hF t_s_law_111 rfl rfl ?_
  refine am_gd h (fun hi h => ?_)
  refine am_sald (j := ((a3 + (nI 1)).toNatClampNeg)) d_L_law_791 hB.1 hi rfl hF ?_
  refine am_seg s_law_112 (y := (796, [(0, .ref 1200), (1, .ref 0), (2, .ref 140), (3, .int a3)], [.int (a3 + (nI 2)), .ref 1200, .int (xs ((a3 + (nI 1)).toNatClampNeg)), .ref 0], am_D τ)) hF t_s_law_112 rfl rfl ?_
  refine am_gd h (fun hi h => ?_)
  refine am_sald (j := ((a3 + (nI 2)).toNatClampNeg)) d_L_law_796 hB.1 hi rfl hF ?_
  refine am_bd h (fun x31 hx h => ?_)
  refine am_callV (As := [.int (xs ((a3 + (nI 1)).toNatClampNeg)), .int (xs ((a3 + (nI 2)).toNatClampNeg))]) (r := (some (.int x31.1))) (st := []) (σ' := am_D x31.2) (ci := 11) hF hR d_L_law_797 (c_X_owner (τ' := x31.2) hx) (Nat.le_refl _) (Nat.le_refl _) wl_L_81 wi_yX11_owner we_yX11_owner wn_ShareHouse wc_yX11_owner (Nat.le_of_ble_eq_true rfl) (Nat.le_of_ble_eq_true rfl) rfl rfl wy_yX11_owner rfl ⟨by decide, by decide⟩ (Nat.le_of_ble_eq_true rfl) ?_
  refine am_seg s_law_113 (y := (805, [(0, .ref 1200), (1, .ref 0), (2, .ref 140), (3, .int a3)], [.int (a3 + (nI 1)), .ref 1200, .ref 140, .int x31.1], am_D x31.2)) hF t_s_law_113 rfl rfl ?_
  refine am_gd h (fun hi h => ?_)
  refine am_sald (j := ((a3 + (nI 1)).toNatClampNeg)) d_L_law_805 hB.1 hi rfl hF ?_
  refine am_seg s_law_114 (y := (810, [(0, .ref 1200), (1, .ref 0), (2, .ref 140), (3, .int a3)], [.int (a3 + (nI 2)), .ref 1200, .int (xs ((a3 + (nI 1)).toNatClampNeg)), .ref 140, .int x31.1], am_D x31.2)) hF t_s_law_114 rfl rfl ?_
  refine am_gd h (fun hi h => ?_)
  refine am_sald (j := ((a3 + (nI 2)).toNatClampNeg)) d_L_law_810 hB.1 hi rfl hF ?_
  refine am_bd h (fun x32 hx h => ?_)
  refine am_callV (As := [.int (xs ((a3 + (nI 1)).toNatClampNeg)), .int (xs ((a3 + (nI 2)).toNatClampNeg))]) (r := (some (.int x32.1))) (st := [.int x31.1]) (σ' := am_D x32.2) (ci := 12) hF hR d_L_law_811 (c_M_owner (τ' := x32.2) hx) (Nat.le_refl _) (Nat.le_refl _) wl_L_84 wi_yX12_owner we_yX12_owner wn_ShareHouseModel wc_yX12_owner (Nat.le_of_ble_eq_true rfl) (Nat.le_of_ble_eq_true rfl) rfl rfl wy_yX12_owner rfl ⟨by decide, by decide⟩ (Nat.le_of_ble_eq_true rfl) ?_
  refine am_ite h (fun hc h => ?_) (fun hc h => ?_)
  · refine am_icmp_eq_t (t := 1448) d_L_law_814 (by decide) hc hF ?_
    refine am_seg s_law_115 (y := (18, [(3, .int (a3 + (nI 4))), (0, .ref 1200), (1, .ref 0), (2, .ref 140)], [], am_D x32.2)) hF t_s_law_115 rfl rfl ?_
    refine am_pick [1, 2, 3, 0] rfl ?_
    exact hk18 _ _ h
  · refine am_icmp_eq_f (t := 1448) d_L_law_814 (by decide) hc hF ?_
    refine am_seg s_law_116 (y := (818, [(0, .ref 1200), (1, .ref 0), (2, .ref 140), (3, .int a3)], [.int (nI 0)], am_D x32.2)) hF t_s_law_116 rfl rfl ?_
    exact absurd (am_pair h).1 (by decide)
def law_819 (L : Nat) (xs : Nat → Int32) (k18 : am_T → Int32 → Option (Int32 × am_T)) (τ : am_T) (a3 : Int32) : Option (Int32 × am_T) :=
  am_g (am_in (a3 + (nI 1)) L) (am_g (am_in (a3 + (nI 2)) L) ((X_pay τ (xs ((a3 + (nI 1)).toNatClampNeg)) (xs ((a3 + (nI 2)).toNatClampNeg))).bind (fun x33 =>
  am_g (am_in (a3 + (nI 1)) L) (am_g (am_in (a3 + (nI 2)) L) ((M_pay x33.2 (xs ((a3 + (nI 1)).toNatClampNeg)) (xs ((a3 + (nI 2)).toNatClampNeg))).bind (fun x34 =>
  if x33.1 = x34.1 then
  (k18 x34.2 (a3 + (nI 4)))
else
  (some ((nI 0), x34.2))))))))
set_option maxRecDepth 20000 in
theorem ok_law_819 {L : Nat} {xs : Nat → Int32} {X : am_X} {τ' : am_T} (hF : am_F X "ShareHouseLaw" cL_law 4) (hR : am_R X 12 261) (hB : am_L X L xs) {k18 : am_T → Int32 → Option (Int32 × am_T)} (hk18 : ∀ (τ : am_T) (a3 : Int32), k18 τ a3 = some (nI 1, τ') → am_W X 4 (18, [(0, .ref 1200), (1, .ref 0), (2, .ref 140), (3, .int a3)], [], am_D τ)) {τ : am_T} {a3 : Int32} (h : law_819 L xs k18 τ a3 = some (nI 1, τ')) : am_W X 4 (819, [(0, .ref 1200), (1, .ref 0), (2, .ref 140), (3, .int a3)], [], am_D τ) := by
  unfold law_819 at h
  refine am_seg s_law_117 (y := (824, [(0, .ref 1200), (1, .ref 0), (2, .ref 140), (3, .int a3)], [.int (a3 + (nI 1)), .ref 1200, .ref 0], am_D τ)) hF t_s_law_117 rfl rfl ?_
  refine am_gd h (fun hi h => ?_)
  refine am_sald (j := ((a3 + (nI 1)).toNatClampNeg)) d_L_law_824 hB.1 hi rfl hF ?_
  refine am_seg s_law_118 (y := (829, [(0, .ref 1200), (1, .ref 0), (2, .ref 140), (3, .int a3)], [.int (a3 + (nI 2)), .ref 1200, .int (xs ((a3 + (nI 1)).toNatClampNeg)), .ref 0], am_D τ)) hF t_s_law_118 rfl rfl ?_
  refine am_gd h (fun hi h => ?_)
  refine am_sald (j := ((a3 + (nI 2)).toNatClampNeg)) d_L_law_829 hB.1 hi rfl hF ?_
  refine am_bd h (fun x33 hx h => ?_)
  refine am_callV (As := [.int (xs ((a3 + (nI 1)).toNatClampNeg)), .int (xs ((a3 + (nI 2)).toNatClampNeg))]) (r := (some (.int x33.1))) (st := []) (σ' := am_D x33.2) (ci := 11) hF hR d_L_law_830 (c_X_pay (τ' := x33.2) hx) (Nat.le_refl _) (Nat.le_refl _) wl_L_85 wi_yX11_pay we_yX11_pay wn_ShareHouse wc_yX11_pay (Nat.le_of_ble_eq_true rfl) (Nat.le_of_ble_eq_true rfl) rfl rfl wy_yX11_pay rfl ⟨by decide, by decide⟩ (Nat.le_of_ble_eq_true rfl) ?_
  refine am_seg s_law_119 (y := (838, [(0, .ref 1200), (1, .ref 0), (2, .ref 140), (3, .int a3)], [.int (a3 + (nI 1)), .ref 1200, .ref 140, .int x33.1], am_D x33.2)) hF t_s_law_119 rfl rfl ?_
  refine am_gd h (fun hi h => ?_)
  refine am_sald (j := ((a3 + (nI 1)).toNatClampNeg)) d_L_law_838 hB.1 hi rfl hF ?_
  refine am_seg s_law_120 (y := (843, [(0, .ref 1200), (1, .ref 0), (2, .ref 140), (3, .int a3)], [.int (a3 + (nI 2)), .ref 1200, .int (xs ((a3 + (nI 1)).toNatClampNeg)), .ref 140, .int x33.1], am_D x33.2)) hF t_s_law_120 rfl rfl ?_
  refine am_gd h (fun hi h => ?_)
  refine am_sald (j := ((a3 + (nI 2)).toNatClampNeg)) d_L_law_843 hB.1 hi rfl hF ?_
  refine am_bd h (fun x34 hx h => ?_)
  refine am_callV (As := [.int (xs ((a3 + (nI 1)).toNatClampNeg)), .int (xs ((a3 + (nI 2)).toNatClampNeg))]) (r := (some (.int x34.1))) (st := [.int x33.1]) (σ' := am_D x34.2) (ci := 12) hF hR d_L_law_844 (c_M_pay (τ' := x34.2) hx) (Nat.le_refl _) (Nat.le_refl _) wl_L_88 wi_yX12_pay we_yX12_pay wn_ShareHouseModel wc_yX12_pay (Nat.le_of_ble_eq_true rfl) (Nat.le_of_ble_eq_true rfl) rfl rfl wy_yX12_pay rfl ⟨by decide, by decide⟩ (Nat.le_of_ble_eq_true rfl) ?_
  refine am_ite h (fun hc h => ?_) (fun hc h => ?_)
  · refine am_icmp_eq_t (t := 1448) d_L_law_847 (by decide) hc hF ?_
    refine am_seg s_law_121 (y := (18, [(3, .int (a3 + (nI 4))), (0, .ref 1200), (1, .ref 0), (2, .ref 140)], [], am_D x34.2)) hF t_s_law_121 rfl rfl ?_
    refine am_pick [1, 2, 3, 0] rfl ?_
    exact hk18 _ _ h
  · refine am_icmp_eq_f (t := 1448) d_L_law_847 (by decide) hc hF ?_
    refine am_seg s_law_122 (y := (851, [(0, .ref 1200), (1, .ref 0), (2, .ref 140), (3, .int a3)], [.int (nI 0)], am_D x34.2)) hF t_s_law_122 rfl rfl ?_
    exact absurd (am_pair h).1 (by decide)
def law_852 (L : Nat) (xs : Nat → Int32) (k18 : am_T → Int32 → Option (Int32 × am_T)) (τ : am_T) (a3 : Int32) : Option (Int32 × am_T) :=
  am_g (am_in (a3 + (nI 1)) L) (am_g (am_in (a3 + (nI 2)) L) (am_g (am_in (a3 + (nI 3)) L) ((X_account τ (xs ((a3 + (nI 1)).toNatClampNeg)) (xs ((a3 + (nI 2)).toNatClampNeg)) (xs ((a3 + (nI 3)).toNatClampNeg))).bind (fun x35 =>
  am_g (am_in (a3 + (nI 1)) L) (am_g (am_in (a3 + (nI 2)) L) (am_g (am_in (a3 + (nI 3)) L) ((M_account x35.2 (xs ((a3 + (nI 1)).toNatClampNeg)) (xs ((a3 + (nI 2)).toNatClampNeg)) (xs ((a3 + (nI 3)).toNatClampNeg))).bind (fun x36 =>
  if x35.1 = x36.1 then
  (k18 x36.2 (a3 + (nI 4)))
else
  (some ((nI 0), x36.2))))))))))
set_option maxRecDepth 20000 in
theorem ok_law_852 {L : Nat} {xs : Nat → Int32} {X : am_X} {τ' : am_T} (hF : am_F X "ShareHouseLaw" cL_law 4) (hR : am_R X 12 261) (hB : am_L X L xs) {k18 : am_T → Int32 → Option (Int32 × am_T)} (hk18 : ∀ (τ : am_T) (a3 : Int32), k18 τ a3 = some (nI 1, τ') → am_W X 4 (18, [(0, .ref 1200), (1, .ref 0), (2, .ref 140), (3, .int a3)], [], am_D τ)) {τ : am_T} {a3 : Int32} (h : law_852 L xs k18 τ a3 = some (nI 1, τ')) : am_W X 4 (852, [(0, .ref 1200), (1, .ref 0), (2, .ref 140), (3, .int a3)], [], am_D τ) := by
  unfold law_852 at h
  refine am_seg s_law_123 (y := (857, [(0, .ref 1200), (1, .ref 0), (2, .ref 140), (3, .int a3)], [.int (a3 + (nI 1)), .ref 1200, .ref 0], am_D τ)) hF t_s_law_123 rfl rfl ?_
  refine am_gd h (fun hi h => ?_)
  refine am_sald (j := ((a3 + (nI 1)).toNatClampNeg)) d_L_law_857 hB.1 hi rfl hF ?_
  refine am_seg s_law_124 (y := (862, [(0, .ref 1200), (1, .ref 0), (2, .ref 140), (3, .int a3)], [.int (a3 + (nI 2)), .ref 1200, .int (xs ((a3 + (nI 1)).toNatClampNeg)), .ref 0], am_D τ)) hF t_s_law_124 rfl rfl ?_
  refine am_gd h (fun hi h => ?_)
  refine am_sald (j := ((a3 + (nI 2)).toNatClampNeg)) d_L_law_862 hB.1 hi rfl hF ?_
  refine am_seg s_law_125 (y := (867, [(0, .ref 1200), (1, .ref 0), (2, .ref 140), (3, .int a3)], [.int (a3 + (nI 3)), .ref 1200, .int (xs ((a3 + (nI 2)).toNatClampNeg)), .int (xs ((a3 + (nI 1)).toNatClampNeg)), .ref 0], am_D τ)) hF t_s_law_125 rfl rfl ?_
  refine am_gd h (fun hi h => ?_)
  refine am_sald (j := ((a3 + (nI 3)).toNatClampNeg)) d_L_law_867 hB.1 hi rfl hF ?_
  refine am_bd h (fun x35 hx h => ?_)
  refine am_callV (As := [.int (xs ((a3 + (nI 1)).toNatClampNeg)), .int (xs ((a3 + (nI 2)).toNatClampNeg)), .int (xs ((a3 + (nI 3)).toNatClampNeg))]) (r := (some (.int x35.1))) (st := []) (σ' := am_D x35.2) (ci := 11) hF hR d_L_law_868 (c_X_account (τ' := x35.2) hx) (Nat.le_refl _) (Nat.le_refl _) wl_L_89 wi_yX11_account we_yX11_account wn_ShareHouse wc_yX11_account (Nat.le_of_ble_eq_true rfl) (Nat.le_of_ble_eq_true rfl) rfl rfl wy_yX11_account rfl ⟨by decide, by decide⟩ (Nat.le_of_ble_eq_true rfl) ?_
  refine am_seg s_law_126 (y := (876, [(0, .ref 1200), (1, .ref 0), (2, .ref 140), (3, .int a3)], [.int (a3 + (nI 1)), .ref 1200, .ref 140, .int x35.1], am_D x35.2)) hF t_s_law_126 rfl rfl ?_
  refine am_gd h (fun hi h => ?_)
  refine am_sald (j := ((a3 + (nI 1)).toNatClampNeg)) d_L_law_876 hB.1 hi rfl hF ?_
  refine am_seg s_law_127 (y := (881, [(0, .ref 1200), (1, .ref 0), (2, .ref 140), (3, .int a3)], [.int (a3 + (nI 2)), .ref 1200, .int (xs ((a3 + (nI 1)).toNatClampNeg)), .ref 140, .int x35.1], am_D x35.2)) hF t_s_law_127 rfl rfl ?_
  refine am_gd h (fun hi h => ?_)
  refine am_sald (j := ((a3 + (nI 2)).toNatClampNeg)) d_L_law_881 hB.1 hi rfl hF ?_
  refine am_seg s_law_128 (y := (886, [(0, .ref 1200), (1, .ref 0), (2, .ref 140), (3, .int a3)], [.int (a3 + (nI 3)), .ref 1200, .int (xs ((a3 + (nI 2)).toNatClampNeg)), .int (xs ((a3 + (nI 1)).toNatClampNeg)), .ref 140, .int x35.1], am_D x35.2)) hF t_s_law_128 rfl rfl ?_
  refine am_gd h (fun hi h => ?_)
  refine am_sald (j := ((a3 + (nI 3)).toNatClampNeg)) d_L_law_886 hB.1 hi rfl hF ?_
  refine am_bd h (fun x36 hx h => ?_)
  refine am_callV (As := [.int (xs ((a3 + (nI 1)).toNatClampNeg)), .int (xs ((a3 + (nI 2)).toNatClampNeg)), .int (xs ((a3 + (nI 3)).toNatClampNeg))]) (r := (some (.int x36.1))) (st := [.int x35.1]) (σ' := am_D x36.2) (ci := 12) hF hR d_L_law_887 (c_M_account (τ' := x36.2) hx) (Nat.le_refl _) (Nat.le_refl _) wl_L_92 wi_yX12_account we_yX12_account wn_ShareHouseModel wc_yX12_account (Nat.le_of_ble_eq_true rfl) (Nat.le_of_ble_eq_true rfl) rfl rfl wy_yX12_account rfl ⟨by decide, by decide⟩ (Nat.le_of_ble_eq_true rfl) ?_
  refine am_ite h (fun hc h => ?_) (fun hc h => ?_)
  · refine am_icmp_eq_t (t := 1448) d_L_law_890 (by decide) hc hF ?_
    refine am_seg s_law_129 (y := (18, [(3, .int (a3 + (nI 4))), (0, .ref 1200), (1, .ref 0), (2, .ref 140)], [], am_D x36.2)) hF t_s_law_129 rfl rfl ?_
    refine am_pick [1, 2, 3, 0] rfl ?_
    exact hk18 _ _ h
  · refine am_icmp_eq_f (t := 1448) d_L_law_890 (by decide) hc hF ?_
    refine am_seg s_law_130 (y := (894, [(0, .ref 1200), (1, .ref 0), (2, .ref 140), (3, .int a3)], [.int (nI 0)], am_D x36.2)) hF t_s_law_130 rfl rfl ?_
    exact absurd (am_pair h).1 (by decide)
def law_895 (L : Nat) (xs : Nat → Int32) (k18 : am_T → Int32 → Option (Int32 × am_T)) (τ : am_T) (a3 : Int32) : Option (Int32 × am_T) :=
  am_g (am_in (a3 + (nI 1)) L) (am_g (am_in (a3 + (nI 2)) L) ((X_asked τ (xs ((a3 + (nI 1)).toNatClampNeg)) (xs ((a3 + (nI 2)).toNatClampNeg))).bind (fun x37 =>
  am_g (am_in (a3 + (nI 1)) L) (am_g (am_in (a3 + (nI 2)) L) ((M_asked x37.2 (xs ((a3 + (nI 1)).toNatClampNeg)) (xs ((a3 + (nI 2)).toNatClampNeg))).bind (fun x38 =>
  if x37.1 = x38.1 then
  (k18 x38.2 (a3 + (nI 4)))
else
  (some ((nI 0), x38.2))))))))
set_option maxRecDepth 20000 in
theorem ok_law_895 {L : Nat} {xs : Nat → Int32} {X : am_X} {τ' : am_T} (hF : am_F X "ShareHouseLaw" cL_law 4) (hR : am_R X 12 261) (hB : am_L X L xs) {k18 : am_T → Int32 → Option (Int32 × am_T)} (hk18 : ∀ (τ : am_T) (a3 : Int32), k18 τ a3 = some (nI 1, τ') → am_W X 4 (18, [(0, .ref 1200), (1, .ref 0), (2, .ref 140), (3, .int a3)], [], am_D τ)) {τ : am_T} {a3 : Int32} (h : law_895 L xs k18 τ a3 = some (nI 1, τ')) : am_W X 4 (895, [(0, .ref 1200), (1, .ref 0), (2, .ref 140), (3, .int a3)], [], am_D τ) := by
  unfold law_895 at h
  refine am_seg s_law_131 (y := (900, [(0, .ref 1200), (1, .ref 0), (2, .ref 140), (3, .int a3)], [.int (a3 + (nI 1)), .ref 1200, .ref 0], am_D τ)) hF t_s_law_131 rfl rfl ?_
  refine am_gd h (fun hi h => ?_)
  refine am_sald (j := ((a3 + (nI 1)).toNatClampNeg)) d_L_law_900 hB.1 hi rfl hF ?_
  refine am_seg s_law_132 (y := (905, [(0, .ref 1200), (1, .ref 0), (2, .ref 140), (3, .int a3)], [.int (a3 + (nI 2)), .ref 1200, .int (xs ((a3 + (nI 1)).toNatClampNeg)), .ref 0], am_D τ)) hF t_s_law_132 rfl rfl ?_
  refine am_gd h (fun hi h => ?_)
  refine am_sald (j := ((a3 + (nI 2)).toNatClampNeg)) d_L_law_905 hB.1 hi rfl hF ?_
  refine am_bd h (fun x37 hx h => ?_)
  refine am_callV (As := [.int (xs ((a3 + (nI 1)).toNatClampNeg)), .int (xs ((a3 + (nI 2)).toNatClampNeg))]) (r := (some (.int x37.1))) (st := []) (σ' := am_D x37.2) (ci := 11) hF hR d_L_law_906 (c_X_asked (τ' := x37.2) hx) (Nat.le_refl _) (Nat.le_refl _) wl_L_93 wi_yX11_asked we_yX11_asked wn_ShareHouse wc_yX11_asked (Nat.le_of_ble_eq_true rfl) (Nat.le_of_ble_eq_true rfl) rfl rfl wy_yX11_asked rfl ⟨by decide, by decide⟩ (Nat.le_of_ble_eq_true rfl) ?_
  refine am_seg s_law_133 (y := (914, [(0, .ref 1200), (1, .ref 0), (2, .ref 140), (3, .int a3)], [.int (a3 + (nI 1)), .ref 1200, .ref 140, .int x37.1], am_D x37.2)) hF t_s_law_133 rfl rfl ?_
  refine am_gd h (fun hi h => ?_)
  refine am_sald (j := ((a3 + (nI 1)).toNatClampNeg)) d_L_law_914 hB.1 hi rfl hF ?_
  refine am_seg s_law_134 (y := (919, [(0, .ref 1200), (1, .ref 0), (2, .ref 140), (3, .int a3)], [.int (a3 + (nI 2)), .ref 1200, .int (xs ((a3 + (nI 1)).toNatClampNeg)), .ref 140, .int x37.1], am_D x37.2)) hF t_s_law_134 rfl rfl ?_
  refine am_gd h (fun hi h => ?_)
  refine am_sald (j := ((a3 + (nI 2)).toNatClampNeg)) d_L_law_919 hB.1 hi rfl hF ?_
  refine am_bd h (fun x38 hx h => ?_)
  refine am_callV (As := [.int (xs ((a3 + (nI 1)).toNatClampNeg)), .int (xs ((a3 + (nI 2)).toNatClampNeg))]) (r := (some (.int x38.1))) (st := [.int x37.1]) (σ' := am_D x38.2) (ci := 12) hF hR d_L_law_920 (c_M_asked (τ' := x38.2) hx) (Nat.le_refl _) (Nat.le_refl _) wl_L_96 wi_yX12_asked we_yX12_asked wn_ShareHouseModel wc_yX12_asked (Nat.le_of_ble_eq_true rfl) (Nat.le_of_ble_eq_true rfl) rfl rfl wy_yX12_asked rfl ⟨by decide, by decide⟩ (Nat.le_of_ble_eq_true rfl) ?_
  refine am_ite h (fun hc h => ?_) (fun hc h => ?_)
  · refine am_icmp_eq_t (t := 1448) d_L_law_923 (by decide) hc hF ?_
    refine am_seg s_law_135 (y := (18, [(3, .int (a3 + (nI 4))), (0, .ref 1200), (1, .ref 0), (2, .ref 140)], [], am_D x38.2)) hF t_s_law_135 rfl rfl ?_
    refine am_pick [1, 2, 3, 0] rfl ?_
    exact hk18 _ _ h
  · refine am_icmp_eq_f (t := 1448) d_L_law_923 (by decide) hc hF ?_
    refine am_seg s_law_136 (y := (927, [(0, .ref 1200), (1, .ref 0), (2, .ref 140), (3, .int a3)], [.int (nI 0)], am_D x38.2)) hF t_s_law_136 rfl rfl ?_
    exact absurd (am_pair h).1 (by decide)
def law_928 (L : Nat) (xs : Nat → Int32) (k18 : am_T → Int32 → Option (Int32 × am_T)) (τ : am_T) (a3 : Int32) : Option (Int32 × am_T) :=
  am_g (am_in (a3 + (nI 1)) L) (am_g (am_in (a3 + (nI 2)) L) ((X_work τ (xs ((a3 + (nI 1)).toNatClampNeg)) (xs ((a3 + (nI 2)).toNatClampNeg))).bind (fun x39 =>
  am_g (am_in (a3 + (nI 1)) L) (am_g (am_in (a3 + (nI 2)) L) ((M_work x39.2 (xs ((a3 + (nI 1)).toNatClampNeg)) (xs ((a3 + (nI 2)).toNatClampNeg))).bind (fun x40 =>
  if x39.1 = x40.1 then
  (k18 x40.2 (a3 + (nI 4)))
else
  (some ((nI 0), x40.2))))))))
set_option maxRecDepth 20000 in
theorem ok_law_928 {L : Nat} {xs : Nat → Int32} {X : am_X} {τ' : am_T} (hF : am_F X "ShareHouseLaw" cL_law 4) (hR : am_R X 12 261) (hB : am_L X L xs) {k18 : am_T → Int32 → Option (Int32 × am_T)} (hk18 : ∀ (τ : am_T) (a3 : Int32), k18 τ a3 = some (nI 1, τ') → am_W X 4 (18, [(0, .ref 1200), (1, .ref 0), (2, .ref 140), (3, .int a3)], [], am_D τ)) {τ : am_T} {a3 : Int32} (h : law_928 L xs k18 τ a3 = some (nI 1, τ')) : am_W X 4 (928, [(0, .ref 1200), (1, .ref 0), (2, .ref 140), (3, .int a3)], [], am_D τ) := by
  unfold law_928 at h
  refine am_seg s_law_137 (y := (933, [(0, .ref 1200), (1, .ref 0), (2, .ref 140), (3, .int a3)], [.int (a3 + (nI 1)), .ref 1200, .ref 0], am_D τ)) hF t_s_law_137 rfl rfl ?_
  refine am_gd h (fun hi h => ?_)
  refine am_sald (j := ((a3 + (nI 1)).toNatClampNeg)) d_L_law_933 hB.1 hi rfl hF ?_
  refine am_seg s_law_138 (y := (938, [(0, .ref 1200), (1, .ref 0), (2, .ref 140), (3, .int a3)], [.int (a3 + (nI 2)), .ref 1200, .int (xs ((a3 + (nI 1)).toNatClampNeg)), .ref 0], am_D τ)) hF t_s_law_138 rfl rfl ?_
  refine am_gd h (fun hi h => ?_)
  refine am_sald (j := ((a3 + (nI 2)).toNatClampNeg)) d_L_law_938 hB.1 hi rfl hF ?_
  refine am_bd h (fun x39 hx h => ?_)
  refine am_callV (As := [.int (xs ((a3 + (nI 1)).toNatClampNeg)), .int (xs ((a3 + (nI 2)).toNatClampNeg))]) (r := (some (.int x39.1))) (st := []) (σ' := am_D x39.2) (ci := 11) hF hR d_L_law_939 (c_X_work (τ' := x39.2) hx) (Nat.le_refl _) (Nat.le_refl _) wl_L_97 wi_yX11_work we_yX11_work wn_ShareHouse wc_yX11_work (Nat.le_of_ble_eq_true rfl) (Nat.le_of_ble_eq_true rfl) rfl rfl wy_yX11_work rfl ⟨by decide, by decide⟩ (Nat.le_of_ble_eq_true rfl) ?_
  refine am_seg s_law_139 (y := (947, [(0, .ref 1200), (1, .ref 0), (2, .ref 140), (3, .int a3)], [.int (a3 + (nI 1)), .ref 1200, .ref 140, .int x39.1], am_D x39.2)) hF t_s_law_139 rfl rfl ?_
  refine am_gd h (fun hi h => ?_)
  refine am_sald (j := ((a3 + (nI 1)).toNatClampNeg)) d_L_law_947 hB.1 hi rfl hF ?_
  refine am_seg s_law_140 (y := (952, [(0, .ref 1200), (1, .ref 0), (2, .ref 140), (3, .int a3)], [.int (a3 + (nI 2)), .ref 1200, .int (xs ((a3 + (nI 1)).toNatClampNeg)), .ref 140, .int x39.1], am_D x39.2)) hF t_s_law_140 rfl rfl ?_
  refine am_gd h (fun hi h => ?_)
  refine am_sald (j := ((a3 + (nI 2)).toNatClampNeg)) d_L_law_952 hB.1 hi rfl hF ?_
  refine am_bd h (fun x40 hx h => ?_)
  refine am_callV (As := [.int (xs ((a3 + (nI 1)).toNatClampNeg)), .int (xs ((a3 + (nI 2)).toNatClampNeg))]) (r := (some (.int x40.1))) (st := [.int x39.1]) (σ' := am_D x40.2) (ci := 12) hF hR d_L_law_953 (c_M_work (τ' := x40.2) hx) (Nat.le_refl _) (Nat.le_refl _) wl_L_100 wi_yX12_work we_yX12_work wn_ShareHouseModel wc_yX12_work (Nat.le_of_ble_eq_true rfl) (Nat.le_of_ble_eq_true rfl) rfl rfl wy_yX12_work rfl ⟨by decide, by decide⟩ (Nat.le_of_ble_eq_true rfl) ?_
  refine am_ite h (fun hc h => ?_) (fun hc h => ?_)
  · refine am_icmp_eq_t (t := 1448) d_L_law_956 (by decide) hc hF ?_
    refine am_seg s_law_141 (y := (18, [(3, .int (a3 + (nI 4))), (0, .ref 1200), (1, .ref 0), (2, .ref 140)], [], am_D x40.2)) hF t_s_law_141 rfl rfl ?_
    refine am_pick [1, 2, 3, 0] rfl ?_
    exact hk18 _ _ h
  · refine am_icmp_eq_f (t := 1448) d_L_law_956 (by decide) hc hF ?_
    refine am_seg s_law_142 (y := (960, [(0, .ref 1200), (1, .ref 0), (2, .ref 140), (3, .int a3)], [.int (nI 0)], am_D x40.2)) hF t_s_law_142 rfl rfl ?_
    exact absurd (am_pair h).1 (by decide)
def law_961 (L : Nat) (xs : Nat → Int32) (k18 : am_T → Int32 → Option (Int32 × am_T)) (τ : am_T) (a3 : Int32) : Option (Int32 × am_T) :=
  am_g (am_in (a3 + (nI 1)) L) ((X_letter τ (xs ((a3 + (nI 1)).toNatClampNeg))).bind (fun x41 =>
  am_g (am_in (a3 + (nI 1)) L) ((M_letter x41.2 (xs ((a3 + (nI 1)).toNatClampNeg))).bind (fun x42 =>
  if x41.1 = x42.1 then
  (k18 x42.2 (a3 + (nI 4)))
else
  (some ((nI 0), x42.2))))))
set_option maxRecDepth 20000 in
theorem ok_law_961 {L : Nat} {xs : Nat → Int32} {X : am_X} {τ' : am_T} (hF : am_F X "ShareHouseLaw" cL_law 4) (hR : am_R X 12 261) (hB : am_L X L xs) {k18 : am_T → Int32 → Option (Int32 × am_T)} (hk18 : ∀ (τ : am_T) (a3 : Int32), k18 τ a3 = some (nI 1, τ') → am_W X 4 (18, [(0, .ref 1200), (1, .ref 0), (2, .ref 140), (3, .int a3)], [], am_D τ)) {τ : am_T} {a3 : Int32} (h : law_961 L xs k18 τ a3 = some (nI 1, τ')) : am_W X 4 (961, [(0, .ref 1200), (1, .ref 0), (2, .ref 140), (3, .int a3)], [], am_D τ) := by
  unfold law_961 at h
  refine am_seg s_law_143 (y := (966, [(0, .ref 1200), (1, .ref 0), (2, .ref 140), (3, .int a3)], [.int (a3 + (nI 1)), .ref 1200, .ref 0], am_D τ)) hF t_s_law_143 rfl rfl ?_
  refine am_gd h (fun hi h => ?_)
  refine am_sald (j := ((a3 + (nI 1)).toNatClampNeg)) d_L_law_966 hB.1 hi rfl hF ?_
  refine am_bd h (fun x41 hx h => ?_)
  refine am_callV (As := [.int (xs ((a3 + (nI 1)).toNatClampNeg))]) (r := (some (.int x41.1))) (st := []) (σ' := am_D x41.2) (ci := 11) hF hR d_L_law_967 (c_X_letter (τ' := x41.2) hx) (Nat.le_refl _) (Nat.le_refl _) wl_L_101 wi_yX11_letter we_yX11_letter wn_ShareHouse wc_yX11_letter (Nat.le_of_ble_eq_true rfl) (Nat.le_of_ble_eq_true rfl) rfl rfl wy_yX11_letter rfl ⟨by decide, by decide⟩ (Nat.le_of_ble_eq_true rfl) ?_
  refine am_seg s_law_144 (y := (975, [(0, .ref 1200), (1, .ref 0), (2, .ref 140), (3, .int a3)], [.int (a3 + (nI 1)), .ref 1200, .ref 140, .int x41.1], am_D x41.2)) hF t_s_law_144 rfl rfl ?_
  refine am_gd h (fun hi h => ?_)
  refine am_sald (j := ((a3 + (nI 1)).toNatClampNeg)) d_L_law_975 hB.1 hi rfl hF ?_
  refine am_bd h (fun x42 hx h => ?_)
  refine am_callV (As := [.int (xs ((a3 + (nI 1)).toNatClampNeg))]) (r := (some (.int x42.1))) (st := [.int x41.1]) (σ' := am_D x42.2) (ci := 12) hF hR d_L_law_976 (c_M_letter (τ' := x42.2) hx) (Nat.le_refl _) (Nat.le_refl _) wl_L_104 wi_yX12_letter we_yX12_letter wn_ShareHouseModel wc_yX12_letter (Nat.le_of_ble_eq_true rfl) (Nat.le_of_ble_eq_true rfl) rfl rfl wy_yX12_letter rfl ⟨by decide, by decide⟩ (Nat.le_of_ble_eq_true rfl) ?_
  refine am_ite h (fun hc h => ?_) (fun hc h => ?_)
  · refine am_icmp_eq_t (t := 1448) d_L_law_979 (by decide) hc hF ?_
    refine am_seg s_law_145 (y := (18, [(3, .int (a3 + (nI 4))), (0, .ref 1200), (1, .ref 0), (2, .ref 140)], [], am_D x42.2)) hF t_s_law_145 rfl rfl ?_
    refine am_pick [1, 2, 3, 0] rfl ?_
    exact hk18 _ _ h
  · refine am_icmp_eq_f (t := 1448) d_L_law_979 (by decide) hc hF ?_
    refine am_seg s_law_146 (y := (983, [(0, .ref 1200), (1, .ref 0), (2, .ref 140), (3, .int a3)], [.int (nI 0)], am_D x42.2)) hF t_s_law_146 rfl rfl ?_
    exact absurd (am_pair h).1 (by decide)
def law_984 (L : Nat) (xs : Nat → Int32) (k18 : am_T → Int32 → Option (Int32 × am_T)) (τ : am_T) (a3 : Int32) : Option (Int32 × am_T) :=
  am_g (am_in (a3 + (nI 1)) L) (am_g (am_in (a3 + (nI 2)) L) ((X_price τ (xs ((a3 + (nI 1)).toNatClampNeg)) (xs ((a3 + (nI 2)).toNatClampNeg))).bind (fun x43 =>
  am_g (am_in (a3 + (nI 1)) L) (am_g (am_in (a3 + (nI 2)) L) ((M_price x43.2 (xs ((a3 + (nI 1)).toNatClampNeg)) (xs ((a3 + (nI 2)).toNatClampNeg))).bind (fun x44 =>
  if x43.1 = x44.1 then
  (k18 x44.2 (a3 + (nI 4)))
else
  (some ((nI 0), x44.2))))))))
set_option maxRecDepth 20000 in
theorem ok_law_984 {L : Nat} {xs : Nat → Int32} {X : am_X} {τ' : am_T} (hF : am_F X "ShareHouseLaw" cL_law 4) (hR : am_R X 12 261) (hB : am_L X L xs) {k18 : am_T → Int32 → Option (Int32 × am_T)} (hk18 : ∀ (τ : am_T) (a3 : Int32), k18 τ a3 = some (nI 1, τ') → am_W X 4 (18, [(0, .ref 1200), (1, .ref 0), (2, .ref 140), (3, .int a3)], [], am_D τ)) {τ : am_T} {a3 : Int32} (h : law_984 L xs k18 τ a3 = some (nI 1, τ')) : am_W X 4 (984, [(0, .ref 1200), (1, .ref 0), (2, .ref 140), (3, .int a3)], [], am_D τ) := by
  unfold law_984 at h
  refine am_seg s_law_147 (y := (989, [(0, .ref 1200), (1, .ref 0), (2, .ref 140), (3, .int a3)], [.int (a3 + (nI 1)), .ref 1200, .ref 0], am_D τ)) hF t_s_law_147 rfl rfl ?_
  refine am_gd h (fun hi h => ?_)
  refine am_sald (j := ((a3 + (nI 1)).toNatClampNeg)) d_L_law_989 hB.1 hi rfl hF ?_
  refine am_seg s_law_148 (y := (994, [(0, .ref 1200), (1, .ref 0), (2, .ref 140), (3, .int a3)], [.int (a3 + (nI 2)), .ref 1200, .int (xs ((a3 + (nI 1)).toNatClampNeg)), .ref 0], am_D τ)) hF t_s_law_148 rfl rfl ?_
  refine am_gd h (fun hi h => ?_)
  refine am_sald (j := ((a3 + (nI 2)).toNatClampNeg)) d_L_law_994 hB.1 hi rfl hF ?_
  refine am_bd h (fun x43 hx h => ?_)
  refine am_callV (As := [.int (xs ((a3 + (nI 1)).toNatClampNeg)), .int (xs ((a3 + (nI 2)).toNatClampNeg))]) (r := (some (.int x43.1))) (st := []) (σ' := am_D x43.2) (ci := 11) hF hR d_L_law_995 (c_X_price (τ' := x43.2) hx) (Nat.le_refl _) (Nat.le_refl _) wl_L_105 wi_yX11_price we_yX11_price wn_ShareHouse wc_yX11_price (Nat.le_of_ble_eq_true rfl) (Nat.le_of_ble_eq_true rfl) rfl rfl wy_yX11_price rfl ⟨by decide, by decide⟩ (Nat.le_of_ble_eq_true rfl) ?_
  refine am_seg s_law_149 (y := (1003, [(0, .ref 1200), (1, .ref 0), (2, .ref 140), (3, .int a3)], [.int (a3 + (nI 1)), .ref 1200, .ref 140, .int x43.1], am_D x43.2)) hF t_s_law_149 rfl rfl ?_
  refine am_gd h (fun hi h => ?_)
  refine am_sald (j := ((a3 + (nI 1)).toNatClampNeg)) d_L_law_1003 hB.1 hi rfl hF ?_
  refine am_seg s_law_150 (y := (1008, [(0, .ref 1200), (1, .ref 0), (2, .ref 140), (3, .int a3)], [.int (a3 + (nI 2)), .ref 1200, .int (xs ((a3 + (nI 1)).toNatClampNeg)), .ref 140, .int x43.1], am_D x43.2)) hF t_s_law_150 rfl rfl ?_
  refine am_gd h (fun hi h => ?_)
  refine am_sald (j := ((a3 + (nI 2)).toNatClampNeg)) d_L_law_1008 hB.1 hi rfl hF ?_
  refine am_bd h (fun x44 hx h => ?_)
  refine am_callV (As := [.int (xs ((a3 + (nI 1)).toNatClampNeg)), .int (xs ((a3 + (nI 2)).toNatClampNeg))]) (r := (some (.int x44.1))) (st := [.int x43.1]) (σ' := am_D x44.2) (ci := 12) hF hR d_L_law_1009 (c_M_price (τ' := x44.2) hx) (Nat.le_refl _) (Nat.le_refl _) wl_L_108 wi_yX12_price we_yX12_price wn_ShareHouseModel wc_yX12_price (Nat.le_of_ble_eq_true rfl) (Nat.le_of_ble_eq_true rfl) rfl rfl wy_yX12_price rfl ⟨by decide, by decide⟩ (Nat.le_of_ble_eq_true rfl) ?_
  refine am_ite h (fun hc h => ?_) (fun hc h => ?_)
  · refine am_icmp_eq_t (t := 1448) d_L_law_1012 (by decide) hc hF ?_
    refine am_seg s_law_151 (y := (18, [(3, .int (a3 + (nI 4))), (0, .ref 1200), (1, .ref 0), (2, .ref 140)], [], am_D x44.2)) hF t_s_law_151 rfl rfl ?_
    refine am_pick [1, 2, 3, 0] rfl ?_
    exact hk18 _ _ h
  · refine am_icmp_eq_f (t := 1448) d_L_law_1012 (by decide) hc hF ?_
    refine am_seg s_law_152 (y := (1016, [(0, .ref 1200), (1, .ref 0), (2, .ref 140), (3, .int a3)], [.int (nI 0)], am_D x44.2)) hF t_s_law_152 rfl rfl ?_
    exact absurd (am_pair h).1 (by decide)
def law_1017 (L : Nat) (xs : Nat → Int32) (k18 : am_T → Int32 → Option (Int32 × am_T)) (τ : am_T) (a3 : Int32) : Option (Int32 × am_T) :=
  am_g (am_in (a3 + (nI 1)) L) ((X_done τ (xs ((a3 + (nI 1)).toNatClampNeg))).bind (fun x45 =>
  am_g (am_in (a3 + (nI 1)) L) ((M_done x45.2 (xs ((a3 + (nI 1)).toNatClampNeg))).bind (fun x46 =>
  if x45.1 = x46.1 then
  (k18 x46.2 (a3 + (nI 4)))
else
  (some ((nI 0), x46.2))))))
set_option maxRecDepth 20000 in
theorem ok_law_1017 {L : Nat} {xs : Nat → Int32} {X : am_X} {τ' : am_T} (hF : am_F X "ShareHouseLaw" cL_law 4) (hR : am_R X 12 261) (hB : am_L X L xs) {k18 : am_T → Int32 → Option (Int32 × am_T)} (hk18 : ∀ (τ : am_T) (a3 : Int32), k18 τ a3 = some (nI 1, τ') → am_W X 4 (18, [(0, .ref 1200), (1, .ref 0), (2, .ref 140), (3, .int a3)], [], am_D τ)) {τ : am_T} {a3 : Int32} (h : law_1017 L xs k18 τ a3 = some (nI 1, τ')) : am_W X 4 (1017, [(0, .ref 1200), (1, .ref 0), (2, .ref 140), (3, .int a3)], [], am_D τ) := by
  unfold law_1017 at h
  refine am_seg s_law_153 (y := (1022, [(0, .ref 1200), (1, .ref 0), (2, .ref 140), (3, .int a3)], [.int (a3 + (nI 1)), .ref 1200, .ref 0], am_D τ)) hF t_s_law_153 rfl rfl ?_
  refine am_gd h (fun hi h => ?_)
  refine am_sald (j := ((a3 + (nI 1)).toNatClampNeg)) d_L_law_1022 hB.1 hi rfl hF ?_
  refine am_bd h (fun x45 hx h => ?_)
  refine am_callV (As := [.int (xs ((a3 + (nI 1)).toNatClampNeg))]) (r := (some (.int x45.1))) (st := []) (σ' := am_D x45.2) (ci := 11) hF hR d_L_law_1023 (c_X_done (τ' := x45.2) hx) (Nat.le_refl _) (Nat.le_refl _) wl_L_109 wi_yX11_done we_yX11_done wn_ShareHouse wc_yX11_done (Nat.le_of_ble_eq_true rfl) (Nat.le_of_ble_eq_true rfl) rfl rfl wy_yX11_done rfl ⟨by decide, by decide⟩ (Nat.le_of_ble_eq_true rfl) ?_
  refine am_seg s_law_154 (y := (1031, [(0, .ref 1200), (1, .ref 0), (2, .ref 140), (3, .int a3)], [.int (a3 + (nI 1)), .ref 1200, .ref 140, .int x45.1], am_D x45.2)) hF t_s_law_154 rfl rfl ?_
  refine am_gd h (fun hi h => ?_)
  refine am_sald (j := ((a3 + (nI 1)).toNatClampNeg)) d_L_law_1031 hB.1 hi rfl hF ?_
  refine am_bd h (fun x46 hx h => ?_)
  refine am_callV (As := [.int (xs ((a3 + (nI 1)).toNatClampNeg))]) (r := (some (.int x46.1))) (st := [.int x45.1]) (σ' := am_D x46.2) (ci := 12) hF hR d_L_law_1032 (c_M_done (τ' := x46.2) hx) (Nat.le_refl _) (Nat.le_refl _) wl_L_112 wi_yX12_done we_yX12_done wn_ShareHouseModel wc_yX12_done (Nat.le_of_ble_eq_true rfl) (Nat.le_of_ble_eq_true rfl) rfl rfl wy_yX12_done rfl ⟨by decide, by decide⟩ (Nat.le_of_ble_eq_true rfl) ?_
  refine am_ite h (fun hc h => ?_) (fun hc h => ?_)
  · refine am_icmp_eq_t (t := 1448) d_L_law_1035 (by decide) hc hF ?_
    refine am_seg s_law_155 (y := (18, [(3, .int (a3 + (nI 4))), (0, .ref 1200), (1, .ref 0), (2, .ref 140)], [], am_D x46.2)) hF t_s_law_155 rfl rfl ?_
    refine am_pick [1, 2, 3, 0] rfl ?_
    exact hk18 _ _ h
  · refine am_icmp_eq_f (t := 1448) d_L_law_1035 (by decide) hc hF ?_
    refine am_seg s_law_156 (y := (1039, [(0, .ref 1200), (1, .ref 0), (2, .ref 140), (3, .int a3)], [.int (nI 0)], am_D x46.2)) hF t_s_law_156 rfl rfl ?_
    exact absurd (am_pair h).1 (by decide)
def law_1040 (L : Nat) (xs : Nat → Int32) (k18 : am_T → Int32 → Option (Int32 × am_T)) (τ : am_T) (a3 : Int32) : Option (Int32 × am_T) :=
  am_g (am_in (a3 + (nI 1)) L) ((X_capped τ (xs ((a3 + (nI 1)).toNatClampNeg))).bind (fun x47 =>
  am_g (am_in (a3 + (nI 1)) L) ((M_capped x47.2 (xs ((a3 + (nI 1)).toNatClampNeg))).bind (fun x48 =>
  if x47.1 = x48.1 then
  (k18 x48.2 (a3 + (nI 4)))
else
  (some ((nI 0), x48.2))))))
set_option maxRecDepth 20000 in
theorem ok_law_1040 {L : Nat} {xs : Nat → Int32} {X : am_X} {τ' : am_T} (hF : am_F X "ShareHouseLaw" cL_law 4) (hR : am_R X 12 261) (hB : am_L X L xs) {k18 : am_T → Int32 → Option (Int32 × am_T)} (hk18 : ∀ (τ : am_T) (a3 : Int32), k18 τ a3 = some (nI 1, τ') → am_W X 4 (18, [(0, .ref 1200), (1, .ref 0), (2, .ref 140), (3, .int a3)], [], am_D τ)) {τ : am_T} {a3 : Int32} (h : law_1040 L xs k18 τ a3 = some (nI 1, τ')) : am_W X 4 (1040, [(0, .ref 1200), (1, .ref 0), (2, .ref 140), (3, .int a3)], [], am_D τ) := by
  unfold law_1040 at h
  refine am_seg s_law_157 (y := (1045, [(0, .ref 1200), (1, .ref 0), (2, .ref 140), (3, .int a3)], [.int (a3 + (nI 1)), .ref 1200, .ref 0], am_D τ)) hF t_s_law_157 rfl rfl ?_
  refine am_gd h (fun hi h => ?_)
  refine am_sald (j := ((a3 + (nI 1)).toNatClampNeg)) d_L_law_1045 hB.1 hi rfl hF ?_
  refine am_bd h (fun x47 hx h => ?_)
  refine am_callV (As := [.int (xs ((a3 + (nI 1)).toNatClampNeg))]) (r := (some (.int x47.1))) (st := []) (σ' := am_D x47.2) (ci := 11) hF hR d_L_law_1046 (c_X_capped (τ' := x47.2) hx) (Nat.le_refl _) (Nat.le_refl _) wl_L_113 wi_yX11_capped we_yX11_capped wn_ShareHouse wc_yX11_capped (Nat.le_of_ble_eq_true rfl) (Nat.le_of_ble_eq_true rfl) rfl rfl wy_yX11_capped rfl ⟨by decide, by decide⟩ (Nat.le_of_ble_eq_true rfl) ?_
  refine am_seg s_law_158 (y := (1054, [(0, .ref 1200), (1, .ref 0), (2, .ref 140), (3, .int a3)], [.int (a3 + (nI 1)), .ref 1200, .ref 140, .int x47.1], am_D x47.2)) hF t_s_law_158 rfl rfl ?_
  refine am_gd h (fun hi h => ?_)
  refine am_sald (j := ((a3 + (nI 1)).toNatClampNeg)) d_L_law_1054 hB.1 hi rfl hF ?_
  refine am_bd h (fun x48 hx h => ?_)
  refine am_callV (As := [.int (xs ((a3 + (nI 1)).toNatClampNeg))]) (r := (some (.int x48.1))) (st := [.int x47.1]) (σ' := am_D x48.2) (ci := 12) hF hR d_L_law_1055 (c_M_capped (τ' := x48.2) hx) (Nat.le_refl _) (Nat.le_refl _) wl_L_116 wi_yX12_capped we_yX12_capped wn_ShareHouseModel wc_yX12_capped (Nat.le_of_ble_eq_true rfl) (Nat.le_of_ble_eq_true rfl) rfl rfl wy_yX12_capped rfl ⟨by decide, by decide⟩ (Nat.le_of_ble_eq_true rfl) ?_
  refine am_ite h (fun hc h => ?_) (fun hc h => ?_)
  · refine am_icmp_eq_t (t := 1448) d_L_law_1058 (by decide) hc hF ?_
    refine am_seg s_law_159 (y := (18, [(3, .int (a3 + (nI 4))), (0, .ref 1200), (1, .ref 0), (2, .ref 140)], [], am_D x48.2)) hF t_s_law_159 rfl rfl ?_
    refine am_pick [1, 2, 3, 0] rfl ?_
    exact hk18 _ _ h
  · refine am_icmp_eq_f (t := 1448) d_L_law_1058 (by decide) hc hF ?_
    refine am_seg s_law_160 (y := (1062, [(0, .ref 1200), (1, .ref 0), (2, .ref 140), (3, .int a3)], [.int (nI 0)], am_D x48.2)) hF t_s_law_160 rfl rfl ?_
    exact absurd (am_pair h).1 (by decide)
def law_1063 (L : Nat) (xs : Nat → Int32) (k18 : am_T → Int32 → Option (Int32 × am_T)) (τ : am_T) (a3 : Int32) : Option (Int32 × am_T) :=
  am_g (am_in (a3 + (nI 1)) L) (am_g (am_in (a3 + (nI 2)) L) ((X_like τ (xs ((a3 + (nI 1)).toNatClampNeg)) (xs ((a3 + (nI 2)).toNatClampNeg))).bind (fun x49 =>
  am_g (am_in (a3 + (nI 1)) L) (am_g (am_in (a3 + (nI 2)) L) ((M_like x49.2 (xs ((a3 + (nI 1)).toNatClampNeg)) (xs ((a3 + (nI 2)).toNatClampNeg))).bind (fun x50 =>
  if x49.1 = x50.1 then
  (k18 x50.2 (a3 + (nI 4)))
else
  (some ((nI 0), x50.2))))))))
set_option maxRecDepth 20000 in
theorem ok_law_1063 {L : Nat} {xs : Nat → Int32} {X : am_X} {τ' : am_T} (hF : am_F X "ShareHouseLaw" cL_law 4) (hR : am_R X 12 261) (hB : am_L X L xs) {k18 : am_T → Int32 → Option (Int32 × am_T)} (hk18 : ∀ (τ : am_T) (a3 : Int32), k18 τ a3 = some (nI 1, τ') → am_W X 4 (18, [(0, .ref 1200), (1, .ref 0), (2, .ref 140), (3, .int a3)], [], am_D τ)) {τ : am_T} {a3 : Int32} (h : law_1063 L xs k18 τ a3 = some (nI 1, τ')) : am_W X 4 (1063, [(0, .ref 1200), (1, .ref 0), (2, .ref 140), (3, .int a3)], [], am_D τ) := by
  unfold law_1063 at h
  refine am_seg s_law_161 (y := (1068, [(0, .ref 1200), (1, .ref 0), (2, .ref 140), (3, .int a3)], [.int (a3 + (nI 1)), .ref 1200, .ref 0], am_D τ)) hF t_s_law_161 rfl rfl ?_
  refine am_gd h (fun hi h => ?_)
  refine am_sald (j := ((a3 + (nI 1)).toNatClampNeg)) d_L_law_1068 hB.1 hi rfl hF ?_
  refine am_seg s_law_162 (y := (1073, [(0, .ref 1200), (1, .ref 0), (2, .ref 140), (3, .int a3)], [.int (a3 + (nI 2)), .ref 1200, .int (xs ((a3 + (nI 1)).toNatClampNeg)), .ref 0], am_D τ)) hF t_s_law_162 rfl rfl ?_
  refine am_gd h (fun hi h => ?_)
  refine am_sald (j := ((a3 + (nI 2)).toNatClampNeg)) d_L_law_1073 hB.1 hi rfl hF ?_
  refine am_bd h (fun x49 hx h => ?_)
  refine am_callV (As := [.int (xs ((a3 + (nI 1)).toNatClampNeg)), .int (xs ((a3 + (nI 2)).toNatClampNeg))]) (r := (some (.int x49.1))) (st := []) (σ' := am_D x49.2) (ci := 11) hF hR d_L_law_1074 (c_X_like (τ' := x49.2) hx) (Nat.le_refl _) (Nat.le_refl _) wl_L_117 wi_yX11_like we_yX11_like wn_ShareHouse wc_yX11_like (Nat.le_of_ble_eq_true rfl) (Nat.le_of_ble_eq_true rfl) rfl rfl wy_yX11_like rfl ⟨by decide, by decide⟩ (Nat.le_of_ble_eq_true rfl) ?_
  refine am_seg s_law_163 (y := (1082, [(0, .ref 1200), (1, .ref 0), (2, .ref 140), (3, .int a3)], [.int (a3 + (nI 1)), .ref 1200, .ref 140, .int x49.1], am_D x49.2)) hF t_s_law_163 rfl rfl ?_
  refine am_gd h (fun hi h => ?_)
  refine am_sald (j := ((a3 + (nI 1)).toNatClampNeg)) d_L_law_1082 hB.1 hi rfl hF ?_
  refine am_seg s_law_164 (y := (1087, [(0, .ref 1200), (1, .ref 0), (2, .ref 140), (3, .int a3)], [.int (a3 + (nI 2)), .ref 1200, .int (xs ((a3 + (nI 1)).toNatClampNeg)), .ref 140, .int x49.1], am_D x49.2)) hF t_s_law_164 rfl rfl ?_
  refine am_gd h (fun hi h => ?_)
  refine am_sald (j := ((a3 + (nI 2)).toNatClampNeg)) d_L_law_1087 hB.1 hi rfl hF ?_
  refine am_bd h (fun x50 hx h => ?_)
  refine am_callV (As := [.int (xs ((a3 + (nI 1)).toNatClampNeg)), .int (xs ((a3 + (nI 2)).toNatClampNeg))]) (r := (some (.int x50.1))) (st := [.int x49.1]) (σ' := am_D x50.2) (ci := 12) hF hR d_L_law_1088 (c_M_like (τ' := x50.2) hx) (Nat.le_refl _) (Nat.le_refl _) wl_L_120 wi_yX12_like we_yX12_like wn_ShareHouseModel wc_yX12_like (Nat.le_of_ble_eq_true rfl) (Nat.le_of_ble_eq_true rfl) rfl rfl wy_yX12_like rfl ⟨by decide, by decide⟩ (Nat.le_of_ble_eq_true rfl) ?_
  refine am_ite h (fun hc h => ?_) (fun hc h => ?_)
  · refine am_icmp_eq_t (t := 1448) d_L_law_1091 (by decide) hc hF ?_
    refine am_seg s_law_165 (y := (18, [(3, .int (a3 + (nI 4))), (0, .ref 1200), (1, .ref 0), (2, .ref 140)], [], am_D x50.2)) hF t_s_law_165 rfl rfl ?_
    refine am_pick [1, 2, 3, 0] rfl ?_
    exact hk18 _ _ h
  · refine am_icmp_eq_f (t := 1448) d_L_law_1091 (by decide) hc hF ?_
    refine am_seg s_law_166 (y := (1095, [(0, .ref 1200), (1, .ref 0), (2, .ref 140), (3, .int a3)], [.int (nI 0)], am_D x50.2)) hF t_s_law_166 rfl rfl ?_
    exact absurd (am_pair h).1 (by decide)
def law_1096 (L : Nat) (xs : Nat → Int32) (k18 : am_T → Int32 → Option (Int32 × am_T)) (τ : am_T) (a3 : Int32) : Option (Int32 × am_T) :=
  am_g (am_in (a3 + (nI 1)) L) ((X_fair τ (xs ((a3 + (nI 1)).toNatClampNeg))).bind (fun x51 =>
  am_g (am_in (a3 + (nI 1)) L) ((M_fair x51.2 (xs ((a3 + (nI 1)).toNatClampNeg))).bind (fun x52 =>
  if x51.1 = x52.1 then
  (k18 x52.2 (a3 + (nI 4)))
else
  (some ((nI 0), x52.2))))))
set_option maxRecDepth 20000 in
theorem ok_law_1096 {L : Nat} {xs : Nat → Int32} {X : am_X} {τ' : am_T} (hF : am_F X "ShareHouseLaw" cL_law 4) (hR : am_R X 12 261) (hB : am_L X L xs) {k18 : am_T → Int32 → Option (Int32 × am_T)} (hk18 : ∀ (τ : am_T) (a3 : Int32), k18 τ a3 = some (nI 1, τ') → am_W X 4 (18, [(0, .ref 1200), (1, .ref 0), (2, .ref 140), (3, .int a3)], [], am_D τ)) {τ : am_T} {a3 : Int32} (h : law_1096 L xs k18 τ a3 = some (nI 1, τ')) : am_W X 4 (1096, [(0, .ref 1200), (1, .ref 0), (2, .ref 140), (3, .int a3)], [], am_D τ) := by
  unfold law_1096 at h
  refine am_seg s_law_167 (y := (1101, [(0, .ref 1200), (1, .ref 0), (2, .ref 140), (3, .int a3)], [.int (a3 + (nI 1)), .ref 1200, .ref 0], am_D τ)) hF t_s_law_167 rfl rfl ?_
  refine am_gd h (fun hi h => ?_)
  refine am_sald (j := ((a3 + (nI 1)).toNatClampNeg)) d_L_law_1101 hB.1 hi rfl hF ?_
  refine am_bd h (fun x51 hx h => ?_)
  refine am_callV (As := [.int (xs ((a3 + (nI 1)).toNatClampNeg))]) (r := (some (.int x51.1))) (st := []) (σ' := am_D x51.2) (ci := 11) hF hR d_L_law_1102 (c_X_fair (τ' := x51.2) hx) (Nat.le_refl _) (Nat.le_refl _) wl_L_121 wi_yX11_fair we_yX11_fair wn_ShareHouse wc_yX11_fair (Nat.le_of_ble_eq_true rfl) (Nat.le_of_ble_eq_true rfl) rfl rfl wy_yX11_fair rfl ⟨by decide, by decide⟩ (Nat.le_of_ble_eq_true rfl) ?_
  refine am_seg s_law_168 (y := (1110, [(0, .ref 1200), (1, .ref 0), (2, .ref 140), (3, .int a3)], [.int (a3 + (nI 1)), .ref 1200, .ref 140, .int x51.1], am_D x51.2)) hF t_s_law_168 rfl rfl ?_
  refine am_gd h (fun hi h => ?_)
  refine am_sald (j := ((a3 + (nI 1)).toNatClampNeg)) d_L_law_1110 hB.1 hi rfl hF ?_
  refine am_bd h (fun x52 hx h => ?_)
  refine am_callV (As := [.int (xs ((a3 + (nI 1)).toNatClampNeg))]) (r := (some (.int x52.1))) (st := [.int x51.1]) (σ' := am_D x52.2) (ci := 12) hF hR d_L_law_1111 (c_M_fair (τ' := x52.2) hx) (Nat.le_refl _) (Nat.le_refl _) wl_L_124 wi_yX12_fair we_yX12_fair wn_ShareHouseModel wc_yX12_fair (Nat.le_of_ble_eq_true rfl) (Nat.le_of_ble_eq_true rfl) rfl rfl wy_yX12_fair rfl ⟨by decide, by decide⟩ (Nat.le_of_ble_eq_true rfl) ?_
  refine am_ite h (fun hc h => ?_) (fun hc h => ?_)
  · refine am_icmp_eq_t (t := 1448) d_L_law_1114 (by decide) hc hF ?_
    refine am_seg s_law_169 (y := (18, [(3, .int (a3 + (nI 4))), (0, .ref 1200), (1, .ref 0), (2, .ref 140)], [], am_D x52.2)) hF t_s_law_169 rfl rfl ?_
    refine am_pick [1, 2, 3, 0] rfl ?_
    exact hk18 _ _ h
  · refine am_icmp_eq_f (t := 1448) d_L_law_1114 (by decide) hc hF ?_
    refine am_seg s_law_170 (y := (1118, [(0, .ref 1200), (1, .ref 0), (2, .ref 140), (3, .int a3)], [.int (nI 0)], am_D x52.2)) hF t_s_law_170 rfl rfl ?_
    exact absurd (am_pair h).1 (by decide)
def law_1119 (L : Nat) (xs : Nat → Int32) (k18 : am_T → Int32 → Option (Int32 × am_T)) (τ : am_T) (a3 : Int32) : Option (Int32 × am_T) :=
  am_g (am_in (a3 + (nI 1)) L) ((X_cut τ (xs ((a3 + (nI 1)).toNatClampNeg))).bind (fun x53 =>
  am_g (am_in (a3 + (nI 1)) L) ((M_cut x53.2 (xs ((a3 + (nI 1)).toNatClampNeg))).bind (fun x54 =>
  if x53.1 = x54.1 then
  (k18 x54.2 (a3 + (nI 4)))
else
  (some ((nI 0), x54.2))))))
set_option maxRecDepth 20000 in
theorem ok_law_1119 {L : Nat} {xs : Nat → Int32} {X : am_X} {τ' : am_T} (hF : am_F X "ShareHouseLaw" cL_law 4) (hR : am_R X 12 261) (hB : am_L X L xs) {k18 : am_T → Int32 → Option (Int32 × am_T)} (hk18 : ∀ (τ : am_T) (a3 : Int32), k18 τ a3 = some (nI 1, τ') → am_W X 4 (18, [(0, .ref 1200), (1, .ref 0), (2, .ref 140), (3, .int a3)], [], am_D τ)) {τ : am_T} {a3 : Int32} (h : law_1119 L xs k18 τ a3 = some (nI 1, τ')) : am_W X 4 (1119, [(0, .ref 1200), (1, .ref 0), (2, .ref 140), (3, .int a3)], [], am_D τ) := by
  unfold law_1119 at h
  refine am_seg s_law_171 (y := (1124, [(0, .ref 1200), (1, .ref 0), (2, .ref 140), (3, .int a3)], [.int (a3 + (nI 1)), .ref 1200, .ref 0], am_D τ)) hF t_s_law_171 rfl rfl ?_
  refine am_gd h (fun hi h => ?_)
  refine am_sald (j := ((a3 + (nI 1)).toNatClampNeg)) d_L_law_1124 hB.1 hi rfl hF ?_
  refine am_bd h (fun x53 hx h => ?_)
  refine am_callV (As := [.int (xs ((a3 + (nI 1)).toNatClampNeg))]) (r := (some (.int x53.1))) (st := []) (σ' := am_D x53.2) (ci := 11) hF hR d_L_law_1125 (c_X_cut (τ' := x53.2) hx) (Nat.le_refl _) (Nat.le_refl _) wl_L_125 wi_yX11_cut we_yX11_cut wn_ShareHouse wc_yX11_cut (Nat.le_of_ble_eq_true rfl) (Nat.le_of_ble_eq_true rfl) rfl rfl wy_yX11_cut rfl ⟨by decide, by decide⟩ (Nat.le_of_ble_eq_true rfl) ?_
  refine am_seg s_law_172 (y := (1133, [(0, .ref 1200), (1, .ref 0), (2, .ref 140), (3, .int a3)], [.int (a3 + (nI 1)), .ref 1200, .ref 140, .int x53.1], am_D x53.2)) hF t_s_law_172 rfl rfl ?_
  refine am_gd h (fun hi h => ?_)
  refine am_sald (j := ((a3 + (nI 1)).toNatClampNeg)) d_L_law_1133 hB.1 hi rfl hF ?_
  refine am_bd h (fun x54 hx h => ?_)
  refine am_callV (As := [.int (xs ((a3 + (nI 1)).toNatClampNeg))]) (r := (some (.int x54.1))) (st := [.int x53.1]) (σ' := am_D x54.2) (ci := 12) hF hR d_L_law_1134 (c_M_cut (τ' := x54.2) hx) (Nat.le_refl _) (Nat.le_refl _) wl_L_128 wi_yX12_cut we_yX12_cut wn_ShareHouseModel wc_yX12_cut (Nat.le_of_ble_eq_true rfl) (Nat.le_of_ble_eq_true rfl) rfl rfl wy_yX12_cut rfl ⟨by decide, by decide⟩ (Nat.le_of_ble_eq_true rfl) ?_
  refine am_ite h (fun hc h => ?_) (fun hc h => ?_)
  · refine am_icmp_eq_t (t := 1448) d_L_law_1137 (by decide) hc hF ?_
    refine am_seg s_law_173 (y := (18, [(3, .int (a3 + (nI 4))), (0, .ref 1200), (1, .ref 0), (2, .ref 140)], [], am_D x54.2)) hF t_s_law_173 rfl rfl ?_
    refine am_pick [1, 2, 3, 0] rfl ?_
    exact hk18 _ _ h
  · refine am_icmp_eq_f (t := 1448) d_L_law_1137 (by decide) hc hF ?_
    refine am_seg s_law_174 (y := (1141, [(0, .ref 1200), (1, .ref 0), (2, .ref 140), (3, .int a3)], [.int (nI 0)], am_D x54.2)) hF t_s_law_174 rfl rfl ?_
    exact absurd (am_pair h).1 (by decide)
def law_1142 (L : Nat) (xs : Nat → Int32) (k18 : am_T → Int32 → Option (Int32 × am_T)) (τ : am_T) (a3 : Int32) : Option (Int32 × am_T) :=
  am_g (am_in (a3 + (nI 1)) L) (am_g (am_in (a3 + (nI 2)) L) (am_g (am_in (a3 + (nI 3)) L) ((X_piece τ (xs ((a3 + (nI 1)).toNatClampNeg)) (xs ((a3 + (nI 2)).toNatClampNeg)) (xs ((a3 + (nI 3)).toNatClampNeg))).bind (fun x55 =>
  am_g (am_in (a3 + (nI 1)) L) (am_g (am_in (a3 + (nI 2)) L) (am_g (am_in (a3 + (nI 3)) L) ((M_piece x55.2 (xs ((a3 + (nI 1)).toNatClampNeg)) (xs ((a3 + (nI 2)).toNatClampNeg)) (xs ((a3 + (nI 3)).toNatClampNeg))).bind (fun x56 =>
  if x55.1 = x56.1 then
  (k18 x56.2 (a3 + (nI 4)))
else
  (some ((nI 0), x56.2))))))))))
set_option maxRecDepth 20000 in
theorem ok_law_1142 {L : Nat} {xs : Nat → Int32} {X : am_X} {τ' : am_T} (hF : am_F X "ShareHouseLaw" cL_law 4) (hR : am_R X 12 261) (hB : am_L X L xs) {k18 : am_T → Int32 → Option (Int32 × am_T)} (hk18 : ∀ (τ : am_T) (a3 : Int32), k18 τ a3 = some (nI 1, τ') → am_W X 4 (18, [(0, .ref 1200), (1, .ref 0), (2, .ref 140), (3, .int a3)], [], am_D τ)) {τ : am_T} {a3 : Int32} (h : law_1142 L xs k18 τ a3 = some (nI 1, τ')) : am_W X 4 (1142, [(0, .ref 1200), (1, .ref 0), (2, .ref 140), (3, .int a3)], [], am_D τ) := by
  unfold law_1142 at h
  refine am_seg s_law_175 (y := (1147, [(0, .ref 1200), (1, .ref 0), (2, .ref 140), (3, .int a3)], [.int (a3 + (nI 1)), .ref 1200, .ref 0], am_D τ)) hF t_s_law_175 rfl rfl ?_
  refine am_gd h (fun hi h => ?_)
  refine am_sald (j := ((a3 + (nI 1)).toNatClampNeg)) d_L_law_1147 hB.1 hi rfl hF ?_
  refine am_seg s_law_176 (y := (1152, [(0, .ref 1200), (1, .ref 0), (2, .ref 140), (3, .int a3)], [.int (a3 + (nI 2)), .ref 1200, .int (xs ((a3 + (nI 1)).toNatClampNeg)), .ref 0], am_D τ)) hF t_s_law_176 rfl rfl ?_
  refine am_gd h (fun hi h => ?_)
  refine am_sald (j := ((a3 + (nI 2)).toNatClampNeg)) d_L_law_1152 hB.1 hi rfl hF ?_
  refine am_seg s_law_177 (y := (1157, [(0, .ref 1200), (1, .ref 0), (2, .ref 140), (3, .int a3)], [.int (a3 + (nI 3)), .ref 1200, .int (xs ((a3 + (nI 2)).toNatClampNeg)), .int (xs ((a3 + (nI 1)).toNatClampNeg)), .ref 0], am_D τ)) hF t_s_law_177 rfl rfl ?_
  refine am_gd h (fun hi h => ?_)
  refine am_sald (j := ((a3 + (nI 3)).toNatClampNeg)) d_L_law_1157 hB.1 hi rfl hF ?_
  refine am_bd h (fun x55 hx h => ?_)
  refine am_callV (As := [.int (xs ((a3 + (nI 1)).toNatClampNeg)), .int (xs ((a3 + (nI 2)).toNatClampNeg)), .int (xs ((a3 + (nI 3)).toNatClampNeg))]) (r := (some (.int x55.1))) (st := []) (σ' := am_D x55.2) (ci := 11) hF hR d_L_law_1158 (c_X_piece (τ' := x55.2) hx) (Nat.le_refl _) (Nat.le_refl _) wl_L_129 wi_yX11_piece we_yX11_piece wn_ShareHouse wc_yX11_piece (Nat.le_of_ble_eq_true rfl) (Nat.le_of_ble_eq_true rfl) rfl rfl wy_yX11_piece rfl ⟨by decide, by decide⟩ (Nat.le_of_ble_eq_true rfl) ?_
  refine am_seg s_law_178 (y := (1166, [(0, .ref 1200), (1, .ref 0), (2, .ref 140), (3, .int a3)], [.int (a3 + (nI 1)), .ref 1200, .ref 140, .int x55.1], am_D x55.2)) hF t_s_law_178 rfl rfl ?_
  refine am_gd h (fun hi h => ?_)
  refine am_sald (j := ((a3 + (nI 1)).toNatClampNeg)) d_L_law_1166 hB.1 hi rfl hF ?_
  refine am_seg s_law_179 (y := (1171, [(0, .ref 1200), (1, .ref 0), (2, .ref 140), (3, .int a3)], [.int (a3 + (nI 2)), .ref 1200, .int (xs ((a3 + (nI 1)).toNatClampNeg)), .ref 140, .int x55.1], am_D x55.2)) hF t_s_law_179 rfl rfl ?_
  refine am_gd h (fun hi h => ?_)
  refine am_sald (j := ((a3 + (nI 2)).toNatClampNeg)) d_L_law_1171 hB.1 hi rfl hF ?_
  refine am_seg s_law_180 (y := (1176, [(0, .ref 1200), (1, .ref 0), (2, .ref 140), (3, .int a3)], [.int (a3 + (nI 3)), .ref 1200, .int (xs ((a3 + (nI 2)).toNatClampNeg)), .int (xs ((a3 + (nI 1)).toNatClampNeg)), .ref 140, .int x55.1], am_D x55.2)) hF t_s_law_180 rfl rfl ?_
  refine am_gd h (fun hi h => ?_)
  refine am_sald (j := ((a3 + (nI 3)).toNatClampNeg)) d_L_law_1176 hB.1 hi rfl hF ?_
  refine am_bd h (fun x56 hx h => ?_)
  refine am_callV (As := [.int (xs ((a3 + (nI 1)).toNatClampNeg)), .int (xs ((a3 + (nI 2)).toNatClampNeg)), .int (xs ((a3 + (nI 3)).toNatClampNeg))]) (r := (some (.int x56.1))) (st := [.int x55.1]) (σ' := am_D x56.2) (ci := 12) hF hR d_L_law_1177 (c_M_piece (τ' := x56.2) hx) (Nat.le_refl _) (Nat.le_refl _) wl_L_132 wi_yX12_piece we_yX12_piece wn_ShareHouseModel wc_yX12_piece (Nat.le_of_ble_eq_true rfl) (Nat.le_of_ble_eq_true rfl) rfl rfl wy_yX12_piece rfl ⟨by decide, by decide⟩ (Nat.le_of_ble_eq_true rfl) ?_
  refine am_ite h (fun hc h => ?_) (fun hc h => ?_)
  · refine am_icmp_eq_t (t := 1448) d_L_law_1180 (by decide) hc hF ?_
    refine am_seg s_law_181 (y := (18, [(3, .int (a3 + (nI 4))), (0, .ref 1200), (1, .ref 0), (2, .ref 140)], [], am_D x56.2)) hF t_s_law_181 rfl rfl ?_
    refine am_pick [1, 2, 3, 0] rfl ?_
    exact hk18 _ _ h
  · refine am_icmp_eq_f (t := 1448) d_L_law_1180 (by decide) hc hF ?_
    refine am_seg s_law_182 (y := (1184, [(0, .ref 1200), (1, .ref 0), (2, .ref 140), (3, .int a3)], [.int (nI 0)], am_D x56.2)) hF t_s_law_182 rfl rfl ?_
    exact absurd (am_pair h).1 (by decide)
def law_1185 (L : Nat) (xs : Nat → Int32) (k18 : am_T → Int32 → Option (Int32 × am_T)) (τ : am_T) (a3 : Int32) : Option (Int32 × am_T) :=
  am_g (am_in (a3 + (nI 1)) L) (am_g (am_in (a3 + (nI 2)) L) ((X_level τ (xs ((a3 + (nI 1)).toNatClampNeg)) (xs ((a3 + (nI 2)).toNatClampNeg))).bind (fun x57 =>
  am_g (am_in (a3 + (nI 1)) L) (am_g (am_in (a3 + (nI 2)) L) ((M_level x57.2 (xs ((a3 + (nI 1)).toNatClampNeg)) (xs ((a3 + (nI 2)).toNatClampNeg))).bind (fun x58 =>
  if x57.1 = x58.1 then
  (k18 x58.2 (a3 + (nI 4)))
else
  (some ((nI 0), x58.2))))))))
set_option maxRecDepth 20000 in
theorem ok_law_1185 {L : Nat} {xs : Nat → Int32} {X : am_X} {τ' : am_T} (hF : am_F X "ShareHouseLaw" cL_law 4) (hR : am_R X 12 261) (hB : am_L X L xs) {k18 : am_T → Int32 → Option (Int32 × am_T)} (hk18 : ∀ (τ : am_T) (a3 : Int32), k18 τ a3 = some (nI 1, τ') → am_W X 4 (18, [(0, .ref 1200), (1, .ref 0), (2, .ref 140), (3, .int a3)], [], am_D τ)) {τ : am_T} {a3 : Int32} (h : law_1185 L xs k18 τ a3 = some (nI 1, τ')) : am_W X 4 (1185, [(0, .ref 1200), (1, .ref 0), (2, .ref 140), (3, .int a3)], [], am_D τ) := by
  unfold law_1185 at h
  refine am_seg s_law_183 (y := (1190, [(0, .ref 1200), (1, .ref 0), (2, .ref 140), (3, .int a3)], [.int (a3 + (nI 1)), .ref 1200, .ref 0], am_D τ)) hF t_s_law_183 rfl rfl ?_
  refine am_gd h (fun hi h => ?_)
  refine am_sald (j := ((a3 + (nI 1)).toNatClampNeg)) d_L_law_1190 hB.1 hi rfl hF ?_
  refine am_seg s_law_184 (y := (1195, [(0, .ref 1200), (1, .ref 0), (2, .ref 140), (3, .int a3)], [.int (a3 + (nI 2)), .ref 1200, .int (xs ((a3 + (nI 1)).toNatClampNeg)), .ref 0], am_D τ)) hF t_s_law_184 rfl rfl ?_
  refine am_gd h (fun hi h => ?_)
  refine am_sald (j := ((a3 + (nI 2)).toNatClampNeg)) d_L_law_1195 hB.1 hi rfl hF ?_
  refine am_bd h (fun x57 hx h => ?_)
  refine am_callV (As := [.int (xs ((a3 + (nI 1)).toNatClampNeg)), .int (xs ((a3 + (nI 2)).toNatClampNeg))]) (r := (some (.int x57.1))) (st := []) (σ' := am_D x57.2) (ci := 11) hF hR d_L_law_1196 (c_X_level (τ' := x57.2) hx) (Nat.le_refl _) (Nat.le_refl _) wl_L_133 wi_yX11_level we_yX11_level wn_ShareHouse wc_yX11_level (Nat.le_of_ble_eq_true rfl) (Nat.le_of_ble_eq_true rfl) rfl rfl wy_yX11_level rfl ⟨by decide, by decide⟩ (Nat.le_of_ble_eq_true rfl) ?_
  refine am_seg s_law_185 (y := (1204, [(0, .ref 1200), (1, .ref 0), (2, .ref 140), (3, .int a3)], [.int (a3 + (nI 1)), .ref 1200, .ref 140, .int x57.1], am_D x57.2)) hF t_s_law_185 rfl rfl ?_
  refine am_gd h (fun hi h => ?_)
  refine am_sald (j := ((a3 + (nI 1)).toNatClampNeg)) d_L_law_1204 hB.1 hi rfl hF ?_
  refine am_seg s_law_186 (y := (1209, [(0, .ref 1200), (1, .ref 0), (2, .ref 140), (3, .int a3)], [.int (a3 + (nI 2)), .ref 1200, .int (xs ((a3 + (nI 1)).toNatClampNeg)), .ref 140, .int x57.1], am_D x57.2)) hF t_s_law_186 rfl rfl ?_
  refine am_gd h (fun hi h => ?_)
  refine am_sald (j := ((a3 + (nI 2)).toNatClampNeg)) d_L_law_1209 hB.1 hi rfl hF ?_
  refine am_bd h (fun x58 hx h => ?_)
  refine am_callV (As := [.int (xs ((a3 + (nI 1)).toNatClampNeg)), .int (xs ((a3 + (nI 2)).toNatClampNeg))]) (r := (some (.int x58.1))) (st := [.int x57.1]) (σ' := am_D x58.2) (ci := 12) hF hR d_L_law_1210 (c_M_level (τ' := x58.2) hx) (Nat.le_refl _) (Nat.le_refl _) wl_L_136 wi_yX12_level we_yX12_level wn_ShareHouseModel wc_yX12_level (Nat.le_of_ble_eq_true rfl) (Nat.le_of_ble_eq_true rfl) rfl rfl wy_yX12_level rfl ⟨by decide, by decide⟩ (Nat.le_of_ble_eq_true rfl) ?_
  refine am_ite h (fun hc h => ?_) (fun hc h => ?_)
  · refine am_icmp_eq_t (t := 1448) d_L_law_1213 (by decide) hc hF ?_
    refine am_seg s_law_187 (y := (18, [(3, .int (a3 + (nI 4))), (0, .ref 1200), (1, .ref 0), (2, .ref 140)], [], am_D x58.2)) hF t_s_law_187 rfl rfl ?_
    refine am_pick [1, 2, 3, 0] rfl ?_
    exact hk18 _ _ h
  · refine am_icmp_eq_f (t := 1448) d_L_law_1213 (by decide) hc hF ?_
    refine am_seg s_law_188 (y := (1217, [(0, .ref 1200), (1, .ref 0), (2, .ref 140), (3, .int a3)], [.int (nI 0)], am_D x58.2)) hF t_s_law_188 rfl rfl ?_
    exact absurd (am_pair h).1 (by decide)
def law_1218 (L : Nat) (xs : Nat → Int32) (k18 : am_T → Int32 → Option (Int32 × am_T)) (τ : am_T) (a3 : Int32) : Option (Int32 × am_T) :=
  am_g (am_in (a3 + (nI 1)) L) (am_g (am_in (a3 + (nI 2)) L) (am_g (am_in (a3 + (nI 3)) L) ((X_left τ (xs ((a3 + (nI 1)).toNatClampNeg)) (xs ((a3 + (nI 2)).toNatClampNeg)) (xs ((a3 + (nI 3)).toNatClampNeg))).bind (fun x59 =>
  am_g (am_in (a3 + (nI 1)) L) (am_g (am_in (a3 + (nI 2)) L) (am_g (am_in (a3 + (nI 3)) L) ((M_left x59.2 (xs ((a3 + (nI 1)).toNatClampNeg)) (xs ((a3 + (nI 2)).toNatClampNeg)) (xs ((a3 + (nI 3)).toNatClampNeg))).bind (fun x60 =>
  if x59.1 = x60.1 then
  (k18 x60.2 (a3 + (nI 4)))
else
  (some ((nI 0), x60.2))))))))))
set_option maxRecDepth 20000 in
theorem ok_law_1218 {L : Nat} {xs : Nat → Int32} {X : am_X} {τ' : am_T} (hF : am_F X "ShareHouseLaw" cL_law 4) (hR : am_R X 12 261) (hB : am_L X L xs) {k18 : am_T → Int32 → Option (Int32 × am_T)} (hk18 : ∀ (τ : am_T) (a3 : Int32), k18 τ a3 = some (nI 1, τ') → am_W X 4 (18, [(0, .ref 1200), (1, .ref 0), (2, .ref 140), (3, .int a3)], [], am_D τ)) {τ : am_T} {a3 : Int32} (h : law_1218 L xs k18 τ a3 = some (nI 1, τ')) : am_W X 4 (1218, [(0, .ref 1200), (1, .ref 0), (2, .ref 140), (3, .int a3)], [], am_D τ) := by
  unfold law_1218 at h
  refine am_seg s_law_189 (y := (1223, [(0, .ref 1200), (1, .ref 0), (2, .ref 140), (3, .int a3)], [.int (a3 + (nI 1)), .ref 1200, .ref 0], am_D τ)) hF t_s_law_189 rfl rfl ?_
  refine am_gd h (fun hi h => ?_)
  refine am_sald (j := ((a3 + (nI 1)).toNatClampNeg)) d_L_law_1223 hB.1 hi rfl hF ?_
  refine am_seg s_law_190 (y := (1228, [(0, .ref 1200), (1, .ref 0), (2, .ref 140), (3, .int a3)], [.int (a3 + (nI 2)), .ref 1200, .int (xs ((a3 + (nI 1)).toNatClampNeg)), .ref 0], am_D τ)) hF t_s_law_190 rfl rfl ?_
  refine am_gd h (fun hi h => ?_)
  refine am_sald (j := ((a3 + (nI 2)).toNatClampNeg)) d_L_law_1228 hB.1 hi rfl hF ?_
  refine am_seg s_law_191 (y := (1233, [(0, .ref 1200), (1, .ref 0), (2, .ref 140), (3, .int a3)], [.int (a3 + (nI 3)), .ref 1200, .int (xs ((a3 + (nI 2)).toNatClampNeg)), .int (xs ((a3 + (nI 1)).toNatClampNeg)), .ref 0], am_D τ)) hF t_s_law_191 rfl rfl ?_
  refine am_gd h (fun hi h => ?_)
  refine am_sald (j := ((a3 + (nI 3)).toNatClampNeg)) d_L_law_1233 hB.1 hi rfl hF ?_
  refine am_bd h (fun x59 hx h => ?_)
  refine am_callV (As := [.int (xs ((a3 + (nI 1)).toNatClampNeg)), .int (xs ((a3 + (nI 2)).toNatClampNeg)), .int (xs ((a3 + (nI 3)).toNatClampNeg))]) (r := (some (.int x59.1))) (st := []) (σ' := am_D x59.2) (ci := 11) hF hR d_L_law_1234 (c_X_left (τ' := x59.2) hx) (Nat.le_refl _) (Nat.le_refl _) wl_L_137 wi_yX11_left we_yX11_left wn_ShareHouse wc_yX11_left (Nat.le_of_ble_eq_true rfl) (Nat.le_of_ble_eq_true rfl) rfl rfl wy_yX11_left rfl ⟨by decide, by decide⟩ (Nat.le_of_ble_eq_true rfl) ?_
  refine am_seg s_law_192 (y := (1242, [(0, .ref 1200), (1, .ref 0), (2, .ref 140), (3, .int a3)], [.int (a3 + (nI 1)), .ref 1200, .ref 140, .int x59.1], am_D x59.2)) hF t_s_law_192 rfl rfl ?_
  refine am_gd h (fun hi h => ?_)
  refine am_sald (j := ((a3 + (nI 1)).toNatClampNeg)) d_L_law_1242 hB.1 hi rfl hF ?_
  refine am_seg s_law_193 (y := (1247, [(0, .ref 1200), (1, .ref 0), (2, .ref 140), (3, .int a3)], [.int (a3 + (nI 2)), .ref 1200, .int (xs ((a3 + (nI 1)).toNatClampNeg)), .ref 140, .int x59.1], am_D x59.2)) hF t_s_law_193 rfl rfl ?_
  refine am_gd h (fun hi h => ?_)
  refine am_sald (j := ((a3 + (nI 2)).toNatClampNeg)) d_L_law_1247 hB.1 hi rfl hF ?_
  refine am_seg s_law_194 (y := (1252, [(0, .ref 1200), (1, .ref 0), (2, .ref 140), (3, .int a3)], [.int (a3 + (nI 3)), .ref 1200, .int (xs ((a3 + (nI 2)).toNatClampNeg)), .int (xs ((a3 + (nI 1)).toNatClampNeg)), .ref 140, .int x59.1], am_D x59.2)) hF t_s_law_194 rfl rfl ?_
  refine am_gd h (fun hi h => ?_)
  refine am_sald (j := ((a3 + (nI 3)).toNatClampNeg)) d_L_law_1252 hB.1 hi rfl hF ?_
  refine am_bd h (fun x60 hx h => ?_)
  refine am_callV (As := [.int (xs ((a3 + (nI 1)).toNatClampNeg)), .int (xs ((a3 + (nI 2)).toNatClampNeg)), .int (xs ((a3 + (nI 3)).toNatClampNeg))]) (r := (some (.int x60.1))) (st := [.int x59.1]) (σ' := am_D x60.2) (ci := 12) hF hR d_L_law_1253 (c_M_left (τ' := x60.2) hx) (Nat.le_refl _) (Nat.le_refl _) wl_L_140 wi_yX12_left we_yX12_left wn_ShareHouseModel wc_yX12_left (Nat.le_of_ble_eq_true rfl) (Nat.le_of_ble_eq_true rfl) rfl rfl wy_yX12_left rfl ⟨by decide, by decide⟩ (Nat.le_of_ble_eq_true rfl) ?_
  refine am_ite h (fun hc h => ?_) (fun hc h => ?_)
  · refine am_icmp_eq_t (t := 1448) d_L_law_1256 (by decide) hc hF ?_
    refine am_seg s_law_195 (y := (18, [(3, .int (a3 + (nI 4))), (0, .ref 1200), (1, .ref 0), (2, .ref 140)], [], am_D x60.2)) hF t_s_law_195 rfl rfl ?_
    refine am_pick [1, 2, 3, 0] rfl ?_
    exact hk18 _ _ h
  · refine am_icmp_eq_f (t := 1448) d_L_law_1256 (by decide) hc hF ?_
    refine am_seg s_law_196 (y := (1260, [(0, .ref 1200), (1, .ref 0), (2, .ref 140), (3, .int a3)], [.int (nI 0)], am_D x60.2)) hF t_s_law_196 rfl rfl ?_
    exact absurd (am_pair h).1 (by decide)
def law_1261 (L : Nat) (xs : Nat → Int32) (k18 : am_T → Int32 → Option (Int32 × am_T)) (τ : am_T) (a3 : Int32) : Option (Int32 × am_T) :=
  am_g (am_in (a3 + (nI 1)) L) ((X_worst τ (xs ((a3 + (nI 1)).toNatClampNeg))).bind (fun x61 =>
  am_g (am_in (a3 + (nI 1)) L) ((M_worst x61.2 (xs ((a3 + (nI 1)).toNatClampNeg))).bind (fun x62 =>
  if x61.1 = x62.1 then
  (k18 x62.2 (a3 + (nI 4)))
else
  (some ((nI 0), x62.2))))))
set_option maxRecDepth 20000 in
theorem ok_law_1261 {L : Nat} {xs : Nat → Int32} {X : am_X} {τ' : am_T} (hF : am_F X "ShareHouseLaw" cL_law 4) (hR : am_R X 12 261) (hB : am_L X L xs) {k18 : am_T → Int32 → Option (Int32 × am_T)} (hk18 : ∀ (τ : am_T) (a3 : Int32), k18 τ a3 = some (nI 1, τ') → am_W X 4 (18, [(0, .ref 1200), (1, .ref 0), (2, .ref 140), (3, .int a3)], [], am_D τ)) {τ : am_T} {a3 : Int32} (h : law_1261 L xs k18 τ a3 = some (nI 1, τ')) : am_W X 4 (1261, [(0, .ref 1200), (1, .ref 0), (2, .ref 140), (3, .int a3)], [], am_D τ) := by
  unfold law_1261 at h
  refine am_seg s_law_197 (y := (1266, [(0, .ref 1200), (1, .ref 0), (2, .ref 140), (3, .int a3)], [.int (a3 + (nI 1)), .ref 1200, .ref 0], am_D τ)) hF t_s_law_197 rfl rfl ?_
  refine am_gd h (fun hi h => ?_)
  refine am_sald (j := ((a3 + (nI 1)).toNatClampNeg)) d_L_law_1266 hB.1 hi rfl hF ?_
  refine am_bd h (fun x61 hx h => ?_)
  refine am_callV (As := [.int (xs ((a3 + (nI 1)).toNatClampNeg))]) (r := (some (.int x61.1))) (st := []) (σ' := am_D x61.2) (ci := 11) hF hR d_L_law_1267 (c_X_worst (τ' := x61.2) hx) (Nat.le_refl _) (Nat.le_refl _) wl_L_141 wi_yX11_worst we_yX11_worst wn_ShareHouse wc_yX11_worst (Nat.le_of_ble_eq_true rfl) (Nat.le_of_ble_eq_true rfl) rfl rfl wy_yX11_worst rfl ⟨by decide, by decide⟩ (Nat.le_of_ble_eq_true rfl) ?_
  refine am_seg s_law_198 (y := (1275, [(0, .ref 1200), (1, .ref 0), (2, .ref 140), (3, .int a3)], [.int (a3 + (nI 1)), .ref 1200, .ref 140, .int x61.1], am_D x61.2)) hF t_s_law_198 rfl rfl ?_
  refine am_gd h (fun hi h => ?_)
  refine am_sald (j := ((a3 + (nI 1)).toNatClampNeg)) d_L_law_1275 hB.1 hi rfl hF ?_
  refine am_bd h (fun x62 hx h => ?_)
  refine am_callV (As := [.int (xs ((a3 + (nI 1)).toNatClampNeg))]) (r := (some (.int x62.1))) (st := [.int x61.1]) (σ' := am_D x62.2) (ci := 12) hF hR d_L_law_1276 (c_M_worst (τ' := x62.2) hx) (Nat.le_refl _) (Nat.le_refl _) wl_L_144 wi_yX12_worst we_yX12_worst wn_ShareHouseModel wc_yX12_worst (Nat.le_of_ble_eq_true rfl) (Nat.le_of_ble_eq_true rfl) rfl rfl wy_yX12_worst rfl ⟨by decide, by decide⟩ (Nat.le_of_ble_eq_true rfl) ?_
  refine am_ite h (fun hc h => ?_) (fun hc h => ?_)
  · refine am_icmp_eq_t (t := 1448) d_L_law_1279 (by decide) hc hF ?_
    refine am_seg s_law_199 (y := (18, [(3, .int (a3 + (nI 4))), (0, .ref 1200), (1, .ref 0), (2, .ref 140)], [], am_D x62.2)) hF t_s_law_199 rfl rfl ?_
    refine am_pick [1, 2, 3, 0] rfl ?_
    exact hk18 _ _ h
  · refine am_icmp_eq_f (t := 1448) d_L_law_1279 (by decide) hc hF ?_
    refine am_seg s_law_200 (y := (1283, [(0, .ref 1200), (1, .ref 0), (2, .ref 140), (3, .int a3)], [.int (nI 0)], am_D x62.2)) hF t_s_law_200 rfl rfl ?_
    exact absurd (am_pair h).1 (by decide)
def law_1284 (L : Nat) (xs : Nat → Int32) (k18 : am_T → Int32 → Option (Int32 × am_T)) (τ : am_T) (a3 : Int32) : Option (Int32 × am_T) :=
  am_g (am_in (a3 + (nI 1)) L) (am_g (am_in (a3 + (nI 2)) L) ((X_row τ (xs ((a3 + (nI 1)).toNatClampNeg)) (xs ((a3 + (nI 2)).toNatClampNeg))).bind (fun x63 =>
  am_g (am_in (a3 + (nI 1)) L) (am_g (am_in (a3 + (nI 2)) L) ((M_row x63.2 (xs ((a3 + (nI 1)).toNatClampNeg)) (xs ((a3 + (nI 2)).toNatClampNeg))).bind (fun x64 =>
  if x63.1 = x64.1 then
  (k18 x64.2 (a3 + (nI 4)))
else
  (some ((nI 0), x64.2))))))))
set_option maxRecDepth 20000 in
theorem ok_law_1284 {L : Nat} {xs : Nat → Int32} {X : am_X} {τ' : am_T} (hF : am_F X "ShareHouseLaw" cL_law 4) (hR : am_R X 12 261) (hB : am_L X L xs) {k18 : am_T → Int32 → Option (Int32 × am_T)} (hk18 : ∀ (τ : am_T) (a3 : Int32), k18 τ a3 = some (nI 1, τ') → am_W X 4 (18, [(0, .ref 1200), (1, .ref 0), (2, .ref 140), (3, .int a3)], [], am_D τ)) {τ : am_T} {a3 : Int32} (h : law_1284 L xs k18 τ a3 = some (nI 1, τ')) : am_W X 4 (1284, [(0, .ref 1200), (1, .ref 0), (2, .ref 140), (3, .int a3)], [], am_D τ) := by
  unfold law_1284 at h
  refine am_seg s_law_201 (y := (1289, [(0, .ref 1200), (1, .ref 0), (2, .ref 140), (3, .int a3)], [.int (a3 + (nI 1)), .ref 1200, .ref 0], am_D τ)) hF t_s_law_201 rfl rfl ?_
  refine am_gd h (fun hi h => ?_)
  refine am_sald (j := ((a3 + (nI 1)).toNatClampNeg)) d_L_law_1289 hB.1 hi rfl hF ?_
  refine am_seg s_law_202 (y := (1294, [(0, .ref 1200), (1, .ref 0), (2, .ref 140), (3, .int a3)], [.int (a3 + (nI 2)), .ref 1200, .int (xs ((a3 + (nI 1)).toNatClampNeg)), .ref 0], am_D τ)) hF t_s_law_202 rfl rfl ?_
  refine am_gd h (fun hi h => ?_)
  refine am_sald (j := ((a3 + (nI 2)).toNatClampNeg)) d_L_law_1294 hB.1 hi rfl hF ?_
  refine am_bd h (fun x63 hx h => ?_)
  refine am_callV (As := [.int (xs ((a3 + (nI 1)).toNatClampNeg)), .int (xs ((a3 + (nI 2)).toNatClampNeg))]) (r := (some (.int x63.1))) (st := []) (σ' := am_D x63.2) (ci := 11) hF hR d_L_law_1295 (c_X_row (τ' := x63.2) hx) (Nat.le_refl _) (Nat.le_refl _) wl_L_145 wi_yX11_row we_yX11_row wn_ShareHouse wc_yX11_row (Nat.le_of_ble_eq_true rfl) (Nat.le_of_ble_eq_true rfl) rfl rfl wy_yX11_row rfl ⟨by decide, by decide⟩ (Nat.le_of_ble_eq_true rfl) ?_
  refine am_seg s_law_203 (y := (1303, [(0, .ref 1200), (1, .ref 0), (2, .ref 140), (3, .int a3)], [.int (a3 + (nI 1)), .ref 1200, .ref 140, .int x63.1], am_D x63.2)) hF t_s_law_203 rfl rfl ?_
  refine am_gd h (fun hi h => ?_)
  refine am_sald (j := ((a3 + (nI 1)).toNatClampNeg)) d_L_law_1303 hB.1 hi rfl hF ?_
  refine am_seg s_law_204 (y := (1308, [(0, .ref 1200), (1, .ref 0), (2, .ref 140), (3, .int a3)], [.int (a3 + (nI 2)), .ref 1200, .int (xs ((a3 + (nI 1)).toNatClampNeg)), .ref 140, .int x63.1], am_D x63.2)) hF t_s_law_204 rfl rfl ?_
  refine am_gd h (fun hi h => ?_)
  refine am_sald (j := ((a3 + (nI 2)).toNatClampNeg)) d_L_law_1308 hB.1 hi rfl hF ?_
  refine am_bd h (fun x64 hx h => ?_)
  refine am_callV (As := [.int (xs ((a3 + (nI 1)).toNatClampNeg)), .int (xs ((a3 + (nI 2)).toNatClampNeg))]) (r := (some (.int x64.1))) (st := [.int x63.1]) (σ' := am_D x64.2) (ci := 12) hF hR d_L_law_1309 (c_M_row (τ' := x64.2) hx) (Nat.le_refl _) (Nat.le_refl _) wl_L_148 wi_yX12_row we_yX12_row wn_ShareHouseModel wc_yX12_row (Nat.le_of_ble_eq_true rfl) (Nat.le_of_ble_eq_true rfl) rfl rfl wy_yX12_row rfl ⟨by decide, by decide⟩ (Nat.le_of_ble_eq_true rfl) ?_
  refine am_ite h (fun hc h => ?_) (fun hc h => ?_)
  · refine am_icmp_eq_t (t := 1448) d_L_law_1312 (by decide) hc hF ?_
    refine am_seg s_law_205 (y := (18, [(3, .int (a3 + (nI 4))), (0, .ref 1200), (1, .ref 0), (2, .ref 140)], [], am_D x64.2)) hF t_s_law_205 rfl rfl ?_
    refine am_pick [1, 2, 3, 0] rfl ?_
    exact hk18 _ _ h
  · refine am_icmp_eq_f (t := 1448) d_L_law_1312 (by decide) hc hF ?_
    refine am_seg s_law_206 (y := (1316, [(0, .ref 1200), (1, .ref 0), (2, .ref 140), (3, .int a3)], [.int (nI 0)], am_D x64.2)) hF t_s_law_206 rfl rfl ?_
    exact absurd (am_pair h).1 (by decide)
def law_1317 (L : Nat) (xs : Nat → Int32) (k18 : am_T → Int32 → Option (Int32 × am_T)) (τ : am_T) (a3 : Int32) : Option (Int32 × am_T) :=
  am_g (am_in (a3 + (nI 1)) L) (am_g (am_in (a3 + (nI 2)) L) (am_g (am_in (a3 + (nI 3)) L) ((X_alter τ (xs ((a3 + (nI 1)).toNatClampNeg)) (xs ((a3 + (nI 2)).toNatClampNeg)) (xs ((a3 + (nI 3)).toNatClampNeg))).bind (fun x65 =>
  am_g (am_in (a3 + (nI 1)) L) (am_g (am_in (a3 + (nI 2)) L) (am_g (am_in (a3 + (nI 3)) L) ((M_alter x65.2 (xs ((a3 + (nI 1)).toNatClampNeg)) (xs ((a3 + (nI 2)).toNatClampNeg)) (xs ((a3 + (nI 3)).toNatClampNeg))).bind (fun x66 =>
  if x65.1 = x66.1 then
  (k18 x66.2 (a3 + (nI 4)))
else
  (some ((nI 0), x66.2))))))))))
set_option maxRecDepth 20000 in
theorem ok_law_1317 {L : Nat} {xs : Nat → Int32} {X : am_X} {τ' : am_T} (hF : am_F X "ShareHouseLaw" cL_law 4) (hR : am_R X 12 261) (hB : am_L X L xs) {k18 : am_T → Int32 → Option (Int32 × am_T)} (hk18 : ∀ (τ : am_T) (a3 : Int32), k18 τ a3 = some (nI 1, τ') → am_W X 4 (18, [(0, .ref 1200), (1, .ref 0), (2, .ref 140), (3, .int a3)], [], am_D τ)) {τ : am_T} {a3 : Int32} (h : law_1317 L xs k18 τ a3 = some (nI 1, τ')) : am_W X 4 (1317, [(0, .ref 1200), (1, .ref 0), (2, .ref 140), (3, .int a3)], [], am_D τ) := by
  unfold law_1317 at h
  refine am_seg s_law_207 (y := (1322, [(0, .ref 1200), (1, .ref 0), (2, .ref 140), (3, .int a3)], [.int (a3 + (nI 1)), .ref 1200, .ref 0], am_D τ)) hF t_s_law_207 rfl rfl ?_
  refine am_gd h (fun hi h => ?_)
  refine am_sald (j := ((a3 + (nI 1)).toNatClampNeg)) d_L_law_1322 hB.1 hi rfl hF ?_
  refine am_seg s_law_208 (y := (1327, [(0, .ref 1200), (1, .ref 0), (2, .ref 140), (3, .int a3)], [.int (a3 + (nI 2)), .ref 1200, .int (xs ((a3 + (nI 1)).toNatClampNeg)), .ref 0], am_D τ)) hF t_s_law_208 rfl rfl ?_
  refine am_gd h (fun hi h => ?_)
  refine am_sald (j := ((a3 + (nI 2)).toNatClampNeg)) d_L_law_1327 hB.1 hi rfl hF ?_
  refine am_seg s_law_209 (y := (1332, [(0, .ref 1200), (1, .ref 0), (2, .ref 140), (3, .int a3)], [.int (a3 + (nI 3)), .ref 1200, .int (xs ((a3 + (nI 2)).toNatClampNeg)), .int (xs ((a3 + (nI 1)).toNatClampNeg)), .ref 0], am_D τ)) hF t_s_law_209 rfl rfl ?_
  refine am_gd h (fun hi h => ?_)
  refine am_sald (j := ((a3 + (nI 3)).toNatClampNeg)) d_L_law_1332 hB.1 hi rfl hF ?_
  refine am_bd h (fun x65 hx h => ?_)
  refine am_callV (As := [.int (xs ((a3 + (nI 1)).toNatClampNeg)), .int (xs ((a3 + (nI 2)).toNatClampNeg)), .int (xs ((a3 + (nI 3)).toNatClampNeg))]) (r := (some (.int x65.1))) (st := []) (σ' := am_D x65.2) (ci := 11) hF hR d_L_law_1333 (c_X_alter (τ' := x65.2) hx) (Nat.le_refl _) (Nat.le_refl _) wl_L_149 wi_yX11_alter we_yX11_alter wn_ShareHouse wc_yX11_alter (Nat.le_of_ble_eq_true rfl) (Nat.le_of_ble_eq_true rfl) rfl rfl wy_yX11_alter rfl ⟨by decide, by decide⟩ (Nat.le_of_ble_eq_true rfl) ?_
  refine am_seg s_law_210 (y := (1341, [(0, .ref 1200), (1, .ref 0), (2, .ref 140), (3, .int a3)], [.int (a3 + (nI 1)), .ref 1200, .ref 140, .int x65.1], am_D x65.2)) hF t_s_law_210 rfl rfl ?_
  refine am_gd h (fun hi h => ?_)
  refine am_sald (j := ((a3 + (nI 1)).toNatClampNeg)) d_L_law_1341 hB.1 hi rfl hF ?_
  refine am_seg s_law_211 (y := (1346, [(0, .ref 1200), (1, .ref 0), (2, .ref 140), (3, .int a3)], [.int (a3 + (nI 2)), .ref 1200, .int (xs ((a3 + (nI 1)).toNatClampNeg)), .ref 140, .int x65.1], am_D x65.2)) hF t_s_law_211 rfl rfl ?_
  refine am_gd h (fun hi h => ?_)
  refine am_sald (j := ((a3 + (nI 2)).toNatClampNeg)) d_L_law_1346 hB.1 hi rfl hF ?_
  refine am_seg s_law_212 (y := (1351, [(0, .ref 1200), (1, .ref 0), (2, .ref 140), (3, .int a3)], [.int (a3 + (nI 3)), .ref 1200, .int (xs ((a3 + (nI 2)).toNatClampNeg)), .int (xs ((a3 + (nI 1)).toNatClampNeg)), .ref 140, .int x65.1], am_D x65.2)) hF t_s_law_212 rfl rfl ?_
  refine am_gd h (fun hi h => ?_)
  refine am_sald (j := ((a3 + (nI 3)).toNatClampNeg)) d_L_law_1351 hB.1 hi rfl hF ?_
  refine am_bd h (fun x66 hx h => ?_)
  refine am_callV (As := [.int (xs ((a3 + (nI 1)).toNatClampNeg)), .int (xs ((a3 + (nI 2)).toNatClampNeg)), .int (xs ((a3 + (nI 3)).toNatClampNeg))]) (r := (some (.int x66.1))) (st := [.int x65.1]) (σ' := am_D x66.2) (ci := 12) hF hR d_L_law_1352 (c_M_alter (τ' := x66.2) hx) (Nat.le_refl _) (Nat.le_refl _) wl_L_152 wi_yX12_alter we_yX12_alter wn_ShareHouseModel wc_yX12_alter (Nat.le_of_ble_eq_true rfl) (Nat.le_of_ble_eq_true rfl) rfl rfl wy_yX12_alter rfl ⟨by decide, by decide⟩ (Nat.le_of_ble_eq_true rfl) ?_
  refine am_ite h (fun hc h => ?_) (fun hc h => ?_)
  · refine am_icmp_eq_t (t := 1448) d_L_law_1355 (by decide) hc hF ?_
    refine am_seg s_law_213 (y := (18, [(3, .int (a3 + (nI 4))), (0, .ref 1200), (1, .ref 0), (2, .ref 140)], [], am_D x66.2)) hF t_s_law_213 rfl rfl ?_
    refine am_pick [1, 2, 3, 0] rfl ?_
    exact hk18 _ _ h
  · refine am_icmp_eq_f (t := 1448) d_L_law_1355 (by decide) hc hF ?_
    refine am_seg s_law_214 (y := (1359, [(0, .ref 1200), (1, .ref 0), (2, .ref 140), (3, .int a3)], [.int (nI 0)], am_D x66.2)) hF t_s_law_214 rfl rfl ?_
    exact absurd (am_pair h).1 (by decide)
def law_1360 (L : Nat) (xs : Nat → Int32) (k18 : am_T → Int32 → Option (Int32 × am_T)) (τ : am_T) (a3 : Int32) : Option (Int32 × am_T) :=
  (X_drop τ).bind (fun x67 =>
  (M_drop x67.2).bind (fun x68 =>
  if x67.1 = x68.1 then
  (k18 x68.2 (a3 + (nI 4)))
else
  (some ((nI 0), x68.2))))
set_option maxRecDepth 20000 in
theorem ok_law_1360 {L : Nat} {xs : Nat → Int32} {X : am_X} {τ' : am_T} (hF : am_F X "ShareHouseLaw" cL_law 4) (hR : am_R X 12 261) (hB : am_L X L xs) {k18 : am_T → Int32 → Option (Int32 × am_T)} (hk18 : ∀ (τ : am_T) (a3 : Int32), k18 τ a3 = some (nI 1, τ') → am_W X 4 (18, [(0, .ref 1200), (1, .ref 0), (2, .ref 140), (3, .int a3)], [], am_D τ)) {τ : am_T} {a3 : Int32} (h : law_1360 L xs k18 τ a3 = some (nI 1, τ')) : am_W X 4 (1360, [(0, .ref 1200), (1, .ref 0), (2, .ref 140), (3, .int a3)], [], am_D τ) := by
  unfold law_1360 at h
  refine am_seg s_law_215 (y := (1361, [(0, .ref 1200), (1, .ref 0), (2, .ref 140), (3, .int a3)], [.ref 0], am_D τ)) hF t_s_law_215 rfl rfl ?_
  refine am_bd h (fun x67 hx h => ?_)
  refine am_callV (As := []) (r := (some (.int x67.1))) (st := []) (σ' := am_D x67.2) (ci := 11) hF hR d_L_law_1361 (c_X_drop (τ' := x67.2) hx) (Nat.le_refl _) (Nat.le_refl _) wl_L_153 wi_yX11_drop we_yX11_drop wn_ShareHouse wc_yX11_drop (Nat.le_of_ble_eq_true rfl) (Nat.le_of_ble_eq_true rfl) rfl rfl wy_yX11_drop rfl ⟨by decide, by decide⟩ (Nat.le_of_ble_eq_true rfl) ?_
  refine am_seg s_law_216 (y := (1365, [(0, .ref 1200), (1, .ref 0), (2, .ref 140), (3, .int a3)], [.ref 140, .int x67.1], am_D x67.2)) hF t_s_law_216 rfl rfl ?_
  refine am_bd h (fun x68 hx h => ?_)
  refine am_callV (As := []) (r := (some (.int x68.1))) (st := [.int x67.1]) (σ' := am_D x68.2) (ci := 12) hF hR d_L_law_1365 (c_M_drop (τ' := x68.2) hx) (Nat.le_refl _) (Nat.le_refl _) wl_L_157 wi_yX12_drop we_yX12_drop wn_ShareHouseModel wc_yX12_drop (Nat.le_of_ble_eq_true rfl) (Nat.le_of_ble_eq_true rfl) rfl rfl wy_yX12_drop rfl ⟨by decide, by decide⟩ (Nat.le_of_ble_eq_true rfl) ?_
  refine am_ite h (fun hc h => ?_) (fun hc h => ?_)
  · refine am_icmp_eq_t (t := 1448) d_L_law_1368 (by decide) hc hF ?_
    refine am_seg s_law_217 (y := (18, [(3, .int (a3 + (nI 4))), (0, .ref 1200), (1, .ref 0), (2, .ref 140)], [], am_D x68.2)) hF t_s_law_217 rfl rfl ?_
    refine am_pick [1, 2, 3, 0] rfl ?_
    exact hk18 _ _ h
  · refine am_icmp_eq_f (t := 1448) d_L_law_1368 (by decide) hc hF ?_
    refine am_seg s_law_218 (y := (1372, [(0, .ref 1200), (1, .ref 0), (2, .ref 140), (3, .int a3)], [.int (nI 0)], am_D x68.2)) hF t_s_law_218 rfl rfl ?_
    exact absurd (am_pair h).1 (by decide)
def law_1373 (L : Nat) (xs : Nat → Int32) (k18 : am_T → Int32 → Option (Int32 × am_T)) (τ : am_T) (a3 : Int32) : Option (Int32 × am_T) :=
  (X_check τ).bind (fun x69 =>
  (M_check x69.2).bind (fun x70 =>
  if x69.1 = x70.1 then
  (k18 x70.2 (a3 + (nI 4)))
else
  (some ((nI 0), x70.2))))
set_option maxRecDepth 20000 in
theorem ok_law_1373 {L : Nat} {xs : Nat → Int32} {X : am_X} {τ' : am_T} (hF : am_F X "ShareHouseLaw" cL_law 4) (hR : am_R X 12 261) (hB : am_L X L xs) {k18 : am_T → Int32 → Option (Int32 × am_T)} (hk18 : ∀ (τ : am_T) (a3 : Int32), k18 τ a3 = some (nI 1, τ') → am_W X 4 (18, [(0, .ref 1200), (1, .ref 0), (2, .ref 140), (3, .int a3)], [], am_D τ)) {τ : am_T} {a3 : Int32} (h : law_1373 L xs k18 τ a3 = some (nI 1, τ')) : am_W X 4 (1373, [(0, .ref 1200), (1, .ref 0), (2, .ref 140), (3, .int a3)], [], am_D τ) := by
  unfold law_1373 at h
  refine am_seg s_law_219 (y := (1374, [(0, .ref 1200), (1, .ref 0), (2, .ref 140), (3, .int a3)], [.ref 0], am_D τ)) hF t_s_law_219 rfl rfl ?_
  refine am_bd h (fun x69 hx h => ?_)
  refine am_callV (As := []) (r := (some (.int x69.1))) (st := []) (σ' := am_D x69.2) (ci := 11) hF hR d_L_law_1374 (c_X_check (τ' := x69.2) hx) (Nat.le_refl _) (Nat.le_refl _) wl_L_158 wi_yX11_check we_yX11_check wn_ShareHouse wc_yX11_check (Nat.le_of_ble_eq_true rfl) (Nat.le_of_ble_eq_true rfl) rfl rfl wy_yX11_check rfl ⟨by decide, by decide⟩ (Nat.le_of_ble_eq_true rfl) ?_
  refine am_seg s_law_220 (y := (1378, [(0, .ref 1200), (1, .ref 0), (2, .ref 140), (3, .int a3)], [.ref 140, .int x69.1], am_D x69.2)) hF t_s_law_220 rfl rfl ?_
  refine am_bd h (fun x70 hx h => ?_)
  refine am_callV (As := []) (r := (some (.int x70.1))) (st := [.int x69.1]) (σ' := am_D x70.2) (ci := 12) hF hR d_L_law_1378 (c_M_check (τ' := x70.2) hx) (Nat.le_refl _) (Nat.le_refl _) wl_L_161 wi_yX12_check we_yX12_check wn_ShareHouseModel wc_yX12_check (Nat.le_of_ble_eq_true rfl) (Nat.le_of_ble_eq_true rfl) rfl rfl wy_yX12_check rfl ⟨by decide, by decide⟩ (Nat.le_of_ble_eq_true rfl) ?_
  refine am_ite h (fun hc h => ?_) (fun hc h => ?_)
  · refine am_icmp_eq_t (t := 1448) d_L_law_1381 (by decide) hc hF ?_
    refine am_seg s_law_221 (y := (18, [(3, .int (a3 + (nI 4))), (0, .ref 1200), (1, .ref 0), (2, .ref 140)], [], am_D x70.2)) hF t_s_law_221 rfl rfl ?_
    refine am_pick [1, 2, 3, 0] rfl ?_
    exact hk18 _ _ h
  · refine am_icmp_eq_f (t := 1448) d_L_law_1381 (by decide) hc hF ?_
    refine am_seg s_law_222 (y := (1385, [(0, .ref 1200), (1, .ref 0), (2, .ref 140), (3, .int a3)], [.int (nI 0)], am_D x70.2)) hF t_s_law_222 rfl rfl ?_
    exact absurd (am_pair h).1 (by decide)
def law_1386 (L : Nat) (xs : Nat → Int32) (k18 : am_T → Int32 → Option (Int32 × am_T)) (τ : am_T) (a3 : Int32) : Option (Int32 × am_T) :=
  (X_buyers τ).bind (fun x71 =>
  (M_buyers x71.2).bind (fun x72 =>
  if x71.1 = x72.1 then
  (k18 x72.2 (a3 + (nI 4)))
else
  (some ((nI 0), x72.2))))
set_option maxRecDepth 20000 in
theorem ok_law_1386 {L : Nat} {xs : Nat → Int32} {X : am_X} {τ' : am_T} (hF : am_F X "ShareHouseLaw" cL_law 4) (hR : am_R X 12 261) (hB : am_L X L xs) {k18 : am_T → Int32 → Option (Int32 × am_T)} (hk18 : ∀ (τ : am_T) (a3 : Int32), k18 τ a3 = some (nI 1, τ') → am_W X 4 (18, [(0, .ref 1200), (1, .ref 0), (2, .ref 140), (3, .int a3)], [], am_D τ)) {τ : am_T} {a3 : Int32} (h : law_1386 L xs k18 τ a3 = some (nI 1, τ')) : am_W X 4 (1386, [(0, .ref 1200), (1, .ref 0), (2, .ref 140), (3, .int a3)], [], am_D τ) := by
  unfold law_1386 at h
  refine am_seg s_law_223 (y := (1387, [(0, .ref 1200), (1, .ref 0), (2, .ref 140), (3, .int a3)], [.ref 0], am_D τ)) hF t_s_law_223 rfl rfl ?_
  refine am_bd h (fun x71 hx h => ?_)
  refine am_callV (As := []) (r := (some (.int x71.1))) (st := []) (σ' := am_D x71.2) (ci := 11) hF hR d_L_law_1387 (c_X_buyers (τ' := x71.2) hx) (Nat.le_refl _) (Nat.le_refl _) wl_L_162 wi_yX11_buyers we_yX11_buyers wn_ShareHouse wc_yX11_buyers (Nat.le_of_ble_eq_true rfl) (Nat.le_of_ble_eq_true rfl) rfl rfl wy_yX11_buyers rfl ⟨by decide, by decide⟩ (Nat.le_of_ble_eq_true rfl) ?_
  refine am_seg s_law_224 (y := (1391, [(0, .ref 1200), (1, .ref 0), (2, .ref 140), (3, .int a3)], [.ref 140, .int x71.1], am_D x71.2)) hF t_s_law_224 rfl rfl ?_
  refine am_bd h (fun x72 hx h => ?_)
  refine am_callV (As := []) (r := (some (.int x72.1))) (st := [.int x71.1]) (σ' := am_D x72.2) (ci := 12) hF hR d_L_law_1391 (c_M_buyers (τ' := x72.2) hx) (Nat.le_refl _) (Nat.le_refl _) wl_L_165 wi_yX12_buyers we_yX12_buyers wn_ShareHouseModel wc_yX12_buyers (Nat.le_of_ble_eq_true rfl) (Nat.le_of_ble_eq_true rfl) rfl rfl wy_yX12_buyers rfl ⟨by decide, by decide⟩ (Nat.le_of_ble_eq_true rfl) ?_
  refine am_ite h (fun hc h => ?_) (fun hc h => ?_)
  · refine am_icmp_eq_t (t := 1448) d_L_law_1394 (by decide) hc hF ?_
    refine am_seg s_law_225 (y := (18, [(3, .int (a3 + (nI 4))), (0, .ref 1200), (1, .ref 0), (2, .ref 140)], [], am_D x72.2)) hF t_s_law_225 rfl rfl ?_
    refine am_pick [1, 2, 3, 0] rfl ?_
    exact hk18 _ _ h
  · refine am_icmp_eq_f (t := 1448) d_L_law_1394 (by decide) hc hF ?_
    refine am_seg s_law_226 (y := (1398, [(0, .ref 1200), (1, .ref 0), (2, .ref 140), (3, .int a3)], [.int (nI 0)], am_D x72.2)) hF t_s_law_226 rfl rfl ?_
    exact absurd (am_pair h).1 (by decide)
def law_1399 (L : Nat) (xs : Nat → Int32) (k18 : am_T → Int32 → Option (Int32 × am_T)) (τ : am_T) (a3 : Int32) : Option (Int32 × am_T) :=
  am_g (am_in (a3 + (nI 1)) L) ((X_many τ (xs ((a3 + (nI 1)).toNatClampNeg))).bind (fun x73 =>
  am_g (am_in (a3 + (nI 1)) L) ((M_many x73.2 (xs ((a3 + (nI 1)).toNatClampNeg))).bind (fun x74 =>
  if x73.1 = x74.1 then
  (k18 x74.2 (a3 + (nI 4)))
else
  (some ((nI 0), x74.2))))))
set_option maxRecDepth 20000 in
theorem ok_law_1399 {L : Nat} {xs : Nat → Int32} {X : am_X} {τ' : am_T} (hF : am_F X "ShareHouseLaw" cL_law 4) (hR : am_R X 12 261) (hB : am_L X L xs) {k18 : am_T → Int32 → Option (Int32 × am_T)} (hk18 : ∀ (τ : am_T) (a3 : Int32), k18 τ a3 = some (nI 1, τ') → am_W X 4 (18, [(0, .ref 1200), (1, .ref 0), (2, .ref 140), (3, .int a3)], [], am_D τ)) {τ : am_T} {a3 : Int32} (h : law_1399 L xs k18 τ a3 = some (nI 1, τ')) : am_W X 4 (1399, [(0, .ref 1200), (1, .ref 0), (2, .ref 140), (3, .int a3)], [], am_D τ) := by
  unfold law_1399 at h
  refine am_seg s_law_227 (y := (1404, [(0, .ref 1200), (1, .ref 0), (2, .ref 140), (3, .int a3)], [.int (a3 + (nI 1)), .ref 1200, .ref 0], am_D τ)) hF t_s_law_227 rfl rfl ?_
  refine am_gd h (fun hi h => ?_)
  refine am_sald (j := ((a3 + (nI 1)).toNatClampNeg)) d_L_law_1404 hB.1 hi rfl hF ?_
  refine am_bd h (fun x73 hx h => ?_)
  refine am_callV (As := [.int (xs ((a3 + (nI 1)).toNatClampNeg))]) (r := (some (.int x73.1))) (st := []) (σ' := am_D x73.2) (ci := 11) hF hR d_L_law_1405 (c_X_many (τ' := x73.2) hx) (Nat.le_refl _) (Nat.le_refl _) wl_L_166 wi_yX11_many we_yX11_many wn_ShareHouse wc_yX11_many (Nat.le_of_ble_eq_true rfl) (Nat.le_of_ble_eq_true rfl) rfl rfl wy_yX11_many rfl ⟨by decide, by decide⟩ (Nat.le_of_ble_eq_true rfl) ?_
  refine am_seg s_law_228 (y := (1413, [(0, .ref 1200), (1, .ref 0), (2, .ref 140), (3, .int a3)], [.int (a3 + (nI 1)), .ref 1200, .ref 140, .int x73.1], am_D x73.2)) hF t_s_law_228 rfl rfl ?_
  refine am_gd h (fun hi h => ?_)
  refine am_sald (j := ((a3 + (nI 1)).toNatClampNeg)) d_L_law_1413 hB.1 hi rfl hF ?_
  refine am_bd h (fun x74 hx h => ?_)
  refine am_callV (As := [.int (xs ((a3 + (nI 1)).toNatClampNeg))]) (r := (some (.int x74.1))) (st := [.int x73.1]) (σ' := am_D x74.2) (ci := 12) hF hR d_L_law_1414 (c_M_many (τ' := x74.2) hx) (Nat.le_refl _) (Nat.le_refl _) wl_L_169 wi_yX12_many we_yX12_many wn_ShareHouseModel wc_yX12_many (Nat.le_of_ble_eq_true rfl) (Nat.le_of_ble_eq_true rfl) rfl rfl wy_yX12_many rfl ⟨by decide, by decide⟩ (Nat.le_of_ble_eq_true rfl) ?_
  refine am_ite h (fun hc h => ?_) (fun hc h => ?_)
  · refine am_icmp_eq_t (t := 1448) d_L_law_1417 (by decide) hc hF ?_
    refine am_seg s_law_229 (y := (18, [(3, .int (a3 + (nI 4))), (0, .ref 1200), (1, .ref 0), (2, .ref 140)], [], am_D x74.2)) hF t_s_law_229 rfl rfl ?_
    refine am_pick [1, 2, 3, 0] rfl ?_
    exact hk18 _ _ h
  · refine am_icmp_eq_f (t := 1448) d_L_law_1417 (by decide) hc hF ?_
    refine am_seg s_law_230 (y := (1421, [(0, .ref 1200), (1, .ref 0), (2, .ref 140), (3, .int a3)], [.int (nI 0)], am_D x74.2)) hF t_s_law_230 rfl rfl ?_
    exact absurd (am_pair h).1 (by decide)
def law_1422 (L : Nat) (xs : Nat → Int32) (k18 : am_T → Int32 → Option (Int32 × am_T)) (τ : am_T) (a3 : Int32) : Option (Int32 × am_T) :=
  (X_keep τ).bind (fun x75 =>
  (M_keep x75.2).bind (fun x76 =>
  if x75.1 = x76.1 then
  (k18 x76.2 (a3 + (nI 4)))
else
  (some ((nI 0), x76.2))))
set_option maxRecDepth 20000 in
theorem ok_law_1422 {L : Nat} {xs : Nat → Int32} {X : am_X} {τ' : am_T} (hF : am_F X "ShareHouseLaw" cL_law 4) (hR : am_R X 12 261) (hB : am_L X L xs) {k18 : am_T → Int32 → Option (Int32 × am_T)} (hk18 : ∀ (τ : am_T) (a3 : Int32), k18 τ a3 = some (nI 1, τ') → am_W X 4 (18, [(0, .ref 1200), (1, .ref 0), (2, .ref 140), (3, .int a3)], [], am_D τ)) {τ : am_T} {a3 : Int32} (h : law_1422 L xs k18 τ a3 = some (nI 1, τ')) : am_W X 4 (1422, [(0, .ref 1200), (1, .ref 0), (2, .ref 140), (3, .int a3)], [], am_D τ) := by
  unfold law_1422 at h
  refine am_seg s_law_231 (y := (1423, [(0, .ref 1200), (1, .ref 0), (2, .ref 140), (3, .int a3)], [.ref 0], am_D τ)) hF t_s_law_231 rfl rfl ?_
  refine am_bd h (fun x75 hx h => ?_)
  refine am_callV (As := []) (r := (some (.int x75.1))) (st := []) (σ' := am_D x75.2) (ci := 11) hF hR d_L_law_1423 (c_X_keep (τ' := x75.2) hx) (Nat.le_refl _) (Nat.le_refl _) wl_L_170 wi_yX11_keep we_yX11_keep wn_ShareHouse wc_yX11_keep (Nat.le_of_ble_eq_true rfl) (Nat.le_of_ble_eq_true rfl) rfl rfl wy_yX11_keep rfl ⟨by decide, by decide⟩ (Nat.le_of_ble_eq_true rfl) ?_
  refine am_seg s_law_232 (y := (1427, [(0, .ref 1200), (1, .ref 0), (2, .ref 140), (3, .int a3)], [.ref 140, .int x75.1], am_D x75.2)) hF t_s_law_232 rfl rfl ?_
  refine am_bd h (fun x76 hx h => ?_)
  refine am_callV (As := []) (r := (some (.int x76.1))) (st := [.int x75.1]) (σ' := am_D x76.2) (ci := 12) hF hR d_L_law_1427 (c_M_keep (τ' := x76.2) hx) (Nat.le_refl _) (Nat.le_refl _) wl_L_173 wi_yX12_keep we_yX12_keep wn_ShareHouseModel wc_yX12_keep (Nat.le_of_ble_eq_true rfl) (Nat.le_of_ble_eq_true rfl) rfl rfl wy_yX12_keep rfl ⟨by decide, by decide⟩ (Nat.le_of_ble_eq_true rfl) ?_
  refine am_ite h (fun hc h => ?_) (fun hc h => ?_)
  · refine am_icmp_eq_t (t := 1448) d_L_law_1430 (by decide) hc hF ?_
    refine am_seg s_law_233 (y := (18, [(3, .int (a3 + (nI 4))), (0, .ref 1200), (1, .ref 0), (2, .ref 140)], [], am_D x76.2)) hF t_s_law_233 rfl rfl ?_
    refine am_pick [1, 2, 3, 0] rfl ?_
    exact hk18 _ _ h
  · refine am_icmp_eq_f (t := 1448) d_L_law_1430 (by decide) hc hF ?_
    refine am_seg s_law_234 (y := (1434, [(0, .ref 1200), (1, .ref 0), (2, .ref 140), (3, .int a3)], [.int (nI 0)], am_D x76.2)) hF t_s_law_234 rfl rfl ?_
    exact absurd (am_pair h).1 (by decide)
def law_1435 (L : Nat) (xs : Nat → Int32) (k18 : am_T → Int32 → Option (Int32 × am_T)) (τ : am_T) (a3 : Int32) : Option (Int32 × am_T) :=
  (X_back τ).bind (fun x77 =>
  (M_back x77.2).bind (fun x78 =>
  if x77.1 = x78.1 then
  (k18 x78.2 (a3 + (nI 4)))
else
  (some ((nI 0), x78.2))))
set_option maxRecDepth 20000 in
theorem ok_law_1435 {L : Nat} {xs : Nat → Int32} {X : am_X} {τ' : am_T} (hF : am_F X "ShareHouseLaw" cL_law 4) (hR : am_R X 12 261) (hB : am_L X L xs) {k18 : am_T → Int32 → Option (Int32 × am_T)} (hk18 : ∀ (τ : am_T) (a3 : Int32), k18 τ a3 = some (nI 1, τ') → am_W X 4 (18, [(0, .ref 1200), (1, .ref 0), (2, .ref 140), (3, .int a3)], [], am_D τ)) {τ : am_T} {a3 : Int32} (h : law_1435 L xs k18 τ a3 = some (nI 1, τ')) : am_W X 4 (1435, [(0, .ref 1200), (1, .ref 0), (2, .ref 140), (3, .int a3)], [], am_D τ) := by
  unfold law_1435 at h
  refine am_seg s_law_235 (y := (1436, [(0, .ref 1200), (1, .ref 0), (2, .ref 140), (3, .int a3)], [.ref 0], am_D τ)) hF t_s_law_235 rfl rfl ?_
  refine am_bd h (fun x77 hx h => ?_)
  refine am_callV (As := []) (r := (some (.int x77.1))) (st := []) (σ' := am_D x77.2) (ci := 11) hF hR d_L_law_1436 (c_X_back (τ' := x77.2) hx) (Nat.le_refl _) (Nat.le_refl _) wl_L_174 wi_yX11_back we_yX11_back wn_ShareHouse wc_yX11_back (Nat.le_of_ble_eq_true rfl) (Nat.le_of_ble_eq_true rfl) rfl rfl wy_yX11_back rfl ⟨by decide, by decide⟩ (Nat.le_of_ble_eq_true rfl) ?_
  refine am_seg s_law_236 (y := (1440, [(0, .ref 1200), (1, .ref 0), (2, .ref 140), (3, .int a3)], [.ref 140, .int x77.1], am_D x77.2)) hF t_s_law_236 rfl rfl ?_
  refine am_bd h (fun x78 hx h => ?_)
  refine am_callV (As := []) (r := (some (.int x78.1))) (st := [.int x77.1]) (σ' := am_D x78.2) (ci := 12) hF hR d_L_law_1440 (c_M_back (τ' := x78.2) hx) (Nat.le_refl _) (Nat.le_refl _) wl_L_177 wi_yX12_back we_yX12_back wn_ShareHouseModel wc_yX12_back (Nat.le_of_ble_eq_true rfl) (Nat.le_of_ble_eq_true rfl) rfl rfl wy_yX12_back rfl ⟨by decide, by decide⟩ (Nat.le_of_ble_eq_true rfl) ?_
  refine am_ite h (fun hc h => ?_) (fun hc h => ?_)
  · refine am_icmp_eq_t (t := 1448) d_L_law_1443 (by decide) hc hF ?_
    refine am_seg s_law_237 (y := (18, [(3, .int (a3 + (nI 4))), (0, .ref 1200), (1, .ref 0), (2, .ref 140)], [], am_D x78.2)) hF t_s_law_237 rfl rfl ?_
    refine am_pick [1, 2, 3, 0] rfl ?_
    exact hk18 _ _ h
  · refine am_icmp_eq_f (t := 1448) d_L_law_1443 (by decide) hc hF ?_
    refine am_seg s_law_238 (y := (1447, [(0, .ref 1200), (1, .ref 0), (2, .ref 140), (3, .int a3)], [.int (nI 0)], am_D x78.2)) hF t_s_law_238 rfl rfl ?_
    exact absurd (am_pair h).1 (by decide)
def law_18 (L : Nat) (xs : Nat → Int32) : Nat → am_T → Int32 → Option (Int32 × am_T)
  | 0, _, _ => none
  | n + 1, τ, a3 =>
    if ((nI L) - (nI 4)) < a3 then
  (some ((nI 1), τ))
else
  (am_g (am_in a3 L) (if (((xs (a3.toNatClampNeg)) &&& (nI 63)) : Int32).toInt < 0 ∨ 38 < (((xs (a3.toNatClampNeg)) &&& (nI 63)) : Int32).toInt then
  ((law_18 L xs n) τ (a3 + (nI 4)))
else
  (if ((xs (a3.toNatClampNeg)) &&& (nI 63)) = nI 0 then
  (law_204 L xs (law_18 L xs n) τ a3)
else
  (if ((xs (a3.toNatClampNeg)) &&& (nI 63)) = nI 1 then
  (law_263 L xs (law_18 L xs n) τ a3)
else
  (if ((xs (a3.toNatClampNeg)) &&& (nI 63)) = nI 2 then
  (law_286 L xs (law_18 L xs n) τ a3)
else
  (if ((xs (a3.toNatClampNeg)) &&& (nI 63)) = nI 3 then
  (law_349 L xs (law_18 L xs n) τ a3)
else
  (if ((xs (a3.toNatClampNeg)) &&& (nI 63)) = nI 4 then
  (law_372 L xs (law_18 L xs n) τ a3)
else
  (if ((xs (a3.toNatClampNeg)) &&& (nI 63)) = nI 5 then
  (law_415 L xs (law_18 L xs n) τ a3)
else
  (if ((xs (a3.toNatClampNeg)) &&& (nI 63)) = nI 6 then
  (law_458 L xs (law_18 L xs n) τ a3)
else
  (if ((xs (a3.toNatClampNeg)) &&& (nI 63)) = nI 7 then
  (law_492 L xs (law_18 L xs n) τ a3)
else
  (if ((xs (a3.toNatClampNeg)) &&& (nI 63)) = nI 8 then
  (law_525 L xs (law_18 L xs n) τ a3)
else
  (if ((xs (a3.toNatClampNeg)) &&& (nI 63)) = nI 9 then
  (law_558 L xs (law_18 L xs n) τ a3)
else
  (if ((xs (a3.toNatClampNeg)) &&& (nI 63)) = nI 10 then
  (law_601 L xs (law_18 L xs n) τ a3)
else
  (if ((xs (a3.toNatClampNeg)) &&& (nI 63)) = nI 11 then
  (law_634 L xs (law_18 L xs n) τ a3)
else
  (if ((xs (a3.toNatClampNeg)) &&& (nI 63)) = nI 12 then
  (law_667 L xs (law_18 L xs n) τ a3)
else
  (if ((xs (a3.toNatClampNeg)) &&& (nI 63)) = nI 13 then
  (law_710 L xs (law_18 L xs n) τ a3)
else
  (if ((xs (a3.toNatClampNeg)) &&& (nI 63)) = nI 14 then
  (law_743 L xs (law_18 L xs n) τ a3)
else
  (if ((xs (a3.toNatClampNeg)) &&& (nI 63)) = nI 15 then
  (law_786 L xs (law_18 L xs n) τ a3)
else
  (if ((xs (a3.toNatClampNeg)) &&& (nI 63)) = nI 16 then
  (law_819 L xs (law_18 L xs n) τ a3)
else
  (if ((xs (a3.toNatClampNeg)) &&& (nI 63)) = nI 17 then
  (law_852 L xs (law_18 L xs n) τ a3)
else
  (if ((xs (a3.toNatClampNeg)) &&& (nI 63)) = nI 18 then
  (law_895 L xs (law_18 L xs n) τ a3)
else
  (if ((xs (a3.toNatClampNeg)) &&& (nI 63)) = nI 19 then
  (law_928 L xs (law_18 L xs n) τ a3)
else
  (if ((xs (a3.toNatClampNeg)) &&& (nI 63)) = nI 20 then
  (law_961 L xs (law_18 L xs n) τ a3)
else
  (if ((xs (a3.toNatClampNeg)) &&& (nI 63)) = nI 21 then
  (law_984 L xs (law_18 L xs n) τ a3)
else
  (if ((xs (a3.toNatClampNeg)) &&& (nI 63)) = nI 22 then
  (law_1017 L xs (law_18 L xs n) τ a3)
else
  (if ((xs (a3.toNatClampNeg)) &&& (nI 63)) = nI 23 then
  (law_1040 L xs (law_18 L xs n) τ a3)
else
  (if ((xs (a3.toNatClampNeg)) &&& (nI 63)) = nI 24 then
  (law_1063 L xs (law_18 L xs n) τ a3)
else
  (if ((xs (a3.toNatClampNeg)) &&& (nI 63)) = nI 25 then
  (law_1096 L xs (law_18 L xs n) τ a3)
else
  (if ((xs (a3.toNatClampNeg)) &&& (nI 63)) = nI 26 then
  (law_1119 L xs (law_18 L xs n) τ a3)
else
  (if ((xs (a3.toNatClampNeg)) &&& (nI 63)) = nI 27 then
  (law_1142 L xs (law_18 L xs n) τ a3)
else
  (if ((xs (a3.toNatClampNeg)) &&& (nI 63)) = nI 28 then
  (law_1185 L xs (law_18 L xs n) τ a3)
else
  (if ((xs (a3.toNatClampNeg)) &&& (nI 63)) = nI 29 then
  (law_1218 L xs (law_18 L xs n) τ a3)
else
  (if ((xs (a3.toNatClampNeg)) &&& (nI 63)) = nI 30 then
  (law_1261 L xs (law_18 L xs n) τ a3)
else
  (if ((xs (a3.toNatClampNeg)) &&& (nI 63)) = nI 31 then
  (law_1284 L xs (law_18 L xs n) τ a3)
else
  (if ((xs (a3.toNatClampNeg)) &&& (nI 63)) = nI 32 then
  (law_1317 L xs (law_18 L xs n) τ a3)
else
  (if ((xs (a3.toNatClampNeg)) &&& (nI 63)) = nI 33 then
  (law_1360 L xs (law_18 L xs n) τ a3)
else
  (if ((xs (a3.toNatClampNeg)) &&& (nI 63)) = nI 34 then
  (law_1373 L xs (law_18 L xs n) τ a3)
else
  (if ((xs (a3.toNatClampNeg)) &&& (nI 63)) = nI 35 then
  (law_1386 L xs (law_18 L xs n) τ a3)
else
  (if ((xs (a3.toNatClampNeg)) &&& (nI 63)) = nI 36 then
  (law_1399 L xs (law_18 L xs n) τ a3)
else
  (if ((xs (a3.toNatClampNeg)) &&& (nI 63)) = nI 37 then
  (law_1422 L xs (law_18 L xs n) τ a3)
else
  (if ((xs (a3.toNatClampNeg)) &&& (nI 63)) = nI 38 then
  (law_1435 L xs (law_18 L xs n) τ a3)
else
  (none))))))))))))))))))))))))))))))))))))))))))
set_option maxRecDepth 20000 in
theorem ok_law_18 {L : Nat} {xs : Nat → Int32} {X : am_X} {τ' : am_T} (hF : am_F X "ShareHouseLaw" cL_law 4) (hR : am_R X 12 261) (hB : am_L X L xs) : ∀ (n : Nat) (τ : am_T) (a3 : Int32), law_18 L xs n τ a3 = some (nI 1, τ') → am_W X 4 (18, [(0, .ref 1200), (1, .ref 0), (2, .ref 140), (3, .int a3)], [], am_D τ) := by
  intro n
  induction n with
  | zero => intro τ a3 h; unfold law_18 at h; cases h
  | succ n ih =>
    intro τ a3 h
    unfold law_18 at h
    refine am_seg s_law_0 (y := (20, [(0, .ref 1200), (1, .ref 0), (2, .ref 140), (3, .int a3)], [.ref 1200, .int a3], am_D τ)) hF t_s_law_0 rfl rfl ?_
    refine am_xlen d_L_law_20 hB.1 hF ?_
    refine am_seg s_law_1 (y := (23, [(0, .ref 1200), (1, .ref 0), (2, .ref 140), (3, .int a3)], [.int ((nI L) - (nI 4)), .int a3], am_D τ)) hF t_s_law_1 rfl rfl ?_
    refine am_ite h (fun hc h => ?_) (fun hc h => ?_)
    · refine am_icmp_gt_t (t := 1454) d_L_law_23 (by decide) hc hF ?_
      refine am_seg s_law_2 (y := (1455, [(0, .ref 1200), (1, .ref 0), (2, .ref 140), (3, .int a3)], [.int (nI 1)], am_D τ)) hF t_s_law_2 rfl rfl ?_
      exact hB.2 d_L_law_1455 _ _
    · refine am_icmp_gt_f (t := 1454) d_L_law_23 (by decide) hc hF ?_
      refine am_seg s_law_3 (y := (28, [(0, .ref 1200), (1, .ref 0), (2, .ref 140), (3, .int a3)], [.int a3, .ref 1200], am_D τ)) hF t_s_law_3 rfl rfl ?_
      refine am_gd h (fun hi h => ?_)
      refine am_sald (j := (a3.toNatClampNeg)) d_L_law_28 hB.1 hi rfl hF ?_
      refine am_seg s_law_4 (y := (32, [(0, .ref 1200), (1, .ref 0), (2, .ref 140), (3, .int a3)], [.int ((xs (a3.toNatClampNeg)) &&& (nI 63))], am_D τ)) hF t_s_law_4 rfl rfl ?_
      refine am_ite h (fun hc h => ?_) (fun hc h => ?_)
      · refine am_tswOut (t := 1448) d_L_law_32 hc (by decide) hF ?_
        refine am_seg s_law_5 (y := (18, [(3, .int (a3 + (nI 4))), (0, .ref 1200), (1, .ref 0), (2, .ref 140)], [], am_D τ)) hF t_s_law_5 rfl rfl ?_
        refine am_pick [1, 2, 3, 0] rfl ?_
        exact ih _ _ h
      · refine am_ite h (fun hc h => ?_) (fun hc h => ?_)
        · refine am_tswIn (y := nI 0) (o := 172) (t := 204) d_L_law_32 hc (by decide) (by decide) rfl (by decide) hF ?_
          exact ok_law_204 hF hR hB ih h
        · refine am_ite h (fun hc h => ?_) (fun hc h => ?_)
          · refine am_tswIn (y := nI 1) (o := 231) (t := 263) d_L_law_32 hc (by decide) (by decide) rfl (by decide) hF ?_
            exact ok_law_263 hF hR hB ih h
          · refine am_ite h (fun hc h => ?_) (fun hc h => ?_)
            · refine am_tswIn (y := nI 2) (o := 254) (t := 286) d_L_law_32 hc (by decide) (by decide) rfl (by decide) hF ?_
              exact ok_law_286 hF hR hB ih h
            · refine am_ite h (fun hc h => ?_) (fun hc h => ?_)
              · refine am_tswIn (y := nI 3) (o := 317) (t := 349) d_L_law_32 hc (by decide) (by decide) rfl (by decide) hF ?_
                exact ok_law_349 hF hR hB ih h
              · refine am_ite h (fun hc h => ?_) (fun hc h => ?_)
                · refine am_tswIn (y := nI 4) (o := 340) (t := 372) d_L_law_32 hc (by decide) (by decide) rfl (by decide) hF ?_
                  exact ok_law_372 hF hR hB ih h
                · refine am_ite h (fun hc h => ?_) (fun hc h => ?_)
                  · refine am_tswIn (y := nI 5) (o := 383) (t := 415) d_L_law_32 hc (by decide) (by decide) rfl (by decide) hF ?_
                    exact ok_law_415 hF hR hB ih h
                  · refine am_ite h (fun hc h => ?_) (fun hc h => ?_)
                    · refine am_tswIn (y := nI 6) (o := 426) (t := 458) d_L_law_32 hc (by decide) (by decide) rfl (by decide) hF ?_
                      exact ok_law_458 hF hR hB ih h
                    · refine am_ite h (fun hc h => ?_) (fun hc h => ?_)
                      · refine am_tswIn (y := nI 7) (o := 460) (t := 492) d_L_law_32 hc (by decide) (by decide) rfl (by decide) hF ?_
                        exact ok_law_492 hF hR hB ih h
                      · refine am_ite h (fun hc h => ?_) (fun hc h => ?_)
                        · refine am_tswIn (y := nI 8) (o := 493) (t := 525) d_L_law_32 hc (by decide) (by decide) rfl (by decide) hF ?_
                          exact ok_law_525 hF hR hB ih h
                        · refine am_ite h (fun hc h => ?_) (fun hc h => ?_)
                          · refine am_tswIn (y := nI 9) (o := 526) (t := 558) d_L_law_32 hc (by decide) (by decide) rfl (by decide) hF ?_
                            exact ok_law_558 hF hR hB ih h
                          · refine am_ite h (fun hc h => ?_) (fun hc h => ?_)
                            · refine am_tswIn (y := nI 10) (o := 569) (t := 601) d_L_law_32 hc (by decide) (by decide) rfl (by decide) hF ?_
                              exact ok_law_601 hF hR hB ih h
                            · refine am_ite h (fun hc h => ?_) (fun hc h => ?_)
                              · refine am_tswIn (y := nI 11) (o := 602) (t := 634) d_L_law_32 hc (by decide) (by decide) rfl (by decide) hF ?_
                                exact ok_law_634 hF hR hB ih h
                              · refine am_ite h (fun hc h => ?_) (fun hc h => ?_)
                                · refine am_tswIn (y := nI 12) (o := 635) (t := 667) d_L_law_32 hc (by decide) (by decide) rfl (by decide) hF ?_
                                  exact ok_law_667 hF hR hB ih h
                                · refine am_ite h (fun hc h => ?_) (fun hc h => ?_)
                                  · refine am_tswIn (y := nI 13) (o := 678) (t := 710) d_L_law_32 hc (by decide) (by decide) rfl (by decide) hF ?_
                                    exact ok_law_710 hF hR hB ih h
                                  · refine am_ite h (fun hc h => ?_) (fun hc h => ?_)
                                    · refine am_tswIn (y := nI 14) (o := 711) (t := 743) d_L_law_32 hc (by decide) (by decide) rfl (by decide) hF ?_
                                      exact ok_law_743 hF hR hB ih h
                                    · refine am_ite h (fun hc h => ?_) (fun hc h => ?_)
                                      · refine am_tswIn (y := nI 15) (o := 754) (t := 786) d_L_law_32 hc (by decide) (by decide) rfl (by decide) hF ?_
                                        exact ok_law_786 hF hR hB ih h
                                      · refine am_ite h (fun hc h => ?_) (fun hc h => ?_)
                                        · refine am_tswIn (y := nI 16) (o := 787) (t := 819) d_L_law_32 hc (by decide) (by decide) rfl (by decide) hF ?_
                                          exact ok_law_819 hF hR hB ih h
                                        · refine am_ite h (fun hc h => ?_) (fun hc h => ?_)
                                          · refine am_tswIn (y := nI 17) (o := 820) (t := 852) d_L_law_32 hc (by decide) (by decide) rfl (by decide) hF ?_
                                            exact ok_law_852 hF hR hB ih h
                                          · refine am_ite h (fun hc h => ?_) (fun hc h => ?_)
                                            · refine am_tswIn (y := nI 18) (o := 863) (t := 895) d_L_law_32 hc (by decide) (by decide) rfl (by decide) hF ?_
                                              exact ok_law_895 hF hR hB ih h
                                            · refine am_ite h (fun hc h => ?_) (fun hc h => ?_)
                                              · refine am_tswIn (y := nI 19) (o := 896) (t := 928) d_L_law_32 hc (by decide) (by decide) rfl (by decide) hF ?_
                                                exact ok_law_928 hF hR hB ih h
                                              · refine am_ite h (fun hc h => ?_) (fun hc h => ?_)
                                                · refine am_tswIn (y := nI 20) (o := 929) (t := 961) d_L_law_32 hc (by decide) (by decide) rfl (by decide) hF ?_
                                                  exact ok_law_961 hF hR hB ih h
                                                · refine am_ite h (fun hc h => ?_) (fun hc h => ?_)
                                                  · refine am_tswIn (y := nI 21) (o := 952) (t := 984) d_L_law_32 hc (by decide) (by decide) rfl (by decide) hF ?_
                                                    exact ok_law_984 hF hR hB ih h
                                                  · refine am_ite h (fun hc h => ?_) (fun hc h => ?_)
                                                    · refine am_tswIn (y := nI 22) (o := 985) (t := 1017) d_L_law_32 hc (by decide) (by decide) rfl (by decide) hF ?_
                                                      exact ok_law_1017 hF hR hB ih h
                                                    · refine am_ite h (fun hc h => ?_) (fun hc h => ?_)
                                                      · refine am_tswIn (y := nI 23) (o := 1008) (t := 1040) d_L_law_32 hc (by decide) (by decide) rfl (by decide) hF ?_
                                                        exact ok_law_1040 hF hR hB ih h
                                                      · refine am_ite h (fun hc h => ?_) (fun hc h => ?_)
                                                        · refine am_tswIn (y := nI 24) (o := 1031) (t := 1063) d_L_law_32 hc (by decide) (by decide) rfl (by decide) hF ?_
                                                          exact ok_law_1063 hF hR hB ih h
                                                        · refine am_ite h (fun hc h => ?_) (fun hc h => ?_)
                                                          · refine am_tswIn (y := nI 25) (o := 1064) (t := 1096) d_L_law_32 hc (by decide) (by decide) rfl (by decide) hF ?_
                                                            exact ok_law_1096 hF hR hB ih h
                                                          · refine am_ite h (fun hc h => ?_) (fun hc h => ?_)
                                                            · refine am_tswIn (y := nI 26) (o := 1087) (t := 1119) d_L_law_32 hc (by decide) (by decide) rfl (by decide) hF ?_
                                                              exact ok_law_1119 hF hR hB ih h
                                                            · refine am_ite h (fun hc h => ?_) (fun hc h => ?_)
                                                              · refine am_tswIn (y := nI 27) (o := 1110) (t := 1142) d_L_law_32 hc (by decide) (by decide) rfl (by decide) hF ?_
                                                                exact ok_law_1142 hF hR hB ih h
                                                              · refine am_ite h (fun hc h => ?_) (fun hc h => ?_)
                                                                · refine am_tswIn (y := nI 28) (o := 1153) (t := 1185) d_L_law_32 hc (by decide) (by decide) rfl (by decide) hF ?_
                                                                  exact ok_law_1185 hF hR hB ih h
                                                                · refine am_ite h (fun hc h => ?_) (fun hc h => ?_)
                                                                  · refine am_tswIn (y := nI 29) (o := 1186) (t := 1218) d_L_law_32 hc (by decide) (by decide) rfl (by decide) hF ?_
                                                                    exact ok_law_1218 hF hR hB ih h
                                                                  · refine am_ite h (fun hc h => ?_) (fun hc h => ?_)
                                                                    · refine am_tswIn (y := nI 30) (o := 1229) (t := 1261) d_L_law_32 hc (by decide) (by decide) rfl (by decide) hF ?_
                                                                      exact ok_law_1261 hF hR hB ih h
                                                                    · refine am_ite h (fun hc h => ?_) (fun hc h => ?_)
                                                                      · refine am_tswIn (y := nI 31) (o := 1252) (t := 1284) d_L_law_32 hc (by decide) (by decide) rfl (by decide) hF ?_
                                                                        exact ok_law_1284 hF hR hB ih h
                                                                      · refine am_ite h (fun hc h => ?_) (fun hc h => ?_)
                                                                        · refine am_tswIn (y := nI 32) (o := 1285) (t := 1317) d_L_law_32 hc (by decide) (by decide) rfl (by decide) hF ?_
                                                                          exact ok_law_1317 hF hR hB ih h
                                                                        · refine am_ite h (fun hc h => ?_) (fun hc h => ?_)
                                                                          · refine am_tswIn (y := nI 33) (o := 1328) (t := 1360) d_L_law_32 hc (by decide) (by decide) rfl (by decide) hF ?_
                                                                            exact ok_law_1360 hF hR hB ih h
                                                                          · refine am_ite h (fun hc h => ?_) (fun hc h => ?_)
                                                                            · refine am_tswIn (y := nI 34) (o := 1341) (t := 1373) d_L_law_32 hc (by decide) (by decide) rfl (by decide) hF ?_
                                                                              exact ok_law_1373 hF hR hB ih h
                                                                            · refine am_ite h (fun hc h => ?_) (fun hc h => ?_)
                                                                              · refine am_tswIn (y := nI 35) (o := 1354) (t := 1386) d_L_law_32 hc (by decide) (by decide) rfl (by decide) hF ?_
                                                                                exact ok_law_1386 hF hR hB ih h
                                                                              · refine am_ite h (fun hc h => ?_) (fun hc h => ?_)
                                                                                · refine am_tswIn (y := nI 36) (o := 1367) (t := 1399) d_L_law_32 hc (by decide) (by decide) rfl (by decide) hF ?_
                                                                                  exact ok_law_1399 hF hR hB ih h
                                                                                · refine am_ite h (fun hc h => ?_) (fun hc h => ?_)
                                                                                  · refine am_tswIn (y := nI 37) (o := 1390) (t := 1422) d_L_law_32 hc (by decide) (by decide) rfl (by decide) hF ?_
                                                                                    exact ok_law_1422 hF hR hB ih h
                                                                                  · refine am_ite h (fun hc h => ?_) (fun hc h => ?_)
                                                                                    · refine am_tswIn (y := nI 38) (o := 1403) (t := 1435) d_L_law_32 hc (by decide) (by decide) rfl (by decide) hF ?_
                                                                                      exact ok_law_1435 hF hR hB ih h
                                                                                    · cases h
