abbrev rm_X2_rateOf : Room := { frames := 1, cells := 0, slots := 0, locals := 21 }
set_option maxRecDepth 100000 in
set_option maxHeartbeats 4000000 in
theorem c_X2_rateOf {l : Launch} {D : va_G} {dA : Nat → ClassId} {sh : gh_Sh} {b0 n : Nat} {M : gh_M} {x0 : Nat} {x1 : Int32} {post : Int32 → gh_M → Prop} (h : wp_X2_rateOf sh M x0 x1 post) : gh_Met l D dA sh b0 n yX2_rateOf cX2_rateOf 2 (some .int) rm_X2_rateOf M [.ref x0, .int x1] (gh_pi post) := by
  refine gh_open (by decide) (Nat.le_of_ble_eq_true rfl) (fun X C => ?_)
  show gh_G X rm_X2_rateOf 2 0 0 sh n 0 [(0, .ref x0), (1, .int x1)] [] M
  unfold wp_X2_rateOf at h
  refine k_aload_n C.1 0 rfl dX2_rateOf_0 ?_
  refine k_iload_n C.1 1 rfl dX2_rateOf_1 ?_
  obtain ⟨hs1, h⟩ := h
  refine k_callV (As := [.int x1]) (rest := []) C.1 V_X2_25 (c_X2_has h) ⟨rfl, rfl, Nat.le_of_ble_eq_true rfl, Nat.le_of_ble_eq_true rfl⟩ hs1  rfl rfl (Nat.le_of_ble_eq_true rfl) ⟨Nat.zero_le _, Nat.zero_le _⟩ dX2_rateOf_2 (kp_i fun r3 M2 h9 => ?_)
  replace h := h9
  refine k_if_eq C.1 17 dX2_rateOf_5 (by decide) (fun c4 => ?_) (fun c4 => ?_)
  · have h := h.1 c4
    refine k_iconst (v := 0) C.1 dX2_rateOf_17 (by decide) ?_
    exact k_iret C dX2_rateOf_18 h
  · have h := h.2 c4
    refine k_aload_n C.1 0 rfl dX2_rateOf_8 ?_
    obtain ⟨q5, hq5, h⟩ := h
    refine k_getR C.1 F_X2_18 dX2_rateOf_9 hs1 hq5 ?_
    refine k_iload_n C.1 1 rfl dX2_rateOf_12 ?_
    obtain ⟨hs6, h⟩ := h
    obtain ⟨hi7, h⟩ := h
    refine k_iald C.1 dX2_rateOf_13 hs6 hi7 ?_
    refine k_goto C.1 18 dX2_rateOf_14 (by decide) ?_
    exact k_iret C dX2_rateOf_18 h
abbrev rm_X2_add : Room := { frames := 1, cells := 0, slots := 0, locals := 20 }
set_option maxRecDepth 100000 in
set_option maxHeartbeats 4000000 in
theorem c_X2_add {l : Launch} {D : va_G} {dA : Nat → ClassId} {sh : gh_Sh} {b0 n : Nat} {M : gh_M} {x0 : Nat} {x1 : Int32} {x2 : Int32} {x3 : Int32} {post : gh_M → Prop} (h : wp_X2_add sh M x0 x1 x2 x3 post) : gh_Met l D dA sh b0 n yX2_add cX2_add 4 none rm_X2_add M [.ref x0, .int x1, .int x2, .int x3] (gh_pv post) := by
  refine gh_open (by decide) (Nat.le_of_ble_eq_true rfl) (fun X C => ?_)
  show gh_G X rm_X2_add 4 0 0 sh n 0 [(0, .ref x0), (1, .int x1), (2, .int x2), (3, .int x3)] [] M
  unfold wp_X2_add at h
  refine k_aload_n C.1 0 rfl dX2_add_0 ?_
  obtain ⟨hs1, h⟩ := h
  refine k_callV (As := []) (rest := []) C.1 V_X2_32 (c_X2_isFull h) ⟨rfl, rfl, Nat.le_of_ble_eq_true rfl, Nat.le_of_ble_eq_true rfl⟩ hs1  rfl rfl (Nat.le_of_ble_eq_true rfl) ⟨Nat.zero_le _, Nat.zero_le _⟩ dX2_add_1 (kp_i fun r3 M2 h9 => ?_)
  replace h := h9
  refine k_if_ne C.1 47 dX2_add_4 (by decide) (fun c4 => ?_) (fun c4 => ?_)
  · have h := h.2 c4
    exact k_vret C dX2_add_47 h
  · have h := h.1 c4
    refine k_aload_n C.1 0 rfl dX2_add_7 ?_
    obtain ⟨q5, hq5, h⟩ := h
    refine k_getR C.1 F_X2_9 dX2_add_8 hs1 hq5 ?_
    refine k_aload_n C.1 0 rfl dX2_add_11 ?_
    refine k_getI C.1 F_X2_21 dX2_add_12 hs1 ?_
    refine k_iload_n C.1 1 rfl dX2_add_15 ?_
    obtain ⟨hs7, h⟩ := h
    obtain ⟨hi6, h⟩ := h
    refine k_iast C.1 dX2_add_16 hs7 hi6 ?_
    refine k_aload_n C.1 0 rfl dX2_add_17 ?_
    obtain ⟨q8, hq8, h⟩ := h
    refine k_getR C.1 F_X2_15 dX2_add_18 hs1 hq8 ?_
    refine k_aload_n C.1 0 rfl dX2_add_21 ?_
    refine k_getI C.1 F_X2_21 dX2_add_22 hs1 ?_
    refine k_iload_n C.1 2 rfl dX2_add_25 ?_
    obtain ⟨hs10, h⟩ := h
    obtain ⟨hi9, h⟩ := h
    refine k_iast C.1 dX2_add_26 hs10 hi9 ?_
    refine k_aload_n C.1 0 rfl dX2_add_27 ?_
    obtain ⟨q11, hq11, h⟩ := h
    refine k_getR C.1 F_X2_18 dX2_add_28 hs1 hq11 ?_
    refine k_aload_n C.1 0 rfl dX2_add_31 ?_
    refine k_getI C.1 F_X2_21 dX2_add_32 hs1 ?_
    refine k_iload_n C.1 3 rfl dX2_add_35 ?_
    generalize eM12 : wI (wI M2 q5 (rI M2 x0 3).toNatClampNeg x1) q8 (rI (wI M2 q5 (rI M2 x0 3).toNatClampNeg x1) x0 3).toNatClampNeg x2 = M12
    replace h := h M12 eM12.symm
    obtain ⟨hs14, h⟩ := h
    obtain ⟨hi13, h⟩ := h
    refine k_iast C.1 dX2_add_36 hs14 hi13 ?_
    refine k_aload_n C.1 0 rfl dX2_add_37 ?_
    refine k_dup C.1 dX2_add_38 rfl ?_
    refine k_getI C.1 F_X2_21 dX2_add_39 hs1 ?_
    refine k_iconst (v := 1) C.1 dX2_add_42 (by decide) ?_
    refine k_iadd C.1 dX2_add_43 ?_
    refine k_putI C.1 F_X2_21 dX2_add_44 hs1 rfl rfl ?_
    exact k_vret C dX2_add_47 h
abbrev rm_X2_setHours : Room := { frames := 1, cells := 0, slots := 0, locals := 21 }
set_option maxRecDepth 100000 in
set_option maxHeartbeats 4000000 in
theorem c_X2_setHours {l : Launch} {D : va_G} {dA : Nat → ClassId} {sh : gh_Sh} {b0 n : Nat} {M : gh_M} {x0 : Nat} {x1 : Int32} {x2 : Int32} {post : gh_M → Prop} (h : wp_X2_setHours sh M x0 x1 x2 post) : gh_Met l D dA sh b0 n yX2_setHours cX2_setHours 3 none rm_X2_setHours M [.ref x0, .int x1, .int x2] (gh_pv post) := by
  refine gh_open (by decide) (Nat.le_of_ble_eq_true rfl) (fun X C => ?_)
  show gh_G X rm_X2_setHours 3 0 0 sh n 0 [(0, .ref x0), (1, .int x1), (2, .int x2)] [] M
  unfold wp_X2_setHours at h
  refine k_aload_n C.1 0 rfl dX2_setHours_0 ?_
  refine k_iload_n C.1 1 rfl dX2_setHours_1 ?_
  obtain ⟨hs1, h⟩ := h
  refine k_callV (As := [.int x1]) (rest := []) C.1 V_X2_25 (c_X2_has h) ⟨rfl, rfl, Nat.le_of_ble_eq_true rfl, Nat.le_of_ble_eq_true rfl⟩ hs1  rfl rfl (Nat.le_of_ble_eq_true rfl) ⟨Nat.zero_le _, Nat.zero_le _⟩ dX2_setHours_2 (kp_i fun r3 M2 h9 => ?_)
  replace h := h9
  refine k_if_eq C.1 15 dX2_setHours_5 (by decide) (fun c4 => ?_) (fun c4 => ?_)
  · have h := h.1 c4
    exact k_vret C dX2_setHours_15 h
  · have h := h.2 c4
    refine k_aload_n C.1 0 rfl dX2_setHours_8 ?_
    obtain ⟨q5, hq5, h⟩ := h
    refine k_getR C.1 F_X2_15 dX2_setHours_9 hs1 hq5 ?_
    refine k_iload_n C.1 1 rfl dX2_setHours_12 ?_
    refine k_iload_n C.1 2 rfl dX2_setHours_13 ?_
    obtain ⟨hs7, h⟩ := h
    obtain ⟨hi6, h⟩ := h
    refine k_iast C.1 dX2_setHours_14 hs7 hi6 ?_
    exact k_vret C dX2_setHours_15 h
abbrev rm_X5_signs : Room := { frames := 0, cells := 0, slots := 0, locals := 0 }
set_option maxRecDepth 100000 in
set_option maxHeartbeats 4000000 in
theorem c_X5_signs {l : Launch} {D : va_G} {dA : Nat → ClassId} {sh : gh_Sh} {b0 n : Nat} {M : gh_M} {x0 : Nat} {post : Nat → gh_M → Prop} (h : wp_X5_signs sh M x0 post) : gh_Met l D dA sh b0 n yX5_signs cX5_signs 1 (some (.object "GlossHouse$Row")) rm_X5_signs M [.ref x0] (gh_pn post) := by
  refine gh_open (by decide) (Nat.le_of_ble_eq_true rfl) (fun X C => ?_)
  show gh_G X rm_X5_signs 1 0 0 sh n 0 [(0, .ref x0)] [] M
  unfold wp_X5_signs at h
  refine k_aload_n C.1 0 rfl dX5_signs_0 ?_
  obtain ⟨hs1, h⟩ := h
  obtain ⟨q2, hq2, h⟩ := h
  refine k_getR C.1 F_X5_12 dX5_signs_1 hs1 hq2 ?_
  exact k_nret C dX5_signs_4 h
abbrev rm_X8_between : Room := { frames := 1, cells := 0, slots := 0, locals := 24 }
set_option maxRecDepth 100000 in
set_option maxHeartbeats 4000000 in
theorem b_X8_between_96 {X : gh_X} {sh : gh_Sh} {n : Nat} {post : Int32 → gh_M → Prop} (C : gh_CR X cX8_between RX8 8 (some .int) sh n 0 0 (gh_pi post)) (x0 : Nat) (x1 : Nat) (x2 : Nat) (x3 : Int32) (x5 : Int32) (x6 : Int32) (s0 : Int32) (M : gh_M) (k25 : Int32 → gh_M → Prop) (hk25 : ∀ (y3 : Int32) (M : gh_M), k25 y3 M → gh_G X rm_X8_between 8 0 0 sh n 25 [(0, .ref x0), (1, .ref x1), (2, .ref x2), (3, .int y3)] [] M) (k51 : Int32 → Int32 → gh_M → Prop) (hk51 : ∀ (y4 : Int32) (y5 : Int32) (M : gh_M), k51 y4 y5 M → gh_G X rm_X8_between 8 0 0 sh n 51 [(0, .ref x0), (1, .ref x1), (2, .ref x2), (3, .int x3), (4, .int y4), (5, .int y5)] [] M) (h : wp_X8_between_96 sh post k25 k51 x0 x1 x2 x3 x5 x6 s0 M) : gh_G X rm_X8_between 8 0 0 sh n 96 [(0, .ref x0), (1, .ref x1), (2, .ref x2), (3, .int x3), (5, .int x5), (6, .int x6)] [.int s0] M := by
  unfold wp_X8_between_96 at h
  refine k_istore (lv' := [(7, .int s0), (0, .ref x0), (1, .ref x1), (2, .ref x2), (3, .int x3), (5, .int x5), (6, .int x6)]) C.1 dX8_between_96 (by decide) rfl ?_
  refine k_aload_n C.1 1 rfl dX8_between_98 ?_
  obtain ⟨hs1, h⟩ := h
  obtain ⟨q2, hq2, h⟩ := h
  refine k_getR C.1 F_X8_9 dX8_between_99 hs1 hq2 ?_
  refine k_iload C.1 5 rfl dX8_between_102 ?_
  refine k_iload C.1 0 rfl dX8_between_104 ?_
  refine k_iload C.1 6 rfl dX8_between_106 ?_
  refine k_aload_n C.1 1 rfl dX8_between_108 ?_
  refine k_getR C.1 F_X8_9 dX8_between_109 hs1 hq2 ?_
  refine k_iload C.1 5 rfl dX8_between_112 ?_
  refine k_iconst (v := 1) C.1 dX8_between_114 (by decide) ?_
  refine k_isub C.1 dX8_between_115 ?_
  obtain ⟨hs3, h⟩ := h
  obtain ⟨hi4, h⟩ := h
  refine k_iald C.1 dX8_between_116 hs3 hi4 ?_
  refine k_mmin C.1 mm_X8_25.1 mm_X8_25.2.1 mm_X8_25.2.2.1 mm_X8_25.2.2.2 (Nat.le_of_ble_eq_true rfl) (Nat.le_of_ble_eq_true rfl) ⟨Nat.zero_le _, Nat.zero_le _⟩ dX8_between_117 ?_
  refine k_iconst (v := 1) C.1 dX8_between_120 (by decide) ?_
  refine k_iadd C.1 dX8_between_121 ?_
  refine k_mmin C.1 mm_X8_25.1 mm_X8_25.2.1 mm_X8_25.2.2.1 mm_X8_25.2.2.2 (Nat.le_of_ble_eq_true rfl) (Nat.le_of_ble_eq_true rfl) ⟨Nat.zero_le _, Nat.zero_le _⟩ dX8_between_122 ?_
  obtain ⟨hi5, h⟩ := h
  refine k_iast C.1 dX8_between_125 hs3 hi5 ?_
  refine k_iload C.1 6 rfl dX8_between_126 ?_
  refine k_istore (lv' := [(4, .int x6), (7, .int s0), (0, .ref x0), (1, .ref x1), (2, .ref x2), (3, .int x3), (5, .int x5), (6, .int x6)]) C.1 dX8_between_128 (by decide) rfl ?_
  refine k_iinc (v := x5 + 1) (lv' := [(5, .int (x5 + 1)), (4, .int x6), (7, .int s0), (0, .ref x0), (1, .ref x1), (2, .ref x2), (3, .int x3), (6, .int x6)]) C.1 6 rfl dX8_between_130 (by decide) rfl rfl ?_
  refine k_goto C.1 51 dX8_between_133 (by decide) ?_
  refine k_sub (lv' := [(0, .ref x0), (1, .ref x1), (2, .ref x2), (3, .int x3), (4, .int x6), (5, .int (x5 + 1))]) [3, 4, 5, 6, 1, 0] rfl ?_
  exact hk51 x6 (x5 + 1) (wI M q2 x5.toNatClampNeg (if (if rI M q2 (x5 - (1 : Int32)).toNatClampNeg < x6 then rI M q2 (x5 - (1 : Int32)).toNatClampNeg else x6) + (1 : Int32) < s0 then (if rI M q2 (x5 - (1 : Int32)).toNatClampNeg < x6 then rI M q2 (x5 - (1 : Int32)).toNatClampNeg else x6) + (1 : Int32) else s0)) h
set_option maxRecDepth 100000 in
set_option maxHeartbeats 4000000 in
theorem bb_X8_between_51 {X : gh_X} {sh : gh_Sh} {n : Nat} {post : Int32 → gh_M → Prop} (C : gh_CR X cX8_between RX8 8 (some .int) sh n 0 0 (gh_pi post)) (x0 : Nat) (x1 : Nat) (x2 : Nat) (x3 : Int32) (k25 : Int32 → gh_M → Prop) (hk25 : ∀ (y3 : Int32) (M : gh_M), k25 y3 M → gh_G X rm_X8_between 8 0 0 sh n 25 [(0, .ref x0), (1, .ref x1), (2, .ref x2), (3, .int y3)] [] M) (k51 : Int32 → Int32 → gh_M → Prop) (hk51 : ∀ (y4 : Int32) (y5 : Int32) (M : gh_M), k51 y4 y5 M → gh_G X rm_X8_between 8 0 0 sh n 51 [(0, .ref x0), (1, .ref x1), (2, .ref x2), (3, .int x3), (4, .int y4), (5, .int y5)] [] M) (x4 : Int32) (x5 : Int32) (M : gh_M) (h : wb_X8_between_51 sh post k25 x0 x1 x2 x3 k51 x4 x5 M) : gh_G X rm_X8_between 8 0 0 sh n 51 [(0, .ref x0), (1, .ref x1), (2, .ref x2), (3, .int x3), (4, .int x4), (5, .int x5)] [] M := by
  unfold wb_X8_between_51 at h
  refine k_iload C.1 5 rfl dX8_between_51 ?_
  refine k_aload_n C.1 2 rfl dX8_between_53 ?_
  obtain ⟨hs1, h⟩ := h
  refine k_callV (As := []) (rest := [.int x5]) C.1 V_X8_15 (c_X7_size h) ⟨rfl, rfl, Nat.le_of_ble_eq_true rfl, Nat.le_of_ble_eq_true rfl⟩ hs1  rfl rfl (Nat.le_of_ble_eq_true rfl) ⟨Nat.zero_le _, Nat.zero_le _⟩ dX8_between_54 (kp_i fun r3 M2 h9 => ?_)
  replace h := h9
  refine k_icmp_gt C.1 136 dX8_between_57 (by decide) (fun c4 => ?_) (fun c4 => ?_)
  · have h := h.1 c4
    refine k_iinc (v := x3 + 1) (lv' := [(3, .int (x3 + 1)), (0, .ref x0), (1, .ref x1), (2, .ref x2), (4, .int x4), (5, .int x5)]) C.1 3 rfl dX8_between_136 (by decide) rfl rfl ?_
    refine k_goto C.1 25 dX8_between_139 (by decide) ?_
    refine k_sub (lv' := [(0, .ref x0), (1, .ref x1), (2, .ref x2), (3, .int (x3 + 1))]) [1, 2, 3, 0] rfl ?_
    exact hk25 (x3 + 1) M2 h
  · have h := h.2 c4
    refine k_aload_n C.1 0 rfl dX8_between_60 ?_
    obtain ⟨hs5, h⟩ := h
    obtain ⟨q6, hq6, h⟩ := h
    refine k_getR C.1 F_X8_9 dX8_between_61 hs5 hq6 ?_
    refine k_iload C.1 5 rfl dX8_between_64 ?_
    obtain ⟨hs7, h⟩ := h
    obtain ⟨hi8, h⟩ := h
    refine k_iald C.1 dX8_between_66 hs7 hi8 ?_
    refine k_istore (lv' := [(6, .int (rI M2 q6 x5.toNatClampNeg)), (0, .ref x0), (1, .ref x1), (2, .ref x2), (3, .int x3), (4, .int x4), (5, .int x5)]) C.1 dX8_between_67 (by decide) rfl ?_
    refine k_aload_n C.1 2 rfl dX8_between_69 ?_
    refine k_iload_n C.1 4 rfl dX8_between_70 ?_
    refine k_iconst (v := 1) C.1 dX8_between_71 (by decide) ?_
    refine k_isub C.1 dX8_between_72 ?_
    obtain ⟨hs9, h⟩ := h
    refine k_callV (As := [.int (x3 - (1 : Int32))]) (rest := []) C.1 V_X8_21 (c_X7_at h) ⟨rfl, rfl, Nat.le_of_ble_eq_true rfl, Nat.le_of_ble_eq_true rfl⟩ hs9  rfl rfl (Nat.le_of_ble_eq_true rfl) ⟨Nat.zero_le _, Nat.zero_le _⟩ dX8_between_73 (kp_i fun r11 M10 h9 => ?_)
    replace h := h9
    refine k_aload_n C.1 3 rfl dX8_between_76 ?_
    refine k_iload C.1 6 rfl dX8_between_77 ?_
    refine k_iconst (v := 1) C.1 dX8_between_79 (by decide) ?_
    refine k_isub C.1 dX8_between_80 ?_
    refine k_callV (As := [.int (x5 - (1 : Int32))]) (rest := [.int r11]) C.1 V_X8_21 (c_X7_at h) ⟨rfl, rfl, Nat.le_of_ble_eq_true rfl, Nat.le_of_ble_eq_true rfl⟩ hs1  rfl rfl (Nat.le_of_ble_eq_true rfl) ⟨Nat.zero_le _, Nat.zero_le _⟩ dX8_between_81 (kp_i fun r13 M12 h9 => ?_)
    replace h := h9
    refine k_icmp_ne C.1 92 dX8_between_84 (by decide) (fun c14 => ?_) (fun c14 => ?_)
    · have h := h.2 c14
      refine k_iload C.1 5 rfl dX8_between_92 ?_
      refine k_iconst (v := 1) C.1 dX8_between_94 (by decide) ?_
      refine k_iadd C.1 dX8_between_95 ?_
      refine k_sub (lv' := [(0, .ref x0), (1, .ref x1), (2, .ref x2), (3, .int x3), (5, .int x5), (6, .int (rI M2 q6 x5.toNatClampNeg))]) [1, 2, 3, 4, 6, 0] rfl ?_
      exact b_X8_between_96 C x0 x1 x2 x3 x5 (rI M2 q6 x5.toNatClampNeg) (x4 + (1 : Int32)) M12 k25 hk25 k51 hk51 h
    · have h := h.1 c14
      refine k_iload C.1 5 rfl dX8_between_87 ?_
      refine k_goto C.1 96 dX8_between_89 (by decide) ?_
      refine k_sub (lv' := [(0, .ref x0), (1, .ref x1), (2, .ref x2), (3, .int x3), (5, .int x5), (6, .int (rI M2 q6 x5.toNatClampNeg))]) [1, 2, 3, 4, 6, 0] rfl ?_
      exact b_X8_between_96 C x0 x1 x2 x3 x5 (rI M2 q6 x5.toNatClampNeg) x4 M12 k25 hk25 k51 hk51 h
set_option maxRecDepth 100000 in
theorem b_X8_between_51 {X : gh_X} {sh : gh_Sh} {n : Nat} {post : Int32 → gh_M → Prop} (C : gh_CR X cX8_between RX8 8 (some .int) sh n 0 0 (gh_pi post)) (x0 : Nat) (x1 : Nat) (x2 : Nat) (x3 : Int32) (x4 : Int32) (x5 : Int32) (M : gh_M) (k25 : Int32 → gh_M → Prop) (hk25 : ∀ (y3 : Int32) (M : gh_M), k25 y3 M → gh_G X rm_X8_between 8 0 0 sh n 25 [(0, .ref x0), (1, .ref x1), (2, .ref x2), (3, .int y3)] [] M) (h : wp_X8_between_51 sh post k25 x0 x1 x2 x3 x4 x5 M) : gh_G X rm_X8_between 8 0 0 sh n 51 [(0, .ref x0), (1, .ref x1), (2, .ref x2), (3, .int x3), (4, .int x4), (5, .int x5)] [] M := by
  unfold wp_X8_between_51 at h
  exact gh_loop_use h (fun v => gh_G X rm_X8_between 8 0 0 sh n 51 [(0, .ref x0), (1, .ref x1), (2, .ref x2), (3, .int x3), (4, .int v.1), (5, .int v.2.1)] [] v.2.2) (fun k v hk hb => bb_X8_between_51 C x0 x1 x2 x3 k25 hk25 (fun x4 x5 M => k (x4, x5, M)) (fun x4 x5 M h => hk (x4, x5, M) h) v.1 v.2.1 v.2.2 hb)
set_option maxRecDepth 100000 in
set_option maxHeartbeats 4000000 in
theorem bb_X8_between_25 {X : gh_X} {sh : gh_Sh} {n : Nat} {post : Int32 → gh_M → Prop} (C : gh_CR X cX8_between RX8 8 (some .int) sh n 0 0 (gh_pi post)) (x0 : Nat) (x1 : Nat) (x2 : Nat) (k25 : Int32 → gh_M → Prop) (hk25 : ∀ (y3 : Int32) (M : gh_M), k25 y3 M → gh_G X rm_X8_between 8 0 0 sh n 25 [(0, .ref x0), (1, .ref x1), (2, .ref x2), (3, .int y3)] [] M) (x3 : Int32) (M : gh_M) (h : wb_X8_between_25 sh post x0 x1 x2 k25 x3 M) : gh_G X rm_X8_between 8 0 0 sh n 25 [(0, .ref x0), (1, .ref x1), (2, .ref x2), (3, .int x3)] [] M := by
  unfold wb_X8_between_25 at h
  refine k_iload_n C.1 3 rfl dX8_between_25 ?_
  refine k_aload_n C.1 1 rfl dX8_between_26 ?_
  obtain ⟨hs1, h⟩ := h
  refine k_callV (As := []) (rest := [.int x3]) C.1 V_X8_15 (c_X7_size h) ⟨rfl, rfl, Nat.le_of_ble_eq_true rfl, Nat.le_of_ble_eq_true rfl⟩ hs1  rfl rfl (Nat.le_of_ble_eq_true rfl) ⟨Nat.zero_le _, Nat.zero_le _⟩ dX8_between_27 (kp_i fun r3 M2 h9 => ?_)
  replace h := h9
  refine k_icmp_gt C.1 142 dX8_between_30 (by decide) (fun c4 => ?_) (fun c4 => ?_)
  · have h := h.1 c4
    refine k_aload_n C.1 0 rfl dX8_between_142 ?_
    obtain ⟨hs5, h⟩ := h
    obtain ⟨q6, hq6, h⟩ := h
    refine k_getR C.1 F_X8_9 dX8_between_143 hs5 hq6 ?_
    refine k_aload_n C.1 2 rfl dX8_between_146 ?_
    obtain ⟨hs7, h⟩ := h
    refine k_callV (As := []) (rest := [.ref q6]) C.1 V_X8_15 (c_X7_size h) ⟨rfl, rfl, Nat.le_of_ble_eq_true rfl, Nat.le_of_ble_eq_true rfl⟩ hs7  rfl rfl (Nat.le_of_ble_eq_true rfl) ⟨Nat.zero_le _, Nat.zero_le _⟩ dX8_between_147 (kp_i fun r9 M8 h9 => ?_)
    replace h := h9
    obtain ⟨hs10, h⟩ := h
    obtain ⟨hi11, h⟩ := h
    refine k_iald C.1 dX8_between_150 hs10 hi11 ?_
    exact k_iret C dX8_between_151 h
  · have h := h.2 c4
    refine k_aload_n C.1 0 rfl dX8_between_33 ?_
    obtain ⟨hs12, h⟩ := h
    obtain ⟨q13, hq13, h⟩ := h
    refine k_getR C.1 F_X8_9 dX8_between_34 hs12 hq13 ?_
    refine k_iconst (v := 0) C.1 dX8_between_37 (by decide) ?_
    obtain ⟨hs14, h⟩ := h
    obtain ⟨hi15, h⟩ := h
    refine k_iald C.1 dX8_between_38 hs14 hi15 ?_
    refine k_istore (lv' := [(4, .int (rI M2 q13 (0 : Int32).toNatClampNeg)), (0, .ref x0), (1, .ref x1), (2, .ref x2), (3, .int x3)]) C.1 dX8_between_39 (by decide) rfl ?_
    refine k_aload_n C.1 1 rfl dX8_between_41 ?_
    refine k_getR C.1 F_X8_9 dX8_between_42 hs12 hq13 ?_
    refine k_iconst (v := 0) C.1 dX8_between_45 (by decide) ?_
    refine k_iload_n C.1 4 rfl dX8_between_46 ?_
    obtain ⟨hi16, h⟩ := h
    refine k_iast C.1 dX8_between_47 hs14 hi16 ?_
    refine k_iconst (v := 1) C.1 dX8_between_48 (by decide) ?_
    refine k_istore (lv' := [(5, .int (1 : Int32)), (4, .int (rI M2 q13 (0 : Int32).toNatClampNeg)), (0, .ref x0), (1, .ref x1), (2, .ref x2), (3, .int x3)]) C.1 dX8_between_49 (by decide) rfl ?_
    refine k_sub (lv' := [(0, .ref x0), (1, .ref x1), (2, .ref x2), (3, .int x3), (4, .int (rI M2 q13 (0 : Int32).toNatClampNeg)), (5, .int (1 : Int32))]) [2, 3, 4, 5, 1, 0] rfl ?_
    exact b_X8_between_51 C x0 x1 x2 x3 (rI M2 q13 (0 : Int32).toNatClampNeg) (1 : Int32) (wI M2 q13 (0 : Int32).toNatClampNeg x3) k25 hk25 h
set_option maxRecDepth 100000 in
theorem b_X8_between_25 {X : gh_X} {sh : gh_Sh} {n : Nat} {post : Int32 → gh_M → Prop} (C : gh_CR X cX8_between RX8 8 (some .int) sh n 0 0 (gh_pi post)) (x0 : Nat) (x1 : Nat) (x2 : Nat) (x3 : Int32) (M : gh_M) (h : wp_X8_between_25 sh post x0 x1 x2 x3 M) : gh_G X rm_X8_between 8 0 0 sh n 25 [(0, .ref x0), (1, .ref x1), (2, .ref x2), (3, .int x3)] [] M := by
  unfold wp_X8_between_25 at h
  exact gh_loop_use h (fun v => gh_G X rm_X8_between 8 0 0 sh n 25 [(0, .ref x0), (1, .ref x1), (2, .ref x2), (3, .int v.1)] [] v.2) (fun k v hk hb => bb_X8_between_25 C x0 x1 x2 (fun x3 M => k (x3, M)) (fun x3 M h => hk (x3, M) h) v.1 v.2 hb)
set_option maxRecDepth 100000 in
set_option maxHeartbeats 4000000 in
theorem bb_X8_between_2 {X : gh_X} {sh : gh_Sh} {n : Nat} {post : Int32 → gh_M → Prop} (C : gh_CR X cX8_between RX8 8 (some .int) sh n 0 0 (gh_pi post)) (x0 : Nat) (x1 : Nat) (x2 : Nat) (k2 : Int32 → gh_M → Prop) (hk2 : ∀ (y3 : Int32) (M : gh_M), k2 y3 M → gh_G X rm_X8_between 8 0 0 sh n 2 [(0, .ref x0), (1, .ref x1), (2, .ref x2), (3, .int y3)] [] M) (x3 : Int32) (M : gh_M) (h : wb_X8_between_2 sh post x0 x1 x2 k2 x3 M) : gh_G X rm_X8_between 8 0 0 sh n 2 [(0, .ref x0), (1, .ref x1), (2, .ref x2), (3, .int x3)] [] M := by
  unfold wb_X8_between_2 at h
  refine k_iload_n C.1 3 rfl dX8_between_2 ?_
  refine k_aload_n C.1 2 rfl dX8_between_3 ?_
  obtain ⟨hs1, h⟩ := h
  refine k_callV (As := []) (rest := [.int x3]) C.1 V_X8_15 (c_X7_size h) ⟨rfl, rfl, Nat.le_of_ble_eq_true rfl, Nat.le_of_ble_eq_true rfl⟩ hs1  rfl rfl (Nat.le_of_ble_eq_true rfl) ⟨Nat.zero_le _, Nat.zero_le _⟩ dX8_between_4 (kp_i fun r3 M2 h9 => ?_)
  replace h := h9
  refine k_icmp_gt C.1 23 dX8_between_7 (by decide) (fun c4 => ?_) (fun c4 => ?_)
  · have h := h.1 c4
    refine k_iconst (v := 1) C.1 dX8_between_23 (by decide) ?_
    refine k_istore_n (lv' := [(3, .int (1 : Int32)), (0, .ref x0), (1, .ref x1), (2, .ref x2)]) C.1 dX8_between_24 (by decide) rfl ?_
    refine k_sub (lv' := [(0, .ref x0), (1, .ref x1), (2, .ref x2), (3, .int (1 : Int32))]) [1, 2, 3, 0] rfl ?_
    exact b_X8_between_25 C x0 x1 x2 (1 : Int32) M2 h
  · have h := h.2 c4
    refine k_aload_n C.1 0 rfl dX8_between_10 ?_
    obtain ⟨hs5, h⟩ := h
    obtain ⟨q6, hq6, h⟩ := h
    refine k_getR C.1 F_X8_9 dX8_between_11 hs5 hq6 ?_
    refine k_iload_n C.1 3 rfl dX8_between_14 ?_
    refine k_iload_n C.1 3 rfl dX8_between_15 ?_
    obtain ⟨hs8, h⟩ := h
    obtain ⟨hi7, h⟩ := h
    refine k_iast C.1 dX8_between_16 hs8 hi7 ?_
    refine k_iinc (v := x3 + 1) (lv' := [(3, .int (x3 + 1)), (0, .ref x0), (1, .ref x1), (2, .ref x2)]) C.1 3 rfl dX8_between_17 (by decide) rfl rfl ?_
    refine k_goto C.1 2 dX8_between_20 (by decide) ?_
    refine k_sub (lv' := [(0, .ref x0), (1, .ref x1), (2, .ref x2), (3, .int (x3 + 1))]) [1, 2, 3, 0] rfl ?_
    exact hk2 (x3 + 1) (wI M2 q6 x3.toNatClampNeg x3) h
set_option maxRecDepth 100000 in
theorem b_X8_between_2 {X : gh_X} {sh : gh_Sh} {n : Nat} {post : Int32 → gh_M → Prop} (C : gh_CR X cX8_between RX8 8 (some .int) sh n 0 0 (gh_pi post)) (x0 : Nat) (x1 : Nat) (x2 : Nat) (x3 : Int32) (M : gh_M) (h : wp_X8_between_2 sh post x0 x1 x2 x3 M) : gh_G X rm_X8_between 8 0 0 sh n 2 [(0, .ref x0), (1, .ref x1), (2, .ref x2), (3, .int x3)] [] M := by
  unfold wp_X8_between_2 at h
  exact gh_loop_use h (fun v => gh_G X rm_X8_between 8 0 0 sh n 2 [(0, .ref x0), (1, .ref x1), (2, .ref x2), (3, .int v.1)] [] v.2) (fun k v hk hb => bb_X8_between_2 C x0 x1 x2 (fun x3 M => k (x3, M)) (fun x3 M h => hk (x3, M) h) v.1 v.2 hb)
set_option maxRecDepth 100000 in
set_option maxHeartbeats 4000000 in
theorem c_X8_between {l : Launch} {D : va_G} {dA : Nat → ClassId} {sh : gh_Sh} {b0 n : Nat} {M : gh_M} {x0 : Nat} {x1 : Nat} {x2 : Nat} {post : Int32 → gh_M → Prop} (h : wp_X8_between sh M x0 x1 x2 post) : gh_Met l D dA sh b0 n yX8_between cX8_between 8 (some .int) rm_X8_between M [.ref x0, .ref x1, .ref x2] (gh_pi post) := by
  refine gh_open (by decide) (Nat.le_of_ble_eq_true rfl) (fun X C => ?_)
  show gh_G X rm_X8_between 8 0 0 sh n 0 [(0, .ref x0), (1, .ref x1), (2, .ref x2)] [] M
  unfold wp_X8_between at h
  refine k_iconst (v := 0) C.1 dX8_between_0 (by decide) ?_
  refine k_istore_n (lv' := [(3, .int (0 : Int32)), (0, .ref x0), (1, .ref x1), (2, .ref x2)]) C.1 dX8_between_1 (by decide) rfl ?_
  refine k_sub (lv' := [(0, .ref x0), (1, .ref x1), (2, .ref x2), (3, .int (0 : Int32))]) [1, 2, 3, 0] rfl ?_
  exact b_X8_between_2 C x0 x1 x2 (0 : Int32) M h
abbrev rm_X3_shiftOf : Room := { frames := 0, cells := 0, slots := 0, locals := 0 }
set_option maxRecDepth 100000 in
set_option maxHeartbeats 4000000 in
theorem c_X3_shiftOf {l : Launch} {D : va_G} {dA : Nat → ClassId} {sh : gh_Sh} {b0 n : Nat} {M : gh_M} {x0 : Int32} {post : Int32 → gh_M → Prop} (h : wp_X3_shiftOf sh M x0 post) : gh_Met l D dA sh b0 n yX3_shiftOf cX3_shiftOf 1 (some .int) rm_X3_shiftOf M [.int x0] (gh_pi post) := by
  refine gh_open (by decide) (Nat.le_of_ble_eq_true rfl) (fun X C => ?_)
  show gh_G X rm_X3_shiftOf 1 0 0 sh n 0 [(0, .int x0)] [] M
  unfold wp_X3_shiftOf at h
  refine k_iconst (v := 4) C.1 dX3_shiftOf_0 (by decide) ?_
  refine k_bipush (v := 7) C.1 dX3_shiftOf_1 (by decide) ?_
  refine k_iload_n C.1 0 rfl dX3_shiftOf_3 ?_
  refine k_isub C.1 dX3_shiftOf_4 ?_
  refine k_imul C.1 dX3_shiftOf_5 ?_
  exact k_iret C dX3_shiftOf_6 h
abbrev rm_X3_worthOf : Room := { frames := 1, cells := 0, slots := 0, locals := 20 }
set_option maxRecDepth 100000 in
set_option maxHeartbeats 4000000 in
theorem c_X3_worthOf {l : Launch} {D : va_G} {dA : Nat → ClassId} {sh : gh_Sh} {b0 n : Nat} {M : gh_M} {x0 : Int32} {x1 : Int32} {x2 : Int32} {post : Int64 → gh_M → Prop} (h : wp_X3_worthOf sh M x0 x1 x2 post) : gh_Met l D dA sh b0 n yX3_worthOf cX3_worthOf 3 (some .long) rm_X3_worthOf M [.int x0, .int x1, .int x2] (gh_pl post) := by
  refine gh_open (by decide) (Nat.le_of_ble_eq_true rfl) (fun X C => ?_)
  show gh_G X rm_X3_worthOf 3 0 0 sh n 0 [(0, .int x0), (1, .int x1), (2, .int x2)] [] M
  unfold wp_X3_worthOf at h
  refine k_iload_n C.1 0 rfl dX3_worthOf_0 ?_
  refine k_i2l C.1 dX3_worthOf_1 ?_
  refine k_bipush (v := 32) C.1 dX3_worthOf_2 (by decide) ?_
  refine k_lshl C.1 dX3_worthOf_4 ?_
  refine k_iload_n C.1 1 rfl dX3_worthOf_5 ?_
  refine k_i2l C.1 dX3_worthOf_6 ?_
  refine k_iload_n C.1 2 rfl dX3_worthOf_7 ?_
  refine k_callS (As := [.int x2]) (rest := [.long x1.toInt64, .long (x0.toInt64 <<< ((32 : Int32).toInt64 &&& 63))]) C.1 V_X3_55 (c_X3_shiftOf h) ⟨rfl, rfl, Nat.le_of_ble_eq_true rfl, Nat.le_of_ble_eq_true rfl⟩  rfl rfl (Nat.le_of_ble_eq_true rfl) ⟨Nat.zero_le _, Nat.zero_le _⟩ dX3_worthOf_8 (kp_i fun r2 M1 h9 => ?_)
  replace h := h9
  refine k_lshl C.1 dX3_worthOf_11 ?_
  refine k_ladd C.1 dX3_worthOf_12 ?_
  exact k_lret C dX3_worthOf_13 h
abbrev rm_X3_weigh : Room := { frames := 2, cells := 0, slots := 0, locals := 51 }
set_option maxRecDepth 100000 in
set_option maxHeartbeats 4000000 in
theorem b_X3_weigh_49 {X : gh_X} {sh : gh_Sh} {n : Nat} {post : gh_M → Prop} (C : gh_CR X cX3_weigh RX3 7 none sh n 0 0 (gh_pv post)) (x0 : Nat) (x1 : Nat) (x2 : Int32) (x3 : Nat) (x4 : Nat) (x5 : Int32) (M : gh_M) (k3 : Int32 → gh_M → Prop) (hk3 : ∀ (y5 : Int32) (M : gh_M), k3 y5 M → gh_G X rm_X3_weigh 7 0 0 sh n 3 [(0, .ref x0), (1, .ref x1), (2, .int x2), (3, .ref x3), (4, .ref x4), (5, .int y5)] [] M) (h : wp_X3_weigh_49 sh post k3 x0 x1 x2 x3 x4 x5 M) : gh_G X rm_X3_weigh 7 0 0 sh n 49 [(0, .ref x0), (1, .ref x1), (2, .int x2), (3, .ref x3), (4, .ref x4), (5, .int x5)] [] M := by
  unfold wp_X3_weigh_49 at h
  refine k_iinc (v := x5 + 1) (lv' := [(5, .int (x5 + 1)), (0, .ref x0), (1, .ref x1), (2, .int x2), (3, .ref x3), (4, .ref x4)]) C.1 5 rfl dX3_weigh_49 (by decide) rfl rfl ?_
  refine k_goto C.1 3 dX3_weigh_52 (by decide) ?_
  refine k_sub (lv' := [(0, .ref x0), (1, .ref x1), (2, .int x2), (3, .ref x3), (4, .ref x4), (5, .int (x5 + 1))]) [1, 2, 3, 4, 5, 0] rfl ?_
  exact hk3 (x5 + 1) M h
set_option maxRecDepth 100000 in
set_option maxHeartbeats 4000000 in
theorem bb_X3_weigh_3 {X : gh_X} {sh : gh_Sh} {n : Nat} {post : gh_M → Prop} (C : gh_CR X cX3_weigh RX3 7 none sh n 0 0 (gh_pv post)) (x0 : Nat) (x1 : Nat) (x2 : Int32) (x3 : Nat) (x4 : Nat) (k3 : Int32 → gh_M → Prop) (hk3 : ∀ (y5 : Int32) (M : gh_M), k3 y5 M → gh_G X rm_X3_weigh 7 0 0 sh n 3 [(0, .ref x0), (1, .ref x1), (2, .int x2), (3, .ref x3), (4, .ref x4), (5, .int y5)] [] M) (x5 : Int32) (M : gh_M) (h : wb_X3_weigh_3 sh post x0 x1 x2 x3 x4 k3 x5 M) : gh_G X rm_X3_weigh 7 0 0 sh n 3 [(0, .ref x0), (1, .ref x1), (2, .int x2), (3, .ref x3), (4, .ref x4), (5, .int x5)] [] M := by
  unfold wb_X3_weigh_3 at h
  refine k_iload C.1 5 rfl dX3_weigh_3 ?_
  refine k_aload_n C.1 3 rfl dX3_weigh_5 ?_
  obtain ⟨hs1, h⟩ := h
  refine k_callV (As := []) (rest := [.int x5]) C.1 V_X3_18 (c_X0_count h) ⟨rfl, rfl, Nat.le_of_ble_eq_true rfl, Nat.le_of_ble_eq_true rfl⟩ hs1  rfl rfl (Nat.le_of_ble_eq_true rfl) ⟨Nat.zero_le _, Nat.zero_le _⟩ dX3_weigh_6 (kp_i fun r3 M2 h9 => ?_)
  replace h := h9
  refine k_icmp_ge C.1 55 dX3_weigh_9 (by decide) (fun c4 => ?_) (fun c4 => ?_)
  · have h := h.1 c4
    exact k_vret C dX3_weigh_55 h
  · have h := h.2 c4
    refine k_aload_n C.1 3 rfl dX3_weigh_12 ?_
    refine k_iload C.1 5 rfl dX3_weigh_13 ?_
    refine k_callV (As := [.int x5]) (rest := []) C.1 V_X3_24 (c_X0_at h) ⟨rfl, rfl, Nat.le_of_ble_eq_true rfl, Nat.le_of_ble_eq_true rfl⟩ hs1  rfl rfl (Nat.le_of_ble_eq_true rfl) ⟨Nat.zero_le _, Nat.zero_le _⟩ dX3_weigh_15 (kp_q fun r6 M5 h9 => ?_)
    replace h := h9
    refine k_astoreq (lv' := [(6, va_rf r6), (0, .ref x0), (1, .ref x1), (2, .int x2), (3, .ref x3), (4, .ref x4), (5, .int x5)]) C.1 dX3_weigh_18 (by decide) rfl ?_
    refine k_aloadq C.1 0 rfl dX3_weigh_20 ?_
    refine k_ifnull C.1 49 dX3_weigh_22 (by decide) (fun e => ?_) (fun a7 e => ?_)
    · replace h := h.1 e
      subst e
      refine k_sub (lv' := [(0, .ref x0), (1, .ref x1), (2, .int x2), (3, .ref x3), (4, .ref x4), (5, .int x5)]) [1, 2, 3, 4, 5, 6] rfl ?_
      exact b_X3_weigh_49 C x0 x1 x2 x3 x4 x5 M5 k3 hk3 h
    · replace h := h.2 a7 e
      subst e
      refine k_aload_n C.1 1 rfl dX3_weigh_25 ?_
      obtain ⟨hs8, h⟩ := h
      obtain ⟨q9, hq9, h⟩ := h
      refine k_getR C.1 F_X3_15 dX3_weigh_26 hs8 hq9 ?_
      refine k_iload C.1 6 rfl dX3_weigh_29 ?_
      refine k_aload C.1 5 rfl dX3_weigh_31 ?_
      refine k_aload_n C.1 2 rfl dX3_weigh_33 ?_
      refine k_aload C.1 0 rfl dX3_weigh_34 ?_
      obtain ⟨hs10, h⟩ := h
      refine k_callV (As := []) (rest := [.ref x1, .ref x4, .int x5, .ref q9]) C.1 V_X3_28 (c_X5_signs h) ⟨rfl, rfl, Nat.le_of_ble_eq_true rfl, Nat.le_of_ble_eq_true rfl⟩ hs10  rfl rfl (Nat.le_of_ble_eq_true rfl) ⟨Nat.zero_le _, Nat.zero_le _⟩ dX3_weigh_36 (kp_n fun r12 M11 h9 => ?_)
      replace h := h9
      obtain ⟨hs13, h⟩ := h
      refine k_callV (As := [.ref x1, .ref r12]) (rest := [.int x5, .ref q9]) C.1 V_X3_59 (c_X8_between h) ⟨rfl, rfl, Nat.le_of_ble_eq_true rfl, Nat.le_of_ble_eq_true rfl⟩ hs13  rfl rfl (Nat.le_of_ble_eq_true rfl) ⟨Nat.zero_le _, Nat.zero_le _⟩ dX3_weigh_39 (kp_i fun r15 M14 h9 => ?_)
      replace h := h9
      refine k_iload C.1 6 rfl dX3_weigh_42 ?_
      refine k_iload_n C.1 3 rfl dX3_weigh_44 ?_
      refine k_callS (As := [.int r15, .int x5, .int x2]) (rest := [.int x5, .ref q9]) C.1 V_X3_43 (c_X3_worthOf h) ⟨rfl, rfl, Nat.le_of_ble_eq_true rfl, Nat.le_of_ble_eq_true rfl⟩  rfl rfl (Nat.le_of_ble_eq_true rfl) ⟨Nat.zero_le _, Nat.zero_le _⟩ dX3_weigh_45 (kp_l fun r17 M16 h9 => ?_)
      replace h := h9
      obtain ⟨hs19, h⟩ := h
      obtain ⟨hi18, h⟩ := h
      refine k_last C.1 dX3_weigh_48 hs19 hi18 ?_
      refine k_sub (lv' := [(0, .ref x0), (1, .ref x1), (2, .int x2), (3, .ref x3), (4, .ref x4), (5, .int x5)]) [1, 2, 3, 4, 5, 6] rfl ?_
      exact b_X3_weigh_49 C x0 x1 x2 x3 x4 x5 (wJ M16 q9 x5.toNatClampNeg r17) k3 hk3 h
set_option maxRecDepth 100000 in
theorem b_X3_weigh_3 {X : gh_X} {sh : gh_Sh} {n : Nat} {post : gh_M → Prop} (C : gh_CR X cX3_weigh RX3 7 none sh n 0 0 (gh_pv post)) (x0 : Nat) (x1 : Nat) (x2 : Int32) (x3 : Nat) (x4 : Nat) (x5 : Int32) (M : gh_M) (h : wp_X3_weigh_3 sh post x0 x1 x2 x3 x4 x5 M) : gh_G X rm_X3_weigh 7 0 0 sh n 3 [(0, .ref x0), (1, .ref x1), (2, .int x2), (3, .ref x3), (4, .ref x4), (5, .int x5)] [] M := by
  unfold wp_X3_weigh_3 at h
  exact gh_loop_use h (fun v => gh_G X rm_X3_weigh 7 0 0 sh n 3 [(0, .ref x0), (1, .ref x1), (2, .int x2), (3, .ref x3), (4, .ref x4), (5, .int v.1)] [] v.2) (fun k v hk hb => bb_X3_weigh_3 C x0 x1 x2 x3 x4 (fun x5 M => k (x5, M)) (fun x5 M h => hk (x5, M) h) v.1 v.2 hb)
set_option maxRecDepth 100000 in
set_option maxHeartbeats 4000000 in
theorem c_X3_weigh {l : Launch} {D : va_G} {dA : Nat → ClassId} {sh : gh_Sh} {b0 n : Nat} {M : gh_M} {x0 : Nat} {x1 : Nat} {x2 : Int32} {x3 : Nat} {x4 : Nat} {post : gh_M → Prop} (h : wp_X3_weigh sh M x0 x1 x2 x3 x4 post) : gh_Met l D dA sh b0 n yX3_weigh cX3_weigh 7 none rm_X3_weigh M [.ref x0, .ref x1, .int x2, .ref x3, .ref x4] (gh_pv post) := by
  refine gh_open (by decide) (Nat.le_of_ble_eq_true rfl) (fun X C => ?_)
  show gh_G X rm_X3_weigh 7 0 0 sh n 0 [(0, .ref x0), (1, .ref x1), (2, .int x2), (3, .ref x3), (4, .ref x4)] [] M
  unfold wp_X3_weigh at h
  refine k_iconst (v := 0) C.1 dX3_weigh_0 (by decide) ?_
  refine k_istore (lv' := [(5, .int (0 : Int32)), (0, .ref x0), (1, .ref x1), (2, .int x2), (3, .ref x3), (4, .ref x4)]) C.1 dX3_weigh_1 (by decide) rfl ?_
  refine k_sub (lv' := [(0, .ref x0), (1, .ref x1), (2, .int x2), (3, .ref x3), (4, .ref x4), (5, .int (0 : Int32))]) [1, 2, 3, 4, 5, 0] rfl ?_
  exact b_X3_weigh_3 C x0 x1 x2 x3 x4 (0 : Int32) M h
abbrev rm_X3_giveOne : Room := { frames := 1, cells := 0, slots := 0, locals := 24 }
set_option maxRecDepth 100000 in
set_option maxHeartbeats 4000000 in
theorem b_X3_giveOne_70 {X : gh_X} {sh : gh_Sh} {n : Nat} {post : gh_M → Prop} (C : gh_CR X cX3_giveOne RX3 8 none sh n 0 0 (gh_pv post)) (x0 : Nat) (x1 : Int32) (x2 : Int64) (x4 : Int32) (x5 : Int64) (x7 : Int32) (M : gh_M) (k7 : Int32 → gh_M → Prop) (hk7 : ∀ (y4 : Int32) (M : gh_M), k7 y4 M → gh_G X rm_X3_giveOne 8 0 0 sh n 7 [(0, .ref x0), (1, .int x1), (2, .long x2), (4, .int y4)] [] M) (k26 : Int64 → Int32 → gh_M → Prop) (hk26 : ∀ (y5 : Int64) (y7 : Int32) (M : gh_M), k26 y5 y7 M → gh_G X rm_X3_giveOne 8 0 0 sh n 26 [(0, .ref x0), (1, .int x1), (2, .long x2), (4, .int x4), (5, .long y5), (7, .int y7)] [] M) (h : wp_X3_giveOne_70 sh post k7 k26 x0 x1 x2 x4 x5 x7 M) : gh_G X rm_X3_giveOne 8 0 0 sh n 70 [(0, .ref x0), (1, .int x1), (2, .long x2), (4, .int x4), (5, .long x5), (7, .int x7)] [] M := by
  unfold wp_X3_giveOne_70 at h
  refine k_iinc (v := x7 + 1) (lv' := [(7, .int (x7 + 1)), (0, .ref x0), (1, .int x1), (2, .long x2), (4, .int x4), (5, .long x5)]) C.1 5 rfl dX3_giveOne_70 (by decide) rfl rfl ?_
  refine k_goto C.1 26 dX3_giveOne_73 (by decide) ?_
  refine k_sub (lv' := [(0, .ref x0), (1, .int x1), (2, .long x2), (4, .int x4), (5, .long x5), (7, .int (x7 + 1))]) [1, 2, 3, 4, 5, 0] rfl ?_
  exact hk26 x5 (x7 + 1) M h
set_option maxRecDepth 100000 in
set_option maxHeartbeats 4000000 in
theorem bb_X3_giveOne_26 {X : gh_X} {sh : gh_Sh} {n : Nat} {post : gh_M → Prop} (C : gh_CR X cX3_giveOne RX3 8 none sh n 0 0 (gh_pv post)) (x0 : Nat) (x1 : Int32) (x2 : Int64) (x4 : Int32) (k7 : Int32 → gh_M → Prop) (hk7 : ∀ (y4 : Int32) (M : gh_M), k7 y4 M → gh_G X rm_X3_giveOne 8 0 0 sh n 7 [(0, .ref x0), (1, .int x1), (2, .long x2), (4, .int y4)] [] M) (k26 : Int64 → Int32 → gh_M → Prop) (hk26 : ∀ (y5 : Int64) (y7 : Int32) (M : gh_M), k26 y5 y7 M → gh_G X rm_X3_giveOne 8 0 0 sh n 26 [(0, .ref x0), (1, .int x1), (2, .long x2), (4, .int x4), (5, .long y5), (7, .int y7)] [] M) (x5 : Int64) (x7 : Int32) (M : gh_M) (h : wb_X3_giveOne_26 sh post k7 x0 x1 x2 x4 k26 x5 x7 M) : gh_G X rm_X3_giveOne 8 0 0 sh n 26 [(0, .ref x0), (1, .int x1), (2, .long x2), (4, .int x4), (5, .long x5), (7, .int x7)] [] M := by
  unfold wb_X3_giveOne_26 at h
  refine k_iload C.1 5 rfl dX3_giveOne_26 ?_
  refine k_iload_n C.1 1 rfl dX3_giveOne_28 ?_
  refine k_icmp_ge C.1 76 dX3_giveOne_29 (by decide) (fun c1 => ?_) (fun c1 => ?_)
  · have h := h.1 c1
    refine k_aload_n C.1 0 rfl dX3_giveOne_76 ?_
    obtain ⟨hs2, h⟩ := h
    obtain ⟨q3, hq3, h⟩ := h
    refine k_getR C.1 F_X3_9 dX3_giveOne_77 hs2 hq3 ?_
    refine k_iload C.1 3 rfl dX3_giveOne_80 ?_
    refine k_lload C.1 4 rfl dX3_giveOne_82 ?_
    obtain ⟨hs5, h⟩ := h
    obtain ⟨hi4, h⟩ := h
    refine k_last C.1 dX3_giveOne_84 hs5 hi4 ?_
    refine k_iinc (v := x4 + (-1)) (lv' := [(4, .int (x4 + (-1))), (0, .ref x0), (1, .int x1), (2, .long x2), (5, .long x5), (7, .int x7)]) C.1 3 rfl dX3_giveOne_85 (by decide) rfl rfl ?_
    refine k_goto C.1 7 dX3_giveOne_88 (by decide) ?_
    refine k_sub (lv' := [(0, .ref x0), (1, .int x1), (2, .long x2), (4, .int (x4 + (-1)))]) [1, 2, 3, 0] rfl ?_
    exact hk7 (x4 + (-1)) (wJ M q3 x4.toNatClampNeg x5) h
  · have h := h.2 c1
    refine k_iload C.1 3 rfl dX3_giveOne_32 ?_
    refine k_iload C.1 5 rfl dX3_giveOne_34 ?_
    refine k_ishr C.1 dX3_giveOne_36 ?_
    refine k_iconst (v := 1) C.1 dX3_giveOne_37 (by decide) ?_
    refine k_iand C.1 dX3_giveOne_38 ?_
    refine k_iconst (v := 1) C.1 dX3_giveOne_39 (by decide) ?_
    refine k_icmp_ne C.1 70 dX3_giveOne_40 (by decide) (fun c6 => ?_) (fun c6 => ?_)
    · have h := h.2 c6
      exact b_X3_giveOne_70 C x0 x1 x2 x4 x5 x7 M k7 hk7 k26 hk26 h
    · have h := h.1 c6
      refine k_lload C.1 4 rfl dX3_giveOne_43 ?_
      refine k_aload_n C.1 0 rfl dX3_giveOne_45 ?_
      obtain ⟨hs7, h⟩ := h
      obtain ⟨q8, hq8, h⟩ := h
      refine k_getR C.1 F_X3_9 dX3_giveOne_46 hs7 hq8 ?_
      refine k_iload C.1 3 rfl dX3_giveOne_49 ?_
      refine k_iconst (v := 1) C.1 dX3_giveOne_51 (by decide) ?_
      refine k_iload C.1 5 rfl dX3_giveOne_52 ?_
      refine k_ishl C.1 dX3_giveOne_54 ?_
      refine k_ixor C.1 dX3_giveOne_55 ?_
      obtain ⟨hs9, h⟩ := h
      obtain ⟨hi10, h⟩ := h
      refine k_lald C.1 dX3_giveOne_56 hs9 hi10 ?_
      refine k_aload_n C.1 0 rfl dX3_giveOne_57 ?_
      obtain ⟨q11, hq11, h⟩ := h
      refine k_getR C.1 F_X3_15 dX3_giveOne_58 hs7 hq11 ?_
      refine k_iload C.1 5 rfl dX3_giveOne_61 ?_
      obtain ⟨hs12, h⟩ := h
      obtain ⟨hi13, h⟩ := h
      refine k_lald C.1 dX3_giveOne_63 hs12 hi13 ?_
      refine k_ladd C.1 dX3_giveOne_64 ?_
      refine k_mminl C.1 mm_X3_65.1 mm_X3_65.2.1 mm_X3_65.2.2.1 mm_X3_65.2.2.2 (Nat.le_of_ble_eq_true rfl) (Nat.le_of_ble_eq_true rfl) ⟨Nat.zero_le _, Nat.zero_le _⟩ dX3_giveOne_65 ?_
      refine k_lstore (lv' := [(5, .long (if (rJ M q8 (x4 ^^^ ((1 : Int32) <<< (x7 &&& 31))).toNatClampNeg) + (rJ M q11 x7.toNatClampNeg) < x5 then (rJ M q8 (x4 ^^^ ((1 : Int32) <<< (x7 &&& 31))).toNatClampNeg) + (rJ M q11 x7.toNatClampNeg) else x5)), (0, .ref x0), (1, .int x1), (2, .long x2), (4, .int x4), (7, .int x7)]) C.1 dX3_giveOne_68 (by decide) rfl ?_
      refine k_sub (lv' := [(0, .ref x0), (1, .int x1), (2, .long x2), (4, .int x4), (5, .long (if (rJ M q8 (x4 ^^^ ((1 : Int32) <<< (x7 &&& 31))).toNatClampNeg) + (rJ M q11 x7.toNatClampNeg) < x5 then (rJ M q8 (x4 ^^^ ((1 : Int32) <<< (x7 &&& 31))).toNatClampNeg) + (rJ M q11 x7.toNatClampNeg) else x5)), (7, .int x7)]) [1, 2, 3, 4, 0, 5] rfl ?_
      exact b_X3_giveOne_70 C x0 x1 x2 x4 (if (rJ M q8 (x4 ^^^ ((1 : Int32) <<< (x7 &&& 31))).toNatClampNeg) + (rJ M q11 x7.toNatClampNeg) < x5 then (rJ M q8 (x4 ^^^ ((1 : Int32) <<< (x7 &&& 31))).toNatClampNeg) + (rJ M q11 x7.toNatClampNeg) else x5) x7 M k7 hk7 k26 hk26 h
set_option maxRecDepth 100000 in
theorem b_X3_giveOne_26 {X : gh_X} {sh : gh_Sh} {n : Nat} {post : gh_M → Prop} (C : gh_CR X cX3_giveOne RX3 8 none sh n 0 0 (gh_pv post)) (x0 : Nat) (x1 : Int32) (x2 : Int64) (x4 : Int32) (x5 : Int64) (x7 : Int32) (M : gh_M) (k7 : Int32 → gh_M → Prop) (hk7 : ∀ (y4 : Int32) (M : gh_M), k7 y4 M → gh_G X rm_X3_giveOne 8 0 0 sh n 7 [(0, .ref x0), (1, .int x1), (2, .long x2), (4, .int y4)] [] M) (h : wp_X3_giveOne_26 sh post k7 x0 x1 x2 x4 x5 x7 M) : gh_G X rm_X3_giveOne 8 0 0 sh n 26 [(0, .ref x0), (1, .int x1), (2, .long x2), (4, .int x4), (5, .long x5), (7, .int x7)] [] M := by
  unfold wp_X3_giveOne_26 at h
  exact gh_loop_use h (fun v => gh_G X rm_X3_giveOne 8 0 0 sh n 26 [(0, .ref x0), (1, .int x1), (2, .long x2), (4, .int x4), (5, .long v.1), (7, .int v.2.1)] [] v.2.2) (fun k v hk hb => bb_X3_giveOne_26 C x0 x1 x2 x4 k7 hk7 (fun x5 x7 M => k (x5, x7, M)) (fun x5 x7 M h => hk (x5, x7, M) h) v.1 v.2.1 v.2.2 hb)
set_option maxRecDepth 100000 in
set_option maxHeartbeats 4000000 in
theorem bb_X3_giveOne_7 {X : gh_X} {sh : gh_Sh} {n : Nat} {post : gh_M → Prop} (C : gh_CR X cX3_giveOne RX3 8 none sh n 0 0 (gh_pv post)) (x0 : Nat) (x1 : Int32) (x2 : Int64) (k7 : Int32 → gh_M → Prop) (hk7 : ∀ (y4 : Int32) (M : gh_M), k7 y4 M → gh_G X rm_X3_giveOne 8 0 0 sh n 7 [(0, .ref x0), (1, .int x1), (2, .long x2), (4, .int y4)] [] M) (x4 : Int32) (M : gh_M) (h : wb_X3_giveOne_7 sh post x0 x1 x2 k7 x4 M) : gh_G X rm_X3_giveOne 8 0 0 sh n 7 [(0, .ref x0), (1, .int x1), (2, .long x2), (4, .int x4)] [] M := by
  unfold wb_X3_giveOne_7 at h
  refine k_iload C.1 3 rfl dX3_giveOne_7 ?_
  refine k_if_lt C.1 91 dX3_giveOne_9 (by decide) (fun c1 => ?_) (fun c1 => ?_)
  · have h := h.1 c1
    exact k_vret C dX3_giveOne_91 h
  · have h := h.2 c1
    refine k_aload_n C.1 0 rfl dX3_giveOne_12 ?_
    obtain ⟨hs2, h⟩ := h
    obtain ⟨q3, hq3, h⟩ := h
    refine k_getR C.1 F_X3_9 dX3_giveOne_13 hs2 hq3 ?_
    refine k_iload C.1 3 rfl dX3_giveOne_16 ?_
    obtain ⟨hs4, h⟩ := h
    obtain ⟨hi5, h⟩ := h
    refine k_lald C.1 dX3_giveOne_18 hs4 hi5 ?_
    refine k_lload_n C.1 2 rfl dX3_giveOne_19 ?_
    refine k_ladd C.1 dX3_giveOne_20 ?_
    refine k_lstore (lv' := [(5, .long ((rJ M q3 x4.toNatClampNeg) + x2)), (0, .ref x0), (1, .int x1), (2, .long x2), (4, .int x4)]) C.1 dX3_giveOne_21 (by decide) rfl ?_
    refine k_iconst (v := 0) C.1 dX3_giveOne_23 (by decide) ?_
    refine k_istore (lv' := [(7, .int (0 : Int32)), (5, .long ((rJ M q3 x4.toNatClampNeg) + x2)), (0, .ref x0), (1, .int x1), (2, .long x2), (4, .int x4)]) C.1 dX3_giveOne_24 (by decide) rfl ?_
    refine k_sub (lv' := [(0, .ref x0), (1, .int x1), (2, .long x2), (4, .int x4), (5, .long ((rJ M q3 x4.toNatClampNeg) + x2)), (7, .int (0 : Int32))]) [2, 3, 4, 5, 1, 0] rfl ?_
    exact b_X3_giveOne_26 C x0 x1 x2 x4 ((rJ M q3 x4.toNatClampNeg) + x2) (0 : Int32) M k7 hk7 h
set_option maxRecDepth 100000 in
theorem b_X3_giveOne_7 {X : gh_X} {sh : gh_Sh} {n : Nat} {post : gh_M → Prop} (C : gh_CR X cX3_giveOne RX3 8 none sh n 0 0 (gh_pv post)) (x0 : Nat) (x1 : Int32) (x2 : Int64) (x4 : Int32) (M : gh_M) (h : wp_X3_giveOne_7 sh post x0 x1 x2 x4 M) : gh_G X rm_X3_giveOne 8 0 0 sh n 7 [(0, .ref x0), (1, .int x1), (2, .long x2), (4, .int x4)] [] M := by
  unfold wp_X3_giveOne_7 at h
  exact gh_loop_use h (fun v => gh_G X rm_X3_giveOne 8 0 0 sh n 7 [(0, .ref x0), (1, .int x1), (2, .long x2), (4, .int v.1)] [] v.2) (fun k v hk hb => bb_X3_giveOne_7 C x0 x1 x2 (fun x4 M => k (x4, M)) (fun x4 M h => hk (x4, M) h) v.1 v.2 hb)
set_option maxRecDepth 100000 in
set_option maxHeartbeats 4000000 in
theorem c_X3_giveOne {l : Launch} {D : va_G} {dA : Nat → ClassId} {sh : gh_Sh} {b0 n : Nat} {M : gh_M} {x0 : Nat} {x1 : Int32} {x2 : Int64} {post : gh_M → Prop} (h : wp_X3_giveOne sh M x0 x1 x2 post) : gh_Met l D dA sh b0 n yX3_giveOne cX3_giveOne 8 none rm_X3_giveOne M [.ref x0, .int x1, .long x2] (gh_pv post) := by
  refine gh_open (by decide) (Nat.le_of_ble_eq_true rfl) (fun X C => ?_)
  show gh_G X rm_X3_giveOne 8 0 0 sh n 0 [(0, .ref x0), (1, .int x1), (2, .long x2)] [] M
  unfold wp_X3_giveOne at h
  refine k_iconst (v := 1) C.1 dX3_giveOne_0 (by decide) ?_
  refine k_iload_n C.1 1 rfl dX3_giveOne_1 ?_
  refine k_ishl C.1 dX3_giveOne_2 ?_
  refine k_iconst (v := 1) C.1 dX3_giveOne_3 (by decide) ?_
  refine k_isub C.1 dX3_giveOne_4 ?_
  refine k_istore (lv' := [(4, .int (((1 : Int32) <<< (x1 &&& 31)) - (1 : Int32))), (0, .ref x0), (1, .int x1), (2, .long x2)]) C.1 dX3_giveOne_5 (by decide) rfl ?_
  refine k_sub (lv' := [(0, .ref x0), (1, .int x1), (2, .long x2), (4, .int (((1 : Int32) <<< (x1 &&& 31)) - (1 : Int32)))]) [1, 2, 3, 0] rfl ?_
  exact b_X3_giveOne_7 C x0 x1 x2 (((1 : Int32) <<< (x1 &&& 31)) - (1 : Int32)) M h
abbrev rm_X3_match : Room := { frames := 3, cells := 0, slots := 0, locals := 77 }
set_option maxRecDepth 100000 in
set_option maxHeartbeats 4000000 in
theorem b_X3_match_99 {X : gh_X} {sh : gh_Sh} {n : Nat} {post : Int32 → gh_M → Prop} (C : gh_CR X cX3_match RX3 9 (some .int) sh n 0 0 (gh_pi post)) (x0 : Nat) (x1 : Nat) (x2 : Nat) (x3 : Nat) (x4 : Int32) (x5 : Int32) (M : gh_M) (k37 : Int32 → gh_M → Prop) (hk37 : ∀ (y5 : Int32) (M : gh_M), k37 y5 M → gh_G X rm_X3_match 9 0 0 sh n 37 [(0, .ref x0), (1, .ref x1), (2, .ref x2), (3, .ref x3), (4, .int x4), (5, .int y5)] [] M) (h : wp_X3_match_99 sh post k37 x0 x1 x2 x3 x4 x5 M) : gh_G X rm_X3_match 9 0 0 sh n 99 [(0, .ref x0), (1, .ref x1), (2, .ref x2), (3, .ref x3), (4, .int x4), (5, .int x5)] [] M := by
  unfold wp_X3_match_99 at h
  refine k_iinc (v := x5 + 1) (lv' := [(5, .int (x5 + 1)), (0, .ref x0), (1, .ref x1), (2, .ref x2), (3, .ref x3), (4, .int x4)]) C.1 5 rfl dX3_match_99 (by decide) rfl rfl ?_
  refine k_goto C.1 37 dX3_match_102 (by decide) ?_
  refine k_sub (lv' := [(0, .ref x0), (1, .ref x1), (2, .ref x2), (3, .ref x3), (4, .int x4), (5, .int (x5 + 1))]) [1, 2, 3, 4, 5, 0] rfl ?_
  exact hk37 (x5 + 1) M h
set_option maxRecDepth 100000 in
set_option maxHeartbeats 4000000 in
theorem bb_X3_match_37 {X : gh_X} {sh : gh_Sh} {n : Nat} {post : Int32 → gh_M → Prop} (C : gh_CR X cX3_match RX3 9 (some .int) sh n 0 0 (gh_pi post)) (x0 : Nat) (x1 : Nat) (x2 : Nat) (x3 : Nat) (x4 : Int32) (k37 : Int32 → gh_M → Prop) (hk37 : ∀ (y5 : Int32) (M : gh_M), k37 y5 M → gh_G X rm_X3_match 9 0 0 sh n 37 [(0, .ref x0), (1, .ref x1), (2, .ref x2), (3, .ref x3), (4, .int x4), (5, .int y5)] [] M) (x5 : Int32) (M : gh_M) (h : wb_X3_match_37 sh post x0 x1 x2 x3 x4 k37 x5 M) : gh_G X rm_X3_match 9 0 0 sh n 37 [(0, .ref x0), (1, .ref x1), (2, .ref x2), (3, .ref x3), (4, .int x4), (5, .int x5)] [] M := by
  unfold wb_X3_match_37 at h
  refine k_iload C.1 5 rfl dX3_match_37 ?_
  refine k_aload_n C.1 2 rfl dX3_match_39 ?_
  obtain ⟨hs1, h⟩ := h
  refine k_callV (As := []) (rest := [.int x5]) C.1 V_X3_18 (c_X0_count h) ⟨rfl, rfl, Nat.le_of_ble_eq_true rfl, Nat.le_of_ble_eq_true rfl⟩ hs1  rfl rfl (Nat.le_of_ble_eq_true rfl) ⟨Nat.zero_le _, Nat.zero_le _⟩ dX3_match_40 (kp_i fun r3 M2 h9 => ?_)
  replace h := h9
  refine k_icmp_ge C.1 105 dX3_match_43 (by decide) (fun c4 => ?_) (fun c4 => ?_)
  · have h := h.1 c4
    refine k_aload_n C.1 0 rfl dX3_match_105 ?_
    refine k_aload_n C.1 0 rfl dX3_match_106 ?_
    obtain ⟨hs5, h⟩ := h
    obtain ⟨q6, hq6, h⟩ := h
    refine k_getR C.1 F_X3_9 dX3_match_107 hs5 hq6 ?_
    refine k_iload C.1 4 rfl dX3_match_110 ?_
    obtain ⟨hs7, h⟩ := h
    obtain ⟨hi8, h⟩ := h
    refine k_lald C.1 dX3_match_112 hs7 hi8 ?_
    refine k_putJ C.1 F_X3_51 dX3_match_113 hs5 rfl rfl ?_
    refine k_aload_n C.1 0 rfl dX3_match_116 ?_
    refine k_getJ C.1 F_X3_51 dX3_match_117 hs5 ?_
    refine k_bipush (v := 32) C.1 dX3_match_120 (by decide) ?_
    refine k_lshr C.1 dX3_match_122 ?_
    refine k_l2i C.1 dX3_match_123 ?_
    exact k_iret C dX3_match_124 h
  · have h := h.2 c4
    refine k_aload_n C.1 2 rfl dX3_match_46 ?_
    refine k_iload C.1 5 rfl dX3_match_47 ?_
    refine k_callV (As := [.int x5]) (rest := []) C.1 V_X3_24 (c_X0_at h) ⟨rfl, rfl, Nat.le_of_ble_eq_true rfl, Nat.le_of_ble_eq_true rfl⟩ hs1  rfl rfl (Nat.le_of_ble_eq_true rfl) ⟨Nat.zero_le _, Nat.zero_le _⟩ dX3_match_49 (kp_q fun r10 M9 h9 => ?_)
    replace h := h9
    refine k_astoreq (lv' := [(6, va_rf r10), (0, .ref x0), (1, .ref x1), (2, .ref x2), (3, .ref x3), (4, .int x4), (5, .int x5)]) C.1 dX3_match_52 (by decide) rfl ?_
    refine k_aloadq C.1 0 rfl dX3_match_54 ?_
    refine k_ifnull C.1 99 dX3_match_56 (by decide) (fun e => ?_) (fun a11 e => ?_)
    · replace h := h.1 e
      subst e
      refine k_sub (lv' := [(0, .ref x0), (1, .ref x1), (2, .ref x2), (3, .ref x3), (4, .int x4), (5, .int x5)]) [1, 2, 3, 4, 5, 6] rfl ?_
      exact b_X3_match_99 C x0 x1 x2 x3 x4 x5 M9 k37 hk37 h
    · replace h := h.2 a11 e
      subst e
      refine k_aload_n C.1 1 rfl dX3_match_59 ?_
      refine k_aload C.1 0 rfl dX3_match_60 ?_
      obtain ⟨hs12, h⟩ := h
      refine k_callV (As := []) (rest := [.ref x0]) C.1 V_X3_28 (c_X5_signs h) ⟨rfl, rfl, Nat.le_of_ble_eq_true rfl, Nat.le_of_ble_eq_true rfl⟩ hs12  rfl rfl (Nat.le_of_ble_eq_true rfl) ⟨Nat.zero_le _, Nat.zero_le _⟩ dX3_match_62 (kp_n fun r14 M13 h9 => ?_)
      replace h := h9
      refine k_iload C.1 6 rfl dX3_match_65 ?_
      refine k_aload_n C.1 2 rfl dX3_match_67 ?_
      refine k_aload_n C.1 4 rfl dX3_match_68 ?_
      obtain ⟨hs15, h⟩ := h
      refine k_callV (As := [.ref r14, .int x5, .ref x1, .ref x3]) (rest := []) C.1 V_X3_34 (c_X3_weigh h) ⟨rfl, rfl, Nat.le_of_ble_eq_true rfl, Nat.le_of_ble_eq_true rfl⟩ hs15  rfl rfl (Nat.le_of_ble_eq_true rfl) ⟨Nat.zero_le _, Nat.zero_le _⟩ dX3_match_69 (kp_v fun M16 h9 => ?_)
      replace h := h9
      refine k_aload C.1 0 rfl dX3_match_72 ?_
      refine k_callV (As := []) (rest := []) C.1 V_X3_28 (c_X5_signs h) ⟨rfl, rfl, Nat.le_of_ble_eq_true rfl, Nat.le_of_ble_eq_true rfl⟩ hs12  rfl rfl (Nat.le_of_ble_eq_true rfl) ⟨Nat.zero_le _, Nat.zero_le _⟩ dX3_match_74 (kp_n fun r18 M17 h9 => ?_)
      replace h := h9
      obtain ⟨hs19, h⟩ := h
      refine k_callV (As := []) (rest := []) C.1 V_X3_38 (c_X7_size h) ⟨rfl, rfl, Nat.le_of_ble_eq_true rfl, Nat.le_of_ble_eq_true rfl⟩ hs19  rfl rfl (Nat.le_of_ble_eq_true rfl) ⟨Nat.zero_le _, Nat.zero_le _⟩ dX3_match_77 (kp_i fun r21 M20 h9 => ?_)
      replace h := h9
      refine k_bipush (v := 8) C.1 dX3_match_80 (by decide) ?_
      refine k_iload C.1 6 rfl dX3_match_82 ?_
      refine k_callS (As := [.int r21, .int (8 : Int32), .int x5]) (rest := []) C.1 V_X3_43 (c_X3_worthOf h) ⟨rfl, rfl, Nat.le_of_ble_eq_true rfl, Nat.le_of_ble_eq_true rfl⟩  rfl rfl (Nat.le_of_ble_eq_true rfl) ⟨Nat.zero_le _, Nat.zero_le _⟩ dX3_match_84 (kp_l fun r23 M22 h9 => ?_)
      replace h := h9
      refine k_lstore (lv' := [(7, .long r23), (6, .ref a11), (0, .ref x0), (1, .ref x1), (2, .ref x2), (3, .ref x3), (4, .int x4), (5, .int x5)]) C.1 dX3_match_87 (by decide) rfl ?_
      refine k_aload_n C.1 2 rfl dX3_match_89 ?_
      refine k_aload_n C.1 3 rfl dX3_match_90 ?_
      obtain ⟨hs24, h⟩ := h
      refine k_callV (As := []) (rest := [.ref x0]) C.1 V_X3_18 (c_X0_count h) ⟨rfl, rfl, Nat.le_of_ble_eq_true rfl, Nat.le_of_ble_eq_true rfl⟩ hs24  rfl rfl (Nat.le_of_ble_eq_true rfl) ⟨Nat.zero_le _, Nat.zero_le _⟩ dX3_match_91 (kp_i fun r26 M25 h9 => ?_)
      replace h := h9
      refine k_lload C.1 0 rfl dX3_match_94 ?_
      refine k_callV (As := [.int r26, .long r23]) (rest := []) C.1 V_X3_47 (c_X3_giveOne h) ⟨rfl, rfl, Nat.le_of_ble_eq_true rfl, Nat.le_of_ble_eq_true rfl⟩ hs15  rfl rfl (Nat.le_of_ble_eq_true rfl) ⟨Nat.zero_le _, Nat.zero_le _⟩ dX3_match_96 (kp_v fun M27 h9 => ?_)
      replace h := h9
      refine k_sub (lv' := [(0, .ref x0), (1, .ref x1), (2, .ref x2), (3, .ref x3), (4, .int x4), (5, .int x5)]) [2, 3, 4, 5, 6, 7] rfl ?_
      exact b_X3_match_99 C x0 x1 x2 x3 x4 x5 M27 k37 hk37 h
set_option maxRecDepth 100000 in
theorem b_X3_match_37 {X : gh_X} {sh : gh_Sh} {n : Nat} {post : Int32 → gh_M → Prop} (C : gh_CR X cX3_match RX3 9 (some .int) sh n 0 0 (gh_pi post)) (x0 : Nat) (x1 : Nat) (x2 : Nat) (x3 : Nat) (x4 : Int32) (x5 : Int32) (M : gh_M) (h : wp_X3_match_37 sh post x0 x1 x2 x3 x4 x5 M) : gh_G X rm_X3_match 9 0 0 sh n 37 [(0, .ref x0), (1, .ref x1), (2, .ref x2), (3, .ref x3), (4, .int x4), (5, .int x5)] [] M := by
  unfold wp_X3_match_37 at h
  exact gh_loop_use h (fun v => gh_G X rm_X3_match 9 0 0 sh n 37 [(0, .ref x0), (1, .ref x1), (2, .ref x2), (3, .ref x3), (4, .int x4), (5, .int v.1)] [] v.2) (fun k v hk hb => bb_X3_match_37 C x0 x1 x2 x3 x4 (fun x5 M => k (x5, M)) (fun x5 M h => hk (x5, M) h) v.1 v.2 hb)
set_option maxRecDepth 100000 in
set_option maxHeartbeats 4000000 in
theorem bb_X3_match_13 {X : gh_X} {sh : gh_Sh} {n : Nat} {post : Int32 → gh_M → Prop} (C : gh_CR X cX3_match RX3 9 (some .int) sh n 0 0 (gh_pi post)) (x0 : Nat) (x1 : Nat) (x2 : Nat) (x3 : Nat) (x4 : Int32) (k13 : Int32 → gh_M → Prop) (hk13 : ∀ (y5 : Int32) (M : gh_M), k13 y5 M → gh_G X rm_X3_match 9 0 0 sh n 13 [(0, .ref x0), (1, .ref x1), (2, .ref x2), (3, .ref x3), (4, .int x4), (5, .int y5)] [] M) (x5 : Int32) (M : gh_M) (h : wb_X3_match_13 sh post x0 x1 x2 x3 x4 k13 x5 M) : gh_G X rm_X3_match 9 0 0 sh n 13 [(0, .ref x0), (1, .ref x1), (2, .ref x2), (3, .ref x3), (4, .int x4), (5, .int x5)] [] M := by
  unfold wb_X3_match_13 at h
  refine k_iload C.1 5 rfl dX3_match_13 ?_
  refine k_iload C.1 4 rfl dX3_match_15 ?_
  refine k_icmp_gt C.1 34 dX3_match_17 (by decide) (fun c1 => ?_) (fun c1 => ?_)
  · have h := h.1 c1
    refine k_iconst (v := 0) C.1 dX3_match_34 (by decide) ?_
    refine k_istore (lv' := [(5, .int (0 : Int32)), (0, .ref x0), (1, .ref x1), (2, .ref x2), (3, .ref x3), (4, .int x4)]) C.1 dX3_match_35 (by decide) rfl ?_
    refine k_sub (lv' := [(0, .ref x0), (1, .ref x1), (2, .ref x2), (3, .ref x3), (4, .int x4), (5, .int (0 : Int32))]) [1, 2, 3, 4, 5, 0] rfl ?_
    exact b_X3_match_37 C x0 x1 x2 x3 x4 (0 : Int32) M h
  · have h := h.2 c1
    refine k_aload_n C.1 0 rfl dX3_match_20 ?_
    obtain ⟨hs2, h⟩ := h
    obtain ⟨q3, hq3, h⟩ := h
    refine k_getR C.1 F_X3_9 dX3_match_21 hs2 hq3 ?_
    refine k_iload C.1 5 rfl dX3_match_24 ?_
    refine k_lconst (v := 0) C.1 dX3_match_26 (by decide) ?_
    obtain ⟨hs5, h⟩ := h
    obtain ⟨hi4, h⟩ := h
    refine k_last C.1 dX3_match_27 hs5 hi4 ?_
    refine k_iinc (v := x5 + 1) (lv' := [(5, .int (x5 + 1)), (0, .ref x0), (1, .ref x1), (2, .ref x2), (3, .ref x3), (4, .int x4)]) C.1 5 rfl dX3_match_28 (by decide) rfl rfl ?_
    refine k_goto C.1 13 dX3_match_31 (by decide) ?_
    refine k_sub (lv' := [(0, .ref x0), (1, .ref x1), (2, .ref x2), (3, .ref x3), (4, .int x4), (5, .int (x5 + 1))]) [1, 2, 3, 4, 5, 0] rfl ?_
    exact hk13 (x5 + 1) (wJ M q3 x5.toNatClampNeg (0 : Int64)) h
set_option maxRecDepth 100000 in
theorem b_X3_match_13 {X : gh_X} {sh : gh_Sh} {n : Nat} {post : Int32 → gh_M → Prop} (C : gh_CR X cX3_match RX3 9 (some .int) sh n 0 0 (gh_pi post)) (x0 : Nat) (x1 : Nat) (x2 : Nat) (x3 : Nat) (x4 : Int32) (x5 : Int32) (M : gh_M) (h : wp_X3_match_13 sh post x0 x1 x2 x3 x4 x5 M) : gh_G X rm_X3_match 9 0 0 sh n 13 [(0, .ref x0), (1, .ref x1), (2, .ref x2), (3, .ref x3), (4, .int x4), (5, .int x5)] [] M := by
  unfold wp_X3_match_13 at h
  exact gh_loop_use h (fun v => gh_G X rm_X3_match 9 0 0 sh n 13 [(0, .ref x0), (1, .ref x1), (2, .ref x2), (3, .ref x3), (4, .int x4), (5, .int v.1)] [] v.2) (fun k v hk hb => bb_X3_match_13 C x0 x1 x2 x3 x4 (fun x5 M => k (x5, M)) (fun x5 M h => hk (x5, M) h) v.1 v.2 hb)
set_option maxRecDepth 100000 in
set_option maxHeartbeats 4000000 in
theorem c_X3_match {l : Launch} {D : va_G} {dA : Nat → ClassId} {sh : gh_Sh} {b0 n : Nat} {M : gh_M} {x0 : Nat} {x1 : Nat} {x2 : Nat} {x3 : Nat} {post : Int32 → gh_M → Prop} (h : wp_X3_match sh M x0 x1 x2 x3 post) : gh_Met l D dA sh b0 n yX3_match cX3_match 9 (some .int) rm_X3_match M [.ref x0, .ref x1, .ref x2, .ref x3] (gh_pi post) := by
  refine gh_open (by decide) (Nat.le_of_ble_eq_true rfl) (fun X C => ?_)
  show gh_G X rm_X3_match 9 0 0 sh n 0 [(0, .ref x0), (1, .ref x1), (2, .ref x2), (3, .ref x3)] [] M
  unfold wp_X3_match at h
  refine k_iconst (v := 1) C.1 dX3_match_0 (by decide) ?_
  refine k_aload_n C.1 1 rfl dX3_match_1 ?_
  obtain ⟨hs1, h⟩ := h
  refine k_callV (As := []) (rest := [.int (1 : Int32)]) C.1 V_X3_18 (c_X0_count h) ⟨rfl, rfl, Nat.le_of_ble_eq_true rfl, Nat.le_of_ble_eq_true rfl⟩ hs1  rfl rfl (Nat.le_of_ble_eq_true rfl) ⟨Nat.zero_le _, Nat.zero_le _⟩ dX3_match_2 (kp_i fun r3 M2 h9 => ?_)
  replace h := h9
  refine k_ishl C.1 dX3_match_5 ?_
  refine k_iconst (v := 1) C.1 dX3_match_6 (by decide) ?_
  refine k_isub C.1 dX3_match_7 ?_
  refine k_istore (lv' := [(4, .int (((1 : Int32) <<< (r3 &&& 31)) - (1 : Int32))), (0, .ref x0), (1, .ref x1), (2, .ref x2), (3, .ref x3)]) C.1 dX3_match_8 (by decide) rfl ?_
  refine k_iconst (v := 0) C.1 dX3_match_10 (by decide) ?_
  refine k_istore (lv' := [(5, .int (0 : Int32)), (4, .int (((1 : Int32) <<< (r3 &&& 31)) - (1 : Int32))), (0, .ref x0), (1, .ref x1), (2, .ref x2), (3, .ref x3)]) C.1 dX3_match_11 (by decide) rfl ?_
  refine k_sub (lv' := [(0, .ref x0), (1, .ref x1), (2, .ref x2), (3, .ref x3), (4, .int (((1 : Int32) <<< (r3 &&& 31)) - (1 : Int32))), (5, .int (0 : Int32))]) [2, 3, 4, 5, 1, 0] rfl ?_
  exact b_X3_match_13 C x0 x1 x2 x3 (((1 : Int32) <<< (r3 &&& 31)) - (1 : Int32)) (0 : Int32) M2 h
abbrev rm_X3_givenTo : Room := { frames := 1, cells := 0, slots := 0, locals := 20 }
set_option maxRecDepth 100000 in
set_option maxHeartbeats 4000000 in
theorem c_X3_givenTo {l : Launch} {D : va_G} {dA : Nat → ClassId} {sh : gh_Sh} {b0 n : Nat} {M : gh_M} {x0 : Nat} {x1 : Int32} {post : Int32 → gh_M → Prop} (h : wp_X3_givenTo sh M x0 x1 post) : gh_Met l D dA sh b0 n yX3_givenTo cX3_givenTo 3 (some .int) rm_X3_givenTo M [.ref x0, .int x1] (gh_pi post) := by
  refine gh_open (by decide) (Nat.le_of_ble_eq_true rfl) (fun X C => ?_)
  show gh_G X rm_X3_givenTo 3 0 0 sh n 0 [(0, .ref x0), (1, .int x1)] [] M
  unfold wp_X3_givenTo at h
  refine k_aload_n C.1 0 rfl dX3_givenTo_0 ?_
  obtain ⟨hs1, h⟩ := h
  refine k_getJ C.1 F_X3_51 dX3_givenTo_1 hs1 ?_
  refine k_iload_n C.1 1 rfl dX3_givenTo_4 ?_
  refine k_callS (As := [.int x1]) (rest := [.long (rJ M x0 2)]) C.1 V_X3_55 (c_X3_shiftOf h) ⟨rfl, rfl, Nat.le_of_ble_eq_true rfl, Nat.le_of_ble_eq_true rfl⟩  rfl rfl (Nat.le_of_ble_eq_true rfl) ⟨Nat.zero_le _, Nat.zero_le _⟩ dX3_givenTo_5 (kp_i fun r3 M2 h9 => ?_)
  replace h := h9
  refine k_lshr C.1 dX3_givenTo_8 ?_
  refine k_l2i C.1 dX3_givenTo_9 ?_
  refine k_bipush (v := 15) C.1 dX3_givenTo_10 (by decide) ?_
  refine k_iand C.1 dX3_givenTo_12 ?_
  refine k_istore_n (lv' := [(2, .int ((((rJ M x0 2) >>> (r3.toInt64 &&& 63)).toInt32) &&& (15 : Int32))), (0, .ref x0), (1, .int x1)]) C.1 dX3_givenTo_13 (by decide) rfl ?_
  refine k_iload_n C.1 0 rfl dX3_givenTo_14 ?_
  refine k_bipush (v := 8) C.1 dX3_givenTo_15 (by decide) ?_
  refine k_icmp_ne C.1 25 dX3_givenTo_17 (by decide) (fun c4 => ?_) (fun c4 => ?_)
  · have h := h.2 c4
    refine k_iload_n C.1 0 rfl dX3_givenTo_25 ?_
    exact k_iret C dX3_givenTo_26 h
  · have h := h.1 c4
    refine k_bipush (v := (-5)) C.1 dX3_givenTo_20 (by decide) ?_
    refine k_goto C.1 26 dX3_givenTo_22 (by decide) ?_
    exact k_iret C dX3_givenTo_26 h
abbrev rm_X4_count : Room := { frames := 0, cells := 0, slots := 0, locals := 0 }
set_option maxRecDepth 100000 in
set_option maxHeartbeats 4000000 in
theorem c_X4_count {l : Launch} {D : va_G} {dA : Nat → ClassId} {sh : gh_Sh} {b0 n : Nat} {M : gh_M} {x0 : Nat} {post : Int32 → gh_M → Prop} (h : wp_X4_count sh M x0 post) : gh_Met l D dA sh b0 n yX4_count cX4_count 1 (some .int) rm_X4_count M [.ref x0] (gh_pi post) := by
  refine gh_open (by decide) (Nat.le_of_ble_eq_true rfl) (fun X C => ?_)
  show gh_G X rm_X4_count 1 0 0 sh n 0 [(0, .ref x0)] [] M
  unfold wp_X4_count at h
  refine k_aload_n C.1 0 rfl dX4_count_0 ?_
  obtain ⟨hs1, h⟩ := h
  refine k_getI C.1 F_X4_18 dX4_count_1 hs1 ?_
  exact k_iret C dX4_count_4 h
abbrev rm_X4_at : Room := { frames := 0, cells := 0, slots := 0, locals := 0 }
set_option maxRecDepth 100000 in
set_option maxHeartbeats 4000000 in
theorem c_X4_at {l : Launch} {D : va_G} {dA : Nat → ClassId} {sh : gh_Sh} {b0 n : Nat} {M : gh_M} {x0 : Nat} {x1 : Int32} {post : Option Nat → gh_M → Prop} (h : wp_X4_at sh M x0 x1 post) : gh_Met l D dA sh b0 n yX4_at cX4_at 2 (some (.object "GlossHouse$Entry")) rm_X4_at M [.ref x0, .int x1] (gh_pq post) := by
  refine gh_open (by decide) (Nat.le_of_ble_eq_true rfl) (fun X C => ?_)
  show gh_G X rm_X4_at 2 0 0 sh n 0 [(0, .ref x0), (1, .int x1)] [] M
  unfold wp_X4_at at h
  refine k_iload_n C.1 1 rfl dX4_at_0 ?_
  refine k_if_lt C.1 21 dX4_at_1 (by decide) (fun c1 => ?_) (fun c1 => ?_)
  · have h := h.1 c1
    refine k_null C.1 dX4_at_21 ?_
    exact k_qret (r := none) C dX4_at_22 h
  · have h := h.2 c1
    refine k_iload_n C.1 1 rfl dX4_at_4 ?_
    refine k_aload_n C.1 0 rfl dX4_at_5 ?_
    obtain ⟨hs2, h⟩ := h
    refine k_getI C.1 F_X4_18 dX4_at_6 hs2 ?_
    refine k_icmp_ge C.1 21 dX4_at_9 (by decide) (fun c3 => ?_) (fun c3 => ?_)
    · have h := h.1 c3
      refine k_null C.1 dX4_at_21 ?_
      exact k_qret (r := none) C dX4_at_22 h
    · have h := h.2 c3
      refine k_aload_n C.1 0 rfl dX4_at_12 ?_
      obtain ⟨q4, hq4, h⟩ := h
      refine k_getR C.1 F_X4_11 dX4_at_13 hs2 hq4 ?_
      refine k_iload_n C.1 1 rfl dX4_at_16 ?_
      obtain ⟨hs5, h⟩ := h
      obtain ⟨hi6, q7, hq7, h⟩ := h
      refine k_aald (kd := 15) C.1 dX4_at_17 (by decide) (by decide) rfl rfl hs5 hi6 hq7 ?_
      refine k_goto C.1 22 dX4_at_18 (by decide) ?_
      exact k_qret (r := some q7) C dX4_at_22 h
abbrev rm_X4_putEldestLast : Room := { frames := 0, cells := 0, slots := 0, locals := 0 }
set_option maxRecDepth 100000 in
set_option maxHeartbeats 4000000 in
theorem bb_X4_putEldestLast_9 {X : gh_X} {sh : gh_Sh} {n : Nat} {post : gh_M → Prop} (C : gh_CR X cX4_putEldestLast RX4 3 none sh n 0 0 (gh_pv post)) (x0 : Nat) (x1 : Nat) (k9 : Int32 → gh_M → Prop) (hk9 : ∀ (y2 : Int32) (M : gh_M), k9 y2 M → gh_G X rm_X4_putEldestLast 3 0 0 sh n 9 [(0, .ref x0), (1, .ref x1), (2, .int y2)] [] M) (x2 : Int32) (M : gh_M) (h : wb_X4_putEldestLast_9 sh post x0 x1 k9 x2 M) : gh_G X rm_X4_putEldestLast 3 0 0 sh n 9 [(0, .ref x0), (1, .ref x1), (2, .int x2)] [] M := by
  unfold wb_X4_putEldestLast_9 at h
  refine k_iload_n C.1 2 rfl dX4_putEldestLast_9 ?_
  refine k_bipush (v := 20) C.1 dX4_putEldestLast_10 (by decide) ?_
  refine k_icmp_ge C.1 35 dX4_putEldestLast_12 (by decide) (fun c1 => ?_) (fun c1 => ?_)
  · have h := h.1 c1
    refine k_aload_n C.1 0 rfl dX4_putEldestLast_35 ?_
    obtain ⟨hs2, h⟩ := h
    obtain ⟨q3, hq3, h⟩ := h
    refine k_getR C.1 F_X4_11 dX4_putEldestLast_36 hs2 hq3 ?_
    refine k_bipush (v := 19) C.1 dX4_putEldestLast_39 (by decide) ?_
    refine k_aload_n C.1 1 rfl dX4_putEldestLast_41 ?_
    obtain ⟨hs5, h⟩ := h
    obtain ⟨hs6, h⟩ := h
    obtain ⟨hi4, h⟩ := h
    refine k_aast (kd := 15) (ci := 1) C.1 dX4_putEldestLast_42 (by decide) (by decide) rfl rfl (by decide) hs5 hs6 hi4 ?_
    exact k_vret C dX4_putEldestLast_43 h
  · have h := h.2 c1
    refine k_aload_n C.1 0 rfl dX4_putEldestLast_15 ?_
    obtain ⟨hs7, h⟩ := h
    obtain ⟨q8, hq8, h⟩ := h
    refine k_getR C.1 F_X4_11 dX4_putEldestLast_16 hs7 hq8 ?_
    refine k_iload_n C.1 2 rfl dX4_putEldestLast_19 ?_
    refine k_iconst (v := 1) C.1 dX4_putEldestLast_20 (by decide) ?_
    refine k_isub C.1 dX4_putEldestLast_21 ?_
    refine k_aload_n C.1 0 rfl dX4_putEldestLast_22 ?_
    refine k_getR C.1 F_X4_11 dX4_putEldestLast_23 hs7 hq8 ?_
    refine k_iload_n C.1 2 rfl dX4_putEldestLast_26 ?_
    obtain ⟨hs9, h⟩ := h
    obtain ⟨hi10, q11, hq11, h⟩ := h
    refine k_aald (kd := 15) C.1 dX4_putEldestLast_27 (by decide) (by decide) rfl rfl hs9 hi10 hq11 ?_
    obtain ⟨hs13, h⟩ := h
    obtain ⟨hi12, h⟩ := h
    refine k_aast (kd := 15) (ci := 1) C.1 dX4_putEldestLast_28 (by decide) (by decide) rfl rfl (by decide) hs9 hs13 hi12 ?_
    refine k_iinc (v := x2 + 1) (lv' := [(2, .int (x2 + 1)), (0, .ref x0), (1, .ref x1)]) C.1 2 rfl dX4_putEldestLast_29 (by decide) rfl rfl ?_
    refine k_goto C.1 9 dX4_putEldestLast_32 (by decide) ?_
    refine k_sub (lv' := [(0, .ref x0), (1, .ref x1), (2, .int (x2 + 1))]) [1, 2, 0] rfl ?_
    exact hk9 (x2 + 1) (wR M q8 (x2 - (1 : Int32)).toNatClampNeg (some q11)) h
set_option maxRecDepth 100000 in
theorem b_X4_putEldestLast_9 {X : gh_X} {sh : gh_Sh} {n : Nat} {post : gh_M → Prop} (C : gh_CR X cX4_putEldestLast RX4 3 none sh n 0 0 (gh_pv post)) (x0 : Nat) (x1 : Nat) (x2 : Int32) (M : gh_M) (h : wp_X4_putEldestLast_9 sh post x0 x1 x2 M) : gh_G X rm_X4_putEldestLast 3 0 0 sh n 9 [(0, .ref x0), (1, .ref x1), (2, .int x2)] [] M := by
  unfold wp_X4_putEldestLast_9 at h
  exact gh_loop_use h (fun v => gh_G X rm_X4_putEldestLast 3 0 0 sh n 9 [(0, .ref x0), (1, .ref x1), (2, .int v.1)] [] v.2) (fun k v hk hb => bb_X4_putEldestLast_9 C x0 x1 (fun x2 M => k (x2, M)) (fun x2 M h => hk (x2, M) h) v.1 v.2 hb)
set_option maxRecDepth 100000 in
set_option maxHeartbeats 4000000 in
theorem c_X4_putEldestLast {l : Launch} {D : va_G} {dA : Nat → ClassId} {sh : gh_Sh} {b0 n : Nat} {M : gh_M} {x0 : Nat} {post : gh_M → Prop} (h : wp_X4_putEldestLast sh M x0 post) : gh_Met l D dA sh b0 n yX4_putEldestLast cX4_putEldestLast 3 none rm_X4_putEldestLast M [.ref x0] (gh_pv post) := by
  refine gh_open (by decide) (Nat.le_of_ble_eq_true rfl) (fun X C => ?_)
  show gh_G X rm_X4_putEldestLast 3 0 0 sh n 0 [(0, .ref x0)] [] M
  unfold wp_X4_putEldestLast at h
  refine k_aload_n C.1 0 rfl dX4_putEldestLast_0 ?_
  obtain ⟨hs1, h⟩ := h
  obtain ⟨q2, hq2, h⟩ := h
  refine k_getR C.1 F_X4_11 dX4_putEldestLast_1 hs1 hq2 ?_
  refine k_iconst (v := 0) C.1 dX4_putEldestLast_4 (by decide) ?_
  obtain ⟨hs3, h⟩ := h
  obtain ⟨hi4, q5, hq5, h⟩ := h
  refine k_aald (kd := 15) C.1 dX4_putEldestLast_5 (by decide) (by decide) rfl rfl hs3 hi4 hq5 ?_
  refine k_astore_n (lv' := [(1, .ref q5), (0, .ref x0)]) C.1 dX4_putEldestLast_6 (by decide) rfl ?_
  refine k_iconst (v := 1) C.1 dX4_putEldestLast_7 (by decide) ?_
  refine k_istore_n (lv' := [(2, .int (1 : Int32)), (1, .ref q5), (0, .ref x0)]) C.1 dX4_putEldestLast_8 (by decide) rfl ?_
  refine k_sub (lv' := [(0, .ref x0), (1, .ref q5), (2, .int (1 : Int32))]) [2, 1, 0] rfl ?_
  exact b_X4_putEldestLast_9 C x0 q5 (1 : Int32) M h
abbrev rm_X4_remember : Room := { frames := 2, cells := 0, slots := 0, locals := 45 }
set_option maxRecDepth 100000 in
set_option maxHeartbeats 4000000 in
theorem b_X4_remember_61 {X : gh_X} {sh : gh_Sh} {n : Nat} {post : gh_M → Prop} (C : gh_CR X cX4_remember RX4 5 none sh n 0 0 (gh_pv post)) (x0 : Nat) (x1 : Nat) (x2 : Int32) (x3 : Nat) (M : gh_M) (h : wp_X4_remember_61 sh post x0 x1 x2 x3 M) : gh_G X rm_X4_remember 5 0 0 sh n 61 [(0, .ref x0), (1, .ref x1), (2, .int x2), (3, .ref x3)] [] M := by
  unfold wp_X4_remember_61 at h
  refine k_aload_n C.1 0 rfl dX4_remember_61 ?_
  obtain ⟨hs1, h⟩ := h
  obtain ⟨q2, hq2, h⟩ := h
  refine k_getR C.1 F_X4_11 dX4_remember_62 hs1 hq2 ?_
  refine k_aload_n C.1 0 rfl dX4_remember_65 ?_
  refine k_getI C.1 F_X4_18 dX4_remember_66 hs1 ?_
  refine k_iconst (v := 1) C.1 dX4_remember_69 (by decide) ?_
  refine k_isub C.1 dX4_remember_70 ?_
  obtain ⟨hs3, h⟩ := h
  obtain ⟨hi4, q5, hq5, h⟩ := h
  refine k_aald (kd := 15) C.1 dX4_remember_71 (by decide) (by decide) rfl rfl hs3 hi4 hq5 ?_
  refine k_aload_n C.1 1 rfl dX4_remember_72 ?_
  refine k_iload_n C.1 2 rfl dX4_remember_73 ?_
  refine k_aload_n C.1 3 rfl dX4_remember_74 ?_
  obtain ⟨hs6, h⟩ := h
  refine k_callV (As := [.ref x1, .int x2, .ref x3]) (rest := []) C.1 V_X4_29 (c_X1_fill h) ⟨rfl, rfl, Nat.le_of_ble_eq_true rfl, Nat.le_of_ble_eq_true rfl⟩ hs6  rfl rfl (Nat.le_of_ble_eq_true rfl) ⟨Nat.zero_le _, Nat.zero_le _⟩ dX4_remember_75 (kp_v fun M7 h9 => ?_)
  replace h := h9
  exact k_vret C dX4_remember_78 h
set_option maxRecDepth 100000 in
set_option maxHeartbeats 4000000 in
theorem bb_X4_remember_3 {X : gh_X} {sh : gh_Sh} {n : Nat} {post : gh_M → Prop} (C : gh_CR X cX4_remember RX4 5 none sh n 0 0 (gh_pv post)) (x0 : Nat) (x1 : Nat) (x2 : Int32) (x3 : Nat) (k3 : Int32 → gh_M → Prop) (hk3 : ∀ (y4 : Int32) (M : gh_M), k3 y4 M → gh_G X rm_X4_remember 5 0 0 sh n 3 [(0, .ref x0), (1, .ref x1), (2, .int x2), (3, .ref x3), (4, .int y4)] [] M) (x4 : Int32) (M : gh_M) (h : wb_X4_remember_3 sh post x0 x1 x2 x3 k3 x4 M) : gh_G X rm_X4_remember 5 0 0 sh n 3 [(0, .ref x0), (1, .ref x1), (2, .int x2), (3, .ref x3), (4, .int x4)] [] M := by
  unfold wb_X4_remember_3 at h
  refine k_iload C.1 4 rfl dX4_remember_3 ?_
  refine k_aload_n C.1 0 rfl dX4_remember_5 ?_
  obtain ⟨hs1, h⟩ := h
  refine k_getI C.1 F_X4_18 dX4_remember_6 hs1 ?_
  refine k_icmp_ge C.1 35 dX4_remember_9 (by decide) (fun c2 => ?_) (fun c2 => ?_)
  · have h := h.1 c2
    refine k_aload_n C.1 0 rfl dX4_remember_35 ?_
    refine k_getI C.1 F_X4_18 dX4_remember_36 hs1 ?_
    refine k_bipush (v := 20) C.1 dX4_remember_39 (by decide) ?_
    refine k_icmp_ge C.1 57 dX4_remember_41 (by decide) (fun c3 => ?_) (fun c3 => ?_)
    · have h := h.1 c3
      refine k_aload_n C.1 0 rfl dX4_remember_57 ?_
      refine k_callV (As := []) (rest := []) C.1 V_X4_26 (c_X4_putEldestLast h) ⟨rfl, rfl, Nat.le_of_ble_eq_true rfl, Nat.le_of_ble_eq_true rfl⟩ hs1  rfl rfl (Nat.le_of_ble_eq_true rfl) ⟨Nat.zero_le _, Nat.zero_le _⟩ dX4_remember_58 (kp_v fun M4 h9 => ?_)
      replace h := h9
      refine k_sub (lv' := [(0, .ref x0), (1, .ref x1), (2, .int x2), (3, .ref x3)]) [0, 1, 2, 3] rfl ?_
      exact b_X4_remember_61 C x0 x1 x2 x3 M4 h
    · have h := h.2 c3
      refine k_aload_n C.1 0 rfl dX4_remember_44 ?_
      refine k_dup C.1 dX4_remember_45 rfl ?_
      refine k_getI C.1 F_X4_18 dX4_remember_46 hs1 ?_
      refine k_iconst (v := 1) C.1 dX4_remember_49 (by decide) ?_
      refine k_iadd C.1 dX4_remember_50 ?_
      refine k_putI C.1 F_X4_18 dX4_remember_51 hs1 rfl rfl ?_
      refine k_goto C.1 61 dX4_remember_54 (by decide) ?_
      refine k_sub (lv' := [(0, .ref x0), (1, .ref x1), (2, .int x2), (3, .ref x3)]) [0, 1, 2, 3] rfl ?_
      exact b_X4_remember_61 C x0 x1 x2 x3 (wI M x0 1 ((rI M x0 1) + (1 : Int32))) h
  · have h := h.2 c2
    refine k_aload_n C.1 0 rfl dX4_remember_12 ?_
    obtain ⟨q5, hq5, h⟩ := h
    refine k_getR C.1 F_X4_11 dX4_remember_13 hs1 hq5 ?_
    refine k_iload C.1 4 rfl dX4_remember_16 ?_
    obtain ⟨hs6, h⟩ := h
    obtain ⟨hi7, q8, hq8, h⟩ := h
    refine k_aald (kd := 15) C.1 dX4_remember_18 (by decide) (by decide) rfl rfl hs6 hi7 hq8 ?_
    refine k_aload_n C.1 1 rfl dX4_remember_19 ?_
    refine k_iload_n C.1 2 rfl dX4_remember_20 ?_
    refine k_aload_n C.1 3 rfl dX4_remember_21 ?_
    obtain ⟨hs9, h⟩ := h
    refine k_callV (As := [.ref x1, .int x2, .ref x3]) (rest := []) C.1 V_X4_22 (c_X1_isJust h) ⟨rfl, rfl, Nat.le_of_ble_eq_true rfl, Nat.le_of_ble_eq_true rfl⟩ hs9  rfl rfl (Nat.le_of_ble_eq_true rfl) ⟨Nat.zero_le _, Nat.zero_le _⟩ dX4_remember_22 (kp_i fun r11 M10 h9 => ?_)
    replace h := h9
    refine k_if_eq C.1 29 dX4_remember_25 (by decide) (fun c12 => ?_) (fun c12 => ?_)
    · have h := h.1 c12
      refine k_iinc (v := x4 + 1) (lv' := [(4, .int (x4 + 1)), (0, .ref x0), (1, .ref x1), (2, .int x2), (3, .ref x3)]) C.1 4 rfl dX4_remember_29 (by decide) rfl rfl ?_
      refine k_goto C.1 3 dX4_remember_32 (by decide) ?_
      refine k_sub (lv' := [(0, .ref x0), (1, .ref x1), (2, .int x2), (3, .ref x3), (4, .int (x4 + 1))]) [1, 2, 3, 4, 0] rfl ?_
      exact hk3 (x4 + 1) M10 h
    · have h := h.2 c12
      exact k_vret C dX4_remember_28 h
set_option maxRecDepth 100000 in
theorem b_X4_remember_3 {X : gh_X} {sh : gh_Sh} {n : Nat} {post : gh_M → Prop} (C : gh_CR X cX4_remember RX4 5 none sh n 0 0 (gh_pv post)) (x0 : Nat) (x1 : Nat) (x2 : Int32) (x3 : Nat) (x4 : Int32) (M : gh_M) (h : wp_X4_remember_3 sh post x0 x1 x2 x3 x4 M) : gh_G X rm_X4_remember 5 0 0 sh n 3 [(0, .ref x0), (1, .ref x1), (2, .int x2), (3, .ref x3), (4, .int x4)] [] M := by
  unfold wp_X4_remember_3 at h
  exact gh_loop_use h (fun v => gh_G X rm_X4_remember 5 0 0 sh n 3 [(0, .ref x0), (1, .ref x1), (2, .int x2), (3, .ref x3), (4, .int v.1)] [] v.2) (fun k v hk hb => bb_X4_remember_3 C x0 x1 x2 x3 (fun x4 M => k (x4, M)) (fun x4 M h => hk (x4, M) h) v.1 v.2 hb)
set_option maxRecDepth 100000 in
set_option maxHeartbeats 4000000 in
theorem c_X4_remember {l : Launch} {D : va_G} {dA : Nat → ClassId} {sh : gh_Sh} {b0 n : Nat} {M : gh_M} {x0 : Nat} {x1 : Nat} {x2 : Int32} {x3 : Nat} {post : gh_M → Prop} (h : wp_X4_remember sh M x0 x1 x2 x3 post) : gh_Met l D dA sh b0 n yX4_remember cX4_remember 5 none rm_X4_remember M [.ref x0, .ref x1, .int x2, .ref x3] (gh_pv post) := by
  refine gh_open (by decide) (Nat.le_of_ble_eq_true rfl) (fun X C => ?_)
  show gh_G X rm_X4_remember 5 0 0 sh n 0 [(0, .ref x0), (1, .ref x1), (2, .int x2), (3, .ref x3)] [] M
  unfold wp_X4_remember at h
  refine k_iconst (v := 0) C.1 dX4_remember_0 (by decide) ?_
  refine k_istore (lv' := [(4, .int (0 : Int32)), (0, .ref x0), (1, .ref x1), (2, .int x2), (3, .ref x3)]) C.1 dX4_remember_1 (by decide) rfl ?_
  refine k_sub (lv' := [(0, .ref x0), (1, .ref x1), (2, .int x2), (3, .ref x3), (4, .int (0 : Int32))]) [1, 2, 3, 4, 0] rfl ?_
  exact b_X4_remember_3 C x0 x1 x2 x3 (0 : Int32) M h
abbrev rm_X4_closest : Room := { frames := 2, cells := 0, slots := 0, locals := 51 }
set_option maxRecDepth 100000 in
set_option maxHeartbeats 4000000 in
theorem b_X4_closest_66 {X : gh_X} {sh : gh_Sh} {n : Nat} {post : Int32 → gh_M → Prop} (C : gh_CR X cX4_closest RX4 8 (some .int) sh n 0 0 (gh_pi post)) (x0 : Nat) (x1 : Nat) (x2 : Int32) (x3 : Nat) (x4 : Int32) (x5 : Int32) (x6 : Int32) (M : gh_M) (k11 : Int32 → Int32 → Int32 → gh_M → Prop) (hk11 : ∀ (y4 : Int32) (y5 : Int32) (y6 : Int32) (M : gh_M), k11 y4 y5 y6 M → gh_G X rm_X4_closest 8 0 0 sh n 11 [(0, .ref x0), (1, .ref x1), (2, .int x2), (3, .ref x3), (4, .int y4), (5, .int y5), (6, .int y6)] [] M) (h : wp_X4_closest_66 sh post k11 x0 x1 x2 x3 x4 x5 x6 M) : gh_G X rm_X4_closest 8 0 0 sh n 66 [(0, .ref x0), (1, .ref x1), (2, .int x2), (3, .ref x3), (4, .int x4), (5, .int x5), (6, .int x6)] [] M := by
  unfold wp_X4_closest_66 at h
  refine k_iinc (v := x6 + 1) (lv' := [(6, .int (x6 + 1)), (0, .ref x0), (1, .ref x1), (2, .int x2), (3, .ref x3), (4, .int x4), (5, .int x5)]) C.1 6 rfl dX4_closest_66 (by decide) rfl rfl ?_
  refine k_goto C.1 11 dX4_closest_69 (by decide) ?_
  refine k_sub (lv' := [(0, .ref x0), (1, .ref x1), (2, .int x2), (3, .ref x3), (4, .int x4), (5, .int x5), (6, .int (x6 + 1))]) [1, 2, 3, 4, 5, 6, 0] rfl ?_
  exact hk11 x4 x5 (x6 + 1) M h
set_option maxRecDepth 100000 in
set_option maxHeartbeats 4000000 in
theorem bb_X4_closest_11 {X : gh_X} {sh : gh_Sh} {n : Nat} {post : Int32 → gh_M → Prop} (C : gh_CR X cX4_closest RX4 8 (some .int) sh n 0 0 (gh_pi post)) (x0 : Nat) (x1 : Nat) (x2 : Int32) (x3 : Nat) (k11 : Int32 → Int32 → Int32 → gh_M → Prop) (hk11 : ∀ (y4 : Int32) (y5 : Int32) (y6 : Int32) (M : gh_M), k11 y4 y5 y6 M → gh_G X rm_X4_closest 8 0 0 sh n 11 [(0, .ref x0), (1, .ref x1), (2, .int x2), (3, .ref x3), (4, .int y4), (5, .int y5), (6, .int y6)] [] M) (x4 : Int32) (x5 : Int32) (x6 : Int32) (M : gh_M) (h : wb_X4_closest_11 sh post x0 x1 x2 x3 k11 x4 x5 x6 M) : gh_G X rm_X4_closest 8 0 0 sh n 11 [(0, .ref x0), (1, .ref x1), (2, .int x2), (3, .ref x3), (4, .int x4), (5, .int x5), (6, .int x6)] [] M := by
  unfold wb_X4_closest_11 at h
  refine k_iload C.1 6 rfl dX4_closest_11 ?_
  refine k_aload_n C.1 0 rfl dX4_closest_13 ?_
  obtain ⟨hs1, h⟩ := h
  refine k_getI C.1 F_X4_18 dX4_closest_14 hs1 ?_
  refine k_icmp_ge C.1 72 dX4_closest_17 (by decide) (fun c2 => ?_) (fun c2 => ?_)
  · have h := h.1 c2
    refine k_iload C.1 4 rfl dX4_closest_72 ?_
    exact k_iret C dX4_closest_74 h
  · have h := h.2 c2
    refine k_aload_n C.1 0 rfl dX4_closest_20 ?_
    obtain ⟨q3, hq3, h⟩ := h
    refine k_getR C.1 F_X4_11 dX4_closest_21 hs1 hq3 ?_
    refine k_iload C.1 6 rfl dX4_closest_24 ?_
    obtain ⟨hs4, h⟩ := h
    obtain ⟨hi5, q6, hq6, h⟩ := h
    refine k_aald (kd := 15) C.1 dX4_closest_26 (by decide) (by decide) rfl rfl hs4 hi5 hq6 ?_
    obtain ⟨hs7, h⟩ := h
    refine k_callV (As := []) (rest := []) C.1 V_X4_33 (c_X1_tongue h) ⟨rfl, rfl, Nat.le_of_ble_eq_true rfl, Nat.le_of_ble_eq_true rfl⟩ hs7  rfl rfl (Nat.le_of_ble_eq_true rfl) ⟨Nat.zero_le _, Nat.zero_le _⟩ dX4_closest_27 (kp_i fun r9 M8 h9 => ?_)
    replace h := h9
    refine k_iload_n C.1 2 rfl dX4_closest_30 ?_
    refine k_icmp_ne C.1 66 dX4_closest_31 (by decide) (fun c10 => ?_) (fun c10 => ?_)
    · have h := h.2 c10
      exact b_X4_closest_66 C x0 x1 x2 x3 x4 x5 x6 M8 k11 hk11 h
    · have h := h.1 c10
      refine k_aload_n C.1 3 rfl dX4_closest_34 ?_
      refine k_aload_n C.1 1 rfl dX4_closest_35 ?_
      refine k_aload_n C.1 0 rfl dX4_closest_36 ?_
      obtain ⟨q11, hq11, h⟩ := h
      refine k_getR C.1 F_X4_11 dX4_closest_37 hs1 hq11 ?_
      refine k_iload C.1 6 rfl dX4_closest_40 ?_
      obtain ⟨hs12, h⟩ := h
      obtain ⟨hi13, q14, hq14, h⟩ := h
      refine k_aald (kd := 15) C.1 dX4_closest_42 (by decide) (by decide) rfl rfl hs12 hi13 hq14 ?_
      obtain ⟨hs15, h⟩ := h
      refine k_callV (As := []) (rest := [.ref x1, .ref x3]) C.1 V_X4_37 (c_X1_pieceSigns h) ⟨rfl, rfl, Nat.le_of_ble_eq_true rfl, Nat.le_of_ble_eq_true rfl⟩ hs15  rfl rfl (Nat.le_of_ble_eq_true rfl) ⟨Nat.zero_le _, Nat.zero_le _⟩ dX4_closest_43 (kp_n fun r17 M16 h9 => ?_)
      replace h := h9
      obtain ⟨hs18, h⟩ := h
      refine k_callV (As := [.ref x1, .ref r17]) (rest := []) C.1 V_X4_41 (c_X8_between h) ⟨rfl, rfl, Nat.le_of_ble_eq_true rfl, Nat.le_of_ble_eq_true rfl⟩ hs18  rfl rfl (Nat.le_of_ble_eq_true rfl) ⟨Nat.zero_le _, Nat.zero_le _⟩ dX4_closest_46 (kp_i fun r20 M19 h9 => ?_)
      replace h := h9
      refine k_istore (lv' := [(7, .int r20), (0, .ref x0), (1, .ref x1), (2, .int x2), (3, .ref x3), (4, .int x4), (5, .int x5), (6, .int x6)]) C.1 dX4_closest_49 (by decide) rfl ?_
      refine k_iload C.1 0 rfl dX4_closest_51 ?_
      refine k_iload C.1 6 rfl dX4_closest_53 ?_
      refine k_icmp_gt C.1 66 dX4_closest_55 (by decide) (fun c21 => ?_) (fun c21 => ?_)
      · have h := h.1 c21
        refine k_sub (lv' := [(0, .ref x0), (1, .ref x1), (2, .int x2), (3, .ref x3), (4, .int x4), (5, .int x5), (6, .int x6)]) [1, 2, 3, 4, 5, 6, 7] rfl ?_
        exact b_X4_closest_66 C x0 x1 x2 x3 x4 x5 x6 M19 k11 hk11 h
      · have h := h.2 c21
        refine k_iload C.1 0 rfl dX4_closest_58 ?_
        refine k_istore (lv' := [(5, .int r20), (7, .int r20), (0, .ref x0), (1, .ref x1), (2, .int x2), (3, .ref x3), (4, .int x4), (6, .int x6)]) C.1 dX4_closest_60 (by decide) rfl ?_
        refine k_iload C.1 7 rfl dX4_closest_62 ?_
        refine k_istore (lv' := [(4, .int x6), (5, .int r20), (7, .int r20), (0, .ref x0), (1, .ref x1), (2, .int x2), (3, .ref x3), (6, .int x6)]) C.1 dX4_closest_64 (by decide) rfl ?_
        refine k_sub (lv' := [(0, .ref x0), (1, .ref x1), (2, .int x2), (3, .ref x3), (4, .int x6), (5, .int r20), (6, .int x6)]) [3, 4, 5, 6, 0, 1, 7] rfl ?_
        exact b_X4_closest_66 C x0 x1 x2 x3 x6 r20 x6 M19 k11 hk11 h
set_option maxRecDepth 100000 in
theorem b_X4_closest_11 {X : gh_X} {sh : gh_Sh} {n : Nat} {post : Int32 → gh_M → Prop} (C : gh_CR X cX4_closest RX4 8 (some .int) sh n 0 0 (gh_pi post)) (x0 : Nat) (x1 : Nat) (x2 : Int32) (x3 : Nat) (x4 : Int32) (x5 : Int32) (x6 : Int32) (M : gh_M) (h : wp_X4_closest_11 sh post x0 x1 x2 x3 x4 x5 x6 M) : gh_G X rm_X4_closest 8 0 0 sh n 11 [(0, .ref x0), (1, .ref x1), (2, .int x2), (3, .ref x3), (4, .int x4), (5, .int x5), (6, .int x6)] [] M := by
  unfold wp_X4_closest_11 at h
  exact gh_loop_use h (fun v => gh_G X rm_X4_closest 8 0 0 sh n 11 [(0, .ref x0), (1, .ref x1), (2, .int x2), (3, .ref x3), (4, .int v.1), (5, .int v.2.1), (6, .int v.2.2.1)] [] v.2.2.2) (fun k v hk hb => bb_X4_closest_11 C x0 x1 x2 x3 (fun x4 x5 x6 M => k (x4, x5, x6, M)) (fun x4 x5 x6 M h => hk (x4, x5, x6, M) h) v.1 v.2.1 v.2.2.1 v.2.2.2 hb)
set_option maxRecDepth 100000 in
set_option maxHeartbeats 4000000 in
theorem c_X4_closest {l : Launch} {D : va_G} {dA : Nat → ClassId} {sh : gh_Sh} {b0 n : Nat} {M : gh_M} {x0 : Nat} {x1 : Nat} {x2 : Int32} {x3 : Nat} {post : Int32 → gh_M → Prop} (h : wp_X4_closest sh M x0 x1 x2 x3 post) : gh_Met l D dA sh b0 n yX4_closest cX4_closest 8 (some .int) rm_X4_closest M [.ref x0, .ref x1, .int x2, .ref x3] (gh_pi post) := by
  refine gh_open (by decide) (Nat.le_of_ble_eq_true rfl) (fun X C => ?_)
  show gh_G X rm_X4_closest 8 0 0 sh n 0 [(0, .ref x0), (1, .ref x1), (2, .int x2), (3, .ref x3)] [] M
  unfold wp_X4_closest at h
  refine k_bipush (v := (-5)) C.1 dX4_closest_0 (by decide) ?_
  refine k_istore (lv' := [(4, .int (-5 : Int32)), (0, .ref x0), (1, .ref x1), (2, .int x2), (3, .ref x3)]) C.1 dX4_closest_2 (by decide) rfl ?_
  refine k_bipush (v := 11) C.1 dX4_closest_4 (by decide) ?_
  refine k_istore (lv' := [(5, .int (11 : Int32)), (4, .int (-5 : Int32)), (0, .ref x0), (1, .ref x1), (2, .int x2), (3, .ref x3)]) C.1 dX4_closest_6 (by decide) rfl ?_
  refine k_iconst (v := 0) C.1 dX4_closest_8 (by decide) ?_
  refine k_istore (lv' := [(6, .int (0 : Int32)), (5, .int (11 : Int32)), (4, .int (-5 : Int32)), (0, .ref x0), (1, .ref x1), (2, .int x2), (3, .ref x3)]) C.1 dX4_closest_9 (by decide) rfl ?_
  refine k_sub (lv' := [(0, .ref x0), (1, .ref x1), (2, .int x2), (3, .ref x3), (4, .int (-5 : Int32)), (5, .int (11 : Int32)), (6, .int (0 : Int32))]) [3, 4, 5, 6, 2, 1, 0] rfl ?_
  exact b_X4_closest_11 C x0 x1 x2 x3 (-5 : Int32) (11 : Int32) (0 : Int32) M h
abbrev rm_X4_copy : Room := { frames := 2, cells := 0, slots := 0, locals := 45 }
set_option maxRecDepth 100000 in
set_option maxHeartbeats 4000000 in
theorem bb_X4_copy_10 {X : gh_X} {sh : gh_Sh} {n : Nat} {post : gh_M → Prop} (C : gh_CR X cX4_copy RX4 4 none sh n 0 0 (gh_pv post)) (x0 : Nat) (x1 : Nat) (k10 : Int32 → gh_M → Prop) (hk10 : ∀ (y2 : Int32) (M : gh_M), k10 y2 M → gh_G X rm_X4_copy 4 0 0 sh n 10 [(0, .ref x0), (1, .ref x1), (2, .int y2)] [] M) (x2 : Int32) (M : gh_M) (h : wb_X4_copy_10 sh post x0 x1 k10 x2 M) : gh_G X rm_X4_copy 4 0 0 sh n 10 [(0, .ref x0), (1, .ref x1), (2, .int x2)] [] M := by
  unfold wb_X4_copy_10 at h
  refine k_iload_n C.1 2 rfl dX4_copy_10 ?_
  refine k_aload_n C.1 0 rfl dX4_copy_11 ?_
  obtain ⟨hs1, h⟩ := h
  refine k_getI C.1 F_X4_18 dX4_copy_12 hs1 ?_
  refine k_icmp_ge C.1 52 dX4_copy_15 (by decide) (fun c2 => ?_) (fun c2 => ?_)
  · have h := h.1 c2
    exact k_vret C dX4_copy_52 h
  · have h := h.2 c2
    refine k_aload_n C.1 1 rfl dX4_copy_18 ?_
    obtain ⟨hs3, h⟩ := h
    obtain ⟨q4, hq4, h⟩ := h
    refine k_getR C.1 F_X4_11 dX4_copy_19 hs3 hq4 ?_
    refine k_iload_n C.1 2 rfl dX4_copy_22 ?_
    obtain ⟨hs5, h⟩ := h
    obtain ⟨hi6, q7, hq7, h⟩ := h
    refine k_aald (kd := 15) C.1 dX4_copy_23 (by decide) (by decide) rfl rfl hs5 hi6 hq7 ?_
    refine k_astore_n (lv' := [(3, .ref q7), (0, .ref x0), (1, .ref x1), (2, .int x2)]) C.1 dX4_copy_24 (by decide) rfl ?_
    refine k_aload_n C.1 1 rfl dX4_copy_25 ?_
    obtain ⟨q8, hq8, h⟩ := h
    refine k_getR C.1 F_X4_11 dX4_copy_26 hs1 hq8 ?_
    refine k_iload_n C.1 3 rfl dX4_copy_29 ?_
    obtain ⟨hs9, h⟩ := h
    obtain ⟨hi10, q11, hq11, h⟩ := h
    refine k_aald (kd := 15) C.1 dX4_copy_30 (by decide) (by decide) rfl rfl hs9 hi10 hq11 ?_
    refine k_aload_n C.1 0 rfl dX4_copy_31 ?_
    obtain ⟨hs12, h⟩ := h
    refine k_callV (As := []) (rest := [.ref q11]) C.1 V_X4_37 (c_X1_pieceSigns h) ⟨rfl, rfl, Nat.le_of_ble_eq_true rfl, Nat.le_of_ble_eq_true rfl⟩ hs12  rfl rfl (Nat.le_of_ble_eq_true rfl) ⟨Nat.zero_le _, Nat.zero_le _⟩ dX4_copy_32 (kp_n fun r14 M13 h9 => ?_)
    replace h := h9
    refine k_aload_n C.1 0 rfl dX4_copy_35 ?_
    refine k_callV (As := []) (rest := [.ref r14, .ref q11]) C.1 V_X4_33 (c_X1_tongue h) ⟨rfl, rfl, Nat.le_of_ble_eq_true rfl, Nat.le_of_ble_eq_true rfl⟩ hs12  rfl rfl (Nat.le_of_ble_eq_true rfl) ⟨Nat.zero_le _, Nat.zero_le _⟩ dX4_copy_36 (kp_i fun r16 M15 h9 => ?_)
    replace h := h9
    refine k_aload_n C.1 0 rfl dX4_copy_39 ?_
    refine k_callV (As := []) (rest := [.int r16, .ref r14, .ref q11]) C.1 V_X4_47 (c_X1_textSigns h) ⟨rfl, rfl, Nat.le_of_ble_eq_true rfl, Nat.le_of_ble_eq_true rfl⟩ hs12  rfl rfl (Nat.le_of_ble_eq_true rfl) ⟨Nat.zero_le _, Nat.zero_le _⟩ dX4_copy_40 (kp_n fun r18 M17 h9 => ?_)
    replace h := h9
    obtain ⟨hs19, h⟩ := h
    refine k_callV (As := [.ref r14, .int r16, .ref r18]) (rest := []) C.1 V_X4_29 (c_X1_fill h) ⟨rfl, rfl, Nat.le_of_ble_eq_true rfl, Nat.le_of_ble_eq_true rfl⟩ hs19  rfl rfl (Nat.le_of_ble_eq_true rfl) ⟨Nat.zero_le _, Nat.zero_le _⟩ dX4_copy_43 (kp_v fun M20 h9 => ?_)
    replace h := h9
    refine k_iinc (v := x2 + 1) (lv' := [(2, .int (x2 + 1)), (3, .ref q7), (0, .ref x0), (1, .ref x1)]) C.1 3 rfl dX4_copy_46 (by decide) rfl rfl ?_
    refine k_goto C.1 10 dX4_copy_49 (by decide) ?_
    refine k_sub (lv' := [(0, .ref x0), (1, .ref x1), (2, .int (x2 + 1))]) [2, 3, 0] rfl ?_
    exact hk10 (x2 + 1) M20 h
set_option maxRecDepth 100000 in
theorem b_X4_copy_10 {X : gh_X} {sh : gh_Sh} {n : Nat} {post : gh_M → Prop} (C : gh_CR X cX4_copy RX4 4 none sh n 0 0 (gh_pv post)) (x0 : Nat) (x1 : Nat) (x2 : Int32) (M : gh_M) (h : wp_X4_copy_10 sh post x0 x1 x2 M) : gh_G X rm_X4_copy 4 0 0 sh n 10 [(0, .ref x0), (1, .ref x1), (2, .int x2)] [] M := by
  unfold wp_X4_copy_10 at h
  exact gh_loop_use h (fun v => gh_G X rm_X4_copy 4 0 0 sh n 10 [(0, .ref x0), (1, .ref x1), (2, .int v.1)] [] v.2) (fun k v hk hb => bb_X4_copy_10 C x0 x1 (fun x2 M => k (x2, M)) (fun x2 M h => hk (x2, M) h) v.1 v.2 hb)
set_option maxRecDepth 100000 in
set_option maxHeartbeats 4000000 in
theorem c_X4_copy {l : Launch} {D : va_G} {dA : Nat → ClassId} {sh : gh_Sh} {b0 n : Nat} {M : gh_M} {x0 : Nat} {x1 : Nat} {post : gh_M → Prop} (h : wp_X4_copy sh M x0 x1 post) : gh_Met l D dA sh b0 n yX4_copy cX4_copy 4 none rm_X4_copy M [.ref x0, .ref x1] (gh_pv post) := by
  refine gh_open (by decide) (Nat.le_of_ble_eq_true rfl) (fun X C => ?_)
  show gh_G X rm_X4_copy 4 0 0 sh n 0 [(0, .ref x0), (1, .ref x1)] [] M
  unfold wp_X4_copy at h
  refine k_aload_n C.1 0 rfl dX4_copy_0 ?_
  refine k_aload_n C.1 1 rfl dX4_copy_1 ?_
  obtain ⟨hs1, h⟩ := h
  refine k_getI C.1 F_X4_18 dX4_copy_2 hs1 ?_
  obtain ⟨hs2, h⟩ := h
  refine k_putI C.1 F_X4_18 dX4_copy_5 hs2 rfl rfl ?_
  refine k_iconst (v := 0) C.1 dX4_copy_8 (by decide) ?_
  refine k_istore_n (lv' := [(2, .int (0 : Int32)), (0, .ref x0), (1, .ref x1)]) C.1 dX4_copy_9 (by decide) rfl ?_
  refine k_sub (lv' := [(0, .ref x0), (1, .ref x1), (2, .int (0 : Int32))]) [1, 2, 0] rfl ?_
  exact b_X4_copy_10 C x0 x1 (0 : Int32) (wI M x0 1 (rI M x1 1)) h
