abbrev rm_X12_text : Room := { frames := 2, cells := 0, slots := 0, locals := 43 }
set_option maxRecDepth 100000 in
set_option maxHeartbeats 4000000 in
theorem b_X12_text_39 {X : gh_X} {sh : gh_Sh} {n : Nat} {post : Int32 → gh_M → Prop} (C : gh_CR X cX12_text RX12 6 (some .int) sh n 0 0 (gh_pi post)) (x0 : Nat) (x3 : Int32) (x4 : Int32) (s0 : Int32) (M : gh_M) (h : wp_X12_text_39 sh post x0 x3 x4 s0 M) : gh_G X rm_X12_text 6 0 0 sh n 39 [(0, .ref x0), (3, .int x3), (4, .int x4)] [.int s0] M := by
  unfold wp_X12_text_39 at h
  refine k_istore (lv' := [(5, .int s0), (0, .ref x0), (3, .int x3), (4, .int x4)]) C.1 dX12_text_39 (by decide) rfl ?_
  refine k_iload_n C.1 2 rfl dX12_text_41 ?_
  refine k_if_ne C.1 53 dX12_text_42 (by decide) (fun c1 => ?_) (fun c1 => ?_)
  · have h := h.2 c1
    refine k_iload_n C.1 2 rfl dX12_text_53 ?_
    refine k_iconst (v := 1) C.1 dX12_text_54 (by decide) ?_
    refine k_icmp_ne C.1 76 dX12_text_55 (by decide) (fun c2 => ?_) (fun c2 => ?_)
    · have h := h.2 c2
      refine k_iload_n C.1 2 rfl dX12_text_76 ?_
      refine k_iconst (v := 2) C.1 dX12_text_77 (by decide) ?_
      refine k_icmp_ne C.1 98 dX12_text_78 (by decide) (fun c3 => ?_) (fun c3 => ?_)
      · have h := h.2 c3
        refine k_iload C.1 0 rfl dX12_text_98 ?_
        refine k_if_eq C.1 140 dX12_text_100 (by decide) (fun c4 => ?_) (fun c4 => ?_)
        · have h := h.1 c4
          refine k_iconst (v := (-1)) C.1 dX12_text_140 (by decide) ?_
          exact k_iret C dX12_text_141 h
        · have h := h.2 c4
          refine k_iload_n C.1 2 rfl dX12_text_103 ?_
          refine k_bipush (v := 10) C.1 dX12_text_104 (by decide) ?_
          refine k_bipush (v := 9) C.1 dX12_text_106 (by decide) ?_
          refine k_aload_n C.1 1 rfl dX12_text_108 ?_
          obtain ⟨hs5, h⟩ := h
          obtain ⟨q6, hq6, h⟩ := h
          refine k_getR C.1 F_X12_43 dX12_text_109 hs5 hq6 ?_
          refine k_iload C.1 3 rfl dX12_text_112 ?_
          obtain ⟨hs7, h⟩ := h
          obtain ⟨hi8, h⟩ := h
          refine k_iald C.1 dX12_text_114 hs7 hi8 ?_
          refine k_iadd C.1 dX12_text_115 ?_
          refine k_callS (As := [.int x3, .int (10 : Int32), .int ((9 : Int32) + (rI M q6 x4.toNatClampNeg))]) (rest := []) C.1 V_X12_128 (c_X12_in h) ⟨rfl, rfl, Nat.le_of_ble_eq_true rfl, Nat.le_of_ble_eq_true rfl⟩  rfl rfl (Nat.le_of_ble_eq_true rfl) ⟨Nat.zero_le _, Nat.zero_le _⟩ dX12_text_116 (kp_i fun r10 M9 h9 => ?_)
          replace h := h9
          refine k_if_eq C.1 140 dX12_text_119 (by decide) (fun c11 => ?_) (fun c11 => ?_)
          · have h := h.1 c11
            refine k_iconst (v := (-1)) C.1 dX12_text_140 (by decide) ?_
            exact k_iret C dX12_text_141 h
          · have h := h.2 c11
            refine k_aload_n C.1 1 rfl dX12_text_122 ?_
            obtain ⟨q12, hq12, h⟩ := h
            refine k_getR C.1 F_X12_46 dX12_text_123 hs5 hq12 ?_
            refine k_bipush (v := 10) C.1 dX12_text_126 (by decide) ?_
            refine k_iload C.1 3 rfl dX12_text_128 ?_
            refine k_imul C.1 dX12_text_130 ?_
            refine k_iload_n C.1 2 rfl dX12_text_131 ?_
            refine k_iadd C.1 dX12_text_132 ?_
            refine k_bipush (v := 10) C.1 dX12_text_133 (by decide) ?_
            refine k_isub C.1 dX12_text_135 ?_
            obtain ⟨hs13, h⟩ := h
            obtain ⟨hi14, h⟩ := h
            refine k_iald C.1 dX12_text_136 hs13 hi14 ?_
            refine k_goto C.1 141 dX12_text_137 (by decide) ?_
            exact k_iret C dX12_text_141 h
      · have h := h.1 c3
        refine k_iload C.1 0 rfl dX12_text_81 ?_
        refine k_if_eq C.1 96 dX12_text_83 (by decide) (fun c15 => ?_) (fun c15 => ?_)
        · have h := h.1 c15
          refine k_iconst (v := 0) C.1 dX12_text_96 (by decide) ?_
          exact k_iret C dX12_text_97 h
        · have h := h.2 c15
          refine k_aload_n C.1 1 rfl dX12_text_86 ?_
          obtain ⟨hs16, h⟩ := h
          obtain ⟨q17, hq17, h⟩ := h
          refine k_getR C.1 F_X12_43 dX12_text_87 hs16 hq17 ?_
          refine k_iload C.1 3 rfl dX12_text_90 ?_
          obtain ⟨hs18, h⟩ := h
          obtain ⟨hi19, h⟩ := h
          refine k_iald C.1 dX12_text_92 hs18 hi19 ?_
          refine k_goto C.1 97 dX12_text_93 (by decide) ?_
          exact k_iret C dX12_text_97 h
    · have h := h.1 c2
      refine k_iload C.1 0 rfl dX12_text_58 ?_
      refine k_if_eq C.1 73 dX12_text_60 (by decide) (fun c20 => ?_) (fun c20 => ?_)
      · have h := h.1 c20
        refine k_bipush (v := (-5)) C.1 dX12_text_73 (by decide) ?_
        exact k_iret C dX12_text_75 h
      · have h := h.2 c20
        refine k_aload_n C.1 1 rfl dX12_text_63 ?_
        obtain ⟨hs21, h⟩ := h
        obtain ⟨q22, hq22, h⟩ := h
        refine k_getR C.1 F_X12_40 dX12_text_64 hs21 hq22 ?_
        refine k_iload C.1 3 rfl dX12_text_67 ?_
        obtain ⟨hs23, h⟩ := h
        obtain ⟨hi24, h⟩ := h
        refine k_iald C.1 dX12_text_69 hs23 hi24 ?_
        refine k_goto C.1 75 dX12_text_70 (by decide) ?_
        exact k_iret C dX12_text_75 h
  · have h := h.1 c1
    refine k_aload_n C.1 1 rfl dX12_text_45 ?_
    obtain ⟨hs25, h⟩ := h
    obtain ⟨q26, hq26, h⟩ := h
    refine k_getR C.1 F_X12_37 dX12_text_46 hs25 hq26 ?_
    refine k_iload C.1 3 rfl dX12_text_49 ?_
    obtain ⟨hs27, h⟩ := h
    obtain ⟨hi28, h⟩ := h
    refine k_iald C.1 dX12_text_51 hs27 hi28 ?_
    exact k_iret C dX12_text_52 h
set_option maxRecDepth 100000 in
set_option maxHeartbeats 4000000 in
theorem c_X12_text {l : Launch} {D : va_G} {dA : Nat → ClassId} {sh : gh_Sh} {b0 n : Nat} {M : gh_M} {x0 : Nat} {x1 : Int32} {x2 : Int32} {x3 : Int32} {post : Int32 → gh_M → Prop} (h : wp_X12_text sh M x0 x1 x2 x3 post) : gh_Met l D dA sh b0 n yX12_text cX12_text 6 (some .int) rm_X12_text M [.ref x0, .int x1, .int x2, .int x3] (gh_pi post) := by
  refine gh_open (by decide) (Nat.le_of_ble_eq_true rfl) (fun X C => ?_)
  show gh_G X rm_X12_text 6 0 0 sh n 0 [(0, .ref x0), (1, .int x1), (2, .int x2), (3, .int x3)] [] M
  unfold wp_X12_text at h
  refine k_aload_n C.1 0 rfl dX12_text_0 ?_
  refine k_iload_n C.1 1 rfl dX12_text_1 ?_
  obtain ⟨hs1, h⟩ := h
  refine k_callV (As := [.int x1]) (rest := []) C.1 V_X12_178 (c_X12_isPiece h) ⟨rfl, rfl, Nat.le_of_ble_eq_true rfl, Nat.le_of_ble_eq_true rfl⟩ hs1  rfl rfl (Nat.le_of_ble_eq_true rfl) ⟨Nat.zero_le _, Nat.zero_le _⟩ dX12_text_2 (kp_i fun r3 M2 h9 => ?_)
  replace h := h9
  refine k_if_eq C.1 15 dX12_text_5 (by decide) (fun c4 => ?_) (fun c4 => ?_)
  · have h := h.1 c4
    refine k_iconst (v := (-1)) C.1 dX12_text_15 (by decide) ?_
    exact k_iret C dX12_text_16 h
  · have h := h.2 c4
    refine k_iload_n C.1 2 rfl dX12_text_8 ?_
    refine k_callS (As := [.int x2]) (rest := []) C.1 V_X12_187 (c_X12_isTongue h) ⟨rfl, rfl, Nat.le_of_ble_eq_true rfl, Nat.le_of_ble_eq_true rfl⟩  rfl rfl (Nat.le_of_ble_eq_true rfl) ⟨Nat.zero_le _, Nat.zero_le _⟩ dX12_text_9 (kp_i fun r6 M5 h9 => ?_)
    replace h := h9
    refine k_if_ne C.1 17 dX12_text_12 (by decide) (fun c7 => ?_) (fun c7 => ?_)
    · have h := h.2 c7
      refine k_iconst (v := 3) C.1 dX12_text_17 (by decide) ?_
      refine k_iload_n C.1 1 rfl dX12_text_18 ?_
      refine k_imul C.1 dX12_text_19 ?_
      refine k_iload_n C.1 2 rfl dX12_text_20 ?_
      refine k_iadd C.1 dX12_text_21 ?_
      refine k_istore (lv' := [(4, .int (((3 : Int32) * x1) + x2)), (0, .ref x0), (1, .int x1), (2, .int x2), (3, .int x3)]) C.1 dX12_text_22 (by decide) rfl ?_
      refine k_aload_n C.1 1 rfl dX12_text_24 ?_
      obtain ⟨q8, hq8, h⟩ := h
      refine k_getR C.1 F_X12_37 dX12_text_25 hs1 hq8 ?_
      refine k_iload C.1 0 rfl dX12_text_28 ?_
      obtain ⟨hs9, h⟩ := h
      obtain ⟨hi10, h⟩ := h
      refine k_iald C.1 dX12_text_30 hs9 hi10 ?_
      refine k_if_le C.1 38 dX12_text_31 (by decide) (fun c11 => ?_) (fun c11 => ?_)
      · have h := h.1 c11
        refine k_iconst (v := 0) C.1 dX12_text_38 (by decide) ?_
        refine k_sub (lv' := [(0, .ref x0), (3, .int x3), (4, .int (((3 : Int32) * x1) + x2))]) [1, 4, 0] rfl ?_
        exact b_X12_text_39 C x0 x3 (((3 : Int32) * x1) + x2) (0 : Int32) M5 h
      · have h := h.2 c11
        refine k_iconst (v := 1) C.1 dX12_text_34 (by decide) ?_
        refine k_goto C.1 39 dX12_text_35 (by decide) ?_
        refine k_sub (lv' := [(0, .ref x0), (3, .int x3), (4, .int (((3 : Int32) * x1) + x2))]) [1, 4, 0] rfl ?_
        exact b_X12_text_39 C x0 x3 (((3 : Int32) * x1) + x2) (1 : Int32) M5 h
    · have h := h.1 c7
      refine k_iconst (v := (-1)) C.1 dX12_text_15 (by decide) ?_
      exact k_iret C dX12_text_16 h
abbrev rm_X12_fault : Room := { frames := 3, cells := 0, slots := 0, locals := 67 }
set_option maxRecDepth 100000 in
set_option maxHeartbeats 4000000 in
theorem c_X12_fault {l : Launch} {D : va_G} {dA : Nat → ClassId} {sh : gh_Sh} {b0 n : Nat} {M : gh_M} {x0 : Nat} {x1 : Int32} {x2 : Int32} {post : Int32 → gh_M → Prop} (h : wp_X12_fault sh M x0 x1 x2 post) : gh_Met l D dA sh b0 n yX12_fault cX12_fault 3 (some .int) rm_X12_fault M [.ref x0, .int x1, .int x2] (gh_pi post) := by
  refine gh_open (by decide) (Nat.le_of_ble_eq_true rfl) (fun X C => ?_)
  show gh_G X rm_X12_fault 3 0 0 sh n 0 [(0, .ref x0), (1, .int x1), (2, .int x2)] [] M
  unfold wp_X12_fault at h
  refine k_aload_n C.1 0 rfl dX12_fault_0 ?_
  refine k_iload_n C.1 1 rfl dX12_fault_1 ?_
  obtain ⟨hs1, h⟩ := h
  refine k_callV (As := [.int x1]) (rest := []) C.1 V_X12_178 (c_X12_isPiece h) ⟨rfl, rfl, Nat.le_of_ble_eq_true rfl, Nat.le_of_ble_eq_true rfl⟩ hs1  rfl rfl (Nat.le_of_ble_eq_true rfl) ⟨Nat.zero_le _, Nat.zero_le _⟩ dX12_fault_2 (kp_i fun r3 M2 h9 => ?_)
  replace h := h9
  refine k_if_eq C.1 15 dX12_fault_5 (by decide) (fun c4 => ?_) (fun c4 => ?_)
  · have h := h.1 c4
    refine k_iconst (v := (-1)) C.1 dX12_fault_15 (by decide) ?_
    exact k_iret C dX12_fault_16 h
  · have h := h.2 c4
    refine k_iload_n C.1 2 rfl dX12_fault_8 ?_
    refine k_callS (As := [.int x2]) (rest := []) C.1 V_X12_187 (c_X12_isTongue h) ⟨rfl, rfl, Nat.le_of_ble_eq_true rfl, Nat.le_of_ble_eq_true rfl⟩  rfl rfl (Nat.le_of_ble_eq_true rfl) ⟨Nat.zero_le _, Nat.zero_le _⟩ dX12_fault_9 (kp_i fun r6 M5 h9 => ?_)
    replace h := h9
    refine k_if_ne C.1 17 dX12_fault_12 (by decide) (fun c7 => ?_) (fun c7 => ?_)
    · have h := h.2 c7
      refine k_aload_n C.1 0 rfl dX12_fault_17 ?_
      obtain ⟨q8, hq8, h⟩ := h
      refine k_getR C.1 F_X12_37 dX12_fault_18 hs1 hq8 ?_
      refine k_iconst (v := 3) C.1 dX12_fault_21 (by decide) ?_
      refine k_iload_n C.1 1 rfl dX12_fault_22 ?_
      refine k_imul C.1 dX12_fault_23 ?_
      refine k_iload_n C.1 2 rfl dX12_fault_24 ?_
      refine k_iadd C.1 dX12_fault_25 ?_
      obtain ⟨hs9, h⟩ := h
      obtain ⟨hi10, h⟩ := h
      refine k_iald C.1 dX12_fault_26 hs9 hi10 ?_
      refine k_if_ne C.1 35 dX12_fault_27 (by decide) (fun c11 => ?_) (fun c11 => ?_)
      · have h := h.2 c11
        refine k_aload_n C.1 0 rfl dX12_fault_35 ?_
        refine k_iload_n C.1 1 rfl dX12_fault_36 ?_
        refine k_iload_n C.1 2 rfl dX12_fault_37 ?_
        refine k_callV (As := [.int x1, .int x2]) (rest := []) C.1 V_X12_213 (c_X12_faultOf h) ⟨rfl, rfl, Nat.le_of_ble_eq_true rfl, Nat.le_of_ble_eq_true rfl⟩ hs1  rfl rfl (Nat.le_of_ble_eq_true rfl) ⟨Nat.zero_le _, Nat.zero_le _⟩ dX12_fault_38 (kp_i fun r13 M12 h9 => ?_)
        replace h := h9
        exact k_iret C dX12_fault_41 h
      · have h := h.1 c11
        refine k_bipush (v := (-5)) C.1 dX12_fault_30 (by decide) ?_
        refine k_goto C.1 41 dX12_fault_32 (by decide) ?_
        exact k_iret C dX12_fault_41 h
    · have h := h.1 c7
      refine k_iconst (v := (-1)) C.1 dX12_fault_15 (by decide) ?_
      exact k_iret C dX12_fault_16 h
abbrev rm_X12_limit : Room := { frames := 1, cells := 0, slots := 0, locals := 22 }
set_option maxRecDepth 100000 in
set_option maxHeartbeats 4000000 in
theorem c_X12_limit {l : Launch} {D : va_G} {dA : Nat → ClassId} {sh : gh_Sh} {b0 n : Nat} {M : gh_M} {x0 : Nat} {x1 : Int32} {post : Int32 → gh_M → Prop} (h : wp_X12_limit sh M x0 x1 post) : gh_Met l D dA sh b0 n yX12_limit cX12_limit 3 (some .int) rm_X12_limit M [.ref x0, .int x1] (gh_pi post) := by
  refine gh_open (by decide) (Nat.le_of_ble_eq_true rfl) (fun X C => ?_)
  show gh_G X rm_X12_limit 3 0 0 sh n 0 [(0, .ref x0), (1, .int x1)] [] M
  unfold wp_X12_limit at h
  refine k_iload_n C.1 1 rfl dX12_limit_0 ?_
  refine k_iconst (v := 1) C.1 dX12_limit_1 (by decide) ?_
  refine k_bipush (v := 10) C.1 dX12_limit_2 (by decide) ?_
  refine k_callS (As := [.int x1, .int (1 : Int32), .int (10 : Int32)]) (rest := []) C.1 V_X12_128 (c_X12_in h) ⟨rfl, rfl, Nat.le_of_ble_eq_true rfl, Nat.le_of_ble_eq_true rfl⟩  rfl rfl (Nat.le_of_ble_eq_true rfl) ⟨Nat.zero_le _, Nat.zero_le _⟩ dX12_limit_4 (kp_i fun r2 M1 h9 => ?_)
  replace h := h9
  refine k_if_ne C.1 12 dX12_limit_7 (by decide) (fun c3 => ?_) (fun c3 => ?_)
  · have h := h.2 c3
    refine k_aload_n C.1 0 rfl dX12_limit_12 ?_
    obtain ⟨hs4, h⟩ := h
    refine k_getI C.1 F_X12_67 dX12_limit_13 hs4 ?_
    refine k_istore_n (lv' := [(2, .int (rI M1 x0 24)), (0, .ref x0), (1, .int x1)]) C.1 dX12_limit_16 (by decide) rfl ?_
    refine k_aload_n C.1 1 rfl dX12_limit_17 ?_
    refine k_iload_n C.1 2 rfl dX12_limit_18 ?_
    refine k_putI C.1 F_X12_67 dX12_limit_19 hs4 rfl rfl ?_
    refine k_iload_n C.1 0 rfl dX12_limit_22 ?_
    exact k_iret C dX12_limit_23 h
  · have h := h.1 c3
    refine k_iconst (v := (-1)) C.1 dX12_limit_10 (by decide) ?_
    exact k_iret C dX12_limit_11 h
abbrev rm_X12_nearest : Room := { frames := 3, cells := 0, slots := 0, locals := 74 }
set_option maxRecDepth 100000 in
set_option maxHeartbeats 4000000 in
theorem c_X12_nearest {l : Launch} {D : va_G} {dA : Nat → ClassId} {sh : gh_Sh} {b0 n : Nat} {M : gh_M} {x0 : Nat} {x1 : Int32} {x2 : Int32} {x3 : Int32} {post : Int32 → gh_M → Prop} (h : wp_X12_nearest sh M x0 x1 x2 x3 post) : gh_Met l D dA sh b0 n yX12_nearest cX12_nearest 4 (some .int) rm_X12_nearest M [.ref x0, .int x1, .int x2, .int x3] (gh_pi post) := by
  refine gh_open (by decide) (Nat.le_of_ble_eq_true rfl) (fun X C => ?_)
  show gh_G X rm_X12_nearest 4 0 0 sh n 0 [(0, .ref x0), (1, .int x1), (2, .int x2), (3, .int x3)] [] M
  unfold wp_X12_nearest at h
  refine k_aload_n C.1 0 rfl dX12_nearest_0 ?_
  refine k_iload_n C.1 1 rfl dX12_nearest_1 ?_
  obtain ⟨hs1, h⟩ := h
  refine k_callV (As := [.int x1]) (rest := []) C.1 V_X12_178 (c_X12_isPiece h) ⟨rfl, rfl, Nat.le_of_ble_eq_true rfl, Nat.le_of_ble_eq_true rfl⟩ hs1  rfl rfl (Nat.le_of_ble_eq_true rfl) ⟨Nat.zero_le _, Nat.zero_le _⟩ dX12_nearest_2 (kp_i fun r3 M2 h9 => ?_)
  replace h := h9
  refine k_if_eq C.1 24 dX12_nearest_5 (by decide) (fun c4 => ?_) (fun c4 => ?_)
  · have h := h.1 c4
    refine k_iconst (v := (-1)) C.1 dX12_nearest_24 (by decide) ?_
    exact k_iret C dX12_nearest_25 h
  · have h := h.2 c4
    refine k_iload_n C.1 2 rfl dX12_nearest_8 ?_
    refine k_callS (As := [.int x2]) (rest := []) C.1 V_X12_187 (c_X12_isTongue h) ⟨rfl, rfl, Nat.le_of_ble_eq_true rfl, Nat.le_of_ble_eq_true rfl⟩  rfl rfl (Nat.le_of_ble_eq_true rfl) ⟨Nat.zero_le _, Nat.zero_le _⟩ dX12_nearest_9 (kp_i fun r6 M5 h9 => ?_)
    replace h := h9
    refine k_if_eq C.1 24 dX12_nearest_12 (by decide) (fun c7 => ?_) (fun c7 => ?_)
    · have h := h.1 c7
      refine k_iconst (v := (-1)) C.1 dX12_nearest_24 (by decide) ?_
      exact k_iret C dX12_nearest_25 h
    · have h := h.2 c7
      refine k_iload_n C.1 3 rfl dX12_nearest_15 ?_
      refine k_iconst (v := 0) C.1 dX12_nearest_16 (by decide) ?_
      refine k_iconst (v := 2) C.1 dX12_nearest_17 (by decide) ?_
      refine k_callS (As := [.int x3, .int (0 : Int32), .int (2 : Int32)]) (rest := []) C.1 V_X12_128 (c_X12_in h) ⟨rfl, rfl, Nat.le_of_ble_eq_true rfl, Nat.le_of_ble_eq_true rfl⟩  rfl rfl (Nat.le_of_ble_eq_true rfl) ⟨Nat.zero_le _, Nat.zero_le _⟩ dX12_nearest_18 (kp_i fun r9 M8 h9 => ?_)
      replace h := h9
      refine k_if_ne C.1 26 dX12_nearest_21 (by decide) (fun c10 => ?_) (fun c10 => ?_)
      · have h := h.2 c10
        refine k_aload_n C.1 0 rfl dX12_nearest_26 ?_
        refine k_iload_n C.1 1 rfl dX12_nearest_27 ?_
        refine k_iload_n C.1 2 rfl dX12_nearest_28 ?_
        refine k_callV (As := [.int x1, .int x2]) (rest := []) C.1 V_X12_227 (c_X12_findNearest h) ⟨rfl, rfl, Nat.le_of_ble_eq_true rfl, Nat.le_of_ble_eq_true rfl⟩ hs1  rfl rfl (Nat.le_of_ble_eq_true rfl) ⟨Nat.zero_le _, Nat.zero_le _⟩ dX12_nearest_29 (kp_v fun M11 h9 => ?_)
        replace h := h9
        refine k_aload_n C.1 0 rfl dX12_nearest_32 ?_
        refine k_getI C.1 F_X12_220 dX12_nearest_33 hs1 ?_
        refine k_if_ge C.1 42 dX12_nearest_36 (by decide) (fun c12 => ?_) (fun c12 => ?_)
        · have h := h.1 c12
          refine k_iload_n C.1 3 rfl dX12_nearest_42 ?_
          refine k_if_ne C.1 53 dX12_nearest_43 (by decide) (fun c13 => ?_) (fun c13 => ?_)
          · have h := h.2 c13
            refine k_iload_n C.1 3 rfl dX12_nearest_53 ?_
            refine k_iconst (v := 1) C.1 dX12_nearest_54 (by decide) ?_
            refine k_icmp_ne C.1 65 dX12_nearest_55 (by decide) (fun c14 => ?_) (fun c14 => ?_)
            · have h := h.2 c14
              refine k_aload_n C.1 0 rfl dX12_nearest_65 ?_
              obtain ⟨q15, hq15, h⟩ := h
              refine k_getR C.1 F_X12_71 dX12_nearest_66 hs1 hq15 ?_
              refine k_bipush (v := 21) C.1 dX12_nearest_69 (by decide) ?_
              refine k_aload_n C.1 0 rfl dX12_nearest_71 ?_
              refine k_getI C.1 F_X12_220 dX12_nearest_72 hs1 ?_
              refine k_imul C.1 dX12_nearest_75 ?_
              refine k_iconst (v := 2) C.1 dX12_nearest_76 (by decide) ?_
              refine k_iadd C.1 dX12_nearest_77 ?_
              obtain ⟨hs16, h⟩ := h
              obtain ⟨hi17, h⟩ := h
              refine k_iald C.1 dX12_nearest_78 hs16 hi17 ?_
              exact k_iret C dX12_nearest_79 h
            · have h := h.1 c14
              refine k_aload_n C.1 0 rfl dX12_nearest_58 ?_
              refine k_getI C.1 F_X12_224 dX12_nearest_59 hs1 ?_
              refine k_goto C.1 79 dX12_nearest_62 (by decide) ?_
              exact k_iret C dX12_nearest_79 h
          · have h := h.1 c13
            refine k_aload_n C.1 0 rfl dX12_nearest_46 ?_
            refine k_getI C.1 F_X12_220 dX12_nearest_47 hs1 ?_
            refine k_goto C.1 79 dX12_nearest_50 (by decide) ?_
            exact k_iret C dX12_nearest_79 h
        · have h := h.2 c12
          refine k_bipush (v := (-5)) C.1 dX12_nearest_39 (by decide) ?_
          exact k_iret C dX12_nearest_41 h
      · have h := h.1 c10
        refine k_iconst (v := (-1)) C.1 dX12_nearest_24 (by decide) ?_
        exact k_iret C dX12_nearest_25 h
abbrev rm_X12_memory : Room := { frames := 1, cells := 0, slots := 0, locals := 22 }
set_option maxRecDepth 100000 in
set_option maxHeartbeats 4000000 in
theorem c_X12_memory {l : Launch} {D : va_G} {dA : Nat → ClassId} {sh : gh_Sh} {b0 n : Nat} {M : gh_M} {x0 : Nat} {x1 : Int32} {x2 : Int32} {post : Int32 → gh_M → Prop} (h : wp_X12_memory sh M x0 x1 x2 post) : gh_Met l D dA sh b0 n yX12_memory cX12_memory 4 (some .int) rm_X12_memory M [.ref x0, .int x1, .int x2] (gh_pi post) := by
  refine gh_open (by decide) (Nat.le_of_ble_eq_true rfl) (fun X C => ?_)
  show gh_G X rm_X12_memory 4 0 0 sh n 0 [(0, .ref x0), (1, .int x1), (2, .int x2)] [] M
  unfold wp_X12_memory at h
  refine k_iload_n C.1 1 rfl dX12_memory_0 ?_
  refine k_iconst (v := 0) C.1 dX12_memory_1 (by decide) ?_
  refine k_aload_n C.1 0 rfl dX12_memory_2 ?_
  obtain ⟨hs1, h⟩ := h
  refine k_getI C.1 F_X12_207 dX12_memory_3 hs1 ?_
  refine k_iconst (v := 1) C.1 dX12_memory_6 (by decide) ?_
  refine k_isub C.1 dX12_memory_7 ?_
  refine k_callS (As := [.int x1, .int (0 : Int32), .int ((rI M x0 25) - (1 : Int32))]) (rest := []) C.1 V_X12_128 (c_X12_in h) ⟨rfl, rfl, Nat.le_of_ble_eq_true rfl, Nat.le_of_ble_eq_true rfl⟩  rfl rfl (Nat.le_of_ble_eq_true rfl) ⟨Nat.zero_le _, Nat.zero_le _⟩ dX12_memory_8 (kp_i fun r3 M2 h9 => ?_)
  replace h := h9
  refine k_if_ne C.1 16 dX12_memory_11 (by decide) (fun c4 => ?_) (fun c4 => ?_)
  · have h := h.2 c4
    refine k_bipush (v := 21) C.1 dX12_memory_16 (by decide) ?_
    refine k_iload_n C.1 1 rfl dX12_memory_18 ?_
    refine k_imul C.1 dX12_memory_19 ?_
    refine k_istore_n (lv' := [(3, .int ((21 : Int32) * x1)), (0, .ref x0), (1, .int x1), (2, .int x2)]) C.1 dX12_memory_20 (by decide) rfl ?_
    refine k_iload_n C.1 3 rfl dX12_memory_21 ?_
    refine k_iconst (v := 0) C.1 dX12_memory_22 (by decide) ?_
    refine k_iconst (v := 2) C.1 dX12_memory_23 (by decide) ?_
    refine k_callS (As := [.int x2, .int (0 : Int32), .int (2 : Int32)]) (rest := []) C.1 V_X12_128 (c_X12_in h) ⟨rfl, rfl, Nat.le_of_ble_eq_true rfl, Nat.le_of_ble_eq_true rfl⟩  rfl rfl (Nat.le_of_ble_eq_true rfl) ⟨Nat.zero_le _, Nat.zero_le _⟩ dX12_memory_24 (kp_i fun r6 M5 h9 => ?_)
    replace h := h9
    refine k_if_eq C.1 39 dX12_memory_27 (by decide) (fun c7 => ?_) (fun c7 => ?_)
    · have h := h.1 c7
      refine k_iload_n C.1 3 rfl dX12_memory_39 ?_
      refine k_bipush (v := 10) C.1 dX12_memory_40 (by decide) ?_
      refine k_bipush (v := 9) C.1 dX12_memory_42 (by decide) ?_
      refine k_aload_n C.1 1 rfl dX12_memory_44 ?_
      obtain ⟨q8, hq8, h⟩ := h
      refine k_getR C.1 F_X12_71 dX12_memory_45 hs1 hq8 ?_
      refine k_iload_n C.1 0 rfl dX12_memory_48 ?_
      refine k_iconst (v := 1) C.1 dX12_memory_49 (by decide) ?_
      refine k_iadd C.1 dX12_memory_50 ?_
      obtain ⟨hs9, h⟩ := h
      obtain ⟨hi10, h⟩ := h
      refine k_iald C.1 dX12_memory_51 hs9 hi10 ?_
      refine k_iadd C.1 dX12_memory_52 ?_
      refine k_callS (As := [.int x2, .int (10 : Int32), .int ((9 : Int32) + (rI M5 q8 (((21 : Int32) * x1) + (1 : Int32)).toNatClampNeg))]) (rest := []) C.1 V_X12_128 (c_X12_in h) ⟨rfl, rfl, Nat.le_of_ble_eq_true rfl, Nat.le_of_ble_eq_true rfl⟩  rfl rfl (Nat.le_of_ble_eq_true rfl) ⟨Nat.zero_le _, Nat.zero_le _⟩ dX12_memory_53 (kp_i fun r12 M11 h9 => ?_)
      replace h := h9
      refine k_if_eq C.1 73 dX12_memory_56 (by decide) (fun c13 => ?_) (fun c13 => ?_)
      · have h := h.1 c13
        refine k_iload_n C.1 3 rfl dX12_memory_73 ?_
        refine k_bipush (v := 20) C.1 dX12_memory_74 (by decide) ?_
        refine k_bipush (v := 19) C.1 dX12_memory_76 (by decide) ?_
        refine k_aload_n C.1 1 rfl dX12_memory_78 ?_
        obtain ⟨q14, hq14, h⟩ := h
        refine k_getR C.1 F_X12_71 dX12_memory_79 hs1 hq14 ?_
        refine k_iload_n C.1 0 rfl dX12_memory_82 ?_
        refine k_iconst (v := 2) C.1 dX12_memory_83 (by decide) ?_
        refine k_iadd C.1 dX12_memory_84 ?_
        obtain ⟨hs15, h⟩ := h
        obtain ⟨hi16, h⟩ := h
        refine k_iald C.1 dX12_memory_85 hs15 hi16 ?_
        refine k_iadd C.1 dX12_memory_86 ?_
        refine k_callS (As := [.int x2, .int (20 : Int32), .int ((19 : Int32) + (rI M11 q14 (((21 : Int32) * x1) + (2 : Int32)).toNatClampNeg))]) (rest := []) C.1 V_X12_128 (c_X12_in h) ⟨rfl, rfl, Nat.le_of_ble_eq_true rfl, Nat.le_of_ble_eq_true rfl⟩  rfl rfl (Nat.le_of_ble_eq_true rfl) ⟨Nat.zero_le _, Nat.zero_le _⟩ dX12_memory_87 (kp_i fun r18 M17 h9 => ?_)
        replace h := h9
        refine k_if_eq C.1 110 dX12_memory_90 (by decide) (fun c19 => ?_) (fun c19 => ?_)
        · have h := h.1 c19
          refine k_iconst (v := (-1)) C.1 dX12_memory_110 (by decide) ?_
          exact k_iret C dX12_memory_111 h
        · have h := h.2 c19
          refine k_aload_n C.1 1 rfl dX12_memory_93 ?_
          obtain ⟨q20, hq20, h⟩ := h
          refine k_getR C.1 F_X12_71 dX12_memory_94 hs1 hq20 ?_
          refine k_iload_n C.1 0 rfl dX12_memory_97 ?_
          refine k_bipush (v := 11) C.1 dX12_memory_98 (by decide) ?_
          refine k_iadd C.1 dX12_memory_100 ?_
          refine k_iload_n C.1 3 rfl dX12_memory_101 ?_
          refine k_iadd C.1 dX12_memory_102 ?_
          refine k_bipush (v := 20) C.1 dX12_memory_103 (by decide) ?_
          refine k_isub C.1 dX12_memory_105 ?_
          obtain ⟨hs21, h⟩ := h
          obtain ⟨hi22, h⟩ := h
          refine k_iald C.1 dX12_memory_106 hs21 hi22 ?_
          refine k_goto C.1 111 dX12_memory_107 (by decide) ?_
          exact k_iret C dX12_memory_111 h
      · have h := h.2 c13
        refine k_aload_n C.1 1 rfl dX12_memory_59 ?_
        obtain ⟨q23, hq23, h⟩ := h
        refine k_getR C.1 F_X12_71 dX12_memory_60 hs1 hq23 ?_
        refine k_iload_n C.1 0 rfl dX12_memory_63 ?_
        refine k_iconst (v := 3) C.1 dX12_memory_64 (by decide) ?_
        refine k_iadd C.1 dX12_memory_65 ?_
        refine k_iload_n C.1 3 rfl dX12_memory_66 ?_
        refine k_iadd C.1 dX12_memory_67 ?_
        refine k_bipush (v := 10) C.1 dX12_memory_68 (by decide) ?_
        refine k_isub C.1 dX12_memory_70 ?_
        obtain ⟨hs24, h⟩ := h
        obtain ⟨hi25, h⟩ := h
        refine k_iald C.1 dX12_memory_71 hs24 hi25 ?_
        exact k_iret C dX12_memory_72 h
    · have h := h.2 c7
      refine k_aload_n C.1 1 rfl dX12_memory_30 ?_
      obtain ⟨q26, hq26, h⟩ := h
      refine k_getR C.1 F_X12_71 dX12_memory_31 hs1 hq26 ?_
      refine k_iload_n C.1 0 rfl dX12_memory_34 ?_
      refine k_iload_n C.1 3 rfl dX12_memory_35 ?_
      refine k_iadd C.1 dX12_memory_36 ?_
      obtain ⟨hs27, h⟩ := h
      obtain ⟨hi28, h⟩ := h
      refine k_iald C.1 dX12_memory_37 hs27 hi28 ?_
      exact k_iret C dX12_memory_38 h
  · have h := h.1 c4
    refine k_iconst (v := (-1)) C.1 dX12_memory_14 (by decide) ?_
    exact k_iret C dX12_memory_15 h
abbrev rm_X12_effortOf : Room := { frames := 3, cells := 0, slots := 0, locals := 74 }
set_option maxRecDepth 100000 in
set_option maxHeartbeats 4000000 in
theorem b_X12_effortOf_69 {X : gh_X} {sh : gh_Sh} {n : Nat} {post : Int32 → gh_M → Prop} (C : gh_CR X cX12_effortOf RX12 3 (some .int) sh n 0 0 (gh_pi post)) (x0 : Nat) (x1 : Int32) (M : gh_M) (h : wp_X12_effortOf_69 sh post x0 x1 M) : gh_G X rm_X12_effortOf 3 0 0 sh n 69 [(0, .ref x0), (1, .int x1)] [] M := by
  unfold wp_X12_effortOf_69 at h
  refine k_aload_n C.1 0 rfl dX12_effortOf_69 ?_
  obtain ⟨hs1, h⟩ := h
  obtain ⟨q2, hq2, h⟩ := h
  refine k_getR C.1 F_X12_16 dX12_effortOf_70 hs1 hq2 ?_
  refine k_iload_n C.1 1 rfl dX12_effortOf_73 ?_
  obtain ⟨hs3, h⟩ := h
  obtain ⟨hi4, h⟩ := h
  refine k_iald C.1 dX12_effortOf_74 hs3 hi4 ?_
  exact k_iret C dX12_effortOf_75 h
set_option maxRecDepth 100000 in
set_option maxHeartbeats 4000000 in
theorem b_X12_effortOf_50 {X : gh_X} {sh : gh_Sh} {n : Nat} {post : Int32 → gh_M → Prop} (C : gh_CR X cX12_effortOf RX12 3 (some .int) sh n 0 0 (gh_pi post)) (x0 : Nat) (x1 : Int32) (M : gh_M) (h : wp_X12_effortOf_50 sh post x0 x1 M) : gh_G X rm_X12_effortOf 3 0 0 sh n 50 [(0, .ref x0), (1, .int x1)] [] M := by
  unfold wp_X12_effortOf_50 at h
  refine k_aload_n C.1 0 rfl dX12_effortOf_50 ?_
  obtain ⟨hs1, h⟩ := h
  refine k_getI C.1 F_X12_220 dX12_effortOf_51 hs1 ?_
  refine k_if_lt C.1 69 dX12_effortOf_54 (by decide) (fun c2 => ?_) (fun c2 => ?_)
  · have h := h.1 c2
    exact b_X12_effortOf_69 C x0 x1 M h
  · have h := h.2 c2
    refine k_aload_n C.1 0 rfl dX12_effortOf_57 ?_
    refine k_getI C.1 F_X12_224 dX12_effortOf_58 hs1 ?_
    refine k_iconst (v := 3) C.1 dX12_effortOf_61 (by decide) ?_
    refine k_icmp_ge C.1 69 dX12_effortOf_62 (by decide) (fun c3 => ?_) (fun c3 => ?_)
    · have h := h.1 c3
      exact b_X12_effortOf_69 C x0 x1 M h
    · have h := h.2 c3
      refine k_iconst (v := 2) C.1 dX12_effortOf_65 (by decide) ?_
      refine k_goto C.1 75 dX12_effortOf_66 (by decide) ?_
      exact k_iret C dX12_effortOf_75 h
set_option maxRecDepth 100000 in
set_option maxHeartbeats 4000000 in
theorem c_X12_effortOf {l : Launch} {D : va_G} {dA : Nat → ClassId} {sh : gh_Sh} {b0 n : Nat} {M : gh_M} {x0 : Nat} {x1 : Int32} {x2 : Int32} {post : Int32 → gh_M → Prop} (h : wp_X12_effortOf sh M x0 x1 x2 post) : gh_Met l D dA sh b0 n yX12_effortOf cX12_effortOf 3 (some .int) rm_X12_effortOf M [.ref x0, .int x1, .int x2] (gh_pi post) := by
  refine gh_open (by decide) (Nat.le_of_ble_eq_true rfl) (fun X C => ?_)
  show gh_G X rm_X12_effortOf 3 0 0 sh n 0 [(0, .ref x0), (1, .int x1), (2, .int x2)] [] M
  unfold wp_X12_effortOf at h
  refine k_aload_n C.1 0 rfl dX12_effortOf_0 ?_
  obtain ⟨hs1, h⟩ := h
  obtain ⟨q2, hq2, h⟩ := h
  refine k_getR C.1 F_X12_13 dX12_effortOf_1 hs1 hq2 ?_
  refine k_iload_n C.1 1 rfl dX12_effortOf_4 ?_
  obtain ⟨hs3, h⟩ := h
  obtain ⟨hi4, h⟩ := h
  refine k_iald C.1 dX12_effortOf_5 hs3 hi4 ?_
  refine k_iconst (v := 1) C.1 dX12_effortOf_6 (by decide) ?_
  refine k_icmp_eq C.1 24 dX12_effortOf_7 (by decide) (fun c5 => ?_) (fun c5 => ?_)
  · have h := h.1 c5
    refine k_iconst (v := 0) C.1 dX12_effortOf_24 (by decide) ?_
    exact k_iret C dX12_effortOf_25 h
  · have h := h.2 c5
    refine k_aload_n C.1 0 rfl dX12_effortOf_10 ?_
    obtain ⟨q6, hq6, h⟩ := h
    refine k_getR C.1 F_X12_37 dX12_effortOf_11 hs1 hq6 ?_
    refine k_iconst (v := 3) C.1 dX12_effortOf_14 (by decide) ?_
    refine k_iload_n C.1 1 rfl dX12_effortOf_15 ?_
    refine k_imul C.1 dX12_effortOf_16 ?_
    refine k_iload_n C.1 2 rfl dX12_effortOf_17 ?_
    refine k_iadd C.1 dX12_effortOf_18 ?_
    obtain ⟨hs7, h⟩ := h
    obtain ⟨hi8, h⟩ := h
    refine k_iald C.1 dX12_effortOf_19 hs7 hi8 ?_
    refine k_iconst (v := 2) C.1 dX12_effortOf_20 (by decide) ?_
    refine k_icmp_ne C.1 26 dX12_effortOf_21 (by decide) (fun c9 => ?_) (fun c9 => ?_)
    · have h := h.2 c9
      refine k_aload_n C.1 0 rfl dX12_effortOf_26 ?_
      refine k_iload_n C.1 1 rfl dX12_effortOf_27 ?_
      refine k_iload_n C.1 2 rfl dX12_effortOf_28 ?_
      refine k_callV (As := [.int x1, .int x2]) (rest := []) C.1 V_X12_227 (c_X12_findNearest h) ⟨rfl, rfl, Nat.le_of_ble_eq_true rfl, Nat.le_of_ble_eq_true rfl⟩ hs1  rfl rfl (Nat.le_of_ble_eq_true rfl) ⟨Nat.zero_le _, Nat.zero_le _⟩ dX12_effortOf_29 (kp_v fun M10 h9 => ?_)
      replace h := h9
      refine k_aload_n C.1 0 rfl dX12_effortOf_32 ?_
      refine k_getI C.1 F_X12_220 dX12_effortOf_33 hs1 ?_
      refine k_if_lt C.1 50 dX12_effortOf_36 (by decide) (fun c11 => ?_) (fun c11 => ?_)
      · have h := h.1 c11
        refine k_sub (lv' := [(0, .ref x0), (1, .int x1)]) [0, 1] rfl ?_
        exact b_X12_effortOf_50 C x0 x1 M10 h
      · have h := h.2 c11
        refine k_aload_n C.1 0 rfl dX12_effortOf_39 ?_
        refine k_getI C.1 F_X12_224 dX12_effortOf_40 hs1 ?_
        refine k_if_ne C.1 50 dX12_effortOf_43 (by decide) (fun c12 => ?_) (fun c12 => ?_)
        · have h := h.2 c12
          refine k_sub (lv' := [(0, .ref x0), (1, .int x1)]) [0, 1] rfl ?_
          exact b_X12_effortOf_50 C x0 x1 M10 h
        · have h := h.1 c12
          refine k_iconst (v := 1) C.1 dX12_effortOf_46 (by decide) ?_
          refine k_goto C.1 75 dX12_effortOf_47 (by decide) ?_
          exact k_iret C dX12_effortOf_75 h
    · have h := h.1 c9
      refine k_iconst (v := 0) C.1 dX12_effortOf_24 (by decide) ?_
      exact k_iret C dX12_effortOf_25 h
abbrev rm_X12_effort : Room := { frames := 4, cells := 0, slots := 0, locals := 96 }
set_option maxRecDepth 100000 in
set_option maxHeartbeats 4000000 in
theorem c_X12_effort {l : Launch} {D : va_G} {dA : Nat → ClassId} {sh : gh_Sh} {b0 n : Nat} {M : gh_M} {x0 : Nat} {x1 : Int32} {x2 : Int32} {post : Int32 → gh_M → Prop} (h : wp_X12_effort sh M x0 x1 x2 post) : gh_Met l D dA sh b0 n yX12_effort cX12_effort 3 (some .int) rm_X12_effort M [.ref x0, .int x1, .int x2] (gh_pi post) := by
  refine gh_open (by decide) (Nat.le_of_ble_eq_true rfl) (fun X C => ?_)
  show gh_G X rm_X12_effort 3 0 0 sh n 0 [(0, .ref x0), (1, .int x1), (2, .int x2)] [] M
  unfold wp_X12_effort at h
  refine k_aload_n C.1 0 rfl dX12_effort_0 ?_
  refine k_iload_n C.1 1 rfl dX12_effort_1 ?_
  obtain ⟨hs1, h⟩ := h
  refine k_callV (As := [.int x1]) (rest := []) C.1 V_X12_178 (c_X12_isPiece h) ⟨rfl, rfl, Nat.le_of_ble_eq_true rfl, Nat.le_of_ble_eq_true rfl⟩ hs1  rfl rfl (Nat.le_of_ble_eq_true rfl) ⟨Nat.zero_le _, Nat.zero_le _⟩ dX12_effort_2 (kp_i fun r3 M2 h9 => ?_)
  replace h := h9
  refine k_if_eq C.1 24 dX12_effort_5 (by decide) (fun c4 => ?_) (fun c4 => ?_)
  · have h := h.1 c4
    refine k_iconst (v := (-1)) C.1 dX12_effort_24 (by decide) ?_
    exact k_iret C dX12_effort_25 h
  · have h := h.2 c4
    refine k_iload_n C.1 2 rfl dX12_effort_8 ?_
    refine k_callS (As := [.int x2]) (rest := []) C.1 V_X12_187 (c_X12_isTongue h) ⟨rfl, rfl, Nat.le_of_ble_eq_true rfl, Nat.le_of_ble_eq_true rfl⟩  rfl rfl (Nat.le_of_ble_eq_true rfl) ⟨Nat.zero_le _, Nat.zero_le _⟩ dX12_effort_9 (kp_i fun r6 M5 h9 => ?_)
    replace h := h9
    refine k_if_eq C.1 24 dX12_effort_12 (by decide) (fun c7 => ?_) (fun c7 => ?_)
    · have h := h.1 c7
      refine k_iconst (v := (-1)) C.1 dX12_effort_24 (by decide) ?_
      exact k_iret C dX12_effort_25 h
    · have h := h.2 c7
      refine k_aload_n C.1 0 rfl dX12_effort_15 ?_
      refine k_iload_n C.1 1 rfl dX12_effort_16 ?_
      refine k_iload_n C.1 2 rfl dX12_effort_17 ?_
      refine k_callV (As := [.int x1, .int x2]) (rest := []) C.1 V_X12_230 (c_X12_effortOf h) ⟨rfl, rfl, Nat.le_of_ble_eq_true rfl, Nat.le_of_ble_eq_true rfl⟩ hs1  rfl rfl (Nat.le_of_ble_eq_true rfl) ⟨Nat.zero_le _, Nat.zero_le _⟩ dX12_effort_18 (kp_i fun r9 M8 h9 => ?_)
      replace h := h9
      refine k_goto C.1 25 dX12_effort_21 (by decide) ?_
      exact k_iret C dX12_effort_25 h
abbrev rm_X12_prepare : Room := { frames := 4, cells := 0, slots := 0, locals := 96 }
set_option maxRecDepth 100000 in
set_option maxHeartbeats 4000000 in
theorem b_X12_prepare_191 {X : gh_X} {sh : gh_Sh} {n : Nat} {post : gh_M → Prop} (C : gh_CR X cX12_prepare RX12 6 none sh n 0 0 (gh_pv post)) (x0 : Nat) (x1 : Int32) (x2 : Int32) (x3 : Int32) (s0 : Nat) (s1 : Int32) (s2 : Int32) (M : gh_M) (k35 : Int32 → gh_M → Prop) (hk35 : ∀ (y2 : Int32) (M : gh_M), k35 y2 M → gh_G X rm_X12_prepare 6 0 0 sh n 35 [(0, .ref x0), (1, .int x1), (2, .int y2)] [] M) (k87 : Int32 → gh_M → Prop) (hk87 : ∀ (y3 : Int32) (M : gh_M), k87 y3 M → gh_G X rm_X12_prepare 6 0 0 sh n 87 [(0, .ref x0), (1, .int x1), (2, .int x2), (3, .int y3)] [] M) (h : wp_X12_prepare_191 sh post k35 k87 x0 x1 x2 x3 s0 s1 s2 M) : gh_G X rm_X12_prepare 6 0 0 sh n 191 [(0, .ref x0), (1, .int x1), (2, .int x2), (3, .int x3)] [.int s2, .int s1, .ref s0] M := by
  unfold wp_X12_prepare_191 at h
  obtain ⟨hs2, h⟩ := h
  obtain ⟨hi1, h⟩ := h
  refine k_iast C.1 dX12_prepare_191 hs2 hi1 ?_
  refine k_iinc (v := x3 + 1) (lv' := [(3, .int (x3 + 1)), (0, .ref x0), (1, .int x1), (2, .int x2)]) C.1 3 rfl dX12_prepare_192 (by decide) rfl rfl ?_
  refine k_goto C.1 87 dX12_prepare_195 (by decide) ?_
  refine k_sub (lv' := [(0, .ref x0), (1, .int x1), (2, .int x2), (3, .int (x3 + 1))]) [1, 2, 3, 0] rfl ?_
  exact hk87 (x3 + 1) (wI M s0 s1.toNatClampNeg s2) h
set_option maxRecDepth 100000 in
set_option maxHeartbeats 4000000 in
theorem b_X12_prepare_185 {X : gh_X} {sh : gh_Sh} {n : Nat} {post : gh_M → Prop} (C : gh_CR X cX12_prepare RX12 6 none sh n 0 0 (gh_pv post)) (x0 : Nat) (x1 : Int32) (x2 : Int32) (x3 : Int32) (s0 : Nat) (s1 : Int32) (M : gh_M) (k35 : Int32 → gh_M → Prop) (hk35 : ∀ (y2 : Int32) (M : gh_M), k35 y2 M → gh_G X rm_X12_prepare 6 0 0 sh n 35 [(0, .ref x0), (1, .int x1), (2, .int y2)] [] M) (k87 : Int32 → gh_M → Prop) (hk87 : ∀ (y3 : Int32) (M : gh_M), k87 y3 M → gh_G X rm_X12_prepare 6 0 0 sh n 87 [(0, .ref x0), (1, .int x1), (2, .int x2), (3, .int y3)] [] M) (h : wp_X12_prepare_185 sh post k35 k87 x0 x1 x2 x3 s0 s1 M) : gh_G X rm_X12_prepare 6 0 0 sh n 185 [(0, .ref x0), (1, .int x1), (2, .int x2), (3, .int x3)] [.int s1, .ref s0] M := by
  unfold wp_X12_prepare_185 at h
  refine k_aload_n C.1 0 rfl dX12_prepare_185 ?_
  obtain ⟨hs1, h⟩ := h
  obtain ⟨q2, hq2, h⟩ := h
  refine k_getR C.1 F_X12_116 dX12_prepare_186 hs1 hq2 ?_
  refine k_iload_n C.1 2 rfl dX12_prepare_189 ?_
  obtain ⟨hs3, h⟩ := h
  obtain ⟨hi4, h⟩ := h
  refine k_iald C.1 dX12_prepare_190 hs3 hi4 ?_
  exact b_X12_prepare_191 C x0 x1 x2 x3 s0 s1 (rI M q2 x2.toNatClampNeg) M k35 hk35 k87 hk87 h
set_option maxRecDepth 100000 in
set_option maxHeartbeats 4000000 in
theorem b_X12_prepare_180 {X : gh_X} {sh : gh_Sh} {n : Nat} {post : gh_M → Prop} (C : gh_CR X cX12_prepare RX12 6 none sh n 0 0 (gh_pv post)) (x0 : Nat) (x1 : Int32) (x2 : Int32) (x3 : Int32) (x5 : Int32) (s0 : Nat) (s1 : Int32) (M : gh_M) (k35 : Int32 → gh_M → Prop) (hk35 : ∀ (y2 : Int32) (M : gh_M), k35 y2 M → gh_G X rm_X12_prepare 6 0 0 sh n 35 [(0, .ref x0), (1, .int x1), (2, .int y2)] [] M) (k87 : Int32 → gh_M → Prop) (hk87 : ∀ (y3 : Int32) (M : gh_M), k87 y3 M → gh_G X rm_X12_prepare 6 0 0 sh n 87 [(0, .ref x0), (1, .int x1), (2, .int x2), (3, .int y3)] [] M) (h : wp_X12_prepare_180 sh post k35 k87 x0 x1 x2 x3 x5 s0 s1 M) : gh_G X rm_X12_prepare 6 0 0 sh n 180 [(0, .ref x0), (1, .int x1), (2, .int x2), (3, .int x3), (5, .int x5)] [.int s1, .ref s0] M := by
  unfold wp_X12_prepare_180 at h
  refine k_iload C.1 4 rfl dX12_prepare_180 ?_
  refine k_goto C.1 191 dX12_prepare_182 (by decide) ?_
  refine k_sub (lv' := [(0, .ref x0), (1, .int x1), (2, .int x2), (3, .int x3)]) [0, 1, 2, 3] rfl ?_
  exact b_X12_prepare_191 C x0 x1 x2 x3 s0 s1 x5 M k35 hk35 k87 hk87 h
set_option maxRecDepth 100000 in
set_option maxHeartbeats 4000000 in
theorem b_X12_prepare_133 {X : gh_X} {sh : gh_Sh} {n : Nat} {post : gh_M → Prop} (C : gh_CR X cX12_prepare RX12 6 none sh n 0 0 (gh_pv post)) (x0 : Nat) (x1 : Int32) (x2 : Int32) (x3 : Int32) (s0 : Int32) (M : gh_M) (k35 : Int32 → gh_M → Prop) (hk35 : ∀ (y2 : Int32) (M : gh_M), k35 y2 M → gh_G X rm_X12_prepare 6 0 0 sh n 35 [(0, .ref x0), (1, .int x1), (2, .int y2)] [] M) (k87 : Int32 → gh_M → Prop) (hk87 : ∀ (y3 : Int32) (M : gh_M), k87 y3 M → gh_G X rm_X12_prepare 6 0 0 sh n 87 [(0, .ref x0), (1, .int x1), (2, .int x2), (3, .int y3)] [] M) (h : wp_X12_prepare_133 sh post k35 k87 x0 x1 x2 x3 s0 M) : gh_G X rm_X12_prepare 6 0 0 sh n 133 [(0, .ref x0), (1, .int x1), (2, .int x2), (3, .int x3)] [.int s0] M := by
  unfold wp_X12_prepare_133 at h
  refine k_istore (lv' := [(4, .int s0), (0, .ref x0), (1, .int x1), (2, .int x2), (3, .int x3)]) C.1 dX12_prepare_133 (by decide) rfl ?_
  refine k_aload_n C.1 1 rfl dX12_prepare_135 ?_
  obtain ⟨hs1, h⟩ := h
  obtain ⟨q2, hq2, h⟩ := h
  refine k_getR C.1 F_X12_113 dX12_prepare_136 hs1 hq2 ?_
  refine k_iload_n C.1 3 rfl dX12_prepare_139 ?_
  obtain ⟨hs3, h⟩ := h
  obtain ⟨hi4, h⟩ := h
  refine k_iald C.1 dX12_prepare_140 hs3 hi4 ?_
  refine k_aload_n C.1 1 rfl dX12_prepare_141 ?_
  obtain ⟨q5, hq5, h⟩ := h
  refine k_getR C.1 F_X12_55 dX12_prepare_142 hs1 hq5 ?_
  refine k_iload_n C.1 4 rfl dX12_prepare_145 ?_
  obtain ⟨hs6, h⟩ := h
  obtain ⟨hi7, h⟩ := h
  refine k_iald C.1 dX12_prepare_146 hs6 hi7 ?_
  refine k_imul C.1 dX12_prepare_147 ?_
  refine k_istore (lv' := [(5, .int ((rI M q2 x2.toNatClampNeg) * (rI M q5 x3.toNatClampNeg))), (4, .int s0), (0, .ref x0), (1, .int x1), (2, .int x2), (3, .int x3)]) C.1 dX12_prepare_148 (by decide) rfl ?_
  refine k_aload_n C.1 2 rfl dX12_prepare_150 ?_
  obtain ⟨q8, hq8, h⟩ := h
  refine k_getR C.1 F_X12_116 dX12_prepare_151 hs1 hq8 ?_
  refine k_iload_n C.1 4 rfl dX12_prepare_154 ?_
  refine k_iload C.1 1 rfl dX12_prepare_155 ?_
  refine k_if_eq C.1 185 dX12_prepare_157 (by decide) (fun c9 => ?_) (fun c9 => ?_)
  · have h := h.1 c9
    refine k_sub (lv' := [(0, .ref x0), (1, .int x1), (2, .int x2), (3, .int x3)]) [2, 3, 4, 5] rfl ?_
    exact b_X12_prepare_185 C x0 x1 x2 x3 q8 x2 M k35 hk35 k87 hk87 h
  · have h := h.2 c9
    refine k_aload_n C.1 2 rfl dX12_prepare_160 ?_
    refine k_getR C.1 F_X12_116 dX12_prepare_161 hs1 hq8 ?_
    refine k_iload_n C.1 4 rfl dX12_prepare_164 ?_
    obtain ⟨hs10, h⟩ := h
    obtain ⟨hi11, h⟩ := h
    refine k_iald C.1 dX12_prepare_165 hs10 hi11 ?_
    refine k_if_lt C.1 180 dX12_prepare_166 (by decide) (fun c12 => ?_) (fun c12 => ?_)
    · have h := h.1 c12
      refine k_sub (lv' := [(0, .ref x0), (1, .int x1), (2, .int x2), (3, .int x3), (5, .int ((rI M q2 x2.toNatClampNeg) * (rI M q5 x3.toNatClampNeg)))]) [2, 3, 4, 5, 0] rfl ?_
      exact b_X12_prepare_180 C x0 x1 x2 x3 ((rI M q2 x2.toNatClampNeg) * (rI M q5 x3.toNatClampNeg)) q8 x2 M k35 hk35 k87 hk87 h
    · have h := h.2 c12
      refine k_iload C.1 0 rfl dX12_prepare_169 ?_
      refine k_aload_n C.1 2 rfl dX12_prepare_171 ?_
      refine k_getR C.1 F_X12_116 dX12_prepare_172 hs1 hq8 ?_
      refine k_iload_n C.1 4 rfl dX12_prepare_175 ?_
      obtain ⟨hi13, h⟩ := h
      refine k_iald C.1 dX12_prepare_176 hs10 hi13 ?_
      refine k_icmp_ge C.1 185 dX12_prepare_177 (by decide) (fun c14 => ?_) (fun c14 => ?_)
      · have h := h.1 c14
        refine k_sub (lv' := [(0, .ref x0), (1, .int x1), (2, .int x2), (3, .int x3)]) [2, 3, 4, 5] rfl ?_
        exact b_X12_prepare_185 C x0 x1 x2 x3 q8 x2 M k35 hk35 k87 hk87 h
      · have h := h.2 c14
        refine k_sub (lv' := [(0, .ref x0), (1, .int x1), (2, .int x2), (3, .int x3), (5, .int ((rI M q2 x2.toNatClampNeg) * (rI M q5 x3.toNatClampNeg)))]) [2, 3, 4, 5, 0] rfl ?_
        exact b_X12_prepare_180 C x0 x1 x2 x3 ((rI M q2 x2.toNatClampNeg) * (rI M q5 x3.toNatClampNeg)) q8 x2 M k35 hk35 k87 hk87 h
set_option maxRecDepth 100000 in
set_option maxHeartbeats 4000000 in
theorem b_X12_prepare_132 {X : gh_X} {sh : gh_Sh} {n : Nat} {post : gh_M → Prop} (C : gh_CR X cX12_prepare RX12 6 none sh n 0 0 (gh_pv post)) (x0 : Nat) (x1 : Int32) (x2 : Int32) (x3 : Int32) (M : gh_M) (k35 : Int32 → gh_M → Prop) (hk35 : ∀ (y2 : Int32) (M : gh_M), k35 y2 M → gh_G X rm_X12_prepare 6 0 0 sh n 35 [(0, .ref x0), (1, .int x1), (2, .int y2)] [] M) (k87 : Int32 → gh_M → Prop) (hk87 : ∀ (y3 : Int32) (M : gh_M), k87 y3 M → gh_G X rm_X12_prepare 6 0 0 sh n 87 [(0, .ref x0), (1, .int x1), (2, .int x2), (3, .int y3)] [] M) (h : wp_X12_prepare_132 sh post k35 k87 x0 x1 x2 x3 M) : gh_G X rm_X12_prepare 6 0 0 sh n 132 [(0, .ref x0), (1, .int x1), (2, .int x2), (3, .int x3)] [] M := by
  unfold wp_X12_prepare_132 at h
  refine k_iconst (v := 0) C.1 dX12_prepare_132 (by decide) ?_
  exact b_X12_prepare_133 C x0 x1 x2 x3 (0 : Int32) M k35 hk35 k87 hk87 h
set_option maxRecDepth 100000 in
set_option maxHeartbeats 4000000 in
theorem bb_X12_prepare_87 {X : gh_X} {sh : gh_Sh} {n : Nat} {post : gh_M → Prop} (C : gh_CR X cX12_prepare RX12 6 none sh n 0 0 (gh_pv post)) (x0 : Nat) (x1 : Int32) (x2 : Int32) (k35 : Int32 → gh_M → Prop) (hk35 : ∀ (y2 : Int32) (M : gh_M), k35 y2 M → gh_G X rm_X12_prepare 6 0 0 sh n 35 [(0, .ref x0), (1, .int x1), (2, .int y2)] [] M) (k87 : Int32 → gh_M → Prop) (hk87 : ∀ (y3 : Int32) (M : gh_M), k87 y3 M → gh_G X rm_X12_prepare 6 0 0 sh n 87 [(0, .ref x0), (1, .int x1), (2, .int x2), (3, .int y3)] [] M) (x3 : Int32) (M : gh_M) (h : wb_X12_prepare_87 sh post k35 x0 x1 x2 k87 x3 M) : gh_G X rm_X12_prepare 6 0 0 sh n 87 [(0, .ref x0), (1, .int x1), (2, .int x2), (3, .int x3)] [] M := by
  unfold wb_X12_prepare_87 at h
  refine k_iload_n C.1 3 rfl dX12_prepare_87 ?_
  refine k_aload_n C.1 0 rfl dX12_prepare_88 ?_
  obtain ⟨hs1, h⟩ := h
  refine k_getI C.1 F_X12_135 dX12_prepare_89 hs1 ?_
  refine k_icmp_ge C.1 198 dX12_prepare_92 (by decide) (fun c2 => ?_) (fun c2 => ?_)
  · have h := h.1 c2
    refine k_iinc (v := x2 + 1) (lv' := [(2, .int (x2 + 1)), (0, .ref x0), (1, .int x1), (3, .int x3)]) C.1 2 rfl dX12_prepare_198 (by decide) rfl rfl ?_
    refine k_goto C.1 35 dX12_prepare_201 (by decide) ?_
    refine k_sub (lv' := [(0, .ref x0), (1, .int x1), (2, .int (x2 + 1))]) [1, 2, 0] rfl ?_
    exact hk35 (x2 + 1) M h
  · have h := h.2 c2
    refine k_aload_n C.1 0 rfl dX12_prepare_95 ?_
    obtain ⟨q3, hq3, h⟩ := h
    refine k_getR C.1 F_X12_113 dX12_prepare_96 hs1 hq3 ?_
    refine k_iload_n C.1 2 rfl dX12_prepare_99 ?_
    obtain ⟨hs4, h⟩ := h
    obtain ⟨hi5, h⟩ := h
    refine k_iald C.1 dX12_prepare_100 hs4 hi5 ?_
    refine k_if_le C.1 132 dX12_prepare_101 (by decide) (fun c6 => ?_) (fun c6 => ?_)
    · have h := h.1 c6
      exact b_X12_prepare_132 C x0 x1 x2 x3 M k35 hk35 k87 hk87 h
    · have h := h.2 c6
      refine k_aload_n C.1 0 rfl dX12_prepare_104 ?_
      refine k_iload_n C.1 3 rfl dX12_prepare_105 ?_
      refine k_iload_n C.1 1 rfl dX12_prepare_106 ?_
      refine k_callV (As := [.int x3, .int x1]) (rest := []) C.1 V_X12_196 (c_X12_knows h) ⟨rfl, rfl, Nat.le_of_ble_eq_true rfl, Nat.le_of_ble_eq_true rfl⟩ hs1  rfl rfl (Nat.le_of_ble_eq_true rfl) ⟨Nat.zero_le _, Nat.zero_le _⟩ dX12_prepare_107 (kp_i fun r8 M7 h9 => ?_)
      replace h := h9
      refine k_if_eq C.1 132 dX12_prepare_110 (by decide) (fun c9 => ?_) (fun c9 => ?_)
      · have h := h.1 c9
        exact b_X12_prepare_132 C x0 x1 x2 x3 M7 k35 hk35 k87 hk87 h
      · have h := h.2 c9
        refine k_aload_n C.1 0 rfl dX12_prepare_113 ?_
        obtain ⟨q10, hq10, h⟩ := h
        refine k_getR C.1 F_X12_52 dX12_prepare_114 hs1 hq10 ?_
        refine k_iload_n C.1 3 rfl dX12_prepare_117 ?_
        obtain ⟨hs11, h⟩ := h
        obtain ⟨hi12, h⟩ := h
        refine k_iald C.1 dX12_prepare_118 hs11 hi12 ?_
        refine k_aload_n C.1 0 rfl dX12_prepare_119 ?_
        obtain ⟨q13, hq13, h⟩ := h
        refine k_getR C.1 F_X12_113 dX12_prepare_120 hs1 hq13 ?_
        refine k_iload_n C.1 2 rfl dX12_prepare_123 ?_
        obtain ⟨hs14, h⟩ := h
        obtain ⟨hi15, h⟩ := h
        refine k_iald C.1 dX12_prepare_124 hs14 hi15 ?_
        refine k_icmp_lt C.1 132 dX12_prepare_125 (by decide) (fun c16 => ?_) (fun c16 => ?_)
        · have h := h.1 c16
          exact b_X12_prepare_132 C x0 x1 x2 x3 M7 k35 hk35 k87 hk87 h
        · have h := h.2 c16
          refine k_iconst (v := 1) C.1 dX12_prepare_128 (by decide) ?_
          refine k_goto C.1 133 dX12_prepare_129 (by decide) ?_
          exact b_X12_prepare_133 C x0 x1 x2 x3 (1 : Int32) M7 k35 hk35 k87 hk87 h
set_option maxRecDepth 100000 in
theorem b_X12_prepare_87 {X : gh_X} {sh : gh_Sh} {n : Nat} {post : gh_M → Prop} (C : gh_CR X cX12_prepare RX12 6 none sh n 0 0 (gh_pv post)) (x0 : Nat) (x1 : Int32) (x2 : Int32) (x3 : Int32) (M : gh_M) (k35 : Int32 → gh_M → Prop) (hk35 : ∀ (y2 : Int32) (M : gh_M), k35 y2 M → gh_G X rm_X12_prepare 6 0 0 sh n 35 [(0, .ref x0), (1, .int x1), (2, .int y2)] [] M) (h : wp_X12_prepare_87 sh post k35 x0 x1 x2 x3 M) : gh_G X rm_X12_prepare 6 0 0 sh n 87 [(0, .ref x0), (1, .int x1), (2, .int x2), (3, .int x3)] [] M := by
  unfold wp_X12_prepare_87 at h
  exact gh_loop_use h (fun v => gh_G X rm_X12_prepare 6 0 0 sh n 87 [(0, .ref x0), (1, .int x1), (2, .int x2), (3, .int v.1)] [] v.2) (fun k v hk hb => bb_X12_prepare_87 C x0 x1 x2 k35 hk35 (fun x3 M => k (x3, M)) (fun x3 M h => hk (x3, M) h) v.1 v.2 hb)
set_option maxRecDepth 100000 in
set_option maxHeartbeats 4000000 in
theorem b_X12_prepare_74 {X : gh_X} {sh : gh_Sh} {n : Nat} {post : gh_M → Prop} (C : gh_CR X cX12_prepare RX12 6 none sh n 0 0 (gh_pv post)) (x0 : Nat) (x1 : Int32) (x2 : Int32) (s0 : Nat) (s1 : Int32) (s2 : Int32) (M : gh_M) (k35 : Int32 → gh_M → Prop) (hk35 : ∀ (y2 : Int32) (M : gh_M), k35 y2 M → gh_G X rm_X12_prepare 6 0 0 sh n 35 [(0, .ref x0), (1, .int x1), (2, .int y2)] [] M) (h : wp_X12_prepare_74 sh post k35 x0 x1 x2 s0 s1 s2 M) : gh_G X rm_X12_prepare 6 0 0 sh n 74 [(0, .ref x0), (1, .int x1), (2, .int x2)] [.int s2, .int s1, .ref s0] M := by
  unfold wp_X12_prepare_74 at h
  refine k_iadd C.1 dX12_prepare_74 ?_
  obtain ⟨hs1, h⟩ := h
  refine k_putI C.1 F_X12_233 dX12_prepare_75 hs1 rfl rfl ?_
  refine k_aload_n C.1 0 rfl dX12_prepare_78 ?_
  obtain ⟨hs2, h⟩ := h
  obtain ⟨q3, hq3, h⟩ := h
  refine k_getR C.1 F_X12_116 dX12_prepare_79 hs2 hq3 ?_
  refine k_iload_n C.1 2 rfl dX12_prepare_82 ?_
  refine k_iconst (v := (-1)) C.1 dX12_prepare_83 (by decide) ?_
  obtain ⟨hs5, h⟩ := h
  obtain ⟨hi4, h⟩ := h
  refine k_iast C.1 dX12_prepare_84 hs5 hi4 ?_
  refine k_iconst (v := 0) C.1 dX12_prepare_85 (by decide) ?_
  refine k_istore_n (lv' := [(3, .int (0 : Int32)), (0, .ref x0), (1, .int x1), (2, .int x2)]) C.1 dX12_prepare_86 (by decide) rfl ?_
  refine k_sub (lv' := [(0, .ref x0), (1, .int x1), (2, .int x2), (3, .int (0 : Int32))]) [1, 2, 3, 0] rfl ?_
  exact b_X12_prepare_87 C x0 x1 x2 (0 : Int32) (wI (wI M s0 50 (s1 + s2)) q3 x2.toNatClampNeg (-1 : Int32)) k35 hk35 h
set_option maxRecDepth 100000 in
set_option maxHeartbeats 4000000 in
theorem bb_X12_prepare_35 {X : gh_X} {sh : gh_Sh} {n : Nat} {post : gh_M → Prop} (C : gh_CR X cX12_prepare RX12 6 none sh n 0 0 (gh_pv post)) (x0 : Nat) (x1 : Int32) (k35 : Int32 → gh_M → Prop) (hk35 : ∀ (y2 : Int32) (M : gh_M), k35 y2 M → gh_G X rm_X12_prepare 6 0 0 sh n 35 [(0, .ref x0), (1, .int x1), (2, .int y2)] [] M) (x2 : Int32) (M : gh_M) (h : wb_X12_prepare_35 sh post x0 x1 k35 x2 M) : gh_G X rm_X12_prepare 6 0 0 sh n 35 [(0, .ref x0), (1, .int x1), (2, .int x2)] [] M := by
  unfold wb_X12_prepare_35 at h
  refine k_iload_n C.1 2 rfl dX12_prepare_35 ?_
  refine k_aload_n C.1 0 rfl dX12_prepare_36 ?_
  obtain ⟨hs1, h⟩ := h
  refine k_getI C.1 F_X12_132 dX12_prepare_37 hs1 ?_
  refine k_icmp_ge C.1 204 dX12_prepare_40 (by decide) (fun c2 => ?_) (fun c2 => ?_)
  · have h := h.1 c2
    exact k_vret C dX12_prepare_204 h
  · have h := h.2 c2
    refine k_aload_n C.1 0 rfl dX12_prepare_43 ?_
    obtain ⟨q3, hq3, h⟩ := h
    refine k_getR C.1 F_X12_113 dX12_prepare_44 hs1 hq3 ?_
    refine k_iload_n C.1 2 rfl dX12_prepare_47 ?_
    refine k_aload_n C.1 0 rfl dX12_prepare_48 ?_
    refine k_iload_n C.1 2 rfl dX12_prepare_49 ?_
    refine k_iload_n C.1 1 rfl dX12_prepare_50 ?_
    refine k_callV (As := [.int x2, .int x1]) (rest := [.int x2, .ref q3]) C.1 V_X12_230 (c_X12_effortOf h) ⟨rfl, rfl, Nat.le_of_ble_eq_true rfl, Nat.le_of_ble_eq_true rfl⟩ hs1  rfl rfl (Nat.le_of_ble_eq_true rfl) ⟨Nat.zero_le _, Nat.zero_le _⟩ dX12_prepare_51 (kp_i fun r5 M4 h9 => ?_)
    replace h := h9
    obtain ⟨hs7, h⟩ := h
    obtain ⟨hi6, h⟩ := h
    refine k_iast C.1 dX12_prepare_54 hs7 hi6 ?_
    refine k_aload_n C.1 0 rfl dX12_prepare_55 ?_
    refine k_dup C.1 dX12_prepare_56 rfl ?_
    refine k_getI C.1 F_X12_233 dX12_prepare_57 hs1 ?_
    refine k_aload_n C.1 0 rfl dX12_prepare_60 ?_
    obtain ⟨q8, hq8, h⟩ := h
    refine k_getR C.1 F_X12_113 dX12_prepare_61 hs1 hq8 ?_
    refine k_iload_n C.1 2 rfl dX12_prepare_64 ?_
    obtain ⟨hs9, h⟩ := h
    obtain ⟨hi10, h⟩ := h
    refine k_iald C.1 dX12_prepare_65 hs9 hi10 ?_
    refine k_if_le C.1 73 dX12_prepare_66 (by decide) (fun c11 => ?_) (fun c11 => ?_)
    · have h := h.1 c11
      refine k_iconst (v := 0) C.1 dX12_prepare_73 (by decide) ?_
      exact b_X12_prepare_74 C x0 x1 x2 x0 (rI (wI M4 q3 x2.toNatClampNeg r5) x0 50) (0 : Int32) (wI M4 q3 x2.toNatClampNeg r5) k35 hk35 h
    · have h := h.2 c11
      refine k_iconst (v := 1) C.1 dX12_prepare_69 (by decide) ?_
      refine k_goto C.1 74 dX12_prepare_70 (by decide) ?_
      exact b_X12_prepare_74 C x0 x1 x2 x0 (rI (wI M4 q3 x2.toNatClampNeg r5) x0 50) (1 : Int32) (wI M4 q3 x2.toNatClampNeg r5) k35 hk35 h
set_option maxRecDepth 100000 in
theorem b_X12_prepare_35 {X : gh_X} {sh : gh_Sh} {n : Nat} {post : gh_M → Prop} (C : gh_CR X cX12_prepare RX12 6 none sh n 0 0 (gh_pv post)) (x0 : Nat) (x1 : Int32) (x2 : Int32) (M : gh_M) (h : wp_X12_prepare_35 sh post x0 x1 x2 M) : gh_G X rm_X12_prepare 6 0 0 sh n 35 [(0, .ref x0), (1, .int x1), (2, .int x2)] [] M := by
  unfold wp_X12_prepare_35 at h
  exact gh_loop_use h (fun v => gh_G X rm_X12_prepare 6 0 0 sh n 35 [(0, .ref x0), (1, .int x1), (2, .int v.1)] [] v.2) (fun k v hk hb => bb_X12_prepare_35 C x0 x1 (fun x2 M => k (x2, M)) (fun x2 M h => hk (x2, M) h) v.1 v.2 hb)
set_option maxRecDepth 100000 in
set_option maxHeartbeats 4000000 in
theorem bb_X12_prepare_7 {X : gh_X} {sh : gh_Sh} {n : Nat} {post : gh_M → Prop} (C : gh_CR X cX12_prepare RX12 6 none sh n 0 0 (gh_pv post)) (x0 : Nat) (x1 : Int32) (k7 : Int32 → gh_M → Prop) (hk7 : ∀ (y2 : Int32) (M : gh_M), k7 y2 M → gh_G X rm_X12_prepare 6 0 0 sh n 7 [(0, .ref x0), (1, .int x1), (2, .int y2)] [] M) (x2 : Int32) (M : gh_M) (h : wb_X12_prepare_7 sh post x0 x1 k7 x2 M) : gh_G X rm_X12_prepare 6 0 0 sh n 7 [(0, .ref x0), (1, .int x1), (2, .int x2)] [] M := by
  unfold wb_X12_prepare_7 at h
  refine k_iload_n C.1 2 rfl dX12_prepare_7 ?_
  refine k_aload_n C.1 0 rfl dX12_prepare_8 ?_
  obtain ⟨hs1, h⟩ := h
  refine k_getI C.1 F_X12_135 dX12_prepare_9 hs1 ?_
  refine k_icmp_ge C.1 33 dX12_prepare_12 (by decide) (fun c2 => ?_) (fun c2 => ?_)
  · have h := h.1 c2
    refine k_iconst (v := 0) C.1 dX12_prepare_33 (by decide) ?_
    refine k_istore_n (lv' := [(2, .int (0 : Int32)), (0, .ref x0), (1, .int x1)]) C.1 dX12_prepare_34 (by decide) rfl ?_
    refine k_sub (lv' := [(0, .ref x0), (1, .int x1), (2, .int (0 : Int32))]) [1, 2, 0] rfl ?_
    exact b_X12_prepare_35 C x0 x1 (0 : Int32) M h
  · have h := h.2 c2
    refine k_aload_n C.1 0 rfl dX12_prepare_15 ?_
    obtain ⟨q3, hq3, h⟩ := h
    refine k_getR C.1 F_X12_122 dX12_prepare_16 hs1 hq3 ?_
    refine k_iload_n C.1 2 rfl dX12_prepare_19 ?_
    refine k_aload_n C.1 0 rfl dX12_prepare_20 ?_
    obtain ⟨q4, hq4, h⟩ := h
    refine k_getR C.1 F_X12_52 dX12_prepare_21 hs1 hq4 ?_
    refine k_iload_n C.1 2 rfl dX12_prepare_24 ?_
    obtain ⟨hs5, h⟩ := h
    obtain ⟨hi6, h⟩ := h
    refine k_iald C.1 dX12_prepare_25 hs5 hi6 ?_
    obtain ⟨hs8, h⟩ := h
    obtain ⟨hi7, h⟩ := h
    refine k_iast C.1 dX12_prepare_26 hs8 hi7 ?_
    refine k_iinc (v := x2 + 1) (lv' := [(2, .int (x2 + 1)), (0, .ref x0), (1, .int x1)]) C.1 2 rfl dX12_prepare_27 (by decide) rfl rfl ?_
    refine k_goto C.1 7 dX12_prepare_30 (by decide) ?_
    refine k_sub (lv' := [(0, .ref x0), (1, .int x1), (2, .int (x2 + 1))]) [1, 2, 0] rfl ?_
    exact hk7 (x2 + 1) (wI M q3 x2.toNatClampNeg (rI M q4 x2.toNatClampNeg)) h
set_option maxRecDepth 100000 in
theorem b_X12_prepare_7 {X : gh_X} {sh : gh_Sh} {n : Nat} {post : gh_M → Prop} (C : gh_CR X cX12_prepare RX12 6 none sh n 0 0 (gh_pv post)) (x0 : Nat) (x1 : Int32) (x2 : Int32) (M : gh_M) (h : wp_X12_prepare_7 sh post x0 x1 x2 M) : gh_G X rm_X12_prepare 6 0 0 sh n 7 [(0, .ref x0), (1, .int x1), (2, .int x2)] [] M := by
  unfold wp_X12_prepare_7 at h
  exact gh_loop_use h (fun v => gh_G X rm_X12_prepare 6 0 0 sh n 7 [(0, .ref x0), (1, .int x1), (2, .int v.1)] [] v.2) (fun k v hk hb => bb_X12_prepare_7 C x0 x1 (fun x2 M => k (x2, M)) (fun x2 M h => hk (x2, M) h) v.1 v.2 hb)
set_option maxRecDepth 100000 in
set_option maxHeartbeats 4000000 in
theorem c_X12_prepare {l : Launch} {D : va_G} {dA : Nat → ClassId} {sh : gh_Sh} {b0 n : Nat} {M : gh_M} {x0 : Nat} {x1 : Int32} {post : gh_M → Prop} (h : wp_X12_prepare sh M x0 x1 post) : gh_Met l D dA sh b0 n yX12_prepare cX12_prepare 6 none rm_X12_prepare M [.ref x0, .int x1] (gh_pv post) := by
  refine gh_open (by decide) (Nat.le_of_ble_eq_true rfl) (fun X C => ?_)
  show gh_G X rm_X12_prepare 6 0 0 sh n 0 [(0, .ref x0), (1, .int x1)] [] M
  unfold wp_X12_prepare at h
  refine k_aload_n C.1 0 rfl dX12_prepare_0 ?_
  refine k_iconst (v := 0) C.1 dX12_prepare_1 (by decide) ?_
  obtain ⟨hs1, h⟩ := h
  refine k_putI C.1 F_X12_233 dX12_prepare_2 hs1 rfl rfl ?_
  refine k_iconst (v := 0) C.1 dX12_prepare_5 (by decide) ?_
  refine k_istore_n (lv' := [(2, .int (0 : Int32)), (0, .ref x0), (1, .int x1)]) C.1 dX12_prepare_6 (by decide) rfl ?_
  refine k_sub (lv' := [(0, .ref x0), (1, .int x1), (2, .int (0 : Int32))]) [1, 2, 0] rfl ?_
  exact b_X12_prepare_7 C x0 x1 (0 : Int32) (wI M x0 50 (0 : Int32)) h
abbrev rm_X12_canBeBetter : Room := { frames := 0, cells := 0, slots := 0, locals := 0 }
set_option maxRecDepth 100000 in
set_option maxHeartbeats 4000000 in
theorem b_X12_canBeBetter_97 {X : gh_X} {sh : gh_Sh} {n : Nat} {post : Int32 → gh_M → Prop} (C : gh_CR X cX12_canBeBetter RX12 7 (some .boolean) sh n 0 0 (gh_pi post)) (M : gh_M) (h : wp_X12_canBeBetter_97 sh post M) : gh_G X rm_X12_canBeBetter 7 0 0 sh n 97 [] [] M := by
  unfold wp_X12_canBeBetter_97 at h
  refine k_iconst (v := 1) C.1 dX12_canBeBetter_97 (by decide) ?_
  refine k_goto C.1 102 dX12_canBeBetter_98 (by decide) ?_
  exact k_zret C dX12_canBeBetter_102 (Or.inr rfl) h
set_option maxRecDepth 100000 in
set_option maxHeartbeats 4000000 in
theorem b_X12_canBeBetter_61 {X : gh_X} {sh : gh_Sh} {n : Nat} {post : Int32 → gh_M → Prop} (C : gh_CR X cX12_canBeBetter RX12 7 (some .boolean) sh n 0 0 (gh_pi post)) (x0 : Nat) (x4 : Int32) (x6 : Int32) (s0 : Int32) (s1 : Int32) (M : gh_M) (k9 : Int32 → Int32 → Int32 → gh_M → Prop) (hk9 : ∀ (y4 : Int32) (y5 : Int32) (y6 : Int32) (M : gh_M), k9 y4 y5 y6 M → gh_G X rm_X12_canBeBetter 7 0 0 sh n 9 [(0, .ref x0), (4, .int y4), (5, .int y5), (6, .int y6)] [] M) (h : wp_X12_canBeBetter_61 sh post k9 x0 x4 x6 s0 s1 M) : gh_G X rm_X12_canBeBetter 7 0 0 sh n 61 [(0, .ref x0), (4, .int x4), (6, .int x6)] [.int s1, .int s0] M := by
  unfold wp_X12_canBeBetter_61 at h
  refine k_iadd C.1 dX12_canBeBetter_61 ?_
  refine k_istore (lv' := [(5, .int (s0 + s1)), (0, .ref x0), (4, .int x4), (6, .int x6)]) C.1 dX12_canBeBetter_62 (by decide) rfl ?_
  refine k_iinc (v := x6 + 1) (lv' := [(6, .int (x6 + 1)), (5, .int (s0 + s1)), (0, .ref x0), (4, .int x4)]) C.1 3 rfl dX12_canBeBetter_64 (by decide) rfl rfl ?_
  refine k_goto C.1 9 dX12_canBeBetter_67 (by decide) ?_
  refine k_sub (lv' := [(0, .ref x0), (4, .int x4), (5, .int (s0 + s1)), (6, .int (x6 + 1))]) [2, 3, 1, 0] rfl ?_
  exact hk9 x4 (s0 + s1) (x6 + 1) M h
set_option maxRecDepth 100000 in
set_option maxHeartbeats 4000000 in
theorem b_X12_canBeBetter_35 {X : gh_X} {sh : gh_Sh} {n : Nat} {post : Int32 → gh_M → Prop} (C : gh_CR X cX12_canBeBetter RX12 7 (some .boolean) sh n 0 0 (gh_pi post)) (x0 : Nat) (x5 : Int32) (x6 : Int32) (s0 : Int32) (s1 : Int32) (M : gh_M) (k9 : Int32 → Int32 → Int32 → gh_M → Prop) (hk9 : ∀ (y4 : Int32) (y5 : Int32) (y6 : Int32) (M : gh_M), k9 y4 y5 y6 M → gh_G X rm_X12_canBeBetter 7 0 0 sh n 9 [(0, .ref x0), (4, .int y4), (5, .int y5), (6, .int y6)] [] M) (h : wp_X12_canBeBetter_35 sh post k9 x0 x5 x6 s0 s1 M) : gh_G X rm_X12_canBeBetter 7 0 0 sh n 35 [(0, .ref x0), (5, .int x5), (6, .int x6)] [.int s1, .int s0] M := by
  unfold wp_X12_canBeBetter_35 at h
  refine k_iadd C.1 dX12_canBeBetter_35 ?_
  refine k_istore (lv' := [(4, .int (s0 + s1)), (0, .ref x0), (5, .int x5), (6, .int x6)]) C.1 dX12_canBeBetter_36 (by decide) rfl ?_
  refine k_iload C.1 2 rfl dX12_canBeBetter_38 ?_
  refine k_aload_n C.1 1 rfl dX12_canBeBetter_40 ?_
  obtain ⟨hs1, h⟩ := h
  obtain ⟨q2, hq2, h⟩ := h
  refine k_getR C.1 F_X12_116 dX12_canBeBetter_41 hs1 hq2 ?_
  refine k_iload C.1 3 rfl dX12_canBeBetter_44 ?_
  obtain ⟨hs3, h⟩ := h
  obtain ⟨hi4, h⟩ := h
  refine k_iald C.1 dX12_canBeBetter_46 hs3 hi4 ?_
  refine k_if_ge C.1 54 dX12_canBeBetter_47 (by decide) (fun c5 => ?_) (fun c5 => ?_)
  · have h := h.1 c5
    refine k_aload_n C.1 1 rfl dX12_canBeBetter_54 ?_
    refine k_getR C.1 F_X12_116 dX12_canBeBetter_55 hs1 hq2 ?_
    refine k_iload C.1 3 rfl dX12_canBeBetter_58 ?_
    obtain ⟨hi6, h⟩ := h
    refine k_iald C.1 dX12_canBeBetter_60 hs3 hi6 ?_
    refine k_sub (lv' := [(0, .ref x0), (4, .int (s0 + s1)), (6, .int x6)]) [1, 0, 3] rfl ?_
    exact b_X12_canBeBetter_61 C x0 (s0 + s1) x6 x5 (rI M q2 x6.toNatClampNeg) M k9 hk9 h
  · have h := h.2 c5
    refine k_iconst (v := 0) C.1 dX12_canBeBetter_50 (by decide) ?_
    refine k_goto C.1 61 dX12_canBeBetter_51 (by decide) ?_
    refine k_sub (lv' := [(0, .ref x0), (4, .int (s0 + s1)), (6, .int x6)]) [1, 0, 3] rfl ?_
    exact b_X12_canBeBetter_61 C x0 (s0 + s1) x6 x5 (0 : Int32) M k9 hk9 h
set_option maxRecDepth 100000 in
set_option maxHeartbeats 4000000 in
theorem bb_X12_canBeBetter_9 {X : gh_X} {sh : gh_Sh} {n : Nat} {post : Int32 → gh_M → Prop} (C : gh_CR X cX12_canBeBetter RX12 7 (some .boolean) sh n 0 0 (gh_pi post)) (x0 : Nat) (k9 : Int32 → Int32 → Int32 → gh_M → Prop) (hk9 : ∀ (y4 : Int32) (y5 : Int32) (y6 : Int32) (M : gh_M), k9 y4 y5 y6 M → gh_G X rm_X12_canBeBetter 7 0 0 sh n 9 [(0, .ref x0), (4, .int y4), (5, .int y5), (6, .int y6)] [] M) (x4 : Int32) (x5 : Int32) (x6 : Int32) (M : gh_M) (h : wb_X12_canBeBetter_9 sh post x0 k9 x4 x5 x6 M) : gh_G X rm_X12_canBeBetter 7 0 0 sh n 9 [(0, .ref x0), (4, .int x4), (5, .int x5), (6, .int x6)] [] M := by
  unfold wb_X12_canBeBetter_9 at h
  refine k_iload C.1 3 rfl dX12_canBeBetter_9 ?_
  refine k_aload_n C.1 0 rfl dX12_canBeBetter_11 ?_
  obtain ⟨hs1, h⟩ := h
  refine k_getI C.1 F_X12_132 dX12_canBeBetter_12 hs1 ?_
  refine k_icmp_ge C.1 70 dX12_canBeBetter_15 (by decide) (fun c2 => ?_) (fun c2 => ?_)
  · have h := h.1 c2
    refine k_iload C.1 1 rfl dX12_canBeBetter_70 ?_
    refine k_aload_n C.1 0 rfl dX12_canBeBetter_72 ?_
    refine k_getI C.1 F_X12_236 dX12_canBeBetter_73 hs1 ?_
    refine k_icmp_gt C.1 97 dX12_canBeBetter_76 (by decide) (fun c3 => ?_) (fun c3 => ?_)
    · have h := h.1 c3
      refine k_sub (lv' := []) [] rfl ?_
      exact b_X12_canBeBetter_97 C M h
    · have h := h.2 c3
      refine k_iload C.1 1 rfl dX12_canBeBetter_79 ?_
      refine k_aload_n C.1 0 rfl dX12_canBeBetter_81 ?_
      refine k_getI C.1 F_X12_236 dX12_canBeBetter_82 hs1 ?_
      refine k_icmp_ne C.1 101 dX12_canBeBetter_85 (by decide) (fun c4 => ?_) (fun c4 => ?_)
      · have h := h.2 c4
        refine k_iconst (v := 0) C.1 dX12_canBeBetter_101 (by decide) ?_
        exact k_zret C dX12_canBeBetter_102 (Or.inl rfl) h
      · have h := h.1 c4
        refine k_iload C.1 2 rfl dX12_canBeBetter_88 ?_
        refine k_aload_n C.1 0 rfl dX12_canBeBetter_90 ?_
        refine k_getI C.1 F_X12_239 dX12_canBeBetter_91 hs1 ?_
        refine k_icmp_ge C.1 101 dX12_canBeBetter_94 (by decide) (fun c5 => ?_) (fun c5 => ?_)
        · have h := h.1 c5
          refine k_iconst (v := 0) C.1 dX12_canBeBetter_101 (by decide) ?_
          exact k_zret C dX12_canBeBetter_102 (Or.inl rfl) h
        · have h := h.2 c5
          refine k_sub (lv' := []) [] rfl ?_
          exact b_X12_canBeBetter_97 C M h
  · have h := h.2 c2
    refine k_iload C.1 1 rfl dX12_canBeBetter_18 ?_
    refine k_aload_n C.1 0 rfl dX12_canBeBetter_20 ?_
    obtain ⟨q6, hq6, h⟩ := h
    refine k_getR C.1 F_X12_116 dX12_canBeBetter_21 hs1 hq6 ?_
    refine k_iload C.1 3 rfl dX12_canBeBetter_24 ?_
    obtain ⟨hs7, h⟩ := h
    obtain ⟨hi8, h⟩ := h
    refine k_iald C.1 dX12_canBeBetter_26 hs7 hi8 ?_
    refine k_if_ge C.1 34 dX12_canBeBetter_27 (by decide) (fun c9 => ?_) (fun c9 => ?_)
    · have h := h.1 c9
      refine k_iconst (v := 1) C.1 dX12_canBeBetter_34 (by decide) ?_
      refine k_sub (lv' := [(0, .ref x0), (5, .int x5), (6, .int x6)]) [0, 2, 3] rfl ?_
      exact b_X12_canBeBetter_35 C x0 x5 x6 x4 (1 : Int32) M k9 hk9 h
    · have h := h.2 c9
      refine k_iconst (v := 0) C.1 dX12_canBeBetter_30 (by decide) ?_
      refine k_goto C.1 35 dX12_canBeBetter_31 (by decide) ?_
      refine k_sub (lv' := [(0, .ref x0), (5, .int x5), (6, .int x6)]) [0, 2, 3] rfl ?_
      exact b_X12_canBeBetter_35 C x0 x5 x6 x4 (0 : Int32) M k9 hk9 h
set_option maxRecDepth 100000 in
theorem b_X12_canBeBetter_9 {X : gh_X} {sh : gh_Sh} {n : Nat} {post : Int32 → gh_M → Prop} (C : gh_CR X cX12_canBeBetter RX12 7 (some .boolean) sh n 0 0 (gh_pi post)) (x0 : Nat) (x4 : Int32) (x5 : Int32) (x6 : Int32) (M : gh_M) (h : wp_X12_canBeBetter_9 sh post x0 x4 x5 x6 M) : gh_G X rm_X12_canBeBetter 7 0 0 sh n 9 [(0, .ref x0), (4, .int x4), (5, .int x5), (6, .int x6)] [] M := by
  unfold wp_X12_canBeBetter_9 at h
  exact gh_loop_use h (fun v => gh_G X rm_X12_canBeBetter 7 0 0 sh n 9 [(0, .ref x0), (4, .int v.1), (5, .int v.2.1), (6, .int v.2.2.1)] [] v.2.2.2) (fun k v hk hb => bb_X12_canBeBetter_9 C x0 (fun x4 x5 x6 M => k (x4, x5, x6, M)) (fun x4 x5 x6 M h => hk (x4, x5, x6, M) h) v.1 v.2.1 v.2.2.1 v.2.2.2 hb)
set_option maxRecDepth 100000 in
set_option maxHeartbeats 4000000 in
theorem c_X12_canBeBetter {l : Launch} {D : va_G} {dA : Nat → ClassId} {sh : gh_Sh} {b0 n : Nat} {M : gh_M} {x0 : Nat} {x1 : Int32} {x2 : Int32} {x3 : Int32} {post : Int32 → gh_M → Prop} (h : wp_X12_canBeBetter sh M x0 x1 x2 x3 post) : gh_Met l D dA sh b0 n yX12_canBeBetter cX12_canBeBetter 7 (some .boolean) rm_X12_canBeBetter M [.ref x0, .int x1, .int x2, .int x3] (gh_pi post) := by
  refine gh_open (by decide) (Nat.le_of_ble_eq_true rfl) (fun X C => ?_)
  show gh_G X rm_X12_canBeBetter 7 0 0 sh n 0 [(0, .ref x0), (1, .int x1), (2, .int x2), (3, .int x3)] [] M
  unfold wp_X12_canBeBetter at h
  refine k_iload_n C.1 2 rfl dX12_canBeBetter_0 ?_
  refine k_istore (lv' := [(4, .int x2), (0, .ref x0), (1, .int x1), (2, .int x2), (3, .int x3)]) C.1 dX12_canBeBetter_1 (by decide) rfl ?_
  refine k_iload_n C.1 4 rfl dX12_canBeBetter_3 ?_
  refine k_istore (lv' := [(5, .int x3), (4, .int x2), (0, .ref x0), (1, .int x1), (2, .int x2), (3, .int x3)]) C.1 dX12_canBeBetter_4 (by decide) rfl ?_
  refine k_iload_n C.1 3 rfl dX12_canBeBetter_6 ?_
  refine k_istore (lv' := [(6, .int x1), (5, .int x3), (4, .int x2), (0, .ref x0), (1, .int x1), (2, .int x2), (3, .int x3)]) C.1 dX12_canBeBetter_7 (by decide) rfl ?_
  refine k_sub (lv' := [(0, .ref x0), (4, .int x2), (5, .int x3), (6, .int x1)]) [3, 2, 1, 0] rfl ?_
  exact b_X12_canBeBetter_9 C x0 x2 x3 x1 M h
