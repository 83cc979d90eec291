abbrev rm_X12_of : Room := { frames := 2, cells := 0, slots := 0, locals := 43 }
set_option maxRecDepth 100000 in
set_option maxHeartbeats 4000000 in
theorem c_X12_of {l : Launch} {D : va_G} {dA : Nat → ClassId} {sh : gh_Sh} {b0 n : Nat} {M : gh_M} {x0 : Nat} {x1 : Int32} {x2 : Int32} {post : Int32 → gh_M → Prop} (h : wp_X12_of sh M x0 x1 x2 post) : gh_Met l D dA sh b0 n yX12_of cX12_of 3 (some .int) rm_X12_of M [.ref x0, .int x1, .int x2] (gh_pi post) := by
  refine gh_open (by decide) (Nat.le_of_ble_eq_true rfl) (fun X C => ?_)
  show gh_G X rm_X12_of 3 0 0 sh n 0 [(0, .ref x0), (1, .int x1), (2, .int x2)] [] M
  unfold wp_X12_of at h
  refine k_aload_n C.1 0 rfl dX12_of_0 ?_
  refine k_iload_n C.1 1 rfl dX12_of_1 ?_
  obtain ⟨hs1, h⟩ := h
  refine k_callV (As := [.int x1]) (rest := []) C.1 V_X12_178 (c_X12_isPiece h) ⟨rfl, rfl, Nat.le_of_ble_eq_true rfl, Nat.le_of_ble_eq_true rfl⟩ hs1  rfl rfl (Nat.le_of_ble_eq_true rfl) ⟨Nat.zero_le _, Nat.zero_le _⟩ dX12_of_2 (kp_i fun r3 M2 h9 => ?_)
  replace h := h9
  refine k_if_ne C.1 10 dX12_of_5 (by decide) (fun c4 => ?_) (fun c4 => ?_)
  · have h := h.2 c4
    refine k_iload_n C.1 2 rfl dX12_of_10 ?_
    refine k_if_ne C.1 21 dX12_of_11 (by decide) (fun c5 => ?_) (fun c5 => ?_)
    · have h := h.2 c5
      refine k_iload_n C.1 2 rfl dX12_of_21 ?_
      refine k_iconst (v := 1) C.1 dX12_of_22 (by decide) ?_
      refine k_icmp_ne C.1 33 dX12_of_23 (by decide) (fun c6 => ?_) (fun c6 => ?_)
      · have h := h.2 c6
        refine k_iload_n C.1 2 rfl dX12_of_33 ?_
        refine k_bipush (v := 10) C.1 dX12_of_34 (by decide) ?_
        refine k_bipush (v := 9) C.1 dX12_of_36 (by decide) ?_
        refine k_aload_n C.1 0 rfl dX12_of_38 ?_
        obtain ⟨q7, hq7, h⟩ := h
        refine k_getR C.1 F_X12_16 dX12_of_39 hs1 hq7 ?_
        refine k_iload_n C.1 1 rfl dX12_of_42 ?_
        obtain ⟨hs8, h⟩ := h
        obtain ⟨hi9, h⟩ := h
        refine k_iald C.1 dX12_of_43 hs8 hi9 ?_
        refine k_iadd C.1 dX12_of_44 ?_
        refine k_callS (As := [.int x2, .int (10 : Int32), .int ((9 : Int32) + (rI M2 q7 x1.toNatClampNeg))]) (rest := []) C.1 V_X12_128 (c_X12_in h) ⟨rfl, rfl, Nat.le_of_ble_eq_true rfl, Nat.le_of_ble_eq_true rfl⟩  rfl rfl (Nat.le_of_ble_eq_true rfl) ⟨Nat.zero_le _, Nat.zero_le _⟩ dX12_of_45 (kp_i fun r11 M10 h9 => ?_)
        replace h := h9
        refine k_if_eq C.1 68 dX12_of_48 (by decide) (fun c12 => ?_) (fun c12 => ?_)
        · have h := h.1 c12
          refine k_iconst (v := (-1)) C.1 dX12_of_68 (by decide) ?_
          exact k_iret C dX12_of_69 h
        · have h := h.2 c12
          refine k_aload_n C.1 0 rfl dX12_of_51 ?_
          obtain ⟨q13, hq13, h⟩ := h
          refine k_getR C.1 F_X12_19 dX12_of_52 hs1 hq13 ?_
          refine k_bipush (v := 8) C.1 dX12_of_55 (by decide) ?_
          refine k_iload_n C.1 1 rfl dX12_of_57 ?_
          refine k_imul C.1 dX12_of_58 ?_
          refine k_iload_n C.1 2 rfl dX12_of_59 ?_
          refine k_iadd C.1 dX12_of_60 ?_
          refine k_bipush (v := 10) C.1 dX12_of_61 (by decide) ?_
          refine k_isub C.1 dX12_of_63 ?_
          obtain ⟨hs14, h⟩ := h
          obtain ⟨hi15, h⟩ := h
          refine k_iald C.1 dX12_of_64 hs14 hi15 ?_
          refine k_goto C.1 69 dX12_of_65 (by decide) ?_
          exact k_iret C dX12_of_69 h
      · have h := h.1 c6
        refine k_aload_n C.1 0 rfl dX12_of_26 ?_
        obtain ⟨q16, hq16, h⟩ := h
        refine k_getR C.1 F_X12_16 dX12_of_27 hs1 hq16 ?_
        refine k_iload_n C.1 1 rfl dX12_of_30 ?_
        obtain ⟨hs17, h⟩ := h
        obtain ⟨hi18, h⟩ := h
        refine k_iald C.1 dX12_of_31 hs17 hi18 ?_
        exact k_iret C dX12_of_32 h
    · have h := h.1 c5
      refine k_aload_n C.1 0 rfl dX12_of_14 ?_
      obtain ⟨q19, hq19, h⟩ := h
      refine k_getR C.1 F_X12_13 dX12_of_15 hs1 hq19 ?_
      refine k_iload_n C.1 1 rfl dX12_of_18 ?_
      obtain ⟨hs20, h⟩ := h
      obtain ⟨hi21, h⟩ := h
      refine k_iald C.1 dX12_of_19 hs20 hi21 ?_
      exact k_iret C dX12_of_20 h
  · have h := h.1 c4
    refine k_iconst (v := (-1)) C.1 dX12_of_8 (by decide) ?_
    exact k_iret C dX12_of_9 h
abbrev rm_X12_far : Room := { frames := 2, cells := 0, slots := 0, locals := 50 }
set_option maxRecDepth 100000 in
set_option maxHeartbeats 4000000 in
theorem c_X12_far {l : Launch} {D : va_G} {dA : Nat → ClassId} {sh : gh_Sh} {b0 n : Nat} {M : gh_M} {x0 : Nat} {x1 : Int32} {x2 : Int32} {post : Int32 → gh_M → Prop} (h : wp_X12_far sh M x0 x1 x2 post) : gh_Met l D dA sh b0 n yX12_far cX12_far 3 (some .int) rm_X12_far M [.ref x0, .int x1, .int x2] (gh_pi post) := by
  refine gh_open (by decide) (Nat.le_of_ble_eq_true rfl) (fun X C => ?_)
  show gh_G X rm_X12_far 3 0 0 sh n 0 [(0, .ref x0), (1, .int x1), (2, .int x2)] [] M
  unfold wp_X12_far at h
  refine k_aload_n C.1 0 rfl dX12_far_0 ?_
  refine k_iload_n C.1 1 rfl dX12_far_1 ?_
  obtain ⟨hs1, h⟩ := h
  refine k_callV (As := [.int x1]) (rest := []) C.1 V_X12_178 (c_X12_isPiece h) ⟨rfl, rfl, Nat.le_of_ble_eq_true rfl, Nat.le_of_ble_eq_true rfl⟩ hs1  rfl rfl (Nat.le_of_ble_eq_true rfl) ⟨Nat.zero_le _, Nat.zero_le _⟩ dX12_far_2 (kp_i fun r3 M2 h9 => ?_)
  replace h := h9
  refine k_if_eq C.1 51 dX12_far_5 (by decide) (fun c4 => ?_) (fun c4 => ?_)
  · have h := h.1 c4
    refine k_iconst (v := (-1)) C.1 dX12_far_51 (by decide) ?_
    exact k_iret C dX12_far_52 h
  · have h := h.2 c4
    refine k_aload_n C.1 0 rfl dX12_far_8 ?_
    refine k_iload_n C.1 2 rfl dX12_far_9 ?_
    refine k_callV (As := [.int x2]) (rest := []) C.1 V_X12_178 (c_X12_isPiece h) ⟨rfl, rfl, Nat.le_of_ble_eq_true rfl, Nat.le_of_ble_eq_true rfl⟩ hs1  rfl rfl (Nat.le_of_ble_eq_true rfl) ⟨Nat.zero_le _, Nat.zero_le _⟩ dX12_far_10 (kp_i fun r6 M5 h9 => ?_)
    replace h := h9
    refine k_if_eq C.1 51 dX12_far_13 (by decide) (fun c7 => ?_) (fun c7 => ?_)
    · have h := h.1 c7
      refine k_iconst (v := (-1)) C.1 dX12_far_51 (by decide) ?_
      exact k_iret C dX12_far_52 h
    · have h := h.2 c7
      refine k_aload_n C.1 0 rfl dX12_far_16 ?_
      refine k_aload_n C.1 0 rfl dX12_far_17 ?_
      obtain ⟨q8, hq8, h⟩ := h
      refine k_getR C.1 F_X12_19 dX12_far_18 hs1 hq8 ?_
      refine k_bipush (v := 8) C.1 dX12_far_21 (by decide) ?_
      refine k_iload_n C.1 1 rfl dX12_far_23 ?_
      refine k_imul C.1 dX12_far_24 ?_
      refine k_aload_n C.1 0 rfl dX12_far_25 ?_
      obtain ⟨q9, hq9, h⟩ := h
      refine k_getR C.1 F_X12_16 dX12_far_26 hs1 hq9 ?_
      refine k_iload_n C.1 1 rfl dX12_far_29 ?_
      obtain ⟨hs10, h⟩ := h
      obtain ⟨hi11, h⟩ := h
      refine k_iald C.1 dX12_far_30 hs10 hi11 ?_
      refine k_aload_n C.1 0 rfl dX12_far_31 ?_
      refine k_getR C.1 F_X12_19 dX12_far_32 hs1 hq8 ?_
      refine k_bipush (v := 8) C.1 dX12_far_35 (by decide) ?_
      refine k_iload_n C.1 2 rfl dX12_far_37 ?_
      refine k_imul C.1 dX12_far_38 ?_
      refine k_aload_n C.1 0 rfl dX12_far_39 ?_
      refine k_getR C.1 F_X12_16 dX12_far_40 hs1 hq9 ?_
      refine k_iload_n C.1 2 rfl dX12_far_43 ?_
      obtain ⟨hi12, h⟩ := h
      refine k_iald C.1 dX12_far_44 hs10 hi12 ?_
      refine k_callV (As := [.ref q8, .int ((8 : Int32) * x1), .int (rI M5 q9 x1.toNatClampNeg), .ref q8, .int ((8 : Int32) * x2), .int (rI M5 q9 x2.toNatClampNeg)]) (rest := []) C.1 V_X12_162 (c_X12_apart h) ⟨rfl, rfl, Nat.le_of_ble_eq_true rfl, Nat.le_of_ble_eq_true rfl⟩ hs1  rfl rfl (Nat.le_of_ble_eq_true rfl) ⟨Nat.zero_le _, Nat.zero_le _⟩ dX12_far_45 (kp_i fun r14 M13 h9 => ?_)
      replace h := h9
      refine k_goto C.1 52 dX12_far_48 (by decide) ?_
      exact k_iret C dX12_far_52 h
abbrev rm_X12_from : Room := { frames := 2, cells := 0, slots := 0, locals := 43 }
set_option maxRecDepth 100000 in
set_option maxHeartbeats 4000000 in
theorem c_X12_from {l : Launch} {D : va_G} {dA : Nat → ClassId} {sh : gh_Sh} {b0 n : Nat} {M : gh_M} {x0 : Nat} {x1 : Int32} {post : Int32 → gh_M → Prop} (h : wp_X12_from sh M x0 x1 post) : gh_Met l D dA sh b0 n yX12_from cX12_from 2 (some .int) rm_X12_from M [.ref x0, .int x1] (gh_pi post) := by
  refine gh_open (by decide) (Nat.le_of_ble_eq_true rfl) (fun X C => ?_)
  show gh_G X rm_X12_from 2 0 0 sh n 0 [(0, .ref x0), (1, .int x1)] [] M
  unfold wp_X12_from at h
  refine k_aload_n C.1 0 rfl dX12_from_0 ?_
  refine k_iload_n C.1 1 rfl dX12_from_1 ?_
  obtain ⟨hs1, h⟩ := h
  refine k_callV (As := [.int x1]) (rest := []) C.1 V_X12_178 (c_X12_isPiece h) ⟨rfl, rfl, Nat.le_of_ble_eq_true rfl, Nat.le_of_ble_eq_true rfl⟩ hs1  rfl rfl (Nat.le_of_ble_eq_true rfl) ⟨Nat.zero_le _, Nat.zero_le _⟩ dX12_from_2 (kp_i fun r3 M2 h9 => ?_)
  replace h := h9
  refine k_if_ne C.1 10 dX12_from_5 (by decide) (fun c4 => ?_) (fun c4 => ?_)
  · have h := h.2 c4
    refine k_aload_n C.1 0 rfl dX12_from_10 ?_
    obtain ⟨q5, hq5, h⟩ := h
    refine k_getR C.1 F_X12_22 dX12_from_11 hs1 hq5 ?_
    refine k_iload_n C.1 1 rfl dX12_from_14 ?_
    obtain ⟨hs6, h⟩ := h
    obtain ⟨hi7, h⟩ := h
    refine k_iald C.1 dX12_from_15 hs6 hi7 ?_
    refine k_if_ge C.1 24 dX12_from_16 (by decide) (fun c8 => ?_) (fun c8 => ?_)
    · have h := h.1 c8
      refine k_aload_n C.1 0 rfl dX12_from_24 ?_
      refine k_getR C.1 F_X12_22 dX12_from_25 hs1 hq5 ?_
      refine k_iload_n C.1 1 rfl dX12_from_28 ?_
      obtain ⟨hi9, h⟩ := h
      refine k_iald C.1 dX12_from_29 hs6 hi9 ?_
      exact k_iret C dX12_from_30 h
    · have h := h.2 c8
      refine k_bipush (v := (-5)) C.1 dX12_from_19 (by decide) ?_
      refine k_goto C.1 30 dX12_from_21 (by decide) ?_
      exact k_iret C dX12_from_30 h
  · have h := h.1 c4
    refine k_iconst (v := (-1)) C.1 dX12_from_8 (by decide) ?_
    exact k_iret C dX12_from_9 h
abbrev rm_X12_story : Room := { frames := 2, cells := 0, slots := 0, locals := 43 }
set_option maxRecDepth 100000 in
set_option maxHeartbeats 4000000 in
theorem c_X12_story {l : Launch} {D : va_G} {dA : Nat → ClassId} {sh : gh_Sh} {b0 n : Nat} {M : gh_M} {x0 : Nat} {x1 : Int32} {post : Int32 → gh_M → Prop} (h : wp_X12_story sh M x0 x1 post) : gh_Met l D dA sh b0 n yX12_story cX12_story 2 (some .int) rm_X12_story M [.ref x0, .int x1] (gh_pi post) := by
  refine gh_open (by decide) (Nat.le_of_ble_eq_true rfl) (fun X C => ?_)
  show gh_G X rm_X12_story 2 0 0 sh n 0 [(0, .ref x0), (1, .int x1)] [] M
  unfold wp_X12_story at h
  refine k_aload_n C.1 0 rfl dX12_story_0 ?_
  refine k_iload_n C.1 1 rfl dX12_story_1 ?_
  obtain ⟨hs1, h⟩ := h
  refine k_callV (As := [.int x1]) (rest := []) C.1 V_X12_178 (c_X12_isPiece h) ⟨rfl, rfl, Nat.le_of_ble_eq_true rfl, Nat.le_of_ble_eq_true rfl⟩ hs1  rfl rfl (Nat.le_of_ble_eq_true rfl) ⟨Nat.zero_le _, Nat.zero_le _⟩ dX12_story_2 (kp_i fun r3 M2 h9 => ?_)
  replace h := h9
  refine k_if_ne C.1 10 dX12_story_5 (by decide) (fun c4 => ?_) (fun c4 => ?_)
  · have h := h.2 c4
    refine k_aload_n C.1 0 rfl dX12_story_10 ?_
    obtain ⟨q5, hq5, h⟩ := h
    refine k_getR C.1 F_X12_22 dX12_story_11 hs1 hq5 ?_
    refine k_iload_n C.1 1 rfl dX12_story_14 ?_
    obtain ⟨hs6, h⟩ := h
    obtain ⟨hi7, h⟩ := h
    refine k_iald C.1 dX12_story_15 hs6 hi7 ?_
    refine k_if_ge C.1 23 dX12_story_16 (by decide) (fun c8 => ?_) (fun c8 => ?_)
    · have h := h.1 c8
      refine k_aload_n C.1 0 rfl dX12_story_23 ?_
      obtain ⟨q9, hq9, h⟩ := h
      refine k_getR C.1 F_X12_25 dX12_story_24 hs1 hq9 ?_
      refine k_iload_n C.1 1 rfl dX12_story_27 ?_
      obtain ⟨hs10, h⟩ := h
      obtain ⟨hi11, h⟩ := h
      refine k_iald C.1 dX12_story_28 hs10 hi11 ?_
      refine k_if_le C.1 36 dX12_story_29 (by decide) (fun c12 => ?_) (fun c12 => ?_)
      · have h := h.1 c12
        refine k_aload_n C.1 0 rfl dX12_story_36 ?_
        refine k_getR C.1 F_X12_22 dX12_story_37 hs1 hq5 ?_
        refine k_iload_n C.1 1 rfl dX12_story_40 ?_
        obtain ⟨hi13, h⟩ := h
        refine k_iald C.1 dX12_story_41 hs6 hi13 ?_
        refine k_iload_n C.1 1 rfl dX12_story_42 ?_
        refine k_icmp_ne C.1 50 dX12_story_43 (by decide) (fun c14 => ?_) (fun c14 => ?_)
        · have h := h.2 c14
          refine k_iconst (v := 1) C.1 dX12_story_50 (by decide) ?_
          exact k_iret C dX12_story_51 h
        · have h := h.1 c14
          refine k_iconst (v := 0) C.1 dX12_story_46 (by decide) ?_
          refine k_goto C.1 51 dX12_story_47 (by decide) ?_
          exact k_iret C dX12_story_51 h
      · have h := h.2 c12
        refine k_iconst (v := 2) C.1 dX12_story_32 (by decide) ?_
        refine k_goto C.1 51 dX12_story_33 (by decide) ?_
        exact k_iret C dX12_story_51 h
    · have h := h.2 c8
      refine k_iconst (v := 3) C.1 dX12_story_19 (by decide) ?_
      refine k_goto C.1 51 dX12_story_20 (by decide) ?_
      exact k_iret C dX12_story_51 h
  · have h := h.1 c4
    refine k_iconst (v := (-1)) C.1 dX12_story_8 (by decide) ?_
    exact k_iret C dX12_story_9 h
abbrev rm_X12_hand : Room := { frames := 1, cells := 0, slots := 0, locals := 22 }
set_option maxRecDepth 100000 in
set_option maxHeartbeats 4000000 in
theorem c_X12_hand {l : Launch} {D : va_G} {dA : Nat → ClassId} {sh : gh_Sh} {b0 n : Nat} {M : gh_M} {x0 : Nat} {x1 : Int32} {x2 : Int32} {x3 : Int32} {post : Int32 → gh_M → Prop} (h : wp_X12_hand sh M x0 x1 x2 x3 post) : gh_Met l D dA sh b0 n yX12_hand cX12_hand 4 (some .int) rm_X12_hand M [.ref x0, .int x1, .int x2, .int x3] (gh_pi post) := by
  refine gh_open (by decide) (Nat.le_of_ble_eq_true rfl) (fun X C => ?_)
  show gh_G X rm_X12_hand 4 0 0 sh n 0 [(0, .ref x0), (1, .int x1), (2, .int x2), (3, .int x3)] [] M
  unfold wp_X12_hand at h
  refine k_iload_n C.1 1 rfl dX12_hand_0 ?_
  refine k_iconst (v := 1) C.1 dX12_hand_1 (by decide) ?_
  refine k_bipush (v := 7) C.1 dX12_hand_2 (by decide) ?_
  refine k_callS (As := [.int x1, .int (1 : Int32), .int (7 : Int32)]) (rest := []) C.1 V_X12_128 (c_X12_in h) ⟨rfl, rfl, Nat.le_of_ble_eq_true rfl, Nat.le_of_ble_eq_true rfl⟩  rfl rfl (Nat.le_of_ble_eq_true rfl) ⟨Nat.zero_le _, Nat.zero_le _⟩ dX12_hand_4 (kp_i fun r2 M1 h9 => ?_)
  replace h := h9
  refine k_if_eq C.1 30 dX12_hand_7 (by decide) (fun c3 => ?_) (fun c3 => ?_)
  · have h := h.1 c3
    refine k_iconst (v := (-1)) C.1 dX12_hand_30 (by decide) ?_
    exact k_iret C dX12_hand_31 h
  · have h := h.2 c3
    refine k_iload_n C.1 2 rfl dX12_hand_10 ?_
    refine k_iconst (v := 0) C.1 dX12_hand_11 (by decide) ?_
    refine k_bipush (v := 20) C.1 dX12_hand_12 (by decide) ?_
    refine k_callS (As := [.int x2, .int (0 : Int32), .int (20 : Int32)]) (rest := []) C.1 V_X12_128 (c_X12_in h) ⟨rfl, rfl, Nat.le_of_ble_eq_true rfl, Nat.le_of_ble_eq_true rfl⟩  rfl rfl (Nat.le_of_ble_eq_true rfl) ⟨Nat.zero_le _, Nat.zero_le _⟩ dX12_hand_14 (kp_i fun r5 M4 h9 => ?_)
    replace h := h9
    refine k_if_eq C.1 30 dX12_hand_17 (by decide) (fun c6 => ?_) (fun c6 => ?_)
    · have h := h.1 c6
      refine k_iconst (v := (-1)) C.1 dX12_hand_30 (by decide) ?_
      exact k_iret C dX12_hand_31 h
    · have h := h.2 c6
      refine k_iload_n C.1 3 rfl dX12_hand_20 ?_
      refine k_iconst (v := 1) C.1 dX12_hand_21 (by decide) ?_
      refine k_bipush (v := 9) C.1 dX12_hand_22 (by decide) ?_
      refine k_callS (As := [.int x3, .int (1 : Int32), .int (9 : Int32)]) (rest := []) C.1 V_X12_128 (c_X12_in h) ⟨rfl, rfl, Nat.le_of_ble_eq_true rfl, Nat.le_of_ble_eq_true rfl⟩  rfl rfl (Nat.le_of_ble_eq_true rfl) ⟨Nat.zero_le _, Nat.zero_le _⟩ dX12_hand_24 (kp_i fun r8 M7 h9 => ?_)
      replace h := h9
      refine k_if_ne C.1 32 dX12_hand_27 (by decide) (fun c9 => ?_) (fun c9 => ?_)
      · have h := h.2 c9
        refine k_aload_n C.1 0 rfl dX12_hand_32 ?_
        obtain ⟨hs10, h⟩ := h
        refine k_getI C.1 F_X12_135 dX12_hand_33 hs10 ?_
        refine k_iconst (v := 5) C.1 dX12_hand_36 (by decide) ?_
        refine k_icmp_ne C.1 43 dX12_hand_37 (by decide) (fun c11 => ?_) (fun c11 => ?_)
        · have h := h.2 c11
          refine k_aload_n C.1 0 rfl dX12_hand_43 ?_
          obtain ⟨q12, hq12, h⟩ := h
          refine k_getR C.1 F_X12_49 dX12_hand_44 hs10 hq12 ?_
          refine k_aload_n C.1 0 rfl dX12_hand_47 ?_
          refine k_getI C.1 F_X12_135 dX12_hand_48 hs10 ?_
          refine k_iload_n C.1 1 rfl dX12_hand_51 ?_
          obtain ⟨hs14, h⟩ := h
          obtain ⟨hi13, h⟩ := h
          refine k_iast C.1 dX12_hand_52 hs14 hi13 ?_
          refine k_aload_n C.1 0 rfl dX12_hand_53 ?_
          obtain ⟨q15, hq15, h⟩ := h
          refine k_getR C.1 F_X12_52 dX12_hand_54 hs10 hq15 ?_
          refine k_aload_n C.1 0 rfl dX12_hand_57 ?_
          refine k_getI C.1 F_X12_135 dX12_hand_58 hs10 ?_
          refine k_iload_n C.1 2 rfl dX12_hand_61 ?_
          obtain ⟨hs17, h⟩ := h
          obtain ⟨hi16, h⟩ := h
          refine k_iast C.1 dX12_hand_62 hs17 hi16 ?_
          refine k_aload_n C.1 0 rfl dX12_hand_63 ?_
          obtain ⟨q18, hq18, h⟩ := h
          refine k_getR C.1 F_X12_55 dX12_hand_64 hs10 hq18 ?_
          refine k_aload_n C.1 0 rfl dX12_hand_67 ?_
          refine k_getI C.1 F_X12_135 dX12_hand_68 hs10 ?_
          refine k_iload_n C.1 3 rfl dX12_hand_71 ?_
          generalize eM19 : wI (wI M7 q12 (rI M7 x0 16).toNatClampNeg x1) q15 (rI (wI M7 q12 (rI M7 x0 16).toNatClampNeg x1) x0 16).toNatClampNeg x2 = M19
          replace h := h M19 eM19.symm
          obtain ⟨hs21, h⟩ := h
          obtain ⟨hi20, h⟩ := h
          refine k_iast C.1 dX12_hand_72 hs21 hi20 ?_
          refine k_aload_n C.1 0 rfl dX12_hand_73 ?_
          refine k_dup C.1 dX12_hand_74 rfl ?_
          refine k_getI C.1 F_X12_135 dX12_hand_75 hs10 ?_
          refine k_iconst (v := 1) C.1 dX12_hand_78 (by decide) ?_
          refine k_iadd C.1 dX12_hand_79 ?_
          refine k_putI C.1 F_X12_135 dX12_hand_80 hs10 rfl rfl ?_
          refine k_aload_n C.1 0 rfl dX12_hand_83 ?_
          refine k_getI C.1 F_X12_135 dX12_hand_84 hs10 ?_
          refine k_iconst (v := 1) C.1 dX12_hand_87 (by decide) ?_
          refine k_isub C.1 dX12_hand_88 ?_
          exact k_iret C dX12_hand_89 h
        · have h := h.1 c11
          refine k_bipush (v := (-2)) C.1 dX12_hand_40 (by decide) ?_
          exact k_iret C dX12_hand_42 h
      · have h := h.1 c9
        refine k_iconst (v := (-1)) C.1 dX12_hand_30 (by decide) ?_
        exact k_iret C dX12_hand_31 h
abbrev rm_X12_hours : Room := { frames := 2, cells := 0, slots := 0, locals := 43 }
set_option maxRecDepth 100000 in
set_option maxHeartbeats 4000000 in
theorem c_X12_hours {l : Launch} {D : va_G} {dA : Nat → ClassId} {sh : gh_Sh} {b0 n : Nat} {M : gh_M} {x0 : Nat} {x1 : Int32} {x2 : Int32} {post : Int32 → gh_M → Prop} (h : wp_X12_hours sh M x0 x1 x2 post) : gh_Met l D dA sh b0 n yX12_hours cX12_hours 4 (some .int) rm_X12_hours M [.ref x0, .int x1, .int x2] (gh_pi post) := by
  refine gh_open (by decide) (Nat.le_of_ble_eq_true rfl) (fun X C => ?_)
  show gh_G X rm_X12_hours 4 0 0 sh n 0 [(0, .ref x0), (1, .int x1), (2, .int x2)] [] M
  unfold wp_X12_hours at h
  refine k_aload_n C.1 0 rfl dX12_hours_0 ?_
  refine k_iload_n C.1 1 rfl dX12_hours_1 ?_
  obtain ⟨hs1, h⟩ := h
  refine k_callV (As := [.int x1]) (rest := []) C.1 V_X12_181 (c_X12_isHand h) ⟨rfl, rfl, Nat.le_of_ble_eq_true rfl, Nat.le_of_ble_eq_true rfl⟩ hs1  rfl rfl (Nat.le_of_ble_eq_true rfl) ⟨Nat.zero_le _, Nat.zero_le _⟩ dX12_hours_2 (kp_i fun r3 M2 h9 => ?_)
  replace h := h9
  refine k_if_eq C.1 18 dX12_hours_5 (by decide) (fun c4 => ?_) (fun c4 => ?_)
  · have h := h.1 c4
    refine k_iconst (v := (-1)) C.1 dX12_hours_18 (by decide) ?_
    exact k_iret C dX12_hours_19 h
  · have h := h.2 c4
    refine k_iload_n C.1 2 rfl dX12_hours_8 ?_
    refine k_iconst (v := 0) C.1 dX12_hours_9 (by decide) ?_
    refine k_bipush (v := 20) C.1 dX12_hours_10 (by decide) ?_
    refine k_callS (As := [.int x2, .int (0 : Int32), .int (20 : Int32)]) (rest := []) C.1 V_X12_128 (c_X12_in h) ⟨rfl, rfl, Nat.le_of_ble_eq_true rfl, Nat.le_of_ble_eq_true rfl⟩  rfl rfl (Nat.le_of_ble_eq_true rfl) ⟨Nat.zero_le _, Nat.zero_le _⟩ dX12_hours_12 (kp_i fun r6 M5 h9 => ?_)
    replace h := h9
    refine k_if_ne C.1 20 dX12_hours_15 (by decide) (fun c7 => ?_) (fun c7 => ?_)
    · have h := h.2 c7
      refine k_aload_n C.1 0 rfl dX12_hours_20 ?_
      obtain ⟨q8, hq8, h⟩ := h
      refine k_getR C.1 F_X12_52 dX12_hours_21 hs1 hq8 ?_
      refine k_iload_n C.1 1 rfl dX12_hours_24 ?_
      obtain ⟨hs9, h⟩ := h
      obtain ⟨hi10, h⟩ := h
      refine k_iald C.1 dX12_hours_25 hs9 hi10 ?_
      refine k_istore_n (lv' := [(3, .int (rI M5 q8 x1.toNatClampNeg)), (0, .ref x0), (1, .int x1), (2, .int x2)]) C.1 dX12_hours_26 (by decide) rfl ?_
      refine k_aload_n C.1 1 rfl dX12_hours_27 ?_
      refine k_getR C.1 F_X12_52 dX12_hours_28 hs1 hq8 ?_
      refine k_iload_n C.1 2 rfl dX12_hours_31 ?_
      refine k_iload_n C.1 3 rfl dX12_hours_32 ?_
      obtain ⟨hi11, h⟩ := h
      refine k_iast C.1 dX12_hours_33 hs9 hi11 ?_
      refine k_iload_n C.1 0 rfl dX12_hours_34 ?_
      exact k_iret C dX12_hours_35 h
    · have h := h.1 c7
      refine k_iconst (v := (-1)) C.1 dX12_hours_18 (by decide) ?_
      exact k_iret C dX12_hours_19 h
abbrev rm_X12_termOf : Room := { frames := 0, cells := 0, slots := 0, locals := 0 }
set_option maxRecDepth 100000 in
set_option maxHeartbeats 4000000 in
theorem b_X12_termOf_42 {X : gh_X} {sh : gh_Sh} {n : Nat} {post : Int32 → gh_M → Prop} (C : gh_CR X cX12_termOf RX12 5 (some .int) sh n 0 0 (gh_pi post)) (x0 : Nat) (x1 : Int32) (x2 : Int32) (x4 : Int32) (s0 : Int32) (M : gh_M) (k5 : Int32 → Int32 → gh_M → Prop) (hk5 : ∀ (y3 : Int32) (y4 : Int32) (M : gh_M), k5 y3 y4 M → gh_G X rm_X12_termOf 5 0 0 sh n 5 [(0, .ref x0), (1, .int x1), (2, .int x2), (3, .int y3), (4, .int y4)] [] M) (h : wp_X12_termOf_42 sh post k5 x0 x1 x2 x4 s0 M) : gh_G X rm_X12_termOf 5 0 0 sh n 42 [(0, .ref x0), (1, .int x1), (2, .int x2), (4, .int x4)] [.int s0] M := by
  unfold wp_X12_termOf_42 at h
  refine k_istore_n (lv' := [(3, .int s0), (0, .ref x0), (1, .int x1), (2, .int x2), (4, .int x4)]) C.1 dX12_termOf_42 (by decide) rfl ?_
  refine k_iinc (v := x4 + 1) (lv' := [(4, .int (x4 + 1)), (3, .int s0), (0, .ref x0), (1, .int x1), (2, .int x2)]) C.1 4 rfl dX12_termOf_43 (by decide) rfl rfl ?_
  refine k_goto C.1 5 dX12_termOf_46 (by decide) ?_
  refine k_sub (lv' := [(0, .ref x0), (1, .int x1), (2, .int x2), (3, .int s0), (4, .int (x4 + 1))]) [2, 3, 4, 1, 0] rfl ?_
  exact hk5 s0 (x4 + 1) M h
set_option maxRecDepth 100000 in
set_option maxHeartbeats 4000000 in
theorem b_X12_termOf_41 {X : gh_X} {sh : gh_Sh} {n : Nat} {post : Int32 → gh_M → Prop} (C : gh_CR X cX12_termOf RX12 5 (some .int) sh n 0 0 (gh_pi post)) (x0 : Nat) (x1 : Int32) (x2 : Int32) (x3 : Int32) (x4 : Int32) (M : gh_M) (k5 : Int32 → Int32 → gh_M → Prop) (hk5 : ∀ (y3 : Int32) (y4 : Int32) (M : gh_M), k5 y3 y4 M → gh_G X rm_X12_termOf 5 0 0 sh n 5 [(0, .ref x0), (1, .int x1), (2, .int x2), (3, .int y3), (4, .int y4)] [] M) (h : wp_X12_termOf_41 sh post k5 x0 x1 x2 x3 x4 M) : gh_G X rm_X12_termOf 5 0 0 sh n 41 [(0, .ref x0), (1, .int x1), (2, .int x2), (3, .int x3), (4, .int x4)] [] M := by
  unfold wp_X12_termOf_41 at h
  refine k_iload_n C.1 3 rfl dX12_termOf_41 ?_
  refine k_sub (lv' := [(0, .ref x0), (1, .int x1), (2, .int x2), (4, .int x4)]) [0, 1, 2, 4] rfl ?_
  exact b_X12_termOf_42 C x0 x1 x2 x4 x3 M k5 hk5 h
set_option maxRecDepth 100000 in
set_option maxHeartbeats 4000000 in
theorem bb_X12_termOf_5 {X : gh_X} {sh : gh_Sh} {n : Nat} {post : Int32 → gh_M → Prop} (C : gh_CR X cX12_termOf RX12 5 (some .int) sh n 0 0 (gh_pi post)) (x0 : Nat) (x1 : Int32) (x2 : Int32) (k5 : Int32 → Int32 → gh_M → Prop) (hk5 : ∀ (y3 : Int32) (y4 : Int32) (M : gh_M), k5 y3 y4 M → gh_G X rm_X12_termOf 5 0 0 sh n 5 [(0, .ref x0), (1, .int x1), (2, .int x2), (3, .int y3), (4, .int y4)] [] M) (x3 : Int32) (x4 : Int32) (M : gh_M) (h : wb_X12_termOf_5 sh post x0 x1 x2 k5 x3 x4 M) : gh_G X rm_X12_termOf 5 0 0 sh n 5 [(0, .ref x0), (1, .int x1), (2, .int x2), (3, .int x3), (4, .int x4)] [] M := by
  unfold wb_X12_termOf_5 at h
  refine k_iload C.1 4 rfl dX12_termOf_5 ?_
  refine k_aload_n C.1 0 rfl dX12_termOf_7 ?_
  obtain ⟨hs1, h⟩ := h
  refine k_getI C.1 F_X12_184 dX12_termOf_8 hs1 ?_
  refine k_icmp_ge C.1 49 dX12_termOf_11 (by decide) (fun c2 => ?_) (fun c2 => ?_)
  · have h := h.1 c2
    refine k_iload_n C.1 3 rfl dX12_termOf_49 ?_
    exact k_iret C dX12_termOf_50 h
  · have h := h.2 c2
    refine k_aload_n C.1 0 rfl dX12_termOf_14 ?_
    obtain ⟨q3, hq3, h⟩ := h
    refine k_getR C.1 F_X12_58 dX12_termOf_15 hs1 hq3 ?_
    refine k_iload C.1 4 rfl dX12_termOf_18 ?_
    obtain ⟨hs4, h⟩ := h
    obtain ⟨hi5, h⟩ := h
    refine k_iald C.1 dX12_termOf_20 hs4 hi5 ?_
    refine k_iload_n C.1 1 rfl dX12_termOf_21 ?_
    refine k_icmp_ne C.1 41 dX12_termOf_22 (by decide) (fun c6 => ?_) (fun c6 => ?_)
    · have h := h.2 c6
      exact b_X12_termOf_41 C x0 x1 x2 x3 x4 M k5 hk5 h
    · have h := h.1 c6
      refine k_aload_n C.1 0 rfl dX12_termOf_25 ?_
      obtain ⟨q7, hq7, h⟩ := h
      refine k_getR C.1 F_X12_61 dX12_termOf_26 hs1 hq7 ?_
      refine k_iload C.1 4 rfl dX12_termOf_29 ?_
      obtain ⟨hs8, h⟩ := h
      obtain ⟨hi9, h⟩ := h
      refine k_iald C.1 dX12_termOf_31 hs8 hi9 ?_
      refine k_iload_n C.1 2 rfl dX12_termOf_32 ?_
      refine k_icmp_ne C.1 41 dX12_termOf_33 (by decide) (fun c10 => ?_) (fun c10 => ?_)
      · have h := h.2 c10
        exact b_X12_termOf_41 C x0 x1 x2 x3 x4 M k5 hk5 h
      · have h := h.1 c10
        refine k_iload C.1 4 rfl dX12_termOf_36 ?_
        refine k_goto C.1 42 dX12_termOf_38 (by decide) ?_
        refine k_sub (lv' := [(0, .ref x0), (1, .int x1), (2, .int x2), (4, .int x4)]) [0, 1, 2, 4] rfl ?_
        exact b_X12_termOf_42 C x0 x1 x2 x4 x4 M k5 hk5 h
set_option maxRecDepth 100000 in
theorem b_X12_termOf_5 {X : gh_X} {sh : gh_Sh} {n : Nat} {post : Int32 → gh_M → Prop} (C : gh_CR X cX12_termOf RX12 5 (some .int) sh n 0 0 (gh_pi post)) (x0 : Nat) (x1 : Int32) (x2 : Int32) (x3 : Int32) (x4 : Int32) (M : gh_M) (h : wp_X12_termOf_5 sh post x0 x1 x2 x3 x4 M) : gh_G X rm_X12_termOf 5 0 0 sh n 5 [(0, .ref x0), (1, .int x1), (2, .int x2), (3, .int x3), (4, .int x4)] [] M := by
  unfold wp_X12_termOf_5 at h
  exact gh_loop_use h (fun v => gh_G X rm_X12_termOf 5 0 0 sh n 5 [(0, .ref x0), (1, .int x1), (2, .int x2), (3, .int v.1), (4, .int v.2.1)] [] v.2.2) (fun k v hk hb => bb_X12_termOf_5 C x0 x1 x2 (fun x3 x4 M => k (x3, x4, M)) (fun x3 x4 M h => hk (x3, x4, M) h) v.1 v.2.1 v.2.2 hb)
set_option maxRecDepth 100000 in
set_option maxHeartbeats 4000000 in
theorem c_X12_termOf {l : Launch} {D : va_G} {dA : Nat → ClassId} {sh : gh_Sh} {b0 n : Nat} {M : gh_M} {x0 : Nat} {x1 : Int32} {x2 : Int32} {post : Int32 → gh_M → Prop} (h : wp_X12_termOf sh M x0 x1 x2 post) : gh_Met l D dA sh b0 n yX12_termOf cX12_termOf 5 (some .int) rm_X12_termOf M [.ref x0, .int x1, .int x2] (gh_pi post) := by
  refine gh_open (by decide) (Nat.le_of_ble_eq_true rfl) (fun X C => ?_)
  show gh_G X rm_X12_termOf 5 0 0 sh n 0 [(0, .ref x0), (1, .int x1), (2, .int x2)] [] M
  unfold wp_X12_termOf at h
  refine k_iconst (v := (-1)) C.1 dX12_termOf_0 (by decide) ?_
  refine k_istore_n (lv' := [(3, .int (-1 : Int32)), (0, .ref x0), (1, .int x1), (2, .int x2)]) C.1 dX12_termOf_1 (by decide) rfl ?_
  refine k_iconst (v := 0) C.1 dX12_termOf_2 (by decide) ?_
  refine k_istore (lv' := [(4, .int (0 : Int32)), (3, .int (-1 : Int32)), (0, .ref x0), (1, .int x1), (2, .int x2)]) C.1 dX12_termOf_3 (by decide) rfl ?_
  refine k_sub (lv' := [(0, .ref x0), (1, .int x1), (2, .int x2), (3, .int (-1 : Int32)), (4, .int (0 : Int32))]) [2, 3, 4, 1, 0] rfl ?_
  exact b_X12_termOf_5 C x0 x1 x2 (-1 : Int32) (0 : Int32) M h
abbrev rm_X12_term : Room := { frames := 2, cells := 0, slots := 0, locals := 42 }
set_option maxRecDepth 100000 in
set_option maxHeartbeats 4000000 in
theorem b_X12_term_64 {X : gh_X} {sh : gh_Sh} {n : Nat} {post : Int32 → gh_M → Prop} (C : gh_CR X cX12_term RX12 5 (some .int) sh n 0 0 (gh_pi post)) (x0 : Nat) (x1 : Int32) (x2 : Int32) (x3 : Int32) (x4 : Int32) (M : gh_M) (h : wp_X12_term_64 sh post x0 x1 x2 x3 x4 M) : gh_G X rm_X12_term 5 0 0 sh n 64 [(0, .ref x0), (1, .int x1), (2, .int x2), (3, .int x3), (4, .int x4)] [] M := by
  unfold wp_X12_term_64 at h
  refine k_aload_n C.1 0 rfl dX12_term_64 ?_
  obtain ⟨hs1, h⟩ := h
  obtain ⟨q2, hq2, h⟩ := h
  refine k_getR C.1 F_X12_58 dX12_term_65 hs1 hq2 ?_
  refine k_iload C.1 4 rfl dX12_term_68 ?_
  refine k_iload_n C.1 1 rfl dX12_term_70 ?_
  obtain ⟨hs4, h⟩ := h
  obtain ⟨hi3, h⟩ := h
  refine k_iast C.1 dX12_term_71 hs4 hi3 ?_
  refine k_aload_n C.1 0 rfl dX12_term_72 ?_
  obtain ⟨q5, hq5, h⟩ := h
  refine k_getR C.1 F_X12_61 dX12_term_73 hs1 hq5 ?_
  refine k_iload C.1 4 rfl dX12_term_76 ?_
  refine k_iload_n C.1 2 rfl dX12_term_78 ?_
  obtain ⟨hs7, h⟩ := h
  obtain ⟨hi6, h⟩ := h
  refine k_iast C.1 dX12_term_79 hs7 hi6 ?_
  refine k_aload_n C.1 0 rfl dX12_term_80 ?_
  obtain ⟨q8, hq8, h⟩ := h
  refine k_getR C.1 F_X12_64 dX12_term_81 hs1 hq8 ?_
  refine k_iload C.1 4 rfl dX12_term_84 ?_
  refine k_iload_n C.1 3 rfl dX12_term_86 ?_
  generalize eM9 : wI (wI M q2 x4.toNatClampNeg x1) q5 x4.toNatClampNeg x2 = M9
  replace h := h M9 eM9.symm
  obtain ⟨hs11, h⟩ := h
  obtain ⟨hi10, h⟩ := h
  refine k_iast C.1 dX12_term_87 hs11 hi10 ?_
  refine k_aload_n C.1 0 rfl dX12_term_88 ?_
  refine k_getI C.1 F_X12_184 dX12_term_89 hs1 ?_
  exact k_iret C dX12_term_92 h
set_option maxRecDepth 100000 in
set_option maxHeartbeats 4000000 in
theorem c_X12_term {l : Launch} {D : va_G} {dA : Nat → ClassId} {sh : gh_Sh} {b0 n : Nat} {M : gh_M} {x0 : Nat} {x1 : Int32} {x2 : Int32} {x3 : Int32} {post : Int32 → gh_M → Prop} (h : wp_X12_term sh M x0 x1 x2 x3 post) : gh_Met l D dA sh b0 n yX12_term cX12_term 5 (some .int) rm_X12_term M [.ref x0, .int x1, .int x2, .int x3] (gh_pi post) := by
  refine gh_open (by decide) (Nat.le_of_ble_eq_true rfl) (fun X C => ?_)
  show gh_G X rm_X12_term 5 0 0 sh n 0 [(0, .ref x0), (1, .int x1), (2, .int x2), (3, .int x3)] [] M
  unfold wp_X12_term at h
  refine k_iload_n C.1 1 rfl dX12_term_0 ?_
  refine k_callS (As := [.int x1]) (rest := []) C.1 V_X12_138 (c_X12_isWord h) ⟨rfl, rfl, Nat.le_of_ble_eq_true rfl, Nat.le_of_ble_eq_true rfl⟩  rfl rfl (Nat.le_of_ble_eq_true rfl) ⟨Nat.zero_le _, Nat.zero_le _⟩ dX12_term_1 (kp_i fun r2 M1 h9 => ?_)
  replace h := h9
  refine k_if_eq C.1 21 dX12_term_4 (by decide) (fun c3 => ?_) (fun c3 => ?_)
  · have h := h.1 c3
    refine k_iconst (v := (-1)) C.1 dX12_term_21 (by decide) ?_
    exact k_iret C dX12_term_22 h
  · have h := h.2 c3
    refine k_iload_n C.1 2 rfl dX12_term_7 ?_
    refine k_callS (As := [.int x2]) (rest := []) C.1 V_X12_187 (c_X12_isTongue h) ⟨rfl, rfl, Nat.le_of_ble_eq_true rfl, Nat.le_of_ble_eq_true rfl⟩  rfl rfl (Nat.le_of_ble_eq_true rfl) ⟨Nat.zero_le _, Nat.zero_le _⟩ dX12_term_8 (kp_i fun r5 M4 h9 => ?_)
    replace h := h9
    refine k_if_eq C.1 21 dX12_term_11 (by decide) (fun c6 => ?_) (fun c6 => ?_)
    · have h := h.1 c6
      refine k_iconst (v := (-1)) C.1 dX12_term_21 (by decide) ?_
      exact k_iret C dX12_term_22 h
    · have h := h.2 c6
      refine k_iload_n C.1 3 rfl dX12_term_14 ?_
      refine k_callS (As := [.int x3]) (rest := []) C.1 V_X12_145 (c_X12_isOwn h) ⟨rfl, rfl, Nat.le_of_ble_eq_true rfl, Nat.le_of_ble_eq_true rfl⟩  rfl rfl (Nat.le_of_ble_eq_true rfl) ⟨Nat.zero_le _, Nat.zero_le _⟩ dX12_term_15 (kp_i fun r8 M7 h9 => ?_)
      replace h := h9
      refine k_if_ne C.1 23 dX12_term_18 (by decide) (fun c9 => ?_) (fun c9 => ?_)
      · have h := h.2 c9
        refine k_aload_n C.1 0 rfl dX12_term_23 ?_
        refine k_iload_n C.1 1 rfl dX12_term_24 ?_
        refine k_iload_n C.1 2 rfl dX12_term_25 ?_
        obtain ⟨hs10, h⟩ := h
        refine k_callV (As := [.int x1, .int x2]) (rest := []) C.1 V_X12_190 (c_X12_termOf h) ⟨rfl, rfl, Nat.le_of_ble_eq_true rfl, Nat.le_of_ble_eq_true rfl⟩ hs10  rfl rfl (Nat.le_of_ble_eq_true rfl) ⟨Nat.zero_le _, Nat.zero_le _⟩ dX12_term_26 (kp_i fun r12 M11 h9 => ?_)
        replace h := h9
        refine k_istore (lv' := [(4, .int r12), (0, .ref x0), (1, .int x1), (2, .int x2), (3, .int x3)]) C.1 dX12_term_29 (by decide) rfl ?_
        refine k_iload C.1 0 rfl dX12_term_31 ?_
        refine k_if_ge C.1 64 dX12_term_33 (by decide) (fun c13 => ?_) (fun c13 => ?_)
        · have h := h.1 c13
          refine k_sub (lv' := [(0, .ref x0), (1, .int x1), (2, .int x2), (3, .int x3), (4, .int r12)]) [1, 2, 3, 4, 0] rfl ?_
          exact b_X12_term_64 C x0 x1 x2 x3 r12 M11 h
        · have h := h.2 c13
          refine k_aload_n C.1 1 rfl dX12_term_36 ?_
          refine k_getI C.1 F_X12_184 dX12_term_37 hs10 ?_
          refine k_bipush (v := 10) C.1 dX12_term_40 (by decide) ?_
          refine k_icmp_ne C.1 48 dX12_term_42 (by decide) (fun c14 => ?_) (fun c14 => ?_)
          · have h := h.2 c14
            refine k_aload_n C.1 1 rfl dX12_term_48 ?_
            refine k_getI C.1 F_X12_184 dX12_term_49 hs10 ?_
            refine k_istore (lv' := [(4, .int (rI M11 x0 20)), (0, .ref x0), (1, .int x1), (2, .int x2), (3, .int x3)]) C.1 dX12_term_52 (by decide) rfl ?_
            refine k_aload_n C.1 1 rfl dX12_term_54 ?_
            refine k_dup C.1 dX12_term_55 rfl ?_
            refine k_getI C.1 F_X12_184 dX12_term_56 hs10 ?_
            refine k_iconst (v := 1) C.1 dX12_term_59 (by decide) ?_
            refine k_iadd C.1 dX12_term_60 ?_
            refine k_putI C.1 F_X12_184 dX12_term_61 hs10 rfl rfl ?_
            refine k_sub (lv' := [(0, .ref x0), (1, .int x1), (2, .int x2), (3, .int x3), (4, .int (rI M11 x0 20))]) [1, 2, 3, 4, 0] rfl ?_
            exact b_X12_term_64 C x0 x1 x2 x3 (rI M11 x0 20) (wI M11 x0 20 ((rI M11 x0 20) + (1 : Int32))) h
          · have h := h.1 c14
            refine k_bipush (v := (-2)) C.1 dX12_term_45 (by decide) ?_
            exact k_iret C dX12_term_47 h
      · have h := h.1 c9
        refine k_iconst (v := (-1)) C.1 dX12_term_21 (by decide) ?_
        exact k_iret C dX12_term_22 h
abbrev rm_X12_forget : Room := { frames := 2, cells := 0, slots := 0, locals := 42 }
set_option maxRecDepth 100000 in
set_option maxHeartbeats 4000000 in
theorem c_X12_forget {l : Launch} {D : va_G} {dA : Nat → ClassId} {sh : gh_Sh} {b0 n : Nat} {M : gh_M} {x0 : Nat} {x1 : Int32} {x2 : Int32} {post : Int32 → gh_M → Prop} (h : wp_X12_forget sh M x0 x1 x2 post) : gh_Met l D dA sh b0 n yX12_forget cX12_forget 4 (some .int) rm_X12_forget M [.ref x0, .int x1, .int x2] (gh_pi post) := by
  refine gh_open (by decide) (Nat.le_of_ble_eq_true rfl) (fun X C => ?_)
  show gh_G X rm_X12_forget 4 0 0 sh n 0 [(0, .ref x0), (1, .int x1), (2, .int x2)] [] M
  unfold wp_X12_forget at h
  refine k_iload_n C.1 1 rfl dX12_forget_0 ?_
  refine k_callS (As := [.int x1]) (rest := []) C.1 V_X12_138 (c_X12_isWord h) ⟨rfl, rfl, Nat.le_of_ble_eq_true rfl, Nat.le_of_ble_eq_true rfl⟩  rfl rfl (Nat.le_of_ble_eq_true rfl) ⟨Nat.zero_le _, Nat.zero_le _⟩ dX12_forget_1 (kp_i fun r2 M1 h9 => ?_)
  replace h := h9
  refine k_if_eq C.1 14 dX12_forget_4 (by decide) (fun c3 => ?_) (fun c3 => ?_)
  · have h := h.1 c3
    refine k_iconst (v := (-1)) C.1 dX12_forget_14 (by decide) ?_
    exact k_iret C dX12_forget_15 h
  · have h := h.2 c3
    refine k_iload_n C.1 2 rfl dX12_forget_7 ?_
    refine k_callS (As := [.int x2]) (rest := []) C.1 V_X12_187 (c_X12_isTongue h) ⟨rfl, rfl, Nat.le_of_ble_eq_true rfl, Nat.le_of_ble_eq_true rfl⟩  rfl rfl (Nat.le_of_ble_eq_true rfl) ⟨Nat.zero_le _, Nat.zero_le _⟩ dX12_forget_8 (kp_i fun r5 M4 h9 => ?_)
    replace h := h9
    refine k_if_ne C.1 16 dX12_forget_11 (by decide) (fun c6 => ?_) (fun c6 => ?_)
    · have h := h.2 c6
      refine k_aload_n C.1 0 rfl dX12_forget_16 ?_
      refine k_iload_n C.1 1 rfl dX12_forget_17 ?_
      refine k_iload_n C.1 2 rfl dX12_forget_18 ?_
      obtain ⟨hs7, h⟩ := h
      refine k_callV (As := [.int x1, .int x2]) (rest := []) C.1 V_X12_190 (c_X12_termOf h) ⟨rfl, rfl, Nat.le_of_ble_eq_true rfl, Nat.le_of_ble_eq_true rfl⟩ hs7  rfl rfl (Nat.le_of_ble_eq_true rfl) ⟨Nat.zero_le _, Nat.zero_le _⟩ dX12_forget_19 (kp_i fun r9 M8 h9 => ?_)
      replace h := h9
      refine k_istore_n (lv' := [(3, .int r9), (0, .ref x0), (1, .int x1), (2, .int x2)]) C.1 dX12_forget_22 (by decide) rfl ?_
      refine k_iload_n C.1 0 rfl dX12_forget_23 ?_
      refine k_if_ge C.1 30 dX12_forget_24 (by decide) (fun c10 => ?_) (fun c10 => ?_)
      · have h := h.1 c10
        refine k_aload_n C.1 1 rfl dX12_forget_30 ?_
        refine k_dup C.1 dX12_forget_31 rfl ?_
        refine k_getI C.1 F_X12_184 dX12_forget_32 hs7 ?_
        refine k_iconst (v := 1) C.1 dX12_forget_35 (by decide) ?_
        refine k_isub C.1 dX12_forget_36 ?_
        refine k_putI C.1 F_X12_184 dX12_forget_37 hs7 rfl rfl ?_
        refine k_aload_n C.1 1 rfl dX12_forget_40 ?_
        obtain ⟨q11, hq11, h⟩ := h
        refine k_getR C.1 F_X12_58 dX12_forget_41 hs7 hq11 ?_
        refine k_iload_n C.1 0 rfl dX12_forget_44 ?_
        refine k_aload_n C.1 1 rfl dX12_forget_45 ?_
        refine k_getR C.1 F_X12_58 dX12_forget_46 hs7 hq11 ?_
        refine k_aload_n C.1 1 rfl dX12_forget_49 ?_
        refine k_getI C.1 F_X12_184 dX12_forget_50 hs7 ?_
        obtain ⟨hs12, h⟩ := h
        obtain ⟨hi13, h⟩ := h
        refine k_iald C.1 dX12_forget_53 hs12 hi13 ?_
        obtain ⟨hi14, h⟩ := h
        refine k_iast C.1 dX12_forget_54 hs12 hi14 ?_
        refine k_aload_n C.1 1 rfl dX12_forget_55 ?_
        obtain ⟨q15, hq15, h⟩ := h
        refine k_getR C.1 F_X12_61 dX12_forget_56 hs7 hq15 ?_
        refine k_iload_n C.1 0 rfl dX12_forget_59 ?_
        refine k_aload_n C.1 1 rfl dX12_forget_60 ?_
        refine k_getR C.1 F_X12_61 dX12_forget_61 hs7 hq15 ?_
        refine k_aload_n C.1 1 rfl dX12_forget_64 ?_
        refine k_getI C.1 F_X12_184 dX12_forget_65 hs7 ?_
        obtain ⟨hs16, h⟩ := h
        obtain ⟨hi17, h⟩ := h
        refine k_iald C.1 dX12_forget_68 hs16 hi17 ?_
        generalize eM18 : wI (wI M8 x0 20 ((rI M8 x0 20) - (1 : Int32))) q11 r9.toNatClampNeg (rI (wI M8 x0 20 ((rI M8 x0 20) - (1 : Int32))) q11 (rI (wI M8 x0 20 ((rI M8 x0 20) - (1 : Int32))) x0 20).toNatClampNeg) = M18
        replace h := h M18 eM18.symm
        obtain ⟨hi19, h⟩ := h
        refine k_iast C.1 dX12_forget_69 hs16 hi19 ?_
        refine k_aload_n C.1 1 rfl dX12_forget_70 ?_
        obtain ⟨q20, hq20, h⟩ := h
        refine k_getR C.1 F_X12_64 dX12_forget_71 hs7 hq20 ?_
        refine k_iload_n C.1 0 rfl dX12_forget_74 ?_
        refine k_aload_n C.1 1 rfl dX12_forget_75 ?_
        refine k_getR C.1 F_X12_64 dX12_forget_76 hs7 hq20 ?_
        refine k_aload_n C.1 1 rfl dX12_forget_79 ?_
        refine k_getI C.1 F_X12_184 dX12_forget_80 hs7 ?_
        obtain ⟨hs21, h⟩ := h
        obtain ⟨hi22, h⟩ := h
        refine k_iald C.1 dX12_forget_83 hs21 hi22 ?_
        obtain ⟨hi23, h⟩ := h
        refine k_iast C.1 dX12_forget_84 hs21 hi23 ?_
        refine k_aload_n C.1 1 rfl dX12_forget_85 ?_
        refine k_getI C.1 F_X12_184 dX12_forget_86 hs7 ?_
        exact k_iret C dX12_forget_89 h
      · have h := h.2 c10
        refine k_bipush (v := (-5)) C.1 dX12_forget_27 (by decide) ?_
        exact k_iret C dX12_forget_29 h
    · have h := h.1 c6
      refine k_iconst (v := (-1)) C.1 dX12_forget_14 (by decide) ?_
      exact k_iret C dX12_forget_15 h
abbrev rm_X12_areThree : Room := { frames := 2, cells := 0, slots := 0, locals := 43 }
set_option maxRecDepth 100000 in
set_option maxHeartbeats 4000000 in
theorem c_X12_areThree {l : Launch} {D : va_G} {dA : Nat → ClassId} {sh : gh_Sh} {b0 n : Nat} {M : gh_M} {x0 : Nat} {x1 : Int32} {x2 : Int32} {x3 : Int32} {post : Int32 → gh_M → Prop} (h : wp_X12_areThree sh M x0 x1 x2 x3 post) : gh_Met l D dA sh b0 n yX12_areThree cX12_areThree 4 (some .boolean) rm_X12_areThree M [.ref x0, .int x1, .int x2, .int x3] (gh_pi post) := by
  refine gh_open (by decide) (Nat.le_of_ble_eq_true rfl) (fun X C => ?_)
  show gh_G X rm_X12_areThree 4 0 0 sh n 0 [(0, .ref x0), (1, .int x1), (2, .int x2), (3, .int x3)] [] M
  unfold wp_X12_areThree at h
  refine k_aload_n C.1 0 rfl dX12_areThree_0 ?_
  refine k_iload_n C.1 1 rfl dX12_areThree_1 ?_
  obtain ⟨hs1, h⟩ := h
  refine k_callV (As := [.int x1]) (rest := []) C.1 V_X12_178 (c_X12_isPiece h) ⟨rfl, rfl, Nat.le_of_ble_eq_true rfl, Nat.le_of_ble_eq_true rfl⟩ hs1  rfl rfl (Nat.le_of_ble_eq_true rfl) ⟨Nat.zero_le _, Nat.zero_le _⟩ dX12_areThree_2 (kp_i fun r3 M2 h9 => ?_)
  replace h := h9
  refine k_if_eq C.1 27 dX12_areThree_5 (by decide) (fun c4 => ?_) (fun c4 => ?_)
  · have h := h.1 c4
    refine k_iconst (v := 0) C.1 dX12_areThree_27 (by decide) ?_
    exact k_zret C dX12_areThree_28 (Or.inl rfl) h
  · have h := h.2 c4
    refine k_iload_n C.1 2 rfl dX12_areThree_8 ?_
    refine k_callS (As := [.int x2]) (rest := []) C.1 V_X12_187 (c_X12_isTongue h) ⟨rfl, rfl, Nat.le_of_ble_eq_true rfl, Nat.le_of_ble_eq_true rfl⟩  rfl rfl (Nat.le_of_ble_eq_true rfl) ⟨Nat.zero_le _, Nat.zero_le _⟩ dX12_areThree_9 (kp_i fun r6 M5 h9 => ?_)
    replace h := h9
    refine k_if_eq C.1 27 dX12_areThree_12 (by decide) (fun c7 => ?_) (fun c7 => ?_)
    · have h := h.1 c7
      refine k_iconst (v := 0) C.1 dX12_areThree_27 (by decide) ?_
      exact k_zret C dX12_areThree_28 (Or.inl rfl) h
    · have h := h.2 c7
      refine k_aload_n C.1 0 rfl dX12_areThree_15 ?_
      refine k_iload_n C.1 3 rfl dX12_areThree_16 ?_
      refine k_callV (As := [.int x3]) (rest := []) C.1 V_X12_181 (c_X12_isHand h) ⟨rfl, rfl, Nat.le_of_ble_eq_true rfl, Nat.le_of_ble_eq_true rfl⟩ hs1  rfl rfl (Nat.le_of_ble_eq_true rfl) ⟨Nat.zero_le _, Nat.zero_le _⟩ dX12_areThree_17 (kp_i fun r9 M8 h9 => ?_)
      replace h := h9
      refine k_if_eq C.1 27 dX12_areThree_20 (by decide) (fun c10 => ?_) (fun c10 => ?_)
      · have h := h.1 c10
        refine k_iconst (v := 0) C.1 dX12_areThree_27 (by decide) ?_
        exact k_zret C dX12_areThree_28 (Or.inl rfl) h
      · have h := h.2 c10
        refine k_iconst (v := 1) C.1 dX12_areThree_23 (by decide) ?_
        refine k_goto C.1 28 dX12_areThree_24 (by decide) ?_
        exact k_zret C dX12_areThree_28 (Or.inr rfl) h
abbrev rm_X12_write : Room := { frames := 3, cells := 0, slots := 0, locals := 66 }
set_option maxRecDepth 100000 in
set_option maxHeartbeats 4000000 in
theorem bb_X12_write_95 {X : gh_X} {sh : gh_Sh} {n : Nat} {post : Int32 → gh_M → Prop} (C : gh_CR X cX12_write RX12 7 (some .int) sh n 0 0 (gh_pi post)) (x0 : Nat) (x4 : Int32) (x5 : Int32) (k95 : Int32 → gh_M → Prop) (hk95 : ∀ (y6 : Int32) (M : gh_M), k95 y6 M → gh_G X rm_X12_write 7 0 0 sh n 95 [(0, .ref x0), (4, .int x4), (5, .int x5), (6, .int y6)] [] M) (x6 : Int32) (M : gh_M) (h : wb_X12_write_95 sh post x0 x4 x5 k95 x6 M) : gh_G X rm_X12_write 7 0 0 sh n 95 [(0, .ref x0), (4, .int x4), (5, .int x5), (6, .int x6)] [] M := by
  unfold wb_X12_write_95 at h
  refine k_iload C.1 3 rfl dX12_write_95 ?_
  refine k_iload C.1 2 rfl dX12_write_97 ?_
  refine k_icmp_ge C.1 128 dX12_write_99 (by decide) (fun c1 => ?_) (fun c1 => ?_)
  · have h := h.1 c1
    refine k_aload_n C.1 0 rfl dX12_write_128 ?_
    refine k_iconst (v := 0) C.1 dX12_write_129 (by decide) ?_
    obtain ⟨hs2, h⟩ := h
    refine k_putI C.1 F_X12_148 dX12_write_130 hs2 rfl rfl ?_
    refine k_iload C.1 2 rfl dX12_write_133 ?_
    exact k_iret C dX12_write_135 h
  · have h := h.2 c1
    refine k_aload_n C.1 0 rfl dX12_write_102 ?_
    obtain ⟨hs3, h⟩ := h
    obtain ⟨q4, hq4, h⟩ := h
    refine k_getR C.1 F_X12_46 dX12_write_103 hs3 hq4 ?_
    refine k_bipush (v := 10) C.1 dX12_write_106 (by decide) ?_
    refine k_iload C.1 1 rfl dX12_write_108 ?_
    refine k_imul C.1 dX12_write_110 ?_
    refine k_iload C.1 3 rfl dX12_write_111 ?_
    refine k_iadd C.1 dX12_write_113 ?_
    refine k_aload_n C.1 0 rfl dX12_write_114 ?_
    obtain ⟨q5, hq5, h⟩ := h
    refine k_getR C.1 F_X12_7 dX12_write_115 hs3 hq5 ?_
    refine k_iload C.1 3 rfl dX12_write_118 ?_
    obtain ⟨hs6, h⟩ := h
    obtain ⟨hi7, h⟩ := h
    refine k_iald C.1 dX12_write_120 hs6 hi7 ?_
    obtain ⟨hs9, h⟩ := h
    obtain ⟨hi8, h⟩ := h
    refine k_iast C.1 dX12_write_121 hs9 hi8 ?_
    refine k_iinc (v := x6 + 1) (lv' := [(6, .int (x6 + 1)), (0, .ref x0), (4, .int x4), (5, .int x5)]) C.1 3 rfl dX12_write_122 (by decide) rfl rfl ?_
    refine k_goto C.1 95 dX12_write_125 (by decide) ?_
    refine k_sub (lv' := [(0, .ref x0), (4, .int x4), (5, .int x5), (6, .int (x6 + 1))]) [1, 2, 3, 0] rfl ?_
    exact hk95 (x6 + 1) (wI M q4 (((10 : Int32) * x4) + x6).toNatClampNeg (rI M q5 x6.toNatClampNeg)) h
set_option maxRecDepth 100000 in
theorem b_X12_write_95 {X : gh_X} {sh : gh_Sh} {n : Nat} {post : Int32 → gh_M → Prop} (C : gh_CR X cX12_write RX12 7 (some .int) sh n 0 0 (gh_pi post)) (x0 : Nat) (x4 : Int32) (x5 : Int32) (x6 : Int32) (M : gh_M) (h : wp_X12_write_95 sh post x0 x4 x5 x6 M) : gh_G X rm_X12_write 7 0 0 sh n 95 [(0, .ref x0), (4, .int x4), (5, .int x5), (6, .int x6)] [] M := by
  unfold wp_X12_write_95 at h
  exact gh_loop_use h (fun v => gh_G X rm_X12_write 7 0 0 sh n 95 [(0, .ref x0), (4, .int x4), (5, .int x5), (6, .int v.1)] [] v.2) (fun k v hk hb => bb_X12_write_95 C x0 x4 x5 (fun x6 M => k (x6, M)) (fun x6 M h => hk (x6, M) h) v.1 v.2 hb)
set_option maxRecDepth 100000 in
set_option maxHeartbeats 4000000 in
theorem c_X12_write {l : Launch} {D : va_G} {dA : Nat → ClassId} {sh : gh_Sh} {b0 n : Nat} {M : gh_M} {x0 : Nat} {x1 : Int32} {x2 : Int32} {x3 : Int32} {post : Int32 → gh_M → Prop} (h : wp_X12_write sh M x0 x1 x2 x3 post) : gh_Met l D dA sh b0 n yX12_write cX12_write 7 (some .int) rm_X12_write M [.ref x0, .int x1, .int x2, .int x3] (gh_pi post) := by
  refine gh_open (by decide) (Nat.le_of_ble_eq_true rfl) (fun X C => ?_)
  show gh_G X rm_X12_write 7 0 0 sh n 0 [(0, .ref x0), (1, .int x1), (2, .int x2), (3, .int x3)] [] M
  unfold wp_X12_write at h
  refine k_aload_n C.1 0 rfl dX12_write_0 ?_
  refine k_iload_n C.1 1 rfl dX12_write_1 ?_
  refine k_iload_n C.1 2 rfl dX12_write_2 ?_
  refine k_iload_n C.1 3 rfl dX12_write_3 ?_
  obtain ⟨hs1, h⟩ := h
  refine k_callV (As := [.int x1, .int x2, .int x3]) (rest := []) C.1 V_X12_193 (c_X12_areThree h) ⟨rfl, rfl, Nat.le_of_ble_eq_true rfl, Nat.le_of_ble_eq_true rfl⟩ hs1  rfl rfl (Nat.le_of_ble_eq_true rfl) ⟨Nat.zero_le _, Nat.zero_le _⟩ dX12_write_4 (kp_i fun r3 M2 h9 => ?_)
  replace h := h9
  refine k_if_ne C.1 12 dX12_write_7 (by decide) (fun c4 => ?_) (fun c4 => ?_)
  · have h := h.2 c4
    refine k_aload_n C.1 0 rfl dX12_write_12 ?_
    obtain ⟨q5, hq5, h⟩ := h
    refine k_getR C.1 F_X12_13 dX12_write_13 hs1 hq5 ?_
    refine k_iload_n C.1 1 rfl dX12_write_16 ?_
    obtain ⟨hs6, h⟩ := h
    obtain ⟨hi7, h⟩ := h
    refine k_iald C.1 dX12_write_17 hs6 hi7 ?_
    refine k_iconst (v := 1) C.1 dX12_write_18 (by decide) ?_
    refine k_icmp_eq C.1 31 dX12_write_19 (by decide) (fun c8 => ?_) (fun c8 => ?_)
    · have h := h.1 c8
      refine k_bipush (v := (-3)) C.1 dX12_write_31 (by decide) ?_
      exact k_iret C dX12_write_33 h
    · have h := h.2 c8
      refine k_aload_n C.1 0 rfl dX12_write_22 ?_
      refine k_iload_n C.1 3 rfl dX12_write_23 ?_
      refine k_iload_n C.1 2 rfl dX12_write_24 ?_
      refine k_callV (As := [.int x3, .int x2]) (rest := []) C.1 V_X12_196 (c_X12_knows h) ⟨rfl, rfl, Nat.le_of_ble_eq_true rfl, Nat.le_of_ble_eq_true rfl⟩ hs1  rfl rfl (Nat.le_of_ble_eq_true rfl) ⟨Nat.zero_le _, Nat.zero_le _⟩ dX12_write_25 (kp_i fun r10 M9 h9 => ?_)
      replace h := h9
      refine k_if_ne C.1 34 dX12_write_28 (by decide) (fun c11 => ?_) (fun c11 => ?_)
      · have h := h.2 c11
        refine k_aload_n C.1 0 rfl dX12_write_34 ?_
        refine k_getI C.1 F_X12_148 dX12_write_35 hs1 ?_
        refine k_if_ne C.1 44 dX12_write_38 (by decide) (fun c12 => ?_) (fun c12 => ?_)
        · have h := h.2 c12
          refine k_aload_n C.1 0 rfl dX12_write_44 ?_
          refine k_callV (As := []) (rest := []) C.1 V_X12_200 (c_X12_draftHasWord h) ⟨rfl, rfl, Nat.le_of_ble_eq_true rfl, Nat.le_of_ble_eq_true rfl⟩ hs1  rfl rfl (Nat.le_of_ble_eq_true rfl) ⟨Nat.zero_le _, Nat.zero_le _⟩ dX12_write_45 (kp_i fun r14 M13 h9 => ?_)
          replace h := h9
          refine k_if_eq C.1 54 dX12_write_48 (by decide) (fun c15 => ?_) (fun c15 => ?_)
          · have h := h.1 c15
            refine k_iconst (v := 3) C.1 dX12_write_54 (by decide) ?_
            refine k_iload_n C.1 1 rfl dX12_write_55 ?_
            refine k_imul C.1 dX12_write_56 ?_
            refine k_iload_n C.1 2 rfl dX12_write_57 ?_
            refine k_iadd C.1 dX12_write_58 ?_
            refine k_istore (lv' := [(4, .int (((3 : Int32) * x1) + x2)), (0, .ref x0), (1, .int x1), (2, .int x2), (3, .int x3)]) C.1 dX12_write_59 (by decide) rfl ?_
            refine k_aload_n C.1 1 rfl dX12_write_61 ?_
            refine k_getI C.1 F_X12_148 dX12_write_62 hs1 ?_
            refine k_istore (lv' := [(5, .int (rI M13 x0 0)), (4, .int (((3 : Int32) * x1) + x2)), (0, .ref x0), (1, .int x1), (2, .int x2), (3, .int x3)]) C.1 dX12_write_65 (by decide) rfl ?_
            refine k_aload_n C.1 2 rfl dX12_write_67 ?_
            obtain ⟨q16, hq16, h⟩ := h
            refine k_getR C.1 F_X12_37 dX12_write_68 hs1 hq16 ?_
            refine k_iload C.1 1 rfl dX12_write_71 ?_
            refine k_iconst (v := 1) C.1 dX12_write_73 (by decide) ?_
            obtain ⟨hs18, h⟩ := h
            obtain ⟨hi17, h⟩ := h
            refine k_iast C.1 dX12_write_74 hs18 hi17 ?_
            refine k_aload_n C.1 2 rfl dX12_write_75 ?_
            obtain ⟨q19, hq19, h⟩ := h
            refine k_getR C.1 F_X12_40 dX12_write_76 hs1 hq19 ?_
            refine k_iload C.1 1 rfl dX12_write_79 ?_
            refine k_iload_n C.1 5 rfl dX12_write_81 ?_
            obtain ⟨hs21, h⟩ := h
            obtain ⟨hi20, h⟩ := h
            refine k_iast C.1 dX12_write_82 hs21 hi20 ?_
            refine k_aload_n C.1 2 rfl dX12_write_83 ?_
            obtain ⟨q22, hq22, h⟩ := h
            refine k_getR C.1 F_X12_43 dX12_write_84 hs1 hq22 ?_
            refine k_iload C.1 1 rfl dX12_write_87 ?_
            refine k_iload C.1 0 rfl dX12_write_89 ?_
            generalize eM23 : wI (wI M13 q16 (((3 : Int32) * x1) + x2).toNatClampNeg (1 : Int32)) q19 (((3 : Int32) * x1) + x2).toNatClampNeg x3 = M23
            replace h := h M23 eM23.symm
            obtain ⟨hs25, h⟩ := h
            obtain ⟨hi24, h⟩ := h
            refine k_iast C.1 dX12_write_91 hs25 hi24 ?_
            refine k_iconst (v := 0) C.1 dX12_write_92 (by decide) ?_
            refine k_istore (lv' := [(6, .int (0 : Int32)), (5, .int (rI M13 x0 0)), (4, .int (((3 : Int32) * x1) + x2)), (0, .ref x0), (1, .int x1), (2, .int x2), (3, .int x3)]) C.1 dX12_write_93 (by decide) rfl ?_
            refine k_sub (lv' := [(0, .ref x0), (4, .int (((3 : Int32) * x1) + x2)), (5, .int (rI M13 x0 0)), (6, .int (0 : Int32))]) [3, 2, 1, 0] rfl ?_
            exact b_X12_write_95 C x0 (((3 : Int32) * x1) + x2) (rI M13 x0 0) (0 : Int32) (wI M23 q22 (((3 : Int32) * x1) + x2).toNatClampNeg (rI M13 x0 0)) h
          · have h := h.2 c15
            refine k_bipush (v := (-3)) C.1 dX12_write_51 (by decide) ?_
            exact k_iret C dX12_write_53 h
        · have h := h.1 c12
          refine k_bipush (v := (-6)) C.1 dX12_write_41 (by decide) ?_
          exact k_iret C dX12_write_43 h
      · have h := h.1 c11
        refine k_bipush (v := (-3)) C.1 dX12_write_31 (by decide) ?_
        exact k_iret C dX12_write_33 h
  · have h := h.1 c4
    refine k_iconst (v := (-1)) C.1 dX12_write_10 (by decide) ?_
    exact k_iret C dX12_write_11 h
abbrev rm_X12_often : Room := { frames := 0, cells := 0, slots := 0, locals := 0 }
set_option maxRecDepth 100000 in
set_option maxHeartbeats 4000000 in
theorem b_X12_often_29 {X : gh_X} {sh : gh_Sh} {n : Nat} {post : Int32 → gh_M → Prop} (C : gh_CR X cX12_often RX12 6 (some .int) sh n 0 0 (gh_pi post)) (x0 : Nat) (x1 : Int32) (x2 : Int32) (x3 : Int32) (x5 : Int32) (s0 : Int32) (s1 : Int32) (M : gh_M) (k6 : Int32 → Int32 → gh_M → Prop) (hk6 : ∀ (y4 : Int32) (y5 : Int32) (M : gh_M), k6 y4 y5 M → gh_G X rm_X12_often 6 0 0 sh n 6 [(0, .ref x0), (1, .int x1), (2, .int x2), (3, .int x3), (4, .int y4), (5, .int y5)] [] M) (h : wp_X12_often_29 sh post k6 x0 x1 x2 x3 x5 s0 s1 M) : gh_G X rm_X12_often 6 0 0 sh n 29 [(0, .ref x0), (1, .int x1), (2, .int x2), (3, .int x3), (5, .int x5)] [.int s1, .int s0] M := by
  unfold wp_X12_often_29 at h
  refine k_iadd C.1 dX12_often_29 ?_
  refine k_istore (lv' := [(4, .int (s0 + s1)), (0, .ref x0), (1, .int x1), (2, .int x2), (3, .int x3), (5, .int x5)]) C.1 dX12_often_30 (by decide) rfl ?_
  refine k_iinc (v := x5 + 1) (lv' := [(5, .int (x5 + 1)), (4, .int (s0 + s1)), (0, .ref x0), (1, .int x1), (2, .int x2), (3, .int x3)]) C.1 5 rfl dX12_often_32 (by decide) rfl rfl ?_
  refine k_goto C.1 6 dX12_often_35 (by decide) ?_
  refine k_sub (lv' := [(0, .ref x0), (1, .int x1), (2, .int x2), (3, .int x3), (4, .int (s0 + s1)), (5, .int (x5 + 1))]) [2, 3, 4, 5, 1, 0] rfl ?_
  exact hk6 (s0 + s1) (x5 + 1) M h
set_option maxRecDepth 100000 in
set_option maxHeartbeats 4000000 in
theorem bb_X12_often_6 {X : gh_X} {sh : gh_Sh} {n : Nat} {post : Int32 → gh_M → Prop} (C : gh_CR X cX12_often RX12 6 (some .int) sh n 0 0 (gh_pi post)) (x0 : Nat) (x1 : Int32) (x2 : Int32) (x3 : Int32) (k6 : Int32 → Int32 → gh_M → Prop) (hk6 : ∀ (y4 : Int32) (y5 : Int32) (M : gh_M), k6 y4 y5 M → gh_G X rm_X12_often 6 0 0 sh n 6 [(0, .ref x0), (1, .int x1), (2, .int x2), (3, .int x3), (4, .int y4), (5, .int y5)] [] M) (x4 : Int32) (x5 : Int32) (M : gh_M) (h : wb_X12_often_6 sh post x0 x1 x2 x3 k6 x4 x5 M) : gh_G X rm_X12_often 6 0 0 sh n 6 [(0, .ref x0), (1, .int x1), (2, .int x2), (3, .int x3), (4, .int x4), (5, .int x5)] [] M := by
  unfold wb_X12_often_6 at h
  refine k_iload C.1 5 rfl dX12_often_6 ?_
  refine k_iload_n C.1 2 rfl dX12_often_8 ?_
  refine k_icmp_ge C.1 38 dX12_often_9 (by decide) (fun c1 => ?_) (fun c1 => ?_)
  · have h := h.1 c1
    refine k_iload C.1 4 rfl dX12_often_38 ?_
    exact k_iret C dX12_often_40 h
  · have h := h.2 c1
    refine k_iload C.1 4 rfl dX12_often_12 ?_
    refine k_aload_n C.1 0 rfl dX12_often_14 ?_
    refine k_iload_n C.1 1 rfl dX12_often_15 ?_
    refine k_iload C.1 5 rfl dX12_often_16 ?_
    refine k_iadd C.1 dX12_often_18 ?_
    obtain ⟨hs2, h⟩ := h
    obtain ⟨hi3, h⟩ := h
    refine k_iald C.1 dX12_often_19 hs2 hi3 ?_
    refine k_iload_n C.1 3 rfl dX12_often_20 ?_
    refine k_icmp_ne C.1 28 dX12_often_21 (by decide) (fun c4 => ?_) (fun c4 => ?_)
    · have h := h.2 c4
      refine k_iconst (v := 0) C.1 dX12_often_28 (by decide) ?_
      refine k_sub (lv' := [(0, .ref x0), (1, .int x1), (2, .int x2), (3, .int x3), (5, .int x5)]) [0, 1, 2, 3, 5] rfl ?_
      exact b_X12_often_29 C x0 x1 x2 x3 x5 x4 (0 : Int32) M k6 hk6 h
    · have h := h.1 c4
      refine k_iconst (v := 1) C.1 dX12_often_24 (by decide) ?_
      refine k_goto C.1 29 dX12_often_25 (by decide) ?_
      refine k_sub (lv' := [(0, .ref x0), (1, .int x1), (2, .int x2), (3, .int x3), (5, .int x5)]) [0, 1, 2, 3, 5] rfl ?_
      exact b_X12_often_29 C x0 x1 x2 x3 x5 x4 (1 : Int32) M k6 hk6 h
set_option maxRecDepth 100000 in
theorem b_X12_often_6 {X : gh_X} {sh : gh_Sh} {n : Nat} {post : Int32 → gh_M → Prop} (C : gh_CR X cX12_often RX12 6 (some .int) sh n 0 0 (gh_pi post)) (x0 : Nat) (x1 : Int32) (x2 : Int32) (x3 : Int32) (x4 : Int32) (x5 : Int32) (M : gh_M) (h : wp_X12_often_6 sh post x0 x1 x2 x3 x4 x5 M) : gh_G X rm_X12_often 6 0 0 sh n 6 [(0, .ref x0), (1, .int x1), (2, .int x2), (3, .int x3), (4, .int x4), (5, .int x5)] [] M := by
  unfold wp_X12_often_6 at h
  exact gh_loop_use h (fun v => gh_G X rm_X12_often 6 0 0 sh n 6 [(0, .ref x0), (1, .int x1), (2, .int x2), (3, .int x3), (4, .int v.1), (5, .int v.2.1)] [] v.2.2) (fun k v hk hb => bb_X12_often_6 C x0 x1 x2 x3 (fun x4 x5 M => k (x4, x5, M)) (fun x4 x5 M h => hk (x4, x5, M) h) v.1 v.2.1 v.2.2 hb)
set_option maxRecDepth 100000 in
set_option maxHeartbeats 4000000 in
theorem c_X12_often {l : Launch} {D : va_G} {dA : Nat → ClassId} {sh : gh_Sh} {b0 n : Nat} {M : gh_M} {x0 : Nat} {x1 : Int32} {x2 : Int32} {x3 : Int32} {post : Int32 → gh_M → Prop} (h : wp_X12_often sh M x0 x1 x2 x3 post) : gh_Met l D dA sh b0 n yX12_often cX12_often 6 (some .int) rm_X12_often M [.ref x0, .int x1, .int x2, .int x3] (gh_pi post) := by
  refine gh_open (by decide) (Nat.le_of_ble_eq_true rfl) (fun X C => ?_)
  show gh_G X rm_X12_often 6 0 0 sh n 0 [(0, .ref x0), (1, .int x1), (2, .int x2), (3, .int x3)] [] M
  unfold wp_X12_often at h
  refine k_iconst (v := 0) C.1 dX12_often_0 (by decide) ?_
  refine k_istore (lv' := [(4, .int (0 : Int32)), (0, .ref x0), (1, .int x1), (2, .int x2), (3, .int x3)]) C.1 dX12_often_1 (by decide) rfl ?_
  refine k_iconst (v := 0) C.1 dX12_often_3 (by decide) ?_
  refine k_istore (lv' := [(5, .int (0 : Int32)), (4, .int (0 : Int32)), (0, .ref x0), (1, .int x1), (2, .int x2), (3, .int x3)]) C.1 dX12_often_4 (by decide) rfl ?_
  refine k_sub (lv' := [(0, .ref x0), (1, .int x1), (2, .int x2), (3, .int x3), (4, .int (0 : Int32)), (5, .int (0 : Int32))]) [2, 3, 4, 5, 1, 0] rfl ?_
  exact b_X12_often_6 C x0 x1 x2 x3 (0 : Int32) (0 : Int32) M h
abbrev rm_X12_faultOf : Room := { frames := 2, cells := 0, slots := 0, locals := 42 }
set_option maxRecDepth 100000 in
set_option maxHeartbeats 4000000 in
theorem b_X12_faultOf_155 {X : gh_X} {sh : gh_Sh} {n : Nat} {post : Int32 → gh_M → Prop} (C : gh_CR X cX12_faultOf RX12 6 (some .int) sh n 0 0 (gh_pi post)) (x0 : Nat) (x1 : Int32) (x2 : Int32) (x3 : Int32) (x4 : Int32) (M : gh_M) (k69 : Int32 → gh_M → Prop) (hk69 : ∀ (y4 : Int32) (M : gh_M), k69 y4 M → gh_G X rm_X12_faultOf 6 0 0 sh n 69 [(0, .ref x0), (1, .int x1), (2, .int x2), (3, .int x3), (4, .int y4)] [] M) (h : wp_X12_faultOf_155 sh post k69 x0 x1 x2 x3 x4 M) : gh_G X rm_X12_faultOf 6 0 0 sh n 155 [(0, .ref x0), (1, .int x1), (2, .int x2), (3, .int x3), (4, .int x4)] [] M := by
  unfold wp_X12_faultOf_155 at h
  refine k_iinc (v := x4 + 1) (lv' := [(4, .int (x4 + 1)), (0, .ref x0), (1, .int x1), (2, .int x2), (3, .int x3)]) C.1 4 rfl dX12_faultOf_155 (by decide) rfl rfl ?_
  refine k_goto C.1 69 dX12_faultOf_158 (by decide) ?_
  refine k_sub (lv' := [(0, .ref x0), (1, .int x1), (2, .int x2), (3, .int x3), (4, .int (x4 + 1))]) [1, 2, 3, 4, 0] rfl ?_
  exact hk69 (x4 + 1) M h
set_option maxRecDepth 100000 in
set_option maxHeartbeats 4000000 in
theorem b_X12_faultOf_119 {X : gh_X} {sh : gh_Sh} {n : Nat} {post : Int32 → gh_M → Prop} (C : gh_CR X cX12_faultOf RX12 6 (some .int) sh n 0 0 (gh_pi post)) (x0 : Nat) (x1 : Int32) (x2 : Int32) (x3 : Int32) (x4 : Int32) (s0 : Int32) (M : gh_M) (k69 : Int32 → gh_M → Prop) (hk69 : ∀ (y4 : Int32) (M : gh_M), k69 y4 M → gh_G X rm_X12_faultOf 6 0 0 sh n 69 [(0, .ref x0), (1, .int x1), (2, .int x2), (3, .int x3), (4, .int y4)] [] M) (h : wp_X12_faultOf_119 sh post k69 x0 x1 x2 x3 x4 s0 M) : gh_G X rm_X12_faultOf 6 0 0 sh n 119 [(0, .ref x0), (1, .int x1), (2, .int x2), (3, .int x3), (4, .int x4)] [.int s0] M := by
  unfold wp_X12_faultOf_119 at h
  refine k_istore (lv' := [(5, .int s0), (0, .ref x0), (1, .int x1), (2, .int x2), (3, .int x3), (4, .int x4)]) C.1 dX12_faultOf_119 (by decide) rfl ?_
  refine k_iload C.1 0 rfl dX12_faultOf_121 ?_
  refine k_if_lt C.1 155 dX12_faultOf_123 (by decide) (fun c1 => ?_) (fun c1 => ?_)
  · have h := h.1 c1
    refine k_sub (lv' := [(0, .ref x0), (1, .int x1), (2, .int x2), (3, .int x3), (4, .int x4)]) [1, 2, 3, 4, 5] rfl ?_
    exact b_X12_faultOf_155 C x0 x1 x2 x3 x4 M k69 hk69 h
  · have h := h.2 c1
    refine k_aload_n C.1 1 rfl dX12_faultOf_126 ?_
    obtain ⟨hs2, h⟩ := h
    obtain ⟨q3, hq3, h⟩ := h
    refine k_getR C.1 F_X12_46 dX12_faultOf_127 hs2 hq3 ?_
    refine k_bipush (v := 10) C.1 dX12_faultOf_130 (by decide) ?_
    refine k_iload_n C.1 4 rfl dX12_faultOf_132 ?_
    refine k_imul C.1 dX12_faultOf_133 ?_
    refine k_aload_n C.1 1 rfl dX12_faultOf_134 ?_
    obtain ⟨q4, hq4, h⟩ := h
    refine k_getR C.1 F_X12_43 dX12_faultOf_135 hs2 hq4 ?_
    refine k_iload_n C.1 4 rfl dX12_faultOf_138 ?_
    obtain ⟨hs5, h⟩ := h
    obtain ⟨hi6, h⟩ := h
    refine k_iald C.1 dX12_faultOf_139 hs5 hi6 ?_
    refine k_aload_n C.1 1 rfl dX12_faultOf_140 ?_
    obtain ⟨q7, hq7, h⟩ := h
    refine k_getR C.1 F_X12_64 dX12_faultOf_141 hs2 hq7 ?_
    refine k_iload C.1 0 rfl dX12_faultOf_144 ?_
    obtain ⟨hs8, h⟩ := h
    obtain ⟨hi9, h⟩ := h
    refine k_iald C.1 dX12_faultOf_146 hs8 hi9 ?_
    refine k_callS (As := [.ref q3, .int ((10 : Int32) * x3), .int (rI M q4 x3.toNatClampNeg), .int (rI M q7 s0.toNatClampNeg)]) (rest := []) C.1 V_X12_203 (c_X12_often h) ⟨rfl, rfl, Nat.le_of_ble_eq_true rfl, Nat.le_of_ble_eq_true rfl⟩  rfl rfl (Nat.le_of_ble_eq_true rfl) ⟨Nat.zero_le _, Nat.zero_le _⟩ dX12_faultOf_147 (kp_i fun r11 M10 h9 => ?_)
    replace h := h9
    refine k_if_ne C.1 155 dX12_faultOf_150 (by decide) (fun c12 => ?_) (fun c12 => ?_)
    · have h := h.2 c12
      refine k_sub (lv' := [(0, .ref x0), (1, .int x1), (2, .int x2), (3, .int x3), (4, .int x4)]) [1, 2, 3, 4, 5] rfl ?_
      exact b_X12_faultOf_155 C x0 x1 x2 x3 x4 M10 k69 hk69 h
    · have h := h.1 c12
      refine k_iconst (v := 2) C.1 dX12_faultOf_153 (by decide) ?_
      exact k_iret C dX12_faultOf_154 h
set_option maxRecDepth 100000 in
set_option maxHeartbeats 4000000 in
theorem bb_X12_faultOf_69 {X : gh_X} {sh : gh_Sh} {n : Nat} {post : Int32 → gh_M → Prop} (C : gh_CR X cX12_faultOf RX12 6 (some .int) sh n 0 0 (gh_pi post)) (x0 : Nat) (x1 : Int32) (x2 : Int32) (x3 : Int32) (k69 : Int32 → gh_M → Prop) (hk69 : ∀ (y4 : Int32) (M : gh_M), k69 y4 M → gh_G X rm_X12_faultOf 6 0 0 sh n 69 [(0, .ref x0), (1, .int x1), (2, .int x2), (3, .int x3), (4, .int y4)] [] M) (x4 : Int32) (M : gh_M) (h : wb_X12_faultOf_69 sh post x0 x1 x2 x3 k69 x4 M) : gh_G X rm_X12_faultOf 6 0 0 sh n 69 [(0, .ref x0), (1, .int x1), (2, .int x2), (3, .int x3), (4, .int x4)] [] M := by
  unfold wb_X12_faultOf_69 at h
  refine k_iload C.1 4 rfl dX12_faultOf_69 ?_
  refine k_aload_n C.1 0 rfl dX12_faultOf_71 ?_
  obtain ⟨hs1, h⟩ := h
  obtain ⟨q2, hq2, h⟩ := h
  refine k_getR C.1 F_X12_16 dX12_faultOf_72 hs1 hq2 ?_
  refine k_iload_n C.1 1 rfl dX12_faultOf_75 ?_
  obtain ⟨hs3, h⟩ := h
  obtain ⟨hi4, h⟩ := h
  refine k_iald C.1 dX12_faultOf_76 hs3 hi4 ?_
  refine k_icmp_ge C.1 161 dX12_faultOf_77 (by decide) (fun c5 => ?_) (fun c5 => ?_)
  · have h := h.1 c5
    refine k_aload_n C.1 0 rfl dX12_faultOf_161 ?_
    obtain ⟨q6, hq6, h⟩ := h
    refine k_getR C.1 F_X12_13 dX12_faultOf_162 hs1 hq6 ?_
    refine k_iload_n C.1 1 rfl dX12_faultOf_165 ?_
    obtain ⟨hs7, h⟩ := h
    obtain ⟨hi8, h⟩ := h
    refine k_iald C.1 dX12_faultOf_166 hs7 hi8 ?_
    refine k_iconst (v := 2) C.1 dX12_faultOf_167 (by decide) ?_
    refine k_icmp_ne C.1 188 dX12_faultOf_168 (by decide) (fun c9 => ?_) (fun c9 => ?_)
    · have h := h.2 c9
      refine k_iconst (v := 0) C.1 dX12_faultOf_188 (by decide) ?_
      exact k_iret C dX12_faultOf_189 h
    · have h := h.1 c9
      refine k_aload_n C.1 0 rfl dX12_faultOf_171 ?_
      obtain ⟨q10, hq10, h⟩ := h
      refine k_getR C.1 F_X12_43 dX12_faultOf_172 hs1 hq10 ?_
      refine k_iload_n C.1 3 rfl dX12_faultOf_175 ?_
      obtain ⟨hs11, h⟩ := h
      obtain ⟨hi12, h⟩ := h
      refine k_iald C.1 dX12_faultOf_176 hs11 hi12 ?_
      refine k_aload_n C.1 0 rfl dX12_faultOf_177 ?_
      refine k_getI C.1 F_X12_67 dX12_faultOf_178 hs1 ?_
      refine k_icmp_le C.1 188 dX12_faultOf_181 (by decide) (fun c13 => ?_) (fun c13 => ?_)
      · have h := h.1 c13
        refine k_iconst (v := 0) C.1 dX12_faultOf_188 (by decide) ?_
        exact k_iret C dX12_faultOf_189 h
      · have h := h.2 c13
        refine k_iconst (v := 3) C.1 dX12_faultOf_184 (by decide) ?_
        refine k_goto C.1 189 dX12_faultOf_185 (by decide) ?_
        exact k_iret C dX12_faultOf_189 h
  · have h := h.2 c5
    refine k_aload_n C.1 0 rfl dX12_faultOf_80 ?_
    obtain ⟨q14, hq14, h⟩ := h
    refine k_getR C.1 F_X12_19 dX12_faultOf_81 hs1 hq14 ?_
    refine k_bipush (v := 8) C.1 dX12_faultOf_84 (by decide) ?_
    refine k_iload_n C.1 1 rfl dX12_faultOf_86 ?_
    refine k_imul C.1 dX12_faultOf_87 ?_
    refine k_iload C.1 4 rfl dX12_faultOf_88 ?_
    refine k_iadd C.1 dX12_faultOf_90 ?_
    obtain ⟨hs15, h⟩ := h
    obtain ⟨hi16, h⟩ := h
    refine k_iald C.1 dX12_faultOf_91 hs15 hi16 ?_
    refine k_callS (As := [.int (rI M q14 (((8 : Int32) * x1) + x4).toNatClampNeg)]) (rest := []) C.1 V_X12_138 (c_X12_isWord h) ⟨rfl, rfl, Nat.le_of_ble_eq_true rfl, Nat.le_of_ble_eq_true rfl⟩  rfl rfl (Nat.le_of_ble_eq_true rfl) ⟨Nat.zero_le _, Nat.zero_le _⟩ dX12_faultOf_92 (kp_i fun r18 M17 h9 => ?_)
    replace h := h9
    refine k_if_eq C.1 118 dX12_faultOf_95 (by decide) (fun c19 => ?_) (fun c19 => ?_)
    · have h := h.1 c19
      refine k_iconst (v := (-1)) C.1 dX12_faultOf_118 (by decide) ?_
      exact b_X12_faultOf_119 C x0 x1 x2 x3 x4 (-1 : Int32) M17 k69 hk69 h
    · have h := h.2 c19
      refine k_aload_n C.1 0 rfl dX12_faultOf_98 ?_
      refine k_aload_n C.1 0 rfl dX12_faultOf_99 ?_
      obtain ⟨q20, hq20, h⟩ := h
      refine k_getR C.1 F_X12_19 dX12_faultOf_100 hs1 hq20 ?_
      refine k_bipush (v := 8) C.1 dX12_faultOf_103 (by decide) ?_
      refine k_iload_n C.1 1 rfl dX12_faultOf_105 ?_
      refine k_imul C.1 dX12_faultOf_106 ?_
      refine k_iload C.1 4 rfl dX12_faultOf_107 ?_
      refine k_iadd C.1 dX12_faultOf_109 ?_
      obtain ⟨hs21, h⟩ := h
      obtain ⟨hi22, h⟩ := h
      refine k_iald C.1 dX12_faultOf_110 hs21 hi22 ?_
      refine k_iload_n C.1 2 rfl dX12_faultOf_111 ?_
      refine k_callV (As := [.int (rI M17 q20 (((8 : Int32) * x1) + x4).toNatClampNeg), .int x2]) (rest := []) C.1 V_X12_190 (c_X12_termOf h) ⟨rfl, rfl, Nat.le_of_ble_eq_true rfl, Nat.le_of_ble_eq_true rfl⟩ hs1  rfl rfl (Nat.le_of_ble_eq_true rfl) ⟨Nat.zero_le _, Nat.zero_le _⟩ dX12_faultOf_112 (kp_i fun r24 M23 h9 => ?_)
      replace h := h9
      refine k_goto C.1 119 dX12_faultOf_115 (by decide) ?_
      exact b_X12_faultOf_119 C x0 x1 x2 x3 x4 r24 M23 k69 hk69 h
set_option maxRecDepth 100000 in
theorem b_X12_faultOf_69 {X : gh_X} {sh : gh_Sh} {n : Nat} {post : Int32 → gh_M → Prop} (C : gh_CR X cX12_faultOf RX12 6 (some .int) sh n 0 0 (gh_pi post)) (x0 : Nat) (x1 : Int32) (x2 : Int32) (x3 : Int32) (x4 : Int32) (M : gh_M) (h : wp_X12_faultOf_69 sh post x0 x1 x2 x3 x4 M) : gh_G X rm_X12_faultOf 6 0 0 sh n 69 [(0, .ref x0), (1, .int x1), (2, .int x2), (3, .int x3), (4, .int x4)] [] M := by
  unfold wp_X12_faultOf_69 at h
  exact gh_loop_use h (fun v => gh_G X rm_X12_faultOf 6 0 0 sh n 69 [(0, .ref x0), (1, .int x1), (2, .int x2), (3, .int x3), (4, .int v.1)] [] v.2) (fun k v hk hb => bb_X12_faultOf_69 C x0 x1 x2 x3 (fun x4 M => k (x4, M)) (fun x4 M h => hk (x4, M) h) v.1 v.2 hb)
set_option maxRecDepth 100000 in
set_option maxHeartbeats 4000000 in
theorem bb_X12_faultOf_10 {X : gh_X} {sh : gh_Sh} {n : Nat} {post : Int32 → gh_M → Prop} (C : gh_CR X cX12_faultOf RX12 6 (some .int) sh n 0 0 (gh_pi post)) (x0 : Nat) (x1 : Int32) (x2 : Int32) (x3 : Int32) (k10 : Int32 → gh_M → Prop) (hk10 : ∀ (y4 : Int32) (M : gh_M), k10 y4 M → gh_G X rm_X12_faultOf 6 0 0 sh n 10 [(0, .ref x0), (1, .int x1), (2, .int x2), (3, .int x3), (4, .int y4)] [] M) (x4 : Int32) (M : gh_M) (h : wb_X12_faultOf_10 sh post x0 x1 x2 x3 k10 x4 M) : gh_G X rm_X12_faultOf 6 0 0 sh n 10 [(0, .ref x0), (1, .int x1), (2, .int x2), (3, .int x3), (4, .int x4)] [] M := by
  unfold wb_X12_faultOf_10 at h
  refine k_iload C.1 4 rfl dX12_faultOf_10 ?_
  refine k_bipush (v := 104) C.1 dX12_faultOf_12 (by decide) ?_
  refine k_icmp_ge C.1 66 dX12_faultOf_14 (by decide) (fun c1 => ?_) (fun c1 => ?_)
  · have h := h.1 c1
    refine k_iconst (v := 0) C.1 dX12_faultOf_66 (by decide) ?_
    refine k_istore (lv' := [(4, .int (0 : Int32)), (0, .ref x0), (1, .int x1), (2, .int x2), (3, .int x3)]) C.1 dX12_faultOf_67 (by decide) rfl ?_
    refine k_sub (lv' := [(0, .ref x0), (1, .int x1), (2, .int x2), (3, .int x3), (4, .int (0 : Int32))]) [1, 2, 3, 4, 0] rfl ?_
    exact b_X12_faultOf_69 C x0 x1 x2 x3 (0 : Int32) M h
  · have h := h.2 c1
    refine k_aload_n C.1 0 rfl dX12_faultOf_17 ?_
    obtain ⟨hs2, h⟩ := h
    obtain ⟨q3, hq3, h⟩ := h
    refine k_getR C.1 F_X12_46 dX12_faultOf_18 hs2 hq3 ?_
    refine k_bipush (v := 10) C.1 dX12_faultOf_21 (by decide) ?_
    refine k_iload_n C.1 3 rfl dX12_faultOf_23 ?_
    refine k_imul C.1 dX12_faultOf_24 ?_
    refine k_aload_n C.1 0 rfl dX12_faultOf_25 ?_
    obtain ⟨q4, hq4, h⟩ := h
    refine k_getR C.1 F_X12_43 dX12_faultOf_26 hs2 hq4 ?_
    refine k_iload_n C.1 3 rfl dX12_faultOf_29 ?_
    obtain ⟨hs5, h⟩ := h
    obtain ⟨hi6, h⟩ := h
    refine k_iald C.1 dX12_faultOf_30 hs5 hi6 ?_
    refine k_iload C.1 4 rfl dX12_faultOf_31 ?_
    refine k_callS (As := [.ref q3, .int ((10 : Int32) * x3), .int (rI M q4 x3.toNatClampNeg), .int x4]) (rest := []) C.1 V_X12_203 (c_X12_often h) ⟨rfl, rfl, Nat.le_of_ble_eq_true rfl, Nat.le_of_ble_eq_true rfl⟩  rfl rfl (Nat.le_of_ble_eq_true rfl) ⟨Nat.zero_le _, Nat.zero_le _⟩ dX12_faultOf_33 (kp_i fun r8 M7 h9 => ?_)
    replace h := h9
    refine k_aload_n C.1 0 rfl dX12_faultOf_36 ?_
    obtain ⟨q9, hq9, h⟩ := h
    refine k_getR C.1 F_X12_19 dX12_faultOf_37 hs2 hq9 ?_
    refine k_bipush (v := 8) C.1 dX12_faultOf_40 (by decide) ?_
    refine k_iload_n C.1 1 rfl dX12_faultOf_42 ?_
    refine k_imul C.1 dX12_faultOf_43 ?_
    refine k_aload_n C.1 0 rfl dX12_faultOf_44 ?_
    obtain ⟨q10, hq10, h⟩ := h
    refine k_getR C.1 F_X12_16 dX12_faultOf_45 hs2 hq10 ?_
    refine k_iload_n C.1 1 rfl dX12_faultOf_48 ?_
    obtain ⟨hs11, h⟩ := h
    obtain ⟨hi12, h⟩ := h
    refine k_iald C.1 dX12_faultOf_49 hs11 hi12 ?_
    refine k_iload C.1 4 rfl dX12_faultOf_50 ?_
    refine k_callS (As := [.ref q9, .int ((8 : Int32) * x1), .int (rI M7 q10 x1.toNatClampNeg), .int x4]) (rest := [.int r8]) C.1 V_X12_203 (c_X12_often h) ⟨rfl, rfl, Nat.le_of_ble_eq_true rfl, Nat.le_of_ble_eq_true rfl⟩  rfl rfl (Nat.le_of_ble_eq_true rfl) ⟨Nat.zero_le _, Nat.zero_le _⟩ dX12_faultOf_52 (kp_i fun r14 M13 h9 => ?_)
    replace h := h9
    refine k_icmp_eq C.1 60 dX12_faultOf_55 (by decide) (fun c15 => ?_) (fun c15 => ?_)
    · have h := h.1 c15
      refine k_iinc (v := x4 + 1) (lv' := [(4, .int (x4 + 1)), (0, .ref x0), (1, .int x1), (2, .int x2), (3, .int x3)]) C.1 4 rfl dX12_faultOf_60 (by decide) rfl rfl ?_
      refine k_goto C.1 10 dX12_faultOf_63 (by decide) ?_
      refine k_sub (lv' := [(0, .ref x0), (1, .int x1), (2, .int x2), (3, .int x3), (4, .int (x4 + 1))]) [1, 2, 3, 4, 0] rfl ?_
      exact hk10 (x4 + 1) M13 h
    · have h := h.2 c15
      refine k_iconst (v := 1) C.1 dX12_faultOf_58 (by decide) ?_
      exact k_iret C dX12_faultOf_59 h
set_option maxRecDepth 100000 in
theorem b_X12_faultOf_10 {X : gh_X} {sh : gh_Sh} {n : Nat} {post : Int32 → gh_M → Prop} (C : gh_CR X cX12_faultOf RX12 6 (some .int) sh n 0 0 (gh_pi post)) (x0 : Nat) (x1 : Int32) (x2 : Int32) (x3 : Int32) (x4 : Int32) (M : gh_M) (h : wp_X12_faultOf_10 sh post x0 x1 x2 x3 x4 M) : gh_G X rm_X12_faultOf 6 0 0 sh n 10 [(0, .ref x0), (1, .int x1), (2, .int x2), (3, .int x3), (4, .int x4)] [] M := by
  unfold wp_X12_faultOf_10 at h
  exact gh_loop_use h (fun v => gh_G X rm_X12_faultOf 6 0 0 sh n 10 [(0, .ref x0), (1, .int x1), (2, .int x2), (3, .int x3), (4, .int v.1)] [] v.2) (fun k v hk hb => bb_X12_faultOf_10 C x0 x1 x2 x3 (fun x4 M => k (x4, M)) (fun x4 M h => hk (x4, M) h) v.1 v.2 hb)
set_option maxRecDepth 100000 in
set_option maxHeartbeats 4000000 in
theorem c_X12_faultOf {l : Launch} {D : va_G} {dA : Nat → ClassId} {sh : gh_Sh} {b0 n : Nat} {M : gh_M} {x0 : Nat} {x1 : Int32} {x2 : Int32} {post : Int32 → gh_M → Prop} (h : wp_X12_faultOf sh M x0 x1 x2 post) : gh_Met l D dA sh b0 n yX12_faultOf cX12_faultOf 6 (some .int) rm_X12_faultOf M [.ref x0, .int x1, .int x2] (gh_pi post) := by
  refine gh_open (by decide) (Nat.le_of_ble_eq_true rfl) (fun X C => ?_)
  show gh_G X rm_X12_faultOf 6 0 0 sh n 0 [(0, .ref x0), (1, .int x1), (2, .int x2)] [] M
  unfold wp_X12_faultOf at h
  refine k_iconst (v := 3) C.1 dX12_faultOf_0 (by decide) ?_
  refine k_iload_n C.1 1 rfl dX12_faultOf_1 ?_
  refine k_imul C.1 dX12_faultOf_2 ?_
  refine k_iload_n C.1 2 rfl dX12_faultOf_3 ?_
  refine k_iadd C.1 dX12_faultOf_4 ?_
  refine k_istore_n (lv' := [(3, .int (((3 : Int32) * x1) + x2)), (0, .ref x0), (1, .int x1), (2, .int x2)]) C.1 dX12_faultOf_5 (by decide) rfl ?_
  refine k_bipush (v := 100) C.1 dX12_faultOf_6 (by decide) ?_
  refine k_istore (lv' := [(4, .int (100 : Int32)), (3, .int (((3 : Int32) * x1) + x2)), (0, .ref x0), (1, .int x1), (2, .int x2)]) C.1 dX12_faultOf_8 (by decide) rfl ?_
  refine k_sub (lv' := [(0, .ref x0), (1, .int x1), (2, .int x2), (3, .int (((3 : Int32) * x1) + x2)), (4, .int (100 : Int32))]) [2, 3, 4, 1, 0] rfl ?_
  exact b_X12_faultOf_10 C x0 x1 x2 (((3 : Int32) * x1) + x2) (100 : Int32) M h
