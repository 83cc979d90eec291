abbrev rm_X9_put : Room := { frames := 4, cells := 0, slots := 0, locals := 86 }
set_option maxRecDepth 100000 in
set_option maxHeartbeats 4000000 in
theorem b_X9_put_33 {X : gh_X} {sh : gh_Sh} {n : Nat} {post : gh_M → Prop} (C : gh_CR X cX9_put RX9 4 none sh n 0 0 (gh_pv post)) (x0 : Nat) (x1 : Int32) (x2 : Int32) (x3 : Int32) (s0 : Nat) (s1 : Int32) (s2 : Int32) (M : gh_M) (h : wp_X9_put_33 sh post x0 x1 x2 x3 s0 s1 s2 M) : gh_G X rm_X9_put 4 0 0 sh n 33 [(0, .ref x0), (1, .int x1), (2, .int x2), (3, .int x3)] [.int s2, .int s1, .ref s0] M := by
  unfold wp_X9_put_33 at h
  refine k_iadd C.1 dX9_put_33 ?_
  obtain ⟨hs1, h⟩ := h
  refine k_putI C.1 F_X9_16 dX9_put_34 hs1 rfl rfl ?_
  refine k_aload_n C.1 0 rfl dX9_put_37 ?_
  obtain ⟨hs2, h⟩ := h
  obtain ⟨q3, hq3, h⟩ := h
  refine k_getR C.1 F_X9_11 dX9_put_38 hs2 hq3 ?_
  refine k_iload_n C.1 2 rfl dX9_put_41 ?_
  obtain ⟨hs4, h⟩ := h
  obtain ⟨hi5, q6, hq6, h⟩ := h
  refine k_aald (kd := 18) C.1 dX9_put_42 (by decide) (by decide) rfl rfl hs4 hi5 hq6 ?_
  refine k_iload_n C.1 1 rfl dX9_put_43 ?_
  refine k_iload_n C.1 3 rfl dX9_put_44 ?_
  obtain ⟨hs8, h⟩ := h
  obtain ⟨hi7, h⟩ := h
  refine k_iast C.1 dX9_put_45 hs8 hi7 ?_
  exact k_vret C dX9_put_46 h
set_option maxRecDepth 100000 in
set_option maxHeartbeats 4000000 in
theorem c_X9_put {l : Launch} {D : va_G} {dA : Nat → ClassId} {sh : gh_Sh} {b0 n : Nat} {M : gh_M} {x0 : Nat} {x1 : Int32} {x2 : Int32} {x3 : Int32} {post : gh_M → Prop} (h : wp_X9_put sh M x0 x1 x2 x3 post) : gh_Met l D dA sh b0 n yX9_put cX9_put 4 none rm_X9_put M [.ref x0, .int x1, .int x2, .int x3] (gh_pv post) := by
  refine gh_open (by decide) (Nat.le_of_ble_eq_true rfl) (fun X C => ?_)
  show gh_G X rm_X9_put 4 0 0 sh n 0 [(0, .ref x0), (1, .int x1), (2, .int x2), (3, .int x3)] [] M
  unfold wp_X9_put at h
  refine k_iload_n C.1 1 rfl dX9_put_0 ?_
  refine k_callSN (As := [.int x1]) (rest := []) C.1 V_X9_20 (c_X11_isWord h) ⟨rfl, rfl, Nat.le_of_ble_eq_true rfl, Nat.le_of_ble_eq_true rfl⟩  rfl rfl (Nat.le_of_ble_eq_true rfl) ⟨Nat.zero_le _, Nat.zero_le _⟩ dX9_put_1 (kp_i fun r2 M1 h9 => ?_)
  replace h := h9
  refine k_if_eq C.1 46 dX9_put_4 (by decide) (fun c3 => ?_) (fun c3 => ?_)
  · have h := h.1 c3
    exact k_vret C dX9_put_46 h
  · have h := h.2 c3
    refine k_iload_n C.1 2 rfl dX9_put_7 ?_
    refine k_callSN (As := [.int x2]) (rest := []) C.1 V_X9_24 (c_X11_isTongue h) ⟨rfl, rfl, Nat.le_of_ble_eq_true rfl, Nat.le_of_ble_eq_true rfl⟩  rfl rfl (Nat.le_of_ble_eq_true rfl) ⟨Nat.zero_le _, Nat.zero_le _⟩ dX9_put_8 (kp_i fun r5 M4 h9 => ?_)
    replace h := h9
    refine k_if_eq C.1 46 dX9_put_11 (by decide) (fun c6 => ?_) (fun c6 => ?_)
    · have h := h.1 c6
      exact k_vret C dX9_put_46 h
    · have h := h.2 c6
      refine k_aload_n C.1 0 rfl dX9_put_14 ?_
      refine k_dup C.1 dX9_put_15 rfl ?_
      obtain ⟨hs7, h⟩ := h
      refine k_getI C.1 F_X9_16 dX9_put_16 hs7 ?_
      refine k_aload_n C.1 0 rfl dX9_put_19 ?_
      refine k_iload_n C.1 1 rfl dX9_put_20 ?_
      refine k_iload_n C.1 2 rfl dX9_put_21 ?_
      refine k_callV (As := [.int x1, .int x2]) (rest := [.int (rI M4 x0 1), .ref x0]) C.1 V_X9_31 (c_X9_has h) ⟨rfl, rfl, Nat.le_of_ble_eq_true rfl, Nat.le_of_ble_eq_true rfl⟩ hs7  rfl rfl (Nat.le_of_ble_eq_true rfl) ⟨Nat.zero_le _, Nat.zero_le _⟩ dX9_put_22 (kp_i fun r9 M8 h9 => ?_)
      replace h := h9
      refine k_if_eq C.1 32 dX9_put_25 (by decide) (fun c10 => ?_) (fun c10 => ?_)
      · have h := h.1 c10
        refine k_iconst (v := 1) C.1 dX9_put_32 (by decide) ?_
        exact b_X9_put_33 C x0 x1 x2 x3 x0 (rI M4 x0 1) (1 : Int32) M8 h
      · have h := h.2 c10
        refine k_iconst (v := 0) C.1 dX9_put_28 (by decide) ?_
        refine k_goto C.1 33 dX9_put_29 (by decide) ?_
        exact b_X9_put_33 C x0 x1 x2 x3 x0 (rI M4 x0 1) (0 : Int32) M8 h
abbrev rm_X9_remove : Room := { frames := 4, cells := 0, slots := 0, locals := 86 }
set_option maxRecDepth 100000 in
set_option maxHeartbeats 4000000 in
theorem c_X9_remove {l : Launch} {D : va_G} {dA : Nat → ClassId} {sh : gh_Sh} {b0 n : Nat} {M : gh_M} {x0 : Nat} {x1 : Int32} {x2 : Int32} {post : gh_M → Prop} (h : wp_X9_remove sh M x0 x1 x2 post) : gh_Met l D dA sh b0 n yX9_remove cX9_remove 3 none rm_X9_remove M [.ref x0, .int x1, .int x2] (gh_pv post) := by
  refine gh_open (by decide) (Nat.le_of_ble_eq_true rfl) (fun X C => ?_)
  show gh_G X rm_X9_remove 3 0 0 sh n 0 [(0, .ref x0), (1, .int x1), (2, .int x2)] [] M
  unfold wp_X9_remove at h
  refine k_aload_n C.1 0 rfl dX9_remove_0 ?_
  refine k_iload_n C.1 1 rfl dX9_remove_1 ?_
  refine k_iload_n C.1 2 rfl dX9_remove_2 ?_
  obtain ⟨hs1, h⟩ := h
  refine k_callV (As := [.int x1, .int x2]) (rest := []) C.1 V_X9_31 (c_X9_has h) ⟨rfl, rfl, Nat.le_of_ble_eq_true rfl, Nat.le_of_ble_eq_true rfl⟩ hs1  rfl rfl (Nat.le_of_ble_eq_true rfl) ⟨Nat.zero_le _, Nat.zero_le _⟩ dX9_remove_3 (kp_i fun r3 M2 h9 => ?_)
  replace h := h9
  refine k_if_eq C.1 28 dX9_remove_6 (by decide) (fun c4 => ?_) (fun c4 => ?_)
  · have h := h.1 c4
    exact k_vret C dX9_remove_28 h
  · have h := h.2 c4
    refine k_aload_n C.1 0 rfl dX9_remove_9 ?_
    obtain ⟨q5, hq5, h⟩ := h
    refine k_getR C.1 F_X9_11 dX9_remove_10 hs1 hq5 ?_
    refine k_iload_n C.1 2 rfl dX9_remove_13 ?_
    obtain ⟨hs6, h⟩ := h
    obtain ⟨hi7, q8, hq8, h⟩ := h
    refine k_aald (kd := 18) C.1 dX9_remove_14 (by decide) (by decide) rfl rfl hs6 hi7 hq8 ?_
    refine k_iload_n C.1 1 rfl dX9_remove_15 ?_
    refine k_iconst (v := 0) C.1 dX9_remove_16 (by decide) ?_
    obtain ⟨hs10, h⟩ := h
    obtain ⟨hi9, h⟩ := h
    refine k_iast C.1 dX9_remove_17 hs10 hi9 ?_
    refine k_aload_n C.1 0 rfl dX9_remove_18 ?_
    refine k_dup C.1 dX9_remove_19 rfl ?_
    refine k_getI C.1 F_X9_16 dX9_remove_20 hs1 ?_
    refine k_iconst (v := 1) C.1 dX9_remove_23 (by decide) ?_
    refine k_isub C.1 dX9_remove_24 ?_
    refine k_putI C.1 F_X9_16 dX9_remove_25 hs1 rfl rfl ?_
    exact k_vret C dX9_remove_28 h
abbrev rm_X10_writer : Room := { frames := 0, cells := 0, slots := 0, locals := 0 }
set_option maxRecDepth 100000 in
set_option maxHeartbeats 4000000 in
theorem c_X10_writer {l : Launch} {D : va_G} {dA : Nat → ClassId} {sh : gh_Sh} {b0 n : Nat} {M : gh_M} {x0 : Nat} {post : Int32 → gh_M → Prop} (h : wp_X10_writer sh M x0 post) : gh_Met l D dA sh b0 n yX10_writer cX10_writer 1 (some .int) rm_X10_writer M [.ref x0] (gh_pi post) := by
  refine gh_open (by decide) (Nat.le_of_ble_eq_true rfl) (fun X C => ?_)
  show gh_G X rm_X10_writer 1 0 0 sh n 0 [(0, .ref x0)] [] M
  unfold wp_X10_writer at h
  refine k_aload_n C.1 0 rfl dX10_writer_0 ?_
  obtain ⟨hs1, h⟩ := h
  refine k_getI C.1 F_X10_22 dX10_writer_1 hs1 ?_
  exact k_iret C dX10_writer_4 h
abbrev rm_X10_waitsForReview : Room := { frames := 0, cells := 0, slots := 0, locals := 0 }
set_option maxRecDepth 100000 in
set_option maxHeartbeats 4000000 in
theorem b_X10_waitsForReview_16 {X : gh_X} {sh : gh_Sh} {n : Nat} {post : Int32 → gh_M → Prop} (C : gh_CR X cX10_waitsForReview RX10 1 (some .boolean) sh n 0 0 (gh_pi post)) (M : gh_M) (h : wp_X10_waitsForReview_16 sh post M) : gh_G X rm_X10_waitsForReview 1 0 0 sh n 16 [] [] M := by
  unfold wp_X10_waitsForReview_16 at h
  refine k_iconst (v := 1) C.1 dX10_waitsForReview_16 (by decide) ?_
  refine k_goto C.1 21 dX10_waitsForReview_17 (by decide) ?_
  exact k_zret C dX10_waitsForReview_21 (Or.inr rfl) h
set_option maxRecDepth 100000 in
set_option maxHeartbeats 4000000 in
theorem c_X10_waitsForReview {l : Launch} {D : va_G} {dA : Nat → ClassId} {sh : gh_Sh} {b0 n : Nat} {M : gh_M} {x0 : Nat} {post : Int32 → gh_M → Prop} (h : wp_X10_waitsForReview sh M x0 post) : gh_Met l D dA sh b0 n yX10_waitsForReview cX10_waitsForReview 1 (some .boolean) rm_X10_waitsForReview M [.ref x0] (gh_pi post) := by
  refine gh_open (by decide) (Nat.le_of_ble_eq_true rfl) (fun X C => ?_)
  show gh_G X rm_X10_waitsForReview 1 0 0 sh n 0 [(0, .ref x0)] [] M
  unfold wp_X10_waitsForReview at h
  refine k_aload_n C.1 0 rfl dX10_waitsForReview_0 ?_
  obtain ⟨hs1, h⟩ := h
  refine k_getI C.1 F_X10_18 dX10_waitsForReview_1 hs1 ?_
  refine k_iconst (v := 1) C.1 dX10_waitsForReview_4 (by decide) ?_
  refine k_icmp_eq C.1 16 dX10_waitsForReview_5 (by decide) (fun c2 => ?_) (fun c2 => ?_)
  · have h := h.1 c2
    refine k_sub (lv' := []) [] rfl ?_
    exact b_X10_waitsForReview_16 C M h
  · have h := h.2 c2
    refine k_aload_n C.1 0 rfl dX10_waitsForReview_8 ?_
    refine k_getI C.1 F_X10_18 dX10_waitsForReview_9 hs1 ?_
    refine k_iconst (v := 3) C.1 dX10_waitsForReview_12 (by decide) ?_
    refine k_icmp_ne C.1 20 dX10_waitsForReview_13 (by decide) (fun c3 => ?_) (fun c3 => ?_)
    · have h := h.2 c3
      refine k_iconst (v := 0) C.1 dX10_waitsForReview_20 (by decide) ?_
      exact k_zret C dX10_waitsForReview_21 (Or.inl rfl) h
    · have h := h.1 c3
      refine k_sub (lv' := []) [] rfl ?_
      exact b_X10_waitsForReview_16 C M h
abbrev rm_X10_becomeDraft : Room := { frames := 1, cells := 0, slots := 0, locals := 22 }
set_option maxRecDepth 100000 in
set_option maxHeartbeats 4000000 in
theorem c_X10_becomeDraft {l : Launch} {D : va_G} {dA : Nat → ClassId} {sh : gh_Sh} {b0 n : Nat} {M : gh_M} {x0 : Nat} {x1 : Nat} {x2 : Int32} {post : gh_M → Prop} (h : wp_X10_becomeDraft sh M x0 x1 x2 post) : gh_Met l D dA sh b0 n yX10_becomeDraft cX10_becomeDraft 3 none rm_X10_becomeDraft M [.ref x0, .ref x1, .int x2] (gh_pv post) := by
  refine gh_open (by decide) (Nat.le_of_ble_eq_true rfl) (fun X C => ?_)
  show gh_G X rm_X10_becomeDraft 3 0 0 sh n 0 [(0, .ref x0), (1, .ref x1), (2, .int x2)] [] M
  unfold wp_X10_becomeDraft at h
  refine k_aload_n C.1 0 rfl dX10_becomeDraft_0 ?_
  obtain ⟨hs1, h⟩ := h
  obtain ⟨q2, hq2, h⟩ := h
  refine k_getR C.1 F_X10_12 dX10_becomeDraft_1 hs1 hq2 ?_
  refine k_aload_n C.1 1 rfl dX10_becomeDraft_4 ?_
  obtain ⟨hs3, h⟩ := h
  refine k_callV (As := [.ref x1]) (rest := []) C.1 V_X10_25 (c_X7_copy h) ⟨rfl, rfl, Nat.le_of_ble_eq_true rfl, Nat.le_of_ble_eq_true rfl⟩ hs3  rfl rfl (Nat.le_of_ble_eq_true rfl) ⟨Nat.zero_le _, Nat.zero_le _⟩ dX10_becomeDraft_5 (kp_v fun M4 h9 => ?_)
  replace h := h9
  refine k_aload_n C.1 0 rfl dX10_becomeDraft_8 ?_
  refine k_iload_n C.1 2 rfl dX10_becomeDraft_9 ?_
  refine k_putI C.1 F_X10_22 dX10_becomeDraft_10 hs1 rfl rfl ?_
  refine k_aload_n C.1 0 rfl dX10_becomeDraft_13 ?_
  refine k_iconst (v := 1) C.1 dX10_becomeDraft_14 (by decide) ?_
  refine k_putI C.1 F_X10_18 dX10_becomeDraft_15 hs1 rfl rfl ?_
  exact k_vret C dX10_becomeDraft_18 h
abbrev rm_X10_becomeReviewed : Room := { frames := 0, cells := 0, slots := 0, locals := 0 }
set_option maxRecDepth 100000 in
set_option maxHeartbeats 4000000 in
theorem c_X10_becomeReviewed {l : Launch} {D : va_G} {dA : Nat → ClassId} {sh : gh_Sh} {b0 n : Nat} {M : gh_M} {x0 : Nat} {post : gh_M → Prop} (h : wp_X10_becomeReviewed sh M x0 post) : gh_Met l D dA sh b0 n yX10_becomeReviewed cX10_becomeReviewed 1 none rm_X10_becomeReviewed M [.ref x0] (gh_pv post) := by
  refine gh_open (by decide) (Nat.le_of_ble_eq_true rfl) (fun X C => ?_)
  show gh_G X rm_X10_becomeReviewed 1 0 0 sh n 0 [(0, .ref x0)] [] M
  unfold wp_X10_becomeReviewed at h
  refine k_aload_n C.1 0 rfl dX10_becomeReviewed_0 ?_
  refine k_iconst (v := 2) C.1 dX10_becomeReviewed_1 (by decide) ?_
  obtain ⟨hs1, h⟩ := h
  refine k_putI C.1 F_X10_18 dX10_becomeReviewed_2 hs1 rfl rfl ?_
  exact k_vret C dX10_becomeReviewed_5 h
abbrev rm_X11_isOwnWord : Room := { frames := 1, cells := 0, slots := 0, locals := 22 }
set_option maxRecDepth 100000 in
set_option maxHeartbeats 4000000 in
theorem c_X11_isOwnWord {l : Launch} {D : va_G} {dA : Nat → ClassId} {sh : gh_Sh} {b0 n : Nat} {M : gh_M} {x0 : Int32} {post : Int32 → gh_M → Prop} (h : wp_X11_isOwnWord sh M x0 post) : gh_Met l D dA sh b0 n yX11_isOwnWord cX11_isOwnWord 1 (some .boolean) rm_X11_isOwnWord M [.int x0] (gh_pi post) := by
  refine gh_open (by decide) (Nat.le_of_ble_eq_true rfl) (fun X C => ?_)
  show gh_G X rm_X11_isOwnWord 1 0 0 sh n 0 [(0, .int x0)] [] M
  unfold wp_X11_isOwnWord at h
  refine k_iload_n C.1 0 rfl dX11_isOwnWord_0 ?_
  refine k_sipush (v := 200) C.1 dX11_isOwnWord_1 (by decide) ?_
  refine k_sipush (v := 299) C.1 dX11_isOwnWord_4 (by decide) ?_
  refine k_callS (As := [.int x0, .int (200 : Int32), .int (299 : Int32)]) (rest := []) C.1 V_X11_101 (c_X11_isIn h) ⟨rfl, rfl, Nat.le_of_ble_eq_true rfl, Nat.le_of_ble_eq_true rfl⟩  rfl rfl (Nat.le_of_ble_eq_true rfl) ⟨Nat.zero_le _, Nat.zero_le _⟩ dX11_isOwnWord_7 (kp_i fun r2 M1 h9 => ?_)
  replace h := h9
  exact k_zret C dX11_isOwnWord_10 h.1 h.2
abbrev rm_X11_isSign : Room := { frames := 2, cells := 0, slots := 0, locals := 42 }
set_option maxRecDepth 100000 in
set_option maxHeartbeats 4000000 in
theorem b_X11_isSign_25 {X : gh_X} {sh : gh_Sh} {n : Nat} {post : Int32 → gh_M → Prop} (C : gh_CR X cX11_isSign RX11 1 (some .boolean) sh n 0 0 (gh_pi post)) (M : gh_M) (h : wp_X11_isSign_25 sh post M) : gh_G X rm_X11_isSign 1 0 0 sh n 25 [] [] M := by
  unfold wp_X11_isSign_25 at h
  refine k_iconst (v := 1) C.1 dX11_isSign_25 (by decide) ?_
  refine k_goto C.1 30 dX11_isSign_26 (by decide) ?_
  exact k_zret C dX11_isSign_30 (Or.inr rfl) h
set_option maxRecDepth 100000 in
set_option maxHeartbeats 4000000 in
theorem c_X11_isSign {l : Launch} {D : va_G} {dA : Nat → ClassId} {sh : gh_Sh} {b0 n : Nat} {M : gh_M} {x0 : Int32} {post : Int32 → gh_M → Prop} (h : wp_X11_isSign sh M x0 post) : gh_Met l D dA sh b0 n yX11_isSign cX11_isSign 1 (some .boolean) rm_X11_isSign M [.int x0] (gh_pi post) := by
  refine gh_open (by decide) (Nat.le_of_ble_eq_true rfl) (fun X C => ?_)
  show gh_G X rm_X11_isSign 1 0 0 sh n 0 [(0, .int x0)] [] M
  unfold wp_X11_isSign at h
  refine k_iload_n C.1 0 rfl dX11_isSign_0 ?_
  refine k_callS (As := [.int x0]) (rest := []) C.1 V_X11_171 (c_X11_isWord h) ⟨rfl, rfl, Nat.le_of_ble_eq_true rfl, Nat.le_of_ble_eq_true rfl⟩  rfl rfl (Nat.le_of_ble_eq_true rfl) ⟨Nat.zero_le _, Nat.zero_le _⟩ dX11_isSign_1 (kp_i fun r2 M1 h9 => ?_)
  replace h := h9
  refine k_if_ne C.1 25 dX11_isSign_4 (by decide) (fun c3 => ?_) (fun c3 => ?_)
  · have h := h.2 c3
    refine k_sub (lv' := []) [] rfl ?_
    exact b_X11_isSign_25 C M1 h
  · have h := h.1 c3
    refine k_iload_n C.1 0 rfl dX11_isSign_7 ?_
    refine k_callS (As := [.int x0]) (rest := []) C.1 V_X11_177 (c_X11_isOwnWord h) ⟨rfl, rfl, Nat.le_of_ble_eq_true rfl, Nat.le_of_ble_eq_true rfl⟩  rfl rfl (Nat.le_of_ble_eq_true rfl) ⟨Nat.zero_le _, Nat.zero_le _⟩ dX11_isSign_8 (kp_i fun r5 M4 h9 => ?_)
    replace h := h9
    refine k_if_ne C.1 25 dX11_isSign_11 (by decide) (fun c6 => ?_) (fun c6 => ?_)
    · have h := h.2 c6
      refine k_sub (lv' := []) [] rfl ?_
      exact b_X11_isSign_25 C M4 h
    · have h := h.1 c6
      refine k_iload_n C.1 0 rfl dX11_isSign_14 ?_
      refine k_bipush (v := 100) C.1 dX11_isSign_15 (by decide) ?_
      refine k_bipush (v := 103) C.1 dX11_isSign_17 (by decide) ?_
      refine k_callS (As := [.int x0, .int (100 : Int32), .int (103 : Int32)]) (rest := []) C.1 V_X11_101 (c_X11_isIn h) ⟨rfl, rfl, Nat.le_of_ble_eq_true rfl, Nat.le_of_ble_eq_true rfl⟩  rfl rfl (Nat.le_of_ble_eq_true rfl) ⟨Nat.zero_le _, Nat.zero_le _⟩ dX11_isSign_19 (kp_i fun r8 M7 h9 => ?_)
      replace h := h9
      refine k_if_eq C.1 29 dX11_isSign_22 (by decide) (fun c9 => ?_) (fun c9 => ?_)
      · have h := h.1 c9
        refine k_iconst (v := 0) C.1 dX11_isSign_29 (by decide) ?_
        exact k_zret C dX11_isSign_30 (Or.inl rfl) h
      · have h := h.2 c9
        refine k_sub (lv' := []) [] rfl ?_
        exact b_X11_isSign_25 C M7 h
abbrev rm_X11_sign : Room := { frames := 3, cells := 0, slots := 0, locals := 62 }
set_option maxRecDepth 100000 in
set_option maxHeartbeats 4000000 in
theorem c_X11_sign {l : Launch} {D : va_G} {dA : Nat → ClassId} {sh : gh_Sh} {b0 n : Nat} {M : gh_M} {x0 : Nat} {x1 : Int32} {post : Int32 → gh_M → Prop} (h : wp_X11_sign sh M x0 x1 post) : gh_Met l D dA sh b0 n yX11_sign cX11_sign 2 (some .int) rm_X11_sign M [.ref x0, .int x1] (gh_pi post) := by
  refine gh_open (by decide) (Nat.le_of_ble_eq_true rfl) (fun X C => ?_)
  show gh_G X rm_X11_sign 2 0 0 sh n 0 [(0, .ref x0), (1, .int x1)] [] M
  unfold wp_X11_sign at h
  refine k_iload_n C.1 1 rfl dX11_sign_0 ?_
  refine k_callS (As := [.int x1]) (rest := []) C.1 V_X11_82 (c_X11_isSign h) ⟨rfl, rfl, Nat.le_of_ble_eq_true rfl, Nat.le_of_ble_eq_true rfl⟩  rfl rfl (Nat.le_of_ble_eq_true rfl) ⟨Nat.zero_le _, Nat.zero_le _⟩ dX11_sign_1 (kp_i fun r2 M1 h9 => ?_)
  replace h := h9
  refine k_if_ne C.1 9 dX11_sign_4 (by decide) (fun c3 => ?_) (fun c3 => ?_)
  · have h := h.2 c3
    refine k_aload_n C.1 0 rfl dX11_sign_9 ?_
    obtain ⟨hs4, h⟩ := h
    obtain ⟨q5, hq5, h⟩ := h
    refine k_getR C.1 F_X11_12 dX11_sign_10 hs4 hq5 ?_
    obtain ⟨hs6, h⟩ := h
    refine k_callV (As := []) (rest := []) C.1 V_X11_86 (c_X7_isFull h) ⟨rfl, rfl, Nat.le_of_ble_eq_true rfl, Nat.le_of_ble_eq_true rfl⟩ hs6  rfl rfl (Nat.le_of_ble_eq_true rfl) ⟨Nat.zero_le _, Nat.zero_le _⟩ dX11_sign_13 (kp_i fun r8 M7 h9 => ?_)
    replace h := h9
    refine k_if_eq C.1 22 dX11_sign_16 (by decide) (fun c9 => ?_) (fun c9 => ?_)
    · have h := h.1 c9
      refine k_aload_n C.1 0 rfl dX11_sign_22 ?_
      obtain ⟨q10, hq10, h⟩ := h
      refine k_getR C.1 F_X11_12 dX11_sign_23 hs4 hq10 ?_
      refine k_iload_n C.1 1 rfl dX11_sign_26 ?_
      obtain ⟨hs11, h⟩ := h
      refine k_callV (As := [.int x1]) (rest := []) C.1 V_X11_90 (c_X7_add h) ⟨rfl, rfl, Nat.le_of_ble_eq_true rfl, Nat.le_of_ble_eq_true rfl⟩ hs11  rfl rfl (Nat.le_of_ble_eq_true rfl) ⟨Nat.zero_le _, Nat.zero_le _⟩ dX11_sign_27 (kp_v fun M12 h9 => ?_)
      replace h := h9
      refine k_aload_n C.1 0 rfl dX11_sign_30 ?_
      obtain ⟨q13, hq13, h⟩ := h
      refine k_getR C.1 F_X11_12 dX11_sign_31 hs4 hq13 ?_
      obtain ⟨hs14, h⟩ := h
      refine k_callV (As := []) (rest := []) C.1 V_X11_94 (c_X7_size h) ⟨rfl, rfl, Nat.le_of_ble_eq_true rfl, Nat.le_of_ble_eq_true rfl⟩ hs14  rfl rfl (Nat.le_of_ble_eq_true rfl) ⟨Nat.zero_le _, Nat.zero_le _⟩ dX11_sign_34 (kp_i fun r16 M15 h9 => ?_)
      replace h := h9
      exact k_iret C dX11_sign_37 h
    · have h := h.2 c9
      refine k_bipush (v := (-2)) C.1 dX11_sign_19 (by decide) ?_
      exact k_iret C dX11_sign_21 h
  · have h := h.1 c3
    refine k_iconst (v := (-1)) C.1 dX11_sign_7 (by decide) ?_
    exact k_iret C dX11_sign_8 h
abbrev rm_X11_scrap : Room := { frames := 1, cells := 0, slots := 0, locals := 20 }
set_option maxRecDepth 100000 in
set_option maxHeartbeats 4000000 in
theorem c_X11_scrap {l : Launch} {D : va_G} {dA : Nat → ClassId} {sh : gh_Sh} {b0 n : Nat} {M : gh_M} {x0 : Nat} {post : Int32 → gh_M → Prop} (h : wp_X11_scrap sh M x0 post) : gh_Met l D dA sh b0 n yX11_scrap cX11_scrap 2 (some .int) rm_X11_scrap M [.ref x0] (gh_pi post) := by
  refine gh_open (by decide) (Nat.le_of_ble_eq_true rfl) (fun X C => ?_)
  show gh_G X rm_X11_scrap 2 0 0 sh n 0 [(0, .ref x0)] [] M
  unfold wp_X11_scrap at h
  refine k_aload_n C.1 0 rfl dX11_scrap_0 ?_
  obtain ⟨hs1, h⟩ := h
  obtain ⟨q2, hq2, h⟩ := h
  refine k_getR C.1 F_X11_12 dX11_scrap_1 hs1 hq2 ?_
  obtain ⟨hs3, h⟩ := h
  refine k_callV (As := []) (rest := []) C.1 V_X11_94 (c_X7_size h) ⟨rfl, rfl, Nat.le_of_ble_eq_true rfl, Nat.le_of_ble_eq_true rfl⟩ hs3  rfl rfl (Nat.le_of_ble_eq_true rfl) ⟨Nat.zero_le _, Nat.zero_le _⟩ dX11_scrap_4 (kp_i fun r5 M4 h9 => ?_)
  replace h := h9
  refine k_istore_n (lv' := [(1, .int r5), (0, .ref x0)]) C.1 dX11_scrap_7 (by decide) rfl ?_
  refine k_aload_n C.1 1 rfl dX11_scrap_8 ?_
  obtain ⟨q6, hq6, h⟩ := h
  refine k_getR C.1 F_X11_12 dX11_scrap_9 hs1 hq6 ?_
  obtain ⟨hs7, h⟩ := h
  refine k_callV (As := []) (rest := []) C.1 V_X11_98 (c_X7_clear h) ⟨rfl, rfl, Nat.le_of_ble_eq_true rfl, Nat.le_of_ble_eq_true rfl⟩ hs7  rfl rfl (Nat.le_of_ble_eq_true rfl) ⟨Nat.zero_le _, Nat.zero_le _⟩ dX11_scrap_12 (kp_v fun M8 h9 => ?_)
  replace h := h9
  refine k_iload_n C.1 0 rfl dX11_scrap_15 ?_
  exact k_iret C dX11_scrap_16 h
abbrev rm_X11_piece : Room := { frames := 4, cells := 0, slots := 0, locals := 85 }
set_option maxRecDepth 100000 in
set_option maxHeartbeats 4000000 in
theorem c_X11_piece {l : Launch} {D : va_G} {dA : Nat → ClassId} {sh : gh_Sh} {b0 n : Nat} {M : gh_M} {x0 : Nat} {x1 : Int32} {post : Int32 → gh_M → Prop} (h : wp_X11_piece sh M x0 x1 post) : gh_Met l D dA sh b0 n yX11_piece cX11_piece 2 (some .int) rm_X11_piece M [.ref x0, .int x1] (gh_pi post) := by
  refine gh_open (by decide) (Nat.le_of_ble_eq_true rfl) (fun X C => ?_)
  show gh_G X rm_X11_piece 2 0 0 sh n 0 [(0, .ref x0), (1, .int x1)] [] M
  unfold wp_X11_piece at h
  refine k_iload_n C.1 1 rfl dX11_piece_0 ?_
  refine k_iconst (v := 0) C.1 dX11_piece_1 (by decide) ?_
  refine k_iconst (v := 2) C.1 dX11_piece_2 (by decide) ?_
  refine k_callS (As := [.int x1, .int (0 : Int32), .int (2 : Int32)]) (rest := []) C.1 V_X11_101 (c_X11_isIn h) ⟨rfl, rfl, Nat.le_of_ble_eq_true rfl, Nat.le_of_ble_eq_true rfl⟩  rfl rfl (Nat.le_of_ble_eq_true rfl) ⟨Nat.zero_le _, Nat.zero_le _⟩ dX11_piece_3 (kp_i fun r2 M1 h9 => ?_)
  replace h := h9
  refine k_if_ne C.1 11 dX11_piece_6 (by decide) (fun c3 => ?_) (fun c3 => ?_)
  · have h := h.2 c3
    refine k_aload_n C.1 0 rfl dX11_piece_11 ?_
    obtain ⟨hs4, h⟩ := h
    obtain ⟨q5, hq5, h⟩ := h
    refine k_getR C.1 F_X11_12 dX11_piece_12 hs4 hq5 ?_
    obtain ⟨hs6, h⟩ := h
    refine k_callV (As := []) (rest := []) C.1 V_X11_94 (c_X7_size h) ⟨rfl, rfl, Nat.le_of_ble_eq_true rfl, Nat.le_of_ble_eq_true rfl⟩ hs6  rfl rfl (Nat.le_of_ble_eq_true rfl) ⟨Nat.zero_le _, Nat.zero_le _⟩ dX11_piece_15 (kp_i fun r8 M7 h9 => ?_)
    replace h := h9
    refine k_iconst (v := 1) C.1 dX11_piece_18 (by decide) ?_
    refine k_bipush (v := 8) C.1 dX11_piece_19 (by decide) ?_
    refine k_callS (As := [.int r8, .int (1 : Int32), .int (8 : Int32)]) (rest := []) C.1 V_X11_101 (c_X11_isIn h) ⟨rfl, rfl, Nat.le_of_ble_eq_true rfl, Nat.le_of_ble_eq_true rfl⟩  rfl rfl (Nat.le_of_ble_eq_true rfl) ⟨Nat.zero_le _, Nat.zero_le _⟩ dX11_piece_21 (kp_i fun r10 M9 h9 => ?_)
    replace h := h9
    refine k_if_ne C.1 30 dX11_piece_24 (by decide) (fun c11 => ?_) (fun c11 => ?_)
    · have h := h.2 c11
      refine k_aload_n C.1 0 rfl dX11_piece_30 ?_
      obtain ⟨q12, hq12, h⟩ := h
      refine k_getR C.1 F_X11_12 dX11_piece_31 hs4 hq12 ?_
      refine k_sipush (v := 200) C.1 dX11_piece_34 (by decide) ?_
      refine k_bipush (v := 100) C.1 dX11_piece_37 (by decide) ?_
      obtain ⟨hs13, h⟩ := h
      refine k_callV (As := [.int (200 : Int32), .int (100 : Int32)]) (rest := []) C.1 V_X11_105 (c_X7_holdsAny h) ⟨rfl, rfl, Nat.le_of_ble_eq_true rfl, Nat.le_of_ble_eq_true rfl⟩ hs13  rfl rfl (Nat.le_of_ble_eq_true rfl) ⟨Nat.zero_le _, Nat.zero_le _⟩ dX11_piece_39 (kp_i fun r15 M14 h9 => ?_)
      replace h := h9
      refine k_if_eq C.1 48 dX11_piece_42 (by decide) (fun c16 => ?_) (fun c16 => ?_)
      · have h := h.1 c16
        refine k_aload_n C.1 0 rfl dX11_piece_48 ?_
        obtain ⟨q17, hq17, h⟩ := h
        refine k_getR C.1 F_X11_71 dX11_piece_49 hs4 hq17 ?_
        obtain ⟨hs18, h⟩ := h
        refine k_callV (As := []) (rest := []) C.1 V_X11_109 (c_X0_isFull h) ⟨rfl, rfl, Nat.le_of_ble_eq_true rfl, Nat.le_of_ble_eq_true rfl⟩ hs18  rfl rfl (Nat.le_of_ble_eq_true rfl) ⟨Nat.zero_le _, Nat.zero_le _⟩ dX11_piece_52 (kp_i fun r20 M19 h9 => ?_)
        replace h := h9
        refine k_if_eq C.1 61 dX11_piece_55 (by decide) (fun c21 => ?_) (fun c21 => ?_)
        · have h := h.1 c21
          refine k_aload_n C.1 0 rfl dX11_piece_61 ?_
          obtain ⟨q22, hq22, h⟩ := h
          refine k_getR C.1 F_X11_71 dX11_piece_62 hs4 hq22 ?_
          refine k_iload_n C.1 1 rfl dX11_piece_65 ?_
          refine k_aload_n C.1 0 rfl dX11_piece_66 ?_
          obtain ⟨q23, hq23, h⟩ := h
          refine k_getR C.1 F_X11_12 dX11_piece_67 hs4 hq23 ?_
          obtain ⟨hs24, h⟩ := h
          refine k_callV (As := [.int x1, .ref q23]) (rest := []) C.1 V_X11_110 (c_X0_add h) ⟨rfl, rfl, Nat.le_of_ble_eq_true rfl, Nat.le_of_ble_eq_true rfl⟩ hs24  rfl rfl (Nat.le_of_ble_eq_true rfl) ⟨Nat.zero_le _, Nat.zero_le _⟩ dX11_piece_70 (kp_v fun M25 h9 => ?_)
          replace h := h9
          refine k_aload_n C.1 0 rfl dX11_piece_73 ?_
          obtain ⟨q26, hq26, h⟩ := h
          refine k_getR C.1 F_X11_12 dX11_piece_74 hs4 hq26 ?_
          obtain ⟨hs27, h⟩ := h
          refine k_callV (As := []) (rest := []) C.1 V_X11_98 (c_X7_clear h) ⟨rfl, rfl, Nat.le_of_ble_eq_true rfl, Nat.le_of_ble_eq_true rfl⟩ hs27  rfl rfl (Nat.le_of_ble_eq_true rfl) ⟨Nat.zero_le _, Nat.zero_le _⟩ dX11_piece_77 (kp_v fun M28 h9 => ?_)
          replace h := h9
          refine k_aload_n C.1 0 rfl dX11_piece_80 ?_
          obtain ⟨q29, hq29, h⟩ := h
          refine k_getR C.1 F_X11_71 dX11_piece_81 hs4 hq29 ?_
          obtain ⟨hs30, h⟩ := h
          refine k_callV (As := []) (rest := []) C.1 V_X11_113 (c_X0_count h) ⟨rfl, rfl, Nat.le_of_ble_eq_true rfl, Nat.le_of_ble_eq_true rfl⟩ hs30  rfl rfl (Nat.le_of_ble_eq_true rfl) ⟨Nat.zero_le _, Nat.zero_le _⟩ dX11_piece_84 (kp_i fun r32 M31 h9 => ?_)
          replace h := h9
          refine k_iconst (v := 1) C.1 dX11_piece_87 (by decide) ?_
          refine k_isub C.1 dX11_piece_88 ?_
          exact k_iret C dX11_piece_89 h
        · have h := h.2 c21
          refine k_bipush (v := (-2)) C.1 dX11_piece_58 (by decide) ?_
          exact k_iret C dX11_piece_60 h
      · have h := h.2 c16
        refine k_bipush (v := (-3)) C.1 dX11_piece_45 (by decide) ?_
        exact k_iret C dX11_piece_47 h
    · have h := h.1 c11
      refine k_bipush (v := (-6)) C.1 dX11_piece_27 (by decide) ?_
      exact k_iret C dX11_piece_29 h
  · have h := h.1 c3
    refine k_iconst (v := (-1)) C.1 dX11_piece_9 (by decide) ?_
    exact k_iret C dX11_piece_10 h
abbrev rm_X11_drop : Room := { frames := 1, cells := 0, slots := 0, locals := 20 }
set_option maxRecDepth 100000 in
set_option maxHeartbeats 4000000 in
theorem c_X11_drop {l : Launch} {D : va_G} {dA : Nat → ClassId} {sh : gh_Sh} {b0 n : Nat} {M : gh_M} {x0 : Nat} {post : Int32 → gh_M → Prop} (h : wp_X11_drop sh M x0 post) : gh_Met l D dA sh b0 n yX11_drop cX11_drop 2 (some .int) rm_X11_drop M [.ref x0] (gh_pi post) := by
  refine gh_open (by decide) (Nat.le_of_ble_eq_true rfl) (fun X C => ?_)
  show gh_G X rm_X11_drop 2 0 0 sh n 0 [(0, .ref x0)] [] M
  unfold wp_X11_drop at h
  refine k_aload_n C.1 0 rfl dX11_drop_0 ?_
  obtain ⟨hs1, h⟩ := h
  obtain ⟨q2, hq2, h⟩ := h
  refine k_getR C.1 F_X11_71 dX11_drop_1 hs1 hq2 ?_
  obtain ⟨hs3, h⟩ := h
  refine k_callV (As := []) (rest := []) C.1 V_X11_113 (c_X0_count h) ⟨rfl, rfl, Nat.le_of_ble_eq_true rfl, Nat.le_of_ble_eq_true rfl⟩ hs3  rfl rfl (Nat.le_of_ble_eq_true rfl) ⟨Nat.zero_le _, Nat.zero_le _⟩ dX11_drop_4 (kp_i fun r5 M4 h9 => ?_)
  replace h := h9
  refine k_istore_n (lv' := [(1, .int r5), (0, .ref x0)]) C.1 dX11_drop_7 (by decide) rfl ?_
  refine k_aload_n C.1 1 rfl dX11_drop_8 ?_
  obtain ⟨q6, hq6, h⟩ := h
  refine k_getR C.1 F_X11_71 dX11_drop_9 hs1 hq6 ?_
  obtain ⟨hs7, h⟩ := h
  refine k_callV (As := []) (rest := []) C.1 V_X11_116 (c_X0_clear h) ⟨rfl, rfl, Nat.le_of_ble_eq_true rfl, Nat.le_of_ble_eq_true rfl⟩ hs7  rfl rfl (Nat.le_of_ble_eq_true rfl) ⟨Nat.zero_le _, Nat.zero_le _⟩ dX11_drop_12 (kp_v fun M8 h9 => ?_)
  replace h := h9
  refine k_iload_n C.1 0 rfl dX11_drop_15 ?_
  exact k_iret C dX11_drop_16 h
abbrev rm_X11_takeOver : Room := { frames := 3, cells := 0, slots := 0, locals := 67 }
set_option maxRecDepth 100000 in
set_option maxHeartbeats 4000000 in
theorem c_X11_takeOver {l : Launch} {D : va_G} {dA : Nat → ClassId} {sh : gh_Sh} {b0 n : Nat} {M : gh_M} {x0 : Nat} {x1 : Nat} {x2 : Int32} {post : gh_M → Prop} (h : wp_X11_takeOver sh M x0 x1 x2 post) : gh_Met l D dA sh b0 n yX11_takeOver cX11_takeOver 4 none rm_X11_takeOver M [.ref x0, .ref x1, .int x2] (gh_pv post) := by
  refine gh_open (by decide) (Nat.le_of_ble_eq_true rfl) (fun X C => ?_)
  show gh_G X rm_X11_takeOver 4 0 0 sh n 0 [(0, .ref x0), (1, .ref x1), (2, .int x2)] [] M
  unfold wp_X11_takeOver at h
  refine k_aload_n C.1 0 rfl dX11_takeOver_0 ?_
  obtain ⟨hs1, h⟩ := h
  obtain ⟨q2, hq2, h⟩ := h
  refine k_getR C.1 F_X11_68 dX11_takeOver_1 hs1 hq2 ?_
  refine k_iload_n C.1 2 rfl dX11_takeOver_4 ?_
  obtain ⟨hs3, h⟩ := h
  refine k_callV (As := [.int x2]) (rest := []) C.1 V_X11_121 (c_X0_at h) ⟨rfl, rfl, Nat.le_of_ble_eq_true rfl, Nat.le_of_ble_eq_true rfl⟩ hs3  rfl rfl (Nat.le_of_ble_eq_true rfl) ⟨Nat.zero_le _, Nat.zero_le _⟩ dX11_takeOver_5 (kp_q fun r5 M4 h9 => ?_)
  replace h := h9
  refine k_astore_nq (lv' := [(3, va_rf r5), (0, .ref x0), (1, .ref x1), (2, .int x2)]) C.1 dX11_takeOver_8 (by decide) rfl ?_
  refine k_aload_n C.1 2 rfl dX11_takeOver_9 ?_
  refine k_ifnullR C.1 dX11_takeOver_10 ?_
  refine k_aload_nq C.1 0 rfl dX11_takeOver_13 ?_
  refine k_ifnull C.1 38 dX11_takeOver_14 (by decide) (fun e => ?_) (fun a6 e => ?_)
  · replace h := h.1 e
    subst e
    exact k_vret C dX11_takeOver_38 h
  · replace h := h.2 a6 e
    subst e
    refine k_aload_n C.1 2 rfl dX11_takeOver_17 ?_
    refine k_aload_n C.1 0 rfl dX11_takeOver_18 ?_
    refine k_iload_n C.1 3 rfl dX11_takeOver_19 ?_
    refine k_aload_n C.1 1 rfl dX11_takeOver_20 ?_
    obtain ⟨q7, hq7, h⟩ := h
    refine k_getR C.1 F_X11_19 dX11_takeOver_21 hs1 hq7 ?_
    refine k_aload_n C.1 2 rfl dX11_takeOver_24 ?_
    obtain ⟨hs8, h⟩ := h
    refine k_callV (As := []) (rest := [.ref q7, .int x2, .ref a6, .ref x1]) C.1 V_X11_138 (c_X5_signs h) ⟨rfl, rfl, Nat.le_of_ble_eq_true rfl, Nat.le_of_ble_eq_true rfl⟩ hs8  rfl rfl (Nat.le_of_ble_eq_true rfl) ⟨Nat.zero_le _, Nat.zero_le _⟩ dX11_takeOver_25 (kp_n fun r10 M9 h9 => ?_)
    replace h := h9
    refine k_aload_n C.1 0 rfl dX11_takeOver_28 ?_
    obtain ⟨hs11, h⟩ := h
    refine k_callV (As := []) (rest := [.ref r10, .ref q7, .int x2, .ref a6, .ref x1]) C.1 V_X11_138 (c_X5_signs h) ⟨rfl, rfl, Nat.le_of_ble_eq_true rfl, Nat.le_of_ble_eq_true rfl⟩ hs11  rfl rfl (Nat.le_of_ble_eq_true rfl) ⟨Nat.zero_le _, Nat.zero_le _⟩ dX11_takeOver_29 (kp_n fun r13 M12 h9 => ?_)
    replace h := h9
    obtain ⟨hs14, h⟩ := h
    refine k_callV (As := [.ref r10, .ref r13]) (rest := [.int x2, .ref a6, .ref x1]) C.1 V_X11_146 (c_X8_between h) ⟨rfl, rfl, Nat.le_of_ble_eq_true rfl, Nat.le_of_ble_eq_true rfl⟩ hs14  rfl rfl (Nat.le_of_ble_eq_true rfl) ⟨Nat.zero_le _, Nat.zero_le _⟩ dX11_takeOver_32 (kp_i fun r16 M15 h9 => ?_)
    replace h := h9
    refine k_callV (As := [.ref a6, .int x2, .int r16]) (rest := []) C.1 V_X11_290 (c_X5_follow h) ⟨rfl, rfl, Nat.le_of_ble_eq_true rfl, Nat.le_of_ble_eq_true rfl⟩ hs8  rfl rfl (Nat.le_of_ble_eq_true rfl) ⟨Nat.zero_le _, Nat.zero_le _⟩ dX11_takeOver_35 (kp_v fun M17 h9 => ?_)
    replace h := h9
    exact k_vret C dX11_takeOver_38 h
abbrev rm_X11_turn : Room := { frames := 4, cells := 0, slots := 0, locals := 105 }
set_option maxRecDepth 100000 in
set_option maxHeartbeats 4000000 in
theorem bb_X11_turn_35 {X : gh_X} {sh : gh_Sh} {n : Nat} {post : Int32 → gh_M → Prop} (C : gh_CR X cX11_turn RX11 3 (some .int) sh n 0 0 (gh_pi post)) (x0 : Nat) (x1 : Int32) (k35 : Int32 → gh_M → Prop) (hk35 : ∀ (y2 : Int32) (M : gh_M), k35 y2 M → gh_G X rm_X11_turn 3 0 0 sh n 35 [(0, .ref x0), (1, .int x1), (2, .int y2)] [] M) (x2 : Int32) (M : gh_M) (h : wb_X11_turn_35 sh post x0 x1 k35 x2 M) : gh_G X rm_X11_turn 3 0 0 sh n 35 [(0, .ref x0), (1, .int x1), (2, .int x2)] [] M := by
  unfold wb_X11_turn_35 at h
  refine k_iload_n C.1 2 rfl dX11_turn_35 ?_
  refine k_aload_n C.1 0 rfl dX11_turn_36 ?_
  obtain ⟨hs1, h⟩ := h
  obtain ⟨q2, hq2, h⟩ := h
  refine k_getR C.1 F_X11_71 dX11_turn_37 hs1 hq2 ?_
  obtain ⟨hs3, h⟩ := h
  refine k_callV (As := []) (rest := [.int x2]) C.1 V_X11_113 (c_X0_count h) ⟨rfl, rfl, Nat.le_of_ble_eq_true rfl, Nat.le_of_ble_eq_true rfl⟩ hs3  rfl rfl (Nat.le_of_ble_eq_true rfl) ⟨Nat.zero_le _, Nat.zero_le _⟩ dX11_turn_40 (kp_i fun r5 M4 h9 => ?_)
  replace h := h9
  refine k_icmp_ge C.1 72 dX11_turn_43 (by decide) (fun c6 => ?_) (fun c6 => ?_)
  · have h := h.1 c6
    refine k_aload_n C.1 0 rfl dX11_turn_72 ?_
    obtain ⟨q7, hq7, h⟩ := h
    refine k_getR C.1 F_X11_68 dX11_turn_73 hs1 hq7 ?_
    refine k_astore_n (lv' := [(2, .ref q7), (0, .ref x0), (1, .int x1)]) C.1 dX11_turn_76 (by decide) rfl ?_
    refine k_aload_n C.1 1 rfl dX11_turn_77 ?_
    refine k_aload_n C.1 1 rfl dX11_turn_78 ?_
    obtain ⟨q8, hq8, h⟩ := h
    refine k_getR C.1 F_X11_71 dX11_turn_79 hs1 hq8 ?_
    refine k_putR C.1 F_X11_68 dX11_turn_82 hs1 rfl rfl ?_
    refine k_aload_n C.1 1 rfl dX11_turn_85 ?_
    refine k_aload_n C.1 0 rfl dX11_turn_86 ?_
    refine k_putR C.1 F_X11_71 dX11_turn_87 hs1 rfl rfl ?_
    refine k_aload_n C.1 1 rfl dX11_turn_90 ?_
    obtain ⟨q9, hq9, h⟩ := h
    refine k_getR C.1 F_X11_71 dX11_turn_91 hs1 hq9 ?_
    obtain ⟨hs10, h⟩ := h
    refine k_callV (As := []) (rest := []) C.1 V_X11_116 (c_X0_clear h) ⟨rfl, rfl, Nat.le_of_ble_eq_true rfl, Nat.le_of_ble_eq_true rfl⟩ hs10  rfl rfl (Nat.le_of_ble_eq_true rfl) ⟨Nat.zero_le _, Nat.zero_le _⟩ dX11_turn_94 (kp_v fun M11 h9 => ?_)
    replace h := h9
    refine k_iload_n C.1 2 rfl dX11_turn_97 ?_
    exact k_iret C dX11_turn_98 h
  · have h := h.2 c6
    refine k_aload_n C.1 0 rfl dX11_turn_46 ?_
    refine k_aload_n C.1 0 rfl dX11_turn_47 ?_
    obtain ⟨q12, hq12, h⟩ := h
    refine k_getR C.1 F_X11_71 dX11_turn_48 hs1 hq12 ?_
    refine k_iload_n C.1 2 rfl dX11_turn_51 ?_
    obtain ⟨hs13, h⟩ := h
    refine k_callV (As := [.int x2]) (rest := [.ref x0]) C.1 V_X11_121 (c_X0_at h) ⟨rfl, rfl, Nat.le_of_ble_eq_true rfl, Nat.le_of_ble_eq_true rfl⟩ hs13  rfl rfl (Nat.le_of_ble_eq_true rfl) ⟨Nat.zero_le _, Nat.zero_le _⟩ dX11_turn_52 (kp_q fun r15 M14 h9 => ?_)
    replace h := h9
    refine k_aload_n C.1 0 rfl dX11_turn_55 ?_
    obtain ⟨q16, hq16, h⟩ := h
    refine k_getR C.1 F_X11_26 dX11_turn_56 hs1 hq16 ?_
    refine k_iload_n C.1 2 rfl dX11_turn_59 ?_
    obtain ⟨hs17, h⟩ := h
    refine k_callV (As := [.int x2]) (rest := [va_rf r15, .ref x0]) C.1 V_X11_125 (c_X3_givenTo h) ⟨rfl, rfl, Nat.le_of_ble_eq_true rfl, Nat.le_of_ble_eq_true rfl⟩ hs17  rfl rfl (by simp [va_rf_cat, cat_ref, cat_int, cat_long]) ⟨Nat.zero_le _, Nat.zero_le _⟩ dX11_turn_60 (kp_i fun r19 M18 h9 => ?_)
    replace h := h9
    obtain ⟨a20, e, h⟩ := h
    subst e
    refine k_callV (As := [.ref a20, .int r19]) (rest := []) C.1 V_X11_129 (c_X11_takeOver h) ⟨rfl, rfl, Nat.le_of_ble_eq_true rfl, Nat.le_of_ble_eq_true rfl⟩ hs1  rfl rfl (Nat.le_of_ble_eq_true rfl) ⟨Nat.zero_le _, Nat.zero_le _⟩ dX11_turn_63 (kp_v fun M21 h9 => ?_)
    replace h := h9
    refine k_iinc (v := x2 + 1) (lv' := [(2, .int (x2 + 1)), (0, .ref x0), (1, .int x1)]) C.1 2 rfl dX11_turn_66 (by decide) rfl rfl ?_
    refine k_goto C.1 35 dX11_turn_69 (by decide) ?_
    refine k_sub (lv' := [(0, .ref x0), (1, .int x1), (2, .int (x2 + 1))]) [1, 2, 0] rfl ?_
    exact hk35 (x2 + 1) M21 h
set_option maxRecDepth 100000 in
theorem b_X11_turn_35 {X : gh_X} {sh : gh_Sh} {n : Nat} {post : Int32 → gh_M → Prop} (C : gh_CR X cX11_turn RX11 3 (some .int) sh n 0 0 (gh_pi post)) (x0 : Nat) (x1 : Int32) (x2 : Int32) (M : gh_M) (h : wp_X11_turn_35 sh post x0 x1 x2 M) : gh_G X rm_X11_turn 3 0 0 sh n 35 [(0, .ref x0), (1, .int x1), (2, .int x2)] [] M := by
  unfold wp_X11_turn_35 at h
  exact gh_loop_use h (fun v => gh_G X rm_X11_turn 3 0 0 sh n 35 [(0, .ref x0), (1, .int x1), (2, .int v.1)] [] v.2) (fun k v hk hb => bb_X11_turn_35 C x0 x1 (fun x2 M => k (x2, M)) (fun x2 M h => hk (x2, M) h) v.1 v.2 hb)
set_option maxRecDepth 100000 in
set_option maxHeartbeats 4000000 in
theorem c_X11_turn {l : Launch} {D : va_G} {dA : Nat → ClassId} {sh : gh_Sh} {b0 n : Nat} {M : gh_M} {x0 : Nat} {post : Int32 → gh_M → Prop} (h : wp_X11_turn sh M x0 post) : gh_Met l D dA sh b0 n yX11_turn cX11_turn 3 (some .int) rm_X11_turn M [.ref x0] (gh_pi post) := by
  refine gh_open (by decide) (Nat.le_of_ble_eq_true rfl) (fun X C => ?_)
  show gh_G X rm_X11_turn 3 0 0 sh n 0 [(0, .ref x0)] [] M
  unfold wp_X11_turn at h
  refine k_aload_n C.1 0 rfl dX11_turn_0 ?_
  obtain ⟨hs1, h⟩ := h
  obtain ⟨q2, hq2, h⟩ := h
  refine k_getR C.1 F_X11_71 dX11_turn_1 hs1 hq2 ?_
  obtain ⟨hs3, h⟩ := h
  refine k_callV (As := []) (rest := []) C.1 V_X11_113 (c_X0_count h) ⟨rfl, rfl, Nat.le_of_ble_eq_true rfl, Nat.le_of_ble_eq_true rfl⟩ hs3  rfl rfl (Nat.le_of_ble_eq_true rfl) ⟨Nat.zero_le _, Nat.zero_le _⟩ dX11_turn_4 (kp_i fun r5 M4 h9 => ?_)
  replace h := h9
  refine k_if_ne C.1 13 dX11_turn_7 (by decide) (fun c6 => ?_) (fun c6 => ?_)
  · have h := h.2 c6
    refine k_aload_n C.1 0 rfl dX11_turn_13 ?_
    obtain ⟨q7, hq7, h⟩ := h
    refine k_getR C.1 F_X11_26 dX11_turn_14 hs1 hq7 ?_
    refine k_aload_n C.1 0 rfl dX11_turn_17 ?_
    obtain ⟨q8, hq8, h⟩ := h
    refine k_getR C.1 F_X11_68 dX11_turn_18 hs1 hq8 ?_
    refine k_aload_n C.1 0 rfl dX11_turn_21 ?_
    obtain ⟨q9, hq9, h⟩ := h
    refine k_getR C.1 F_X11_71 dX11_turn_22 hs1 hq9 ?_
    refine k_aload_n C.1 0 rfl dX11_turn_25 ?_
    obtain ⟨q10, hq10, h⟩ := h
    refine k_getR C.1 F_X11_19 dX11_turn_26 hs1 hq10 ?_
    obtain ⟨hs11, h⟩ := h
    refine k_callV (As := [.ref q8, .ref q9, .ref q10]) (rest := []) C.1 V_X11_117 (c_X3_match h) ⟨rfl, rfl, Nat.le_of_ble_eq_true rfl, Nat.le_of_ble_eq_true rfl⟩ hs11  rfl rfl (Nat.le_of_ble_eq_true rfl) ⟨Nat.zero_le _, Nat.zero_le _⟩ dX11_turn_29 (kp_i fun r13 M12 h9 => ?_)
    replace h := h9
    refine k_istore_n (lv' := [(1, .int r13), (0, .ref x0)]) C.1 dX11_turn_32 (by decide) rfl ?_
    refine k_iconst (v := 0) C.1 dX11_turn_33 (by decide) ?_
    refine k_istore_n (lv' := [(2, .int (0 : Int32)), (1, .int r13), (0, .ref x0)]) C.1 dX11_turn_34 (by decide) rfl ?_
    refine k_sub (lv' := [(0, .ref x0), (1, .int r13), (2, .int (0 : Int32))]) [2, 1, 0] rfl ?_
    exact b_X11_turn_35 C x0 r13 (0 : Int32) M12 h
  · have h := h.1 c6
    refine k_bipush (v := (-5)) C.1 dX11_turn_10 (by decide) ?_
    exact k_iret C dX11_turn_12 h
abbrev rm_X11_of : Room := { frames := 2, cells := 0, slots := 0, locals := 43 }
set_option maxRecDepth 100000 in
set_option maxHeartbeats 4000000 in
theorem c_X11_of {l : Launch} {D : va_G} {dA : Nat → ClassId} {sh : gh_Sh} {b0 n : Nat} {M : gh_M} {x0 : Nat} {x1 : Int32} {x2 : Int32} {post : Int32 → gh_M → Prop} (h : wp_X11_of sh M x0 x1 x2 post) : gh_Met l D dA sh b0 n yX11_of cX11_of 4 (some .int) rm_X11_of M [.ref x0, .int x1, .int x2] (gh_pi post) := by
  refine gh_open (by decide) (Nat.le_of_ble_eq_true rfl) (fun X C => ?_)
  show gh_G X rm_X11_of 4 0 0 sh n 0 [(0, .ref x0), (1, .int x1), (2, .int x2)] [] M
  unfold wp_X11_of at h
  refine k_aload_n C.1 0 rfl dX11_of_0 ?_
  obtain ⟨hs1, h⟩ := h
  obtain ⟨q2, hq2, h⟩ := h
  refine k_getR C.1 F_X11_68 dX11_of_1 hs1 hq2 ?_
  refine k_iload_n C.1 1 rfl dX11_of_4 ?_
  obtain ⟨hs3, h⟩ := h
  refine k_callV (As := [.int x1]) (rest := []) C.1 V_X11_121 (c_X0_at h) ⟨rfl, rfl, Nat.le_of_ble_eq_true rfl, Nat.le_of_ble_eq_true rfl⟩ hs3  rfl rfl (Nat.le_of_ble_eq_true rfl) ⟨Nat.zero_le _, Nat.zero_le _⟩ dX11_of_5 (kp_q fun r5 M4 h9 => ?_)
  replace h := h9
  refine k_astore_nq (lv' := [(3, va_rf r5), (0, .ref x0), (1, .int x1), (2, .int x2)]) C.1 dX11_of_8 (by decide) rfl ?_
  refine k_aload_nq C.1 0 rfl dX11_of_9 ?_
  refine k_ifnonnull C.1 15 dX11_of_10 (by decide) (fun a6 e => ?_) (fun e => ?_)
  · replace h := h.2 a6 e
    subst e
    refine k_iload_n C.1 3 rfl dX11_of_15 ?_
    refine k_if_ne C.1 24 dX11_of_16 (by decide) (fun c7 => ?_) (fun c7 => ?_)
    · have h := h.2 c7
      refine k_iload_n C.1 3 rfl dX11_of_24 ?_
      refine k_iconst (v := 1) C.1 dX11_of_25 (by decide) ?_
      refine k_icmp_ne C.1 39 dX11_of_26 (by decide) (fun c8 => ?_) (fun c8 => ?_)
      · have h := h.2 c8
        refine k_aload_n C.1 0 rfl dX11_of_39 ?_
        obtain ⟨hs9, h⟩ := h
        refine k_callV (As := []) (rest := []) C.1 V_X11_138 (c_X5_signs h) ⟨rfl, rfl, Nat.le_of_ble_eq_true rfl, Nat.le_of_ble_eq_true rfl⟩ hs9  rfl rfl (Nat.le_of_ble_eq_true rfl) ⟨Nat.zero_le _, Nat.zero_le _⟩ dX11_of_40 (kp_n fun r11 M10 h9 => ?_)
        replace h := h9
        refine k_iload_n C.1 3 rfl dX11_of_43 ?_
        refine k_bipush (v := 10) C.1 dX11_of_44 (by decide) ?_
        obtain ⟨hs12, h⟩ := h
        refine k_callV (As := [.int x2, .int (10 : Int32)]) (rest := []) C.1 V_X11_142 (c_X7_askedFor h) ⟨rfl, rfl, Nat.le_of_ble_eq_true rfl, Nat.le_of_ble_eq_true rfl⟩ hs12  rfl rfl (Nat.le_of_ble_eq_true rfl) ⟨Nat.zero_le _, Nat.zero_le _⟩ dX11_of_46 (kp_i fun r14 M13 h9 => ?_)
        replace h := h9
        exact k_iret C dX11_of_49 h
      · have h := h.1 c8
        refine k_aload_n C.1 0 rfl dX11_of_29 ?_
        obtain ⟨hs15, h⟩ := h
        refine k_callV (As := []) (rest := []) C.1 V_X11_138 (c_X5_signs h) ⟨rfl, rfl, Nat.le_of_ble_eq_true rfl, Nat.le_of_ble_eq_true rfl⟩ hs15  rfl rfl (Nat.le_of_ble_eq_true rfl) ⟨Nat.zero_le _, Nat.zero_le _⟩ dX11_of_30 (kp_n fun r17 M16 h9 => ?_)
        replace h := h9
        obtain ⟨hs18, h⟩ := h
        refine k_callV (As := []) (rest := []) C.1 V_X11_94 (c_X7_size h) ⟨rfl, rfl, Nat.le_of_ble_eq_true rfl, Nat.le_of_ble_eq_true rfl⟩ hs18  rfl rfl (Nat.le_of_ble_eq_true rfl) ⟨Nat.zero_le _, Nat.zero_le _⟩ dX11_of_33 (kp_i fun r20 M19 h9 => ?_)
        replace h := h9
        refine k_goto C.1 49 dX11_of_36 (by decide) ?_
        exact k_iret C dX11_of_49 h
    · have h := h.1 c7
      refine k_aload_n C.1 0 rfl dX11_of_19 ?_
      obtain ⟨hs21, h⟩ := h
      refine k_callV (As := []) (rest := []) C.1 V_X11_133 (c_X5_kind h) ⟨rfl, rfl, Nat.le_of_ble_eq_true rfl, Nat.le_of_ble_eq_true rfl⟩ hs21  rfl rfl (Nat.le_of_ble_eq_true rfl) ⟨Nat.zero_le _, Nat.zero_le _⟩ dX11_of_20 (kp_i fun r23 M22 h9 => ?_)
      replace h := h9
      exact k_iret C dX11_of_23 h
  · replace h := h.1 e
    subst e
    refine k_iconst (v := (-1)) C.1 dX11_of_13 (by decide) ?_
    exact k_iret C dX11_of_14 h
abbrev rm_X11_far : Room := { frames := 2, cells := 0, slots := 0, locals := 51 }
set_option maxRecDepth 100000 in
set_option maxHeartbeats 4000000 in
theorem c_X11_far {l : Launch} {D : va_G} {dA : Nat → ClassId} {sh : gh_Sh} {b0 n : Nat} {M : gh_M} {x0 : Nat} {x1 : Int32} {x2 : Int32} {post : Int32 → gh_M → Prop} (h : wp_X11_far sh M x0 x1 x2 post) : gh_Met l D dA sh b0 n yX11_far cX11_far 5 (some .int) rm_X11_far M [.ref x0, .int x1, .int x2] (gh_pi post) := by
  refine gh_open (by decide) (Nat.le_of_ble_eq_true rfl) (fun X C => ?_)
  show gh_G X rm_X11_far 5 0 0 sh n 0 [(0, .ref x0), (1, .int x1), (2, .int x2)] [] M
  unfold wp_X11_far at h
  refine k_aload_n C.1 0 rfl dX11_far_0 ?_
  obtain ⟨hs1, h⟩ := h
  obtain ⟨q2, hq2, h⟩ := h
  refine k_getR C.1 F_X11_68 dX11_far_1 hs1 hq2 ?_
  refine k_iload_n C.1 1 rfl dX11_far_4 ?_
  obtain ⟨hs3, h⟩ := h
  refine k_callV (As := [.int x1]) (rest := []) C.1 V_X11_121 (c_X0_at h) ⟨rfl, rfl, Nat.le_of_ble_eq_true rfl, Nat.le_of_ble_eq_true rfl⟩ hs3  rfl rfl (Nat.le_of_ble_eq_true rfl) ⟨Nat.zero_le _, Nat.zero_le _⟩ dX11_far_5 (kp_q fun r5 M4 h9 => ?_)
  replace h := h9
  refine k_astore_nq (lv' := [(3, va_rf r5), (0, .ref x0), (1, .int x1), (2, .int x2)]) C.1 dX11_far_8 (by decide) rfl ?_
  refine k_aload_n C.1 1 rfl dX11_far_9 ?_
  obtain ⟨q6, hq6, h⟩ := h
  refine k_getR C.1 F_X11_68 dX11_far_10 hs1 hq6 ?_
  refine k_iload_n C.1 3 rfl dX11_far_13 ?_
  obtain ⟨hs7, h⟩ := h
  refine k_callV (As := [.int x2]) (rest := []) C.1 V_X11_121 (c_X0_at h) ⟨rfl, rfl, Nat.le_of_ble_eq_true rfl, Nat.le_of_ble_eq_true rfl⟩ hs7  rfl rfl (Nat.le_of_ble_eq_true rfl) ⟨Nat.zero_le _, Nat.zero_le _⟩ dX11_far_14 (kp_q fun r9 M8 h9 => ?_)
  replace h := h9
  refine k_astoreq (lv' := [(4, va_rf r9), (3, va_rf r5), (0, .ref x0), (1, .int x1), (2, .int x2)]) C.1 dX11_far_17 (by decide) (by simp [gh_st, va_rf_cat, cat_ref, cat_int]) ?_
  refine k_aload_nq C.1 1 rfl dX11_far_19 ?_
  refine k_ifnull C.1 28 dX11_far_20 (by decide) (fun e => ?_) (fun a10 e => ?_)
  · replace h := h.1 e
    subst e
    refine k_iconst (v := (-1)) C.1 dX11_far_28 (by decide) ?_
    exact k_iret C dX11_far_29 h
  · replace h := h.2 a10 e
    subst e
    refine k_aloadq C.1 0 rfl dX11_far_23 ?_
    refine k_ifnonnull C.1 30 dX11_far_25 (by decide) (fun a11 e => ?_) (fun e => ?_)
    · replace h := h.2 a11 e
      subst e
      refine k_aload_n C.1 2 rfl dX11_far_30 ?_
      obtain ⟨q12, hq12, h⟩ := h
      refine k_getR C.1 F_X11_19 dX11_far_31 hs1 hq12 ?_
      refine k_aload_n C.1 1 rfl dX11_far_34 ?_
      obtain ⟨hs13, h⟩ := h
      refine k_callV (As := []) (rest := [.ref q12]) C.1 V_X11_138 (c_X5_signs h) ⟨rfl, rfl, Nat.le_of_ble_eq_true rfl, Nat.le_of_ble_eq_true rfl⟩ hs13  rfl rfl (Nat.le_of_ble_eq_true rfl) ⟨Nat.zero_le _, Nat.zero_le _⟩ dX11_far_35 (kp_n fun r15 M14 h9 => ?_)
      replace h := h9
      refine k_aload C.1 0 rfl dX11_far_38 ?_
      obtain ⟨hs16, h⟩ := h
      refine k_callV (As := []) (rest := [.ref r15, .ref q12]) C.1 V_X11_138 (c_X5_signs h) ⟨rfl, rfl, Nat.le_of_ble_eq_true rfl, Nat.le_of_ble_eq_true rfl⟩ hs16  rfl rfl (Nat.le_of_ble_eq_true rfl) ⟨Nat.zero_le _, Nat.zero_le _⟩ dX11_far_40 (kp_n fun r18 M17 h9 => ?_)
      replace h := h9
      obtain ⟨hs19, h⟩ := h
      refine k_callV (As := [.ref r15, .ref r18]) (rest := []) C.1 V_X11_146 (c_X8_between h) ⟨rfl, rfl, Nat.le_of_ble_eq_true rfl, Nat.le_of_ble_eq_true rfl⟩ hs19  rfl rfl (Nat.le_of_ble_eq_true rfl) ⟨Nat.zero_le _, Nat.zero_le _⟩ dX11_far_43 (kp_i fun r21 M20 h9 => ?_)
      replace h := h9
      exact k_iret C dX11_far_46 h
    · replace h := h.1 e
      subst e
      refine k_iconst (v := (-1)) C.1 dX11_far_28 (by decide) ?_
      exact k_iret C dX11_far_29 h
abbrev rm_X11_from : Room := { frames := 1, cells := 0, slots := 0, locals := 21 }
set_option maxRecDepth 100000 in
set_option maxHeartbeats 4000000 in
theorem c_X11_from {l : Launch} {D : va_G} {dA : Nat → ClassId} {sh : gh_Sh} {b0 n : Nat} {M : gh_M} {x0 : Nat} {x1 : Int32} {post : Int32 → gh_M → Prop} (h : wp_X11_from sh M x0 x1 post) : gh_Met l D dA sh b0 n yX11_from cX11_from 3 (some .int) rm_X11_from M [.ref x0, .int x1] (gh_pi post) := by
  refine gh_open (by decide) (Nat.le_of_ble_eq_true rfl) (fun X C => ?_)
  show gh_G X rm_X11_from 3 0 0 sh n 0 [(0, .ref x0), (1, .int x1)] [] M
  unfold wp_X11_from at h
  refine k_aload_n C.1 0 rfl dX11_from_0 ?_
  obtain ⟨hs1, h⟩ := h
  obtain ⟨q2, hq2, h⟩ := h
  refine k_getR C.1 F_X11_68 dX11_from_1 hs1 hq2 ?_
  refine k_iload_n C.1 1 rfl dX11_from_4 ?_
  obtain ⟨hs3, h⟩ := h
  refine k_callV (As := [.int x1]) (rest := []) C.1 V_X11_121 (c_X0_at h) ⟨rfl, rfl, Nat.le_of_ble_eq_true rfl, Nat.le_of_ble_eq_true rfl⟩ hs3  rfl rfl (Nat.le_of_ble_eq_true rfl) ⟨Nat.zero_le _, Nat.zero_le _⟩ dX11_from_5 (kp_q fun r5 M4 h9 => ?_)
  replace h := h9
  refine k_astore_nq (lv' := [(2, va_rf r5), (0, .ref x0), (1, .int x1)]) C.1 dX11_from_8 (by decide) rfl ?_
  refine k_aload_nq C.1 0 rfl dX11_from_9 ?_
  refine k_ifnonnull C.1 17 dX11_from_10 (by decide) (fun a6 e => ?_) (fun e => ?_)
  · replace h := h.2 a6 e
    subst e
    refine k_aload_n C.1 0 rfl dX11_from_17 ?_
    obtain ⟨hs7, h⟩ := h
    refine k_callV (As := []) (rest := []) C.1 V_X11_150 (c_X5_given h) ⟨rfl, rfl, Nat.le_of_ble_eq_true rfl, Nat.le_of_ble_eq_true rfl⟩ hs7  rfl rfl (Nat.le_of_ble_eq_true rfl) ⟨Nat.zero_le _, Nat.zero_le _⟩ dX11_from_18 (kp_i fun r9 M8 h9 => ?_)
    replace h := h9
    exact k_iret C dX11_from_21 h
  · replace h := h.1 e
    subst e
    refine k_iconst (v := (-1)) C.1 dX11_from_13 (by decide) ?_
    refine k_goto C.1 21 dX11_from_14 (by decide) ?_
    exact k_iret C dX11_from_21 h
abbrev rm_X11_story : Room := { frames := 1, cells := 0, slots := 0, locals := 21 }
set_option maxRecDepth 100000 in
set_option maxHeartbeats 4000000 in
theorem c_X11_story {l : Launch} {D : va_G} {dA : Nat → ClassId} {sh : gh_Sh} {b0 n : Nat} {M : gh_M} {x0 : Nat} {x1 : Int32} {post : Int32 → gh_M → Prop} (h : wp_X11_story sh M x0 x1 post) : gh_Met l D dA sh b0 n yX11_story cX11_story 3 (some .int) rm_X11_story M [.ref x0, .int x1] (gh_pi post) := by
  refine gh_open (by decide) (Nat.le_of_ble_eq_true rfl) (fun X C => ?_)
  show gh_G X rm_X11_story 3 0 0 sh n 0 [(0, .ref x0), (1, .int x1)] [] M
  unfold wp_X11_story at h
  refine k_aload_n C.1 0 rfl dX11_story_0 ?_
  obtain ⟨hs1, h⟩ := h
  obtain ⟨q2, hq2, h⟩ := h
  refine k_getR C.1 F_X11_68 dX11_story_1 hs1 hq2 ?_
  refine k_iload_n C.1 1 rfl dX11_story_4 ?_
  obtain ⟨hs3, h⟩ := h
  refine k_callV (As := [.int x1]) (rest := []) C.1 V_X11_121 (c_X0_at h) ⟨rfl, rfl, Nat.le_of_ble_eq_true rfl, Nat.le_of_ble_eq_true rfl⟩ hs3  rfl rfl (Nat.le_of_ble_eq_true rfl) ⟨Nat.zero_le _, Nat.zero_le _⟩ dX11_story_5 (kp_q fun r5 M4 h9 => ?_)
  replace h := h9
  refine k_astore_nq (lv' := [(2, va_rf r5), (0, .ref x0), (1, .int x1)]) C.1 dX11_story_8 (by decide) rfl ?_
  refine k_aload_nq C.1 0 rfl dX11_story_9 ?_
  refine k_ifnonnull C.1 17 dX11_story_10 (by decide) (fun a6 e => ?_) (fun e => ?_)
  · replace h := h.2 a6 e
    subst e
    refine k_aload_n C.1 0 rfl dX11_story_17 ?_
    refine k_iload_n C.1 2 rfl dX11_story_18 ?_
    obtain ⟨hs7, h⟩ := h
    refine k_callV (As := [.int x1]) (rest := []) C.1 V_X11_153 (c_X5_storyAt h) ⟨rfl, rfl, Nat.le_of_ble_eq_true rfl, Nat.le_of_ble_eq_true rfl⟩ hs7  rfl rfl (Nat.le_of_ble_eq_true rfl) ⟨Nat.zero_le _, Nat.zero_le _⟩ dX11_story_19 (kp_i fun r9 M8 h9 => ?_)
    replace h := h9
    exact k_iret C dX11_story_22 h
  · replace h := h.1 e
    subst e
    refine k_iconst (v := (-1)) C.1 dX11_story_13 (by decide) ?_
    refine k_goto C.1 22 dX11_story_14 (by decide) ?_
    exact k_iret C dX11_story_22 h
abbrev rm_X11_hand : Room := { frames := 2, cells := 0, slots := 0, locals := 43 }
set_option maxRecDepth 100000 in
set_option maxHeartbeats 4000000 in
theorem c_X11_hand {l : Launch} {D : va_G} {dA : Nat → ClassId} {sh : gh_Sh} {b0 n : Nat} {M : gh_M} {x0 : Nat} {x1 : Int32} {x2 : Int32} {x3 : Int32} {post : Int32 → gh_M → Prop} (h : wp_X11_hand sh M x0 x1 x2 x3 post) : gh_Met l D dA sh b0 n yX11_hand cX11_hand 4 (some .int) rm_X11_hand M [.ref x0, .int x1, .int x2, .int x3] (gh_pi post) := by
  refine gh_open (by decide) (Nat.le_of_ble_eq_true rfl) (fun X C => ?_)
  show gh_G X rm_X11_hand 4 0 0 sh n 0 [(0, .ref x0), (1, .int x1), (2, .int x2), (3, .int x3)] [] M
  unfold wp_X11_hand at h
  refine k_iload_n C.1 1 rfl dX11_hand_0 ?_
  refine k_iconst (v := 1) C.1 dX11_hand_1 (by decide) ?_
  refine k_bipush (v := 7) C.1 dX11_hand_2 (by decide) ?_
  refine k_callS (As := [.int x1, .int (1 : Int32), .int (7 : Int32)]) (rest := []) C.1 V_X11_101 (c_X11_isIn h) ⟨rfl, rfl, Nat.le_of_ble_eq_true rfl, Nat.le_of_ble_eq_true rfl⟩  rfl rfl (Nat.le_of_ble_eq_true rfl) ⟨Nat.zero_le _, Nat.zero_le _⟩ dX11_hand_4 (kp_i fun r2 M1 h9 => ?_)
  replace h := h9
  refine k_if_eq C.1 30 dX11_hand_7 (by decide) (fun c3 => ?_) (fun c3 => ?_)
  · have h := h.1 c3
    refine k_iconst (v := (-1)) C.1 dX11_hand_30 (by decide) ?_
    exact k_iret C dX11_hand_31 h
  · have h := h.2 c3
    refine k_iload_n C.1 2 rfl dX11_hand_10 ?_
    refine k_iconst (v := 0) C.1 dX11_hand_11 (by decide) ?_
    refine k_bipush (v := 20) C.1 dX11_hand_12 (by decide) ?_
    refine k_callS (As := [.int x2, .int (0 : Int32), .int (20 : Int32)]) (rest := []) C.1 V_X11_101 (c_X11_isIn h) ⟨rfl, rfl, Nat.le_of_ble_eq_true rfl, Nat.le_of_ble_eq_true rfl⟩  rfl rfl (Nat.le_of_ble_eq_true rfl) ⟨Nat.zero_le _, Nat.zero_le _⟩ dX11_hand_14 (kp_i fun r5 M4 h9 => ?_)
    replace h := h9
    refine k_if_eq C.1 30 dX11_hand_17 (by decide) (fun c6 => ?_) (fun c6 => ?_)
    · have h := h.1 c6
      refine k_iconst (v := (-1)) C.1 dX11_hand_30 (by decide) ?_
      exact k_iret C dX11_hand_31 h
    · have h := h.2 c6
      refine k_iload_n C.1 3 rfl dX11_hand_20 ?_
      refine k_iconst (v := 1) C.1 dX11_hand_21 (by decide) ?_
      refine k_bipush (v := 9) C.1 dX11_hand_22 (by decide) ?_
      refine k_callS (As := [.int x3, .int (1 : Int32), .int (9 : Int32)]) (rest := []) C.1 V_X11_101 (c_X11_isIn h) ⟨rfl, rfl, Nat.le_of_ble_eq_true rfl, Nat.le_of_ble_eq_true rfl⟩  rfl rfl (Nat.le_of_ble_eq_true rfl) ⟨Nat.zero_le _, Nat.zero_le _⟩ dX11_hand_24 (kp_i fun r8 M7 h9 => ?_)
      replace h := h9
      refine k_if_ne C.1 32 dX11_hand_27 (by decide) (fun c9 => ?_) (fun c9 => ?_)
      · have h := h.2 c9
        refine k_aload_n C.1 0 rfl dX11_hand_32 ?_
        obtain ⟨hs10, h⟩ := h
        obtain ⟨q11, hq11, h⟩ := h
        refine k_getR C.1 F_X11_40 dX11_hand_33 hs10 hq11 ?_
        obtain ⟨hs12, h⟩ := h
        refine k_callV (As := []) (rest := []) C.1 V_X11_156 (c_X2_isFull h) ⟨rfl, rfl, Nat.le_of_ble_eq_true rfl, Nat.le_of_ble_eq_true rfl⟩ hs12  rfl rfl (Nat.le_of_ble_eq_true rfl) ⟨Nat.zero_le _, Nat.zero_le _⟩ dX11_hand_36 (kp_i fun r14 M13 h9 => ?_)
        replace h := h9
        refine k_if_eq C.1 45 dX11_hand_39 (by decide) (fun c15 => ?_) (fun c15 => ?_)
        · have h := h.1 c15
          refine k_aload_n C.1 0 rfl dX11_hand_45 ?_
          obtain ⟨q16, hq16, h⟩ := h
          refine k_getR C.1 F_X11_40 dX11_hand_46 hs10 hq16 ?_
          refine k_iload_n C.1 1 rfl dX11_hand_49 ?_
          refine k_iload_n C.1 2 rfl dX11_hand_50 ?_
          refine k_iload_n C.1 3 rfl dX11_hand_51 ?_
          obtain ⟨hs17, h⟩ := h
          refine k_callV (As := [.int x1, .int x2, .int x3]) (rest := []) C.1 V_X11_157 (c_X2_add h) ⟨rfl, rfl, Nat.le_of_ble_eq_true rfl, Nat.le_of_ble_eq_true rfl⟩ hs17  rfl rfl (Nat.le_of_ble_eq_true rfl) ⟨Nat.zero_le _, Nat.zero_le _⟩ dX11_hand_52 (kp_v fun M18 h9 => ?_)
          replace h := h9
          refine k_aload_n C.1 0 rfl dX11_hand_55 ?_
          obtain ⟨q19, hq19, h⟩ := h
          refine k_getR C.1 F_X11_40 dX11_hand_56 hs10 hq19 ?_
          obtain ⟨hs20, h⟩ := h
          refine k_callV (As := []) (rest := []) C.1 V_X11_160 (c_X2_count h) ⟨rfl, rfl, Nat.le_of_ble_eq_true rfl, Nat.le_of_ble_eq_true rfl⟩ hs20  rfl rfl (Nat.le_of_ble_eq_true rfl) ⟨Nat.zero_le _, Nat.zero_le _⟩ dX11_hand_59 (kp_i fun r22 M21 h9 => ?_)
          replace h := h9
          refine k_iconst (v := 1) C.1 dX11_hand_62 (by decide) ?_
          refine k_isub C.1 dX11_hand_63 ?_
          exact k_iret C dX11_hand_64 h
        · have h := h.2 c15
          refine k_bipush (v := (-2)) C.1 dX11_hand_42 (by decide) ?_
          exact k_iret C dX11_hand_44 h
      · have h := h.1 c9
        refine k_iconst (v := (-1)) C.1 dX11_hand_30 (by decide) ?_
        exact k_iret C dX11_hand_31 h
abbrev rm_X11_hours : Room := { frames := 2, cells := 0, slots := 0, locals := 43 }
set_option maxRecDepth 100000 in
set_option maxHeartbeats 4000000 in
theorem c_X11_hours {l : Launch} {D : va_G} {dA : Nat → ClassId} {sh : gh_Sh} {b0 n : Nat} {M : gh_M} {x0 : Nat} {x1 : Int32} {x2 : Int32} {post : Int32 → gh_M → Prop} (h : wp_X11_hours sh M x0 x1 x2 post) : gh_Met l D dA sh b0 n yX11_hours cX11_hours 4 (some .int) rm_X11_hours M [.ref x0, .int x1, .int x2] (gh_pi post) := by
  refine gh_open (by decide) (Nat.le_of_ble_eq_true rfl) (fun X C => ?_)
  show gh_G X rm_X11_hours 4 0 0 sh n 0 [(0, .ref x0), (1, .int x1), (2, .int x2)] [] M
  unfold wp_X11_hours at h
  refine k_aload_n C.1 0 rfl dX11_hours_0 ?_
  obtain ⟨hs1, h⟩ := h
  obtain ⟨q2, hq2, h⟩ := h
  refine k_getR C.1 F_X11_40 dX11_hours_1 hs1 hq2 ?_
  refine k_iload_n C.1 1 rfl dX11_hours_4 ?_
  obtain ⟨hs3, h⟩ := h
  refine k_callV (As := [.int x1]) (rest := []) C.1 V_X11_161 (c_X2_has h) ⟨rfl, rfl, Nat.le_of_ble_eq_true rfl, Nat.le_of_ble_eq_true rfl⟩ hs3  rfl rfl (Nat.le_of_ble_eq_true rfl) ⟨Nat.zero_le _, Nat.zero_le _⟩ dX11_hours_5 (kp_i fun r5 M4 h9 => ?_)
  replace h := h9
  refine k_if_eq C.1 21 dX11_hours_8 (by decide) (fun c6 => ?_) (fun c6 => ?_)
  · have h := h.1 c6
    refine k_iconst (v := (-1)) C.1 dX11_hours_21 (by decide) ?_
    exact k_iret C dX11_hours_22 h
  · have h := h.2 c6
    refine k_iload_n C.1 2 rfl dX11_hours_11 ?_
    refine k_iconst (v := 0) C.1 dX11_hours_12 (by decide) ?_
    refine k_bipush (v := 20) C.1 dX11_hours_13 (by decide) ?_
    refine k_callS (As := [.int x2, .int (0 : Int32), .int (20 : Int32)]) (rest := []) C.1 V_X11_101 (c_X11_isIn h) ⟨rfl, rfl, Nat.le_of_ble_eq_true rfl, Nat.le_of_ble_eq_true rfl⟩  rfl rfl (Nat.le_of_ble_eq_true rfl) ⟨Nat.zero_le _, Nat.zero_le _⟩ dX11_hours_15 (kp_i fun r8 M7 h9 => ?_)
    replace h := h9
    refine k_if_ne C.1 23 dX11_hours_18 (by decide) (fun c9 => ?_) (fun c9 => ?_)
    · have h := h.2 c9
      refine k_aload_n C.1 0 rfl dX11_hours_23 ?_
      obtain ⟨q10, hq10, h⟩ := h
      refine k_getR C.1 F_X11_40 dX11_hours_24 hs1 hq10 ?_
      refine k_iload_n C.1 1 rfl dX11_hours_27 ?_
      obtain ⟨hs11, h⟩ := h
      refine k_callV (As := [.int x1]) (rest := []) C.1 V_X11_164 (c_X2_hoursOf h) ⟨rfl, rfl, Nat.le_of_ble_eq_true rfl, Nat.le_of_ble_eq_true rfl⟩ hs11  rfl rfl (Nat.le_of_ble_eq_true rfl) ⟨Nat.zero_le _, Nat.zero_le _⟩ dX11_hours_28 (kp_i fun r13 M12 h9 => ?_)
      replace h := h9
      refine k_istore_n (lv' := [(3, .int r13), (0, .ref x0), (1, .int x1), (2, .int x2)]) C.1 dX11_hours_31 (by decide) rfl ?_
      refine k_aload_n C.1 1 rfl dX11_hours_32 ?_
      obtain ⟨q14, hq14, h⟩ := h
      refine k_getR C.1 F_X11_40 dX11_hours_33 hs1 hq14 ?_
      refine k_iload_n C.1 2 rfl dX11_hours_36 ?_
      refine k_iload_n C.1 3 rfl dX11_hours_37 ?_
      obtain ⟨hs15, h⟩ := h
      refine k_callV (As := [.int x1, .int x2]) (rest := []) C.1 V_X11_167 (c_X2_setHours h) ⟨rfl, rfl, Nat.le_of_ble_eq_true rfl, Nat.le_of_ble_eq_true rfl⟩ hs15  rfl rfl (Nat.le_of_ble_eq_true rfl) ⟨Nat.zero_le _, Nat.zero_le _⟩ dX11_hours_38 (kp_v fun M16 h9 => ?_)
      replace h := h9
      refine k_iload_n C.1 0 rfl dX11_hours_41 ?_
      exact k_iret C dX11_hours_42 h
    · have h := h.1 c9
      refine k_iconst (v := (-1)) C.1 dX11_hours_21 (by decide) ?_
      exact k_iret C dX11_hours_22 h
abbrev rm_X11_term : Room := { frames := 5, cells := 0, slots := 0, locals := 109 }
set_option maxRecDepth 100000 in
set_option maxHeartbeats 4000000 in
theorem b_X11_term_48 {X : gh_X} {sh : gh_Sh} {n : Nat} {post : Int32 → gh_M → Prop} (C : gh_CR X cX11_term RX11 4 (some .int) sh n 0 0 (gh_pi post)) (x0 : Nat) (x1 : Int32) (x2 : Int32) (x3 : Int32) (M : gh_M) (h : wp_X11_term_48 sh post x0 x1 x2 x3 M) : gh_G X rm_X11_term 4 0 0 sh n 48 [(0, .ref x0), (1, .int x1), (2, .int x2), (3, .int x3)] [] M := by
  unfold wp_X11_term_48 at h
  refine k_aload_n C.1 0 rfl dX11_term_48 ?_
  obtain ⟨hs1, h⟩ := h
  obtain ⟨q2, hq2, h⟩ := h
  refine k_getR C.1 F_X11_47 dX11_term_49 hs1 hq2 ?_
  refine k_iload_n C.1 1 rfl dX11_term_52 ?_
  refine k_iload_n C.1 2 rfl dX11_term_53 ?_
  refine k_iload_n C.1 3 rfl dX11_term_54 ?_
  obtain ⟨hs3, h⟩ := h
  refine k_callV (As := [.int x1, .int x2, .int x3]) (rest := []) C.1 V_X11_183 (c_X9_put h) ⟨rfl, rfl, Nat.le_of_ble_eq_true rfl, Nat.le_of_ble_eq_true rfl⟩ hs3  rfl rfl (Nat.le_of_ble_eq_true rfl) ⟨Nat.zero_le _, Nat.zero_le _⟩ dX11_term_55 (kp_v fun M4 h9 => ?_)
  replace h := h9
  refine k_aload_n C.1 0 rfl dX11_term_58 ?_
  obtain ⟨q5, hq5, h⟩ := h
  refine k_getR C.1 F_X11_47 dX11_term_59 hs1 hq5 ?_
  obtain ⟨hs6, h⟩ := h
  refine k_callV (As := []) (rest := []) C.1 V_X11_186 (c_X9_count h) ⟨rfl, rfl, Nat.le_of_ble_eq_true rfl, Nat.le_of_ble_eq_true rfl⟩ hs6  rfl rfl (Nat.le_of_ble_eq_true rfl) ⟨Nat.zero_le _, Nat.zero_le _⟩ dX11_term_62 (kp_i fun r8 M7 h9 => ?_)
  replace h := h9
  exact k_iret C dX11_term_65 h
set_option maxRecDepth 100000 in
set_option maxHeartbeats 4000000 in
theorem c_X11_term {l : Launch} {D : va_G} {dA : Nat → ClassId} {sh : gh_Sh} {b0 n : Nat} {M : gh_M} {x0 : Nat} {x1 : Int32} {x2 : Int32} {x3 : Int32} {post : Int32 → gh_M → Prop} (h : wp_X11_term sh M x0 x1 x2 x3 post) : gh_Met l D dA sh b0 n yX11_term cX11_term 4 (some .int) rm_X11_term M [.ref x0, .int x1, .int x2, .int x3] (gh_pi post) := by
  refine gh_open (by decide) (Nat.le_of_ble_eq_true rfl) (fun X C => ?_)
  show gh_G X rm_X11_term 4 0 0 sh n 0 [(0, .ref x0), (1, .int x1), (2, .int x2), (3, .int x3)] [] M
  unfold wp_X11_term at h
  refine k_iload_n C.1 1 rfl dX11_term_0 ?_
  refine k_callS (As := [.int x1]) (rest := []) C.1 V_X11_171 (c_X11_isWord h) ⟨rfl, rfl, Nat.le_of_ble_eq_true rfl, Nat.le_of_ble_eq_true rfl⟩  rfl rfl (Nat.le_of_ble_eq_true rfl) ⟨Nat.zero_le _, Nat.zero_le _⟩ dX11_term_1 (kp_i fun r2 M1 h9 => ?_)
  replace h := h9
  refine k_if_eq C.1 21 dX11_term_4 (by decide) (fun c3 => ?_) (fun c3 => ?_)
  · have h := h.1 c3
    refine k_iconst (v := (-1)) C.1 dX11_term_21 (by decide) ?_
    exact k_iret C dX11_term_22 h
  · have h := h.2 c3
    refine k_iload_n C.1 2 rfl dX11_term_7 ?_
    refine k_callS (As := [.int x2]) (rest := []) C.1 V_X11_174 (c_X11_isTongue h) ⟨rfl, rfl, Nat.le_of_ble_eq_true rfl, Nat.le_of_ble_eq_true rfl⟩  rfl rfl (Nat.le_of_ble_eq_true rfl) ⟨Nat.zero_le _, Nat.zero_le _⟩ dX11_term_8 (kp_i fun r5 M4 h9 => ?_)
    replace h := h9
    refine k_if_eq C.1 21 dX11_term_11 (by decide) (fun c6 => ?_) (fun c6 => ?_)
    · have h := h.1 c6
      refine k_iconst (v := (-1)) C.1 dX11_term_21 (by decide) ?_
      exact k_iret C dX11_term_22 h
    · have h := h.2 c6
      refine k_iload_n C.1 3 rfl dX11_term_14 ?_
      refine k_callS (As := [.int x3]) (rest := []) C.1 V_X11_177 (c_X11_isOwnWord h) ⟨rfl, rfl, Nat.le_of_ble_eq_true rfl, Nat.le_of_ble_eq_true rfl⟩  rfl rfl (Nat.le_of_ble_eq_true rfl) ⟨Nat.zero_le _, Nat.zero_le _⟩ dX11_term_15 (kp_i fun r8 M7 h9 => ?_)
      replace h := h9
      refine k_if_ne C.1 23 dX11_term_18 (by decide) (fun c9 => ?_) (fun c9 => ?_)
      · have h := h.2 c9
        refine k_aload_n C.1 0 rfl dX11_term_23 ?_
        obtain ⟨hs10, h⟩ := h
        obtain ⟨q11, hq11, h⟩ := h
        refine k_getR C.1 F_X11_47 dX11_term_24 hs10 hq11 ?_
        obtain ⟨hs12, h⟩ := h
        refine k_callV (As := []) (rest := []) C.1 V_X11_180 (c_X9_isFull h) ⟨rfl, rfl, Nat.le_of_ble_eq_true rfl, Nat.le_of_ble_eq_true rfl⟩ hs12  rfl rfl (Nat.le_of_ble_eq_true rfl) ⟨Nat.zero_le _, Nat.zero_le _⟩ dX11_term_27 (kp_i fun r14 M13 h9 => ?_)
        replace h := h9
        refine k_if_eq C.1 48 dX11_term_30 (by decide) (fun c15 => ?_) (fun c15 => ?_)
        · have h := h.1 c15
          exact b_X11_term_48 C x0 x1 x2 x3 M13 h
        · have h := h.2 c15
          refine k_aload_n C.1 0 rfl dX11_term_33 ?_
          obtain ⟨q16, hq16, h⟩ := h
          refine k_getR C.1 F_X11_47 dX11_term_34 hs10 hq16 ?_
          refine k_iload_n C.1 1 rfl dX11_term_37 ?_
          refine k_iload_n C.1 2 rfl dX11_term_38 ?_
          obtain ⟨hs17, h⟩ := h
          refine k_callV (As := [.int x1, .int x2]) (rest := []) C.1 V_X11_181 (c_X9_has h) ⟨rfl, rfl, Nat.le_of_ble_eq_true rfl, Nat.le_of_ble_eq_true rfl⟩ hs17  rfl rfl (Nat.le_of_ble_eq_true rfl) ⟨Nat.zero_le _, Nat.zero_le _⟩ dX11_term_39 (kp_i fun r19 M18 h9 => ?_)
          replace h := h9
          refine k_if_ne C.1 48 dX11_term_42 (by decide) (fun c20 => ?_) (fun c20 => ?_)
          · have h := h.2 c20
            exact b_X11_term_48 C x0 x1 x2 x3 M18 h
          · have h := h.1 c20
            refine k_bipush (v := (-2)) C.1 dX11_term_45 (by decide) ?_
            exact k_iret C dX11_term_47 h
      · have h := h.1 c9
        refine k_iconst (v := (-1)) C.1 dX11_term_21 (by decide) ?_
        exact k_iret C dX11_term_22 h
abbrev rm_X11_forget : Room := { frames := 5, cells := 0, slots := 0, locals := 108 }
set_option maxRecDepth 100000 in
set_option maxHeartbeats 4000000 in
theorem c_X11_forget {l : Launch} {D : va_G} {dA : Nat → ClassId} {sh : gh_Sh} {b0 n : Nat} {M : gh_M} {x0 : Nat} {x1 : Int32} {x2 : Int32} {post : Int32 → gh_M → Prop} (h : wp_X11_forget sh M x0 x1 x2 post) : gh_Met l D dA sh b0 n yX11_forget cX11_forget 3 (some .int) rm_X11_forget M [.ref x0, .int x1, .int x2] (gh_pi post) := by
  refine gh_open (by decide) (Nat.le_of_ble_eq_true rfl) (fun X C => ?_)
  show gh_G X rm_X11_forget 3 0 0 sh n 0 [(0, .ref x0), (1, .int x1), (2, .int x2)] [] M
  unfold wp_X11_forget at h
  refine k_iload_n C.1 1 rfl dX11_forget_0 ?_
  refine k_callS (As := [.int x1]) (rest := []) C.1 V_X11_171 (c_X11_isWord h) ⟨rfl, rfl, Nat.le_of_ble_eq_true rfl, Nat.le_of_ble_eq_true rfl⟩  rfl rfl (Nat.le_of_ble_eq_true rfl) ⟨Nat.zero_le _, Nat.zero_le _⟩ dX11_forget_1 (kp_i fun r2 M1 h9 => ?_)
  replace h := h9
  refine k_if_eq C.1 14 dX11_forget_4 (by decide) (fun c3 => ?_) (fun c3 => ?_)
  · have h := h.1 c3
    refine k_iconst (v := (-1)) C.1 dX11_forget_14 (by decide) ?_
    exact k_iret C dX11_forget_15 h
  · have h := h.2 c3
    refine k_iload_n C.1 2 rfl dX11_forget_7 ?_
    refine k_callS (As := [.int x2]) (rest := []) C.1 V_X11_174 (c_X11_isTongue h) ⟨rfl, rfl, Nat.le_of_ble_eq_true rfl, Nat.le_of_ble_eq_true rfl⟩  rfl rfl (Nat.le_of_ble_eq_true rfl) ⟨Nat.zero_le _, Nat.zero_le _⟩ dX11_forget_8 (kp_i fun r5 M4 h9 => ?_)
    replace h := h9
    refine k_if_ne C.1 16 dX11_forget_11 (by decide) (fun c6 => ?_) (fun c6 => ?_)
    · have h := h.2 c6
      refine k_aload_n C.1 0 rfl dX11_forget_16 ?_
      obtain ⟨hs7, h⟩ := h
      obtain ⟨q8, hq8, h⟩ := h
      refine k_getR C.1 F_X11_47 dX11_forget_17 hs7 hq8 ?_
      refine k_iload_n C.1 1 rfl dX11_forget_20 ?_
      refine k_iload_n C.1 2 rfl dX11_forget_21 ?_
      obtain ⟨hs9, h⟩ := h
      refine k_callV (As := [.int x1, .int x2]) (rest := []) C.1 V_X11_181 (c_X9_has h) ⟨rfl, rfl, Nat.le_of_ble_eq_true rfl, Nat.le_of_ble_eq_true rfl⟩ hs9  rfl rfl (Nat.le_of_ble_eq_true rfl) ⟨Nat.zero_le _, Nat.zero_le _⟩ dX11_forget_22 (kp_i fun r11 M10 h9 => ?_)
      replace h := h9
      refine k_if_ne C.1 31 dX11_forget_25 (by decide) (fun c12 => ?_) (fun c12 => ?_)
      · have h := h.2 c12
        refine k_aload_n C.1 0 rfl dX11_forget_31 ?_
        obtain ⟨q13, hq13, h⟩ := h
        refine k_getR C.1 F_X11_47 dX11_forget_32 hs7 hq13 ?_
        refine k_iload_n C.1 1 rfl dX11_forget_35 ?_
        refine k_iload_n C.1 2 rfl dX11_forget_36 ?_
        obtain ⟨hs14, h⟩ := h
        refine k_callV (As := [.int x1, .int x2]) (rest := []) C.1 V_X11_187 (c_X9_remove h) ⟨rfl, rfl, Nat.le_of_ble_eq_true rfl, Nat.le_of_ble_eq_true rfl⟩ hs14  rfl rfl (Nat.le_of_ble_eq_true rfl) ⟨Nat.zero_le _, Nat.zero_le _⟩ dX11_forget_37 (kp_v fun M15 h9 => ?_)
        replace h := h9
        refine k_aload_n C.1 0 rfl dX11_forget_40 ?_
        obtain ⟨q16, hq16, h⟩ := h
        refine k_getR C.1 F_X11_47 dX11_forget_41 hs7 hq16 ?_
        obtain ⟨hs17, h⟩ := h
        refine k_callV (As := []) (rest := []) C.1 V_X11_186 (c_X9_count h) ⟨rfl, rfl, Nat.le_of_ble_eq_true rfl, Nat.le_of_ble_eq_true rfl⟩ hs17  rfl rfl (Nat.le_of_ble_eq_true rfl) ⟨Nat.zero_le _, Nat.zero_le _⟩ dX11_forget_44 (kp_i fun r19 M18 h9 => ?_)
        replace h := h9
        exact k_iret C dX11_forget_47 h
      · have h := h.1 c12
        refine k_bipush (v := (-5)) C.1 dX11_forget_28 (by decide) ?_
        exact k_iret C dX11_forget_30 h
    · have h := h.1 c6
      refine k_iconst (v := (-1)) C.1 dX11_forget_14 (by decide) ?_
      exact k_iret C dX11_forget_15 h
abbrev rm_X11_whyNoWriting : Room := { frames := 3, cells := 0, slots := 0, locals := 64 }
set_option maxRecDepth 100000 in
set_option maxHeartbeats 4000000 in
theorem b_X11_whyNoWriting_56 {X : gh_X} {sh : gh_Sh} {n : Nat} {post : Int32 → gh_M → Prop} (C : gh_CR X cX11_whyNoWriting RX11 5 (some .int) sh n 0 0 (gh_pi post)) (M : gh_M) (h : wp_X11_whyNoWriting_56 sh post M) : gh_G X rm_X11_whyNoWriting 5 0 0 sh n 56 [] [] M := by
  unfold wp_X11_whyNoWriting_56 at h
  refine k_bipush (v := (-3)) C.1 dX11_whyNoWriting_56 (by decide) ?_
  refine k_goto C.1 62 dX11_whyNoWriting_58 (by decide) ?_
  exact k_iret C dX11_whyNoWriting_62 h
set_option maxRecDepth 100000 in
set_option maxHeartbeats 4000000 in
theorem c_X11_whyNoWriting {l : Launch} {D : va_G} {dA : Nat → ClassId} {sh : gh_Sh} {b0 n : Nat} {M : gh_M} {x0 : Nat} {x1 : Int32} {x2 : Int32} {x3 : Int32} {post : Int32 → gh_M → Prop} (h : wp_X11_whyNoWriting sh M x0 x1 x2 x3 post) : gh_Met l D dA sh b0 n yX11_whyNoWriting cX11_whyNoWriting 5 (some .int) rm_X11_whyNoWriting M [.ref x0, .int x1, .int x2, .int x3] (gh_pi post) := by
  refine gh_open (by decide) (Nat.le_of_ble_eq_true rfl) (fun X C => ?_)
  show gh_G X rm_X11_whyNoWriting 5 0 0 sh n 0 [(0, .ref x0), (1, .int x1), (2, .int x2), (3, .int x3)] [] M
  unfold wp_X11_whyNoWriting at h
  refine k_aload_n C.1 0 rfl dX11_whyNoWriting_0 ?_
  obtain ⟨hs1, h⟩ := h
  obtain ⟨q2, hq2, h⟩ := h
  refine k_getR C.1 F_X11_68 dX11_whyNoWriting_1 hs1 hq2 ?_
  refine k_iload_n C.1 1 rfl dX11_whyNoWriting_4 ?_
  obtain ⟨hs3, h⟩ := h
  refine k_callV (As := [.int x1]) (rest := []) C.1 V_X11_121 (c_X0_at h) ⟨rfl, rfl, Nat.le_of_ble_eq_true rfl, Nat.le_of_ble_eq_true rfl⟩ hs3  rfl rfl (Nat.le_of_ble_eq_true rfl) ⟨Nat.zero_le _, Nat.zero_le _⟩ dX11_whyNoWriting_5 (kp_q fun r5 M4 h9 => ?_)
  replace h := h9
  refine k_astoreq (lv' := [(4, va_rf r5), (0, .ref x0), (1, .int x1), (2, .int x2), (3, .int x3)]) C.1 dX11_whyNoWriting_8 (by decide) rfl ?_
  refine k_aloadq C.1 0 rfl dX11_whyNoWriting_10 ?_
  refine k_ifnull C.1 33 dX11_whyNoWriting_12 (by decide) (fun e => ?_) (fun a6 e => ?_)
  · replace h := h.1 e
    subst e
    refine k_iconst (v := (-1)) C.1 dX11_whyNoWriting_33 (by decide) ?_
    exact k_iret C dX11_whyNoWriting_34 h
  · replace h := h.2 a6 e
    subst e
    refine k_iload_n C.1 3 rfl dX11_whyNoWriting_15 ?_
    refine k_callS (As := [.int x2]) (rest := []) C.1 V_X11_174 (c_X11_isTongue h) ⟨rfl, rfl, Nat.le_of_ble_eq_true rfl, Nat.le_of_ble_eq_true rfl⟩  rfl rfl (Nat.le_of_ble_eq_true rfl) ⟨Nat.zero_le _, Nat.zero_le _⟩ dX11_whyNoWriting_16 (kp_i fun r8 M7 h9 => ?_)
    replace h := h9
    refine k_if_eq C.1 33 dX11_whyNoWriting_19 (by decide) (fun c9 => ?_) (fun c9 => ?_)
    · have h := h.1 c9
      refine k_iconst (v := (-1)) C.1 dX11_whyNoWriting_33 (by decide) ?_
      exact k_iret C dX11_whyNoWriting_34 h
    · have h := h.2 c9
      refine k_aload_n C.1 1 rfl dX11_whyNoWriting_22 ?_
      obtain ⟨q10, hq10, h⟩ := h
      refine k_getR C.1 F_X11_40 dX11_whyNoWriting_23 hs1 hq10 ?_
      refine k_iload_n C.1 4 rfl dX11_whyNoWriting_26 ?_
      obtain ⟨hs11, h⟩ := h
      refine k_callV (As := [.int x3]) (rest := []) C.1 V_X11_161 (c_X2_has h) ⟨rfl, rfl, Nat.le_of_ble_eq_true rfl, Nat.le_of_ble_eq_true rfl⟩ hs11  rfl rfl (Nat.le_of_ble_eq_true rfl) ⟨Nat.zero_le _, Nat.zero_le _⟩ dX11_whyNoWriting_27 (kp_i fun r13 M12 h9 => ?_)
      replace h := h9
      refine k_if_ne C.1 35 dX11_whyNoWriting_30 (by decide) (fun c14 => ?_) (fun c14 => ?_)
      · have h := h.2 c14
        refine k_aload C.1 0 rfl dX11_whyNoWriting_35 ?_
        obtain ⟨hs15, h⟩ := h
        refine k_callV (As := []) (rest := []) C.1 V_X11_133 (c_X5_kind h) ⟨rfl, rfl, Nat.le_of_ble_eq_true rfl, Nat.le_of_ble_eq_true rfl⟩ hs15  rfl rfl (Nat.le_of_ble_eq_true rfl) ⟨Nat.zero_le _, Nat.zero_le _⟩ dX11_whyNoWriting_37 (kp_i fun r17 M16 h9 => ?_)
        replace h := h9
        refine k_iconst (v := 1) C.1 dX11_whyNoWriting_40 (by decide) ?_
        refine k_icmp_eq C.1 56 dX11_whyNoWriting_41 (by decide) (fun c18 => ?_) (fun c18 => ?_)
        · have h := h.1 c18
          refine k_sub (lv' := []) [] rfl ?_
          exact b_X11_whyNoWriting_56 C M16 h
        · have h := h.2 c18
          refine k_aload_n C.1 1 rfl dX11_whyNoWriting_44 ?_
          obtain ⟨q19, hq19, h⟩ := h
          refine k_getR C.1 F_X11_40 dX11_whyNoWriting_45 hs1 hq19 ?_
          refine k_iload_n C.1 4 rfl dX11_whyNoWriting_48 ?_
          refine k_iload_n C.1 3 rfl dX11_whyNoWriting_49 ?_
          obtain ⟨hs20, h⟩ := h
          refine k_callV (As := [.int x3, .int x2]) (rest := []) C.1 V_X11_207 (c_X2_knows h) ⟨rfl, rfl, Nat.le_of_ble_eq_true rfl, Nat.le_of_ble_eq_true rfl⟩ hs20  rfl rfl (Nat.le_of_ble_eq_true rfl) ⟨Nat.zero_le _, Nat.zero_le _⟩ dX11_whyNoWriting_50 (kp_i fun r22 M21 h9 => ?_)
          replace h := h9
          refine k_if_ne C.1 61 dX11_whyNoWriting_53 (by decide) (fun c23 => ?_) (fun c23 => ?_)
          · have h := h.2 c23
            refine k_iconst (v := 0) C.1 dX11_whyNoWriting_61 (by decide) ?_
            exact k_iret C dX11_whyNoWriting_62 h
          · have h := h.1 c23
            refine k_sub (lv' := []) [] rfl ?_
            exact b_X11_whyNoWriting_56 C M21 h
      · have h := h.1 c14
        refine k_iconst (v := (-1)) C.1 dX11_whyNoWriting_33 (by decide) ?_
        exact k_iret C dX11_whyNoWriting_34 h
