abbrev rm_X5_kind : Room := { frames := 0, cells := 0, slots := 0, locals := 0 }
set_option maxRecDepth 100000 in
set_option maxHeartbeats 4000000 in
theorem c_X5_kind {l : Launch} {D : va_G} {dA : Nat → ClassId} {sh : gh_Sh} {b0 n : Nat} {M : gh_M} {x0 : Nat} {post : Int32 → gh_M → Prop} (h : wp_X5_kind sh M x0 post) : gh_Met l D dA sh b0 n yX5_kind cX5_kind 1 (some .int) rm_X5_kind M [.ref x0] (gh_pi post) := by
  refine gh_open (by decide) (Nat.le_of_ble_eq_true rfl) (fun X C => ?_)
  show gh_G X rm_X5_kind 1 0 0 sh n 0 [(0, .ref x0)] [] M
  unfold wp_X5_kind at h
  refine k_aload_n C.1 0 rfl dX5_kind_0 ?_
  obtain ⟨hs1, h⟩ := h
  refine k_getI C.1 F_X5_24 dX5_kind_1 hs1 ?_
  exact k_iret C dX5_kind_4 h
abbrev rm_X5_given : Room := { frames := 0, cells := 0, slots := 0, locals := 0 }
set_option maxRecDepth 100000 in
set_option maxHeartbeats 4000000 in
theorem c_X5_given {l : Launch} {D : va_G} {dA : Nat → ClassId} {sh : gh_Sh} {b0 n : Nat} {M : gh_M} {x0 : Nat} {post : Int32 → gh_M → Prop} (h : wp_X5_given sh M x0 post) : gh_Met l D dA sh b0 n yX5_given cX5_given 1 (some .int) rm_X5_given M [.ref x0] (gh_pi post) := by
  refine gh_open (by decide) (Nat.le_of_ble_eq_true rfl) (fun X C => ?_)
  show gh_G X rm_X5_given 1 0 0 sh n 0 [(0, .ref x0)] [] M
  unfold wp_X5_given at h
  refine k_aload_n C.1 0 rfl dX5_given_0 ?_
  obtain ⟨hs1, h⟩ := h
  refine k_getI C.1 F_X5_28 dX5_given_1 hs1 ?_
  exact k_iret C dX5_given_4 h
abbrev rm_X5_textIn : Room := { frames := 2, cells := 0, slots := 0, locals := 42 }
set_option maxRecDepth 100000 in
set_option maxHeartbeats 4000000 in
theorem c_X5_textIn {l : Launch} {D : va_G} {dA : Nat → ClassId} {sh : gh_Sh} {b0 n : Nat} {M : gh_M} {x0 : Nat} {x1 : Int32} {post : Option Nat → gh_M → Prop} (h : wp_X5_textIn sh M x0 x1 post) : gh_Met l D dA sh b0 n yX5_textIn cX5_textIn 2 (some (.object "GlossHouse$Text")) rm_X5_textIn M [.ref x0, .int x1] (gh_pq post) := by
  refine gh_open (by decide) (Nat.le_of_ble_eq_true rfl) (fun X C => ?_)
  show gh_G X rm_X5_textIn 2 0 0 sh n 0 [(0, .ref x0), (1, .int x1)] [] M
  unfold wp_X5_textIn at h
  refine k_iload_n C.1 1 rfl dX5_textIn_0 ?_
  refine k_callSN (As := [.int x1]) (rest := []) C.1 V_X5_32 (c_X11_isTongue h) ⟨rfl, rfl, Nat.le_of_ble_eq_true rfl, Nat.le_of_ble_eq_true rfl⟩  rfl rfl (Nat.le_of_ble_eq_true rfl) ⟨Nat.zero_le _, Nat.zero_le _⟩ dX5_textIn_1 (kp_i fun r2 M1 h9 => ?_)
  replace h := h9
  refine k_if_eq C.1 16 dX5_textIn_4 (by decide) (fun c3 => ?_) (fun c3 => ?_)
  · have h := h.1 c3
    refine k_null C.1 dX5_textIn_16 ?_
    exact k_qret (r := none) C dX5_textIn_17 h
  · have h := h.2 c3
    refine k_aload_n C.1 0 rfl dX5_textIn_7 ?_
    obtain ⟨hs4, h⟩ := h
    obtain ⟨q5, hq5, h⟩ := h
    refine k_getR C.1 F_X5_20 dX5_textIn_8 hs4 hq5 ?_
    refine k_iload_n C.1 1 rfl dX5_textIn_11 ?_
    obtain ⟨hs6, h⟩ := h
    obtain ⟨hi7, q8, hq8, h⟩ := h
    refine k_aald (kd := 17) C.1 dX5_textIn_12 (by decide) (by decide) rfl rfl hs6 hi7 hq8 ?_
    refine k_goto C.1 17 dX5_textIn_13 (by decide) ?_
    exact k_qret (r := some q8) C dX5_textIn_17 h
abbrev rm_X5_storyAt : Room := { frames := 0, cells := 0, slots := 0, locals := 0 }
set_option maxRecDepth 100000 in
set_option maxHeartbeats 4000000 in
theorem c_X5_storyAt {l : Launch} {D : va_G} {dA : Nat → ClassId} {sh : gh_Sh} {b0 n : Nat} {M : gh_M} {x0 : Nat} {x1 : Int32} {post : Int32 → gh_M → Prop} (h : wp_X5_storyAt sh M x0 x1 post) : gh_Met l D dA sh b0 n yX5_storyAt cX5_storyAt 2 (some .int) rm_X5_storyAt M [.ref x0, .int x1] (gh_pi post) := by
  refine gh_open (by decide) (Nat.le_of_ble_eq_true rfl) (fun X C => ?_)
  show gh_G X rm_X5_storyAt 2 0 0 sh n 0 [(0, .ref x0), (1, .int x1)] [] M
  unfold wp_X5_storyAt at h
  refine k_aload_n C.1 0 rfl dX5_storyAt_0 ?_
  obtain ⟨hs1, h⟩ := h
  refine k_getI C.1 F_X5_28 dX5_storyAt_1 hs1 ?_
  refine k_bipush (v := (-5)) C.1 dX5_storyAt_4 (by decide) ?_
  refine k_icmp_ne C.1 11 dX5_storyAt_6 (by decide) (fun c2 => ?_) (fun c2 => ?_)
  · have h := h.2 c2
    refine k_aload_n C.1 0 rfl dX5_storyAt_11 ?_
    refine k_getI C.1 F_X5_36 dX5_storyAt_12 hs1 ?_
    refine k_if_le C.1 20 dX5_storyAt_15 (by decide) (fun c3 => ?_) (fun c3 => ?_)
    · have h := h.1 c3
      refine k_aload_n C.1 0 rfl dX5_storyAt_20 ?_
      refine k_getI C.1 F_X5_28 dX5_storyAt_21 hs1 ?_
      refine k_iload_n C.1 1 rfl dX5_storyAt_24 ?_
      refine k_icmp_ne C.1 32 dX5_storyAt_25 (by decide) (fun c4 => ?_) (fun c4 => ?_)
      · have h := h.2 c4
        refine k_iconst (v := 1) C.1 dX5_storyAt_32 (by decide) ?_
        exact k_iret C dX5_storyAt_33 h
      · have h := h.1 c4
        refine k_iconst (v := 0) C.1 dX5_storyAt_28 (by decide) ?_
        refine k_goto C.1 33 dX5_storyAt_29 (by decide) ?_
        exact k_iret C dX5_storyAt_33 h
    · have h := h.2 c3
      refine k_iconst (v := 2) C.1 dX5_storyAt_18 (by decide) ?_
      exact k_iret C dX5_storyAt_19 h
  · have h := h.1 c2
    refine k_iconst (v := 3) C.1 dX5_storyAt_9 (by decide) ?_
    exact k_iret C dX5_storyAt_10 h
abbrev rm_X5_needsWork : Room := { frames := 3, cells := 0, slots := 0, locals := 63 }
set_option maxRecDepth 100000 in
set_option maxHeartbeats 4000000 in
theorem c_X5_needsWork {l : Launch} {D : va_G} {dA : Nat → ClassId} {sh : gh_Sh} {b0 n : Nat} {M : gh_M} {x0 : Nat} {x1 : Int32} {post : Int32 → gh_M → Prop} (h : wp_X5_needsWork sh M x0 x1 post) : gh_Met l D dA sh b0 n yX5_needsWork cX5_needsWork 2 (some .boolean) rm_X5_needsWork M [.ref x0, .int x1] (gh_pi post) := by
  refine gh_open (by decide) (Nat.le_of_ble_eq_true rfl) (fun X C => ?_)
  show gh_G X rm_X5_needsWork 2 0 0 sh n 0 [(0, .ref x0), (1, .int x1)] [] M
  unfold wp_X5_needsWork at h
  refine k_aload_n C.1 0 rfl dX5_needsWork_0 ?_
  obtain ⟨hs1, h⟩ := h
  refine k_getI C.1 F_X5_24 dX5_needsWork_1 hs1 ?_
  refine k_iconst (v := 1) C.1 dX5_needsWork_4 (by decide) ?_
  refine k_icmp_eq C.1 20 dX5_needsWork_5 (by decide) (fun c2 => ?_) (fun c2 => ?_)
  · have h := h.1 c2
    refine k_iconst (v := 0) C.1 dX5_needsWork_20 (by decide) ?_
    exact k_zret C dX5_needsWork_21 (Or.inl rfl) h
  · have h := h.2 c2
    refine k_aload_n C.1 0 rfl dX5_needsWork_8 ?_
    refine k_iload_n C.1 1 rfl dX5_needsWork_9 ?_
    refine k_callV (As := [.int x1]) (rest := []) C.1 V_X5_43 (c_X5_isReviewedIn h) ⟨rfl, rfl, Nat.le_of_ble_eq_true rfl, Nat.le_of_ble_eq_true rfl⟩ hs1  rfl rfl (Nat.le_of_ble_eq_true rfl) ⟨Nat.zero_le _, Nat.zero_le _⟩ dX5_needsWork_10 (kp_i fun r4 M3 h9 => ?_)
    replace h := h9
    refine k_if_ne C.1 20 dX5_needsWork_13 (by decide) (fun c5 => ?_) (fun c5 => ?_)
    · have h := h.2 c5
      refine k_iconst (v := 0) C.1 dX5_needsWork_20 (by decide) ?_
      exact k_zret C dX5_needsWork_21 (Or.inl rfl) h
    · have h := h.1 c5
      refine k_iconst (v := 1) C.1 dX5_needsWork_16 (by decide) ?_
      refine k_goto C.1 21 dX5_needsWork_17 (by decide) ?_
      exact k_zret C dX5_needsWork_21 (Or.inr rfl) h
abbrev rm_X10_becomeDoubtful : Room := { frames := 0, cells := 0, slots := 0, locals := 0 }
set_option maxRecDepth 100000 in
set_option maxHeartbeats 4000000 in
theorem c_X10_becomeDoubtful {l : Launch} {D : va_G} {dA : Nat → ClassId} {sh : gh_Sh} {b0 n : Nat} {M : gh_M} {x0 : Nat} {post : gh_M → Prop} (h : wp_X10_becomeDoubtful sh M x0 post) : gh_Met l D dA sh b0 n yX10_becomeDoubtful cX10_becomeDoubtful 1 none rm_X10_becomeDoubtful M [.ref x0] (gh_pv post) := by
  refine gh_open (by decide) (Nat.le_of_ble_eq_true rfl) (fun X C => ?_)
  show gh_G X rm_X10_becomeDoubtful 1 0 0 sh n 0 [(0, .ref x0)] [] M
  unfold wp_X10_becomeDoubtful at h
  refine k_aload_n C.1 0 rfl dX10_becomeDoubtful_0 ?_
  obtain ⟨hs1, h⟩ := h
  refine k_getI C.1 F_X10_18 dX10_becomeDoubtful_1 hs1 ?_
  refine k_if_eq C.1 12 dX10_becomeDoubtful_4 (by decide) (fun c2 => ?_) (fun c2 => ?_)
  · have h := h.1 c2
    exact k_vret C dX10_becomeDoubtful_12 h
  · have h := h.2 c2
    refine k_aload_n C.1 0 rfl dX10_becomeDoubtful_7 ?_
    refine k_iconst (v := 3) C.1 dX10_becomeDoubtful_8 (by decide) ?_
    refine k_putI C.1 F_X10_18 dX10_becomeDoubtful_9 hs1 rfl rfl ?_
    exact k_vret C dX10_becomeDoubtful_12 h
abbrev rm_X5_follow : Room := { frames := 2, cells := 0, slots := 0, locals := 43 }
set_option maxRecDepth 100000 in
set_option maxHeartbeats 4000000 in
theorem b_X5_follow_59 {X : gh_X} {sh : gh_Sh} {n : Nat} {post : gh_M → Prop} (C : gh_CR X cX5_follow RX5 5 none sh n 0 0 (gh_pv post)) (x0 : Nat) (x1 : Nat) (x3 : Int32) (x4 : Int32) (M : gh_M) (k22 : Int32 → gh_M → Prop) (hk22 : ∀ (y4 : Int32) (M : gh_M), k22 y4 M → gh_G X rm_X5_follow 5 0 0 sh n 22 [(0, .ref x0), (1, .ref x1), (3, .int x3), (4, .int y4)] [] M) (h : wp_X5_follow_59 sh post k22 x0 x1 x3 x4 M) : gh_G X rm_X5_follow 5 0 0 sh n 59 [(0, .ref x0), (1, .ref x1), (3, .int x3), (4, .int x4)] [] M := by
  unfold wp_X5_follow_59 at h
  refine k_iinc (v := x4 + 1) (lv' := [(4, .int (x4 + 1)), (0, .ref x0), (1, .ref x1), (3, .int x3)]) C.1 3 rfl dX5_follow_59 (by decide) rfl rfl ?_
  refine k_goto C.1 22 dX5_follow_62 (by decide) ?_
  refine k_sub (lv' := [(0, .ref x0), (1, .ref x1), (3, .int x3), (4, .int (x4 + 1))]) [1, 2, 3, 0] rfl ?_
  exact hk22 (x4 + 1) M h
set_option maxRecDepth 100000 in
set_option maxHeartbeats 4000000 in
theorem bb_X5_follow_22 {X : gh_X} {sh : gh_Sh} {n : Nat} {post : gh_M → Prop} (C : gh_CR X cX5_follow RX5 5 none sh n 0 0 (gh_pv post)) (x0 : Nat) (x1 : Nat) (x3 : Int32) (k22 : Int32 → gh_M → Prop) (hk22 : ∀ (y4 : Int32) (M : gh_M), k22 y4 M → gh_G X rm_X5_follow 5 0 0 sh n 22 [(0, .ref x0), (1, .ref x1), (3, .int x3), (4, .int y4)] [] M) (x4 : Int32) (M : gh_M) (h : wb_X5_follow_22 sh post x0 x1 x3 k22 x4 M) : gh_G X rm_X5_follow 5 0 0 sh n 22 [(0, .ref x0), (1, .ref x1), (3, .int x3), (4, .int x4)] [] M := by
  unfold wb_X5_follow_22 at h
  refine k_iload C.1 3 rfl dX5_follow_22 ?_
  refine k_iconst (v := 3) C.1 dX5_follow_24 (by decide) ?_
  refine k_icmp_ge C.1 65 dX5_follow_25 (by decide) (fun c1 => ?_) (fun c1 => ?_)
  · have h := h.1 c1
    exact k_vret C dX5_follow_65 h
  · have h := h.2 c1
    refine k_aload_n C.1 0 rfl dX5_follow_28 ?_
    obtain ⟨hs2, h⟩ := h
    obtain ⟨q3, hq3, h⟩ := h
    refine k_getR C.1 F_X5_20 dX5_follow_29 hs2 hq3 ?_
    refine k_iload C.1 3 rfl dX5_follow_32 ?_
    obtain ⟨hs4, h⟩ := h
    obtain ⟨hi5, q6, hq6, h⟩ := h
    refine k_aald (kd := 17) C.1 dX5_follow_34 (by decide) (by decide) rfl rfl hs4 hi5 hq6 ?_
    refine k_aload_n C.1 1 rfl dX5_follow_35 ?_
    obtain ⟨hs7, h⟩ := h
    obtain ⟨q8, hq8, h⟩ := h
    refine k_getR C.1 F_X5_20 dX5_follow_36 hs7 hq8 ?_
    refine k_iload C.1 3 rfl dX5_follow_39 ?_
    obtain ⟨hs9, h⟩ := h
    obtain ⟨hi10, q11, hq11, h⟩ := h
    refine k_aald (kd := 17) C.1 dX5_follow_41 (by decide) (by decide) rfl rfl hs9 hi10 hq11 ?_
    obtain ⟨hs12, h⟩ := h
    refine k_callV (As := [.ref q11]) (rest := []) C.1 V_X5_56 (c_X10_copy h) ⟨rfl, rfl, Nat.le_of_ble_eq_true rfl, Nat.le_of_ble_eq_true rfl⟩ hs12  rfl rfl (Nat.le_of_ble_eq_true rfl) ⟨Nat.zero_le _, Nat.zero_le _⟩ dX5_follow_42 (kp_v fun M13 h9 => ?_)
    replace h := h9
    refine k_iload_n C.1 2 rfl dX5_follow_45 ?_
    refine k_if_le C.1 59 dX5_follow_46 (by decide) (fun c14 => ?_) (fun c14 => ?_)
    · have h := h.1 c14
      exact b_X5_follow_59 C x0 x1 x3 x4 M13 k22 hk22 h
    · have h := h.2 c14
      refine k_aload_n C.1 0 rfl dX5_follow_49 ?_
      obtain ⟨q15, hq15, h⟩ := h
      refine k_getR C.1 F_X5_20 dX5_follow_50 hs2 hq15 ?_
      refine k_iload C.1 3 rfl dX5_follow_53 ?_
      obtain ⟨hs16, h⟩ := h
      obtain ⟨hi17, q18, hq18, h⟩ := h
      refine k_aald (kd := 17) C.1 dX5_follow_55 (by decide) (by decide) rfl rfl hs16 hi17 hq18 ?_
      obtain ⟨hs19, h⟩ := h
      refine k_callV (As := []) (rest := []) C.1 V_X5_59 (c_X10_becomeDoubtful h) ⟨rfl, rfl, Nat.le_of_ble_eq_true rfl, Nat.le_of_ble_eq_true rfl⟩ hs19  rfl rfl (Nat.le_of_ble_eq_true rfl) ⟨Nat.zero_le _, Nat.zero_le _⟩ dX5_follow_56 (kp_v fun M20 h9 => ?_)
      replace h := h9
      exact b_X5_follow_59 C x0 x1 x3 x4 M20 k22 hk22 h
set_option maxRecDepth 100000 in
theorem b_X5_follow_22 {X : gh_X} {sh : gh_Sh} {n : Nat} {post : gh_M → Prop} (C : gh_CR X cX5_follow RX5 5 none sh n 0 0 (gh_pv post)) (x0 : Nat) (x1 : Nat) (x3 : Int32) (x4 : Int32) (M : gh_M) (h : wp_X5_follow_22 sh post x0 x1 x3 x4 M) : gh_G X rm_X5_follow 5 0 0 sh n 22 [(0, .ref x0), (1, .ref x1), (3, .int x3), (4, .int x4)] [] M := by
  unfold wp_X5_follow_22 at h
  exact gh_loop_use h (fun v => gh_G X rm_X5_follow 5 0 0 sh n 22 [(0, .ref x0), (1, .ref x1), (3, .int x3), (4, .int v.1)] [] v.2) (fun k v hk hb => bb_X5_follow_22 C x0 x1 x3 (fun x4 M => k (x4, M)) (fun x4 M h => hk (x4, M) h) v.1 v.2 hb)
set_option maxRecDepth 100000 in
set_option maxHeartbeats 4000000 in
theorem c_X5_follow {l : Launch} {D : va_G} {dA : Nat → ClassId} {sh : gh_Sh} {b0 n : Nat} {M : gh_M} {x0 : Nat} {x1 : Nat} {x2 : Int32} {x3 : Int32} {post : gh_M → Prop} (h : wp_X5_follow sh M x0 x1 x2 x3 post) : gh_Met l D dA sh b0 n yX5_follow cX5_follow 5 none rm_X5_follow M [.ref x0, .ref x1, .int x2, .int x3] (gh_pv post) := by
  refine gh_open (by decide) (Nat.le_of_ble_eq_true rfl) (fun X C => ?_)
  show gh_G X rm_X5_follow 5 0 0 sh n 0 [(0, .ref x0), (1, .ref x1), (2, .int x2), (3, .int x3)] [] M
  unfold wp_X5_follow at h
  refine k_aload_n C.1 0 rfl dX5_follow_0 ?_
  refine k_iload_n C.1 2 rfl dX5_follow_1 ?_
  obtain ⟨hs1, h⟩ := h
  refine k_putI C.1 F_X5_28 dX5_follow_2 hs1 rfl rfl ?_
  refine k_aload_n C.1 0 rfl dX5_follow_5 ?_
  refine k_iload_n C.1 3 rfl dX5_follow_6 ?_
  refine k_putI C.1 F_X5_36 dX5_follow_7 hs1 rfl rfl ?_
  refine k_aload_n C.1 0 rfl dX5_follow_10 ?_
  refine k_getI C.1 F_X5_24 dX5_follow_11 hs1 ?_
  refine k_iconst (v := 1) C.1 dX5_follow_14 (by decide) ?_
  refine k_icmp_ne C.1 19 dX5_follow_15 (by decide) (fun c2 => ?_) (fun c2 => ?_)
  · have h := h.2 c2
    refine k_iconst (v := 0) C.1 dX5_follow_19 (by decide) ?_
    refine k_istore (lv' := [(4, .int (0 : Int32)), (0, .ref x0), (1, .ref x1), (2, .int x2), (3, .int x3)]) C.1 dX5_follow_20 (by decide) rfl ?_
    refine k_sub (lv' := [(0, .ref x0), (1, .ref x1), (3, .int x3), (4, .int (0 : Int32))]) [1, 2, 4, 0] rfl ?_
    exact b_X5_follow_22 C x0 x1 x3 (0 : Int32) (wI (wI M x0 3 x2) x0 4 x3) h
  · have h := h.1 c2
    exact k_vret C dX5_follow_18 h
abbrev rm_X6_shiftOf : Room := { frames := 0, cells := 0, slots := 0, locals := 0 }
set_option maxRecDepth 100000 in
set_option maxHeartbeats 4000000 in
theorem c_X6_shiftOf {l : Launch} {D : va_G} {dA : Nat → ClassId} {sh : gh_Sh} {b0 n : Nat} {M : gh_M} {x0 : Int32} {post : Int32 → gh_M → Prop} (h : wp_X6_shiftOf sh M x0 post) : gh_Met l D dA sh b0 n yX6_shiftOf cX6_shiftOf 1 (some .int) rm_X6_shiftOf M [.int x0] (gh_pi post) := by
  refine gh_open (by decide) (Nat.le_of_ble_eq_true rfl) (fun X C => ?_)
  show gh_G X rm_X6_shiftOf 1 0 0 sh n 0 [(0, .int x0)] [] M
  unfold wp_X6_shiftOf at h
  refine k_iconst (v := 3) C.1 dX6_shiftOf_0 (by decide) ?_
  refine k_bipush (v := 7) C.1 dX6_shiftOf_1 (by decide) ?_
  refine k_iload_n C.1 0 rfl dX6_shiftOf_3 ?_
  refine k_isub C.1 dX6_shiftOf_4 ?_
  refine k_imul C.1 dX6_shiftOf_5 ?_
  exact k_iret C dX6_shiftOf_6 h
abbrev rm_X6_setEffort : Room := { frames := 0, cells := 0, slots := 0, locals := 0 }
set_option maxRecDepth 100000 in
set_option maxHeartbeats 4000000 in
theorem c_X6_setEffort {l : Launch} {D : va_G} {dA : Nat → ClassId} {sh : gh_Sh} {b0 n : Nat} {M : gh_M} {x0 : Nat} {x1 : Int32} {x2 : Int32} {post : gh_M → Prop} (h : wp_X6_setEffort sh M x0 x1 x2 post) : gh_Met l D dA sh b0 n yX6_setEffort cX6_setEffort 3 none rm_X6_setEffort M [.ref x0, .int x1, .int x2] (gh_pv post) := by
  refine gh_open (by decide) (Nat.le_of_ble_eq_true rfl) (fun X C => ?_)
  show gh_G X rm_X6_setEffort 3 0 0 sh n 0 [(0, .ref x0), (1, .int x1), (2, .int x2)] [] M
  unfold wp_X6_setEffort at h
  refine k_iload_n C.1 1 rfl dX6_setEffort_0 ?_
  refine k_if_lt C.1 17 dX6_setEffort_1 (by decide) (fun c1 => ?_) (fun c1 => ?_)
  · have h := h.1 c1
    exact k_vret C dX6_setEffort_17 h
  · have h := h.2 c1
    refine k_iload_n C.1 1 rfl dX6_setEffort_4 ?_
    refine k_bipush (v := 8) C.1 dX6_setEffort_5 (by decide) ?_
    refine k_icmp_ge C.1 17 dX6_setEffort_7 (by decide) (fun c2 => ?_) (fun c2 => ?_)
    · have h := h.1 c2
      exact k_vret C dX6_setEffort_17 h
    · have h := h.2 c2
      refine k_aload_n C.1 0 rfl dX6_setEffort_10 ?_
      obtain ⟨hs3, h⟩ := h
      obtain ⟨q4, hq4, h⟩ := h
      refine k_getR C.1 F_X6_9 dX6_setEffort_11 hs3 hq4 ?_
      refine k_iload_n C.1 1 rfl dX6_setEffort_14 ?_
      refine k_iload_n C.1 2 rfl dX6_setEffort_15 ?_
      obtain ⟨hs6, h⟩ := h
      obtain ⟨hi5, h⟩ := h
      refine k_iast C.1 dX6_setEffort_16 hs6 hi5 ?_
      exact k_vret C dX6_setEffort_17 h
abbrev rm_X6_measureSets : Room := { frames := 0, cells := 0, slots := 0, locals := 0 }
set_option maxRecDepth 100000 in
set_option maxHeartbeats 4000000 in
theorem bb_X6_measureSets_42 {X : gh_X} {sh : gh_Sh} {n : Nat} {post : gh_M → Prop} (C : gh_CR X cX6_measureSets RX6 4 none sh n 0 0 (gh_pv post)) (x0 : Nat) (x1 : Int32) (x2 : Int32) (k7 : Int32 → gh_M → Prop) (hk7 : ∀ (y1 : Int32) (M : gh_M), k7 y1 M → gh_G X rm_X6_measureSets 4 0 0 sh n 7 [(0, .ref x0), (1, .int y1)] [] M) (k42 : Int32 → gh_M → Prop) (hk42 : ∀ (y3 : Int32) (M : gh_M), k42 y3 M → gh_G X rm_X6_measureSets 4 0 0 sh n 42 [(0, .ref x0), (1, .int x1), (2, .int x2), (3, .int y3)] [] M) (x3 : Int32) (M : gh_M) (h : wb_X6_measureSets_42 sh post k7 x0 x1 x2 k42 x3 M) : gh_G X rm_X6_measureSets 4 0 0 sh n 42 [(0, .ref x0), (1, .int x1), (2, .int x2), (3, .int x3)] [] M := by
  unfold wb_X6_measureSets_42 at h
  refine k_iload_n C.1 3 rfl dX6_measureSets_42 ?_
  refine k_iload_n C.1 2 rfl dX6_measureSets_43 ?_
  refine k_icmp_ge C.1 74 dX6_measureSets_44 (by decide) (fun c1 => ?_) (fun c1 => ?_)
  · have h := h.1 c1
    refine k_iinc (v := x1 + 1) (lv' := [(1, .int (x1 + 1)), (0, .ref x0), (2, .int x2), (3, .int x3)]) C.1 1 rfl dX6_measureSets_74 (by decide) rfl rfl ?_
    refine k_goto C.1 7 dX6_measureSets_77 (by decide) ?_
    refine k_sub (lv' := [(0, .ref x0), (1, .int (x1 + 1))]) [1, 0] rfl ?_
    exact hk7 (x1 + 1) M h
  · have h := h.2 c1
    refine k_aload_n C.1 0 rfl dX6_measureSets_47 ?_
    obtain ⟨hs2, h⟩ := h
    obtain ⟨q3, hq3, h⟩ := h
    refine k_getR C.1 F_X6_15 dX6_measureSets_48 hs2 hq3 ?_
    refine k_iload_n C.1 2 rfl dX6_measureSets_51 ?_
    refine k_iload_n C.1 3 rfl dX6_measureSets_52 ?_
    refine k_iadd C.1 dX6_measureSets_53 ?_
    refine k_aload_n C.1 0 rfl dX6_measureSets_54 ?_
    refine k_getR C.1 F_X6_15 dX6_measureSets_55 hs2 hq3 ?_
    refine k_iload_n C.1 3 rfl dX6_measureSets_58 ?_
    obtain ⟨hs4, h⟩ := h
    obtain ⟨hi5, h⟩ := h
    refine k_iald C.1 dX6_measureSets_59 hs4 hi5 ?_
    refine k_aload_n C.1 0 rfl dX6_measureSets_60 ?_
    obtain ⟨q6, hq6, h⟩ := h
    refine k_getR C.1 F_X6_9 dX6_measureSets_61 hs2 hq6 ?_
    refine k_iload_n C.1 1 rfl dX6_measureSets_64 ?_
    obtain ⟨hs7, h⟩ := h
    obtain ⟨hi8, h⟩ := h
    refine k_iald C.1 dX6_measureSets_65 hs7 hi8 ?_
    refine k_iadd C.1 dX6_measureSets_66 ?_
    obtain ⟨hi9, h⟩ := h
    refine k_iast C.1 dX6_measureSets_67 hs4 hi9 ?_
    refine k_iinc (v := x3 + 1) (lv' := [(3, .int (x3 + 1)), (0, .ref x0), (1, .int x1), (2, .int x2)]) C.1 3 rfl dX6_measureSets_68 (by decide) rfl rfl ?_
    refine k_goto C.1 42 dX6_measureSets_71 (by decide) ?_
    refine k_sub (lv' := [(0, .ref x0), (1, .int x1), (2, .int x2), (3, .int (x3 + 1))]) [1, 2, 3, 0] rfl ?_
    exact hk42 (x3 + 1) (wI M q3 (x2 + x3).toNatClampNeg ((rI M q3 x3.toNatClampNeg) + (rI M q6 x1.toNatClampNeg))) h
set_option maxRecDepth 100000 in
theorem b_X6_measureSets_42 {X : gh_X} {sh : gh_Sh} {n : Nat} {post : gh_M → Prop} (C : gh_CR X cX6_measureSets RX6 4 none sh n 0 0 (gh_pv post)) (x0 : Nat) (x1 : Int32) (x2 : Int32) (x3 : Int32) (M : gh_M) (k7 : Int32 → gh_M → Prop) (hk7 : ∀ (y1 : Int32) (M : gh_M), k7 y1 M → gh_G X rm_X6_measureSets 4 0 0 sh n 7 [(0, .ref x0), (1, .int y1)] [] M) (h : wp_X6_measureSets_42 sh post k7 x0 x1 x2 x3 M) : gh_G X rm_X6_measureSets 4 0 0 sh n 42 [(0, .ref x0), (1, .int x1), (2, .int x2), (3, .int x3)] [] M := by
  unfold wp_X6_measureSets_42 at h
  exact gh_loop_use h (fun v => gh_G X rm_X6_measureSets 4 0 0 sh n 42 [(0, .ref x0), (1, .int x1), (2, .int x2), (3, .int v.1)] [] v.2) (fun k v hk hb => bb_X6_measureSets_42 C x0 x1 x2 k7 hk7 (fun x3 M => k (x3, M)) (fun x3 M h => hk (x3, M) h) v.1 v.2 hb)
set_option maxRecDepth 100000 in
set_option maxHeartbeats 4000000 in
theorem b_X6_measureSets_36 {X : gh_X} {sh : gh_Sh} {n : Nat} {post : gh_M → Prop} (C : gh_CR X cX6_measureSets RX6 4 none sh n 0 0 (gh_pv post)) (x0 : Nat) (x1 : Int32) (x2 : Int32) (s0 : Nat) (s1 : Int32) (s2 : Int32) (M : gh_M) (k7 : Int32 → gh_M → Prop) (hk7 : ∀ (y1 : Int32) (M : gh_M), k7 y1 M → gh_G X rm_X6_measureSets 4 0 0 sh n 7 [(0, .ref x0), (1, .int y1)] [] M) (h : wp_X6_measureSets_36 sh post k7 x0 x1 x2 s0 s1 s2 M) : gh_G X rm_X6_measureSets 4 0 0 sh n 36 [(0, .ref x0), (1, .int x1), (2, .int x2)] [.int s2, .int s1, .ref s0] M := by
  unfold wp_X6_measureSets_36 at h
  refine k_iadd C.1 dX6_measureSets_36 ?_
  obtain ⟨hs1, h⟩ := h
  refine k_putI C.1 F_X6_57 dX6_measureSets_37 hs1 rfl rfl ?_
  refine k_iconst (v := 0) C.1 dX6_measureSets_40 (by decide) ?_
  refine k_istore_n (lv' := [(3, .int (0 : Int32)), (0, .ref x0), (1, .int x1), (2, .int x2)]) C.1 dX6_measureSets_41 (by decide) rfl ?_
  refine k_sub (lv' := [(0, .ref x0), (1, .int x1), (2, .int x2), (3, .int (0 : Int32))]) [1, 2, 3, 0] rfl ?_
  exact b_X6_measureSets_42 C x0 x1 x2 (0 : Int32) (wI M s0 4 (s1 + s2)) k7 hk7 h
set_option maxRecDepth 100000 in
set_option maxHeartbeats 4000000 in
theorem bb_X6_measureSets_7 {X : gh_X} {sh : gh_Sh} {n : Nat} {post : gh_M → Prop} (C : gh_CR X cX6_measureSets RX6 4 none sh n 0 0 (gh_pv post)) (x0 : Nat) (k7 : Int32 → gh_M → Prop) (hk7 : ∀ (y1 : Int32) (M : gh_M), k7 y1 M → gh_G X rm_X6_measureSets 4 0 0 sh n 7 [(0, .ref x0), (1, .int y1)] [] M) (x1 : Int32) (M : gh_M) (h : wb_X6_measureSets_7 sh post x0 k7 x1 M) : gh_G X rm_X6_measureSets 4 0 0 sh n 7 [(0, .ref x0), (1, .int x1)] [] M := by
  unfold wb_X6_measureSets_7 at h
  refine k_iload_n C.1 1 rfl dX6_measureSets_7 ?_
  refine k_bipush (v := 8) C.1 dX6_measureSets_8 (by decide) ?_
  refine k_icmp_ge C.1 80 dX6_measureSets_10 (by decide) (fun c1 => ?_) (fun c1 => ?_)
  · have h := h.1 c1
    exact k_vret C dX6_measureSets_80 h
  · have h := h.2 c1
    refine k_iconst (v := 1) C.1 dX6_measureSets_13 (by decide) ?_
    refine k_iload_n C.1 1 rfl dX6_measureSets_14 ?_
    refine k_ishl C.1 dX6_measureSets_15 ?_
    refine k_istore_n (lv' := [(2, .int ((1 : Int32) <<< (x1 &&& 31))), (0, .ref x0), (1, .int x1)]) C.1 dX6_measureSets_16 (by decide) rfl ?_
    refine k_aload_n C.1 1 rfl dX6_measureSets_17 ?_
    refine k_dup C.1 dX6_measureSets_18 rfl ?_
    obtain ⟨hs2, h⟩ := h
    refine k_getI C.1 F_X6_57 dX6_measureSets_19 hs2 ?_
    refine k_aload_n C.1 1 rfl dX6_measureSets_22 ?_
    obtain ⟨q3, hq3, h⟩ := h
    refine k_getR C.1 F_X6_9 dX6_measureSets_23 hs2 hq3 ?_
    refine k_iload_n C.1 2 rfl dX6_measureSets_26 ?_
    obtain ⟨hs4, h⟩ := h
    obtain ⟨hi5, h⟩ := h
    refine k_iald C.1 dX6_measureSets_27 hs4 hi5 ?_
    refine k_if_le C.1 35 dX6_measureSets_28 (by decide) (fun c6 => ?_) (fun c6 => ?_)
    · have h := h.1 c6
      refine k_iconst (v := 0) C.1 dX6_measureSets_35 (by decide) ?_
      refine k_sub (lv' := [(0, .ref x0), (1, .int x1), (2, .int ((1 : Int32) <<< (x1 &&& 31)))]) [1, 2, 0] rfl ?_
      exact b_X6_measureSets_36 C x0 x1 ((1 : Int32) <<< (x1 &&& 31)) x0 (rI M x0 4) (0 : Int32) M k7 hk7 h
    · have h := h.2 c6
      refine k_iload_n C.1 0 rfl dX6_measureSets_31 ?_
      refine k_goto C.1 36 dX6_measureSets_32 (by decide) ?_
      refine k_sub (lv' := [(0, .ref x0), (1, .int x1), (2, .int ((1 : Int32) <<< (x1 &&& 31)))]) [1, 2, 0] rfl ?_
      exact b_X6_measureSets_36 C x0 x1 ((1 : Int32) <<< (x1 &&& 31)) x0 (rI M x0 4) ((1 : Int32) <<< (x1 &&& 31)) M k7 hk7 h
set_option maxRecDepth 100000 in
theorem b_X6_measureSets_7 {X : gh_X} {sh : gh_Sh} {n : Nat} {post : gh_M → Prop} (C : gh_CR X cX6_measureSets RX6 4 none sh n 0 0 (gh_pv post)) (x0 : Nat) (x1 : Int32) (M : gh_M) (h : wp_X6_measureSets_7 sh post x0 x1 M) : gh_G X rm_X6_measureSets 4 0 0 sh n 7 [(0, .ref x0), (1, .int x1)] [] M := by
  unfold wp_X6_measureSets_7 at h
  exact gh_loop_use h (fun v => gh_G X rm_X6_measureSets 4 0 0 sh n 7 [(0, .ref x0), (1, .int v.1)] [] v.2) (fun k v hk hb => bb_X6_measureSets_7 C x0 (fun x1 M => k (x1, M)) (fun x1 M h => hk (x1, M) h) v.1 v.2 hb)
set_option maxRecDepth 100000 in
set_option maxHeartbeats 4000000 in
theorem c_X6_measureSets {l : Launch} {D : va_G} {dA : Nat → ClassId} {sh : gh_Sh} {b0 n : Nat} {M : gh_M} {x0 : Nat} {post : gh_M → Prop} (h : wp_X6_measureSets sh M x0 post) : gh_Met l D dA sh b0 n yX6_measureSets cX6_measureSets 4 none rm_X6_measureSets M [.ref x0] (gh_pv post) := by
  refine gh_open (by decide) (Nat.le_of_ble_eq_true rfl) (fun X C => ?_)
  show gh_G X rm_X6_measureSets 4 0 0 sh n 0 [(0, .ref x0)] [] M
  unfold wp_X6_measureSets at h
  refine k_aload_n C.1 0 rfl dX6_measureSets_0 ?_
  refine k_iconst (v := 0) C.1 dX6_measureSets_1 (by decide) ?_
  obtain ⟨hs1, h⟩ := h
  refine k_putI C.1 F_X6_57 dX6_measureSets_2 hs1 rfl rfl ?_
  refine k_iconst (v := 0) C.1 dX6_measureSets_5 (by decide) ?_
  refine k_istore_n (lv' := [(1, .int (0 : Int32)), (0, .ref x0)]) C.1 dX6_measureSets_6 (by decide) rfl ?_
  refine k_sub (lv' := [(0, .ref x0), (1, .int (0 : Int32))]) [1, 0] rfl ?_
  exact b_X6_measureSets_7 C x0 (0 : Int32) (wI M x0 4 (0 : Int32)) h
abbrev rm_X6_giveTo : Room := { frames := 1, cells := 0, slots := 0, locals := 24 }
set_option maxRecDepth 100000 in
set_option maxHeartbeats 4000000 in
theorem b_X6_giveTo_86 {X : gh_X} {sh : gh_Sh} {n : Nat} {post : gh_M → Prop} (C : gh_CR X cX6_giveTo RX6 10 none sh n 0 0 (gh_pv post)) (x0 : Nat) (x1 : Int32) (x2 : Int32) (x3 : Int32) (x4 : Int32) (x5 : Int64) (x7 : Int32) (M : gh_M) (k6 : Int32 → gh_M → Prop) (hk6 : ∀ (y4 : Int32) (M : gh_M), k6 y4 M → gh_G X rm_X6_giveTo 10 0 0 sh n 6 [(0, .ref x0), (1, .int x1), (2, .int x2), (3, .int x3), (4, .int y4)] [] M) (k24 : Int64 → Int32 → gh_M → Prop) (hk24 : ∀ (y5 : Int64) (y7 : Int32) (M : gh_M), k24 y5 y7 M → gh_G X rm_X6_giveTo 10 0 0 sh n 24 [(0, .ref x0), (1, .int x1), (2, .int x2), (3, .int x3), (4, .int x4), (5, .long y5), (7, .int y7)] [] M) (h : wp_X6_giveTo_86 sh post k6 k24 x0 x1 x2 x3 x4 x5 x7 M) : gh_G X rm_X6_giveTo 10 0 0 sh n 86 [(0, .ref x0), (1, .int x1), (2, .int x2), (3, .int x3), (4, .int x4), (5, .long x5), (7, .int x7)] [] M := by
  unfold wp_X6_giveTo_86 at h
  refine k_iload C.1 6 rfl dX6_giveTo_86 ?_
  refine k_iconst (v := 1) C.1 dX6_giveTo_88 (by decide) ?_
  refine k_isub C.1 dX6_giveTo_89 ?_
  refine k_iload C.1 4 rfl dX6_giveTo_90 ?_
  refine k_iand C.1 dX6_giveTo_92 ?_
  refine k_istore (lv' := [(7, .int ((x7 - (1 : Int32)) &&& x4)), (0, .ref x0), (1, .int x1), (2, .int x2), (3, .int x3), (4, .int x4), (5, .long x5)]) C.1 dX6_giveTo_93 (by decide) rfl ?_
  refine k_goto C.1 24 dX6_giveTo_95 (by decide) ?_
  refine k_sub (lv' := [(0, .ref x0), (1, .int x1), (2, .int x2), (3, .int x3), (4, .int x4), (5, .long x5), (7, .int ((x7 - (1 : Int32)) &&& x4))]) [1, 2, 3, 4, 5, 6, 0] rfl ?_
  exact hk24 x5 ((x7 - (1 : Int32)) &&& x4) M h
set_option maxRecDepth 100000 in
set_option maxHeartbeats 4000000 in
theorem bb_X6_giveTo_24 {X : gh_X} {sh : gh_Sh} {n : Nat} {post : gh_M → Prop} (C : gh_CR X cX6_giveTo RX6 10 none sh n 0 0 (gh_pv post)) (x0 : Nat) (x1 : Int32) (x2 : Int32) (x3 : Int32) (x4 : Int32) (k6 : Int32 → gh_M → Prop) (hk6 : ∀ (y4 : Int32) (M : gh_M), k6 y4 M → gh_G X rm_X6_giveTo 10 0 0 sh n 6 [(0, .ref x0), (1, .int x1), (2, .int x2), (3, .int x3), (4, .int y4)] [] M) (k24 : Int64 → Int32 → gh_M → Prop) (hk24 : ∀ (y5 : Int64) (y7 : Int32) (M : gh_M), k24 y5 y7 M → gh_G X rm_X6_giveTo 10 0 0 sh n 24 [(0, .ref x0), (1, .int x1), (2, .int x2), (3, .int x3), (4, .int x4), (5, .long y5), (7, .int y7)] [] M) (x5 : Int64) (x7 : Int32) (M : gh_M) (h : wb_X6_giveTo_24 sh post k6 x0 x1 x2 x3 x4 k24 x5 x7 M) : gh_G X rm_X6_giveTo 10 0 0 sh n 24 [(0, .ref x0), (1, .int x1), (2, .int x2), (3, .int x3), (4, .int x4), (5, .long x5), (7, .int x7)] [] M := by
  unfold wb_X6_giveTo_24 at h
  refine k_iload C.1 6 rfl dX6_giveTo_24 ?_
  refine k_if_le C.1 98 dX6_giveTo_26 (by decide) (fun c1 => ?_) (fun c1 => ?_)
  · have h := h.1 c1
    refine k_aload_n C.1 0 rfl dX6_giveTo_98 ?_
    obtain ⟨hs2, h⟩ := h
    obtain ⟨q3, hq3, h⟩ := h
    refine k_getR C.1 F_X6_21 dX6_giveTo_99 hs2 hq3 ?_
    refine k_iload C.1 4 rfl dX6_giveTo_102 ?_
    refine k_lload C.1 5 rfl dX6_giveTo_104 ?_
    obtain ⟨hs5, h⟩ := h
    obtain ⟨hi4, h⟩ := h
    refine k_last C.1 dX6_giveTo_106 hs5 hi4 ?_
    refine k_iload C.1 4 rfl dX6_giveTo_107 ?_
    refine k_iconst (v := 1) C.1 dX6_giveTo_109 (by decide) ?_
    refine k_isub C.1 dX6_giveTo_110 ?_
    refine k_aload_n C.1 0 rfl dX6_giveTo_111 ?_
    refine k_getI C.1 F_X6_57 dX6_giveTo_112 hs2 ?_
    refine k_iand C.1 dX6_giveTo_115 ?_
    refine k_istore (lv' := [(4, .int ((x4 - (1 : Int32)) &&& (rI (wJ M q3 x4.toNatClampNeg x5) x0 4))), (0, .ref x0), (1, .int x1), (2, .int x2), (3, .int x3), (5, .long x5), (7, .int x7)]) C.1 dX6_giveTo_116 (by decide) rfl ?_
    refine k_goto C.1 6 dX6_giveTo_118 (by decide) ?_
    refine k_sub (lv' := [(0, .ref x0), (1, .int x1), (2, .int x2), (3, .int x3), (4, .int ((x4 - (1 : Int32)) &&& (rI (wJ M q3 x4.toNatClampNeg x5) x0 4)))]) [1, 2, 3, 4, 0] rfl ?_
    exact hk6 ((x4 - (1 : Int32)) &&& (rI (wJ M q3 x4.toNatClampNeg x5) x0 4)) (wJ M q3 x4.toNatClampNeg x5) h
  · have h := h.2 c1
    refine k_aload_n C.1 0 rfl dX6_giveTo_29 ?_
    obtain ⟨hs6, h⟩ := h
    obtain ⟨q7, hq7, h⟩ := h
    refine k_getR C.1 F_X6_15 dX6_giveTo_30 hs6 hq7 ?_
    refine k_iload C.1 6 rfl dX6_giveTo_33 ?_
    obtain ⟨hs8, h⟩ := h
    obtain ⟨hi9, h⟩ := h
    refine k_iald C.1 dX6_giveTo_35 hs8 hi9 ?_
    refine k_iload_n C.1 2 rfl dX6_giveTo_36 ?_
    refine k_icmp_gt C.1 86 dX6_giveTo_37 (by decide) (fun c10 => ?_) (fun c10 => ?_)
    · have h := h.1 c10
      exact b_X6_giveTo_86 C x0 x1 x2 x3 x4 x5 x7 M k6 hk6 k24 hk24 h
    · have h := h.2 c10
      refine k_aload_n C.1 0 rfl dX6_giveTo_40 ?_
      refine k_getR C.1 F_X6_15 dX6_giveTo_41 hs6 hq7 ?_
      refine k_iload C.1 6 rfl dX6_giveTo_44 ?_
      obtain ⟨hi11, h⟩ := h
      refine k_iald C.1 dX6_giveTo_46 hs8 hi11 ?_
      refine k_iload_n C.1 3 rfl dX6_giveTo_47 ?_
      refine k_imul C.1 dX6_giveTo_48 ?_
      refine k_i2l C.1 dX6_giveTo_49 ?_
      refine k_bipush (v := 24) C.1 dX6_giveTo_50 (by decide) ?_
      refine k_lshl C.1 dX6_giveTo_52 ?_
      refine k_iload_n C.1 1 rfl dX6_giveTo_53 ?_
      refine k_aload_n C.1 0 rfl dX6_giveTo_54 ?_
      obtain ⟨q12, hq12, h⟩ := h
      refine k_getR C.1 F_X6_18 dX6_giveTo_55 hs6 hq12 ?_
      refine k_iload C.1 6 rfl dX6_giveTo_58 ?_
      obtain ⟨hs13, h⟩ := h
      obtain ⟨hi14, h⟩ := h
      refine k_iald C.1 dX6_giveTo_60 hs13 hi14 ?_
      refine k_imul C.1 dX6_giveTo_61 ?_
      refine k_i2l C.1 dX6_giveTo_62 ?_
      refine k_ladd C.1 dX6_giveTo_63 ?_
      refine k_lstore (lv' := [(8, .long (((((rI M q7 x7.toNatClampNeg) * x3).toInt64) <<< ((24 : Int32).toInt64 &&& 63)) + ((x1 * (rI M q12 x7.toNatClampNeg)).toInt64))), (0, .ref x0), (1, .int x1), (2, .int x2), (3, .int x3), (4, .int x4), (5, .long x5), (7, .int x7)]) C.1 dX6_giveTo_64 (by decide) rfl ?_
      refine k_lload C.1 6 rfl dX6_giveTo_66 ?_
      refine k_aload_n C.1 1 rfl dX6_giveTo_68 ?_
      obtain ⟨q15, hq15, h⟩ := h
      refine k_getR C.1 F_X6_21 dX6_giveTo_69 hs6 hq15 ?_
      refine k_iload C.1 5 rfl dX6_giveTo_72 ?_
      refine k_iload C.1 7 rfl dX6_giveTo_74 ?_
      refine k_ixor C.1 dX6_giveTo_76 ?_
      obtain ⟨hs16, h⟩ := h
      obtain ⟨hi17, h⟩ := h
      refine k_lald C.1 dX6_giveTo_77 hs16 hi17 ?_
      refine k_lload C.1 0 rfl dX6_giveTo_78 ?_
      refine k_ladd C.1 dX6_giveTo_80 ?_
      refine k_mminl C.1 mm_X6_69.1 mm_X6_69.2.1 mm_X6_69.2.2.1 mm_X6_69.2.2.2 (Nat.le_of_ble_eq_true rfl) (Nat.le_of_ble_eq_true rfl) ⟨Nat.zero_le _, Nat.zero_le _⟩ dX6_giveTo_81 ?_
      refine k_lstore (lv' := [(5, .long (if (rJ M q15 (x4 ^^^ x7).toNatClampNeg) + (((((rI M q7 x7.toNatClampNeg) * x3).toInt64) <<< ((24 : Int32).toInt64 &&& 63)) + ((x1 * (rI M q12 x7.toNatClampNeg)).toInt64)) < x5 then (rJ M q15 (x4 ^^^ x7).toNatClampNeg) + (((((rI M q7 x7.toNatClampNeg) * x3).toInt64) <<< ((24 : Int32).toInt64 &&& 63)) + ((x1 * (rI M q12 x7.toNatClampNeg)).toInt64)) else x5)), (8, .long (((((rI M q7 x7.toNatClampNeg) * x3).toInt64) <<< ((24 : Int32).toInt64 &&& 63)) + ((x1 * (rI M q12 x7.toNatClampNeg)).toInt64))), (0, .ref x0), (1, .int x1), (2, .int x2), (3, .int x3), (4, .int x4), (7, .int x7)]) C.1 dX6_giveTo_84 (by decide) rfl ?_
      refine k_sub (lv' := [(0, .ref x0), (1, .int x1), (2, .int x2), (3, .int x3), (4, .int x4), (5, .long (if (rJ M q15 (x4 ^^^ x7).toNatClampNeg) + (((((rI M q7 x7.toNatClampNeg) * x3).toInt64) <<< ((24 : Int32).toInt64 &&& 63)) + ((x1 * (rI M q12 x7.toNatClampNeg)).toInt64)) < x5 then (rJ M q15 (x4 ^^^ x7).toNatClampNeg) + (((((rI M q7 x7.toNatClampNeg) * x3).toInt64) <<< ((24 : Int32).toInt64 &&& 63)) + ((x1 * (rI M q12 x7.toNatClampNeg)).toInt64)) else x5)), (7, .int x7)]) [2, 3, 4, 5, 6, 0, 7] rfl ?_
      exact b_X6_giveTo_86 C x0 x1 x2 x3 x4 (if (rJ M q15 (x4 ^^^ x7).toNatClampNeg) + (((((rI M q7 x7.toNatClampNeg) * x3).toInt64) <<< ((24 : Int32).toInt64 &&& 63)) + ((x1 * (rI M q12 x7.toNatClampNeg)).toInt64)) < x5 then (rJ M q15 (x4 ^^^ x7).toNatClampNeg) + (((((rI M q7 x7.toNatClampNeg) * x3).toInt64) <<< ((24 : Int32).toInt64 &&& 63)) + ((x1 * (rI M q12 x7.toNatClampNeg)).toInt64)) else x5) x7 M k6 hk6 k24 hk24 h
set_option maxRecDepth 100000 in
theorem b_X6_giveTo_24 {X : gh_X} {sh : gh_Sh} {n : Nat} {post : gh_M → Prop} (C : gh_CR X cX6_giveTo RX6 10 none sh n 0 0 (gh_pv post)) (x0 : Nat) (x1 : Int32) (x2 : Int32) (x3 : Int32) (x4 : Int32) (x5 : Int64) (x7 : Int32) (M : gh_M) (k6 : Int32 → gh_M → Prop) (hk6 : ∀ (y4 : Int32) (M : gh_M), k6 y4 M → gh_G X rm_X6_giveTo 10 0 0 sh n 6 [(0, .ref x0), (1, .int x1), (2, .int x2), (3, .int x3), (4, .int y4)] [] M) (h : wp_X6_giveTo_24 sh post k6 x0 x1 x2 x3 x4 x5 x7 M) : gh_G X rm_X6_giveTo 10 0 0 sh n 24 [(0, .ref x0), (1, .int x1), (2, .int x2), (3, .int x3), (4, .int x4), (5, .long x5), (7, .int x7)] [] M := by
  unfold wp_X6_giveTo_24 at h
  exact gh_loop_use h (fun v => gh_G X rm_X6_giveTo 10 0 0 sh n 24 [(0, .ref x0), (1, .int x1), (2, .int x2), (3, .int x3), (4, .int x4), (5, .long v.1), (7, .int v.2.1)] [] v.2.2) (fun k v hk hb => bb_X6_giveTo_24 C x0 x1 x2 x3 x4 k6 hk6 (fun x5 x7 M => k (x5, x7, M)) (fun x5 x7 M h => hk (x5, x7, M) h) v.1 v.2.1 v.2.2 hb)
set_option maxRecDepth 100000 in
set_option maxHeartbeats 4000000 in
theorem bb_X6_giveTo_6 {X : gh_X} {sh : gh_Sh} {n : Nat} {post : gh_M → Prop} (C : gh_CR X cX6_giveTo RX6 10 none sh n 0 0 (gh_pv post)) (x0 : Nat) (x1 : Int32) (x2 : Int32) (x3 : Int32) (k6 : Int32 → gh_M → Prop) (hk6 : ∀ (y4 : Int32) (M : gh_M), k6 y4 M → gh_G X rm_X6_giveTo 10 0 0 sh n 6 [(0, .ref x0), (1, .int x1), (2, .int x2), (3, .int x3), (4, .int y4)] [] M) (x4 : Int32) (M : gh_M) (h : wb_X6_giveTo_6 sh post x0 x1 x2 x3 k6 x4 M) : gh_G X rm_X6_giveTo 10 0 0 sh n 6 [(0, .ref x0), (1, .int x1), (2, .int x2), (3, .int x3), (4, .int x4)] [] M := by
  unfold wb_X6_giveTo_6 at h
  refine k_iload C.1 4 rfl dX6_giveTo_6 ?_
  refine k_if_le C.1 121 dX6_giveTo_8 (by decide) (fun c1 => ?_) (fun c1 => ?_)
  · have h := h.1 c1
    exact k_vret C dX6_giveTo_121 h
  · have h := h.2 c1
    refine k_aload_n C.1 0 rfl dX6_giveTo_11 ?_
    obtain ⟨hs2, h⟩ := h
    obtain ⟨q3, hq3, h⟩ := h
    refine k_getR C.1 F_X6_21 dX6_giveTo_12 hs2 hq3 ?_
    refine k_iload C.1 4 rfl dX6_giveTo_15 ?_
    obtain ⟨hs4, h⟩ := h
    obtain ⟨hi5, h⟩ := h
    refine k_lald C.1 dX6_giveTo_17 hs4 hi5 ?_
    refine k_lstore (lv' := [(5, .long (rJ M q3 x4.toNatClampNeg)), (0, .ref x0), (1, .int x1), (2, .int x2), (3, .int x3), (4, .int x4)]) C.1 dX6_giveTo_18 (by decide) rfl ?_
    refine k_iload C.1 5 rfl dX6_giveTo_20 ?_
    refine k_istore (lv' := [(7, .int x4), (5, .long (rJ M q3 x4.toNatClampNeg)), (0, .ref x0), (1, .int x1), (2, .int x2), (3, .int x3), (4, .int x4)]) C.1 dX6_giveTo_22 (by decide) rfl ?_
    refine k_sub (lv' := [(0, .ref x0), (1, .int x1), (2, .int x2), (3, .int x3), (4, .int x4), (5, .long (rJ M q3 x4.toNatClampNeg)), (7, .int x4)]) [2, 3, 4, 5, 6, 1, 0] rfl ?_
    exact b_X6_giveTo_24 C x0 x1 x2 x3 x4 (rJ M q3 x4.toNatClampNeg) x4 M k6 hk6 h
set_option maxRecDepth 100000 in
theorem b_X6_giveTo_6 {X : gh_X} {sh : gh_Sh} {n : Nat} {post : gh_M → Prop} (C : gh_CR X cX6_giveTo RX6 10 none sh n 0 0 (gh_pv post)) (x0 : Nat) (x1 : Int32) (x2 : Int32) (x3 : Int32) (x4 : Int32) (M : gh_M) (h : wp_X6_giveTo_6 sh post x0 x1 x2 x3 x4 M) : gh_G X rm_X6_giveTo 10 0 0 sh n 6 [(0, .ref x0), (1, .int x1), (2, .int x2), (3, .int x3), (4, .int x4)] [] M := by
  unfold wp_X6_giveTo_6 at h
  exact gh_loop_use h (fun v => gh_G X rm_X6_giveTo 10 0 0 sh n 6 [(0, .ref x0), (1, .int x1), (2, .int x2), (3, .int x3), (4, .int v.1)] [] v.2) (fun k v hk hb => bb_X6_giveTo_6 C x0 x1 x2 x3 (fun x4 M => k (x4, M)) (fun x4 M h => hk (x4, M) h) v.1 v.2 hb)
set_option maxRecDepth 100000 in
set_option maxHeartbeats 4000000 in
theorem c_X6_giveTo {l : Launch} {D : va_G} {dA : Nat → ClassId} {sh : gh_Sh} {b0 n : Nat} {M : gh_M} {x0 : Nat} {x1 : Int32} {x2 : Int32} {x3 : Int32} {post : gh_M → Prop} (h : wp_X6_giveTo sh M x0 x1 x2 x3 post) : gh_Met l D dA sh b0 n yX6_giveTo cX6_giveTo 10 none rm_X6_giveTo M [.ref x0, .int x1, .int x2, .int x3] (gh_pv post) := by
  refine gh_open (by decide) (Nat.le_of_ble_eq_true rfl) (fun X C => ?_)
  show gh_G X rm_X6_giveTo 10 0 0 sh n 0 [(0, .ref x0), (1, .int x1), (2, .int x2), (3, .int x3)] [] M
  unfold wp_X6_giveTo at h
  refine k_aload_n C.1 0 rfl dX6_giveTo_0 ?_
  obtain ⟨hs1, h⟩ := h
  refine k_getI C.1 F_X6_57 dX6_giveTo_1 hs1 ?_
  refine k_istore (lv' := [(4, .int (rI M x0 4)), (0, .ref x0), (1, .int x1), (2, .int x2), (3, .int x3)]) C.1 dX6_giveTo_4 (by decide) rfl ?_
  refine k_sub (lv' := [(0, .ref x0), (1, .int x1), (2, .int x2), (3, .int x3), (4, .int (rI M x0 4))]) [1, 2, 3, 4, 0] rfl ?_
  exact b_X6_giveTo_6 C x0 x1 x2 x3 (rI M x0 4) M h
abbrev rm_X6_solve : Room := { frames := 3, cells := 0, slots := 0, locals := 64 }
set_option maxRecDepth 100000 in
set_option maxHeartbeats 4000000 in
theorem b_X6_solve_77 {X : gh_X} {sh : gh_Sh} {n : Nat} {post : gh_M → Prop} (C : gh_CR X cX6_solve RX6 4 none sh n 0 0 (gh_pv post)) (x0 : Nat) (x1 : Nat) (x2 : Int32) (x3 : Int32) (M : gh_M) (k45 : Int32 → gh_M → Prop) (hk45 : ∀ (y3 : Int32) (M : gh_M), k45 y3 M → gh_G X rm_X6_solve 4 0 0 sh n 45 [(0, .ref x0), (1, .ref x1), (2, .int x2), (3, .int y3)] [] M) (h : wp_X6_solve_77 sh post k45 x0 x1 x2 x3 M) : gh_G X rm_X6_solve 4 0 0 sh n 77 [(0, .ref x0), (1, .ref x1), (2, .int x2), (3, .int x3)] [] M := by
  unfold wp_X6_solve_77 at h
  refine k_iinc (v := x3 + 1) (lv' := [(3, .int (x3 + 1)), (0, .ref x0), (1, .ref x1), (2, .int x2)]) C.1 3 rfl dX6_solve_77 (by decide) rfl rfl ?_
  refine k_goto C.1 45 dX6_solve_80 (by decide) ?_
  refine k_sub (lv' := [(0, .ref x0), (1, .ref x1), (2, .int x2), (3, .int (x3 + 1))]) [1, 2, 3, 0] rfl ?_
  exact hk45 (x3 + 1) M h
set_option maxRecDepth 100000 in
set_option maxHeartbeats 4000000 in
theorem bb_X6_solve_45 {X : gh_X} {sh : gh_Sh} {n : Nat} {post : gh_M → Prop} (C : gh_CR X cX6_solve RX6 4 none sh n 0 0 (gh_pv post)) (x0 : Nat) (x1 : Nat) (x2 : Int32) (k45 : Int32 → gh_M → Prop) (hk45 : ∀ (y3 : Int32) (M : gh_M), k45 y3 M → gh_G X rm_X6_solve 4 0 0 sh n 45 [(0, .ref x0), (1, .ref x1), (2, .int x2), (3, .int y3)] [] M) (x3 : Int32) (M : gh_M) (h : wb_X6_solve_45 sh post x0 x1 x2 k45 x3 M) : gh_G X rm_X6_solve 4 0 0 sh n 45 [(0, .ref x0), (1, .ref x1), (2, .int x2), (3, .int x3)] [] M := by
  unfold wb_X6_solve_45 at h
  refine k_iload_n C.1 3 rfl dX6_solve_45 ?_
  refine k_aload_n C.1 1 rfl dX6_solve_46 ?_
  obtain ⟨hs1, h⟩ := h
  refine k_callV (As := []) (rest := [.int x3]) C.1 V_X6_37 (c_X2_count h) ⟨rfl, rfl, Nat.le_of_ble_eq_true rfl, Nat.le_of_ble_eq_true rfl⟩ hs1  rfl rfl (Nat.le_of_ble_eq_true rfl) ⟨Nat.zero_le _, Nat.zero_le _⟩ dX6_solve_47 (kp_i fun r3 M2 h9 => ?_)
  replace h := h9
  refine k_icmp_ge C.1 83 dX6_solve_50 (by decide) (fun c4 => ?_) (fun c4 => ?_)
  · have h := h.1 c4
    refine k_aload_n C.1 0 rfl dX6_solve_83 ?_
    refine k_aload_n C.1 0 rfl dX6_solve_84 ?_
    obtain ⟨hs5, h⟩ := h
    obtain ⟨q6, hq6, h⟩ := h
    refine k_getR C.1 F_X6_21 dX6_solve_85 hs5 hq6 ?_
    refine k_aload_n C.1 0 rfl dX6_solve_88 ?_
    refine k_getI C.1 F_X6_57 dX6_solve_89 hs5 ?_
    obtain ⟨hs7, h⟩ := h
    obtain ⟨hi8, h⟩ := h
    refine k_lald C.1 dX6_solve_92 hs7 hi8 ?_
    refine k_putJ C.1 F_X6_61 dX6_solve_93 hs5 rfl rfl ?_
    exact k_vret C dX6_solve_96 h
  · have h := h.2 c4
    refine k_aload_n C.1 1 rfl dX6_solve_53 ?_
    refine k_iload_n C.1 3 rfl dX6_solve_54 ?_
    refine k_iload_n C.1 2 rfl dX6_solve_55 ?_
    refine k_callV (As := [.int x3, .int x2]) (rest := []) C.1 V_X6_43 (c_X2_knows h) ⟨rfl, rfl, Nat.le_of_ble_eq_true rfl, Nat.le_of_ble_eq_true rfl⟩ hs1  rfl rfl (Nat.le_of_ble_eq_true rfl) ⟨Nat.zero_le _, Nat.zero_le _⟩ dX6_solve_56 (kp_i fun r10 M9 h9 => ?_)
    replace h := h9
    refine k_if_eq C.1 77 dX6_solve_59 (by decide) (fun c11 => ?_) (fun c11 => ?_)
    · have h := h.1 c11
      exact b_X6_solve_77 C x0 x1 x2 x3 M9 k45 hk45 h
    · have h := h.2 c11
      refine k_aload_n C.1 0 rfl dX6_solve_62 ?_
      refine k_iload_n C.1 3 rfl dX6_solve_63 ?_
      refine k_aload_n C.1 1 rfl dX6_solve_64 ?_
      refine k_iload_n C.1 3 rfl dX6_solve_65 ?_
      refine k_callV (As := [.int x3]) (rest := [.int x3, .ref x0]) C.1 V_X6_47 (c_X2_hoursOf h) ⟨rfl, rfl, Nat.le_of_ble_eq_true rfl, Nat.le_of_ble_eq_true rfl⟩ hs1  rfl rfl (Nat.le_of_ble_eq_true rfl) ⟨Nat.zero_le _, Nat.zero_le _⟩ dX6_solve_66 (kp_i fun r13 M12 h9 => ?_)
      replace h := h9
      refine k_aload_n C.1 1 rfl dX6_solve_69 ?_
      refine k_iload_n C.1 3 rfl dX6_solve_70 ?_
      refine k_callV (As := [.int x3]) (rest := [.int r13, .int x3, .ref x0]) C.1 V_X6_50 (c_X2_rateOf h) ⟨rfl, rfl, Nat.le_of_ble_eq_true rfl, Nat.le_of_ble_eq_true rfl⟩ hs1  rfl rfl (Nat.le_of_ble_eq_true rfl) ⟨Nat.zero_le _, Nat.zero_le _⟩ dX6_solve_71 (kp_i fun r15 M14 h9 => ?_)
      replace h := h9
      obtain ⟨hs16, h⟩ := h
      refine k_callV (As := [.int x3, .int r13, .int r15]) (rest := []) C.1 V_X6_53 (c_X6_giveTo h) ⟨rfl, rfl, Nat.le_of_ble_eq_true rfl, Nat.le_of_ble_eq_true rfl⟩ hs16  rfl rfl (Nat.le_of_ble_eq_true rfl) ⟨Nat.zero_le _, Nat.zero_le _⟩ dX6_solve_74 (kp_v fun M17 h9 => ?_)
      replace h := h9
      exact b_X6_solve_77 C x0 x1 x2 x3 M17 k45 hk45 h
set_option maxRecDepth 100000 in
theorem b_X6_solve_45 {X : gh_X} {sh : gh_Sh} {n : Nat} {post : gh_M → Prop} (C : gh_CR X cX6_solve RX6 4 none sh n 0 0 (gh_pv post)) (x0 : Nat) (x1 : Nat) (x2 : Int32) (x3 : Int32) (M : gh_M) (h : wp_X6_solve_45 sh post x0 x1 x2 x3 M) : gh_G X rm_X6_solve 4 0 0 sh n 45 [(0, .ref x0), (1, .ref x1), (2, .int x2), (3, .int x3)] [] M := by
  unfold wp_X6_solve_45 at h
  exact gh_loop_use h (fun v => gh_G X rm_X6_solve 4 0 0 sh n 45 [(0, .ref x0), (1, .ref x1), (2, .int x2), (3, .int v.1)] [] v.2) (fun k v hk hb => bb_X6_solve_45 C x0 x1 x2 (fun x3 M => k (x3, M)) (fun x3 M h => hk (x3, M) h) v.1 v.2 hb)
set_option maxRecDepth 100000 in
set_option maxHeartbeats 4000000 in
theorem bb_X6_solve_6 {X : gh_X} {sh : gh_Sh} {n : Nat} {post : gh_M → Prop} (C : gh_CR X cX6_solve RX6 4 none sh n 0 0 (gh_pv post)) (x0 : Nat) (x1 : Nat) (x2 : Int32) (k6 : Int32 → gh_M → Prop) (hk6 : ∀ (y3 : Int32) (M : gh_M), k6 y3 M → gh_G X rm_X6_solve 4 0 0 sh n 6 [(0, .ref x0), (1, .ref x1), (2, .int x2), (3, .int y3)] [] M) (x3 : Int32) (M : gh_M) (h : wb_X6_solve_6 sh post x0 x1 x2 k6 x3 M) : gh_G X rm_X6_solve 4 0 0 sh n 6 [(0, .ref x0), (1, .ref x1), (2, .int x2), (3, .int x3)] [] M := by
  unfold wb_X6_solve_6 at h
  refine k_iload_n C.1 3 rfl dX6_solve_6 ?_
  refine k_sipush (v := 256) C.1 dX6_solve_7 (by decide) ?_
  refine k_icmp_ge C.1 43 dX6_solve_10 (by decide) (fun c1 => ?_) (fun c1 => ?_)
  · have h := h.1 c1
    refine k_iconst (v := 0) C.1 dX6_solve_43 (by decide) ?_
    refine k_istore_n (lv' := [(3, .int (0 : Int32)), (0, .ref x0), (1, .ref x1), (2, .int x2)]) C.1 dX6_solve_44 (by decide) rfl ?_
    refine k_sub (lv' := [(0, .ref x0), (1, .ref x1), (2, .int x2), (3, .int (0 : Int32))]) [1, 2, 3, 0] rfl ?_
    exact b_X6_solve_45 C x0 x1 x2 (0 : Int32) M h
  · have h := h.2 c1
    refine k_aload_n C.1 0 rfl dX6_solve_13 ?_
    obtain ⟨hs2, h⟩ := h
    obtain ⟨q3, hq3, h⟩ := h
    refine k_getR C.1 F_X6_21 dX6_solve_14 hs2 hq3 ?_
    refine k_iload_n C.1 3 rfl dX6_solve_17 ?_
    refine k_iload_n C.1 3 rfl dX6_solve_18 ?_
    refine k_callS (As := [.int x3]) (rest := [.int x3, .ref q3]) C.1 V_X6_32 (c_J6_bitCount h) ⟨rfl, rfl, Nat.le_of_ble_eq_true rfl, Nat.le_of_ble_eq_true rfl⟩  rfl rfl (Nat.le_of_ble_eq_true rfl) ⟨Nat.zero_le _, Nat.zero_le _⟩ dX6_solve_19 (kp_i fun r5 M4 h9 => ?_)
    replace h := h9
    refine k_i2l C.1 dX6_solve_22 ?_
    refine k_bipush (v := 40) C.1 dX6_solve_23 (by decide) ?_
    refine k_lshl C.1 dX6_solve_25 ?_
    refine k_iconst (v := 5) C.1 dX6_solve_26 (by decide) ?_
    refine k_aload_n C.1 0 rfl dX6_solve_27 ?_
    obtain ⟨q6, hq6, h⟩ := h
    refine k_getR C.1 F_X6_18 dX6_solve_28 hs2 hq6 ?_
    refine k_iload_n C.1 3 rfl dX6_solve_31 ?_
    obtain ⟨hs7, h⟩ := h
    obtain ⟨hi8, h⟩ := h
    refine k_iald C.1 dX6_solve_32 hs7 hi8 ?_
    refine k_imul C.1 dX6_solve_33 ?_
    refine k_i2l C.1 dX6_solve_34 ?_
    refine k_ladd C.1 dX6_solve_35 ?_
    obtain ⟨hs10, h⟩ := h
    obtain ⟨hi9, h⟩ := h
    refine k_last C.1 dX6_solve_36 hs10 hi9 ?_
    refine k_iinc (v := x3 + 1) (lv' := [(3, .int (x3 + 1)), (0, .ref x0), (1, .ref x1), (2, .int x2)]) C.1 3 rfl dX6_solve_37 (by decide) rfl rfl ?_
    refine k_goto C.1 6 dX6_solve_40 (by decide) ?_
    refine k_sub (lv' := [(0, .ref x0), (1, .ref x1), (2, .int x2), (3, .int (x3 + 1))]) [1, 2, 3, 0] rfl ?_
    exact hk6 (x3 + 1) (wJ M4 q3 x3.toNatClampNeg ((r5.toInt64 <<< ((40 : Int32).toInt64 &&& 63)) + (((5 : Int32) * (rI M4 q6 x3.toNatClampNeg)).toInt64))) h
set_option maxRecDepth 100000 in
theorem b_X6_solve_6 {X : gh_X} {sh : gh_Sh} {n : Nat} {post : gh_M → Prop} (C : gh_CR X cX6_solve RX6 4 none sh n 0 0 (gh_pv post)) (x0 : Nat) (x1 : Nat) (x2 : Int32) (x3 : Int32) (M : gh_M) (h : wp_X6_solve_6 sh post x0 x1 x2 x3 M) : gh_G X rm_X6_solve 4 0 0 sh n 6 [(0, .ref x0), (1, .ref x1), (2, .int x2), (3, .int x3)] [] M := by
  unfold wp_X6_solve_6 at h
  exact gh_loop_use h (fun v => gh_G X rm_X6_solve 4 0 0 sh n 6 [(0, .ref x0), (1, .ref x1), (2, .int x2), (3, .int v.1)] [] v.2) (fun k v hk hb => bb_X6_solve_6 C x0 x1 x2 (fun x3 M => k (x3, M)) (fun x3 M h => hk (x3, M) h) v.1 v.2 hb)
set_option maxRecDepth 100000 in
set_option maxHeartbeats 4000000 in
theorem c_X6_solve {l : Launch} {D : va_G} {dA : Nat → ClassId} {sh : gh_Sh} {b0 n : Nat} {M : gh_M} {x0 : Nat} {x1 : Nat} {x2 : Int32} {post : gh_M → Prop} (h : wp_X6_solve sh M x0 x1 x2 post) : gh_Met l D dA sh b0 n yX6_solve cX6_solve 4 none rm_X6_solve M [.ref x0, .ref x1, .int x2] (gh_pv post) := by
  refine gh_open (by decide) (Nat.le_of_ble_eq_true rfl) (fun X C => ?_)
  show gh_G X rm_X6_solve 4 0 0 sh n 0 [(0, .ref x0), (1, .ref x1), (2, .int x2)] [] M
  unfold wp_X6_solve at h
  refine k_aload_n C.1 0 rfl dX6_solve_0 ?_
  obtain ⟨hs1, h⟩ := h
  refine k_callV (As := []) (rest := []) C.1 V_X6_29 (c_X6_measureSets h) ⟨rfl, rfl, Nat.le_of_ble_eq_true rfl, Nat.le_of_ble_eq_true rfl⟩ hs1  rfl rfl (Nat.le_of_ble_eq_true rfl) ⟨Nat.zero_le _, Nat.zero_le _⟩ dX6_solve_1 (kp_v fun M2 h9 => ?_)
  replace h := h9
  refine k_iconst (v := 0) C.1 dX6_solve_4 (by decide) ?_
  refine k_istore_n (lv' := [(3, .int (0 : Int32)), (0, .ref x0), (1, .ref x1), (2, .int x2)]) C.1 dX6_solve_5 (by decide) rfl ?_
  refine k_sub (lv' := [(0, .ref x0), (1, .ref x1), (2, .int x2), (3, .int (0 : Int32))]) [1, 2, 3, 0] rfl ?_
  exact b_X6_solve_6 C x0 x1 x2 (0 : Int32) M2 h
abbrev rm_X6_needing : Room := { frames := 1, cells := 0, slots := 0, locals := 20 }
set_option maxRecDepth 100000 in
set_option maxHeartbeats 4000000 in
theorem c_X6_needing {l : Launch} {D : va_G} {dA : Nat → ClassId} {sh : gh_Sh} {b0 n : Nat} {M : gh_M} {x0 : Nat} {post : Int32 → gh_M → Prop} (h : wp_X6_needing sh M x0 post) : gh_Met l D dA sh b0 n yX6_needing cX6_needing 1 (some .int) rm_X6_needing M [.ref x0] (gh_pi post) := by
  refine gh_open (by decide) (Nat.le_of_ble_eq_true rfl) (fun X C => ?_)
  show gh_G X rm_X6_needing 1 0 0 sh n 0 [(0, .ref x0)] [] M
  unfold wp_X6_needing at h
  refine k_aload_n C.1 0 rfl dX6_needing_0 ?_
  obtain ⟨hs1, h⟩ := h
  refine k_getI C.1 F_X6_57 dX6_needing_1 hs1 ?_
  refine k_callS (As := [.int (rI M x0 4)]) (rest := []) C.1 V_X6_32 (c_J6_bitCount h) ⟨rfl, rfl, Nat.le_of_ble_eq_true rfl, Nat.le_of_ble_eq_true rfl⟩  rfl rfl (Nat.le_of_ble_eq_true rfl) ⟨Nat.zero_le _, Nat.zero_le _⟩ dX6_needing_4 (kp_i fun r3 M2 h9 => ?_)
  replace h := h9
  exact k_iret C dX6_needing_7 h
abbrev rm_X6_withHand : Room := { frames := 2, cells := 0, slots := 0, locals := 40 }
set_option maxRecDepth 100000 in
set_option maxHeartbeats 4000000 in
theorem c_X6_withHand {l : Launch} {D : va_G} {dA : Nat → ClassId} {sh : gh_Sh} {b0 n : Nat} {M : gh_M} {x0 : Nat} {post : Int32 → gh_M → Prop} (h : wp_X6_withHand sh M x0 post) : gh_Met l D dA sh b0 n yX6_withHand cX6_withHand 1 (some .int) rm_X6_withHand M [.ref x0] (gh_pi post) := by
  refine gh_open (by decide) (Nat.le_of_ble_eq_true rfl) (fun X C => ?_)
  show gh_G X rm_X6_withHand 1 0 0 sh n 0 [(0, .ref x0)] [] M
  unfold wp_X6_withHand at h
  refine k_aload_n C.1 0 rfl dX6_withHand_0 ?_
  obtain ⟨hs1, h⟩ := h
  refine k_callV (As := []) (rest := []) C.1 V_X6_65 (c_X6_needing h) ⟨rfl, rfl, Nat.le_of_ble_eq_true rfl, Nat.le_of_ble_eq_true rfl⟩ hs1  rfl rfl (Nat.le_of_ble_eq_true rfl) ⟨Nat.zero_le _, Nat.zero_le _⟩ dX6_withHand_1 (kp_i fun r3 M2 h9 => ?_)
  replace h := h9
  refine k_aload_n C.1 0 rfl dX6_withHand_4 ?_
  refine k_getJ C.1 F_X6_61 dX6_withHand_5 hs1 ?_
  refine k_bipush (v := 40) C.1 dX6_withHand_8 (by decide) ?_
  refine k_lshr C.1 dX6_withHand_10 ?_
  refine k_l2i C.1 dX6_withHand_11 ?_
  refine k_isub C.1 dX6_withHand_12 ?_
  exact k_iret C dX6_withHand_13 h
abbrev rm_X6_cost : Room := { frames := 0, cells := 0, slots := 0, locals := 0 }
set_option maxRecDepth 100000 in
set_option maxHeartbeats 4000000 in
theorem c_X6_cost {l : Launch} {D : va_G} {dA : Nat → ClassId} {sh : gh_Sh} {b0 n : Nat} {M : gh_M} {x0 : Nat} {post : Int32 → gh_M → Prop} (h : wp_X6_cost sh M x0 post) : gh_Met l D dA sh b0 n yX6_cost cX6_cost 1 (some .int) rm_X6_cost M [.ref x0] (gh_pi post) := by
  refine gh_open (by decide) (Nat.le_of_ble_eq_true rfl) (fun X C => ?_)
  show gh_G X rm_X6_cost 1 0 0 sh n 0 [(0, .ref x0)] [] M
  unfold wp_X6_cost at h
  refine k_aload_n C.1 0 rfl dX6_cost_0 ?_
  obtain ⟨hs1, h⟩ := h
  refine k_getJ C.1 F_X6_61 dX6_cost_1 hs1 ?_
  refine k_bipush (v := 24) C.1 dX6_cost_4 (by decide) ?_
  refine k_lshr C.1 dX6_cost_6 ?_
  refine k_l2i C.1 dX6_cost_7 ?_
  refine k_ldc (v := 65535) C.1 (gh_in 764 (by decide +kernel) rfl) dX6_cost_8 ?_
  refine k_iand C.1 dX6_cost_10 ?_
  exact k_iret C dX6_cost_11 h
abbrev rm_X6_handOf : Room := { frames := 1, cells := 0, slots := 0, locals := 20 }
set_option maxRecDepth 100000 in
set_option maxHeartbeats 4000000 in
theorem c_X6_handOf {l : Launch} {D : va_G} {dA : Nat → ClassId} {sh : gh_Sh} {b0 n : Nat} {M : gh_M} {x0 : Nat} {x1 : Int32} {post : Int32 → gh_M → Prop} (h : wp_X6_handOf sh M x0 x1 post) : gh_Met l D dA sh b0 n yX6_handOf cX6_handOf 3 (some .int) rm_X6_handOf M [.ref x0, .int x1] (gh_pi post) := by
  refine gh_open (by decide) (Nat.le_of_ble_eq_true rfl) (fun X C => ?_)
  show gh_G X rm_X6_handOf 3 0 0 sh n 0 [(0, .ref x0), (1, .int x1)] [] M
  unfold wp_X6_handOf at h
  refine k_iload_n C.1 1 rfl dX6_handOf_0 ?_
  refine k_if_lt C.1 21 dX6_handOf_1 (by decide) (fun c1 => ?_) (fun c1 => ?_)
  · have h := h.1 c1
    refine k_bipush (v := (-5)) C.1 dX6_handOf_21 (by decide) ?_
    exact k_iret C dX6_handOf_23 h
  · have h := h.2 c1
    refine k_iload_n C.1 1 rfl dX6_handOf_4 ?_
    refine k_bipush (v := 8) C.1 dX6_handOf_5 (by decide) ?_
    refine k_icmp_ge C.1 21 dX6_handOf_7 (by decide) (fun c2 => ?_) (fun c2 => ?_)
    · have h := h.1 c2
      refine k_bipush (v := (-5)) C.1 dX6_handOf_21 (by decide) ?_
      exact k_iret C dX6_handOf_23 h
    · have h := h.2 c2
      refine k_aload_n C.1 0 rfl dX6_handOf_10 ?_
      obtain ⟨hs3, h⟩ := h
      refine k_getI C.1 F_X6_57 dX6_handOf_11 hs3 ?_
      refine k_iload_n C.1 1 rfl dX6_handOf_14 ?_
      refine k_ishr C.1 dX6_handOf_15 ?_
      refine k_iconst (v := 1) C.1 dX6_handOf_16 (by decide) ?_
      refine k_iand C.1 dX6_handOf_17 ?_
      refine k_if_ne C.1 24 dX6_handOf_18 (by decide) (fun c4 => ?_) (fun c4 => ?_)
      · have h := h.2 c4
        refine k_aload_n C.1 0 rfl dX6_handOf_24 ?_
        refine k_getJ C.1 F_X6_61 dX6_handOf_25 hs3 ?_
        refine k_iload_n C.1 1 rfl dX6_handOf_28 ?_
        refine k_callS (As := [.int x1]) (rest := [.long (rJ M x0 5)]) C.1 V_X6_25 (c_X6_shiftOf h) ⟨rfl, rfl, Nat.le_of_ble_eq_true rfl, Nat.le_of_ble_eq_true rfl⟩  rfl rfl (Nat.le_of_ble_eq_true rfl) ⟨Nat.zero_le _, Nat.zero_le _⟩ dX6_handOf_29 (kp_i fun r6 M5 h9 => ?_)
        replace h := h9
        refine k_lshr C.1 dX6_handOf_32 ?_
        refine k_l2i C.1 dX6_handOf_33 ?_
        refine k_bipush (v := 7) C.1 dX6_handOf_34 (by decide) ?_
        refine k_iand C.1 dX6_handOf_36 ?_
        refine k_istore_n (lv' := [(2, .int ((((rJ M x0 5) >>> (r6.toInt64 &&& 63)).toInt32) &&& (7 : Int32))), (0, .ref x0), (1, .int x1)]) C.1 dX6_handOf_37 (by decide) rfl ?_
        refine k_iload_n C.1 0 rfl dX6_handOf_38 ?_
        refine k_iconst (v := 5) C.1 dX6_handOf_39 (by decide) ?_
        refine k_icmp_ne C.1 48 dX6_handOf_40 (by decide) (fun c7 => ?_) (fun c7 => ?_)
        · have h := h.2 c7
          refine k_iload_n C.1 0 rfl dX6_handOf_48 ?_
          exact k_iret C dX6_handOf_49 h
        · have h := h.1 c7
          refine k_bipush (v := (-5)) C.1 dX6_handOf_43 (by decide) ?_
          refine k_goto C.1 49 dX6_handOf_45 (by decide) ?_
          exact k_iret C dX6_handOf_49 h
      · have h := h.1 c4
        refine k_bipush (v := (-5)) C.1 dX6_handOf_21 (by decide) ?_
        exact k_iret C dX6_handOf_23 h
abbrev rm_X7_isFull : Room := { frames := 0, cells := 0, slots := 0, locals := 0 }
set_option maxRecDepth 100000 in
set_option maxHeartbeats 4000000 in
theorem c_X7_isFull {l : Launch} {D : va_G} {dA : Nat → ClassId} {sh : gh_Sh} {b0 n : Nat} {M : gh_M} {x0 : Nat} {post : Int32 → gh_M → Prop} (h : wp_X7_isFull sh M x0 post) : gh_Met l D dA sh b0 n yX7_isFull cX7_isFull 1 (some .boolean) rm_X7_isFull M [.ref x0] (gh_pi post) := by
  refine gh_open (by decide) (Nat.le_of_ble_eq_true rfl) (fun X C => ?_)
  show gh_G X rm_X7_isFull 1 0 0 sh n 0 [(0, .ref x0)] [] M
  unfold wp_X7_isFull at h
  refine k_aload_n C.1 0 rfl dX7_isFull_0 ?_
  obtain ⟨hs1, h⟩ := h
  refine k_getI C.1 F_X7_15 dX7_isFull_1 hs1 ?_
  refine k_bipush (v := 10) C.1 dX7_isFull_4 (by decide) ?_
  refine k_icmp_lt C.1 13 dX7_isFull_6 (by decide) (fun c2 => ?_) (fun c2 => ?_)
  · have h := h.1 c2
    refine k_iconst (v := 0) C.1 dX7_isFull_13 (by decide) ?_
    exact k_zret C dX7_isFull_14 (Or.inl rfl) h
  · have h := h.2 c2
    refine k_iconst (v := 1) C.1 dX7_isFull_9 (by decide) ?_
    refine k_goto C.1 14 dX7_isFull_10 (by decide) ?_
    exact k_zret C dX7_isFull_14 (Or.inr rfl) h
abbrev rm_X7_askedFor : Room := { frames := 1, cells := 0, slots := 0, locals := 21 }
set_option maxRecDepth 100000 in
set_option maxHeartbeats 4000000 in
theorem c_X7_askedFor {l : Launch} {D : va_G} {dA : Nat → ClassId} {sh : gh_Sh} {b0 n : Nat} {M : gh_M} {x0 : Nat} {x1 : Int32} {x2 : Int32} {post : Int32 → gh_M → Prop} (h : wp_X7_askedFor sh M x0 x1 x2 post) : gh_Met l D dA sh b0 n yX7_askedFor cX7_askedFor 3 (some .int) rm_X7_askedFor M [.ref x0, .int x1, .int x2] (gh_pi post) := by
  refine gh_open (by decide) (Nat.le_of_ble_eq_true rfl) (fun X C => ?_)
  show gh_G X rm_X7_askedFor 3 0 0 sh n 0 [(0, .ref x0), (1, .int x1), (2, .int x2)] [] M
  unfold wp_X7_askedFor at h
  refine k_iload_n C.1 1 rfl dX7_askedFor_0 ?_
  refine k_iload_n C.1 2 rfl dX7_askedFor_1 ?_
  refine k_icmp_ge C.1 9 dX7_askedFor_2 (by decide) (fun c1 => ?_) (fun c1 => ?_)
  · have h := h.1 c1
    refine k_aload_n C.1 0 rfl dX7_askedFor_9 ?_
    refine k_iload_n C.1 1 rfl dX7_askedFor_10 ?_
    refine k_iload_n C.1 2 rfl dX7_askedFor_11 ?_
    refine k_isub C.1 dX7_askedFor_12 ?_
    obtain ⟨hs2, h⟩ := h
    refine k_callV (As := [.int (x1 - x2)]) (rest := []) C.1 V_X7_19 (c_X7_at h) ⟨rfl, rfl, Nat.le_of_ble_eq_true rfl, Nat.le_of_ble_eq_true rfl⟩ hs2  rfl rfl (Nat.le_of_ble_eq_true rfl) ⟨Nat.zero_le _, Nat.zero_le _⟩ dX7_askedFor_13 (kp_i fun r4 M3 h9 => ?_)
    replace h := h9
    exact k_iret C dX7_askedFor_16 h
  · have h := h.2 c1
    refine k_iconst (v := (-1)) C.1 dX7_askedFor_5 (by decide) ?_
    refine k_goto C.1 16 dX7_askedFor_6 (by decide) ?_
    exact k_iret C dX7_askedFor_16 h
abbrev rm_X7_add : Room := { frames := 1, cells := 0, slots := 0, locals := 20 }
set_option maxRecDepth 100000 in
set_option maxHeartbeats 4000000 in
theorem c_X7_add {l : Launch} {D : va_G} {dA : Nat → ClassId} {sh : gh_Sh} {b0 n : Nat} {M : gh_M} {x0 : Nat} {x1 : Int32} {post : gh_M → Prop} (h : wp_X7_add sh M x0 x1 post) : gh_Met l D dA sh b0 n yX7_add cX7_add 2 none rm_X7_add M [.ref x0, .int x1] (gh_pv post) := by
  refine gh_open (by decide) (Nat.le_of_ble_eq_true rfl) (fun X C => ?_)
  show gh_G X rm_X7_add 2 0 0 sh n 0 [(0, .ref x0), (1, .int x1)] [] M
  unfold wp_X7_add at h
  refine k_aload_n C.1 0 rfl dX7_add_0 ?_
  obtain ⟨hs1, h⟩ := h
  refine k_callV (As := []) (rest := []) C.1 V_X7_23 (c_X7_isFull h) ⟨rfl, rfl, Nat.le_of_ble_eq_true rfl, Nat.le_of_ble_eq_true rfl⟩ hs1  rfl rfl (Nat.le_of_ble_eq_true rfl) ⟨Nat.zero_le _, Nat.zero_le _⟩ dX7_add_1 (kp_i fun r3 M2 h9 => ?_)
  replace h := h9
  refine k_if_ne C.1 27 dX7_add_4 (by decide) (fun c4 => ?_) (fun c4 => ?_)
  · have h := h.2 c4
    exact k_vret C dX7_add_27 h
  · have h := h.1 c4
    refine k_aload_n C.1 0 rfl dX7_add_7 ?_
    obtain ⟨q5, hq5, h⟩ := h
    refine k_getR C.1 F_X7_9 dX7_add_8 hs1 hq5 ?_
    refine k_aload_n C.1 0 rfl dX7_add_11 ?_
    refine k_getI C.1 F_X7_15 dX7_add_12 hs1 ?_
    refine k_iload_n C.1 1 rfl dX7_add_15 ?_
    obtain ⟨hs7, h⟩ := h
    obtain ⟨hi6, h⟩ := h
    refine k_iast C.1 dX7_add_16 hs7 hi6 ?_
    refine k_aload_n C.1 0 rfl dX7_add_17 ?_
    refine k_dup C.1 dX7_add_18 rfl ?_
    refine k_getI C.1 F_X7_15 dX7_add_19 hs1 ?_
    refine k_iconst (v := 1) C.1 dX7_add_22 (by decide) ?_
    refine k_iadd C.1 dX7_add_23 ?_
    refine k_putI C.1 F_X7_15 dX7_add_24 hs1 rfl rfl ?_
    exact k_vret C dX7_add_27 h
abbrev rm_X7_timesOf : Room := { frames := 0, cells := 0, slots := 0, locals := 0 }
set_option maxRecDepth 100000 in
set_option maxHeartbeats 4000000 in
theorem b_X7_timesOf_25 {X : gh_X} {sh : gh_Sh} {n : Nat} {post : Int32 → gh_M → Prop} (C : gh_CR X cX7_timesOf RX7 4 (some .int) sh n 0 0 (gh_pi post)) (x0 : Nat) (x1 : Int32) (x2 : Int32) (x3 : Int32) (M : gh_M) (k4 : Int32 → Int32 → gh_M → Prop) (hk4 : ∀ (y2 : Int32) (y3 : Int32) (M : gh_M), k4 y2 y3 M → gh_G X rm_X7_timesOf 4 0 0 sh n 4 [(0, .ref x0), (1, .int x1), (2, .int y2), (3, .int y3)] [] M) (h : wp_X7_timesOf_25 sh post k4 x0 x1 x2 x3 M) : gh_G X rm_X7_timesOf 4 0 0 sh n 25 [(0, .ref x0), (1, .int x1), (2, .int x2), (3, .int x3)] [] M := by
  unfold wp_X7_timesOf_25 at h
  refine k_iinc (v := x3 + 1) (lv' := [(3, .int (x3 + 1)), (0, .ref x0), (1, .int x1), (2, .int x2)]) C.1 3 rfl dX7_timesOf_25 (by decide) rfl rfl ?_
  refine k_goto C.1 4 dX7_timesOf_28 (by decide) ?_
  refine k_sub (lv' := [(0, .ref x0), (1, .int x1), (2, .int x2), (3, .int (x3 + 1))]) [1, 2, 3, 0] rfl ?_
  exact hk4 x2 (x3 + 1) M h
set_option maxRecDepth 100000 in
set_option maxHeartbeats 4000000 in
theorem bb_X7_timesOf_4 {X : gh_X} {sh : gh_Sh} {n : Nat} {post : Int32 → gh_M → Prop} (C : gh_CR X cX7_timesOf RX7 4 (some .int) sh n 0 0 (gh_pi post)) (x0 : Nat) (x1 : Int32) (k4 : Int32 → Int32 → gh_M → Prop) (hk4 : ∀ (y2 : Int32) (y3 : Int32) (M : gh_M), k4 y2 y3 M → gh_G X rm_X7_timesOf 4 0 0 sh n 4 [(0, .ref x0), (1, .int x1), (2, .int y2), (3, .int y3)] [] M) (x2 : Int32) (x3 : Int32) (M : gh_M) (h : wb_X7_timesOf_4 sh post x0 x1 k4 x2 x3 M) : gh_G X rm_X7_timesOf 4 0 0 sh n 4 [(0, .ref x0), (1, .int x1), (2, .int x2), (3, .int x3)] [] M := by
  unfold wb_X7_timesOf_4 at h
  refine k_iload_n C.1 3 rfl dX7_timesOf_4 ?_
  refine k_aload_n C.1 0 rfl dX7_timesOf_5 ?_
  obtain ⟨hs1, h⟩ := h
  refine k_getI C.1 F_X7_15 dX7_timesOf_6 hs1 ?_
  refine k_icmp_ge C.1 31 dX7_timesOf_9 (by decide) (fun c2 => ?_) (fun c2 => ?_)
  · have h := h.1 c2
    refine k_iload_n C.1 2 rfl dX7_timesOf_31 ?_
    exact k_iret C dX7_timesOf_32 h
  · have h := h.2 c2
    refine k_aload_n C.1 0 rfl dX7_timesOf_12 ?_
    obtain ⟨q3, hq3, h⟩ := h
    refine k_getR C.1 F_X7_9 dX7_timesOf_13 hs1 hq3 ?_
    refine k_iload_n C.1 3 rfl dX7_timesOf_16 ?_
    obtain ⟨hs4, h⟩ := h
    obtain ⟨hi5, h⟩ := h
    refine k_iald C.1 dX7_timesOf_17 hs4 hi5 ?_
    refine k_iload_n C.1 1 rfl dX7_timesOf_18 ?_
    refine k_icmp_ne C.1 25 dX7_timesOf_19 (by decide) (fun c6 => ?_) (fun c6 => ?_)
    · have h := h.2 c6
      exact b_X7_timesOf_25 C x0 x1 x2 x3 M k4 hk4 h
    · have h := h.1 c6
      refine k_iinc (v := x2 + 1) (lv' := [(2, .int (x2 + 1)), (0, .ref x0), (1, .int x1), (3, .int x3)]) C.1 2 rfl dX7_timesOf_22 (by decide) rfl rfl ?_
      refine k_sub (lv' := [(0, .ref x0), (1, .int x1), (2, .int (x2 + 1)), (3, .int x3)]) [1, 2, 0, 3] rfl ?_
      exact b_X7_timesOf_25 C x0 x1 (x2 + 1) x3 M k4 hk4 h
set_option maxRecDepth 100000 in
theorem b_X7_timesOf_4 {X : gh_X} {sh : gh_Sh} {n : Nat} {post : Int32 → gh_M → Prop} (C : gh_CR X cX7_timesOf RX7 4 (some .int) sh n 0 0 (gh_pi post)) (x0 : Nat) (x1 : Int32) (x2 : Int32) (x3 : Int32) (M : gh_M) (h : wp_X7_timesOf_4 sh post x0 x1 x2 x3 M) : gh_G X rm_X7_timesOf 4 0 0 sh n 4 [(0, .ref x0), (1, .int x1), (2, .int x2), (3, .int x3)] [] M := by
  unfold wp_X7_timesOf_4 at h
  exact gh_loop_use h (fun v => gh_G X rm_X7_timesOf 4 0 0 sh n 4 [(0, .ref x0), (1, .int x1), (2, .int v.1), (3, .int v.2.1)] [] v.2.2) (fun k v hk hb => bb_X7_timesOf_4 C x0 x1 (fun x2 x3 M => k (x2, x3, M)) (fun x2 x3 M h => hk (x2, x3, M) h) v.1 v.2.1 v.2.2 hb)
set_option maxRecDepth 100000 in
set_option maxHeartbeats 4000000 in
theorem c_X7_timesOf {l : Launch} {D : va_G} {dA : Nat → ClassId} {sh : gh_Sh} {b0 n : Nat} {M : gh_M} {x0 : Nat} {x1 : Int32} {post : Int32 → gh_M → Prop} (h : wp_X7_timesOf sh M x0 x1 post) : gh_Met l D dA sh b0 n yX7_timesOf cX7_timesOf 4 (some .int) rm_X7_timesOf M [.ref x0, .int x1] (gh_pi post) := by
  refine gh_open (by decide) (Nat.le_of_ble_eq_true rfl) (fun X C => ?_)
  show gh_G X rm_X7_timesOf 4 0 0 sh n 0 [(0, .ref x0), (1, .int x1)] [] M
  unfold wp_X7_timesOf at h
  refine k_iconst (v := 0) C.1 dX7_timesOf_0 (by decide) ?_
  refine k_istore_n (lv' := [(2, .int (0 : Int32)), (0, .ref x0), (1, .int x1)]) C.1 dX7_timesOf_1 (by decide) rfl ?_
  refine k_iconst (v := 0) C.1 dX7_timesOf_2 (by decide) ?_
  refine k_istore_n (lv' := [(3, .int (0 : Int32)), (2, .int (0 : Int32)), (0, .ref x0), (1, .int x1)]) C.1 dX7_timesOf_3 (by decide) rfl ?_
  refine k_sub (lv' := [(0, .ref x0), (1, .int x1), (2, .int (0 : Int32)), (3, .int (0 : Int32))]) [2, 3, 1, 0] rfl ?_
  exact b_X7_timesOf_4 C x0 x1 (0 : Int32) (0 : Int32) M h
abbrev rm_X7_holdsAny : Room := { frames := 1, cells := 0, slots := 0, locals := 22 }
set_option maxRecDepth 100000 in
set_option maxHeartbeats 4000000 in
theorem bb_X7_holdsAny_2 {X : gh_X} {sh : gh_Sh} {n : Nat} {post : Int32 → gh_M → Prop} (C : gh_CR X cX7_holdsAny RX7 4 (some .boolean) sh n 0 0 (gh_pi post)) (x0 : Nat) (x1 : Int32) (x2 : Int32) (k2 : Int32 → gh_M → Prop) (hk2 : ∀ (y3 : Int32) (M : gh_M), k2 y3 M → gh_G X rm_X7_holdsAny 4 0 0 sh n 2 [(0, .ref x0), (1, .int x1), (2, .int x2), (3, .int y3)] [] M) (x3 : Int32) (M : gh_M) (h : wb_X7_holdsAny_2 sh post x0 x1 x2 k2 x3 M) : gh_G X rm_X7_holdsAny 4 0 0 sh n 2 [(0, .ref x0), (1, .int x1), (2, .int x2), (3, .int x3)] [] M := by
  unfold wb_X7_holdsAny_2 at h
  refine k_iload_n C.1 3 rfl dX7_holdsAny_2 ?_
  refine k_aload_n C.1 0 rfl dX7_holdsAny_3 ?_
  obtain ⟨hs1, h⟩ := h
  refine k_getI C.1 F_X7_15 dX7_holdsAny_4 hs1 ?_
  refine k_icmp_ge C.1 36 dX7_holdsAny_7 (by decide) (fun c2 => ?_) (fun c2 => ?_)
  · have h := h.1 c2
    refine k_iconst (v := 0) C.1 dX7_holdsAny_36 (by decide) ?_
    exact k_zret C dX7_holdsAny_37 (Or.inl rfl) h
  · have h := h.2 c2
    refine k_aload_n C.1 0 rfl dX7_holdsAny_10 ?_
    obtain ⟨q3, hq3, h⟩ := h
    refine k_getR C.1 F_X7_9 dX7_holdsAny_11 hs1 hq3 ?_
    refine k_iload_n C.1 3 rfl dX7_holdsAny_14 ?_
    obtain ⟨hs4, h⟩ := h
    obtain ⟨hi5, h⟩ := h
    refine k_iald C.1 dX7_holdsAny_15 hs4 hi5 ?_
    refine k_iload_n C.1 1 rfl dX7_holdsAny_16 ?_
    refine k_iload_n C.1 1 rfl dX7_holdsAny_17 ?_
    refine k_iload_n C.1 2 rfl dX7_holdsAny_18 ?_
    refine k_iadd C.1 dX7_holdsAny_19 ?_
    refine k_iconst (v := 1) C.1 dX7_holdsAny_20 (by decide) ?_
    refine k_isub C.1 dX7_holdsAny_21 ?_
    refine k_callSN (As := [.int (rI M q3 x3.toNatClampNeg), .int x1, .int ((x1 + x2) - (1 : Int32))]) (rest := []) C.1 V_X7_27 (c_X11_isIn h) ⟨rfl, rfl, Nat.le_of_ble_eq_true rfl, Nat.le_of_ble_eq_true rfl⟩  rfl rfl (Nat.le_of_ble_eq_true rfl) ⟨Nat.zero_le _, Nat.zero_le _⟩ dX7_holdsAny_22 (kp_i fun r7 M6 h9 => ?_)
    replace h := h9
    refine k_if_eq C.1 30 dX7_holdsAny_25 (by decide) (fun c8 => ?_) (fun c8 => ?_)
    · have h := h.1 c8
      refine k_iinc (v := x3 + 1) (lv' := [(3, .int (x3 + 1)), (0, .ref x0), (1, .int x1), (2, .int x2)]) C.1 3 rfl dX7_holdsAny_30 (by decide) rfl rfl ?_
      refine k_goto C.1 2 dX7_holdsAny_33 (by decide) ?_
      refine k_sub (lv' := [(0, .ref x0), (1, .int x1), (2, .int x2), (3, .int (x3 + 1))]) [1, 2, 3, 0] rfl ?_
      exact hk2 (x3 + 1) M6 h
    · have h := h.2 c8
      refine k_iconst (v := 1) C.1 dX7_holdsAny_28 (by decide) ?_
      exact k_zret C dX7_holdsAny_29 (Or.inr rfl) h
set_option maxRecDepth 100000 in
theorem b_X7_holdsAny_2 {X : gh_X} {sh : gh_Sh} {n : Nat} {post : Int32 → gh_M → Prop} (C : gh_CR X cX7_holdsAny RX7 4 (some .boolean) sh n 0 0 (gh_pi post)) (x0 : Nat) (x1 : Int32) (x2 : Int32) (x3 : Int32) (M : gh_M) (h : wp_X7_holdsAny_2 sh post x0 x1 x2 x3 M) : gh_G X rm_X7_holdsAny 4 0 0 sh n 2 [(0, .ref x0), (1, .int x1), (2, .int x2), (3, .int x3)] [] M := by
  unfold wp_X7_holdsAny_2 at h
  exact gh_loop_use h (fun v => gh_G X rm_X7_holdsAny 4 0 0 sh n 2 [(0, .ref x0), (1, .int x1), (2, .int x2), (3, .int v.1)] [] v.2) (fun k v hk hb => bb_X7_holdsAny_2 C x0 x1 x2 (fun x3 M => k (x3, M)) (fun x3 M h => hk (x3, M) h) v.1 v.2 hb)
set_option maxRecDepth 100000 in
set_option maxHeartbeats 4000000 in
theorem c_X7_holdsAny {l : Launch} {D : va_G} {dA : Nat → ClassId} {sh : gh_Sh} {b0 n : Nat} {M : gh_M} {x0 : Nat} {x1 : Int32} {x2 : Int32} {post : Int32 → gh_M → Prop} (h : wp_X7_holdsAny sh M x0 x1 x2 post) : gh_Met l D dA sh b0 n yX7_holdsAny cX7_holdsAny 4 (some .boolean) rm_X7_holdsAny M [.ref x0, .int x1, .int x2] (gh_pi post) := by
  refine gh_open (by decide) (Nat.le_of_ble_eq_true rfl) (fun X C => ?_)
  show gh_G X rm_X7_holdsAny 4 0 0 sh n 0 [(0, .ref x0), (1, .int x1), (2, .int x2)] [] M
  unfold wp_X7_holdsAny at h
  refine k_iconst (v := 0) C.1 dX7_holdsAny_0 (by decide) ?_
  refine k_istore_n (lv' := [(3, .int (0 : Int32)), (0, .ref x0), (1, .int x1), (2, .int x2)]) C.1 dX7_holdsAny_1 (by decide) rfl ?_
  refine k_sub (lv' := [(0, .ref x0), (1, .int x1), (2, .int x2), (3, .int (0 : Int32))]) [1, 2, 3, 0] rfl ?_
  exact b_X7_holdsAny_2 C x0 x1 x2 (0 : Int32) M h
abbrev rm_X9_count : Room := { frames := 0, cells := 0, slots := 0, locals := 0 }
set_option maxRecDepth 100000 in
set_option maxHeartbeats 4000000 in
theorem c_X9_count {l : Launch} {D : va_G} {dA : Nat → ClassId} {sh : gh_Sh} {b0 n : Nat} {M : gh_M} {x0 : Nat} {post : Int32 → gh_M → Prop} (h : wp_X9_count sh M x0 post) : gh_Met l D dA sh b0 n yX9_count cX9_count 1 (some .int) rm_X9_count M [.ref x0] (gh_pi post) := by
  refine gh_open (by decide) (Nat.le_of_ble_eq_true rfl) (fun X C => ?_)
  show gh_G X rm_X9_count 1 0 0 sh n 0 [(0, .ref x0)] [] M
  unfold wp_X9_count at h
  refine k_aload_n C.1 0 rfl dX9_count_0 ?_
  obtain ⟨hs1, h⟩ := h
  refine k_getI C.1 F_X9_16 dX9_count_1 hs1 ?_
  exact k_iret C dX9_count_4 h
abbrev rm_X9_isFull : Room := { frames := 0, cells := 0, slots := 0, locals := 0 }
set_option maxRecDepth 100000 in
set_option maxHeartbeats 4000000 in
theorem c_X9_isFull {l : Launch} {D : va_G} {dA : Nat → ClassId} {sh : gh_Sh} {b0 n : Nat} {M : gh_M} {x0 : Nat} {post : Int32 → gh_M → Prop} (h : wp_X9_isFull sh M x0 post) : gh_Met l D dA sh b0 n yX9_isFull cX9_isFull 1 (some .boolean) rm_X9_isFull M [.ref x0] (gh_pi post) := by
  refine gh_open (by decide) (Nat.le_of_ble_eq_true rfl) (fun X C => ?_)
  show gh_G X rm_X9_isFull 1 0 0 sh n 0 [(0, .ref x0)] [] M
  unfold wp_X9_isFull at h
  refine k_aload_n C.1 0 rfl dX9_isFull_0 ?_
  obtain ⟨hs1, h⟩ := h
  refine k_getI C.1 F_X9_16 dX9_isFull_1 hs1 ?_
  refine k_bipush (v := 10) C.1 dX9_isFull_4 (by decide) ?_
  refine k_icmp_lt C.1 13 dX9_isFull_6 (by decide) (fun c2 => ?_) (fun c2 => ?_)
  · have h := h.1 c2
    refine k_iconst (v := 0) C.1 dX9_isFull_13 (by decide) ?_
    exact k_zret C dX9_isFull_14 (Or.inl rfl) h
  · have h := h.2 c2
    refine k_iconst (v := 1) C.1 dX9_isFull_9 (by decide) ?_
    refine k_goto C.1 14 dX9_isFull_10 (by decide) ?_
    exact k_zret C dX9_isFull_14 (Or.inr rfl) h
abbrev rm_X11_isWord : Room := { frames := 1, cells := 0, slots := 0, locals := 22 }
set_option maxRecDepth 100000 in
set_option maxHeartbeats 4000000 in
theorem c_X11_isWord {l : Launch} {D : va_G} {dA : Nat → ClassId} {sh : gh_Sh} {b0 n : Nat} {M : gh_M} {x0 : Int32} {post : Int32 → gh_M → Prop} (h : wp_X11_isWord sh M x0 post) : gh_Met l D dA sh b0 n yX11_isWord cX11_isWord 1 (some .boolean) rm_X11_isWord M [.int x0] (gh_pi post) := by
  refine gh_open (by decide) (Nat.le_of_ble_eq_true rfl) (fun X C => ?_)
  show gh_G X rm_X11_isWord 1 0 0 sh n 0 [(0, .int x0)] [] M
  unfold wp_X11_isWord at h
  refine k_iload_n C.1 0 rfl dX11_isWord_0 ?_
  refine k_iconst (v := 0) C.1 dX11_isWord_1 (by decide) ?_
  refine k_bipush (v := 99) C.1 dX11_isWord_2 (by decide) ?_
  refine k_callS (As := [.int x0, .int (0 : Int32), .int (99 : Int32)]) (rest := []) C.1 V_X11_101 (c_X11_isIn h) ⟨rfl, rfl, Nat.le_of_ble_eq_true rfl, Nat.le_of_ble_eq_true rfl⟩  rfl rfl (Nat.le_of_ble_eq_true rfl) ⟨Nat.zero_le _, Nat.zero_le _⟩ dX11_isWord_4 (kp_i fun r2 M1 h9 => ?_)
  replace h := h9
  exact k_zret C dX11_isWord_7 h.1 h.2
abbrev rm_X9_ownWordOf : Room := { frames := 2, cells := 0, slots := 0, locals := 42 }
set_option maxRecDepth 100000 in
set_option maxHeartbeats 4000000 in
theorem c_X9_ownWordOf {l : Launch} {D : va_G} {dA : Nat → ClassId} {sh : gh_Sh} {b0 n : Nat} {M : gh_M} {x0 : Nat} {x1 : Int32} {x2 : Int32} {post : Int32 → gh_M → Prop} (h : wp_X9_ownWordOf sh M x0 x1 x2 post) : gh_Met l D dA sh b0 n yX9_ownWordOf cX9_ownWordOf 3 (some .int) rm_X9_ownWordOf M [.ref x0, .int x1, .int x2] (gh_pi post) := by
  refine gh_open (by decide) (Nat.le_of_ble_eq_true rfl) (fun X C => ?_)
  show gh_G X rm_X9_ownWordOf 3 0 0 sh n 0 [(0, .ref x0), (1, .int x1), (2, .int x2)] [] M
  unfold wp_X9_ownWordOf at h
  refine k_iload_n C.1 1 rfl dX9_ownWordOf_0 ?_
  refine k_callSN (As := [.int x1]) (rest := []) C.1 V_X9_20 (c_X11_isWord h) ⟨rfl, rfl, Nat.le_of_ble_eq_true rfl, Nat.le_of_ble_eq_true rfl⟩  rfl rfl (Nat.le_of_ble_eq_true rfl) ⟨Nat.zero_le _, Nat.zero_le _⟩ dX9_ownWordOf_1 (kp_i fun r2 M1 h9 => ?_)
  replace h := h9
  refine k_if_eq C.1 25 dX9_ownWordOf_4 (by decide) (fun c3 => ?_) (fun c3 => ?_)
  · have h := h.1 c3
    refine k_iconst (v := 0) C.1 dX9_ownWordOf_25 (by decide) ?_
    exact k_iret C dX9_ownWordOf_26 h
  · have h := h.2 c3
    refine k_iload_n C.1 2 rfl dX9_ownWordOf_7 ?_
    refine k_callSN (As := [.int x2]) (rest := []) C.1 V_X9_24 (c_X11_isTongue h) ⟨rfl, rfl, Nat.le_of_ble_eq_true rfl, Nat.le_of_ble_eq_true rfl⟩  rfl rfl (Nat.le_of_ble_eq_true rfl) ⟨Nat.zero_le _, Nat.zero_le _⟩ dX9_ownWordOf_8 (kp_i fun r5 M4 h9 => ?_)
    replace h := h9
    refine k_if_eq C.1 25 dX9_ownWordOf_11 (by decide) (fun c6 => ?_) (fun c6 => ?_)
    · have h := h.1 c6
      refine k_iconst (v := 0) C.1 dX9_ownWordOf_25 (by decide) ?_
      exact k_iret C dX9_ownWordOf_26 h
    · have h := h.2 c6
      refine k_aload_n C.1 0 rfl dX9_ownWordOf_14 ?_
      obtain ⟨hs7, h⟩ := h
      obtain ⟨q8, hq8, h⟩ := h
      refine k_getR C.1 F_X9_11 dX9_ownWordOf_15 hs7 hq8 ?_
      refine k_iload_n C.1 2 rfl dX9_ownWordOf_18 ?_
      obtain ⟨hs9, h⟩ := h
      obtain ⟨hi10, q11, hq11, h⟩ := h
      refine k_aald (kd := 18) C.1 dX9_ownWordOf_19 (by decide) (by decide) rfl rfl hs9 hi10 hq11 ?_
      refine k_iload_n C.1 1 rfl dX9_ownWordOf_20 ?_
      obtain ⟨hs12, h⟩ := h
      obtain ⟨hi13, h⟩ := h
      refine k_iald C.1 dX9_ownWordOf_21 hs12 hi13 ?_
      refine k_goto C.1 26 dX9_ownWordOf_22 (by decide) ?_
      exact k_iret C dX9_ownWordOf_26 h
abbrev rm_X9_has : Room := { frames := 3, cells := 0, slots := 0, locals := 64 }
set_option maxRecDepth 100000 in
set_option maxHeartbeats 4000000 in
theorem c_X9_has {l : Launch} {D : va_G} {dA : Nat → ClassId} {sh : gh_Sh} {b0 n : Nat} {M : gh_M} {x0 : Nat} {x1 : Int32} {x2 : Int32} {post : Int32 → gh_M → Prop} (h : wp_X9_has sh M x0 x1 x2 post) : gh_Met l D dA sh b0 n yX9_has cX9_has 3 (some .boolean) rm_X9_has M [.ref x0, .int x1, .int x2] (gh_pi post) := by
  refine gh_open (by decide) (Nat.le_of_ble_eq_true rfl) (fun X C => ?_)
  show gh_G X rm_X9_has 3 0 0 sh n 0 [(0, .ref x0), (1, .int x1), (2, .int x2)] [] M
  unfold wp_X9_has at h
  refine k_aload_n C.1 0 rfl dX9_has_0 ?_
  refine k_iload_n C.1 1 rfl dX9_has_1 ?_
  refine k_iload_n C.1 2 rfl dX9_has_2 ?_
  obtain ⟨hs1, h⟩ := h
  refine k_callV (As := [.int x1, .int x2]) (rest := []) C.1 V_X9_27 (c_X9_ownWordOf h) ⟨rfl, rfl, Nat.le_of_ble_eq_true rfl, Nat.le_of_ble_eq_true rfl⟩ hs1  rfl rfl (Nat.le_of_ble_eq_true rfl) ⟨Nat.zero_le _, Nat.zero_le _⟩ dX9_has_3 (kp_i fun r3 M2 h9 => ?_)
  replace h := h9
  refine k_if_eq C.1 13 dX9_has_6 (by decide) (fun c4 => ?_) (fun c4 => ?_)
  · have h := h.1 c4
    refine k_iconst (v := 0) C.1 dX9_has_13 (by decide) ?_
    exact k_zret C dX9_has_14 (Or.inl rfl) h
  · have h := h.2 c4
    refine k_iconst (v := 1) C.1 dX9_has_9 (by decide) ?_
    refine k_goto C.1 14 dX9_has_10 (by decide) ?_
    exact k_zret C dX9_has_14 (Or.inr rfl) h
