abbrev rm_X0_count : Room := { frames := 0, cells := 0, slots := 0, locals := 0 }
set_option maxRecDepth 100000 in
set_option maxHeartbeats 4000000 in
theorem c_X0_count {l : Launch} {D : va_G} {dA : Nat → ClassId} {sh : gh_Sh} {b0 n : Nat} {M : gh_M} {x0 : Nat} {post : Int32 → gh_M → Prop} (h : wp_X0_count sh M x0 post) : gh_Met l D dA sh b0 n yX0_count cX0_count 1 (some .int) rm_X0_count M [.ref x0] (gh_pi post) := by
  refine gh_open (by decide) (Nat.le_of_ble_eq_true rfl) (fun X C => ?_)
  show gh_G X rm_X0_count 1 0 0 sh n 0 [(0, .ref x0)] [] M
  unfold wp_X0_count at h
  refine k_aload_n C.1 0 rfl dX0_count_0 ?_
  obtain ⟨hs1, h⟩ := h
  refine k_getI C.1 F_X0_18 dX0_count_1 hs1 ?_
  exact k_iret C dX0_count_4 h
abbrev rm_X0_isFull : Room := { frames := 0, cells := 0, slots := 0, locals := 0 }
set_option maxRecDepth 100000 in
set_option maxHeartbeats 4000000 in
theorem c_X0_isFull {l : Launch} {D : va_G} {dA : Nat → ClassId} {sh : gh_Sh} {b0 n : Nat} {M : gh_M} {x0 : Nat} {post : Int32 → gh_M → Prop} (h : wp_X0_isFull sh M x0 post) : gh_Met l D dA sh b0 n yX0_isFull cX0_isFull 1 (some .boolean) rm_X0_isFull M [.ref x0] (gh_pi post) := by
  refine gh_open (by decide) (Nat.le_of_ble_eq_true rfl) (fun X C => ?_)
  show gh_G X rm_X0_isFull 1 0 0 sh n 0 [(0, .ref x0)] [] M
  unfold wp_X0_isFull at h
  refine k_aload_n C.1 0 rfl dX0_isFull_0 ?_
  obtain ⟨hs1, h⟩ := h
  refine k_getI C.1 F_X0_18 dX0_isFull_1 hs1 ?_
  refine k_bipush (v := 8) C.1 dX0_isFull_4 (by decide) ?_
  refine k_icmp_lt C.1 13 dX0_isFull_6 (by decide) (fun c2 => ?_) (fun c2 => ?_)
  · have h := h.1 c2
    refine k_iconst (v := 0) C.1 dX0_isFull_13 (by decide) ?_
    exact k_zret C dX0_isFull_14 (Or.inl rfl) h
  · have h := h.2 c2
    refine k_iconst (v := 1) C.1 dX0_isFull_9 (by decide) ?_
    refine k_goto C.1 14 dX0_isFull_10 (by decide) ?_
    exact k_zret C dX0_isFull_14 (Or.inr rfl) h
abbrev rm_X0_at : Room := { frames := 0, cells := 0, slots := 0, locals := 0 }
set_option maxRecDepth 100000 in
set_option maxHeartbeats 4000000 in
theorem c_X0_at {l : Launch} {D : va_G} {dA : Nat → ClassId} {sh : gh_Sh} {b0 n : Nat} {M : gh_M} {x0 : Nat} {x1 : Int32} {post : Option Nat → gh_M → Prop} (h : wp_X0_at sh M x0 x1 post) : gh_Met l D dA sh b0 n yX0_at cX0_at 2 (some (.object "GlossHouse$Piece")) rm_X0_at M [.ref x0, .int x1] (gh_pq post) := by
  refine gh_open (by decide) (Nat.le_of_ble_eq_true rfl) (fun X C => ?_)
  show gh_G X rm_X0_at 2 0 0 sh n 0 [(0, .ref x0), (1, .int x1)] [] M
  unfold wp_X0_at at h
  refine k_iload_n C.1 1 rfl dX0_at_0 ?_
  refine k_if_lt C.1 21 dX0_at_1 (by decide) (fun c1 => ?_) (fun c1 => ?_)
  · have h := h.1 c1
    refine k_null C.1 dX0_at_21 ?_
    exact k_qret (r := none) C dX0_at_22 h
  · have h := h.2 c1
    refine k_iload_n C.1 1 rfl dX0_at_4 ?_
    refine k_aload_n C.1 0 rfl dX0_at_5 ?_
    obtain ⟨hs2, h⟩ := h
    refine k_getI C.1 F_X0_18 dX0_at_6 hs2 ?_
    refine k_icmp_ge C.1 21 dX0_at_9 (by decide) (fun c3 => ?_) (fun c3 => ?_)
    · have h := h.1 c3
      refine k_null C.1 dX0_at_21 ?_
      exact k_qret (r := none) C dX0_at_22 h
    · have h := h.2 c3
      refine k_aload_n C.1 0 rfl dX0_at_12 ?_
      obtain ⟨q4, hq4, h⟩ := h
      refine k_getR C.1 F_X0_11 dX0_at_13 hs2 hq4 ?_
      refine k_iload_n C.1 1 rfl dX0_at_16 ?_
      obtain ⟨hs5, h⟩ := h
      obtain ⟨hi6, q7, hq7, h⟩ := h
      refine k_aald (kd := 16) C.1 dX0_at_17 (by decide) (by decide) rfl rfl hs5 hi6 hq7 ?_
      refine k_goto C.1 22 dX0_at_18 (by decide) ?_
      exact k_qret (r := some q7) C dX0_at_22 h
abbrev rm_X7_copy : Room := { frames := 0, cells := 0, slots := 0, locals := 0 }
set_option maxRecDepth 100000 in
set_option maxHeartbeats 4000000 in
theorem bb_X7_copy_10 {X : gh_X} {sh : gh_Sh} {n : Nat} {post : gh_M → Prop} (C : gh_CR X cX7_copy RX7 3 none sh n 0 0 (gh_pv post)) (x0 : Nat) (x1 : Nat) (k10 : Int32 → gh_M → Prop) (hk10 : ∀ (y2 : Int32) (M : gh_M), k10 y2 M → gh_G X rm_X7_copy 3 0 0 sh n 10 [(0, .ref x0), (1, .ref x1), (2, .int y2)] [] M) (x2 : Int32) (M : gh_M) (h : wb_X7_copy_10 sh post x0 x1 k10 x2 M) : gh_G X rm_X7_copy 3 0 0 sh n 10 [(0, .ref x0), (1, .ref x1), (2, .int x2)] [] M := by
  unfold wb_X7_copy_10 at h
  refine k_iload_n C.1 2 rfl dX7_copy_10 ?_
  refine k_aload_n C.1 0 rfl dX7_copy_11 ?_
  obtain ⟨hs1, h⟩ := h
  refine k_getI C.1 F_X7_15 dX7_copy_12 hs1 ?_
  refine k_icmp_ge C.1 36 dX7_copy_15 (by decide) (fun c2 => ?_) (fun c2 => ?_)
  · have h := h.1 c2
    exact k_vret C dX7_copy_36 h
  · have h := h.2 c2
    refine k_aload_n C.1 0 rfl dX7_copy_18 ?_
    obtain ⟨q3, hq3, h⟩ := h
    refine k_getR C.1 F_X7_9 dX7_copy_19 hs1 hq3 ?_
    refine k_iload_n C.1 2 rfl dX7_copy_22 ?_
    refine k_aload_n C.1 1 rfl dX7_copy_23 ?_
    obtain ⟨hs4, h⟩ := h
    obtain ⟨q5, hq5, h⟩ := h
    refine k_getR C.1 F_X7_9 dX7_copy_24 hs4 hq5 ?_
    refine k_iload_n C.1 2 rfl dX7_copy_27 ?_
    obtain ⟨hs6, h⟩ := h
    obtain ⟨hi7, h⟩ := h
    refine k_iald C.1 dX7_copy_28 hs6 hi7 ?_
    obtain ⟨hs9, h⟩ := h
    obtain ⟨hi8, h⟩ := h
    refine k_iast C.1 dX7_copy_29 hs9 hi8 ?_
    refine k_iinc (v := x2 + 1) (lv' := [(2, .int (x2 + 1)), (0, .ref x0), (1, .ref x1)]) C.1 2 rfl dX7_copy_30 (by decide) rfl rfl ?_
    refine k_goto C.1 10 dX7_copy_33 (by decide) ?_
    refine k_sub (lv' := [(0, .ref x0), (1, .ref x1), (2, .int (x2 + 1))]) [1, 2, 0] rfl ?_
    exact hk10 (x2 + 1) (wI M q3 x2.toNatClampNeg (rI M q5 x2.toNatClampNeg)) h
set_option maxRecDepth 100000 in
theorem b_X7_copy_10 {X : gh_X} {sh : gh_Sh} {n : Nat} {post : gh_M → Prop} (C : gh_CR X cX7_copy RX7 3 none sh n 0 0 (gh_pv post)) (x0 : Nat) (x1 : Nat) (x2 : Int32) (M : gh_M) (h : wp_X7_copy_10 sh post x0 x1 x2 M) : gh_G X rm_X7_copy 3 0 0 sh n 10 [(0, .ref x0), (1, .ref x1), (2, .int x2)] [] M := by
  unfold wp_X7_copy_10 at h
  exact gh_loop_use h (fun v => gh_G X rm_X7_copy 3 0 0 sh n 10 [(0, .ref x0), (1, .ref x1), (2, .int v.1)] [] v.2) (fun k v hk hb => bb_X7_copy_10 C x0 x1 (fun x2 M => k (x2, M)) (fun x2 M h => hk (x2, M) h) v.1 v.2 hb)
set_option maxRecDepth 100000 in
set_option maxHeartbeats 4000000 in
theorem c_X7_copy {l : Launch} {D : va_G} {dA : Nat → ClassId} {sh : gh_Sh} {b0 n : Nat} {M : gh_M} {x0 : Nat} {x1 : Nat} {post : gh_M → Prop} (h : wp_X7_copy sh M x0 x1 post) : gh_Met l D dA sh b0 n yX7_copy cX7_copy 3 none rm_X7_copy M [.ref x0, .ref x1] (gh_pv post) := by
  refine gh_open (by decide) (Nat.le_of_ble_eq_true rfl) (fun X C => ?_)
  show gh_G X rm_X7_copy 3 0 0 sh n 0 [(0, .ref x0), (1, .ref x1)] [] M
  unfold wp_X7_copy at h
  refine k_aload_n C.1 0 rfl dX7_copy_0 ?_
  refine k_aload_n C.1 1 rfl dX7_copy_1 ?_
  obtain ⟨hs1, h⟩ := h
  refine k_getI C.1 F_X7_15 dX7_copy_2 hs1 ?_
  obtain ⟨hs2, h⟩ := h
  refine k_putI C.1 F_X7_15 dX7_copy_5 hs2 rfl rfl ?_
  refine k_iconst (v := 0) C.1 dX7_copy_8 (by decide) ?_
  refine k_istore_n (lv' := [(2, .int (0 : Int32)), (0, .ref x0), (1, .ref x1)]) C.1 dX7_copy_9 (by decide) rfl ?_
  refine k_sub (lv' := [(0, .ref x0), (1, .ref x1), (2, .int (0 : Int32))]) [1, 2, 0] rfl ?_
  exact b_X7_copy_10 C x0 x1 (0 : Int32) (wI M x0 1 (rI M x1 1)) h
abbrev rm_X7_clear : Room := { frames := 0, cells := 0, slots := 0, locals := 0 }
set_option maxRecDepth 100000 in
set_option maxHeartbeats 4000000 in
theorem c_X7_clear {l : Launch} {D : va_G} {dA : Nat → ClassId} {sh : gh_Sh} {b0 n : Nat} {M : gh_M} {x0 : Nat} {post : gh_M → Prop} (h : wp_X7_clear sh M x0 post) : gh_Met l D dA sh b0 n yX7_clear cX7_clear 1 none rm_X7_clear M [.ref x0] (gh_pv post) := by
  refine gh_open (by decide) (Nat.le_of_ble_eq_true rfl) (fun X C => ?_)
  show gh_G X rm_X7_clear 1 0 0 sh n 0 [(0, .ref x0)] [] M
  unfold wp_X7_clear at h
  refine k_aload_n C.1 0 rfl dX7_clear_0 ?_
  refine k_iconst (v := 0) C.1 dX7_clear_1 (by decide) ?_
  obtain ⟨hs1, h⟩ := h
  refine k_putI C.1 F_X7_15 dX7_clear_2 hs1 rfl rfl ?_
  exact k_vret C dX7_clear_5 h
abbrev rm_X10_clear : Room := { frames := 1, cells := 0, slots := 0, locals := 20 }
set_option maxRecDepth 100000 in
set_option maxHeartbeats 4000000 in
theorem c_X10_clear {l : Launch} {D : va_G} {dA : Nat → ClassId} {sh : gh_Sh} {b0 n : Nat} {M : gh_M} {x0 : Nat} {post : gh_M → Prop} (h : wp_X10_clear sh M x0 post) : gh_Met l D dA sh b0 n yX10_clear cX10_clear 1 none rm_X10_clear M [.ref x0] (gh_pv post) := by
  refine gh_open (by decide) (Nat.le_of_ble_eq_true rfl) (fun X C => ?_)
  show gh_G X rm_X10_clear 1 0 0 sh n 0 [(0, .ref x0)] [] M
  unfold wp_X10_clear at h
  refine k_aload_n C.1 0 rfl dX10_clear_0 ?_
  obtain ⟨hs1, h⟩ := h
  obtain ⟨q2, hq2, h⟩ := h
  refine k_getR C.1 F_X10_12 dX10_clear_1 hs1 hq2 ?_
  obtain ⟨hs3, h⟩ := h
  refine k_callV (As := []) (rest := []) C.1 V_X10_29 (c_X7_clear h) ⟨rfl, rfl, Nat.le_of_ble_eq_true rfl, Nat.le_of_ble_eq_true rfl⟩ hs3  rfl rfl (Nat.le_of_ble_eq_true rfl) ⟨Nat.zero_le _, Nat.zero_le _⟩ dX10_clear_4 (kp_v fun M4 h9 => ?_)
  replace h := h9
  refine k_aload_n C.1 0 rfl dX10_clear_7 ?_
  refine k_bipush (v := (-5)) C.1 dX10_clear_8 (by decide) ?_
  refine k_putI C.1 F_X10_22 dX10_clear_10 hs1 rfl rfl ?_
  refine k_aload_n C.1 0 rfl dX10_clear_13 ?_
  refine k_iconst (v := 0) C.1 dX10_clear_14 (by decide) ?_
  refine k_putI C.1 F_X10_18 dX10_clear_15 hs1 rfl rfl ?_
  exact k_vret C dX10_clear_18 h
abbrev rm_X5_begin : Room := { frames := 2, cells := 0, slots := 0, locals := 40 }
set_option maxRecDepth 100000 in
set_option maxHeartbeats 4000000 in
theorem bb_X5_begin_26 {X : gh_X} {sh : gh_Sh} {n : Nat} {post : gh_M → Prop} (C : gh_CR X cX5_begin RX5 4 none sh n 0 0 (gh_pv post)) (x0 : Nat) (k26 : Int32 → gh_M → Prop) (hk26 : ∀ (y3 : Int32) (M : gh_M), k26 y3 M → gh_G X rm_X5_begin 4 0 0 sh n 26 [(0, .ref x0), (3, .int y3)] [] M) (x3 : Int32) (M : gh_M) (h : wb_X5_begin_26 sh post x0 k26 x3 M) : gh_G X rm_X5_begin 4 0 0 sh n 26 [(0, .ref x0), (3, .int x3)] [] M := by
  unfold wb_X5_begin_26 at h
  refine k_iload_n C.1 1 rfl dX5_begin_26 ?_
  refine k_iconst (v := 3) C.1 dX5_begin_27 (by decide) ?_
  refine k_icmp_ge C.1 46 dX5_begin_28 (by decide) (fun c1 => ?_) (fun c1 => ?_)
  · have h := h.1 c1
    exact k_vret C dX5_begin_46 h
  · have h := h.2 c1
    refine k_aload_n C.1 0 rfl dX5_begin_31 ?_
    obtain ⟨hs2, h⟩ := h
    obtain ⟨q3, hq3, h⟩ := h
    refine k_getR C.1 F_X5_20 dX5_begin_32 hs2 hq3 ?_
    refine k_iload_n C.1 1 rfl dX5_begin_35 ?_
    obtain ⟨hs4, h⟩ := h
    obtain ⟨hi5, q6, hq6, h⟩ := h
    refine k_aald (kd := 17) C.1 dX5_begin_36 (by decide) (by decide) rfl rfl hs4 hi5 hq6 ?_
    obtain ⟨hs7, h⟩ := h
    refine k_callV (As := []) (rest := []) C.1 V_X5_53 (c_X10_clear h) ⟨rfl, rfl, Nat.le_of_ble_eq_true rfl, Nat.le_of_ble_eq_true rfl⟩ hs7  rfl rfl (Nat.le_of_ble_eq_true rfl) ⟨Nat.zero_le _, Nat.zero_le _⟩ dX5_begin_37 (kp_v fun M8 h9 => ?_)
    replace h := h9
    refine k_iinc (v := x3 + 1) (lv' := [(3, .int (x3 + 1)), (0, .ref x0)]) C.1 1 rfl dX5_begin_40 (by decide) rfl rfl ?_
    refine k_goto C.1 26 dX5_begin_43 (by decide) ?_
    refine k_sub (lv' := [(0, .ref x0), (3, .int (x3 + 1))]) [1, 0] rfl ?_
    exact hk26 (x3 + 1) M8 h
set_option maxRecDepth 100000 in
theorem b_X5_begin_26 {X : gh_X} {sh : gh_Sh} {n : Nat} {post : gh_M → Prop} (C : gh_CR X cX5_begin RX5 4 none sh n 0 0 (gh_pv post)) (x0 : Nat) (x3 : Int32) (M : gh_M) (h : wp_X5_begin_26 sh post x0 x3 M) : gh_G X rm_X5_begin 4 0 0 sh n 26 [(0, .ref x0), (3, .int x3)] [] M := by
  unfold wp_X5_begin_26 at h
  exact gh_loop_use h (fun v => gh_G X rm_X5_begin 4 0 0 sh n 26 [(0, .ref x0), (3, .int v.1)] [] v.2) (fun k v hk hb => bb_X5_begin_26 C x0 (fun x3 M => k (x3, M)) (fun x3 M h => hk (x3, M) h) v.1 v.2 hb)
set_option maxRecDepth 100000 in
set_option maxHeartbeats 4000000 in
theorem c_X5_begin {l : Launch} {D : va_G} {dA : Nat → ClassId} {sh : gh_Sh} {b0 n : Nat} {M : gh_M} {x0 : Nat} {x1 : Int32} {x2 : Nat} {post : gh_M → Prop} (h : wp_X5_begin sh M x0 x1 x2 post) : gh_Met l D dA sh b0 n yX5_begin cX5_begin 4 none rm_X5_begin M [.ref x0, .int x1, .ref x2] (gh_pv post) := by
  refine gh_open (by decide) (Nat.le_of_ble_eq_true rfl) (fun X C => ?_)
  show gh_G X rm_X5_begin 4 0 0 sh n 0 [(0, .ref x0), (1, .int x1), (2, .ref x2)] [] M
  unfold wp_X5_begin at h
  refine k_aload_n C.1 0 rfl dX5_begin_0 ?_
  refine k_iload_n C.1 1 rfl dX5_begin_1 ?_
  obtain ⟨hs1, h⟩ := h
  refine k_putI C.1 F_X5_24 dX5_begin_2 hs1 rfl rfl ?_
  refine k_aload_n C.1 0 rfl dX5_begin_5 ?_
  obtain ⟨q2, hq2, h⟩ := h
  refine k_getR C.1 F_X5_12 dX5_begin_6 hs1 hq2 ?_
  refine k_aload_n C.1 2 rfl dX5_begin_9 ?_
  obtain ⟨hs3, h⟩ := h
  refine k_callV (As := [.ref x2]) (rest := []) C.1 V_X5_49 (c_X7_copy h) ⟨rfl, rfl, Nat.le_of_ble_eq_true rfl, Nat.le_of_ble_eq_true rfl⟩ hs3  rfl rfl (Nat.le_of_ble_eq_true rfl) ⟨Nat.zero_le _, Nat.zero_le _⟩ dX5_begin_10 (kp_v fun M4 h9 => ?_)
  replace h := h9
  refine k_aload_n C.1 0 rfl dX5_begin_13 ?_
  refine k_bipush (v := (-5)) C.1 dX5_begin_14 (by decide) ?_
  refine k_putI C.1 F_X5_28 dX5_begin_16 hs1 rfl rfl ?_
  refine k_aload_n C.1 0 rfl dX5_begin_19 ?_
  refine k_iconst (v := 0) C.1 dX5_begin_20 (by decide) ?_
  refine k_putI C.1 F_X5_36 dX5_begin_21 hs1 rfl rfl ?_
  refine k_iconst (v := 0) C.1 dX5_begin_24 (by decide) ?_
  refine k_istore_n (lv' := [(3, .int (0 : Int32)), (0, .ref x0), (1, .int x1), (2, .ref x2)]) C.1 dX5_begin_25 (by decide) rfl ?_
  refine k_sub (lv' := [(0, .ref x0), (3, .int (0 : Int32))]) [1, 0] rfl ?_
  exact b_X5_begin_26 C x0 (0 : Int32) (wI (wI M4 x0 3 (-5 : Int32)) x0 4 (0 : Int32)) h
abbrev rm_X0_add : Room := { frames := 3, cells := 0, slots := 0, locals := 63 }
set_option maxRecDepth 100000 in
set_option maxHeartbeats 4000000 in
theorem c_X0_add {l : Launch} {D : va_G} {dA : Nat → ClassId} {sh : gh_Sh} {b0 n : Nat} {M : gh_M} {x0 : Nat} {x1 : Int32} {x2 : Nat} {post : gh_M → Prop} (h : wp_X0_add sh M x0 x1 x2 post) : gh_Met l D dA sh b0 n yX0_add cX0_add 3 none rm_X0_add M [.ref x0, .int x1, .ref x2] (gh_pv post) := by
  refine gh_open (by decide) (Nat.le_of_ble_eq_true rfl) (fun X C => ?_)
  show gh_G X rm_X0_add 3 0 0 sh n 0 [(0, .ref x0), (1, .int x1), (2, .ref x2)] [] M
  unfold wp_X0_add at h
  refine k_aload_n C.1 0 rfl dX0_add_0 ?_
  obtain ⟨hs1, h⟩ := h
  refine k_callV (As := []) (rest := []) C.1 V_X0_22 (c_X0_isFull h) ⟨rfl, rfl, Nat.le_of_ble_eq_true rfl, Nat.le_of_ble_eq_true rfl⟩ hs1  rfl rfl (Nat.le_of_ble_eq_true rfl) ⟨Nat.zero_le _, Nat.zero_le _⟩ dX0_add_1 (kp_i fun r3 M2 h9 => ?_)
  replace h := h9
  refine k_if_ne C.1 31 dX0_add_4 (by decide) (fun c4 => ?_) (fun c4 => ?_)
  · have h := h.2 c4
    exact k_vret C dX0_add_31 h
  · have h := h.1 c4
    refine k_aload_n C.1 0 rfl dX0_add_7 ?_
    obtain ⟨q5, hq5, h⟩ := h
    refine k_getR C.1 F_X0_11 dX0_add_8 hs1 hq5 ?_
    refine k_aload_n C.1 0 rfl dX0_add_11 ?_
    refine k_getI C.1 F_X0_18 dX0_add_12 hs1 ?_
    obtain ⟨hs6, h⟩ := h
    obtain ⟨hi7, q8, hq8, h⟩ := h
    refine k_aald (kd := 16) C.1 dX0_add_15 (by decide) (by decide) rfl rfl hs6 hi7 hq8 ?_
    refine k_iload_n C.1 1 rfl dX0_add_16 ?_
    refine k_aload_n C.1 2 rfl dX0_add_17 ?_
    obtain ⟨hs9, h⟩ := h
    refine k_callV (As := [.int x1, .ref x2]) (rest := []) C.1 V_X0_26 (c_X5_begin h) ⟨rfl, rfl, Nat.le_of_ble_eq_true rfl, Nat.le_of_ble_eq_true rfl⟩ hs9  rfl rfl (Nat.le_of_ble_eq_true rfl) ⟨Nat.zero_le _, Nat.zero_le _⟩ dX0_add_18 (kp_v fun M10 h9 => ?_)
    replace h := h9
    refine k_aload_n C.1 0 rfl dX0_add_21 ?_
    refine k_dup C.1 dX0_add_22 rfl ?_
    refine k_getI C.1 F_X0_18 dX0_add_23 hs1 ?_
    refine k_iconst (v := 1) C.1 dX0_add_26 (by decide) ?_
    refine k_iadd C.1 dX0_add_27 ?_
    refine k_putI C.1 F_X0_18 dX0_add_28 hs1 rfl rfl ?_
    exact k_vret C dX0_add_31 h
abbrev rm_X0_clear : Room := { frames := 0, cells := 0, slots := 0, locals := 0 }
set_option maxRecDepth 100000 in
set_option maxHeartbeats 4000000 in
theorem c_X0_clear {l : Launch} {D : va_G} {dA : Nat → ClassId} {sh : gh_Sh} {b0 n : Nat} {M : gh_M} {x0 : Nat} {post : gh_M → Prop} (h : wp_X0_clear sh M x0 post) : gh_Met l D dA sh b0 n yX0_clear cX0_clear 1 none rm_X0_clear M [.ref x0] (gh_pv post) := by
  refine gh_open (by decide) (Nat.le_of_ble_eq_true rfl) (fun X C => ?_)
  show gh_G X rm_X0_clear 1 0 0 sh n 0 [(0, .ref x0)] [] M
  unfold wp_X0_clear at h
  refine k_aload_n C.1 0 rfl dX0_clear_0 ?_
  refine k_iconst (v := 0) C.1 dX0_clear_1 (by decide) ?_
  obtain ⟨hs1, h⟩ := h
  refine k_putI C.1 F_X0_18 dX0_clear_2 hs1 rfl rfl ?_
  exact k_vret C dX0_clear_5 h
abbrev rm_X10_copy : Room := { frames := 1, cells := 0, slots := 0, locals := 22 }
set_option maxRecDepth 100000 in
set_option maxHeartbeats 4000000 in
theorem c_X10_copy {l : Launch} {D : va_G} {dA : Nat → ClassId} {sh : gh_Sh} {b0 n : Nat} {M : gh_M} {x0 : Nat} {x1 : Nat} {post : gh_M → Prop} (h : wp_X10_copy sh M x0 x1 post) : gh_Met l D dA sh b0 n yX10_copy cX10_copy 2 none rm_X10_copy M [.ref x0, .ref x1] (gh_pv post) := by
  refine gh_open (by decide) (Nat.le_of_ble_eq_true rfl) (fun X C => ?_)
  show gh_G X rm_X10_copy 2 0 0 sh n 0 [(0, .ref x0), (1, .ref x1)] [] M
  unfold wp_X10_copy at h
  refine k_aload_n C.1 0 rfl dX10_copy_0 ?_
  obtain ⟨hs1, h⟩ := h
  obtain ⟨q2, hq2, h⟩ := h
  refine k_getR C.1 F_X10_12 dX10_copy_1 hs1 hq2 ?_
  refine k_aload_n C.1 1 rfl dX10_copy_4 ?_
  obtain ⟨hs3, h⟩ := h
  obtain ⟨q4, hq4, h⟩ := h
  refine k_getR C.1 F_X10_12 dX10_copy_5 hs3 hq4 ?_
  obtain ⟨hs5, h⟩ := h
  refine k_callV (As := [.ref q4]) (rest := []) C.1 V_X10_25 (c_X7_copy h) ⟨rfl, rfl, Nat.le_of_ble_eq_true rfl, Nat.le_of_ble_eq_true rfl⟩ hs5  rfl rfl (Nat.le_of_ble_eq_true rfl) ⟨Nat.zero_le _, Nat.zero_le _⟩ dX10_copy_8 (kp_v fun M6 h9 => ?_)
  replace h := h9
  refine k_aload_n C.1 0 rfl dX10_copy_11 ?_
  refine k_aload_n C.1 1 rfl dX10_copy_12 ?_
  refine k_getI C.1 F_X10_22 dX10_copy_13 hs3 ?_
  refine k_putI C.1 F_X10_22 dX10_copy_16 hs1 rfl rfl ?_
  refine k_aload_n C.1 0 rfl dX10_copy_19 ?_
  refine k_aload_n C.1 1 rfl dX10_copy_20 ?_
  refine k_getI C.1 F_X10_18 dX10_copy_21 hs3 ?_
  refine k_putI C.1 F_X10_18 dX10_copy_24 hs1 rfl rfl ?_
  exact k_vret C dX10_copy_27 h
abbrev rm_X5_copy : Room := { frames := 2, cells := 0, slots := 0, locals := 43 }
set_option maxRecDepth 100000 in
set_option maxHeartbeats 4000000 in
theorem bb_X5_copy_37 {X : gh_X} {sh : gh_Sh} {n : Nat} {post : gh_M → Prop} (C : gh_CR X cX5_copy RX5 3 none sh n 0 0 (gh_pv post)) (x0 : Nat) (x1 : Nat) (k37 : Int32 → gh_M → Prop) (hk37 : ∀ (y2 : Int32) (M : gh_M), k37 y2 M → gh_G X rm_X5_copy 3 0 0 sh n 37 [(0, .ref x0), (1, .ref x1), (2, .int y2)] [] M) (x2 : Int32) (M : gh_M) (h : wb_X5_copy_37 sh post x0 x1 k37 x2 M) : gh_G X rm_X5_copy 3 0 0 sh n 37 [(0, .ref x0), (1, .ref x1), (2, .int x2)] [] M := by
  unfold wb_X5_copy_37 at h
  refine k_iload_n C.1 2 rfl dX5_copy_37 ?_
  refine k_iconst (v := 3) C.1 dX5_copy_38 (by decide) ?_
  refine k_icmp_ge C.1 63 dX5_copy_39 (by decide) (fun c1 => ?_) (fun c1 => ?_)
  · have h := h.1 c1
    exact k_vret C dX5_copy_63 h
  · have h := h.2 c1
    refine k_aload_n C.1 0 rfl dX5_copy_42 ?_
    obtain ⟨hs2, h⟩ := h
    obtain ⟨q3, hq3, h⟩ := h
    refine k_getR C.1 F_X5_20 dX5_copy_43 hs2 hq3 ?_
    refine k_iload_n C.1 2 rfl dX5_copy_46 ?_
    obtain ⟨hs4, h⟩ := h
    obtain ⟨hi5, q6, hq6, h⟩ := h
    refine k_aald (kd := 17) C.1 dX5_copy_47 (by decide) (by decide) rfl rfl hs4 hi5 hq6 ?_
    refine k_aload_n C.1 1 rfl dX5_copy_48 ?_
    obtain ⟨hs7, h⟩ := h
    obtain ⟨q8, hq8, h⟩ := h
    refine k_getR C.1 F_X5_20 dX5_copy_49 hs7 hq8 ?_
    refine k_iload_n C.1 2 rfl dX5_copy_52 ?_
    obtain ⟨hs9, h⟩ := h
    obtain ⟨hi10, q11, hq11, h⟩ := h
    refine k_aald (kd := 17) C.1 dX5_copy_53 (by decide) (by decide) rfl rfl hs9 hi10 hq11 ?_
    obtain ⟨hs12, h⟩ := h
    refine k_callV (As := [.ref q11]) (rest := []) C.1 V_X5_56 (c_X10_copy h) ⟨rfl, rfl, Nat.le_of_ble_eq_true rfl, Nat.le_of_ble_eq_true rfl⟩ hs12  rfl rfl (Nat.le_of_ble_eq_true rfl) ⟨Nat.zero_le _, Nat.zero_le _⟩ dX5_copy_54 (kp_v fun M13 h9 => ?_)
    replace h := h9
    refine k_iinc (v := x2 + 1) (lv' := [(2, .int (x2 + 1)), (0, .ref x0), (1, .ref x1)]) C.1 2 rfl dX5_copy_57 (by decide) rfl rfl ?_
    refine k_goto C.1 37 dX5_copy_60 (by decide) ?_
    refine k_sub (lv' := [(0, .ref x0), (1, .ref x1), (2, .int (x2 + 1))]) [1, 2, 0] rfl ?_
    exact hk37 (x2 + 1) M13 h
set_option maxRecDepth 100000 in
theorem b_X5_copy_37 {X : gh_X} {sh : gh_Sh} {n : Nat} {post : gh_M → Prop} (C : gh_CR X cX5_copy RX5 3 none sh n 0 0 (gh_pv post)) (x0 : Nat) (x1 : Nat) (x2 : Int32) (M : gh_M) (h : wp_X5_copy_37 sh post x0 x1 x2 M) : gh_G X rm_X5_copy 3 0 0 sh n 37 [(0, .ref x0), (1, .ref x1), (2, .int x2)] [] M := by
  unfold wp_X5_copy_37 at h
  exact gh_loop_use h (fun v => gh_G X rm_X5_copy 3 0 0 sh n 37 [(0, .ref x0), (1, .ref x1), (2, .int v.1)] [] v.2) (fun k v hk hb => bb_X5_copy_37 C x0 x1 (fun x2 M => k (x2, M)) (fun x2 M h => hk (x2, M) h) v.1 v.2 hb)
set_option maxRecDepth 100000 in
set_option maxHeartbeats 4000000 in
theorem c_X5_copy {l : Launch} {D : va_G} {dA : Nat → ClassId} {sh : gh_Sh} {b0 n : Nat} {M : gh_M} {x0 : Nat} {x1 : Nat} {post : gh_M → Prop} (h : wp_X5_copy sh M x0 x1 post) : gh_Met l D dA sh b0 n yX5_copy cX5_copy 3 none rm_X5_copy M [.ref x0, .ref x1] (gh_pv post) := by
  refine gh_open (by decide) (Nat.le_of_ble_eq_true rfl) (fun X C => ?_)
  show gh_G X rm_X5_copy 3 0 0 sh n 0 [(0, .ref x0), (1, .ref x1)] [] M
  unfold wp_X5_copy at h
  refine k_aload_n C.1 0 rfl dX5_copy_0 ?_
  refine k_aload_n C.1 1 rfl dX5_copy_1 ?_
  obtain ⟨hs1, h⟩ := h
  refine k_getI C.1 F_X5_24 dX5_copy_2 hs1 ?_
  obtain ⟨hs2, h⟩ := h
  refine k_putI C.1 F_X5_24 dX5_copy_5 hs2 rfl rfl ?_
  refine k_aload_n C.1 0 rfl dX5_copy_8 ?_
  obtain ⟨q3, hq3, h⟩ := h
  refine k_getR C.1 F_X5_12 dX5_copy_9 hs2 hq3 ?_
  refine k_aload_n C.1 1 rfl dX5_copy_12 ?_
  obtain ⟨q4, hq4, h⟩ := h
  refine k_getR C.1 F_X5_12 dX5_copy_13 hs1 hq4 ?_
  obtain ⟨hs5, h⟩ := h
  refine k_callV (As := [.ref q4]) (rest := []) C.1 V_X5_49 (c_X7_copy h) ⟨rfl, rfl, Nat.le_of_ble_eq_true rfl, Nat.le_of_ble_eq_true rfl⟩ hs5  rfl rfl (Nat.le_of_ble_eq_true rfl) ⟨Nat.zero_le _, Nat.zero_le _⟩ dX5_copy_16 (kp_v fun M6 h9 => ?_)
  replace h := h9
  refine k_aload_n C.1 0 rfl dX5_copy_19 ?_
  refine k_aload_n C.1 1 rfl dX5_copy_20 ?_
  refine k_getI C.1 F_X5_28 dX5_copy_21 hs1 ?_
  refine k_putI C.1 F_X5_28 dX5_copy_24 hs2 rfl rfl ?_
  refine k_aload_n C.1 0 rfl dX5_copy_27 ?_
  refine k_aload_n C.1 1 rfl dX5_copy_28 ?_
  refine k_getI C.1 F_X5_36 dX5_copy_29 hs1 ?_
  refine k_putI C.1 F_X5_36 dX5_copy_32 hs2 rfl rfl ?_
  refine k_iconst (v := 0) C.1 dX5_copy_35 (by decide) ?_
  refine k_istore_n (lv' := [(2, .int (0 : Int32)), (0, .ref x0), (1, .ref x1)]) C.1 dX5_copy_36 (by decide) rfl ?_
  refine k_sub (lv' := [(0, .ref x0), (1, .ref x1), (2, .int (0 : Int32))]) [1, 2, 0] rfl ?_
  exact b_X5_copy_37 C x0 x1 (0 : Int32) (wI (wI M6 x0 3 (rI M6 x1 3)) x0 4 (rI (wI M6 x0 3 (rI M6 x1 3)) x1 4)) h
abbrev rm_X0_copy : Room := { frames := 3, cells := 0, slots := 0, locals := 65 }
set_option maxRecDepth 100000 in
set_option maxHeartbeats 4000000 in
theorem bb_X0_copy_10 {X : gh_X} {sh : gh_Sh} {n : Nat} {post : gh_M → Prop} (C : gh_CR X cX0_copy RX0 3 none sh n 0 0 (gh_pv post)) (x0 : Nat) (x1 : Nat) (k10 : Int32 → gh_M → Prop) (hk10 : ∀ (y2 : Int32) (M : gh_M), k10 y2 M → gh_G X rm_X0_copy 3 0 0 sh n 10 [(0, .ref x0), (1, .ref x1), (2, .int y2)] [] M) (x2 : Int32) (M : gh_M) (h : wb_X0_copy_10 sh post x0 x1 k10 x2 M) : gh_G X rm_X0_copy 3 0 0 sh n 10 [(0, .ref x0), (1, .ref x1), (2, .int x2)] [] M := by
  unfold wb_X0_copy_10 at h
  refine k_iload_n C.1 2 rfl dX0_copy_10 ?_
  refine k_aload_n C.1 0 rfl dX0_copy_11 ?_
  obtain ⟨hs1, h⟩ := h
  refine k_getI C.1 F_X0_18 dX0_copy_12 hs1 ?_
  refine k_icmp_ge C.1 39 dX0_copy_15 (by decide) (fun c2 => ?_) (fun c2 => ?_)
  · have h := h.1 c2
    exact k_vret C dX0_copy_39 h
  · have h := h.2 c2
    refine k_aload_n C.1 0 rfl dX0_copy_18 ?_
    obtain ⟨q3, hq3, h⟩ := h
    refine k_getR C.1 F_X0_11 dX0_copy_19 hs1 hq3 ?_
    refine k_iload_n C.1 2 rfl dX0_copy_22 ?_
    obtain ⟨hs4, h⟩ := h
    obtain ⟨hi5, q6, hq6, h⟩ := h
    refine k_aald (kd := 16) C.1 dX0_copy_23 (by decide) (by decide) rfl rfl hs4 hi5 hq6 ?_
    refine k_aload_n C.1 1 rfl dX0_copy_24 ?_
    obtain ⟨hs7, h⟩ := h
    obtain ⟨q8, hq8, h⟩ := h
    refine k_getR C.1 F_X0_11 dX0_copy_25 hs7 hq8 ?_
    refine k_iload_n C.1 2 rfl dX0_copy_28 ?_
    obtain ⟨hs9, h⟩ := h
    obtain ⟨hi10, q11, hq11, h⟩ := h
    refine k_aald (kd := 16) C.1 dX0_copy_29 (by decide) (by decide) rfl rfl hs9 hi10 hq11 ?_
    obtain ⟨hs12, h⟩ := h
    refine k_callV (As := [.ref q11]) (rest := []) C.1 V_X0_30 (c_X5_copy h) ⟨rfl, rfl, Nat.le_of_ble_eq_true rfl, Nat.le_of_ble_eq_true rfl⟩ hs12  rfl rfl (Nat.le_of_ble_eq_true rfl) ⟨Nat.zero_le _, Nat.zero_le _⟩ dX0_copy_30 (kp_v fun M13 h9 => ?_)
    replace h := h9
    refine k_iinc (v := x2 + 1) (lv' := [(2, .int (x2 + 1)), (0, .ref x0), (1, .ref x1)]) C.1 2 rfl dX0_copy_33 (by decide) rfl rfl ?_
    refine k_goto C.1 10 dX0_copy_36 (by decide) ?_
    refine k_sub (lv' := [(0, .ref x0), (1, .ref x1), (2, .int (x2 + 1))]) [1, 2, 0] rfl ?_
    exact hk10 (x2 + 1) M13 h
set_option maxRecDepth 100000 in
theorem b_X0_copy_10 {X : gh_X} {sh : gh_Sh} {n : Nat} {post : gh_M → Prop} (C : gh_CR X cX0_copy RX0 3 none sh n 0 0 (gh_pv post)) (x0 : Nat) (x1 : Nat) (x2 : Int32) (M : gh_M) (h : wp_X0_copy_10 sh post x0 x1 x2 M) : gh_G X rm_X0_copy 3 0 0 sh n 10 [(0, .ref x0), (1, .ref x1), (2, .int x2)] [] M := by
  unfold wp_X0_copy_10 at h
  exact gh_loop_use h (fun v => gh_G X rm_X0_copy 3 0 0 sh n 10 [(0, .ref x0), (1, .ref x1), (2, .int v.1)] [] v.2) (fun k v hk hb => bb_X0_copy_10 C x0 x1 (fun x2 M => k (x2, M)) (fun x2 M h => hk (x2, M) h) v.1 v.2 hb)
set_option maxRecDepth 100000 in
set_option maxHeartbeats 4000000 in
theorem c_X0_copy {l : Launch} {D : va_G} {dA : Nat → ClassId} {sh : gh_Sh} {b0 n : Nat} {M : gh_M} {x0 : Nat} {x1 : Nat} {post : gh_M → Prop} (h : wp_X0_copy sh M x0 x1 post) : gh_Met l D dA sh b0 n yX0_copy cX0_copy 3 none rm_X0_copy M [.ref x0, .ref x1] (gh_pv post) := by
  refine gh_open (by decide) (Nat.le_of_ble_eq_true rfl) (fun X C => ?_)
  show gh_G X rm_X0_copy 3 0 0 sh n 0 [(0, .ref x0), (1, .ref x1)] [] M
  unfold wp_X0_copy at h
  refine k_aload_n C.1 0 rfl dX0_copy_0 ?_
  refine k_aload_n C.1 1 rfl dX0_copy_1 ?_
  obtain ⟨hs1, h⟩ := h
  refine k_getI C.1 F_X0_18 dX0_copy_2 hs1 ?_
  obtain ⟨hs2, h⟩ := h
  refine k_putI C.1 F_X0_18 dX0_copy_5 hs2 rfl rfl ?_
  refine k_iconst (v := 0) C.1 dX0_copy_8 (by decide) ?_
  refine k_istore_n (lv' := [(2, .int (0 : Int32)), (0, .ref x0), (1, .ref x1)]) C.1 dX0_copy_9 (by decide) rfl ?_
  refine k_sub (lv' := [(0, .ref x0), (1, .ref x1), (2, .int (0 : Int32))]) [1, 2, 0] rfl ?_
  exact b_X0_copy_10 C x0 x1 (0 : Int32) (wI M x0 1 (rI M x1 1)) h
abbrev rm_X10_state : Room := { frames := 0, cells := 0, slots := 0, locals := 0 }
set_option maxRecDepth 100000 in
set_option maxHeartbeats 4000000 in
theorem c_X10_state {l : Launch} {D : va_G} {dA : Nat → ClassId} {sh : gh_Sh} {b0 n : Nat} {M : gh_M} {x0 : Nat} {post : Int32 → gh_M → Prop} (h : wp_X10_state sh M x0 post) : gh_Met l D dA sh b0 n yX10_state cX10_state 1 (some .int) rm_X10_state M [.ref x0] (gh_pi post) := by
  refine gh_open (by decide) (Nat.le_of_ble_eq_true rfl) (fun X C => ?_)
  show gh_G X rm_X10_state 1 0 0 sh n 0 [(0, .ref x0)] [] M
  unfold wp_X10_state at h
  refine k_aload_n C.1 0 rfl dX10_state_0 ?_
  obtain ⟨hs1, h⟩ := h
  refine k_getI C.1 F_X10_18 dX10_state_1 hs1 ?_
  exact k_iret C dX10_state_4 h
abbrev rm_X5_textsThatAre : Room := { frames := 1, cells := 0, slots := 0, locals := 20 }
set_option maxRecDepth 100000 in
set_option maxHeartbeats 4000000 in
theorem b_X5_textsThatAre_25 {X : gh_X} {sh : gh_Sh} {n : Nat} {post : Int32 → gh_M → Prop} (C : gh_CR X cX5_textsThatAre RX5 4 (some .int) sh n 0 0 (gh_pi post)) (x0 : Nat) (x1 : Int32) (x2 : Int32) (x3 : Int32) (M : gh_M) (k4 : Int32 → Int32 → gh_M → Prop) (hk4 : ∀ (y2 : Int32) (y3 : Int32) (M : gh_M), k4 y2 y3 M → gh_G X rm_X5_textsThatAre 4 0 0 sh n 4 [(0, .ref x0), (1, .int x1), (2, .int y2), (3, .int y3)] [] M) (h : wp_X5_textsThatAre_25 sh post k4 x0 x1 x2 x3 M) : gh_G X rm_X5_textsThatAre 4 0 0 sh n 25 [(0, .ref x0), (1, .int x1), (2, .int x2), (3, .int x3)] [] M := by
  unfold wp_X5_textsThatAre_25 at h
  refine k_iinc (v := x3 + 1) (lv' := [(3, .int (x3 + 1)), (0, .ref x0), (1, .int x1), (2, .int x2)]) C.1 3 rfl dX5_textsThatAre_25 (by decide) rfl rfl ?_
  refine k_goto C.1 4 dX5_textsThatAre_28 (by decide) ?_
  refine k_sub (lv' := [(0, .ref x0), (1, .int x1), (2, .int x2), (3, .int (x3 + 1))]) [1, 2, 3, 0] rfl ?_
  exact hk4 x2 (x3 + 1) M h
set_option maxRecDepth 100000 in
set_option maxHeartbeats 4000000 in
theorem bb_X5_textsThatAre_4 {X : gh_X} {sh : gh_Sh} {n : Nat} {post : Int32 → gh_M → Prop} (C : gh_CR X cX5_textsThatAre RX5 4 (some .int) sh n 0 0 (gh_pi post)) (x0 : Nat) (x1 : Int32) (k4 : Int32 → Int32 → gh_M → Prop) (hk4 : ∀ (y2 : Int32) (y3 : Int32) (M : gh_M), k4 y2 y3 M → gh_G X rm_X5_textsThatAre 4 0 0 sh n 4 [(0, .ref x0), (1, .int x1), (2, .int y2), (3, .int y3)] [] M) (x2 : Int32) (x3 : Int32) (M : gh_M) (h : wb_X5_textsThatAre_4 sh post x0 x1 k4 x2 x3 M) : gh_G X rm_X5_textsThatAre 4 0 0 sh n 4 [(0, .ref x0), (1, .int x1), (2, .int x2), (3, .int x3)] [] M := by
  unfold wb_X5_textsThatAre_4 at h
  refine k_iload_n C.1 3 rfl dX5_textsThatAre_4 ?_
  refine k_iconst (v := 3) C.1 dX5_textsThatAre_5 (by decide) ?_
  refine k_icmp_ge C.1 31 dX5_textsThatAre_6 (by decide) (fun c1 => ?_) (fun c1 => ?_)
  · have h := h.1 c1
    refine k_iload_n C.1 2 rfl dX5_textsThatAre_31 ?_
    exact k_iret C dX5_textsThatAre_32 h
  · have h := h.2 c1
    refine k_aload_n C.1 0 rfl dX5_textsThatAre_9 ?_
    obtain ⟨hs2, h⟩ := h
    obtain ⟨q3, hq3, h⟩ := h
    refine k_getR C.1 F_X5_20 dX5_textsThatAre_10 hs2 hq3 ?_
    refine k_iload_n C.1 3 rfl dX5_textsThatAre_13 ?_
    obtain ⟨hs4, h⟩ := h
    obtain ⟨hi5, q6, hq6, h⟩ := h
    refine k_aald (kd := 17) C.1 dX5_textsThatAre_14 (by decide) (by decide) rfl rfl hs4 hi5 hq6 ?_
    obtain ⟨hs7, h⟩ := h
    refine k_callV (As := []) (rest := []) C.1 V_X5_39 (c_X10_state h) ⟨rfl, rfl, Nat.le_of_ble_eq_true rfl, Nat.le_of_ble_eq_true rfl⟩ hs7  rfl rfl (Nat.le_of_ble_eq_true rfl) ⟨Nat.zero_le _, Nat.zero_le _⟩ dX5_textsThatAre_15 (kp_i fun r9 M8 h9 => ?_)
    replace h := h9
    refine k_iload_n C.1 1 rfl dX5_textsThatAre_18 ?_
    refine k_icmp_ne C.1 25 dX5_textsThatAre_19 (by decide) (fun c10 => ?_) (fun c10 => ?_)
    · have h := h.2 c10
      exact b_X5_textsThatAre_25 C x0 x1 x2 x3 M8 k4 hk4 h
    · have h := h.1 c10
      refine k_iinc (v := x2 + 1) (lv' := [(2, .int (x2 + 1)), (0, .ref x0), (1, .int x1), (3, .int x3)]) C.1 2 rfl dX5_textsThatAre_22 (by decide) rfl rfl ?_
      refine k_sub (lv' := [(0, .ref x0), (1, .int x1), (2, .int (x2 + 1)), (3, .int x3)]) [1, 2, 0, 3] rfl ?_
      exact b_X5_textsThatAre_25 C x0 x1 (x2 + 1) x3 M8 k4 hk4 h
set_option maxRecDepth 100000 in
theorem b_X5_textsThatAre_4 {X : gh_X} {sh : gh_Sh} {n : Nat} {post : Int32 → gh_M → Prop} (C : gh_CR X cX5_textsThatAre RX5 4 (some .int) sh n 0 0 (gh_pi post)) (x0 : Nat) (x1 : Int32) (x2 : Int32) (x3 : Int32) (M : gh_M) (h : wp_X5_textsThatAre_4 sh post x0 x1 x2 x3 M) : gh_G X rm_X5_textsThatAre 4 0 0 sh n 4 [(0, .ref x0), (1, .int x1), (2, .int x2), (3, .int x3)] [] M := by
  unfold wp_X5_textsThatAre_4 at h
  exact gh_loop_use h (fun v => gh_G X rm_X5_textsThatAre 4 0 0 sh n 4 [(0, .ref x0), (1, .int x1), (2, .int v.1), (3, .int v.2.1)] [] v.2.2) (fun k v hk hb => bb_X5_textsThatAre_4 C x0 x1 (fun x2 x3 M => k (x2, x3, M)) (fun x2 x3 M h => hk (x2, x3, M) h) v.1 v.2.1 v.2.2 hb)
set_option maxRecDepth 100000 in
set_option maxHeartbeats 4000000 in
theorem c_X5_textsThatAre {l : Launch} {D : va_G} {dA : Nat → ClassId} {sh : gh_Sh} {b0 n : Nat} {M : gh_M} {x0 : Nat} {x1 : Int32} {post : Int32 → gh_M → Prop} (h : wp_X5_textsThatAre sh M x0 x1 post) : gh_Met l D dA sh b0 n yX5_textsThatAre cX5_textsThatAre 4 (some .int) rm_X5_textsThatAre M [.ref x0, .int x1] (gh_pi post) := by
  refine gh_open (by decide) (Nat.le_of_ble_eq_true rfl) (fun X C => ?_)
  show gh_G X rm_X5_textsThatAre 4 0 0 sh n 0 [(0, .ref x0), (1, .int x1)] [] M
  unfold wp_X5_textsThatAre at h
  refine k_iconst (v := 0) C.1 dX5_textsThatAre_0 (by decide) ?_
  refine k_istore_n (lv' := [(2, .int (0 : Int32)), (0, .ref x0), (1, .int x1)]) C.1 dX5_textsThatAre_1 (by decide) rfl ?_
  refine k_iconst (v := 0) C.1 dX5_textsThatAre_2 (by decide) ?_
  refine k_istore_n (lv' := [(3, .int (0 : Int32)), (2, .int (0 : Int32)), (0, .ref x0), (1, .int x1)]) C.1 dX5_textsThatAre_3 (by decide) rfl ?_
  refine k_sub (lv' := [(0, .ref x0), (1, .int x1), (2, .int (0 : Int32)), (3, .int (0 : Int32))]) [2, 3, 1, 0] rfl ?_
  exact b_X5_textsThatAre_4 C x0 x1 (0 : Int32) (0 : Int32) M h
abbrev rm_X0_textsThatAre : Room := { frames := 2, cells := 0, slots := 0, locals := 43 }
set_option maxRecDepth 100000 in
set_option maxHeartbeats 4000000 in
theorem bb_X0_textsThatAre_4 {X : gh_X} {sh : gh_Sh} {n : Nat} {post : Int32 → gh_M → Prop} (C : gh_CR X cX0_textsThatAre RX0 4 (some .int) sh n 0 0 (gh_pi post)) (x0 : Nat) (x1 : Int32) (k4 : Int32 → Int32 → gh_M → Prop) (hk4 : ∀ (y2 : Int32) (y3 : Int32) (M : gh_M), k4 y2 y3 M → gh_G X rm_X0_textsThatAre 4 0 0 sh n 4 [(0, .ref x0), (1, .int x1), (2, .int y2), (3, .int y3)] [] M) (x2 : Int32) (x3 : Int32) (M : gh_M) (h : wb_X0_textsThatAre_4 sh post x0 x1 k4 x2 x3 M) : gh_G X rm_X0_textsThatAre 4 0 0 sh n 4 [(0, .ref x0), (1, .int x1), (2, .int x2), (3, .int x3)] [] M := by
  unfold wb_X0_textsThatAre_4 at h
  refine k_iload_n C.1 3 rfl dX0_textsThatAre_4 ?_
  refine k_aload_n C.1 0 rfl dX0_textsThatAre_5 ?_
  obtain ⟨hs1, h⟩ := h
  refine k_getI C.1 F_X0_18 dX0_textsThatAre_6 hs1 ?_
  refine k_icmp_ge C.1 31 dX0_textsThatAre_9 (by decide) (fun c2 => ?_) (fun c2 => ?_)
  · have h := h.1 c2
    refine k_iload_n C.1 2 rfl dX0_textsThatAre_31 ?_
    exact k_iret C dX0_textsThatAre_32 h
  · have h := h.2 c2
    refine k_iload_n C.1 2 rfl dX0_textsThatAre_12 ?_
    refine k_aload_n C.1 0 rfl dX0_textsThatAre_13 ?_
    obtain ⟨q3, hq3, h⟩ := h
    refine k_getR C.1 F_X0_11 dX0_textsThatAre_14 hs1 hq3 ?_
    refine k_iload_n C.1 3 rfl dX0_textsThatAre_17 ?_
    obtain ⟨hs4, h⟩ := h
    obtain ⟨hi5, q6, hq6, h⟩ := h
    refine k_aald (kd := 16) C.1 dX0_textsThatAre_18 (by decide) (by decide) rfl rfl hs4 hi5 hq6 ?_
    refine k_iload_n C.1 1 rfl dX0_textsThatAre_19 ?_
    obtain ⟨hs7, h⟩ := h
    refine k_callV (As := [.int x1]) (rest := [.int x2]) C.1 V_X0_34 (c_X5_textsThatAre h) ⟨rfl, rfl, Nat.le_of_ble_eq_true rfl, Nat.le_of_ble_eq_true rfl⟩ hs7  rfl rfl (Nat.le_of_ble_eq_true rfl) ⟨Nat.zero_le _, Nat.zero_le _⟩ dX0_textsThatAre_20 (kp_i fun r9 M8 h9 => ?_)
    replace h := h9
    refine k_iadd C.1 dX0_textsThatAre_23 ?_
    refine k_istore_n (lv' := [(2, .int (x2 + r9)), (0, .ref x0), (1, .int x1), (3, .int x3)]) C.1 dX0_textsThatAre_24 (by decide) rfl ?_
    refine k_iinc (v := x3 + 1) (lv' := [(3, .int (x3 + 1)), (2, .int (x2 + r9)), (0, .ref x0), (1, .int x1)]) C.1 3 rfl dX0_textsThatAre_25 (by decide) rfl rfl ?_
    refine k_goto C.1 4 dX0_textsThatAre_28 (by decide) ?_
    refine k_sub (lv' := [(0, .ref x0), (1, .int x1), (2, .int (x2 + r9)), (3, .int (x3 + 1))]) [2, 3, 1, 0] rfl ?_
    exact hk4 (x2 + r9) (x3 + 1) M8 h
set_option maxRecDepth 100000 in
theorem b_X0_textsThatAre_4 {X : gh_X} {sh : gh_Sh} {n : Nat} {post : Int32 → gh_M → Prop} (C : gh_CR X cX0_textsThatAre RX0 4 (some .int) sh n 0 0 (gh_pi post)) (x0 : Nat) (x1 : Int32) (x2 : Int32) (x3 : Int32) (M : gh_M) (h : wp_X0_textsThatAre_4 sh post x0 x1 x2 x3 M) : gh_G X rm_X0_textsThatAre 4 0 0 sh n 4 [(0, .ref x0), (1, .int x1), (2, .int x2), (3, .int x3)] [] M := by
  unfold wp_X0_textsThatAre_4 at h
  exact gh_loop_use h (fun v => gh_G X rm_X0_textsThatAre 4 0 0 sh n 4 [(0, .ref x0), (1, .int x1), (2, .int v.1), (3, .int v.2.1)] [] v.2.2) (fun k v hk hb => bb_X0_textsThatAre_4 C x0 x1 (fun x2 x3 M => k (x2, x3, M)) (fun x2 x3 M h => hk (x2, x3, M) h) v.1 v.2.1 v.2.2 hb)
set_option maxRecDepth 100000 in
set_option maxHeartbeats 4000000 in
theorem c_X0_textsThatAre {l : Launch} {D : va_G} {dA : Nat → ClassId} {sh : gh_Sh} {b0 n : Nat} {M : gh_M} {x0 : Nat} {x1 : Int32} {post : Int32 → gh_M → Prop} (h : wp_X0_textsThatAre sh M x0 x1 post) : gh_Met l D dA sh b0 n yX0_textsThatAre cX0_textsThatAre 4 (some .int) rm_X0_textsThatAre M [.ref x0, .int x1] (gh_pi post) := by
  refine gh_open (by decide) (Nat.le_of_ble_eq_true rfl) (fun X C => ?_)
  show gh_G X rm_X0_textsThatAre 4 0 0 sh n 0 [(0, .ref x0), (1, .int x1)] [] M
  unfold wp_X0_textsThatAre at h
  refine k_iconst (v := 0) C.1 dX0_textsThatAre_0 (by decide) ?_
  refine k_istore_n (lv' := [(2, .int (0 : Int32)), (0, .ref x0), (1, .int x1)]) C.1 dX0_textsThatAre_1 (by decide) rfl ?_
  refine k_iconst (v := 0) C.1 dX0_textsThatAre_2 (by decide) ?_
  refine k_istore_n (lv' := [(3, .int (0 : Int32)), (2, .int (0 : Int32)), (0, .ref x0), (1, .int x1)]) C.1 dX0_textsThatAre_3 (by decide) rfl ?_
  refine k_sub (lv' := [(0, .ref x0), (1, .int x1), (2, .int (0 : Int32)), (3, .int (0 : Int32))]) [2, 3, 1, 0] rfl ?_
  exact b_X0_textsThatAre_4 C x0 x1 (0 : Int32) (0 : Int32) M h
abbrev rm_X11_isIn : Room := { frames := 0, cells := 0, slots := 0, locals := 0 }
set_option maxRecDepth 100000 in
set_option maxHeartbeats 4000000 in
theorem c_X11_isIn {l : Launch} {D : va_G} {dA : Nat → ClassId} {sh : gh_Sh} {b0 n : Nat} {M : gh_M} {x0 : Int32} {x1 : Int32} {x2 : Int32} {post : Int32 → gh_M → Prop} (h : wp_X11_isIn sh M x0 x1 x2 post) : gh_Met l D dA sh b0 n yX11_isIn cX11_isIn 3 (some .boolean) rm_X11_isIn M [.int x0, .int x1, .int x2] (gh_pi post) := by
  refine gh_open (by decide) (Nat.le_of_ble_eq_true rfl) (fun X C => ?_)
  show gh_G X rm_X11_isIn 3 0 0 sh n 0 [(0, .int x0), (1, .int x1), (2, .int x2)] [] M
  unfold wp_X11_isIn at h
  refine k_iload_n C.1 0 rfl dX11_isIn_0 ?_
  refine k_iload_n C.1 1 rfl dX11_isIn_1 ?_
  refine k_icmp_lt C.1 14 dX11_isIn_2 (by decide) (fun c1 => ?_) (fun c1 => ?_)
  · have h := h.1 c1
    refine k_iconst (v := 0) C.1 dX11_isIn_14 (by decide) ?_
    exact k_zret C dX11_isIn_15 (Or.inl rfl) h
  · have h := h.2 c1
    refine k_iload_n C.1 0 rfl dX11_isIn_5 ?_
    refine k_iload_n C.1 2 rfl dX11_isIn_6 ?_
    refine k_icmp_gt C.1 14 dX11_isIn_7 (by decide) (fun c2 => ?_) (fun c2 => ?_)
    · have h := h.1 c2
      refine k_iconst (v := 0) C.1 dX11_isIn_14 (by decide) ?_
      exact k_zret C dX11_isIn_15 (Or.inl rfl) h
    · have h := h.2 c2
      refine k_iconst (v := 1) C.1 dX11_isIn_10 (by decide) ?_
      refine k_goto C.1 15 dX11_isIn_11 (by decide) ?_
      exact k_zret C dX11_isIn_15 (Or.inr rfl) h
abbrev rm_X11_isTongue : Room := { frames := 1, cells := 0, slots := 0, locals := 22 }
set_option maxRecDepth 100000 in
set_option maxHeartbeats 4000000 in
theorem c_X11_isTongue {l : Launch} {D : va_G} {dA : Nat → ClassId} {sh : gh_Sh} {b0 n : Nat} {M : gh_M} {x0 : Int32} {post : Int32 → gh_M → Prop} (h : wp_X11_isTongue sh M x0 post) : gh_Met l D dA sh b0 n yX11_isTongue cX11_isTongue 1 (some .boolean) rm_X11_isTongue M [.int x0] (gh_pi post) := by
  refine gh_open (by decide) (Nat.le_of_ble_eq_true rfl) (fun X C => ?_)
  show gh_G X rm_X11_isTongue 1 0 0 sh n 0 [(0, .int x0)] [] M
  unfold wp_X11_isTongue at h
  refine k_iload_n C.1 0 rfl dX11_isTongue_0 ?_
  refine k_iconst (v := 0) C.1 dX11_isTongue_1 (by decide) ?_
  refine k_iconst (v := 2) C.1 dX11_isTongue_2 (by decide) ?_
  refine k_callS (As := [.int x0, .int (0 : Int32), .int (2 : Int32)]) (rest := []) C.1 V_X11_101 (c_X11_isIn h) ⟨rfl, rfl, Nat.le_of_ble_eq_true rfl, Nat.le_of_ble_eq_true rfl⟩  rfl rfl (Nat.le_of_ble_eq_true rfl) ⟨Nat.zero_le _, Nat.zero_le _⟩ dX11_isTongue_3 (kp_i fun r2 M1 h9 => ?_)
  replace h := h9
  exact k_zret C dX11_isTongue_6 h.1 h.2
abbrev rm_X5_isReviewedIn : Room := { frames := 2, cells := 0, slots := 0, locals := 42 }
set_option maxRecDepth 100000 in
set_option maxHeartbeats 4000000 in
theorem c_X5_isReviewedIn {l : Launch} {D : va_G} {dA : Nat → ClassId} {sh : gh_Sh} {b0 n : Nat} {M : gh_M} {x0 : Nat} {x1 : Int32} {post : Int32 → gh_M → Prop} (h : wp_X5_isReviewedIn sh M x0 x1 post) : gh_Met l D dA sh b0 n yX5_isReviewedIn cX5_isReviewedIn 2 (some .boolean) rm_X5_isReviewedIn M [.ref x0, .int x1] (gh_pi post) := by
  refine gh_open (by decide) (Nat.le_of_ble_eq_true rfl) (fun X C => ?_)
  show gh_G X rm_X5_isReviewedIn 2 0 0 sh n 0 [(0, .ref x0), (1, .int x1)] [] M
  unfold wp_X5_isReviewedIn at h
  refine k_iload_n C.1 1 rfl dX5_isReviewedIn_0 ?_
  refine k_callSN (As := [.int x1]) (rest := []) C.1 V_X5_32 (c_X11_isTongue h) ⟨rfl, rfl, Nat.le_of_ble_eq_true rfl, Nat.le_of_ble_eq_true rfl⟩  rfl rfl (Nat.le_of_ble_eq_true rfl) ⟨Nat.zero_le _, Nat.zero_le _⟩ dX5_isReviewedIn_1 (kp_i fun r2 M1 h9 => ?_)
  replace h := h9
  refine k_if_eq C.1 24 dX5_isReviewedIn_4 (by decide) (fun c3 => ?_) (fun c3 => ?_)
  · have h := h.1 c3
    refine k_iconst (v := 0) C.1 dX5_isReviewedIn_24 (by decide) ?_
    exact k_zret C dX5_isReviewedIn_25 (Or.inl rfl) h
  · have h := h.2 c3
    refine k_aload_n C.1 0 rfl dX5_isReviewedIn_7 ?_
    obtain ⟨hs4, h⟩ := h
    obtain ⟨q5, hq5, h⟩ := h
    refine k_getR C.1 F_X5_20 dX5_isReviewedIn_8 hs4 hq5 ?_
    refine k_iload_n C.1 1 rfl dX5_isReviewedIn_11 ?_
    obtain ⟨hs6, h⟩ := h
    obtain ⟨hi7, q8, hq8, h⟩ := h
    refine k_aald (kd := 17) C.1 dX5_isReviewedIn_12 (by decide) (by decide) rfl rfl hs6 hi7 hq8 ?_
    obtain ⟨hs9, h⟩ := h
    refine k_callV (As := []) (rest := []) C.1 V_X5_39 (c_X10_state h) ⟨rfl, rfl, Nat.le_of_ble_eq_true rfl, Nat.le_of_ble_eq_true rfl⟩ hs9  rfl rfl (Nat.le_of_ble_eq_true rfl) ⟨Nat.zero_le _, Nat.zero_le _⟩ dX5_isReviewedIn_13 (kp_i fun r11 M10 h9 => ?_)
    replace h := h9
    refine k_iconst (v := 2) C.1 dX5_isReviewedIn_16 (by decide) ?_
    refine k_icmp_ne C.1 24 dX5_isReviewedIn_17 (by decide) (fun c12 => ?_) (fun c12 => ?_)
    · have h := h.2 c12
      refine k_iconst (v := 0) C.1 dX5_isReviewedIn_24 (by decide) ?_
      exact k_zret C dX5_isReviewedIn_25 (Or.inl rfl) h
    · have h := h.1 c12
      refine k_iconst (v := 1) C.1 dX5_isReviewedIn_20 (by decide) ?_
      refine k_goto C.1 25 dX5_isReviewedIn_21 (by decide) ?_
      exact k_zret C dX5_isReviewedIn_25 (Or.inr rfl) h
abbrev rm_X10_signs : Room := { frames := 0, cells := 0, slots := 0, locals := 0 }
set_option maxRecDepth 100000 in
set_option maxHeartbeats 4000000 in
theorem c_X10_signs {l : Launch} {D : va_G} {dA : Nat → ClassId} {sh : gh_Sh} {b0 n : Nat} {M : gh_M} {x0 : Nat} {post : Nat → gh_M → Prop} (h : wp_X10_signs sh M x0 post) : gh_Met l D dA sh b0 n yX10_signs cX10_signs 1 (some (.object "GlossHouse$Row")) rm_X10_signs M [.ref x0] (gh_pn post) := by
  refine gh_open (by decide) (Nat.le_of_ble_eq_true rfl) (fun X C => ?_)
  show gh_G X rm_X10_signs 1 0 0 sh n 0 [(0, .ref x0)] [] M
  unfold wp_X10_signs at h
  refine k_aload_n C.1 0 rfl dX10_signs_0 ?_
  obtain ⟨hs1, h⟩ := h
  obtain ⟨q2, hq2, h⟩ := h
  refine k_getR C.1 F_X10_12 dX10_signs_1 hs1 hq2 ?_
  exact k_nret C dX10_signs_4 h
abbrev rm_X5_releasedIn : Room := { frames := 3, cells := 0, slots := 0, locals := 63 }
set_option maxRecDepth 100000 in
set_option maxHeartbeats 4000000 in
theorem c_X5_releasedIn {l : Launch} {D : va_G} {dA : Nat → ClassId} {sh : gh_Sh} {b0 n : Nat} {M : gh_M} {x0 : Nat} {x1 : Int32} {post : Nat → gh_M → Prop} (h : wp_X5_releasedIn sh M x0 x1 post) : gh_Met l D dA sh b0 n yX5_releasedIn cX5_releasedIn 2 (some (.object "GlossHouse$Row")) rm_X5_releasedIn M [.ref x0, .int x1] (gh_pn post) := by
  refine gh_open (by decide) (Nat.le_of_ble_eq_true rfl) (fun X C => ?_)
  show gh_G X rm_X5_releasedIn 2 0 0 sh n 0 [(0, .ref x0), (1, .int x1)] [] M
  unfold wp_X5_releasedIn at h
  refine k_aload_n C.1 0 rfl dX5_releasedIn_0 ?_
  refine k_iload_n C.1 1 rfl dX5_releasedIn_1 ?_
  obtain ⟨hs1, h⟩ := h
  refine k_callV (As := [.int x1]) (rest := []) C.1 V_X5_43 (c_X5_isReviewedIn h) ⟨rfl, rfl, Nat.le_of_ble_eq_true rfl, Nat.le_of_ble_eq_true rfl⟩ hs1  rfl rfl (Nat.le_of_ble_eq_true rfl) ⟨Nat.zero_le _, Nat.zero_le _⟩ dX5_releasedIn_2 (kp_i fun r3 M2 h9 => ?_)
  replace h := h9
  refine k_if_eq C.1 20 dX5_releasedIn_5 (by decide) (fun c4 => ?_) (fun c4 => ?_)
  · have h := h.1 c4
    refine k_aload_n C.1 0 rfl dX5_releasedIn_20 ?_
    obtain ⟨q5, hq5, h⟩ := h
    refine k_getR C.1 F_X5_12 dX5_releasedIn_21 hs1 hq5 ?_
    exact k_nret C dX5_releasedIn_24 h
  · have h := h.2 c4
    refine k_aload_n C.1 0 rfl dX5_releasedIn_8 ?_
    obtain ⟨q6, hq6, h⟩ := h
    refine k_getR C.1 F_X5_20 dX5_releasedIn_9 hs1 hq6 ?_
    refine k_iload_n C.1 1 rfl dX5_releasedIn_12 ?_
    obtain ⟨hs7, h⟩ := h
    obtain ⟨hi8, q9, hq9, h⟩ := h
    refine k_aald (kd := 17) C.1 dX5_releasedIn_13 (by decide) (by decide) rfl rfl hs7 hi8 hq9 ?_
    obtain ⟨hs10, h⟩ := h
    refine k_callV (As := []) (rest := []) C.1 V_X5_46 (c_X10_signs h) ⟨rfl, rfl, Nat.le_of_ble_eq_true rfl, Nat.le_of_ble_eq_true rfl⟩ hs10  rfl rfl (Nat.le_of_ble_eq_true rfl) ⟨Nat.zero_le _, Nat.zero_le _⟩ dX5_releasedIn_14 (kp_n fun r12 M11 h9 => ?_)
    replace h := h9
    refine k_goto C.1 24 dX5_releasedIn_17 (by decide) ?_
    exact k_nret C dX5_releasedIn_24 h
abbrev rm_X7_size : Room := { frames := 0, cells := 0, slots := 0, locals := 0 }
set_option maxRecDepth 100000 in
set_option maxHeartbeats 4000000 in
theorem c_X7_size {l : Launch} {D : va_G} {dA : Nat → ClassId} {sh : gh_Sh} {b0 n : Nat} {M : gh_M} {x0 : Nat} {post : Int32 → gh_M → Prop} (h : wp_X7_size sh M x0 post) : gh_Met l D dA sh b0 n yX7_size cX7_size 1 (some .int) rm_X7_size M [.ref x0] (gh_pi post) := by
  refine gh_open (by decide) (Nat.le_of_ble_eq_true rfl) (fun X C => ?_)
  show gh_G X rm_X7_size 1 0 0 sh n 0 [(0, .ref x0)] [] M
  unfold wp_X7_size at h
  refine k_aload_n C.1 0 rfl dX7_size_0 ?_
  obtain ⟨hs1, h⟩ := h
  refine k_getI C.1 F_X7_15 dX7_size_1 hs1 ?_
  exact k_iret C dX7_size_4 h
abbrev rm_X0_releasedSize : Room := { frames := 4, cells := 0, slots := 0, locals := 84 }
set_option maxRecDepth 100000 in
set_option maxHeartbeats 4000000 in
theorem bb_X0_releasedSize_4 {X : gh_X} {sh : gh_Sh} {n : Nat} {post : Int32 → gh_M → Prop} (C : gh_CR X cX0_releasedSize RX0 4 (some .int) sh n 0 0 (gh_pi post)) (x0 : Nat) (x1 : Int32) (k4 : Int32 → Int32 → gh_M → Prop) (hk4 : ∀ (y2 : Int32) (y3 : Int32) (M : gh_M), k4 y2 y3 M → gh_G X rm_X0_releasedSize 4 0 0 sh n 4 [(0, .ref x0), (1, .int x1), (2, .int y2), (3, .int y3)] [] M) (x2 : Int32) (x3 : Int32) (M : gh_M) (h : wb_X0_releasedSize_4 sh post x0 x1 k4 x2 x3 M) : gh_G X rm_X0_releasedSize 4 0 0 sh n 4 [(0, .ref x0), (1, .int x1), (2, .int x2), (3, .int x3)] [] M := by
  unfold wb_X0_releasedSize_4 at h
  refine k_iload_n C.1 3 rfl dX0_releasedSize_4 ?_
  refine k_aload_n C.1 0 rfl dX0_releasedSize_5 ?_
  obtain ⟨hs1, h⟩ := h
  refine k_getI C.1 F_X0_18 dX0_releasedSize_6 hs1 ?_
  refine k_icmp_ge C.1 34 dX0_releasedSize_9 (by decide) (fun c2 => ?_) (fun c2 => ?_)
  · have h := h.1 c2
    refine k_iload_n C.1 2 rfl dX0_releasedSize_34 ?_
    exact k_iret C dX0_releasedSize_35 h
  · have h := h.2 c2
    refine k_iload_n C.1 2 rfl dX0_releasedSize_12 ?_
    refine k_aload_n C.1 0 rfl dX0_releasedSize_13 ?_
    obtain ⟨q3, hq3, h⟩ := h
    refine k_getR C.1 F_X0_11 dX0_releasedSize_14 hs1 hq3 ?_
    refine k_iload_n C.1 3 rfl dX0_releasedSize_17 ?_
    obtain ⟨hs4, h⟩ := h
    obtain ⟨hi5, q6, hq6, h⟩ := h
    refine k_aald (kd := 16) C.1 dX0_releasedSize_18 (by decide) (by decide) rfl rfl hs4 hi5 hq6 ?_
    refine k_iload_n C.1 1 rfl dX0_releasedSize_19 ?_
    obtain ⟨hs7, h⟩ := h
    refine k_callV (As := [.int x1]) (rest := [.int x2]) C.1 V_X0_38 (c_X5_releasedIn h) ⟨rfl, rfl, Nat.le_of_ble_eq_true rfl, Nat.le_of_ble_eq_true rfl⟩ hs7  rfl rfl (Nat.le_of_ble_eq_true rfl) ⟨Nat.zero_le _, Nat.zero_le _⟩ dX0_releasedSize_20 (kp_n fun r9 M8 h9 => ?_)
    replace h := h9
    obtain ⟨hs10, h⟩ := h
    refine k_callV (As := []) (rest := [.int x2]) C.1 V_X0_42 (c_X7_size h) ⟨rfl, rfl, Nat.le_of_ble_eq_true rfl, Nat.le_of_ble_eq_true rfl⟩ hs10  rfl rfl (Nat.le_of_ble_eq_true rfl) ⟨Nat.zero_le _, Nat.zero_le _⟩ dX0_releasedSize_23 (kp_i fun r12 M11 h9 => ?_)
    replace h := h9
    refine k_iadd C.1 dX0_releasedSize_26 ?_
    refine k_istore_n (lv' := [(2, .int (x2 + r12)), (0, .ref x0), (1, .int x1), (3, .int x3)]) C.1 dX0_releasedSize_27 (by decide) rfl ?_
    refine k_iinc (v := x3 + 1) (lv' := [(3, .int (x3 + 1)), (2, .int (x2 + r12)), (0, .ref x0), (1, .int x1)]) C.1 3 rfl dX0_releasedSize_28 (by decide) rfl rfl ?_
    refine k_goto C.1 4 dX0_releasedSize_31 (by decide) ?_
    refine k_sub (lv' := [(0, .ref x0), (1, .int x1), (2, .int (x2 + r12)), (3, .int (x3 + 1))]) [2, 3, 1, 0] rfl ?_
    exact hk4 (x2 + r12) (x3 + 1) M11 h
set_option maxRecDepth 100000 in
theorem b_X0_releasedSize_4 {X : gh_X} {sh : gh_Sh} {n : Nat} {post : Int32 → gh_M → Prop} (C : gh_CR X cX0_releasedSize RX0 4 (some .int) sh n 0 0 (gh_pi post)) (x0 : Nat) (x1 : Int32) (x2 : Int32) (x3 : Int32) (M : gh_M) (h : wp_X0_releasedSize_4 sh post x0 x1 x2 x3 M) : gh_G X rm_X0_releasedSize 4 0 0 sh n 4 [(0, .ref x0), (1, .int x1), (2, .int x2), (3, .int x3)] [] M := by
  unfold wp_X0_releasedSize_4 at h
  exact gh_loop_use h (fun v => gh_G X rm_X0_releasedSize 4 0 0 sh n 4 [(0, .ref x0), (1, .int x1), (2, .int v.1), (3, .int v.2.1)] [] v.2.2) (fun k v hk hb => bb_X0_releasedSize_4 C x0 x1 (fun x2 x3 M => k (x2, x3, M)) (fun x2 x3 M h => hk (x2, x3, M) h) v.1 v.2.1 v.2.2 hb)
set_option maxRecDepth 100000 in
set_option maxHeartbeats 4000000 in
theorem c_X0_releasedSize {l : Launch} {D : va_G} {dA : Nat → ClassId} {sh : gh_Sh} {b0 n : Nat} {M : gh_M} {x0 : Nat} {x1 : Int32} {post : Int32 → gh_M → Prop} (h : wp_X0_releasedSize sh M x0 x1 post) : gh_Met l D dA sh b0 n yX0_releasedSize cX0_releasedSize 4 (some .int) rm_X0_releasedSize M [.ref x0, .int x1] (gh_pi post) := by
  refine gh_open (by decide) (Nat.le_of_ble_eq_true rfl) (fun X C => ?_)
  show gh_G X rm_X0_releasedSize 4 0 0 sh n 0 [(0, .ref x0), (1, .int x1)] [] M
  unfold wp_X0_releasedSize at h
  refine k_iconst (v := 0) C.1 dX0_releasedSize_0 (by decide) ?_
  refine k_istore_n (lv' := [(2, .int (0 : Int32)), (0, .ref x0), (1, .int x1)]) C.1 dX0_releasedSize_1 (by decide) rfl ?_
  refine k_iconst (v := 0) C.1 dX0_releasedSize_2 (by decide) ?_
  refine k_istore_n (lv' := [(3, .int (0 : Int32)), (2, .int (0 : Int32)), (0, .ref x0), (1, .int x1)]) C.1 dX0_releasedSize_3 (by decide) rfl ?_
  refine k_sub (lv' := [(0, .ref x0), (1, .int x1), (2, .int (0 : Int32)), (3, .int (0 : Int32))]) [2, 3, 1, 0] rfl ?_
  exact b_X0_releasedSize_4 C x0 x1 (0 : Int32) (0 : Int32) M h
abbrev rm_X7_at : Room := { frames := 0, cells := 0, slots := 0, locals := 0 }
set_option maxRecDepth 100000 in
set_option maxHeartbeats 4000000 in
theorem c_X7_at {l : Launch} {D : va_G} {dA : Nat → ClassId} {sh : gh_Sh} {b0 n : Nat} {M : gh_M} {x0 : Nat} {x1 : Int32} {post : Int32 → gh_M → Prop} (h : wp_X7_at sh M x0 x1 post) : gh_Met l D dA sh b0 n yX7_at cX7_at 2 (some .int) rm_X7_at M [.ref x0, .int x1] (gh_pi post) := by
  refine gh_open (by decide) (Nat.le_of_ble_eq_true rfl) (fun X C => ?_)
  show gh_G X rm_X7_at 2 0 0 sh n 0 [(0, .ref x0), (1, .int x1)] [] M
  unfold wp_X7_at at h
  refine k_iload_n C.1 1 rfl dX7_at_0 ?_
  refine k_if_lt C.1 21 dX7_at_1 (by decide) (fun c1 => ?_) (fun c1 => ?_)
  · have h := h.1 c1
    refine k_iconst (v := (-1)) C.1 dX7_at_21 (by decide) ?_
    exact k_iret C dX7_at_22 h
  · have h := h.2 c1
    refine k_iload_n C.1 1 rfl dX7_at_4 ?_
    refine k_aload_n C.1 0 rfl dX7_at_5 ?_
    obtain ⟨hs2, h⟩ := h
    refine k_getI C.1 F_X7_15 dX7_at_6 hs2 ?_
    refine k_icmp_ge C.1 21 dX7_at_9 (by decide) (fun c3 => ?_) (fun c3 => ?_)
    · have h := h.1 c3
      refine k_iconst (v := (-1)) C.1 dX7_at_21 (by decide) ?_
      exact k_iret C dX7_at_22 h
    · have h := h.2 c3
      refine k_aload_n C.1 0 rfl dX7_at_12 ?_
      obtain ⟨q4, hq4, h⟩ := h
      refine k_getR C.1 F_X7_9 dX7_at_13 hs2 hq4 ?_
      refine k_iload_n C.1 1 rfl dX7_at_16 ?_
      obtain ⟨hs5, h⟩ := h
      obtain ⟨hi6, h⟩ := h
      refine k_iald C.1 dX7_at_17 hs5 hi6 ?_
      refine k_goto C.1 22 dX7_at_18 (by decide) ?_
      exact k_iret C dX7_at_22 h
abbrev rm_X0_releasedSign : Room := { frames := 4, cells := 0, slots := 0, locals := 84 }
set_option maxRecDepth 100000 in
set_option maxHeartbeats 4000000 in
theorem bb_X0_releasedSign_12 {X : gh_X} {sh : gh_Sh} {n : Nat} {post : Int32 → gh_M → Prop} (C : gh_CR X cX0_releasedSign RX0 6 (some .int) sh n 0 0 (gh_pi post)) (x0 : Nat) (x1 : Int32) (k12 : Int32 → Int32 → gh_M → Prop) (hk12 : ∀ (y3 : Int32) (y4 : Int32) (M : gh_M), k12 y3 y4 M → gh_G X rm_X0_releasedSign 6 0 0 sh n 12 [(0, .ref x0), (1, .int x1), (3, .int y3), (4, .int y4)] [] M) (x3 : Int32) (x4 : Int32) (M : gh_M) (h : wb_X0_releasedSign_12 sh post x0 x1 k12 x3 x4 M) : gh_G X rm_X0_releasedSign 6 0 0 sh n 12 [(0, .ref x0), (1, .int x1), (3, .int x3), (4, .int x4)] [] M := by
  unfold wb_X0_releasedSign_12 at h
  refine k_iload C.1 3 rfl dX0_releasedSign_12 ?_
  refine k_aload_n C.1 0 rfl dX0_releasedSign_14 ?_
  obtain ⟨hs1, h⟩ := h
  refine k_getI C.1 F_X0_18 dX0_releasedSign_15 hs1 ?_
  refine k_icmp_ge C.1 64 dX0_releasedSign_18 (by decide) (fun c2 => ?_) (fun c2 => ?_)
  · have h := h.1 c2
    refine k_bipush (v := (-5)) C.1 dX0_releasedSign_64 (by decide) ?_
    exact k_iret C dX0_releasedSign_66 h
  · have h := h.2 c2
    refine k_aload_n C.1 0 rfl dX0_releasedSign_21 ?_
    obtain ⟨q3, hq3, h⟩ := h
    refine k_getR C.1 F_X0_11 dX0_releasedSign_22 hs1 hq3 ?_
    refine k_iload C.1 3 rfl dX0_releasedSign_25 ?_
    obtain ⟨hs4, h⟩ := h
    obtain ⟨hi5, q6, hq6, h⟩ := h
    refine k_aald (kd := 16) C.1 dX0_releasedSign_27 (by decide) (by decide) rfl rfl hs4 hi5 hq6 ?_
    refine k_iload_n C.1 1 rfl dX0_releasedSign_28 ?_
    obtain ⟨hs7, h⟩ := h
    refine k_callV (As := [.int x1]) (rest := []) C.1 V_X0_38 (c_X5_releasedIn h) ⟨rfl, rfl, Nat.le_of_ble_eq_true rfl, Nat.le_of_ble_eq_true rfl⟩ hs7  rfl rfl (Nat.le_of_ble_eq_true rfl) ⟨Nat.zero_le _, Nat.zero_le _⟩ dX0_releasedSign_29 (kp_n fun r9 M8 h9 => ?_)
    replace h := h9
    refine k_astore (lv' := [(5, .ref r9), (0, .ref x0), (1, .int x1), (3, .int x3), (4, .int x4)]) C.1 dX0_releasedSign_32 (by decide) rfl ?_
    refine k_iload_n C.1 3 rfl dX0_releasedSign_34 ?_
    refine k_aload C.1 0 rfl dX0_releasedSign_35 ?_
    obtain ⟨hs10, h⟩ := h
    refine k_callV (As := []) (rest := [.int x3]) C.1 V_X0_42 (c_X7_size h) ⟨rfl, rfl, Nat.le_of_ble_eq_true rfl, Nat.le_of_ble_eq_true rfl⟩ hs10  rfl rfl (Nat.le_of_ble_eq_true rfl) ⟨Nat.zero_le _, Nat.zero_le _⟩ dX0_releasedSign_37 (kp_i fun r12 M11 h9 => ?_)
    replace h := h9
    refine k_icmp_ge C.1 50 dX0_releasedSign_40 (by decide) (fun c13 => ?_) (fun c13 => ?_)
    · have h := h.1 c13
      refine k_iload_n C.1 3 rfl dX0_releasedSign_50 ?_
      refine k_aload C.1 0 rfl dX0_releasedSign_51 ?_
      refine k_callV (As := []) (rest := [.int x3]) C.1 V_X0_42 (c_X7_size h) ⟨rfl, rfl, Nat.le_of_ble_eq_true rfl, Nat.le_of_ble_eq_true rfl⟩ hs10  rfl rfl (Nat.le_of_ble_eq_true rfl) ⟨Nat.zero_le _, Nat.zero_le _⟩ dX0_releasedSign_53 (kp_i fun r15 M14 h9 => ?_)
      replace h := h9
      refine k_isub C.1 dX0_releasedSign_56 ?_
      refine k_istore_n (lv' := [(3, .int (x3 - r15)), (5, .ref r9), (0, .ref x0), (1, .int x1), (4, .int x4)]) C.1 dX0_releasedSign_57 (by decide) rfl ?_
      refine k_iinc (v := x4 + 1) (lv' := [(4, .int (x4 + 1)), (3, .int (x3 - r15)), (5, .ref r9), (0, .ref x0), (1, .int x1)]) C.1 4 rfl dX0_releasedSign_58 (by decide) rfl rfl ?_
      refine k_goto C.1 12 dX0_releasedSign_61 (by decide) ?_
      refine k_sub (lv' := [(0, .ref x0), (1, .int x1), (3, .int (x3 - r15)), (4, .int (x4 + 1))]) [3, 4, 1, 0] rfl ?_
      exact hk12 (x3 - r15) (x4 + 1) M14 h
    · have h := h.2 c13
      refine k_aload C.1 0 rfl dX0_releasedSign_43 ?_
      refine k_iload_n C.1 3 rfl dX0_releasedSign_45 ?_
      refine k_callV (As := [.int x3]) (rest := []) C.1 V_X0_48 (c_X7_at h) ⟨rfl, rfl, Nat.le_of_ble_eq_true rfl, Nat.le_of_ble_eq_true rfl⟩ hs10  rfl rfl (Nat.le_of_ble_eq_true rfl) ⟨Nat.zero_le _, Nat.zero_le _⟩ dX0_releasedSign_46 (kp_i fun r17 M16 h9 => ?_)
      replace h := h9
      exact k_iret C dX0_releasedSign_49 h
set_option maxRecDepth 100000 in
theorem b_X0_releasedSign_12 {X : gh_X} {sh : gh_Sh} {n : Nat} {post : Int32 → gh_M → Prop} (C : gh_CR X cX0_releasedSign RX0 6 (some .int) sh n 0 0 (gh_pi post)) (x0 : Nat) (x1 : Int32) (x3 : Int32) (x4 : Int32) (M : gh_M) (h : wp_X0_releasedSign_12 sh post x0 x1 x3 x4 M) : gh_G X rm_X0_releasedSign 6 0 0 sh n 12 [(0, .ref x0), (1, .int x1), (3, .int x3), (4, .int x4)] [] M := by
  unfold wp_X0_releasedSign_12 at h
  exact gh_loop_use h (fun v => gh_G X rm_X0_releasedSign 6 0 0 sh n 12 [(0, .ref x0), (1, .int x1), (3, .int v.1), (4, .int v.2.1)] [] v.2.2) (fun k v hk hb => bb_X0_releasedSign_12 C x0 x1 (fun x3 x4 M => k (x3, x4, M)) (fun x3 x4 M h => hk (x3, x4, M) h) v.1 v.2.1 v.2.2 hb)
set_option maxRecDepth 100000 in
set_option maxHeartbeats 4000000 in
theorem c_X0_releasedSign {l : Launch} {D : va_G} {dA : Nat → ClassId} {sh : gh_Sh} {b0 n : Nat} {M : gh_M} {x0 : Nat} {x1 : Int32} {x2 : Int32} {post : Int32 → gh_M → Prop} (h : wp_X0_releasedSign sh M x0 x1 x2 post) : gh_Met l D dA sh b0 n yX0_releasedSign cX0_releasedSign 6 (some .int) rm_X0_releasedSign M [.ref x0, .int x1, .int x2] (gh_pi post) := by
  refine gh_open (by decide) (Nat.le_of_ble_eq_true rfl) (fun X C => ?_)
  show gh_G X rm_X0_releasedSign 6 0 0 sh n 0 [(0, .ref x0), (1, .int x1), (2, .int x2)] [] M
  unfold wp_X0_releasedSign at h
  refine k_iload_n C.1 2 rfl dX0_releasedSign_0 ?_
  refine k_if_ge C.1 7 dX0_releasedSign_1 (by decide) (fun c1 => ?_) (fun c1 => ?_)
  · have h := h.1 c1
    refine k_iload_n C.1 2 rfl dX0_releasedSign_7 ?_
    refine k_istore_n (lv' := [(3, .int x2), (0, .ref x0), (1, .int x1), (2, .int x2)]) C.1 dX0_releasedSign_8 (by decide) rfl ?_
    refine k_iconst (v := 0) C.1 dX0_releasedSign_9 (by decide) ?_
    refine k_istore (lv' := [(4, .int (0 : Int32)), (3, .int x2), (0, .ref x0), (1, .int x1), (2, .int x2)]) C.1 dX0_releasedSign_10 (by decide) rfl ?_
    refine k_sub (lv' := [(0, .ref x0), (1, .int x1), (3, .int x2), (4, .int (0 : Int32))]) [2, 3, 1, 0] rfl ?_
    exact b_X0_releasedSign_12 C x0 x1 x2 (0 : Int32) M h
  · have h := h.2 c1
    refine k_bipush (v := (-5)) C.1 dX0_releasedSign_4 (by decide) ?_
    exact k_iret C dX0_releasedSign_6 h
abbrev rm_X1_pieceSigns : Room := { frames := 0, cells := 0, slots := 0, locals := 0 }
set_option maxRecDepth 100000 in
set_option maxHeartbeats 4000000 in
theorem c_X1_pieceSigns {l : Launch} {D : va_G} {dA : Nat → ClassId} {sh : gh_Sh} {b0 n : Nat} {M : gh_M} {x0 : Nat} {post : Nat → gh_M → Prop} (h : wp_X1_pieceSigns sh M x0 post) : gh_Met l D dA sh b0 n yX1_pieceSigns cX1_pieceSigns 1 (some (.object "GlossHouse$Row")) rm_X1_pieceSigns M [.ref x0] (gh_pn post) := by
  refine gh_open (by decide) (Nat.le_of_ble_eq_true rfl) (fun X C => ?_)
  show gh_G X rm_X1_pieceSigns 1 0 0 sh n 0 [(0, .ref x0)] [] M
  unfold wp_X1_pieceSigns at h
  refine k_aload_n C.1 0 rfl dX1_pieceSigns_0 ?_
  obtain ⟨hs1, h⟩ := h
  obtain ⟨q2, hq2, h⟩ := h
  refine k_getR C.1 F_X1_10 dX1_pieceSigns_1 hs1 hq2 ?_
  exact k_nret C dX1_pieceSigns_4 h
abbrev rm_X1_textSigns : Room := { frames := 0, cells := 0, slots := 0, locals := 0 }
set_option maxRecDepth 100000 in
set_option maxHeartbeats 4000000 in
theorem c_X1_textSigns {l : Launch} {D : va_G} {dA : Nat → ClassId} {sh : gh_Sh} {b0 n : Nat} {M : gh_M} {x0 : Nat} {post : Nat → gh_M → Prop} (h : wp_X1_textSigns sh M x0 post) : gh_Met l D dA sh b0 n yX1_textSigns cX1_textSigns 1 (some (.object "GlossHouse$Row")) rm_X1_textSigns M [.ref x0] (gh_pn post) := by
  refine gh_open (by decide) (Nat.le_of_ble_eq_true rfl) (fun X C => ?_)
  show gh_G X rm_X1_textSigns 1 0 0 sh n 0 [(0, .ref x0)] [] M
  unfold wp_X1_textSigns at h
  refine k_aload_n C.1 0 rfl dX1_textSigns_0 ?_
  obtain ⟨hs1, h⟩ := h
  obtain ⟨q2, hq2, h⟩ := h
  refine k_getR C.1 F_X1_16 dX1_textSigns_1 hs1 hq2 ?_
  exact k_nret C dX1_textSigns_4 h
abbrev rm_X1_tongue : Room := { frames := 0, cells := 0, slots := 0, locals := 0 }
set_option maxRecDepth 100000 in
set_option maxHeartbeats 4000000 in
theorem c_X1_tongue {l : Launch} {D : va_G} {dA : Nat → ClassId} {sh : gh_Sh} {b0 n : Nat} {M : gh_M} {x0 : Nat} {post : Int32 → gh_M → Prop} (h : wp_X1_tongue sh M x0 post) : gh_Met l D dA sh b0 n yX1_tongue cX1_tongue 1 (some .int) rm_X1_tongue M [.ref x0] (gh_pi post) := by
  refine gh_open (by decide) (Nat.le_of_ble_eq_true rfl) (fun X C => ?_)
  show gh_G X rm_X1_tongue 1 0 0 sh n 0 [(0, .ref x0)] [] M
  unfold wp_X1_tongue at h
  refine k_aload_n C.1 0 rfl dX1_tongue_0 ?_
  obtain ⟨hs1, h⟩ := h
  refine k_getI C.1 F_X1_19 dX1_tongue_1 hs1 ?_
  exact k_iret C dX1_tongue_4 h
abbrev rm_X1_fill : Room := { frames := 1, cells := 0, slots := 0, locals := 22 }
set_option maxRecDepth 100000 in
set_option maxHeartbeats 4000000 in
theorem c_X1_fill {l : Launch} {D : va_G} {dA : Nat → ClassId} {sh : gh_Sh} {b0 n : Nat} {M : gh_M} {x0 : Nat} {x1 : Nat} {x2 : Int32} {x3 : Nat} {post : gh_M → Prop} (h : wp_X1_fill sh M x0 x1 x2 x3 post) : gh_Met l D dA sh b0 n yX1_fill cX1_fill 4 none rm_X1_fill M [.ref x0, .ref x1, .int x2, .ref x3] (gh_pv post) := by
  refine gh_open (by decide) (Nat.le_of_ble_eq_true rfl) (fun X C => ?_)
  show gh_G X rm_X1_fill 4 0 0 sh n 0 [(0, .ref x0), (1, .ref x1), (2, .int x2), (3, .ref x3)] [] M
  unfold wp_X1_fill at h
  refine k_aload_n C.1 0 rfl dX1_fill_0 ?_
  obtain ⟨hs1, h⟩ := h
  obtain ⟨q2, hq2, h⟩ := h
  refine k_getR C.1 F_X1_10 dX1_fill_1 hs1 hq2 ?_
  refine k_aload_n C.1 1 rfl dX1_fill_4 ?_
  obtain ⟨hs3, h⟩ := h
  refine k_callV (As := [.ref x1]) (rest := []) C.1 V_X1_23 (c_X7_copy h) ⟨rfl, rfl, Nat.le_of_ble_eq_true rfl, Nat.le_of_ble_eq_true rfl⟩ hs3  rfl rfl (Nat.le_of_ble_eq_true rfl) ⟨Nat.zero_le _, Nat.zero_le _⟩ dX1_fill_5 (kp_v fun M4 h9 => ?_)
  replace h := h9
  refine k_aload_n C.1 0 rfl dX1_fill_8 ?_
  refine k_iload_n C.1 2 rfl dX1_fill_9 ?_
  refine k_putI C.1 F_X1_19 dX1_fill_10 hs1 rfl rfl ?_
  refine k_aload_n C.1 0 rfl dX1_fill_13 ?_
  obtain ⟨q5, hq5, h⟩ := h
  refine k_getR C.1 F_X1_16 dX1_fill_14 hs1 hq5 ?_
  refine k_aload_n C.1 3 rfl dX1_fill_17 ?_
  obtain ⟨hs6, h⟩ := h
  refine k_callV (As := [.ref x3]) (rest := []) C.1 V_X1_23 (c_X7_copy h) ⟨rfl, rfl, Nat.le_of_ble_eq_true rfl, Nat.le_of_ble_eq_true rfl⟩ hs6  rfl rfl (Nat.le_of_ble_eq_true rfl) ⟨Nat.zero_le _, Nat.zero_le _⟩ dX1_fill_18 (kp_v fun M7 h9 => ?_)
  replace h := h9
  exact k_vret C dX1_fill_21 h
abbrev rm_X7_isSameAs : Room := { frames := 0, cells := 0, slots := 0, locals := 0 }
set_option maxRecDepth 100000 in
set_option maxHeartbeats 4000000 in
theorem bb_X7_isSameAs_15 {X : gh_X} {sh : gh_Sh} {n : Nat} {post : Int32 → gh_M → Prop} (C : gh_CR X cX7_isSameAs RX7 3 (some .boolean) sh n 0 0 (gh_pi post)) (x0 : Nat) (x1 : Nat) (k15 : Int32 → gh_M → Prop) (hk15 : ∀ (y2 : Int32) (M : gh_M), k15 y2 M → gh_G X rm_X7_isSameAs 3 0 0 sh n 15 [(0, .ref x0), (1, .ref x1), (2, .int y2)] [] M) (x2 : Int32) (M : gh_M) (h : wb_X7_isSameAs_15 sh post x0 x1 k15 x2 M) : gh_G X rm_X7_isSameAs 3 0 0 sh n 15 [(0, .ref x0), (1, .ref x1), (2, .int x2)] [] M := by
  unfold wb_X7_isSameAs_15 at h
  refine k_iload_n C.1 2 rfl dX7_isSameAs_15 ?_
  refine k_aload_n C.1 0 rfl dX7_isSameAs_16 ?_
  obtain ⟨hs1, h⟩ := h
  refine k_getI C.1 F_X7_15 dX7_isSameAs_17 hs1 ?_
  refine k_icmp_ge C.1 46 dX7_isSameAs_20 (by decide) (fun c2 => ?_) (fun c2 => ?_)
  · have h := h.1 c2
    refine k_iconst (v := 1) C.1 dX7_isSameAs_46 (by decide) ?_
    exact k_zret C dX7_isSameAs_47 (Or.inr rfl) h
  · have h := h.2 c2
    refine k_aload_n C.1 0 rfl dX7_isSameAs_23 ?_
    obtain ⟨q3, hq3, h⟩ := h
    refine k_getR C.1 F_X7_9 dX7_isSameAs_24 hs1 hq3 ?_
    refine k_iload_n C.1 2 rfl dX7_isSameAs_27 ?_
    obtain ⟨hs4, h⟩ := h
    obtain ⟨hi5, h⟩ := h
    refine k_iald C.1 dX7_isSameAs_28 hs4 hi5 ?_
    refine k_aload_n C.1 1 rfl dX7_isSameAs_29 ?_
    obtain ⟨hs6, h⟩ := h
    obtain ⟨q7, hq7, h⟩ := h
    refine k_getR C.1 F_X7_9 dX7_isSameAs_30 hs6 hq7 ?_
    refine k_iload_n C.1 2 rfl dX7_isSameAs_33 ?_
    obtain ⟨hs8, h⟩ := h
    obtain ⟨hi9, h⟩ := h
    refine k_iald C.1 dX7_isSameAs_34 hs8 hi9 ?_
    refine k_icmp_eq C.1 40 dX7_isSameAs_35 (by decide) (fun c10 => ?_) (fun c10 => ?_)
    · have h := h.1 c10
      refine k_iinc (v := x2 + 1) (lv' := [(2, .int (x2 + 1)), (0, .ref x0), (1, .ref x1)]) C.1 2 rfl dX7_isSameAs_40 (by decide) rfl rfl ?_
      refine k_goto C.1 15 dX7_isSameAs_43 (by decide) ?_
      refine k_sub (lv' := [(0, .ref x0), (1, .ref x1), (2, .int (x2 + 1))]) [1, 2, 0] rfl ?_
      exact hk15 (x2 + 1) M h
    · have h := h.2 c10
      refine k_iconst (v := 0) C.1 dX7_isSameAs_38 (by decide) ?_
      exact k_zret C dX7_isSameAs_39 (Or.inl rfl) h
set_option maxRecDepth 100000 in
theorem b_X7_isSameAs_15 {X : gh_X} {sh : gh_Sh} {n : Nat} {post : Int32 → gh_M → Prop} (C : gh_CR X cX7_isSameAs RX7 3 (some .boolean) sh n 0 0 (gh_pi post)) (x0 : Nat) (x1 : Nat) (x2 : Int32) (M : gh_M) (h : wp_X7_isSameAs_15 sh post x0 x1 x2 M) : gh_G X rm_X7_isSameAs 3 0 0 sh n 15 [(0, .ref x0), (1, .ref x1), (2, .int x2)] [] M := by
  unfold wp_X7_isSameAs_15 at h
  exact gh_loop_use h (fun v => gh_G X rm_X7_isSameAs 3 0 0 sh n 15 [(0, .ref x0), (1, .ref x1), (2, .int v.1)] [] v.2) (fun k v hk hb => bb_X7_isSameAs_15 C x0 x1 (fun x2 M => k (x2, M)) (fun x2 M h => hk (x2, M) h) v.1 v.2 hb)
set_option maxRecDepth 100000 in
set_option maxHeartbeats 4000000 in
theorem c_X7_isSameAs {l : Launch} {D : va_G} {dA : Nat → ClassId} {sh : gh_Sh} {b0 n : Nat} {M : gh_M} {x0 : Nat} {x1 : Nat} {post : Int32 → gh_M → Prop} (h : wp_X7_isSameAs sh M x0 x1 post) : gh_Met l D dA sh b0 n yX7_isSameAs cX7_isSameAs 3 (some .boolean) rm_X7_isSameAs M [.ref x0, .ref x1] (gh_pi post) := by
  refine gh_open (by decide) (Nat.le_of_ble_eq_true rfl) (fun X C => ?_)
  show gh_G X rm_X7_isSameAs 3 0 0 sh n 0 [(0, .ref x0), (1, .ref x1)] [] M
  unfold wp_X7_isSameAs at h
  refine k_aload_n C.1 0 rfl dX7_isSameAs_0 ?_
  obtain ⟨hs1, h⟩ := h
  refine k_getI C.1 F_X7_15 dX7_isSameAs_1 hs1 ?_
  refine k_aload_n C.1 1 rfl dX7_isSameAs_4 ?_
  obtain ⟨hs2, h⟩ := h
  refine k_getI C.1 F_X7_15 dX7_isSameAs_5 hs2 ?_
  refine k_icmp_eq C.1 13 dX7_isSameAs_8 (by decide) (fun c3 => ?_) (fun c3 => ?_)
  · have h := h.1 c3
    refine k_iconst (v := 0) C.1 dX7_isSameAs_13 (by decide) ?_
    refine k_istore_n (lv' := [(2, .int (0 : Int32)), (0, .ref x0), (1, .ref x1)]) C.1 dX7_isSameAs_14 (by decide) rfl ?_
    refine k_sub (lv' := [(0, .ref x0), (1, .ref x1), (2, .int (0 : Int32))]) [1, 2, 0] rfl ?_
    exact b_X7_isSameAs_15 C x0 x1 (0 : Int32) M h
  · have h := h.2 c3
    refine k_iconst (v := 0) C.1 dX7_isSameAs_11 (by decide) ?_
    exact k_zret C dX7_isSameAs_12 (Or.inl rfl) h
abbrev rm_X1_isJust : Room := { frames := 1, cells := 0, slots := 0, locals := 22 }
set_option maxRecDepth 100000 in
set_option maxHeartbeats 4000000 in
theorem c_X1_isJust {l : Launch} {D : va_G} {dA : Nat → ClassId} {sh : gh_Sh} {b0 n : Nat} {M : gh_M} {x0 : Nat} {x1 : Nat} {x2 : Int32} {x3 : Nat} {post : Int32 → gh_M → Prop} (h : wp_X1_isJust sh M x0 x1 x2 x3 post) : gh_Met l D dA sh b0 n yX1_isJust cX1_isJust 4 (some .boolean) rm_X1_isJust M [.ref x0, .ref x1, .int x2, .ref x3] (gh_pi post) := by
  refine gh_open (by decide) (Nat.le_of_ble_eq_true rfl) (fun X C => ?_)
  show gh_G X rm_X1_isJust 4 0 0 sh n 0 [(0, .ref x0), (1, .ref x1), (2, .int x2), (3, .ref x3)] [] M
  unfold wp_X1_isJust at h
  refine k_aload_n C.1 0 rfl dX1_isJust_0 ?_
  obtain ⟨hs1, h⟩ := h
  refine k_getI C.1 F_X1_19 dX1_isJust_1 hs1 ?_
  refine k_iload_n C.1 2 rfl dX1_isJust_4 ?_
  refine k_icmp_ne C.1 34 dX1_isJust_5 (by decide) (fun c2 => ?_) (fun c2 => ?_)
  · have h := h.2 c2
    refine k_iconst (v := 0) C.1 dX1_isJust_34 (by decide) ?_
    exact k_zret C dX1_isJust_35 (Or.inl rfl) h
  · have h := h.1 c2
    refine k_aload_n C.1 0 rfl dX1_isJust_8 ?_
    obtain ⟨q3, hq3, h⟩ := h
    refine k_getR C.1 F_X1_10 dX1_isJust_9 hs1 hq3 ?_
    refine k_aload_n C.1 1 rfl dX1_isJust_12 ?_
    obtain ⟨hs4, h⟩ := h
    refine k_callV (As := [.ref x1]) (rest := []) C.1 V_X1_27 (c_X7_isSameAs h) ⟨rfl, rfl, Nat.le_of_ble_eq_true rfl, Nat.le_of_ble_eq_true rfl⟩ hs4  rfl rfl (Nat.le_of_ble_eq_true rfl) ⟨Nat.zero_le _, Nat.zero_le _⟩ dX1_isJust_13 (kp_i fun r6 M5 h9 => ?_)
    replace h := h9
    refine k_if_eq C.1 34 dX1_isJust_16 (by decide) (fun c7 => ?_) (fun c7 => ?_)
    · have h := h.1 c7
      refine k_iconst (v := 0) C.1 dX1_isJust_34 (by decide) ?_
      exact k_zret C dX1_isJust_35 (Or.inl rfl) h
    · have h := h.2 c7
      refine k_aload_n C.1 0 rfl dX1_isJust_19 ?_
      obtain ⟨q8, hq8, h⟩ := h
      refine k_getR C.1 F_X1_16 dX1_isJust_20 hs1 hq8 ?_
      refine k_aload_n C.1 3 rfl dX1_isJust_23 ?_
      obtain ⟨hs9, h⟩ := h
      refine k_callV (As := [.ref x3]) (rest := []) C.1 V_X1_27 (c_X7_isSameAs h) ⟨rfl, rfl, Nat.le_of_ble_eq_true rfl, Nat.le_of_ble_eq_true rfl⟩ hs9  rfl rfl (Nat.le_of_ble_eq_true rfl) ⟨Nat.zero_le _, Nat.zero_le _⟩ dX1_isJust_24 (kp_i fun r11 M10 h9 => ?_)
      replace h := h9
      refine k_if_eq C.1 34 dX1_isJust_27 (by decide) (fun c12 => ?_) (fun c12 => ?_)
      · have h := h.1 c12
        refine k_iconst (v := 0) C.1 dX1_isJust_34 (by decide) ?_
        exact k_zret C dX1_isJust_35 (Or.inl rfl) h
      · have h := h.2 c12
        refine k_iconst (v := 1) C.1 dX1_isJust_30 (by decide) ?_
        refine k_goto C.1 35 dX1_isJust_31 (by decide) ?_
        exact k_zret C dX1_isJust_35 (Or.inr rfl) h
abbrev rm_X2_count : Room := { frames := 0, cells := 0, slots := 0, locals := 0 }
set_option maxRecDepth 100000 in
set_option maxHeartbeats 4000000 in
theorem c_X2_count {l : Launch} {D : va_G} {dA : Nat → ClassId} {sh : gh_Sh} {b0 n : Nat} {M : gh_M} {x0 : Nat} {post : Int32 → gh_M → Prop} (h : wp_X2_count sh M x0 post) : gh_Met l D dA sh b0 n yX2_count cX2_count 1 (some .int) rm_X2_count M [.ref x0] (gh_pi post) := by
  refine gh_open (by decide) (Nat.le_of_ble_eq_true rfl) (fun X C => ?_)
  show gh_G X rm_X2_count 1 0 0 sh n 0 [(0, .ref x0)] [] M
  unfold wp_X2_count at h
  refine k_aload_n C.1 0 rfl dX2_count_0 ?_
  obtain ⟨hs1, h⟩ := h
  refine k_getI C.1 F_X2_21 dX2_count_1 hs1 ?_
  exact k_iret C dX2_count_4 h
abbrev rm_X2_isFull : Room := { frames := 0, cells := 0, slots := 0, locals := 0 }
set_option maxRecDepth 100000 in
set_option maxHeartbeats 4000000 in
theorem c_X2_isFull {l : Launch} {D : va_G} {dA : Nat → ClassId} {sh : gh_Sh} {b0 n : Nat} {M : gh_M} {x0 : Nat} {post : Int32 → gh_M → Prop} (h : wp_X2_isFull sh M x0 post) : gh_Met l D dA sh b0 n yX2_isFull cX2_isFull 1 (some .boolean) rm_X2_isFull M [.ref x0] (gh_pi post) := by
  refine gh_open (by decide) (Nat.le_of_ble_eq_true rfl) (fun X C => ?_)
  show gh_G X rm_X2_isFull 1 0 0 sh n 0 [(0, .ref x0)] [] M
  unfold wp_X2_isFull at h
  refine k_aload_n C.1 0 rfl dX2_isFull_0 ?_
  obtain ⟨hs1, h⟩ := h
  refine k_getI C.1 F_X2_21 dX2_isFull_1 hs1 ?_
  refine k_iconst (v := 5) C.1 dX2_isFull_4 (by decide) ?_
  refine k_icmp_lt C.1 12 dX2_isFull_5 (by decide) (fun c2 => ?_) (fun c2 => ?_)
  · have h := h.1 c2
    refine k_iconst (v := 0) C.1 dX2_isFull_12 (by decide) ?_
    exact k_zret C dX2_isFull_13 (Or.inl rfl) h
  · have h := h.2 c2
    refine k_iconst (v := 1) C.1 dX2_isFull_8 (by decide) ?_
    refine k_goto C.1 13 dX2_isFull_9 (by decide) ?_
    exact k_zret C dX2_isFull_13 (Or.inr rfl) h
abbrev rm_X2_has : Room := { frames := 0, cells := 0, slots := 0, locals := 0 }
set_option maxRecDepth 100000 in
set_option maxHeartbeats 4000000 in
theorem c_X2_has {l : Launch} {D : va_G} {dA : Nat → ClassId} {sh : gh_Sh} {b0 n : Nat} {M : gh_M} {x0 : Nat} {x1 : Int32} {post : Int32 → gh_M → Prop} (h : wp_X2_has sh M x0 x1 post) : gh_Met l D dA sh b0 n yX2_has cX2_has 2 (some .boolean) rm_X2_has M [.ref x0, .int x1] (gh_pi post) := by
  refine gh_open (by decide) (Nat.le_of_ble_eq_true rfl) (fun X C => ?_)
  show gh_G X rm_X2_has 2 0 0 sh n 0 [(0, .ref x0), (1, .int x1)] [] M
  unfold wp_X2_has at h
  refine k_iload_n C.1 1 rfl dX2_has_0 ?_
  refine k_if_lt C.1 16 dX2_has_1 (by decide) (fun c1 => ?_) (fun c1 => ?_)
  · have h := h.1 c1
    refine k_iconst (v := 0) C.1 dX2_has_16 (by decide) ?_
    exact k_zret C dX2_has_17 (Or.inl rfl) h
  · have h := h.2 c1
    refine k_iload_n C.1 1 rfl dX2_has_4 ?_
    refine k_aload_n C.1 0 rfl dX2_has_5 ?_
    obtain ⟨hs2, h⟩ := h
    refine k_getI C.1 F_X2_21 dX2_has_6 hs2 ?_
    refine k_icmp_ge C.1 16 dX2_has_9 (by decide) (fun c3 => ?_) (fun c3 => ?_)
    · have h := h.1 c3
      refine k_iconst (v := 0) C.1 dX2_has_16 (by decide) ?_
      exact k_zret C dX2_has_17 (Or.inl rfl) h
    · have h := h.2 c3
      refine k_iconst (v := 1) C.1 dX2_has_12 (by decide) ?_
      refine k_goto C.1 17 dX2_has_13 (by decide) ?_
      exact k_zret C dX2_has_17 (Or.inr rfl) h
abbrev rm_X2_knows : Room := { frames := 2, cells := 0, slots := 0, locals := 42 }
set_option maxRecDepth 100000 in
set_option maxHeartbeats 4000000 in
theorem c_X2_knows {l : Launch} {D : va_G} {dA : Nat → ClassId} {sh : gh_Sh} {b0 n : Nat} {M : gh_M} {x0 : Nat} {x1 : Int32} {x2 : Int32} {post : Int32 → gh_M → Prop} (h : wp_X2_knows sh M x0 x1 x2 post) : gh_Met l D dA sh b0 n yX2_knows cX2_knows 3 (some .boolean) rm_X2_knows M [.ref x0, .int x1, .int x2] (gh_pi post) := by
  refine gh_open (by decide) (Nat.le_of_ble_eq_true rfl) (fun X C => ?_)
  show gh_G X rm_X2_knows 3 0 0 sh n 0 [(0, .ref x0), (1, .int x1), (2, .int x2)] [] M
  unfold wp_X2_knows at h
  refine k_aload_n C.1 0 rfl dX2_knows_0 ?_
  refine k_iload_n C.1 1 rfl dX2_knows_1 ?_
  obtain ⟨hs1, h⟩ := h
  refine k_callV (As := [.int x1]) (rest := []) C.1 V_X2_25 (c_X2_has h) ⟨rfl, rfl, Nat.le_of_ble_eq_true rfl, Nat.le_of_ble_eq_true rfl⟩ hs1  rfl rfl (Nat.le_of_ble_eq_true rfl) ⟨Nat.zero_le _, Nat.zero_le _⟩ dX2_knows_2 (kp_i fun r3 M2 h9 => ?_)
  replace h := h9
  refine k_if_eq C.1 33 dX2_knows_5 (by decide) (fun c4 => ?_) (fun c4 => ?_)
  · have h := h.1 c4
    refine k_iconst (v := 0) C.1 dX2_knows_33 (by decide) ?_
    exact k_zret C dX2_knows_34 (Or.inl rfl) h
  · have h := h.2 c4
    refine k_iload_n C.1 2 rfl dX2_knows_8 ?_
    refine k_callSN (As := [.int x2]) (rest := []) C.1 V_X2_29 (c_X11_isTongue h) ⟨rfl, rfl, Nat.le_of_ble_eq_true rfl, Nat.le_of_ble_eq_true rfl⟩  rfl rfl (Nat.le_of_ble_eq_true rfl) ⟨Nat.zero_le _, Nat.zero_le _⟩ dX2_knows_9 (kp_i fun r6 M5 h9 => ?_)
    replace h := h9
    refine k_if_eq C.1 33 dX2_knows_12 (by decide) (fun c7 => ?_) (fun c7 => ?_)
    · have h := h.1 c7
      refine k_iconst (v := 0) C.1 dX2_knows_33 (by decide) ?_
      exact k_zret C dX2_knows_34 (Or.inl rfl) h
    · have h := h.2 c7
      refine k_aload_n C.1 0 rfl dX2_knows_15 ?_
      obtain ⟨q8, hq8, h⟩ := h
      refine k_getR C.1 F_X2_9 dX2_knows_16 hs1 hq8 ?_
      refine k_iload_n C.1 1 rfl dX2_knows_19 ?_
      obtain ⟨hs9, h⟩ := h
      obtain ⟨hi10, h⟩ := h
      refine k_iald C.1 dX2_knows_20 hs9 hi10 ?_
      refine k_iload_n C.1 2 rfl dX2_knows_21 ?_
      refine k_ishr C.1 dX2_knows_22 ?_
      refine k_iconst (v := 1) C.1 dX2_knows_23 (by decide) ?_
      refine k_iand C.1 dX2_knows_24 ?_
      refine k_iconst (v := 1) C.1 dX2_knows_25 (by decide) ?_
      refine k_icmp_ne C.1 33 dX2_knows_26 (by decide) (fun c11 => ?_) (fun c11 => ?_)
      · have h := h.2 c11
        refine k_iconst (v := 0) C.1 dX2_knows_33 (by decide) ?_
        exact k_zret C dX2_knows_34 (Or.inl rfl) h
      · have h := h.1 c11
        refine k_iconst (v := 1) C.1 dX2_knows_29 (by decide) ?_
        refine k_goto C.1 34 dX2_knows_30 (by decide) ?_
        exact k_zret C dX2_knows_34 (Or.inr rfl) h
abbrev rm_X2_hoursOf : Room := { frames := 1, cells := 0, slots := 0, locals := 21 }
set_option maxRecDepth 100000 in
set_option maxHeartbeats 4000000 in
theorem c_X2_hoursOf {l : Launch} {D : va_G} {dA : Nat → ClassId} {sh : gh_Sh} {b0 n : Nat} {M : gh_M} {x0 : Nat} {x1 : Int32} {post : Int32 → gh_M → Prop} (h : wp_X2_hoursOf sh M x0 x1 post) : gh_Met l D dA sh b0 n yX2_hoursOf cX2_hoursOf 2 (some .int) rm_X2_hoursOf M [.ref x0, .int x1] (gh_pi post) := by
  refine gh_open (by decide) (Nat.le_of_ble_eq_true rfl) (fun X C => ?_)
  show gh_G X rm_X2_hoursOf 2 0 0 sh n 0 [(0, .ref x0), (1, .int x1)] [] M
  unfold wp_X2_hoursOf at h
  refine k_aload_n C.1 0 rfl dX2_hoursOf_0 ?_
  refine k_iload_n C.1 1 rfl dX2_hoursOf_1 ?_
  obtain ⟨hs1, h⟩ := h
  refine k_callV (As := [.int x1]) (rest := []) C.1 V_X2_25 (c_X2_has h) ⟨rfl, rfl, Nat.le_of_ble_eq_true rfl, Nat.le_of_ble_eq_true rfl⟩ hs1  rfl rfl (Nat.le_of_ble_eq_true rfl) ⟨Nat.zero_le _, Nat.zero_le _⟩ dX2_hoursOf_2 (kp_i fun r3 M2 h9 => ?_)
  replace h := h9
  refine k_if_eq C.1 17 dX2_hoursOf_5 (by decide) (fun c4 => ?_) (fun c4 => ?_)
  · have h := h.1 c4
    refine k_iconst (v := 0) C.1 dX2_hoursOf_17 (by decide) ?_
    exact k_iret C dX2_hoursOf_18 h
  · have h := h.2 c4
    refine k_aload_n C.1 0 rfl dX2_hoursOf_8 ?_
    obtain ⟨q5, hq5, h⟩ := h
    refine k_getR C.1 F_X2_15 dX2_hoursOf_9 hs1 hq5 ?_
    refine k_iload_n C.1 1 rfl dX2_hoursOf_12 ?_
    obtain ⟨hs6, h⟩ := h
    obtain ⟨hi7, h⟩ := h
    refine k_iald C.1 dX2_hoursOf_13 hs6 hi7 ?_
    refine k_goto C.1 18 dX2_hoursOf_14 (by decide) ?_
    exact k_iret C dX2_hoursOf_18 h
