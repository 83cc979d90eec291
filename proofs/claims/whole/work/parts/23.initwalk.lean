abbrev rm_X7_init : Room := { frames := 1, cells := 1, slots := 10, locals := 24 }
set_option maxRecDepth 100000 in
set_option maxHeartbeats 4000000 in
theorem c_X7_init {l : Launch} {D : va_G} {dA : Nat → ClassId} {sh : gh_Sh} {b0 n : Nat} {M : gh_M} {x0 : Nat} {post : gh_Sh → gh_M → Prop} (h : wp_X7_init b0 sh n M x0 post) : gh_MetA l D dA sh b0 n 1 10 yX7_init cX7_init 1 rm_X7_init M [.ref x0] post := by
  refine gh_openA (by decide) rfl (Nat.le_of_ble_eq_true rfl) (fun X hb C => ?_)
  subst hb
  show gh_G X rm_X7_init 1 0 0 sh n 0 [(0, .ref x0)] [] M
  unfold wp_X7_init at h
  refine k_aload_n C.1 0 rfl dX7_init_0 ?_
  refine k_objInit C.1 (gh_in 63 (by decide +kernel) rfl) w_oi1 w_oi2 (Nat.le_of_ble_eq_true rfl) (Nat.le_of_ble_eq_true rfl) dX7_init_1 ?_
  refine k_aload_n C.1 0 rfl dX7_init_4 ?_
  refine k_bipush (v := 10) C.1 dX7_init_5 (by decide) ?_
  obtain ⟨hc1, hw2, h⟩ := h
  refine k_newI (N := 10) C.1 w_arrI (by decide) (by decide) (by decide) dX7_init_7 hc1 hw2 ?_
  obtain ⟨hs3, h⟩ := h
  refine k_putFR C.1 C.2.2.2.2.2 F_X7_9 rfl dX7_init_9 hs3 rfl rfl ?_
  exact k_cret C dX7_init_12 h.1 h.2.1 h.2.2.1 h.2.2.2
abbrev rm_X10_init : Room := { frames := 2, cells := 2, slots := 12, locals := 44 }
set_option maxRecDepth 100000 in
set_option maxHeartbeats 4000000 in
theorem c_X10_init {l : Launch} {D : va_G} {dA : Nat → ClassId} {sh : gh_Sh} {b0 n : Nat} {M : gh_M} {x0 : Nat} {post : gh_Sh → gh_M → Prop} (h : wp_X10_init b0 sh n M x0 post) : gh_MetA l D dA sh b0 n 2 12 yX10_init cX10_init 1 rm_X10_init M [.ref x0] post := by
  refine gh_openA (by decide) rfl (Nat.le_of_ble_eq_true rfl) (fun X hb C => ?_)
  subst hb
  show gh_G X rm_X10_init 1 0 0 sh n 0 [(0, .ref x0)] [] M
  unfold wp_X10_init at h
  refine k_aload_n C.1 0 rfl dX10_init_0 ?_
  refine k_objInit C.1 (gh_in 214 (by decide +kernel) rfl) w_oi1 w_oi2 (Nat.le_of_ble_eq_true rfl) (Nat.le_of_ble_eq_true rfl) dX10_init_1 ?_
  refine k_aload_n C.1 0 rfl dX10_init_4 ?_
  obtain ⟨hc1, hw2, h⟩ := h
  refine k_new C.1 B_X10_9 dX10_init_5 hc1 hw2 ?_
  refine k_dup C.1 dX10_init_8 rfl ?_
  obtain ⟨hc3, hw4, h⟩ := h
  refine k_callI (As := []) (rest := [.ref (gx_b X + n), .ref x0]) C.1 I_X10_11 (c_X7_init h) ⟨rfl, rfl, Nat.le_of_ble_eq_true rfl, Nat.le_of_ble_eq_true rfl⟩ rfl rfl (Nat.le_of_ble_eq_true rfl) ⟨hc3, hw4⟩ dX10_init_9 (fun sh6 M5 h9 => ?_)
  replace h := h9
  obtain ⟨hs7, h⟩ := h
  refine k_putFR C.1 C.2.2.2.2.2 F_X10_12 rfl dX10_init_12 hs7 rfl rfl ?_
  refine k_aload_n C.1 0 rfl dX10_init_15 ?_
  refine k_iconst (v := 0) C.1 dX10_init_16 (by decide) ?_
  refine k_putI C.1 F_X10_18 dX10_init_17 hs7 rfl rfl ?_
  refine k_aload_n C.1 0 rfl dX10_init_20 ?_
  refine k_bipush (v := (-5)) C.1 dX10_init_21 (by decide) ?_
  generalize eM8 : wI (wR M5 x0 0 (some (gx_b X + n))) x0 1 (0 : Int32) = M8
  replace h := h M8 eM8.symm
  refine k_putI C.1 F_X10_22 dX10_init_23 hs7 rfl rfl ?_
  exact k_cret C dX10_init_26 h.1 h.2.1 h.2.2.1 h.2.2.2
abbrev rm_X5_init : Room := { frames := 3, cells := 12, slots := 60, locals := 64 }
set_option maxRecDepth 100000 in
set_option maxHeartbeats 4000000 in
theorem bb_X5_init_36 {X : gh_X} {nf : Nat} {post : gh_Sh → gh_M → Prop} (C : gh_CA X cX5_init RX5 2 nf 12 60 post) (x0 : Nat) (k36 : Int32 → gh_Sh → Nat → Nat → Nat → gh_M → Prop) (hk36 : ∀ (y1 : Int32)  (sh : gh_Sh) (n : Nat) (c : Nat) (w : Nat) (M : gh_M), k36 y1  sh n c w M → gh_G X rm_X5_init 2 c w sh n 36 [(0, .ref x0), (1, .int y1)] [] M) (x1 : Int32) (sh : gh_Sh) (n : Nat) (c : Nat) (w : Nat) (M : gh_M) (h : wb_X5_init_36 (gx_b X) nf post x0 k36 x1 sh n c w M) : gh_G X rm_X5_init 2 c w sh n 36 [(0, .ref x0), (1, .int x1)] [] M := by
  unfold wb_X5_init_36 at h
  refine k_iload_n C.1 1 rfl dX5_init_36 ?_
  refine k_iconst (v := 3) C.1 dX5_init_37 (by decide) ?_
  refine k_icmp_ge C.1 60 dX5_init_38 (by decide) (fun c1 => ?_) (fun c1 => ?_)
  · have h := h.1 c1
    exact k_cret C dX5_init_60 h.1 h.2.1 h.2.2.1 h.2.2.2
  · have h := h.2 c1
    refine k_aload_n C.1 0 rfl dX5_init_41 ?_
    obtain ⟨hs2, h⟩ := h
    obtain ⟨q3, hq3, h⟩ := h
    refine k_getR C.1 F_X5_20 dX5_init_42 hs2 hq3 ?_
    refine k_iload_n C.1 1 rfl dX5_init_45 ?_
    obtain ⟨hc4, hw5, h⟩ := h
    refine k_new C.1 B_X5_18 dX5_init_46 hc4 hw5 ?_
    refine k_dup C.1 dX5_init_49 rfl ?_
    obtain ⟨hc6, hw7, h⟩ := h
    refine k_callI (As := []) (rest := [.ref (gx_b X + n), .int x1, .ref q3]) C.1 I_X5_31 (c_X10_init h) ⟨rfl, rfl, Nat.le_of_ble_eq_true rfl, Nat.le_of_ble_eq_true rfl⟩ rfl rfl (Nat.le_of_ble_eq_true rfl) ⟨hc6, hw7⟩ dX5_init_50 (fun sh9 M8 h9 => ?_)
    replace h := h9
    obtain ⟨hs11, h⟩ := h
    obtain ⟨hs12, h⟩ := h
    obtain ⟨hi10, h⟩ := h
    refine k_aast (kd := 17) (ci := 10) C.1 dX5_init_53 (by decide) (by decide) rfl rfl (by decide) hs11 hs12 hi10 ?_
    refine k_iinc (v := x1 + 1) (lv' := [(1, .int (x1 + 1)), (0, .ref x0)]) C.1 1 rfl dX5_init_54 (by decide) rfl rfl ?_
    refine k_goto C.1 36 dX5_init_57 (by decide) ?_
    refine k_sub (lv' := [(0, .ref x0), (1, .int (x1 + 1))]) [1, 0] rfl ?_
    exact hk36 (x1 + 1) sh9 (n + 3) (c + 3) (w + 15) (wR M8 q3 x1.toNatClampNeg (some (gx_b X + n))) h
set_option maxRecDepth 100000 in
theorem b_X5_init_36 {X : gh_X} {nf : Nat} {post : gh_Sh → gh_M → Prop} (C : gh_CA X cX5_init RX5 2 nf 12 60 post) (x0 : Nat) (x1 : Int32) (sh : gh_Sh) (n : Nat) (c : Nat) (w : Nat) (M : gh_M) (h : wp_X5_init_36 (gx_b X) nf post x0 x1 sh n c w M) : gh_G X rm_X5_init 2 c w sh n 36 [(0, .ref x0), (1, .int x1)] [] M := by
  unfold wp_X5_init_36 at h
  exact gh_loop_use h (fun v => gh_G X rm_X5_init 2 v.2.2.2.1 v.2.2.2.2.1 v.2.1 v.2.2.1 36 [(0, .ref x0), (1, .int v.1)] [] v.2.2.2.2.2) (fun k v hk hb => bb_X5_init_36 C x0 (fun x1 sh n c w M => k (x1, sh, n, c, w, M)) (fun x1 sh n c w M h => hk (x1, sh, n, c, w, M) h) v.1 v.2.1 v.2.2.1 v.2.2.2.1 v.2.2.2.2.1 v.2.2.2.2.2 hb)
set_option maxRecDepth 100000 in
set_option maxHeartbeats 4000000 in
theorem c_X5_init {l : Launch} {D : va_G} {dA : Nat → ClassId} {sh : gh_Sh} {b0 n : Nat} {M : gh_M} {x0 : Nat} {post : gh_Sh → gh_M → Prop} (h : wp_X5_init b0 sh n M x0 post) : gh_MetA l D dA sh b0 n 12 60 yX5_init cX5_init 2 rm_X5_init M [.ref x0] post := by
  refine gh_openA (by decide) rfl (Nat.le_of_ble_eq_true rfl) (fun X hb C => ?_)
  subst hb
  show gh_G X rm_X5_init 2 0 0 sh n 0 [(0, .ref x0)] [] M
  unfold wp_X5_init at h
  refine k_aload_n C.1 0 rfl dX5_init_0 ?_
  refine k_objInit C.1 (gh_in 205 (by decide +kernel) rfl) w_oi1 w_oi2 (Nat.le_of_ble_eq_true rfl) (Nat.le_of_ble_eq_true rfl) dX5_init_1 ?_
  refine k_aload_n C.1 0 rfl dX5_init_4 ?_
  obtain ⟨hc1, hw2, h⟩ := h
  refine k_new C.1 B_X5_9 dX5_init_5 hc1 hw2 ?_
  refine k_dup C.1 dX5_init_8 rfl ?_
  obtain ⟨hc3, hw4, h⟩ := h
  refine k_callI (As := []) (rest := [.ref (gx_b X + n), .ref x0]) C.1 I_X5_11 (c_X7_init h) ⟨rfl, rfl, Nat.le_of_ble_eq_true rfl, Nat.le_of_ble_eq_true rfl⟩ rfl rfl (Nat.le_of_ble_eq_true rfl) ⟨hc3, hw4⟩ dX5_init_9 (fun sh6 M5 h9 => ?_)
  replace h := h9
  obtain ⟨hs7, h⟩ := h
  refine k_putFR C.1 C.2.2.2.2.2 F_X5_12 rfl dX5_init_12 hs7 rfl rfl ?_
  refine k_aload_n C.1 0 rfl dX5_init_15 ?_
  refine k_iconst (v := 3) C.1 dX5_init_16 (by decide) ?_
  obtain ⟨hc8, hw9, h⟩ := h
  refine k_newR (kd := 17) (N := 3) (Cn := "GlossHouse$Text") C.1 (gh_in 208 (by decide +kernel) rfl) (gh_inN 175 (by decide +kernel) rfl) (by decide) (by decide) rfl (by decide) (by decide) (by decide) dX5_init_17 hc8 hw9 ?_
  obtain ⟨hs10, h⟩ := h
  refine k_putFR C.1 C.2.2.2.2.2 F_X5_20 rfl dX5_init_20 hs10 rfl rfl ?_
  refine k_aload_n C.1 0 rfl dX5_init_23 ?_
  refine k_iconst (v := 0) C.1 dX5_init_24 (by decide) ?_
  generalize eM11 : wR (zM (wR M5 x0 0 (some (gx_b X + n))) (gx_b X + (n + 2))) x0 1 (some (gx_b X + (n + 2))) = M11
  replace h := h M11 eM11.symm
  refine k_putI C.1 F_X5_24 dX5_init_25 hs10 rfl rfl ?_
  refine k_aload_n C.1 0 rfl dX5_init_28 ?_
  refine k_bipush (v := (-5)) C.1 dX5_init_29 (by decide) ?_
  refine k_putI C.1 F_X5_28 dX5_init_31 hs10 rfl rfl ?_
  refine k_iconst (v := 0) C.1 dX5_init_34 (by decide) ?_
  refine k_istore_n (lv' := [(1, .int (0 : Int32)), (0, .ref x0)]) C.1 dX5_init_35 (by decide) rfl ?_
  refine k_sub (lv' := [(0, .ref x0), (1, .int (0 : Int32))]) [1, 0] rfl ?_
  exact b_X5_init_36 C x0 (0 : Int32) (shU sh6 (gx_b X + (n + 2)) 17 3) (n + 3) 3 15 (wI (wI M11 x0 2 (0 : Int32)) x0 3 (-5 : Int32)) h
abbrev rm_X0_init : Room := { frames := 4, cells := 105, slots := 528, locals := 85 }
set_option maxRecDepth 100000 in
set_option maxHeartbeats 4000000 in
theorem bb_X0_init_15 {X : gh_X} {nf : Nat} {post : gh_Sh → gh_M → Prop} (C : gh_CA X cX0_init RX0 2 nf 105 528 post) (x0 : Nat) (k15 : Int32 → gh_Sh → Nat → Nat → Nat → gh_M → Prop) (hk15 : ∀ (y1 : Int32)  (sh : gh_Sh) (n : Nat) (c : Nat) (w : Nat) (M : gh_M), k15 y1  sh n c w M → gh_G X rm_X0_init 2 c w sh n 15 [(0, .ref x0), (1, .int y1)] [] M) (x1 : Int32) (sh : gh_Sh) (n : Nat) (c : Nat) (w : Nat) (M : gh_M) (h : wb_X0_init_15 (gx_b X) nf post x0 k15 x1 sh n c w M) : gh_G X rm_X0_init 2 c w sh n 15 [(0, .ref x0), (1, .int x1)] [] M := by
  unfold wb_X0_init_15 at h
  refine k_iload_n C.1 1 rfl dX0_init_15 ?_
  refine k_bipush (v := 8) C.1 dX0_init_16 (by decide) ?_
  refine k_icmp_ge C.1 40 dX0_init_18 (by decide) (fun c1 => ?_) (fun c1 => ?_)
  · have h := h.1 c1
    exact k_cret C dX0_init_40 h.1 h.2.1 h.2.2.1 h.2.2.2
  · have h := h.2 c1
    refine k_aload_n C.1 0 rfl dX0_init_21 ?_
    obtain ⟨hs2, h⟩ := h
    obtain ⟨q3, hq3, h⟩ := h
    refine k_getR C.1 F_X0_11 dX0_init_22 hs2 hq3 ?_
    refine k_iload_n C.1 1 rfl dX0_init_25 ?_
    obtain ⟨hc4, hw5, h⟩ := h
    refine k_new C.1 B_X0_9 dX0_init_26 hc4 hw5 ?_
    refine k_dup C.1 dX0_init_29 rfl ?_
    obtain ⟨hc6, hw7, h⟩ := h
    refine k_callI (As := []) (rest := [.ref (gx_b X + n), .int x1, .ref q3]) C.1 I_X0_17 (c_X5_init h) ⟨rfl, rfl, Nat.le_of_ble_eq_true rfl, Nat.le_of_ble_eq_true rfl⟩ rfl rfl (Nat.le_of_ble_eq_true rfl) ⟨hc6, hw7⟩ dX0_init_30 (fun sh9 M8 h9 => ?_)
    replace h := h9
    obtain ⟨hs11, h⟩ := h
    obtain ⟨hs12, h⟩ := h
    obtain ⟨hi10, h⟩ := h
    refine k_aast (kd := 16) (ci := 5) C.1 dX0_init_33 (by decide) (by decide) rfl rfl (by decide) hs11 hs12 hi10 ?_
    refine k_iinc (v := x1 + 1) (lv' := [(1, .int (x1 + 1)), (0, .ref x0)]) C.1 1 rfl dX0_init_34 (by decide) rfl rfl ?_
    refine k_goto C.1 15 dX0_init_37 (by decide) ?_
    refine k_sub (lv' := [(0, .ref x0), (1, .int (x1 + 1))]) [1, 0] rfl ?_
    exact hk15 (x1 + 1) sh9 (n + 13) (c + 13) (w + 65) (wR M8 q3 x1.toNatClampNeg (some (gx_b X + n))) h
set_option maxRecDepth 100000 in
theorem b_X0_init_15 {X : gh_X} {nf : Nat} {post : gh_Sh → gh_M → Prop} (C : gh_CA X cX0_init RX0 2 nf 105 528 post) (x0 : Nat) (x1 : Int32) (sh : gh_Sh) (n : Nat) (c : Nat) (w : Nat) (M : gh_M) (h : wp_X0_init_15 (gx_b X) nf post x0 x1 sh n c w M) : gh_G X rm_X0_init 2 c w sh n 15 [(0, .ref x0), (1, .int x1)] [] M := by
  unfold wp_X0_init_15 at h
  exact gh_loop_use h (fun v => gh_G X rm_X0_init 2 v.2.2.2.1 v.2.2.2.2.1 v.2.1 v.2.2.1 15 [(0, .ref x0), (1, .int v.1)] [] v.2.2.2.2.2) (fun k v hk hb => bb_X0_init_15 C x0 (fun x1 sh n c w M => k (x1, sh, n, c, w, M)) (fun x1 sh n c w M h => hk (x1, sh, n, c, w, M) h) v.1 v.2.1 v.2.2.1 v.2.2.2.1 v.2.2.2.2.1 v.2.2.2.2.2 hb)
set_option maxRecDepth 100000 in
set_option maxHeartbeats 4000000 in
theorem c_X0_init {l : Launch} {D : va_G} {dA : Nat → ClassId} {sh : gh_Sh} {b0 n : Nat} {M : gh_M} {x0 : Nat} {post : gh_Sh → gh_M → Prop} (h : wp_X0_init b0 sh n M x0 post) : gh_MetA l D dA sh b0 n 105 528 yX0_init cX0_init 2 rm_X0_init M [.ref x0] post := by
  refine gh_openA (by decide) rfl (Nat.le_of_ble_eq_true rfl) (fun X hb C => ?_)
  subst hb
  show gh_G X rm_X0_init 2 0 0 sh n 0 [(0, .ref x0)] [] M
  unfold wp_X0_init at h
  refine k_aload_n C.1 0 rfl dX0_init_0 ?_
  refine k_objInit C.1 (gh_in 198 (by decide +kernel) rfl) w_oi1 w_oi2 (Nat.le_of_ble_eq_true rfl) (Nat.le_of_ble_eq_true rfl) dX0_init_1 ?_
  refine k_aload_n C.1 0 rfl dX0_init_4 ?_
  refine k_bipush (v := 8) C.1 dX0_init_5 (by decide) ?_
  obtain ⟨hc1, hw2, h⟩ := h
  refine k_newR (kd := 16) (N := 8) (Cn := "GlossHouse$Piece") C.1 (gh_in 199 (by decide +kernel) rfl) (gh_inN 166 (by decide +kernel) rfl) (by decide) (by decide) rfl (by decide) (by decide) (by decide) dX0_init_7 hc1 hw2 ?_
  obtain ⟨hs3, h⟩ := h
  refine k_putFR C.1 C.2.2.2.2.2 F_X0_11 rfl dX0_init_10 hs3 rfl rfl ?_
  refine k_iconst (v := 0) C.1 dX0_init_13 (by decide) ?_
  refine k_istore_n (lv' := [(1, .int (0 : Int32)), (0, .ref x0)]) C.1 dX0_init_14 (by decide) rfl ?_
  refine k_sub (lv' := [(0, .ref x0), (1, .int (0 : Int32))]) [1, 0] rfl ?_
  exact b_X0_init_15 C x0 (0 : Int32) (shU sh (gx_b X + n) 16 8) (n + 1) 1 8 (wR (zM M (gx_b X + n)) x0 0 (some (gx_b X + n))) h
abbrev rm_X1_init : Room := { frames := 2, cells := 4, slots := 24, locals := 44 }
set_option maxRecDepth 100000 in
set_option maxHeartbeats 4000000 in
theorem c_X1_init {l : Launch} {D : va_G} {dA : Nat → ClassId} {sh : gh_Sh} {b0 n : Nat} {M : gh_M} {x0 : Nat} {post : gh_Sh → gh_M → Prop} (h : wp_X1_init b0 sh n M x0 post) : gh_MetA l D dA sh b0 n 4 24 yX1_init cX1_init 1 rm_X1_init M [.ref x0] post := by
  refine gh_openA (by decide) rfl (Nat.le_of_ble_eq_true rfl) (fun X hb C => ?_)
  subst hb
  show gh_G X rm_X1_init 1 0 0 sh n 0 [(0, .ref x0)] [] M
  unfold wp_X1_init at h
  refine k_aload_n C.1 0 rfl dX1_init_0 ?_
  refine k_objInit C.1 (gh_in 173 (by decide +kernel) rfl) w_oi1 w_oi2 (Nat.le_of_ble_eq_true rfl) (Nat.le_of_ble_eq_true rfl) dX1_init_1 ?_
  refine k_aload_n C.1 0 rfl dX1_init_4 ?_
  obtain ⟨hc1, hw2, h⟩ := h
  refine k_new C.1 B_X1_7 dX1_init_5 hc1 hw2 ?_
  refine k_dup C.1 dX1_init_8 rfl ?_
  obtain ⟨hc3, hw4, h⟩ := h
  refine k_callI (As := []) (rest := [.ref (gx_b X + n), .ref x0]) C.1 I_X1_9 (c_X7_init h) ⟨rfl, rfl, Nat.le_of_ble_eq_true rfl, Nat.le_of_ble_eq_true rfl⟩ rfl rfl (Nat.le_of_ble_eq_true rfl) ⟨hc3, hw4⟩ dX1_init_9 (fun sh6 M5 h9 => ?_)
  replace h := h9
  obtain ⟨hs7, h⟩ := h
  refine k_putFR C.1 C.2.2.2.2.2 F_X1_10 rfl dX1_init_12 hs7 rfl rfl ?_
  refine k_aload_n C.1 0 rfl dX1_init_15 ?_
  obtain ⟨hc8, hw9, h⟩ := h
  refine k_new C.1 B_X1_7 dX1_init_16 hc8 hw9 ?_
  refine k_dup C.1 dX1_init_19 rfl ?_
  obtain ⟨hc10, hw11, h⟩ := h
  refine k_callI (As := []) (rest := [.ref (gx_b X + (n + 2)), .ref x0]) C.1 I_X1_9 (c_X7_init h) ⟨rfl, rfl, Nat.le_of_ble_eq_true rfl, Nat.le_of_ble_eq_true rfl⟩ rfl rfl (Nat.le_of_ble_eq_true rfl) ⟨hc10, hw11⟩ dX1_init_20 (fun sh13 M12 h9 => ?_)
  replace h := h9
  obtain ⟨hs14, h⟩ := h
  refine k_putFR C.1 C.2.2.2.2.2 F_X1_16 rfl dX1_init_23 hs14 rfl rfl ?_
  exact k_cret C dX1_init_26 h.1 h.2.1 h.2.2.1 h.2.2.2
abbrev rm_X2_init : Room := { frames := 1, cells := 3, slots := 15, locals := 24 }
set_option maxRecDepth 100000 in
set_option maxHeartbeats 4000000 in
theorem c_X2_init {l : Launch} {D : va_G} {dA : Nat → ClassId} {sh : gh_Sh} {b0 n : Nat} {M : gh_M} {x0 : Nat} {post : gh_Sh → gh_M → Prop} (h : wp_X2_init b0 sh n M x0 post) : gh_MetA l D dA sh b0 n 3 15 yX2_init cX2_init 1 rm_X2_init M [.ref x0] post := by
  refine gh_openA (by decide) rfl (Nat.le_of_ble_eq_true rfl) (fun X hb C => ?_)
  subst hb
  show gh_G X rm_X2_init 1 0 0 sh n 0 [(0, .ref x0)] [] M
  unfold wp_X2_init at h
  refine k_aload_n C.1 0 rfl dX2_init_0 ?_
  refine k_objInit C.1 (gh_in 132 (by decide +kernel) rfl) w_oi1 w_oi2 (Nat.le_of_ble_eq_true rfl) (Nat.le_of_ble_eq_true rfl) dX2_init_1 ?_
  refine k_aload_n C.1 0 rfl dX2_init_4 ?_
  refine k_iconst (v := 5) C.1 dX2_init_5 (by decide) ?_
  obtain ⟨hc1, hw2, h⟩ := h
  refine k_newI (N := 5) C.1 w_arrI (by decide) (by decide) (by decide) dX2_init_6 hc1 hw2 ?_
  obtain ⟨hs3, h⟩ := h
  refine k_putFR C.1 C.2.2.2.2.2 F_X2_9 rfl dX2_init_8 hs3 rfl rfl ?_
  refine k_aload_n C.1 0 rfl dX2_init_11 ?_
  refine k_iconst (v := 5) C.1 dX2_init_12 (by decide) ?_
  obtain ⟨hc4, hw5, h⟩ := h
  refine k_newI (N := 5) C.1 w_arrI (by decide) (by decide) (by decide) dX2_init_13 hc4 hw5 ?_
  obtain ⟨hs6, h⟩ := h
  refine k_putFR C.1 C.2.2.2.2.2 F_X2_15 rfl dX2_init_15 hs6 rfl rfl ?_
  refine k_aload_n C.1 0 rfl dX2_init_18 ?_
  refine k_iconst (v := 5) C.1 dX2_init_19 (by decide) ?_
  obtain ⟨hc7, hw8, h⟩ := h
  refine k_newI (N := 5) C.1 w_arrI (by decide) (by decide) (by decide) dX2_init_20 hc7 hw8 ?_
  generalize eM9 : zM (wR (zM (wR (zM M (gx_b X + n)) x0 0 (some (gx_b X + n))) (gx_b X + (n + 1))) x0 1 (some (gx_b X + (n + 1)))) (gx_b X + (n + 2)) = M9
  replace h := h M9 eM9.symm
  obtain ⟨hs10, h⟩ := h
  refine k_putFR C.1 C.2.2.2.2.2 F_X2_18 rfl dX2_init_22 hs10 rfl rfl ?_
  exact k_cret C dX2_init_25 h.1 h.2.1 h.2.2.1 h.2.2.2
abbrev rm_X3_init : Room := { frames := 1, cells := 2, slots := 264, locals := 24 }
set_option maxRecDepth 100000 in
set_option maxHeartbeats 4000000 in
theorem c_X3_init {l : Launch} {D : va_G} {dA : Nat → ClassId} {sh : gh_Sh} {b0 n : Nat} {M : gh_M} {x0 : Nat} {post : gh_Sh → gh_M → Prop} (h : wp_X3_init b0 sh n M x0 post) : gh_MetA l D dA sh b0 n 2 264 yX3_init cX3_init 1 rm_X3_init M [.ref x0] post := by
  refine gh_openA (by decide) rfl (Nat.le_of_ble_eq_true rfl) (fun X hb C => ?_)
  subst hb
  show gh_G X rm_X3_init 1 0 0 sh n 0 [(0, .ref x0)] [] M
  unfold wp_X3_init at h
  refine k_aload_n C.1 0 rfl dX3_init_0 ?_
  refine k_objInit C.1 (gh_in 87 (by decide +kernel) rfl) w_oi1 w_oi2 (Nat.le_of_ble_eq_true rfl) (Nat.le_of_ble_eq_true rfl) dX3_init_1 ?_
  refine k_aload_n C.1 0 rfl dX3_init_4 ?_
  refine k_sipush (v := 256) C.1 dX3_init_5 (by decide) ?_
  obtain ⟨hc1, hw2, h⟩ := h
  refine k_newJ (N := 256) C.1 w_arrJ (by decide) (by decide) (by decide) dX3_init_8 hc1 hw2 ?_
  obtain ⟨hs3, h⟩ := h
  refine k_putFR C.1 C.2.2.2.2.2 F_X3_9 rfl dX3_init_10 hs3 rfl rfl ?_
  refine k_aload_n C.1 0 rfl dX3_init_13 ?_
  refine k_bipush (v := 8) C.1 dX3_init_14 (by decide) ?_
  obtain ⟨hc4, hw5, h⟩ := h
  refine k_newJ (N := 8) C.1 w_arrJ (by decide) (by decide) (by decide) dX3_init_16 hc4 hw5 ?_
  obtain ⟨hs6, h⟩ := h
  refine k_putFR C.1 C.2.2.2.2.2 F_X3_15 rfl dX3_init_18 hs6 rfl rfl ?_
  exact k_cret C dX3_init_21 h.1 h.2.1 h.2.2.1 h.2.2.2
abbrev rm_X4_init : Room := { frames := 3, cells := 101, slots := 560, locals := 64 }
set_option maxRecDepth 100000 in
set_option maxHeartbeats 4000000 in
theorem bb_X4_init_15 {X : gh_X} {nf : Nat} {post : gh_Sh → gh_M → Prop} (C : gh_CA X cX4_init RX4 2 nf 101 560 post) (x0 : Nat) (k15 : Int32 → gh_Sh → Nat → Nat → Nat → gh_M → Prop) (hk15 : ∀ (y1 : Int32)  (sh : gh_Sh) (n : Nat) (c : Nat) (w : Nat) (M : gh_M), k15 y1  sh n c w M → gh_G X rm_X4_init 2 c w sh n 15 [(0, .ref x0), (1, .int y1)] [] M) (x1 : Int32) (sh : gh_Sh) (n : Nat) (c : Nat) (w : Nat) (M : gh_M) (h : wb_X4_init_15 (gx_b X) nf post x0 k15 x1 sh n c w M) : gh_G X rm_X4_init 2 c w sh n 15 [(0, .ref x0), (1, .int x1)] [] M := by
  unfold wb_X4_init_15 at h
  refine k_iload_n C.1 1 rfl dX4_init_15 ?_
  refine k_bipush (v := 20) C.1 dX4_init_16 (by decide) ?_
  refine k_icmp_ge C.1 40 dX4_init_18 (by decide) (fun c1 => ?_) (fun c1 => ?_)
  · have h := h.1 c1
    exact k_cret C dX4_init_40 h.1 h.2.1 h.2.2.1 h.2.2.2
  · have h := h.2 c1
    refine k_aload_n C.1 0 rfl dX4_init_21 ?_
    obtain ⟨hs2, h⟩ := h
    obtain ⟨q3, hq3, h⟩ := h
    refine k_getR C.1 F_X4_11 dX4_init_22 hs2 hq3 ?_
    refine k_iload_n C.1 1 rfl dX4_init_25 ?_
    obtain ⟨hc4, hw5, h⟩ := h
    refine k_new C.1 B_X4_9 dX4_init_26 hc4 hw5 ?_
    refine k_dup C.1 dX4_init_29 rfl ?_
    obtain ⟨hc6, hw7, h⟩ := h
    refine k_callI (As := []) (rest := [.ref (gx_b X + n), .int x1, .ref q3]) C.1 I_X4_17 (c_X1_init h) ⟨rfl, rfl, Nat.le_of_ble_eq_true rfl, Nat.le_of_ble_eq_true rfl⟩ rfl rfl (Nat.le_of_ble_eq_true rfl) ⟨hc6, hw7⟩ dX4_init_30 (fun sh9 M8 h9 => ?_)
    replace h := h9
    obtain ⟨hs11, h⟩ := h
    obtain ⟨hs12, h⟩ := h
    obtain ⟨hi10, h⟩ := h
    refine k_aast (kd := 15) (ci := 1) C.1 dX4_init_33 (by decide) (by decide) rfl rfl (by decide) hs11 hs12 hi10 ?_
    refine k_iinc (v := x1 + 1) (lv' := [(1, .int (x1 + 1)), (0, .ref x0)]) C.1 1 rfl dX4_init_34 (by decide) rfl rfl ?_
    refine k_goto C.1 15 dX4_init_37 (by decide) ?_
    refine k_sub (lv' := [(0, .ref x0), (1, .int (x1 + 1))]) [1, 0] rfl ?_
    exact hk15 (x1 + 1) sh9 (n + 5) (c + 5) (w + 27) (wR M8 q3 x1.toNatClampNeg (some (gx_b X + n))) h
set_option maxRecDepth 100000 in
theorem b_X4_init_15 {X : gh_X} {nf : Nat} {post : gh_Sh → gh_M → Prop} (C : gh_CA X cX4_init RX4 2 nf 101 560 post) (x0 : Nat) (x1 : Int32) (sh : gh_Sh) (n : Nat) (c : Nat) (w : Nat) (M : gh_M) (h : wp_X4_init_15 (gx_b X) nf post x0 x1 sh n c w M) : gh_G X rm_X4_init 2 c w sh n 15 [(0, .ref x0), (1, .int x1)] [] M := by
  unfold wp_X4_init_15 at h
  exact gh_loop_use h (fun v => gh_G X rm_X4_init 2 v.2.2.2.1 v.2.2.2.2.1 v.2.1 v.2.2.1 15 [(0, .ref x0), (1, .int v.1)] [] v.2.2.2.2.2) (fun k v hk hb => bb_X4_init_15 C x0 (fun x1 sh n c w M => k (x1, sh, n, c, w, M)) (fun x1 sh n c w M h => hk (x1, sh, n, c, w, M) h) v.1 v.2.1 v.2.2.1 v.2.2.2.1 v.2.2.2.2.1 v.2.2.2.2.2 hb)
set_option maxRecDepth 100000 in
set_option maxHeartbeats 4000000 in
theorem c_X4_init {l : Launch} {D : va_G} {dA : Nat → ClassId} {sh : gh_Sh} {b0 n : Nat} {M : gh_M} {x0 : Nat} {post : gh_Sh → gh_M → Prop} (h : wp_X4_init b0 sh n M x0 post) : gh_MetA l D dA sh b0 n 101 560 yX4_init cX4_init 2 rm_X4_init M [.ref x0] post := by
  refine gh_openA (by decide) rfl (Nat.le_of_ble_eq_true rfl) (fun X hb C => ?_)
  subst hb
  show gh_G X rm_X4_init 2 0 0 sh n 0 [(0, .ref x0)] [] M
  unfold wp_X4_init at h
  refine k_aload_n C.1 0 rfl dX4_init_0 ?_
  refine k_objInit C.1 (gh_in 166 (by decide +kernel) rfl) w_oi1 w_oi2 (Nat.le_of_ble_eq_true rfl) (Nat.le_of_ble_eq_true rfl) dX4_init_1 ?_
  refine k_aload_n C.1 0 rfl dX4_init_4 ?_
  refine k_bipush (v := 20) C.1 dX4_init_5 (by decide) ?_
  obtain ⟨hc1, hw2, h⟩ := h
  refine k_newR (kd := 15) (N := 20) (Cn := "GlossHouse$Entry") C.1 (gh_in 167 (by decide +kernel) rfl) (gh_inN 134 (by decide +kernel) rfl) (by decide) (by decide) rfl (by decide) (by decide) (by decide) dX4_init_7 hc1 hw2 ?_
  obtain ⟨hs3, h⟩ := h
  refine k_putFR C.1 C.2.2.2.2.2 F_X4_11 rfl dX4_init_10 hs3 rfl rfl ?_
  refine k_iconst (v := 0) C.1 dX4_init_13 (by decide) ?_
  refine k_istore_n (lv' := [(1, .int (0 : Int32)), (0, .ref x0)]) C.1 dX4_init_14 (by decide) rfl ?_
  refine k_sub (lv' := [(0, .ref x0), (1, .int (0 : Int32))]) [1, 0] rfl ?_
  exact b_X4_init_15 C x0 (0 : Int32) (shU sh (gx_b X + n) 15 20) (n + 1) 1 20 (wR (zM M (gx_b X + n)) x0 0 (some (gx_b X + n))) h
abbrev rm_X6_init : Room := { frames := 1, cells := 4, slots := 776, locals := 24 }
set_option maxRecDepth 100000 in
set_option maxHeartbeats 4000000 in
theorem bb_X6_init_53 {X : gh_X} {nf : Nat} {post : gh_Sh → gh_M → Prop} (C : gh_CA X cX6_init RX6 4 nf 4 776 post) (x0 : Nat) (x1 : Int32) (x2 : Int32) (k41 : Int32 → gh_Sh → Nat → Nat → Nat → gh_M → Prop) (hk41 : ∀ (y1 : Int32)  (sh : gh_Sh) (n : Nat) (c : Nat) (w : Nat) (M : gh_M), k41 y1  sh n c w M → gh_G X rm_X6_init 4 c w sh n 41 [(0, .ref x0), (1, .int y1)] [] M) (k53 : Int32 → gh_Sh → Nat → Nat → Nat → gh_M → Prop) (hk53 : ∀ (y3 : Int32)  (sh : gh_Sh) (n : Nat) (c : Nat) (w : Nat) (M : gh_M), k53 y3  sh n c w M → gh_G X rm_X6_init 4 c w sh n 53 [(0, .ref x0), (1, .int x1), (2, .int x2), (3, .int y3)] [] M) (x3 : Int32) (sh : gh_Sh) (n : Nat) (c : Nat) (w : Nat) (M : gh_M) (h : wb_X6_init_53 (gx_b X) nf post k41 x0 x1 x2 k53 x3 sh n c w M) : gh_G X rm_X6_init 4 c w sh n 53 [(0, .ref x0), (1, .int x1), (2, .int x2), (3, .int x3)] [] M := by
  unfold wb_X6_init_53 at h
  refine k_iload_n C.1 3 rfl dX6_init_53 ?_
  refine k_iload_n C.1 2 rfl dX6_init_54 ?_
  refine k_icmp_ge C.1 85 dX6_init_55 (by decide) (fun c1 => ?_) (fun c1 => ?_)
  · have h := h.1 c1
    refine k_iinc (v := x1 + 1) (lv' := [(1, .int (x1 + 1)), (0, .ref x0), (2, .int x2), (3, .int x3)]) C.1 1 rfl dX6_init_85 (by decide) rfl rfl ?_
    refine k_goto C.1 41 dX6_init_88 (by decide) ?_
    refine k_sub (lv' := [(0, .ref x0), (1, .int (x1 + 1))]) [1, 0] rfl ?_
    exact hk41 (x1 + 1) sh n c w M h
  · have h := h.2 c1
    refine k_aload_n C.1 0 rfl dX6_init_58 ?_
    obtain ⟨hs2, h⟩ := h
    obtain ⟨q3, hq3, h⟩ := h
    refine k_getR C.1 F_X6_18 dX6_init_59 hs2 hq3 ?_
    refine k_iload_n C.1 2 rfl dX6_init_62 ?_
    refine k_iload_n C.1 3 rfl dX6_init_63 ?_
    refine k_iadd C.1 dX6_init_64 ?_
    refine k_aload_n C.1 0 rfl dX6_init_65 ?_
    refine k_getR C.1 F_X6_18 dX6_init_66 hs2 hq3 ?_
    refine k_iload_n C.1 3 rfl dX6_init_69 ?_
    obtain ⟨hs4, h⟩ := h
    obtain ⟨hi5, h⟩ := h
    refine k_iald C.1 dX6_init_70 hs4 hi5 ?_
    refine k_iconst (v := 1) C.1 dX6_init_71 (by decide) ?_
    refine k_iload_n C.1 1 rfl dX6_init_72 ?_
    obtain ⟨hc7, hw8, h⟩ := h
    refine k_callS (As := [.int x1]) (rest := [.int (1 : Int32), .int (rI M q3 x3.toNatClampNeg), .int (x2 + x3), .ref q3]) C.1 V_X6_25 (c_X6_shiftOf h) ⟨rfl, rfl, Nat.le_of_ble_eq_true rfl, Nat.le_of_ble_eq_true rfl⟩  rfl rfl (Nat.le_of_ble_eq_true rfl) ⟨hc7, hw8⟩ dX6_init_73 (kp_i fun r9 M6 h9 => ?_)
    replace h := h9
    refine k_ishl C.1 dX6_init_76 ?_
    refine k_iadd C.1 dX6_init_77 ?_
    obtain ⟨hi10, h⟩ := h
    refine k_iast C.1 dX6_init_78 hs4 hi10 ?_
    refine k_iinc (v := x3 + 1) (lv' := [(3, .int (x3 + 1)), (0, .ref x0), (1, .int x1), (2, .int x2)]) C.1 3 rfl dX6_init_79 (by decide) rfl rfl ?_
    refine k_goto C.1 53 dX6_init_82 (by decide) ?_
    refine k_sub (lv' := [(0, .ref x0), (1, .int x1), (2, .int x2), (3, .int (x3 + 1))]) [1, 2, 3, 0] rfl ?_
    exact hk53 (x3 + 1) sh n c w (wI M6 q3 (x2 + x3).toNatClampNeg ((rI M q3 x3.toNatClampNeg) + ((1 : Int32) <<< (r9 &&& 31)))) h
set_option maxRecDepth 100000 in
theorem b_X6_init_53 {X : gh_X} {nf : Nat} {post : gh_Sh → gh_M → Prop} (C : gh_CA X cX6_init RX6 4 nf 4 776 post) (x0 : Nat) (x1 : Int32) (x2 : Int32) (x3 : Int32) (sh : gh_Sh) (n : Nat) (c : Nat) (w : Nat) (M : gh_M) (k41 : Int32 → gh_Sh → Nat → Nat → Nat → gh_M → Prop) (hk41 : ∀ (y1 : Int32)  (sh : gh_Sh) (n : Nat) (c : Nat) (w : Nat) (M : gh_M), k41 y1  sh n c w M → gh_G X rm_X6_init 4 c w sh n 41 [(0, .ref x0), (1, .int y1)] [] M) (h : wp_X6_init_53 (gx_b X) nf post k41 x0 x1 x2 x3 sh n c w M) : gh_G X rm_X6_init 4 c w sh n 53 [(0, .ref x0), (1, .int x1), (2, .int x2), (3, .int x3)] [] M := by
  unfold wp_X6_init_53 at h
  exact gh_loop_use h (fun v => gh_G X rm_X6_init 4 v.2.2.2.1 v.2.2.2.2.1 v.2.1 v.2.2.1 53 [(0, .ref x0), (1, .int x1), (2, .int x2), (3, .int v.1)] [] v.2.2.2.2.2) (fun k v hk hb => bb_X6_init_53 C x0 x1 x2 k41 hk41 (fun x3 sh n c w M => k (x3, sh, n, c, w, M)) (fun x3 sh n c w M h => hk (x3, sh, n, c, w, M) h) v.1 v.2.1 v.2.2.1 v.2.2.2.1 v.2.2.2.2.1 v.2.2.2.2.2 hb)
set_option maxRecDepth 100000 in
set_option maxHeartbeats 4000000 in
theorem bb_X6_init_41 {X : gh_X} {nf : Nat} {post : gh_Sh → gh_M → Prop} (C : gh_CA X cX6_init RX6 4 nf 4 776 post) (x0 : Nat) (k41 : Int32 → gh_Sh → Nat → Nat → Nat → gh_M → Prop) (hk41 : ∀ (y1 : Int32)  (sh : gh_Sh) (n : Nat) (c : Nat) (w : Nat) (M : gh_M), k41 y1  sh n c w M → gh_G X rm_X6_init 4 c w sh n 41 [(0, .ref x0), (1, .int y1)] [] M) (x1 : Int32) (sh : gh_Sh) (n : Nat) (c : Nat) (w : Nat) (M : gh_M) (h : wb_X6_init_41 (gx_b X) nf post x0 k41 x1 sh n c w M) : gh_G X rm_X6_init 4 c w sh n 41 [(0, .ref x0), (1, .int x1)] [] M := by
  unfold wb_X6_init_41 at h
  refine k_iload_n C.1 1 rfl dX6_init_41 ?_
  refine k_bipush (v := 8) C.1 dX6_init_42 (by decide) ?_
  refine k_icmp_ge C.1 91 dX6_init_44 (by decide) (fun c1 => ?_) (fun c1 => ?_)
  · have h := h.1 c1
    exact k_cret C dX6_init_91 h.1 h.2.1 h.2.2.1 h.2.2.2
  · have h := h.2 c1
    refine k_iconst (v := 1) C.1 dX6_init_47 (by decide) ?_
    refine k_iload_n C.1 1 rfl dX6_init_48 ?_
    refine k_ishl C.1 dX6_init_49 ?_
    refine k_istore_n (lv' := [(2, .int ((1 : Int32) <<< (x1 &&& 31))), (0, .ref x0), (1, .int x1)]) C.1 dX6_init_50 (by decide) rfl ?_
    refine k_iconst (v := 0) C.1 dX6_init_51 (by decide) ?_
    refine k_istore_n (lv' := [(3, .int (0 : Int32)), (2, .int ((1 : Int32) <<< (x1 &&& 31))), (0, .ref x0), (1, .int x1)]) C.1 dX6_init_52 (by decide) rfl ?_
    refine k_sub (lv' := [(0, .ref x0), (1, .int x1), (2, .int ((1 : Int32) <<< (x1 &&& 31))), (3, .int (0 : Int32))]) [2, 3, 1, 0] rfl ?_
    exact b_X6_init_53 C x0 x1 ((1 : Int32) <<< (x1 &&& 31)) (0 : Int32) sh n c w M k41 hk41 h
set_option maxRecDepth 100000 in
theorem b_X6_init_41 {X : gh_X} {nf : Nat} {post : gh_Sh → gh_M → Prop} (C : gh_CA X cX6_init RX6 4 nf 4 776 post) (x0 : Nat) (x1 : Int32) (sh : gh_Sh) (n : Nat) (c : Nat) (w : Nat) (M : gh_M) (h : wp_X6_init_41 (gx_b X) nf post x0 x1 sh n c w M) : gh_G X rm_X6_init 4 c w sh n 41 [(0, .ref x0), (1, .int x1)] [] M := by
  unfold wp_X6_init_41 at h
  exact gh_loop_use h (fun v => gh_G X rm_X6_init 4 v.2.2.2.1 v.2.2.2.2.1 v.2.1 v.2.2.1 41 [(0, .ref x0), (1, .int v.1)] [] v.2.2.2.2.2) (fun k v hk hb => bb_X6_init_41 C x0 (fun x1 sh n c w M => k (x1, sh, n, c, w, M)) (fun x1 sh n c w M h => hk (x1, sh, n, c, w, M) h) v.1 v.2.1 v.2.2.1 v.2.2.2.1 v.2.2.2.2.1 v.2.2.2.2.2 hb)
set_option maxRecDepth 100000 in
set_option maxHeartbeats 4000000 in
theorem c_X6_init {l : Launch} {D : va_G} {dA : Nat → ClassId} {sh : gh_Sh} {b0 n : Nat} {M : gh_M} {x0 : Nat} {post : gh_Sh → gh_M → Prop} (h : wp_X6_init b0 sh n M x0 post) : gh_MetA l D dA sh b0 n 4 776 yX6_init cX6_init 4 rm_X6_init M [.ref x0] post := by
  refine gh_openA (by decide) rfl (Nat.le_of_ble_eq_true rfl) (fun X hb C => ?_)
  subst hb
  show gh_G X rm_X6_init 4 0 0 sh n 0 [(0, .ref x0)] [] M
  unfold wp_X6_init at h
  refine k_aload_n C.1 0 rfl dX6_init_0 ?_
  refine k_objInit C.1 (gh_in 104 (by decide +kernel) rfl) w_oi1 w_oi2 (Nat.le_of_ble_eq_true rfl) (Nat.le_of_ble_eq_true rfl) dX6_init_1 ?_
  refine k_aload_n C.1 0 rfl dX6_init_4 ?_
  refine k_bipush (v := 8) C.1 dX6_init_5 (by decide) ?_
  obtain ⟨hc1, hw2, h⟩ := h
  refine k_newI (N := 8) C.1 w_arrI (by decide) (by decide) (by decide) dX6_init_7 hc1 hw2 ?_
  obtain ⟨hs3, h⟩ := h
  refine k_putFR C.1 C.2.2.2.2.2 F_X6_9 rfl dX6_init_9 hs3 rfl rfl ?_
  refine k_aload_n C.1 0 rfl dX6_init_12 ?_
  refine k_sipush (v := 256) C.1 dX6_init_13 (by decide) ?_
  obtain ⟨hc4, hw5, h⟩ := h
  refine k_newI (N := 256) C.1 w_arrI (by decide) (by decide) (by decide) dX6_init_16 hc4 hw5 ?_
  obtain ⟨hs6, h⟩ := h
  refine k_putFR C.1 C.2.2.2.2.2 F_X6_15 rfl dX6_init_18 hs6 rfl rfl ?_
  refine k_aload_n C.1 0 rfl dX6_init_21 ?_
  refine k_sipush (v := 256) C.1 dX6_init_22 (by decide) ?_
  obtain ⟨hc7, hw8, h⟩ := h
  refine k_newI (N := 256) C.1 w_arrI (by decide) (by decide) (by decide) dX6_init_25 hc7 hw8 ?_
  generalize eM9 : zM (wR (zM (wR (zM M (gx_b X + n)) x0 0 (some (gx_b X + n))) (gx_b X + (n + 1))) x0 1 (some (gx_b X + (n + 1)))) (gx_b X + (n + 2)) = M9
  replace h := h M9 eM9.symm
  obtain ⟨hs10, h⟩ := h
  refine k_putFR C.1 C.2.2.2.2.2 F_X6_18 rfl dX6_init_27 hs10 rfl rfl ?_
  refine k_aload_n C.1 0 rfl dX6_init_30 ?_
  refine k_sipush (v := 256) C.1 dX6_init_31 (by decide) ?_
  obtain ⟨hc11, hw12, h⟩ := h
  refine k_newJ (N := 256) C.1 w_arrJ (by decide) (by decide) (by decide) dX6_init_34 hc11 hw12 ?_
  obtain ⟨hs13, h⟩ := h
  refine k_putFR C.1 C.2.2.2.2.2 F_X6_21 rfl dX6_init_36 hs13 rfl rfl ?_
  refine k_iconst (v := 0) C.1 dX6_init_39 (by decide) ?_
  refine k_istore_n (lv' := [(1, .int (0 : Int32)), (0, .ref x0)]) C.1 dX6_init_40 (by decide) rfl ?_
  refine k_sub (lv' := [(0, .ref x0), (1, .int (0 : Int32))]) [1, 0] rfl ?_
  exact b_X6_init_41 C x0 (0 : Int32) (shU (shU (shU (shU sh (gx_b X + n) 13 8) (gx_b X + (n + 1)) 13 256) (gx_b X + (n + 2)) 13 256) (gx_b X + (n + 3)) 14 256) (n + 4) 4 776 (wR (zM (wR M9 x0 2 (some (gx_b X + (n + 2)))) (gx_b X + (n + 3))) x0 3 (some (gx_b X + (n + 3)))) h
abbrev rm_X8_init : Room := { frames := 1, cells := 1, slots := 11, locals := 24 }
set_option maxRecDepth 100000 in
set_option maxHeartbeats 4000000 in
theorem c_X8_init {l : Launch} {D : va_G} {dA : Nat → ClassId} {sh : gh_Sh} {b0 n : Nat} {M : gh_M} {x0 : Nat} {post : gh_Sh → gh_M → Prop} (h : wp_X8_init b0 sh n M x0 post) : gh_MetA l D dA sh b0 n 1 11 yX8_init cX8_init 1 rm_X8_init M [.ref x0] post := by
  refine gh_openA (by decide) rfl (Nat.le_of_ble_eq_true rfl) (fun X hb C => ?_)
  subst hb
  show gh_G X rm_X8_init 1 0 0 sh n 0 [(0, .ref x0)] [] M
  unfold wp_X8_init at h
  refine k_aload_n C.1 0 rfl dX8_init_0 ?_
  refine k_objInit C.1 (gh_in 77 (by decide +kernel) rfl) w_oi1 w_oi2 (Nat.le_of_ble_eq_true rfl) (Nat.le_of_ble_eq_true rfl) dX8_init_1 ?_
  refine k_aload_n C.1 0 rfl dX8_init_4 ?_
  refine k_bipush (v := 11) C.1 dX8_init_5 (by decide) ?_
  obtain ⟨hc1, hw2, h⟩ := h
  refine k_newI (N := 11) C.1 w_arrI (by decide) (by decide) (by decide) dX8_init_7 hc1 hw2 ?_
  obtain ⟨hs3, h⟩ := h
  refine k_putFR C.1 C.2.2.2.2.2 F_X8_9 rfl dX8_init_9 hs3 rfl rfl ?_
  exact k_cret C dX8_init_12 h.1 h.2.1 h.2.2.1 h.2.2.2
abbrev rm_X9_init : Room := { frames := 1, cells := 4, slots := 303, locals := 24 }
set_option maxRecDepth 100000 in
set_option maxHeartbeats 4000000 in
theorem c_X9_init {l : Launch} {D : va_G} {dA : Nat → ClassId} {sh : gh_Sh} {b0 n : Nat} {M : gh_M} {x0 : Nat} {post : gh_Sh → gh_M → Prop} (h : wp_X9_init b0 sh n M x0 post) : gh_MetA l D dA sh b0 n 4 303 yX9_init cX9_init 1 rm_X9_init M [.ref x0] post := by
  refine gh_openA (by decide) rfl (Nat.le_of_ble_eq_true rfl) (fun X hb C => ?_)
  subst hb
  show gh_G X rm_X9_init 1 0 0 sh n 0 [(0, .ref x0)] [] M
  unfold wp_X9_init at h
  refine k_aload_n C.1 0 rfl dX9_init_0 ?_
  refine k_objInit C.1 (gh_in 151 (by decide +kernel) rfl) w_oi1 w_oi2 (Nat.le_of_ble_eq_true rfl) (Nat.le_of_ble_eq_true rfl) dX9_init_1 ?_
  refine k_aload_n C.1 0 rfl dX9_init_4 ?_
  refine k_iconst (v := 3) C.1 dX9_init_5 (by decide) ?_
  refine k_bipush (v := 100) C.1 dX9_init_6 (by decide) ?_
  obtain ⟨hc1, hw2, h⟩ := h
  refine k_mna C.1 (gh_in 152 (by decide +kernel) rfl) (gh_inN 119 (by decide +kernel) rfl) w_arrI dX9_init_8 hc1 hw2 ?_
  obtain ⟨hs3, h⟩ := h
  refine k_putFR C.1 C.2.2.2.2.2 F_X9_11 rfl dX9_init_12 hs3 rfl rfl ?_
  exact k_cret C dX9_init_15 h.1 h.2.1 h.2.2.1 h.2.2.2
abbrev rm_X11_init : Room := { frames := 5, cells := 543, slots := 4111, locals := 106 }
set_option maxRecDepth 100000 in
set_option maxHeartbeats 4000000 in
theorem c_X11_init {l : Launch} {D : va_G} {dA : Nat → ClassId} {sh : gh_Sh} {b0 n : Nat} {M : gh_M} {x0 : Nat} {post : gh_Sh → gh_M → Prop} (h : wp_X11_init b0 sh n M x0 post) : gh_MetA l D dA sh b0 n 543 4111 yX11_init cX11_init 1 rm_X11_init M [.ref x0] post := by
  refine gh_openA (by decide) rfl (Nat.le_of_ble_eq_true rfl) (fun X hb C => ?_)
  subst hb
  show gh_G X rm_X11_init 1 0 0 sh n 0 [(0, .ref x0)] [] M
  unfold wp_X11_init at h
  refine k_aload_n C.1 0 rfl dX11_init_0 ?_
  refine k_objInit C.1 (gh_in 55 (by decide +kernel) rfl) w_oi1 w_oi2 (Nat.le_of_ble_eq_true rfl) (Nat.le_of_ble_eq_true rfl) dX11_init_1 ?_
  refine k_aload_n C.1 0 rfl dX11_init_4 ?_
  obtain ⟨hc1, hw2, h⟩ := h
  refine k_new C.1 B_X11_9 dX11_init_5 hc1 hw2 ?_
  refine k_dup C.1 dX11_init_8 rfl ?_
  obtain ⟨hc3, hw4, h⟩ := h
  refine k_callI (As := []) (rest := [.ref (gx_b X + n), .ref x0]) C.1 I_X11_11 (c_X7_init h) ⟨rfl, rfl, Nat.le_of_ble_eq_true rfl, Nat.le_of_ble_eq_true rfl⟩ rfl rfl (Nat.le_of_ble_eq_true rfl) ⟨hc3, hw4⟩ dX11_init_9 (fun sh6 M5 h9 => ?_)
  replace h := h9
  obtain ⟨hs7, h⟩ := h
  refine k_putFR C.1 C.2.2.2.2.2 F_X11_12 rfl dX11_init_12 hs7 rfl rfl ?_
  refine k_aload_n C.1 0 rfl dX11_init_15 ?_
  obtain ⟨hc8, hw9, h⟩ := h
  refine k_new C.1 B_X11_16 dX11_init_16 hc8 hw9 ?_
  refine k_dup C.1 dX11_init_19 rfl ?_
  obtain ⟨hc10, hw11, h⟩ := h
  refine k_callI (As := []) (rest := [.ref (gx_b X + (n + 2)), .ref x0]) C.1 I_X11_18 (c_X8_init h) ⟨rfl, rfl, Nat.le_of_ble_eq_true rfl, Nat.le_of_ble_eq_true rfl⟩ rfl rfl (Nat.le_of_ble_eq_true rfl) ⟨hc10, hw11⟩ dX11_init_20 (fun sh13 M12 h9 => ?_)
  replace h := h9
  obtain ⟨hs14, h⟩ := h
  refine k_putFR C.1 C.2.2.2.2.2 F_X11_19 rfl dX11_init_23 hs14 rfl rfl ?_
  refine k_aload_n C.1 0 rfl dX11_init_26 ?_
  obtain ⟨hc15, hw16, h⟩ := h
  refine k_new C.1 B_X11_23 dX11_init_27 hc15 hw16 ?_
  refine k_dup C.1 dX11_init_30 rfl ?_
  obtain ⟨hc17, hw18, h⟩ := h
  refine k_callI (As := []) (rest := [.ref (gx_b X + (n + 4)), .ref x0]) C.1 I_X11_25 (c_X3_init h) ⟨rfl, rfl, Nat.le_of_ble_eq_true rfl, Nat.le_of_ble_eq_true rfl⟩ rfl rfl (Nat.le_of_ble_eq_true rfl) ⟨hc17, hw18⟩ dX11_init_31 (fun sh20 M19 h9 => ?_)
  replace h := h9
  obtain ⟨hs21, h⟩ := h
  refine k_putFR C.1 C.2.2.2.2.2 F_X11_26 rfl dX11_init_34 hs21 rfl rfl ?_
  refine k_aload_n C.1 0 rfl dX11_init_37 ?_
  obtain ⟨hc22, hw23, h⟩ := h
  refine k_new C.1 B_X11_30 dX11_init_38 hc22 hw23 ?_
  refine k_dup C.1 dX11_init_41 rfl ?_
  obtain ⟨hc24, hw25, h⟩ := h
  refine k_callI (As := []) (rest := [.ref (gx_b X + (n + 7)), .ref x0]) C.1 I_X11_32 (c_X6_init h) ⟨rfl, rfl, Nat.le_of_ble_eq_true rfl, Nat.le_of_ble_eq_true rfl⟩ rfl rfl (Nat.le_of_ble_eq_true rfl) ⟨hc24, hw25⟩ dX11_init_42 (fun sh27 M26 h9 => ?_)
  replace h := h9
  obtain ⟨hs28, h⟩ := h
  refine k_putFR C.1 C.2.2.2.2.2 F_X11_33 rfl dX11_init_45 hs28 rfl rfl ?_
  refine k_aload_n C.1 0 rfl dX11_init_48 ?_
  obtain ⟨hc29, hw30, h⟩ := h
  refine k_new C.1 B_X11_37 dX11_init_49 hc29 hw30 ?_
  refine k_dup C.1 dX11_init_52 rfl ?_
  obtain ⟨hc31, hw32, h⟩ := h
  refine k_callI (As := []) (rest := [.ref (gx_b X + (n + 12)), .ref x0]) C.1 I_X11_39 (c_X2_init h) ⟨rfl, rfl, Nat.le_of_ble_eq_true rfl, Nat.le_of_ble_eq_true rfl⟩ rfl rfl (Nat.le_of_ble_eq_true rfl) ⟨hc31, hw32⟩ dX11_init_53 (fun sh34 M33 h9 => ?_)
  replace h := h9
  obtain ⟨hs35, h⟩ := h
  refine k_putFR C.1 C.2.2.2.2.2 F_X11_40 rfl dX11_init_56 hs35 rfl rfl ?_
  refine k_aload_n C.1 0 rfl dX11_init_59 ?_
  obtain ⟨hc36, hw37, h⟩ := h
  refine k_new C.1 B_X11_44 dX11_init_60 hc36 hw37 ?_
  refine k_dup C.1 dX11_init_63 rfl ?_
  obtain ⟨hc38, hw39, h⟩ := h
  refine k_callI (As := []) (rest := [.ref (gx_b X + (n + 16)), .ref x0]) C.1 I_X11_46 (c_X9_init h) ⟨rfl, rfl, Nat.le_of_ble_eq_true rfl, Nat.le_of_ble_eq_true rfl⟩ rfl rfl (Nat.le_of_ble_eq_true rfl) ⟨hc38, hw39⟩ dX11_init_64 (fun sh41 M40 h9 => ?_)
  replace h := h9
  obtain ⟨hs42, h⟩ := h
  refine k_putFR C.1 C.2.2.2.2.2 F_X11_47 rfl dX11_init_67 hs42 rfl rfl ?_
  refine k_aload_n C.1 0 rfl dX11_init_70 ?_
  obtain ⟨hc43, hw44, h⟩ := h
  refine k_new C.1 B_X11_51 dX11_init_71 hc43 hw44 ?_
  refine k_dup C.1 dX11_init_74 rfl ?_
  obtain ⟨hc45, hw46, h⟩ := h
  refine k_callI (As := []) (rest := [.ref (gx_b X + (n + 21)), .ref x0]) C.1 I_X11_53 (c_X4_init h) ⟨rfl, rfl, Nat.le_of_ble_eq_true rfl, Nat.le_of_ble_eq_true rfl⟩ rfl rfl (Nat.le_of_ble_eq_true rfl) ⟨hc45, hw46⟩ dX11_init_75 (fun sh48 M47 h9 => ?_)
  replace h := h9
  obtain ⟨hs49, h⟩ := h
  refine k_putFR C.1 C.2.2.2.2.2 F_X11_54 rfl dX11_init_78 hs49 rfl rfl ?_
  refine k_aload_n C.1 0 rfl dX11_init_81 ?_
  obtain ⟨hc50, hw51, h⟩ := h
  refine k_new C.1 B_X11_51 dX11_init_82 hc50 hw51 ?_
  refine k_dup C.1 dX11_init_85 rfl ?_
  obtain ⟨hc52, hw53, h⟩ := h
  refine k_callI (As := []) (rest := [.ref (gx_b X + (n + 123)), .ref x0]) C.1 I_X11_53 (c_X4_init h) ⟨rfl, rfl, Nat.le_of_ble_eq_true rfl, Nat.le_of_ble_eq_true rfl⟩ rfl rfl (Nat.le_of_ble_eq_true rfl) ⟨hc52, hw53⟩ dX11_init_86 (fun sh55 M54 h9 => ?_)
  replace h := h9
  obtain ⟨hs56, h⟩ := h
  refine k_putFR C.1 C.2.2.2.2.2 F_X11_58 rfl dX11_init_89 hs56 rfl rfl ?_
  refine k_aload_n C.1 0 rfl dX11_init_92 ?_
  obtain ⟨hc57, hw58, h⟩ := h
  refine k_new C.1 B_X11_61 dX11_init_93 hc57 hw58 ?_
  refine k_dup C.1 dX11_init_96 rfl ?_
  obtain ⟨hc59, hw60, h⟩ := h
  refine k_callI (As := []) (rest := [.ref (gx_b X + (n + 225)), .ref x0]) C.1 I_X11_63 (c_X0_init h) ⟨rfl, rfl, Nat.le_of_ble_eq_true rfl, Nat.le_of_ble_eq_true rfl⟩ rfl rfl (Nat.le_of_ble_eq_true rfl) ⟨hc59, hw60⟩ dX11_init_97 (fun sh62 M61 h9 => ?_)
  replace h := h9
  obtain ⟨hs63, h⟩ := h
  refine k_putFR C.1 C.2.2.2.2.2 F_X11_64 rfl dX11_init_100 hs63 rfl rfl ?_
  refine k_aload_n C.1 0 rfl dX11_init_103 ?_
  obtain ⟨hc64, hw65, h⟩ := h
  refine k_new C.1 B_X11_61 dX11_init_104 hc64 hw65 ?_
  refine k_dup C.1 dX11_init_107 rfl ?_
  obtain ⟨hc66, hw67, h⟩ := h
  refine k_callI (As := []) (rest := [.ref (gx_b X + (n + 331)), .ref x0]) C.1 I_X11_63 (c_X0_init h) ⟨rfl, rfl, Nat.le_of_ble_eq_true rfl, Nat.le_of_ble_eq_true rfl⟩ rfl rfl (Nat.le_of_ble_eq_true rfl) ⟨hc66, hw67⟩ dX11_init_108 (fun sh69 M68 h9 => ?_)
  replace h := h9
  obtain ⟨hs70, h⟩ := h
  refine k_putR C.1 F_X11_68 dX11_init_111 hs70 rfl rfl ?_
  refine k_aload_n C.1 0 rfl dX11_init_114 ?_
  obtain ⟨hc71, hw72, h⟩ := h
  refine k_new C.1 B_X11_61 dX11_init_115 hc71 hw72 ?_
  refine k_dup C.1 dX11_init_118 rfl ?_
  obtain ⟨hc73, hw74, h⟩ := h
  refine k_callI (As := []) (rest := [.ref (gx_b X + (n + 437)), .ref x0]) C.1 I_X11_63 (c_X0_init h) ⟨rfl, rfl, Nat.le_of_ble_eq_true rfl, Nat.le_of_ble_eq_true rfl⟩ rfl rfl (Nat.le_of_ble_eq_true rfl) ⟨hc73, hw74⟩ dX11_init_119 (fun sh76 M75 h9 => ?_)
  replace h := h9
  obtain ⟨hs77, h⟩ := h
  refine k_putR C.1 F_X11_71 dX11_init_122 hs77 rfl rfl ?_
  refine k_aload_n C.1 0 rfl dX11_init_125 ?_
  refine k_bipush (v := 6) C.1 dX11_init_126 (by decide) ?_
  refine k_putI C.1 F_X11_74 dX11_init_128 hs77 rfl rfl ?_
  refine k_aload_n C.1 0 rfl dX11_init_131 ?_
  refine k_iconst (v := 0) C.1 dX11_init_132 (by decide) ?_
  generalize eM78 : wI (wR M75 x0 10 (some (gx_b X + (n + 437)))) x0 11 (6 : Int32) = M78
  replace h := h M78 eM78.symm
  refine k_putI C.1 F_X11_78 dX11_init_133 hs77 rfl rfl ?_
  exact k_cret C dX11_init_136 h.1 h.2.1 h.2.2.1 h.2.2.2
abbrev rm_X12_init : Room := { frames := 1, cells := 38, slots := 4536, locals := 24 }
set_option maxRecDepth 100000 in
set_option maxHeartbeats 4000000 in
theorem c_X12_init {l : Launch} {D : va_G} {dA : Nat → ClassId} {sh : gh_Sh} {b0 n : Nat} {M : gh_M} {x0 : Nat} {post : gh_Sh → gh_M → Prop} (h : wp_X12_init b0 sh n M x0 post) : gh_MetA l D dA sh b0 n 38 4536 yX12_init cX12_init 1 rm_X12_init M [.ref x0] post := by
  refine gh_openA (by decide) rfl (Nat.le_of_ble_eq_true rfl) (fun X hb C => ?_)
  subst hb
  show gh_G X rm_X12_init 1 0 0 sh n 0 [(0, .ref x0)] [] M
  unfold wp_X12_init at h
  refine k_aload_n C.1 0 rfl dX12_init_0 ?_
  refine k_objInit C.1 (gh_in 823 (by decide +kernel) rfl) w_oi1 w_oi2 (Nat.le_of_ble_eq_true rfl) (Nat.le_of_ble_eq_true rfl) dX12_init_1 ?_
  refine k_aload_n C.1 0 rfl dX12_init_4 ?_
  refine k_bipush (v := 10) C.1 dX12_init_5 (by decide) ?_
  obtain ⟨hc1, hw2, h⟩ := h
  refine k_newI (N := 10) C.1 w_arrI (by decide) (by decide) (by decide) dX12_init_7 hc1 hw2 ?_
  obtain ⟨hs3, h⟩ := h
  refine k_putFR C.1 C.2.2.2.2.2 F_X12_7 rfl dX12_init_9 hs3 rfl rfl ?_
  refine k_aload_n C.1 0 rfl dX12_init_12 ?_
  refine k_bipush (v := 8) C.1 dX12_init_13 (by decide) ?_
  obtain ⟨hc4, hw5, h⟩ := h
  refine k_newI (N := 8) C.1 w_arrI (by decide) (by decide) (by decide) dX12_init_15 hc4 hw5 ?_
  obtain ⟨hs6, h⟩ := h
  refine k_putFR C.1 C.2.2.2.2.2 F_X12_13 rfl dX12_init_17 hs6 rfl rfl ?_
  refine k_aload_n C.1 0 rfl dX12_init_20 ?_
  refine k_bipush (v := 8) C.1 dX12_init_21 (by decide) ?_
  obtain ⟨hc7, hw8, h⟩ := h
  refine k_newI (N := 8) C.1 w_arrI (by decide) (by decide) (by decide) dX12_init_23 hc7 hw8 ?_
  generalize eM9 : zM (wR (zM (wR (zM M (gx_b X + n)) x0 1 (some (gx_b X + n))) (gx_b X + (n + 1))) x0 3 (some (gx_b X + (n + 1)))) (gx_b X + (n + 2)) = M9
  replace h := h M9 eM9.symm
  obtain ⟨hs10, h⟩ := h
  refine k_putFR C.1 C.2.2.2.2.2 F_X12_16 rfl dX12_init_25 hs10 rfl rfl ?_
  refine k_aload_n C.1 0 rfl dX12_init_28 ?_
  refine k_bipush (v := 64) C.1 dX12_init_29 (by decide) ?_
  obtain ⟨hc11, hw12, h⟩ := h
  refine k_newI (N := 64) C.1 w_arrI (by decide) (by decide) (by decide) dX12_init_31 hc11 hw12 ?_
  obtain ⟨hs13, h⟩ := h
  refine k_putFR C.1 C.2.2.2.2.2 F_X12_19 rfl dX12_init_33 hs13 rfl rfl ?_
  refine k_aload_n C.1 0 rfl dX12_init_36 ?_
  refine k_bipush (v := 8) C.1 dX12_init_37 (by decide) ?_
  obtain ⟨hc14, hw15, h⟩ := h
  refine k_newI (N := 8) C.1 w_arrI (by decide) (by decide) (by decide) dX12_init_39 hc14 hw15 ?_
  generalize eM16 : zM (wR (zM (wR M9 x0 4 (some (gx_b X + (n + 2)))) (gx_b X + (n + 3))) x0 5 (some (gx_b X + (n + 3)))) (gx_b X + (n + 4)) = M16
  replace h := h M16 eM16.symm
  obtain ⟨hs17, h⟩ := h
  refine k_putFR C.1 C.2.2.2.2.2 F_X12_22 rfl dX12_init_41 hs17 rfl rfl ?_
  refine k_aload_n C.1 0 rfl dX12_init_44 ?_
  refine k_bipush (v := 8) C.1 dX12_init_45 (by decide) ?_
  obtain ⟨hc18, hw19, h⟩ := h
  refine k_newI (N := 8) C.1 w_arrI (by decide) (by decide) (by decide) dX12_init_47 hc18 hw19 ?_
  obtain ⟨hs20, h⟩ := h
  refine k_putFR C.1 C.2.2.2.2.2 F_X12_25 rfl dX12_init_49 hs20 rfl rfl ?_
  refine k_aload_n C.1 0 rfl dX12_init_52 ?_
  refine k_bipush (v := 8) C.1 dX12_init_53 (by decide) ?_
  obtain ⟨hc21, hw22, h⟩ := h
  refine k_newI (N := 8) C.1 w_arrI (by decide) (by decide) (by decide) dX12_init_55 hc21 hw22 ?_
  generalize eM23 : zM (wR (zM (wR M16 x0 6 (some (gx_b X + (n + 4)))) (gx_b X + (n + 5))) x0 7 (some (gx_b X + (n + 5)))) (gx_b X + (n + 6)) = M23
  replace h := h M23 eM23.symm
  obtain ⟨hs24, h⟩ := h
  refine k_putFR C.1 C.2.2.2.2.2 F_X12_28 rfl dX12_init_57 hs24 rfl rfl ?_
  refine k_aload_n C.1 0 rfl dX12_init_60 ?_
  refine k_bipush (v := 8) C.1 dX12_init_61 (by decide) ?_
  obtain ⟨hc25, hw26, h⟩ := h
  refine k_newI (N := 8) C.1 w_arrI (by decide) (by decide) (by decide) dX12_init_63 hc25 hw26 ?_
  obtain ⟨hs27, h⟩ := h
  refine k_putFR C.1 C.2.2.2.2.2 F_X12_31 rfl dX12_init_65 hs27 rfl rfl ?_
  refine k_aload_n C.1 0 rfl dX12_init_68 ?_
  refine k_bipush (v := 64) C.1 dX12_init_69 (by decide) ?_
  obtain ⟨hc28, hw29, h⟩ := h
  refine k_newI (N := 64) C.1 w_arrI (by decide) (by decide) (by decide) dX12_init_71 hc28 hw29 ?_
  generalize eM30 : zM (wR (zM (wR M23 x0 9 (some (gx_b X + (n + 6)))) (gx_b X + (n + 7))) x0 10 (some (gx_b X + (n + 7)))) (gx_b X + (n + 8)) = M30
  replace h := h M30 eM30.symm
  obtain ⟨hs31, h⟩ := h
  refine k_putFR C.1 C.2.2.2.2.2 F_X12_34 rfl dX12_init_73 hs31 rfl rfl ?_
  refine k_aload_n C.1 0 rfl dX12_init_76 ?_
  refine k_bipush (v := 24) C.1 dX12_init_77 (by decide) ?_
  obtain ⟨hc32, hw33, h⟩ := h
  refine k_newI (N := 24) C.1 w_arrI (by decide) (by decide) (by decide) dX12_init_79 hc32 hw33 ?_
  obtain ⟨hs34, h⟩ := h
  refine k_putFR C.1 C.2.2.2.2.2 F_X12_37 rfl dX12_init_81 hs34 rfl rfl ?_
  refine k_aload_n C.1 0 rfl dX12_init_84 ?_
  refine k_bipush (v := 24) C.1 dX12_init_85 (by decide) ?_
  obtain ⟨hc35, hw36, h⟩ := h
  refine k_newI (N := 24) C.1 w_arrI (by decide) (by decide) (by decide) dX12_init_87 hc35 hw36 ?_
  generalize eM37 : zM (wR (zM (wR M30 x0 11 (some (gx_b X + (n + 8)))) (gx_b X + (n + 9))) x0 12 (some (gx_b X + (n + 9)))) (gx_b X + (n + 10)) = M37
  replace h := h M37 eM37.symm
  obtain ⟨hs38, h⟩ := h
  refine k_putFR C.1 C.2.2.2.2.2 F_X12_40 rfl dX12_init_89 hs38 rfl rfl ?_
  refine k_aload_n C.1 0 rfl dX12_init_92 ?_
  refine k_bipush (v := 24) C.1 dX12_init_93 (by decide) ?_
  obtain ⟨hc39, hw40, h⟩ := h
  refine k_newI (N := 24) C.1 w_arrI (by decide) (by decide) (by decide) dX12_init_95 hc39 hw40 ?_
  obtain ⟨hs41, h⟩ := h
  refine k_putFR C.1 C.2.2.2.2.2 F_X12_43 rfl dX12_init_97 hs41 rfl rfl ?_
  refine k_aload_n C.1 0 rfl dX12_init_100 ?_
  refine k_sipush (v := 240) C.1 dX12_init_101 (by decide) ?_
  obtain ⟨hc42, hw43, h⟩ := h
  refine k_newI (N := 240) C.1 w_arrI (by decide) (by decide) (by decide) dX12_init_104 hc42 hw43 ?_
  generalize eM44 : zM (wR (zM (wR M37 x0 13 (some (gx_b X + (n + 10)))) (gx_b X + (n + 11))) x0 14 (some (gx_b X + (n + 11)))) (gx_b X + (n + 12)) = M44
  replace h := h M44 eM44.symm
  obtain ⟨hs45, h⟩ := h
  refine k_putFR C.1 C.2.2.2.2.2 F_X12_46 rfl dX12_init_106 hs45 rfl rfl ?_
  refine k_aload_n C.1 0 rfl dX12_init_109 ?_
  refine k_iconst (v := 5) C.1 dX12_init_110 (by decide) ?_
  obtain ⟨hc46, hw47, h⟩ := h
  refine k_newI (N := 5) C.1 w_arrI (by decide) (by decide) (by decide) dX12_init_111 hc46 hw47 ?_
  obtain ⟨hs48, h⟩ := h
  refine k_putFR C.1 C.2.2.2.2.2 F_X12_49 rfl dX12_init_113 hs48 rfl rfl ?_
  refine k_aload_n C.1 0 rfl dX12_init_116 ?_
  refine k_iconst (v := 5) C.1 dX12_init_117 (by decide) ?_
  obtain ⟨hc49, hw50, h⟩ := h
  refine k_newI (N := 5) C.1 w_arrI (by decide) (by decide) (by decide) dX12_init_118 hc49 hw50 ?_
  generalize eM51 : zM (wR (zM (wR M44 x0 15 (some (gx_b X + (n + 12)))) (gx_b X + (n + 13))) x0 17 (some (gx_b X + (n + 13)))) (gx_b X + (n + 14)) = M51
  replace h := h M51 eM51.symm
  obtain ⟨hs52, h⟩ := h
  refine k_putFR C.1 C.2.2.2.2.2 F_X12_52 rfl dX12_init_120 hs52 rfl rfl ?_
  refine k_aload_n C.1 0 rfl dX12_init_123 ?_
  refine k_iconst (v := 5) C.1 dX12_init_124 (by decide) ?_
  obtain ⟨hc53, hw54, h⟩ := h
  refine k_newI (N := 5) C.1 w_arrI (by decide) (by decide) (by decide) dX12_init_125 hc53 hw54 ?_
  obtain ⟨hs55, h⟩ := h
  refine k_putFR C.1 C.2.2.2.2.2 F_X12_55 rfl dX12_init_127 hs55 rfl rfl ?_
  refine k_aload_n C.1 0 rfl dX12_init_130 ?_
  refine k_bipush (v := 10) C.1 dX12_init_131 (by decide) ?_
  obtain ⟨hc56, hw57, h⟩ := h
  refine k_newI (N := 10) C.1 w_arrI (by decide) (by decide) (by decide) dX12_init_133 hc56 hw57 ?_
  generalize eM58 : zM (wR (zM (wR M51 x0 18 (some (gx_b X + (n + 14)))) (gx_b X + (n + 15))) x0 19 (some (gx_b X + (n + 15)))) (gx_b X + (n + 16)) = M58
  replace h := h M58 eM58.symm
  obtain ⟨hs59, h⟩ := h
  refine k_putFR C.1 C.2.2.2.2.2 F_X12_58 rfl dX12_init_135 hs59 rfl rfl ?_
  refine k_aload_n C.1 0 rfl dX12_init_138 ?_
  refine k_bipush (v := 10) C.1 dX12_init_139 (by decide) ?_
  obtain ⟨hc60, hw61, h⟩ := h
  refine k_newI (N := 10) C.1 w_arrI (by decide) (by decide) (by decide) dX12_init_141 hc60 hw61 ?_
  obtain ⟨hs62, h⟩ := h
  refine k_putFR C.1 C.2.2.2.2.2 F_X12_61 rfl dX12_init_143 hs62 rfl rfl ?_
  refine k_aload_n C.1 0 rfl dX12_init_146 ?_
  refine k_bipush (v := 10) C.1 dX12_init_147 (by decide) ?_
  obtain ⟨hc63, hw64, h⟩ := h
  refine k_newI (N := 10) C.1 w_arrI (by decide) (by decide) (by decide) dX12_init_149 hc63 hw64 ?_
  generalize eM65 : zM (wR (zM (wR M58 x0 21 (some (gx_b X + (n + 16)))) (gx_b X + (n + 17))) x0 22 (some (gx_b X + (n + 17)))) (gx_b X + (n + 18)) = M65
  replace h := h M65 eM65.symm
  obtain ⟨hs66, h⟩ := h
  refine k_putFR C.1 C.2.2.2.2.2 F_X12_64 rfl dX12_init_151 hs66 rfl rfl ?_
  refine k_aload_n C.1 0 rfl dX12_init_154 ?_
  refine k_bipush (v := 6) C.1 dX12_init_155 (by decide) ?_
  refine k_putI C.1 F_X12_67 dX12_init_157 hs66 rfl rfl ?_
  refine k_aload_n C.1 0 rfl dX12_init_160 ?_
  refine k_sipush (v := 420) C.1 dX12_init_161 (by decide) ?_
  obtain ⟨hc67, hw68, h⟩ := h
  refine k_newI (N := 420) C.1 w_arrI (by decide) (by decide) (by decide) dX12_init_164 hc67 hw68 ?_
  generalize eM69 : zM (wI (wR M65 x0 23 (some (gx_b X + (n + 18)))) x0 24 (6 : Int32)) (gx_b X + (n + 19)) = M69
  replace h := h M69 eM69.symm
  obtain ⟨hs70, h⟩ := h
  refine k_putFR C.1 C.2.2.2.2.2 F_X12_71 rfl dX12_init_166 hs70 rfl rfl ?_
  refine k_aload_n C.1 0 rfl dX12_init_169 ?_
  refine k_iconst (v := 2) C.1 dX12_init_170 (by decide) ?_
  obtain ⟨hc71, hw72, h⟩ := h
  refine k_newI (N := 2) C.1 w_arrI (by decide) (by decide) (by decide) dX12_init_171 hc71 hw72 ?_
  obtain ⟨hs73, h⟩ := h
  refine k_putFR C.1 C.2.2.2.2.2 F_X12_74 rfl dX12_init_173 hs73 rfl rfl ?_
  refine k_aload_n C.1 0 rfl dX12_init_176 ?_
  refine k_bipush (v := 96) C.1 dX12_init_177 (by decide) ?_
  obtain ⟨hc74, hw75, h⟩ := h
  refine k_newI (N := 96) C.1 w_arrI (by decide) (by decide) (by decide) dX12_init_179 hc74 hw75 ?_
  generalize eM76 : zM (wR (zM (wR M69 x0 26 (some (gx_b X + (n + 19)))) (gx_b X + (n + 20))) x0 28 (some (gx_b X + (n + 20)))) (gx_b X + (n + 21)) = M76
  replace h := h M76 eM76.symm
  obtain ⟨hs77, h⟩ := h
  refine k_putFR C.1 C.2.2.2.2.2 F_X12_77 rfl dX12_init_181 hs77 rfl rfl ?_
  refine k_aload_n C.1 0 rfl dX12_init_184 ?_
  refine k_sipush (v := 312) C.1 dX12_init_185 (by decide) ?_
  obtain ⟨hc78, hw79, h⟩ := h
  refine k_newI (N := 312) C.1 w_arrI (by decide) (by decide) (by decide) dX12_init_188 hc78 hw79 ?_
  obtain ⟨hs80, h⟩ := h
  refine k_putFR C.1 C.2.2.2.2.2 F_X12_80 rfl dX12_init_190 hs80 rfl rfl ?_
  refine k_aload_n C.1 0 rfl dX12_init_193 ?_
  refine k_sipush (v := 420) C.1 dX12_init_194 (by decide) ?_
  obtain ⟨hc81, hw82, h⟩ := h
  refine k_newI (N := 420) C.1 w_arrI (by decide) (by decide) (by decide) dX12_init_197 hc81 hw82 ?_
  generalize eM83 : zM (wR (zM (wR M76 x0 29 (some (gx_b X + (n + 21)))) (gx_b X + (n + 22))) x0 30 (some (gx_b X + (n + 22)))) (gx_b X + (n + 23)) = M83
  replace h := h M83 eM83.symm
  obtain ⟨hs84, h⟩ := h
  refine k_putFR C.1 C.2.2.2.2.2 F_X12_83 rfl dX12_init_199 hs84 rfl rfl ?_
  refine k_aload_n C.1 0 rfl dX12_init_202 ?_
  refine k_bipush (v := 9) C.1 dX12_init_203 (by decide) ?_
  obtain ⟨hc85, hw86, h⟩ := h
  refine k_newI (N := 9) C.1 w_arrI (by decide) (by decide) (by decide) dX12_init_205 hc85 hw86 ?_
  obtain ⟨hs87, h⟩ := h
  refine k_putFR C.1 C.2.2.2.2.2 F_X12_86 rfl dX12_init_207 hs87 rfl rfl ?_
  refine k_aload_n C.1 0 rfl dX12_init_210 ?_
  refine k_bipush (v := 9) C.1 dX12_init_211 (by decide) ?_
  obtain ⟨hc88, hw89, h⟩ := h
  refine k_newI (N := 9) C.1 w_arrI (by decide) (by decide) (by decide) dX12_init_213 hc88 hw89 ?_
  generalize eM90 : zM (wR (zM (wR M83 x0 31 (some (gx_b X + (n + 23)))) (gx_b X + (n + 24))) x0 32 (some (gx_b X + (n + 24)))) (gx_b X + (n + 25)) = M90
  replace h := h M90 eM90.symm
  obtain ⟨hs91, h⟩ := h
  refine k_putFR C.1 C.2.2.2.2.2 F_X12_89 rfl dX12_init_215 hs91 rfl rfl ?_
  refine k_aload_n C.1 0 rfl dX12_init_218 ?_
  refine k_bipush (v := 64) C.1 dX12_init_219 (by decide) ?_
  obtain ⟨hc92, hw93, h⟩ := h
  refine k_newI (N := 64) C.1 w_arrI (by decide) (by decide) (by decide) dX12_init_221 hc92 hw93 ?_
  obtain ⟨hs94, h⟩ := h
  refine k_putFR C.1 C.2.2.2.2.2 F_X12_92 rfl dX12_init_223 hs94 rfl rfl ?_
  refine k_aload_n C.1 0 rfl dX12_init_226 ?_
  refine k_sipush (v := 2304) C.1 dX12_init_227 (by decide) ?_
  obtain ⟨hc95, hw96, h⟩ := h
  refine k_newI (N := 2304) C.1 w_arrI (by decide) (by decide) (by decide) dX12_init_230 hc95 hw96 ?_
  generalize eM97 : zM (wR (zM (wR M90 x0 33 (some (gx_b X + (n + 25)))) (gx_b X + (n + 26))) x0 34 (some (gx_b X + (n + 26)))) (gx_b X + (n + 27)) = M97
  replace h := h M97 eM97.symm
  obtain ⟨hs98, h⟩ := h
  refine k_putFR C.1 C.2.2.2.2.2 F_X12_95 rfl dX12_init_232 hs98 rfl rfl ?_
  refine k_aload_n C.1 0 rfl dX12_init_235 ?_
  refine k_bipush (v := 8) C.1 dX12_init_236 (by decide) ?_
  obtain ⟨hc99, hw100, h⟩ := h
  refine k_newI (N := 8) C.1 w_arrI (by decide) (by decide) (by decide) dX12_init_238 hc99 hw100 ?_
  obtain ⟨hs101, h⟩ := h
  refine k_putFR C.1 C.2.2.2.2.2 F_X12_98 rfl dX12_init_240 hs101 rfl rfl ?_
  refine k_aload_n C.1 0 rfl dX12_init_243 ?_
  refine k_bipush (v := 24) C.1 dX12_init_244 (by decide) ?_
  obtain ⟨hc102, hw103, h⟩ := h
  refine k_newI (N := 24) C.1 w_arrI (by decide) (by decide) (by decide) dX12_init_246 hc102 hw103 ?_
  generalize eM104 : zM (wR (zM (wR M97 x0 35 (some (gx_b X + (n + 27)))) (gx_b X + (n + 28))) x0 36 (some (gx_b X + (n + 28)))) (gx_b X + (n + 29)) = M104
  replace h := h M104 eM104.symm
  obtain ⟨hs105, h⟩ := h
  refine k_putFR C.1 C.2.2.2.2.2 F_X12_101 rfl dX12_init_248 hs105 rfl rfl ?_
  refine k_aload_n C.1 0 rfl dX12_init_251 ?_
  refine k_bipush (v := 24) C.1 dX12_init_252 (by decide) ?_
  obtain ⟨hc106, hw107, h⟩ := h
  refine k_newI (N := 24) C.1 w_arrI (by decide) (by decide) (by decide) dX12_init_254 hc106 hw107 ?_
  obtain ⟨hs108, h⟩ := h
  refine k_putFR C.1 C.2.2.2.2.2 F_X12_104 rfl dX12_init_256 hs108 rfl rfl ?_
  refine k_aload_n C.1 0 rfl dX12_init_259 ?_
  refine k_bipush (v := 24) C.1 dX12_init_260 (by decide) ?_
  obtain ⟨hc109, hw110, h⟩ := h
  refine k_newI (N := 24) C.1 w_arrI (by decide) (by decide) (by decide) dX12_init_262 hc109 hw110 ?_
  generalize eM111 : zM (wR (zM (wR M104 x0 37 (some (gx_b X + (n + 29)))) (gx_b X + (n + 30))) x0 38 (some (gx_b X + (n + 30)))) (gx_b X + (n + 31)) = M111
  replace h := h M111 eM111.symm
  obtain ⟨hs112, h⟩ := h
  refine k_putFR C.1 C.2.2.2.2.2 F_X12_107 rfl dX12_init_264 hs112 rfl rfl ?_
  refine k_aload_n C.1 0 rfl dX12_init_267 ?_
  refine k_sipush (v := 240) C.1 dX12_init_268 (by decide) ?_
  obtain ⟨hc113, hw114, h⟩ := h
  refine k_newI (N := 240) C.1 w_arrI (by decide) (by decide) (by decide) dX12_init_271 hc113 hw114 ?_
  obtain ⟨hs115, h⟩ := h
  refine k_putFR C.1 C.2.2.2.2.2 F_X12_110 rfl dX12_init_273 hs115 rfl rfl ?_
  refine k_aload_n C.1 0 rfl dX12_init_276 ?_
  refine k_bipush (v := 8) C.1 dX12_init_277 (by decide) ?_
  obtain ⟨hc116, hw117, h⟩ := h
  refine k_newI (N := 8) C.1 w_arrI (by decide) (by decide) (by decide) dX12_init_279 hc116 hw117 ?_
  generalize eM118 : zM (wR (zM (wR M111 x0 39 (some (gx_b X + (n + 31)))) (gx_b X + (n + 32))) x0 40 (some (gx_b X + (n + 32)))) (gx_b X + (n + 33)) = M118
  replace h := h M118 eM118.symm
  obtain ⟨hs119, h⟩ := h
  refine k_putFR C.1 C.2.2.2.2.2 F_X12_113 rfl dX12_init_281 hs119 rfl rfl ?_
  refine k_aload_n C.1 0 rfl dX12_init_284 ?_
  refine k_bipush (v := 8) C.1 dX12_init_285 (by decide) ?_
  obtain ⟨hc120, hw121, h⟩ := h
  refine k_newI (N := 8) C.1 w_arrI (by decide) (by decide) (by decide) dX12_init_287 hc120 hw121 ?_
  obtain ⟨hs122, h⟩ := h
  refine k_putFR C.1 C.2.2.2.2.2 F_X12_116 rfl dX12_init_289 hs122 rfl rfl ?_
  refine k_aload_n C.1 0 rfl dX12_init_292 ?_
  refine k_bipush (v := 8) C.1 dX12_init_293 (by decide) ?_
  obtain ⟨hc123, hw124, h⟩ := h
  refine k_newI (N := 8) C.1 w_arrI (by decide) (by decide) (by decide) dX12_init_295 hc123 hw124 ?_
  generalize eM125 : zM (wR (zM (wR M118 x0 43 (some (gx_b X + (n + 33)))) (gx_b X + (n + 34))) x0 44 (some (gx_b X + (n + 34)))) (gx_b X + (n + 35)) = M125
  replace h := h M125 eM125.symm
  obtain ⟨hs126, h⟩ := h
  refine k_putFR C.1 C.2.2.2.2.2 F_X12_119 rfl dX12_init_297 hs126 rfl rfl ?_
  refine k_aload_n C.1 0 rfl dX12_init_300 ?_
  refine k_iconst (v := 5) C.1 dX12_init_301 (by decide) ?_
  obtain ⟨hc127, hw128, h⟩ := h
  refine k_newI (N := 5) C.1 w_arrI (by decide) (by decide) (by decide) dX12_init_302 hc127 hw128 ?_
  obtain ⟨hs129, h⟩ := h
  refine k_putFR C.1 C.2.2.2.2.2 F_X12_122 rfl dX12_init_304 hs129 rfl rfl ?_
  refine k_aload_n C.1 0 rfl dX12_init_307 ?_
  refine k_bipush (v := 8) C.1 dX12_init_308 (by decide) ?_
  obtain ⟨hc130, hw131, h⟩ := h
  refine k_newI (N := 8) C.1 w_arrI (by decide) (by decide) (by decide) dX12_init_310 hc130 hw131 ?_
  generalize eM132 : zM (wR (zM (wR M125 x0 45 (some (gx_b X + (n + 35)))) (gx_b X + (n + 36))) x0 46 (some (gx_b X + (n + 36)))) (gx_b X + (n + 37)) = M132
  replace h := h M132 eM132.symm
  obtain ⟨hs133, h⟩ := h
  refine k_putFR C.1 C.2.2.2.2.2 F_X12_125 rfl dX12_init_312 hs133 rfl rfl ?_
  exact k_cret C dX12_init_315 h.1 h.2.1 h.2.2.1 h.2.2.2
