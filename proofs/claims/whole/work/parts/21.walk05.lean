abbrev rm_X11_effort : Room := { frames := 5, cells := 0, slots := 0, locals := 124 }
set_option maxRecDepth 100000 in
set_option maxHeartbeats 4000000 in
theorem b_X11_effort_20 {X : gh_X} {sh : gh_Sh} {n : Nat} {post : Int32 → gh_M → Prop} (C : gh_CR X cX11_effort RX11 4 (some .int) sh n 0 0 (gh_pi post)) (M : gh_M) (h : wp_X11_effort_20 sh post M) : gh_G X rm_X11_effort 4 0 0 sh n 20 [] [] M := by
  unfold wp_X11_effort_20 at h
  refine k_iconst (v := (-1)) C.1 dX11_effort_20 (by decide) ?_
  refine k_goto C.1 30 dX11_effort_21 (by decide) ?_
  exact k_iret C dX11_effort_30 h
set_option maxRecDepth 100000 in
set_option maxHeartbeats 4000000 in
theorem c_X11_effort {l : Launch} {D : va_G} {dA : Nat → ClassId} {sh : gh_Sh} {b0 n : Nat} {M : gh_M} {x0 : Nat} {x1 : Int32} {x2 : Int32} {post : Int32 → gh_M → Prop} (h : wp_X11_effort sh M x0 x1 x2 post) : gh_Met l D dA sh b0 n yX11_effort cX11_effort 4 (some .int) rm_X11_effort M [.ref x0, .int x1, .int x2] (gh_pi post) := by
  refine gh_open (by decide) (Nat.le_of_ble_eq_true rfl) (fun X C => ?_)
  show gh_G X rm_X11_effort 4 0 0 sh n 0 [(0, .ref x0), (1, .int x1), (2, .int x2)] [] M
  unfold wp_X11_effort at h
  refine k_aload_n C.1 0 rfl dX11_effort_0 ?_
  obtain ⟨hs1, h⟩ := h
  obtain ⟨q2, hq2, h⟩ := h
  refine k_getR C.1 F_X11_68 dX11_effort_1 hs1 hq2 ?_
  refine k_iload_n C.1 1 rfl dX11_effort_4 ?_
  obtain ⟨hs3, h⟩ := h
  refine k_callV (As := [.int x1]) (rest := []) C.1 V_X11_121 (c_X0_at h) ⟨rfl, rfl, Nat.le_of_ble_eq_true rfl, Nat.le_of_ble_eq_true rfl⟩ hs3  rfl rfl (Nat.le_of_ble_eq_true rfl) ⟨Nat.zero_le _, Nat.zero_le _⟩ dX11_effort_5 (kp_q fun r5 M4 h9 => ?_)
  replace h := h9
  refine k_astore_nq (lv' := [(3, va_rf r5), (0, .ref x0), (1, .int x1), (2, .int x2)]) C.1 dX11_effort_8 (by decide) rfl ?_
  refine k_aload_nq C.1 0 rfl dX11_effort_9 ?_
  refine k_ifnull C.1 20 dX11_effort_10 (by decide) (fun e => ?_) (fun a6 e => ?_)
  · replace h := h.1 e
    subst e
    refine k_sub (lv' := []) [] rfl ?_
    exact b_X11_effort_20 C M4 h
  · replace h := h.2 a6 e
    subst e
    refine k_iload_n C.1 3 rfl dX11_effort_13 ?_
    refine k_callS (As := [.int x2]) (rest := []) C.1 V_X11_174 (c_X11_isTongue h) ⟨rfl, rfl, Nat.le_of_ble_eq_true rfl, Nat.le_of_ble_eq_true rfl⟩  rfl rfl (Nat.le_of_ble_eq_true rfl) ⟨Nat.zero_le _, Nat.zero_le _⟩ dX11_effort_14 (kp_i fun r8 M7 h9 => ?_)
    replace h := h9
    refine k_if_ne C.1 24 dX11_effort_17 (by decide) (fun c9 => ?_) (fun c9 => ?_)
    · have h := h.2 c9
      refine k_aload_n C.1 1 rfl dX11_effort_24 ?_
      refine k_aload_n C.1 0 rfl dX11_effort_25 ?_
      refine k_iload_n C.1 3 rfl dX11_effort_26 ?_
      refine k_callV (As := [.ref a6, .int x2]) (rest := []) C.1 V_X11_251 (c_X11_effortFor h) ⟨rfl, rfl, Nat.le_of_ble_eq_true rfl, Nat.le_of_ble_eq_true rfl⟩ hs1  rfl rfl (Nat.le_of_ble_eq_true rfl) ⟨Nat.zero_le _, Nat.zero_le _⟩ dX11_effort_27 (kp_i fun r11 M10 h9 => ?_)
      replace h := h9
      exact k_iret C dX11_effort_30 h
    · have h := h.1 c9
      refine k_sub (lv' := []) [] rfl ?_
      exact b_X11_effort_20 C M7 h
abbrev rm_X11_makePlan : Room := { frames := 5, cells := 0, slots := 0, locals := 124 }
set_option maxRecDepth 100000 in
set_option maxHeartbeats 4000000 in
theorem b_X11_makePlan_36 {X : gh_X} {sh : gh_Sh} {n : Nat} {post : gh_M → Prop} (C : gh_CR X cX11_makePlan RX11 4 none sh n 0 0 (gh_pv post)) (x0 : Nat) (x1 : Int32) (x2 : Int32) (s0 : Nat) (s1 : Int32) (s2 : Int32) (M : gh_M) (k2 : Int32 → gh_M → Prop) (hk2 : ∀ (y2 : Int32) (M : gh_M), k2 y2 M → gh_G X rm_X11_makePlan 4 0 0 sh n 2 [(0, .ref x0), (1, .int x1), (2, .int y2)] [] M) (h : wp_X11_makePlan_36 sh post k2 x0 x1 x2 s0 s1 s2 M) : gh_G X rm_X11_makePlan 4 0 0 sh n 36 [(0, .ref x0), (1, .int x1), (2, .int x2)] [.int s2, .int s1, .ref s0] M := by
  unfold wp_X11_makePlan_36 at h
  obtain ⟨hs1, h⟩ := h
  refine k_callV (As := [.int s1, .int s2]) (rest := []) C.1 V_X11_313 (c_X6_setEffort h) ⟨rfl, rfl, Nat.le_of_ble_eq_true rfl, Nat.le_of_ble_eq_true rfl⟩ hs1  rfl rfl (Nat.le_of_ble_eq_true rfl) ⟨Nat.zero_le _, Nat.zero_le _⟩ dX11_makePlan_36 (kp_v fun M2 h9 => ?_)
  replace h := h9
  refine k_iinc (v := x2 + 1) (lv' := [(2, .int (x2 + 1)), (0, .ref x0), (1, .int x1)]) C.1 2 rfl dX11_makePlan_39 (by decide) rfl rfl ?_
  refine k_goto C.1 2 dX11_makePlan_42 (by decide) ?_
  refine k_sub (lv' := [(0, .ref x0), (1, .int x1), (2, .int (x2 + 1))]) [1, 2, 0] rfl ?_
  exact hk2 (x2 + 1) M2 h
set_option maxRecDepth 100000 in
set_option maxHeartbeats 4000000 in
theorem bb_X11_makePlan_2 {X : gh_X} {sh : gh_Sh} {n : Nat} {post : gh_M → Prop} (C : gh_CR X cX11_makePlan RX11 4 none sh n 0 0 (gh_pv post)) (x0 : Nat) (x1 : Int32) (k2 : Int32 → gh_M → Prop) (hk2 : ∀ (y2 : Int32) (M : gh_M), k2 y2 M → gh_G X rm_X11_makePlan 4 0 0 sh n 2 [(0, .ref x0), (1, .int x1), (2, .int y2)] [] M) (x2 : Int32) (M : gh_M) (h : wb_X11_makePlan_2 sh post x0 x1 k2 x2 M) : gh_G X rm_X11_makePlan 4 0 0 sh n 2 [(0, .ref x0), (1, .int x1), (2, .int x2)] [] M := by
  unfold wb_X11_makePlan_2 at h
  refine k_iload_n C.1 2 rfl dX11_makePlan_2 ?_
  refine k_bipush (v := 8) C.1 dX11_makePlan_3 (by decide) ?_
  refine k_icmp_ge C.1 45 dX11_makePlan_5 (by decide) (fun c1 => ?_) (fun c1 => ?_)
  · have h := h.1 c1
    refine k_aload_n C.1 0 rfl dX11_makePlan_45 ?_
    obtain ⟨hs2, h⟩ := h
    obtain ⟨q3, hq3, h⟩ := h
    refine k_getR C.1 F_X11_33 dX11_makePlan_46 hs2 hq3 ?_
    refine k_aload_n C.1 0 rfl dX11_makePlan_49 ?_
    obtain ⟨q4, hq4, h⟩ := h
    refine k_getR C.1 F_X11_40 dX11_makePlan_50 hs2 hq4 ?_
    refine k_iload_n C.1 1 rfl dX11_makePlan_53 ?_
    obtain ⟨hs5, h⟩ := h
    refine k_callV (As := [.ref q4, .int x1]) (rest := []) C.1 V_X11_316 (c_X6_solve h) ⟨rfl, rfl, Nat.le_of_ble_eq_true rfl, Nat.le_of_ble_eq_true rfl⟩ hs5  rfl rfl (Nat.le_of_ble_eq_true rfl) ⟨Nat.zero_le _, Nat.zero_le _⟩ dX11_makePlan_54 (kp_v fun M6 h9 => ?_)
    replace h := h9
    exact k_vret C dX11_makePlan_57 h
  · have h := h.2 c1
    refine k_aload_n C.1 0 rfl dX11_makePlan_8 ?_
    obtain ⟨hs7, h⟩ := h
    obtain ⟨q8, hq8, h⟩ := h
    refine k_getR C.1 F_X11_68 dX11_makePlan_9 hs7 hq8 ?_
    refine k_iload_n C.1 2 rfl dX11_makePlan_12 ?_
    obtain ⟨hs9, h⟩ := h
    refine k_callV (As := [.int x2]) (rest := []) C.1 V_X11_121 (c_X0_at h) ⟨rfl, rfl, Nat.le_of_ble_eq_true rfl, Nat.le_of_ble_eq_true rfl⟩ hs9  rfl rfl (Nat.le_of_ble_eq_true rfl) ⟨Nat.zero_le _, Nat.zero_le _⟩ dX11_makePlan_13 (kp_q fun r11 M10 h9 => ?_)
    replace h := h9
    refine k_astore_nq (lv' := [(3, va_rf r11), (0, .ref x0), (1, .int x1), (2, .int x2)]) C.1 dX11_makePlan_16 (by decide) rfl ?_
    refine k_aload_n C.1 1 rfl dX11_makePlan_17 ?_
    obtain ⟨q12, hq12, h⟩ := h
    refine k_getR C.1 F_X11_33 dX11_makePlan_18 hs7 hq12 ?_
    refine k_iload_n C.1 3 rfl dX11_makePlan_21 ?_
    refine k_aload_nq C.1 0 rfl dX11_makePlan_22 ?_
    refine k_ifnonnull C.1 30 dX11_makePlan_23 (by decide) (fun a13 e => ?_) (fun e => ?_)
    · replace h := h.2 a13 e
      subst e
      refine k_aload_n C.1 1 rfl dX11_makePlan_30 ?_
      refine k_aload_n C.1 0 rfl dX11_makePlan_31 ?_
      refine k_iload_n C.1 2 rfl dX11_makePlan_32 ?_
      refine k_callV (As := [.ref a13, .int x1]) (rest := [.int x2, .ref q12]) C.1 V_X11_251 (c_X11_effortFor h) ⟨rfl, rfl, Nat.le_of_ble_eq_true rfl, Nat.le_of_ble_eq_true rfl⟩ hs7  rfl rfl (Nat.le_of_ble_eq_true rfl) ⟨Nat.zero_le _, Nat.zero_le _⟩ dX11_makePlan_33 (kp_i fun r15 M14 h9 => ?_)
      replace h := h9
      refine k_sub (lv' := [(0, .ref x0), (1, .int x1), (2, .int x2)]) [1, 2, 3] rfl ?_
      exact b_X11_makePlan_36 C x0 x1 x2 q12 x2 r15 M14 k2 hk2 h
    · replace h := h.1 e
      subst e
      refine k_iconst (v := 0) C.1 dX11_makePlan_26 (by decide) ?_
      refine k_goto C.1 36 dX11_makePlan_27 (by decide) ?_
      refine k_sub (lv' := [(0, .ref x0), (1, .int x1), (2, .int x2)]) [1, 2, 3] rfl ?_
      exact b_X11_makePlan_36 C x0 x1 x2 q12 x2 (0 : Int32) M10 k2 hk2 h
set_option maxRecDepth 100000 in
theorem b_X11_makePlan_2 {X : gh_X} {sh : gh_Sh} {n : Nat} {post : gh_M → Prop} (C : gh_CR X cX11_makePlan RX11 4 none sh n 0 0 (gh_pv post)) (x0 : Nat) (x1 : Int32) (x2 : Int32) (M : gh_M) (h : wp_X11_makePlan_2 sh post x0 x1 x2 M) : gh_G X rm_X11_makePlan 4 0 0 sh n 2 [(0, .ref x0), (1, .int x1), (2, .int x2)] [] M := by
  unfold wp_X11_makePlan_2 at h
  exact gh_loop_use h (fun v => gh_G X rm_X11_makePlan 4 0 0 sh n 2 [(0, .ref x0), (1, .int x1), (2, .int v.1)] [] v.2) (fun k v hk hb => bb_X11_makePlan_2 C x0 x1 (fun x2 M => k (x2, M)) (fun x2 M h => hk (x2, M) h) v.1 v.2 hb)
set_option maxRecDepth 100000 in
set_option maxHeartbeats 4000000 in
theorem c_X11_makePlan {l : Launch} {D : va_G} {dA : Nat → ClassId} {sh : gh_Sh} {b0 n : Nat} {M : gh_M} {x0 : Nat} {x1 : Int32} {post : gh_M → Prop} (h : wp_X11_makePlan sh M x0 x1 post) : gh_Met l D dA sh b0 n yX11_makePlan cX11_makePlan 4 none rm_X11_makePlan M [.ref x0, .int x1] (gh_pv post) := by
  refine gh_open (by decide) (Nat.le_of_ble_eq_true rfl) (fun X C => ?_)
  show gh_G X rm_X11_makePlan 4 0 0 sh n 0 [(0, .ref x0), (1, .int x1)] [] M
  unfold wp_X11_makePlan at h
  refine k_iconst (v := 0) C.1 dX11_makePlan_0 (by decide) ?_
  refine k_istore_n (lv' := [(2, .int (0 : Int32)), (0, .ref x0), (1, .int x1)]) C.1 dX11_makePlan_1 (by decide) rfl ?_
  refine k_sub (lv' := [(0, .ref x0), (1, .int x1), (2, .int (0 : Int32))]) [1, 2, 0] rfl ?_
  exact b_X11_makePlan_2 C x0 x1 (0 : Int32) M h
abbrev rm_X11_plan : Room := { frames := 6, cells := 0, slots := 0, locals := 147 }
set_option maxRecDepth 100000 in
set_option maxHeartbeats 4000000 in
theorem c_X11_plan {l : Launch} {D : va_G} {dA : Nat → ClassId} {sh : gh_Sh} {b0 n : Nat} {M : gh_M} {x0 : Nat} {x1 : Int32} {x2 : Int32} {post : Int32 → gh_M → Prop} (h : wp_X11_plan sh M x0 x1 x2 post) : gh_Met l D dA sh b0 n yX11_plan cX11_plan 3 (some .int) rm_X11_plan M [.ref x0, .int x1, .int x2] (gh_pi post) := by
  refine gh_open (by decide) (Nat.le_of_ble_eq_true rfl) (fun X C => ?_)
  show gh_G X rm_X11_plan 3 0 0 sh n 0 [(0, .ref x0), (1, .int x1), (2, .int x2)] [] M
  unfold wp_X11_plan at h
  refine k_iload_n C.1 1 rfl dX11_plan_0 ?_
  refine k_callS (As := [.int x1]) (rest := []) C.1 V_X11_174 (c_X11_isTongue h) ⟨rfl, rfl, Nat.le_of_ble_eq_true rfl, Nat.le_of_ble_eq_true rfl⟩  rfl rfl (Nat.le_of_ble_eq_true rfl) ⟨Nat.zero_le _, Nat.zero_le _⟩ dX11_plan_1 (kp_i fun r2 M1 h9 => ?_)
  replace h := h9
  refine k_if_eq C.1 18 dX11_plan_4 (by decide) (fun c3 => ?_) (fun c3 => ?_)
  · have h := h.1 c3
    refine k_iconst (v := (-1)) C.1 dX11_plan_18 (by decide) ?_
    exact k_iret C dX11_plan_19 h
  · have h := h.2 c3
    refine k_aload_n C.1 0 rfl dX11_plan_7 ?_
    obtain ⟨hs4, h⟩ := h
    obtain ⟨q5, hq5, h⟩ := h
    refine k_getR C.1 F_X11_68 dX11_plan_8 hs4 hq5 ?_
    refine k_iload_n C.1 2 rfl dX11_plan_11 ?_
    obtain ⟨hs6, h⟩ := h
    refine k_callV (As := [.int x2]) (rest := []) C.1 V_X11_121 (c_X0_at h) ⟨rfl, rfl, Nat.le_of_ble_eq_true rfl, Nat.le_of_ble_eq_true rfl⟩ hs6  rfl rfl (Nat.le_of_ble_eq_true rfl) ⟨Nat.zero_le _, Nat.zero_le _⟩ dX11_plan_12 (kp_q fun r8 M7 h9 => ?_)
    replace h := h9
    refine k_ifnonnull C.1 20 dX11_plan_15 (by decide) (fun a9 e => ?_) (fun e => ?_)
    · replace h := h.2 a9 e
      subst e
      refine k_aload_n C.1 0 rfl dX11_plan_20 ?_
      refine k_iload_n C.1 1 rfl dX11_plan_21 ?_
      refine k_callV (As := [.int x1]) (rest := []) C.1 V_X11_255 (c_X11_makePlan h) ⟨rfl, rfl, Nat.le_of_ble_eq_true rfl, Nat.le_of_ble_eq_true rfl⟩ hs4  rfl rfl (Nat.le_of_ble_eq_true rfl) ⟨Nat.zero_le _, Nat.zero_le _⟩ dX11_plan_22 (kp_v fun M10 h9 => ?_)
      replace h := h9
      refine k_aload_n C.1 0 rfl dX11_plan_25 ?_
      obtain ⟨q11, hq11, h⟩ := h
      refine k_getR C.1 F_X11_33 dX11_plan_26 hs4 hq11 ?_
      refine k_iload_n C.1 2 rfl dX11_plan_29 ?_
      obtain ⟨hs12, h⟩ := h
      refine k_callV (As := [.int x2]) (rest := []) C.1 V_X11_258 (c_X6_handOf h) ⟨rfl, rfl, Nat.le_of_ble_eq_true rfl, Nat.le_of_ble_eq_true rfl⟩ hs12  rfl rfl (Nat.le_of_ble_eq_true rfl) ⟨Nat.zero_le _, Nat.zero_le _⟩ dX11_plan_30 (kp_i fun r14 M13 h9 => ?_)
      replace h := h9
      exact k_iret C dX11_plan_33 h
    · replace h := h.1 e
      subst e
      refine k_iconst (v := (-1)) C.1 dX11_plan_18 (by decide) ?_
      exact k_iret C dX11_plan_19 h
abbrev rm_X11_planned : Room := { frames := 6, cells := 0, slots := 0, locals := 147 }
set_option maxRecDepth 100000 in
set_option maxHeartbeats 4000000 in
theorem c_X11_planned {l : Launch} {D : va_G} {dA : Nat → ClassId} {sh : gh_Sh} {b0 n : Nat} {M : gh_M} {x0 : Nat} {x1 : Int32} {x2 : Int32} {post : Int32 → gh_M → Prop} (h : wp_X11_planned sh M x0 x1 x2 post) : gh_Met l D dA sh b0 n yX11_planned cX11_planned 3 (some .int) rm_X11_planned M [.ref x0, .int x1, .int x2] (gh_pi post) := by
  refine gh_open (by decide) (Nat.le_of_ble_eq_true rfl) (fun X C => ?_)
  show gh_G X rm_X11_planned 3 0 0 sh n 0 [(0, .ref x0), (1, .int x1), (2, .int x2)] [] M
  unfold wp_X11_planned at h
  refine k_iload_n C.1 1 rfl dX11_planned_0 ?_
  refine k_callS (As := [.int x1]) (rest := []) C.1 V_X11_174 (c_X11_isTongue h) ⟨rfl, rfl, Nat.le_of_ble_eq_true rfl, Nat.le_of_ble_eq_true rfl⟩  rfl rfl (Nat.le_of_ble_eq_true rfl) ⟨Nat.zero_le _, Nat.zero_le _⟩ dX11_planned_1 (kp_i fun r2 M1 h9 => ?_)
  replace h := h9
  refine k_if_eq C.1 16 dX11_planned_4 (by decide) (fun c3 => ?_) (fun c3 => ?_)
  · have h := h.1 c3
    refine k_iconst (v := (-1)) C.1 dX11_planned_16 (by decide) ?_
    exact k_iret C dX11_planned_17 h
  · have h := h.2 c3
    refine k_iload_n C.1 2 rfl dX11_planned_7 ?_
    refine k_iconst (v := 0) C.1 dX11_planned_8 (by decide) ?_
    refine k_iconst (v := 2) C.1 dX11_planned_9 (by decide) ?_
    refine k_callS (As := [.int x2, .int (0 : Int32), .int (2 : Int32)]) (rest := []) C.1 V_X11_101 (c_X11_isIn h) ⟨rfl, rfl, Nat.le_of_ble_eq_true rfl, Nat.le_of_ble_eq_true rfl⟩  rfl rfl (Nat.le_of_ble_eq_true rfl) ⟨Nat.zero_le _, Nat.zero_le _⟩ dX11_planned_10 (kp_i fun r5 M4 h9 => ?_)
    replace h := h9
    refine k_if_ne C.1 18 dX11_planned_13 (by decide) (fun c6 => ?_) (fun c6 => ?_)
    · have h := h.2 c6
      refine k_aload_n C.1 0 rfl dX11_planned_18 ?_
      refine k_iload_n C.1 1 rfl dX11_planned_19 ?_
      obtain ⟨hs7, h⟩ := h
      refine k_callV (As := [.int x1]) (rest := []) C.1 V_X11_255 (c_X11_makePlan h) ⟨rfl, rfl, Nat.le_of_ble_eq_true rfl, Nat.le_of_ble_eq_true rfl⟩ hs7  rfl rfl (Nat.le_of_ble_eq_true rfl) ⟨Nat.zero_le _, Nat.zero_le _⟩ dX11_planned_20 (kp_v fun M8 h9 => ?_)
      replace h := h9
      refine k_iload_n C.1 2 rfl dX11_planned_23 ?_
      refine k_if_ne C.1 35 dX11_planned_24 (by decide) (fun c9 => ?_) (fun c9 => ?_)
      · have h := h.2 c9
        refine k_iload_n C.1 2 rfl dX11_planned_35 ?_
        refine k_iconst (v := 1) C.1 dX11_planned_36 (by decide) ?_
        refine k_icmp_ne C.1 50 dX11_planned_37 (by decide) (fun c10 => ?_) (fun c10 => ?_)
        · have h := h.2 c10
          refine k_aload_n C.1 0 rfl dX11_planned_50 ?_
          obtain ⟨q11, hq11, h⟩ := h
          refine k_getR C.1 F_X11_33 dX11_planned_51 hs7 hq11 ?_
          obtain ⟨hs12, h⟩ := h
          refine k_callV (As := []) (rest := []) C.1 V_X11_267 (c_X6_needing h) ⟨rfl, rfl, Nat.le_of_ble_eq_true rfl, Nat.le_of_ble_eq_true rfl⟩ hs12  rfl rfl (Nat.le_of_ble_eq_true rfl) ⟨Nat.zero_le _, Nat.zero_le _⟩ dX11_planned_54 (kp_i fun r14 M13 h9 => ?_)
          replace h := h9
          exact k_iret C dX11_planned_57 h
        · have h := h.1 c10
          refine k_aload_n C.1 0 rfl dX11_planned_40 ?_
          obtain ⟨q15, hq15, h⟩ := h
          refine k_getR C.1 F_X11_33 dX11_planned_41 hs7 hq15 ?_
          obtain ⟨hs16, h⟩ := h
          refine k_callV (As := []) (rest := []) C.1 V_X11_264 (c_X6_cost h) ⟨rfl, rfl, Nat.le_of_ble_eq_true rfl, Nat.le_of_ble_eq_true rfl⟩ hs16  rfl rfl (Nat.le_of_ble_eq_true rfl) ⟨Nat.zero_le _, Nat.zero_le _⟩ dX11_planned_44 (kp_i fun r18 M17 h9 => ?_)
          replace h := h9
          refine k_goto C.1 57 dX11_planned_47 (by decide) ?_
          exact k_iret C dX11_planned_57 h
      · have h := h.1 c9
        refine k_aload_n C.1 0 rfl dX11_planned_27 ?_
        obtain ⟨q19, hq19, h⟩ := h
        refine k_getR C.1 F_X11_33 dX11_planned_28 hs7 hq19 ?_
        obtain ⟨hs20, h⟩ := h
        refine k_callV (As := []) (rest := []) C.1 V_X11_261 (c_X6_withHand h) ⟨rfl, rfl, Nat.le_of_ble_eq_true rfl, Nat.le_of_ble_eq_true rfl⟩ hs20  rfl rfl (Nat.le_of_ble_eq_true rfl) ⟨Nat.zero_le _, Nat.zero_le _⟩ dX11_planned_31 (kp_i fun r22 M21 h9 => ?_)
        replace h := h9
        exact k_iret C dX11_planned_34 h
    · have h := h.1 c6
      refine k_iconst (v := (-1)) C.1 dX11_planned_16 (by decide) ?_
      exact k_iret C dX11_planned_17 h
abbrev rm_X11_release : Room := { frames := 5, cells := 0, slots := 0, locals := 109 }
set_option maxRecDepth 100000 in
set_option maxHeartbeats 4000000 in
theorem c_X11_release {l : Launch} {D : va_G} {dA : Nat → ClassId} {sh : gh_Sh} {b0 n : Nat} {M : gh_M} {x0 : Nat} {x1 : Int32} {x2 : Int32} {post : Int32 → gh_M → Prop} (h : wp_X11_release sh M x0 x1 x2 post) : gh_Met l D dA sh b0 n yX11_release cX11_release 3 (some .int) rm_X11_release M [.ref x0, .int x1, .int x2] (gh_pi post) := by
  refine gh_open (by decide) (Nat.le_of_ble_eq_true rfl) (fun X C => ?_)
  show gh_G X rm_X11_release 3 0 0 sh n 0 [(0, .ref x0), (1, .int x1), (2, .int x2)] [] M
  unfold wp_X11_release at h
  refine k_iload_n C.1 1 rfl dX11_release_0 ?_
  refine k_callS (As := [.int x1]) (rest := []) C.1 V_X11_174 (c_X11_isTongue h) ⟨rfl, rfl, Nat.le_of_ble_eq_true rfl, Nat.le_of_ble_eq_true rfl⟩  rfl rfl (Nat.le_of_ble_eq_true rfl) ⟨Nat.zero_le _, Nat.zero_le _⟩ dX11_release_1 (kp_i fun r2 M1 h9 => ?_)
  replace h := h9
  refine k_if_eq C.1 19 dX11_release_4 (by decide) (fun c3 => ?_) (fun c3 => ?_)
  · have h := h.1 c3
    refine k_iconst (v := (-1)) C.1 dX11_release_19 (by decide) ?_
    exact k_iret C dX11_release_20 h
  · have h := h.2 c3
    refine k_aload_n C.1 0 rfl dX11_release_7 ?_
    obtain ⟨hs4, h⟩ := h
    obtain ⟨q5, hq5, h⟩ := h
    refine k_getR C.1 F_X11_68 dX11_release_8 hs4 hq5 ?_
    refine k_iload_n C.1 1 rfl dX11_release_11 ?_
    refine k_iload_n C.1 2 rfl dX11_release_12 ?_
    obtain ⟨hs6, h⟩ := h
    refine k_callV (As := [.int x1, .int x2]) (rest := []) C.1 V_X11_270 (c_X0_releasedSign h) ⟨rfl, rfl, Nat.le_of_ble_eq_true rfl, Nat.le_of_ble_eq_true rfl⟩ hs6  rfl rfl (Nat.le_of_ble_eq_true rfl) ⟨Nat.zero_le _, Nat.zero_le _⟩ dX11_release_13 (kp_i fun r8 M7 h9 => ?_)
    replace h := h9
    refine k_goto C.1 20 dX11_release_16 (by decide) ?_
    exact k_iret C dX11_release_20 h
abbrev rm_X11_many : Room := { frames := 5, cells := 0, slots := 0, locals := 107 }
set_option maxRecDepth 100000 in
set_option maxHeartbeats 4000000 in
theorem c_X11_many {l : Launch} {D : va_G} {dA : Nat → ClassId} {sh : gh_Sh} {b0 n : Nat} {M : gh_M} {x0 : Nat} {x1 : Int32} {post : Int32 → gh_M → Prop} (h : wp_X11_many sh M x0 x1 post) : gh_Met l D dA sh b0 n yX11_many cX11_many 2 (some .int) rm_X11_many M [.ref x0, .int x1] (gh_pi post) := by
  refine gh_open (by decide) (Nat.le_of_ble_eq_true rfl) (fun X C => ?_)
  show gh_G X rm_X11_many 2 0 0 sh n 0 [(0, .ref x0), (1, .int x1)] [] M
  unfold wp_X11_many at h
  refine k_iload_n C.1 1 rfl dX11_many_0 ?_
  by_cases e1 : x1 = 0
  · have h := h.1 e1
    refine k_tableIn (off := 51) C.1 52 dX11_many_1 (by rw [e1]; decide) (by rw [e1]; decide) (by rw [e1]; rfl) (by decide) ?_
    refine k_aload_n C.1 0 rfl dX11_many_52 ?_
    obtain ⟨hs2, h⟩ := h
    obtain ⟨q3, hq3, h⟩ := h
    refine k_getR C.1 F_X11_68 dX11_many_53 hs2 hq3 ?_
    obtain ⟨hs4, h⟩ := h
    refine k_callV (As := []) (rest := []) C.1 V_X11_113 (c_X0_count h) ⟨rfl, rfl, Nat.le_of_ble_eq_true rfl, Nat.le_of_ble_eq_true rfl⟩ hs4  rfl rfl (Nat.le_of_ble_eq_true rfl) ⟨Nat.zero_le _, Nat.zero_le _⟩ dX11_many_56 (kp_i fun r6 M5 h9 => ?_)
    replace h := h9
    exact k_iret C dX11_many_59 h
  · have h := h.2
    by_cases e7 : x1 = 1
    · have h := h.1 e7
      refine k_tableIn (off := 59) C.1 60 dX11_many_1 (by rw [e7]; decide) (by rw [e7]; decide) (by rw [e7]; rfl) (by decide) ?_
      refine k_aload_n C.1 0 rfl dX11_many_60 ?_
      obtain ⟨hs8, h⟩ := h
      obtain ⟨q9, hq9, h⟩ := h
      refine k_getR C.1 F_X11_71 dX11_many_61 hs8 hq9 ?_
      obtain ⟨hs10, h⟩ := h
      refine k_callV (As := []) (rest := []) C.1 V_X11_113 (c_X0_count h) ⟨rfl, rfl, Nat.le_of_ble_eq_true rfl, Nat.le_of_ble_eq_true rfl⟩ hs10  rfl rfl (Nat.le_of_ble_eq_true rfl) ⟨Nat.zero_le _, Nat.zero_le _⟩ dX11_many_64 (kp_i fun r12 M11 h9 => ?_)
      replace h := h9
      exact k_iret C dX11_many_67 h
    · have h := h.2
      by_cases e13 : x1 = 2
      · have h := h.1 e13
        refine k_tableIn (off := 67) C.1 68 dX11_many_1 (by rw [e13]; decide) (by rw [e13]; decide) (by rw [e13]; rfl) (by decide) ?_
        refine k_aload_n C.1 0 rfl dX11_many_68 ?_
        obtain ⟨hs14, h⟩ := h
        obtain ⟨q15, hq15, h⟩ := h
        refine k_getR C.1 F_X11_12 dX11_many_69 hs14 hq15 ?_
        obtain ⟨hs16, h⟩ := h
        refine k_callV (As := []) (rest := []) C.1 V_X11_94 (c_X7_size h) ⟨rfl, rfl, Nat.le_of_ble_eq_true rfl, Nat.le_of_ble_eq_true rfl⟩ hs16  rfl rfl (Nat.le_of_ble_eq_true rfl) ⟨Nat.zero_le _, Nat.zero_le _⟩ dX11_many_72 (kp_i fun r18 M17 h9 => ?_)
        replace h := h9
        exact k_iret C dX11_many_75 h
      · have h := h.2
        by_cases e19 : x1 = 3
        · have h := h.1 e19
          refine k_tableIn (off := 75) C.1 76 dX11_many_1 (by rw [e19]; decide) (by rw [e19]; decide) (by rw [e19]; rfl) (by decide) ?_
          refine k_aload_n C.1 0 rfl dX11_many_76 ?_
          obtain ⟨hs20, h⟩ := h
          obtain ⟨q21, hq21, h⟩ := h
          refine k_getR C.1 F_X11_40 dX11_many_77 hs20 hq21 ?_
          obtain ⟨hs22, h⟩ := h
          refine k_callV (As := []) (rest := []) C.1 V_X11_160 (c_X2_count h) ⟨rfl, rfl, Nat.le_of_ble_eq_true rfl, Nat.le_of_ble_eq_true rfl⟩ hs22  rfl rfl (Nat.le_of_ble_eq_true rfl) ⟨Nat.zero_le _, Nat.zero_le _⟩ dX11_many_80 (kp_i fun r24 M23 h9 => ?_)
          replace h := h9
          exact k_iret C dX11_many_83 h
        · have h := h.2
          by_cases e25 : x1 = 4
          · have h := h.1 e25
            refine k_tableIn (off := 83) C.1 84 dX11_many_1 (by rw [e25]; decide) (by rw [e25]; decide) (by rw [e25]; rfl) (by decide) ?_
            refine k_aload_n C.1 0 rfl dX11_many_84 ?_
            obtain ⟨hs26, h⟩ := h
            obtain ⟨q27, hq27, h⟩ := h
            refine k_getR C.1 F_X11_47 dX11_many_85 hs26 hq27 ?_
            obtain ⟨hs28, h⟩ := h
            refine k_callV (As := []) (rest := []) C.1 V_X11_186 (c_X9_count h) ⟨rfl, rfl, Nat.le_of_ble_eq_true rfl, Nat.le_of_ble_eq_true rfl⟩ hs28  rfl rfl (Nat.le_of_ble_eq_true rfl) ⟨Nat.zero_le _, Nat.zero_le _⟩ dX11_many_88 (kp_i fun r30 M29 h9 => ?_)
            replace h := h9
            exact k_iret C dX11_many_91 h
          · have h := h.2
            by_cases e31 : x1 = 5
            · have h := h.1 e31
              refine k_tableIn (off := 91) C.1 92 dX11_many_1 (by rw [e31]; decide) (by rw [e31]; decide) (by rw [e31]; rfl) (by decide) ?_
              refine k_aload_n C.1 0 rfl dX11_many_92 ?_
              obtain ⟨hs32, h⟩ := h
              obtain ⟨q33, hq33, h⟩ := h
              refine k_getR C.1 F_X11_54 dX11_many_93 hs32 hq33 ?_
              obtain ⟨hs34, h⟩ := h
              refine k_callV (As := []) (rest := []) C.1 V_X11_225 (c_X4_count h) ⟨rfl, rfl, Nat.le_of_ble_eq_true rfl, Nat.le_of_ble_eq_true rfl⟩ hs34  rfl rfl (Nat.le_of_ble_eq_true rfl) ⟨Nat.zero_le _, Nat.zero_le _⟩ dX11_many_96 (kp_i fun r36 M35 h9 => ?_)
              replace h := h9
              exact k_iret C dX11_many_99 h
            · have h := h.2
              by_cases e37 : x1 = 6
              · have h := h.1 e37
                refine k_tableIn (off := 99) C.1 100 dX11_many_1 (by rw [e37]; decide) (by rw [e37]; decide) (by rw [e37]; rfl) (by decide) ?_
                refine k_aload_n C.1 0 rfl dX11_many_100 ?_
                obtain ⟨hs38, h⟩ := h
                obtain ⟨q39, hq39, h⟩ := h
                refine k_getR C.1 F_X11_68 dX11_many_101 hs38 hq39 ?_
                refine k_iconst (v := 1) C.1 dX11_many_104 (by decide) ?_
                obtain ⟨hs40, h⟩ := h
                refine k_callV (As := [.int (1 : Int32)]) (rest := []) C.1 V_X11_273 (c_X0_textsThatAre h) ⟨rfl, rfl, Nat.le_of_ble_eq_true rfl, Nat.le_of_ble_eq_true rfl⟩ hs40  rfl rfl (Nat.le_of_ble_eq_true rfl) ⟨Nat.zero_le _, Nat.zero_le _⟩ dX11_many_105 (kp_i fun r42 M41 h9 => ?_)
                replace h := h9
                exact k_iret C dX11_many_108 h
              · have h := h.2
                by_cases e43 : x1 = 7
                · have h := h.1 e43
                  refine k_tableIn (off := 108) C.1 109 dX11_many_1 (by rw [e43]; decide) (by rw [e43]; decide) (by rw [e43]; rfl) (by decide) ?_
                  refine k_aload_n C.1 0 rfl dX11_many_109 ?_
                  obtain ⟨hs44, h⟩ := h
                  obtain ⟨q45, hq45, h⟩ := h
                  refine k_getR C.1 F_X11_68 dX11_many_110 hs44 hq45 ?_
                  refine k_iconst (v := 2) C.1 dX11_many_113 (by decide) ?_
                  obtain ⟨hs46, h⟩ := h
                  refine k_callV (As := [.int (2 : Int32)]) (rest := []) C.1 V_X11_273 (c_X0_textsThatAre h) ⟨rfl, rfl, Nat.le_of_ble_eq_true rfl, Nat.le_of_ble_eq_true rfl⟩ hs46  rfl rfl (Nat.le_of_ble_eq_true rfl) ⟨Nat.zero_le _, Nat.zero_le _⟩ dX11_many_114 (kp_i fun r48 M47 h9 => ?_)
                  replace h := h9
                  exact k_iret C dX11_many_117 h
                · have h := h.2
                  by_cases e49 : x1 = 8
                  · have h := h.1 e49
                    refine k_tableIn (off := 117) C.1 118 dX11_many_1 (by rw [e49]; decide) (by rw [e49]; decide) (by rw [e49]; rfl) (by decide) ?_
                    refine k_aload_n C.1 0 rfl dX11_many_118 ?_
                    obtain ⟨hs50, h⟩ := h
                    obtain ⟨q51, hq51, h⟩ := h
                    refine k_getR C.1 F_X11_68 dX11_many_119 hs50 hq51 ?_
                    refine k_iconst (v := 3) C.1 dX11_many_122 (by decide) ?_
                    obtain ⟨hs52, h⟩ := h
                    refine k_callV (As := [.int (3 : Int32)]) (rest := []) C.1 V_X11_273 (c_X0_textsThatAre h) ⟨rfl, rfl, Nat.le_of_ble_eq_true rfl, Nat.le_of_ble_eq_true rfl⟩ hs52  rfl rfl (Nat.le_of_ble_eq_true rfl) ⟨Nat.zero_le _, Nat.zero_le _⟩ dX11_many_123 (kp_i fun r54 M53 h9 => ?_)
                    replace h := h9
                    exact k_iret C dX11_many_126 h
                  · have h := h.2
                    have hd := gh_sw9 e1 e7 e13 e19 e25 e31 e37 e43 e49
                    replace h := h hd
                    refine k_tableOut C.1 127 dX11_many_1 hd (by decide) ?_
                    refine k_iload_n C.1 1 rfl dX11_many_127 ?_
                    refine k_bipush (v := 9) C.1 dX11_many_128 (by decide) ?_
                    refine k_bipush (v := 11) C.1 dX11_many_130 (by decide) ?_
                    refine k_callS (As := [.int x1, .int (9 : Int32), .int (11 : Int32)]) (rest := []) C.1 V_X11_101 (c_X11_isIn h) ⟨rfl, rfl, Nat.le_of_ble_eq_true rfl, Nat.le_of_ble_eq_true rfl⟩  rfl rfl (Nat.le_of_ble_eq_true rfl) ⟨Nat.zero_le _, Nat.zero_le _⟩ dX11_many_132 (kp_i fun r56 M55 h9 => ?_)
                    replace h := h9
                    refine k_if_eq C.1 152 dX11_many_135 (by decide) (fun c57 => ?_) (fun c57 => ?_)
                    · have h := h.1 c57
                      refine k_iconst (v := (-1)) C.1 dX11_many_152 (by decide) ?_
                      exact k_iret C dX11_many_153 h
                    · have h := h.2 c57
                      refine k_aload_n C.1 0 rfl dX11_many_138 ?_
                      obtain ⟨hs58, h⟩ := h
                      obtain ⟨q59, hq59, h⟩ := h
                      refine k_getR C.1 F_X11_68 dX11_many_139 hs58 hq59 ?_
                      refine k_iload_n C.1 1 rfl dX11_many_142 ?_
                      refine k_bipush (v := 9) C.1 dX11_many_143 (by decide) ?_
                      refine k_isub C.1 dX11_many_145 ?_
                      obtain ⟨hs60, h⟩ := h
                      refine k_callV (As := [.int (x1 - (9 : Int32))]) (rest := []) C.1 V_X11_276 (c_X0_releasedSize h) ⟨rfl, rfl, Nat.le_of_ble_eq_true rfl, Nat.le_of_ble_eq_true rfl⟩ hs60  rfl rfl (Nat.le_of_ble_eq_true rfl) ⟨Nat.zero_le _, Nat.zero_le _⟩ dX11_many_146 (kp_i fun r62 M61 h9 => ?_)
                      replace h := h9
                      refine k_goto C.1 153 dX11_many_149 (by decide) ?_
                      exact k_iret C dX11_many_153 h
abbrev rm_X11_keep : Room := { frames := 4, cells := 0, slots := 0, locals := 87 }
set_option maxRecDepth 100000 in
set_option maxHeartbeats 4000000 in
theorem c_X11_keep {l : Launch} {D : va_G} {dA : Nat → ClassId} {sh : gh_Sh} {b0 n : Nat} {M : gh_M} {x0 : Nat} {post : Int32 → gh_M → Prop} (h : wp_X11_keep sh M x0 post) : gh_Met l D dA sh b0 n yX11_keep cX11_keep 1 (some .int) rm_X11_keep M [.ref x0] (gh_pi post) := by
  refine gh_open (by decide) (Nat.le_of_ble_eq_true rfl) (fun X C => ?_)
  show gh_G X rm_X11_keep 1 0 0 sh n 0 [(0, .ref x0)] [] M
  unfold wp_X11_keep at h
  refine k_aload_n C.1 0 rfl dX11_keep_0 ?_
  obtain ⟨hs1, h⟩ := h
  obtain ⟨q2, hq2, h⟩ := h
  refine k_getR C.1 F_X11_64 dX11_keep_1 hs1 hq2 ?_
  refine k_aload_n C.1 0 rfl dX11_keep_4 ?_
  obtain ⟨q3, hq3, h⟩ := h
  refine k_getR C.1 F_X11_68 dX11_keep_5 hs1 hq3 ?_
  obtain ⟨hs4, h⟩ := h
  refine k_callV (As := [.ref q3]) (rest := []) C.1 V_X11_279 (c_X0_copy h) ⟨rfl, rfl, Nat.le_of_ble_eq_true rfl, Nat.le_of_ble_eq_true rfl⟩ hs4  rfl rfl (Nat.le_of_ble_eq_true rfl) ⟨Nat.zero_le _, Nat.zero_le _⟩ dX11_keep_8 (kp_v fun M5 h9 => ?_)
  replace h := h9
  refine k_aload_n C.1 0 rfl dX11_keep_11 ?_
  obtain ⟨q6, hq6, h⟩ := h
  refine k_getR C.1 F_X11_58 dX11_keep_12 hs1 hq6 ?_
  refine k_aload_n C.1 0 rfl dX11_keep_15 ?_
  obtain ⟨q7, hq7, h⟩ := h
  refine k_getR C.1 F_X11_54 dX11_keep_16 hs1 hq7 ?_
  obtain ⟨hs8, h⟩ := h
  refine k_callV (As := [.ref q7]) (rest := []) C.1 V_X11_283 (c_X4_copy h) ⟨rfl, rfl, Nat.le_of_ble_eq_true rfl, Nat.le_of_ble_eq_true rfl⟩ hs8  rfl rfl (Nat.le_of_ble_eq_true rfl) ⟨Nat.zero_le _, Nat.zero_le _⟩ dX11_keep_19 (kp_v fun M9 h9 => ?_)
  replace h := h9
  refine k_aload_n C.1 0 rfl dX11_keep_22 ?_
  refine k_iconst (v := 1) C.1 dX11_keep_23 (by decide) ?_
  refine k_putI C.1 F_X11_78 dX11_keep_24 hs1 rfl rfl ?_
  refine k_iconst (v := 1) C.1 dX11_keep_27 (by decide) ?_
  exact k_iret C dX11_keep_28 h
abbrev rm_X11_back : Room := { frames := 4, cells := 0, slots := 0, locals := 87 }
set_option maxRecDepth 100000 in
set_option maxHeartbeats 4000000 in
theorem c_X11_back {l : Launch} {D : va_G} {dA : Nat → ClassId} {sh : gh_Sh} {b0 n : Nat} {M : gh_M} {x0 : Nat} {post : Int32 → gh_M → Prop} (h : wp_X11_back sh M x0 post) : gh_Met l D dA sh b0 n yX11_back cX11_back 1 (some .int) rm_X11_back M [.ref x0] (gh_pi post) := by
  refine gh_open (by decide) (Nat.le_of_ble_eq_true rfl) (fun X C => ?_)
  show gh_G X rm_X11_back 1 0 0 sh n 0 [(0, .ref x0)] [] M
  unfold wp_X11_back at h
  refine k_aload_n C.1 0 rfl dX11_back_0 ?_
  obtain ⟨hs1, h⟩ := h
  refine k_getI C.1 F_X11_78 dX11_back_1 hs1 ?_
  refine k_if_ne C.1 10 dX11_back_4 (by decide) (fun c2 => ?_) (fun c2 => ?_)
  · have h := h.2 c2
    refine k_aload_n C.1 0 rfl dX11_back_10 ?_
    obtain ⟨q3, hq3, h⟩ := h
    refine k_getR C.1 F_X11_68 dX11_back_11 hs1 hq3 ?_
    refine k_aload_n C.1 0 rfl dX11_back_14 ?_
    obtain ⟨q4, hq4, h⟩ := h
    refine k_getR C.1 F_X11_64 dX11_back_15 hs1 hq4 ?_
    obtain ⟨hs5, h⟩ := h
    refine k_callV (As := [.ref q4]) (rest := []) C.1 V_X11_279 (c_X0_copy h) ⟨rfl, rfl, Nat.le_of_ble_eq_true rfl, Nat.le_of_ble_eq_true rfl⟩ hs5  rfl rfl (Nat.le_of_ble_eq_true rfl) ⟨Nat.zero_le _, Nat.zero_le _⟩ dX11_back_18 (kp_v fun M6 h9 => ?_)
    replace h := h9
    refine k_aload_n C.1 0 rfl dX11_back_21 ?_
    obtain ⟨q7, hq7, h⟩ := h
    refine k_getR C.1 F_X11_54 dX11_back_22 hs1 hq7 ?_
    refine k_aload_n C.1 0 rfl dX11_back_25 ?_
    obtain ⟨q8, hq8, h⟩ := h
    refine k_getR C.1 F_X11_58 dX11_back_26 hs1 hq8 ?_
    obtain ⟨hs9, h⟩ := h
    refine k_callV (As := [.ref q8]) (rest := []) C.1 V_X11_283 (c_X4_copy h) ⟨rfl, rfl, Nat.le_of_ble_eq_true rfl, Nat.le_of_ble_eq_true rfl⟩ hs9  rfl rfl (Nat.le_of_ble_eq_true rfl) ⟨Nat.zero_le _, Nat.zero_le _⟩ dX11_back_29 (kp_v fun M10 h9 => ?_)
    replace h := h9
    refine k_iconst (v := 1) C.1 dX11_back_32 (by decide) ?_
    exact k_iret C dX11_back_33 h
  · have h := h.1 c2
    refine k_bipush (v := (-5)) C.1 dX11_back_7 (by decide) ?_
    exact k_iret C dX11_back_9 h
abbrev rm_X12_in : Room := { frames := 0, cells := 0, slots := 0, locals := 0 }
set_option maxRecDepth 100000 in
set_option maxHeartbeats 4000000 in
theorem c_X12_in {l : Launch} {D : va_G} {dA : Nat → ClassId} {sh : gh_Sh} {b0 n : Nat} {M : gh_M} {x0 : Int32} {x1 : Int32} {x2 : Int32} {post : Int32 → gh_M → Prop} (h : wp_X12_in sh M x0 x1 x2 post) : gh_Met l D dA sh b0 n yX12_in cX12_in 3 (some .boolean) rm_X12_in M [.int x0, .int x1, .int x2] (gh_pi post) := by
  refine gh_open (by decide) (Nat.le_of_ble_eq_true rfl) (fun X C => ?_)
  show gh_G X rm_X12_in 3 0 0 sh n 0 [(0, .int x0), (1, .int x1), (2, .int x2)] [] M
  unfold wp_X12_in at h
  refine k_iload_n C.1 0 rfl dX12_in_0 ?_
  refine k_iload_n C.1 1 rfl dX12_in_1 ?_
  refine k_icmp_lt C.1 14 dX12_in_2 (by decide) (fun c1 => ?_) (fun c1 => ?_)
  · have h := h.1 c1
    refine k_iconst (v := 0) C.1 dX12_in_14 (by decide) ?_
    exact k_zret C dX12_in_15 (Or.inl rfl) h
  · have h := h.2 c1
    refine k_iload_n C.1 0 rfl dX12_in_5 ?_
    refine k_iload_n C.1 2 rfl dX12_in_6 ?_
    refine k_icmp_gt C.1 14 dX12_in_7 (by decide) (fun c2 => ?_) (fun c2 => ?_)
    · have h := h.1 c2
      refine k_iconst (v := 0) C.1 dX12_in_14 (by decide) ?_
      exact k_zret C dX12_in_15 (Or.inl rfl) h
    · have h := h.2 c2
      refine k_iconst (v := 1) C.1 dX12_in_10 (by decide) ?_
      refine k_goto C.1 15 dX12_in_11 (by decide) ?_
      exact k_zret C dX12_in_15 (Or.inr rfl) h
abbrev rm_X12_isWord : Room := { frames := 1, cells := 0, slots := 0, locals := 22 }
set_option maxRecDepth 100000 in
set_option maxHeartbeats 4000000 in
theorem c_X12_isWord {l : Launch} {D : va_G} {dA : Nat → ClassId} {sh : gh_Sh} {b0 n : Nat} {M : gh_M} {x0 : Int32} {post : Int32 → gh_M → Prop} (h : wp_X12_isWord sh M x0 post) : gh_Met l D dA sh b0 n yX12_isWord cX12_isWord 1 (some .boolean) rm_X12_isWord M [.int x0] (gh_pi post) := by
  refine gh_open (by decide) (Nat.le_of_ble_eq_true rfl) (fun X C => ?_)
  show gh_G X rm_X12_isWord 1 0 0 sh n 0 [(0, .int x0)] [] M
  unfold wp_X12_isWord at h
  refine k_iload_n C.1 0 rfl dX12_isWord_0 ?_
  refine k_iconst (v := 0) C.1 dX12_isWord_1 (by decide) ?_
  refine k_bipush (v := 99) C.1 dX12_isWord_2 (by decide) ?_
  refine k_callS (As := [.int x0, .int (0 : Int32), .int (99 : Int32)]) (rest := []) C.1 V_X12_128 (c_X12_in h) ⟨rfl, rfl, Nat.le_of_ble_eq_true rfl, Nat.le_of_ble_eq_true rfl⟩  rfl rfl (Nat.le_of_ble_eq_true rfl) ⟨Nat.zero_le _, Nat.zero_le _⟩ dX12_isWord_4 (kp_i fun r2 M1 h9 => ?_)
  replace h := h9
  exact k_zret C dX12_isWord_7 h.1 h.2
abbrev rm_X12_isHole : Room := { frames := 1, cells := 0, slots := 0, locals := 22 }
set_option maxRecDepth 100000 in
set_option maxHeartbeats 4000000 in
theorem c_X12_isHole {l : Launch} {D : va_G} {dA : Nat → ClassId} {sh : gh_Sh} {b0 n : Nat} {M : gh_M} {x0 : Int32} {post : Int32 → gh_M → Prop} (h : wp_X12_isHole sh M x0 post) : gh_Met l D dA sh b0 n yX12_isHole cX12_isHole 1 (some .boolean) rm_X12_isHole M [.int x0] (gh_pi post) := by
  refine gh_open (by decide) (Nat.le_of_ble_eq_true rfl) (fun X C => ?_)
  show gh_G X rm_X12_isHole 1 0 0 sh n 0 [(0, .int x0)] [] M
  unfold wp_X12_isHole at h
  refine k_iload_n C.1 0 rfl dX12_isHole_0 ?_
  refine k_bipush (v := 100) C.1 dX12_isHole_1 (by decide) ?_
  refine k_bipush (v := 103) C.1 dX12_isHole_3 (by decide) ?_
  refine k_callS (As := [.int x0, .int (100 : Int32), .int (103 : Int32)]) (rest := []) C.1 V_X12_128 (c_X12_in h) ⟨rfl, rfl, Nat.le_of_ble_eq_true rfl, Nat.le_of_ble_eq_true rfl⟩  rfl rfl (Nat.le_of_ble_eq_true rfl) ⟨Nat.zero_le _, Nat.zero_le _⟩ dX12_isHole_5 (kp_i fun r2 M1 h9 => ?_)
  replace h := h9
  exact k_zret C dX12_isHole_8 h.1 h.2
abbrev rm_X12_isOwn : Room := { frames := 1, cells := 0, slots := 0, locals := 22 }
set_option maxRecDepth 100000 in
set_option maxHeartbeats 4000000 in
theorem c_X12_isOwn {l : Launch} {D : va_G} {dA : Nat → ClassId} {sh : gh_Sh} {b0 n : Nat} {M : gh_M} {x0 : Int32} {post : Int32 → gh_M → Prop} (h : wp_X12_isOwn sh M x0 post) : gh_Met l D dA sh b0 n yX12_isOwn cX12_isOwn 1 (some .boolean) rm_X12_isOwn M [.int x0] (gh_pi post) := by
  refine gh_open (by decide) (Nat.le_of_ble_eq_true rfl) (fun X C => ?_)
  show gh_G X rm_X12_isOwn 1 0 0 sh n 0 [(0, .int x0)] [] M
  unfold wp_X12_isOwn at h
  refine k_iload_n C.1 0 rfl dX12_isOwn_0 ?_
  refine k_sipush (v := 200) C.1 dX12_isOwn_1 (by decide) ?_
  refine k_sipush (v := 299) C.1 dX12_isOwn_4 (by decide) ?_
  refine k_callS (As := [.int x0, .int (200 : Int32), .int (299 : Int32)]) (rest := []) C.1 V_X12_128 (c_X12_in h) ⟨rfl, rfl, Nat.le_of_ble_eq_true rfl, Nat.le_of_ble_eq_true rfl⟩  rfl rfl (Nat.le_of_ble_eq_true rfl) ⟨Nat.zero_le _, Nat.zero_le _⟩ dX12_isOwn_7 (kp_i fun r2 M1 h9 => ?_)
  replace h := h9
  exact k_zret C dX12_isOwn_10 h.1 h.2
abbrev rm_X12_isTongue : Room := { frames := 1, cells := 0, slots := 0, locals := 22 }
set_option maxRecDepth 100000 in
set_option maxHeartbeats 4000000 in
theorem c_X12_isTongue {l : Launch} {D : va_G} {dA : Nat → ClassId} {sh : gh_Sh} {b0 n : Nat} {M : gh_M} {x0 : Int32} {post : Int32 → gh_M → Prop} (h : wp_X12_isTongue sh M x0 post) : gh_Met l D dA sh b0 n yX12_isTongue cX12_isTongue 1 (some .boolean) rm_X12_isTongue M [.int x0] (gh_pi post) := by
  refine gh_open (by decide) (Nat.le_of_ble_eq_true rfl) (fun X C => ?_)
  show gh_G X rm_X12_isTongue 1 0 0 sh n 0 [(0, .int x0)] [] M
  unfold wp_X12_isTongue at h
  refine k_iload_n C.1 0 rfl dX12_isTongue_0 ?_
  refine k_iconst (v := 0) C.1 dX12_isTongue_1 (by decide) ?_
  refine k_iconst (v := 2) C.1 dX12_isTongue_2 (by decide) ?_
  refine k_callS (As := [.int x0, .int (0 : Int32), .int (2 : Int32)]) (rest := []) C.1 V_X12_128 (c_X12_in h) ⟨rfl, rfl, Nat.le_of_ble_eq_true rfl, Nat.le_of_ble_eq_true rfl⟩  rfl rfl (Nat.le_of_ble_eq_true rfl) ⟨Nat.zero_le _, Nat.zero_le _⟩ dX12_isTongue_3 (kp_i fun r2 M1 h9 => ?_)
  replace h := h9
  exact k_zret C dX12_isTongue_6 h.1 h.2
abbrev rm_X12_isPiece : Room := { frames := 1, cells := 0, slots := 0, locals := 22 }
set_option maxRecDepth 100000 in
set_option maxHeartbeats 4000000 in
theorem c_X12_isPiece {l : Launch} {D : va_G} {dA : Nat → ClassId} {sh : gh_Sh} {b0 n : Nat} {M : gh_M} {x0 : Nat} {x1 : Int32} {post : Int32 → gh_M → Prop} (h : wp_X12_isPiece sh M x0 x1 post) : gh_Met l D dA sh b0 n yX12_isPiece cX12_isPiece 2 (some .boolean) rm_X12_isPiece M [.ref x0, .int x1] (gh_pi post) := by
  refine gh_open (by decide) (Nat.le_of_ble_eq_true rfl) (fun X C => ?_)
  show gh_G X rm_X12_isPiece 2 0 0 sh n 0 [(0, .ref x0), (1, .int x1)] [] M
  unfold wp_X12_isPiece at h
  refine k_iload_n C.1 1 rfl dX12_isPiece_0 ?_
  refine k_iconst (v := 0) C.1 dX12_isPiece_1 (by decide) ?_
  refine k_aload_n C.1 0 rfl dX12_isPiece_2 ?_
  obtain ⟨hs1, h⟩ := h
  refine k_getI C.1 F_X12_132 dX12_isPiece_3 hs1 ?_
  refine k_iconst (v := 1) C.1 dX12_isPiece_6 (by decide) ?_
  refine k_isub C.1 dX12_isPiece_7 ?_
  refine k_callS (As := [.int x1, .int (0 : Int32), .int ((rI M x0 2) - (1 : Int32))]) (rest := []) C.1 V_X12_128 (c_X12_in h) ⟨rfl, rfl, Nat.le_of_ble_eq_true rfl, Nat.le_of_ble_eq_true rfl⟩  rfl rfl (Nat.le_of_ble_eq_true rfl) ⟨Nat.zero_le _, Nat.zero_le _⟩ dX12_isPiece_8 (kp_i fun r3 M2 h9 => ?_)
  replace h := h9
  exact k_zret C dX12_isPiece_11 h.1 h.2
abbrev rm_X12_isHand : Room := { frames := 1, cells := 0, slots := 0, locals := 22 }
set_option maxRecDepth 100000 in
set_option maxHeartbeats 4000000 in
theorem c_X12_isHand {l : Launch} {D : va_G} {dA : Nat → ClassId} {sh : gh_Sh} {b0 n : Nat} {M : gh_M} {x0 : Nat} {x1 : Int32} {post : Int32 → gh_M → Prop} (h : wp_X12_isHand sh M x0 x1 post) : gh_Met l D dA sh b0 n yX12_isHand cX12_isHand 2 (some .boolean) rm_X12_isHand M [.ref x0, .int x1] (gh_pi post) := by
  refine gh_open (by decide) (Nat.le_of_ble_eq_true rfl) (fun X C => ?_)
  show gh_G X rm_X12_isHand 2 0 0 sh n 0 [(0, .ref x0), (1, .int x1)] [] M
  unfold wp_X12_isHand at h
  refine k_iload_n C.1 1 rfl dX12_isHand_0 ?_
  refine k_iconst (v := 0) C.1 dX12_isHand_1 (by decide) ?_
  refine k_aload_n C.1 0 rfl dX12_isHand_2 ?_
  obtain ⟨hs1, h⟩ := h
  refine k_getI C.1 F_X12_135 dX12_isHand_3 hs1 ?_
  refine k_iconst (v := 1) C.1 dX12_isHand_6 (by decide) ?_
  refine k_isub C.1 dX12_isHand_7 ?_
  refine k_callS (As := [.int x1, .int (0 : Int32), .int ((rI M x0 16) - (1 : Int32))]) (rest := []) C.1 V_X12_128 (c_X12_in h) ⟨rfl, rfl, Nat.le_of_ble_eq_true rfl, Nat.le_of_ble_eq_true rfl⟩  rfl rfl (Nat.le_of_ble_eq_true rfl) ⟨Nat.zero_le _, Nat.zero_le _⟩ dX12_isHand_8 (kp_i fun r3 M2 h9 => ?_)
  replace h := h9
  exact k_zret C dX12_isHand_11 h.1 h.2
abbrev rm_X12_knows : Room := { frames := 0, cells := 0, slots := 0, locals := 0 }
set_option maxRecDepth 100000 in
set_option maxHeartbeats 4000000 in
theorem c_X12_knows {l : Launch} {D : va_G} {dA : Nat → ClassId} {sh : gh_Sh} {b0 n : Nat} {M : gh_M} {x0 : Nat} {x1 : Int32} {x2 : Int32} {post : Int32 → gh_M → Prop} (h : wp_X12_knows sh M x0 x1 x2 post) : gh_Met l D dA sh b0 n yX12_knows cX12_knows 3 (some .boolean) rm_X12_knows M [.ref x0, .int x1, .int x2] (gh_pi post) := by
  refine gh_open (by decide) (Nat.le_of_ble_eq_true rfl) (fun X C => ?_)
  show gh_G X rm_X12_knows 3 0 0 sh n 0 [(0, .ref x0), (1, .int x1), (2, .int x2)] [] M
  unfold wp_X12_knows at h
  refine k_aload_n C.1 0 rfl dX12_knows_0 ?_
  obtain ⟨hs1, h⟩ := h
  obtain ⟨q2, hq2, h⟩ := h
  refine k_getR C.1 F_X12_49 dX12_knows_1 hs1 hq2 ?_
  refine k_iload_n C.1 1 rfl dX12_knows_4 ?_
  obtain ⟨hs3, h⟩ := h
  obtain ⟨hi4, h⟩ := h
  refine k_iald C.1 dX12_knows_5 hs3 hi4 ?_
  refine k_iload_n C.1 2 rfl dX12_knows_6 ?_
  refine k_ishr C.1 dX12_knows_7 ?_
  refine k_iconst (v := 1) C.1 dX12_knows_8 (by decide) ?_
  refine k_iand C.1 dX12_knows_9 ?_
  refine k_iconst (v := 1) C.1 dX12_knows_10 (by decide) ?_
  refine k_icmp_ne C.1 18 dX12_knows_11 (by decide) (fun c5 => ?_) (fun c5 => ?_)
  · have h := h.2 c5
    refine k_iconst (v := 0) C.1 dX12_knows_18 (by decide) ?_
    exact k_zret C dX12_knows_19 (Or.inl rfl) h
  · have h := h.1 c5
    refine k_iconst (v := 1) C.1 dX12_knows_14 (by decide) ?_
    refine k_goto C.1 19 dX12_knows_15 (by decide) ?_
    exact k_zret C dX12_knows_19 (Or.inr rfl) h
abbrev rm_X12_sign : Room := { frames := 2, cells := 0, slots := 0, locals := 42 }
set_option maxRecDepth 100000 in
set_option maxHeartbeats 4000000 in
theorem b_X12_sign_23 {X : gh_X} {sh : gh_Sh} {n : Nat} {post : Int32 → gh_M → Prop} (C : gh_CR X cX12_sign RX12 2 (some .int) sh n 0 0 (gh_pi post)) (x0 : Nat) (x1 : Int32) (M : gh_M) (h : wp_X12_sign_23 sh post x0 x1 M) : gh_G X rm_X12_sign 2 0 0 sh n 23 [(0, .ref x0), (1, .int x1)] [] M := by
  unfold wp_X12_sign_23 at h
  refine k_aload_n C.1 0 rfl dX12_sign_23 ?_
  obtain ⟨hs1, h⟩ := h
  refine k_getI C.1 F_X12_148 dX12_sign_24 hs1 ?_
  refine k_bipush (v := 10) C.1 dX12_sign_27 (by decide) ?_
  refine k_icmp_ne C.1 35 dX12_sign_29 (by decide) (fun c2 => ?_) (fun c2 => ?_)
  · have h := h.2 c2
    refine k_aload_n C.1 0 rfl dX12_sign_35 ?_
    obtain ⟨q3, hq3, h⟩ := h
    refine k_getR C.1 F_X12_7 dX12_sign_36 hs1 hq3 ?_
    refine k_aload_n C.1 0 rfl dX12_sign_39 ?_
    refine k_getI C.1 F_X12_148 dX12_sign_40 hs1 ?_
    refine k_iload_n C.1 1 rfl dX12_sign_43 ?_
    obtain ⟨hs5, h⟩ := h
    obtain ⟨hi4, h⟩ := h
    refine k_iast C.1 dX12_sign_44 hs5 hi4 ?_
    refine k_aload_n C.1 0 rfl dX12_sign_45 ?_
    refine k_dup C.1 dX12_sign_46 rfl ?_
    refine k_getI C.1 F_X12_148 dX12_sign_47 hs1 ?_
    refine k_iconst (v := 1) C.1 dX12_sign_50 (by decide) ?_
    refine k_iadd C.1 dX12_sign_51 ?_
    refine k_putI C.1 F_X12_148 dX12_sign_52 hs1 rfl rfl ?_
    refine k_aload_n C.1 0 rfl dX12_sign_55 ?_
    refine k_getI C.1 F_X12_148 dX12_sign_56 hs1 ?_
    exact k_iret C dX12_sign_59 h
  · have h := h.1 c2
    refine k_bipush (v := (-2)) C.1 dX12_sign_32 (by decide) ?_
    exact k_iret C dX12_sign_34 h
set_option maxRecDepth 100000 in
set_option maxHeartbeats 4000000 in
theorem c_X12_sign {l : Launch} {D : va_G} {dA : Nat → ClassId} {sh : gh_Sh} {b0 n : Nat} {M : gh_M} {x0 : Nat} {x1 : Int32} {post : Int32 → gh_M → Prop} (h : wp_X12_sign sh M x0 x1 post) : gh_Met l D dA sh b0 n yX12_sign cX12_sign 2 (some .int) rm_X12_sign M [.ref x0, .int x1] (gh_pi post) := by
  refine gh_open (by decide) (Nat.le_of_ble_eq_true rfl) (fun X C => ?_)
  show gh_G X rm_X12_sign 2 0 0 sh n 0 [(0, .ref x0), (1, .int x1)] [] M
  unfold wp_X12_sign at h
  refine k_iload_n C.1 1 rfl dX12_sign_0 ?_
  refine k_callS (As := [.int x1]) (rest := []) C.1 V_X12_138 (c_X12_isWord h) ⟨rfl, rfl, Nat.le_of_ble_eq_true rfl, Nat.le_of_ble_eq_true rfl⟩  rfl rfl (Nat.le_of_ble_eq_true rfl) ⟨Nat.zero_le _, Nat.zero_le _⟩ dX12_sign_1 (kp_i fun r2 M1 h9 => ?_)
  replace h := h9
  refine k_if_ne C.1 23 dX12_sign_4 (by decide) (fun c3 => ?_) (fun c3 => ?_)
  · have h := h.2 c3
    exact b_X12_sign_23 C x0 x1 M1 h
  · have h := h.1 c3
    refine k_iload_n C.1 1 rfl dX12_sign_7 ?_
    refine k_callS (As := [.int x1]) (rest := []) C.1 V_X12_142 (c_X12_isHole h) ⟨rfl, rfl, Nat.le_of_ble_eq_true rfl, Nat.le_of_ble_eq_true rfl⟩  rfl rfl (Nat.le_of_ble_eq_true rfl) ⟨Nat.zero_le _, Nat.zero_le _⟩ dX12_sign_8 (kp_i fun r5 M4 h9 => ?_)
    replace h := h9
    refine k_if_ne C.1 23 dX12_sign_11 (by decide) (fun c6 => ?_) (fun c6 => ?_)
    · have h := h.2 c6
      exact b_X12_sign_23 C x0 x1 M4 h
    · have h := h.1 c6
      refine k_iload_n C.1 1 rfl dX12_sign_14 ?_
      refine k_callS (As := [.int x1]) (rest := []) C.1 V_X12_145 (c_X12_isOwn h) ⟨rfl, rfl, Nat.le_of_ble_eq_true rfl, Nat.le_of_ble_eq_true rfl⟩  rfl rfl (Nat.le_of_ble_eq_true rfl) ⟨Nat.zero_le _, Nat.zero_le _⟩ dX12_sign_15 (kp_i fun r8 M7 h9 => ?_)
      replace h := h9
      refine k_if_ne C.1 23 dX12_sign_18 (by decide) (fun c9 => ?_) (fun c9 => ?_)
      · have h := h.2 c9
        exact b_X12_sign_23 C x0 x1 M7 h
      · have h := h.1 c9
        refine k_iconst (v := (-1)) C.1 dX12_sign_21 (by decide) ?_
        exact k_iret C dX12_sign_22 h
abbrev rm_X12_scrap : Room := { frames := 0, cells := 0, slots := 0, locals := 0 }
set_option maxRecDepth 100000 in
set_option maxHeartbeats 4000000 in
theorem c_X12_scrap {l : Launch} {D : va_G} {dA : Nat → ClassId} {sh : gh_Sh} {b0 n : Nat} {M : gh_M} {x0 : Nat} {post : Int32 → gh_M → Prop} (h : wp_X12_scrap sh M x0 post) : gh_Met l D dA sh b0 n yX12_scrap cX12_scrap 2 (some .int) rm_X12_scrap M [.ref x0] (gh_pi post) := by
  refine gh_open (by decide) (Nat.le_of_ble_eq_true rfl) (fun X C => ?_)
  show gh_G X rm_X12_scrap 2 0 0 sh n 0 [(0, .ref x0)] [] M
  unfold wp_X12_scrap at h
  refine k_aload_n C.1 0 rfl dX12_scrap_0 ?_
  obtain ⟨hs1, h⟩ := h
  refine k_getI C.1 F_X12_148 dX12_scrap_1 hs1 ?_
  refine k_istore_n (lv' := [(1, .int (rI M x0 0)), (0, .ref x0)]) C.1 dX12_scrap_4 (by decide) rfl ?_
  refine k_aload_n C.1 1 rfl dX12_scrap_5 ?_
  refine k_iconst (v := 0) C.1 dX12_scrap_6 (by decide) ?_
  refine k_putI C.1 F_X12_148 dX12_scrap_7 hs1 rfl rfl ?_
  refine k_iload_n C.1 0 rfl dX12_scrap_10 ?_
  exact k_iret C dX12_scrap_11 h
abbrev rm_X12_draftHasOwn : Room := { frames := 2, cells := 0, slots := 0, locals := 42 }
set_option maxRecDepth 100000 in
set_option maxHeartbeats 4000000 in
theorem b_X12_draftHasOwn_33 {X : gh_X} {sh : gh_Sh} {n : Nat} {post : Int32 → gh_M → Prop} (C : gh_CR X cX12_draftHasOwn RX12 3 (some .boolean) sh n 0 0 (gh_pi post)) (x0 : Nat) (x2 : Int32) (s0 : Int32) (M : gh_M) (k4 : Int32 → Int32 → gh_M → Prop) (hk4 : ∀ (y1 : Int32) (y2 : Int32) (M : gh_M), k4 y1 y2 M → gh_G X rm_X12_draftHasOwn 3 0 0 sh n 4 [(0, .ref x0), (1, .int y1), (2, .int y2)] [] M) (h : wp_X12_draftHasOwn_33 sh post k4 x0 x2 s0 M) : gh_G X rm_X12_draftHasOwn 3 0 0 sh n 33 [(0, .ref x0), (2, .int x2)] [.int s0] M := by
  unfold wp_X12_draftHasOwn_33 at h
  refine k_istore_n (lv' := [(1, .int s0), (0, .ref x0), (2, .int x2)]) C.1 dX12_draftHasOwn_33 (by decide) rfl ?_
  refine k_iinc (v := x2 + 1) (lv' := [(2, .int (x2 + 1)), (1, .int s0), (0, .ref x0)]) C.1 2 rfl dX12_draftHasOwn_34 (by decide) rfl rfl ?_
  refine k_goto C.1 4 dX12_draftHasOwn_37 (by decide) ?_
  refine k_sub (lv' := [(0, .ref x0), (1, .int s0), (2, .int (x2 + 1))]) [2, 1, 0] rfl ?_
  exact hk4 s0 (x2 + 1) M h
set_option maxRecDepth 100000 in
set_option maxHeartbeats 4000000 in
theorem b_X12_draftHasOwn_28 {X : gh_X} {sh : gh_Sh} {n : Nat} {post : Int32 → gh_M → Prop} (C : gh_CR X cX12_draftHasOwn RX12 3 (some .boolean) sh n 0 0 (gh_pi post)) (x0 : Nat) (x2 : Int32) (M : gh_M) (k4 : Int32 → Int32 → gh_M → Prop) (hk4 : ∀ (y1 : Int32) (y2 : Int32) (M : gh_M), k4 y1 y2 M → gh_G X rm_X12_draftHasOwn 3 0 0 sh n 4 [(0, .ref x0), (1, .int y1), (2, .int y2)] [] M) (h : wp_X12_draftHasOwn_28 sh post k4 x0 x2 M) : gh_G X rm_X12_draftHasOwn 3 0 0 sh n 28 [(0, .ref x0), (2, .int x2)] [] M := by
  unfold wp_X12_draftHasOwn_28 at h
  refine k_iconst (v := 1) C.1 dX12_draftHasOwn_28 (by decide) ?_
  refine k_goto C.1 33 dX12_draftHasOwn_29 (by decide) ?_
  exact b_X12_draftHasOwn_33 C x0 x2 (1 : Int32) M k4 hk4 h
set_option maxRecDepth 100000 in
set_option maxHeartbeats 4000000 in
theorem bb_X12_draftHasOwn_4 {X : gh_X} {sh : gh_Sh} {n : Nat} {post : Int32 → gh_M → Prop} (C : gh_CR X cX12_draftHasOwn RX12 3 (some .boolean) sh n 0 0 (gh_pi post)) (x0 : Nat) (k4 : Int32 → Int32 → gh_M → Prop) (hk4 : ∀ (y1 : Int32) (y2 : Int32) (M : gh_M), k4 y1 y2 M → gh_G X rm_X12_draftHasOwn 3 0 0 sh n 4 [(0, .ref x0), (1, .int y1), (2, .int y2)] [] M) (x1 : Int32) (x2 : Int32) (M : gh_M) (h : wb_X12_draftHasOwn_4 sh post x0 k4 x1 x2 M) : gh_G X rm_X12_draftHasOwn 3 0 0 sh n 4 [(0, .ref x0), (1, .int x1), (2, .int x2)] [] M := by
  unfold wb_X12_draftHasOwn_4 at h
  refine k_iload_n C.1 2 rfl dX12_draftHasOwn_4 ?_
  refine k_aload_n C.1 0 rfl dX12_draftHasOwn_5 ?_
  obtain ⟨hs1, h⟩ := h
  refine k_getI C.1 F_X12_148 dX12_draftHasOwn_6 hs1 ?_
  refine k_icmp_ge C.1 40 dX12_draftHasOwn_9 (by decide) (fun c2 => ?_) (fun c2 => ?_)
  · have h := h.1 c2
    refine k_iload_n C.1 1 rfl dX12_draftHasOwn_40 ?_
    exact k_zret C dX12_draftHasOwn_41 h.1 h.2
  · have h := h.2 c2
    refine k_iload_n C.1 1 rfl dX12_draftHasOwn_12 ?_
    refine k_if_ne C.1 28 dX12_draftHasOwn_13 (by decide) (fun c3 => ?_) (fun c3 => ?_)
    · have h := h.2 c3
      refine k_sub (lv' := [(0, .ref x0), (2, .int x2)]) [0, 2] rfl ?_
      exact b_X12_draftHasOwn_28 C x0 x2 M k4 hk4 h
    · have h := h.1 c3
      refine k_aload_n C.1 0 rfl dX12_draftHasOwn_16 ?_
      obtain ⟨q4, hq4, h⟩ := h
      refine k_getR C.1 F_X12_7 dX12_draftHasOwn_17 hs1 hq4 ?_
      refine k_iload_n C.1 2 rfl dX12_draftHasOwn_20 ?_
      obtain ⟨hs5, h⟩ := h
      obtain ⟨hi6, h⟩ := h
      refine k_iald C.1 dX12_draftHasOwn_21 hs5 hi6 ?_
      refine k_callS (As := [.int (rI M q4 x2.toNatClampNeg)]) (rest := []) C.1 V_X12_145 (c_X12_isOwn h) ⟨rfl, rfl, Nat.le_of_ble_eq_true rfl, Nat.le_of_ble_eq_true rfl⟩  rfl rfl (Nat.le_of_ble_eq_true rfl) ⟨Nat.zero_le _, Nat.zero_le _⟩ dX12_draftHasOwn_22 (kp_i fun r8 M7 h9 => ?_)
      replace h := h9
      refine k_if_eq C.1 32 dX12_draftHasOwn_25 (by decide) (fun c9 => ?_) (fun c9 => ?_)
      · have h := h.1 c9
        refine k_iconst (v := 0) C.1 dX12_draftHasOwn_32 (by decide) ?_
        refine k_sub (lv' := [(0, .ref x0), (2, .int x2)]) [0, 2] rfl ?_
        exact b_X12_draftHasOwn_33 C x0 x2 (0 : Int32) M7 k4 hk4 h
      · have h := h.2 c9
        refine k_sub (lv' := [(0, .ref x0), (2, .int x2)]) [0, 2] rfl ?_
        exact b_X12_draftHasOwn_28 C x0 x2 M7 k4 hk4 h
set_option maxRecDepth 100000 in
theorem b_X12_draftHasOwn_4 {X : gh_X} {sh : gh_Sh} {n : Nat} {post : Int32 → gh_M → Prop} (C : gh_CR X cX12_draftHasOwn RX12 3 (some .boolean) sh n 0 0 (gh_pi post)) (x0 : Nat) (x1 : Int32) (x2 : Int32) (M : gh_M) (h : wp_X12_draftHasOwn_4 sh post x0 x1 x2 M) : gh_G X rm_X12_draftHasOwn 3 0 0 sh n 4 [(0, .ref x0), (1, .int x1), (2, .int x2)] [] M := by
  unfold wp_X12_draftHasOwn_4 at h
  exact gh_loop_use h (fun v => gh_G X rm_X12_draftHasOwn 3 0 0 sh n 4 [(0, .ref x0), (1, .int v.1), (2, .int v.2.1)] [] v.2.2) (fun k v hk hb => bb_X12_draftHasOwn_4 C x0 (fun x1 x2 M => k (x1, x2, M)) (fun x1 x2 M h => hk (x1, x2, M) h) v.1 v.2.1 v.2.2 hb)
set_option maxRecDepth 100000 in
set_option maxHeartbeats 4000000 in
theorem c_X12_draftHasOwn {l : Launch} {D : va_G} {dA : Nat → ClassId} {sh : gh_Sh} {b0 n : Nat} {M : gh_M} {x0 : Nat} {post : Int32 → gh_M → Prop} (h : wp_X12_draftHasOwn sh M x0 post) : gh_Met l D dA sh b0 n yX12_draftHasOwn cX12_draftHasOwn 3 (some .boolean) rm_X12_draftHasOwn M [.ref x0] (gh_pi post) := by
  refine gh_open (by decide) (Nat.le_of_ble_eq_true rfl) (fun X C => ?_)
  show gh_G X rm_X12_draftHasOwn 3 0 0 sh n 0 [(0, .ref x0)] [] M
  unfold wp_X12_draftHasOwn at h
  refine k_iconst (v := 0) C.1 dX12_draftHasOwn_0 (by decide) ?_
  refine k_istore_n (lv' := [(1, .int (0 : Int32)), (0, .ref x0)]) C.1 dX12_draftHasOwn_1 (by decide) rfl ?_
  refine k_iconst (v := 0) C.1 dX12_draftHasOwn_2 (by decide) ?_
  refine k_istore_n (lv' := [(2, .int (0 : Int32)), (1, .int (0 : Int32)), (0, .ref x0)]) C.1 dX12_draftHasOwn_3 (by decide) rfl ?_
  refine k_sub (lv' := [(0, .ref x0), (1, .int (0 : Int32)), (2, .int (0 : Int32))]) [2, 1, 0] rfl ?_
  exact b_X12_draftHasOwn_4 C x0 (0 : Int32) (0 : Int32) M h
abbrev rm_X12_draftHasWord : Room := { frames := 2, cells := 0, slots := 0, locals := 42 }
set_option maxRecDepth 100000 in
set_option maxHeartbeats 4000000 in
theorem b_X12_draftHasWord_33 {X : gh_X} {sh : gh_Sh} {n : Nat} {post : Int32 → gh_M → Prop} (C : gh_CR X cX12_draftHasWord RX12 3 (some .boolean) sh n 0 0 (gh_pi post)) (x0 : Nat) (x2 : Int32) (s0 : Int32) (M : gh_M) (k4 : Int32 → Int32 → gh_M → Prop) (hk4 : ∀ (y1 : Int32) (y2 : Int32) (M : gh_M), k4 y1 y2 M → gh_G X rm_X12_draftHasWord 3 0 0 sh n 4 [(0, .ref x0), (1, .int y1), (2, .int y2)] [] M) (h : wp_X12_draftHasWord_33 sh post k4 x0 x2 s0 M) : gh_G X rm_X12_draftHasWord 3 0 0 sh n 33 [(0, .ref x0), (2, .int x2)] [.int s0] M := by
  unfold wp_X12_draftHasWord_33 at h
  refine k_istore_n (lv' := [(1, .int s0), (0, .ref x0), (2, .int x2)]) C.1 dX12_draftHasWord_33 (by decide) rfl ?_
  refine k_iinc (v := x2 + 1) (lv' := [(2, .int (x2 + 1)), (1, .int s0), (0, .ref x0)]) C.1 2 rfl dX12_draftHasWord_34 (by decide) rfl rfl ?_
  refine k_goto C.1 4 dX12_draftHasWord_37 (by decide) ?_
  refine k_sub (lv' := [(0, .ref x0), (1, .int s0), (2, .int (x2 + 1))]) [2, 1, 0] rfl ?_
  exact hk4 s0 (x2 + 1) M h
set_option maxRecDepth 100000 in
set_option maxHeartbeats 4000000 in
theorem b_X12_draftHasWord_28 {X : gh_X} {sh : gh_Sh} {n : Nat} {post : Int32 → gh_M → Prop} (C : gh_CR X cX12_draftHasWord RX12 3 (some .boolean) sh n 0 0 (gh_pi post)) (x0 : Nat) (x2 : Int32) (M : gh_M) (k4 : Int32 → Int32 → gh_M → Prop) (hk4 : ∀ (y1 : Int32) (y2 : Int32) (M : gh_M), k4 y1 y2 M → gh_G X rm_X12_draftHasWord 3 0 0 sh n 4 [(0, .ref x0), (1, .int y1), (2, .int y2)] [] M) (h : wp_X12_draftHasWord_28 sh post k4 x0 x2 M) : gh_G X rm_X12_draftHasWord 3 0 0 sh n 28 [(0, .ref x0), (2, .int x2)] [] M := by
  unfold wp_X12_draftHasWord_28 at h
  refine k_iconst (v := 1) C.1 dX12_draftHasWord_28 (by decide) ?_
  refine k_goto C.1 33 dX12_draftHasWord_29 (by decide) ?_
  exact b_X12_draftHasWord_33 C x0 x2 (1 : Int32) M k4 hk4 h
set_option maxRecDepth 100000 in
set_option maxHeartbeats 4000000 in
theorem bb_X12_draftHasWord_4 {X : gh_X} {sh : gh_Sh} {n : Nat} {post : Int32 → gh_M → Prop} (C : gh_CR X cX12_draftHasWord RX12 3 (some .boolean) sh n 0 0 (gh_pi post)) (x0 : Nat) (k4 : Int32 → Int32 → gh_M → Prop) (hk4 : ∀ (y1 : Int32) (y2 : Int32) (M : gh_M), k4 y1 y2 M → gh_G X rm_X12_draftHasWord 3 0 0 sh n 4 [(0, .ref x0), (1, .int y1), (2, .int y2)] [] M) (x1 : Int32) (x2 : Int32) (M : gh_M) (h : wb_X12_draftHasWord_4 sh post x0 k4 x1 x2 M) : gh_G X rm_X12_draftHasWord 3 0 0 sh n 4 [(0, .ref x0), (1, .int x1), (2, .int x2)] [] M := by
  unfold wb_X12_draftHasWord_4 at h
  refine k_iload_n C.1 2 rfl dX12_draftHasWord_4 ?_
  refine k_aload_n C.1 0 rfl dX12_draftHasWord_5 ?_
  obtain ⟨hs1, h⟩ := h
  refine k_getI C.1 F_X12_148 dX12_draftHasWord_6 hs1 ?_
  refine k_icmp_ge C.1 40 dX12_draftHasWord_9 (by decide) (fun c2 => ?_) (fun c2 => ?_)
  · have h := h.1 c2
    refine k_iload_n C.1 1 rfl dX12_draftHasWord_40 ?_
    exact k_zret C dX12_draftHasWord_41 h.1 h.2
  · have h := h.2 c2
    refine k_iload_n C.1 1 rfl dX12_draftHasWord_12 ?_
    refine k_if_ne C.1 28 dX12_draftHasWord_13 (by decide) (fun c3 => ?_) (fun c3 => ?_)
    · have h := h.2 c3
      refine k_sub (lv' := [(0, .ref x0), (2, .int x2)]) [0, 2] rfl ?_
      exact b_X12_draftHasWord_28 C x0 x2 M k4 hk4 h
    · have h := h.1 c3
      refine k_aload_n C.1 0 rfl dX12_draftHasWord_16 ?_
      obtain ⟨q4, hq4, h⟩ := h
      refine k_getR C.1 F_X12_7 dX12_draftHasWord_17 hs1 hq4 ?_
      refine k_iload_n C.1 2 rfl dX12_draftHasWord_20 ?_
      obtain ⟨hs5, h⟩ := h
      obtain ⟨hi6, h⟩ := h
      refine k_iald C.1 dX12_draftHasWord_21 hs5 hi6 ?_
      refine k_callS (As := [.int (rI M q4 x2.toNatClampNeg)]) (rest := []) C.1 V_X12_138 (c_X12_isWord h) ⟨rfl, rfl, Nat.le_of_ble_eq_true rfl, Nat.le_of_ble_eq_true rfl⟩  rfl rfl (Nat.le_of_ble_eq_true rfl) ⟨Nat.zero_le _, Nat.zero_le _⟩ dX12_draftHasWord_22 (kp_i fun r8 M7 h9 => ?_)
      replace h := h9
      refine k_if_eq C.1 32 dX12_draftHasWord_25 (by decide) (fun c9 => ?_) (fun c9 => ?_)
      · have h := h.1 c9
        refine k_iconst (v := 0) C.1 dX12_draftHasWord_32 (by decide) ?_
        refine k_sub (lv' := [(0, .ref x0), (2, .int x2)]) [0, 2] rfl ?_
        exact b_X12_draftHasWord_33 C x0 x2 (0 : Int32) M7 k4 hk4 h
      · have h := h.2 c9
        refine k_sub (lv' := [(0, .ref x0), (2, .int x2)]) [0, 2] rfl ?_
        exact b_X12_draftHasWord_28 C x0 x2 M7 k4 hk4 h
set_option maxRecDepth 100000 in
theorem b_X12_draftHasWord_4 {X : gh_X} {sh : gh_Sh} {n : Nat} {post : Int32 → gh_M → Prop} (C : gh_CR X cX12_draftHasWord RX12 3 (some .boolean) sh n 0 0 (gh_pi post)) (x0 : Nat) (x1 : Int32) (x2 : Int32) (M : gh_M) (h : wp_X12_draftHasWord_4 sh post x0 x1 x2 M) : gh_G X rm_X12_draftHasWord 3 0 0 sh n 4 [(0, .ref x0), (1, .int x1), (2, .int x2)] [] M := by
  unfold wp_X12_draftHasWord_4 at h
  exact gh_loop_use h (fun v => gh_G X rm_X12_draftHasWord 3 0 0 sh n 4 [(0, .ref x0), (1, .int v.1), (2, .int v.2.1)] [] v.2.2) (fun k v hk hb => bb_X12_draftHasWord_4 C x0 (fun x1 x2 M => k (x1, x2, M)) (fun x1 x2 M h => hk (x1, x2, M) h) v.1 v.2.1 v.2.2 hb)
set_option maxRecDepth 100000 in
set_option maxHeartbeats 4000000 in
theorem c_X12_draftHasWord {l : Launch} {D : va_G} {dA : Nat → ClassId} {sh : gh_Sh} {b0 n : Nat} {M : gh_M} {x0 : Nat} {post : Int32 → gh_M → Prop} (h : wp_X12_draftHasWord sh M x0 post) : gh_Met l D dA sh b0 n yX12_draftHasWord cX12_draftHasWord 3 (some .boolean) rm_X12_draftHasWord M [.ref x0] (gh_pi post) := by
  refine gh_open (by decide) (Nat.le_of_ble_eq_true rfl) (fun X C => ?_)
  show gh_G X rm_X12_draftHasWord 3 0 0 sh n 0 [(0, .ref x0)] [] M
  unfold wp_X12_draftHasWord at h
  refine k_iconst (v := 0) C.1 dX12_draftHasWord_0 (by decide) ?_
  refine k_istore_n (lv' := [(1, .int (0 : Int32)), (0, .ref x0)]) C.1 dX12_draftHasWord_1 (by decide) rfl ?_
  refine k_iconst (v := 0) C.1 dX12_draftHasWord_2 (by decide) ?_
  refine k_istore_n (lv' := [(2, .int (0 : Int32)), (1, .int (0 : Int32)), (0, .ref x0)]) C.1 dX12_draftHasWord_3 (by decide) rfl ?_
  refine k_sub (lv' := [(0, .ref x0), (1, .int (0 : Int32)), (2, .int (0 : Int32))]) [2, 1, 0] rfl ?_
  exact b_X12_draftHasWord_4 C x0 (0 : Int32) (0 : Int32) M h
abbrev rm_X12_piece : Room := { frames := 3, cells := 0, slots := 0, locals := 64 }
set_option maxRecDepth 100000 in
set_option maxHeartbeats 4000000 in
theorem bb_X12_piece_74 {X : gh_X} {sh : gh_Sh} {n : Nat} {post : Int32 → gh_M → Prop} (C : gh_CR X cX12_piece RX12 3 (some .int) sh n 0 0 (gh_pi post)) (x0 : Nat) (k74 : Int32 → gh_M → Prop) (hk74 : ∀ (y2 : Int32) (M : gh_M), k74 y2 M → gh_G X rm_X12_piece 3 0 0 sh n 74 [(0, .ref x0), (2, .int y2)] [] M) (x2 : Int32) (M : gh_M) (h : wb_X12_piece_74 sh post x0 k74 x2 M) : gh_G X rm_X12_piece 3 0 0 sh n 74 [(0, .ref x0), (2, .int x2)] [] M := by
  unfold wb_X12_piece_74 at h
  refine k_iload_n C.1 1 rfl dX12_piece_74 ?_
  refine k_aload_n C.1 0 rfl dX12_piece_75 ?_
  obtain ⟨hs1, h⟩ := h
  refine k_getI C.1 F_X12_148 dX12_piece_76 hs1 ?_
  refine k_icmp_ge C.1 108 dX12_piece_79 (by decide) (fun c2 => ?_) (fun c2 => ?_)
  · have h := h.1 c2
    refine k_aload_n C.1 0 rfl dX12_piece_108 ?_
    refine k_dup C.1 dX12_piece_109 rfl ?_
    refine k_getI C.1 F_X12_155 dX12_piece_110 hs1 ?_
    refine k_iconst (v := 1) C.1 dX12_piece_113 (by decide) ?_
    refine k_iadd C.1 dX12_piece_114 ?_
    refine k_putI C.1 F_X12_155 dX12_piece_115 hs1 rfl rfl ?_
    refine k_aload_n C.1 0 rfl dX12_piece_118 ?_
    refine k_iconst (v := 0) C.1 dX12_piece_119 (by decide) ?_
    refine k_putI C.1 F_X12_148 dX12_piece_120 hs1 rfl rfl ?_
    refine k_aload_n C.1 0 rfl dX12_piece_123 ?_
    refine k_getI C.1 F_X12_155 dX12_piece_124 hs1 ?_
    refine k_iconst (v := 1) C.1 dX12_piece_127 (by decide) ?_
    refine k_isub C.1 dX12_piece_128 ?_
    exact k_iret C dX12_piece_129 h
  · have h := h.2 c2
    refine k_aload_n C.1 0 rfl dX12_piece_82 ?_
    obtain ⟨q3, hq3, h⟩ := h
    refine k_getR C.1 F_X12_34 dX12_piece_83 hs1 hq3 ?_
    refine k_bipush (v := 8) C.1 dX12_piece_86 (by decide) ?_
    refine k_aload_n C.1 0 rfl dX12_piece_88 ?_
    refine k_getI C.1 F_X12_155 dX12_piece_89 hs1 ?_
    refine k_imul C.1 dX12_piece_92 ?_
    refine k_iload_n C.1 1 rfl dX12_piece_93 ?_
    refine k_iadd C.1 dX12_piece_94 ?_
    refine k_aload_n C.1 0 rfl dX12_piece_95 ?_
    obtain ⟨q4, hq4, h⟩ := h
    refine k_getR C.1 F_X12_7 dX12_piece_96 hs1 hq4 ?_
    refine k_iload_n C.1 1 rfl dX12_piece_99 ?_
    obtain ⟨hs5, h⟩ := h
    obtain ⟨hi6, h⟩ := h
    refine k_iald C.1 dX12_piece_100 hs5 hi6 ?_
    obtain ⟨hs8, h⟩ := h
    obtain ⟨hi7, h⟩ := h
    refine k_iast C.1 dX12_piece_101 hs8 hi7 ?_
    refine k_iinc (v := x2 + 1) (lv' := [(2, .int (x2 + 1)), (0, .ref x0)]) C.1 1 rfl dX12_piece_102 (by decide) rfl rfl ?_
    refine k_goto C.1 74 dX12_piece_105 (by decide) ?_
    refine k_sub (lv' := [(0, .ref x0), (2, .int (x2 + 1))]) [1, 0] rfl ?_
    exact hk74 (x2 + 1) (wI M q3 (((8 : Int32) * (rI M x0 8)) + x2).toNatClampNeg (rI M q4 x2.toNatClampNeg)) h
set_option maxRecDepth 100000 in
theorem b_X12_piece_74 {X : gh_X} {sh : gh_Sh} {n : Nat} {post : Int32 → gh_M → Prop} (C : gh_CR X cX12_piece RX12 3 (some .int) sh n 0 0 (gh_pi post)) (x0 : Nat) (x2 : Int32) (M : gh_M) (h : wp_X12_piece_74 sh post x0 x2 M) : gh_G X rm_X12_piece 3 0 0 sh n 74 [(0, .ref x0), (2, .int x2)] [] M := by
  unfold wp_X12_piece_74 at h
  exact gh_loop_use h (fun v => gh_G X rm_X12_piece 3 0 0 sh n 74 [(0, .ref x0), (2, .int v.1)] [] v.2) (fun k v hk hb => bb_X12_piece_74 C x0 (fun x2 M => k (x2, M)) (fun x2 M h => hk (x2, M) h) v.1 v.2 hb)
set_option maxRecDepth 100000 in
set_option maxHeartbeats 4000000 in
theorem c_X12_piece {l : Launch} {D : va_G} {dA : Nat → ClassId} {sh : gh_Sh} {b0 n : Nat} {M : gh_M} {x0 : Nat} {x1 : Int32} {post : Int32 → gh_M → Prop} (h : wp_X12_piece sh M x0 x1 post) : gh_Met l D dA sh b0 n yX12_piece cX12_piece 3 (some .int) rm_X12_piece M [.ref x0, .int x1] (gh_pi post) := by
  refine gh_open (by decide) (Nat.le_of_ble_eq_true rfl) (fun X C => ?_)
  show gh_G X rm_X12_piece 3 0 0 sh n 0 [(0, .ref x0), (1, .int x1)] [] M
  unfold wp_X12_piece at h
  refine k_iload_n C.1 1 rfl dX12_piece_0 ?_
  refine k_iconst (v := 0) C.1 dX12_piece_1 (by decide) ?_
  refine k_iconst (v := 2) C.1 dX12_piece_2 (by decide) ?_
  refine k_callS (As := [.int x1, .int (0 : Int32), .int (2 : Int32)]) (rest := []) C.1 V_X12_128 (c_X12_in h) ⟨rfl, rfl, Nat.le_of_ble_eq_true rfl, Nat.le_of_ble_eq_true rfl⟩  rfl rfl (Nat.le_of_ble_eq_true rfl) ⟨Nat.zero_le _, Nat.zero_le _⟩ dX12_piece_3 (kp_i fun r2 M1 h9 => ?_)
  replace h := h9
  refine k_if_ne C.1 11 dX12_piece_6 (by decide) (fun c3 => ?_) (fun c3 => ?_)
  · have h := h.2 c3
    refine k_aload_n C.1 0 rfl dX12_piece_11 ?_
    obtain ⟨hs4, h⟩ := h
    refine k_getI C.1 F_X12_148 dX12_piece_12 hs4 ?_
    refine k_iconst (v := 1) C.1 dX12_piece_15 (by decide) ?_
    refine k_bipush (v := 8) C.1 dX12_piece_16 (by decide) ?_
    refine k_callS (As := [.int (rI M1 x0 0), .int (1 : Int32), .int (8 : Int32)]) (rest := []) C.1 V_X12_128 (c_X12_in h) ⟨rfl, rfl, Nat.le_of_ble_eq_true rfl, Nat.le_of_ble_eq_true rfl⟩  rfl rfl (Nat.le_of_ble_eq_true rfl) ⟨Nat.zero_le _, Nat.zero_le _⟩ dX12_piece_18 (kp_i fun r6 M5 h9 => ?_)
    replace h := h9
    refine k_if_ne C.1 27 dX12_piece_21 (by decide) (fun c7 => ?_) (fun c7 => ?_)
    · have h := h.2 c7
      refine k_aload_n C.1 0 rfl dX12_piece_27 ?_
      refine k_callV (As := []) (rest := []) C.1 V_X12_151 (c_X12_draftHasOwn h) ⟨rfl, rfl, Nat.le_of_ble_eq_true rfl, Nat.le_of_ble_eq_true rfl⟩ hs4  rfl rfl (Nat.le_of_ble_eq_true rfl) ⟨Nat.zero_le _, Nat.zero_le _⟩ dX12_piece_28 (kp_i fun r9 M8 h9 => ?_)
      replace h := h9
      refine k_if_eq C.1 37 dX12_piece_31 (by decide) (fun c10 => ?_) (fun c10 => ?_)
      · have h := h.1 c10
        refine k_aload_n C.1 0 rfl dX12_piece_37 ?_
        refine k_getI C.1 F_X12_155 dX12_piece_38 hs4 ?_
        refine k_bipush (v := 8) C.1 dX12_piece_41 (by decide) ?_
        refine k_icmp_ne C.1 49 dX12_piece_43 (by decide) (fun c11 => ?_) (fun c11 => ?_)
        · have h := h.2 c11
          refine k_aload_n C.1 0 rfl dX12_piece_49 ?_
          obtain ⟨q12, hq12, h⟩ := h
          refine k_getR C.1 F_X12_28 dX12_piece_50 hs4 hq12 ?_
          refine k_aload_n C.1 0 rfl dX12_piece_53 ?_
          refine k_getI C.1 F_X12_155 dX12_piece_54 hs4 ?_
          refine k_iload_n C.1 1 rfl dX12_piece_57 ?_
          obtain ⟨hs14, h⟩ := h
          obtain ⟨hi13, h⟩ := h
          refine k_iast C.1 dX12_piece_58 hs14 hi13 ?_
          refine k_aload_n C.1 0 rfl dX12_piece_59 ?_
          obtain ⟨q15, hq15, h⟩ := h
          refine k_getR C.1 F_X12_31 dX12_piece_60 hs4 hq15 ?_
          refine k_aload_n C.1 0 rfl dX12_piece_63 ?_
          refine k_getI C.1 F_X12_155 dX12_piece_64 hs4 ?_
          refine k_aload_n C.1 0 rfl dX12_piece_67 ?_
          refine k_getI C.1 F_X12_148 dX12_piece_68 hs4 ?_
          obtain ⟨hs17, h⟩ := h
          obtain ⟨hi16, h⟩ := h
          refine k_iast C.1 dX12_piece_71 hs17 hi16 ?_
          refine k_iconst (v := 0) C.1 dX12_piece_72 (by decide) ?_
          refine k_istore_n (lv' := [(2, .int (0 : Int32)), (0, .ref x0), (1, .int x1)]) C.1 dX12_piece_73 (by decide) rfl ?_
          refine k_sub (lv' := [(0, .ref x0), (2, .int (0 : Int32))]) [1, 0] rfl ?_
          exact b_X12_piece_74 C x0 (0 : Int32) (wI (wI M8 q12 (rI M8 x0 8).toNatClampNeg x1) q15 (rI (wI M8 q12 (rI M8 x0 8).toNatClampNeg x1) x0 8).toNatClampNeg (rI (wI M8 q12 (rI M8 x0 8).toNatClampNeg x1) x0 0)) h
        · have h := h.1 c11
          refine k_bipush (v := (-2)) C.1 dX12_piece_46 (by decide) ?_
          exact k_iret C dX12_piece_48 h
      · have h := h.2 c10
        refine k_bipush (v := (-3)) C.1 dX12_piece_34 (by decide) ?_
        exact k_iret C dX12_piece_36 h
    · have h := h.1 c7
      refine k_bipush (v := (-6)) C.1 dX12_piece_24 (by decide) ?_
      exact k_iret C dX12_piece_26 h
  · have h := h.1 c3
    refine k_iconst (v := (-1)) C.1 dX12_piece_9 (by decide) ?_
    exact k_iret C dX12_piece_10 h
abbrev rm_X12_drop : Room := { frames := 0, cells := 0, slots := 0, locals := 0 }
set_option maxRecDepth 100000 in
set_option maxHeartbeats 4000000 in
theorem c_X12_drop {l : Launch} {D : va_G} {dA : Nat → ClassId} {sh : gh_Sh} {b0 n : Nat} {M : gh_M} {x0 : Nat} {post : Int32 → gh_M → Prop} (h : wp_X12_drop sh M x0 post) : gh_Met l D dA sh b0 n yX12_drop cX12_drop 2 (some .int) rm_X12_drop M [.ref x0] (gh_pi post) := by
  refine gh_open (by decide) (Nat.le_of_ble_eq_true rfl) (fun X C => ?_)
  show gh_G X rm_X12_drop 2 0 0 sh n 0 [(0, .ref x0)] [] M
  unfold wp_X12_drop at h
  refine k_aload_n C.1 0 rfl dX12_drop_0 ?_
  obtain ⟨hs1, h⟩ := h
  refine k_getI C.1 F_X12_155 dX12_drop_1 hs1 ?_
  refine k_istore_n (lv' := [(1, .int (rI M x0 8)), (0, .ref x0)]) C.1 dX12_drop_4 (by decide) rfl ?_
  refine k_aload_n C.1 1 rfl dX12_drop_5 ?_
  refine k_iconst (v := 0) C.1 dX12_drop_6 (by decide) ?_
  refine k_putI C.1 F_X12_155 dX12_drop_7 hs1 rfl rfl ?_
  refine k_iload_n C.1 0 rfl dX12_drop_10 ?_
  exact k_iret C dX12_drop_11 h
abbrev rm_X12_least : Room := { frames := 0, cells := 0, slots := 0, locals := 0 }
set_option maxRecDepth 100000 in
set_option maxHeartbeats 4000000 in
theorem c_X12_least {l : Launch} {D : va_G} {dA : Nat → ClassId} {sh : gh_Sh} {b0 n : Nat} {M : gh_M} {x0 : Int32} {x1 : Int32} {post : Int32 → gh_M → Prop} (h : wp_X12_least sh M x0 x1 post) : gh_Met l D dA sh b0 n yX12_least cX12_least 2 (some .int) rm_X12_least M [.int x0, .int x1] (gh_pi post) := by
  refine gh_open (by decide) (Nat.le_of_ble_eq_true rfl) (fun X C => ?_)
  show gh_G X rm_X12_least 2 0 0 sh n 0 [(0, .int x0), (1, .int x1)] [] M
  unfold wp_X12_least at h
  refine k_iload_n C.1 0 rfl dX12_least_0 ?_
  refine k_iload_n C.1 1 rfl dX12_least_1 ?_
  refine k_icmp_ge C.1 9 dX12_least_2 (by decide) (fun c1 => ?_) (fun c1 => ?_)
  · have h := h.1 c1
    refine k_iload_n C.1 1 rfl dX12_least_9 ?_
    exact k_iret C dX12_least_10 h
  · have h := h.2 c1
    refine k_iload_n C.1 0 rfl dX12_least_5 ?_
    refine k_goto C.1 10 dX12_least_6 (by decide) ?_
    exact k_iret C dX12_least_10 h
abbrev rm_X12_apart : Room := { frames := 1, cells := 0, slots := 0, locals := 21 }
set_option maxRecDepth 100000 in
set_option maxHeartbeats 4000000 in
theorem bb_X12_apart_138 {X : gh_X} {sh : gh_Sh} {n : Nat} {post : Int32 → gh_M → Prop} (C : gh_CR X cX12_apart RX12 10 (some .int) sh n 0 0 (gh_pi post)) (x0 : Nat) (x1 : Nat) (x2 : Int32) (x3 : Int32) (x4 : Nat) (x5 : Int32) (x6 : Int32) (x7 : Int32) (k28 : Int32 → gh_M → Prop) (hk28 : ∀ (y7 : Int32) (M : gh_M), k28 y7 M → gh_G X rm_X12_apart 10 0 0 sh n 28 [(0, .ref x0), (1, .ref x1), (2, .int x2), (3, .int x3), (4, .ref x4), (5, .int x5), (6, .int x6), (7, .int y7)] [] M) (k138 : Int32 → gh_M → Prop) (hk138 : ∀ (y8 : Int32) (M : gh_M), k138 y8 M → gh_G X rm_X12_apart 10 0 0 sh n 138 [(0, .ref x0), (1, .ref x1), (2, .int x2), (3, .int x3), (4, .ref x4), (5, .int x5), (6, .int x6), (7, .int x7), (8, .int y8)] [] M) (x8 : Int32) (M : gh_M) (h : wb_X12_apart_138 sh post k28 x0 x1 x2 x3 x4 x5 x6 x7 k138 x8 M) : gh_G X rm_X12_apart 10 0 0 sh n 138 [(0, .ref x0), (1, .ref x1), (2, .int x2), (3, .int x3), (4, .ref x4), (5, .int x5), (6, .int x6), (7, .int x7), (8, .int x8)] [] M := by
  unfold wb_X12_apart_138 at h
  refine k_iload C.1 8 rfl dX12_apart_138 ?_
  refine k_iload C.1 6 rfl dX12_apart_140 ?_
  refine k_icmp_gt C.1 165 dX12_apart_142 (by decide) (fun c1 => ?_) (fun c1 => ?_)
  · have h := h.1 c1
    refine k_iinc (v := x7 + 1) (lv' := [(7, .int (x7 + 1)), (0, .ref x0), (1, .ref x1), (2, .int x2), (3, .int x3), (4, .ref x4), (5, .int x5), (6, .int x6), (8, .int x8)]) C.1 7 rfl dX12_apart_165 (by decide) rfl rfl ?_
    refine k_goto C.1 28 dX12_apart_168 (by decide) ?_
    refine k_sub (lv' := [(0, .ref x0), (1, .ref x1), (2, .int x2), (3, .int x3), (4, .ref x4), (5, .int x5), (6, .int x6), (7, .int (x7 + 1))]) [1, 2, 3, 4, 5, 6, 7, 0] rfl ?_
    exact hk28 (x7 + 1) M h
  · have h := h.2 c1
    refine k_aload_n C.1 0 rfl dX12_apart_145 ?_
    obtain ⟨hs2, h⟩ := h
    obtain ⟨q3, hq3, h⟩ := h
    refine k_getR C.1 F_X12_89 dX12_apart_146 hs2 hq3 ?_
    refine k_iload C.1 8 rfl dX12_apart_149 ?_
    refine k_aload_n C.1 0 rfl dX12_apart_151 ?_
    obtain ⟨q4, hq4, h⟩ := h
    refine k_getR C.1 F_X12_86 dX12_apart_152 hs2 hq4 ?_
    refine k_iload C.1 8 rfl dX12_apart_155 ?_
    obtain ⟨hs5, h⟩ := h
    obtain ⟨hi6, h⟩ := h
    refine k_iald C.1 dX12_apart_157 hs5 hi6 ?_
    obtain ⟨hs8, h⟩ := h
    obtain ⟨hi7, h⟩ := h
    refine k_iast C.1 dX12_apart_158 hs8 hi7 ?_
    refine k_iinc (v := x8 + 1) (lv' := [(8, .int (x8 + 1)), (0, .ref x0), (1, .ref x1), (2, .int x2), (3, .int x3), (4, .ref x4), (5, .int x5), (6, .int x6), (7, .int x7)]) C.1 8 rfl dX12_apart_159 (by decide) rfl rfl ?_
    refine k_goto C.1 138 dX12_apart_162 (by decide) ?_
    refine k_sub (lv' := [(0, .ref x0), (1, .ref x1), (2, .int x2), (3, .int x3), (4, .ref x4), (5, .int x5), (6, .int x6), (7, .int x7), (8, .int (x8 + 1))]) [1, 2, 3, 4, 5, 6, 7, 8, 0] rfl ?_
    exact hk138 (x8 + 1) (wI M q3 x8.toNatClampNeg (rI M q4 x8.toNatClampNeg)) h
set_option maxRecDepth 100000 in
theorem b_X12_apart_138 {X : gh_X} {sh : gh_Sh} {n : Nat} {post : Int32 → gh_M → Prop} (C : gh_CR X cX12_apart RX12 10 (some .int) sh n 0 0 (gh_pi post)) (x0 : Nat) (x1 : Nat) (x2 : Int32) (x3 : Int32) (x4 : Nat) (x5 : Int32) (x6 : Int32) (x7 : Int32) (x8 : Int32) (M : gh_M) (k28 : Int32 → gh_M → Prop) (hk28 : ∀ (y7 : Int32) (M : gh_M), k28 y7 M → gh_G X rm_X12_apart 10 0 0 sh n 28 [(0, .ref x0), (1, .ref x1), (2, .int x2), (3, .int x3), (4, .ref x4), (5, .int x5), (6, .int x6), (7, .int y7)] [] M) (h : wp_X12_apart_138 sh post k28 x0 x1 x2 x3 x4 x5 x6 x7 x8 M) : gh_G X rm_X12_apart 10 0 0 sh n 138 [(0, .ref x0), (1, .ref x1), (2, .int x2), (3, .int x3), (4, .ref x4), (5, .int x5), (6, .int x6), (7, .int x7), (8, .int x8)] [] M := by
  unfold wp_X12_apart_138 at h
  exact gh_loop_use h (fun v => gh_G X rm_X12_apart 10 0 0 sh n 138 [(0, .ref x0), (1, .ref x1), (2, .int x2), (3, .int x3), (4, .ref x4), (5, .int x5), (6, .int x6), (7, .int x7), (8, .int v.1)] [] v.2) (fun k v hk hb => bb_X12_apart_138 C x0 x1 x2 x3 x4 x5 x6 x7 k28 hk28 (fun x8 M => k (x8, M)) (fun x8 M h => hk (x8, M) h) v.1 v.2 hb)
set_option maxRecDepth 100000 in
set_option maxHeartbeats 4000000 in
theorem b_X12_apart_87 {X : gh_X} {sh : gh_Sh} {n : Nat} {post : Int32 → gh_M → Prop} (C : gh_CR X cX12_apart RX12 10 (some .int) sh n 0 0 (gh_pi post)) (x0 : Nat) (x1 : Nat) (x2 : Int32) (x3 : Int32) (x4 : Nat) (x5 : Int32) (x6 : Int32) (x7 : Int32) (x8 : Int32) (s0 : Int32) (s1 : Int32) (M : gh_M) (k28 : Int32 → gh_M → Prop) (hk28 : ∀ (y7 : Int32) (M : gh_M), k28 y7 M → gh_G X rm_X12_apart 10 0 0 sh n 28 [(0, .ref x0), (1, .ref x1), (2, .int x2), (3, .int x3), (4, .ref x4), (5, .int x5), (6, .int x6), (7, .int y7)] [] M) (k45 : Int32 → gh_M → Prop) (hk45 : ∀ (y8 : Int32) (M : gh_M), k45 y8 M → gh_G X rm_X12_apart 10 0 0 sh n 45 [(0, .ref x0), (1, .ref x1), (2, .int x2), (3, .int x3), (4, .ref x4), (5, .int x5), (6, .int x6), (7, .int x7), (8, .int y8)] [] M) (h : wp_X12_apart_87 sh post k28 k45 x0 x1 x2 x3 x4 x5 x6 x7 x8 s0 s1 M) : gh_G X rm_X12_apart 10 0 0 sh n 87 [(0, .ref x0), (1, .ref x1), (2, .int x2), (3, .int x3), (4, .ref x4), (5, .int x5), (6, .int x6), (7, .int x7), (8, .int x8)] [.int s1, .int s0] M := by
  unfold wp_X12_apart_87 at h
  refine k_iadd C.1 dX12_apart_87 ?_
  refine k_istore (lv' := [(9, .int (s0 + s1)), (0, .ref x0), (1, .ref x1), (2, .int x2), (3, .int x3), (4, .ref x4), (5, .int x5), (6, .int x6), (7, .int x7), (8, .int x8)]) C.1 dX12_apart_88 (by decide) rfl ?_
  refine k_iload C.1 0 rfl dX12_apart_90 ?_
  refine k_aload_n C.1 1 rfl dX12_apart_92 ?_
  obtain ⟨hs1, h⟩ := h
  obtain ⟨q2, hq2, h⟩ := h
  refine k_getR C.1 F_X12_89 dX12_apart_93 hs1 hq2 ?_
  refine k_iload C.1 9 rfl dX12_apart_96 ?_
  obtain ⟨hs3, h⟩ := h
  obtain ⟨hi4, h⟩ := h
  refine k_iald C.1 dX12_apart_98 hs3 hi4 ?_
  refine k_iconst (v := 1) C.1 dX12_apart_99 (by decide) ?_
  refine k_iadd C.1 dX12_apart_100 ?_
  refine k_callS (As := [.int (s0 + s1), .int ((rI M q2 x8.toNatClampNeg) + (1 : Int32))]) (rest := []) C.1 V_X12_158 (c_X12_least h) ⟨rfl, rfl, Nat.le_of_ble_eq_true rfl, Nat.le_of_ble_eq_true rfl⟩  rfl rfl (Nat.le_of_ble_eq_true rfl) ⟨Nat.zero_le _, Nat.zero_le _⟩ dX12_apart_101 (kp_i fun r6 M5 h9 => ?_)
  replace h := h9
  refine k_istore (lv' := [(9, .int r6), (0, .ref x0), (1, .ref x1), (2, .int x2), (3, .int x3), (4, .ref x4), (5, .int x5), (6, .int x6), (7, .int x7), (8, .int x8)]) C.1 dX12_apart_104 (by decide) rfl ?_
  refine k_aload_n C.1 1 rfl dX12_apart_106 ?_
  obtain ⟨q7, hq7, h⟩ := h
  refine k_getR C.1 F_X12_86 dX12_apart_107 hs1 hq7 ?_
  refine k_iload C.1 9 rfl dX12_apart_110 ?_
  refine k_iload C.1 0 rfl dX12_apart_112 ?_
  refine k_aload_n C.1 1 rfl dX12_apart_114 ?_
  refine k_getR C.1 F_X12_86 dX12_apart_115 hs1 hq7 ?_
  refine k_iload C.1 9 rfl dX12_apart_118 ?_
  refine k_iconst (v := 1) C.1 dX12_apart_120 (by decide) ?_
  refine k_isub C.1 dX12_apart_121 ?_
  obtain ⟨hs8, h⟩ := h
  obtain ⟨hi9, h⟩ := h
  refine k_iald C.1 dX12_apart_122 hs8 hi9 ?_
  refine k_iconst (v := 1) C.1 dX12_apart_123 (by decide) ?_
  refine k_iadd C.1 dX12_apart_124 ?_
  refine k_callS (As := [.int r6, .int ((rI M5 q7 (x8 - (1 : Int32)).toNatClampNeg) + (1 : Int32))]) (rest := [.int x8, .ref q7]) C.1 V_X12_158 (c_X12_least h) ⟨rfl, rfl, Nat.le_of_ble_eq_true rfl, Nat.le_of_ble_eq_true rfl⟩  rfl rfl (Nat.le_of_ble_eq_true rfl) ⟨Nat.zero_le _, Nat.zero_le _⟩ dX12_apart_125 (kp_i fun r11 M10 h9 => ?_)
  replace h := h9
  obtain ⟨hi12, h⟩ := h
  refine k_iast C.1 dX12_apart_128 hs8 hi12 ?_
  refine k_iinc (v := x8 + 1) (lv' := [(8, .int (x8 + 1)), (9, .int r6), (0, .ref x0), (1, .ref x1), (2, .int x2), (3, .int x3), (4, .ref x4), (5, .int x5), (6, .int x6), (7, .int x7)]) C.1 9 rfl dX12_apart_129 (by decide) rfl rfl ?_
  refine k_goto C.1 45 dX12_apart_132 (by decide) ?_
  refine k_sub (lv' := [(0, .ref x0), (1, .ref x1), (2, .int x2), (3, .int x3), (4, .ref x4), (5, .int x5), (6, .int x6), (7, .int x7), (8, .int (x8 + 1))]) [2, 3, 4, 5, 6, 7, 8, 9, 0] rfl ?_
  exact hk45 (x8 + 1) (wI M10 q7 x8.toNatClampNeg r11) h
set_option maxRecDepth 100000 in
set_option maxHeartbeats 4000000 in
theorem bb_X12_apart_45 {X : gh_X} {sh : gh_Sh} {n : Nat} {post : Int32 → gh_M → Prop} (C : gh_CR X cX12_apart RX12 10 (some .int) sh n 0 0 (gh_pi post)) (x0 : Nat) (x1 : Nat) (x2 : Int32) (x3 : Int32) (x4 : Nat) (x5 : Int32) (x6 : Int32) (x7 : Int32) (k28 : Int32 → gh_M → Prop) (hk28 : ∀ (y7 : Int32) (M : gh_M), k28 y7 M → gh_G X rm_X12_apart 10 0 0 sh n 28 [(0, .ref x0), (1, .ref x1), (2, .int x2), (3, .int x3), (4, .ref x4), (5, .int x5), (6, .int x6), (7, .int y7)] [] M) (k45 : Int32 → gh_M → Prop) (hk45 : ∀ (y8 : Int32) (M : gh_M), k45 y8 M → gh_G X rm_X12_apart 10 0 0 sh n 45 [(0, .ref x0), (1, .ref x1), (2, .int x2), (3, .int x3), (4, .ref x4), (5, .int x5), (6, .int x6), (7, .int x7), (8, .int y8)] [] M) (x8 : Int32) (M : gh_M) (h : wb_X12_apart_45 sh post k28 x0 x1 x2 x3 x4 x5 x6 x7 k45 x8 M) : gh_G X rm_X12_apart 10 0 0 sh n 45 [(0, .ref x0), (1, .ref x1), (2, .int x2), (3, .int x3), (4, .ref x4), (5, .int x5), (6, .int x6), (7, .int x7), (8, .int x8)] [] M := by
  unfold wb_X12_apart_45 at h
  refine k_iload C.1 8 rfl dX12_apart_45 ?_
  refine k_iload C.1 6 rfl dX12_apart_47 ?_
  refine k_icmp_gt C.1 135 dX12_apart_49 (by decide) (fun c1 => ?_) (fun c1 => ?_)
  · have h := h.1 c1
    refine k_iconst (v := 0) C.1 dX12_apart_135 (by decide) ?_
    refine k_istore (lv' := [(8, .int (0 : Int32)), (0, .ref x0), (1, .ref x1), (2, .int x2), (3, .int x3), (4, .ref x4), (5, .int x5), (6, .int x6), (7, .int x7)]) C.1 dX12_apart_136 (by decide) rfl ?_
    refine k_sub (lv' := [(0, .ref x0), (1, .ref x1), (2, .int x2), (3, .int x3), (4, .ref x4), (5, .int x5), (6, .int x6), (7, .int x7), (8, .int (0 : Int32))]) [1, 2, 3, 4, 5, 6, 7, 8, 0] rfl ?_
    exact b_X12_apart_138 C x0 x1 x2 x3 x4 x5 x6 x7 (0 : Int32) M k28 hk28 h
  · have h := h.2 c1
    refine k_aload_n C.1 0 rfl dX12_apart_52 ?_
    obtain ⟨hs2, h⟩ := h
    obtain ⟨q3, hq3, h⟩ := h
    refine k_getR C.1 F_X12_89 dX12_apart_53 hs2 hq3 ?_
    refine k_iload C.1 8 rfl dX12_apart_56 ?_
    refine k_iconst (v := 1) C.1 dX12_apart_58 (by decide) ?_
    refine k_isub C.1 dX12_apart_59 ?_
    obtain ⟨hs4, h⟩ := h
    obtain ⟨hi5, h⟩ := h
    refine k_iald C.1 dX12_apart_60 hs4 hi5 ?_
    refine k_aload_n C.1 1 rfl dX12_apart_61 ?_
    refine k_iload_n C.1 2 rfl dX12_apart_62 ?_
    refine k_iload C.1 7 rfl dX12_apart_63 ?_
    refine k_iadd C.1 dX12_apart_65 ?_
    refine k_iconst (v := 1) C.1 dX12_apart_66 (by decide) ?_
    refine k_isub C.1 dX12_apart_67 ?_
    obtain ⟨hs6, h⟩ := h
    obtain ⟨hi7, h⟩ := h
    refine k_iald C.1 dX12_apart_68 hs6 hi7 ?_
    refine k_aload C.1 4 rfl dX12_apart_69 ?_
    refine k_iload C.1 5 rfl dX12_apart_71 ?_
    refine k_iload C.1 8 rfl dX12_apart_73 ?_
    refine k_iadd C.1 dX12_apart_75 ?_
    refine k_iconst (v := 1) C.1 dX12_apart_76 (by decide) ?_
    refine k_isub C.1 dX12_apart_77 ?_
    obtain ⟨hs8, h⟩ := h
    obtain ⟨hi9, h⟩ := h
    refine k_iald C.1 dX12_apart_78 hs8 hi9 ?_
    refine k_icmp_ne C.1 86 dX12_apart_79 (by decide) (fun c10 => ?_) (fun c10 => ?_)
    · have h := h.2 c10
      refine k_iconst (v := 1) C.1 dX12_apart_86 (by decide) ?_
      exact b_X12_apart_87 C x0 x1 x2 x3 x4 x5 x6 x7 x8 (rI M q3 (x8 - (1 : Int32)).toNatClampNeg) (1 : Int32) M k28 hk28 k45 hk45 h
    · have h := h.1 c10
      refine k_iconst (v := 0) C.1 dX12_apart_82 (by decide) ?_
      refine k_goto C.1 87 dX12_apart_83 (by decide) ?_
      exact b_X12_apart_87 C x0 x1 x2 x3 x4 x5 x6 x7 x8 (rI M q3 (x8 - (1 : Int32)).toNatClampNeg) (0 : Int32) M k28 hk28 k45 hk45 h
set_option maxRecDepth 100000 in
theorem b_X12_apart_45 {X : gh_X} {sh : gh_Sh} {n : Nat} {post : Int32 → gh_M → Prop} (C : gh_CR X cX12_apart RX12 10 (some .int) sh n 0 0 (gh_pi post)) (x0 : Nat) (x1 : Nat) (x2 : Int32) (x3 : Int32) (x4 : Nat) (x5 : Int32) (x6 : Int32) (x7 : Int32) (x8 : Int32) (M : gh_M) (k28 : Int32 → gh_M → Prop) (hk28 : ∀ (y7 : Int32) (M : gh_M), k28 y7 M → gh_G X rm_X12_apart 10 0 0 sh n 28 [(0, .ref x0), (1, .ref x1), (2, .int x2), (3, .int x3), (4, .ref x4), (5, .int x5), (6, .int x6), (7, .int y7)] [] M) (h : wp_X12_apart_45 sh post k28 x0 x1 x2 x3 x4 x5 x6 x7 x8 M) : gh_G X rm_X12_apart 10 0 0 sh n 45 [(0, .ref x0), (1, .ref x1), (2, .int x2), (3, .int x3), (4, .ref x4), (5, .int x5), (6, .int x6), (7, .int x7), (8, .int x8)] [] M := by
  unfold wp_X12_apart_45 at h
  exact gh_loop_use h (fun v => gh_G X rm_X12_apart 10 0 0 sh n 45 [(0, .ref x0), (1, .ref x1), (2, .int x2), (3, .int x3), (4, .ref x4), (5, .int x5), (6, .int x6), (7, .int x7), (8, .int v.1)] [] v.2) (fun k v hk hb => bb_X12_apart_45 C x0 x1 x2 x3 x4 x5 x6 x7 k28 hk28 (fun x8 M => k (x8, M)) (fun x8 M h => hk (x8, M) h) v.1 v.2 hb)
set_option maxRecDepth 100000 in
set_option maxHeartbeats 4000000 in
theorem bb_X12_apart_28 {X : gh_X} {sh : gh_Sh} {n : Nat} {post : Int32 → gh_M → Prop} (C : gh_CR X cX12_apart RX12 10 (some .int) sh n 0 0 (gh_pi post)) (x0 : Nat) (x1 : Nat) (x2 : Int32) (x3 : Int32) (x4 : Nat) (x5 : Int32) (x6 : Int32) (k28 : Int32 → gh_M → Prop) (hk28 : ∀ (y7 : Int32) (M : gh_M), k28 y7 M → gh_G X rm_X12_apart 10 0 0 sh n 28 [(0, .ref x0), (1, .ref x1), (2, .int x2), (3, .int x3), (4, .ref x4), (5, .int x5), (6, .int x6), (7, .int y7)] [] M) (x7 : Int32) (M : gh_M) (h : wb_X12_apart_28 sh post x0 x1 x2 x3 x4 x5 x6 k28 x7 M) : gh_G X rm_X12_apart 10 0 0 sh n 28 [(0, .ref x0), (1, .ref x1), (2, .int x2), (3, .int x3), (4, .ref x4), (5, .int x5), (6, .int x6), (7, .int x7)] [] M := by
  unfold wb_X12_apart_28 at h
  refine k_iload C.1 7 rfl dX12_apart_28 ?_
  refine k_iload_n C.1 3 rfl dX12_apart_30 ?_
  refine k_icmp_gt C.1 171 dX12_apart_31 (by decide) (fun c1 => ?_) (fun c1 => ?_)
  · have h := h.1 c1
    refine k_aload_n C.1 0 rfl dX12_apart_171 ?_
    obtain ⟨hs2, h⟩ := h
    obtain ⟨q3, hq3, h⟩ := h
    refine k_getR C.1 F_X12_89 dX12_apart_172 hs2 hq3 ?_
    refine k_iload C.1 6 rfl dX12_apart_175 ?_
    obtain ⟨hs4, h⟩ := h
    obtain ⟨hi5, h⟩ := h
    refine k_iald C.1 dX12_apart_177 hs4 hi5 ?_
    exact k_iret C dX12_apart_178 h
  · have h := h.2 c1
    refine k_aload_n C.1 0 rfl dX12_apart_34 ?_
    obtain ⟨hs6, h⟩ := h
    obtain ⟨q7, hq7, h⟩ := h
    refine k_getR C.1 F_X12_86 dX12_apart_35 hs6 hq7 ?_
    refine k_iconst (v := 0) C.1 dX12_apart_38 (by decide) ?_
    refine k_iload C.1 7 rfl dX12_apart_39 ?_
    obtain ⟨hs9, h⟩ := h
    obtain ⟨hi8, h⟩ := h
    refine k_iast C.1 dX12_apart_41 hs9 hi8 ?_
    refine k_iconst (v := 1) C.1 dX12_apart_42 (by decide) ?_
    refine k_istore (lv' := [(8, .int (1 : Int32)), (0, .ref x0), (1, .ref x1), (2, .int x2), (3, .int x3), (4, .ref x4), (5, .int x5), (6, .int x6), (7, .int x7)]) C.1 dX12_apart_43 (by decide) rfl ?_
    refine k_sub (lv' := [(0, .ref x0), (1, .ref x1), (2, .int x2), (3, .int x3), (4, .ref x4), (5, .int x5), (6, .int x6), (7, .int x7), (8, .int (1 : Int32))]) [1, 2, 3, 4, 5, 6, 7, 8, 0] rfl ?_
    exact b_X12_apart_45 C x0 x1 x2 x3 x4 x5 x6 x7 (1 : Int32) (wI M q7 (0 : Int32).toNatClampNeg x7) k28 hk28 h
set_option maxRecDepth 100000 in
theorem b_X12_apart_28 {X : gh_X} {sh : gh_Sh} {n : Nat} {post : Int32 → gh_M → Prop} (C : gh_CR X cX12_apart RX12 10 (some .int) sh n 0 0 (gh_pi post)) (x0 : Nat) (x1 : Nat) (x2 : Int32) (x3 : Int32) (x4 : Nat) (x5 : Int32) (x6 : Int32) (x7 : Int32) (M : gh_M) (h : wp_X12_apart_28 sh post x0 x1 x2 x3 x4 x5 x6 x7 M) : gh_G X rm_X12_apart 10 0 0 sh n 28 [(0, .ref x0), (1, .ref x1), (2, .int x2), (3, .int x3), (4, .ref x4), (5, .int x5), (6, .int x6), (7, .int x7)] [] M := by
  unfold wp_X12_apart_28 at h
  exact gh_loop_use h (fun v => gh_G X rm_X12_apart 10 0 0 sh n 28 [(0, .ref x0), (1, .ref x1), (2, .int x2), (3, .int x3), (4, .ref x4), (5, .int x5), (6, .int x6), (7, .int v.1)] [] v.2) (fun k v hk hb => bb_X12_apart_28 C x0 x1 x2 x3 x4 x5 x6 (fun x7 M => k (x7, M)) (fun x7 M h => hk (x7, M) h) v.1 v.2 hb)
set_option maxRecDepth 100000 in
set_option maxHeartbeats 4000000 in
theorem bb_X12_apart_3 {X : gh_X} {sh : gh_Sh} {n : Nat} {post : Int32 → gh_M → Prop} (C : gh_CR X cX12_apart RX12 10 (some .int) sh n 0 0 (gh_pi post)) (x0 : Nat) (x1 : Nat) (x2 : Int32) (x3 : Int32) (x4 : Nat) (x5 : Int32) (x6 : Int32) (k3 : Int32 → gh_M → Prop) (hk3 : ∀ (y7 : Int32) (M : gh_M), k3 y7 M → gh_G X rm_X12_apart 10 0 0 sh n 3 [(0, .ref x0), (1, .ref x1), (2, .int x2), (3, .int x3), (4, .ref x4), (5, .int x5), (6, .int x6), (7, .int y7)] [] M) (x7 : Int32) (M : gh_M) (h : wb_X12_apart_3 sh post x0 x1 x2 x3 x4 x5 x6 k3 x7 M) : gh_G X rm_X12_apart 10 0 0 sh n 3 [(0, .ref x0), (1, .ref x1), (2, .int x2), (3, .int x3), (4, .ref x4), (5, .int x5), (6, .int x6), (7, .int x7)] [] M := by
  unfold wb_X12_apart_3 at h
  refine k_iload C.1 7 rfl dX12_apart_3 ?_
  refine k_iload C.1 6 rfl dX12_apart_5 ?_
  refine k_icmp_gt C.1 25 dX12_apart_7 (by decide) (fun c1 => ?_) (fun c1 => ?_)
  · have h := h.1 c1
    refine k_iconst (v := 1) C.1 dX12_apart_25 (by decide) ?_
    refine k_istore (lv' := [(7, .int (1 : Int32)), (0, .ref x0), (1, .ref x1), (2, .int x2), (3, .int x3), (4, .ref x4), (5, .int x5), (6, .int x6)]) C.1 dX12_apart_26 (by decide) rfl ?_
    refine k_sub (lv' := [(0, .ref x0), (1, .ref x1), (2, .int x2), (3, .int x3), (4, .ref x4), (5, .int x5), (6, .int x6), (7, .int (1 : Int32))]) [1, 2, 3, 4, 5, 6, 7, 0] rfl ?_
    exact b_X12_apart_28 C x0 x1 x2 x3 x4 x5 x6 (1 : Int32) M h
  · have h := h.2 c1
    refine k_aload_n C.1 0 rfl dX12_apart_10 ?_
    obtain ⟨hs2, h⟩ := h
    obtain ⟨q3, hq3, h⟩ := h
    refine k_getR C.1 F_X12_89 dX12_apart_11 hs2 hq3 ?_
    refine k_iload C.1 7 rfl dX12_apart_14 ?_
    refine k_iload C.1 7 rfl dX12_apart_16 ?_
    obtain ⟨hs5, h⟩ := h
    obtain ⟨hi4, h⟩ := h
    refine k_iast C.1 dX12_apart_18 hs5 hi4 ?_
    refine k_iinc (v := x7 + 1) (lv' := [(7, .int (x7 + 1)), (0, .ref x0), (1, .ref x1), (2, .int x2), (3, .int x3), (4, .ref x4), (5, .int x5), (6, .int x6)]) C.1 7 rfl dX12_apart_19 (by decide) rfl rfl ?_
    refine k_goto C.1 3 dX12_apart_22 (by decide) ?_
    refine k_sub (lv' := [(0, .ref x0), (1, .ref x1), (2, .int x2), (3, .int x3), (4, .ref x4), (5, .int x5), (6, .int x6), (7, .int (x7 + 1))]) [1, 2, 3, 4, 5, 6, 7, 0] rfl ?_
    exact hk3 (x7 + 1) (wI M q3 x7.toNatClampNeg x7) h
set_option maxRecDepth 100000 in
theorem b_X12_apart_3 {X : gh_X} {sh : gh_Sh} {n : Nat} {post : Int32 → gh_M → Prop} (C : gh_CR X cX12_apart RX12 10 (some .int) sh n 0 0 (gh_pi post)) (x0 : Nat) (x1 : Nat) (x2 : Int32) (x3 : Int32) (x4 : Nat) (x5 : Int32) (x6 : Int32) (x7 : Int32) (M : gh_M) (h : wp_X12_apart_3 sh post x0 x1 x2 x3 x4 x5 x6 x7 M) : gh_G X rm_X12_apart 10 0 0 sh n 3 [(0, .ref x0), (1, .ref x1), (2, .int x2), (3, .int x3), (4, .ref x4), (5, .int x5), (6, .int x6), (7, .int x7)] [] M := by
  unfold wp_X12_apart_3 at h
  exact gh_loop_use h (fun v => gh_G X rm_X12_apart 10 0 0 sh n 3 [(0, .ref x0), (1, .ref x1), (2, .int x2), (3, .int x3), (4, .ref x4), (5, .int x5), (6, .int x6), (7, .int v.1)] [] v.2) (fun k v hk hb => bb_X12_apart_3 C x0 x1 x2 x3 x4 x5 x6 (fun x7 M => k (x7, M)) (fun x7 M h => hk (x7, M) h) v.1 v.2 hb)
set_option maxRecDepth 100000 in
set_option maxHeartbeats 4000000 in
theorem c_X12_apart {l : Launch} {D : va_G} {dA : Nat → ClassId} {sh : gh_Sh} {b0 n : Nat} {M : gh_M} {x0 : Nat} {x1 : Nat} {x2 : Int32} {x3 : Int32} {x4 : Nat} {x5 : Int32} {x6 : Int32} {post : Int32 → gh_M → Prop} (h : wp_X12_apart sh M x0 x1 x2 x3 x4 x5 x6 post) : gh_Met l D dA sh b0 n yX12_apart cX12_apart 10 (some .int) rm_X12_apart M [.ref x0, .ref x1, .int x2, .int x3, .ref x4, .int x5, .int x6] (gh_pi post) := by
  refine gh_open (by decide) (Nat.le_of_ble_eq_true rfl) (fun X C => ?_)
  show gh_G X rm_X12_apart 10 0 0 sh n 0 [(0, .ref x0), (1, .ref x1), (2, .int x2), (3, .int x3), (4, .ref x4), (5, .int x5), (6, .int x6)] [] M
  unfold wp_X12_apart at h
  refine k_iconst (v := 0) C.1 dX12_apart_0 (by decide) ?_
  refine k_istore (lv' := [(7, .int (0 : Int32)), (0, .ref x0), (1, .ref x1), (2, .int x2), (3, .int x3), (4, .ref x4), (5, .int x5), (6, .int x6)]) C.1 dX12_apart_1 (by decide) rfl ?_
  refine k_sub (lv' := [(0, .ref x0), (1, .ref x1), (2, .int x2), (3, .int x3), (4, .ref x4), (5, .int x5), (6, .int x6), (7, .int (0 : Int32))]) [1, 2, 3, 4, 5, 6, 7, 0] rfl ?_
  exact b_X12_apart_3 C x0 x1 x2 x3 x4 x5 x6 (0 : Int32) M h
