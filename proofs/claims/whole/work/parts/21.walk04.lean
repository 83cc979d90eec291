abbrev rm_X11_textAt : Room := { frames := 3, cells := 0, slots := 0, locals := 63 }
set_option maxRecDepth 100000 in
set_option maxHeartbeats 4000000 in
theorem c_X11_textAt {l : Launch} {D : va_G} {dA : Nat → ClassId} {sh : gh_Sh} {b0 n : Nat} {M : gh_M} {x0 : Nat} {x1 : Int32} {x2 : Int32} {post : Option Nat → gh_M → Prop} (h : wp_X11_textAt sh M x0 x1 x2 post) : gh_Met l D dA sh b0 n yX11_textAt cX11_textAt 4 (some (.object "GlossHouse$Text")) rm_X11_textAt M [.ref x0, .int x1, .int x2] (gh_pq post) := by
  refine gh_open (by decide) (Nat.le_of_ble_eq_true rfl) (fun X C => ?_)
  show gh_G X rm_X11_textAt 4 0 0 sh n 0 [(0, .ref x0), (1, .int x1), (2, .int x2)] [] M
  unfold wp_X11_textAt at h
  refine k_aload_n C.1 0 rfl dX11_textAt_0 ?_
  obtain ⟨hs1, h⟩ := h
  obtain ⟨q2, hq2, h⟩ := h
  refine k_getR C.1 F_X11_68 dX11_textAt_1 hs1 hq2 ?_
  refine k_iload_n C.1 1 rfl dX11_textAt_4 ?_
  obtain ⟨hs3, h⟩ := h
  refine k_callV (As := [.int x1]) (rest := []) C.1 V_X11_121 (c_X0_at h) ⟨rfl, rfl, Nat.le_of_ble_eq_true rfl, Nat.le_of_ble_eq_true rfl⟩ hs3  rfl rfl (Nat.le_of_ble_eq_true rfl) ⟨Nat.zero_le _, Nat.zero_le _⟩ dX11_textAt_5 (kp_q fun r5 M4 h9 => ?_)
  replace h := h9
  refine k_astore_nq (lv' := [(3, va_rf r5), (0, .ref x0), (1, .int x1), (2, .int x2)]) C.1 dX11_textAt_8 (by decide) rfl ?_
  refine k_aload_nq C.1 0 rfl dX11_textAt_9 ?_
  refine k_ifnonnull C.1 17 dX11_textAt_10 (by decide) (fun a6 e => ?_) (fun e => ?_)
  · replace h := h.2 a6 e
    subst e
    refine k_aload_n C.1 0 rfl dX11_textAt_17 ?_
    refine k_iload_n C.1 3 rfl dX11_textAt_18 ?_
    obtain ⟨hs7, h⟩ := h
    refine k_callV (As := [.int x2]) (rest := []) C.1 V_X11_286 (c_X5_textIn h) ⟨rfl, rfl, Nat.le_of_ble_eq_true rfl, Nat.le_of_ble_eq_true rfl⟩ hs7  rfl rfl (Nat.le_of_ble_eq_true rfl) ⟨Nat.zero_le _, Nat.zero_le _⟩ dX11_textAt_19 (kp_q fun r9 M8 h9 => ?_)
    replace h := h9
    exact k_qret (r := r9) C dX11_textAt_22 h
  · replace h := h.1 e
    subst e
    refine k_null C.1 dX11_textAt_13 ?_
    refine k_goto C.1 22 dX11_textAt_14 (by decide) ?_
    exact k_qret (r := none) C dX11_textAt_22 h
abbrev rm_X11_write : Room := { frames := 4, cells := 0, slots := 0, locals := 88 }
set_option maxRecDepth 100000 in
set_option maxHeartbeats 4000000 in
theorem b_X11_write_69 {X : gh_X} {sh : gh_Sh} {n : Nat} {post : Int32 → gh_M → Prop} (C : gh_CR X cX11_write RX11 7 (some .int) sh n 0 0 (gh_pi post)) (x0 : Nat) (M : gh_M) (h : wp_X11_write_69 sh post x0 M) : gh_G X rm_X11_write 7 0 0 sh n 69 [(0, .ref x0)] [] M := by
  unfold wp_X11_write_69 at h
  refine k_aload_n C.1 0 rfl dX11_write_69 ?_
  obtain ⟨hs1, h⟩ := h
  obtain ⟨q2, hq2, h⟩ := h
  refine k_getR C.1 F_X11_12 dX11_write_70 hs1 hq2 ?_
  obtain ⟨hs3, h⟩ := h
  refine k_callV (As := []) (rest := []) C.1 V_X11_94 (c_X7_size h) ⟨rfl, rfl, Nat.le_of_ble_eq_true rfl, Nat.le_of_ble_eq_true rfl⟩ hs3  rfl rfl (Nat.le_of_ble_eq_true rfl) ⟨Nat.zero_le _, Nat.zero_le _⟩ dX11_write_73 (kp_i fun r5 M4 h9 => ?_)
  replace h := h9
  refine k_istore (lv' := [(6, .int r5), (0, .ref x0)]) C.1 dX11_write_76 (by decide) rfl ?_
  refine k_aload_n C.1 1 rfl dX11_write_78 ?_
  obtain ⟨q6, hq6, h⟩ := h
  refine k_getR C.1 F_X11_12 dX11_write_79 hs1 hq6 ?_
  obtain ⟨hs7, h⟩ := h
  refine k_callV (As := []) (rest := []) C.1 V_X11_98 (c_X7_clear h) ⟨rfl, rfl, Nat.le_of_ble_eq_true rfl, Nat.le_of_ble_eq_true rfl⟩ hs7  rfl rfl (Nat.le_of_ble_eq_true rfl) ⟨Nat.zero_le _, Nat.zero_le _⟩ dX11_write_82 (kp_v fun M8 h9 => ?_)
  replace h := h9
  refine k_iload C.1 0 rfl dX11_write_85 ?_
  exact k_iret C dX11_write_87 h
set_option maxRecDepth 100000 in
set_option maxHeartbeats 4000000 in
theorem c_X11_write {l : Launch} {D : va_G} {dA : Nat → ClassId} {sh : gh_Sh} {b0 n : Nat} {M : gh_M} {x0 : Nat} {x1 : Int32} {x2 : Int32} {x3 : Int32} {post : Int32 → gh_M → Prop} (h : wp_X11_write sh M x0 x1 x2 x3 post) : gh_Met l D dA sh b0 n yX11_write cX11_write 7 (some .int) rm_X11_write M [.ref x0, .int x1, .int x2, .int x3] (gh_pi post) := by
  refine gh_open (by decide) (Nat.le_of_ble_eq_true rfl) (fun X C => ?_)
  show gh_G X rm_X11_write 7 0 0 sh n 0 [(0, .ref x0), (1, .int x1), (2, .int x2), (3, .int x3)] [] M
  unfold wp_X11_write at h
  refine k_aload_n C.1 0 rfl dX11_write_0 ?_
  refine k_iload_n C.1 1 rfl dX11_write_1 ?_
  refine k_iload_n C.1 2 rfl dX11_write_2 ?_
  refine k_iload_n C.1 3 rfl dX11_write_3 ?_
  obtain ⟨hs1, h⟩ := h
  refine k_callV (As := [.int x1, .int x2, .int x3]) (rest := []) C.1 V_X11_190 (c_X11_whyNoWriting h) ⟨rfl, rfl, Nat.le_of_ble_eq_true rfl, Nat.le_of_ble_eq_true rfl⟩ hs1  rfl rfl (Nat.le_of_ble_eq_true rfl) ⟨Nat.zero_le _, Nat.zero_le _⟩ dX11_write_4 (kp_i fun r3 M2 h9 => ?_)
  replace h := h9
  refine k_istore (lv' := [(4, .int r3), (0, .ref x0), (1, .int x1), (2, .int x2), (3, .int x3)]) C.1 dX11_write_7 (by decide) rfl ?_
  refine k_iload C.1 0 rfl dX11_write_9 ?_
  refine k_if_ge C.1 17 dX11_write_11 (by decide) (fun c4 => ?_) (fun c4 => ?_)
  · have h := h.1 c4
    refine k_aload_n C.1 1 rfl dX11_write_17 ?_
    obtain ⟨q5, hq5, h⟩ := h
    refine k_getR C.1 F_X11_12 dX11_write_18 hs1 hq5 ?_
    obtain ⟨hs6, h⟩ := h
    refine k_callV (As := []) (rest := []) C.1 V_X11_94 (c_X7_size h) ⟨rfl, rfl, Nat.le_of_ble_eq_true rfl, Nat.le_of_ble_eq_true rfl⟩ hs6  rfl rfl (Nat.le_of_ble_eq_true rfl) ⟨Nat.zero_le _, Nat.zero_le _⟩ dX11_write_21 (kp_i fun r8 M7 h9 => ?_)
    replace h := h9
    refine k_if_ne C.1 30 dX11_write_24 (by decide) (fun c9 => ?_) (fun c9 => ?_)
    · have h := h.2 c9
      refine k_aload_n C.1 1 rfl dX11_write_30 ?_
      obtain ⟨q10, hq10, h⟩ := h
      refine k_getR C.1 F_X11_12 dX11_write_31 hs1 hq10 ?_
      refine k_iconst (v := 0) C.1 dX11_write_34 (by decide) ?_
      refine k_bipush (v := 100) C.1 dX11_write_35 (by decide) ?_
      obtain ⟨hs11, h⟩ := h
      refine k_callV (As := [.int (0 : Int32), .int (100 : Int32)]) (rest := []) C.1 V_X11_105 (c_X7_holdsAny h) ⟨rfl, rfl, Nat.le_of_ble_eq_true rfl, Nat.le_of_ble_eq_true rfl⟩ hs11  rfl rfl (Nat.le_of_ble_eq_true rfl) ⟨Nat.zero_le _, Nat.zero_le _⟩ dX11_write_37 (kp_i fun r13 M12 h9 => ?_)
      replace h := h9
      refine k_if_eq C.1 46 dX11_write_40 (by decide) (fun c14 => ?_) (fun c14 => ?_)
      · have h := h.1 c14
        refine k_aload_n C.1 1 rfl dX11_write_46 ?_
        refine k_iload_n C.1 2 rfl dX11_write_47 ?_
        refine k_iload_n C.1 3 rfl dX11_write_48 ?_
        refine k_callV (As := [.int x1, .int x2]) (rest := []) C.1 V_X11_194 (c_X11_textAt h) ⟨rfl, rfl, Nat.le_of_ble_eq_true rfl, Nat.le_of_ble_eq_true rfl⟩ hs1  rfl rfl (Nat.le_of_ble_eq_true rfl) ⟨Nat.zero_le _, Nat.zero_le _⟩ dX11_write_49 (kp_q fun r16 M15 h9 => ?_)
        replace h := h9
        refine k_astoreq (lv' := [(5, va_rf r16), (4, .int r3), (0, .ref x0), (1, .int x1), (2, .int x2), (3, .int x3)]) C.1 dX11_write_52 (by decide) rfl ?_
        refine k_aloadq C.1 0 rfl dX11_write_54 ?_
        refine k_ifnull C.1 69 dX11_write_56 (by decide) (fun e => ?_) (fun a17 e => ?_)
        · replace h := h.1 e
          subst e
          refine k_sub (lv' := [(0, .ref x0)]) [2] rfl ?_
          exact b_X11_write_69 C x0 M15 h
        · replace h := h.2 a17 e
          subst e
          refine k_aload C.1 0 rfl dX11_write_59 ?_
          refine k_aload_n C.1 2 rfl dX11_write_61 ?_
          obtain ⟨q18, hq18, h⟩ := h
          refine k_getR C.1 F_X11_12 dX11_write_62 hs1 hq18 ?_
          refine k_iload_n C.1 5 rfl dX11_write_65 ?_
          obtain ⟨hs19, h⟩ := h
          refine k_callV (As := [.ref q18, .int x3]) (rest := []) C.1 V_X11_198 (c_X10_becomeDraft h) ⟨rfl, rfl, Nat.le_of_ble_eq_true rfl, Nat.le_of_ble_eq_true rfl⟩ hs19  rfl rfl (Nat.le_of_ble_eq_true rfl) ⟨Nat.zero_le _, Nat.zero_le _⟩ dX11_write_66 (kp_v fun M20 h9 => ?_)
          replace h := h9
          refine k_sub (lv' := [(0, .ref x0)]) [2] rfl ?_
          exact b_X11_write_69 C x0 M20 h
      · have h := h.2 c14
        refine k_bipush (v := (-3)) C.1 dX11_write_43 (by decide) ?_
        exact k_iret C dX11_write_45 h
    · have h := h.1 c9
      refine k_bipush (v := (-6)) C.1 dX11_write_27 (by decide) ?_
      exact k_iret C dX11_write_29 h
  · have h := h.2 c4
    refine k_iload C.1 0 rfl dX11_write_14 ?_
    exact k_iret C dX11_write_16 h
abbrev rm_X11_hasOtherHoles : Room := { frames := 1, cells := 0, slots := 0, locals := 23 }
set_option maxRecDepth 100000 in
set_option maxHeartbeats 4000000 in
theorem bb_X11_hasOtherHoles_3 {X : gh_X} {sh : gh_Sh} {n : Nat} {post : Int32 → gh_M → Prop} (C : gh_CR X cX11_hasOtherHoles RX11 3 (some .boolean) sh n 0 0 (gh_pi post)) (x0 : Nat) (x1 : Nat) (k3 : Int32 → gh_M → Prop) (hk3 : ∀ (y2 : Int32) (M : gh_M), k3 y2 M → gh_G X rm_X11_hasOtherHoles 3 0 0 sh n 3 [(0, .ref x0), (1, .ref x1), (2, .int y2)] [] M) (x2 : Int32) (M : gh_M) (h : wb_X11_hasOtherHoles_3 sh post x0 x1 k3 x2 M) : gh_G X rm_X11_hasOtherHoles 3 0 0 sh n 3 [(0, .ref x0), (1, .ref x1), (2, .int x2)] [] M := by
  unfold wb_X11_hasOtherHoles_3 at h
  refine k_iload_n C.1 2 rfl dX11_hasOtherHoles_3 ?_
  refine k_bipush (v := 104) C.1 dX11_hasOtherHoles_4 (by decide) ?_
  refine k_icmp_ge C.1 30 dX11_hasOtherHoles_6 (by decide) (fun c1 => ?_) (fun c1 => ?_)
  · have h := h.1 c1
    refine k_iconst (v := 0) C.1 dX11_hasOtherHoles_30 (by decide) ?_
    exact k_zret C dX11_hasOtherHoles_31 (Or.inl rfl) h
  · have h := h.2 c1
    refine k_aload_n C.1 0 rfl dX11_hasOtherHoles_9 ?_
    refine k_iload_n C.1 2 rfl dX11_hasOtherHoles_10 ?_
    obtain ⟨hs2, h⟩ := h
    refine k_callV (As := [.int x2]) (rest := []) C.1 V_X11_302 (c_X7_timesOf h) ⟨rfl, rfl, Nat.le_of_ble_eq_true rfl, Nat.le_of_ble_eq_true rfl⟩ hs2  rfl rfl (Nat.le_of_ble_eq_true rfl) ⟨Nat.zero_le _, Nat.zero_le _⟩ dX11_hasOtherHoles_11 (kp_i fun r4 M3 h9 => ?_)
    replace h := h9
    refine k_aload_n C.1 1 rfl dX11_hasOtherHoles_14 ?_
    refine k_iload_n C.1 2 rfl dX11_hasOtherHoles_15 ?_
    obtain ⟨hs5, h⟩ := h
    refine k_callV (As := [.int x2]) (rest := [.int r4]) C.1 V_X11_302 (c_X7_timesOf h) ⟨rfl, rfl, Nat.le_of_ble_eq_true rfl, Nat.le_of_ble_eq_true rfl⟩ hs5  rfl rfl (Nat.le_of_ble_eq_true rfl) ⟨Nat.zero_le _, Nat.zero_le _⟩ dX11_hasOtherHoles_16 (kp_i fun r7 M6 h9 => ?_)
    replace h := h9
    refine k_icmp_eq C.1 24 dX11_hasOtherHoles_19 (by decide) (fun c8 => ?_) (fun c8 => ?_)
    · have h := h.1 c8
      refine k_iinc (v := x2 + 1) (lv' := [(2, .int (x2 + 1)), (0, .ref x0), (1, .ref x1)]) C.1 2 rfl dX11_hasOtherHoles_24 (by decide) rfl rfl ?_
      refine k_goto C.1 3 dX11_hasOtherHoles_27 (by decide) ?_
      refine k_sub (lv' := [(0, .ref x0), (1, .ref x1), (2, .int (x2 + 1))]) [1, 2, 0] rfl ?_
      exact hk3 (x2 + 1) M6 h
    · have h := h.2 c8
      refine k_iconst (v := 1) C.1 dX11_hasOtherHoles_22 (by decide) ?_
      exact k_zret C dX11_hasOtherHoles_23 (Or.inr rfl) h
set_option maxRecDepth 100000 in
theorem b_X11_hasOtherHoles_3 {X : gh_X} {sh : gh_Sh} {n : Nat} {post : Int32 → gh_M → Prop} (C : gh_CR X cX11_hasOtherHoles RX11 3 (some .boolean) sh n 0 0 (gh_pi post)) (x0 : Nat) (x1 : Nat) (x2 : Int32) (M : gh_M) (h : wp_X11_hasOtherHoles_3 sh post x0 x1 x2 M) : gh_G X rm_X11_hasOtherHoles 3 0 0 sh n 3 [(0, .ref x0), (1, .ref x1), (2, .int x2)] [] M := by
  unfold wp_X11_hasOtherHoles_3 at h
  exact gh_loop_use h (fun v => gh_G X rm_X11_hasOtherHoles 3 0 0 sh n 3 [(0, .ref x0), (1, .ref x1), (2, .int v.1)] [] v.2) (fun k v hk hb => bb_X11_hasOtherHoles_3 C x0 x1 (fun x2 M => k (x2, M)) (fun x2 M h => hk (x2, M) h) v.1 v.2 hb)
set_option maxRecDepth 100000 in
set_option maxHeartbeats 4000000 in
theorem c_X11_hasOtherHoles {l : Launch} {D : va_G} {dA : Nat → ClassId} {sh : gh_Sh} {b0 n : Nat} {M : gh_M} {x0 : Nat} {x1 : Nat} {post : Int32 → gh_M → Prop} (h : wp_X11_hasOtherHoles sh M x0 x1 post) : gh_Met l D dA sh b0 n yX11_hasOtherHoles cX11_hasOtherHoles 3 (some .boolean) rm_X11_hasOtherHoles M [.ref x0, .ref x1] (gh_pi post) := by
  refine gh_open (by decide) (Nat.le_of_ble_eq_true rfl) (fun X C => ?_)
  show gh_G X rm_X11_hasOtherHoles 3 0 0 sh n 0 [(0, .ref x0), (1, .ref x1)] [] M
  unfold wp_X11_hasOtherHoles at h
  refine k_bipush (v := 100) C.1 dX11_hasOtherHoles_0 (by decide) ?_
  refine k_istore_n (lv' := [(2, .int (100 : Int32)), (0, .ref x0), (1, .ref x1)]) C.1 dX11_hasOtherHoles_2 (by decide) rfl ?_
  refine k_sub (lv' := [(0, .ref x0), (1, .ref x1), (2, .int (100 : Int32))]) [1, 2, 0] rfl ?_
  exact b_X11_hasOtherHoles_3 C x0 x1 (100 : Int32) M h
abbrev rm_X11_lacksTerm : Room := { frames := 4, cells := 0, slots := 0, locals := 86 }
set_option maxRecDepth 100000 in
set_option maxHeartbeats 4000000 in
theorem b_X11_lacksTerm_52 {X : gh_X} {sh : gh_Sh} {n : Nat} {post : Int32 → gh_M → Prop} (C : gh_CR X cX11_lacksTerm RX11 6 (some .boolean) sh n 0 0 (gh_pi post)) (x0 : Nat) (x1 : Nat) (x2 : Nat) (x3 : Int32) (x4 : Int32) (M : gh_M) (k3 : Int32 → gh_M → Prop) (hk3 : ∀ (y4 : Int32) (M : gh_M), k3 y4 M → gh_G X rm_X11_lacksTerm 6 0 0 sh n 3 [(0, .ref x0), (1, .ref x1), (2, .ref x2), (3, .int x3), (4, .int y4)] [] M) (h : wp_X11_lacksTerm_52 sh post k3 x0 x1 x2 x3 x4 M) : gh_G X rm_X11_lacksTerm 6 0 0 sh n 52 [(0, .ref x0), (1, .ref x1), (2, .ref x2), (3, .int x3), (4, .int x4)] [] M := by
  unfold wp_X11_lacksTerm_52 at h
  refine k_iinc (v := x4 + 1) (lv' := [(4, .int (x4 + 1)), (0, .ref x0), (1, .ref x1), (2, .ref x2), (3, .int x3)]) C.1 4 rfl dX11_lacksTerm_52 (by decide) rfl rfl ?_
  refine k_goto C.1 3 dX11_lacksTerm_55 (by decide) ?_
  refine k_sub (lv' := [(0, .ref x0), (1, .ref x1), (2, .ref x2), (3, .int x3), (4, .int (x4 + 1))]) [1, 2, 3, 4, 0] rfl ?_
  exact hk3 (x4 + 1) M h
set_option maxRecDepth 100000 in
set_option maxHeartbeats 4000000 in
theorem bb_X11_lacksTerm_3 {X : gh_X} {sh : gh_Sh} {n : Nat} {post : Int32 → gh_M → Prop} (C : gh_CR X cX11_lacksTerm RX11 6 (some .boolean) sh n 0 0 (gh_pi post)) (x0 : Nat) (x1 : Nat) (x2 : Nat) (x3 : Int32) (k3 : Int32 → gh_M → Prop) (hk3 : ∀ (y4 : Int32) (M : gh_M), k3 y4 M → gh_G X rm_X11_lacksTerm 6 0 0 sh n 3 [(0, .ref x0), (1, .ref x1), (2, .ref x2), (3, .int x3), (4, .int y4)] [] M) (x4 : Int32) (M : gh_M) (h : wb_X11_lacksTerm_3 sh post x0 x1 x2 x3 k3 x4 M) : gh_G X rm_X11_lacksTerm 6 0 0 sh n 3 [(0, .ref x0), (1, .ref x1), (2, .ref x2), (3, .int x3), (4, .int x4)] [] M := by
  unfold wb_X11_lacksTerm_3 at h
  refine k_iload C.1 4 rfl dX11_lacksTerm_3 ?_
  refine k_aload_n C.1 1 rfl dX11_lacksTerm_5 ?_
  obtain ⟨hs1, h⟩ := h
  refine k_callV (As := []) (rest := [.int x4]) C.1 V_X11_94 (c_X7_size h) ⟨rfl, rfl, Nat.le_of_ble_eq_true rfl, Nat.le_of_ble_eq_true rfl⟩ hs1  rfl rfl (Nat.le_of_ble_eq_true rfl) ⟨Nat.zero_le _, Nat.zero_le _⟩ dX11_lacksTerm_6 (kp_i fun r3 M2 h9 => ?_)
  replace h := h9
  refine k_icmp_ge C.1 58 dX11_lacksTerm_9 (by decide) (fun c4 => ?_) (fun c4 => ?_)
  · have h := h.1 c4
    refine k_iconst (v := 0) C.1 dX11_lacksTerm_58 (by decide) ?_
    exact k_zret C dX11_lacksTerm_59 (Or.inl rfl) h
  · have h := h.2 c4
    refine k_aload_n C.1 1 rfl dX11_lacksTerm_12 ?_
    refine k_iload C.1 4 rfl dX11_lacksTerm_13 ?_
    refine k_callV (As := [.int x4]) (rest := []) C.1 V_X11_305 (c_X7_at h) ⟨rfl, rfl, Nat.le_of_ble_eq_true rfl, Nat.le_of_ble_eq_true rfl⟩ hs1  rfl rfl (Nat.le_of_ble_eq_true rfl) ⟨Nat.zero_le _, Nat.zero_le _⟩ dX11_lacksTerm_15 (kp_i fun r6 M5 h9 => ?_)
    replace h := h9
    refine k_istore (lv' := [(5, .int r6), (0, .ref x0), (1, .ref x1), (2, .ref x2), (3, .int x3), (4, .int x4)]) C.1 dX11_lacksTerm_18 (by decide) rfl ?_
    refine k_aload_n C.1 1 rfl dX11_lacksTerm_20 ?_
    obtain ⟨hs7, h⟩ := h
    obtain ⟨q8, hq8, h⟩ := h
    refine k_getR C.1 F_X11_47 dX11_lacksTerm_21 hs7 hq8 ?_
    refine k_iload C.1 0 rfl dX11_lacksTerm_24 ?_
    refine k_iload_n C.1 4 rfl dX11_lacksTerm_26 ?_
    obtain ⟨hs9, h⟩ := h
    refine k_callV (As := [.int r6, .int x3]) (rest := []) C.1 V_X11_181 (c_X9_has h) ⟨rfl, rfl, Nat.le_of_ble_eq_true rfl, Nat.le_of_ble_eq_true rfl⟩ hs9  rfl rfl (Nat.le_of_ble_eq_true rfl) ⟨Nat.zero_le _, Nat.zero_le _⟩ dX11_lacksTerm_27 (kp_i fun r11 M10 h9 => ?_)
    replace h := h9
    refine k_if_eq C.1 52 dX11_lacksTerm_30 (by decide) (fun c12 => ?_) (fun c12 => ?_)
    · have h := h.1 c12
      refine k_sub (lv' := [(0, .ref x0), (1, .ref x1), (2, .ref x2), (3, .int x3), (4, .int x4)]) [1, 2, 3, 4, 5] rfl ?_
      exact b_X11_lacksTerm_52 C x0 x1 x2 x3 x4 M10 k3 hk3 h
    · have h := h.2 c12
      refine k_aload_n C.1 3 rfl dX11_lacksTerm_33 ?_
      refine k_aload_n C.1 1 rfl dX11_lacksTerm_34 ?_
      obtain ⟨q13, hq13, h⟩ := h
      refine k_getR C.1 F_X11_47 dX11_lacksTerm_35 hs7 hq13 ?_
      refine k_iload C.1 0 rfl dX11_lacksTerm_38 ?_
      refine k_iload_n C.1 4 rfl dX11_lacksTerm_40 ?_
      obtain ⟨hs14, h⟩ := h
      refine k_callV (As := [.int r6, .int x3]) (rest := [.ref x2]) C.1 V_X11_307 (c_X9_ownWordOf h) ⟨rfl, rfl, Nat.le_of_ble_eq_true rfl, Nat.le_of_ble_eq_true rfl⟩ hs14  rfl rfl (Nat.le_of_ble_eq_true rfl) ⟨Nat.zero_le _, Nat.zero_le _⟩ dX11_lacksTerm_41 (kp_i fun r16 M15 h9 => ?_)
      replace h := h9
      obtain ⟨hs17, h⟩ := h
      refine k_callV (As := [.int r16]) (rest := []) C.1 V_X11_302 (c_X7_timesOf h) ⟨rfl, rfl, Nat.le_of_ble_eq_true rfl, Nat.le_of_ble_eq_true rfl⟩ hs17  rfl rfl (Nat.le_of_ble_eq_true rfl) ⟨Nat.zero_le _, Nat.zero_le _⟩ dX11_lacksTerm_44 (kp_i fun r19 M18 h9 => ?_)
      replace h := h9
      refine k_if_ne C.1 52 dX11_lacksTerm_47 (by decide) (fun c20 => ?_) (fun c20 => ?_)
      · have h := h.2 c20
        refine k_sub (lv' := [(0, .ref x0), (1, .ref x1), (2, .ref x2), (3, .int x3), (4, .int x4)]) [1, 2, 3, 4, 5] rfl ?_
        exact b_X11_lacksTerm_52 C x0 x1 x2 x3 x4 M18 k3 hk3 h
      · have h := h.1 c20
        refine k_iconst (v := 1) C.1 dX11_lacksTerm_50 (by decide) ?_
        exact k_zret C dX11_lacksTerm_51 (Or.inr rfl) h
set_option maxRecDepth 100000 in
theorem b_X11_lacksTerm_3 {X : gh_X} {sh : gh_Sh} {n : Nat} {post : Int32 → gh_M → Prop} (C : gh_CR X cX11_lacksTerm RX11 6 (some .boolean) sh n 0 0 (gh_pi post)) (x0 : Nat) (x1 : Nat) (x2 : Nat) (x3 : Int32) (x4 : Int32) (M : gh_M) (h : wp_X11_lacksTerm_3 sh post x0 x1 x2 x3 x4 M) : gh_G X rm_X11_lacksTerm 6 0 0 sh n 3 [(0, .ref x0), (1, .ref x1), (2, .ref x2), (3, .int x3), (4, .int x4)] [] M := by
  unfold wp_X11_lacksTerm_3 at h
  exact gh_loop_use h (fun v => gh_G X rm_X11_lacksTerm 6 0 0 sh n 3 [(0, .ref x0), (1, .ref x1), (2, .ref x2), (3, .int x3), (4, .int v.1)] [] v.2) (fun k v hk hb => bb_X11_lacksTerm_3 C x0 x1 x2 x3 (fun x4 M => k (x4, M)) (fun x4 M h => hk (x4, M) h) v.1 v.2 hb)
set_option maxRecDepth 100000 in
set_option maxHeartbeats 4000000 in
theorem c_X11_lacksTerm {l : Launch} {D : va_G} {dA : Nat → ClassId} {sh : gh_Sh} {b0 n : Nat} {M : gh_M} {x0 : Nat} {x1 : Nat} {x2 : Nat} {x3 : Int32} {post : Int32 → gh_M → Prop} (h : wp_X11_lacksTerm sh M x0 x1 x2 x3 post) : gh_Met l D dA sh b0 n yX11_lacksTerm cX11_lacksTerm 6 (some .boolean) rm_X11_lacksTerm M [.ref x0, .ref x1, .ref x2, .int x3] (gh_pi post) := by
  refine gh_open (by decide) (Nat.le_of_ble_eq_true rfl) (fun X C => ?_)
  show gh_G X rm_X11_lacksTerm 6 0 0 sh n 0 [(0, .ref x0), (1, .ref x1), (2, .ref x2), (3, .int x3)] [] M
  unfold wp_X11_lacksTerm at h
  refine k_iconst (v := 0) C.1 dX11_lacksTerm_0 (by decide) ?_
  refine k_istore (lv' := [(4, .int (0 : Int32)), (0, .ref x0), (1, .ref x1), (2, .ref x2), (3, .int x3)]) C.1 dX11_lacksTerm_1 (by decide) rfl ?_
  refine k_sub (lv' := [(0, .ref x0), (1, .ref x1), (2, .ref x2), (3, .int x3), (4, .int (0 : Int32))]) [1, 2, 3, 4, 0] rfl ?_
  exact b_X11_lacksTerm_3 C x0 x1 x2 x3 (0 : Int32) M h
abbrev rm_X11_faultOf : Room := { frames := 5, cells := 0, slots := 0, locals := 111 }
set_option maxRecDepth 100000 in
set_option maxHeartbeats 4000000 in
theorem c_X11_faultOf {l : Launch} {D : va_G} {dA : Nat → ClassId} {sh : gh_Sh} {b0 n : Nat} {M : gh_M} {x0 : Nat} {x1 : Nat} {x2 : Nat} {x3 : Int32} {post : Int32 → gh_M → Prop} (h : wp_X11_faultOf sh M x0 x1 x2 x3 post) : gh_Met l D dA sh b0 n yX11_faultOf cX11_faultOf 4 (some .int) rm_X11_faultOf M [.ref x0, .ref x1, .ref x2, .int x3] (gh_pi post) := by
  refine gh_open (by decide) (Nat.le_of_ble_eq_true rfl) (fun X C => ?_)
  show gh_G X rm_X11_faultOf 4 0 0 sh n 0 [(0, .ref x0), (1, .ref x1), (2, .ref x2), (3, .int x3)] [] M
  unfold wp_X11_faultOf at h
  refine k_aload_n C.1 1 rfl dX11_faultOf_0 ?_
  obtain ⟨hs1, h⟩ := h
  refine k_callV (As := []) (rest := []) C.1 V_X11_138 (c_X5_signs h) ⟨rfl, rfl, Nat.le_of_ble_eq_true rfl, Nat.le_of_ble_eq_true rfl⟩ hs1  rfl rfl (Nat.le_of_ble_eq_true rfl) ⟨Nat.zero_le _, Nat.zero_le _⟩ dX11_faultOf_1 (kp_n fun r3 M2 h9 => ?_)
  replace h := h9
  refine k_aload_n C.1 2 rfl dX11_faultOf_4 ?_
  obtain ⟨hs4, h⟩ := h
  refine k_callV (As := []) (rest := [.ref r3]) C.1 V_X11_220 (c_X10_signs h) ⟨rfl, rfl, Nat.le_of_ble_eq_true rfl, Nat.le_of_ble_eq_true rfl⟩ hs4  rfl rfl (Nat.le_of_ble_eq_true rfl) ⟨Nat.zero_le _, Nat.zero_le _⟩ dX11_faultOf_5 (kp_n fun r6 M5 h9 => ?_)
  replace h := h9
  refine k_callS (As := [.ref r3, .ref r6]) (rest := []) C.1 V_X11_294 (c_X11_hasOtherHoles h) ⟨rfl, rfl, Nat.le_of_ble_eq_true rfl, Nat.le_of_ble_eq_true rfl⟩  rfl rfl (Nat.le_of_ble_eq_true rfl) ⟨Nat.zero_le _, Nat.zero_le _⟩ dX11_faultOf_8 (kp_i fun r8 M7 h9 => ?_)
  replace h := h9
  refine k_if_eq C.1 16 dX11_faultOf_11 (by decide) (fun c9 => ?_) (fun c9 => ?_)
  · have h := h.1 c9
    refine k_aload_n C.1 0 rfl dX11_faultOf_16 ?_
    refine k_aload_n C.1 1 rfl dX11_faultOf_17 ?_
    refine k_callV (As := []) (rest := [.ref x0]) C.1 V_X11_138 (c_X5_signs h) ⟨rfl, rfl, Nat.le_of_ble_eq_true rfl, Nat.le_of_ble_eq_true rfl⟩ hs1  rfl rfl (Nat.le_of_ble_eq_true rfl) ⟨Nat.zero_le _, Nat.zero_le _⟩ dX11_faultOf_18 (kp_n fun r11 M10 h9 => ?_)
    replace h := h9
    refine k_aload_n C.1 2 rfl dX11_faultOf_21 ?_
    refine k_callV (As := []) (rest := [.ref r11, .ref x0]) C.1 V_X11_220 (c_X10_signs h) ⟨rfl, rfl, Nat.le_of_ble_eq_true rfl, Nat.le_of_ble_eq_true rfl⟩ hs4  rfl rfl (Nat.le_of_ble_eq_true rfl) ⟨Nat.zero_le _, Nat.zero_le _⟩ dX11_faultOf_22 (kp_n fun r13 M12 h9 => ?_)
    replace h := h9
    refine k_iload_n C.1 3 rfl dX11_faultOf_25 ?_
    obtain ⟨hs14, h⟩ := h
    refine k_callV (As := [.ref r11, .ref r13, .int x3]) (rest := []) C.1 V_X11_298 (c_X11_lacksTerm h) ⟨rfl, rfl, Nat.le_of_ble_eq_true rfl, Nat.le_of_ble_eq_true rfl⟩ hs14  rfl rfl (Nat.le_of_ble_eq_true rfl) ⟨Nat.zero_le _, Nat.zero_le _⟩ dX11_faultOf_26 (kp_i fun r16 M15 h9 => ?_)
    replace h := h9
    refine k_if_eq C.1 34 dX11_faultOf_29 (by decide) (fun c17 => ?_) (fun c17 => ?_)
    · have h := h.1 c17
      refine k_aload_n C.1 1 rfl dX11_faultOf_34 ?_
      refine k_callV (As := []) (rest := []) C.1 V_X11_133 (c_X5_kind h) ⟨rfl, rfl, Nat.le_of_ble_eq_true rfl, Nat.le_of_ble_eq_true rfl⟩ hs1  rfl rfl (Nat.le_of_ble_eq_true rfl) ⟨Nat.zero_le _, Nat.zero_le _⟩ dX11_faultOf_35 (kp_i fun r19 M18 h9 => ?_)
      replace h := h9
      refine k_iconst (v := 2) C.1 dX11_faultOf_38 (by decide) ?_
      refine k_icmp_ne C.1 60 dX11_faultOf_39 (by decide) (fun c20 => ?_) (fun c20 => ?_)
      · have h := h.2 c20
        refine k_iconst (v := 0) C.1 dX11_faultOf_60 (by decide) ?_
        exact k_iret C dX11_faultOf_61 h
      · have h := h.1 c20
        refine k_aload_n C.1 2 rfl dX11_faultOf_42 ?_
        refine k_callV (As := []) (rest := []) C.1 V_X11_220 (c_X10_signs h) ⟨rfl, rfl, Nat.le_of_ble_eq_true rfl, Nat.le_of_ble_eq_true rfl⟩ hs4  rfl rfl (Nat.le_of_ble_eq_true rfl) ⟨Nat.zero_le _, Nat.zero_le _⟩ dX11_faultOf_43 (kp_n fun r22 M21 h9 => ?_)
        replace h := h9
        obtain ⟨hs23, h⟩ := h
        refine k_callV (As := []) (rest := []) C.1 V_X11_94 (c_X7_size h) ⟨rfl, rfl, Nat.le_of_ble_eq_true rfl, Nat.le_of_ble_eq_true rfl⟩ hs23  rfl rfl (Nat.le_of_ble_eq_true rfl) ⟨Nat.zero_le _, Nat.zero_le _⟩ dX11_faultOf_46 (kp_i fun r25 M24 h9 => ?_)
        replace h := h9
        refine k_aload_n C.1 0 rfl dX11_faultOf_49 ?_
        refine k_getI C.1 F_X11_74 dX11_faultOf_50 hs14 ?_
        refine k_icmp_le C.1 60 dX11_faultOf_53 (by decide) (fun c26 => ?_) (fun c26 => ?_)
        · have h := h.1 c26
          refine k_iconst (v := 0) C.1 dX11_faultOf_60 (by decide) ?_
          exact k_iret C dX11_faultOf_61 h
        · have h := h.2 c26
          refine k_iconst (v := 3) C.1 dX11_faultOf_56 (by decide) ?_
          refine k_goto C.1 61 dX11_faultOf_57 (by decide) ?_
          exact k_iret C dX11_faultOf_61 h
    · have h := h.2 c17
      refine k_iconst (v := 2) C.1 dX11_faultOf_32 (by decide) ?_
      exact k_iret C dX11_faultOf_33 h
  · have h := h.2 c9
    refine k_iconst (v := 1) C.1 dX11_faultOf_14 (by decide) ?_
    exact k_iret C dX11_faultOf_15 h
abbrev rm_X11_review : Room := { frames := 6, cells := 0, slots := 0, locals := 134 }
set_option maxRecDepth 100000 in
set_option maxHeartbeats 4000000 in
theorem c_X11_review {l : Launch} {D : va_G} {dA : Nat → ClassId} {sh : gh_Sh} {b0 n : Nat} {M : gh_M} {x0 : Nat} {x1 : Int32} {x2 : Int32} {x3 : Int32} {post : Int32 → gh_M → Prop} (h : wp_X11_review sh M x0 x1 x2 x3 post) : gh_Met l D dA sh b0 n yX11_review cX11_review 7 (some .int) rm_X11_review M [.ref x0, .int x1, .int x2, .int x3] (gh_pi post) := by
  refine gh_open (by decide) (Nat.le_of_ble_eq_true rfl) (fun X C => ?_)
  show gh_G X rm_X11_review 7 0 0 sh n 0 [(0, .ref x0), (1, .int x1), (2, .int x2), (3, .int x3)] [] M
  unfold wp_X11_review at h
  refine k_aload_n C.1 0 rfl dX11_review_0 ?_
  obtain ⟨hs1, h⟩ := h
  obtain ⟨q2, hq2, h⟩ := h
  refine k_getR C.1 F_X11_68 dX11_review_1 hs1 hq2 ?_
  refine k_iload_n C.1 1 rfl dX11_review_4 ?_
  obtain ⟨hs3, h⟩ := h
  refine k_callV (As := [.int x1]) (rest := []) C.1 V_X11_121 (c_X0_at h) ⟨rfl, rfl, Nat.le_of_ble_eq_true rfl, Nat.le_of_ble_eq_true rfl⟩ hs3  rfl rfl (Nat.le_of_ble_eq_true rfl) ⟨Nat.zero_le _, Nat.zero_le _⟩ dX11_review_5 (kp_q fun r5 M4 h9 => ?_)
  replace h := h9
  refine k_astoreq (lv' := [(4, va_rf r5), (0, .ref x0), (1, .int x1), (2, .int x2), (3, .int x3)]) C.1 dX11_review_8 (by decide) rfl ?_
  refine k_aload_n C.1 1 rfl dX11_review_10 ?_
  refine k_iload_n C.1 2 rfl dX11_review_11 ?_
  refine k_iload_n C.1 3 rfl dX11_review_12 ?_
  refine k_callV (As := [.int x1, .int x2]) (rest := []) C.1 V_X11_194 (c_X11_textAt h) ⟨rfl, rfl, Nat.le_of_ble_eq_true rfl, Nat.le_of_ble_eq_true rfl⟩ hs1  rfl rfl (Nat.le_of_ble_eq_true rfl) ⟨Nat.zero_le _, Nat.zero_le _⟩ dX11_review_13 (kp_q fun r7 M6 h9 => ?_)
  replace h := h9
  refine k_astoreq (lv' := [(5, va_rf r7), (4, va_rf r5), (0, .ref x0), (1, .int x1), (2, .int x2), (3, .int x3)]) C.1 dX11_review_16 (by decide) (by simp [gh_st, va_rf_cat, cat_ref, cat_int]) ?_
  refine k_aloadq C.1 1 rfl dX11_review_18 ?_
  refine k_ifnull C.1 39 dX11_review_20 (by decide) (fun e => ?_) (fun a8 e => ?_)
  · replace h := h.1 e
    subst e
    refine k_iconst (v := (-1)) C.1 dX11_review_39 (by decide) ?_
    exact k_iret C dX11_review_40 h
  · replace h := h.2 a8 e
    subst e
    refine k_aloadq C.1 0 rfl dX11_review_23 ?_
    refine k_ifnull C.1 39 dX11_review_25 (by decide) (fun e => ?_) (fun a9 e => ?_)
    · replace h := h.1 e
      subst e
      refine k_iconst (v := (-1)) C.1 dX11_review_39 (by decide) ?_
      exact k_iret C dX11_review_40 h
    · replace h := h.2 a9 e
      subst e
      refine k_aload_n C.1 2 rfl dX11_review_28 ?_
      obtain ⟨q10, hq10, h⟩ := h
      refine k_getR C.1 F_X11_40 dX11_review_29 hs1 hq10 ?_
      refine k_iload_n C.1 5 rfl dX11_review_32 ?_
      obtain ⟨hs11, h⟩ := h
      refine k_callV (As := [.int x3]) (rest := []) C.1 V_X11_161 (c_X2_has h) ⟨rfl, rfl, Nat.le_of_ble_eq_true rfl, Nat.le_of_ble_eq_true rfl⟩ hs11  rfl rfl (Nat.le_of_ble_eq_true rfl) ⟨Nat.zero_le _, Nat.zero_le _⟩ dX11_review_33 (kp_i fun r13 M12 h9 => ?_)
      replace h := h9
      refine k_if_ne C.1 41 dX11_review_36 (by decide) (fun c14 => ?_) (fun c14 => ?_)
      · have h := h.2 c14
        refine k_aload C.1 0 rfl dX11_review_41 ?_
        obtain ⟨hs15, h⟩ := h
        refine k_callV (As := []) (rest := []) C.1 V_X11_204 (c_X10_waitsForReview h) ⟨rfl, rfl, Nat.le_of_ble_eq_true rfl, Nat.le_of_ble_eq_true rfl⟩ hs15  rfl rfl (Nat.le_of_ble_eq_true rfl) ⟨Nat.zero_le _, Nat.zero_le _⟩ dX11_review_43 (kp_i fun r17 M16 h9 => ?_)
        replace h := h9
        refine k_if_ne C.1 52 dX11_review_46 (by decide) (fun c18 => ?_) (fun c18 => ?_)
        · have h := h.2 c18
          refine k_aload_n C.1 2 rfl dX11_review_52 ?_
          obtain ⟨q19, hq19, h⟩ := h
          refine k_getR C.1 F_X11_40 dX11_review_53 hs1 hq19 ?_
          refine k_iload_n C.1 5 rfl dX11_review_56 ?_
          refine k_iload_n C.1 4 rfl dX11_review_57 ?_
          obtain ⟨hs20, h⟩ := h
          refine k_callV (As := [.int x3, .int x2]) (rest := []) C.1 V_X11_207 (c_X2_knows h) ⟨rfl, rfl, Nat.le_of_ble_eq_true rfl, Nat.le_of_ble_eq_true rfl⟩ hs20  rfl rfl (Nat.le_of_ble_eq_true rfl) ⟨Nat.zero_le _, Nat.zero_le _⟩ dX11_review_58 (kp_i fun r22 M21 h9 => ?_)
          replace h := h9
          refine k_if_ne C.1 67 dX11_review_61 (by decide) (fun c23 => ?_) (fun c23 => ?_)
          · have h := h.2 c23
            refine k_aload C.1 0 rfl dX11_review_67 ?_
            refine k_callV (As := []) (rest := []) C.1 V_X11_210 (c_X10_writer h) ⟨rfl, rfl, Nat.le_of_ble_eq_true rfl, Nat.le_of_ble_eq_true rfl⟩ hs15  rfl rfl (Nat.le_of_ble_eq_true rfl) ⟨Nat.zero_le _, Nat.zero_le _⟩ dX11_review_69 (kp_i fun r25 M24 h9 => ?_)
            replace h := h9
            refine k_iload_n C.1 5 rfl dX11_review_72 ?_
            refine k_icmp_ne C.1 79 dX11_review_73 (by decide) (fun c26 => ?_) (fun c26 => ?_)
            · have h := h.2 c26
              refine k_aload_n C.1 2 rfl dX11_review_79 ?_
              refine k_aload C.1 1 rfl dX11_review_80 ?_
              refine k_aload C.1 0 rfl dX11_review_82 ?_
              refine k_iload_n C.1 4 rfl dX11_review_84 ?_
              refine k_callV (As := [.ref a8, .ref a9, .int x2]) (rest := []) C.1 V_X11_213 (c_X11_faultOf h) ⟨rfl, rfl, Nat.le_of_ble_eq_true rfl, Nat.le_of_ble_eq_true rfl⟩ hs1  rfl rfl (Nat.le_of_ble_eq_true rfl) ⟨Nat.zero_le _, Nat.zero_le _⟩ dX11_review_85 (kp_i fun r28 M27 h9 => ?_)
              replace h := h9
              refine k_istore (lv' := [(6, .int r28), (5, .ref a9), (4, .ref a8), (0, .ref x0), (1, .int x1), (2, .int x2), (3, .int x3)]) C.1 dX11_review_88 (by decide) rfl ?_
              refine k_iload C.1 0 rfl dX11_review_90 ?_
              refine k_if_le C.1 101 dX11_review_92 (by decide) (fun c29 => ?_) (fun c29 => ?_)
              · have h := h.1 c29
                refine k_aload C.1 1 rfl dX11_review_101 ?_
                refine k_callV (As := []) (rest := []) C.1 V_X11_217 (c_X10_becomeReviewed h) ⟨rfl, rfl, Nat.le_of_ble_eq_true rfl, Nat.le_of_ble_eq_true rfl⟩ hs15  rfl rfl (Nat.le_of_ble_eq_true rfl) ⟨Nat.zero_le _, Nat.zero_le _⟩ dX11_review_103 (kp_v fun M30 h9 => ?_)
                replace h := h9
                refine k_aload_n C.1 3 rfl dX11_review_106 ?_
                obtain ⟨q31, hq31, h⟩ := h
                refine k_getR C.1 F_X11_54 dX11_review_107 hs1 hq31 ?_
                refine k_aload C.1 2 rfl dX11_review_110 ?_
                obtain ⟨hs32, h⟩ := h
                refine k_callV (As := []) (rest := [.ref q31]) C.1 V_X11_138 (c_X5_signs h) ⟨rfl, rfl, Nat.le_of_ble_eq_true rfl, Nat.le_of_ble_eq_true rfl⟩ hs32  rfl rfl (Nat.le_of_ble_eq_true rfl) ⟨Nat.zero_le _, Nat.zero_le _⟩ dX11_review_112 (kp_n fun r34 M33 h9 => ?_)
                replace h := h9
                refine k_iload_n C.1 5 rfl dX11_review_115 ?_
                refine k_aload C.1 1 rfl dX11_review_116 ?_
                refine k_callV (As := []) (rest := [.int x2, .ref r34, .ref q31]) C.1 V_X11_220 (c_X10_signs h) ⟨rfl, rfl, Nat.le_of_ble_eq_true rfl, Nat.le_of_ble_eq_true rfl⟩ hs15  rfl rfl (Nat.le_of_ble_eq_true rfl) ⟨Nat.zero_le _, Nat.zero_le _⟩ dX11_review_118 (kp_n fun r36 M35 h9 => ?_)
                replace h := h9
                obtain ⟨hs37, h⟩ := h
                refine k_callV (As := [.ref r34, .int x2, .ref r36]) (rest := []) C.1 V_X11_221 (c_X4_remember h) ⟨rfl, rfl, Nat.le_of_ble_eq_true rfl, Nat.le_of_ble_eq_true rfl⟩ hs37  rfl rfl (Nat.le_of_ble_eq_true rfl) ⟨Nat.zero_le _, Nat.zero_le _⟩ dX11_review_121 (kp_v fun M38 h9 => ?_)
                replace h := h9
                refine k_aload_n C.1 3 rfl dX11_review_124 ?_
                obtain ⟨q39, hq39, h⟩ := h
                refine k_getR C.1 F_X11_54 dX11_review_125 hs1 hq39 ?_
                obtain ⟨hs40, h⟩ := h
                refine k_callV (As := []) (rest := []) C.1 V_X11_225 (c_X4_count h) ⟨rfl, rfl, Nat.le_of_ble_eq_true rfl, Nat.le_of_ble_eq_true rfl⟩ hs40  rfl rfl (Nat.le_of_ble_eq_true rfl) ⟨Nat.zero_le _, Nat.zero_le _⟩ dX11_review_128 (kp_i fun r42 M41 h9 => ?_)
                replace h := h9
                exact k_iret C dX11_review_131 h
              · have h := h.2 c29
                refine k_bipush (v := (-10)) C.1 dX11_review_95 (by decide) ?_
                refine k_iload C.1 0 rfl dX11_review_97 ?_
                refine k_isub C.1 dX11_review_99 ?_
                exact k_iret C dX11_review_100 h
            · have h := h.1 c26
              refine k_bipush (v := (-7)) C.1 dX11_review_76 (by decide) ?_
              exact k_iret C dX11_review_78 h
          · have h := h.1 c23
            refine k_bipush (v := (-3)) C.1 dX11_review_64 (by decide) ?_
            exact k_iret C dX11_review_66 h
        · have h := h.1 c18
          refine k_bipush (v := (-4)) C.1 dX11_review_49 (by decide) ?_
          exact k_iret C dX11_review_51 h
      · have h := h.1 c14
        refine k_iconst (v := (-1)) C.1 dX11_review_39 (by decide) ?_
        exact k_iret C dX11_review_40 h
abbrev rm_X11_closestEntry : Room := { frames := 3, cells := 0, slots := 0, locals := 78 }
set_option maxRecDepth 100000 in
set_option maxHeartbeats 4000000 in
theorem c_X11_closestEntry {l : Launch} {D : va_G} {dA : Nat → ClassId} {sh : gh_Sh} {b0 n : Nat} {M : gh_M} {x0 : Nat} {x1 : Nat} {x2 : Int32} {post : Option Nat → gh_M → Prop} (h : wp_X11_closestEntry sh M x0 x1 x2 post) : gh_Met l D dA sh b0 n yX11_closestEntry cX11_closestEntry 3 (some (.object "GlossHouse$Entry")) rm_X11_closestEntry M [.ref x0, .ref x1, .int x2] (gh_pq post) := by
  refine gh_open (by decide) (Nat.le_of_ble_eq_true rfl) (fun X C => ?_)
  show gh_G X rm_X11_closestEntry 3 0 0 sh n 0 [(0, .ref x0), (1, .ref x1), (2, .int x2)] [] M
  unfold wp_X11_closestEntry at h
  refine k_aload_n C.1 1 rfl dX11_closestEntry_0 ?_
  refine k_ifnonnullR C.1 8 dX11_closestEntry_1 (by decide) ?_
  refine k_aload_n C.1 0 rfl dX11_closestEntry_8 ?_
  obtain ⟨hs1, h⟩ := h
  obtain ⟨q2, hq2, h⟩ := h
  refine k_getR C.1 F_X11_54 dX11_closestEntry_9 hs1 hq2 ?_
  refine k_aload_n C.1 0 rfl dX11_closestEntry_12 ?_
  refine k_getR C.1 F_X11_54 dX11_closestEntry_13 hs1 hq2 ?_
  refine k_aload_n C.1 1 rfl dX11_closestEntry_16 ?_
  obtain ⟨hs3, h⟩ := h
  refine k_callV (As := []) (rest := [.ref q2, .ref q2]) C.1 V_X11_138 (c_X5_signs h) ⟨rfl, rfl, Nat.le_of_ble_eq_true rfl, Nat.le_of_ble_eq_true rfl⟩ hs3  rfl rfl (Nat.le_of_ble_eq_true rfl) ⟨Nat.zero_le _, Nat.zero_le _⟩ dX11_closestEntry_17 (kp_n fun r5 M4 h9 => ?_)
  replace h := h9
  refine k_iload_n C.1 2 rfl dX11_closestEntry_20 ?_
  refine k_aload_n C.1 0 rfl dX11_closestEntry_21 ?_
  obtain ⟨q6, hq6, h⟩ := h
  refine k_getR C.1 F_X11_19 dX11_closestEntry_22 hs1 hq6 ?_
  obtain ⟨hs7, h⟩ := h
  refine k_callV (As := [.ref r5, .int x2, .ref q6]) (rest := [.ref q2]) C.1 V_X11_238 (c_X4_closest h) ⟨rfl, rfl, Nat.le_of_ble_eq_true rfl, Nat.le_of_ble_eq_true rfl⟩ hs7  rfl rfl (Nat.le_of_ble_eq_true rfl) ⟨Nat.zero_le _, Nat.zero_le _⟩ dX11_closestEntry_25 (kp_i fun r9 M8 h9 => ?_)
  replace h := h9
  refine k_callV (As := [.int r9]) (rest := []) C.1 V_X11_242 (c_X4_at h) ⟨rfl, rfl, Nat.le_of_ble_eq_true rfl, Nat.le_of_ble_eq_true rfl⟩ hs7  rfl rfl (Nat.le_of_ble_eq_true rfl) ⟨Nat.zero_le _, Nat.zero_le _⟩ dX11_closestEntry_28 (kp_q fun r11 M10 h9 => ?_)
  replace h := h9
  exact k_qret (r := r11) C dX11_closestEntry_31 h
abbrev rm_X11_reuse : Room := { frames := 4, cells := 0, slots := 0, locals := 100 }
set_option maxRecDepth 100000 in
set_option maxHeartbeats 4000000 in
theorem c_X11_reuse {l : Launch} {D : va_G} {dA : Nat → ClassId} {sh : gh_Sh} {b0 n : Nat} {M : gh_M} {x0 : Nat} {x1 : Int32} {x2 : Int32} {x3 : Int32} {post : Int32 → gh_M → Prop} (h : wp_X11_reuse sh M x0 x1 x2 x3 post) : gh_Met l D dA sh b0 n yX11_reuse cX11_reuse 7 (some .int) rm_X11_reuse M [.ref x0, .int x1, .int x2, .int x3] (gh_pi post) := by
  refine gh_open (by decide) (Nat.le_of_ble_eq_true rfl) (fun X C => ?_)
  show gh_G X rm_X11_reuse 7 0 0 sh n 0 [(0, .ref x0), (1, .int x1), (2, .int x2), (3, .int x3)] [] M
  unfold wp_X11_reuse at h
  refine k_aload_n C.1 0 rfl dX11_reuse_0 ?_
  refine k_iload_n C.1 1 rfl dX11_reuse_1 ?_
  refine k_iload_n C.1 2 rfl dX11_reuse_2 ?_
  refine k_iload_n C.1 3 rfl dX11_reuse_3 ?_
  obtain ⟨hs1, h⟩ := h
  refine k_callV (As := [.int x1, .int x2, .int x3]) (rest := []) C.1 V_X11_190 (c_X11_whyNoWriting h) ⟨rfl, rfl, Nat.le_of_ble_eq_true rfl, Nat.le_of_ble_eq_true rfl⟩ hs1  rfl rfl (Nat.le_of_ble_eq_true rfl) ⟨Nat.zero_le _, Nat.zero_le _⟩ dX11_reuse_4 (kp_i fun r3 M2 h9 => ?_)
  replace h := h9
  refine k_istore (lv' := [(4, .int r3), (0, .ref x0), (1, .int x1), (2, .int x2), (3, .int x3)]) C.1 dX11_reuse_7 (by decide) rfl ?_
  refine k_iload C.1 0 rfl dX11_reuse_9 ?_
  refine k_if_ge C.1 17 dX11_reuse_11 (by decide) (fun c4 => ?_) (fun c4 => ?_)
  · have h := h.1 c4
    refine k_aload_n C.1 1 rfl dX11_reuse_17 ?_
    refine k_aload_n C.1 1 rfl dX11_reuse_18 ?_
    obtain ⟨q5, hq5, h⟩ := h
    refine k_getR C.1 F_X11_68 dX11_reuse_19 hs1 hq5 ?_
    refine k_iload_n C.1 2 rfl dX11_reuse_22 ?_
    obtain ⟨hs6, h⟩ := h
    refine k_callV (As := [.int x1]) (rest := [.ref x0]) C.1 V_X11_121 (c_X0_at h) ⟨rfl, rfl, Nat.le_of_ble_eq_true rfl, Nat.le_of_ble_eq_true rfl⟩ hs6  rfl rfl (Nat.le_of_ble_eq_true rfl) ⟨Nat.zero_le _, Nat.zero_le _⟩ dX11_reuse_23 (kp_q fun r8 M7 h9 => ?_)
    replace h := h9
    refine k_iload_n C.1 3 rfl dX11_reuse_26 ?_
    obtain ⟨a9, e, h⟩ := h
    subst e
    refine k_callV (As := [.ref a9, .int x2]) (rest := []) C.1 V_X11_226 (c_X11_closestEntry h) ⟨rfl, rfl, Nat.le_of_ble_eq_true rfl, Nat.le_of_ble_eq_true rfl⟩ hs1  rfl rfl (Nat.le_of_ble_eq_true rfl) ⟨Nat.zero_le _, Nat.zero_le _⟩ dX11_reuse_27 (kp_q fun r11 M10 h9 => ?_)
    replace h := h9
    refine k_astoreq (lv' := [(5, va_rf r11), (4, .int r3), (0, .ref x0), (1, .int x1), (2, .int x2), (3, .int x3)]) C.1 dX11_reuse_30 (by decide) rfl ?_
    refine k_aload_n C.1 2 rfl dX11_reuse_32 ?_
    refine k_iload_n C.1 3 rfl dX11_reuse_33 ?_
    refine k_iload_n C.1 4 rfl dX11_reuse_34 ?_
    refine k_callV (As := [.int x1, .int x2]) (rest := []) C.1 V_X11_194 (c_X11_textAt h) ⟨rfl, rfl, Nat.le_of_ble_eq_true rfl, Nat.le_of_ble_eq_true rfl⟩ hs1  rfl rfl (Nat.le_of_ble_eq_true rfl) ⟨Nat.zero_le _, Nat.zero_le _⟩ dX11_reuse_35 (kp_q fun r13 M12 h9 => ?_)
    replace h := h9
    refine k_astoreq (lv' := [(6, va_rf r13), (5, va_rf r11), (4, .int r3), (0, .ref x0), (1, .int x1), (2, .int x2), (3, .int x3)]) C.1 dX11_reuse_38 (by decide) (by simp [gh_st, va_rf_cat, cat_ref, cat_int]) ?_
    refine k_aloadq C.1 1 rfl dX11_reuse_40 ?_
    refine k_ifnull C.1 50 dX11_reuse_42 (by decide) (fun e => ?_) (fun a14 e => ?_)
    · replace h := h.1 e
      subst e
      refine k_bipush (v := (-5)) C.1 dX11_reuse_50 (by decide) ?_
      exact k_iret C dX11_reuse_52 h
    · replace h := h.2 a14 e
      subst e
      refine k_aloadq C.1 0 rfl dX11_reuse_45 ?_
      refine k_ifnonnull C.1 53 dX11_reuse_47 (by decide) (fun a15 e => ?_) (fun e => ?_)
      · replace h := h.2 a15 e
        subst e
        refine k_aload C.1 0 rfl dX11_reuse_53 ?_
        refine k_aload C.1 1 rfl dX11_reuse_55 ?_
        obtain ⟨hs16, h⟩ := h
        refine k_callV (As := []) (rest := [.ref a15]) C.1 V_X11_230 (c_X1_textSigns h) ⟨rfl, rfl, Nat.le_of_ble_eq_true rfl, Nat.le_of_ble_eq_true rfl⟩ hs16  rfl rfl (Nat.le_of_ble_eq_true rfl) ⟨Nat.zero_le _, Nat.zero_le _⟩ dX11_reuse_57 (kp_n fun r18 M17 h9 => ?_)
        replace h := h9
        refine k_iload_n C.1 6 rfl dX11_reuse_60 ?_
        obtain ⟨hs19, h⟩ := h
        refine k_callV (As := [.ref r18, .int x3]) (rest := []) C.1 V_X11_198 (c_X10_becomeDraft h) ⟨rfl, rfl, Nat.le_of_ble_eq_true rfl, Nat.le_of_ble_eq_true rfl⟩ hs19  rfl rfl (Nat.le_of_ble_eq_true rfl) ⟨Nat.zero_le _, Nat.zero_le _⟩ dX11_reuse_61 (kp_v fun M20 h9 => ?_)
        replace h := h9
        refine k_aload C.1 0 rfl dX11_reuse_64 ?_
        refine k_callV (As := []) (rest := []) C.1 V_X11_220 (c_X10_signs h) ⟨rfl, rfl, Nat.le_of_ble_eq_true rfl, Nat.le_of_ble_eq_true rfl⟩ hs19  rfl rfl (Nat.le_of_ble_eq_true rfl) ⟨Nat.zero_le _, Nat.zero_le _⟩ dX11_reuse_66 (kp_n fun r22 M21 h9 => ?_)
        replace h := h9
        obtain ⟨hs23, h⟩ := h
        refine k_callV (As := []) (rest := []) C.1 V_X11_94 (c_X7_size h) ⟨rfl, rfl, Nat.le_of_ble_eq_true rfl, Nat.le_of_ble_eq_true rfl⟩ hs23  rfl rfl (Nat.le_of_ble_eq_true rfl) ⟨Nat.zero_le _, Nat.zero_le _⟩ dX11_reuse_69 (kp_i fun r25 M24 h9 => ?_)
        replace h := h9
        exact k_iret C dX11_reuse_72 h
      · replace h := h.1 e
        subst e
        refine k_bipush (v := (-5)) C.1 dX11_reuse_50 (by decide) ?_
        exact k_iret C dX11_reuse_52 h
  · have h := h.2 c4
    refine k_iload C.1 0 rfl dX11_reuse_14 ?_
    exact k_iret C dX11_reuse_16 h
abbrev rm_X11_text : Room := { frames := 4, cells := 0, slots := 0, locals := 86 }
set_option maxRecDepth 100000 in
set_option maxHeartbeats 4000000 in
theorem c_X11_text {l : Launch} {D : va_G} {dA : Nat → ClassId} {sh : gh_Sh} {b0 n : Nat} {M : gh_M} {x0 : Nat} {x1 : Int32} {x2 : Int32} {x3 : Int32} {post : Int32 → gh_M → Prop} (h : wp_X11_text sh M x0 x1 x2 x3 post) : gh_Met l D dA sh b0 n yX11_text cX11_text 5 (some .int) rm_X11_text M [.ref x0, .int x1, .int x2, .int x3] (gh_pi post) := by
  refine gh_open (by decide) (Nat.le_of_ble_eq_true rfl) (fun X C => ?_)
  show gh_G X rm_X11_text 5 0 0 sh n 0 [(0, .ref x0), (1, .int x1), (2, .int x2), (3, .int x3)] [] M
  unfold wp_X11_text at h
  refine k_aload_n C.1 0 rfl dX11_text_0 ?_
  refine k_iload_n C.1 1 rfl dX11_text_1 ?_
  refine k_iload_n C.1 2 rfl dX11_text_2 ?_
  obtain ⟨hs1, h⟩ := h
  refine k_callV (As := [.int x1, .int x2]) (rest := []) C.1 V_X11_194 (c_X11_textAt h) ⟨rfl, rfl, Nat.le_of_ble_eq_true rfl, Nat.le_of_ble_eq_true rfl⟩ hs1  rfl rfl (Nat.le_of_ble_eq_true rfl) ⟨Nat.zero_le _, Nat.zero_le _⟩ dX11_text_3 (kp_q fun r3 M2 h9 => ?_)
  replace h := h9
  refine k_astoreq (lv' := [(4, va_rf r3), (0, .ref x0), (1, .int x1), (2, .int x2), (3, .int x3)]) C.1 dX11_text_6 (by decide) rfl ?_
  refine k_aloadq C.1 0 rfl dX11_text_8 ?_
  refine k_ifnonnull C.1 15 dX11_text_10 (by decide) (fun a4 e => ?_) (fun e => ?_)
  · replace h := h.2 a4 e
    subst e
    refine k_iload_n C.1 4 rfl dX11_text_15 ?_
    refine k_if_ne C.1 25 dX11_text_16 (by decide) (fun c5 => ?_) (fun c5 => ?_)
    · have h := h.2 c5
      refine k_iload_n C.1 4 rfl dX11_text_25 ?_
      refine k_iconst (v := 1) C.1 dX11_text_26 (by decide) ?_
      refine k_icmp_ne C.1 36 dX11_text_27 (by decide) (fun c6 => ?_) (fun c6 => ?_)
      · have h := h.2 c6
        refine k_iload_n C.1 4 rfl dX11_text_36 ?_
        refine k_iconst (v := 2) C.1 dX11_text_37 (by decide) ?_
        refine k_icmp_ne C.1 52 dX11_text_38 (by decide) (fun c7 => ?_) (fun c7 => ?_)
        · have h := h.2 c7
          refine k_aload C.1 0 rfl dX11_text_52 ?_
          obtain ⟨hs8, h⟩ := h
          refine k_callV (As := []) (rest := []) C.1 V_X11_220 (c_X10_signs h) ⟨rfl, rfl, Nat.le_of_ble_eq_true rfl, Nat.le_of_ble_eq_true rfl⟩ hs8  rfl rfl (Nat.le_of_ble_eq_true rfl) ⟨Nat.zero_le _, Nat.zero_le _⟩ dX11_text_54 (kp_n fun r10 M9 h9 => ?_)
          replace h := h9
          refine k_iload_n C.1 4 rfl dX11_text_57 ?_
          refine k_bipush (v := 10) C.1 dX11_text_58 (by decide) ?_
          obtain ⟨hs11, h⟩ := h
          refine k_callV (As := [.int x3, .int (10 : Int32)]) (rest := []) C.1 V_X11_142 (c_X7_askedFor h) ⟨rfl, rfl, Nat.le_of_ble_eq_true rfl, Nat.le_of_ble_eq_true rfl⟩ hs11  rfl rfl (Nat.le_of_ble_eq_true rfl) ⟨Nat.zero_le _, Nat.zero_le _⟩ dX11_text_60 (kp_i fun r13 M12 h9 => ?_)
          replace h := h9
          exact k_iret C dX11_text_63 h
        · have h := h.1 c7
          refine k_aload C.1 0 rfl dX11_text_41 ?_
          obtain ⟨hs14, h⟩ := h
          refine k_callV (As := []) (rest := []) C.1 V_X11_220 (c_X10_signs h) ⟨rfl, rfl, Nat.le_of_ble_eq_true rfl, Nat.le_of_ble_eq_true rfl⟩ hs14  rfl rfl (Nat.le_of_ble_eq_true rfl) ⟨Nat.zero_le _, Nat.zero_le _⟩ dX11_text_43 (kp_n fun r16 M15 h9 => ?_)
          replace h := h9
          obtain ⟨hs17, h⟩ := h
          refine k_callV (As := []) (rest := []) C.1 V_X11_94 (c_X7_size h) ⟨rfl, rfl, Nat.le_of_ble_eq_true rfl, Nat.le_of_ble_eq_true rfl⟩ hs17  rfl rfl (Nat.le_of_ble_eq_true rfl) ⟨Nat.zero_le _, Nat.zero_le _⟩ dX11_text_46 (kp_i fun r19 M18 h9 => ?_)
          replace h := h9
          refine k_goto C.1 63 dX11_text_49 (by decide) ?_
          exact k_iret C dX11_text_63 h
      · have h := h.1 c6
        refine k_aload C.1 0 rfl dX11_text_30 ?_
        obtain ⟨hs20, h⟩ := h
        refine k_callV (As := []) (rest := []) C.1 V_X11_210 (c_X10_writer h) ⟨rfl, rfl, Nat.le_of_ble_eq_true rfl, Nat.le_of_ble_eq_true rfl⟩ hs20  rfl rfl (Nat.le_of_ble_eq_true rfl) ⟨Nat.zero_le _, Nat.zero_le _⟩ dX11_text_32 (kp_i fun r22 M21 h9 => ?_)
        replace h := h9
        exact k_iret C dX11_text_35 h
    · have h := h.1 c5
      refine k_aload C.1 0 rfl dX11_text_19 ?_
      obtain ⟨hs23, h⟩ := h
      refine k_callV (As := []) (rest := []) C.1 V_X11_235 (c_X10_state h) ⟨rfl, rfl, Nat.le_of_ble_eq_true rfl, Nat.le_of_ble_eq_true rfl⟩ hs23  rfl rfl (Nat.le_of_ble_eq_true rfl) ⟨Nat.zero_le _, Nat.zero_le _⟩ dX11_text_21 (kp_i fun r25 M24 h9 => ?_)
      replace h := h9
      exact k_iret C dX11_text_24 h
  · replace h := h.1 e
    subst e
    refine k_iconst (v := (-1)) C.1 dX11_text_13 (by decide) ?_
    exact k_iret C dX11_text_14 h
abbrev rm_X11_fault : Room := { frames := 6, cells := 0, slots := 0, locals := 134 }
set_option maxRecDepth 100000 in
set_option maxHeartbeats 4000000 in
theorem c_X11_fault {l : Launch} {D : va_G} {dA : Nat → ClassId} {sh : gh_Sh} {b0 n : Nat} {M : gh_M} {x0 : Nat} {x1 : Int32} {x2 : Int32} {post : Int32 → gh_M → Prop} (h : wp_X11_fault sh M x0 x1 x2 post) : gh_Met l D dA sh b0 n yX11_fault cX11_fault 5 (some .int) rm_X11_fault M [.ref x0, .int x1, .int x2] (gh_pi post) := by
  refine gh_open (by decide) (Nat.le_of_ble_eq_true rfl) (fun X C => ?_)
  show gh_G X rm_X11_fault 5 0 0 sh n 0 [(0, .ref x0), (1, .int x1), (2, .int x2)] [] M
  unfold wp_X11_fault at h
  refine k_aload_n C.1 0 rfl dX11_fault_0 ?_
  obtain ⟨hs1, h⟩ := h
  obtain ⟨q2, hq2, h⟩ := h
  refine k_getR C.1 F_X11_68 dX11_fault_1 hs1 hq2 ?_
  refine k_iload_n C.1 1 rfl dX11_fault_4 ?_
  obtain ⟨hs3, h⟩ := h
  refine k_callV (As := [.int x1]) (rest := []) C.1 V_X11_121 (c_X0_at h) ⟨rfl, rfl, Nat.le_of_ble_eq_true rfl, Nat.le_of_ble_eq_true rfl⟩ hs3  rfl rfl (Nat.le_of_ble_eq_true rfl) ⟨Nat.zero_le _, Nat.zero_le _⟩ dX11_fault_5 (kp_q fun r5 M4 h9 => ?_)
  replace h := h9
  refine k_astore_nq (lv' := [(3, va_rf r5), (0, .ref x0), (1, .int x1), (2, .int x2)]) C.1 dX11_fault_8 (by decide) rfl ?_
  refine k_aload_n C.1 1 rfl dX11_fault_9 ?_
  refine k_iload_n C.1 2 rfl dX11_fault_10 ?_
  refine k_iload_n C.1 3 rfl dX11_fault_11 ?_
  refine k_callV (As := [.int x1, .int x2]) (rest := []) C.1 V_X11_194 (c_X11_textAt h) ⟨rfl, rfl, Nat.le_of_ble_eq_true rfl, Nat.le_of_ble_eq_true rfl⟩ hs1  rfl rfl (Nat.le_of_ble_eq_true rfl) ⟨Nat.zero_le _, Nat.zero_le _⟩ dX11_fault_12 (kp_q fun r7 M6 h9 => ?_)
  replace h := h9
  refine k_astoreq (lv' := [(4, va_rf r7), (3, va_rf r5), (0, .ref x0), (1, .int x1), (2, .int x2)]) C.1 dX11_fault_15 (by decide) (by simp [gh_st, va_rf_cat, cat_ref, cat_int]) ?_
  refine k_aload_nq C.1 1 rfl dX11_fault_17 ?_
  refine k_ifnull C.1 26 dX11_fault_18 (by decide) (fun e => ?_) (fun a8 e => ?_)
  · replace h := h.1 e
    subst e
    refine k_iconst (v := (-1)) C.1 dX11_fault_26 (by decide) ?_
    exact k_iret C dX11_fault_27 h
  · replace h := h.2 a8 e
    subst e
    refine k_aloadq C.1 0 rfl dX11_fault_21 ?_
    refine k_ifnonnull C.1 28 dX11_fault_23 (by decide) (fun a9 e => ?_) (fun e => ?_)
    · replace h := h.2 a9 e
      subst e
      refine k_aload C.1 0 rfl dX11_fault_28 ?_
      obtain ⟨hs10, h⟩ := h
      refine k_callV (As := []) (rest := []) C.1 V_X11_235 (c_X10_state h) ⟨rfl, rfl, Nat.le_of_ble_eq_true rfl, Nat.le_of_ble_eq_true rfl⟩ hs10  rfl rfl (Nat.le_of_ble_eq_true rfl) ⟨Nat.zero_le _, Nat.zero_le _⟩ dX11_fault_30 (kp_i fun r12 M11 h9 => ?_)
      replace h := h9
      refine k_if_ne C.1 41 dX11_fault_33 (by decide) (fun c13 => ?_) (fun c13 => ?_)
      · have h := h.2 c13
        refine k_aload_n C.1 2 rfl dX11_fault_41 ?_
        refine k_aload_n C.1 1 rfl dX11_fault_42 ?_
        refine k_aload C.1 0 rfl dX11_fault_43 ?_
        refine k_iload_n C.1 4 rfl dX11_fault_45 ?_
        refine k_callV (As := [.ref a8, .ref a9, .int x2]) (rest := []) C.1 V_X11_213 (c_X11_faultOf h) ⟨rfl, rfl, Nat.le_of_ble_eq_true rfl, Nat.le_of_ble_eq_true rfl⟩ hs1  rfl rfl (Nat.le_of_ble_eq_true rfl) ⟨Nat.zero_le _, Nat.zero_le _⟩ dX11_fault_46 (kp_i fun r15 M14 h9 => ?_)
        replace h := h9
        exact k_iret C dX11_fault_49 h
      · have h := h.1 c13
        refine k_bipush (v := (-5)) C.1 dX11_fault_36 (by decide) ?_
        refine k_goto C.1 49 dX11_fault_38 (by decide) ?_
        exact k_iret C dX11_fault_49 h
    · replace h := h.1 e
      subst e
      refine k_iconst (v := (-1)) C.1 dX11_fault_26 (by decide) ?_
      exact k_iret C dX11_fault_27 h
abbrev rm_X11_limit : Room := { frames := 1, cells := 0, slots := 0, locals := 22 }
set_option maxRecDepth 100000 in
set_option maxHeartbeats 4000000 in
theorem c_X11_limit {l : Launch} {D : va_G} {dA : Nat → ClassId} {sh : gh_Sh} {b0 n : Nat} {M : gh_M} {x0 : Nat} {x1 : Int32} {post : Int32 → gh_M → Prop} (h : wp_X11_limit sh M x0 x1 post) : gh_Met l D dA sh b0 n yX11_limit cX11_limit 3 (some .int) rm_X11_limit M [.ref x0, .int x1] (gh_pi post) := by
  refine gh_open (by decide) (Nat.le_of_ble_eq_true rfl) (fun X C => ?_)
  show gh_G X rm_X11_limit 3 0 0 sh n 0 [(0, .ref x0), (1, .int x1)] [] M
  unfold wp_X11_limit at h
  refine k_iload_n C.1 1 rfl dX11_limit_0 ?_
  refine k_iconst (v := 1) C.1 dX11_limit_1 (by decide) ?_
  refine k_bipush (v := 10) C.1 dX11_limit_2 (by decide) ?_
  refine k_callS (As := [.int x1, .int (1 : Int32), .int (10 : Int32)]) (rest := []) C.1 V_X11_101 (c_X11_isIn h) ⟨rfl, rfl, Nat.le_of_ble_eq_true rfl, Nat.le_of_ble_eq_true rfl⟩  rfl rfl (Nat.le_of_ble_eq_true rfl) ⟨Nat.zero_le _, Nat.zero_le _⟩ dX11_limit_4 (kp_i fun r2 M1 h9 => ?_)
  replace h := h9
  refine k_if_ne C.1 12 dX11_limit_7 (by decide) (fun c3 => ?_) (fun c3 => ?_)
  · have h := h.2 c3
    refine k_aload_n C.1 0 rfl dX11_limit_12 ?_
    obtain ⟨hs4, h⟩ := h
    refine k_getI C.1 F_X11_74 dX11_limit_13 hs4 ?_
    refine k_istore_n (lv' := [(2, .int (rI M1 x0 11)), (0, .ref x0), (1, .int x1)]) C.1 dX11_limit_16 (by decide) rfl ?_
    refine k_aload_n C.1 1 rfl dX11_limit_17 ?_
    refine k_iload_n C.1 2 rfl dX11_limit_18 ?_
    refine k_putI C.1 F_X11_74 dX11_limit_19 hs4 rfl rfl ?_
    refine k_iload_n C.1 0 rfl dX11_limit_22 ?_
    exact k_iret C dX11_limit_23 h
  · have h := h.1 c3
    refine k_iconst (v := (-1)) C.1 dX11_limit_10 (by decide) ?_
    exact k_iret C dX11_limit_11 h
abbrev rm_X11_nearest : Room := { frames := 3, cells := 0, slots := 0, locals := 78 }
set_option maxRecDepth 100000 in
set_option maxHeartbeats 4000000 in
theorem c_X11_nearest {l : Launch} {D : va_G} {dA : Nat → ClassId} {sh : gh_Sh} {b0 n : Nat} {M : gh_M} {x0 : Nat} {x1 : Int32} {x2 : Int32} {x3 : Int32} {post : Int32 → gh_M → Prop} (h : wp_X11_nearest sh M x0 x1 x2 x3 post) : gh_Met l D dA sh b0 n yX11_nearest cX11_nearest 7 (some .int) rm_X11_nearest M [.ref x0, .int x1, .int x2, .int x3] (gh_pi post) := by
  refine gh_open (by decide) (Nat.le_of_ble_eq_true rfl) (fun X C => ?_)
  show gh_G X rm_X11_nearest 7 0 0 sh n 0 [(0, .ref x0), (1, .int x1), (2, .int x2), (3, .int x3)] [] M
  unfold wp_X11_nearest at h
  refine k_aload_n C.1 0 rfl dX11_nearest_0 ?_
  obtain ⟨hs1, h⟩ := h
  obtain ⟨q2, hq2, h⟩ := h
  refine k_getR C.1 F_X11_68 dX11_nearest_1 hs1 hq2 ?_
  refine k_iload_n C.1 1 rfl dX11_nearest_4 ?_
  obtain ⟨hs3, h⟩ := h
  refine k_callV (As := [.int x1]) (rest := []) C.1 V_X11_121 (c_X0_at h) ⟨rfl, rfl, Nat.le_of_ble_eq_true rfl, Nat.le_of_ble_eq_true rfl⟩ hs3  rfl rfl (Nat.le_of_ble_eq_true rfl) ⟨Nat.zero_le _, Nat.zero_le _⟩ dX11_nearest_5 (kp_q fun r5 M4 h9 => ?_)
  replace h := h9
  refine k_astoreq (lv' := [(4, va_rf r5), (0, .ref x0), (1, .int x1), (2, .int x2), (3, .int x3)]) C.1 dX11_nearest_8 (by decide) rfl ?_
  refine k_aloadq C.1 0 rfl dX11_nearest_10 ?_
  refine k_ifnull C.1 31 dX11_nearest_12 (by decide) (fun e => ?_) (fun a6 e => ?_)
  · replace h := h.1 e
    subst e
    refine k_iconst (v := (-1)) C.1 dX11_nearest_31 (by decide) ?_
    exact k_iret C dX11_nearest_32 h
  · replace h := h.2 a6 e
    subst e
    refine k_iload_n C.1 3 rfl dX11_nearest_15 ?_
    refine k_callS (As := [.int x2]) (rest := []) C.1 V_X11_174 (c_X11_isTongue h) ⟨rfl, rfl, Nat.le_of_ble_eq_true rfl, Nat.le_of_ble_eq_true rfl⟩  rfl rfl (Nat.le_of_ble_eq_true rfl) ⟨Nat.zero_le _, Nat.zero_le _⟩ dX11_nearest_16 (kp_i fun r8 M7 h9 => ?_)
    replace h := h9
    refine k_if_eq C.1 31 dX11_nearest_19 (by decide) (fun c9 => ?_) (fun c9 => ?_)
    · have h := h.1 c9
      refine k_iconst (v := (-1)) C.1 dX11_nearest_31 (by decide) ?_
      exact k_iret C dX11_nearest_32 h
    · have h := h.2 c9
      refine k_iload_n C.1 4 rfl dX11_nearest_22 ?_
      refine k_iconst (v := 0) C.1 dX11_nearest_23 (by decide) ?_
      refine k_iconst (v := 2) C.1 dX11_nearest_24 (by decide) ?_
      refine k_callS (As := [.int x3, .int (0 : Int32), .int (2 : Int32)]) (rest := []) C.1 V_X11_101 (c_X11_isIn h) ⟨rfl, rfl, Nat.le_of_ble_eq_true rfl, Nat.le_of_ble_eq_true rfl⟩  rfl rfl (Nat.le_of_ble_eq_true rfl) ⟨Nat.zero_le _, Nat.zero_le _⟩ dX11_nearest_25 (kp_i fun r11 M10 h9 => ?_)
      replace h := h9
      refine k_if_ne C.1 33 dX11_nearest_28 (by decide) (fun c12 => ?_) (fun c12 => ?_)
      · have h := h.2 c12
        refine k_aload_n C.1 1 rfl dX11_nearest_33 ?_
        obtain ⟨q13, hq13, h⟩ := h
        refine k_getR C.1 F_X11_54 dX11_nearest_34 hs1 hq13 ?_
        refine k_aload C.1 0 rfl dX11_nearest_37 ?_
        obtain ⟨hs14, h⟩ := h
        refine k_callV (As := []) (rest := [.ref q13]) C.1 V_X11_138 (c_X5_signs h) ⟨rfl, rfl, Nat.le_of_ble_eq_true rfl, Nat.le_of_ble_eq_true rfl⟩ hs14  rfl rfl (Nat.le_of_ble_eq_true rfl) ⟨Nat.zero_le _, Nat.zero_le _⟩ dX11_nearest_39 (kp_n fun r16 M15 h9 => ?_)
        replace h := h9
        refine k_iload_n C.1 3 rfl dX11_nearest_42 ?_
        refine k_aload_n C.1 1 rfl dX11_nearest_43 ?_
        obtain ⟨q17, hq17, h⟩ := h
        refine k_getR C.1 F_X11_19 dX11_nearest_44 hs1 hq17 ?_
        obtain ⟨hs18, h⟩ := h
        refine k_callV (As := [.ref r16, .int x2, .ref q17]) (rest := []) C.1 V_X11_238 (c_X4_closest h) ⟨rfl, rfl, Nat.le_of_ble_eq_true rfl, Nat.le_of_ble_eq_true rfl⟩ hs18  rfl rfl (Nat.le_of_ble_eq_true rfl) ⟨Nat.zero_le _, Nat.zero_le _⟩ dX11_nearest_47 (kp_i fun r20 M19 h9 => ?_)
        replace h := h9
        refine k_istore (lv' := [(5, .int r20), (4, .ref a6), (0, .ref x0), (1, .int x1), (2, .int x2), (3, .int x3)]) C.1 dX11_nearest_50 (by decide) rfl ?_
        refine k_aload_n C.1 2 rfl dX11_nearest_52 ?_
        obtain ⟨q21, hq21, h⟩ := h
        refine k_getR C.1 F_X11_54 dX11_nearest_53 hs1 hq21 ?_
        refine k_iload C.1 0 rfl dX11_nearest_56 ?_
        obtain ⟨hs22, h⟩ := h
        refine k_callV (As := [.int r20]) (rest := []) C.1 V_X11_242 (c_X4_at h) ⟨rfl, rfl, Nat.le_of_ble_eq_true rfl, Nat.le_of_ble_eq_true rfl⟩ hs22  rfl rfl (Nat.le_of_ble_eq_true rfl) ⟨Nat.zero_le _, Nat.zero_le _⟩ dX11_nearest_58 (kp_q fun r24 M23 h9 => ?_)
        replace h := h9
        refine k_astoreq (lv' := [(6, va_rf r24), (5, .int r20), (4, .ref a6), (0, .ref x0), (1, .int x1), (2, .int x2), (3, .int x3)]) C.1 dX11_nearest_61 (by decide) rfl ?_
        refine k_aloadq C.1 0 rfl dX11_nearest_63 ?_
        refine k_ifnonnull C.1 71 dX11_nearest_65 (by decide) (fun a25 e => ?_) (fun e => ?_)
        · replace h := h.2 a25 e
          subst e
          refine k_iload_n C.1 6 rfl dX11_nearest_71 ?_
          refine k_if_ne C.1 78 dX11_nearest_72 (by decide) (fun c26 => ?_) (fun c26 => ?_)
          · have h := h.2 c26
            refine k_iload_n C.1 6 rfl dX11_nearest_78 ?_
            refine k_iconst (v := 1) C.1 dX11_nearest_79 (by decide) ?_
            refine k_icmp_ne C.1 103 dX11_nearest_80 (by decide) (fun c27 => ?_) (fun c27 => ?_)
            · have h := h.2 c27
              refine k_aload C.1 0 rfl dX11_nearest_103 ?_
              obtain ⟨hs28, h⟩ := h
              refine k_callV (As := []) (rest := []) C.1 V_X11_230 (c_X1_textSigns h) ⟨rfl, rfl, Nat.le_of_ble_eq_true rfl, Nat.le_of_ble_eq_true rfl⟩ hs28  rfl rfl (Nat.le_of_ble_eq_true rfl) ⟨Nat.zero_le _, Nat.zero_le _⟩ dX11_nearest_105 (kp_n fun r30 M29 h9 => ?_)
              replace h := h9
              obtain ⟨hs31, h⟩ := h
              refine k_callV (As := []) (rest := []) C.1 V_X11_94 (c_X7_size h) ⟨rfl, rfl, Nat.le_of_ble_eq_true rfl, Nat.le_of_ble_eq_true rfl⟩ hs31  rfl rfl (Nat.le_of_ble_eq_true rfl) ⟨Nat.zero_le _, Nat.zero_le _⟩ dX11_nearest_108 (kp_i fun r33 M32 h9 => ?_)
              replace h := h9
              exact k_iret C dX11_nearest_111 h
            · have h := h.1 c27
              refine k_aload_n C.1 3 rfl dX11_nearest_83 ?_
              obtain ⟨q34, hq34, h⟩ := h
              refine k_getR C.1 F_X11_19 dX11_nearest_84 hs1 hq34 ?_
              refine k_aload C.1 2 rfl dX11_nearest_87 ?_
              refine k_callV (As := []) (rest := [.ref q34]) C.1 V_X11_138 (c_X5_signs h) ⟨rfl, rfl, Nat.le_of_ble_eq_true rfl, Nat.le_of_ble_eq_true rfl⟩ hs14  rfl rfl (Nat.le_of_ble_eq_true rfl) ⟨Nat.zero_le _, Nat.zero_le _⟩ dX11_nearest_89 (kp_n fun r36 M35 h9 => ?_)
              replace h := h9
              refine k_aload C.1 0 rfl dX11_nearest_92 ?_
              obtain ⟨hs37, h⟩ := h
              refine k_callV (As := []) (rest := [.ref r36, .ref q34]) C.1 V_X11_245 (c_X1_pieceSigns h) ⟨rfl, rfl, Nat.le_of_ble_eq_true rfl, Nat.le_of_ble_eq_true rfl⟩ hs37  rfl rfl (Nat.le_of_ble_eq_true rfl) ⟨Nat.zero_le _, Nat.zero_le _⟩ dX11_nearest_94 (kp_n fun r39 M38 h9 => ?_)
              replace h := h9
              obtain ⟨hs40, h⟩ := h
              refine k_callV (As := [.ref r36, .ref r39]) (rest := []) C.1 V_X11_146 (c_X8_between h) ⟨rfl, rfl, Nat.le_of_ble_eq_true rfl, Nat.le_of_ble_eq_true rfl⟩ hs40  rfl rfl (Nat.le_of_ble_eq_true rfl) ⟨Nat.zero_le _, Nat.zero_le _⟩ dX11_nearest_97 (kp_i fun r42 M41 h9 => ?_)
              replace h := h9
              refine k_goto C.1 111 dX11_nearest_100 (by decide) ?_
              exact k_iret C dX11_nearest_111 h
          · have h := h.1 c26
            refine k_iload C.1 1 rfl dX11_nearest_75 ?_
            exact k_iret C dX11_nearest_77 h
        · replace h := h.1 e
          subst e
          refine k_bipush (v := (-5)) C.1 dX11_nearest_68 (by decide) ?_
          exact k_iret C dX11_nearest_70 h
      · have h := h.1 c12
        refine k_iconst (v := (-1)) C.1 dX11_nearest_31 (by decide) ?_
        exact k_iret C dX11_nearest_32 h
abbrev rm_X11_memory : Room := { frames := 2, cells := 0, slots := 0, locals := 43 }
set_option maxRecDepth 100000 in
set_option maxHeartbeats 4000000 in
theorem c_X11_memory {l : Launch} {D : va_G} {dA : Nat → ClassId} {sh : gh_Sh} {b0 n : Nat} {M : gh_M} {x0 : Nat} {x1 : Int32} {x2 : Int32} {post : Int32 → gh_M → Prop} (h : wp_X11_memory sh M x0 x1 x2 post) : gh_Met l D dA sh b0 n yX11_memory cX11_memory 4 (some .int) rm_X11_memory M [.ref x0, .int x1, .int x2] (gh_pi post) := by
  refine gh_open (by decide) (Nat.le_of_ble_eq_true rfl) (fun X C => ?_)
  show gh_G X rm_X11_memory 4 0 0 sh n 0 [(0, .ref x0), (1, .int x1), (2, .int x2)] [] M
  unfold wp_X11_memory at h
  refine k_aload_n C.1 0 rfl dX11_memory_0 ?_
  obtain ⟨hs1, h⟩ := h
  obtain ⟨q2, hq2, h⟩ := h
  refine k_getR C.1 F_X11_54 dX11_memory_1 hs1 hq2 ?_
  refine k_iload_n C.1 1 rfl dX11_memory_4 ?_
  obtain ⟨hs3, h⟩ := h
  refine k_callV (As := [.int x1]) (rest := []) C.1 V_X11_242 (c_X4_at h) ⟨rfl, rfl, Nat.le_of_ble_eq_true rfl, Nat.le_of_ble_eq_true rfl⟩ hs3  rfl rfl (Nat.le_of_ble_eq_true rfl) ⟨Nat.zero_le _, Nat.zero_le _⟩ dX11_memory_5 (kp_q fun r5 M4 h9 => ?_)
  replace h := h9
  refine k_astore_nq (lv' := [(3, va_rf r5), (0, .ref x0), (1, .int x1), (2, .int x2)]) C.1 dX11_memory_8 (by decide) rfl ?_
  refine k_aload_nq C.1 0 rfl dX11_memory_9 ?_
  refine k_ifnonnull C.1 15 dX11_memory_10 (by decide) (fun a6 e => ?_) (fun e => ?_)
  · replace h := h.2 a6 e
    subst e
    refine k_iload_n C.1 3 rfl dX11_memory_15 ?_
    refine k_if_ne C.1 24 dX11_memory_16 (by decide) (fun c7 => ?_) (fun c7 => ?_)
    · have h := h.2 c7
      refine k_iload_n C.1 3 rfl dX11_memory_24 ?_
      refine k_iconst (v := 1) C.1 dX11_memory_25 (by decide) ?_
      refine k_icmp_ne C.1 37 dX11_memory_26 (by decide) (fun c8 => ?_) (fun c8 => ?_)
      · have h := h.2 c8
        refine k_iload_n C.1 3 rfl dX11_memory_37 ?_
        refine k_iconst (v := 2) C.1 dX11_memory_38 (by decide) ?_
        refine k_icmp_ne C.1 50 dX11_memory_39 (by decide) (fun c9 => ?_) (fun c9 => ?_)
        · have h := h.2 c9
          refine k_iload_n C.1 3 rfl dX11_memory_50 ?_
          refine k_bipush (v := 20) C.1 dX11_memory_51 (by decide) ?_
          refine k_icmp_ge C.1 69 dX11_memory_53 (by decide) (fun c10 => ?_) (fun c10 => ?_)
          · have h := h.1 c10
            refine k_aload_n C.1 0 rfl dX11_memory_69 ?_
            obtain ⟨hs11, h⟩ := h
            refine k_callV (As := []) (rest := []) C.1 V_X11_230 (c_X1_textSigns h) ⟨rfl, rfl, Nat.le_of_ble_eq_true rfl, Nat.le_of_ble_eq_true rfl⟩ hs11  rfl rfl (Nat.le_of_ble_eq_true rfl) ⟨Nat.zero_le _, Nat.zero_le _⟩ dX11_memory_70 (kp_n fun r13 M12 h9 => ?_)
            replace h := h9
            refine k_iload_n C.1 3 rfl dX11_memory_73 ?_
            refine k_bipush (v := 20) C.1 dX11_memory_74 (by decide) ?_
            obtain ⟨hs14, h⟩ := h
            refine k_callV (As := [.int x2, .int (20 : Int32)]) (rest := []) C.1 V_X11_142 (c_X7_askedFor h) ⟨rfl, rfl, Nat.le_of_ble_eq_true rfl, Nat.le_of_ble_eq_true rfl⟩ hs14  rfl rfl (Nat.le_of_ble_eq_true rfl) ⟨Nat.zero_le _, Nat.zero_le _⟩ dX11_memory_76 (kp_i fun r16 M15 h9 => ?_)
            replace h := h9
            exact k_iret C dX11_memory_79 h
          · have h := h.2 c10
            refine k_aload_n C.1 0 rfl dX11_memory_56 ?_
            obtain ⟨hs17, h⟩ := h
            refine k_callV (As := []) (rest := []) C.1 V_X11_245 (c_X1_pieceSigns h) ⟨rfl, rfl, Nat.le_of_ble_eq_true rfl, Nat.le_of_ble_eq_true rfl⟩ hs17  rfl rfl (Nat.le_of_ble_eq_true rfl) ⟨Nat.zero_le _, Nat.zero_le _⟩ dX11_memory_57 (kp_n fun r19 M18 h9 => ?_)
            replace h := h9
            refine k_iload_n C.1 3 rfl dX11_memory_60 ?_
            refine k_bipush (v := 10) C.1 dX11_memory_61 (by decide) ?_
            obtain ⟨hs20, h⟩ := h
            refine k_callV (As := [.int x2, .int (10 : Int32)]) (rest := []) C.1 V_X11_142 (c_X7_askedFor h) ⟨rfl, rfl, Nat.le_of_ble_eq_true rfl, Nat.le_of_ble_eq_true rfl⟩ hs20  rfl rfl (Nat.le_of_ble_eq_true rfl) ⟨Nat.zero_le _, Nat.zero_le _⟩ dX11_memory_63 (kp_i fun r22 M21 h9 => ?_)
            replace h := h9
            refine k_goto C.1 79 dX11_memory_66 (by decide) ?_
            exact k_iret C dX11_memory_79 h
        · have h := h.1 c9
          refine k_aload_n C.1 0 rfl dX11_memory_42 ?_
          obtain ⟨hs23, h⟩ := h
          refine k_callV (As := []) (rest := []) C.1 V_X11_230 (c_X1_textSigns h) ⟨rfl, rfl, Nat.le_of_ble_eq_true rfl, Nat.le_of_ble_eq_true rfl⟩ hs23  rfl rfl (Nat.le_of_ble_eq_true rfl) ⟨Nat.zero_le _, Nat.zero_le _⟩ dX11_memory_43 (kp_n fun r25 M24 h9 => ?_)
          replace h := h9
          obtain ⟨hs26, h⟩ := h
          refine k_callV (As := []) (rest := []) C.1 V_X11_94 (c_X7_size h) ⟨rfl, rfl, Nat.le_of_ble_eq_true rfl, Nat.le_of_ble_eq_true rfl⟩ hs26  rfl rfl (Nat.le_of_ble_eq_true rfl) ⟨Nat.zero_le _, Nat.zero_le _⟩ dX11_memory_46 (kp_i fun r28 M27 h9 => ?_)
          replace h := h9
          exact k_iret C dX11_memory_49 h
      · have h := h.1 c8
        refine k_aload_n C.1 0 rfl dX11_memory_29 ?_
        obtain ⟨hs29, h⟩ := h
        refine k_callV (As := []) (rest := []) C.1 V_X11_245 (c_X1_pieceSigns h) ⟨rfl, rfl, Nat.le_of_ble_eq_true rfl, Nat.le_of_ble_eq_true rfl⟩ hs29  rfl rfl (Nat.le_of_ble_eq_true rfl) ⟨Nat.zero_le _, Nat.zero_le _⟩ dX11_memory_30 (kp_n fun r31 M30 h9 => ?_)
        replace h := h9
        obtain ⟨hs32, h⟩ := h
        refine k_callV (As := []) (rest := []) C.1 V_X11_94 (c_X7_size h) ⟨rfl, rfl, Nat.le_of_ble_eq_true rfl, Nat.le_of_ble_eq_true rfl⟩ hs32  rfl rfl (Nat.le_of_ble_eq_true rfl) ⟨Nat.zero_le _, Nat.zero_le _⟩ dX11_memory_33 (kp_i fun r34 M33 h9 => ?_)
        replace h := h9
        exact k_iret C dX11_memory_36 h
    · have h := h.1 c7
      refine k_aload_n C.1 0 rfl dX11_memory_19 ?_
      obtain ⟨hs35, h⟩ := h
      refine k_callV (As := []) (rest := []) C.1 V_X11_248 (c_X1_tongue h) ⟨rfl, rfl, Nat.le_of_ble_eq_true rfl, Nat.le_of_ble_eq_true rfl⟩ hs35  rfl rfl (Nat.le_of_ble_eq_true rfl) ⟨Nat.zero_le _, Nat.zero_le _⟩ dX11_memory_20 (kp_i fun r37 M36 h9 => ?_)
      replace h := h9
      exact k_iret C dX11_memory_23 h
  · replace h := h.1 e
    subst e
    refine k_iconst (v := (-1)) C.1 dX11_memory_13 (by decide) ?_
    exact k_iret C dX11_memory_14 h
abbrev rm_X11_effortFor : Room := { frames := 4, cells := 0, slots := 0, locals := 100 }
set_option maxRecDepth 100000 in
set_option maxHeartbeats 4000000 in
theorem c_X11_effortFor {l : Launch} {D : va_G} {dA : Nat → ClassId} {sh : gh_Sh} {b0 n : Nat} {M : gh_M} {x0 : Nat} {x1 : Nat} {x2 : Int32} {post : Int32 → gh_M → Prop} (h : wp_X11_effortFor sh M x0 x1 x2 post) : gh_Met l D dA sh b0 n yX11_effortFor cX11_effortFor 5 (some .int) rm_X11_effortFor M [.ref x0, .ref x1, .int x2] (gh_pi post) := by
  refine gh_open (by decide) (Nat.le_of_ble_eq_true rfl) (fun X C => ?_)
  show gh_G X rm_X11_effortFor 5 0 0 sh n 0 [(0, .ref x0), (1, .ref x1), (2, .int x2)] [] M
  unfold wp_X11_effortFor at h
  refine k_aload_n C.1 1 rfl dX11_effortFor_0 ?_
  refine k_iload_n C.1 2 rfl dX11_effortFor_1 ?_
  obtain ⟨hs1, h⟩ := h
  refine k_callV (As := [.int x2]) (rest := []) C.1 V_X11_310 (c_X5_needsWork h) ⟨rfl, rfl, Nat.le_of_ble_eq_true rfl, Nat.le_of_ble_eq_true rfl⟩ hs1  rfl rfl (Nat.le_of_ble_eq_true rfl) ⟨Nat.zero_le _, Nat.zero_le _⟩ dX11_effortFor_2 (kp_i fun r3 M2 h9 => ?_)
  replace h := h9
  refine k_if_ne C.1 10 dX11_effortFor_5 (by decide) (fun c4 => ?_) (fun c4 => ?_)
  · have h := h.2 c4
    refine k_aload_n C.1 0 rfl dX11_effortFor_10 ?_
    refine k_aload_n C.1 1 rfl dX11_effortFor_11 ?_
    refine k_iload_n C.1 2 rfl dX11_effortFor_12 ?_
    obtain ⟨hs5, h⟩ := h
    refine k_callV (As := [.ref x1, .int x2]) (rest := []) C.1 V_X11_226 (c_X11_closestEntry h) ⟨rfl, rfl, Nat.le_of_ble_eq_true rfl, Nat.le_of_ble_eq_true rfl⟩ hs5  rfl rfl (Nat.le_of_ble_eq_true rfl) ⟨Nat.zero_le _, Nat.zero_le _⟩ dX11_effortFor_13 (kp_q fun r7 M6 h9 => ?_)
    replace h := h9
    refine k_astore_nq (lv' := [(3, va_rf r7), (0, .ref x0), (1, .ref x1), (2, .int x2)]) C.1 dX11_effortFor_16 (by decide) rfl ?_
    refine k_aload_nq C.1 0 rfl dX11_effortFor_17 ?_
    refine k_ifnonnull C.1 29 dX11_effortFor_18 (by decide) (fun a8 e => ?_) (fun e => ?_)
    · replace h := h.2 a8 e
      subst e
      refine k_aload_n C.1 1 rfl dX11_effortFor_29 ?_
      obtain ⟨q14, hq14, h⟩ := h
      refine k_getR C.1 F_X11_19 dX11_effortFor_30 hs5 hq14 ?_
      refine k_aload_n C.1 2 rfl dX11_effortFor_33 ?_
      refine k_callV (As := []) (rest := [.ref q14]) C.1 V_X11_138 (c_X5_signs h) ⟨rfl, rfl, Nat.le_of_ble_eq_true rfl, Nat.le_of_ble_eq_true rfl⟩ hs1  rfl rfl (Nat.le_of_ble_eq_true rfl) ⟨Nat.zero_le _, Nat.zero_le _⟩ dX11_effortFor_34 (kp_n fun r16 M15 h9 => ?_)
      replace h := h9
      refine k_aload_n C.1 0 rfl dX11_effortFor_37 ?_
      obtain ⟨hs17, h⟩ := h
      refine k_callV (As := []) (rest := [.ref r16, .ref q14]) C.1 V_X11_245 (c_X1_pieceSigns h) ⟨rfl, rfl, Nat.le_of_ble_eq_true rfl, Nat.le_of_ble_eq_true rfl⟩ hs17  rfl rfl (Nat.le_of_ble_eq_true rfl) ⟨Nat.zero_le _, Nat.zero_le _⟩ dX11_effortFor_38 (kp_n fun r19 M18 h9 => ?_)
      replace h := h9
      obtain ⟨hs20, h⟩ := h
      refine k_callV (As := [.ref r16, .ref r19]) (rest := []) C.1 V_X11_146 (c_X8_between h) ⟨rfl, rfl, Nat.le_of_ble_eq_true rfl, Nat.le_of_ble_eq_true rfl⟩ hs20  rfl rfl (Nat.le_of_ble_eq_true rfl) ⟨Nat.zero_le _, Nat.zero_le _⟩ dX11_effortFor_41 (kp_i fun r22 M21 h9 => ?_)
      replace h := h9
      refine k_istore (lv' := [(4, .int r22), (3, .ref a8), (0, .ref x0), (1, .ref x1), (2, .int x2)]) C.1 dX11_effortFor_44 (by decide) rfl ?_
      refine k_iload C.1 0 rfl dX11_effortFor_46 ?_
      refine k_if_ne C.1 53 dX11_effortFor_48 (by decide) (fun c23 => ?_) (fun c23 => ?_)
      · have h := h.2 c23
        refine k_iload C.1 0 rfl dX11_effortFor_53 ?_
        refine k_iconst (v := 2) C.1 dX11_effortFor_55 (by decide) ?_
        refine k_icmp_gt C.1 63 dX11_effortFor_56 (by decide) (fun c24 => ?_) (fun c24 => ?_)
        · have h := h.1 c24
          refine k_aload_n C.1 3 rfl dX11_effortFor_63 ?_
          refine k_callV (As := []) (rest := []) C.1 V_X11_138 (c_X5_signs h) ⟨rfl, rfl, Nat.le_of_ble_eq_true rfl, Nat.le_of_ble_eq_true rfl⟩ hs1  rfl rfl (Nat.le_of_ble_eq_true rfl) ⟨Nat.zero_le _, Nat.zero_le _⟩ dX11_effortFor_64 (kp_n fun r26 M25 h9 => ?_)
          replace h := h9
          obtain ⟨hs27, h⟩ := h
          refine k_callV (As := []) (rest := []) C.1 V_X11_94 (c_X7_size h) ⟨rfl, rfl, Nat.le_of_ble_eq_true rfl, Nat.le_of_ble_eq_true rfl⟩ hs27  rfl rfl (Nat.le_of_ble_eq_true rfl) ⟨Nat.zero_le _, Nat.zero_le _⟩ dX11_effortFor_67 (kp_i fun r29 M28 h9 => ?_)
          replace h := h9
          exact k_iret C dX11_effortFor_70 h
        · have h := h.2 c24
          refine k_iconst (v := 2) C.1 dX11_effortFor_59 (by decide) ?_
          refine k_goto C.1 70 dX11_effortFor_60 (by decide) ?_
          exact k_iret C dX11_effortFor_70 h
      · have h := h.1 c23
        refine k_iconst (v := 1) C.1 dX11_effortFor_51 (by decide) ?_
        exact k_iret C dX11_effortFor_52 h
    · replace h := h.1 e
      subst e
      refine k_aload_n C.1 2 rfl dX11_effortFor_21 ?_
      refine k_callV (As := []) (rest := []) C.1 V_X11_138 (c_X5_signs h) ⟨rfl, rfl, Nat.le_of_ble_eq_true rfl, Nat.le_of_ble_eq_true rfl⟩ hs1  rfl rfl (Nat.le_of_ble_eq_true rfl) ⟨Nat.zero_le _, Nat.zero_le _⟩ dX11_effortFor_22 (kp_n fun r10 M9 h9 => ?_)
      replace h := h9
      obtain ⟨hs11, h⟩ := h
      refine k_callV (As := []) (rest := []) C.1 V_X11_94 (c_X7_size h) ⟨rfl, rfl, Nat.le_of_ble_eq_true rfl, Nat.le_of_ble_eq_true rfl⟩ hs11  rfl rfl (Nat.le_of_ble_eq_true rfl) ⟨Nat.zero_le _, Nat.zero_le _⟩ dX11_effortFor_25 (kp_i fun r13 M12 h9 => ?_)
      replace h := h9
      exact k_iret C dX11_effortFor_28 h
  · have h := h.1 c4
    refine k_iconst (v := 0) C.1 dX11_effortFor_8 (by decide) ?_
    exact k_iret C dX11_effortFor_9 h
