abbrev rm_X12_fits : Room := { frames := 1, cells := 0, slots := 0, locals := 22 }
set_option maxRecDepth 100000 in
set_option maxHeartbeats 4000000 in
theorem c_X12_fits {l : Launch} {D : va_G} {dA : Nat → ClassId} {sh : gh_Sh} {b0 n : Nat} {M : gh_M} {x0 : Nat} {x1 : Int32} {x2 : Int32} {x3 : Int32} {post : Int32 → gh_M → Prop} (h : wp_X12_fits sh M x0 x1 x2 x3 post) : gh_Met l D dA sh b0 n yX12_fits cX12_fits 4 (some .boolean) rm_X12_fits M [.ref x0, .int x1, .int x2, .int x3] (gh_pi post) := by
  refine gh_open (by decide) (Nat.le_of_ble_eq_true rfl) (fun X C => ?_)
  show gh_G X rm_X12_fits 4 0 0 sh n 0 [(0, .ref x0), (1, .int x1), (2, .int x2), (3, .int x3)] [] M
  unfold wp_X12_fits at h
  refine k_aload_n C.1 0 rfl dX12_fits_0 ?_
  obtain ⟨hs1, h⟩ := h
  obtain ⟨q2, hq2, h⟩ := h
  refine k_getR C.1 F_X12_113 dX12_fits_1 hs1 hq2 ?_
  refine k_iload_n C.1 1 rfl dX12_fits_4 ?_
  obtain ⟨hs3, h⟩ := h
  obtain ⟨hi4, h⟩ := h
  refine k_iald C.1 dX12_fits_5 hs3 hi4 ?_
  refine k_if_le C.1 37 dX12_fits_6 (by decide) (fun c5 => ?_) (fun c5 => ?_)
  · have h := h.1 c5
    refine k_iconst (v := 0) C.1 dX12_fits_37 (by decide) ?_
    exact k_zret C dX12_fits_38 (Or.inl rfl) h
  · have h := h.2 c5
    refine k_aload_n C.1 0 rfl dX12_fits_9 ?_
    refine k_iload_n C.1 2 rfl dX12_fits_10 ?_
    refine k_iload_n C.1 3 rfl dX12_fits_11 ?_
    refine k_callV (As := [.int x2, .int x3]) (rest := []) C.1 V_X12_196 (c_X12_knows h) ⟨rfl, rfl, Nat.le_of_ble_eq_true rfl, Nat.le_of_ble_eq_true rfl⟩ hs1  rfl rfl (Nat.le_of_ble_eq_true rfl) ⟨Nat.zero_le _, Nat.zero_le _⟩ dX12_fits_12 (kp_i fun r7 M6 h9 => ?_)
    replace h := h9
    refine k_if_eq C.1 37 dX12_fits_15 (by decide) (fun c8 => ?_) (fun c8 => ?_)
    · have h := h.1 c8
      refine k_iconst (v := 0) C.1 dX12_fits_37 (by decide) ?_
      exact k_zret C dX12_fits_38 (Or.inl rfl) h
    · have h := h.2 c8
      refine k_aload_n C.1 0 rfl dX12_fits_18 ?_
      obtain ⟨q9, hq9, h⟩ := h
      refine k_getR C.1 F_X12_122 dX12_fits_19 hs1 hq9 ?_
      refine k_iload_n C.1 2 rfl dX12_fits_22 ?_
      obtain ⟨hs10, h⟩ := h
      obtain ⟨hi11, h⟩ := h
      refine k_iald C.1 dX12_fits_23 hs10 hi11 ?_
      refine k_aload_n C.1 0 rfl dX12_fits_24 ?_
      obtain ⟨q12, hq12, h⟩ := h
      refine k_getR C.1 F_X12_113 dX12_fits_25 hs1 hq12 ?_
      refine k_iload_n C.1 1 rfl dX12_fits_28 ?_
      obtain ⟨hs13, h⟩ := h
      obtain ⟨hi14, h⟩ := h
      refine k_iald C.1 dX12_fits_29 hs13 hi14 ?_
      refine k_icmp_lt C.1 37 dX12_fits_30 (by decide) (fun c15 => ?_) (fun c15 => ?_)
      · have h := h.1 c15
        refine k_iconst (v := 0) C.1 dX12_fits_37 (by decide) ?_
        exact k_zret C dX12_fits_38 (Or.inl rfl) h
      · have h := h.2 c15
        refine k_iconst (v := 1) C.1 dX12_fits_33 (by decide) ?_
        refine k_goto C.1 38 dX12_fits_34 (by decide) ?_
        exact k_zret C dX12_fits_38 (Or.inr rfl) h
abbrev rm_X12_findPlan : Room := { frames := 5, cells := 0, slots := 0, locals := 121 }
set_option maxRecDepth 100000 in
set_option maxHeartbeats 4000000 in
theorem b_X12_findPlan_313 {X : gh_X} {sh : gh_Sh} {n : Nat} {post : gh_M → Prop} (C : gh_CR X cX12_findPlan RX12 8 none sh n 0 0 (gh_pv post)) (x0 : Nat) (x1 : Int32) (x2 : Int32) (x3 : Int32) (x4 : Int32) (x5 : Int32) (M : gh_M) (k32 : Int32 → Int32 → Int32 → Int32 → gh_M → Prop) (hk32 : ∀ (y2 : Int32) (y3 : Int32) (y4 : Int32) (y5 : Int32) (M : gh_M), k32 y2 y3 y4 y5 M → gh_G X rm_X12_findPlan 8 0 0 sh n 32 [(0, .ref x0), (1, .int x1), (2, .int y2), (3, .int y3), (4, .int y4), (5, .int y5)] [] M) (h : wp_X12_findPlan_313 sh post k32 x0 x1 x2 x3 x4 x5 M) : gh_G X rm_X12_findPlan 8 0 0 sh n 313 [(0, .ref x0), (1, .int x1), (2, .int x2), (3, .int x3), (4, .int x4), (5, .int x5)] [] M := by
  unfold wp_X12_findPlan_313 at h
  refine k_goto C.1 32 dX12_findPlan_313 (by decide) ?_
  exact hk32 x2 x3 x4 x5 M h
set_option maxRecDepth 100000 in
set_option maxHeartbeats 4000000 in
theorem b_X12_findPlan_295 {X : gh_X} {sh : gh_Sh} {n : Nat} {post : gh_M → Prop} (C : gh_CR X cX12_findPlan RX12 8 none sh n 0 0 (gh_pv post)) (x0 : Nat) (x1 : Int32) (x2 : Int32) (x3 : Int32) (x4 : Int32) (x5 : Int32) (M : gh_M) (k32 : Int32 → Int32 → Int32 → Int32 → gh_M → Prop) (hk32 : ∀ (y2 : Int32) (y3 : Int32) (y4 : Int32) (y5 : Int32) (M : gh_M), k32 y2 y3 y4 y5 M → gh_G X rm_X12_findPlan 8 0 0 sh n 32 [(0, .ref x0), (1, .int x1), (2, .int y2), (3, .int y3), (4, .int y4), (5, .int y5)] [] M) (h : wp_X12_findPlan_295 sh post k32 x0 x1 x2 x3 x4 x5 M) : gh_G X rm_X12_findPlan 8 0 0 sh n 295 [(0, .ref x0), (1, .int x1), (2, .int x2), (3, .int x3), (4, .int x4), (5, .int x5)] [] M := by
  unfold wp_X12_findPlan_295 at h
  refine k_iinc (v := x2 + 1) (lv' := [(2, .int (x2 + 1)), (0, .ref x0), (1, .int x1), (3, .int x3), (4, .int x4), (5, .int x5)]) C.1 2 rfl dX12_findPlan_295 (by decide) rfl rfl ?_
  refine k_iload_n C.1 0 rfl dX12_findPlan_298 ?_
  refine k_aload_n C.1 1 rfl dX12_findPlan_299 ?_
  obtain ⟨hs1, h⟩ := h
  refine k_getI C.1 F_X12_132 dX12_findPlan_300 hs1 ?_
  refine k_icmp_ge C.1 313 dX12_findPlan_303 (by decide) (fun c2 => ?_) (fun c2 => ?_)
  · have h := h.1 c2
    refine k_sub (lv' := [(0, .ref x0), (1, .int x1), (2, .int (x2 + 1)), (3, .int x3), (4, .int x4), (5, .int x5)]) [1, 2, 0, 3, 4, 5] rfl ?_
    exact b_X12_findPlan_313 C x0 x1 (x2 + 1) x3 x4 x5 M k32 hk32 h
  · have h := h.2 c2
    refine k_aload_n C.1 1 rfl dX12_findPlan_306 ?_
    obtain ⟨q3, hq3, h⟩ := h
    refine k_getR C.1 F_X12_119 dX12_findPlan_307 hs1 hq3 ?_
    refine k_iload_n C.1 0 rfl dX12_findPlan_310 ?_
    refine k_iconst (v := (-1)) C.1 dX12_findPlan_311 (by decide) ?_
    obtain ⟨hs5, h⟩ := h
    obtain ⟨hi4, h⟩ := h
    refine k_iast C.1 dX12_findPlan_312 hs5 hi4 ?_
    refine k_sub (lv' := [(0, .ref x0), (1, .int x1), (2, .int (x2 + 1)), (3, .int x3), (4, .int x4), (5, .int x5)]) [1, 2, 0, 3, 4, 5] rfl ?_
    exact b_X12_findPlan_313 C x0 x1 (x2 + 1) x3 x4 x5 (wI M q3 (x2 + 1).toNatClampNeg (-1 : Int32)) k32 hk32 h
set_option maxRecDepth 100000 in
set_option maxHeartbeats 4000000 in
theorem b_X12_findPlan_235 {X : gh_X} {sh : gh_Sh} {n : Nat} {post : gh_M → Prop} (C : gh_CR X cX12_findPlan RX12 8 none sh n 0 0 (gh_pv post)) (x0 : Nat) (x1 : Int32) (x2 : Int32) (x3 : Int32) (x4 : Int32) (s0 : Int32) (M : gh_M) (k32 : Int32 → Int32 → Int32 → Int32 → gh_M → Prop) (hk32 : ∀ (y2 : Int32) (y3 : Int32) (y4 : Int32) (y5 : Int32) (M : gh_M), k32 y2 y3 y4 y5 M → gh_G X rm_X12_findPlan 8 0 0 sh n 32 [(0, .ref x0), (1, .int x1), (2, .int y2), (3, .int y3), (4, .int y4), (5, .int y5)] [] M) (h : wp_X12_findPlan_235 sh post k32 x0 x1 x2 x3 x4 s0 M) : gh_G X rm_X12_findPlan 8 0 0 sh n 235 [(0, .ref x0), (1, .int x1), (2, .int x2), (3, .int x3), (4, .int x4)] [.int s0] M := by
  unfold wp_X12_findPlan_235 at h
  refine k_istore (lv' := [(5, .int s0), (0, .ref x0), (1, .int x1), (2, .int x2), (3, .int x3), (4, .int x4)]) C.1 dX12_findPlan_235 (by decide) rfl ?_
  refine k_goto C.1 32 dX12_findPlan_237 (by decide) ?_
  refine k_sub (lv' := [(0, .ref x0), (1, .int x1), (2, .int x2), (3, .int x3), (4, .int x4), (5, .int s0)]) [1, 2, 3, 4, 5, 0] rfl ?_
  exact hk32 x2 x3 x4 s0 M h
set_option maxRecDepth 100000 in
set_option maxHeartbeats 4000000 in
theorem b_X12_findPlan_223 {X : gh_X} {sh : gh_Sh} {n : Nat} {post : gh_M → Prop} (C : gh_CR X cX12_findPlan RX12 8 none sh n 0 0 (gh_pv post)) (x0 : Nat) (x1 : Int32) (x2 : Int32) (x3 : Int32) (x4 : Int32) (M : gh_M) (k32 : Int32 → Int32 → Int32 → Int32 → gh_M → Prop) (hk32 : ∀ (y2 : Int32) (y3 : Int32) (y4 : Int32) (y5 : Int32) (M : gh_M), k32 y2 y3 y4 y5 M → gh_G X rm_X12_findPlan 8 0 0 sh n 32 [(0, .ref x0), (1, .int x1), (2, .int y2), (3, .int y3), (4, .int y4), (5, .int y5)] [] M) (h : wp_X12_findPlan_223 sh post k32 x0 x1 x2 x3 x4 M) : gh_G X rm_X12_findPlan 8 0 0 sh n 223 [(0, .ref x0), (1, .int x1), (2, .int x2), (3, .int x3), (4, .int x4)] [] M := by
  unfold wp_X12_findPlan_223 at h
  refine k_iinc (v := x2 + (-1)) (lv' := [(2, .int (x2 + (-1))), (0, .ref x0), (1, .int x1), (3, .int x3), (4, .int x4)]) C.1 2 rfl dX12_findPlan_223 (by decide) rfl rfl ?_
  refine k_iload_n C.1 0 rfl dX12_findPlan_226 ?_
  refine k_if_lt C.1 234 dX12_findPlan_227 (by decide) (fun c1 => ?_) (fun c1 => ?_)
  · have h := h.1 c1
    refine k_iconst (v := 0) C.1 dX12_findPlan_234 (by decide) ?_
    refine k_sub (lv' := [(0, .ref x0), (1, .int x1), (2, .int (x2 + (-1))), (3, .int x3), (4, .int x4)]) [1, 2, 0, 3, 4] rfl ?_
    exact b_X12_findPlan_235 C x0 x1 (x2 + (-1)) x3 x4 (0 : Int32) M k32 hk32 h
  · have h := h.2 c1
    refine k_iconst (v := 1) C.1 dX12_findPlan_230 (by decide) ?_
    refine k_goto C.1 235 dX12_findPlan_231 (by decide) ?_
    refine k_sub (lv' := [(0, .ref x0), (1, .int x1), (2, .int (x2 + (-1))), (3, .int x3), (4, .int x4)]) [1, 2, 0, 3, 4] rfl ?_
    exact b_X12_findPlan_235 C x0 x1 (x2 + (-1)) x3 x4 (1 : Int32) M k32 hk32 h
set_option maxRecDepth 100000 in
set_option maxHeartbeats 4000000 in
theorem b_X12_findPlan_203 {X : gh_X} {sh : gh_Sh} {n : Nat} {post : gh_M → Prop} (C : gh_CR X cX12_findPlan RX12 8 none sh n 0 0 (gh_pv post)) (x0 : Nat) (x1 : Int32) (x2 : Int32) (x3 : Int32) (x4 : Int32) (x5 : Int32) (x7 : Int32) (M : gh_M) (k32 : Int32 → Int32 → Int32 → Int32 → gh_M → Prop) (hk32 : ∀ (y2 : Int32) (y3 : Int32) (y4 : Int32) (y5 : Int32) (M : gh_M), k32 y2 y3 y4 y5 M → gh_G X rm_X12_findPlan 8 0 0 sh n 32 [(0, .ref x0), (1, .int x1), (2, .int y2), (3, .int y3), (4, .int y4), (5, .int y5)] [] M) (h : wp_X12_findPlan_203 sh post k32 x0 x1 x2 x3 x4 x5 x7 M) : gh_G X rm_X12_findPlan 8 0 0 sh n 203 [(0, .ref x0), (1, .int x1), (2, .int x2), (3, .int x3), (4, .int x4), (5, .int x5), (7, .int x7)] [] M := by
  unfold wp_X12_findPlan_203 at h
  refine k_iload C.1 6 rfl dX12_findPlan_203 ?_
  refine k_aload_n C.1 0 rfl dX12_findPlan_205 ?_
  obtain ⟨hs1, h⟩ := h
  refine k_getI C.1 F_X12_135 dX12_findPlan_206 hs1 ?_
  refine k_icmp_gt C.1 223 dX12_findPlan_209 (by decide) (fun c2 => ?_) (fun c2 => ?_)
  · have h := h.1 c2
    refine k_sub (lv' := [(0, .ref x0), (1, .int x1), (2, .int x2), (3, .int x3), (4, .int x4)]) [0, 1, 2, 3, 4] rfl ?_
    exact b_X12_findPlan_223 C x0 x1 x2 x3 x4 M k32 hk32 h
  · have h := h.2 c2
    refine k_aload_n C.1 0 rfl dX12_findPlan_212 ?_
    refine k_iload_n C.1 2 rfl dX12_findPlan_213 ?_
    refine k_iload_n C.1 3 rfl dX12_findPlan_214 ?_
    refine k_iload C.1 4 rfl dX12_findPlan_215 ?_
    refine k_callV (As := [.int x2, .int x3, .int x4]) (rest := []) C.1 V_X12_249 (c_X12_canBeBetter h) ⟨rfl, rfl, Nat.le_of_ble_eq_true rfl, Nat.le_of_ble_eq_true rfl⟩ hs1  rfl rfl (Nat.le_of_ble_eq_true rfl) ⟨Nat.zero_le _, Nat.zero_le _⟩ dX12_findPlan_217 (kp_i fun r4 M3 h9 => ?_)
    replace h := h9
    refine k_if_ne C.1 240 dX12_findPlan_220 (by decide) (fun c5 => ?_) (fun c5 => ?_)
    · have h := h.2 c5
      refine k_aload_n C.1 0 rfl dX12_findPlan_240 ?_
      obtain ⟨q6, hq6, h⟩ := h
      refine k_getR C.1 F_X12_119 dX12_findPlan_241 hs1 hq6 ?_
      refine k_iload_n C.1 2 rfl dX12_findPlan_244 ?_
      refine k_iload C.1 6 rfl dX12_findPlan_245 ?_
      obtain ⟨hs8, h⟩ := h
      obtain ⟨hi7, h⟩ := h
      refine k_iast C.1 dX12_findPlan_247 hs8 hi7 ?_
      refine k_iload C.1 6 rfl dX12_findPlan_248 ?_
      refine k_aload_n C.1 0 rfl dX12_findPlan_250 ?_
      refine k_getI C.1 F_X12_135 dX12_findPlan_251 hs1 ?_
      refine k_icmp_ge C.1 295 dX12_findPlan_254 (by decide) (fun c9 => ?_) (fun c9 => ?_)
      · have h := h.1 c9
        refine k_sub (lv' := [(0, .ref x0), (1, .int x1), (2, .int x2), (3, .int x3), (4, .int x4), (5, .int x5)]) [0, 1, 2, 3, 4, 5] rfl ?_
        exact b_X12_findPlan_295 C x0 x1 x2 x3 x4 x5 (wI M3 q6 x2.toNatClampNeg x7) k32 hk32 h
      · have h := h.2 c9
        refine k_aload_n C.1 0 rfl dX12_findPlan_257 ?_
        obtain ⟨q10, hq10, h⟩ := h
        refine k_getR C.1 F_X12_122 dX12_findPlan_258 hs1 hq10 ?_
        refine k_iload C.1 6 rfl dX12_findPlan_261 ?_
        refine k_dup2 C.1 dX12_findPlan_263 rfl rfl ?_
        obtain ⟨hs11, h⟩ := h
        obtain ⟨hi12, h⟩ := h
        refine k_iald C.1 dX12_findPlan_264 hs11 hi12 ?_
        refine k_aload_n C.1 0 rfl dX12_findPlan_265 ?_
        obtain ⟨q13, hq13, h⟩ := h
        refine k_getR C.1 F_X12_113 dX12_findPlan_266 hs1 hq13 ?_
        refine k_iload_n C.1 2 rfl dX12_findPlan_269 ?_
        obtain ⟨hs14, h⟩ := h
        obtain ⟨hi15, h⟩ := h
        refine k_iald C.1 dX12_findPlan_270 hs14 hi15 ?_
        refine k_isub C.1 dX12_findPlan_271 ?_
        obtain ⟨hi16, h⟩ := h
        refine k_iast C.1 dX12_findPlan_272 hs11 hi16 ?_
        refine k_iinc (v := x3 + 1) (lv' := [(3, .int (x3 + 1)), (0, .ref x0), (1, .int x1), (2, .int x2), (4, .int x4), (5, .int x5), (7, .int x7)]) C.1 3 rfl dX12_findPlan_273 (by decide) rfl rfl ?_
        refine k_iload C.1 4 rfl dX12_findPlan_276 ?_
        refine k_aload_n C.1 1 rfl dX12_findPlan_278 ?_
        refine k_getR C.1 F_X12_113 dX12_findPlan_279 hs1 hq13 ?_
        refine k_iload_n C.1 3 rfl dX12_findPlan_282 ?_
        obtain ⟨hi17, h⟩ := h
        refine k_iald C.1 dX12_findPlan_283 hs14 hi17 ?_
        refine k_aload_n C.1 1 rfl dX12_findPlan_284 ?_
        obtain ⟨q18, hq18, h⟩ := h
        refine k_getR C.1 F_X12_55 dX12_findPlan_285 hs1 hq18 ?_
        refine k_iload C.1 6 rfl dX12_findPlan_288 ?_
        obtain ⟨hs19, h⟩ := h
        obtain ⟨hi20, h⟩ := h
        refine k_iald C.1 dX12_findPlan_290 hs19 hi20 ?_
        refine k_imul C.1 dX12_findPlan_291 ?_
        refine k_iadd C.1 dX12_findPlan_292 ?_
        refine k_istore (lv' := [(4, .int (x4 + ((rI (wI (wI M3 q6 x2.toNatClampNeg x7) q10 x7.toNatClampNeg ((rI (wI M3 q6 x2.toNatClampNeg x7) q10 x7.toNatClampNeg) - (rI (wI M3 q6 x2.toNatClampNeg x7) q13 x2.toNatClampNeg))) q13 x2.toNatClampNeg) * (rI (wI (wI M3 q6 x2.toNatClampNeg x7) q10 x7.toNatClampNeg ((rI (wI M3 q6 x2.toNatClampNeg x7) q10 x7.toNatClampNeg) - (rI (wI M3 q6 x2.toNatClampNeg x7) q13 x2.toNatClampNeg))) q18 x7.toNatClampNeg)))), (3, .int (x3 + 1)), (0, .ref x0), (1, .int x1), (2, .int x2), (5, .int x5), (7, .int x7)]) C.1 dX12_findPlan_293 (by decide) rfl ?_
        refine k_sub (lv' := [(0, .ref x0), (1, .int x1), (2, .int x2), (3, .int (x3 + 1)), (4, .int (x4 + ((rI (wI (wI M3 q6 x2.toNatClampNeg x7) q10 x7.toNatClampNeg ((rI (wI M3 q6 x2.toNatClampNeg x7) q10 x7.toNatClampNeg) - (rI (wI M3 q6 x2.toNatClampNeg x7) q13 x2.toNatClampNeg))) q13 x2.toNatClampNeg) * (rI (wI (wI M3 q6 x2.toNatClampNeg x7) q10 x7.toNatClampNeg ((rI (wI M3 q6 x2.toNatClampNeg x7) q10 x7.toNatClampNeg) - (rI (wI M3 q6 x2.toNatClampNeg x7) q13 x2.toNatClampNeg))) q18 x7.toNatClampNeg)))), (5, .int x5)]) [2, 3, 4, 1, 0, 5] rfl ?_
        exact b_X12_findPlan_295 C x0 x1 x2 (x3 + 1) (x4 + ((rI (wI (wI M3 q6 x2.toNatClampNeg x7) q10 x7.toNatClampNeg ((rI (wI M3 q6 x2.toNatClampNeg x7) q10 x7.toNatClampNeg) - (rI (wI M3 q6 x2.toNatClampNeg x7) q13 x2.toNatClampNeg))) q13 x2.toNatClampNeg) * (rI (wI (wI M3 q6 x2.toNatClampNeg x7) q10 x7.toNatClampNeg ((rI (wI M3 q6 x2.toNatClampNeg x7) q10 x7.toNatClampNeg) - (rI (wI M3 q6 x2.toNatClampNeg x7) q13 x2.toNatClampNeg))) q18 x7.toNatClampNeg))) x5 (wI (wI M3 q6 x2.toNatClampNeg x7) q10 x7.toNatClampNeg ((rI (wI M3 q6 x2.toNatClampNeg x7) q10 x7.toNatClampNeg) - (rI (wI M3 q6 x2.toNatClampNeg x7) q13 x2.toNatClampNeg))) k32 hk32 h
    · have h := h.1 c5
      refine k_sub (lv' := [(0, .ref x0), (1, .int x1), (2, .int x2), (3, .int x3), (4, .int x4)]) [0, 1, 2, 3, 4] rfl ?_
      exact b_X12_findPlan_223 C x0 x1 x2 x3 x4 M3 k32 hk32 h
set_option maxRecDepth 100000 in
set_option maxHeartbeats 4000000 in
theorem bb_X12_findPlan_177 {X : gh_X} {sh : gh_Sh} {n : Nat} {post : gh_M → Prop} (C : gh_CR X cX12_findPlan RX12 8 none sh n 0 0 (gh_pv post)) (x0 : Nat) (x1 : Int32) (x2 : Int32) (x3 : Int32) (x4 : Int32) (x5 : Int32) (k32 : Int32 → Int32 → Int32 → Int32 → gh_M → Prop) (hk32 : ∀ (y2 : Int32) (y3 : Int32) (y4 : Int32) (y5 : Int32) (M : gh_M), k32 y2 y3 y4 y5 M → gh_G X rm_X12_findPlan 8 0 0 sh n 32 [(0, .ref x0), (1, .int x1), (2, .int y2), (3, .int y3), (4, .int y4), (5, .int y5)] [] M) (k177 : Int32 → gh_M → Prop) (hk177 : ∀ (y7 : Int32) (M : gh_M), k177 y7 M → gh_G X rm_X12_findPlan 8 0 0 sh n 177 [(0, .ref x0), (1, .int x1), (2, .int x2), (3, .int x3), (4, .int x4), (5, .int x5), (7, .int y7)] [] M) (x7 : Int32) (M : gh_M) (h : wb_X12_findPlan_177 sh post k32 x0 x1 x2 x3 x4 x5 k177 x7 M) : gh_G X rm_X12_findPlan 8 0 0 sh n 177 [(0, .ref x0), (1, .int x1), (2, .int x2), (3, .int x3), (4, .int x4), (5, .int x5), (7, .int x7)] [] M := by
  unfold wb_X12_findPlan_177 at h
  refine k_iload C.1 6 rfl dX12_findPlan_177 ?_
  refine k_aload_n C.1 0 rfl dX12_findPlan_179 ?_
  obtain ⟨hs1, h⟩ := h
  refine k_getI C.1 F_X12_135 dX12_findPlan_180 hs1 ?_
  refine k_icmp_ge C.1 203 dX12_findPlan_183 (by decide) (fun c2 => ?_) (fun c2 => ?_)
  · have h := h.1 c2
    exact b_X12_findPlan_203 C x0 x1 x2 x3 x4 x5 x7 M k32 hk32 h
  · have h := h.2 c2
    refine k_aload_n C.1 0 rfl dX12_findPlan_186 ?_
    refine k_iload_n C.1 2 rfl dX12_findPlan_187 ?_
    refine k_iload C.1 6 rfl dX12_findPlan_188 ?_
    refine k_iload_n C.1 1 rfl dX12_findPlan_190 ?_
    refine k_callV (As := [.int x2, .int x7, .int x1]) (rest := []) C.1 V_X12_246 (c_X12_fits h) ⟨rfl, rfl, Nat.le_of_ble_eq_true rfl, Nat.le_of_ble_eq_true rfl⟩ hs1  rfl rfl (Nat.le_of_ble_eq_true rfl) ⟨Nat.zero_le _, Nat.zero_le _⟩ dX12_findPlan_191 (kp_i fun r4 M3 h9 => ?_)
    replace h := h9
    refine k_if_ne C.1 203 dX12_findPlan_194 (by decide) (fun c5 => ?_) (fun c5 => ?_)
    · have h := h.2 c5
      exact b_X12_findPlan_203 C x0 x1 x2 x3 x4 x5 x7 M3 k32 hk32 h
    · have h := h.1 c5
      refine k_iinc (v := x7 + 1) (lv' := [(7, .int (x7 + 1)), (0, .ref x0), (1, .int x1), (2, .int x2), (3, .int x3), (4, .int x4), (5, .int x5)]) C.1 6 rfl dX12_findPlan_197 (by decide) rfl rfl ?_
      refine k_goto C.1 177 dX12_findPlan_200 (by decide) ?_
      refine k_sub (lv' := [(0, .ref x0), (1, .int x1), (2, .int x2), (3, .int x3), (4, .int x4), (5, .int x5), (7, .int (x7 + 1))]) [1, 2, 3, 4, 5, 6, 0] rfl ?_
      exact hk177 (x7 + 1) M3 h
set_option maxRecDepth 100000 in
theorem b_X12_findPlan_177 {X : gh_X} {sh : gh_Sh} {n : Nat} {post : gh_M → Prop} (C : gh_CR X cX12_findPlan RX12 8 none sh n 0 0 (gh_pv post)) (x0 : Nat) (x1 : Int32) (x2 : Int32) (x3 : Int32) (x4 : Int32) (x5 : Int32) (x7 : Int32) (M : gh_M) (k32 : Int32 → Int32 → Int32 → Int32 → gh_M → Prop) (hk32 : ∀ (y2 : Int32) (y3 : Int32) (y4 : Int32) (y5 : Int32) (M : gh_M), k32 y2 y3 y4 y5 M → gh_G X rm_X12_findPlan 8 0 0 sh n 32 [(0, .ref x0), (1, .int x1), (2, .int y2), (3, .int y3), (4, .int y4), (5, .int y5)] [] M) (h : wp_X12_findPlan_177 sh post k32 x0 x1 x2 x3 x4 x5 x7 M) : gh_G X rm_X12_findPlan 8 0 0 sh n 177 [(0, .ref x0), (1, .int x1), (2, .int x2), (3, .int x3), (4, .int x4), (5, .int x5), (7, .int x7)] [] M := by
  unfold wp_X12_findPlan_177 at h
  exact gh_loop_use h (fun v => gh_G X rm_X12_findPlan 8 0 0 sh n 177 [(0, .ref x0), (1, .int x1), (2, .int x2), (3, .int x3), (4, .int x4), (5, .int x5), (7, .int v.1)] [] v.2) (fun k v hk hb => bb_X12_findPlan_177 C x0 x1 x2 x3 x4 x5 k32 hk32 (fun x7 M => k (x7, M)) (fun x7 M h => hk (x7, M) h) v.1 v.2 hb)
set_option maxRecDepth 100000 in
set_option maxHeartbeats 4000000 in
theorem b_X12_findPlan_171 {X : gh_X} {sh : gh_Sh} {n : Nat} {post : gh_M → Prop} (C : gh_CR X cX12_findPlan RX12 8 none sh n 0 0 (gh_pv post)) (x0 : Nat) (x1 : Int32) (x2 : Int32) (x3 : Int32) (x4 : Int32) (x5 : Int32) (x6 : Int32) (M : gh_M) (k32 : Int32 → Int32 → Int32 → Int32 → gh_M → Prop) (hk32 : ∀ (y2 : Int32) (y3 : Int32) (y4 : Int32) (y5 : Int32) (M : gh_M), k32 y2 y3 y4 y5 M → gh_G X rm_X12_findPlan 8 0 0 sh n 32 [(0, .ref x0), (1, .int x1), (2, .int y2), (3, .int y3), (4, .int y4), (5, .int y5)] [] M) (h : wp_X12_findPlan_171 sh post k32 x0 x1 x2 x3 x4 x5 x6 M) : gh_G X rm_X12_findPlan 8 0 0 sh n 171 [(0, .ref x0), (1, .int x1), (2, .int x2), (3, .int x3), (4, .int x4), (5, .int x5), (6, .int x6)] [] M := by
  unfold wp_X12_findPlan_171 at h
  refine k_iload C.1 6 rfl dX12_findPlan_171 ?_
  refine k_iconst (v := 1) C.1 dX12_findPlan_173 (by decide) ?_
  refine k_iadd C.1 dX12_findPlan_174 ?_
  refine k_istore (lv' := [(7, .int (x6 + (1 : Int32))), (0, .ref x0), (1, .int x1), (2, .int x2), (3, .int x3), (4, .int x4), (5, .int x5), (6, .int x6)]) C.1 dX12_findPlan_175 (by decide) rfl ?_
  refine k_sub (lv' := [(0, .ref x0), (1, .int x1), (2, .int x2), (3, .int x3), (4, .int x4), (5, .int x5), (7, .int (x6 + (1 : Int32)))]) [1, 2, 3, 4, 5, 6, 0] rfl ?_
  exact b_X12_findPlan_177 C x0 x1 x2 x3 x4 x5 (x6 + (1 : Int32)) M k32 hk32 h
set_option maxRecDepth 100000 in
set_option maxHeartbeats 4000000 in
theorem b_X12_findPlan_106 {X : gh_X} {sh : gh_Sh} {n : Nat} {post : gh_M → Prop} (C : gh_CR X cX12_findPlan RX12 8 none sh n 0 0 (gh_pv post)) (x0 : Nat) (x1 : Int32) (x2 : Int32) (x3 : Int32) (x4 : Int32) (s0 : Int32) (M : gh_M) (k32 : Int32 → Int32 → Int32 → Int32 → gh_M → Prop) (hk32 : ∀ (y2 : Int32) (y3 : Int32) (y4 : Int32) (y5 : Int32) (M : gh_M), k32 y2 y3 y4 y5 M → gh_G X rm_X12_findPlan 8 0 0 sh n 32 [(0, .ref x0), (1, .int x1), (2, .int y2), (3, .int y3), (4, .int y4), (5, .int y5)] [] M) (h : wp_X12_findPlan_106 sh post k32 x0 x1 x2 x3 x4 s0 M) : gh_G X rm_X12_findPlan 8 0 0 sh n 106 [(0, .ref x0), (1, .int x1), (2, .int x2), (3, .int x3), (4, .int x4)] [.int s0] M := by
  unfold wp_X12_findPlan_106 at h
  refine k_istore (lv' := [(5, .int s0), (0, .ref x0), (1, .int x1), (2, .int x2), (3, .int x3), (4, .int x4)]) C.1 dX12_findPlan_106 (by decide) rfl ?_
  refine k_goto C.1 32 dX12_findPlan_108 (by decide) ?_
  refine k_sub (lv' := [(0, .ref x0), (1, .int x1), (2, .int x2), (3, .int x3), (4, .int x4), (5, .int s0)]) [1, 2, 3, 4, 5, 0] rfl ?_
  exact hk32 x2 x3 x4 s0 M h
set_option maxRecDepth 100000 in
set_option maxHeartbeats 4000000 in
theorem b_X12_findPlan_94 {X : gh_X} {sh : gh_Sh} {n : Nat} {post : gh_M → Prop} (C : gh_CR X cX12_findPlan RX12 8 none sh n 0 0 (gh_pv post)) (x0 : Nat) (x1 : Int32) (x2 : Int32) (x3 : Int32) (x4 : Int32) (M : gh_M) (k32 : Int32 → Int32 → Int32 → Int32 → gh_M → Prop) (hk32 : ∀ (y2 : Int32) (y3 : Int32) (y4 : Int32) (y5 : Int32) (M : gh_M), k32 y2 y3 y4 y5 M → gh_G X rm_X12_findPlan 8 0 0 sh n 32 [(0, .ref x0), (1, .int x1), (2, .int y2), (3, .int y3), (4, .int y4), (5, .int y5)] [] M) (h : wp_X12_findPlan_94 sh post k32 x0 x1 x2 x3 x4 M) : gh_G X rm_X12_findPlan 8 0 0 sh n 94 [(0, .ref x0), (1, .int x1), (2, .int x2), (3, .int x3), (4, .int x4)] [] M := by
  unfold wp_X12_findPlan_94 at h
  refine k_iinc (v := x2 + (-1)) (lv' := [(2, .int (x2 + (-1))), (0, .ref x0), (1, .int x1), (3, .int x3), (4, .int x4)]) C.1 2 rfl dX12_findPlan_94 (by decide) rfl rfl ?_
  refine k_iload_n C.1 0 rfl dX12_findPlan_97 ?_
  refine k_if_lt C.1 105 dX12_findPlan_98 (by decide) (fun c1 => ?_) (fun c1 => ?_)
  · have h := h.1 c1
    refine k_iconst (v := 0) C.1 dX12_findPlan_105 (by decide) ?_
    refine k_sub (lv' := [(0, .ref x0), (1, .int x1), (2, .int (x2 + (-1))), (3, .int x3), (4, .int x4)]) [1, 2, 0, 3, 4] rfl ?_
    exact b_X12_findPlan_106 C x0 x1 (x2 + (-1)) x3 x4 (0 : Int32) M k32 hk32 h
  · have h := h.2 c1
    refine k_iconst (v := 1) C.1 dX12_findPlan_101 (by decide) ?_
    refine k_goto C.1 106 dX12_findPlan_102 (by decide) ?_
    refine k_sub (lv' := [(0, .ref x0), (1, .int x1), (2, .int (x2 + (-1))), (3, .int x3), (4, .int x4)]) [1, 2, 0, 3, 4] rfl ?_
    exact b_X12_findPlan_106 C x0 x1 (x2 + (-1)) x3 x4 (1 : Int32) M k32 hk32 h
set_option maxRecDepth 100000 in
set_option maxHeartbeats 4000000 in
theorem b_X12_findPlan_70 {X : gh_X} {sh : gh_Sh} {n : Nat} {post : gh_M → Prop} (C : gh_CR X cX12_findPlan RX12 8 none sh n 0 0 (gh_pv post)) (x0 : Nat) (x1 : Int32) (x2 : Int32) (x3 : Int32) (x4 : Int32) (M : gh_M) (k32 : Int32 → Int32 → Int32 → Int32 → gh_M → Prop) (hk32 : ∀ (y2 : Int32) (y3 : Int32) (y4 : Int32) (y5 : Int32) (M : gh_M), k32 y2 y3 y4 y5 M → gh_G X rm_X12_findPlan 8 0 0 sh n 32 [(0, .ref x0), (1, .int x1), (2, .int y2), (3, .int y3), (4, .int y4), (5, .int y5)] [] M) (h : wp_X12_findPlan_70 sh post k32 x0 x1 x2 x3 x4 M) : gh_G X rm_X12_findPlan 8 0 0 sh n 70 [(0, .ref x0), (1, .int x1), (2, .int x2), (3, .int x3), (4, .int x4)] [] M := by
  unfold wp_X12_findPlan_70 at h
  refine k_aload_n C.1 0 rfl dX12_findPlan_70 ?_
  refine k_iload_n C.1 3 rfl dX12_findPlan_71 ?_
  obtain ⟨hs1, h⟩ := h
  refine k_putI C.1 F_X12_236 dX12_findPlan_72 hs1 rfl rfl ?_
  refine k_aload_n C.1 0 rfl dX12_findPlan_75 ?_
  refine k_iload C.1 4 rfl dX12_findPlan_76 ?_
  refine k_putI C.1 F_X12_239 dX12_findPlan_78 hs1 rfl rfl ?_
  refine k_aload_n C.1 0 rfl dX12_findPlan_81 ?_
  obtain ⟨q2, hq2, h⟩ := h
  refine k_getR C.1 F_X12_119 dX12_findPlan_82 hs1 hq2 ?_
  refine k_aload_n C.1 0 rfl dX12_findPlan_85 ?_
  obtain ⟨q3, hq3, h⟩ := h
  refine k_getR C.1 F_X12_125 dX12_findPlan_86 hs1 hq3 ?_
  refine k_bipush (v := 8) C.1 dX12_findPlan_89 (by decide) ?_
  refine k_callS (As := [.ref q2, .ref q3, .int (8 : Int32)]) (rest := []) C.1 V_X12_170 (c_X12_copy h) ⟨rfl, rfl, Nat.le_of_ble_eq_true rfl, Nat.le_of_ble_eq_true rfl⟩  rfl rfl (Nat.le_of_ble_eq_true rfl) ⟨Nat.zero_le _, Nat.zero_le _⟩ dX12_findPlan_91 (kp_v fun M4 h9 => ?_)
  replace h := h9
  exact b_X12_findPlan_94 C x0 x1 x2 x3 x4 M4 k32 hk32 h
set_option maxRecDepth 100000 in
set_option maxHeartbeats 4000000 in
theorem bb_X12_findPlan_32 {X : gh_X} {sh : gh_Sh} {n : Nat} {post : gh_M → Prop} (C : gh_CR X cX12_findPlan RX12 8 none sh n 0 0 (gh_pv post)) (x0 : Nat) (x1 : Int32) (k32 : Int32 → Int32 → Int32 → Int32 → gh_M → Prop) (hk32 : ∀ (y2 : Int32) (y3 : Int32) (y4 : Int32) (y5 : Int32) (M : gh_M), k32 y2 y3 y4 y5 M → gh_G X rm_X12_findPlan 8 0 0 sh n 32 [(0, .ref x0), (1, .int x1), (2, .int y2), (3, .int y3), (4, .int y4), (5, .int y5)] [] M) (x2 : Int32) (x3 : Int32) (x4 : Int32) (x5 : Int32) (M : gh_M) (h : wb_X12_findPlan_32 sh post x0 x1 k32 x2 x3 x4 x5 M) : gh_G X rm_X12_findPlan 8 0 0 sh n 32 [(0, .ref x0), (1, .int x1), (2, .int x2), (3, .int x3), (4, .int x4), (5, .int x5)] [] M := by
  unfold wb_X12_findPlan_32 at h
  refine k_iload C.1 5 rfl dX12_findPlan_32 ?_
  refine k_if_eq C.1 316 dX12_findPlan_34 (by decide) (fun c1 => ?_) (fun c1 => ?_)
  · have h := h.1 c1
    exact k_vret C dX12_findPlan_316 h
  · have h := h.2 c1
    refine k_iload_n C.1 2 rfl dX12_findPlan_37 ?_
    refine k_aload_n C.1 0 rfl dX12_findPlan_38 ?_
    obtain ⟨hs2, h⟩ := h
    refine k_getI C.1 F_X12_132 dX12_findPlan_39 hs2 ?_
    refine k_icmp_ne C.1 111 dX12_findPlan_42 (by decide) (fun c3 => ?_) (fun c3 => ?_)
    · have h := h.2 c3
      refine k_aload_n C.1 0 rfl dX12_findPlan_111 ?_
      obtain ⟨q4, hq4, h⟩ := h
      refine k_getR C.1 F_X12_119 dX12_findPlan_112 hs2 hq4 ?_
      refine k_iload_n C.1 2 rfl dX12_findPlan_115 ?_
      obtain ⟨hs5, h⟩ := h
      obtain ⟨hi6, h⟩ := h
      refine k_iald C.1 dX12_findPlan_116 hs5 hi6 ?_
      refine k_istore (lv' := [(6, .int (rI M q4 x2.toNatClampNeg)), (0, .ref x0), (1, .int x1), (2, .int x2), (3, .int x3), (4, .int x4), (5, .int x5)]) C.1 dX12_findPlan_117 (by decide) rfl ?_
      refine k_iload C.1 0 rfl dX12_findPlan_119 ?_
      refine k_if_lt C.1 171 dX12_findPlan_121 (by decide) (fun c7 => ?_) (fun c7 => ?_)
      · have h := h.1 c7
        refine k_sub (lv' := [(0, .ref x0), (1, .int x1), (2, .int x2), (3, .int x3), (4, .int x4), (5, .int x5), (6, .int (rI M q4 x2.toNatClampNeg))]) [1, 2, 3, 4, 5, 6, 0] rfl ?_
        exact b_X12_findPlan_171 C x0 x1 x2 x3 x4 x5 (rI M q4 x2.toNatClampNeg) M k32 hk32 h
      · have h := h.2 c7
        refine k_iload C.1 0 rfl dX12_findPlan_124 ?_
        refine k_aload_n C.1 1 rfl dX12_findPlan_126 ?_
        refine k_getI C.1 F_X12_135 dX12_findPlan_127 hs2 ?_
        refine k_icmp_ge C.1 171 dX12_findPlan_130 (by decide) (fun c8 => ?_) (fun c8 => ?_)
        · have h := h.1 c8
          refine k_sub (lv' := [(0, .ref x0), (1, .int x1), (2, .int x2), (3, .int x3), (4, .int x4), (5, .int x5), (6, .int (rI M q4 x2.toNatClampNeg))]) [1, 2, 3, 4, 5, 6, 0] rfl ?_
          exact b_X12_findPlan_171 C x0 x1 x2 x3 x4 x5 (rI M q4 x2.toNatClampNeg) M k32 hk32 h
        · have h := h.2 c8
          refine k_aload_n C.1 1 rfl dX12_findPlan_133 ?_
          obtain ⟨q9, hq9, h⟩ := h
          refine k_getR C.1 F_X12_122 dX12_findPlan_134 hs2 hq9 ?_
          refine k_iload C.1 0 rfl dX12_findPlan_137 ?_
          refine k_dup2 C.1 dX12_findPlan_139 rfl rfl ?_
          obtain ⟨hs10, h⟩ := h
          obtain ⟨hi11, h⟩ := h
          refine k_iald C.1 dX12_findPlan_140 hs10 hi11 ?_
          refine k_aload_n C.1 1 rfl dX12_findPlan_141 ?_
          obtain ⟨q12, hq12, h⟩ := h
          refine k_getR C.1 F_X12_113 dX12_findPlan_142 hs2 hq12 ?_
          refine k_iload_n C.1 3 rfl dX12_findPlan_145 ?_
          obtain ⟨hs13, h⟩ := h
          obtain ⟨hi14, h⟩ := h
          refine k_iald C.1 dX12_findPlan_146 hs13 hi14 ?_
          refine k_iadd C.1 dX12_findPlan_147 ?_
          obtain ⟨hi15, h⟩ := h
          refine k_iast C.1 dX12_findPlan_148 hs10 hi15 ?_
          refine k_iinc (v := x3 + (-1)) (lv' := [(3, .int (x3 + (-1))), (6, .int (rI M q4 x2.toNatClampNeg)), (0, .ref x0), (1, .int x1), (2, .int x2), (4, .int x4), (5, .int x5)]) C.1 4 rfl dX12_findPlan_149 (by decide) rfl rfl ?_
          refine k_iload C.1 5 rfl dX12_findPlan_152 ?_
          refine k_aload_n C.1 2 rfl dX12_findPlan_154 ?_
          refine k_getR C.1 F_X12_113 dX12_findPlan_155 hs2 hq12 ?_
          refine k_iload_n C.1 4 rfl dX12_findPlan_158 ?_
          obtain ⟨hi16, h⟩ := h
          refine k_iald C.1 dX12_findPlan_159 hs13 hi16 ?_
          refine k_aload_n C.1 2 rfl dX12_findPlan_160 ?_
          obtain ⟨q17, hq17, h⟩ := h
          refine k_getR C.1 F_X12_55 dX12_findPlan_161 hs2 hq17 ?_
          refine k_iload C.1 1 rfl dX12_findPlan_164 ?_
          obtain ⟨hs18, h⟩ := h
          obtain ⟨hi19, h⟩ := h
          refine k_iald C.1 dX12_findPlan_166 hs18 hi19 ?_
          refine k_imul C.1 dX12_findPlan_167 ?_
          refine k_isub C.1 dX12_findPlan_168 ?_
          refine k_istore (lv' := [(4, .int (x4 - ((rI (wI M q9 (rI M q4 x2.toNatClampNeg).toNatClampNeg ((rI M q9 (rI M q4 x2.toNatClampNeg).toNatClampNeg) + (rI M q12 x2.toNatClampNeg))) q12 x2.toNatClampNeg) * (rI (wI M q9 (rI M q4 x2.toNatClampNeg).toNatClampNeg ((rI M q9 (rI M q4 x2.toNatClampNeg).toNatClampNeg) + (rI M q12 x2.toNatClampNeg))) q17 (rI M q4 x2.toNatClampNeg).toNatClampNeg)))), (3, .int (x3 + (-1))), (6, .int (rI M q4 x2.toNatClampNeg)), (0, .ref x0), (1, .int x1), (2, .int x2), (5, .int x5)]) C.1 dX12_findPlan_169 (by decide) rfl ?_
          refine k_sub (lv' := [(0, .ref x0), (1, .int x1), (2, .int x2), (3, .int (x3 + (-1))), (4, .int (x4 - ((rI (wI M q9 (rI M q4 x2.toNatClampNeg).toNatClampNeg ((rI M q9 (rI M q4 x2.toNatClampNeg).toNatClampNeg) + (rI M q12 x2.toNatClampNeg))) q12 x2.toNatClampNeg) * (rI (wI M q9 (rI M q4 x2.toNatClampNeg).toNatClampNeg ((rI M q9 (rI M q4 x2.toNatClampNeg).toNatClampNeg) + (rI M q12 x2.toNatClampNeg))) q17 (rI M q4 x2.toNatClampNeg).toNatClampNeg)))), (5, .int x5), (6, .int (rI M q4 x2.toNatClampNeg))]) [3, 4, 5, 1, 0, 6, 2] rfl ?_
          exact b_X12_findPlan_171 C x0 x1 x2 (x3 + (-1)) (x4 - ((rI (wI M q9 (rI M q4 x2.toNatClampNeg).toNatClampNeg ((rI M q9 (rI M q4 x2.toNatClampNeg).toNatClampNeg) + (rI M q12 x2.toNatClampNeg))) q12 x2.toNatClampNeg) * (rI (wI M q9 (rI M q4 x2.toNatClampNeg).toNatClampNeg ((rI M q9 (rI M q4 x2.toNatClampNeg).toNatClampNeg) + (rI M q12 x2.toNatClampNeg))) q17 (rI M q4 x2.toNatClampNeg).toNatClampNeg))) x5 (rI M q4 x2.toNatClampNeg) (wI M q9 (rI M q4 x2.toNatClampNeg).toNatClampNeg ((rI M q9 (rI M q4 x2.toNatClampNeg).toNatClampNeg) + (rI M q12 x2.toNatClampNeg))) k32 hk32 h
    · have h := h.1 c3
      refine k_iload_n C.1 3 rfl dX12_findPlan_45 ?_
      refine k_aload_n C.1 0 rfl dX12_findPlan_46 ?_
      refine k_getI C.1 F_X12_236 dX12_findPlan_47 hs2 ?_
      refine k_icmp_gt C.1 70 dX12_findPlan_50 (by decide) (fun c20 => ?_) (fun c20 => ?_)
      · have h := h.1 c20
        refine k_sub (lv' := [(0, .ref x0), (1, .int x1), (2, .int x2), (3, .int x3), (4, .int x4)]) [0, 1, 2, 3, 4] rfl ?_
        exact b_X12_findPlan_70 C x0 x1 x2 x3 x4 M k32 hk32 h
      · have h := h.2 c20
        refine k_iload_n C.1 3 rfl dX12_findPlan_53 ?_
        refine k_aload_n C.1 0 rfl dX12_findPlan_54 ?_
        refine k_getI C.1 F_X12_236 dX12_findPlan_55 hs2 ?_
        refine k_icmp_ne C.1 94 dX12_findPlan_58 (by decide) (fun c21 => ?_) (fun c21 => ?_)
        · have h := h.2 c21
          refine k_sub (lv' := [(0, .ref x0), (1, .int x1), (2, .int x2), (3, .int x3), (4, .int x4)]) [0, 1, 2, 3, 4] rfl ?_
          exact b_X12_findPlan_94 C x0 x1 x2 x3 x4 M k32 hk32 h
        · have h := h.1 c21
          refine k_iload C.1 4 rfl dX12_findPlan_61 ?_
          refine k_aload_n C.1 0 rfl dX12_findPlan_63 ?_
          refine k_getI C.1 F_X12_239 dX12_findPlan_64 hs2 ?_
          refine k_icmp_ge C.1 94 dX12_findPlan_67 (by decide) (fun c22 => ?_) (fun c22 => ?_)
          · have h := h.1 c22
            refine k_sub (lv' := [(0, .ref x0), (1, .int x1), (2, .int x2), (3, .int x3), (4, .int x4)]) [0, 1, 2, 3, 4] rfl ?_
            exact b_X12_findPlan_94 C x0 x1 x2 x3 x4 M k32 hk32 h
          · have h := h.2 c22
            refine k_sub (lv' := [(0, .ref x0), (1, .int x1), (2, .int x2), (3, .int x3), (4, .int x4)]) [0, 1, 2, 3, 4] rfl ?_
            exact b_X12_findPlan_70 C x0 x1 x2 x3 x4 M k32 hk32 h
set_option maxRecDepth 100000 in
theorem b_X12_findPlan_32 {X : gh_X} {sh : gh_Sh} {n : Nat} {post : gh_M → Prop} (C : gh_CR X cX12_findPlan RX12 8 none sh n 0 0 (gh_pv post)) (x0 : Nat) (x1 : Int32) (x2 : Int32) (x3 : Int32) (x4 : Int32) (x5 : Int32) (M : gh_M) (h : wp_X12_findPlan_32 sh post x0 x1 x2 x3 x4 x5 M) : gh_G X rm_X12_findPlan 8 0 0 sh n 32 [(0, .ref x0), (1, .int x1), (2, .int x2), (3, .int x3), (4, .int x4), (5, .int x5)] [] M := by
  unfold wp_X12_findPlan_32 at h
  exact gh_loop_use h (fun v => gh_G X rm_X12_findPlan 8 0 0 sh n 32 [(0, .ref x0), (1, .int x1), (2, .int v.1), (3, .int v.2.1), (4, .int v.2.2.1), (5, .int v.2.2.2.1)] [] v.2.2.2.2) (fun k v hk hb => bb_X12_findPlan_32 C x0 x1 (fun x2 x3 x4 x5 M => k (x2, x3, x4, x5, M)) (fun x2 x3 x4 x5 M h => hk (x2, x3, x4, x5, M) h) v.1 v.2.1 v.2.2.1 v.2.2.2.1 v.2.2.2.2 hb)
set_option maxRecDepth 100000 in
set_option maxHeartbeats 4000000 in
theorem c_X12_findPlan {l : Launch} {D : va_G} {dA : Nat → ClassId} {sh : gh_Sh} {b0 n : Nat} {M : gh_M} {x0 : Nat} {x1 : Int32} {post : gh_M → Prop} (h : wp_X12_findPlan sh M x0 x1 post) : gh_Met l D dA sh b0 n yX12_findPlan cX12_findPlan 8 none rm_X12_findPlan M [.ref x0, .int x1] (gh_pv post) := by
  refine gh_open (by decide) (Nat.le_of_ble_eq_true rfl) (fun X C => ?_)
  show gh_G X rm_X12_findPlan 8 0 0 sh n 0 [(0, .ref x0), (1, .int x1)] [] M
  unfold wp_X12_findPlan at h
  refine k_aload_n C.1 0 rfl dX12_findPlan_0 ?_
  refine k_iload_n C.1 1 rfl dX12_findPlan_1 ?_
  obtain ⟨hs1, h⟩ := h
  refine k_callV (As := [.int x1]) (rest := []) C.1 V_X12_242 (c_X12_prepare h) ⟨rfl, rfl, Nat.le_of_ble_eq_true rfl, Nat.le_of_ble_eq_true rfl⟩ hs1  rfl rfl (Nat.le_of_ble_eq_true rfl) ⟨Nat.zero_le _, Nat.zero_le _⟩ dX12_findPlan_2 (kp_v fun M2 h9 => ?_)
  replace h := h9
  refine k_aload_n C.1 0 rfl dX12_findPlan_5 ?_
  refine k_iconst (v := (-1)) C.1 dX12_findPlan_6 (by decide) ?_
  refine k_putI C.1 F_X12_236 dX12_findPlan_7 hs1 rfl rfl ?_
  refine k_aload_n C.1 0 rfl dX12_findPlan_10 ?_
  refine k_iconst (v := 0) C.1 dX12_findPlan_11 (by decide) ?_
  refine k_putI C.1 F_X12_239 dX12_findPlan_12 hs1 rfl rfl ?_
  refine k_iconst (v := 0) C.1 dX12_findPlan_15 (by decide) ?_
  refine k_istore_n (lv' := [(2, .int (0 : Int32)), (0, .ref x0), (1, .int x1)]) C.1 dX12_findPlan_16 (by decide) rfl ?_
  refine k_iconst (v := 0) C.1 dX12_findPlan_17 (by decide) ?_
  refine k_istore_n (lv' := [(3, .int (0 : Int32)), (2, .int (0 : Int32)), (0, .ref x0), (1, .int x1)]) C.1 dX12_findPlan_18 (by decide) rfl ?_
  refine k_iconst (v := 0) C.1 dX12_findPlan_19 (by decide) ?_
  refine k_istore (lv' := [(4, .int (0 : Int32)), (3, .int (0 : Int32)), (2, .int (0 : Int32)), (0, .ref x0), (1, .int x1)]) C.1 dX12_findPlan_20 (by decide) rfl ?_
  refine k_aload_n C.1 3 rfl dX12_findPlan_22 ?_
  obtain ⟨q3, hq3, h⟩ := h
  refine k_getR C.1 F_X12_119 dX12_findPlan_23 hs1 hq3 ?_
  refine k_iconst (v := 0) C.1 dX12_findPlan_26 (by decide) ?_
  refine k_iconst (v := (-1)) C.1 dX12_findPlan_27 (by decide) ?_
  generalize eM4 : wI (wI M2 x0 48 (-1 : Int32)) x0 49 (0 : Int32) = M4
  replace h := h M4 eM4.symm
  obtain ⟨hs6, h⟩ := h
  obtain ⟨hi5, h⟩ := h
  refine k_iast C.1 dX12_findPlan_28 hs6 hi5 ?_
  refine k_iconst (v := 1) C.1 dX12_findPlan_29 (by decide) ?_
  refine k_istore (lv' := [(5, .int (1 : Int32)), (4, .int (0 : Int32)), (3, .int (0 : Int32)), (2, .int (0 : Int32)), (0, .ref x0), (1, .int x1)]) C.1 dX12_findPlan_30 (by decide) rfl ?_
  refine k_sub (lv' := [(0, .ref x0), (1, .int x1), (2, .int (0 : Int32)), (3, .int (0 : Int32)), (4, .int (0 : Int32)), (5, .int (1 : Int32))]) [4, 5, 3, 2, 1, 0] rfl ?_
  exact b_X12_findPlan_32 C x0 x1 (0 : Int32) (0 : Int32) (0 : Int32) (1 : Int32) (wI M4 q3 (0 : Int32).toNatClampNeg (-1 : Int32)) h
abbrev rm_X12_plan : Room := { frames := 6, cells := 0, slots := 0, locals := 148 }
set_option maxRecDepth 100000 in
set_option maxHeartbeats 4000000 in
theorem c_X12_plan {l : Launch} {D : va_G} {dA : Nat → ClassId} {sh : gh_Sh} {b0 n : Nat} {M : gh_M} {x0 : Nat} {x1 : Int32} {x2 : Int32} {post : Int32 → gh_M → Prop} (h : wp_X12_plan sh M x0 x1 x2 post) : gh_Met l D dA sh b0 n yX12_plan cX12_plan 3 (some .int) rm_X12_plan M [.ref x0, .int x1, .int x2] (gh_pi post) := by
  refine gh_open (by decide) (Nat.le_of_ble_eq_true rfl) (fun X C => ?_)
  show gh_G X rm_X12_plan 3 0 0 sh n 0 [(0, .ref x0), (1, .int x1), (2, .int x2)] [] M
  unfold wp_X12_plan at h
  refine k_iload_n C.1 1 rfl dX12_plan_0 ?_
  refine k_callS (As := [.int x1]) (rest := []) C.1 V_X12_187 (c_X12_isTongue h) ⟨rfl, rfl, Nat.le_of_ble_eq_true rfl, Nat.le_of_ble_eq_true rfl⟩  rfl rfl (Nat.le_of_ble_eq_true rfl) ⟨Nat.zero_le _, Nat.zero_le _⟩ dX12_plan_1 (kp_i fun r2 M1 h9 => ?_)
  replace h := h9
  refine k_if_eq C.1 15 dX12_plan_4 (by decide) (fun c3 => ?_) (fun c3 => ?_)
  · have h := h.1 c3
    refine k_iconst (v := (-1)) C.1 dX12_plan_15 (by decide) ?_
    exact k_iret C dX12_plan_16 h
  · have h := h.2 c3
    refine k_aload_n C.1 0 rfl dX12_plan_7 ?_
    refine k_iload_n C.1 2 rfl dX12_plan_8 ?_
    obtain ⟨hs4, h⟩ := h
    refine k_callV (As := [.int x2]) (rest := []) C.1 V_X12_178 (c_X12_isPiece h) ⟨rfl, rfl, Nat.le_of_ble_eq_true rfl, Nat.le_of_ble_eq_true rfl⟩ hs4  rfl rfl (Nat.le_of_ble_eq_true rfl) ⟨Nat.zero_le _, Nat.zero_le _⟩ dX12_plan_9 (kp_i fun r6 M5 h9 => ?_)
    replace h := h9
    refine k_if_ne C.1 17 dX12_plan_12 (by decide) (fun c7 => ?_) (fun c7 => ?_)
    · have h := h.2 c7
      refine k_aload_n C.1 0 rfl dX12_plan_17 ?_
      refine k_iload_n C.1 1 rfl dX12_plan_18 ?_
      refine k_callV (As := [.int x1]) (rest := []) C.1 V_X12_252 (c_X12_findPlan h) ⟨rfl, rfl, Nat.le_of_ble_eq_true rfl, Nat.le_of_ble_eq_true rfl⟩ hs4  rfl rfl (Nat.le_of_ble_eq_true rfl) ⟨Nat.zero_le _, Nat.zero_le _⟩ dX12_plan_19 (kp_v fun M8 h9 => ?_)
      replace h := h9
      refine k_aload_n C.1 0 rfl dX12_plan_22 ?_
      obtain ⟨q9, hq9, h⟩ := h
      refine k_getR C.1 F_X12_125 dX12_plan_23 hs4 hq9 ?_
      refine k_iload_n C.1 2 rfl dX12_plan_26 ?_
      obtain ⟨hs10, h⟩ := h
      obtain ⟨hi11, h⟩ := h
      refine k_iald C.1 dX12_plan_27 hs10 hi11 ?_
      refine k_aload_n C.1 0 rfl dX12_plan_28 ?_
      refine k_getI C.1 F_X12_135 dX12_plan_29 hs4 ?_
      refine k_icmp_ge C.1 44 dX12_plan_32 (by decide) (fun c12 => ?_) (fun c12 => ?_)
      · have h := h.1 c12
        refine k_bipush (v := (-5)) C.1 dX12_plan_44 (by decide) ?_
        exact k_iret C dX12_plan_46 h
      · have h := h.2 c12
        refine k_aload_n C.1 0 rfl dX12_plan_35 ?_
        refine k_getR C.1 F_X12_125 dX12_plan_36 hs4 hq9 ?_
        refine k_iload_n C.1 2 rfl dX12_plan_39 ?_
        obtain ⟨hi13, h⟩ := h
        refine k_iald C.1 dX12_plan_40 hs10 hi13 ?_
        refine k_goto C.1 46 dX12_plan_41 (by decide) ?_
        exact k_iret C dX12_plan_46 h
    · have h := h.1 c7
      refine k_iconst (v := (-1)) C.1 dX12_plan_15 (by decide) ?_
      exact k_iret C dX12_plan_16 h
abbrev rm_X12_planned : Room := { frames := 6, cells := 0, slots := 0, locals := 148 }
set_option maxRecDepth 100000 in
set_option maxHeartbeats 4000000 in
theorem c_X12_planned {l : Launch} {D : va_G} {dA : Nat → ClassId} {sh : gh_Sh} {b0 n : Nat} {M : gh_M} {x0 : Nat} {x1 : Int32} {x2 : Int32} {post : Int32 → gh_M → Prop} (h : wp_X12_planned sh M x0 x1 x2 post) : gh_Met l D dA sh b0 n yX12_planned cX12_planned 3 (some .int) rm_X12_planned M [.ref x0, .int x1, .int x2] (gh_pi post) := by
  refine gh_open (by decide) (Nat.le_of_ble_eq_true rfl) (fun X C => ?_)
  show gh_G X rm_X12_planned 3 0 0 sh n 0 [(0, .ref x0), (1, .int x1), (2, .int x2)] [] M
  unfold wp_X12_planned at h
  refine k_iload_n C.1 1 rfl dX12_planned_0 ?_
  refine k_callS (As := [.int x1]) (rest := []) C.1 V_X12_187 (c_X12_isTongue h) ⟨rfl, rfl, Nat.le_of_ble_eq_true rfl, Nat.le_of_ble_eq_true rfl⟩  rfl rfl (Nat.le_of_ble_eq_true rfl) ⟨Nat.zero_le _, Nat.zero_le _⟩ dX12_planned_1 (kp_i fun r2 M1 h9 => ?_)
  replace h := h9
  refine k_if_eq C.1 16 dX12_planned_4 (by decide) (fun c3 => ?_) (fun c3 => ?_)
  · have h := h.1 c3
    refine k_iconst (v := (-1)) C.1 dX12_planned_16 (by decide) ?_
    exact k_iret C dX12_planned_17 h
  · have h := h.2 c3
    refine k_iload_n C.1 2 rfl dX12_planned_7 ?_
    refine k_iconst (v := 0) C.1 dX12_planned_8 (by decide) ?_
    refine k_iconst (v := 2) C.1 dX12_planned_9 (by decide) ?_
    refine k_callS (As := [.int x2, .int (0 : Int32), .int (2 : Int32)]) (rest := []) C.1 V_X12_128 (c_X12_in h) ⟨rfl, rfl, Nat.le_of_ble_eq_true rfl, Nat.le_of_ble_eq_true rfl⟩  rfl rfl (Nat.le_of_ble_eq_true rfl) ⟨Nat.zero_le _, Nat.zero_le _⟩ dX12_planned_10 (kp_i fun r5 M4 h9 => ?_)
    replace h := h9
    refine k_if_ne C.1 18 dX12_planned_13 (by decide) (fun c6 => ?_) (fun c6 => ?_)
    · have h := h.2 c6
      refine k_aload_n C.1 0 rfl dX12_planned_18 ?_
      refine k_iload_n C.1 1 rfl dX12_planned_19 ?_
      obtain ⟨hs7, h⟩ := h
      refine k_callV (As := [.int x1]) (rest := []) C.1 V_X12_252 (c_X12_findPlan h) ⟨rfl, rfl, Nat.le_of_ble_eq_true rfl, Nat.le_of_ble_eq_true rfl⟩ hs7  rfl rfl (Nat.le_of_ble_eq_true rfl) ⟨Nat.zero_le _, Nat.zero_le _⟩ dX12_planned_20 (kp_v fun M8 h9 => ?_)
      replace h := h9
      refine k_iload_n C.1 2 rfl dX12_planned_23 ?_
      refine k_if_ne C.1 34 dX12_planned_24 (by decide) (fun c9 => ?_) (fun c9 => ?_)
      · have h := h.2 c9
        refine k_iload_n C.1 2 rfl dX12_planned_34 ?_
        refine k_iconst (v := 1) C.1 dX12_planned_35 (by decide) ?_
        refine k_icmp_ne C.1 46 dX12_planned_36 (by decide) (fun c10 => ?_) (fun c10 => ?_)
        · have h := h.2 c10
          refine k_aload_n C.1 0 rfl dX12_planned_46 ?_
          refine k_getI C.1 F_X12_233 dX12_planned_47 hs7 ?_
          exact k_iret C dX12_planned_50 h
        · have h := h.1 c10
          refine k_aload_n C.1 0 rfl dX12_planned_39 ?_
          refine k_getI C.1 F_X12_239 dX12_planned_40 hs7 ?_
          refine k_goto C.1 50 dX12_planned_43 (by decide) ?_
          exact k_iret C dX12_planned_50 h
      · have h := h.1 c9
        refine k_aload_n C.1 0 rfl dX12_planned_27 ?_
        refine k_getI C.1 F_X12_236 dX12_planned_28 hs7 ?_
        refine k_goto C.1 50 dX12_planned_31 (by decide) ?_
        exact k_iret C dX12_planned_50 h
    · have h := h.1 c6
      refine k_iconst (v := (-1)) C.1 dX12_planned_16 (by decide) ?_
      exact k_iret C dX12_planned_17 h
abbrev rm_X12_releaseMany : Room := { frames := 0, cells := 0, slots := 0, locals := 0 }
set_option maxRecDepth 100000 in
set_option maxHeartbeats 4000000 in
theorem b_X12_releaseMany_46 {X : gh_X} {sh : gh_Sh} {n : Nat} {post : Int32 → gh_M → Prop} (C : gh_CR X cX12_releaseMany RX12 4 (some .int) sh n 0 0 (gh_pi post)) (x0 : Nat) (x1 : Int32) (x3 : Int32) (s0 : Int32) (s1 : Int32) (M : gh_M) (k4 : Int32 → Int32 → gh_M → Prop) (hk4 : ∀ (y2 : Int32) (y3 : Int32) (M : gh_M), k4 y2 y3 M → gh_G X rm_X12_releaseMany 4 0 0 sh n 4 [(0, .ref x0), (1, .int x1), (2, .int y2), (3, .int y3)] [] M) (h : wp_X12_releaseMany_46 sh post k4 x0 x1 x3 s0 s1 M) : gh_G X rm_X12_releaseMany 4 0 0 sh n 46 [(0, .ref x0), (1, .int x1), (3, .int x3)] [.int s1, .int s0] M := by
  unfold wp_X12_releaseMany_46 at h
  refine k_iadd C.1 dX12_releaseMany_46 ?_
  refine k_istore_n (lv' := [(2, .int (s0 + s1)), (0, .ref x0), (1, .int x1), (3, .int x3)]) C.1 dX12_releaseMany_47 (by decide) rfl ?_
  refine k_iinc (v := x3 + 1) (lv' := [(3, .int (x3 + 1)), (2, .int (s0 + s1)), (0, .ref x0), (1, .int x1)]) C.1 3 rfl dX12_releaseMany_48 (by decide) rfl rfl ?_
  refine k_goto C.1 4 dX12_releaseMany_51 (by decide) ?_
  refine k_sub (lv' := [(0, .ref x0), (1, .int x1), (2, .int (s0 + s1)), (3, .int (x3 + 1))]) [2, 3, 1, 0] rfl ?_
  exact hk4 (s0 + s1) (x3 + 1) M h
set_option maxRecDepth 100000 in
set_option maxHeartbeats 4000000 in
theorem bb_X12_releaseMany_4 {X : gh_X} {sh : gh_Sh} {n : Nat} {post : Int32 → gh_M → Prop} (C : gh_CR X cX12_releaseMany RX12 4 (some .int) sh n 0 0 (gh_pi post)) (x0 : Nat) (x1 : Int32) (k4 : Int32 → Int32 → gh_M → Prop) (hk4 : ∀ (y2 : Int32) (y3 : Int32) (M : gh_M), k4 y2 y3 M → gh_G X rm_X12_releaseMany 4 0 0 sh n 4 [(0, .ref x0), (1, .int x1), (2, .int y2), (3, .int y3)] [] M) (x2 : Int32) (x3 : Int32) (M : gh_M) (h : wb_X12_releaseMany_4 sh post x0 x1 k4 x2 x3 M) : gh_G X rm_X12_releaseMany 4 0 0 sh n 4 [(0, .ref x0), (1, .int x1), (2, .int x2), (3, .int x3)] [] M := by
  unfold wb_X12_releaseMany_4 at h
  refine k_iload_n C.1 3 rfl dX12_releaseMany_4 ?_
  refine k_aload_n C.1 0 rfl dX12_releaseMany_5 ?_
  obtain ⟨hs1, h⟩ := h
  refine k_getI C.1 F_X12_132 dX12_releaseMany_6 hs1 ?_
  refine k_icmp_ge C.1 54 dX12_releaseMany_9 (by decide) (fun c2 => ?_) (fun c2 => ?_)
  · have h := h.1 c2
    refine k_iload_n C.1 2 rfl dX12_releaseMany_54 ?_
    exact k_iret C dX12_releaseMany_55 h
  · have h := h.2 c2
    refine k_iload_n C.1 2 rfl dX12_releaseMany_12 ?_
    refine k_aload_n C.1 0 rfl dX12_releaseMany_13 ?_
    obtain ⟨q3, hq3, h⟩ := h
    refine k_getR C.1 F_X12_37 dX12_releaseMany_14 hs1 hq3 ?_
    refine k_iconst (v := 3) C.1 dX12_releaseMany_17 (by decide) ?_
    refine k_iload_n C.1 3 rfl dX12_releaseMany_18 ?_
    refine k_imul C.1 dX12_releaseMany_19 ?_
    refine k_iload_n C.1 1 rfl dX12_releaseMany_20 ?_
    refine k_iadd C.1 dX12_releaseMany_21 ?_
    obtain ⟨hs4, h⟩ := h
    obtain ⟨hi5, h⟩ := h
    refine k_iald C.1 dX12_releaseMany_22 hs4 hi5 ?_
    refine k_iconst (v := 2) C.1 dX12_releaseMany_23 (by decide) ?_
    refine k_icmp_ne C.1 40 dX12_releaseMany_24 (by decide) (fun c6 => ?_) (fun c6 => ?_)
    · have h := h.2 c6
      refine k_aload_n C.1 0 rfl dX12_releaseMany_40 ?_
      obtain ⟨q7, hq7, h⟩ := h
      refine k_getR C.1 F_X12_16 dX12_releaseMany_41 hs1 hq7 ?_
      refine k_iload_n C.1 3 rfl dX12_releaseMany_44 ?_
      obtain ⟨hs8, h⟩ := h
      obtain ⟨hi9, h⟩ := h
      refine k_iald C.1 dX12_releaseMany_45 hs8 hi9 ?_
      refine k_sub (lv' := [(0, .ref x0), (1, .int x1), (3, .int x3)]) [0, 1, 3] rfl ?_
      exact b_X12_releaseMany_46 C x0 x1 x3 x2 (rI M q7 x3.toNatClampNeg) M k4 hk4 h
    · have h := h.1 c6
      refine k_aload_n C.1 0 rfl dX12_releaseMany_27 ?_
      obtain ⟨q10, hq10, h⟩ := h
      refine k_getR C.1 F_X12_43 dX12_releaseMany_28 hs1 hq10 ?_
      refine k_iconst (v := 3) C.1 dX12_releaseMany_31 (by decide) ?_
      refine k_iload_n C.1 3 rfl dX12_releaseMany_32 ?_
      refine k_imul C.1 dX12_releaseMany_33 ?_
      refine k_iload_n C.1 1 rfl dX12_releaseMany_34 ?_
      refine k_iadd C.1 dX12_releaseMany_35 ?_
      obtain ⟨hs11, h⟩ := h
      obtain ⟨hi12, h⟩ := h
      refine k_iald C.1 dX12_releaseMany_36 hs11 hi12 ?_
      refine k_goto C.1 46 dX12_releaseMany_37 (by decide) ?_
      refine k_sub (lv' := [(0, .ref x0), (1, .int x1), (3, .int x3)]) [0, 1, 3] rfl ?_
      exact b_X12_releaseMany_46 C x0 x1 x3 x2 (rI M q10 (((3 : Int32) * x3) + x1).toNatClampNeg) M k4 hk4 h
set_option maxRecDepth 100000 in
theorem b_X12_releaseMany_4 {X : gh_X} {sh : gh_Sh} {n : Nat} {post : Int32 → gh_M → Prop} (C : gh_CR X cX12_releaseMany RX12 4 (some .int) sh n 0 0 (gh_pi post)) (x0 : Nat) (x1 : Int32) (x2 : Int32) (x3 : Int32) (M : gh_M) (h : wp_X12_releaseMany_4 sh post x0 x1 x2 x3 M) : gh_G X rm_X12_releaseMany 4 0 0 sh n 4 [(0, .ref x0), (1, .int x1), (2, .int x2), (3, .int x3)] [] M := by
  unfold wp_X12_releaseMany_4 at h
  exact gh_loop_use h (fun v => gh_G X rm_X12_releaseMany 4 0 0 sh n 4 [(0, .ref x0), (1, .int x1), (2, .int v.1), (3, .int v.2.1)] [] v.2.2) (fun k v hk hb => bb_X12_releaseMany_4 C x0 x1 (fun x2 x3 M => k (x2, x3, M)) (fun x2 x3 M h => hk (x2, x3, M) h) v.1 v.2.1 v.2.2 hb)
set_option maxRecDepth 100000 in
set_option maxHeartbeats 4000000 in
theorem c_X12_releaseMany {l : Launch} {D : va_G} {dA : Nat → ClassId} {sh : gh_Sh} {b0 n : Nat} {M : gh_M} {x0 : Nat} {x1 : Int32} {post : Int32 → gh_M → Prop} (h : wp_X12_releaseMany sh M x0 x1 post) : gh_Met l D dA sh b0 n yX12_releaseMany cX12_releaseMany 4 (some .int) rm_X12_releaseMany M [.ref x0, .int x1] (gh_pi post) := by
  refine gh_open (by decide) (Nat.le_of_ble_eq_true rfl) (fun X C => ?_)
  show gh_G X rm_X12_releaseMany 4 0 0 sh n 0 [(0, .ref x0), (1, .int x1)] [] M
  unfold wp_X12_releaseMany at h
  refine k_iconst (v := 0) C.1 dX12_releaseMany_0 (by decide) ?_
  refine k_istore_n (lv' := [(2, .int (0 : Int32)), (0, .ref x0), (1, .int x1)]) C.1 dX12_releaseMany_1 (by decide) rfl ?_
  refine k_iconst (v := 0) C.1 dX12_releaseMany_2 (by decide) ?_
  refine k_istore_n (lv' := [(3, .int (0 : Int32)), (2, .int (0 : Int32)), (0, .ref x0), (1, .int x1)]) C.1 dX12_releaseMany_3 (by decide) rfl ?_
  refine k_sub (lv' := [(0, .ref x0), (1, .int x1), (2, .int (0 : Int32)), (3, .int (0 : Int32))]) [2, 3, 1, 0] rfl ?_
  exact b_X12_releaseMany_4 C x0 x1 (0 : Int32) (0 : Int32) M h
abbrev rm_X12_release : Room := { frames := 2, cells := 0, slots := 0, locals := 42 }
set_option maxRecDepth 100000 in
set_option maxHeartbeats 4000000 in
theorem b_X12_release_75 {X : gh_X} {sh : gh_Sh} {n : Nat} {post : Int32 → gh_M → Prop} (C : gh_CR X cX12_release RX12 8 (some .int) sh n 0 0 (gh_pi post)) (x0 : Nat) (x1 : Int32) (x2 : Int32) (x3 : Int32) (x4 : Int32) (x5 : Int32) (x6 : Int32) (s0 : Int32) (M : gh_M) (k14 : Int32 → Int32 → gh_M → Prop) (hk14 : ∀ (y3 : Int32) (y4 : Int32) (M : gh_M), k14 y3 y4 M → gh_G X rm_X12_release 8 0 0 sh n 14 [(0, .ref x0), (1, .int x1), (2, .int x2), (3, .int y3), (4, .int y4)] [] M) (h : wp_X12_release_75 sh post k14 x0 x1 x2 x3 x4 x5 x6 s0 M) : gh_G X rm_X12_release 8 0 0 sh n 75 [(0, .ref x0), (1, .int x1), (2, .int x2), (3, .int x3), (4, .int x4), (5, .int x5), (6, .int x6)] [.int s0] M := by
  unfold wp_X12_release_75 at h
  refine k_istore (lv' := [(7, .int s0), (0, .ref x0), (1, .int x1), (2, .int x2), (3, .int x3), (4, .int x4), (5, .int x5), (6, .int x6)]) C.1 dX12_release_75 (by decide) rfl ?_
  refine k_iload_n C.1 4 rfl dX12_release_77 ?_
  refine k_iload C.1 0 rfl dX12_release_78 ?_
  refine k_icmp_ge C.1 116 dX12_release_80 (by decide) (fun c1 => ?_) (fun c1 => ?_)
  · have h := h.1 c1
    refine k_iload_n C.1 4 rfl dX12_release_116 ?_
    refine k_iload C.1 0 rfl dX12_release_117 ?_
    refine k_isub C.1 dX12_release_119 ?_
    refine k_istore_n (lv' := [(3, .int (x3 - s0)), (7, .int s0), (0, .ref x0), (1, .int x1), (2, .int x2), (4, .int x4), (5, .int x5), (6, .int x6)]) C.1 dX12_release_120 (by decide) rfl ?_
    refine k_iinc (v := x4 + 1) (lv' := [(4, .int (x4 + 1)), (3, .int (x3 - s0)), (7, .int s0), (0, .ref x0), (1, .int x1), (2, .int x2), (5, .int x5), (6, .int x6)]) C.1 5 rfl dX12_release_121 (by decide) rfl rfl ?_
    refine k_goto C.1 14 dX12_release_124 (by decide) ?_
    refine k_sub (lv' := [(0, .ref x0), (1, .int x1), (2, .int x2), (3, .int (x3 - s0)), (4, .int (x4 + 1))]) [3, 4, 5, 1, 0] rfl ?_
    exact hk14 (x3 - s0) (x4 + 1) M h
  · have h := h.2 c1
    refine k_iload C.1 7 rfl dX12_release_83 ?_
    refine k_if_eq C.1 103 dX12_release_85 (by decide) (fun c2 => ?_) (fun c2 => ?_)
    · have h := h.1 c2
      refine k_aload_n C.1 1 rfl dX12_release_103 ?_
      obtain ⟨hs3, h⟩ := h
      obtain ⟨q4, hq4, h⟩ := h
      refine k_getR C.1 F_X12_19 dX12_release_104 hs3 hq4 ?_
      refine k_bipush (v := 8) C.1 dX12_release_107 (by decide) ?_
      refine k_iload C.1 5 rfl dX12_release_109 ?_
      refine k_imul C.1 dX12_release_111 ?_
      refine k_iload_n C.1 4 rfl dX12_release_112 ?_
      refine k_iadd C.1 dX12_release_113 ?_
      obtain ⟨hs5, h⟩ := h
      obtain ⟨hi6, h⟩ := h
      refine k_iald C.1 dX12_release_114 hs5 hi6 ?_
      exact k_iret C dX12_release_115 h
    · have h := h.2 c2
      refine k_aload_n C.1 1 rfl dX12_release_88 ?_
      obtain ⟨hs7, h⟩ := h
      obtain ⟨q8, hq8, h⟩ := h
      refine k_getR C.1 F_X12_46 dX12_release_89 hs7 hq8 ?_
      refine k_bipush (v := 10) C.1 dX12_release_92 (by decide) ?_
      refine k_iload C.1 6 rfl dX12_release_94 ?_
      refine k_imul C.1 dX12_release_96 ?_
      refine k_iload_n C.1 4 rfl dX12_release_97 ?_
      refine k_iadd C.1 dX12_release_98 ?_
      obtain ⟨hs9, h⟩ := h
      obtain ⟨hi10, h⟩ := h
      refine k_iald C.1 dX12_release_99 hs9 hi10 ?_
      refine k_goto C.1 115 dX12_release_100 (by decide) ?_
      exact k_iret C dX12_release_115 h
set_option maxRecDepth 100000 in
set_option maxHeartbeats 4000000 in
theorem b_X12_release_51 {X : gh_X} {sh : gh_Sh} {n : Nat} {post : Int32 → gh_M → Prop} (C : gh_CR X cX12_release RX12 8 (some .int) sh n 0 0 (gh_pi post)) (x0 : Nat) (x1 : Int32) (x2 : Int32) (x3 : Int32) (x4 : Int32) (x5 : Int32) (s0 : Int32) (M : gh_M) (k14 : Int32 → Int32 → gh_M → Prop) (hk14 : ∀ (y3 : Int32) (y4 : Int32) (M : gh_M), k14 y3 y4 M → gh_G X rm_X12_release 8 0 0 sh n 14 [(0, .ref x0), (1, .int x1), (2, .int x2), (3, .int y3), (4, .int y4)] [] M) (h : wp_X12_release_51 sh post k14 x0 x1 x2 x3 x4 x5 s0 M) : gh_G X rm_X12_release 8 0 0 sh n 51 [(0, .ref x0), (1, .int x1), (2, .int x2), (3, .int x3), (4, .int x4), (5, .int x5)] [.int s0] M := by
  unfold wp_X12_release_51 at h
  refine k_istore (lv' := [(6, .int s0), (0, .ref x0), (1, .int x1), (2, .int x2), (3, .int x3), (4, .int x4), (5, .int x5)]) C.1 dX12_release_51 (by decide) rfl ?_
  refine k_iload C.1 0 rfl dX12_release_53 ?_
  refine k_if_eq C.1 68 dX12_release_55 (by decide) (fun c1 => ?_) (fun c1 => ?_)
  · have h := h.1 c1
    refine k_aload_n C.1 1 rfl dX12_release_68 ?_
    obtain ⟨hs2, h⟩ := h
    obtain ⟨q3, hq3, h⟩ := h
    refine k_getR C.1 F_X12_16 dX12_release_69 hs2 hq3 ?_
    refine k_iload C.1 5 rfl dX12_release_72 ?_
    obtain ⟨hs4, h⟩ := h
    obtain ⟨hi5, h⟩ := h
    refine k_iald C.1 dX12_release_74 hs4 hi5 ?_
    refine k_sub (lv' := [(0, .ref x0), (1, .int x1), (2, .int x2), (3, .int x3), (4, .int x4), (5, .int x5), (6, .int s0)]) [1, 2, 3, 4, 5, 6, 0] rfl ?_
    exact b_X12_release_75 C x0 x1 x2 x3 x4 x5 s0 (rI M q3 x4.toNatClampNeg) M k14 hk14 h
  · have h := h.2 c1
    refine k_aload_n C.1 1 rfl dX12_release_58 ?_
    obtain ⟨hs6, h⟩ := h
    obtain ⟨q7, hq7, h⟩ := h
    refine k_getR C.1 F_X12_43 dX12_release_59 hs6 hq7 ?_
    refine k_iload C.1 6 rfl dX12_release_62 ?_
    obtain ⟨hs8, h⟩ := h
    obtain ⟨hi9, h⟩ := h
    refine k_iald C.1 dX12_release_64 hs8 hi9 ?_
    refine k_goto C.1 75 dX12_release_65 (by decide) ?_
    refine k_sub (lv' := [(0, .ref x0), (1, .int x1), (2, .int x2), (3, .int x3), (4, .int x4), (5, .int x5), (6, .int s0)]) [1, 2, 3, 4, 5, 6, 0] rfl ?_
    exact b_X12_release_75 C x0 x1 x2 x3 x4 x5 s0 (rI M q7 x5.toNatClampNeg) M k14 hk14 h
set_option maxRecDepth 100000 in
set_option maxHeartbeats 4000000 in
theorem bb_X12_release_14 {X : gh_X} {sh : gh_Sh} {n : Nat} {post : Int32 → gh_M → Prop} (C : gh_CR X cX12_release RX12 8 (some .int) sh n 0 0 (gh_pi post)) (x0 : Nat) (x1 : Int32) (x2 : Int32) (k14 : Int32 → Int32 → gh_M → Prop) (hk14 : ∀ (y3 : Int32) (y4 : Int32) (M : gh_M), k14 y3 y4 M → gh_G X rm_X12_release 8 0 0 sh n 14 [(0, .ref x0), (1, .int x1), (2, .int x2), (3, .int y3), (4, .int y4)] [] M) (x3 : Int32) (x4 : Int32) (M : gh_M) (h : wb_X12_release_14 sh post x0 x1 x2 k14 x3 x4 M) : gh_G X rm_X12_release 8 0 0 sh n 14 [(0, .ref x0), (1, .int x1), (2, .int x2), (3, .int x3), (4, .int x4)] [] M := by
  unfold wb_X12_release_14 at h
  refine k_iload C.1 4 rfl dX12_release_14 ?_
  refine k_aload_n C.1 0 rfl dX12_release_16 ?_
  obtain ⟨hs1, h⟩ := h
  refine k_getI C.1 F_X12_132 dX12_release_17 hs1 ?_
  refine k_icmp_ge C.1 127 dX12_release_20 (by decide) (fun c2 => ?_) (fun c2 => ?_)
  · have h := h.1 c2
    refine k_bipush (v := (-5)) C.1 dX12_release_127 (by decide) ?_
    exact k_iret C dX12_release_129 h
  · have h := h.2 c2
    refine k_iload_n C.1 2 rfl dX12_release_23 ?_
    refine k_if_lt C.1 127 dX12_release_24 (by decide) (fun c3 => ?_) (fun c3 => ?_)
    · have h := h.1 c3
      refine k_bipush (v := (-5)) C.1 dX12_release_127 (by decide) ?_
      exact k_iret C dX12_release_129 h
    · have h := h.2 c3
      refine k_iconst (v := 3) C.1 dX12_release_27 (by decide) ?_
      refine k_iload C.1 4 rfl dX12_release_28 ?_
      refine k_imul C.1 dX12_release_30 ?_
      refine k_iload_n C.1 1 rfl dX12_release_31 ?_
      refine k_iadd C.1 dX12_release_32 ?_
      refine k_istore (lv' := [(5, .int (((3 : Int32) * x4) + x1)), (0, .ref x0), (1, .int x1), (2, .int x2), (3, .int x3), (4, .int x4)]) C.1 dX12_release_33 (by decide) rfl ?_
      refine k_aload_n C.1 1 rfl dX12_release_35 ?_
      obtain ⟨q4, hq4, h⟩ := h
      refine k_getR C.1 F_X12_37 dX12_release_36 hs1 hq4 ?_
      refine k_iload C.1 0 rfl dX12_release_39 ?_
      obtain ⟨hs5, h⟩ := h
      obtain ⟨hi6, h⟩ := h
      refine k_iald C.1 dX12_release_41 hs5 hi6 ?_
      refine k_iconst (v := 2) C.1 dX12_release_42 (by decide) ?_
      refine k_icmp_ne C.1 50 dX12_release_43 (by decide) (fun c7 => ?_) (fun c7 => ?_)
      · have h := h.2 c7
        refine k_iconst (v := 0) C.1 dX12_release_50 (by decide) ?_
        refine k_sub (lv' := [(0, .ref x0), (1, .int x1), (2, .int x2), (3, .int x3), (4, .int x4), (5, .int (((3 : Int32) * x4) + x1))]) [1, 2, 3, 4, 5, 0] rfl ?_
        exact b_X12_release_51 C x0 x1 x2 x3 x4 (((3 : Int32) * x4) + x1) (0 : Int32) M k14 hk14 h
      · have h := h.1 c7
        refine k_iconst (v := 1) C.1 dX12_release_46 (by decide) ?_
        refine k_goto C.1 51 dX12_release_47 (by decide) ?_
        refine k_sub (lv' := [(0, .ref x0), (1, .int x1), (2, .int x2), (3, .int x3), (4, .int x4), (5, .int (((3 : Int32) * x4) + x1))]) [1, 2, 3, 4, 5, 0] rfl ?_
        exact b_X12_release_51 C x0 x1 x2 x3 x4 (((3 : Int32) * x4) + x1) (1 : Int32) M k14 hk14 h
set_option maxRecDepth 100000 in
theorem b_X12_release_14 {X : gh_X} {sh : gh_Sh} {n : Nat} {post : Int32 → gh_M → Prop} (C : gh_CR X cX12_release RX12 8 (some .int) sh n 0 0 (gh_pi post)) (x0 : Nat) (x1 : Int32) (x2 : Int32) (x3 : Int32) (x4 : Int32) (M : gh_M) (h : wp_X12_release_14 sh post x0 x1 x2 x3 x4 M) : gh_G X rm_X12_release 8 0 0 sh n 14 [(0, .ref x0), (1, .int x1), (2, .int x2), (3, .int x3), (4, .int x4)] [] M := by
  unfold wp_X12_release_14 at h
  exact gh_loop_use h (fun v => gh_G X rm_X12_release 8 0 0 sh n 14 [(0, .ref x0), (1, .int x1), (2, .int x2), (3, .int v.1), (4, .int v.2.1)] [] v.2.2) (fun k v hk hb => bb_X12_release_14 C x0 x1 x2 (fun x3 x4 M => k (x3, x4, M)) (fun x3 x4 M h => hk (x3, x4, M) h) v.1 v.2.1 v.2.2 hb)
set_option maxRecDepth 100000 in
set_option maxHeartbeats 4000000 in
theorem c_X12_release {l : Launch} {D : va_G} {dA : Nat → ClassId} {sh : gh_Sh} {b0 n : Nat} {M : gh_M} {x0 : Nat} {x1 : Int32} {x2 : Int32} {post : Int32 → gh_M → Prop} (h : wp_X12_release sh M x0 x1 x2 post) : gh_Met l D dA sh b0 n yX12_release cX12_release 8 (some .int) rm_X12_release M [.ref x0, .int x1, .int x2] (gh_pi post) := by
  refine gh_open (by decide) (Nat.le_of_ble_eq_true rfl) (fun X C => ?_)
  show gh_G X rm_X12_release 8 0 0 sh n 0 [(0, .ref x0), (1, .int x1), (2, .int x2)] [] M
  unfold wp_X12_release at h
  refine k_iload_n C.1 1 rfl dX12_release_0 ?_
  refine k_callS (As := [.int x1]) (rest := []) C.1 V_X12_187 (c_X12_isTongue h) ⟨rfl, rfl, Nat.le_of_ble_eq_true rfl, Nat.le_of_ble_eq_true rfl⟩  rfl rfl (Nat.le_of_ble_eq_true rfl) ⟨Nat.zero_le _, Nat.zero_le _⟩ dX12_release_1 (kp_i fun r2 M1 h9 => ?_)
  replace h := h9
  refine k_if_ne C.1 9 dX12_release_4 (by decide) (fun c3 => ?_) (fun c3 => ?_)
  · have h := h.2 c3
    refine k_iload_n C.1 2 rfl dX12_release_9 ?_
    refine k_istore_n (lv' := [(3, .int x2), (0, .ref x0), (1, .int x1), (2, .int x2)]) C.1 dX12_release_10 (by decide) rfl ?_
    refine k_iconst (v := 0) C.1 dX12_release_11 (by decide) ?_
    refine k_istore (lv' := [(4, .int (0 : Int32)), (3, .int x2), (0, .ref x0), (1, .int x1), (2, .int x2)]) C.1 dX12_release_12 (by decide) rfl ?_
    refine k_sub (lv' := [(0, .ref x0), (1, .int x1), (2, .int x2), (3, .int x2), (4, .int (0 : Int32))]) [2, 3, 4, 1, 0] rfl ?_
    exact b_X12_release_14 C x0 x1 x2 x2 (0 : Int32) M1 h
  · have h := h.1 c3
    refine k_iconst (v := (-1)) C.1 dX12_release_7 (by decide) ?_
    exact k_iret C dX12_release_8 h
abbrev rm_X12_inState : Room := { frames := 0, cells := 0, slots := 0, locals := 0 }
set_option maxRecDepth 100000 in
set_option maxHeartbeats 4000000 in
theorem b_X12_inState_42 {X : gh_X} {sh : gh_Sh} {n : Nat} {post : Int32 → gh_M → Prop} (C : gh_CR X cX12_inState RX12 5 (some .int) sh n 0 0 (gh_pi post)) (x0 : Nat) (x1 : Int32) (x3 : Int32) (x4 : Int32) (s0 : Int32) (s1 : Int32) (M : gh_M) (k4 : Int32 → Int32 → gh_M → Prop) (hk4 : ∀ (y2 : Int32) (y3 : Int32) (M : gh_M), k4 y2 y3 M → gh_G X rm_X12_inState 5 0 0 sh n 4 [(0, .ref x0), (1, .int x1), (2, .int y2), (3, .int y3)] [] M) (k15 : Int32 → Int32 → gh_M → Prop) (hk15 : ∀ (y2 : Int32) (y4 : Int32) (M : gh_M), k15 y2 y4 M → gh_G X rm_X12_inState 5 0 0 sh n 15 [(0, .ref x0), (1, .int x1), (2, .int y2), (3, .int x3), (4, .int y4)] [] M) (h : wp_X12_inState_42 sh post k4 k15 x0 x1 x3 x4 s0 s1 M) : gh_G X rm_X12_inState 5 0 0 sh n 42 [(0, .ref x0), (1, .int x1), (3, .int x3), (4, .int x4)] [.int s1, .int s0] M := by
  unfold wp_X12_inState_42 at h
  refine k_iadd C.1 dX12_inState_42 ?_
  refine k_istore_n (lv' := [(2, .int (s0 + s1)), (0, .ref x0), (1, .int x1), (3, .int x3), (4, .int x4)]) C.1 dX12_inState_43 (by decide) rfl ?_
  refine k_iinc (v := x4 + 1) (lv' := [(4, .int (x4 + 1)), (2, .int (s0 + s1)), (0, .ref x0), (1, .int x1), (3, .int x3)]) C.1 4 rfl dX12_inState_44 (by decide) rfl rfl ?_
  refine k_goto C.1 15 dX12_inState_47 (by decide) ?_
  refine k_sub (lv' := [(0, .ref x0), (1, .int x1), (2, .int (s0 + s1)), (3, .int x3), (4, .int (x4 + 1))]) [2, 3, 1, 4, 0] rfl ?_
  exact hk15 (s0 + s1) (x4 + 1) M h
set_option maxRecDepth 100000 in
set_option maxHeartbeats 4000000 in
theorem bb_X12_inState_15 {X : gh_X} {sh : gh_Sh} {n : Nat} {post : Int32 → gh_M → Prop} (C : gh_CR X cX12_inState RX12 5 (some .int) sh n 0 0 (gh_pi post)) (x0 : Nat) (x1 : Int32) (x3 : Int32) (k4 : Int32 → Int32 → gh_M → Prop) (hk4 : ∀ (y2 : Int32) (y3 : Int32) (M : gh_M), k4 y2 y3 M → gh_G X rm_X12_inState 5 0 0 sh n 4 [(0, .ref x0), (1, .int x1), (2, .int y2), (3, .int y3)] [] M) (k15 : Int32 → Int32 → gh_M → Prop) (hk15 : ∀ (y2 : Int32) (y4 : Int32) (M : gh_M), k15 y2 y4 M → gh_G X rm_X12_inState 5 0 0 sh n 15 [(0, .ref x0), (1, .int x1), (2, .int y2), (3, .int x3), (4, .int y4)] [] M) (x2 : Int32) (x4 : Int32) (M : gh_M) (h : wb_X12_inState_15 sh post k4 x0 x1 x3 k15 x2 x4 M) : gh_G X rm_X12_inState 5 0 0 sh n 15 [(0, .ref x0), (1, .int x1), (2, .int x2), (3, .int x3), (4, .int x4)] [] M := by
  unfold wb_X12_inState_15 at h
  refine k_iload C.1 4 rfl dX12_inState_15 ?_
  refine k_iconst (v := 3) C.1 dX12_inState_17 (by decide) ?_
  refine k_icmp_ge C.1 50 dX12_inState_18 (by decide) (fun c1 => ?_) (fun c1 => ?_)
  · have h := h.1 c1
    refine k_iinc (v := x3 + 1) (lv' := [(3, .int (x3 + 1)), (0, .ref x0), (1, .int x1), (2, .int x2), (4, .int x4)]) C.1 3 rfl dX12_inState_50 (by decide) rfl rfl ?_
    refine k_goto C.1 4 dX12_inState_53 (by decide) ?_
    refine k_sub (lv' := [(0, .ref x0), (1, .int x1), (2, .int x2), (3, .int (x3 + 1))]) [1, 2, 3, 0] rfl ?_
    exact hk4 x2 (x3 + 1) M h
  · have h := h.2 c1
    refine k_iload_n C.1 2 rfl dX12_inState_21 ?_
    refine k_aload_n C.1 0 rfl dX12_inState_22 ?_
    obtain ⟨hs2, h⟩ := h
    obtain ⟨q3, hq3, h⟩ := h
    refine k_getR C.1 F_X12_37 dX12_inState_23 hs2 hq3 ?_
    refine k_iconst (v := 3) C.1 dX12_inState_26 (by decide) ?_
    refine k_iload_n C.1 3 rfl dX12_inState_27 ?_
    refine k_imul C.1 dX12_inState_28 ?_
    refine k_iload C.1 4 rfl dX12_inState_29 ?_
    refine k_iadd C.1 dX12_inState_31 ?_
    obtain ⟨hs4, h⟩ := h
    obtain ⟨hi5, h⟩ := h
    refine k_iald C.1 dX12_inState_32 hs4 hi5 ?_
    refine k_iload_n C.1 1 rfl dX12_inState_33 ?_
    refine k_icmp_ne C.1 41 dX12_inState_34 (by decide) (fun c6 => ?_) (fun c6 => ?_)
    · have h := h.2 c6
      refine k_iconst (v := 0) C.1 dX12_inState_41 (by decide) ?_
      refine k_sub (lv' := [(0, .ref x0), (1, .int x1), (3, .int x3), (4, .int x4)]) [0, 1, 3, 4] rfl ?_
      exact b_X12_inState_42 C x0 x1 x3 x4 x2 (0 : Int32) M k4 hk4 k15 hk15 h
    · have h := h.1 c6
      refine k_iconst (v := 1) C.1 dX12_inState_37 (by decide) ?_
      refine k_goto C.1 42 dX12_inState_38 (by decide) ?_
      refine k_sub (lv' := [(0, .ref x0), (1, .int x1), (3, .int x3), (4, .int x4)]) [0, 1, 3, 4] rfl ?_
      exact b_X12_inState_42 C x0 x1 x3 x4 x2 (1 : Int32) M k4 hk4 k15 hk15 h
set_option maxRecDepth 100000 in
theorem b_X12_inState_15 {X : gh_X} {sh : gh_Sh} {n : Nat} {post : Int32 → gh_M → Prop} (C : gh_CR X cX12_inState RX12 5 (some .int) sh n 0 0 (gh_pi post)) (x0 : Nat) (x1 : Int32) (x2 : Int32) (x3 : Int32) (x4 : Int32) (M : gh_M) (k4 : Int32 → Int32 → gh_M → Prop) (hk4 : ∀ (y2 : Int32) (y3 : Int32) (M : gh_M), k4 y2 y3 M → gh_G X rm_X12_inState 5 0 0 sh n 4 [(0, .ref x0), (1, .int x1), (2, .int y2), (3, .int y3)] [] M) (h : wp_X12_inState_15 sh post k4 x0 x1 x2 x3 x4 M) : gh_G X rm_X12_inState 5 0 0 sh n 15 [(0, .ref x0), (1, .int x1), (2, .int x2), (3, .int x3), (4, .int x4)] [] M := by
  unfold wp_X12_inState_15 at h
  exact gh_loop_use h (fun v => gh_G X rm_X12_inState 5 0 0 sh n 15 [(0, .ref x0), (1, .int x1), (2, .int v.1), (3, .int x3), (4, .int v.2.1)] [] v.2.2) (fun k v hk hb => bb_X12_inState_15 C x0 x1 x3 k4 hk4 (fun x2 x4 M => k (x2, x4, M)) (fun x2 x4 M h => hk (x2, x4, M) h) v.1 v.2.1 v.2.2 hb)
set_option maxRecDepth 100000 in
set_option maxHeartbeats 4000000 in
theorem bb_X12_inState_4 {X : gh_X} {sh : gh_Sh} {n : Nat} {post : Int32 → gh_M → Prop} (C : gh_CR X cX12_inState RX12 5 (some .int) sh n 0 0 (gh_pi post)) (x0 : Nat) (x1 : Int32) (k4 : Int32 → Int32 → gh_M → Prop) (hk4 : ∀ (y2 : Int32) (y3 : Int32) (M : gh_M), k4 y2 y3 M → gh_G X rm_X12_inState 5 0 0 sh n 4 [(0, .ref x0), (1, .int x1), (2, .int y2), (3, .int y3)] [] M) (x2 : Int32) (x3 : Int32) (M : gh_M) (h : wb_X12_inState_4 sh post x0 x1 k4 x2 x3 M) : gh_G X rm_X12_inState 5 0 0 sh n 4 [(0, .ref x0), (1, .int x1), (2, .int x2), (3, .int x3)] [] M := by
  unfold wb_X12_inState_4 at h
  refine k_iload_n C.1 3 rfl dX12_inState_4 ?_
  refine k_aload_n C.1 0 rfl dX12_inState_5 ?_
  obtain ⟨hs1, h⟩ := h
  refine k_getI C.1 F_X12_132 dX12_inState_6 hs1 ?_
  refine k_icmp_ge C.1 56 dX12_inState_9 (by decide) (fun c2 => ?_) (fun c2 => ?_)
  · have h := h.1 c2
    refine k_iload_n C.1 2 rfl dX12_inState_56 ?_
    exact k_iret C dX12_inState_57 h
  · have h := h.2 c2
    refine k_iconst (v := 0) C.1 dX12_inState_12 (by decide) ?_
    refine k_istore (lv' := [(4, .int (0 : Int32)), (0, .ref x0), (1, .int x1), (2, .int x2), (3, .int x3)]) C.1 dX12_inState_13 (by decide) rfl ?_
    refine k_sub (lv' := [(0, .ref x0), (1, .int x1), (2, .int x2), (3, .int x3), (4, .int (0 : Int32))]) [1, 2, 3, 4, 0] rfl ?_
    exact b_X12_inState_15 C x0 x1 x2 x3 (0 : Int32) M k4 hk4 h
set_option maxRecDepth 100000 in
theorem b_X12_inState_4 {X : gh_X} {sh : gh_Sh} {n : Nat} {post : Int32 → gh_M → Prop} (C : gh_CR X cX12_inState RX12 5 (some .int) sh n 0 0 (gh_pi post)) (x0 : Nat) (x1 : Int32) (x2 : Int32) (x3 : Int32) (M : gh_M) (h : wp_X12_inState_4 sh post x0 x1 x2 x3 M) : gh_G X rm_X12_inState 5 0 0 sh n 4 [(0, .ref x0), (1, .int x1), (2, .int x2), (3, .int x3)] [] M := by
  unfold wp_X12_inState_4 at h
  exact gh_loop_use h (fun v => gh_G X rm_X12_inState 5 0 0 sh n 4 [(0, .ref x0), (1, .int x1), (2, .int v.1), (3, .int v.2.1)] [] v.2.2) (fun k v hk hb => bb_X12_inState_4 C x0 x1 (fun x2 x3 M => k (x2, x3, M)) (fun x2 x3 M h => hk (x2, x3, M) h) v.1 v.2.1 v.2.2 hb)
set_option maxRecDepth 100000 in
set_option maxHeartbeats 4000000 in
theorem c_X12_inState {l : Launch} {D : va_G} {dA : Nat → ClassId} {sh : gh_Sh} {b0 n : Nat} {M : gh_M} {x0 : Nat} {x1 : Int32} {post : Int32 → gh_M → Prop} (h : wp_X12_inState sh M x0 x1 post) : gh_Met l D dA sh b0 n yX12_inState cX12_inState 5 (some .int) rm_X12_inState M [.ref x0, .int x1] (gh_pi post) := by
  refine gh_open (by decide) (Nat.le_of_ble_eq_true rfl) (fun X C => ?_)
  show gh_G X rm_X12_inState 5 0 0 sh n 0 [(0, .ref x0), (1, .int x1)] [] M
  unfold wp_X12_inState at h
  refine k_iconst (v := 0) C.1 dX12_inState_0 (by decide) ?_
  refine k_istore_n (lv' := [(2, .int (0 : Int32)), (0, .ref x0), (1, .int x1)]) C.1 dX12_inState_1 (by decide) rfl ?_
  refine k_iconst (v := 0) C.1 dX12_inState_2 (by decide) ?_
  refine k_istore_n (lv' := [(3, .int (0 : Int32)), (2, .int (0 : Int32)), (0, .ref x0), (1, .int x1)]) C.1 dX12_inState_3 (by decide) rfl ?_
  refine k_sub (lv' := [(0, .ref x0), (1, .int x1), (2, .int (0 : Int32)), (3, .int (0 : Int32))]) [2, 3, 1, 0] rfl ?_
  exact b_X12_inState_4 C x0 x1 (0 : Int32) (0 : Int32) M h
abbrev rm_X12_many : Room := { frames := 1, cells := 0, slots := 0, locals := 24 }
set_option maxRecDepth 100000 in
set_option maxHeartbeats 4000000 in
theorem c_X12_many {l : Launch} {D : va_G} {dA : Nat → ClassId} {sh : gh_Sh} {b0 n : Nat} {M : gh_M} {x0 : Nat} {x1 : Int32} {post : Int32 → gh_M → Prop} (h : wp_X12_many sh M x0 x1 post) : gh_Met l D dA sh b0 n yX12_many cX12_many 2 (some .int) rm_X12_many M [.ref x0, .int x1] (gh_pi post) := by
  refine gh_open (by decide) (Nat.le_of_ble_eq_true rfl) (fun X C => ?_)
  show gh_G X rm_X12_many 2 0 0 sh n 0 [(0, .ref x0), (1, .int x1)] [] M
  unfold wp_X12_many at h
  refine k_iload_n C.1 1 rfl dX12_many_0 ?_
  by_cases e1 : x1 = 0
  · have h := h.1 e1
    refine k_tableIn (off := 63) C.1 64 dX12_many_1 (by rw [e1]; decide) (by rw [e1]; decide) (by rw [e1]; rfl) (by decide) ?_
    refine k_aload_n C.1 0 rfl dX12_many_64 ?_
    obtain ⟨hs2, h⟩ := h
    refine k_getI C.1 F_X12_132 dX12_many_65 hs2 ?_
    exact k_iret C dX12_many_68 h
  · have h := h.2
    by_cases e3 : x1 = 1
    · have h := h.1 e3
      refine k_tableIn (off := 68) C.1 69 dX12_many_1 (by rw [e3]; decide) (by rw [e3]; decide) (by rw [e3]; rfl) (by decide) ?_
      refine k_aload_n C.1 0 rfl dX12_many_69 ?_
      obtain ⟨hs4, h⟩ := h
      refine k_getI C.1 F_X12_155 dX12_many_70 hs4 ?_
      exact k_iret C dX12_many_73 h
    · have h := h.2
      by_cases e5 : x1 = 2
      · have h := h.1 e5
        refine k_tableIn (off := 73) C.1 74 dX12_many_1 (by rw [e5]; decide) (by rw [e5]; decide) (by rw [e5]; rfl) (by decide) ?_
        refine k_aload_n C.1 0 rfl dX12_many_74 ?_
        obtain ⟨hs6, h⟩ := h
        refine k_getI C.1 F_X12_148 dX12_many_75 hs6 ?_
        exact k_iret C dX12_many_78 h
      · have h := h.2
        by_cases e7 : x1 = 3
        · have h := h.1 e7
          refine k_tableIn (off := 78) C.1 79 dX12_many_1 (by rw [e7]; decide) (by rw [e7]; decide) (by rw [e7]; rfl) (by decide) ?_
          refine k_aload_n C.1 0 rfl dX12_many_79 ?_
          obtain ⟨hs8, h⟩ := h
          refine k_getI C.1 F_X12_135 dX12_many_80 hs8 ?_
          exact k_iret C dX12_many_83 h
        · have h := h.2
          by_cases e9 : x1 = 4
          · have h := h.1 e9
            refine k_tableIn (off := 83) C.1 84 dX12_many_1 (by rw [e9]; decide) (by rw [e9]; decide) (by rw [e9]; rfl) (by decide) ?_
            refine k_aload_n C.1 0 rfl dX12_many_84 ?_
            obtain ⟨hs10, h⟩ := h
            refine k_getI C.1 F_X12_184 dX12_many_85 hs10 ?_
            exact k_iret C dX12_many_88 h
          · have h := h.2
            by_cases e11 : x1 = 5
            · have h := h.1 e11
              refine k_tableIn (off := 88) C.1 89 dX12_many_1 (by rw [e11]; decide) (by rw [e11]; decide) (by rw [e11]; rfl) (by decide) ?_
              refine k_aload_n C.1 0 rfl dX12_many_89 ?_
              obtain ⟨hs12, h⟩ := h
              refine k_getI C.1 F_X12_207 dX12_many_90 hs12 ?_
              exact k_iret C dX12_many_93 h
            · have h := h.2
              by_cases e13 : x1 = 6
              · have h := h.1 e13
                refine k_tableIn (off := 93) C.1 94 dX12_many_1 (by rw [e13]; decide) (by rw [e13]; decide) (by rw [e13]; rfl) (by decide) ?_
                refine k_aload_n C.1 0 rfl dX12_many_94 ?_
                refine k_iload_n C.1 1 rfl dX12_many_95 ?_
                refine k_iconst (v := 5) C.1 dX12_many_96 (by decide) ?_
                refine k_isub C.1 dX12_many_97 ?_
                obtain ⟨hs14, h⟩ := h
                refine k_callV (As := [.int (x1 - (5 : Int32))]) (rest := []) C.1 V_X12_255 (c_X12_inState h) ⟨rfl, rfl, Nat.le_of_ble_eq_true rfl, Nat.le_of_ble_eq_true rfl⟩ hs14  rfl rfl (Nat.le_of_ble_eq_true rfl) ⟨Nat.zero_le _, Nat.zero_le _⟩ dX12_many_98 (kp_i fun r16 M15 h9 => ?_)
                replace h := h9
                exact k_iret C dX12_many_101 h
              · have h := h.2
                by_cases e17 : x1 = 7
                · have h := h.1 e17
                  refine k_tableIn (off := 93) C.1 94 dX12_many_1 (by rw [e17]; decide) (by rw [e17]; decide) (by rw [e17]; rfl) (by decide) ?_
                  refine k_aload_n C.1 0 rfl dX12_many_94 ?_
                  refine k_iload_n C.1 1 rfl dX12_many_95 ?_
                  refine k_iconst (v := 5) C.1 dX12_many_96 (by decide) ?_
                  refine k_isub C.1 dX12_many_97 ?_
                  obtain ⟨hs18, h⟩ := h
                  refine k_callV (As := [.int (x1 - (5 : Int32))]) (rest := []) C.1 V_X12_255 (c_X12_inState h) ⟨rfl, rfl, Nat.le_of_ble_eq_true rfl, Nat.le_of_ble_eq_true rfl⟩ hs18  rfl rfl (Nat.le_of_ble_eq_true rfl) ⟨Nat.zero_le _, Nat.zero_le _⟩ dX12_many_98 (kp_i fun r20 M19 h9 => ?_)
                  replace h := h9
                  exact k_iret C dX12_many_101 h
                · have h := h.2
                  by_cases e21 : x1 = 8
                  · have h := h.1 e21
                    refine k_tableIn (off := 93) C.1 94 dX12_many_1 (by rw [e21]; decide) (by rw [e21]; decide) (by rw [e21]; rfl) (by decide) ?_
                    refine k_aload_n C.1 0 rfl dX12_many_94 ?_
                    refine k_iload_n C.1 1 rfl dX12_many_95 ?_
                    refine k_iconst (v := 5) C.1 dX12_many_96 (by decide) ?_
                    refine k_isub C.1 dX12_many_97 ?_
                    obtain ⟨hs22, h⟩ := h
                    refine k_callV (As := [.int (x1 - (5 : Int32))]) (rest := []) C.1 V_X12_255 (c_X12_inState h) ⟨rfl, rfl, Nat.le_of_ble_eq_true rfl, Nat.le_of_ble_eq_true rfl⟩ hs22  rfl rfl (Nat.le_of_ble_eq_true rfl) ⟨Nat.zero_le _, Nat.zero_le _⟩ dX12_many_98 (kp_i fun r24 M23 h9 => ?_)
                    replace h := h9
                    exact k_iret C dX12_many_101 h
                  · have h := h.2
                    by_cases e25 : x1 = 9
                    · have h := h.1 e25
                      refine k_tableIn (off := 101) C.1 102 dX12_many_1 (by rw [e25]; decide) (by rw [e25]; decide) (by rw [e25]; rfl) (by decide) ?_
                      refine k_aload_n C.1 0 rfl dX12_many_102 ?_
                      refine k_iload_n C.1 1 rfl dX12_many_103 ?_
                      refine k_bipush (v := 9) C.1 dX12_many_104 (by decide) ?_
                      refine k_isub C.1 dX12_many_106 ?_
                      obtain ⟨hs26, h⟩ := h
                      refine k_callV (As := [.int (x1 - (9 : Int32))]) (rest := []) C.1 V_X12_259 (c_X12_releaseMany h) ⟨rfl, rfl, Nat.le_of_ble_eq_true rfl, Nat.le_of_ble_eq_true rfl⟩ hs26  rfl rfl (Nat.le_of_ble_eq_true rfl) ⟨Nat.zero_le _, Nat.zero_le _⟩ dX12_many_107 (kp_i fun r28 M27 h9 => ?_)
                      replace h := h9
                      exact k_iret C dX12_many_110 h
                    · have h := h.2
                      by_cases e29 : x1 = 10
                      · have h := h.1 e29
                        refine k_tableIn (off := 101) C.1 102 dX12_many_1 (by rw [e29]; decide) (by rw [e29]; decide) (by rw [e29]; rfl) (by decide) ?_
                        refine k_aload_n C.1 0 rfl dX12_many_102 ?_
                        refine k_iload_n C.1 1 rfl dX12_many_103 ?_
                        refine k_bipush (v := 9) C.1 dX12_many_104 (by decide) ?_
                        refine k_isub C.1 dX12_many_106 ?_
                        obtain ⟨hs30, h⟩ := h
                        refine k_callV (As := [.int (x1 - (9 : Int32))]) (rest := []) C.1 V_X12_259 (c_X12_releaseMany h) ⟨rfl, rfl, Nat.le_of_ble_eq_true rfl, Nat.le_of_ble_eq_true rfl⟩ hs30  rfl rfl (Nat.le_of_ble_eq_true rfl) ⟨Nat.zero_le _, Nat.zero_le _⟩ dX12_many_107 (kp_i fun r32 M31 h9 => ?_)
                        replace h := h9
                        exact k_iret C dX12_many_110 h
                      · have h := h.2
                        by_cases e33 : x1 = 11
                        · have h := h.1 e33
                          refine k_tableIn (off := 101) C.1 102 dX12_many_1 (by rw [e33]; decide) (by rw [e33]; decide) (by rw [e33]; rfl) (by decide) ?_
                          refine k_aload_n C.1 0 rfl dX12_many_102 ?_
                          refine k_iload_n C.1 1 rfl dX12_many_103 ?_
                          refine k_bipush (v := 9) C.1 dX12_many_104 (by decide) ?_
                          refine k_isub C.1 dX12_many_106 ?_
                          obtain ⟨hs34, h⟩ := h
                          refine k_callV (As := [.int (x1 - (9 : Int32))]) (rest := []) C.1 V_X12_259 (c_X12_releaseMany h) ⟨rfl, rfl, Nat.le_of_ble_eq_true rfl, Nat.le_of_ble_eq_true rfl⟩ hs34  rfl rfl (Nat.le_of_ble_eq_true rfl) ⟨Nat.zero_le _, Nat.zero_le _⟩ dX12_many_107 (kp_i fun r36 M35 h9 => ?_)
                          replace h := h9
                          exact k_iret C dX12_many_110 h
                        · have h := h.2
                          have hd := gh_sw12 e1 e3 e5 e7 e9 e11 e13 e17 e21 e25 e29 e33
                          replace h := h hd
                          refine k_tableOut C.1 111 dX12_many_1 hd (by decide) ?_
                          refine k_iconst (v := (-1)) C.1 dX12_many_111 (by decide) ?_
                          exact k_iret C dX12_many_112 h
abbrev rm_X12_keep : Room := { frames := 1, cells := 0, slots := 0, locals := 23 }
set_option maxRecDepth 100000 in
set_option maxHeartbeats 4000000 in
theorem bb_X12_keep_183 {X : gh_X} {sh : gh_Sh} {n : Nat} {post : Int32 → gh_M → Prop} (C : gh_CR X cX12_keep RX12 2 (some .int) sh n 0 0 (gh_pi post)) (x0 : Nat) (k183 : Int32 → gh_M → Prop) (hk183 : ∀ (y1 : Int32) (M : gh_M), k183 y1 M → gh_G X rm_X12_keep 2 0 0 sh n 183 [(0, .ref x0), (1, .int y1)] [] M) (x1 : Int32) (M : gh_M) (h : wb_X12_keep_183 sh post x0 k183 x1 M) : gh_G X rm_X12_keep 2 0 0 sh n 183 [(0, .ref x0), (1, .int x1)] [] M := by
  unfold wb_X12_keep_183 at h
  refine k_iload_n C.1 1 rfl dX12_keep_183 ?_
  refine k_sipush (v := 240) C.1 dX12_keep_184 (by decide) ?_
  refine k_icmp_ge C.1 211 dX12_keep_187 (by decide) (fun c1 => ?_) (fun c1 => ?_)
  · have h := h.1 c1
    refine k_aload_n C.1 0 rfl dX12_keep_211 ?_
    obtain ⟨hs2, h⟩ := h
    obtain ⟨q3, hq3, h⟩ := h
    refine k_getR C.1 F_X12_71 dX12_keep_212 hs2 hq3 ?_
    refine k_aload_n C.1 0 rfl dX12_keep_215 ?_
    obtain ⟨q4, hq4, h⟩ := h
    refine k_getR C.1 F_X12_83 dX12_keep_216 hs2 hq4 ?_
    refine k_sipush (v := 420) C.1 dX12_keep_219 (by decide) ?_
    refine k_callS (As := [.ref q3, .ref q4, .int (420 : Int32)]) (rest := []) C.1 V_X12_170 (c_X12_copy h) ⟨rfl, rfl, Nat.le_of_ble_eq_true rfl, Nat.le_of_ble_eq_true rfl⟩  rfl rfl (Nat.le_of_ble_eq_true rfl) ⟨Nat.zero_le _, Nat.zero_le _⟩ dX12_keep_222 (kp_v fun M5 h9 => ?_)
    replace h := h9
    refine k_iconst (v := 1) C.1 dX12_keep_225 (by decide) ?_
    exact k_iret C dX12_keep_226 h
  · have h := h.2 c1
    refine k_aload_n C.1 0 rfl dX12_keep_190 ?_
    obtain ⟨hs6, h⟩ := h
    obtain ⟨q7, hq7, h⟩ := h
    refine k_getR C.1 F_X12_80 dX12_keep_191 hs6 hq7 ?_
    refine k_bipush (v := 72) C.1 dX12_keep_194 (by decide) ?_
    refine k_iload_n C.1 1 rfl dX12_keep_196 ?_
    refine k_iadd C.1 dX12_keep_197 ?_
    refine k_aload_n C.1 0 rfl dX12_keep_198 ?_
    obtain ⟨q8, hq8, h⟩ := h
    refine k_getR C.1 F_X12_46 dX12_keep_199 hs6 hq8 ?_
    refine k_iload_n C.1 1 rfl dX12_keep_202 ?_
    obtain ⟨hs9, h⟩ := h
    obtain ⟨hi10, h⟩ := h
    refine k_iald C.1 dX12_keep_203 hs9 hi10 ?_
    obtain ⟨hs12, h⟩ := h
    obtain ⟨hi11, h⟩ := h
    refine k_iast C.1 dX12_keep_204 hs12 hi11 ?_
    refine k_iinc (v := x1 + 1) (lv' := [(1, .int (x1 + 1)), (0, .ref x0)]) C.1 1 rfl dX12_keep_205 (by decide) rfl rfl ?_
    refine k_goto C.1 183 dX12_keep_208 (by decide) ?_
    refine k_sub (lv' := [(0, .ref x0), (1, .int (x1 + 1))]) [1, 0] rfl ?_
    exact hk183 (x1 + 1) (wI M q7 ((72 : Int32) + x1).toNatClampNeg (rI M q8 x1.toNatClampNeg)) h
set_option maxRecDepth 100000 in
theorem b_X12_keep_183 {X : gh_X} {sh : gh_Sh} {n : Nat} {post : Int32 → gh_M → Prop} (C : gh_CR X cX12_keep RX12 2 (some .int) sh n 0 0 (gh_pi post)) (x0 : Nat) (x1 : Int32) (M : gh_M) (h : wp_X12_keep_183 sh post x0 x1 M) : gh_G X rm_X12_keep 2 0 0 sh n 183 [(0, .ref x0), (1, .int x1)] [] M := by
  unfold wp_X12_keep_183 at h
  exact gh_loop_use h (fun v => gh_G X rm_X12_keep 2 0 0 sh n 183 [(0, .ref x0), (1, .int v.1)] [] v.2) (fun k v hk hb => bb_X12_keep_183 C x0 (fun x1 M => k (x1, M)) (fun x1 M h => hk (x1, M) h) v.1 v.2 hb)
set_option maxRecDepth 100000 in
set_option maxHeartbeats 4000000 in
theorem bb_X12_keep_127 {X : gh_X} {sh : gh_Sh} {n : Nat} {post : Int32 → gh_M → Prop} (C : gh_CR X cX12_keep RX12 2 (some .int) sh n 0 0 (gh_pi post)) (x0 : Nat) (k127 : Int32 → gh_M → Prop) (hk127 : ∀ (y1 : Int32) (M : gh_M), k127 y1 M → gh_G X rm_X12_keep 2 0 0 sh n 127 [(0, .ref x0), (1, .int y1)] [] M) (x1 : Int32) (M : gh_M) (h : wb_X12_keep_127 sh post x0 k127 x1 M) : gh_G X rm_X12_keep 2 0 0 sh n 127 [(0, .ref x0), (1, .int x1)] [] M := by
  unfold wb_X12_keep_127 at h
  refine k_iload_n C.1 1 rfl dX12_keep_127 ?_
  refine k_bipush (v := 24) C.1 dX12_keep_128 (by decide) ?_
  refine k_icmp_ge C.1 181 dX12_keep_130 (by decide) (fun c1 => ?_) (fun c1 => ?_)
  · have h := h.1 c1
    refine k_iconst (v := 0) C.1 dX12_keep_181 (by decide) ?_
    refine k_istore_n (lv' := [(1, .int (0 : Int32)), (0, .ref x0)]) C.1 dX12_keep_182 (by decide) rfl ?_
    refine k_sub (lv' := [(0, .ref x0), (1, .int (0 : Int32))]) [1, 0] rfl ?_
    exact b_X12_keep_183 C x0 (0 : Int32) M h
  · have h := h.2 c1
    refine k_aload_n C.1 0 rfl dX12_keep_133 ?_
    obtain ⟨hs2, h⟩ := h
    obtain ⟨q3, hq3, h⟩ := h
    refine k_getR C.1 F_X12_80 dX12_keep_134 hs2 hq3 ?_
    refine k_iload_n C.1 1 rfl dX12_keep_137 ?_
    refine k_aload_n C.1 0 rfl dX12_keep_138 ?_
    obtain ⟨q4, hq4, h⟩ := h
    refine k_getR C.1 F_X12_37 dX12_keep_139 hs2 hq4 ?_
    refine k_iload_n C.1 1 rfl dX12_keep_142 ?_
    obtain ⟨hs5, h⟩ := h
    obtain ⟨hi6, h⟩ := h
    refine k_iald C.1 dX12_keep_143 hs5 hi6 ?_
    obtain ⟨hs8, h⟩ := h
    obtain ⟨hi7, h⟩ := h
    refine k_iast C.1 dX12_keep_144 hs8 hi7 ?_
    refine k_aload_n C.1 0 rfl dX12_keep_145 ?_
    refine k_getR C.1 F_X12_80 dX12_keep_146 hs2 hq3 ?_
    refine k_bipush (v := 24) C.1 dX12_keep_149 (by decide) ?_
    refine k_iload_n C.1 1 rfl dX12_keep_151 ?_
    refine k_iadd C.1 dX12_keep_152 ?_
    refine k_aload_n C.1 0 rfl dX12_keep_153 ?_
    obtain ⟨q9, hq9, h⟩ := h
    refine k_getR C.1 F_X12_40 dX12_keep_154 hs2 hq9 ?_
    refine k_iload_n C.1 1 rfl dX12_keep_157 ?_
    obtain ⟨hs10, h⟩ := h
    obtain ⟨hi11, h⟩ := h
    refine k_iald C.1 dX12_keep_158 hs10 hi11 ?_
    obtain ⟨hi12, h⟩ := h
    refine k_iast C.1 dX12_keep_159 hs8 hi12 ?_
    refine k_aload_n C.1 0 rfl dX12_keep_160 ?_
    refine k_getR C.1 F_X12_80 dX12_keep_161 hs2 hq3 ?_
    refine k_bipush (v := 48) C.1 dX12_keep_164 (by decide) ?_
    refine k_iload_n C.1 1 rfl dX12_keep_166 ?_
    refine k_iadd C.1 dX12_keep_167 ?_
    refine k_aload_n C.1 0 rfl dX12_keep_168 ?_
    obtain ⟨q13, hq13, h⟩ := h
    refine k_getR C.1 F_X12_43 dX12_keep_169 hs2 hq13 ?_
    refine k_iload_n C.1 1 rfl dX12_keep_172 ?_
    obtain ⟨hs14, h⟩ := h
    obtain ⟨hi15, h⟩ := h
    refine k_iald C.1 dX12_keep_173 hs14 hi15 ?_
    generalize eM16 : wI (wI M q3 x1.toNatClampNeg (rI M q4 x1.toNatClampNeg)) q3 ((24 : Int32) + x1).toNatClampNeg (rI (wI M q3 x1.toNatClampNeg (rI M q4 x1.toNatClampNeg)) q9 x1.toNatClampNeg) = M16
    replace h := h M16 eM16.symm
    obtain ⟨hi17, h⟩ := h
    refine k_iast C.1 dX12_keep_174 hs8 hi17 ?_
    refine k_iinc (v := x1 + 1) (lv' := [(1, .int (x1 + 1)), (0, .ref x0)]) C.1 1 rfl dX12_keep_175 (by decide) rfl rfl ?_
    refine k_goto C.1 127 dX12_keep_178 (by decide) ?_
    refine k_sub (lv' := [(0, .ref x0), (1, .int (x1 + 1))]) [1, 0] rfl ?_
    exact hk127 (x1 + 1) (wI M16 q3 ((48 : Int32) + x1).toNatClampNeg (rI M16 q13 x1.toNatClampNeg)) h
set_option maxRecDepth 100000 in
theorem b_X12_keep_127 {X : gh_X} {sh : gh_Sh} {n : Nat} {post : Int32 → gh_M → Prop} (C : gh_CR X cX12_keep RX12 2 (some .int) sh n 0 0 (gh_pi post)) (x0 : Nat) (x1 : Int32) (M : gh_M) (h : wp_X12_keep_127 sh post x0 x1 M) : gh_G X rm_X12_keep 2 0 0 sh n 127 [(0, .ref x0), (1, .int x1)] [] M := by
  unfold wp_X12_keep_127 at h
  exact gh_loop_use h (fun v => gh_G X rm_X12_keep 2 0 0 sh n 127 [(0, .ref x0), (1, .int v.1)] [] v.2) (fun k v hk hb => bb_X12_keep_127 C x0 (fun x1 M => k (x1, M)) (fun x1 M h => hk (x1, M) h) v.1 v.2 hb)
set_option maxRecDepth 100000 in
set_option maxHeartbeats 4000000 in
theorem bb_X12_keep_98 {X : gh_X} {sh : gh_Sh} {n : Nat} {post : Int32 → gh_M → Prop} (C : gh_CR X cX12_keep RX12 2 (some .int) sh n 0 0 (gh_pi post)) (x0 : Nat) (k98 : Int32 → gh_M → Prop) (hk98 : ∀ (y1 : Int32) (M : gh_M), k98 y1 M → gh_G X rm_X12_keep 2 0 0 sh n 98 [(0, .ref x0), (1, .int y1)] [] M) (x1 : Int32) (M : gh_M) (h : wb_X12_keep_98 sh post x0 k98 x1 M) : gh_G X rm_X12_keep 2 0 0 sh n 98 [(0, .ref x0), (1, .int x1)] [] M := by
  unfold wb_X12_keep_98 at h
  refine k_iload_n C.1 1 rfl dX12_keep_98 ?_
  refine k_bipush (v := 64) C.1 dX12_keep_99 (by decide) ?_
  refine k_icmp_ge C.1 125 dX12_keep_101 (by decide) (fun c1 => ?_) (fun c1 => ?_)
  · have h := h.1 c1
    refine k_iconst (v := 0) C.1 dX12_keep_125 (by decide) ?_
    refine k_istore_n (lv' := [(1, .int (0 : Int32)), (0, .ref x0)]) C.1 dX12_keep_126 (by decide) rfl ?_
    refine k_sub (lv' := [(0, .ref x0), (1, .int (0 : Int32))]) [1, 0] rfl ?_
    exact b_X12_keep_127 C x0 (0 : Int32) M h
  · have h := h.2 c1
    refine k_aload_n C.1 0 rfl dX12_keep_104 ?_
    obtain ⟨hs2, h⟩ := h
    obtain ⟨q3, hq3, h⟩ := h
    refine k_getR C.1 F_X12_77 dX12_keep_105 hs2 hq3 ?_
    refine k_bipush (v := 32) C.1 dX12_keep_108 (by decide) ?_
    refine k_iload_n C.1 1 rfl dX12_keep_110 ?_
    refine k_iadd C.1 dX12_keep_111 ?_
    refine k_aload_n C.1 0 rfl dX12_keep_112 ?_
    obtain ⟨q4, hq4, h⟩ := h
    refine k_getR C.1 F_X12_19 dX12_keep_113 hs2 hq4 ?_
    refine k_iload_n C.1 1 rfl dX12_keep_116 ?_
    obtain ⟨hs5, h⟩ := h
    obtain ⟨hi6, h⟩ := h
    refine k_iald C.1 dX12_keep_117 hs5 hi6 ?_
    obtain ⟨hs8, h⟩ := h
    obtain ⟨hi7, h⟩ := h
    refine k_iast C.1 dX12_keep_118 hs8 hi7 ?_
    refine k_iinc (v := x1 + 1) (lv' := [(1, .int (x1 + 1)), (0, .ref x0)]) C.1 1 rfl dX12_keep_119 (by decide) rfl rfl ?_
    refine k_goto C.1 98 dX12_keep_122 (by decide) ?_
    refine k_sub (lv' := [(0, .ref x0), (1, .int (x1 + 1))]) [1, 0] rfl ?_
    exact hk98 (x1 + 1) (wI M q3 ((32 : Int32) + x1).toNatClampNeg (rI M q4 x1.toNatClampNeg)) h
set_option maxRecDepth 100000 in
theorem b_X12_keep_98 {X : gh_X} {sh : gh_Sh} {n : Nat} {post : Int32 → gh_M → Prop} (C : gh_CR X cX12_keep RX12 2 (some .int) sh n 0 0 (gh_pi post)) (x0 : Nat) (x1 : Int32) (M : gh_M) (h : wp_X12_keep_98 sh post x0 x1 M) : gh_G X rm_X12_keep 2 0 0 sh n 98 [(0, .ref x0), (1, .int x1)] [] M := by
  unfold wp_X12_keep_98 at h
  exact gh_loop_use h (fun v => gh_G X rm_X12_keep 2 0 0 sh n 98 [(0, .ref x0), (1, .int v.1)] [] v.2) (fun k v hk hb => bb_X12_keep_98 C x0 (fun x1 M => k (x1, M)) (fun x1 M h => hk (x1, M) h) v.1 v.2 hb)
set_option maxRecDepth 100000 in
set_option maxHeartbeats 4000000 in
theorem bb_X12_keep_27 {X : gh_X} {sh : gh_Sh} {n : Nat} {post : Int32 → gh_M → Prop} (C : gh_CR X cX12_keep RX12 2 (some .int) sh n 0 0 (gh_pi post)) (x0 : Nat) (k27 : Int32 → gh_M → Prop) (hk27 : ∀ (y1 : Int32) (M : gh_M), k27 y1 M → gh_G X rm_X12_keep 2 0 0 sh n 27 [(0, .ref x0), (1, .int y1)] [] M) (x1 : Int32) (M : gh_M) (h : wb_X12_keep_27 sh post x0 k27 x1 M) : gh_G X rm_X12_keep 2 0 0 sh n 27 [(0, .ref x0), (1, .int x1)] [] M := by
  unfold wb_X12_keep_27 at h
  refine k_iload_n C.1 1 rfl dX12_keep_27 ?_
  refine k_bipush (v := 8) C.1 dX12_keep_28 (by decide) ?_
  refine k_icmp_ge C.1 96 dX12_keep_30 (by decide) (fun c1 => ?_) (fun c1 => ?_)
  · have h := h.1 c1
    refine k_iconst (v := 0) C.1 dX12_keep_96 (by decide) ?_
    refine k_istore_n (lv' := [(1, .int (0 : Int32)), (0, .ref x0)]) C.1 dX12_keep_97 (by decide) rfl ?_
    refine k_sub (lv' := [(0, .ref x0), (1, .int (0 : Int32))]) [1, 0] rfl ?_
    exact b_X12_keep_98 C x0 (0 : Int32) M h
  · have h := h.2 c1
    refine k_aload_n C.1 0 rfl dX12_keep_33 ?_
    obtain ⟨hs2, h⟩ := h
    obtain ⟨q3, hq3, h⟩ := h
    refine k_getR C.1 F_X12_77 dX12_keep_34 hs2 hq3 ?_
    refine k_iload_n C.1 1 rfl dX12_keep_37 ?_
    refine k_aload_n C.1 0 rfl dX12_keep_38 ?_
    obtain ⟨q4, hq4, h⟩ := h
    refine k_getR C.1 F_X12_13 dX12_keep_39 hs2 hq4 ?_
    refine k_iload_n C.1 1 rfl dX12_keep_42 ?_
    obtain ⟨hs5, h⟩ := h
    obtain ⟨hi6, h⟩ := h
    refine k_iald C.1 dX12_keep_43 hs5 hi6 ?_
    obtain ⟨hs8, h⟩ := h
    obtain ⟨hi7, h⟩ := h
    refine k_iast C.1 dX12_keep_44 hs8 hi7 ?_
    refine k_aload_n C.1 0 rfl dX12_keep_45 ?_
    refine k_getR C.1 F_X12_77 dX12_keep_46 hs2 hq3 ?_
    refine k_bipush (v := 8) C.1 dX12_keep_49 (by decide) ?_
    refine k_iload_n C.1 1 rfl dX12_keep_51 ?_
    refine k_iadd C.1 dX12_keep_52 ?_
    refine k_aload_n C.1 0 rfl dX12_keep_53 ?_
    obtain ⟨q9, hq9, h⟩ := h
    refine k_getR C.1 F_X12_16 dX12_keep_54 hs2 hq9 ?_
    refine k_iload_n C.1 1 rfl dX12_keep_57 ?_
    obtain ⟨hs10, h⟩ := h
    obtain ⟨hi11, h⟩ := h
    refine k_iald C.1 dX12_keep_58 hs10 hi11 ?_
    obtain ⟨hi12, h⟩ := h
    refine k_iast C.1 dX12_keep_59 hs8 hi12 ?_
    refine k_aload_n C.1 0 rfl dX12_keep_60 ?_
    refine k_getR C.1 F_X12_77 dX12_keep_61 hs2 hq3 ?_
    refine k_bipush (v := 16) C.1 dX12_keep_64 (by decide) ?_
    refine k_iload_n C.1 1 rfl dX12_keep_66 ?_
    refine k_iadd C.1 dX12_keep_67 ?_
    refine k_aload_n C.1 0 rfl dX12_keep_68 ?_
    obtain ⟨q13, hq13, h⟩ := h
    refine k_getR C.1 F_X12_22 dX12_keep_69 hs2 hq13 ?_
    refine k_iload_n C.1 1 rfl dX12_keep_72 ?_
    obtain ⟨hs14, h⟩ := h
    obtain ⟨hi15, h⟩ := h
    refine k_iald C.1 dX12_keep_73 hs14 hi15 ?_
    generalize eM16 : wI (wI M q3 x1.toNatClampNeg (rI M q4 x1.toNatClampNeg)) q3 ((8 : Int32) + x1).toNatClampNeg (rI (wI M q3 x1.toNatClampNeg (rI M q4 x1.toNatClampNeg)) q9 x1.toNatClampNeg) = M16
    replace h := h M16 eM16.symm
    obtain ⟨hi17, h⟩ := h
    refine k_iast C.1 dX12_keep_74 hs8 hi17 ?_
    refine k_aload_n C.1 0 rfl dX12_keep_75 ?_
    obtain ⟨q18, hq18, h⟩ := h
    refine k_getR C.1 F_X12_77 dX12_keep_76 hs2 hq18 ?_
    refine k_bipush (v := 24) C.1 dX12_keep_79 (by decide) ?_
    refine k_iload_n C.1 1 rfl dX12_keep_81 ?_
    refine k_iadd C.1 dX12_keep_82 ?_
    refine k_aload_n C.1 0 rfl dX12_keep_83 ?_
    obtain ⟨q19, hq19, h⟩ := h
    refine k_getR C.1 F_X12_25 dX12_keep_84 hs2 hq19 ?_
    refine k_iload_n C.1 1 rfl dX12_keep_87 ?_
    obtain ⟨hs20, h⟩ := h
    obtain ⟨hi21, h⟩ := h
    refine k_iald C.1 dX12_keep_88 hs20 hi21 ?_
    obtain ⟨hs23, h⟩ := h
    obtain ⟨hi22, h⟩ := h
    refine k_iast C.1 dX12_keep_89 hs23 hi22 ?_
    refine k_iinc (v := x1 + 1) (lv' := [(1, .int (x1 + 1)), (0, .ref x0)]) C.1 1 rfl dX12_keep_90 (by decide) rfl rfl ?_
    refine k_goto C.1 27 dX12_keep_93 (by decide) ?_
    refine k_sub (lv' := [(0, .ref x0), (1, .int (x1 + 1))]) [1, 0] rfl ?_
    exact hk27 (x1 + 1) (wI (wI M16 q3 ((16 : Int32) + x1).toNatClampNeg (rI M16 q13 x1.toNatClampNeg)) q18 ((24 : Int32) + x1).toNatClampNeg (rI (wI M16 q3 ((16 : Int32) + x1).toNatClampNeg (rI M16 q13 x1.toNatClampNeg)) q19 x1.toNatClampNeg)) h
set_option maxRecDepth 100000 in
theorem b_X12_keep_27 {X : gh_X} {sh : gh_Sh} {n : Nat} {post : Int32 → gh_M → Prop} (C : gh_CR X cX12_keep RX12 2 (some .int) sh n 0 0 (gh_pi post)) (x0 : Nat) (x1 : Int32) (M : gh_M) (h : wp_X12_keep_27 sh post x0 x1 M) : gh_G X rm_X12_keep 2 0 0 sh n 27 [(0, .ref x0), (1, .int x1)] [] M := by
  unfold wp_X12_keep_27 at h
  exact gh_loop_use h (fun v => gh_G X rm_X12_keep 2 0 0 sh n 27 [(0, .ref x0), (1, .int v.1)] [] v.2) (fun k v hk hb => bb_X12_keep_27 C x0 (fun x1 M => k (x1, M)) (fun x1 M h => hk (x1, M) h) v.1 v.2 hb)
set_option maxRecDepth 100000 in
set_option maxHeartbeats 4000000 in
theorem c_X12_keep {l : Launch} {D : va_G} {dA : Nat → ClassId} {sh : gh_Sh} {b0 n : Nat} {M : gh_M} {x0 : Nat} {post : Int32 → gh_M → Prop} (h : wp_X12_keep sh M x0 post) : gh_Met l D dA sh b0 n yX12_keep cX12_keep 2 (some .int) rm_X12_keep M [.ref x0] (gh_pi post) := by
  refine gh_open (by decide) (Nat.le_of_ble_eq_true rfl) (fun X C => ?_)
  show gh_G X rm_X12_keep 2 0 0 sh n 0 [(0, .ref x0)] [] M
  unfold wp_X12_keep at h
  refine k_aload_n C.1 0 rfl dX12_keep_0 ?_
  refine k_iconst (v := 1) C.1 dX12_keep_1 (by decide) ?_
  obtain ⟨hs1, h⟩ := h
  refine k_putI C.1 F_X12_262 dX12_keep_2 hs1 rfl rfl ?_
  refine k_aload_n C.1 0 rfl dX12_keep_5 ?_
  obtain ⟨q2, hq2, h⟩ := h
  refine k_getR C.1 F_X12_74 dX12_keep_6 hs1 hq2 ?_
  refine k_iconst (v := 0) C.1 dX12_keep_9 (by decide) ?_
  refine k_aload_n C.1 0 rfl dX12_keep_10 ?_
  refine k_getI C.1 F_X12_132 dX12_keep_11 hs1 ?_
  obtain ⟨hs4, h⟩ := h
  obtain ⟨hi3, h⟩ := h
  refine k_iast C.1 dX12_keep_14 hs4 hi3 ?_
  refine k_aload_n C.1 0 rfl dX12_keep_15 ?_
  refine k_getR C.1 F_X12_74 dX12_keep_16 hs1 hq2 ?_
  refine k_iconst (v := 1) C.1 dX12_keep_19 (by decide) ?_
  refine k_aload_n C.1 0 rfl dX12_keep_20 ?_
  refine k_getI C.1 F_X12_207 dX12_keep_21 hs1 ?_
  generalize eM5 : wI (wI M x0 27 (1 : Int32)) q2 (0 : Int32).toNatClampNeg (rI (wI M x0 27 (1 : Int32)) x0 2) = M5
  replace h := h M5 eM5.symm
  obtain ⟨hi6, h⟩ := h
  refine k_iast C.1 dX12_keep_24 hs4 hi6 ?_
  refine k_iconst (v := 0) C.1 dX12_keep_25 (by decide) ?_
  refine k_istore_n (lv' := [(1, .int (0 : Int32)), (0, .ref x0)]) C.1 dX12_keep_26 (by decide) rfl ?_
  refine k_sub (lv' := [(0, .ref x0), (1, .int (0 : Int32))]) [1, 0] rfl ?_
  exact b_X12_keep_27 C x0 (0 : Int32) (wI M5 q2 (1 : Int32).toNatClampNeg (rI M5 x0 25)) h
