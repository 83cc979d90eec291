abbrev rm_X12_findMatch : Room := { frames := 2, cells := 0, slots := 0, locals := 50 }
set_option maxRecDepth 100000 in
set_option maxHeartbeats 4000000 in
theorem b_X12_findMatch_364 {X : gh_X} {sh : gh_Sh} {n : Nat} {post : Int32 → gh_M → Prop} (C : gh_CR X cX12_findMatch RX12 6 (some .int) sh n 0 0 (gh_pi post)) (x0 : Nat) (x2 : Int32) (s0 : Int32) (s1 : Int32) (M : gh_M) (k241 : Int32 → Int32 → gh_M → Prop) (hk241 : ∀ (y1 : Int32) (y2 : Int32) (M : gh_M), k241 y1 y2 M → gh_G X rm_X12_findMatch 6 0 0 sh n 241 [(0, .ref x0), (1, .int y1), (2, .int y2)] [] M) (h : wp_X12_findMatch_364 sh post k241 x0 x2 s0 s1 M) : gh_G X rm_X12_findMatch 6 0 0 sh n 364 [(0, .ref x0), (2, .int x2)] [.int s1, .int s0] M := by
  unfold wp_X12_findMatch_364 at h
  refine k_ior C.1 dX12_findMatch_364 ?_
  refine k_istore_n (lv' := [(1, .int (s0 ||| s1)), (0, .ref x0), (2, .int x2)]) C.1 dX12_findMatch_365 (by decide) rfl ?_
  refine k_iinc (v := x2 + 1) (lv' := [(2, .int (x2 + 1)), (1, .int (s0 ||| s1)), (0, .ref x0)]) C.1 2 rfl dX12_findMatch_366 (by decide) rfl rfl ?_
  refine k_goto C.1 241 dX12_findMatch_369 (by decide) ?_
  refine k_sub (lv' := [(0, .ref x0), (1, .int (s0 ||| s1)), (2, .int (x2 + 1))]) [2, 1, 0] rfl ?_
  exact hk241 (s0 ||| s1) (x2 + 1) M h
set_option maxRecDepth 100000 in
set_option maxHeartbeats 4000000 in
theorem b_X12_findMatch_338 {X : gh_X} {sh : gh_Sh} {n : Nat} {post : Int32 → gh_M → Prop} (C : gh_CR X cX12_findMatch RX12 6 (some .int) sh n 0 0 (gh_pi post)) (x0 : Nat) (x1 : Int32) (x2 : Int32) (x4 : Int32) (s0 : Int32) (M : gh_M) (k241 : Int32 → Int32 → gh_M → Prop) (hk241 : ∀ (y1 : Int32) (y2 : Int32) (M : gh_M), k241 y1 y2 M → gh_G X rm_X12_findMatch 6 0 0 sh n 241 [(0, .ref x0), (1, .int y1), (2, .int y2)] [] M) (k259 : Int32 → Int32 → gh_M → Prop) (hk259 : ∀ (y3 : Int32) (y4 : Int32) (M : gh_M), k259 y3 y4 M → gh_G X rm_X12_findMatch 6 0 0 sh n 259 [(0, .ref x0), (1, .int x1), (2, .int x2), (3, .int y3), (4, .int y4)] [] M) (h : wp_X12_findMatch_338 sh post k241 k259 x0 x1 x2 x4 s0 M) : gh_G X rm_X12_findMatch 6 0 0 sh n 338 [(0, .ref x0), (1, .int x1), (2, .int x2), (4, .int x4)] [.int s0] M := by
  unfold wp_X12_findMatch_338 at h
  refine k_istore_n (lv' := [(3, .int s0), (0, .ref x0), (1, .int x1), (2, .int x2), (4, .int x4)]) C.1 dX12_findMatch_338 (by decide) rfl ?_
  refine k_iinc (v := x4 + (-1)) (lv' := [(4, .int (x4 + (-1))), (3, .int s0), (0, .ref x0), (1, .int x1), (2, .int x2)]) C.1 4 rfl dX12_findMatch_339 (by decide) rfl rfl ?_
  refine k_goto C.1 259 dX12_findMatch_342 (by decide) ?_
  refine k_sub (lv' := [(0, .ref x0), (1, .int x1), (2, .int x2), (3, .int s0), (4, .int (x4 + (-1)))]) [2, 3, 4, 1, 0] rfl ?_
  exact hk259 s0 (x4 + (-1)) M h
set_option maxRecDepth 100000 in
set_option maxHeartbeats 4000000 in
theorem b_X12_findMatch_325 {X : gh_X} {sh : gh_Sh} {n : Nat} {post : Int32 → gh_M → Prop} (C : gh_CR X cX12_findMatch RX12 6 (some .int) sh n 0 0 (gh_pi post)) (x0 : Nat) (x1 : Int32) (x2 : Int32) (x3 : Int32) (x4 : Int32) (s0 : Int32) (M : gh_M) (k241 : Int32 → Int32 → gh_M → Prop) (hk241 : ∀ (y1 : Int32) (y2 : Int32) (M : gh_M), k241 y1 y2 M → gh_G X rm_X12_findMatch 6 0 0 sh n 241 [(0, .ref x0), (1, .int y1), (2, .int y2)] [] M) (k259 : Int32 → Int32 → gh_M → Prop) (hk259 : ∀ (y3 : Int32) (y4 : Int32) (M : gh_M), k259 y3 y4 M → gh_G X rm_X12_findMatch 6 0 0 sh n 259 [(0, .ref x0), (1, .int x1), (2, .int x2), (3, .int y3), (4, .int y4)] [] M) (h : wp_X12_findMatch_325 sh post k241 k259 x0 x1 x2 x3 x4 s0 M) : gh_G X rm_X12_findMatch 6 0 0 sh n 325 [(0, .ref x0), (1, .int x1), (2, .int x2), (3, .int x3), (4, .int x4)] [.int s0] M := by
  unfold wp_X12_findMatch_325 at h
  refine k_istore (lv' := [(5, .int s0), (0, .ref x0), (1, .int x1), (2, .int x2), (3, .int x3), (4, .int x4)]) C.1 dX12_findMatch_325 (by decide) rfl ?_
  refine k_iload C.1 0 rfl dX12_findMatch_327 ?_
  refine k_if_eq C.1 337 dX12_findMatch_329 (by decide) (fun c1 => ?_) (fun c1 => ?_)
  · have h := h.1 c1
    refine k_iload_n C.1 4 rfl dX12_findMatch_337 ?_
    refine k_sub (lv' := [(0, .ref x0), (1, .int x1), (2, .int x2), (4, .int x4)]) [1, 2, 3, 5] rfl ?_
    exact b_X12_findMatch_338 C x0 x1 x2 x4 x3 M k241 hk241 k259 hk259 h
  · have h := h.2 c1
    refine k_iload C.1 5 rfl dX12_findMatch_332 ?_
    refine k_goto C.1 338 dX12_findMatch_334 (by decide) ?_
    refine k_sub (lv' := [(0, .ref x0), (1, .int x1), (2, .int x2), (4, .int x4)]) [1, 2, 3, 5] rfl ?_
    exact b_X12_findMatch_338 C x0 x1 x2 x4 x4 M k241 hk241 k259 hk259 h
set_option maxRecDepth 100000 in
set_option maxHeartbeats 4000000 in
theorem b_X12_findMatch_324 {X : gh_X} {sh : gh_Sh} {n : Nat} {post : Int32 → gh_M → Prop} (C : gh_CR X cX12_findMatch RX12 6 (some .int) sh n 0 0 (gh_pi post)) (x0 : Nat) (x1 : Int32) (x2 : Int32) (x3 : Int32) (x4 : Int32) (M : gh_M) (k241 : Int32 → Int32 → gh_M → Prop) (hk241 : ∀ (y1 : Int32) (y2 : Int32) (M : gh_M), k241 y1 y2 M → gh_G X rm_X12_findMatch 6 0 0 sh n 241 [(0, .ref x0), (1, .int y1), (2, .int y2)] [] M) (k259 : Int32 → Int32 → gh_M → Prop) (hk259 : ∀ (y3 : Int32) (y4 : Int32) (M : gh_M), k259 y3 y4 M → gh_G X rm_X12_findMatch 6 0 0 sh n 259 [(0, .ref x0), (1, .int x1), (2, .int x2), (3, .int y3), (4, .int y4)] [] M) (h : wp_X12_findMatch_324 sh post k241 k259 x0 x1 x2 x3 x4 M) : gh_G X rm_X12_findMatch 6 0 0 sh n 324 [(0, .ref x0), (1, .int x1), (2, .int x2), (3, .int x3), (4, .int x4)] [] M := by
  unfold wp_X12_findMatch_324 at h
  refine k_iconst (v := 0) C.1 dX12_findMatch_324 (by decide) ?_
  exact b_X12_findMatch_325 C x0 x1 x2 x3 x4 (0 : Int32) M k241 hk241 k259 hk259 h
set_option maxRecDepth 100000 in
set_option maxHeartbeats 4000000 in
theorem bb_X12_findMatch_259 {X : gh_X} {sh : gh_Sh} {n : Nat} {post : Int32 → gh_M → Prop} (C : gh_CR X cX12_findMatch RX12 6 (some .int) sh n 0 0 (gh_pi post)) (x0 : Nat) (x1 : Int32) (x2 : Int32) (k241 : Int32 → Int32 → gh_M → Prop) (hk241 : ∀ (y1 : Int32) (y2 : Int32) (M : gh_M), k241 y1 y2 M → gh_G X rm_X12_findMatch 6 0 0 sh n 241 [(0, .ref x0), (1, .int y1), (2, .int y2)] [] M) (k259 : Int32 → Int32 → gh_M → Prop) (hk259 : ∀ (y3 : Int32) (y4 : Int32) (M : gh_M), k259 y3 y4 M → gh_G X rm_X12_findMatch 6 0 0 sh n 259 [(0, .ref x0), (1, .int x1), (2, .int x2), (3, .int y3), (4, .int y4)] [] M) (x3 : Int32) (x4 : Int32) (M : gh_M) (h : wb_X12_findMatch_259 sh post k241 x0 x1 x2 k259 x3 x4 M) : gh_G X rm_X12_findMatch 6 0 0 sh n 259 [(0, .ref x0), (1, .int x1), (2, .int x2), (3, .int x3), (4, .int x4)] [] M := by
  unfold wb_X12_findMatch_259 at h
  refine k_iload C.1 4 rfl dX12_findMatch_259 ?_
  refine k_if_lt C.1 345 dX12_findMatch_261 (by decide) (fun c1 => ?_) (fun c1 => ?_)
  · have h := h.1 c1
    refine k_aload_n C.1 0 rfl dX12_findMatch_345 ?_
    obtain ⟨hs2, h⟩ := h
    obtain ⟨q3, hq3, h⟩ := h
    refine k_getR C.1 F_X12_98 dX12_findMatch_346 hs2 hq3 ?_
    refine k_iload_n C.1 2 rfl dX12_findMatch_349 ?_
    refine k_iload_n C.1 3 rfl dX12_findMatch_350 ?_
    obtain ⟨hs5, h⟩ := h
    obtain ⟨hi4, h⟩ := h
    refine k_iast C.1 dX12_findMatch_351 hs5 hi4 ?_
    refine k_iload_n C.1 1 rfl dX12_findMatch_352 ?_
    refine k_iload_n C.1 3 rfl dX12_findMatch_353 ?_
    refine k_if_ge C.1 361 dX12_findMatch_354 (by decide) (fun c6 => ?_) (fun c6 => ?_)
    · have h := h.1 c6
      refine k_iconst (v := 1) C.1 dX12_findMatch_361 (by decide) ?_
      refine k_iload_n C.1 3 rfl dX12_findMatch_362 ?_
      refine k_ishl C.1 dX12_findMatch_363 ?_
      refine k_sub (lv' := [(0, .ref x0), (2, .int x2)]) [0, 2] rfl ?_
      exact b_X12_findMatch_364 C x0 x2 x1 ((1 : Int32) <<< (x3 &&& 31)) (wI M q3 x2.toNatClampNeg x3) k241 hk241 h
    · have h := h.2 c6
      refine k_iconst (v := 0) C.1 dX12_findMatch_357 (by decide) ?_
      refine k_goto C.1 364 dX12_findMatch_358 (by decide) ?_
      refine k_sub (lv' := [(0, .ref x0), (2, .int x2)]) [0, 2] rfl ?_
      exact b_X12_findMatch_364 C x0 x2 x1 (0 : Int32) (wI M q3 x2.toNatClampNeg x3) k241 hk241 h
  · have h := h.2 c1
    refine k_iload_n C.1 1 rfl dX12_findMatch_264 ?_
    refine k_iload C.1 4 rfl dX12_findMatch_265 ?_
    refine k_ishr C.1 dX12_findMatch_267 ?_
    refine k_iconst (v := 1) C.1 dX12_findMatch_268 (by decide) ?_
    refine k_iand C.1 dX12_findMatch_269 ?_
    refine k_if_ne C.1 324 dX12_findMatch_270 (by decide) (fun c7 => ?_) (fun c7 => ?_)
    · have h := h.2 c7
      exact b_X12_findMatch_324 C x0 x1 x2 x3 x4 M k241 hk241 k259 hk259 h
    · have h := h.1 c7
      refine k_aload_n C.1 0 rfl dX12_findMatch_273 ?_
      obtain ⟨hs8, h⟩ := h
      obtain ⟨q9, hq9, h⟩ := h
      refine k_getR C.1 F_X12_92 dX12_findMatch_274 hs8 hq9 ?_
      refine k_bipush (v := 8) C.1 dX12_findMatch_277 (by decide) ?_
      refine k_iload_n C.1 2 rfl dX12_findMatch_279 ?_
      refine k_imul C.1 dX12_findMatch_280 ?_
      refine k_iload C.1 4 rfl dX12_findMatch_281 ?_
      refine k_iadd C.1 dX12_findMatch_283 ?_
      obtain ⟨hs10, h⟩ := h
      obtain ⟨hi11, h⟩ := h
      refine k_iald C.1 dX12_findMatch_284 hs10 hi11 ?_
      refine k_aload_n C.1 0 rfl dX12_findMatch_285 ?_
      obtain ⟨q12, hq12, h⟩ := h
      refine k_getR C.1 F_X12_95 dX12_findMatch_286 hs8 hq12 ?_
      refine k_sipush (v := 256) C.1 dX12_findMatch_289 (by decide) ?_
      refine k_iload_n C.1 2 rfl dX12_findMatch_292 ?_
      refine k_iconst (v := 1) C.1 dX12_findMatch_293 (by decide) ?_
      refine k_iadd C.1 dX12_findMatch_294 ?_
      refine k_imul C.1 dX12_findMatch_295 ?_
      refine k_iload_n C.1 1 rfl dX12_findMatch_296 ?_
      refine k_iconst (v := 1) C.1 dX12_findMatch_297 (by decide) ?_
      refine k_iload C.1 4 rfl dX12_findMatch_298 ?_
      refine k_ishl C.1 dX12_findMatch_300 ?_
      refine k_ior C.1 dX12_findMatch_301 ?_
      refine k_iadd C.1 dX12_findMatch_302 ?_
      obtain ⟨hs13, h⟩ := h
      obtain ⟨hi14, h⟩ := h
      refine k_iald C.1 dX12_findMatch_303 hs13 hi14 ?_
      refine k_iadd C.1 dX12_findMatch_304 ?_
      refine k_aload_n C.1 0 rfl dX12_findMatch_305 ?_
      refine k_getR C.1 F_X12_95 dX12_findMatch_306 hs8 hq12 ?_
      refine k_sipush (v := 256) C.1 dX12_findMatch_309 (by decide) ?_
      refine k_iload_n C.1 2 rfl dX12_findMatch_312 ?_
      refine k_imul C.1 dX12_findMatch_313 ?_
      refine k_iload_n C.1 1 rfl dX12_findMatch_314 ?_
      refine k_iadd C.1 dX12_findMatch_315 ?_
      obtain ⟨hi15, h⟩ := h
      refine k_iald C.1 dX12_findMatch_316 hs13 hi15 ?_
      refine k_icmp_ne C.1 324 dX12_findMatch_317 (by decide) (fun c16 => ?_) (fun c16 => ?_)
      · have h := h.2 c16
        exact b_X12_findMatch_324 C x0 x1 x2 x3 x4 M k241 hk241 k259 hk259 h
      · have h := h.1 c16
        refine k_iconst (v := 1) C.1 dX12_findMatch_320 (by decide) ?_
        refine k_goto C.1 325 dX12_findMatch_321 (by decide) ?_
        exact b_X12_findMatch_325 C x0 x1 x2 x3 x4 (1 : Int32) M k241 hk241 k259 hk259 h
set_option maxRecDepth 100000 in
theorem b_X12_findMatch_259 {X : gh_X} {sh : gh_Sh} {n : Nat} {post : Int32 → gh_M → Prop} (C : gh_CR X cX12_findMatch RX12 6 (some .int) sh n 0 0 (gh_pi post)) (x0 : Nat) (x1 : Int32) (x2 : Int32) (x3 : Int32) (x4 : Int32) (M : gh_M) (k241 : Int32 → Int32 → gh_M → Prop) (hk241 : ∀ (y1 : Int32) (y2 : Int32) (M : gh_M), k241 y1 y2 M → gh_G X rm_X12_findMatch 6 0 0 sh n 241 [(0, .ref x0), (1, .int y1), (2, .int y2)] [] M) (h : wp_X12_findMatch_259 sh post k241 x0 x1 x2 x3 x4 M) : gh_G X rm_X12_findMatch 6 0 0 sh n 259 [(0, .ref x0), (1, .int x1), (2, .int x2), (3, .int x3), (4, .int x4)] [] M := by
  unfold wp_X12_findMatch_259 at h
  exact gh_loop_use h (fun v => gh_G X rm_X12_findMatch 6 0 0 sh n 259 [(0, .ref x0), (1, .int x1), (2, .int x2), (3, .int v.1), (4, .int v.2.1)] [] v.2.2) (fun k v hk hb => bb_X12_findMatch_259 C x0 x1 x2 k241 hk241 (fun x3 x4 M => k (x3, x4, M)) (fun x3 x4 M h => hk (x3, x4, M) h) v.1 v.2.1 v.2.2 hb)
set_option maxRecDepth 100000 in
set_option maxHeartbeats 4000000 in
theorem bb_X12_findMatch_241 {X : gh_X} {sh : gh_Sh} {n : Nat} {post : Int32 → gh_M → Prop} (C : gh_CR X cX12_findMatch RX12 6 (some .int) sh n 0 0 (gh_pi post)) (x0 : Nat) (k241 : Int32 → Int32 → gh_M → Prop) (hk241 : ∀ (y1 : Int32) (y2 : Int32) (M : gh_M), k241 y1 y2 M → gh_G X rm_X12_findMatch 6 0 0 sh n 241 [(0, .ref x0), (1, .int y1), (2, .int y2)] [] M) (x1 : Int32) (x2 : Int32) (M : gh_M) (h : wb_X12_findMatch_241 sh post x0 k241 x1 x2 M) : gh_G X rm_X12_findMatch 6 0 0 sh n 241 [(0, .ref x0), (1, .int x1), (2, .int x2)] [] M := by
  unfold wb_X12_findMatch_241 at h
  refine k_iload_n C.1 2 rfl dX12_findMatch_241 ?_
  refine k_aload_n C.1 0 rfl dX12_findMatch_242 ?_
  obtain ⟨hs1, h⟩ := h
  refine k_getI C.1 F_X12_155 dX12_findMatch_243 hs1 ?_
  refine k_icmp_ge C.1 372 dX12_findMatch_246 (by decide) (fun c2 => ?_) (fun c2 => ?_)
  · have h := h.1 c2
    refine k_aload_n C.1 0 rfl dX12_findMatch_372 ?_
    obtain ⟨q3, hq3, h⟩ := h
    refine k_getR C.1 F_X12_95 dX12_findMatch_373 hs1 hq3 ?_
    refine k_iconst (v := 0) C.1 dX12_findMatch_376 (by decide) ?_
    obtain ⟨hs4, h⟩ := h
    obtain ⟨hi5, h⟩ := h
    refine k_iald C.1 dX12_findMatch_377 hs4 hi5 ?_
    exact k_iret C dX12_findMatch_378 h
  · have h := h.2 c2
    refine k_iconst (v := (-1)) C.1 dX12_findMatch_249 (by decide) ?_
    refine k_istore_n (lv' := [(3, .int (-1 : Int32)), (0, .ref x0), (1, .int x1), (2, .int x2)]) C.1 dX12_findMatch_250 (by decide) rfl ?_
    refine k_aload_n C.1 1 rfl dX12_findMatch_251 ?_
    refine k_getI C.1 F_X12_132 dX12_findMatch_252 hs1 ?_
    refine k_iconst (v := 1) C.1 dX12_findMatch_255 (by decide) ?_
    refine k_isub C.1 dX12_findMatch_256 ?_
    refine k_istore (lv' := [(4, .int ((rI M x0 2) - (1 : Int32))), (3, .int (-1 : Int32)), (0, .ref x0), (1, .int x1), (2, .int x2)]) C.1 dX12_findMatch_257 (by decide) rfl ?_
    refine k_sub (lv' := [(0, .ref x0), (1, .int x1), (2, .int x2), (3, .int (-1 : Int32)), (4, .int ((rI M x0 2) - (1 : Int32)))]) [2, 3, 4, 1, 0] rfl ?_
    exact b_X12_findMatch_259 C x0 x1 x2 (-1 : Int32) ((rI M x0 2) - (1 : Int32)) M k241 hk241 h
set_option maxRecDepth 100000 in
theorem b_X12_findMatch_241 {X : gh_X} {sh : gh_Sh} {n : Nat} {post : Int32 → gh_M → Prop} (C : gh_CR X cX12_findMatch RX12 6 (some .int) sh n 0 0 (gh_pi post)) (x0 : Nat) (x1 : Int32) (x2 : Int32) (M : gh_M) (h : wp_X12_findMatch_241 sh post x0 x1 x2 M) : gh_G X rm_X12_findMatch 6 0 0 sh n 241 [(0, .ref x0), (1, .int x1), (2, .int x2)] [] M := by
  unfold wp_X12_findMatch_241 at h
  exact gh_loop_use h (fun v => gh_G X rm_X12_findMatch 6 0 0 sh n 241 [(0, .ref x0), (1, .int v.1), (2, .int v.2.1)] [] v.2.2) (fun k v hk hb => bb_X12_findMatch_241 C x0 (fun x1 x2 M => k (x1, x2, M)) (fun x1 x2 M h => hk (x1, x2, M) h) v.1 v.2.1 v.2.2 hb)
set_option maxRecDepth 100000 in
set_option maxHeartbeats 4000000 in
theorem b_X12_findMatch_206 {X : gh_X} {sh : gh_Sh} {n : Nat} {post : Int32 → gh_M → Prop} (C : gh_CR X cX12_findMatch RX12 6 (some .int) sh n 0 0 (gh_pi post)) (x0 : Nat) (x1 : Int32) (x2 : Int32) (x3 : Int32) (x4 : Int32) (M : gh_M) (k113 : Int32 → gh_M → Prop) (hk113 : ∀ (y1 : Int32) (M : gh_M), k113 y1 M → gh_G X rm_X12_findMatch 6 0 0 sh n 113 [(0, .ref x0), (1, .int y1)] [] M) (k119 : Int32 → gh_M → Prop) (hk119 : ∀ (y2 : Int32) (M : gh_M), k119 y2 M → gh_G X rm_X12_findMatch 6 0 0 sh n 119 [(0, .ref x0), (1, .int x1), (2, .int y2)] [] M) (k151 : Int32 → Int32 → gh_M → Prop) (hk151 : ∀ (y3 : Int32) (y4 : Int32) (M : gh_M), k151 y3 y4 M → gh_G X rm_X12_findMatch 6 0 0 sh n 151 [(0, .ref x0), (1, .int x1), (2, .int x2), (3, .int y3), (4, .int y4)] [] M) (h : wp_X12_findMatch_206 sh post k113 k119 k151 x0 x1 x2 x3 x4 M) : gh_G X rm_X12_findMatch 6 0 0 sh n 206 [(0, .ref x0), (1, .int x1), (2, .int x2), (3, .int x3), (4, .int x4)] [] M := by
  unfold wp_X12_findMatch_206 at h
  refine k_iinc (v := x4 + 1) (lv' := [(4, .int (x4 + 1)), (0, .ref x0), (1, .int x1), (2, .int x2), (3, .int x3)]) C.1 4 rfl dX12_findMatch_206 (by decide) rfl rfl ?_
  refine k_goto C.1 151 dX12_findMatch_209 (by decide) ?_
  refine k_sub (lv' := [(0, .ref x0), (1, .int x1), (2, .int x2), (3, .int x3), (4, .int (x4 + 1))]) [1, 2, 3, 4, 0] rfl ?_
  exact hk151 x3 (x4 + 1) M h
set_option maxRecDepth 100000 in
set_option maxHeartbeats 4000000 in
theorem bb_X12_findMatch_151 {X : gh_X} {sh : gh_Sh} {n : Nat} {post : Int32 → gh_M → Prop} (C : gh_CR X cX12_findMatch RX12 6 (some .int) sh n 0 0 (gh_pi post)) (x0 : Nat) (x1 : Int32) (x2 : Int32) (k113 : Int32 → gh_M → Prop) (hk113 : ∀ (y1 : Int32) (M : gh_M), k113 y1 M → gh_G X rm_X12_findMatch 6 0 0 sh n 113 [(0, .ref x0), (1, .int y1)] [] M) (k119 : Int32 → gh_M → Prop) (hk119 : ∀ (y2 : Int32) (M : gh_M), k119 y2 M → gh_G X rm_X12_findMatch 6 0 0 sh n 119 [(0, .ref x0), (1, .int x1), (2, .int y2)] [] M) (k151 : Int32 → Int32 → gh_M → Prop) (hk151 : ∀ (y3 : Int32) (y4 : Int32) (M : gh_M), k151 y3 y4 M → gh_G X rm_X12_findMatch 6 0 0 sh n 151 [(0, .ref x0), (1, .int x1), (2, .int x2), (3, .int y3), (4, .int y4)] [] M) (x3 : Int32) (x4 : Int32) (M : gh_M) (h : wb_X12_findMatch_151 sh post k113 k119 x0 x1 x2 k151 x3 x4 M) : gh_G X rm_X12_findMatch 6 0 0 sh n 151 [(0, .ref x0), (1, .int x1), (2, .int x2), (3, .int x3), (4, .int x4)] [] M := by
  unfold wb_X12_findMatch_151 at h
  refine k_iload C.1 4 rfl dX12_findMatch_151 ?_
  refine k_aload_n C.1 0 rfl dX12_findMatch_153 ?_
  obtain ⟨hs1, h⟩ := h
  refine k_getI C.1 F_X12_132 dX12_findMatch_154 hs1 ?_
  refine k_icmp_ge C.1 212 dX12_findMatch_157 (by decide) (fun c2 => ?_) (fun c2 => ?_)
  · have h := h.1 c2
    refine k_aload_n C.1 0 rfl dX12_findMatch_212 ?_
    obtain ⟨q3, hq3, h⟩ := h
    refine k_getR C.1 F_X12_95 dX12_findMatch_213 hs1 hq3 ?_
    refine k_sipush (v := 256) C.1 dX12_findMatch_216 (by decide) ?_
    refine k_iload_n C.1 1 rfl dX12_findMatch_219 ?_
    refine k_imul C.1 dX12_findMatch_220 ?_
    refine k_iload_n C.1 2 rfl dX12_findMatch_221 ?_
    refine k_iadd C.1 dX12_findMatch_222 ?_
    refine k_iload_n C.1 3 rfl dX12_findMatch_223 ?_
    obtain ⟨hs5, h⟩ := h
    obtain ⟨hi4, h⟩ := h
    refine k_iast C.1 dX12_findMatch_224 hs5 hi4 ?_
    refine k_iinc (v := x2 + 1) (lv' := [(2, .int (x2 + 1)), (0, .ref x0), (1, .int x1), (3, .int x3), (4, .int x4)]) C.1 2 rfl dX12_findMatch_225 (by decide) rfl rfl ?_
    refine k_goto C.1 119 dX12_findMatch_228 (by decide) ?_
    refine k_sub (lv' := [(0, .ref x0), (1, .int x1), (2, .int (x2 + 1))]) [1, 2, 0] rfl ?_
    exact hk119 (x2 + 1) (wI M q3 (((256 : Int32) * x1) + x2).toNatClampNeg x3) h
  · have h := h.2 c2
    refine k_iload_n C.1 2 rfl dX12_findMatch_160 ?_
    refine k_iload C.1 4 rfl dX12_findMatch_161 ?_
    refine k_ishr C.1 dX12_findMatch_163 ?_
    refine k_iconst (v := 1) C.1 dX12_findMatch_164 (by decide) ?_
    refine k_iand C.1 dX12_findMatch_165 ?_
    refine k_if_ne C.1 206 dX12_findMatch_166 (by decide) (fun c6 => ?_) (fun c6 => ?_)
    · have h := h.2 c6
      exact b_X12_findMatch_206 C x0 x1 x2 x3 x4 M k113 hk113 k119 hk119 k151 hk151 h
    · have h := h.1 c6
      refine k_iload_n C.1 3 rfl dX12_findMatch_169 ?_
      refine k_aload_n C.1 0 rfl dX12_findMatch_170 ?_
      obtain ⟨q7, hq7, h⟩ := h
      refine k_getR C.1 F_X12_92 dX12_findMatch_171 hs1 hq7 ?_
      refine k_bipush (v := 8) C.1 dX12_findMatch_174 (by decide) ?_
      refine k_iload_n C.1 1 rfl dX12_findMatch_176 ?_
      refine k_imul C.1 dX12_findMatch_177 ?_
      refine k_iload C.1 4 rfl dX12_findMatch_178 ?_
      refine k_iadd C.1 dX12_findMatch_180 ?_
      obtain ⟨hs8, h⟩ := h
      obtain ⟨hi9, h⟩ := h
      refine k_iald C.1 dX12_findMatch_181 hs8 hi9 ?_
      refine k_aload_n C.1 0 rfl dX12_findMatch_182 ?_
      obtain ⟨q10, hq10, h⟩ := h
      refine k_getR C.1 F_X12_95 dX12_findMatch_183 hs1 hq10 ?_
      refine k_sipush (v := 256) C.1 dX12_findMatch_186 (by decide) ?_
      refine k_iload_n C.1 1 rfl dX12_findMatch_189 ?_
      refine k_iconst (v := 1) C.1 dX12_findMatch_190 (by decide) ?_
      refine k_iadd C.1 dX12_findMatch_191 ?_
      refine k_imul C.1 dX12_findMatch_192 ?_
      refine k_iload_n C.1 2 rfl dX12_findMatch_193 ?_
      refine k_iconst (v := 1) C.1 dX12_findMatch_194 (by decide) ?_
      refine k_iload C.1 4 rfl dX12_findMatch_195 ?_
      refine k_ishl C.1 dX12_findMatch_197 ?_
      refine k_ior C.1 dX12_findMatch_198 ?_
      refine k_iadd C.1 dX12_findMatch_199 ?_
      obtain ⟨hs11, h⟩ := h
      obtain ⟨hi12, h⟩ := h
      refine k_iald C.1 dX12_findMatch_200 hs11 hi12 ?_
      refine k_iadd C.1 dX12_findMatch_201 ?_
      refine k_callS (As := [.int x3, .int ((rI M q7 (((8 : Int32) * x1) + x4).toNatClampNeg) + (rI M q10 (((256 : Int32) * (x1 + (1 : Int32))) + (x2 ||| ((1 : Int32) <<< (x4 &&& 31)))).toNatClampNeg))]) (rest := []) C.1 V_X12_158 (c_X12_least h) ⟨rfl, rfl, Nat.le_of_ble_eq_true rfl, Nat.le_of_ble_eq_true rfl⟩  rfl rfl (Nat.le_of_ble_eq_true rfl) ⟨Nat.zero_le _, Nat.zero_le _⟩ dX12_findMatch_202 (kp_i fun r14 M13 h9 => ?_)
      replace h := h9
      refine k_istore_n (lv' := [(3, .int r14), (0, .ref x0), (1, .int x1), (2, .int x2), (4, .int x4)]) C.1 dX12_findMatch_205 (by decide) rfl ?_
      refine k_sub (lv' := [(0, .ref x0), (1, .int x1), (2, .int x2), (3, .int r14), (4, .int x4)]) [1, 2, 3, 0, 4] rfl ?_
      exact b_X12_findMatch_206 C x0 x1 x2 r14 x4 M13 k113 hk113 k119 hk119 k151 hk151 h
set_option maxRecDepth 100000 in
theorem b_X12_findMatch_151 {X : gh_X} {sh : gh_Sh} {n : Nat} {post : Int32 → gh_M → Prop} (C : gh_CR X cX12_findMatch RX12 6 (some .int) sh n 0 0 (gh_pi post)) (x0 : Nat) (x1 : Int32) (x2 : Int32) (x3 : Int32) (x4 : Int32) (M : gh_M) (k113 : Int32 → gh_M → Prop) (hk113 : ∀ (y1 : Int32) (M : gh_M), k113 y1 M → gh_G X rm_X12_findMatch 6 0 0 sh n 113 [(0, .ref x0), (1, .int y1)] [] M) (k119 : Int32 → gh_M → Prop) (hk119 : ∀ (y2 : Int32) (M : gh_M), k119 y2 M → gh_G X rm_X12_findMatch 6 0 0 sh n 119 [(0, .ref x0), (1, .int x1), (2, .int y2)] [] M) (h : wp_X12_findMatch_151 sh post k113 k119 x0 x1 x2 x3 x4 M) : gh_G X rm_X12_findMatch 6 0 0 sh n 151 [(0, .ref x0), (1, .int x1), (2, .int x2), (3, .int x3), (4, .int x4)] [] M := by
  unfold wp_X12_findMatch_151 at h
  exact gh_loop_use h (fun v => gh_G X rm_X12_findMatch 6 0 0 sh n 151 [(0, .ref x0), (1, .int x1), (2, .int x2), (3, .int v.1), (4, .int v.2.1)] [] v.2.2) (fun k v hk hb => bb_X12_findMatch_151 C x0 x1 x2 k113 hk113 k119 hk119 (fun x3 x4 M => k (x3, x4, M)) (fun x3 x4 M h => hk (x3, x4, M) h) v.1 v.2.1 v.2.2 hb)
set_option maxRecDepth 100000 in
set_option maxHeartbeats 4000000 in
theorem bb_X12_findMatch_119 {X : gh_X} {sh : gh_Sh} {n : Nat} {post : Int32 → gh_M → Prop} (C : gh_CR X cX12_findMatch RX12 6 (some .int) sh n 0 0 (gh_pi post)) (x0 : Nat) (x1 : Int32) (k113 : Int32 → gh_M → Prop) (hk113 : ∀ (y1 : Int32) (M : gh_M), k113 y1 M → gh_G X rm_X12_findMatch 6 0 0 sh n 113 [(0, .ref x0), (1, .int y1)] [] M) (k119 : Int32 → gh_M → Prop) (hk119 : ∀ (y2 : Int32) (M : gh_M), k119 y2 M → gh_G X rm_X12_findMatch 6 0 0 sh n 119 [(0, .ref x0), (1, .int x1), (2, .int y2)] [] M) (x2 : Int32) (M : gh_M) (h : wb_X12_findMatch_119 sh post k113 x0 x1 k119 x2 M) : gh_G X rm_X12_findMatch 6 0 0 sh n 119 [(0, .ref x0), (1, .int x1), (2, .int x2)] [] M := by
  unfold wb_X12_findMatch_119 at h
  refine k_iload_n C.1 2 rfl dX12_findMatch_119 ?_
  refine k_sipush (v := 256) C.1 dX12_findMatch_120 (by decide) ?_
  refine k_icmp_ge C.1 231 dX12_findMatch_123 (by decide) (fun c1 => ?_) (fun c1 => ?_)
  · have h := h.1 c1
    refine k_iinc (v := x1 + (-1)) (lv' := [(1, .int (x1 + (-1))), (0, .ref x0), (2, .int x2)]) C.1 1 rfl dX12_findMatch_231 (by decide) rfl rfl ?_
    refine k_goto C.1 113 dX12_findMatch_234 (by decide) ?_
    refine k_sub (lv' := [(0, .ref x0), (1, .int (x1 + (-1)))]) [1, 0] rfl ?_
    exact hk113 (x1 + (-1)) M h
  · have h := h.2 c1
    refine k_aload_n C.1 0 rfl dX12_findMatch_126 ?_
    obtain ⟨hs2, h⟩ := h
    obtain ⟨q3, hq3, h⟩ := h
    refine k_getR C.1 F_X12_31 dX12_findMatch_127 hs2 hq3 ?_
    refine k_iload_n C.1 1 rfl dX12_findMatch_130 ?_
    obtain ⟨hs4, h⟩ := h
    obtain ⟨hi5, h⟩ := h
    refine k_iald C.1 dX12_findMatch_131 hs4 hi5 ?_
    refine k_aload_n C.1 0 rfl dX12_findMatch_132 ?_
    obtain ⟨q6, hq6, h⟩ := h
    refine k_getR C.1 F_X12_95 dX12_findMatch_133 hs2 hq6 ?_
    refine k_sipush (v := 256) C.1 dX12_findMatch_136 (by decide) ?_
    refine k_iload_n C.1 1 rfl dX12_findMatch_139 ?_
    refine k_iconst (v := 1) C.1 dX12_findMatch_140 (by decide) ?_
    refine k_iadd C.1 dX12_findMatch_141 ?_
    refine k_imul C.1 dX12_findMatch_142 ?_
    refine k_iload_n C.1 2 rfl dX12_findMatch_143 ?_
    refine k_iadd C.1 dX12_findMatch_144 ?_
    obtain ⟨hs7, h⟩ := h
    obtain ⟨hi8, h⟩ := h
    refine k_iald C.1 dX12_findMatch_145 hs7 hi8 ?_
    refine k_iadd C.1 dX12_findMatch_146 ?_
    refine k_istore_n (lv' := [(3, .int ((rI M q3 x1.toNatClampNeg) + (rI M q6 (((256 : Int32) * (x1 + (1 : Int32))) + x2).toNatClampNeg))), (0, .ref x0), (1, .int x1), (2, .int x2)]) C.1 dX12_findMatch_147 (by decide) rfl ?_
    refine k_iconst (v := 0) C.1 dX12_findMatch_148 (by decide) ?_
    refine k_istore (lv' := [(4, .int (0 : Int32)), (3, .int ((rI M q3 x1.toNatClampNeg) + (rI M q6 (((256 : Int32) * (x1 + (1 : Int32))) + x2).toNatClampNeg))), (0, .ref x0), (1, .int x1), (2, .int x2)]) C.1 dX12_findMatch_149 (by decide) rfl ?_
    refine k_sub (lv' := [(0, .ref x0), (1, .int x1), (2, .int x2), (3, .int ((rI M q3 x1.toNatClampNeg) + (rI M q6 (((256 : Int32) * (x1 + (1 : Int32))) + x2).toNatClampNeg))), (4, .int (0 : Int32))]) [2, 3, 4, 1, 0] rfl ?_
    exact b_X12_findMatch_151 C x0 x1 x2 ((rI M q3 x1.toNatClampNeg) + (rI M q6 (((256 : Int32) * (x1 + (1 : Int32))) + x2).toNatClampNeg)) (0 : Int32) M k113 hk113 k119 hk119 h
set_option maxRecDepth 100000 in
theorem b_X12_findMatch_119 {X : gh_X} {sh : gh_Sh} {n : Nat} {post : Int32 → gh_M → Prop} (C : gh_CR X cX12_findMatch RX12 6 (some .int) sh n 0 0 (gh_pi post)) (x0 : Nat) (x1 : Int32) (x2 : Int32) (M : gh_M) (k113 : Int32 → gh_M → Prop) (hk113 : ∀ (y1 : Int32) (M : gh_M), k113 y1 M → gh_G X rm_X12_findMatch 6 0 0 sh n 113 [(0, .ref x0), (1, .int y1)] [] M) (h : wp_X12_findMatch_119 sh post k113 x0 x1 x2 M) : gh_G X rm_X12_findMatch 6 0 0 sh n 119 [(0, .ref x0), (1, .int x1), (2, .int x2)] [] M := by
  unfold wp_X12_findMatch_119 at h
  exact gh_loop_use h (fun v => gh_G X rm_X12_findMatch 6 0 0 sh n 119 [(0, .ref x0), (1, .int x1), (2, .int v.1)] [] v.2) (fun k v hk hb => bb_X12_findMatch_119 C x0 x1 k113 hk113 (fun x2 M => k (x2, M)) (fun x2 M h => hk (x2, M) h) v.1 v.2 hb)
set_option maxRecDepth 100000 in
set_option maxHeartbeats 4000000 in
theorem bb_X12_findMatch_113 {X : gh_X} {sh : gh_Sh} {n : Nat} {post : Int32 → gh_M → Prop} (C : gh_CR X cX12_findMatch RX12 6 (some .int) sh n 0 0 (gh_pi post)) (x0 : Nat) (k113 : Int32 → gh_M → Prop) (hk113 : ∀ (y1 : Int32) (M : gh_M), k113 y1 M → gh_G X rm_X12_findMatch 6 0 0 sh n 113 [(0, .ref x0), (1, .int y1)] [] M) (x1 : Int32) (M : gh_M) (h : wb_X12_findMatch_113 sh post x0 k113 x1 M) : gh_G X rm_X12_findMatch 6 0 0 sh n 113 [(0, .ref x0), (1, .int x1)] [] M := by
  unfold wb_X12_findMatch_113 at h
  refine k_iload_n C.1 1 rfl dX12_findMatch_113 ?_
  refine k_if_lt C.1 237 dX12_findMatch_114 (by decide) (fun c1 => ?_) (fun c1 => ?_)
  · have h := h.1 c1
    refine k_iconst (v := 0) C.1 dX12_findMatch_237 (by decide) ?_
    refine k_istore_n (lv' := [(1, .int (0 : Int32)), (0, .ref x0)]) C.1 dX12_findMatch_238 (by decide) rfl ?_
    refine k_iconst (v := 0) C.1 dX12_findMatch_239 (by decide) ?_
    refine k_istore_n (lv' := [(2, .int (0 : Int32)), (1, .int (0 : Int32)), (0, .ref x0)]) C.1 dX12_findMatch_240 (by decide) rfl ?_
    refine k_sub (lv' := [(0, .ref x0), (1, .int (0 : Int32)), (2, .int (0 : Int32))]) [2, 1, 0] rfl ?_
    exact b_X12_findMatch_241 C x0 (0 : Int32) (0 : Int32) M h
  · have h := h.2 c1
    refine k_iconst (v := 0) C.1 dX12_findMatch_117 (by decide) ?_
    refine k_istore_n (lv' := [(2, .int (0 : Int32)), (0, .ref x0), (1, .int x1)]) C.1 dX12_findMatch_118 (by decide) rfl ?_
    refine k_sub (lv' := [(0, .ref x0), (1, .int x1), (2, .int (0 : Int32))]) [1, 2, 0] rfl ?_
    exact b_X12_findMatch_119 C x0 x1 (0 : Int32) M k113 hk113 h
set_option maxRecDepth 100000 in
theorem b_X12_findMatch_113 {X : gh_X} {sh : gh_Sh} {n : Nat} {post : Int32 → gh_M → Prop} (C : gh_CR X cX12_findMatch RX12 6 (some .int) sh n 0 0 (gh_pi post)) (x0 : Nat) (x1 : Int32) (M : gh_M) (h : wp_X12_findMatch_113 sh post x0 x1 M) : gh_G X rm_X12_findMatch 6 0 0 sh n 113 [(0, .ref x0), (1, .int x1)] [] M := by
  unfold wp_X12_findMatch_113 at h
  exact gh_loop_use h (fun v => gh_G X rm_X12_findMatch 6 0 0 sh n 113 [(0, .ref x0), (1, .int v.1)] [] v.2) (fun k v hk hb => bb_X12_findMatch_113 C x0 (fun x1 M => k (x1, M)) (fun x1 M h => hk (x1, M) h) v.1 v.2 hb)
set_option maxRecDepth 100000 in
set_option maxHeartbeats 4000000 in
theorem bb_X12_findMatch_77 {X : gh_X} {sh : gh_Sh} {n : Nat} {post : Int32 → gh_M → Prop} (C : gh_CR X cX12_findMatch RX12 6 (some .int) sh n 0 0 (gh_pi post)) (x0 : Nat) (k77 : Int32 → gh_M → Prop) (hk77 : ∀ (y1 : Int32) (M : gh_M), k77 y1 M → gh_G X rm_X12_findMatch 6 0 0 sh n 77 [(0, .ref x0), (1, .int y1)] [] M) (x1 : Int32) (M : gh_M) (h : wb_X12_findMatch_77 sh post x0 k77 x1 M) : gh_G X rm_X12_findMatch 6 0 0 sh n 77 [(0, .ref x0), (1, .int x1)] [] M := by
  unfold wb_X12_findMatch_77 at h
  refine k_iload_n C.1 1 rfl dX12_findMatch_77 ?_
  refine k_sipush (v := 256) C.1 dX12_findMatch_78 (by decide) ?_
  refine k_icmp_ge C.1 106 dX12_findMatch_81 (by decide) (fun c1 => ?_) (fun c1 => ?_)
  · have h := h.1 c1
    refine k_aload_n C.1 0 rfl dX12_findMatch_106 ?_
    obtain ⟨hs2, h⟩ := h
    refine k_getI C.1 F_X12_155 dX12_findMatch_107 hs2 ?_
    refine k_iconst (v := 1) C.1 dX12_findMatch_110 (by decide) ?_
    refine k_isub C.1 dX12_findMatch_111 ?_
    refine k_istore_n (lv' := [(1, .int ((rI M x0 8) - (1 : Int32))), (0, .ref x0)]) C.1 dX12_findMatch_112 (by decide) rfl ?_
    refine k_sub (lv' := [(0, .ref x0), (1, .int ((rI M x0 8) - (1 : Int32)))]) [1, 0] rfl ?_
    exact b_X12_findMatch_113 C x0 ((rI M x0 8) - (1 : Int32)) M h
  · have h := h.2 c1
    refine k_aload_n C.1 0 rfl dX12_findMatch_84 ?_
    obtain ⟨hs3, h⟩ := h
    obtain ⟨q4, hq4, h⟩ := h
    refine k_getR C.1 F_X12_95 dX12_findMatch_85 hs3 hq4 ?_
    refine k_sipush (v := 256) C.1 dX12_findMatch_88 (by decide) ?_
    refine k_aload_n C.1 0 rfl dX12_findMatch_91 ?_
    refine k_getI C.1 F_X12_155 dX12_findMatch_92 hs3 ?_
    refine k_imul C.1 dX12_findMatch_95 ?_
    refine k_iload_n C.1 1 rfl dX12_findMatch_96 ?_
    refine k_iadd C.1 dX12_findMatch_97 ?_
    refine k_iconst (v := 0) C.1 dX12_findMatch_98 (by decide) ?_
    obtain ⟨hs6, h⟩ := h
    obtain ⟨hi5, h⟩ := h
    refine k_iast C.1 dX12_findMatch_99 hs6 hi5 ?_
    refine k_iinc (v := x1 + 1) (lv' := [(1, .int (x1 + 1)), (0, .ref x0)]) C.1 1 rfl dX12_findMatch_100 (by decide) rfl rfl ?_
    refine k_goto C.1 77 dX12_findMatch_103 (by decide) ?_
    refine k_sub (lv' := [(0, .ref x0), (1, .int (x1 + 1))]) [1, 0] rfl ?_
    exact hk77 (x1 + 1) (wI M q4 (((256 : Int32) * (rI M x0 8)) + x1).toNatClampNeg (0 : Int32)) h
set_option maxRecDepth 100000 in
theorem b_X12_findMatch_77 {X : gh_X} {sh : gh_Sh} {n : Nat} {post : Int32 → gh_M → Prop} (C : gh_CR X cX12_findMatch RX12 6 (some .int) sh n 0 0 (gh_pi post)) (x0 : Nat) (x1 : Int32) (M : gh_M) (h : wp_X12_findMatch_77 sh post x0 x1 M) : gh_G X rm_X12_findMatch 6 0 0 sh n 77 [(0, .ref x0), (1, .int x1)] [] M := by
  unfold wp_X12_findMatch_77 at h
  exact gh_loop_use h (fun v => gh_G X rm_X12_findMatch 6 0 0 sh n 77 [(0, .ref x0), (1, .int v.1)] [] v.2) (fun k v hk hb => bb_X12_findMatch_77 C x0 (fun x1 M => k (x1, M)) (fun x1 M h => hk (x1, M) h) v.1 v.2 hb)
set_option maxRecDepth 100000 in
set_option maxHeartbeats 4000000 in
theorem bb_X12_findMatch_12 {X : gh_X} {sh : gh_Sh} {n : Nat} {post : Int32 → gh_M → Prop} (C : gh_CR X cX12_findMatch RX12 6 (some .int) sh n 0 0 (gh_pi post)) (x0 : Nat) (x1 : Int32) (k2 : Int32 → gh_M → Prop) (hk2 : ∀ (y1 : Int32) (M : gh_M), k2 y1 M → gh_G X rm_X12_findMatch 6 0 0 sh n 2 [(0, .ref x0), (1, .int y1)] [] M) (k12 : Int32 → gh_M → Prop) (hk12 : ∀ (y2 : Int32) (M : gh_M), k12 y2 M → gh_G X rm_X12_findMatch 6 0 0 sh n 12 [(0, .ref x0), (1, .int x1), (2, .int y2)] [] M) (x2 : Int32) (M : gh_M) (h : wb_X12_findMatch_12 sh post k2 x0 x1 k12 x2 M) : gh_G X rm_X12_findMatch 6 0 0 sh n 12 [(0, .ref x0), (1, .int x1), (2, .int x2)] [] M := by
  unfold wb_X12_findMatch_12 at h
  refine k_iload_n C.1 2 rfl dX12_findMatch_12 ?_
  refine k_aload_n C.1 0 rfl dX12_findMatch_13 ?_
  obtain ⟨hs1, h⟩ := h
  refine k_getI C.1 F_X12_132 dX12_findMatch_14 hs1 ?_
  refine k_icmp_ge C.1 69 dX12_findMatch_17 (by decide) (fun c2 => ?_) (fun c2 => ?_)
  · have h := h.1 c2
    refine k_iinc (v := x1 + 1) (lv' := [(1, .int (x1 + 1)), (0, .ref x0), (2, .int x2)]) C.1 1 rfl dX12_findMatch_69 (by decide) rfl rfl ?_
    refine k_goto C.1 2 dX12_findMatch_72 (by decide) ?_
    refine k_sub (lv' := [(0, .ref x0), (1, .int (x1 + 1))]) [1, 0] rfl ?_
    exact hk2 (x1 + 1) M h
  · have h := h.2 c2
    refine k_aload_n C.1 0 rfl dX12_findMatch_20 ?_
    obtain ⟨q3, hq3, h⟩ := h
    refine k_getR C.1 F_X12_92 dX12_findMatch_21 hs1 hq3 ?_
    refine k_bipush (v := 8) C.1 dX12_findMatch_24 (by decide) ?_
    refine k_iload_n C.1 1 rfl dX12_findMatch_26 ?_
    refine k_imul C.1 dX12_findMatch_27 ?_
    refine k_iload_n C.1 2 rfl dX12_findMatch_28 ?_
    refine k_iadd C.1 dX12_findMatch_29 ?_
    refine k_aload_n C.1 0 rfl dX12_findMatch_30 ?_
    refine k_aload_n C.1 0 rfl dX12_findMatch_31 ?_
    obtain ⟨q4, hq4, h⟩ := h
    refine k_getR C.1 F_X12_34 dX12_findMatch_32 hs1 hq4 ?_
    refine k_bipush (v := 8) C.1 dX12_findMatch_35 (by decide) ?_
    refine k_iload_n C.1 1 rfl dX12_findMatch_37 ?_
    refine k_imul C.1 dX12_findMatch_38 ?_
    refine k_aload_n C.1 0 rfl dX12_findMatch_39 ?_
    obtain ⟨q5, hq5, h⟩ := h
    refine k_getR C.1 F_X12_31 dX12_findMatch_40 hs1 hq5 ?_
    refine k_iload_n C.1 1 rfl dX12_findMatch_43 ?_
    obtain ⟨hs6, h⟩ := h
    obtain ⟨hi7, h⟩ := h
    refine k_iald C.1 dX12_findMatch_44 hs6 hi7 ?_
    refine k_aload_n C.1 0 rfl dX12_findMatch_45 ?_
    obtain ⟨q8, hq8, h⟩ := h
    refine k_getR C.1 F_X12_19 dX12_findMatch_46 hs1 hq8 ?_
    refine k_bipush (v := 8) C.1 dX12_findMatch_49 (by decide) ?_
    refine k_iload_n C.1 2 rfl dX12_findMatch_51 ?_
    refine k_imul C.1 dX12_findMatch_52 ?_
    refine k_aload_n C.1 0 rfl dX12_findMatch_53 ?_
    obtain ⟨q9, hq9, h⟩ := h
    refine k_getR C.1 F_X12_16 dX12_findMatch_54 hs1 hq9 ?_
    refine k_iload_n C.1 2 rfl dX12_findMatch_57 ?_
    obtain ⟨hs10, h⟩ := h
    obtain ⟨hi11, h⟩ := h
    refine k_iald C.1 dX12_findMatch_58 hs10 hi11 ?_
    refine k_callV (As := [.ref q4, .int ((8 : Int32) * x1), .int (rI M q5 x1.toNatClampNeg), .ref q8, .int ((8 : Int32) * x2), .int (rI M q9 x2.toNatClampNeg)]) (rest := [.int (((8 : Int32) * x1) + x2), .ref q3]) C.1 V_X12_162 (c_X12_apart h) ⟨rfl, rfl, Nat.le_of_ble_eq_true rfl, Nat.le_of_ble_eq_true rfl⟩ hs1  rfl rfl (Nat.le_of_ble_eq_true rfl) ⟨Nat.zero_le _, Nat.zero_le _⟩ dX12_findMatch_59 (kp_i fun r13 M12 h9 => ?_)
    replace h := h9
    obtain ⟨hs15, h⟩ := h
    obtain ⟨hi14, h⟩ := h
    refine k_iast C.1 dX12_findMatch_62 hs15 hi14 ?_
    refine k_iinc (v := x2 + 1) (lv' := [(2, .int (x2 + 1)), (0, .ref x0), (1, .int x1)]) C.1 2 rfl dX12_findMatch_63 (by decide) rfl rfl ?_
    refine k_goto C.1 12 dX12_findMatch_66 (by decide) ?_
    refine k_sub (lv' := [(0, .ref x0), (1, .int x1), (2, .int (x2 + 1))]) [1, 2, 0] rfl ?_
    exact hk12 (x2 + 1) (wI M12 q3 (((8 : Int32) * x1) + x2).toNatClampNeg r13) h
set_option maxRecDepth 100000 in
theorem b_X12_findMatch_12 {X : gh_X} {sh : gh_Sh} {n : Nat} {post : Int32 → gh_M → Prop} (C : gh_CR X cX12_findMatch RX12 6 (some .int) sh n 0 0 (gh_pi post)) (x0 : Nat) (x1 : Int32) (x2 : Int32) (M : gh_M) (k2 : Int32 → gh_M → Prop) (hk2 : ∀ (y1 : Int32) (M : gh_M), k2 y1 M → gh_G X rm_X12_findMatch 6 0 0 sh n 2 [(0, .ref x0), (1, .int y1)] [] M) (h : wp_X12_findMatch_12 sh post k2 x0 x1 x2 M) : gh_G X rm_X12_findMatch 6 0 0 sh n 12 [(0, .ref x0), (1, .int x1), (2, .int x2)] [] M := by
  unfold wp_X12_findMatch_12 at h
  exact gh_loop_use h (fun v => gh_G X rm_X12_findMatch 6 0 0 sh n 12 [(0, .ref x0), (1, .int x1), (2, .int v.1)] [] v.2) (fun k v hk hb => bb_X12_findMatch_12 C x0 x1 k2 hk2 (fun x2 M => k (x2, M)) (fun x2 M h => hk (x2, M) h) v.1 v.2 hb)
set_option maxRecDepth 100000 in
set_option maxHeartbeats 4000000 in
theorem bb_X12_findMatch_2 {X : gh_X} {sh : gh_Sh} {n : Nat} {post : Int32 → gh_M → Prop} (C : gh_CR X cX12_findMatch RX12 6 (some .int) sh n 0 0 (gh_pi post)) (x0 : Nat) (k2 : Int32 → gh_M → Prop) (hk2 : ∀ (y1 : Int32) (M : gh_M), k2 y1 M → gh_G X rm_X12_findMatch 6 0 0 sh n 2 [(0, .ref x0), (1, .int y1)] [] M) (x1 : Int32) (M : gh_M) (h : wb_X12_findMatch_2 sh post x0 k2 x1 M) : gh_G X rm_X12_findMatch 6 0 0 sh n 2 [(0, .ref x0), (1, .int x1)] [] M := by
  unfold wb_X12_findMatch_2 at h
  refine k_iload_n C.1 1 rfl dX12_findMatch_2 ?_
  refine k_aload_n C.1 0 rfl dX12_findMatch_3 ?_
  obtain ⟨hs1, h⟩ := h
  refine k_getI C.1 F_X12_155 dX12_findMatch_4 hs1 ?_
  refine k_icmp_ge C.1 75 dX12_findMatch_7 (by decide) (fun c2 => ?_) (fun c2 => ?_)
  · have h := h.1 c2
    refine k_iconst (v := 0) C.1 dX12_findMatch_75 (by decide) ?_
    refine k_istore_n (lv' := [(1, .int (0 : Int32)), (0, .ref x0)]) C.1 dX12_findMatch_76 (by decide) rfl ?_
    refine k_sub (lv' := [(0, .ref x0), (1, .int (0 : Int32))]) [1, 0] rfl ?_
    exact b_X12_findMatch_77 C x0 (0 : Int32) M h
  · have h := h.2 c2
    refine k_iconst (v := 0) C.1 dX12_findMatch_10 (by decide) ?_
    refine k_istore_n (lv' := [(2, .int (0 : Int32)), (0, .ref x0), (1, .int x1)]) C.1 dX12_findMatch_11 (by decide) rfl ?_
    refine k_sub (lv' := [(0, .ref x0), (1, .int x1), (2, .int (0 : Int32))]) [1, 2, 0] rfl ?_
    exact b_X12_findMatch_12 C x0 x1 (0 : Int32) M k2 hk2 h
set_option maxRecDepth 100000 in
theorem b_X12_findMatch_2 {X : gh_X} {sh : gh_Sh} {n : Nat} {post : Int32 → gh_M → Prop} (C : gh_CR X cX12_findMatch RX12 6 (some .int) sh n 0 0 (gh_pi post)) (x0 : Nat) (x1 : Int32) (M : gh_M) (h : wp_X12_findMatch_2 sh post x0 x1 M) : gh_G X rm_X12_findMatch 6 0 0 sh n 2 [(0, .ref x0), (1, .int x1)] [] M := by
  unfold wp_X12_findMatch_2 at h
  exact gh_loop_use h (fun v => gh_G X rm_X12_findMatch 6 0 0 sh n 2 [(0, .ref x0), (1, .int v.1)] [] v.2) (fun k v hk hb => bb_X12_findMatch_2 C x0 (fun x1 M => k (x1, M)) (fun x1 M h => hk (x1, M) h) v.1 v.2 hb)
set_option maxRecDepth 100000 in
set_option maxHeartbeats 4000000 in
theorem c_X12_findMatch {l : Launch} {D : va_G} {dA : Nat → ClassId} {sh : gh_Sh} {b0 n : Nat} {M : gh_M} {x0 : Nat} {post : Int32 → gh_M → Prop} (h : wp_X12_findMatch sh M x0 post) : gh_Met l D dA sh b0 n yX12_findMatch cX12_findMatch 6 (some .int) rm_X12_findMatch M [.ref x0] (gh_pi post) := by
  refine gh_open (by decide) (Nat.le_of_ble_eq_true rfl) (fun X C => ?_)
  show gh_G X rm_X12_findMatch 6 0 0 sh n 0 [(0, .ref x0)] [] M
  unfold wp_X12_findMatch at h
  refine k_iconst (v := 0) C.1 dX12_findMatch_0 (by decide) ?_
  refine k_istore_n (lv' := [(1, .int (0 : Int32)), (0, .ref x0)]) C.1 dX12_findMatch_1 (by decide) rfl ?_
  refine k_sub (lv' := [(0, .ref x0), (1, .int (0 : Int32))]) [1, 0] rfl ?_
  exact b_X12_findMatch_2 C x0 (0 : Int32) M h
abbrev rm_X12_copy : Room := { frames := 0, cells := 0, slots := 0, locals := 0 }
set_option maxRecDepth 100000 in
set_option maxHeartbeats 4000000 in
theorem bb_X12_copy_2 {X : gh_X} {sh : gh_Sh} {n : Nat} {post : gh_M → Prop} (C : gh_CR X cX12_copy RX12 4 none sh n 0 0 (gh_pv post)) (x0 : Nat) (x1 : Nat) (x2 : Int32) (k2 : Int32 → gh_M → Prop) (hk2 : ∀ (y3 : Int32) (M : gh_M), k2 y3 M → gh_G X rm_X12_copy 4 0 0 sh n 2 [(0, .ref x0), (1, .ref x1), (2, .int x2), (3, .int y3)] [] M) (x3 : Int32) (M : gh_M) (h : wb_X12_copy_2 sh post x0 x1 x2 k2 x3 M) : gh_G X rm_X12_copy 4 0 0 sh n 2 [(0, .ref x0), (1, .ref x1), (2, .int x2), (3, .int x3)] [] M := by
  unfold wb_X12_copy_2 at h
  refine k_iload_n C.1 3 rfl dX12_copy_2 ?_
  refine k_iload_n C.1 2 rfl dX12_copy_3 ?_
  refine k_icmp_ge C.1 19 dX12_copy_4 (by decide) (fun c1 => ?_) (fun c1 => ?_)
  · have h := h.1 c1
    exact k_vret C dX12_copy_19 h
  · have h := h.2 c1
    refine k_aload_n C.1 1 rfl dX12_copy_7 ?_
    refine k_iload_n C.1 3 rfl dX12_copy_8 ?_
    refine k_aload_n C.1 0 rfl dX12_copy_9 ?_
    refine k_iload_n C.1 3 rfl dX12_copy_10 ?_
    obtain ⟨hs2, h⟩ := h
    obtain ⟨hi3, h⟩ := h
    refine k_iald C.1 dX12_copy_11 hs2 hi3 ?_
    obtain ⟨hs5, h⟩ := h
    obtain ⟨hi4, h⟩ := h
    refine k_iast C.1 dX12_copy_12 hs5 hi4 ?_
    refine k_iinc (v := x3 + 1) (lv' := [(3, .int (x3 + 1)), (0, .ref x0), (1, .ref x1), (2, .int x2)]) C.1 3 rfl dX12_copy_13 (by decide) rfl rfl ?_
    refine k_goto C.1 2 dX12_copy_16 (by decide) ?_
    refine k_sub (lv' := [(0, .ref x0), (1, .ref x1), (2, .int x2), (3, .int (x3 + 1))]) [1, 2, 3, 0] rfl ?_
    exact hk2 (x3 + 1) (wI M x1 x3.toNatClampNeg (rI M x0 x3.toNatClampNeg)) h
set_option maxRecDepth 100000 in
theorem b_X12_copy_2 {X : gh_X} {sh : gh_Sh} {n : Nat} {post : gh_M → Prop} (C : gh_CR X cX12_copy RX12 4 none sh n 0 0 (gh_pv post)) (x0 : Nat) (x1 : Nat) (x2 : Int32) (x3 : Int32) (M : gh_M) (h : wp_X12_copy_2 sh post x0 x1 x2 x3 M) : gh_G X rm_X12_copy 4 0 0 sh n 2 [(0, .ref x0), (1, .ref x1), (2, .int x2), (3, .int x3)] [] M := by
  unfold wp_X12_copy_2 at h
  exact gh_loop_use h (fun v => gh_G X rm_X12_copy 4 0 0 sh n 2 [(0, .ref x0), (1, .ref x1), (2, .int x2), (3, .int v.1)] [] v.2) (fun k v hk hb => bb_X12_copy_2 C x0 x1 x2 (fun x3 M => k (x3, M)) (fun x3 M h => hk (x3, M) h) v.1 v.2 hb)
set_option maxRecDepth 100000 in
set_option maxHeartbeats 4000000 in
theorem c_X12_copy {l : Launch} {D : va_G} {dA : Nat → ClassId} {sh : gh_Sh} {b0 n : Nat} {M : gh_M} {x0 : Nat} {x1 : Nat} {x2 : Int32} {post : gh_M → Prop} (h : wp_X12_copy sh M x0 x1 x2 post) : gh_Met l D dA sh b0 n yX12_copy cX12_copy 4 none rm_X12_copy M [.ref x0, .ref x1, .int x2] (gh_pv post) := by
  refine gh_open (by decide) (Nat.le_of_ble_eq_true rfl) (fun X C => ?_)
  show gh_G X rm_X12_copy 4 0 0 sh n 0 [(0, .ref x0), (1, .ref x1), (2, .int x2)] [] M
  unfold wp_X12_copy at h
  refine k_iconst (v := 0) C.1 dX12_copy_0 (by decide) ?_
  refine k_istore_n (lv' := [(3, .int (0 : Int32)), (0, .ref x0), (1, .ref x1), (2, .int x2)]) C.1 dX12_copy_1 (by decide) rfl ?_
  refine k_sub (lv' := [(0, .ref x0), (1, .ref x1), (2, .int x2), (3, .int (0 : Int32))]) [1, 2, 3, 0] rfl ?_
  exact b_X12_copy_2 C x0 x1 x2 (0 : Int32) M h
abbrev rm_X12_takeOver : Room := { frames := 0, cells := 0, slots := 0, locals := 0 }
set_option maxRecDepth 100000 in
set_option maxHeartbeats 4000000 in
theorem bb_X12_takeOver_88 {X : gh_X} {sh : gh_Sh} {n : Nat} {post : gh_M → Prop} (C : gh_CR X cX12_takeOver RX12 8 none sh n 0 0 (gh_pv post)) (x0 : Nat) (x1 : Int32) (x2 : Int32) (x3 : Int32) (x4 : Int32) (x5 : Int32) (x6 : Int32) (k3 : Int32 → gh_M → Prop) (hk3 : ∀ (y4 : Int32) (M : gh_M), k3 y4 M → gh_G X rm_X12_takeOver 8 0 0 sh n 3 [(0, .ref x0), (1, .int x1), (2, .int x2), (3, .int x3), (4, .int y4)] [] M) (k88 : Int32 → gh_M → Prop) (hk88 : ∀ (y7 : Int32) (M : gh_M), k88 y7 M → gh_G X rm_X12_takeOver 8 0 0 sh n 88 [(0, .ref x0), (1, .int x1), (2, .int x2), (3, .int x3), (4, .int x4), (5, .int x5), (6, .int x6), (7, .int y7)] [] M) (x7 : Int32) (M : gh_M) (h : wb_X12_takeOver_88 sh post k3 x0 x1 x2 x3 x4 x5 x6 k88 x7 M) : gh_G X rm_X12_takeOver 8 0 0 sh n 88 [(0, .ref x0), (1, .int x1), (2, .int x2), (3, .int x3), (4, .int x4), (5, .int x5), (6, .int x6), (7, .int x7)] [] M := by
  unfold wb_X12_takeOver_88 at h
  refine k_iload C.1 7 rfl dX12_takeOver_88 ?_
  refine k_bipush (v := 10) C.1 dX12_takeOver_90 (by decide) ?_
  refine k_icmp_ge C.1 127 dX12_takeOver_92 (by decide) (fun c1 => ?_) (fun c1 => ?_)
  · have h := h.1 c1
    refine k_iinc (v := x4 + 1) (lv' := [(4, .int (x4 + 1)), (0, .ref x0), (1, .int x1), (2, .int x2), (3, .int x3), (5, .int x5), (6, .int x6), (7, .int x7)]) C.1 4 rfl dX12_takeOver_127 (by decide) rfl rfl ?_
    refine k_goto C.1 3 dX12_takeOver_130 (by decide) ?_
    refine k_sub (lv' := [(0, .ref x0), (1, .int x1), (2, .int x2), (3, .int x3), (4, .int (x4 + 1))]) [1, 2, 3, 4, 0] rfl ?_
    exact hk3 (x4 + 1) M h
  · have h := h.2 c1
    refine k_aload_n C.1 0 rfl dX12_takeOver_95 ?_
    obtain ⟨hs2, h⟩ := h
    obtain ⟨q3, hq3, h⟩ := h
    refine k_getR C.1 F_X12_46 dX12_takeOver_96 hs2 hq3 ?_
    refine k_bipush (v := 10) C.1 dX12_takeOver_99 (by decide) ?_
    refine k_iload C.1 5 rfl dX12_takeOver_101 ?_
    refine k_imul C.1 dX12_takeOver_103 ?_
    refine k_iload C.1 7 rfl dX12_takeOver_104 ?_
    refine k_iadd C.1 dX12_takeOver_106 ?_
    refine k_aload_n C.1 0 rfl dX12_takeOver_107 ?_
    obtain ⟨q4, hq4, h⟩ := h
    refine k_getR C.1 F_X12_110 dX12_takeOver_108 hs2 hq4 ?_
    refine k_bipush (v := 10) C.1 dX12_takeOver_111 (by decide) ?_
    refine k_iload C.1 6 rfl dX12_takeOver_113 ?_
    refine k_imul C.1 dX12_takeOver_115 ?_
    refine k_iload C.1 7 rfl dX12_takeOver_116 ?_
    refine k_iadd C.1 dX12_takeOver_118 ?_
    obtain ⟨hs5, h⟩ := h
    obtain ⟨hi6, h⟩ := h
    refine k_iald C.1 dX12_takeOver_119 hs5 hi6 ?_
    obtain ⟨hs8, h⟩ := h
    obtain ⟨hi7, h⟩ := h
    refine k_iast C.1 dX12_takeOver_120 hs8 hi7 ?_
    refine k_iinc (v := x7 + 1) (lv' := [(7, .int (x7 + 1)), (0, .ref x0), (1, .int x1), (2, .int x2), (3, .int x3), (4, .int x4), (5, .int x5), (6, .int x6)]) C.1 7 rfl dX12_takeOver_121 (by decide) rfl rfl ?_
    refine k_goto C.1 88 dX12_takeOver_124 (by decide) ?_
    refine k_sub (lv' := [(0, .ref x0), (1, .int x1), (2, .int x2), (3, .int x3), (4, .int x4), (5, .int x5), (6, .int x6), (7, .int (x7 + 1))]) [1, 2, 3, 4, 5, 6, 7, 0] rfl ?_
    exact hk88 (x7 + 1) (wI M q3 (((10 : Int32) * x5) + x7).toNatClampNeg (rI M q4 (((10 : Int32) * x6) + x7).toNatClampNeg)) h
set_option maxRecDepth 100000 in
theorem b_X12_takeOver_88 {X : gh_X} {sh : gh_Sh} {n : Nat} {post : gh_M → Prop} (C : gh_CR X cX12_takeOver RX12 8 none sh n 0 0 (gh_pv post)) (x0 : Nat) (x1 : Int32) (x2 : Int32) (x3 : Int32) (x4 : Int32) (x5 : Int32) (x6 : Int32) (x7 : Int32) (M : gh_M) (k3 : Int32 → gh_M → Prop) (hk3 : ∀ (y4 : Int32) (M : gh_M), k3 y4 M → gh_G X rm_X12_takeOver 8 0 0 sh n 3 [(0, .ref x0), (1, .int x1), (2, .int x2), (3, .int x3), (4, .int y4)] [] M) (h : wp_X12_takeOver_88 sh post k3 x0 x1 x2 x3 x4 x5 x6 x7 M) : gh_G X rm_X12_takeOver 8 0 0 sh n 88 [(0, .ref x0), (1, .int x1), (2, .int x2), (3, .int x3), (4, .int x4), (5, .int x5), (6, .int x6), (7, .int x7)] [] M := by
  unfold wp_X12_takeOver_88 at h
  exact gh_loop_use h (fun v => gh_G X rm_X12_takeOver 8 0 0 sh n 88 [(0, .ref x0), (1, .int x1), (2, .int x2), (3, .int x3), (4, .int x4), (5, .int x5), (6, .int x6), (7, .int v.1)] [] v.2) (fun k v hk hb => bb_X12_takeOver_88 C x0 x1 x2 x3 x4 x5 x6 k3 hk3 (fun x7 M => k (x7, M)) (fun x7 M h => hk (x7, M) h) v.1 v.2 hb)
set_option maxRecDepth 100000 in
set_option maxHeartbeats 4000000 in
theorem b_X12_takeOver_56 {X : gh_X} {sh : gh_Sh} {n : Nat} {post : gh_M → Prop} (C : gh_CR X cX12_takeOver RX12 8 none sh n 0 0 (gh_pv post)) (x0 : Nat) (x1 : Int32) (x2 : Int32) (x3 : Int32) (x4 : Int32) (x5 : Int32) (x6 : Int32) (s0 : Nat) (s1 : Int32) (s2 : Int32) (M : gh_M) (k3 : Int32 → gh_M → Prop) (hk3 : ∀ (y4 : Int32) (M : gh_M), k3 y4 M → gh_G X rm_X12_takeOver 8 0 0 sh n 3 [(0, .ref x0), (1, .int x1), (2, .int x2), (3, .int x3), (4, .int y4)] [] M) (h : wp_X12_takeOver_56 sh post k3 x0 x1 x2 x3 x4 x5 x6 s0 s1 s2 M) : gh_G X rm_X12_takeOver 8 0 0 sh n 56 [(0, .ref x0), (1, .int x1), (2, .int x2), (3, .int x3), (4, .int x4), (5, .int x5), (6, .int x6)] [.int s2, .int s1, .ref s0] M := by
  unfold wp_X12_takeOver_56 at h
  obtain ⟨hs2, h⟩ := h
  obtain ⟨hi1, h⟩ := h
  refine k_iast C.1 dX12_takeOver_56 hs2 hi1 ?_
  refine k_aload_n C.1 0 rfl dX12_takeOver_57 ?_
  obtain ⟨hs3, h⟩ := h
  obtain ⟨q4, hq4, h⟩ := h
  refine k_getR C.1 F_X12_40 dX12_takeOver_58 hs3 hq4 ?_
  refine k_iload C.1 5 rfl dX12_takeOver_61 ?_
  refine k_aload_n C.1 0 rfl dX12_takeOver_63 ?_
  obtain ⟨q5, hq5, h⟩ := h
  refine k_getR C.1 F_X12_104 dX12_takeOver_64 hs3 hq5 ?_
  refine k_iload C.1 6 rfl dX12_takeOver_67 ?_
  obtain ⟨hs6, h⟩ := h
  obtain ⟨hi7, h⟩ := h
  refine k_iald C.1 dX12_takeOver_69 hs6 hi7 ?_
  obtain ⟨hs9, h⟩ := h
  obtain ⟨hi8, h⟩ := h
  refine k_iast C.1 dX12_takeOver_70 hs9 hi8 ?_
  refine k_aload_n C.1 0 rfl dX12_takeOver_71 ?_
  obtain ⟨q10, hq10, h⟩ := h
  refine k_getR C.1 F_X12_43 dX12_takeOver_72 hs3 hq10 ?_
  refine k_iload C.1 5 rfl dX12_takeOver_75 ?_
  refine k_aload_n C.1 0 rfl dX12_takeOver_77 ?_
  obtain ⟨q11, hq11, h⟩ := h
  refine k_getR C.1 F_X12_107 dX12_takeOver_78 hs3 hq11 ?_
  refine k_iload C.1 6 rfl dX12_takeOver_81 ?_
  obtain ⟨hs12, h⟩ := h
  obtain ⟨hi13, h⟩ := h
  refine k_iald C.1 dX12_takeOver_83 hs12 hi13 ?_
  generalize eM14 : wI (wI M s0 s1.toNatClampNeg s2) q4 x5.toNatClampNeg (rI (wI M s0 s1.toNatClampNeg s2) q5 x6.toNatClampNeg) = M14
  replace h := h M14 eM14.symm
  obtain ⟨hs16, h⟩ := h
  obtain ⟨hi15, h⟩ := h
  refine k_iast C.1 dX12_takeOver_84 hs16 hi15 ?_
  refine k_iconst (v := 0) C.1 dX12_takeOver_85 (by decide) ?_
  refine k_istore (lv' := [(7, .int (0 : Int32)), (0, .ref x0), (1, .int x1), (2, .int x2), (3, .int x3), (4, .int x4), (5, .int x5), (6, .int x6)]) C.1 dX12_takeOver_86 (by decide) rfl ?_
  refine k_sub (lv' := [(0, .ref x0), (1, .int x1), (2, .int x2), (3, .int x3), (4, .int x4), (5, .int x5), (6, .int x6), (7, .int (0 : Int32))]) [1, 2, 3, 4, 5, 6, 7, 0] rfl ?_
  exact b_X12_takeOver_88 C x0 x1 x2 x3 x4 x5 x6 (0 : Int32) (wI M14 q10 x5.toNatClampNeg (rI M14 q11 x6.toNatClampNeg)) k3 hk3 h
set_option maxRecDepth 100000 in
set_option maxHeartbeats 4000000 in
theorem b_X12_takeOver_49 {X : gh_X} {sh : gh_Sh} {n : Nat} {post : gh_M → Prop} (C : gh_CR X cX12_takeOver RX12 8 none sh n 0 0 (gh_pv post)) (x0 : Nat) (x1 : Int32) (x2 : Int32) (x3 : Int32) (x4 : Int32) (x5 : Int32) (x6 : Int32) (s0 : Nat) (s1 : Int32) (M : gh_M) (k3 : Int32 → gh_M → Prop) (hk3 : ∀ (y4 : Int32) (M : gh_M), k3 y4 M → gh_G X rm_X12_takeOver 8 0 0 sh n 3 [(0, .ref x0), (1, .int x1), (2, .int x2), (3, .int x3), (4, .int y4)] [] M) (h : wp_X12_takeOver_49 sh post k3 x0 x1 x2 x3 x4 x5 x6 s0 s1 M) : gh_G X rm_X12_takeOver 8 0 0 sh n 49 [(0, .ref x0), (1, .int x1), (2, .int x2), (3, .int x3), (4, .int x4), (5, .int x5), (6, .int x6)] [.int s1, .ref s0] M := by
  unfold wp_X12_takeOver_49 at h
  refine k_aload_n C.1 0 rfl dX12_takeOver_49 ?_
  obtain ⟨hs1, h⟩ := h
  obtain ⟨q2, hq2, h⟩ := h
  refine k_getR C.1 F_X12_101 dX12_takeOver_50 hs1 hq2 ?_
  refine k_iload C.1 6 rfl dX12_takeOver_53 ?_
  obtain ⟨hs3, h⟩ := h
  obtain ⟨hi4, h⟩ := h
  refine k_iald C.1 dX12_takeOver_55 hs3 hi4 ?_
  exact b_X12_takeOver_56 C x0 x1 x2 x3 x4 x5 x6 s0 s1 (rI M q2 x6.toNatClampNeg) M k3 hk3 h
set_option maxRecDepth 100000 in
set_option maxHeartbeats 4000000 in
theorem bb_X12_takeOver_3 {X : gh_X} {sh : gh_Sh} {n : Nat} {post : gh_M → Prop} (C : gh_CR X cX12_takeOver RX12 8 none sh n 0 0 (gh_pv post)) (x0 : Nat) (x1 : Int32) (x2 : Int32) (x3 : Int32) (k3 : Int32 → gh_M → Prop) (hk3 : ∀ (y4 : Int32) (M : gh_M), k3 y4 M → gh_G X rm_X12_takeOver 8 0 0 sh n 3 [(0, .ref x0), (1, .int x1), (2, .int x2), (3, .int x3), (4, .int y4)] [] M) (x4 : Int32) (M : gh_M) (h : wb_X12_takeOver_3 sh post x0 x1 x2 x3 k3 x4 M) : gh_G X rm_X12_takeOver 8 0 0 sh n 3 [(0, .ref x0), (1, .int x1), (2, .int x2), (3, .int x3), (4, .int x4)] [] M := by
  unfold wb_X12_takeOver_3 at h
  refine k_iload C.1 4 rfl dX12_takeOver_3 ?_
  refine k_iconst (v := 3) C.1 dX12_takeOver_5 (by decide) ?_
  refine k_icmp_ge C.1 133 dX12_takeOver_6 (by decide) (fun c1 => ?_) (fun c1 => ?_)
  · have h := h.1 c1
    exact k_vret C dX12_takeOver_133 h
  · have h := h.2 c1
    refine k_iconst (v := 3) C.1 dX12_takeOver_9 (by decide) ?_
    refine k_iload_n C.1 1 rfl dX12_takeOver_10 ?_
    refine k_imul C.1 dX12_takeOver_11 ?_
    refine k_iload C.1 4 rfl dX12_takeOver_12 ?_
    refine k_iadd C.1 dX12_takeOver_14 ?_
    refine k_istore (lv' := [(5, .int (((3 : Int32) * x1) + x4)), (0, .ref x0), (1, .int x1), (2, .int x2), (3, .int x3), (4, .int x4)]) C.1 dX12_takeOver_15 (by decide) rfl ?_
    refine k_iconst (v := 3) C.1 dX12_takeOver_17 (by decide) ?_
    refine k_iload_n C.1 3 rfl dX12_takeOver_18 ?_
    refine k_imul C.1 dX12_takeOver_19 ?_
    refine k_iload C.1 5 rfl dX12_takeOver_20 ?_
    refine k_iadd C.1 dX12_takeOver_22 ?_
    refine k_istore (lv' := [(6, .int (((3 : Int32) * x2) + x4)), (5, .int (((3 : Int32) * x1) + x4)), (0, .ref x0), (1, .int x1), (2, .int x2), (3, .int x3), (4, .int x4)]) C.1 dX12_takeOver_23 (by decide) rfl ?_
    refine k_aload_n C.1 2 rfl dX12_takeOver_25 ?_
    obtain ⟨hs2, h⟩ := h
    obtain ⟨q3, hq3, h⟩ := h
    refine k_getR C.1 F_X12_37 dX12_takeOver_26 hs2 hq3 ?_
    refine k_iload C.1 1 rfl dX12_takeOver_29 ?_
    refine k_aload_n C.1 2 rfl dX12_takeOver_31 ?_
    obtain ⟨q4, hq4, h⟩ := h
    refine k_getR C.1 F_X12_101 dX12_takeOver_32 hs2 hq4 ?_
    refine k_iload C.1 0 rfl dX12_takeOver_35 ?_
    obtain ⟨hs5, h⟩ := h
    obtain ⟨hi6, h⟩ := h
    refine k_iald C.1 dX12_takeOver_37 hs5 hi6 ?_
    refine k_if_le C.1 49 dX12_takeOver_38 (by decide) (fun c7 => ?_) (fun c7 => ?_)
    · have h := h.1 c7
      refine k_sub (lv' := [(0, .ref x0), (1, .int x1), (2, .int x2), (3, .int x3), (4, .int x4), (5, .int (((3 : Int32) * x1) + x4)), (6, .int (((3 : Int32) * x2) + x4))]) [2, 3, 4, 5, 6, 1, 0] rfl ?_
      exact b_X12_takeOver_49 C x0 x1 x2 x3 x4 (((3 : Int32) * x1) + x4) (((3 : Int32) * x2) + x4) q3 (((3 : Int32) * x1) + x4) M k3 hk3 h
    · have h := h.2 c7
      refine k_iload_n C.1 5 rfl dX12_takeOver_41 ?_
      refine k_if_le C.1 49 dX12_takeOver_42 (by decide) (fun c8 => ?_) (fun c8 => ?_)
      · have h := h.1 c8
        refine k_sub (lv' := [(0, .ref x0), (1, .int x1), (2, .int x2), (3, .int x3), (4, .int x4), (5, .int (((3 : Int32) * x1) + x4)), (6, .int (((3 : Int32) * x2) + x4))]) [2, 3, 4, 5, 6, 1, 0] rfl ?_
        exact b_X12_takeOver_49 C x0 x1 x2 x3 x4 (((3 : Int32) * x1) + x4) (((3 : Int32) * x2) + x4) q3 (((3 : Int32) * x1) + x4) M k3 hk3 h
      · have h := h.2 c8
        refine k_iconst (v := 3) C.1 dX12_takeOver_45 (by decide) ?_
        refine k_goto C.1 56 dX12_takeOver_46 (by decide) ?_
        refine k_sub (lv' := [(0, .ref x0), (1, .int x1), (2, .int x2), (3, .int x3), (4, .int x4), (5, .int (((3 : Int32) * x1) + x4)), (6, .int (((3 : Int32) * x2) + x4))]) [2, 3, 4, 5, 6, 1, 0] rfl ?_
        exact b_X12_takeOver_56 C x0 x1 x2 x3 x4 (((3 : Int32) * x1) + x4) (((3 : Int32) * x2) + x4) q3 (((3 : Int32) * x1) + x4) (3 : Int32) M k3 hk3 h
set_option maxRecDepth 100000 in
theorem b_X12_takeOver_3 {X : gh_X} {sh : gh_Sh} {n : Nat} {post : gh_M → Prop} (C : gh_CR X cX12_takeOver RX12 8 none sh n 0 0 (gh_pv post)) (x0 : Nat) (x1 : Int32) (x2 : Int32) (x3 : Int32) (x4 : Int32) (M : gh_M) (h : wp_X12_takeOver_3 sh post x0 x1 x2 x3 x4 M) : gh_G X rm_X12_takeOver 8 0 0 sh n 3 [(0, .ref x0), (1, .int x1), (2, .int x2), (3, .int x3), (4, .int x4)] [] M := by
  unfold wp_X12_takeOver_3 at h
  exact gh_loop_use h (fun v => gh_G X rm_X12_takeOver 8 0 0 sh n 3 [(0, .ref x0), (1, .int x1), (2, .int x2), (3, .int x3), (4, .int v.1)] [] v.2) (fun k v hk hb => bb_X12_takeOver_3 C x0 x1 x2 x3 (fun x4 M => k (x4, M)) (fun x4 M h => hk (x4, M) h) v.1 v.2 hb)
set_option maxRecDepth 100000 in
set_option maxHeartbeats 4000000 in
theorem c_X12_takeOver {l : Launch} {D : va_G} {dA : Nat → ClassId} {sh : gh_Sh} {b0 n : Nat} {M : gh_M} {x0 : Nat} {x1 : Int32} {x2 : Int32} {x3 : Int32} {post : gh_M → Prop} (h : wp_X12_takeOver sh M x0 x1 x2 x3 post) : gh_Met l D dA sh b0 n yX12_takeOver cX12_takeOver 8 none rm_X12_takeOver M [.ref x0, .int x1, .int x2, .int x3] (gh_pv post) := by
  refine gh_open (by decide) (Nat.le_of_ble_eq_true rfl) (fun X C => ?_)
  show gh_G X rm_X12_takeOver 8 0 0 sh n 0 [(0, .ref x0), (1, .int x1), (2, .int x2), (3, .int x3)] [] M
  unfold wp_X12_takeOver at h
  refine k_iconst (v := 0) C.1 dX12_takeOver_0 (by decide) ?_
  refine k_istore (lv' := [(4, .int (0 : Int32)), (0, .ref x0), (1, .int x1), (2, .int x2), (3, .int x3)]) C.1 dX12_takeOver_1 (by decide) rfl ?_
  refine k_sub (lv' := [(0, .ref x0), (1, .int x1), (2, .int x2), (3, .int x3), (4, .int (0 : Int32))]) [1, 2, 3, 4, 0] rfl ?_
  exact b_X12_takeOver_3 C x0 x1 x2 x3 (0 : Int32) M h
abbrev rm_X12_turn : Room := { frames := 3, cells := 0, slots := 0, locals := 75 }
set_option maxRecDepth 100000 in
set_option maxHeartbeats 4000000 in
theorem b_X12_turn_185 {X : gh_X} {sh : gh_Sh} {n : Nat} {post : Int32 → gh_M → Prop} (C : gh_CR X cX12_turn RX12 4 (some .int) sh n 0 0 (gh_pi post)) (x0 : Nat) (x1 : Int32) (x2 : Int32) (M : gh_M) (k70 : Int32 → gh_M → Prop) (hk70 : ∀ (y2 : Int32) (M : gh_M), k70 y2 M → gh_G X rm_X12_turn 4 0 0 sh n 70 [(0, .ref x0), (1, .int x1), (2, .int y2)] [] M) (h : wp_X12_turn_185 sh post k70 x0 x1 x2 M) : gh_G X rm_X12_turn 4 0 0 sh n 185 [(0, .ref x0), (1, .int x1), (2, .int x2)] [] M := by
  unfold wp_X12_turn_185 at h
  refine k_iinc (v := x2 + 1) (lv' := [(2, .int (x2 + 1)), (0, .ref x0), (1, .int x1)]) C.1 2 rfl dX12_turn_185 (by decide) rfl rfl ?_
  refine k_goto C.1 70 dX12_turn_188 (by decide) ?_
  refine k_sub (lv' := [(0, .ref x0), (1, .int x1), (2, .int (x2 + 1))]) [1, 2, 0] rfl ?_
  exact hk70 (x2 + 1) M h
set_option maxRecDepth 100000 in
set_option maxHeartbeats 4000000 in
theorem bb_X12_turn_127 {X : gh_X} {sh : gh_Sh} {n : Nat} {post : Int32 → gh_M → Prop} (C : gh_CR X cX12_turn RX12 4 (some .int) sh n 0 0 (gh_pi post)) (x0 : Nat) (x1 : Int32) (x2 : Int32) (k70 : Int32 → gh_M → Prop) (hk70 : ∀ (y2 : Int32) (M : gh_M), k70 y2 M → gh_G X rm_X12_turn 4 0 0 sh n 70 [(0, .ref x0), (1, .int x1), (2, .int y2)] [] M) (k127 : Int32 → gh_M → Prop) (hk127 : ∀ (y3 : Int32) (M : gh_M), k127 y3 M → gh_G X rm_X12_turn 4 0 0 sh n 127 [(0, .ref x0), (1, .int x1), (2, .int x2), (3, .int y3)] [] M) (x3 : Int32) (M : gh_M) (h : wb_X12_turn_127 sh post k70 x0 x1 x2 k127 x3 M) : gh_G X rm_X12_turn 4 0 0 sh n 127 [(0, .ref x0), (1, .int x1), (2, .int x2), (3, .int x3)] [] M := by
  unfold wb_X12_turn_127 at h
  refine k_iload_n C.1 3 rfl dX12_turn_127 ?_
  refine k_iconst (v := 3) C.1 dX12_turn_128 (by decide) ?_
  refine k_icmp_ge C.1 149 dX12_turn_129 (by decide) (fun c1 => ?_) (fun c1 => ?_)
  · have h := h.1 c1
    refine k_aload_n C.1 0 rfl dX12_turn_149 ?_
    obtain ⟨hs2, h⟩ := h
    obtain ⟨q3, hq3, h⟩ := h
    refine k_getR C.1 F_X12_98 dX12_turn_150 hs2 hq3 ?_
    refine k_iload_n C.1 2 rfl dX12_turn_153 ?_
    obtain ⟨hs4, h⟩ := h
    obtain ⟨hi5, h⟩ := h
    refine k_iald C.1 dX12_turn_154 hs4 hi5 ?_
    refine k_if_lt C.1 185 dX12_turn_155 (by decide) (fun c6 => ?_) (fun c6 => ?_)
    · have h := h.1 c6
      refine k_sub (lv' := [(0, .ref x0), (1, .int x1), (2, .int x2)]) [0, 1, 2] rfl ?_
      exact b_X12_turn_185 C x0 x1 x2 M k70 hk70 h
    · have h := h.2 c6
      refine k_aload_n C.1 0 rfl dX12_turn_158 ?_
      obtain ⟨q7, hq7, h⟩ := h
      refine k_getR C.1 F_X12_28 dX12_turn_159 hs2 hq7 ?_
      refine k_iload_n C.1 2 rfl dX12_turn_162 ?_
      obtain ⟨hs8, h⟩ := h
      obtain ⟨hi9, h⟩ := h
      refine k_iald C.1 dX12_turn_163 hs8 hi9 ?_
      refine k_iconst (v := 1) C.1 dX12_turn_164 (by decide) ?_
      refine k_icmp_eq C.1 185 dX12_turn_165 (by decide) (fun c10 => ?_) (fun c10 => ?_)
      · have h := h.1 c10
        refine k_sub (lv' := [(0, .ref x0), (1, .int x1), (2, .int x2)]) [0, 1, 2] rfl ?_
        exact b_X12_turn_185 C x0 x1 x2 M k70 hk70 h
      · have h := h.2 c10
        refine k_aload_n C.1 0 rfl dX12_turn_168 ?_
        refine k_iload_n C.1 2 rfl dX12_turn_169 ?_
        refine k_aload_n C.1 0 rfl dX12_turn_170 ?_
        refine k_getR C.1 F_X12_98 dX12_turn_171 hs2 hq3 ?_
        refine k_iload_n C.1 2 rfl dX12_turn_174 ?_
        obtain ⟨hi11, h⟩ := h
        refine k_iald C.1 dX12_turn_175 hs4 hi11 ?_
        refine k_aload_n C.1 0 rfl dX12_turn_176 ?_
        obtain ⟨q12, hq12, h⟩ := h
        refine k_getR C.1 F_X12_25 dX12_turn_177 hs2 hq12 ?_
        refine k_iload_n C.1 2 rfl dX12_turn_180 ?_
        obtain ⟨hs13, h⟩ := h
        obtain ⟨hi14, h⟩ := h
        refine k_iald C.1 dX12_turn_181 hs13 hi14 ?_
        refine k_callV (As := [.int x2, .int (rI M q3 x2.toNatClampNeg), .int (rI M q12 x2.toNatClampNeg)]) (rest := []) C.1 V_X12_174 (c_X12_takeOver h) ⟨rfl, rfl, Nat.le_of_ble_eq_true rfl, Nat.le_of_ble_eq_true rfl⟩ hs2  rfl rfl (Nat.le_of_ble_eq_true rfl) ⟨Nat.zero_le _, Nat.zero_le _⟩ dX12_turn_182 (kp_v fun M15 h9 => ?_)
        replace h := h9
        refine k_sub (lv' := [(0, .ref x0), (1, .int x1), (2, .int x2)]) [0, 1, 2] rfl ?_
        exact b_X12_turn_185 C x0 x1 x2 M15 k70 hk70 h
  · have h := h.2 c1
    refine k_aload_n C.1 0 rfl dX12_turn_132 ?_
    obtain ⟨hs16, h⟩ := h
    obtain ⟨q17, hq17, h⟩ := h
    refine k_getR C.1 F_X12_37 dX12_turn_133 hs16 hq17 ?_
    refine k_iconst (v := 3) C.1 dX12_turn_136 (by decide) ?_
    refine k_iload_n C.1 2 rfl dX12_turn_137 ?_
    refine k_imul C.1 dX12_turn_138 ?_
    refine k_iload_n C.1 3 rfl dX12_turn_139 ?_
    refine k_iadd C.1 dX12_turn_140 ?_
    refine k_iconst (v := 0) C.1 dX12_turn_141 (by decide) ?_
    obtain ⟨hs19, h⟩ := h
    obtain ⟨hi18, h⟩ := h
    refine k_iast C.1 dX12_turn_142 hs19 hi18 ?_
    refine k_iinc (v := x3 + 1) (lv' := [(3, .int (x3 + 1)), (0, .ref x0), (1, .int x1), (2, .int x2)]) C.1 3 rfl dX12_turn_143 (by decide) rfl rfl ?_
    refine k_goto C.1 127 dX12_turn_146 (by decide) ?_
    refine k_sub (lv' := [(0, .ref x0), (1, .int x1), (2, .int x2), (3, .int (x3 + 1))]) [1, 2, 3, 0] rfl ?_
    exact hk127 (x3 + 1) (wI M q17 (((3 : Int32) * x2) + x3).toNatClampNeg (0 : Int32)) h
set_option maxRecDepth 100000 in
theorem b_X12_turn_127 {X : gh_X} {sh : gh_Sh} {n : Nat} {post : Int32 → gh_M → Prop} (C : gh_CR X cX12_turn RX12 4 (some .int) sh n 0 0 (gh_pi post)) (x0 : Nat) (x1 : Int32) (x2 : Int32) (x3 : Int32) (M : gh_M) (k70 : Int32 → gh_M → Prop) (hk70 : ∀ (y2 : Int32) (M : gh_M), k70 y2 M → gh_G X rm_X12_turn 4 0 0 sh n 70 [(0, .ref x0), (1, .int x1), (2, .int y2)] [] M) (h : wp_X12_turn_127 sh post k70 x0 x1 x2 x3 M) : gh_G X rm_X12_turn 4 0 0 sh n 127 [(0, .ref x0), (1, .int x1), (2, .int x2), (3, .int x3)] [] M := by
  unfold wp_X12_turn_127 at h
  exact gh_loop_use h (fun v => gh_G X rm_X12_turn 4 0 0 sh n 127 [(0, .ref x0), (1, .int x1), (2, .int x2), (3, .int v.1)] [] v.2) (fun k v hk hb => bb_X12_turn_127 C x0 x1 x2 k70 hk70 (fun x3 M => k (x3, M)) (fun x3 M h => hk (x3, M) h) v.1 v.2 hb)
set_option maxRecDepth 100000 in
set_option maxHeartbeats 4000000 in
theorem b_X12_turn_124 {X : gh_X} {sh : gh_Sh} {n : Nat} {post : Int32 → gh_M → Prop} (C : gh_CR X cX12_turn RX12 4 (some .int) sh n 0 0 (gh_pi post)) (x0 : Nat) (x1 : Int32) (x2 : Int32) (s0 : Nat) (s1 : Int32) (s2 : Int32) (M : gh_M) (k70 : Int32 → gh_M → Prop) (hk70 : ∀ (y2 : Int32) (M : gh_M), k70 y2 M → gh_G X rm_X12_turn 4 0 0 sh n 70 [(0, .ref x0), (1, .int x1), (2, .int y2)] [] M) (h : wp_X12_turn_124 sh post k70 x0 x1 x2 s0 s1 s2 M) : gh_G X rm_X12_turn 4 0 0 sh n 124 [(0, .ref x0), (1, .int x1), (2, .int x2)] [.int s2, .int s1, .ref s0] M := by
  unfold wp_X12_turn_124 at h
  obtain ⟨hs2, h⟩ := h
  obtain ⟨hi1, h⟩ := h
  refine k_iast C.1 dX12_turn_124 hs2 hi1 ?_
  refine k_iconst (v := 0) C.1 dX12_turn_125 (by decide) ?_
  refine k_istore_n (lv' := [(3, .int (0 : Int32)), (0, .ref x0), (1, .int x1), (2, .int x2)]) C.1 dX12_turn_126 (by decide) rfl ?_
  refine k_sub (lv' := [(0, .ref x0), (1, .int x1), (2, .int x2), (3, .int (0 : Int32))]) [1, 2, 3, 0] rfl ?_
  exact b_X12_turn_127 C x0 x1 x2 (0 : Int32) (wI M s0 s1.toNatClampNeg s2) k70 hk70 h
set_option maxRecDepth 100000 in
set_option maxHeartbeats 4000000 in
theorem bb_X12_turn_70 {X : gh_X} {sh : gh_Sh} {n : Nat} {post : Int32 → gh_M → Prop} (C : gh_CR X cX12_turn RX12 4 (some .int) sh n 0 0 (gh_pi post)) (x0 : Nat) (x1 : Int32) (k70 : Int32 → gh_M → Prop) (hk70 : ∀ (y2 : Int32) (M : gh_M), k70 y2 M → gh_G X rm_X12_turn 4 0 0 sh n 70 [(0, .ref x0), (1, .int x1), (2, .int y2)] [] M) (x2 : Int32) (M : gh_M) (h : wb_X12_turn_70 sh post x0 x1 k70 x2 M) : gh_G X rm_X12_turn 4 0 0 sh n 70 [(0, .ref x0), (1, .int x1), (2, .int x2)] [] M := by
  unfold wb_X12_turn_70 at h
  refine k_iload_n C.1 2 rfl dX12_turn_70 ?_
  refine k_aload_n C.1 0 rfl dX12_turn_71 ?_
  obtain ⟨hs1, h⟩ := h
  refine k_getI C.1 F_X12_155 dX12_turn_72 hs1 ?_
  refine k_icmp_ge C.1 191 dX12_turn_75 (by decide) (fun c2 => ?_) (fun c2 => ?_)
  · have h := h.1 c2
    refine k_aload_n C.1 0 rfl dX12_turn_191 ?_
    obtain ⟨q3, hq3, h⟩ := h
    refine k_getR C.1 F_X12_28 dX12_turn_192 hs1 hq3 ?_
    refine k_aload_n C.1 0 rfl dX12_turn_195 ?_
    obtain ⟨q4, hq4, h⟩ := h
    refine k_getR C.1 F_X12_13 dX12_turn_196 hs1 hq4 ?_
    refine k_bipush (v := 8) C.1 dX12_turn_199 (by decide) ?_
    refine k_callS (As := [.ref q3, .ref q4, .int (8 : Int32)]) (rest := []) C.1 V_X12_170 (c_X12_copy h) ⟨rfl, rfl, Nat.le_of_ble_eq_true rfl, Nat.le_of_ble_eq_true rfl⟩  rfl rfl (Nat.le_of_ble_eq_true rfl) ⟨Nat.zero_le _, Nat.zero_le _⟩ dX12_turn_201 (kp_v fun M5 h9 => ?_)
    replace h := h9
    refine k_aload_n C.1 0 rfl dX12_turn_204 ?_
    obtain ⟨q6, hq6, h⟩ := h
    refine k_getR C.1 F_X12_31 dX12_turn_205 hs1 hq6 ?_
    refine k_aload_n C.1 0 rfl dX12_turn_208 ?_
    obtain ⟨q7, hq7, h⟩ := h
    refine k_getR C.1 F_X12_16 dX12_turn_209 hs1 hq7 ?_
    refine k_bipush (v := 8) C.1 dX12_turn_212 (by decide) ?_
    refine k_callS (As := [.ref q6, .ref q7, .int (8 : Int32)]) (rest := []) C.1 V_X12_170 (c_X12_copy h) ⟨rfl, rfl, Nat.le_of_ble_eq_true rfl, Nat.le_of_ble_eq_true rfl⟩  rfl rfl (Nat.le_of_ble_eq_true rfl) ⟨Nat.zero_le _, Nat.zero_le _⟩ dX12_turn_214 (kp_v fun M8 h9 => ?_)
    replace h := h9
    refine k_aload_n C.1 0 rfl dX12_turn_217 ?_
    obtain ⟨q9, hq9, h⟩ := h
    refine k_getR C.1 F_X12_34 dX12_turn_218 hs1 hq9 ?_
    refine k_aload_n C.1 0 rfl dX12_turn_221 ?_
    obtain ⟨q10, hq10, h⟩ := h
    refine k_getR C.1 F_X12_19 dX12_turn_222 hs1 hq10 ?_
    refine k_bipush (v := 64) C.1 dX12_turn_225 (by decide) ?_
    refine k_callS (As := [.ref q9, .ref q10, .int (64 : Int32)]) (rest := []) C.1 V_X12_170 (c_X12_copy h) ⟨rfl, rfl, Nat.le_of_ble_eq_true rfl, Nat.le_of_ble_eq_true rfl⟩  rfl rfl (Nat.le_of_ble_eq_true rfl) ⟨Nat.zero_le _, Nat.zero_le _⟩ dX12_turn_227 (kp_v fun M11 h9 => ?_)
    replace h := h9
    refine k_aload_n C.1 0 rfl dX12_turn_230 ?_
    refine k_aload_n C.1 0 rfl dX12_turn_231 ?_
    refine k_getI C.1 F_X12_155 dX12_turn_232 hs1 ?_
    refine k_putI C.1 F_X12_132 dX12_turn_235 hs1 rfl rfl ?_
    refine k_aload_n C.1 0 rfl dX12_turn_238 ?_
    refine k_iconst (v := 0) C.1 dX12_turn_239 (by decide) ?_
    refine k_putI C.1 F_X12_155 dX12_turn_240 hs1 rfl rfl ?_
    refine k_iload_n C.1 1 rfl dX12_turn_243 ?_
    exact k_iret C dX12_turn_244 h
  · have h := h.2 c2
    refine k_aload_n C.1 0 rfl dX12_turn_78 ?_
    obtain ⟨q12, hq12, h⟩ := h
    refine k_getR C.1 F_X12_22 dX12_turn_79 hs1 hq12 ?_
    refine k_iload_n C.1 2 rfl dX12_turn_82 ?_
    refine k_aload_n C.1 0 rfl dX12_turn_83 ?_
    obtain ⟨q13, hq13, h⟩ := h
    refine k_getR C.1 F_X12_98 dX12_turn_84 hs1 hq13 ?_
    refine k_iload_n C.1 2 rfl dX12_turn_87 ?_
    obtain ⟨hs14, h⟩ := h
    obtain ⟨hi15, h⟩ := h
    refine k_iald C.1 dX12_turn_88 hs14 hi15 ?_
    obtain ⟨hs17, h⟩ := h
    obtain ⟨hi16, h⟩ := h
    refine k_iast C.1 dX12_turn_89 hs17 hi16 ?_
    refine k_aload_n C.1 0 rfl dX12_turn_90 ?_
    obtain ⟨q18, hq18, h⟩ := h
    refine k_getR C.1 F_X12_25 dX12_turn_91 hs1 hq18 ?_
    refine k_iload_n C.1 2 rfl dX12_turn_94 ?_
    refine k_aload_n C.1 0 rfl dX12_turn_95 ?_
    refine k_getR C.1 F_X12_98 dX12_turn_96 hs1 hq13 ?_
    refine k_iload_n C.1 2 rfl dX12_turn_99 ?_
    obtain ⟨hi19, h⟩ := h
    refine k_iald C.1 dX12_turn_100 hs14 hi19 ?_
    refine k_if_ge C.1 108 dX12_turn_101 (by decide) (fun c20 => ?_) (fun c20 => ?_)
    · have h := h.1 c20
      refine k_aload_n C.1 0 rfl dX12_turn_108 ?_
      obtain ⟨q21, hq21, h⟩ := h
      refine k_getR C.1 F_X12_92 dX12_turn_109 hs1 hq21 ?_
      refine k_bipush (v := 8) C.1 dX12_turn_112 (by decide) ?_
      refine k_iload_n C.1 2 rfl dX12_turn_114 ?_
      refine k_imul C.1 dX12_turn_115 ?_
      refine k_aload_n C.1 0 rfl dX12_turn_116 ?_
      refine k_getR C.1 F_X12_98 dX12_turn_117 hs1 hq13 ?_
      refine k_iload_n C.1 2 rfl dX12_turn_120 ?_
      obtain ⟨hi22, h⟩ := h
      refine k_iald C.1 dX12_turn_121 hs14 hi22 ?_
      refine k_iadd C.1 dX12_turn_122 ?_
      obtain ⟨hs23, h⟩ := h
      obtain ⟨hi24, h⟩ := h
      refine k_iald C.1 dX12_turn_123 hs23 hi24 ?_
      exact b_X12_turn_124 C x0 x1 x2 q18 x2 (rI (wI M q12 x2.toNatClampNeg (rI M q13 x2.toNatClampNeg)) q21 (((8 : Int32) * x2) + (rI (wI M q12 x2.toNatClampNeg (rI M q13 x2.toNatClampNeg)) q13 x2.toNatClampNeg)).toNatClampNeg) (wI M q12 x2.toNatClampNeg (rI M q13 x2.toNatClampNeg)) k70 hk70 h
    · have h := h.2 c20
      refine k_iconst (v := 0) C.1 dX12_turn_104 (by decide) ?_
      refine k_goto C.1 124 dX12_turn_105 (by decide) ?_
      exact b_X12_turn_124 C x0 x1 x2 q18 x2 (0 : Int32) (wI M q12 x2.toNatClampNeg (rI M q13 x2.toNatClampNeg)) k70 hk70 h
set_option maxRecDepth 100000 in
theorem b_X12_turn_70 {X : gh_X} {sh : gh_Sh} {n : Nat} {post : Int32 → gh_M → Prop} (C : gh_CR X cX12_turn RX12 4 (some .int) sh n 0 0 (gh_pi post)) (x0 : Nat) (x1 : Int32) (x2 : Int32) (M : gh_M) (h : wp_X12_turn_70 sh post x0 x1 x2 M) : gh_G X rm_X12_turn 4 0 0 sh n 70 [(0, .ref x0), (1, .int x1), (2, .int x2)] [] M := by
  unfold wp_X12_turn_70 at h
  exact gh_loop_use h (fun v => gh_G X rm_X12_turn 4 0 0 sh n 70 [(0, .ref x0), (1, .int x1), (2, .int v.1)] [] v.2) (fun k v hk hb => bb_X12_turn_70 C x0 x1 (fun x2 M => k (x2, M)) (fun x2 M h => hk (x2, M) h) v.1 v.2 hb)
set_option maxRecDepth 100000 in
set_option maxHeartbeats 4000000 in
theorem c_X12_turn {l : Launch} {D : va_G} {dA : Nat → ClassId} {sh : gh_Sh} {b0 n : Nat} {M : gh_M} {x0 : Nat} {post : Int32 → gh_M → Prop} (h : wp_X12_turn sh M x0 post) : gh_Met l D dA sh b0 n yX12_turn cX12_turn 4 (some .int) rm_X12_turn M [.ref x0] (gh_pi post) := by
  refine gh_open (by decide) (Nat.le_of_ble_eq_true rfl) (fun X C => ?_)
  show gh_G X rm_X12_turn 4 0 0 sh n 0 [(0, .ref x0)] [] M
  unfold wp_X12_turn at h
  refine k_aload_n C.1 0 rfl dX12_turn_0 ?_
  obtain ⟨hs1, h⟩ := h
  refine k_getI C.1 F_X12_155 dX12_turn_1 hs1 ?_
  refine k_if_ne C.1 10 dX12_turn_4 (by decide) (fun c2 => ?_) (fun c2 => ?_)
  · have h := h.2 c2
    refine k_aload_n C.1 0 rfl dX12_turn_10 ?_
    refine k_callV (As := []) (rest := []) C.1 V_X12_166 (c_X12_findMatch h) ⟨rfl, rfl, Nat.le_of_ble_eq_true rfl, Nat.le_of_ble_eq_true rfl⟩ hs1  rfl rfl (Nat.le_of_ble_eq_true rfl) ⟨Nat.zero_le _, Nat.zero_le _⟩ dX12_turn_11 (kp_i fun r4 M3 h9 => ?_)
    replace h := h9
    refine k_istore_n (lv' := [(1, .int r4), (0, .ref x0)]) C.1 dX12_turn_14 (by decide) rfl ?_
    refine k_aload_n C.1 1 rfl dX12_turn_15 ?_
    obtain ⟨q5, hq5, h⟩ := h
    refine k_getR C.1 F_X12_37 dX12_turn_16 hs1 hq5 ?_
    refine k_aload_n C.1 1 rfl dX12_turn_19 ?_
    obtain ⟨q6, hq6, h⟩ := h
    refine k_getR C.1 F_X12_101 dX12_turn_20 hs1 hq6 ?_
    refine k_bipush (v := 24) C.1 dX12_turn_23 (by decide) ?_
    refine k_callS (As := [.ref q5, .ref q6, .int (24 : Int32)]) (rest := []) C.1 V_X12_170 (c_X12_copy h) ⟨rfl, rfl, Nat.le_of_ble_eq_true rfl, Nat.le_of_ble_eq_true rfl⟩  rfl rfl (Nat.le_of_ble_eq_true rfl) ⟨Nat.zero_le _, Nat.zero_le _⟩ dX12_turn_25 (kp_v fun M7 h9 => ?_)
    replace h := h9
    refine k_aload_n C.1 1 rfl dX12_turn_28 ?_
    obtain ⟨q8, hq8, h⟩ := h
    refine k_getR C.1 F_X12_40 dX12_turn_29 hs1 hq8 ?_
    refine k_aload_n C.1 1 rfl dX12_turn_32 ?_
    obtain ⟨q9, hq9, h⟩ := h
    refine k_getR C.1 F_X12_104 dX12_turn_33 hs1 hq9 ?_
    refine k_bipush (v := 24) C.1 dX12_turn_36 (by decide) ?_
    refine k_callS (As := [.ref q8, .ref q9, .int (24 : Int32)]) (rest := []) C.1 V_X12_170 (c_X12_copy h) ⟨rfl, rfl, Nat.le_of_ble_eq_true rfl, Nat.le_of_ble_eq_true rfl⟩  rfl rfl (Nat.le_of_ble_eq_true rfl) ⟨Nat.zero_le _, Nat.zero_le _⟩ dX12_turn_38 (kp_v fun M10 h9 => ?_)
    replace h := h9
    refine k_aload_n C.1 1 rfl dX12_turn_41 ?_
    obtain ⟨q11, hq11, h⟩ := h
    refine k_getR C.1 F_X12_43 dX12_turn_42 hs1 hq11 ?_
    refine k_aload_n C.1 1 rfl dX12_turn_45 ?_
    obtain ⟨q12, hq12, h⟩ := h
    refine k_getR C.1 F_X12_107 dX12_turn_46 hs1 hq12 ?_
    refine k_bipush (v := 24) C.1 dX12_turn_49 (by decide) ?_
    refine k_callS (As := [.ref q11, .ref q12, .int (24 : Int32)]) (rest := []) C.1 V_X12_170 (c_X12_copy h) ⟨rfl, rfl, Nat.le_of_ble_eq_true rfl, Nat.le_of_ble_eq_true rfl⟩  rfl rfl (Nat.le_of_ble_eq_true rfl) ⟨Nat.zero_le _, Nat.zero_le _⟩ dX12_turn_51 (kp_v fun M13 h9 => ?_)
    replace h := h9
    refine k_aload_n C.1 1 rfl dX12_turn_54 ?_
    obtain ⟨q14, hq14, h⟩ := h
    refine k_getR C.1 F_X12_46 dX12_turn_55 hs1 hq14 ?_
    refine k_aload_n C.1 1 rfl dX12_turn_58 ?_
    obtain ⟨q15, hq15, h⟩ := h
    refine k_getR C.1 F_X12_110 dX12_turn_59 hs1 hq15 ?_
    refine k_sipush (v := 240) C.1 dX12_turn_62 (by decide) ?_
    refine k_callS (As := [.ref q14, .ref q15, .int (240 : Int32)]) (rest := []) C.1 V_X12_170 (c_X12_copy h) ⟨rfl, rfl, Nat.le_of_ble_eq_true rfl, Nat.le_of_ble_eq_true rfl⟩  rfl rfl (Nat.le_of_ble_eq_true rfl) ⟨Nat.zero_le _, Nat.zero_le _⟩ dX12_turn_65 (kp_v fun M16 h9 => ?_)
    replace h := h9
    refine k_iconst (v := 0) C.1 dX12_turn_68 (by decide) ?_
    refine k_istore_n (lv' := [(2, .int (0 : Int32)), (1, .int r4), (0, .ref x0)]) C.1 dX12_turn_69 (by decide) rfl ?_
    refine k_sub (lv' := [(0, .ref x0), (1, .int r4), (2, .int (0 : Int32))]) [2, 1, 0] rfl ?_
    exact b_X12_turn_70 C x0 r4 (0 : Int32) M16 h
  · have h := h.1 c2
    refine k_bipush (v := (-5)) C.1 dX12_turn_7 (by decide) ?_
    exact k_iret C dX12_turn_9 h
