abbrev rm_X12_isRemembered : Room := { frames := 0, cells := 0, slots := 0, locals := 0 }
set_option maxRecDepth 100000 in
set_option maxHeartbeats 4000000 in
theorem b_X12_isRemembered_216 {X : gh_X} {sh : gh_Sh} {n : Nat} {post : Int32 → gh_M → Prop} (C : gh_CR X cX12_isRemembered RX12 9 (some .boolean) sh n 0 0 (gh_pi post)) (x0 : Nat) (x1 : Int32) (x2 : Int32) (x3 : Int32) (x5 : Int32) (s0 : Int32) (M : gh_M) (k12 : Int32 → Int32 → gh_M → Prop) (hk12 : ∀ (y4 : Int32) (y5 : Int32) (M : gh_M), k12 y4 y5 M → gh_G X rm_X12_isRemembered 9 0 0 sh n 12 [(0, .ref x0), (1, .int x1), (2, .int x2), (3, .int x3), (4, .int y4), (5, .int y5)] [] M) (h : wp_X12_isRemembered_216 sh post k12 x0 x1 x2 x3 x5 s0 M) : gh_G X rm_X12_isRemembered 9 0 0 sh n 216 [(0, .ref x0), (1, .int x1), (2, .int x2), (3, .int x3), (5, .int x5)] [.int s0] M := by
  unfold wp_X12_isRemembered_216 at h
  refine k_istore (lv' := [(4, .int s0), (0, .ref x0), (1, .int x1), (2, .int x2), (3, .int x3), (5, .int x5)]) C.1 dX12_isRemembered_216 (by decide) rfl ?_
  refine k_iinc (v := x5 + 1) (lv' := [(5, .int (x5 + 1)), (4, .int s0), (0, .ref x0), (1, .int x1), (2, .int x2), (3, .int x3)]) C.1 5 rfl dX12_isRemembered_218 (by decide) rfl rfl ?_
  refine k_goto C.1 12 dX12_isRemembered_221 (by decide) ?_
  refine k_sub (lv' := [(0, .ref x0), (1, .int x1), (2, .int x2), (3, .int x3), (4, .int s0), (5, .int (x5 + 1))]) [2, 3, 4, 5, 1, 0] rfl ?_
  exact hk12 s0 (x5 + 1) M h
set_option maxRecDepth 100000 in
set_option maxHeartbeats 4000000 in
theorem b_X12_isRemembered_211 {X : gh_X} {sh : gh_Sh} {n : Nat} {post : Int32 → gh_M → Prop} (C : gh_CR X cX12_isRemembered RX12 9 (some .boolean) sh n 0 0 (gh_pi post)) (x0 : Nat) (x1 : Int32) (x2 : Int32) (x3 : Int32) (x5 : Int32) (M : gh_M) (k12 : Int32 → Int32 → gh_M → Prop) (hk12 : ∀ (y4 : Int32) (y5 : Int32) (M : gh_M), k12 y4 y5 M → gh_G X rm_X12_isRemembered 9 0 0 sh n 12 [(0, .ref x0), (1, .int x1), (2, .int x2), (3, .int x3), (4, .int y4), (5, .int y5)] [] M) (h : wp_X12_isRemembered_211 sh post k12 x0 x1 x2 x3 x5 M) : gh_G X rm_X12_isRemembered 9 0 0 sh n 211 [(0, .ref x0), (1, .int x1), (2, .int x2), (3, .int x3), (5, .int x5)] [] M := by
  unfold wp_X12_isRemembered_211 at h
  refine k_iconst (v := 1) C.1 dX12_isRemembered_211 (by decide) ?_
  refine k_goto C.1 216 dX12_isRemembered_212 (by decide) ?_
  exact b_X12_isRemembered_216 C x0 x1 x2 x3 x5 (1 : Int32) M k12 hk12 h
set_option maxRecDepth 100000 in
set_option maxHeartbeats 4000000 in
theorem b_X12_isRemembered_193 {X : gh_X} {sh : gh_Sh} {n : Nat} {post : Int32 → gh_M → Prop} (C : gh_CR X cX12_isRemembered RX12 9 (some .boolean) sh n 0 0 (gh_pi post)) (x0 : Nat) (x1 : Int32) (x2 : Int32) (x3 : Int32) (x4 : Int32) (x5 : Int32) (x6 : Int32) (x8 : Int32) (s0 : Int32) (M : gh_M) (k12 : Int32 → Int32 → gh_M → Prop) (hk12 : ∀ (y4 : Int32) (y5 : Int32) (M : gh_M), k12 y4 y5 M → gh_G X rm_X12_isRemembered 9 0 0 sh n 12 [(0, .ref x0), (1, .int x1), (2, .int x2), (3, .int x3), (4, .int y4), (5, .int y5)] [] M) (k144 : Int32 → Int32 → gh_M → Prop) (hk144 : ∀ (y7 : Int32) (y8 : Int32) (M : gh_M), k144 y7 y8 M → gh_G X rm_X12_isRemembered 9 0 0 sh n 144 [(0, .ref x0), (1, .int x1), (2, .int x2), (3, .int x3), (4, .int x4), (5, .int x5), (6, .int x6), (7, .int y7), (8, .int y8)] [] M) (h : wp_X12_isRemembered_193 sh post k12 k144 x0 x1 x2 x3 x4 x5 x6 x8 s0 M) : gh_G X rm_X12_isRemembered 9 0 0 sh n 193 [(0, .ref x0), (1, .int x1), (2, .int x2), (3, .int x3), (4, .int x4), (5, .int x5), (6, .int x6), (8, .int x8)] [.int s0] M := by
  unfold wp_X12_isRemembered_193 at h
  refine k_istore (lv' := [(7, .int s0), (0, .ref x0), (1, .int x1), (2, .int x2), (3, .int x3), (4, .int x4), (5, .int x5), (6, .int x6), (8, .int x8)]) C.1 dX12_isRemembered_193 (by decide) rfl ?_
  refine k_iinc (v := x8 + 1) (lv' := [(8, .int (x8 + 1)), (7, .int s0), (0, .ref x0), (1, .int x1), (2, .int x2), (3, .int x3), (4, .int x4), (5, .int x5), (6, .int x6)]) C.1 8 rfl dX12_isRemembered_195 (by decide) rfl rfl ?_
  refine k_goto C.1 144 dX12_isRemembered_198 (by decide) ?_
  refine k_sub (lv' := [(0, .ref x0), (1, .int x1), (2, .int x2), (3, .int x3), (4, .int x4), (5, .int x5), (6, .int x6), (7, .int s0), (8, .int (x8 + 1))]) [2, 3, 4, 5, 6, 7, 8, 1, 0] rfl ?_
  exact hk144 s0 (x8 + 1) M h
set_option maxRecDepth 100000 in
set_option maxHeartbeats 4000000 in
theorem b_X12_isRemembered_192 {X : gh_X} {sh : gh_Sh} {n : Nat} {post : Int32 → gh_M → Prop} (C : gh_CR X cX12_isRemembered RX12 9 (some .boolean) sh n 0 0 (gh_pi post)) (x0 : Nat) (x1 : Int32) (x2 : Int32) (x3 : Int32) (x4 : Int32) (x5 : Int32) (x6 : Int32) (x8 : Int32) (M : gh_M) (k12 : Int32 → Int32 → gh_M → Prop) (hk12 : ∀ (y4 : Int32) (y5 : Int32) (M : gh_M), k12 y4 y5 M → gh_G X rm_X12_isRemembered 9 0 0 sh n 12 [(0, .ref x0), (1, .int x1), (2, .int x2), (3, .int x3), (4, .int y4), (5, .int y5)] [] M) (k144 : Int32 → Int32 → gh_M → Prop) (hk144 : ∀ (y7 : Int32) (y8 : Int32) (M : gh_M), k144 y7 y8 M → gh_G X rm_X12_isRemembered 9 0 0 sh n 144 [(0, .ref x0), (1, .int x1), (2, .int x2), (3, .int x3), (4, .int x4), (5, .int x5), (6, .int x6), (7, .int y7), (8, .int y8)] [] M) (h : wp_X12_isRemembered_192 sh post k12 k144 x0 x1 x2 x3 x4 x5 x6 x8 M) : gh_G X rm_X12_isRemembered 9 0 0 sh n 192 [(0, .ref x0), (1, .int x1), (2, .int x2), (3, .int x3), (4, .int x4), (5, .int x5), (6, .int x6), (8, .int x8)] [] M := by
  unfold wp_X12_isRemembered_192 at h
  refine k_iconst (v := 0) C.1 dX12_isRemembered_192 (by decide) ?_
  exact b_X12_isRemembered_193 C x0 x1 x2 x3 x4 x5 x6 x8 (0 : Int32) M k12 hk12 k144 hk144 h
set_option maxRecDepth 100000 in
set_option maxHeartbeats 4000000 in
theorem bb_X12_isRemembered_144 {X : gh_X} {sh : gh_Sh} {n : Nat} {post : Int32 → gh_M → Prop} (C : gh_CR X cX12_isRemembered RX12 9 (some .boolean) sh n 0 0 (gh_pi post)) (x0 : Nat) (x1 : Int32) (x2 : Int32) (x3 : Int32) (x4 : Int32) (x5 : Int32) (x6 : Int32) (k12 : Int32 → Int32 → gh_M → Prop) (hk12 : ∀ (y4 : Int32) (y5 : Int32) (M : gh_M), k12 y4 y5 M → gh_G X rm_X12_isRemembered 9 0 0 sh n 12 [(0, .ref x0), (1, .int x1), (2, .int x2), (3, .int x3), (4, .int y4), (5, .int y5)] [] M) (k144 : Int32 → Int32 → gh_M → Prop) (hk144 : ∀ (y7 : Int32) (y8 : Int32) (M : gh_M), k144 y7 y8 M → gh_G X rm_X12_isRemembered 9 0 0 sh n 144 [(0, .ref x0), (1, .int x1), (2, .int x2), (3, .int x3), (4, .int x4), (5, .int x5), (6, .int x6), (7, .int y7), (8, .int y8)] [] M) (x7 : Int32) (x8 : Int32) (M : gh_M) (h : wb_X12_isRemembered_144 sh post k12 x0 x1 x2 x3 x4 x5 x6 k144 x7 x8 M) : gh_G X rm_X12_isRemembered 9 0 0 sh n 144 [(0, .ref x0), (1, .int x1), (2, .int x2), (3, .int x3), (4, .int x4), (5, .int x5), (6, .int x6), (7, .int x7), (8, .int x8)] [] M := by
  unfold wb_X12_isRemembered_144 at h
  refine k_iload C.1 8 rfl dX12_isRemembered_144 ?_
  refine k_aload_n C.1 0 rfl dX12_isRemembered_146 ?_
  obtain ⟨hs1, h⟩ := h
  obtain ⟨q2, hq2, h⟩ := h
  refine k_getR C.1 F_X12_43 dX12_isRemembered_147 hs1 hq2 ?_
  refine k_iload_n C.1 3 rfl dX12_isRemembered_150 ?_
  obtain ⟨hs3, h⟩ := h
  obtain ⟨hi4, h⟩ := h
  refine k_iald C.1 dX12_isRemembered_151 hs3 hi4 ?_
  refine k_icmp_ge C.1 201 dX12_isRemembered_152 (by decide) (fun c5 => ?_) (fun c5 => ?_)
  · have h := h.1 c5
    refine k_iload C.1 4 rfl dX12_isRemembered_201 ?_
    refine k_if_ne C.1 211 dX12_isRemembered_203 (by decide) (fun c6 => ?_) (fun c6 => ?_)
    · have h := h.2 c6
      refine k_sub (lv' := [(0, .ref x0), (1, .int x1), (2, .int x2), (3, .int x3), (5, .int x5)]) [0, 1, 2, 3, 5] rfl ?_
      exact b_X12_isRemembered_211 C x0 x1 x2 x3 x5 M k12 hk12 h
    · have h := h.1 c6
      refine k_iload C.1 7 rfl dX12_isRemembered_206 ?_
      refine k_if_eq C.1 215 dX12_isRemembered_208 (by decide) (fun c7 => ?_) (fun c7 => ?_)
      · have h := h.1 c7
        refine k_iconst (v := 0) C.1 dX12_isRemembered_215 (by decide) ?_
        refine k_sub (lv' := [(0, .ref x0), (1, .int x1), (2, .int x2), (3, .int x3), (5, .int x5)]) [0, 1, 2, 3, 5] rfl ?_
        exact b_X12_isRemembered_216 C x0 x1 x2 x3 x5 (0 : Int32) M k12 hk12 h
      · have h := h.2 c7
        refine k_sub (lv' := [(0, .ref x0), (1, .int x1), (2, .int x2), (3, .int x3), (5, .int x5)]) [0, 1, 2, 3, 5] rfl ?_
        exact b_X12_isRemembered_211 C x0 x1 x2 x3 x5 M k12 hk12 h
  · have h := h.2 c5
    refine k_iload C.1 7 rfl dX12_isRemembered_155 ?_
    refine k_if_eq C.1 192 dX12_isRemembered_157 (by decide) (fun c8 => ?_) (fun c8 => ?_)
    · have h := h.1 c8
      refine k_sub (lv' := [(0, .ref x0), (1, .int x1), (2, .int x2), (3, .int x3), (4, .int x4), (5, .int x5), (6, .int x6), (8, .int x8)]) [0, 1, 2, 3, 4, 5, 6, 8] rfl ?_
      exact b_X12_isRemembered_192 C x0 x1 x2 x3 x4 x5 x6 x8 M k12 hk12 k144 hk144 h
    · have h := h.2 c8
      refine k_aload_n C.1 0 rfl dX12_isRemembered_160 ?_
      obtain ⟨q9, hq9, h⟩ := h
      refine k_getR C.1 F_X12_71 dX12_isRemembered_161 hs1 hq9 ?_
      refine k_iload C.1 6 rfl dX12_isRemembered_164 ?_
      refine k_bipush (v := 11) C.1 dX12_isRemembered_166 (by decide) ?_
      refine k_iadd C.1 dX12_isRemembered_168 ?_
      refine k_iload C.1 8 rfl dX12_isRemembered_169 ?_
      refine k_iadd C.1 dX12_isRemembered_171 ?_
      obtain ⟨hs10, h⟩ := h
      obtain ⟨hi11, h⟩ := h
      refine k_iald C.1 dX12_isRemembered_172 hs10 hi11 ?_
      refine k_aload_n C.1 0 rfl dX12_isRemembered_173 ?_
      obtain ⟨q12, hq12, h⟩ := h
      refine k_getR C.1 F_X12_46 dX12_isRemembered_174 hs1 hq12 ?_
      refine k_bipush (v := 10) C.1 dX12_isRemembered_177 (by decide) ?_
      refine k_iload_n C.1 3 rfl dX12_isRemembered_179 ?_
      refine k_imul C.1 dX12_isRemembered_180 ?_
      refine k_iload C.1 8 rfl dX12_isRemembered_181 ?_
      refine k_iadd C.1 dX12_isRemembered_183 ?_
      obtain ⟨hs13, h⟩ := h
      obtain ⟨hi14, h⟩ := h
      refine k_iald C.1 dX12_isRemembered_184 hs13 hi14 ?_
      refine k_icmp_ne C.1 192 dX12_isRemembered_185 (by decide) (fun c15 => ?_) (fun c15 => ?_)
      · have h := h.2 c15
        refine k_sub (lv' := [(0, .ref x0), (1, .int x1), (2, .int x2), (3, .int x3), (4, .int x4), (5, .int x5), (6, .int x6), (8, .int x8)]) [0, 1, 2, 3, 4, 5, 6, 8] rfl ?_
        exact b_X12_isRemembered_192 C x0 x1 x2 x3 x4 x5 x6 x8 M k12 hk12 k144 hk144 h
      · have h := h.1 c15
        refine k_iconst (v := 1) C.1 dX12_isRemembered_188 (by decide) ?_
        refine k_goto C.1 193 dX12_isRemembered_189 (by decide) ?_
        refine k_sub (lv' := [(0, .ref x0), (1, .int x1), (2, .int x2), (3, .int x3), (4, .int x4), (5, .int x5), (6, .int x6), (8, .int x8)]) [0, 1, 2, 3, 4, 5, 6, 8] rfl ?_
        exact b_X12_isRemembered_193 C x0 x1 x2 x3 x4 x5 x6 x8 (1 : Int32) M k12 hk12 k144 hk144 h
set_option maxRecDepth 100000 in
theorem b_X12_isRemembered_144 {X : gh_X} {sh : gh_Sh} {n : Nat} {post : Int32 → gh_M → Prop} (C : gh_CR X cX12_isRemembered RX12 9 (some .boolean) sh n 0 0 (gh_pi post)) (x0 : Nat) (x1 : Int32) (x2 : Int32) (x3 : Int32) (x4 : Int32) (x5 : Int32) (x6 : Int32) (x7 : Int32) (x8 : Int32) (M : gh_M) (k12 : Int32 → Int32 → gh_M → Prop) (hk12 : ∀ (y4 : Int32) (y5 : Int32) (M : gh_M), k12 y4 y5 M → gh_G X rm_X12_isRemembered 9 0 0 sh n 12 [(0, .ref x0), (1, .int x1), (2, .int x2), (3, .int x3), (4, .int y4), (5, .int y5)] [] M) (h : wp_X12_isRemembered_144 sh post k12 x0 x1 x2 x3 x4 x5 x6 x7 x8 M) : gh_G X rm_X12_isRemembered 9 0 0 sh n 144 [(0, .ref x0), (1, .int x1), (2, .int x2), (3, .int x3), (4, .int x4), (5, .int x5), (6, .int x6), (7, .int x7), (8, .int x8)] [] M := by
  unfold wp_X12_isRemembered_144 at h
  exact gh_loop_use h (fun v => gh_G X rm_X12_isRemembered 9 0 0 sh n 144 [(0, .ref x0), (1, .int x1), (2, .int x2), (3, .int x3), (4, .int x4), (5, .int x5), (6, .int x6), (7, .int v.1), (8, .int v.2.1)] [] v.2.2) (fun k v hk hb => bb_X12_isRemembered_144 C x0 x1 x2 x3 x4 x5 x6 k12 hk12 (fun x7 x8 M => k (x7, x8, M)) (fun x7 x8 M h => hk (x7, x8, M) h) v.1 v.2.1 v.2.2 hb)
set_option maxRecDepth 100000 in
set_option maxHeartbeats 4000000 in
theorem b_X12_isRemembered_133 {X : gh_X} {sh : gh_Sh} {n : Nat} {post : Int32 → gh_M → Prop} (C : gh_CR X cX12_isRemembered RX12 9 (some .boolean) sh n 0 0 (gh_pi post)) (x0 : Nat) (x1 : Int32) (x2 : Int32) (x3 : Int32) (x4 : Int32) (x5 : Int32) (x6 : Int32) (x8 : Int32) (s0 : Int32) (M : gh_M) (k12 : Int32 → Int32 → gh_M → Prop) (hk12 : ∀ (y4 : Int32) (y5 : Int32) (M : gh_M), k12 y4 y5 M → gh_G X rm_X12_isRemembered 9 0 0 sh n 12 [(0, .ref x0), (1, .int x1), (2, .int x2), (3, .int x3), (4, .int y4), (5, .int y5)] [] M) (k85 : Int32 → Int32 → gh_M → Prop) (hk85 : ∀ (y7 : Int32) (y8 : Int32) (M : gh_M), k85 y7 y8 M → gh_G X rm_X12_isRemembered 9 0 0 sh n 85 [(0, .ref x0), (1, .int x1), (2, .int x2), (3, .int x3), (4, .int x4), (5, .int x5), (6, .int x6), (7, .int y7), (8, .int y8)] [] M) (h : wp_X12_isRemembered_133 sh post k12 k85 x0 x1 x2 x3 x4 x5 x6 x8 s0 M) : gh_G X rm_X12_isRemembered 9 0 0 sh n 133 [(0, .ref x0), (1, .int x1), (2, .int x2), (3, .int x3), (4, .int x4), (5, .int x5), (6, .int x6), (8, .int x8)] [.int s0] M := by
  unfold wp_X12_isRemembered_133 at h
  refine k_istore (lv' := [(7, .int s0), (0, .ref x0), (1, .int x1), (2, .int x2), (3, .int x3), (4, .int x4), (5, .int x5), (6, .int x6), (8, .int x8)]) C.1 dX12_isRemembered_133 (by decide) rfl ?_
  refine k_iinc (v := x8 + 1) (lv' := [(8, .int (x8 + 1)), (7, .int s0), (0, .ref x0), (1, .int x1), (2, .int x2), (3, .int x3), (4, .int x4), (5, .int x5), (6, .int x6)]) C.1 8 rfl dX12_isRemembered_135 (by decide) rfl rfl ?_
  refine k_goto C.1 85 dX12_isRemembered_138 (by decide) ?_
  refine k_sub (lv' := [(0, .ref x0), (1, .int x1), (2, .int x2), (3, .int x3), (4, .int x4), (5, .int x5), (6, .int x6), (7, .int s0), (8, .int (x8 + 1))]) [2, 3, 4, 5, 6, 7, 8, 1, 0] rfl ?_
  exact hk85 s0 (x8 + 1) M h
set_option maxRecDepth 100000 in
set_option maxHeartbeats 4000000 in
theorem b_X12_isRemembered_132 {X : gh_X} {sh : gh_Sh} {n : Nat} {post : Int32 → gh_M → Prop} (C : gh_CR X cX12_isRemembered RX12 9 (some .boolean) sh n 0 0 (gh_pi post)) (x0 : Nat) (x1 : Int32) (x2 : Int32) (x3 : Int32) (x4 : Int32) (x5 : Int32) (x6 : Int32) (x8 : Int32) (M : gh_M) (k12 : Int32 → Int32 → gh_M → Prop) (hk12 : ∀ (y4 : Int32) (y5 : Int32) (M : gh_M), k12 y4 y5 M → gh_G X rm_X12_isRemembered 9 0 0 sh n 12 [(0, .ref x0), (1, .int x1), (2, .int x2), (3, .int x3), (4, .int y4), (5, .int y5)] [] M) (k85 : Int32 → Int32 → gh_M → Prop) (hk85 : ∀ (y7 : Int32) (y8 : Int32) (M : gh_M), k85 y7 y8 M → gh_G X rm_X12_isRemembered 9 0 0 sh n 85 [(0, .ref x0), (1, .int x1), (2, .int x2), (3, .int x3), (4, .int x4), (5, .int x5), (6, .int x6), (7, .int y7), (8, .int y8)] [] M) (h : wp_X12_isRemembered_132 sh post k12 k85 x0 x1 x2 x3 x4 x5 x6 x8 M) : gh_G X rm_X12_isRemembered 9 0 0 sh n 132 [(0, .ref x0), (1, .int x1), (2, .int x2), (3, .int x3), (4, .int x4), (5, .int x5), (6, .int x6), (8, .int x8)] [] M := by
  unfold wp_X12_isRemembered_132 at h
  refine k_iconst (v := 0) C.1 dX12_isRemembered_132 (by decide) ?_
  exact b_X12_isRemembered_133 C x0 x1 x2 x3 x4 x5 x6 x8 (0 : Int32) M k12 hk12 k85 hk85 h
set_option maxRecDepth 100000 in
set_option maxHeartbeats 4000000 in
theorem bb_X12_isRemembered_85 {X : gh_X} {sh : gh_Sh} {n : Nat} {post : Int32 → gh_M → Prop} (C : gh_CR X cX12_isRemembered RX12 9 (some .boolean) sh n 0 0 (gh_pi post)) (x0 : Nat) (x1 : Int32) (x2 : Int32) (x3 : Int32) (x4 : Int32) (x5 : Int32) (x6 : Int32) (k12 : Int32 → Int32 → gh_M → Prop) (hk12 : ∀ (y4 : Int32) (y5 : Int32) (M : gh_M), k12 y4 y5 M → gh_G X rm_X12_isRemembered 9 0 0 sh n 12 [(0, .ref x0), (1, .int x1), (2, .int x2), (3, .int x3), (4, .int y4), (5, .int y5)] [] M) (k85 : Int32 → Int32 → gh_M → Prop) (hk85 : ∀ (y7 : Int32) (y8 : Int32) (M : gh_M), k85 y7 y8 M → gh_G X rm_X12_isRemembered 9 0 0 sh n 85 [(0, .ref x0), (1, .int x1), (2, .int x2), (3, .int x3), (4, .int x4), (5, .int x5), (6, .int x6), (7, .int y7), (8, .int y8)] [] M) (x7 : Int32) (x8 : Int32) (M : gh_M) (h : wb_X12_isRemembered_85 sh post k12 x0 x1 x2 x3 x4 x5 x6 k85 x7 x8 M) : gh_G X rm_X12_isRemembered 9 0 0 sh n 85 [(0, .ref x0), (1, .int x1), (2, .int x2), (3, .int x3), (4, .int x4), (5, .int x5), (6, .int x6), (7, .int x7), (8, .int x8)] [] M := by
  unfold wb_X12_isRemembered_85 at h
  refine k_iload C.1 8 rfl dX12_isRemembered_85 ?_
  refine k_aload_n C.1 0 rfl dX12_isRemembered_87 ?_
  obtain ⟨hs1, h⟩ := h
  obtain ⟨q2, hq2, h⟩ := h
  refine k_getR C.1 F_X12_16 dX12_isRemembered_88 hs1 hq2 ?_
  refine k_iload_n C.1 1 rfl dX12_isRemembered_91 ?_
  obtain ⟨hs3, h⟩ := h
  obtain ⟨hi4, h⟩ := h
  refine k_iald C.1 dX12_isRemembered_92 hs3 hi4 ?_
  refine k_icmp_ge C.1 141 dX12_isRemembered_93 (by decide) (fun c5 => ?_) (fun c5 => ?_)
  · have h := h.1 c5
    refine k_iconst (v := 0) C.1 dX12_isRemembered_141 (by decide) ?_
    refine k_istore (lv' := [(8, .int (0 : Int32)), (0, .ref x0), (1, .int x1), (2, .int x2), (3, .int x3), (4, .int x4), (5, .int x5), (6, .int x6), (7, .int x7)]) C.1 dX12_isRemembered_142 (by decide) rfl ?_
    refine k_sub (lv' := [(0, .ref x0), (1, .int x1), (2, .int x2), (3, .int x3), (4, .int x4), (5, .int x5), (6, .int x6), (7, .int x7), (8, .int (0 : Int32))]) [1, 2, 3, 4, 5, 6, 7, 8, 0] rfl ?_
    exact b_X12_isRemembered_144 C x0 x1 x2 x3 x4 x5 x6 x7 (0 : Int32) M k12 hk12 h
  · have h := h.2 c5
    refine k_iload C.1 7 rfl dX12_isRemembered_96 ?_
    refine k_if_eq C.1 132 dX12_isRemembered_98 (by decide) (fun c6 => ?_) (fun c6 => ?_)
    · have h := h.1 c6
      refine k_sub (lv' := [(0, .ref x0), (1, .int x1), (2, .int x2), (3, .int x3), (4, .int x4), (5, .int x5), (6, .int x6), (8, .int x8)]) [0, 1, 2, 3, 4, 5, 6, 8] rfl ?_
      exact b_X12_isRemembered_132 C x0 x1 x2 x3 x4 x5 x6 x8 M k12 hk12 k85 hk85 h
    · have h := h.2 c6
      refine k_aload_n C.1 0 rfl dX12_isRemembered_101 ?_
      obtain ⟨q7, hq7, h⟩ := h
      refine k_getR C.1 F_X12_71 dX12_isRemembered_102 hs1 hq7 ?_
      refine k_iload C.1 6 rfl dX12_isRemembered_105 ?_
      refine k_iconst (v := 3) C.1 dX12_isRemembered_107 (by decide) ?_
      refine k_iadd C.1 dX12_isRemembered_108 ?_
      refine k_iload C.1 8 rfl dX12_isRemembered_109 ?_
      refine k_iadd C.1 dX12_isRemembered_111 ?_
      obtain ⟨hs8, h⟩ := h
      obtain ⟨hi9, h⟩ := h
      refine k_iald C.1 dX12_isRemembered_112 hs8 hi9 ?_
      refine k_aload_n C.1 0 rfl dX12_isRemembered_113 ?_
      obtain ⟨q10, hq10, h⟩ := h
      refine k_getR C.1 F_X12_19 dX12_isRemembered_114 hs1 hq10 ?_
      refine k_bipush (v := 8) C.1 dX12_isRemembered_117 (by decide) ?_
      refine k_iload_n C.1 1 rfl dX12_isRemembered_119 ?_
      refine k_imul C.1 dX12_isRemembered_120 ?_
      refine k_iload C.1 8 rfl dX12_isRemembered_121 ?_
      refine k_iadd C.1 dX12_isRemembered_123 ?_
      obtain ⟨hs11, h⟩ := h
      obtain ⟨hi12, h⟩ := h
      refine k_iald C.1 dX12_isRemembered_124 hs11 hi12 ?_
      refine k_icmp_ne C.1 132 dX12_isRemembered_125 (by decide) (fun c13 => ?_) (fun c13 => ?_)
      · have h := h.2 c13
        refine k_sub (lv' := [(0, .ref x0), (1, .int x1), (2, .int x2), (3, .int x3), (4, .int x4), (5, .int x5), (6, .int x6), (8, .int x8)]) [0, 1, 2, 3, 4, 5, 6, 8] rfl ?_
        exact b_X12_isRemembered_132 C x0 x1 x2 x3 x4 x5 x6 x8 M k12 hk12 k85 hk85 h
      · have h := h.1 c13
        refine k_iconst (v := 1) C.1 dX12_isRemembered_128 (by decide) ?_
        refine k_goto C.1 133 dX12_isRemembered_129 (by decide) ?_
        refine k_sub (lv' := [(0, .ref x0), (1, .int x1), (2, .int x2), (3, .int x3), (4, .int x4), (5, .int x5), (6, .int x6), (8, .int x8)]) [0, 1, 2, 3, 4, 5, 6, 8] rfl ?_
        exact b_X12_isRemembered_133 C x0 x1 x2 x3 x4 x5 x6 x8 (1 : Int32) M k12 hk12 k85 hk85 h
set_option maxRecDepth 100000 in
theorem b_X12_isRemembered_85 {X : gh_X} {sh : gh_Sh} {n : Nat} {post : Int32 → gh_M → Prop} (C : gh_CR X cX12_isRemembered RX12 9 (some .boolean) sh n 0 0 (gh_pi post)) (x0 : Nat) (x1 : Int32) (x2 : Int32) (x3 : Int32) (x4 : Int32) (x5 : Int32) (x6 : Int32) (x7 : Int32) (x8 : Int32) (M : gh_M) (k12 : Int32 → Int32 → gh_M → Prop) (hk12 : ∀ (y4 : Int32) (y5 : Int32) (M : gh_M), k12 y4 y5 M → gh_G X rm_X12_isRemembered 9 0 0 sh n 12 [(0, .ref x0), (1, .int x1), (2, .int x2), (3, .int x3), (4, .int y4), (5, .int y5)] [] M) (h : wp_X12_isRemembered_85 sh post k12 x0 x1 x2 x3 x4 x5 x6 x7 x8 M) : gh_G X rm_X12_isRemembered 9 0 0 sh n 85 [(0, .ref x0), (1, .int x1), (2, .int x2), (3, .int x3), (4, .int x4), (5, .int x5), (6, .int x6), (7, .int x7), (8, .int x8)] [] M := by
  unfold wp_X12_isRemembered_85 at h
  exact gh_loop_use h (fun v => gh_G X rm_X12_isRemembered 9 0 0 sh n 85 [(0, .ref x0), (1, .int x1), (2, .int x2), (3, .int x3), (4, .int x4), (5, .int x5), (6, .int x6), (7, .int v.1), (8, .int v.2.1)] [] v.2.2) (fun k v hk hb => bb_X12_isRemembered_85 C x0 x1 x2 x3 x4 x5 x6 k12 hk12 (fun x7 x8 M => k (x7, x8, M)) (fun x7 x8 M h => hk (x7, x8, M) h) v.1 v.2.1 v.2.2 hb)
set_option maxRecDepth 100000 in
set_option maxHeartbeats 4000000 in
theorem b_X12_isRemembered_80 {X : gh_X} {sh : gh_Sh} {n : Nat} {post : Int32 → gh_M → Prop} (C : gh_CR X cX12_isRemembered RX12 9 (some .boolean) sh n 0 0 (gh_pi post)) (x0 : Nat) (x1 : Int32) (x2 : Int32) (x3 : Int32) (x4 : Int32) (x5 : Int32) (x6 : Int32) (s0 : Int32) (M : gh_M) (k12 : Int32 → Int32 → gh_M → Prop) (hk12 : ∀ (y4 : Int32) (y5 : Int32) (M : gh_M), k12 y4 y5 M → gh_G X rm_X12_isRemembered 9 0 0 sh n 12 [(0, .ref x0), (1, .int x1), (2, .int x2), (3, .int x3), (4, .int y4), (5, .int y5)] [] M) (h : wp_X12_isRemembered_80 sh post k12 x0 x1 x2 x3 x4 x5 x6 s0 M) : gh_G X rm_X12_isRemembered 9 0 0 sh n 80 [(0, .ref x0), (1, .int x1), (2, .int x2), (3, .int x3), (4, .int x4), (5, .int x5), (6, .int x6)] [.int s0] M := by
  unfold wp_X12_isRemembered_80 at h
  refine k_istore (lv' := [(7, .int s0), (0, .ref x0), (1, .int x1), (2, .int x2), (3, .int x3), (4, .int x4), (5, .int x5), (6, .int x6)]) C.1 dX12_isRemembered_80 (by decide) rfl ?_
  refine k_iconst (v := 0) C.1 dX12_isRemembered_82 (by decide) ?_
  refine k_istore (lv' := [(8, .int (0 : Int32)), (7, .int s0), (0, .ref x0), (1, .int x1), (2, .int x2), (3, .int x3), (4, .int x4), (5, .int x5), (6, .int x6)]) C.1 dX12_isRemembered_83 (by decide) rfl ?_
  refine k_sub (lv' := [(0, .ref x0), (1, .int x1), (2, .int x2), (3, .int x3), (4, .int x4), (5, .int x5), (6, .int x6), (7, .int s0), (8, .int (0 : Int32))]) [2, 3, 4, 5, 6, 7, 8, 1, 0] rfl ?_
  exact b_X12_isRemembered_85 C x0 x1 x2 x3 x4 x5 x6 s0 (0 : Int32) M k12 hk12 h
set_option maxRecDepth 100000 in
set_option maxHeartbeats 4000000 in
theorem b_X12_isRemembered_79 {X : gh_X} {sh : gh_Sh} {n : Nat} {post : Int32 → gh_M → Prop} (C : gh_CR X cX12_isRemembered RX12 9 (some .boolean) sh n 0 0 (gh_pi post)) (x0 : Nat) (x1 : Int32) (x2 : Int32) (x3 : Int32) (x4 : Int32) (x5 : Int32) (x6 : Int32) (M : gh_M) (k12 : Int32 → Int32 → gh_M → Prop) (hk12 : ∀ (y4 : Int32) (y5 : Int32) (M : gh_M), k12 y4 y5 M → gh_G X rm_X12_isRemembered 9 0 0 sh n 12 [(0, .ref x0), (1, .int x1), (2, .int x2), (3, .int x3), (4, .int y4), (5, .int y5)] [] M) (h : wp_X12_isRemembered_79 sh post k12 x0 x1 x2 x3 x4 x5 x6 M) : gh_G X rm_X12_isRemembered 9 0 0 sh n 79 [(0, .ref x0), (1, .int x1), (2, .int x2), (3, .int x3), (4, .int x4), (5, .int x5), (6, .int x6)] [] M := by
  unfold wp_X12_isRemembered_79 at h
  refine k_iconst (v := 0) C.1 dX12_isRemembered_79 (by decide) ?_
  exact b_X12_isRemembered_80 C x0 x1 x2 x3 x4 x5 x6 (0 : Int32) M k12 hk12 h
set_option maxRecDepth 100000 in
set_option maxHeartbeats 4000000 in
theorem bb_X12_isRemembered_12 {X : gh_X} {sh : gh_Sh} {n : Nat} {post : Int32 → gh_M → Prop} (C : gh_CR X cX12_isRemembered RX12 9 (some .boolean) sh n 0 0 (gh_pi post)) (x0 : Nat) (x1 : Int32) (x2 : Int32) (x3 : Int32) (k12 : Int32 → Int32 → gh_M → Prop) (hk12 : ∀ (y4 : Int32) (y5 : Int32) (M : gh_M), k12 y4 y5 M → gh_G X rm_X12_isRemembered 9 0 0 sh n 12 [(0, .ref x0), (1, .int x1), (2, .int x2), (3, .int x3), (4, .int y4), (5, .int y5)] [] M) (x4 : Int32) (x5 : Int32) (M : gh_M) (h : wb_X12_isRemembered_12 sh post x0 x1 x2 x3 k12 x4 x5 M) : gh_G X rm_X12_isRemembered 9 0 0 sh n 12 [(0, .ref x0), (1, .int x1), (2, .int x2), (3, .int x3), (4, .int x4), (5, .int x5)] [] M := by
  unfold wb_X12_isRemembered_12 at h
  refine k_iload C.1 5 rfl dX12_isRemembered_12 ?_
  refine k_aload_n C.1 0 rfl dX12_isRemembered_14 ?_
  obtain ⟨hs1, h⟩ := h
  refine k_getI C.1 F_X12_207 dX12_isRemembered_15 hs1 ?_
  refine k_icmp_ge C.1 224 dX12_isRemembered_18 (by decide) (fun c2 => ?_) (fun c2 => ?_)
  · have h := h.1 c2
    refine k_iload C.1 4 rfl dX12_isRemembered_224 ?_
    exact k_zret C dX12_isRemembered_226 h.1 h.2
  · have h := h.2 c2
    refine k_bipush (v := 21) C.1 dX12_isRemembered_21 (by decide) ?_
    refine k_iload C.1 5 rfl dX12_isRemembered_23 ?_
    refine k_imul C.1 dX12_isRemembered_25 ?_
    refine k_istore (lv' := [(6, .int ((21 : Int32) * x5)), (0, .ref x0), (1, .int x1), (2, .int x2), (3, .int x3), (4, .int x4), (5, .int x5)]) C.1 dX12_isRemembered_26 (by decide) rfl ?_
    refine k_aload_n C.1 1 rfl dX12_isRemembered_28 ?_
    obtain ⟨q3, hq3, h⟩ := h
    refine k_getR C.1 F_X12_71 dX12_isRemembered_29 hs1 hq3 ?_
    refine k_iload C.1 0 rfl dX12_isRemembered_32 ?_
    obtain ⟨hs4, h⟩ := h
    obtain ⟨hi5, h⟩ := h
    refine k_iald C.1 dX12_isRemembered_34 hs4 hi5 ?_
    refine k_iload_n C.1 3 rfl dX12_isRemembered_35 ?_
    refine k_icmp_ne C.1 79 dX12_isRemembered_36 (by decide) (fun c6 => ?_) (fun c6 => ?_)
    · have h := h.2 c6
      refine k_sub (lv' := [(0, .ref x0), (1, .int x1), (2, .int x2), (3, .int x3), (4, .int x4), (5, .int x5), (6, .int ((21 : Int32) * x5))]) [1, 2, 3, 4, 5, 6, 0] rfl ?_
      exact b_X12_isRemembered_79 C x0 x1 x2 x3 x4 x5 ((21 : Int32) * x5) M k12 hk12 h
    · have h := h.1 c6
      refine k_aload_n C.1 1 rfl dX12_isRemembered_39 ?_
      refine k_getR C.1 F_X12_71 dX12_isRemembered_40 hs1 hq3 ?_
      refine k_iload C.1 0 rfl dX12_isRemembered_43 ?_
      refine k_iconst (v := 1) C.1 dX12_isRemembered_45 (by decide) ?_
      refine k_iadd C.1 dX12_isRemembered_46 ?_
      obtain ⟨hi7, h⟩ := h
      refine k_iald C.1 dX12_isRemembered_47 hs4 hi7 ?_
      refine k_aload_n C.1 1 rfl dX12_isRemembered_48 ?_
      obtain ⟨q8, hq8, h⟩ := h
      refine k_getR C.1 F_X12_16 dX12_isRemembered_49 hs1 hq8 ?_
      refine k_iload_n C.1 2 rfl dX12_isRemembered_52 ?_
      obtain ⟨hs9, h⟩ := h
      obtain ⟨hi10, h⟩ := h
      refine k_iald C.1 dX12_isRemembered_53 hs9 hi10 ?_
      refine k_icmp_ne C.1 79 dX12_isRemembered_54 (by decide) (fun c11 => ?_) (fun c11 => ?_)
      · have h := h.2 c11
        refine k_sub (lv' := [(0, .ref x0), (1, .int x1), (2, .int x2), (3, .int x3), (4, .int x4), (5, .int x5), (6, .int ((21 : Int32) * x5))]) [1, 2, 3, 4, 5, 6, 0] rfl ?_
        exact b_X12_isRemembered_79 C x0 x1 x2 x3 x4 x5 ((21 : Int32) * x5) M k12 hk12 h
      · have h := h.1 c11
        refine k_aload_n C.1 1 rfl dX12_isRemembered_57 ?_
        refine k_getR C.1 F_X12_71 dX12_isRemembered_58 hs1 hq3 ?_
        refine k_iload C.1 0 rfl dX12_isRemembered_61 ?_
        refine k_iconst (v := 2) C.1 dX12_isRemembered_63 (by decide) ?_
        refine k_iadd C.1 dX12_isRemembered_64 ?_
        obtain ⟨hi12, h⟩ := h
        refine k_iald C.1 dX12_isRemembered_65 hs4 hi12 ?_
        refine k_aload_n C.1 1 rfl dX12_isRemembered_66 ?_
        obtain ⟨q13, hq13, h⟩ := h
        refine k_getR C.1 F_X12_43 dX12_isRemembered_67 hs1 hq13 ?_
        refine k_iload_n C.1 4 rfl dX12_isRemembered_70 ?_
        obtain ⟨hs14, h⟩ := h
        obtain ⟨hi15, h⟩ := h
        refine k_iald C.1 dX12_isRemembered_71 hs14 hi15 ?_
        refine k_icmp_ne C.1 79 dX12_isRemembered_72 (by decide) (fun c16 => ?_) (fun c16 => ?_)
        · have h := h.2 c16
          refine k_sub (lv' := [(0, .ref x0), (1, .int x1), (2, .int x2), (3, .int x3), (4, .int x4), (5, .int x5), (6, .int ((21 : Int32) * x5))]) [1, 2, 3, 4, 5, 6, 0] rfl ?_
          exact b_X12_isRemembered_79 C x0 x1 x2 x3 x4 x5 ((21 : Int32) * x5) M k12 hk12 h
        · have h := h.1 c16
          refine k_iconst (v := 1) C.1 dX12_isRemembered_75 (by decide) ?_
          refine k_goto C.1 80 dX12_isRemembered_76 (by decide) ?_
          refine k_sub (lv' := [(0, .ref x0), (1, .int x1), (2, .int x2), (3, .int x3), (4, .int x4), (5, .int x5), (6, .int ((21 : Int32) * x5))]) [1, 2, 3, 4, 5, 6, 0] rfl ?_
          exact b_X12_isRemembered_80 C x0 x1 x2 x3 x4 x5 ((21 : Int32) * x5) (1 : Int32) M k12 hk12 h
set_option maxRecDepth 100000 in
theorem b_X12_isRemembered_12 {X : gh_X} {sh : gh_Sh} {n : Nat} {post : Int32 → gh_M → Prop} (C : gh_CR X cX12_isRemembered RX12 9 (some .boolean) sh n 0 0 (gh_pi post)) (x0 : Nat) (x1 : Int32) (x2 : Int32) (x3 : Int32) (x4 : Int32) (x5 : Int32) (M : gh_M) (h : wp_X12_isRemembered_12 sh post x0 x1 x2 x3 x4 x5 M) : gh_G X rm_X12_isRemembered 9 0 0 sh n 12 [(0, .ref x0), (1, .int x1), (2, .int x2), (3, .int x3), (4, .int x4), (5, .int x5)] [] M := by
  unfold wp_X12_isRemembered_12 at h
  exact gh_loop_use h (fun v => gh_G X rm_X12_isRemembered 9 0 0 sh n 12 [(0, .ref x0), (1, .int x1), (2, .int x2), (3, .int x3), (4, .int v.1), (5, .int v.2.1)] [] v.2.2) (fun k v hk hb => bb_X12_isRemembered_12 C x0 x1 x2 x3 (fun x4 x5 M => k (x4, x5, M)) (fun x4 x5 M h => hk (x4, x5, M) h) v.1 v.2.1 v.2.2 hb)
set_option maxRecDepth 100000 in
set_option maxHeartbeats 4000000 in
theorem c_X12_isRemembered {l : Launch} {D : va_G} {dA : Nat → ClassId} {sh : gh_Sh} {b0 n : Nat} {M : gh_M} {x0 : Nat} {x1 : Int32} {x2 : Int32} {post : Int32 → gh_M → Prop} (h : wp_X12_isRemembered sh M x0 x1 x2 post) : gh_Met l D dA sh b0 n yX12_isRemembered cX12_isRemembered 9 (some .boolean) rm_X12_isRemembered M [.ref x0, .int x1, .int x2] (gh_pi post) := by
  refine gh_open (by decide) (Nat.le_of_ble_eq_true rfl) (fun X C => ?_)
  show gh_G X rm_X12_isRemembered 9 0 0 sh n 0 [(0, .ref x0), (1, .int x1), (2, .int x2)] [] M
  unfold wp_X12_isRemembered at h
  refine k_iconst (v := 3) C.1 dX12_isRemembered_0 (by decide) ?_
  refine k_iload_n C.1 1 rfl dX12_isRemembered_1 ?_
  refine k_imul C.1 dX12_isRemembered_2 ?_
  refine k_iload_n C.1 2 rfl dX12_isRemembered_3 ?_
  refine k_iadd C.1 dX12_isRemembered_4 ?_
  refine k_istore_n (lv' := [(3, .int (((3 : Int32) * x1) + x2)), (0, .ref x0), (1, .int x1), (2, .int x2)]) C.1 dX12_isRemembered_5 (by decide) rfl ?_
  refine k_iconst (v := 0) C.1 dX12_isRemembered_6 (by decide) ?_
  refine k_istore (lv' := [(4, .int (0 : Int32)), (3, .int (((3 : Int32) * x1) + x2)), (0, .ref x0), (1, .int x1), (2, .int x2)]) C.1 dX12_isRemembered_7 (by decide) rfl ?_
  refine k_iconst (v := 0) C.1 dX12_isRemembered_9 (by decide) ?_
  refine k_istore (lv' := [(5, .int (0 : Int32)), (4, .int (0 : Int32)), (3, .int (((3 : Int32) * x1) + x2)), (0, .ref x0), (1, .int x1), (2, .int x2)]) C.1 dX12_isRemembered_10 (by decide) rfl ?_
  refine k_sub (lv' := [(0, .ref x0), (1, .int x1), (2, .int x2), (3, .int (((3 : Int32) * x1) + x2)), (4, .int (0 : Int32)), (5, .int (0 : Int32))]) [3, 4, 5, 2, 1, 0] rfl ?_
  exact b_X12_isRemembered_12 C x0 x1 x2 (((3 : Int32) * x1) + x2) (0 : Int32) (0 : Int32) M h
abbrev rm_X12_remember : Room := { frames := 1, cells := 0, slots := 0, locals := 28 }
set_option maxRecDepth 100000 in
set_option maxHeartbeats 4000000 in
theorem bb_X12_remember_152 {X : gh_X} {sh : gh_Sh} {n : Nat} {post : gh_M → Prop} (C : gh_CR X cX12_remember RX12 6 none sh n 0 0 (gh_pv post)) (x0 : Nat) (x3 : Int32) (x4 : Int32) (k152 : Int32 → gh_M → Prop) (hk152 : ∀ (y5 : Int32) (M : gh_M), k152 y5 M → gh_G X rm_X12_remember 6 0 0 sh n 152 [(0, .ref x0), (3, .int x3), (4, .int x4), (5, .int y5)] [] M) (x5 : Int32) (M : gh_M) (h : wb_X12_remember_152 sh post x0 x3 x4 k152 x5 M) : gh_G X rm_X12_remember 6 0 0 sh n 152 [(0, .ref x0), (3, .int x3), (4, .int x4), (5, .int x5)] [] M := by
  unfold wb_X12_remember_152 at h
  refine k_iload C.1 3 rfl dX12_remember_152 ?_
  refine k_bipush (v := 10) C.1 dX12_remember_154 (by decide) ?_
  refine k_icmp_ge C.1 190 dX12_remember_156 (by decide) (fun c1 => ?_) (fun c1 => ?_)
  · have h := h.1 c1
    refine k_aload_n C.1 0 rfl dX12_remember_190 ?_
    refine k_dup C.1 dX12_remember_191 rfl ?_
    obtain ⟨hs2, h⟩ := h
    refine k_getI C.1 F_X12_207 dX12_remember_192 hs2 ?_
    refine k_iconst (v := 1) C.1 dX12_remember_195 (by decide) ?_
    refine k_iadd C.1 dX12_remember_196 ?_
    refine k_putI C.1 F_X12_207 dX12_remember_197 hs2 rfl rfl ?_
    exact k_vret C dX12_remember_200 h
  · have h := h.2 c1
    refine k_aload_n C.1 0 rfl dX12_remember_159 ?_
    obtain ⟨hs3, h⟩ := h
    obtain ⟨q4, hq4, h⟩ := h
    refine k_getR C.1 F_X12_71 dX12_remember_160 hs3 hq4 ?_
    refine k_iload_n C.1 1 rfl dX12_remember_163 ?_
    refine k_bipush (v := 11) C.1 dX12_remember_164 (by decide) ?_
    refine k_iadd C.1 dX12_remember_166 ?_
    refine k_iload C.1 3 rfl dX12_remember_167 ?_
    refine k_iadd C.1 dX12_remember_169 ?_
    refine k_aload_n C.1 0 rfl dX12_remember_170 ?_
    obtain ⟨q5, hq5, h⟩ := h
    refine k_getR C.1 F_X12_46 dX12_remember_171 hs3 hq5 ?_
    refine k_bipush (v := 10) C.1 dX12_remember_174 (by decide) ?_
    refine k_iload C.1 2 rfl dX12_remember_176 ?_
    refine k_imul C.1 dX12_remember_178 ?_
    refine k_iload C.1 3 rfl dX12_remember_179 ?_
    refine k_iadd C.1 dX12_remember_181 ?_
    obtain ⟨hs6, h⟩ := h
    obtain ⟨hi7, h⟩ := h
    refine k_iald C.1 dX12_remember_182 hs6 hi7 ?_
    obtain ⟨hs9, h⟩ := h
    obtain ⟨hi8, h⟩ := h
    refine k_iast C.1 dX12_remember_183 hs9 hi8 ?_
    refine k_iinc (v := x5 + 1) (lv' := [(5, .int (x5 + 1)), (0, .ref x0), (3, .int x3), (4, .int x4)]) C.1 3 rfl dX12_remember_184 (by decide) rfl rfl ?_
    refine k_goto C.1 152 dX12_remember_187 (by decide) ?_
    refine k_sub (lv' := [(0, .ref x0), (3, .int x3), (4, .int x4), (5, .int (x5 + 1))]) [1, 2, 3, 0] rfl ?_
    exact hk152 (x5 + 1) (wI M q4 ((x3 + (11 : Int32)) + x5).toNatClampNeg (rI M q5 (((10 : Int32) * x4) + x5).toNatClampNeg)) h
set_option maxRecDepth 100000 in
theorem b_X12_remember_152 {X : gh_X} {sh : gh_Sh} {n : Nat} {post : gh_M → Prop} (C : gh_CR X cX12_remember RX12 6 none sh n 0 0 (gh_pv post)) (x0 : Nat) (x3 : Int32) (x4 : Int32) (x5 : Int32) (M : gh_M) (h : wp_X12_remember_152 sh post x0 x3 x4 x5 M) : gh_G X rm_X12_remember 6 0 0 sh n 152 [(0, .ref x0), (3, .int x3), (4, .int x4), (5, .int x5)] [] M := by
  unfold wp_X12_remember_152 at h
  exact gh_loop_use h (fun v => gh_G X rm_X12_remember 6 0 0 sh n 152 [(0, .ref x0), (3, .int x3), (4, .int x4), (5, .int v.1)] [] v.2) (fun k v hk hb => bb_X12_remember_152 C x0 x3 x4 (fun x5 M => k (x5, M)) (fun x5 M h => hk (x5, M) h) v.1 v.2 hb)
set_option maxRecDepth 100000 in
set_option maxHeartbeats 4000000 in
theorem bb_X12_remember_113 {X : gh_X} {sh : gh_Sh} {n : Nat} {post : gh_M → Prop} (C : gh_CR X cX12_remember RX12 6 none sh n 0 0 (gh_pv post)) (x0 : Nat) (x1 : Int32) (x3 : Int32) (x4 : Int32) (k113 : Int32 → gh_M → Prop) (hk113 : ∀ (y5 : Int32) (M : gh_M), k113 y5 M → gh_G X rm_X12_remember 6 0 0 sh n 113 [(0, .ref x0), (1, .int x1), (3, .int x3), (4, .int x4), (5, .int y5)] [] M) (x5 : Int32) (M : gh_M) (h : wb_X12_remember_113 sh post x0 x1 x3 x4 k113 x5 M) : gh_G X rm_X12_remember 6 0 0 sh n 113 [(0, .ref x0), (1, .int x1), (3, .int x3), (4, .int x4), (5, .int x5)] [] M := by
  unfold wb_X12_remember_113 at h
  refine k_iload C.1 4 rfl dX12_remember_113 ?_
  refine k_bipush (v := 8) C.1 dX12_remember_115 (by decide) ?_
  refine k_icmp_ge C.1 149 dX12_remember_117 (by decide) (fun c1 => ?_) (fun c1 => ?_)
  · have h := h.1 c1
    refine k_iconst (v := 0) C.1 dX12_remember_149 (by decide) ?_
    refine k_istore (lv' := [(5, .int (0 : Int32)), (0, .ref x0), (1, .int x1), (3, .int x3), (4, .int x4)]) C.1 dX12_remember_150 (by decide) rfl ?_
    refine k_sub (lv' := [(0, .ref x0), (3, .int x3), (4, .int x4), (5, .int (0 : Int32))]) [1, 3, 4, 0] rfl ?_
    exact b_X12_remember_152 C x0 x3 x4 (0 : Int32) M h
  · have h := h.2 c1
    refine k_aload_n C.1 0 rfl dX12_remember_120 ?_
    obtain ⟨hs2, h⟩ := h
    obtain ⟨q3, hq3, h⟩ := h
    refine k_getR C.1 F_X12_71 dX12_remember_121 hs2 hq3 ?_
    refine k_iload_n C.1 2 rfl dX12_remember_124 ?_
    refine k_iconst (v := 3) C.1 dX12_remember_125 (by decide) ?_
    refine k_iadd C.1 dX12_remember_126 ?_
    refine k_iload C.1 4 rfl dX12_remember_127 ?_
    refine k_iadd C.1 dX12_remember_129 ?_
    refine k_aload_n C.1 0 rfl dX12_remember_130 ?_
    obtain ⟨q4, hq4, h⟩ := h
    refine k_getR C.1 F_X12_19 dX12_remember_131 hs2 hq4 ?_
    refine k_bipush (v := 8) C.1 dX12_remember_134 (by decide) ?_
    refine k_iload_n C.1 1 rfl dX12_remember_136 ?_
    refine k_imul C.1 dX12_remember_137 ?_
    refine k_iload C.1 4 rfl dX12_remember_138 ?_
    refine k_iadd C.1 dX12_remember_140 ?_
    obtain ⟨hs5, h⟩ := h
    obtain ⟨hi6, h⟩ := h
    refine k_iald C.1 dX12_remember_141 hs5 hi6 ?_
    obtain ⟨hs8, h⟩ := h
    obtain ⟨hi7, h⟩ := h
    refine k_iast C.1 dX12_remember_142 hs8 hi7 ?_
    refine k_iinc (v := x5 + 1) (lv' := [(5, .int (x5 + 1)), (0, .ref x0), (1, .int x1), (3, .int x3), (4, .int x4)]) C.1 4 rfl dX12_remember_143 (by decide) rfl rfl ?_
    refine k_goto C.1 113 dX12_remember_146 (by decide) ?_
    refine k_sub (lv' := [(0, .ref x0), (1, .int x1), (3, .int x3), (4, .int x4), (5, .int (x5 + 1))]) [1, 2, 3, 4, 0] rfl ?_
    exact hk113 (x5 + 1) (wI M q3 ((x3 + (3 : Int32)) + x5).toNatClampNeg (rI M q4 (((8 : Int32) * x1) + x5).toNatClampNeg)) h
set_option maxRecDepth 100000 in
theorem b_X12_remember_113 {X : gh_X} {sh : gh_Sh} {n : Nat} {post : gh_M → Prop} (C : gh_CR X cX12_remember RX12 6 none sh n 0 0 (gh_pv post)) (x0 : Nat) (x1 : Int32) (x3 : Int32) (x4 : Int32) (x5 : Int32) (M : gh_M) (h : wp_X12_remember_113 sh post x0 x1 x3 x4 x5 M) : gh_G X rm_X12_remember 6 0 0 sh n 113 [(0, .ref x0), (1, .int x1), (3, .int x3), (4, .int x4), (5, .int x5)] [] M := by
  unfold wp_X12_remember_113 at h
  exact gh_loop_use h (fun v => gh_G X rm_X12_remember 6 0 0 sh n 113 [(0, .ref x0), (1, .int x1), (3, .int x3), (4, .int x4), (5, .int v.1)] [] v.2) (fun k v hk hb => bb_X12_remember_113 C x0 x1 x3 x4 (fun x5 M => k (x5, M)) (fun x5 M h => hk (x5, M) h) v.1 v.2 hb)
set_option maxRecDepth 100000 in
set_option maxHeartbeats 4000000 in
theorem b_X12_remember_59 {X : gh_X} {sh : gh_Sh} {n : Nat} {post : gh_M → Prop} (C : gh_CR X cX12_remember RX12 6 none sh n 0 0 (gh_pv post)) (x0 : Nat) (x1 : Int32) (x2 : Int32) (M : gh_M) (h : wp_X12_remember_59 sh post x0 x1 x2 M) : gh_G X rm_X12_remember 6 0 0 sh n 59 [(0, .ref x0), (1, .int x1), (2, .int x2)] [] M := by
  unfold wp_X12_remember_59 at h
  refine k_bipush (v := 21) C.1 dX12_remember_59 (by decide) ?_
  refine k_aload_n C.1 0 rfl dX12_remember_61 ?_
  obtain ⟨hs1, h⟩ := h
  refine k_getI C.1 F_X12_207 dX12_remember_62 hs1 ?_
  refine k_imul C.1 dX12_remember_65 ?_
  refine k_istore_n (lv' := [(3, .int ((21 : Int32) * (rI M x0 25))), (0, .ref x0), (1, .int x1), (2, .int x2)]) C.1 dX12_remember_66 (by decide) rfl ?_
  refine k_iconst (v := 3) C.1 dX12_remember_67 (by decide) ?_
  refine k_iload_n C.1 2 rfl dX12_remember_68 ?_
  refine k_imul C.1 dX12_remember_69 ?_
  refine k_iload_n C.1 3 rfl dX12_remember_70 ?_
  refine k_iadd C.1 dX12_remember_71 ?_
  refine k_istore (lv' := [(4, .int (((3 : Int32) * x1) + x2)), (3, .int ((21 : Int32) * (rI M x0 25))), (0, .ref x0), (1, .int x1), (2, .int x2)]) C.1 dX12_remember_72 (by decide) rfl ?_
  refine k_aload_n C.1 2 rfl dX12_remember_74 ?_
  obtain ⟨q2, hq2, h⟩ := h
  refine k_getR C.1 F_X12_71 dX12_remember_75 hs1 hq2 ?_
  refine k_iload_n C.1 1 rfl dX12_remember_78 ?_
  refine k_iload_n C.1 4 rfl dX12_remember_79 ?_
  obtain ⟨hs4, h⟩ := h
  obtain ⟨hi3, h⟩ := h
  refine k_iast C.1 dX12_remember_80 hs4 hi3 ?_
  refine k_aload_n C.1 2 rfl dX12_remember_81 ?_
  refine k_getR C.1 F_X12_71 dX12_remember_82 hs1 hq2 ?_
  refine k_iload_n C.1 1 rfl dX12_remember_85 ?_
  refine k_iconst (v := 1) C.1 dX12_remember_86 (by decide) ?_
  refine k_iadd C.1 dX12_remember_87 ?_
  refine k_aload_n C.1 2 rfl dX12_remember_88 ?_
  obtain ⟨q5, hq5, h⟩ := h
  refine k_getR C.1 F_X12_16 dX12_remember_89 hs1 hq5 ?_
  refine k_iload_n C.1 3 rfl dX12_remember_92 ?_
  obtain ⟨hs6, h⟩ := h
  obtain ⟨hi7, h⟩ := h
  refine k_iald C.1 dX12_remember_93 hs6 hi7 ?_
  obtain ⟨hi8, h⟩ := h
  refine k_iast C.1 dX12_remember_94 hs4 hi8 ?_
  refine k_aload_n C.1 2 rfl dX12_remember_95 ?_
  refine k_getR C.1 F_X12_71 dX12_remember_96 hs1 hq2 ?_
  refine k_iload_n C.1 1 rfl dX12_remember_99 ?_
  refine k_iconst (v := 2) C.1 dX12_remember_100 (by decide) ?_
  refine k_iadd C.1 dX12_remember_101 ?_
  refine k_aload_n C.1 2 rfl dX12_remember_102 ?_
  obtain ⟨q9, hq9, h⟩ := h
  refine k_getR C.1 F_X12_43 dX12_remember_103 hs1 hq9 ?_
  refine k_iload C.1 0 rfl dX12_remember_106 ?_
  obtain ⟨hs10, h⟩ := h
  obtain ⟨hi11, h⟩ := h
  refine k_iald C.1 dX12_remember_108 hs10 hi11 ?_
  generalize eM12 : wI (wI M q2 ((21 : Int32) * (rI M x0 25)).toNatClampNeg x2) q2 (((21 : Int32) * (rI M x0 25)) + (1 : Int32)).toNatClampNeg (rI (wI M q2 ((21 : Int32) * (rI M x0 25)).toNatClampNeg x2) q5 x1.toNatClampNeg) = M12
  replace h := h M12 eM12.symm
  obtain ⟨hi13, h⟩ := h
  refine k_iast C.1 dX12_remember_109 hs4 hi13 ?_
  refine k_iconst (v := 0) C.1 dX12_remember_110 (by decide) ?_
  refine k_istore (lv' := [(5, .int (0 : Int32)), (4, .int (((3 : Int32) * x1) + x2)), (3, .int ((21 : Int32) * (rI M x0 25))), (0, .ref x0), (1, .int x1), (2, .int x2)]) C.1 dX12_remember_111 (by decide) rfl ?_
  refine k_sub (lv' := [(0, .ref x0), (1, .int x1), (3, .int ((21 : Int32) * (rI M x0 25))), (4, .int (((3 : Int32) * x1) + x2)), (5, .int (0 : Int32))]) [3, 4, 2, 1, 0] rfl ?_
  exact b_X12_remember_113 C x0 x1 ((21 : Int32) * (rI M x0 25)) (((3 : Int32) * x1) + x2) (0 : Int32) (wI M12 q2 (((21 : Int32) * (rI M x0 25)) + (2 : Int32)).toNatClampNeg (rI M12 q9 (((3 : Int32) * x1) + x2).toNatClampNeg)) h
set_option maxRecDepth 100000 in
set_option maxHeartbeats 4000000 in
theorem bb_X12_remember_21 {X : gh_X} {sh : gh_Sh} {n : Nat} {post : gh_M → Prop} (C : gh_CR X cX12_remember RX12 6 none sh n 0 0 (gh_pv post)) (x0 : Nat) (x1 : Int32) (x2 : Int32) (k21 : Int32 → gh_M → Prop) (hk21 : ∀ (y3 : Int32) (M : gh_M), k21 y3 M → gh_G X rm_X12_remember 6 0 0 sh n 21 [(0, .ref x0), (1, .int x1), (2, .int x2), (3, .int y3)] [] M) (x3 : Int32) (M : gh_M) (h : wb_X12_remember_21 sh post x0 x1 x2 k21 x3 M) : gh_G X rm_X12_remember 6 0 0 sh n 21 [(0, .ref x0), (1, .int x1), (2, .int x2), (3, .int x3)] [] M := by
  unfold wb_X12_remember_21 at h
  refine k_iload_n C.1 3 rfl dX12_remember_21 ?_
  refine k_sipush (v := 399) C.1 dX12_remember_22 (by decide) ?_
  refine k_icmp_ge C.1 49 dX12_remember_25 (by decide) (fun c1 => ?_) (fun c1 => ?_)
  · have h := h.1 c1
    refine k_aload_n C.1 0 rfl dX12_remember_49 ?_
    refine k_dup C.1 dX12_remember_50 rfl ?_
    obtain ⟨hs2, h⟩ := h
    refine k_getI C.1 F_X12_207 dX12_remember_51 hs2 ?_
    refine k_iconst (v := 1) C.1 dX12_remember_54 (by decide) ?_
    refine k_isub C.1 dX12_remember_55 ?_
    refine k_putI C.1 F_X12_207 dX12_remember_56 hs2 rfl rfl ?_
    refine k_sub (lv' := [(0, .ref x0), (1, .int x1), (2, .int x2)]) [0, 1, 2] rfl ?_
    exact b_X12_remember_59 C x0 x1 x2 (wI M x0 25 ((rI M x0 25) - (1 : Int32))) h
  · have h := h.2 c1
    refine k_aload_n C.1 0 rfl dX12_remember_28 ?_
    obtain ⟨hs3, h⟩ := h
    obtain ⟨q4, hq4, h⟩ := h
    refine k_getR C.1 F_X12_71 dX12_remember_29 hs3 hq4 ?_
    refine k_iload_n C.1 3 rfl dX12_remember_32 ?_
    refine k_aload_n C.1 0 rfl dX12_remember_33 ?_
    refine k_getR C.1 F_X12_71 dX12_remember_34 hs3 hq4 ?_
    refine k_iload_n C.1 3 rfl dX12_remember_37 ?_
    refine k_bipush (v := 21) C.1 dX12_remember_38 (by decide) ?_
    refine k_iadd C.1 dX12_remember_40 ?_
    obtain ⟨hs5, h⟩ := h
    obtain ⟨hi6, h⟩ := h
    refine k_iald C.1 dX12_remember_41 hs5 hi6 ?_
    obtain ⟨hi7, h⟩ := h
    refine k_iast C.1 dX12_remember_42 hs5 hi7 ?_
    refine k_iinc (v := x3 + 1) (lv' := [(3, .int (x3 + 1)), (0, .ref x0), (1, .int x1), (2, .int x2)]) C.1 3 rfl dX12_remember_43 (by decide) rfl rfl ?_
    refine k_goto C.1 21 dX12_remember_46 (by decide) ?_
    refine k_sub (lv' := [(0, .ref x0), (1, .int x1), (2, .int x2), (3, .int (x3 + 1))]) [1, 2, 3, 0] rfl ?_
    exact hk21 (x3 + 1) (wI M q4 x3.toNatClampNeg (rI M q4 (x3 + (21 : Int32)).toNatClampNeg)) h
set_option maxRecDepth 100000 in
theorem b_X12_remember_21 {X : gh_X} {sh : gh_Sh} {n : Nat} {post : gh_M → Prop} (C : gh_CR X cX12_remember RX12 6 none sh n 0 0 (gh_pv post)) (x0 : Nat) (x1 : Int32) (x2 : Int32) (x3 : Int32) (M : gh_M) (h : wp_X12_remember_21 sh post x0 x1 x2 x3 M) : gh_G X rm_X12_remember 6 0 0 sh n 21 [(0, .ref x0), (1, .int x1), (2, .int x2), (3, .int x3)] [] M := by
  unfold wp_X12_remember_21 at h
  exact gh_loop_use h (fun v => gh_G X rm_X12_remember 6 0 0 sh n 21 [(0, .ref x0), (1, .int x1), (2, .int x2), (3, .int v.1)] [] v.2) (fun k v hk hb => bb_X12_remember_21 C x0 x1 x2 (fun x3 M => k (x3, M)) (fun x3 M h => hk (x3, M) h) v.1 v.2 hb)
set_option maxRecDepth 100000 in
set_option maxHeartbeats 4000000 in
theorem c_X12_remember {l : Launch} {D : va_G} {dA : Nat → ClassId} {sh : gh_Sh} {b0 n : Nat} {M : gh_M} {x0 : Nat} {x1 : Int32} {x2 : Int32} {post : gh_M → Prop} (h : wp_X12_remember sh M x0 x1 x2 post) : gh_Met l D dA sh b0 n yX12_remember cX12_remember 6 none rm_X12_remember M [.ref x0, .int x1, .int x2] (gh_pv post) := by
  refine gh_open (by decide) (Nat.le_of_ble_eq_true rfl) (fun X C => ?_)
  show gh_G X rm_X12_remember 6 0 0 sh n 0 [(0, .ref x0), (1, .int x1), (2, .int x2)] [] M
  unfold wp_X12_remember at h
  refine k_aload_n C.1 0 rfl dX12_remember_0 ?_
  refine k_iload_n C.1 1 rfl dX12_remember_1 ?_
  refine k_iload_n C.1 2 rfl dX12_remember_2 ?_
  obtain ⟨hs1, h⟩ := h
  refine k_callV (As := [.int x1, .int x2]) (rest := []) C.1 V_X12_210 (c_X12_isRemembered h) ⟨rfl, rfl, Nat.le_of_ble_eq_true rfl, Nat.le_of_ble_eq_true rfl⟩ hs1  rfl rfl (Nat.le_of_ble_eq_true rfl) ⟨Nat.zero_le _, Nat.zero_le _⟩ dX12_remember_3 (kp_i fun r3 M2 h9 => ?_)
  replace h := h9
  refine k_if_eq C.1 10 dX12_remember_6 (by decide) (fun c4 => ?_) (fun c4 => ?_)
  · have h := h.1 c4
    refine k_aload_n C.1 0 rfl dX12_remember_10 ?_
    refine k_getI C.1 F_X12_207 dX12_remember_11 hs1 ?_
    refine k_bipush (v := 20) C.1 dX12_remember_14 (by decide) ?_
    refine k_icmp_ne C.1 59 dX12_remember_16 (by decide) (fun c5 => ?_) (fun c5 => ?_)
    · have h := h.2 c5
      exact b_X12_remember_59 C x0 x1 x2 M2 h
    · have h := h.1 c5
      refine k_iconst (v := 0) C.1 dX12_remember_19 (by decide) ?_
      refine k_istore_n (lv' := [(3, .int (0 : Int32)), (0, .ref x0), (1, .int x1), (2, .int x2)]) C.1 dX12_remember_20 (by decide) rfl ?_
      refine k_sub (lv' := [(0, .ref x0), (1, .int x1), (2, .int x2), (3, .int (0 : Int32))]) [1, 2, 3, 0] rfl ?_
      exact b_X12_remember_21 C x0 x1 x2 (0 : Int32) M2 h
  · have h := h.2 c4
    exact k_vret C dX12_remember_9 h
abbrev rm_X12_review : Room := { frames := 3, cells := 0, slots := 0, locals := 67 }
set_option maxRecDepth 100000 in
set_option maxHeartbeats 4000000 in
theorem b_X12_review_44 {X : gh_X} {sh : gh_Sh} {n : Nat} {post : Int32 → gh_M → Prop} (C : gh_CR X cX12_review RX12 6 (some .int) sh n 0 0 (gh_pi post)) (x0 : Nat) (x1 : Int32) (x2 : Int32) (x3 : Int32) (x4 : Int32) (M : gh_M) (h : wp_X12_review_44 sh post x0 x1 x2 x3 x4 M) : gh_G X rm_X12_review 6 0 0 sh n 44 [(0, .ref x0), (1, .int x1), (2, .int x2), (3, .int x3), (4, .int x4)] [] M := by
  unfold wp_X12_review_44 at h
  refine k_aload_n C.1 0 rfl dX12_review_44 ?_
  refine k_iload_n C.1 3 rfl dX12_review_45 ?_
  refine k_iload_n C.1 2 rfl dX12_review_46 ?_
  obtain ⟨hs1, h⟩ := h
  refine k_callV (As := [.int x3, .int x2]) (rest := []) C.1 V_X12_196 (c_X12_knows h) ⟨rfl, rfl, Nat.le_of_ble_eq_true rfl, Nat.le_of_ble_eq_true rfl⟩ hs1  rfl rfl (Nat.le_of_ble_eq_true rfl) ⟨Nat.zero_le _, Nat.zero_le _⟩ dX12_review_47 (kp_i fun r3 M2 h9 => ?_)
  replace h := h9
  refine k_if_ne C.1 56 dX12_review_50 (by decide) (fun c4 => ?_) (fun c4 => ?_)
  · have h := h.2 c4
    refine k_aload_n C.1 0 rfl dX12_review_56 ?_
    obtain ⟨q5, hq5, h⟩ := h
    refine k_getR C.1 F_X12_40 dX12_review_57 hs1 hq5 ?_
    refine k_iload C.1 4 rfl dX12_review_60 ?_
    obtain ⟨hs6, h⟩ := h
    obtain ⟨hi7, h⟩ := h
    refine k_iald C.1 dX12_review_62 hs6 hi7 ?_
    refine k_iload_n C.1 3 rfl dX12_review_63 ?_
    refine k_icmp_ne C.1 70 dX12_review_64 (by decide) (fun c8 => ?_) (fun c8 => ?_)
    · have h := h.2 c8
      refine k_aload_n C.1 0 rfl dX12_review_70 ?_
      refine k_iload_n C.1 1 rfl dX12_review_71 ?_
      refine k_iload_n C.1 2 rfl dX12_review_72 ?_
      refine k_callV (As := [.int x1, .int x2]) (rest := []) C.1 V_X12_213 (c_X12_faultOf h) ⟨rfl, rfl, Nat.le_of_ble_eq_true rfl, Nat.le_of_ble_eq_true rfl⟩ hs1  rfl rfl (Nat.le_of_ble_eq_true rfl) ⟨Nat.zero_le _, Nat.zero_le _⟩ dX12_review_73 (kp_i fun r10 M9 h9 => ?_)
      replace h := h9
      refine k_istore (lv' := [(5, .int r10), (0, .ref x0), (1, .int x1), (2, .int x2), (3, .int x3), (4, .int x4)]) C.1 dX12_review_76 (by decide) rfl ?_
      refine k_iload C.1 0 rfl dX12_review_78 ?_
      refine k_if_le C.1 89 dX12_review_80 (by decide) (fun c11 => ?_) (fun c11 => ?_)
      · have h := h.1 c11
        refine k_aload_n C.1 1 rfl dX12_review_89 ?_
        obtain ⟨q12, hq12, h⟩ := h
        refine k_getR C.1 F_X12_37 dX12_review_90 hs1 hq12 ?_
        refine k_iload C.1 5 rfl dX12_review_93 ?_
        refine k_iconst (v := 2) C.1 dX12_review_95 (by decide) ?_
        obtain ⟨hs14, h⟩ := h
        obtain ⟨hi13, h⟩ := h
        refine k_iast C.1 dX12_review_96 hs14 hi13 ?_
        refine k_aload_n C.1 1 rfl dX12_review_97 ?_
        refine k_iload_n C.1 2 rfl dX12_review_98 ?_
        refine k_iload_n C.1 3 rfl dX12_review_99 ?_
        refine k_callV (As := [.int x1, .int x2]) (rest := []) C.1 V_X12_216 (c_X12_remember h) ⟨rfl, rfl, Nat.le_of_ble_eq_true rfl, Nat.le_of_ble_eq_true rfl⟩ hs1  rfl rfl (Nat.le_of_ble_eq_true rfl) ⟨Nat.zero_le _, Nat.zero_le _⟩ dX12_review_100 (kp_v fun M15 h9 => ?_)
        replace h := h9
        refine k_aload_n C.1 1 rfl dX12_review_103 ?_
        refine k_getI C.1 F_X12_207 dX12_review_104 hs1 ?_
        exact k_iret C dX12_review_107 h
      · have h := h.2 c11
        refine k_bipush (v := (-10)) C.1 dX12_review_83 (by decide) ?_
        refine k_iload C.1 0 rfl dX12_review_85 ?_
        refine k_isub C.1 dX12_review_87 ?_
        exact k_iret C dX12_review_88 h
    · have h := h.1 c8
      refine k_bipush (v := (-7)) C.1 dX12_review_67 (by decide) ?_
      exact k_iret C dX12_review_69 h
  · have h := h.1 c4
    refine k_bipush (v := (-3)) C.1 dX12_review_53 (by decide) ?_
    exact k_iret C dX12_review_55 h
set_option maxRecDepth 100000 in
set_option maxHeartbeats 4000000 in
theorem c_X12_review {l : Launch} {D : va_G} {dA : Nat → ClassId} {sh : gh_Sh} {b0 n : Nat} {M : gh_M} {x0 : Nat} {x1 : Int32} {x2 : Int32} {x3 : Int32} {post : Int32 → gh_M → Prop} (h : wp_X12_review sh M x0 x1 x2 x3 post) : gh_Met l D dA sh b0 n yX12_review cX12_review 6 (some .int) rm_X12_review M [.ref x0, .int x1, .int x2, .int x3] (gh_pi post) := by
  refine gh_open (by decide) (Nat.le_of_ble_eq_true rfl) (fun X C => ?_)
  show gh_G X rm_X12_review 6 0 0 sh n 0 [(0, .ref x0), (1, .int x1), (2, .int x2), (3, .int x3)] [] M
  unfold wp_X12_review at h
  refine k_aload_n C.1 0 rfl dX12_review_0 ?_
  refine k_iload_n C.1 1 rfl dX12_review_1 ?_
  refine k_iload_n C.1 2 rfl dX12_review_2 ?_
  refine k_iload_n C.1 3 rfl dX12_review_3 ?_
  obtain ⟨hs1, h⟩ := h
  refine k_callV (As := [.int x1, .int x2, .int x3]) (rest := []) C.1 V_X12_193 (c_X12_areThree h) ⟨rfl, rfl, Nat.le_of_ble_eq_true rfl, Nat.le_of_ble_eq_true rfl⟩ hs1  rfl rfl (Nat.le_of_ble_eq_true rfl) ⟨Nat.zero_le _, Nat.zero_le _⟩ dX12_review_4 (kp_i fun r3 M2 h9 => ?_)
  replace h := h9
  refine k_if_ne C.1 12 dX12_review_7 (by decide) (fun c4 => ?_) (fun c4 => ?_)
  · have h := h.2 c4
    refine k_iconst (v := 3) C.1 dX12_review_12 (by decide) ?_
    refine k_iload_n C.1 1 rfl dX12_review_13 ?_
    refine k_imul C.1 dX12_review_14 ?_
    refine k_iload_n C.1 2 rfl dX12_review_15 ?_
    refine k_iadd C.1 dX12_review_16 ?_
    refine k_istore (lv' := [(4, .int (((3 : Int32) * x1) + x2)), (0, .ref x0), (1, .int x1), (2, .int x2), (3, .int x3)]) C.1 dX12_review_17 (by decide) rfl ?_
    refine k_aload_n C.1 1 rfl dX12_review_19 ?_
    obtain ⟨q5, hq5, h⟩ := h
    refine k_getR C.1 F_X12_37 dX12_review_20 hs1 hq5 ?_
    refine k_iload C.1 0 rfl dX12_review_23 ?_
    obtain ⟨hs6, h⟩ := h
    obtain ⟨hi7, h⟩ := h
    refine k_iald C.1 dX12_review_25 hs6 hi7 ?_
    refine k_iconst (v := 1) C.1 dX12_review_26 (by decide) ?_
    refine k_icmp_eq C.1 44 dX12_review_27 (by decide) (fun c8 => ?_) (fun c8 => ?_)
    · have h := h.1 c8
      refine k_sub (lv' := [(0, .ref x0), (1, .int x1), (2, .int x2), (3, .int x3), (4, .int (((3 : Int32) * x1) + x2))]) [1, 2, 3, 4, 0] rfl ?_
      exact b_X12_review_44 C x0 x1 x2 x3 (((3 : Int32) * x1) + x2) M2 h
    · have h := h.2 c8
      refine k_aload_n C.1 1 rfl dX12_review_30 ?_
      refine k_getR C.1 F_X12_37 dX12_review_31 hs1 hq5 ?_
      refine k_iload C.1 0 rfl dX12_review_34 ?_
      obtain ⟨hi9, h⟩ := h
      refine k_iald C.1 dX12_review_36 hs6 hi9 ?_
      refine k_iconst (v := 3) C.1 dX12_review_37 (by decide) ?_
      refine k_icmp_eq C.1 44 dX12_review_38 (by decide) (fun c10 => ?_) (fun c10 => ?_)
      · have h := h.1 c10
        refine k_sub (lv' := [(0, .ref x0), (1, .int x1), (2, .int x2), (3, .int x3), (4, .int (((3 : Int32) * x1) + x2))]) [1, 2, 3, 4, 0] rfl ?_
        exact b_X12_review_44 C x0 x1 x2 x3 (((3 : Int32) * x1) + x2) M2 h
      · have h := h.2 c10
        refine k_bipush (v := (-4)) C.1 dX12_review_41 (by decide) ?_
        exact k_iret C dX12_review_43 h
  · have h := h.1 c4
    refine k_iconst (v := (-1)) C.1 dX12_review_10 (by decide) ?_
    exact k_iret C dX12_review_11 h
abbrev rm_X12_findNearest : Room := { frames := 2, cells := 0, slots := 0, locals := 50 }
set_option maxRecDepth 100000 in
set_option maxHeartbeats 4000000 in
theorem b_X12_findNearest_107 {X : gh_X} {sh : gh_Sh} {n : Nat} {post : gh_M → Prop} (C : gh_CR X cX12_findNearest RX12 5 none sh n 0 0 (gh_pv post)) (x0 : Nat) (x1 : Int32) (x2 : Int32) (x3 : Int32) (M : gh_M) (k13 : Int32 → gh_M → Prop) (hk13 : ∀ (y3 : Int32) (M : gh_M), k13 y3 M → gh_G X rm_X12_findNearest 5 0 0 sh n 13 [(0, .ref x0), (1, .int x1), (2, .int x2), (3, .int y3)] [] M) (h : wp_X12_findNearest_107 sh post k13 x0 x1 x2 x3 M) : gh_G X rm_X12_findNearest 5 0 0 sh n 107 [(0, .ref x0), (1, .int x1), (2, .int x2), (3, .int x3)] [] M := by
  unfold wp_X12_findNearest_107 at h
  refine k_iinc (v := x3 + 1) (lv' := [(3, .int (x3 + 1)), (0, .ref x0), (1, .int x1), (2, .int x2)]) C.1 3 rfl dX12_findNearest_107 (by decide) rfl rfl ?_
  refine k_goto C.1 13 dX12_findNearest_110 (by decide) ?_
  refine k_sub (lv' := [(0, .ref x0), (1, .int x1), (2, .int x2), (3, .int (x3 + 1))]) [1, 2, 3, 0] rfl ?_
  exact hk13 (x3 + 1) M h
set_option maxRecDepth 100000 in
set_option maxHeartbeats 4000000 in
theorem b_X12_findNearest_78 {X : gh_X} {sh : gh_Sh} {n : Nat} {post : gh_M → Prop} (C : gh_CR X cX12_findNearest RX12 5 none sh n 0 0 (gh_pv post)) (x0 : Nat) (x1 : Int32) (x2 : Int32) (x3 : Int32) (s0 : Int32) (M : gh_M) (k13 : Int32 → gh_M → Prop) (hk13 : ∀ (y3 : Int32) (M : gh_M), k13 y3 M → gh_G X rm_X12_findNearest 5 0 0 sh n 13 [(0, .ref x0), (1, .int x1), (2, .int x2), (3, .int y3)] [] M) (h : wp_X12_findNearest_78 sh post k13 x0 x1 x2 x3 s0 M) : gh_G X rm_X12_findNearest 5 0 0 sh n 78 [(0, .ref x0), (1, .int x1), (2, .int x2), (3, .int x3)] [.int s0] M := by
  unfold wp_X12_findNearest_78 at h
  refine k_istore (lv' := [(4, .int s0), (0, .ref x0), (1, .int x1), (2, .int x2), (3, .int x3)]) C.1 dX12_findNearest_78 (by decide) rfl ?_
  refine k_iload C.1 0 rfl dX12_findNearest_80 ?_
  refine k_ldc (v := 1000000) C.1 (gh_in 1122 (by decide +kernel) rfl) dX12_findNearest_82 ?_
  refine k_icmp_ge C.1 107 dX12_findNearest_84 (by decide) (fun c1 => ?_) (fun c1 => ?_)
  · have h := h.1 c1
    refine k_sub (lv' := [(0, .ref x0), (1, .int x1), (2, .int x2), (3, .int x3)]) [1, 2, 3, 4] rfl ?_
    exact b_X12_findNearest_107 C x0 x1 x2 x3 M k13 hk13 h
  · have h := h.2 c1
    refine k_iload C.1 0 rfl dX12_findNearest_87 ?_
    refine k_aload_n C.1 1 rfl dX12_findNearest_89 ?_
    obtain ⟨hs2, h⟩ := h
    refine k_getI C.1 F_X12_224 dX12_findNearest_90 hs2 ?_
    refine k_icmp_gt C.1 107 dX12_findNearest_93 (by decide) (fun c3 => ?_) (fun c3 => ?_)
    · have h := h.1 c3
      refine k_sub (lv' := [(0, .ref x0), (1, .int x1), (2, .int x2), (3, .int x3)]) [1, 2, 3, 4] rfl ?_
      exact b_X12_findNearest_107 C x0 x1 x2 x3 M k13 hk13 h
    · have h := h.2 c3
      refine k_aload_n C.1 1 rfl dX12_findNearest_96 ?_
      refine k_iload_n C.1 4 rfl dX12_findNearest_97 ?_
      refine k_putI C.1 F_X12_220 dX12_findNearest_98 hs2 rfl rfl ?_
      refine k_aload_n C.1 1 rfl dX12_findNearest_101 ?_
      refine k_iload C.1 0 rfl dX12_findNearest_102 ?_
      refine k_putI C.1 F_X12_224 dX12_findNearest_104 hs2 rfl rfl ?_
      refine k_sub (lv' := [(0, .ref x0), (1, .int x1), (2, .int x2), (3, .int x3)]) [1, 2, 3, 4] rfl ?_
      exact b_X12_findNearest_107 C x0 x1 x2 x3 (wI (wI M x0 41 x3) x0 42 s0) k13 hk13 h
set_option maxRecDepth 100000 in
set_option maxHeartbeats 4000000 in
theorem bb_X12_findNearest_13 {X : gh_X} {sh : gh_Sh} {n : Nat} {post : gh_M → Prop} (C : gh_CR X cX12_findNearest RX12 5 none sh n 0 0 (gh_pv post)) (x0 : Nat) (x1 : Int32) (x2 : Int32) (k13 : Int32 → gh_M → Prop) (hk13 : ∀ (y3 : Int32) (M : gh_M), k13 y3 M → gh_G X rm_X12_findNearest 5 0 0 sh n 13 [(0, .ref x0), (1, .int x1), (2, .int x2), (3, .int y3)] [] M) (x3 : Int32) (M : gh_M) (h : wb_X12_findNearest_13 sh post x0 x1 x2 k13 x3 M) : gh_G X rm_X12_findNearest 5 0 0 sh n 13 [(0, .ref x0), (1, .int x1), (2, .int x2), (3, .int x3)] [] M := by
  unfold wb_X12_findNearest_13 at h
  refine k_iload_n C.1 3 rfl dX12_findNearest_13 ?_
  refine k_aload_n C.1 0 rfl dX12_findNearest_14 ?_
  obtain ⟨hs1, h⟩ := h
  refine k_getI C.1 F_X12_207 dX12_findNearest_15 hs1 ?_
  refine k_icmp_ge C.1 113 dX12_findNearest_18 (by decide) (fun c2 => ?_) (fun c2 => ?_)
  · have h := h.1 c2
    exact k_vret C dX12_findNearest_113 h
  · have h := h.2 c2
    refine k_aload_n C.1 0 rfl dX12_findNearest_21 ?_
    obtain ⟨q3, hq3, h⟩ := h
    refine k_getR C.1 F_X12_71 dX12_findNearest_22 hs1 hq3 ?_
    refine k_bipush (v := 21) C.1 dX12_findNearest_25 (by decide) ?_
    refine k_iload_n C.1 3 rfl dX12_findNearest_27 ?_
    refine k_imul C.1 dX12_findNearest_28 ?_
    obtain ⟨hs4, h⟩ := h
    obtain ⟨hi5, h⟩ := h
    refine k_iald C.1 dX12_findNearest_29 hs4 hi5 ?_
    refine k_iload_n C.1 2 rfl dX12_findNearest_30 ?_
    refine k_icmp_ne C.1 76 dX12_findNearest_31 (by decide) (fun c6 => ?_) (fun c6 => ?_)
    · have h := h.2 c6
      refine k_ldc (v := 1000000) C.1 (gh_in 1122 (by decide +kernel) rfl) dX12_findNearest_76 ?_
      exact b_X12_findNearest_78 C x0 x1 x2 x3 (1000000 : Int32) M k13 hk13 h
    · have h := h.1 c6
      refine k_aload_n C.1 0 rfl dX12_findNearest_34 ?_
      refine k_aload_n C.1 0 rfl dX12_findNearest_35 ?_
      obtain ⟨q7, hq7, h⟩ := h
      refine k_getR C.1 F_X12_19 dX12_findNearest_36 hs1 hq7 ?_
      refine k_bipush (v := 8) C.1 dX12_findNearest_39 (by decide) ?_
      refine k_iload_n C.1 1 rfl dX12_findNearest_41 ?_
      refine k_imul C.1 dX12_findNearest_42 ?_
      refine k_aload_n C.1 0 rfl dX12_findNearest_43 ?_
      obtain ⟨q8, hq8, h⟩ := h
      refine k_getR C.1 F_X12_16 dX12_findNearest_44 hs1 hq8 ?_
      refine k_iload_n C.1 1 rfl dX12_findNearest_47 ?_
      obtain ⟨hs9, h⟩ := h
      obtain ⟨hi10, h⟩ := h
      refine k_iald C.1 dX12_findNearest_48 hs9 hi10 ?_
      refine k_aload_n C.1 0 rfl dX12_findNearest_49 ?_
      refine k_getR C.1 F_X12_71 dX12_findNearest_50 hs1 hq3 ?_
      refine k_bipush (v := 21) C.1 dX12_findNearest_53 (by decide) ?_
      refine k_iload_n C.1 3 rfl dX12_findNearest_55 ?_
      refine k_imul C.1 dX12_findNearest_56 ?_
      refine k_iconst (v := 3) C.1 dX12_findNearest_57 (by decide) ?_
      refine k_iadd C.1 dX12_findNearest_58 ?_
      refine k_aload_n C.1 0 rfl dX12_findNearest_59 ?_
      refine k_getR C.1 F_X12_71 dX12_findNearest_60 hs1 hq3 ?_
      refine k_bipush (v := 21) C.1 dX12_findNearest_63 (by decide) ?_
      refine k_iload_n C.1 3 rfl dX12_findNearest_65 ?_
      refine k_imul C.1 dX12_findNearest_66 ?_
      refine k_iconst (v := 1) C.1 dX12_findNearest_67 (by decide) ?_
      refine k_iadd C.1 dX12_findNearest_68 ?_
      obtain ⟨hi11, h⟩ := h
      refine k_iald C.1 dX12_findNearest_69 hs4 hi11 ?_
      refine k_callV (As := [.ref q7, .int ((8 : Int32) * x1), .int (rI M q8 x1.toNatClampNeg), .ref q3, .int (((21 : Int32) * x3) + (3 : Int32)), .int (rI M q3 (((21 : Int32) * x3) + (1 : Int32)).toNatClampNeg)]) (rest := []) C.1 V_X12_162 (c_X12_apart h) ⟨rfl, rfl, Nat.le_of_ble_eq_true rfl, Nat.le_of_ble_eq_true rfl⟩ hs1  rfl rfl (Nat.le_of_ble_eq_true rfl) ⟨Nat.zero_le _, Nat.zero_le _⟩ dX12_findNearest_70 (kp_i fun r13 M12 h9 => ?_)
      replace h := h9
      refine k_goto C.1 78 dX12_findNearest_73 (by decide) ?_
      exact b_X12_findNearest_78 C x0 x1 x2 x3 r13 M12 k13 hk13 h
set_option maxRecDepth 100000 in
theorem b_X12_findNearest_13 {X : gh_X} {sh : gh_Sh} {n : Nat} {post : gh_M → Prop} (C : gh_CR X cX12_findNearest RX12 5 none sh n 0 0 (gh_pv post)) (x0 : Nat) (x1 : Int32) (x2 : Int32) (x3 : Int32) (M : gh_M) (h : wp_X12_findNearest_13 sh post x0 x1 x2 x3 M) : gh_G X rm_X12_findNearest 5 0 0 sh n 13 [(0, .ref x0), (1, .int x1), (2, .int x2), (3, .int x3)] [] M := by
  unfold wp_X12_findNearest_13 at h
  exact gh_loop_use h (fun v => gh_G X rm_X12_findNearest 5 0 0 sh n 13 [(0, .ref x0), (1, .int x1), (2, .int x2), (3, .int v.1)] [] v.2) (fun k v hk hb => bb_X12_findNearest_13 C x0 x1 x2 (fun x3 M => k (x3, M)) (fun x3 M h => hk (x3, M) h) v.1 v.2 hb)
set_option maxRecDepth 100000 in
set_option maxHeartbeats 4000000 in
theorem c_X12_findNearest {l : Launch} {D : va_G} {dA : Nat → ClassId} {sh : gh_Sh} {b0 n : Nat} {M : gh_M} {x0 : Nat} {x1 : Int32} {x2 : Int32} {post : gh_M → Prop} (h : wp_X12_findNearest sh M x0 x1 x2 post) : gh_Met l D dA sh b0 n yX12_findNearest cX12_findNearest 5 none rm_X12_findNearest M [.ref x0, .int x1, .int x2] (gh_pv post) := by
  refine gh_open (by decide) (Nat.le_of_ble_eq_true rfl) (fun X C => ?_)
  show gh_G X rm_X12_findNearest 5 0 0 sh n 0 [(0, .ref x0), (1, .int x1), (2, .int x2)] [] M
  unfold wp_X12_findNearest at h
  refine k_aload_n C.1 0 rfl dX12_findNearest_0 ?_
  refine k_iconst (v := (-1)) C.1 dX12_findNearest_1 (by decide) ?_
  obtain ⟨hs1, h⟩ := h
  refine k_putI C.1 F_X12_220 dX12_findNearest_2 hs1 rfl rfl ?_
  refine k_aload_n C.1 0 rfl dX12_findNearest_5 ?_
  refine k_ldc (v := 1000000) C.1 (gh_in 1122 (by decide +kernel) rfl) dX12_findNearest_6 ?_
  refine k_putI C.1 F_X12_224 dX12_findNearest_8 hs1 rfl rfl ?_
  refine k_iconst (v := 0) C.1 dX12_findNearest_11 (by decide) ?_
  refine k_istore_n (lv' := [(3, .int (0 : Int32)), (0, .ref x0), (1, .int x1), (2, .int x2)]) C.1 dX12_findNearest_12 (by decide) rfl ?_
  refine k_sub (lv' := [(0, .ref x0), (1, .int x1), (2, .int x2), (3, .int (0 : Int32))]) [1, 2, 3, 0] rfl ?_
  exact b_X12_findNearest_13 C x0 x1 x2 (0 : Int32) (wI (wI M x0 41 (-1 : Int32)) x0 42 (1000000 : Int32)) h
abbrev rm_X12_reuse : Room := { frames := 3, cells := 0, slots := 0, locals := 74 }
set_option maxRecDepth 100000 in
set_option maxHeartbeats 4000000 in
theorem bb_X12_reuse_97 {X : gh_X} {sh : gh_Sh} {n : Nat} {post : Int32 → gh_M → Prop} (C : gh_CR X cX12_reuse RX12 6 (some .int) sh n 0 0 (gh_pi post)) (x0 : Nat) (x4 : Int32) (k97 : Int32 → gh_M → Prop) (hk97 : ∀ (y5 : Int32) (M : gh_M), k97 y5 M → gh_G X rm_X12_reuse 6 0 0 sh n 97 [(0, .ref x0), (4, .int x4), (5, .int y5)] [] M) (x5 : Int32) (M : gh_M) (h : wb_X12_reuse_97 sh post x0 x4 k97 x5 M) : gh_G X rm_X12_reuse 6 0 0 sh n 97 [(0, .ref x0), (4, .int x4), (5, .int x5)] [] M := by
  unfold wb_X12_reuse_97 at h
  refine k_iload C.1 2 rfl dX12_reuse_97 ?_
  refine k_aload_n C.1 0 rfl dX12_reuse_99 ?_
  obtain ⟨hs1, h⟩ := h
  obtain ⟨q2, hq2, h⟩ := h
  refine k_getR C.1 F_X12_43 dX12_reuse_100 hs1 hq2 ?_
  refine k_iload C.1 1 rfl dX12_reuse_103 ?_
  obtain ⟨hs3, h⟩ := h
  obtain ⟨hi4, h⟩ := h
  refine k_iald C.1 dX12_reuse_105 hs3 hi4 ?_
  refine k_icmp_ge C.1 146 dX12_reuse_106 (by decide) (fun c5 => ?_) (fun c5 => ?_)
  · have h := h.1 c5
    refine k_aload_n C.1 0 rfl dX12_reuse_146 ?_
    refine k_getR C.1 F_X12_43 dX12_reuse_147 hs1 hq2 ?_
    refine k_iload C.1 1 rfl dX12_reuse_150 ?_
    obtain ⟨hi6, h⟩ := h
    refine k_iald C.1 dX12_reuse_152 hs3 hi6 ?_
    exact k_iret C dX12_reuse_153 h
  · have h := h.2 c5
    refine k_aload_n C.1 0 rfl dX12_reuse_109 ?_
    obtain ⟨q7, hq7, h⟩ := h
    refine k_getR C.1 F_X12_46 dX12_reuse_110 hs1 hq7 ?_
    refine k_bipush (v := 10) C.1 dX12_reuse_113 (by decide) ?_
    refine k_iload C.1 1 rfl dX12_reuse_115 ?_
    refine k_imul C.1 dX12_reuse_117 ?_
    refine k_iload C.1 2 rfl dX12_reuse_118 ?_
    refine k_iadd C.1 dX12_reuse_120 ?_
    refine k_aload_n C.1 0 rfl dX12_reuse_121 ?_
    obtain ⟨q8, hq8, h⟩ := h
    refine k_getR C.1 F_X12_71 dX12_reuse_122 hs1 hq8 ?_
    refine k_bipush (v := 21) C.1 dX12_reuse_125 (by decide) ?_
    refine k_aload_n C.1 0 rfl dX12_reuse_127 ?_
    refine k_getI C.1 F_X12_220 dX12_reuse_128 hs1 ?_
    refine k_imul C.1 dX12_reuse_131 ?_
    refine k_bipush (v := 11) C.1 dX12_reuse_132 (by decide) ?_
    refine k_iadd C.1 dX12_reuse_134 ?_
    refine k_iload C.1 2 rfl dX12_reuse_135 ?_
    refine k_iadd C.1 dX12_reuse_137 ?_
    obtain ⟨hs9, h⟩ := h
    obtain ⟨hi10, h⟩ := h
    refine k_iald C.1 dX12_reuse_138 hs9 hi10 ?_
    obtain ⟨hs12, h⟩ := h
    obtain ⟨hi11, h⟩ := h
    refine k_iast C.1 dX12_reuse_139 hs12 hi11 ?_
    refine k_iinc (v := x5 + 1) (lv' := [(5, .int (x5 + 1)), (0, .ref x0), (4, .int x4)]) C.1 2 rfl dX12_reuse_140 (by decide) rfl rfl ?_
    refine k_goto C.1 97 dX12_reuse_143 (by decide) ?_
    refine k_sub (lv' := [(0, .ref x0), (4, .int x4), (5, .int (x5 + 1))]) [1, 2, 0] rfl ?_
    exact hk97 (x5 + 1) (wI M q7 (((10 : Int32) * x4) + x5).toNatClampNeg (rI M q8 ((((21 : Int32) * (rI M x0 41)) + (11 : Int32)) + x5).toNatClampNeg)) h
set_option maxRecDepth 100000 in
theorem b_X12_reuse_97 {X : gh_X} {sh : gh_Sh} {n : Nat} {post : Int32 → gh_M → Prop} (C : gh_CR X cX12_reuse RX12 6 (some .int) sh n 0 0 (gh_pi post)) (x0 : Nat) (x4 : Int32) (x5 : Int32) (M : gh_M) (h : wp_X12_reuse_97 sh post x0 x4 x5 M) : gh_G X rm_X12_reuse 6 0 0 sh n 97 [(0, .ref x0), (4, .int x4), (5, .int x5)] [] M := by
  unfold wp_X12_reuse_97 at h
  exact gh_loop_use h (fun v => gh_G X rm_X12_reuse 6 0 0 sh n 97 [(0, .ref x0), (4, .int x4), (5, .int v.1)] [] v.2) (fun k v hk hb => bb_X12_reuse_97 C x0 x4 (fun x5 M => k (x5, M)) (fun x5 M h => hk (x5, M) h) v.1 v.2 hb)
set_option maxRecDepth 100000 in
set_option maxHeartbeats 4000000 in
theorem c_X12_reuse {l : Launch} {D : va_G} {dA : Nat → ClassId} {sh : gh_Sh} {b0 n : Nat} {M : gh_M} {x0 : Nat} {x1 : Int32} {x2 : Int32} {x3 : Int32} {post : Int32 → gh_M → Prop} (h : wp_X12_reuse sh M x0 x1 x2 x3 post) : gh_Met l D dA sh b0 n yX12_reuse cX12_reuse 6 (some .int) rm_X12_reuse M [.ref x0, .int x1, .int x2, .int x3] (gh_pi post) := by
  refine gh_open (by decide) (Nat.le_of_ble_eq_true rfl) (fun X C => ?_)
  show gh_G X rm_X12_reuse 6 0 0 sh n 0 [(0, .ref x0), (1, .int x1), (2, .int x2), (3, .int x3)] [] M
  unfold wp_X12_reuse at h
  refine k_aload_n C.1 0 rfl dX12_reuse_0 ?_
  refine k_iload_n C.1 1 rfl dX12_reuse_1 ?_
  refine k_iload_n C.1 2 rfl dX12_reuse_2 ?_
  refine k_iload_n C.1 3 rfl dX12_reuse_3 ?_
  obtain ⟨hs1, h⟩ := h
  refine k_callV (As := [.int x1, .int x2, .int x3]) (rest := []) C.1 V_X12_193 (c_X12_areThree h) ⟨rfl, rfl, Nat.le_of_ble_eq_true rfl, Nat.le_of_ble_eq_true rfl⟩ hs1  rfl rfl (Nat.le_of_ble_eq_true rfl) ⟨Nat.zero_le _, Nat.zero_le _⟩ dX12_reuse_4 (kp_i fun r3 M2 h9 => ?_)
  replace h := h9
  refine k_if_ne C.1 12 dX12_reuse_7 (by decide) (fun c4 => ?_) (fun c4 => ?_)
  · have h := h.2 c4
    refine k_aload_n C.1 0 rfl dX12_reuse_12 ?_
    obtain ⟨q5, hq5, h⟩ := h
    refine k_getR C.1 F_X12_13 dX12_reuse_13 hs1 hq5 ?_
    refine k_iload_n C.1 1 rfl dX12_reuse_16 ?_
    obtain ⟨hs6, h⟩ := h
    obtain ⟨hi7, h⟩ := h
    refine k_iald C.1 dX12_reuse_17 hs6 hi7 ?_
    refine k_iconst (v := 1) C.1 dX12_reuse_18 (by decide) ?_
    refine k_icmp_eq C.1 31 dX12_reuse_19 (by decide) (fun c8 => ?_) (fun c8 => ?_)
    · have h := h.1 c8
      refine k_bipush (v := (-3)) C.1 dX12_reuse_31 (by decide) ?_
      exact k_iret C dX12_reuse_33 h
    · have h := h.2 c8
      refine k_aload_n C.1 0 rfl dX12_reuse_22 ?_
      refine k_iload_n C.1 3 rfl dX12_reuse_23 ?_
      refine k_iload_n C.1 2 rfl dX12_reuse_24 ?_
      refine k_callV (As := [.int x3, .int x2]) (rest := []) C.1 V_X12_196 (c_X12_knows h) ⟨rfl, rfl, Nat.le_of_ble_eq_true rfl, Nat.le_of_ble_eq_true rfl⟩ hs1  rfl rfl (Nat.le_of_ble_eq_true rfl) ⟨Nat.zero_le _, Nat.zero_le _⟩ dX12_reuse_25 (kp_i fun r10 M9 h9 => ?_)
      replace h := h9
      refine k_if_ne C.1 34 dX12_reuse_28 (by decide) (fun c11 => ?_) (fun c11 => ?_)
      · have h := h.2 c11
        refine k_aload_n C.1 0 rfl dX12_reuse_34 ?_
        refine k_iload_n C.1 1 rfl dX12_reuse_35 ?_
        refine k_iload_n C.1 2 rfl dX12_reuse_36 ?_
        refine k_callV (As := [.int x1, .int x2]) (rest := []) C.1 V_X12_227 (c_X12_findNearest h) ⟨rfl, rfl, Nat.le_of_ble_eq_true rfl, Nat.le_of_ble_eq_true rfl⟩ hs1  rfl rfl (Nat.le_of_ble_eq_true rfl) ⟨Nat.zero_le _, Nat.zero_le _⟩ dX12_reuse_37 (kp_v fun M12 h9 => ?_)
        replace h := h9
        refine k_aload_n C.1 0 rfl dX12_reuse_40 ?_
        refine k_getI C.1 F_X12_220 dX12_reuse_41 hs1 ?_
        refine k_if_ge C.1 50 dX12_reuse_44 (by decide) (fun c13 => ?_) (fun c13 => ?_)
        · have h := h.1 c13
          refine k_iconst (v := 3) C.1 dX12_reuse_50 (by decide) ?_
          refine k_iload_n C.1 1 rfl dX12_reuse_51 ?_
          refine k_imul C.1 dX12_reuse_52 ?_
          refine k_iload_n C.1 2 rfl dX12_reuse_53 ?_
          refine k_iadd C.1 dX12_reuse_54 ?_
          refine k_istore (lv' := [(4, .int (((3 : Int32) * x1) + x2)), (0, .ref x0), (1, .int x1), (2, .int x2), (3, .int x3)]) C.1 dX12_reuse_55 (by decide) rfl ?_
          refine k_aload_n C.1 1 rfl dX12_reuse_57 ?_
          obtain ⟨q14, hq14, h⟩ := h
          refine k_getR C.1 F_X12_37 dX12_reuse_58 hs1 hq14 ?_
          refine k_iload C.1 0 rfl dX12_reuse_61 ?_
          refine k_iconst (v := 1) C.1 dX12_reuse_63 (by decide) ?_
          obtain ⟨hs16, h⟩ := h
          obtain ⟨hi15, h⟩ := h
          refine k_iast C.1 dX12_reuse_64 hs16 hi15 ?_
          refine k_aload_n C.1 1 rfl dX12_reuse_65 ?_
          obtain ⟨q17, hq17, h⟩ := h
          refine k_getR C.1 F_X12_40 dX12_reuse_66 hs1 hq17 ?_
          refine k_iload C.1 0 rfl dX12_reuse_69 ?_
          refine k_iload_n C.1 4 rfl dX12_reuse_71 ?_
          obtain ⟨hs19, h⟩ := h
          obtain ⟨hi18, h⟩ := h
          refine k_iast C.1 dX12_reuse_72 hs19 hi18 ?_
          refine k_aload_n C.1 1 rfl dX12_reuse_73 ?_
          obtain ⟨q20, hq20, h⟩ := h
          refine k_getR C.1 F_X12_43 dX12_reuse_74 hs1 hq20 ?_
          refine k_iload C.1 0 rfl dX12_reuse_77 ?_
          refine k_aload_n C.1 1 rfl dX12_reuse_79 ?_
          obtain ⟨q21, hq21, h⟩ := h
          refine k_getR C.1 F_X12_71 dX12_reuse_80 hs1 hq21 ?_
          refine k_bipush (v := 21) C.1 dX12_reuse_83 (by decide) ?_
          refine k_aload_n C.1 1 rfl dX12_reuse_85 ?_
          refine k_getI C.1 F_X12_220 dX12_reuse_86 hs1 ?_
          refine k_imul C.1 dX12_reuse_89 ?_
          refine k_iconst (v := 2) C.1 dX12_reuse_90 (by decide) ?_
          refine k_iadd C.1 dX12_reuse_91 ?_
          obtain ⟨hs22, h⟩ := h
          obtain ⟨hi23, h⟩ := h
          refine k_iald C.1 dX12_reuse_92 hs22 hi23 ?_
          generalize eM24 : wI (wI M12 q14 (((3 : Int32) * x1) + x2).toNatClampNeg (1 : Int32)) q17 (((3 : Int32) * x1) + x2).toNatClampNeg x3 = M24
          replace h := h M24 eM24.symm
          obtain ⟨hs26, h⟩ := h
          obtain ⟨hi25, h⟩ := h
          refine k_iast C.1 dX12_reuse_93 hs26 hi25 ?_
          refine k_iconst (v := 0) C.1 dX12_reuse_94 (by decide) ?_
          refine k_istore (lv' := [(5, .int (0 : Int32)), (4, .int (((3 : Int32) * x1) + x2)), (0, .ref x0), (1, .int x1), (2, .int x2), (3, .int x3)]) C.1 dX12_reuse_95 (by decide) rfl ?_
          refine k_sub (lv' := [(0, .ref x0), (4, .int (((3 : Int32) * x1) + x2)), (5, .int (0 : Int32))]) [2, 1, 0] rfl ?_
          exact b_X12_reuse_97 C x0 (((3 : Int32) * x1) + x2) (0 : Int32) (wI M24 q20 (((3 : Int32) * x1) + x2).toNatClampNeg (rI M24 q21 (((21 : Int32) * (rI M24 x0 41)) + (2 : Int32)).toNatClampNeg)) h
        · have h := h.2 c13
          refine k_bipush (v := (-5)) C.1 dX12_reuse_47 (by decide) ?_
          exact k_iret C dX12_reuse_49 h
      · have h := h.1 c11
        refine k_bipush (v := (-3)) C.1 dX12_reuse_31 (by decide) ?_
        exact k_iret C dX12_reuse_33 h
  · have h := h.1 c4
    refine k_iconst (v := (-1)) C.1 dX12_reuse_10 (by decide) ?_
    exact k_iret C dX12_reuse_11 h
