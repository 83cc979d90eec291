abbrev rm_X12_back : Room := { frames := 1, cells := 0, slots := 0, locals := 23 }
set_option maxRecDepth 100000 in
set_option maxHeartbeats 4000000 in
theorem bb_X12_back_188 {X : gh_X} {sh : gh_Sh} {n : Nat} {post : Int32 → gh_M → Prop} (C : gh_CR X cX12_back RX12 2 (some .int) sh n 0 0 (gh_pi post)) (x0 : Nat) (k188 : Int32 → gh_M → Prop) (hk188 : ∀ (y1 : Int32) (M : gh_M), k188 y1 M → gh_G X rm_X12_back 2 0 0 sh n 188 [(0, .ref x0), (1, .int y1)] [] M) (x1 : Int32) (M : gh_M) (h : wb_X12_back_188 sh post x0 k188 x1 M) : gh_G X rm_X12_back 2 0 0 sh n 188 [(0, .ref x0), (1, .int x1)] [] M := by
  unfold wb_X12_back_188 at h
  refine k_iload_n C.1 1 rfl dX12_back_188 ?_
  refine k_sipush (v := 240) C.1 dX12_back_189 (by decide) ?_
  refine k_icmp_ge C.1 216 dX12_back_192 (by decide) (fun c1 => ?_) (fun c1 => ?_)
  · have h := h.1 c1
    refine k_aload_n C.1 0 rfl dX12_back_216 ?_
    obtain ⟨hs2, h⟩ := h
    obtain ⟨q3, hq3, h⟩ := h
    refine k_getR C.1 F_X12_83 dX12_back_217 hs2 hq3 ?_
    refine k_aload_n C.1 0 rfl dX12_back_220 ?_
    obtain ⟨q4, hq4, h⟩ := h
    refine k_getR C.1 F_X12_71 dX12_back_221 hs2 hq4 ?_
    refine k_sipush (v := 420) C.1 dX12_back_224 (by decide) ?_
    refine k_callS (As := [.ref q3, .ref q4, .int (420 : Int32)]) (rest := []) C.1 V_X12_170 (c_X12_copy h) ⟨rfl, rfl, Nat.le_of_ble_eq_true rfl, Nat.le_of_ble_eq_true rfl⟩  rfl rfl (Nat.le_of_ble_eq_true rfl) ⟨Nat.zero_le _, Nat.zero_le _⟩ dX12_back_227 (kp_v fun M5 h9 => ?_)
    replace h := h9
    refine k_iconst (v := 1) C.1 dX12_back_230 (by decide) ?_
    exact k_iret C dX12_back_231 h
  · have h := h.2 c1
    refine k_aload_n C.1 0 rfl dX12_back_195 ?_
    obtain ⟨hs6, h⟩ := h
    obtain ⟨q7, hq7, h⟩ := h
    refine k_getR C.1 F_X12_46 dX12_back_196 hs6 hq7 ?_
    refine k_iload_n C.1 1 rfl dX12_back_199 ?_
    refine k_aload_n C.1 0 rfl dX12_back_200 ?_
    obtain ⟨q8, hq8, h⟩ := h
    refine k_getR C.1 F_X12_80 dX12_back_201 hs6 hq8 ?_
    refine k_bipush (v := 72) C.1 dX12_back_204 (by decide) ?_
    refine k_iload_n C.1 1 rfl dX12_back_206 ?_
    refine k_iadd C.1 dX12_back_207 ?_
    obtain ⟨hs9, h⟩ := h
    obtain ⟨hi10, h⟩ := h
    refine k_iald C.1 dX12_back_208 hs9 hi10 ?_
    obtain ⟨hs12, h⟩ := h
    obtain ⟨hi11, h⟩ := h
    refine k_iast C.1 dX12_back_209 hs12 hi11 ?_
    refine k_iinc (v := x1 + 1) (lv' := [(1, .int (x1 + 1)), (0, .ref x0)]) C.1 1 rfl dX12_back_210 (by decide) rfl rfl ?_
    refine k_goto C.1 188 dX12_back_213 (by decide) ?_
    refine k_sub (lv' := [(0, .ref x0), (1, .int (x1 + 1))]) [1, 0] rfl ?_
    exact hk188 (x1 + 1) (wI M q7 x1.toNatClampNeg (rI M q8 ((72 : Int32) + x1).toNatClampNeg)) h
set_option maxRecDepth 100000 in
theorem b_X12_back_188 {X : gh_X} {sh : gh_Sh} {n : Nat} {post : Int32 → gh_M → Prop} (C : gh_CR X cX12_back RX12 2 (some .int) sh n 0 0 (gh_pi post)) (x0 : Nat) (x1 : Int32) (M : gh_M) (h : wp_X12_back_188 sh post x0 x1 M) : gh_G X rm_X12_back 2 0 0 sh n 188 [(0, .ref x0), (1, .int x1)] [] M := by
  unfold wp_X12_back_188 at h
  exact gh_loop_use h (fun v => gh_G X rm_X12_back 2 0 0 sh n 188 [(0, .ref x0), (1, .int v.1)] [] v.2) (fun k v hk hb => bb_X12_back_188 C x0 (fun x1 M => k (x1, M)) (fun x1 M h => hk (x1, M) h) v.1 v.2 hb)
set_option maxRecDepth 100000 in
set_option maxHeartbeats 4000000 in
theorem bb_X12_back_132 {X : gh_X} {sh : gh_Sh} {n : Nat} {post : Int32 → gh_M → Prop} (C : gh_CR X cX12_back RX12 2 (some .int) sh n 0 0 (gh_pi post)) (x0 : Nat) (k132 : Int32 → gh_M → Prop) (hk132 : ∀ (y1 : Int32) (M : gh_M), k132 y1 M → gh_G X rm_X12_back 2 0 0 sh n 132 [(0, .ref x0), (1, .int y1)] [] M) (x1 : Int32) (M : gh_M) (h : wb_X12_back_132 sh post x0 k132 x1 M) : gh_G X rm_X12_back 2 0 0 sh n 132 [(0, .ref x0), (1, .int x1)] [] M := by
  unfold wb_X12_back_132 at h
  refine k_iload_n C.1 1 rfl dX12_back_132 ?_
  refine k_bipush (v := 24) C.1 dX12_back_133 (by decide) ?_
  refine k_icmp_ge C.1 186 dX12_back_135 (by decide) (fun c1 => ?_) (fun c1 => ?_)
  · have h := h.1 c1
    refine k_iconst (v := 0) C.1 dX12_back_186 (by decide) ?_
    refine k_istore_n (lv' := [(1, .int (0 : Int32)), (0, .ref x0)]) C.1 dX12_back_187 (by decide) rfl ?_
    refine k_sub (lv' := [(0, .ref x0), (1, .int (0 : Int32))]) [1, 0] rfl ?_
    exact b_X12_back_188 C x0 (0 : Int32) M h
  · have h := h.2 c1
    refine k_aload_n C.1 0 rfl dX12_back_138 ?_
    obtain ⟨hs2, h⟩ := h
    obtain ⟨q3, hq3, h⟩ := h
    refine k_getR C.1 F_X12_37 dX12_back_139 hs2 hq3 ?_
    refine k_iload_n C.1 1 rfl dX12_back_142 ?_
    refine k_aload_n C.1 0 rfl dX12_back_143 ?_
    obtain ⟨q4, hq4, h⟩ := h
    refine k_getR C.1 F_X12_80 dX12_back_144 hs2 hq4 ?_
    refine k_iload_n C.1 1 rfl dX12_back_147 ?_
    obtain ⟨hs5, h⟩ := h
    obtain ⟨hi6, h⟩ := h
    refine k_iald C.1 dX12_back_148 hs5 hi6 ?_
    obtain ⟨hs8, h⟩ := h
    obtain ⟨hi7, h⟩ := h
    refine k_iast C.1 dX12_back_149 hs8 hi7 ?_
    refine k_aload_n C.1 0 rfl dX12_back_150 ?_
    obtain ⟨q9, hq9, h⟩ := h
    refine k_getR C.1 F_X12_40 dX12_back_151 hs2 hq9 ?_
    refine k_iload_n C.1 1 rfl dX12_back_154 ?_
    refine k_aload_n C.1 0 rfl dX12_back_155 ?_
    refine k_getR C.1 F_X12_80 dX12_back_156 hs2 hq4 ?_
    refine k_bipush (v := 24) C.1 dX12_back_159 (by decide) ?_
    refine k_iload_n C.1 1 rfl dX12_back_161 ?_
    refine k_iadd C.1 dX12_back_162 ?_
    obtain ⟨hi10, h⟩ := h
    refine k_iald C.1 dX12_back_163 hs5 hi10 ?_
    obtain ⟨hs12, h⟩ := h
    obtain ⟨hi11, h⟩ := h
    refine k_iast C.1 dX12_back_164 hs12 hi11 ?_
    refine k_aload_n C.1 0 rfl dX12_back_165 ?_
    obtain ⟨q13, hq13, h⟩ := h
    refine k_getR C.1 F_X12_43 dX12_back_166 hs2 hq13 ?_
    refine k_iload_n C.1 1 rfl dX12_back_169 ?_
    refine k_aload_n C.1 0 rfl dX12_back_170 ?_
    refine k_getR C.1 F_X12_80 dX12_back_171 hs2 hq4 ?_
    refine k_bipush (v := 48) C.1 dX12_back_174 (by decide) ?_
    refine k_iload_n C.1 1 rfl dX12_back_176 ?_
    refine k_iadd C.1 dX12_back_177 ?_
    obtain ⟨hi14, h⟩ := h
    refine k_iald C.1 dX12_back_178 hs5 hi14 ?_
    generalize eM15 : wI (wI M q3 x1.toNatClampNeg (rI M q4 x1.toNatClampNeg)) q9 x1.toNatClampNeg (rI (wI M q3 x1.toNatClampNeg (rI M q4 x1.toNatClampNeg)) q4 ((24 : Int32) + x1).toNatClampNeg) = M15
    replace h := h M15 eM15.symm
    obtain ⟨hs17, h⟩ := h
    obtain ⟨hi16, h⟩ := h
    refine k_iast C.1 dX12_back_179 hs17 hi16 ?_
    refine k_iinc (v := x1 + 1) (lv' := [(1, .int (x1 + 1)), (0, .ref x0)]) C.1 1 rfl dX12_back_180 (by decide) rfl rfl ?_
    refine k_goto C.1 132 dX12_back_183 (by decide) ?_
    refine k_sub (lv' := [(0, .ref x0), (1, .int (x1 + 1))]) [1, 0] rfl ?_
    exact hk132 (x1 + 1) (wI M15 q13 x1.toNatClampNeg (rI M15 q4 ((48 : Int32) + x1).toNatClampNeg)) h
set_option maxRecDepth 100000 in
theorem b_X12_back_132 {X : gh_X} {sh : gh_Sh} {n : Nat} {post : Int32 → gh_M → Prop} (C : gh_CR X cX12_back RX12 2 (some .int) sh n 0 0 (gh_pi post)) (x0 : Nat) (x1 : Int32) (M : gh_M) (h : wp_X12_back_132 sh post x0 x1 M) : gh_G X rm_X12_back 2 0 0 sh n 132 [(0, .ref x0), (1, .int x1)] [] M := by
  unfold wp_X12_back_132 at h
  exact gh_loop_use h (fun v => gh_G X rm_X12_back 2 0 0 sh n 132 [(0, .ref x0), (1, .int v.1)] [] v.2) (fun k v hk hb => bb_X12_back_132 C x0 (fun x1 M => k (x1, M)) (fun x1 M h => hk (x1, M) h) v.1 v.2 hb)
set_option maxRecDepth 100000 in
set_option maxHeartbeats 4000000 in
theorem bb_X12_back_103 {X : gh_X} {sh : gh_Sh} {n : Nat} {post : Int32 → gh_M → Prop} (C : gh_CR X cX12_back RX12 2 (some .int) sh n 0 0 (gh_pi post)) (x0 : Nat) (k103 : Int32 → gh_M → Prop) (hk103 : ∀ (y1 : Int32) (M : gh_M), k103 y1 M → gh_G X rm_X12_back 2 0 0 sh n 103 [(0, .ref x0), (1, .int y1)] [] M) (x1 : Int32) (M : gh_M) (h : wb_X12_back_103 sh post x0 k103 x1 M) : gh_G X rm_X12_back 2 0 0 sh n 103 [(0, .ref x0), (1, .int x1)] [] M := by
  unfold wb_X12_back_103 at h
  refine k_iload_n C.1 1 rfl dX12_back_103 ?_
  refine k_bipush (v := 64) C.1 dX12_back_104 (by decide) ?_
  refine k_icmp_ge C.1 130 dX12_back_106 (by decide) (fun c1 => ?_) (fun c1 => ?_)
  · have h := h.1 c1
    refine k_iconst (v := 0) C.1 dX12_back_130 (by decide) ?_
    refine k_istore_n (lv' := [(1, .int (0 : Int32)), (0, .ref x0)]) C.1 dX12_back_131 (by decide) rfl ?_
    refine k_sub (lv' := [(0, .ref x0), (1, .int (0 : Int32))]) [1, 0] rfl ?_
    exact b_X12_back_132 C x0 (0 : Int32) M h
  · have h := h.2 c1
    refine k_aload_n C.1 0 rfl dX12_back_109 ?_
    obtain ⟨hs2, h⟩ := h
    obtain ⟨q3, hq3, h⟩ := h
    refine k_getR C.1 F_X12_19 dX12_back_110 hs2 hq3 ?_
    refine k_iload_n C.1 1 rfl dX12_back_113 ?_
    refine k_aload_n C.1 0 rfl dX12_back_114 ?_
    obtain ⟨q4, hq4, h⟩ := h
    refine k_getR C.1 F_X12_77 dX12_back_115 hs2 hq4 ?_
    refine k_bipush (v := 32) C.1 dX12_back_118 (by decide) ?_
    refine k_iload_n C.1 1 rfl dX12_back_120 ?_
    refine k_iadd C.1 dX12_back_121 ?_
    obtain ⟨hs5, h⟩ := h
    obtain ⟨hi6, h⟩ := h
    refine k_iald C.1 dX12_back_122 hs5 hi6 ?_
    obtain ⟨hs8, h⟩ := h
    obtain ⟨hi7, h⟩ := h
    refine k_iast C.1 dX12_back_123 hs8 hi7 ?_
    refine k_iinc (v := x1 + 1) (lv' := [(1, .int (x1 + 1)), (0, .ref x0)]) C.1 1 rfl dX12_back_124 (by decide) rfl rfl ?_
    refine k_goto C.1 103 dX12_back_127 (by decide) ?_
    refine k_sub (lv' := [(0, .ref x0), (1, .int (x1 + 1))]) [1, 0] rfl ?_
    exact hk103 (x1 + 1) (wI M q3 x1.toNatClampNeg (rI M q4 ((32 : Int32) + x1).toNatClampNeg)) h
set_option maxRecDepth 100000 in
theorem b_X12_back_103 {X : gh_X} {sh : gh_Sh} {n : Nat} {post : Int32 → gh_M → Prop} (C : gh_CR X cX12_back RX12 2 (some .int) sh n 0 0 (gh_pi post)) (x0 : Nat) (x1 : Int32) (M : gh_M) (h : wp_X12_back_103 sh post x0 x1 M) : gh_G X rm_X12_back 2 0 0 sh n 103 [(0, .ref x0), (1, .int x1)] [] M := by
  unfold wp_X12_back_103 at h
  exact gh_loop_use h (fun v => gh_G X rm_X12_back 2 0 0 sh n 103 [(0, .ref x0), (1, .int v.1)] [] v.2) (fun k v hk hb => bb_X12_back_103 C x0 (fun x1 M => k (x1, M)) (fun x1 M h => hk (x1, M) h) v.1 v.2 hb)
set_option maxRecDepth 100000 in
set_option maxHeartbeats 4000000 in
theorem bb_X12_back_32 {X : gh_X} {sh : gh_Sh} {n : Nat} {post : Int32 → gh_M → Prop} (C : gh_CR X cX12_back RX12 2 (some .int) sh n 0 0 (gh_pi post)) (x0 : Nat) (k32 : Int32 → gh_M → Prop) (hk32 : ∀ (y1 : Int32) (M : gh_M), k32 y1 M → gh_G X rm_X12_back 2 0 0 sh n 32 [(0, .ref x0), (1, .int y1)] [] M) (x1 : Int32) (M : gh_M) (h : wb_X12_back_32 sh post x0 k32 x1 M) : gh_G X rm_X12_back 2 0 0 sh n 32 [(0, .ref x0), (1, .int x1)] [] M := by
  unfold wb_X12_back_32 at h
  refine k_iload_n C.1 1 rfl dX12_back_32 ?_
  refine k_bipush (v := 8) C.1 dX12_back_33 (by decide) ?_
  refine k_icmp_ge C.1 101 dX12_back_35 (by decide) (fun c1 => ?_) (fun c1 => ?_)
  · have h := h.1 c1
    refine k_iconst (v := 0) C.1 dX12_back_101 (by decide) ?_
    refine k_istore_n (lv' := [(1, .int (0 : Int32)), (0, .ref x0)]) C.1 dX12_back_102 (by decide) rfl ?_
    refine k_sub (lv' := [(0, .ref x0), (1, .int (0 : Int32))]) [1, 0] rfl ?_
    exact b_X12_back_103 C x0 (0 : Int32) M h
  · have h := h.2 c1
    refine k_aload_n C.1 0 rfl dX12_back_38 ?_
    obtain ⟨hs2, h⟩ := h
    obtain ⟨q3, hq3, h⟩ := h
    refine k_getR C.1 F_X12_13 dX12_back_39 hs2 hq3 ?_
    refine k_iload_n C.1 1 rfl dX12_back_42 ?_
    refine k_aload_n C.1 0 rfl dX12_back_43 ?_
    obtain ⟨q4, hq4, h⟩ := h
    refine k_getR C.1 F_X12_77 dX12_back_44 hs2 hq4 ?_
    refine k_iload_n C.1 1 rfl dX12_back_47 ?_
    obtain ⟨hs5, h⟩ := h
    obtain ⟨hi6, h⟩ := h
    refine k_iald C.1 dX12_back_48 hs5 hi6 ?_
    obtain ⟨hs8, h⟩ := h
    obtain ⟨hi7, h⟩ := h
    refine k_iast C.1 dX12_back_49 hs8 hi7 ?_
    refine k_aload_n C.1 0 rfl dX12_back_50 ?_
    obtain ⟨q9, hq9, h⟩ := h
    refine k_getR C.1 F_X12_16 dX12_back_51 hs2 hq9 ?_
    refine k_iload_n C.1 1 rfl dX12_back_54 ?_
    refine k_aload_n C.1 0 rfl dX12_back_55 ?_
    refine k_getR C.1 F_X12_77 dX12_back_56 hs2 hq4 ?_
    refine k_bipush (v := 8) C.1 dX12_back_59 (by decide) ?_
    refine k_iload_n C.1 1 rfl dX12_back_61 ?_
    refine k_iadd C.1 dX12_back_62 ?_
    obtain ⟨hi10, h⟩ := h
    refine k_iald C.1 dX12_back_63 hs5 hi10 ?_
    obtain ⟨hs12, h⟩ := h
    obtain ⟨hi11, h⟩ := h
    refine k_iast C.1 dX12_back_64 hs12 hi11 ?_
    refine k_aload_n C.1 0 rfl dX12_back_65 ?_
    obtain ⟨q13, hq13, h⟩ := h
    refine k_getR C.1 F_X12_22 dX12_back_66 hs2 hq13 ?_
    refine k_iload_n C.1 1 rfl dX12_back_69 ?_
    refine k_aload_n C.1 0 rfl dX12_back_70 ?_
    refine k_getR C.1 F_X12_77 dX12_back_71 hs2 hq4 ?_
    refine k_bipush (v := 16) C.1 dX12_back_74 (by decide) ?_
    refine k_iload_n C.1 1 rfl dX12_back_76 ?_
    refine k_iadd C.1 dX12_back_77 ?_
    obtain ⟨hi14, h⟩ := h
    refine k_iald C.1 dX12_back_78 hs5 hi14 ?_
    generalize eM15 : wI (wI M q3 x1.toNatClampNeg (rI M q4 x1.toNatClampNeg)) q9 x1.toNatClampNeg (rI (wI M q3 x1.toNatClampNeg (rI M q4 x1.toNatClampNeg)) q4 ((8 : Int32) + x1).toNatClampNeg) = M15
    replace h := h M15 eM15.symm
    obtain ⟨hs17, h⟩ := h
    obtain ⟨hi16, h⟩ := h
    refine k_iast C.1 dX12_back_79 hs17 hi16 ?_
    refine k_aload_n C.1 0 rfl dX12_back_80 ?_
    obtain ⟨q18, hq18, h⟩ := h
    refine k_getR C.1 F_X12_25 dX12_back_81 hs2 hq18 ?_
    refine k_iload_n C.1 1 rfl dX12_back_84 ?_
    refine k_aload_n C.1 0 rfl dX12_back_85 ?_
    obtain ⟨q19, hq19, h⟩ := h
    refine k_getR C.1 F_X12_77 dX12_back_86 hs2 hq19 ?_
    refine k_bipush (v := 24) C.1 dX12_back_89 (by decide) ?_
    refine k_iload_n C.1 1 rfl dX12_back_91 ?_
    refine k_iadd C.1 dX12_back_92 ?_
    obtain ⟨hs20, h⟩ := h
    obtain ⟨hi21, h⟩ := h
    refine k_iald C.1 dX12_back_93 hs20 hi21 ?_
    obtain ⟨hs23, h⟩ := h
    obtain ⟨hi22, h⟩ := h
    refine k_iast C.1 dX12_back_94 hs23 hi22 ?_
    refine k_iinc (v := x1 + 1) (lv' := [(1, .int (x1 + 1)), (0, .ref x0)]) C.1 1 rfl dX12_back_95 (by decide) rfl rfl ?_
    refine k_goto C.1 32 dX12_back_98 (by decide) ?_
    refine k_sub (lv' := [(0, .ref x0), (1, .int (x1 + 1))]) [1, 0] rfl ?_
    exact hk32 (x1 + 1) (wI (wI M15 q13 x1.toNatClampNeg (rI M15 q4 ((16 : Int32) + x1).toNatClampNeg)) q18 x1.toNatClampNeg (rI (wI M15 q13 x1.toNatClampNeg (rI M15 q4 ((16 : Int32) + x1).toNatClampNeg)) q19 ((24 : Int32) + x1).toNatClampNeg)) h
set_option maxRecDepth 100000 in
theorem b_X12_back_32 {X : gh_X} {sh : gh_Sh} {n : Nat} {post : Int32 → gh_M → Prop} (C : gh_CR X cX12_back RX12 2 (some .int) sh n 0 0 (gh_pi post)) (x0 : Nat) (x1 : Int32) (M : gh_M) (h : wp_X12_back_32 sh post x0 x1 M) : gh_G X rm_X12_back 2 0 0 sh n 32 [(0, .ref x0), (1, .int x1)] [] M := by
  unfold wp_X12_back_32 at h
  exact gh_loop_use h (fun v => gh_G X rm_X12_back 2 0 0 sh n 32 [(0, .ref x0), (1, .int v.1)] [] v.2) (fun k v hk hb => bb_X12_back_32 C x0 (fun x1 M => k (x1, M)) (fun x1 M h => hk (x1, M) h) v.1 v.2 hb)
set_option maxRecDepth 100000 in
set_option maxHeartbeats 4000000 in
theorem c_X12_back {l : Launch} {D : va_G} {dA : Nat → ClassId} {sh : gh_Sh} {b0 n : Nat} {M : gh_M} {x0 : Nat} {post : Int32 → gh_M → Prop} (h : wp_X12_back sh M x0 post) : gh_Met l D dA sh b0 n yX12_back cX12_back 2 (some .int) rm_X12_back M [.ref x0] (gh_pi post) := by
  refine gh_open (by decide) (Nat.le_of_ble_eq_true rfl) (fun X C => ?_)
  show gh_G X rm_X12_back 2 0 0 sh n 0 [(0, .ref x0)] [] M
  unfold wp_X12_back at h
  refine k_aload_n C.1 0 rfl dX12_back_0 ?_
  obtain ⟨hs1, h⟩ := h
  refine k_getI C.1 F_X12_262 dX12_back_1 hs1 ?_
  refine k_if_ne C.1 10 dX12_back_4 (by decide) (fun c2 => ?_) (fun c2 => ?_)
  · have h := h.2 c2
    refine k_aload_n C.1 0 rfl dX12_back_10 ?_
    refine k_aload_n C.1 0 rfl dX12_back_11 ?_
    obtain ⟨q3, hq3, h⟩ := h
    refine k_getR C.1 F_X12_74 dX12_back_12 hs1 hq3 ?_
    refine k_iconst (v := 0) C.1 dX12_back_15 (by decide) ?_
    obtain ⟨hs4, h⟩ := h
    obtain ⟨hi5, h⟩ := h
    refine k_iald C.1 dX12_back_16 hs4 hi5 ?_
    refine k_putI C.1 F_X12_132 dX12_back_17 hs1 rfl rfl ?_
    refine k_aload_n C.1 0 rfl dX12_back_20 ?_
    refine k_aload_n C.1 0 rfl dX12_back_21 ?_
    refine k_getR C.1 F_X12_74 dX12_back_22 hs1 hq3 ?_
    refine k_iconst (v := 1) C.1 dX12_back_25 (by decide) ?_
    obtain ⟨hi6, h⟩ := h
    refine k_iald C.1 dX12_back_26 hs4 hi6 ?_
    refine k_putI C.1 F_X12_207 dX12_back_27 hs1 rfl rfl ?_
    refine k_iconst (v := 0) C.1 dX12_back_30 (by decide) ?_
    refine k_istore_n (lv' := [(1, .int (0 : Int32)), (0, .ref x0)]) C.1 dX12_back_31 (by decide) rfl ?_
    refine k_sub (lv' := [(0, .ref x0), (1, .int (0 : Int32))]) [1, 0] rfl ?_
    exact b_X12_back_32 C x0 (0 : Int32) (wI (wI M x0 2 (rI M q3 (0 : Int32).toNatClampNeg)) x0 25 (rI (wI M x0 2 (rI M q3 (0 : Int32).toNatClampNeg)) q3 (1 : Int32).toNatClampNeg)) h
  · have h := h.1 c2
    refine k_bipush (v := (-5)) C.1 dX12_back_7 (by decide) ?_
    exact k_iret C dX12_back_9 h
