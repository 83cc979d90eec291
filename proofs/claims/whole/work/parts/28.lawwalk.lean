theorem b_L_law_994 {X : gh_X} {x0 L : Nat} {xs : Nat → Int32} {sh : gh_Sh} (C : gh_CL X x0 L xs) (x1 : Nat) (x2 : Nat) (x3 : Int32) (M : gh_M) (k18 : Int32 → gh_M → Prop) (hk18 : ∀ (y3 : Int32) (M : gh_M), k18 y3 M → gh_G X room_1 4 583 8711 sh 583 18 [(0, .ref x0), (1, .ref x1), (2, .ref x2), (3, .int y3)] [] M) (h : wp_L_law_994 L xs sh k18 x1 x2 x3 M) : gh_G X room_1 4 583 8711 sh 583 994 [(0, .ref x0), (1, .ref x1), (2, .ref x2), (3, .int x3)] [] M := by
  unfold wp_L_law_994 at h
  refine k_iinc (v := x3 + 4) (lv' := [(3, .int (x3 + 4)), (0, .ref x0), (1, .ref x1), (2, .ref x2)]) C.1 3 rfl dL_law_994 (by decide) rfl rfl ?_
  refine k_goto C.1 18 dL_law_997 (by decide) ?_
  refine k_sub (lv' := [(0, .ref x0), (1, .ref x1), (2, .ref x2), (3, .int (x3 + 4))]) [1, 2, 3, 0] rfl ?_
  exact hk18 (x3 + 4) M h
set_option maxRecDepth 100000 in
set_option maxHeartbeats 40000000 in
theorem bb_L_law_18 {X : gh_X} {x0 L : Nat} {xs : Nat → Int32} {sh : gh_Sh} (C : gh_CL X x0 L xs) (x1 : Nat) (x2 : Nat) (k18 : Int32 → gh_M → Prop) (hk18 : ∀ (y3 : Int32) (M : gh_M), k18 y3 M → gh_G X room_1 4 583 8711 sh 583 18 [(0, .ref x0), (1, .ref x1), (2, .ref x2), (3, .int y3)] [] M) (x3 : Int32) (M : gh_M) (h : wb_L_law_18 L xs sh x1 x2 k18 x3 M) : gh_G X room_1 4 583 8711 sh 583 18 [(0, .ref x0), (1, .ref x1), (2, .ref x2), (3, .int x3)] [] M := by
  unfold wb_L_law_18 at h
  refine k_iload_n C.1 3 rfl dL_law_18 ?_
  refine k_aload_n C.1 0 rfl dL_law_19 ?_
  refine k_slen C dL_law_20 ?_
  refine k_iconst (v := 4) C.1 dL_law_21 (by decide) ?_
  refine k_isub C.1 dL_law_22 ?_
  refine k_icmp_gt C.1 1000 dL_law_23 (by decide) (fun c1 => ?_) (fun c1 => ?_)
  · have h := h.1 c1
    refine k_iconst (v := 1) C.1 dL_law_1000 (by decide) ?_
    exact k_lawret C dL_law_1001 (Nat.le_of_ble_eq_true rfl) (Nat.le_of_ble_eq_true rfl)
  · have h := h.2 c1
    refine k_aload_n C.1 0 rfl dL_law_26 ?_
    refine k_iload_n C.1 3 rfl dL_law_27 ?_
    obtain ⟨hi2, h⟩ := h
    refine k_sld C dL_law_28 hi2 ?_
    refine k_bipush (v := 31) C.1 dL_law_29 (by decide) ?_
    refine k_iand C.1 dL_law_31 ?_
    by_cases e3 : (xs x3.toNatClampNeg) &&& (31 : Int32) = 0
    · have h := h.1 e3
      refine k_tableIn (off := 128) C.1 160 dL_law_32 (by rw [e3]; decide) (by rw [e3]; decide) (by rw [e3]; rfl) (by decide) ?_
      refine k_aload_n C.1 1 rfl dL_law_160 ?_
      refine k_aload_n C.1 0 rfl dL_law_161 ?_
      refine k_iload_n C.1 3 rfl dL_law_162 ?_
      refine k_iconst (v := 1) C.1 dL_law_163 (by decide) ?_
      refine k_iadd C.1 dL_law_164 ?_
      obtain ⟨hi4, h⟩ := h
      refine k_sld C dL_law_165 hi4 ?_
      obtain ⟨hs5, h⟩ := h
      obtain ⟨P7, h, hp7⟩ := h
      refine k_callV (As := [.int (xs (x3 + (1 : Int32)).toNatClampNeg)]) (rest := []) C.1 V_L_13 (c_X11_sign h) ⟨rfl, rfl, Nat.le_of_ble_eq_true rfl, Nat.le_of_ble_eq_true rfl⟩ hs5  rfl rfl (Nat.le_of_ble_eq_true rfl) ⟨Nat.le_of_ble_eq_true rfl, Nat.le_of_ble_eq_true rfl⟩ dL_law_166 (kp_i fun r7 M6 h9 => ?_)
      replace h := hp7 r7 M6 h9
      refine k_aload_n C.1 2 rfl dL_law_169 ?_
      refine k_aload_n C.1 0 rfl dL_law_170 ?_
      refine k_iload_n C.1 3 rfl dL_law_171 ?_
      refine k_iconst (v := 1) C.1 dL_law_172 (by decide) ?_
      refine k_iadd C.1 dL_law_173 ?_
      obtain ⟨hi8, h⟩ := h
      refine k_sld C dL_law_174 hi8 ?_
      obtain ⟨hs9, h⟩ := h
      obtain ⟨P11, h, hp11⟩ := h
      refine k_callV (As := [.int (xs (x3 + (1 : Int32)).toNatClampNeg)]) (rest := [.int r7]) C.1 V_L_17 (c_X12_sign h) ⟨rfl, rfl, Nat.le_of_ble_eq_true rfl, Nat.le_of_ble_eq_true rfl⟩ hs9  rfl rfl (Nat.le_of_ble_eq_true rfl) ⟨Nat.le_of_ble_eq_true rfl, Nat.le_of_ble_eq_true rfl⟩ dL_law_175 (kp_i fun r11 M10 h9 => ?_)
      replace h := hp11 r11 M10 h9
      refine k_icmp_eq C.1 994 dL_law_178 (by decide) (fun c12 => ?_) (fun c12 => ?_)
      · have h := h.1 c12
        exact b_L_law_994 C x1 x2 x3 M10 k18 hk18 h
      · have h := h.2 c12
        refine k_iconst (v := 0) C.1 dL_law_181 (by decide) ?_
        exact h.elim
    · have h := h.2
      by_cases e13 : (xs x3.toNatClampNeg) &&& (31 : Int32) = 1
      · have h := h.1 e13
        refine k_tableIn (off := 151) C.1 183 dL_law_32 (by rw [e13]; decide) (by rw [e13]; decide) (by rw [e13]; rfl) (by decide) ?_
        refine k_aload_n C.1 1 rfl dL_law_183 ?_
        obtain ⟨hs14, h⟩ := h
        obtain ⟨P16, h, hp16⟩ := h
        refine k_callV (As := []) (rest := []) C.1 V_L_18 (c_X11_scrap h) ⟨rfl, rfl, Nat.le_of_ble_eq_true rfl, Nat.le_of_ble_eq_true rfl⟩ hs14  rfl rfl (Nat.le_of_ble_eq_true rfl) ⟨Nat.le_of_ble_eq_true rfl, Nat.le_of_ble_eq_true rfl⟩ dL_law_184 (kp_i fun r16 M15 h9 => ?_)
        replace h := hp16 r16 M15 h9
        refine k_aload_n C.1 2 rfl dL_law_187 ?_
        obtain ⟨hs17, h⟩ := h
        obtain ⟨P19, h, hp19⟩ := h
        refine k_callV (As := []) (rest := [.int r16]) C.1 V_L_22 (c_X12_scrap h) ⟨rfl, rfl, Nat.le_of_ble_eq_true rfl, Nat.le_of_ble_eq_true rfl⟩ hs17  rfl rfl (Nat.le_of_ble_eq_true rfl) ⟨Nat.le_of_ble_eq_true rfl, Nat.le_of_ble_eq_true rfl⟩ dL_law_188 (kp_i fun r19 M18 h9 => ?_)
        replace h := hp19 r19 M18 h9
        refine k_icmp_eq C.1 994 dL_law_191 (by decide) (fun c20 => ?_) (fun c20 => ?_)
        · have h := h.1 c20
          exact b_L_law_994 C x1 x2 x3 M18 k18 hk18 h
        · have h := h.2 c20
          refine k_iconst (v := 0) C.1 dL_law_194 (by decide) ?_
          exact h.elim
      · have h := h.2
        by_cases e21 : (xs x3.toNatClampNeg) &&& (31 : Int32) = 2
        · have h := h.1 e21
          refine k_tableIn (off := 164) C.1 196 dL_law_32 (by rw [e21]; decide) (by rw [e21]; decide) (by rw [e21]; rfl) (by decide) ?_
          refine k_aload_n C.1 1 rfl dL_law_196 ?_
          refine k_aload_n C.1 0 rfl dL_law_197 ?_
          refine k_iload_n C.1 3 rfl dL_law_198 ?_
          refine k_iconst (v := 1) C.1 dL_law_199 (by decide) ?_
          refine k_iadd C.1 dL_law_200 ?_
          obtain ⟨hi22, h⟩ := h
          refine k_sld C dL_law_201 hi22 ?_
          obtain ⟨hs23, h⟩ := h
          obtain ⟨P25, h, hp25⟩ := h
          refine k_callV (As := [.int (xs (x3 + (1 : Int32)).toNatClampNeg)]) (rest := []) C.1 V_L_23 (c_X11_piece h) ⟨rfl, rfl, Nat.le_of_ble_eq_true rfl, Nat.le_of_ble_eq_true rfl⟩ hs23  rfl rfl (Nat.le_of_ble_eq_true rfl) ⟨Nat.le_of_ble_eq_true rfl, Nat.le_of_ble_eq_true rfl⟩ dL_law_202 (kp_i fun r25 M24 h9 => ?_)
          replace h := hp25 r25 M24 h9
          refine k_aload_n C.1 2 rfl dL_law_205 ?_
          refine k_aload_n C.1 0 rfl dL_law_206 ?_
          refine k_iload_n C.1 3 rfl dL_law_207 ?_
          refine k_iconst (v := 1) C.1 dL_law_208 (by decide) ?_
          refine k_iadd C.1 dL_law_209 ?_
          obtain ⟨hi26, h⟩ := h
          refine k_sld C dL_law_210 hi26 ?_
          obtain ⟨hs27, h⟩ := h
          obtain ⟨P29, h, hp29⟩ := h
          refine k_callV (As := [.int (xs (x3 + (1 : Int32)).toNatClampNeg)]) (rest := [.int r25]) C.1 V_L_26 (c_X12_piece h) ⟨rfl, rfl, Nat.le_of_ble_eq_true rfl, Nat.le_of_ble_eq_true rfl⟩ hs27  rfl rfl (Nat.le_of_ble_eq_true rfl) ⟨Nat.le_of_ble_eq_true rfl, Nat.le_of_ble_eq_true rfl⟩ dL_law_211 (kp_i fun r29 M28 h9 => ?_)
          replace h := hp29 r29 M28 h9
          refine k_icmp_eq C.1 994 dL_law_214 (by decide) (fun c30 => ?_) (fun c30 => ?_)
          · have h := h.1 c30
            exact b_L_law_994 C x1 x2 x3 M28 k18 hk18 h
          · have h := h.2 c30
            refine k_iconst (v := 0) C.1 dL_law_217 (by decide) ?_
            exact h.elim
        · have h := h.2
          by_cases e31 : (xs x3.toNatClampNeg) &&& (31 : Int32) = 3
          · have h := h.1 e31
            refine k_tableIn (off := 187) C.1 219 dL_law_32 (by rw [e31]; decide) (by rw [e31]; decide) (by rw [e31]; rfl) (by decide) ?_
            refine k_aload_n C.1 1 rfl dL_law_219 ?_
            obtain ⟨hs32, h⟩ := h
            obtain ⟨P34, h, hp34⟩ := h
            refine k_callV (As := []) (rest := []) C.1 V_L_27 (c_X11_drop h) ⟨rfl, rfl, Nat.le_of_ble_eq_true rfl, Nat.le_of_ble_eq_true rfl⟩ hs32  rfl rfl (Nat.le_of_ble_eq_true rfl) ⟨Nat.le_of_ble_eq_true rfl, Nat.le_of_ble_eq_true rfl⟩ dL_law_220 (kp_i fun r34 M33 h9 => ?_)
            replace h := hp34 r34 M33 h9
            refine k_aload_n C.1 2 rfl dL_law_223 ?_
            obtain ⟨hs35, h⟩ := h
            obtain ⟨P37, h, hp37⟩ := h
            refine k_callV (As := []) (rest := [.int r34]) C.1 V_L_30 (c_X12_drop h) ⟨rfl, rfl, Nat.le_of_ble_eq_true rfl, Nat.le_of_ble_eq_true rfl⟩ hs35  rfl rfl (Nat.le_of_ble_eq_true rfl) ⟨Nat.le_of_ble_eq_true rfl, Nat.le_of_ble_eq_true rfl⟩ dL_law_224 (kp_i fun r37 M36 h9 => ?_)
            replace h := hp37 r37 M36 h9
            refine k_icmp_eq C.1 994 dL_law_227 (by decide) (fun c38 => ?_) (fun c38 => ?_)
            · have h := h.1 c38
              exact b_L_law_994 C x1 x2 x3 M36 k18 hk18 h
            · have h := h.2 c38
              refine k_iconst (v := 0) C.1 dL_law_230 (by decide) ?_
              exact h.elim
          · have h := h.2
            by_cases e39 : (xs x3.toNatClampNeg) &&& (31 : Int32) = 4
            · have h := h.1 e39
              refine k_tableIn (off := 200) C.1 232 dL_law_32 (by rw [e39]; decide) (by rw [e39]; decide) (by rw [e39]; rfl) (by decide) ?_
              refine k_aload_n C.1 1 rfl dL_law_232 ?_
              obtain ⟨hs40, h⟩ := h
              obtain ⟨P42, h, hp42⟩ := h
              refine k_callV (As := []) (rest := []) C.1 V_L_31 (c_X11_turn h) ⟨rfl, rfl, Nat.le_of_ble_eq_true rfl, Nat.le_of_ble_eq_true rfl⟩ hs40  rfl rfl (Nat.le_of_ble_eq_true rfl) ⟨Nat.le_of_ble_eq_true rfl, Nat.le_of_ble_eq_true rfl⟩ dL_law_233 (kp_i fun r42 M41 h9 => ?_)
              replace h := hp42 r42 M41 h9
              refine k_aload_n C.1 2 rfl dL_law_236 ?_
              obtain ⟨hs43, h⟩ := h
              obtain ⟨P45, h, hp45⟩ := h
              refine k_callV (As := []) (rest := [.int r42]) C.1 V_L_34 (c_X12_turn h) ⟨rfl, rfl, Nat.le_of_ble_eq_true rfl, Nat.le_of_ble_eq_true rfl⟩ hs43  rfl rfl (Nat.le_of_ble_eq_true rfl) ⟨Nat.le_of_ble_eq_true rfl, Nat.le_of_ble_eq_true rfl⟩ dL_law_237 (kp_i fun r45 M44 h9 => ?_)
              replace h := hp45 r45 M44 h9
              refine k_icmp_eq C.1 994 dL_law_240 (by decide) (fun c46 => ?_) (fun c46 => ?_)
              · have h := h.1 c46
                exact b_L_law_994 C x1 x2 x3 M44 k18 hk18 h
              · have h := h.2 c46
                refine k_iconst (v := 0) C.1 dL_law_243 (by decide) ?_
                exact h.elim
            · have h := h.2
              by_cases e47 : (xs x3.toNatClampNeg) &&& (31 : Int32) = 5
              · have h := h.1 e47
                refine k_tableIn (off := 213) C.1 245 dL_law_32 (by rw [e47]; decide) (by rw [e47]; decide) (by rw [e47]; rfl) (by decide) ?_
                refine k_aload_n C.1 1 rfl dL_law_245 ?_
                refine k_aload_n C.1 0 rfl dL_law_246 ?_
                refine k_iload_n C.1 3 rfl dL_law_247 ?_
                refine k_iconst (v := 1) C.1 dL_law_248 (by decide) ?_
                refine k_iadd C.1 dL_law_249 ?_
                obtain ⟨hi48, h⟩ := h
                refine k_sld C dL_law_250 hi48 ?_
                refine k_aload_n C.1 0 rfl dL_law_251 ?_
                refine k_iload_n C.1 3 rfl dL_law_252 ?_
                refine k_iconst (v := 2) C.1 dL_law_253 (by decide) ?_
                refine k_iadd C.1 dL_law_254 ?_
                obtain ⟨hi49, h⟩ := h
                refine k_sld C dL_law_255 hi49 ?_
                obtain ⟨hs50, h⟩ := h
                obtain ⟨P52, h, hp52⟩ := h
                refine k_callV (As := [.int (xs (x3 + (1 : Int32)).toNatClampNeg), .int (xs (x3 + (2 : Int32)).toNatClampNeg)]) (rest := []) C.1 V_L_35 (c_X11_of h) ⟨rfl, rfl, Nat.le_of_ble_eq_true rfl, Nat.le_of_ble_eq_true rfl⟩ hs50  rfl rfl (Nat.le_of_ble_eq_true rfl) ⟨Nat.le_of_ble_eq_true rfl, Nat.le_of_ble_eq_true rfl⟩ dL_law_256 (kp_i fun r52 M51 h9 => ?_)
                replace h := hp52 r52 M51 h9
                refine k_aload_n C.1 2 rfl dL_law_259 ?_
                refine k_aload_n C.1 0 rfl dL_law_260 ?_
                refine k_iload_n C.1 3 rfl dL_law_261 ?_
                refine k_iconst (v := 1) C.1 dL_law_262 (by decide) ?_
                refine k_iadd C.1 dL_law_263 ?_
                obtain ⟨hi53, h⟩ := h
                refine k_sld C dL_law_264 hi53 ?_
                refine k_aload_n C.1 0 rfl dL_law_265 ?_
                refine k_iload_n C.1 3 rfl dL_law_266 ?_
                refine k_iconst (v := 2) C.1 dL_law_267 (by decide) ?_
                refine k_iadd C.1 dL_law_268 ?_
                obtain ⟨hi54, h⟩ := h
                refine k_sld C dL_law_269 hi54 ?_
                obtain ⟨hs55, h⟩ := h
                obtain ⟨P57, h, hp57⟩ := h
                refine k_callV (As := [.int (xs (x3 + (1 : Int32)).toNatClampNeg), .int (xs (x3 + (2 : Int32)).toNatClampNeg)]) (rest := [.int r52]) C.1 V_L_39 (c_X12_of h) ⟨rfl, rfl, Nat.le_of_ble_eq_true rfl, Nat.le_of_ble_eq_true rfl⟩ hs55  rfl rfl (Nat.le_of_ble_eq_true rfl) ⟨Nat.le_of_ble_eq_true rfl, Nat.le_of_ble_eq_true rfl⟩ dL_law_270 (kp_i fun r57 M56 h9 => ?_)
                replace h := hp57 r57 M56 h9
                refine k_icmp_eq C.1 994 dL_law_273 (by decide) (fun c58 => ?_) (fun c58 => ?_)
                · have h := h.1 c58
                  exact b_L_law_994 C x1 x2 x3 M56 k18 hk18 h
                · have h := h.2 c58
                  refine k_iconst (v := 0) C.1 dL_law_276 (by decide) ?_
                  exact h.elim
              · have h := h.2
                by_cases e59 : (xs x3.toNatClampNeg) &&& (31 : Int32) = 6
                · have h := h.1 e59
                  refine k_tableIn (off := 246) C.1 278 dL_law_32 (by rw [e59]; decide) (by rw [e59]; decide) (by rw [e59]; rfl) (by decide) ?_
                  refine k_aload_n C.1 1 rfl dL_law_278 ?_
                  refine k_aload_n C.1 0 rfl dL_law_279 ?_
                  refine k_iload_n C.1 3 rfl dL_law_280 ?_
                  refine k_iconst (v := 1) C.1 dL_law_281 (by decide) ?_
                  refine k_iadd C.1 dL_law_282 ?_
                  obtain ⟨hi60, h⟩ := h
                  refine k_sld C dL_law_283 hi60 ?_
                  refine k_aload_n C.1 0 rfl dL_law_284 ?_
                  refine k_iload_n C.1 3 rfl dL_law_285 ?_
                  refine k_iconst (v := 2) C.1 dL_law_286 (by decide) ?_
                  refine k_iadd C.1 dL_law_287 ?_
                  obtain ⟨hi61, h⟩ := h
                  refine k_sld C dL_law_288 hi61 ?_
                  obtain ⟨hs62, h⟩ := h
                  obtain ⟨P64, h, hp64⟩ := h
                  refine k_callV (As := [.int (xs (x3 + (1 : Int32)).toNatClampNeg), .int (xs (x3 + (2 : Int32)).toNatClampNeg)]) (rest := []) C.1 V_L_40 (c_X11_far h) ⟨rfl, rfl, Nat.le_of_ble_eq_true rfl, Nat.le_of_ble_eq_true rfl⟩ hs62  rfl rfl (Nat.le_of_ble_eq_true rfl) ⟨Nat.le_of_ble_eq_true rfl, Nat.le_of_ble_eq_true rfl⟩ dL_law_289 (kp_i fun r64 M63 h9 => ?_)
                  replace h := hp64 r64 M63 h9
                  refine k_aload_n C.1 2 rfl dL_law_292 ?_
                  refine k_aload_n C.1 0 rfl dL_law_293 ?_
                  refine k_iload_n C.1 3 rfl dL_law_294 ?_
                  refine k_iconst (v := 1) C.1 dL_law_295 (by decide) ?_
                  refine k_iadd C.1 dL_law_296 ?_
                  obtain ⟨hi65, h⟩ := h
                  refine k_sld C dL_law_297 hi65 ?_
                  refine k_aload_n C.1 0 rfl dL_law_298 ?_
                  refine k_iload_n C.1 3 rfl dL_law_299 ?_
                  refine k_iconst (v := 2) C.1 dL_law_300 (by decide) ?_
                  refine k_iadd C.1 dL_law_301 ?_
                  obtain ⟨hi66, h⟩ := h
                  refine k_sld C dL_law_302 hi66 ?_
                  obtain ⟨hs67, h⟩ := h
                  obtain ⟨P69, h, hp69⟩ := h
                  refine k_callV (As := [.int (xs (x3 + (1 : Int32)).toNatClampNeg), .int (xs (x3 + (2 : Int32)).toNatClampNeg)]) (rest := [.int r64]) C.1 V_L_43 (c_X12_far h) ⟨rfl, rfl, Nat.le_of_ble_eq_true rfl, Nat.le_of_ble_eq_true rfl⟩ hs67  rfl rfl (Nat.le_of_ble_eq_true rfl) ⟨Nat.le_of_ble_eq_true rfl, Nat.le_of_ble_eq_true rfl⟩ dL_law_303 (kp_i fun r69 M68 h9 => ?_)
                  replace h := hp69 r69 M68 h9
                  refine k_icmp_eq C.1 994 dL_law_306 (by decide) (fun c70 => ?_) (fun c70 => ?_)
                  · have h := h.1 c70
                    exact b_L_law_994 C x1 x2 x3 M68 k18 hk18 h
                  · have h := h.2 c70
                    refine k_iconst (v := 0) C.1 dL_law_309 (by decide) ?_
                    exact h.elim
                · have h := h.2
                  by_cases e71 : (xs x3.toNatClampNeg) &&& (31 : Int32) = 7
                  · have h := h.1 e71
                    refine k_tableIn (off := 279) C.1 311 dL_law_32 (by rw [e71]; decide) (by rw [e71]; decide) (by rw [e71]; rfl) (by decide) ?_
                    refine k_aload_n C.1 1 rfl dL_law_311 ?_
                    refine k_aload_n C.1 0 rfl dL_law_312 ?_
                    refine k_iload_n C.1 3 rfl dL_law_313 ?_
                    refine k_iconst (v := 1) C.1 dL_law_314 (by decide) ?_
                    refine k_iadd C.1 dL_law_315 ?_
                    obtain ⟨hi72, h⟩ := h
                    refine k_sld C dL_law_316 hi72 ?_
                    obtain ⟨hs73, h⟩ := h
                    obtain ⟨P75, h, hp75⟩ := h
                    refine k_callV (As := [.int (xs (x3 + (1 : Int32)).toNatClampNeg)]) (rest := []) C.1 V_L_44 (c_X11_from h) ⟨rfl, rfl, Nat.le_of_ble_eq_true rfl, Nat.le_of_ble_eq_true rfl⟩ hs73  rfl rfl (Nat.le_of_ble_eq_true rfl) ⟨Nat.le_of_ble_eq_true rfl, Nat.le_of_ble_eq_true rfl⟩ dL_law_317 (kp_i fun r75 M74 h9 => ?_)
                    replace h := hp75 r75 M74 h9
                    refine k_aload_n C.1 2 rfl dL_law_320 ?_
                    refine k_aload_n C.1 0 rfl dL_law_321 ?_
                    refine k_iload_n C.1 3 rfl dL_law_322 ?_
                    refine k_iconst (v := 1) C.1 dL_law_323 (by decide) ?_
                    refine k_iadd C.1 dL_law_324 ?_
                    obtain ⟨hi76, h⟩ := h
                    refine k_sld C dL_law_325 hi76 ?_
                    obtain ⟨hs77, h⟩ := h
                    obtain ⟨P79, h, hp79⟩ := h
                    refine k_callV (As := [.int (xs (x3 + (1 : Int32)).toNatClampNeg)]) (rest := [.int r75]) C.1 V_L_47 (c_X12_from h) ⟨rfl, rfl, Nat.le_of_ble_eq_true rfl, Nat.le_of_ble_eq_true rfl⟩ hs77  rfl rfl (Nat.le_of_ble_eq_true rfl) ⟨Nat.le_of_ble_eq_true rfl, Nat.le_of_ble_eq_true rfl⟩ dL_law_326 (kp_i fun r79 M78 h9 => ?_)
                    replace h := hp79 r79 M78 h9
                    refine k_icmp_eq C.1 994 dL_law_329 (by decide) (fun c80 => ?_) (fun c80 => ?_)
                    · have h := h.1 c80
                      exact b_L_law_994 C x1 x2 x3 M78 k18 hk18 h
                    · have h := h.2 c80
                      refine k_iconst (v := 0) C.1 dL_law_332 (by decide) ?_
                      exact h.elim
                  · have h := h.2
                    by_cases e81 : (xs x3.toNatClampNeg) &&& (31 : Int32) = 8
                    · have h := h.1 e81
                      refine k_tableIn (off := 302) C.1 334 dL_law_32 (by rw [e81]; decide) (by rw [e81]; decide) (by rw [e81]; rfl) (by decide) ?_
                      refine k_aload_n C.1 1 rfl dL_law_334 ?_
                      refine k_aload_n C.1 0 rfl dL_law_335 ?_
                      refine k_iload_n C.1 3 rfl dL_law_336 ?_
                      refine k_iconst (v := 1) C.1 dL_law_337 (by decide) ?_
                      refine k_iadd C.1 dL_law_338 ?_
                      obtain ⟨hi82, h⟩ := h
                      refine k_sld C dL_law_339 hi82 ?_
                      obtain ⟨hs83, h⟩ := h
                      obtain ⟨P85, h, hp85⟩ := h
                      refine k_callV (As := [.int (xs (x3 + (1 : Int32)).toNatClampNeg)]) (rest := []) C.1 V_L_48 (c_X11_story h) ⟨rfl, rfl, Nat.le_of_ble_eq_true rfl, Nat.le_of_ble_eq_true rfl⟩ hs83  rfl rfl (Nat.le_of_ble_eq_true rfl) ⟨Nat.le_of_ble_eq_true rfl, Nat.le_of_ble_eq_true rfl⟩ dL_law_340 (kp_i fun r85 M84 h9 => ?_)
                      replace h := hp85 r85 M84 h9
                      refine k_aload_n C.1 2 rfl dL_law_343 ?_
                      refine k_aload_n C.1 0 rfl dL_law_344 ?_
                      refine k_iload_n C.1 3 rfl dL_law_345 ?_
                      refine k_iconst (v := 1) C.1 dL_law_346 (by decide) ?_
                      refine k_iadd C.1 dL_law_347 ?_
                      obtain ⟨hi86, h⟩ := h
                      refine k_sld C dL_law_348 hi86 ?_
                      obtain ⟨hs87, h⟩ := h
                      obtain ⟨P89, h, hp89⟩ := h
                      refine k_callV (As := [.int (xs (x3 + (1 : Int32)).toNatClampNeg)]) (rest := [.int r85]) C.1 V_L_51 (c_X12_story h) ⟨rfl, rfl, Nat.le_of_ble_eq_true rfl, Nat.le_of_ble_eq_true rfl⟩ hs87  rfl rfl (Nat.le_of_ble_eq_true rfl) ⟨Nat.le_of_ble_eq_true rfl, Nat.le_of_ble_eq_true rfl⟩ dL_law_349 (kp_i fun r89 M88 h9 => ?_)
                      replace h := hp89 r89 M88 h9
                      refine k_icmp_eq C.1 994 dL_law_352 (by decide) (fun c90 => ?_) (fun c90 => ?_)
                      · have h := h.1 c90
                        exact b_L_law_994 C x1 x2 x3 M88 k18 hk18 h
                      · have h := h.2 c90
                        refine k_iconst (v := 0) C.1 dL_law_355 (by decide) ?_
                        exact h.elim
                    · have h := h.2
                      by_cases e91 : (xs x3.toNatClampNeg) &&& (31 : Int32) = 9
                      · have h := h.1 e91
                        refine k_tableIn (off := 325) C.1 357 dL_law_32 (by rw [e91]; decide) (by rw [e91]; decide) (by rw [e91]; rfl) (by decide) ?_
                        refine k_aload_n C.1 1 rfl dL_law_357 ?_
                        refine k_aload_n C.1 0 rfl dL_law_358 ?_
                        refine k_iload_n C.1 3 rfl dL_law_359 ?_
                        refine k_iconst (v := 1) C.1 dL_law_360 (by decide) ?_
                        refine k_iadd C.1 dL_law_361 ?_
                        obtain ⟨hi92, h⟩ := h
                        refine k_sld C dL_law_362 hi92 ?_
                        refine k_aload_n C.1 0 rfl dL_law_363 ?_
                        refine k_iload_n C.1 3 rfl dL_law_364 ?_
                        refine k_iconst (v := 2) C.1 dL_law_365 (by decide) ?_
                        refine k_iadd C.1 dL_law_366 ?_
                        obtain ⟨hi93, h⟩ := h
                        refine k_sld C dL_law_367 hi93 ?_
                        refine k_aload_n C.1 0 rfl dL_law_368 ?_
                        refine k_iload_n C.1 3 rfl dL_law_369 ?_
                        refine k_iconst (v := 3) C.1 dL_law_370 (by decide) ?_
                        refine k_iadd C.1 dL_law_371 ?_
                        obtain ⟨hi94, h⟩ := h
                        refine k_sld C dL_law_372 hi94 ?_
                        obtain ⟨hs95, h⟩ := h
                        obtain ⟨P97, h, hp97⟩ := h
                        refine k_callV (As := [.int (xs (x3 + (1 : Int32)).toNatClampNeg), .int (xs (x3 + (2 : Int32)).toNatClampNeg), .int (xs (x3 + (3 : Int32)).toNatClampNeg)]) (rest := []) C.1 V_L_52 (c_X11_hand h) ⟨rfl, rfl, Nat.le_of_ble_eq_true rfl, Nat.le_of_ble_eq_true rfl⟩ hs95  rfl rfl (Nat.le_of_ble_eq_true rfl) ⟨Nat.le_of_ble_eq_true rfl, Nat.le_of_ble_eq_true rfl⟩ dL_law_373 (kp_i fun r97 M96 h9 => ?_)
                        replace h := hp97 r97 M96 h9
                        refine k_aload_n C.1 2 rfl dL_law_376 ?_
                        refine k_aload_n C.1 0 rfl dL_law_377 ?_
                        refine k_iload_n C.1 3 rfl dL_law_378 ?_
                        refine k_iconst (v := 1) C.1 dL_law_379 (by decide) ?_
                        refine k_iadd C.1 dL_law_380 ?_
                        obtain ⟨hi98, h⟩ := h
                        refine k_sld C dL_law_381 hi98 ?_
                        refine k_aload_n C.1 0 rfl dL_law_382 ?_
                        refine k_iload_n C.1 3 rfl dL_law_383 ?_
                        refine k_iconst (v := 2) C.1 dL_law_384 (by decide) ?_
                        refine k_iadd C.1 dL_law_385 ?_
                        obtain ⟨hi99, h⟩ := h
                        refine k_sld C dL_law_386 hi99 ?_
                        refine k_aload_n C.1 0 rfl dL_law_387 ?_
                        refine k_iload_n C.1 3 rfl dL_law_388 ?_
                        refine k_iconst (v := 3) C.1 dL_law_389 (by decide) ?_
                        refine k_iadd C.1 dL_law_390 ?_
                        obtain ⟨hi100, h⟩ := h
                        refine k_sld C dL_law_391 hi100 ?_
                        obtain ⟨hs101, h⟩ := h
                        obtain ⟨P103, h, hp103⟩ := h
                        refine k_callV (As := [.int (xs (x3 + (1 : Int32)).toNatClampNeg), .int (xs (x3 + (2 : Int32)).toNatClampNeg), .int (xs (x3 + (3 : Int32)).toNatClampNeg)]) (rest := [.int r97]) C.1 V_L_56 (c_X12_hand h) ⟨rfl, rfl, Nat.le_of_ble_eq_true rfl, Nat.le_of_ble_eq_true rfl⟩ hs101  rfl rfl (Nat.le_of_ble_eq_true rfl) ⟨Nat.le_of_ble_eq_true rfl, Nat.le_of_ble_eq_true rfl⟩ dL_law_392 (kp_i fun r103 M102 h9 => ?_)
                        replace h := hp103 r103 M102 h9
                        refine k_icmp_eq C.1 994 dL_law_395 (by decide) (fun c104 => ?_) (fun c104 => ?_)
                        · have h := h.1 c104
                          exact b_L_law_994 C x1 x2 x3 M102 k18 hk18 h
                        · have h := h.2 c104
                          refine k_iconst (v := 0) C.1 dL_law_398 (by decide) ?_
                          exact h.elim
                      · have h := h.2
                        by_cases e105 : (xs x3.toNatClampNeg) &&& (31 : Int32) = 10
                        · have h := h.1 e105
                          refine k_tableIn (off := 368) C.1 400 dL_law_32 (by rw [e105]; decide) (by rw [e105]; decide) (by rw [e105]; rfl) (by decide) ?_
                          refine k_aload_n C.1 1 rfl dL_law_400 ?_
                          refine k_aload_n C.1 0 rfl dL_law_401 ?_
                          refine k_iload_n C.1 3 rfl dL_law_402 ?_
                          refine k_iconst (v := 1) C.1 dL_law_403 (by decide) ?_
                          refine k_iadd C.1 dL_law_404 ?_
                          obtain ⟨hi106, h⟩ := h
                          refine k_sld C dL_law_405 hi106 ?_
                          refine k_aload_n C.1 0 rfl dL_law_406 ?_
                          refine k_iload_n C.1 3 rfl dL_law_407 ?_
                          refine k_iconst (v := 2) C.1 dL_law_408 (by decide) ?_
                          refine k_iadd C.1 dL_law_409 ?_
                          obtain ⟨hi107, h⟩ := h
                          refine k_sld C dL_law_410 hi107 ?_
                          obtain ⟨hs108, h⟩ := h
                          obtain ⟨P110, h, hp110⟩ := h
                          refine k_callV (As := [.int (xs (x3 + (1 : Int32)).toNatClampNeg), .int (xs (x3 + (2 : Int32)).toNatClampNeg)]) (rest := []) C.1 V_L_57 (c_X11_hours h) ⟨rfl, rfl, Nat.le_of_ble_eq_true rfl, Nat.le_of_ble_eq_true rfl⟩ hs108  rfl rfl (Nat.le_of_ble_eq_true rfl) ⟨Nat.le_of_ble_eq_true rfl, Nat.le_of_ble_eq_true rfl⟩ dL_law_411 (kp_i fun r110 M109 h9 => ?_)
                          replace h := hp110 r110 M109 h9
                          refine k_aload_n C.1 2 rfl dL_law_414 ?_
                          refine k_aload_n C.1 0 rfl dL_law_415 ?_
                          refine k_iload_n C.1 3 rfl dL_law_416 ?_
                          refine k_iconst (v := 1) C.1 dL_law_417 (by decide) ?_
                          refine k_iadd C.1 dL_law_418 ?_
                          obtain ⟨hi111, h⟩ := h
                          refine k_sld C dL_law_419 hi111 ?_
                          refine k_aload_n C.1 0 rfl dL_law_420 ?_
                          refine k_iload_n C.1 3 rfl dL_law_421 ?_
                          refine k_iconst (v := 2) C.1 dL_law_422 (by decide) ?_
                          refine k_iadd C.1 dL_law_423 ?_
                          obtain ⟨hi112, h⟩ := h
                          refine k_sld C dL_law_424 hi112 ?_
                          obtain ⟨hs113, h⟩ := h
                          obtain ⟨P115, h, hp115⟩ := h
                          refine k_callV (As := [.int (xs (x3 + (1 : Int32)).toNatClampNeg), .int (xs (x3 + (2 : Int32)).toNatClampNeg)]) (rest := [.int r110]) C.1 V_L_60 (c_X12_hours h) ⟨rfl, rfl, Nat.le_of_ble_eq_true rfl, Nat.le_of_ble_eq_true rfl⟩ hs113  rfl rfl (Nat.le_of_ble_eq_true rfl) ⟨Nat.le_of_ble_eq_true rfl, Nat.le_of_ble_eq_true rfl⟩ dL_law_425 (kp_i fun r115 M114 h9 => ?_)
                          replace h := hp115 r115 M114 h9
                          refine k_icmp_eq C.1 994 dL_law_428 (by decide) (fun c116 => ?_) (fun c116 => ?_)
                          · have h := h.1 c116
                            exact b_L_law_994 C x1 x2 x3 M114 k18 hk18 h
                          · have h := h.2 c116
                            refine k_iconst (v := 0) C.1 dL_law_431 (by decide) ?_
                            exact h.elim
                        · have h := h.2
                          by_cases e117 : (xs x3.toNatClampNeg) &&& (31 : Int32) = 11
                          · have h := h.1 e117
                            refine k_tableIn (off := 401) C.1 433 dL_law_32 (by rw [e117]; decide) (by rw [e117]; decide) (by rw [e117]; rfl) (by decide) ?_
                            refine k_aload_n C.1 1 rfl dL_law_433 ?_
                            refine k_aload_n C.1 0 rfl dL_law_434 ?_
                            refine k_iload_n C.1 3 rfl dL_law_435 ?_
                            refine k_iconst (v := 1) C.1 dL_law_436 (by decide) ?_
                            refine k_iadd C.1 dL_law_437 ?_
                            obtain ⟨hi118, h⟩ := h
                            refine k_sld C dL_law_438 hi118 ?_
                            refine k_aload_n C.1 0 rfl dL_law_439 ?_
                            refine k_iload_n C.1 3 rfl dL_law_440 ?_
                            refine k_iconst (v := 2) C.1 dL_law_441 (by decide) ?_
                            refine k_iadd C.1 dL_law_442 ?_
                            obtain ⟨hi119, h⟩ := h
                            refine k_sld C dL_law_443 hi119 ?_
                            refine k_aload_n C.1 0 rfl dL_law_444 ?_
                            refine k_iload_n C.1 3 rfl dL_law_445 ?_
                            refine k_iconst (v := 3) C.1 dL_law_446 (by decide) ?_
                            refine k_iadd C.1 dL_law_447 ?_
                            obtain ⟨hi120, h⟩ := h
                            refine k_sld C dL_law_448 hi120 ?_
                            obtain ⟨hs121, h⟩ := h
                            obtain ⟨P123, h, hp123⟩ := h
                            refine k_callV (As := [.int (xs (x3 + (1 : Int32)).toNatClampNeg), .int (xs (x3 + (2 : Int32)).toNatClampNeg), .int (xs (x3 + (3 : Int32)).toNatClampNeg)]) (rest := []) C.1 V_L_61 (c_X11_term h) ⟨rfl, rfl, Nat.le_of_ble_eq_true rfl, Nat.le_of_ble_eq_true rfl⟩ hs121  rfl rfl (Nat.le_of_ble_eq_true rfl) ⟨Nat.le_of_ble_eq_true rfl, Nat.le_of_ble_eq_true rfl⟩ dL_law_449 (kp_i fun r123 M122 h9 => ?_)
                            replace h := hp123 r123 M122 h9
                            refine k_aload_n C.1 2 rfl dL_law_452 ?_
                            refine k_aload_n C.1 0 rfl dL_law_453 ?_
                            refine k_iload_n C.1 3 rfl dL_law_454 ?_
                            refine k_iconst (v := 1) C.1 dL_law_455 (by decide) ?_
                            refine k_iadd C.1 dL_law_456 ?_
                            obtain ⟨hi124, h⟩ := h
                            refine k_sld C dL_law_457 hi124 ?_
                            refine k_aload_n C.1 0 rfl dL_law_458 ?_
                            refine k_iload_n C.1 3 rfl dL_law_459 ?_
                            refine k_iconst (v := 2) C.1 dL_law_460 (by decide) ?_
                            refine k_iadd C.1 dL_law_461 ?_
                            obtain ⟨hi125, h⟩ := h
                            refine k_sld C dL_law_462 hi125 ?_
                            refine k_aload_n C.1 0 rfl dL_law_463 ?_
                            refine k_iload_n C.1 3 rfl dL_law_464 ?_
                            refine k_iconst (v := 3) C.1 dL_law_465 (by decide) ?_
                            refine k_iadd C.1 dL_law_466 ?_
                            obtain ⟨hi126, h⟩ := h
                            refine k_sld C dL_law_467 hi126 ?_
                            obtain ⟨hs127, h⟩ := h
                            obtain ⟨P129, h, hp129⟩ := h
                            refine k_callV (As := [.int (xs (x3 + (1 : Int32)).toNatClampNeg), .int (xs (x3 + (2 : Int32)).toNatClampNeg), .int (xs (x3 + (3 : Int32)).toNatClampNeg)]) (rest := [.int r123]) C.1 V_L_64 (c_X12_term h) ⟨rfl, rfl, Nat.le_of_ble_eq_true rfl, Nat.le_of_ble_eq_true rfl⟩ hs127  rfl rfl (Nat.le_of_ble_eq_true rfl) ⟨Nat.le_of_ble_eq_true rfl, Nat.le_of_ble_eq_true rfl⟩ dL_law_468 (kp_i fun r129 M128 h9 => ?_)
                            replace h := hp129 r129 M128 h9
                            refine k_icmp_eq C.1 994 dL_law_471 (by decide) (fun c130 => ?_) (fun c130 => ?_)
                            · have h := h.1 c130
                              exact b_L_law_994 C x1 x2 x3 M128 k18 hk18 h
                            · have h := h.2 c130
                              refine k_iconst (v := 0) C.1 dL_law_474 (by decide) ?_
                              exact h.elim
                          · have h := h.2
                            by_cases e131 : (xs x3.toNatClampNeg) &&& (31 : Int32) = 12
                            · have h := h.1 e131
                              refine k_tableIn (off := 444) C.1 476 dL_law_32 (by rw [e131]; decide) (by rw [e131]; decide) (by rw [e131]; rfl) (by decide) ?_
                              refine k_aload_n C.1 1 rfl dL_law_476 ?_
                              refine k_aload_n C.1 0 rfl dL_law_477 ?_
                              refine k_iload_n C.1 3 rfl dL_law_478 ?_
                              refine k_iconst (v := 1) C.1 dL_law_479 (by decide) ?_
                              refine k_iadd C.1 dL_law_480 ?_
                              obtain ⟨hi132, h⟩ := h
                              refine k_sld C dL_law_481 hi132 ?_
                              refine k_aload_n C.1 0 rfl dL_law_482 ?_
                              refine k_iload_n C.1 3 rfl dL_law_483 ?_
                              refine k_iconst (v := 2) C.1 dL_law_484 (by decide) ?_
                              refine k_iadd C.1 dL_law_485 ?_
                              obtain ⟨hi133, h⟩ := h
                              refine k_sld C dL_law_486 hi133 ?_
                              obtain ⟨hs134, h⟩ := h
                              obtain ⟨P136, h, hp136⟩ := h
                              refine k_callV (As := [.int (xs (x3 + (1 : Int32)).toNatClampNeg), .int (xs (x3 + (2 : Int32)).toNatClampNeg)]) (rest := []) C.1 V_L_65 (c_X11_forget h) ⟨rfl, rfl, Nat.le_of_ble_eq_true rfl, Nat.le_of_ble_eq_true rfl⟩ hs134  rfl rfl (Nat.le_of_ble_eq_true rfl) ⟨Nat.le_of_ble_eq_true rfl, Nat.le_of_ble_eq_true rfl⟩ dL_law_487 (kp_i fun r136 M135 h9 => ?_)
                              replace h := hp136 r136 M135 h9
                              refine k_aload_n C.1 2 rfl dL_law_490 ?_
                              refine k_aload_n C.1 0 rfl dL_law_491 ?_
                              refine k_iload_n C.1 3 rfl dL_law_492 ?_
                              refine k_iconst (v := 1) C.1 dL_law_493 (by decide) ?_
                              refine k_iadd C.1 dL_law_494 ?_
                              obtain ⟨hi137, h⟩ := h
                              refine k_sld C dL_law_495 hi137 ?_
                              refine k_aload_n C.1 0 rfl dL_law_496 ?_
                              refine k_iload_n C.1 3 rfl dL_law_497 ?_
                              refine k_iconst (v := 2) C.1 dL_law_498 (by decide) ?_
                              refine k_iadd C.1 dL_law_499 ?_
                              obtain ⟨hi138, h⟩ := h
                              refine k_sld C dL_law_500 hi138 ?_
                              obtain ⟨hs139, h⟩ := h
                              obtain ⟨P141, h, hp141⟩ := h
                              refine k_callV (As := [.int (xs (x3 + (1 : Int32)).toNatClampNeg), .int (xs (x3 + (2 : Int32)).toNatClampNeg)]) (rest := [.int r136]) C.1 V_L_68 (c_X12_forget h) ⟨rfl, rfl, Nat.le_of_ble_eq_true rfl, Nat.le_of_ble_eq_true rfl⟩ hs139  rfl rfl (Nat.le_of_ble_eq_true rfl) ⟨Nat.le_of_ble_eq_true rfl, Nat.le_of_ble_eq_true rfl⟩ dL_law_501 (kp_i fun r141 M140 h9 => ?_)
                              replace h := hp141 r141 M140 h9
                              refine k_icmp_eq C.1 994 dL_law_504 (by decide) (fun c142 => ?_) (fun c142 => ?_)
                              · have h := h.1 c142
                                exact b_L_law_994 C x1 x2 x3 M140 k18 hk18 h
                              · have h := h.2 c142
                                refine k_iconst (v := 0) C.1 dL_law_507 (by decide) ?_
                                exact h.elim
                            · have h := h.2
                              by_cases e143 : (xs x3.toNatClampNeg) &&& (31 : Int32) = 13
                              · have h := h.1 e143
                                refine k_tableIn (off := 477) C.1 509 dL_law_32 (by rw [e143]; decide) (by rw [e143]; decide) (by rw [e143]; rfl) (by decide) ?_
                                refine k_aload_n C.1 1 rfl dL_law_509 ?_
                                refine k_aload_n C.1 0 rfl dL_law_510 ?_
                                refine k_iload_n C.1 3 rfl dL_law_511 ?_
                                refine k_iconst (v := 1) C.1 dL_law_512 (by decide) ?_
                                refine k_iadd C.1 dL_law_513 ?_
                                obtain ⟨hi144, h⟩ := h
                                refine k_sld C dL_law_514 hi144 ?_
                                refine k_aload_n C.1 0 rfl dL_law_515 ?_
                                refine k_iload_n C.1 3 rfl dL_law_516 ?_
                                refine k_iconst (v := 2) C.1 dL_law_517 (by decide) ?_
                                refine k_iadd C.1 dL_law_518 ?_
                                obtain ⟨hi145, h⟩ := h
                                refine k_sld C dL_law_519 hi145 ?_
                                refine k_aload_n C.1 0 rfl dL_law_520 ?_
                                refine k_iload_n C.1 3 rfl dL_law_521 ?_
                                refine k_iconst (v := 3) C.1 dL_law_522 (by decide) ?_
                                refine k_iadd C.1 dL_law_523 ?_
                                obtain ⟨hi146, h⟩ := h
                                refine k_sld C dL_law_524 hi146 ?_
                                obtain ⟨hs147, h⟩ := h
                                obtain ⟨P149, h, hp149⟩ := h
                                refine k_callV (As := [.int (xs (x3 + (1 : Int32)).toNatClampNeg), .int (xs (x3 + (2 : Int32)).toNatClampNeg), .int (xs (x3 + (3 : Int32)).toNatClampNeg)]) (rest := []) C.1 V_L_69 (c_X11_write h) ⟨rfl, rfl, Nat.le_of_ble_eq_true rfl, Nat.le_of_ble_eq_true rfl⟩ hs147  rfl rfl (Nat.le_of_ble_eq_true rfl) ⟨Nat.le_of_ble_eq_true rfl, Nat.le_of_ble_eq_true rfl⟩ dL_law_525 (kp_i fun r149 M148 h9 => ?_)
                                replace h := hp149 r149 M148 h9
                                refine k_aload_n C.1 2 rfl dL_law_528 ?_
                                refine k_aload_n C.1 0 rfl dL_law_529 ?_
                                refine k_iload_n C.1 3 rfl dL_law_530 ?_
                                refine k_iconst (v := 1) C.1 dL_law_531 (by decide) ?_
                                refine k_iadd C.1 dL_law_532 ?_
                                obtain ⟨hi150, h⟩ := h
                                refine k_sld C dL_law_533 hi150 ?_
                                refine k_aload_n C.1 0 rfl dL_law_534 ?_
                                refine k_iload_n C.1 3 rfl dL_law_535 ?_
                                refine k_iconst (v := 2) C.1 dL_law_536 (by decide) ?_
                                refine k_iadd C.1 dL_law_537 ?_
                                obtain ⟨hi151, h⟩ := h
                                refine k_sld C dL_law_538 hi151 ?_
                                refine k_aload_n C.1 0 rfl dL_law_539 ?_
                                refine k_iload_n C.1 3 rfl dL_law_540 ?_
                                refine k_iconst (v := 3) C.1 dL_law_541 (by decide) ?_
                                refine k_iadd C.1 dL_law_542 ?_
                                obtain ⟨hi152, h⟩ := h
                                refine k_sld C dL_law_543 hi152 ?_
                                obtain ⟨hs153, h⟩ := h
                                obtain ⟨P155, h, hp155⟩ := h
                                refine k_callV (As := [.int (xs (x3 + (1 : Int32)).toNatClampNeg), .int (xs (x3 + (2 : Int32)).toNatClampNeg), .int (xs (x3 + (3 : Int32)).toNatClampNeg)]) (rest := [.int r149]) C.1 V_L_72 (c_X12_write h) ⟨rfl, rfl, Nat.le_of_ble_eq_true rfl, Nat.le_of_ble_eq_true rfl⟩ hs153  rfl rfl (Nat.le_of_ble_eq_true rfl) ⟨Nat.le_of_ble_eq_true rfl, Nat.le_of_ble_eq_true rfl⟩ dL_law_544 (kp_i fun r155 M154 h9 => ?_)
                                replace h := hp155 r155 M154 h9
                                refine k_icmp_eq C.1 994 dL_law_547 (by decide) (fun c156 => ?_) (fun c156 => ?_)
                                · have h := h.1 c156
                                  exact b_L_law_994 C x1 x2 x3 M154 k18 hk18 h
                                · have h := h.2 c156
                                  refine k_iconst (v := 0) C.1 dL_law_550 (by decide) ?_
                                  exact h.elim
                              · have h := h.2
                                by_cases e157 : (xs x3.toNatClampNeg) &&& (31 : Int32) = 14
                                · have h := h.1 e157
                                  refine k_tableIn (off := 520) C.1 552 dL_law_32 (by rw [e157]; decide) (by rw [e157]; decide) (by rw [e157]; rfl) (by decide) ?_
                                  refine k_aload_n C.1 1 rfl dL_law_552 ?_
                                  refine k_aload_n C.1 0 rfl dL_law_553 ?_
                                  refine k_iload_n C.1 3 rfl dL_law_554 ?_
                                  refine k_iconst (v := 1) C.1 dL_law_555 (by decide) ?_
                                  refine k_iadd C.1 dL_law_556 ?_
                                  obtain ⟨hi158, h⟩ := h
                                  refine k_sld C dL_law_557 hi158 ?_
                                  refine k_aload_n C.1 0 rfl dL_law_558 ?_
                                  refine k_iload_n C.1 3 rfl dL_law_559 ?_
                                  refine k_iconst (v := 2) C.1 dL_law_560 (by decide) ?_
                                  refine k_iadd C.1 dL_law_561 ?_
                                  obtain ⟨hi159, h⟩ := h
                                  refine k_sld C dL_law_562 hi159 ?_
                                  refine k_aload_n C.1 0 rfl dL_law_563 ?_
                                  refine k_iload_n C.1 3 rfl dL_law_564 ?_
                                  refine k_iconst (v := 3) C.1 dL_law_565 (by decide) ?_
                                  refine k_iadd C.1 dL_law_566 ?_
                                  obtain ⟨hi160, h⟩ := h
                                  refine k_sld C dL_law_567 hi160 ?_
                                  obtain ⟨hs161, h⟩ := h
                                  obtain ⟨P163, h, hp163⟩ := h
                                  refine k_callV (As := [.int (xs (x3 + (1 : Int32)).toNatClampNeg), .int (xs (x3 + (2 : Int32)).toNatClampNeg), .int (xs (x3 + (3 : Int32)).toNatClampNeg)]) (rest := []) C.1 V_L_73 (c_X11_review h) ⟨rfl, rfl, Nat.le_of_ble_eq_true rfl, Nat.le_of_ble_eq_true rfl⟩ hs161  rfl rfl (Nat.le_of_ble_eq_true rfl) ⟨Nat.le_of_ble_eq_true rfl, Nat.le_of_ble_eq_true rfl⟩ dL_law_568 (kp_i fun r163 M162 h9 => ?_)
                                  replace h := hp163 r163 M162 h9
                                  refine k_aload_n C.1 2 rfl dL_law_571 ?_
                                  refine k_aload_n C.1 0 rfl dL_law_572 ?_
                                  refine k_iload_n C.1 3 rfl dL_law_573 ?_
                                  refine k_iconst (v := 1) C.1 dL_law_574 (by decide) ?_
                                  refine k_iadd C.1 dL_law_575 ?_
                                  obtain ⟨hi164, h⟩ := h
                                  refine k_sld C dL_law_576 hi164 ?_
                                  refine k_aload_n C.1 0 rfl dL_law_577 ?_
                                  refine k_iload_n C.1 3 rfl dL_law_578 ?_
                                  refine k_iconst (v := 2) C.1 dL_law_579 (by decide) ?_
                                  refine k_iadd C.1 dL_law_580 ?_
                                  obtain ⟨hi165, h⟩ := h
                                  refine k_sld C dL_law_581 hi165 ?_
                                  refine k_aload_n C.1 0 rfl dL_law_582 ?_
                                  refine k_iload_n C.1 3 rfl dL_law_583 ?_
                                  refine k_iconst (v := 3) C.1 dL_law_584 (by decide) ?_
                                  refine k_iadd C.1 dL_law_585 ?_
                                  obtain ⟨hi166, h⟩ := h
                                  refine k_sld C dL_law_586 hi166 ?_
                                  obtain ⟨hs167, h⟩ := h
                                  obtain ⟨P169, h, hp169⟩ := h
                                  refine k_callV (As := [.int (xs (x3 + (1 : Int32)).toNatClampNeg), .int (xs (x3 + (2 : Int32)).toNatClampNeg), .int (xs (x3 + (3 : Int32)).toNatClampNeg)]) (rest := [.int r163]) C.1 V_L_76 (c_X12_review h) ⟨rfl, rfl, Nat.le_of_ble_eq_true rfl, Nat.le_of_ble_eq_true rfl⟩ hs167  rfl rfl (Nat.le_of_ble_eq_true rfl) ⟨Nat.le_of_ble_eq_true rfl, Nat.le_of_ble_eq_true rfl⟩ dL_law_587 (kp_i fun r169 M168 h9 => ?_)
                                  replace h := hp169 r169 M168 h9
                                  refine k_icmp_eq C.1 994 dL_law_590 (by decide) (fun c170 => ?_) (fun c170 => ?_)
                                  · have h := h.1 c170
                                    exact b_L_law_994 C x1 x2 x3 M168 k18 hk18 h
                                  · have h := h.2 c170
                                    refine k_iconst (v := 0) C.1 dL_law_593 (by decide) ?_
                                    exact h.elim
                                · have h := h.2
                                  by_cases e171 : (xs x3.toNatClampNeg) &&& (31 : Int32) = 15
                                  · have h := h.1 e171
                                    refine k_tableIn (off := 563) C.1 595 dL_law_32 (by rw [e171]; decide) (by rw [e171]; decide) (by rw [e171]; rfl) (by decide) ?_
                                    refine k_aload_n C.1 1 rfl dL_law_595 ?_
                                    refine k_aload_n C.1 0 rfl dL_law_596 ?_
                                    refine k_iload_n C.1 3 rfl dL_law_597 ?_
                                    refine k_iconst (v := 1) C.1 dL_law_598 (by decide) ?_
                                    refine k_iadd C.1 dL_law_599 ?_
                                    obtain ⟨hi172, h⟩ := h
                                    refine k_sld C dL_law_600 hi172 ?_
                                    refine k_aload_n C.1 0 rfl dL_law_601 ?_
                                    refine k_iload_n C.1 3 rfl dL_law_602 ?_
                                    refine k_iconst (v := 2) C.1 dL_law_603 (by decide) ?_
                                    refine k_iadd C.1 dL_law_604 ?_
                                    obtain ⟨hi173, h⟩ := h
                                    refine k_sld C dL_law_605 hi173 ?_
                                    refine k_aload_n C.1 0 rfl dL_law_606 ?_
                                    refine k_iload_n C.1 3 rfl dL_law_607 ?_
                                    refine k_iconst (v := 3) C.1 dL_law_608 (by decide) ?_
                                    refine k_iadd C.1 dL_law_609 ?_
                                    obtain ⟨hi174, h⟩ := h
                                    refine k_sld C dL_law_610 hi174 ?_
                                    obtain ⟨hs175, h⟩ := h
                                    obtain ⟨P177, h, hp177⟩ := h
                                    refine k_callV (As := [.int (xs (x3 + (1 : Int32)).toNatClampNeg), .int (xs (x3 + (2 : Int32)).toNatClampNeg), .int (xs (x3 + (3 : Int32)).toNatClampNeg)]) (rest := []) C.1 V_L_77 (c_X11_reuse h) ⟨rfl, rfl, Nat.le_of_ble_eq_true rfl, Nat.le_of_ble_eq_true rfl⟩ hs175  rfl rfl (Nat.le_of_ble_eq_true rfl) ⟨Nat.le_of_ble_eq_true rfl, Nat.le_of_ble_eq_true rfl⟩ dL_law_611 (kp_i fun r177 M176 h9 => ?_)
                                    replace h := hp177 r177 M176 h9
                                    refine k_aload_n C.1 2 rfl dL_law_614 ?_
                                    refine k_aload_n C.1 0 rfl dL_law_615 ?_
                                    refine k_iload_n C.1 3 rfl dL_law_616 ?_
                                    refine k_iconst (v := 1) C.1 dL_law_617 (by decide) ?_
                                    refine k_iadd C.1 dL_law_618 ?_
                                    obtain ⟨hi178, h⟩ := h
                                    refine k_sld C dL_law_619 hi178 ?_
                                    refine k_aload_n C.1 0 rfl dL_law_620 ?_
                                    refine k_iload_n C.1 3 rfl dL_law_621 ?_
                                    refine k_iconst (v := 2) C.1 dL_law_622 (by decide) ?_
                                    refine k_iadd C.1 dL_law_623 ?_
                                    obtain ⟨hi179, h⟩ := h
                                    refine k_sld C dL_law_624 hi179 ?_
                                    refine k_aload_n C.1 0 rfl dL_law_625 ?_
                                    refine k_iload_n C.1 3 rfl dL_law_626 ?_
                                    refine k_iconst (v := 3) C.1 dL_law_627 (by decide) ?_
                                    refine k_iadd C.1 dL_law_628 ?_
                                    obtain ⟨hi180, h⟩ := h
                                    refine k_sld C dL_law_629 hi180 ?_
                                    obtain ⟨hs181, h⟩ := h
                                    obtain ⟨P183, h, hp183⟩ := h
                                    refine k_callV (As := [.int (xs (x3 + (1 : Int32)).toNatClampNeg), .int (xs (x3 + (2 : Int32)).toNatClampNeg), .int (xs (x3 + (3 : Int32)).toNatClampNeg)]) (rest := [.int r177]) C.1 V_L_80 (c_X12_reuse h) ⟨rfl, rfl, Nat.le_of_ble_eq_true rfl, Nat.le_of_ble_eq_true rfl⟩ hs181  rfl rfl (Nat.le_of_ble_eq_true rfl) ⟨Nat.le_of_ble_eq_true rfl, Nat.le_of_ble_eq_true rfl⟩ dL_law_630 (kp_i fun r183 M182 h9 => ?_)
                                    replace h := hp183 r183 M182 h9
                                    refine k_icmp_eq C.1 994 dL_law_633 (by decide) (fun c184 => ?_) (fun c184 => ?_)
                                    · have h := h.1 c184
                                      exact b_L_law_994 C x1 x2 x3 M182 k18 hk18 h
                                    · have h := h.2 c184
                                      refine k_iconst (v := 0) C.1 dL_law_636 (by decide) ?_
                                      exact h.elim
                                  · have h := h.2
                                    by_cases e185 : (xs x3.toNatClampNeg) &&& (31 : Int32) = 16
                                    · have h := h.1 e185
                                      refine k_tableIn (off := 606) C.1 638 dL_law_32 (by rw [e185]; decide) (by rw [e185]; decide) (by rw [e185]; rfl) (by decide) ?_
                                      refine k_aload_n C.1 1 rfl dL_law_638 ?_
                                      refine k_aload_n C.1 0 rfl dL_law_639 ?_
                                      refine k_iload_n C.1 3 rfl dL_law_640 ?_
                                      refine k_iconst (v := 1) C.1 dL_law_641 (by decide) ?_
                                      refine k_iadd C.1 dL_law_642 ?_
                                      obtain ⟨hi186, h⟩ := h
                                      refine k_sld C dL_law_643 hi186 ?_
                                      refine k_aload_n C.1 0 rfl dL_law_644 ?_
                                      refine k_iload_n C.1 3 rfl dL_law_645 ?_
                                      refine k_iconst (v := 2) C.1 dL_law_646 (by decide) ?_
                                      refine k_iadd C.1 dL_law_647 ?_
                                      obtain ⟨hi187, h⟩ := h
                                      refine k_sld C dL_law_648 hi187 ?_
                                      refine k_aload_n C.1 0 rfl dL_law_649 ?_
                                      refine k_iload_n C.1 3 rfl dL_law_650 ?_
                                      refine k_iconst (v := 3) C.1 dL_law_651 (by decide) ?_
                                      refine k_iadd C.1 dL_law_652 ?_
                                      obtain ⟨hi188, h⟩ := h
                                      refine k_sld C dL_law_653 hi188 ?_
                                      obtain ⟨hs189, h⟩ := h
                                      obtain ⟨P191, h, hp191⟩ := h
                                      refine k_callV (As := [.int (xs (x3 + (1 : Int32)).toNatClampNeg), .int (xs (x3 + (2 : Int32)).toNatClampNeg), .int (xs (x3 + (3 : Int32)).toNatClampNeg)]) (rest := []) C.1 V_L_81 (c_X11_text h) ⟨rfl, rfl, Nat.le_of_ble_eq_true rfl, Nat.le_of_ble_eq_true rfl⟩ hs189  rfl rfl (Nat.le_of_ble_eq_true rfl) ⟨Nat.le_of_ble_eq_true rfl, Nat.le_of_ble_eq_true rfl⟩ dL_law_654 (kp_i fun r191 M190 h9 => ?_)
                                      replace h := hp191 r191 M190 h9
                                      refine k_aload_n C.1 2 rfl dL_law_657 ?_
                                      refine k_aload_n C.1 0 rfl dL_law_658 ?_
                                      refine k_iload_n C.1 3 rfl dL_law_659 ?_
                                      refine k_iconst (v := 1) C.1 dL_law_660 (by decide) ?_
                                      refine k_iadd C.1 dL_law_661 ?_
                                      obtain ⟨hi192, h⟩ := h
                                      refine k_sld C dL_law_662 hi192 ?_
                                      refine k_aload_n C.1 0 rfl dL_law_663 ?_
                                      refine k_iload_n C.1 3 rfl dL_law_664 ?_
                                      refine k_iconst (v := 2) C.1 dL_law_665 (by decide) ?_
                                      refine k_iadd C.1 dL_law_666 ?_
                                      obtain ⟨hi193, h⟩ := h
                                      refine k_sld C dL_law_667 hi193 ?_
                                      refine k_aload_n C.1 0 rfl dL_law_668 ?_
                                      refine k_iload_n C.1 3 rfl dL_law_669 ?_
                                      refine k_iconst (v := 3) C.1 dL_law_670 (by decide) ?_
                                      refine k_iadd C.1 dL_law_671 ?_
                                      obtain ⟨hi194, h⟩ := h
                                      refine k_sld C dL_law_672 hi194 ?_
                                      obtain ⟨hs195, h⟩ := h
                                      obtain ⟨P197, h, hp197⟩ := h
                                      refine k_callV (As := [.int (xs (x3 + (1 : Int32)).toNatClampNeg), .int (xs (x3 + (2 : Int32)).toNatClampNeg), .int (xs (x3 + (3 : Int32)).toNatClampNeg)]) (rest := [.int r191]) C.1 V_L_84 (c_X12_text h) ⟨rfl, rfl, Nat.le_of_ble_eq_true rfl, Nat.le_of_ble_eq_true rfl⟩ hs195  rfl rfl (Nat.le_of_ble_eq_true rfl) ⟨Nat.le_of_ble_eq_true rfl, Nat.le_of_ble_eq_true rfl⟩ dL_law_673 (kp_i fun r197 M196 h9 => ?_)
                                      replace h := hp197 r197 M196 h9
                                      refine k_icmp_eq C.1 994 dL_law_676 (by decide) (fun c198 => ?_) (fun c198 => ?_)
                                      · have h := h.1 c198
                                        exact b_L_law_994 C x1 x2 x3 M196 k18 hk18 h
                                      · have h := h.2 c198
                                        refine k_iconst (v := 0) C.1 dL_law_679 (by decide) ?_
                                        exact h.elim
                                    · have h := h.2
                                      by_cases e199 : (xs x3.toNatClampNeg) &&& (31 : Int32) = 17
                                      · have h := h.1 e199
                                        refine k_tableIn (off := 649) C.1 681 dL_law_32 (by rw [e199]; decide) (by rw [e199]; decide) (by rw [e199]; rfl) (by decide) ?_
                                        refine k_aload_n C.1 1 rfl dL_law_681 ?_
                                        refine k_aload_n C.1 0 rfl dL_law_682 ?_
                                        refine k_iload_n C.1 3 rfl dL_law_683 ?_
                                        refine k_iconst (v := 1) C.1 dL_law_684 (by decide) ?_
                                        refine k_iadd C.1 dL_law_685 ?_
                                        obtain ⟨hi200, h⟩ := h
                                        refine k_sld C dL_law_686 hi200 ?_
                                        refine k_aload_n C.1 0 rfl dL_law_687 ?_
                                        refine k_iload_n C.1 3 rfl dL_law_688 ?_
                                        refine k_iconst (v := 2) C.1 dL_law_689 (by decide) ?_
                                        refine k_iadd C.1 dL_law_690 ?_
                                        obtain ⟨hi201, h⟩ := h
                                        refine k_sld C dL_law_691 hi201 ?_
                                        obtain ⟨hs202, h⟩ := h
                                        obtain ⟨P204, h, hp204⟩ := h
                                        refine k_callV (As := [.int (xs (x3 + (1 : Int32)).toNatClampNeg), .int (xs (x3 + (2 : Int32)).toNatClampNeg)]) (rest := []) C.1 V_L_85 (c_X11_fault h) ⟨rfl, rfl, Nat.le_of_ble_eq_true rfl, Nat.le_of_ble_eq_true rfl⟩ hs202  rfl rfl (Nat.le_of_ble_eq_true rfl) ⟨Nat.le_of_ble_eq_true rfl, Nat.le_of_ble_eq_true rfl⟩ dL_law_692 (kp_i fun r204 M203 h9 => ?_)
                                        replace h := hp204 r204 M203 h9
                                        refine k_aload_n C.1 2 rfl dL_law_695 ?_
                                        refine k_aload_n C.1 0 rfl dL_law_696 ?_
                                        refine k_iload_n C.1 3 rfl dL_law_697 ?_
                                        refine k_iconst (v := 1) C.1 dL_law_698 (by decide) ?_
                                        refine k_iadd C.1 dL_law_699 ?_
                                        obtain ⟨hi205, h⟩ := h
                                        refine k_sld C dL_law_700 hi205 ?_
                                        refine k_aload_n C.1 0 rfl dL_law_701 ?_
                                        refine k_iload_n C.1 3 rfl dL_law_702 ?_
                                        refine k_iconst (v := 2) C.1 dL_law_703 (by decide) ?_
                                        refine k_iadd C.1 dL_law_704 ?_
                                        obtain ⟨hi206, h⟩ := h
                                        refine k_sld C dL_law_705 hi206 ?_
                                        obtain ⟨hs207, h⟩ := h
                                        obtain ⟨P209, h, hp209⟩ := h
                                        refine k_callV (As := [.int (xs (x3 + (1 : Int32)).toNatClampNeg), .int (xs (x3 + (2 : Int32)).toNatClampNeg)]) (rest := [.int r204]) C.1 V_L_88 (c_X12_fault h) ⟨rfl, rfl, Nat.le_of_ble_eq_true rfl, Nat.le_of_ble_eq_true rfl⟩ hs207  rfl rfl (Nat.le_of_ble_eq_true rfl) ⟨Nat.le_of_ble_eq_true rfl, Nat.le_of_ble_eq_true rfl⟩ dL_law_706 (kp_i fun r209 M208 h9 => ?_)
                                        replace h := hp209 r209 M208 h9
                                        refine k_icmp_eq C.1 994 dL_law_709 (by decide) (fun c210 => ?_) (fun c210 => ?_)
                                        · have h := h.1 c210
                                          exact b_L_law_994 C x1 x2 x3 M208 k18 hk18 h
                                        · have h := h.2 c210
                                          refine k_iconst (v := 0) C.1 dL_law_712 (by decide) ?_
                                          exact h.elim
                                      · have h := h.2
                                        by_cases e211 : (xs x3.toNatClampNeg) &&& (31 : Int32) = 18
                                        · have h := h.1 e211
                                          refine k_tableIn (off := 682) C.1 714 dL_law_32 (by rw [e211]; decide) (by rw [e211]; decide) (by rw [e211]; rfl) (by decide) ?_
                                          refine k_aload_n C.1 1 rfl dL_law_714 ?_
                                          refine k_aload_n C.1 0 rfl dL_law_715 ?_
                                          refine k_iload_n C.1 3 rfl dL_law_716 ?_
                                          refine k_iconst (v := 1) C.1 dL_law_717 (by decide) ?_
                                          refine k_iadd C.1 dL_law_718 ?_
                                          obtain ⟨hi212, h⟩ := h
                                          refine k_sld C dL_law_719 hi212 ?_
                                          obtain ⟨hs213, h⟩ := h
                                          obtain ⟨P215, h, hp215⟩ := h
                                          refine k_callV (As := [.int (xs (x3 + (1 : Int32)).toNatClampNeg)]) (rest := []) C.1 V_L_89 (c_X11_limit h) ⟨rfl, rfl, Nat.le_of_ble_eq_true rfl, Nat.le_of_ble_eq_true rfl⟩ hs213  rfl rfl (Nat.le_of_ble_eq_true rfl) ⟨Nat.le_of_ble_eq_true rfl, Nat.le_of_ble_eq_true rfl⟩ dL_law_720 (kp_i fun r215 M214 h9 => ?_)
                                          replace h := hp215 r215 M214 h9
                                          refine k_aload_n C.1 2 rfl dL_law_723 ?_
                                          refine k_aload_n C.1 0 rfl dL_law_724 ?_
                                          refine k_iload_n C.1 3 rfl dL_law_725 ?_
                                          refine k_iconst (v := 1) C.1 dL_law_726 (by decide) ?_
                                          refine k_iadd C.1 dL_law_727 ?_
                                          obtain ⟨hi216, h⟩ := h
                                          refine k_sld C dL_law_728 hi216 ?_
                                          obtain ⟨hs217, h⟩ := h
                                          obtain ⟨P219, h, hp219⟩ := h
                                          refine k_callV (As := [.int (xs (x3 + (1 : Int32)).toNatClampNeg)]) (rest := [.int r215]) C.1 V_L_92 (c_X12_limit h) ⟨rfl, rfl, Nat.le_of_ble_eq_true rfl, Nat.le_of_ble_eq_true rfl⟩ hs217  rfl rfl (Nat.le_of_ble_eq_true rfl) ⟨Nat.le_of_ble_eq_true rfl, Nat.le_of_ble_eq_true rfl⟩ dL_law_729 (kp_i fun r219 M218 h9 => ?_)
                                          replace h := hp219 r219 M218 h9
                                          refine k_icmp_eq C.1 994 dL_law_732 (by decide) (fun c220 => ?_) (fun c220 => ?_)
                                          · have h := h.1 c220
                                            exact b_L_law_994 C x1 x2 x3 M218 k18 hk18 h
                                          · have h := h.2 c220
                                            refine k_iconst (v := 0) C.1 dL_law_735 (by decide) ?_
                                            exact h.elim
                                        · have h := h.2
                                          by_cases e221 : (xs x3.toNatClampNeg) &&& (31 : Int32) = 19
                                          · have h := h.1 e221
                                            refine k_tableIn (off := 705) C.1 737 dL_law_32 (by rw [e221]; decide) (by rw [e221]; decide) (by rw [e221]; rfl) (by decide) ?_
                                            refine k_aload_n C.1 1 rfl dL_law_737 ?_
                                            refine k_aload_n C.1 0 rfl dL_law_738 ?_
                                            refine k_iload_n C.1 3 rfl dL_law_739 ?_
                                            refine k_iconst (v := 1) C.1 dL_law_740 (by decide) ?_
                                            refine k_iadd C.1 dL_law_741 ?_
                                            obtain ⟨hi222, h⟩ := h
                                            refine k_sld C dL_law_742 hi222 ?_
                                            refine k_aload_n C.1 0 rfl dL_law_743 ?_
                                            refine k_iload_n C.1 3 rfl dL_law_744 ?_
                                            refine k_iconst (v := 2) C.1 dL_law_745 (by decide) ?_
                                            refine k_iadd C.1 dL_law_746 ?_
                                            obtain ⟨hi223, h⟩ := h
                                            refine k_sld C dL_law_747 hi223 ?_
                                            refine k_aload_n C.1 0 rfl dL_law_748 ?_
                                            refine k_iload_n C.1 3 rfl dL_law_749 ?_
                                            refine k_iconst (v := 3) C.1 dL_law_750 (by decide) ?_
                                            refine k_iadd C.1 dL_law_751 ?_
                                            obtain ⟨hi224, h⟩ := h
                                            refine k_sld C dL_law_752 hi224 ?_
                                            obtain ⟨hs225, h⟩ := h
                                            obtain ⟨P227, h, hp227⟩ := h
                                            refine k_callV (As := [.int (xs (x3 + (1 : Int32)).toNatClampNeg), .int (xs (x3 + (2 : Int32)).toNatClampNeg), .int (xs (x3 + (3 : Int32)).toNatClampNeg)]) (rest := []) C.1 V_L_93 (c_X11_nearest h) ⟨rfl, rfl, Nat.le_of_ble_eq_true rfl, Nat.le_of_ble_eq_true rfl⟩ hs225  rfl rfl (Nat.le_of_ble_eq_true rfl) ⟨Nat.le_of_ble_eq_true rfl, Nat.le_of_ble_eq_true rfl⟩ dL_law_753 (kp_i fun r227 M226 h9 => ?_)
                                            replace h := hp227 r227 M226 h9
                                            refine k_aload_n C.1 2 rfl dL_law_756 ?_
                                            refine k_aload_n C.1 0 rfl dL_law_757 ?_
                                            refine k_iload_n C.1 3 rfl dL_law_758 ?_
                                            refine k_iconst (v := 1) C.1 dL_law_759 (by decide) ?_
                                            refine k_iadd C.1 dL_law_760 ?_
                                            obtain ⟨hi228, h⟩ := h
                                            refine k_sld C dL_law_761 hi228 ?_
                                            refine k_aload_n C.1 0 rfl dL_law_762 ?_
                                            refine k_iload_n C.1 3 rfl dL_law_763 ?_
                                            refine k_iconst (v := 2) C.1 dL_law_764 (by decide) ?_
                                            refine k_iadd C.1 dL_law_765 ?_
                                            obtain ⟨hi229, h⟩ := h
                                            refine k_sld C dL_law_766 hi229 ?_
                                            refine k_aload_n C.1 0 rfl dL_law_767 ?_
                                            refine k_iload_n C.1 3 rfl dL_law_768 ?_
                                            refine k_iconst (v := 3) C.1 dL_law_769 (by decide) ?_
                                            refine k_iadd C.1 dL_law_770 ?_
                                            obtain ⟨hi230, h⟩ := h
                                            refine k_sld C dL_law_771 hi230 ?_
                                            obtain ⟨hs231, h⟩ := h
                                            obtain ⟨P233, h, hp233⟩ := h
                                            refine k_callV (As := [.int (xs (x3 + (1 : Int32)).toNatClampNeg), .int (xs (x3 + (2 : Int32)).toNatClampNeg), .int (xs (x3 + (3 : Int32)).toNatClampNeg)]) (rest := [.int r227]) C.1 V_L_96 (c_X12_nearest h) ⟨rfl, rfl, Nat.le_of_ble_eq_true rfl, Nat.le_of_ble_eq_true rfl⟩ hs231  rfl rfl (Nat.le_of_ble_eq_true rfl) ⟨Nat.le_of_ble_eq_true rfl, Nat.le_of_ble_eq_true rfl⟩ dL_law_772 (kp_i fun r233 M232 h9 => ?_)
                                            replace h := hp233 r233 M232 h9
                                            refine k_icmp_eq C.1 994 dL_law_775 (by decide) (fun c234 => ?_) (fun c234 => ?_)
                                            · have h := h.1 c234
                                              exact b_L_law_994 C x1 x2 x3 M232 k18 hk18 h
                                            · have h := h.2 c234
                                              refine k_iconst (v := 0) C.1 dL_law_778 (by decide) ?_
                                              exact h.elim
                                          · have h := h.2
                                            by_cases e235 : (xs x3.toNatClampNeg) &&& (31 : Int32) = 20
                                            · have h := h.1 e235
                                              refine k_tableIn (off := 748) C.1 780 dL_law_32 (by rw [e235]; decide) (by rw [e235]; decide) (by rw [e235]; rfl) (by decide) ?_
                                              refine k_aload_n C.1 1 rfl dL_law_780 ?_
                                              refine k_aload_n C.1 0 rfl dL_law_781 ?_
                                              refine k_iload_n C.1 3 rfl dL_law_782 ?_
                                              refine k_iconst (v := 1) C.1 dL_law_783 (by decide) ?_
                                              refine k_iadd C.1 dL_law_784 ?_
                                              obtain ⟨hi236, h⟩ := h
                                              refine k_sld C dL_law_785 hi236 ?_
                                              refine k_aload_n C.1 0 rfl dL_law_786 ?_
                                              refine k_iload_n C.1 3 rfl dL_law_787 ?_
                                              refine k_iconst (v := 2) C.1 dL_law_788 (by decide) ?_
                                              refine k_iadd C.1 dL_law_789 ?_
                                              obtain ⟨hi237, h⟩ := h
                                              refine k_sld C dL_law_790 hi237 ?_
                                              obtain ⟨hs238, h⟩ := h
                                              obtain ⟨P240, h, hp240⟩ := h
                                              refine k_callV (As := [.int (xs (x3 + (1 : Int32)).toNatClampNeg), .int (xs (x3 + (2 : Int32)).toNatClampNeg)]) (rest := []) C.1 V_L_97 (c_X11_memory h) ⟨rfl, rfl, Nat.le_of_ble_eq_true rfl, Nat.le_of_ble_eq_true rfl⟩ hs238  rfl rfl (Nat.le_of_ble_eq_true rfl) ⟨Nat.le_of_ble_eq_true rfl, Nat.le_of_ble_eq_true rfl⟩ dL_law_791 (kp_i fun r240 M239 h9 => ?_)
                                              replace h := hp240 r240 M239 h9
                                              refine k_aload_n C.1 2 rfl dL_law_794 ?_
                                              refine k_aload_n C.1 0 rfl dL_law_795 ?_
                                              refine k_iload_n C.1 3 rfl dL_law_796 ?_
                                              refine k_iconst (v := 1) C.1 dL_law_797 (by decide) ?_
                                              refine k_iadd C.1 dL_law_798 ?_
                                              obtain ⟨hi241, h⟩ := h
                                              refine k_sld C dL_law_799 hi241 ?_
                                              refine k_aload_n C.1 0 rfl dL_law_800 ?_
                                              refine k_iload_n C.1 3 rfl dL_law_801 ?_
                                              refine k_iconst (v := 2) C.1 dL_law_802 (by decide) ?_
                                              refine k_iadd C.1 dL_law_803 ?_
                                              obtain ⟨hi242, h⟩ := h
                                              refine k_sld C dL_law_804 hi242 ?_
                                              obtain ⟨hs243, h⟩ := h
                                              obtain ⟨P245, h, hp245⟩ := h
                                              refine k_callV (As := [.int (xs (x3 + (1 : Int32)).toNatClampNeg), .int (xs (x3 + (2 : Int32)).toNatClampNeg)]) (rest := [.int r240]) C.1 V_L_100 (c_X12_memory h) ⟨rfl, rfl, Nat.le_of_ble_eq_true rfl, Nat.le_of_ble_eq_true rfl⟩ hs243  rfl rfl (Nat.le_of_ble_eq_true rfl) ⟨Nat.le_of_ble_eq_true rfl, Nat.le_of_ble_eq_true rfl⟩ dL_law_805 (kp_i fun r245 M244 h9 => ?_)
                                              replace h := hp245 r245 M244 h9
                                              refine k_icmp_eq C.1 994 dL_law_808 (by decide) (fun c246 => ?_) (fun c246 => ?_)
                                              · have h := h.1 c246
                                                exact b_L_law_994 C x1 x2 x3 M244 k18 hk18 h
                                              · have h := h.2 c246
                                                refine k_iconst (v := 0) C.1 dL_law_811 (by decide) ?_
                                                exact h.elim
                                            · have h := h.2
                                              by_cases e247 : (xs x3.toNatClampNeg) &&& (31 : Int32) = 21
                                              · have h := h.1 e247
                                                refine k_tableIn (off := 781) C.1 813 dL_law_32 (by rw [e247]; decide) (by rw [e247]; decide) (by rw [e247]; rfl) (by decide) ?_
                                                refine k_aload_n C.1 1 rfl dL_law_813 ?_
                                                refine k_aload_n C.1 0 rfl dL_law_814 ?_
                                                refine k_iload_n C.1 3 rfl dL_law_815 ?_
                                                refine k_iconst (v := 1) C.1 dL_law_816 (by decide) ?_
                                                refine k_iadd C.1 dL_law_817 ?_
                                                obtain ⟨hi248, h⟩ := h
                                                refine k_sld C dL_law_818 hi248 ?_
                                                refine k_aload_n C.1 0 rfl dL_law_819 ?_
                                                refine k_iload_n C.1 3 rfl dL_law_820 ?_
                                                refine k_iconst (v := 2) C.1 dL_law_821 (by decide) ?_
                                                refine k_iadd C.1 dL_law_822 ?_
                                                obtain ⟨hi249, h⟩ := h
                                                refine k_sld C dL_law_823 hi249 ?_
                                                obtain ⟨hs250, h⟩ := h
                                                obtain ⟨P252, h, hp252⟩ := h
                                                refine k_callV (As := [.int (xs (x3 + (1 : Int32)).toNatClampNeg), .int (xs (x3 + (2 : Int32)).toNatClampNeg)]) (rest := []) C.1 V_L_101 (c_X11_effort h) ⟨rfl, rfl, Nat.le_of_ble_eq_true rfl, Nat.le_of_ble_eq_true rfl⟩ hs250  rfl rfl (Nat.le_of_ble_eq_true rfl) ⟨Nat.le_of_ble_eq_true rfl, Nat.le_of_ble_eq_true rfl⟩ dL_law_824 (kp_i fun r252 M251 h9 => ?_)
                                                replace h := hp252 r252 M251 h9
                                                refine k_aload_n C.1 2 rfl dL_law_827 ?_
                                                refine k_aload_n C.1 0 rfl dL_law_828 ?_
                                                refine k_iload_n C.1 3 rfl dL_law_829 ?_
                                                refine k_iconst (v := 1) C.1 dL_law_830 (by decide) ?_
                                                refine k_iadd C.1 dL_law_831 ?_
                                                obtain ⟨hi253, h⟩ := h
                                                refine k_sld C dL_law_832 hi253 ?_
                                                refine k_aload_n C.1 0 rfl dL_law_833 ?_
                                                refine k_iload_n C.1 3 rfl dL_law_834 ?_
                                                refine k_iconst (v := 2) C.1 dL_law_835 (by decide) ?_
                                                refine k_iadd C.1 dL_law_836 ?_
                                                obtain ⟨hi254, h⟩ := h
                                                refine k_sld C dL_law_837 hi254 ?_
                                                obtain ⟨hs255, h⟩ := h
                                                obtain ⟨P257, h, hp257⟩ := h
                                                refine k_callV (As := [.int (xs (x3 + (1 : Int32)).toNatClampNeg), .int (xs (x3 + (2 : Int32)).toNatClampNeg)]) (rest := [.int r252]) C.1 V_L_104 (c_X12_effort h) ⟨rfl, rfl, Nat.le_of_ble_eq_true rfl, Nat.le_of_ble_eq_true rfl⟩ hs255  rfl rfl (Nat.le_of_ble_eq_true rfl) ⟨Nat.le_of_ble_eq_true rfl, Nat.le_of_ble_eq_true rfl⟩ dL_law_838 (kp_i fun r257 M256 h9 => ?_)
                                                replace h := hp257 r257 M256 h9
                                                refine k_icmp_eq C.1 994 dL_law_841 (by decide) (fun c258 => ?_) (fun c258 => ?_)
                                                · have h := h.1 c258
                                                  exact b_L_law_994 C x1 x2 x3 M256 k18 hk18 h
                                                · have h := h.2 c258
                                                  refine k_iconst (v := 0) C.1 dL_law_844 (by decide) ?_
                                                  exact h.elim
                                              · have h := h.2
                                                by_cases e259 : (xs x3.toNatClampNeg) &&& (31 : Int32) = 22
                                                · have h := h.1 e259
                                                  refine k_tableIn (off := 814) C.1 846 dL_law_32 (by rw [e259]; decide) (by rw [e259]; decide) (by rw [e259]; rfl) (by decide) ?_
                                                  refine k_aload_n C.1 1 rfl dL_law_846 ?_
                                                  refine k_aload_n C.1 0 rfl dL_law_847 ?_
                                                  refine k_iload_n C.1 3 rfl dL_law_848 ?_
                                                  refine k_iconst (v := 1) C.1 dL_law_849 (by decide) ?_
                                                  refine k_iadd C.1 dL_law_850 ?_
                                                  obtain ⟨hi260, h⟩ := h
                                                  refine k_sld C dL_law_851 hi260 ?_
                                                  refine k_aload_n C.1 0 rfl dL_law_852 ?_
                                                  refine k_iload_n C.1 3 rfl dL_law_853 ?_
                                                  refine k_iconst (v := 2) C.1 dL_law_854 (by decide) ?_
                                                  refine k_iadd C.1 dL_law_855 ?_
                                                  obtain ⟨hi261, h⟩ := h
                                                  refine k_sld C dL_law_856 hi261 ?_
                                                  obtain ⟨hs262, h⟩ := h
                                                  obtain ⟨P264, h, hp264⟩ := h
                                                  refine k_callV (As := [.int (xs (x3 + (1 : Int32)).toNatClampNeg), .int (xs (x3 + (2 : Int32)).toNatClampNeg)]) (rest := []) C.1 V_L_105 (c_X11_plan h) ⟨rfl, rfl, Nat.le_of_ble_eq_true rfl, Nat.le_of_ble_eq_true rfl⟩ hs262  rfl rfl (Nat.le_of_ble_eq_true rfl) ⟨Nat.le_of_ble_eq_true rfl, Nat.le_of_ble_eq_true rfl⟩ dL_law_857 (kp_i fun r264 M263 h9 => ?_)
                                                  replace h := hp264 r264 M263 h9
                                                  refine k_aload_n C.1 2 rfl dL_law_860 ?_
                                                  refine k_aload_n C.1 0 rfl dL_law_861 ?_
                                                  refine k_iload_n C.1 3 rfl dL_law_862 ?_
                                                  refine k_iconst (v := 1) C.1 dL_law_863 (by decide) ?_
                                                  refine k_iadd C.1 dL_law_864 ?_
                                                  obtain ⟨hi265, h⟩ := h
                                                  refine k_sld C dL_law_865 hi265 ?_
                                                  refine k_aload_n C.1 0 rfl dL_law_866 ?_
                                                  refine k_iload_n C.1 3 rfl dL_law_867 ?_
                                                  refine k_iconst (v := 2) C.1 dL_law_868 (by decide) ?_
                                                  refine k_iadd C.1 dL_law_869 ?_
                                                  obtain ⟨hi266, h⟩ := h
                                                  refine k_sld C dL_law_870 hi266 ?_
                                                  obtain ⟨hs267, h⟩ := h
                                                  obtain ⟨P269, h, hp269⟩ := h
                                                  refine k_callV (As := [.int (xs (x3 + (1 : Int32)).toNatClampNeg), .int (xs (x3 + (2 : Int32)).toNatClampNeg)]) (rest := [.int r264]) C.1 V_L_108 (c_X12_plan h) ⟨rfl, rfl, Nat.le_of_ble_eq_true rfl, Nat.le_of_ble_eq_true rfl⟩ hs267  rfl rfl (Nat.le_of_ble_eq_true rfl) ⟨Nat.le_of_ble_eq_true rfl, Nat.le_of_ble_eq_true rfl⟩ dL_law_871 (kp_i fun r269 M268 h9 => ?_)
                                                  replace h := hp269 r269 M268 h9
                                                  refine k_icmp_eq C.1 994 dL_law_874 (by decide) (fun c270 => ?_) (fun c270 => ?_)
                                                  · have h := h.1 c270
                                                    exact b_L_law_994 C x1 x2 x3 M268 k18 hk18 h
                                                  · have h := h.2 c270
                                                    refine k_iconst (v := 0) C.1 dL_law_877 (by decide) ?_
                                                    exact h.elim
                                                · have h := h.2
                                                  by_cases e271 : (xs x3.toNatClampNeg) &&& (31 : Int32) = 23
                                                  · have h := h.1 e271
                                                    refine k_tableIn (off := 847) C.1 879 dL_law_32 (by rw [e271]; decide) (by rw [e271]; decide) (by rw [e271]; rfl) (by decide) ?_
                                                    refine k_aload_n C.1 1 rfl dL_law_879 ?_
                                                    refine k_aload_n C.1 0 rfl dL_law_880 ?_
                                                    refine k_iload_n C.1 3 rfl dL_law_881 ?_
                                                    refine k_iconst (v := 1) C.1 dL_law_882 (by decide) ?_
                                                    refine k_iadd C.1 dL_law_883 ?_
                                                    obtain ⟨hi272, h⟩ := h
                                                    refine k_sld C dL_law_884 hi272 ?_
                                                    refine k_aload_n C.1 0 rfl dL_law_885 ?_
                                                    refine k_iload_n C.1 3 rfl dL_law_886 ?_
                                                    refine k_iconst (v := 2) C.1 dL_law_887 (by decide) ?_
                                                    refine k_iadd C.1 dL_law_888 ?_
                                                    obtain ⟨hi273, h⟩ := h
                                                    refine k_sld C dL_law_889 hi273 ?_
                                                    obtain ⟨hs274, h⟩ := h
                                                    obtain ⟨P276, h, hp276⟩ := h
                                                    refine k_callV (As := [.int (xs (x3 + (1 : Int32)).toNatClampNeg), .int (xs (x3 + (2 : Int32)).toNatClampNeg)]) (rest := []) C.1 V_L_109 (c_X11_planned h) ⟨rfl, rfl, Nat.le_of_ble_eq_true rfl, Nat.le_of_ble_eq_true rfl⟩ hs274  rfl rfl (Nat.le_of_ble_eq_true rfl) ⟨Nat.le_of_ble_eq_true rfl, Nat.le_of_ble_eq_true rfl⟩ dL_law_890 (kp_i fun r276 M275 h9 => ?_)
                                                    replace h := hp276 r276 M275 h9
                                                    refine k_aload_n C.1 2 rfl dL_law_893 ?_
                                                    refine k_aload_n C.1 0 rfl dL_law_894 ?_
                                                    refine k_iload_n C.1 3 rfl dL_law_895 ?_
                                                    refine k_iconst (v := 1) C.1 dL_law_896 (by decide) ?_
                                                    refine k_iadd C.1 dL_law_897 ?_
                                                    obtain ⟨hi277, h⟩ := h
                                                    refine k_sld C dL_law_898 hi277 ?_
                                                    refine k_aload_n C.1 0 rfl dL_law_899 ?_
                                                    refine k_iload_n C.1 3 rfl dL_law_900 ?_
                                                    refine k_iconst (v := 2) C.1 dL_law_901 (by decide) ?_
                                                    refine k_iadd C.1 dL_law_902 ?_
                                                    obtain ⟨hi278, h⟩ := h
                                                    refine k_sld C dL_law_903 hi278 ?_
                                                    obtain ⟨hs279, h⟩ := h
                                                    obtain ⟨P281, h, hp281⟩ := h
                                                    refine k_callV (As := [.int (xs (x3 + (1 : Int32)).toNatClampNeg), .int (xs (x3 + (2 : Int32)).toNatClampNeg)]) (rest := [.int r276]) C.1 V_L_112 (c_X12_planned h) ⟨rfl, rfl, Nat.le_of_ble_eq_true rfl, Nat.le_of_ble_eq_true rfl⟩ hs279  rfl rfl (Nat.le_of_ble_eq_true rfl) ⟨Nat.le_of_ble_eq_true rfl, Nat.le_of_ble_eq_true rfl⟩ dL_law_904 (kp_i fun r281 M280 h9 => ?_)
                                                    replace h := hp281 r281 M280 h9
                                                    refine k_icmp_eq C.1 994 dL_law_907 (by decide) (fun c282 => ?_) (fun c282 => ?_)
                                                    · have h := h.1 c282
                                                      exact b_L_law_994 C x1 x2 x3 M280 k18 hk18 h
                                                    · have h := h.2 c282
                                                      refine k_iconst (v := 0) C.1 dL_law_910 (by decide) ?_
                                                      exact h.elim
                                                  · have h := h.2
                                                    by_cases e283 : (xs x3.toNatClampNeg) &&& (31 : Int32) = 24
                                                    · have h := h.1 e283
                                                      refine k_tableIn (off := 880) C.1 912 dL_law_32 (by rw [e283]; decide) (by rw [e283]; decide) (by rw [e283]; rfl) (by decide) ?_
                                                      refine k_aload_n C.1 1 rfl dL_law_912 ?_
                                                      refine k_aload_n C.1 0 rfl dL_law_913 ?_
                                                      refine k_iload_n C.1 3 rfl dL_law_914 ?_
                                                      refine k_iconst (v := 1) C.1 dL_law_915 (by decide) ?_
                                                      refine k_iadd C.1 dL_law_916 ?_
                                                      obtain ⟨hi284, h⟩ := h
                                                      refine k_sld C dL_law_917 hi284 ?_
                                                      refine k_aload_n C.1 0 rfl dL_law_918 ?_
                                                      refine k_iload_n C.1 3 rfl dL_law_919 ?_
                                                      refine k_iconst (v := 2) C.1 dL_law_920 (by decide) ?_
                                                      refine k_iadd C.1 dL_law_921 ?_
                                                      obtain ⟨hi285, h⟩ := h
                                                      refine k_sld C dL_law_922 hi285 ?_
                                                      obtain ⟨hs286, h⟩ := h
                                                      obtain ⟨P288, h, hp288⟩ := h
                                                      refine k_callV (As := [.int (xs (x3 + (1 : Int32)).toNatClampNeg), .int (xs (x3 + (2 : Int32)).toNatClampNeg)]) (rest := []) C.1 V_L_113 (c_X11_release h) ⟨rfl, rfl, Nat.le_of_ble_eq_true rfl, Nat.le_of_ble_eq_true rfl⟩ hs286  rfl rfl (Nat.le_of_ble_eq_true rfl) ⟨Nat.le_of_ble_eq_true rfl, Nat.le_of_ble_eq_true rfl⟩ dL_law_923 (kp_i fun r288 M287 h9 => ?_)
                                                      replace h := hp288 r288 M287 h9
                                                      refine k_aload_n C.1 2 rfl dL_law_926 ?_
                                                      refine k_aload_n C.1 0 rfl dL_law_927 ?_
                                                      refine k_iload_n C.1 3 rfl dL_law_928 ?_
                                                      refine k_iconst (v := 1) C.1 dL_law_929 (by decide) ?_
                                                      refine k_iadd C.1 dL_law_930 ?_
                                                      obtain ⟨hi289, h⟩ := h
                                                      refine k_sld C dL_law_931 hi289 ?_
                                                      refine k_aload_n C.1 0 rfl dL_law_932 ?_
                                                      refine k_iload_n C.1 3 rfl dL_law_933 ?_
                                                      refine k_iconst (v := 2) C.1 dL_law_934 (by decide) ?_
                                                      refine k_iadd C.1 dL_law_935 ?_
                                                      obtain ⟨hi290, h⟩ := h
                                                      refine k_sld C dL_law_936 hi290 ?_
                                                      obtain ⟨hs291, h⟩ := h
                                                      obtain ⟨P293, h, hp293⟩ := h
                                                      refine k_callV (As := [.int (xs (x3 + (1 : Int32)).toNatClampNeg), .int (xs (x3 + (2 : Int32)).toNatClampNeg)]) (rest := [.int r288]) C.1 V_L_116 (c_X12_release h) ⟨rfl, rfl, Nat.le_of_ble_eq_true rfl, Nat.le_of_ble_eq_true rfl⟩ hs291  rfl rfl (Nat.le_of_ble_eq_true rfl) ⟨Nat.le_of_ble_eq_true rfl, Nat.le_of_ble_eq_true rfl⟩ dL_law_937 (kp_i fun r293 M292 h9 => ?_)
                                                      replace h := hp293 r293 M292 h9
                                                      refine k_icmp_eq C.1 994 dL_law_940 (by decide) (fun c294 => ?_) (fun c294 => ?_)
                                                      · have h := h.1 c294
                                                        exact b_L_law_994 C x1 x2 x3 M292 k18 hk18 h
                                                      · have h := h.2 c294
                                                        refine k_iconst (v := 0) C.1 dL_law_943 (by decide) ?_
                                                        exact h.elim
                                                    · have h := h.2
                                                      by_cases e295 : (xs x3.toNatClampNeg) &&& (31 : Int32) = 25
                                                      · have h := h.1 e295
                                                        refine k_tableIn (off := 913) C.1 945 dL_law_32 (by rw [e295]; decide) (by rw [e295]; decide) (by rw [e295]; rfl) (by decide) ?_
                                                        refine k_aload_n C.1 1 rfl dL_law_945 ?_
                                                        refine k_aload_n C.1 0 rfl dL_law_946 ?_
                                                        refine k_iload_n C.1 3 rfl dL_law_947 ?_
                                                        refine k_iconst (v := 1) C.1 dL_law_948 (by decide) ?_
                                                        refine k_iadd C.1 dL_law_949 ?_
                                                        obtain ⟨hi296, h⟩ := h
                                                        refine k_sld C dL_law_950 hi296 ?_
                                                        obtain ⟨hs297, h⟩ := h
                                                        obtain ⟨P299, h, hp299⟩ := h
                                                        refine k_callV (As := [.int (xs (x3 + (1 : Int32)).toNatClampNeg)]) (rest := []) C.1 V_L_117 (c_X11_many h) ⟨rfl, rfl, Nat.le_of_ble_eq_true rfl, Nat.le_of_ble_eq_true rfl⟩ hs297  rfl rfl (Nat.le_of_ble_eq_true rfl) ⟨Nat.le_of_ble_eq_true rfl, Nat.le_of_ble_eq_true rfl⟩ dL_law_951 (kp_i fun r299 M298 h9 => ?_)
                                                        replace h := hp299 r299 M298 h9
                                                        refine k_aload_n C.1 2 rfl dL_law_954 ?_
                                                        refine k_aload_n C.1 0 rfl dL_law_955 ?_
                                                        refine k_iload_n C.1 3 rfl dL_law_956 ?_
                                                        refine k_iconst (v := 1) C.1 dL_law_957 (by decide) ?_
                                                        refine k_iadd C.1 dL_law_958 ?_
                                                        obtain ⟨hi300, h⟩ := h
                                                        refine k_sld C dL_law_959 hi300 ?_
                                                        obtain ⟨hs301, h⟩ := h
                                                        obtain ⟨P303, h, hp303⟩ := h
                                                        refine k_callV (As := [.int (xs (x3 + (1 : Int32)).toNatClampNeg)]) (rest := [.int r299]) C.1 V_L_120 (c_X12_many h) ⟨rfl, rfl, Nat.le_of_ble_eq_true rfl, Nat.le_of_ble_eq_true rfl⟩ hs301  rfl rfl (Nat.le_of_ble_eq_true rfl) ⟨Nat.le_of_ble_eq_true rfl, Nat.le_of_ble_eq_true rfl⟩ dL_law_960 (kp_i fun r303 M302 h9 => ?_)
                                                        replace h := hp303 r303 M302 h9
                                                        refine k_icmp_eq C.1 994 dL_law_963 (by decide) (fun c304 => ?_) (fun c304 => ?_)
                                                        · have h := h.1 c304
                                                          exact b_L_law_994 C x1 x2 x3 M302 k18 hk18 h
                                                        · have h := h.2 c304
                                                          refine k_iconst (v := 0) C.1 dL_law_966 (by decide) ?_
                                                          exact h.elim
                                                      · have h := h.2
                                                        by_cases e305 : (xs x3.toNatClampNeg) &&& (31 : Int32) = 26
                                                        · have h := h.1 e305
                                                          refine k_tableIn (off := 936) C.1 968 dL_law_32 (by rw [e305]; decide) (by rw [e305]; decide) (by rw [e305]; rfl) (by decide) ?_
                                                          refine k_aload_n C.1 1 rfl dL_law_968 ?_
                                                          obtain ⟨hs306, h⟩ := h
                                                          obtain ⟨P308, h, hp308⟩ := h
                                                          refine k_callV (As := []) (rest := []) C.1 V_L_121 (c_X11_keep h) ⟨rfl, rfl, Nat.le_of_ble_eq_true rfl, Nat.le_of_ble_eq_true rfl⟩ hs306  rfl rfl (Nat.le_of_ble_eq_true rfl) ⟨Nat.le_of_ble_eq_true rfl, Nat.le_of_ble_eq_true rfl⟩ dL_law_969 (kp_i fun r308 M307 h9 => ?_)
                                                          replace h := hp308 r308 M307 h9
                                                          refine k_aload_n C.1 2 rfl dL_law_972 ?_
                                                          obtain ⟨hs309, h⟩ := h
                                                          obtain ⟨P311, h, hp311⟩ := h
                                                          refine k_callV (As := []) (rest := [.int r308]) C.1 V_L_124 (c_X12_keep h) ⟨rfl, rfl, Nat.le_of_ble_eq_true rfl, Nat.le_of_ble_eq_true rfl⟩ hs309  rfl rfl (Nat.le_of_ble_eq_true rfl) ⟨Nat.le_of_ble_eq_true rfl, Nat.le_of_ble_eq_true rfl⟩ dL_law_973 (kp_i fun r311 M310 h9 => ?_)
                                                          replace h := hp311 r311 M310 h9
                                                          refine k_icmp_eq C.1 994 dL_law_976 (by decide) (fun c312 => ?_) (fun c312 => ?_)
                                                          · have h := h.1 c312
                                                            exact b_L_law_994 C x1 x2 x3 M310 k18 hk18 h
                                                          · have h := h.2 c312
                                                            refine k_iconst (v := 0) C.1 dL_law_979 (by decide) ?_
                                                            exact h.elim
                                                        · have h := h.2
                                                          by_cases e313 : (xs x3.toNatClampNeg) &&& (31 : Int32) = 27
                                                          · have h := h.1 e313
                                                            refine k_tableIn (off := 949) C.1 981 dL_law_32 (by rw [e313]; decide) (by rw [e313]; decide) (by rw [e313]; rfl) (by decide) ?_
                                                            refine k_aload_n C.1 1 rfl dL_law_981 ?_
                                                            obtain ⟨hs314, h⟩ := h
                                                            obtain ⟨P316, h, hp316⟩ := h
                                                            refine k_callV (As := []) (rest := []) C.1 V_L_125 (c_X11_back h) ⟨rfl, rfl, Nat.le_of_ble_eq_true rfl, Nat.le_of_ble_eq_true rfl⟩ hs314  rfl rfl (Nat.le_of_ble_eq_true rfl) ⟨Nat.le_of_ble_eq_true rfl, Nat.le_of_ble_eq_true rfl⟩ dL_law_982 (kp_i fun r316 M315 h9 => ?_)
                                                            replace h := hp316 r316 M315 h9
                                                            refine k_aload_n C.1 2 rfl dL_law_985 ?_
                                                            obtain ⟨hs317, h⟩ := h
                                                            obtain ⟨P319, h, hp319⟩ := h
                                                            refine k_callV (As := []) (rest := [.int r316]) C.1 V_L_128 (c_X12_back h) ⟨rfl, rfl, Nat.le_of_ble_eq_true rfl, Nat.le_of_ble_eq_true rfl⟩ hs317  rfl rfl (Nat.le_of_ble_eq_true rfl) ⟨Nat.le_of_ble_eq_true rfl, Nat.le_of_ble_eq_true rfl⟩ dL_law_986 (kp_i fun r319 M318 h9 => ?_)
                                                            replace h := hp319 r319 M318 h9
                                                            refine k_icmp_eq C.1 994 dL_law_989 (by decide) (fun c320 => ?_) (fun c320 => ?_)
                                                            · have h := h.1 c320
                                                              exact b_L_law_994 C x1 x2 x3 M318 k18 hk18 h
                                                            · have h := h.2 c320
                                                              refine k_iconst (v := 0) C.1 dL_law_992 (by decide) ?_
                                                              exact h.elim
                                                          · have h := h.2
                                                            have hd := gh_sw28 e3 e13 e21 e31 e39 e47 e59 e71 e81 e91 e105 e117 e131 e143 e157 e171 e185 e199 e211 e221 e235 e247 e259 e271 e283 e295 e305 e313
                                                            replace h := h hd
                                                            refine k_tableOut C.1 994 dL_law_32 hd (by decide) ?_
                                                            exact b_L_law_994 C x1 x2 x3 M k18 hk18 h
theorem b_L_law_18 {X : gh_X} {x0 L : Nat} {xs : Nat → Int32} {sh : gh_Sh} (C : gh_CL X x0 L xs) (x1 : Nat) (x2 : Nat) (x3 : Int32) (M : gh_M) (h : wp_L_law_18 L xs sh x1 x2 x3 M) : gh_G X room_1 4 583 8711 sh 583 18 [(0, .ref x0), (1, .ref x1), (2, .ref x2), (3, .int x3)] [] M := by
  unfold wp_L_law_18 at h
  exact gh_loop_use h (fun v => gh_G X room_1 4 583 8711 sh 583 18 [(0, .ref x0), (1, .ref x1), (2, .ref x2), (3, .int v.1)] [] v.2) (fun k v hk hb => bb_L_law_18 C x1 x2 (fun x3 M => k (x3, M)) (fun x3 M h => hk (x3, M) h) v.1 v.2 hb)
set_option maxRecDepth 100000 in
set_option maxHeartbeats 4000000 in
theorem c_L_law {X : gh_X} {x0 L : Nat} {xs : Nat → Int32} {sh : gh_Sh} (C : gh_CL X x0 L xs) {M : gh_M} (h : wp_L_law (gx_b X) L xs sh M) : gh_G X room_1 4 0 0 sh 0 0 [(0, .ref x0)] [] M := by
  unfold wp_L_law at h
  obtain ⟨hc1, hw2, h⟩ := h
  refine k_new C.1 B_L_7 dL_law_0 hc1 hw2 ?_
  refine k_dup C.1 dL_law_3 rfl ?_
  obtain ⟨hc3, hw4, h⟩ := h
  refine k_callI (As := []) (rest := [.ref (gx_b X + 0)]) C.1 I_L_9 (c_X11_init h) ⟨rfl, rfl, Nat.le_of_ble_eq_true rfl, Nat.le_of_ble_eq_true rfl⟩ rfl rfl (Nat.le_of_ble_eq_true rfl) ⟨hc3, hw4⟩ dL_law_4 (fun sh6 M5 h9 => ?_)
  replace h := h9
  refine k_astore_n (lv' := [(1, .ref (gx_b X + 0)), (0, .ref x0)]) C.1 dL_law_7 (by decide) rfl ?_
  obtain ⟨hc7, hw8, h⟩ := h
  refine k_new C.1 B_L_10 dL_law_8 hc7 hw8 ?_
  refine k_dup C.1 dL_law_11 rfl ?_
  obtain ⟨hc9, hw10, h⟩ := h
  refine k_callI (As := []) (rest := [.ref (gx_b X + 544)]) C.1 I_L_12 (c_X12_init h) ⟨rfl, rfl, Nat.le_of_ble_eq_true rfl, Nat.le_of_ble_eq_true rfl⟩ rfl rfl (Nat.le_of_ble_eq_true rfl) ⟨hc9, hw10⟩ dL_law_12 (fun sh12 M11 h9 => ?_)
  replace h := h9
  refine k_astore_n (lv' := [(2, .ref (gx_b X + 544)), (1, .ref (gx_b X + 0)), (0, .ref x0)]) C.1 dL_law_15 (by decide) rfl ?_
  refine k_iconst (v := 0) C.1 dL_law_16 (by decide) ?_
  refine k_istore_n (lv' := [(3, .int (0 : Int32)), (2, .ref (gx_b X + 544)), (1, .ref (gx_b X + 0)), (0, .ref x0)]) C.1 dL_law_17 (by decide) rfl ?_
  refine k_sub (lv' := [(0, .ref x0), (1, .ref (gx_b X + 0)), (2, .ref (gx_b X + 544)), (3, .int (0 : Int32))]) [3, 2, 1, 0] rfl ?_
  exact b_L_law_18 C (gx_b X + 0) (gx_b X + 544) (0 : Int32) M11 h
