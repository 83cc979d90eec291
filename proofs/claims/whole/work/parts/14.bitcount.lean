/-! Integer.bitCount, walked -/
theorem dJ6_0 : decode cJ6_bitCount_0f7a4 0 = .ok (.iload_n 0, 1) := by decide +kernel
theorem dJ6_1 : decode cJ6_bitCount_0f7a4 1 = .ok (.iload_n 0, 1) := by decide +kernel
theorem dJ6_2 : decode cJ6_bitCount_0f7a4 2 = .ok (.iconst 1, 1) := by decide +kernel
theorem dJ6_3 : decode cJ6_bitCount_0f7a4 3 = .ok (.iushr, 1) := by decide +kernel
theorem dJ6_4 : decode cJ6_bitCount_0f7a4 4 = .ok (.ldc_w 265, 3) := by decide +kernel
theorem dJ6_7 : decode cJ6_bitCount_0f7a4 7 = .ok (.iand, 1) := by decide +kernel
theorem dJ6_8 : decode cJ6_bitCount_0f7a4 8 = .ok (.isub, 1) := by decide +kernel
theorem dJ6_9 : decode cJ6_bitCount_0f7a4 9 = .ok (.istore_n 0, 1) := by decide +kernel
theorem dJ6_10 : decode cJ6_bitCount_0f7a4 10 = .ok (.iload_n 0, 1) := by decide +kernel
theorem dJ6_11 : decode cJ6_bitCount_0f7a4 11 = .ok (.ldc_w 266, 3) := by decide +kernel
theorem dJ6_14 : decode cJ6_bitCount_0f7a4 14 = .ok (.iand, 1) := by decide +kernel
theorem dJ6_15 : decode cJ6_bitCount_0f7a4 15 = .ok (.iload_n 0, 1) := by decide +kernel
theorem dJ6_16 : decode cJ6_bitCount_0f7a4 16 = .ok (.iconst 2, 1) := by decide +kernel
theorem dJ6_17 : decode cJ6_bitCount_0f7a4 17 = .ok (.iushr, 1) := by decide +kernel
theorem dJ6_18 : decode cJ6_bitCount_0f7a4 18 = .ok (.ldc_w 266, 3) := by decide +kernel
theorem dJ6_21 : decode cJ6_bitCount_0f7a4 21 = .ok (.iand, 1) := by decide +kernel
theorem dJ6_22 : decode cJ6_bitCount_0f7a4 22 = .ok (.iadd, 1) := by decide +kernel
theorem dJ6_23 : decode cJ6_bitCount_0f7a4 23 = .ok (.istore_n 0, 1) := by decide +kernel
theorem dJ6_24 : decode cJ6_bitCount_0f7a4 24 = .ok (.iload_n 0, 1) := by decide +kernel
theorem dJ6_25 : decode cJ6_bitCount_0f7a4 25 = .ok (.iload_n 0, 1) := by decide +kernel
theorem dJ6_26 : decode cJ6_bitCount_0f7a4 26 = .ok (.iconst 4, 1) := by decide +kernel
theorem dJ6_27 : decode cJ6_bitCount_0f7a4 27 = .ok (.iushr, 1) := by decide +kernel
theorem dJ6_28 : decode cJ6_bitCount_0f7a4 28 = .ok (.iadd, 1) := by decide +kernel
theorem dJ6_29 : decode cJ6_bitCount_0f7a4 29 = .ok (.ldc_w 267, 3) := by decide +kernel
theorem dJ6_32 : decode cJ6_bitCount_0f7a4 32 = .ok (.iand, 1) := by decide +kernel
theorem dJ6_33 : decode cJ6_bitCount_0f7a4 33 = .ok (.istore_n 0, 1) := by decide +kernel
theorem dJ6_34 : decode cJ6_bitCount_0f7a4 34 = .ok (.iload_n 0, 1) := by decide +kernel
theorem dJ6_35 : decode cJ6_bitCount_0f7a4 35 = .ok (.iload_n 0, 1) := by decide +kernel
theorem dJ6_36 : decode cJ6_bitCount_0f7a4 36 = .ok (.bipush 8, 2) := by decide +kernel
theorem dJ6_38 : decode cJ6_bitCount_0f7a4 38 = .ok (.iushr, 1) := by decide +kernel
theorem dJ6_39 : decode cJ6_bitCount_0f7a4 39 = .ok (.iadd, 1) := by decide +kernel
theorem dJ6_40 : decode cJ6_bitCount_0f7a4 40 = .ok (.istore_n 0, 1) := by decide +kernel
theorem dJ6_41 : decode cJ6_bitCount_0f7a4 41 = .ok (.iload_n 0, 1) := by decide +kernel
theorem dJ6_42 : decode cJ6_bitCount_0f7a4 42 = .ok (.iload_n 0, 1) := by decide +kernel
theorem dJ6_43 : decode cJ6_bitCount_0f7a4 43 = .ok (.bipush 16, 2) := by decide +kernel
theorem dJ6_45 : decode cJ6_bitCount_0f7a4 45 = .ok (.iushr, 1) := by decide +kernel
theorem dJ6_46 : decode cJ6_bitCount_0f7a4 46 = .ok (.iadd, 1) := by decide +kernel
theorem dJ6_47 : decode cJ6_bitCount_0f7a4 47 = .ok (.istore_n 0, 1) := by decide +kernel
theorem dJ6_48 : decode cJ6_bitCount_0f7a4 48 = .ok (.iload_n 0, 1) := by decide +kernel
theorem dJ6_49 : decode cJ6_bitCount_0f7a4 49 = .ok (.bipush 63, 2) := by decide +kernel
theorem dJ6_51 : decode cJ6_bitCount_0f7a4 51 = .ok (.iand, 1) := by decide +kernel
theorem dJ6_52 : decode cJ6_bitCount_0f7a4 52 = .ok (.ireturn, 1) := by decide +kernel
def gh_us (x y : Int32) : Int32 := (x.toUInt32 >>> (y.toUInt32 &&& Int32.toUInt32 31)).toInt32
def gh_b1 (x : Int32) : Int32 := x - (gh_us x 1 &&& 1431655765)
def gh_b2 (x : Int32) : Int32 := (x &&& 858993459) + (gh_us x 2 &&& 858993459)
def gh_b3 (x : Int32) : Int32 := (x + gh_us x 4) &&& 252645135
def gh_b4 (x : Int32) : Int32 := x + gh_us x 8
def gh_b5 (x : Int32) : Int32 := x + gh_us x 16
def gh_bc (x : Int32) : Int32 := gh_b5 (gh_b4 (gh_b3 (gh_b2 (gh_b1 x)))) &&& 63
theorem k_iushr {X : gh_X} {cc : ByteArray} {own : String} {nL : Nat} {R : Room} {cells slots : Nat} {sh : gh_Sh} {n pc : Nat} {lv : List (Nat × Value)} {st : List Value} {M : gh_M} (C : gh_C X cc own nL) {x y : Int32} (d : decode cc pc = .ok (.iushr, 1)) (k : gh_G X R nL cells slots sh n (pc + 1) lv (.int (gh_us x y) :: st) M) : gh_G X R nL cells slots sh n pc lv (.int y :: .int x :: st) M := fun H locs ls hh hl => lv_iushr C.1 C.2.1 d rfl (k H locs ls hh hl)
theorem k_ldcw {X : gh_X} {cc : ByteArray} {own : String} {nL : Nat} {R : Room} {cells slots : Nat} {sh : gh_Sh} {n pc : Nat} {lv : List (Nat × Value)} {st : List Value} {M : gh_M} (C : gh_C X cc own nL) {idx : Nat} {v : Int32} (hw : Cond.constant own idx v ∈ gh_T) (d : decode cc pc = .ok (.ldc_w idx, 3)) (k : gh_G X R nL cells slots sh n (pc + 3) lv (.int v :: st) M) : gh_G X R nL cells slots sh n pc lv st M := fun H locs ls hh hl => lv_ldcw C.1 C.2.1 C.2.2.2.1 (C.2.2.2.2.1 _ hw) d (k H locs ls hh hl)
def wp_J6_bitCount (sh : gh_Sh) (M : gh_M) (x0 : Int32) (post : Int32 → gh_M → Prop) : Prop := post (gh_bc x0) M
abbrev rm_J6_bitCount : Room := { frames := 0, cells := 0, slots := 0, locals := 0 }
set_option maxRecDepth 100000 in
set_option maxHeartbeats 4000000 in
theorem c_J6_bitCount {l : Launch} {D : va_G} {dA : Nat → ClassId} {sh : gh_Sh} {b0 n : Nat} {M : gh_M} {x0 : Int32} {post : Int32 → gh_M → Prop} (h : wp_J6_bitCount sh M x0 post) : gh_Met l D dA sh b0 n yJ6_bitCount_0f7a4 cJ6_bitCount_0f7a4 1 (some .int) rm_J6_bitCount M [.int x0] (gh_pi post) := by
  refine gh_open (by decide) (Nat.le_of_ble_eq_true rfl) (fun X C => ?_)
  show gh_G X rm_J6_bitCount 1 0 0 sh n 0 [(0, .int x0)] [] M
  unfold wp_J6_bitCount gh_bc at h
  refine k_iload_n C.1 0 rfl dJ6_0 ?_
  refine k_iload_n C.1 0 rfl dJ6_1 ?_
  refine k_iconst (v := 1) C.1 dJ6_2 (by decide) ?_
  refine k_iushr C.1 dJ6_3 ?_
  refine k_ldcw (v := 1431655765) C.1 (gh_in 729 (by decide +kernel) rfl) dJ6_4 ?_
  refine k_iand C.1 dJ6_7 ?_
  refine k_isub C.1 dJ6_8 ?_
  refine k_istore_n (lv' := [(0, .int (gh_b1 x0))]) C.1 dJ6_9 (by decide) rfl ?_
  refine k_iload_n C.1 0 rfl dJ6_10 ?_
  refine k_ldcw (v := 858993459) C.1 (gh_in 730 (by decide +kernel) rfl) dJ6_11 ?_
  refine k_iand C.1 dJ6_14 ?_
  refine k_iload_n C.1 0 rfl dJ6_15 ?_
  refine k_iconst (v := 2) C.1 dJ6_16 (by decide) ?_
  refine k_iushr C.1 dJ6_17 ?_
  refine k_ldcw (v := 858993459) C.1 (gh_in 730 (by decide +kernel) rfl) dJ6_18 ?_
  refine k_iand C.1 dJ6_21 ?_
  refine k_iadd C.1 dJ6_22 ?_
  refine k_istore_n (lv' := [(0, .int (gh_b2 (gh_b1 x0)))]) C.1 dJ6_23 (by decide) rfl ?_
  refine k_iload_n C.1 0 rfl dJ6_24 ?_
  refine k_iload_n C.1 0 rfl dJ6_25 ?_
  refine k_iconst (v := 4) C.1 dJ6_26 (by decide) ?_
  refine k_iushr C.1 dJ6_27 ?_
  refine k_iadd C.1 dJ6_28 ?_
  refine k_ldcw (v := 252645135) C.1 (gh_in 731 (by decide +kernel) rfl) dJ6_29 ?_
  refine k_iand C.1 dJ6_32 ?_
  refine k_istore_n (lv' := [(0, .int (gh_b3 (gh_b2 (gh_b1 x0))))]) C.1 dJ6_33 (by decide) rfl ?_
  refine k_iload_n C.1 0 rfl dJ6_34 ?_
  refine k_iload_n C.1 0 rfl dJ6_35 ?_
  refine k_bipush (v := 8) C.1 dJ6_36 (by decide) ?_
  refine k_iushr C.1 dJ6_38 ?_
  refine k_iadd C.1 dJ6_39 ?_
  refine k_istore_n (lv' := [(0, .int (gh_b4 (gh_b3 (gh_b2 (gh_b1 x0)))))]) C.1 dJ6_40 (by decide) rfl ?_
  refine k_iload_n C.1 0 rfl dJ6_41 ?_
  refine k_iload_n C.1 0 rfl dJ6_42 ?_
  refine k_bipush (v := 16) C.1 dJ6_43 (by decide) ?_
  refine k_iushr C.1 dJ6_45 ?_
  refine k_iadd C.1 dJ6_46 ?_
  refine k_istore_n (lv' := [(0, .int (gh_b5 (gh_b4 (gh_b3 (gh_b2 (gh_b1 x0))))))]) C.1 dJ6_47 (by decide) rfl ?_
  refine k_iload_n C.1 0 rfl dJ6_48 ?_
  refine k_bipush (v := 63) C.1 dJ6_49 (by decide) ?_
  refine k_iand C.1 dJ6_51 ?_
  exact k_iret C dJ6_52 h
theorem gh_bc_ok : ∀ k, k < 256 → gh_bc (nI k) = nI ((List.range 8).countP (fun j => k.testBit j)) := by decide +kernel
