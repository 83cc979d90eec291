section
-- ===== PART A: goes FIRST, ahead of the names: the tables' words, and 'selects' of the private methods out of them =====
/-- a private method of a class that the tables say can be made, by its rows of tables_1 -/
def lw_okq (q : MethodName × Nat) : Prop := (q.1.cls ≠ "java/lang/invoke/MethodHandle" ∧ q.1.cls ≠ "java/lang/invoke/VarHandle") ∧ Cond.instantiable q.1.cls q.2 ∈ tables_1 ∧ Cond.privateMethod q.1 ∈ tables_1 ∧ Cond.instanceMethod q.1 ∈ tables_1
theorem lw_p0 : lw_okq (⟨"GlossHouse$Matcher", "weigh", "(LGlossHouse$Row;ILGlossHouse$Book;LGlossHouse$Ruler;)V"⟩, 3) := ⟨⟨by decide +kernel, by decide +kernel⟩, List.mem_of_getElem? (i := 49) (by decide +kernel), List.mem_of_getElem? (i := 354) (by decide +kernel), List.mem_of_getElem? (i := 355) (by decide +kernel)⟩
theorem lw_p1 : lw_okq (⟨"GlossHouse$Matcher", "giveOne", "(IJ)V"⟩, 3) := ⟨⟨by decide +kernel, by decide +kernel⟩, List.mem_of_getElem? (i := 49) (by decide +kernel), List.mem_of_getElem? (i := 377) (by decide +kernel), List.mem_of_getElem? (i := 378) (by decide +kernel)⟩
theorem lw_p2 : lw_okq (⟨"GlossHouse", "takeOver", "(LGlossHouse$Piece;I)V"⟩, 13) := ⟨⟨by decide +kernel, by decide +kernel⟩, List.mem_of_getElem? (i := 17) (by decide +kernel), List.mem_of_getElem? (i := 389) (by decide +kernel), List.mem_of_getElem? (i := 390) (by decide +kernel)⟩
theorem lw_p3 : lw_okq (⟨"GlossHouse", "whyNoWriting", "(III)I"⟩, 13) := ⟨⟨by decide +kernel, by decide +kernel⟩, List.mem_of_getElem? (i := 17) (by decide +kernel), List.mem_of_getElem? (i := 517) (by decide +kernel), List.mem_of_getElem? (i := 518) (by decide +kernel)⟩
theorem lw_p4 : lw_okq (⟨"GlossHouse", "textAt", "(II)LGlossHouse$Text;"⟩, 13) := ⟨⟨by decide +kernel, by decide +kernel⟩, List.mem_of_getElem? (i := 17) (by decide +kernel), List.mem_of_getElem? (i := 526) (by decide +kernel), List.mem_of_getElem? (i := 527) (by decide +kernel)⟩
theorem lw_p5 : lw_okq (⟨"GlossHouse", "faultOf", "(LGlossHouse$Piece;LGlossHouse$Text;I)I"⟩, 13) := ⟨⟨by decide +kernel, by decide +kernel⟩, List.mem_of_getElem? (i := 17) (by decide +kernel), List.mem_of_getElem? (i := 551) (by decide +kernel), List.mem_of_getElem? (i := 552) (by decide +kernel)⟩
theorem lw_p6 : lw_okq (⟨"GlossHouse", "lacksTerm", "(LGlossHouse$Row;LGlossHouse$Row;I)Z"⟩, 13) := ⟨⟨by decide +kernel, by decide +kernel⟩, List.mem_of_getElem? (i := 17) (by decide +kernel), List.mem_of_getElem? (i := 566) (by decide +kernel), List.mem_of_getElem? (i := 567) (by decide +kernel)⟩
theorem lw_p7 : lw_okq (⟨"GlossHouse$Memory", "putEldestLast", "()V"⟩, 2) := ⟨⟨by decide +kernel, by decide +kernel⟩, List.mem_of_getElem? (i := 128) (by decide +kernel), List.mem_of_getElem? (i := 588) (by decide +kernel), List.mem_of_getElem? (i := 589) (by decide +kernel)⟩
theorem lw_p8 : lw_okq (⟨"GlossHouse", "closestEntry", "(LGlossHouse$Piece;I)LGlossHouse$Entry;"⟩, 13) := ⟨⟨by decide +kernel, by decide +kernel⟩, List.mem_of_getElem? (i := 17) (by decide +kernel), List.mem_of_getElem? (i := 605) (by decide +kernel), List.mem_of_getElem? (i := 606) (by decide +kernel)⟩
theorem lw_p9 : lw_okq (⟨"GlossHouse", "effortFor", "(LGlossHouse$Piece;I)I"⟩, 13) := ⟨⟨by decide +kernel, by decide +kernel⟩, List.mem_of_getElem? (i := 17) (by decide +kernel), List.mem_of_getElem? (i := 660) (by decide +kernel), List.mem_of_getElem? (i := 661) (by decide +kernel)⟩
theorem lw_p10 : lw_okq (⟨"GlossHouse", "makePlan", "(I)V"⟩, 13) := ⟨⟨by decide +kernel, by decide +kernel⟩, List.mem_of_getElem? (i := 17) (by decide +kernel), List.mem_of_getElem? (i := 677) (by decide +kernel), List.mem_of_getElem? (i := 678) (by decide +kernel)⟩
theorem lw_p11 : lw_okq (⟨"GlossHouse$Planner", "measureSets", "()V"⟩, 6) := ⟨⟨by decide +kernel, by decide +kernel⟩, List.mem_of_getElem? (i := 66) (by decide +kernel), List.mem_of_getElem? (i := 689) (by decide +kernel), List.mem_of_getElem? (i := 690) (by decide +kernel)⟩
theorem lw_p12 : lw_okq (⟨"GlossHouse$Planner", "giveTo", "(III)V"⟩, 6) := ⟨⟨by decide +kernel, by decide +kernel⟩, List.mem_of_getElem? (i := 66) (by decide +kernel), List.mem_of_getElem? (i := 706) (by decide +kernel), List.mem_of_getElem? (i := 707) (by decide +kernel)⟩
theorem lw_p13 : lw_okq (⟨"GlossHouseModel", "draftHasOwn", "()Z"⟩, 51) := ⟨⟨by decide +kernel, by decide +kernel⟩, List.mem_of_getElem? (i := 785) (by decide +kernel), List.mem_of_getElem? (i := 969) (by decide +kernel), List.mem_of_getElem? (i := 970) (by decide +kernel)⟩
theorem lw_p14 : lw_okq (⟨"GlossHouseModel", "findMatch", "()I"⟩, 51) := ⟨⟨by decide +kernel, by decide +kernel⟩, List.mem_of_getElem? (i := 785) (by decide +kernel), List.mem_of_getElem? (i := 981) (by decide +kernel), List.mem_of_getElem? (i := 982) (by decide +kernel)⟩
theorem lw_p15 : lw_okq (⟨"GlossHouseModel", "apart", "([III[III)I"⟩, 51) := ⟨⟨by decide +kernel, by decide +kernel⟩, List.mem_of_getElem? (i := 785) (by decide +kernel), List.mem_of_getElem? (i := 985) (by decide +kernel), List.mem_of_getElem? (i := 986) (by decide +kernel)⟩
def lw_privs_1 : List (MethodName × Nat) := [(⟨"GlossHouse$Matcher", "weigh", "(LGlossHouse$Row;ILGlossHouse$Book;LGlossHouse$Ruler;)V"⟩, 3), (⟨"GlossHouse$Matcher", "giveOne", "(IJ)V"⟩, 3), (⟨"GlossHouse", "takeOver", "(LGlossHouse$Piece;I)V"⟩, 13), (⟨"GlossHouse", "whyNoWriting", "(III)I"⟩, 13), (⟨"GlossHouse", "textAt", "(II)LGlossHouse$Text;"⟩, 13), (⟨"GlossHouse", "faultOf", "(LGlossHouse$Piece;LGlossHouse$Text;I)I"⟩, 13), (⟨"GlossHouse", "lacksTerm", "(LGlossHouse$Row;LGlossHouse$Row;I)Z"⟩, 13), (⟨"GlossHouse$Memory", "putEldestLast", "()V"⟩, 2), (⟨"GlossHouse", "closestEntry", "(LGlossHouse$Piece;I)LGlossHouse$Entry;"⟩, 13), (⟨"GlossHouse", "effortFor", "(LGlossHouse$Piece;I)I"⟩, 13), (⟨"GlossHouse", "makePlan", "(I)V"⟩, 13), (⟨"GlossHouse$Planner", "measureSets", "()V"⟩, 6), (⟨"GlossHouse$Planner", "giveTo", "(III)V"⟩, 6), (⟨"GlossHouseModel", "draftHasOwn", "()Z"⟩, 51), (⟨"GlossHouseModel", "findMatch", "()I"⟩, 51), (⟨"GlossHouseModel", "apart", "([III[III)I"⟩, 51)]
theorem lw_r1 : ∀ q ∈ lw_privs_1, lw_okq q := List.forall_mem_cons.mpr ⟨lw_p0, List.forall_mem_cons.mpr ⟨lw_p1, List.forall_mem_cons.mpr ⟨lw_p2, List.forall_mem_cons.mpr ⟨lw_p3, List.forall_mem_cons.mpr ⟨lw_p4, List.forall_mem_cons.mpr ⟨lw_p5, List.forall_mem_cons.mpr ⟨lw_p6, List.forall_mem_cons.mpr ⟨lw_p7, List.forall_mem_cons.mpr ⟨lw_p8, List.forall_mem_cons.mpr ⟨lw_p9, List.forall_mem_cons.mpr ⟨lw_p10, List.forall_mem_cons.mpr ⟨lw_p11, List.forall_mem_cons.mpr ⟨lw_p12, List.forall_mem_cons.mpr ⟨lw_p13, List.forall_mem_cons.mpr ⟨lw_p14, List.forall_mem_cons.mpr ⟨lw_p15, fun _ h => absurd h List.not_mem_nil⟩⟩⟩⟩⟩⟩⟩⟩⟩⟩⟩⟩⟩⟩⟩⟩
theorem lw_p16 : lw_okq (⟨"GlossHouseModel", "takeOver", "(III)V"⟩, 51) := ⟨⟨by decide +kernel, by decide +kernel⟩, List.mem_of_getElem? (i := 785) (by decide +kernel), List.mem_of_getElem? (i := 995) (by decide +kernel), List.mem_of_getElem? (i := 996) (by decide +kernel)⟩
theorem lw_p17 : lw_okq (⟨"GlossHouseModel", "isPiece", "(I)Z"⟩, 51) := ⟨⟨by decide +kernel, by decide +kernel⟩, List.mem_of_getElem? (i := 785) (by decide +kernel), List.mem_of_getElem? (i := 1003) (by decide +kernel), List.mem_of_getElem? (i := 1004) (by decide +kernel)⟩
theorem lw_p18 : lw_okq (⟨"GlossHouseModel", "isHand", "(I)Z"⟩, 51) := ⟨⟨by decide +kernel, by decide +kernel⟩, List.mem_of_getElem? (i := 785) (by decide +kernel), List.mem_of_getElem? (i := 1027) (by decide +kernel), List.mem_of_getElem? (i := 1028) (by decide +kernel)⟩
theorem lw_p19 : lw_okq (⟨"GlossHouseModel", "termOf", "(II)I"⟩, 51) := ⟨⟨by decide +kernel, by decide +kernel⟩, List.mem_of_getElem? (i := 785) (by decide +kernel), List.mem_of_getElem? (i := 1038) (by decide +kernel), List.mem_of_getElem? (i := 1039) (by decide +kernel)⟩
theorem lw_p20 : lw_okq (⟨"GlossHouseModel", "areThree", "(III)Z"⟩, 51) := ⟨⟨by decide +kernel, by decide +kernel⟩, List.mem_of_getElem? (i := 785) (by decide +kernel), List.mem_of_getElem? (i := 1050) (by decide +kernel), List.mem_of_getElem? (i := 1051) (by decide +kernel)⟩
theorem lw_p21 : lw_okq (⟨"GlossHouseModel", "knows", "(II)Z"⟩, 51) := ⟨⟨by decide +kernel, by decide +kernel⟩, List.mem_of_getElem? (i := 785) (by decide +kernel), List.mem_of_getElem? (i := 1054) (by decide +kernel), List.mem_of_getElem? (i := 1055) (by decide +kernel)⟩
theorem lw_p22 : lw_okq (⟨"GlossHouseModel", "draftHasWord", "()Z"⟩, 51) := ⟨⟨by decide +kernel, by decide +kernel⟩, List.mem_of_getElem? (i := 785) (by decide +kernel), List.mem_of_getElem? (i := 1058) (by decide +kernel), List.mem_of_getElem? (i := 1059) (by decide +kernel)⟩
theorem lw_p23 : lw_okq (⟨"GlossHouseModel", "faultOf", "(II)I"⟩, 51) := ⟨⟨by decide +kernel, by decide +kernel⟩, List.mem_of_getElem? (i := 785) (by decide +kernel), List.mem_of_getElem? (i := 1066) (by decide +kernel), List.mem_of_getElem? (i := 1067) (by decide +kernel)⟩
theorem lw_p24 : lw_okq (⟨"GlossHouseModel", "remember", "(II)V"⟩, 51) := ⟨⟨by decide +kernel, by decide +kernel⟩, List.mem_of_getElem? (i := 785) (by decide +kernel), List.mem_of_getElem? (i := 1073) (by decide +kernel), List.mem_of_getElem? (i := 1074) (by decide +kernel)⟩
theorem lw_p25 : lw_okq (⟨"GlossHouseModel", "isRemembered", "(II)Z"⟩, 51) := ⟨⟨by decide +kernel, by decide +kernel⟩, List.mem_of_getElem? (i := 785) (by decide +kernel), List.mem_of_getElem? (i := 1077) (by decide +kernel), List.mem_of_getElem? (i := 1078) (by decide +kernel)⟩
theorem lw_p26 : lw_okq (⟨"GlossHouseModel", "findNearest", "(II)V"⟩, 51) := ⟨⟨by decide +kernel, by decide +kernel⟩, List.mem_of_getElem? (i := 785) (by decide +kernel), List.mem_of_getElem? (i := 1085) (by decide +kernel), List.mem_of_getElem? (i := 1086) (by decide +kernel)⟩
theorem lw_p27 : lw_okq (⟨"GlossHouseModel", "effortOf", "(II)I"⟩, 51) := ⟨⟨by decide +kernel, by decide +kernel⟩, List.mem_of_getElem? (i := 785) (by decide +kernel), List.mem_of_getElem? (i := 1114) (by decide +kernel), List.mem_of_getElem? (i := 1115) (by decide +kernel)⟩
theorem lw_p28 : lw_okq (⟨"GlossHouseModel", "findPlan", "(I)V"⟩, 51) := ⟨⟨by decide +kernel, by decide +kernel⟩, List.mem_of_getElem? (i := 785) (by decide +kernel), List.mem_of_getElem? (i := 1122) (by decide +kernel), List.mem_of_getElem? (i := 1123) (by decide +kernel)⟩
theorem lw_p29 : lw_okq (⟨"GlossHouseModel", "prepare", "(I)V"⟩, 51) := ⟨⟨by decide +kernel, by decide +kernel⟩, List.mem_of_getElem? (i := 785) (by decide +kernel), List.mem_of_getElem? (i := 1126) (by decide +kernel), List.mem_of_getElem? (i := 1127) (by decide +kernel)⟩
theorem lw_p30 : lw_okq (⟨"GlossHouseModel", "fits", "(III)Z"⟩, 51) := ⟨⟨by decide +kernel, by decide +kernel⟩, List.mem_of_getElem? (i := 785) (by decide +kernel), List.mem_of_getElem? (i := 1130) (by decide +kernel), List.mem_of_getElem? (i := 1131) (by decide +kernel)⟩
theorem lw_p31 : lw_okq (⟨"GlossHouseModel", "canBeBetter", "(III)Z"⟩, 51) := ⟨⟨by decide +kernel, by decide +kernel⟩, List.mem_of_getElem? (i := 785) (by decide +kernel), List.mem_of_getElem? (i := 1134) (by decide +kernel), List.mem_of_getElem? (i := 1135) (by decide +kernel)⟩
def lw_privs_2 : List (MethodName × Nat) := [(⟨"GlossHouseModel", "takeOver", "(III)V"⟩, 51), (⟨"GlossHouseModel", "isPiece", "(I)Z"⟩, 51), (⟨"GlossHouseModel", "isHand", "(I)Z"⟩, 51), (⟨"GlossHouseModel", "termOf", "(II)I"⟩, 51), (⟨"GlossHouseModel", "areThree", "(III)Z"⟩, 51), (⟨"GlossHouseModel", "knows", "(II)Z"⟩, 51), (⟨"GlossHouseModel", "draftHasWord", "()Z"⟩, 51), (⟨"GlossHouseModel", "faultOf", "(II)I"⟩, 51), (⟨"GlossHouseModel", "remember", "(II)V"⟩, 51), (⟨"GlossHouseModel", "isRemembered", "(II)Z"⟩, 51), (⟨"GlossHouseModel", "findNearest", "(II)V"⟩, 51), (⟨"GlossHouseModel", "effortOf", "(II)I"⟩, 51), (⟨"GlossHouseModel", "findPlan", "(I)V"⟩, 51), (⟨"GlossHouseModel", "prepare", "(I)V"⟩, 51), (⟨"GlossHouseModel", "fits", "(III)Z"⟩, 51), (⟨"GlossHouseModel", "canBeBetter", "(III)Z"⟩, 51)]
theorem lw_r2 : ∀ q ∈ lw_privs_2, lw_okq q := List.forall_mem_cons.mpr ⟨lw_p16, List.forall_mem_cons.mpr ⟨lw_p17, List.forall_mem_cons.mpr ⟨lw_p18, List.forall_mem_cons.mpr ⟨lw_p19, List.forall_mem_cons.mpr ⟨lw_p20, List.forall_mem_cons.mpr ⟨lw_p21, List.forall_mem_cons.mpr ⟨lw_p22, List.forall_mem_cons.mpr ⟨lw_p23, List.forall_mem_cons.mpr ⟨lw_p24, List.forall_mem_cons.mpr ⟨lw_p25, List.forall_mem_cons.mpr ⟨lw_p26, List.forall_mem_cons.mpr ⟨lw_p27, List.forall_mem_cons.mpr ⟨lw_p28, List.forall_mem_cons.mpr ⟨lw_p29, List.forall_mem_cons.mpr ⟨lw_p30, List.forall_mem_cons.mpr ⟨lw_p31, fun _ h => absurd h List.not_mem_nil⟩⟩⟩⟩⟩⟩⟩⟩⟩⟩⟩⟩⟩⟩⟩⟩
theorem lw_p32 : lw_okq (⟨"GlossHouseModel", "inState", "(I)I"⟩, 51) := ⟨⟨by decide +kernel, by decide +kernel⟩, List.mem_of_getElem? (i := 785) (by decide +kernel), List.mem_of_getElem? (i := 1150) (by decide +kernel), List.mem_of_getElem? (i := 1151) (by decide +kernel)⟩
theorem lw_p33 : lw_okq (⟨"GlossHouseModel", "releaseMany", "(I)I"⟩, 51) := ⟨⟨by decide +kernel, by decide +kernel⟩, List.mem_of_getElem? (i := 785) (by decide +kernel), List.mem_of_getElem? (i := 1154) (by decide +kernel), List.mem_of_getElem? (i := 1155) (by decide +kernel)⟩
def lw_privs_3 : List (MethodName × Nat) := [(⟨"GlossHouseModel", "inState", "(I)I"⟩, 51), (⟨"GlossHouseModel", "releaseMany", "(I)I"⟩, 51)]
theorem lw_r3 : ∀ q ∈ lw_privs_3, lw_okq q := List.forall_mem_cons.mpr ⟨lw_p32, List.forall_mem_cons.mpr ⟨lw_p33, fun _ h => absurd h List.not_mem_nil⟩⟩
def lw_privs : List (MethodName × Nat) := lw_privs_1 ++ (lw_privs_2 ++ (lw_privs_3))
def lw_tbl : List Cond := k2_sels lw_privs ++ tables_1
theorem lw_privs_ok : ∀ q ∈ lw_privs, lw_okq q := by
  show ∀ q ∈ lw_privs_1 ++ (lw_privs_2 ++ (lw_privs_3)), lw_okq q
  exact List.forall_mem_append.mpr ⟨lw_r1, List.forall_mem_append.mpr ⟨lw_r2, lw_r3⟩⟩
end
section
/-! ===== BEGIN words of one list among another's, by their places ===== -/
theorem goodIn_r {big : List Cond} (ws : List Cond) (ps : List Nat) (hp : ws = ps.filterMap (fun i => big[i]?)) (h : ws.all goodWord = true) : GoodIn big ws := by
  intro w hw
  have h1 := List.all_eq_true.mp h w hw
  rw [hp] at hw
  obtain ⟨i, -, hi⟩ := List.mem_filterMap.mp hw
  have hm : w ∈ big := by first | exact List.mem_of_getElem? hi | exact List.getElem?_mem hi
  exact ⟨hm, good_of_word h1⟩
theorem goodIn_app {big a b : List Cond} (ha : GoodIn big a) (hb : GoodIn big b) : GoodIn big (a ++ b) := fun w h => (List.mem_append.mp h).elim (ha w) (hb w)
theorem goodIn_ca {big a b : List Cond} {c : Cond} (ha : GoodIn big (c :: a)) (hb : GoodIn big b) : GoodIn big (c :: (a ++ b)) := fun w h => (List.mem_cons.mp h).elim (fun e => ha w (List.mem_cons.mpr (Or.inl e))) (fun h => (List.mem_append.mp h).elim (fun h => ha w (List.mem_cons.mpr (Or.inr h))) (hb w))
theorem goodIn_sub {big ws : List Cond} (hm : ∀ w ∈ ws, w ∈ big) (h : ws.all goodWord = true) : GoodIn big ws := fun w hw => ⟨hm w hw, good_of_word (List.all_eq_true.mp h w hw)⟩
/-! ===== END ===== -/
/-! ===== BEGIN printed: names, fields, word lists, decode rows ===== -/
def RX0 : String := "GlossHouse$Book"
def TX0 : u_T := fun k => match k with
  | 0 => ("GlossHouse$Book", "pieces", "[LGlossHouse$Piece;", true)
  | _ => ("GlossHouse$Book", "count", "I", false)
def tyX0 : Nat → FieldType := fun k => match k with
  | 0 => .array (.object "GlossHouse$Piece")
  | _ => .int
abbrev wsX00 : List Cond := u_ws RX0 TX0 2
theorem nmX0 : ∀ a, a < 2 → ∀ b, b < 2 → a ≠ b → (TX0 a).2.1 ≠ (TX0 b).2.1 := by decide +kernel
theorem tyX0_ok : ∀ k, k < 2 → parseFieldDescriptor (TX0 k).2.2.1 = some (tyX0 k) := by decide +kernel
abbrev cX0_init : ByteArray := prog_2_method_1_code
def yX0_init : MethodName := ⟨RX0, "<init>", "()V"⟩
abbrev cX0_count : ByteArray := prog_2_method_2_code
def yX0_count : MethodName := ⟨RX0, "count", "()I"⟩
abbrev cX0_isFull : ByteArray := prog_2_method_3_code
def yX0_isFull : MethodName := ⟨RX0, "isFull", "()Z"⟩
abbrev cX0_at : ByteArray := prog_2_method_4_code
def yX0_at : MethodName := ⟨RX0, "at", "(I)LGlossHouse$Piece;"⟩
abbrev cX0_add : ByteArray := prog_2_method_5_code
def yX0_add : MethodName := ⟨RX0, "add", "(ILGlossHouse$Row;)V"⟩
abbrev cX0_clear : ByteArray := prog_2_method_6_code
def yX0_clear : MethodName := ⟨RX0, "clear", "()V"⟩
abbrev cX0_copy : ByteArray := prog_2_method_7_code
def yX0_copy : MethodName := ⟨RX0, "copy", "(LGlossHouse$Book;)V"⟩
abbrev cX0_textsThatAre : ByteArray := prog_2_method_8_code
def yX0_textsThatAre : MethodName := ⟨RX0, "textsThatAre", "(I)I"⟩
abbrev cX0_releasedSize : ByteArray := prog_2_method_9_code
def yX0_releasedSize : MethodName := ⟨RX0, "releasedSize", "(I)I"⟩
abbrev cX0_releasedSign : ByteArray := prog_2_method_10_code
def yX0_releasedSign : MethodName := ⟨RX0, "releasedSign", "(II)I"⟩
def RX1 : String := "GlossHouse$Entry"
def TX1 : u_T := fun k => match k with
  | 0 => ("GlossHouse$Entry", "pieceSigns", "LGlossHouse$Row;", true)
  | 1 => ("GlossHouse$Entry", "textSigns", "LGlossHouse$Row;", true)
  | _ => ("GlossHouse$Entry", "tongue", "I", false)
def tyX1 : Nat → FieldType := fun k => match k with
  | 0 => .object "GlossHouse$Row"
  | 1 => .object "GlossHouse$Row"
  | _ => .int
abbrev wsX10 : List Cond := u_ws RX1 TX1 3
theorem nmX1 : ∀ a, a < 3 → ∀ b, b < 3 → a ≠ b → (TX1 a).2.1 ≠ (TX1 b).2.1 := by decide +kernel
theorem tyX1_ok : ∀ k, k < 3 → parseFieldDescriptor (TX1 k).2.2.1 = some (tyX1 k) := by decide +kernel
abbrev cX1_init : ByteArray := prog_3_method_1_code
def yX1_init : MethodName := ⟨RX1, "<init>", "()V"⟩
abbrev cX1_pieceSigns : ByteArray := prog_3_method_2_code
def yX1_pieceSigns : MethodName := ⟨RX1, "pieceSigns", "()LGlossHouse$Row;"⟩
abbrev cX1_textSigns : ByteArray := prog_3_method_3_code
def yX1_textSigns : MethodName := ⟨RX1, "textSigns", "()LGlossHouse$Row;"⟩
abbrev cX1_tongue : ByteArray := prog_3_method_4_code
def yX1_tongue : MethodName := ⟨RX1, "tongue", "()I"⟩
abbrev cX1_fill : ByteArray := prog_3_method_5_code
def yX1_fill : MethodName := ⟨RX1, "fill", "(LGlossHouse$Row;ILGlossHouse$Row;)V"⟩
abbrev cX1_isJust : ByteArray := prog_3_method_6_code
def yX1_isJust : MethodName := ⟨RX1, "isJust", "(LGlossHouse$Row;ILGlossHouse$Row;)Z"⟩
def RX2 : String := "GlossHouse$Hands"
def TX2 : u_T := fun k => match k with
  | 0 => ("GlossHouse$Hands", "tongues", "[I", true)
  | 1 => ("GlossHouse$Hands", "hours", "[I", true)
  | 2 => ("GlossHouse$Hands", "rates", "[I", true)
  | _ => ("GlossHouse$Hands", "count", "I", false)
def tyX2 : Nat → FieldType := fun k => match k with
  | 0 => .array .int
  | 1 => .array .int
  | 2 => .array .int
  | _ => .int
abbrev wsX20 : List Cond := u_ws RX2 TX2 4
theorem nmX2 : ∀ a, a < 4 → ∀ b, b < 4 → a ≠ b → (TX2 a).2.1 ≠ (TX2 b).2.1 := by decide +kernel
theorem tyX2_ok : ∀ k, k < 4 → parseFieldDescriptor (TX2 k).2.2.1 = some (tyX2 k) := by decide +kernel
abbrev cX2_init : ByteArray := prog_4_method_1_code
def yX2_init : MethodName := ⟨RX2, "<init>", "()V"⟩
abbrev cX2_count : ByteArray := prog_4_method_2_code
def yX2_count : MethodName := ⟨RX2, "count", "()I"⟩
abbrev cX2_isFull : ByteArray := prog_4_method_3_code
def yX2_isFull : MethodName := ⟨RX2, "isFull", "()Z"⟩
abbrev cX2_has : ByteArray := prog_4_method_4_code
def yX2_has : MethodName := ⟨RX2, "has", "(I)Z"⟩
abbrev cX2_knows : ByteArray := prog_4_method_5_code
def yX2_knows : MethodName := ⟨RX2, "knows", "(II)Z"⟩
abbrev cX2_hoursOf : ByteArray := prog_4_method_6_code
def yX2_hoursOf : MethodName := ⟨RX2, "hoursOf", "(I)I"⟩
abbrev cX2_rateOf : ByteArray := prog_4_method_7_code
def yX2_rateOf : MethodName := ⟨RX2, "rateOf", "(I)I"⟩
abbrev cX2_add : ByteArray := prog_4_method_8_code
def yX2_add : MethodName := ⟨RX2, "add", "(III)V"⟩
abbrev cX2_setHours : ByteArray := prog_4_method_9_code
def yX2_setHours : MethodName := ⟨RX2, "setHours", "(II)V"⟩
def RX3 : String := "GlossHouse$Matcher"
def TX3 : u_T := fun k => match k with
  | 0 => ("GlossHouse$Matcher", "best", "[J", true)
  | 1 => ("GlossHouse$Matcher", "worth", "[J", true)
  | _ => ("GlossHouse$Matcher", "found", "J", false)
def tyX3 : Nat → FieldType := fun k => match k with
  | 0 => .array .long
  | 1 => .array .long
  | _ => .long
abbrev wsX30 : List Cond := u_ws RX3 TX3 3
theorem nmX3 : ∀ a, a < 3 → ∀ b, b < 3 → a ≠ b → (TX3 a).2.1 ≠ (TX3 b).2.1 := by decide +kernel
theorem tyX3_ok : ∀ k, k < 3 → parseFieldDescriptor (TX3 k).2.2.1 = some (tyX3 k) := by decide +kernel
abbrev cX3_init : ByteArray := prog_5_method_1_code
def yX3_init : MethodName := ⟨RX3, "<init>", "()V"⟩
abbrev cX3_match : ByteArray := prog_5_method_2_code
def yX3_match : MethodName := ⟨RX3, "match", "(LGlossHouse$Book;LGlossHouse$Book;LGlossHouse$Ruler;)I"⟩
abbrev cX3_givenTo : ByteArray := prog_5_method_3_code
def yX3_givenTo : MethodName := ⟨RX3, "givenTo", "(I)I"⟩
abbrev cX3_weigh : ByteArray := prog_5_method_4_code
def yX3_weigh : MethodName := ⟨RX3, "weigh", "(LGlossHouse$Row;ILGlossHouse$Book;LGlossHouse$Ruler;)V"⟩
abbrev cX3_giveOne : ByteArray := prog_5_method_5_code
def yX3_giveOne : MethodName := ⟨RX3, "giveOne", "(IJ)V"⟩
abbrev cX3_worthOf : ByteArray := prog_5_method_6_code
def yX3_worthOf : MethodName := ⟨RX3, "worthOf", "(III)J"⟩
abbrev cX3_shiftOf : ByteArray := prog_5_method_7_code
def yX3_shiftOf : MethodName := ⟨RX3, "shiftOf", "(I)I"⟩
def RX4 : String := "GlossHouse$Memory"
def TX4 : u_T := fun k => match k with
  | 0 => ("GlossHouse$Memory", "entries", "[LGlossHouse$Entry;", true)
  | _ => ("GlossHouse$Memory", "count", "I", false)
def tyX4 : Nat → FieldType := fun k => match k with
  | 0 => .array (.object "GlossHouse$Entry")
  | _ => .int
abbrev wsX40 : List Cond := u_ws RX4 TX4 2
theorem nmX4 : ∀ a, a < 2 → ∀ b, b < 2 → a ≠ b → (TX4 a).2.1 ≠ (TX4 b).2.1 := by decide +kernel
theorem tyX4_ok : ∀ k, k < 2 → parseFieldDescriptor (TX4 k).2.2.1 = some (tyX4 k) := by decide +kernel
abbrev cX4_init : ByteArray := prog_6_method_1_code
def yX4_init : MethodName := ⟨RX4, "<init>", "()V"⟩
abbrev cX4_count : ByteArray := prog_6_method_2_code
def yX4_count : MethodName := ⟨RX4, "count", "()I"⟩
abbrev cX4_at : ByteArray := prog_6_method_3_code
def yX4_at : MethodName := ⟨RX4, "at", "(I)LGlossHouse$Entry;"⟩
abbrev cX4_remember : ByteArray := prog_6_method_4_code
def yX4_remember : MethodName := ⟨RX4, "remember", "(LGlossHouse$Row;ILGlossHouse$Row;)V"⟩
abbrev cX4_putEldestLast : ByteArray := prog_6_method_5_code
def yX4_putEldestLast : MethodName := ⟨RX4, "putEldestLast", "()V"⟩
abbrev cX4_closest : ByteArray := prog_6_method_6_code
def yX4_closest : MethodName := ⟨RX4, "closest", "(LGlossHouse$Row;ILGlossHouse$Ruler;)I"⟩
abbrev cX4_copy : ByteArray := prog_6_method_7_code
def yX4_copy : MethodName := ⟨RX4, "copy", "(LGlossHouse$Memory;)V"⟩
def RX5 : String := "GlossHouse$Piece"
def TX5 : u_T := fun k => match k with
  | 0 => ("GlossHouse$Piece", "signs", "LGlossHouse$Row;", true)
  | 1 => ("GlossHouse$Piece", "texts", "[LGlossHouse$Text;", true)
  | 2 => ("GlossHouse$Piece", "kind", "I", false)
  | 3 => ("GlossHouse$Piece", "given", "I", false)
  | _ => ("GlossHouse$Piece", "apart", "I", false)
def tyX5 : Nat → FieldType := fun k => match k with
  | 0 => .object "GlossHouse$Row"
  | 1 => .array (.object "GlossHouse$Text")
  | 2 => .int
  | 3 => .int
  | _ => .int
abbrev wsX50 : List Cond := u_ws RX5 TX5 5
theorem nmX5 : ∀ a, a < 5 → ∀ b, b < 5 → a ≠ b → (TX5 a).2.1 ≠ (TX5 b).2.1 := by decide +kernel
theorem tyX5_ok : ∀ k, k < 5 → parseFieldDescriptor (TX5 k).2.2.1 = some (tyX5 k) := by decide +kernel
abbrev cX5_init : ByteArray := prog_7_method_1_code
def yX5_init : MethodName := ⟨RX5, "<init>", "()V"⟩
abbrev cX5_signs : ByteArray := prog_7_method_2_code
def yX5_signs : MethodName := ⟨RX5, "signs", "()LGlossHouse$Row;"⟩
abbrev cX5_kind : ByteArray := prog_7_method_3_code
def yX5_kind : MethodName := ⟨RX5, "kind", "()I"⟩
abbrev cX5_given : ByteArray := prog_7_method_4_code
def yX5_given : MethodName := ⟨RX5, "given", "()I"⟩
abbrev cX5_textIn : ByteArray := prog_7_method_5_code
def yX5_textIn : MethodName := ⟨RX5, "textIn", "(I)LGlossHouse$Text;"⟩
abbrev cX5_storyAt : ByteArray := prog_7_method_6_code
def yX5_storyAt : MethodName := ⟨RX5, "storyAt", "(I)I"⟩
abbrev cX5_isReviewedIn : ByteArray := prog_7_method_7_code
def yX5_isReviewedIn : MethodName := ⟨RX5, "isReviewedIn", "(I)Z"⟩
abbrev cX5_needsWork : ByteArray := prog_7_method_8_code
def yX5_needsWork : MethodName := ⟨RX5, "needsWork", "(I)Z"⟩
abbrev cX5_releasedIn : ByteArray := prog_7_method_9_code
def yX5_releasedIn : MethodName := ⟨RX5, "releasedIn", "(I)LGlossHouse$Row;"⟩
abbrev cX5_textsThatAre : ByteArray := prog_7_method_10_code
def yX5_textsThatAre : MethodName := ⟨RX5, "textsThatAre", "(I)I"⟩
abbrev cX5_begin : ByteArray := prog_7_method_11_code
def yX5_begin : MethodName := ⟨RX5, "begin", "(ILGlossHouse$Row;)V"⟩
abbrev cX5_follow : ByteArray := prog_7_method_12_code
def yX5_follow : MethodName := ⟨RX5, "follow", "(LGlossHouse$Piece;II)V"⟩
abbrev cX5_copy : ByteArray := prog_7_method_13_code
def yX5_copy : MethodName := ⟨RX5, "copy", "(LGlossHouse$Piece;)V"⟩
def RX6 : String := "GlossHouse$Planner"
def TX6 : u_T := fun k => match k with
  | 0 => ("GlossHouse$Planner", "efforts", "[I", true)
  | 1 => ("GlossHouse$Planner", "load", "[I", true)
  | 2 => ("GlossHouse$Planner", "ones", "[I", true)
  | 3 => ("GlossHouse$Planner", "best", "[J", true)
  | 4 => ("GlossHouse$Planner", "needy", "I", false)
  | _ => ("GlossHouse$Planner", "found", "J", false)
def tyX6 : Nat → FieldType := fun k => match k with
  | 0 => .array .int
  | 1 => .array .int
  | 2 => .array .int
  | 3 => .array .long
  | 4 => .int
  | _ => .long
abbrev wsX60 : List Cond := u_ws RX6 TX6 6
theorem nmX6 : ∀ a, a < 6 → ∀ b, b < 6 → a ≠ b → (TX6 a).2.1 ≠ (TX6 b).2.1 := by decide +kernel
theorem tyX6_ok : ∀ k, k < 6 → parseFieldDescriptor (TX6 k).2.2.1 = some (tyX6 k) := by decide +kernel
abbrev cX6_init : ByteArray := prog_8_method_1_code
def yX6_init : MethodName := ⟨RX6, "<init>", "()V"⟩
abbrev cX6_setEffort : ByteArray := prog_8_method_2_code
def yX6_setEffort : MethodName := ⟨RX6, "setEffort", "(II)V"⟩
abbrev cX6_solve : ByteArray := prog_8_method_3_code
def yX6_solve : MethodName := ⟨RX6, "solve", "(LGlossHouse$Hands;I)V"⟩
abbrev cX6_needing : ByteArray := prog_8_method_4_code
def yX6_needing : MethodName := ⟨RX6, "needing", "()I"⟩
abbrev cX6_withHand : ByteArray := prog_8_method_5_code
def yX6_withHand : MethodName := ⟨RX6, "withHand", "()I"⟩
abbrev cX6_cost : ByteArray := prog_8_method_6_code
def yX6_cost : MethodName := ⟨RX6, "cost", "()I"⟩
abbrev cX6_handOf : ByteArray := prog_8_method_7_code
def yX6_handOf : MethodName := ⟨RX6, "handOf", "(I)I"⟩
abbrev cX6_measureSets : ByteArray := prog_8_method_8_code
def yX6_measureSets : MethodName := ⟨RX6, "measureSets", "()V"⟩
abbrev cX6_giveTo : ByteArray := prog_8_method_9_code
def yX6_giveTo : MethodName := ⟨RX6, "giveTo", "(III)V"⟩
abbrev cX6_shiftOf : ByteArray := prog_8_method_10_code
def yX6_shiftOf : MethodName := ⟨RX6, "shiftOf", "(I)I"⟩
def RX7 : String := "GlossHouse$Row"
def TX7 : u_T := fun k => match k with
  | 0 => ("GlossHouse$Row", "signs", "[I", true)
  | _ => ("GlossHouse$Row", "size", "I", false)
def tyX7 : Nat → FieldType := fun k => match k with
  | 0 => .array .int
  | _ => .int
abbrev wsX70 : List Cond := u_ws RX7 TX7 2
theorem nmX7 : ∀ a, a < 2 → ∀ b, b < 2 → a ≠ b → (TX7 a).2.1 ≠ (TX7 b).2.1 := by decide +kernel
theorem tyX7_ok : ∀ k, k < 2 → parseFieldDescriptor (TX7 k).2.2.1 = some (tyX7 k) := by decide +kernel
abbrev cX7_init : ByteArray := prog_9_method_1_code
def yX7_init : MethodName := ⟨RX7, "<init>", "()V"⟩
abbrev cX7_size : ByteArray := prog_9_method_2_code
def yX7_size : MethodName := ⟨RX7, "size", "()I"⟩
abbrev cX7_isFull : ByteArray := prog_9_method_3_code
def yX7_isFull : MethodName := ⟨RX7, "isFull", "()Z"⟩
abbrev cX7_at : ByteArray := prog_9_method_4_code
def yX7_at : MethodName := ⟨RX7, "at", "(I)I"⟩
abbrev cX7_askedFor : ByteArray := prog_9_method_5_code
def yX7_askedFor : MethodName := ⟨RX7, "askedFor", "(II)I"⟩
abbrev cX7_add : ByteArray := prog_9_method_6_code
def yX7_add : MethodName := ⟨RX7, "add", "(I)V"⟩
abbrev cX7_clear : ByteArray := prog_9_method_7_code
def yX7_clear : MethodName := ⟨RX7, "clear", "()V"⟩
abbrev cX7_copy : ByteArray := prog_9_method_8_code
def yX7_copy : MethodName := ⟨RX7, "copy", "(LGlossHouse$Row;)V"⟩
abbrev cX7_isSameAs : ByteArray := prog_9_method_9_code
def yX7_isSameAs : MethodName := ⟨RX7, "isSameAs", "(LGlossHouse$Row;)Z"⟩
abbrev cX7_timesOf : ByteArray := prog_9_method_10_code
def yX7_timesOf : MethodName := ⟨RX7, "timesOf", "(I)I"⟩
abbrev cX7_holdsAny : ByteArray := prog_9_method_11_code
def yX7_holdsAny : MethodName := ⟨RX7, "holdsAny", "(II)Z"⟩
def RX8 : String := "GlossHouse$Ruler"
def TX8 : u_T := fun k => match k with
  | _ => ("GlossHouse$Ruler", "line", "[I", true)
def tyX8 : Nat → FieldType := fun k => match k with
  | _ => .array .int
abbrev wsX80 : List Cond := u_ws RX8 TX8 1
theorem nmX8 : ∀ a, a < 1 → ∀ b, b < 1 → a ≠ b → (TX8 a).2.1 ≠ (TX8 b).2.1 := by decide +kernel
theorem tyX8_ok : ∀ k, k < 1 → parseFieldDescriptor (TX8 k).2.2.1 = some (tyX8 k) := by decide +kernel
abbrev cX8_init : ByteArray := prog_10_method_1_code
def yX8_init : MethodName := ⟨RX8, "<init>", "()V"⟩
abbrev cX8_between : ByteArray := prog_10_method_2_code
def yX8_between : MethodName := ⟨RX8, "between", "(LGlossHouse$Row;LGlossHouse$Row;)I"⟩
def RX9 : String := "GlossHouse$Terms"
def TX9 : u_T := fun k => match k with
  | 0 => ("GlossHouse$Terms", "ownWords", "[[I", true)
  | _ => ("GlossHouse$Terms", "count", "I", false)
def tyX9 : Nat → FieldType := fun k => match k with
  | 0 => .array (.array .int)
  | _ => .int
abbrev wsX90 : List Cond := u_ws RX9 TX9 2
theorem nmX9 : ∀ a, a < 2 → ∀ b, b < 2 → a ≠ b → (TX9 a).2.1 ≠ (TX9 b).2.1 := by decide +kernel
theorem tyX9_ok : ∀ k, k < 2 → parseFieldDescriptor (TX9 k).2.2.1 = some (tyX9 k) := by decide +kernel
abbrev cX9_init : ByteArray := prog_11_method_1_code
def yX9_init : MethodName := ⟨RX9, "<init>", "()V"⟩
abbrev cX9_count : ByteArray := prog_11_method_2_code
def yX9_count : MethodName := ⟨RX9, "count", "()I"⟩
abbrev cX9_isFull : ByteArray := prog_11_method_3_code
def yX9_isFull : MethodName := ⟨RX9, "isFull", "()Z"⟩
abbrev cX9_ownWordOf : ByteArray := prog_11_method_4_code
def yX9_ownWordOf : MethodName := ⟨RX9, "ownWordOf", "(II)I"⟩
abbrev cX9_has : ByteArray := prog_11_method_5_code
def yX9_has : MethodName := ⟨RX9, "has", "(II)Z"⟩
abbrev cX9_put : ByteArray := prog_11_method_6_code
def yX9_put : MethodName := ⟨RX9, "put", "(III)V"⟩
abbrev cX9_remove : ByteArray := prog_11_method_7_code
def yX9_remove : MethodName := ⟨RX9, "remove", "(II)V"⟩
def RX10 : String := "GlossHouse$Text"
def TX10 : u_T := fun k => match k with
  | 0 => ("GlossHouse$Text", "signs", "LGlossHouse$Row;", true)
  | 1 => ("GlossHouse$Text", "state", "I", false)
  | _ => ("GlossHouse$Text", "writer", "I", false)
def tyX10 : Nat → FieldType := fun k => match k with
  | 0 => .object "GlossHouse$Row"
  | 1 => .int
  | _ => .int
abbrev wsX100 : List Cond := u_ws RX10 TX10 3
theorem nmX10 : ∀ a, a < 3 → ∀ b, b < 3 → a ≠ b → (TX10 a).2.1 ≠ (TX10 b).2.1 := by decide +kernel
theorem tyX10_ok : ∀ k, k < 3 → parseFieldDescriptor (TX10 k).2.2.1 = some (tyX10 k) := by decide +kernel
abbrev cX10_init : ByteArray := prog_12_method_1_code
def yX10_init : MethodName := ⟨RX10, "<init>", "()V"⟩
abbrev cX10_signs : ByteArray := prog_12_method_2_code
def yX10_signs : MethodName := ⟨RX10, "signs", "()LGlossHouse$Row;"⟩
abbrev cX10_state : ByteArray := prog_12_method_3_code
def yX10_state : MethodName := ⟨RX10, "state", "()I"⟩
abbrev cX10_writer : ByteArray := prog_12_method_4_code
def yX10_writer : MethodName := ⟨RX10, "writer", "()I"⟩
abbrev cX10_waitsForReview : ByteArray := prog_12_method_5_code
def yX10_waitsForReview : MethodName := ⟨RX10, "waitsForReview", "()Z"⟩
abbrev cX10_becomeDraft : ByteArray := prog_12_method_6_code
def yX10_becomeDraft : MethodName := ⟨RX10, "becomeDraft", "(LGlossHouse$Row;I)V"⟩
abbrev cX10_becomeReviewed : ByteArray := prog_12_method_7_code
def yX10_becomeReviewed : MethodName := ⟨RX10, "becomeReviewed", "()V"⟩
abbrev cX10_becomeDoubtful : ByteArray := prog_12_method_8_code
def yX10_becomeDoubtful : MethodName := ⟨RX10, "becomeDoubtful", "()V"⟩
abbrev cX10_clear : ByteArray := prog_12_method_9_code
def yX10_clear : MethodName := ⟨RX10, "clear", "()V"⟩
abbrev cX10_copy : ByteArray := prog_12_method_10_code
def yX10_copy : MethodName := ⟨RX10, "copy", "(LGlossHouse$Text;)V"⟩
def RX11 : String := "GlossHouse"
def TX11 : u_T := fun k => match k with
  | 0 => ("GlossHouse", "draft", "LGlossHouse$Row;", true)
  | 1 => ("GlossHouse", "ruler", "LGlossHouse$Ruler;", true)
  | 2 => ("GlossHouse", "matcher", "LGlossHouse$Matcher;", true)
  | 3 => ("GlossHouse", "planner", "LGlossHouse$Planner;", true)
  | 4 => ("GlossHouse", "hands", "LGlossHouse$Hands;", true)
  | 5 => ("GlossHouse", "terms", "LGlossHouse$Terms;", true)
  | 6 => ("GlossHouse", "remembered", "LGlossHouse$Memory;", true)
  | 7 => ("GlossHouse", "keptMemory", "LGlossHouse$Memory;", true)
  | 8 => ("GlossHouse", "keptSource", "LGlossHouse$Book;", true)
  | 9 => ("GlossHouse", "source", "LGlossHouse$Book;", false)
  | 10 => ("GlossHouse", "next", "LGlossHouse$Book;", false)
  | 11 => ("GlossHouse", "shortLimit", "I", false)
  | _ => ("GlossHouse", "isKept", "Z", false)
def tyX11 : Nat → FieldType := fun k => match k with
  | 0 => .object "GlossHouse$Row"
  | 1 => .object "GlossHouse$Ruler"
  | 2 => .object "GlossHouse$Matcher"
  | 3 => .object "GlossHouse$Planner"
  | 4 => .object "GlossHouse$Hands"
  | 5 => .object "GlossHouse$Terms"
  | 6 => .object "GlossHouse$Memory"
  | 7 => .object "GlossHouse$Memory"
  | 8 => .object "GlossHouse$Book"
  | 9 => .object "GlossHouse$Book"
  | 10 => .object "GlossHouse$Book"
  | 11 => .int
  | _ => .boolean
abbrev wsX110 : List Cond := u_ws RX11 TX11 13
theorem nmX11 : ∀ a, a < 13 → ∀ b, b < 13 → a ≠ b → (TX11 a).2.1 ≠ (TX11 b).2.1 := by decide +kernel
theorem tyX11_ok : ∀ k, k < 13 → parseFieldDescriptor (TX11 k).2.2.1 = some (tyX11 k) := by decide +kernel
abbrev cX11_init : ByteArray := prog_1_method_1_code
def yX11_init : MethodName := ⟨RX11, "<init>", "()V"⟩
abbrev cX11_sign : ByteArray := prog_1_method_2_code
def yX11_sign : MethodName := ⟨RX11, "sign", "(I)I"⟩
abbrev cX11_scrap : ByteArray := prog_1_method_3_code
def yX11_scrap : MethodName := ⟨RX11, "scrap", "()I"⟩
abbrev cX11_piece : ByteArray := prog_1_method_4_code
def yX11_piece : MethodName := ⟨RX11, "piece", "(I)I"⟩
abbrev cX11_drop : ByteArray := prog_1_method_5_code
def yX11_drop : MethodName := ⟨RX11, "drop", "()I"⟩
abbrev cX11_turn : ByteArray := prog_1_method_6_code
def yX11_turn : MethodName := ⟨RX11, "turn", "()I"⟩
abbrev cX11_of : ByteArray := prog_1_method_7_code
def yX11_of : MethodName := ⟨RX11, "of", "(II)I"⟩
abbrev cX11_far : ByteArray := prog_1_method_8_code
def yX11_far : MethodName := ⟨RX11, "far", "(II)I"⟩
abbrev cX11_from : ByteArray := prog_1_method_9_code
def yX11_from : MethodName := ⟨RX11, "from", "(I)I"⟩
abbrev cX11_story : ByteArray := prog_1_method_10_code
def yX11_story : MethodName := ⟨RX11, "story", "(I)I"⟩
abbrev cX11_hand : ByteArray := prog_1_method_11_code
def yX11_hand : MethodName := ⟨RX11, "hand", "(III)I"⟩
abbrev cX11_hours : ByteArray := prog_1_method_12_code
def yX11_hours : MethodName := ⟨RX11, "hours", "(II)I"⟩
abbrev cX11_term : ByteArray := prog_1_method_13_code
def yX11_term : MethodName := ⟨RX11, "term", "(III)I"⟩
abbrev cX11_forget : ByteArray := prog_1_method_14_code
def yX11_forget : MethodName := ⟨RX11, "forget", "(II)I"⟩
abbrev cX11_write : ByteArray := prog_1_method_15_code
def yX11_write : MethodName := ⟨RX11, "write", "(III)I"⟩
abbrev cX11_review : ByteArray := prog_1_method_16_code
def yX11_review : MethodName := ⟨RX11, "review", "(III)I"⟩
abbrev cX11_reuse : ByteArray := prog_1_method_17_code
def yX11_reuse : MethodName := ⟨RX11, "reuse", "(III)I"⟩
abbrev cX11_text : ByteArray := prog_1_method_18_code
def yX11_text : MethodName := ⟨RX11, "text", "(III)I"⟩
abbrev cX11_fault : ByteArray := prog_1_method_19_code
def yX11_fault : MethodName := ⟨RX11, "fault", "(II)I"⟩
abbrev cX11_limit : ByteArray := prog_1_method_20_code
def yX11_limit : MethodName := ⟨RX11, "limit", "(I)I"⟩
abbrev cX11_nearest : ByteArray := prog_1_method_21_code
def yX11_nearest : MethodName := ⟨RX11, "nearest", "(III)I"⟩
abbrev cX11_memory : ByteArray := prog_1_method_22_code
def yX11_memory : MethodName := ⟨RX11, "memory", "(II)I"⟩
abbrev cX11_effort : ByteArray := prog_1_method_23_code
def yX11_effort : MethodName := ⟨RX11, "effort", "(II)I"⟩
abbrev cX11_plan : ByteArray := prog_1_method_24_code
def yX11_plan : MethodName := ⟨RX11, "plan", "(II)I"⟩
abbrev cX11_planned : ByteArray := prog_1_method_25_code
def yX11_planned : MethodName := ⟨RX11, "planned", "(II)I"⟩
abbrev cX11_release : ByteArray := prog_1_method_26_code
def yX11_release : MethodName := ⟨RX11, "release", "(II)I"⟩
abbrev cX11_many : ByteArray := prog_1_method_27_code
def yX11_many : MethodName := ⟨RX11, "many", "(I)I"⟩
abbrev cX11_keep : ByteArray := prog_1_method_28_code
def yX11_keep : MethodName := ⟨RX11, "keep", "()I"⟩
abbrev cX11_back : ByteArray := prog_1_method_29_code
def yX11_back : MethodName := ⟨RX11, "back", "()I"⟩
abbrev cX11_isIn : ByteArray := prog_1_method_30_code
def yX11_isIn : MethodName := ⟨RX11, "isIn", "(III)Z"⟩
abbrev cX11_isWord : ByteArray := prog_1_method_31_code
def yX11_isWord : MethodName := ⟨RX11, "isWord", "(I)Z"⟩
abbrev cX11_isOwnWord : ByteArray := prog_1_method_32_code
def yX11_isOwnWord : MethodName := ⟨RX11, "isOwnWord", "(I)Z"⟩
abbrev cX11_isSign : ByteArray := prog_1_method_33_code
def yX11_isSign : MethodName := ⟨RX11, "isSign", "(I)Z"⟩
abbrev cX11_isTongue : ByteArray := prog_1_method_34_code
def yX11_isTongue : MethodName := ⟨RX11, "isTongue", "(I)Z"⟩
abbrev cX11_textAt : ByteArray := prog_1_method_35_code
def yX11_textAt : MethodName := ⟨RX11, "textAt", "(II)LGlossHouse$Text;"⟩
abbrev cX11_takeOver : ByteArray := prog_1_method_36_code
def yX11_takeOver : MethodName := ⟨RX11, "takeOver", "(LGlossHouse$Piece;I)V"⟩
abbrev cX11_whyNoWriting : ByteArray := prog_1_method_37_code
def yX11_whyNoWriting : MethodName := ⟨RX11, "whyNoWriting", "(III)I"⟩
abbrev cX11_faultOf : ByteArray := prog_1_method_38_code
def yX11_faultOf : MethodName := ⟨RX11, "faultOf", "(LGlossHouse$Piece;LGlossHouse$Text;I)I"⟩
abbrev cX11_hasOtherHoles : ByteArray := prog_1_method_39_code
def yX11_hasOtherHoles : MethodName := ⟨RX11, "hasOtherHoles", "(LGlossHouse$Row;LGlossHouse$Row;)Z"⟩
abbrev cX11_lacksTerm : ByteArray := prog_1_method_40_code
def yX11_lacksTerm : MethodName := ⟨RX11, "lacksTerm", "(LGlossHouse$Row;LGlossHouse$Row;I)Z"⟩
abbrev cX11_closestEntry : ByteArray := prog_1_method_41_code
def yX11_closestEntry : MethodName := ⟨RX11, "closestEntry", "(LGlossHouse$Piece;I)LGlossHouse$Entry;"⟩
abbrev cX11_effortFor : ByteArray := prog_1_method_42_code
def yX11_effortFor : MethodName := ⟨RX11, "effortFor", "(LGlossHouse$Piece;I)I"⟩
abbrev cX11_makePlan : ByteArray := prog_1_method_43_code
def yX11_makePlan : MethodName := ⟨RX11, "makePlan", "(I)V"⟩
def RX12 : String := "GlossHouseModel"
def TX12 : u_T := fun k => match k with
  | 0 => ("GlossHouseModel", "draftMany", "I", false)
  | 1 => ("GlossHouseModel", "draft", "[I", true)
  | 2 => ("GlossHouseModel", "pieces", "I", false)
  | 3 => ("GlossHouseModel", "kinds", "[I", true)
  | 4 => ("GlossHouseModel", "sizes", "[I", true)
  | 5 => ("GlossHouseModel", "signs", "[I", true)
  | 6 => ("GlossHouseModel", "given", "[I", true)
  | 7 => ("GlossHouseModel", "givenFar", "[I", true)
  | 8 => ("GlossHouseModel", "nexts", "I", false)
  | 9 => ("GlossHouseModel", "nextKinds", "[I", true)
  | 10 => ("GlossHouseModel", "nextSizes", "[I", true)
  | 11 => ("GlossHouseModel", "nextSigns", "[I", true)
  | 12 => ("GlossHouseModel", "states", "[I", true)
  | 13 => ("GlossHouseModel", "writers", "[I", true)
  | 14 => ("GlossHouseModel", "lengths", "[I", true)
  | 15 => ("GlossHouseModel", "words", "[I", true)
  | 16 => ("GlossHouseModel", "hands", "I", false)
  | 17 => ("GlossHouseModel", "tongues", "[I", true)
  | 18 => ("GlossHouseModel", "hours", "[I", true)
  | 19 => ("GlossHouseModel", "rates", "[I", true)
  | 20 => ("GlossHouseModel", "terms", "I", false)
  | 21 => ("GlossHouseModel", "termWord", "[I", true)
  | 22 => ("GlossHouseModel", "termTongue", "[I", true)
  | 23 => ("GlossHouseModel", "termOwn", "[I", true)
  | 24 => ("GlossHouseModel", "limit", "I", false)
  | 25 => ("GlossHouseModel", "kept", "I", false)
  | 26 => ("GlossHouseModel", "memory", "[I", true)
  | 27 => ("GlossHouseModel", "isKept", "Z", false)
  | 28 => ("GlossHouseModel", "keptNumbers", "[I", true)
  | 29 => ("GlossHouseModel", "keptPieces", "[I", true)
  | 30 => ("GlossHouseModel", "keptTexts", "[I", true)
  | 31 => ("GlossHouseModel", "keptMemory", "[I", true)
  | 32 => ("GlossHouseModel", "line", "[I", true)
  | 33 => ("GlossHouseModel", "lineAhead", "[I", true)
  | 34 => ("GlossHouseModel", "costs", "[I", true)
  | 35 => ("GlossHouseModel", "rest", "[I", true)
  | 36 => ("GlossHouseModel", "match", "[I", true)
  | 37 => ("GlossHouseModel", "oldStates", "[I", true)
  | 38 => ("GlossHouseModel", "oldWriters", "[I", true)
  | 39 => ("GlossHouseModel", "oldLengths", "[I", true)
  | 40 => ("GlossHouseModel", "oldWords", "[I", true)
  | 41 => ("GlossHouseModel", "nearest", "I", false)
  | 42 => ("GlossHouseModel", "nearestFar", "I", false)
  | 43 => ("GlossHouseModel", "efforts", "[I", true)
  | 44 => ("GlossHouseModel", "cheapest", "[I", true)
  | 45 => ("GlossHouseModel", "choice", "[I", true)
  | 46 => ("GlossHouseModel", "left", "[I", true)
  | 47 => ("GlossHouseModel", "best", "[I", true)
  | 48 => ("GlossHouseModel", "bestMany", "I", false)
  | 49 => ("GlossHouseModel", "bestCost", "I", false)
  | _ => ("GlossHouseModel", "needs", "I", false)
def tyX12 : Nat → FieldType := fun k => match k with
  | 0 => .int
  | 1 => .array .int
  | 2 => .int
  | 3 => .array .int
  | 4 => .array .int
  | 5 => .array .int
  | 6 => .array .int
  | 7 => .array .int
  | 8 => .int
  | 9 => .array .int
  | 10 => .array .int
  | 11 => .array .int
  | 12 => .array .int
  | 13 => .array .int
  | 14 => .array .int
  | 15 => .array .int
  | 16 => .int
  | 17 => .array .int
  | 18 => .array .int
  | 19 => .array .int
  | 20 => .int
  | 21 => .array .int
  | 22 => .array .int
  | 23 => .array .int
  | 24 => .int
  | 25 => .int
  | 26 => .array .int
  | 27 => .boolean
  | 28 => .array .int
  | 29 => .array .int
  | 30 => .array .int
  | 31 => .array .int
  | 32 => .array .int
  | 33 => .array .int
  | 34 => .array .int
  | 35 => .array .int
  | 36 => .array .int
  | 37 => .array .int
  | 38 => .array .int
  | 39 => .array .int
  | 40 => .array .int
  | 41 => .int
  | 42 => .int
  | 43 => .array .int
  | 44 => .array .int
  | 45 => .array .int
  | 46 => .array .int
  | 47 => .array .int
  | 48 => .int
  | 49 => .int
  | _ => .int
abbrev wsX120 : List Cond := u_ws RX12 TX12 51
theorem nmX12 : ∀ a, a < 51 → ∀ b, b < 51 → a ≠ b → (TX12 a).2.1 ≠ (TX12 b).2.1 := by decide +kernel
theorem tyX12_ok : ∀ k, k < 51 → parseFieldDescriptor (TX12 k).2.2.1 = some (tyX12 k) := by decide +kernel
abbrev cX12_init : ByteArray := prog_14_method_1_code
def yX12_init : MethodName := ⟨RX12, "<init>", "()V"⟩
abbrev cX12_in : ByteArray := prog_14_method_2_code
def yX12_in : MethodName := ⟨RX12, "in", "(III)Z"⟩
abbrev cX12_isWord : ByteArray := prog_14_method_3_code
def yX12_isWord : MethodName := ⟨RX12, "isWord", "(I)Z"⟩
abbrev cX12_isHole : ByteArray := prog_14_method_4_code
def yX12_isHole : MethodName := ⟨RX12, "isHole", "(I)Z"⟩
abbrev cX12_isOwn : ByteArray := prog_14_method_5_code
def yX12_isOwn : MethodName := ⟨RX12, "isOwn", "(I)Z"⟩
abbrev cX12_isTongue : ByteArray := prog_14_method_6_code
def yX12_isTongue : MethodName := ⟨RX12, "isTongue", "(I)Z"⟩
abbrev cX12_isPiece : ByteArray := prog_14_method_7_code
def yX12_isPiece : MethodName := ⟨RX12, "isPiece", "(I)Z"⟩
abbrev cX12_isHand : ByteArray := prog_14_method_8_code
def yX12_isHand : MethodName := ⟨RX12, "isHand", "(I)Z"⟩
abbrev cX12_knows : ByteArray := prog_14_method_9_code
def yX12_knows : MethodName := ⟨RX12, "knows", "(II)Z"⟩
abbrev cX12_sign : ByteArray := prog_14_method_10_code
def yX12_sign : MethodName := ⟨RX12, "sign", "(I)I"⟩
abbrev cX12_scrap : ByteArray := prog_14_method_11_code
def yX12_scrap : MethodName := ⟨RX12, "scrap", "()I"⟩
abbrev cX12_draftHasOwn : ByteArray := prog_14_method_12_code
def yX12_draftHasOwn : MethodName := ⟨RX12, "draftHasOwn", "()Z"⟩
abbrev cX12_draftHasWord : ByteArray := prog_14_method_13_code
def yX12_draftHasWord : MethodName := ⟨RX12, "draftHasWord", "()Z"⟩
abbrev cX12_piece : ByteArray := prog_14_method_14_code
def yX12_piece : MethodName := ⟨RX12, "piece", "(I)I"⟩
abbrev cX12_drop : ByteArray := prog_14_method_15_code
def yX12_drop : MethodName := ⟨RX12, "drop", "()I"⟩
abbrev cX12_least : ByteArray := prog_14_method_16_code
def yX12_least : MethodName := ⟨RX12, "least", "(II)I"⟩
abbrev cX12_apart : ByteArray := prog_14_method_17_code
def yX12_apart : MethodName := ⟨RX12, "apart", "([III[III)I"⟩
abbrev cX12_findMatch : ByteArray := prog_14_method_18_code
def yX12_findMatch : MethodName := ⟨RX12, "findMatch", "()I"⟩
abbrev cX12_copy : ByteArray := prog_14_method_19_code
def yX12_copy : MethodName := ⟨RX12, "copy", "([I[II)V"⟩
abbrev cX12_takeOver : ByteArray := prog_14_method_20_code
def yX12_takeOver : MethodName := ⟨RX12, "takeOver", "(III)V"⟩
abbrev cX12_turn : ByteArray := prog_14_method_21_code
def yX12_turn : MethodName := ⟨RX12, "turn", "()I"⟩
abbrev cX12_of : ByteArray := prog_14_method_22_code
def yX12_of : MethodName := ⟨RX12, "of", "(II)I"⟩
abbrev cX12_far : ByteArray := prog_14_method_23_code
def yX12_far : MethodName := ⟨RX12, "far", "(II)I"⟩
abbrev cX12_from : ByteArray := prog_14_method_24_code
def yX12_from : MethodName := ⟨RX12, "from", "(I)I"⟩
abbrev cX12_story : ByteArray := prog_14_method_25_code
def yX12_story : MethodName := ⟨RX12, "story", "(I)I"⟩
abbrev cX12_hand : ByteArray := prog_14_method_26_code
def yX12_hand : MethodName := ⟨RX12, "hand", "(III)I"⟩
abbrev cX12_hours : ByteArray := prog_14_method_27_code
def yX12_hours : MethodName := ⟨RX12, "hours", "(II)I"⟩
abbrev cX12_termOf : ByteArray := prog_14_method_28_code
def yX12_termOf : MethodName := ⟨RX12, "termOf", "(II)I"⟩
abbrev cX12_term : ByteArray := prog_14_method_29_code
def yX12_term : MethodName := ⟨RX12, "term", "(III)I"⟩
abbrev cX12_forget : ByteArray := prog_14_method_30_code
def yX12_forget : MethodName := ⟨RX12, "forget", "(II)I"⟩
abbrev cX12_areThree : ByteArray := prog_14_method_31_code
def yX12_areThree : MethodName := ⟨RX12, "areThree", "(III)Z"⟩
abbrev cX12_write : ByteArray := prog_14_method_32_code
def yX12_write : MethodName := ⟨RX12, "write", "(III)I"⟩
abbrev cX12_often : ByteArray := prog_14_method_33_code
def yX12_often : MethodName := ⟨RX12, "often", "([IIII)I"⟩
abbrev cX12_faultOf : ByteArray := prog_14_method_34_code
def yX12_faultOf : MethodName := ⟨RX12, "faultOf", "(II)I"⟩
abbrev cX12_isRemembered : ByteArray := prog_14_method_35_code
def yX12_isRemembered : MethodName := ⟨RX12, "isRemembered", "(II)Z"⟩
abbrev cX12_remember : ByteArray := prog_14_method_36_code
def yX12_remember : MethodName := ⟨RX12, "remember", "(II)V"⟩
abbrev cX12_review : ByteArray := prog_14_method_37_code
def yX12_review : MethodName := ⟨RX12, "review", "(III)I"⟩
abbrev cX12_findNearest : ByteArray := prog_14_method_38_code
def yX12_findNearest : MethodName := ⟨RX12, "findNearest", "(II)V"⟩
abbrev cX12_reuse : ByteArray := prog_14_method_39_code
def yX12_reuse : MethodName := ⟨RX12, "reuse", "(III)I"⟩
abbrev cX12_text : ByteArray := prog_14_method_40_code
def yX12_text : MethodName := ⟨RX12, "text", "(III)I"⟩
abbrev cX12_fault : ByteArray := prog_14_method_41_code
def yX12_fault : MethodName := ⟨RX12, "fault", "(II)I"⟩
abbrev cX12_limit : ByteArray := prog_14_method_42_code
def yX12_limit : MethodName := ⟨RX12, "limit", "(I)I"⟩
abbrev cX12_nearest : ByteArray := prog_14_method_43_code
def yX12_nearest : MethodName := ⟨RX12, "nearest", "(III)I"⟩
abbrev cX12_memory : ByteArray := prog_14_method_44_code
def yX12_memory : MethodName := ⟨RX12, "memory", "(II)I"⟩
abbrev cX12_effortOf : ByteArray := prog_14_method_45_code
def yX12_effortOf : MethodName := ⟨RX12, "effortOf", "(II)I"⟩
abbrev cX12_effort : ByteArray := prog_14_method_46_code
def yX12_effort : MethodName := ⟨RX12, "effort", "(II)I"⟩
abbrev cX12_prepare : ByteArray := prog_14_method_47_code
def yX12_prepare : MethodName := ⟨RX12, "prepare", "(I)V"⟩
abbrev cX12_canBeBetter : ByteArray := prog_14_method_48_code
def yX12_canBeBetter : MethodName := ⟨RX12, "canBeBetter", "(III)Z"⟩
abbrev cX12_fits : ByteArray := prog_14_method_49_code
def yX12_fits : MethodName := ⟨RX12, "fits", "(III)Z"⟩
abbrev cX12_findPlan : ByteArray := prog_14_method_50_code
def yX12_findPlan : MethodName := ⟨RX12, "findPlan", "(I)V"⟩
abbrev cX12_plan : ByteArray := prog_14_method_51_code
def yX12_plan : MethodName := ⟨RX12, "plan", "(II)I"⟩
abbrev cX12_planned : ByteArray := prog_14_method_52_code
def yX12_planned : MethodName := ⟨RX12, "planned", "(II)I"⟩
abbrev cX12_releaseMany : ByteArray := prog_14_method_53_code
def yX12_releaseMany : MethodName := ⟨RX12, "releaseMany", "(I)I"⟩
abbrev cX12_release : ByteArray := prog_14_method_54_code
def yX12_release : MethodName := ⟨RX12, "release", "(II)I"⟩
abbrev cX12_inState : ByteArray := prog_14_method_55_code
def yX12_inState : MethodName := ⟨RX12, "inState", "(I)I"⟩
abbrev cX12_many : ByteArray := prog_14_method_56_code
def yX12_many : MethodName := ⟨RX12, "many", "(I)I"⟩
abbrev cX12_keep : ByteArray := prog_14_method_57_code
def yX12_keep : MethodName := ⟨RX12, "keep", "()I"⟩
abbrev cX12_back : ByteArray := prog_14_method_58_code
def yX12_back : MethodName := ⟨RX12, "back", "()I"⟩
def RJ6 : String := "java/lang/Integer"
def TJ6 : u_T := fun k => match k with
  | _ => ("", "", "", false)
def tyJ6 : Nat → FieldType := fun k => match k with
  | _ => .int
abbrev wsJ60 : List Cond := u_ws RJ6 TJ6 0
theorem nmJ6 : ∀ a, a < 0 → ∀ b, b < 0 → a ≠ b → (TJ6 a).2.1 ≠ (TJ6 b).2.1 := by decide +kernel
theorem tyJ6_ok : ∀ k, k < 0 → parseFieldDescriptor (TJ6 k).2.2.1 = some (tyJ6 k) := by decide +kernel
abbrev cJ6_bitCount_0f7a4 : ByteArray := prog_15_method_49_code
def yJ6_bitCount_0f7a4 : MethodName := ⟨RJ6, "bitCount", "(I)I"⟩
def RJ9 : String := "java/lang/Math"
def TJ9 : u_T := fun k => match k with
  | _ => ("", "", "", false)
def tyJ9 : Nat → FieldType := fun k => match k with
  | _ => .int
abbrev wsJ90 : List Cond := u_ws RJ9 TJ9 0
theorem nmJ9 : ∀ a, a < 0 → ∀ b, b < 0 → a ≠ b → (TJ9 a).2.1 ≠ (TJ9 b).2.1 := by decide +kernel
theorem tyJ9_ok : ∀ k, k < 0 → parseFieldDescriptor (TJ9 k).2.2.1 = some (tyJ9 k) := by decide +kernel
abbrev cJ9_min_7cf53 : ByteArray := prog_16_method_69_code
def yJ9_min_7cf53 : MethodName := ⟨RJ9, "min", "(II)I"⟩
abbrev cJ9_min_f86c9 : ByteArray := prog_16_method_70_code
def yJ9_min_f86c9 : MethodName := ⟨RJ9, "min", "(JJ)J"⟩
def RL : String := "GlossHouseLaw"
abbrev cL_law : ByteArray := code
def yL_law : MethodName := ⟨RL, "law", "([I)Z"⟩
abbrev vwCl : List vw_C := [(RX0, TX0, 2), (RX1, TX1, 3), (RX2, TX2, 4), (RX3, TX3, 3), (RX4, TX4, 2), (RX5, TX5, 5), (RX6, TX6, 6), (RX7, TX7, 2), (RX8, TX8, 1), (RX9, TX9, 2), (RX10, TX10, 3), (RX11, TX11, 13), (RX12, TX12, 51)]
end
section
theorem dX0_init_0 : decode cX0_init 0 = .ok (.aload_n 0, 1) := by decide +kernel
theorem dX0_init_1 : decode cX0_init 1 = .ok (.invokespecial 3, 3) := by decide +kernel
theorem dX0_init_4 : decode cX0_init 4 = .ok (.aload_n 0, 1) := by decide +kernel
theorem dX0_init_5 : decode cX0_init 5 = .ok (.bipush 8, 2) := by decide +kernel
theorem dX0_init_7 : decode cX0_init 7 = .ok (.anewarray 9, 3) := by decide +kernel
theorem dX0_init_10 : decode cX0_init 10 = .ok (.putfield 11, 3) := by decide +kernel
theorem dX0_init_13 : decode cX0_init 13 = .ok (.iconst 0, 1) := by decide +kernel
theorem dX0_init_14 : decode cX0_init 14 = .ok (.istore_n 1, 1) := by decide +kernel
theorem dX0_init_15 : decode cX0_init 15 = .ok (.iload_n 1, 1) := by decide +kernel
theorem dX0_init_16 : decode cX0_init 16 = .ok (.bipush 8, 2) := by decide +kernel
theorem dX0_init_18 : decode cX0_init 18 = .ok (.if_icmp .ge 22, 3) := by decide +kernel
theorem dX0_init_21 : decode cX0_init 21 = .ok (.aload_n 0, 1) := by decide +kernel
theorem dX0_init_22 : decode cX0_init 22 = .ok (.getfield 11, 3) := by decide +kernel
theorem dX0_init_25 : decode cX0_init 25 = .ok (.iload_n 1, 1) := by decide +kernel
theorem dX0_init_26 : decode cX0_init 26 = .ok (.new 9, 3) := by decide +kernel
theorem dX0_init_29 : decode cX0_init 29 = .ok (.dup, 1) := by decide +kernel
theorem dX0_init_30 : decode cX0_init 30 = .ok (.invokespecial 17, 3) := by decide +kernel
theorem dX0_init_33 : decode cX0_init 33 = .ok (.aastore, 1) := by decide +kernel
theorem dX0_init_34 : decode cX0_init 34 = .ok (.iinc 1 1, 3) := by decide +kernel
theorem dX0_init_37 : decode cX0_init 37 = .ok (.goto (-22), 3) := by decide +kernel
theorem dX0_init_40 : decode cX0_init 40 = .ok (.return_, 1) := by decide +kernel
theorem dX0_count_0 : decode cX0_count 0 = .ok (.aload_n 0, 1) := by decide +kernel
theorem dX0_count_1 : decode cX0_count 1 = .ok (.getfield 18, 3) := by decide +kernel
theorem dX0_count_4 : decode cX0_count 4 = .ok (.ireturn, 1) := by decide +kernel
theorem dX0_isFull_0 : decode cX0_isFull 0 = .ok (.aload_n 0, 1) := by decide +kernel
theorem dX0_isFull_1 : decode cX0_isFull 1 = .ok (.getfield 18, 3) := by decide +kernel
theorem dX0_isFull_4 : decode cX0_isFull 4 = .ok (.bipush 8, 2) := by decide +kernel
theorem dX0_isFull_6 : decode cX0_isFull 6 = .ok (.if_icmp .lt 7, 3) := by decide +kernel
theorem dX0_isFull_9 : decode cX0_isFull 9 = .ok (.iconst 1, 1) := by decide +kernel
theorem dX0_isFull_10 : decode cX0_isFull 10 = .ok (.goto 4, 3) := by decide +kernel
theorem dX0_isFull_13 : decode cX0_isFull 13 = .ok (.iconst 0, 1) := by decide +kernel
theorem dX0_isFull_14 : decode cX0_isFull 14 = .ok (.ireturn, 1) := by decide +kernel
theorem dX0_at_0 : decode cX0_at 0 = .ok (.iload_n 1, 1) := by decide +kernel
theorem dX0_at_1 : decode cX0_at 1 = .ok (.ifCond .lt 20, 3) := by decide +kernel
theorem dX0_at_4 : decode cX0_at 4 = .ok (.iload_n 1, 1) := by decide +kernel
theorem dX0_at_5 : decode cX0_at 5 = .ok (.aload_n 0, 1) := by decide +kernel
theorem dX0_at_6 : decode cX0_at 6 = .ok (.getfield 18, 3) := by decide +kernel
theorem dX0_at_9 : decode cX0_at 9 = .ok (.if_icmp .ge 12, 3) := by decide +kernel
theorem dX0_at_12 : decode cX0_at 12 = .ok (.aload_n 0, 1) := by decide +kernel
theorem dX0_at_13 : decode cX0_at 13 = .ok (.getfield 11, 3) := by decide +kernel
theorem dX0_at_16 : decode cX0_at 16 = .ok (.iload_n 1, 1) := by decide +kernel
theorem dX0_at_17 : decode cX0_at 17 = .ok (.aaload, 1) := by decide +kernel
theorem dX0_at_18 : decode cX0_at 18 = .ok (.goto 4, 3) := by decide +kernel
theorem dX0_at_21 : decode cX0_at 21 = .ok (.aconst_null, 1) := by decide +kernel
theorem dX0_at_22 : decode cX0_at 22 = .ok (.areturn, 1) := by decide +kernel
theorem dX0_add_0 : decode cX0_add 0 = .ok (.aload_n 0, 1) := by decide +kernel
theorem dX0_add_1 : decode cX0_add 1 = .ok (.invokevirtual 22, 3) := by decide +kernel
theorem dX0_add_4 : decode cX0_add 4 = .ok (.ifCond .ne 27, 3) := by decide +kernel
theorem dX0_add_7 : decode cX0_add 7 = .ok (.aload_n 0, 1) := by decide +kernel
theorem dX0_add_8 : decode cX0_add 8 = .ok (.getfield 11, 3) := by decide +kernel
theorem dX0_add_11 : decode cX0_add 11 = .ok (.aload_n 0, 1) := by decide +kernel
theorem dX0_add_12 : decode cX0_add 12 = .ok (.getfield 18, 3) := by decide +kernel
theorem dX0_add_15 : decode cX0_add 15 = .ok (.aaload, 1) := by decide +kernel
theorem dX0_add_16 : decode cX0_add 16 = .ok (.iload_n 1, 1) := by decide +kernel
theorem dX0_add_17 : decode cX0_add 17 = .ok (.aload_n 2, 1) := by decide +kernel
theorem dX0_add_18 : decode cX0_add 18 = .ok (.invokevirtual 26, 3) := by decide +kernel
theorem dX0_add_21 : decode cX0_add 21 = .ok (.aload_n 0, 1) := by decide +kernel
theorem dX0_add_22 : decode cX0_add 22 = .ok (.dup, 1) := by decide +kernel
theorem dX0_add_23 : decode cX0_add 23 = .ok (.getfield 18, 3) := by decide +kernel
theorem dX0_add_26 : decode cX0_add 26 = .ok (.iconst 1, 1) := by decide +kernel
theorem dX0_add_27 : decode cX0_add 27 = .ok (.iadd, 1) := by decide +kernel
theorem dX0_add_28 : decode cX0_add 28 = .ok (.putfield 18, 3) := by decide +kernel
theorem dX0_add_31 : decode cX0_add 31 = .ok (.return_, 1) := by decide +kernel
theorem dX0_clear_0 : decode cX0_clear 0 = .ok (.aload_n 0, 1) := by decide +kernel
theorem dX0_clear_1 : decode cX0_clear 1 = .ok (.iconst 0, 1) := by decide +kernel
theorem dX0_clear_2 : decode cX0_clear 2 = .ok (.putfield 18, 3) := by decide +kernel
theorem dX0_clear_5 : decode cX0_clear 5 = .ok (.return_, 1) := by decide +kernel
theorem dX0_copy_0 : decode cX0_copy 0 = .ok (.aload_n 0, 1) := by decide +kernel
theorem dX0_copy_1 : decode cX0_copy 1 = .ok (.aload_n 1, 1) := by decide +kernel
theorem dX0_copy_2 : decode cX0_copy 2 = .ok (.getfield 18, 3) := by decide +kernel
theorem dX0_copy_5 : decode cX0_copy 5 = .ok (.putfield 18, 3) := by decide +kernel
theorem dX0_copy_8 : decode cX0_copy 8 = .ok (.iconst 0, 1) := by decide +kernel
theorem dX0_copy_9 : decode cX0_copy 9 = .ok (.istore_n 2, 1) := by decide +kernel
theorem dX0_copy_10 : decode cX0_copy 10 = .ok (.iload_n 2, 1) := by decide +kernel
theorem dX0_copy_11 : decode cX0_copy 11 = .ok (.aload_n 0, 1) := by decide +kernel
theorem dX0_copy_12 : decode cX0_copy 12 = .ok (.getfield 18, 3) := by decide +kernel
theorem dX0_copy_15 : decode cX0_copy 15 = .ok (.if_icmp .ge 24, 3) := by decide +kernel
theorem dX0_copy_18 : decode cX0_copy 18 = .ok (.aload_n 0, 1) := by decide +kernel
theorem dX0_copy_19 : decode cX0_copy 19 = .ok (.getfield 11, 3) := by decide +kernel
theorem dX0_copy_22 : decode cX0_copy 22 = .ok (.iload_n 2, 1) := by decide +kernel
theorem dX0_copy_23 : decode cX0_copy 23 = .ok (.aaload, 1) := by decide +kernel
theorem dX0_copy_24 : decode cX0_copy 24 = .ok (.aload_n 1, 1) := by decide +kernel
theorem dX0_copy_25 : decode cX0_copy 25 = .ok (.getfield 11, 3) := by decide +kernel
theorem dX0_copy_28 : decode cX0_copy 28 = .ok (.iload_n 2, 1) := by decide +kernel
theorem dX0_copy_29 : decode cX0_copy 29 = .ok (.aaload, 1) := by decide +kernel
theorem dX0_copy_30 : decode cX0_copy 30 = .ok (.invokevirtual 30, 3) := by decide +kernel
theorem dX0_copy_33 : decode cX0_copy 33 = .ok (.iinc 2 1, 3) := by decide +kernel
theorem dX0_copy_36 : decode cX0_copy 36 = .ok (.goto (-26), 3) := by decide +kernel
theorem dX0_copy_39 : decode cX0_copy 39 = .ok (.return_, 1) := by decide +kernel
theorem dX0_textsThatAre_0 : decode cX0_textsThatAre 0 = .ok (.iconst 0, 1) := by decide +kernel
theorem dX0_textsThatAre_1 : decode cX0_textsThatAre 1 = .ok (.istore_n 2, 1) := by decide +kernel
theorem dX0_textsThatAre_2 : decode cX0_textsThatAre 2 = .ok (.iconst 0, 1) := by decide +kernel
theorem dX0_textsThatAre_3 : decode cX0_textsThatAre 3 = .ok (.istore_n 3, 1) := by decide +kernel
theorem dX0_textsThatAre_4 : decode cX0_textsThatAre 4 = .ok (.iload_n 3, 1) := by decide +kernel
theorem dX0_textsThatAre_5 : decode cX0_textsThatAre 5 = .ok (.aload_n 0, 1) := by decide +kernel
theorem dX0_textsThatAre_6 : decode cX0_textsThatAre 6 = .ok (.getfield 18, 3) := by decide +kernel
theorem dX0_textsThatAre_9 : decode cX0_textsThatAre 9 = .ok (.if_icmp .ge 22, 3) := by decide +kernel
theorem dX0_textsThatAre_12 : decode cX0_textsThatAre 12 = .ok (.iload_n 2, 1) := by decide +kernel
theorem dX0_textsThatAre_13 : decode cX0_textsThatAre 13 = .ok (.aload_n 0, 1) := by decide +kernel
theorem dX0_textsThatAre_14 : decode cX0_textsThatAre 14 = .ok (.getfield 11, 3) := by decide +kernel
theorem dX0_textsThatAre_17 : decode cX0_textsThatAre 17 = .ok (.iload_n 3, 1) := by decide +kernel
theorem dX0_textsThatAre_18 : decode cX0_textsThatAre 18 = .ok (.aaload, 1) := by decide +kernel
theorem dX0_textsThatAre_19 : decode cX0_textsThatAre 19 = .ok (.iload_n 1, 1) := by decide +kernel
theorem dX0_textsThatAre_20 : decode cX0_textsThatAre 20 = .ok (.invokevirtual 34, 3) := by decide +kernel
theorem dX0_textsThatAre_23 : decode cX0_textsThatAre 23 = .ok (.iadd, 1) := by decide +kernel
theorem dX0_textsThatAre_24 : decode cX0_textsThatAre 24 = .ok (.istore_n 2, 1) := by decide +kernel
theorem dX0_textsThatAre_25 : decode cX0_textsThatAre 25 = .ok (.iinc 3 1, 3) := by decide +kernel
theorem dX0_textsThatAre_28 : decode cX0_textsThatAre 28 = .ok (.goto (-24), 3) := by decide +kernel
theorem dX0_textsThatAre_31 : decode cX0_textsThatAre 31 = .ok (.iload_n 2, 1) := by decide +kernel
theorem dX0_textsThatAre_32 : decode cX0_textsThatAre 32 = .ok (.ireturn, 1) := by decide +kernel
theorem dX0_releasedSize_0 : decode cX0_releasedSize 0 = .ok (.iconst 0, 1) := by decide +kernel
theorem dX0_releasedSize_1 : decode cX0_releasedSize 1 = .ok (.istore_n 2, 1) := by decide +kernel
theorem dX0_releasedSize_2 : decode cX0_releasedSize 2 = .ok (.iconst 0, 1) := by decide +kernel
theorem dX0_releasedSize_3 : decode cX0_releasedSize 3 = .ok (.istore_n 3, 1) := by decide +kernel
theorem dX0_releasedSize_4 : decode cX0_releasedSize 4 = .ok (.iload_n 3, 1) := by decide +kernel
theorem dX0_releasedSize_5 : decode cX0_releasedSize 5 = .ok (.aload_n 0, 1) := by decide +kernel
theorem dX0_releasedSize_6 : decode cX0_releasedSize 6 = .ok (.getfield 18, 3) := by decide +kernel
theorem dX0_releasedSize_9 : decode cX0_releasedSize 9 = .ok (.if_icmp .ge 25, 3) := by decide +kernel
theorem dX0_releasedSize_12 : decode cX0_releasedSize 12 = .ok (.iload_n 2, 1) := by decide +kernel
theorem dX0_releasedSize_13 : decode cX0_releasedSize 13 = .ok (.aload_n 0, 1) := by decide +kernel
theorem dX0_releasedSize_14 : decode cX0_releasedSize 14 = .ok (.getfield 11, 3) := by decide +kernel
theorem dX0_releasedSize_17 : decode cX0_releasedSize 17 = .ok (.iload_n 3, 1) := by decide +kernel
theorem dX0_releasedSize_18 : decode cX0_releasedSize 18 = .ok (.aaload, 1) := by decide +kernel
theorem dX0_releasedSize_19 : decode cX0_releasedSize 19 = .ok (.iload_n 1, 1) := by decide +kernel
theorem dX0_releasedSize_20 : decode cX0_releasedSize 20 = .ok (.invokevirtual 38, 3) := by decide +kernel
theorem dX0_releasedSize_23 : decode cX0_releasedSize 23 = .ok (.invokevirtual 42, 3) := by decide +kernel
theorem dX0_releasedSize_26 : decode cX0_releasedSize 26 = .ok (.iadd, 1) := by decide +kernel
theorem dX0_releasedSize_27 : decode cX0_releasedSize 27 = .ok (.istore_n 2, 1) := by decide +kernel
theorem dX0_releasedSize_28 : decode cX0_releasedSize 28 = .ok (.iinc 3 1, 3) := by decide +kernel
theorem dX0_releasedSize_31 : decode cX0_releasedSize 31 = .ok (.goto (-27), 3) := by decide +kernel
theorem dX0_releasedSize_34 : decode cX0_releasedSize 34 = .ok (.iload_n 2, 1) := by decide +kernel
theorem dX0_releasedSize_35 : decode cX0_releasedSize 35 = .ok (.ireturn, 1) := by decide +kernel
theorem dX0_releasedSign_0 : decode cX0_releasedSign 0 = .ok (.iload_n 2, 1) := by decide +kernel
theorem dX0_releasedSign_1 : decode cX0_releasedSign 1 = .ok (.ifCond .ge 6, 3) := by decide +kernel
theorem dX0_releasedSign_4 : decode cX0_releasedSign 4 = .ok (.bipush (-5), 2) := by decide +kernel
theorem dX0_releasedSign_6 : decode cX0_releasedSign 6 = .ok (.ireturn, 1) := by decide +kernel
theorem dX0_releasedSign_7 : decode cX0_releasedSign 7 = .ok (.iload_n 2, 1) := by decide +kernel
theorem dX0_releasedSign_8 : decode cX0_releasedSign 8 = .ok (.istore_n 3, 1) := by decide +kernel
theorem dX0_releasedSign_9 : decode cX0_releasedSign 9 = .ok (.iconst 0, 1) := by decide +kernel
theorem dX0_releasedSign_10 : decode cX0_releasedSign 10 = .ok (.istore 4, 2) := by decide +kernel
theorem dX0_releasedSign_12 : decode cX0_releasedSign 12 = .ok (.iload 4, 2) := by decide +kernel
theorem dX0_releasedSign_14 : decode cX0_releasedSign 14 = .ok (.aload_n 0, 1) := by decide +kernel
theorem dX0_releasedSign_15 : decode cX0_releasedSign 15 = .ok (.getfield 18, 3) := by decide +kernel
theorem dX0_releasedSign_18 : decode cX0_releasedSign 18 = .ok (.if_icmp .ge 46, 3) := by decide +kernel
theorem dX0_releasedSign_21 : decode cX0_releasedSign 21 = .ok (.aload_n 0, 1) := by decide +kernel
theorem dX0_releasedSign_22 : decode cX0_releasedSign 22 = .ok (.getfield 11, 3) := by decide +kernel
theorem dX0_releasedSign_25 : decode cX0_releasedSign 25 = .ok (.iload 4, 2) := by decide +kernel
theorem dX0_releasedSign_27 : decode cX0_releasedSign 27 = .ok (.aaload, 1) := by decide +kernel
theorem dX0_releasedSign_28 : decode cX0_releasedSign 28 = .ok (.iload_n 1, 1) := by decide +kernel
theorem dX0_releasedSign_29 : decode cX0_releasedSign 29 = .ok (.invokevirtual 38, 3) := by decide +kernel
theorem dX0_releasedSign_32 : decode cX0_releasedSign 32 = .ok (.astore 5, 2) := by decide +kernel
theorem dX0_releasedSign_34 : decode cX0_releasedSign 34 = .ok (.iload_n 3, 1) := by decide +kernel
theorem dX0_releasedSign_35 : decode cX0_releasedSign 35 = .ok (.aload 5, 2) := by decide +kernel
theorem dX0_releasedSign_37 : decode cX0_releasedSign 37 = .ok (.invokevirtual 42, 3) := by decide +kernel
theorem dX0_releasedSign_40 : decode cX0_releasedSign 40 = .ok (.if_icmp .ge 10, 3) := by decide +kernel
theorem dX0_releasedSign_43 : decode cX0_releasedSign 43 = .ok (.aload 5, 2) := by decide +kernel
theorem dX0_releasedSign_45 : decode cX0_releasedSign 45 = .ok (.iload_n 3, 1) := by decide +kernel
theorem dX0_releasedSign_46 : decode cX0_releasedSign 46 = .ok (.invokevirtual 48, 3) := by decide +kernel
theorem dX0_releasedSign_49 : decode cX0_releasedSign 49 = .ok (.ireturn, 1) := by decide +kernel
theorem dX0_releasedSign_50 : decode cX0_releasedSign 50 = .ok (.iload_n 3, 1) := by decide +kernel
theorem dX0_releasedSign_51 : decode cX0_releasedSign 51 = .ok (.aload 5, 2) := by decide +kernel
theorem dX0_releasedSign_53 : decode cX0_releasedSign 53 = .ok (.invokevirtual 42, 3) := by decide +kernel
theorem dX0_releasedSign_56 : decode cX0_releasedSign 56 = .ok (.isub, 1) := by decide +kernel
theorem dX0_releasedSign_57 : decode cX0_releasedSign 57 = .ok (.istore_n 3, 1) := by decide +kernel
theorem dX0_releasedSign_58 : decode cX0_releasedSign 58 = .ok (.iinc 4 1, 3) := by decide +kernel
theorem dX0_releasedSign_61 : decode cX0_releasedSign 61 = .ok (.goto (-49), 3) := by decide +kernel
theorem dX0_releasedSign_64 : decode cX0_releasedSign 64 = .ok (.bipush (-5), 2) := by decide +kernel
theorem dX0_releasedSign_66 : decode cX0_releasedSign 66 = .ok (.ireturn, 1) := by decide +kernel
theorem dX1_init_0 : decode cX1_init 0 = .ok (.aload_n 0, 1) := by decide +kernel
theorem dX1_init_1 : decode cX1_init 1 = .ok (.invokespecial 1, 3) := by decide +kernel
theorem dX1_init_4 : decode cX1_init 4 = .ok (.aload_n 0, 1) := by decide +kernel
theorem dX1_init_5 : decode cX1_init 5 = .ok (.new 7, 3) := by decide +kernel
theorem dX1_init_8 : decode cX1_init 8 = .ok (.dup, 1) := by decide +kernel
theorem dX1_init_9 : decode cX1_init 9 = .ok (.invokespecial 9, 3) := by decide +kernel
theorem dX1_init_12 : decode cX1_init 12 = .ok (.putfield 10, 3) := by decide +kernel
theorem dX1_init_15 : decode cX1_init 15 = .ok (.aload_n 0, 1) := by decide +kernel
theorem dX1_init_16 : decode cX1_init 16 = .ok (.new 7, 3) := by decide +kernel
theorem dX1_init_19 : decode cX1_init 19 = .ok (.dup, 1) := by decide +kernel
theorem dX1_init_20 : decode cX1_init 20 = .ok (.invokespecial 9, 3) := by decide +kernel
theorem dX1_init_23 : decode cX1_init 23 = .ok (.putfield 16, 3) := by decide +kernel
theorem dX1_init_26 : decode cX1_init 26 = .ok (.return_, 1) := by decide +kernel
theorem dX1_pieceSigns_0 : decode cX1_pieceSigns 0 = .ok (.aload_n 0, 1) := by decide +kernel
theorem dX1_pieceSigns_1 : decode cX1_pieceSigns 1 = .ok (.getfield 10, 3) := by decide +kernel
theorem dX1_pieceSigns_4 : decode cX1_pieceSigns 4 = .ok (.areturn, 1) := by decide +kernel
theorem dX1_textSigns_0 : decode cX1_textSigns 0 = .ok (.aload_n 0, 1) := by decide +kernel
theorem dX1_textSigns_1 : decode cX1_textSigns 1 = .ok (.getfield 16, 3) := by decide +kernel
theorem dX1_textSigns_4 : decode cX1_textSigns 4 = .ok (.areturn, 1) := by decide +kernel
theorem dX1_tongue_0 : decode cX1_tongue 0 = .ok (.aload_n 0, 1) := by decide +kernel
theorem dX1_tongue_1 : decode cX1_tongue 1 = .ok (.getfield 19, 3) := by decide +kernel
theorem dX1_tongue_4 : decode cX1_tongue 4 = .ok (.ireturn, 1) := by decide +kernel
theorem dX1_fill_0 : decode cX1_fill 0 = .ok (.aload_n 0, 1) := by decide +kernel
theorem dX1_fill_1 : decode cX1_fill 1 = .ok (.getfield 10, 3) := by decide +kernel
theorem dX1_fill_4 : decode cX1_fill 4 = .ok (.aload_n 1, 1) := by decide +kernel
theorem dX1_fill_5 : decode cX1_fill 5 = .ok (.invokevirtual 23, 3) := by decide +kernel
theorem dX1_fill_8 : decode cX1_fill 8 = .ok (.aload_n 0, 1) := by decide +kernel
theorem dX1_fill_9 : decode cX1_fill 9 = .ok (.iload_n 2, 1) := by decide +kernel
theorem dX1_fill_10 : decode cX1_fill 10 = .ok (.putfield 19, 3) := by decide +kernel
theorem dX1_fill_13 : decode cX1_fill 13 = .ok (.aload_n 0, 1) := by decide +kernel
theorem dX1_fill_14 : decode cX1_fill 14 = .ok (.getfield 16, 3) := by decide +kernel
theorem dX1_fill_17 : decode cX1_fill 17 = .ok (.aload_n 3, 1) := by decide +kernel
theorem dX1_fill_18 : decode cX1_fill 18 = .ok (.invokevirtual 23, 3) := by decide +kernel
theorem dX1_fill_21 : decode cX1_fill 21 = .ok (.return_, 1) := by decide +kernel
theorem dX1_isJust_0 : decode cX1_isJust 0 = .ok (.aload_n 0, 1) := by decide +kernel
theorem dX1_isJust_1 : decode cX1_isJust 1 = .ok (.getfield 19, 3) := by decide +kernel
theorem dX1_isJust_4 : decode cX1_isJust 4 = .ok (.iload_n 2, 1) := by decide +kernel
theorem dX1_isJust_5 : decode cX1_isJust 5 = .ok (.if_icmp .ne 29, 3) := by decide +kernel
theorem dX1_isJust_8 : decode cX1_isJust 8 = .ok (.aload_n 0, 1) := by decide +kernel
theorem dX1_isJust_9 : decode cX1_isJust 9 = .ok (.getfield 10, 3) := by decide +kernel
theorem dX1_isJust_12 : decode cX1_isJust 12 = .ok (.aload_n 1, 1) := by decide +kernel
theorem dX1_isJust_13 : decode cX1_isJust 13 = .ok (.invokevirtual 27, 3) := by decide +kernel
theorem dX1_isJust_16 : decode cX1_isJust 16 = .ok (.ifCond .eq 18, 3) := by decide +kernel
theorem dX1_isJust_19 : decode cX1_isJust 19 = .ok (.aload_n 0, 1) := by decide +kernel
theorem dX1_isJust_20 : decode cX1_isJust 20 = .ok (.getfield 16, 3) := by decide +kernel
theorem dX1_isJust_23 : decode cX1_isJust 23 = .ok (.aload_n 3, 1) := by decide +kernel
theorem dX1_isJust_24 : decode cX1_isJust 24 = .ok (.invokevirtual 27, 3) := by decide +kernel
theorem dX1_isJust_27 : decode cX1_isJust 27 = .ok (.ifCond .eq 7, 3) := by decide +kernel
theorem dX1_isJust_30 : decode cX1_isJust 30 = .ok (.iconst 1, 1) := by decide +kernel
theorem dX1_isJust_31 : decode cX1_isJust 31 = .ok (.goto 4, 3) := by decide +kernel
theorem dX1_isJust_34 : decode cX1_isJust 34 = .ok (.iconst 0, 1) := by decide +kernel
theorem dX1_isJust_35 : decode cX1_isJust 35 = .ok (.ireturn, 1) := by decide +kernel
theorem dX2_init_0 : decode cX2_init 0 = .ok (.aload_n 0, 1) := by decide +kernel
theorem dX2_init_1 : decode cX2_init 1 = .ok (.invokespecial 3, 3) := by decide +kernel
theorem dX2_init_4 : decode cX2_init 4 = .ok (.aload_n 0, 1) := by decide +kernel
theorem dX2_init_5 : decode cX2_init 5 = .ok (.iconst 5, 1) := by decide +kernel
theorem dX2_init_6 : decode cX2_init 6 = .ok (.newarray .int, 2) := by decide +kernel
theorem dX2_init_8 : decode cX2_init 8 = .ok (.putfield 9, 3) := by decide +kernel
theorem dX2_init_11 : decode cX2_init 11 = .ok (.aload_n 0, 1) := by decide +kernel
theorem dX2_init_12 : decode cX2_init 12 = .ok (.iconst 5, 1) := by decide +kernel
theorem dX2_init_13 : decode cX2_init 13 = .ok (.newarray .int, 2) := by decide +kernel
theorem dX2_init_15 : decode cX2_init 15 = .ok (.putfield 15, 3) := by decide +kernel
theorem dX2_init_18 : decode cX2_init 18 = .ok (.aload_n 0, 1) := by decide +kernel
theorem dX2_init_19 : decode cX2_init 19 = .ok (.iconst 5, 1) := by decide +kernel
theorem dX2_init_20 : decode cX2_init 20 = .ok (.newarray .int, 2) := by decide +kernel
theorem dX2_init_22 : decode cX2_init 22 = .ok (.putfield 18, 3) := by decide +kernel
theorem dX2_init_25 : decode cX2_init 25 = .ok (.return_, 1) := by decide +kernel
theorem dX2_count_0 : decode cX2_count 0 = .ok (.aload_n 0, 1) := by decide +kernel
theorem dX2_count_1 : decode cX2_count 1 = .ok (.getfield 21, 3) := by decide +kernel
theorem dX2_count_4 : decode cX2_count 4 = .ok (.ireturn, 1) := by decide +kernel
theorem dX2_isFull_0 : decode cX2_isFull 0 = .ok (.aload_n 0, 1) := by decide +kernel
theorem dX2_isFull_1 : decode cX2_isFull 1 = .ok (.getfield 21, 3) := by decide +kernel
theorem dX2_isFull_4 : decode cX2_isFull 4 = .ok (.iconst 5, 1) := by decide +kernel
theorem dX2_isFull_5 : decode cX2_isFull 5 = .ok (.if_icmp .lt 7, 3) := by decide +kernel
theorem dX2_isFull_8 : decode cX2_isFull 8 = .ok (.iconst 1, 1) := by decide +kernel
theorem dX2_isFull_9 : decode cX2_isFull 9 = .ok (.goto 4, 3) := by decide +kernel
theorem dX2_isFull_12 : decode cX2_isFull 12 = .ok (.iconst 0, 1) := by decide +kernel
theorem dX2_isFull_13 : decode cX2_isFull 13 = .ok (.ireturn, 1) := by decide +kernel
theorem dX2_has_0 : decode cX2_has 0 = .ok (.iload_n 1, 1) := by decide +kernel
theorem dX2_has_1 : decode cX2_has 1 = .ok (.ifCond .lt 15, 3) := by decide +kernel
theorem dX2_has_4 : decode cX2_has 4 = .ok (.iload_n 1, 1) := by decide +kernel
theorem dX2_has_5 : decode cX2_has 5 = .ok (.aload_n 0, 1) := by decide +kernel
theorem dX2_has_6 : decode cX2_has 6 = .ok (.getfield 21, 3) := by decide +kernel
theorem dX2_has_9 : decode cX2_has 9 = .ok (.if_icmp .ge 7, 3) := by decide +kernel
theorem dX2_has_12 : decode cX2_has 12 = .ok (.iconst 1, 1) := by decide +kernel
theorem dX2_has_13 : decode cX2_has 13 = .ok (.goto 4, 3) := by decide +kernel
theorem dX2_has_16 : decode cX2_has 16 = .ok (.iconst 0, 1) := by decide +kernel
theorem dX2_has_17 : decode cX2_has 17 = .ok (.ireturn, 1) := by decide +kernel
theorem dX2_knows_0 : decode cX2_knows 0 = .ok (.aload_n 0, 1) := by decide +kernel
theorem dX2_knows_1 : decode cX2_knows 1 = .ok (.iload_n 1, 1) := by decide +kernel
theorem dX2_knows_2 : decode cX2_knows 2 = .ok (.invokevirtual 25, 3) := by decide +kernel
theorem dX2_knows_5 : decode cX2_knows 5 = .ok (.ifCond .eq 28, 3) := by decide +kernel
theorem dX2_knows_8 : decode cX2_knows 8 = .ok (.iload_n 2, 1) := by decide +kernel
theorem dX2_knows_9 : decode cX2_knows 9 = .ok (.invokestatic 29, 3) := by decide +kernel
theorem dX2_knows_12 : decode cX2_knows 12 = .ok (.ifCond .eq 21, 3) := by decide +kernel
theorem dX2_knows_15 : decode cX2_knows 15 = .ok (.aload_n 0, 1) := by decide +kernel
theorem dX2_knows_16 : decode cX2_knows 16 = .ok (.getfield 9, 3) := by decide +kernel
theorem dX2_knows_19 : decode cX2_knows 19 = .ok (.iload_n 1, 1) := by decide +kernel
theorem dX2_knows_20 : decode cX2_knows 20 = .ok (.iaload, 1) := by decide +kernel
theorem dX2_knows_21 : decode cX2_knows 21 = .ok (.iload_n 2, 1) := by decide +kernel
theorem dX2_knows_22 : decode cX2_knows 22 = .ok (.ishr, 1) := by decide +kernel
theorem dX2_knows_23 : decode cX2_knows 23 = .ok (.iconst 1, 1) := by decide +kernel
theorem dX2_knows_24 : decode cX2_knows 24 = .ok (.iand, 1) := by decide +kernel
theorem dX2_knows_25 : decode cX2_knows 25 = .ok (.iconst 1, 1) := by decide +kernel
theorem dX2_knows_26 : decode cX2_knows 26 = .ok (.if_icmp .ne 7, 3) := by decide +kernel
theorem dX2_knows_29 : decode cX2_knows 29 = .ok (.iconst 1, 1) := by decide +kernel
theorem dX2_knows_30 : decode cX2_knows 30 = .ok (.goto 4, 3) := by decide +kernel
theorem dX2_knows_33 : decode cX2_knows 33 = .ok (.iconst 0, 1) := by decide +kernel
theorem dX2_knows_34 : decode cX2_knows 34 = .ok (.ireturn, 1) := by decide +kernel
theorem dX2_hoursOf_0 : decode cX2_hoursOf 0 = .ok (.aload_n 0, 1) := by decide +kernel
theorem dX2_hoursOf_1 : decode cX2_hoursOf 1 = .ok (.iload_n 1, 1) := by decide +kernel
theorem dX2_hoursOf_2 : decode cX2_hoursOf 2 = .ok (.invokevirtual 25, 3) := by decide +kernel
theorem dX2_hoursOf_5 : decode cX2_hoursOf 5 = .ok (.ifCond .eq 12, 3) := by decide +kernel
theorem dX2_hoursOf_8 : decode cX2_hoursOf 8 = .ok (.aload_n 0, 1) := by decide +kernel
theorem dX2_hoursOf_9 : decode cX2_hoursOf 9 = .ok (.getfield 15, 3) := by decide +kernel
theorem dX2_hoursOf_12 : decode cX2_hoursOf 12 = .ok (.iload_n 1, 1) := by decide +kernel
theorem dX2_hoursOf_13 : decode cX2_hoursOf 13 = .ok (.iaload, 1) := by decide +kernel
theorem dX2_hoursOf_14 : decode cX2_hoursOf 14 = .ok (.goto 4, 3) := by decide +kernel
theorem dX2_hoursOf_17 : decode cX2_hoursOf 17 = .ok (.iconst 0, 1) := by decide +kernel
theorem dX2_hoursOf_18 : decode cX2_hoursOf 18 = .ok (.ireturn, 1) := by decide +kernel
theorem dX2_rateOf_0 : decode cX2_rateOf 0 = .ok (.aload_n 0, 1) := by decide +kernel
theorem dX2_rateOf_1 : decode cX2_rateOf 1 = .ok (.iload_n 1, 1) := by decide +kernel
theorem dX2_rateOf_2 : decode cX2_rateOf 2 = .ok (.invokevirtual 25, 3) := by decide +kernel
theorem dX2_rateOf_5 : decode cX2_rateOf 5 = .ok (.ifCond .eq 12, 3) := by decide +kernel
theorem dX2_rateOf_8 : decode cX2_rateOf 8 = .ok (.aload_n 0, 1) := by decide +kernel
theorem dX2_rateOf_9 : decode cX2_rateOf 9 = .ok (.getfield 18, 3) := by decide +kernel
theorem dX2_rateOf_12 : decode cX2_rateOf 12 = .ok (.iload_n 1, 1) := by decide +kernel
theorem dX2_rateOf_13 : decode cX2_rateOf 13 = .ok (.iaload, 1) := by decide +kernel
theorem dX2_rateOf_14 : decode cX2_rateOf 14 = .ok (.goto 4, 3) := by decide +kernel
theorem dX2_rateOf_17 : decode cX2_rateOf 17 = .ok (.iconst 0, 1) := by decide +kernel
theorem dX2_rateOf_18 : decode cX2_rateOf 18 = .ok (.ireturn, 1) := by decide +kernel
theorem dX2_add_0 : decode cX2_add 0 = .ok (.aload_n 0, 1) := by decide +kernel
theorem dX2_add_1 : decode cX2_add 1 = .ok (.invokevirtual 32, 3) := by decide +kernel
theorem dX2_add_4 : decode cX2_add 4 = .ok (.ifCond .ne 43, 3) := by decide +kernel
theorem dX2_add_7 : decode cX2_add 7 = .ok (.aload_n 0, 1) := by decide +kernel
theorem dX2_add_8 : decode cX2_add 8 = .ok (.getfield 9, 3) := by decide +kernel
theorem dX2_add_11 : decode cX2_add 11 = .ok (.aload_n 0, 1) := by decide +kernel
theorem dX2_add_12 : decode cX2_add 12 = .ok (.getfield 21, 3) := by decide +kernel
theorem dX2_add_15 : decode cX2_add 15 = .ok (.iload_n 1, 1) := by decide +kernel
theorem dX2_add_16 : decode cX2_add 16 = .ok (.iastore, 1) := by decide +kernel
theorem dX2_add_17 : decode cX2_add 17 = .ok (.aload_n 0, 1) := by decide +kernel
theorem dX2_add_18 : decode cX2_add 18 = .ok (.getfield 15, 3) := by decide +kernel
theorem dX2_add_21 : decode cX2_add 21 = .ok (.aload_n 0, 1) := by decide +kernel
theorem dX2_add_22 : decode cX2_add 22 = .ok (.getfield 21, 3) := by decide +kernel
theorem dX2_add_25 : decode cX2_add 25 = .ok (.iload_n 2, 1) := by decide +kernel
theorem dX2_add_26 : decode cX2_add 26 = .ok (.iastore, 1) := by decide +kernel
theorem dX2_add_27 : decode cX2_add 27 = .ok (.aload_n 0, 1) := by decide +kernel
theorem dX2_add_28 : decode cX2_add 28 = .ok (.getfield 18, 3) := by decide +kernel
theorem dX2_add_31 : decode cX2_add 31 = .ok (.aload_n 0, 1) := by decide +kernel
theorem dX2_add_32 : decode cX2_add 32 = .ok (.getfield 21, 3) := by decide +kernel
theorem dX2_add_35 : decode cX2_add 35 = .ok (.iload_n 3, 1) := by decide +kernel
theorem dX2_add_36 : decode cX2_add 36 = .ok (.iastore, 1) := by decide +kernel
theorem dX2_add_37 : decode cX2_add 37 = .ok (.aload_n 0, 1) := by decide +kernel
theorem dX2_add_38 : decode cX2_add 38 = .ok (.dup, 1) := by decide +kernel
theorem dX2_add_39 : decode cX2_add 39 = .ok (.getfield 21, 3) := by decide +kernel
theorem dX2_add_42 : decode cX2_add 42 = .ok (.iconst 1, 1) := by decide +kernel
theorem dX2_add_43 : decode cX2_add 43 = .ok (.iadd, 1) := by decide +kernel
theorem dX2_add_44 : decode cX2_add 44 = .ok (.putfield 21, 3) := by decide +kernel
theorem dX2_add_47 : decode cX2_add 47 = .ok (.return_, 1) := by decide +kernel
theorem dX2_setHours_0 : decode cX2_setHours 0 = .ok (.aload_n 0, 1) := by decide +kernel
theorem dX2_setHours_1 : decode cX2_setHours 1 = .ok (.iload_n 1, 1) := by decide +kernel
theorem dX2_setHours_2 : decode cX2_setHours 2 = .ok (.invokevirtual 25, 3) := by decide +kernel
theorem dX2_setHours_5 : decode cX2_setHours 5 = .ok (.ifCond .eq 10, 3) := by decide +kernel
theorem dX2_setHours_8 : decode cX2_setHours 8 = .ok (.aload_n 0, 1) := by decide +kernel
theorem dX2_setHours_9 : decode cX2_setHours 9 = .ok (.getfield 15, 3) := by decide +kernel
theorem dX2_setHours_12 : decode cX2_setHours 12 = .ok (.iload_n 1, 1) := by decide +kernel
theorem dX2_setHours_13 : decode cX2_setHours 13 = .ok (.iload_n 2, 1) := by decide +kernel
theorem dX2_setHours_14 : decode cX2_setHours 14 = .ok (.iastore, 1) := by decide +kernel
theorem dX2_setHours_15 : decode cX2_setHours 15 = .ok (.return_, 1) := by decide +kernel
theorem dX3_init_0 : decode cX3_init 0 = .ok (.aload_n 0, 1) := by decide +kernel
theorem dX3_init_1 : decode cX3_init 1 = .ok (.invokespecial 3, 3) := by decide +kernel
theorem dX3_init_4 : decode cX3_init 4 = .ok (.aload_n 0, 1) := by decide +kernel
theorem dX3_init_5 : decode cX3_init 5 = .ok (.sipush 256, 3) := by decide +kernel
theorem dX3_init_8 : decode cX3_init 8 = .ok (.newarray .long, 2) := by decide +kernel
theorem dX3_init_10 : decode cX3_init 10 = .ok (.putfield 9, 3) := by decide +kernel
theorem dX3_init_13 : decode cX3_init 13 = .ok (.aload_n 0, 1) := by decide +kernel
theorem dX3_init_14 : decode cX3_init 14 = .ok (.bipush 8, 2) := by decide +kernel
theorem dX3_init_16 : decode cX3_init 16 = .ok (.newarray .long, 2) := by decide +kernel
theorem dX3_init_18 : decode cX3_init 18 = .ok (.putfield 15, 3) := by decide +kernel
theorem dX3_init_21 : decode cX3_init 21 = .ok (.return_, 1) := by decide +kernel
theorem dX3_match_0 : decode cX3_match 0 = .ok (.iconst 1, 1) := by decide +kernel
theorem dX3_match_1 : decode cX3_match 1 = .ok (.aload_n 1, 1) := by decide +kernel
theorem dX3_match_2 : decode cX3_match 2 = .ok (.invokevirtual 18, 3) := by decide +kernel
theorem dX3_match_5 : decode cX3_match 5 = .ok (.ishl, 1) := by decide +kernel
theorem dX3_match_6 : decode cX3_match 6 = .ok (.iconst 1, 1) := by decide +kernel
theorem dX3_match_7 : decode cX3_match 7 = .ok (.isub, 1) := by decide +kernel
theorem dX3_match_8 : decode cX3_match 8 = .ok (.istore 4, 2) := by decide +kernel
theorem dX3_match_10 : decode cX3_match 10 = .ok (.iconst 0, 1) := by decide +kernel
theorem dX3_match_11 : decode cX3_match 11 = .ok (.istore 5, 2) := by decide +kernel
theorem dX3_match_13 : decode cX3_match 13 = .ok (.iload 5, 2) := by decide +kernel
theorem dX3_match_15 : decode cX3_match 15 = .ok (.iload 4, 2) := by decide +kernel
theorem dX3_match_17 : decode cX3_match 17 = .ok (.if_icmp .gt 17, 3) := by decide +kernel
theorem dX3_match_20 : decode cX3_match 20 = .ok (.aload_n 0, 1) := by decide +kernel
theorem dX3_match_21 : decode cX3_match 21 = .ok (.getfield 9, 3) := by decide +kernel
theorem dX3_match_24 : decode cX3_match 24 = .ok (.iload 5, 2) := by decide +kernel
theorem dX3_match_26 : decode cX3_match 26 = .ok (.lconst 0, 1) := by decide +kernel
theorem dX3_match_27 : decode cX3_match 27 = .ok (.lastore, 1) := by decide +kernel
theorem dX3_match_28 : decode cX3_match 28 = .ok (.iinc 5 1, 3) := by decide +kernel
theorem dX3_match_31 : decode cX3_match 31 = .ok (.goto (-18), 3) := by decide +kernel
theorem dX3_match_34 : decode cX3_match 34 = .ok (.iconst 0, 1) := by decide +kernel
theorem dX3_match_35 : decode cX3_match 35 = .ok (.istore 5, 2) := by decide +kernel
theorem dX3_match_37 : decode cX3_match 37 = .ok (.iload 5, 2) := by decide +kernel
theorem dX3_match_39 : decode cX3_match 39 = .ok (.aload_n 2, 1) := by decide +kernel
theorem dX3_match_40 : decode cX3_match 40 = .ok (.invokevirtual 18, 3) := by decide +kernel
theorem dX3_match_43 : decode cX3_match 43 = .ok (.if_icmp .ge 62, 3) := by decide +kernel
theorem dX3_match_46 : decode cX3_match 46 = .ok (.aload_n 2, 1) := by decide +kernel
theorem dX3_match_47 : decode cX3_match 47 = .ok (.iload 5, 2) := by decide +kernel
theorem dX3_match_49 : decode cX3_match 49 = .ok (.invokevirtual 24, 3) := by decide +kernel
theorem dX3_match_52 : decode cX3_match 52 = .ok (.astore 6, 2) := by decide +kernel
theorem dX3_match_54 : decode cX3_match 54 = .ok (.aload 6, 2) := by decide +kernel
theorem dX3_match_56 : decode cX3_match 56 = .ok (.ifnull 43, 3) := by decide +kernel
theorem dX3_match_59 : decode cX3_match 59 = .ok (.aload_n 0, 1) := by decide +kernel
theorem dX3_match_60 : decode cX3_match 60 = .ok (.aload 6, 2) := by decide +kernel
theorem dX3_match_62 : decode cX3_match 62 = .ok (.invokevirtual 28, 3) := by decide +kernel
theorem dX3_match_65 : decode cX3_match 65 = .ok (.iload 5, 2) := by decide +kernel
theorem dX3_match_67 : decode cX3_match 67 = .ok (.aload_n 1, 1) := by decide +kernel
theorem dX3_match_68 : decode cX3_match 68 = .ok (.aload_n 3, 1) := by decide +kernel
theorem dX3_match_69 : decode cX3_match 69 = .ok (.invokevirtual 34, 3) := by decide +kernel
theorem dX3_match_72 : decode cX3_match 72 = .ok (.aload 6, 2) := by decide +kernel
theorem dX3_match_74 : decode cX3_match 74 = .ok (.invokevirtual 28, 3) := by decide +kernel
theorem dX3_match_77 : decode cX3_match 77 = .ok (.invokevirtual 38, 3) := by decide +kernel
theorem dX3_match_80 : decode cX3_match 80 = .ok (.bipush 8, 2) := by decide +kernel
theorem dX3_match_82 : decode cX3_match 82 = .ok (.iload 5, 2) := by decide +kernel
theorem dX3_match_84 : decode cX3_match 84 = .ok (.invokestatic 43, 3) := by decide +kernel
theorem dX3_match_87 : decode cX3_match 87 = .ok (.lstore 7, 2) := by decide +kernel
theorem dX3_match_89 : decode cX3_match 89 = .ok (.aload_n 0, 1) := by decide +kernel
theorem dX3_match_90 : decode cX3_match 90 = .ok (.aload_n 1, 1) := by decide +kernel
theorem dX3_match_91 : decode cX3_match 91 = .ok (.invokevirtual 18, 3) := by decide +kernel
theorem dX3_match_94 : decode cX3_match 94 = .ok (.lload 7, 2) := by decide +kernel
theorem dX3_match_96 : decode cX3_match 96 = .ok (.invokevirtual 47, 3) := by decide +kernel
theorem dX3_match_99 : decode cX3_match 99 = .ok (.iinc 5 1, 3) := by decide +kernel
theorem dX3_match_102 : decode cX3_match 102 = .ok (.goto (-65), 3) := by decide +kernel
theorem dX3_match_105 : decode cX3_match 105 = .ok (.aload_n 0, 1) := by decide +kernel
theorem dX3_match_106 : decode cX3_match 106 = .ok (.aload_n 0, 1) := by decide +kernel
theorem dX3_match_107 : decode cX3_match 107 = .ok (.getfield 9, 3) := by decide +kernel
theorem dX3_match_110 : decode cX3_match 110 = .ok (.iload 4, 2) := by decide +kernel
theorem dX3_match_112 : decode cX3_match 112 = .ok (.laload, 1) := by decide +kernel
theorem dX3_match_113 : decode cX3_match 113 = .ok (.putfield 51, 3) := by decide +kernel
theorem dX3_match_116 : decode cX3_match 116 = .ok (.aload_n 0, 1) := by decide +kernel
theorem dX3_match_117 : decode cX3_match 117 = .ok (.getfield 51, 3) := by decide +kernel
theorem dX3_match_120 : decode cX3_match 120 = .ok (.bipush 32, 2) := by decide +kernel
theorem dX3_match_122 : decode cX3_match 122 = .ok (.lshr, 1) := by decide +kernel
theorem dX3_match_123 : decode cX3_match 123 = .ok (.l2i, 1) := by decide +kernel
theorem dX3_match_124 : decode cX3_match 124 = .ok (.ireturn, 1) := by decide +kernel
theorem dX3_givenTo_0 : decode cX3_givenTo 0 = .ok (.aload_n 0, 1) := by decide +kernel
theorem dX3_givenTo_1 : decode cX3_givenTo 1 = .ok (.getfield 51, 3) := by decide +kernel
theorem dX3_givenTo_4 : decode cX3_givenTo 4 = .ok (.iload_n 1, 1) := by decide +kernel
theorem dX3_givenTo_5 : decode cX3_givenTo 5 = .ok (.invokestatic 55, 3) := by decide +kernel
theorem dX3_givenTo_8 : decode cX3_givenTo 8 = .ok (.lshr, 1) := by decide +kernel
theorem dX3_givenTo_9 : decode cX3_givenTo 9 = .ok (.l2i, 1) := by decide +kernel
theorem dX3_givenTo_10 : decode cX3_givenTo 10 = .ok (.bipush 15, 2) := by decide +kernel
theorem dX3_givenTo_12 : decode cX3_givenTo 12 = .ok (.iand, 1) := by decide +kernel
theorem dX3_givenTo_13 : decode cX3_givenTo 13 = .ok (.istore_n 2, 1) := by decide +kernel
theorem dX3_givenTo_14 : decode cX3_givenTo 14 = .ok (.iload_n 2, 1) := by decide +kernel
theorem dX3_givenTo_15 : decode cX3_givenTo 15 = .ok (.bipush 8, 2) := by decide +kernel
theorem dX3_givenTo_17 : decode cX3_givenTo 17 = .ok (.if_icmp .ne 8, 3) := by decide +kernel
theorem dX3_givenTo_20 : decode cX3_givenTo 20 = .ok (.bipush (-5), 2) := by decide +kernel
theorem dX3_givenTo_22 : decode cX3_givenTo 22 = .ok (.goto 4, 3) := by decide +kernel
theorem dX3_givenTo_25 : decode cX3_givenTo 25 = .ok (.iload_n 2, 1) := by decide +kernel
theorem dX3_givenTo_26 : decode cX3_givenTo 26 = .ok (.ireturn, 1) := by decide +kernel
theorem dX3_weigh_0 : decode cX3_weigh 0 = .ok (.iconst 0, 1) := by decide +kernel
theorem dX3_weigh_1 : decode cX3_weigh 1 = .ok (.istore 5, 2) := by decide +kernel
theorem dX3_weigh_3 : decode cX3_weigh 3 = .ok (.iload 5, 2) := by decide +kernel
theorem dX3_weigh_5 : decode cX3_weigh 5 = .ok (.aload_n 3, 1) := by decide +kernel
theorem dX3_weigh_6 : decode cX3_weigh 6 = .ok (.invokevirtual 18, 3) := by decide +kernel
theorem dX3_weigh_9 : decode cX3_weigh 9 = .ok (.if_icmp .ge 46, 3) := by decide +kernel
theorem dX3_weigh_12 : decode cX3_weigh 12 = .ok (.aload_n 3, 1) := by decide +kernel
theorem dX3_weigh_13 : decode cX3_weigh 13 = .ok (.iload 5, 2) := by decide +kernel
theorem dX3_weigh_15 : decode cX3_weigh 15 = .ok (.invokevirtual 24, 3) := by decide +kernel
theorem dX3_weigh_18 : decode cX3_weigh 18 = .ok (.astore 6, 2) := by decide +kernel
theorem dX3_weigh_20 : decode cX3_weigh 20 = .ok (.aload 6, 2) := by decide +kernel
theorem dX3_weigh_22 : decode cX3_weigh 22 = .ok (.ifnull 27, 3) := by decide +kernel
theorem dX3_weigh_25 : decode cX3_weigh 25 = .ok (.aload_n 0, 1) := by decide +kernel
theorem dX3_weigh_26 : decode cX3_weigh 26 = .ok (.getfield 15, 3) := by decide +kernel
theorem dX3_weigh_29 : decode cX3_weigh 29 = .ok (.iload 5, 2) := by decide +kernel
theorem dX3_weigh_31 : decode cX3_weigh 31 = .ok (.aload 4, 2) := by decide +kernel
theorem dX3_weigh_33 : decode cX3_weigh 33 = .ok (.aload_n 1, 1) := by decide +kernel
theorem dX3_weigh_34 : decode cX3_weigh 34 = .ok (.aload 6, 2) := by decide +kernel
theorem dX3_weigh_36 : decode cX3_weigh 36 = .ok (.invokevirtual 28, 3) := by decide +kernel
theorem dX3_weigh_39 : decode cX3_weigh 39 = .ok (.invokevirtual 59, 3) := by decide +kernel
theorem dX3_weigh_42 : decode cX3_weigh 42 = .ok (.iload 5, 2) := by decide +kernel
theorem dX3_weigh_44 : decode cX3_weigh 44 = .ok (.iload_n 2, 1) := by decide +kernel
theorem dX3_weigh_45 : decode cX3_weigh 45 = .ok (.invokestatic 43, 3) := by decide +kernel
theorem dX3_weigh_48 : decode cX3_weigh 48 = .ok (.lastore, 1) := by decide +kernel
theorem dX3_weigh_49 : decode cX3_weigh 49 = .ok (.iinc 5 1, 3) := by decide +kernel
theorem dX3_weigh_52 : decode cX3_weigh 52 = .ok (.goto (-49), 3) := by decide +kernel
theorem dX3_weigh_55 : decode cX3_weigh 55 = .ok (.return_, 1) := by decide +kernel
theorem dX3_giveOne_0 : decode cX3_giveOne 0 = .ok (.iconst 1, 1) := by decide +kernel
theorem dX3_giveOne_1 : decode cX3_giveOne 1 = .ok (.iload_n 1, 1) := by decide +kernel
theorem dX3_giveOne_2 : decode cX3_giveOne 2 = .ok (.ishl, 1) := by decide +kernel
theorem dX3_giveOne_3 : decode cX3_giveOne 3 = .ok (.iconst 1, 1) := by decide +kernel
theorem dX3_giveOne_4 : decode cX3_giveOne 4 = .ok (.isub, 1) := by decide +kernel
theorem dX3_giveOne_5 : decode cX3_giveOne 5 = .ok (.istore 4, 2) := by decide +kernel
theorem dX3_giveOne_7 : decode cX3_giveOne 7 = .ok (.iload 4, 2) := by decide +kernel
theorem dX3_giveOne_9 : decode cX3_giveOne 9 = .ok (.ifCond .lt 82, 3) := by decide +kernel
theorem dX3_giveOne_12 : decode cX3_giveOne 12 = .ok (.aload_n 0, 1) := by decide +kernel
theorem dX3_giveOne_13 : decode cX3_giveOne 13 = .ok (.getfield 9, 3) := by decide +kernel
theorem dX3_giveOne_16 : decode cX3_giveOne 16 = .ok (.iload 4, 2) := by decide +kernel
theorem dX3_giveOne_18 : decode cX3_giveOne 18 = .ok (.laload, 1) := by decide +kernel
theorem dX3_giveOne_19 : decode cX3_giveOne 19 = .ok (.lload_n 2, 1) := by decide +kernel
theorem dX3_giveOne_20 : decode cX3_giveOne 20 = .ok (.ladd, 1) := by decide +kernel
theorem dX3_giveOne_21 : decode cX3_giveOne 21 = .ok (.lstore 5, 2) := by decide +kernel
theorem dX3_giveOne_23 : decode cX3_giveOne 23 = .ok (.iconst 0, 1) := by decide +kernel
theorem dX3_giveOne_24 : decode cX3_giveOne 24 = .ok (.istore 7, 2) := by decide +kernel
theorem dX3_giveOne_26 : decode cX3_giveOne 26 = .ok (.iload 7, 2) := by decide +kernel
theorem dX3_giveOne_28 : decode cX3_giveOne 28 = .ok (.iload_n 1, 1) := by decide +kernel
theorem dX3_giveOne_29 : decode cX3_giveOne 29 = .ok (.if_icmp .ge 47, 3) := by decide +kernel
theorem dX3_giveOne_32 : decode cX3_giveOne 32 = .ok (.iload 4, 2) := by decide +kernel
theorem dX3_giveOne_34 : decode cX3_giveOne 34 = .ok (.iload 7, 2) := by decide +kernel
theorem dX3_giveOne_36 : decode cX3_giveOne 36 = .ok (.ishr, 1) := by decide +kernel
theorem dX3_giveOne_37 : decode cX3_giveOne 37 = .ok (.iconst 1, 1) := by decide +kernel
theorem dX3_giveOne_38 : decode cX3_giveOne 38 = .ok (.iand, 1) := by decide +kernel
theorem dX3_giveOne_39 : decode cX3_giveOne 39 = .ok (.iconst 1, 1) := by decide +kernel
theorem dX3_giveOne_40 : decode cX3_giveOne 40 = .ok (.if_icmp .ne 30, 3) := by decide +kernel
theorem dX3_giveOne_43 : decode cX3_giveOne 43 = .ok (.lload 5, 2) := by decide +kernel
theorem dX3_giveOne_45 : decode cX3_giveOne 45 = .ok (.aload_n 0, 1) := by decide +kernel
theorem dX3_giveOne_46 : decode cX3_giveOne 46 = .ok (.getfield 9, 3) := by decide +kernel
theorem dX3_giveOne_49 : decode cX3_giveOne 49 = .ok (.iload 4, 2) := by decide +kernel
theorem dX3_giveOne_51 : decode cX3_giveOne 51 = .ok (.iconst 1, 1) := by decide +kernel
theorem dX3_giveOne_52 : decode cX3_giveOne 52 = .ok (.iload 7, 2) := by decide +kernel
theorem dX3_giveOne_54 : decode cX3_giveOne 54 = .ok (.ishl, 1) := by decide +kernel
theorem dX3_giveOne_55 : decode cX3_giveOne 55 = .ok (.ixor, 1) := by decide +kernel
theorem dX3_giveOne_56 : decode cX3_giveOne 56 = .ok (.laload, 1) := by decide +kernel
theorem dX3_giveOne_57 : decode cX3_giveOne 57 = .ok (.aload_n 0, 1) := by decide +kernel
theorem dX3_giveOne_58 : decode cX3_giveOne 58 = .ok (.getfield 15, 3) := by decide +kernel
theorem dX3_giveOne_61 : decode cX3_giveOne 61 = .ok (.iload 7, 2) := by decide +kernel
theorem dX3_giveOne_63 : decode cX3_giveOne 63 = .ok (.laload, 1) := by decide +kernel
theorem dX3_giveOne_64 : decode cX3_giveOne 64 = .ok (.ladd, 1) := by decide +kernel
theorem dX3_giveOne_65 : decode cX3_giveOne 65 = .ok (.invokestatic 65, 3) := by decide +kernel
theorem dX3_giveOne_68 : decode cX3_giveOne 68 = .ok (.lstore 5, 2) := by decide +kernel
theorem dX3_giveOne_70 : decode cX3_giveOne 70 = .ok (.iinc 7 1, 3) := by decide +kernel
theorem dX3_giveOne_73 : decode cX3_giveOne 73 = .ok (.goto (-47), 3) := by decide +kernel
theorem dX3_giveOne_76 : decode cX3_giveOne 76 = .ok (.aload_n 0, 1) := by decide +kernel
theorem dX3_giveOne_77 : decode cX3_giveOne 77 = .ok (.getfield 9, 3) := by decide +kernel
theorem dX3_giveOne_80 : decode cX3_giveOne 80 = .ok (.iload 4, 2) := by decide +kernel
theorem dX3_giveOne_82 : decode cX3_giveOne 82 = .ok (.lload 5, 2) := by decide +kernel
theorem dX3_giveOne_84 : decode cX3_giveOne 84 = .ok (.lastore, 1) := by decide +kernel
theorem dX3_giveOne_85 : decode cX3_giveOne 85 = .ok (.iinc 4 (-1), 3) := by decide +kernel
theorem dX3_giveOne_88 : decode cX3_giveOne 88 = .ok (.goto (-81), 3) := by decide +kernel
theorem dX3_giveOne_91 : decode cX3_giveOne 91 = .ok (.return_, 1) := by decide +kernel
theorem dX3_worthOf_0 : decode cX3_worthOf 0 = .ok (.iload_n 0, 1) := by decide +kernel
theorem dX3_worthOf_1 : decode cX3_worthOf 1 = .ok (.i2l, 1) := by decide +kernel
theorem dX3_worthOf_2 : decode cX3_worthOf 2 = .ok (.bipush 32, 2) := by decide +kernel
theorem dX3_worthOf_4 : decode cX3_worthOf 4 = .ok (.lshl, 1) := by decide +kernel
theorem dX3_worthOf_5 : decode cX3_worthOf 5 = .ok (.iload_n 1, 1) := by decide +kernel
theorem dX3_worthOf_6 : decode cX3_worthOf 6 = .ok (.i2l, 1) := by decide +kernel
theorem dX3_worthOf_7 : decode cX3_worthOf 7 = .ok (.iload_n 2, 1) := by decide +kernel
theorem dX3_worthOf_8 : decode cX3_worthOf 8 = .ok (.invokestatic 55, 3) := by decide +kernel
theorem dX3_worthOf_11 : decode cX3_worthOf 11 = .ok (.lshl, 1) := by decide +kernel
theorem dX3_worthOf_12 : decode cX3_worthOf 12 = .ok (.ladd, 1) := by decide +kernel
theorem dX3_worthOf_13 : decode cX3_worthOf 13 = .ok (.lreturn, 1) := by decide +kernel
theorem dX3_shiftOf_0 : decode cX3_shiftOf 0 = .ok (.iconst 4, 1) := by decide +kernel
theorem dX3_shiftOf_1 : decode cX3_shiftOf 1 = .ok (.bipush 7, 2) := by decide +kernel
theorem dX3_shiftOf_3 : decode cX3_shiftOf 3 = .ok (.iload_n 0, 1) := by decide +kernel
theorem dX3_shiftOf_4 : decode cX3_shiftOf 4 = .ok (.isub, 1) := by decide +kernel
theorem dX3_shiftOf_5 : decode cX3_shiftOf 5 = .ok (.imul, 1) := by decide +kernel
theorem dX3_shiftOf_6 : decode cX3_shiftOf 6 = .ok (.ireturn, 1) := by decide +kernel
theorem dX4_init_0 : decode cX4_init 0 = .ok (.aload_n 0, 1) := by decide +kernel
theorem dX4_init_1 : decode cX4_init 1 = .ok (.invokespecial 3, 3) := by decide +kernel
theorem dX4_init_4 : decode cX4_init 4 = .ok (.aload_n 0, 1) := by decide +kernel
theorem dX4_init_5 : decode cX4_init 5 = .ok (.bipush 20, 2) := by decide +kernel
theorem dX4_init_7 : decode cX4_init 7 = .ok (.anewarray 9, 3) := by decide +kernel
theorem dX4_init_10 : decode cX4_init 10 = .ok (.putfield 11, 3) := by decide +kernel
theorem dX4_init_13 : decode cX4_init 13 = .ok (.iconst 0, 1) := by decide +kernel
theorem dX4_init_14 : decode cX4_init 14 = .ok (.istore_n 1, 1) := by decide +kernel
theorem dX4_init_15 : decode cX4_init 15 = .ok (.iload_n 1, 1) := by decide +kernel
theorem dX4_init_16 : decode cX4_init 16 = .ok (.bipush 20, 2) := by decide +kernel
theorem dX4_init_18 : decode cX4_init 18 = .ok (.if_icmp .ge 22, 3) := by decide +kernel
theorem dX4_init_21 : decode cX4_init 21 = .ok (.aload_n 0, 1) := by decide +kernel
theorem dX4_init_22 : decode cX4_init 22 = .ok (.getfield 11, 3) := by decide +kernel
theorem dX4_init_25 : decode cX4_init 25 = .ok (.iload_n 1, 1) := by decide +kernel
theorem dX4_init_26 : decode cX4_init 26 = .ok (.new 9, 3) := by decide +kernel
theorem dX4_init_29 : decode cX4_init 29 = .ok (.dup, 1) := by decide +kernel
theorem dX4_init_30 : decode cX4_init 30 = .ok (.invokespecial 17, 3) := by decide +kernel
theorem dX4_init_33 : decode cX4_init 33 = .ok (.aastore, 1) := by decide +kernel
theorem dX4_init_34 : decode cX4_init 34 = .ok (.iinc 1 1, 3) := by decide +kernel
theorem dX4_init_37 : decode cX4_init 37 = .ok (.goto (-22), 3) := by decide +kernel
theorem dX4_init_40 : decode cX4_init 40 = .ok (.return_, 1) := by decide +kernel
theorem dX4_count_0 : decode cX4_count 0 = .ok (.aload_n 0, 1) := by decide +kernel
theorem dX4_count_1 : decode cX4_count 1 = .ok (.getfield 18, 3) := by decide +kernel
theorem dX4_count_4 : decode cX4_count 4 = .ok (.ireturn, 1) := by decide +kernel
theorem dX4_at_0 : decode cX4_at 0 = .ok (.iload_n 1, 1) := by decide +kernel
theorem dX4_at_1 : decode cX4_at 1 = .ok (.ifCond .lt 20, 3) := by decide +kernel
theorem dX4_at_4 : decode cX4_at 4 = .ok (.iload_n 1, 1) := by decide +kernel
theorem dX4_at_5 : decode cX4_at 5 = .ok (.aload_n 0, 1) := by decide +kernel
theorem dX4_at_6 : decode cX4_at 6 = .ok (.getfield 18, 3) := by decide +kernel
theorem dX4_at_9 : decode cX4_at 9 = .ok (.if_icmp .ge 12, 3) := by decide +kernel
theorem dX4_at_12 : decode cX4_at 12 = .ok (.aload_n 0, 1) := by decide +kernel
theorem dX4_at_13 : decode cX4_at 13 = .ok (.getfield 11, 3) := by decide +kernel
theorem dX4_at_16 : decode cX4_at 16 = .ok (.iload_n 1, 1) := by decide +kernel
theorem dX4_at_17 : decode cX4_at 17 = .ok (.aaload, 1) := by decide +kernel
theorem dX4_at_18 : decode cX4_at 18 = .ok (.goto 4, 3) := by decide +kernel
theorem dX4_at_21 : decode cX4_at 21 = .ok (.aconst_null, 1) := by decide +kernel
theorem dX4_at_22 : decode cX4_at 22 = .ok (.areturn, 1) := by decide +kernel
theorem dX4_remember_0 : decode cX4_remember 0 = .ok (.iconst 0, 1) := by decide +kernel
theorem dX4_remember_1 : decode cX4_remember 1 = .ok (.istore 4, 2) := by decide +kernel
theorem dX4_remember_3 : decode cX4_remember 3 = .ok (.iload 4, 2) := by decide +kernel
theorem dX4_remember_5 : decode cX4_remember 5 = .ok (.aload_n 0, 1) := by decide +kernel
theorem dX4_remember_6 : decode cX4_remember 6 = .ok (.getfield 18, 3) := by decide +kernel
theorem dX4_remember_9 : decode cX4_remember 9 = .ok (.if_icmp .ge 26, 3) := by decide +kernel
theorem dX4_remember_12 : decode cX4_remember 12 = .ok (.aload_n 0, 1) := by decide +kernel
theorem dX4_remember_13 : decode cX4_remember 13 = .ok (.getfield 11, 3) := by decide +kernel
theorem dX4_remember_16 : decode cX4_remember 16 = .ok (.iload 4, 2) := by decide +kernel
theorem dX4_remember_18 : decode cX4_remember 18 = .ok (.aaload, 1) := by decide +kernel
theorem dX4_remember_19 : decode cX4_remember 19 = .ok (.aload_n 1, 1) := by decide +kernel
theorem dX4_remember_20 : decode cX4_remember 20 = .ok (.iload_n 2, 1) := by decide +kernel
theorem dX4_remember_21 : decode cX4_remember 21 = .ok (.aload_n 3, 1) := by decide +kernel
theorem dX4_remember_22 : decode cX4_remember 22 = .ok (.invokevirtual 22, 3) := by decide +kernel
theorem dX4_remember_25 : decode cX4_remember 25 = .ok (.ifCond .eq 4, 3) := by decide +kernel
theorem dX4_remember_28 : decode cX4_remember 28 = .ok (.return_, 1) := by decide +kernel
theorem dX4_remember_29 : decode cX4_remember 29 = .ok (.iinc 4 1, 3) := by decide +kernel
theorem dX4_remember_32 : decode cX4_remember 32 = .ok (.goto (-29), 3) := by decide +kernel
theorem dX4_remember_35 : decode cX4_remember 35 = .ok (.aload_n 0, 1) := by decide +kernel
theorem dX4_remember_36 : decode cX4_remember 36 = .ok (.getfield 18, 3) := by decide +kernel
theorem dX4_remember_39 : decode cX4_remember 39 = .ok (.bipush 20, 2) := by decide +kernel
theorem dX4_remember_41 : decode cX4_remember 41 = .ok (.if_icmp .ge 16, 3) := by decide +kernel
theorem dX4_remember_44 : decode cX4_remember 44 = .ok (.aload_n 0, 1) := by decide +kernel
theorem dX4_remember_45 : decode cX4_remember 45 = .ok (.dup, 1) := by decide +kernel
theorem dX4_remember_46 : decode cX4_remember 46 = .ok (.getfield 18, 3) := by decide +kernel
theorem dX4_remember_49 : decode cX4_remember 49 = .ok (.iconst 1, 1) := by decide +kernel
theorem dX4_remember_50 : decode cX4_remember 50 = .ok (.iadd, 1) := by decide +kernel
theorem dX4_remember_51 : decode cX4_remember 51 = .ok (.putfield 18, 3) := by decide +kernel
theorem dX4_remember_54 : decode cX4_remember 54 = .ok (.goto 7, 3) := by decide +kernel
theorem dX4_remember_57 : decode cX4_remember 57 = .ok (.aload_n 0, 1) := by decide +kernel
theorem dX4_remember_58 : decode cX4_remember 58 = .ok (.invokevirtual 26, 3) := by decide +kernel
theorem dX4_remember_61 : decode cX4_remember 61 = .ok (.aload_n 0, 1) := by decide +kernel
theorem dX4_remember_62 : decode cX4_remember 62 = .ok (.getfield 11, 3) := by decide +kernel
theorem dX4_remember_65 : decode cX4_remember 65 = .ok (.aload_n 0, 1) := by decide +kernel
theorem dX4_remember_66 : decode cX4_remember 66 = .ok (.getfield 18, 3) := by decide +kernel
theorem dX4_remember_69 : decode cX4_remember 69 = .ok (.iconst 1, 1) := by decide +kernel
theorem dX4_remember_70 : decode cX4_remember 70 = .ok (.isub, 1) := by decide +kernel
theorem dX4_remember_71 : decode cX4_remember 71 = .ok (.aaload, 1) := by decide +kernel
theorem dX4_remember_72 : decode cX4_remember 72 = .ok (.aload_n 1, 1) := by decide +kernel
theorem dX4_remember_73 : decode cX4_remember 73 = .ok (.iload_n 2, 1) := by decide +kernel
theorem dX4_remember_74 : decode cX4_remember 74 = .ok (.aload_n 3, 1) := by decide +kernel
theorem dX4_remember_75 : decode cX4_remember 75 = .ok (.invokevirtual 29, 3) := by decide +kernel
theorem dX4_remember_78 : decode cX4_remember 78 = .ok (.return_, 1) := by decide +kernel
theorem dX4_putEldestLast_0 : decode cX4_putEldestLast 0 = .ok (.aload_n 0, 1) := by decide +kernel
theorem dX4_putEldestLast_1 : decode cX4_putEldestLast 1 = .ok (.getfield 11, 3) := by decide +kernel
theorem dX4_putEldestLast_4 : decode cX4_putEldestLast 4 = .ok (.iconst 0, 1) := by decide +kernel
theorem dX4_putEldestLast_5 : decode cX4_putEldestLast 5 = .ok (.aaload, 1) := by decide +kernel
theorem dX4_putEldestLast_6 : decode cX4_putEldestLast 6 = .ok (.astore_n 1, 1) := by decide +kernel
theorem dX4_putEldestLast_7 : decode cX4_putEldestLast 7 = .ok (.iconst 1, 1) := by decide +kernel
theorem dX4_putEldestLast_8 : decode cX4_putEldestLast 8 = .ok (.istore_n 2, 1) := by decide +kernel
theorem dX4_putEldestLast_9 : decode cX4_putEldestLast 9 = .ok (.iload_n 2, 1) := by decide +kernel
theorem dX4_putEldestLast_10 : decode cX4_putEldestLast 10 = .ok (.bipush 20, 2) := by decide +kernel
theorem dX4_putEldestLast_12 : decode cX4_putEldestLast 12 = .ok (.if_icmp .ge 23, 3) := by decide +kernel
theorem dX4_putEldestLast_15 : decode cX4_putEldestLast 15 = .ok (.aload_n 0, 1) := by decide +kernel
theorem dX4_putEldestLast_16 : decode cX4_putEldestLast 16 = .ok (.getfield 11, 3) := by decide +kernel
theorem dX4_putEldestLast_19 : decode cX4_putEldestLast 19 = .ok (.iload_n 2, 1) := by decide +kernel
theorem dX4_putEldestLast_20 : decode cX4_putEldestLast 20 = .ok (.iconst 1, 1) := by decide +kernel
theorem dX4_putEldestLast_21 : decode cX4_putEldestLast 21 = .ok (.isub, 1) := by decide +kernel
theorem dX4_putEldestLast_22 : decode cX4_putEldestLast 22 = .ok (.aload_n 0, 1) := by decide +kernel
theorem dX4_putEldestLast_23 : decode cX4_putEldestLast 23 = .ok (.getfield 11, 3) := by decide +kernel
theorem dX4_putEldestLast_26 : decode cX4_putEldestLast 26 = .ok (.iload_n 2, 1) := by decide +kernel
theorem dX4_putEldestLast_27 : decode cX4_putEldestLast 27 = .ok (.aaload, 1) := by decide +kernel
theorem dX4_putEldestLast_28 : decode cX4_putEldestLast 28 = .ok (.aastore, 1) := by decide +kernel
theorem dX4_putEldestLast_29 : decode cX4_putEldestLast 29 = .ok (.iinc 2 1, 3) := by decide +kernel
theorem dX4_putEldestLast_32 : decode cX4_putEldestLast 32 = .ok (.goto (-23), 3) := by decide +kernel
theorem dX4_putEldestLast_35 : decode cX4_putEldestLast 35 = .ok (.aload_n 0, 1) := by decide +kernel
theorem dX4_putEldestLast_36 : decode cX4_putEldestLast 36 = .ok (.getfield 11, 3) := by decide +kernel
theorem dX4_putEldestLast_39 : decode cX4_putEldestLast 39 = .ok (.bipush 19, 2) := by decide +kernel
theorem dX4_putEldestLast_41 : decode cX4_putEldestLast 41 = .ok (.aload_n 1, 1) := by decide +kernel
theorem dX4_putEldestLast_42 : decode cX4_putEldestLast 42 = .ok (.aastore, 1) := by decide +kernel
theorem dX4_putEldestLast_43 : decode cX4_putEldestLast 43 = .ok (.return_, 1) := by decide +kernel
theorem dX4_closest_0 : decode cX4_closest 0 = .ok (.bipush (-5), 2) := by decide +kernel
theorem dX4_closest_2 : decode cX4_closest 2 = .ok (.istore 4, 2) := by decide +kernel
theorem dX4_closest_4 : decode cX4_closest 4 = .ok (.bipush 11, 2) := by decide +kernel
theorem dX4_closest_6 : decode cX4_closest 6 = .ok (.istore 5, 2) := by decide +kernel
theorem dX4_closest_8 : decode cX4_closest 8 = .ok (.iconst 0, 1) := by decide +kernel
theorem dX4_closest_9 : decode cX4_closest 9 = .ok (.istore 6, 2) := by decide +kernel
theorem dX4_closest_11 : decode cX4_closest 11 = .ok (.iload 6, 2) := by decide +kernel
theorem dX4_closest_13 : decode cX4_closest 13 = .ok (.aload_n 0, 1) := by decide +kernel
theorem dX4_closest_14 : decode cX4_closest 14 = .ok (.getfield 18, 3) := by decide +kernel
theorem dX4_closest_17 : decode cX4_closest 17 = .ok (.if_icmp .ge 55, 3) := by decide +kernel
theorem dX4_closest_20 : decode cX4_closest 20 = .ok (.aload_n 0, 1) := by decide +kernel
theorem dX4_closest_21 : decode cX4_closest 21 = .ok (.getfield 11, 3) := by decide +kernel
theorem dX4_closest_24 : decode cX4_closest 24 = .ok (.iload 6, 2) := by decide +kernel
theorem dX4_closest_26 : decode cX4_closest 26 = .ok (.aaload, 1) := by decide +kernel
theorem dX4_closest_27 : decode cX4_closest 27 = .ok (.invokevirtual 33, 3) := by decide +kernel
theorem dX4_closest_30 : decode cX4_closest 30 = .ok (.iload_n 2, 1) := by decide +kernel
theorem dX4_closest_31 : decode cX4_closest 31 = .ok (.if_icmp .ne 35, 3) := by decide +kernel
theorem dX4_closest_34 : decode cX4_closest 34 = .ok (.aload_n 3, 1) := by decide +kernel
theorem dX4_closest_35 : decode cX4_closest 35 = .ok (.aload_n 1, 1) := by decide +kernel
theorem dX4_closest_36 : decode cX4_closest 36 = .ok (.aload_n 0, 1) := by decide +kernel
theorem dX4_closest_37 : decode cX4_closest 37 = .ok (.getfield 11, 3) := by decide +kernel
theorem dX4_closest_40 : decode cX4_closest 40 = .ok (.iload 6, 2) := by decide +kernel
theorem dX4_closest_42 : decode cX4_closest 42 = .ok (.aaload, 1) := by decide +kernel
theorem dX4_closest_43 : decode cX4_closest 43 = .ok (.invokevirtual 37, 3) := by decide +kernel
theorem dX4_closest_46 : decode cX4_closest 46 = .ok (.invokevirtual 41, 3) := by decide +kernel
theorem dX4_closest_49 : decode cX4_closest 49 = .ok (.istore 7, 2) := by decide +kernel
theorem dX4_closest_51 : decode cX4_closest 51 = .ok (.iload 7, 2) := by decide +kernel
theorem dX4_closest_53 : decode cX4_closest 53 = .ok (.iload 5, 2) := by decide +kernel
theorem dX4_closest_55 : decode cX4_closest 55 = .ok (.if_icmp .gt 11, 3) := by decide +kernel
theorem dX4_closest_58 : decode cX4_closest 58 = .ok (.iload 7, 2) := by decide +kernel
theorem dX4_closest_60 : decode cX4_closest 60 = .ok (.istore 5, 2) := by decide +kernel
theorem dX4_closest_62 : decode cX4_closest 62 = .ok (.iload 6, 2) := by decide +kernel
theorem dX4_closest_64 : decode cX4_closest 64 = .ok (.istore 4, 2) := by decide +kernel
theorem dX4_closest_66 : decode cX4_closest 66 = .ok (.iinc 6 1, 3) := by decide +kernel
theorem dX4_closest_69 : decode cX4_closest 69 = .ok (.goto (-58), 3) := by decide +kernel
theorem dX4_closest_72 : decode cX4_closest 72 = .ok (.iload 4, 2) := by decide +kernel
theorem dX4_closest_74 : decode cX4_closest 74 = .ok (.ireturn, 1) := by decide +kernel
theorem dX4_copy_0 : decode cX4_copy 0 = .ok (.aload_n 0, 1) := by decide +kernel
theorem dX4_copy_1 : decode cX4_copy 1 = .ok (.aload_n 1, 1) := by decide +kernel
theorem dX4_copy_2 : decode cX4_copy 2 = .ok (.getfield 18, 3) := by decide +kernel
theorem dX4_copy_5 : decode cX4_copy 5 = .ok (.putfield 18, 3) := by decide +kernel
theorem dX4_copy_8 : decode cX4_copy 8 = .ok (.iconst 0, 1) := by decide +kernel
theorem dX4_copy_9 : decode cX4_copy 9 = .ok (.istore_n 2, 1) := by decide +kernel
theorem dX4_copy_10 : decode cX4_copy 10 = .ok (.iload_n 2, 1) := by decide +kernel
theorem dX4_copy_11 : decode cX4_copy 11 = .ok (.aload_n 0, 1) := by decide +kernel
theorem dX4_copy_12 : decode cX4_copy 12 = .ok (.getfield 18, 3) := by decide +kernel
theorem dX4_copy_15 : decode cX4_copy 15 = .ok (.if_icmp .ge 37, 3) := by decide +kernel
theorem dX4_copy_18 : decode cX4_copy 18 = .ok (.aload_n 1, 1) := by decide +kernel
theorem dX4_copy_19 : decode cX4_copy 19 = .ok (.getfield 11, 3) := by decide +kernel
theorem dX4_copy_22 : decode cX4_copy 22 = .ok (.iload_n 2, 1) := by decide +kernel
theorem dX4_copy_23 : decode cX4_copy 23 = .ok (.aaload, 1) := by decide +kernel
theorem dX4_copy_24 : decode cX4_copy 24 = .ok (.astore_n 3, 1) := by decide +kernel
theorem dX4_copy_25 : decode cX4_copy 25 = .ok (.aload_n 0, 1) := by decide +kernel
theorem dX4_copy_26 : decode cX4_copy 26 = .ok (.getfield 11, 3) := by decide +kernel
theorem dX4_copy_29 : decode cX4_copy 29 = .ok (.iload_n 2, 1) := by decide +kernel
theorem dX4_copy_30 : decode cX4_copy 30 = .ok (.aaload, 1) := by decide +kernel
theorem dX4_copy_31 : decode cX4_copy 31 = .ok (.aload_n 3, 1) := by decide +kernel
theorem dX4_copy_32 : decode cX4_copy 32 = .ok (.invokevirtual 37, 3) := by decide +kernel
theorem dX4_copy_35 : decode cX4_copy 35 = .ok (.aload_n 3, 1) := by decide +kernel
theorem dX4_copy_36 : decode cX4_copy 36 = .ok (.invokevirtual 33, 3) := by decide +kernel
theorem dX4_copy_39 : decode cX4_copy 39 = .ok (.aload_n 3, 1) := by decide +kernel
theorem dX4_copy_40 : decode cX4_copy 40 = .ok (.invokevirtual 47, 3) := by decide +kernel
theorem dX4_copy_43 : decode cX4_copy 43 = .ok (.invokevirtual 29, 3) := by decide +kernel
theorem dX4_copy_46 : decode cX4_copy 46 = .ok (.iinc 2 1, 3) := by decide +kernel
theorem dX4_copy_49 : decode cX4_copy 49 = .ok (.goto (-39), 3) := by decide +kernel
theorem dX4_copy_52 : decode cX4_copy 52 = .ok (.return_, 1) := by decide +kernel
theorem dX5_init_0 : decode cX5_init 0 = .ok (.aload_n 0, 1) := by decide +kernel
theorem dX5_init_1 : decode cX5_init 1 = .ok (.invokespecial 3, 3) := by decide +kernel
theorem dX5_init_4 : decode cX5_init 4 = .ok (.aload_n 0, 1) := by decide +kernel
theorem dX5_init_5 : decode cX5_init 5 = .ok (.new 9, 3) := by decide +kernel
theorem dX5_init_8 : decode cX5_init 8 = .ok (.dup, 1) := by decide +kernel
theorem dX5_init_9 : decode cX5_init 9 = .ok (.invokespecial 11, 3) := by decide +kernel
theorem dX5_init_12 : decode cX5_init 12 = .ok (.putfield 12, 3) := by decide +kernel
theorem dX5_init_15 : decode cX5_init 15 = .ok (.aload_n 0, 1) := by decide +kernel
theorem dX5_init_16 : decode cX5_init 16 = .ok (.iconst 3, 1) := by decide +kernel
theorem dX5_init_17 : decode cX5_init 17 = .ok (.anewarray 18, 3) := by decide +kernel
theorem dX5_init_20 : decode cX5_init 20 = .ok (.putfield 20, 3) := by decide +kernel
theorem dX5_init_23 : decode cX5_init 23 = .ok (.aload_n 0, 1) := by decide +kernel
theorem dX5_init_24 : decode cX5_init 24 = .ok (.iconst 0, 1) := by decide +kernel
theorem dX5_init_25 : decode cX5_init 25 = .ok (.putfield 24, 3) := by decide +kernel
theorem dX5_init_28 : decode cX5_init 28 = .ok (.aload_n 0, 1) := by decide +kernel
theorem dX5_init_29 : decode cX5_init 29 = .ok (.bipush (-5), 2) := by decide +kernel
theorem dX5_init_31 : decode cX5_init 31 = .ok (.putfield 28, 3) := by decide +kernel
theorem dX5_init_34 : decode cX5_init 34 = .ok (.iconst 0, 1) := by decide +kernel
theorem dX5_init_35 : decode cX5_init 35 = .ok (.istore_n 1, 1) := by decide +kernel
theorem dX5_init_36 : decode cX5_init 36 = .ok (.iload_n 1, 1) := by decide +kernel
theorem dX5_init_37 : decode cX5_init 37 = .ok (.iconst 3, 1) := by decide +kernel
theorem dX5_init_38 : decode cX5_init 38 = .ok (.if_icmp .ge 22, 3) := by decide +kernel
theorem dX5_init_41 : decode cX5_init 41 = .ok (.aload_n 0, 1) := by decide +kernel
theorem dX5_init_42 : decode cX5_init 42 = .ok (.getfield 20, 3) := by decide +kernel
theorem dX5_init_45 : decode cX5_init 45 = .ok (.iload_n 1, 1) := by decide +kernel
theorem dX5_init_46 : decode cX5_init 46 = .ok (.new 18, 3) := by decide +kernel
theorem dX5_init_49 : decode cX5_init 49 = .ok (.dup, 1) := by decide +kernel
theorem dX5_init_50 : decode cX5_init 50 = .ok (.invokespecial 31, 3) := by decide +kernel
theorem dX5_init_53 : decode cX5_init 53 = .ok (.aastore, 1) := by decide +kernel
theorem dX5_init_54 : decode cX5_init 54 = .ok (.iinc 1 1, 3) := by decide +kernel
theorem dX5_init_57 : decode cX5_init 57 = .ok (.goto (-21), 3) := by decide +kernel
theorem dX5_init_60 : decode cX5_init 60 = .ok (.return_, 1) := by decide +kernel
theorem dX5_signs_0 : decode cX5_signs 0 = .ok (.aload_n 0, 1) := by decide +kernel
theorem dX5_signs_1 : decode cX5_signs 1 = .ok (.getfield 12, 3) := by decide +kernel
theorem dX5_signs_4 : decode cX5_signs 4 = .ok (.areturn, 1) := by decide +kernel
theorem dX5_kind_0 : decode cX5_kind 0 = .ok (.aload_n 0, 1) := by decide +kernel
theorem dX5_kind_1 : decode cX5_kind 1 = .ok (.getfield 24, 3) := by decide +kernel
theorem dX5_kind_4 : decode cX5_kind 4 = .ok (.ireturn, 1) := by decide +kernel
theorem dX5_given_0 : decode cX5_given 0 = .ok (.aload_n 0, 1) := by decide +kernel
theorem dX5_given_1 : decode cX5_given 1 = .ok (.getfield 28, 3) := by decide +kernel
theorem dX5_given_4 : decode cX5_given 4 = .ok (.ireturn, 1) := by decide +kernel
theorem dX5_textIn_0 : decode cX5_textIn 0 = .ok (.iload_n 1, 1) := by decide +kernel
theorem dX5_textIn_1 : decode cX5_textIn 1 = .ok (.invokestatic 32, 3) := by decide +kernel
theorem dX5_textIn_4 : decode cX5_textIn 4 = .ok (.ifCond .eq 12, 3) := by decide +kernel
theorem dX5_textIn_7 : decode cX5_textIn 7 = .ok (.aload_n 0, 1) := by decide +kernel
theorem dX5_textIn_8 : decode cX5_textIn 8 = .ok (.getfield 20, 3) := by decide +kernel
theorem dX5_textIn_11 : decode cX5_textIn 11 = .ok (.iload_n 1, 1) := by decide +kernel
theorem dX5_textIn_12 : decode cX5_textIn 12 = .ok (.aaload, 1) := by decide +kernel
theorem dX5_textIn_13 : decode cX5_textIn 13 = .ok (.goto 4, 3) := by decide +kernel
theorem dX5_textIn_16 : decode cX5_textIn 16 = .ok (.aconst_null, 1) := by decide +kernel
theorem dX5_textIn_17 : decode cX5_textIn 17 = .ok (.areturn, 1) := by decide +kernel
theorem dX5_storyAt_0 : decode cX5_storyAt 0 = .ok (.aload_n 0, 1) := by decide +kernel
theorem dX5_storyAt_1 : decode cX5_storyAt 1 = .ok (.getfield 28, 3) := by decide +kernel
theorem dX5_storyAt_4 : decode cX5_storyAt 4 = .ok (.bipush (-5), 2) := by decide +kernel
theorem dX5_storyAt_6 : decode cX5_storyAt 6 = .ok (.if_icmp .ne 5, 3) := by decide +kernel
theorem dX5_storyAt_9 : decode cX5_storyAt 9 = .ok (.iconst 3, 1) := by decide +kernel
theorem dX5_storyAt_10 : decode cX5_storyAt 10 = .ok (.ireturn, 1) := by decide +kernel
theorem dX5_storyAt_11 : decode cX5_storyAt 11 = .ok (.aload_n 0, 1) := by decide +kernel
theorem dX5_storyAt_12 : decode cX5_storyAt 12 = .ok (.getfield 36, 3) := by decide +kernel
theorem dX5_storyAt_15 : decode cX5_storyAt 15 = .ok (.ifCond .le 5, 3) := by decide +kernel
theorem dX5_storyAt_18 : decode cX5_storyAt 18 = .ok (.iconst 2, 1) := by decide +kernel
theorem dX5_storyAt_19 : decode cX5_storyAt 19 = .ok (.ireturn, 1) := by decide +kernel
theorem dX5_storyAt_20 : decode cX5_storyAt 20 = .ok (.aload_n 0, 1) := by decide +kernel
theorem dX5_storyAt_21 : decode cX5_storyAt 21 = .ok (.getfield 28, 3) := by decide +kernel
theorem dX5_storyAt_24 : decode cX5_storyAt 24 = .ok (.iload_n 1, 1) := by decide +kernel
theorem dX5_storyAt_25 : decode cX5_storyAt 25 = .ok (.if_icmp .ne 7, 3) := by decide +kernel
theorem dX5_storyAt_28 : decode cX5_storyAt 28 = .ok (.iconst 0, 1) := by decide +kernel
theorem dX5_storyAt_29 : decode cX5_storyAt 29 = .ok (.goto 4, 3) := by decide +kernel
theorem dX5_storyAt_32 : decode cX5_storyAt 32 = .ok (.iconst 1, 1) := by decide +kernel
theorem dX5_storyAt_33 : decode cX5_storyAt 33 = .ok (.ireturn, 1) := by decide +kernel
theorem dX5_isReviewedIn_0 : decode cX5_isReviewedIn 0 = .ok (.iload_n 1, 1) := by decide +kernel
theorem dX5_isReviewedIn_1 : decode cX5_isReviewedIn 1 = .ok (.invokestatic 32, 3) := by decide +kernel
theorem dX5_isReviewedIn_4 : decode cX5_isReviewedIn 4 = .ok (.ifCond .eq 20, 3) := by decide +kernel
theorem dX5_isReviewedIn_7 : decode cX5_isReviewedIn 7 = .ok (.aload_n 0, 1) := by decide +kernel
theorem dX5_isReviewedIn_8 : decode cX5_isReviewedIn 8 = .ok (.getfield 20, 3) := by decide +kernel
theorem dX5_isReviewedIn_11 : decode cX5_isReviewedIn 11 = .ok (.iload_n 1, 1) := by decide +kernel
theorem dX5_isReviewedIn_12 : decode cX5_isReviewedIn 12 = .ok (.aaload, 1) := by decide +kernel
theorem dX5_isReviewedIn_13 : decode cX5_isReviewedIn 13 = .ok (.invokevirtual 39, 3) := by decide +kernel
theorem dX5_isReviewedIn_16 : decode cX5_isReviewedIn 16 = .ok (.iconst 2, 1) := by decide +kernel
theorem dX5_isReviewedIn_17 : decode cX5_isReviewedIn 17 = .ok (.if_icmp .ne 7, 3) := by decide +kernel
theorem dX5_isReviewedIn_20 : decode cX5_isReviewedIn 20 = .ok (.iconst 1, 1) := by decide +kernel
theorem dX5_isReviewedIn_21 : decode cX5_isReviewedIn 21 = .ok (.goto 4, 3) := by decide +kernel
theorem dX5_isReviewedIn_24 : decode cX5_isReviewedIn 24 = .ok (.iconst 0, 1) := by decide +kernel
theorem dX5_isReviewedIn_25 : decode cX5_isReviewedIn 25 = .ok (.ireturn, 1) := by decide +kernel
theorem dX5_needsWork_0 : decode cX5_needsWork 0 = .ok (.aload_n 0, 1) := by decide +kernel
theorem dX5_needsWork_1 : decode cX5_needsWork 1 = .ok (.getfield 24, 3) := by decide +kernel
theorem dX5_needsWork_4 : decode cX5_needsWork 4 = .ok (.iconst 1, 1) := by decide +kernel
theorem dX5_needsWork_5 : decode cX5_needsWork 5 = .ok (.if_icmp .eq 15, 3) := by decide +kernel
theorem dX5_needsWork_8 : decode cX5_needsWork 8 = .ok (.aload_n 0, 1) := by decide +kernel
theorem dX5_needsWork_9 : decode cX5_needsWork 9 = .ok (.iload_n 1, 1) := by decide +kernel
theorem dX5_needsWork_10 : decode cX5_needsWork 10 = .ok (.invokevirtual 43, 3) := by decide +kernel
theorem dX5_needsWork_13 : decode cX5_needsWork 13 = .ok (.ifCond .ne 7, 3) := by decide +kernel
theorem dX5_needsWork_16 : decode cX5_needsWork 16 = .ok (.iconst 1, 1) := by decide +kernel
theorem dX5_needsWork_17 : decode cX5_needsWork 17 = .ok (.goto 4, 3) := by decide +kernel
theorem dX5_needsWork_20 : decode cX5_needsWork 20 = .ok (.iconst 0, 1) := by decide +kernel
theorem dX5_needsWork_21 : decode cX5_needsWork 21 = .ok (.ireturn, 1) := by decide +kernel
theorem dX5_releasedIn_0 : decode cX5_releasedIn 0 = .ok (.aload_n 0, 1) := by decide +kernel
theorem dX5_releasedIn_1 : decode cX5_releasedIn 1 = .ok (.iload_n 1, 1) := by decide +kernel
theorem dX5_releasedIn_2 : decode cX5_releasedIn 2 = .ok (.invokevirtual 43, 3) := by decide +kernel
theorem dX5_releasedIn_5 : decode cX5_releasedIn 5 = .ok (.ifCond .eq 15, 3) := by decide +kernel
theorem dX5_releasedIn_8 : decode cX5_releasedIn 8 = .ok (.aload_n 0, 1) := by decide +kernel
theorem dX5_releasedIn_9 : decode cX5_releasedIn 9 = .ok (.getfield 20, 3) := by decide +kernel
theorem dX5_releasedIn_12 : decode cX5_releasedIn 12 = .ok (.iload_n 1, 1) := by decide +kernel
theorem dX5_releasedIn_13 : decode cX5_releasedIn 13 = .ok (.aaload, 1) := by decide +kernel
theorem dX5_releasedIn_14 : decode cX5_releasedIn 14 = .ok (.invokevirtual 46, 3) := by decide +kernel
theorem dX5_releasedIn_17 : decode cX5_releasedIn 17 = .ok (.goto 7, 3) := by decide +kernel
theorem dX5_releasedIn_20 : decode cX5_releasedIn 20 = .ok (.aload_n 0, 1) := by decide +kernel
theorem dX5_releasedIn_21 : decode cX5_releasedIn 21 = .ok (.getfield 12, 3) := by decide +kernel
theorem dX5_releasedIn_24 : decode cX5_releasedIn 24 = .ok (.areturn, 1) := by decide +kernel
theorem dX5_textsThatAre_0 : decode cX5_textsThatAre 0 = .ok (.iconst 0, 1) := by decide +kernel
theorem dX5_textsThatAre_1 : decode cX5_textsThatAre 1 = .ok (.istore_n 2, 1) := by decide +kernel
theorem dX5_textsThatAre_2 : decode cX5_textsThatAre 2 = .ok (.iconst 0, 1) := by decide +kernel
theorem dX5_textsThatAre_3 : decode cX5_textsThatAre 3 = .ok (.istore_n 3, 1) := by decide +kernel
theorem dX5_textsThatAre_4 : decode cX5_textsThatAre 4 = .ok (.iload_n 3, 1) := by decide +kernel
theorem dX5_textsThatAre_5 : decode cX5_textsThatAre 5 = .ok (.iconst 3, 1) := by decide +kernel
theorem dX5_textsThatAre_6 : decode cX5_textsThatAre 6 = .ok (.if_icmp .ge 25, 3) := by decide +kernel
theorem dX5_textsThatAre_9 : decode cX5_textsThatAre 9 = .ok (.aload_n 0, 1) := by decide +kernel
theorem dX5_textsThatAre_10 : decode cX5_textsThatAre 10 = .ok (.getfield 20, 3) := by decide +kernel
theorem dX5_textsThatAre_13 : decode cX5_textsThatAre 13 = .ok (.iload_n 3, 1) := by decide +kernel
theorem dX5_textsThatAre_14 : decode cX5_textsThatAre 14 = .ok (.aaload, 1) := by decide +kernel
theorem dX5_textsThatAre_15 : decode cX5_textsThatAre 15 = .ok (.invokevirtual 39, 3) := by decide +kernel
theorem dX5_textsThatAre_18 : decode cX5_textsThatAre 18 = .ok (.iload_n 1, 1) := by decide +kernel
theorem dX5_textsThatAre_19 : decode cX5_textsThatAre 19 = .ok (.if_icmp .ne 6, 3) := by decide +kernel
theorem dX5_textsThatAre_22 : decode cX5_textsThatAre 22 = .ok (.iinc 2 1, 3) := by decide +kernel
theorem dX5_textsThatAre_25 : decode cX5_textsThatAre 25 = .ok (.iinc 3 1, 3) := by decide +kernel
theorem dX5_textsThatAre_28 : decode cX5_textsThatAre 28 = .ok (.goto (-24), 3) := by decide +kernel
theorem dX5_textsThatAre_31 : decode cX5_textsThatAre 31 = .ok (.iload_n 2, 1) := by decide +kernel
theorem dX5_textsThatAre_32 : decode cX5_textsThatAre 32 = .ok (.ireturn, 1) := by decide +kernel
theorem dX5_begin_0 : decode cX5_begin 0 = .ok (.aload_n 0, 1) := by decide +kernel
theorem dX5_begin_1 : decode cX5_begin 1 = .ok (.iload_n 1, 1) := by decide +kernel
theorem dX5_begin_2 : decode cX5_begin 2 = .ok (.putfield 24, 3) := by decide +kernel
theorem dX5_begin_5 : decode cX5_begin 5 = .ok (.aload_n 0, 1) := by decide +kernel
theorem dX5_begin_6 : decode cX5_begin 6 = .ok (.getfield 12, 3) := by decide +kernel
theorem dX5_begin_9 : decode cX5_begin 9 = .ok (.aload_n 2, 1) := by decide +kernel
theorem dX5_begin_10 : decode cX5_begin 10 = .ok (.invokevirtual 49, 3) := by decide +kernel
theorem dX5_begin_13 : decode cX5_begin 13 = .ok (.aload_n 0, 1) := by decide +kernel
theorem dX5_begin_14 : decode cX5_begin 14 = .ok (.bipush (-5), 2) := by decide +kernel
theorem dX5_begin_16 : decode cX5_begin 16 = .ok (.putfield 28, 3) := by decide +kernel
theorem dX5_begin_19 : decode cX5_begin 19 = .ok (.aload_n 0, 1) := by decide +kernel
theorem dX5_begin_20 : decode cX5_begin 20 = .ok (.iconst 0, 1) := by decide +kernel
theorem dX5_begin_21 : decode cX5_begin 21 = .ok (.putfield 36, 3) := by decide +kernel
theorem dX5_begin_24 : decode cX5_begin 24 = .ok (.iconst 0, 1) := by decide +kernel
theorem dX5_begin_25 : decode cX5_begin 25 = .ok (.istore_n 3, 1) := by decide +kernel
theorem dX5_begin_26 : decode cX5_begin 26 = .ok (.iload_n 3, 1) := by decide +kernel
theorem dX5_begin_27 : decode cX5_begin 27 = .ok (.iconst 3, 1) := by decide +kernel
theorem dX5_begin_28 : decode cX5_begin 28 = .ok (.if_icmp .ge 18, 3) := by decide +kernel
theorem dX5_begin_31 : decode cX5_begin 31 = .ok (.aload_n 0, 1) := by decide +kernel
theorem dX5_begin_32 : decode cX5_begin 32 = .ok (.getfield 20, 3) := by decide +kernel
theorem dX5_begin_35 : decode cX5_begin 35 = .ok (.iload_n 3, 1) := by decide +kernel
theorem dX5_begin_36 : decode cX5_begin 36 = .ok (.aaload, 1) := by decide +kernel
theorem dX5_begin_37 : decode cX5_begin 37 = .ok (.invokevirtual 53, 3) := by decide +kernel
theorem dX5_begin_40 : decode cX5_begin 40 = .ok (.iinc 3 1, 3) := by decide +kernel
theorem dX5_begin_43 : decode cX5_begin 43 = .ok (.goto (-17), 3) := by decide +kernel
theorem dX5_begin_46 : decode cX5_begin 46 = .ok (.return_, 1) := by decide +kernel
theorem dX5_follow_0 : decode cX5_follow 0 = .ok (.aload_n 0, 1) := by decide +kernel
theorem dX5_follow_1 : decode cX5_follow 1 = .ok (.iload_n 2, 1) := by decide +kernel
theorem dX5_follow_2 : decode cX5_follow 2 = .ok (.putfield 28, 3) := by decide +kernel
theorem dX5_follow_5 : decode cX5_follow 5 = .ok (.aload_n 0, 1) := by decide +kernel
theorem dX5_follow_6 : decode cX5_follow 6 = .ok (.iload_n 3, 1) := by decide +kernel
theorem dX5_follow_7 : decode cX5_follow 7 = .ok (.putfield 36, 3) := by decide +kernel
theorem dX5_follow_10 : decode cX5_follow 10 = .ok (.aload_n 0, 1) := by decide +kernel
theorem dX5_follow_11 : decode cX5_follow 11 = .ok (.getfield 24, 3) := by decide +kernel
theorem dX5_follow_14 : decode cX5_follow 14 = .ok (.iconst 1, 1) := by decide +kernel
theorem dX5_follow_15 : decode cX5_follow 15 = .ok (.if_icmp .ne 4, 3) := by decide +kernel
theorem dX5_follow_18 : decode cX5_follow 18 = .ok (.return_, 1) := by decide +kernel
theorem dX5_follow_19 : decode cX5_follow 19 = .ok (.iconst 0, 1) := by decide +kernel
theorem dX5_follow_20 : decode cX5_follow 20 = .ok (.istore 4, 2) := by decide +kernel
theorem dX5_follow_22 : decode cX5_follow 22 = .ok (.iload 4, 2) := by decide +kernel
theorem dX5_follow_24 : decode cX5_follow 24 = .ok (.iconst 3, 1) := by decide +kernel
theorem dX5_follow_25 : decode cX5_follow 25 = .ok (.if_icmp .ge 40, 3) := by decide +kernel
theorem dX5_follow_28 : decode cX5_follow 28 = .ok (.aload_n 0, 1) := by decide +kernel
theorem dX5_follow_29 : decode cX5_follow 29 = .ok (.getfield 20, 3) := by decide +kernel
theorem dX5_follow_32 : decode cX5_follow 32 = .ok (.iload 4, 2) := by decide +kernel
theorem dX5_follow_34 : decode cX5_follow 34 = .ok (.aaload, 1) := by decide +kernel
theorem dX5_follow_35 : decode cX5_follow 35 = .ok (.aload_n 1, 1) := by decide +kernel
theorem dX5_follow_36 : decode cX5_follow 36 = .ok (.getfield 20, 3) := by decide +kernel
theorem dX5_follow_39 : decode cX5_follow 39 = .ok (.iload 4, 2) := by decide +kernel
theorem dX5_follow_41 : decode cX5_follow 41 = .ok (.aaload, 1) := by decide +kernel
theorem dX5_follow_42 : decode cX5_follow 42 = .ok (.invokevirtual 56, 3) := by decide +kernel
theorem dX5_follow_45 : decode cX5_follow 45 = .ok (.iload_n 3, 1) := by decide +kernel
theorem dX5_follow_46 : decode cX5_follow 46 = .ok (.ifCond .le 13, 3) := by decide +kernel
theorem dX5_follow_49 : decode cX5_follow 49 = .ok (.aload_n 0, 1) := by decide +kernel
theorem dX5_follow_50 : decode cX5_follow 50 = .ok (.getfield 20, 3) := by decide +kernel
theorem dX5_follow_53 : decode cX5_follow 53 = .ok (.iload 4, 2) := by decide +kernel
theorem dX5_follow_55 : decode cX5_follow 55 = .ok (.aaload, 1) := by decide +kernel
theorem dX5_follow_56 : decode cX5_follow 56 = .ok (.invokevirtual 59, 3) := by decide +kernel
theorem dX5_follow_59 : decode cX5_follow 59 = .ok (.iinc 4 1, 3) := by decide +kernel
theorem dX5_follow_62 : decode cX5_follow 62 = .ok (.goto (-40), 3) := by decide +kernel
theorem dX5_follow_65 : decode cX5_follow 65 = .ok (.return_, 1) := by decide +kernel
theorem dX5_copy_0 : decode cX5_copy 0 = .ok (.aload_n 0, 1) := by decide +kernel
theorem dX5_copy_1 : decode cX5_copy 1 = .ok (.aload_n 1, 1) := by decide +kernel
theorem dX5_copy_2 : decode cX5_copy 2 = .ok (.getfield 24, 3) := by decide +kernel
theorem dX5_copy_5 : decode cX5_copy 5 = .ok (.putfield 24, 3) := by decide +kernel
theorem dX5_copy_8 : decode cX5_copy 8 = .ok (.aload_n 0, 1) := by decide +kernel
theorem dX5_copy_9 : decode cX5_copy 9 = .ok (.getfield 12, 3) := by decide +kernel
theorem dX5_copy_12 : decode cX5_copy 12 = .ok (.aload_n 1, 1) := by decide +kernel
theorem dX5_copy_13 : decode cX5_copy 13 = .ok (.getfield 12, 3) := by decide +kernel
theorem dX5_copy_16 : decode cX5_copy 16 = .ok (.invokevirtual 49, 3) := by decide +kernel
theorem dX5_copy_19 : decode cX5_copy 19 = .ok (.aload_n 0, 1) := by decide +kernel
theorem dX5_copy_20 : decode cX5_copy 20 = .ok (.aload_n 1, 1) := by decide +kernel
theorem dX5_copy_21 : decode cX5_copy 21 = .ok (.getfield 28, 3) := by decide +kernel
theorem dX5_copy_24 : decode cX5_copy 24 = .ok (.putfield 28, 3) := by decide +kernel
theorem dX5_copy_27 : decode cX5_copy 27 = .ok (.aload_n 0, 1) := by decide +kernel
theorem dX5_copy_28 : decode cX5_copy 28 = .ok (.aload_n 1, 1) := by decide +kernel
theorem dX5_copy_29 : decode cX5_copy 29 = .ok (.getfield 36, 3) := by decide +kernel
theorem dX5_copy_32 : decode cX5_copy 32 = .ok (.putfield 36, 3) := by decide +kernel
theorem dX5_copy_35 : decode cX5_copy 35 = .ok (.iconst 0, 1) := by decide +kernel
theorem dX5_copy_36 : decode cX5_copy 36 = .ok (.istore_n 2, 1) := by decide +kernel
theorem dX5_copy_37 : decode cX5_copy 37 = .ok (.iload_n 2, 1) := by decide +kernel
theorem dX5_copy_38 : decode cX5_copy 38 = .ok (.iconst 3, 1) := by decide +kernel
theorem dX5_copy_39 : decode cX5_copy 39 = .ok (.if_icmp .ge 24, 3) := by decide +kernel
theorem dX5_copy_42 : decode cX5_copy 42 = .ok (.aload_n 0, 1) := by decide +kernel
theorem dX5_copy_43 : decode cX5_copy 43 = .ok (.getfield 20, 3) := by decide +kernel
theorem dX5_copy_46 : decode cX5_copy 46 = .ok (.iload_n 2, 1) := by decide +kernel
theorem dX5_copy_47 : decode cX5_copy 47 = .ok (.aaload, 1) := by decide +kernel
theorem dX5_copy_48 : decode cX5_copy 48 = .ok (.aload_n 1, 1) := by decide +kernel
theorem dX5_copy_49 : decode cX5_copy 49 = .ok (.getfield 20, 3) := by decide +kernel
theorem dX5_copy_52 : decode cX5_copy 52 = .ok (.iload_n 2, 1) := by decide +kernel
theorem dX5_copy_53 : decode cX5_copy 53 = .ok (.aaload, 1) := by decide +kernel
theorem dX5_copy_54 : decode cX5_copy 54 = .ok (.invokevirtual 56, 3) := by decide +kernel
theorem dX5_copy_57 : decode cX5_copy 57 = .ok (.iinc 2 1, 3) := by decide +kernel
theorem dX5_copy_60 : decode cX5_copy 60 = .ok (.goto (-23), 3) := by decide +kernel
theorem dX5_copy_63 : decode cX5_copy 63 = .ok (.return_, 1) := by decide +kernel
theorem dX6_init_0 : decode cX6_init 0 = .ok (.aload_n 0, 1) := by decide +kernel
theorem dX6_init_1 : decode cX6_init 1 = .ok (.invokespecial 3, 3) := by decide +kernel
theorem dX6_init_4 : decode cX6_init 4 = .ok (.aload_n 0, 1) := by decide +kernel
theorem dX6_init_5 : decode cX6_init 5 = .ok (.bipush 8, 2) := by decide +kernel
theorem dX6_init_7 : decode cX6_init 7 = .ok (.newarray .int, 2) := by decide +kernel
theorem dX6_init_9 : decode cX6_init 9 = .ok (.putfield 9, 3) := by decide +kernel
theorem dX6_init_12 : decode cX6_init 12 = .ok (.aload_n 0, 1) := by decide +kernel
theorem dX6_init_13 : decode cX6_init 13 = .ok (.sipush 256, 3) := by decide +kernel
theorem dX6_init_16 : decode cX6_init 16 = .ok (.newarray .int, 2) := by decide +kernel
theorem dX6_init_18 : decode cX6_init 18 = .ok (.putfield 15, 3) := by decide +kernel
theorem dX6_init_21 : decode cX6_init 21 = .ok (.aload_n 0, 1) := by decide +kernel
theorem dX6_init_22 : decode cX6_init 22 = .ok (.sipush 256, 3) := by decide +kernel
theorem dX6_init_25 : decode cX6_init 25 = .ok (.newarray .int, 2) := by decide +kernel
theorem dX6_init_27 : decode cX6_init 27 = .ok (.putfield 18, 3) := by decide +kernel
theorem dX6_init_30 : decode cX6_init 30 = .ok (.aload_n 0, 1) := by decide +kernel
theorem dX6_init_31 : decode cX6_init 31 = .ok (.sipush 256, 3) := by decide +kernel
theorem dX6_init_34 : decode cX6_init 34 = .ok (.newarray .long, 2) := by decide +kernel
theorem dX6_init_36 : decode cX6_init 36 = .ok (.putfield 21, 3) := by decide +kernel
theorem dX6_init_39 : decode cX6_init 39 = .ok (.iconst 0, 1) := by decide +kernel
theorem dX6_init_40 : decode cX6_init 40 = .ok (.istore_n 1, 1) := by decide +kernel
theorem dX6_init_41 : decode cX6_init 41 = .ok (.iload_n 1, 1) := by decide +kernel
theorem dX6_init_42 : decode cX6_init 42 = .ok (.bipush 8, 2) := by decide +kernel
theorem dX6_init_44 : decode cX6_init 44 = .ok (.if_icmp .ge 47, 3) := by decide +kernel
theorem dX6_init_47 : decode cX6_init 47 = .ok (.iconst 1, 1) := by decide +kernel
theorem dX6_init_48 : decode cX6_init 48 = .ok (.iload_n 1, 1) := by decide +kernel
theorem dX6_init_49 : decode cX6_init 49 = .ok (.ishl, 1) := by decide +kernel
theorem dX6_init_50 : decode cX6_init 50 = .ok (.istore_n 2, 1) := by decide +kernel
theorem dX6_init_51 : decode cX6_init 51 = .ok (.iconst 0, 1) := by decide +kernel
theorem dX6_init_52 : decode cX6_init 52 = .ok (.istore_n 3, 1) := by decide +kernel
theorem dX6_init_53 : decode cX6_init 53 = .ok (.iload_n 3, 1) := by decide +kernel
theorem dX6_init_54 : decode cX6_init 54 = .ok (.iload_n 2, 1) := by decide +kernel
theorem dX6_init_55 : decode cX6_init 55 = .ok (.if_icmp .ge 30, 3) := by decide +kernel
theorem dX6_init_58 : decode cX6_init 58 = .ok (.aload_n 0, 1) := by decide +kernel
theorem dX6_init_59 : decode cX6_init 59 = .ok (.getfield 18, 3) := by decide +kernel
theorem dX6_init_62 : decode cX6_init 62 = .ok (.iload_n 2, 1) := by decide +kernel
theorem dX6_init_63 : decode cX6_init 63 = .ok (.iload_n 3, 1) := by decide +kernel
theorem dX6_init_64 : decode cX6_init 64 = .ok (.iadd, 1) := by decide +kernel
theorem dX6_init_65 : decode cX6_init 65 = .ok (.aload_n 0, 1) := by decide +kernel
theorem dX6_init_66 : decode cX6_init 66 = .ok (.getfield 18, 3) := by decide +kernel
theorem dX6_init_69 : decode cX6_init 69 = .ok (.iload_n 3, 1) := by decide +kernel
theorem dX6_init_70 : decode cX6_init 70 = .ok (.iaload, 1) := by decide +kernel
theorem dX6_init_71 : decode cX6_init 71 = .ok (.iconst 1, 1) := by decide +kernel
theorem dX6_init_72 : decode cX6_init 72 = .ok (.iload_n 1, 1) := by decide +kernel
theorem dX6_init_73 : decode cX6_init 73 = .ok (.invokestatic 25, 3) := by decide +kernel
theorem dX6_init_76 : decode cX6_init 76 = .ok (.ishl, 1) := by decide +kernel
theorem dX6_init_77 : decode cX6_init 77 = .ok (.iadd, 1) := by decide +kernel
theorem dX6_init_78 : decode cX6_init 78 = .ok (.iastore, 1) := by decide +kernel
theorem dX6_init_79 : decode cX6_init 79 = .ok (.iinc 3 1, 3) := by decide +kernel
theorem dX6_init_82 : decode cX6_init 82 = .ok (.goto (-29), 3) := by decide +kernel
theorem dX6_init_85 : decode cX6_init 85 = .ok (.iinc 1 1, 3) := by decide +kernel
theorem dX6_init_88 : decode cX6_init 88 = .ok (.goto (-47), 3) := by decide +kernel
theorem dX6_init_91 : decode cX6_init 91 = .ok (.return_, 1) := by decide +kernel
theorem dX6_setEffort_0 : decode cX6_setEffort 0 = .ok (.iload_n 1, 1) := by decide +kernel
theorem dX6_setEffort_1 : decode cX6_setEffort 1 = .ok (.ifCond .lt 16, 3) := by decide +kernel
theorem dX6_setEffort_4 : decode cX6_setEffort 4 = .ok (.iload_n 1, 1) := by decide +kernel
theorem dX6_setEffort_5 : decode cX6_setEffort 5 = .ok (.bipush 8, 2) := by decide +kernel
theorem dX6_setEffort_7 : decode cX6_setEffort 7 = .ok (.if_icmp .ge 10, 3) := by decide +kernel
theorem dX6_setEffort_10 : decode cX6_setEffort 10 = .ok (.aload_n 0, 1) := by decide +kernel
theorem dX6_setEffort_11 : decode cX6_setEffort 11 = .ok (.getfield 9, 3) := by decide +kernel
theorem dX6_setEffort_14 : decode cX6_setEffort 14 = .ok (.iload_n 1, 1) := by decide +kernel
theorem dX6_setEffort_15 : decode cX6_setEffort 15 = .ok (.iload_n 2, 1) := by decide +kernel
theorem dX6_setEffort_16 : decode cX6_setEffort 16 = .ok (.iastore, 1) := by decide +kernel
theorem dX6_setEffort_17 : decode cX6_setEffort 17 = .ok (.return_, 1) := by decide +kernel
theorem dX6_solve_0 : decode cX6_solve 0 = .ok (.aload_n 0, 1) := by decide +kernel
theorem dX6_solve_1 : decode cX6_solve 1 = .ok (.invokevirtual 29, 3) := by decide +kernel
theorem dX6_solve_4 : decode cX6_solve 4 = .ok (.iconst 0, 1) := by decide +kernel
theorem dX6_solve_5 : decode cX6_solve 5 = .ok (.istore_n 3, 1) := by decide +kernel
theorem dX6_solve_6 : decode cX6_solve 6 = .ok (.iload_n 3, 1) := by decide +kernel
theorem dX6_solve_7 : decode cX6_solve 7 = .ok (.sipush 256, 3) := by decide +kernel
theorem dX6_solve_10 : decode cX6_solve 10 = .ok (.if_icmp .ge 33, 3) := by decide +kernel
theorem dX6_solve_13 : decode cX6_solve 13 = .ok (.aload_n 0, 1) := by decide +kernel
theorem dX6_solve_14 : decode cX6_solve 14 = .ok (.getfield 21, 3) := by decide +kernel
theorem dX6_solve_17 : decode cX6_solve 17 = .ok (.iload_n 3, 1) := by decide +kernel
theorem dX6_solve_18 : decode cX6_solve 18 = .ok (.iload_n 3, 1) := by decide +kernel
theorem dX6_solve_19 : decode cX6_solve 19 = .ok (.invokestatic 32, 3) := by decide +kernel
theorem dX6_solve_22 : decode cX6_solve 22 = .ok (.i2l, 1) := by decide +kernel
theorem dX6_solve_23 : decode cX6_solve 23 = .ok (.bipush 40, 2) := by decide +kernel
theorem dX6_solve_25 : decode cX6_solve 25 = .ok (.lshl, 1) := by decide +kernel
end
section
theorem dX6_solve_26 : decode cX6_solve 26 = .ok (.iconst 5, 1) := by decide +kernel
theorem dX6_solve_27 : decode cX6_solve 27 = .ok (.aload_n 0, 1) := by decide +kernel
theorem dX6_solve_28 : decode cX6_solve 28 = .ok (.getfield 18, 3) := by decide +kernel
theorem dX6_solve_31 : decode cX6_solve 31 = .ok (.iload_n 3, 1) := by decide +kernel
theorem dX6_solve_32 : decode cX6_solve 32 = .ok (.iaload, 1) := by decide +kernel
theorem dX6_solve_33 : decode cX6_solve 33 = .ok (.imul, 1) := by decide +kernel
theorem dX6_solve_34 : decode cX6_solve 34 = .ok (.i2l, 1) := by decide +kernel
theorem dX6_solve_35 : decode cX6_solve 35 = .ok (.ladd, 1) := by decide +kernel
theorem dX6_solve_36 : decode cX6_solve 36 = .ok (.lastore, 1) := by decide +kernel
theorem dX6_solve_37 : decode cX6_solve 37 = .ok (.iinc 3 1, 3) := by decide +kernel
theorem dX6_solve_40 : decode cX6_solve 40 = .ok (.goto (-34), 3) := by decide +kernel
theorem dX6_solve_43 : decode cX6_solve 43 = .ok (.iconst 0, 1) := by decide +kernel
theorem dX6_solve_44 : decode cX6_solve 44 = .ok (.istore_n 3, 1) := by decide +kernel
theorem dX6_solve_45 : decode cX6_solve 45 = .ok (.iload_n 3, 1) := by decide +kernel
theorem dX6_solve_46 : decode cX6_solve 46 = .ok (.aload_n 1, 1) := by decide +kernel
theorem dX6_solve_47 : decode cX6_solve 47 = .ok (.invokevirtual 37, 3) := by decide +kernel
theorem dX6_solve_50 : decode cX6_solve 50 = .ok (.if_icmp .ge 33, 3) := by decide +kernel
theorem dX6_solve_53 : decode cX6_solve 53 = .ok (.aload_n 1, 1) := by decide +kernel
theorem dX6_solve_54 : decode cX6_solve 54 = .ok (.iload_n 3, 1) := by decide +kernel
theorem dX6_solve_55 : decode cX6_solve 55 = .ok (.iload_n 2, 1) := by decide +kernel
theorem dX6_solve_56 : decode cX6_solve 56 = .ok (.invokevirtual 43, 3) := by decide +kernel
theorem dX6_solve_59 : decode cX6_solve 59 = .ok (.ifCond .eq 18, 3) := by decide +kernel
theorem dX6_solve_62 : decode cX6_solve 62 = .ok (.aload_n 0, 1) := by decide +kernel
theorem dX6_solve_63 : decode cX6_solve 63 = .ok (.iload_n 3, 1) := by decide +kernel
theorem dX6_solve_64 : decode cX6_solve 64 = .ok (.aload_n 1, 1) := by decide +kernel
theorem dX6_solve_65 : decode cX6_solve 65 = .ok (.iload_n 3, 1) := by decide +kernel
theorem dX6_solve_66 : decode cX6_solve 66 = .ok (.invokevirtual 47, 3) := by decide +kernel
theorem dX6_solve_69 : decode cX6_solve 69 = .ok (.aload_n 1, 1) := by decide +kernel
theorem dX6_solve_70 : decode cX6_solve 70 = .ok (.iload_n 3, 1) := by decide +kernel
theorem dX6_solve_71 : decode cX6_solve 71 = .ok (.invokevirtual 50, 3) := by decide +kernel
theorem dX6_solve_74 : decode cX6_solve 74 = .ok (.invokevirtual 53, 3) := by decide +kernel
theorem dX6_solve_77 : decode cX6_solve 77 = .ok (.iinc 3 1, 3) := by decide +kernel
theorem dX6_solve_80 : decode cX6_solve 80 = .ok (.goto (-35), 3) := by decide +kernel
theorem dX6_solve_83 : decode cX6_solve 83 = .ok (.aload_n 0, 1) := by decide +kernel
theorem dX6_solve_84 : decode cX6_solve 84 = .ok (.aload_n 0, 1) := by decide +kernel
theorem dX6_solve_85 : decode cX6_solve 85 = .ok (.getfield 21, 3) := by decide +kernel
theorem dX6_solve_88 : decode cX6_solve 88 = .ok (.aload_n 0, 1) := by decide +kernel
theorem dX6_solve_89 : decode cX6_solve 89 = .ok (.getfield 57, 3) := by decide +kernel
theorem dX6_solve_92 : decode cX6_solve 92 = .ok (.laload, 1) := by decide +kernel
theorem dX6_solve_93 : decode cX6_solve 93 = .ok (.putfield 61, 3) := by decide +kernel
theorem dX6_solve_96 : decode cX6_solve 96 = .ok (.return_, 1) := by decide +kernel
theorem dX6_needing_0 : decode cX6_needing 0 = .ok (.aload_n 0, 1) := by decide +kernel
theorem dX6_needing_1 : decode cX6_needing 1 = .ok (.getfield 57, 3) := by decide +kernel
theorem dX6_needing_4 : decode cX6_needing 4 = .ok (.invokestatic 32, 3) := by decide +kernel
theorem dX6_needing_7 : decode cX6_needing 7 = .ok (.ireturn, 1) := by decide +kernel
theorem dX6_withHand_0 : decode cX6_withHand 0 = .ok (.aload_n 0, 1) := by decide +kernel
theorem dX6_withHand_1 : decode cX6_withHand 1 = .ok (.invokevirtual 65, 3) := by decide +kernel
theorem dX6_withHand_4 : decode cX6_withHand 4 = .ok (.aload_n 0, 1) := by decide +kernel
theorem dX6_withHand_5 : decode cX6_withHand 5 = .ok (.getfield 61, 3) := by decide +kernel
theorem dX6_withHand_8 : decode cX6_withHand 8 = .ok (.bipush 40, 2) := by decide +kernel
theorem dX6_withHand_10 : decode cX6_withHand 10 = .ok (.lshr, 1) := by decide +kernel
theorem dX6_withHand_11 : decode cX6_withHand 11 = .ok (.l2i, 1) := by decide +kernel
theorem dX6_withHand_12 : decode cX6_withHand 12 = .ok (.isub, 1) := by decide +kernel
theorem dX6_withHand_13 : decode cX6_withHand 13 = .ok (.ireturn, 1) := by decide +kernel
theorem dX6_cost_0 : decode cX6_cost 0 = .ok (.aload_n 0, 1) := by decide +kernel
theorem dX6_cost_1 : decode cX6_cost 1 = .ok (.getfield 61, 3) := by decide +kernel
theorem dX6_cost_4 : decode cX6_cost 4 = .ok (.bipush 24, 2) := by decide +kernel
theorem dX6_cost_6 : decode cX6_cost 6 = .ok (.lshr, 1) := by decide +kernel
theorem dX6_cost_7 : decode cX6_cost 7 = .ok (.l2i, 1) := by decide +kernel
theorem dX6_cost_8 : decode cX6_cost 8 = .ok (.ldc 68, 2) := by decide +kernel
theorem dX6_cost_10 : decode cX6_cost 10 = .ok (.iand, 1) := by decide +kernel
theorem dX6_cost_11 : decode cX6_cost 11 = .ok (.ireturn, 1) := by decide +kernel
theorem dX6_handOf_0 : decode cX6_handOf 0 = .ok (.iload_n 1, 1) := by decide +kernel
theorem dX6_handOf_1 : decode cX6_handOf 1 = .ok (.ifCond .lt 20, 3) := by decide +kernel
theorem dX6_handOf_4 : decode cX6_handOf 4 = .ok (.iload_n 1, 1) := by decide +kernel
theorem dX6_handOf_5 : decode cX6_handOf 5 = .ok (.bipush 8, 2) := by decide +kernel
theorem dX6_handOf_7 : decode cX6_handOf 7 = .ok (.if_icmp .ge 14, 3) := by decide +kernel
theorem dX6_handOf_10 : decode cX6_handOf 10 = .ok (.aload_n 0, 1) := by decide +kernel
theorem dX6_handOf_11 : decode cX6_handOf 11 = .ok (.getfield 57, 3) := by decide +kernel
theorem dX6_handOf_14 : decode cX6_handOf 14 = .ok (.iload_n 1, 1) := by decide +kernel
theorem dX6_handOf_15 : decode cX6_handOf 15 = .ok (.ishr, 1) := by decide +kernel
theorem dX6_handOf_16 : decode cX6_handOf 16 = .ok (.iconst 1, 1) := by decide +kernel
theorem dX6_handOf_17 : decode cX6_handOf 17 = .ok (.iand, 1) := by decide +kernel
theorem dX6_handOf_18 : decode cX6_handOf 18 = .ok (.ifCond .ne 6, 3) := by decide +kernel
theorem dX6_handOf_21 : decode cX6_handOf 21 = .ok (.bipush (-5), 2) := by decide +kernel
theorem dX6_handOf_23 : decode cX6_handOf 23 = .ok (.ireturn, 1) := by decide +kernel
theorem dX6_handOf_24 : decode cX6_handOf 24 = .ok (.aload_n 0, 1) := by decide +kernel
theorem dX6_handOf_25 : decode cX6_handOf 25 = .ok (.getfield 61, 3) := by decide +kernel
theorem dX6_handOf_28 : decode cX6_handOf 28 = .ok (.iload_n 1, 1) := by decide +kernel
theorem dX6_handOf_29 : decode cX6_handOf 29 = .ok (.invokestatic 25, 3) := by decide +kernel
theorem dX6_handOf_32 : decode cX6_handOf 32 = .ok (.lshr, 1) := by decide +kernel
theorem dX6_handOf_33 : decode cX6_handOf 33 = .ok (.l2i, 1) := by decide +kernel
theorem dX6_handOf_34 : decode cX6_handOf 34 = .ok (.bipush 7, 2) := by decide +kernel
theorem dX6_handOf_36 : decode cX6_handOf 36 = .ok (.iand, 1) := by decide +kernel
theorem dX6_handOf_37 : decode cX6_handOf 37 = .ok (.istore_n 2, 1) := by decide +kernel
theorem dX6_handOf_38 : decode cX6_handOf 38 = .ok (.iload_n 2, 1) := by decide +kernel
theorem dX6_handOf_39 : decode cX6_handOf 39 = .ok (.iconst 5, 1) := by decide +kernel
theorem dX6_handOf_40 : decode cX6_handOf 40 = .ok (.if_icmp .ne 8, 3) := by decide +kernel
theorem dX6_handOf_43 : decode cX6_handOf 43 = .ok (.bipush (-5), 2) := by decide +kernel
theorem dX6_handOf_45 : decode cX6_handOf 45 = .ok (.goto 4, 3) := by decide +kernel
theorem dX6_handOf_48 : decode cX6_handOf 48 = .ok (.iload_n 2, 1) := by decide +kernel
theorem dX6_handOf_49 : decode cX6_handOf 49 = .ok (.ireturn, 1) := by decide +kernel
theorem dX6_measureSets_0 : decode cX6_measureSets 0 = .ok (.aload_n 0, 1) := by decide +kernel
theorem dX6_measureSets_1 : decode cX6_measureSets 1 = .ok (.iconst 0, 1) := by decide +kernel
theorem dX6_measureSets_2 : decode cX6_measureSets 2 = .ok (.putfield 57, 3) := by decide +kernel
theorem dX6_measureSets_5 : decode cX6_measureSets 5 = .ok (.iconst 0, 1) := by decide +kernel
theorem dX6_measureSets_6 : decode cX6_measureSets 6 = .ok (.istore_n 1, 1) := by decide +kernel
theorem dX6_measureSets_7 : decode cX6_measureSets 7 = .ok (.iload_n 1, 1) := by decide +kernel
theorem dX6_measureSets_8 : decode cX6_measureSets 8 = .ok (.bipush 8, 2) := by decide +kernel
theorem dX6_measureSets_10 : decode cX6_measureSets 10 = .ok (.if_icmp .ge 70, 3) := by decide +kernel
theorem dX6_measureSets_13 : decode cX6_measureSets 13 = .ok (.iconst 1, 1) := by decide +kernel
theorem dX6_measureSets_14 : decode cX6_measureSets 14 = .ok (.iload_n 1, 1) := by decide +kernel
theorem dX6_measureSets_15 : decode cX6_measureSets 15 = .ok (.ishl, 1) := by decide +kernel
theorem dX6_measureSets_16 : decode cX6_measureSets 16 = .ok (.istore_n 2, 1) := by decide +kernel
theorem dX6_measureSets_17 : decode cX6_measureSets 17 = .ok (.aload_n 0, 1) := by decide +kernel
theorem dX6_measureSets_18 : decode cX6_measureSets 18 = .ok (.dup, 1) := by decide +kernel
theorem dX6_measureSets_19 : decode cX6_measureSets 19 = .ok (.getfield 57, 3) := by decide +kernel
theorem dX6_measureSets_22 : decode cX6_measureSets 22 = .ok (.aload_n 0, 1) := by decide +kernel
theorem dX6_measureSets_23 : decode cX6_measureSets 23 = .ok (.getfield 9, 3) := by decide +kernel
theorem dX6_measureSets_26 : decode cX6_measureSets 26 = .ok (.iload_n 1, 1) := by decide +kernel
theorem dX6_measureSets_27 : decode cX6_measureSets 27 = .ok (.iaload, 1) := by decide +kernel
theorem dX6_measureSets_28 : decode cX6_measureSets 28 = .ok (.ifCond .le 7, 3) := by decide +kernel
theorem dX6_measureSets_31 : decode cX6_measureSets 31 = .ok (.iload_n 2, 1) := by decide +kernel
theorem dX6_measureSets_32 : decode cX6_measureSets 32 = .ok (.goto 4, 3) := by decide +kernel
theorem dX6_measureSets_35 : decode cX6_measureSets 35 = .ok (.iconst 0, 1) := by decide +kernel
theorem dX6_measureSets_36 : decode cX6_measureSets 36 = .ok (.iadd, 1) := by decide +kernel
theorem dX6_measureSets_37 : decode cX6_measureSets 37 = .ok (.putfield 57, 3) := by decide +kernel
theorem dX6_measureSets_40 : decode cX6_measureSets 40 = .ok (.iconst 0, 1) := by decide +kernel
theorem dX6_measureSets_41 : decode cX6_measureSets 41 = .ok (.istore_n 3, 1) := by decide +kernel
theorem dX6_measureSets_42 : decode cX6_measureSets 42 = .ok (.iload_n 3, 1) := by decide +kernel
theorem dX6_measureSets_43 : decode cX6_measureSets 43 = .ok (.iload_n 2, 1) := by decide +kernel
theorem dX6_measureSets_44 : decode cX6_measureSets 44 = .ok (.if_icmp .ge 30, 3) := by decide +kernel
theorem dX6_measureSets_47 : decode cX6_measureSets 47 = .ok (.aload_n 0, 1) := by decide +kernel
theorem dX6_measureSets_48 : decode cX6_measureSets 48 = .ok (.getfield 15, 3) := by decide +kernel
theorem dX6_measureSets_51 : decode cX6_measureSets 51 = .ok (.iload_n 2, 1) := by decide +kernel
theorem dX6_measureSets_52 : decode cX6_measureSets 52 = .ok (.iload_n 3, 1) := by decide +kernel
theorem dX6_measureSets_53 : decode cX6_measureSets 53 = .ok (.iadd, 1) := by decide +kernel
theorem dX6_measureSets_54 : decode cX6_measureSets 54 = .ok (.aload_n 0, 1) := by decide +kernel
theorem dX6_measureSets_55 : decode cX6_measureSets 55 = .ok (.getfield 15, 3) := by decide +kernel
theorem dX6_measureSets_58 : decode cX6_measureSets 58 = .ok (.iload_n 3, 1) := by decide +kernel
theorem dX6_measureSets_59 : decode cX6_measureSets 59 = .ok (.iaload, 1) := by decide +kernel
theorem dX6_measureSets_60 : decode cX6_measureSets 60 = .ok (.aload_n 0, 1) := by decide +kernel
theorem dX6_measureSets_61 : decode cX6_measureSets 61 = .ok (.getfield 9, 3) := by decide +kernel
theorem dX6_measureSets_64 : decode cX6_measureSets 64 = .ok (.iload_n 1, 1) := by decide +kernel
theorem dX6_measureSets_65 : decode cX6_measureSets 65 = .ok (.iaload, 1) := by decide +kernel
theorem dX6_measureSets_66 : decode cX6_measureSets 66 = .ok (.iadd, 1) := by decide +kernel
theorem dX6_measureSets_67 : decode cX6_measureSets 67 = .ok (.iastore, 1) := by decide +kernel
theorem dX6_measureSets_68 : decode cX6_measureSets 68 = .ok (.iinc 3 1, 3) := by decide +kernel
theorem dX6_measureSets_71 : decode cX6_measureSets 71 = .ok (.goto (-29), 3) := by decide +kernel
theorem dX6_measureSets_74 : decode cX6_measureSets 74 = .ok (.iinc 1 1, 3) := by decide +kernel
theorem dX6_measureSets_77 : decode cX6_measureSets 77 = .ok (.goto (-70), 3) := by decide +kernel
theorem dX6_measureSets_80 : decode cX6_measureSets 80 = .ok (.return_, 1) := by decide +kernel
theorem dX6_giveTo_0 : decode cX6_giveTo 0 = .ok (.aload_n 0, 1) := by decide +kernel
theorem dX6_giveTo_1 : decode cX6_giveTo 1 = .ok (.getfield 57, 3) := by decide +kernel
theorem dX6_giveTo_4 : decode cX6_giveTo 4 = .ok (.istore 4, 2) := by decide +kernel
theorem dX6_giveTo_6 : decode cX6_giveTo 6 = .ok (.iload 4, 2) := by decide +kernel
theorem dX6_giveTo_8 : decode cX6_giveTo 8 = .ok (.ifCond .le 113, 3) := by decide +kernel
theorem dX6_giveTo_11 : decode cX6_giveTo 11 = .ok (.aload_n 0, 1) := by decide +kernel
theorem dX6_giveTo_12 : decode cX6_giveTo 12 = .ok (.getfield 21, 3) := by decide +kernel
theorem dX6_giveTo_15 : decode cX6_giveTo 15 = .ok (.iload 4, 2) := by decide +kernel
theorem dX6_giveTo_17 : decode cX6_giveTo 17 = .ok (.laload, 1) := by decide +kernel
theorem dX6_giveTo_18 : decode cX6_giveTo 18 = .ok (.lstore 5, 2) := by decide +kernel
theorem dX6_giveTo_20 : decode cX6_giveTo 20 = .ok (.iload 4, 2) := by decide +kernel
theorem dX6_giveTo_22 : decode cX6_giveTo 22 = .ok (.istore 7, 2) := by decide +kernel
theorem dX6_giveTo_24 : decode cX6_giveTo 24 = .ok (.iload 7, 2) := by decide +kernel
theorem dX6_giveTo_26 : decode cX6_giveTo 26 = .ok (.ifCond .le 72, 3) := by decide +kernel
theorem dX6_giveTo_29 : decode cX6_giveTo 29 = .ok (.aload_n 0, 1) := by decide +kernel
theorem dX6_giveTo_30 : decode cX6_giveTo 30 = .ok (.getfield 15, 3) := by decide +kernel
theorem dX6_giveTo_33 : decode cX6_giveTo 33 = .ok (.iload 7, 2) := by decide +kernel
theorem dX6_giveTo_35 : decode cX6_giveTo 35 = .ok (.iaload, 1) := by decide +kernel
theorem dX6_giveTo_36 : decode cX6_giveTo 36 = .ok (.iload_n 2, 1) := by decide +kernel
theorem dX6_giveTo_37 : decode cX6_giveTo 37 = .ok (.if_icmp .gt 49, 3) := by decide +kernel
theorem dX6_giveTo_40 : decode cX6_giveTo 40 = .ok (.aload_n 0, 1) := by decide +kernel
theorem dX6_giveTo_41 : decode cX6_giveTo 41 = .ok (.getfield 15, 3) := by decide +kernel
theorem dX6_giveTo_44 : decode cX6_giveTo 44 = .ok (.iload 7, 2) := by decide +kernel
theorem dX6_giveTo_46 : decode cX6_giveTo 46 = .ok (.iaload, 1) := by decide +kernel
theorem dX6_giveTo_47 : decode cX6_giveTo 47 = .ok (.iload_n 3, 1) := by decide +kernel
theorem dX6_giveTo_48 : decode cX6_giveTo 48 = .ok (.imul, 1) := by decide +kernel
theorem dX6_giveTo_49 : decode cX6_giveTo 49 = .ok (.i2l, 1) := by decide +kernel
theorem dX6_giveTo_50 : decode cX6_giveTo 50 = .ok (.bipush 24, 2) := by decide +kernel
theorem dX6_giveTo_52 : decode cX6_giveTo 52 = .ok (.lshl, 1) := by decide +kernel
theorem dX6_giveTo_53 : decode cX6_giveTo 53 = .ok (.iload_n 1, 1) := by decide +kernel
theorem dX6_giveTo_54 : decode cX6_giveTo 54 = .ok (.aload_n 0, 1) := by decide +kernel
theorem dX6_giveTo_55 : decode cX6_giveTo 55 = .ok (.getfield 18, 3) := by decide +kernel
theorem dX6_giveTo_58 : decode cX6_giveTo 58 = .ok (.iload 7, 2) := by decide +kernel
theorem dX6_giveTo_60 : decode cX6_giveTo 60 = .ok (.iaload, 1) := by decide +kernel
theorem dX6_giveTo_61 : decode cX6_giveTo 61 = .ok (.imul, 1) := by decide +kernel
theorem dX6_giveTo_62 : decode cX6_giveTo 62 = .ok (.i2l, 1) := by decide +kernel
theorem dX6_giveTo_63 : decode cX6_giveTo 63 = .ok (.ladd, 1) := by decide +kernel
theorem dX6_giveTo_64 : decode cX6_giveTo 64 = .ok (.lstore 8, 2) := by decide +kernel
theorem dX6_giveTo_66 : decode cX6_giveTo 66 = .ok (.lload 5, 2) := by decide +kernel
theorem dX6_giveTo_68 : decode cX6_giveTo 68 = .ok (.aload_n 0, 1) := by decide +kernel
theorem dX6_giveTo_69 : decode cX6_giveTo 69 = .ok (.getfield 21, 3) := by decide +kernel
theorem dX6_giveTo_72 : decode cX6_giveTo 72 = .ok (.iload 4, 2) := by decide +kernel
theorem dX6_giveTo_74 : decode cX6_giveTo 74 = .ok (.iload 7, 2) := by decide +kernel
theorem dX6_giveTo_76 : decode cX6_giveTo 76 = .ok (.ixor, 1) := by decide +kernel
theorem dX6_giveTo_77 : decode cX6_giveTo 77 = .ok (.laload, 1) := by decide +kernel
theorem dX6_giveTo_78 : decode cX6_giveTo 78 = .ok (.lload 8, 2) := by decide +kernel
theorem dX6_giveTo_80 : decode cX6_giveTo 80 = .ok (.ladd, 1) := by decide +kernel
theorem dX6_giveTo_81 : decode cX6_giveTo 81 = .ok (.invokestatic 69, 3) := by decide +kernel
theorem dX6_giveTo_84 : decode cX6_giveTo 84 = .ok (.lstore 5, 2) := by decide +kernel
theorem dX6_giveTo_86 : decode cX6_giveTo 86 = .ok (.iload 7, 2) := by decide +kernel
theorem dX6_giveTo_88 : decode cX6_giveTo 88 = .ok (.iconst 1, 1) := by decide +kernel
theorem dX6_giveTo_89 : decode cX6_giveTo 89 = .ok (.isub, 1) := by decide +kernel
theorem dX6_giveTo_90 : decode cX6_giveTo 90 = .ok (.iload 4, 2) := by decide +kernel
theorem dX6_giveTo_92 : decode cX6_giveTo 92 = .ok (.iand, 1) := by decide +kernel
theorem dX6_giveTo_93 : decode cX6_giveTo 93 = .ok (.istore 7, 2) := by decide +kernel
theorem dX6_giveTo_95 : decode cX6_giveTo 95 = .ok (.goto (-71), 3) := by decide +kernel
theorem dX6_giveTo_98 : decode cX6_giveTo 98 = .ok (.aload_n 0, 1) := by decide +kernel
theorem dX6_giveTo_99 : decode cX6_giveTo 99 = .ok (.getfield 21, 3) := by decide +kernel
theorem dX6_giveTo_102 : decode cX6_giveTo 102 = .ok (.iload 4, 2) := by decide +kernel
theorem dX6_giveTo_104 : decode cX6_giveTo 104 = .ok (.lload 5, 2) := by decide +kernel
theorem dX6_giveTo_106 : decode cX6_giveTo 106 = .ok (.lastore, 1) := by decide +kernel
theorem dX6_giveTo_107 : decode cX6_giveTo 107 = .ok (.iload 4, 2) := by decide +kernel
theorem dX6_giveTo_109 : decode cX6_giveTo 109 = .ok (.iconst 1, 1) := by decide +kernel
theorem dX6_giveTo_110 : decode cX6_giveTo 110 = .ok (.isub, 1) := by decide +kernel
theorem dX6_giveTo_111 : decode cX6_giveTo 111 = .ok (.aload_n 0, 1) := by decide +kernel
theorem dX6_giveTo_112 : decode cX6_giveTo 112 = .ok (.getfield 57, 3) := by decide +kernel
theorem dX6_giveTo_115 : decode cX6_giveTo 115 = .ok (.iand, 1) := by decide +kernel
theorem dX6_giveTo_116 : decode cX6_giveTo 116 = .ok (.istore 4, 2) := by decide +kernel
theorem dX6_giveTo_118 : decode cX6_giveTo 118 = .ok (.goto (-112), 3) := by decide +kernel
theorem dX6_giveTo_121 : decode cX6_giveTo 121 = .ok (.return_, 1) := by decide +kernel
theorem dX6_shiftOf_0 : decode cX6_shiftOf 0 = .ok (.iconst 3, 1) := by decide +kernel
theorem dX6_shiftOf_1 : decode cX6_shiftOf 1 = .ok (.bipush 7, 2) := by decide +kernel
theorem dX6_shiftOf_3 : decode cX6_shiftOf 3 = .ok (.iload_n 0, 1) := by decide +kernel
theorem dX6_shiftOf_4 : decode cX6_shiftOf 4 = .ok (.isub, 1) := by decide +kernel
theorem dX6_shiftOf_5 : decode cX6_shiftOf 5 = .ok (.imul, 1) := by decide +kernel
theorem dX6_shiftOf_6 : decode cX6_shiftOf 6 = .ok (.ireturn, 1) := by decide +kernel
theorem dX7_init_0 : decode cX7_init 0 = .ok (.aload_n 0, 1) := by decide +kernel
theorem dX7_init_1 : decode cX7_init 1 = .ok (.invokespecial 3, 3) := by decide +kernel
theorem dX7_init_4 : decode cX7_init 4 = .ok (.aload_n 0, 1) := by decide +kernel
theorem dX7_init_5 : decode cX7_init 5 = .ok (.bipush 10, 2) := by decide +kernel
theorem dX7_init_7 : decode cX7_init 7 = .ok (.newarray .int, 2) := by decide +kernel
theorem dX7_init_9 : decode cX7_init 9 = .ok (.putfield 9, 3) := by decide +kernel
theorem dX7_init_12 : decode cX7_init 12 = .ok (.return_, 1) := by decide +kernel
theorem dX7_size_0 : decode cX7_size 0 = .ok (.aload_n 0, 1) := by decide +kernel
theorem dX7_size_1 : decode cX7_size 1 = .ok (.getfield 15, 3) := by decide +kernel
theorem dX7_size_4 : decode cX7_size 4 = .ok (.ireturn, 1) := by decide +kernel
theorem dX7_isFull_0 : decode cX7_isFull 0 = .ok (.aload_n 0, 1) := by decide +kernel
theorem dX7_isFull_1 : decode cX7_isFull 1 = .ok (.getfield 15, 3) := by decide +kernel
theorem dX7_isFull_4 : decode cX7_isFull 4 = .ok (.bipush 10, 2) := by decide +kernel
theorem dX7_isFull_6 : decode cX7_isFull 6 = .ok (.if_icmp .lt 7, 3) := by decide +kernel
theorem dX7_isFull_9 : decode cX7_isFull 9 = .ok (.iconst 1, 1) := by decide +kernel
theorem dX7_isFull_10 : decode cX7_isFull 10 = .ok (.goto 4, 3) := by decide +kernel
theorem dX7_isFull_13 : decode cX7_isFull 13 = .ok (.iconst 0, 1) := by decide +kernel
theorem dX7_isFull_14 : decode cX7_isFull 14 = .ok (.ireturn, 1) := by decide +kernel
theorem dX7_at_0 : decode cX7_at 0 = .ok (.iload_n 1, 1) := by decide +kernel
theorem dX7_at_1 : decode cX7_at 1 = .ok (.ifCond .lt 20, 3) := by decide +kernel
theorem dX7_at_4 : decode cX7_at 4 = .ok (.iload_n 1, 1) := by decide +kernel
theorem dX7_at_5 : decode cX7_at 5 = .ok (.aload_n 0, 1) := by decide +kernel
theorem dX7_at_6 : decode cX7_at 6 = .ok (.getfield 15, 3) := by decide +kernel
theorem dX7_at_9 : decode cX7_at 9 = .ok (.if_icmp .ge 12, 3) := by decide +kernel
theorem dX7_at_12 : decode cX7_at 12 = .ok (.aload_n 0, 1) := by decide +kernel
theorem dX7_at_13 : decode cX7_at 13 = .ok (.getfield 9, 3) := by decide +kernel
theorem dX7_at_16 : decode cX7_at 16 = .ok (.iload_n 1, 1) := by decide +kernel
theorem dX7_at_17 : decode cX7_at 17 = .ok (.iaload, 1) := by decide +kernel
theorem dX7_at_18 : decode cX7_at 18 = .ok (.goto 4, 3) := by decide +kernel
theorem dX7_at_21 : decode cX7_at 21 = .ok (.iconst (-1), 1) := by decide +kernel
theorem dX7_at_22 : decode cX7_at 22 = .ok (.ireturn, 1) := by decide +kernel
theorem dX7_askedFor_0 : decode cX7_askedFor 0 = .ok (.iload_n 1, 1) := by decide +kernel
theorem dX7_askedFor_1 : decode cX7_askedFor 1 = .ok (.iload_n 2, 1) := by decide +kernel
theorem dX7_askedFor_2 : decode cX7_askedFor 2 = .ok (.if_icmp .ge 7, 3) := by decide +kernel
theorem dX7_askedFor_5 : decode cX7_askedFor 5 = .ok (.iconst (-1), 1) := by decide +kernel
theorem dX7_askedFor_6 : decode cX7_askedFor 6 = .ok (.goto 10, 3) := by decide +kernel
theorem dX7_askedFor_9 : decode cX7_askedFor 9 = .ok (.aload_n 0, 1) := by decide +kernel
theorem dX7_askedFor_10 : decode cX7_askedFor 10 = .ok (.iload_n 1, 1) := by decide +kernel
theorem dX7_askedFor_11 : decode cX7_askedFor 11 = .ok (.iload_n 2, 1) := by decide +kernel
theorem dX7_askedFor_12 : decode cX7_askedFor 12 = .ok (.isub, 1) := by decide +kernel
theorem dX7_askedFor_13 : decode cX7_askedFor 13 = .ok (.invokevirtual 19, 3) := by decide +kernel
theorem dX7_askedFor_16 : decode cX7_askedFor 16 = .ok (.ireturn, 1) := by decide +kernel
theorem dX7_add_0 : decode cX7_add 0 = .ok (.aload_n 0, 1) := by decide +kernel
theorem dX7_add_1 : decode cX7_add 1 = .ok (.invokevirtual 23, 3) := by decide +kernel
theorem dX7_add_4 : decode cX7_add 4 = .ok (.ifCond .ne 23, 3) := by decide +kernel
theorem dX7_add_7 : decode cX7_add 7 = .ok (.aload_n 0, 1) := by decide +kernel
theorem dX7_add_8 : decode cX7_add 8 = .ok (.getfield 9, 3) := by decide +kernel
theorem dX7_add_11 : decode cX7_add 11 = .ok (.aload_n 0, 1) := by decide +kernel
theorem dX7_add_12 : decode cX7_add 12 = .ok (.getfield 15, 3) := by decide +kernel
theorem dX7_add_15 : decode cX7_add 15 = .ok (.iload_n 1, 1) := by decide +kernel
theorem dX7_add_16 : decode cX7_add 16 = .ok (.iastore, 1) := by decide +kernel
theorem dX7_add_17 : decode cX7_add 17 = .ok (.aload_n 0, 1) := by decide +kernel
theorem dX7_add_18 : decode cX7_add 18 = .ok (.dup, 1) := by decide +kernel
theorem dX7_add_19 : decode cX7_add 19 = .ok (.getfield 15, 3) := by decide +kernel
theorem dX7_add_22 : decode cX7_add 22 = .ok (.iconst 1, 1) := by decide +kernel
theorem dX7_add_23 : decode cX7_add 23 = .ok (.iadd, 1) := by decide +kernel
theorem dX7_add_24 : decode cX7_add 24 = .ok (.putfield 15, 3) := by decide +kernel
theorem dX7_add_27 : decode cX7_add 27 = .ok (.return_, 1) := by decide +kernel
theorem dX7_clear_0 : decode cX7_clear 0 = .ok (.aload_n 0, 1) := by decide +kernel
theorem dX7_clear_1 : decode cX7_clear 1 = .ok (.iconst 0, 1) := by decide +kernel
theorem dX7_clear_2 : decode cX7_clear 2 = .ok (.putfield 15, 3) := by decide +kernel
theorem dX7_clear_5 : decode cX7_clear 5 = .ok (.return_, 1) := by decide +kernel
theorem dX7_copy_0 : decode cX7_copy 0 = .ok (.aload_n 0, 1) := by decide +kernel
theorem dX7_copy_1 : decode cX7_copy 1 = .ok (.aload_n 1, 1) := by decide +kernel
theorem dX7_copy_2 : decode cX7_copy 2 = .ok (.getfield 15, 3) := by decide +kernel
theorem dX7_copy_5 : decode cX7_copy 5 = .ok (.putfield 15, 3) := by decide +kernel
theorem dX7_copy_8 : decode cX7_copy 8 = .ok (.iconst 0, 1) := by decide +kernel
theorem dX7_copy_9 : decode cX7_copy 9 = .ok (.istore_n 2, 1) := by decide +kernel
theorem dX7_copy_10 : decode cX7_copy 10 = .ok (.iload_n 2, 1) := by decide +kernel
theorem dX7_copy_11 : decode cX7_copy 11 = .ok (.aload_n 0, 1) := by decide +kernel
theorem dX7_copy_12 : decode cX7_copy 12 = .ok (.getfield 15, 3) := by decide +kernel
theorem dX7_copy_15 : decode cX7_copy 15 = .ok (.if_icmp .ge 21, 3) := by decide +kernel
theorem dX7_copy_18 : decode cX7_copy 18 = .ok (.aload_n 0, 1) := by decide +kernel
theorem dX7_copy_19 : decode cX7_copy 19 = .ok (.getfield 9, 3) := by decide +kernel
theorem dX7_copy_22 : decode cX7_copy 22 = .ok (.iload_n 2, 1) := by decide +kernel
theorem dX7_copy_23 : decode cX7_copy 23 = .ok (.aload_n 1, 1) := by decide +kernel
theorem dX7_copy_24 : decode cX7_copy 24 = .ok (.getfield 9, 3) := by decide +kernel
theorem dX7_copy_27 : decode cX7_copy 27 = .ok (.iload_n 2, 1) := by decide +kernel
theorem dX7_copy_28 : decode cX7_copy 28 = .ok (.iaload, 1) := by decide +kernel
theorem dX7_copy_29 : decode cX7_copy 29 = .ok (.iastore, 1) := by decide +kernel
theorem dX7_copy_30 : decode cX7_copy 30 = .ok (.iinc 2 1, 3) := by decide +kernel
theorem dX7_copy_33 : decode cX7_copy 33 = .ok (.goto (-23), 3) := by decide +kernel
theorem dX7_copy_36 : decode cX7_copy 36 = .ok (.return_, 1) := by decide +kernel
theorem dX7_isSameAs_0 : decode cX7_isSameAs 0 = .ok (.aload_n 0, 1) := by decide +kernel
theorem dX7_isSameAs_1 : decode cX7_isSameAs 1 = .ok (.getfield 15, 3) := by decide +kernel
theorem dX7_isSameAs_4 : decode cX7_isSameAs 4 = .ok (.aload_n 1, 1) := by decide +kernel
theorem dX7_isSameAs_5 : decode cX7_isSameAs 5 = .ok (.getfield 15, 3) := by decide +kernel
theorem dX7_isSameAs_8 : decode cX7_isSameAs 8 = .ok (.if_icmp .eq 5, 3) := by decide +kernel
theorem dX7_isSameAs_11 : decode cX7_isSameAs 11 = .ok (.iconst 0, 1) := by decide +kernel
theorem dX7_isSameAs_12 : decode cX7_isSameAs 12 = .ok (.ireturn, 1) := by decide +kernel
theorem dX7_isSameAs_13 : decode cX7_isSameAs 13 = .ok (.iconst 0, 1) := by decide +kernel
theorem dX7_isSameAs_14 : decode cX7_isSameAs 14 = .ok (.istore_n 2, 1) := by decide +kernel
theorem dX7_isSameAs_15 : decode cX7_isSameAs 15 = .ok (.iload_n 2, 1) := by decide +kernel
theorem dX7_isSameAs_16 : decode cX7_isSameAs 16 = .ok (.aload_n 0, 1) := by decide +kernel
theorem dX7_isSameAs_17 : decode cX7_isSameAs 17 = .ok (.getfield 15, 3) := by decide +kernel
theorem dX7_isSameAs_20 : decode cX7_isSameAs 20 = .ok (.if_icmp .ge 26, 3) := by decide +kernel
theorem dX7_isSameAs_23 : decode cX7_isSameAs 23 = .ok (.aload_n 0, 1) := by decide +kernel
theorem dX7_isSameAs_24 : decode cX7_isSameAs 24 = .ok (.getfield 9, 3) := by decide +kernel
theorem dX7_isSameAs_27 : decode cX7_isSameAs 27 = .ok (.iload_n 2, 1) := by decide +kernel
theorem dX7_isSameAs_28 : decode cX7_isSameAs 28 = .ok (.iaload, 1) := by decide +kernel
theorem dX7_isSameAs_29 : decode cX7_isSameAs 29 = .ok (.aload_n 1, 1) := by decide +kernel
theorem dX7_isSameAs_30 : decode cX7_isSameAs 30 = .ok (.getfield 9, 3) := by decide +kernel
theorem dX7_isSameAs_33 : decode cX7_isSameAs 33 = .ok (.iload_n 2, 1) := by decide +kernel
theorem dX7_isSameAs_34 : decode cX7_isSameAs 34 = .ok (.iaload, 1) := by decide +kernel
theorem dX7_isSameAs_35 : decode cX7_isSameAs 35 = .ok (.if_icmp .eq 5, 3) := by decide +kernel
theorem dX7_isSameAs_38 : decode cX7_isSameAs 38 = .ok (.iconst 0, 1) := by decide +kernel
theorem dX7_isSameAs_39 : decode cX7_isSameAs 39 = .ok (.ireturn, 1) := by decide +kernel
theorem dX7_isSameAs_40 : decode cX7_isSameAs 40 = .ok (.iinc 2 1, 3) := by decide +kernel
theorem dX7_isSameAs_43 : decode cX7_isSameAs 43 = .ok (.goto (-28), 3) := by decide +kernel
theorem dX7_isSameAs_46 : decode cX7_isSameAs 46 = .ok (.iconst 1, 1) := by decide +kernel
theorem dX7_isSameAs_47 : decode cX7_isSameAs 47 = .ok (.ireturn, 1) := by decide +kernel
theorem dX7_timesOf_0 : decode cX7_timesOf 0 = .ok (.iconst 0, 1) := by decide +kernel
theorem dX7_timesOf_1 : decode cX7_timesOf 1 = .ok (.istore_n 2, 1) := by decide +kernel
theorem dX7_timesOf_2 : decode cX7_timesOf 2 = .ok (.iconst 0, 1) := by decide +kernel
theorem dX7_timesOf_3 : decode cX7_timesOf 3 = .ok (.istore_n 3, 1) := by decide +kernel
theorem dX7_timesOf_4 : decode cX7_timesOf 4 = .ok (.iload_n 3, 1) := by decide +kernel
theorem dX7_timesOf_5 : decode cX7_timesOf 5 = .ok (.aload_n 0, 1) := by decide +kernel
theorem dX7_timesOf_6 : decode cX7_timesOf 6 = .ok (.getfield 15, 3) := by decide +kernel
theorem dX7_timesOf_9 : decode cX7_timesOf 9 = .ok (.if_icmp .ge 22, 3) := by decide +kernel
theorem dX7_timesOf_12 : decode cX7_timesOf 12 = .ok (.aload_n 0, 1) := by decide +kernel
theorem dX7_timesOf_13 : decode cX7_timesOf 13 = .ok (.getfield 9, 3) := by decide +kernel
theorem dX7_timesOf_16 : decode cX7_timesOf 16 = .ok (.iload_n 3, 1) := by decide +kernel
theorem dX7_timesOf_17 : decode cX7_timesOf 17 = .ok (.iaload, 1) := by decide +kernel
theorem dX7_timesOf_18 : decode cX7_timesOf 18 = .ok (.iload_n 1, 1) := by decide +kernel
theorem dX7_timesOf_19 : decode cX7_timesOf 19 = .ok (.if_icmp .ne 6, 3) := by decide +kernel
theorem dX7_timesOf_22 : decode cX7_timesOf 22 = .ok (.iinc 2 1, 3) := by decide +kernel
theorem dX7_timesOf_25 : decode cX7_timesOf 25 = .ok (.iinc 3 1, 3) := by decide +kernel
theorem dX7_timesOf_28 : decode cX7_timesOf 28 = .ok (.goto (-24), 3) := by decide +kernel
theorem dX7_timesOf_31 : decode cX7_timesOf 31 = .ok (.iload_n 2, 1) := by decide +kernel
theorem dX7_timesOf_32 : decode cX7_timesOf 32 = .ok (.ireturn, 1) := by decide +kernel
theorem dX7_holdsAny_0 : decode cX7_holdsAny 0 = .ok (.iconst 0, 1) := by decide +kernel
theorem dX7_holdsAny_1 : decode cX7_holdsAny 1 = .ok (.istore_n 3, 1) := by decide +kernel
theorem dX7_holdsAny_2 : decode cX7_holdsAny 2 = .ok (.iload_n 3, 1) := by decide +kernel
theorem dX7_holdsAny_3 : decode cX7_holdsAny 3 = .ok (.aload_n 0, 1) := by decide +kernel
theorem dX7_holdsAny_4 : decode cX7_holdsAny 4 = .ok (.getfield 15, 3) := by decide +kernel
theorem dX7_holdsAny_7 : decode cX7_holdsAny 7 = .ok (.if_icmp .ge 29, 3) := by decide +kernel
theorem dX7_holdsAny_10 : decode cX7_holdsAny 10 = .ok (.aload_n 0, 1) := by decide +kernel
theorem dX7_holdsAny_11 : decode cX7_holdsAny 11 = .ok (.getfield 9, 3) := by decide +kernel
theorem dX7_holdsAny_14 : decode cX7_holdsAny 14 = .ok (.iload_n 3, 1) := by decide +kernel
theorem dX7_holdsAny_15 : decode cX7_holdsAny 15 = .ok (.iaload, 1) := by decide +kernel
theorem dX7_holdsAny_16 : decode cX7_holdsAny 16 = .ok (.iload_n 1, 1) := by decide +kernel
theorem dX7_holdsAny_17 : decode cX7_holdsAny 17 = .ok (.iload_n 1, 1) := by decide +kernel
theorem dX7_holdsAny_18 : decode cX7_holdsAny 18 = .ok (.iload_n 2, 1) := by decide +kernel
theorem dX7_holdsAny_19 : decode cX7_holdsAny 19 = .ok (.iadd, 1) := by decide +kernel
theorem dX7_holdsAny_20 : decode cX7_holdsAny 20 = .ok (.iconst 1, 1) := by decide +kernel
theorem dX7_holdsAny_21 : decode cX7_holdsAny 21 = .ok (.isub, 1) := by decide +kernel
theorem dX7_holdsAny_22 : decode cX7_holdsAny 22 = .ok (.invokestatic 27, 3) := by decide +kernel
theorem dX7_holdsAny_25 : decode cX7_holdsAny 25 = .ok (.ifCond .eq 5, 3) := by decide +kernel
theorem dX7_holdsAny_28 : decode cX7_holdsAny 28 = .ok (.iconst 1, 1) := by decide +kernel
theorem dX7_holdsAny_29 : decode cX7_holdsAny 29 = .ok (.ireturn, 1) := by decide +kernel
theorem dX7_holdsAny_30 : decode cX7_holdsAny 30 = .ok (.iinc 3 1, 3) := by decide +kernel
theorem dX7_holdsAny_33 : decode cX7_holdsAny 33 = .ok (.goto (-31), 3) := by decide +kernel
theorem dX7_holdsAny_36 : decode cX7_holdsAny 36 = .ok (.iconst 0, 1) := by decide +kernel
theorem dX7_holdsAny_37 : decode cX7_holdsAny 37 = .ok (.ireturn, 1) := by decide +kernel
theorem dX8_init_0 : decode cX8_init 0 = .ok (.aload_n 0, 1) := by decide +kernel
theorem dX8_init_1 : decode cX8_init 1 = .ok (.invokespecial 3, 3) := by decide +kernel
theorem dX8_init_4 : decode cX8_init 4 = .ok (.aload_n 0, 1) := by decide +kernel
theorem dX8_init_5 : decode cX8_init 5 = .ok (.bipush 11, 2) := by decide +kernel
theorem dX8_init_7 : decode cX8_init 7 = .ok (.newarray .int, 2) := by decide +kernel
theorem dX8_init_9 : decode cX8_init 9 = .ok (.putfield 9, 3) := by decide +kernel
theorem dX8_init_12 : decode cX8_init 12 = .ok (.return_, 1) := by decide +kernel
theorem dX8_between_0 : decode cX8_between 0 = .ok (.iconst 0, 1) := by decide +kernel
theorem dX8_between_1 : decode cX8_between 1 = .ok (.istore_n 3, 1) := by decide +kernel
theorem dX8_between_2 : decode cX8_between 2 = .ok (.iload_n 3, 1) := by decide +kernel
theorem dX8_between_3 : decode cX8_between 3 = .ok (.aload_n 2, 1) := by decide +kernel
theorem dX8_between_4 : decode cX8_between 4 = .ok (.invokevirtual 15, 3) := by decide +kernel
theorem dX8_between_7 : decode cX8_between 7 = .ok (.if_icmp .gt 16, 3) := by decide +kernel
theorem dX8_between_10 : decode cX8_between 10 = .ok (.aload_n 0, 1) := by decide +kernel
theorem dX8_between_11 : decode cX8_between 11 = .ok (.getfield 9, 3) := by decide +kernel
theorem dX8_between_14 : decode cX8_between 14 = .ok (.iload_n 3, 1) := by decide +kernel
theorem dX8_between_15 : decode cX8_between 15 = .ok (.iload_n 3, 1) := by decide +kernel
theorem dX8_between_16 : decode cX8_between 16 = .ok (.iastore, 1) := by decide +kernel
theorem dX8_between_17 : decode cX8_between 17 = .ok (.iinc 3 1, 3) := by decide +kernel
theorem dX8_between_20 : decode cX8_between 20 = .ok (.goto (-18), 3) := by decide +kernel
theorem dX8_between_23 : decode cX8_between 23 = .ok (.iconst 1, 1) := by decide +kernel
theorem dX8_between_24 : decode cX8_between 24 = .ok (.istore_n 3, 1) := by decide +kernel
theorem dX8_between_25 : decode cX8_between 25 = .ok (.iload_n 3, 1) := by decide +kernel
theorem dX8_between_26 : decode cX8_between 26 = .ok (.aload_n 1, 1) := by decide +kernel
theorem dX8_between_27 : decode cX8_between 27 = .ok (.invokevirtual 15, 3) := by decide +kernel
theorem dX8_between_30 : decode cX8_between 30 = .ok (.if_icmp .gt 112, 3) := by decide +kernel
theorem dX8_between_33 : decode cX8_between 33 = .ok (.aload_n 0, 1) := by decide +kernel
theorem dX8_between_34 : decode cX8_between 34 = .ok (.getfield 9, 3) := by decide +kernel
theorem dX8_between_37 : decode cX8_between 37 = .ok (.iconst 0, 1) := by decide +kernel
theorem dX8_between_38 : decode cX8_between 38 = .ok (.iaload, 1) := by decide +kernel
theorem dX8_between_39 : decode cX8_between 39 = .ok (.istore 4, 2) := by decide +kernel
theorem dX8_between_41 : decode cX8_between 41 = .ok (.aload_n 0, 1) := by decide +kernel
theorem dX8_between_42 : decode cX8_between 42 = .ok (.getfield 9, 3) := by decide +kernel
theorem dX8_between_45 : decode cX8_between 45 = .ok (.iconst 0, 1) := by decide +kernel
theorem dX8_between_46 : decode cX8_between 46 = .ok (.iload_n 3, 1) := by decide +kernel
theorem dX8_between_47 : decode cX8_between 47 = .ok (.iastore, 1) := by decide +kernel
theorem dX8_between_48 : decode cX8_between 48 = .ok (.iconst 1, 1) := by decide +kernel
theorem dX8_between_49 : decode cX8_between 49 = .ok (.istore 5, 2) := by decide +kernel
theorem dX8_between_51 : decode cX8_between 51 = .ok (.iload 5, 2) := by decide +kernel
theorem dX8_between_53 : decode cX8_between 53 = .ok (.aload_n 2, 1) := by decide +kernel
theorem dX8_between_54 : decode cX8_between 54 = .ok (.invokevirtual 15, 3) := by decide +kernel
theorem dX8_between_57 : decode cX8_between 57 = .ok (.if_icmp .gt 79, 3) := by decide +kernel
theorem dX8_between_60 : decode cX8_between 60 = .ok (.aload_n 0, 1) := by decide +kernel
theorem dX8_between_61 : decode cX8_between 61 = .ok (.getfield 9, 3) := by decide +kernel
theorem dX8_between_64 : decode cX8_between 64 = .ok (.iload 5, 2) := by decide +kernel
theorem dX8_between_66 : decode cX8_between 66 = .ok (.iaload, 1) := by decide +kernel
theorem dX8_between_67 : decode cX8_between 67 = .ok (.istore 6, 2) := by decide +kernel
theorem dX8_between_69 : decode cX8_between 69 = .ok (.aload_n 1, 1) := by decide +kernel
theorem dX8_between_70 : decode cX8_between 70 = .ok (.iload_n 3, 1) := by decide +kernel
theorem dX8_between_71 : decode cX8_between 71 = .ok (.iconst 1, 1) := by decide +kernel
theorem dX8_between_72 : decode cX8_between 72 = .ok (.isub, 1) := by decide +kernel
theorem dX8_between_73 : decode cX8_between 73 = .ok (.invokevirtual 21, 3) := by decide +kernel
theorem dX8_between_76 : decode cX8_between 76 = .ok (.aload_n 2, 1) := by decide +kernel
theorem dX8_between_77 : decode cX8_between 77 = .ok (.iload 5, 2) := by decide +kernel
theorem dX8_between_79 : decode cX8_between 79 = .ok (.iconst 1, 1) := by decide +kernel
theorem dX8_between_80 : decode cX8_between 80 = .ok (.isub, 1) := by decide +kernel
theorem dX8_between_81 : decode cX8_between 81 = .ok (.invokevirtual 21, 3) := by decide +kernel
theorem dX8_between_84 : decode cX8_between 84 = .ok (.if_icmp .ne 8, 3) := by decide +kernel
theorem dX8_between_87 : decode cX8_between 87 = .ok (.iload 4, 2) := by decide +kernel
theorem dX8_between_89 : decode cX8_between 89 = .ok (.goto 7, 3) := by decide +kernel
theorem dX8_between_92 : decode cX8_between 92 = .ok (.iload 4, 2) := by decide +kernel
theorem dX8_between_94 : decode cX8_between 94 = .ok (.iconst 1, 1) := by decide +kernel
theorem dX8_between_95 : decode cX8_between 95 = .ok (.iadd, 1) := by decide +kernel
theorem dX8_between_96 : decode cX8_between 96 = .ok (.istore 7, 2) := by decide +kernel
theorem dX8_between_98 : decode cX8_between 98 = .ok (.aload_n 0, 1) := by decide +kernel
theorem dX8_between_99 : decode cX8_between 99 = .ok (.getfield 9, 3) := by decide +kernel
theorem dX8_between_102 : decode cX8_between 102 = .ok (.iload 5, 2) := by decide +kernel
theorem dX8_between_104 : decode cX8_between 104 = .ok (.iload 7, 2) := by decide +kernel
theorem dX8_between_106 : decode cX8_between 106 = .ok (.iload 6, 2) := by decide +kernel
theorem dX8_between_108 : decode cX8_between 108 = .ok (.aload_n 0, 1) := by decide +kernel
theorem dX8_between_109 : decode cX8_between 109 = .ok (.getfield 9, 3) := by decide +kernel
theorem dX8_between_112 : decode cX8_between 112 = .ok (.iload 5, 2) := by decide +kernel
theorem dX8_between_114 : decode cX8_between 114 = .ok (.iconst 1, 1) := by decide +kernel
theorem dX8_between_115 : decode cX8_between 115 = .ok (.isub, 1) := by decide +kernel
theorem dX8_between_116 : decode cX8_between 116 = .ok (.iaload, 1) := by decide +kernel
theorem dX8_between_117 : decode cX8_between 117 = .ok (.invokestatic 25, 3) := by decide +kernel
theorem dX8_between_120 : decode cX8_between 120 = .ok (.iconst 1, 1) := by decide +kernel
theorem dX8_between_121 : decode cX8_between 121 = .ok (.iadd, 1) := by decide +kernel
theorem dX8_between_122 : decode cX8_between 122 = .ok (.invokestatic 25, 3) := by decide +kernel
theorem dX8_between_125 : decode cX8_between 125 = .ok (.iastore, 1) := by decide +kernel
theorem dX8_between_126 : decode cX8_between 126 = .ok (.iload 6, 2) := by decide +kernel
theorem dX8_between_128 : decode cX8_between 128 = .ok (.istore 4, 2) := by decide +kernel
theorem dX8_between_130 : decode cX8_between 130 = .ok (.iinc 5 1, 3) := by decide +kernel
theorem dX8_between_133 : decode cX8_between 133 = .ok (.goto (-82), 3) := by decide +kernel
theorem dX8_between_136 : decode cX8_between 136 = .ok (.iinc 3 1, 3) := by decide +kernel
theorem dX8_between_139 : decode cX8_between 139 = .ok (.goto (-114), 3) := by decide +kernel
theorem dX8_between_142 : decode cX8_between 142 = .ok (.aload_n 0, 1) := by decide +kernel
theorem dX8_between_143 : decode cX8_between 143 = .ok (.getfield 9, 3) := by decide +kernel
theorem dX8_between_146 : decode cX8_between 146 = .ok (.aload_n 2, 1) := by decide +kernel
theorem dX8_between_147 : decode cX8_between 147 = .ok (.invokevirtual 15, 3) := by decide +kernel
theorem dX8_between_150 : decode cX8_between 150 = .ok (.iaload, 1) := by decide +kernel
theorem dX8_between_151 : decode cX8_between 151 = .ok (.ireturn, 1) := by decide +kernel
theorem dX9_init_0 : decode cX9_init 0 = .ok (.aload_n 0, 1) := by decide +kernel
theorem dX9_init_1 : decode cX9_init 1 = .ok (.invokespecial 3, 3) := by decide +kernel
theorem dX9_init_4 : decode cX9_init 4 = .ok (.aload_n 0, 1) := by decide +kernel
theorem dX9_init_5 : decode cX9_init 5 = .ok (.iconst 3, 1) := by decide +kernel
theorem dX9_init_6 : decode cX9_init 6 = .ok (.bipush 100, 2) := by decide +kernel
theorem dX9_init_8 : decode cX9_init 8 = .ok (.multianewarray 9 2, 4) := by decide +kernel
theorem dX9_init_12 : decode cX9_init 12 = .ok (.putfield 11, 3) := by decide +kernel
theorem dX9_init_15 : decode cX9_init 15 = .ok (.return_, 1) := by decide +kernel
theorem dX9_count_0 : decode cX9_count 0 = .ok (.aload_n 0, 1) := by decide +kernel
theorem dX9_count_1 : decode cX9_count 1 = .ok (.getfield 16, 3) := by decide +kernel
theorem dX9_count_4 : decode cX9_count 4 = .ok (.ireturn, 1) := by decide +kernel
theorem dX9_isFull_0 : decode cX9_isFull 0 = .ok (.aload_n 0, 1) := by decide +kernel
theorem dX9_isFull_1 : decode cX9_isFull 1 = .ok (.getfield 16, 3) := by decide +kernel
theorem dX9_isFull_4 : decode cX9_isFull 4 = .ok (.bipush 10, 2) := by decide +kernel
theorem dX9_isFull_6 : decode cX9_isFull 6 = .ok (.if_icmp .lt 7, 3) := by decide +kernel
theorem dX9_isFull_9 : decode cX9_isFull 9 = .ok (.iconst 1, 1) := by decide +kernel
theorem dX9_isFull_10 : decode cX9_isFull 10 = .ok (.goto 4, 3) := by decide +kernel
theorem dX9_isFull_13 : decode cX9_isFull 13 = .ok (.iconst 0, 1) := by decide +kernel
theorem dX9_isFull_14 : decode cX9_isFull 14 = .ok (.ireturn, 1) := by decide +kernel
theorem dX9_ownWordOf_0 : decode cX9_ownWordOf 0 = .ok (.iload_n 1, 1) := by decide +kernel
theorem dX9_ownWordOf_1 : decode cX9_ownWordOf 1 = .ok (.invokestatic 20, 3) := by decide +kernel
theorem dX9_ownWordOf_4 : decode cX9_ownWordOf 4 = .ok (.ifCond .eq 21, 3) := by decide +kernel
theorem dX9_ownWordOf_7 : decode cX9_ownWordOf 7 = .ok (.iload_n 2, 1) := by decide +kernel
theorem dX9_ownWordOf_8 : decode cX9_ownWordOf 8 = .ok (.invokestatic 24, 3) := by decide +kernel
theorem dX9_ownWordOf_11 : decode cX9_ownWordOf 11 = .ok (.ifCond .eq 14, 3) := by decide +kernel
theorem dX9_ownWordOf_14 : decode cX9_ownWordOf 14 = .ok (.aload_n 0, 1) := by decide +kernel
theorem dX9_ownWordOf_15 : decode cX9_ownWordOf 15 = .ok (.getfield 11, 3) := by decide +kernel
theorem dX9_ownWordOf_18 : decode cX9_ownWordOf 18 = .ok (.iload_n 2, 1) := by decide +kernel
theorem dX9_ownWordOf_19 : decode cX9_ownWordOf 19 = .ok (.aaload, 1) := by decide +kernel
theorem dX9_ownWordOf_20 : decode cX9_ownWordOf 20 = .ok (.iload_n 1, 1) := by decide +kernel
theorem dX9_ownWordOf_21 : decode cX9_ownWordOf 21 = .ok (.iaload, 1) := by decide +kernel
theorem dX9_ownWordOf_22 : decode cX9_ownWordOf 22 = .ok (.goto 4, 3) := by decide +kernel
theorem dX9_ownWordOf_25 : decode cX9_ownWordOf 25 = .ok (.iconst 0, 1) := by decide +kernel
theorem dX9_ownWordOf_26 : decode cX9_ownWordOf 26 = .ok (.ireturn, 1) := by decide +kernel
theorem dX9_has_0 : decode cX9_has 0 = .ok (.aload_n 0, 1) := by decide +kernel
theorem dX9_has_1 : decode cX9_has 1 = .ok (.iload_n 1, 1) := by decide +kernel
theorem dX9_has_2 : decode cX9_has 2 = .ok (.iload_n 2, 1) := by decide +kernel
theorem dX9_has_3 : decode cX9_has 3 = .ok (.invokevirtual 27, 3) := by decide +kernel
theorem dX9_has_6 : decode cX9_has 6 = .ok (.ifCond .eq 7, 3) := by decide +kernel
theorem dX9_has_9 : decode cX9_has 9 = .ok (.iconst 1, 1) := by decide +kernel
theorem dX9_has_10 : decode cX9_has 10 = .ok (.goto 4, 3) := by decide +kernel
theorem dX9_has_13 : decode cX9_has 13 = .ok (.iconst 0, 1) := by decide +kernel
theorem dX9_has_14 : decode cX9_has 14 = .ok (.ireturn, 1) := by decide +kernel
theorem dX9_put_0 : decode cX9_put 0 = .ok (.iload_n 1, 1) := by decide +kernel
theorem dX9_put_1 : decode cX9_put 1 = .ok (.invokestatic 20, 3) := by decide +kernel
theorem dX9_put_4 : decode cX9_put 4 = .ok (.ifCond .eq 42, 3) := by decide +kernel
theorem dX9_put_7 : decode cX9_put 7 = .ok (.iload_n 2, 1) := by decide +kernel
theorem dX9_put_8 : decode cX9_put 8 = .ok (.invokestatic 24, 3) := by decide +kernel
theorem dX9_put_11 : decode cX9_put 11 = .ok (.ifCond .eq 35, 3) := by decide +kernel
theorem dX9_put_14 : decode cX9_put 14 = .ok (.aload_n 0, 1) := by decide +kernel
theorem dX9_put_15 : decode cX9_put 15 = .ok (.dup, 1) := by decide +kernel
theorem dX9_put_16 : decode cX9_put 16 = .ok (.getfield 16, 3) := by decide +kernel
theorem dX9_put_19 : decode cX9_put 19 = .ok (.aload_n 0, 1) := by decide +kernel
theorem dX9_put_20 : decode cX9_put 20 = .ok (.iload_n 1, 1) := by decide +kernel
theorem dX9_put_21 : decode cX9_put 21 = .ok (.iload_n 2, 1) := by decide +kernel
theorem dX9_put_22 : decode cX9_put 22 = .ok (.invokevirtual 31, 3) := by decide +kernel
theorem dX9_put_25 : decode cX9_put 25 = .ok (.ifCond .eq 7, 3) := by decide +kernel
theorem dX9_put_28 : decode cX9_put 28 = .ok (.iconst 0, 1) := by decide +kernel
theorem dX9_put_29 : decode cX9_put 29 = .ok (.goto 4, 3) := by decide +kernel
theorem dX9_put_32 : decode cX9_put 32 = .ok (.iconst 1, 1) := by decide +kernel
theorem dX9_put_33 : decode cX9_put 33 = .ok (.iadd, 1) := by decide +kernel
theorem dX9_put_34 : decode cX9_put 34 = .ok (.putfield 16, 3) := by decide +kernel
theorem dX9_put_37 : decode cX9_put 37 = .ok (.aload_n 0, 1) := by decide +kernel
theorem dX9_put_38 : decode cX9_put 38 = .ok (.getfield 11, 3) := by decide +kernel
theorem dX9_put_41 : decode cX9_put 41 = .ok (.iload_n 2, 1) := by decide +kernel
theorem dX9_put_42 : decode cX9_put 42 = .ok (.aaload, 1) := by decide +kernel
theorem dX9_put_43 : decode cX9_put 43 = .ok (.iload_n 1, 1) := by decide +kernel
theorem dX9_put_44 : decode cX9_put 44 = .ok (.iload_n 3, 1) := by decide +kernel
theorem dX9_put_45 : decode cX9_put 45 = .ok (.iastore, 1) := by decide +kernel
theorem dX9_put_46 : decode cX9_put 46 = .ok (.return_, 1) := by decide +kernel
theorem dX9_remove_0 : decode cX9_remove 0 = .ok (.aload_n 0, 1) := by decide +kernel
theorem dX9_remove_1 : decode cX9_remove 1 = .ok (.iload_n 1, 1) := by decide +kernel
theorem dX9_remove_2 : decode cX9_remove 2 = .ok (.iload_n 2, 1) := by decide +kernel
theorem dX9_remove_3 : decode cX9_remove 3 = .ok (.invokevirtual 31, 3) := by decide +kernel
theorem dX9_remove_6 : decode cX9_remove 6 = .ok (.ifCond .eq 22, 3) := by decide +kernel
theorem dX9_remove_9 : decode cX9_remove 9 = .ok (.aload_n 0, 1) := by decide +kernel
theorem dX9_remove_10 : decode cX9_remove 10 = .ok (.getfield 11, 3) := by decide +kernel
theorem dX9_remove_13 : decode cX9_remove 13 = .ok (.iload_n 2, 1) := by decide +kernel
theorem dX9_remove_14 : decode cX9_remove 14 = .ok (.aaload, 1) := by decide +kernel
theorem dX9_remove_15 : decode cX9_remove 15 = .ok (.iload_n 1, 1) := by decide +kernel
theorem dX9_remove_16 : decode cX9_remove 16 = .ok (.iconst 0, 1) := by decide +kernel
theorem dX9_remove_17 : decode cX9_remove 17 = .ok (.iastore, 1) := by decide +kernel
theorem dX9_remove_18 : decode cX9_remove 18 = .ok (.aload_n 0, 1) := by decide +kernel
theorem dX9_remove_19 : decode cX9_remove 19 = .ok (.dup, 1) := by decide +kernel
theorem dX9_remove_20 : decode cX9_remove 20 = .ok (.getfield 16, 3) := by decide +kernel
theorem dX9_remove_23 : decode cX9_remove 23 = .ok (.iconst 1, 1) := by decide +kernel
theorem dX9_remove_24 : decode cX9_remove 24 = .ok (.isub, 1) := by decide +kernel
theorem dX9_remove_25 : decode cX9_remove 25 = .ok (.putfield 16, 3) := by decide +kernel
theorem dX9_remove_28 : decode cX9_remove 28 = .ok (.return_, 1) := by decide +kernel
theorem dX10_init_0 : decode cX10_init 0 = .ok (.aload_n 0, 1) := by decide +kernel
theorem dX10_init_1 : decode cX10_init 1 = .ok (.invokespecial 3, 3) := by decide +kernel
theorem dX10_init_4 : decode cX10_init 4 = .ok (.aload_n 0, 1) := by decide +kernel
theorem dX10_init_5 : decode cX10_init 5 = .ok (.new 9, 3) := by decide +kernel
theorem dX10_init_8 : decode cX10_init 8 = .ok (.dup, 1) := by decide +kernel
theorem dX10_init_9 : decode cX10_init 9 = .ok (.invokespecial 11, 3) := by decide +kernel
theorem dX10_init_12 : decode cX10_init 12 = .ok (.putfield 12, 3) := by decide +kernel
theorem dX10_init_15 : decode cX10_init 15 = .ok (.aload_n 0, 1) := by decide +kernel
theorem dX10_init_16 : decode cX10_init 16 = .ok (.iconst 0, 1) := by decide +kernel
theorem dX10_init_17 : decode cX10_init 17 = .ok (.putfield 18, 3) := by decide +kernel
theorem dX10_init_20 : decode cX10_init 20 = .ok (.aload_n 0, 1) := by decide +kernel
theorem dX10_init_21 : decode cX10_init 21 = .ok (.bipush (-5), 2) := by decide +kernel
theorem dX10_init_23 : decode cX10_init 23 = .ok (.putfield 22, 3) := by decide +kernel
theorem dX10_init_26 : decode cX10_init 26 = .ok (.return_, 1) := by decide +kernel
theorem dX10_signs_0 : decode cX10_signs 0 = .ok (.aload_n 0, 1) := by decide +kernel
theorem dX10_signs_1 : decode cX10_signs 1 = .ok (.getfield 12, 3) := by decide +kernel
theorem dX10_signs_4 : decode cX10_signs 4 = .ok (.areturn, 1) := by decide +kernel
theorem dX10_state_0 : decode cX10_state 0 = .ok (.aload_n 0, 1) := by decide +kernel
theorem dX10_state_1 : decode cX10_state 1 = .ok (.getfield 18, 3) := by decide +kernel
theorem dX10_state_4 : decode cX10_state 4 = .ok (.ireturn, 1) := by decide +kernel
theorem dX10_writer_0 : decode cX10_writer 0 = .ok (.aload_n 0, 1) := by decide +kernel
theorem dX10_writer_1 : decode cX10_writer 1 = .ok (.getfield 22, 3) := by decide +kernel
theorem dX10_writer_4 : decode cX10_writer 4 = .ok (.ireturn, 1) := by decide +kernel
theorem dX10_waitsForReview_0 : decode cX10_waitsForReview 0 = .ok (.aload_n 0, 1) := by decide +kernel
theorem dX10_waitsForReview_1 : decode cX10_waitsForReview 1 = .ok (.getfield 18, 3) := by decide +kernel
theorem dX10_waitsForReview_4 : decode cX10_waitsForReview 4 = .ok (.iconst 1, 1) := by decide +kernel
theorem dX10_waitsForReview_5 : decode cX10_waitsForReview 5 = .ok (.if_icmp .eq 11, 3) := by decide +kernel
theorem dX10_waitsForReview_8 : decode cX10_waitsForReview 8 = .ok (.aload_n 0, 1) := by decide +kernel
theorem dX10_waitsForReview_9 : decode cX10_waitsForReview 9 = .ok (.getfield 18, 3) := by decide +kernel
theorem dX10_waitsForReview_12 : decode cX10_waitsForReview 12 = .ok (.iconst 3, 1) := by decide +kernel
theorem dX10_waitsForReview_13 : decode cX10_waitsForReview 13 = .ok (.if_icmp .ne 7, 3) := by decide +kernel
theorem dX10_waitsForReview_16 : decode cX10_waitsForReview 16 = .ok (.iconst 1, 1) := by decide +kernel
theorem dX10_waitsForReview_17 : decode cX10_waitsForReview 17 = .ok (.goto 4, 3) := by decide +kernel
theorem dX10_waitsForReview_20 : decode cX10_waitsForReview 20 = .ok (.iconst 0, 1) := by decide +kernel
theorem dX10_waitsForReview_21 : decode cX10_waitsForReview 21 = .ok (.ireturn, 1) := by decide +kernel
theorem dX10_becomeDraft_0 : decode cX10_becomeDraft 0 = .ok (.aload_n 0, 1) := by decide +kernel
theorem dX10_becomeDraft_1 : decode cX10_becomeDraft 1 = .ok (.getfield 12, 3) := by decide +kernel
theorem dX10_becomeDraft_4 : decode cX10_becomeDraft 4 = .ok (.aload_n 1, 1) := by decide +kernel
theorem dX10_becomeDraft_5 : decode cX10_becomeDraft 5 = .ok (.invokevirtual 25, 3) := by decide +kernel
theorem dX10_becomeDraft_8 : decode cX10_becomeDraft 8 = .ok (.aload_n 0, 1) := by decide +kernel
theorem dX10_becomeDraft_9 : decode cX10_becomeDraft 9 = .ok (.iload_n 2, 1) := by decide +kernel
theorem dX10_becomeDraft_10 : decode cX10_becomeDraft 10 = .ok (.putfield 22, 3) := by decide +kernel
theorem dX10_becomeDraft_13 : decode cX10_becomeDraft 13 = .ok (.aload_n 0, 1) := by decide +kernel
theorem dX10_becomeDraft_14 : decode cX10_becomeDraft 14 = .ok (.iconst 1, 1) := by decide +kernel
theorem dX10_becomeDraft_15 : decode cX10_becomeDraft 15 = .ok (.putfield 18, 3) := by decide +kernel
theorem dX10_becomeDraft_18 : decode cX10_becomeDraft 18 = .ok (.return_, 1) := by decide +kernel
theorem dX10_becomeReviewed_0 : decode cX10_becomeReviewed 0 = .ok (.aload_n 0, 1) := by decide +kernel
theorem dX10_becomeReviewed_1 : decode cX10_becomeReviewed 1 = .ok (.iconst 2, 1) := by decide +kernel
theorem dX10_becomeReviewed_2 : decode cX10_becomeReviewed 2 = .ok (.putfield 18, 3) := by decide +kernel
theorem dX10_becomeReviewed_5 : decode cX10_becomeReviewed 5 = .ok (.return_, 1) := by decide +kernel
theorem dX10_becomeDoubtful_0 : decode cX10_becomeDoubtful 0 = .ok (.aload_n 0, 1) := by decide +kernel
theorem dX10_becomeDoubtful_1 : decode cX10_becomeDoubtful 1 = .ok (.getfield 18, 3) := by decide +kernel
theorem dX10_becomeDoubtful_4 : decode cX10_becomeDoubtful 4 = .ok (.ifCond .eq 8, 3) := by decide +kernel
theorem dX10_becomeDoubtful_7 : decode cX10_becomeDoubtful 7 = .ok (.aload_n 0, 1) := by decide +kernel
theorem dX10_becomeDoubtful_8 : decode cX10_becomeDoubtful 8 = .ok (.iconst 3, 1) := by decide +kernel
theorem dX10_becomeDoubtful_9 : decode cX10_becomeDoubtful 9 = .ok (.putfield 18, 3) := by decide +kernel
theorem dX10_becomeDoubtful_12 : decode cX10_becomeDoubtful 12 = .ok (.return_, 1) := by decide +kernel
theorem dX10_clear_0 : decode cX10_clear 0 = .ok (.aload_n 0, 1) := by decide +kernel
theorem dX10_clear_1 : decode cX10_clear 1 = .ok (.getfield 12, 3) := by decide +kernel
theorem dX10_clear_4 : decode cX10_clear 4 = .ok (.invokevirtual 29, 3) := by decide +kernel
theorem dX10_clear_7 : decode cX10_clear 7 = .ok (.aload_n 0, 1) := by decide +kernel
theorem dX10_clear_8 : decode cX10_clear 8 = .ok (.bipush (-5), 2) := by decide +kernel
theorem dX10_clear_10 : decode cX10_clear 10 = .ok (.putfield 22, 3) := by decide +kernel
theorem dX10_clear_13 : decode cX10_clear 13 = .ok (.aload_n 0, 1) := by decide +kernel
theorem dX10_clear_14 : decode cX10_clear 14 = .ok (.iconst 0, 1) := by decide +kernel
theorem dX10_clear_15 : decode cX10_clear 15 = .ok (.putfield 18, 3) := by decide +kernel
theorem dX10_clear_18 : decode cX10_clear 18 = .ok (.return_, 1) := by decide +kernel
theorem dX10_copy_0 : decode cX10_copy 0 = .ok (.aload_n 0, 1) := by decide +kernel
theorem dX10_copy_1 : decode cX10_copy 1 = .ok (.getfield 12, 3) := by decide +kernel
theorem dX10_copy_4 : decode cX10_copy 4 = .ok (.aload_n 1, 1) := by decide +kernel
theorem dX10_copy_5 : decode cX10_copy 5 = .ok (.getfield 12, 3) := by decide +kernel
theorem dX10_copy_8 : decode cX10_copy 8 = .ok (.invokevirtual 25, 3) := by decide +kernel
theorem dX10_copy_11 : decode cX10_copy 11 = .ok (.aload_n 0, 1) := by decide +kernel
theorem dX10_copy_12 : decode cX10_copy 12 = .ok (.aload_n 1, 1) := by decide +kernel
theorem dX10_copy_13 : decode cX10_copy 13 = .ok (.getfield 22, 3) := by decide +kernel
theorem dX10_copy_16 : decode cX10_copy 16 = .ok (.putfield 22, 3) := by decide +kernel
theorem dX10_copy_19 : decode cX10_copy 19 = .ok (.aload_n 0, 1) := by decide +kernel
theorem dX10_copy_20 : decode cX10_copy 20 = .ok (.aload_n 1, 1) := by decide +kernel
theorem dX10_copy_21 : decode cX10_copy 21 = .ok (.getfield 18, 3) := by decide +kernel
theorem dX10_copy_24 : decode cX10_copy 24 = .ok (.putfield 18, 3) := by decide +kernel
theorem dX10_copy_27 : decode cX10_copy 27 = .ok (.return_, 1) := by decide +kernel
theorem dX11_init_0 : decode cX11_init 0 = .ok (.aload_n 0, 1) := by decide +kernel
theorem dX11_init_1 : decode cX11_init 1 = .ok (.invokespecial 3, 3) := by decide +kernel
theorem dX11_init_4 : decode cX11_init 4 = .ok (.aload_n 0, 1) := by decide +kernel
theorem dX11_init_5 : decode cX11_init 5 = .ok (.new 9, 3) := by decide +kernel
theorem dX11_init_8 : decode cX11_init 8 = .ok (.dup, 1) := by decide +kernel
theorem dX11_init_9 : decode cX11_init 9 = .ok (.invokespecial 11, 3) := by decide +kernel
theorem dX11_init_12 : decode cX11_init 12 = .ok (.putfield 12, 3) := by decide +kernel
theorem dX11_init_15 : decode cX11_init 15 = .ok (.aload_n 0, 1) := by decide +kernel
theorem dX11_init_16 : decode cX11_init 16 = .ok (.new 16, 3) := by decide +kernel
theorem dX11_init_19 : decode cX11_init 19 = .ok (.dup, 1) := by decide +kernel
theorem dX11_init_20 : decode cX11_init 20 = .ok (.invokespecial 18, 3) := by decide +kernel
theorem dX11_init_23 : decode cX11_init 23 = .ok (.putfield 19, 3) := by decide +kernel
theorem dX11_init_26 : decode cX11_init 26 = .ok (.aload_n 0, 1) := by decide +kernel
theorem dX11_init_27 : decode cX11_init 27 = .ok (.new 23, 3) := by decide +kernel
theorem dX11_init_30 : decode cX11_init 30 = .ok (.dup, 1) := by decide +kernel
theorem dX11_init_31 : decode cX11_init 31 = .ok (.invokespecial 25, 3) := by decide +kernel
theorem dX11_init_34 : decode cX11_init 34 = .ok (.putfield 26, 3) := by decide +kernel
theorem dX11_init_37 : decode cX11_init 37 = .ok (.aload_n 0, 1) := by decide +kernel
theorem dX11_init_38 : decode cX11_init 38 = .ok (.new 30, 3) := by decide +kernel
theorem dX11_init_41 : decode cX11_init 41 = .ok (.dup, 1) := by decide +kernel
theorem dX11_init_42 : decode cX11_init 42 = .ok (.invokespecial 32, 3) := by decide +kernel
theorem dX11_init_45 : decode cX11_init 45 = .ok (.putfield 33, 3) := by decide +kernel
theorem dX11_init_48 : decode cX11_init 48 = .ok (.aload_n 0, 1) := by decide +kernel
theorem dX11_init_49 : decode cX11_init 49 = .ok (.new 37, 3) := by decide +kernel
theorem dX11_init_52 : decode cX11_init 52 = .ok (.dup, 1) := by decide +kernel
theorem dX11_init_53 : decode cX11_init 53 = .ok (.invokespecial 39, 3) := by decide +kernel
theorem dX11_init_56 : decode cX11_init 56 = .ok (.putfield 40, 3) := by decide +kernel
theorem dX11_init_59 : decode cX11_init 59 = .ok (.aload_n 0, 1) := by decide +kernel
theorem dX11_init_60 : decode cX11_init 60 = .ok (.new 44, 3) := by decide +kernel
theorem dX11_init_63 : decode cX11_init 63 = .ok (.dup, 1) := by decide +kernel
theorem dX11_init_64 : decode cX11_init 64 = .ok (.invokespecial 46, 3) := by decide +kernel
theorem dX11_init_67 : decode cX11_init 67 = .ok (.putfield 47, 3) := by decide +kernel
theorem dX11_init_70 : decode cX11_init 70 = .ok (.aload_n 0, 1) := by decide +kernel
theorem dX11_init_71 : decode cX11_init 71 = .ok (.new 51, 3) := by decide +kernel
theorem dX11_init_74 : decode cX11_init 74 = .ok (.dup, 1) := by decide +kernel
theorem dX11_init_75 : decode cX11_init 75 = .ok (.invokespecial 53, 3) := by decide +kernel
theorem dX11_init_78 : decode cX11_init 78 = .ok (.putfield 54, 3) := by decide +kernel
theorem dX11_init_81 : decode cX11_init 81 = .ok (.aload_n 0, 1) := by decide +kernel
theorem dX11_init_82 : decode cX11_init 82 = .ok (.new 51, 3) := by decide +kernel
theorem dX11_init_85 : decode cX11_init 85 = .ok (.dup, 1) := by decide +kernel
theorem dX11_init_86 : decode cX11_init 86 = .ok (.invokespecial 53, 3) := by decide +kernel
theorem dX11_init_89 : decode cX11_init 89 = .ok (.putfield 58, 3) := by decide +kernel
theorem dX11_init_92 : decode cX11_init 92 = .ok (.aload_n 0, 1) := by decide +kernel
theorem dX11_init_93 : decode cX11_init 93 = .ok (.new 61, 3) := by decide +kernel
theorem dX11_init_96 : decode cX11_init 96 = .ok (.dup, 1) := by decide +kernel
theorem dX11_init_97 : decode cX11_init 97 = .ok (.invokespecial 63, 3) := by decide +kernel
theorem dX11_init_100 : decode cX11_init 100 = .ok (.putfield 64, 3) := by decide +kernel
theorem dX11_init_103 : decode cX11_init 103 = .ok (.aload_n 0, 1) := by decide +kernel
theorem dX11_init_104 : decode cX11_init 104 = .ok (.new 61, 3) := by decide +kernel
theorem dX11_init_107 : decode cX11_init 107 = .ok (.dup, 1) := by decide +kernel
theorem dX11_init_108 : decode cX11_init 108 = .ok (.invokespecial 63, 3) := by decide +kernel
theorem dX11_init_111 : decode cX11_init 111 = .ok (.putfield 68, 3) := by decide +kernel
theorem dX11_init_114 : decode cX11_init 114 = .ok (.aload_n 0, 1) := by decide +kernel
theorem dX11_init_115 : decode cX11_init 115 = .ok (.new 61, 3) := by decide +kernel
theorem dX11_init_118 : decode cX11_init 118 = .ok (.dup, 1) := by decide +kernel
theorem dX11_init_119 : decode cX11_init 119 = .ok (.invokespecial 63, 3) := by decide +kernel
theorem dX11_init_122 : decode cX11_init 122 = .ok (.putfield 71, 3) := by decide +kernel
theorem dX11_init_125 : decode cX11_init 125 = .ok (.aload_n 0, 1) := by decide +kernel
theorem dX11_init_126 : decode cX11_init 126 = .ok (.bipush 6, 2) := by decide +kernel
theorem dX11_init_128 : decode cX11_init 128 = .ok (.putfield 74, 3) := by decide +kernel
theorem dX11_init_131 : decode cX11_init 131 = .ok (.aload_n 0, 1) := by decide +kernel
theorem dX11_init_132 : decode cX11_init 132 = .ok (.iconst 0, 1) := by decide +kernel
theorem dX11_init_133 : decode cX11_init 133 = .ok (.putfield 78, 3) := by decide +kernel
theorem dX11_init_136 : decode cX11_init 136 = .ok (.return_, 1) := by decide +kernel
theorem dX11_sign_0 : decode cX11_sign 0 = .ok (.iload_n 1, 1) := by decide +kernel
theorem dX11_sign_1 : decode cX11_sign 1 = .ok (.invokestatic 82, 3) := by decide +kernel
theorem dX11_sign_4 : decode cX11_sign 4 = .ok (.ifCond .ne 5, 3) := by decide +kernel
theorem dX11_sign_7 : decode cX11_sign 7 = .ok (.iconst (-1), 1) := by decide +kernel
theorem dX11_sign_8 : decode cX11_sign 8 = .ok (.ireturn, 1) := by decide +kernel
theorem dX11_sign_9 : decode cX11_sign 9 = .ok (.aload_n 0, 1) := by decide +kernel
theorem dX11_sign_10 : decode cX11_sign 10 = .ok (.getfield 12, 3) := by decide +kernel
theorem dX11_sign_13 : decode cX11_sign 13 = .ok (.invokevirtual 86, 3) := by decide +kernel
theorem dX11_sign_16 : decode cX11_sign 16 = .ok (.ifCond .eq 6, 3) := by decide +kernel
theorem dX11_sign_19 : decode cX11_sign 19 = .ok (.bipush (-2), 2) := by decide +kernel
theorem dX11_sign_21 : decode cX11_sign 21 = .ok (.ireturn, 1) := by decide +kernel
theorem dX11_sign_22 : decode cX11_sign 22 = .ok (.aload_n 0, 1) := by decide +kernel
theorem dX11_sign_23 : decode cX11_sign 23 = .ok (.getfield 12, 3) := by decide +kernel
theorem dX11_sign_26 : decode cX11_sign 26 = .ok (.iload_n 1, 1) := by decide +kernel
theorem dX11_sign_27 : decode cX11_sign 27 = .ok (.invokevirtual 90, 3) := by decide +kernel
theorem dX11_sign_30 : decode cX11_sign 30 = .ok (.aload_n 0, 1) := by decide +kernel
theorem dX11_sign_31 : decode cX11_sign 31 = .ok (.getfield 12, 3) := by decide +kernel
theorem dX11_sign_34 : decode cX11_sign 34 = .ok (.invokevirtual 94, 3) := by decide +kernel
theorem dX11_sign_37 : decode cX11_sign 37 = .ok (.ireturn, 1) := by decide +kernel
theorem dX11_scrap_0 : decode cX11_scrap 0 = .ok (.aload_n 0, 1) := by decide +kernel
theorem dX11_scrap_1 : decode cX11_scrap 1 = .ok (.getfield 12, 3) := by decide +kernel
theorem dX11_scrap_4 : decode cX11_scrap 4 = .ok (.invokevirtual 94, 3) := by decide +kernel
theorem dX11_scrap_7 : decode cX11_scrap 7 = .ok (.istore_n 1, 1) := by decide +kernel
theorem dX11_scrap_8 : decode cX11_scrap 8 = .ok (.aload_n 0, 1) := by decide +kernel
theorem dX11_scrap_9 : decode cX11_scrap 9 = .ok (.getfield 12, 3) := by decide +kernel
theorem dX11_scrap_12 : decode cX11_scrap 12 = .ok (.invokevirtual 98, 3) := by decide +kernel
theorem dX11_scrap_15 : decode cX11_scrap 15 = .ok (.iload_n 1, 1) := by decide +kernel
theorem dX11_scrap_16 : decode cX11_scrap 16 = .ok (.ireturn, 1) := by decide +kernel
theorem dX11_piece_0 : decode cX11_piece 0 = .ok (.iload_n 1, 1) := by decide +kernel
theorem dX11_piece_1 : decode cX11_piece 1 = .ok (.iconst 0, 1) := by decide +kernel
theorem dX11_piece_2 : decode cX11_piece 2 = .ok (.iconst 2, 1) := by decide +kernel
theorem dX11_piece_3 : decode cX11_piece 3 = .ok (.invokestatic 101, 3) := by decide +kernel
theorem dX11_piece_6 : decode cX11_piece 6 = .ok (.ifCond .ne 5, 3) := by decide +kernel
theorem dX11_piece_9 : decode cX11_piece 9 = .ok (.iconst (-1), 1) := by decide +kernel
theorem dX11_piece_10 : decode cX11_piece 10 = .ok (.ireturn, 1) := by decide +kernel
theorem dX11_piece_11 : decode cX11_piece 11 = .ok (.aload_n 0, 1) := by decide +kernel
theorem dX11_piece_12 : decode cX11_piece 12 = .ok (.getfield 12, 3) := by decide +kernel
theorem dX11_piece_15 : decode cX11_piece 15 = .ok (.invokevirtual 94, 3) := by decide +kernel
theorem dX11_piece_18 : decode cX11_piece 18 = .ok (.iconst 1, 1) := by decide +kernel
theorem dX11_piece_19 : decode cX11_piece 19 = .ok (.bipush 8, 2) := by decide +kernel
theorem dX11_piece_21 : decode cX11_piece 21 = .ok (.invokestatic 101, 3) := by decide +kernel
theorem dX11_piece_24 : decode cX11_piece 24 = .ok (.ifCond .ne 6, 3) := by decide +kernel
theorem dX11_piece_27 : decode cX11_piece 27 = .ok (.bipush (-6), 2) := by decide +kernel
theorem dX11_piece_29 : decode cX11_piece 29 = .ok (.ireturn, 1) := by decide +kernel
theorem dX11_piece_30 : decode cX11_piece 30 = .ok (.aload_n 0, 1) := by decide +kernel
theorem dX11_piece_31 : decode cX11_piece 31 = .ok (.getfield 12, 3) := by decide +kernel
theorem dX11_piece_34 : decode cX11_piece 34 = .ok (.sipush 200, 3) := by decide +kernel
theorem dX11_piece_37 : decode cX11_piece 37 = .ok (.bipush 100, 2) := by decide +kernel
theorem dX11_piece_39 : decode cX11_piece 39 = .ok (.invokevirtual 105, 3) := by decide +kernel
theorem dX11_piece_42 : decode cX11_piece 42 = .ok (.ifCond .eq 6, 3) := by decide +kernel
theorem dX11_piece_45 : decode cX11_piece 45 = .ok (.bipush (-3), 2) := by decide +kernel
theorem dX11_piece_47 : decode cX11_piece 47 = .ok (.ireturn, 1) := by decide +kernel
theorem dX11_piece_48 : decode cX11_piece 48 = .ok (.aload_n 0, 1) := by decide +kernel
theorem dX11_piece_49 : decode cX11_piece 49 = .ok (.getfield 71, 3) := by decide +kernel
theorem dX11_piece_52 : decode cX11_piece 52 = .ok (.invokevirtual 109, 3) := by decide +kernel
theorem dX11_piece_55 : decode cX11_piece 55 = .ok (.ifCond .eq 6, 3) := by decide +kernel
theorem dX11_piece_58 : decode cX11_piece 58 = .ok (.bipush (-2), 2) := by decide +kernel
theorem dX11_piece_60 : decode cX11_piece 60 = .ok (.ireturn, 1) := by decide +kernel
theorem dX11_piece_61 : decode cX11_piece 61 = .ok (.aload_n 0, 1) := by decide +kernel
theorem dX11_piece_62 : decode cX11_piece 62 = .ok (.getfield 71, 3) := by decide +kernel
theorem dX11_piece_65 : decode cX11_piece 65 = .ok (.iload_n 1, 1) := by decide +kernel
theorem dX11_piece_66 : decode cX11_piece 66 = .ok (.aload_n 0, 1) := by decide +kernel
theorem dX11_piece_67 : decode cX11_piece 67 = .ok (.getfield 12, 3) := by decide +kernel
theorem dX11_piece_70 : decode cX11_piece 70 = .ok (.invokevirtual 110, 3) := by decide +kernel
theorem dX11_piece_73 : decode cX11_piece 73 = .ok (.aload_n 0, 1) := by decide +kernel
theorem dX11_piece_74 : decode cX11_piece 74 = .ok (.getfield 12, 3) := by decide +kernel
theorem dX11_piece_77 : decode cX11_piece 77 = .ok (.invokevirtual 98, 3) := by decide +kernel
theorem dX11_piece_80 : decode cX11_piece 80 = .ok (.aload_n 0, 1) := by decide +kernel
theorem dX11_piece_81 : decode cX11_piece 81 = .ok (.getfield 71, 3) := by decide +kernel
theorem dX11_piece_84 : decode cX11_piece 84 = .ok (.invokevirtual 113, 3) := by decide +kernel
theorem dX11_piece_87 : decode cX11_piece 87 = .ok (.iconst 1, 1) := by decide +kernel
theorem dX11_piece_88 : decode cX11_piece 88 = .ok (.isub, 1) := by decide +kernel
theorem dX11_piece_89 : decode cX11_piece 89 = .ok (.ireturn, 1) := by decide +kernel
theorem dX11_drop_0 : decode cX11_drop 0 = .ok (.aload_n 0, 1) := by decide +kernel
theorem dX11_drop_1 : decode cX11_drop 1 = .ok (.getfield 71, 3) := by decide +kernel
theorem dX11_drop_4 : decode cX11_drop 4 = .ok (.invokevirtual 113, 3) := by decide +kernel
theorem dX11_drop_7 : decode cX11_drop 7 = .ok (.istore_n 1, 1) := by decide +kernel
theorem dX11_drop_8 : decode cX11_drop 8 = .ok (.aload_n 0, 1) := by decide +kernel
theorem dX11_drop_9 : decode cX11_drop 9 = .ok (.getfield 71, 3) := by decide +kernel
theorem dX11_drop_12 : decode cX11_drop 12 = .ok (.invokevirtual 116, 3) := by decide +kernel
theorem dX11_drop_15 : decode cX11_drop 15 = .ok (.iload_n 1, 1) := by decide +kernel
theorem dX11_drop_16 : decode cX11_drop 16 = .ok (.ireturn, 1) := by decide +kernel
theorem dX11_turn_0 : decode cX11_turn 0 = .ok (.aload_n 0, 1) := by decide +kernel
theorem dX11_turn_1 : decode cX11_turn 1 = .ok (.getfield 71, 3) := by decide +kernel
theorem dX11_turn_4 : decode cX11_turn 4 = .ok (.invokevirtual 113, 3) := by decide +kernel
theorem dX11_turn_7 : decode cX11_turn 7 = .ok (.ifCond .ne 6, 3) := by decide +kernel
theorem dX11_turn_10 : decode cX11_turn 10 = .ok (.bipush (-5), 2) := by decide +kernel
theorem dX11_turn_12 : decode cX11_turn 12 = .ok (.ireturn, 1) := by decide +kernel
theorem dX11_turn_13 : decode cX11_turn 13 = .ok (.aload_n 0, 1) := by decide +kernel
theorem dX11_turn_14 : decode cX11_turn 14 = .ok (.getfield 26, 3) := by decide +kernel
theorem dX11_turn_17 : decode cX11_turn 17 = .ok (.aload_n 0, 1) := by decide +kernel
theorem dX11_turn_18 : decode cX11_turn 18 = .ok (.getfield 68, 3) := by decide +kernel
theorem dX11_turn_21 : decode cX11_turn 21 = .ok (.aload_n 0, 1) := by decide +kernel
theorem dX11_turn_22 : decode cX11_turn 22 = .ok (.getfield 71, 3) := by decide +kernel
theorem dX11_turn_25 : decode cX11_turn 25 = .ok (.aload_n 0, 1) := by decide +kernel
theorem dX11_turn_26 : decode cX11_turn 26 = .ok (.getfield 19, 3) := by decide +kernel
theorem dX11_turn_29 : decode cX11_turn 29 = .ok (.invokevirtual 117, 3) := by decide +kernel
theorem dX11_turn_32 : decode cX11_turn 32 = .ok (.istore_n 1, 1) := by decide +kernel
theorem dX11_turn_33 : decode cX11_turn 33 = .ok (.iconst 0, 1) := by decide +kernel
theorem dX11_turn_34 : decode cX11_turn 34 = .ok (.istore_n 2, 1) := by decide +kernel
theorem dX11_turn_35 : decode cX11_turn 35 = .ok (.iload_n 2, 1) := by decide +kernel
theorem dX11_turn_36 : decode cX11_turn 36 = .ok (.aload_n 0, 1) := by decide +kernel
theorem dX11_turn_37 : decode cX11_turn 37 = .ok (.getfield 71, 3) := by decide +kernel
theorem dX11_turn_40 : decode cX11_turn 40 = .ok (.invokevirtual 113, 3) := by decide +kernel
theorem dX11_turn_43 : decode cX11_turn 43 = .ok (.if_icmp .ge 29, 3) := by decide +kernel
theorem dX11_turn_46 : decode cX11_turn 46 = .ok (.aload_n 0, 1) := by decide +kernel
theorem dX11_turn_47 : decode cX11_turn 47 = .ok (.aload_n 0, 1) := by decide +kernel
theorem dX11_turn_48 : decode cX11_turn 48 = .ok (.getfield 71, 3) := by decide +kernel
theorem dX11_turn_51 : decode cX11_turn 51 = .ok (.iload_n 2, 1) := by decide +kernel
theorem dX11_turn_52 : decode cX11_turn 52 = .ok (.invokevirtual 121, 3) := by decide +kernel
theorem dX11_turn_55 : decode cX11_turn 55 = .ok (.aload_n 0, 1) := by decide +kernel
theorem dX11_turn_56 : decode cX11_turn 56 = .ok (.getfield 26, 3) := by decide +kernel
theorem dX11_turn_59 : decode cX11_turn 59 = .ok (.iload_n 2, 1) := by decide +kernel
theorem dX11_turn_60 : decode cX11_turn 60 = .ok (.invokevirtual 125, 3) := by decide +kernel
theorem dX11_turn_63 : decode cX11_turn 63 = .ok (.invokevirtual 129, 3) := by decide +kernel
theorem dX11_turn_66 : decode cX11_turn 66 = .ok (.iinc 2 1, 3) := by decide +kernel
theorem dX11_turn_69 : decode cX11_turn 69 = .ok (.goto (-34), 3) := by decide +kernel
theorem dX11_turn_72 : decode cX11_turn 72 = .ok (.aload_n 0, 1) := by decide +kernel
theorem dX11_turn_73 : decode cX11_turn 73 = .ok (.getfield 68, 3) := by decide +kernel
theorem dX11_turn_76 : decode cX11_turn 76 = .ok (.astore_n 2, 1) := by decide +kernel
theorem dX11_turn_77 : decode cX11_turn 77 = .ok (.aload_n 0, 1) := by decide +kernel
theorem dX11_turn_78 : decode cX11_turn 78 = .ok (.aload_n 0, 1) := by decide +kernel
theorem dX11_turn_79 : decode cX11_turn 79 = .ok (.getfield 71, 3) := by decide +kernel
theorem dX11_turn_82 : decode cX11_turn 82 = .ok (.putfield 68, 3) := by decide +kernel
theorem dX11_turn_85 : decode cX11_turn 85 = .ok (.aload_n 0, 1) := by decide +kernel
theorem dX11_turn_86 : decode cX11_turn 86 = .ok (.aload_n 2, 1) := by decide +kernel
theorem dX11_turn_87 : decode cX11_turn 87 = .ok (.putfield 71, 3) := by decide +kernel
theorem dX11_turn_90 : decode cX11_turn 90 = .ok (.aload_n 0, 1) := by decide +kernel
theorem dX11_turn_91 : decode cX11_turn 91 = .ok (.getfield 71, 3) := by decide +kernel
theorem dX11_turn_94 : decode cX11_turn 94 = .ok (.invokevirtual 116, 3) := by decide +kernel
theorem dX11_turn_97 : decode cX11_turn 97 = .ok (.iload_n 1, 1) := by decide +kernel
theorem dX11_turn_98 : decode cX11_turn 98 = .ok (.ireturn, 1) := by decide +kernel
theorem dX11_of_0 : decode cX11_of 0 = .ok (.aload_n 0, 1) := by decide +kernel
theorem dX11_of_1 : decode cX11_of 1 = .ok (.getfield 68, 3) := by decide +kernel
theorem dX11_of_4 : decode cX11_of 4 = .ok (.iload_n 1, 1) := by decide +kernel
theorem dX11_of_5 : decode cX11_of 5 = .ok (.invokevirtual 121, 3) := by decide +kernel
theorem dX11_of_8 : decode cX11_of 8 = .ok (.astore_n 3, 1) := by decide +kernel
theorem dX11_of_9 : decode cX11_of 9 = .ok (.aload_n 3, 1) := by decide +kernel
theorem dX11_of_10 : decode cX11_of 10 = .ok (.ifnonnull 5, 3) := by decide +kernel
theorem dX11_of_13 : decode cX11_of 13 = .ok (.iconst (-1), 1) := by decide +kernel
theorem dX11_of_14 : decode cX11_of 14 = .ok (.ireturn, 1) := by decide +kernel
theorem dX11_of_15 : decode cX11_of 15 = .ok (.iload_n 2, 1) := by decide +kernel
theorem dX11_of_16 : decode cX11_of 16 = .ok (.ifCond .ne 8, 3) := by decide +kernel
theorem dX11_of_19 : decode cX11_of 19 = .ok (.aload_n 3, 1) := by decide +kernel
theorem dX11_of_20 : decode cX11_of 20 = .ok (.invokevirtual 133, 3) := by decide +kernel
theorem dX11_of_23 : decode cX11_of 23 = .ok (.ireturn, 1) := by decide +kernel
theorem dX11_of_24 : decode cX11_of 24 = .ok (.iload_n 2, 1) := by decide +kernel
theorem dX11_of_25 : decode cX11_of 25 = .ok (.iconst 1, 1) := by decide +kernel
theorem dX11_of_26 : decode cX11_of 26 = .ok (.if_icmp .ne 13, 3) := by decide +kernel
theorem dX11_of_29 : decode cX11_of 29 = .ok (.aload_n 3, 1) := by decide +kernel
theorem dX11_of_30 : decode cX11_of 30 = .ok (.invokevirtual 138, 3) := by decide +kernel
theorem dX11_of_33 : decode cX11_of 33 = .ok (.invokevirtual 94, 3) := by decide +kernel
theorem dX11_of_36 : decode cX11_of 36 = .ok (.goto 13, 3) := by decide +kernel
theorem dX11_of_39 : decode cX11_of 39 = .ok (.aload_n 3, 1) := by decide +kernel
theorem dX11_of_40 : decode cX11_of 40 = .ok (.invokevirtual 138, 3) := by decide +kernel
theorem dX11_of_43 : decode cX11_of 43 = .ok (.iload_n 2, 1) := by decide +kernel
theorem dX11_of_44 : decode cX11_of 44 = .ok (.bipush 10, 2) := by decide +kernel
theorem dX11_of_46 : decode cX11_of 46 = .ok (.invokevirtual 142, 3) := by decide +kernel
theorem dX11_of_49 : decode cX11_of 49 = .ok (.ireturn, 1) := by decide +kernel
theorem dX11_far_0 : decode cX11_far 0 = .ok (.aload_n 0, 1) := by decide +kernel
theorem dX11_far_1 : decode cX11_far 1 = .ok (.getfield 68, 3) := by decide +kernel
theorem dX11_far_4 : decode cX11_far 4 = .ok (.iload_n 1, 1) := by decide +kernel
theorem dX11_far_5 : decode cX11_far 5 = .ok (.invokevirtual 121, 3) := by decide +kernel
theorem dX11_far_8 : decode cX11_far 8 = .ok (.astore_n 3, 1) := by decide +kernel
theorem dX11_far_9 : decode cX11_far 9 = .ok (.aload_n 0, 1) := by decide +kernel
theorem dX11_far_10 : decode cX11_far 10 = .ok (.getfield 68, 3) := by decide +kernel
theorem dX11_far_13 : decode cX11_far 13 = .ok (.iload_n 2, 1) := by decide +kernel
theorem dX11_far_14 : decode cX11_far 14 = .ok (.invokevirtual 121, 3) := by decide +kernel
theorem dX11_far_17 : decode cX11_far 17 = .ok (.astore 4, 2) := by decide +kernel
theorem dX11_far_19 : decode cX11_far 19 = .ok (.aload_n 3, 1) := by decide +kernel
theorem dX11_far_20 : decode cX11_far 20 = .ok (.ifnull 8, 3) := by decide +kernel
theorem dX11_far_23 : decode cX11_far 23 = .ok (.aload 4, 2) := by decide +kernel
theorem dX11_far_25 : decode cX11_far 25 = .ok (.ifnonnull 5, 3) := by decide +kernel
theorem dX11_far_28 : decode cX11_far 28 = .ok (.iconst (-1), 1) := by decide +kernel
theorem dX11_far_29 : decode cX11_far 29 = .ok (.ireturn, 1) := by decide +kernel
theorem dX11_far_30 : decode cX11_far 30 = .ok (.aload_n 0, 1) := by decide +kernel
theorem dX11_far_31 : decode cX11_far 31 = .ok (.getfield 19, 3) := by decide +kernel
theorem dX11_far_34 : decode cX11_far 34 = .ok (.aload_n 3, 1) := by decide +kernel
theorem dX11_far_35 : decode cX11_far 35 = .ok (.invokevirtual 138, 3) := by decide +kernel
theorem dX11_far_38 : decode cX11_far 38 = .ok (.aload 4, 2) := by decide +kernel
theorem dX11_far_40 : decode cX11_far 40 = .ok (.invokevirtual 138, 3) := by decide +kernel
theorem dX11_far_43 : decode cX11_far 43 = .ok (.invokevirtual 146, 3) := by decide +kernel
theorem dX11_far_46 : decode cX11_far 46 = .ok (.ireturn, 1) := by decide +kernel
theorem dX11_from_0 : decode cX11_from 0 = .ok (.aload_n 0, 1) := by decide +kernel
theorem dX11_from_1 : decode cX11_from 1 = .ok (.getfield 68, 3) := by decide +kernel
theorem dX11_from_4 : decode cX11_from 4 = .ok (.iload_n 1, 1) := by decide +kernel
theorem dX11_from_5 : decode cX11_from 5 = .ok (.invokevirtual 121, 3) := by decide +kernel
theorem dX11_from_8 : decode cX11_from 8 = .ok (.astore_n 2, 1) := by decide +kernel
theorem dX11_from_9 : decode cX11_from 9 = .ok (.aload_n 2, 1) := by decide +kernel
theorem dX11_from_10 : decode cX11_from 10 = .ok (.ifnonnull 7, 3) := by decide +kernel
theorem dX11_from_13 : decode cX11_from 13 = .ok (.iconst (-1), 1) := by decide +kernel
theorem dX11_from_14 : decode cX11_from 14 = .ok (.goto 7, 3) := by decide +kernel
theorem dX11_from_17 : decode cX11_from 17 = .ok (.aload_n 2, 1) := by decide +kernel
theorem dX11_from_18 : decode cX11_from 18 = .ok (.invokevirtual 150, 3) := by decide +kernel
theorem dX11_from_21 : decode cX11_from 21 = .ok (.ireturn, 1) := by decide +kernel
theorem dX11_story_0 : decode cX11_story 0 = .ok (.aload_n 0, 1) := by decide +kernel
theorem dX11_story_1 : decode cX11_story 1 = .ok (.getfield 68, 3) := by decide +kernel
theorem dX11_story_4 : decode cX11_story 4 = .ok (.iload_n 1, 1) := by decide +kernel
theorem dX11_story_5 : decode cX11_story 5 = .ok (.invokevirtual 121, 3) := by decide +kernel
theorem dX11_story_8 : decode cX11_story 8 = .ok (.astore_n 2, 1) := by decide +kernel
theorem dX11_story_9 : decode cX11_story 9 = .ok (.aload_n 2, 1) := by decide +kernel
theorem dX11_story_10 : decode cX11_story 10 = .ok (.ifnonnull 7, 3) := by decide +kernel
theorem dX11_story_13 : decode cX11_story 13 = .ok (.iconst (-1), 1) := by decide +kernel
theorem dX11_story_14 : decode cX11_story 14 = .ok (.goto 8, 3) := by decide +kernel
theorem dX11_story_17 : decode cX11_story 17 = .ok (.aload_n 2, 1) := by decide +kernel
theorem dX11_story_18 : decode cX11_story 18 = .ok (.iload_n 1, 1) := by decide +kernel
theorem dX11_story_19 : decode cX11_story 19 = .ok (.invokevirtual 153, 3) := by decide +kernel
theorem dX11_story_22 : decode cX11_story 22 = .ok (.ireturn, 1) := by decide +kernel
theorem dX11_hand_0 : decode cX11_hand 0 = .ok (.iload_n 1, 1) := by decide +kernel
theorem dX11_hand_1 : decode cX11_hand 1 = .ok (.iconst 1, 1) := by decide +kernel
theorem dX11_hand_2 : decode cX11_hand 2 = .ok (.bipush 7, 2) := by decide +kernel
theorem dX11_hand_4 : decode cX11_hand 4 = .ok (.invokestatic 101, 3) := by decide +kernel
theorem dX11_hand_7 : decode cX11_hand 7 = .ok (.ifCond .eq 23, 3) := by decide +kernel
theorem dX11_hand_10 : decode cX11_hand 10 = .ok (.iload_n 2, 1) := by decide +kernel
theorem dX11_hand_11 : decode cX11_hand 11 = .ok (.iconst 0, 1) := by decide +kernel
theorem dX11_hand_12 : decode cX11_hand 12 = .ok (.bipush 20, 2) := by decide +kernel
theorem dX11_hand_14 : decode cX11_hand 14 = .ok (.invokestatic 101, 3) := by decide +kernel
theorem dX11_hand_17 : decode cX11_hand 17 = .ok (.ifCond .eq 13, 3) := by decide +kernel
theorem dX11_hand_20 : decode cX11_hand 20 = .ok (.iload_n 3, 1) := by decide +kernel
theorem dX11_hand_21 : decode cX11_hand 21 = .ok (.iconst 1, 1) := by decide +kernel
theorem dX11_hand_22 : decode cX11_hand 22 = .ok (.bipush 9, 2) := by decide +kernel
theorem dX11_hand_24 : decode cX11_hand 24 = .ok (.invokestatic 101, 3) := by decide +kernel
theorem dX11_hand_27 : decode cX11_hand 27 = .ok (.ifCond .ne 5, 3) := by decide +kernel
theorem dX11_hand_30 : decode cX11_hand 30 = .ok (.iconst (-1), 1) := by decide +kernel
theorem dX11_hand_31 : decode cX11_hand 31 = .ok (.ireturn, 1) := by decide +kernel
theorem dX11_hand_32 : decode cX11_hand 32 = .ok (.aload_n 0, 1) := by decide +kernel
theorem dX11_hand_33 : decode cX11_hand 33 = .ok (.getfield 40, 3) := by decide +kernel
theorem dX11_hand_36 : decode cX11_hand 36 = .ok (.invokevirtual 156, 3) := by decide +kernel
theorem dX11_hand_39 : decode cX11_hand 39 = .ok (.ifCond .eq 6, 3) := by decide +kernel
theorem dX11_hand_42 : decode cX11_hand 42 = .ok (.bipush (-2), 2) := by decide +kernel
theorem dX11_hand_44 : decode cX11_hand 44 = .ok (.ireturn, 1) := by decide +kernel
theorem dX11_hand_45 : decode cX11_hand 45 = .ok (.aload_n 0, 1) := by decide +kernel
theorem dX11_hand_46 : decode cX11_hand 46 = .ok (.getfield 40, 3) := by decide +kernel
theorem dX11_hand_49 : decode cX11_hand 49 = .ok (.iload_n 1, 1) := by decide +kernel
theorem dX11_hand_50 : decode cX11_hand 50 = .ok (.iload_n 2, 1) := by decide +kernel
theorem dX11_hand_51 : decode cX11_hand 51 = .ok (.iload_n 3, 1) := by decide +kernel
theorem dX11_hand_52 : decode cX11_hand 52 = .ok (.invokevirtual 157, 3) := by decide +kernel
theorem dX11_hand_55 : decode cX11_hand 55 = .ok (.aload_n 0, 1) := by decide +kernel
theorem dX11_hand_56 : decode cX11_hand 56 = .ok (.getfield 40, 3) := by decide +kernel
theorem dX11_hand_59 : decode cX11_hand 59 = .ok (.invokevirtual 160, 3) := by decide +kernel
theorem dX11_hand_62 : decode cX11_hand 62 = .ok (.iconst 1, 1) := by decide +kernel
theorem dX11_hand_63 : decode cX11_hand 63 = .ok (.isub, 1) := by decide +kernel
theorem dX11_hand_64 : decode cX11_hand 64 = .ok (.ireturn, 1) := by decide +kernel
theorem dX11_hours_0 : decode cX11_hours 0 = .ok (.aload_n 0, 1) := by decide +kernel
theorem dX11_hours_1 : decode cX11_hours 1 = .ok (.getfield 40, 3) := by decide +kernel
theorem dX11_hours_4 : decode cX11_hours 4 = .ok (.iload_n 1, 1) := by decide +kernel
theorem dX11_hours_5 : decode cX11_hours 5 = .ok (.invokevirtual 161, 3) := by decide +kernel
theorem dX11_hours_8 : decode cX11_hours 8 = .ok (.ifCond .eq 13, 3) := by decide +kernel
theorem dX11_hours_11 : decode cX11_hours 11 = .ok (.iload_n 2, 1) := by decide +kernel
theorem dX11_hours_12 : decode cX11_hours 12 = .ok (.iconst 0, 1) := by decide +kernel
theorem dX11_hours_13 : decode cX11_hours 13 = .ok (.bipush 20, 2) := by decide +kernel
theorem dX11_hours_15 : decode cX11_hours 15 = .ok (.invokestatic 101, 3) := by decide +kernel
theorem dX11_hours_18 : decode cX11_hours 18 = .ok (.ifCond .ne 5, 3) := by decide +kernel
theorem dX11_hours_21 : decode cX11_hours 21 = .ok (.iconst (-1), 1) := by decide +kernel
theorem dX11_hours_22 : decode cX11_hours 22 = .ok (.ireturn, 1) := by decide +kernel
theorem dX11_hours_23 : decode cX11_hours 23 = .ok (.aload_n 0, 1) := by decide +kernel
theorem dX11_hours_24 : decode cX11_hours 24 = .ok (.getfield 40, 3) := by decide +kernel
theorem dX11_hours_27 : decode cX11_hours 27 = .ok (.iload_n 1, 1) := by decide +kernel
theorem dX11_hours_28 : decode cX11_hours 28 = .ok (.invokevirtual 164, 3) := by decide +kernel
theorem dX11_hours_31 : decode cX11_hours 31 = .ok (.istore_n 3, 1) := by decide +kernel
theorem dX11_hours_32 : decode cX11_hours 32 = .ok (.aload_n 0, 1) := by decide +kernel
theorem dX11_hours_33 : decode cX11_hours 33 = .ok (.getfield 40, 3) := by decide +kernel
theorem dX11_hours_36 : decode cX11_hours 36 = .ok (.iload_n 1, 1) := by decide +kernel
theorem dX11_hours_37 : decode cX11_hours 37 = .ok (.iload_n 2, 1) := by decide +kernel
theorem dX11_hours_38 : decode cX11_hours 38 = .ok (.invokevirtual 167, 3) := by decide +kernel
theorem dX11_hours_41 : decode cX11_hours 41 = .ok (.iload_n 3, 1) := by decide +kernel
theorem dX11_hours_42 : decode cX11_hours 42 = .ok (.ireturn, 1) := by decide +kernel
theorem dX11_term_0 : decode cX11_term 0 = .ok (.iload_n 1, 1) := by decide +kernel
theorem dX11_term_1 : decode cX11_term 1 = .ok (.invokestatic 171, 3) := by decide +kernel
theorem dX11_term_4 : decode cX11_term 4 = .ok (.ifCond .eq 17, 3) := by decide +kernel
theorem dX11_term_7 : decode cX11_term 7 = .ok (.iload_n 2, 1) := by decide +kernel
theorem dX11_term_8 : decode cX11_term 8 = .ok (.invokestatic 174, 3) := by decide +kernel
theorem dX11_term_11 : decode cX11_term 11 = .ok (.ifCond .eq 10, 3) := by decide +kernel
theorem dX11_term_14 : decode cX11_term 14 = .ok (.iload_n 3, 1) := by decide +kernel
theorem dX11_term_15 : decode cX11_term 15 = .ok (.invokestatic 177, 3) := by decide +kernel
theorem dX11_term_18 : decode cX11_term 18 = .ok (.ifCond .ne 5, 3) := by decide +kernel
theorem dX11_term_21 : decode cX11_term 21 = .ok (.iconst (-1), 1) := by decide +kernel
theorem dX11_term_22 : decode cX11_term 22 = .ok (.ireturn, 1) := by decide +kernel
theorem dX11_term_23 : decode cX11_term 23 = .ok (.aload_n 0, 1) := by decide +kernel
theorem dX11_term_24 : decode cX11_term 24 = .ok (.getfield 47, 3) := by decide +kernel
theorem dX11_term_27 : decode cX11_term 27 = .ok (.invokevirtual 180, 3) := by decide +kernel
theorem dX11_term_30 : decode cX11_term 30 = .ok (.ifCond .eq 18, 3) := by decide +kernel
theorem dX11_term_33 : decode cX11_term 33 = .ok (.aload_n 0, 1) := by decide +kernel
theorem dX11_term_34 : decode cX11_term 34 = .ok (.getfield 47, 3) := by decide +kernel
theorem dX11_term_37 : decode cX11_term 37 = .ok (.iload_n 1, 1) := by decide +kernel
theorem dX11_term_38 : decode cX11_term 38 = .ok (.iload_n 2, 1) := by decide +kernel
theorem dX11_term_39 : decode cX11_term 39 = .ok (.invokevirtual 181, 3) := by decide +kernel
theorem dX11_term_42 : decode cX11_term 42 = .ok (.ifCond .ne 6, 3) := by decide +kernel
theorem dX11_term_45 : decode cX11_term 45 = .ok (.bipush (-2), 2) := by decide +kernel
theorem dX11_term_47 : decode cX11_term 47 = .ok (.ireturn, 1) := by decide +kernel
theorem dX11_term_48 : decode cX11_term 48 = .ok (.aload_n 0, 1) := by decide +kernel
theorem dX11_term_49 : decode cX11_term 49 = .ok (.getfield 47, 3) := by decide +kernel
theorem dX11_term_52 : decode cX11_term 52 = .ok (.iload_n 1, 1) := by decide +kernel
theorem dX11_term_53 : decode cX11_term 53 = .ok (.iload_n 2, 1) := by decide +kernel
theorem dX11_term_54 : decode cX11_term 54 = .ok (.iload_n 3, 1) := by decide +kernel
theorem dX11_term_55 : decode cX11_term 55 = .ok (.invokevirtual 183, 3) := by decide +kernel
theorem dX11_term_58 : decode cX11_term 58 = .ok (.aload_n 0, 1) := by decide +kernel
theorem dX11_term_59 : decode cX11_term 59 = .ok (.getfield 47, 3) := by decide +kernel
theorem dX11_term_62 : decode cX11_term 62 = .ok (.invokevirtual 186, 3) := by decide +kernel
theorem dX11_term_65 : decode cX11_term 65 = .ok (.ireturn, 1) := by decide +kernel
theorem dX11_forget_0 : decode cX11_forget 0 = .ok (.iload_n 1, 1) := by decide +kernel
theorem dX11_forget_1 : decode cX11_forget 1 = .ok (.invokestatic 171, 3) := by decide +kernel
end
section
theorem dX11_forget_4 : decode cX11_forget 4 = .ok (.ifCond .eq 10, 3) := by decide +kernel
theorem dX11_forget_7 : decode cX11_forget 7 = .ok (.iload_n 2, 1) := by decide +kernel
theorem dX11_forget_8 : decode cX11_forget 8 = .ok (.invokestatic 174, 3) := by decide +kernel
theorem dX11_forget_11 : decode cX11_forget 11 = .ok (.ifCond .ne 5, 3) := by decide +kernel
theorem dX11_forget_14 : decode cX11_forget 14 = .ok (.iconst (-1), 1) := by decide +kernel
theorem dX11_forget_15 : decode cX11_forget 15 = .ok (.ireturn, 1) := by decide +kernel
theorem dX11_forget_16 : decode cX11_forget 16 = .ok (.aload_n 0, 1) := by decide +kernel
theorem dX11_forget_17 : decode cX11_forget 17 = .ok (.getfield 47, 3) := by decide +kernel
theorem dX11_forget_20 : decode cX11_forget 20 = .ok (.iload_n 1, 1) := by decide +kernel
theorem dX11_forget_21 : decode cX11_forget 21 = .ok (.iload_n 2, 1) := by decide +kernel
theorem dX11_forget_22 : decode cX11_forget 22 = .ok (.invokevirtual 181, 3) := by decide +kernel
theorem dX11_forget_25 : decode cX11_forget 25 = .ok (.ifCond .ne 6, 3) := by decide +kernel
theorem dX11_forget_28 : decode cX11_forget 28 = .ok (.bipush (-5), 2) := by decide +kernel
theorem dX11_forget_30 : decode cX11_forget 30 = .ok (.ireturn, 1) := by decide +kernel
theorem dX11_forget_31 : decode cX11_forget 31 = .ok (.aload_n 0, 1) := by decide +kernel
theorem dX11_forget_32 : decode cX11_forget 32 = .ok (.getfield 47, 3) := by decide +kernel
theorem dX11_forget_35 : decode cX11_forget 35 = .ok (.iload_n 1, 1) := by decide +kernel
theorem dX11_forget_36 : decode cX11_forget 36 = .ok (.iload_n 2, 1) := by decide +kernel
theorem dX11_forget_37 : decode cX11_forget 37 = .ok (.invokevirtual 187, 3) := by decide +kernel
theorem dX11_forget_40 : decode cX11_forget 40 = .ok (.aload_n 0, 1) := by decide +kernel
theorem dX11_forget_41 : decode cX11_forget 41 = .ok (.getfield 47, 3) := by decide +kernel
theorem dX11_forget_44 : decode cX11_forget 44 = .ok (.invokevirtual 186, 3) := by decide +kernel
theorem dX11_forget_47 : decode cX11_forget 47 = .ok (.ireturn, 1) := by decide +kernel
theorem dX11_write_0 : decode cX11_write 0 = .ok (.aload_n 0, 1) := by decide +kernel
theorem dX11_write_1 : decode cX11_write 1 = .ok (.iload_n 1, 1) := by decide +kernel
theorem dX11_write_2 : decode cX11_write 2 = .ok (.iload_n 2, 1) := by decide +kernel
theorem dX11_write_3 : decode cX11_write 3 = .ok (.iload_n 3, 1) := by decide +kernel
theorem dX11_write_4 : decode cX11_write 4 = .ok (.invokevirtual 190, 3) := by decide +kernel
theorem dX11_write_7 : decode cX11_write 7 = .ok (.istore 4, 2) := by decide +kernel
theorem dX11_write_9 : decode cX11_write 9 = .ok (.iload 4, 2) := by decide +kernel
theorem dX11_write_11 : decode cX11_write 11 = .ok (.ifCond .ge 6, 3) := by decide +kernel
theorem dX11_write_14 : decode cX11_write 14 = .ok (.iload 4, 2) := by decide +kernel
theorem dX11_write_16 : decode cX11_write 16 = .ok (.ireturn, 1) := by decide +kernel
theorem dX11_write_17 : decode cX11_write 17 = .ok (.aload_n 0, 1) := by decide +kernel
theorem dX11_write_18 : decode cX11_write 18 = .ok (.getfield 12, 3) := by decide +kernel
theorem dX11_write_21 : decode cX11_write 21 = .ok (.invokevirtual 94, 3) := by decide +kernel
theorem dX11_write_24 : decode cX11_write 24 = .ok (.ifCond .ne 6, 3) := by decide +kernel
theorem dX11_write_27 : decode cX11_write 27 = .ok (.bipush (-6), 2) := by decide +kernel
theorem dX11_write_29 : decode cX11_write 29 = .ok (.ireturn, 1) := by decide +kernel
theorem dX11_write_30 : decode cX11_write 30 = .ok (.aload_n 0, 1) := by decide +kernel
theorem dX11_write_31 : decode cX11_write 31 = .ok (.getfield 12, 3) := by decide +kernel
theorem dX11_write_34 : decode cX11_write 34 = .ok (.iconst 0, 1) := by decide +kernel
theorem dX11_write_35 : decode cX11_write 35 = .ok (.bipush 100, 2) := by decide +kernel
theorem dX11_write_37 : decode cX11_write 37 = .ok (.invokevirtual 105, 3) := by decide +kernel
theorem dX11_write_40 : decode cX11_write 40 = .ok (.ifCond .eq 6, 3) := by decide +kernel
theorem dX11_write_43 : decode cX11_write 43 = .ok (.bipush (-3), 2) := by decide +kernel
theorem dX11_write_45 : decode cX11_write 45 = .ok (.ireturn, 1) := by decide +kernel
theorem dX11_write_46 : decode cX11_write 46 = .ok (.aload_n 0, 1) := by decide +kernel
theorem dX11_write_47 : decode cX11_write 47 = .ok (.iload_n 1, 1) := by decide +kernel
theorem dX11_write_48 : decode cX11_write 48 = .ok (.iload_n 2, 1) := by decide +kernel
theorem dX11_write_49 : decode cX11_write 49 = .ok (.invokevirtual 194, 3) := by decide +kernel
theorem dX11_write_52 : decode cX11_write 52 = .ok (.astore 5, 2) := by decide +kernel
theorem dX11_write_54 : decode cX11_write 54 = .ok (.aload 5, 2) := by decide +kernel
theorem dX11_write_56 : decode cX11_write 56 = .ok (.ifnull 13, 3) := by decide +kernel
theorem dX11_write_59 : decode cX11_write 59 = .ok (.aload 5, 2) := by decide +kernel
theorem dX11_write_61 : decode cX11_write 61 = .ok (.aload_n 0, 1) := by decide +kernel
theorem dX11_write_62 : decode cX11_write 62 = .ok (.getfield 12, 3) := by decide +kernel
theorem dX11_write_65 : decode cX11_write 65 = .ok (.iload_n 3, 1) := by decide +kernel
theorem dX11_write_66 : decode cX11_write 66 = .ok (.invokevirtual 198, 3) := by decide +kernel
theorem dX11_write_69 : decode cX11_write 69 = .ok (.aload_n 0, 1) := by decide +kernel
theorem dX11_write_70 : decode cX11_write 70 = .ok (.getfield 12, 3) := by decide +kernel
theorem dX11_write_73 : decode cX11_write 73 = .ok (.invokevirtual 94, 3) := by decide +kernel
theorem dX11_write_76 : decode cX11_write 76 = .ok (.istore 6, 2) := by decide +kernel
theorem dX11_write_78 : decode cX11_write 78 = .ok (.aload_n 0, 1) := by decide +kernel
theorem dX11_write_79 : decode cX11_write 79 = .ok (.getfield 12, 3) := by decide +kernel
theorem dX11_write_82 : decode cX11_write 82 = .ok (.invokevirtual 98, 3) := by decide +kernel
theorem dX11_write_85 : decode cX11_write 85 = .ok (.iload 6, 2) := by decide +kernel
theorem dX11_write_87 : decode cX11_write 87 = .ok (.ireturn, 1) := by decide +kernel
theorem dX11_review_0 : decode cX11_review 0 = .ok (.aload_n 0, 1) := by decide +kernel
theorem dX11_review_1 : decode cX11_review 1 = .ok (.getfield 68, 3) := by decide +kernel
theorem dX11_review_4 : decode cX11_review 4 = .ok (.iload_n 1, 1) := by decide +kernel
theorem dX11_review_5 : decode cX11_review 5 = .ok (.invokevirtual 121, 3) := by decide +kernel
theorem dX11_review_8 : decode cX11_review 8 = .ok (.astore 4, 2) := by decide +kernel
theorem dX11_review_10 : decode cX11_review 10 = .ok (.aload_n 0, 1) := by decide +kernel
theorem dX11_review_11 : decode cX11_review 11 = .ok (.iload_n 1, 1) := by decide +kernel
theorem dX11_review_12 : decode cX11_review 12 = .ok (.iload_n 2, 1) := by decide +kernel
theorem dX11_review_13 : decode cX11_review 13 = .ok (.invokevirtual 194, 3) := by decide +kernel
theorem dX11_review_16 : decode cX11_review 16 = .ok (.astore 5, 2) := by decide +kernel
theorem dX11_review_18 : decode cX11_review 18 = .ok (.aload 4, 2) := by decide +kernel
theorem dX11_review_20 : decode cX11_review 20 = .ok (.ifnull 19, 3) := by decide +kernel
theorem dX11_review_23 : decode cX11_review 23 = .ok (.aload 5, 2) := by decide +kernel
theorem dX11_review_25 : decode cX11_review 25 = .ok (.ifnull 14, 3) := by decide +kernel
theorem dX11_review_28 : decode cX11_review 28 = .ok (.aload_n 0, 1) := by decide +kernel
theorem dX11_review_29 : decode cX11_review 29 = .ok (.getfield 40, 3) := by decide +kernel
theorem dX11_review_32 : decode cX11_review 32 = .ok (.iload_n 3, 1) := by decide +kernel
theorem dX11_review_33 : decode cX11_review 33 = .ok (.invokevirtual 161, 3) := by decide +kernel
theorem dX11_review_36 : decode cX11_review 36 = .ok (.ifCond .ne 5, 3) := by decide +kernel
theorem dX11_review_39 : decode cX11_review 39 = .ok (.iconst (-1), 1) := by decide +kernel
theorem dX11_review_40 : decode cX11_review 40 = .ok (.ireturn, 1) := by decide +kernel
theorem dX11_review_41 : decode cX11_review 41 = .ok (.aload 5, 2) := by decide +kernel
theorem dX11_review_43 : decode cX11_review 43 = .ok (.invokevirtual 204, 3) := by decide +kernel
theorem dX11_review_46 : decode cX11_review 46 = .ok (.ifCond .ne 6, 3) := by decide +kernel
theorem dX11_review_49 : decode cX11_review 49 = .ok (.bipush (-4), 2) := by decide +kernel
theorem dX11_review_51 : decode cX11_review 51 = .ok (.ireturn, 1) := by decide +kernel
theorem dX11_review_52 : decode cX11_review 52 = .ok (.aload_n 0, 1) := by decide +kernel
theorem dX11_review_53 : decode cX11_review 53 = .ok (.getfield 40, 3) := by decide +kernel
theorem dX11_review_56 : decode cX11_review 56 = .ok (.iload_n 3, 1) := by decide +kernel
theorem dX11_review_57 : decode cX11_review 57 = .ok (.iload_n 2, 1) := by decide +kernel
theorem dX11_review_58 : decode cX11_review 58 = .ok (.invokevirtual 207, 3) := by decide +kernel
theorem dX11_review_61 : decode cX11_review 61 = .ok (.ifCond .ne 6, 3) := by decide +kernel
theorem dX11_review_64 : decode cX11_review 64 = .ok (.bipush (-3), 2) := by decide +kernel
theorem dX11_review_66 : decode cX11_review 66 = .ok (.ireturn, 1) := by decide +kernel
theorem dX11_review_67 : decode cX11_review 67 = .ok (.aload 5, 2) := by decide +kernel
theorem dX11_review_69 : decode cX11_review 69 = .ok (.invokevirtual 210, 3) := by decide +kernel
theorem dX11_review_72 : decode cX11_review 72 = .ok (.iload_n 3, 1) := by decide +kernel
theorem dX11_review_73 : decode cX11_review 73 = .ok (.if_icmp .ne 6, 3) := by decide +kernel
theorem dX11_review_76 : decode cX11_review 76 = .ok (.bipush (-7), 2) := by decide +kernel
theorem dX11_review_78 : decode cX11_review 78 = .ok (.ireturn, 1) := by decide +kernel
theorem dX11_review_79 : decode cX11_review 79 = .ok (.aload_n 0, 1) := by decide +kernel
theorem dX11_review_80 : decode cX11_review 80 = .ok (.aload 4, 2) := by decide +kernel
theorem dX11_review_82 : decode cX11_review 82 = .ok (.aload 5, 2) := by decide +kernel
theorem dX11_review_84 : decode cX11_review 84 = .ok (.iload_n 2, 1) := by decide +kernel
theorem dX11_review_85 : decode cX11_review 85 = .ok (.invokevirtual 213, 3) := by decide +kernel
theorem dX11_review_88 : decode cX11_review 88 = .ok (.istore 6, 2) := by decide +kernel
theorem dX11_review_90 : decode cX11_review 90 = .ok (.iload 6, 2) := by decide +kernel
theorem dX11_review_92 : decode cX11_review 92 = .ok (.ifCond .le 9, 3) := by decide +kernel
theorem dX11_review_95 : decode cX11_review 95 = .ok (.bipush (-10), 2) := by decide +kernel
theorem dX11_review_97 : decode cX11_review 97 = .ok (.iload 6, 2) := by decide +kernel
theorem dX11_review_99 : decode cX11_review 99 = .ok (.isub, 1) := by decide +kernel
theorem dX11_review_100 : decode cX11_review 100 = .ok (.ireturn, 1) := by decide +kernel
theorem dX11_review_101 : decode cX11_review 101 = .ok (.aload 5, 2) := by decide +kernel
theorem dX11_review_103 : decode cX11_review 103 = .ok (.invokevirtual 217, 3) := by decide +kernel
theorem dX11_review_106 : decode cX11_review 106 = .ok (.aload_n 0, 1) := by decide +kernel
theorem dX11_review_107 : decode cX11_review 107 = .ok (.getfield 54, 3) := by decide +kernel
theorem dX11_review_110 : decode cX11_review 110 = .ok (.aload 4, 2) := by decide +kernel
theorem dX11_review_112 : decode cX11_review 112 = .ok (.invokevirtual 138, 3) := by decide +kernel
theorem dX11_review_115 : decode cX11_review 115 = .ok (.iload_n 2, 1) := by decide +kernel
theorem dX11_review_116 : decode cX11_review 116 = .ok (.aload 5, 2) := by decide +kernel
theorem dX11_review_118 : decode cX11_review 118 = .ok (.invokevirtual 220, 3) := by decide +kernel
theorem dX11_review_121 : decode cX11_review 121 = .ok (.invokevirtual 221, 3) := by decide +kernel
theorem dX11_review_124 : decode cX11_review 124 = .ok (.aload_n 0, 1) := by decide +kernel
theorem dX11_review_125 : decode cX11_review 125 = .ok (.getfield 54, 3) := by decide +kernel
theorem dX11_review_128 : decode cX11_review 128 = .ok (.invokevirtual 225, 3) := by decide +kernel
theorem dX11_review_131 : decode cX11_review 131 = .ok (.ireturn, 1) := by decide +kernel
theorem dX11_reuse_0 : decode cX11_reuse 0 = .ok (.aload_n 0, 1) := by decide +kernel
theorem dX11_reuse_1 : decode cX11_reuse 1 = .ok (.iload_n 1, 1) := by decide +kernel
theorem dX11_reuse_2 : decode cX11_reuse 2 = .ok (.iload_n 2, 1) := by decide +kernel
theorem dX11_reuse_3 : decode cX11_reuse 3 = .ok (.iload_n 3, 1) := by decide +kernel
theorem dX11_reuse_4 : decode cX11_reuse 4 = .ok (.invokevirtual 190, 3) := by decide +kernel
theorem dX11_reuse_7 : decode cX11_reuse 7 = .ok (.istore 4, 2) := by decide +kernel
theorem dX11_reuse_9 : decode cX11_reuse 9 = .ok (.iload 4, 2) := by decide +kernel
theorem dX11_reuse_11 : decode cX11_reuse 11 = .ok (.ifCond .ge 6, 3) := by decide +kernel
theorem dX11_reuse_14 : decode cX11_reuse 14 = .ok (.iload 4, 2) := by decide +kernel
theorem dX11_reuse_16 : decode cX11_reuse 16 = .ok (.ireturn, 1) := by decide +kernel
theorem dX11_reuse_17 : decode cX11_reuse 17 = .ok (.aload_n 0, 1) := by decide +kernel
theorem dX11_reuse_18 : decode cX11_reuse 18 = .ok (.aload_n 0, 1) := by decide +kernel
theorem dX11_reuse_19 : decode cX11_reuse 19 = .ok (.getfield 68, 3) := by decide +kernel
theorem dX11_reuse_22 : decode cX11_reuse 22 = .ok (.iload_n 1, 1) := by decide +kernel
theorem dX11_reuse_23 : decode cX11_reuse 23 = .ok (.invokevirtual 121, 3) := by decide +kernel
theorem dX11_reuse_26 : decode cX11_reuse 26 = .ok (.iload_n 2, 1) := by decide +kernel
theorem dX11_reuse_27 : decode cX11_reuse 27 = .ok (.invokevirtual 226, 3) := by decide +kernel
theorem dX11_reuse_30 : decode cX11_reuse 30 = .ok (.astore 5, 2) := by decide +kernel
theorem dX11_reuse_32 : decode cX11_reuse 32 = .ok (.aload_n 0, 1) := by decide +kernel
theorem dX11_reuse_33 : decode cX11_reuse 33 = .ok (.iload_n 1, 1) := by decide +kernel
theorem dX11_reuse_34 : decode cX11_reuse 34 = .ok (.iload_n 2, 1) := by decide +kernel
theorem dX11_reuse_35 : decode cX11_reuse 35 = .ok (.invokevirtual 194, 3) := by decide +kernel
theorem dX11_reuse_38 : decode cX11_reuse 38 = .ok (.astore 6, 2) := by decide +kernel
theorem dX11_reuse_40 : decode cX11_reuse 40 = .ok (.aload 5, 2) := by decide +kernel
theorem dX11_reuse_42 : decode cX11_reuse 42 = .ok (.ifnull 8, 3) := by decide +kernel
theorem dX11_reuse_45 : decode cX11_reuse 45 = .ok (.aload 6, 2) := by decide +kernel
theorem dX11_reuse_47 : decode cX11_reuse 47 = .ok (.ifnonnull 6, 3) := by decide +kernel
theorem dX11_reuse_50 : decode cX11_reuse 50 = .ok (.bipush (-5), 2) := by decide +kernel
theorem dX11_reuse_52 : decode cX11_reuse 52 = .ok (.ireturn, 1) := by decide +kernel
theorem dX11_reuse_53 : decode cX11_reuse 53 = .ok (.aload 6, 2) := by decide +kernel
theorem dX11_reuse_55 : decode cX11_reuse 55 = .ok (.aload 5, 2) := by decide +kernel
theorem dX11_reuse_57 : decode cX11_reuse 57 = .ok (.invokevirtual 230, 3) := by decide +kernel
theorem dX11_reuse_60 : decode cX11_reuse 60 = .ok (.iload_n 3, 1) := by decide +kernel
theorem dX11_reuse_61 : decode cX11_reuse 61 = .ok (.invokevirtual 198, 3) := by decide +kernel
theorem dX11_reuse_64 : decode cX11_reuse 64 = .ok (.aload 6, 2) := by decide +kernel
theorem dX11_reuse_66 : decode cX11_reuse 66 = .ok (.invokevirtual 220, 3) := by decide +kernel
theorem dX11_reuse_69 : decode cX11_reuse 69 = .ok (.invokevirtual 94, 3) := by decide +kernel
theorem dX11_reuse_72 : decode cX11_reuse 72 = .ok (.ireturn, 1) := by decide +kernel
theorem dX11_text_0 : decode cX11_text 0 = .ok (.aload_n 0, 1) := by decide +kernel
theorem dX11_text_1 : decode cX11_text 1 = .ok (.iload_n 1, 1) := by decide +kernel
theorem dX11_text_2 : decode cX11_text 2 = .ok (.iload_n 2, 1) := by decide +kernel
theorem dX11_text_3 : decode cX11_text 3 = .ok (.invokevirtual 194, 3) := by decide +kernel
theorem dX11_text_6 : decode cX11_text 6 = .ok (.astore 4, 2) := by decide +kernel
theorem dX11_text_8 : decode cX11_text 8 = .ok (.aload 4, 2) := by decide +kernel
theorem dX11_text_10 : decode cX11_text 10 = .ok (.ifnonnull 5, 3) := by decide +kernel
theorem dX11_text_13 : decode cX11_text 13 = .ok (.iconst (-1), 1) := by decide +kernel
theorem dX11_text_14 : decode cX11_text 14 = .ok (.ireturn, 1) := by decide +kernel
theorem dX11_text_15 : decode cX11_text 15 = .ok (.iload_n 3, 1) := by decide +kernel
theorem dX11_text_16 : decode cX11_text 16 = .ok (.ifCond .ne 9, 3) := by decide +kernel
theorem dX11_text_19 : decode cX11_text 19 = .ok (.aload 4, 2) := by decide +kernel
theorem dX11_text_21 : decode cX11_text 21 = .ok (.invokevirtual 235, 3) := by decide +kernel
theorem dX11_text_24 : decode cX11_text 24 = .ok (.ireturn, 1) := by decide +kernel
theorem dX11_text_25 : decode cX11_text 25 = .ok (.iload_n 3, 1) := by decide +kernel
theorem dX11_text_26 : decode cX11_text 26 = .ok (.iconst 1, 1) := by decide +kernel
theorem dX11_text_27 : decode cX11_text 27 = .ok (.if_icmp .ne 9, 3) := by decide +kernel
theorem dX11_text_30 : decode cX11_text 30 = .ok (.aload 4, 2) := by decide +kernel
theorem dX11_text_32 : decode cX11_text 32 = .ok (.invokevirtual 210, 3) := by decide +kernel
theorem dX11_text_35 : decode cX11_text 35 = .ok (.ireturn, 1) := by decide +kernel
theorem dX11_text_36 : decode cX11_text 36 = .ok (.iload_n 3, 1) := by decide +kernel
theorem dX11_text_37 : decode cX11_text 37 = .ok (.iconst 2, 1) := by decide +kernel
theorem dX11_text_38 : decode cX11_text 38 = .ok (.if_icmp .ne 14, 3) := by decide +kernel
theorem dX11_text_41 : decode cX11_text 41 = .ok (.aload 4, 2) := by decide +kernel
theorem dX11_text_43 : decode cX11_text 43 = .ok (.invokevirtual 220, 3) := by decide +kernel
theorem dX11_text_46 : decode cX11_text 46 = .ok (.invokevirtual 94, 3) := by decide +kernel
theorem dX11_text_49 : decode cX11_text 49 = .ok (.goto 14, 3) := by decide +kernel
theorem dX11_text_52 : decode cX11_text 52 = .ok (.aload 4, 2) := by decide +kernel
theorem dX11_text_54 : decode cX11_text 54 = .ok (.invokevirtual 220, 3) := by decide +kernel
theorem dX11_text_57 : decode cX11_text 57 = .ok (.iload_n 3, 1) := by decide +kernel
theorem dX11_text_58 : decode cX11_text 58 = .ok (.bipush 10, 2) := by decide +kernel
theorem dX11_text_60 : decode cX11_text 60 = .ok (.invokevirtual 142, 3) := by decide +kernel
theorem dX11_text_63 : decode cX11_text 63 = .ok (.ireturn, 1) := by decide +kernel
theorem dX11_fault_0 : decode cX11_fault 0 = .ok (.aload_n 0, 1) := by decide +kernel
theorem dX11_fault_1 : decode cX11_fault 1 = .ok (.getfield 68, 3) := by decide +kernel
theorem dX11_fault_4 : decode cX11_fault 4 = .ok (.iload_n 1, 1) := by decide +kernel
theorem dX11_fault_5 : decode cX11_fault 5 = .ok (.invokevirtual 121, 3) := by decide +kernel
theorem dX11_fault_8 : decode cX11_fault 8 = .ok (.astore_n 3, 1) := by decide +kernel
theorem dX11_fault_9 : decode cX11_fault 9 = .ok (.aload_n 0, 1) := by decide +kernel
theorem dX11_fault_10 : decode cX11_fault 10 = .ok (.iload_n 1, 1) := by decide +kernel
theorem dX11_fault_11 : decode cX11_fault 11 = .ok (.iload_n 2, 1) := by decide +kernel
theorem dX11_fault_12 : decode cX11_fault 12 = .ok (.invokevirtual 194, 3) := by decide +kernel
theorem dX11_fault_15 : decode cX11_fault 15 = .ok (.astore 4, 2) := by decide +kernel
theorem dX11_fault_17 : decode cX11_fault 17 = .ok (.aload_n 3, 1) := by decide +kernel
theorem dX11_fault_18 : decode cX11_fault 18 = .ok (.ifnull 8, 3) := by decide +kernel
theorem dX11_fault_21 : decode cX11_fault 21 = .ok (.aload 4, 2) := by decide +kernel
theorem dX11_fault_23 : decode cX11_fault 23 = .ok (.ifnonnull 5, 3) := by decide +kernel
theorem dX11_fault_26 : decode cX11_fault 26 = .ok (.iconst (-1), 1) := by decide +kernel
theorem dX11_fault_27 : decode cX11_fault 27 = .ok (.ireturn, 1) := by decide +kernel
theorem dX11_fault_28 : decode cX11_fault 28 = .ok (.aload 4, 2) := by decide +kernel
theorem dX11_fault_30 : decode cX11_fault 30 = .ok (.invokevirtual 235, 3) := by decide +kernel
theorem dX11_fault_33 : decode cX11_fault 33 = .ok (.ifCond .ne 8, 3) := by decide +kernel
theorem dX11_fault_36 : decode cX11_fault 36 = .ok (.bipush (-5), 2) := by decide +kernel
theorem dX11_fault_38 : decode cX11_fault 38 = .ok (.goto 11, 3) := by decide +kernel
theorem dX11_fault_41 : decode cX11_fault 41 = .ok (.aload_n 0, 1) := by decide +kernel
theorem dX11_fault_42 : decode cX11_fault 42 = .ok (.aload_n 3, 1) := by decide +kernel
theorem dX11_fault_43 : decode cX11_fault 43 = .ok (.aload 4, 2) := by decide +kernel
theorem dX11_fault_45 : decode cX11_fault 45 = .ok (.iload_n 2, 1) := by decide +kernel
theorem dX11_fault_46 : decode cX11_fault 46 = .ok (.invokevirtual 213, 3) := by decide +kernel
theorem dX11_fault_49 : decode cX11_fault 49 = .ok (.ireturn, 1) := by decide +kernel
theorem dX11_limit_0 : decode cX11_limit 0 = .ok (.iload_n 1, 1) := by decide +kernel
theorem dX11_limit_1 : decode cX11_limit 1 = .ok (.iconst 1, 1) := by decide +kernel
theorem dX11_limit_2 : decode cX11_limit 2 = .ok (.bipush 10, 2) := by decide +kernel
theorem dX11_limit_4 : decode cX11_limit 4 = .ok (.invokestatic 101, 3) := by decide +kernel
theorem dX11_limit_7 : decode cX11_limit 7 = .ok (.ifCond .ne 5, 3) := by decide +kernel
theorem dX11_limit_10 : decode cX11_limit 10 = .ok (.iconst (-1), 1) := by decide +kernel
theorem dX11_limit_11 : decode cX11_limit 11 = .ok (.ireturn, 1) := by decide +kernel
theorem dX11_limit_12 : decode cX11_limit 12 = .ok (.aload_n 0, 1) := by decide +kernel
theorem dX11_limit_13 : decode cX11_limit 13 = .ok (.getfield 74, 3) := by decide +kernel
theorem dX11_limit_16 : decode cX11_limit 16 = .ok (.istore_n 2, 1) := by decide +kernel
theorem dX11_limit_17 : decode cX11_limit 17 = .ok (.aload_n 0, 1) := by decide +kernel
theorem dX11_limit_18 : decode cX11_limit 18 = .ok (.iload_n 1, 1) := by decide +kernel
theorem dX11_limit_19 : decode cX11_limit 19 = .ok (.putfield 74, 3) := by decide +kernel
theorem dX11_limit_22 : decode cX11_limit 22 = .ok (.iload_n 2, 1) := by decide +kernel
theorem dX11_limit_23 : decode cX11_limit 23 = .ok (.ireturn, 1) := by decide +kernel
theorem dX11_nearest_0 : decode cX11_nearest 0 = .ok (.aload_n 0, 1) := by decide +kernel
theorem dX11_nearest_1 : decode cX11_nearest 1 = .ok (.getfield 68, 3) := by decide +kernel
theorem dX11_nearest_4 : decode cX11_nearest 4 = .ok (.iload_n 1, 1) := by decide +kernel
theorem dX11_nearest_5 : decode cX11_nearest 5 = .ok (.invokevirtual 121, 3) := by decide +kernel
theorem dX11_nearest_8 : decode cX11_nearest 8 = .ok (.astore 4, 2) := by decide +kernel
theorem dX11_nearest_10 : decode cX11_nearest 10 = .ok (.aload 4, 2) := by decide +kernel
theorem dX11_nearest_12 : decode cX11_nearest 12 = .ok (.ifnull 19, 3) := by decide +kernel
theorem dX11_nearest_15 : decode cX11_nearest 15 = .ok (.iload_n 2, 1) := by decide +kernel
theorem dX11_nearest_16 : decode cX11_nearest 16 = .ok (.invokestatic 174, 3) := by decide +kernel
theorem dX11_nearest_19 : decode cX11_nearest 19 = .ok (.ifCond .eq 12, 3) := by decide +kernel
theorem dX11_nearest_22 : decode cX11_nearest 22 = .ok (.iload_n 3, 1) := by decide +kernel
theorem dX11_nearest_23 : decode cX11_nearest 23 = .ok (.iconst 0, 1) := by decide +kernel
theorem dX11_nearest_24 : decode cX11_nearest 24 = .ok (.iconst 2, 1) := by decide +kernel
theorem dX11_nearest_25 : decode cX11_nearest 25 = .ok (.invokestatic 101, 3) := by decide +kernel
theorem dX11_nearest_28 : decode cX11_nearest 28 = .ok (.ifCond .ne 5, 3) := by decide +kernel
theorem dX11_nearest_31 : decode cX11_nearest 31 = .ok (.iconst (-1), 1) := by decide +kernel
theorem dX11_nearest_32 : decode cX11_nearest 32 = .ok (.ireturn, 1) := by decide +kernel
theorem dX11_nearest_33 : decode cX11_nearest 33 = .ok (.aload_n 0, 1) := by decide +kernel
theorem dX11_nearest_34 : decode cX11_nearest 34 = .ok (.getfield 54, 3) := by decide +kernel
theorem dX11_nearest_37 : decode cX11_nearest 37 = .ok (.aload 4, 2) := by decide +kernel
theorem dX11_nearest_39 : decode cX11_nearest 39 = .ok (.invokevirtual 138, 3) := by decide +kernel
theorem dX11_nearest_42 : decode cX11_nearest 42 = .ok (.iload_n 2, 1) := by decide +kernel
theorem dX11_nearest_43 : decode cX11_nearest 43 = .ok (.aload_n 0, 1) := by decide +kernel
theorem dX11_nearest_44 : decode cX11_nearest 44 = .ok (.getfield 19, 3) := by decide +kernel
theorem dX11_nearest_47 : decode cX11_nearest 47 = .ok (.invokevirtual 238, 3) := by decide +kernel
theorem dX11_nearest_50 : decode cX11_nearest 50 = .ok (.istore 5, 2) := by decide +kernel
theorem dX11_nearest_52 : decode cX11_nearest 52 = .ok (.aload_n 0, 1) := by decide +kernel
theorem dX11_nearest_53 : decode cX11_nearest 53 = .ok (.getfield 54, 3) := by decide +kernel
theorem dX11_nearest_56 : decode cX11_nearest 56 = .ok (.iload 5, 2) := by decide +kernel
theorem dX11_nearest_58 : decode cX11_nearest 58 = .ok (.invokevirtual 242, 3) := by decide +kernel
theorem dX11_nearest_61 : decode cX11_nearest 61 = .ok (.astore 6, 2) := by decide +kernel
theorem dX11_nearest_63 : decode cX11_nearest 63 = .ok (.aload 6, 2) := by decide +kernel
theorem dX11_nearest_65 : decode cX11_nearest 65 = .ok (.ifnonnull 6, 3) := by decide +kernel
theorem dX11_nearest_68 : decode cX11_nearest 68 = .ok (.bipush (-5), 2) := by decide +kernel
theorem dX11_nearest_70 : decode cX11_nearest 70 = .ok (.ireturn, 1) := by decide +kernel
theorem dX11_nearest_71 : decode cX11_nearest 71 = .ok (.iload_n 3, 1) := by decide +kernel
theorem dX11_nearest_72 : decode cX11_nearest 72 = .ok (.ifCond .ne 6, 3) := by decide +kernel
theorem dX11_nearest_75 : decode cX11_nearest 75 = .ok (.iload 5, 2) := by decide +kernel
theorem dX11_nearest_77 : decode cX11_nearest 77 = .ok (.ireturn, 1) := by decide +kernel
theorem dX11_nearest_78 : decode cX11_nearest 78 = .ok (.iload_n 3, 1) := by decide +kernel
theorem dX11_nearest_79 : decode cX11_nearest 79 = .ok (.iconst 1, 1) := by decide +kernel
theorem dX11_nearest_80 : decode cX11_nearest 80 = .ok (.if_icmp .ne 23, 3) := by decide +kernel
theorem dX11_nearest_83 : decode cX11_nearest 83 = .ok (.aload_n 0, 1) := by decide +kernel
theorem dX11_nearest_84 : decode cX11_nearest 84 = .ok (.getfield 19, 3) := by decide +kernel
theorem dX11_nearest_87 : decode cX11_nearest 87 = .ok (.aload 4, 2) := by decide +kernel
theorem dX11_nearest_89 : decode cX11_nearest 89 = .ok (.invokevirtual 138, 3) := by decide +kernel
theorem dX11_nearest_92 : decode cX11_nearest 92 = .ok (.aload 6, 2) := by decide +kernel
theorem dX11_nearest_94 : decode cX11_nearest 94 = .ok (.invokevirtual 245, 3) := by decide +kernel
theorem dX11_nearest_97 : decode cX11_nearest 97 = .ok (.invokevirtual 146, 3) := by decide +kernel
theorem dX11_nearest_100 : decode cX11_nearest 100 = .ok (.goto 11, 3) := by decide +kernel
theorem dX11_nearest_103 : decode cX11_nearest 103 = .ok (.aload 6, 2) := by decide +kernel
theorem dX11_nearest_105 : decode cX11_nearest 105 = .ok (.invokevirtual 230, 3) := by decide +kernel
theorem dX11_nearest_108 : decode cX11_nearest 108 = .ok (.invokevirtual 94, 3) := by decide +kernel
theorem dX11_nearest_111 : decode cX11_nearest 111 = .ok (.ireturn, 1) := by decide +kernel
theorem dX11_memory_0 : decode cX11_memory 0 = .ok (.aload_n 0, 1) := by decide +kernel
theorem dX11_memory_1 : decode cX11_memory 1 = .ok (.getfield 54, 3) := by decide +kernel
theorem dX11_memory_4 : decode cX11_memory 4 = .ok (.iload_n 1, 1) := by decide +kernel
theorem dX11_memory_5 : decode cX11_memory 5 = .ok (.invokevirtual 242, 3) := by decide +kernel
theorem dX11_memory_8 : decode cX11_memory 8 = .ok (.astore_n 3, 1) := by decide +kernel
theorem dX11_memory_9 : decode cX11_memory 9 = .ok (.aload_n 3, 1) := by decide +kernel
theorem dX11_memory_10 : decode cX11_memory 10 = .ok (.ifnonnull 5, 3) := by decide +kernel
theorem dX11_memory_13 : decode cX11_memory 13 = .ok (.iconst (-1), 1) := by decide +kernel
theorem dX11_memory_14 : decode cX11_memory 14 = .ok (.ireturn, 1) := by decide +kernel
theorem dX11_memory_15 : decode cX11_memory 15 = .ok (.iload_n 2, 1) := by decide +kernel
theorem dX11_memory_16 : decode cX11_memory 16 = .ok (.ifCond .ne 8, 3) := by decide +kernel
theorem dX11_memory_19 : decode cX11_memory 19 = .ok (.aload_n 3, 1) := by decide +kernel
theorem dX11_memory_20 : decode cX11_memory 20 = .ok (.invokevirtual 248, 3) := by decide +kernel
theorem dX11_memory_23 : decode cX11_memory 23 = .ok (.ireturn, 1) := by decide +kernel
theorem dX11_memory_24 : decode cX11_memory 24 = .ok (.iload_n 2, 1) := by decide +kernel
theorem dX11_memory_25 : decode cX11_memory 25 = .ok (.iconst 1, 1) := by decide +kernel
theorem dX11_memory_26 : decode cX11_memory 26 = .ok (.if_icmp .ne 11, 3) := by decide +kernel
theorem dX11_memory_29 : decode cX11_memory 29 = .ok (.aload_n 3, 1) := by decide +kernel
theorem dX11_memory_30 : decode cX11_memory 30 = .ok (.invokevirtual 245, 3) := by decide +kernel
theorem dX11_memory_33 : decode cX11_memory 33 = .ok (.invokevirtual 94, 3) := by decide +kernel
theorem dX11_memory_36 : decode cX11_memory 36 = .ok (.ireturn, 1) := by decide +kernel
theorem dX11_memory_37 : decode cX11_memory 37 = .ok (.iload_n 2, 1) := by decide +kernel
theorem dX11_memory_38 : decode cX11_memory 38 = .ok (.iconst 2, 1) := by decide +kernel
theorem dX11_memory_39 : decode cX11_memory 39 = .ok (.if_icmp .ne 11, 3) := by decide +kernel
theorem dX11_memory_42 : decode cX11_memory 42 = .ok (.aload_n 3, 1) := by decide +kernel
theorem dX11_memory_43 : decode cX11_memory 43 = .ok (.invokevirtual 230, 3) := by decide +kernel
theorem dX11_memory_46 : decode cX11_memory 46 = .ok (.invokevirtual 94, 3) := by decide +kernel
theorem dX11_memory_49 : decode cX11_memory 49 = .ok (.ireturn, 1) := by decide +kernel
theorem dX11_memory_50 : decode cX11_memory 50 = .ok (.iload_n 2, 1) := by decide +kernel
theorem dX11_memory_51 : decode cX11_memory 51 = .ok (.bipush 20, 2) := by decide +kernel
theorem dX11_memory_53 : decode cX11_memory 53 = .ok (.if_icmp .ge 16, 3) := by decide +kernel
theorem dX11_memory_56 : decode cX11_memory 56 = .ok (.aload_n 3, 1) := by decide +kernel
theorem dX11_memory_57 : decode cX11_memory 57 = .ok (.invokevirtual 245, 3) := by decide +kernel
theorem dX11_memory_60 : decode cX11_memory 60 = .ok (.iload_n 2, 1) := by decide +kernel
theorem dX11_memory_61 : decode cX11_memory 61 = .ok (.bipush 10, 2) := by decide +kernel
theorem dX11_memory_63 : decode cX11_memory 63 = .ok (.invokevirtual 142, 3) := by decide +kernel
theorem dX11_memory_66 : decode cX11_memory 66 = .ok (.goto 13, 3) := by decide +kernel
theorem dX11_memory_69 : decode cX11_memory 69 = .ok (.aload_n 3, 1) := by decide +kernel
theorem dX11_memory_70 : decode cX11_memory 70 = .ok (.invokevirtual 230, 3) := by decide +kernel
theorem dX11_memory_73 : decode cX11_memory 73 = .ok (.iload_n 2, 1) := by decide +kernel
theorem dX11_memory_74 : decode cX11_memory 74 = .ok (.bipush 20, 2) := by decide +kernel
theorem dX11_memory_76 : decode cX11_memory 76 = .ok (.invokevirtual 142, 3) := by decide +kernel
theorem dX11_memory_79 : decode cX11_memory 79 = .ok (.ireturn, 1) := by decide +kernel
theorem dX11_effort_0 : decode cX11_effort 0 = .ok (.aload_n 0, 1) := by decide +kernel
theorem dX11_effort_1 : decode cX11_effort 1 = .ok (.getfield 68, 3) := by decide +kernel
theorem dX11_effort_4 : decode cX11_effort 4 = .ok (.iload_n 1, 1) := by decide +kernel
theorem dX11_effort_5 : decode cX11_effort 5 = .ok (.invokevirtual 121, 3) := by decide +kernel
theorem dX11_effort_8 : decode cX11_effort 8 = .ok (.astore_n 3, 1) := by decide +kernel
theorem dX11_effort_9 : decode cX11_effort 9 = .ok (.aload_n 3, 1) := by decide +kernel
theorem dX11_effort_10 : decode cX11_effort 10 = .ok (.ifnull 10, 3) := by decide +kernel
theorem dX11_effort_13 : decode cX11_effort 13 = .ok (.iload_n 2, 1) := by decide +kernel
theorem dX11_effort_14 : decode cX11_effort 14 = .ok (.invokestatic 174, 3) := by decide +kernel
theorem dX11_effort_17 : decode cX11_effort 17 = .ok (.ifCond .ne 7, 3) := by decide +kernel
theorem dX11_effort_20 : decode cX11_effort 20 = .ok (.iconst (-1), 1) := by decide +kernel
theorem dX11_effort_21 : decode cX11_effort 21 = .ok (.goto 9, 3) := by decide +kernel
theorem dX11_effort_24 : decode cX11_effort 24 = .ok (.aload_n 0, 1) := by decide +kernel
theorem dX11_effort_25 : decode cX11_effort 25 = .ok (.aload_n 3, 1) := by decide +kernel
theorem dX11_effort_26 : decode cX11_effort 26 = .ok (.iload_n 2, 1) := by decide +kernel
theorem dX11_effort_27 : decode cX11_effort 27 = .ok (.invokevirtual 251, 3) := by decide +kernel
theorem dX11_effort_30 : decode cX11_effort 30 = .ok (.ireturn, 1) := by decide +kernel
theorem dX11_plan_0 : decode cX11_plan 0 = .ok (.iload_n 1, 1) := by decide +kernel
theorem dX11_plan_1 : decode cX11_plan 1 = .ok (.invokestatic 174, 3) := by decide +kernel
theorem dX11_plan_4 : decode cX11_plan 4 = .ok (.ifCond .eq 14, 3) := by decide +kernel
theorem dX11_plan_7 : decode cX11_plan 7 = .ok (.aload_n 0, 1) := by decide +kernel
theorem dX11_plan_8 : decode cX11_plan 8 = .ok (.getfield 68, 3) := by decide +kernel
theorem dX11_plan_11 : decode cX11_plan 11 = .ok (.iload_n 2, 1) := by decide +kernel
theorem dX11_plan_12 : decode cX11_plan 12 = .ok (.invokevirtual 121, 3) := by decide +kernel
theorem dX11_plan_15 : decode cX11_plan 15 = .ok (.ifnonnull 5, 3) := by decide +kernel
theorem dX11_plan_18 : decode cX11_plan 18 = .ok (.iconst (-1), 1) := by decide +kernel
theorem dX11_plan_19 : decode cX11_plan 19 = .ok (.ireturn, 1) := by decide +kernel
theorem dX11_plan_20 : decode cX11_plan 20 = .ok (.aload_n 0, 1) := by decide +kernel
theorem dX11_plan_21 : decode cX11_plan 21 = .ok (.iload_n 1, 1) := by decide +kernel
theorem dX11_plan_22 : decode cX11_plan 22 = .ok (.invokevirtual 255, 3) := by decide +kernel
theorem dX11_plan_25 : decode cX11_plan 25 = .ok (.aload_n 0, 1) := by decide +kernel
theorem dX11_plan_26 : decode cX11_plan 26 = .ok (.getfield 33, 3) := by decide +kernel
theorem dX11_plan_29 : decode cX11_plan 29 = .ok (.iload_n 2, 1) := by decide +kernel
theorem dX11_plan_30 : decode cX11_plan 30 = .ok (.invokevirtual 258, 3) := by decide +kernel
theorem dX11_plan_33 : decode cX11_plan 33 = .ok (.ireturn, 1) := by decide +kernel
theorem dX11_planned_0 : decode cX11_planned 0 = .ok (.iload_n 1, 1) := by decide +kernel
theorem dX11_planned_1 : decode cX11_planned 1 = .ok (.invokestatic 174, 3) := by decide +kernel
theorem dX11_planned_4 : decode cX11_planned 4 = .ok (.ifCond .eq 12, 3) := by decide +kernel
theorem dX11_planned_7 : decode cX11_planned 7 = .ok (.iload_n 2, 1) := by decide +kernel
theorem dX11_planned_8 : decode cX11_planned 8 = .ok (.iconst 0, 1) := by decide +kernel
theorem dX11_planned_9 : decode cX11_planned 9 = .ok (.iconst 2, 1) := by decide +kernel
theorem dX11_planned_10 : decode cX11_planned 10 = .ok (.invokestatic 101, 3) := by decide +kernel
theorem dX11_planned_13 : decode cX11_planned 13 = .ok (.ifCond .ne 5, 3) := by decide +kernel
theorem dX11_planned_16 : decode cX11_planned 16 = .ok (.iconst (-1), 1) := by decide +kernel
theorem dX11_planned_17 : decode cX11_planned 17 = .ok (.ireturn, 1) := by decide +kernel
theorem dX11_planned_18 : decode cX11_planned 18 = .ok (.aload_n 0, 1) := by decide +kernel
theorem dX11_planned_19 : decode cX11_planned 19 = .ok (.iload_n 1, 1) := by decide +kernel
theorem dX11_planned_20 : decode cX11_planned 20 = .ok (.invokevirtual 255, 3) := by decide +kernel
theorem dX11_planned_23 : decode cX11_planned 23 = .ok (.iload_n 2, 1) := by decide +kernel
theorem dX11_planned_24 : decode cX11_planned 24 = .ok (.ifCond .ne 11, 3) := by decide +kernel
theorem dX11_planned_27 : decode cX11_planned 27 = .ok (.aload_n 0, 1) := by decide +kernel
theorem dX11_planned_28 : decode cX11_planned 28 = .ok (.getfield 33, 3) := by decide +kernel
theorem dX11_planned_31 : decode cX11_planned 31 = .ok (.invokevirtual 261, 3) := by decide +kernel
theorem dX11_planned_34 : decode cX11_planned 34 = .ok (.ireturn, 1) := by decide +kernel
theorem dX11_planned_35 : decode cX11_planned 35 = .ok (.iload_n 2, 1) := by decide +kernel
theorem dX11_planned_36 : decode cX11_planned 36 = .ok (.iconst 1, 1) := by decide +kernel
theorem dX11_planned_37 : decode cX11_planned 37 = .ok (.if_icmp .ne 13, 3) := by decide +kernel
theorem dX11_planned_40 : decode cX11_planned 40 = .ok (.aload_n 0, 1) := by decide +kernel
theorem dX11_planned_41 : decode cX11_planned 41 = .ok (.getfield 33, 3) := by decide +kernel
theorem dX11_planned_44 : decode cX11_planned 44 = .ok (.invokevirtual 264, 3) := by decide +kernel
theorem dX11_planned_47 : decode cX11_planned 47 = .ok (.goto 10, 3) := by decide +kernel
theorem dX11_planned_50 : decode cX11_planned 50 = .ok (.aload_n 0, 1) := by decide +kernel
theorem dX11_planned_51 : decode cX11_planned 51 = .ok (.getfield 33, 3) := by decide +kernel
theorem dX11_planned_54 : decode cX11_planned 54 = .ok (.invokevirtual 267, 3) := by decide +kernel
theorem dX11_planned_57 : decode cX11_planned 57 = .ok (.ireturn, 1) := by decide +kernel
theorem dX11_release_0 : decode cX11_release 0 = .ok (.iload_n 1, 1) := by decide +kernel
theorem dX11_release_1 : decode cX11_release 1 = .ok (.invokestatic 174, 3) := by decide +kernel
theorem dX11_release_4 : decode cX11_release 4 = .ok (.ifCond .eq 15, 3) := by decide +kernel
theorem dX11_release_7 : decode cX11_release 7 = .ok (.aload_n 0, 1) := by decide +kernel
theorem dX11_release_8 : decode cX11_release 8 = .ok (.getfield 68, 3) := by decide +kernel
theorem dX11_release_11 : decode cX11_release 11 = .ok (.iload_n 1, 1) := by decide +kernel
theorem dX11_release_12 : decode cX11_release 12 = .ok (.iload_n 2, 1) := by decide +kernel
theorem dX11_release_13 : decode cX11_release 13 = .ok (.invokevirtual 270, 3) := by decide +kernel
theorem dX11_release_16 : decode cX11_release 16 = .ok (.goto 4, 3) := by decide +kernel
theorem dX11_release_19 : decode cX11_release 19 = .ok (.iconst (-1), 1) := by decide +kernel
theorem dX11_release_20 : decode cX11_release 20 = .ok (.ireturn, 1) := by decide +kernel
theorem dX11_many_0 : decode cX11_many 0 = .ok (.iload_n 1, 1) := by decide +kernel
theorem dX11_many_1 : decode cX11_many 1 = .ok (.tableswitch 126 0 8 #[51, 59, 67, 75, 83, 91, 99, 108, 117], 51) := by decide +kernel
theorem dX11_many_52 : decode cX11_many 52 = .ok (.aload_n 0, 1) := by decide +kernel
theorem dX11_many_53 : decode cX11_many 53 = .ok (.getfield 68, 3) := by decide +kernel
theorem dX11_many_56 : decode cX11_many 56 = .ok (.invokevirtual 113, 3) := by decide +kernel
theorem dX11_many_59 : decode cX11_many 59 = .ok (.ireturn, 1) := by decide +kernel
theorem dX11_many_60 : decode cX11_many 60 = .ok (.aload_n 0, 1) := by decide +kernel
theorem dX11_many_61 : decode cX11_many 61 = .ok (.getfield 71, 3) := by decide +kernel
theorem dX11_many_64 : decode cX11_many 64 = .ok (.invokevirtual 113, 3) := by decide +kernel
theorem dX11_many_67 : decode cX11_many 67 = .ok (.ireturn, 1) := by decide +kernel
theorem dX11_many_68 : decode cX11_many 68 = .ok (.aload_n 0, 1) := by decide +kernel
theorem dX11_many_69 : decode cX11_many 69 = .ok (.getfield 12, 3) := by decide +kernel
theorem dX11_many_72 : decode cX11_many 72 = .ok (.invokevirtual 94, 3) := by decide +kernel
theorem dX11_many_75 : decode cX11_many 75 = .ok (.ireturn, 1) := by decide +kernel
theorem dX11_many_76 : decode cX11_many 76 = .ok (.aload_n 0, 1) := by decide +kernel
theorem dX11_many_77 : decode cX11_many 77 = .ok (.getfield 40, 3) := by decide +kernel
theorem dX11_many_80 : decode cX11_many 80 = .ok (.invokevirtual 160, 3) := by decide +kernel
theorem dX11_many_83 : decode cX11_many 83 = .ok (.ireturn, 1) := by decide +kernel
theorem dX11_many_84 : decode cX11_many 84 = .ok (.aload_n 0, 1) := by decide +kernel
theorem dX11_many_85 : decode cX11_many 85 = .ok (.getfield 47, 3) := by decide +kernel
theorem dX11_many_88 : decode cX11_many 88 = .ok (.invokevirtual 186, 3) := by decide +kernel
theorem dX11_many_91 : decode cX11_many 91 = .ok (.ireturn, 1) := by decide +kernel
theorem dX11_many_92 : decode cX11_many 92 = .ok (.aload_n 0, 1) := by decide +kernel
theorem dX11_many_93 : decode cX11_many 93 = .ok (.getfield 54, 3) := by decide +kernel
theorem dX11_many_96 : decode cX11_many 96 = .ok (.invokevirtual 225, 3) := by decide +kernel
theorem dX11_many_99 : decode cX11_many 99 = .ok (.ireturn, 1) := by decide +kernel
theorem dX11_many_100 : decode cX11_many 100 = .ok (.aload_n 0, 1) := by decide +kernel
theorem dX11_many_101 : decode cX11_many 101 = .ok (.getfield 68, 3) := by decide +kernel
theorem dX11_many_104 : decode cX11_many 104 = .ok (.iconst 1, 1) := by decide +kernel
theorem dX11_many_105 : decode cX11_many 105 = .ok (.invokevirtual 273, 3) := by decide +kernel
theorem dX11_many_108 : decode cX11_many 108 = .ok (.ireturn, 1) := by decide +kernel
theorem dX11_many_109 : decode cX11_many 109 = .ok (.aload_n 0, 1) := by decide +kernel
theorem dX11_many_110 : decode cX11_many 110 = .ok (.getfield 68, 3) := by decide +kernel
theorem dX11_many_113 : decode cX11_many 113 = .ok (.iconst 2, 1) := by decide +kernel
theorem dX11_many_114 : decode cX11_many 114 = .ok (.invokevirtual 273, 3) := by decide +kernel
theorem dX11_many_117 : decode cX11_many 117 = .ok (.ireturn, 1) := by decide +kernel
theorem dX11_many_118 : decode cX11_many 118 = .ok (.aload_n 0, 1) := by decide +kernel
theorem dX11_many_119 : decode cX11_many 119 = .ok (.getfield 68, 3) := by decide +kernel
theorem dX11_many_122 : decode cX11_many 122 = .ok (.iconst 3, 1) := by decide +kernel
theorem dX11_many_123 : decode cX11_many 123 = .ok (.invokevirtual 273, 3) := by decide +kernel
theorem dX11_many_126 : decode cX11_many 126 = .ok (.ireturn, 1) := by decide +kernel
theorem dX11_many_127 : decode cX11_many 127 = .ok (.iload_n 1, 1) := by decide +kernel
theorem dX11_many_128 : decode cX11_many 128 = .ok (.bipush 9, 2) := by decide +kernel
theorem dX11_many_130 : decode cX11_many 130 = .ok (.bipush 11, 2) := by decide +kernel
theorem dX11_many_132 : decode cX11_many 132 = .ok (.invokestatic 101, 3) := by decide +kernel
theorem dX11_many_135 : decode cX11_many 135 = .ok (.ifCond .eq 17, 3) := by decide +kernel
theorem dX11_many_138 : decode cX11_many 138 = .ok (.aload_n 0, 1) := by decide +kernel
theorem dX11_many_139 : decode cX11_many 139 = .ok (.getfield 68, 3) := by decide +kernel
theorem dX11_many_142 : decode cX11_many 142 = .ok (.iload_n 1, 1) := by decide +kernel
theorem dX11_many_143 : decode cX11_many 143 = .ok (.bipush 9, 2) := by decide +kernel
theorem dX11_many_145 : decode cX11_many 145 = .ok (.isub, 1) := by decide +kernel
theorem dX11_many_146 : decode cX11_many 146 = .ok (.invokevirtual 276, 3) := by decide +kernel
theorem dX11_many_149 : decode cX11_many 149 = .ok (.goto 4, 3) := by decide +kernel
theorem dX11_many_152 : decode cX11_many 152 = .ok (.iconst (-1), 1) := by decide +kernel
theorem dX11_many_153 : decode cX11_many 153 = .ok (.ireturn, 1) := by decide +kernel
theorem dX11_keep_0 : decode cX11_keep 0 = .ok (.aload_n 0, 1) := by decide +kernel
theorem dX11_keep_1 : decode cX11_keep 1 = .ok (.getfield 64, 3) := by decide +kernel
theorem dX11_keep_4 : decode cX11_keep 4 = .ok (.aload_n 0, 1) := by decide +kernel
theorem dX11_keep_5 : decode cX11_keep 5 = .ok (.getfield 68, 3) := by decide +kernel
theorem dX11_keep_8 : decode cX11_keep 8 = .ok (.invokevirtual 279, 3) := by decide +kernel
theorem dX11_keep_11 : decode cX11_keep 11 = .ok (.aload_n 0, 1) := by decide +kernel
theorem dX11_keep_12 : decode cX11_keep 12 = .ok (.getfield 58, 3) := by decide +kernel
theorem dX11_keep_15 : decode cX11_keep 15 = .ok (.aload_n 0, 1) := by decide +kernel
theorem dX11_keep_16 : decode cX11_keep 16 = .ok (.getfield 54, 3) := by decide +kernel
theorem dX11_keep_19 : decode cX11_keep 19 = .ok (.invokevirtual 283, 3) := by decide +kernel
theorem dX11_keep_22 : decode cX11_keep 22 = .ok (.aload_n 0, 1) := by decide +kernel
theorem dX11_keep_23 : decode cX11_keep 23 = .ok (.iconst 1, 1) := by decide +kernel
theorem dX11_keep_24 : decode cX11_keep 24 = .ok (.putfield 78, 3) := by decide +kernel
theorem dX11_keep_27 : decode cX11_keep 27 = .ok (.iconst 1, 1) := by decide +kernel
theorem dX11_keep_28 : decode cX11_keep 28 = .ok (.ireturn, 1) := by decide +kernel
theorem dX11_back_0 : decode cX11_back 0 = .ok (.aload_n 0, 1) := by decide +kernel
theorem dX11_back_1 : decode cX11_back 1 = .ok (.getfield 78, 3) := by decide +kernel
theorem dX11_back_4 : decode cX11_back 4 = .ok (.ifCond .ne 6, 3) := by decide +kernel
theorem dX11_back_7 : decode cX11_back 7 = .ok (.bipush (-5), 2) := by decide +kernel
theorem dX11_back_9 : decode cX11_back 9 = .ok (.ireturn, 1) := by decide +kernel
theorem dX11_back_10 : decode cX11_back 10 = .ok (.aload_n 0, 1) := by decide +kernel
theorem dX11_back_11 : decode cX11_back 11 = .ok (.getfield 68, 3) := by decide +kernel
theorem dX11_back_14 : decode cX11_back 14 = .ok (.aload_n 0, 1) := by decide +kernel
theorem dX11_back_15 : decode cX11_back 15 = .ok (.getfield 64, 3) := by decide +kernel
theorem dX11_back_18 : decode cX11_back 18 = .ok (.invokevirtual 279, 3) := by decide +kernel
theorem dX11_back_21 : decode cX11_back 21 = .ok (.aload_n 0, 1) := by decide +kernel
theorem dX11_back_22 : decode cX11_back 22 = .ok (.getfield 54, 3) := by decide +kernel
theorem dX11_back_25 : decode cX11_back 25 = .ok (.aload_n 0, 1) := by decide +kernel
theorem dX11_back_26 : decode cX11_back 26 = .ok (.getfield 58, 3) := by decide +kernel
theorem dX11_back_29 : decode cX11_back 29 = .ok (.invokevirtual 283, 3) := by decide +kernel
theorem dX11_back_32 : decode cX11_back 32 = .ok (.iconst 1, 1) := by decide +kernel
theorem dX11_back_33 : decode cX11_back 33 = .ok (.ireturn, 1) := by decide +kernel
theorem dX11_isIn_0 : decode cX11_isIn 0 = .ok (.iload_n 0, 1) := by decide +kernel
theorem dX11_isIn_1 : decode cX11_isIn 1 = .ok (.iload_n 1, 1) := by decide +kernel
theorem dX11_isIn_2 : decode cX11_isIn 2 = .ok (.if_icmp .lt 12, 3) := by decide +kernel
theorem dX11_isIn_5 : decode cX11_isIn 5 = .ok (.iload_n 0, 1) := by decide +kernel
theorem dX11_isIn_6 : decode cX11_isIn 6 = .ok (.iload_n 2, 1) := by decide +kernel
theorem dX11_isIn_7 : decode cX11_isIn 7 = .ok (.if_icmp .gt 7, 3) := by decide +kernel
theorem dX11_isIn_10 : decode cX11_isIn 10 = .ok (.iconst 1, 1) := by decide +kernel
theorem dX11_isIn_11 : decode cX11_isIn 11 = .ok (.goto 4, 3) := by decide +kernel
theorem dX11_isIn_14 : decode cX11_isIn 14 = .ok (.iconst 0, 1) := by decide +kernel
theorem dX11_isIn_15 : decode cX11_isIn 15 = .ok (.ireturn, 1) := by decide +kernel
theorem dX11_isWord_0 : decode cX11_isWord 0 = .ok (.iload_n 0, 1) := by decide +kernel
theorem dX11_isWord_1 : decode cX11_isWord 1 = .ok (.iconst 0, 1) := by decide +kernel
theorem dX11_isWord_2 : decode cX11_isWord 2 = .ok (.bipush 99, 2) := by decide +kernel
theorem dX11_isWord_4 : decode cX11_isWord 4 = .ok (.invokestatic 101, 3) := by decide +kernel
theorem dX11_isWord_7 : decode cX11_isWord 7 = .ok (.ireturn, 1) := by decide +kernel
theorem dX11_isOwnWord_0 : decode cX11_isOwnWord 0 = .ok (.iload_n 0, 1) := by decide +kernel
theorem dX11_isOwnWord_1 : decode cX11_isOwnWord 1 = .ok (.sipush 200, 3) := by decide +kernel
theorem dX11_isOwnWord_4 : decode cX11_isOwnWord 4 = .ok (.sipush 299, 3) := by decide +kernel
theorem dX11_isOwnWord_7 : decode cX11_isOwnWord 7 = .ok (.invokestatic 101, 3) := by decide +kernel
theorem dX11_isOwnWord_10 : decode cX11_isOwnWord 10 = .ok (.ireturn, 1) := by decide +kernel
theorem dX11_isSign_0 : decode cX11_isSign 0 = .ok (.iload_n 0, 1) := by decide +kernel
theorem dX11_isSign_1 : decode cX11_isSign 1 = .ok (.invokestatic 171, 3) := by decide +kernel
theorem dX11_isSign_4 : decode cX11_isSign 4 = .ok (.ifCond .ne 21, 3) := by decide +kernel
theorem dX11_isSign_7 : decode cX11_isSign 7 = .ok (.iload_n 0, 1) := by decide +kernel
theorem dX11_isSign_8 : decode cX11_isSign 8 = .ok (.invokestatic 177, 3) := by decide +kernel
theorem dX11_isSign_11 : decode cX11_isSign 11 = .ok (.ifCond .ne 14, 3) := by decide +kernel
theorem dX11_isSign_14 : decode cX11_isSign 14 = .ok (.iload_n 0, 1) := by decide +kernel
theorem dX11_isSign_15 : decode cX11_isSign 15 = .ok (.bipush 100, 2) := by decide +kernel
theorem dX11_isSign_17 : decode cX11_isSign 17 = .ok (.bipush 103, 2) := by decide +kernel
theorem dX11_isSign_19 : decode cX11_isSign 19 = .ok (.invokestatic 101, 3) := by decide +kernel
theorem dX11_isSign_22 : decode cX11_isSign 22 = .ok (.ifCond .eq 7, 3) := by decide +kernel
theorem dX11_isSign_25 : decode cX11_isSign 25 = .ok (.iconst 1, 1) := by decide +kernel
theorem dX11_isSign_26 : decode cX11_isSign 26 = .ok (.goto 4, 3) := by decide +kernel
theorem dX11_isSign_29 : decode cX11_isSign 29 = .ok (.iconst 0, 1) := by decide +kernel
theorem dX11_isSign_30 : decode cX11_isSign 30 = .ok (.ireturn, 1) := by decide +kernel
theorem dX11_isTongue_0 : decode cX11_isTongue 0 = .ok (.iload_n 0, 1) := by decide +kernel
theorem dX11_isTongue_1 : decode cX11_isTongue 1 = .ok (.iconst 0, 1) := by decide +kernel
theorem dX11_isTongue_2 : decode cX11_isTongue 2 = .ok (.iconst 2, 1) := by decide +kernel
theorem dX11_isTongue_3 : decode cX11_isTongue 3 = .ok (.invokestatic 101, 3) := by decide +kernel
theorem dX11_isTongue_6 : decode cX11_isTongue 6 = .ok (.ireturn, 1) := by decide +kernel
theorem dX11_textAt_0 : decode cX11_textAt 0 = .ok (.aload_n 0, 1) := by decide +kernel
theorem dX11_textAt_1 : decode cX11_textAt 1 = .ok (.getfield 68, 3) := by decide +kernel
theorem dX11_textAt_4 : decode cX11_textAt 4 = .ok (.iload_n 1, 1) := by decide +kernel
theorem dX11_textAt_5 : decode cX11_textAt 5 = .ok (.invokevirtual 121, 3) := by decide +kernel
theorem dX11_textAt_8 : decode cX11_textAt 8 = .ok (.astore_n 3, 1) := by decide +kernel
theorem dX11_textAt_9 : decode cX11_textAt 9 = .ok (.aload_n 3, 1) := by decide +kernel
theorem dX11_textAt_10 : decode cX11_textAt 10 = .ok (.ifnonnull 7, 3) := by decide +kernel
theorem dX11_textAt_13 : decode cX11_textAt 13 = .ok (.aconst_null, 1) := by decide +kernel
theorem dX11_textAt_14 : decode cX11_textAt 14 = .ok (.goto 8, 3) := by decide +kernel
theorem dX11_textAt_17 : decode cX11_textAt 17 = .ok (.aload_n 3, 1) := by decide +kernel
theorem dX11_textAt_18 : decode cX11_textAt 18 = .ok (.iload_n 2, 1) := by decide +kernel
theorem dX11_textAt_19 : decode cX11_textAt 19 = .ok (.invokevirtual 286, 3) := by decide +kernel
theorem dX11_textAt_22 : decode cX11_textAt 22 = .ok (.areturn, 1) := by decide +kernel
theorem dX11_takeOver_0 : decode cX11_takeOver 0 = .ok (.aload_n 0, 1) := by decide +kernel
theorem dX11_takeOver_1 : decode cX11_takeOver 1 = .ok (.getfield 68, 3) := by decide +kernel
theorem dX11_takeOver_4 : decode cX11_takeOver 4 = .ok (.iload_n 2, 1) := by decide +kernel
theorem dX11_takeOver_5 : decode cX11_takeOver 5 = .ok (.invokevirtual 121, 3) := by decide +kernel
theorem dX11_takeOver_8 : decode cX11_takeOver 8 = .ok (.astore_n 3, 1) := by decide +kernel
theorem dX11_takeOver_9 : decode cX11_takeOver 9 = .ok (.aload_n 1, 1) := by decide +kernel
theorem dX11_takeOver_10 : decode cX11_takeOver 10 = .ok (.ifnull 28, 3) := by decide +kernel
theorem dX11_takeOver_13 : decode cX11_takeOver 13 = .ok (.aload_n 3, 1) := by decide +kernel
theorem dX11_takeOver_14 : decode cX11_takeOver 14 = .ok (.ifnull 24, 3) := by decide +kernel
theorem dX11_takeOver_17 : decode cX11_takeOver 17 = .ok (.aload_n 1, 1) := by decide +kernel
theorem dX11_takeOver_18 : decode cX11_takeOver 18 = .ok (.aload_n 3, 1) := by decide +kernel
theorem dX11_takeOver_19 : decode cX11_takeOver 19 = .ok (.iload_n 2, 1) := by decide +kernel
theorem dX11_takeOver_20 : decode cX11_takeOver 20 = .ok (.aload_n 0, 1) := by decide +kernel
theorem dX11_takeOver_21 : decode cX11_takeOver 21 = .ok (.getfield 19, 3) := by decide +kernel
theorem dX11_takeOver_24 : decode cX11_takeOver 24 = .ok (.aload_n 1, 1) := by decide +kernel
theorem dX11_takeOver_25 : decode cX11_takeOver 25 = .ok (.invokevirtual 138, 3) := by decide +kernel
theorem dX11_takeOver_28 : decode cX11_takeOver 28 = .ok (.aload_n 3, 1) := by decide +kernel
theorem dX11_takeOver_29 : decode cX11_takeOver 29 = .ok (.invokevirtual 138, 3) := by decide +kernel
theorem dX11_takeOver_32 : decode cX11_takeOver 32 = .ok (.invokevirtual 146, 3) := by decide +kernel
theorem dX11_takeOver_35 : decode cX11_takeOver 35 = .ok (.invokevirtual 290, 3) := by decide +kernel
theorem dX11_takeOver_38 : decode cX11_takeOver 38 = .ok (.return_, 1) := by decide +kernel
theorem dX11_whyNoWriting_0 : decode cX11_whyNoWriting 0 = .ok (.aload_n 0, 1) := by decide +kernel
theorem dX11_whyNoWriting_1 : decode cX11_whyNoWriting 1 = .ok (.getfield 68, 3) := by decide +kernel
theorem dX11_whyNoWriting_4 : decode cX11_whyNoWriting 4 = .ok (.iload_n 1, 1) := by decide +kernel
theorem dX11_whyNoWriting_5 : decode cX11_whyNoWriting 5 = .ok (.invokevirtual 121, 3) := by decide +kernel
theorem dX11_whyNoWriting_8 : decode cX11_whyNoWriting 8 = .ok (.astore 4, 2) := by decide +kernel
theorem dX11_whyNoWriting_10 : decode cX11_whyNoWriting 10 = .ok (.aload 4, 2) := by decide +kernel
theorem dX11_whyNoWriting_12 : decode cX11_whyNoWriting 12 = .ok (.ifnull 21, 3) := by decide +kernel
theorem dX11_whyNoWriting_15 : decode cX11_whyNoWriting 15 = .ok (.iload_n 2, 1) := by decide +kernel
theorem dX11_whyNoWriting_16 : decode cX11_whyNoWriting 16 = .ok (.invokestatic 174, 3) := by decide +kernel
theorem dX11_whyNoWriting_19 : decode cX11_whyNoWriting 19 = .ok (.ifCond .eq 14, 3) := by decide +kernel
theorem dX11_whyNoWriting_22 : decode cX11_whyNoWriting 22 = .ok (.aload_n 0, 1) := by decide +kernel
theorem dX11_whyNoWriting_23 : decode cX11_whyNoWriting 23 = .ok (.getfield 40, 3) := by decide +kernel
theorem dX11_whyNoWriting_26 : decode cX11_whyNoWriting 26 = .ok (.iload_n 3, 1) := by decide +kernel
theorem dX11_whyNoWriting_27 : decode cX11_whyNoWriting 27 = .ok (.invokevirtual 161, 3) := by decide +kernel
theorem dX11_whyNoWriting_30 : decode cX11_whyNoWriting 30 = .ok (.ifCond .ne 5, 3) := by decide +kernel
theorem dX11_whyNoWriting_33 : decode cX11_whyNoWriting 33 = .ok (.iconst (-1), 1) := by decide +kernel
theorem dX11_whyNoWriting_34 : decode cX11_whyNoWriting 34 = .ok (.ireturn, 1) := by decide +kernel
theorem dX11_whyNoWriting_35 : decode cX11_whyNoWriting 35 = .ok (.aload 4, 2) := by decide +kernel
theorem dX11_whyNoWriting_37 : decode cX11_whyNoWriting 37 = .ok (.invokevirtual 133, 3) := by decide +kernel
theorem dX11_whyNoWriting_40 : decode cX11_whyNoWriting 40 = .ok (.iconst 1, 1) := by decide +kernel
theorem dX11_whyNoWriting_41 : decode cX11_whyNoWriting 41 = .ok (.if_icmp .eq 15, 3) := by decide +kernel
theorem dX11_whyNoWriting_44 : decode cX11_whyNoWriting 44 = .ok (.aload_n 0, 1) := by decide +kernel
theorem dX11_whyNoWriting_45 : decode cX11_whyNoWriting 45 = .ok (.getfield 40, 3) := by decide +kernel
theorem dX11_whyNoWriting_48 : decode cX11_whyNoWriting 48 = .ok (.iload_n 3, 1) := by decide +kernel
theorem dX11_whyNoWriting_49 : decode cX11_whyNoWriting 49 = .ok (.iload_n 2, 1) := by decide +kernel
theorem dX11_whyNoWriting_50 : decode cX11_whyNoWriting 50 = .ok (.invokevirtual 207, 3) := by decide +kernel
theorem dX11_whyNoWriting_53 : decode cX11_whyNoWriting 53 = .ok (.ifCond .ne 8, 3) := by decide +kernel
theorem dX11_whyNoWriting_56 : decode cX11_whyNoWriting 56 = .ok (.bipush (-3), 2) := by decide +kernel
theorem dX11_whyNoWriting_58 : decode cX11_whyNoWriting 58 = .ok (.goto 4, 3) := by decide +kernel
theorem dX11_whyNoWriting_61 : decode cX11_whyNoWriting 61 = .ok (.iconst 0, 1) := by decide +kernel
theorem dX11_whyNoWriting_62 : decode cX11_whyNoWriting 62 = .ok (.ireturn, 1) := by decide +kernel
theorem dX11_faultOf_0 : decode cX11_faultOf 0 = .ok (.aload_n 1, 1) := by decide +kernel
theorem dX11_faultOf_1 : decode cX11_faultOf 1 = .ok (.invokevirtual 138, 3) := by decide +kernel
theorem dX11_faultOf_4 : decode cX11_faultOf 4 = .ok (.aload_n 2, 1) := by decide +kernel
theorem dX11_faultOf_5 : decode cX11_faultOf 5 = .ok (.invokevirtual 220, 3) := by decide +kernel
theorem dX11_faultOf_8 : decode cX11_faultOf 8 = .ok (.invokestatic 294, 3) := by decide +kernel
theorem dX11_faultOf_11 : decode cX11_faultOf 11 = .ok (.ifCond .eq 5, 3) := by decide +kernel
theorem dX11_faultOf_14 : decode cX11_faultOf 14 = .ok (.iconst 1, 1) := by decide +kernel
theorem dX11_faultOf_15 : decode cX11_faultOf 15 = .ok (.ireturn, 1) := by decide +kernel
theorem dX11_faultOf_16 : decode cX11_faultOf 16 = .ok (.aload_n 0, 1) := by decide +kernel
theorem dX11_faultOf_17 : decode cX11_faultOf 17 = .ok (.aload_n 1, 1) := by decide +kernel
theorem dX11_faultOf_18 : decode cX11_faultOf 18 = .ok (.invokevirtual 138, 3) := by decide +kernel
theorem dX11_faultOf_21 : decode cX11_faultOf 21 = .ok (.aload_n 2, 1) := by decide +kernel
theorem dX11_faultOf_22 : decode cX11_faultOf 22 = .ok (.invokevirtual 220, 3) := by decide +kernel
theorem dX11_faultOf_25 : decode cX11_faultOf 25 = .ok (.iload_n 3, 1) := by decide +kernel
theorem dX11_faultOf_26 : decode cX11_faultOf 26 = .ok (.invokevirtual 298, 3) := by decide +kernel
theorem dX11_faultOf_29 : decode cX11_faultOf 29 = .ok (.ifCond .eq 5, 3) := by decide +kernel
theorem dX11_faultOf_32 : decode cX11_faultOf 32 = .ok (.iconst 2, 1) := by decide +kernel
theorem dX11_faultOf_33 : decode cX11_faultOf 33 = .ok (.ireturn, 1) := by decide +kernel
theorem dX11_faultOf_34 : decode cX11_faultOf 34 = .ok (.aload_n 1, 1) := by decide +kernel
theorem dX11_faultOf_35 : decode cX11_faultOf 35 = .ok (.invokevirtual 133, 3) := by decide +kernel
theorem dX11_faultOf_38 : decode cX11_faultOf 38 = .ok (.iconst 2, 1) := by decide +kernel
theorem dX11_faultOf_39 : decode cX11_faultOf 39 = .ok (.if_icmp .ne 21, 3) := by decide +kernel
theorem dX11_faultOf_42 : decode cX11_faultOf 42 = .ok (.aload_n 2, 1) := by decide +kernel
theorem dX11_faultOf_43 : decode cX11_faultOf 43 = .ok (.invokevirtual 220, 3) := by decide +kernel
theorem dX11_faultOf_46 : decode cX11_faultOf 46 = .ok (.invokevirtual 94, 3) := by decide +kernel
theorem dX11_faultOf_49 : decode cX11_faultOf 49 = .ok (.aload_n 0, 1) := by decide +kernel
theorem dX11_faultOf_50 : decode cX11_faultOf 50 = .ok (.getfield 74, 3) := by decide +kernel
theorem dX11_faultOf_53 : decode cX11_faultOf 53 = .ok (.if_icmp .le 7, 3) := by decide +kernel
theorem dX11_faultOf_56 : decode cX11_faultOf 56 = .ok (.iconst 3, 1) := by decide +kernel
theorem dX11_faultOf_57 : decode cX11_faultOf 57 = .ok (.goto 4, 3) := by decide +kernel
theorem dX11_faultOf_60 : decode cX11_faultOf 60 = .ok (.iconst 0, 1) := by decide +kernel
theorem dX11_faultOf_61 : decode cX11_faultOf 61 = .ok (.ireturn, 1) := by decide +kernel
theorem dX11_hasOtherHoles_0 : decode cX11_hasOtherHoles 0 = .ok (.bipush 100, 2) := by decide +kernel
theorem dX11_hasOtherHoles_2 : decode cX11_hasOtherHoles 2 = .ok (.istore_n 2, 1) := by decide +kernel
theorem dX11_hasOtherHoles_3 : decode cX11_hasOtherHoles 3 = .ok (.iload_n 2, 1) := by decide +kernel
theorem dX11_hasOtherHoles_4 : decode cX11_hasOtherHoles 4 = .ok (.bipush 104, 2) := by decide +kernel
theorem dX11_hasOtherHoles_6 : decode cX11_hasOtherHoles 6 = .ok (.if_icmp .ge 24, 3) := by decide +kernel
theorem dX11_hasOtherHoles_9 : decode cX11_hasOtherHoles 9 = .ok (.aload_n 0, 1) := by decide +kernel
theorem dX11_hasOtherHoles_10 : decode cX11_hasOtherHoles 10 = .ok (.iload_n 2, 1) := by decide +kernel
theorem dX11_hasOtherHoles_11 : decode cX11_hasOtherHoles 11 = .ok (.invokevirtual 302, 3) := by decide +kernel
theorem dX11_hasOtherHoles_14 : decode cX11_hasOtherHoles 14 = .ok (.aload_n 1, 1) := by decide +kernel
theorem dX11_hasOtherHoles_15 : decode cX11_hasOtherHoles 15 = .ok (.iload_n 2, 1) := by decide +kernel
theorem dX11_hasOtherHoles_16 : decode cX11_hasOtherHoles 16 = .ok (.invokevirtual 302, 3) := by decide +kernel
theorem dX11_hasOtherHoles_19 : decode cX11_hasOtherHoles 19 = .ok (.if_icmp .eq 5, 3) := by decide +kernel
theorem dX11_hasOtherHoles_22 : decode cX11_hasOtherHoles 22 = .ok (.iconst 1, 1) := by decide +kernel
theorem dX11_hasOtherHoles_23 : decode cX11_hasOtherHoles 23 = .ok (.ireturn, 1) := by decide +kernel
theorem dX11_hasOtherHoles_24 : decode cX11_hasOtherHoles 24 = .ok (.iinc 2 1, 3) := by decide +kernel
theorem dX11_hasOtherHoles_27 : decode cX11_hasOtherHoles 27 = .ok (.goto (-24), 3) := by decide +kernel
theorem dX11_hasOtherHoles_30 : decode cX11_hasOtherHoles 30 = .ok (.iconst 0, 1) := by decide +kernel
theorem dX11_hasOtherHoles_31 : decode cX11_hasOtherHoles 31 = .ok (.ireturn, 1) := by decide +kernel
theorem dX11_lacksTerm_0 : decode cX11_lacksTerm 0 = .ok (.iconst 0, 1) := by decide +kernel
theorem dX11_lacksTerm_1 : decode cX11_lacksTerm 1 = .ok (.istore 4, 2) := by decide +kernel
theorem dX11_lacksTerm_3 : decode cX11_lacksTerm 3 = .ok (.iload 4, 2) := by decide +kernel
theorem dX11_lacksTerm_5 : decode cX11_lacksTerm 5 = .ok (.aload_n 1, 1) := by decide +kernel
theorem dX11_lacksTerm_6 : decode cX11_lacksTerm 6 = .ok (.invokevirtual 94, 3) := by decide +kernel
theorem dX11_lacksTerm_9 : decode cX11_lacksTerm 9 = .ok (.if_icmp .ge 49, 3) := by decide +kernel
theorem dX11_lacksTerm_12 : decode cX11_lacksTerm 12 = .ok (.aload_n 1, 1) := by decide +kernel
theorem dX11_lacksTerm_13 : decode cX11_lacksTerm 13 = .ok (.iload 4, 2) := by decide +kernel
theorem dX11_lacksTerm_15 : decode cX11_lacksTerm 15 = .ok (.invokevirtual 305, 3) := by decide +kernel
theorem dX11_lacksTerm_18 : decode cX11_lacksTerm 18 = .ok (.istore 5, 2) := by decide +kernel
theorem dX11_lacksTerm_20 : decode cX11_lacksTerm 20 = .ok (.aload_n 0, 1) := by decide +kernel
theorem dX11_lacksTerm_21 : decode cX11_lacksTerm 21 = .ok (.getfield 47, 3) := by decide +kernel
theorem dX11_lacksTerm_24 : decode cX11_lacksTerm 24 = .ok (.iload 5, 2) := by decide +kernel
theorem dX11_lacksTerm_26 : decode cX11_lacksTerm 26 = .ok (.iload_n 3, 1) := by decide +kernel
theorem dX11_lacksTerm_27 : decode cX11_lacksTerm 27 = .ok (.invokevirtual 181, 3) := by decide +kernel
theorem dX11_lacksTerm_30 : decode cX11_lacksTerm 30 = .ok (.ifCond .eq 22, 3) := by decide +kernel
theorem dX11_lacksTerm_33 : decode cX11_lacksTerm 33 = .ok (.aload_n 2, 1) := by decide +kernel
theorem dX11_lacksTerm_34 : decode cX11_lacksTerm 34 = .ok (.aload_n 0, 1) := by decide +kernel
theorem dX11_lacksTerm_35 : decode cX11_lacksTerm 35 = .ok (.getfield 47, 3) := by decide +kernel
theorem dX11_lacksTerm_38 : decode cX11_lacksTerm 38 = .ok (.iload 5, 2) := by decide +kernel
theorem dX11_lacksTerm_40 : decode cX11_lacksTerm 40 = .ok (.iload_n 3, 1) := by decide +kernel
theorem dX11_lacksTerm_41 : decode cX11_lacksTerm 41 = .ok (.invokevirtual 307, 3) := by decide +kernel
theorem dX11_lacksTerm_44 : decode cX11_lacksTerm 44 = .ok (.invokevirtual 302, 3) := by decide +kernel
theorem dX11_lacksTerm_47 : decode cX11_lacksTerm 47 = .ok (.ifCond .ne 5, 3) := by decide +kernel
theorem dX11_lacksTerm_50 : decode cX11_lacksTerm 50 = .ok (.iconst 1, 1) := by decide +kernel
theorem dX11_lacksTerm_51 : decode cX11_lacksTerm 51 = .ok (.ireturn, 1) := by decide +kernel
theorem dX11_lacksTerm_52 : decode cX11_lacksTerm 52 = .ok (.iinc 4 1, 3) := by decide +kernel
theorem dX11_lacksTerm_55 : decode cX11_lacksTerm 55 = .ok (.goto (-52), 3) := by decide +kernel
theorem dX11_lacksTerm_58 : decode cX11_lacksTerm 58 = .ok (.iconst 0, 1) := by decide +kernel
theorem dX11_lacksTerm_59 : decode cX11_lacksTerm 59 = .ok (.ireturn, 1) := by decide +kernel
theorem dX11_closestEntry_0 : decode cX11_closestEntry 0 = .ok (.aload_n 1, 1) := by decide +kernel
theorem dX11_closestEntry_1 : decode cX11_closestEntry 1 = .ok (.ifnonnull 7, 3) := by decide +kernel
theorem dX11_closestEntry_4 : decode cX11_closestEntry 4 = .ok (.aconst_null, 1) := by decide +kernel
theorem dX11_closestEntry_5 : decode cX11_closestEntry 5 = .ok (.goto 26, 3) := by decide +kernel
theorem dX11_closestEntry_8 : decode cX11_closestEntry 8 = .ok (.aload_n 0, 1) := by decide +kernel
theorem dX11_closestEntry_9 : decode cX11_closestEntry 9 = .ok (.getfield 54, 3) := by decide +kernel
theorem dX11_closestEntry_12 : decode cX11_closestEntry 12 = .ok (.aload_n 0, 1) := by decide +kernel
theorem dX11_closestEntry_13 : decode cX11_closestEntry 13 = .ok (.getfield 54, 3) := by decide +kernel
theorem dX11_closestEntry_16 : decode cX11_closestEntry 16 = .ok (.aload_n 1, 1) := by decide +kernel
theorem dX11_closestEntry_17 : decode cX11_closestEntry 17 = .ok (.invokevirtual 138, 3) := by decide +kernel
theorem dX11_closestEntry_20 : decode cX11_closestEntry 20 = .ok (.iload_n 2, 1) := by decide +kernel
theorem dX11_closestEntry_21 : decode cX11_closestEntry 21 = .ok (.aload_n 0, 1) := by decide +kernel
theorem dX11_closestEntry_22 : decode cX11_closestEntry 22 = .ok (.getfield 19, 3) := by decide +kernel
theorem dX11_closestEntry_25 : decode cX11_closestEntry 25 = .ok (.invokevirtual 238, 3) := by decide +kernel
theorem dX11_closestEntry_28 : decode cX11_closestEntry 28 = .ok (.invokevirtual 242, 3) := by decide +kernel
theorem dX11_closestEntry_31 : decode cX11_closestEntry 31 = .ok (.areturn, 1) := by decide +kernel
theorem dX11_effortFor_0 : decode cX11_effortFor 0 = .ok (.aload_n 1, 1) := by decide +kernel
theorem dX11_effortFor_1 : decode cX11_effortFor 1 = .ok (.iload_n 2, 1) := by decide +kernel
theorem dX11_effortFor_2 : decode cX11_effortFor 2 = .ok (.invokevirtual 310, 3) := by decide +kernel
theorem dX11_effortFor_5 : decode cX11_effortFor 5 = .ok (.ifCond .ne 5, 3) := by decide +kernel
theorem dX11_effortFor_8 : decode cX11_effortFor 8 = .ok (.iconst 0, 1) := by decide +kernel
theorem dX11_effortFor_9 : decode cX11_effortFor 9 = .ok (.ireturn, 1) := by decide +kernel
theorem dX11_effortFor_10 : decode cX11_effortFor 10 = .ok (.aload_n 0, 1) := by decide +kernel
theorem dX11_effortFor_11 : decode cX11_effortFor 11 = .ok (.aload_n 1, 1) := by decide +kernel
theorem dX11_effortFor_12 : decode cX11_effortFor 12 = .ok (.iload_n 2, 1) := by decide +kernel
theorem dX11_effortFor_13 : decode cX11_effortFor 13 = .ok (.invokevirtual 226, 3) := by decide +kernel
theorem dX11_effortFor_16 : decode cX11_effortFor 16 = .ok (.astore_n 3, 1) := by decide +kernel
theorem dX11_effortFor_17 : decode cX11_effortFor 17 = .ok (.aload_n 3, 1) := by decide +kernel
theorem dX11_effortFor_18 : decode cX11_effortFor 18 = .ok (.ifnonnull 11, 3) := by decide +kernel
theorem dX11_effortFor_21 : decode cX11_effortFor 21 = .ok (.aload_n 1, 1) := by decide +kernel
theorem dX11_effortFor_22 : decode cX11_effortFor 22 = .ok (.invokevirtual 138, 3) := by decide +kernel
theorem dX11_effortFor_25 : decode cX11_effortFor 25 = .ok (.invokevirtual 94, 3) := by decide +kernel
theorem dX11_effortFor_28 : decode cX11_effortFor 28 = .ok (.ireturn, 1) := by decide +kernel
theorem dX11_effortFor_29 : decode cX11_effortFor 29 = .ok (.aload_n 0, 1) := by decide +kernel
theorem dX11_effortFor_30 : decode cX11_effortFor 30 = .ok (.getfield 19, 3) := by decide +kernel
theorem dX11_effortFor_33 : decode cX11_effortFor 33 = .ok (.aload_n 1, 1) := by decide +kernel
theorem dX11_effortFor_34 : decode cX11_effortFor 34 = .ok (.invokevirtual 138, 3) := by decide +kernel
theorem dX11_effortFor_37 : decode cX11_effortFor 37 = .ok (.aload_n 3, 1) := by decide +kernel
theorem dX11_effortFor_38 : decode cX11_effortFor 38 = .ok (.invokevirtual 245, 3) := by decide +kernel
theorem dX11_effortFor_41 : decode cX11_effortFor 41 = .ok (.invokevirtual 146, 3) := by decide +kernel
theorem dX11_effortFor_44 : decode cX11_effortFor 44 = .ok (.istore 4, 2) := by decide +kernel
theorem dX11_effortFor_46 : decode cX11_effortFor 46 = .ok (.iload 4, 2) := by decide +kernel
theorem dX11_effortFor_48 : decode cX11_effortFor 48 = .ok (.ifCond .ne 5, 3) := by decide +kernel
theorem dX11_effortFor_51 : decode cX11_effortFor 51 = .ok (.iconst 1, 1) := by decide +kernel
theorem dX11_effortFor_52 : decode cX11_effortFor 52 = .ok (.ireturn, 1) := by decide +kernel
theorem dX11_effortFor_53 : decode cX11_effortFor 53 = .ok (.iload 4, 2) := by decide +kernel
theorem dX11_effortFor_55 : decode cX11_effortFor 55 = .ok (.iconst 2, 1) := by decide +kernel
theorem dX11_effortFor_56 : decode cX11_effortFor 56 = .ok (.if_icmp .gt 7, 3) := by decide +kernel
theorem dX11_effortFor_59 : decode cX11_effortFor 59 = .ok (.iconst 2, 1) := by decide +kernel
theorem dX11_effortFor_60 : decode cX11_effortFor 60 = .ok (.goto 10, 3) := by decide +kernel
theorem dX11_effortFor_63 : decode cX11_effortFor 63 = .ok (.aload_n 1, 1) := by decide +kernel
theorem dX11_effortFor_64 : decode cX11_effortFor 64 = .ok (.invokevirtual 138, 3) := by decide +kernel
theorem dX11_effortFor_67 : decode cX11_effortFor 67 = .ok (.invokevirtual 94, 3) := by decide +kernel
theorem dX11_effortFor_70 : decode cX11_effortFor 70 = .ok (.ireturn, 1) := by decide +kernel
theorem dX11_makePlan_0 : decode cX11_makePlan 0 = .ok (.iconst 0, 1) := by decide +kernel
theorem dX11_makePlan_1 : decode cX11_makePlan 1 = .ok (.istore_n 2, 1) := by decide +kernel
theorem dX11_makePlan_2 : decode cX11_makePlan 2 = .ok (.iload_n 2, 1) := by decide +kernel
theorem dX11_makePlan_3 : decode cX11_makePlan 3 = .ok (.bipush 8, 2) := by decide +kernel
theorem dX11_makePlan_5 : decode cX11_makePlan 5 = .ok (.if_icmp .ge 40, 3) := by decide +kernel
theorem dX11_makePlan_8 : decode cX11_makePlan 8 = .ok (.aload_n 0, 1) := by decide +kernel
theorem dX11_makePlan_9 : decode cX11_makePlan 9 = .ok (.getfield 68, 3) := by decide +kernel
theorem dX11_makePlan_12 : decode cX11_makePlan 12 = .ok (.iload_n 2, 1) := by decide +kernel
theorem dX11_makePlan_13 : decode cX11_makePlan 13 = .ok (.invokevirtual 121, 3) := by decide +kernel
theorem dX11_makePlan_16 : decode cX11_makePlan 16 = .ok (.astore_n 3, 1) := by decide +kernel
theorem dX11_makePlan_17 : decode cX11_makePlan 17 = .ok (.aload_n 0, 1) := by decide +kernel
theorem dX11_makePlan_18 : decode cX11_makePlan 18 = .ok (.getfield 33, 3) := by decide +kernel
theorem dX11_makePlan_21 : decode cX11_makePlan 21 = .ok (.iload_n 2, 1) := by decide +kernel
theorem dX11_makePlan_22 : decode cX11_makePlan 22 = .ok (.aload_n 3, 1) := by decide +kernel
theorem dX11_makePlan_23 : decode cX11_makePlan 23 = .ok (.ifnonnull 7, 3) := by decide +kernel
theorem dX11_makePlan_26 : decode cX11_makePlan 26 = .ok (.iconst 0, 1) := by decide +kernel
theorem dX11_makePlan_27 : decode cX11_makePlan 27 = .ok (.goto 9, 3) := by decide +kernel
theorem dX11_makePlan_30 : decode cX11_makePlan 30 = .ok (.aload_n 0, 1) := by decide +kernel
theorem dX11_makePlan_31 : decode cX11_makePlan 31 = .ok (.aload_n 3, 1) := by decide +kernel
theorem dX11_makePlan_32 : decode cX11_makePlan 32 = .ok (.iload_n 1, 1) := by decide +kernel
theorem dX11_makePlan_33 : decode cX11_makePlan 33 = .ok (.invokevirtual 251, 3) := by decide +kernel
theorem dX11_makePlan_36 : decode cX11_makePlan 36 = .ok (.invokevirtual 313, 3) := by decide +kernel
theorem dX11_makePlan_39 : decode cX11_makePlan 39 = .ok (.iinc 2 1, 3) := by decide +kernel
theorem dX11_makePlan_42 : decode cX11_makePlan 42 = .ok (.goto (-40), 3) := by decide +kernel
theorem dX11_makePlan_45 : decode cX11_makePlan 45 = .ok (.aload_n 0, 1) := by decide +kernel
theorem dX11_makePlan_46 : decode cX11_makePlan 46 = .ok (.getfield 33, 3) := by decide +kernel
theorem dX11_makePlan_49 : decode cX11_makePlan 49 = .ok (.aload_n 0, 1) := by decide +kernel
theorem dX11_makePlan_50 : decode cX11_makePlan 50 = .ok (.getfield 40, 3) := by decide +kernel
theorem dX11_makePlan_53 : decode cX11_makePlan 53 = .ok (.iload_n 1, 1) := by decide +kernel
theorem dX11_makePlan_54 : decode cX11_makePlan 54 = .ok (.invokevirtual 316, 3) := by decide +kernel
theorem dX11_makePlan_57 : decode cX11_makePlan 57 = .ok (.return_, 1) := by decide +kernel
theorem dX12_init_0 : decode cX12_init 0 = .ok (.aload_n 0, 1) := by decide +kernel
theorem dX12_init_1 : decode cX12_init 1 = .ok (.invokespecial 1, 3) := by decide +kernel
theorem dX12_init_4 : decode cX12_init 4 = .ok (.aload_n 0, 1) := by decide +kernel
theorem dX12_init_5 : decode cX12_init 5 = .ok (.bipush 10, 2) := by decide +kernel
theorem dX12_init_7 : decode cX12_init 7 = .ok (.newarray .int, 2) := by decide +kernel
theorem dX12_init_9 : decode cX12_init 9 = .ok (.putfield 7, 3) := by decide +kernel
theorem dX12_init_12 : decode cX12_init 12 = .ok (.aload_n 0, 1) := by decide +kernel
theorem dX12_init_13 : decode cX12_init 13 = .ok (.bipush 8, 2) := by decide +kernel
theorem dX12_init_15 : decode cX12_init 15 = .ok (.newarray .int, 2) := by decide +kernel
theorem dX12_init_17 : decode cX12_init 17 = .ok (.putfield 13, 3) := by decide +kernel
theorem dX12_init_20 : decode cX12_init 20 = .ok (.aload_n 0, 1) := by decide +kernel
theorem dX12_init_21 : decode cX12_init 21 = .ok (.bipush 8, 2) := by decide +kernel
theorem dX12_init_23 : decode cX12_init 23 = .ok (.newarray .int, 2) := by decide +kernel
theorem dX12_init_25 : decode cX12_init 25 = .ok (.putfield 16, 3) := by decide +kernel
theorem dX12_init_28 : decode cX12_init 28 = .ok (.aload_n 0, 1) := by decide +kernel
theorem dX12_init_29 : decode cX12_init 29 = .ok (.bipush 64, 2) := by decide +kernel
theorem dX12_init_31 : decode cX12_init 31 = .ok (.newarray .int, 2) := by decide +kernel
theorem dX12_init_33 : decode cX12_init 33 = .ok (.putfield 19, 3) := by decide +kernel
theorem dX12_init_36 : decode cX12_init 36 = .ok (.aload_n 0, 1) := by decide +kernel
theorem dX12_init_37 : decode cX12_init 37 = .ok (.bipush 8, 2) := by decide +kernel
theorem dX12_init_39 : decode cX12_init 39 = .ok (.newarray .int, 2) := by decide +kernel
theorem dX12_init_41 : decode cX12_init 41 = .ok (.putfield 22, 3) := by decide +kernel
theorem dX12_init_44 : decode cX12_init 44 = .ok (.aload_n 0, 1) := by decide +kernel
theorem dX12_init_45 : decode cX12_init 45 = .ok (.bipush 8, 2) := by decide +kernel
theorem dX12_init_47 : decode cX12_init 47 = .ok (.newarray .int, 2) := by decide +kernel
theorem dX12_init_49 : decode cX12_init 49 = .ok (.putfield 25, 3) := by decide +kernel
theorem dX12_init_52 : decode cX12_init 52 = .ok (.aload_n 0, 1) := by decide +kernel
theorem dX12_init_53 : decode cX12_init 53 = .ok (.bipush 8, 2) := by decide +kernel
theorem dX12_init_55 : decode cX12_init 55 = .ok (.newarray .int, 2) := by decide +kernel
theorem dX12_init_57 : decode cX12_init 57 = .ok (.putfield 28, 3) := by decide +kernel
theorem dX12_init_60 : decode cX12_init 60 = .ok (.aload_n 0, 1) := by decide +kernel
theorem dX12_init_61 : decode cX12_init 61 = .ok (.bipush 8, 2) := by decide +kernel
theorem dX12_init_63 : decode cX12_init 63 = .ok (.newarray .int, 2) := by decide +kernel
theorem dX12_init_65 : decode cX12_init 65 = .ok (.putfield 31, 3) := by decide +kernel
theorem dX12_init_68 : decode cX12_init 68 = .ok (.aload_n 0, 1) := by decide +kernel
theorem dX12_init_69 : decode cX12_init 69 = .ok (.bipush 64, 2) := by decide +kernel
theorem dX12_init_71 : decode cX12_init 71 = .ok (.newarray .int, 2) := by decide +kernel
theorem dX12_init_73 : decode cX12_init 73 = .ok (.putfield 34, 3) := by decide +kernel
theorem dX12_init_76 : decode cX12_init 76 = .ok (.aload_n 0, 1) := by decide +kernel
theorem dX12_init_77 : decode cX12_init 77 = .ok (.bipush 24, 2) := by decide +kernel
theorem dX12_init_79 : decode cX12_init 79 = .ok (.newarray .int, 2) := by decide +kernel
theorem dX12_init_81 : decode cX12_init 81 = .ok (.putfield 37, 3) := by decide +kernel
theorem dX12_init_84 : decode cX12_init 84 = .ok (.aload_n 0, 1) := by decide +kernel
theorem dX12_init_85 : decode cX12_init 85 = .ok (.bipush 24, 2) := by decide +kernel
theorem dX12_init_87 : decode cX12_init 87 = .ok (.newarray .int, 2) := by decide +kernel
theorem dX12_init_89 : decode cX12_init 89 = .ok (.putfield 40, 3) := by decide +kernel
theorem dX12_init_92 : decode cX12_init 92 = .ok (.aload_n 0, 1) := by decide +kernel
theorem dX12_init_93 : decode cX12_init 93 = .ok (.bipush 24, 2) := by decide +kernel
theorem dX12_init_95 : decode cX12_init 95 = .ok (.newarray .int, 2) := by decide +kernel
theorem dX12_init_97 : decode cX12_init 97 = .ok (.putfield 43, 3) := by decide +kernel
theorem dX12_init_100 : decode cX12_init 100 = .ok (.aload_n 0, 1) := by decide +kernel
theorem dX12_init_101 : decode cX12_init 101 = .ok (.sipush 240, 3) := by decide +kernel
theorem dX12_init_104 : decode cX12_init 104 = .ok (.newarray .int, 2) := by decide +kernel
theorem dX12_init_106 : decode cX12_init 106 = .ok (.putfield 46, 3) := by decide +kernel
theorem dX12_init_109 : decode cX12_init 109 = .ok (.aload_n 0, 1) := by decide +kernel
theorem dX12_init_110 : decode cX12_init 110 = .ok (.iconst 5, 1) := by decide +kernel
theorem dX12_init_111 : decode cX12_init 111 = .ok (.newarray .int, 2) := by decide +kernel
theorem dX12_init_113 : decode cX12_init 113 = .ok (.putfield 49, 3) := by decide +kernel
theorem dX12_init_116 : decode cX12_init 116 = .ok (.aload_n 0, 1) := by decide +kernel
theorem dX12_init_117 : decode cX12_init 117 = .ok (.iconst 5, 1) := by decide +kernel
theorem dX12_init_118 : decode cX12_init 118 = .ok (.newarray .int, 2) := by decide +kernel
theorem dX12_init_120 : decode cX12_init 120 = .ok (.putfield 52, 3) := by decide +kernel
theorem dX12_init_123 : decode cX12_init 123 = .ok (.aload_n 0, 1) := by decide +kernel
theorem dX12_init_124 : decode cX12_init 124 = .ok (.iconst 5, 1) := by decide +kernel
theorem dX12_init_125 : decode cX12_init 125 = .ok (.newarray .int, 2) := by decide +kernel
theorem dX12_init_127 : decode cX12_init 127 = .ok (.putfield 55, 3) := by decide +kernel
theorem dX12_init_130 : decode cX12_init 130 = .ok (.aload_n 0, 1) := by decide +kernel
theorem dX12_init_131 : decode cX12_init 131 = .ok (.bipush 10, 2) := by decide +kernel
theorem dX12_init_133 : decode cX12_init 133 = .ok (.newarray .int, 2) := by decide +kernel
theorem dX12_init_135 : decode cX12_init 135 = .ok (.putfield 58, 3) := by decide +kernel
theorem dX12_init_138 : decode cX12_init 138 = .ok (.aload_n 0, 1) := by decide +kernel
theorem dX12_init_139 : decode cX12_init 139 = .ok (.bipush 10, 2) := by decide +kernel
theorem dX12_init_141 : decode cX12_init 141 = .ok (.newarray .int, 2) := by decide +kernel
theorem dX12_init_143 : decode cX12_init 143 = .ok (.putfield 61, 3) := by decide +kernel
theorem dX12_init_146 : decode cX12_init 146 = .ok (.aload_n 0, 1) := by decide +kernel
theorem dX12_init_147 : decode cX12_init 147 = .ok (.bipush 10, 2) := by decide +kernel
theorem dX12_init_149 : decode cX12_init 149 = .ok (.newarray .int, 2) := by decide +kernel
theorem dX12_init_151 : decode cX12_init 151 = .ok (.putfield 64, 3) := by decide +kernel
theorem dX12_init_154 : decode cX12_init 154 = .ok (.aload_n 0, 1) := by decide +kernel
theorem dX12_init_155 : decode cX12_init 155 = .ok (.bipush 6, 2) := by decide +kernel
theorem dX12_init_157 : decode cX12_init 157 = .ok (.putfield 67, 3) := by decide +kernel
theorem dX12_init_160 : decode cX12_init 160 = .ok (.aload_n 0, 1) := by decide +kernel
theorem dX12_init_161 : decode cX12_init 161 = .ok (.sipush 420, 3) := by decide +kernel
theorem dX12_init_164 : decode cX12_init 164 = .ok (.newarray .int, 2) := by decide +kernel
theorem dX12_init_166 : decode cX12_init 166 = .ok (.putfield 71, 3) := by decide +kernel
theorem dX12_init_169 : decode cX12_init 169 = .ok (.aload_n 0, 1) := by decide +kernel
theorem dX12_init_170 : decode cX12_init 170 = .ok (.iconst 2, 1) := by decide +kernel
theorem dX12_init_171 : decode cX12_init 171 = .ok (.newarray .int, 2) := by decide +kernel
theorem dX12_init_173 : decode cX12_init 173 = .ok (.putfield 74, 3) := by decide +kernel
theorem dX12_init_176 : decode cX12_init 176 = .ok (.aload_n 0, 1) := by decide +kernel
theorem dX12_init_177 : decode cX12_init 177 = .ok (.bipush 96, 2) := by decide +kernel
theorem dX12_init_179 : decode cX12_init 179 = .ok (.newarray .int, 2) := by decide +kernel
theorem dX12_init_181 : decode cX12_init 181 = .ok (.putfield 77, 3) := by decide +kernel
theorem dX12_init_184 : decode cX12_init 184 = .ok (.aload_n 0, 1) := by decide +kernel
theorem dX12_init_185 : decode cX12_init 185 = .ok (.sipush 312, 3) := by decide +kernel
theorem dX12_init_188 : decode cX12_init 188 = .ok (.newarray .int, 2) := by decide +kernel
theorem dX12_init_190 : decode cX12_init 190 = .ok (.putfield 80, 3) := by decide +kernel
theorem dX12_init_193 : decode cX12_init 193 = .ok (.aload_n 0, 1) := by decide +kernel
theorem dX12_init_194 : decode cX12_init 194 = .ok (.sipush 420, 3) := by decide +kernel
theorem dX12_init_197 : decode cX12_init 197 = .ok (.newarray .int, 2) := by decide +kernel
theorem dX12_init_199 : decode cX12_init 199 = .ok (.putfield 83, 3) := by decide +kernel
theorem dX12_init_202 : decode cX12_init 202 = .ok (.aload_n 0, 1) := by decide +kernel
theorem dX12_init_203 : decode cX12_init 203 = .ok (.bipush 9, 2) := by decide +kernel
theorem dX12_init_205 : decode cX12_init 205 = .ok (.newarray .int, 2) := by decide +kernel
theorem dX12_init_207 : decode cX12_init 207 = .ok (.putfield 86, 3) := by decide +kernel
theorem dX12_init_210 : decode cX12_init 210 = .ok (.aload_n 0, 1) := by decide +kernel
theorem dX12_init_211 : decode cX12_init 211 = .ok (.bipush 9, 2) := by decide +kernel
theorem dX12_init_213 : decode cX12_init 213 = .ok (.newarray .int, 2) := by decide +kernel
theorem dX12_init_215 : decode cX12_init 215 = .ok (.putfield 89, 3) := by decide +kernel
theorem dX12_init_218 : decode cX12_init 218 = .ok (.aload_n 0, 1) := by decide +kernel
theorem dX12_init_219 : decode cX12_init 219 = .ok (.bipush 64, 2) := by decide +kernel
theorem dX12_init_221 : decode cX12_init 221 = .ok (.newarray .int, 2) := by decide +kernel
theorem dX12_init_223 : decode cX12_init 223 = .ok (.putfield 92, 3) := by decide +kernel
theorem dX12_init_226 : decode cX12_init 226 = .ok (.aload_n 0, 1) := by decide +kernel
theorem dX12_init_227 : decode cX12_init 227 = .ok (.sipush 2304, 3) := by decide +kernel
theorem dX12_init_230 : decode cX12_init 230 = .ok (.newarray .int, 2) := by decide +kernel
theorem dX12_init_232 : decode cX12_init 232 = .ok (.putfield 95, 3) := by decide +kernel
theorem dX12_init_235 : decode cX12_init 235 = .ok (.aload_n 0, 1) := by decide +kernel
theorem dX12_init_236 : decode cX12_init 236 = .ok (.bipush 8, 2) := by decide +kernel
theorem dX12_init_238 : decode cX12_init 238 = .ok (.newarray .int, 2) := by decide +kernel
theorem dX12_init_240 : decode cX12_init 240 = .ok (.putfield 98, 3) := by decide +kernel
theorem dX12_init_243 : decode cX12_init 243 = .ok (.aload_n 0, 1) := by decide +kernel
theorem dX12_init_244 : decode cX12_init 244 = .ok (.bipush 24, 2) := by decide +kernel
theorem dX12_init_246 : decode cX12_init 246 = .ok (.newarray .int, 2) := by decide +kernel
theorem dX12_init_248 : decode cX12_init 248 = .ok (.putfield 101, 3) := by decide +kernel
theorem dX12_init_251 : decode cX12_init 251 = .ok (.aload_n 0, 1) := by decide +kernel
theorem dX12_init_252 : decode cX12_init 252 = .ok (.bipush 24, 2) := by decide +kernel
theorem dX12_init_254 : decode cX12_init 254 = .ok (.newarray .int, 2) := by decide +kernel
theorem dX12_init_256 : decode cX12_init 256 = .ok (.putfield 104, 3) := by decide +kernel
theorem dX12_init_259 : decode cX12_init 259 = .ok (.aload_n 0, 1) := by decide +kernel
theorem dX12_init_260 : decode cX12_init 260 = .ok (.bipush 24, 2) := by decide +kernel
theorem dX12_init_262 : decode cX12_init 262 = .ok (.newarray .int, 2) := by decide +kernel
theorem dX12_init_264 : decode cX12_init 264 = .ok (.putfield 107, 3) := by decide +kernel
theorem dX12_init_267 : decode cX12_init 267 = .ok (.aload_n 0, 1) := by decide +kernel
theorem dX12_init_268 : decode cX12_init 268 = .ok (.sipush 240, 3) := by decide +kernel
theorem dX12_init_271 : decode cX12_init 271 = .ok (.newarray .int, 2) := by decide +kernel
theorem dX12_init_273 : decode cX12_init 273 = .ok (.putfield 110, 3) := by decide +kernel
theorem dX12_init_276 : decode cX12_init 276 = .ok (.aload_n 0, 1) := by decide +kernel
theorem dX12_init_277 : decode cX12_init 277 = .ok (.bipush 8, 2) := by decide +kernel
theorem dX12_init_279 : decode cX12_init 279 = .ok (.newarray .int, 2) := by decide +kernel
theorem dX12_init_281 : decode cX12_init 281 = .ok (.putfield 113, 3) := by decide +kernel
theorem dX12_init_284 : decode cX12_init 284 = .ok (.aload_n 0, 1) := by decide +kernel
theorem dX12_init_285 : decode cX12_init 285 = .ok (.bipush 8, 2) := by decide +kernel
theorem dX12_init_287 : decode cX12_init 287 = .ok (.newarray .int, 2) := by decide +kernel
theorem dX12_init_289 : decode cX12_init 289 = .ok (.putfield 116, 3) := by decide +kernel
theorem dX12_init_292 : decode cX12_init 292 = .ok (.aload_n 0, 1) := by decide +kernel
theorem dX12_init_293 : decode cX12_init 293 = .ok (.bipush 8, 2) := by decide +kernel
theorem dX12_init_295 : decode cX12_init 295 = .ok (.newarray .int, 2) := by decide +kernel
theorem dX12_init_297 : decode cX12_init 297 = .ok (.putfield 119, 3) := by decide +kernel
theorem dX12_init_300 : decode cX12_init 300 = .ok (.aload_n 0, 1) := by decide +kernel
theorem dX12_init_301 : decode cX12_init 301 = .ok (.iconst 5, 1) := by decide +kernel
theorem dX12_init_302 : decode cX12_init 302 = .ok (.newarray .int, 2) := by decide +kernel
theorem dX12_init_304 : decode cX12_init 304 = .ok (.putfield 122, 3) := by decide +kernel
theorem dX12_init_307 : decode cX12_init 307 = .ok (.aload_n 0, 1) := by decide +kernel
theorem dX12_init_308 : decode cX12_init 308 = .ok (.bipush 8, 2) := by decide +kernel
theorem dX12_init_310 : decode cX12_init 310 = .ok (.newarray .int, 2) := by decide +kernel
theorem dX12_init_312 : decode cX12_init 312 = .ok (.putfield 125, 3) := by decide +kernel
theorem dX12_init_315 : decode cX12_init 315 = .ok (.return_, 1) := by decide +kernel
theorem dX12_in_0 : decode cX12_in 0 = .ok (.iload_n 0, 1) := by decide +kernel
theorem dX12_in_1 : decode cX12_in 1 = .ok (.iload_n 1, 1) := by decide +kernel
theorem dX12_in_2 : decode cX12_in 2 = .ok (.if_icmp .lt 12, 3) := by decide +kernel
theorem dX12_in_5 : decode cX12_in 5 = .ok (.iload_n 0, 1) := by decide +kernel
theorem dX12_in_6 : decode cX12_in 6 = .ok (.iload_n 2, 1) := by decide +kernel
theorem dX12_in_7 : decode cX12_in 7 = .ok (.if_icmp .gt 7, 3) := by decide +kernel
theorem dX12_in_10 : decode cX12_in 10 = .ok (.iconst 1, 1) := by decide +kernel
theorem dX12_in_11 : decode cX12_in 11 = .ok (.goto 4, 3) := by decide +kernel
theorem dX12_in_14 : decode cX12_in 14 = .ok (.iconst 0, 1) := by decide +kernel
theorem dX12_in_15 : decode cX12_in 15 = .ok (.ireturn, 1) := by decide +kernel
theorem dX12_isWord_0 : decode cX12_isWord 0 = .ok (.iload_n 0, 1) := by decide +kernel
theorem dX12_isWord_1 : decode cX12_isWord 1 = .ok (.iconst 0, 1) := by decide +kernel
theorem dX12_isWord_2 : decode cX12_isWord 2 = .ok (.bipush 99, 2) := by decide +kernel
theorem dX12_isWord_4 : decode cX12_isWord 4 = .ok (.invokestatic 128, 3) := by decide +kernel
theorem dX12_isWord_7 : decode cX12_isWord 7 = .ok (.ireturn, 1) := by decide +kernel
theorem dX12_isHole_0 : decode cX12_isHole 0 = .ok (.iload_n 0, 1) := by decide +kernel
theorem dX12_isHole_1 : decode cX12_isHole 1 = .ok (.bipush 100, 2) := by decide +kernel
theorem dX12_isHole_3 : decode cX12_isHole 3 = .ok (.bipush 103, 2) := by decide +kernel
theorem dX12_isHole_5 : decode cX12_isHole 5 = .ok (.invokestatic 128, 3) := by decide +kernel
theorem dX12_isHole_8 : decode cX12_isHole 8 = .ok (.ireturn, 1) := by decide +kernel
theorem dX12_isOwn_0 : decode cX12_isOwn 0 = .ok (.iload_n 0, 1) := by decide +kernel
theorem dX12_isOwn_1 : decode cX12_isOwn 1 = .ok (.sipush 200, 3) := by decide +kernel
theorem dX12_isOwn_4 : decode cX12_isOwn 4 = .ok (.sipush 299, 3) := by decide +kernel
theorem dX12_isOwn_7 : decode cX12_isOwn 7 = .ok (.invokestatic 128, 3) := by decide +kernel
theorem dX12_isOwn_10 : decode cX12_isOwn 10 = .ok (.ireturn, 1) := by decide +kernel
theorem dX12_isTongue_0 : decode cX12_isTongue 0 = .ok (.iload_n 0, 1) := by decide +kernel
theorem dX12_isTongue_1 : decode cX12_isTongue 1 = .ok (.iconst 0, 1) := by decide +kernel
theorem dX12_isTongue_2 : decode cX12_isTongue 2 = .ok (.iconst 2, 1) := by decide +kernel
theorem dX12_isTongue_3 : decode cX12_isTongue 3 = .ok (.invokestatic 128, 3) := by decide +kernel
theorem dX12_isTongue_6 : decode cX12_isTongue 6 = .ok (.ireturn, 1) := by decide +kernel
theorem dX12_isPiece_0 : decode cX12_isPiece 0 = .ok (.iload_n 1, 1) := by decide +kernel
theorem dX12_isPiece_1 : decode cX12_isPiece 1 = .ok (.iconst 0, 1) := by decide +kernel
theorem dX12_isPiece_2 : decode cX12_isPiece 2 = .ok (.aload_n 0, 1) := by decide +kernel
theorem dX12_isPiece_3 : decode cX12_isPiece 3 = .ok (.getfield 132, 3) := by decide +kernel
theorem dX12_isPiece_6 : decode cX12_isPiece 6 = .ok (.iconst 1, 1) := by decide +kernel
theorem dX12_isPiece_7 : decode cX12_isPiece 7 = .ok (.isub, 1) := by decide +kernel
theorem dX12_isPiece_8 : decode cX12_isPiece 8 = .ok (.invokestatic 128, 3) := by decide +kernel
theorem dX12_isPiece_11 : decode cX12_isPiece 11 = .ok (.ireturn, 1) := by decide +kernel
theorem dX12_isHand_0 : decode cX12_isHand 0 = .ok (.iload_n 1, 1) := by decide +kernel
theorem dX12_isHand_1 : decode cX12_isHand 1 = .ok (.iconst 0, 1) := by decide +kernel
theorem dX12_isHand_2 : decode cX12_isHand 2 = .ok (.aload_n 0, 1) := by decide +kernel
theorem dX12_isHand_3 : decode cX12_isHand 3 = .ok (.getfield 135, 3) := by decide +kernel
theorem dX12_isHand_6 : decode cX12_isHand 6 = .ok (.iconst 1, 1) := by decide +kernel
theorem dX12_isHand_7 : decode cX12_isHand 7 = .ok (.isub, 1) := by decide +kernel
theorem dX12_isHand_8 : decode cX12_isHand 8 = .ok (.invokestatic 128, 3) := by decide +kernel
theorem dX12_isHand_11 : decode cX12_isHand 11 = .ok (.ireturn, 1) := by decide +kernel
theorem dX12_knows_0 : decode cX12_knows 0 = .ok (.aload_n 0, 1) := by decide +kernel
theorem dX12_knows_1 : decode cX12_knows 1 = .ok (.getfield 49, 3) := by decide +kernel
theorem dX12_knows_4 : decode cX12_knows 4 = .ok (.iload_n 1, 1) := by decide +kernel
theorem dX12_knows_5 : decode cX12_knows 5 = .ok (.iaload, 1) := by decide +kernel
theorem dX12_knows_6 : decode cX12_knows 6 = .ok (.iload_n 2, 1) := by decide +kernel
theorem dX12_knows_7 : decode cX12_knows 7 = .ok (.ishr, 1) := by decide +kernel
theorem dX12_knows_8 : decode cX12_knows 8 = .ok (.iconst 1, 1) := by decide +kernel
theorem dX12_knows_9 : decode cX12_knows 9 = .ok (.iand, 1) := by decide +kernel
theorem dX12_knows_10 : decode cX12_knows 10 = .ok (.iconst 1, 1) := by decide +kernel
theorem dX12_knows_11 : decode cX12_knows 11 = .ok (.if_icmp .ne 7, 3) := by decide +kernel
theorem dX12_knows_14 : decode cX12_knows 14 = .ok (.iconst 1, 1) := by decide +kernel
theorem dX12_knows_15 : decode cX12_knows 15 = .ok (.goto 4, 3) := by decide +kernel
theorem dX12_knows_18 : decode cX12_knows 18 = .ok (.iconst 0, 1) := by decide +kernel
theorem dX12_knows_19 : decode cX12_knows 19 = .ok (.ireturn, 1) := by decide +kernel
theorem dX12_sign_0 : decode cX12_sign 0 = .ok (.iload_n 1, 1) := by decide +kernel
theorem dX12_sign_1 : decode cX12_sign 1 = .ok (.invokestatic 138, 3) := by decide +kernel
theorem dX12_sign_4 : decode cX12_sign 4 = .ok (.ifCond .ne 19, 3) := by decide +kernel
theorem dX12_sign_7 : decode cX12_sign 7 = .ok (.iload_n 1, 1) := by decide +kernel
theorem dX12_sign_8 : decode cX12_sign 8 = .ok (.invokestatic 142, 3) := by decide +kernel
end
section
theorem dX12_sign_11 : decode cX12_sign 11 = .ok (.ifCond .ne 12, 3) := by decide +kernel
theorem dX12_sign_14 : decode cX12_sign 14 = .ok (.iload_n 1, 1) := by decide +kernel
theorem dX12_sign_15 : decode cX12_sign 15 = .ok (.invokestatic 145, 3) := by decide +kernel
theorem dX12_sign_18 : decode cX12_sign 18 = .ok (.ifCond .ne 5, 3) := by decide +kernel
theorem dX12_sign_21 : decode cX12_sign 21 = .ok (.iconst (-1), 1) := by decide +kernel
theorem dX12_sign_22 : decode cX12_sign 22 = .ok (.ireturn, 1) := by decide +kernel
theorem dX12_sign_23 : decode cX12_sign 23 = .ok (.aload_n 0, 1) := by decide +kernel
theorem dX12_sign_24 : decode cX12_sign 24 = .ok (.getfield 148, 3) := by decide +kernel
theorem dX12_sign_27 : decode cX12_sign 27 = .ok (.bipush 10, 2) := by decide +kernel
theorem dX12_sign_29 : decode cX12_sign 29 = .ok (.if_icmp .ne 6, 3) := by decide +kernel
theorem dX12_sign_32 : decode cX12_sign 32 = .ok (.bipush (-2), 2) := by decide +kernel
theorem dX12_sign_34 : decode cX12_sign 34 = .ok (.ireturn, 1) := by decide +kernel
theorem dX12_sign_35 : decode cX12_sign 35 = .ok (.aload_n 0, 1) := by decide +kernel
theorem dX12_sign_36 : decode cX12_sign 36 = .ok (.getfield 7, 3) := by decide +kernel
theorem dX12_sign_39 : decode cX12_sign 39 = .ok (.aload_n 0, 1) := by decide +kernel
theorem dX12_sign_40 : decode cX12_sign 40 = .ok (.getfield 148, 3) := by decide +kernel
theorem dX12_sign_43 : decode cX12_sign 43 = .ok (.iload_n 1, 1) := by decide +kernel
theorem dX12_sign_44 : decode cX12_sign 44 = .ok (.iastore, 1) := by decide +kernel
theorem dX12_sign_45 : decode cX12_sign 45 = .ok (.aload_n 0, 1) := by decide +kernel
theorem dX12_sign_46 : decode cX12_sign 46 = .ok (.dup, 1) := by decide +kernel
theorem dX12_sign_47 : decode cX12_sign 47 = .ok (.getfield 148, 3) := by decide +kernel
theorem dX12_sign_50 : decode cX12_sign 50 = .ok (.iconst 1, 1) := by decide +kernel
theorem dX12_sign_51 : decode cX12_sign 51 = .ok (.iadd, 1) := by decide +kernel
theorem dX12_sign_52 : decode cX12_sign 52 = .ok (.putfield 148, 3) := by decide +kernel
theorem dX12_sign_55 : decode cX12_sign 55 = .ok (.aload_n 0, 1) := by decide +kernel
theorem dX12_sign_56 : decode cX12_sign 56 = .ok (.getfield 148, 3) := by decide +kernel
theorem dX12_sign_59 : decode cX12_sign 59 = .ok (.ireturn, 1) := by decide +kernel
theorem dX12_scrap_0 : decode cX12_scrap 0 = .ok (.aload_n 0, 1) := by decide +kernel
theorem dX12_scrap_1 : decode cX12_scrap 1 = .ok (.getfield 148, 3) := by decide +kernel
theorem dX12_scrap_4 : decode cX12_scrap 4 = .ok (.istore_n 1, 1) := by decide +kernel
theorem dX12_scrap_5 : decode cX12_scrap 5 = .ok (.aload_n 0, 1) := by decide +kernel
theorem dX12_scrap_6 : decode cX12_scrap 6 = .ok (.iconst 0, 1) := by decide +kernel
theorem dX12_scrap_7 : decode cX12_scrap 7 = .ok (.putfield 148, 3) := by decide +kernel
theorem dX12_scrap_10 : decode cX12_scrap 10 = .ok (.iload_n 1, 1) := by decide +kernel
theorem dX12_scrap_11 : decode cX12_scrap 11 = .ok (.ireturn, 1) := by decide +kernel
theorem dX12_draftHasOwn_0 : decode cX12_draftHasOwn 0 = .ok (.iconst 0, 1) := by decide +kernel
theorem dX12_draftHasOwn_1 : decode cX12_draftHasOwn 1 = .ok (.istore_n 1, 1) := by decide +kernel
theorem dX12_draftHasOwn_2 : decode cX12_draftHasOwn 2 = .ok (.iconst 0, 1) := by decide +kernel
theorem dX12_draftHasOwn_3 : decode cX12_draftHasOwn 3 = .ok (.istore_n 2, 1) := by decide +kernel
theorem dX12_draftHasOwn_4 : decode cX12_draftHasOwn 4 = .ok (.iload_n 2, 1) := by decide +kernel
theorem dX12_draftHasOwn_5 : decode cX12_draftHasOwn 5 = .ok (.aload_n 0, 1) := by decide +kernel
theorem dX12_draftHasOwn_6 : decode cX12_draftHasOwn 6 = .ok (.getfield 148, 3) := by decide +kernel
theorem dX12_draftHasOwn_9 : decode cX12_draftHasOwn 9 = .ok (.if_icmp .ge 31, 3) := by decide +kernel
theorem dX12_draftHasOwn_12 : decode cX12_draftHasOwn 12 = .ok (.iload_n 1, 1) := by decide +kernel
theorem dX12_draftHasOwn_13 : decode cX12_draftHasOwn 13 = .ok (.ifCond .ne 15, 3) := by decide +kernel
theorem dX12_draftHasOwn_16 : decode cX12_draftHasOwn 16 = .ok (.aload_n 0, 1) := by decide +kernel
theorem dX12_draftHasOwn_17 : decode cX12_draftHasOwn 17 = .ok (.getfield 7, 3) := by decide +kernel
theorem dX12_draftHasOwn_20 : decode cX12_draftHasOwn 20 = .ok (.iload_n 2, 1) := by decide +kernel
theorem dX12_draftHasOwn_21 : decode cX12_draftHasOwn 21 = .ok (.iaload, 1) := by decide +kernel
theorem dX12_draftHasOwn_22 : decode cX12_draftHasOwn 22 = .ok (.invokestatic 145, 3) := by decide +kernel
theorem dX12_draftHasOwn_25 : decode cX12_draftHasOwn 25 = .ok (.ifCond .eq 7, 3) := by decide +kernel
theorem dX12_draftHasOwn_28 : decode cX12_draftHasOwn 28 = .ok (.iconst 1, 1) := by decide +kernel
theorem dX12_draftHasOwn_29 : decode cX12_draftHasOwn 29 = .ok (.goto 4, 3) := by decide +kernel
theorem dX12_draftHasOwn_32 : decode cX12_draftHasOwn 32 = .ok (.iconst 0, 1) := by decide +kernel
theorem dX12_draftHasOwn_33 : decode cX12_draftHasOwn 33 = .ok (.istore_n 1, 1) := by decide +kernel
theorem dX12_draftHasOwn_34 : decode cX12_draftHasOwn 34 = .ok (.iinc 2 1, 3) := by decide +kernel
theorem dX12_draftHasOwn_37 : decode cX12_draftHasOwn 37 = .ok (.goto (-33), 3) := by decide +kernel
theorem dX12_draftHasOwn_40 : decode cX12_draftHasOwn 40 = .ok (.iload_n 1, 1) := by decide +kernel
theorem dX12_draftHasOwn_41 : decode cX12_draftHasOwn 41 = .ok (.ireturn, 1) := by decide +kernel
theorem dX12_draftHasWord_0 : decode cX12_draftHasWord 0 = .ok (.iconst 0, 1) := by decide +kernel
theorem dX12_draftHasWord_1 : decode cX12_draftHasWord 1 = .ok (.istore_n 1, 1) := by decide +kernel
theorem dX12_draftHasWord_2 : decode cX12_draftHasWord 2 = .ok (.iconst 0, 1) := by decide +kernel
theorem dX12_draftHasWord_3 : decode cX12_draftHasWord 3 = .ok (.istore_n 2, 1) := by decide +kernel
theorem dX12_draftHasWord_4 : decode cX12_draftHasWord 4 = .ok (.iload_n 2, 1) := by decide +kernel
theorem dX12_draftHasWord_5 : decode cX12_draftHasWord 5 = .ok (.aload_n 0, 1) := by decide +kernel
theorem dX12_draftHasWord_6 : decode cX12_draftHasWord 6 = .ok (.getfield 148, 3) := by decide +kernel
theorem dX12_draftHasWord_9 : decode cX12_draftHasWord 9 = .ok (.if_icmp .ge 31, 3) := by decide +kernel
theorem dX12_draftHasWord_12 : decode cX12_draftHasWord 12 = .ok (.iload_n 1, 1) := by decide +kernel
theorem dX12_draftHasWord_13 : decode cX12_draftHasWord 13 = .ok (.ifCond .ne 15, 3) := by decide +kernel
theorem dX12_draftHasWord_16 : decode cX12_draftHasWord 16 = .ok (.aload_n 0, 1) := by decide +kernel
theorem dX12_draftHasWord_17 : decode cX12_draftHasWord 17 = .ok (.getfield 7, 3) := by decide +kernel
theorem dX12_draftHasWord_20 : decode cX12_draftHasWord 20 = .ok (.iload_n 2, 1) := by decide +kernel
theorem dX12_draftHasWord_21 : decode cX12_draftHasWord 21 = .ok (.iaload, 1) := by decide +kernel
theorem dX12_draftHasWord_22 : decode cX12_draftHasWord 22 = .ok (.invokestatic 138, 3) := by decide +kernel
theorem dX12_draftHasWord_25 : decode cX12_draftHasWord 25 = .ok (.ifCond .eq 7, 3) := by decide +kernel
theorem dX12_draftHasWord_28 : decode cX12_draftHasWord 28 = .ok (.iconst 1, 1) := by decide +kernel
theorem dX12_draftHasWord_29 : decode cX12_draftHasWord 29 = .ok (.goto 4, 3) := by decide +kernel
theorem dX12_draftHasWord_32 : decode cX12_draftHasWord 32 = .ok (.iconst 0, 1) := by decide +kernel
theorem dX12_draftHasWord_33 : decode cX12_draftHasWord 33 = .ok (.istore_n 1, 1) := by decide +kernel
theorem dX12_draftHasWord_34 : decode cX12_draftHasWord 34 = .ok (.iinc 2 1, 3) := by decide +kernel
theorem dX12_draftHasWord_37 : decode cX12_draftHasWord 37 = .ok (.goto (-33), 3) := by decide +kernel
theorem dX12_draftHasWord_40 : decode cX12_draftHasWord 40 = .ok (.iload_n 1, 1) := by decide +kernel
theorem dX12_draftHasWord_41 : decode cX12_draftHasWord 41 = .ok (.ireturn, 1) := by decide +kernel
theorem dX12_piece_0 : decode cX12_piece 0 = .ok (.iload_n 1, 1) := by decide +kernel
theorem dX12_piece_1 : decode cX12_piece 1 = .ok (.iconst 0, 1) := by decide +kernel
theorem dX12_piece_2 : decode cX12_piece 2 = .ok (.iconst 2, 1) := by decide +kernel
theorem dX12_piece_3 : decode cX12_piece 3 = .ok (.invokestatic 128, 3) := by decide +kernel
theorem dX12_piece_6 : decode cX12_piece 6 = .ok (.ifCond .ne 5, 3) := by decide +kernel
theorem dX12_piece_9 : decode cX12_piece 9 = .ok (.iconst (-1), 1) := by decide +kernel
theorem dX12_piece_10 : decode cX12_piece 10 = .ok (.ireturn, 1) := by decide +kernel
theorem dX12_piece_11 : decode cX12_piece 11 = .ok (.aload_n 0, 1) := by decide +kernel
theorem dX12_piece_12 : decode cX12_piece 12 = .ok (.getfield 148, 3) := by decide +kernel
theorem dX12_piece_15 : decode cX12_piece 15 = .ok (.iconst 1, 1) := by decide +kernel
theorem dX12_piece_16 : decode cX12_piece 16 = .ok (.bipush 8, 2) := by decide +kernel
theorem dX12_piece_18 : decode cX12_piece 18 = .ok (.invokestatic 128, 3) := by decide +kernel
theorem dX12_piece_21 : decode cX12_piece 21 = .ok (.ifCond .ne 6, 3) := by decide +kernel
theorem dX12_piece_24 : decode cX12_piece 24 = .ok (.bipush (-6), 2) := by decide +kernel
theorem dX12_piece_26 : decode cX12_piece 26 = .ok (.ireturn, 1) := by decide +kernel
theorem dX12_piece_27 : decode cX12_piece 27 = .ok (.aload_n 0, 1) := by decide +kernel
theorem dX12_piece_28 : decode cX12_piece 28 = .ok (.invokevirtual 151, 3) := by decide +kernel
theorem dX12_piece_31 : decode cX12_piece 31 = .ok (.ifCond .eq 6, 3) := by decide +kernel
theorem dX12_piece_34 : decode cX12_piece 34 = .ok (.bipush (-3), 2) := by decide +kernel
theorem dX12_piece_36 : decode cX12_piece 36 = .ok (.ireturn, 1) := by decide +kernel
theorem dX12_piece_37 : decode cX12_piece 37 = .ok (.aload_n 0, 1) := by decide +kernel
theorem dX12_piece_38 : decode cX12_piece 38 = .ok (.getfield 155, 3) := by decide +kernel
theorem dX12_piece_41 : decode cX12_piece 41 = .ok (.bipush 8, 2) := by decide +kernel
theorem dX12_piece_43 : decode cX12_piece 43 = .ok (.if_icmp .ne 6, 3) := by decide +kernel
theorem dX12_piece_46 : decode cX12_piece 46 = .ok (.bipush (-2), 2) := by decide +kernel
theorem dX12_piece_48 : decode cX12_piece 48 = .ok (.ireturn, 1) := by decide +kernel
theorem dX12_piece_49 : decode cX12_piece 49 = .ok (.aload_n 0, 1) := by decide +kernel
theorem dX12_piece_50 : decode cX12_piece 50 = .ok (.getfield 28, 3) := by decide +kernel
theorem dX12_piece_53 : decode cX12_piece 53 = .ok (.aload_n 0, 1) := by decide +kernel
theorem dX12_piece_54 : decode cX12_piece 54 = .ok (.getfield 155, 3) := by decide +kernel
theorem dX12_piece_57 : decode cX12_piece 57 = .ok (.iload_n 1, 1) := by decide +kernel
theorem dX12_piece_58 : decode cX12_piece 58 = .ok (.iastore, 1) := by decide +kernel
theorem dX12_piece_59 : decode cX12_piece 59 = .ok (.aload_n 0, 1) := by decide +kernel
theorem dX12_piece_60 : decode cX12_piece 60 = .ok (.getfield 31, 3) := by decide +kernel
theorem dX12_piece_63 : decode cX12_piece 63 = .ok (.aload_n 0, 1) := by decide +kernel
theorem dX12_piece_64 : decode cX12_piece 64 = .ok (.getfield 155, 3) := by decide +kernel
theorem dX12_piece_67 : decode cX12_piece 67 = .ok (.aload_n 0, 1) := by decide +kernel
theorem dX12_piece_68 : decode cX12_piece 68 = .ok (.getfield 148, 3) := by decide +kernel
theorem dX12_piece_71 : decode cX12_piece 71 = .ok (.iastore, 1) := by decide +kernel
theorem dX12_piece_72 : decode cX12_piece 72 = .ok (.iconst 0, 1) := by decide +kernel
theorem dX12_piece_73 : decode cX12_piece 73 = .ok (.istore_n 2, 1) := by decide +kernel
theorem dX12_piece_74 : decode cX12_piece 74 = .ok (.iload_n 2, 1) := by decide +kernel
theorem dX12_piece_75 : decode cX12_piece 75 = .ok (.aload_n 0, 1) := by decide +kernel
theorem dX12_piece_76 : decode cX12_piece 76 = .ok (.getfield 148, 3) := by decide +kernel
theorem dX12_piece_79 : decode cX12_piece 79 = .ok (.if_icmp .ge 29, 3) := by decide +kernel
theorem dX12_piece_82 : decode cX12_piece 82 = .ok (.aload_n 0, 1) := by decide +kernel
theorem dX12_piece_83 : decode cX12_piece 83 = .ok (.getfield 34, 3) := by decide +kernel
theorem dX12_piece_86 : decode cX12_piece 86 = .ok (.bipush 8, 2) := by decide +kernel
theorem dX12_piece_88 : decode cX12_piece 88 = .ok (.aload_n 0, 1) := by decide +kernel
theorem dX12_piece_89 : decode cX12_piece 89 = .ok (.getfield 155, 3) := by decide +kernel
theorem dX12_piece_92 : decode cX12_piece 92 = .ok (.imul, 1) := by decide +kernel
theorem dX12_piece_93 : decode cX12_piece 93 = .ok (.iload_n 2, 1) := by decide +kernel
theorem dX12_piece_94 : decode cX12_piece 94 = .ok (.iadd, 1) := by decide +kernel
theorem dX12_piece_95 : decode cX12_piece 95 = .ok (.aload_n 0, 1) := by decide +kernel
theorem dX12_piece_96 : decode cX12_piece 96 = .ok (.getfield 7, 3) := by decide +kernel
theorem dX12_piece_99 : decode cX12_piece 99 = .ok (.iload_n 2, 1) := by decide +kernel
theorem dX12_piece_100 : decode cX12_piece 100 = .ok (.iaload, 1) := by decide +kernel
theorem dX12_piece_101 : decode cX12_piece 101 = .ok (.iastore, 1) := by decide +kernel
theorem dX12_piece_102 : decode cX12_piece 102 = .ok (.iinc 2 1, 3) := by decide +kernel
theorem dX12_piece_105 : decode cX12_piece 105 = .ok (.goto (-31), 3) := by decide +kernel
theorem dX12_piece_108 : decode cX12_piece 108 = .ok (.aload_n 0, 1) := by decide +kernel
theorem dX12_piece_109 : decode cX12_piece 109 = .ok (.dup, 1) := by decide +kernel
theorem dX12_piece_110 : decode cX12_piece 110 = .ok (.getfield 155, 3) := by decide +kernel
theorem dX12_piece_113 : decode cX12_piece 113 = .ok (.iconst 1, 1) := by decide +kernel
theorem dX12_piece_114 : decode cX12_piece 114 = .ok (.iadd, 1) := by decide +kernel
theorem dX12_piece_115 : decode cX12_piece 115 = .ok (.putfield 155, 3) := by decide +kernel
theorem dX12_piece_118 : decode cX12_piece 118 = .ok (.aload_n 0, 1) := by decide +kernel
theorem dX12_piece_119 : decode cX12_piece 119 = .ok (.iconst 0, 1) := by decide +kernel
theorem dX12_piece_120 : decode cX12_piece 120 = .ok (.putfield 148, 3) := by decide +kernel
theorem dX12_piece_123 : decode cX12_piece 123 = .ok (.aload_n 0, 1) := by decide +kernel
theorem dX12_piece_124 : decode cX12_piece 124 = .ok (.getfield 155, 3) := by decide +kernel
theorem dX12_piece_127 : decode cX12_piece 127 = .ok (.iconst 1, 1) := by decide +kernel
theorem dX12_piece_128 : decode cX12_piece 128 = .ok (.isub, 1) := by decide +kernel
theorem dX12_piece_129 : decode cX12_piece 129 = .ok (.ireturn, 1) := by decide +kernel
theorem dX12_drop_0 : decode cX12_drop 0 = .ok (.aload_n 0, 1) := by decide +kernel
theorem dX12_drop_1 : decode cX12_drop 1 = .ok (.getfield 155, 3) := by decide +kernel
theorem dX12_drop_4 : decode cX12_drop 4 = .ok (.istore_n 1, 1) := by decide +kernel
theorem dX12_drop_5 : decode cX12_drop 5 = .ok (.aload_n 0, 1) := by decide +kernel
theorem dX12_drop_6 : decode cX12_drop 6 = .ok (.iconst 0, 1) := by decide +kernel
theorem dX12_drop_7 : decode cX12_drop 7 = .ok (.putfield 155, 3) := by decide +kernel
theorem dX12_drop_10 : decode cX12_drop 10 = .ok (.iload_n 1, 1) := by decide +kernel
theorem dX12_drop_11 : decode cX12_drop 11 = .ok (.ireturn, 1) := by decide +kernel
theorem dX12_least_0 : decode cX12_least 0 = .ok (.iload_n 0, 1) := by decide +kernel
theorem dX12_least_1 : decode cX12_least 1 = .ok (.iload_n 1, 1) := by decide +kernel
theorem dX12_least_2 : decode cX12_least 2 = .ok (.if_icmp .ge 7, 3) := by decide +kernel
theorem dX12_least_5 : decode cX12_least 5 = .ok (.iload_n 0, 1) := by decide +kernel
theorem dX12_least_6 : decode cX12_least 6 = .ok (.goto 4, 3) := by decide +kernel
theorem dX12_least_9 : decode cX12_least 9 = .ok (.iload_n 1, 1) := by decide +kernel
theorem dX12_least_10 : decode cX12_least 10 = .ok (.ireturn, 1) := by decide +kernel
theorem dX12_apart_0 : decode cX12_apart 0 = .ok (.iconst 0, 1) := by decide +kernel
theorem dX12_apart_1 : decode cX12_apart 1 = .ok (.istore 7, 2) := by decide +kernel
theorem dX12_apart_3 : decode cX12_apart 3 = .ok (.iload 7, 2) := by decide +kernel
theorem dX12_apart_5 : decode cX12_apart 5 = .ok (.iload 6, 2) := by decide +kernel
theorem dX12_apart_7 : decode cX12_apart 7 = .ok (.if_icmp .gt 18, 3) := by decide +kernel
theorem dX12_apart_10 : decode cX12_apart 10 = .ok (.aload_n 0, 1) := by decide +kernel
theorem dX12_apart_11 : decode cX12_apart 11 = .ok (.getfield 89, 3) := by decide +kernel
theorem dX12_apart_14 : decode cX12_apart 14 = .ok (.iload 7, 2) := by decide +kernel
theorem dX12_apart_16 : decode cX12_apart 16 = .ok (.iload 7, 2) := by decide +kernel
theorem dX12_apart_18 : decode cX12_apart 18 = .ok (.iastore, 1) := by decide +kernel
theorem dX12_apart_19 : decode cX12_apart 19 = .ok (.iinc 7 1, 3) := by decide +kernel
theorem dX12_apart_22 : decode cX12_apart 22 = .ok (.goto (-19), 3) := by decide +kernel
theorem dX12_apart_25 : decode cX12_apart 25 = .ok (.iconst 1, 1) := by decide +kernel
theorem dX12_apart_26 : decode cX12_apart 26 = .ok (.istore 7, 2) := by decide +kernel
theorem dX12_apart_28 : decode cX12_apart 28 = .ok (.iload 7, 2) := by decide +kernel
theorem dX12_apart_30 : decode cX12_apart 30 = .ok (.iload_n 3, 1) := by decide +kernel
theorem dX12_apart_31 : decode cX12_apart 31 = .ok (.if_icmp .gt 140, 3) := by decide +kernel
theorem dX12_apart_34 : decode cX12_apart 34 = .ok (.aload_n 0, 1) := by decide +kernel
theorem dX12_apart_35 : decode cX12_apart 35 = .ok (.getfield 86, 3) := by decide +kernel
theorem dX12_apart_38 : decode cX12_apart 38 = .ok (.iconst 0, 1) := by decide +kernel
theorem dX12_apart_39 : decode cX12_apart 39 = .ok (.iload 7, 2) := by decide +kernel
theorem dX12_apart_41 : decode cX12_apart 41 = .ok (.iastore, 1) := by decide +kernel
theorem dX12_apart_42 : decode cX12_apart 42 = .ok (.iconst 1, 1) := by decide +kernel
theorem dX12_apart_43 : decode cX12_apart 43 = .ok (.istore 8, 2) := by decide +kernel
theorem dX12_apart_45 : decode cX12_apart 45 = .ok (.iload 8, 2) := by decide +kernel
theorem dX12_apart_47 : decode cX12_apart 47 = .ok (.iload 6, 2) := by decide +kernel
theorem dX12_apart_49 : decode cX12_apart 49 = .ok (.if_icmp .gt 86, 3) := by decide +kernel
theorem dX12_apart_52 : decode cX12_apart 52 = .ok (.aload_n 0, 1) := by decide +kernel
theorem dX12_apart_53 : decode cX12_apart 53 = .ok (.getfield 89, 3) := by decide +kernel
theorem dX12_apart_56 : decode cX12_apart 56 = .ok (.iload 8, 2) := by decide +kernel
theorem dX12_apart_58 : decode cX12_apart 58 = .ok (.iconst 1, 1) := by decide +kernel
theorem dX12_apart_59 : decode cX12_apart 59 = .ok (.isub, 1) := by decide +kernel
theorem dX12_apart_60 : decode cX12_apart 60 = .ok (.iaload, 1) := by decide +kernel
theorem dX12_apart_61 : decode cX12_apart 61 = .ok (.aload_n 1, 1) := by decide +kernel
theorem dX12_apart_62 : decode cX12_apart 62 = .ok (.iload_n 2, 1) := by decide +kernel
theorem dX12_apart_63 : decode cX12_apart 63 = .ok (.iload 7, 2) := by decide +kernel
theorem dX12_apart_65 : decode cX12_apart 65 = .ok (.iadd, 1) := by decide +kernel
theorem dX12_apart_66 : decode cX12_apart 66 = .ok (.iconst 1, 1) := by decide +kernel
theorem dX12_apart_67 : decode cX12_apart 67 = .ok (.isub, 1) := by decide +kernel
theorem dX12_apart_68 : decode cX12_apart 68 = .ok (.iaload, 1) := by decide +kernel
theorem dX12_apart_69 : decode cX12_apart 69 = .ok (.aload 4, 2) := by decide +kernel
theorem dX12_apart_71 : decode cX12_apart 71 = .ok (.iload 5, 2) := by decide +kernel
theorem dX12_apart_73 : decode cX12_apart 73 = .ok (.iload 8, 2) := by decide +kernel
theorem dX12_apart_75 : decode cX12_apart 75 = .ok (.iadd, 1) := by decide +kernel
theorem dX12_apart_76 : decode cX12_apart 76 = .ok (.iconst 1, 1) := by decide +kernel
theorem dX12_apart_77 : decode cX12_apart 77 = .ok (.isub, 1) := by decide +kernel
theorem dX12_apart_78 : decode cX12_apart 78 = .ok (.iaload, 1) := by decide +kernel
theorem dX12_apart_79 : decode cX12_apart 79 = .ok (.if_icmp .ne 7, 3) := by decide +kernel
theorem dX12_apart_82 : decode cX12_apart 82 = .ok (.iconst 0, 1) := by decide +kernel
theorem dX12_apart_83 : decode cX12_apart 83 = .ok (.goto 4, 3) := by decide +kernel
theorem dX12_apart_86 : decode cX12_apart 86 = .ok (.iconst 1, 1) := by decide +kernel
theorem dX12_apart_87 : decode cX12_apart 87 = .ok (.iadd, 1) := by decide +kernel
theorem dX12_apart_88 : decode cX12_apart 88 = .ok (.istore 9, 2) := by decide +kernel
theorem dX12_apart_90 : decode cX12_apart 90 = .ok (.iload 9, 2) := by decide +kernel
theorem dX12_apart_92 : decode cX12_apart 92 = .ok (.aload_n 0, 1) := by decide +kernel
theorem dX12_apart_93 : decode cX12_apart 93 = .ok (.getfield 89, 3) := by decide +kernel
theorem dX12_apart_96 : decode cX12_apart 96 = .ok (.iload 8, 2) := by decide +kernel
theorem dX12_apart_98 : decode cX12_apart 98 = .ok (.iaload, 1) := by decide +kernel
theorem dX12_apart_99 : decode cX12_apart 99 = .ok (.iconst 1, 1) := by decide +kernel
theorem dX12_apart_100 : decode cX12_apart 100 = .ok (.iadd, 1) := by decide +kernel
theorem dX12_apart_101 : decode cX12_apart 101 = .ok (.invokestatic 158, 3) := by decide +kernel
theorem dX12_apart_104 : decode cX12_apart 104 = .ok (.istore 9, 2) := by decide +kernel
theorem dX12_apart_106 : decode cX12_apart 106 = .ok (.aload_n 0, 1) := by decide +kernel
theorem dX12_apart_107 : decode cX12_apart 107 = .ok (.getfield 86, 3) := by decide +kernel
theorem dX12_apart_110 : decode cX12_apart 110 = .ok (.iload 8, 2) := by decide +kernel
theorem dX12_apart_112 : decode cX12_apart 112 = .ok (.iload 9, 2) := by decide +kernel
theorem dX12_apart_114 : decode cX12_apart 114 = .ok (.aload_n 0, 1) := by decide +kernel
theorem dX12_apart_115 : decode cX12_apart 115 = .ok (.getfield 86, 3) := by decide +kernel
theorem dX12_apart_118 : decode cX12_apart 118 = .ok (.iload 8, 2) := by decide +kernel
theorem dX12_apart_120 : decode cX12_apart 120 = .ok (.iconst 1, 1) := by decide +kernel
theorem dX12_apart_121 : decode cX12_apart 121 = .ok (.isub, 1) := by decide +kernel
theorem dX12_apart_122 : decode cX12_apart 122 = .ok (.iaload, 1) := by decide +kernel
theorem dX12_apart_123 : decode cX12_apart 123 = .ok (.iconst 1, 1) := by decide +kernel
theorem dX12_apart_124 : decode cX12_apart 124 = .ok (.iadd, 1) := by decide +kernel
theorem dX12_apart_125 : decode cX12_apart 125 = .ok (.invokestatic 158, 3) := by decide +kernel
theorem dX12_apart_128 : decode cX12_apart 128 = .ok (.iastore, 1) := by decide +kernel
theorem dX12_apart_129 : decode cX12_apart 129 = .ok (.iinc 8 1, 3) := by decide +kernel
theorem dX12_apart_132 : decode cX12_apart 132 = .ok (.goto (-87), 3) := by decide +kernel
theorem dX12_apart_135 : decode cX12_apart 135 = .ok (.iconst 0, 1) := by decide +kernel
theorem dX12_apart_136 : decode cX12_apart 136 = .ok (.istore 8, 2) := by decide +kernel
theorem dX12_apart_138 : decode cX12_apart 138 = .ok (.iload 8, 2) := by decide +kernel
theorem dX12_apart_140 : decode cX12_apart 140 = .ok (.iload 6, 2) := by decide +kernel
theorem dX12_apart_142 : decode cX12_apart 142 = .ok (.if_icmp .gt 23, 3) := by decide +kernel
theorem dX12_apart_145 : decode cX12_apart 145 = .ok (.aload_n 0, 1) := by decide +kernel
theorem dX12_apart_146 : decode cX12_apart 146 = .ok (.getfield 89, 3) := by decide +kernel
theorem dX12_apart_149 : decode cX12_apart 149 = .ok (.iload 8, 2) := by decide +kernel
theorem dX12_apart_151 : decode cX12_apart 151 = .ok (.aload_n 0, 1) := by decide +kernel
theorem dX12_apart_152 : decode cX12_apart 152 = .ok (.getfield 86, 3) := by decide +kernel
theorem dX12_apart_155 : decode cX12_apart 155 = .ok (.iload 8, 2) := by decide +kernel
theorem dX12_apart_157 : decode cX12_apart 157 = .ok (.iaload, 1) := by decide +kernel
theorem dX12_apart_158 : decode cX12_apart 158 = .ok (.iastore, 1) := by decide +kernel
theorem dX12_apart_159 : decode cX12_apart 159 = .ok (.iinc 8 1, 3) := by decide +kernel
theorem dX12_apart_162 : decode cX12_apart 162 = .ok (.goto (-24), 3) := by decide +kernel
theorem dX12_apart_165 : decode cX12_apart 165 = .ok (.iinc 7 1, 3) := by decide +kernel
theorem dX12_apart_168 : decode cX12_apart 168 = .ok (.goto (-140), 3) := by decide +kernel
theorem dX12_apart_171 : decode cX12_apart 171 = .ok (.aload_n 0, 1) := by decide +kernel
theorem dX12_apart_172 : decode cX12_apart 172 = .ok (.getfield 89, 3) := by decide +kernel
theorem dX12_apart_175 : decode cX12_apart 175 = .ok (.iload 6, 2) := by decide +kernel
theorem dX12_apart_177 : decode cX12_apart 177 = .ok (.iaload, 1) := by decide +kernel
theorem dX12_apart_178 : decode cX12_apart 178 = .ok (.ireturn, 1) := by decide +kernel
theorem dX12_findMatch_0 : decode cX12_findMatch 0 = .ok (.iconst 0, 1) := by decide +kernel
theorem dX12_findMatch_1 : decode cX12_findMatch 1 = .ok (.istore_n 1, 1) := by decide +kernel
theorem dX12_findMatch_2 : decode cX12_findMatch 2 = .ok (.iload_n 1, 1) := by decide +kernel
theorem dX12_findMatch_3 : decode cX12_findMatch 3 = .ok (.aload_n 0, 1) := by decide +kernel
theorem dX12_findMatch_4 : decode cX12_findMatch 4 = .ok (.getfield 155, 3) := by decide +kernel
theorem dX12_findMatch_7 : decode cX12_findMatch 7 = .ok (.if_icmp .ge 68, 3) := by decide +kernel
theorem dX12_findMatch_10 : decode cX12_findMatch 10 = .ok (.iconst 0, 1) := by decide +kernel
theorem dX12_findMatch_11 : decode cX12_findMatch 11 = .ok (.istore_n 2, 1) := by decide +kernel
theorem dX12_findMatch_12 : decode cX12_findMatch 12 = .ok (.iload_n 2, 1) := by decide +kernel
theorem dX12_findMatch_13 : decode cX12_findMatch 13 = .ok (.aload_n 0, 1) := by decide +kernel
theorem dX12_findMatch_14 : decode cX12_findMatch 14 = .ok (.getfield 132, 3) := by decide +kernel
theorem dX12_findMatch_17 : decode cX12_findMatch 17 = .ok (.if_icmp .ge 52, 3) := by decide +kernel
theorem dX12_findMatch_20 : decode cX12_findMatch 20 = .ok (.aload_n 0, 1) := by decide +kernel
theorem dX12_findMatch_21 : decode cX12_findMatch 21 = .ok (.getfield 92, 3) := by decide +kernel
theorem dX12_findMatch_24 : decode cX12_findMatch 24 = .ok (.bipush 8, 2) := by decide +kernel
theorem dX12_findMatch_26 : decode cX12_findMatch 26 = .ok (.iload_n 1, 1) := by decide +kernel
theorem dX12_findMatch_27 : decode cX12_findMatch 27 = .ok (.imul, 1) := by decide +kernel
theorem dX12_findMatch_28 : decode cX12_findMatch 28 = .ok (.iload_n 2, 1) := by decide +kernel
theorem dX12_findMatch_29 : decode cX12_findMatch 29 = .ok (.iadd, 1) := by decide +kernel
theorem dX12_findMatch_30 : decode cX12_findMatch 30 = .ok (.aload_n 0, 1) := by decide +kernel
theorem dX12_findMatch_31 : decode cX12_findMatch 31 = .ok (.aload_n 0, 1) := by decide +kernel
theorem dX12_findMatch_32 : decode cX12_findMatch 32 = .ok (.getfield 34, 3) := by decide +kernel
theorem dX12_findMatch_35 : decode cX12_findMatch 35 = .ok (.bipush 8, 2) := by decide +kernel
theorem dX12_findMatch_37 : decode cX12_findMatch 37 = .ok (.iload_n 1, 1) := by decide +kernel
theorem dX12_findMatch_38 : decode cX12_findMatch 38 = .ok (.imul, 1) := by decide +kernel
theorem dX12_findMatch_39 : decode cX12_findMatch 39 = .ok (.aload_n 0, 1) := by decide +kernel
theorem dX12_findMatch_40 : decode cX12_findMatch 40 = .ok (.getfield 31, 3) := by decide +kernel
theorem dX12_findMatch_43 : decode cX12_findMatch 43 = .ok (.iload_n 1, 1) := by decide +kernel
theorem dX12_findMatch_44 : decode cX12_findMatch 44 = .ok (.iaload, 1) := by decide +kernel
theorem dX12_findMatch_45 : decode cX12_findMatch 45 = .ok (.aload_n 0, 1) := by decide +kernel
theorem dX12_findMatch_46 : decode cX12_findMatch 46 = .ok (.getfield 19, 3) := by decide +kernel
theorem dX12_findMatch_49 : decode cX12_findMatch 49 = .ok (.bipush 8, 2) := by decide +kernel
theorem dX12_findMatch_51 : decode cX12_findMatch 51 = .ok (.iload_n 2, 1) := by decide +kernel
theorem dX12_findMatch_52 : decode cX12_findMatch 52 = .ok (.imul, 1) := by decide +kernel
theorem dX12_findMatch_53 : decode cX12_findMatch 53 = .ok (.aload_n 0, 1) := by decide +kernel
theorem dX12_findMatch_54 : decode cX12_findMatch 54 = .ok (.getfield 16, 3) := by decide +kernel
theorem dX12_findMatch_57 : decode cX12_findMatch 57 = .ok (.iload_n 2, 1) := by decide +kernel
theorem dX12_findMatch_58 : decode cX12_findMatch 58 = .ok (.iaload, 1) := by decide +kernel
theorem dX12_findMatch_59 : decode cX12_findMatch 59 = .ok (.invokevirtual 162, 3) := by decide +kernel
theorem dX12_findMatch_62 : decode cX12_findMatch 62 = .ok (.iastore, 1) := by decide +kernel
theorem dX12_findMatch_63 : decode cX12_findMatch 63 = .ok (.iinc 2 1, 3) := by decide +kernel
theorem dX12_findMatch_66 : decode cX12_findMatch 66 = .ok (.goto (-54), 3) := by decide +kernel
theorem dX12_findMatch_69 : decode cX12_findMatch 69 = .ok (.iinc 1 1, 3) := by decide +kernel
theorem dX12_findMatch_72 : decode cX12_findMatch 72 = .ok (.goto (-70), 3) := by decide +kernel
theorem dX12_findMatch_75 : decode cX12_findMatch 75 = .ok (.iconst 0, 1) := by decide +kernel
theorem dX12_findMatch_76 : decode cX12_findMatch 76 = .ok (.istore_n 1, 1) := by decide +kernel
theorem dX12_findMatch_77 : decode cX12_findMatch 77 = .ok (.iload_n 1, 1) := by decide +kernel
theorem dX12_findMatch_78 : decode cX12_findMatch 78 = .ok (.sipush 256, 3) := by decide +kernel
theorem dX12_findMatch_81 : decode cX12_findMatch 81 = .ok (.if_icmp .ge 25, 3) := by decide +kernel
theorem dX12_findMatch_84 : decode cX12_findMatch 84 = .ok (.aload_n 0, 1) := by decide +kernel
theorem dX12_findMatch_85 : decode cX12_findMatch 85 = .ok (.getfield 95, 3) := by decide +kernel
theorem dX12_findMatch_88 : decode cX12_findMatch 88 = .ok (.sipush 256, 3) := by decide +kernel
theorem dX12_findMatch_91 : decode cX12_findMatch 91 = .ok (.aload_n 0, 1) := by decide +kernel
theorem dX12_findMatch_92 : decode cX12_findMatch 92 = .ok (.getfield 155, 3) := by decide +kernel
theorem dX12_findMatch_95 : decode cX12_findMatch 95 = .ok (.imul, 1) := by decide +kernel
theorem dX12_findMatch_96 : decode cX12_findMatch 96 = .ok (.iload_n 1, 1) := by decide +kernel
theorem dX12_findMatch_97 : decode cX12_findMatch 97 = .ok (.iadd, 1) := by decide +kernel
theorem dX12_findMatch_98 : decode cX12_findMatch 98 = .ok (.iconst 0, 1) := by decide +kernel
theorem dX12_findMatch_99 : decode cX12_findMatch 99 = .ok (.iastore, 1) := by decide +kernel
theorem dX12_findMatch_100 : decode cX12_findMatch 100 = .ok (.iinc 1 1, 3) := by decide +kernel
theorem dX12_findMatch_103 : decode cX12_findMatch 103 = .ok (.goto (-26), 3) := by decide +kernel
theorem dX12_findMatch_106 : decode cX12_findMatch 106 = .ok (.aload_n 0, 1) := by decide +kernel
theorem dX12_findMatch_107 : decode cX12_findMatch 107 = .ok (.getfield 155, 3) := by decide +kernel
theorem dX12_findMatch_110 : decode cX12_findMatch 110 = .ok (.iconst 1, 1) := by decide +kernel
theorem dX12_findMatch_111 : decode cX12_findMatch 111 = .ok (.isub, 1) := by decide +kernel
theorem dX12_findMatch_112 : decode cX12_findMatch 112 = .ok (.istore_n 1, 1) := by decide +kernel
theorem dX12_findMatch_113 : decode cX12_findMatch 113 = .ok (.iload_n 1, 1) := by decide +kernel
theorem dX12_findMatch_114 : decode cX12_findMatch 114 = .ok (.ifCond .lt 123, 3) := by decide +kernel
theorem dX12_findMatch_117 : decode cX12_findMatch 117 = .ok (.iconst 0, 1) := by decide +kernel
theorem dX12_findMatch_118 : decode cX12_findMatch 118 = .ok (.istore_n 2, 1) := by decide +kernel
theorem dX12_findMatch_119 : decode cX12_findMatch 119 = .ok (.iload_n 2, 1) := by decide +kernel
theorem dX12_findMatch_120 : decode cX12_findMatch 120 = .ok (.sipush 256, 3) := by decide +kernel
theorem dX12_findMatch_123 : decode cX12_findMatch 123 = .ok (.if_icmp .ge 108, 3) := by decide +kernel
theorem dX12_findMatch_126 : decode cX12_findMatch 126 = .ok (.aload_n 0, 1) := by decide +kernel
theorem dX12_findMatch_127 : decode cX12_findMatch 127 = .ok (.getfield 31, 3) := by decide +kernel
theorem dX12_findMatch_130 : decode cX12_findMatch 130 = .ok (.iload_n 1, 1) := by decide +kernel
theorem dX12_findMatch_131 : decode cX12_findMatch 131 = .ok (.iaload, 1) := by decide +kernel
theorem dX12_findMatch_132 : decode cX12_findMatch 132 = .ok (.aload_n 0, 1) := by decide +kernel
theorem dX12_findMatch_133 : decode cX12_findMatch 133 = .ok (.getfield 95, 3) := by decide +kernel
theorem dX12_findMatch_136 : decode cX12_findMatch 136 = .ok (.sipush 256, 3) := by decide +kernel
theorem dX12_findMatch_139 : decode cX12_findMatch 139 = .ok (.iload_n 1, 1) := by decide +kernel
theorem dX12_findMatch_140 : decode cX12_findMatch 140 = .ok (.iconst 1, 1) := by decide +kernel
theorem dX12_findMatch_141 : decode cX12_findMatch 141 = .ok (.iadd, 1) := by decide +kernel
theorem dX12_findMatch_142 : decode cX12_findMatch 142 = .ok (.imul, 1) := by decide +kernel
theorem dX12_findMatch_143 : decode cX12_findMatch 143 = .ok (.iload_n 2, 1) := by decide +kernel
theorem dX12_findMatch_144 : decode cX12_findMatch 144 = .ok (.iadd, 1) := by decide +kernel
theorem dX12_findMatch_145 : decode cX12_findMatch 145 = .ok (.iaload, 1) := by decide +kernel
theorem dX12_findMatch_146 : decode cX12_findMatch 146 = .ok (.iadd, 1) := by decide +kernel
theorem dX12_findMatch_147 : decode cX12_findMatch 147 = .ok (.istore_n 3, 1) := by decide +kernel
theorem dX12_findMatch_148 : decode cX12_findMatch 148 = .ok (.iconst 0, 1) := by decide +kernel
theorem dX12_findMatch_149 : decode cX12_findMatch 149 = .ok (.istore 4, 2) := by decide +kernel
theorem dX12_findMatch_151 : decode cX12_findMatch 151 = .ok (.iload 4, 2) := by decide +kernel
theorem dX12_findMatch_153 : decode cX12_findMatch 153 = .ok (.aload_n 0, 1) := by decide +kernel
theorem dX12_findMatch_154 : decode cX12_findMatch 154 = .ok (.getfield 132, 3) := by decide +kernel
theorem dX12_findMatch_157 : decode cX12_findMatch 157 = .ok (.if_icmp .ge 55, 3) := by decide +kernel
theorem dX12_findMatch_160 : decode cX12_findMatch 160 = .ok (.iload_n 2, 1) := by decide +kernel
theorem dX12_findMatch_161 : decode cX12_findMatch 161 = .ok (.iload 4, 2) := by decide +kernel
theorem dX12_findMatch_163 : decode cX12_findMatch 163 = .ok (.ishr, 1) := by decide +kernel
theorem dX12_findMatch_164 : decode cX12_findMatch 164 = .ok (.iconst 1, 1) := by decide +kernel
theorem dX12_findMatch_165 : decode cX12_findMatch 165 = .ok (.iand, 1) := by decide +kernel
theorem dX12_findMatch_166 : decode cX12_findMatch 166 = .ok (.ifCond .ne 40, 3) := by decide +kernel
theorem dX12_findMatch_169 : decode cX12_findMatch 169 = .ok (.iload_n 3, 1) := by decide +kernel
theorem dX12_findMatch_170 : decode cX12_findMatch 170 = .ok (.aload_n 0, 1) := by decide +kernel
theorem dX12_findMatch_171 : decode cX12_findMatch 171 = .ok (.getfield 92, 3) := by decide +kernel
theorem dX12_findMatch_174 : decode cX12_findMatch 174 = .ok (.bipush 8, 2) := by decide +kernel
theorem dX12_findMatch_176 : decode cX12_findMatch 176 = .ok (.iload_n 1, 1) := by decide +kernel
theorem dX12_findMatch_177 : decode cX12_findMatch 177 = .ok (.imul, 1) := by decide +kernel
theorem dX12_findMatch_178 : decode cX12_findMatch 178 = .ok (.iload 4, 2) := by decide +kernel
theorem dX12_findMatch_180 : decode cX12_findMatch 180 = .ok (.iadd, 1) := by decide +kernel
theorem dX12_findMatch_181 : decode cX12_findMatch 181 = .ok (.iaload, 1) := by decide +kernel
theorem dX12_findMatch_182 : decode cX12_findMatch 182 = .ok (.aload_n 0, 1) := by decide +kernel
theorem dX12_findMatch_183 : decode cX12_findMatch 183 = .ok (.getfield 95, 3) := by decide +kernel
theorem dX12_findMatch_186 : decode cX12_findMatch 186 = .ok (.sipush 256, 3) := by decide +kernel
theorem dX12_findMatch_189 : decode cX12_findMatch 189 = .ok (.iload_n 1, 1) := by decide +kernel
theorem dX12_findMatch_190 : decode cX12_findMatch 190 = .ok (.iconst 1, 1) := by decide +kernel
theorem dX12_findMatch_191 : decode cX12_findMatch 191 = .ok (.iadd, 1) := by decide +kernel
theorem dX12_findMatch_192 : decode cX12_findMatch 192 = .ok (.imul, 1) := by decide +kernel
theorem dX12_findMatch_193 : decode cX12_findMatch 193 = .ok (.iload_n 2, 1) := by decide +kernel
theorem dX12_findMatch_194 : decode cX12_findMatch 194 = .ok (.iconst 1, 1) := by decide +kernel
theorem dX12_findMatch_195 : decode cX12_findMatch 195 = .ok (.iload 4, 2) := by decide +kernel
theorem dX12_findMatch_197 : decode cX12_findMatch 197 = .ok (.ishl, 1) := by decide +kernel
theorem dX12_findMatch_198 : decode cX12_findMatch 198 = .ok (.ior, 1) := by decide +kernel
theorem dX12_findMatch_199 : decode cX12_findMatch 199 = .ok (.iadd, 1) := by decide +kernel
theorem dX12_findMatch_200 : decode cX12_findMatch 200 = .ok (.iaload, 1) := by decide +kernel
theorem dX12_findMatch_201 : decode cX12_findMatch 201 = .ok (.iadd, 1) := by decide +kernel
theorem dX12_findMatch_202 : decode cX12_findMatch 202 = .ok (.invokestatic 158, 3) := by decide +kernel
theorem dX12_findMatch_205 : decode cX12_findMatch 205 = .ok (.istore_n 3, 1) := by decide +kernel
theorem dX12_findMatch_206 : decode cX12_findMatch 206 = .ok (.iinc 4 1, 3) := by decide +kernel
theorem dX12_findMatch_209 : decode cX12_findMatch 209 = .ok (.goto (-58), 3) := by decide +kernel
theorem dX12_findMatch_212 : decode cX12_findMatch 212 = .ok (.aload_n 0, 1) := by decide +kernel
theorem dX12_findMatch_213 : decode cX12_findMatch 213 = .ok (.getfield 95, 3) := by decide +kernel
theorem dX12_findMatch_216 : decode cX12_findMatch 216 = .ok (.sipush 256, 3) := by decide +kernel
theorem dX12_findMatch_219 : decode cX12_findMatch 219 = .ok (.iload_n 1, 1) := by decide +kernel
theorem dX12_findMatch_220 : decode cX12_findMatch 220 = .ok (.imul, 1) := by decide +kernel
theorem dX12_findMatch_221 : decode cX12_findMatch 221 = .ok (.iload_n 2, 1) := by decide +kernel
theorem dX12_findMatch_222 : decode cX12_findMatch 222 = .ok (.iadd, 1) := by decide +kernel
theorem dX12_findMatch_223 : decode cX12_findMatch 223 = .ok (.iload_n 3, 1) := by decide +kernel
theorem dX12_findMatch_224 : decode cX12_findMatch 224 = .ok (.iastore, 1) := by decide +kernel
theorem dX12_findMatch_225 : decode cX12_findMatch 225 = .ok (.iinc 2 1, 3) := by decide +kernel
theorem dX12_findMatch_228 : decode cX12_findMatch 228 = .ok (.goto (-109), 3) := by decide +kernel
theorem dX12_findMatch_231 : decode cX12_findMatch 231 = .ok (.iinc 1 (-1), 3) := by decide +kernel
theorem dX12_findMatch_234 : decode cX12_findMatch 234 = .ok (.goto (-121), 3) := by decide +kernel
theorem dX12_findMatch_237 : decode cX12_findMatch 237 = .ok (.iconst 0, 1) := by decide +kernel
theorem dX12_findMatch_238 : decode cX12_findMatch 238 = .ok (.istore_n 1, 1) := by decide +kernel
theorem dX12_findMatch_239 : decode cX12_findMatch 239 = .ok (.iconst 0, 1) := by decide +kernel
theorem dX12_findMatch_240 : decode cX12_findMatch 240 = .ok (.istore_n 2, 1) := by decide +kernel
theorem dX12_findMatch_241 : decode cX12_findMatch 241 = .ok (.iload_n 2, 1) := by decide +kernel
theorem dX12_findMatch_242 : decode cX12_findMatch 242 = .ok (.aload_n 0, 1) := by decide +kernel
theorem dX12_findMatch_243 : decode cX12_findMatch 243 = .ok (.getfield 155, 3) := by decide +kernel
theorem dX12_findMatch_246 : decode cX12_findMatch 246 = .ok (.if_icmp .ge 126, 3) := by decide +kernel
theorem dX12_findMatch_249 : decode cX12_findMatch 249 = .ok (.iconst (-1), 1) := by decide +kernel
theorem dX12_findMatch_250 : decode cX12_findMatch 250 = .ok (.istore_n 3, 1) := by decide +kernel
theorem dX12_findMatch_251 : decode cX12_findMatch 251 = .ok (.aload_n 0, 1) := by decide +kernel
theorem dX12_findMatch_252 : decode cX12_findMatch 252 = .ok (.getfield 132, 3) := by decide +kernel
theorem dX12_findMatch_255 : decode cX12_findMatch 255 = .ok (.iconst 1, 1) := by decide +kernel
theorem dX12_findMatch_256 : decode cX12_findMatch 256 = .ok (.isub, 1) := by decide +kernel
theorem dX12_findMatch_257 : decode cX12_findMatch 257 = .ok (.istore 4, 2) := by decide +kernel
theorem dX12_findMatch_259 : decode cX12_findMatch 259 = .ok (.iload 4, 2) := by decide +kernel
theorem dX12_findMatch_261 : decode cX12_findMatch 261 = .ok (.ifCond .lt 84, 3) := by decide +kernel
theorem dX12_findMatch_264 : decode cX12_findMatch 264 = .ok (.iload_n 1, 1) := by decide +kernel
theorem dX12_findMatch_265 : decode cX12_findMatch 265 = .ok (.iload 4, 2) := by decide +kernel
theorem dX12_findMatch_267 : decode cX12_findMatch 267 = .ok (.ishr, 1) := by decide +kernel
theorem dX12_findMatch_268 : decode cX12_findMatch 268 = .ok (.iconst 1, 1) := by decide +kernel
theorem dX12_findMatch_269 : decode cX12_findMatch 269 = .ok (.iand, 1) := by decide +kernel
theorem dX12_findMatch_270 : decode cX12_findMatch 270 = .ok (.ifCond .ne 54, 3) := by decide +kernel
theorem dX12_findMatch_273 : decode cX12_findMatch 273 = .ok (.aload_n 0, 1) := by decide +kernel
theorem dX12_findMatch_274 : decode cX12_findMatch 274 = .ok (.getfield 92, 3) := by decide +kernel
theorem dX12_findMatch_277 : decode cX12_findMatch 277 = .ok (.bipush 8, 2) := by decide +kernel
theorem dX12_findMatch_279 : decode cX12_findMatch 279 = .ok (.iload_n 2, 1) := by decide +kernel
theorem dX12_findMatch_280 : decode cX12_findMatch 280 = .ok (.imul, 1) := by decide +kernel
theorem dX12_findMatch_281 : decode cX12_findMatch 281 = .ok (.iload 4, 2) := by decide +kernel
theorem dX12_findMatch_283 : decode cX12_findMatch 283 = .ok (.iadd, 1) := by decide +kernel
theorem dX12_findMatch_284 : decode cX12_findMatch 284 = .ok (.iaload, 1) := by decide +kernel
theorem dX12_findMatch_285 : decode cX12_findMatch 285 = .ok (.aload_n 0, 1) := by decide +kernel
theorem dX12_findMatch_286 : decode cX12_findMatch 286 = .ok (.getfield 95, 3) := by decide +kernel
theorem dX12_findMatch_289 : decode cX12_findMatch 289 = .ok (.sipush 256, 3) := by decide +kernel
theorem dX12_findMatch_292 : decode cX12_findMatch 292 = .ok (.iload_n 2, 1) := by decide +kernel
theorem dX12_findMatch_293 : decode cX12_findMatch 293 = .ok (.iconst 1, 1) := by decide +kernel
theorem dX12_findMatch_294 : decode cX12_findMatch 294 = .ok (.iadd, 1) := by decide +kernel
theorem dX12_findMatch_295 : decode cX12_findMatch 295 = .ok (.imul, 1) := by decide +kernel
theorem dX12_findMatch_296 : decode cX12_findMatch 296 = .ok (.iload_n 1, 1) := by decide +kernel
theorem dX12_findMatch_297 : decode cX12_findMatch 297 = .ok (.iconst 1, 1) := by decide +kernel
theorem dX12_findMatch_298 : decode cX12_findMatch 298 = .ok (.iload 4, 2) := by decide +kernel
theorem dX12_findMatch_300 : decode cX12_findMatch 300 = .ok (.ishl, 1) := by decide +kernel
theorem dX12_findMatch_301 : decode cX12_findMatch 301 = .ok (.ior, 1) := by decide +kernel
theorem dX12_findMatch_302 : decode cX12_findMatch 302 = .ok (.iadd, 1) := by decide +kernel
theorem dX12_findMatch_303 : decode cX12_findMatch 303 = .ok (.iaload, 1) := by decide +kernel
theorem dX12_findMatch_304 : decode cX12_findMatch 304 = .ok (.iadd, 1) := by decide +kernel
theorem dX12_findMatch_305 : decode cX12_findMatch 305 = .ok (.aload_n 0, 1) := by decide +kernel
theorem dX12_findMatch_306 : decode cX12_findMatch 306 = .ok (.getfield 95, 3) := by decide +kernel
theorem dX12_findMatch_309 : decode cX12_findMatch 309 = .ok (.sipush 256, 3) := by decide +kernel
theorem dX12_findMatch_312 : decode cX12_findMatch 312 = .ok (.iload_n 2, 1) := by decide +kernel
theorem dX12_findMatch_313 : decode cX12_findMatch 313 = .ok (.imul, 1) := by decide +kernel
theorem dX12_findMatch_314 : decode cX12_findMatch 314 = .ok (.iload_n 1, 1) := by decide +kernel
theorem dX12_findMatch_315 : decode cX12_findMatch 315 = .ok (.iadd, 1) := by decide +kernel
theorem dX12_findMatch_316 : decode cX12_findMatch 316 = .ok (.iaload, 1) := by decide +kernel
theorem dX12_findMatch_317 : decode cX12_findMatch 317 = .ok (.if_icmp .ne 7, 3) := by decide +kernel
theorem dX12_findMatch_320 : decode cX12_findMatch 320 = .ok (.iconst 1, 1) := by decide +kernel
theorem dX12_findMatch_321 : decode cX12_findMatch 321 = .ok (.goto 4, 3) := by decide +kernel
theorem dX12_findMatch_324 : decode cX12_findMatch 324 = .ok (.iconst 0, 1) := by decide +kernel
theorem dX12_findMatch_325 : decode cX12_findMatch 325 = .ok (.istore 5, 2) := by decide +kernel
theorem dX12_findMatch_327 : decode cX12_findMatch 327 = .ok (.iload 5, 2) := by decide +kernel
theorem dX12_findMatch_329 : decode cX12_findMatch 329 = .ok (.ifCond .eq 8, 3) := by decide +kernel
theorem dX12_findMatch_332 : decode cX12_findMatch 332 = .ok (.iload 4, 2) := by decide +kernel
theorem dX12_findMatch_334 : decode cX12_findMatch 334 = .ok (.goto 4, 3) := by decide +kernel
theorem dX12_findMatch_337 : decode cX12_findMatch 337 = .ok (.iload_n 3, 1) := by decide +kernel
theorem dX12_findMatch_338 : decode cX12_findMatch 338 = .ok (.istore_n 3, 1) := by decide +kernel
theorem dX12_findMatch_339 : decode cX12_findMatch 339 = .ok (.iinc 4 (-1), 3) := by decide +kernel
theorem dX12_findMatch_342 : decode cX12_findMatch 342 = .ok (.goto (-83), 3) := by decide +kernel
theorem dX12_findMatch_345 : decode cX12_findMatch 345 = .ok (.aload_n 0, 1) := by decide +kernel
theorem dX12_findMatch_346 : decode cX12_findMatch 346 = .ok (.getfield 98, 3) := by decide +kernel
theorem dX12_findMatch_349 : decode cX12_findMatch 349 = .ok (.iload_n 2, 1) := by decide +kernel
theorem dX12_findMatch_350 : decode cX12_findMatch 350 = .ok (.iload_n 3, 1) := by decide +kernel
theorem dX12_findMatch_351 : decode cX12_findMatch 351 = .ok (.iastore, 1) := by decide +kernel
theorem dX12_findMatch_352 : decode cX12_findMatch 352 = .ok (.iload_n 1, 1) := by decide +kernel
theorem dX12_findMatch_353 : decode cX12_findMatch 353 = .ok (.iload_n 3, 1) := by decide +kernel
theorem dX12_findMatch_354 : decode cX12_findMatch 354 = .ok (.ifCond .ge 7, 3) := by decide +kernel
theorem dX12_findMatch_357 : decode cX12_findMatch 357 = .ok (.iconst 0, 1) := by decide +kernel
theorem dX12_findMatch_358 : decode cX12_findMatch 358 = .ok (.goto 6, 3) := by decide +kernel
theorem dX12_findMatch_361 : decode cX12_findMatch 361 = .ok (.iconst 1, 1) := by decide +kernel
theorem dX12_findMatch_362 : decode cX12_findMatch 362 = .ok (.iload_n 3, 1) := by decide +kernel
theorem dX12_findMatch_363 : decode cX12_findMatch 363 = .ok (.ishl, 1) := by decide +kernel
theorem dX12_findMatch_364 : decode cX12_findMatch 364 = .ok (.ior, 1) := by decide +kernel
theorem dX12_findMatch_365 : decode cX12_findMatch 365 = .ok (.istore_n 1, 1) := by decide +kernel
theorem dX12_findMatch_366 : decode cX12_findMatch 366 = .ok (.iinc 2 1, 3) := by decide +kernel
theorem dX12_findMatch_369 : decode cX12_findMatch 369 = .ok (.goto (-128), 3) := by decide +kernel
theorem dX12_findMatch_372 : decode cX12_findMatch 372 = .ok (.aload_n 0, 1) := by decide +kernel
theorem dX12_findMatch_373 : decode cX12_findMatch 373 = .ok (.getfield 95, 3) := by decide +kernel
theorem dX12_findMatch_376 : decode cX12_findMatch 376 = .ok (.iconst 0, 1) := by decide +kernel
theorem dX12_findMatch_377 : decode cX12_findMatch 377 = .ok (.iaload, 1) := by decide +kernel
theorem dX12_findMatch_378 : decode cX12_findMatch 378 = .ok (.ireturn, 1) := by decide +kernel
theorem dX12_copy_0 : decode cX12_copy 0 = .ok (.iconst 0, 1) := by decide +kernel
theorem dX12_copy_1 : decode cX12_copy 1 = .ok (.istore_n 3, 1) := by decide +kernel
theorem dX12_copy_2 : decode cX12_copy 2 = .ok (.iload_n 3, 1) := by decide +kernel
theorem dX12_copy_3 : decode cX12_copy 3 = .ok (.iload_n 2, 1) := by decide +kernel
theorem dX12_copy_4 : decode cX12_copy 4 = .ok (.if_icmp .ge 15, 3) := by decide +kernel
theorem dX12_copy_7 : decode cX12_copy 7 = .ok (.aload_n 1, 1) := by decide +kernel
theorem dX12_copy_8 : decode cX12_copy 8 = .ok (.iload_n 3, 1) := by decide +kernel
theorem dX12_copy_9 : decode cX12_copy 9 = .ok (.aload_n 0, 1) := by decide +kernel
theorem dX12_copy_10 : decode cX12_copy 10 = .ok (.iload_n 3, 1) := by decide +kernel
theorem dX12_copy_11 : decode cX12_copy 11 = .ok (.iaload, 1) := by decide +kernel
theorem dX12_copy_12 : decode cX12_copy 12 = .ok (.iastore, 1) := by decide +kernel
theorem dX12_copy_13 : decode cX12_copy 13 = .ok (.iinc 3 1, 3) := by decide +kernel
theorem dX12_copy_16 : decode cX12_copy 16 = .ok (.goto (-14), 3) := by decide +kernel
theorem dX12_copy_19 : decode cX12_copy 19 = .ok (.return_, 1) := by decide +kernel
theorem dX12_takeOver_0 : decode cX12_takeOver 0 = .ok (.iconst 0, 1) := by decide +kernel
theorem dX12_takeOver_1 : decode cX12_takeOver 1 = .ok (.istore 4, 2) := by decide +kernel
theorem dX12_takeOver_3 : decode cX12_takeOver 3 = .ok (.iload 4, 2) := by decide +kernel
theorem dX12_takeOver_5 : decode cX12_takeOver 5 = .ok (.iconst 3, 1) := by decide +kernel
theorem dX12_takeOver_6 : decode cX12_takeOver 6 = .ok (.if_icmp .ge 127, 3) := by decide +kernel
theorem dX12_takeOver_9 : decode cX12_takeOver 9 = .ok (.iconst 3, 1) := by decide +kernel
theorem dX12_takeOver_10 : decode cX12_takeOver 10 = .ok (.iload_n 1, 1) := by decide +kernel
theorem dX12_takeOver_11 : decode cX12_takeOver 11 = .ok (.imul, 1) := by decide +kernel
theorem dX12_takeOver_12 : decode cX12_takeOver 12 = .ok (.iload 4, 2) := by decide +kernel
theorem dX12_takeOver_14 : decode cX12_takeOver 14 = .ok (.iadd, 1) := by decide +kernel
theorem dX12_takeOver_15 : decode cX12_takeOver 15 = .ok (.istore 5, 2) := by decide +kernel
theorem dX12_takeOver_17 : decode cX12_takeOver 17 = .ok (.iconst 3, 1) := by decide +kernel
theorem dX12_takeOver_18 : decode cX12_takeOver 18 = .ok (.iload_n 2, 1) := by decide +kernel
theorem dX12_takeOver_19 : decode cX12_takeOver 19 = .ok (.imul, 1) := by decide +kernel
theorem dX12_takeOver_20 : decode cX12_takeOver 20 = .ok (.iload 4, 2) := by decide +kernel
theorem dX12_takeOver_22 : decode cX12_takeOver 22 = .ok (.iadd, 1) := by decide +kernel
theorem dX12_takeOver_23 : decode cX12_takeOver 23 = .ok (.istore 6, 2) := by decide +kernel
theorem dX12_takeOver_25 : decode cX12_takeOver 25 = .ok (.aload_n 0, 1) := by decide +kernel
theorem dX12_takeOver_26 : decode cX12_takeOver 26 = .ok (.getfield 37, 3) := by decide +kernel
theorem dX12_takeOver_29 : decode cX12_takeOver 29 = .ok (.iload 5, 2) := by decide +kernel
theorem dX12_takeOver_31 : decode cX12_takeOver 31 = .ok (.aload_n 0, 1) := by decide +kernel
theorem dX12_takeOver_32 : decode cX12_takeOver 32 = .ok (.getfield 101, 3) := by decide +kernel
theorem dX12_takeOver_35 : decode cX12_takeOver 35 = .ok (.iload 6, 2) := by decide +kernel
theorem dX12_takeOver_37 : decode cX12_takeOver 37 = .ok (.iaload, 1) := by decide +kernel
theorem dX12_takeOver_38 : decode cX12_takeOver 38 = .ok (.ifCond .le 11, 3) := by decide +kernel
theorem dX12_takeOver_41 : decode cX12_takeOver 41 = .ok (.iload_n 3, 1) := by decide +kernel
theorem dX12_takeOver_42 : decode cX12_takeOver 42 = .ok (.ifCond .le 7, 3) := by decide +kernel
theorem dX12_takeOver_45 : decode cX12_takeOver 45 = .ok (.iconst 3, 1) := by decide +kernel
theorem dX12_takeOver_46 : decode cX12_takeOver 46 = .ok (.goto 10, 3) := by decide +kernel
theorem dX12_takeOver_49 : decode cX12_takeOver 49 = .ok (.aload_n 0, 1) := by decide +kernel
theorem dX12_takeOver_50 : decode cX12_takeOver 50 = .ok (.getfield 101, 3) := by decide +kernel
theorem dX12_takeOver_53 : decode cX12_takeOver 53 = .ok (.iload 6, 2) := by decide +kernel
theorem dX12_takeOver_55 : decode cX12_takeOver 55 = .ok (.iaload, 1) := by decide +kernel
theorem dX12_takeOver_56 : decode cX12_takeOver 56 = .ok (.iastore, 1) := by decide +kernel
theorem dX12_takeOver_57 : decode cX12_takeOver 57 = .ok (.aload_n 0, 1) := by decide +kernel
theorem dX12_takeOver_58 : decode cX12_takeOver 58 = .ok (.getfield 40, 3) := by decide +kernel
theorem dX12_takeOver_61 : decode cX12_takeOver 61 = .ok (.iload 5, 2) := by decide +kernel
theorem dX12_takeOver_63 : decode cX12_takeOver 63 = .ok (.aload_n 0, 1) := by decide +kernel
theorem dX12_takeOver_64 : decode cX12_takeOver 64 = .ok (.getfield 104, 3) := by decide +kernel
theorem dX12_takeOver_67 : decode cX12_takeOver 67 = .ok (.iload 6, 2) := by decide +kernel
theorem dX12_takeOver_69 : decode cX12_takeOver 69 = .ok (.iaload, 1) := by decide +kernel
theorem dX12_takeOver_70 : decode cX12_takeOver 70 = .ok (.iastore, 1) := by decide +kernel
theorem dX12_takeOver_71 : decode cX12_takeOver 71 = .ok (.aload_n 0, 1) := by decide +kernel
theorem dX12_takeOver_72 : decode cX12_takeOver 72 = .ok (.getfield 43, 3) := by decide +kernel
theorem dX12_takeOver_75 : decode cX12_takeOver 75 = .ok (.iload 5, 2) := by decide +kernel
theorem dX12_takeOver_77 : decode cX12_takeOver 77 = .ok (.aload_n 0, 1) := by decide +kernel
theorem dX12_takeOver_78 : decode cX12_takeOver 78 = .ok (.getfield 107, 3) := by decide +kernel
theorem dX12_takeOver_81 : decode cX12_takeOver 81 = .ok (.iload 6, 2) := by decide +kernel
theorem dX12_takeOver_83 : decode cX12_takeOver 83 = .ok (.iaload, 1) := by decide +kernel
theorem dX12_takeOver_84 : decode cX12_takeOver 84 = .ok (.iastore, 1) := by decide +kernel
theorem dX12_takeOver_85 : decode cX12_takeOver 85 = .ok (.iconst 0, 1) := by decide +kernel
theorem dX12_takeOver_86 : decode cX12_takeOver 86 = .ok (.istore 7, 2) := by decide +kernel
theorem dX12_takeOver_88 : decode cX12_takeOver 88 = .ok (.iload 7, 2) := by decide +kernel
theorem dX12_takeOver_90 : decode cX12_takeOver 90 = .ok (.bipush 10, 2) := by decide +kernel
theorem dX12_takeOver_92 : decode cX12_takeOver 92 = .ok (.if_icmp .ge 35, 3) := by decide +kernel
theorem dX12_takeOver_95 : decode cX12_takeOver 95 = .ok (.aload_n 0, 1) := by decide +kernel
theorem dX12_takeOver_96 : decode cX12_takeOver 96 = .ok (.getfield 46, 3) := by decide +kernel
theorem dX12_takeOver_99 : decode cX12_takeOver 99 = .ok (.bipush 10, 2) := by decide +kernel
theorem dX12_takeOver_101 : decode cX12_takeOver 101 = .ok (.iload 5, 2) := by decide +kernel
theorem dX12_takeOver_103 : decode cX12_takeOver 103 = .ok (.imul, 1) := by decide +kernel
theorem dX12_takeOver_104 : decode cX12_takeOver 104 = .ok (.iload 7, 2) := by decide +kernel
theorem dX12_takeOver_106 : decode cX12_takeOver 106 = .ok (.iadd, 1) := by decide +kernel
theorem dX12_takeOver_107 : decode cX12_takeOver 107 = .ok (.aload_n 0, 1) := by decide +kernel
theorem dX12_takeOver_108 : decode cX12_takeOver 108 = .ok (.getfield 110, 3) := by decide +kernel
theorem dX12_takeOver_111 : decode cX12_takeOver 111 = .ok (.bipush 10, 2) := by decide +kernel
theorem dX12_takeOver_113 : decode cX12_takeOver 113 = .ok (.iload 6, 2) := by decide +kernel
theorem dX12_takeOver_115 : decode cX12_takeOver 115 = .ok (.imul, 1) := by decide +kernel
theorem dX12_takeOver_116 : decode cX12_takeOver 116 = .ok (.iload 7, 2) := by decide +kernel
theorem dX12_takeOver_118 : decode cX12_takeOver 118 = .ok (.iadd, 1) := by decide +kernel
theorem dX12_takeOver_119 : decode cX12_takeOver 119 = .ok (.iaload, 1) := by decide +kernel
theorem dX12_takeOver_120 : decode cX12_takeOver 120 = .ok (.iastore, 1) := by decide +kernel
theorem dX12_takeOver_121 : decode cX12_takeOver 121 = .ok (.iinc 7 1, 3) := by decide +kernel
theorem dX12_takeOver_124 : decode cX12_takeOver 124 = .ok (.goto (-36), 3) := by decide +kernel
theorem dX12_takeOver_127 : decode cX12_takeOver 127 = .ok (.iinc 4 1, 3) := by decide +kernel
theorem dX12_takeOver_130 : decode cX12_takeOver 130 = .ok (.goto (-127), 3) := by decide +kernel
theorem dX12_takeOver_133 : decode cX12_takeOver 133 = .ok (.return_, 1) := by decide +kernel
theorem dX12_turn_0 : decode cX12_turn 0 = .ok (.aload_n 0, 1) := by decide +kernel
theorem dX12_turn_1 : decode cX12_turn 1 = .ok (.getfield 155, 3) := by decide +kernel
theorem dX12_turn_4 : decode cX12_turn 4 = .ok (.ifCond .ne 6, 3) := by decide +kernel
theorem dX12_turn_7 : decode cX12_turn 7 = .ok (.bipush (-5), 2) := by decide +kernel
theorem dX12_turn_9 : decode cX12_turn 9 = .ok (.ireturn, 1) := by decide +kernel
theorem dX12_turn_10 : decode cX12_turn 10 = .ok (.aload_n 0, 1) := by decide +kernel
theorem dX12_turn_11 : decode cX12_turn 11 = .ok (.invokevirtual 166, 3) := by decide +kernel
theorem dX12_turn_14 : decode cX12_turn 14 = .ok (.istore_n 1, 1) := by decide +kernel
theorem dX12_turn_15 : decode cX12_turn 15 = .ok (.aload_n 0, 1) := by decide +kernel
theorem dX12_turn_16 : decode cX12_turn 16 = .ok (.getfield 37, 3) := by decide +kernel
theorem dX12_turn_19 : decode cX12_turn 19 = .ok (.aload_n 0, 1) := by decide +kernel
theorem dX12_turn_20 : decode cX12_turn 20 = .ok (.getfield 101, 3) := by decide +kernel
theorem dX12_turn_23 : decode cX12_turn 23 = .ok (.bipush 24, 2) := by decide +kernel
theorem dX12_turn_25 : decode cX12_turn 25 = .ok (.invokestatic 170, 3) := by decide +kernel
theorem dX12_turn_28 : decode cX12_turn 28 = .ok (.aload_n 0, 1) := by decide +kernel
theorem dX12_turn_29 : decode cX12_turn 29 = .ok (.getfield 40, 3) := by decide +kernel
theorem dX12_turn_32 : decode cX12_turn 32 = .ok (.aload_n 0, 1) := by decide +kernel
theorem dX12_turn_33 : decode cX12_turn 33 = .ok (.getfield 104, 3) := by decide +kernel
theorem dX12_turn_36 : decode cX12_turn 36 = .ok (.bipush 24, 2) := by decide +kernel
theorem dX12_turn_38 : decode cX12_turn 38 = .ok (.invokestatic 170, 3) := by decide +kernel
theorem dX12_turn_41 : decode cX12_turn 41 = .ok (.aload_n 0, 1) := by decide +kernel
theorem dX12_turn_42 : decode cX12_turn 42 = .ok (.getfield 43, 3) := by decide +kernel
theorem dX12_turn_45 : decode cX12_turn 45 = .ok (.aload_n 0, 1) := by decide +kernel
theorem dX12_turn_46 : decode cX12_turn 46 = .ok (.getfield 107, 3) := by decide +kernel
theorem dX12_turn_49 : decode cX12_turn 49 = .ok (.bipush 24, 2) := by decide +kernel
theorem dX12_turn_51 : decode cX12_turn 51 = .ok (.invokestatic 170, 3) := by decide +kernel
theorem dX12_turn_54 : decode cX12_turn 54 = .ok (.aload_n 0, 1) := by decide +kernel
theorem dX12_turn_55 : decode cX12_turn 55 = .ok (.getfield 46, 3) := by decide +kernel
theorem dX12_turn_58 : decode cX12_turn 58 = .ok (.aload_n 0, 1) := by decide +kernel
theorem dX12_turn_59 : decode cX12_turn 59 = .ok (.getfield 110, 3) := by decide +kernel
theorem dX12_turn_62 : decode cX12_turn 62 = .ok (.sipush 240, 3) := by decide +kernel
theorem dX12_turn_65 : decode cX12_turn 65 = .ok (.invokestatic 170, 3) := by decide +kernel
theorem dX12_turn_68 : decode cX12_turn 68 = .ok (.iconst 0, 1) := by decide +kernel
theorem dX12_turn_69 : decode cX12_turn 69 = .ok (.istore_n 2, 1) := by decide +kernel
theorem dX12_turn_70 : decode cX12_turn 70 = .ok (.iload_n 2, 1) := by decide +kernel
theorem dX12_turn_71 : decode cX12_turn 71 = .ok (.aload_n 0, 1) := by decide +kernel
theorem dX12_turn_72 : decode cX12_turn 72 = .ok (.getfield 155, 3) := by decide +kernel
theorem dX12_turn_75 : decode cX12_turn 75 = .ok (.if_icmp .ge 116, 3) := by decide +kernel
theorem dX12_turn_78 : decode cX12_turn 78 = .ok (.aload_n 0, 1) := by decide +kernel
theorem dX12_turn_79 : decode cX12_turn 79 = .ok (.getfield 22, 3) := by decide +kernel
theorem dX12_turn_82 : decode cX12_turn 82 = .ok (.iload_n 2, 1) := by decide +kernel
theorem dX12_turn_83 : decode cX12_turn 83 = .ok (.aload_n 0, 1) := by decide +kernel
theorem dX12_turn_84 : decode cX12_turn 84 = .ok (.getfield 98, 3) := by decide +kernel
theorem dX12_turn_87 : decode cX12_turn 87 = .ok (.iload_n 2, 1) := by decide +kernel
theorem dX12_turn_88 : decode cX12_turn 88 = .ok (.iaload, 1) := by decide +kernel
theorem dX12_turn_89 : decode cX12_turn 89 = .ok (.iastore, 1) := by decide +kernel
theorem dX12_turn_90 : decode cX12_turn 90 = .ok (.aload_n 0, 1) := by decide +kernel
theorem dX12_turn_91 : decode cX12_turn 91 = .ok (.getfield 25, 3) := by decide +kernel
theorem dX12_turn_94 : decode cX12_turn 94 = .ok (.iload_n 2, 1) := by decide +kernel
theorem dX12_turn_95 : decode cX12_turn 95 = .ok (.aload_n 0, 1) := by decide +kernel
theorem dX12_turn_96 : decode cX12_turn 96 = .ok (.getfield 98, 3) := by decide +kernel
theorem dX12_turn_99 : decode cX12_turn 99 = .ok (.iload_n 2, 1) := by decide +kernel
theorem dX12_turn_100 : decode cX12_turn 100 = .ok (.iaload, 1) := by decide +kernel
theorem dX12_turn_101 : decode cX12_turn 101 = .ok (.ifCond .ge 7, 3) := by decide +kernel
theorem dX12_turn_104 : decode cX12_turn 104 = .ok (.iconst 0, 1) := by decide +kernel
theorem dX12_turn_105 : decode cX12_turn 105 = .ok (.goto 19, 3) := by decide +kernel
theorem dX12_turn_108 : decode cX12_turn 108 = .ok (.aload_n 0, 1) := by decide +kernel
theorem dX12_turn_109 : decode cX12_turn 109 = .ok (.getfield 92, 3) := by decide +kernel
theorem dX12_turn_112 : decode cX12_turn 112 = .ok (.bipush 8, 2) := by decide +kernel
theorem dX12_turn_114 : decode cX12_turn 114 = .ok (.iload_n 2, 1) := by decide +kernel
theorem dX12_turn_115 : decode cX12_turn 115 = .ok (.imul, 1) := by decide +kernel
theorem dX12_turn_116 : decode cX12_turn 116 = .ok (.aload_n 0, 1) := by decide +kernel
theorem dX12_turn_117 : decode cX12_turn 117 = .ok (.getfield 98, 3) := by decide +kernel
theorem dX12_turn_120 : decode cX12_turn 120 = .ok (.iload_n 2, 1) := by decide +kernel
theorem dX12_turn_121 : decode cX12_turn 121 = .ok (.iaload, 1) := by decide +kernel
theorem dX12_turn_122 : decode cX12_turn 122 = .ok (.iadd, 1) := by decide +kernel
theorem dX12_turn_123 : decode cX12_turn 123 = .ok (.iaload, 1) := by decide +kernel
theorem dX12_turn_124 : decode cX12_turn 124 = .ok (.iastore, 1) := by decide +kernel
theorem dX12_turn_125 : decode cX12_turn 125 = .ok (.iconst 0, 1) := by decide +kernel
theorem dX12_turn_126 : decode cX12_turn 126 = .ok (.istore_n 3, 1) := by decide +kernel
theorem dX12_turn_127 : decode cX12_turn 127 = .ok (.iload_n 3, 1) := by decide +kernel
theorem dX12_turn_128 : decode cX12_turn 128 = .ok (.iconst 3, 1) := by decide +kernel
theorem dX12_turn_129 : decode cX12_turn 129 = .ok (.if_icmp .ge 20, 3) := by decide +kernel
theorem dX12_turn_132 : decode cX12_turn 132 = .ok (.aload_n 0, 1) := by decide +kernel
theorem dX12_turn_133 : decode cX12_turn 133 = .ok (.getfield 37, 3) := by decide +kernel
theorem dX12_turn_136 : decode cX12_turn 136 = .ok (.iconst 3, 1) := by decide +kernel
theorem dX12_turn_137 : decode cX12_turn 137 = .ok (.iload_n 2, 1) := by decide +kernel
theorem dX12_turn_138 : decode cX12_turn 138 = .ok (.imul, 1) := by decide +kernel
theorem dX12_turn_139 : decode cX12_turn 139 = .ok (.iload_n 3, 1) := by decide +kernel
theorem dX12_turn_140 : decode cX12_turn 140 = .ok (.iadd, 1) := by decide +kernel
theorem dX12_turn_141 : decode cX12_turn 141 = .ok (.iconst 0, 1) := by decide +kernel
theorem dX12_turn_142 : decode cX12_turn 142 = .ok (.iastore, 1) := by decide +kernel
theorem dX12_turn_143 : decode cX12_turn 143 = .ok (.iinc 3 1, 3) := by decide +kernel
theorem dX12_turn_146 : decode cX12_turn 146 = .ok (.goto (-19), 3) := by decide +kernel
theorem dX12_turn_149 : decode cX12_turn 149 = .ok (.aload_n 0, 1) := by decide +kernel
theorem dX12_turn_150 : decode cX12_turn 150 = .ok (.getfield 98, 3) := by decide +kernel
theorem dX12_turn_153 : decode cX12_turn 153 = .ok (.iload_n 2, 1) := by decide +kernel
theorem dX12_turn_154 : decode cX12_turn 154 = .ok (.iaload, 1) := by decide +kernel
theorem dX12_turn_155 : decode cX12_turn 155 = .ok (.ifCond .lt 30, 3) := by decide +kernel
theorem dX12_turn_158 : decode cX12_turn 158 = .ok (.aload_n 0, 1) := by decide +kernel
theorem dX12_turn_159 : decode cX12_turn 159 = .ok (.getfield 28, 3) := by decide +kernel
theorem dX12_turn_162 : decode cX12_turn 162 = .ok (.iload_n 2, 1) := by decide +kernel
theorem dX12_turn_163 : decode cX12_turn 163 = .ok (.iaload, 1) := by decide +kernel
theorem dX12_turn_164 : decode cX12_turn 164 = .ok (.iconst 1, 1) := by decide +kernel
theorem dX12_turn_165 : decode cX12_turn 165 = .ok (.if_icmp .eq 20, 3) := by decide +kernel
theorem dX12_turn_168 : decode cX12_turn 168 = .ok (.aload_n 0, 1) := by decide +kernel
theorem dX12_turn_169 : decode cX12_turn 169 = .ok (.iload_n 2, 1) := by decide +kernel
theorem dX12_turn_170 : decode cX12_turn 170 = .ok (.aload_n 0, 1) := by decide +kernel
theorem dX12_turn_171 : decode cX12_turn 171 = .ok (.getfield 98, 3) := by decide +kernel
theorem dX12_turn_174 : decode cX12_turn 174 = .ok (.iload_n 2, 1) := by decide +kernel
theorem dX12_turn_175 : decode cX12_turn 175 = .ok (.iaload, 1) := by decide +kernel
theorem dX12_turn_176 : decode cX12_turn 176 = .ok (.aload_n 0, 1) := by decide +kernel
theorem dX12_turn_177 : decode cX12_turn 177 = .ok (.getfield 25, 3) := by decide +kernel
theorem dX12_turn_180 : decode cX12_turn 180 = .ok (.iload_n 2, 1) := by decide +kernel
theorem dX12_turn_181 : decode cX12_turn 181 = .ok (.iaload, 1) := by decide +kernel
theorem dX12_turn_182 : decode cX12_turn 182 = .ok (.invokevirtual 174, 3) := by decide +kernel
theorem dX12_turn_185 : decode cX12_turn 185 = .ok (.iinc 2 1, 3) := by decide +kernel
theorem dX12_turn_188 : decode cX12_turn 188 = .ok (.goto (-118), 3) := by decide +kernel
theorem dX12_turn_191 : decode cX12_turn 191 = .ok (.aload_n 0, 1) := by decide +kernel
theorem dX12_turn_192 : decode cX12_turn 192 = .ok (.getfield 28, 3) := by decide +kernel
theorem dX12_turn_195 : decode cX12_turn 195 = .ok (.aload_n 0, 1) := by decide +kernel
theorem dX12_turn_196 : decode cX12_turn 196 = .ok (.getfield 13, 3) := by decide +kernel
theorem dX12_turn_199 : decode cX12_turn 199 = .ok (.bipush 8, 2) := by decide +kernel
theorem dX12_turn_201 : decode cX12_turn 201 = .ok (.invokestatic 170, 3) := by decide +kernel
theorem dX12_turn_204 : decode cX12_turn 204 = .ok (.aload_n 0, 1) := by decide +kernel
theorem dX12_turn_205 : decode cX12_turn 205 = .ok (.getfield 31, 3) := by decide +kernel
theorem dX12_turn_208 : decode cX12_turn 208 = .ok (.aload_n 0, 1) := by decide +kernel
theorem dX12_turn_209 : decode cX12_turn 209 = .ok (.getfield 16, 3) := by decide +kernel
theorem dX12_turn_212 : decode cX12_turn 212 = .ok (.bipush 8, 2) := by decide +kernel
theorem dX12_turn_214 : decode cX12_turn 214 = .ok (.invokestatic 170, 3) := by decide +kernel
theorem dX12_turn_217 : decode cX12_turn 217 = .ok (.aload_n 0, 1) := by decide +kernel
theorem dX12_turn_218 : decode cX12_turn 218 = .ok (.getfield 34, 3) := by decide +kernel
theorem dX12_turn_221 : decode cX12_turn 221 = .ok (.aload_n 0, 1) := by decide +kernel
theorem dX12_turn_222 : decode cX12_turn 222 = .ok (.getfield 19, 3) := by decide +kernel
theorem dX12_turn_225 : decode cX12_turn 225 = .ok (.bipush 64, 2) := by decide +kernel
theorem dX12_turn_227 : decode cX12_turn 227 = .ok (.invokestatic 170, 3) := by decide +kernel
theorem dX12_turn_230 : decode cX12_turn 230 = .ok (.aload_n 0, 1) := by decide +kernel
theorem dX12_turn_231 : decode cX12_turn 231 = .ok (.aload_n 0, 1) := by decide +kernel
theorem dX12_turn_232 : decode cX12_turn 232 = .ok (.getfield 155, 3) := by decide +kernel
theorem dX12_turn_235 : decode cX12_turn 235 = .ok (.putfield 132, 3) := by decide +kernel
theorem dX12_turn_238 : decode cX12_turn 238 = .ok (.aload_n 0, 1) := by decide +kernel
theorem dX12_turn_239 : decode cX12_turn 239 = .ok (.iconst 0, 1) := by decide +kernel
theorem dX12_turn_240 : decode cX12_turn 240 = .ok (.putfield 155, 3) := by decide +kernel
theorem dX12_turn_243 : decode cX12_turn 243 = .ok (.iload_n 1, 1) := by decide +kernel
theorem dX12_turn_244 : decode cX12_turn 244 = .ok (.ireturn, 1) := by decide +kernel
theorem dX12_of_0 : decode cX12_of 0 = .ok (.aload_n 0, 1) := by decide +kernel
theorem dX12_of_1 : decode cX12_of 1 = .ok (.iload_n 1, 1) := by decide +kernel
theorem dX12_of_2 : decode cX12_of 2 = .ok (.invokevirtual 178, 3) := by decide +kernel
theorem dX12_of_5 : decode cX12_of 5 = .ok (.ifCond .ne 5, 3) := by decide +kernel
theorem dX12_of_8 : decode cX12_of 8 = .ok (.iconst (-1), 1) := by decide +kernel
theorem dX12_of_9 : decode cX12_of 9 = .ok (.ireturn, 1) := by decide +kernel
theorem dX12_of_10 : decode cX12_of 10 = .ok (.iload_n 2, 1) := by decide +kernel
theorem dX12_of_11 : decode cX12_of 11 = .ok (.ifCond .ne 10, 3) := by decide +kernel
theorem dX12_of_14 : decode cX12_of 14 = .ok (.aload_n 0, 1) := by decide +kernel
theorem dX12_of_15 : decode cX12_of 15 = .ok (.getfield 13, 3) := by decide +kernel
theorem dX12_of_18 : decode cX12_of 18 = .ok (.iload_n 1, 1) := by decide +kernel
theorem dX12_of_19 : decode cX12_of 19 = .ok (.iaload, 1) := by decide +kernel
theorem dX12_of_20 : decode cX12_of 20 = .ok (.ireturn, 1) := by decide +kernel
theorem dX12_of_21 : decode cX12_of 21 = .ok (.iload_n 2, 1) := by decide +kernel
theorem dX12_of_22 : decode cX12_of 22 = .ok (.iconst 1, 1) := by decide +kernel
theorem dX12_of_23 : decode cX12_of 23 = .ok (.if_icmp .ne 10, 3) := by decide +kernel
theorem dX12_of_26 : decode cX12_of 26 = .ok (.aload_n 0, 1) := by decide +kernel
theorem dX12_of_27 : decode cX12_of 27 = .ok (.getfield 16, 3) := by decide +kernel
theorem dX12_of_30 : decode cX12_of 30 = .ok (.iload_n 1, 1) := by decide +kernel
theorem dX12_of_31 : decode cX12_of 31 = .ok (.iaload, 1) := by decide +kernel
theorem dX12_of_32 : decode cX12_of 32 = .ok (.ireturn, 1) := by decide +kernel
theorem dX12_of_33 : decode cX12_of 33 = .ok (.iload_n 2, 1) := by decide +kernel
theorem dX12_of_34 : decode cX12_of 34 = .ok (.bipush 10, 2) := by decide +kernel
theorem dX12_of_36 : decode cX12_of 36 = .ok (.bipush 9, 2) := by decide +kernel
theorem dX12_of_38 : decode cX12_of 38 = .ok (.aload_n 0, 1) := by decide +kernel
theorem dX12_of_39 : decode cX12_of 39 = .ok (.getfield 16, 3) := by decide +kernel
theorem dX12_of_42 : decode cX12_of 42 = .ok (.iload_n 1, 1) := by decide +kernel
theorem dX12_of_43 : decode cX12_of 43 = .ok (.iaload, 1) := by decide +kernel
theorem dX12_of_44 : decode cX12_of 44 = .ok (.iadd, 1) := by decide +kernel
theorem dX12_of_45 : decode cX12_of 45 = .ok (.invokestatic 128, 3) := by decide +kernel
theorem dX12_of_48 : decode cX12_of 48 = .ok (.ifCond .eq 20, 3) := by decide +kernel
theorem dX12_of_51 : decode cX12_of 51 = .ok (.aload_n 0, 1) := by decide +kernel
theorem dX12_of_52 : decode cX12_of 52 = .ok (.getfield 19, 3) := by decide +kernel
theorem dX12_of_55 : decode cX12_of 55 = .ok (.bipush 8, 2) := by decide +kernel
theorem dX12_of_57 : decode cX12_of 57 = .ok (.iload_n 1, 1) := by decide +kernel
theorem dX12_of_58 : decode cX12_of 58 = .ok (.imul, 1) := by decide +kernel
theorem dX12_of_59 : decode cX12_of 59 = .ok (.iload_n 2, 1) := by decide +kernel
theorem dX12_of_60 : decode cX12_of 60 = .ok (.iadd, 1) := by decide +kernel
theorem dX12_of_61 : decode cX12_of 61 = .ok (.bipush 10, 2) := by decide +kernel
theorem dX12_of_63 : decode cX12_of 63 = .ok (.isub, 1) := by decide +kernel
theorem dX12_of_64 : decode cX12_of 64 = .ok (.iaload, 1) := by decide +kernel
theorem dX12_of_65 : decode cX12_of 65 = .ok (.goto 4, 3) := by decide +kernel
theorem dX12_of_68 : decode cX12_of 68 = .ok (.iconst (-1), 1) := by decide +kernel
theorem dX12_of_69 : decode cX12_of 69 = .ok (.ireturn, 1) := by decide +kernel
theorem dX12_far_0 : decode cX12_far 0 = .ok (.aload_n 0, 1) := by decide +kernel
theorem dX12_far_1 : decode cX12_far 1 = .ok (.iload_n 1, 1) := by decide +kernel
theorem dX12_far_2 : decode cX12_far 2 = .ok (.invokevirtual 178, 3) := by decide +kernel
theorem dX12_far_5 : decode cX12_far 5 = .ok (.ifCond .eq 46, 3) := by decide +kernel
theorem dX12_far_8 : decode cX12_far 8 = .ok (.aload_n 0, 1) := by decide +kernel
theorem dX12_far_9 : decode cX12_far 9 = .ok (.iload_n 2, 1) := by decide +kernel
theorem dX12_far_10 : decode cX12_far 10 = .ok (.invokevirtual 178, 3) := by decide +kernel
theorem dX12_far_13 : decode cX12_far 13 = .ok (.ifCond .eq 38, 3) := by decide +kernel
theorem dX12_far_16 : decode cX12_far 16 = .ok (.aload_n 0, 1) := by decide +kernel
theorem dX12_far_17 : decode cX12_far 17 = .ok (.aload_n 0, 1) := by decide +kernel
theorem dX12_far_18 : decode cX12_far 18 = .ok (.getfield 19, 3) := by decide +kernel
theorem dX12_far_21 : decode cX12_far 21 = .ok (.bipush 8, 2) := by decide +kernel
theorem dX12_far_23 : decode cX12_far 23 = .ok (.iload_n 1, 1) := by decide +kernel
theorem dX12_far_24 : decode cX12_far 24 = .ok (.imul, 1) := by decide +kernel
theorem dX12_far_25 : decode cX12_far 25 = .ok (.aload_n 0, 1) := by decide +kernel
theorem dX12_far_26 : decode cX12_far 26 = .ok (.getfield 16, 3) := by decide +kernel
theorem dX12_far_29 : decode cX12_far 29 = .ok (.iload_n 1, 1) := by decide +kernel
theorem dX12_far_30 : decode cX12_far 30 = .ok (.iaload, 1) := by decide +kernel
theorem dX12_far_31 : decode cX12_far 31 = .ok (.aload_n 0, 1) := by decide +kernel
theorem dX12_far_32 : decode cX12_far 32 = .ok (.getfield 19, 3) := by decide +kernel
theorem dX12_far_35 : decode cX12_far 35 = .ok (.bipush 8, 2) := by decide +kernel
theorem dX12_far_37 : decode cX12_far 37 = .ok (.iload_n 2, 1) := by decide +kernel
theorem dX12_far_38 : decode cX12_far 38 = .ok (.imul, 1) := by decide +kernel
theorem dX12_far_39 : decode cX12_far 39 = .ok (.aload_n 0, 1) := by decide +kernel
theorem dX12_far_40 : decode cX12_far 40 = .ok (.getfield 16, 3) := by decide +kernel
theorem dX12_far_43 : decode cX12_far 43 = .ok (.iload_n 2, 1) := by decide +kernel
theorem dX12_far_44 : decode cX12_far 44 = .ok (.iaload, 1) := by decide +kernel
theorem dX12_far_45 : decode cX12_far 45 = .ok (.invokevirtual 162, 3) := by decide +kernel
theorem dX12_far_48 : decode cX12_far 48 = .ok (.goto 4, 3) := by decide +kernel
theorem dX12_far_51 : decode cX12_far 51 = .ok (.iconst (-1), 1) := by decide +kernel
theorem dX12_far_52 : decode cX12_far 52 = .ok (.ireturn, 1) := by decide +kernel
theorem dX12_from_0 : decode cX12_from 0 = .ok (.aload_n 0, 1) := by decide +kernel
theorem dX12_from_1 : decode cX12_from 1 = .ok (.iload_n 1, 1) := by decide +kernel
theorem dX12_from_2 : decode cX12_from 2 = .ok (.invokevirtual 178, 3) := by decide +kernel
theorem dX12_from_5 : decode cX12_from 5 = .ok (.ifCond .ne 5, 3) := by decide +kernel
theorem dX12_from_8 : decode cX12_from 8 = .ok (.iconst (-1), 1) := by decide +kernel
theorem dX12_from_9 : decode cX12_from 9 = .ok (.ireturn, 1) := by decide +kernel
theorem dX12_from_10 : decode cX12_from 10 = .ok (.aload_n 0, 1) := by decide +kernel
theorem dX12_from_11 : decode cX12_from 11 = .ok (.getfield 22, 3) := by decide +kernel
theorem dX12_from_14 : decode cX12_from 14 = .ok (.iload_n 1, 1) := by decide +kernel
theorem dX12_from_15 : decode cX12_from 15 = .ok (.iaload, 1) := by decide +kernel
theorem dX12_from_16 : decode cX12_from 16 = .ok (.ifCond .ge 8, 3) := by decide +kernel
theorem dX12_from_19 : decode cX12_from 19 = .ok (.bipush (-5), 2) := by decide +kernel
theorem dX12_from_21 : decode cX12_from 21 = .ok (.goto 9, 3) := by decide +kernel
theorem dX12_from_24 : decode cX12_from 24 = .ok (.aload_n 0, 1) := by decide +kernel
theorem dX12_from_25 : decode cX12_from 25 = .ok (.getfield 22, 3) := by decide +kernel
theorem dX12_from_28 : decode cX12_from 28 = .ok (.iload_n 1, 1) := by decide +kernel
theorem dX12_from_29 : decode cX12_from 29 = .ok (.iaload, 1) := by decide +kernel
theorem dX12_from_30 : decode cX12_from 30 = .ok (.ireturn, 1) := by decide +kernel
theorem dX12_story_0 : decode cX12_story 0 = .ok (.aload_n 0, 1) := by decide +kernel
theorem dX12_story_1 : decode cX12_story 1 = .ok (.iload_n 1, 1) := by decide +kernel
theorem dX12_story_2 : decode cX12_story 2 = .ok (.invokevirtual 178, 3) := by decide +kernel
theorem dX12_story_5 : decode cX12_story 5 = .ok (.ifCond .ne 5, 3) := by decide +kernel
theorem dX12_story_8 : decode cX12_story 8 = .ok (.iconst (-1), 1) := by decide +kernel
theorem dX12_story_9 : decode cX12_story 9 = .ok (.ireturn, 1) := by decide +kernel
theorem dX12_story_10 : decode cX12_story 10 = .ok (.aload_n 0, 1) := by decide +kernel
theorem dX12_story_11 : decode cX12_story 11 = .ok (.getfield 22, 3) := by decide +kernel
theorem dX12_story_14 : decode cX12_story 14 = .ok (.iload_n 1, 1) := by decide +kernel
theorem dX12_story_15 : decode cX12_story 15 = .ok (.iaload, 1) := by decide +kernel
theorem dX12_story_16 : decode cX12_story 16 = .ok (.ifCond .ge 7, 3) := by decide +kernel
theorem dX12_story_19 : decode cX12_story 19 = .ok (.iconst 3, 1) := by decide +kernel
theorem dX12_story_20 : decode cX12_story 20 = .ok (.goto 31, 3) := by decide +kernel
theorem dX12_story_23 : decode cX12_story 23 = .ok (.aload_n 0, 1) := by decide +kernel
theorem dX12_story_24 : decode cX12_story 24 = .ok (.getfield 25, 3) := by decide +kernel
theorem dX12_story_27 : decode cX12_story 27 = .ok (.iload_n 1, 1) := by decide +kernel
theorem dX12_story_28 : decode cX12_story 28 = .ok (.iaload, 1) := by decide +kernel
theorem dX12_story_29 : decode cX12_story 29 = .ok (.ifCond .le 7, 3) := by decide +kernel
theorem dX12_story_32 : decode cX12_story 32 = .ok (.iconst 2, 1) := by decide +kernel
theorem dX12_story_33 : decode cX12_story 33 = .ok (.goto 18, 3) := by decide +kernel
theorem dX12_story_36 : decode cX12_story 36 = .ok (.aload_n 0, 1) := by decide +kernel
theorem dX12_story_37 : decode cX12_story 37 = .ok (.getfield 22, 3) := by decide +kernel
theorem dX12_story_40 : decode cX12_story 40 = .ok (.iload_n 1, 1) := by decide +kernel
theorem dX12_story_41 : decode cX12_story 41 = .ok (.iaload, 1) := by decide +kernel
theorem dX12_story_42 : decode cX12_story 42 = .ok (.iload_n 1, 1) := by decide +kernel
theorem dX12_story_43 : decode cX12_story 43 = .ok (.if_icmp .ne 7, 3) := by decide +kernel
theorem dX12_story_46 : decode cX12_story 46 = .ok (.iconst 0, 1) := by decide +kernel
theorem dX12_story_47 : decode cX12_story 47 = .ok (.goto 4, 3) := by decide +kernel
theorem dX12_story_50 : decode cX12_story 50 = .ok (.iconst 1, 1) := by decide +kernel
theorem dX12_story_51 : decode cX12_story 51 = .ok (.ireturn, 1) := by decide +kernel
theorem dX12_hand_0 : decode cX12_hand 0 = .ok (.iload_n 1, 1) := by decide +kernel
theorem dX12_hand_1 : decode cX12_hand 1 = .ok (.iconst 1, 1) := by decide +kernel
theorem dX12_hand_2 : decode cX12_hand 2 = .ok (.bipush 7, 2) := by decide +kernel
theorem dX12_hand_4 : decode cX12_hand 4 = .ok (.invokestatic 128, 3) := by decide +kernel
theorem dX12_hand_7 : decode cX12_hand 7 = .ok (.ifCond .eq 23, 3) := by decide +kernel
theorem dX12_hand_10 : decode cX12_hand 10 = .ok (.iload_n 2, 1) := by decide +kernel
theorem dX12_hand_11 : decode cX12_hand 11 = .ok (.iconst 0, 1) := by decide +kernel
theorem dX12_hand_12 : decode cX12_hand 12 = .ok (.bipush 20, 2) := by decide +kernel
theorem dX12_hand_14 : decode cX12_hand 14 = .ok (.invokestatic 128, 3) := by decide +kernel
theorem dX12_hand_17 : decode cX12_hand 17 = .ok (.ifCond .eq 13, 3) := by decide +kernel
theorem dX12_hand_20 : decode cX12_hand 20 = .ok (.iload_n 3, 1) := by decide +kernel
theorem dX12_hand_21 : decode cX12_hand 21 = .ok (.iconst 1, 1) := by decide +kernel
theorem dX12_hand_22 : decode cX12_hand 22 = .ok (.bipush 9, 2) := by decide +kernel
theorem dX12_hand_24 : decode cX12_hand 24 = .ok (.invokestatic 128, 3) := by decide +kernel
theorem dX12_hand_27 : decode cX12_hand 27 = .ok (.ifCond .ne 5, 3) := by decide +kernel
theorem dX12_hand_30 : decode cX12_hand 30 = .ok (.iconst (-1), 1) := by decide +kernel
theorem dX12_hand_31 : decode cX12_hand 31 = .ok (.ireturn, 1) := by decide +kernel
theorem dX12_hand_32 : decode cX12_hand 32 = .ok (.aload_n 0, 1) := by decide +kernel
theorem dX12_hand_33 : decode cX12_hand 33 = .ok (.getfield 135, 3) := by decide +kernel
theorem dX12_hand_36 : decode cX12_hand 36 = .ok (.iconst 5, 1) := by decide +kernel
theorem dX12_hand_37 : decode cX12_hand 37 = .ok (.if_icmp .ne 6, 3) := by decide +kernel
theorem dX12_hand_40 : decode cX12_hand 40 = .ok (.bipush (-2), 2) := by decide +kernel
theorem dX12_hand_42 : decode cX12_hand 42 = .ok (.ireturn, 1) := by decide +kernel
theorem dX12_hand_43 : decode cX12_hand 43 = .ok (.aload_n 0, 1) := by decide +kernel
theorem dX12_hand_44 : decode cX12_hand 44 = .ok (.getfield 49, 3) := by decide +kernel
theorem dX12_hand_47 : decode cX12_hand 47 = .ok (.aload_n 0, 1) := by decide +kernel
theorem dX12_hand_48 : decode cX12_hand 48 = .ok (.getfield 135, 3) := by decide +kernel
theorem dX12_hand_51 : decode cX12_hand 51 = .ok (.iload_n 1, 1) := by decide +kernel
theorem dX12_hand_52 : decode cX12_hand 52 = .ok (.iastore, 1) := by decide +kernel
theorem dX12_hand_53 : decode cX12_hand 53 = .ok (.aload_n 0, 1) := by decide +kernel
theorem dX12_hand_54 : decode cX12_hand 54 = .ok (.getfield 52, 3) := by decide +kernel
theorem dX12_hand_57 : decode cX12_hand 57 = .ok (.aload_n 0, 1) := by decide +kernel
theorem dX12_hand_58 : decode cX12_hand 58 = .ok (.getfield 135, 3) := by decide +kernel
theorem dX12_hand_61 : decode cX12_hand 61 = .ok (.iload_n 2, 1) := by decide +kernel
theorem dX12_hand_62 : decode cX12_hand 62 = .ok (.iastore, 1) := by decide +kernel
theorem dX12_hand_63 : decode cX12_hand 63 = .ok (.aload_n 0, 1) := by decide +kernel
theorem dX12_hand_64 : decode cX12_hand 64 = .ok (.getfield 55, 3) := by decide +kernel
theorem dX12_hand_67 : decode cX12_hand 67 = .ok (.aload_n 0, 1) := by decide +kernel
theorem dX12_hand_68 : decode cX12_hand 68 = .ok (.getfield 135, 3) := by decide +kernel
theorem dX12_hand_71 : decode cX12_hand 71 = .ok (.iload_n 3, 1) := by decide +kernel
theorem dX12_hand_72 : decode cX12_hand 72 = .ok (.iastore, 1) := by decide +kernel
theorem dX12_hand_73 : decode cX12_hand 73 = .ok (.aload_n 0, 1) := by decide +kernel
theorem dX12_hand_74 : decode cX12_hand 74 = .ok (.dup, 1) := by decide +kernel
theorem dX12_hand_75 : decode cX12_hand 75 = .ok (.getfield 135, 3) := by decide +kernel
theorem dX12_hand_78 : decode cX12_hand 78 = .ok (.iconst 1, 1) := by decide +kernel
theorem dX12_hand_79 : decode cX12_hand 79 = .ok (.iadd, 1) := by decide +kernel
theorem dX12_hand_80 : decode cX12_hand 80 = .ok (.putfield 135, 3) := by decide +kernel
theorem dX12_hand_83 : decode cX12_hand 83 = .ok (.aload_n 0, 1) := by decide +kernel
theorem dX12_hand_84 : decode cX12_hand 84 = .ok (.getfield 135, 3) := by decide +kernel
theorem dX12_hand_87 : decode cX12_hand 87 = .ok (.iconst 1, 1) := by decide +kernel
theorem dX12_hand_88 : decode cX12_hand 88 = .ok (.isub, 1) := by decide +kernel
theorem dX12_hand_89 : decode cX12_hand 89 = .ok (.ireturn, 1) := by decide +kernel
theorem dX12_hours_0 : decode cX12_hours 0 = .ok (.aload_n 0, 1) := by decide +kernel
theorem dX12_hours_1 : decode cX12_hours 1 = .ok (.iload_n 1, 1) := by decide +kernel
theorem dX12_hours_2 : decode cX12_hours 2 = .ok (.invokevirtual 181, 3) := by decide +kernel
theorem dX12_hours_5 : decode cX12_hours 5 = .ok (.ifCond .eq 13, 3) := by decide +kernel
theorem dX12_hours_8 : decode cX12_hours 8 = .ok (.iload_n 2, 1) := by decide +kernel
theorem dX12_hours_9 : decode cX12_hours 9 = .ok (.iconst 0, 1) := by decide +kernel
theorem dX12_hours_10 : decode cX12_hours 10 = .ok (.bipush 20, 2) := by decide +kernel
theorem dX12_hours_12 : decode cX12_hours 12 = .ok (.invokestatic 128, 3) := by decide +kernel
theorem dX12_hours_15 : decode cX12_hours 15 = .ok (.ifCond .ne 5, 3) := by decide +kernel
theorem dX12_hours_18 : decode cX12_hours 18 = .ok (.iconst (-1), 1) := by decide +kernel
theorem dX12_hours_19 : decode cX12_hours 19 = .ok (.ireturn, 1) := by decide +kernel
theorem dX12_hours_20 : decode cX12_hours 20 = .ok (.aload_n 0, 1) := by decide +kernel
theorem dX12_hours_21 : decode cX12_hours 21 = .ok (.getfield 52, 3) := by decide +kernel
theorem dX12_hours_24 : decode cX12_hours 24 = .ok (.iload_n 1, 1) := by decide +kernel
theorem dX12_hours_25 : decode cX12_hours 25 = .ok (.iaload, 1) := by decide +kernel
theorem dX12_hours_26 : decode cX12_hours 26 = .ok (.istore_n 3, 1) := by decide +kernel
theorem dX12_hours_27 : decode cX12_hours 27 = .ok (.aload_n 0, 1) := by decide +kernel
theorem dX12_hours_28 : decode cX12_hours 28 = .ok (.getfield 52, 3) := by decide +kernel
theorem dX12_hours_31 : decode cX12_hours 31 = .ok (.iload_n 1, 1) := by decide +kernel
theorem dX12_hours_32 : decode cX12_hours 32 = .ok (.iload_n 2, 1) := by decide +kernel
theorem dX12_hours_33 : decode cX12_hours 33 = .ok (.iastore, 1) := by decide +kernel
theorem dX12_hours_34 : decode cX12_hours 34 = .ok (.iload_n 3, 1) := by decide +kernel
theorem dX12_hours_35 : decode cX12_hours 35 = .ok (.ireturn, 1) := by decide +kernel
theorem dX12_termOf_0 : decode cX12_termOf 0 = .ok (.iconst (-1), 1) := by decide +kernel
theorem dX12_termOf_1 : decode cX12_termOf 1 = .ok (.istore_n 3, 1) := by decide +kernel
theorem dX12_termOf_2 : decode cX12_termOf 2 = .ok (.iconst 0, 1) := by decide +kernel
theorem dX12_termOf_3 : decode cX12_termOf 3 = .ok (.istore 4, 2) := by decide +kernel
theorem dX12_termOf_5 : decode cX12_termOf 5 = .ok (.iload 4, 2) := by decide +kernel
theorem dX12_termOf_7 : decode cX12_termOf 7 = .ok (.aload_n 0, 1) := by decide +kernel
theorem dX12_termOf_8 : decode cX12_termOf 8 = .ok (.getfield 184, 3) := by decide +kernel
theorem dX12_termOf_11 : decode cX12_termOf 11 = .ok (.if_icmp .ge 38, 3) := by decide +kernel
theorem dX12_termOf_14 : decode cX12_termOf 14 = .ok (.aload_n 0, 1) := by decide +kernel
theorem dX12_termOf_15 : decode cX12_termOf 15 = .ok (.getfield 58, 3) := by decide +kernel
theorem dX12_termOf_18 : decode cX12_termOf 18 = .ok (.iload 4, 2) := by decide +kernel
theorem dX12_termOf_20 : decode cX12_termOf 20 = .ok (.iaload, 1) := by decide +kernel
theorem dX12_termOf_21 : decode cX12_termOf 21 = .ok (.iload_n 1, 1) := by decide +kernel
theorem dX12_termOf_22 : decode cX12_termOf 22 = .ok (.if_icmp .ne 19, 3) := by decide +kernel
theorem dX12_termOf_25 : decode cX12_termOf 25 = .ok (.aload_n 0, 1) := by decide +kernel
theorem dX12_termOf_26 : decode cX12_termOf 26 = .ok (.getfield 61, 3) := by decide +kernel
theorem dX12_termOf_29 : decode cX12_termOf 29 = .ok (.iload 4, 2) := by decide +kernel
theorem dX12_termOf_31 : decode cX12_termOf 31 = .ok (.iaload, 1) := by decide +kernel
theorem dX12_termOf_32 : decode cX12_termOf 32 = .ok (.iload_n 2, 1) := by decide +kernel
theorem dX12_termOf_33 : decode cX12_termOf 33 = .ok (.if_icmp .ne 8, 3) := by decide +kernel
theorem dX12_termOf_36 : decode cX12_termOf 36 = .ok (.iload 4, 2) := by decide +kernel
theorem dX12_termOf_38 : decode cX12_termOf 38 = .ok (.goto 4, 3) := by decide +kernel
theorem dX12_termOf_41 : decode cX12_termOf 41 = .ok (.iload_n 3, 1) := by decide +kernel
theorem dX12_termOf_42 : decode cX12_termOf 42 = .ok (.istore_n 3, 1) := by decide +kernel
theorem dX12_termOf_43 : decode cX12_termOf 43 = .ok (.iinc 4 1, 3) := by decide +kernel
theorem dX12_termOf_46 : decode cX12_termOf 46 = .ok (.goto (-41), 3) := by decide +kernel
theorem dX12_termOf_49 : decode cX12_termOf 49 = .ok (.iload_n 3, 1) := by decide +kernel
theorem dX12_termOf_50 : decode cX12_termOf 50 = .ok (.ireturn, 1) := by decide +kernel
theorem dX12_term_0 : decode cX12_term 0 = .ok (.iload_n 1, 1) := by decide +kernel
theorem dX12_term_1 : decode cX12_term 1 = .ok (.invokestatic 138, 3) := by decide +kernel
theorem dX12_term_4 : decode cX12_term 4 = .ok (.ifCond .eq 17, 3) := by decide +kernel
theorem dX12_term_7 : decode cX12_term 7 = .ok (.iload_n 2, 1) := by decide +kernel
theorem dX12_term_8 : decode cX12_term 8 = .ok (.invokestatic 187, 3) := by decide +kernel
theorem dX12_term_11 : decode cX12_term 11 = .ok (.ifCond .eq 10, 3) := by decide +kernel
theorem dX12_term_14 : decode cX12_term 14 = .ok (.iload_n 3, 1) := by decide +kernel
theorem dX12_term_15 : decode cX12_term 15 = .ok (.invokestatic 145, 3) := by decide +kernel
theorem dX12_term_18 : decode cX12_term 18 = .ok (.ifCond .ne 5, 3) := by decide +kernel
theorem dX12_term_21 : decode cX12_term 21 = .ok (.iconst (-1), 1) := by decide +kernel
theorem dX12_term_22 : decode cX12_term 22 = .ok (.ireturn, 1) := by decide +kernel
theorem dX12_term_23 : decode cX12_term 23 = .ok (.aload_n 0, 1) := by decide +kernel
theorem dX12_term_24 : decode cX12_term 24 = .ok (.iload_n 1, 1) := by decide +kernel
theorem dX12_term_25 : decode cX12_term 25 = .ok (.iload_n 2, 1) := by decide +kernel
theorem dX12_term_26 : decode cX12_term 26 = .ok (.invokevirtual 190, 3) := by decide +kernel
theorem dX12_term_29 : decode cX12_term 29 = .ok (.istore 4, 2) := by decide +kernel
theorem dX12_term_31 : decode cX12_term 31 = .ok (.iload 4, 2) := by decide +kernel
theorem dX12_term_33 : decode cX12_term 33 = .ok (.ifCond .ge 31, 3) := by decide +kernel
theorem dX12_term_36 : decode cX12_term 36 = .ok (.aload_n 0, 1) := by decide +kernel
theorem dX12_term_37 : decode cX12_term 37 = .ok (.getfield 184, 3) := by decide +kernel
theorem dX12_term_40 : decode cX12_term 40 = .ok (.bipush 10, 2) := by decide +kernel
theorem dX12_term_42 : decode cX12_term 42 = .ok (.if_icmp .ne 6, 3) := by decide +kernel
theorem dX12_term_45 : decode cX12_term 45 = .ok (.bipush (-2), 2) := by decide +kernel
theorem dX12_term_47 : decode cX12_term 47 = .ok (.ireturn, 1) := by decide +kernel
theorem dX12_term_48 : decode cX12_term 48 = .ok (.aload_n 0, 1) := by decide +kernel
theorem dX12_term_49 : decode cX12_term 49 = .ok (.getfield 184, 3) := by decide +kernel
theorem dX12_term_52 : decode cX12_term 52 = .ok (.istore 4, 2) := by decide +kernel
theorem dX12_term_54 : decode cX12_term 54 = .ok (.aload_n 0, 1) := by decide +kernel
theorem dX12_term_55 : decode cX12_term 55 = .ok (.dup, 1) := by decide +kernel
theorem dX12_term_56 : decode cX12_term 56 = .ok (.getfield 184, 3) := by decide +kernel
theorem dX12_term_59 : decode cX12_term 59 = .ok (.iconst 1, 1) := by decide +kernel
theorem dX12_term_60 : decode cX12_term 60 = .ok (.iadd, 1) := by decide +kernel
theorem dX12_term_61 : decode cX12_term 61 = .ok (.putfield 184, 3) := by decide +kernel
theorem dX12_term_64 : decode cX12_term 64 = .ok (.aload_n 0, 1) := by decide +kernel
theorem dX12_term_65 : decode cX12_term 65 = .ok (.getfield 58, 3) := by decide +kernel
theorem dX12_term_68 : decode cX12_term 68 = .ok (.iload 4, 2) := by decide +kernel
theorem dX12_term_70 : decode cX12_term 70 = .ok (.iload_n 1, 1) := by decide +kernel
theorem dX12_term_71 : decode cX12_term 71 = .ok (.iastore, 1) := by decide +kernel
theorem dX12_term_72 : decode cX12_term 72 = .ok (.aload_n 0, 1) := by decide +kernel
theorem dX12_term_73 : decode cX12_term 73 = .ok (.getfield 61, 3) := by decide +kernel
theorem dX12_term_76 : decode cX12_term 76 = .ok (.iload 4, 2) := by decide +kernel
theorem dX12_term_78 : decode cX12_term 78 = .ok (.iload_n 2, 1) := by decide +kernel
theorem dX12_term_79 : decode cX12_term 79 = .ok (.iastore, 1) := by decide +kernel
theorem dX12_term_80 : decode cX12_term 80 = .ok (.aload_n 0, 1) := by decide +kernel
theorem dX12_term_81 : decode cX12_term 81 = .ok (.getfield 64, 3) := by decide +kernel
theorem dX12_term_84 : decode cX12_term 84 = .ok (.iload 4, 2) := by decide +kernel
end
section
theorem dX12_term_86 : decode cX12_term 86 = .ok (.iload_n 3, 1) := by decide +kernel
theorem dX12_term_87 : decode cX12_term 87 = .ok (.iastore, 1) := by decide +kernel
theorem dX12_term_88 : decode cX12_term 88 = .ok (.aload_n 0, 1) := by decide +kernel
theorem dX12_term_89 : decode cX12_term 89 = .ok (.getfield 184, 3) := by decide +kernel
theorem dX12_term_92 : decode cX12_term 92 = .ok (.ireturn, 1) := by decide +kernel
theorem dX12_forget_0 : decode cX12_forget 0 = .ok (.iload_n 1, 1) := by decide +kernel
theorem dX12_forget_1 : decode cX12_forget 1 = .ok (.invokestatic 138, 3) := by decide +kernel
theorem dX12_forget_4 : decode cX12_forget 4 = .ok (.ifCond .eq 10, 3) := by decide +kernel
theorem dX12_forget_7 : decode cX12_forget 7 = .ok (.iload_n 2, 1) := by decide +kernel
theorem dX12_forget_8 : decode cX12_forget 8 = .ok (.invokestatic 187, 3) := by decide +kernel
theorem dX12_forget_11 : decode cX12_forget 11 = .ok (.ifCond .ne 5, 3) := by decide +kernel
theorem dX12_forget_14 : decode cX12_forget 14 = .ok (.iconst (-1), 1) := by decide +kernel
theorem dX12_forget_15 : decode cX12_forget 15 = .ok (.ireturn, 1) := by decide +kernel
theorem dX12_forget_16 : decode cX12_forget 16 = .ok (.aload_n 0, 1) := by decide +kernel
theorem dX12_forget_17 : decode cX12_forget 17 = .ok (.iload_n 1, 1) := by decide +kernel
theorem dX12_forget_18 : decode cX12_forget 18 = .ok (.iload_n 2, 1) := by decide +kernel
theorem dX12_forget_19 : decode cX12_forget 19 = .ok (.invokevirtual 190, 3) := by decide +kernel
theorem dX12_forget_22 : decode cX12_forget 22 = .ok (.istore_n 3, 1) := by decide +kernel
theorem dX12_forget_23 : decode cX12_forget 23 = .ok (.iload_n 3, 1) := by decide +kernel
theorem dX12_forget_24 : decode cX12_forget 24 = .ok (.ifCond .ge 6, 3) := by decide +kernel
theorem dX12_forget_27 : decode cX12_forget 27 = .ok (.bipush (-5), 2) := by decide +kernel
theorem dX12_forget_29 : decode cX12_forget 29 = .ok (.ireturn, 1) := by decide +kernel
theorem dX12_forget_30 : decode cX12_forget 30 = .ok (.aload_n 0, 1) := by decide +kernel
theorem dX12_forget_31 : decode cX12_forget 31 = .ok (.dup, 1) := by decide +kernel
theorem dX12_forget_32 : decode cX12_forget 32 = .ok (.getfield 184, 3) := by decide +kernel
theorem dX12_forget_35 : decode cX12_forget 35 = .ok (.iconst 1, 1) := by decide +kernel
theorem dX12_forget_36 : decode cX12_forget 36 = .ok (.isub, 1) := by decide +kernel
theorem dX12_forget_37 : decode cX12_forget 37 = .ok (.putfield 184, 3) := by decide +kernel
theorem dX12_forget_40 : decode cX12_forget 40 = .ok (.aload_n 0, 1) := by decide +kernel
theorem dX12_forget_41 : decode cX12_forget 41 = .ok (.getfield 58, 3) := by decide +kernel
theorem dX12_forget_44 : decode cX12_forget 44 = .ok (.iload_n 3, 1) := by decide +kernel
theorem dX12_forget_45 : decode cX12_forget 45 = .ok (.aload_n 0, 1) := by decide +kernel
theorem dX12_forget_46 : decode cX12_forget 46 = .ok (.getfield 58, 3) := by decide +kernel
theorem dX12_forget_49 : decode cX12_forget 49 = .ok (.aload_n 0, 1) := by decide +kernel
theorem dX12_forget_50 : decode cX12_forget 50 = .ok (.getfield 184, 3) := by decide +kernel
theorem dX12_forget_53 : decode cX12_forget 53 = .ok (.iaload, 1) := by decide +kernel
theorem dX12_forget_54 : decode cX12_forget 54 = .ok (.iastore, 1) := by decide +kernel
theorem dX12_forget_55 : decode cX12_forget 55 = .ok (.aload_n 0, 1) := by decide +kernel
theorem dX12_forget_56 : decode cX12_forget 56 = .ok (.getfield 61, 3) := by decide +kernel
theorem dX12_forget_59 : decode cX12_forget 59 = .ok (.iload_n 3, 1) := by decide +kernel
theorem dX12_forget_60 : decode cX12_forget 60 = .ok (.aload_n 0, 1) := by decide +kernel
theorem dX12_forget_61 : decode cX12_forget 61 = .ok (.getfield 61, 3) := by decide +kernel
theorem dX12_forget_64 : decode cX12_forget 64 = .ok (.aload_n 0, 1) := by decide +kernel
theorem dX12_forget_65 : decode cX12_forget 65 = .ok (.getfield 184, 3) := by decide +kernel
theorem dX12_forget_68 : decode cX12_forget 68 = .ok (.iaload, 1) := by decide +kernel
theorem dX12_forget_69 : decode cX12_forget 69 = .ok (.iastore, 1) := by decide +kernel
theorem dX12_forget_70 : decode cX12_forget 70 = .ok (.aload_n 0, 1) := by decide +kernel
theorem dX12_forget_71 : decode cX12_forget 71 = .ok (.getfield 64, 3) := by decide +kernel
theorem dX12_forget_74 : decode cX12_forget 74 = .ok (.iload_n 3, 1) := by decide +kernel
theorem dX12_forget_75 : decode cX12_forget 75 = .ok (.aload_n 0, 1) := by decide +kernel
theorem dX12_forget_76 : decode cX12_forget 76 = .ok (.getfield 64, 3) := by decide +kernel
theorem dX12_forget_79 : decode cX12_forget 79 = .ok (.aload_n 0, 1) := by decide +kernel
theorem dX12_forget_80 : decode cX12_forget 80 = .ok (.getfield 184, 3) := by decide +kernel
theorem dX12_forget_83 : decode cX12_forget 83 = .ok (.iaload, 1) := by decide +kernel
theorem dX12_forget_84 : decode cX12_forget 84 = .ok (.iastore, 1) := by decide +kernel
theorem dX12_forget_85 : decode cX12_forget 85 = .ok (.aload_n 0, 1) := by decide +kernel
theorem dX12_forget_86 : decode cX12_forget 86 = .ok (.getfield 184, 3) := by decide +kernel
theorem dX12_forget_89 : decode cX12_forget 89 = .ok (.ireturn, 1) := by decide +kernel
theorem dX12_areThree_0 : decode cX12_areThree 0 = .ok (.aload_n 0, 1) := by decide +kernel
theorem dX12_areThree_1 : decode cX12_areThree 1 = .ok (.iload_n 1, 1) := by decide +kernel
theorem dX12_areThree_2 : decode cX12_areThree 2 = .ok (.invokevirtual 178, 3) := by decide +kernel
theorem dX12_areThree_5 : decode cX12_areThree 5 = .ok (.ifCond .eq 22, 3) := by decide +kernel
theorem dX12_areThree_8 : decode cX12_areThree 8 = .ok (.iload_n 2, 1) := by decide +kernel
theorem dX12_areThree_9 : decode cX12_areThree 9 = .ok (.invokestatic 187, 3) := by decide +kernel
theorem dX12_areThree_12 : decode cX12_areThree 12 = .ok (.ifCond .eq 15, 3) := by decide +kernel
theorem dX12_areThree_15 : decode cX12_areThree 15 = .ok (.aload_n 0, 1) := by decide +kernel
theorem dX12_areThree_16 : decode cX12_areThree 16 = .ok (.iload_n 3, 1) := by decide +kernel
theorem dX12_areThree_17 : decode cX12_areThree 17 = .ok (.invokevirtual 181, 3) := by decide +kernel
theorem dX12_areThree_20 : decode cX12_areThree 20 = .ok (.ifCond .eq 7, 3) := by decide +kernel
theorem dX12_areThree_23 : decode cX12_areThree 23 = .ok (.iconst 1, 1) := by decide +kernel
theorem dX12_areThree_24 : decode cX12_areThree 24 = .ok (.goto 4, 3) := by decide +kernel
theorem dX12_areThree_27 : decode cX12_areThree 27 = .ok (.iconst 0, 1) := by decide +kernel
theorem dX12_areThree_28 : decode cX12_areThree 28 = .ok (.ireturn, 1) := by decide +kernel
theorem dX12_write_0 : decode cX12_write 0 = .ok (.aload_n 0, 1) := by decide +kernel
theorem dX12_write_1 : decode cX12_write 1 = .ok (.iload_n 1, 1) := by decide +kernel
theorem dX12_write_2 : decode cX12_write 2 = .ok (.iload_n 2, 1) := by decide +kernel
theorem dX12_write_3 : decode cX12_write 3 = .ok (.iload_n 3, 1) := by decide +kernel
theorem dX12_write_4 : decode cX12_write 4 = .ok (.invokevirtual 193, 3) := by decide +kernel
theorem dX12_write_7 : decode cX12_write 7 = .ok (.ifCond .ne 5, 3) := by decide +kernel
theorem dX12_write_10 : decode cX12_write 10 = .ok (.iconst (-1), 1) := by decide +kernel
theorem dX12_write_11 : decode cX12_write 11 = .ok (.ireturn, 1) := by decide +kernel
theorem dX12_write_12 : decode cX12_write 12 = .ok (.aload_n 0, 1) := by decide +kernel
theorem dX12_write_13 : decode cX12_write 13 = .ok (.getfield 13, 3) := by decide +kernel
theorem dX12_write_16 : decode cX12_write 16 = .ok (.iload_n 1, 1) := by decide +kernel
theorem dX12_write_17 : decode cX12_write 17 = .ok (.iaload, 1) := by decide +kernel
theorem dX12_write_18 : decode cX12_write 18 = .ok (.iconst 1, 1) := by decide +kernel
theorem dX12_write_19 : decode cX12_write 19 = .ok (.if_icmp .eq 12, 3) := by decide +kernel
theorem dX12_write_22 : decode cX12_write 22 = .ok (.aload_n 0, 1) := by decide +kernel
theorem dX12_write_23 : decode cX12_write 23 = .ok (.iload_n 3, 1) := by decide +kernel
theorem dX12_write_24 : decode cX12_write 24 = .ok (.iload_n 2, 1) := by decide +kernel
theorem dX12_write_25 : decode cX12_write 25 = .ok (.invokevirtual 196, 3) := by decide +kernel
theorem dX12_write_28 : decode cX12_write 28 = .ok (.ifCond .ne 6, 3) := by decide +kernel
theorem dX12_write_31 : decode cX12_write 31 = .ok (.bipush (-3), 2) := by decide +kernel
theorem dX12_write_33 : decode cX12_write 33 = .ok (.ireturn, 1) := by decide +kernel
theorem dX12_write_34 : decode cX12_write 34 = .ok (.aload_n 0, 1) := by decide +kernel
theorem dX12_write_35 : decode cX12_write 35 = .ok (.getfield 148, 3) := by decide +kernel
theorem dX12_write_38 : decode cX12_write 38 = .ok (.ifCond .ne 6, 3) := by decide +kernel
theorem dX12_write_41 : decode cX12_write 41 = .ok (.bipush (-6), 2) := by decide +kernel
theorem dX12_write_43 : decode cX12_write 43 = .ok (.ireturn, 1) := by decide +kernel
theorem dX12_write_44 : decode cX12_write 44 = .ok (.aload_n 0, 1) := by decide +kernel
theorem dX12_write_45 : decode cX12_write 45 = .ok (.invokevirtual 200, 3) := by decide +kernel
theorem dX12_write_48 : decode cX12_write 48 = .ok (.ifCond .eq 6, 3) := by decide +kernel
theorem dX12_write_51 : decode cX12_write 51 = .ok (.bipush (-3), 2) := by decide +kernel
theorem dX12_write_53 : decode cX12_write 53 = .ok (.ireturn, 1) := by decide +kernel
theorem dX12_write_54 : decode cX12_write 54 = .ok (.iconst 3, 1) := by decide +kernel
theorem dX12_write_55 : decode cX12_write 55 = .ok (.iload_n 1, 1) := by decide +kernel
theorem dX12_write_56 : decode cX12_write 56 = .ok (.imul, 1) := by decide +kernel
theorem dX12_write_57 : decode cX12_write 57 = .ok (.iload_n 2, 1) := by decide +kernel
theorem dX12_write_58 : decode cX12_write 58 = .ok (.iadd, 1) := by decide +kernel
theorem dX12_write_59 : decode cX12_write 59 = .ok (.istore 4, 2) := by decide +kernel
theorem dX12_write_61 : decode cX12_write 61 = .ok (.aload_n 0, 1) := by decide +kernel
theorem dX12_write_62 : decode cX12_write 62 = .ok (.getfield 148, 3) := by decide +kernel
theorem dX12_write_65 : decode cX12_write 65 = .ok (.istore 5, 2) := by decide +kernel
theorem dX12_write_67 : decode cX12_write 67 = .ok (.aload_n 0, 1) := by decide +kernel
theorem dX12_write_68 : decode cX12_write 68 = .ok (.getfield 37, 3) := by decide +kernel
theorem dX12_write_71 : decode cX12_write 71 = .ok (.iload 4, 2) := by decide +kernel
theorem dX12_write_73 : decode cX12_write 73 = .ok (.iconst 1, 1) := by decide +kernel
theorem dX12_write_74 : decode cX12_write 74 = .ok (.iastore, 1) := by decide +kernel
theorem dX12_write_75 : decode cX12_write 75 = .ok (.aload_n 0, 1) := by decide +kernel
theorem dX12_write_76 : decode cX12_write 76 = .ok (.getfield 40, 3) := by decide +kernel
theorem dX12_write_79 : decode cX12_write 79 = .ok (.iload 4, 2) := by decide +kernel
theorem dX12_write_81 : decode cX12_write 81 = .ok (.iload_n 3, 1) := by decide +kernel
theorem dX12_write_82 : decode cX12_write 82 = .ok (.iastore, 1) := by decide +kernel
theorem dX12_write_83 : decode cX12_write 83 = .ok (.aload_n 0, 1) := by decide +kernel
theorem dX12_write_84 : decode cX12_write 84 = .ok (.getfield 43, 3) := by decide +kernel
theorem dX12_write_87 : decode cX12_write 87 = .ok (.iload 4, 2) := by decide +kernel
theorem dX12_write_89 : decode cX12_write 89 = .ok (.iload 5, 2) := by decide +kernel
theorem dX12_write_91 : decode cX12_write 91 = .ok (.iastore, 1) := by decide +kernel
theorem dX12_write_92 : decode cX12_write 92 = .ok (.iconst 0, 1) := by decide +kernel
theorem dX12_write_93 : decode cX12_write 93 = .ok (.istore 6, 2) := by decide +kernel
theorem dX12_write_95 : decode cX12_write 95 = .ok (.iload 6, 2) := by decide +kernel
theorem dX12_write_97 : decode cX12_write 97 = .ok (.iload 5, 2) := by decide +kernel
theorem dX12_write_99 : decode cX12_write 99 = .ok (.if_icmp .ge 29, 3) := by decide +kernel
theorem dX12_write_102 : decode cX12_write 102 = .ok (.aload_n 0, 1) := by decide +kernel
theorem dX12_write_103 : decode cX12_write 103 = .ok (.getfield 46, 3) := by decide +kernel
theorem dX12_write_106 : decode cX12_write 106 = .ok (.bipush 10, 2) := by decide +kernel
theorem dX12_write_108 : decode cX12_write 108 = .ok (.iload 4, 2) := by decide +kernel
theorem dX12_write_110 : decode cX12_write 110 = .ok (.imul, 1) := by decide +kernel
theorem dX12_write_111 : decode cX12_write 111 = .ok (.iload 6, 2) := by decide +kernel
theorem dX12_write_113 : decode cX12_write 113 = .ok (.iadd, 1) := by decide +kernel
theorem dX12_write_114 : decode cX12_write 114 = .ok (.aload_n 0, 1) := by decide +kernel
theorem dX12_write_115 : decode cX12_write 115 = .ok (.getfield 7, 3) := by decide +kernel
theorem dX12_write_118 : decode cX12_write 118 = .ok (.iload 6, 2) := by decide +kernel
theorem dX12_write_120 : decode cX12_write 120 = .ok (.iaload, 1) := by decide +kernel
theorem dX12_write_121 : decode cX12_write 121 = .ok (.iastore, 1) := by decide +kernel
theorem dX12_write_122 : decode cX12_write 122 = .ok (.iinc 6 1, 3) := by decide +kernel
theorem dX12_write_125 : decode cX12_write 125 = .ok (.goto (-30), 3) := by decide +kernel
theorem dX12_write_128 : decode cX12_write 128 = .ok (.aload_n 0, 1) := by decide +kernel
theorem dX12_write_129 : decode cX12_write 129 = .ok (.iconst 0, 1) := by decide +kernel
theorem dX12_write_130 : decode cX12_write 130 = .ok (.putfield 148, 3) := by decide +kernel
theorem dX12_write_133 : decode cX12_write 133 = .ok (.iload 5, 2) := by decide +kernel
theorem dX12_write_135 : decode cX12_write 135 = .ok (.ireturn, 1) := by decide +kernel
theorem dX12_often_0 : decode cX12_often 0 = .ok (.iconst 0, 1) := by decide +kernel
theorem dX12_often_1 : decode cX12_often 1 = .ok (.istore 4, 2) := by decide +kernel
theorem dX12_often_3 : decode cX12_often 3 = .ok (.iconst 0, 1) := by decide +kernel
theorem dX12_often_4 : decode cX12_often 4 = .ok (.istore 5, 2) := by decide +kernel
theorem dX12_often_6 : decode cX12_often 6 = .ok (.iload 5, 2) := by decide +kernel
theorem dX12_often_8 : decode cX12_often 8 = .ok (.iload_n 2, 1) := by decide +kernel
theorem dX12_often_9 : decode cX12_often 9 = .ok (.if_icmp .ge 29, 3) := by decide +kernel
theorem dX12_often_12 : decode cX12_often 12 = .ok (.iload 4, 2) := by decide +kernel
theorem dX12_often_14 : decode cX12_often 14 = .ok (.aload_n 0, 1) := by decide +kernel
theorem dX12_often_15 : decode cX12_often 15 = .ok (.iload_n 1, 1) := by decide +kernel
theorem dX12_often_16 : decode cX12_often 16 = .ok (.iload 5, 2) := by decide +kernel
theorem dX12_often_18 : decode cX12_often 18 = .ok (.iadd, 1) := by decide +kernel
theorem dX12_often_19 : decode cX12_often 19 = .ok (.iaload, 1) := by decide +kernel
theorem dX12_often_20 : decode cX12_often 20 = .ok (.iload_n 3, 1) := by decide +kernel
theorem dX12_often_21 : decode cX12_often 21 = .ok (.if_icmp .ne 7, 3) := by decide +kernel
theorem dX12_often_24 : decode cX12_often 24 = .ok (.iconst 1, 1) := by decide +kernel
theorem dX12_often_25 : decode cX12_often 25 = .ok (.goto 4, 3) := by decide +kernel
theorem dX12_often_28 : decode cX12_often 28 = .ok (.iconst 0, 1) := by decide +kernel
theorem dX12_often_29 : decode cX12_often 29 = .ok (.iadd, 1) := by decide +kernel
theorem dX12_often_30 : decode cX12_often 30 = .ok (.istore 4, 2) := by decide +kernel
theorem dX12_often_32 : decode cX12_often 32 = .ok (.iinc 5 1, 3) := by decide +kernel
theorem dX12_often_35 : decode cX12_often 35 = .ok (.goto (-29), 3) := by decide +kernel
theorem dX12_often_38 : decode cX12_often 38 = .ok (.iload 4, 2) := by decide +kernel
theorem dX12_often_40 : decode cX12_often 40 = .ok (.ireturn, 1) := by decide +kernel
theorem dX12_faultOf_0 : decode cX12_faultOf 0 = .ok (.iconst 3, 1) := by decide +kernel
theorem dX12_faultOf_1 : decode cX12_faultOf 1 = .ok (.iload_n 1, 1) := by decide +kernel
theorem dX12_faultOf_2 : decode cX12_faultOf 2 = .ok (.imul, 1) := by decide +kernel
theorem dX12_faultOf_3 : decode cX12_faultOf 3 = .ok (.iload_n 2, 1) := by decide +kernel
theorem dX12_faultOf_4 : decode cX12_faultOf 4 = .ok (.iadd, 1) := by decide +kernel
theorem dX12_faultOf_5 : decode cX12_faultOf 5 = .ok (.istore_n 3, 1) := by decide +kernel
theorem dX12_faultOf_6 : decode cX12_faultOf 6 = .ok (.bipush 100, 2) := by decide +kernel
theorem dX12_faultOf_8 : decode cX12_faultOf 8 = .ok (.istore 4, 2) := by decide +kernel
theorem dX12_faultOf_10 : decode cX12_faultOf 10 = .ok (.iload 4, 2) := by decide +kernel
theorem dX12_faultOf_12 : decode cX12_faultOf 12 = .ok (.bipush 104, 2) := by decide +kernel
theorem dX12_faultOf_14 : decode cX12_faultOf 14 = .ok (.if_icmp .ge 52, 3) := by decide +kernel
theorem dX12_faultOf_17 : decode cX12_faultOf 17 = .ok (.aload_n 0, 1) := by decide +kernel
theorem dX12_faultOf_18 : decode cX12_faultOf 18 = .ok (.getfield 46, 3) := by decide +kernel
theorem dX12_faultOf_21 : decode cX12_faultOf 21 = .ok (.bipush 10, 2) := by decide +kernel
theorem dX12_faultOf_23 : decode cX12_faultOf 23 = .ok (.iload_n 3, 1) := by decide +kernel
theorem dX12_faultOf_24 : decode cX12_faultOf 24 = .ok (.imul, 1) := by decide +kernel
theorem dX12_faultOf_25 : decode cX12_faultOf 25 = .ok (.aload_n 0, 1) := by decide +kernel
theorem dX12_faultOf_26 : decode cX12_faultOf 26 = .ok (.getfield 43, 3) := by decide +kernel
theorem dX12_faultOf_29 : decode cX12_faultOf 29 = .ok (.iload_n 3, 1) := by decide +kernel
theorem dX12_faultOf_30 : decode cX12_faultOf 30 = .ok (.iaload, 1) := by decide +kernel
theorem dX12_faultOf_31 : decode cX12_faultOf 31 = .ok (.iload 4, 2) := by decide +kernel
theorem dX12_faultOf_33 : decode cX12_faultOf 33 = .ok (.invokestatic 203, 3) := by decide +kernel
theorem dX12_faultOf_36 : decode cX12_faultOf 36 = .ok (.aload_n 0, 1) := by decide +kernel
theorem dX12_faultOf_37 : decode cX12_faultOf 37 = .ok (.getfield 19, 3) := by decide +kernel
theorem dX12_faultOf_40 : decode cX12_faultOf 40 = .ok (.bipush 8, 2) := by decide +kernel
theorem dX12_faultOf_42 : decode cX12_faultOf 42 = .ok (.iload_n 1, 1) := by decide +kernel
theorem dX12_faultOf_43 : decode cX12_faultOf 43 = .ok (.imul, 1) := by decide +kernel
theorem dX12_faultOf_44 : decode cX12_faultOf 44 = .ok (.aload_n 0, 1) := by decide +kernel
theorem dX12_faultOf_45 : decode cX12_faultOf 45 = .ok (.getfield 16, 3) := by decide +kernel
theorem dX12_faultOf_48 : decode cX12_faultOf 48 = .ok (.iload_n 1, 1) := by decide +kernel
theorem dX12_faultOf_49 : decode cX12_faultOf 49 = .ok (.iaload, 1) := by decide +kernel
theorem dX12_faultOf_50 : decode cX12_faultOf 50 = .ok (.iload 4, 2) := by decide +kernel
theorem dX12_faultOf_52 : decode cX12_faultOf 52 = .ok (.invokestatic 203, 3) := by decide +kernel
theorem dX12_faultOf_55 : decode cX12_faultOf 55 = .ok (.if_icmp .eq 5, 3) := by decide +kernel
theorem dX12_faultOf_58 : decode cX12_faultOf 58 = .ok (.iconst 1, 1) := by decide +kernel
theorem dX12_faultOf_59 : decode cX12_faultOf 59 = .ok (.ireturn, 1) := by decide +kernel
theorem dX12_faultOf_60 : decode cX12_faultOf 60 = .ok (.iinc 4 1, 3) := by decide +kernel
theorem dX12_faultOf_63 : decode cX12_faultOf 63 = .ok (.goto (-53), 3) := by decide +kernel
theorem dX12_faultOf_66 : decode cX12_faultOf 66 = .ok (.iconst 0, 1) := by decide +kernel
theorem dX12_faultOf_67 : decode cX12_faultOf 67 = .ok (.istore 4, 2) := by decide +kernel
theorem dX12_faultOf_69 : decode cX12_faultOf 69 = .ok (.iload 4, 2) := by decide +kernel
theorem dX12_faultOf_71 : decode cX12_faultOf 71 = .ok (.aload_n 0, 1) := by decide +kernel
theorem dX12_faultOf_72 : decode cX12_faultOf 72 = .ok (.getfield 16, 3) := by decide +kernel
theorem dX12_faultOf_75 : decode cX12_faultOf 75 = .ok (.iload_n 1, 1) := by decide +kernel
theorem dX12_faultOf_76 : decode cX12_faultOf 76 = .ok (.iaload, 1) := by decide +kernel
theorem dX12_faultOf_77 : decode cX12_faultOf 77 = .ok (.if_icmp .ge 84, 3) := by decide +kernel
theorem dX12_faultOf_80 : decode cX12_faultOf 80 = .ok (.aload_n 0, 1) := by decide +kernel
theorem dX12_faultOf_81 : decode cX12_faultOf 81 = .ok (.getfield 19, 3) := by decide +kernel
theorem dX12_faultOf_84 : decode cX12_faultOf 84 = .ok (.bipush 8, 2) := by decide +kernel
theorem dX12_faultOf_86 : decode cX12_faultOf 86 = .ok (.iload_n 1, 1) := by decide +kernel
theorem dX12_faultOf_87 : decode cX12_faultOf 87 = .ok (.imul, 1) := by decide +kernel
theorem dX12_faultOf_88 : decode cX12_faultOf 88 = .ok (.iload 4, 2) := by decide +kernel
theorem dX12_faultOf_90 : decode cX12_faultOf 90 = .ok (.iadd, 1) := by decide +kernel
theorem dX12_faultOf_91 : decode cX12_faultOf 91 = .ok (.iaload, 1) := by decide +kernel
theorem dX12_faultOf_92 : decode cX12_faultOf 92 = .ok (.invokestatic 138, 3) := by decide +kernel
theorem dX12_faultOf_95 : decode cX12_faultOf 95 = .ok (.ifCond .eq 23, 3) := by decide +kernel
theorem dX12_faultOf_98 : decode cX12_faultOf 98 = .ok (.aload_n 0, 1) := by decide +kernel
theorem dX12_faultOf_99 : decode cX12_faultOf 99 = .ok (.aload_n 0, 1) := by decide +kernel
theorem dX12_faultOf_100 : decode cX12_faultOf 100 = .ok (.getfield 19, 3) := by decide +kernel
theorem dX12_faultOf_103 : decode cX12_faultOf 103 = .ok (.bipush 8, 2) := by decide +kernel
theorem dX12_faultOf_105 : decode cX12_faultOf 105 = .ok (.iload_n 1, 1) := by decide +kernel
theorem dX12_faultOf_106 : decode cX12_faultOf 106 = .ok (.imul, 1) := by decide +kernel
theorem dX12_faultOf_107 : decode cX12_faultOf 107 = .ok (.iload 4, 2) := by decide +kernel
theorem dX12_faultOf_109 : decode cX12_faultOf 109 = .ok (.iadd, 1) := by decide +kernel
theorem dX12_faultOf_110 : decode cX12_faultOf 110 = .ok (.iaload, 1) := by decide +kernel
theorem dX12_faultOf_111 : decode cX12_faultOf 111 = .ok (.iload_n 2, 1) := by decide +kernel
theorem dX12_faultOf_112 : decode cX12_faultOf 112 = .ok (.invokevirtual 190, 3) := by decide +kernel
theorem dX12_faultOf_115 : decode cX12_faultOf 115 = .ok (.goto 4, 3) := by decide +kernel
theorem dX12_faultOf_118 : decode cX12_faultOf 118 = .ok (.iconst (-1), 1) := by decide +kernel
theorem dX12_faultOf_119 : decode cX12_faultOf 119 = .ok (.istore 5, 2) := by decide +kernel
theorem dX12_faultOf_121 : decode cX12_faultOf 121 = .ok (.iload 5, 2) := by decide +kernel
theorem dX12_faultOf_123 : decode cX12_faultOf 123 = .ok (.ifCond .lt 32, 3) := by decide +kernel
theorem dX12_faultOf_126 : decode cX12_faultOf 126 = .ok (.aload_n 0, 1) := by decide +kernel
theorem dX12_faultOf_127 : decode cX12_faultOf 127 = .ok (.getfield 46, 3) := by decide +kernel
theorem dX12_faultOf_130 : decode cX12_faultOf 130 = .ok (.bipush 10, 2) := by decide +kernel
theorem dX12_faultOf_132 : decode cX12_faultOf 132 = .ok (.iload_n 3, 1) := by decide +kernel
theorem dX12_faultOf_133 : decode cX12_faultOf 133 = .ok (.imul, 1) := by decide +kernel
theorem dX12_faultOf_134 : decode cX12_faultOf 134 = .ok (.aload_n 0, 1) := by decide +kernel
theorem dX12_faultOf_135 : decode cX12_faultOf 135 = .ok (.getfield 43, 3) := by decide +kernel
theorem dX12_faultOf_138 : decode cX12_faultOf 138 = .ok (.iload_n 3, 1) := by decide +kernel
theorem dX12_faultOf_139 : decode cX12_faultOf 139 = .ok (.iaload, 1) := by decide +kernel
theorem dX12_faultOf_140 : decode cX12_faultOf 140 = .ok (.aload_n 0, 1) := by decide +kernel
theorem dX12_faultOf_141 : decode cX12_faultOf 141 = .ok (.getfield 64, 3) := by decide +kernel
theorem dX12_faultOf_144 : decode cX12_faultOf 144 = .ok (.iload 5, 2) := by decide +kernel
theorem dX12_faultOf_146 : decode cX12_faultOf 146 = .ok (.iaload, 1) := by decide +kernel
theorem dX12_faultOf_147 : decode cX12_faultOf 147 = .ok (.invokestatic 203, 3) := by decide +kernel
theorem dX12_faultOf_150 : decode cX12_faultOf 150 = .ok (.ifCond .ne 5, 3) := by decide +kernel
theorem dX12_faultOf_153 : decode cX12_faultOf 153 = .ok (.iconst 2, 1) := by decide +kernel
theorem dX12_faultOf_154 : decode cX12_faultOf 154 = .ok (.ireturn, 1) := by decide +kernel
theorem dX12_faultOf_155 : decode cX12_faultOf 155 = .ok (.iinc 4 1, 3) := by decide +kernel
theorem dX12_faultOf_158 : decode cX12_faultOf 158 = .ok (.goto (-89), 3) := by decide +kernel
theorem dX12_faultOf_161 : decode cX12_faultOf 161 = .ok (.aload_n 0, 1) := by decide +kernel
theorem dX12_faultOf_162 : decode cX12_faultOf 162 = .ok (.getfield 13, 3) := by decide +kernel
theorem dX12_faultOf_165 : decode cX12_faultOf 165 = .ok (.iload_n 1, 1) := by decide +kernel
theorem dX12_faultOf_166 : decode cX12_faultOf 166 = .ok (.iaload, 1) := by decide +kernel
theorem dX12_faultOf_167 : decode cX12_faultOf 167 = .ok (.iconst 2, 1) := by decide +kernel
theorem dX12_faultOf_168 : decode cX12_faultOf 168 = .ok (.if_icmp .ne 20, 3) := by decide +kernel
theorem dX12_faultOf_171 : decode cX12_faultOf 171 = .ok (.aload_n 0, 1) := by decide +kernel
theorem dX12_faultOf_172 : decode cX12_faultOf 172 = .ok (.getfield 43, 3) := by decide +kernel
theorem dX12_faultOf_175 : decode cX12_faultOf 175 = .ok (.iload_n 3, 1) := by decide +kernel
theorem dX12_faultOf_176 : decode cX12_faultOf 176 = .ok (.iaload, 1) := by decide +kernel
theorem dX12_faultOf_177 : decode cX12_faultOf 177 = .ok (.aload_n 0, 1) := by decide +kernel
theorem dX12_faultOf_178 : decode cX12_faultOf 178 = .ok (.getfield 67, 3) := by decide +kernel
theorem dX12_faultOf_181 : decode cX12_faultOf 181 = .ok (.if_icmp .le 7, 3) := by decide +kernel
theorem dX12_faultOf_184 : decode cX12_faultOf 184 = .ok (.iconst 3, 1) := by decide +kernel
theorem dX12_faultOf_185 : decode cX12_faultOf 185 = .ok (.goto 4, 3) := by decide +kernel
theorem dX12_faultOf_188 : decode cX12_faultOf 188 = .ok (.iconst 0, 1) := by decide +kernel
theorem dX12_faultOf_189 : decode cX12_faultOf 189 = .ok (.ireturn, 1) := by decide +kernel
theorem dX12_isRemembered_0 : decode cX12_isRemembered 0 = .ok (.iconst 3, 1) := by decide +kernel
theorem dX12_isRemembered_1 : decode cX12_isRemembered 1 = .ok (.iload_n 1, 1) := by decide +kernel
theorem dX12_isRemembered_2 : decode cX12_isRemembered 2 = .ok (.imul, 1) := by decide +kernel
theorem dX12_isRemembered_3 : decode cX12_isRemembered 3 = .ok (.iload_n 2, 1) := by decide +kernel
theorem dX12_isRemembered_4 : decode cX12_isRemembered 4 = .ok (.iadd, 1) := by decide +kernel
theorem dX12_isRemembered_5 : decode cX12_isRemembered 5 = .ok (.istore_n 3, 1) := by decide +kernel
theorem dX12_isRemembered_6 : decode cX12_isRemembered 6 = .ok (.iconst 0, 1) := by decide +kernel
theorem dX12_isRemembered_7 : decode cX12_isRemembered 7 = .ok (.istore 4, 2) := by decide +kernel
theorem dX12_isRemembered_9 : decode cX12_isRemembered 9 = .ok (.iconst 0, 1) := by decide +kernel
theorem dX12_isRemembered_10 : decode cX12_isRemembered 10 = .ok (.istore 5, 2) := by decide +kernel
theorem dX12_isRemembered_12 : decode cX12_isRemembered 12 = .ok (.iload 5, 2) := by decide +kernel
theorem dX12_isRemembered_14 : decode cX12_isRemembered 14 = .ok (.aload_n 0, 1) := by decide +kernel
theorem dX12_isRemembered_15 : decode cX12_isRemembered 15 = .ok (.getfield 207, 3) := by decide +kernel
theorem dX12_isRemembered_18 : decode cX12_isRemembered 18 = .ok (.if_icmp .ge 206, 3) := by decide +kernel
theorem dX12_isRemembered_21 : decode cX12_isRemembered 21 = .ok (.bipush 21, 2) := by decide +kernel
theorem dX12_isRemembered_23 : decode cX12_isRemembered 23 = .ok (.iload 5, 2) := by decide +kernel
theorem dX12_isRemembered_25 : decode cX12_isRemembered 25 = .ok (.imul, 1) := by decide +kernel
theorem dX12_isRemembered_26 : decode cX12_isRemembered 26 = .ok (.istore 6, 2) := by decide +kernel
theorem dX12_isRemembered_28 : decode cX12_isRemembered 28 = .ok (.aload_n 0, 1) := by decide +kernel
theorem dX12_isRemembered_29 : decode cX12_isRemembered 29 = .ok (.getfield 71, 3) := by decide +kernel
theorem dX12_isRemembered_32 : decode cX12_isRemembered 32 = .ok (.iload 6, 2) := by decide +kernel
theorem dX12_isRemembered_34 : decode cX12_isRemembered 34 = .ok (.iaload, 1) := by decide +kernel
theorem dX12_isRemembered_35 : decode cX12_isRemembered 35 = .ok (.iload_n 2, 1) := by decide +kernel
theorem dX12_isRemembered_36 : decode cX12_isRemembered 36 = .ok (.if_icmp .ne 43, 3) := by decide +kernel
theorem dX12_isRemembered_39 : decode cX12_isRemembered 39 = .ok (.aload_n 0, 1) := by decide +kernel
theorem dX12_isRemembered_40 : decode cX12_isRemembered 40 = .ok (.getfield 71, 3) := by decide +kernel
theorem dX12_isRemembered_43 : decode cX12_isRemembered 43 = .ok (.iload 6, 2) := by decide +kernel
theorem dX12_isRemembered_45 : decode cX12_isRemembered 45 = .ok (.iconst 1, 1) := by decide +kernel
theorem dX12_isRemembered_46 : decode cX12_isRemembered 46 = .ok (.iadd, 1) := by decide +kernel
theorem dX12_isRemembered_47 : decode cX12_isRemembered 47 = .ok (.iaload, 1) := by decide +kernel
theorem dX12_isRemembered_48 : decode cX12_isRemembered 48 = .ok (.aload_n 0, 1) := by decide +kernel
theorem dX12_isRemembered_49 : decode cX12_isRemembered 49 = .ok (.getfield 16, 3) := by decide +kernel
theorem dX12_isRemembered_52 : decode cX12_isRemembered 52 = .ok (.iload_n 1, 1) := by decide +kernel
theorem dX12_isRemembered_53 : decode cX12_isRemembered 53 = .ok (.iaload, 1) := by decide +kernel
theorem dX12_isRemembered_54 : decode cX12_isRemembered 54 = .ok (.if_icmp .ne 25, 3) := by decide +kernel
theorem dX12_isRemembered_57 : decode cX12_isRemembered 57 = .ok (.aload_n 0, 1) := by decide +kernel
theorem dX12_isRemembered_58 : decode cX12_isRemembered 58 = .ok (.getfield 71, 3) := by decide +kernel
theorem dX12_isRemembered_61 : decode cX12_isRemembered 61 = .ok (.iload 6, 2) := by decide +kernel
theorem dX12_isRemembered_63 : decode cX12_isRemembered 63 = .ok (.iconst 2, 1) := by decide +kernel
theorem dX12_isRemembered_64 : decode cX12_isRemembered 64 = .ok (.iadd, 1) := by decide +kernel
theorem dX12_isRemembered_65 : decode cX12_isRemembered 65 = .ok (.iaload, 1) := by decide +kernel
theorem dX12_isRemembered_66 : decode cX12_isRemembered 66 = .ok (.aload_n 0, 1) := by decide +kernel
theorem dX12_isRemembered_67 : decode cX12_isRemembered 67 = .ok (.getfield 43, 3) := by decide +kernel
theorem dX12_isRemembered_70 : decode cX12_isRemembered 70 = .ok (.iload_n 3, 1) := by decide +kernel
theorem dX12_isRemembered_71 : decode cX12_isRemembered 71 = .ok (.iaload, 1) := by decide +kernel
theorem dX12_isRemembered_72 : decode cX12_isRemembered 72 = .ok (.if_icmp .ne 7, 3) := by decide +kernel
theorem dX12_isRemembered_75 : decode cX12_isRemembered 75 = .ok (.iconst 1, 1) := by decide +kernel
theorem dX12_isRemembered_76 : decode cX12_isRemembered 76 = .ok (.goto 4, 3) := by decide +kernel
theorem dX12_isRemembered_79 : decode cX12_isRemembered 79 = .ok (.iconst 0, 1) := by decide +kernel
theorem dX12_isRemembered_80 : decode cX12_isRemembered 80 = .ok (.istore 7, 2) := by decide +kernel
theorem dX12_isRemembered_82 : decode cX12_isRemembered 82 = .ok (.iconst 0, 1) := by decide +kernel
theorem dX12_isRemembered_83 : decode cX12_isRemembered 83 = .ok (.istore 8, 2) := by decide +kernel
theorem dX12_isRemembered_85 : decode cX12_isRemembered 85 = .ok (.iload 8, 2) := by decide +kernel
theorem dX12_isRemembered_87 : decode cX12_isRemembered 87 = .ok (.aload_n 0, 1) := by decide +kernel
theorem dX12_isRemembered_88 : decode cX12_isRemembered 88 = .ok (.getfield 16, 3) := by decide +kernel
theorem dX12_isRemembered_91 : decode cX12_isRemembered 91 = .ok (.iload_n 1, 1) := by decide +kernel
theorem dX12_isRemembered_92 : decode cX12_isRemembered 92 = .ok (.iaload, 1) := by decide +kernel
theorem dX12_isRemembered_93 : decode cX12_isRemembered 93 = .ok (.if_icmp .ge 48, 3) := by decide +kernel
theorem dX12_isRemembered_96 : decode cX12_isRemembered 96 = .ok (.iload 7, 2) := by decide +kernel
theorem dX12_isRemembered_98 : decode cX12_isRemembered 98 = .ok (.ifCond .eq 34, 3) := by decide +kernel
theorem dX12_isRemembered_101 : decode cX12_isRemembered 101 = .ok (.aload_n 0, 1) := by decide +kernel
theorem dX12_isRemembered_102 : decode cX12_isRemembered 102 = .ok (.getfield 71, 3) := by decide +kernel
theorem dX12_isRemembered_105 : decode cX12_isRemembered 105 = .ok (.iload 6, 2) := by decide +kernel
theorem dX12_isRemembered_107 : decode cX12_isRemembered 107 = .ok (.iconst 3, 1) := by decide +kernel
theorem dX12_isRemembered_108 : decode cX12_isRemembered 108 = .ok (.iadd, 1) := by decide +kernel
theorem dX12_isRemembered_109 : decode cX12_isRemembered 109 = .ok (.iload 8, 2) := by decide +kernel
theorem dX12_isRemembered_111 : decode cX12_isRemembered 111 = .ok (.iadd, 1) := by decide +kernel
theorem dX12_isRemembered_112 : decode cX12_isRemembered 112 = .ok (.iaload, 1) := by decide +kernel
theorem dX12_isRemembered_113 : decode cX12_isRemembered 113 = .ok (.aload_n 0, 1) := by decide +kernel
theorem dX12_isRemembered_114 : decode cX12_isRemembered 114 = .ok (.getfield 19, 3) := by decide +kernel
theorem dX12_isRemembered_117 : decode cX12_isRemembered 117 = .ok (.bipush 8, 2) := by decide +kernel
theorem dX12_isRemembered_119 : decode cX12_isRemembered 119 = .ok (.iload_n 1, 1) := by decide +kernel
theorem dX12_isRemembered_120 : decode cX12_isRemembered 120 = .ok (.imul, 1) := by decide +kernel
theorem dX12_isRemembered_121 : decode cX12_isRemembered 121 = .ok (.iload 8, 2) := by decide +kernel
theorem dX12_isRemembered_123 : decode cX12_isRemembered 123 = .ok (.iadd, 1) := by decide +kernel
theorem dX12_isRemembered_124 : decode cX12_isRemembered 124 = .ok (.iaload, 1) := by decide +kernel
theorem dX12_isRemembered_125 : decode cX12_isRemembered 125 = .ok (.if_icmp .ne 7, 3) := by decide +kernel
theorem dX12_isRemembered_128 : decode cX12_isRemembered 128 = .ok (.iconst 1, 1) := by decide +kernel
theorem dX12_isRemembered_129 : decode cX12_isRemembered 129 = .ok (.goto 4, 3) := by decide +kernel
theorem dX12_isRemembered_132 : decode cX12_isRemembered 132 = .ok (.iconst 0, 1) := by decide +kernel
theorem dX12_isRemembered_133 : decode cX12_isRemembered 133 = .ok (.istore 7, 2) := by decide +kernel
theorem dX12_isRemembered_135 : decode cX12_isRemembered 135 = .ok (.iinc 8 1, 3) := by decide +kernel
theorem dX12_isRemembered_138 : decode cX12_isRemembered 138 = .ok (.goto (-53), 3) := by decide +kernel
theorem dX12_isRemembered_141 : decode cX12_isRemembered 141 = .ok (.iconst 0, 1) := by decide +kernel
theorem dX12_isRemembered_142 : decode cX12_isRemembered 142 = .ok (.istore 8, 2) := by decide +kernel
theorem dX12_isRemembered_144 : decode cX12_isRemembered 144 = .ok (.iload 8, 2) := by decide +kernel
theorem dX12_isRemembered_146 : decode cX12_isRemembered 146 = .ok (.aload_n 0, 1) := by decide +kernel
theorem dX12_isRemembered_147 : decode cX12_isRemembered 147 = .ok (.getfield 43, 3) := by decide +kernel
theorem dX12_isRemembered_150 : decode cX12_isRemembered 150 = .ok (.iload_n 3, 1) := by decide +kernel
theorem dX12_isRemembered_151 : decode cX12_isRemembered 151 = .ok (.iaload, 1) := by decide +kernel
theorem dX12_isRemembered_152 : decode cX12_isRemembered 152 = .ok (.if_icmp .ge 49, 3) := by decide +kernel
theorem dX12_isRemembered_155 : decode cX12_isRemembered 155 = .ok (.iload 7, 2) := by decide +kernel
theorem dX12_isRemembered_157 : decode cX12_isRemembered 157 = .ok (.ifCond .eq 35, 3) := by decide +kernel
theorem dX12_isRemembered_160 : decode cX12_isRemembered 160 = .ok (.aload_n 0, 1) := by decide +kernel
theorem dX12_isRemembered_161 : decode cX12_isRemembered 161 = .ok (.getfield 71, 3) := by decide +kernel
theorem dX12_isRemembered_164 : decode cX12_isRemembered 164 = .ok (.iload 6, 2) := by decide +kernel
theorem dX12_isRemembered_166 : decode cX12_isRemembered 166 = .ok (.bipush 11, 2) := by decide +kernel
theorem dX12_isRemembered_168 : decode cX12_isRemembered 168 = .ok (.iadd, 1) := by decide +kernel
theorem dX12_isRemembered_169 : decode cX12_isRemembered 169 = .ok (.iload 8, 2) := by decide +kernel
theorem dX12_isRemembered_171 : decode cX12_isRemembered 171 = .ok (.iadd, 1) := by decide +kernel
theorem dX12_isRemembered_172 : decode cX12_isRemembered 172 = .ok (.iaload, 1) := by decide +kernel
theorem dX12_isRemembered_173 : decode cX12_isRemembered 173 = .ok (.aload_n 0, 1) := by decide +kernel
theorem dX12_isRemembered_174 : decode cX12_isRemembered 174 = .ok (.getfield 46, 3) := by decide +kernel
theorem dX12_isRemembered_177 : decode cX12_isRemembered 177 = .ok (.bipush 10, 2) := by decide +kernel
theorem dX12_isRemembered_179 : decode cX12_isRemembered 179 = .ok (.iload_n 3, 1) := by decide +kernel
theorem dX12_isRemembered_180 : decode cX12_isRemembered 180 = .ok (.imul, 1) := by decide +kernel
theorem dX12_isRemembered_181 : decode cX12_isRemembered 181 = .ok (.iload 8, 2) := by decide +kernel
theorem dX12_isRemembered_183 : decode cX12_isRemembered 183 = .ok (.iadd, 1) := by decide +kernel
theorem dX12_isRemembered_184 : decode cX12_isRemembered 184 = .ok (.iaload, 1) := by decide +kernel
theorem dX12_isRemembered_185 : decode cX12_isRemembered 185 = .ok (.if_icmp .ne 7, 3) := by decide +kernel
theorem dX12_isRemembered_188 : decode cX12_isRemembered 188 = .ok (.iconst 1, 1) := by decide +kernel
theorem dX12_isRemembered_189 : decode cX12_isRemembered 189 = .ok (.goto 4, 3) := by decide +kernel
theorem dX12_isRemembered_192 : decode cX12_isRemembered 192 = .ok (.iconst 0, 1) := by decide +kernel
theorem dX12_isRemembered_193 : decode cX12_isRemembered 193 = .ok (.istore 7, 2) := by decide +kernel
theorem dX12_isRemembered_195 : decode cX12_isRemembered 195 = .ok (.iinc 8 1, 3) := by decide +kernel
theorem dX12_isRemembered_198 : decode cX12_isRemembered 198 = .ok (.goto (-54), 3) := by decide +kernel
theorem dX12_isRemembered_201 : decode cX12_isRemembered 201 = .ok (.iload 4, 2) := by decide +kernel
theorem dX12_isRemembered_203 : decode cX12_isRemembered 203 = .ok (.ifCond .ne 8, 3) := by decide +kernel
theorem dX12_isRemembered_206 : decode cX12_isRemembered 206 = .ok (.iload 7, 2) := by decide +kernel
theorem dX12_isRemembered_208 : decode cX12_isRemembered 208 = .ok (.ifCond .eq 7, 3) := by decide +kernel
theorem dX12_isRemembered_211 : decode cX12_isRemembered 211 = .ok (.iconst 1, 1) := by decide +kernel
theorem dX12_isRemembered_212 : decode cX12_isRemembered 212 = .ok (.goto 4, 3) := by decide +kernel
theorem dX12_isRemembered_215 : decode cX12_isRemembered 215 = .ok (.iconst 0, 1) := by decide +kernel
theorem dX12_isRemembered_216 : decode cX12_isRemembered 216 = .ok (.istore 4, 2) := by decide +kernel
theorem dX12_isRemembered_218 : decode cX12_isRemembered 218 = .ok (.iinc 5 1, 3) := by decide +kernel
theorem dX12_isRemembered_221 : decode cX12_isRemembered 221 = .ok (.goto (-209), 3) := by decide +kernel
theorem dX12_isRemembered_224 : decode cX12_isRemembered 224 = .ok (.iload 4, 2) := by decide +kernel
theorem dX12_isRemembered_226 : decode cX12_isRemembered 226 = .ok (.ireturn, 1) := by decide +kernel
theorem dX12_remember_0 : decode cX12_remember 0 = .ok (.aload_n 0, 1) := by decide +kernel
theorem dX12_remember_1 : decode cX12_remember 1 = .ok (.iload_n 1, 1) := by decide +kernel
theorem dX12_remember_2 : decode cX12_remember 2 = .ok (.iload_n 2, 1) := by decide +kernel
theorem dX12_remember_3 : decode cX12_remember 3 = .ok (.invokevirtual 210, 3) := by decide +kernel
theorem dX12_remember_6 : decode cX12_remember 6 = .ok (.ifCond .eq 4, 3) := by decide +kernel
theorem dX12_remember_9 : decode cX12_remember 9 = .ok (.return_, 1) := by decide +kernel
theorem dX12_remember_10 : decode cX12_remember 10 = .ok (.aload_n 0, 1) := by decide +kernel
theorem dX12_remember_11 : decode cX12_remember 11 = .ok (.getfield 207, 3) := by decide +kernel
theorem dX12_remember_14 : decode cX12_remember 14 = .ok (.bipush 20, 2) := by decide +kernel
theorem dX12_remember_16 : decode cX12_remember 16 = .ok (.if_icmp .ne 43, 3) := by decide +kernel
theorem dX12_remember_19 : decode cX12_remember 19 = .ok (.iconst 0, 1) := by decide +kernel
theorem dX12_remember_20 : decode cX12_remember 20 = .ok (.istore_n 3, 1) := by decide +kernel
theorem dX12_remember_21 : decode cX12_remember 21 = .ok (.iload_n 3, 1) := by decide +kernel
theorem dX12_remember_22 : decode cX12_remember 22 = .ok (.sipush 399, 3) := by decide +kernel
theorem dX12_remember_25 : decode cX12_remember 25 = .ok (.if_icmp .ge 24, 3) := by decide +kernel
theorem dX12_remember_28 : decode cX12_remember 28 = .ok (.aload_n 0, 1) := by decide +kernel
theorem dX12_remember_29 : decode cX12_remember 29 = .ok (.getfield 71, 3) := by decide +kernel
theorem dX12_remember_32 : decode cX12_remember 32 = .ok (.iload_n 3, 1) := by decide +kernel
theorem dX12_remember_33 : decode cX12_remember 33 = .ok (.aload_n 0, 1) := by decide +kernel
theorem dX12_remember_34 : decode cX12_remember 34 = .ok (.getfield 71, 3) := by decide +kernel
theorem dX12_remember_37 : decode cX12_remember 37 = .ok (.iload_n 3, 1) := by decide +kernel
theorem dX12_remember_38 : decode cX12_remember 38 = .ok (.bipush 21, 2) := by decide +kernel
theorem dX12_remember_40 : decode cX12_remember 40 = .ok (.iadd, 1) := by decide +kernel
theorem dX12_remember_41 : decode cX12_remember 41 = .ok (.iaload, 1) := by decide +kernel
theorem dX12_remember_42 : decode cX12_remember 42 = .ok (.iastore, 1) := by decide +kernel
theorem dX12_remember_43 : decode cX12_remember 43 = .ok (.iinc 3 1, 3) := by decide +kernel
theorem dX12_remember_46 : decode cX12_remember 46 = .ok (.goto (-25), 3) := by decide +kernel
theorem dX12_remember_49 : decode cX12_remember 49 = .ok (.aload_n 0, 1) := by decide +kernel
theorem dX12_remember_50 : decode cX12_remember 50 = .ok (.dup, 1) := by decide +kernel
theorem dX12_remember_51 : decode cX12_remember 51 = .ok (.getfield 207, 3) := by decide +kernel
theorem dX12_remember_54 : decode cX12_remember 54 = .ok (.iconst 1, 1) := by decide +kernel
theorem dX12_remember_55 : decode cX12_remember 55 = .ok (.isub, 1) := by decide +kernel
theorem dX12_remember_56 : decode cX12_remember 56 = .ok (.putfield 207, 3) := by decide +kernel
theorem dX12_remember_59 : decode cX12_remember 59 = .ok (.bipush 21, 2) := by decide +kernel
theorem dX12_remember_61 : decode cX12_remember 61 = .ok (.aload_n 0, 1) := by decide +kernel
theorem dX12_remember_62 : decode cX12_remember 62 = .ok (.getfield 207, 3) := by decide +kernel
theorem dX12_remember_65 : decode cX12_remember 65 = .ok (.imul, 1) := by decide +kernel
theorem dX12_remember_66 : decode cX12_remember 66 = .ok (.istore_n 3, 1) := by decide +kernel
theorem dX12_remember_67 : decode cX12_remember 67 = .ok (.iconst 3, 1) := by decide +kernel
theorem dX12_remember_68 : decode cX12_remember 68 = .ok (.iload_n 1, 1) := by decide +kernel
theorem dX12_remember_69 : decode cX12_remember 69 = .ok (.imul, 1) := by decide +kernel
theorem dX12_remember_70 : decode cX12_remember 70 = .ok (.iload_n 2, 1) := by decide +kernel
theorem dX12_remember_71 : decode cX12_remember 71 = .ok (.iadd, 1) := by decide +kernel
theorem dX12_remember_72 : decode cX12_remember 72 = .ok (.istore 4, 2) := by decide +kernel
theorem dX12_remember_74 : decode cX12_remember 74 = .ok (.aload_n 0, 1) := by decide +kernel
theorem dX12_remember_75 : decode cX12_remember 75 = .ok (.getfield 71, 3) := by decide +kernel
theorem dX12_remember_78 : decode cX12_remember 78 = .ok (.iload_n 3, 1) := by decide +kernel
theorem dX12_remember_79 : decode cX12_remember 79 = .ok (.iload_n 2, 1) := by decide +kernel
theorem dX12_remember_80 : decode cX12_remember 80 = .ok (.iastore, 1) := by decide +kernel
theorem dX12_remember_81 : decode cX12_remember 81 = .ok (.aload_n 0, 1) := by decide +kernel
theorem dX12_remember_82 : decode cX12_remember 82 = .ok (.getfield 71, 3) := by decide +kernel
theorem dX12_remember_85 : decode cX12_remember 85 = .ok (.iload_n 3, 1) := by decide +kernel
theorem dX12_remember_86 : decode cX12_remember 86 = .ok (.iconst 1, 1) := by decide +kernel
theorem dX12_remember_87 : decode cX12_remember 87 = .ok (.iadd, 1) := by decide +kernel
theorem dX12_remember_88 : decode cX12_remember 88 = .ok (.aload_n 0, 1) := by decide +kernel
theorem dX12_remember_89 : decode cX12_remember 89 = .ok (.getfield 16, 3) := by decide +kernel
theorem dX12_remember_92 : decode cX12_remember 92 = .ok (.iload_n 1, 1) := by decide +kernel
theorem dX12_remember_93 : decode cX12_remember 93 = .ok (.iaload, 1) := by decide +kernel
theorem dX12_remember_94 : decode cX12_remember 94 = .ok (.iastore, 1) := by decide +kernel
theorem dX12_remember_95 : decode cX12_remember 95 = .ok (.aload_n 0, 1) := by decide +kernel
theorem dX12_remember_96 : decode cX12_remember 96 = .ok (.getfield 71, 3) := by decide +kernel
theorem dX12_remember_99 : decode cX12_remember 99 = .ok (.iload_n 3, 1) := by decide +kernel
theorem dX12_remember_100 : decode cX12_remember 100 = .ok (.iconst 2, 1) := by decide +kernel
theorem dX12_remember_101 : decode cX12_remember 101 = .ok (.iadd, 1) := by decide +kernel
theorem dX12_remember_102 : decode cX12_remember 102 = .ok (.aload_n 0, 1) := by decide +kernel
theorem dX12_remember_103 : decode cX12_remember 103 = .ok (.getfield 43, 3) := by decide +kernel
theorem dX12_remember_106 : decode cX12_remember 106 = .ok (.iload 4, 2) := by decide +kernel
theorem dX12_remember_108 : decode cX12_remember 108 = .ok (.iaload, 1) := by decide +kernel
theorem dX12_remember_109 : decode cX12_remember 109 = .ok (.iastore, 1) := by decide +kernel
theorem dX12_remember_110 : decode cX12_remember 110 = .ok (.iconst 0, 1) := by decide +kernel
theorem dX12_remember_111 : decode cX12_remember 111 = .ok (.istore 5, 2) := by decide +kernel
theorem dX12_remember_113 : decode cX12_remember 113 = .ok (.iload 5, 2) := by decide +kernel
theorem dX12_remember_115 : decode cX12_remember 115 = .ok (.bipush 8, 2) := by decide +kernel
theorem dX12_remember_117 : decode cX12_remember 117 = .ok (.if_icmp .ge 32, 3) := by decide +kernel
theorem dX12_remember_120 : decode cX12_remember 120 = .ok (.aload_n 0, 1) := by decide +kernel
theorem dX12_remember_121 : decode cX12_remember 121 = .ok (.getfield 71, 3) := by decide +kernel
theorem dX12_remember_124 : decode cX12_remember 124 = .ok (.iload_n 3, 1) := by decide +kernel
theorem dX12_remember_125 : decode cX12_remember 125 = .ok (.iconst 3, 1) := by decide +kernel
theorem dX12_remember_126 : decode cX12_remember 126 = .ok (.iadd, 1) := by decide +kernel
theorem dX12_remember_127 : decode cX12_remember 127 = .ok (.iload 5, 2) := by decide +kernel
theorem dX12_remember_129 : decode cX12_remember 129 = .ok (.iadd, 1) := by decide +kernel
theorem dX12_remember_130 : decode cX12_remember 130 = .ok (.aload_n 0, 1) := by decide +kernel
theorem dX12_remember_131 : decode cX12_remember 131 = .ok (.getfield 19, 3) := by decide +kernel
theorem dX12_remember_134 : decode cX12_remember 134 = .ok (.bipush 8, 2) := by decide +kernel
theorem dX12_remember_136 : decode cX12_remember 136 = .ok (.iload_n 1, 1) := by decide +kernel
theorem dX12_remember_137 : decode cX12_remember 137 = .ok (.imul, 1) := by decide +kernel
theorem dX12_remember_138 : decode cX12_remember 138 = .ok (.iload 5, 2) := by decide +kernel
theorem dX12_remember_140 : decode cX12_remember 140 = .ok (.iadd, 1) := by decide +kernel
theorem dX12_remember_141 : decode cX12_remember 141 = .ok (.iaload, 1) := by decide +kernel
theorem dX12_remember_142 : decode cX12_remember 142 = .ok (.iastore, 1) := by decide +kernel
theorem dX12_remember_143 : decode cX12_remember 143 = .ok (.iinc 5 1, 3) := by decide +kernel
theorem dX12_remember_146 : decode cX12_remember 146 = .ok (.goto (-33), 3) := by decide +kernel
theorem dX12_remember_149 : decode cX12_remember 149 = .ok (.iconst 0, 1) := by decide +kernel
theorem dX12_remember_150 : decode cX12_remember 150 = .ok (.istore 5, 2) := by decide +kernel
theorem dX12_remember_152 : decode cX12_remember 152 = .ok (.iload 5, 2) := by decide +kernel
theorem dX12_remember_154 : decode cX12_remember 154 = .ok (.bipush 10, 2) := by decide +kernel
theorem dX12_remember_156 : decode cX12_remember 156 = .ok (.if_icmp .ge 34, 3) := by decide +kernel
theorem dX12_remember_159 : decode cX12_remember 159 = .ok (.aload_n 0, 1) := by decide +kernel
theorem dX12_remember_160 : decode cX12_remember 160 = .ok (.getfield 71, 3) := by decide +kernel
theorem dX12_remember_163 : decode cX12_remember 163 = .ok (.iload_n 3, 1) := by decide +kernel
theorem dX12_remember_164 : decode cX12_remember 164 = .ok (.bipush 11, 2) := by decide +kernel
theorem dX12_remember_166 : decode cX12_remember 166 = .ok (.iadd, 1) := by decide +kernel
theorem dX12_remember_167 : decode cX12_remember 167 = .ok (.iload 5, 2) := by decide +kernel
theorem dX12_remember_169 : decode cX12_remember 169 = .ok (.iadd, 1) := by decide +kernel
theorem dX12_remember_170 : decode cX12_remember 170 = .ok (.aload_n 0, 1) := by decide +kernel
theorem dX12_remember_171 : decode cX12_remember 171 = .ok (.getfield 46, 3) := by decide +kernel
theorem dX12_remember_174 : decode cX12_remember 174 = .ok (.bipush 10, 2) := by decide +kernel
theorem dX12_remember_176 : decode cX12_remember 176 = .ok (.iload 4, 2) := by decide +kernel
theorem dX12_remember_178 : decode cX12_remember 178 = .ok (.imul, 1) := by decide +kernel
theorem dX12_remember_179 : decode cX12_remember 179 = .ok (.iload 5, 2) := by decide +kernel
theorem dX12_remember_181 : decode cX12_remember 181 = .ok (.iadd, 1) := by decide +kernel
theorem dX12_remember_182 : decode cX12_remember 182 = .ok (.iaload, 1) := by decide +kernel
theorem dX12_remember_183 : decode cX12_remember 183 = .ok (.iastore, 1) := by decide +kernel
theorem dX12_remember_184 : decode cX12_remember 184 = .ok (.iinc 5 1, 3) := by decide +kernel
theorem dX12_remember_187 : decode cX12_remember 187 = .ok (.goto (-35), 3) := by decide +kernel
theorem dX12_remember_190 : decode cX12_remember 190 = .ok (.aload_n 0, 1) := by decide +kernel
theorem dX12_remember_191 : decode cX12_remember 191 = .ok (.dup, 1) := by decide +kernel
theorem dX12_remember_192 : decode cX12_remember 192 = .ok (.getfield 207, 3) := by decide +kernel
theorem dX12_remember_195 : decode cX12_remember 195 = .ok (.iconst 1, 1) := by decide +kernel
theorem dX12_remember_196 : decode cX12_remember 196 = .ok (.iadd, 1) := by decide +kernel
theorem dX12_remember_197 : decode cX12_remember 197 = .ok (.putfield 207, 3) := by decide +kernel
theorem dX12_remember_200 : decode cX12_remember 200 = .ok (.return_, 1) := by decide +kernel
theorem dX12_review_0 : decode cX12_review 0 = .ok (.aload_n 0, 1) := by decide +kernel
theorem dX12_review_1 : decode cX12_review 1 = .ok (.iload_n 1, 1) := by decide +kernel
theorem dX12_review_2 : decode cX12_review 2 = .ok (.iload_n 2, 1) := by decide +kernel
theorem dX12_review_3 : decode cX12_review 3 = .ok (.iload_n 3, 1) := by decide +kernel
theorem dX12_review_4 : decode cX12_review 4 = .ok (.invokevirtual 193, 3) := by decide +kernel
theorem dX12_review_7 : decode cX12_review 7 = .ok (.ifCond .ne 5, 3) := by decide +kernel
theorem dX12_review_10 : decode cX12_review 10 = .ok (.iconst (-1), 1) := by decide +kernel
theorem dX12_review_11 : decode cX12_review 11 = .ok (.ireturn, 1) := by decide +kernel
theorem dX12_review_12 : decode cX12_review 12 = .ok (.iconst 3, 1) := by decide +kernel
theorem dX12_review_13 : decode cX12_review 13 = .ok (.iload_n 1, 1) := by decide +kernel
theorem dX12_review_14 : decode cX12_review 14 = .ok (.imul, 1) := by decide +kernel
theorem dX12_review_15 : decode cX12_review 15 = .ok (.iload_n 2, 1) := by decide +kernel
theorem dX12_review_16 : decode cX12_review 16 = .ok (.iadd, 1) := by decide +kernel
theorem dX12_review_17 : decode cX12_review 17 = .ok (.istore 4, 2) := by decide +kernel
theorem dX12_review_19 : decode cX12_review 19 = .ok (.aload_n 0, 1) := by decide +kernel
theorem dX12_review_20 : decode cX12_review 20 = .ok (.getfield 37, 3) := by decide +kernel
theorem dX12_review_23 : decode cX12_review 23 = .ok (.iload 4, 2) := by decide +kernel
theorem dX12_review_25 : decode cX12_review 25 = .ok (.iaload, 1) := by decide +kernel
theorem dX12_review_26 : decode cX12_review 26 = .ok (.iconst 1, 1) := by decide +kernel
theorem dX12_review_27 : decode cX12_review 27 = .ok (.if_icmp .eq 17, 3) := by decide +kernel
theorem dX12_review_30 : decode cX12_review 30 = .ok (.aload_n 0, 1) := by decide +kernel
theorem dX12_review_31 : decode cX12_review 31 = .ok (.getfield 37, 3) := by decide +kernel
theorem dX12_review_34 : decode cX12_review 34 = .ok (.iload 4, 2) := by decide +kernel
theorem dX12_review_36 : decode cX12_review 36 = .ok (.iaload, 1) := by decide +kernel
theorem dX12_review_37 : decode cX12_review 37 = .ok (.iconst 3, 1) := by decide +kernel
theorem dX12_review_38 : decode cX12_review 38 = .ok (.if_icmp .eq 6, 3) := by decide +kernel
theorem dX12_review_41 : decode cX12_review 41 = .ok (.bipush (-4), 2) := by decide +kernel
theorem dX12_review_43 : decode cX12_review 43 = .ok (.ireturn, 1) := by decide +kernel
theorem dX12_review_44 : decode cX12_review 44 = .ok (.aload_n 0, 1) := by decide +kernel
theorem dX12_review_45 : decode cX12_review 45 = .ok (.iload_n 3, 1) := by decide +kernel
theorem dX12_review_46 : decode cX12_review 46 = .ok (.iload_n 2, 1) := by decide +kernel
theorem dX12_review_47 : decode cX12_review 47 = .ok (.invokevirtual 196, 3) := by decide +kernel
theorem dX12_review_50 : decode cX12_review 50 = .ok (.ifCond .ne 6, 3) := by decide +kernel
theorem dX12_review_53 : decode cX12_review 53 = .ok (.bipush (-3), 2) := by decide +kernel
theorem dX12_review_55 : decode cX12_review 55 = .ok (.ireturn, 1) := by decide +kernel
theorem dX12_review_56 : decode cX12_review 56 = .ok (.aload_n 0, 1) := by decide +kernel
theorem dX12_review_57 : decode cX12_review 57 = .ok (.getfield 40, 3) := by decide +kernel
theorem dX12_review_60 : decode cX12_review 60 = .ok (.iload 4, 2) := by decide +kernel
theorem dX12_review_62 : decode cX12_review 62 = .ok (.iaload, 1) := by decide +kernel
theorem dX12_review_63 : decode cX12_review 63 = .ok (.iload_n 3, 1) := by decide +kernel
theorem dX12_review_64 : decode cX12_review 64 = .ok (.if_icmp .ne 6, 3) := by decide +kernel
theorem dX12_review_67 : decode cX12_review 67 = .ok (.bipush (-7), 2) := by decide +kernel
theorem dX12_review_69 : decode cX12_review 69 = .ok (.ireturn, 1) := by decide +kernel
theorem dX12_review_70 : decode cX12_review 70 = .ok (.aload_n 0, 1) := by decide +kernel
theorem dX12_review_71 : decode cX12_review 71 = .ok (.iload_n 1, 1) := by decide +kernel
theorem dX12_review_72 : decode cX12_review 72 = .ok (.iload_n 2, 1) := by decide +kernel
theorem dX12_review_73 : decode cX12_review 73 = .ok (.invokevirtual 213, 3) := by decide +kernel
theorem dX12_review_76 : decode cX12_review 76 = .ok (.istore 5, 2) := by decide +kernel
theorem dX12_review_78 : decode cX12_review 78 = .ok (.iload 5, 2) := by decide +kernel
theorem dX12_review_80 : decode cX12_review 80 = .ok (.ifCond .le 9, 3) := by decide +kernel
theorem dX12_review_83 : decode cX12_review 83 = .ok (.bipush (-10), 2) := by decide +kernel
theorem dX12_review_85 : decode cX12_review 85 = .ok (.iload 5, 2) := by decide +kernel
theorem dX12_review_87 : decode cX12_review 87 = .ok (.isub, 1) := by decide +kernel
theorem dX12_review_88 : decode cX12_review 88 = .ok (.ireturn, 1) := by decide +kernel
theorem dX12_review_89 : decode cX12_review 89 = .ok (.aload_n 0, 1) := by decide +kernel
theorem dX12_review_90 : decode cX12_review 90 = .ok (.getfield 37, 3) := by decide +kernel
theorem dX12_review_93 : decode cX12_review 93 = .ok (.iload 4, 2) := by decide +kernel
theorem dX12_review_95 : decode cX12_review 95 = .ok (.iconst 2, 1) := by decide +kernel
theorem dX12_review_96 : decode cX12_review 96 = .ok (.iastore, 1) := by decide +kernel
theorem dX12_review_97 : decode cX12_review 97 = .ok (.aload_n 0, 1) := by decide +kernel
theorem dX12_review_98 : decode cX12_review 98 = .ok (.iload_n 1, 1) := by decide +kernel
theorem dX12_review_99 : decode cX12_review 99 = .ok (.iload_n 2, 1) := by decide +kernel
theorem dX12_review_100 : decode cX12_review 100 = .ok (.invokevirtual 216, 3) := by decide +kernel
theorem dX12_review_103 : decode cX12_review 103 = .ok (.aload_n 0, 1) := by decide +kernel
theorem dX12_review_104 : decode cX12_review 104 = .ok (.getfield 207, 3) := by decide +kernel
theorem dX12_review_107 : decode cX12_review 107 = .ok (.ireturn, 1) := by decide +kernel
theorem dX12_findNearest_0 : decode cX12_findNearest 0 = .ok (.aload_n 0, 1) := by decide +kernel
theorem dX12_findNearest_1 : decode cX12_findNearest 1 = .ok (.iconst (-1), 1) := by decide +kernel
theorem dX12_findNearest_2 : decode cX12_findNearest 2 = .ok (.putfield 220, 3) := by decide +kernel
theorem dX12_findNearest_5 : decode cX12_findNearest 5 = .ok (.aload_n 0, 1) := by decide +kernel
theorem dX12_findNearest_6 : decode cX12_findNearest 6 = .ok (.ldc 223, 2) := by decide +kernel
theorem dX12_findNearest_8 : decode cX12_findNearest 8 = .ok (.putfield 224, 3) := by decide +kernel
theorem dX12_findNearest_11 : decode cX12_findNearest 11 = .ok (.iconst 0, 1) := by decide +kernel
theorem dX12_findNearest_12 : decode cX12_findNearest 12 = .ok (.istore_n 3, 1) := by decide +kernel
theorem dX12_findNearest_13 : decode cX12_findNearest 13 = .ok (.iload_n 3, 1) := by decide +kernel
theorem dX12_findNearest_14 : decode cX12_findNearest 14 = .ok (.aload_n 0, 1) := by decide +kernel
theorem dX12_findNearest_15 : decode cX12_findNearest 15 = .ok (.getfield 207, 3) := by decide +kernel
theorem dX12_findNearest_18 : decode cX12_findNearest 18 = .ok (.if_icmp .ge 95, 3) := by decide +kernel
theorem dX12_findNearest_21 : decode cX12_findNearest 21 = .ok (.aload_n 0, 1) := by decide +kernel
theorem dX12_findNearest_22 : decode cX12_findNearest 22 = .ok (.getfield 71, 3) := by decide +kernel
theorem dX12_findNearest_25 : decode cX12_findNearest 25 = .ok (.bipush 21, 2) := by decide +kernel
theorem dX12_findNearest_27 : decode cX12_findNearest 27 = .ok (.iload_n 3, 1) := by decide +kernel
theorem dX12_findNearest_28 : decode cX12_findNearest 28 = .ok (.imul, 1) := by decide +kernel
theorem dX12_findNearest_29 : decode cX12_findNearest 29 = .ok (.iaload, 1) := by decide +kernel
theorem dX12_findNearest_30 : decode cX12_findNearest 30 = .ok (.iload_n 2, 1) := by decide +kernel
theorem dX12_findNearest_31 : decode cX12_findNearest 31 = .ok (.if_icmp .ne 45, 3) := by decide +kernel
theorem dX12_findNearest_34 : decode cX12_findNearest 34 = .ok (.aload_n 0, 1) := by decide +kernel
theorem dX12_findNearest_35 : decode cX12_findNearest 35 = .ok (.aload_n 0, 1) := by decide +kernel
theorem dX12_findNearest_36 : decode cX12_findNearest 36 = .ok (.getfield 19, 3) := by decide +kernel
theorem dX12_findNearest_39 : decode cX12_findNearest 39 = .ok (.bipush 8, 2) := by decide +kernel
theorem dX12_findNearest_41 : decode cX12_findNearest 41 = .ok (.iload_n 1, 1) := by decide +kernel
theorem dX12_findNearest_42 : decode cX12_findNearest 42 = .ok (.imul, 1) := by decide +kernel
theorem dX12_findNearest_43 : decode cX12_findNearest 43 = .ok (.aload_n 0, 1) := by decide +kernel
theorem dX12_findNearest_44 : decode cX12_findNearest 44 = .ok (.getfield 16, 3) := by decide +kernel
theorem dX12_findNearest_47 : decode cX12_findNearest 47 = .ok (.iload_n 1, 1) := by decide +kernel
theorem dX12_findNearest_48 : decode cX12_findNearest 48 = .ok (.iaload, 1) := by decide +kernel
theorem dX12_findNearest_49 : decode cX12_findNearest 49 = .ok (.aload_n 0, 1) := by decide +kernel
theorem dX12_findNearest_50 : decode cX12_findNearest 50 = .ok (.getfield 71, 3) := by decide +kernel
theorem dX12_findNearest_53 : decode cX12_findNearest 53 = .ok (.bipush 21, 2) := by decide +kernel
theorem dX12_findNearest_55 : decode cX12_findNearest 55 = .ok (.iload_n 3, 1) := by decide +kernel
theorem dX12_findNearest_56 : decode cX12_findNearest 56 = .ok (.imul, 1) := by decide +kernel
theorem dX12_findNearest_57 : decode cX12_findNearest 57 = .ok (.iconst 3, 1) := by decide +kernel
theorem dX12_findNearest_58 : decode cX12_findNearest 58 = .ok (.iadd, 1) := by decide +kernel
theorem dX12_findNearest_59 : decode cX12_findNearest 59 = .ok (.aload_n 0, 1) := by decide +kernel
theorem dX12_findNearest_60 : decode cX12_findNearest 60 = .ok (.getfield 71, 3) := by decide +kernel
theorem dX12_findNearest_63 : decode cX12_findNearest 63 = .ok (.bipush 21, 2) := by decide +kernel
theorem dX12_findNearest_65 : decode cX12_findNearest 65 = .ok (.iload_n 3, 1) := by decide +kernel
theorem dX12_findNearest_66 : decode cX12_findNearest 66 = .ok (.imul, 1) := by decide +kernel
theorem dX12_findNearest_67 : decode cX12_findNearest 67 = .ok (.iconst 1, 1) := by decide +kernel
theorem dX12_findNearest_68 : decode cX12_findNearest 68 = .ok (.iadd, 1) := by decide +kernel
theorem dX12_findNearest_69 : decode cX12_findNearest 69 = .ok (.iaload, 1) := by decide +kernel
theorem dX12_findNearest_70 : decode cX12_findNearest 70 = .ok (.invokevirtual 162, 3) := by decide +kernel
theorem dX12_findNearest_73 : decode cX12_findNearest 73 = .ok (.goto 5, 3) := by decide +kernel
theorem dX12_findNearest_76 : decode cX12_findNearest 76 = .ok (.ldc 223, 2) := by decide +kernel
theorem dX12_findNearest_78 : decode cX12_findNearest 78 = .ok (.istore 4, 2) := by decide +kernel
theorem dX12_findNearest_80 : decode cX12_findNearest 80 = .ok (.iload 4, 2) := by decide +kernel
theorem dX12_findNearest_82 : decode cX12_findNearest 82 = .ok (.ldc 223, 2) := by decide +kernel
theorem dX12_findNearest_84 : decode cX12_findNearest 84 = .ok (.if_icmp .ge 23, 3) := by decide +kernel
theorem dX12_findNearest_87 : decode cX12_findNearest 87 = .ok (.iload 4, 2) := by decide +kernel
theorem dX12_findNearest_89 : decode cX12_findNearest 89 = .ok (.aload_n 0, 1) := by decide +kernel
theorem dX12_findNearest_90 : decode cX12_findNearest 90 = .ok (.getfield 224, 3) := by decide +kernel
theorem dX12_findNearest_93 : decode cX12_findNearest 93 = .ok (.if_icmp .gt 14, 3) := by decide +kernel
theorem dX12_findNearest_96 : decode cX12_findNearest 96 = .ok (.aload_n 0, 1) := by decide +kernel
theorem dX12_findNearest_97 : decode cX12_findNearest 97 = .ok (.iload_n 3, 1) := by decide +kernel
theorem dX12_findNearest_98 : decode cX12_findNearest 98 = .ok (.putfield 220, 3) := by decide +kernel
theorem dX12_findNearest_101 : decode cX12_findNearest 101 = .ok (.aload_n 0, 1) := by decide +kernel
theorem dX12_findNearest_102 : decode cX12_findNearest 102 = .ok (.iload 4, 2) := by decide +kernel
theorem dX12_findNearest_104 : decode cX12_findNearest 104 = .ok (.putfield 224, 3) := by decide +kernel
theorem dX12_findNearest_107 : decode cX12_findNearest 107 = .ok (.iinc 3 1, 3) := by decide +kernel
theorem dX12_findNearest_110 : decode cX12_findNearest 110 = .ok (.goto (-97), 3) := by decide +kernel
theorem dX12_findNearest_113 : decode cX12_findNearest 113 = .ok (.return_, 1) := by decide +kernel
theorem dX12_reuse_0 : decode cX12_reuse 0 = .ok (.aload_n 0, 1) := by decide +kernel
theorem dX12_reuse_1 : decode cX12_reuse 1 = .ok (.iload_n 1, 1) := by decide +kernel
theorem dX12_reuse_2 : decode cX12_reuse 2 = .ok (.iload_n 2, 1) := by decide +kernel
theorem dX12_reuse_3 : decode cX12_reuse 3 = .ok (.iload_n 3, 1) := by decide +kernel
theorem dX12_reuse_4 : decode cX12_reuse 4 = .ok (.invokevirtual 193, 3) := by decide +kernel
theorem dX12_reuse_7 : decode cX12_reuse 7 = .ok (.ifCond .ne 5, 3) := by decide +kernel
theorem dX12_reuse_10 : decode cX12_reuse 10 = .ok (.iconst (-1), 1) := by decide +kernel
theorem dX12_reuse_11 : decode cX12_reuse 11 = .ok (.ireturn, 1) := by decide +kernel
theorem dX12_reuse_12 : decode cX12_reuse 12 = .ok (.aload_n 0, 1) := by decide +kernel
theorem dX12_reuse_13 : decode cX12_reuse 13 = .ok (.getfield 13, 3) := by decide +kernel
theorem dX12_reuse_16 : decode cX12_reuse 16 = .ok (.iload_n 1, 1) := by decide +kernel
theorem dX12_reuse_17 : decode cX12_reuse 17 = .ok (.iaload, 1) := by decide +kernel
theorem dX12_reuse_18 : decode cX12_reuse 18 = .ok (.iconst 1, 1) := by decide +kernel
theorem dX12_reuse_19 : decode cX12_reuse 19 = .ok (.if_icmp .eq 12, 3) := by decide +kernel
theorem dX12_reuse_22 : decode cX12_reuse 22 = .ok (.aload_n 0, 1) := by decide +kernel
theorem dX12_reuse_23 : decode cX12_reuse 23 = .ok (.iload_n 3, 1) := by decide +kernel
theorem dX12_reuse_24 : decode cX12_reuse 24 = .ok (.iload_n 2, 1) := by decide +kernel
theorem dX12_reuse_25 : decode cX12_reuse 25 = .ok (.invokevirtual 196, 3) := by decide +kernel
theorem dX12_reuse_28 : decode cX12_reuse 28 = .ok (.ifCond .ne 6, 3) := by decide +kernel
theorem dX12_reuse_31 : decode cX12_reuse 31 = .ok (.bipush (-3), 2) := by decide +kernel
theorem dX12_reuse_33 : decode cX12_reuse 33 = .ok (.ireturn, 1) := by decide +kernel
theorem dX12_reuse_34 : decode cX12_reuse 34 = .ok (.aload_n 0, 1) := by decide +kernel
theorem dX12_reuse_35 : decode cX12_reuse 35 = .ok (.iload_n 1, 1) := by decide +kernel
theorem dX12_reuse_36 : decode cX12_reuse 36 = .ok (.iload_n 2, 1) := by decide +kernel
theorem dX12_reuse_37 : decode cX12_reuse 37 = .ok (.invokevirtual 227, 3) := by decide +kernel
theorem dX12_reuse_40 : decode cX12_reuse 40 = .ok (.aload_n 0, 1) := by decide +kernel
theorem dX12_reuse_41 : decode cX12_reuse 41 = .ok (.getfield 220, 3) := by decide +kernel
theorem dX12_reuse_44 : decode cX12_reuse 44 = .ok (.ifCond .ge 6, 3) := by decide +kernel
theorem dX12_reuse_47 : decode cX12_reuse 47 = .ok (.bipush (-5), 2) := by decide +kernel
theorem dX12_reuse_49 : decode cX12_reuse 49 = .ok (.ireturn, 1) := by decide +kernel
theorem dX12_reuse_50 : decode cX12_reuse 50 = .ok (.iconst 3, 1) := by decide +kernel
theorem dX12_reuse_51 : decode cX12_reuse 51 = .ok (.iload_n 1, 1) := by decide +kernel
theorem dX12_reuse_52 : decode cX12_reuse 52 = .ok (.imul, 1) := by decide +kernel
theorem dX12_reuse_53 : decode cX12_reuse 53 = .ok (.iload_n 2, 1) := by decide +kernel
theorem dX12_reuse_54 : decode cX12_reuse 54 = .ok (.iadd, 1) := by decide +kernel
theorem dX12_reuse_55 : decode cX12_reuse 55 = .ok (.istore 4, 2) := by decide +kernel
theorem dX12_reuse_57 : decode cX12_reuse 57 = .ok (.aload_n 0, 1) := by decide +kernel
theorem dX12_reuse_58 : decode cX12_reuse 58 = .ok (.getfield 37, 3) := by decide +kernel
theorem dX12_reuse_61 : decode cX12_reuse 61 = .ok (.iload 4, 2) := by decide +kernel
theorem dX12_reuse_63 : decode cX12_reuse 63 = .ok (.iconst 1, 1) := by decide +kernel
theorem dX12_reuse_64 : decode cX12_reuse 64 = .ok (.iastore, 1) := by decide +kernel
theorem dX12_reuse_65 : decode cX12_reuse 65 = .ok (.aload_n 0, 1) := by decide +kernel
theorem dX12_reuse_66 : decode cX12_reuse 66 = .ok (.getfield 40, 3) := by decide +kernel
theorem dX12_reuse_69 : decode cX12_reuse 69 = .ok (.iload 4, 2) := by decide +kernel
theorem dX12_reuse_71 : decode cX12_reuse 71 = .ok (.iload_n 3, 1) := by decide +kernel
theorem dX12_reuse_72 : decode cX12_reuse 72 = .ok (.iastore, 1) := by decide +kernel
theorem dX12_reuse_73 : decode cX12_reuse 73 = .ok (.aload_n 0, 1) := by decide +kernel
theorem dX12_reuse_74 : decode cX12_reuse 74 = .ok (.getfield 43, 3) := by decide +kernel
theorem dX12_reuse_77 : decode cX12_reuse 77 = .ok (.iload 4, 2) := by decide +kernel
theorem dX12_reuse_79 : decode cX12_reuse 79 = .ok (.aload_n 0, 1) := by decide +kernel
theorem dX12_reuse_80 : decode cX12_reuse 80 = .ok (.getfield 71, 3) := by decide +kernel
theorem dX12_reuse_83 : decode cX12_reuse 83 = .ok (.bipush 21, 2) := by decide +kernel
theorem dX12_reuse_85 : decode cX12_reuse 85 = .ok (.aload_n 0, 1) := by decide +kernel
theorem dX12_reuse_86 : decode cX12_reuse 86 = .ok (.getfield 220, 3) := by decide +kernel
theorem dX12_reuse_89 : decode cX12_reuse 89 = .ok (.imul, 1) := by decide +kernel
theorem dX12_reuse_90 : decode cX12_reuse 90 = .ok (.iconst 2, 1) := by decide +kernel
theorem dX12_reuse_91 : decode cX12_reuse 91 = .ok (.iadd, 1) := by decide +kernel
theorem dX12_reuse_92 : decode cX12_reuse 92 = .ok (.iaload, 1) := by decide +kernel
theorem dX12_reuse_93 : decode cX12_reuse 93 = .ok (.iastore, 1) := by decide +kernel
theorem dX12_reuse_94 : decode cX12_reuse 94 = .ok (.iconst 0, 1) := by decide +kernel
theorem dX12_reuse_95 : decode cX12_reuse 95 = .ok (.istore 5, 2) := by decide +kernel
theorem dX12_reuse_97 : decode cX12_reuse 97 = .ok (.iload 5, 2) := by decide +kernel
theorem dX12_reuse_99 : decode cX12_reuse 99 = .ok (.aload_n 0, 1) := by decide +kernel
theorem dX12_reuse_100 : decode cX12_reuse 100 = .ok (.getfield 43, 3) := by decide +kernel
theorem dX12_reuse_103 : decode cX12_reuse 103 = .ok (.iload 4, 2) := by decide +kernel
theorem dX12_reuse_105 : decode cX12_reuse 105 = .ok (.iaload, 1) := by decide +kernel
theorem dX12_reuse_106 : decode cX12_reuse 106 = .ok (.if_icmp .ge 40, 3) := by decide +kernel
theorem dX12_reuse_109 : decode cX12_reuse 109 = .ok (.aload_n 0, 1) := by decide +kernel
theorem dX12_reuse_110 : decode cX12_reuse 110 = .ok (.getfield 46, 3) := by decide +kernel
theorem dX12_reuse_113 : decode cX12_reuse 113 = .ok (.bipush 10, 2) := by decide +kernel
theorem dX12_reuse_115 : decode cX12_reuse 115 = .ok (.iload 4, 2) := by decide +kernel
theorem dX12_reuse_117 : decode cX12_reuse 117 = .ok (.imul, 1) := by decide +kernel
theorem dX12_reuse_118 : decode cX12_reuse 118 = .ok (.iload 5, 2) := by decide +kernel
theorem dX12_reuse_120 : decode cX12_reuse 120 = .ok (.iadd, 1) := by decide +kernel
theorem dX12_reuse_121 : decode cX12_reuse 121 = .ok (.aload_n 0, 1) := by decide +kernel
theorem dX12_reuse_122 : decode cX12_reuse 122 = .ok (.getfield 71, 3) := by decide +kernel
theorem dX12_reuse_125 : decode cX12_reuse 125 = .ok (.bipush 21, 2) := by decide +kernel
theorem dX12_reuse_127 : decode cX12_reuse 127 = .ok (.aload_n 0, 1) := by decide +kernel
theorem dX12_reuse_128 : decode cX12_reuse 128 = .ok (.getfield 220, 3) := by decide +kernel
theorem dX12_reuse_131 : decode cX12_reuse 131 = .ok (.imul, 1) := by decide +kernel
theorem dX12_reuse_132 : decode cX12_reuse 132 = .ok (.bipush 11, 2) := by decide +kernel
theorem dX12_reuse_134 : decode cX12_reuse 134 = .ok (.iadd, 1) := by decide +kernel
theorem dX12_reuse_135 : decode cX12_reuse 135 = .ok (.iload 5, 2) := by decide +kernel
theorem dX12_reuse_137 : decode cX12_reuse 137 = .ok (.iadd, 1) := by decide +kernel
theorem dX12_reuse_138 : decode cX12_reuse 138 = .ok (.iaload, 1) := by decide +kernel
theorem dX12_reuse_139 : decode cX12_reuse 139 = .ok (.iastore, 1) := by decide +kernel
theorem dX12_reuse_140 : decode cX12_reuse 140 = .ok (.iinc 5 1, 3) := by decide +kernel
theorem dX12_reuse_143 : decode cX12_reuse 143 = .ok (.goto (-46), 3) := by decide +kernel
theorem dX12_reuse_146 : decode cX12_reuse 146 = .ok (.aload_n 0, 1) := by decide +kernel
theorem dX12_reuse_147 : decode cX12_reuse 147 = .ok (.getfield 43, 3) := by decide +kernel
theorem dX12_reuse_150 : decode cX12_reuse 150 = .ok (.iload 4, 2) := by decide +kernel
theorem dX12_reuse_152 : decode cX12_reuse 152 = .ok (.iaload, 1) := by decide +kernel
theorem dX12_reuse_153 : decode cX12_reuse 153 = .ok (.ireturn, 1) := by decide +kernel
theorem dX12_text_0 : decode cX12_text 0 = .ok (.aload_n 0, 1) := by decide +kernel
theorem dX12_text_1 : decode cX12_text 1 = .ok (.iload_n 1, 1) := by decide +kernel
theorem dX12_text_2 : decode cX12_text 2 = .ok (.invokevirtual 178, 3) := by decide +kernel
theorem dX12_text_5 : decode cX12_text 5 = .ok (.ifCond .eq 10, 3) := by decide +kernel
theorem dX12_text_8 : decode cX12_text 8 = .ok (.iload_n 2, 1) := by decide +kernel
theorem dX12_text_9 : decode cX12_text 9 = .ok (.invokestatic 187, 3) := by decide +kernel
theorem dX12_text_12 : decode cX12_text 12 = .ok (.ifCond .ne 5, 3) := by decide +kernel
theorem dX12_text_15 : decode cX12_text 15 = .ok (.iconst (-1), 1) := by decide +kernel
theorem dX12_text_16 : decode cX12_text 16 = .ok (.ireturn, 1) := by decide +kernel
theorem dX12_text_17 : decode cX12_text 17 = .ok (.iconst 3, 1) := by decide +kernel
theorem dX12_text_18 : decode cX12_text 18 = .ok (.iload_n 1, 1) := by decide +kernel
theorem dX12_text_19 : decode cX12_text 19 = .ok (.imul, 1) := by decide +kernel
theorem dX12_text_20 : decode cX12_text 20 = .ok (.iload_n 2, 1) := by decide +kernel
theorem dX12_text_21 : decode cX12_text 21 = .ok (.iadd, 1) := by decide +kernel
theorem dX12_text_22 : decode cX12_text 22 = .ok (.istore 4, 2) := by decide +kernel
theorem dX12_text_24 : decode cX12_text 24 = .ok (.aload_n 0, 1) := by decide +kernel
theorem dX12_text_25 : decode cX12_text 25 = .ok (.getfield 37, 3) := by decide +kernel
theorem dX12_text_28 : decode cX12_text 28 = .ok (.iload 4, 2) := by decide +kernel
theorem dX12_text_30 : decode cX12_text 30 = .ok (.iaload, 1) := by decide +kernel
theorem dX12_text_31 : decode cX12_text 31 = .ok (.ifCond .le 7, 3) := by decide +kernel
theorem dX12_text_34 : decode cX12_text 34 = .ok (.iconst 1, 1) := by decide +kernel
theorem dX12_text_35 : decode cX12_text 35 = .ok (.goto 4, 3) := by decide +kernel
theorem dX12_text_38 : decode cX12_text 38 = .ok (.iconst 0, 1) := by decide +kernel
theorem dX12_text_39 : decode cX12_text 39 = .ok (.istore 5, 2) := by decide +kernel
theorem dX12_text_41 : decode cX12_text 41 = .ok (.iload_n 3, 1) := by decide +kernel
theorem dX12_text_42 : decode cX12_text 42 = .ok (.ifCond .ne 11, 3) := by decide +kernel
theorem dX12_text_45 : decode cX12_text 45 = .ok (.aload_n 0, 1) := by decide +kernel
theorem dX12_text_46 : decode cX12_text 46 = .ok (.getfield 37, 3) := by decide +kernel
theorem dX12_text_49 : decode cX12_text 49 = .ok (.iload 4, 2) := by decide +kernel
theorem dX12_text_51 : decode cX12_text 51 = .ok (.iaload, 1) := by decide +kernel
theorem dX12_text_52 : decode cX12_text 52 = .ok (.ireturn, 1) := by decide +kernel
theorem dX12_text_53 : decode cX12_text 53 = .ok (.iload_n 3, 1) := by decide +kernel
theorem dX12_text_54 : decode cX12_text 54 = .ok (.iconst 1, 1) := by decide +kernel
theorem dX12_text_55 : decode cX12_text 55 = .ok (.if_icmp .ne 21, 3) := by decide +kernel
theorem dX12_text_58 : decode cX12_text 58 = .ok (.iload 5, 2) := by decide +kernel
theorem dX12_text_60 : decode cX12_text 60 = .ok (.ifCond .eq 13, 3) := by decide +kernel
theorem dX12_text_63 : decode cX12_text 63 = .ok (.aload_n 0, 1) := by decide +kernel
theorem dX12_text_64 : decode cX12_text 64 = .ok (.getfield 40, 3) := by decide +kernel
theorem dX12_text_67 : decode cX12_text 67 = .ok (.iload 4, 2) := by decide +kernel
theorem dX12_text_69 : decode cX12_text 69 = .ok (.iaload, 1) := by decide +kernel
theorem dX12_text_70 : decode cX12_text 70 = .ok (.goto 5, 3) := by decide +kernel
theorem dX12_text_73 : decode cX12_text 73 = .ok (.bipush (-5), 2) := by decide +kernel
theorem dX12_text_75 : decode cX12_text 75 = .ok (.ireturn, 1) := by decide +kernel
theorem dX12_text_76 : decode cX12_text 76 = .ok (.iload_n 3, 1) := by decide +kernel
theorem dX12_text_77 : decode cX12_text 77 = .ok (.iconst 2, 1) := by decide +kernel
theorem dX12_text_78 : decode cX12_text 78 = .ok (.if_icmp .ne 20, 3) := by decide +kernel
theorem dX12_text_81 : decode cX12_text 81 = .ok (.iload 5, 2) := by decide +kernel
theorem dX12_text_83 : decode cX12_text 83 = .ok (.ifCond .eq 13, 3) := by decide +kernel
theorem dX12_text_86 : decode cX12_text 86 = .ok (.aload_n 0, 1) := by decide +kernel
theorem dX12_text_87 : decode cX12_text 87 = .ok (.getfield 43, 3) := by decide +kernel
theorem dX12_text_90 : decode cX12_text 90 = .ok (.iload 4, 2) := by decide +kernel
theorem dX12_text_92 : decode cX12_text 92 = .ok (.iaload, 1) := by decide +kernel
theorem dX12_text_93 : decode cX12_text 93 = .ok (.goto 4, 3) := by decide +kernel
theorem dX12_text_96 : decode cX12_text 96 = .ok (.iconst 0, 1) := by decide +kernel
theorem dX12_text_97 : decode cX12_text 97 = .ok (.ireturn, 1) := by decide +kernel
theorem dX12_text_98 : decode cX12_text 98 = .ok (.iload 5, 2) := by decide +kernel
theorem dX12_text_100 : decode cX12_text 100 = .ok (.ifCond .eq 40, 3) := by decide +kernel
theorem dX12_text_103 : decode cX12_text 103 = .ok (.iload_n 3, 1) := by decide +kernel
theorem dX12_text_104 : decode cX12_text 104 = .ok (.bipush 10, 2) := by decide +kernel
theorem dX12_text_106 : decode cX12_text 106 = .ok (.bipush 9, 2) := by decide +kernel
theorem dX12_text_108 : decode cX12_text 108 = .ok (.aload_n 0, 1) := by decide +kernel
theorem dX12_text_109 : decode cX12_text 109 = .ok (.getfield 43, 3) := by decide +kernel
theorem dX12_text_112 : decode cX12_text 112 = .ok (.iload 4, 2) := by decide +kernel
theorem dX12_text_114 : decode cX12_text 114 = .ok (.iaload, 1) := by decide +kernel
theorem dX12_text_115 : decode cX12_text 115 = .ok (.iadd, 1) := by decide +kernel
theorem dX12_text_116 : decode cX12_text 116 = .ok (.invokestatic 128, 3) := by decide +kernel
theorem dX12_text_119 : decode cX12_text 119 = .ok (.ifCond .eq 21, 3) := by decide +kernel
theorem dX12_text_122 : decode cX12_text 122 = .ok (.aload_n 0, 1) := by decide +kernel
theorem dX12_text_123 : decode cX12_text 123 = .ok (.getfield 46, 3) := by decide +kernel
theorem dX12_text_126 : decode cX12_text 126 = .ok (.bipush 10, 2) := by decide +kernel
theorem dX12_text_128 : decode cX12_text 128 = .ok (.iload 4, 2) := by decide +kernel
theorem dX12_text_130 : decode cX12_text 130 = .ok (.imul, 1) := by decide +kernel
theorem dX12_text_131 : decode cX12_text 131 = .ok (.iload_n 3, 1) := by decide +kernel
theorem dX12_text_132 : decode cX12_text 132 = .ok (.iadd, 1) := by decide +kernel
theorem dX12_text_133 : decode cX12_text 133 = .ok (.bipush 10, 2) := by decide +kernel
theorem dX12_text_135 : decode cX12_text 135 = .ok (.isub, 1) := by decide +kernel
theorem dX12_text_136 : decode cX12_text 136 = .ok (.iaload, 1) := by decide +kernel
theorem dX12_text_137 : decode cX12_text 137 = .ok (.goto 4, 3) := by decide +kernel
theorem dX12_text_140 : decode cX12_text 140 = .ok (.iconst (-1), 1) := by decide +kernel
theorem dX12_text_141 : decode cX12_text 141 = .ok (.ireturn, 1) := by decide +kernel
theorem dX12_fault_0 : decode cX12_fault 0 = .ok (.aload_n 0, 1) := by decide +kernel
theorem dX12_fault_1 : decode cX12_fault 1 = .ok (.iload_n 1, 1) := by decide +kernel
theorem dX12_fault_2 : decode cX12_fault 2 = .ok (.invokevirtual 178, 3) := by decide +kernel
theorem dX12_fault_5 : decode cX12_fault 5 = .ok (.ifCond .eq 10, 3) := by decide +kernel
theorem dX12_fault_8 : decode cX12_fault 8 = .ok (.iload_n 2, 1) := by decide +kernel
theorem dX12_fault_9 : decode cX12_fault 9 = .ok (.invokestatic 187, 3) := by decide +kernel
theorem dX12_fault_12 : decode cX12_fault 12 = .ok (.ifCond .ne 5, 3) := by decide +kernel
theorem dX12_fault_15 : decode cX12_fault 15 = .ok (.iconst (-1), 1) := by decide +kernel
theorem dX12_fault_16 : decode cX12_fault 16 = .ok (.ireturn, 1) := by decide +kernel
theorem dX12_fault_17 : decode cX12_fault 17 = .ok (.aload_n 0, 1) := by decide +kernel
theorem dX12_fault_18 : decode cX12_fault 18 = .ok (.getfield 37, 3) := by decide +kernel
theorem dX12_fault_21 : decode cX12_fault 21 = .ok (.iconst 3, 1) := by decide +kernel
theorem dX12_fault_22 : decode cX12_fault 22 = .ok (.iload_n 1, 1) := by decide +kernel
theorem dX12_fault_23 : decode cX12_fault 23 = .ok (.imul, 1) := by decide +kernel
theorem dX12_fault_24 : decode cX12_fault 24 = .ok (.iload_n 2, 1) := by decide +kernel
theorem dX12_fault_25 : decode cX12_fault 25 = .ok (.iadd, 1) := by decide +kernel
theorem dX12_fault_26 : decode cX12_fault 26 = .ok (.iaload, 1) := by decide +kernel
theorem dX12_fault_27 : decode cX12_fault 27 = .ok (.ifCond .ne 8, 3) := by decide +kernel
theorem dX12_fault_30 : decode cX12_fault 30 = .ok (.bipush (-5), 2) := by decide +kernel
theorem dX12_fault_32 : decode cX12_fault 32 = .ok (.goto 9, 3) := by decide +kernel
theorem dX12_fault_35 : decode cX12_fault 35 = .ok (.aload_n 0, 1) := by decide +kernel
theorem dX12_fault_36 : decode cX12_fault 36 = .ok (.iload_n 1, 1) := by decide +kernel
theorem dX12_fault_37 : decode cX12_fault 37 = .ok (.iload_n 2, 1) := by decide +kernel
theorem dX12_fault_38 : decode cX12_fault 38 = .ok (.invokevirtual 213, 3) := by decide +kernel
theorem dX12_fault_41 : decode cX12_fault 41 = .ok (.ireturn, 1) := by decide +kernel
theorem dX12_limit_0 : decode cX12_limit 0 = .ok (.iload_n 1, 1) := by decide +kernel
theorem dX12_limit_1 : decode cX12_limit 1 = .ok (.iconst 1, 1) := by decide +kernel
theorem dX12_limit_2 : decode cX12_limit 2 = .ok (.bipush 10, 2) := by decide +kernel
theorem dX12_limit_4 : decode cX12_limit 4 = .ok (.invokestatic 128, 3) := by decide +kernel
theorem dX12_limit_7 : decode cX12_limit 7 = .ok (.ifCond .ne 5, 3) := by decide +kernel
theorem dX12_limit_10 : decode cX12_limit 10 = .ok (.iconst (-1), 1) := by decide +kernel
theorem dX12_limit_11 : decode cX12_limit 11 = .ok (.ireturn, 1) := by decide +kernel
theorem dX12_limit_12 : decode cX12_limit 12 = .ok (.aload_n 0, 1) := by decide +kernel
theorem dX12_limit_13 : decode cX12_limit 13 = .ok (.getfield 67, 3) := by decide +kernel
theorem dX12_limit_16 : decode cX12_limit 16 = .ok (.istore_n 2, 1) := by decide +kernel
theorem dX12_limit_17 : decode cX12_limit 17 = .ok (.aload_n 0, 1) := by decide +kernel
theorem dX12_limit_18 : decode cX12_limit 18 = .ok (.iload_n 1, 1) := by decide +kernel
theorem dX12_limit_19 : decode cX12_limit 19 = .ok (.putfield 67, 3) := by decide +kernel
theorem dX12_limit_22 : decode cX12_limit 22 = .ok (.iload_n 2, 1) := by decide +kernel
theorem dX12_limit_23 : decode cX12_limit 23 = .ok (.ireturn, 1) := by decide +kernel
theorem dX12_nearest_0 : decode cX12_nearest 0 = .ok (.aload_n 0, 1) := by decide +kernel
theorem dX12_nearest_1 : decode cX12_nearest 1 = .ok (.iload_n 1, 1) := by decide +kernel
theorem dX12_nearest_2 : decode cX12_nearest 2 = .ok (.invokevirtual 178, 3) := by decide +kernel
theorem dX12_nearest_5 : decode cX12_nearest 5 = .ok (.ifCond .eq 19, 3) := by decide +kernel
theorem dX12_nearest_8 : decode cX12_nearest 8 = .ok (.iload_n 2, 1) := by decide +kernel
theorem dX12_nearest_9 : decode cX12_nearest 9 = .ok (.invokestatic 187, 3) := by decide +kernel
theorem dX12_nearest_12 : decode cX12_nearest 12 = .ok (.ifCond .eq 12, 3) := by decide +kernel
theorem dX12_nearest_15 : decode cX12_nearest 15 = .ok (.iload_n 3, 1) := by decide +kernel
theorem dX12_nearest_16 : decode cX12_nearest 16 = .ok (.iconst 0, 1) := by decide +kernel
theorem dX12_nearest_17 : decode cX12_nearest 17 = .ok (.iconst 2, 1) := by decide +kernel
theorem dX12_nearest_18 : decode cX12_nearest 18 = .ok (.invokestatic 128, 3) := by decide +kernel
theorem dX12_nearest_21 : decode cX12_nearest 21 = .ok (.ifCond .ne 5, 3) := by decide +kernel
theorem dX12_nearest_24 : decode cX12_nearest 24 = .ok (.iconst (-1), 1) := by decide +kernel
theorem dX12_nearest_25 : decode cX12_nearest 25 = .ok (.ireturn, 1) := by decide +kernel
theorem dX12_nearest_26 : decode cX12_nearest 26 = .ok (.aload_n 0, 1) := by decide +kernel
theorem dX12_nearest_27 : decode cX12_nearest 27 = .ok (.iload_n 1, 1) := by decide +kernel
theorem dX12_nearest_28 : decode cX12_nearest 28 = .ok (.iload_n 2, 1) := by decide +kernel
theorem dX12_nearest_29 : decode cX12_nearest 29 = .ok (.invokevirtual 227, 3) := by decide +kernel
theorem dX12_nearest_32 : decode cX12_nearest 32 = .ok (.aload_n 0, 1) := by decide +kernel
theorem dX12_nearest_33 : decode cX12_nearest 33 = .ok (.getfield 220, 3) := by decide +kernel
theorem dX12_nearest_36 : decode cX12_nearest 36 = .ok (.ifCond .ge 6, 3) := by decide +kernel
theorem dX12_nearest_39 : decode cX12_nearest 39 = .ok (.bipush (-5), 2) := by decide +kernel
theorem dX12_nearest_41 : decode cX12_nearest 41 = .ok (.ireturn, 1) := by decide +kernel
theorem dX12_nearest_42 : decode cX12_nearest 42 = .ok (.iload_n 3, 1) := by decide +kernel
theorem dX12_nearest_43 : decode cX12_nearest 43 = .ok (.ifCond .ne 10, 3) := by decide +kernel
theorem dX12_nearest_46 : decode cX12_nearest 46 = .ok (.aload_n 0, 1) := by decide +kernel
theorem dX12_nearest_47 : decode cX12_nearest 47 = .ok (.getfield 220, 3) := by decide +kernel
theorem dX12_nearest_50 : decode cX12_nearest 50 = .ok (.goto 29, 3) := by decide +kernel
theorem dX12_nearest_53 : decode cX12_nearest 53 = .ok (.iload_n 3, 1) := by decide +kernel
theorem dX12_nearest_54 : decode cX12_nearest 54 = .ok (.iconst 1, 1) := by decide +kernel
theorem dX12_nearest_55 : decode cX12_nearest 55 = .ok (.if_icmp .ne 10, 3) := by decide +kernel
theorem dX12_nearest_58 : decode cX12_nearest 58 = .ok (.aload_n 0, 1) := by decide +kernel
theorem dX12_nearest_59 : decode cX12_nearest 59 = .ok (.getfield 224, 3) := by decide +kernel
theorem dX12_nearest_62 : decode cX12_nearest 62 = .ok (.goto 17, 3) := by decide +kernel
theorem dX12_nearest_65 : decode cX12_nearest 65 = .ok (.aload_n 0, 1) := by decide +kernel
theorem dX12_nearest_66 : decode cX12_nearest 66 = .ok (.getfield 71, 3) := by decide +kernel
theorem dX12_nearest_69 : decode cX12_nearest 69 = .ok (.bipush 21, 2) := by decide +kernel
theorem dX12_nearest_71 : decode cX12_nearest 71 = .ok (.aload_n 0, 1) := by decide +kernel
theorem dX12_nearest_72 : decode cX12_nearest 72 = .ok (.getfield 220, 3) := by decide +kernel
theorem dX12_nearest_75 : decode cX12_nearest 75 = .ok (.imul, 1) := by decide +kernel
theorem dX12_nearest_76 : decode cX12_nearest 76 = .ok (.iconst 2, 1) := by decide +kernel
theorem dX12_nearest_77 : decode cX12_nearest 77 = .ok (.iadd, 1) := by decide +kernel
theorem dX12_nearest_78 : decode cX12_nearest 78 = .ok (.iaload, 1) := by decide +kernel
theorem dX12_nearest_79 : decode cX12_nearest 79 = .ok (.ireturn, 1) := by decide +kernel
theorem dX12_memory_0 : decode cX12_memory 0 = .ok (.iload_n 1, 1) := by decide +kernel
theorem dX12_memory_1 : decode cX12_memory 1 = .ok (.iconst 0, 1) := by decide +kernel
theorem dX12_memory_2 : decode cX12_memory 2 = .ok (.aload_n 0, 1) := by decide +kernel
theorem dX12_memory_3 : decode cX12_memory 3 = .ok (.getfield 207, 3) := by decide +kernel
theorem dX12_memory_6 : decode cX12_memory 6 = .ok (.iconst 1, 1) := by decide +kernel
theorem dX12_memory_7 : decode cX12_memory 7 = .ok (.isub, 1) := by decide +kernel
theorem dX12_memory_8 : decode cX12_memory 8 = .ok (.invokestatic 128, 3) := by decide +kernel
theorem dX12_memory_11 : decode cX12_memory 11 = .ok (.ifCond .ne 5, 3) := by decide +kernel
theorem dX12_memory_14 : decode cX12_memory 14 = .ok (.iconst (-1), 1) := by decide +kernel
theorem dX12_memory_15 : decode cX12_memory 15 = .ok (.ireturn, 1) := by decide +kernel
theorem dX12_memory_16 : decode cX12_memory 16 = .ok (.bipush 21, 2) := by decide +kernel
theorem dX12_memory_18 : decode cX12_memory 18 = .ok (.iload_n 1, 1) := by decide +kernel
theorem dX12_memory_19 : decode cX12_memory 19 = .ok (.imul, 1) := by decide +kernel
theorem dX12_memory_20 : decode cX12_memory 20 = .ok (.istore_n 3, 1) := by decide +kernel
theorem dX12_memory_21 : decode cX12_memory 21 = .ok (.iload_n 2, 1) := by decide +kernel
theorem dX12_memory_22 : decode cX12_memory 22 = .ok (.iconst 0, 1) := by decide +kernel
theorem dX12_memory_23 : decode cX12_memory 23 = .ok (.iconst 2, 1) := by decide +kernel
theorem dX12_memory_24 : decode cX12_memory 24 = .ok (.invokestatic 128, 3) := by decide +kernel
theorem dX12_memory_27 : decode cX12_memory 27 = .ok (.ifCond .eq 12, 3) := by decide +kernel
theorem dX12_memory_30 : decode cX12_memory 30 = .ok (.aload_n 0, 1) := by decide +kernel
theorem dX12_memory_31 : decode cX12_memory 31 = .ok (.getfield 71, 3) := by decide +kernel
theorem dX12_memory_34 : decode cX12_memory 34 = .ok (.iload_n 3, 1) := by decide +kernel
theorem dX12_memory_35 : decode cX12_memory 35 = .ok (.iload_n 2, 1) := by decide +kernel
theorem dX12_memory_36 : decode cX12_memory 36 = .ok (.iadd, 1) := by decide +kernel
theorem dX12_memory_37 : decode cX12_memory 37 = .ok (.iaload, 1) := by decide +kernel
theorem dX12_memory_38 : decode cX12_memory 38 = .ok (.ireturn, 1) := by decide +kernel
theorem dX12_memory_39 : decode cX12_memory 39 = .ok (.iload_n 2, 1) := by decide +kernel
theorem dX12_memory_40 : decode cX12_memory 40 = .ok (.bipush 10, 2) := by decide +kernel
theorem dX12_memory_42 : decode cX12_memory 42 = .ok (.bipush 9, 2) := by decide +kernel
theorem dX12_memory_44 : decode cX12_memory 44 = .ok (.aload_n 0, 1) := by decide +kernel
theorem dX12_memory_45 : decode cX12_memory 45 = .ok (.getfield 71, 3) := by decide +kernel
theorem dX12_memory_48 : decode cX12_memory 48 = .ok (.iload_n 3, 1) := by decide +kernel
theorem dX12_memory_49 : decode cX12_memory 49 = .ok (.iconst 1, 1) := by decide +kernel
theorem dX12_memory_50 : decode cX12_memory 50 = .ok (.iadd, 1) := by decide +kernel
theorem dX12_memory_51 : decode cX12_memory 51 = .ok (.iaload, 1) := by decide +kernel
theorem dX12_memory_52 : decode cX12_memory 52 = .ok (.iadd, 1) := by decide +kernel
theorem dX12_memory_53 : decode cX12_memory 53 = .ok (.invokestatic 128, 3) := by decide +kernel
theorem dX12_memory_56 : decode cX12_memory 56 = .ok (.ifCond .eq 17, 3) := by decide +kernel
theorem dX12_memory_59 : decode cX12_memory 59 = .ok (.aload_n 0, 1) := by decide +kernel
theorem dX12_memory_60 : decode cX12_memory 60 = .ok (.getfield 71, 3) := by decide +kernel
theorem dX12_memory_63 : decode cX12_memory 63 = .ok (.iload_n 3, 1) := by decide +kernel
theorem dX12_memory_64 : decode cX12_memory 64 = .ok (.iconst 3, 1) := by decide +kernel
theorem dX12_memory_65 : decode cX12_memory 65 = .ok (.iadd, 1) := by decide +kernel
theorem dX12_memory_66 : decode cX12_memory 66 = .ok (.iload_n 2, 1) := by decide +kernel
theorem dX12_memory_67 : decode cX12_memory 67 = .ok (.iadd, 1) := by decide +kernel
theorem dX12_memory_68 : decode cX12_memory 68 = .ok (.bipush 10, 2) := by decide +kernel
theorem dX12_memory_70 : decode cX12_memory 70 = .ok (.isub, 1) := by decide +kernel
theorem dX12_memory_71 : decode cX12_memory 71 = .ok (.iaload, 1) := by decide +kernel
theorem dX12_memory_72 : decode cX12_memory 72 = .ok (.ireturn, 1) := by decide +kernel
theorem dX12_memory_73 : decode cX12_memory 73 = .ok (.iload_n 2, 1) := by decide +kernel
theorem dX12_memory_74 : decode cX12_memory 74 = .ok (.bipush 20, 2) := by decide +kernel
theorem dX12_memory_76 : decode cX12_memory 76 = .ok (.bipush 19, 2) := by decide +kernel
theorem dX12_memory_78 : decode cX12_memory 78 = .ok (.aload_n 0, 1) := by decide +kernel
theorem dX12_memory_79 : decode cX12_memory 79 = .ok (.getfield 71, 3) := by decide +kernel
theorem dX12_memory_82 : decode cX12_memory 82 = .ok (.iload_n 3, 1) := by decide +kernel
theorem dX12_memory_83 : decode cX12_memory 83 = .ok (.iconst 2, 1) := by decide +kernel
theorem dX12_memory_84 : decode cX12_memory 84 = .ok (.iadd, 1) := by decide +kernel
theorem dX12_memory_85 : decode cX12_memory 85 = .ok (.iaload, 1) := by decide +kernel
theorem dX12_memory_86 : decode cX12_memory 86 = .ok (.iadd, 1) := by decide +kernel
theorem dX12_memory_87 : decode cX12_memory 87 = .ok (.invokestatic 128, 3) := by decide +kernel
theorem dX12_memory_90 : decode cX12_memory 90 = .ok (.ifCond .eq 20, 3) := by decide +kernel
theorem dX12_memory_93 : decode cX12_memory 93 = .ok (.aload_n 0, 1) := by decide +kernel
theorem dX12_memory_94 : decode cX12_memory 94 = .ok (.getfield 71, 3) := by decide +kernel
theorem dX12_memory_97 : decode cX12_memory 97 = .ok (.iload_n 3, 1) := by decide +kernel
theorem dX12_memory_98 : decode cX12_memory 98 = .ok (.bipush 11, 2) := by decide +kernel
theorem dX12_memory_100 : decode cX12_memory 100 = .ok (.iadd, 1) := by decide +kernel
theorem dX12_memory_101 : decode cX12_memory 101 = .ok (.iload_n 2, 1) := by decide +kernel
theorem dX12_memory_102 : decode cX12_memory 102 = .ok (.iadd, 1) := by decide +kernel
theorem dX12_memory_103 : decode cX12_memory 103 = .ok (.bipush 20, 2) := by decide +kernel
theorem dX12_memory_105 : decode cX12_memory 105 = .ok (.isub, 1) := by decide +kernel
theorem dX12_memory_106 : decode cX12_memory 106 = .ok (.iaload, 1) := by decide +kernel
theorem dX12_memory_107 : decode cX12_memory 107 = .ok (.goto 4, 3) := by decide +kernel
theorem dX12_memory_110 : decode cX12_memory 110 = .ok (.iconst (-1), 1) := by decide +kernel
theorem dX12_memory_111 : decode cX12_memory 111 = .ok (.ireturn, 1) := by decide +kernel
theorem dX12_effortOf_0 : decode cX12_effortOf 0 = .ok (.aload_n 0, 1) := by decide +kernel
theorem dX12_effortOf_1 : decode cX12_effortOf 1 = .ok (.getfield 13, 3) := by decide +kernel
theorem dX12_effortOf_4 : decode cX12_effortOf 4 = .ok (.iload_n 1, 1) := by decide +kernel
theorem dX12_effortOf_5 : decode cX12_effortOf 5 = .ok (.iaload, 1) := by decide +kernel
end
section
theorem dX12_effortOf_6 : decode cX12_effortOf 6 = .ok (.iconst 1, 1) := by decide +kernel
theorem dX12_effortOf_7 : decode cX12_effortOf 7 = .ok (.if_icmp .eq 17, 3) := by decide +kernel
theorem dX12_effortOf_10 : decode cX12_effortOf 10 = .ok (.aload_n 0, 1) := by decide +kernel
theorem dX12_effortOf_11 : decode cX12_effortOf 11 = .ok (.getfield 37, 3) := by decide +kernel
theorem dX12_effortOf_14 : decode cX12_effortOf 14 = .ok (.iconst 3, 1) := by decide +kernel
theorem dX12_effortOf_15 : decode cX12_effortOf 15 = .ok (.iload_n 1, 1) := by decide +kernel
theorem dX12_effortOf_16 : decode cX12_effortOf 16 = .ok (.imul, 1) := by decide +kernel
theorem dX12_effortOf_17 : decode cX12_effortOf 17 = .ok (.iload_n 2, 1) := by decide +kernel
theorem dX12_effortOf_18 : decode cX12_effortOf 18 = .ok (.iadd, 1) := by decide +kernel
theorem dX12_effortOf_19 : decode cX12_effortOf 19 = .ok (.iaload, 1) := by decide +kernel
theorem dX12_effortOf_20 : decode cX12_effortOf 20 = .ok (.iconst 2, 1) := by decide +kernel
theorem dX12_effortOf_21 : decode cX12_effortOf 21 = .ok (.if_icmp .ne 5, 3) := by decide +kernel
theorem dX12_effortOf_24 : decode cX12_effortOf 24 = .ok (.iconst 0, 1) := by decide +kernel
theorem dX12_effortOf_25 : decode cX12_effortOf 25 = .ok (.ireturn, 1) := by decide +kernel
theorem dX12_effortOf_26 : decode cX12_effortOf 26 = .ok (.aload_n 0, 1) := by decide +kernel
theorem dX12_effortOf_27 : decode cX12_effortOf 27 = .ok (.iload_n 1, 1) := by decide +kernel
theorem dX12_effortOf_28 : decode cX12_effortOf 28 = .ok (.iload_n 2, 1) := by decide +kernel
theorem dX12_effortOf_29 : decode cX12_effortOf 29 = .ok (.invokevirtual 227, 3) := by decide +kernel
theorem dX12_effortOf_32 : decode cX12_effortOf 32 = .ok (.aload_n 0, 1) := by decide +kernel
theorem dX12_effortOf_33 : decode cX12_effortOf 33 = .ok (.getfield 220, 3) := by decide +kernel
theorem dX12_effortOf_36 : decode cX12_effortOf 36 = .ok (.ifCond .lt 14, 3) := by decide +kernel
theorem dX12_effortOf_39 : decode cX12_effortOf 39 = .ok (.aload_n 0, 1) := by decide +kernel
theorem dX12_effortOf_40 : decode cX12_effortOf 40 = .ok (.getfield 224, 3) := by decide +kernel
theorem dX12_effortOf_43 : decode cX12_effortOf 43 = .ok (.ifCond .ne 7, 3) := by decide +kernel
theorem dX12_effortOf_46 : decode cX12_effortOf 46 = .ok (.iconst 1, 1) := by decide +kernel
theorem dX12_effortOf_47 : decode cX12_effortOf 47 = .ok (.goto 28, 3) := by decide +kernel
theorem dX12_effortOf_50 : decode cX12_effortOf 50 = .ok (.aload_n 0, 1) := by decide +kernel
theorem dX12_effortOf_51 : decode cX12_effortOf 51 = .ok (.getfield 220, 3) := by decide +kernel
theorem dX12_effortOf_54 : decode cX12_effortOf 54 = .ok (.ifCond .lt 15, 3) := by decide +kernel
theorem dX12_effortOf_57 : decode cX12_effortOf 57 = .ok (.aload_n 0, 1) := by decide +kernel
theorem dX12_effortOf_58 : decode cX12_effortOf 58 = .ok (.getfield 224, 3) := by decide +kernel
theorem dX12_effortOf_61 : decode cX12_effortOf 61 = .ok (.iconst 3, 1) := by decide +kernel
theorem dX12_effortOf_62 : decode cX12_effortOf 62 = .ok (.if_icmp .ge 7, 3) := by decide +kernel
theorem dX12_effortOf_65 : decode cX12_effortOf 65 = .ok (.iconst 2, 1) := by decide +kernel
theorem dX12_effortOf_66 : decode cX12_effortOf 66 = .ok (.goto 9, 3) := by decide +kernel
theorem dX12_effortOf_69 : decode cX12_effortOf 69 = .ok (.aload_n 0, 1) := by decide +kernel
theorem dX12_effortOf_70 : decode cX12_effortOf 70 = .ok (.getfield 16, 3) := by decide +kernel
theorem dX12_effortOf_73 : decode cX12_effortOf 73 = .ok (.iload_n 1, 1) := by decide +kernel
theorem dX12_effortOf_74 : decode cX12_effortOf 74 = .ok (.iaload, 1) := by decide +kernel
theorem dX12_effortOf_75 : decode cX12_effortOf 75 = .ok (.ireturn, 1) := by decide +kernel
theorem dX12_effort_0 : decode cX12_effort 0 = .ok (.aload_n 0, 1) := by decide +kernel
theorem dX12_effort_1 : decode cX12_effort 1 = .ok (.iload_n 1, 1) := by decide +kernel
theorem dX12_effort_2 : decode cX12_effort 2 = .ok (.invokevirtual 178, 3) := by decide +kernel
theorem dX12_effort_5 : decode cX12_effort 5 = .ok (.ifCond .eq 19, 3) := by decide +kernel
theorem dX12_effort_8 : decode cX12_effort 8 = .ok (.iload_n 2, 1) := by decide +kernel
theorem dX12_effort_9 : decode cX12_effort 9 = .ok (.invokestatic 187, 3) := by decide +kernel
theorem dX12_effort_12 : decode cX12_effort 12 = .ok (.ifCond .eq 12, 3) := by decide +kernel
theorem dX12_effort_15 : decode cX12_effort 15 = .ok (.aload_n 0, 1) := by decide +kernel
theorem dX12_effort_16 : decode cX12_effort 16 = .ok (.iload_n 1, 1) := by decide +kernel
theorem dX12_effort_17 : decode cX12_effort 17 = .ok (.iload_n 2, 1) := by decide +kernel
theorem dX12_effort_18 : decode cX12_effort 18 = .ok (.invokevirtual 230, 3) := by decide +kernel
theorem dX12_effort_21 : decode cX12_effort 21 = .ok (.goto 4, 3) := by decide +kernel
theorem dX12_effort_24 : decode cX12_effort 24 = .ok (.iconst (-1), 1) := by decide +kernel
theorem dX12_effort_25 : decode cX12_effort 25 = .ok (.ireturn, 1) := by decide +kernel
theorem dX12_prepare_0 : decode cX12_prepare 0 = .ok (.aload_n 0, 1) := by decide +kernel
theorem dX12_prepare_1 : decode cX12_prepare 1 = .ok (.iconst 0, 1) := by decide +kernel
theorem dX12_prepare_2 : decode cX12_prepare 2 = .ok (.putfield 233, 3) := by decide +kernel
theorem dX12_prepare_5 : decode cX12_prepare 5 = .ok (.iconst 0, 1) := by decide +kernel
theorem dX12_prepare_6 : decode cX12_prepare 6 = .ok (.istore_n 2, 1) := by decide +kernel
theorem dX12_prepare_7 : decode cX12_prepare 7 = .ok (.iload_n 2, 1) := by decide +kernel
theorem dX12_prepare_8 : decode cX12_prepare 8 = .ok (.aload_n 0, 1) := by decide +kernel
theorem dX12_prepare_9 : decode cX12_prepare 9 = .ok (.getfield 135, 3) := by decide +kernel
theorem dX12_prepare_12 : decode cX12_prepare 12 = .ok (.if_icmp .ge 21, 3) := by decide +kernel
theorem dX12_prepare_15 : decode cX12_prepare 15 = .ok (.aload_n 0, 1) := by decide +kernel
theorem dX12_prepare_16 : decode cX12_prepare 16 = .ok (.getfield 122, 3) := by decide +kernel
theorem dX12_prepare_19 : decode cX12_prepare 19 = .ok (.iload_n 2, 1) := by decide +kernel
theorem dX12_prepare_20 : decode cX12_prepare 20 = .ok (.aload_n 0, 1) := by decide +kernel
theorem dX12_prepare_21 : decode cX12_prepare 21 = .ok (.getfield 52, 3) := by decide +kernel
theorem dX12_prepare_24 : decode cX12_prepare 24 = .ok (.iload_n 2, 1) := by decide +kernel
theorem dX12_prepare_25 : decode cX12_prepare 25 = .ok (.iaload, 1) := by decide +kernel
theorem dX12_prepare_26 : decode cX12_prepare 26 = .ok (.iastore, 1) := by decide +kernel
theorem dX12_prepare_27 : decode cX12_prepare 27 = .ok (.iinc 2 1, 3) := by decide +kernel
theorem dX12_prepare_30 : decode cX12_prepare 30 = .ok (.goto (-23), 3) := by decide +kernel
theorem dX12_prepare_33 : decode cX12_prepare 33 = .ok (.iconst 0, 1) := by decide +kernel
theorem dX12_prepare_34 : decode cX12_prepare 34 = .ok (.istore_n 2, 1) := by decide +kernel
theorem dX12_prepare_35 : decode cX12_prepare 35 = .ok (.iload_n 2, 1) := by decide +kernel
theorem dX12_prepare_36 : decode cX12_prepare 36 = .ok (.aload_n 0, 1) := by decide +kernel
theorem dX12_prepare_37 : decode cX12_prepare 37 = .ok (.getfield 132, 3) := by decide +kernel
theorem dX12_prepare_40 : decode cX12_prepare 40 = .ok (.if_icmp .ge 164, 3) := by decide +kernel
theorem dX12_prepare_43 : decode cX12_prepare 43 = .ok (.aload_n 0, 1) := by decide +kernel
theorem dX12_prepare_44 : decode cX12_prepare 44 = .ok (.getfield 113, 3) := by decide +kernel
theorem dX12_prepare_47 : decode cX12_prepare 47 = .ok (.iload_n 2, 1) := by decide +kernel
theorem dX12_prepare_48 : decode cX12_prepare 48 = .ok (.aload_n 0, 1) := by decide +kernel
theorem dX12_prepare_49 : decode cX12_prepare 49 = .ok (.iload_n 2, 1) := by decide +kernel
theorem dX12_prepare_50 : decode cX12_prepare 50 = .ok (.iload_n 1, 1) := by decide +kernel
theorem dX12_prepare_51 : decode cX12_prepare 51 = .ok (.invokevirtual 230, 3) := by decide +kernel
theorem dX12_prepare_54 : decode cX12_prepare 54 = .ok (.iastore, 1) := by decide +kernel
theorem dX12_prepare_55 : decode cX12_prepare 55 = .ok (.aload_n 0, 1) := by decide +kernel
theorem dX12_prepare_56 : decode cX12_prepare 56 = .ok (.dup, 1) := by decide +kernel
theorem dX12_prepare_57 : decode cX12_prepare 57 = .ok (.getfield 233, 3) := by decide +kernel
theorem dX12_prepare_60 : decode cX12_prepare 60 = .ok (.aload_n 0, 1) := by decide +kernel
theorem dX12_prepare_61 : decode cX12_prepare 61 = .ok (.getfield 113, 3) := by decide +kernel
theorem dX12_prepare_64 : decode cX12_prepare 64 = .ok (.iload_n 2, 1) := by decide +kernel
theorem dX12_prepare_65 : decode cX12_prepare 65 = .ok (.iaload, 1) := by decide +kernel
theorem dX12_prepare_66 : decode cX12_prepare 66 = .ok (.ifCond .le 7, 3) := by decide +kernel
theorem dX12_prepare_69 : decode cX12_prepare 69 = .ok (.iconst 1, 1) := by decide +kernel
theorem dX12_prepare_70 : decode cX12_prepare 70 = .ok (.goto 4, 3) := by decide +kernel
theorem dX12_prepare_73 : decode cX12_prepare 73 = .ok (.iconst 0, 1) := by decide +kernel
theorem dX12_prepare_74 : decode cX12_prepare 74 = .ok (.iadd, 1) := by decide +kernel
theorem dX12_prepare_75 : decode cX12_prepare 75 = .ok (.putfield 233, 3) := by decide +kernel
theorem dX12_prepare_78 : decode cX12_prepare 78 = .ok (.aload_n 0, 1) := by decide +kernel
theorem dX12_prepare_79 : decode cX12_prepare 79 = .ok (.getfield 116, 3) := by decide +kernel
theorem dX12_prepare_82 : decode cX12_prepare 82 = .ok (.iload_n 2, 1) := by decide +kernel
theorem dX12_prepare_83 : decode cX12_prepare 83 = .ok (.iconst (-1), 1) := by decide +kernel
theorem dX12_prepare_84 : decode cX12_prepare 84 = .ok (.iastore, 1) := by decide +kernel
theorem dX12_prepare_85 : decode cX12_prepare 85 = .ok (.iconst 0, 1) := by decide +kernel
theorem dX12_prepare_86 : decode cX12_prepare 86 = .ok (.istore_n 3, 1) := by decide +kernel
theorem dX12_prepare_87 : decode cX12_prepare 87 = .ok (.iload_n 3, 1) := by decide +kernel
theorem dX12_prepare_88 : decode cX12_prepare 88 = .ok (.aload_n 0, 1) := by decide +kernel
theorem dX12_prepare_89 : decode cX12_prepare 89 = .ok (.getfield 135, 3) := by decide +kernel
theorem dX12_prepare_92 : decode cX12_prepare 92 = .ok (.if_icmp .ge 106, 3) := by decide +kernel
theorem dX12_prepare_95 : decode cX12_prepare 95 = .ok (.aload_n 0, 1) := by decide +kernel
theorem dX12_prepare_96 : decode cX12_prepare 96 = .ok (.getfield 113, 3) := by decide +kernel
theorem dX12_prepare_99 : decode cX12_prepare 99 = .ok (.iload_n 2, 1) := by decide +kernel
theorem dX12_prepare_100 : decode cX12_prepare 100 = .ok (.iaload, 1) := by decide +kernel
theorem dX12_prepare_101 : decode cX12_prepare 101 = .ok (.ifCond .le 31, 3) := by decide +kernel
theorem dX12_prepare_104 : decode cX12_prepare 104 = .ok (.aload_n 0, 1) := by decide +kernel
theorem dX12_prepare_105 : decode cX12_prepare 105 = .ok (.iload_n 3, 1) := by decide +kernel
theorem dX12_prepare_106 : decode cX12_prepare 106 = .ok (.iload_n 1, 1) := by decide +kernel
theorem dX12_prepare_107 : decode cX12_prepare 107 = .ok (.invokevirtual 196, 3) := by decide +kernel
theorem dX12_prepare_110 : decode cX12_prepare 110 = .ok (.ifCond .eq 22, 3) := by decide +kernel
theorem dX12_prepare_113 : decode cX12_prepare 113 = .ok (.aload_n 0, 1) := by decide +kernel
theorem dX12_prepare_114 : decode cX12_prepare 114 = .ok (.getfield 52, 3) := by decide +kernel
theorem dX12_prepare_117 : decode cX12_prepare 117 = .ok (.iload_n 3, 1) := by decide +kernel
theorem dX12_prepare_118 : decode cX12_prepare 118 = .ok (.iaload, 1) := by decide +kernel
theorem dX12_prepare_119 : decode cX12_prepare 119 = .ok (.aload_n 0, 1) := by decide +kernel
theorem dX12_prepare_120 : decode cX12_prepare 120 = .ok (.getfield 113, 3) := by decide +kernel
theorem dX12_prepare_123 : decode cX12_prepare 123 = .ok (.iload_n 2, 1) := by decide +kernel
theorem dX12_prepare_124 : decode cX12_prepare 124 = .ok (.iaload, 1) := by decide +kernel
theorem dX12_prepare_125 : decode cX12_prepare 125 = .ok (.if_icmp .lt 7, 3) := by decide +kernel
theorem dX12_prepare_128 : decode cX12_prepare 128 = .ok (.iconst 1, 1) := by decide +kernel
theorem dX12_prepare_129 : decode cX12_prepare 129 = .ok (.goto 4, 3) := by decide +kernel
theorem dX12_prepare_132 : decode cX12_prepare 132 = .ok (.iconst 0, 1) := by decide +kernel
theorem dX12_prepare_133 : decode cX12_prepare 133 = .ok (.istore 4, 2) := by decide +kernel
theorem dX12_prepare_135 : decode cX12_prepare 135 = .ok (.aload_n 0, 1) := by decide +kernel
theorem dX12_prepare_136 : decode cX12_prepare 136 = .ok (.getfield 113, 3) := by decide +kernel
theorem dX12_prepare_139 : decode cX12_prepare 139 = .ok (.iload_n 2, 1) := by decide +kernel
theorem dX12_prepare_140 : decode cX12_prepare 140 = .ok (.iaload, 1) := by decide +kernel
theorem dX12_prepare_141 : decode cX12_prepare 141 = .ok (.aload_n 0, 1) := by decide +kernel
theorem dX12_prepare_142 : decode cX12_prepare 142 = .ok (.getfield 55, 3) := by decide +kernel
theorem dX12_prepare_145 : decode cX12_prepare 145 = .ok (.iload_n 3, 1) := by decide +kernel
theorem dX12_prepare_146 : decode cX12_prepare 146 = .ok (.iaload, 1) := by decide +kernel
theorem dX12_prepare_147 : decode cX12_prepare 147 = .ok (.imul, 1) := by decide +kernel
theorem dX12_prepare_148 : decode cX12_prepare 148 = .ok (.istore 5, 2) := by decide +kernel
theorem dX12_prepare_150 : decode cX12_prepare 150 = .ok (.aload_n 0, 1) := by decide +kernel
theorem dX12_prepare_151 : decode cX12_prepare 151 = .ok (.getfield 116, 3) := by decide +kernel
theorem dX12_prepare_154 : decode cX12_prepare 154 = .ok (.iload_n 2, 1) := by decide +kernel
theorem dX12_prepare_155 : decode cX12_prepare 155 = .ok (.iload 4, 2) := by decide +kernel
theorem dX12_prepare_157 : decode cX12_prepare 157 = .ok (.ifCond .eq 28, 3) := by decide +kernel
theorem dX12_prepare_160 : decode cX12_prepare 160 = .ok (.aload_n 0, 1) := by decide +kernel
theorem dX12_prepare_161 : decode cX12_prepare 161 = .ok (.getfield 116, 3) := by decide +kernel
theorem dX12_prepare_164 : decode cX12_prepare 164 = .ok (.iload_n 2, 1) := by decide +kernel
theorem dX12_prepare_165 : decode cX12_prepare 165 = .ok (.iaload, 1) := by decide +kernel
theorem dX12_prepare_166 : decode cX12_prepare 166 = .ok (.ifCond .lt 14, 3) := by decide +kernel
theorem dX12_prepare_169 : decode cX12_prepare 169 = .ok (.iload 5, 2) := by decide +kernel
theorem dX12_prepare_171 : decode cX12_prepare 171 = .ok (.aload_n 0, 1) := by decide +kernel
theorem dX12_prepare_172 : decode cX12_prepare 172 = .ok (.getfield 116, 3) := by decide +kernel
theorem dX12_prepare_175 : decode cX12_prepare 175 = .ok (.iload_n 2, 1) := by decide +kernel
theorem dX12_prepare_176 : decode cX12_prepare 176 = .ok (.iaload, 1) := by decide +kernel
theorem dX12_prepare_177 : decode cX12_prepare 177 = .ok (.if_icmp .ge 8, 3) := by decide +kernel
theorem dX12_prepare_180 : decode cX12_prepare 180 = .ok (.iload 5, 2) := by decide +kernel
theorem dX12_prepare_182 : decode cX12_prepare 182 = .ok (.goto 9, 3) := by decide +kernel
theorem dX12_prepare_185 : decode cX12_prepare 185 = .ok (.aload_n 0, 1) := by decide +kernel
theorem dX12_prepare_186 : decode cX12_prepare 186 = .ok (.getfield 116, 3) := by decide +kernel
theorem dX12_prepare_189 : decode cX12_prepare 189 = .ok (.iload_n 2, 1) := by decide +kernel
theorem dX12_prepare_190 : decode cX12_prepare 190 = .ok (.iaload, 1) := by decide +kernel
theorem dX12_prepare_191 : decode cX12_prepare 191 = .ok (.iastore, 1) := by decide +kernel
theorem dX12_prepare_192 : decode cX12_prepare 192 = .ok (.iinc 3 1, 3) := by decide +kernel
theorem dX12_prepare_195 : decode cX12_prepare 195 = .ok (.goto (-108), 3) := by decide +kernel
theorem dX12_prepare_198 : decode cX12_prepare 198 = .ok (.iinc 2 1, 3) := by decide +kernel
theorem dX12_prepare_201 : decode cX12_prepare 201 = .ok (.goto (-166), 3) := by decide +kernel
theorem dX12_prepare_204 : decode cX12_prepare 204 = .ok (.return_, 1) := by decide +kernel
theorem dX12_canBeBetter_0 : decode cX12_canBeBetter 0 = .ok (.iload_n 2, 1) := by decide +kernel
theorem dX12_canBeBetter_1 : decode cX12_canBeBetter 1 = .ok (.istore 4, 2) := by decide +kernel
theorem dX12_canBeBetter_3 : decode cX12_canBeBetter 3 = .ok (.iload_n 3, 1) := by decide +kernel
theorem dX12_canBeBetter_4 : decode cX12_canBeBetter 4 = .ok (.istore 5, 2) := by decide +kernel
theorem dX12_canBeBetter_6 : decode cX12_canBeBetter 6 = .ok (.iload_n 1, 1) := by decide +kernel
theorem dX12_canBeBetter_7 : decode cX12_canBeBetter 7 = .ok (.istore 6, 2) := by decide +kernel
theorem dX12_canBeBetter_9 : decode cX12_canBeBetter 9 = .ok (.iload 6, 2) := by decide +kernel
theorem dX12_canBeBetter_11 : decode cX12_canBeBetter 11 = .ok (.aload_n 0, 1) := by decide +kernel
theorem dX12_canBeBetter_12 : decode cX12_canBeBetter 12 = .ok (.getfield 132, 3) := by decide +kernel
theorem dX12_canBeBetter_15 : decode cX12_canBeBetter 15 = .ok (.if_icmp .ge 55, 3) := by decide +kernel
theorem dX12_canBeBetter_18 : decode cX12_canBeBetter 18 = .ok (.iload 4, 2) := by decide +kernel
theorem dX12_canBeBetter_20 : decode cX12_canBeBetter 20 = .ok (.aload_n 0, 1) := by decide +kernel
theorem dX12_canBeBetter_21 : decode cX12_canBeBetter 21 = .ok (.getfield 116, 3) := by decide +kernel
theorem dX12_canBeBetter_24 : decode cX12_canBeBetter 24 = .ok (.iload 6, 2) := by decide +kernel
theorem dX12_canBeBetter_26 : decode cX12_canBeBetter 26 = .ok (.iaload, 1) := by decide +kernel
theorem dX12_canBeBetter_27 : decode cX12_canBeBetter 27 = .ok (.ifCond .ge 7, 3) := by decide +kernel
theorem dX12_canBeBetter_30 : decode cX12_canBeBetter 30 = .ok (.iconst 0, 1) := by decide +kernel
theorem dX12_canBeBetter_31 : decode cX12_canBeBetter 31 = .ok (.goto 4, 3) := by decide +kernel
theorem dX12_canBeBetter_34 : decode cX12_canBeBetter 34 = .ok (.iconst 1, 1) := by decide +kernel
theorem dX12_canBeBetter_35 : decode cX12_canBeBetter 35 = .ok (.iadd, 1) := by decide +kernel
theorem dX12_canBeBetter_36 : decode cX12_canBeBetter 36 = .ok (.istore 4, 2) := by decide +kernel
theorem dX12_canBeBetter_38 : decode cX12_canBeBetter 38 = .ok (.iload 5, 2) := by decide +kernel
theorem dX12_canBeBetter_40 : decode cX12_canBeBetter 40 = .ok (.aload_n 0, 1) := by decide +kernel
theorem dX12_canBeBetter_41 : decode cX12_canBeBetter 41 = .ok (.getfield 116, 3) := by decide +kernel
theorem dX12_canBeBetter_44 : decode cX12_canBeBetter 44 = .ok (.iload 6, 2) := by decide +kernel
theorem dX12_canBeBetter_46 : decode cX12_canBeBetter 46 = .ok (.iaload, 1) := by decide +kernel
theorem dX12_canBeBetter_47 : decode cX12_canBeBetter 47 = .ok (.ifCond .ge 7, 3) := by decide +kernel
theorem dX12_canBeBetter_50 : decode cX12_canBeBetter 50 = .ok (.iconst 0, 1) := by decide +kernel
theorem dX12_canBeBetter_51 : decode cX12_canBeBetter 51 = .ok (.goto 10, 3) := by decide +kernel
theorem dX12_canBeBetter_54 : decode cX12_canBeBetter 54 = .ok (.aload_n 0, 1) := by decide +kernel
theorem dX12_canBeBetter_55 : decode cX12_canBeBetter 55 = .ok (.getfield 116, 3) := by decide +kernel
theorem dX12_canBeBetter_58 : decode cX12_canBeBetter 58 = .ok (.iload 6, 2) := by decide +kernel
theorem dX12_canBeBetter_60 : decode cX12_canBeBetter 60 = .ok (.iaload, 1) := by decide +kernel
theorem dX12_canBeBetter_61 : decode cX12_canBeBetter 61 = .ok (.iadd, 1) := by decide +kernel
theorem dX12_canBeBetter_62 : decode cX12_canBeBetter 62 = .ok (.istore 5, 2) := by decide +kernel
theorem dX12_canBeBetter_64 : decode cX12_canBeBetter 64 = .ok (.iinc 6 1, 3) := by decide +kernel
theorem dX12_canBeBetter_67 : decode cX12_canBeBetter 67 = .ok (.goto (-58), 3) := by decide +kernel
theorem dX12_canBeBetter_70 : decode cX12_canBeBetter 70 = .ok (.iload 4, 2) := by decide +kernel
theorem dX12_canBeBetter_72 : decode cX12_canBeBetter 72 = .ok (.aload_n 0, 1) := by decide +kernel
theorem dX12_canBeBetter_73 : decode cX12_canBeBetter 73 = .ok (.getfield 236, 3) := by decide +kernel
theorem dX12_canBeBetter_76 : decode cX12_canBeBetter 76 = .ok (.if_icmp .gt 21, 3) := by decide +kernel
theorem dX12_canBeBetter_79 : decode cX12_canBeBetter 79 = .ok (.iload 4, 2) := by decide +kernel
theorem dX12_canBeBetter_81 : decode cX12_canBeBetter 81 = .ok (.aload_n 0, 1) := by decide +kernel
theorem dX12_canBeBetter_82 : decode cX12_canBeBetter 82 = .ok (.getfield 236, 3) := by decide +kernel
theorem dX12_canBeBetter_85 : decode cX12_canBeBetter 85 = .ok (.if_icmp .ne 16, 3) := by decide +kernel
theorem dX12_canBeBetter_88 : decode cX12_canBeBetter 88 = .ok (.iload 5, 2) := by decide +kernel
theorem dX12_canBeBetter_90 : decode cX12_canBeBetter 90 = .ok (.aload_n 0, 1) := by decide +kernel
theorem dX12_canBeBetter_91 : decode cX12_canBeBetter 91 = .ok (.getfield 239, 3) := by decide +kernel
theorem dX12_canBeBetter_94 : decode cX12_canBeBetter 94 = .ok (.if_icmp .ge 7, 3) := by decide +kernel
theorem dX12_canBeBetter_97 : decode cX12_canBeBetter 97 = .ok (.iconst 1, 1) := by decide +kernel
theorem dX12_canBeBetter_98 : decode cX12_canBeBetter 98 = .ok (.goto 4, 3) := by decide +kernel
theorem dX12_canBeBetter_101 : decode cX12_canBeBetter 101 = .ok (.iconst 0, 1) := by decide +kernel
theorem dX12_canBeBetter_102 : decode cX12_canBeBetter 102 = .ok (.ireturn, 1) := by decide +kernel
theorem dX12_fits_0 : decode cX12_fits 0 = .ok (.aload_n 0, 1) := by decide +kernel
theorem dX12_fits_1 : decode cX12_fits 1 = .ok (.getfield 113, 3) := by decide +kernel
theorem dX12_fits_4 : decode cX12_fits 4 = .ok (.iload_n 1, 1) := by decide +kernel
theorem dX12_fits_5 : decode cX12_fits 5 = .ok (.iaload, 1) := by decide +kernel
theorem dX12_fits_6 : decode cX12_fits 6 = .ok (.ifCond .le 31, 3) := by decide +kernel
theorem dX12_fits_9 : decode cX12_fits 9 = .ok (.aload_n 0, 1) := by decide +kernel
theorem dX12_fits_10 : decode cX12_fits 10 = .ok (.iload_n 2, 1) := by decide +kernel
theorem dX12_fits_11 : decode cX12_fits 11 = .ok (.iload_n 3, 1) := by decide +kernel
theorem dX12_fits_12 : decode cX12_fits 12 = .ok (.invokevirtual 196, 3) := by decide +kernel
theorem dX12_fits_15 : decode cX12_fits 15 = .ok (.ifCond .eq 22, 3) := by decide +kernel
theorem dX12_fits_18 : decode cX12_fits 18 = .ok (.aload_n 0, 1) := by decide +kernel
theorem dX12_fits_19 : decode cX12_fits 19 = .ok (.getfield 122, 3) := by decide +kernel
theorem dX12_fits_22 : decode cX12_fits 22 = .ok (.iload_n 2, 1) := by decide +kernel
theorem dX12_fits_23 : decode cX12_fits 23 = .ok (.iaload, 1) := by decide +kernel
theorem dX12_fits_24 : decode cX12_fits 24 = .ok (.aload_n 0, 1) := by decide +kernel
theorem dX12_fits_25 : decode cX12_fits 25 = .ok (.getfield 113, 3) := by decide +kernel
theorem dX12_fits_28 : decode cX12_fits 28 = .ok (.iload_n 1, 1) := by decide +kernel
theorem dX12_fits_29 : decode cX12_fits 29 = .ok (.iaload, 1) := by decide +kernel
theorem dX12_fits_30 : decode cX12_fits 30 = .ok (.if_icmp .lt 7, 3) := by decide +kernel
theorem dX12_fits_33 : decode cX12_fits 33 = .ok (.iconst 1, 1) := by decide +kernel
theorem dX12_fits_34 : decode cX12_fits 34 = .ok (.goto 4, 3) := by decide +kernel
theorem dX12_fits_37 : decode cX12_fits 37 = .ok (.iconst 0, 1) := by decide +kernel
theorem dX12_fits_38 : decode cX12_fits 38 = .ok (.ireturn, 1) := by decide +kernel
theorem dX12_findPlan_0 : decode cX12_findPlan 0 = .ok (.aload_n 0, 1) := by decide +kernel
theorem dX12_findPlan_1 : decode cX12_findPlan 1 = .ok (.iload_n 1, 1) := by decide +kernel
theorem dX12_findPlan_2 : decode cX12_findPlan 2 = .ok (.invokevirtual 242, 3) := by decide +kernel
theorem dX12_findPlan_5 : decode cX12_findPlan 5 = .ok (.aload_n 0, 1) := by decide +kernel
theorem dX12_findPlan_6 : decode cX12_findPlan 6 = .ok (.iconst (-1), 1) := by decide +kernel
theorem dX12_findPlan_7 : decode cX12_findPlan 7 = .ok (.putfield 236, 3) := by decide +kernel
theorem dX12_findPlan_10 : decode cX12_findPlan 10 = .ok (.aload_n 0, 1) := by decide +kernel
theorem dX12_findPlan_11 : decode cX12_findPlan 11 = .ok (.iconst 0, 1) := by decide +kernel
theorem dX12_findPlan_12 : decode cX12_findPlan 12 = .ok (.putfield 239, 3) := by decide +kernel
theorem dX12_findPlan_15 : decode cX12_findPlan 15 = .ok (.iconst 0, 1) := by decide +kernel
theorem dX12_findPlan_16 : decode cX12_findPlan 16 = .ok (.istore_n 2, 1) := by decide +kernel
theorem dX12_findPlan_17 : decode cX12_findPlan 17 = .ok (.iconst 0, 1) := by decide +kernel
theorem dX12_findPlan_18 : decode cX12_findPlan 18 = .ok (.istore_n 3, 1) := by decide +kernel
theorem dX12_findPlan_19 : decode cX12_findPlan 19 = .ok (.iconst 0, 1) := by decide +kernel
theorem dX12_findPlan_20 : decode cX12_findPlan 20 = .ok (.istore 4, 2) := by decide +kernel
theorem dX12_findPlan_22 : decode cX12_findPlan 22 = .ok (.aload_n 0, 1) := by decide +kernel
theorem dX12_findPlan_23 : decode cX12_findPlan 23 = .ok (.getfield 119, 3) := by decide +kernel
theorem dX12_findPlan_26 : decode cX12_findPlan 26 = .ok (.iconst 0, 1) := by decide +kernel
theorem dX12_findPlan_27 : decode cX12_findPlan 27 = .ok (.iconst (-1), 1) := by decide +kernel
theorem dX12_findPlan_28 : decode cX12_findPlan 28 = .ok (.iastore, 1) := by decide +kernel
theorem dX12_findPlan_29 : decode cX12_findPlan 29 = .ok (.iconst 1, 1) := by decide +kernel
theorem dX12_findPlan_30 : decode cX12_findPlan 30 = .ok (.istore 5, 2) := by decide +kernel
theorem dX12_findPlan_32 : decode cX12_findPlan 32 = .ok (.iload 5, 2) := by decide +kernel
theorem dX12_findPlan_34 : decode cX12_findPlan 34 = .ok (.ifCond .eq 282, 3) := by decide +kernel
theorem dX12_findPlan_37 : decode cX12_findPlan 37 = .ok (.iload_n 2, 1) := by decide +kernel
theorem dX12_findPlan_38 : decode cX12_findPlan 38 = .ok (.aload_n 0, 1) := by decide +kernel
theorem dX12_findPlan_39 : decode cX12_findPlan 39 = .ok (.getfield 132, 3) := by decide +kernel
theorem dX12_findPlan_42 : decode cX12_findPlan 42 = .ok (.if_icmp .ne 69, 3) := by decide +kernel
theorem dX12_findPlan_45 : decode cX12_findPlan 45 = .ok (.iload_n 3, 1) := by decide +kernel
theorem dX12_findPlan_46 : decode cX12_findPlan 46 = .ok (.aload_n 0, 1) := by decide +kernel
theorem dX12_findPlan_47 : decode cX12_findPlan 47 = .ok (.getfield 236, 3) := by decide +kernel
theorem dX12_findPlan_50 : decode cX12_findPlan 50 = .ok (.if_icmp .gt 20, 3) := by decide +kernel
theorem dX12_findPlan_53 : decode cX12_findPlan 53 = .ok (.iload_n 3, 1) := by decide +kernel
theorem dX12_findPlan_54 : decode cX12_findPlan 54 = .ok (.aload_n 0, 1) := by decide +kernel
theorem dX12_findPlan_55 : decode cX12_findPlan 55 = .ok (.getfield 236, 3) := by decide +kernel
theorem dX12_findPlan_58 : decode cX12_findPlan 58 = .ok (.if_icmp .ne 36, 3) := by decide +kernel
theorem dX12_findPlan_61 : decode cX12_findPlan 61 = .ok (.iload 4, 2) := by decide +kernel
theorem dX12_findPlan_63 : decode cX12_findPlan 63 = .ok (.aload_n 0, 1) := by decide +kernel
theorem dX12_findPlan_64 : decode cX12_findPlan 64 = .ok (.getfield 239, 3) := by decide +kernel
theorem dX12_findPlan_67 : decode cX12_findPlan 67 = .ok (.if_icmp .ge 27, 3) := by decide +kernel
theorem dX12_findPlan_70 : decode cX12_findPlan 70 = .ok (.aload_n 0, 1) := by decide +kernel
theorem dX12_findPlan_71 : decode cX12_findPlan 71 = .ok (.iload_n 3, 1) := by decide +kernel
theorem dX12_findPlan_72 : decode cX12_findPlan 72 = .ok (.putfield 236, 3) := by decide +kernel
theorem dX12_findPlan_75 : decode cX12_findPlan 75 = .ok (.aload_n 0, 1) := by decide +kernel
theorem dX12_findPlan_76 : decode cX12_findPlan 76 = .ok (.iload 4, 2) := by decide +kernel
theorem dX12_findPlan_78 : decode cX12_findPlan 78 = .ok (.putfield 239, 3) := by decide +kernel
theorem dX12_findPlan_81 : decode cX12_findPlan 81 = .ok (.aload_n 0, 1) := by decide +kernel
theorem dX12_findPlan_82 : decode cX12_findPlan 82 = .ok (.getfield 119, 3) := by decide +kernel
theorem dX12_findPlan_85 : decode cX12_findPlan 85 = .ok (.aload_n 0, 1) := by decide +kernel
theorem dX12_findPlan_86 : decode cX12_findPlan 86 = .ok (.getfield 125, 3) := by decide +kernel
theorem dX12_findPlan_89 : decode cX12_findPlan 89 = .ok (.bipush 8, 2) := by decide +kernel
theorem dX12_findPlan_91 : decode cX12_findPlan 91 = .ok (.invokestatic 170, 3) := by decide +kernel
theorem dX12_findPlan_94 : decode cX12_findPlan 94 = .ok (.iinc 2 (-1), 3) := by decide +kernel
theorem dX12_findPlan_97 : decode cX12_findPlan 97 = .ok (.iload_n 2, 1) := by decide +kernel
theorem dX12_findPlan_98 : decode cX12_findPlan 98 = .ok (.ifCond .lt 7, 3) := by decide +kernel
theorem dX12_findPlan_101 : decode cX12_findPlan 101 = .ok (.iconst 1, 1) := by decide +kernel
theorem dX12_findPlan_102 : decode cX12_findPlan 102 = .ok (.goto 4, 3) := by decide +kernel
theorem dX12_findPlan_105 : decode cX12_findPlan 105 = .ok (.iconst 0, 1) := by decide +kernel
theorem dX12_findPlan_106 : decode cX12_findPlan 106 = .ok (.istore 5, 2) := by decide +kernel
theorem dX12_findPlan_108 : decode cX12_findPlan 108 = .ok (.goto (-76), 3) := by decide +kernel
theorem dX12_findPlan_111 : decode cX12_findPlan 111 = .ok (.aload_n 0, 1) := by decide +kernel
theorem dX12_findPlan_112 : decode cX12_findPlan 112 = .ok (.getfield 119, 3) := by decide +kernel
theorem dX12_findPlan_115 : decode cX12_findPlan 115 = .ok (.iload_n 2, 1) := by decide +kernel
theorem dX12_findPlan_116 : decode cX12_findPlan 116 = .ok (.iaload, 1) := by decide +kernel
theorem dX12_findPlan_117 : decode cX12_findPlan 117 = .ok (.istore 6, 2) := by decide +kernel
theorem dX12_findPlan_119 : decode cX12_findPlan 119 = .ok (.iload 6, 2) := by decide +kernel
theorem dX12_findPlan_121 : decode cX12_findPlan 121 = .ok (.ifCond .lt 50, 3) := by decide +kernel
theorem dX12_findPlan_124 : decode cX12_findPlan 124 = .ok (.iload 6, 2) := by decide +kernel
theorem dX12_findPlan_126 : decode cX12_findPlan 126 = .ok (.aload_n 0, 1) := by decide +kernel
theorem dX12_findPlan_127 : decode cX12_findPlan 127 = .ok (.getfield 135, 3) := by decide +kernel
theorem dX12_findPlan_130 : decode cX12_findPlan 130 = .ok (.if_icmp .ge 41, 3) := by decide +kernel
theorem dX12_findPlan_133 : decode cX12_findPlan 133 = .ok (.aload_n 0, 1) := by decide +kernel
theorem dX12_findPlan_134 : decode cX12_findPlan 134 = .ok (.getfield 122, 3) := by decide +kernel
theorem dX12_findPlan_137 : decode cX12_findPlan 137 = .ok (.iload 6, 2) := by decide +kernel
theorem dX12_findPlan_139 : decode cX12_findPlan 139 = .ok (.dup2, 1) := by decide +kernel
theorem dX12_findPlan_140 : decode cX12_findPlan 140 = .ok (.iaload, 1) := by decide +kernel
theorem dX12_findPlan_141 : decode cX12_findPlan 141 = .ok (.aload_n 0, 1) := by decide +kernel
theorem dX12_findPlan_142 : decode cX12_findPlan 142 = .ok (.getfield 113, 3) := by decide +kernel
theorem dX12_findPlan_145 : decode cX12_findPlan 145 = .ok (.iload_n 2, 1) := by decide +kernel
theorem dX12_findPlan_146 : decode cX12_findPlan 146 = .ok (.iaload, 1) := by decide +kernel
theorem dX12_findPlan_147 : decode cX12_findPlan 147 = .ok (.iadd, 1) := by decide +kernel
theorem dX12_findPlan_148 : decode cX12_findPlan 148 = .ok (.iastore, 1) := by decide +kernel
theorem dX12_findPlan_149 : decode cX12_findPlan 149 = .ok (.iinc 3 (-1), 3) := by decide +kernel
theorem dX12_findPlan_152 : decode cX12_findPlan 152 = .ok (.iload 4, 2) := by decide +kernel
theorem dX12_findPlan_154 : decode cX12_findPlan 154 = .ok (.aload_n 0, 1) := by decide +kernel
theorem dX12_findPlan_155 : decode cX12_findPlan 155 = .ok (.getfield 113, 3) := by decide +kernel
theorem dX12_findPlan_158 : decode cX12_findPlan 158 = .ok (.iload_n 2, 1) := by decide +kernel
theorem dX12_findPlan_159 : decode cX12_findPlan 159 = .ok (.iaload, 1) := by decide +kernel
theorem dX12_findPlan_160 : decode cX12_findPlan 160 = .ok (.aload_n 0, 1) := by decide +kernel
theorem dX12_findPlan_161 : decode cX12_findPlan 161 = .ok (.getfield 55, 3) := by decide +kernel
theorem dX12_findPlan_164 : decode cX12_findPlan 164 = .ok (.iload 6, 2) := by decide +kernel
theorem dX12_findPlan_166 : decode cX12_findPlan 166 = .ok (.iaload, 1) := by decide +kernel
theorem dX12_findPlan_167 : decode cX12_findPlan 167 = .ok (.imul, 1) := by decide +kernel
theorem dX12_findPlan_168 : decode cX12_findPlan 168 = .ok (.isub, 1) := by decide +kernel
theorem dX12_findPlan_169 : decode cX12_findPlan 169 = .ok (.istore 4, 2) := by decide +kernel
theorem dX12_findPlan_171 : decode cX12_findPlan 171 = .ok (.iload 6, 2) := by decide +kernel
theorem dX12_findPlan_173 : decode cX12_findPlan 173 = .ok (.iconst 1, 1) := by decide +kernel
theorem dX12_findPlan_174 : decode cX12_findPlan 174 = .ok (.iadd, 1) := by decide +kernel
theorem dX12_findPlan_175 : decode cX12_findPlan 175 = .ok (.istore 7, 2) := by decide +kernel
theorem dX12_findPlan_177 : decode cX12_findPlan 177 = .ok (.iload 7, 2) := by decide +kernel
theorem dX12_findPlan_179 : decode cX12_findPlan 179 = .ok (.aload_n 0, 1) := by decide +kernel
theorem dX12_findPlan_180 : decode cX12_findPlan 180 = .ok (.getfield 135, 3) := by decide +kernel
theorem dX12_findPlan_183 : decode cX12_findPlan 183 = .ok (.if_icmp .ge 20, 3) := by decide +kernel
theorem dX12_findPlan_186 : decode cX12_findPlan 186 = .ok (.aload_n 0, 1) := by decide +kernel
theorem dX12_findPlan_187 : decode cX12_findPlan 187 = .ok (.iload_n 2, 1) := by decide +kernel
theorem dX12_findPlan_188 : decode cX12_findPlan 188 = .ok (.iload 7, 2) := by decide +kernel
theorem dX12_findPlan_190 : decode cX12_findPlan 190 = .ok (.iload_n 1, 1) := by decide +kernel
theorem dX12_findPlan_191 : decode cX12_findPlan 191 = .ok (.invokevirtual 246, 3) := by decide +kernel
theorem dX12_findPlan_194 : decode cX12_findPlan 194 = .ok (.ifCond .ne 9, 3) := by decide +kernel
theorem dX12_findPlan_197 : decode cX12_findPlan 197 = .ok (.iinc 7 1, 3) := by decide +kernel
theorem dX12_findPlan_200 : decode cX12_findPlan 200 = .ok (.goto (-23), 3) := by decide +kernel
theorem dX12_findPlan_203 : decode cX12_findPlan 203 = .ok (.iload 7, 2) := by decide +kernel
theorem dX12_findPlan_205 : decode cX12_findPlan 205 = .ok (.aload_n 0, 1) := by decide +kernel
theorem dX12_findPlan_206 : decode cX12_findPlan 206 = .ok (.getfield 135, 3) := by decide +kernel
theorem dX12_findPlan_209 : decode cX12_findPlan 209 = .ok (.if_icmp .gt 14, 3) := by decide +kernel
theorem dX12_findPlan_212 : decode cX12_findPlan 212 = .ok (.aload_n 0, 1) := by decide +kernel
theorem dX12_findPlan_213 : decode cX12_findPlan 213 = .ok (.iload_n 2, 1) := by decide +kernel
theorem dX12_findPlan_214 : decode cX12_findPlan 214 = .ok (.iload_n 3, 1) := by decide +kernel
theorem dX12_findPlan_215 : decode cX12_findPlan 215 = .ok (.iload 4, 2) := by decide +kernel
theorem dX12_findPlan_217 : decode cX12_findPlan 217 = .ok (.invokevirtual 249, 3) := by decide +kernel
theorem dX12_findPlan_220 : decode cX12_findPlan 220 = .ok (.ifCond .ne 20, 3) := by decide +kernel
theorem dX12_findPlan_223 : decode cX12_findPlan 223 = .ok (.iinc 2 (-1), 3) := by decide +kernel
theorem dX12_findPlan_226 : decode cX12_findPlan 226 = .ok (.iload_n 2, 1) := by decide +kernel
theorem dX12_findPlan_227 : decode cX12_findPlan 227 = .ok (.ifCond .lt 7, 3) := by decide +kernel
theorem dX12_findPlan_230 : decode cX12_findPlan 230 = .ok (.iconst 1, 1) := by decide +kernel
theorem dX12_findPlan_231 : decode cX12_findPlan 231 = .ok (.goto 4, 3) := by decide +kernel
theorem dX12_findPlan_234 : decode cX12_findPlan 234 = .ok (.iconst 0, 1) := by decide +kernel
theorem dX12_findPlan_235 : decode cX12_findPlan 235 = .ok (.istore 5, 2) := by decide +kernel
theorem dX12_findPlan_237 : decode cX12_findPlan 237 = .ok (.goto (-205), 3) := by decide +kernel
theorem dX12_findPlan_240 : decode cX12_findPlan 240 = .ok (.aload_n 0, 1) := by decide +kernel
theorem dX12_findPlan_241 : decode cX12_findPlan 241 = .ok (.getfield 119, 3) := by decide +kernel
theorem dX12_findPlan_244 : decode cX12_findPlan 244 = .ok (.iload_n 2, 1) := by decide +kernel
theorem dX12_findPlan_245 : decode cX12_findPlan 245 = .ok (.iload 7, 2) := by decide +kernel
theorem dX12_findPlan_247 : decode cX12_findPlan 247 = .ok (.iastore, 1) := by decide +kernel
theorem dX12_findPlan_248 : decode cX12_findPlan 248 = .ok (.iload 7, 2) := by decide +kernel
theorem dX12_findPlan_250 : decode cX12_findPlan 250 = .ok (.aload_n 0, 1) := by decide +kernel
theorem dX12_findPlan_251 : decode cX12_findPlan 251 = .ok (.getfield 135, 3) := by decide +kernel
theorem dX12_findPlan_254 : decode cX12_findPlan 254 = .ok (.if_icmp .ge 41, 3) := by decide +kernel
theorem dX12_findPlan_257 : decode cX12_findPlan 257 = .ok (.aload_n 0, 1) := by decide +kernel
theorem dX12_findPlan_258 : decode cX12_findPlan 258 = .ok (.getfield 122, 3) := by decide +kernel
theorem dX12_findPlan_261 : decode cX12_findPlan 261 = .ok (.iload 7, 2) := by decide +kernel
theorem dX12_findPlan_263 : decode cX12_findPlan 263 = .ok (.dup2, 1) := by decide +kernel
theorem dX12_findPlan_264 : decode cX12_findPlan 264 = .ok (.iaload, 1) := by decide +kernel
theorem dX12_findPlan_265 : decode cX12_findPlan 265 = .ok (.aload_n 0, 1) := by decide +kernel
theorem dX12_findPlan_266 : decode cX12_findPlan 266 = .ok (.getfield 113, 3) := by decide +kernel
theorem dX12_findPlan_269 : decode cX12_findPlan 269 = .ok (.iload_n 2, 1) := by decide +kernel
theorem dX12_findPlan_270 : decode cX12_findPlan 270 = .ok (.iaload, 1) := by decide +kernel
theorem dX12_findPlan_271 : decode cX12_findPlan 271 = .ok (.isub, 1) := by decide +kernel
theorem dX12_findPlan_272 : decode cX12_findPlan 272 = .ok (.iastore, 1) := by decide +kernel
theorem dX12_findPlan_273 : decode cX12_findPlan 273 = .ok (.iinc 3 1, 3) := by decide +kernel
theorem dX12_findPlan_276 : decode cX12_findPlan 276 = .ok (.iload 4, 2) := by decide +kernel
theorem dX12_findPlan_278 : decode cX12_findPlan 278 = .ok (.aload_n 0, 1) := by decide +kernel
theorem dX12_findPlan_279 : decode cX12_findPlan 279 = .ok (.getfield 113, 3) := by decide +kernel
theorem dX12_findPlan_282 : decode cX12_findPlan 282 = .ok (.iload_n 2, 1) := by decide +kernel
theorem dX12_findPlan_283 : decode cX12_findPlan 283 = .ok (.iaload, 1) := by decide +kernel
theorem dX12_findPlan_284 : decode cX12_findPlan 284 = .ok (.aload_n 0, 1) := by decide +kernel
theorem dX12_findPlan_285 : decode cX12_findPlan 285 = .ok (.getfield 55, 3) := by decide +kernel
theorem dX12_findPlan_288 : decode cX12_findPlan 288 = .ok (.iload 7, 2) := by decide +kernel
theorem dX12_findPlan_290 : decode cX12_findPlan 290 = .ok (.iaload, 1) := by decide +kernel
theorem dX12_findPlan_291 : decode cX12_findPlan 291 = .ok (.imul, 1) := by decide +kernel
theorem dX12_findPlan_292 : decode cX12_findPlan 292 = .ok (.iadd, 1) := by decide +kernel
theorem dX12_findPlan_293 : decode cX12_findPlan 293 = .ok (.istore 4, 2) := by decide +kernel
theorem dX12_findPlan_295 : decode cX12_findPlan 295 = .ok (.iinc 2 1, 3) := by decide +kernel
theorem dX12_findPlan_298 : decode cX12_findPlan 298 = .ok (.iload_n 2, 1) := by decide +kernel
theorem dX12_findPlan_299 : decode cX12_findPlan 299 = .ok (.aload_n 0, 1) := by decide +kernel
theorem dX12_findPlan_300 : decode cX12_findPlan 300 = .ok (.getfield 132, 3) := by decide +kernel
theorem dX12_findPlan_303 : decode cX12_findPlan 303 = .ok (.if_icmp .ge 10, 3) := by decide +kernel
theorem dX12_findPlan_306 : decode cX12_findPlan 306 = .ok (.aload_n 0, 1) := by decide +kernel
theorem dX12_findPlan_307 : decode cX12_findPlan 307 = .ok (.getfield 119, 3) := by decide +kernel
theorem dX12_findPlan_310 : decode cX12_findPlan 310 = .ok (.iload_n 2, 1) := by decide +kernel
theorem dX12_findPlan_311 : decode cX12_findPlan 311 = .ok (.iconst (-1), 1) := by decide +kernel
theorem dX12_findPlan_312 : decode cX12_findPlan 312 = .ok (.iastore, 1) := by decide +kernel
theorem dX12_findPlan_313 : decode cX12_findPlan 313 = .ok (.goto (-281), 3) := by decide +kernel
theorem dX12_findPlan_316 : decode cX12_findPlan 316 = .ok (.return_, 1) := by decide +kernel
theorem dX12_plan_0 : decode cX12_plan 0 = .ok (.iload_n 1, 1) := by decide +kernel
theorem dX12_plan_1 : decode cX12_plan 1 = .ok (.invokestatic 187, 3) := by decide +kernel
theorem dX12_plan_4 : decode cX12_plan 4 = .ok (.ifCond .eq 11, 3) := by decide +kernel
theorem dX12_plan_7 : decode cX12_plan 7 = .ok (.aload_n 0, 1) := by decide +kernel
theorem dX12_plan_8 : decode cX12_plan 8 = .ok (.iload_n 2, 1) := by decide +kernel
theorem dX12_plan_9 : decode cX12_plan 9 = .ok (.invokevirtual 178, 3) := by decide +kernel
theorem dX12_plan_12 : decode cX12_plan 12 = .ok (.ifCond .ne 5, 3) := by decide +kernel
theorem dX12_plan_15 : decode cX12_plan 15 = .ok (.iconst (-1), 1) := by decide +kernel
theorem dX12_plan_16 : decode cX12_plan 16 = .ok (.ireturn, 1) := by decide +kernel
theorem dX12_plan_17 : decode cX12_plan 17 = .ok (.aload_n 0, 1) := by decide +kernel
theorem dX12_plan_18 : decode cX12_plan 18 = .ok (.iload_n 1, 1) := by decide +kernel
theorem dX12_plan_19 : decode cX12_plan 19 = .ok (.invokevirtual 252, 3) := by decide +kernel
theorem dX12_plan_22 : decode cX12_plan 22 = .ok (.aload_n 0, 1) := by decide +kernel
theorem dX12_plan_23 : decode cX12_plan 23 = .ok (.getfield 125, 3) := by decide +kernel
theorem dX12_plan_26 : decode cX12_plan 26 = .ok (.iload_n 2, 1) := by decide +kernel
theorem dX12_plan_27 : decode cX12_plan 27 = .ok (.iaload, 1) := by decide +kernel
theorem dX12_plan_28 : decode cX12_plan 28 = .ok (.aload_n 0, 1) := by decide +kernel
theorem dX12_plan_29 : decode cX12_plan 29 = .ok (.getfield 135, 3) := by decide +kernel
theorem dX12_plan_32 : decode cX12_plan 32 = .ok (.if_icmp .ge 12, 3) := by decide +kernel
theorem dX12_plan_35 : decode cX12_plan 35 = .ok (.aload_n 0, 1) := by decide +kernel
theorem dX12_plan_36 : decode cX12_plan 36 = .ok (.getfield 125, 3) := by decide +kernel
theorem dX12_plan_39 : decode cX12_plan 39 = .ok (.iload_n 2, 1) := by decide +kernel
theorem dX12_plan_40 : decode cX12_plan 40 = .ok (.iaload, 1) := by decide +kernel
theorem dX12_plan_41 : decode cX12_plan 41 = .ok (.goto 5, 3) := by decide +kernel
theorem dX12_plan_44 : decode cX12_plan 44 = .ok (.bipush (-5), 2) := by decide +kernel
theorem dX12_plan_46 : decode cX12_plan 46 = .ok (.ireturn, 1) := by decide +kernel
theorem dX12_planned_0 : decode cX12_planned 0 = .ok (.iload_n 1, 1) := by decide +kernel
theorem dX12_planned_1 : decode cX12_planned 1 = .ok (.invokestatic 187, 3) := by decide +kernel
theorem dX12_planned_4 : decode cX12_planned 4 = .ok (.ifCond .eq 12, 3) := by decide +kernel
theorem dX12_planned_7 : decode cX12_planned 7 = .ok (.iload_n 2, 1) := by decide +kernel
theorem dX12_planned_8 : decode cX12_planned 8 = .ok (.iconst 0, 1) := by decide +kernel
theorem dX12_planned_9 : decode cX12_planned 9 = .ok (.iconst 2, 1) := by decide +kernel
theorem dX12_planned_10 : decode cX12_planned 10 = .ok (.invokestatic 128, 3) := by decide +kernel
theorem dX12_planned_13 : decode cX12_planned 13 = .ok (.ifCond .ne 5, 3) := by decide +kernel
theorem dX12_planned_16 : decode cX12_planned 16 = .ok (.iconst (-1), 1) := by decide +kernel
theorem dX12_planned_17 : decode cX12_planned 17 = .ok (.ireturn, 1) := by decide +kernel
theorem dX12_planned_18 : decode cX12_planned 18 = .ok (.aload_n 0, 1) := by decide +kernel
theorem dX12_planned_19 : decode cX12_planned 19 = .ok (.iload_n 1, 1) := by decide +kernel
theorem dX12_planned_20 : decode cX12_planned 20 = .ok (.invokevirtual 252, 3) := by decide +kernel
theorem dX12_planned_23 : decode cX12_planned 23 = .ok (.iload_n 2, 1) := by decide +kernel
theorem dX12_planned_24 : decode cX12_planned 24 = .ok (.ifCond .ne 10, 3) := by decide +kernel
theorem dX12_planned_27 : decode cX12_planned 27 = .ok (.aload_n 0, 1) := by decide +kernel
theorem dX12_planned_28 : decode cX12_planned 28 = .ok (.getfield 236, 3) := by decide +kernel
theorem dX12_planned_31 : decode cX12_planned 31 = .ok (.goto 19, 3) := by decide +kernel
theorem dX12_planned_34 : decode cX12_planned 34 = .ok (.iload_n 2, 1) := by decide +kernel
theorem dX12_planned_35 : decode cX12_planned 35 = .ok (.iconst 1, 1) := by decide +kernel
theorem dX12_planned_36 : decode cX12_planned 36 = .ok (.if_icmp .ne 10, 3) := by decide +kernel
theorem dX12_planned_39 : decode cX12_planned 39 = .ok (.aload_n 0, 1) := by decide +kernel
theorem dX12_planned_40 : decode cX12_planned 40 = .ok (.getfield 239, 3) := by decide +kernel
theorem dX12_planned_43 : decode cX12_planned 43 = .ok (.goto 7, 3) := by decide +kernel
theorem dX12_planned_46 : decode cX12_planned 46 = .ok (.aload_n 0, 1) := by decide +kernel
theorem dX12_planned_47 : decode cX12_planned 47 = .ok (.getfield 233, 3) := by decide +kernel
theorem dX12_planned_50 : decode cX12_planned 50 = .ok (.ireturn, 1) := by decide +kernel
theorem dX12_releaseMany_0 : decode cX12_releaseMany 0 = .ok (.iconst 0, 1) := by decide +kernel
theorem dX12_releaseMany_1 : decode cX12_releaseMany 1 = .ok (.istore_n 2, 1) := by decide +kernel
theorem dX12_releaseMany_2 : decode cX12_releaseMany 2 = .ok (.iconst 0, 1) := by decide +kernel
theorem dX12_releaseMany_3 : decode cX12_releaseMany 3 = .ok (.istore_n 3, 1) := by decide +kernel
theorem dX12_releaseMany_4 : decode cX12_releaseMany 4 = .ok (.iload_n 3, 1) := by decide +kernel
theorem dX12_releaseMany_5 : decode cX12_releaseMany 5 = .ok (.aload_n 0, 1) := by decide +kernel
theorem dX12_releaseMany_6 : decode cX12_releaseMany 6 = .ok (.getfield 132, 3) := by decide +kernel
theorem dX12_releaseMany_9 : decode cX12_releaseMany 9 = .ok (.if_icmp .ge 45, 3) := by decide +kernel
theorem dX12_releaseMany_12 : decode cX12_releaseMany 12 = .ok (.iload_n 2, 1) := by decide +kernel
theorem dX12_releaseMany_13 : decode cX12_releaseMany 13 = .ok (.aload_n 0, 1) := by decide +kernel
theorem dX12_releaseMany_14 : decode cX12_releaseMany 14 = .ok (.getfield 37, 3) := by decide +kernel
theorem dX12_releaseMany_17 : decode cX12_releaseMany 17 = .ok (.iconst 3, 1) := by decide +kernel
theorem dX12_releaseMany_18 : decode cX12_releaseMany 18 = .ok (.iload_n 3, 1) := by decide +kernel
theorem dX12_releaseMany_19 : decode cX12_releaseMany 19 = .ok (.imul, 1) := by decide +kernel
theorem dX12_releaseMany_20 : decode cX12_releaseMany 20 = .ok (.iload_n 1, 1) := by decide +kernel
theorem dX12_releaseMany_21 : decode cX12_releaseMany 21 = .ok (.iadd, 1) := by decide +kernel
theorem dX12_releaseMany_22 : decode cX12_releaseMany 22 = .ok (.iaload, 1) := by decide +kernel
theorem dX12_releaseMany_23 : decode cX12_releaseMany 23 = .ok (.iconst 2, 1) := by decide +kernel
theorem dX12_releaseMany_24 : decode cX12_releaseMany 24 = .ok (.if_icmp .ne 16, 3) := by decide +kernel
theorem dX12_releaseMany_27 : decode cX12_releaseMany 27 = .ok (.aload_n 0, 1) := by decide +kernel
theorem dX12_releaseMany_28 : decode cX12_releaseMany 28 = .ok (.getfield 43, 3) := by decide +kernel
theorem dX12_releaseMany_31 : decode cX12_releaseMany 31 = .ok (.iconst 3, 1) := by decide +kernel
theorem dX12_releaseMany_32 : decode cX12_releaseMany 32 = .ok (.iload_n 3, 1) := by decide +kernel
theorem dX12_releaseMany_33 : decode cX12_releaseMany 33 = .ok (.imul, 1) := by decide +kernel
theorem dX12_releaseMany_34 : decode cX12_releaseMany 34 = .ok (.iload_n 1, 1) := by decide +kernel
theorem dX12_releaseMany_35 : decode cX12_releaseMany 35 = .ok (.iadd, 1) := by decide +kernel
theorem dX12_releaseMany_36 : decode cX12_releaseMany 36 = .ok (.iaload, 1) := by decide +kernel
theorem dX12_releaseMany_37 : decode cX12_releaseMany 37 = .ok (.goto 9, 3) := by decide +kernel
theorem dX12_releaseMany_40 : decode cX12_releaseMany 40 = .ok (.aload_n 0, 1) := by decide +kernel
theorem dX12_releaseMany_41 : decode cX12_releaseMany 41 = .ok (.getfield 16, 3) := by decide +kernel
theorem dX12_releaseMany_44 : decode cX12_releaseMany 44 = .ok (.iload_n 3, 1) := by decide +kernel
theorem dX12_releaseMany_45 : decode cX12_releaseMany 45 = .ok (.iaload, 1) := by decide +kernel
theorem dX12_releaseMany_46 : decode cX12_releaseMany 46 = .ok (.iadd, 1) := by decide +kernel
theorem dX12_releaseMany_47 : decode cX12_releaseMany 47 = .ok (.istore_n 2, 1) := by decide +kernel
theorem dX12_releaseMany_48 : decode cX12_releaseMany 48 = .ok (.iinc 3 1, 3) := by decide +kernel
theorem dX12_releaseMany_51 : decode cX12_releaseMany 51 = .ok (.goto (-47), 3) := by decide +kernel
theorem dX12_releaseMany_54 : decode cX12_releaseMany 54 = .ok (.iload_n 2, 1) := by decide +kernel
theorem dX12_releaseMany_55 : decode cX12_releaseMany 55 = .ok (.ireturn, 1) := by decide +kernel
theorem dX12_release_0 : decode cX12_release 0 = .ok (.iload_n 1, 1) := by decide +kernel
theorem dX12_release_1 : decode cX12_release 1 = .ok (.invokestatic 187, 3) := by decide +kernel
theorem dX12_release_4 : decode cX12_release 4 = .ok (.ifCond .ne 5, 3) := by decide +kernel
theorem dX12_release_7 : decode cX12_release 7 = .ok (.iconst (-1), 1) := by decide +kernel
theorem dX12_release_8 : decode cX12_release 8 = .ok (.ireturn, 1) := by decide +kernel
theorem dX12_release_9 : decode cX12_release 9 = .ok (.iload_n 2, 1) := by decide +kernel
theorem dX12_release_10 : decode cX12_release 10 = .ok (.istore_n 3, 1) := by decide +kernel
theorem dX12_release_11 : decode cX12_release 11 = .ok (.iconst 0, 1) := by decide +kernel
theorem dX12_release_12 : decode cX12_release 12 = .ok (.istore 4, 2) := by decide +kernel
theorem dX12_release_14 : decode cX12_release 14 = .ok (.iload 4, 2) := by decide +kernel
theorem dX12_release_16 : decode cX12_release 16 = .ok (.aload_n 0, 1) := by decide +kernel
theorem dX12_release_17 : decode cX12_release 17 = .ok (.getfield 132, 3) := by decide +kernel
theorem dX12_release_20 : decode cX12_release 20 = .ok (.if_icmp .ge 107, 3) := by decide +kernel
theorem dX12_release_23 : decode cX12_release 23 = .ok (.iload_n 2, 1) := by decide +kernel
theorem dX12_release_24 : decode cX12_release 24 = .ok (.ifCond .lt 103, 3) := by decide +kernel
theorem dX12_release_27 : decode cX12_release 27 = .ok (.iconst 3, 1) := by decide +kernel
theorem dX12_release_28 : decode cX12_release 28 = .ok (.iload 4, 2) := by decide +kernel
theorem dX12_release_30 : decode cX12_release 30 = .ok (.imul, 1) := by decide +kernel
theorem dX12_release_31 : decode cX12_release 31 = .ok (.iload_n 1, 1) := by decide +kernel
theorem dX12_release_32 : decode cX12_release 32 = .ok (.iadd, 1) := by decide +kernel
theorem dX12_release_33 : decode cX12_release 33 = .ok (.istore 5, 2) := by decide +kernel
theorem dX12_release_35 : decode cX12_release 35 = .ok (.aload_n 0, 1) := by decide +kernel
theorem dX12_release_36 : decode cX12_release 36 = .ok (.getfield 37, 3) := by decide +kernel
theorem dX12_release_39 : decode cX12_release 39 = .ok (.iload 5, 2) := by decide +kernel
theorem dX12_release_41 : decode cX12_release 41 = .ok (.iaload, 1) := by decide +kernel
theorem dX12_release_42 : decode cX12_release 42 = .ok (.iconst 2, 1) := by decide +kernel
theorem dX12_release_43 : decode cX12_release 43 = .ok (.if_icmp .ne 7, 3) := by decide +kernel
theorem dX12_release_46 : decode cX12_release 46 = .ok (.iconst 1, 1) := by decide +kernel
theorem dX12_release_47 : decode cX12_release 47 = .ok (.goto 4, 3) := by decide +kernel
theorem dX12_release_50 : decode cX12_release 50 = .ok (.iconst 0, 1) := by decide +kernel
theorem dX12_release_51 : decode cX12_release 51 = .ok (.istore 6, 2) := by decide +kernel
theorem dX12_release_53 : decode cX12_release 53 = .ok (.iload 6, 2) := by decide +kernel
theorem dX12_release_55 : decode cX12_release 55 = .ok (.ifCond .eq 13, 3) := by decide +kernel
theorem dX12_release_58 : decode cX12_release 58 = .ok (.aload_n 0, 1) := by decide +kernel
theorem dX12_release_59 : decode cX12_release 59 = .ok (.getfield 43, 3) := by decide +kernel
theorem dX12_release_62 : decode cX12_release 62 = .ok (.iload 5, 2) := by decide +kernel
theorem dX12_release_64 : decode cX12_release 64 = .ok (.iaload, 1) := by decide +kernel
theorem dX12_release_65 : decode cX12_release 65 = .ok (.goto 10, 3) := by decide +kernel
theorem dX12_release_68 : decode cX12_release 68 = .ok (.aload_n 0, 1) := by decide +kernel
theorem dX12_release_69 : decode cX12_release 69 = .ok (.getfield 16, 3) := by decide +kernel
theorem dX12_release_72 : decode cX12_release 72 = .ok (.iload 4, 2) := by decide +kernel
theorem dX12_release_74 : decode cX12_release 74 = .ok (.iaload, 1) := by decide +kernel
theorem dX12_release_75 : decode cX12_release 75 = .ok (.istore 7, 2) := by decide +kernel
theorem dX12_release_77 : decode cX12_release 77 = .ok (.iload_n 3, 1) := by decide +kernel
theorem dX12_release_78 : decode cX12_release 78 = .ok (.iload 7, 2) := by decide +kernel
theorem dX12_release_80 : decode cX12_release 80 = .ok (.if_icmp .ge 36, 3) := by decide +kernel
theorem dX12_release_83 : decode cX12_release 83 = .ok (.iload 6, 2) := by decide +kernel
theorem dX12_release_85 : decode cX12_release 85 = .ok (.ifCond .eq 18, 3) := by decide +kernel
theorem dX12_release_88 : decode cX12_release 88 = .ok (.aload_n 0, 1) := by decide +kernel
theorem dX12_release_89 : decode cX12_release 89 = .ok (.getfield 46, 3) := by decide +kernel
theorem dX12_release_92 : decode cX12_release 92 = .ok (.bipush 10, 2) := by decide +kernel
theorem dX12_release_94 : decode cX12_release 94 = .ok (.iload 5, 2) := by decide +kernel
theorem dX12_release_96 : decode cX12_release 96 = .ok (.imul, 1) := by decide +kernel
theorem dX12_release_97 : decode cX12_release 97 = .ok (.iload_n 3, 1) := by decide +kernel
theorem dX12_release_98 : decode cX12_release 98 = .ok (.iadd, 1) := by decide +kernel
theorem dX12_release_99 : decode cX12_release 99 = .ok (.iaload, 1) := by decide +kernel
theorem dX12_release_100 : decode cX12_release 100 = .ok (.goto 15, 3) := by decide +kernel
theorem dX12_release_103 : decode cX12_release 103 = .ok (.aload_n 0, 1) := by decide +kernel
theorem dX12_release_104 : decode cX12_release 104 = .ok (.getfield 19, 3) := by decide +kernel
theorem dX12_release_107 : decode cX12_release 107 = .ok (.bipush 8, 2) := by decide +kernel
theorem dX12_release_109 : decode cX12_release 109 = .ok (.iload 4, 2) := by decide +kernel
theorem dX12_release_111 : decode cX12_release 111 = .ok (.imul, 1) := by decide +kernel
theorem dX12_release_112 : decode cX12_release 112 = .ok (.iload_n 3, 1) := by decide +kernel
theorem dX12_release_113 : decode cX12_release 113 = .ok (.iadd, 1) := by decide +kernel
theorem dX12_release_114 : decode cX12_release 114 = .ok (.iaload, 1) := by decide +kernel
theorem dX12_release_115 : decode cX12_release 115 = .ok (.ireturn, 1) := by decide +kernel
theorem dX12_release_116 : decode cX12_release 116 = .ok (.iload_n 3, 1) := by decide +kernel
theorem dX12_release_117 : decode cX12_release 117 = .ok (.iload 7, 2) := by decide +kernel
theorem dX12_release_119 : decode cX12_release 119 = .ok (.isub, 1) := by decide +kernel
theorem dX12_release_120 : decode cX12_release 120 = .ok (.istore_n 3, 1) := by decide +kernel
theorem dX12_release_121 : decode cX12_release 121 = .ok (.iinc 4 1, 3) := by decide +kernel
theorem dX12_release_124 : decode cX12_release 124 = .ok (.goto (-110), 3) := by decide +kernel
theorem dX12_release_127 : decode cX12_release 127 = .ok (.bipush (-5), 2) := by decide +kernel
theorem dX12_release_129 : decode cX12_release 129 = .ok (.ireturn, 1) := by decide +kernel
theorem dX12_inState_0 : decode cX12_inState 0 = .ok (.iconst 0, 1) := by decide +kernel
theorem dX12_inState_1 : decode cX12_inState 1 = .ok (.istore_n 2, 1) := by decide +kernel
theorem dX12_inState_2 : decode cX12_inState 2 = .ok (.iconst 0, 1) := by decide +kernel
theorem dX12_inState_3 : decode cX12_inState 3 = .ok (.istore_n 3, 1) := by decide +kernel
theorem dX12_inState_4 : decode cX12_inState 4 = .ok (.iload_n 3, 1) := by decide +kernel
theorem dX12_inState_5 : decode cX12_inState 5 = .ok (.aload_n 0, 1) := by decide +kernel
theorem dX12_inState_6 : decode cX12_inState 6 = .ok (.getfield 132, 3) := by decide +kernel
theorem dX12_inState_9 : decode cX12_inState 9 = .ok (.if_icmp .ge 47, 3) := by decide +kernel
theorem dX12_inState_12 : decode cX12_inState 12 = .ok (.iconst 0, 1) := by decide +kernel
theorem dX12_inState_13 : decode cX12_inState 13 = .ok (.istore 4, 2) := by decide +kernel
theorem dX12_inState_15 : decode cX12_inState 15 = .ok (.iload 4, 2) := by decide +kernel
theorem dX12_inState_17 : decode cX12_inState 17 = .ok (.iconst 3, 1) := by decide +kernel
theorem dX12_inState_18 : decode cX12_inState 18 = .ok (.if_icmp .ge 32, 3) := by decide +kernel
theorem dX12_inState_21 : decode cX12_inState 21 = .ok (.iload_n 2, 1) := by decide +kernel
theorem dX12_inState_22 : decode cX12_inState 22 = .ok (.aload_n 0, 1) := by decide +kernel
theorem dX12_inState_23 : decode cX12_inState 23 = .ok (.getfield 37, 3) := by decide +kernel
theorem dX12_inState_26 : decode cX12_inState 26 = .ok (.iconst 3, 1) := by decide +kernel
theorem dX12_inState_27 : decode cX12_inState 27 = .ok (.iload_n 3, 1) := by decide +kernel
theorem dX12_inState_28 : decode cX12_inState 28 = .ok (.imul, 1) := by decide +kernel
theorem dX12_inState_29 : decode cX12_inState 29 = .ok (.iload 4, 2) := by decide +kernel
theorem dX12_inState_31 : decode cX12_inState 31 = .ok (.iadd, 1) := by decide +kernel
theorem dX12_inState_32 : decode cX12_inState 32 = .ok (.iaload, 1) := by decide +kernel
theorem dX12_inState_33 : decode cX12_inState 33 = .ok (.iload_n 1, 1) := by decide +kernel
theorem dX12_inState_34 : decode cX12_inState 34 = .ok (.if_icmp .ne 7, 3) := by decide +kernel
theorem dX12_inState_37 : decode cX12_inState 37 = .ok (.iconst 1, 1) := by decide +kernel
theorem dX12_inState_38 : decode cX12_inState 38 = .ok (.goto 4, 3) := by decide +kernel
theorem dX12_inState_41 : decode cX12_inState 41 = .ok (.iconst 0, 1) := by decide +kernel
theorem dX12_inState_42 : decode cX12_inState 42 = .ok (.iadd, 1) := by decide +kernel
theorem dX12_inState_43 : decode cX12_inState 43 = .ok (.istore_n 2, 1) := by decide +kernel
theorem dX12_inState_44 : decode cX12_inState 44 = .ok (.iinc 4 1, 3) := by decide +kernel
theorem dX12_inState_47 : decode cX12_inState 47 = .ok (.goto (-32), 3) := by decide +kernel
theorem dX12_inState_50 : decode cX12_inState 50 = .ok (.iinc 3 1, 3) := by decide +kernel
theorem dX12_inState_53 : decode cX12_inState 53 = .ok (.goto (-49), 3) := by decide +kernel
theorem dX12_inState_56 : decode cX12_inState 56 = .ok (.iload_n 2, 1) := by decide +kernel
theorem dX12_inState_57 : decode cX12_inState 57 = .ok (.ireturn, 1) := by decide +kernel
theorem dX12_many_0 : decode cX12_many 0 = .ok (.iload_n 1, 1) := by decide +kernel
theorem dX12_many_1 : decode cX12_many 1 = .ok (.tableswitch 110 0 11 #[63, 68, 73, 78, 83, 88, 93, 93, 93, 101, 101, 101], 63) := by decide +kernel
theorem dX12_many_64 : decode cX12_many 64 = .ok (.aload_n 0, 1) := by decide +kernel
theorem dX12_many_65 : decode cX12_many 65 = .ok (.getfield 132, 3) := by decide +kernel
theorem dX12_many_68 : decode cX12_many 68 = .ok (.ireturn, 1) := by decide +kernel
theorem dX12_many_69 : decode cX12_many 69 = .ok (.aload_n 0, 1) := by decide +kernel
theorem dX12_many_70 : decode cX12_many 70 = .ok (.getfield 155, 3) := by decide +kernel
theorem dX12_many_73 : decode cX12_many 73 = .ok (.ireturn, 1) := by decide +kernel
theorem dX12_many_74 : decode cX12_many 74 = .ok (.aload_n 0, 1) := by decide +kernel
theorem dX12_many_75 : decode cX12_many 75 = .ok (.getfield 148, 3) := by decide +kernel
theorem dX12_many_78 : decode cX12_many 78 = .ok (.ireturn, 1) := by decide +kernel
theorem dX12_many_79 : decode cX12_many 79 = .ok (.aload_n 0, 1) := by decide +kernel
theorem dX12_many_80 : decode cX12_many 80 = .ok (.getfield 135, 3) := by decide +kernel
theorem dX12_many_83 : decode cX12_many 83 = .ok (.ireturn, 1) := by decide +kernel
theorem dX12_many_84 : decode cX12_many 84 = .ok (.aload_n 0, 1) := by decide +kernel
theorem dX12_many_85 : decode cX12_many 85 = .ok (.getfield 184, 3) := by decide +kernel
theorem dX12_many_88 : decode cX12_many 88 = .ok (.ireturn, 1) := by decide +kernel
theorem dX12_many_89 : decode cX12_many 89 = .ok (.aload_n 0, 1) := by decide +kernel
theorem dX12_many_90 : decode cX12_many 90 = .ok (.getfield 207, 3) := by decide +kernel
theorem dX12_many_93 : decode cX12_many 93 = .ok (.ireturn, 1) := by decide +kernel
theorem dX12_many_94 : decode cX12_many 94 = .ok (.aload_n 0, 1) := by decide +kernel
theorem dX12_many_95 : decode cX12_many 95 = .ok (.iload_n 1, 1) := by decide +kernel
theorem dX12_many_96 : decode cX12_many 96 = .ok (.iconst 5, 1) := by decide +kernel
theorem dX12_many_97 : decode cX12_many 97 = .ok (.isub, 1) := by decide +kernel
theorem dX12_many_98 : decode cX12_many 98 = .ok (.invokevirtual 255, 3) := by decide +kernel
theorem dX12_many_101 : decode cX12_many 101 = .ok (.ireturn, 1) := by decide +kernel
theorem dX12_many_102 : decode cX12_many 102 = .ok (.aload_n 0, 1) := by decide +kernel
theorem dX12_many_103 : decode cX12_many 103 = .ok (.iload_n 1, 1) := by decide +kernel
theorem dX12_many_104 : decode cX12_many 104 = .ok (.bipush 9, 2) := by decide +kernel
theorem dX12_many_106 : decode cX12_many 106 = .ok (.isub, 1) := by decide +kernel
theorem dX12_many_107 : decode cX12_many 107 = .ok (.invokevirtual 259, 3) := by decide +kernel
theorem dX12_many_110 : decode cX12_many 110 = .ok (.ireturn, 1) := by decide +kernel
theorem dX12_many_111 : decode cX12_many 111 = .ok (.iconst (-1), 1) := by decide +kernel
theorem dX12_many_112 : decode cX12_many 112 = .ok (.ireturn, 1) := by decide +kernel
theorem dX12_keep_0 : decode cX12_keep 0 = .ok (.aload_n 0, 1) := by decide +kernel
theorem dX12_keep_1 : decode cX12_keep 1 = .ok (.iconst 1, 1) := by decide +kernel
theorem dX12_keep_2 : decode cX12_keep 2 = .ok (.putfield 262, 3) := by decide +kernel
theorem dX12_keep_5 : decode cX12_keep 5 = .ok (.aload_n 0, 1) := by decide +kernel
theorem dX12_keep_6 : decode cX12_keep 6 = .ok (.getfield 74, 3) := by decide +kernel
theorem dX12_keep_9 : decode cX12_keep 9 = .ok (.iconst 0, 1) := by decide +kernel
theorem dX12_keep_10 : decode cX12_keep 10 = .ok (.aload_n 0, 1) := by decide +kernel
theorem dX12_keep_11 : decode cX12_keep 11 = .ok (.getfield 132, 3) := by decide +kernel
theorem dX12_keep_14 : decode cX12_keep 14 = .ok (.iastore, 1) := by decide +kernel
theorem dX12_keep_15 : decode cX12_keep 15 = .ok (.aload_n 0, 1) := by decide +kernel
theorem dX12_keep_16 : decode cX12_keep 16 = .ok (.getfield 74, 3) := by decide +kernel
theorem dX12_keep_19 : decode cX12_keep 19 = .ok (.iconst 1, 1) := by decide +kernel
theorem dX12_keep_20 : decode cX12_keep 20 = .ok (.aload_n 0, 1) := by decide +kernel
theorem dX12_keep_21 : decode cX12_keep 21 = .ok (.getfield 207, 3) := by decide +kernel
theorem dX12_keep_24 : decode cX12_keep 24 = .ok (.iastore, 1) := by decide +kernel
theorem dX12_keep_25 : decode cX12_keep 25 = .ok (.iconst 0, 1) := by decide +kernel
theorem dX12_keep_26 : decode cX12_keep 26 = .ok (.istore_n 1, 1) := by decide +kernel
theorem dX12_keep_27 : decode cX12_keep 27 = .ok (.iload_n 1, 1) := by decide +kernel
theorem dX12_keep_28 : decode cX12_keep 28 = .ok (.bipush 8, 2) := by decide +kernel
theorem dX12_keep_30 : decode cX12_keep 30 = .ok (.if_icmp .ge 66, 3) := by decide +kernel
theorem dX12_keep_33 : decode cX12_keep 33 = .ok (.aload_n 0, 1) := by decide +kernel
theorem dX12_keep_34 : decode cX12_keep 34 = .ok (.getfield 77, 3) := by decide +kernel
theorem dX12_keep_37 : decode cX12_keep 37 = .ok (.iload_n 1, 1) := by decide +kernel
theorem dX12_keep_38 : decode cX12_keep 38 = .ok (.aload_n 0, 1) := by decide +kernel
theorem dX12_keep_39 : decode cX12_keep 39 = .ok (.getfield 13, 3) := by decide +kernel
theorem dX12_keep_42 : decode cX12_keep 42 = .ok (.iload_n 1, 1) := by decide +kernel
theorem dX12_keep_43 : decode cX12_keep 43 = .ok (.iaload, 1) := by decide +kernel
theorem dX12_keep_44 : decode cX12_keep 44 = .ok (.iastore, 1) := by decide +kernel
theorem dX12_keep_45 : decode cX12_keep 45 = .ok (.aload_n 0, 1) := by decide +kernel
theorem dX12_keep_46 : decode cX12_keep 46 = .ok (.getfield 77, 3) := by decide +kernel
theorem dX12_keep_49 : decode cX12_keep 49 = .ok (.bipush 8, 2) := by decide +kernel
theorem dX12_keep_51 : decode cX12_keep 51 = .ok (.iload_n 1, 1) := by decide +kernel
theorem dX12_keep_52 : decode cX12_keep 52 = .ok (.iadd, 1) := by decide +kernel
theorem dX12_keep_53 : decode cX12_keep 53 = .ok (.aload_n 0, 1) := by decide +kernel
theorem dX12_keep_54 : decode cX12_keep 54 = .ok (.getfield 16, 3) := by decide +kernel
theorem dX12_keep_57 : decode cX12_keep 57 = .ok (.iload_n 1, 1) := by decide +kernel
theorem dX12_keep_58 : decode cX12_keep 58 = .ok (.iaload, 1) := by decide +kernel
theorem dX12_keep_59 : decode cX12_keep 59 = .ok (.iastore, 1) := by decide +kernel
theorem dX12_keep_60 : decode cX12_keep 60 = .ok (.aload_n 0, 1) := by decide +kernel
theorem dX12_keep_61 : decode cX12_keep 61 = .ok (.getfield 77, 3) := by decide +kernel
theorem dX12_keep_64 : decode cX12_keep 64 = .ok (.bipush 16, 2) := by decide +kernel
theorem dX12_keep_66 : decode cX12_keep 66 = .ok (.iload_n 1, 1) := by decide +kernel
theorem dX12_keep_67 : decode cX12_keep 67 = .ok (.iadd, 1) := by decide +kernel
theorem dX12_keep_68 : decode cX12_keep 68 = .ok (.aload_n 0, 1) := by decide +kernel
theorem dX12_keep_69 : decode cX12_keep 69 = .ok (.getfield 22, 3) := by decide +kernel
theorem dX12_keep_72 : decode cX12_keep 72 = .ok (.iload_n 1, 1) := by decide +kernel
theorem dX12_keep_73 : decode cX12_keep 73 = .ok (.iaload, 1) := by decide +kernel
theorem dX12_keep_74 : decode cX12_keep 74 = .ok (.iastore, 1) := by decide +kernel
theorem dX12_keep_75 : decode cX12_keep 75 = .ok (.aload_n 0, 1) := by decide +kernel
theorem dX12_keep_76 : decode cX12_keep 76 = .ok (.getfield 77, 3) := by decide +kernel
theorem dX12_keep_79 : decode cX12_keep 79 = .ok (.bipush 24, 2) := by decide +kernel
theorem dX12_keep_81 : decode cX12_keep 81 = .ok (.iload_n 1, 1) := by decide +kernel
theorem dX12_keep_82 : decode cX12_keep 82 = .ok (.iadd, 1) := by decide +kernel
theorem dX12_keep_83 : decode cX12_keep 83 = .ok (.aload_n 0, 1) := by decide +kernel
theorem dX12_keep_84 : decode cX12_keep 84 = .ok (.getfield 25, 3) := by decide +kernel
theorem dX12_keep_87 : decode cX12_keep 87 = .ok (.iload_n 1, 1) := by decide +kernel
theorem dX12_keep_88 : decode cX12_keep 88 = .ok (.iaload, 1) := by decide +kernel
theorem dX12_keep_89 : decode cX12_keep 89 = .ok (.iastore, 1) := by decide +kernel
theorem dX12_keep_90 : decode cX12_keep 90 = .ok (.iinc 1 1, 3) := by decide +kernel
theorem dX12_keep_93 : decode cX12_keep 93 = .ok (.goto (-66), 3) := by decide +kernel
theorem dX12_keep_96 : decode cX12_keep 96 = .ok (.iconst 0, 1) := by decide +kernel
theorem dX12_keep_97 : decode cX12_keep 97 = .ok (.istore_n 1, 1) := by decide +kernel
theorem dX12_keep_98 : decode cX12_keep 98 = .ok (.iload_n 1, 1) := by decide +kernel
theorem dX12_keep_99 : decode cX12_keep 99 = .ok (.bipush 64, 2) := by decide +kernel
theorem dX12_keep_101 : decode cX12_keep 101 = .ok (.if_icmp .ge 24, 3) := by decide +kernel
theorem dX12_keep_104 : decode cX12_keep 104 = .ok (.aload_n 0, 1) := by decide +kernel
theorem dX12_keep_105 : decode cX12_keep 105 = .ok (.getfield 77, 3) := by decide +kernel
theorem dX12_keep_108 : decode cX12_keep 108 = .ok (.bipush 32, 2) := by decide +kernel
theorem dX12_keep_110 : decode cX12_keep 110 = .ok (.iload_n 1, 1) := by decide +kernel
theorem dX12_keep_111 : decode cX12_keep 111 = .ok (.iadd, 1) := by decide +kernel
theorem dX12_keep_112 : decode cX12_keep 112 = .ok (.aload_n 0, 1) := by decide +kernel
theorem dX12_keep_113 : decode cX12_keep 113 = .ok (.getfield 19, 3) := by decide +kernel
theorem dX12_keep_116 : decode cX12_keep 116 = .ok (.iload_n 1, 1) := by decide +kernel
theorem dX12_keep_117 : decode cX12_keep 117 = .ok (.iaload, 1) := by decide +kernel
theorem dX12_keep_118 : decode cX12_keep 118 = .ok (.iastore, 1) := by decide +kernel
theorem dX12_keep_119 : decode cX12_keep 119 = .ok (.iinc 1 1, 3) := by decide +kernel
theorem dX12_keep_122 : decode cX12_keep 122 = .ok (.goto (-24), 3) := by decide +kernel
theorem dX12_keep_125 : decode cX12_keep 125 = .ok (.iconst 0, 1) := by decide +kernel
theorem dX12_keep_126 : decode cX12_keep 126 = .ok (.istore_n 1, 1) := by decide +kernel
theorem dX12_keep_127 : decode cX12_keep 127 = .ok (.iload_n 1, 1) := by decide +kernel
theorem dX12_keep_128 : decode cX12_keep 128 = .ok (.bipush 24, 2) := by decide +kernel
theorem dX12_keep_130 : decode cX12_keep 130 = .ok (.if_icmp .ge 51, 3) := by decide +kernel
theorem dX12_keep_133 : decode cX12_keep 133 = .ok (.aload_n 0, 1) := by decide +kernel
theorem dX12_keep_134 : decode cX12_keep 134 = .ok (.getfield 80, 3) := by decide +kernel
theorem dX12_keep_137 : decode cX12_keep 137 = .ok (.iload_n 1, 1) := by decide +kernel
theorem dX12_keep_138 : decode cX12_keep 138 = .ok (.aload_n 0, 1) := by decide +kernel
theorem dX12_keep_139 : decode cX12_keep 139 = .ok (.getfield 37, 3) := by decide +kernel
theorem dX12_keep_142 : decode cX12_keep 142 = .ok (.iload_n 1, 1) := by decide +kernel
theorem dX12_keep_143 : decode cX12_keep 143 = .ok (.iaload, 1) := by decide +kernel
theorem dX12_keep_144 : decode cX12_keep 144 = .ok (.iastore, 1) := by decide +kernel
theorem dX12_keep_145 : decode cX12_keep 145 = .ok (.aload_n 0, 1) := by decide +kernel
theorem dX12_keep_146 : decode cX12_keep 146 = .ok (.getfield 80, 3) := by decide +kernel
theorem dX12_keep_149 : decode cX12_keep 149 = .ok (.bipush 24, 2) := by decide +kernel
theorem dX12_keep_151 : decode cX12_keep 151 = .ok (.iload_n 1, 1) := by decide +kernel
theorem dX12_keep_152 : decode cX12_keep 152 = .ok (.iadd, 1) := by decide +kernel
theorem dX12_keep_153 : decode cX12_keep 153 = .ok (.aload_n 0, 1) := by decide +kernel
theorem dX12_keep_154 : decode cX12_keep 154 = .ok (.getfield 40, 3) := by decide +kernel
theorem dX12_keep_157 : decode cX12_keep 157 = .ok (.iload_n 1, 1) := by decide +kernel
theorem dX12_keep_158 : decode cX12_keep 158 = .ok (.iaload, 1) := by decide +kernel
theorem dX12_keep_159 : decode cX12_keep 159 = .ok (.iastore, 1) := by decide +kernel
theorem dX12_keep_160 : decode cX12_keep 160 = .ok (.aload_n 0, 1) := by decide +kernel
theorem dX12_keep_161 : decode cX12_keep 161 = .ok (.getfield 80, 3) := by decide +kernel
theorem dX12_keep_164 : decode cX12_keep 164 = .ok (.bipush 48, 2) := by decide +kernel
theorem dX12_keep_166 : decode cX12_keep 166 = .ok (.iload_n 1, 1) := by decide +kernel
theorem dX12_keep_167 : decode cX12_keep 167 = .ok (.iadd, 1) := by decide +kernel
theorem dX12_keep_168 : decode cX12_keep 168 = .ok (.aload_n 0, 1) := by decide +kernel
theorem dX12_keep_169 : decode cX12_keep 169 = .ok (.getfield 43, 3) := by decide +kernel
theorem dX12_keep_172 : decode cX12_keep 172 = .ok (.iload_n 1, 1) := by decide +kernel
theorem dX12_keep_173 : decode cX12_keep 173 = .ok (.iaload, 1) := by decide +kernel
theorem dX12_keep_174 : decode cX12_keep 174 = .ok (.iastore, 1) := by decide +kernel
theorem dX12_keep_175 : decode cX12_keep 175 = .ok (.iinc 1 1, 3) := by decide +kernel
theorem dX12_keep_178 : decode cX12_keep 178 = .ok (.goto (-51), 3) := by decide +kernel
theorem dX12_keep_181 : decode cX12_keep 181 = .ok (.iconst 0, 1) := by decide +kernel
theorem dX12_keep_182 : decode cX12_keep 182 = .ok (.istore_n 1, 1) := by decide +kernel
theorem dX12_keep_183 : decode cX12_keep 183 = .ok (.iload_n 1, 1) := by decide +kernel
theorem dX12_keep_184 : decode cX12_keep 184 = .ok (.sipush 240, 3) := by decide +kernel
theorem dX12_keep_187 : decode cX12_keep 187 = .ok (.if_icmp .ge 24, 3) := by decide +kernel
theorem dX12_keep_190 : decode cX12_keep 190 = .ok (.aload_n 0, 1) := by decide +kernel
theorem dX12_keep_191 : decode cX12_keep 191 = .ok (.getfield 80, 3) := by decide +kernel
theorem dX12_keep_194 : decode cX12_keep 194 = .ok (.bipush 72, 2) := by decide +kernel
theorem dX12_keep_196 : decode cX12_keep 196 = .ok (.iload_n 1, 1) := by decide +kernel
theorem dX12_keep_197 : decode cX12_keep 197 = .ok (.iadd, 1) := by decide +kernel
theorem dX12_keep_198 : decode cX12_keep 198 = .ok (.aload_n 0, 1) := by decide +kernel
theorem dX12_keep_199 : decode cX12_keep 199 = .ok (.getfield 46, 3) := by decide +kernel
theorem dX12_keep_202 : decode cX12_keep 202 = .ok (.iload_n 1, 1) := by decide +kernel
theorem dX12_keep_203 : decode cX12_keep 203 = .ok (.iaload, 1) := by decide +kernel
theorem dX12_keep_204 : decode cX12_keep 204 = .ok (.iastore, 1) := by decide +kernel
theorem dX12_keep_205 : decode cX12_keep 205 = .ok (.iinc 1 1, 3) := by decide +kernel
theorem dX12_keep_208 : decode cX12_keep 208 = .ok (.goto (-25), 3) := by decide +kernel
theorem dX12_keep_211 : decode cX12_keep 211 = .ok (.aload_n 0, 1) := by decide +kernel
theorem dX12_keep_212 : decode cX12_keep 212 = .ok (.getfield 71, 3) := by decide +kernel
theorem dX12_keep_215 : decode cX12_keep 215 = .ok (.aload_n 0, 1) := by decide +kernel
theorem dX12_keep_216 : decode cX12_keep 216 = .ok (.getfield 83, 3) := by decide +kernel
theorem dX12_keep_219 : decode cX12_keep 219 = .ok (.sipush 420, 3) := by decide +kernel
theorem dX12_keep_222 : decode cX12_keep 222 = .ok (.invokestatic 170, 3) := by decide +kernel
theorem dX12_keep_225 : decode cX12_keep 225 = .ok (.iconst 1, 1) := by decide +kernel
theorem dX12_keep_226 : decode cX12_keep 226 = .ok (.ireturn, 1) := by decide +kernel
theorem dX12_back_0 : decode cX12_back 0 = .ok (.aload_n 0, 1) := by decide +kernel
theorem dX12_back_1 : decode cX12_back 1 = .ok (.getfield 262, 3) := by decide +kernel
theorem dX12_back_4 : decode cX12_back 4 = .ok (.ifCond .ne 6, 3) := by decide +kernel
theorem dX12_back_7 : decode cX12_back 7 = .ok (.bipush (-5), 2) := by decide +kernel
theorem dX12_back_9 : decode cX12_back 9 = .ok (.ireturn, 1) := by decide +kernel
theorem dX12_back_10 : decode cX12_back 10 = .ok (.aload_n 0, 1) := by decide +kernel
theorem dX12_back_11 : decode cX12_back 11 = .ok (.aload_n 0, 1) := by decide +kernel
theorem dX12_back_12 : decode cX12_back 12 = .ok (.getfield 74, 3) := by decide +kernel
theorem dX12_back_15 : decode cX12_back 15 = .ok (.iconst 0, 1) := by decide +kernel
theorem dX12_back_16 : decode cX12_back 16 = .ok (.iaload, 1) := by decide +kernel
theorem dX12_back_17 : decode cX12_back 17 = .ok (.putfield 132, 3) := by decide +kernel
theorem dX12_back_20 : decode cX12_back 20 = .ok (.aload_n 0, 1) := by decide +kernel
theorem dX12_back_21 : decode cX12_back 21 = .ok (.aload_n 0, 1) := by decide +kernel
theorem dX12_back_22 : decode cX12_back 22 = .ok (.getfield 74, 3) := by decide +kernel
theorem dX12_back_25 : decode cX12_back 25 = .ok (.iconst 1, 1) := by decide +kernel
theorem dX12_back_26 : decode cX12_back 26 = .ok (.iaload, 1) := by decide +kernel
theorem dX12_back_27 : decode cX12_back 27 = .ok (.putfield 207, 3) := by decide +kernel
theorem dX12_back_30 : decode cX12_back 30 = .ok (.iconst 0, 1) := by decide +kernel
theorem dX12_back_31 : decode cX12_back 31 = .ok (.istore_n 1, 1) := by decide +kernel
theorem dX12_back_32 : decode cX12_back 32 = .ok (.iload_n 1, 1) := by decide +kernel
theorem dX12_back_33 : decode cX12_back 33 = .ok (.bipush 8, 2) := by decide +kernel
theorem dX12_back_35 : decode cX12_back 35 = .ok (.if_icmp .ge 66, 3) := by decide +kernel
theorem dX12_back_38 : decode cX12_back 38 = .ok (.aload_n 0, 1) := by decide +kernel
theorem dX12_back_39 : decode cX12_back 39 = .ok (.getfield 13, 3) := by decide +kernel
theorem dX12_back_42 : decode cX12_back 42 = .ok (.iload_n 1, 1) := by decide +kernel
theorem dX12_back_43 : decode cX12_back 43 = .ok (.aload_n 0, 1) := by decide +kernel
theorem dX12_back_44 : decode cX12_back 44 = .ok (.getfield 77, 3) := by decide +kernel
theorem dX12_back_47 : decode cX12_back 47 = .ok (.iload_n 1, 1) := by decide +kernel
theorem dX12_back_48 : decode cX12_back 48 = .ok (.iaload, 1) := by decide +kernel
theorem dX12_back_49 : decode cX12_back 49 = .ok (.iastore, 1) := by decide +kernel
theorem dX12_back_50 : decode cX12_back 50 = .ok (.aload_n 0, 1) := by decide +kernel
theorem dX12_back_51 : decode cX12_back 51 = .ok (.getfield 16, 3) := by decide +kernel
theorem dX12_back_54 : decode cX12_back 54 = .ok (.iload_n 1, 1) := by decide +kernel
theorem dX12_back_55 : decode cX12_back 55 = .ok (.aload_n 0, 1) := by decide +kernel
theorem dX12_back_56 : decode cX12_back 56 = .ok (.getfield 77, 3) := by decide +kernel
theorem dX12_back_59 : decode cX12_back 59 = .ok (.bipush 8, 2) := by decide +kernel
theorem dX12_back_61 : decode cX12_back 61 = .ok (.iload_n 1, 1) := by decide +kernel
theorem dX12_back_62 : decode cX12_back 62 = .ok (.iadd, 1) := by decide +kernel
theorem dX12_back_63 : decode cX12_back 63 = .ok (.iaload, 1) := by decide +kernel
theorem dX12_back_64 : decode cX12_back 64 = .ok (.iastore, 1) := by decide +kernel
theorem dX12_back_65 : decode cX12_back 65 = .ok (.aload_n 0, 1) := by decide +kernel
theorem dX12_back_66 : decode cX12_back 66 = .ok (.getfield 22, 3) := by decide +kernel
theorem dX12_back_69 : decode cX12_back 69 = .ok (.iload_n 1, 1) := by decide +kernel
theorem dX12_back_70 : decode cX12_back 70 = .ok (.aload_n 0, 1) := by decide +kernel
theorem dX12_back_71 : decode cX12_back 71 = .ok (.getfield 77, 3) := by decide +kernel
theorem dX12_back_74 : decode cX12_back 74 = .ok (.bipush 16, 2) := by decide +kernel
theorem dX12_back_76 : decode cX12_back 76 = .ok (.iload_n 1, 1) := by decide +kernel
theorem dX12_back_77 : decode cX12_back 77 = .ok (.iadd, 1) := by decide +kernel
theorem dX12_back_78 : decode cX12_back 78 = .ok (.iaload, 1) := by decide +kernel
theorem dX12_back_79 : decode cX12_back 79 = .ok (.iastore, 1) := by decide +kernel
theorem dX12_back_80 : decode cX12_back 80 = .ok (.aload_n 0, 1) := by decide +kernel
theorem dX12_back_81 : decode cX12_back 81 = .ok (.getfield 25, 3) := by decide +kernel
theorem dX12_back_84 : decode cX12_back 84 = .ok (.iload_n 1, 1) := by decide +kernel
theorem dX12_back_85 : decode cX12_back 85 = .ok (.aload_n 0, 1) := by decide +kernel
theorem dX12_back_86 : decode cX12_back 86 = .ok (.getfield 77, 3) := by decide +kernel
theorem dX12_back_89 : decode cX12_back 89 = .ok (.bipush 24, 2) := by decide +kernel
theorem dX12_back_91 : decode cX12_back 91 = .ok (.iload_n 1, 1) := by decide +kernel
theorem dX12_back_92 : decode cX12_back 92 = .ok (.iadd, 1) := by decide +kernel
theorem dX12_back_93 : decode cX12_back 93 = .ok (.iaload, 1) := by decide +kernel
theorem dX12_back_94 : decode cX12_back 94 = .ok (.iastore, 1) := by decide +kernel
theorem dX12_back_95 : decode cX12_back 95 = .ok (.iinc 1 1, 3) := by decide +kernel
theorem dX12_back_98 : decode cX12_back 98 = .ok (.goto (-66), 3) := by decide +kernel
theorem dX12_back_101 : decode cX12_back 101 = .ok (.iconst 0, 1) := by decide +kernel
theorem dX12_back_102 : decode cX12_back 102 = .ok (.istore_n 1, 1) := by decide +kernel
theorem dX12_back_103 : decode cX12_back 103 = .ok (.iload_n 1, 1) := by decide +kernel
theorem dX12_back_104 : decode cX12_back 104 = .ok (.bipush 64, 2) := by decide +kernel
theorem dX12_back_106 : decode cX12_back 106 = .ok (.if_icmp .ge 24, 3) := by decide +kernel
theorem dX12_back_109 : decode cX12_back 109 = .ok (.aload_n 0, 1) := by decide +kernel
theorem dX12_back_110 : decode cX12_back 110 = .ok (.getfield 19, 3) := by decide +kernel
theorem dX12_back_113 : decode cX12_back 113 = .ok (.iload_n 1, 1) := by decide +kernel
theorem dX12_back_114 : decode cX12_back 114 = .ok (.aload_n 0, 1) := by decide +kernel
theorem dX12_back_115 : decode cX12_back 115 = .ok (.getfield 77, 3) := by decide +kernel
theorem dX12_back_118 : decode cX12_back 118 = .ok (.bipush 32, 2) := by decide +kernel
theorem dX12_back_120 : decode cX12_back 120 = .ok (.iload_n 1, 1) := by decide +kernel
theorem dX12_back_121 : decode cX12_back 121 = .ok (.iadd, 1) := by decide +kernel
theorem dX12_back_122 : decode cX12_back 122 = .ok (.iaload, 1) := by decide +kernel
theorem dX12_back_123 : decode cX12_back 123 = .ok (.iastore, 1) := by decide +kernel
theorem dX12_back_124 : decode cX12_back 124 = .ok (.iinc 1 1, 3) := by decide +kernel
theorem dX12_back_127 : decode cX12_back 127 = .ok (.goto (-24), 3) := by decide +kernel
theorem dX12_back_130 : decode cX12_back 130 = .ok (.iconst 0, 1) := by decide +kernel
theorem dX12_back_131 : decode cX12_back 131 = .ok (.istore_n 1, 1) := by decide +kernel
theorem dX12_back_132 : decode cX12_back 132 = .ok (.iload_n 1, 1) := by decide +kernel
theorem dX12_back_133 : decode cX12_back 133 = .ok (.bipush 24, 2) := by decide +kernel
theorem dX12_back_135 : decode cX12_back 135 = .ok (.if_icmp .ge 51, 3) := by decide +kernel
theorem dX12_back_138 : decode cX12_back 138 = .ok (.aload_n 0, 1) := by decide +kernel
theorem dX12_back_139 : decode cX12_back 139 = .ok (.getfield 37, 3) := by decide +kernel
theorem dX12_back_142 : decode cX12_back 142 = .ok (.iload_n 1, 1) := by decide +kernel
theorem dX12_back_143 : decode cX12_back 143 = .ok (.aload_n 0, 1) := by decide +kernel
theorem dX12_back_144 : decode cX12_back 144 = .ok (.getfield 80, 3) := by decide +kernel
theorem dX12_back_147 : decode cX12_back 147 = .ok (.iload_n 1, 1) := by decide +kernel
theorem dX12_back_148 : decode cX12_back 148 = .ok (.iaload, 1) := by decide +kernel
theorem dX12_back_149 : decode cX12_back 149 = .ok (.iastore, 1) := by decide +kernel
theorem dX12_back_150 : decode cX12_back 150 = .ok (.aload_n 0, 1) := by decide +kernel
theorem dX12_back_151 : decode cX12_back 151 = .ok (.getfield 40, 3) := by decide +kernel
theorem dX12_back_154 : decode cX12_back 154 = .ok (.iload_n 1, 1) := by decide +kernel
theorem dX12_back_155 : decode cX12_back 155 = .ok (.aload_n 0, 1) := by decide +kernel
theorem dX12_back_156 : decode cX12_back 156 = .ok (.getfield 80, 3) := by decide +kernel
theorem dX12_back_159 : decode cX12_back 159 = .ok (.bipush 24, 2) := by decide +kernel
theorem dX12_back_161 : decode cX12_back 161 = .ok (.iload_n 1, 1) := by decide +kernel
theorem dX12_back_162 : decode cX12_back 162 = .ok (.iadd, 1) := by decide +kernel
theorem dX12_back_163 : decode cX12_back 163 = .ok (.iaload, 1) := by decide +kernel
theorem dX12_back_164 : decode cX12_back 164 = .ok (.iastore, 1) := by decide +kernel
theorem dX12_back_165 : decode cX12_back 165 = .ok (.aload_n 0, 1) := by decide +kernel
theorem dX12_back_166 : decode cX12_back 166 = .ok (.getfield 43, 3) := by decide +kernel
theorem dX12_back_169 : decode cX12_back 169 = .ok (.iload_n 1, 1) := by decide +kernel
theorem dX12_back_170 : decode cX12_back 170 = .ok (.aload_n 0, 1) := by decide +kernel
theorem dX12_back_171 : decode cX12_back 171 = .ok (.getfield 80, 3) := by decide +kernel
theorem dX12_back_174 : decode cX12_back 174 = .ok (.bipush 48, 2) := by decide +kernel
theorem dX12_back_176 : decode cX12_back 176 = .ok (.iload_n 1, 1) := by decide +kernel
theorem dX12_back_177 : decode cX12_back 177 = .ok (.iadd, 1) := by decide +kernel
theorem dX12_back_178 : decode cX12_back 178 = .ok (.iaload, 1) := by decide +kernel
theorem dX12_back_179 : decode cX12_back 179 = .ok (.iastore, 1) := by decide +kernel
theorem dX12_back_180 : decode cX12_back 180 = .ok (.iinc 1 1, 3) := by decide +kernel
theorem dX12_back_183 : decode cX12_back 183 = .ok (.goto (-51), 3) := by decide +kernel
theorem dX12_back_186 : decode cX12_back 186 = .ok (.iconst 0, 1) := by decide +kernel
theorem dX12_back_187 : decode cX12_back 187 = .ok (.istore_n 1, 1) := by decide +kernel
theorem dX12_back_188 : decode cX12_back 188 = .ok (.iload_n 1, 1) := by decide +kernel
theorem dX12_back_189 : decode cX12_back 189 = .ok (.sipush 240, 3) := by decide +kernel
theorem dX12_back_192 : decode cX12_back 192 = .ok (.if_icmp .ge 24, 3) := by decide +kernel
theorem dX12_back_195 : decode cX12_back 195 = .ok (.aload_n 0, 1) := by decide +kernel
theorem dX12_back_196 : decode cX12_back 196 = .ok (.getfield 46, 3) := by decide +kernel
theorem dX12_back_199 : decode cX12_back 199 = .ok (.iload_n 1, 1) := by decide +kernel
theorem dX12_back_200 : decode cX12_back 200 = .ok (.aload_n 0, 1) := by decide +kernel
theorem dX12_back_201 : decode cX12_back 201 = .ok (.getfield 80, 3) := by decide +kernel
theorem dX12_back_204 : decode cX12_back 204 = .ok (.bipush 72, 2) := by decide +kernel
theorem dX12_back_206 : decode cX12_back 206 = .ok (.iload_n 1, 1) := by decide +kernel
theorem dX12_back_207 : decode cX12_back 207 = .ok (.iadd, 1) := by decide +kernel
theorem dX12_back_208 : decode cX12_back 208 = .ok (.iaload, 1) := by decide +kernel
theorem dX12_back_209 : decode cX12_back 209 = .ok (.iastore, 1) := by decide +kernel
theorem dX12_back_210 : decode cX12_back 210 = .ok (.iinc 1 1, 3) := by decide +kernel
theorem dX12_back_213 : decode cX12_back 213 = .ok (.goto (-25), 3) := by decide +kernel
theorem dX12_back_216 : decode cX12_back 216 = .ok (.aload_n 0, 1) := by decide +kernel
theorem dX12_back_217 : decode cX12_back 217 = .ok (.getfield 83, 3) := by decide +kernel
theorem dX12_back_220 : decode cX12_back 220 = .ok (.aload_n 0, 1) := by decide +kernel
theorem dX12_back_221 : decode cX12_back 221 = .ok (.getfield 71, 3) := by decide +kernel
theorem dX12_back_224 : decode cX12_back 224 = .ok (.sipush 420, 3) := by decide +kernel
theorem dX12_back_227 : decode cX12_back 227 = .ok (.invokestatic 170, 3) := by decide +kernel
theorem dX12_back_230 : decode cX12_back 230 = .ok (.iconst 1, 1) := by decide +kernel
theorem dX12_back_231 : decode cX12_back 231 = .ok (.ireturn, 1) := by decide +kernel
theorem dL_law_0 : decode cL_law 0 = .ok (.new 7, 3) := by decide +kernel
theorem dL_law_3 : decode cL_law 3 = .ok (.dup, 1) := by decide +kernel
theorem dL_law_4 : decode cL_law 4 = .ok (.invokespecial 9, 3) := by decide +kernel
theorem dL_law_7 : decode cL_law 7 = .ok (.astore_n 1, 1) := by decide +kernel
theorem dL_law_8 : decode cL_law 8 = .ok (.new 10, 3) := by decide +kernel
theorem dL_law_11 : decode cL_law 11 = .ok (.dup, 1) := by decide +kernel
theorem dL_law_12 : decode cL_law 12 = .ok (.invokespecial 12, 3) := by decide +kernel
theorem dL_law_15 : decode cL_law 15 = .ok (.astore_n 2, 1) := by decide +kernel
theorem dL_law_16 : decode cL_law 16 = .ok (.iconst 0, 1) := by decide +kernel
theorem dL_law_17 : decode cL_law 17 = .ok (.istore_n 3, 1) := by decide +kernel
theorem dL_law_18 : decode cL_law 18 = .ok (.iload_n 3, 1) := by decide +kernel
theorem dL_law_19 : decode cL_law 19 = .ok (.aload_n 0, 1) := by decide +kernel
theorem dL_law_20 : decode cL_law 20 = .ok (.arraylength, 1) := by decide +kernel
theorem dL_law_21 : decode cL_law 21 = .ok (.iconst 4, 1) := by decide +kernel
theorem dL_law_22 : decode cL_law 22 = .ok (.isub, 1) := by decide +kernel
theorem dL_law_23 : decode cL_law 23 = .ok (.if_icmp .gt 977, 3) := by decide +kernel
theorem dL_law_26 : decode cL_law 26 = .ok (.aload_n 0, 1) := by decide +kernel
theorem dL_law_27 : decode cL_law 27 = .ok (.iload_n 3, 1) := by decide +kernel
theorem dL_law_28 : decode cL_law 28 = .ok (.iaload, 1) := by decide +kernel
theorem dL_law_29 : decode cL_law 29 = .ok (.bipush 31, 2) := by decide +kernel
theorem dL_law_31 : decode cL_law 31 = .ok (.iand, 1) := by decide +kernel
theorem dL_law_32 : decode cL_law 32 = .ok (.tableswitch 962 0 27 #[128, 151, 164, 187, 200, 213, 246, 279, 302, 325, 368, 401, 444, 477, 520, 563, 606, 649, 682, 705, 748, 781, 814, 847, 880, 913, 936, 949], 128) := by decide +kernel
theorem dL_law_160 : decode cL_law 160 = .ok (.aload_n 1, 1) := by decide +kernel
theorem dL_law_161 : decode cL_law 161 = .ok (.aload_n 0, 1) := by decide +kernel
theorem dL_law_162 : decode cL_law 162 = .ok (.iload_n 3, 1) := by decide +kernel
theorem dL_law_163 : decode cL_law 163 = .ok (.iconst 1, 1) := by decide +kernel
theorem dL_law_164 : decode cL_law 164 = .ok (.iadd, 1) := by decide +kernel
theorem dL_law_165 : decode cL_law 165 = .ok (.iaload, 1) := by decide +kernel
theorem dL_law_166 : decode cL_law 166 = .ok (.invokevirtual 13, 3) := by decide +kernel
theorem dL_law_169 : decode cL_law 169 = .ok (.aload_n 2, 1) := by decide +kernel
theorem dL_law_170 : decode cL_law 170 = .ok (.aload_n 0, 1) := by decide +kernel
theorem dL_law_171 : decode cL_law 171 = .ok (.iload_n 3, 1) := by decide +kernel
theorem dL_law_172 : decode cL_law 172 = .ok (.iconst 1, 1) := by decide +kernel
theorem dL_law_173 : decode cL_law 173 = .ok (.iadd, 1) := by decide +kernel
theorem dL_law_174 : decode cL_law 174 = .ok (.iaload, 1) := by decide +kernel
theorem dL_law_175 : decode cL_law 175 = .ok (.invokevirtual 17, 3) := by decide +kernel
theorem dL_law_178 : decode cL_law 178 = .ok (.if_icmp .eq 816, 3) := by decide +kernel
theorem dL_law_181 : decode cL_law 181 = .ok (.iconst 0, 1) := by decide +kernel
theorem dL_law_182 : decode cL_law 182 = .ok (.ireturn, 1) := by decide +kernel
theorem dL_law_183 : decode cL_law 183 = .ok (.aload_n 1, 1) := by decide +kernel
theorem dL_law_184 : decode cL_law 184 = .ok (.invokevirtual 18, 3) := by decide +kernel
theorem dL_law_187 : decode cL_law 187 = .ok (.aload_n 2, 1) := by decide +kernel
theorem dL_law_188 : decode cL_law 188 = .ok (.invokevirtual 22, 3) := by decide +kernel
theorem dL_law_191 : decode cL_law 191 = .ok (.if_icmp .eq 803, 3) := by decide +kernel
theorem dL_law_194 : decode cL_law 194 = .ok (.iconst 0, 1) := by decide +kernel
theorem dL_law_195 : decode cL_law 195 = .ok (.ireturn, 1) := by decide +kernel
theorem dL_law_196 : decode cL_law 196 = .ok (.aload_n 1, 1) := by decide +kernel
theorem dL_law_197 : decode cL_law 197 = .ok (.aload_n 0, 1) := by decide +kernel
theorem dL_law_198 : decode cL_law 198 = .ok (.iload_n 3, 1) := by decide +kernel
theorem dL_law_199 : decode cL_law 199 = .ok (.iconst 1, 1) := by decide +kernel
theorem dL_law_200 : decode cL_law 200 = .ok (.iadd, 1) := by decide +kernel
theorem dL_law_201 : decode cL_law 201 = .ok (.iaload, 1) := by decide +kernel
theorem dL_law_202 : decode cL_law 202 = .ok (.invokevirtual 23, 3) := by decide +kernel
theorem dL_law_205 : decode cL_law 205 = .ok (.aload_n 2, 1) := by decide +kernel
theorem dL_law_206 : decode cL_law 206 = .ok (.aload_n 0, 1) := by decide +kernel
theorem dL_law_207 : decode cL_law 207 = .ok (.iload_n 3, 1) := by decide +kernel
theorem dL_law_208 : decode cL_law 208 = .ok (.iconst 1, 1) := by decide +kernel
theorem dL_law_209 : decode cL_law 209 = .ok (.iadd, 1) := by decide +kernel
theorem dL_law_210 : decode cL_law 210 = .ok (.iaload, 1) := by decide +kernel
theorem dL_law_211 : decode cL_law 211 = .ok (.invokevirtual 26, 3) := by decide +kernel
theorem dL_law_214 : decode cL_law 214 = .ok (.if_icmp .eq 780, 3) := by decide +kernel
theorem dL_law_217 : decode cL_law 217 = .ok (.iconst 0, 1) := by decide +kernel
theorem dL_law_218 : decode cL_law 218 = .ok (.ireturn, 1) := by decide +kernel
theorem dL_law_219 : decode cL_law 219 = .ok (.aload_n 1, 1) := by decide +kernel
theorem dL_law_220 : decode cL_law 220 = .ok (.invokevirtual 27, 3) := by decide +kernel
theorem dL_law_223 : decode cL_law 223 = .ok (.aload_n 2, 1) := by decide +kernel
theorem dL_law_224 : decode cL_law 224 = .ok (.invokevirtual 30, 3) := by decide +kernel
theorem dL_law_227 : decode cL_law 227 = .ok (.if_icmp .eq 767, 3) := by decide +kernel
end
section
theorem dL_law_230 : decode cL_law 230 = .ok (.iconst 0, 1) := by decide +kernel
theorem dL_law_231 : decode cL_law 231 = .ok (.ireturn, 1) := by decide +kernel
theorem dL_law_232 : decode cL_law 232 = .ok (.aload_n 1, 1) := by decide +kernel
theorem dL_law_233 : decode cL_law 233 = .ok (.invokevirtual 31, 3) := by decide +kernel
theorem dL_law_236 : decode cL_law 236 = .ok (.aload_n 2, 1) := by decide +kernel
theorem dL_law_237 : decode cL_law 237 = .ok (.invokevirtual 34, 3) := by decide +kernel
theorem dL_law_240 : decode cL_law 240 = .ok (.if_icmp .eq 754, 3) := by decide +kernel
theorem dL_law_243 : decode cL_law 243 = .ok (.iconst 0, 1) := by decide +kernel
theorem dL_law_244 : decode cL_law 244 = .ok (.ireturn, 1) := by decide +kernel
theorem dL_law_245 : decode cL_law 245 = .ok (.aload_n 1, 1) := by decide +kernel
theorem dL_law_246 : decode cL_law 246 = .ok (.aload_n 0, 1) := by decide +kernel
theorem dL_law_247 : decode cL_law 247 = .ok (.iload_n 3, 1) := by decide +kernel
theorem dL_law_248 : decode cL_law 248 = .ok (.iconst 1, 1) := by decide +kernel
theorem dL_law_249 : decode cL_law 249 = .ok (.iadd, 1) := by decide +kernel
theorem dL_law_250 : decode cL_law 250 = .ok (.iaload, 1) := by decide +kernel
theorem dL_law_251 : decode cL_law 251 = .ok (.aload_n 0, 1) := by decide +kernel
theorem dL_law_252 : decode cL_law 252 = .ok (.iload_n 3, 1) := by decide +kernel
theorem dL_law_253 : decode cL_law 253 = .ok (.iconst 2, 1) := by decide +kernel
theorem dL_law_254 : decode cL_law 254 = .ok (.iadd, 1) := by decide +kernel
theorem dL_law_255 : decode cL_law 255 = .ok (.iaload, 1) := by decide +kernel
theorem dL_law_256 : decode cL_law 256 = .ok (.invokevirtual 35, 3) := by decide +kernel
theorem dL_law_259 : decode cL_law 259 = .ok (.aload_n 2, 1) := by decide +kernel
theorem dL_law_260 : decode cL_law 260 = .ok (.aload_n 0, 1) := by decide +kernel
theorem dL_law_261 : decode cL_law 261 = .ok (.iload_n 3, 1) := by decide +kernel
theorem dL_law_262 : decode cL_law 262 = .ok (.iconst 1, 1) := by decide +kernel
theorem dL_law_263 : decode cL_law 263 = .ok (.iadd, 1) := by decide +kernel
theorem dL_law_264 : decode cL_law 264 = .ok (.iaload, 1) := by decide +kernel
theorem dL_law_265 : decode cL_law 265 = .ok (.aload_n 0, 1) := by decide +kernel
theorem dL_law_266 : decode cL_law 266 = .ok (.iload_n 3, 1) := by decide +kernel
theorem dL_law_267 : decode cL_law 267 = .ok (.iconst 2, 1) := by decide +kernel
theorem dL_law_268 : decode cL_law 268 = .ok (.iadd, 1) := by decide +kernel
theorem dL_law_269 : decode cL_law 269 = .ok (.iaload, 1) := by decide +kernel
theorem dL_law_270 : decode cL_law 270 = .ok (.invokevirtual 39, 3) := by decide +kernel
theorem dL_law_273 : decode cL_law 273 = .ok (.if_icmp .eq 721, 3) := by decide +kernel
theorem dL_law_276 : decode cL_law 276 = .ok (.iconst 0, 1) := by decide +kernel
theorem dL_law_277 : decode cL_law 277 = .ok (.ireturn, 1) := by decide +kernel
theorem dL_law_278 : decode cL_law 278 = .ok (.aload_n 1, 1) := by decide +kernel
theorem dL_law_279 : decode cL_law 279 = .ok (.aload_n 0, 1) := by decide +kernel
theorem dL_law_280 : decode cL_law 280 = .ok (.iload_n 3, 1) := by decide +kernel
theorem dL_law_281 : decode cL_law 281 = .ok (.iconst 1, 1) := by decide +kernel
theorem dL_law_282 : decode cL_law 282 = .ok (.iadd, 1) := by decide +kernel
theorem dL_law_283 : decode cL_law 283 = .ok (.iaload, 1) := by decide +kernel
theorem dL_law_284 : decode cL_law 284 = .ok (.aload_n 0, 1) := by decide +kernel
theorem dL_law_285 : decode cL_law 285 = .ok (.iload_n 3, 1) := by decide +kernel
theorem dL_law_286 : decode cL_law 286 = .ok (.iconst 2, 1) := by decide +kernel
theorem dL_law_287 : decode cL_law 287 = .ok (.iadd, 1) := by decide +kernel
theorem dL_law_288 : decode cL_law 288 = .ok (.iaload, 1) := by decide +kernel
theorem dL_law_289 : decode cL_law 289 = .ok (.invokevirtual 40, 3) := by decide +kernel
theorem dL_law_292 : decode cL_law 292 = .ok (.aload_n 2, 1) := by decide +kernel
theorem dL_law_293 : decode cL_law 293 = .ok (.aload_n 0, 1) := by decide +kernel
theorem dL_law_294 : decode cL_law 294 = .ok (.iload_n 3, 1) := by decide +kernel
theorem dL_law_295 : decode cL_law 295 = .ok (.iconst 1, 1) := by decide +kernel
theorem dL_law_296 : decode cL_law 296 = .ok (.iadd, 1) := by decide +kernel
theorem dL_law_297 : decode cL_law 297 = .ok (.iaload, 1) := by decide +kernel
theorem dL_law_298 : decode cL_law 298 = .ok (.aload_n 0, 1) := by decide +kernel
theorem dL_law_299 : decode cL_law 299 = .ok (.iload_n 3, 1) := by decide +kernel
theorem dL_law_300 : decode cL_law 300 = .ok (.iconst 2, 1) := by decide +kernel
theorem dL_law_301 : decode cL_law 301 = .ok (.iadd, 1) := by decide +kernel
theorem dL_law_302 : decode cL_law 302 = .ok (.iaload, 1) := by decide +kernel
theorem dL_law_303 : decode cL_law 303 = .ok (.invokevirtual 43, 3) := by decide +kernel
theorem dL_law_306 : decode cL_law 306 = .ok (.if_icmp .eq 688, 3) := by decide +kernel
theorem dL_law_309 : decode cL_law 309 = .ok (.iconst 0, 1) := by decide +kernel
theorem dL_law_310 : decode cL_law 310 = .ok (.ireturn, 1) := by decide +kernel
theorem dL_law_311 : decode cL_law 311 = .ok (.aload_n 1, 1) := by decide +kernel
theorem dL_law_312 : decode cL_law 312 = .ok (.aload_n 0, 1) := by decide +kernel
theorem dL_law_313 : decode cL_law 313 = .ok (.iload_n 3, 1) := by decide +kernel
theorem dL_law_314 : decode cL_law 314 = .ok (.iconst 1, 1) := by decide +kernel
theorem dL_law_315 : decode cL_law 315 = .ok (.iadd, 1) := by decide +kernel
theorem dL_law_316 : decode cL_law 316 = .ok (.iaload, 1) := by decide +kernel
theorem dL_law_317 : decode cL_law 317 = .ok (.invokevirtual 44, 3) := by decide +kernel
theorem dL_law_320 : decode cL_law 320 = .ok (.aload_n 2, 1) := by decide +kernel
theorem dL_law_321 : decode cL_law 321 = .ok (.aload_n 0, 1) := by decide +kernel
theorem dL_law_322 : decode cL_law 322 = .ok (.iload_n 3, 1) := by decide +kernel
theorem dL_law_323 : decode cL_law 323 = .ok (.iconst 1, 1) := by decide +kernel
theorem dL_law_324 : decode cL_law 324 = .ok (.iadd, 1) := by decide +kernel
theorem dL_law_325 : decode cL_law 325 = .ok (.iaload, 1) := by decide +kernel
theorem dL_law_326 : decode cL_law 326 = .ok (.invokevirtual 47, 3) := by decide +kernel
theorem dL_law_329 : decode cL_law 329 = .ok (.if_icmp .eq 665, 3) := by decide +kernel
theorem dL_law_332 : decode cL_law 332 = .ok (.iconst 0, 1) := by decide +kernel
theorem dL_law_333 : decode cL_law 333 = .ok (.ireturn, 1) := by decide +kernel
theorem dL_law_334 : decode cL_law 334 = .ok (.aload_n 1, 1) := by decide +kernel
theorem dL_law_335 : decode cL_law 335 = .ok (.aload_n 0, 1) := by decide +kernel
theorem dL_law_336 : decode cL_law 336 = .ok (.iload_n 3, 1) := by decide +kernel
theorem dL_law_337 : decode cL_law 337 = .ok (.iconst 1, 1) := by decide +kernel
theorem dL_law_338 : decode cL_law 338 = .ok (.iadd, 1) := by decide +kernel
theorem dL_law_339 : decode cL_law 339 = .ok (.iaload, 1) := by decide +kernel
theorem dL_law_340 : decode cL_law 340 = .ok (.invokevirtual 48, 3) := by decide +kernel
theorem dL_law_343 : decode cL_law 343 = .ok (.aload_n 2, 1) := by decide +kernel
theorem dL_law_344 : decode cL_law 344 = .ok (.aload_n 0, 1) := by decide +kernel
theorem dL_law_345 : decode cL_law 345 = .ok (.iload_n 3, 1) := by decide +kernel
theorem dL_law_346 : decode cL_law 346 = .ok (.iconst 1, 1) := by decide +kernel
theorem dL_law_347 : decode cL_law 347 = .ok (.iadd, 1) := by decide +kernel
theorem dL_law_348 : decode cL_law 348 = .ok (.iaload, 1) := by decide +kernel
theorem dL_law_349 : decode cL_law 349 = .ok (.invokevirtual 51, 3) := by decide +kernel
theorem dL_law_352 : decode cL_law 352 = .ok (.if_icmp .eq 642, 3) := by decide +kernel
theorem dL_law_355 : decode cL_law 355 = .ok (.iconst 0, 1) := by decide +kernel
theorem dL_law_356 : decode cL_law 356 = .ok (.ireturn, 1) := by decide +kernel
theorem dL_law_357 : decode cL_law 357 = .ok (.aload_n 1, 1) := by decide +kernel
theorem dL_law_358 : decode cL_law 358 = .ok (.aload_n 0, 1) := by decide +kernel
theorem dL_law_359 : decode cL_law 359 = .ok (.iload_n 3, 1) := by decide +kernel
theorem dL_law_360 : decode cL_law 360 = .ok (.iconst 1, 1) := by decide +kernel
theorem dL_law_361 : decode cL_law 361 = .ok (.iadd, 1) := by decide +kernel
theorem dL_law_362 : decode cL_law 362 = .ok (.iaload, 1) := by decide +kernel
theorem dL_law_363 : decode cL_law 363 = .ok (.aload_n 0, 1) := by decide +kernel
theorem dL_law_364 : decode cL_law 364 = .ok (.iload_n 3, 1) := by decide +kernel
theorem dL_law_365 : decode cL_law 365 = .ok (.iconst 2, 1) := by decide +kernel
theorem dL_law_366 : decode cL_law 366 = .ok (.iadd, 1) := by decide +kernel
theorem dL_law_367 : decode cL_law 367 = .ok (.iaload, 1) := by decide +kernel
theorem dL_law_368 : decode cL_law 368 = .ok (.aload_n 0, 1) := by decide +kernel
theorem dL_law_369 : decode cL_law 369 = .ok (.iload_n 3, 1) := by decide +kernel
theorem dL_law_370 : decode cL_law 370 = .ok (.iconst 3, 1) := by decide +kernel
theorem dL_law_371 : decode cL_law 371 = .ok (.iadd, 1) := by decide +kernel
theorem dL_law_372 : decode cL_law 372 = .ok (.iaload, 1) := by decide +kernel
theorem dL_law_373 : decode cL_law 373 = .ok (.invokevirtual 52, 3) := by decide +kernel
theorem dL_law_376 : decode cL_law 376 = .ok (.aload_n 2, 1) := by decide +kernel
theorem dL_law_377 : decode cL_law 377 = .ok (.aload_n 0, 1) := by decide +kernel
theorem dL_law_378 : decode cL_law 378 = .ok (.iload_n 3, 1) := by decide +kernel
theorem dL_law_379 : decode cL_law 379 = .ok (.iconst 1, 1) := by decide +kernel
theorem dL_law_380 : decode cL_law 380 = .ok (.iadd, 1) := by decide +kernel
theorem dL_law_381 : decode cL_law 381 = .ok (.iaload, 1) := by decide +kernel
theorem dL_law_382 : decode cL_law 382 = .ok (.aload_n 0, 1) := by decide +kernel
theorem dL_law_383 : decode cL_law 383 = .ok (.iload_n 3, 1) := by decide +kernel
theorem dL_law_384 : decode cL_law 384 = .ok (.iconst 2, 1) := by decide +kernel
theorem dL_law_385 : decode cL_law 385 = .ok (.iadd, 1) := by decide +kernel
theorem dL_law_386 : decode cL_law 386 = .ok (.iaload, 1) := by decide +kernel
theorem dL_law_387 : decode cL_law 387 = .ok (.aload_n 0, 1) := by decide +kernel
theorem dL_law_388 : decode cL_law 388 = .ok (.iload_n 3, 1) := by decide +kernel
theorem dL_law_389 : decode cL_law 389 = .ok (.iconst 3, 1) := by decide +kernel
theorem dL_law_390 : decode cL_law 390 = .ok (.iadd, 1) := by decide +kernel
theorem dL_law_391 : decode cL_law 391 = .ok (.iaload, 1) := by decide +kernel
theorem dL_law_392 : decode cL_law 392 = .ok (.invokevirtual 56, 3) := by decide +kernel
theorem dL_law_395 : decode cL_law 395 = .ok (.if_icmp .eq 599, 3) := by decide +kernel
theorem dL_law_398 : decode cL_law 398 = .ok (.iconst 0, 1) := by decide +kernel
theorem dL_law_399 : decode cL_law 399 = .ok (.ireturn, 1) := by decide +kernel
theorem dL_law_400 : decode cL_law 400 = .ok (.aload_n 1, 1) := by decide +kernel
theorem dL_law_401 : decode cL_law 401 = .ok (.aload_n 0, 1) := by decide +kernel
theorem dL_law_402 : decode cL_law 402 = .ok (.iload_n 3, 1) := by decide +kernel
theorem dL_law_403 : decode cL_law 403 = .ok (.iconst 1, 1) := by decide +kernel
theorem dL_law_404 : decode cL_law 404 = .ok (.iadd, 1) := by decide +kernel
theorem dL_law_405 : decode cL_law 405 = .ok (.iaload, 1) := by decide +kernel
theorem dL_law_406 : decode cL_law 406 = .ok (.aload_n 0, 1) := by decide +kernel
theorem dL_law_407 : decode cL_law 407 = .ok (.iload_n 3, 1) := by decide +kernel
theorem dL_law_408 : decode cL_law 408 = .ok (.iconst 2, 1) := by decide +kernel
theorem dL_law_409 : decode cL_law 409 = .ok (.iadd, 1) := by decide +kernel
theorem dL_law_410 : decode cL_law 410 = .ok (.iaload, 1) := by decide +kernel
theorem dL_law_411 : decode cL_law 411 = .ok (.invokevirtual 57, 3) := by decide +kernel
theorem dL_law_414 : decode cL_law 414 = .ok (.aload_n 2, 1) := by decide +kernel
theorem dL_law_415 : decode cL_law 415 = .ok (.aload_n 0, 1) := by decide +kernel
theorem dL_law_416 : decode cL_law 416 = .ok (.iload_n 3, 1) := by decide +kernel
theorem dL_law_417 : decode cL_law 417 = .ok (.iconst 1, 1) := by decide +kernel
theorem dL_law_418 : decode cL_law 418 = .ok (.iadd, 1) := by decide +kernel
theorem dL_law_419 : decode cL_law 419 = .ok (.iaload, 1) := by decide +kernel
theorem dL_law_420 : decode cL_law 420 = .ok (.aload_n 0, 1) := by decide +kernel
theorem dL_law_421 : decode cL_law 421 = .ok (.iload_n 3, 1) := by decide +kernel
theorem dL_law_422 : decode cL_law 422 = .ok (.iconst 2, 1) := by decide +kernel
theorem dL_law_423 : decode cL_law 423 = .ok (.iadd, 1) := by decide +kernel
theorem dL_law_424 : decode cL_law 424 = .ok (.iaload, 1) := by decide +kernel
theorem dL_law_425 : decode cL_law 425 = .ok (.invokevirtual 60, 3) := by decide +kernel
theorem dL_law_428 : decode cL_law 428 = .ok (.if_icmp .eq 566, 3) := by decide +kernel
theorem dL_law_431 : decode cL_law 431 = .ok (.iconst 0, 1) := by decide +kernel
theorem dL_law_432 : decode cL_law 432 = .ok (.ireturn, 1) := by decide +kernel
theorem dL_law_433 : decode cL_law 433 = .ok (.aload_n 1, 1) := by decide +kernel
theorem dL_law_434 : decode cL_law 434 = .ok (.aload_n 0, 1) := by decide +kernel
theorem dL_law_435 : decode cL_law 435 = .ok (.iload_n 3, 1) := by decide +kernel
theorem dL_law_436 : decode cL_law 436 = .ok (.iconst 1, 1) := by decide +kernel
theorem dL_law_437 : decode cL_law 437 = .ok (.iadd, 1) := by decide +kernel
theorem dL_law_438 : decode cL_law 438 = .ok (.iaload, 1) := by decide +kernel
theorem dL_law_439 : decode cL_law 439 = .ok (.aload_n 0, 1) := by decide +kernel
theorem dL_law_440 : decode cL_law 440 = .ok (.iload_n 3, 1) := by decide +kernel
theorem dL_law_441 : decode cL_law 441 = .ok (.iconst 2, 1) := by decide +kernel
theorem dL_law_442 : decode cL_law 442 = .ok (.iadd, 1) := by decide +kernel
theorem dL_law_443 : decode cL_law 443 = .ok (.iaload, 1) := by decide +kernel
theorem dL_law_444 : decode cL_law 444 = .ok (.aload_n 0, 1) := by decide +kernel
theorem dL_law_445 : decode cL_law 445 = .ok (.iload_n 3, 1) := by decide +kernel
theorem dL_law_446 : decode cL_law 446 = .ok (.iconst 3, 1) := by decide +kernel
theorem dL_law_447 : decode cL_law 447 = .ok (.iadd, 1) := by decide +kernel
theorem dL_law_448 : decode cL_law 448 = .ok (.iaload, 1) := by decide +kernel
theorem dL_law_449 : decode cL_law 449 = .ok (.invokevirtual 61, 3) := by decide +kernel
theorem dL_law_452 : decode cL_law 452 = .ok (.aload_n 2, 1) := by decide +kernel
theorem dL_law_453 : decode cL_law 453 = .ok (.aload_n 0, 1) := by decide +kernel
theorem dL_law_454 : decode cL_law 454 = .ok (.iload_n 3, 1) := by decide +kernel
theorem dL_law_455 : decode cL_law 455 = .ok (.iconst 1, 1) := by decide +kernel
theorem dL_law_456 : decode cL_law 456 = .ok (.iadd, 1) := by decide +kernel
theorem dL_law_457 : decode cL_law 457 = .ok (.iaload, 1) := by decide +kernel
theorem dL_law_458 : decode cL_law 458 = .ok (.aload_n 0, 1) := by decide +kernel
theorem dL_law_459 : decode cL_law 459 = .ok (.iload_n 3, 1) := by decide +kernel
theorem dL_law_460 : decode cL_law 460 = .ok (.iconst 2, 1) := by decide +kernel
theorem dL_law_461 : decode cL_law 461 = .ok (.iadd, 1) := by decide +kernel
theorem dL_law_462 : decode cL_law 462 = .ok (.iaload, 1) := by decide +kernel
theorem dL_law_463 : decode cL_law 463 = .ok (.aload_n 0, 1) := by decide +kernel
theorem dL_law_464 : decode cL_law 464 = .ok (.iload_n 3, 1) := by decide +kernel
theorem dL_law_465 : decode cL_law 465 = .ok (.iconst 3, 1) := by decide +kernel
theorem dL_law_466 : decode cL_law 466 = .ok (.iadd, 1) := by decide +kernel
theorem dL_law_467 : decode cL_law 467 = .ok (.iaload, 1) := by decide +kernel
theorem dL_law_468 : decode cL_law 468 = .ok (.invokevirtual 64, 3) := by decide +kernel
theorem dL_law_471 : decode cL_law 471 = .ok (.if_icmp .eq 523, 3) := by decide +kernel
theorem dL_law_474 : decode cL_law 474 = .ok (.iconst 0, 1) := by decide +kernel
theorem dL_law_475 : decode cL_law 475 = .ok (.ireturn, 1) := by decide +kernel
theorem dL_law_476 : decode cL_law 476 = .ok (.aload_n 1, 1) := by decide +kernel
theorem dL_law_477 : decode cL_law 477 = .ok (.aload_n 0, 1) := by decide +kernel
theorem dL_law_478 : decode cL_law 478 = .ok (.iload_n 3, 1) := by decide +kernel
theorem dL_law_479 : decode cL_law 479 = .ok (.iconst 1, 1) := by decide +kernel
theorem dL_law_480 : decode cL_law 480 = .ok (.iadd, 1) := by decide +kernel
theorem dL_law_481 : decode cL_law 481 = .ok (.iaload, 1) := by decide +kernel
theorem dL_law_482 : decode cL_law 482 = .ok (.aload_n 0, 1) := by decide +kernel
theorem dL_law_483 : decode cL_law 483 = .ok (.iload_n 3, 1) := by decide +kernel
theorem dL_law_484 : decode cL_law 484 = .ok (.iconst 2, 1) := by decide +kernel
theorem dL_law_485 : decode cL_law 485 = .ok (.iadd, 1) := by decide +kernel
theorem dL_law_486 : decode cL_law 486 = .ok (.iaload, 1) := by decide +kernel
theorem dL_law_487 : decode cL_law 487 = .ok (.invokevirtual 65, 3) := by decide +kernel
theorem dL_law_490 : decode cL_law 490 = .ok (.aload_n 2, 1) := by decide +kernel
theorem dL_law_491 : decode cL_law 491 = .ok (.aload_n 0, 1) := by decide +kernel
theorem dL_law_492 : decode cL_law 492 = .ok (.iload_n 3, 1) := by decide +kernel
theorem dL_law_493 : decode cL_law 493 = .ok (.iconst 1, 1) := by decide +kernel
theorem dL_law_494 : decode cL_law 494 = .ok (.iadd, 1) := by decide +kernel
theorem dL_law_495 : decode cL_law 495 = .ok (.iaload, 1) := by decide +kernel
theorem dL_law_496 : decode cL_law 496 = .ok (.aload_n 0, 1) := by decide +kernel
theorem dL_law_497 : decode cL_law 497 = .ok (.iload_n 3, 1) := by decide +kernel
theorem dL_law_498 : decode cL_law 498 = .ok (.iconst 2, 1) := by decide +kernel
theorem dL_law_499 : decode cL_law 499 = .ok (.iadd, 1) := by decide +kernel
theorem dL_law_500 : decode cL_law 500 = .ok (.iaload, 1) := by decide +kernel
theorem dL_law_501 : decode cL_law 501 = .ok (.invokevirtual 68, 3) := by decide +kernel
theorem dL_law_504 : decode cL_law 504 = .ok (.if_icmp .eq 490, 3) := by decide +kernel
theorem dL_law_507 : decode cL_law 507 = .ok (.iconst 0, 1) := by decide +kernel
theorem dL_law_508 : decode cL_law 508 = .ok (.ireturn, 1) := by decide +kernel
theorem dL_law_509 : decode cL_law 509 = .ok (.aload_n 1, 1) := by decide +kernel
theorem dL_law_510 : decode cL_law 510 = .ok (.aload_n 0, 1) := by decide +kernel
theorem dL_law_511 : decode cL_law 511 = .ok (.iload_n 3, 1) := by decide +kernel
theorem dL_law_512 : decode cL_law 512 = .ok (.iconst 1, 1) := by decide +kernel
theorem dL_law_513 : decode cL_law 513 = .ok (.iadd, 1) := by decide +kernel
theorem dL_law_514 : decode cL_law 514 = .ok (.iaload, 1) := by decide +kernel
theorem dL_law_515 : decode cL_law 515 = .ok (.aload_n 0, 1) := by decide +kernel
theorem dL_law_516 : decode cL_law 516 = .ok (.iload_n 3, 1) := by decide +kernel
theorem dL_law_517 : decode cL_law 517 = .ok (.iconst 2, 1) := by decide +kernel
theorem dL_law_518 : decode cL_law 518 = .ok (.iadd, 1) := by decide +kernel
theorem dL_law_519 : decode cL_law 519 = .ok (.iaload, 1) := by decide +kernel
theorem dL_law_520 : decode cL_law 520 = .ok (.aload_n 0, 1) := by decide +kernel
theorem dL_law_521 : decode cL_law 521 = .ok (.iload_n 3, 1) := by decide +kernel
theorem dL_law_522 : decode cL_law 522 = .ok (.iconst 3, 1) := by decide +kernel
theorem dL_law_523 : decode cL_law 523 = .ok (.iadd, 1) := by decide +kernel
theorem dL_law_524 : decode cL_law 524 = .ok (.iaload, 1) := by decide +kernel
theorem dL_law_525 : decode cL_law 525 = .ok (.invokevirtual 69, 3) := by decide +kernel
theorem dL_law_528 : decode cL_law 528 = .ok (.aload_n 2, 1) := by decide +kernel
theorem dL_law_529 : decode cL_law 529 = .ok (.aload_n 0, 1) := by decide +kernel
theorem dL_law_530 : decode cL_law 530 = .ok (.iload_n 3, 1) := by decide +kernel
theorem dL_law_531 : decode cL_law 531 = .ok (.iconst 1, 1) := by decide +kernel
theorem dL_law_532 : decode cL_law 532 = .ok (.iadd, 1) := by decide +kernel
theorem dL_law_533 : decode cL_law 533 = .ok (.iaload, 1) := by decide +kernel
theorem dL_law_534 : decode cL_law 534 = .ok (.aload_n 0, 1) := by decide +kernel
theorem dL_law_535 : decode cL_law 535 = .ok (.iload_n 3, 1) := by decide +kernel
theorem dL_law_536 : decode cL_law 536 = .ok (.iconst 2, 1) := by decide +kernel
theorem dL_law_537 : decode cL_law 537 = .ok (.iadd, 1) := by decide +kernel
theorem dL_law_538 : decode cL_law 538 = .ok (.iaload, 1) := by decide +kernel
theorem dL_law_539 : decode cL_law 539 = .ok (.aload_n 0, 1) := by decide +kernel
theorem dL_law_540 : decode cL_law 540 = .ok (.iload_n 3, 1) := by decide +kernel
theorem dL_law_541 : decode cL_law 541 = .ok (.iconst 3, 1) := by decide +kernel
theorem dL_law_542 : decode cL_law 542 = .ok (.iadd, 1) := by decide +kernel
theorem dL_law_543 : decode cL_law 543 = .ok (.iaload, 1) := by decide +kernel
theorem dL_law_544 : decode cL_law 544 = .ok (.invokevirtual 72, 3) := by decide +kernel
theorem dL_law_547 : decode cL_law 547 = .ok (.if_icmp .eq 447, 3) := by decide +kernel
theorem dL_law_550 : decode cL_law 550 = .ok (.iconst 0, 1) := by decide +kernel
theorem dL_law_551 : decode cL_law 551 = .ok (.ireturn, 1) := by decide +kernel
theorem dL_law_552 : decode cL_law 552 = .ok (.aload_n 1, 1) := by decide +kernel
theorem dL_law_553 : decode cL_law 553 = .ok (.aload_n 0, 1) := by decide +kernel
theorem dL_law_554 : decode cL_law 554 = .ok (.iload_n 3, 1) := by decide +kernel
theorem dL_law_555 : decode cL_law 555 = .ok (.iconst 1, 1) := by decide +kernel
theorem dL_law_556 : decode cL_law 556 = .ok (.iadd, 1) := by decide +kernel
theorem dL_law_557 : decode cL_law 557 = .ok (.iaload, 1) := by decide +kernel
theorem dL_law_558 : decode cL_law 558 = .ok (.aload_n 0, 1) := by decide +kernel
theorem dL_law_559 : decode cL_law 559 = .ok (.iload_n 3, 1) := by decide +kernel
theorem dL_law_560 : decode cL_law 560 = .ok (.iconst 2, 1) := by decide +kernel
theorem dL_law_561 : decode cL_law 561 = .ok (.iadd, 1) := by decide +kernel
theorem dL_law_562 : decode cL_law 562 = .ok (.iaload, 1) := by decide +kernel
theorem dL_law_563 : decode cL_law 563 = .ok (.aload_n 0, 1) := by decide +kernel
theorem dL_law_564 : decode cL_law 564 = .ok (.iload_n 3, 1) := by decide +kernel
theorem dL_law_565 : decode cL_law 565 = .ok (.iconst 3, 1) := by decide +kernel
theorem dL_law_566 : decode cL_law 566 = .ok (.iadd, 1) := by decide +kernel
theorem dL_law_567 : decode cL_law 567 = .ok (.iaload, 1) := by decide +kernel
theorem dL_law_568 : decode cL_law 568 = .ok (.invokevirtual 73, 3) := by decide +kernel
theorem dL_law_571 : decode cL_law 571 = .ok (.aload_n 2, 1) := by decide +kernel
theorem dL_law_572 : decode cL_law 572 = .ok (.aload_n 0, 1) := by decide +kernel
theorem dL_law_573 : decode cL_law 573 = .ok (.iload_n 3, 1) := by decide +kernel
theorem dL_law_574 : decode cL_law 574 = .ok (.iconst 1, 1) := by decide +kernel
theorem dL_law_575 : decode cL_law 575 = .ok (.iadd, 1) := by decide +kernel
theorem dL_law_576 : decode cL_law 576 = .ok (.iaload, 1) := by decide +kernel
theorem dL_law_577 : decode cL_law 577 = .ok (.aload_n 0, 1) := by decide +kernel
theorem dL_law_578 : decode cL_law 578 = .ok (.iload_n 3, 1) := by decide +kernel
theorem dL_law_579 : decode cL_law 579 = .ok (.iconst 2, 1) := by decide +kernel
theorem dL_law_580 : decode cL_law 580 = .ok (.iadd, 1) := by decide +kernel
theorem dL_law_581 : decode cL_law 581 = .ok (.iaload, 1) := by decide +kernel
theorem dL_law_582 : decode cL_law 582 = .ok (.aload_n 0, 1) := by decide +kernel
theorem dL_law_583 : decode cL_law 583 = .ok (.iload_n 3, 1) := by decide +kernel
theorem dL_law_584 : decode cL_law 584 = .ok (.iconst 3, 1) := by decide +kernel
theorem dL_law_585 : decode cL_law 585 = .ok (.iadd, 1) := by decide +kernel
theorem dL_law_586 : decode cL_law 586 = .ok (.iaload, 1) := by decide +kernel
theorem dL_law_587 : decode cL_law 587 = .ok (.invokevirtual 76, 3) := by decide +kernel
theorem dL_law_590 : decode cL_law 590 = .ok (.if_icmp .eq 404, 3) := by decide +kernel
theorem dL_law_593 : decode cL_law 593 = .ok (.iconst 0, 1) := by decide +kernel
theorem dL_law_594 : decode cL_law 594 = .ok (.ireturn, 1) := by decide +kernel
theorem dL_law_595 : decode cL_law 595 = .ok (.aload_n 1, 1) := by decide +kernel
theorem dL_law_596 : decode cL_law 596 = .ok (.aload_n 0, 1) := by decide +kernel
theorem dL_law_597 : decode cL_law 597 = .ok (.iload_n 3, 1) := by decide +kernel
theorem dL_law_598 : decode cL_law 598 = .ok (.iconst 1, 1) := by decide +kernel
theorem dL_law_599 : decode cL_law 599 = .ok (.iadd, 1) := by decide +kernel
theorem dL_law_600 : decode cL_law 600 = .ok (.iaload, 1) := by decide +kernel
theorem dL_law_601 : decode cL_law 601 = .ok (.aload_n 0, 1) := by decide +kernel
theorem dL_law_602 : decode cL_law 602 = .ok (.iload_n 3, 1) := by decide +kernel
theorem dL_law_603 : decode cL_law 603 = .ok (.iconst 2, 1) := by decide +kernel
theorem dL_law_604 : decode cL_law 604 = .ok (.iadd, 1) := by decide +kernel
theorem dL_law_605 : decode cL_law 605 = .ok (.iaload, 1) := by decide +kernel
theorem dL_law_606 : decode cL_law 606 = .ok (.aload_n 0, 1) := by decide +kernel
theorem dL_law_607 : decode cL_law 607 = .ok (.iload_n 3, 1) := by decide +kernel
theorem dL_law_608 : decode cL_law 608 = .ok (.iconst 3, 1) := by decide +kernel
theorem dL_law_609 : decode cL_law 609 = .ok (.iadd, 1) := by decide +kernel
theorem dL_law_610 : decode cL_law 610 = .ok (.iaload, 1) := by decide +kernel
theorem dL_law_611 : decode cL_law 611 = .ok (.invokevirtual 77, 3) := by decide +kernel
theorem dL_law_614 : decode cL_law 614 = .ok (.aload_n 2, 1) := by decide +kernel
theorem dL_law_615 : decode cL_law 615 = .ok (.aload_n 0, 1) := by decide +kernel
theorem dL_law_616 : decode cL_law 616 = .ok (.iload_n 3, 1) := by decide +kernel
theorem dL_law_617 : decode cL_law 617 = .ok (.iconst 1, 1) := by decide +kernel
theorem dL_law_618 : decode cL_law 618 = .ok (.iadd, 1) := by decide +kernel
theorem dL_law_619 : decode cL_law 619 = .ok (.iaload, 1) := by decide +kernel
theorem dL_law_620 : decode cL_law 620 = .ok (.aload_n 0, 1) := by decide +kernel
theorem dL_law_621 : decode cL_law 621 = .ok (.iload_n 3, 1) := by decide +kernel
theorem dL_law_622 : decode cL_law 622 = .ok (.iconst 2, 1) := by decide +kernel
theorem dL_law_623 : decode cL_law 623 = .ok (.iadd, 1) := by decide +kernel
theorem dL_law_624 : decode cL_law 624 = .ok (.iaload, 1) := by decide +kernel
theorem dL_law_625 : decode cL_law 625 = .ok (.aload_n 0, 1) := by decide +kernel
theorem dL_law_626 : decode cL_law 626 = .ok (.iload_n 3, 1) := by decide +kernel
theorem dL_law_627 : decode cL_law 627 = .ok (.iconst 3, 1) := by decide +kernel
theorem dL_law_628 : decode cL_law 628 = .ok (.iadd, 1) := by decide +kernel
theorem dL_law_629 : decode cL_law 629 = .ok (.iaload, 1) := by decide +kernel
theorem dL_law_630 : decode cL_law 630 = .ok (.invokevirtual 80, 3) := by decide +kernel
theorem dL_law_633 : decode cL_law 633 = .ok (.if_icmp .eq 361, 3) := by decide +kernel
theorem dL_law_636 : decode cL_law 636 = .ok (.iconst 0, 1) := by decide +kernel
theorem dL_law_637 : decode cL_law 637 = .ok (.ireturn, 1) := by decide +kernel
theorem dL_law_638 : decode cL_law 638 = .ok (.aload_n 1, 1) := by decide +kernel
theorem dL_law_639 : decode cL_law 639 = .ok (.aload_n 0, 1) := by decide +kernel
theorem dL_law_640 : decode cL_law 640 = .ok (.iload_n 3, 1) := by decide +kernel
theorem dL_law_641 : decode cL_law 641 = .ok (.iconst 1, 1) := by decide +kernel
theorem dL_law_642 : decode cL_law 642 = .ok (.iadd, 1) := by decide +kernel
theorem dL_law_643 : decode cL_law 643 = .ok (.iaload, 1) := by decide +kernel
theorem dL_law_644 : decode cL_law 644 = .ok (.aload_n 0, 1) := by decide +kernel
theorem dL_law_645 : decode cL_law 645 = .ok (.iload_n 3, 1) := by decide +kernel
theorem dL_law_646 : decode cL_law 646 = .ok (.iconst 2, 1) := by decide +kernel
theorem dL_law_647 : decode cL_law 647 = .ok (.iadd, 1) := by decide +kernel
theorem dL_law_648 : decode cL_law 648 = .ok (.iaload, 1) := by decide +kernel
theorem dL_law_649 : decode cL_law 649 = .ok (.aload_n 0, 1) := by decide +kernel
theorem dL_law_650 : decode cL_law 650 = .ok (.iload_n 3, 1) := by decide +kernel
theorem dL_law_651 : decode cL_law 651 = .ok (.iconst 3, 1) := by decide +kernel
theorem dL_law_652 : decode cL_law 652 = .ok (.iadd, 1) := by decide +kernel
theorem dL_law_653 : decode cL_law 653 = .ok (.iaload, 1) := by decide +kernel
theorem dL_law_654 : decode cL_law 654 = .ok (.invokevirtual 81, 3) := by decide +kernel
theorem dL_law_657 : decode cL_law 657 = .ok (.aload_n 2, 1) := by decide +kernel
theorem dL_law_658 : decode cL_law 658 = .ok (.aload_n 0, 1) := by decide +kernel
theorem dL_law_659 : decode cL_law 659 = .ok (.iload_n 3, 1) := by decide +kernel
theorem dL_law_660 : decode cL_law 660 = .ok (.iconst 1, 1) := by decide +kernel
theorem dL_law_661 : decode cL_law 661 = .ok (.iadd, 1) := by decide +kernel
theorem dL_law_662 : decode cL_law 662 = .ok (.iaload, 1) := by decide +kernel
theorem dL_law_663 : decode cL_law 663 = .ok (.aload_n 0, 1) := by decide +kernel
theorem dL_law_664 : decode cL_law 664 = .ok (.iload_n 3, 1) := by decide +kernel
theorem dL_law_665 : decode cL_law 665 = .ok (.iconst 2, 1) := by decide +kernel
theorem dL_law_666 : decode cL_law 666 = .ok (.iadd, 1) := by decide +kernel
theorem dL_law_667 : decode cL_law 667 = .ok (.iaload, 1) := by decide +kernel
theorem dL_law_668 : decode cL_law 668 = .ok (.aload_n 0, 1) := by decide +kernel
theorem dL_law_669 : decode cL_law 669 = .ok (.iload_n 3, 1) := by decide +kernel
theorem dL_law_670 : decode cL_law 670 = .ok (.iconst 3, 1) := by decide +kernel
theorem dL_law_671 : decode cL_law 671 = .ok (.iadd, 1) := by decide +kernel
theorem dL_law_672 : decode cL_law 672 = .ok (.iaload, 1) := by decide +kernel
theorem dL_law_673 : decode cL_law 673 = .ok (.invokevirtual 84, 3) := by decide +kernel
theorem dL_law_676 : decode cL_law 676 = .ok (.if_icmp .eq 318, 3) := by decide +kernel
theorem dL_law_679 : decode cL_law 679 = .ok (.iconst 0, 1) := by decide +kernel
theorem dL_law_680 : decode cL_law 680 = .ok (.ireturn, 1) := by decide +kernel
theorem dL_law_681 : decode cL_law 681 = .ok (.aload_n 1, 1) := by decide +kernel
theorem dL_law_682 : decode cL_law 682 = .ok (.aload_n 0, 1) := by decide +kernel
theorem dL_law_683 : decode cL_law 683 = .ok (.iload_n 3, 1) := by decide +kernel
theorem dL_law_684 : decode cL_law 684 = .ok (.iconst 1, 1) := by decide +kernel
theorem dL_law_685 : decode cL_law 685 = .ok (.iadd, 1) := by decide +kernel
theorem dL_law_686 : decode cL_law 686 = .ok (.iaload, 1) := by decide +kernel
theorem dL_law_687 : decode cL_law 687 = .ok (.aload_n 0, 1) := by decide +kernel
theorem dL_law_688 : decode cL_law 688 = .ok (.iload_n 3, 1) := by decide +kernel
theorem dL_law_689 : decode cL_law 689 = .ok (.iconst 2, 1) := by decide +kernel
theorem dL_law_690 : decode cL_law 690 = .ok (.iadd, 1) := by decide +kernel
theorem dL_law_691 : decode cL_law 691 = .ok (.iaload, 1) := by decide +kernel
theorem dL_law_692 : decode cL_law 692 = .ok (.invokevirtual 85, 3) := by decide +kernel
theorem dL_law_695 : decode cL_law 695 = .ok (.aload_n 2, 1) := by decide +kernel
theorem dL_law_696 : decode cL_law 696 = .ok (.aload_n 0, 1) := by decide +kernel
theorem dL_law_697 : decode cL_law 697 = .ok (.iload_n 3, 1) := by decide +kernel
theorem dL_law_698 : decode cL_law 698 = .ok (.iconst 1, 1) := by decide +kernel
theorem dL_law_699 : decode cL_law 699 = .ok (.iadd, 1) := by decide +kernel
theorem dL_law_700 : decode cL_law 700 = .ok (.iaload, 1) := by decide +kernel
theorem dL_law_701 : decode cL_law 701 = .ok (.aload_n 0, 1) := by decide +kernel
theorem dL_law_702 : decode cL_law 702 = .ok (.iload_n 3, 1) := by decide +kernel
theorem dL_law_703 : decode cL_law 703 = .ok (.iconst 2, 1) := by decide +kernel
theorem dL_law_704 : decode cL_law 704 = .ok (.iadd, 1) := by decide +kernel
theorem dL_law_705 : decode cL_law 705 = .ok (.iaload, 1) := by decide +kernel
theorem dL_law_706 : decode cL_law 706 = .ok (.invokevirtual 88, 3) := by decide +kernel
theorem dL_law_709 : decode cL_law 709 = .ok (.if_icmp .eq 285, 3) := by decide +kernel
theorem dL_law_712 : decode cL_law 712 = .ok (.iconst 0, 1) := by decide +kernel
theorem dL_law_713 : decode cL_law 713 = .ok (.ireturn, 1) := by decide +kernel
theorem dL_law_714 : decode cL_law 714 = .ok (.aload_n 1, 1) := by decide +kernel
theorem dL_law_715 : decode cL_law 715 = .ok (.aload_n 0, 1) := by decide +kernel
theorem dL_law_716 : decode cL_law 716 = .ok (.iload_n 3, 1) := by decide +kernel
theorem dL_law_717 : decode cL_law 717 = .ok (.iconst 1, 1) := by decide +kernel
theorem dL_law_718 : decode cL_law 718 = .ok (.iadd, 1) := by decide +kernel
theorem dL_law_719 : decode cL_law 719 = .ok (.iaload, 1) := by decide +kernel
theorem dL_law_720 : decode cL_law 720 = .ok (.invokevirtual 89, 3) := by decide +kernel
theorem dL_law_723 : decode cL_law 723 = .ok (.aload_n 2, 1) := by decide +kernel
theorem dL_law_724 : decode cL_law 724 = .ok (.aload_n 0, 1) := by decide +kernel
theorem dL_law_725 : decode cL_law 725 = .ok (.iload_n 3, 1) := by decide +kernel
theorem dL_law_726 : decode cL_law 726 = .ok (.iconst 1, 1) := by decide +kernel
theorem dL_law_727 : decode cL_law 727 = .ok (.iadd, 1) := by decide +kernel
theorem dL_law_728 : decode cL_law 728 = .ok (.iaload, 1) := by decide +kernel
theorem dL_law_729 : decode cL_law 729 = .ok (.invokevirtual 92, 3) := by decide +kernel
theorem dL_law_732 : decode cL_law 732 = .ok (.if_icmp .eq 262, 3) := by decide +kernel
theorem dL_law_735 : decode cL_law 735 = .ok (.iconst 0, 1) := by decide +kernel
theorem dL_law_736 : decode cL_law 736 = .ok (.ireturn, 1) := by decide +kernel
theorem dL_law_737 : decode cL_law 737 = .ok (.aload_n 1, 1) := by decide +kernel
theorem dL_law_738 : decode cL_law 738 = .ok (.aload_n 0, 1) := by decide +kernel
theorem dL_law_739 : decode cL_law 739 = .ok (.iload_n 3, 1) := by decide +kernel
theorem dL_law_740 : decode cL_law 740 = .ok (.iconst 1, 1) := by decide +kernel
theorem dL_law_741 : decode cL_law 741 = .ok (.iadd, 1) := by decide +kernel
theorem dL_law_742 : decode cL_law 742 = .ok (.iaload, 1) := by decide +kernel
theorem dL_law_743 : decode cL_law 743 = .ok (.aload_n 0, 1) := by decide +kernel
theorem dL_law_744 : decode cL_law 744 = .ok (.iload_n 3, 1) := by decide +kernel
theorem dL_law_745 : decode cL_law 745 = .ok (.iconst 2, 1) := by decide +kernel
theorem dL_law_746 : decode cL_law 746 = .ok (.iadd, 1) := by decide +kernel
theorem dL_law_747 : decode cL_law 747 = .ok (.iaload, 1) := by decide +kernel
theorem dL_law_748 : decode cL_law 748 = .ok (.aload_n 0, 1) := by decide +kernel
theorem dL_law_749 : decode cL_law 749 = .ok (.iload_n 3, 1) := by decide +kernel
theorem dL_law_750 : decode cL_law 750 = .ok (.iconst 3, 1) := by decide +kernel
theorem dL_law_751 : decode cL_law 751 = .ok (.iadd, 1) := by decide +kernel
theorem dL_law_752 : decode cL_law 752 = .ok (.iaload, 1) := by decide +kernel
theorem dL_law_753 : decode cL_law 753 = .ok (.invokevirtual 93, 3) := by decide +kernel
theorem dL_law_756 : decode cL_law 756 = .ok (.aload_n 2, 1) := by decide +kernel
theorem dL_law_757 : decode cL_law 757 = .ok (.aload_n 0, 1) := by decide +kernel
theorem dL_law_758 : decode cL_law 758 = .ok (.iload_n 3, 1) := by decide +kernel
theorem dL_law_759 : decode cL_law 759 = .ok (.iconst 1, 1) := by decide +kernel
theorem dL_law_760 : decode cL_law 760 = .ok (.iadd, 1) := by decide +kernel
theorem dL_law_761 : decode cL_law 761 = .ok (.iaload, 1) := by decide +kernel
theorem dL_law_762 : decode cL_law 762 = .ok (.aload_n 0, 1) := by decide +kernel
theorem dL_law_763 : decode cL_law 763 = .ok (.iload_n 3, 1) := by decide +kernel
theorem dL_law_764 : decode cL_law 764 = .ok (.iconst 2, 1) := by decide +kernel
theorem dL_law_765 : decode cL_law 765 = .ok (.iadd, 1) := by decide +kernel
theorem dL_law_766 : decode cL_law 766 = .ok (.iaload, 1) := by decide +kernel
theorem dL_law_767 : decode cL_law 767 = .ok (.aload_n 0, 1) := by decide +kernel
theorem dL_law_768 : decode cL_law 768 = .ok (.iload_n 3, 1) := by decide +kernel
theorem dL_law_769 : decode cL_law 769 = .ok (.iconst 3, 1) := by decide +kernel
theorem dL_law_770 : decode cL_law 770 = .ok (.iadd, 1) := by decide +kernel
theorem dL_law_771 : decode cL_law 771 = .ok (.iaload, 1) := by decide +kernel
theorem dL_law_772 : decode cL_law 772 = .ok (.invokevirtual 96, 3) := by decide +kernel
theorem dL_law_775 : decode cL_law 775 = .ok (.if_icmp .eq 219, 3) := by decide +kernel
theorem dL_law_778 : decode cL_law 778 = .ok (.iconst 0, 1) := by decide +kernel
theorem dL_law_779 : decode cL_law 779 = .ok (.ireturn, 1) := by decide +kernel
theorem dL_law_780 : decode cL_law 780 = .ok (.aload_n 1, 1) := by decide +kernel
theorem dL_law_781 : decode cL_law 781 = .ok (.aload_n 0, 1) := by decide +kernel
theorem dL_law_782 : decode cL_law 782 = .ok (.iload_n 3, 1) := by decide +kernel
theorem dL_law_783 : decode cL_law 783 = .ok (.iconst 1, 1) := by decide +kernel
theorem dL_law_784 : decode cL_law 784 = .ok (.iadd, 1) := by decide +kernel
theorem dL_law_785 : decode cL_law 785 = .ok (.iaload, 1) := by decide +kernel
theorem dL_law_786 : decode cL_law 786 = .ok (.aload_n 0, 1) := by decide +kernel
theorem dL_law_787 : decode cL_law 787 = .ok (.iload_n 3, 1) := by decide +kernel
theorem dL_law_788 : decode cL_law 788 = .ok (.iconst 2, 1) := by decide +kernel
theorem dL_law_789 : decode cL_law 789 = .ok (.iadd, 1) := by decide +kernel
theorem dL_law_790 : decode cL_law 790 = .ok (.iaload, 1) := by decide +kernel
theorem dL_law_791 : decode cL_law 791 = .ok (.invokevirtual 97, 3) := by decide +kernel
theorem dL_law_794 : decode cL_law 794 = .ok (.aload_n 2, 1) := by decide +kernel
theorem dL_law_795 : decode cL_law 795 = .ok (.aload_n 0, 1) := by decide +kernel
theorem dL_law_796 : decode cL_law 796 = .ok (.iload_n 3, 1) := by decide +kernel
theorem dL_law_797 : decode cL_law 797 = .ok (.iconst 1, 1) := by decide +kernel
theorem dL_law_798 : decode cL_law 798 = .ok (.iadd, 1) := by decide +kernel
theorem dL_law_799 : decode cL_law 799 = .ok (.iaload, 1) := by decide +kernel
theorem dL_law_800 : decode cL_law 800 = .ok (.aload_n 0, 1) := by decide +kernel
theorem dL_law_801 : decode cL_law 801 = .ok (.iload_n 3, 1) := by decide +kernel
theorem dL_law_802 : decode cL_law 802 = .ok (.iconst 2, 1) := by decide +kernel
theorem dL_law_803 : decode cL_law 803 = .ok (.iadd, 1) := by decide +kernel
theorem dL_law_804 : decode cL_law 804 = .ok (.iaload, 1) := by decide +kernel
theorem dL_law_805 : decode cL_law 805 = .ok (.invokevirtual 100, 3) := by decide +kernel
theorem dL_law_808 : decode cL_law 808 = .ok (.if_icmp .eq 186, 3) := by decide +kernel
theorem dL_law_811 : decode cL_law 811 = .ok (.iconst 0, 1) := by decide +kernel
theorem dL_law_812 : decode cL_law 812 = .ok (.ireturn, 1) := by decide +kernel
theorem dL_law_813 : decode cL_law 813 = .ok (.aload_n 1, 1) := by decide +kernel
theorem dL_law_814 : decode cL_law 814 = .ok (.aload_n 0, 1) := by decide +kernel
theorem dL_law_815 : decode cL_law 815 = .ok (.iload_n 3, 1) := by decide +kernel
theorem dL_law_816 : decode cL_law 816 = .ok (.iconst 1, 1) := by decide +kernel
theorem dL_law_817 : decode cL_law 817 = .ok (.iadd, 1) := by decide +kernel
theorem dL_law_818 : decode cL_law 818 = .ok (.iaload, 1) := by decide +kernel
theorem dL_law_819 : decode cL_law 819 = .ok (.aload_n 0, 1) := by decide +kernel
theorem dL_law_820 : decode cL_law 820 = .ok (.iload_n 3, 1) := by decide +kernel
theorem dL_law_821 : decode cL_law 821 = .ok (.iconst 2, 1) := by decide +kernel
theorem dL_law_822 : decode cL_law 822 = .ok (.iadd, 1) := by decide +kernel
theorem dL_law_823 : decode cL_law 823 = .ok (.iaload, 1) := by decide +kernel
theorem dL_law_824 : decode cL_law 824 = .ok (.invokevirtual 101, 3) := by decide +kernel
theorem dL_law_827 : decode cL_law 827 = .ok (.aload_n 2, 1) := by decide +kernel
theorem dL_law_828 : decode cL_law 828 = .ok (.aload_n 0, 1) := by decide +kernel
theorem dL_law_829 : decode cL_law 829 = .ok (.iload_n 3, 1) := by decide +kernel
theorem dL_law_830 : decode cL_law 830 = .ok (.iconst 1, 1) := by decide +kernel
theorem dL_law_831 : decode cL_law 831 = .ok (.iadd, 1) := by decide +kernel
theorem dL_law_832 : decode cL_law 832 = .ok (.iaload, 1) := by decide +kernel
theorem dL_law_833 : decode cL_law 833 = .ok (.aload_n 0, 1) := by decide +kernel
theorem dL_law_834 : decode cL_law 834 = .ok (.iload_n 3, 1) := by decide +kernel
theorem dL_law_835 : decode cL_law 835 = .ok (.iconst 2, 1) := by decide +kernel
theorem dL_law_836 : decode cL_law 836 = .ok (.iadd, 1) := by decide +kernel
theorem dL_law_837 : decode cL_law 837 = .ok (.iaload, 1) := by decide +kernel
theorem dL_law_838 : decode cL_law 838 = .ok (.invokevirtual 104, 3) := by decide +kernel
theorem dL_law_841 : decode cL_law 841 = .ok (.if_icmp .eq 153, 3) := by decide +kernel
theorem dL_law_844 : decode cL_law 844 = .ok (.iconst 0, 1) := by decide +kernel
theorem dL_law_845 : decode cL_law 845 = .ok (.ireturn, 1) := by decide +kernel
theorem dL_law_846 : decode cL_law 846 = .ok (.aload_n 1, 1) := by decide +kernel
theorem dL_law_847 : decode cL_law 847 = .ok (.aload_n 0, 1) := by decide +kernel
theorem dL_law_848 : decode cL_law 848 = .ok (.iload_n 3, 1) := by decide +kernel
theorem dL_law_849 : decode cL_law 849 = .ok (.iconst 1, 1) := by decide +kernel
theorem dL_law_850 : decode cL_law 850 = .ok (.iadd, 1) := by decide +kernel
theorem dL_law_851 : decode cL_law 851 = .ok (.iaload, 1) := by decide +kernel
theorem dL_law_852 : decode cL_law 852 = .ok (.aload_n 0, 1) := by decide +kernel
theorem dL_law_853 : decode cL_law 853 = .ok (.iload_n 3, 1) := by decide +kernel
theorem dL_law_854 : decode cL_law 854 = .ok (.iconst 2, 1) := by decide +kernel
theorem dL_law_855 : decode cL_law 855 = .ok (.iadd, 1) := by decide +kernel
theorem dL_law_856 : decode cL_law 856 = .ok (.iaload, 1) := by decide +kernel
theorem dL_law_857 : decode cL_law 857 = .ok (.invokevirtual 105, 3) := by decide +kernel
theorem dL_law_860 : decode cL_law 860 = .ok (.aload_n 2, 1) := by decide +kernel
theorem dL_law_861 : decode cL_law 861 = .ok (.aload_n 0, 1) := by decide +kernel
theorem dL_law_862 : decode cL_law 862 = .ok (.iload_n 3, 1) := by decide +kernel
theorem dL_law_863 : decode cL_law 863 = .ok (.iconst 1, 1) := by decide +kernel
theorem dL_law_864 : decode cL_law 864 = .ok (.iadd, 1) := by decide +kernel
theorem dL_law_865 : decode cL_law 865 = .ok (.iaload, 1) := by decide +kernel
theorem dL_law_866 : decode cL_law 866 = .ok (.aload_n 0, 1) := by decide +kernel
theorem dL_law_867 : decode cL_law 867 = .ok (.iload_n 3, 1) := by decide +kernel
theorem dL_law_868 : decode cL_law 868 = .ok (.iconst 2, 1) := by decide +kernel
theorem dL_law_869 : decode cL_law 869 = .ok (.iadd, 1) := by decide +kernel
theorem dL_law_870 : decode cL_law 870 = .ok (.iaload, 1) := by decide +kernel
theorem dL_law_871 : decode cL_law 871 = .ok (.invokevirtual 108, 3) := by decide +kernel
theorem dL_law_874 : decode cL_law 874 = .ok (.if_icmp .eq 120, 3) := by decide +kernel
theorem dL_law_877 : decode cL_law 877 = .ok (.iconst 0, 1) := by decide +kernel
theorem dL_law_878 : decode cL_law 878 = .ok (.ireturn, 1) := by decide +kernel
theorem dL_law_879 : decode cL_law 879 = .ok (.aload_n 1, 1) := by decide +kernel
theorem dL_law_880 : decode cL_law 880 = .ok (.aload_n 0, 1) := by decide +kernel
theorem dL_law_881 : decode cL_law 881 = .ok (.iload_n 3, 1) := by decide +kernel
theorem dL_law_882 : decode cL_law 882 = .ok (.iconst 1, 1) := by decide +kernel
theorem dL_law_883 : decode cL_law 883 = .ok (.iadd, 1) := by decide +kernel
theorem dL_law_884 : decode cL_law 884 = .ok (.iaload, 1) := by decide +kernel
theorem dL_law_885 : decode cL_law 885 = .ok (.aload_n 0, 1) := by decide +kernel
theorem dL_law_886 : decode cL_law 886 = .ok (.iload_n 3, 1) := by decide +kernel
theorem dL_law_887 : decode cL_law 887 = .ok (.iconst 2, 1) := by decide +kernel
theorem dL_law_888 : decode cL_law 888 = .ok (.iadd, 1) := by decide +kernel
theorem dL_law_889 : decode cL_law 889 = .ok (.iaload, 1) := by decide +kernel
theorem dL_law_890 : decode cL_law 890 = .ok (.invokevirtual 109, 3) := by decide +kernel
theorem dL_law_893 : decode cL_law 893 = .ok (.aload_n 2, 1) := by decide +kernel
theorem dL_law_894 : decode cL_law 894 = .ok (.aload_n 0, 1) := by decide +kernel
theorem dL_law_895 : decode cL_law 895 = .ok (.iload_n 3, 1) := by decide +kernel
theorem dL_law_896 : decode cL_law 896 = .ok (.iconst 1, 1) := by decide +kernel
theorem dL_law_897 : decode cL_law 897 = .ok (.iadd, 1) := by decide +kernel
theorem dL_law_898 : decode cL_law 898 = .ok (.iaload, 1) := by decide +kernel
theorem dL_law_899 : decode cL_law 899 = .ok (.aload_n 0, 1) := by decide +kernel
theorem dL_law_900 : decode cL_law 900 = .ok (.iload_n 3, 1) := by decide +kernel
theorem dL_law_901 : decode cL_law 901 = .ok (.iconst 2, 1) := by decide +kernel
theorem dL_law_902 : decode cL_law 902 = .ok (.iadd, 1) := by decide +kernel
theorem dL_law_903 : decode cL_law 903 = .ok (.iaload, 1) := by decide +kernel
theorem dL_law_904 : decode cL_law 904 = .ok (.invokevirtual 112, 3) := by decide +kernel
theorem dL_law_907 : decode cL_law 907 = .ok (.if_icmp .eq 87, 3) := by decide +kernel
theorem dL_law_910 : decode cL_law 910 = .ok (.iconst 0, 1) := by decide +kernel
theorem dL_law_911 : decode cL_law 911 = .ok (.ireturn, 1) := by decide +kernel
theorem dL_law_912 : decode cL_law 912 = .ok (.aload_n 1, 1) := by decide +kernel
theorem dL_law_913 : decode cL_law 913 = .ok (.aload_n 0, 1) := by decide +kernel
theorem dL_law_914 : decode cL_law 914 = .ok (.iload_n 3, 1) := by decide +kernel
theorem dL_law_915 : decode cL_law 915 = .ok (.iconst 1, 1) := by decide +kernel
theorem dL_law_916 : decode cL_law 916 = .ok (.iadd, 1) := by decide +kernel
theorem dL_law_917 : decode cL_law 917 = .ok (.iaload, 1) := by decide +kernel
theorem dL_law_918 : decode cL_law 918 = .ok (.aload_n 0, 1) := by decide +kernel
theorem dL_law_919 : decode cL_law 919 = .ok (.iload_n 3, 1) := by decide +kernel
theorem dL_law_920 : decode cL_law 920 = .ok (.iconst 2, 1) := by decide +kernel
theorem dL_law_921 : decode cL_law 921 = .ok (.iadd, 1) := by decide +kernel
theorem dL_law_922 : decode cL_law 922 = .ok (.iaload, 1) := by decide +kernel
theorem dL_law_923 : decode cL_law 923 = .ok (.invokevirtual 113, 3) := by decide +kernel
theorem dL_law_926 : decode cL_law 926 = .ok (.aload_n 2, 1) := by decide +kernel
theorem dL_law_927 : decode cL_law 927 = .ok (.aload_n 0, 1) := by decide +kernel
theorem dL_law_928 : decode cL_law 928 = .ok (.iload_n 3, 1) := by decide +kernel
theorem dL_law_929 : decode cL_law 929 = .ok (.iconst 1, 1) := by decide +kernel
theorem dL_law_930 : decode cL_law 930 = .ok (.iadd, 1) := by decide +kernel
theorem dL_law_931 : decode cL_law 931 = .ok (.iaload, 1) := by decide +kernel
theorem dL_law_932 : decode cL_law 932 = .ok (.aload_n 0, 1) := by decide +kernel
theorem dL_law_933 : decode cL_law 933 = .ok (.iload_n 3, 1) := by decide +kernel
theorem dL_law_934 : decode cL_law 934 = .ok (.iconst 2, 1) := by decide +kernel
theorem dL_law_935 : decode cL_law 935 = .ok (.iadd, 1) := by decide +kernel
theorem dL_law_936 : decode cL_law 936 = .ok (.iaload, 1) := by decide +kernel
theorem dL_law_937 : decode cL_law 937 = .ok (.invokevirtual 116, 3) := by decide +kernel
theorem dL_law_940 : decode cL_law 940 = .ok (.if_icmp .eq 54, 3) := by decide +kernel
theorem dL_law_943 : decode cL_law 943 = .ok (.iconst 0, 1) := by decide +kernel
theorem dL_law_944 : decode cL_law 944 = .ok (.ireturn, 1) := by decide +kernel
theorem dL_law_945 : decode cL_law 945 = .ok (.aload_n 1, 1) := by decide +kernel
theorem dL_law_946 : decode cL_law 946 = .ok (.aload_n 0, 1) := by decide +kernel
theorem dL_law_947 : decode cL_law 947 = .ok (.iload_n 3, 1) := by decide +kernel
theorem dL_law_948 : decode cL_law 948 = .ok (.iconst 1, 1) := by decide +kernel
theorem dL_law_949 : decode cL_law 949 = .ok (.iadd, 1) := by decide +kernel
theorem dL_law_950 : decode cL_law 950 = .ok (.iaload, 1) := by decide +kernel
theorem dL_law_951 : decode cL_law 951 = .ok (.invokevirtual 117, 3) := by decide +kernel
theorem dL_law_954 : decode cL_law 954 = .ok (.aload_n 2, 1) := by decide +kernel
theorem dL_law_955 : decode cL_law 955 = .ok (.aload_n 0, 1) := by decide +kernel
theorem dL_law_956 : decode cL_law 956 = .ok (.iload_n 3, 1) := by decide +kernel
theorem dL_law_957 : decode cL_law 957 = .ok (.iconst 1, 1) := by decide +kernel
theorem dL_law_958 : decode cL_law 958 = .ok (.iadd, 1) := by decide +kernel
theorem dL_law_959 : decode cL_law 959 = .ok (.iaload, 1) := by decide +kernel
theorem dL_law_960 : decode cL_law 960 = .ok (.invokevirtual 120, 3) := by decide +kernel
theorem dL_law_963 : decode cL_law 963 = .ok (.if_icmp .eq 31, 3) := by decide +kernel
theorem dL_law_966 : decode cL_law 966 = .ok (.iconst 0, 1) := by decide +kernel
theorem dL_law_967 : decode cL_law 967 = .ok (.ireturn, 1) := by decide +kernel
theorem dL_law_968 : decode cL_law 968 = .ok (.aload_n 1, 1) := by decide +kernel
theorem dL_law_969 : decode cL_law 969 = .ok (.invokevirtual 121, 3) := by decide +kernel
theorem dL_law_972 : decode cL_law 972 = .ok (.aload_n 2, 1) := by decide +kernel
theorem dL_law_973 : decode cL_law 973 = .ok (.invokevirtual 124, 3) := by decide +kernel
theorem dL_law_976 : decode cL_law 976 = .ok (.if_icmp .eq 18, 3) := by decide +kernel
theorem dL_law_979 : decode cL_law 979 = .ok (.iconst 0, 1) := by decide +kernel
theorem dL_law_980 : decode cL_law 980 = .ok (.ireturn, 1) := by decide +kernel
theorem dL_law_981 : decode cL_law 981 = .ok (.aload_n 1, 1) := by decide +kernel
theorem dL_law_982 : decode cL_law 982 = .ok (.invokevirtual 125, 3) := by decide +kernel
theorem dL_law_985 : decode cL_law 985 = .ok (.aload_n 2, 1) := by decide +kernel
theorem dL_law_986 : decode cL_law 986 = .ok (.invokevirtual 128, 3) := by decide +kernel
theorem dL_law_989 : decode cL_law 989 = .ok (.if_icmp .eq 5, 3) := by decide +kernel
theorem dL_law_992 : decode cL_law 992 = .ok (.iconst 0, 1) := by decide +kernel
theorem dL_law_993 : decode cL_law 993 = .ok (.ireturn, 1) := by decide +kernel
theorem dL_law_994 : decode cL_law 994 = .ok (.iinc 3 4, 3) := by decide +kernel
theorem dL_law_997 : decode cL_law 997 = .ok (.goto (-979), 3) := by decide +kernel
theorem dL_law_1000 : decode cL_law 1000 = .ok (.iconst 1, 1) := by decide +kernel
theorem dL_law_1001 : decode cL_law 1001 = .ok (.ireturn, 1) := by decide +kernel
end
section
/-! GlossHouse, the base: words, the typed memory, the judgement gh_G over it -/
def gh_T : List Cond := lw_tbl.filter goodWord
def gh_isN : Cond → Bool
  | .methodLinkNest _ _ _ _ => true
  | .arrayOver _ => true
  | _ => false
def gh_N : List Cond := tables_1.filter gh_isN
theorem gh_in {w : Cond} (i : Nat) (h : lw_tbl[i]? = some w) (g : goodWord w = true) : w ∈ gh_T := List.mem_filter.mpr ⟨List.mem_of_getElem? h, g⟩
theorem gh_inN {w : Cond} (i : Nat) (h : tables_1[i]? = some w) (g : gh_isN w = true) : w ∈ gh_N := List.mem_filter.mpr ⟨List.mem_of_getElem? h, g⟩
def gh_ws (y : MethodName) (cc : ByteArray) (n : Nat) (ret : Option FieldType) : List Cond := .code y cc n ret :: gh_T
theorem gh_goodT {b : Cond} (h : b ∈ gh_T) : GoodIn gh_T (b :: gh_T) := fun w hw => by
  rcases List.mem_cons.mp hw with rfl | hw
  · exact ⟨h, good_of_word (List.mem_filter.mp h).2⟩
  · exact ⟨hw, good_of_word (List.mem_filter.mp hw).2⟩
theorem gh_N_warm {s U : State} (hW : s.WarmedH U.vm) (h : ∀ w ∈ gh_N, va_Nw w s) : ∀ w ∈ gh_N, va_Nw w U := fun w hw => by
  have hn := (List.mem_filter.mp hw).2
  have h0 := h w hw
  cases w <;> simp [gh_isN] at hn
  · exact va_Nw.warmM hW h0
  · rename_i ty
    have e : (Cond.arrayOver ty).before #[] U = (Cond.arrayOver ty).before #[] (s.setVm U.vm) := rfl
    exact e.trans ((Cond.arrayOver_setVmC (args := #[]) hW.alike ty).trans h0)
/-- the shape: the kind of each cell (0 .. 12 the classes of vwCl, 13 int[], 14 long[], 15 Entry[], 16 Piece[], 17 Text[], 18 int[][]; 99 none), an array's length -/
abbrev gh_Sh : Type := (Nat → Nat) × (Nat → Nat)
/-- what the cells hold: ints, longs, references -/
abbrev gh_M : Type := (Nat → Nat → Int32) × (Nat → Nat → Int64) × (Nat → Nat → Option Nat)
def rI (M : gh_M) (a k : Nat) : Int32 := M.1 a k
def rJ (M : gh_M) (a k : Nat) : Int64 := M.2.1 a k
def rR (M : gh_M) (a k : Nat) : Option Nat := M.2.2 a k
def wI (M : gh_M) (a k : Nat) (v : Int32) : gh_M := (fun b j => if b = a ∧ j = k then v else M.1 b j, M.2)
def wJ (M : gh_M) (a k : Nat) (v : Int64) : gh_M := (M.1, fun b j => if b = a ∧ j = k then v else M.2.1 b j, M.2.2)
def wR (M : gh_M) (a k : Nat) (v : Option Nat) : gh_M := (M.1, M.2.1, fun b j => if b = a ∧ j = k then v else M.2.2 b j)
/-- the fields' sorts: 0 int, 1 long, 2 reference -/
def gh_ty : Nat → List Nat
  | 0 => [2, 0]
  | 1 => [2, 2, 0]
  | 2 => [2, 2, 2, 0]
  | 3 => [2, 2, 1]
  | 4 => [2, 0]
  | 5 => [2, 2, 0, 0, 0]
  | 6 => [2, 2, 2, 2, 0, 1]
  | 7 => [2, 0]
  | 8 => [2]
  | 9 => [2, 0]
  | 10 => [2, 0, 0]
  | 11 => [2, 2, 2, 2, 2, 2, 2, 2, 2, 2, 2, 0, 0]
  | 12 => [0, 2, 0, 2, 2, 2, 2, 2, 0, 2, 2, 2, 2, 2, 2, 2, 0, 2, 2, 2, 0, 2, 2, 2, 0, 0, 2, 0, 2, 2, 2, 2, 2, 2, 2, 2, 2, 2, 2, 2, 2, 0, 0, 2, 2, 2, 2, 2, 0, 0, 0]
  | _ => []
def gh_val (M : gh_M) (a k t : Nat) : Value := if t = 0 then .int (rI M a k) else if t = 1 then .long (rJ M a k) else va_rf (rR M a k)
def gh_fs (M : gh_M) (a ci : Nat) : List Value := (gh_ty ci).mapIdx (gh_val M a)
def gh_cell (dA : Nat → ClassId) (sh : gh_Sh) (M : gh_M) (a : Nat) : va_E :=
  if sh.1 a < 13 then .inr (sh.1 a, gh_fs M a (sh.1 a))
  else .inl (dA (sh.1 a), sh.2 a, if sh.1 a = 13 then .inl (rI M a) else if sh.1 a = 14 then .inr (.inl (rJ M a)) else .inr (.inr (.inr (.inr (rR M a)))))
def gh_P (D : va_G) (dA : Nat → ClassId) (sh : gh_Sh) (b0 n : Nat) (M : gh_M) (H : Heap) : Prop :=
  H.size = b0 + n ∧ (∀ a, sh.1 a ≠ 99 → b0 ≤ a ∧ a < b0 + n) ∧ ∀ a, sh.1 a ≠ 99 → va_at D vwCl (a, gh_cell dA sh M a) H
theorem gh_fs_at (M : gh_M) (a ci k : Nat) : (gh_fs M a ci)[k]? = ((gh_ty ci)[k]?).map (gh_val M a k) := by
  unfold gh_fs
  rw [List.getElem?_mapIdx]
theorem rI_wI (M : gh_M) (a k : Nat) (v : Int32) (b j : Nat) : rI (wI M a k v) b j = if b = a ∧ j = k then v else rI M b j := rfl
theorem rJ_wJ (M : gh_M) (a k : Nat) (v : Int64) (b j : Nat) : rJ (wJ M a k v) b j = if b = a ∧ j = k then v else rJ M b j := rfl
theorem rR_wR (M : gh_M) (a k : Nat) (v : Option Nat) (b j : Nat) : rR (wR M a k v) b j = if b = a ∧ j = k then v else rR M b j := rfl
theorem rI_wJ (M : gh_M) (a k : Nat) (v : Int64) (b j : Nat) : rI (wJ M a k v) b j = rI M b j := rfl
theorem rI_wR (M : gh_M) (a k : Nat) (v : Option Nat) (b j : Nat) : rI (wR M a k v) b j = rI M b j := rfl
theorem rJ_wI (M : gh_M) (a k : Nat) (v : Int32) (b j : Nat) : rJ (wI M a k v) b j = rJ M b j := rfl
theorem rJ_wR (M : gh_M) (a k : Nat) (v : Option Nat) (b j : Nat) : rJ (wR M a k v) b j = rJ M b j := rfl
theorem rR_wI (M : gh_M) (a k : Nat) (v : Int32) (b j : Nat) : rR (wI M a k v) b j = rR M b j := rfl
theorem rR_wJ (M : gh_M) (a k : Nat) (v : Int64) (b j : Nat) : rR (wJ M a k v) b j = rR M b j := rfl
theorem gh_cell_congr {dA : Nat → ClassId} {sh : gh_Sh} {M M' : gh_M} {b : Nat} (h1 : ∀ j, rI M' b j = rI M b j) (h2 : ∀ j, rJ M' b j = rJ M b j) (h3 : ∀ j, rR M' b j = rR M b j) : gh_cell dA sh M' b = gh_cell dA sh M b := by
  have e1 : rI M' b = rI M b := funext h1
  have e2 : rJ M' b = rJ M b := funext h2
  have e3 : rR M' b = rR M b := funext h3
  have e4 : gh_val M' b = gh_val M b := by funext k t; unfold gh_val; rw [h1, h2, h3]
  unfold gh_cell gh_fs
  rw [e1, e2, e3, e4]
theorem gh_P.set {D : va_G} {dA : Nat → ClassId} {sh : gh_Sh} {b0 n : Nat} {M M' : gh_M} {H H1 : Heap} {a : Nat} (h : gh_P D dA sh b0 n M H) (z : H1.size = H.size) (oq : ∀ q, q ≠ a → H1[q]? = H[q]?)
    (ha : va_at D vwCl (a, gh_cell dA sh M' a) H1) (hM : ∀ b, b ≠ a → gh_cell dA sh M' b = gh_cell dA sh M b) : gh_P D dA sh b0 n M' H1 := by
  refine ⟨by rw [z]; exact h.1, h.2.1, fun b hb => ?_⟩
  by_cases e : b = a
  · subst e; exact ha
  · rw [hM b e]
    exact (h.2.2 b hb).kept (oq b e)
theorem gh_cell_obj {dA : Nat → ClassId} {sh : gh_Sh} {M : gh_M} {a ci : Nat} (h : sh.1 a = ci) (hc : ci < 13) : gh_cell dA sh M a = .inr (ci, gh_fs M a ci) := by
  unfold gh_cell
  rw [h, if_pos hc]
theorem gh_cell_I {dA : Nat → ClassId} {sh : gh_Sh} {M : gh_M} {a : Nat} (h : sh.1 a = 13) : gh_cell dA sh M a = .inl (dA 13, sh.2 a, .inl (rI M a)) := by
  unfold gh_cell
  rw [h]; rfl
theorem gh_cell_J {dA : Nat → ClassId} {sh : gh_Sh} {M : gh_M} {a : Nat} (h : sh.1 a = 14) : gh_cell dA sh M a = .inl (dA 14, sh.2 a, .inr (.inl (rJ M a))) := by
  unfold gh_cell
  rw [h]; rfl
theorem gh_cell_R {dA : Nat → ClassId} {sh : gh_Sh} {M : gh_M} {a k : Nat} (h : sh.1 a = k) (h2 : 15 ≤ k) : gh_cell dA sh M a = .inl (dA k, sh.2 a, .inr (.inr (.inr (.inr (rR M a))))) := by
  unfold gh_cell
  rw [h, if_neg (by omega), if_neg (by omega), if_neg (by omega)]
theorem gh_fs_set {M M' : gh_M} {a ci k t : Nat} {v : Value} (ht : (gh_ty ci)[k]? = some t) (hv : gh_val M' a k t = v) (ho : ∀ j u, j ≠ k → gh_val M' a j u = gh_val M a j u) : (gh_fs M a ci).set k v = gh_fs M' a ci := by
  apply List.ext_getElem?
  intro j
  rw [gh_fs_at]
  by_cases e : j = k
  · subst e
    have hl : j < (gh_fs M a ci).length := by
      unfold gh_fs
      rw [List.length_mapIdx]
      exact (List.getElem?_eq_some_iff.mp ht).1
    rw [List.getElem?_set_self hl, ht]
    simp [hv]
  · rw [List.getElem?_set_ne (Ne.symm e), gh_fs_at]
    cases (gh_ty ci)[j]? with
    | none => rfl
    | some u => simp [ho j u e]
def gh_tys (dA : Nat → ClassId) : List (ClassId × FieldType) := [(dA 13, .int), (dA 14, .long), (dA 15, .object "GlossHouse$Entry"), (dA 16, .object "GlossHouse$Piece"), (dA 17, .object "GlossHouse$Text"), (dA 18, .array .int)]
/-- what stays through a method's walk: p, l, e, s, m, args, below, meth, c, Q, D, dA, b0, H0 -/
abbrev gh_X : Type := Program × Launch × Env × State × MethodId × Array Value × List Frame × Method × Code × (State → Prop) × va_G × (Nat → ClassId) × Nat × Heap
abbrev gx_p (X : gh_X) : Program := X.1
abbrev gx_l (X : gh_X) : Launch := X.2.1
abbrev gx_e (X : gh_X) : Env := X.2.2.1
abbrev gx_s (X : gh_X) : State := X.2.2.2.1
abbrev gx_m (X : gh_X) : MethodId := X.2.2.2.2.1
abbrev gx_a (X : gh_X) : Array Value := X.2.2.2.2.2.1
abbrev gx_w (X : gh_X) : List Frame := X.2.2.2.2.2.2.1
abbrev gx_h (X : gh_X) : Method := X.2.2.2.2.2.2.2.1
abbrev gx_c (X : gh_X) : Code := X.2.2.2.2.2.2.2.2.1
abbrev gx_Q (X : gh_X) : State → Prop := X.2.2.2.2.2.2.2.2.2.1
abbrev gx_D (X : gh_X) : va_G := X.2.2.2.2.2.2.2.2.2.2.1
abbrev gx_d (X : gh_X) : Nat → ClassId := X.2.2.2.2.2.2.2.2.2.2.2.1
abbrev gx_b (X : gh_X) : Nat := X.2.2.2.2.2.2.2.2.2.2.2.2.1
abbrev gx_H (X : gh_X) : Heap := X.2.2.2.2.2.2.2.2.2.2.2.2.2
def gh_C (X : gh_X) (cc : ByteArray) (own : String) (nL : Nat) : Prop := (gx_p X).tables.exec = Jvm.exec ∧ (gx_c X).code = cc ∧ (gx_c X).maxLocals = nL ∧ (gx_s X).vm.findClass own = some (gx_m X).cls ∧
  (∀ w ∈ gh_T, w.before (gx_a X) (gx_s X) = true) ∧ va_K (gx_D X) vwCl (gh_tys (gx_d X)) (gx_s X) ∧ (∀ w ∈ gh_N, va_Nw w (gx_s X)) ∧ gx_b X ≤ (gx_H X).size
def gh_hp (X : gh_X) (sh : gh_Sh) (n : Nat) (M : gh_M) (H : Heap) (locs : List Loc) : Prop := gh_P (gx_D X) (gx_d X) sh (gx_b X) n M H ∧ va_S (fun q => gx_b X ≤ q) (gx_H X) H locs
abbrev gh_W (X : gh_X) (R : Room) (H : Heap) (locs : List Loc) (cells slots : Nat) (g : JFrame) : Prop := W (gx_p X) (gx_l X) (gx_e X) R (gx_s X) (gx_m X) (gx_a X) (gx_w X) (gx_h X) (gx_c X) H locs cells slots (gx_Q X) g
/-- from every heap that holds M, with these locals and this stack -/
def gh_G (X : gh_X) (R : Room) (nL cells slots : Nat) (sh : gh_Sh) (n pc : Nat) (lv : List (Nat × Value)) (st : List Value) (M : gh_M) : Prop :=
  ∀ (H : Heap) (locs : List Loc) (ls : Array Slot), gh_hp X sh n M H locs → lv_has ls nL lv → gh_W X R H locs cells slots (F0 (gx_m X) pc ls st)
def gh_Pc (D : va_G) (dA : Nat → ClassId) (sh : gh_Sh) (b0 n : Nat) (M : gh_M) (av : List Value) : Array Value → State → Prop :=
  va_Pc av (fun U => gh_P D dA sh b0 n M U.heap ∧ va_K D vwCl (gh_tys dA) U ∧ ∀ w ∈ gh_N, va_Nw w U)
def gh_Q (D : va_G) (dA : Nat → ClassId) (sh : gh_Sh) (b0 n : Nat) (post : Option Value → gh_M → Prop) : Array Value → State → Outcome → State → Prop :=
  fun _ st oc t => (∃ (v : Option Value) (M' : gh_M), oc = .returned v ∧ post v M' ∧ gh_P D dA sh b0 n M' t.heap) ∧ va_F (fun q => b0 ≤ q) st t
def gh_pi (post : Int32 → gh_M → Prop) : Option Value → gh_M → Prop := fun v M => ∃ r, v = some (.int r) ∧ post r M
def gh_pl (post : Int64 → gh_M → Prop) : Option Value → gh_M → Prop := fun v M => ∃ r, v = some (.long r) ∧ post r M
def gh_pv (post : gh_M → Prop) : Option Value → gh_M → Prop := fun v M => v = none ∧ post M
def gh_pq (post : Option Nat → gh_M → Prop) : Option Value → gh_M → Prop := fun v M => ∃ r, v = some (va_rf r) ∧ post r M
def gh_pn (post : Nat → gh_M → Prop) : Option Value → gh_M → Prop := fun v M => ∃ r, v = some (.ref r) ∧ post r M
def gh_CR (X : gh_X) (cc : ByteArray) (own : String) (nL : Nat) (rt : Option FieldType) (sh : gh_Sh) (n cells slots : Nat) (post : Option Value → gh_M → Prop) : Prop :=
  gh_C X cc own nL ∧ (gx_h X).sig.returnType = rt ∧ (gx_h X).locks = false ∧ gx_Q X = MQ (gx_w X) (gh_Q (gx_D X) (gx_d X) sh (gx_b X) n post) (gx_a X) (gx_s X) cells slots (fun q => gx_b X ≤ q) ∧ gx_H X = (gx_s X).heap
abbrev gh_Met (l : Launch) (D : va_G) (dA : Nat → ClassId) (sh : gh_Sh) (b0 n : Nat) (y : MethodName) (cc : ByteArray) (nL : Nat) (ret : Option FieldType) (rm : Room) (M : gh_M) (av : List Value) (post : Option Value → gh_M → Prop) : Prop :=
  Met l y (gh_ws y cc nL ret) rm (gh_Pc D dA sh b0 n M av) (gh_Q D dA sh b0 n post) 0 0 (fun q => b0 ≤ q)
theorem gh_open {l : Launch} {D : va_G} {dA : Nat → ClassId} {sh : gh_Sh} {b0 n : Nat} {y : MethodName} {cc : ByteArray} {nL : Nat} {ret : Option FieldType} {rm : Room} {M : gh_M} {av : List Value} {post : Option Value → gh_M → Prop}
    (hy : plainName y.cls = true) (hlen : (lg_sl av).length ≤ nL) (body : ∀ X : gh_X, gh_CR X cc y.cls nL ret sh n 0 0 post → gh_G X rm nL 0 0 sh n 0 (lv_args 0 av) [] M) : gh_Met l D dA sh b0 n y cc nL ret rm M av post := by
  refine Met.ofW (cc := cc) (maxL := nL) (ret := ret) hy rfl ?_
  intro p e s m args below meth c s₁ B hml hv
  obtain ⟨rfl, hP, hK, hN⟩ := hv
  have hts := atoms_spec (ws := gh_ws y cc nL ret) B.pre
  have hown : s.vm.findClass y.cls = some m.cls := findClass_of_methodNamed B.named
  have hl := lv_entry av (n := nL) hlen
  rw [lg_entry_eq]
  refine body (p, l, e, s, m, av.toArray, below, meth, c, _, D, dA, b0, s.heap) ⟨⟨B.exec, B.bytes, hml, hown, fun w hw => hts w (List.mem_cons_of_mem _ hw), hK, hN, ?_⟩, B.returns, B.notSynchronized, rfl, rfl⟩ s.heap [] _ ⟨hP, va_S.rf⟩ hl
  show b0 ≤ s.heap.size
  rw [hP.1]; omega
end
section
/-! a row an instruction, over gh_G -/
section GHR
variable {X : gh_X} {cc : ByteArray} {own : String} {nL : Nat} {R : Room} {cells slots : Nat} {sh : gh_Sh} {n pc : Nat} {lv : List (Nat × Value)} {st : List Value} {M : gh_M}
theorem k_sub {lv' : List (Nat × Value)} (ks : List Nat) (h : lv_pick lv ks = lv') (k : gh_G X R nL cells slots sh n pc lv' st M) : gh_G X R nL cells slots sh n pc lv st M := fun H locs ls hh hl => k H locs ls hh (lv_sub hl ks h)
theorem k_iconst (C : gh_C X cc own nL) {i : Int} {v : Int32} (d : decode cc pc = .ok (.iconst i, 1)) (hv : Int32.ofInt i = v) (k : gh_G X R nL cells slots sh n (pc + 1) lv (.int v :: st) M) : gh_G X R nL cells slots sh n pc lv st M := fun H locs ls hh hl => lv_iconst C.1 C.2.1 d hv (k H locs ls hh hl)
theorem k_bipush (C : gh_C X cc own nL) {i : Int} {v : Int32} (d : decode cc pc = .ok (.bipush i, 2)) (hv : (Int8.ofInt i).toInt32 = v) (k : gh_G X R nL cells slots sh n (pc + 2) lv (.int v :: st) M) : gh_G X R nL cells slots sh n pc lv st M := fun H locs ls hh hl => lv_bipush C.1 C.2.1 d hv (k H locs ls hh hl)
theorem k_sipush (C : gh_C X cc own nL) {i : Int} {v : Int32} (d : decode cc pc = .ok (.sipush i, 3)) (hv : (Int16.ofInt i).toInt32 = v) (k : gh_G X R nL cells slots sh n (pc + 3) lv (.int v :: st) M) : gh_G X R nL cells slots sh n pc lv st M := fun H locs ls hh hl => lv_sipush C.1 C.2.1 d hv (k H locs ls hh hl)
theorem k_lconst (C : gh_C X cc own nL) {i : Fin 2} {v : Int64} (d : decode cc pc = .ok (.lconst i, 1)) (hv : Int64.ofNat (i : Nat) = v) (k : gh_G X R nL cells slots sh n (pc + 1) lv (.long v :: st) M) : gh_G X R nL cells slots sh n pc lv st M := fun H locs ls hh hl => lv_lconst C.1 C.2.1 d hv (k H locs ls hh hl)
theorem k_ldc (C : gh_C X cc own nL) {idx : Nat} {v : Int32} (hw : Cond.constant own idx v ∈ gh_T) (d : decode cc pc = .ok (.ldc idx, 2)) (k : gh_G X R nL cells slots sh n (pc + 2) lv (.int v :: st) M) : gh_G X R nL cells slots sh n pc lv st M := fun H locs ls hh hl => lv_ldc C.1 C.2.1 C.2.2.2.1 (C.2.2.2.2.1 _ hw) d (k H locs ls hh hl)
theorem k_null (C : gh_C X cc own nL) (d : decode cc pc = .ok (.aconst_null, 1)) (k : gh_G X R nL cells slots sh n (pc + 1) lv (.null :: st) M) : gh_G X R nL cells slots sh n pc lv st M := fun H locs ls hh hl => lv_null C.1 C.2.1 d (k H locs ls hh hl)
theorem k_iload_n (C : gh_C X cc own nL) {i : Fin 4} {x : Int32} (j : Nat) (hj : lv[j]? = some ((i : Nat), .int x)) (d : decode cc pc = .ok (.iload_n i, 1)) (k : gh_G X R nL cells slots sh n (pc + 1) lv (.int x :: st) M) : gh_G X R nL cells slots sh n pc lv st M := fun H locs ls hh hl => lv_iload_n C.1 C.2.1 d rfl (lv_at hl j hj) (k H locs ls hh hl)
theorem k_iload (C : gh_C X cc own nL) {i : Nat} {x : Int32} (j : Nat) (hj : lv[j]? = some (i, .int x)) (d : decode cc pc = .ok (.iload i, 2)) (k : gh_G X R nL cells slots sh n (pc + 2) lv (.int x :: st) M) : gh_G X R nL cells slots sh n pc lv st M := fun H locs ls hh hl => lv_iload C.1 C.2.1 d (lv_at hl j hj) (k H locs ls hh hl)
theorem k_lload_n (C : gh_C X cc own nL) {i : Fin 4} {x : Int64} (j : Nat) (hj : lv[j]? = some ((i : Nat), .long x)) (d : decode cc pc = .ok (.lload_n i, 1)) (k : gh_G X R nL cells slots sh n (pc + 1) lv (.long x :: st) M) : gh_G X R nL cells slots sh n pc lv st M := fun H locs ls hh hl => lv_lload_n C.1 C.2.1 d rfl (lv_at hl j hj) (k H locs ls hh hl)
theorem k_lload (C : gh_C X cc own nL) {i : Nat} {x : Int64} (j : Nat) (hj : lv[j]? = some (i, .long x)) (d : decode cc pc = .ok (.lload i, 2)) (k : gh_G X R nL cells slots sh n (pc + 2) lv (.long x :: st) M) : gh_G X R nL cells slots sh n pc lv st M := fun H locs ls hh hl => lv_lload C.1 C.2.1 d (lv_at hl j hj) (k H locs ls hh hl)
theorem k_aload_n (C : gh_C X cc own nL) {i : Fin 4} {x : Nat} (j : Nat) (hj : lv[j]? = some ((i : Nat), .ref x)) (d : decode cc pc = .ok (.aload_n i, 1)) (k : gh_G X R nL cells slots sh n (pc + 1) lv (.ref x :: st) M) : gh_G X R nL cells slots sh n pc lv st M := fun H locs ls hh hl => lv_aload_n C.1 C.2.1 d rfl (lv_at hl j hj) (k H locs ls hh hl)
theorem k_aload (C : gh_C X cc own nL) {i : Nat} {x : Nat} (j : Nat) (hj : lv[j]? = some (i, .ref x)) (d : decode cc pc = .ok (.aload i, 2)) (k : gh_G X R nL cells slots sh n (pc + 2) lv (.ref x :: st) M) : gh_G X R nL cells slots sh n pc lv st M := fun H locs ls hh hl => lv_aload C.1 C.2.1 d (lv_at hl j hj) (k H locs ls hh hl)
theorem k_aload_nq (C : gh_C X cc own nL) {i : Fin 4} {r : Option Nat} (j : Nat) (hj : lv[j]? = some ((i : Nat), va_rf r)) (d : decode cc pc = .ok (.aload_n i, 1)) (k : gh_G X R nL cells slots sh n (pc + 1) lv (va_rf r :: st) M) : gh_G X R nL cells slots sh n pc lv st M := by
  cases r with
  | none => exact fun H locs ls hh hl => lv_aload_nN C.1 C.2.1 d rfl (lv_at hl j hj) (k H locs ls hh hl)
  | some x => exact k_aload_n C j hj d k
theorem k_aloadq (C : gh_C X cc own nL) {i : Nat} {r : Option Nat} (j : Nat) (hj : lv[j]? = some (i, va_rf r)) (d : decode cc pc = .ok (.aload i, 2)) (k : gh_G X R nL cells slots sh n (pc + 2) lv (va_rf r :: st) M) : gh_G X R nL cells slots sh n pc lv st M := by
  cases r with
  | none => exact fun H locs ls hh hl => lv_aloadN C.1 C.2.1 d (lv_at hl j hj) (k H locs ls hh hl)
  | some x => exact k_aload C j hj d k
/-- the locals behind a store -/
def gh_st (i : Nat) (v : Value) (lv : List (Nat × Value)) : List (Nat × Value) := (i, v) :: lv.filter (fun q => !(q.1 == i) && !(q.1 + 1 == i && q.2.category == 2))
def gh_st2 (i : Nat) (v : Value) (lv : List (Nat × Value)) : List (Nat × Value) := (i, v) :: lv.filter (fun q => !(q.1 == i) && (!(q.1 == i + 1) && !(q.1 + 1 == i && q.2.category == 2)))
theorem k_istore_n (C : gh_C X cc own nL) {i : Fin 4} {x : Int32} {lv' : List (Nat × Value)} (d : decode cc pc = .ok (.istore_n i, 1)) (hn : (i : Nat) < nL) (hl' : gh_st i (.int x) lv = lv') (k : gh_G X R nL cells slots sh n (pc + 1) lv' st M) : gh_G X R nL cells slots sh n pc lv (.int x :: st) M := fun H locs ls hh hl => lv_istore_n C.1 C.2.1 d rfl hl hn hl' (fun ls' h' => k H locs ls' hh h')
theorem k_istore (C : gh_C X cc own nL) {i : Nat} {x : Int32} {lv' : List (Nat × Value)} (d : decode cc pc = .ok (.istore i, 2)) (hn : i < nL) (hl' : gh_st i (.int x) lv = lv') (k : gh_G X R nL cells slots sh n (pc + 2) lv' st M) : gh_G X R nL cells slots sh n pc lv (.int x :: st) M := fun H locs ls hh hl => lv_istore C.1 C.2.1 d hl hn hl' (fun ls' h' => k H locs ls' hh h')
theorem k_lstore_n (C : gh_C X cc own nL) {i : Fin 4} {x : Int64} {lv' : List (Nat × Value)} (d : decode cc pc = .ok (.lstore_n i, 1)) (hn : (i : Nat) + 1 < nL) (hl' : gh_st2 i (.long x) lv = lv') (k : gh_G X R nL cells slots sh n (pc + 1) lv' st M) : gh_G X R nL cells slots sh n pc lv (.long x :: st) M := fun H locs ls hh hl => lv_lstore_n C.1 C.2.1 d rfl hl hn hl' (fun ls' h' => k H locs ls' hh h')
theorem k_lstore (C : gh_C X cc own nL) {i : Nat} {x : Int64} {lv' : List (Nat × Value)} (d : decode cc pc = .ok (.lstore i, 2)) (hn : i + 1 < nL) (hl' : gh_st2 i (.long x) lv = lv') (k : gh_G X R nL cells slots sh n (pc + 2) lv' st M) : gh_G X R nL cells slots sh n pc lv (.long x :: st) M := fun H locs ls hh hl => lv_lstore C.1 C.2.1 d hl hn hl' (fun ls' h' => k H locs ls' hh h')
theorem k_astore_n (C : gh_C X cc own nL) {i : Fin 4} {x : Nat} {lv' : List (Nat × Value)} (d : decode cc pc = .ok (.astore_n i, 1)) (hn : (i : Nat) < nL) (hl' : gh_st i (.ref x) lv = lv') (k : gh_G X R nL cells slots sh n (pc + 1) lv' st M) : gh_G X R nL cells slots sh n pc lv (.ref x :: st) M := fun H locs ls hh hl => lv_astore_n C.1 C.2.1 d rfl hl hn hl' (fun ls' h' => k H locs ls' hh h')
theorem k_astore (C : gh_C X cc own nL) {i : Nat} {x : Nat} {lv' : List (Nat × Value)} (d : decode cc pc = .ok (.astore i, 2)) (hn : i < nL) (hl' : gh_st i (.ref x) lv = lv') (k : gh_G X R nL cells slots sh n (pc + 2) lv' st M) : gh_G X R nL cells slots sh n pc lv (.ref x :: st) M := fun H locs ls hh hl => lv_astore C.1 C.2.1 d hl hn hl' (fun ls' h' => k H locs ls' hh h')
theorem k_astore_nq (C : gh_C X cc own nL) {i : Fin 4} {r : Option Nat} {lv' : List (Nat × Value)} (d : decode cc pc = .ok (.astore_n i, 1)) (hn : (i : Nat) < nL) (hl' : gh_st i (va_rf r) lv = lv') (k : gh_G X R nL cells slots sh n (pc + 1) lv' st M) : gh_G X R nL cells slots sh n pc lv (va_rf r :: st) M := by
  cases r with
  | none => exact fun H locs ls hh hl => lv_astore_nN C.1 C.2.1 d rfl hl hn hl' (fun ls' h' => k H locs ls' hh h')
  | some x => exact k_astore_n C d hn hl' k
theorem k_astoreq (C : gh_C X cc own nL) {i : Nat} {r : Option Nat} {lv' : List (Nat × Value)} (d : decode cc pc = .ok (.astore i, 2)) (hn : i < nL) (hl' : gh_st i (va_rf r) lv = lv') (k : gh_G X R nL cells slots sh n (pc + 2) lv' st M) : gh_G X R nL cells slots sh n pc lv (va_rf r :: st) M := by
  cases r with
  | none => exact fun H locs ls hh hl => lv_astoreN C.1 C.2.1 d hl hn hl' (fun ls' h' => k H locs ls' hh h')
  | some x => exact k_astore C d hn hl' k
theorem k_iinc (C : gh_C X cc own nL) {i : Nat} {z : Int} {x v : Int32} {lv' : List (Nat × Value)} (j : Nat) (hj : lv[j]? = some (i, .int x)) (d : decode cc pc = .ok (.iinc i z, 3)) (hn : i < nL) (hv : x + Int32.ofInt z = v) (hl' : gh_st i (.int v) lv = lv') (k : gh_G X R nL cells slots sh n (pc + 3) lv' st M) : gh_G X R nL cells slots sh n pc lv st M := fun H locs ls hh hl => lv_iinc C.1 C.2.1 d hl hj hv hn hl' (fun ls' h' => k H locs ls' hh h')
theorem k_iadd (C : gh_C X cc own nL) {x y : Int32} (d : decode cc pc = .ok (.iadd, 1)) (k : gh_G X R nL cells slots sh n (pc + 1) lv (.int (x + y) :: st) M) : gh_G X R nL cells slots sh n pc lv (.int y :: .int x :: st) M := fun H locs ls hh hl => lv_iadd C.1 C.2.1 d (k H locs ls hh hl)
theorem k_isub (C : gh_C X cc own nL) {x y : Int32} (d : decode cc pc = .ok (.isub, 1)) (k : gh_G X R nL cells slots sh n (pc + 1) lv (.int (x - y) :: st) M) : gh_G X R nL cells slots sh n pc lv (.int y :: .int x :: st) M := fun H locs ls hh hl => lv_isub C.1 C.2.1 d (k H locs ls hh hl)
theorem k_imul (C : gh_C X cc own nL) {x y : Int32} (d : decode cc pc = .ok (.imul, 1)) (k : gh_G X R nL cells slots sh n (pc + 1) lv (.int (x * y) :: st) M) : gh_G X R nL cells slots sh n pc lv (.int y :: .int x :: st) M := fun H locs ls hh hl => lv_imul C.1 C.2.1 d (k H locs ls hh hl)
theorem k_iand (C : gh_C X cc own nL) {x y : Int32} (d : decode cc pc = .ok (.iand, 1)) (k : gh_G X R nL cells slots sh n (pc + 1) lv (.int (x &&& y) :: st) M) : gh_G X R nL cells slots sh n pc lv (.int y :: .int x :: st) M := fun H locs ls hh hl => lv_iand C.1 C.2.1 d (k H locs ls hh hl)
theorem k_ior (C : gh_C X cc own nL) {x y : Int32} (d : decode cc pc = .ok (.ior, 1)) (k : gh_G X R nL cells slots sh n (pc + 1) lv (.int (x ||| y) :: st) M) : gh_G X R nL cells slots sh n pc lv (.int y :: .int x :: st) M := fun H locs ls hh hl => lv_ior C.1 C.2.1 d (k H locs ls hh hl)
theorem k_ixor (C : gh_C X cc own nL) {x y : Int32} (d : decode cc pc = .ok (.ixor, 1)) (k : gh_G X R nL cells slots sh n (pc + 1) lv (.int (x ^^^ y) :: st) M) : gh_G X R nL cells slots sh n pc lv (.int y :: .int x :: st) M := fun H locs ls hh hl => lv_ixor C.1 C.2.1 d (k H locs ls hh hl)
theorem k_ishl (C : gh_C X cc own nL) {x y : Int32} (d : decode cc pc = .ok (.ishl, 1)) (k : gh_G X R nL cells slots sh n (pc + 1) lv (.int (x <<< (y &&& 31)) :: st) M) : gh_G X R nL cells slots sh n pc lv (.int y :: .int x :: st) M := fun H locs ls hh hl => lv_ishl C.1 C.2.1 d (k H locs ls hh hl)
theorem k_ishr (C : gh_C X cc own nL) {x y : Int32} (d : decode cc pc = .ok (.ishr, 1)) (k : gh_G X R nL cells slots sh n (pc + 1) lv (.int (x >>> (y &&& 31)) :: st) M) : gh_G X R nL cells slots sh n pc lv (.int y :: .int x :: st) M := fun H locs ls hh hl => lv_ishr C.1 C.2.1 d (k H locs ls hh hl)
theorem k_ladd (C : gh_C X cc own nL) {x y : Int64} (d : decode cc pc = .ok (.ladd, 1)) (k : gh_G X R nL cells slots sh n (pc + 1) lv (.long (x + y) :: st) M) : gh_G X R nL cells slots sh n pc lv (.long y :: .long x :: st) M := fun H locs ls hh hl => lv_ladd C.1 C.2.1 d (k H locs ls hh hl)
theorem k_i2l (C : gh_C X cc own nL) {x : Int32} (d : decode cc pc = .ok (.i2l, 1)) (k : gh_G X R nL cells slots sh n (pc + 1) lv (.long x.toInt64 :: st) M) : gh_G X R nL cells slots sh n pc lv (.int x :: st) M := fun H locs ls hh hl => lv_i2l C.1 C.2.1 d rfl (k H locs ls hh hl)
theorem k_l2i (C : gh_C X cc own nL) {x : Int64} (d : decode cc pc = .ok (.l2i, 1)) (k : gh_G X R nL cells slots sh n (pc + 1) lv (.int x.toInt32 :: st) M) : gh_G X R nL cells slots sh n pc lv (.long x :: st) M := fun H locs ls hh hl => lv_l2i C.1 C.2.1 d rfl (k H locs ls hh hl)
theorem k_lshl (C : gh_C X cc own nL) {x : Int64} {y : Int32} (d : decode cc pc = .ok (.lshl, 1)) (k : gh_G X R nL cells slots sh n (pc + 1) lv (.long (x <<< (y.toInt64 &&& 63)) :: st) M) : gh_G X R nL cells slots sh n pc lv (.int y :: .long x :: st) M := fun H locs ls hh hl => lv_lshl C.1 C.2.1 d rfl (k H locs ls hh hl)
theorem k_lshr (C : gh_C X cc own nL) {x : Int64} {y : Int32} (d : decode cc pc = .ok (.lshr, 1)) (k : gh_G X R nL cells slots sh n (pc + 1) lv (.long (x >>> (y.toInt64 &&& 63)) :: st) M) : gh_G X R nL cells slots sh n pc lv (.int y :: .long x :: st) M := fun H locs ls hh hl => lv_lshr C.1 C.2.1 d rfl (k H locs ls hh hl)
theorem k_dup (C : gh_C X cc own nL) {v : Value} (d : decode cc pc = .ok (.dup, 1)) (hv : v.category = 1) (k : gh_G X R nL cells slots sh n (pc + 1) lv (v :: v :: st) M) : gh_G X R nL cells slots sh n pc lv (v :: st) M := fun H locs ls hh hl => lv_dup C.1 C.2.1 d hv (k H locs ls hh hl)
theorem k_dup2 (C : gh_C X cc own nL) {v w : Value} (d : decode cc pc = .ok (.dup2, 1)) (hv : v.category = 1) (hw : w.category = 1) (k : gh_G X R nL cells slots sh n (pc + 1) lv (v :: w :: v :: w :: st) M) : gh_G X R nL cells slots sh n pc lv (v :: w :: st) M := fun H locs ls hh hl => lv_dup2_11 C.1 C.2.1 d hv hw (k H locs ls hh hl)
theorem k_goto (C : gh_C X cc own nL) {off : Int} (tgt : Nat) (d : decode cc pc = .ok (.goto off, 3)) (ht : (pc : Int) + off = (tgt : Int)) (k : gh_G X R nL cells slots sh n tgt lv st M) : gh_G X R nL cells slots sh n pc lv st M := fun H locs ls hh hl => lv_goto C.1 C.2.1 d ht (k H locs ls hh hl)
theorem k_if_eq (C : gh_C X cc own nL) {x : Int32} {off : Int} (tgt : Nat) (d : decode cc pc = .ok (.ifCond .eq off, 3)) (ht : (pc : Int) + off = (tgt : Int)) (kt : x = 0 → gh_G X R nL cells slots sh n tgt lv st M) (kf : ¬ x = 0 → gh_G X R nL cells slots sh n (pc + 3) lv st M) : gh_G X R nL cells slots sh n pc lv (.int x :: st) M := fun H locs ls hh hl => lv_if_eq C.1 C.2.1 d ht (fun c => kt c H locs ls hh hl) (fun c => kf c H locs ls hh hl)
theorem k_if_ne (C : gh_C X cc own nL) {x : Int32} {off : Int} (tgt : Nat) (d : decode cc pc = .ok (.ifCond .ne off, 3)) (ht : (pc : Int) + off = (tgt : Int)) (kt : ¬ x = 0 → gh_G X R nL cells slots sh n tgt lv st M) (kf : x = 0 → gh_G X R nL cells slots sh n (pc + 3) lv st M) : gh_G X R nL cells slots sh n pc lv (.int x :: st) M := fun H locs ls hh hl => lv_if_ne C.1 C.2.1 d ht (fun c => kt c H locs ls hh hl) (fun c => kf c H locs ls hh hl)
theorem k_if_lt (C : gh_C X cc own nL) {x : Int32} {off : Int} (tgt : Nat) (d : decode cc pc = .ok (.ifCond .lt off, 3)) (ht : (pc : Int) + off = (tgt : Int)) (kt : x < 0 → gh_G X R nL cells slots sh n tgt lv st M) (kf : ¬ x < 0 → gh_G X R nL cells slots sh n (pc + 3) lv st M) : gh_G X R nL cells slots sh n pc lv (.int x :: st) M := fun H locs ls hh hl => lv_if_lt C.1 C.2.1 d ht (fun c => kt c H locs ls hh hl) (fun c => kf c H locs ls hh hl)
theorem k_if_ge (C : gh_C X cc own nL) {x : Int32} {off : Int} (tgt : Nat) (d : decode cc pc = .ok (.ifCond .ge off, 3)) (ht : (pc : Int) + off = (tgt : Int)) (kt : 0 ≤ x → gh_G X R nL cells slots sh n tgt lv st M) (kf : ¬ 0 ≤ x → gh_G X R nL cells slots sh n (pc + 3) lv st M) : gh_G X R nL cells slots sh n pc lv (.int x :: st) M := fun H locs ls hh hl => lv_if_ge C.1 C.2.1 d ht (fun c => kt c H locs ls hh hl) (fun c => kf c H locs ls hh hl)
theorem k_if_gt (C : gh_C X cc own nL) {x : Int32} {off : Int} (tgt : Nat) (d : decode cc pc = .ok (.ifCond .gt off, 3)) (ht : (pc : Int) + off = (tgt : Int)) (kt : 0 < x → gh_G X R nL cells slots sh n tgt lv st M) (kf : ¬ 0 < x → gh_G X R nL cells slots sh n (pc + 3) lv st M) : gh_G X R nL cells slots sh n pc lv (.int x :: st) M := fun H locs ls hh hl => lv_if_gt C.1 C.2.1 d ht (fun c => kt c H locs ls hh hl) (fun c => kf c H locs ls hh hl)
theorem k_if_le (C : gh_C X cc own nL) {x : Int32} {off : Int} (tgt : Nat) (d : decode cc pc = .ok (.ifCond .le off, 3)) (ht : (pc : Int) + off = (tgt : Int)) (kt : x ≤ 0 → gh_G X R nL cells slots sh n tgt lv st M) (kf : ¬ x ≤ 0 → gh_G X R nL cells slots sh n (pc + 3) lv st M) : gh_G X R nL cells slots sh n pc lv (.int x :: st) M := fun H locs ls hh hl => lv_if_le C.1 C.2.1 d ht (fun c => kt c H locs ls hh hl) (fun c => kf c H locs ls hh hl)
theorem k_icmp_eq (C : gh_C X cc own nL) {x y : Int32} {off : Int} (tgt : Nat) (d : decode cc pc = .ok (.if_icmp .eq off, 3)) (ht : (pc : Int) + off = (tgt : Int)) (kt : x = y → gh_G X R nL cells slots sh n tgt lv st M) (kf : ¬ x = y → gh_G X R nL cells slots sh n (pc + 3) lv st M) : gh_G X R nL cells slots sh n pc lv (.int y :: .int x :: st) M := fun H locs ls hh hl => lv_icmp_eq C.1 C.2.1 d ht (fun c => kt c H locs ls hh hl) (fun c => kf c H locs ls hh hl)
theorem k_icmp_ne (C : gh_C X cc own nL) {x y : Int32} {off : Int} (tgt : Nat) (d : decode cc pc = .ok (.if_icmp .ne off, 3)) (ht : (pc : Int) + off = (tgt : Int)) (kt : ¬ x = y → gh_G X R nL cells slots sh n tgt lv st M) (kf : x = y → gh_G X R nL cells slots sh n (pc + 3) lv st M) : gh_G X R nL cells slots sh n pc lv (.int y :: .int x :: st) M := fun H locs ls hh hl => lv_icmp_ne C.1 C.2.1 d ht (fun c => kt c H locs ls hh hl) (fun c => kf c H locs ls hh hl)
theorem k_icmp_lt (C : gh_C X cc own nL) {x y : Int32} {off : Int} (tgt : Nat) (d : decode cc pc = .ok (.if_icmp .lt off, 3)) (ht : (pc : Int) + off = (tgt : Int)) (kt : x < y → gh_G X R nL cells slots sh n tgt lv st M) (kf : ¬ x < y → gh_G X R nL cells slots sh n (pc + 3) lv st M) : gh_G X R nL cells slots sh n pc lv (.int y :: .int x :: st) M := fun H locs ls hh hl => lv_icmp_lt C.1 C.2.1 d ht (fun c => kt c H locs ls hh hl) (fun c => kf c H locs ls hh hl)
theorem k_icmp_ge (C : gh_C X cc own nL) {x y : Int32} {off : Int} (tgt : Nat) (d : decode cc pc = .ok (.if_icmp .ge off, 3)) (ht : (pc : Int) + off = (tgt : Int)) (kt : y ≤ x → gh_G X R nL cells slots sh n tgt lv st M) (kf : ¬ y ≤ x → gh_G X R nL cells slots sh n (pc + 3) lv st M) : gh_G X R nL cells slots sh n pc lv (.int y :: .int x :: st) M := fun H locs ls hh hl => lv_icmp_ge C.1 C.2.1 d ht (fun c => kt c H locs ls hh hl) (fun c => kf c H locs ls hh hl)
theorem k_icmp_gt (C : gh_C X cc own nL) {x y : Int32} {off : Int} (tgt : Nat) (d : decode cc pc = .ok (.if_icmp .gt off, 3)) (ht : (pc : Int) + off = (tgt : Int)) (kt : y < x → gh_G X R nL cells slots sh n tgt lv st M) (kf : ¬ y < x → gh_G X R nL cells slots sh n (pc + 3) lv st M) : gh_G X R nL cells slots sh n pc lv (.int y :: .int x :: st) M := fun H locs ls hh hl => lv_icmp_gt C.1 C.2.1 d ht (fun c => kt c H locs ls hh hl) (fun c => kf c H locs ls hh hl)
theorem k_icmp_le (C : gh_C X cc own nL) {x y : Int32} {off : Int} (tgt : Nat) (d : decode cc pc = .ok (.if_icmp .le off, 3)) (ht : (pc : Int) + off = (tgt : Int)) (kt : x ≤ y → gh_G X R nL cells slots sh n tgt lv st M) (kf : ¬ x ≤ y → gh_G X R nL cells slots sh n (pc + 3) lv st M) : gh_G X R nL cells slots sh n pc lv (.int y :: .int x :: st) M := fun H locs ls hh hl => lv_icmp_le C.1 C.2.1 d ht (fun c => kt c H locs ls hh hl) (fun c => kf c H locs ls hh hl)
theorem k_ifnull (C : gh_C X cc own nL) {r : Option Nat} {off : Int} (tgt : Nat) (d : decode cc pc = .ok (.ifnull off, 3)) (ht : (pc : Int) + off = (tgt : Int)) (kt : r = none → gh_G X R nL cells slots sh n tgt lv st M) (kf : ∀ a, r = some a → gh_G X R nL cells slots sh n (pc + 3) lv st M) : gh_G X R nL cells slots sh n pc lv (va_rf r :: st) M := by
  cases r with
  | none => exact fun H locs ls hh hl => lv_ifnullN C.1 C.2.1 d ht (kt rfl H locs ls hh hl)
  | some a => exact fun H locs ls hh hl => lv_ifnull C.1 C.2.1 d (kf a rfl H locs ls hh hl)
theorem k_ifnonnull (C : gh_C X cc own nL) {r : Option Nat} {off : Int} (tgt : Nat) (d : decode cc pc = .ok (.ifnonnull off, 3)) (ht : (pc : Int) + off = (tgt : Int)) (kt : ∀ a, r = some a → gh_G X R nL cells slots sh n tgt lv st M) (kf : r = none → gh_G X R nL cells slots sh n (pc + 3) lv st M) : gh_G X R nL cells slots sh n pc lv (va_rf r :: st) M := by
  cases r with
  | none => exact fun H locs ls hh hl => lv_ifnonnullN C.1 C.2.1 d (kf rfl H locs ls hh hl)
  | some a => exact fun H locs ls hh hl => lv_ifnonnull C.1 C.2.1 d ht (kt a rfl H locs ls hh hl)
theorem k_ifnullR (C : gh_C X cc own nL) {a : Nat} {off : Int} (d : decode cc pc = .ok (.ifnull off, 3)) (kf : gh_G X R nL cells slots sh n (pc + 3) lv st M) : gh_G X R nL cells slots sh n pc lv (.ref a :: st) M := fun H locs ls hh hl => lv_ifnull C.1 C.2.1 d (kf H locs ls hh hl)
theorem k_ifnonnullR (C : gh_C X cc own nL) {a : Nat} {off : Int} (tgt : Nat) (d : decode cc pc = .ok (.ifnonnull off, 3)) (ht : (pc : Int) + off = (tgt : Int)) (kt : gh_G X R nL cells slots sh n tgt lv st M) : gh_G X R nL cells slots sh n pc lv (.ref a :: st) M := fun H locs ls hh hl => lv_ifnonnull C.1 C.2.1 d ht (kt H locs ls hh hl)
theorem k_tableIn (C : gh_C X cc own nL) {dflt lo hi : Int} {offs : Array Int} {len : Nat} {x : Int32} {off : Int} (tgt : Nat) (d : decode cc pc = .ok (.tableswitch dflt lo hi offs, len)) (h1 : ¬ x.toInt < lo) (h2 : ¬ hi < x.toInt) (ho : offs[(x.toInt - lo).toNat]? = some off) (ht : (pc : Int) + off = (tgt : Int)) (k : gh_G X R nL cells slots sh n tgt lv st M) : gh_G X R nL cells slots sh n pc lv (.int x :: st) M := fun H locs ls hh hl => lv_tableIn C.1 C.2.1 d h1 h2 ho ht (k H locs ls hh hl)
theorem k_tableOut (C : gh_C X cc own nL) {dflt lo hi : Int} {offs : Array Int} {len : Nat} {x : Int32} (tgt : Nat) (d : decode cc pc = .ok (.tableswitch dflt lo hi offs, len)) (h : x.toInt < lo ∨ hi < x.toInt) (ht : (pc : Int) + dflt = (tgt : Int)) (k : gh_G X R nL cells slots sh n tgt lv st M) : gh_G X R nL cells slots sh n pc lv (.int x :: st) M := fun H locs ls hh hl => lv_tableOut C.1 C.2.1 d h ht (k H locs ls hh hl)
end GHR
end
section
/-! rows over the memory: fields, arrays, returns, calls -/
/-- field k of class number ci, by the pool's place idx of own -/
def gh_F (own : String) (idx ci k t : Nat) (ty : FieldType) (fin : Bool) : Prop := ∃ (Cn : String) (T : u_T) (N : Nat) (ty0 : Nat → FieldType), vwCl[ci]? = some (Cn, T, N) ∧ (∀ w ∈ u_ws Cn T N, w ∈ gh_T) ∧ k < N ∧ (gh_ty ci)[k]? = some t ∧
  Cond.fieldLink own idx (T k).1 (T k).2.1 (T k).2.2.1 ∈ gh_T ∧ ci < 13 ∧ (∀ k, k < N → parseFieldDescriptor (T k).2.2.1 = some (ty0 k)) ∧ (∀ a, a < N → ∀ b, b < N → a ≠ b → (T a).2.1 ≠ (T b).2.1) ∧ parseFieldDescriptor (T k).2.2.1 = some ty ∧ (T k).2.2.2 = fin ∧ (T k).1 = Cn
section GHH
variable {X : gh_X} {cc : ByteArray} {own : String} {nL : Nat} {R : Room} {cells slots : Nat} {sh : gh_Sh} {n pc : Nat} {lv : List (Nat × Value)} {st : List Value} {M : gh_M}
theorem gh_one {D : va_G} {H : Heap} {q : Nat × va_E} (h : va_at D vwCl q H) : va_P D vwCl [q] H := fun k x hx => by
  have hz : k < 1 := (List.getElem?_eq_some_iff.mp hx).1
  rw [show k = 0 by omega] at hx
  cases hx
  exact h
theorem gh_hp.obj {locs : List Loc} {H : Heap} {a ci : Nat} (hh : gh_hp X sh n M H locs) (ha : sh.1 a = ci) (hc : ci < 13) : va_P (gx_D X) vwCl [(a, .inr (ci, gh_fs M a ci))] H := by
  have h := hh.1.2.2 a (by rw [ha]; omega)
  rw [gh_cell_obj ha hc] at h
  exact gh_one h
theorem k_getV (C : gh_C X cc own nL) {idx ci k t : Nat} {ty : FieldType} {fin : Bool} (F : gh_F own idx ci k t ty fin) {a : Nat} (d : decode cc pc = .ok (.getfield idx, 3)) (ha : sh.1 a = ci) {v : Value} (hv : gh_val M a k t = v) (kk : gh_G X R nL cells slots sh n (pc + 3) lv (v :: st) M) : gh_G X R nL cells slots sh n pc lv (.ref a :: st) M := by
  obtain ⟨Cn, T, N, ty0, f1, f2, f3, f4, f5, f6, -⟩ := F
  intro H locs ls hh hl
  refine va_get (D := gx_D X) (ci := ci) (v := v) (C := Cn) (T := T) (N := N) C.1 C.2.1 C.2.2.2.2.1 f2 C.2.2.2.1 C.2.2.2.2.2.1 (hh.obj ha f6) 0 rfl f1 k f3 (C.2.2.2.2.1 _ f5) (fun _ h => h) ?_ d (kk H locs ls hh hl)
  rw [gh_fs_at, f4]
  simp [hv]
theorem k_getI (C : gh_C X cc own nL) {idx ci k : Nat} {ty : FieldType} {fin : Bool} (F : gh_F own idx ci k 0 ty fin) {a : Nat} (d : decode cc pc = .ok (.getfield idx, 3)) (ha : sh.1 a = ci) (kk : gh_G X R nL cells slots sh n (pc + 3) lv (.int (rI M a k) :: st) M) : gh_G X R nL cells slots sh n pc lv (.ref a :: st) M := k_getV C F d ha rfl kk
theorem k_getJ (C : gh_C X cc own nL) {idx ci k : Nat} {ty : FieldType} {fin : Bool} (F : gh_F own idx ci k 1 ty fin) {a : Nat} (d : decode cc pc = .ok (.getfield idx, 3)) (ha : sh.1 a = ci) (kk : gh_G X R nL cells slots sh n (pc + 3) lv (.long (rJ M a k) :: st) M) : gh_G X R nL cells slots sh n pc lv (.ref a :: st) M := k_getV C F d ha rfl kk
theorem k_getR (C : gh_C X cc own nL) {idx ci k : Nat} {ty : FieldType} {fin : Bool} (F : gh_F own idx ci k 2 ty fin) {a q : Nat} (d : decode cc pc = .ok (.getfield idx, 3)) (ha : sh.1 a = ci) (hq : rR M a k = some q) (kk : gh_G X R nL cells slots sh n (pc + 3) lv (.ref q :: st) M) : gh_G X R nL cells slots sh n pc lv (.ref a :: st) M := k_getV C F d ha (by show va_rf (rR M a k) = .ref q; rw [hq]; rfl) kk
theorem k_putV (C : gh_C X cc own nL) {idx ci k t : Nat} {ty : FieldType} (F : gh_F own idx ci k t ty false) {a : Nat} (d : decode cc pc = .ok (.putfield idx, 3)) (ha : sh.1 a = ci) {v : Value} (M' : gh_M) (hv : gh_val M' a k t = v) (ho : ∀ j u, j ≠ k → gh_val M' a j u = gh_val M a j u) (hb : ∀ b, b ≠ a → gh_cell (gx_d X) sh M' b = gh_cell (gx_d X) sh M b) (hn : narrow ty v = v) (hf : fits ty v = true)
    (kk : gh_G X R nL cells slots sh n (pc + 3) lv st M') : gh_G X R nL cells slots sh n pc lv (v :: .ref a :: st) M := by
  obtain ⟨Cn, T, N, ty0, f1, f2, f3, f4, f5, f6, f7, f8, f9, f10, f11⟩ := F
  intro H locs ls hh hl
  have hP := hh.obj ha f6
  have hK := C.2.2.2.2.2.1
  have hts := C.2.2.2.2.1
  have hap := va_apart (own := own) hts f2 ty0 f7 f8 hK f1
  obtain ⟨r, h1, cell, q1, q2, q3, q4⟩ := hP 0 _ rfl
  have hr : r = (Cn, T, N) := Option.some.inj (h1.symm.trans f1)
  subst hr
  obtain ⟨hS, hfc, kC, hkC, hkind⟩ := hK.1 ci _ f1
  obtain ⟨cf, kf, fi, f, hi, hsl⟩ := hS k f3
  have hlay := hts _ (f2 _ (u_in_lay f3))
  unfold u_lay at hlay
  rw [if_neg (by rw [f10]; decide)] at hlay
  have hst := (u_facts hfc hkC (u_lays hts f2 f3) hi).1
  have h6 := u_store hfc hkC hkind hlay hi f9 hn hf
  have hlen : k < (gh_fs M a ci).length := by
    unfold gh_fs
    rw [List.length_mapIdx]
    exact (List.getElem?_eq_some_iff.mp f4).1
  refine W.putK C.1 C.2.1 (f := f) ⟨C.2.2.2.1, hts _ f5, ⟨_, _, _, hi⟩, hst⟩ (by rw [q2]; exact h6) q1 q3 (by rw [hsl]; exact k2_hasslot (q4 k f3)) rfl rfl d fun H' e1 e2 e3 => ?_
  rw [hsl] at e1 ⊢
  have hbA : gx_b X ≤ a := (hh.1.2.1 a (by rw [ha]; omega)).1
  refine kk H' _ ls ⟨hh.1.set e2 e3 ?_ hb, hh.2.put e2 e3 hbA⟩ hl
  rw [gh_cell_obj ha f6, ← gh_fs_set f4 hv ho]
  exact ⟨_, f1, t_OB.to (V := updV (vp_V (gh_fs M a ci)) k v) ⟨_, e1, q2, q3, t_set q4 hap f3 v⟩ (fun j _ => vp_updV_set hlen v j)⟩
theorem gh_wI_cell {dA : Nat → ClassId} {a k : Nat} {v : Int32} : ∀ b, b ≠ a → gh_cell dA sh (wI M a k v) b = gh_cell dA sh M b := fun b hb => gh_cell_congr (fun j => by rw [rI_wI, if_neg (fun h => hb h.1)]) (fun j => rfl) (fun j => rfl)
theorem gh_wJ_cell {dA : Nat → ClassId} {a k : Nat} {v : Int64} : ∀ b, b ≠ a → gh_cell dA sh (wJ M a k v) b = gh_cell dA sh M b := fun b hb => gh_cell_congr (fun j => rfl) (fun j => by rw [rJ_wJ, if_neg (fun h => hb h.1)]) (fun j => rfl)
theorem gh_wR_cell {dA : Nat → ClassId} {a k : Nat} {v : Option Nat} : ∀ b, b ≠ a → gh_cell dA sh (wR M a k v) b = gh_cell dA sh M b := fun b hb => gh_cell_congr (fun j => rfl) (fun j => rfl) (fun j => by rw [rR_wR, if_neg (fun h => hb h.1)])
theorem k_putI (C : gh_C X cc own nL) {idx ci k : Nat} {ty : FieldType} (F : gh_F own idx ci k 0 ty false) {a : Nat} {x : Int32} (d : decode cc pc = .ok (.putfield idx, 3)) (ha : sh.1 a = ci) (hn : narrow ty (.int x) = .int x) (hf : fits ty (.int x) = true) (kk : gh_G X R nL cells slots sh n (pc + 3) lv st (wI M a k x)) : gh_G X R nL cells slots sh n pc lv (.int x :: .ref a :: st) M := by
  refine k_putV C F d ha (wI M a k x) ?_ (fun j u hj => ?_) gh_wI_cell hn hf kk
  · show Value.int (rI (wI M a k x) a k) = _
    rw [rI_wI, if_pos ⟨rfl, rfl⟩]
  · simp [gh_val, rI_wI, rJ_wI, rR_wI, hj]
theorem k_putJ (C : gh_C X cc own nL) {idx ci k : Nat} {ty : FieldType} (F : gh_F own idx ci k 1 ty false) {a : Nat} {x : Int64} (d : decode cc pc = .ok (.putfield idx, 3)) (ha : sh.1 a = ci) (hn : narrow ty (.long x) = .long x) (hf : fits ty (.long x) = true) (kk : gh_G X R nL cells slots sh n (pc + 3) lv st (wJ M a k x)) : gh_G X R nL cells slots sh n pc lv (.long x :: .ref a :: st) M := by
  refine k_putV C F d ha (wJ M a k x) ?_ (fun j u hj => ?_) gh_wJ_cell hn hf kk
  · show Value.long (rJ (wJ M a k x) a k) = _
    rw [rJ_wJ, if_pos ⟨rfl, rfl⟩]
  · simp [gh_val, rJ_wJ, rI_wJ, rR_wJ, hj]
theorem k_putR (C : gh_C X cc own nL) {idx ci k : Nat} {ty : FieldType} (F : gh_F own idx ci k 2 ty false) {a q : Nat} (d : decode cc pc = .ok (.putfield idx, 3)) (ha : sh.1 a = ci) (hn : narrow ty (.ref q) = .ref q) (hf : fits ty (.ref q) = true) (kk : gh_G X R nL cells slots sh n (pc + 3) lv st (wR M a k (some q))) : gh_G X R nL cells slots sh n pc lv (.ref q :: .ref a :: st) M := by
  refine k_putV C F d ha (wR M a k (some q)) ?_ (fun j u hj => ?_) gh_wR_cell hn hf kk
  · show va_rf (rR (wR M a k (some q)) a k) = _
    rw [rR_wR, if_pos ⟨rfl, rfl⟩]
    rfl
  · simp [gh_val, rR_wR, rI_wR, rJ_wR, hj]
theorem k_iald (C : gh_C X cc own nL) {a : Nat} {i : Int32} (d : decode cc pc = .ok (.iaload, 1)) (ha : sh.1 a = 13) (hi : vp_in i (sh.2 a)) (kk : gh_G X R nL cells slots sh n (pc + 1) lv (.int (rI M a i.toNatClampNeg) :: st) M) : gh_G X R nL cells slots sh n pc lv (.int i :: .ref a :: st) M := by
  intro H locs ls hh hl
  have h := hh.1.2.2 a (by rw [ha]; decide)
  rw [gh_cell_I ha] at h
  exact va_iald C.1 C.2.1 C.2.2.2.2.2.1 (gh_one h) 0 0 rfl rfl hi d (kk H locs ls hh hl)
theorem k_lald (C : gh_C X cc own nL) {a : Nat} {i : Int32} (d : decode cc pc = .ok (.laload, 1)) (ha : sh.1 a = 14) (hi : vp_in i (sh.2 a)) (kk : gh_G X R nL cells slots sh n (pc + 1) lv (.long (rJ M a i.toNatClampNeg) :: st) M) : gh_G X R nL cells slots sh n pc lv (.int i :: .ref a :: st) M := by
  intro H locs ls hh hl
  have h := hh.1.2.2 a (by rw [ha]; decide)
  rw [gh_cell_J ha] at h
  exact va_lald C.1 C.2.1 C.2.2.2.2.2.1 (gh_one h) 0 1 rfl rfl hi d (kk H locs ls hh hl)
theorem k_aald (C : gh_C X cc own nL) {a q kd : Nat} {i : Int32} {t : FieldType} (d : decode cc pc = .ok (.aaload, 1)) (hk : 15 ≤ kd) (hk2 : kd ≠ 99) (ht : (gh_tys (gx_d X))[kd - 13]? = some (gx_d X kd, t)) (hr : t.isReference = true) (ha : sh.1 a = kd) (hi : vp_in i (sh.2 a)) (hq : rR M a i.toNatClampNeg = some q) (kk : gh_G X R nL cells slots sh n (pc + 1) lv (.ref q :: st) M) : gh_G X R nL cells slots sh n pc lv (.int i :: .ref a :: st) M := by
  intro H locs ls hh hl
  have h := hh.1.2.2 a (by rw [ha]; exact hk2)
  rw [gh_cell_R ha hk] at h
  have hlt : i.toNatClampNeg < sh.2 a := Nat.not_le.mp fun q => hi (Or.inr q)
  exact W.aald (v := .ref q) (ty := t) C.1 C.2.1 h ((C.2.2.2.2.2.1.2 _ _ ht).1 (sh.2 a) (fun j => va_rf (rR M a j))) hr (fun q => by cases q) (by show ¬ (i < 0 ∨ (arrV _ _ _).slots.size ≤ _); rw [arrV_size]; exact hi) (by show (arrV _ _ _).slots[_]? = _; rw [arrV_read _ _ hlt, hq]; rfl) rfl rfl d (kk H locs ls hh hl)
theorem k_iast (C : gh_C X cc own nL) {a : Nat} {i x : Int32} (d : decode cc pc = .ok (.iastore, 1)) (ha : sh.1 a = 13) (hi : vp_in i (sh.2 a)) (kk : gh_G X R nL cells slots sh n (pc + 1) lv st (wI M a i.toNatClampNeg x)) : gh_G X R nL cells slots sh n pc lv (.int x :: .int i :: .ref a :: st) M := by
  intro H locs ls hh hl
  have h := hh.1.2.2 a (by rw [ha]; decide)
  have hbA : gx_b X ≤ a := (hh.1.2.1 a (by rw [ha]; decide)).1
  rw [gh_cell_I ha] at h
  refine W.iast C.1 C.2.1 h ((C.2.2.2.2.2.1.2 0 _ rfl).1 (sh.2 a) (fun j => .int (rI M a j))) (fun q => by cases q) (by show ¬ (i < 0 ∨ (arrV _ _ _).slots.size ≤ _); rw [arrV_size]; exact hi) rfl rfl d fun H1 e z oq => ?_
  refine kk H1 _ ls ⟨hh.1.set z oq ?_ gh_wI_cell, hh.2.put z oq hbA⟩ hl
  rw [gh_cell_I ha]
  show H1[a]? = some (arrV (gx_d X 13) (sh.2 a) (fun j => .int (rI (wI M a i.toNatClampNeg x) a j)))
  refine e.trans ?_
  show some ((arrV (gx_d X 13) (sh.2 a) (fun j => .int (rI M a j))).setSlot i.toNatClampNeg (.int x)) = _
  rw [arrV_store]
  refine congrArg (fun z => some (arrV (gx_d X 13) (sh.2 a) z)) (funext fun q => ?_)
  by_cases hq : q = i.toNatClampNeg
  · subst hq
    simp [updV, rI_wI]
  · simp [updV, rI_wI, hq]
theorem k_last (C : gh_C X cc own nL) {a : Nat} {i : Int32} {x : Int64} (d : decode cc pc = .ok (.lastore, 1)) (ha : sh.1 a = 14) (hi : vp_in i (sh.2 a)) (kk : gh_G X R nL cells slots sh n (pc + 1) lv st (wJ M a i.toNatClampNeg x)) : gh_G X R nL cells slots sh n pc lv (.long x :: .int i :: .ref a :: st) M := by
  intro H locs ls hh hl
  have h := hh.1.2.2 a (by rw [ha]; decide)
  have hbA : gx_b X ≤ a := (hh.1.2.1 a (by rw [ha]; decide)).1
  rw [gh_cell_J ha] at h
  refine W.last C.1 C.2.1 h ((C.2.2.2.2.2.1.2 1 _ rfl).1 (sh.2 a) (fun j => .long (rJ M a j))) (fun q => by cases q) (by show ¬ (i < 0 ∨ (arrV _ _ _).slots.size ≤ _); rw [arrV_size]; exact hi) rfl rfl d fun H1 e z oq => ?_
  refine kk H1 _ ls ⟨hh.1.set z oq ?_ gh_wJ_cell, hh.2.put z oq hbA⟩ hl
  rw [gh_cell_J ha]
  show H1[a]? = some (arrV (gx_d X 14) (sh.2 a) (fun j => .long (rJ (wJ M a i.toNatClampNeg x) a j)))
  refine e.trans ?_
  show some ((arrV (gx_d X 14) (sh.2 a) (fun j => .long (rJ M a j))).setSlot i.toNatClampNeg (.long x)) = _
  rw [arrV_store]
  refine congrArg (fun z => some (arrV (gx_d X 14) (sh.2 a) z)) (funext fun q => ?_)
  by_cases hq : q = i.toNatClampNeg
  · subst hq
    simp [updV, rJ_wJ]
  · simp [updV, rJ_wJ, hq]
theorem k_aast (C : gh_C X cc own nL) {a v kd ci : Nat} {i : Int32} {r : vw_C} (d : decode cc pc = .ok (.aastore, 1)) (hk : 15 ≤ kd) (hk2 : kd ≠ 99) (ht : (gh_tys (gx_d X))[kd - 13]? = some (gx_d X kd, .object r.1)) (hc : vwCl[ci]? = some r) (hc2 : ci < 13) (ha : sh.1 a = kd) (hv : sh.1 v = ci) (hi : vp_in i (sh.2 a)) (kk : gh_G X R nL cells slots sh n (pc + 1) lv st (wR M a i.toNatClampNeg (some v))) : gh_G X R nL cells slots sh n pc lv (.ref v :: .int i :: .ref a :: st) M := by
  intro H locs ls hh hl
  have h := hh.1.2.2 a (by rw [ha]; exact hk2)
  have hbA : gx_b X ≤ a := (hh.1.2.1 a (by rw [ha]; exact hk2)).1
  rw [gh_cell_R ha hk] at h
  have hlt : i.toNatClampNeg < sh.2 a := Nat.not_le.mp fun q => hi (Or.inr q)
  have h0 : ¬ i < 0 := fun q => hi (Or.inl q)
  have hK := C.2.2.2.2.2.1
  obtain ⟨r', hr', cellV, g1, g2, g3, -⟩ := hh.obj hv hc2 0 _ rfl
  have hcls := (hK.1 ci r hc).2
  obtain ⟨kA, comp, k1, k2, k3, -⟩ := (hK.2 _ _ ht).2
  have hcomp : comp = (gx_D X).1 ci := Option.some.inj (k3.symm.trans hcls.1)
  subst hcomp
  obtain ⟨kC, hkC, -⟩ := hcls.2
  refine W.aast C.1 C.2.1 h (fun q h => by cases h) (fun h => by cases h) k1 k2 rfl hkC ⟨h0, by show _ < (arrV _ _ _).slots.size; rw [arrV_size]; exact hlt⟩ g1 (fun q h => by rw [g3] at h; cases h) (by rw [g2]; exact hkC) (by rw [g2]; exact va_assign hcls) rfl rfl d fun H1 e z oq => ?_
  refine kk H1 _ ls ⟨hh.1.set z oq ?_ gh_wR_cell, hh.2.put z oq hbA⟩ hl
  rw [gh_cell_R ha hk]
  show H1[a]? = some (arrV (gx_d X kd) (sh.2 a) (fun j => va_rf (rR (wR M a i.toNatClampNeg (some v)) a j)))
  refine e.trans ?_
  show some ((arrV (gx_d X kd) (sh.2 a) (fun j => va_rf (rR M a j))).setSlot i.toNatClampNeg (.ref v)) = _
  rw [arrV_store]
  refine congrArg (fun z => some (arrV (gx_d X kd) (sh.2 a) z)) (funext fun q => ?_)
  by_cases hq : q = i.toNatClampNeg
  · subst hq
    simp [updV, rR_wR, va_rf]
  · simp [updV, rR_wR, hq]
/-! returns -/
theorem k_iret {post : Int32 → gh_M → Prop} (C : gh_CR X cc own nL (some .int) sh n cells slots (gh_pi post)) {v : Int32} (d : decode cc pc = .ok (.ireturn, 1)) (h : post v M) : gh_G X R nL cells slots sh n pc lv [.int v] M := by
  intro H locs ls hh hl
  unfold gh_W
  rw [C.2.2.2.1]
  exact W.iret C.1.1 C.1.2.1 C.2.1 (fun t ht hW => ⟨⟨_, M, rfl, ⟨v, rfl, h⟩, by rw [ht]; exact hh.1⟩, va_S.F (H := H) (locs := locs) (by rw [← C.2.2.2.2]; exact hh.2) ht⟩) hh.2.2.2 d C.2.2.1
theorem k_zret {post : Int32 → gh_M → Prop} (C : gh_CR X cc own nL (some .boolean) sh n cells slots (gh_pi post)) {v : Int32} (d : decode cc pc = .ok (.ireturn, 1)) (hb : v = 0 ∨ v = 1) (h : post v M) : gh_G X R nL cells slots sh n pc lv [.int v] M := by
  intro H locs ls hh hl
  unfold gh_W
  rw [C.2.2.2.1]
  exact W.zret C.1.1 C.1.2.1 C.2.1 (by rcases hb with rfl | rfl <;> rfl) (fun t ht hW => ⟨⟨_, M, rfl, ⟨v, rfl, h⟩, by rw [ht]; exact hh.1⟩, va_S.F (H := H) (locs := locs) (by rw [← C.2.2.2.2]; exact hh.2) ht⟩) hh.2.2.2 d C.2.2.1
theorem k_lret {post : Int64 → gh_M → Prop} (C : gh_CR X cc own nL (some .long) sh n cells slots (gh_pl post)) {v : Int64} (d : decode cc pc = .ok (.lreturn, 1)) (h : post v M) : gh_G X R nL cells slots sh n pc lv [.long v] M := by
  intro H locs ls hh hl
  unfold gh_W
  rw [C.2.2.2.1]
  exact W.lret C.1.1 C.1.2.1 C.2.1 (fun t ht hW => ⟨⟨_, M, rfl, ⟨v, rfl, h⟩, by rw [ht]; exact hh.1⟩, va_S.F (H := H) (locs := locs) (by rw [← C.2.2.2.2]; exact hh.2) ht⟩) hh.2.2.2 d C.2.2.1
theorem k_vret {post : gh_M → Prop} (C : gh_CR X cc own nL none sh n cells slots (gh_pv post)) (d : decode cc pc = .ok (.return_, 1)) (h : post M) : gh_G X R nL cells slots sh n pc lv [] M := by
  intro H locs ls hh hl
  unfold gh_W
  rw [C.2.2.2.1]
  exact W.vret C.1.1 C.1.2.1 C.2.1 (fun t ht hW => ⟨⟨_, M, rfl, ⟨rfl, h⟩, by rw [ht]; exact hh.1⟩, va_S.F (H := H) (locs := locs) (by rw [← C.2.2.2.2]; exact hh.2) ht⟩) hh.2.2.2 d C.2.2.1
theorem k_nret {post : Nat → gh_M → Prop} {nm : String} (C : gh_CR X cc own nL (some (.object nm)) sh n cells slots (gh_pn post)) {a : Nat} (d : decode cc pc = .ok (.areturn, 1)) (h : post a M) : gh_G X R nL cells slots sh n pc lv [.ref a] M := by
  intro H locs ls hh hl
  unfold gh_W
  rw [C.2.2.2.1]
  exact W.aret C.1.1 C.1.2.1 C.2.1 (Or.inl ⟨_, rfl⟩) (Or.inr ⟨_, rfl⟩) (fun t ht hW => ⟨⟨_, M, rfl, ⟨a, rfl, h⟩, by rw [ht]; exact hh.1⟩, va_S.F (H := H) (locs := locs) (by rw [← C.2.2.2.2]; exact hh.2) ht⟩) hh.2.2.2 d C.2.2.1
theorem k_qret {post : Option Nat → gh_M → Prop} {nm : String} (C : gh_CR X cc own nL (some (.object nm)) sh n cells slots (gh_pq post)) {r : Option Nat} (d : decode cc pc = .ok (.areturn, 1)) (h : post r M) : gh_G X R nL cells slots sh n pc lv [va_rf r] M := by
  intro H locs ls hh hl
  unfold gh_W
  rw [C.2.2.2.1]
  exact W.aret C.1.1 C.1.2.1 C.2.1 (Or.inl ⟨_, rfl⟩) (by cases r with | none => exact Or.inl rfl | some x => exact Or.inr ⟨_, rfl⟩) (fun t ht hW => ⟨⟨_, M, rfl, ⟨r, rfl, h⟩, by rw [ht]; exact hh.1⟩, va_S.F (H := H) (locs := locs) (by rw [← C.2.2.2.2]; exact hh.2) ht⟩) hh.2.2.2 d C.2.2.1
end GHH
end
section
/-! calls -/
theorem gh_N_same {u U : State} (h : u.vm = U.vm) (hN : ∀ w ∈ gh_N, va_Nw w u) : ∀ w ∈ gh_N, va_Nw w U := fun w hw => by
  have hn := (List.mem_filter.mp hw).2
  have h0 := hN w hw
  cases w <;> simp [gh_isN] at hn
  · exact va_Nw.same rfl h h0
  · rename_i ty
    have e : (Cond.arrayOver ty).before #[] U = (Cond.arrayOver ty).before #[] (u.setVm U.vm) := rfl
    refine e.trans ?_
    rw [← h, State.setVm_self]
    exact h0
theorem gh_blind {D : va_G} {dA : Nat → ClassId} {sh : gh_Sh} {b0 n : Nat} {M : gh_M} {av : List Value} : FrameBlind (gh_Pc D dA sh b0 n M av) := fun a U g mk q => by
  obtain ⟨q0, qP, qK, qN⟩ := q
  exact ⟨q0, qP, va_K.moved (u := U) (U := U.calling g mk a) (Vm.Alike.refl U.vm) qK, gh_N_same (u := U) (U := U.calling g mk a) rfl qN⟩
def gh_dd (y : MethodName) (cnt : Nat) : Prop := y.cls ≠ "java/lang/invoke/MethodHandle" ∧ y.cls ≠ "java/lang/invoke/VarHandle" ∧ (parseMethodDescriptor y.desc).map (fun d => d.parameters.length) = some cnt
/-- a virtual call of own's pool place idx; the class of the receiver is number ci -/
def gh_V (own : String) (idx ci : Nat) (y : MethodName) (cc' : ByteArray) (nL' : Nat) (ret : Option FieldType) (cnt : Nat) : Prop := Cond.methodLink own idx y ∈ gh_T ∧ Cond.instanceMethod y ∈ gh_T ∧ Cond.selects y.cls y y ∈ gh_T ∧ Cond.initialized y.cls ∈ gh_T ∧ Cond.code y cc' nL' ret ∈ gh_T ∧ gh_dd y cnt ∧ (∃ (T : u_T) (N : Nat), vwCl[ci]? = some (y.cls, T, N)) ∧ ci < 13
def gh_VN (own : String) (idx ci : Nat) (y : MethodName) (cc' : ByteArray) (nL' : Nat) (ret : Option FieldType) (cnt : Nat) : Prop := (∃ host : String, Cond.methodLinkNest own idx y host ∈ gh_N) ∧ Cond.instanceMethod y ∈ gh_T ∧ Cond.selects y.cls y y ∈ gh_T ∧ Cond.initialized y.cls ∈ gh_T ∧ Cond.code y cc' nL' ret ∈ gh_T ∧ gh_dd y cnt ∧ (∃ (T : u_T) (N : Nat), vwCl[ci]? = some (y.cls, T, N)) ∧ ci < 13
def gh_S (own : String) (idx : Nat) (y : MethodName) (cc' : ByteArray) (nL' : Nat) (ret : Option FieldType) (cnt : Nat) : Prop := Cond.methodLink own idx y ∈ gh_T ∧ Cond.static y ∈ gh_T ∧ Cond.initialized y.cls ∈ gh_T ∧ Cond.code y cc' nL' ret ∈ gh_T ∧ gh_dd y cnt
def gh_SN (own : String) (idx : Nat) (y : MethodName) (cc' : ByteArray) (nL' : Nat) (ret : Option FieldType) (cnt : Nat) : Prop := (∃ host : String, Cond.methodLinkNest own idx y host ∈ gh_N) ∧ Cond.static y ∈ gh_T ∧ Cond.initialized y.cls ∈ gh_T ∧ Cond.code y cc' nL' ret ∈ gh_T ∧ gh_dd y cnt
/-- the callee's room in the caller's -/
def gh_fit (rm R : Room) (nL' : Nat) : Prop := rm.cells = 0 ∧ rm.slots = 0 ∧ rm.frames + 1 ≤ R.frames ∧ 8 + (nL' + 11) + rm.locals ≤ R.locals
section GHC
variable {X : gh_X} {cc : ByteArray} {own : String} {nL : Nat} {R : Room} {cells slots : Nat} {sh : gh_Sh} {n pc : Nat} {lv : List (Nat × Value)} {st : List Value} {M : gh_M}
theorem gh_after {H : Heap} {locs : List Loc} {ls : Array Slot} {rest : List Value} {av : Array Value} {post : Option Value → gh_M → Prop} (hr : va_Run (gx_p X) (gx_l X) (gx_e X) R (gx_s X) (gx_m X) (gx_a X) (gx_w X) (gx_h X) (gx_c X) H locs cells slots 0 0 (F0 (gx_m X) pc ls st) rest (gh_Q (gx_D X) (gx_d X) sh (gx_b X) n post av) (fun q => gx_b X ≤ q))
    (hh : gh_hp X sh n M H locs) (hl : lv_has ls nL lv) (kk : ∀ v M', post v M' → gh_G X R nL cells slots sh n (pc + 3) lv (v.toList ++ rest) M') : gh_W X R H locs cells slots (F0 (gx_m X) pc ls st) := by
  intro T hT Xs
  obtain ⟨v, st₀, t, T', L, h0, X', hL, e1, e2, ⟨⟨v', M', hv, hp, hP⟩, hz, hk⟩, stp⟩ := hr T hT Xs
  cases hv
  rw [h0] at hz hk
  obtain ⟨t2, a1, b1⟩ := kk v M' hp T'.heap (locs ++ L) ls ⟨by rw [e1]; exact hP, Nat.le_trans hh.2.1 (by rw [e1]; exact hz), fun q h1 h2 => by rw [e1, hk q (Nat.lt_of_lt_of_le h1 hh.2.1) h2]; exact hh.2.2.1 q h1 h2, fun q hq => by
      rcases List.mem_append.mp hq with h | h
      · exact hh.2.2.2 q h
      · exact hL q h⟩ hl T' rfl X'
  exact ⟨t2, stp t2 a1, b1⟩
theorem gh_preS {H : Heap} {locs : List Loc} {av : List Value} (C : gh_C X cc own nL) (hh : gh_hp X sh n M H locs) : PreS (gx_s X) H (gh_Pc (gx_D X) (gx_d X) sh (gx_b X) n M av) av := ⟨gh_blind, fun U hU hW => ⟨rfl, by rw [hU]; exact hh.1, va_K.moved hW.alike C.2.2.2.2.2.1, gh_N_warm hW C.2.2.2.2.2.2.1⟩⟩
theorem gh_preV {H : Heap} {locs : List Loc} {As : List Value} {b ci : Nat} {y : MethodName} (C : gh_C X cc own nL) (hh : gh_hp X sh n M H locs) (hc : ∃ (T : u_T) (N : Nat), vwCl[ci]? = some (y.cls, T, N)) (h13 : ci < 13) (hb : sh.1 b = ci) : PreV (gx_s X) H y.cls b (gh_Pc (gx_D X) (gx_d X) sh (gx_b X) n M (.ref b :: As)) As := by
  obtain ⟨T, N, hc⟩ := hc
  exact ⟨gh_blind, va_recv C.2.2.2.2.2.1 (hh.obj hb h13) hc (q0 := 0) rfl, fun U hU hW => ⟨rfl, by rw [hU]; exact hh.1, va_K.moved hW.alike C.2.2.2.2.2.1, gh_N_warm hW C.2.2.2.2.2.2.1⟩⟩
theorem k_callV (C : gh_C X cc own nL) {idx ci : Nat} {y : MethodName} {cc' : ByteArray} {nL' : Nat} {ret : Option FieldType} {cnt : Nat} (V : gh_V own idx ci y cc' nL' ret cnt) {rm : Room} {b : Nat} {As rest : List Value} {post : Option Value → gh_M → Prop}
    (hM : gh_Met (gx_l X) (gx_D X) (gx_d X) sh (gx_b X) n y cc' nL' ret rm M (.ref b :: As) post) (hf : gh_fit rm R nL') (hb : sh.1 b = ci) (hst : st = As.reverse ++ .ref b :: rest) (hcnt : As.length = cnt) (hW : (rest.map fun v => v.category).sum ≤ 8) (hcs : cells ≤ R.cells ∧ slots ≤ R.slots) (d : decode cc pc = .ok (.invokevirtual idx, 3))
    (kk : ∀ v M', post v M' → gh_G X R nL cells slots sh n (pc + 3) lv (v.toList ++ rest) M') : gh_G X R nL cells slots sh n pc lv st M := by
  obtain ⟨v1, v2, v3, v4, v5, v6, v7, v8⟩ := V
  intro H locs ls hh hl
  have hG : GoodIn gh_T (wsV own idx y.cls y (gh_ws y cc' nL' ret)) := fun w hw => by
    rcases List.mem_append.mp hw with h | h
    · have : w ∈ gh_T := by
        simp only [List.mem_cons, List.not_mem_nil, or_false] at h
        rcases h with rfl | rfl | rfl | rfl <;> assumption
      exact ⟨this, good_of_word (List.mem_filter.mp this).2⟩
    · exact gh_goodT v5 w h
  exact gh_after (va_runV (As := As) (rest := rest) ⟨C.1, C.2.1, C.2.2.1, C.2.2.2.1, C.2.2.2.2.1⟩ hM (cwV cnt C.2.2.2.2.1 hG rfl hf.1 hf.2.1 ⟨rfl, v6⟩ ⟨hf.2.2.1, hf.2.2.2⟩) (gh_preV C hh v7 v8 hb) rfl hcnt hl.1 hst (lv_room hW) d hcs) hh hl kk
theorem k_callVN (C : gh_C X cc own nL) {idx ci : Nat} {y : MethodName} {cc' : ByteArray} {nL' : Nat} {ret : Option FieldType} {cnt : Nat} (V : gh_VN own idx ci y cc' nL' ret cnt) {rm : Room} {b : Nat} {As rest : List Value} {post : Option Value → gh_M → Prop}
    (hM : gh_Met (gx_l X) (gx_D X) (gx_d X) sh (gx_b X) n y cc' nL' ret rm M (.ref b :: As) post) (hf : gh_fit rm R nL') (hb : sh.1 b = ci) (hst : st = As.reverse ++ .ref b :: rest) (hcnt : As.length = cnt) (hW : (rest.map fun v => v.category).sum ≤ 8) (hcs : cells ≤ R.cells ∧ slots ≤ R.slots) (d : decode cc pc = .ok (.invokevirtual idx, 3))
    (kk : ∀ v M', post v M' → gh_G X R nL cells slots sh n (pc + 3) lv (v.toList ++ rest) M') : gh_G X R nL cells slots sh n pc lv st M := by
  obtain ⟨⟨host, v1⟩, v2, v3, v4, v5, v6, v7, v8⟩ := V
  intro H locs ls hh hl
  have hts := C.2.2.2.2.1
  exact gh_after (va_runVN (As := As) (rest := rest) ⟨C.1, C.2.1, C.2.2.1, C.2.2.2.1, C.2.2.2.2.1⟩ hM ⟨va_cnB cnt hts (gh_goodT v5) rfl hf.1 hf.2.1 (C.2.2.2.2.2.2.1 _ v1) (hts _ v4) v6 ⟨hf.2.2.1, hf.2.2.2⟩, hts _ v2, hts _ v3⟩ (gh_preV C hh v7 v8 hb) rfl hcnt hl.1 hst (lv_room hW) d hcs) hh hl kk
theorem k_callS (C : gh_C X cc own nL) {idx : Nat} {y : MethodName} {cc' : ByteArray} {nL' : Nat} {ret : Option FieldType} {cnt : Nat} (V : gh_S own idx y cc' nL' ret cnt) {rm : Room} {As rest : List Value} {post : Option Value → gh_M → Prop}
    (hM : gh_Met (gx_l X) (gx_D X) (gx_d X) sh (gx_b X) n y cc' nL' ret rm M As post) (hf : gh_fit rm R nL') (hst : st = As.reverse ++ rest) (hcnt : As.length = cnt) (hW : (rest.map fun v => v.category).sum ≤ 8) (hcs : cells ≤ R.cells ∧ slots ≤ R.slots) (d : decode cc pc = .ok (.invokestatic idx, 3))
    (kk : ∀ v M', post v M' → gh_G X R nL cells slots sh n (pc + 3) lv (v.toList ++ rest) M') : gh_G X R nL cells slots sh n pc lv st M := by
  obtain ⟨v1, v2, v4, v5, v6⟩ := V
  intro H locs ls hh hl
  have hts := C.2.2.2.2.1
  exact gh_after (va_runS (As := As) (rest := rest) ⟨C.1, C.2.1, C.2.2.1, C.2.2.2.1, C.2.2.2.2.1⟩ hM ⟨callB_of cnt hts (gh_goodT v5) rfl hf.1 hf.2.1 (hts _ v4) (hts _ v1) v6 ⟨hf.2.2.1, hf.2.2.2⟩, hts _ v2⟩ (gh_preS C hh) rfl hcnt hl.1 hst (lv_room hW) d hcs) hh hl kk
theorem k_callSN (C : gh_C X cc own nL) {idx : Nat} {y : MethodName} {cc' : ByteArray} {nL' : Nat} {ret : Option FieldType} {cnt : Nat} (V : gh_SN own idx y cc' nL' ret cnt) {rm : Room} {As rest : List Value} {post : Option Value → gh_M → Prop}
    (hM : gh_Met (gx_l X) (gx_D X) (gx_d X) sh (gx_b X) n y cc' nL' ret rm M As post) (hf : gh_fit rm R nL') (hst : st = As.reverse ++ rest) (hcnt : As.length = cnt) (hW : (rest.map fun v => v.category).sum ≤ 8) (hcs : cells ≤ R.cells ∧ slots ≤ R.slots) (d : decode cc pc = .ok (.invokestatic idx, 3))
    (kk : ∀ v M', post v M' → gh_G X R nL cells slots sh n (pc + 3) lv (v.toList ++ rest) M') : gh_G X R nL cells slots sh n pc lv st M := by
  obtain ⟨⟨host, v1⟩, v2, v4, v5, v6⟩ := V
  intro H locs ls hh hl
  have hts := C.2.2.2.2.1
  exact gh_after (va_runSN (As := As) (rest := rest) ⟨C.1, C.2.1, C.2.2.1, C.2.2.2.1, C.2.2.2.2.1⟩ hM ⟨va_cnB cnt hts (gh_goodT v5) rfl hf.1 hf.2.1 (C.2.2.2.2.2.2.1 _ v1) (hts _ v4) v6 ⟨hf.2.2.1, hf.2.2.2⟩, hts _ v2, trivial⟩ (gh_preS C hh) rfl hcnt hl.1 hst (lv_room hW) d hcs) hh hl kk
/-! what a call leaves, by its sort of answer -/
theorem kp_i {post : Int32 → gh_M → Prop} {rest : List Value} (k : ∀ r M', post r M' → gh_G X R nL cells slots sh n pc lv (.int r :: rest) M') : ∀ v M', gh_pi post v M' → gh_G X R nL cells slots sh n pc lv (v.toList ++ rest) M' := fun v M' ⟨r, e, h⟩ => by subst e; exact k r M' h
theorem kp_l {post : Int64 → gh_M → Prop} {rest : List Value} (k : ∀ r M', post r M' → gh_G X R nL cells slots sh n pc lv (.long r :: rest) M') : ∀ v M', gh_pl post v M' → gh_G X R nL cells slots sh n pc lv (v.toList ++ rest) M' := fun v M' ⟨r, e, h⟩ => by subst e; exact k r M' h
theorem kp_v {post : gh_M → Prop} {rest : List Value} (k : ∀ M', post M' → gh_G X R nL cells slots sh n pc lv rest M') : ∀ v M', gh_pv post v M' → gh_G X R nL cells slots sh n pc lv (v.toList ++ rest) M' := fun v M' ⟨e, h⟩ => by subst e; exact k M' h
theorem kp_q {post : Option Nat → gh_M → Prop} {rest : List Value} (k : ∀ r M', post r M' → gh_G X R nL cells slots sh n pc lv (va_rf r :: rest) M') : ∀ v M', gh_pq post v M' → gh_G X R nL cells slots sh n pc lv (v.toList ++ rest) M' := fun v M' ⟨r, e, h⟩ => by subst e; exact k r M' h
theorem kp_n {post : Nat → gh_M → Prop} {rest : List Value} (k : ∀ r M', post r M' → gh_G X R nL cells slots sh n pc lv (.ref r :: rest) M') : ∀ v M', gh_pn post v M' → gh_G X R nL cells slots sh n pc lv (v.toList ++ rest) M' := fun v M' ⟨r, e, h⟩ => by subst e; exact k r M' h
theorem k_mmin (C : gh_C X cc own nL) {idx : Nat} {x y : Int32} (h1 : Cond.methodLink own idx Lib.Math.min.name ∈ gh_T) (h2 : Cond.static Lib.Math.min.name ∈ gh_T) (h3 : Cond.initialized "java/lang/Math" ∈ gh_T) (h4 : Cond.code Lib.Math.min.name Lib.Math.min.code 2 (some .int) ∈ gh_T) (hf : 1 ≤ R.frames) (hW : (st.map fun v => v.category).sum + 13 ≤ R.locals) (hcs : cells ≤ R.cells ∧ slots ≤ R.slots) (d : decode cc pc = .ok (.invokestatic idx, 3))
    (kk : gh_G X R nL cells slots sh n (pc + 3) lv (.int (if y < x then y else x) :: st) M) : gh_G X R nL cells slots sh n pc lv (.int y :: .int x :: st) M := fun H locs ls hh hl => va_mmin C.1 C.2.1 (C.2.2.1.trans hl.1.symm) C.2.2.2.1 (C.2.2.2.2.1 _ h1) (C.2.2.2.2.1 _ h2) (C.2.2.2.2.1 _ h3) (C.2.2.2.2.1 _ h4) hf hW hcs.1 hcs.2 d (kk H locs ls hh hl)
theorem k_mminl (C : gh_C X cc own nL) {idx : Nat} {x y : Int64} (h1 : Cond.methodLink own idx Lib.MathLoose.min_long.x ∈ gh_T) (h2 : Cond.static Lib.MathLoose.min_long.x ∈ gh_T) (h3 : Cond.initialized "java/lang/Math" ∈ gh_T) (h4 : Cond.code Lib.MathLoose.min_long.x Lib.MathLoose.min_long.code 4 (some .long) ∈ gh_T) (hf : 1 ≤ R.frames) (hW : (st.map fun v => v.category).sum + 15 ≤ R.locals) (hcs : cells ≤ R.cells ∧ slots ≤ R.slots) (d : decode cc pc = .ok (.invokestatic idx, 3))
    (kk : gh_G X R nL cells slots sh n (pc + 3) lv (.long (if y < x then y else x) :: st) M) : gh_G X R nL cells slots sh n pc lv (.long y :: .long x :: st) M := fun H locs ls hh hl => va_mmin_long C.1 C.2.1 (C.2.2.1.trans hl.1.symm) C.2.2.2.1 (C.2.2.2.2.1 _ h1) (C.2.2.2.2.1 _ h2) (C.2.2.2.2.1 _ h3) (C.2.2.2.2.1 _ h4) hf hW hcs.1 hcs.2 d (kk H locs ls hh hl)
/-- a loop: an invariant and a measure -/
def gh_loop {V : Type} (body : (V → Prop) → V → Prop) (v0 : V) : Prop := ∃ (I : V → Prop) (μ : V → Nat), I v0 ∧ ∀ v, I v → body (fun v' => I v' ∧ μ v' < μ v) v
theorem gh_loop_use {V : Type} {body : (V → Prop) → V → Prop} {v0 : V} (h : gh_loop body v0) (P : V → Prop) (hs : ∀ (k : V → Prop) (v : V), (∀ v', k v' → P v') → body k v → P v) : P v0 := by
  obtain ⟨I, μ, h0, hb⟩ := h
  have key : ∀ (d : Nat) (v : V), μ v < d → I v → P v := by
    intro d
    induction d with
    | zero => intro v h; exact absurd h (Nat.not_lt_zero _)
    | succ d ih => intro v hd hI; exact hs _ v (fun v' hv' => ih v' (by omega) hv'.1) (hb v hI)
  exact key _ v0 (Nat.lt_succ_self _) h0
end GHC
end
section
theorem zz_last : True := trivial
end
