/-! calls -/
theorem gh_N_same {u U : State} (h : u.vm = U.vm) (hN : ∀ w ∈ gh_N, va_Nw w u) : ∀ w ∈ gh_N, va_Nw w U := fun w hw => by
  have hn := (List.mem_filter.mp hw).2
  have h0 := hN w hw
  cases w <;> simp [gh_isN] at hn
  · exact va_Nw.same rfl h h0
  · rename_i ty
    have e : (Cond.arrayOver ty).before #[] U = (Cond.arrayOver ty).before #[] (u.setVm U.vm) := rfl
    refine e.trans ?_
    rw [← h, State.setVm_self]
    exact h0
theorem gh_blind {D : va_G} {dA : Nat → ClassId} {sh : gh_Sh} {b0 n : Nat} {M : gh_M} {av : List Value} : FrameBlind (gh_Pc D dA sh b0 n M av) := fun a U g mk q => by
  obtain ⟨q0, qP, qK, qN⟩ := q
  exact ⟨q0, qP, va_K.moved (u := U) (U := U.calling g mk a) (Vm.Alike.refl U.vm) qK, gh_N_same (u := U) (U := U.calling g mk a) rfl qN⟩
def gh_dd (y : MethodName) (cnt : Nat) : Prop := y.cls ≠ "java/lang/invoke/MethodHandle" ∧ y.cls ≠ "java/lang/invoke/VarHandle" ∧ (parseMethodDescriptor y.desc).map (fun d => d.parameters.length) = some cnt
/-- a virtual call of own's pool place idx; the class of the receiver is number ci -/
def gh_V (own : String) (idx ci : Nat) (y : MethodName) (cc' : ByteArray) (nL' : Nat) (ret : Option FieldType) (cnt : Nat) : Prop := Cond.methodLink own idx y ∈ gh_T ∧ Cond.instanceMethod y ∈ gh_T ∧ Cond.selects y.cls y y ∈ gh_T ∧ Cond.initialized y.cls ∈ gh_T ∧ Cond.code y cc' nL' ret ∈ gh_T ∧ gh_dd y cnt ∧ (∃ (T : u_T) (N : Nat), vwCl[ci]? = some (y.cls, T, N)) ∧ ci < 13
def gh_VN (own : String) (idx ci : Nat) (y : MethodName) (cc' : ByteArray) (nL' : Nat) (ret : Option FieldType) (cnt : Nat) : Prop := (∃ host : String, Cond.methodLinkNest own idx y host ∈ gh_N) ∧ Cond.instanceMethod y ∈ gh_T ∧ Cond.selects y.cls y y ∈ gh_T ∧ Cond.initialized y.cls ∈ gh_T ∧ Cond.code y cc' nL' ret ∈ gh_T ∧ gh_dd y cnt ∧ (∃ (T : u_T) (N : Nat), vwCl[ci]? = some (y.cls, T, N)) ∧ ci < 13
def gh_S (own : String) (idx : Nat) (y : MethodName) (cc' : ByteArray) (nL' : Nat) (ret : Option FieldType) (cnt : Nat) : Prop := Cond.methodLink own idx y ∈ gh_T ∧ Cond.static y ∈ gh_T ∧ Cond.initialized y.cls ∈ gh_T ∧ Cond.code y cc' nL' ret ∈ gh_T ∧ gh_dd y cnt
def gh_SN (own : String) (idx : Nat) (y : MethodName) (cc' : ByteArray) (nL' : Nat) (ret : Option FieldType) (cnt : Nat) : Prop := (∃ host : String, Cond.methodLinkNest own idx y host ∈ gh_N) ∧ Cond.static y ∈ gh_T ∧ Cond.initialized y.cls ∈ gh_T ∧ Cond.code y cc' nL' ret ∈ gh_T ∧ gh_dd y cnt
/-- the callee's room in the caller's -/
def gh_fit (rm R : Room) (nL' : Nat) : Prop := rm.cells = 0 ∧ rm.slots = 0 ∧ rm.frames + 1 ≤ R.frames ∧ 8 + (nL' + 11) + rm.locals ≤ R.locals
section GHC
variable {X : gh_X} {cc : ByteArray} {own : String} {nL : Nat} {R : Room} {cells slots : Nat} {sh : gh_Sh} {n pc : Nat} {lv : List (Nat × Value)} {st : List Value} {M : gh_M}
theorem gh_after {H : Heap} {locs : List Loc} {ls : Array Slot} {rest : List Value} {av : Array Value} {post : Option Value → gh_M → Prop} (hr : va_Run (gx_p X) (gx_l X) (gx_e X) R (gx_s X) (gx_m X) (gx_a X) (gx_w X) (gx_h X) (gx_c X) H locs cells slots 0 0 (F0 (gx_m X) pc ls st) rest (gh_Q (gx_D X) (gx_d X) sh (gx_b X) n post av) (fun q => gx_b X ≤ q))
    (hh : gh_hp X sh n M H locs) (hl : lv_has ls nL lv) (kk : ∀ v M', post v M' → gh_G X R nL cells slots sh n (pc + 3) lv (v.toList ++ rest) M') : gh_W X R H locs cells slots (F0 (gx_m X) pc ls st) := by
  intro T hT Xs
  obtain ⟨v, st₀, t, T', L, h0, X', hL, e1, e2, ⟨⟨v', M', hv, hp, hP⟩, hz, hk⟩, stp⟩ := hr T hT Xs
  cases hv
  rw [h0] at hz hk
  obtain ⟨t2, a1, b1⟩ := kk v M' hp T'.heap (locs ++ L) ls ⟨by rw [e1]; exact hP, Nat.le_trans hh.2.1 (by rw [e1]; exact hz), fun q h1 h2 => by rw [e1, hk q (Nat.lt_of_lt_of_le h1 hh.2.1) h2]; exact hh.2.2.1 q h1 h2, fun q hq => by
      rcases List.mem_append.mp hq with h | h
      · exact hh.2.2.2 q h
      · exact hL q h⟩ hl T' rfl X'
  exact ⟨t2, stp t2 a1, b1⟩
theorem gh_preS {H : Heap} {locs : List Loc} {av : List Value} (C : gh_C X cc own nL) (hh : gh_hp X sh n M H locs) : PreS (gx_s X) H (gh_Pc (gx_D X) (gx_d X) sh (gx_b X) n M av) av := ⟨gh_blind, fun U hU hW => ⟨rfl, by rw [hU]; exact hh.1, va_K.moved hW.alike C.2.2.2.2.2.1, gh_N_warm hW C.2.2.2.2.2.2.1⟩⟩
theorem gh_preV {H : Heap} {locs : List Loc} {As : List Value} {b ci : Nat} {y : MethodName} (C : gh_C X cc own nL) (hh : gh_hp X sh n M H locs) (hc : ∃ (T : u_T) (N : Nat), vwCl[ci]? = some (y.cls, T, N)) (h13 : ci < 13) (hb : sh.1 b = ci) : PreV (gx_s X) H y.cls b (gh_Pc (gx_D X) (gx_d X) sh (gx_b X) n M (.ref b :: As)) As := by
  obtain ⟨T, N, hc⟩ := hc
  exact ⟨gh_blind, va_recv C.2.2.2.2.2.1 (hh.obj hb h13) hc (q0 := 0) rfl, fun U hU hW => ⟨rfl, by rw [hU]; exact hh.1, va_K.moved hW.alike C.2.2.2.2.2.1, gh_N_warm hW C.2.2.2.2.2.2.1⟩⟩
theorem k_callV (C : gh_C X cc own nL) {idx ci : Nat} {y : MethodName} {cc' : ByteArray} {nL' : Nat} {ret : Option FieldType} {cnt : Nat} (V : gh_V own idx ci y cc' nL' ret cnt) {rm : Room} {b : Nat} {As rest : List Value} {post : Option Value → gh_M → Prop}
    (hM : gh_Met (gx_l X) (gx_D X) (gx_d X) sh (gx_b X) n y cc' nL' ret rm M (.ref b :: As) post) (hf : gh_fit rm R nL') (hb : sh.1 b = ci) (hst : st = As.reverse ++ .ref b :: rest) (hcnt : As.length = cnt) (hW : (rest.map fun v => v.category).sum ≤ 8) (hcs : cells ≤ R.cells ∧ slots ≤ R.slots) (d : decode cc pc = .ok (.invokevirtual idx, 3))
    (kk : ∀ v M', post v M' → gh_G X R nL cells slots sh n (pc + 3) lv (v.toList ++ rest) M') : gh_G X R nL cells slots sh n pc lv st M := by
  obtain ⟨v1, v2, v3, v4, v5, v6, v7, v8⟩ := V
  intro H locs ls hh hl
  have hG : GoodIn gh_T (wsV own idx y.cls y (gh_ws y cc' nL' ret)) := fun w hw => by
    rcases List.mem_append.mp hw with h | h
    · have : w ∈ gh_T := by
        simp only [List.mem_cons, List.not_mem_nil, or_false] at h
        rcases h with rfl | rfl | rfl | rfl <;> assumption
      exact ⟨this, good_of_word (List.mem_filter.mp this).2⟩
    · exact gh_goodT v5 w h
  exact gh_after (va_runV (As := As) (rest := rest) ⟨C.1, C.2.1, C.2.2.1, C.2.2.2.1, C.2.2.2.2.1⟩ hM (cwV cnt C.2.2.2.2.1 hG rfl hf.1 hf.2.1 ⟨rfl, v6⟩ ⟨hf.2.2.1, hf.2.2.2⟩) (gh_preV C hh v7 v8 hb) rfl hcnt hl.1 hst (lv_room hW) d hcs) hh hl kk
theorem k_callVN (C : gh_C X cc own nL) {idx ci : Nat} {y : MethodName} {cc' : ByteArray} {nL' : Nat} {ret : Option FieldType} {cnt : Nat} (V : gh_VN own idx ci y cc' nL' ret cnt) {rm : Room} {b : Nat} {As rest : List Value} {post : Option Value → gh_M → Prop}
    (hM : gh_Met (gx_l X) (gx_D X) (gx_d X) sh (gx_b X) n y cc' nL' ret rm M (.ref b :: As) post) (hf : gh_fit rm R nL') (hb : sh.1 b = ci) (hst : st = As.reverse ++ .ref b :: rest) (hcnt : As.length = cnt) (hW : (rest.map fun v => v.category).sum ≤ 8) (hcs : cells ≤ R.cells ∧ slots ≤ R.slots) (d : decode cc pc = .ok (.invokevirtual idx, 3))
    (kk : ∀ v M', post v M' → gh_G X R nL cells slots sh n (pc + 3) lv (v.toList ++ rest) M') : gh_G X R nL cells slots sh n pc lv st M := by
  obtain ⟨⟨host, v1⟩, v2, v3, v4, v5, v6, v7, v8⟩ := V
  intro H locs ls hh hl
  have hts := C.2.2.2.2.1
  exact gh_after (va_runVN (As := As) (rest := rest) ⟨C.1, C.2.1, C.2.2.1, C.2.2.2.1, C.2.2.2.2.1⟩ hM ⟨va_cnB cnt hts (gh_goodT v5) rfl hf.1 hf.2.1 (C.2.2.2.2.2.2.1 _ v1) (hts _ v4) v6 ⟨hf.2.2.1, hf.2.2.2⟩, hts _ v2, hts _ v3⟩ (gh_preV C hh v7 v8 hb) rfl hcnt hl.1 hst (lv_room hW) d hcs) hh hl kk
theorem k_callS (C : gh_C X cc own nL) {idx : Nat} {y : MethodName} {cc' : ByteArray} {nL' : Nat} {ret : Option FieldType} {cnt : Nat} (V : gh_S own idx y cc' nL' ret cnt) {rm : Room} {As rest : List Value} {post : Option Value → gh_M → Prop}
    (hM : gh_Met (gx_l X) (gx_D X) (gx_d X) sh (gx_b X) n y cc' nL' ret rm M As post) (hf : gh_fit rm R nL') (hst : st = As.reverse ++ rest) (hcnt : As.length = cnt) (hW : (rest.map fun v => v.category).sum ≤ 8) (hcs : cells ≤ R.cells ∧ slots ≤ R.slots) (d : decode cc pc = .ok (.invokestatic idx, 3))
    (kk : ∀ v M', post v M' → gh_G X R nL cells slots sh n (pc + 3) lv (v.toList ++ rest) M') : gh_G X R nL cells slots sh n pc lv st M := by
  obtain ⟨v1, v2, v4, v5, v6⟩ := V
  intro H locs ls hh hl
  have hts := C.2.2.2.2.1
  exact gh_after (va_runS (As := As) (rest := rest) ⟨C.1, C.2.1, C.2.2.1, C.2.2.2.1, C.2.2.2.2.1⟩ hM ⟨callB_of cnt hts (gh_goodT v5) rfl hf.1 hf.2.1 (hts _ v4) (hts _ v1) v6 ⟨hf.2.2.1, hf.2.2.2⟩, hts _ v2⟩ (gh_preS C hh) rfl hcnt hl.1 hst (lv_room hW) d hcs) hh hl kk
theorem k_callSN (C : gh_C X cc own nL) {idx : Nat} {y : MethodName} {cc' : ByteArray} {nL' : Nat} {ret : Option FieldType} {cnt : Nat} (V : gh_SN own idx y cc' nL' ret cnt) {rm : Room} {As rest : List Value} {post : Option Value → gh_M → Prop}
    (hM : gh_Met (gx_l X) (gx_D X) (gx_d X) sh (gx_b X) n y cc' nL' ret rm M As post) (hf : gh_fit rm R nL') (hst : st = As.reverse ++ rest) (hcnt : As.length = cnt) (hW : (rest.map fun v => v.category).sum ≤ 8) (hcs : cells ≤ R.cells ∧ slots ≤ R.slots) (d : decode cc pc = .ok (.invokestatic idx, 3))
    (kk : ∀ v M', post v M' → gh_G X R nL cells slots sh n (pc + 3) lv (v.toList ++ rest) M') : gh_G X R nL cells slots sh n pc lv st M := by
  obtain ⟨⟨host, v1⟩, v2, v4, v5, v6⟩ := V
  intro H locs ls hh hl
  have hts := C.2.2.2.2.1
  exact gh_after (va_runSN (As := As) (rest := rest) ⟨C.1, C.2.1, C.2.2.1, C.2.2.2.1, C.2.2.2.2.1⟩ hM ⟨va_cnB cnt hts (gh_goodT v5) rfl hf.1 hf.2.1 (C.2.2.2.2.2.2.1 _ v1) (hts _ v4) v6 ⟨hf.2.2.1, hf.2.2.2⟩, hts _ v2, trivial⟩ (gh_preS C hh) rfl hcnt hl.1 hst (lv_room hW) d hcs) hh hl kk
/-! what a call leaves, by its sort of answer -/
theorem kp_i {post : Int32 → gh_M → Prop} {rest : List Value} (k : ∀ r M', post r M' → gh_G X R nL cells slots sh n pc lv (.int r :: rest) M') : ∀ v M', gh_pi post v M' → gh_G X R nL cells slots sh n pc lv (v.toList ++ rest) M' := fun v M' ⟨r, e, h⟩ => by subst e; exact k r M' h
theorem kp_l {post : Int64 → gh_M → Prop} {rest : List Value} (k : ∀ r M', post r M' → gh_G X R nL cells slots sh n pc lv (.long r :: rest) M') : ∀ v M', gh_pl post v M' → gh_G X R nL cells slots sh n pc lv (v.toList ++ rest) M' := fun v M' ⟨r, e, h⟩ => by subst e; exact k r M' h
theorem kp_v {post : gh_M → Prop} {rest : List Value} (k : ∀ M', post M' → gh_G X R nL cells slots sh n pc lv rest M') : ∀ v M', gh_pv post v M' → gh_G X R nL cells slots sh n pc lv (v.toList ++ rest) M' := fun v M' ⟨e, h⟩ => by subst e; exact k M' h
theorem kp_q {post : Option Nat → gh_M → Prop} {rest : List Value} (k : ∀ r M', post r M' → gh_G X R nL cells slots sh n pc lv (va_rf r :: rest) M') : ∀ v M', gh_pq post v M' → gh_G X R nL cells slots sh n pc lv (v.toList ++ rest) M' := fun v M' ⟨r, e, h⟩ => by subst e; exact k r M' h
theorem kp_n {post : Nat → gh_M → Prop} {rest : List Value} (k : ∀ r M', post r M' → gh_G X R nL cells slots sh n pc lv (.ref r :: rest) M') : ∀ v M', gh_pn post v M' → gh_G X R nL cells slots sh n pc lv (v.toList ++ rest) M' := fun v M' ⟨r, e, h⟩ => by subst e; exact k r M' h
theorem k_mmin (C : gh_C X cc own nL) {idx : Nat} {x y : Int32} (h1 : Cond.methodLink own idx Lib.Math.min.name ∈ gh_T) (h2 : Cond.static Lib.Math.min.name ∈ gh_T) (h3 : Cond.initialized "java/lang/Math" ∈ gh_T) (h4 : Cond.code Lib.Math.min.name Lib.Math.min.code 2 (some .int) ∈ gh_T) (hf : 1 ≤ R.frames) (hW : (st.map fun v => v.category).sum + 13 ≤ R.locals) (hcs : cells ≤ R.cells ∧ slots ≤ R.slots) (d : decode cc pc = .ok (.invokestatic idx, 3))
    (kk : gh_G X R nL cells slots sh n (pc + 3) lv (.int (if y < x then y else x) :: st) M) : gh_G X R nL cells slots sh n pc lv (.int y :: .int x :: st) M := fun H locs ls hh hl => va_mmin C.1 C.2.1 (C.2.2.1.trans hl.1.symm) C.2.2.2.1 (C.2.2.2.2.1 _ h1) (C.2.2.2.2.1 _ h2) (C.2.2.2.2.1 _ h3) (C.2.2.2.2.1 _ h4) hf hW hcs.1 hcs.2 d (kk H locs ls hh hl)
theorem k_mminl (C : gh_C X cc own nL) {idx : Nat} {x y : Int64} (h1 : Cond.methodLink own idx Lib.MathLoose.min_long.x ∈ gh_T) (h2 : Cond.static Lib.MathLoose.min_long.x ∈ gh_T) (h3 : Cond.initialized "java/lang/Math" ∈ gh_T) (h4 : Cond.code Lib.MathLoose.min_long.x Lib.MathLoose.min_long.code 4 (some .long) ∈ gh_T) (hf : 1 ≤ R.frames) (hW : (st.map fun v => v.category).sum + 15 ≤ R.locals) (hcs : cells ≤ R.cells ∧ slots ≤ R.slots) (d : decode cc pc = .ok (.invokestatic idx, 3))
    (kk : gh_G X R nL cells slots sh n (pc + 3) lv (.long (if y < x then y else x) :: st) M) : gh_G X R nL cells slots sh n pc lv (.long y :: .long x :: st) M := fun H locs ls hh hl => va_mmin_long C.1 C.2.1 (C.2.2.1.trans hl.1.symm) C.2.2.2.1 (C.2.2.2.2.1 _ h1) (C.2.2.2.2.1 _ h2) (C.2.2.2.2.1 _ h3) (C.2.2.2.2.1 _ h4) hf hW hcs.1 hcs.2 d (kk H locs ls hh hl)
/-- a loop: an invariant and a measure -/
def gh_loop {V : Type} (body : (V → Prop) → V → Prop) (v0 : V) : Prop := ∃ (I : V → Prop) (μ : V → Nat), I v0 ∧ ∀ v, I v → body (fun v' => I v' ∧ μ v' < μ v) v
theorem gh_loop_use {V : Type} {body : (V → Prop) → V → Prop} {v0 : V} (h : gh_loop body v0) (P : V → Prop) (hs : ∀ (k : V → Prop) (v : V), (∀ v', k v' → P v') → body k v → P v) : P v0 := by
  obtain ⟨I, μ, h0, hb⟩ := h
  have key : ∀ (d : Nat) (v : V), μ v < d → I v → P v := by
    intro d
    induction d with
    | zero => intro v h; exact absurd h (Nat.not_lt_zero _)
    | succ d ih => intro v hd hI; exact hs _ v (fun v' hv' => ih v' (by omega) hv'.1) (hb v hI)
  exact key _ v0 (Nat.lt_succ_self _) h0
end GHC
