/-! making cells: new, arrays, constructors -/
def shU (sh : gh_Sh) (a k len : Nat) : gh_Sh := (fun b => if b = a then k else sh.1 b, fun b => if b = a then len else sh.2 b)
def zM (M : gh_M) (a : Nat) : gh_M := (fun b j => if b = a then 0 else M.1 b j, fun b j => if b = a then 0 else M.2.1 b j, fun b j => if b = a then none else M.2.2 b j)
theorem rI_zM (M : gh_M) (a b j : Nat) : rI (zM M a) b j = if b = a then 0 else rI M b j := rfl
theorem rJ_zM (M : gh_M) (a b j : Nat) : rJ (zM M a) b j = if b = a then 0 else rJ M b j := rfl
theorem rR_zM (M : gh_M) (a b j : Nat) : rR (zM M a) b j = if b = a then none else rR M b j := rfl
theorem shU_1 (sh : gh_Sh) (a k len b : Nat) : (shU sh a k len).1 b = if b = a then k else sh.1 b := rfl
theorem shU_2 (sh : gh_Sh) (a k len b : Nat) : (shU sh a k len).2 b = if b = a then len else sh.2 b := rfl
theorem gh_cell_old {dA : Nat → ClassId} {sh : gh_Sh} {M : gh_M} {a k len b : Nat} (h : b ≠ a) : gh_cell dA (shU sh a k len) (zM M a) b = gh_cell dA sh M b := by
  have e : gh_cell dA (shU sh a k len) (zM M a) b = gh_cell dA sh (zM M a) b := by
    unfold gh_cell
    rw [shU_1, shU_2, if_neg h, if_neg h]
  rw [e]
  exact gh_cell_congr (fun j => by rw [rI_zM, if_neg h]) (fun j => by rw [rJ_zM, if_neg h]) (fun j => by rw [rR_zM, if_neg h])
theorem gh_P.new {D : va_G} {dA : Nat → ClassId} {sh : gh_Sh} {b0 n : Nat} {M : gh_M} {H H1 : Heap} {k len : Nat} (h : gh_P D dA sh b0 n M H) (z : H1.size = b0 + n + 1) (o : ∀ q, q < b0 + n → H1[q]? = H[q]?) (ha : va_at D vwCl (b0 + n, gh_cell dA (shU sh (b0 + n) k len) (zM M (b0 + n)) (b0 + n)) H1) : gh_P D dA (shU sh (b0 + n) k len) b0 (n + 1) (zM M (b0 + n)) H1 := by
  refine ⟨by rw [z]; omega, fun a hk => ?_, fun a hk => ?_⟩
  · rw [shU_1] at hk
    by_cases e : a = b0 + n
    · omega
    · rw [if_neg e] at hk
      have := h.2.1 a hk
      omega
  · by_cases e : a = b0 + n
    · subst e; exact ha
    · rw [shU_1, if_neg e] at hk
      rw [gh_cell_old e]
      exact (h.2.2 a hk).kept (o a (h.2.1 a hk).2)
theorem gh_S_new {A : Nat → Prop} {H0 H H1 : Heap} {locs : List Loc} (h : va_S A H0 H locs) (z : H.size ≤ H1.size) (o : ∀ q, q < H.size → H1[q]? = H[q]?) : va_S A H0 H1 locs := ⟨Nat.le_trans h.1 z, fun q h1 h2 => (o q (Nat.lt_of_lt_of_le h1 h.1)).trans (h.2.1 q h1 h2), h.2.2⟩
def gh_dv (t : Nat) : Value := if t = 0 then .int 0 else if t = 1 then .long 0 else .null
def gh_B (own : String) (idx ci N : Nat) : Prop := ∃ (Cn : String) (T : u_T) (ty0 : Nat → FieldType), vwCl[ci]? = some (Cn, T, N) ∧ (∀ w ∈ u_ws Cn T N, w ∈ gh_T) ∧ (∀ k, k < N → parseFieldDescriptor (T k).2.2.1 = some (ty0 k)) ∧ Cond.classLink own idx Cn ∈ gh_T ∧ Cond.instantiable Cn N ∈ gh_T ∧ Cond.initialized Cn ∈ gh_T ∧ ci < 13 ∧ N = (gh_ty ci).length ∧ ∀ j, j < N → defaultValue (ty0 j) = gh_dv ((gh_ty ci).getD j 2)
theorem gh_fs_def (M : gh_M) (a ci j : Nat) (h : j < (gh_ty ci).length) : vp_V (gh_fs (zM M a) a ci) j = gh_dv ((gh_ty ci).getD j 2) := by
  unfold vp_V
  rw [List.getD_eq_getElem?_getD, gh_fs_at, List.getD_eq_getElem?_getD, List.getElem?_eq_getElem h]
  simp only [Option.map_some, Option.getD_some, gh_val, gh_dv, rI_zM, rJ_zM, rR_zM, if_true]
  rfl
section GHA
variable {X : gh_X} {cc : ByteArray} {own : String} {nL : Nat} {R : Room} {cells slots : Nat} {sh : gh_Sh} {n pc : Nat} {lv : List (Nat × Value)} {st : List Value} {M : gh_M}
theorem k_new (C : gh_C X cc own nL) {idx ci N : Nat} (B : gh_B own idx ci N) (d : decode cc pc = .ok (.new idx, 3)) (hc : cells + 1 ≤ R.cells) (hs : slots + N ≤ R.slots) (kk : gh_G X R nL (cells + 1) (slots + N) (shU sh (gx_b X + n) ci 0) (n + 1) (pc + 3) lv (.ref (gx_b X + n) :: st) (zM M (gx_b X + n))) : gh_G X R nL cells slots sh n pc lv st M := by
  obtain ⟨Cn, T, ty0, b1, b2, b3, b4, b5, b6, b7, b8, b9⟩ := B
  intro H locs ls hh hl
  have hts := C.2.2.2.2.1
  have hKn := C.2.2.2.2.2.1.1 ci _ b1
  refine W.newcK C.1 C.2.1 C.2.2.2.1 (hts _ b4) (hts _ b5) (hts _ b6) rfl d hc hs hKn.2.1 hh.1.1 fun H1 kC hkC e1 z1 o1 => ?_
  refine kk H1 locs ls ⟨hh.1.new z1 o1 ?_, gh_S_new hh.2 (by rw [z1, hh.1.1]; omega) (fun q hq => o1 q (by rw [← hh.1.1]; exact hq))⟩ hl
  rw [gh_cell_obj (by rw [shU_1, if_pos rfl]) b7]
  exact ⟨_, b1, (u_born ty0 hts b2 hKn hkC e1 b3).to (fun j hj => by rw [b9 j hj, gh_fs_def M _ _ _ (by rw [← b8]; exact hj)])⟩
theorem k_newI (C : gh_C X cc own nL) (ha : Cond.arrayClass .int ∈ gh_T) {v : Int32} {N : Nat} (hv : ¬ v < 0) (hN : v.toNatClampNeg = N) (hb : N * 4 ≤ 536870912) (d : decode cc pc = .ok (.newarray .int, 2)) (hc : cells + 1 ≤ R.cells) (hs : slots + N ≤ R.slots) (kk : gh_G X R nL (cells + 1) (slots + N) (shU sh (gx_b X + n) 13 N) (n + 1) (pc + 2) lv (.ref (gx_b X + n) :: st) (zM M (gx_b X + n))) : gh_G X R nL cells slots sh n pc lv (.int v :: st) M := by
  intro H locs ls hh hl
  refine va_newaK (atype := .int) C.1 C.2.1 (C.2.2.2.2.1 _ ha) rfl d rfl hv hN hb hc hs hh.1.1 fun H1 cA e1 z1 o1 hAr hNm => ?_
  have hcA : cA = gx_d X 13 := Option.some.inj (hNm.symm.trans (C.2.2.2.2.2.1.2 0 _ rfl).2)
  subst hcA
  refine kk H1 locs ls ⟨hh.1.new z1 o1 ?_, gh_S_new hh.2 (by rw [z1, hh.1.1]; omega) (fun q hq => o1 q (by rw [← hh.1.1]; exact hq))⟩ hl
  rw [gh_cell_I (by rw [shU_1, if_pos rfl]), shU_2, if_pos rfl]
  show H1[gx_b X + n]? = some (arrV (gx_d X 13) N (fun j => .int (rI (zM M (gx_b X + n)) (gx_b X + n) j)))
  refine e1.trans ?_
  refine congrArg (fun z => some (arrV (gx_d X 13) N z)) (funext fun j => ?_)
  rw [rI_zM, if_pos rfl]; rfl
theorem k_newJ (C : gh_C X cc own nL) (ha : Cond.arrayClass .long ∈ gh_T) {v : Int32} {N : Nat} (hv : ¬ v < 0) (hN : v.toNatClampNeg = N) (hb : N * 8 ≤ 536870912) (d : decode cc pc = .ok (.newarray .long, 2)) (hc : cells + 1 ≤ R.cells) (hs : slots + N ≤ R.slots) (kk : gh_G X R nL (cells + 1) (slots + N) (shU sh (gx_b X + n) 14 N) (n + 1) (pc + 2) lv (.ref (gx_b X + n) :: st) (zM M (gx_b X + n))) : gh_G X R nL cells slots sh n pc lv (.int v :: st) M := by
  intro H locs ls hh hl
  refine va_newaK (atype := .long) C.1 C.2.1 (C.2.2.2.2.1 _ ha) rfl d rfl hv hN hb hc hs hh.1.1 fun H1 cA e1 z1 o1 hAr hNm => ?_
  have hcA : cA = gx_d X 14 := Option.some.inj (hNm.symm.trans (C.2.2.2.2.2.1.2 1 _ rfl).2)
  subst hcA
  refine kk H1 locs ls ⟨hh.1.new z1 o1 ?_, gh_S_new hh.2 (by rw [z1, hh.1.1]; omega) (fun q hq => o1 q (by rw [← hh.1.1]; exact hq))⟩ hl
  rw [gh_cell_J (by rw [shU_1, if_pos rfl]), shU_2, if_pos rfl]
  show H1[gx_b X + n]? = some (arrV (gx_d X 14) N (fun j => .long (rJ (zM M (gx_b X + n)) (gx_b X + n) j)))
  refine e1.trans ?_
  refine congrArg (fun z => some (arrV (gx_d X 14) N z)) (funext fun j => ?_)
  rw [rJ_zM, if_pos rfl]; rfl
theorem k_newR (C : gh_C X cc own nL) {idx kd : Nat} {Cn : String} (h1 : Cond.classLink own idx Cn ∈ gh_T) (h2 : Cond.arrayOver (.object Cn) ∈ gh_N) (hk : 15 ≤ kd) (hk2 : kd ≠ 99) (ht : (gh_tys (gx_d X))[kd - 13]? = some (gx_d X kd, .object Cn)) {v : Int32} {N : Nat} (hv : ¬ v < 0) (hN : v.toNatClampNeg = N) (hb : N * 4 ≤ 536870912) (d : decode cc pc = .ok (.anewarray idx, 3)) (hc : cells + 1 ≤ R.cells) (hs : slots + N ≤ R.slots) (kk : gh_G X R nL (cells + 1) (slots + N) (shU sh (gx_b X + n) kd N) (n + 1) (pc + 3) lv (.ref (gx_b X + n) :: st) (zM M (gx_b X + n))) : gh_G X R nL cells slots sh n pc lv (.int v :: st) M := by
  subst hN
  intro H locs ls hh hl
  have ho : va_AO Cn (gx_s X) := C.2.2.2.2.2.2.1 _ h2
  refine W.anew C.1 C.2.1 C.2.2.2.1 (C.2.2.2.2.1 _ h1) (va_AO.use ho) rfl d rfl hv hb hc hs fun cA kA comp f1 f2 f3 f4 => ?_
  obtain ⟨kA', comp', g1, g2, g3, g4⟩ := (C.2.2.2.2.2.1.2 _ _ ht).2
  have hcA : cA = gx_d X kd := Option.some.inj (f1.symm.trans g4)
  subst hcA
  have hsz := hh.1.1
  generalize hH1 : H.push ({ cls := gx_d X kd, slots := Array.replicate v.toNatClampNeg .null, vm := .none } : Cell) = H1
  have z1 : H1.size = gx_b X + n + 1 := by rw [← hH1, Array.size_push, hsz]
  have e1 : H1[gx_b X + n]? = some (arrV (gx_d X kd) v.toNatClampNeg (fun _ => .null)) := by rw [← hH1, ← hsz, Array.getElem?_push_size, ← arrV_new]
  have o1 : ∀ q : Nat, q < gx_b X + n → H1[q]? = H[q]? := fun q hq => by rw [← hH1, Array.getElem?_push, if_neg (Nat.ne_of_lt (by rw [hsz]; exact hq))]
  rw [show H.size = gx_b X + n from hsz]
  refine kk H1 locs ls ⟨hh.1.new z1 o1 ?_, gh_S_new hh.2 (by rw [z1, hsz]; omega) (fun q hq => o1 q (by rw [← hsz]; exact hq))⟩ hl
  rw [gh_cell_R (k := kd) (by rw [shU_1, if_pos rfl]) hk, shU_2, if_pos rfl]
  show H1[gx_b X + n]? = some (arrV (gx_d X kd) v.toNatClampNeg (fun j => va_rf (rR (zM M (gx_b X + n)) (gx_b X + n) j)))
  refine e1.trans ?_
  refine congrArg (fun z => some (arrV (gx_d X kd) v.toNatClampNeg z)) (funext fun j => ?_)
  rw [rR_zM, if_pos rfl]; rfl
theorem k_putFR (C : gh_C X cc own nL) (hin : (gx_h X).name = "<init>") {idx ci k : Nat} {ty : FieldType} (F : gh_F own idx ci k 2 ty true) {a q : Nat} (ho : (vwCl[ci]?).map (fun r => r.1) = some own) (d : decode cc pc = .ok (.putfield idx, 3)) (ha : sh.1 a = ci) (hn : narrow ty (.ref q) = .ref q) (hf : fits ty (.ref q) = true) (kk : gh_G X R nL cells slots sh n (pc + 3) lv st (wR M a k (some q))) : gh_G X R nL cells slots sh n pc lv (.ref q :: .ref a :: st) M := by
  obtain ⟨Cn, T, N, ty0, f1, f2, f3, f4, f5, f6, f7, f8, f9, f10, f11⟩ := F
  have hCn : Cn = own := by rw [f1] at ho; exact Option.some.inj ho
  intro H locs ls hh hl
  have hP := hh.obj ha f6
  have hK := C.2.2.2.2.2.1
  have hts := C.2.2.2.2.1
  have hown := C.2.2.2.1
  have hap := va_apart (own := own) hts f2 ty0 f7 f8 hK f1
  obtain ⟨r, h1, cell, q1, q2, q3, q4⟩ := hP 0 _ rfl
  have hr : r = (Cn, T, N) := Option.some.inj (h1.symm.trans f1)
  subst hr
  obtain ⟨hS, hfc, kC, hkC, hkind⟩ := hK.1 ci _ f1
  obtain ⟨cf, kf, fi, f, hi, hsl⟩ := hS k f3
  have hlay := hts _ (f2 _ (u_in_lay f3))
  unfold u_lay at hlay
  rw [if_pos f10] at hlay
  have hst := (u_facts hfc hkC (u_lays hts f2 f3) hi).1
  have hcf : (gx_m X).cls = cf := by
    obtain ⟨_, _, c', _, _, _, -, -, hf', -, -, -, hown2, -⟩ := Cond.laysFinal_spec hlay
    have e1 : c' = cf := by have := hi.symm.trans hf'; simp at this; exact this.1.symm
    rw [f11, hCn] at hown2
    rw [← e1]; exact Option.some.inj (hown.symm.trans hown2)
  have h6 := u_fits hfc hkC hkind (Or.inr hlay) hi f9 hn hf
  have hlen : k < (gh_fs M a ci).length := by
    unfold gh_fs
    rw [List.length_mapIdx]
    exact (List.getElem?_eq_some_iff.mp f4).1
  refine W.putFinK C.1 C.2.1 hown (hts _ f5) hi hst hcf hin (by rw [q2]; exact h6) q1 q3 (by rw [hsl]; exact k2_hasslot (q4 k f3)) rfl rfl d fun H' e1 e2 e3 => ?_
  rw [hsl] at e1 ⊢
  have hbA : gx_b X ≤ a := (hh.1.2.1 a (by rw [ha]; omega)).1
  refine kk H' _ ls ⟨hh.1.set e2 e3 ?_ gh_wR_cell, hh.2.put e2 e3 hbA⟩ hl
  rw [gh_cell_obj ha f6, ← gh_fs_set (M := M) (M' := wR M a k (some q)) (v := .ref q) f4 (by show va_rf (rR (wR M a k (some q)) a k) = _; rw [rR_wR, if_pos ⟨rfl, rfl⟩]; rfl) (fun j u hj => by simp [gh_val, rR_wR, rI_wR, rJ_wR, hj])]
  exact ⟨_, f1, t_OB.to (V := updV (vp_V (gh_fs M a ci)) k (.ref q)) ⟨_, e1, q2, q3, t_set q4 hap f3 _⟩ (fun j _ => vp_updV_set hlen _ j)⟩
theorem k_objInit (C : gh_C X cc own nL) {idx a : Nat} (h1 : Cond.methodLink own idx objectInit ∈ gh_T) (h2 : Cond.instanceMethod objectInit ∈ gh_T) (h3 : Cond.code objectInit ⟨#[0xb1]⟩ 1 none ∈ gh_T) (hf : 1 ≤ R.frames) (hW : (st.map fun v => v.category).sum + 12 ≤ R.locals) (d : decode cc pc = .ok (.invokespecial idx, 3)) (kk : gh_G X R nL cells slots sh n (pc + 3) lv st M) : gh_G X R nL cells slots sh n pc lv (.ref a :: st) M := fun H locs ls hh hl => W.objInit C.1 C.2.1 C.2.2.2.1 (C.2.2.2.2.1 _ h1) (C.2.2.2.2.1 _ h2) (C.2.2.2.2.1 _ h3) rfl (hl.1.trans C.2.2.1.symm) rfl d hf (by
  have e : (F0 (gx_m X) pc ls (.ref a :: st)).monitorRoom = 0 := rfl
  rw [e]; omega) (kk H locs ls hh hl)
end GHA
def gh_QA (D : va_G) (dA : Nat → ClassId) (b0 nf : Nat) (post : gh_Sh → gh_M → Prop) : Array Value → State → Outcome → State → Prop :=
  fun _ st oc t => (∃ (sh' : gh_Sh) (M' : gh_M), oc = .returned none ∧ post sh' M' ∧ gh_P D dA sh' b0 nf M' t.heap) ∧ va_F (fun q => b0 ≤ q) st t
def gh_CA (X : gh_X) (cc : ByteArray) (own : String) (nL nf mc ms : Nat) (post : gh_Sh → gh_M → Prop) : Prop :=
  gh_C X cc own nL ∧ (gx_h X).sig.returnType = none ∧ (gx_h X).locks = false ∧ gx_Q X = MQ (gx_w X) (gh_QA (gx_D X) (gx_d X) (gx_b X) nf post) (gx_a X) (gx_s X) mc ms (fun q => gx_b X ≤ q) ∧ gx_H X = (gx_s X).heap ∧ (gx_h X).name = "<init>"
abbrev gh_MetA (l : Launch) (D : va_G) (dA : Nat → ClassId) (sh : gh_Sh) (b0 n mc ms : Nat) (y : MethodName) (cc : ByteArray) (nL : Nat) (rm : Room) (M : gh_M) (av : List Value) (post : gh_Sh → gh_M → Prop) : Prop :=
  Met l y (gh_ws y cc nL none) rm (gh_Pc D dA sh b0 n M av) (gh_QA D dA b0 (n + mc) post) mc ms (fun q => b0 ≤ q)
theorem gh_openA {l : Launch} {D : va_G} {dA : Nat → ClassId} {sh : gh_Sh} {b0 n mc ms : Nat} {y : MethodName} {cc : ByteArray} {nL : Nat} {rm : Room} {M : gh_M} {av : List Value} {post : gh_Sh → gh_M → Prop}
    (hy : plainName y.cls = true) (hi : y.name = "<init>") (hlen : (lg_sl av).length ≤ nL) (body : ∀ X : gh_X, gx_b X = b0 → gh_CA X cc y.cls nL (n + mc) mc ms post → gh_G X rm nL 0 0 sh n 0 (lv_args 0 av) [] M) : gh_MetA l D dA sh b0 n mc ms y cc nL rm M av post := by
  refine Met.ofW (cc := cc) (maxL := nL) (ret := none) hy rfl ?_
  intro p e s m args below meth c s₁ B hml hv
  obtain ⟨rfl, hP, hK, hN⟩ := hv
  have hts := atoms_spec (ws := gh_ws y cc nL none) B.pre
  have hown : s.vm.findClass y.cls = some m.cls := findClass_of_methodNamed B.named
  have hl := lv_entry av (n := nL) hlen
  rw [lg_entry_eq]
  refine body (p, l, e, s, m, av.toArray, below, meth, c, _, D, dA, b0, s.heap) rfl ⟨⟨B.exec, B.bytes, hml, hown, fun w hw => hts w (List.mem_cons_of_mem _ hw), hK, hN, ?_⟩, B.returns, B.notSynchronized, rfl, rfl, (name_of_methodNamed B.named B.method).1.trans hi⟩ s.heap [] _ ⟨hP, va_S.rf⟩ hl
  show b0 ≤ s.heap.size
  rw [hP.1]; omega
section GHA2
variable {X : gh_X} {cc : ByteArray} {own : String} {nL : Nat} {R : Room} {cells slots : Nat} {sh : gh_Sh} {n pc : Nat} {lv : List (Nat × Value)} {st : List Value} {M : gh_M}
theorem k_cret {nf mc ms : Nat} {post : gh_Sh → gh_M → Prop} (C : gh_CA X cc own nL nf mc ms post) (d : decode cc pc = .ok (.return_, 1)) (hn : n = nf) (hc : cells ≤ mc) (hs : slots ≤ ms) (h : post sh M) : gh_G X R nL cells slots sh n pc lv [] M := by
  subst hn
  intro H locs ls hh hl
  unfold gh_W
  rw [C.2.2.2.1]
  exact W.widen hc hs (W.vret C.1.1 C.1.2.1 C.2.1 (fun t ht hW => ⟨⟨sh, M, rfl, h, by rw [ht]; exact hh.1⟩, va_S.F (H := H) (locs := locs) (by rw [← C.2.2.2.2.1]; exact hh.2) ht⟩) hh.2.2.2 d C.2.2.1)
theorem gh_afterA {H : Heap} {locs : List Loc} {ls : Array Slot} {rest : List Value} {av : Array Value} {mc ms : Nat} {post : gh_Sh → gh_M → Prop} (hr : va_Run (gx_p X) (gx_l X) (gx_e X) R (gx_s X) (gx_m X) (gx_a X) (gx_w X) (gx_h X) (gx_c X) H locs cells slots mc ms (F0 (gx_m X) pc ls st) rest (gh_QA (gx_D X) (gx_d X) (gx_b X) (n + mc) post av) (fun q => gx_b X ≤ q))
    (hh : gh_hp X sh n M H locs) (hl : lv_has ls nL lv) (kk : ∀ sh' M', post sh' M' → gh_G X R nL (cells + mc) (slots + ms) sh' (n + mc) (pc + 3) lv rest M') : gh_W X R H locs cells slots (F0 (gx_m X) pc ls st) := by
  intro T hT Xs
  obtain ⟨v, st₀, t, T', L, h0, X', hL, e1, e2, ⟨⟨sh', M', hv, hp, hP⟩, hz, hk⟩, stp⟩ := hr T hT Xs
  cases hv
  rw [h0] at hz hk
  obtain ⟨t2, a1, b1⟩ := kk sh' M' hp T'.heap (locs ++ L) ls ⟨by rw [e1]; exact hP, Nat.le_trans hh.2.1 (by rw [e1]; exact hz), fun q h1 h2 => by rw [e1, hk q (Nat.lt_of_lt_of_le h1 hh.2.1) h2]; exact hh.2.2.1 q h1 h2, fun q hq => by
      rcases List.mem_append.mp hq with h | h
      · exact hh.2.2.2 q h
      · exact hL q h⟩ hl T' rfl X'
  exact ⟨t2, stp t2 a1, b1⟩
def gh_I (own : String) (idx : Nat) (y : MethodName) (cc' : ByteArray) (nL' cnt : Nat) : Prop := (Cond.methodLink own idx y ∈ gh_T ∨ ∃ host : String, Cond.methodLinkNest own idx y host ∈ gh_N) ∧ Cond.instanceMethod y ∈ gh_T ∧ Cond.initialized y.cls ∈ gh_T ∧ Cond.code y cc' nL' none ∈ gh_T ∧ y.name = "<init>" ∧ gh_dd y cnt
theorem k_callI (C : gh_C X cc own nL) {idx : Nat} {y : MethodName} {cc' : ByteArray} {nL' cnt : Nat} (V : gh_I own idx y cc' nL' cnt) {rm : Room} {b mc ms : Nat} {As rest : List Value} {post : gh_Sh → gh_M → Prop}
    (hM : gh_MetA (gx_l X) (gx_D X) (gx_d X) sh (gx_b X) n mc ms y cc' nL' rm M (.ref b :: As) post) (hf : rm.cells = mc ∧ rm.slots = ms ∧ rm.frames + 1 ≤ R.frames ∧ 8 + (nL' + 11) + rm.locals ≤ R.locals) (hst : st = As.reverse ++ .ref b :: rest) (hcnt : As.length = cnt) (hW : (rest.map fun v => v.category).sum ≤ 8) (hcs : cells + mc ≤ R.cells ∧ slots + ms ≤ R.slots) (d : decode cc pc = .ok (.invokespecial idx, 3))
    (kk : ∀ sh' M', post sh' M' → gh_G X R nL (cells + mc) (slots + ms) sh' (n + mc) (pc + 3) lv rest M') : gh_G X R nL cells slots sh n pc lv st M := by
  obtain ⟨v1, v2, v4, v5, v6, v7⟩ := V
  intro H locs ls hh hl
  have hts := C.2.2.2.2.1
  rcases v1 with v1 | ⟨host, v1⟩
  · exact gh_afterA (va_runI (As := As) (rest := rest) ⟨C.1, C.2.1, C.2.2.1, C.2.2.2.1, C.2.2.2.2.1⟩ hM ⟨callB_of cnt hts (gh_goodT v5) rfl hf.1 hf.2.1 (hts _ v4) (hts _ v1) v7 ⟨hf.2.2.1, hf.2.2.2⟩, v6, hts _ v2⟩ (gh_preS C hh) rfl hcnt hl.1 hst (lv_room hW) d hcs) hh hl kk
  · exact gh_afterA (va_runIN (As := As) (rest := rest) ⟨C.1, C.2.1, C.2.2.1, C.2.2.2.1, C.2.2.2.2.1⟩ hM ⟨va_cnB cnt hts (gh_goodT v5) rfl hf.1 hf.2.1 (C.2.2.2.2.2.2.1 _ v1) (hts _ v4) v7 ⟨hf.2.2.1, hf.2.2.2⟩, v6, hts _ v2⟩ (gh_preS C hh) rfl hcnt hl.1 hst (lv_room hW) d hcs) hh hl kk
end GHA2
