/-! rows over the memory: fields, arrays, returns, calls -/
/-- field k of class number ci, by the pool's place idx of own -/
def gh_F (own : String) (idx ci k t : Nat) (ty : FieldType) (fin : Bool) : Prop := ∃ (Cn : String) (T : u_T) (N : Nat) (ty0 : Nat → FieldType), vwCl[ci]? = some (Cn, T, N) ∧ (∀ w ∈ u_ws Cn T N, w ∈ gh_T) ∧ k < N ∧ (gh_ty ci)[k]? = some t ∧
  Cond.fieldLink own idx (T k).1 (T k).2.1 (T k).2.2.1 ∈ gh_T ∧ ci < 13 ∧ (∀ k, k < N → parseFieldDescriptor (T k).2.2.1 = some (ty0 k)) ∧ (∀ a, a < N → ∀ b, b < N → a ≠ b → (T a).2.1 ≠ (T b).2.1) ∧ parseFieldDescriptor (T k).2.2.1 = some ty ∧ (T k).2.2.2 = fin ∧ (T k).1 = Cn
section GHH
variable {X : gh_X} {cc : ByteArray} {own : String} {nL : Nat} {R : Room} {cells slots : Nat} {sh : gh_Sh} {n pc : Nat} {lv : List (Nat × Value)} {st : List Value} {M : gh_M}
theorem gh_one {D : va_G} {H : Heap} {q : Nat × va_E} (h : va_at D vwCl q H) : va_P D vwCl [q] H := fun k x hx => by
  have hz : k < 1 := (List.getElem?_eq_some_iff.mp hx).1
  rw [show k = 0 by omega] at hx
  cases hx
  exact h
theorem gh_hp.obj {locs : List Loc} {H : Heap} {a ci : Nat} (hh : gh_hp X sh n M H locs) (ha : sh.1 a = ci) (hc : ci < 13) : va_P (gx_D X) vwCl [(a, .inr (ci, gh_fs M a ci))] H := by
  have h := hh.1.2.2 a (by rw [ha]; omega)
  rw [gh_cell_obj ha hc] at h
  exact gh_one h
theorem k_getV (C : gh_C X cc own nL) {idx ci k t : Nat} {ty : FieldType} {fin : Bool} (F : gh_F own idx ci k t ty fin) {a : Nat} (d : decode cc pc = .ok (.getfield idx, 3)) (ha : sh.1 a = ci) {v : Value} (hv : gh_val M a k t = v) (kk : gh_G X R nL cells slots sh n (pc + 3) lv (v :: st) M) : gh_G X R nL cells slots sh n pc lv (.ref a :: st) M := by
  obtain ⟨Cn, T, N, ty0, f1, f2, f3, f4, f5, f6, -⟩ := F
  intro H locs ls hh hl
  refine va_get (D := gx_D X) (ci := ci) (v := v) (C := Cn) (T := T) (N := N) C.1 C.2.1 C.2.2.2.2.1 f2 C.2.2.2.1 C.2.2.2.2.2.1 (hh.obj ha f6) 0 rfl f1 k f3 (C.2.2.2.2.1 _ f5) (fun _ h => h) ?_ d (kk H locs ls hh hl)
  rw [gh_fs_at, f4]
  simp [hv]
theorem k_getI (C : gh_C X cc own nL) {idx ci k : Nat} {ty : FieldType} {fin : Bool} (F : gh_F own idx ci k 0 ty fin) {a : Nat} (d : decode cc pc = .ok (.getfield idx, 3)) (ha : sh.1 a = ci) (kk : gh_G X R nL cells slots sh n (pc + 3) lv (.int (rI M a k) :: st) M) : gh_G X R nL cells slots sh n pc lv (.ref a :: st) M := k_getV C F d ha rfl kk
theorem k_getJ (C : gh_C X cc own nL) {idx ci k : Nat} {ty : FieldType} {fin : Bool} (F : gh_F own idx ci k 1 ty fin) {a : Nat} (d : decode cc pc = .ok (.getfield idx, 3)) (ha : sh.1 a = ci) (kk : gh_G X R nL cells slots sh n (pc + 3) lv (.long (rJ M a k) :: st) M) : gh_G X R nL cells slots sh n pc lv (.ref a :: st) M := k_getV C F d ha rfl kk
theorem k_getR (C : gh_C X cc own nL) {idx ci k : Nat} {ty : FieldType} {fin : Bool} (F : gh_F own idx ci k 2 ty fin) {a q : Nat} (d : decode cc pc = .ok (.getfield idx, 3)) (ha : sh.1 a = ci) (hq : rR M a k = some q) (kk : gh_G X R nL cells slots sh n (pc + 3) lv (.ref q :: st) M) : gh_G X R nL cells slots sh n pc lv (.ref a :: st) M := k_getV C F d ha (by show va_rf (rR M a k) = .ref q; rw [hq]; rfl) kk
theorem k_putV (C : gh_C X cc own nL) {idx ci k t : Nat} {ty : FieldType} (F : gh_F own idx ci k t ty false) {a : Nat} (d : decode cc pc = .ok (.putfield idx, 3)) (ha : sh.1 a = ci) {v : Value} (M' : gh_M) (hv : gh_val M' a k t = v) (ho : ∀ j u, j ≠ k → gh_val M' a j u = gh_val M a j u) (hb : ∀ b, b ≠ a → gh_cell (gx_d X) sh M' b = gh_cell (gx_d X) sh M b) (hn : narrow ty v = v) (hf : fits ty v = true)
    (kk : gh_G X R nL cells slots sh n (pc + 3) lv st M') : gh_G X R nL cells slots sh n pc lv (v :: .ref a :: st) M := by
  obtain ⟨Cn, T, N, ty0, f1, f2, f3, f4, f5, f6, f7, f8, f9, f10, f11⟩ := F
  intro H locs ls hh hl
  have hP := hh.obj ha f6
  have hK := C.2.2.2.2.2.1
  have hts := C.2.2.2.2.1
  have hap := va_apart (own := own) hts f2 ty0 f7 f8 hK f1
  obtain ⟨r, h1, cell, q1, q2, q3, q4⟩ := hP 0 _ rfl
  have hr : r = (Cn, T, N) := Option.some.inj (h1.symm.trans f1)
  subst hr
  obtain ⟨hS, hfc, kC, hkC, hkind⟩ := hK.1 ci _ f1
  obtain ⟨cf, kf, fi, f, hi, hsl⟩ := hS k f3
  have hlay := hts _ (f2 _ (u_in_lay f3))
  unfold u_lay at hlay
  rw [if_neg (by rw [f10]; decide)] at hlay
  have hst := (u_facts hfc hkC (u_lays hts f2 f3) hi).1
  have h6 := u_store hfc hkC hkind hlay hi f9 hn hf
  have hlen : k < (gh_fs M a ci).length := by
    unfold gh_fs
    rw [List.length_mapIdx]
    exact (List.getElem?_eq_some_iff.mp f4).1
  refine W.putK C.1 C.2.1 (f := f) ⟨C.2.2.2.1, hts _ f5, ⟨_, _, _, hi⟩, hst⟩ (by rw [q2]; exact h6) q1 q3 (by rw [hsl]; exact k2_hasslot (q4 k f3)) rfl rfl d fun H' e1 e2 e3 => ?_
  rw [hsl] at e1 ⊢
  have hbA : gx_b X ≤ a := (hh.1.2.1 a (by rw [ha]; omega)).1
  refine kk H' _ ls ⟨hh.1.set e2 e3 ?_ hb, hh.2.put e2 e3 hbA⟩ hl
  rw [gh_cell_obj ha f6, ← gh_fs_set f4 hv ho]
  exact ⟨_, f1, t_OB.to (V := updV (vp_V (gh_fs M a ci)) k v) ⟨_, e1, q2, q3, t_set q4 hap f3 v⟩ (fun j _ => vp_updV_set hlen v j)⟩
theorem gh_wI_cell {dA : Nat → ClassId} {a k : Nat} {v : Int32} : ∀ b, b ≠ a → gh_cell dA sh (wI M a k v) b = gh_cell dA sh M b := fun b hb => gh_cell_congr (fun j => by rw [rI_wI, if_neg (fun h => hb h.1)]) (fun j => rfl) (fun j => rfl)
theorem gh_wJ_cell {dA : Nat → ClassId} {a k : Nat} {v : Int64} : ∀ b, b ≠ a → gh_cell dA sh (wJ M a k v) b = gh_cell dA sh M b := fun b hb => gh_cell_congr (fun j => rfl) (fun j => by rw [rJ_wJ, if_neg (fun h => hb h.1)]) (fun j => rfl)
theorem gh_wR_cell {dA : Nat → ClassId} {a k : Nat} {v : Option Nat} : ∀ b, b ≠ a → gh_cell dA sh (wR M a k v) b = gh_cell dA sh M b := fun b hb => gh_cell_congr (fun j => rfl) (fun j => rfl) (fun j => by rw [rR_wR, if_neg (fun h => hb h.1)])
theorem k_putI (C : gh_C X cc own nL) {idx ci k : Nat} {ty : FieldType} (F : gh_F own idx ci k 0 ty false) {a : Nat} {x : Int32} (d : decode cc pc = .ok (.putfield idx, 3)) (ha : sh.1 a = ci) (hn : narrow ty (.int x) = .int x) (hf : fits ty (.int x) = true) (kk : gh_G X R nL cells slots sh n (pc + 3) lv st (wI M a k x)) : gh_G X R nL cells slots sh n pc lv (.int x :: .ref a :: st) M := by
  refine k_putV C F d ha (wI M a k x) ?_ (fun j u hj => ?_) gh_wI_cell hn hf kk
  · show Value.int (rI (wI M a k x) a k) = _
    rw [rI_wI, if_pos ⟨rfl, rfl⟩]
  · simp [gh_val, rI_wI, rJ_wI, rR_wI, hj]
theorem k_putJ (C : gh_C X cc own nL) {idx ci k : Nat} {ty : FieldType} (F : gh_F own idx ci k 1 ty false) {a : Nat} {x : Int64} (d : decode cc pc = .ok (.putfield idx, 3)) (ha : sh.1 a = ci) (hn : narrow ty (.long x) = .long x) (hf : fits ty (.long x) = true) (kk : gh_G X R nL cells slots sh n (pc + 3) lv st (wJ M a k x)) : gh_G X R nL cells slots sh n pc lv (.long x :: .ref a :: st) M := by
  refine k_putV C F d ha (wJ M a k x) ?_ (fun j u hj => ?_) gh_wJ_cell hn hf kk
  · show Value.long (rJ (wJ M a k x) a k) = _
    rw [rJ_wJ, if_pos ⟨rfl, rfl⟩]
  · simp [gh_val, rJ_wJ, rI_wJ, rR_wJ, hj]
theorem k_putR (C : gh_C X cc own nL) {idx ci k : Nat} {ty : FieldType} (F : gh_F own idx ci k 2 ty false) {a q : Nat} (d : decode cc pc = .ok (.putfield idx, 3)) (ha : sh.1 a = ci) (hn : narrow ty (.ref q) = .ref q) (hf : fits ty (.ref q) = true) (kk : gh_G X R nL cells slots sh n (pc + 3) lv st (wR M a k (some q))) : gh_G X R nL cells slots sh n pc lv (.ref q :: .ref a :: st) M := by
  refine k_putV C F d ha (wR M a k (some q)) ?_ (fun j u hj => ?_) gh_wR_cell hn hf kk
  · show va_rf (rR (wR M a k (some q)) a k) = _
    rw [rR_wR, if_pos ⟨rfl, rfl⟩]
    rfl
  · simp [gh_val, rR_wR, rI_wR, rJ_wR, hj]
theorem k_iald (C : gh_C X cc own nL) {a : Nat} {i : Int32} (d : decode cc pc = .ok (.iaload, 1)) (ha : sh.1 a = 13) (hi : vp_in i (sh.2 a)) (kk : gh_G X R nL cells slots sh n (pc + 1) lv (.int (rI M a i.toNatClampNeg) :: st) M) : gh_G X R nL cells slots sh n pc lv (.int i :: .ref a :: st) M := by
  intro H locs ls hh hl
  have h := hh.1.2.2 a (by rw [ha]; decide)
  rw [gh_cell_I ha] at h
  exact va_iald C.1 C.2.1 C.2.2.2.2.2.1 (gh_one h) 0 0 rfl rfl hi d (kk H locs ls hh hl)
theorem k_lald (C : gh_C X cc own nL) {a : Nat} {i : Int32} (d : decode cc pc = .ok (.laload, 1)) (ha : sh.1 a = 14) (hi : vp_in i (sh.2 a)) (kk : gh_G X R nL cells slots sh n (pc + 1) lv (.long (rJ M a i.toNatClampNeg) :: st) M) : gh_G X R nL cells slots sh n pc lv (.int i :: .ref a :: st) M := by
  intro H locs ls hh hl
  have h := hh.1.2.2 a (by rw [ha]; decide)
  rw [gh_cell_J ha] at h
  exact va_lald C.1 C.2.1 C.2.2.2.2.2.1 (gh_one h) 0 1 rfl rfl hi d (kk H locs ls hh hl)
theorem k_aald (C : gh_C X cc own nL) {a q kd : Nat} {i : Int32} {t : FieldType} (d : decode cc pc = .ok (.aaload, 1)) (hk : 15 ≤ kd) (hk2 : kd ≠ 99) (ht : (gh_tys (gx_d X))[kd - 13]? = some (gx_d X kd, t)) (hr : t.isReference = true) (ha : sh.1 a = kd) (hi : vp_in i (sh.2 a)) (hq : rR M a i.toNatClampNeg = some q) (kk : gh_G X R nL cells slots sh n (pc + 1) lv (.ref q :: st) M) : gh_G X R nL cells slots sh n pc lv (.int i :: .ref a :: st) M := by
  intro H locs ls hh hl
  have h := hh.1.2.2 a (by rw [ha]; exact hk2)
  rw [gh_cell_R ha hk] at h
  have hlt : i.toNatClampNeg < sh.2 a := Nat.not_le.mp fun q => hi (Or.inr q)
  exact W.aald (v := .ref q) (ty := t) C.1 C.2.1 h ((C.2.2.2.2.2.1.2 _ _ ht).1 (sh.2 a) (fun j => va_rf (rR M a j))) hr (fun q => by cases q) (by show ¬ (i < 0 ∨ (arrV _ _ _).slots.size ≤ _); rw [arrV_size]; exact hi) (by show (arrV _ _ _).slots[_]? = _; rw [arrV_read _ _ hlt, hq]; rfl) rfl rfl d (kk H locs ls hh hl)
theorem k_iast (C : gh_C X cc own nL) {a : Nat} {i x : Int32} (d : decode cc pc = .ok (.iastore, 1)) (ha : sh.1 a = 13) (hi : vp_in i (sh.2 a)) (kk : gh_G X R nL cells slots sh n (pc + 1) lv st (wI M a i.toNatClampNeg x)) : gh_G X R nL cells slots sh n pc lv (.int x :: .int i :: .ref a :: st) M := by
  intro H locs ls hh hl
  have h := hh.1.2.2 a (by rw [ha]; decide)
  have hbA : gx_b X ≤ a := (hh.1.2.1 a (by rw [ha]; decide)).1
  rw [gh_cell_I ha] at h
  refine W.iast C.1 C.2.1 h ((C.2.2.2.2.2.1.2 0 _ rfl).1 (sh.2 a) (fun j => .int (rI M a j))) (fun q => by cases q) (by show ¬ (i < 0 ∨ (arrV _ _ _).slots.size ≤ _); rw [arrV_size]; exact hi) rfl rfl d fun H1 e z oq => ?_
  refine kk H1 _ ls ⟨hh.1.set z oq ?_ gh_wI_cell, hh.2.put z oq hbA⟩ hl
  rw [gh_cell_I ha]
  show H1[a]? = some (arrV (gx_d X 13) (sh.2 a) (fun j => .int (rI (wI M a i.toNatClampNeg x) a j)))
  refine e.trans ?_
  show some ((arrV (gx_d X 13) (sh.2 a) (fun j => .int (rI M a j))).setSlot i.toNatClampNeg (.int x)) = _
  rw [arrV_store]
  refine congrArg (fun z => some (arrV (gx_d X 13) (sh.2 a) z)) (funext fun q => ?_)
  by_cases hq : q = i.toNatClampNeg
  · subst hq
    simp [updV, rI_wI]
  · simp [updV, rI_wI, hq]
theorem k_last (C : gh_C X cc own nL) {a : Nat} {i : Int32} {x : Int64} (d : decode cc pc = .ok (.lastore, 1)) (ha : sh.1 a = 14) (hi : vp_in i (sh.2 a)) (kk : gh_G X R nL cells slots sh n (pc + 1) lv st (wJ M a i.toNatClampNeg x)) : gh_G X R nL cells slots sh n pc lv (.long x :: .int i :: .ref a :: st) M := by
  intro H locs ls hh hl
  have h := hh.1.2.2 a (by rw [ha]; decide)
  have hbA : gx_b X ≤ a := (hh.1.2.1 a (by rw [ha]; decide)).1
  rw [gh_cell_J ha] at h
  refine W.last C.1 C.2.1 h ((C.2.2.2.2.2.1.2 1 _ rfl).1 (sh.2 a) (fun j => .long (rJ M a j))) (fun q => by cases q) (by show ¬ (i < 0 ∨ (arrV _ _ _).slots.size ≤ _); rw [arrV_size]; exact hi) rfl rfl d fun H1 e z oq => ?_
  refine kk H1 _ ls ⟨hh.1.set z oq ?_ gh_wJ_cell, hh.2.put z oq hbA⟩ hl
  rw [gh_cell_J ha]
  show H1[a]? = some (arrV (gx_d X 14) (sh.2 a) (fun j => .long (rJ (wJ M a i.toNatClampNeg x) a j)))
  refine e.trans ?_
  show some ((arrV (gx_d X 14) (sh.2 a) (fun j => .long (rJ M a j))).setSlot i.toNatClampNeg (.long x)) = _
  rw [arrV_store]
  refine congrArg (fun z => some (arrV (gx_d X 14) (sh.2 a) z)) (funext fun q => ?_)
  by_cases hq : q = i.toNatClampNeg
  · subst hq
    simp [updV, rJ_wJ]
  · simp [updV, rJ_wJ, hq]
theorem k_aast (C : gh_C X cc own nL) {a v kd ci : Nat} {i : Int32} {r : vw_C} (d : decode cc pc = .ok (.aastore, 1)) (hk : 15 ≤ kd) (hk2 : kd ≠ 99) (ht : (gh_tys (gx_d X))[kd - 13]? = some (gx_d X kd, .object r.1)) (hc : vwCl[ci]? = some r) (hc2 : ci < 13) (ha : sh.1 a = kd) (hv : sh.1 v = ci) (hi : vp_in i (sh.2 a)) (kk : gh_G X R nL cells slots sh n (pc + 1) lv st (wR M a i.toNatClampNeg (some v))) : gh_G X R nL cells slots sh n pc lv (.ref v :: .int i :: .ref a :: st) M := by
  intro H locs ls hh hl
  have h := hh.1.2.2 a (by rw [ha]; exact hk2)
  have hbA : gx_b X ≤ a := (hh.1.2.1 a (by rw [ha]; exact hk2)).1
  rw [gh_cell_R ha hk] at h
  have hlt : i.toNatClampNeg < sh.2 a := Nat.not_le.mp fun q => hi (Or.inr q)
  have h0 : ¬ i < 0 := fun q => hi (Or.inl q)
  have hK := C.2.2.2.2.2.1
  obtain ⟨r', hr', cellV, g1, g2, g3, -⟩ := hh.obj hv hc2 0 _ rfl
  have hcls := (hK.1 ci r hc).2
  obtain ⟨kA, comp, k1, k2, k3, -⟩ := (hK.2 _ _ ht).2
  have hcomp : comp = (gx_D X).1 ci := Option.some.inj (k3.symm.trans hcls.1)
  subst hcomp
  obtain ⟨kC, hkC, -⟩ := hcls.2
  refine W.aast C.1 C.2.1 h (fun q h => by cases h) (fun h => by cases h) k1 k2 rfl hkC ⟨h0, by show _ < (arrV _ _ _).slots.size; rw [arrV_size]; exact hlt⟩ g1 (fun q h => by rw [g3] at h; cases h) (by rw [g2]; exact hkC) (by rw [g2]; exact va_assign hcls) rfl rfl d fun H1 e z oq => ?_
  refine kk H1 _ ls ⟨hh.1.set z oq ?_ gh_wR_cell, hh.2.put z oq hbA⟩ hl
  rw [gh_cell_R ha hk]
  show H1[a]? = some (arrV (gx_d X kd) (sh.2 a) (fun j => va_rf (rR (wR M a i.toNatClampNeg (some v)) a j)))
  refine e.trans ?_
  show some ((arrV (gx_d X kd) (sh.2 a) (fun j => va_rf (rR M a j))).setSlot i.toNatClampNeg (.ref v)) = _
  rw [arrV_store]
  refine congrArg (fun z => some (arrV (gx_d X kd) (sh.2 a) z)) (funext fun q => ?_)
  by_cases hq : q = i.toNatClampNeg
  · subst hq
    simp [updV, rR_wR, va_rf]
  · simp [updV, rR_wR, hq]
/-! returns -/
theorem k_iret {post : Int32 → gh_M → Prop} (C : gh_CR X cc own nL (some .int) sh n cells slots (gh_pi post)) {v : Int32} (d : decode cc pc = .ok (.ireturn, 1)) (h : post v M) : gh_G X R nL cells slots sh n pc lv [.int v] M := by
  intro H locs ls hh hl
  unfold gh_W
  rw [C.2.2.2.1]
  exact W.iret C.1.1 C.1.2.1 C.2.1 (fun t ht hW => ⟨⟨_, M, rfl, ⟨v, rfl, h⟩, by rw [ht]; exact hh.1⟩, va_S.F (H := H) (locs := locs) (by rw [← C.2.2.2.2]; exact hh.2) ht⟩) hh.2.2.2 d C.2.2.1
theorem k_zret {post : Int32 → gh_M → Prop} (C : gh_CR X cc own nL (some .boolean) sh n cells slots (gh_pi post)) {v : Int32} (d : decode cc pc = .ok (.ireturn, 1)) (hb : v = 0 ∨ v = 1) (h : post v M) : gh_G X R nL cells slots sh n pc lv [.int v] M := by
  intro H locs ls hh hl
  unfold gh_W
  rw [C.2.2.2.1]
  exact W.zret C.1.1 C.1.2.1 C.2.1 (by rcases hb with rfl | rfl <;> rfl) (fun t ht hW => ⟨⟨_, M, rfl, ⟨v, rfl, h⟩, by rw [ht]; exact hh.1⟩, va_S.F (H := H) (locs := locs) (by rw [← C.2.2.2.2]; exact hh.2) ht⟩) hh.2.2.2 d C.2.2.1
theorem k_lret {post : Int64 → gh_M → Prop} (C : gh_CR X cc own nL (some .long) sh n cells slots (gh_pl post)) {v : Int64} (d : decode cc pc = .ok (.lreturn, 1)) (h : post v M) : gh_G X R nL cells slots sh n pc lv [.long v] M := by
  intro H locs ls hh hl
  unfold gh_W
  rw [C.2.2.2.1]
  exact W.lret C.1.1 C.1.2.1 C.2.1 (fun t ht hW => ⟨⟨_, M, rfl, ⟨v, rfl, h⟩, by rw [ht]; exact hh.1⟩, va_S.F (H := H) (locs := locs) (by rw [← C.2.2.2.2]; exact hh.2) ht⟩) hh.2.2.2 d C.2.2.1
theorem k_vret {post : gh_M → Prop} (C : gh_CR X cc own nL none sh n cells slots (gh_pv post)) (d : decode cc pc = .ok (.return_, 1)) (h : post M) : gh_G X R nL cells slots sh n pc lv [] M := by
  intro H locs ls hh hl
  unfold gh_W
  rw [C.2.2.2.1]
  exact W.vret C.1.1 C.1.2.1 C.2.1 (fun t ht hW => ⟨⟨_, M, rfl, ⟨rfl, h⟩, by rw [ht]; exact hh.1⟩, va_S.F (H := H) (locs := locs) (by rw [← C.2.2.2.2]; exact hh.2) ht⟩) hh.2.2.2 d C.2.2.1
theorem k_nret {post : Nat → gh_M → Prop} {nm : String} (C : gh_CR X cc own nL (some (.object nm)) sh n cells slots (gh_pn post)) {a : Nat} (d : decode cc pc = .ok (.areturn, 1)) (h : post a M) : gh_G X R nL cells slots sh n pc lv [.ref a] M := by
  intro H locs ls hh hl
  unfold gh_W
  rw [C.2.2.2.1]
  exact W.aret C.1.1 C.1.2.1 C.2.1 (Or.inl ⟨_, rfl⟩) (Or.inr ⟨_, rfl⟩) (fun t ht hW => ⟨⟨_, M, rfl, ⟨a, rfl, h⟩, by rw [ht]; exact hh.1⟩, va_S.F (H := H) (locs := locs) (by rw [← C.2.2.2.2]; exact hh.2) ht⟩) hh.2.2.2 d C.2.2.1
theorem k_qret {post : Option Nat → gh_M → Prop} {nm : String} (C : gh_CR X cc own nL (some (.object nm)) sh n cells slots (gh_pq post)) {r : Option Nat} (d : decode cc pc = .ok (.areturn, 1)) (h : post r M) : gh_G X R nL cells slots sh n pc lv [va_rf r] M := by
  intro H locs ls hh hl
  unfold gh_W
  rw [C.2.2.2.1]
  exact W.aret C.1.1 C.1.2.1 C.2.1 (Or.inl ⟨_, rfl⟩) (by cases r with | none => exact Or.inl rfl | some x => exact Or.inr ⟨_, rfl⟩) (fun t ht hW => ⟨⟨_, M, rfl, ⟨r, rfl, h⟩, by rw [ht]; exact hh.1⟩, va_S.F (H := H) (locs := locs) (by rw [← C.2.2.2.2]; exact hh.2) ht⟩) hh.2.2.2 d C.2.2.1
end GHH
