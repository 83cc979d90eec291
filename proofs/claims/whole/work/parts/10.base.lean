/-! GlossHouse, the base: words, the typed memory, the judgement gh_G over it -/
def gh_T : List Cond := lw_tbl.filter goodWord
def gh_isN : Cond → Bool
  | .methodLinkNest _ _ _ _ => true
  | .arrayOver _ => true
  | _ => false
def gh_N : List Cond := tables_1.filter gh_isN
theorem gh_in {w : Cond} (i : Nat) (h : lw_tbl[i]? = some w) (g : goodWord w = true) : w ∈ gh_T := List.mem_filter.mpr ⟨List.mem_of_getElem? h, g⟩
theorem gh_inN {w : Cond} (i : Nat) (h : tables_1[i]? = some w) (g : gh_isN w = true) : w ∈ gh_N := List.mem_filter.mpr ⟨List.mem_of_getElem? h, g⟩
def gh_ws (y : MethodName) (cc : ByteArray) (n : Nat) (ret : Option FieldType) : List Cond := .code y cc n ret :: gh_T
theorem gh_goodT {b : Cond} (h : b ∈ gh_T) : GoodIn gh_T (b :: gh_T) := fun w hw => by
  rcases List.mem_cons.mp hw with rfl | hw
  · exact ⟨h, good_of_word (List.mem_filter.mp h).2⟩
  · exact ⟨hw, good_of_word (List.mem_filter.mp hw).2⟩
theorem gh_N_warm {s U : State} (hW : s.WarmedH U.vm) (h : ∀ w ∈ gh_N, va_Nw w s) : ∀ w ∈ gh_N, va_Nw w U := fun w hw => by
  have hn := (List.mem_filter.mp hw).2
  have h0 := h w hw
  cases w <;> simp [gh_isN] at hn
  · exact va_Nw.warmM hW h0
  · rename_i ty
    have e : (Cond.arrayOver ty).before #[] U = (Cond.arrayOver ty).before #[] (s.setVm U.vm) := rfl
    exact e.trans ((Cond.arrayOver_setVmC (args := #[]) hW.alike ty).trans h0)
/-- the shape: the kind of each cell (0 .. 12 the classes of vwCl, 13 int[], 14 long[], 15 Entry[], 16 Piece[], 17 Text[], 18 int[][]; 99 none), an array's length -/
abbrev gh_Sh : Type := (Nat → Nat) × (Nat → Nat)
/-- what the cells hold: ints, longs, references -/
abbrev gh_M : Type := (Nat → Nat → Int32) × (Nat → Nat → Int64) × (Nat → Nat → Option Nat)
def rI (M : gh_M) (a k : Nat) : Int32 := M.1 a k
def rJ (M : gh_M) (a k : Nat) : Int64 := M.2.1 a k
def rR (M : gh_M) (a k : Nat) : Option Nat := M.2.2 a k
def wI (M : gh_M) (a k : Nat) (v : Int32) : gh_M := (fun b j => if b = a ∧ j = k then v else M.1 b j, M.2)
def wJ (M : gh_M) (a k : Nat) (v : Int64) : gh_M := (M.1, fun b j => if b = a ∧ j = k then v else M.2.1 b j, M.2.2)
def wR (M : gh_M) (a k : Nat) (v : Option Nat) : gh_M := (M.1, M.2.1, fun b j => if b = a ∧ j = k then v else M.2.2 b j)
/-- the fields' sorts: 0 int, 1 long, 2 reference -/
def gh_ty : Nat → List Nat
  | 0 => [2, 0]
  | 1 => [2, 2, 0]
  | 2 => [2, 2, 2, 0]
  | 3 => [2, 2, 1]
  | 4 => [2, 0]
  | 5 => [2, 2, 0, 0, 0]
  | 6 => [2, 2, 2, 2, 0, 1]
  | 7 => [2, 0]
  | 8 => [2]
  | 9 => [2, 0]
  | 10 => [2, 0, 0]
  | 11 => [2, 2, 2, 2, 2, 2, 2, 2, 2, 2, 2, 0, 0]
  | 12 => [0, 2, 0, 2, 2, 2, 2, 2, 0, 2, 2, 2, 2, 2, 2, 2, 0, 2, 2, 2, 0, 2, 2, 2, 0, 0, 2, 0, 2, 2, 2, 2, 2, 2, 2, 2, 2, 2, 2, 2, 2, 0, 0, 2, 2, 2, 2, 2, 0, 0, 0]
  | _ => []
def gh_val (M : gh_M) (a k t : Nat) : Value := if t = 0 then .int (rI M a k) else if t = 1 then .long (rJ M a k) else va_rf (rR M a k)
def gh_fs (M : gh_M) (a ci : Nat) : List Value := (gh_ty ci).mapIdx (gh_val M a)
def gh_cell (dA : Nat → ClassId) (sh : gh_Sh) (M : gh_M) (a : Nat) : va_E :=
  if sh.1 a < 13 then .inr (sh.1 a, gh_fs M a (sh.1 a))
  else .inl (dA (sh.1 a), sh.2 a, if sh.1 a = 13 then .inl (rI M a) else if sh.1 a = 14 then .inr (.inl (rJ M a)) else .inr (.inr (.inr (.inr (rR M a)))))
def gh_P (D : va_G) (dA : Nat → ClassId) (sh : gh_Sh) (b0 n : Nat) (M : gh_M) (H : Heap) : Prop :=
  H.size = b0 + n ∧ (∀ a, sh.1 a ≠ 99 → b0 ≤ a ∧ a < b0 + n) ∧ ∀ a, sh.1 a ≠ 99 → va_at D vwCl (a, gh_cell dA sh M a) H
theorem gh_fs_at (M : gh_M) (a ci k : Nat) : (gh_fs M a ci)[k]? = ((gh_ty ci)[k]?).map (gh_val M a k) := by
  unfold gh_fs
  rw [List.getElem?_mapIdx]
theorem rI_wI (M : gh_M) (a k : Nat) (v : Int32) (b j : Nat) : rI (wI M a k v) b j = if b = a ∧ j = k then v else rI M b j := rfl
theorem rJ_wJ (M : gh_M) (a k : Nat) (v : Int64) (b j : Nat) : rJ (wJ M a k v) b j = if b = a ∧ j = k then v else rJ M b j := rfl
theorem rR_wR (M : gh_M) (a k : Nat) (v : Option Nat) (b j : Nat) : rR (wR M a k v) b j = if b = a ∧ j = k then v else rR M b j := rfl
theorem rI_wJ (M : gh_M) (a k : Nat) (v : Int64) (b j : Nat) : rI (wJ M a k v) b j = rI M b j := rfl
theorem rI_wR (M : gh_M) (a k : Nat) (v : Option Nat) (b j : Nat) : rI (wR M a k v) b j = rI M b j := rfl
theorem rJ_wI (M : gh_M) (a k : Nat) (v : Int32) (b j : Nat) : rJ (wI M a k v) b j = rJ M b j := rfl
theorem rJ_wR (M : gh_M) (a k : Nat) (v : Option Nat) (b j : Nat) : rJ (wR M a k v) b j = rJ M b j := rfl
theorem rR_wI (M : gh_M) (a k : Nat) (v : Int32) (b j : Nat) : rR (wI M a k v) b j = rR M b j := rfl
theorem rR_wJ (M : gh_M) (a k : Nat) (v : Int64) (b j : Nat) : rR (wJ M a k v) b j = rR M b j := rfl
theorem gh_cell_congr {dA : Nat → ClassId} {sh : gh_Sh} {M M' : gh_M} {b : Nat} (h1 : ∀ j, rI M' b j = rI M b j) (h2 : ∀ j, rJ M' b j = rJ M b j) (h3 : ∀ j, rR M' b j = rR M b j) : gh_cell dA sh M' b = gh_cell dA sh M b := by
  have e1 : rI M' b = rI M b := funext h1
  have e2 : rJ M' b = rJ M b := funext h2
  have e3 : rR M' b = rR M b := funext h3
  have e4 : gh_val M' b = gh_val M b := by funext k t; unfold gh_val; rw [h1, h2, h3]
  unfold gh_cell gh_fs
  rw [e1, e2, e3, e4]
theorem gh_P.set {D : va_G} {dA : Nat → ClassId} {sh : gh_Sh} {b0 n : Nat} {M M' : gh_M} {H H1 : Heap} {a : Nat} (h : gh_P D dA sh b0 n M H) (z : H1.size = H.size) (oq : ∀ q, q ≠ a → H1[q]? = H[q]?)
    (ha : va_at D vwCl (a, gh_cell dA sh M' a) H1) (hM : ∀ b, b ≠ a → gh_cell dA sh M' b = gh_cell dA sh M b) : gh_P D dA sh b0 n M' H1 := by
  refine ⟨by rw [z]; exact h.1, h.2.1, fun b hb => ?_⟩
  by_cases e : b = a
  · subst e; exact ha
  · rw [hM b e]
    exact (h.2.2 b hb).kept (oq b e)
theorem gh_cell_obj {dA : Nat → ClassId} {sh : gh_Sh} {M : gh_M} {a ci : Nat} (h : sh.1 a = ci) (hc : ci < 13) : gh_cell dA sh M a = .inr (ci, gh_fs M a ci) := by
  unfold gh_cell
  rw [h, if_pos hc]
theorem gh_cell_I {dA : Nat → ClassId} {sh : gh_Sh} {M : gh_M} {a : Nat} (h : sh.1 a = 13) : gh_cell dA sh M a = .inl (dA 13, sh.2 a, .inl (rI M a)) := by
  unfold gh_cell
  rw [h]; rfl
theorem gh_cell_J {dA : Nat → ClassId} {sh : gh_Sh} {M : gh_M} {a : Nat} (h : sh.1 a = 14) : gh_cell dA sh M a = .inl (dA 14, sh.2 a, .inr (.inl (rJ M a))) := by
  unfold gh_cell
  rw [h]; rfl
theorem gh_cell_R {dA : Nat → ClassId} {sh : gh_Sh} {M : gh_M} {a k : Nat} (h : sh.1 a = k) (h2 : 15 ≤ k) : gh_cell dA sh M a = .inl (dA k, sh.2 a, .inr (.inr (.inr (.inr (rR M a))))) := by
  unfold gh_cell
  rw [h, if_neg (by omega), if_neg (by omega), if_neg (by omega)]
theorem gh_fs_set {M M' : gh_M} {a ci k t : Nat} {v : Value} (ht : (gh_ty ci)[k]? = some t) (hv : gh_val M' a k t = v) (ho : ∀ j u, j ≠ k → gh_val M' a j u = gh_val M a j u) : (gh_fs M a ci).set k v = gh_fs M' a ci := by
  apply List.ext_getElem?
  intro j
  rw [gh_fs_at]
  by_cases e : j = k
  · subst e
    have hl : j < (gh_fs M a ci).length := by
      unfold gh_fs
      rw [List.length_mapIdx]
      exact (List.getElem?_eq_some_iff.mp ht).1
    rw [List.getElem?_set_self hl, ht]
    simp [hv]
  · rw [List.getElem?_set_ne (Ne.symm e), gh_fs_at]
    cases (gh_ty ci)[j]? with
    | none => rfl
    | some u => simp [ho j u e]
def gh_tys (dA : Nat → ClassId) : List (ClassId × FieldType) := [(dA 13, .int), (dA 14, .long), (dA 15, .object "GlossHouse$Entry"), (dA 16, .object "GlossHouse$Piece"), (dA 17, .object "GlossHouse$Text"), (dA 18, .array .int)]
/-- what stays through a method's walk: p, l, e, s, m, args, below, meth, c, Q, D, dA, b0, H0 -/
abbrev gh_X : Type := Program × Launch × Env × State × MethodId × Array Value × List Frame × Method × Code × (State → Prop) × va_G × (Nat → ClassId) × Nat × Heap
abbrev gx_p (X : gh_X) : Program := X.1
abbrev gx_l (X : gh_X) : Launch := X.2.1
abbrev gx_e (X : gh_X) : Env := X.2.2.1
abbrev gx_s (X : gh_X) : State := X.2.2.2.1
abbrev gx_m (X : gh_X) : MethodId := X.2.2.2.2.1
abbrev gx_a (X : gh_X) : Array Value := X.2.2.2.2.2.1
abbrev gx_w (X : gh_X) : List Frame := X.2.2.2.2.2.2.1
abbrev gx_h (X : gh_X) : Method := X.2.2.2.2.2.2.2.1
abbrev gx_c (X : gh_X) : Code := X.2.2.2.2.2.2.2.2.1
abbrev gx_Q (X : gh_X) : State → Prop := X.2.2.2.2.2.2.2.2.2.1
abbrev gx_D (X : gh_X) : va_G := X.2.2.2.2.2.2.2.2.2.2.1
abbrev gx_d (X : gh_X) : Nat → ClassId := X.2.2.2.2.2.2.2.2.2.2.2.1
abbrev gx_b (X : gh_X) : Nat := X.2.2.2.2.2.2.2.2.2.2.2.2.1
abbrev gx_H (X : gh_X) : Heap := X.2.2.2.2.2.2.2.2.2.2.2.2.2
def gh_C (X : gh_X) (cc : ByteArray) (own : String) (nL : Nat) : Prop := (gx_p X).tables.exec = Jvm.exec ∧ (gx_c X).code = cc ∧ (gx_c X).maxLocals = nL ∧ (gx_s X).vm.findClass own = some (gx_m X).cls ∧
  (∀ w ∈ gh_T, w.before (gx_a X) (gx_s X) = true) ∧ va_K (gx_D X) vwCl (gh_tys (gx_d X)) (gx_s X) ∧ (∀ w ∈ gh_N, va_Nw w (gx_s X)) ∧ gx_b X ≤ (gx_H X).size
def gh_hp (X : gh_X) (sh : gh_Sh) (n : Nat) (M : gh_M) (H : Heap) (locs : List Loc) : Prop := gh_P (gx_D X) (gx_d X) sh (gx_b X) n M H ∧ va_S (fun q => gx_b X ≤ q) (gx_H X) H locs
abbrev gh_W (X : gh_X) (R : Room) (H : Heap) (locs : List Loc) (cells slots : Nat) (g : JFrame) : Prop := W (gx_p X) (gx_l X) (gx_e X) R (gx_s X) (gx_m X) (gx_a X) (gx_w X) (gx_h X) (gx_c X) H locs cells slots (gx_Q X) g
/-- from every heap that holds M, with these locals and this stack -/
def gh_G (X : gh_X) (R : Room) (nL cells slots : Nat) (sh : gh_Sh) (n pc : Nat) (lv : List (Nat × Value)) (st : List Value) (M : gh_M) : Prop :=
  ∀ (H : Heap) (locs : List Loc) (ls : Array Slot), gh_hp X sh n M H locs → lv_has ls nL lv → gh_W X R H locs cells slots (F0 (gx_m X) pc ls st)
def gh_Pc (D : va_G) (dA : Nat → ClassId) (sh : gh_Sh) (b0 n : Nat) (M : gh_M) (av : List Value) : Array Value → State → Prop :=
  va_Pc av (fun U => gh_P D dA sh b0 n M U.heap ∧ va_K D vwCl (gh_tys dA) U ∧ ∀ w ∈ gh_N, va_Nw w U)
def gh_Q (D : va_G) (dA : Nat → ClassId) (sh : gh_Sh) (b0 n : Nat) (post : Option Value → gh_M → Prop) : Array Value → State → Outcome → State → Prop :=
  fun _ st oc t => (∃ (v : Option Value) (M' : gh_M), oc = .returned v ∧ post v M' ∧ gh_P D dA sh b0 n M' t.heap) ∧ va_F (fun q => b0 ≤ q) st t
def gh_pi (post : Int32 → gh_M → Prop) : Option Value → gh_M → Prop := fun v M => ∃ r, v = some (.int r) ∧ post r M
def gh_pl (post : Int64 → gh_M → Prop) : Option Value → gh_M → Prop := fun v M => ∃ r, v = some (.long r) ∧ post r M
def gh_pv (post : gh_M → Prop) : Option Value → gh_M → Prop := fun v M => v = none ∧ post M
def gh_pq (post : Option Nat → gh_M → Prop) : Option Value → gh_M → Prop := fun v M => ∃ r, v = some (va_rf r) ∧ post r M
def gh_pn (post : Nat → gh_M → Prop) : Option Value → gh_M → Prop := fun v M => ∃ r, v = some (.ref r) ∧ post r M
def gh_CR (X : gh_X) (cc : ByteArray) (own : String) (nL : Nat) (rt : Option FieldType) (sh : gh_Sh) (n cells slots : Nat) (post : Option Value → gh_M → Prop) : Prop :=
  gh_C X cc own nL ∧ (gx_h X).sig.returnType = rt ∧ (gx_h X).locks = false ∧ gx_Q X = MQ (gx_w X) (gh_Q (gx_D X) (gx_d X) sh (gx_b X) n post) (gx_a X) (gx_s X) cells slots (fun q => gx_b X ≤ q) ∧ gx_H X = (gx_s X).heap
abbrev gh_Met (l : Launch) (D : va_G) (dA : Nat → ClassId) (sh : gh_Sh) (b0 n : Nat) (y : MethodName) (cc : ByteArray) (nL : Nat) (ret : Option FieldType) (rm : Room) (M : gh_M) (av : List Value) (post : Option Value → gh_M → Prop) : Prop :=
  Met l y (gh_ws y cc nL ret) rm (gh_Pc D dA sh b0 n M av) (gh_Q D dA sh b0 n post) 0 0 (fun q => b0 ≤ q)
theorem gh_open {l : Launch} {D : va_G} {dA : Nat → ClassId} {sh : gh_Sh} {b0 n : Nat} {y : MethodName} {cc : ByteArray} {nL : Nat} {ret : Option FieldType} {rm : Room} {M : gh_M} {av : List Value} {post : Option Value → gh_M → Prop}
    (hy : plainName y.cls = true) (hlen : (lg_sl av).length ≤ nL) (body : ∀ X : gh_X, gh_CR X cc y.cls nL ret sh n 0 0 post → gh_G X rm nL 0 0 sh n 0 (lv_args 0 av) [] M) : gh_Met l D dA sh b0 n y cc nL ret rm M av post := by
  refine Met.ofW (cc := cc) (maxL := nL) (ret := ret) hy rfl ?_
  intro p e s m args below meth c s₁ B hml hv
  obtain ⟨rfl, hP, hK, hN⟩ := hv
  have hts := atoms_spec (ws := gh_ws y cc nL ret) B.pre
  have hown : s.vm.findClass y.cls = some m.cls := findClass_of_methodNamed B.named
  have hl := lv_entry av (n := nL) hlen
  rw [lg_entry_eq]
  refine body (p, l, e, s, m, av.toArray, below, meth, c, _, D, dA, b0, s.heap) ⟨⟨B.exec, B.bytes, hml, hown, fun w hw => hts w (List.mem_cons_of_mem _ hw), hK, hN, ?_⟩, B.returns, B.notSynchronized, rfl, rfl⟩ s.heap [] _ ⟨hP, va_S.rf⟩ hl
  show b0 ≤ s.heap.size
  rw [hP.1]; omega
