/-! new int[3][100] -/
theorem vr_outer (c : ClassId) (N h0 : Nat) : ∀ i : Nat, Jvm.Free.Multi.outerC c N h0 i = arrV c N (fun j => va_rf (if j < i then some (h0 + 1 + j) else none))
  | 0 => by
    show ({ cls := c, slots := Array.replicate N .null, vm := .none } : Cell) = _
    rw [arrV_new]
    refine congrArg (arrV c N) (funext fun j => ?_)
    simp [va_rf]
  | i + 1 => by
    show (Jvm.Free.Multi.outerC c N h0 i).setSlot i (.ref (h0 + 1 + i)) = _
    rw [vr_outer c N h0 i, arrV_store]
    refine congrArg (arrV c N) (funext fun j => ?_)
    by_cases e : j = i
    · subst e
      simp [updV, va_rf]
    · by_cases h : j < i
      · simp [updV, e, h, Nat.lt_succ_of_lt h]
      · simp [updV, e, h, show ¬ j < i + 1 by omega]
def sh4 (sh : gh_Sh) (z : Nat) : gh_Sh := shU (shU (shU (shU sh z 18 3) (z + 1) 13 100) (z + 2) 13 100) (z + 3) 13 100
def zM4 (M : gh_M) (z : Nat) : gh_M := wR (wR (wR (zM (zM (zM (zM M z) (z + 1)) (z + 2)) (z + 3)) z 0 (some (z + 1))) z 1 (some (z + 2))) z 2 (some (z + 3))
theorem gh_cell_sh {dA : Nat → ClassId} {sh sh' : gh_Sh} {M M' : gh_M} {b : Nat} (h1 : sh'.1 b = sh.1 b) (h2 : sh'.2 b = sh.2 b) (h3 : ∀ j, rI M' b j = rI M b j) (h4 : ∀ j, rJ M' b j = rJ M b j) (h5 : ∀ j, rR M' b j = rR M b j) : gh_cell dA sh' M' b = gh_cell dA sh M b := by
  have e : gh_cell dA sh' M' b = gh_cell dA sh M' b := by
    unfold gh_cell
    rw [h1, h2]
  rw [e]
  exact gh_cell_congr h3 h4 h5
theorem k_mna {X : gh_X} {cc : ByteArray} {own : String} {nL : Nat} {R : Room} {cells slots : Nat} {sh : gh_Sh} {n pc : Nat} {lv : List (Nat × Value)} {st : List Value} {M : gh_M} (C : gh_C X cc own nL) {idx : Nat} (h1 : Cond.classLink own idx "[[I" ∈ gh_T) (h2 : Cond.arrayOver (.array .int) ∈ gh_N) (h3 : Cond.arrayClass .int ∈ gh_T) (d : decode cc pc = .ok (.multianewarray idx 2, 4)) (hc : cells + 4 ≤ R.cells) (hs : slots + 303 ≤ R.slots)
    (kk : gh_G X R nL (cells + 4) (slots + 303) (sh4 sh (gx_b X + n)) (n + 4) (pc + 4) lv (.ref (gx_b X + n) :: st) (zM4 M (gx_b X + n))) : gh_G X R nL cells slots sh n pc lv (.int 100 :: .int 3 :: st) M := by
  intro H locs ls hh hl T hT Xs
  have hts := C.2.2.2.2.1
  have hsz := hh.1.1
  obtain ⟨vm₁, cA, comp, -, fA, fC, hO, -, X', step⟩ := Xs.multianewarray2F (ty := .int) C.1 C.2.2.2.1 (hts _ h1) (show (Cond.arrayOver (.array .int)).before (gx_a X) (gx_s X) = true from C.2.2.2.2.2.2.1 _ h2) (hts _ h3) (g := F0 (gx_m X) pc ls (.int 100 :: .int 3 :: st)) rfl (by rw [C.2.1]; exact d) rfl (by decide) (by decide) (by decide) (by decide) (by decide) rfl rfl hc hs
  have hcA : cA = gx_d X 18 := Option.some.inj (fA.symm.trans (C.2.2.2.2.2.1.2 5 _ rfl).2)
  have hcI : comp = gx_d X 13 := Option.some.inj (fC.symm.trans (C.2.2.2.2.2.1.2 0 _ rfl).2)
  subst hcA
  subst hcI
  have hn3 : (3 : Int32).toNatClampNeg = 3 := by decide
  have hk100 : (100 : Int32).toNatClampNeg = 100 := by decide
  rw [hn3, hk100] at X' step
  generalize hF : Jvm.Free.Multi.fill (T.setVm vm₁) (gx_d X 18) (gx_d X 13) 3 100 (defaultValue .int) 3 = F at X' step
  have hTh : (T.setVm vm₁).heap = H := hT
  obtain ⟨f1, f2, -, -⟩ := Jvm.Free.Multi.fill_facts (T.setVm vm₁) (gx_d X 18) (gx_d X 13) 3 100 (defaultValue .int) 3
  rw [hF, hTh] at f1 f2
  have hold : ∀ x : Nat, x < H.size → F.heap[x]? = H[x]? := fun x hx => by
    have := Jvm.Free.Multi.fill_old (T.setVm vm₁) (gx_d X 18) (gx_d X 13) 3 100 (defaultValue .int) (a := x) (by rw [hTh]; exact hx) 3
    rw [hF, hTh] at this
    exact this
  have hrow : ∀ j : Nat, j < 3 → F.heap[H.size + 1 + j]? = some (arrV (gx_d X 13) 100 (fun _ => .int 0)) := fun j hj => by
    have := Jvm.Free.Multi.fill_inner (T.setVm vm₁) (gx_d X 18) (gx_d X 13) 3 100 (defaultValue .int) 3 j hj
    rw [hF, hTh] at this
    refine this.trans ?_
    show some ({ cls := gx_d X 13, slots := Array.replicate 100 (.int 0), vm := .none } : Cell) = _
    rw [arrV_new]
  rw [vr_outer] at f2
  rw [hsz] at f1 f2 hold hrow
  have hP : gh_P (gx_D X) (gx_d X) (sh4 sh (gx_b X + n)) (gx_b X) (n + 4) (zM4 M (gx_b X + n)) F.heap := by
    generalize hz : gx_b X + n = z at f1 f2 hold hrow
    have hk1 : ∀ b, (sh4 sh z).1 b = if b = z + 3 then 13 else if b = z + 2 then 13 else if b = z + 1 then 13 else if b = z then 18 else sh.1 b := fun b => rfl
    have hk2 : ∀ b, (sh4 sh z).2 b = if b = z + 3 then 100 else if b = z + 2 then 100 else if b = z + 1 then 100 else if b = z then 3 else sh.2 b := fun b => rfl
    refine ⟨by rw [f1]; omega, fun a ha => ?_, fun a ha => ?_⟩
    · rw [hk1] at ha
      by_cases e3 : a = z + 3
      · omega
      · by_cases e2 : a = z + 2
        · omega
        · by_cases e1 : a = z + 1
          · omega
          · by_cases e0 : a = z
            · omega
            · rw [if_neg e3, if_neg e2, if_neg e1, if_neg e0] at ha
              have := hh.1.2.1 a ha
              omega
    · by_cases hlt : z < a
      · by_cases hgt : a ≤ z + 3
        · have e13 : (sh4 sh z).1 a = 13 := by rw [hk1]; (repeat' split) <;> omega
          have e100 : (sh4 sh z).2 a = 100 := by rw [hk2]; (repeat' split) <;> omega
          rw [gh_cell_I e13, e100]
          show F.heap[a]? = some (arrV (gx_d X 13) 100 (fun j => .int (rI (zM4 M z) a j)))
          have h9 := hrow (a - z - 1) (by omega)
          rw [show z + 1 + (a - z - 1) = a by omega] at h9
          refine h9.trans ?_
          refine congrArg (fun y => some (arrV (gx_d X 13) 100 y)) (funext fun j => ?_)
          have hi : rI (zM4 M z) a j = if a = z + 3 then 0 else if a = z + 2 then 0 else if a = z + 1 then 0 else if a = z then 0 else rI M a j := rfl
          have hi0 : rI (zM4 M z) a j = 0 := by rw [hi]; (repeat' split) <;> first | rfl | omega
          rw [hi0]
        · exfalso
          rw [hk1, if_neg (by omega), if_neg (by omega), if_neg (by omega), if_neg (by omega)] at ha
          have := hh.1.2.1 a ha
          omega
      · by_cases e0 : a = z
        · subst e0
          have e18 : (sh4 sh a).1 a = 18 := by rw [hk1, if_neg (by omega), if_neg (by omega), if_neg (by omega), if_pos rfl]
          have e3 : (sh4 sh a).2 a = 3 := by rw [hk2, if_neg (by omega), if_neg (by omega), if_neg (by omega), if_pos rfl]
          rw [gh_cell_R e18 (by decide), e3]
          show F.heap[a]? = some (arrV (gx_d X 18) 3 (fun j => va_rf (rR (zM4 M a) a j)))
          refine f2.trans ?_
          refine congrArg (fun y => some (arrV (gx_d X 18) 3 y)) (funext fun j => congrArg va_rf ?_)
          have hr : rR (zM4 M a) a j = if j = 2 then some (a + 3) else if j = 1 then some (a + 2) else if j = 0 then some (a + 1) else none := by
            simp only [zM4, rR_wR, rR_zM, true_and, if_true]
            simp
          rw [hr]
          by_cases j0 : j = 0
          · subst j0; simp
          · by_cases j1 : j = 1
            · subst j1; simp
            · by_cases j2 : j = 2
              · subst j2; simp
              · rw [if_neg (by omega), if_neg j2, if_neg j1, if_neg j0]
        · have hs1 : (sh4 sh z).1 a = sh.1 a := by rw [hk1, if_neg (by omega), if_neg (by omega), if_neg (by omega), if_neg e0]
          have hs2 : (sh4 sh z).2 a = sh.2 a := by rw [hk2, if_neg (by omega), if_neg (by omega), if_neg (by omega), if_neg e0]
          have n1 : ¬ a = z + 1 := by omega
          have n2 : ¬ a = z + 2 := by omega
          have n3 : ¬ a = z + 3 := by omega
          rw [gh_cell_sh (sh := sh) (M := M) hs1 hs2 (fun j => by simp [zM4, rI_wR, rI_zM, n1, n2, n3, e0]) (fun j => by simp [zM4, rJ_wR, rJ_zM, n1, n2, n3, e0]) (fun j => by simp [zM4, rR_wR, rR_zM, n1, n2, n3, e0])]
          rw [hs1] at ha
          exact (hh.1.2.2 a ha).kept (hold a (by omega))
  obtain ⟨t, a1, b1⟩ := kk F.heap locs ls ⟨hP, gh_S_new hh.2 (by rw [f1, hsz]; omega) (fun q hq => hold q (by rw [← hsz]; exact hq))⟩ hl F rfl X'
  refine ⟨t, step t ?_, b1⟩
  have e : T.heap.size = gx_b X + n := by rw [hT]; exact hsz
  rw [e]
  exact a1
