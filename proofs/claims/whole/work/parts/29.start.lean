/-! whole_start out of the pure part -/
def gh_sh0 : gh_Sh := (fun _ => 99, fun _ => 0)
def gh_M0 : gh_M := (fun _ _ => 0, fun _ _ => 0, fun _ _ => none)
theorem st_int {s : State} {args : Array Value} {ty : FieldType} (hr : ty = .int ∨ ty = .long) (h : (Cond.arrayClass ty).before args s = true) : ∃ cA : ClassId, ArrOfT s cA ty ∧ va_RA s cA ty := by
  obtain ⟨cA, kA, comp, hf, hk, hkind⟩ := Cond.arrayClass_spec h
  refine ⟨cA, fun N z => ⟨(fun k h => by cases h), kA, hk, comp, hkind⟩, ?_⟩
  rcases hr with rfl | rfl <;> exact hf
theorem st_obj {s : State} {C : String} (h : va_Nw (Cond.arrayOver (.object C)) s) : ∃ cA : ClassId, ArrOfT s cA (.object C) ∧ va_RA s cA (.object C) := by
  obtain ⟨comp, c, k, h1, h2, h3, h4, h5⟩ := Cond.arrayOver_spec h
  exact ⟨c, fun N z => ⟨(fun k h => by cases h), k, h3, comp, h4⟩, k, comp, h3, h4, h1, h5⟩
theorem st_arr {s : State} (h : va_Nw (Cond.arrayOver (.array .int)) s) : ∃ cA : ClassId, ArrOfT s cA (.array .int) ∧ va_RA s cA (.array .int) := by
  obtain ⟨comp, cA, kA, h1, h2, h3, h4⟩ := Cond.arrayOver_specA h
  exact ⟨cA, fun N z => ⟨(fun k h => by cases h), kA, h2, comp, h3⟩, h4⟩
set_option maxRecDepth 100000 in
theorem st_cls {s : State} {args : Array Value} (hT : ∀ w ∈ gh_T, w.before args s = true) : ∀ k : Nat, ∃ (c : ClassId) (iS : Nat → Nat), ∀ q : vw_C, vwCl[k]? = some q → u_Kn s q.1 q.2.1 q.2.2 c iS
  | 0 => by
    obtain ⟨c, iS, h⟩ := u_known (C := RX0) (T := TX0) (N := 2) (n := 2) hT i_X0 (hT _ (gh_in 194 (w := Cond.instantiable RX0 2) (by decide +kernel) rfl))
    exact ⟨c, iS, fun q hq => by cases hq; exact h⟩
  | 1 => by
    obtain ⟨c, iS, h⟩ := u_known (C := RX1) (T := TX1) (N := 3) (n := 3) hT i_X1 (hT _ (gh_in 169 (w := Cond.instantiable RX1 3) (by decide +kernel) rfl))
    exact ⟨c, iS, fun q hq => by cases hq; exact h⟩
  | 2 => by
    obtain ⟨c, iS, h⟩ := u_known (C := RX2) (T := TX2) (N := 4) (n := 4) hT i_X2 (hT _ (gh_in 128 (w := Cond.instantiable RX2 4) (by decide +kernel) rfl))
    exact ⟨c, iS, fun q hq => by cases hq; exact h⟩
  | 3 => by
    obtain ⟨c, iS, h⟩ := u_known (C := RX3) (T := TX3) (N := 3) (n := 3) hT i_X3 (hT _ (gh_in 83 (w := Cond.instantiable RX3 3) (by decide +kernel) rfl))
    exact ⟨c, iS, fun q hq => by cases hq; exact h⟩
  | 4 => by
    obtain ⟨c, iS, h⟩ := u_known (C := RX4) (T := TX4) (N := 2) (n := 2) hT i_X4 (hT _ (gh_in 162 (w := Cond.instantiable RX4 2) (by decide +kernel) rfl))
    exact ⟨c, iS, fun q hq => by cases hq; exact h⟩
  | 5 => by
    obtain ⟨c, iS, h⟩ := u_known (C := RX5) (T := TX5) (N := 5) (n := 5) hT i_X5 (hT _ (gh_in 201 (w := Cond.instantiable RX5 5) (by decide +kernel) rfl))
    exact ⟨c, iS, fun q hq => by cases hq; exact h⟩
  | 6 => by
    obtain ⟨c, iS, h⟩ := u_known (C := RX6) (T := TX6) (N := 6) (n := 6) hT i_X6 (hT _ (gh_in 100 (w := Cond.instantiable RX6 6) (by decide +kernel) rfl))
    exact ⟨c, iS, fun q hq => by cases hq; exact h⟩
  | 7 => by
    obtain ⟨c, iS, h⟩ := u_known (C := RX7) (T := TX7) (N := 2) (n := 2) hT i_X7 (hT _ (gh_in 59 (w := Cond.instantiable RX7 2) (by decide +kernel) rfl))
    exact ⟨c, iS, fun q hq => by cases hq; exact h⟩
  | 8 => by
    obtain ⟨c, iS, h⟩ := u_known (C := RX8) (T := TX8) (N := 1) (n := 1) hT i_X8 (hT _ (gh_in 73 (w := Cond.instantiable RX8 1) (by decide +kernel) rfl))
    exact ⟨c, iS, fun q hq => by cases hq; exact h⟩
  | 9 => by
    obtain ⟨c, iS, h⟩ := u_known (C := RX9) (T := TX9) (N := 2) (n := 2) hT i_X9 (hT _ (gh_in 147 (w := Cond.instantiable RX9 2) (by decide +kernel) rfl))
    exact ⟨c, iS, fun q hq => by cases hq; exact h⟩
  | 10 => by
    obtain ⟨c, iS, h⟩ := u_known (C := RX10) (T := TX10) (N := 3) (n := 3) hT i_X10 (hT _ (gh_in 210 (w := Cond.instantiable RX10 3) (by decide +kernel) rfl))
    exact ⟨c, iS, fun q hq => by cases hq; exact h⟩
  | 11 => by
    obtain ⟨c, iS, h⟩ := u_known (C := RX11) (T := TX11) (N := 13) (n := 13) hT i_X11 (hT _ (gh_in 51 (w := Cond.instantiable RX11 13) (by decide +kernel) rfl))
    exact ⟨c, iS, fun q hq => by cases hq; exact h⟩
  | 12 => by
    obtain ⟨c, iS, h⟩ := u_known (C := RX12) (T := TX12) (N := 51) (n := 51) hT i_X12 (hT _ (gh_in 819 (w := Cond.instantiable RX12 51) (by decide +kernel) rfl))
    exact ⟨c, iS, fun q hq => by cases hq; exact h⟩
  | k + 13 => ⟨0, fun _ => 0, fun q hq => by simp [vwCl] at hq⟩
set_option maxRecDepth 100000 in
set_option maxHeartbeats 4000000 in
theorem st_start (pure : ∀ (b L : Nat) (xs : Nat → Int32), L ≤ 2048 → wp_L_law b L xs gh_sh0 gh_M0) {p : Program} {e : Env} {s : State} {m : MethodId} {below : List Frame} {meth : Method} {c : Code} (l : Launch) {b L : Nat} {xs : Nat → Int32} (hL : L ≤ 2048) (C0 : lw_At p s m meth c b L xs) : W p l e room_1 s m #[Value.ref b] below meth c s.heap [] 0 0 (lw_Z below #[Value.ref b] s) (entryFrame m ([Value.ref b] : List Value).toArray 4) := by
  obtain ⟨hx, hb, hr, hml, hown, hts, hX, hbl, hlocks, hgv⟩ := id C0
  have hT : ∀ w ∈ gh_T, w.before #[Value.ref b] s = true := fun w h => hts w (List.mem_filter.mp h).1
  have hN : ∀ w ∈ gh_N, va_Nw w s := fun w hw => by
    have hm : w ∈ lw_tbl := List.mem_append_right _ (List.mem_filter.mp hw).1
    have hn := (List.mem_filter.mp hw).2
    have h0 := hts w hm
    cases w <;> simp [gh_isN] at hn
    · exact va_Nw.of rfl h0
    · exact h0
  have hc := st_cls hT
  obtain ⟨aI, hI1, hI2⟩ := st_int (Or.inl rfl) (hT _ w_arrI)
  obtain ⟨aJ, hJ1, hJ2⟩ := st_int (Or.inr rfl) (hT _ w_arrJ)
  obtain ⟨aE, hE1, hE2⟩ := st_obj (hN (Cond.arrayOver (.object "GlossHouse$Entry")) (gh_inN 134 (by decide +kernel) rfl))
  obtain ⟨aP, hP1, hP2⟩ := st_obj (hN (Cond.arrayOver (.object "GlossHouse$Piece")) (gh_inN 166 (by decide +kernel) rfl))
  obtain ⟨aT, hT1, hT2⟩ := st_obj (hN (Cond.arrayOver (.object "GlossHouse$Text")) (gh_inN 175 (by decide +kernel) rfl))
  obtain ⟨aA, hA1, hA2⟩ := st_arr (hN (Cond.arrayOver (.array .int)) (gh_inN 119 (by decide +kernel) rfl))
  have hK : va_K (fun k => Classical.choose (hc k), fun k => Classical.choose (Classical.choose_spec (hc k))) vwCl (gh_tys (fun k => if k = 13 then aI else if k = 14 then aJ else if k = 15 then aE else if k = 16 then aP else if k = 17 then aT else aA)) s := by
    refine ⟨fun k q hq => Classical.choose_spec (Classical.choose_spec (hc k)) q hq, fun k q hq => ?_⟩
    match k, hq with
    | 0, hq => cases hq; exact ⟨hI1, hI2⟩
    | 1, hq => cases hq; exact ⟨hJ1, hJ2⟩
    | 2, hq => cases hq; exact ⟨hE1, hE2⟩
    | 3, hq => cases hq; exact ⟨hP1, hP2⟩
    | 4, hq => cases hq; exact ⟨hT1, hT2⟩
    | 5, hq => cases hq; exact ⟨hA1, hA2⟩
    | k + 6, hq => simp [gh_tys] at hq
  have hl := lv_entry ([.ref b]) (n := 4) (Nat.le_of_ble_eq_true rfl)
  rw [lg_entry_eq]
  refine c_L_law (X := (p, l, e, s, m, #[Value.ref b], below, meth, c, lw_Z below #[Value.ref b] s, _, _, s.heap.size, s.heap)) (x0 := b) (L := L) (xs := xs) (sh := gh_sh0) (M := gh_M0) ⟨⟨hx, hb, hml, hown, hT, hK, hN, Nat.le_refl _⟩, hr, hlocks, rfl, rfl, rfl, rfl, hX, hbl⟩ (pure _ L xs hL) s.heap [] _ ⟨⟨rfl, fun a h => absurd rfl h, fun a h => absurd rfl h⟩, va_S.rf⟩ hl
