/-! FAR of two rows -/
def lev (f g : Nat → Int32) : Nat → Nat → Nat
  | 0, j => j
  | i + 1, 0 => i + 1
  | i + 1, j + 1 => min (lev f g i j + if f i = g j then 0 else 1) (min (lev f g i (j + 1)) (lev f g (i + 1) j) + 1)
theorem lev_le (f g : Nat → Int32) : ∀ i j, lev f g i j ≤ i + j
  | 0, j => by unfold lev; omega
  | i + 1, 0 => by unfold lev; omega
  | i + 1, j + 1 => by
    have h := lev_le f g (i + 1) j
    unfold lev
    omega
theorem lev_i0 (f g : Nat → Int32) (i : Nat) : lev f g i 0 = i := by cases i <;> (unfold lev; rfl)
theorem lev_0 (f g : Nat → Int32) (j : Nat) : lev f g 0 j = j := by unfold lev; rfl
theorem lev_ss (f g : Nat → Int32) (i j : Nat) : lev f g (i + 1) (j + 1) = min (lev f g i j + if f i = g j then 0 else 1) (min (lev f g i (j + 1)) (lev f g (i + 1) j) + 1) := by
  conv => lhs; unfold lev
def dist (a b : List Int32) : Nat := lev (fun i => a.getD i 0) (fun i => b.getD i 0) a.length b.length
theorem dist_le (a b : List Int32) : dist a b ≤ a.length + b.length := lev_le _ _ _ _
theorem lev_bound (f g : Nat → Int32) : ∀ i j, lev f g i j ≤ max i j
  | 0, j => by unfold lev; omega
  | i + 1, 0 => by unfold lev; omega
  | i + 1, j + 1 => by
    have h := lev_bound f g i j
    unfold lev
    split <;> omega
theorem dist_max (a b : List Int32) : dist a b ≤ max a.length b.length := lev_bound _ _ _ _
theorem p_min {a b : Nat} (ha : a < 2147483648) (hb : b < 2147483648) : (if nI b < nI a then nI b else nI a) = nI (min a b) := by
  by_cases h : b < a
  · rw [if_pos ((p_ltI hb ha).mpr h), Nat.min_eq_right (by omega)]
  · rw [if_neg (fun q => h ((p_ltI hb ha).mp q)), Nat.min_eq_left (by omega)]
def LRuler (sh : gh_Sh) (M : gh_M) (u : Nat) : Prop := sh.1 u = 8 ∧ rR M u 0 = some (u + 1) ∧ sh.1 (u + 1) = 13 ∧ sh.2 (u + 1) = 11
theorem LRuler.fr {sh : gh_Sh} {M M' : gh_M} {u : Nat} (h : LRuler sh M u) (e : ∀ a j, rR M' a j = rR M a j) : LRuler sh M' u := ⟨h.1, (e _ _).trans h.2.1, h.2.2.1, h.2.2.2⟩
section RulerSpecs
variable {sh : gh_Sh} {M : gh_M} {u r1 r2 : Nat} {l1 l2 : List Int32}
theorem p_sub1 (i : Nat) : nI (i + 1) - (1 : Int32) = nI i := nI_pred i
theorem s8_inner {post : Int32 → gh_M → Prop} {k25 : Int32 → gh_M → Prop} {i : Nat} (hi : i < l1.length) (L : LRuler sh M u) (L1 : LRow sh M r1) (L2 : LRow sh M r2) (R1 : rowIs M r1 l1) (R2 : rowIs M r2 l2) (d1 : r1 + 1 < u ∨ u + 1 < r1) (d2 : r2 + 1 < u ∨ u + 1 < r2) (M0 : gh_M) (hF0 : Fr (u + 1) (u + 2) M M0)
    (h0 : rI M0 (u + 1) 0 = nI (i + 1)) (hrow : ∀ k, 1 ≤ k → k ≤ l2.length → rI M0 (u + 1) k = nI (lev (fun i => l1.getD i 0) (fun i => l2.getD i 0) i k))
    (hk : ∀ M', Fr (u + 1) (u + 2) M M' → (∀ k, k ≤ l2.length → rI M' (u + 1) k = nI (lev (fun i => l1.getD i 0) (fun i => l2.getD i 0) (i + 1) k)) → k25 (nI (i + 1) + 1) M') : wp_X8_between_51 sh post k25 u r1 r2 (nI (i + 1)) (nI i) (1 : Int32) M0 := by
  unfold wp_X8_between_51
  have hl1 := R1.1
  have hl2 := R2.1
  generalize hf : (fun i => l1.getD i 0) = f at hrow hk
  generalize hg : (fun i => l2.getD i 0) = g at hrow hk
  have hf2 : ∀ i, l1.getD i 0 = f i := fun i => by rw [← hf]
  have hg2 : ∀ i, l2.getD i 0 = g i := fun i => by rw [← hg]
  refine ⟨fun v => ∃ j, j ≤ l2.length ∧ v.2.1 = nI (j + 1) ∧ v.1 = nI (lev f g i j) ∧ Fr (u + 1) (u + 2) M v.2.2 ∧ (∀ k, k ≤ j → rI v.2.2 (u + 1) k = nI (lev f g (i + 1) k)) ∧ ∀ k, j < k → k ≤ l2.length → rI v.2.2 (u + 1) k = nI (lev f g i k), fun v => 11 - v.2.1.toNatClampNeg, ⟨0, by omega, rfl, by rw [lev_i0], hF0, fun k hk0 => by rw [show k = 0 by omega, lev_i0]; exact h0, fun k hk1 hk2 => hrow k hk1 hk2⟩, ?_⟩
  rintro ⟨x4, x5, M1⟩ ⟨j, hj, hx5, hx4, hF, hlo, hhi⟩
  dsimp only at hx5 hx4 hF hlo hhi ⊢
  subst hx5
  subst hx4
  have E1 := R1.fr hF (by omega)
  have E2 := R2.fr hF (by omega)
  have A1 := L1.fr hF.2.2
  have A2 := L2.fr hF.2.2
  have A := L.fr hF.2.2
  have lv1 := lev_le f g i j
  unfold wb_X8_between_51
  refine ⟨A2.1, s7_size A2 E2 ⟨fun c => ?_, fun c => ?_⟩⟩
  · rw [p_ltI (by omega) (by omega)] at c
    have : j = l2.length := by omega
    subst this
    exact hk M1 hF hlo
  · rw [p_ltI (by omega) (by omega)] at c
    have hjl : j < l2.length := by omega
    have hab : rI M1 (u + 1) (nI (j + 1)).toNatClampNeg = nI (lev f g i (j + 1)) := by rw [p_cl (by omega)]; exact hhi (j + 1) (by omega) (by omega)
    have hle : rI M1 (u + 1) (nI (j + 1) - (1 : Int32)).toNatClampNeg = nI (lev f g (i + 1) j) := by rw [p_sub1, p_cl (by omega)]; exact hlo j (by omega)
    have lv2 := lev_le f g i (j + 1)
    have lv3 := lev_le f g (i + 1) j
    refine ⟨A.1, _, A.2.1, A.2.2.1, by rw [A.2.2.2]; exact p_in (by omega) (by omega), A1.1, s7_at A1 E1 (s7_at A2 E2 ?_)⟩
    rw [p_sub1, p_sub1, rowAt_nI hi hl1, rowAt_nI hjl hl2, hf2, hg2, hab]
    have step : ∀ (s0 : Nat), s0 = lev f g i j + (if f i = g j then 0 else 1) → wp_X8_between_96 sh post k25 (fun x4 x5 M_1 => (∃ j, j ≤ l2.length ∧ x5 = nI (j + 1) ∧ x4 = nI (lev f g i j) ∧ Fr (u + 1) (u + 2) M M_1 ∧ (∀ k, k ≤ j → rI M_1 (u + 1) k = nI (lev f g (i + 1) k)) ∧ ∀ k, j < k → k ≤ l2.length → rI M_1 (u + 1) k = nI (lev f g i k)) ∧ 11 - x5.toNatClampNeg < 11 - (nI (j + 1)).toNatClampNeg) u r1 r2 (nI (i + 1)) (nI (j + 1)) (nI (lev f g i (j + 1))) (nI s0) M1 := by
      intro s0 hs0
      unfold wp_X8_between_96
      refine ⟨A.1, _, A.2.1, A.2.2.1, by rw [A.2.2.2, p_sub1]; exact p_in (by omega) (by omega), by rw [A.2.2.2]; exact p_in (by omega) (by omega), ?_⟩
      rw [hle, p_min (by omega) (by omega)]
      have hb0 : s0 ≤ i + j + 1 := by rw [hs0]; split <;> omega
      rw [show nI (min (lev f g i (j + 1)) (lev f g (i + 1) j)) + (1 : Int32) = nI (min (lev f g i (j + 1)) (lev f g (i + 1) j) + 1) from nI_1 _]
      rw [p_min (by omega) (by omega), p_cl (by omega)]
      have hnew : min s0 (min (lev f g i (j + 1)) (lev f g (i + 1) j) + 1) = lev f g (i + 1) (j + 1) := by
        rw [hs0, lev_ss]
      rw [hnew]
      refine ⟨⟨j + 1, by omega, nI_1 _, rfl, ?_, fun k hk2 => ?_, fun k hk2 hk3 => ?_⟩, ?_⟩
      · exact Fr.tr hF (Fr.w (lo := u + 1) (hi := u + 2) (by omega) (by omega)) (by omega) (by omega) (by omega) (by omega)
      · by_cases e : k = j + 1
        · subst e; exact rI_same _ _ _ _
        · rw [rI_ne _ _ (by omega)]; exact hlo k (by omega)
      · rw [rI_ne _ _ (by omega)]; exact hhi k (by omega) hk3
      · rw [nI_1, p_cl (by omega)]; omega
    refine ⟨fun c2 => ?_, fun c2 => ?_⟩
    · have := step (lev f g i j) (by rw [if_pos c2]; rfl)
      exact this
    · have := step (lev f g i j + 1) (by rw [if_neg c2])
      rw [show nI (lev f g i j) + (1 : Int32) = nI (lev f g i j + 1) from nI_1 _]
      exact this
theorem s8_between {post : Int32 → gh_M → Prop} (L : LRuler sh M u) (L1 : LRow sh M r1) (L2 : LRow sh M r2) (R1 : rowIs M r1 l1) (R2 : rowIs M r2 l2) (d1 : r1 + 1 < u ∨ u + 1 < r1) (d2 : r2 + 1 < u ∨ u + 1 < r2) (h : ∀ M', Fr (u + 1) (u + 2) M M' → post (nI (dist l1 l2)) M') : wp_X8_between sh M u r1 r2 post := by
  unfold wp_X8_between wp_X8_between_2
  have hl1 := R1.1
  have hl2 := R2.1
  refine ⟨fun v => ∃ j, j ≤ l2.length + 1 ∧ v.1 = nI j ∧ Fr (u + 1) (u + 2) M v.2 ∧ ∀ k, k < j → rI v.2 (u + 1) k = nI k, fun v => 11 - v.1.toNatClampNeg, ⟨0, by omega, rfl, Fr.rf _ _ _, fun k hk => by omega⟩, ?_⟩
  rintro ⟨x3, M1⟩ ⟨j, hj, hx, hF, hr⟩
  dsimp only at hx hF hr ⊢
  subst hx
  unfold wb_X8_between_2
  refine ⟨L2.1, s7_size (L2.fr hF.2.2) (R2.fr hF (by omega)) ⟨fun c => ?_, fun c => ?_⟩⟩
  · rw [p_ltI (by omega) (by omega)] at c
    have : j = l2.length + 1 := by omega
    subst this
    unfold wp_X8_between_25
    refine ⟨fun v => ∃ i, i ≤ l1.length ∧ v.1 = nI (i + 1) ∧ Fr (u + 1) (u + 2) M v.2 ∧ ∀ k, k ≤ l2.length → rI v.2 (u + 1) k = nI (lev (fun i => l1.getD i 0) (fun i => l2.getD i 0) i k), fun v => 11 - v.1.toNatClampNeg, ⟨0, by omega, rfl, hF, fun k hk => by rw [hr k (by omega), lev_0]⟩, ?_⟩
    rintro ⟨x, M2⟩ ⟨i, hi, hx, hF2, hr2⟩
    dsimp only at hx hF2 hr2 ⊢
    subst hx
    have E1 := R1.fr hF2 (by omega)
    have E2 := R2.fr hF2 (by omega)
    have A1 := L1.fr hF2.2.2
    have A2 := L2.fr hF2.2.2
    have A := L.fr hF2.2.2
    unfold wb_X8_between_25
    refine ⟨A1.1, s7_size A1 E1 ⟨fun c2 => ?_, fun c2 => ?_⟩⟩
    · rw [p_ltI (by omega) (by omega)] at c2
      have : i = l1.length := by omega
      subst this
      refine ⟨A.1, _, A.2.1, A2.1, s7_size A2 E2 ⟨A.2.2.1, by rw [A.2.2.2]; exact p_in (by omega) (by omega), ?_⟩⟩
      rw [p_cl (by omega), hr2 l2.length (by omega)]
      exact h M2 hF2
    · rw [p_ltI (by omega) (by omega)] at c2
      refine ⟨A.1, _, A.2.1, A.2.2.1, by rw [A.2.2.2]; exact p_in (n := 0) (by omega) (by omega), by rw [A.2.2.2]; exact p_in (n := 0) (by omega) (by omega), ?_⟩
      have e0 : rI M2 (u + 1) (0 : Int32).toNatClampNeg = nI i := by
        rw [show (0 : Int32).toNatClampNeg = 0 from rfl, hr2 0 (by omega), lev_i0]
      rw [e0]
      refine s8_inner (M := M) (by omega) L L1 L2 R1 R2 d1 d2 _ ?_ ?_ (fun k hk1 hk2 => ?_) (fun M' hF' hr' => ⟨⟨i + 1, by omega, nI_1 _, hF', hr'⟩, ?_⟩)
      · exact Fr.tr hF2 (Fr.w (lo := u + 1) (hi := u + 2) (by omega) (by omega)) (by omega) (by omega) (by omega) (by omega)
      · exact rI_same _ _ _ _
      · rw [rI_ne _ _ (by right; show k ≠ (0 : Int32).toNatClampNeg; rw [show (0 : Int32).toNatClampNeg = 0 from rfl]; omega)]; exact hr2 k hk2
      · show 11 - (nI (i + 1) + 1).toNatClampNeg < 11 - (nI (i + 1)).toNatClampNeg
        rw [nI_1, p_cl (by omega), p_cl (by omega)]; omega
  · rw [p_ltI (by omega) (by omega)] at c
    have A := L.fr hF.2.2
    refine ⟨A.1, _, A.2.1, A.2.2.1, by rw [A.2.2.2]; exact p_in (by omega) (by omega), ⟨j + 1, by omega, nI_1 _, ?_, fun k hk => ?_⟩, p_m8 (by omega) (by omega)⟩
    · exact Fr.tr hF (Fr.w (lo := u + 1) (hi := u + 2) (by omega) (by omega)) (by omega) (by omega) (by omega) (by omega)
    · rw [p_cl (by omega)]
      by_cases e : k = j
      · subst e; exact rI_same _ _ _ _
      · rw [rI_ne _ _ (by omega)]; exact hr k (by omega)
end RulerSpecs
