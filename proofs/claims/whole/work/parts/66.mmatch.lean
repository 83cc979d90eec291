/-! the reference: findMatch -/
theorem bk_le {s n B : Nat} {W : Nat → Nat → Nat} {Z : Nat → Nat} (h : ∀ j, j < n → Z j ≤ B) : ∀ r, r ≤ n → ∀ x, bk s n W Z r x ≤ r * B
  | 0, _, x => by unfold bk; omega
  | r + 1, hr, x => by
    have ih := bk_le (s := s) (W := W) h r (by omega) x
    have h1 : bk s n W Z (r + 1) x ≤ Z (n - (r + 1)) + bk s n W Z r x := by conv => lhs; unfold bk
                                                                            exact minK_acc s
    have h2 := h (n - (r + 1)) (by omega)
    rw [Nat.succ_mul]
    omega
theorem nL_get {a : AbS} {i : Nat} (hi : i < (aN a).length) : (nL a).getD i pc0 = nxP ((aN a).getD i nx0) := by
  rw [List.getD_eq_getElem?_getD, List.getD_eq_getElem?_getD, List.getElem?_map, List.getElem?_eq_getElem hi]
  rfl
section MM
variable {sh : gh_Sh} {m : Nat} {a : AbS} {M : gh_M}
theorem s12_findMatch {post : Int32 → gh_M → Prop} (h : RM sh m a M) (hp : ∀ M', Ch m [25, 26, 27, 28, 29] [] M M' → (∀ i k, i < (nL a).length → k < (aS a).length → rI M' (m + 27) (8 * i + k) = nI (cMt (nL a) (aS a) i k)) → (∀ i, i < (nL a).length → rI M' (m + 29) i = ixI (mTn a i)) → post (nI (bk (aS a).length (nL a).length (cMt (nL a) (aS a)) (zMt (nL a)) (nL a).length 0)) M') : wp_X12_findMatch sh M m post := by
  obtain ⟨L, d1, d2, d3, d4, d5, d6, d7, d8⟩ := h
  have hs := d2.1
  have hlen : (nL a).length = (aN a).length := by simp
  have hn : (nL a).length ≤ 8 := by rw [hlen]; exact d3.1
  have h2 : rI M m 2 = nI (aS a).length := d2.2.1
  have h8 : rI M m 8 = nI (nL a).length := by rw [hlen]; exact d3.2.1
  have hz : ∀ i, i < (nL a).length → zMt (nL a) i ≤ 8 ∧ rI M (m + 8) i = nI (zMt (nL a) i) ∧ ∀ j, j < ((nL a).getD i pc0).2.1.length → rI M (m + 9) (8 * i + j) = ((nL a).getD i pc0).2.1.getD j 0 := fun i hi => by
    rw [hlen] at hi
    obtain ⟨q1, q2, q3, q4⟩ := d3.2.2 i hi
    unfold zMt
    rw [nL_get hi]
    exact ⟨q2, q3, q4⟩
  have hcb : ∀ i k, i < (nL a).length → k < (aS a).length → cMt (nL a) (aS a) i k ≤ 8 := fun i k hi hk => by
    have e1 := dist_max ((nL a).getD i pc0).2.1 ((aS a).getD k pc0).2.1
    have e2 : ((nL a).getD i pc0).2.1.length ≤ 8 := (hz i hi).1
    have e3 := (d2.ats hk).2.1
    show dist _ _ ≤ 8
    omega
  have hbk : ∀ r, r ≤ (nL a).length → ∀ x, bk (aS a).length (nL a).length (cMt (nL a) (aS a)) (zMt (nL a)) r x ≤ 64 := fun r hr x =>
    Nat.le_trans (bk_le (B := 8) (fun j hj => (hz j hj).1) r hr x) (Nat.mul_le_mul_right 8 (show r ≤ 8 by omega))
  generalize hS : (aS a).length = s at *
  generalize hN : (nL a).length = n at *
  generalize hC : cMt (nL a) (aS a) = c at *
  generalize hZ : zMt (nL a) = z at *
  have hmt : ∀ i, mTn a i = mtM s n c z i := fun i => by unfold mTn; rw [hS, hN, hC, hZ]
  unfold wp_X12_findMatch wp_X12_findMatch_2
  refine for1 0 n (by omega) (by omega) (fun i M1 => Ch m [25, 26, 27] [] M M1 ∧ ∀ i' k, i' < i → k < s → rI M1 (m + 27) (8 * i' + k) = nI (c i' k)) ⟨Ch.rf _ _ _ _, fun i' k hi' => by omega⟩ ?_ ?_
  · rintro i M1 k1 - hi ⟨hc1, hv1⟩ hk1
    unfold wb_X12_findMatch_2
    dsimp only
    rw [hc1.fl 8 (by decide), h8]
    refine ⟨L.1, fun cc => absurd ((p_leI (by omega) (by omega)).mp cc) (by omega), fun _ => ?_⟩
    unfold wp_X12_findMatch_12
    refine for1 0 s (by omega) (by omega) (fun k M2 => Ch m [25, 26, 27] [] M M2 ∧ (∀ i' k, i' < i → k < s → rI M2 (m + 27) (8 * i' + k) = nI (c i' k)) ∧ ∀ k', k' < k → rI M2 (m + 27) (8 * i + k') = nI (c i k')) ⟨hc1, hv1, fun k' hk' => by omega⟩ ?_ ?_
    · rintro k M2 k2 - hk ⟨hc2, hv2, hv3⟩ hk2
      unfold wb_X12_findMatch_12
      dsimp only
      have L2 := hc2.lm L
      obtain ⟨z1, z2, z3⟩ := hz i hi
      obtain ⟨p1, p2, p3, p4, -⟩ := d2.ats (show k < (aS a).length by omega)
      rw [hc2.fl 2 (by decide), h2]
      refine ⟨L.1, fun cc => absurd ((p_leI (by omega) (by omega)).mp cc) (by omega), fun _ => ⟨_, L2.f34, _, L2.f11, _, L2.f10, L.k8, L.v8 (i := i) (by omega) rfl, _, L2.f5, _, L2.f4, L.k3, L.v3 (i := k) (by omega) rfl, ?_⟩⟩
      rw [p_cl (by omega), p_cl (by omega), hc2.ar 8 (by decide) (by decide) (by decide), hc2.ar 3 (by decide) (by decide) (by decide), z2, p3, m8, m8]
      have zl : z i = ((nL a).getD i pc0).2.1.length := by rw [← hZ]; rfl
      rw [zl]
      rw [zl] at z1
      refine s12_apart L2 z1 p2 L.k9 L.k4 (by rw [L.n9]; omega) (by rw [L.n4]; omega) (by rw [L.n9]; decide) (by rw [L.n4]; decide) (by omega) (by omega) (fun j hj => by rw [hc2.ar 9 (by decide) (by decide) (by decide)]; exact z3 j hj) (fun j hj => by rw [hc2.ar 4 (by decide) (by decide) (by decide)]; exact p4 j hj) (fun M3 hc3 => ⟨L.k27, L.v27 (i := 8 * i + k) (by omega) (nI_add _ _), hk2 _ ⟨(hc2.tr (hc3.mono (by decide) (by decide))).tr (Ch.wa 27 _ _ (by decide) (by decide) (by decide)), fun i' k' hi' hk' => ?_, fun k' hk' => ?_⟩⟩)
      · rw [nI_add, p_cl (by omega), rI_ne _ _ (by omega), hc3.ar 27 (by decide) (by decide) (by decide)]; exact hv2 i' k' hi' hk'
      · rw [nI_add, p_cl (by omega)]
        by_cases e : k' = k
        · subst e; rw [rI_same, ← hC]; rfl
        · rw [rI_ne _ _ (by omega), hc3.ar 27 (by decide) (by decide) (by decide)]; exact hv3 k' (by omega)
    · rintro M2 k2 ⟨hc2, hv2, hv3⟩
      unfold wb_X12_findMatch_12
      dsimp only
      rw [hc2.fl 2 (by decide), h2]
      refine ⟨L.1, fun _ => hk1 _ ⟨hc2, fun i' k' hi' hk' => ?_⟩, fun cc => absurd ((p_leI (by omega) (by omega)).mpr (Nat.le_refl _)) cc⟩
      by_cases e : i' = i
      · subst e; exact hv3 k' hk'
      · exact hv2 i' k' (by omega) hk'
  rintro M1 k1 ⟨hc1, hv1⟩
  unfold wb_X12_findMatch_2
  dsimp only
  rw [hc1.fl 8 (by decide), h8]
  refine ⟨L.1, fun _ => ?_, fun cc => absurd ((p_leI (by omega) (by omega)).mpr (Nat.le_refl _)) cc⟩
  have g8 : rI M1 m 8 = nI n := (hc1.fl 8 (by decide)).trans h8
  have g2 : rI M1 m 2 = nI s := (hc1.fl 2 (by decide)).trans h2
  have gz : ∀ i, i < n → rI M1 (m + 8) i = nI (z i) := fun i hi => by rw [hc1.ar 8 (by decide) (by decide) (by decide)]; exact (hz i hi).2.1
  have L1 := hc1.lm L
  unfold wp_X12_findMatch_77
  refine for1 0 256 (by omega) (by omega) (fun x M2 => Ch m [28] [] M1 M2 ∧ ∀ y, y < x → rI M2 (m + 28) (256 * n + y) = nI 0) ⟨Ch.rf _ _ _ _, fun y hy => by omega⟩ ?_ ?_
  · rintro x M2 k2 - hx ⟨hc2, hv2⟩ hk2
    unfold wb_X12_findMatch_77
    dsimp only
    rw [hc2.fl 8 (by decide), g8]
    refine ⟨fun cc => absurd ((p_leI (a := 256) (by omega) (by omega)).mp cc) (by omega), fun _ => ⟨L.1, _, (hc2.lm L1).f35, L.k28, L.v28 (i := 256 * n + x) (by omega) (e256 _ _), hk2 _ ⟨hc2.tr (Ch.wa 28 _ _ (by decide) (by decide) (by decide)), fun y hy => ?_⟩⟩⟩
    rw [e256, p_cl (by omega)]
    by_cases e : y = x
    · subst e; rw [rI_same]; rfl
    · rw [rI_ne _ _ (by omega)]; exact hv2 y (by omega)
  rintro M2 k2 ⟨hc2, hv2⟩
  unfold wb_X12_findMatch_77
  dsimp only
  rw [hc2.fl 8 (by decide), g8, dI_pred]
  refine ⟨fun _ => ⟨L.1, ?_⟩, fun cc => absurd ((p_leI (a := 256) (by omega) (by omega)).mpr (by omega)) cc⟩
  unfold wp_X12_findMatch_113
  refine forD n (by omega) (fun i M3 => Ch m [28] [] M1 M3 ∧ ∀ i' y, i ≤ i' → i' ≤ n → y < 256 → rI M3 (m + 28) (256 * i' + y) = nI (bk s n c z (n - i') y)) ⟨hc2, fun i' y h1 h3 hy => ?_⟩ ?_ ?_
  · rw [show i' = n by omega, hv2 y hy, Nat.sub_self]; unfold bk; rfl
  · rintro i M3 k3 hi ⟨hc3, hv3⟩ hk3
    unfold wb_X12_findMatch_113
    dsimp only
    refine ⟨fun cc => absurd cc (nI_pos (by omega)), fun _ => ?_⟩
    unfold wp_X12_findMatch_119
    refine for1 0 256 (by omega) (by omega) (fun x M4 => Ch m [28] [] M1 M4 ∧ (∀ i' y, i + 1 ≤ i' → i' ≤ n → y < 256 → rI M4 (m + 28) (256 * i' + y) = nI (bk s n c z (n - i') y)) ∧ ∀ y, y < x → rI M4 (m + 28) (256 * i + y) = nI (bk s n c z (n - i) y)) ⟨hc3, hv3, fun y hy => by omega⟩ ?_ ?_
    · rintro x M4 k4 - hx ⟨hc4, hv4, hv5⟩ hk4
      unfold wb_X12_findMatch_119
      dsimp only
      have L4 := hc4.lm L1
      have er : n - i = n - (i + 1) + 1 := by omega
      have ei : n - (n - (i + 1) + 1) = i := by omega
      have hu : bk s n c z (n - i) x = minK (fun k => !x.testBit k) (fun k => c i k + bk s n c z (n - (i + 1)) (x ||| 2 ^ k)) (z i + bk s n c z (n - (i + 1)) x) s := by
        rw [er]; conv => lhs; unfold bk
        rw [ei]
      have hb0 := hbk (n - (i + 1)) (by omega) x
      have hz8 := (hz i hi).1
      refine ⟨fun cc => absurd ((p_leI (a := 256) (by omega) (by omega)).mp cc) (by omega), fun _ => ⟨L.1, _, L4.f10, L.k8, L.v8 (i := i) (by omega) rfl, _, L4.f35, L.k28, L.v28 (i := 256 * (i + 1) + x) (by omega) (by rw [a1, e256]), ?_⟩⟩
      rw [a1, e256, p_cl (by omega), p_cl (by omega), hc4.ar 8 (by decide) (by decide) (by decide), gz i hi, hv4 (i + 1) x (by omega) (by omega) hx, nI_add]
      unfold wp_X12_findMatch_151
      refine for2 0 s (by omega) (by omega) (fun k y M5 => M5 = M4 ∧ y = nI (minK (fun k => !x.testBit k) (fun k => c i k + bk s n c z (n - (i + 1)) (x ||| 2 ^ k)) (z i + bk s n c z (n - (i + 1)) x) k)) ⟨rfl, rfl⟩ ?_ ?_
      · rintro k y M5 k5 - hk ⟨rfl, rfl⟩ hk5
        unfold wb_X12_findMatch_151 wp_X12_findMatch_206
        dsimp only
        have hmu : minK (fun k => !x.testBit k) (fun k => c i k + bk s n c z (n - (i + 1)) (x ||| 2 ^ k)) (z i + bk s n c z (n - (i + 1)) x) (k + 1) = if (!x.testBit k) = true then min (minK (fun k => !x.testBit k) (fun k => c i k + bk s n c z (n - (i + 1)) (x ||| 2 ^ k)) (z i + bk s n c z (n - (i + 1)) x) k) (c i k + bk s n c z (n - (i + 1)) (x ||| 2 ^ k)) else minK (fun k => !x.testBit k) (fun k => c i k + bk s n c z (n - (i + 1)) (x ||| 2 ^ k)) (z i + bk s n c z (n - (i + 1)) x) k := rfl
        have hma := minK_acc (p := fun k => !x.testBit k) (v := fun k => c i k + bk s n c z (n - (i + 1)) (x ||| 2 ^ k)) (acc := z i + bk s n c z (n - (i + 1)) x) k
        have hor : x ||| 2 ^ k < 256 := or_lt (s := 8) hx (by omega)
        have hb1 := hbk (n - (i + 1)) (by omega) (x ||| 2 ^ k)
        have hc8 := hcb i k hi hk
        have g2' : rI M5 m 2 = nI s := (hc4.fl 2 (by decide)).trans g2
        rw [g2', i_or x hx k (by omega), a1 i, e256 (i + 1)]
        refine ⟨L.1, fun cc => absurd ((p_leI (by omega) (by omega)).mp cc) (by omega), fun _ => ⟨fun cc => ⟨_, L4.f34, L.k27, L.v27 (i := 8 * i + k) (by omega) (e8 _ _), _, L4.f35, L.k28, L.v28 (i := 256 * (i + 1) + (x ||| 2 ^ k)) (by omega) rfl, ?_⟩, fun cc => hk5 _ _ ⟨rfl, ?_⟩⟩⟩
        · rw [i_bit0 x hx k (by omega)] at cc
          rw [e8, p_cl (by omega), p_cl (by omega), hc4.ar 27 (by decide) (by decide) (by decide), hv1 i k hi hk, hv4 (i + 1) _ (by omega) (by omega) hor, nI_add]
          refine s12_least (by omega) (by omega) (hk5 _ _ ⟨rfl, ?_⟩)
          rw [hmu, if_pos (by rw [cc]; rfl)]
        · rw [i_bit0 x hx k (by omega)] at cc
          rw [hmu, if_neg (by simpa using cc)]
      · rintro y M5 k5 ⟨rfl, rfl⟩
        unfold wb_X12_findMatch_151
        dsimp only
        have g2' : rI M5 m 2 = nI s := (hc4.fl 2 (by decide)).trans g2
        rw [g2', e256]
        refine ⟨L.1, fun _ => ⟨_, L4.f35, L.k28, L.v28 (i := 256 * i + x) (by omega) rfl, hk4 _ ⟨hc4.tr (Ch.wa 28 _ _ (by decide) (by decide) (by decide)), fun i' y h1 h3 hy => ?_, fun y hy => ?_⟩⟩, fun cc => absurd ((p_leI (by omega) (by omega)).mpr (Nat.le_refl _)) cc⟩
        · rw [p_cl (by omega), rI_ne _ _ (by omega)]; exact hv4 i' y h1 h3 hy
        · rw [p_cl (by omega)]
          by_cases e : y = x
          · subst e; rw [rI_same, hu]
          · rw [rI_ne _ _ (by omega)]; exact hv5 y (by omega)
    · rintro M4 k4 ⟨hc4, hv4, hv5⟩
      unfold wb_X12_findMatch_119
      dsimp only
      refine ⟨fun _ => hk3 _ ⟨hc4, fun i' y h1 h3 hy => ?_⟩, fun cc => absurd ((p_leI (a := 256) (by omega) (by omega)).mpr (by omega)) cc⟩
      by_cases e : i' = i
      · subst e; exact hv5 y hy
      · exact hv4 i' y (by omega) h3 hy
  rintro M3 k3 ⟨hc3, hv3⟩
  unfold wb_X12_findMatch_113
  dsimp only
  refine ⟨fun _ => ?_, fun cc => absurd (show (-1 : Int32) < 0 by decide) cc⟩
  have L3 := hc3.lm L1
  have hst : ∀ i, stM s n c z i < 256 := fun i => Nat.lt_of_lt_of_le (stM_lt i) (p_256 hs)
  unfold wp_X12_findMatch_241
  refine for2 0 n (by omega) (by omega) (fun i y M4 => y = nI (stM s n c z i) ∧ Ch m [29] [] M3 M4 ∧ ∀ i', i' < i → rI M4 (m + 29) i' = ixI (mTn a i')) ⟨rfl, Ch.rf _ _ _ _, fun i' hi' => by omega⟩ ?_ ?_
  · rintro i y M4 k4 - hi ⟨rfl, hc4, hv4⟩ hk4
    unfold wb_X12_findMatch_241
    dsimp only
    have L4 := hc4.lm L3
    have g8' : rI M4 m 8 = nI n := (hc4.fl 8 (by decide)).trans ((hc3.fl 8 (by decide)).trans g8)
    have g2' : rI M4 m 2 = nI s := (hc4.fl 2 (by decide)).trans ((hc3.fl 2 (by decide)).trans g2)
    rw [g8', g2', dI_pred]
    refine ⟨L.1, fun cc => absurd ((p_leI (by omega) (by omega)).mp cc) (by omega), fun _ => ?_⟩
    have hx := hst i
    have hsu : stM s n c z (i + 1) = stK (stM s n c z i) (mtM s n c z i) := rfl
    have hmu : mtM s n c z i = findK (fun k => !(stM s n c z i).testBit k && decide (c (n - (n - (i + 1) + 1)) k + bk s n c z (n - (i + 1)) ((stM s n c z i) ||| 2 ^ k) = bk s n c z (n - (i + 1) + 1) (stM s n c z i))) s := rfl
    rw [show n - (n - (i + 1) + 1) = i by omega, show n - (i + 1) + 1 = n - i by omega] at hmu
    generalize stM s n c z i = x at hx hsu hmu ⊢
    unfold wp_X12_findMatch_259
    refine forD2 s (by omega) (fun k y M5 => M5 = M4 ∧ ∃ o : Option Nat, y = ixI o ∧ ((o = none ∧ ∀ j, k ≤ j → j < s → (!x.testBit j && decide (c i j + bk s n c z (n - (i + 1)) (x ||| 2 ^ j) = bk s n c z (n - i) x)) = false) ∨ ∃ q, o = some q ∧ k ≤ q ∧ q < s ∧ (!x.testBit q && decide (c i q + bk s n c z (n - (i + 1)) (x ||| 2 ^ q) = bk s n c z (n - i) x)) = true ∧ ∀ j, k ≤ j → j < q → (!x.testBit j && decide (c i j + bk s n c z (n - (i + 1)) (x ||| 2 ^ j) = bk s n c z (n - i) x)) = false)) ⟨rfl, none, rfl, Or.inl ⟨rfl, fun j h1 h3 => by omega⟩⟩ ?_ ?_
    · rintro k y M5 k5 hk ⟨rfl, o, rfl, ho⟩ hk5
      unfold wb_X12_findMatch_259 wp_X12_findMatch_324 wp_X12_findMatch_325 wp_X12_findMatch_338
      dsimp only
      have hor : x ||| 2 ^ k < 256 := or_lt (s := 8) hx (by omega)
      have hb0 := hbk (n - i) (by omega) x
      have hb1 := hbk (n - (i + 1)) (by omega) (x ||| 2 ^ k)
      have hc8 := hcb i k hi hk
      have yes : (!x.testBit k && decide (c i k + bk s n c z (n - (i + 1)) (x ||| 2 ^ k) = bk s n c z (n - i) x)) = true → k5 (nI k, nI k + (-1), M5) := fun hP => hk5 _ _ ⟨rfl, some k, rfl, Or.inr ⟨k, rfl, Nat.le_refl k, hk, hP, fun j h1 h3 => by omega⟩⟩
      have no : (!x.testBit k && decide (c i k + bk s n c z (n - (i + 1)) (x ||| 2 ^ k) = bk s n c z (n - i) x)) = false → k5 (ixI o, nI k + (-1), M5) := fun hP => hk5 _ _ ⟨rfl, o, rfl, by
        rcases ho with ⟨h1, h3⟩ | ⟨q, h1, h3, h4, h5, h6⟩
        · exact Or.inl ⟨h1, fun j q1 q2 => by
            by_cases e : j = k
            · subst e; exact hP
            · exact h3 j (by omega) q2⟩
        · exact Or.inr ⟨q, h1, by omega, h4, h5, fun j q1 q2 => by
            by_cases e : j = k
            · subst e; exact hP
            · exact h6 j (by omega) q2⟩⟩
      rw [i_or x hx k (by omega), a1 i, e256, e256]
      refine ⟨fun cc => absurd cc (nI_pos (by omega)), fun _ => ⟨fun cc => ⟨L.1, _, L4.f34, L.k27, L.v27 (i := 8 * i + k) (by omega) (e8 _ _), _, L4.f35, L.k28, L.v28 (i := 256 * (i + 1) + (x ||| 2 ^ k)) (by omega) rfl, L.v28 (i := 256 * i + x) (by omega) rfl, ?_⟩, fun cc => br0 (no ?_)⟩⟩
      · rw [i_bit0 x hx k (by omega)] at cc
        rw [e8, p_cl (show 8 * i + k < 2147483648 by omega), p_cl (show 256 * (i + 1) + (x ||| 2 ^ k) < 2147483648 by omega), p_cl (show 256 * i + x < 2147483648 by omega), hc4.ar 27 (by decide) (by decide) (by decide), hc3.ar 27 (by decide) (by decide) (by decide), hv1 i k hi hk, hc4.ar 28 (by decide) (by decide) (by decide), hv3 (i + 1) _ (by omega) (by omega) hor, hv3 i x (by omega) (by omega) hx, nI_add, p_eqI (by omega) (by omega)]
        exact ⟨fun c2 => br1 (yes (by rw [cc, c2]; simp)), fun c2 => br0 (no (by simp [c2]))⟩
      · rw [i_bit0 x hx k (by omega)] at cc
        have : x.testBit k = true := by simpa using cc
        rw [this]; rfl
    · rintro y M5 k5 ⟨rfl, o, rfl, ho⟩
      unfold wb_X12_findMatch_259 wp_X12_findMatch_364
      dsimp only
      have hoe : o = mtM s n c z i := by
        rw [hmu]
        rcases ho with ⟨h1, h3⟩ | ⟨q, h1, h3, h4, h5, h6⟩
        · rw [h1]; exact (findK_no (fun k hk => h3 k (Nat.zero_le _) hk)).symm
        · rw [h1]; exact (findK_is h4 h5 (fun j hj => h6 j (Nat.zero_le _) hj)).symm
      have fin : ∀ y, y = nI (stM s n c z (i + 1)) → k4 (y, nI i + 1, wI M5 (m + 29) i (ixI o)) := fun y hy => hk4 _ _ ⟨hy, hc4.tr (Ch.wa 29 _ _ (by decide) (by decide) (by decide)), fun i' hi' => by
        by_cases e : i' = i
        · subst e; rw [rI_same, hoe, hmt]
        · rw [rI_ne _ _ (by omega)]; exact hv4 i' (by omega)⟩
      refine ⟨fun _ => ⟨L.1, _, L4.f36, L.k29, L.v29 (i := i) (by omega) rfl, ?_⟩, fun cc => absurd (show (-1 : Int32) < 0 by decide) cc⟩
      rw [p_cl (by omega)]
      rw [hsu, ← hoe] at fin
      rcases ho with ⟨h1, h3⟩ | ⟨q, h1, h3, h4, h5, h6⟩
      · rw [h1] at fin ⊢
        exact ⟨fun cc => absurd cc (by decide), fun _ => fin _ (by
          show nI x ||| nI 0 = nI x
          apply Int32.toBitVec_inj.mp
          rw [Int32.toBitVec_or]
          show (nI x).toBitVec ||| 0#32 = _
          exact BitVec.or_zero)⟩
      · rw [h1] at fin ⊢
        refine ⟨fun _ => fin _ ?_, fun cc => absurd (nI_pos' (by omega)) cc⟩
        exact i_or x hx q (by omega)
  · rintro y M4 k4 ⟨rfl, hc4, hv4⟩
    unfold wb_X12_findMatch_241
    dsimp only
    have L4 := hc4.lm L3
    have g8' : rI M4 m 8 = nI n := (hc4.fl 8 (by decide)).trans ((hc3.fl 8 (by decide)).trans g8)
    rw [g8']
    refine ⟨L.1, fun _ => ⟨_, L4.f35, L.k28, L.v28 (i := 0) (by omega) rfl, ?_⟩, fun cc => absurd ((p_leI (by omega) (by omega)).mpr (Nat.le_refl _)) cc⟩
    rw [show (0 : Int32).toNatClampNeg = 0 from rfl, hc4.ar 28 (by decide) (by decide) (by decide), show rI M3 (m + 28) 0 = nI (bk s n c z n 0) from hv3 0 0 (Nat.le_refl _) (by omega) (by omega)]
    refine hp M4 ((hc1.mono (by decide) (by decide)).tr ((hc3.mono (by decide) (by decide)).tr (hc4.mono (by decide) (by decide)))) (fun i k hi hk => ?_) (fun i hi => hv4 i hi)
    rw [hc4.ar 27 (by decide) (by decide) (by decide), hc3.ar 27 (by decide) (by decide) (by decide)]; exact hv1 i k hi hk
end MM
