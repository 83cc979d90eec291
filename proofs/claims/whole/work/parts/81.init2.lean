/-! new objects that are made in loops; the Planner -/
theorem forA {body : (Int32 × gh_Sh × Nat × Nat × Nat × gh_M → Prop) → Int32 × gh_Sh × Nat × Nat × Nat × gh_M → Prop} {sh : gh_Sh} {n c w : Nat} {M : gh_M} (N : Nat) (I : Nat → gh_Sh → Nat → Nat → Nat → gh_M → Prop) (h0 : I 0 sh n c w M) (hs : ∀ i sh n c w M k, i < N → I i sh n c w M → (∀ sh' n' c' w' M', I (i + 1) sh' n' c' w' M' → k (nI i + 1, sh', n', c', w', M')) → body k (nI i, sh, n, c, w, M)) (he : ∀ sh n c w M k, I N sh n c w M → body k (nI N, sh, n, c, w, M)) : gh_loop body ((0 : Int32), sh, n, c, w, M) := by
  refine loopW (fun p v => ∃ i, i ≤ N ∧ p = N - i ∧ v.1 = nI i ∧ I i v.2.1 v.2.2.1 v.2.2.2.1 v.2.2.2.2.1 v.2.2.2.2.2) N ⟨0, Nat.zero_le _, rfl, rfl, h0⟩ ?_
  rintro p ⟨x, s, n, c, w, M⟩ k ⟨i, h1, h2, hx, hI⟩ hk
  dsimp only at hx hI
  subst hx
  by_cases h : i < N
  · exact hs i s n c w M k h hI (fun s' n' c' w' M' hI' => hk (N - (i + 1)) _ (by omega) ⟨i + 1, by omega, rfl, nI_1 i, hI'⟩)
  · rw [show i = N by omega] at hI ⊢
    exact he s n c w M k hI
section Init2
variable {b n : Nat} {sh : gh_Sh} {M : gh_M} {post : gh_Sh → gh_M → Prop} {y : Nat}
theorem i5 (hy : y = b + n) (hp : ∀ sh' M', Sw y (y + 13) sh sh' → Fw y (y + 13) M M' → LPiece sh' M' y → post sh' M') : wp_X5_init b (shU sh y 5 0) (n + 1) (zM M y) y post := by
  unfold wp_X5_init
  rw [show b + (n + 1) = y + 1 by omega, show b + (n + 1 + 2) = y + 3 by omega]
  refine ⟨by decide, by decide, by decide, by decide, i7 (y := y + 1) (by omega) (fun s1 M1 a1 a2 a3 a4 => ?_)⟩
  have e : s1.1 y = 5 := by rw [(a1 y (by omega)).1, shU1]
  have e2 : (shU s1 (y + 3) 17 3).1 y = 5 := by rw [shN1 _ (by omega)]; exact e
  refine ⟨e, by decide, by decide, e2, ?_⟩
  rintro M11 rfl
  unfold wp_X5_init_36
  have f1 : Fw y (y + 1) M1 (wR M1 y 0 (some (y + 1))) := Fw.r (by omega) (by omega)
  have f2 : Fw (y + 3) (y + 4) (wR M1 y 0 (some (y + 1))) (zM (wR M1 y 0 (some (y + 1))) (y + 3)) := Fw.z (by omega) (by omega)
  have f3 : Fw y (y + 1) (zM (wR M1 y 0 (some (y + 1))) (y + 3)) (wI (wI (wR (zM (wR M1 y 0 (some (y + 1))) (y + 3)) y 1 (some (y + 3))) y 2 0) y 3 (-5)) := ((Fw.r (by omega) (by omega)).t (Fw.i (by omega) (by omega))).t (Fw.i (by omega) (by omega))
  refine forA 3 (fun i s n' c w M' => n' = n + 4 + 3 * i ∧ c = 3 + 3 * i ∧ w = 15 + 15 * i ∧ Sw y (y + 13) sh s ∧ Fw y (y + 13) M M' ∧ s.1 y = 5 ∧ rR M' y 0 = some (y + 1) ∧ LRow s M' (y + 1) ∧ rR M' y 1 = some (y + 3) ∧ s.1 (y + 3) = 17 ∧ s.2 (y + 3) = 3 ∧ ∀ t, t < i → rR M' (y + 3) t = some (y + 4 + 3 * t) ∧ LText s M' (y + 4 + 3 * t)) ?_ ?_ ?_
  · refine ⟨by omega, rfl, rfl, ((Sw.u (by omega) (by omega)).t (a1.mono (by omega) (by omega))).t (Sw.u (by omega) (by omega)), ((Fw.z (by omega) (by omega)).t (a2.mono (by omega) (by omega))).t ((f1.mono (by omega) (by omega)).t ((f2.mono (by omega) (by omega)).t (f3.mono (by omega) (by omega)))), e2, ?_, ?_, ?_, shU1 _ _ _ _, shU2 _ _ _ _, fun t ht => absurd ht (Nat.not_lt_zero t)⟩
    · rw [rR_wI, rR_wI, rR_ne _ _ (by omega), zM_Rn _ (by omega), rR_same]
    · exact (((a3.fw f1 (by omega)).fw f2 (by omega)).fw f3 (by omega)).sw (Sw.u (lo := y + 3) (hi := y + 4) (by omega) (by omega)) (by omega)
    · rw [rR_wI, rR_wI, rR_same]
  · rintro i s n' c w M' k hi ⟨rfl, rfl, rfl, q1, q2, q3, q4, q5, q6, q7, q8, q9⟩ hk
    unfold wb_X5_init_36
    dsimp only
    rw [show b + (n + 4 + 3 * i) = y + 4 + 3 * i by omega, p_cl (by omega)]
    refine ⟨fun z => absurd ((p_leI (a := 3) (by decide) (by omega)).mp z) (by omega), fun _ => ⟨q3, _, q6, by omega, by omega, by omega, by omega, i10 (y := y + 4 + 3 * i) (by omega) (fun s2 M2 c1 c2 c3 => ⟨(c1 _ (by omega)).1.trans q7, c3.1, by rw [(c1 _ (by omega)).2, q8]; exact p_in hi (by decide), ?_⟩)⟩⟩
    have f4 : Fw (y + 3) (y + 4) M2 (wR M2 (y + 3) i (some (y + 4 + 3 * i))) := Fw.r (by omega) (by omega)
    refine hk _ _ _ _ _ ⟨by omega, by omega, by omega, q1.t (c1.mono (by omega) (by omega)), q2.t ((c2.mono (by omega) (by omega)).t (f4.mono (by omega) (by omega))), (c1 _ (by omega)).1.trans q3, ?_, ((q5.fw c2 (by omega)).sw c1 (by omega)).fw f4 (by omega), ?_, (c1 _ (by omega)).1.trans q7, (c1 _ (by omega)).2.trans q8, fun t ht => ?_⟩
    · rw [rR_ne _ _ (by omega), (c2 _ _ (by omega)).2.2]; exact q4
    · rw [rR_ne _ _ (by omega), (c2 _ _ (by omega)).2.2]; exact q6
    · by_cases z : t = i
      · subst z
        exact ⟨rR_same _ _ _ _, c3.fw f4 (by omega)⟩
      · obtain ⟨w1, w2⟩ := q9 t (by omega)
        refine ⟨?_, ((w2.fw c2 (by omega)).sw c1 (by omega)).fw f4 (by omega)⟩
        rw [rR_ne _ _ (by omega), (c2 _ _ (by omega)).2.2]; exact w1
  · rintro s n' c w M' k ⟨rfl, rfl, rfl, q1, q2, q3, q4, q5, q6, q7, q8, q9⟩
    unfold wb_X5_init_36
    dsimp only
    exact ⟨fun _ => ⟨by omega, by omega, by omega, hp _ _ q1 q2 ⟨q3, q4, q5, q6, q7, q8, q9⟩⟩, fun z => absurd ((p_leI (a := 3) (b := 3) (by decide) (by decide)).mpr (Nat.le_refl _)) z⟩
theorem i0 (hy : y = b + n) (hp : ∀ sh' M', Sw y (y + 106) sh sh' → Fw y (y + 106) M M' → LBook sh' M' y → bookIs M' y [] → post sh' M') : wp_X0_init b (shU sh y 0 0) (n + 1) (zM M y) y post := by
  unfold wp_X0_init
  rw [show b + (n + 1) = y + 1 by omega]
  have e2 : (shU (shU sh y 0 0) (y + 1) 16 8).1 y = 0 := by rw [shN1 _ (by omega), shU1]
  refine ⟨by decide, by decide, e2, ?_⟩
  unfold wp_X0_init_15
  refine forA 8 (fun i s n' c w M' => n' = n + 2 + 13 * i ∧ c = 1 + 13 * i ∧ w = 8 + 65 * i ∧ Sw y (y + 106) sh s ∧ Fw y (y + 106) M M' ∧ s.1 y = 0 ∧ rI M' y 1 = 0 ∧ rR M' y 0 = some (y + 1) ∧ s.1 (y + 1) = 16 ∧ s.2 (y + 1) = 8 ∧ ∀ t, t < i → rR M' (y + 1) t = some (y + 2 + 13 * t) ∧ LPiece s M' (y + 2 + 13 * t)) ?_ ?_ ?_
  · refine ⟨by omega, rfl, rfl, (Sw.u (by omega) (by omega)).t (Sw.u (by omega) (by omega)), ((Fw.z (by omega) (by omega)).t (Fw.z (by omega) (by omega))).t (Fw.r (by omega) (by omega)), e2, ?_, rR_same _ _ _ _, shU1 _ _ _ _, shU2 _ _ _ _, fun t ht => absurd ht (Nat.not_lt_zero t)⟩
    rw [rI_wR, zM_In _ (by omega), zM_I]
  · rintro i s n' c w M' k hi ⟨rfl, rfl, rfl, q1, q2, q3, q4, q6, q7, q8, q9⟩ hk
    unfold wb_X0_init_15
    dsimp only
    rw [show b + (n + 2 + 13 * i) = y + 2 + 13 * i by omega, p_cl (by omega)]
    refine ⟨fun z => absurd ((p_leI (a := 8) (by decide) (by omega)).mp z) (by omega), fun _ => ⟨q3, _, q6, by omega, by omega, by omega, by omega, i5 (y := y + 2 + 13 * i) (by omega) (fun s2 M2 c1 c2 c3 => ⟨(c1 _ (by omega)).1.trans q7, c3.1, by rw [(c1 _ (by omega)).2, q8]; exact p_in hi (by decide), ?_⟩)⟩⟩
    have f4 : Fw (y + 1) (y + 2) M2 (wR M2 (y + 1) i (some (y + 2 + 13 * i))) := Fw.r (by omega) (by omega)
    refine hk _ _ _ _ _ ⟨by omega, by omega, by omega, q1.t (c1.mono (by omega) (by omega)), q2.t ((c2.mono (by omega) (by omega)).t (f4.mono (by omega) (by omega))), (c1 _ (by omega)).1.trans q3, ?_, ?_, (c1 _ (by omega)).1.trans q7, (c1 _ (by omega)).2.trans q8, fun t ht => ?_⟩
    · rw [rI_wR, (c2 _ _ (by omega)).1]; exact q4
    · rw [rR_ne _ _ (by omega), (c2 _ _ (by omega)).2.2]; exact q6
    · by_cases z : t = i
      · subst z
        exact ⟨rR_same _ _ _ _, c3.fw f4 (by omega)⟩
      · obtain ⟨w1, w2⟩ := q9 t (by omega)
        refine ⟨?_, ((w2.fw c2 (by omega)).sw c1 (by omega)).fw f4 (by omega)⟩
        rw [rR_ne _ _ (by omega), (c2 _ _ (by omega)).2.2]; exact w1
  · rintro s n' c w M' k ⟨rfl, rfl, rfl, q1, q2, q3, q4, q6, q7, q8, q9⟩
    unfold wb_X0_init_15
    dsimp only
    exact ⟨fun _ => ⟨by omega, by omega, by omega, hp _ _ q1 q2 ⟨q3, q6, q7, q8, q9⟩ ⟨Nat.zero_le _, q4, fun i hi => absurd hi (Nat.not_lt_zero i)⟩⟩, fun z => absurd ((p_leI (a := 8) (b := 8) (by decide) (by decide)).mpr (Nat.le_refl _)) z⟩
theorem i4 (hy : y = b + n) (hp : ∀ sh' M', Sw y (y + 102) sh sh' → Fw y (y + 102) M M' → LMem sh' M' y (fun k => k) → memIs M' y (fun k => k) [] → post sh' M') : wp_X4_init b (shU sh y 4 0) (n + 1) (zM M y) y post := by
  unfold wp_X4_init
  rw [show b + (n + 1) = y + 1 by omega]
  have e2 : (shU (shU sh y 4 0) (y + 1) 15 20).1 y = 4 := by rw [shN1 _ (by omega), shU1]
  refine ⟨by decide, by decide, e2, ?_⟩
  unfold wp_X4_init_15
  refine forA 20 (fun i s n' c w M' => n' = n + 2 + 5 * i ∧ c = 1 + 5 * i ∧ w = 20 + 27 * i ∧ Sw y (y + 102) sh s ∧ Fw y (y + 102) M M' ∧ s.1 y = 4 ∧ rI M' y 1 = 0 ∧ rR M' y 0 = some (y + 1) ∧ s.1 (y + 1) = 15 ∧ s.2 (y + 1) = 20 ∧ ∀ t, t < i → rR M' (y + 1) t = some (y + 2 + 5 * t) ∧ LEntry s M' (y + 2 + 5 * t)) ?_ ?_ ?_
  · refine ⟨by omega, rfl, rfl, (Sw.u (by omega) (by omega)).t (Sw.u (by omega) (by omega)), ((Fw.z (by omega) (by omega)).t (Fw.z (by omega) (by omega))).t (Fw.r (by omega) (by omega)), e2, ?_, rR_same _ _ _ _, shU1 _ _ _ _, shU2 _ _ _ _, fun t ht => absurd ht (Nat.not_lt_zero t)⟩
    rw [rI_wR, zM_In _ (by omega), zM_I]
  · rintro i s n' c w M' k hi ⟨rfl, rfl, rfl, q1, q2, q3, q4, q6, q7, q8, q9⟩ hk
    unfold wb_X4_init_15
    dsimp only
    rw [show b + (n + 2 + 5 * i) = y + 2 + 5 * i by omega, p_cl (by omega)]
    refine ⟨fun z => absurd ((p_leI (a := 20) (by decide) (by omega)).mp z) (by omega), fun _ => ⟨q3, _, q6, by omega, by omega, by omega, by omega, i1 (y := y + 2 + 5 * i) (by omega) (fun s2 M2 c1 c2 c3 => ⟨(c1 _ (by omega)).1.trans q7, c3.1, by rw [(c1 _ (by omega)).2, q8]; exact p_in hi (by decide), ?_⟩)⟩⟩
    have f4 : Fw (y + 1) (y + 2) M2 (wR M2 (y + 1) i (some (y + 2 + 5 * i))) := Fw.r (by omega) (by omega)
    refine hk _ _ _ _ _ ⟨by omega, by omega, by omega, q1.t (c1.mono (by omega) (by omega)), q2.t ((c2.mono (by omega) (by omega)).t (f4.mono (by omega) (by omega))), (c1 _ (by omega)).1.trans q3, ?_, ?_, (c1 _ (by omega)).1.trans q7, (c1 _ (by omega)).2.trans q8, fun t ht => ?_⟩
    · rw [rI_wR, (c2 _ _ (by omega)).1]; exact q4
    · rw [rR_ne _ _ (by omega), (c2 _ _ (by omega)).2.2]; exact q6
    · by_cases z : t = i
      · subst z
        exact ⟨rR_same _ _ _ _, c3.fw f4 (by omega)⟩
      · obtain ⟨w1, w2⟩ := q9 t (by omega)
        refine ⟨?_, ((w2.fw c2 (by omega)).sw c1 (by omega)).fw f4 (by omega)⟩
        rw [rR_ne _ _ (by omega), (c2 _ _ (by omega)).2.2]; exact w1
  · rintro s n' c w M' k ⟨rfl, rfl, rfl, q1, q2, q3, q4, q6, q7, q8, q9⟩
    unfold wb_X4_init_15
    dsimp only
    exact ⟨fun _ => ⟨by omega, by omega, by omega, hp _ _ q1 q2 ⟨q3, q6, q7, q8, fun k hk => ⟨(q9 k hk).1, hk⟩, fun i j _ _ h => h, fun e he => (q9 e he).2⟩ ⟨Nat.zero_le _, q4, fun i hi => absurd hi (Nat.not_lt_zero i)⟩⟩, fun z => absurd ((p_leI (a := 20) (b := 20) (by decide) (by decide)).mpr (Nat.le_refl _)) z⟩
/-! the Planner's row of ones -/
theorem pl_one : ∀ p, p < 8 → (1 : Int32) <<< (nI p &&& 31) = nI (2 ^ p) := by decide +kernel
theorem pl_sft : ∀ p, p < 8 → (1 : Int32) <<< (((3 : Int32) * ((7 : Int32) - nI p)) &&& 31) = nI (2 ^ (3 * (7 - p))) := by decide +kernel
theorem pl_ones : ∀ p, p < 8 → ∀ s, s < 2 ^ p → onesN (2 ^ p + s) = onesN s + 2 ^ (3 * (7 - p)) := by decide +kernel
theorem i6 (hy : y = b + n) (hp : ∀ sh' M', Sw y (y + 5) sh sh' → Fw y (y + 5) M M' → LPl sh' M' y → onesIs M' y → post sh' M') : wp_X6_init b (shU sh y 6 0) (n + 1) (zM M y) y post := by
  unfold wp_X6_init
  rw [show b + (n + 1) = y + 1 by omega, show b + (n + 1 + 1) = y + 2 by omega, show b + (n + 1 + 2) = y + 3 by omega, show b + (n + 1 + 3) = y + 4 by omega]
  have e1 : (shU (shU sh y 6 0) (y + 1) 13 8).1 y = 6 := by rw [shN1 _ (by omega), shU1]
  have e2 : (shU (shU (shU sh y 6 0) (y + 1) 13 8) (y + 2) 13 256).1 y = 6 := by rw [shN1 _ (by omega)]; exact e1
  have e3 : (shU (shU (shU (shU sh y 6 0) (y + 1) 13 8) (y + 2) 13 256) (y + 3) 13 256).1 y = 6 := by rw [shN1 _ (by omega)]; exact e2
  have e4 : (shU (shU (shU (shU (shU sh y 6 0) (y + 1) 13 8) (y + 2) 13 256) (y + 3) 13 256) (y + 4) 14 256).1 y = 6 := by rw [shN1 _ (by omega)]; exact e3
  refine ⟨by decide, by decide, e1, by decide, by decide, e2, by decide, by decide, ?_⟩
  rintro M9 rfl
  refine ⟨e3, by decide, by decide, e4, ?_⟩
  have hS : Sw y (y + 5) sh (shU (shU (shU (shU (shU sh y 6 0) (y + 1) 13 8) (y + 2) 13 256) (y + 3) 13 256) (y + 4) 14 256) := ((((Sw.u (by omega) (by omega)).t (Sw.u (by omega) (by omega))).t (Sw.u (by omega) (by omega))).t (Sw.u (by omega) (by omega))).t (Sw.u (by omega) (by omega))
  have hF : Fw y (y + 5) M (wR (zM (wR (zM (wR (zM (wR (zM (zM M y) (y + 1)) y 0 (some (y + 1))) (y + 2)) y 1 (some (y + 2))) (y + 3)) y 2 (some (y + 3))) (y + 4)) y 3 (some (y + 4))) := ((((Fw.z (by omega) (by omega)).t ((Fw.z (by omega) (by omega)).t (Fw.r (by omega) (by omega)))).t ((Fw.z (by omega) (by omega)).t (Fw.r (by omega) (by omega)))).t ((Fw.z (by omega) (by omega)).t (Fw.r (by omega) (by omega)))).t ((Fw.z (by omega) (by omega)).t (Fw.r (by omega) (by omega)))
  have hL : LPl (shU (shU (shU (shU (shU sh y 6 0) (y + 1) 13 8) (y + 2) 13 256) (y + 3) 13 256) (y + 4) 14 256) (wR (zM (wR (zM (wR (zM (wR (zM (zM M y) (y + 1)) y 0 (some (y + 1))) (y + 2)) y 1 (some (y + 2))) (y + 3)) y 2 (some (y + 3))) (y + 4)) y 3 (some (y + 4))) y := by
    refine ⟨e4, ?_, ?_, ?_, rR_same _ _ _ _, ⟨?_, ?_⟩, ⟨?_, ?_⟩, ⟨?_, ?_⟩, shU1 _ _ _ _, shU2 _ _ _ _⟩
    · rw [rR_ne _ _ (by omega), zM_Rn _ (by omega), rR_ne _ _ (by omega), zM_Rn _ (by omega), rR_ne _ _ (by omega), zM_Rn _ (by omega), rR_same]
    · rw [rR_ne _ _ (by omega), zM_Rn _ (by omega), rR_ne _ _ (by omega), zM_Rn _ (by omega), rR_same]
    · rw [rR_ne _ _ (by omega), zM_Rn _ (by omega), rR_same]
    · rw [shN1 _ (by omega), shN1 _ (by omega), shN1 _ (by omega), shU1]
    · rw [shN2 _ (by omega), shN2 _ (by omega), shN2 _ (by omega), shU2]
    · rw [shN1 _ (by omega), shN1 _ (by omega), shU1]
    · rw [shN2 _ (by omega), shN2 _ (by omega), shU2]
    · rw [shN1 _ (by omega), shU1]
    · rw [shN2 _ (by omega), shU2]
  have h2 : rI (wR (zM (wR (zM (wR (zM (wR (zM (zM M y) (y + 1)) y 0 (some (y + 1))) (y + 2)) y 1 (some (y + 2))) (y + 3)) y 2 (some (y + 3))) (y + 4)) y 3 (some (y + 4))) (y + 2) 0 = 0 := by
    rw [rI_wR, zM_In _ (by omega), rI_wR, zM_In _ (by omega), rI_wR, zM_I]
  have h3 : rI (wR (zM (wR (zM (wR (zM (wR (zM (zM M y) (y + 1)) y 0 (some (y + 1))) (y + 2)) y 1 (some (y + 2))) (y + 3)) y 2 (some (y + 3))) (y + 4)) y 3 (some (y + 4))) (y + 3) 0 = 0 := by
    rw [rI_wR, zM_In _ (by omega), rI_wR, zM_I]
  generalize shU (shU (shU (shU (shU sh y 6 0) (y + 1) 13 8) (y + 2) 13 256) (y + 3) 13 256) (y + 4) 14 256 = S at hS hL ⊢
  generalize wR (zM (wR (zM (wR (zM (wR (zM (zM M y) (y + 1)) y 0 (some (y + 1))) (y + 2)) y 1 (some (y + 2))) (y + 3)) y 2 (some (y + 3))) (y + 4)) y 3 (some (y + 4)) = M4 at hF hL h2 h3 ⊢
  unfold wp_X6_init_41
  refine forA 8 (fun p s n' c w M' => n' = n + 5 ∧ c = 4 ∧ w = 776 ∧ s = S ∧ LPl S M' y ∧ Fw y (y + 5) M M' ∧ rI M' (y + 2) 0 = 0 ∧ ∀ q, q < 2 ^ p → rI M' (y + 3) q = nI (onesN q)) ?_ ?_ ?_
  · refine ⟨by omega, rfl, rfl, rfl, hL, hF, h2, fun q hq => ?_⟩
    have : q = 0 := by have : q < 1 := hq; omega
    subst this
    rw [h3]; decide +kernel
  · rintro p s n' c w M' k hp8 ⟨rfl, rfl, rfl, rfl, q1, q2, q3, q4⟩ hk
    unfold wb_X6_init_41
    dsimp only
    rw [pl_one p hp8]
    refine ⟨fun z => absurd ((p_leI (a := 8) (by decide) (by omega)).mp z) (by omega), fun _ => ?_⟩
    unfold wp_X6_init_53
    have hP : 2 ^ p ≤ 128 := Nat.le_trans (Nat.pow_le_pow_right (by decide) (show p ≤ 7 by omega)) (by decide)
    have hP2 : 2 ^ (p + 1) = 2 ^ p + 2 ^ p := by rw [Nat.pow_succ]; omega
    have ho := pl_ones p hp8
    have hf := pl_sft p hp8
    have hb : ∀ q, q < 256 → onesN q < 16777216 := by decide +kernel
    have hk2 : ∀ M', LPl s M' y → Fw y (y + 5) M M' → rI M' (y + 2) 0 = 0 → (∀ q, q < 2 ^ p + 2 ^ p → rI M' (y + 3) q = nI (onesN q)) → k (nI p + 1, s, n + 5, 4, 776, M') := fun M' w1 w2 w3 w4 => hk _ _ _ _ _ ⟨rfl, rfl, rfl, rfl, w1, w2, w3, fun q hq => w4 q (by omega)⟩
    generalize 2 ^ p = P at hP ho q4 hk2
    refine forA P (fun q s' n' c w M' => n' = n + 5 ∧ c = 4 ∧ w = 776 ∧ s' = s ∧ LPl s M' y ∧ Fw y (y + 5) M M' ∧ rI M' (y + 2) 0 = 0 ∧ ∀ j, j < P + q → rI M' (y + 3) j = nI (onesN j)) ⟨rfl, rfl, rfl, rfl, q1, q2, q3, fun j hj => q4 j (by omega)⟩ ?_ ?_
    · rintro q s' n' c w M1 k1 hq ⟨rfl, rfl, rfl, rfl, r1, r2, r3, r4⟩ hk1
      unfold wb_X6_init_53 wp_X6_shiftOf
      dsimp only
      rw [hf, nI_add, p_cl (show q < 2147483648 by omega), p_cl (show P + q < 2147483648 by omega)]
      refine ⟨fun z => absurd ((p_leI (by omega) (by omega)).mp z) (by omega), fun _ => ⟨r1.1, _, r1.2.2.2.1, r1.2.2.2.2.2.2.2.1.1, r1.v3 (by omega), by decide, by decide, r1.v3 (by omega), ?_⟩⟩
      have f5 : Fr (y + 3) (y + 4) M1 (wI M1 (y + 3) (P + q) (rI M1 (y + 3) q + nI (2 ^ (3 * (7 - p))))) := Fr.w (by omega) (by omega)
      refine hk1 _ _ _ _ _ ⟨rfl, rfl, rfl, rfl, r1.fw f5.fw (by omega), r2.t (f5.fw.mono (by omega) (by omega)), (rI_ne _ _ (by omega)).trans r3, fun j hj => ?_⟩
      by_cases z : j = P + q
      · subst z
        rw [rI_same, r4 q (by omega), nI_add, ho q hq]
      · rw [rI_ne _ _ (by omega)]; exact r4 j (by omega)
    · rintro s' n' c w M1 k1 ⟨rfl, rfl, rfl, rfl, r1, r2, r3, r4⟩
      unfold wb_X6_init_53
      exact ⟨fun _ => hk2 M1 r1 r2 r3 r4, fun z => absurd ((p_leI (by omega) (by omega)).mpr (Nat.le_refl P)) z⟩
  · rintro s n' c w M' k ⟨rfl, rfl, rfl, rfl, q1, q2, q3, q4⟩
    unfold wb_X6_init_41
    dsimp only
    exact ⟨fun _ => ⟨by omega, by omega, by omega, hp _ _ hS q2 q1 ⟨fun q hq => q4 q hq, q3⟩⟩, fun z => absurd ((p_leI (a := 8) (b := 8) (by decide) (by decide)).mpr (Nat.le_refl _)) z⟩
end Init2
