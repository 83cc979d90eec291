/-! Planner: measure, give, solve -/
theorem loopW {V : Type} {body : (V → Prop) → V → Prop} {v0 : V} (J : Nat → V → Prop) (n0 : Nat) (h0 : J n0 v0) (hs : ∀ n v k, J n v → (∀ n' v', n' < n → J n' v' → k v') → body k v) : gh_loop body v0 := by
  refine ⟨fun v => ∃ n, J n v, fun v => @dite Nat (∃ n, J n v) (Classical.propDecidable _) (fun h => Classical.choose (pk_least _ h)) (fun _ => 0), ⟨n0, h0⟩, ?_⟩
  intro v hv
  have e : ∀ v (hv : ∃ n, J n v), @dite Nat (∃ n, J n v) (Classical.propDecidable _) (fun h => Classical.choose (pk_least _ h)) (fun _ => 0) = Classical.choose (pk_least _ hv) := fun v hv => dif_pos hv
  have h1 := Classical.choose_spec (pk_least _ hv)
  refine hs (Classical.choose (pk_least _ hv)) v _ h1.1 (fun n' v' hn hJ => ⟨⟨n', hJ⟩, ?_⟩)
  dsimp only
  rw [e v hv, e v' ⟨n', hJ⟩]
  have h2 := Classical.choose_spec (pk_least (fun n => J n v') ⟨n', hJ⟩)
  have h3 : ¬ n' < Classical.choose (pk_least (fun n => J n v') ⟨n', hJ⟩) := fun z => h2.2 n' z hJ
  omega
theorem sumN_single {f : Nat → Nat} {i : Nat} : ∀ n, i < n → (∀ q, q < n → q ≠ i → f q = 0) → sumN f n = f i
  | n + 1, hi, h => by
    show sumN f n + f n = f i
    by_cases e : n = i
    · subst e
      have h2 : sumN f n = 0 := by
        rw [sumN_congr (f := f) (g := fun _ => 0) n (fun q hq => h q (by omega) (by omega))]
        exact sumN_zero (fun _ => rfl) n
      omega
    · have := sumN_single n (by omega) (fun q hq hne => h q (by omega) hne)
      have := h n (by omega) e
      omega
theorem sumS_pow {i : Nat} (hi : i < 8) {g : Nat → Nat} : sumS (2 ^ i) g = g i := by
  unfold sumS
  rw [sumN_single (i := i) 8 hi (fun q hq hne => by rw [Nat.testBit_two_pow, decide_eq_false (Ne.symm hne)]; rfl)]
  rw [Nat.testBit_two_pow, decide_eq_true rfl]; rfl
theorem set_add {i s : Nat} (hs : s < 2 ^ i) : 2 ^ i + s = 2 ^ i ||| s := by
  have := Nat.two_pow_add_eq_or_of_lt hs 1
  rwa [Nat.mul_one] at this
theorem sumS_add {i s : Nat} (hi : i < 8) (hs : s < 2 ^ i) {g : Nat → Nat} : sumS (2 ^ i + s) g = sumS s g + g i := by
  have hb : s.testBit i = false := Nat.testBit_lt_two_pow hs
  have h1 : subB (2 ^ i) (2 ^ i + s) := fun j hj => by
    rw [set_add hs, Nat.testBit_or, hj]; rfl
  rw [sumS_split h1, sumS_pow hi]
  have : (2 ^ i + s) ^^^ 2 ^ i = s := by
    rw [set_add hs, Nat.or_comm]
    exact or_xor hb
  rw [this]
theorem sumS_0 (g : Nat → Nat) : sumS 0 g = 0 := by
  unfold sumS
  exact sumN_zero (fun q => by rw [Nat.zero_testBit]; rfl) 8
theorem sumS_le8 {x B : Nat} {g : Nat → Nat} (h : ∀ p, p < 8 → g p ≤ B) : sumS x g ≤ 8 * B := sumN_bound 8 (fun p hp => by
  split
  · exact h p hp
  · exact Nat.zero_le _)
theorem i_shl : ∀ i, i < 8 → (1 : Int32) <<< (nI i &&& 31) = nI (2 ^ i) := by decide +kernel
theorem sub_le {x y : Nat} (h : subB x y) : x ≤ y := Nat.le_of_testBit (fun j hj => h j hj)
theorem sub_and {x y : Nat} (h : subB y x) : x &&& y = y := by
  apply Nat.eq_of_testBit_eq
  intro j
  rw [Nat.testBit_and]
  cases hy : y.testBit j with
  | false => exact Bool.and_false _
  | true => rw [h j hy]; rfl
theorem onM_le : ∀ x, x < 256 → onM x ≤ 2396745 := by decide +kernel
section CP
variable {sh : gh_Sh} {M : gh_M} {q : Nat}
theorem LPl.fr {M' : gh_M} (L : LPl sh M q) (h : ∀ x j, rR M' x j = rR M x j) : LPl sh M' q := ⟨L.1, (h _ _).trans L.2.1, (h _ _).trans L.2.2.1, (h _ _).trans L.2.2.2.1, (h _ _).trans L.2.2.2.2.1, L.2.2.2.2.2⟩
theorem LPl.v1 (L : LPl sh M q) {i : Nat} (hi : i < 8) : vp_in (nI i) (sh.2 (q + 1)) := by rw [L.2.2.2.2.2.1.2]; exact p_in hi (by decide)
theorem LPl.v2 (L : LPl sh M q) {i : Nat} (hi : i < 256) : vp_in (nI i) (sh.2 (q + 2)) := by rw [L.2.2.2.2.2.2.1.2]; exact p_in hi (by decide)
theorem LPl.v3 (L : LPl sh M q) {i : Nat} (hi : i < 256) : vp_in (nI i) (sh.2 (q + 3)) := by rw [L.2.2.2.2.2.2.2.1.2]; exact p_in hi (by decide)
theorem LPl.v4 (L : LPl sh M q) {i : Nat} (hi : i < 256) : vp_in (nI i) (sh.2 (q + 4)) := by rw [L.2.2.2.2.2.2.2.2.2]; exact p_in hi (by decide)
theorem LPl.k1 (L : LPl sh M q) : sh.1 (q + 1) = 13 := L.2.2.2.2.2.1.1
theorem LPl.k2 (L : LPl sh M q) : sh.1 (q + 2) = 13 := L.2.2.2.2.2.2.1.1
theorem LPl.k3 (L : LPl sh M q) : sh.1 (q + 3) = 13 := L.2.2.2.2.2.2.2.1.1
theorem LPl.k4 (L : LPl sh M q) : sh.1 (q + 4) = 14 := L.2.2.2.2.2.2.2.2.1
theorem s6_setEffort {post : gh_M → Prop} {i : Nat} {v : Int32} (L : LPl sh M q) (hi : i < 8) (h : post (wI M (q + 1) i v)) : wp_X6_setEffort sh M q (nI i) v post := by
  unfold wp_X6_setEffort
  refine ⟨fun c => absurd c (nI_pos (by omega)), fun _ => ⟨fun c => absurd ((p_leI (a := 8) (by omega) (by omega)).mp c) (by omega), fun _ => ⟨L.1, _, L.2.1, L.k1, L.v1 hi, ?_⟩⟩⟩
  rw [p_cl (by omega)]; exact h
/-- what measuring leaves as it was -/
def Fp (q : Nat) (M M' : gh_M) : Prop := (∀ x j, x ≠ q → x ≠ q + 2 → rI M' x j = rI M x j) ∧ (∀ x j, rJ M' x j = rJ M x j) ∧ ∀ x j, rR M' x j = rR M x j
theorem s6_m36 {post : gh_M → Prop} {k7 : Int32 → gh_M → Prop} {e : Nat → Nat} {i n d : Nat} {M1 : gh_M} (L : LPl sh M1 q) (hi : i < 8) (he : rI M1 (q + 1) i = nI (e i)) (hx : ∀ x, x < 2 ^ i → rI M1 (q + 2) x = nI (ldM e x)) (hk : ∀ M2, Fp q M1 M2 → rI M2 q 4 = nI (n + d) → (∀ x, x < 2 ^ (i + 1) → rI M2 (q + 2) x = nI (ldM e x)) → k7 (nI i + 1) M2) : wp_X6_measureSets_36 sh post k7 q (nI i) (nI (2 ^ i)) q (nI n) (nI d) M1 := by
  unfold wp_X6_measureSets_36 wp_X6_measureSets_42
  have hp : 2 ^ i * 2 ≤ 256 := by
    have : 2 ^ (i + 1) ≤ 2 ^ 8 := Nat.pow_le_pow_right (by omega) (by omega)
    rwa [Nat.pow_succ] at this
  have hp2 : 2 ^ (i + 1) = 2 ^ i + 2 ^ i := by rw [Nat.pow_succ]; omega
  refine ⟨L.1, for1 0 (2 ^ i) (by omega) (by omega) (fun s M2 => Fp q M1 M2 ∧ rI M2 q 4 = nI (n + d) ∧ ∀ x, x < 2 ^ i + s → rI M2 (q + 2) x = nI (ldM e x)) ⟨⟨fun x j h1 h2 => rI_ne _ _ (Or.inl h1), fun _ _ => rfl, fun _ _ => rfl⟩, ?_, fun x hx2 => ?_⟩ ?_ ?_⟩
  · rw [rI_same, nI_add]
  · rw [rI_ne _ _ (by omega)]; exact hx x (by omega)
  · rintro s M2 k - hs ⟨hf, hn, hv⟩ hk2
    unfold wb_X6_measureSets_42
    dsimp only
    have L2 := L.fr hf.2.2
    refine ⟨fun c => absurd ((p_leI (by omega) (by omega)).mp c) (by omega), fun _ => ⟨L.1, _, L2.2.2.1, L.k2, L.v2 (by omega), _, L2.2.1, L.k1, L.v1 hi, by rw [nI_add]; exact L.v2 (by omega), hk2 _ ⟨⟨fun x j h1 h2 => (rI_ne _ _ (Or.inl h2)).trans (hf.1 x j h1 h2), hf.2.1, hf.2.2⟩, ?_, fun x hx2 => ?_⟩⟩⟩
    · rw [rI_ne _ _ (by omega)]; exact hn
    · rw [nI_add, p_cl (by omega), p_cl (by omega), p_cl (by omega)]
      by_cases e1 : x = 2 ^ i + s
      · subst e1
        rw [rI_same, hv s (by omega), hf.1 _ _ (by omega) (by omega), he, nI_add]
        exact congrArg nI (sumS_add hi hs).symm
      · rw [rI_ne _ _ (Or.inr e1)]; exact hv x (by omega)
  · rintro M2 k ⟨hf, hn, hv⟩
    unfold wb_X6_measureSets_42
    dsimp only
    exact ⟨fun _ => hk M2 hf hn (fun x hx2 => hv x (by omega)), fun c => absurd ((p_leI (by omega) (by omega)).mpr (Nat.le_refl _)) c⟩
theorem s6_measure {post : gh_M → Prop} {e : Nat → Nat} (L : LPl sh M q) (he : ∀ p, p < 8 → rI M (q + 1) p = nI (e p)) (hb : ∀ p, e p ≤ 10) (h0 : rI M (q + 2) 0 = 0) (h : ∀ M', Fp q M M' → rI M' q 4 = nI (mkM (fun p => decide (0 < e p)) 8) → (∀ x, x < 256 → rI M' (q + 2) x = nI (ldM e x)) → post M') : wp_X6_measureSets sh M q post := by
  unfold wp_X6_measureSets wp_X6_measureSets_7
  refine ⟨L.1, for1 0 8 (by omega) (by omega) (fun i M1 => Fp q M M1 ∧ rI M1 q 4 = nI (mkM (fun p => decide (0 < e p)) i) ∧ ∀ x, x < 2 ^ i → rI M1 (q + 2) x = nI (ldM e x)) ⟨⟨fun x j h1 h2 => rI_ne _ _ (Or.inl h1), fun _ _ => rfl, fun _ _ => rfl⟩, rI_same _ _ _ _, fun x hx => ?_⟩ ?_ ?_⟩
  · have hx0 : x = 0 := by rw [Nat.pow_zero] at hx; omega
    subst hx0
    rw [rI_ne _ _ (by omega), h0]
    unfold ldM
    rw [sumS_0]; rfl
  · rintro i M1 k - hi ⟨hf, hn, hx⟩ hk
    unfold wb_X6_measureSets_7
    dsimp only
    have L1 := L.fr hf.2.2
    have e1 : rI M1 (q + 1) i = nI (e i) := (hf.1 _ _ (by omega) (by omega)).trans (he i hi)
    have fin : ∀ d, mkM (fun p => decide (0 < e p)) (i + 1) = mkM (fun p => decide (0 < e p)) i + d → wp_X6_measureSets_36 sh post (fun x M => k (x, M)) q (nI i) (nI (2 ^ i)) q (nI (mkM (fun p => decide (0 < e p)) i)) (nI d) M1 := fun d hd => s6_m36 L1 hi e1 hx (fun M2 f2 n2 v2 => hk M2 ⟨⟨fun x j h1 h2 => (f2.1 x j h1 h2).trans (hf.1 x j h1 h2), fun x j => (f2.2.1 x j).trans (hf.2.1 x j), fun x j => (f2.2.2 x j).trans (hf.2.2 x j)⟩, by rw [n2, hd], v2⟩)
    refine ⟨fun c => absurd ((p_leI (a := 8) (by omega) (by omega)).mp c) (by omega), fun _ => ⟨L.1, _, L1.2.1, L.k1, L.v1 hi, ?_⟩⟩
    rw [p_cl (by omega), e1, hn, i_shl i hi]
    have hb' := hb i
    refine ⟨fun c => ?_, fun c => ?_⟩
    · have h1 : e i = 0 := by have := (p_leI (b := 0) (by omega) (by omega)).mp c; omega
      refine fin 0 ?_
      show mkM _ i + (if decide (0 < e i) = true then 2 ^ i else 0) = _
      rw [if_neg (by simp [h1])]
    · have h1 : 0 < e i := Nat.pos_of_ne_zero fun z => c (by rw [z]; exact Int32.le_refl _)
      refine fin (2 ^ i) ?_
      show mkM _ i + (if decide (0 < e i) = true then 2 ^ i else 0) = _
      rw [if_pos (by simp [h1])]
  · rintro M1 k ⟨hf, hn, hx⟩
    unfold wb_X6_measureSets_7
    dsimp only
    exact ⟨fun _ => h M1 hf hn hx, fun c => absurd ((p_leI (a := 8) (by omega) (by omega)).mpr (Nat.le_refl _)) c⟩
theorem s6_giveTo {post : gh_M → Prop} {e B : Nat → Nat} {nd j H R : Nat} (L : LPl sh M q) (hnd : nd < 256) (hj : j < 5) (hH : H ≤ 20) (hR : R ≤ 9) (hB : ∀ x, subB x nd → B x < 1152921504606846976) (he : ∀ p, e p ≤ 10) (h4 : rI M q 4 = nI nd) (hl : ∀ x, x < 256 → rI M (q + 2) x = nI (ldM e x)) (ho : ∀ x, x < 256 → rI M (q + 3) x = nI (onM x)) (hb : ∀ x, subB x nd → rJ M (q + 4) x = lN (B x))
    (h : ∀ M', Fj (q + 4) M M' → (∀ x, subB x nd → ∃ v, rJ M' (q + 4) x = lN v ∧ NewV e H R j B x v) → post M') : wp_X6_giveTo sh M q (nI j) (nI H) (nI R) post := by
  unfold wp_X6_giveTo wp_X6_giveTo_6
  rw [h4]
  refine ⟨L.1, loopW (fun n v => subB n nd ∧ v.1 = nI n ∧ Fj (q + 4) M v.2 ∧ ∀ x, subB x nd → (x ≤ n → rJ v.2 (q + 4) x = lN (B x)) ∧ (n < x → ∃ w, rJ v.2 (q + 4) x = lN w ∧ NewV e H R j B x w)) nd ⟨fun _ z => z, rfl, Fj.rf _ _, fun x hx => ⟨fun _ => hb x hx, fun z => absurd (sub_le hx) (by omega)⟩⟩ ?_⟩
  rintro n ⟨x4, M1⟩ k ⟨hn, hx4, hf, hv⟩ hk
  dsimp only at hx4 hf hv
  subst hx4
  unfold wb_X6_giveTo_6
  dsimp only
  have hnn := sub_le hn
  have L1 := L.fr hf.2.2
  refine ⟨fun c => ?_, fun c => ?_⟩
  · have n0 : n = 0 := by have := (p_leI (b := 0) (by omega) (by omega)).mp c; omega
    subst n0
    refine h M1 hf (fun x hx => ?_)
    by_cases e0 : x = 0
    · subst e0; exact ⟨B 0, (hv 0 hx).1 (Nat.le_refl _), Nat.le_refl _, fun y hy h0 => absurd (sub_le hy) (by omega), Or.inl rfl⟩
    · exact (hv x hx).2 (by omega)
  have n0 : 0 < n := Nat.pos_of_ne_zero fun z => c (by rw [z]; exact Int32.le_refl _)
  refine ⟨L.1, _, L1.2.2.2.2.1, L.k4, L.v4 (by omega), ?_⟩
  rw [p_cl (by omega), (hv n hn).1 (Nat.le_refl _)]
  unfold wp_X6_giveTo_24
  refine loopW (fun p v => subB p n ∧ v.2.1 = nI p ∧ v.2.2 = M1 ∧ ∃ w, v.1 = lN w ∧ w ≤ B n ∧ (∀ y, subB y n → p < y → ldM e y ≤ H → w ≤ B (n ^^^ y) + (ldM e y * R * 16777216 + j * onM y)) ∧ (w = B n ∨ ∃ y, subB y n ∧ 0 < y ∧ ldM e y ≤ H ∧ w = B (n ^^^ y) + (ldM e y * R * 16777216 + j * onM y))) n ⟨fun _ z => z, rfl, rfl, B n, rfl, Nat.le_refl _, fun y hy h1 => absurd (sub_le hy) (by omega), Or.inl rfl⟩ ?_
  rintro p ⟨x5, x7, M2⟩ k2 ⟨hp, hx7, hM2, w, hx5, w1, w2, w3⟩ hk2
  dsimp only at hx7 hM2 hx5
  subst hx7 hM2 hx5
  unfold wb_X6_giveTo_24 wp_X6_giveTo_86
  dsimp only
  have hpn := sub_le hp
  have hBn := hB n hn
  refine ⟨fun c2 => ?_, fun c2 => ?_⟩
  · have p0 : p = 0 := by have := (p_leI (b := 0) (by omega) (by omega)).mp c2; omega
    subst p0
    refine ⟨L.1, _, L1.2.2.2.2.1, L.k4, L.v4 (by omega), ?_⟩
    rw [p_cl (by omega), rI_wJ, hf.1, h4, p_pred n0, i_and _ _ (by omega) hnd]
    have hle : (n - 1) &&& nd ≤ n - 1 := Nat.and_le_left
    refine hk ((n - 1) &&& nd) _ (by omega) ⟨and_sub _ _, rfl, hf.w _ _ _, fun x hx => ⟨fun hx2 => ?_, fun hx2 => ?_⟩⟩
    · rw [rJ_ne _ _ (Or.inr (by omega))]; exact (hv x hx).1 (by omega)
    · by_cases ex : x = n
      · subst ex
        rw [rJ_same]
        exact ⟨w, rfl, w1, fun y hy h0 => w2 y hy h0, w3⟩
      · by_cases lt : x < n
        · have := sub_next 8 n nd x (by omega) hn hx n0 lt
          omega
        · rw [rJ_ne _ _ (Or.inr ex)]; exact (hv x hx).2 (by omega)
  have p0 : 0 < p := Nat.pos_of_ne_zero fun z => c2 (by rw [z]; exact Int32.le_refl _)
  have next : ∀ w', w' ≤ B n → (∀ y, subB y n → p ≤ y → ldM e y ≤ H → w' ≤ B (n ^^^ y) + (ldM e y * R * 16777216 + j * onM y)) → (w' = B n ∨ ∃ y, subB y n ∧ 0 < y ∧ ldM e y ≤ H ∧ w' = B (n ^^^ y) + (ldM e y * R * 16777216 + j * onM y)) → k2 (lN w', (nI p - (1 : Int32)) &&& nI n, M2) := fun w' a b c => by
    rw [p_pred p0, i_and _ _ (by omega) (by omega)]
    have hle : (p - 1) &&& n ≤ p - 1 := Nat.and_le_left
    refine hk2 ((p - 1) &&& n) _ (by omega) ⟨and_sub _ _, rfl, rfl, w', rfl, a, fun y hy hlt hld => b y hy ?_ hld, c⟩
    apply Classical.byContradiction
    intro z
    have := sub_next 8 p n y (by omega) hp hy p0 (by omega)
    omega
  have hlp : rI M2 (q + 2) p = nI (ldM e p) := (hf.1 _ _).trans (hl p (by omega))
  have hop : rI M2 (q + 3) p = nI (onM p) := (hf.1 _ _).trans (ho p (by omega))
  have ldb : ldM e p ≤ 80 := sumS_le8 (B := 10) (fun x _ => he x)
  have onb := onM_le p (by omega)
  refine ⟨L.1, _, L1.2.2.1, L.k2, L.v2 (by omega), ?_⟩
  rw [p_cl (by omega), hlp]
  refine ⟨fun c3 => ?_, fun c3 => ?_⟩
  · have h3 : H < ldM e p := (p_ltI (by omega) (by omega)).mp c3
    refine next w w1 (fun y hy hle hld => ?_) w3
    by_cases ey : y = p
    · subst ey; omega
    · exact w2 y hy (by omega) hld
  have h3 : ldM e p ≤ H := Nat.not_lt.mp fun z => c3 ((p_ltI (by omega) (by omega)).mpr z)
  have hxl := sub_xlt n (by omega) p (by omega) p0 (sub_and hp)
  have hxs : subB (n ^^^ p) nd := sub_tr (xor_sub hp) hn
  have hBx := hB _ hxs
  have m1 : ldM e p * R ≤ 720 := Nat.mul_le_mul ldb hR
  have m2 : j * onM p ≤ 4 * 2396745 := Nat.mul_le_mul (by omega) onb
  rw [i_xor2]
  refine ⟨L.v2 (by omega), _, L1.2.2.2.1, L.k3, L.v3 (by omega), _, L1.2.2.2.2.1, L.k4, L.v4 (by omega), ?_⟩
  rw [p_cl (by omega), hop, (hv _ hxs).1 (by omega), pk_mul, pk_mul, nI_l (by omega), nI_l (by omega), show (24 : Int32) = nI 24 from rfl, q_shl _ (by omega), lN_add, lN_add, q_min (by omega) (by omega)]
  have hmin : min w (B (n ^^^ p) + (ldM e p * R * 2 ^ 24 + j * onM p)) ≤ w := Nat.min_le_left _ _
  have hmin2 : min w (B (n ^^^ p) + (ldM e p * R * 2 ^ 24 + j * onM p)) ≤ B (n ^^^ p) + (ldM e p * R * 2 ^ 24 + j * onM p) := Nat.min_le_right _ _
  have hor : min w (B (n ^^^ p) + (ldM e p * R * 2 ^ 24 + j * onM p)) = w ∨ min w (B (n ^^^ p) + (ldM e p * R * 2 ^ 24 + j * onM p)) = B (n ^^^ p) + (ldM e p * R * 2 ^ 24 + j * onM p) := by omega
  refine next _ (by omega) (fun y hy hle hld => ?_) ?_
  · by_cases ey : y = p
    · subst ey; exact hmin2
    · have := w2 y hy (by omega) hld
      omega
  · rcases hor with z | z
    · rw [z]; exact w3
    · exact Or.inr ⟨p, hp, p0, h3, z⟩
end CP
