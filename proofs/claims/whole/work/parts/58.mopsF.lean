/-! the reference's calls: release, many, keep, back -/
section MF
variable {sh : gh_Sh} {m : Nat} {a : AbS} {M : gh_M}
/-- a row of what is released, as the reference has it -/
theorem mSrc.rel {l : List PcT} {i t : Nat} (h : mSrc m M l) (hi : i < l.length) (ht : t < 3) : ((rI M (m + 10) (3 * i + t) = 2 ∧ rI M (m + 12) (3 * i + t) = nI (relOf (l.getD i pc0) t).length ∧ ∀ j, j < (relOf (l.getD i pc0) t).length → rI M (m + 13) (10 * (3 * i + t) + j) = (relOf (l.getD i pc0) t).getD j 0) ∨ (¬ rI M (m + 10) (3 * i + t) = 2 ∧ rI M (m + 3) i = nI (relOf (l.getD i pc0) t).length ∧ (relOf (l.getD i pc0) t).length ≤ 8 ∧ ∀ j, j < (relOf (l.getD i pc0) t).length → rI M (m + 4) (8 * i + j) = (relOf (l.getD i pc0) t).getD j 0)) ∧ (relOf (l.getD i pc0) t).length ≤ 10 := by
  obtain ⟨q1, q2, q3, q4, q5, q6, q7⟩ := h.ats hi
  obtain ⟨s1, s2⟩ := q7 t ht
  unfold relOf
  by_cases e : ((l.getD i pc0).2.2.2.2 t).1 = 2
  · rw [if_pos e, s1]
    rcases s2 with ⟨z, -⟩ | ⟨-, z2, z3, z4, z5⟩
    · rw [e] at z; exact absurd z (by decide)
    · exact ⟨Or.inl ⟨e, z4, z5⟩, z2⟩
  · rw [if_neg e, s1]
    exact ⟨Or.inr ⟨e, q3, q2, q4⟩, by omega⟩
theorem mo_release (h : RM sh m a M) (t x : Int32) : wp_X12_release sh M m t x (QM sh m M (opRelease a t x)) := by
  have hR := h
  obtain ⟨L, d1, d2, d3, d4, d5, d6, d7, d8⟩ := h
  unfold wp_X12_release opRelease
  have h8 := d2.1
  have h2 : rI M m 2 = nI (aS a).length := d2.2.1
  refine s12_isTongue (fun e _ => br0 ?_) (fun t' ht' e1 e => br1 ?_)
  · rw [e]; exact QM.same hR
  rw [e]
  subst e1
  dsimp only
  unfold wp_X12_release_14
  by_cases hx : x.toInt < 0
  · rw [if_pos hx]
    refine for2 0 (aS a).length (by omega) (by omega) (fun i y M1 => M1 = M) rfl ?_ ?_
    · rintro i y M1 k - hi rfl hk
      unfold wb_X12_release_14
      dsimp only
      exact ⟨L.1, fun _ => QM.same hR, fun _ => ⟨fun _ => QM.same hR, fun c => absurd ((p_lt0 x).mpr hx) c⟩⟩
    · rintro y M1 k rfl
      unfold wb_X12_release_14
      dsimp only
      rw [h2]
      exact ⟨L.1, fun _ => QM.same hR, fun c => absurd ((p_leI (by omega) (by omega)).mpr (Nat.le_refl _)) c⟩
  rw [if_neg hx]
  obtain ⟨n0, hn0, rfl⟩ := nI_of (x := x) (by rw [p_lt0]; exact hx)
  have hn0' : n0 < 2147483648 := hn0
  rw [p_ti hn0', Int.toNat_natCast]
  refine for2 0 (aS a).length (by omega) (by omega) (fun i y M1 => M1 = M ∧ ∃ n, n < 2147483648 ∧ y = nI n ∧ relAt (aS a) t' 9 0 n0 = relAt (aS a) t' (9 - i) i n) ⟨rfl, n0, hn0', rfl, rfl⟩ ?_ ?_
  · rintro i y M1 k - hi ⟨rfl, n, hn, rfl, hv⟩ hk
    obtain ⟨hr, h10⟩ := d2.rel hi ht'
    have hu : relAt (aS a) t' (9 - i) i n = if n < (relOf ((aS a).getD i pc0) t').length then (relOf ((aS a).getD i pc0) t').getD n 0 else relAt (aS a) t' (9 - (i + 1)) (i + 1) (n - (relOf ((aS a).getD i pc0) t').length) := by
      rw [show 9 - i = (9 - (i + 1)) + 1 by omega]
      conv => lhs; unfold relAt
      rw [if_pos hi]
    unfold wb_X12_release_14
    dsimp only
    rw [h2, e3]
    refine ⟨L.1, fun c => absurd ((p_leI (by omega) (by omega)).mp c) (by omega), fun _ => ⟨fun c => absurd c (nI_pos hn0'), fun _ => ⟨_, L.f12, L.k10, L.v10 (i := 3 * i + t') (by omega) rfl, ?_⟩⟩⟩
    rw [p_cl (show 3 * i + t' < 2147483648 by omega)]
    unfold wp_X12_release_51
    rcases hr with ⟨r1, r2, r3⟩ | ⟨r1, r2, r4, r3⟩
    · refine ⟨fun _ => br1 ⟨L.1, _, L.f14, L.k12, L.v12 (i := 3 * i + t') (by omega) rfl, ?_⟩, fun c => absurd r1 c⟩
      rw [p_cl (show 3 * i + t' < 2147483648 by omega), r2]
      unfold wp_X12_release_75
      refine ⟨fun c => ?_, fun c => br1 ⟨L.1, _, L.f15, L.k13, ?_⟩⟩
      · rw [p_leI (by omega) hn] at c
        rw [if_neg (by omega)] at hu
        exact hk _ _ ⟨rfl, _, by omega, pk_sub c, hv.trans hu⟩
      · have c' : ¬ (relOf ((aS a).getD i pc0) t').length ≤ n := fun z => c ((p_leI (by omega) hn).mpr z)
        rw [if_pos (by omega)] at hu
        rw [e10, p_cl (by omega), r3 n (by omega), hv, hu]
        exact ⟨L.v13 (i := 10 * (3 * i + t') + n) (by omega) rfl, QM.same hR⟩
    · refine ⟨fun c => absurd c r1, fun _ => br0 ⟨L.1, _, L.f4, L.k3, L.v3 (i := i) (by omega) rfl, ?_⟩⟩
      rw [p_cl (show i < 2147483648 by omega), r2]
      unfold wp_X12_release_75
      refine ⟨fun c => ?_, fun c => br0 ⟨L.1, _, L.f5, L.k4, ?_⟩⟩
      · rw [p_leI (by omega) hn] at c
        rw [if_neg (by omega)] at hu
        exact hk _ _ ⟨rfl, _, by omega, pk_sub c, hv.trans hu⟩
      · have c' : ¬ (relOf ((aS a).getD i pc0) t').length ≤ n := fun z => c ((p_leI (by omega) hn).mpr z)
        rw [if_pos (by omega)] at hu
        rw [e8, p_cl (by omega), r3 n (by omega), hv, hu]
        exact ⟨L.v4 (i := 8 * i + n) (by omega) rfl, QM.same hR⟩
  · rintro y M1 k ⟨rfl, n, hn, rfl, hv⟩
    unfold wb_X12_release_14
    dsimp only
    rw [h2]
    refine ⟨L.1, fun _ => ?_, fun c => absurd ((p_leI (by omega) (by omega)).mpr (Nat.le_refl _)) c⟩
    rw [hv, show 9 - (aS a).length = (8 - (aS a).length) + 1 by omega]
    unfold relAt
    rw [if_neg (by omega)]
    exact QM.same hR
theorem s12_relMany {post : Int32 → gh_M → Prop} {t : Nat} {l : List PcT} (L : LM sh M m) (d2 : mSrc m M l) (ht : t < 3) (hp : post (nI (sumN (fun i => (relOf (l.getD i pc0) t).length) l.length)) M) : wp_X12_releaseMany sh M m (nI t) post := by
  unfold wp_X12_releaseMany wp_X12_releaseMany_4
  have h8 := d2.1
  have h2 : rI M m 2 = nI l.length := d2.2.1
  refine for2 0 l.length (by omega) (by omega) (fun i y M1 => M1 = M ∧ y = nI (sumN (fun i => (relOf (l.getD i pc0) t).length) i)) ⟨rfl, rfl⟩ ?_ ?_
  · rintro i y M1 k - hi ⟨rfl, rfl⟩ hk
    unfold wb_X12_releaseMany_4 wp_X12_releaseMany_46
    dsimp only
    obtain ⟨hr, h10⟩ := d2.rel hi ht
    rw [h2, e3]
    refine ⟨L.1, fun c => absurd ((p_leI (by omega) (by omega)).mp c) (by omega), fun _ => ⟨_, L.f12, L.k10, L.v10 (i := 3 * i + t) (by omega) rfl, ?_⟩⟩
    rw [p_cl (show 3 * i + t < 2147483648 by omega)]
    rcases hr with ⟨r1, r2, r3⟩ | ⟨r1, r2, r4, r3⟩
    · refine ⟨fun _ => ⟨_, L.f14, L.k12, L.v12 (i := 3 * i + t) (by omega) rfl, hk _ _ ⟨rfl, ?_⟩⟩, fun c => absurd r1 c⟩
      rw [r2]; exact nI_add _ _
    · refine ⟨fun c => absurd c r1, fun _ => ⟨_, L.f4, L.k3, L.v3 (i := i) (by omega) rfl, hk _ _ ⟨rfl, ?_⟩⟩⟩
      rw [p_cl (by omega), r2]; exact nI_add _ _
  · rintro y M1 k ⟨rfl, rfl⟩
    unfold wb_X12_releaseMany_4
    dsimp only
    rw [h2]
    exact ⟨L.1, fun _ => hp, fun c => absurd ((p_leI (by omega) (by omega)).mpr (Nat.le_refl _)) c⟩
theorem s12_inState {post : Int32 → gh_M → Prop} {st : Int32} {l : List PcT} (L : LM sh M m) (d2 : mSrc m M l) (hp : post (nI (sumN (fun i => cnt3 (fun t => decide (((l.getD i pc0).2.2.2.2 t).1 = st)) 3) l.length)) M) : wp_X12_inState sh M m st post := by
  unfold wp_X12_inState wp_X12_inState_4
  have h8 := d2.1
  have h2 : rI M m 2 = nI l.length := d2.2.1
  refine for2 0 l.length (by omega) (by omega) (fun i y M1 => M1 = M ∧ y = nI (sumN (fun i => cnt3 (fun t => decide (((l.getD i pc0).2.2.2.2 t).1 = st)) 3) i)) ⟨rfl, rfl⟩ ?_ ?_
  · rintro i y M1 k - hi ⟨rfl, rfl⟩ hk
    unfold wb_X12_inState_4
    dsimp only
    rw [h2]
    refine ⟨L.1, fun c => absurd ((p_leI (by omega) (by omega)).mp c) (by omega), fun _ => ?_⟩
    unfold wp_X12_inState_15
    refine for2 0 3 (by omega) (by omega) (fun n y M2 => M2 = M1 ∧ y = nI (sumN (fun i => cnt3 (fun t => decide (((l.getD i pc0).2.2.2.2 t).1 = st)) 3) i + cnt3 (fun t => decide (((l.getD i pc0).2.2.2.2 t).1 = st)) n)) ⟨rfl, rfl⟩ ?_ ?_
    · rintro n y M2 k2 - hn ⟨rfl, rfl⟩ hk2
      unfold wb_X12_inState_15 wp_X12_inState_42
      dsimp only
      have s1 : rI M2 (m + 10) (3 * i + n) = ((l.getD i pc0).2.2.2.2 n).1 := ((d2.ats hi).2.2.2.2.2.2 n hn).1
      have hu : cnt3 (fun t => decide (((l.getD i pc0).2.2.2.2 t).1 = st)) (n + 1) = cnt3 (fun t => decide (((l.getD i pc0).2.2.2.2 t).1 = st)) n + if decide (((l.getD i pc0).2.2.2.2 n).1 = st) = true then 1 else 0 := rfl
      refine ⟨fun c => absurd ((p_leI (a := 3) (by omega) (by omega)).mp c) (by omega), fun _ => ⟨L.1, _, L.f12, L.k10, L.v10 (i := 3 * i + n) (by omega) (e3 _ _), ?_⟩⟩
      rw [e3, p_cl (by omega), s1]
      rw [hu] at hk2
      refine ⟨fun c => hk2 _ _ ⟨rfl, ?_⟩, fun c => hk2 _ _ ⟨rfl, ?_⟩⟩
      · rw [if_pos (decide_eq_true c), ← Nat.add_assoc]; exact nI_1 _
      · rw [if_neg (fun q => c (of_decide_eq_true q))]; exact nI_add _ 0
    · rintro y M2 k2 ⟨rfl, rfl⟩
      unfold wb_X12_inState_15
      dsimp only
      exact ⟨fun _ => hk _ _ ⟨rfl, rfl⟩, fun c => absurd ((p_leI (a := 3) (by omega) (by omega)).mpr (by omega)) c⟩
  · rintro y M1 k ⟨rfl, rfl⟩
    unfold wb_X12_inState_4
    dsimp only
    rw [h2]
    exact ⟨L.1, fun _ => hp, fun c => absurd ((p_leI (by omega) (by omega)).mpr (Nat.le_refl _)) c⟩
theorem mo_many (h : RM sh m a M) (w : Int32) : wp_X12_many sh M m w (QM sh m M (opMany a w)) := by
  have hR := h
  obtain ⟨L, d1, d2, d3, d4, d5, d6, d7, d8⟩ := h
  unfold wp_X12_many
  refine ⟨fun c => ⟨L.1, ?_⟩, fun c => ⟨L.1, ?_⟩, fun c => ⟨L.1, ?_⟩, fun c => ⟨L.1, ?_⟩, fun c => ⟨L.1, ?_⟩, fun c => ⟨L.1, ?_⟩, fun c => ⟨L.1, ?_⟩, fun c => ⟨L.1, ?_⟩, fun c => ⟨L.1, ?_⟩, fun c => ⟨L.1, ?_⟩, fun c => ⟨L.1, ?_⟩, fun c => ⟨L.1, ?_⟩, fun c => ?_⟩
  · subst c; rw [show rI M m 2 = nI (aS a).length from d2.2.1]; exact QM.same hR
  · subst c; rw [d3.2.1]; exact QM.same hR
  · subst c; rw [d1.2.1]; exact QM.same hR
  · subst c; rw [d4.2.1]; exact QM.same hR
  · subst c; rw [d5.2.1]; exact QM.same hR
  · subst c; rw [show rI M m 25 = nI (aM a).length from d7.2.1]; exact QM.same hR
  · subst c; exact s12_inState L d2 (QM.same hR)
  · subst c; exact s12_inState L d2 (QM.same hR)
  · subst c; exact s12_inState L d2 (QM.same hR)
  · subst c; exact s12_relMany (t := 0) L d2 (by decide) (QM.same hR)
  · subst c; exact s12_relMany (t := 1) L d2 (by decide) (QM.same hR)
  · subst c; exact s12_relMany (t := 2) L d2 (by decide) (QM.same hR)
  · unfold opMany
    have c' : ¬ (9 ≤ w.toInt ∧ w.toInt ≤ 11) := by omega
    have n : ∀ k : Int32, 0 ≤ k.toInt → k.toInt ≤ 8 → ¬ w = k := fun k h1 h2 z => by rw [z] at c; omega
    rw [if_neg (n 0 (by decide) (by decide)), if_neg (n 1 (by decide) (by decide)), if_neg (n 2 (by decide) (by decide)), if_neg (n 3 (by decide) (by decide)), if_neg (n 4 (by decide) (by decide)), if_neg (n 5 (by decide) (by decide)), if_neg (n 6 (by decide) (by decide)), if_neg (n 7 (by decide) (by decide)), if_neg (n 8 (by decide) (by decide)), p_ix3 c']
    exact QM.same hR
theorem ch420 {M1 : gh_M} {q1 q2 : Nat} (h1 : 1 ≤ q2) (h2 : q2 < 39) (k1 : ∀ a j, a ≠ m + q2 → rI M1 a j = rI M a j) (k3 : ∀ a j, rJ M1 a j = rJ M a j) (k4 : ∀ a j, rR M1 a j = rR M a j) : Ch m [q2] [] M M1 :=
  ⟨fun k j _ _ hk => k1 _ _ (fun z => hk (by rw [show k = q2 by omega]; simp)), fun f _ => k1 _ _ (by omega), fun x j hx => k1 _ _ (by omega), k3, k4⟩
theorem mo_keep (h : RM sh m a M) : wp_X12_keep sh M m (QM sh m M (opKeep a)) := by
  have hR := h
  obtain ⟨L, d1, d2, d3, d4, d5, d6, d7, d8⟩ := h
  unfold wp_X12_keep opKeep
  have z0 : (0 : Int32).toNatClampNeg = 0 := rfl
  have z1 : (1 : Int32).toNatClampNeg = 1 := rfl
  have c1 : Ch m [21, 22, 23, 24] [27] M (wI M m 27 1) := Ch.wf 27 _ (by decide)
  have c2 : Ch m [21, 22, 23, 24] [27] M (wI (wI M m 27 1) (m + 21) 0 (rI (wI M m 27 1) m 2)) := c1.tr (Ch.wa 21 _ _ (by decide) (by decide) (by decide))
  refine ⟨L.1, _, (c1.lm L).f28, L.k21, L.v21 (i := 0) (by omega) rfl, ?_⟩
  rw [z0]
  rintro M5 rfl
  refine ⟨L.v21 (i := 1) (by omega) rfl, ?_⟩
  rw [z1]
  have c3 : Ch m [21, 22, 23, 24] [27] M (wI (wI (wI M m 27 1) (m + 21) 0 (rI (wI M m 27 1) m 2)) (m + 21) 1 (rI (wI (wI M m 27 1) (m + 21) 0 (rI (wI M m 27 1) m 2)) m 25)) := c2.tr (Ch.wa 21 _ _ (by decide) (by decide) (by decide))
  have v0 : rI (wI (wI (wI M m 27 1) (m + 21) 0 (rI (wI M m 27 1) m 2)) (m + 21) 1 (rI (wI (wI M m 27 1) (m + 21) 0 (rI (wI M m 27 1) m 2)) m 25)) (m + 21) 0 = rI M m 2 := by rw [rI_ne _ _ (by omega), rI_same, rI_ne _ _ (by omega)]
  have v1 : rI (wI (wI (wI M m 27 1) (m + 21) 0 (rI (wI M m 27 1) m 2)) (m + 21) 1 (rI (wI (wI M m 27 1) (m + 21) 0 (rI (wI M m 27 1) m 2)) m 25)) (m + 21) 1 = rI M m 25 := by rw [rI_same, rI_ne _ _ (by omega), rI_ne _ _ (by omega)]
  have v27 : rI (wI (wI (wI M m 27 1) (m + 21) 0 (rI (wI M m 27 1) m 2)) (m + 21) 1 (rI (wI (wI M m 27 1) (m + 21) 0 (rI (wI M m 27 1) m 2)) m 25)) m 27 = 1 := by rw [rI_ne _ _ (by omega), rI_ne _ _ (by omega), rI_same]
  generalize wI (wI (wI M m 27 1) (m + 21) 0 (rI (wI M m 27 1) m 2)) (m + 21) 1 (rI (wI (wI M m 27 1) (m + 21) 0 (rI (wI M m 27 1) m 2)) m 25) = M0 at c3 v0 v1 v27 ⊢
  unfold wp_X12_keep_27
  refine for1 0 8 (by omega) (by omega) (fun n M1 => Ch m [22] [] M0 M1 ∧ ∀ k, k < n → rI M1 (m + 22) k = rI M (m + 2) k ∧ rI M1 (m + 22) (8 + k) = rI M (m + 3) k ∧ rI M1 (m + 22) (16 + k) = rI M (m + 5) k ∧ rI M1 (m + 22) (24 + k) = rI M (m + 6) k) ⟨Ch.rf _ _ _ _, fun k hk => by omega⟩ ?_ ?_
  · rintro n M1 kk - hn ⟨hc, hq⟩ hkk
    unfold wb_X12_keep_27
    dsimp only
    have L1 := hc.lm (c3.lm L)
    have y2 : rI M1 (m + 2) n = rI M (m + 2) n := by rw [hc.ar 2 (by decide) (by decide) (by decide), c3.ar 2 (by decide) (by decide) (by decide)]
    have y3 : rI M1 (m + 3) n = rI M (m + 3) n := by rw [hc.ar 3 (by decide) (by decide) (by decide), c3.ar 3 (by decide) (by decide) (by decide)]
    have y5 : rI M1 (m + 5) n = rI M (m + 5) n := by rw [hc.ar 5 (by decide) (by decide) (by decide), c3.ar 5 (by decide) (by decide) (by decide)]
    have y6 : rI M1 (m + 6) n = rI M (m + 6) n := by rw [hc.ar 6 (by decide) (by decide) (by decide), c3.ar 6 (by decide) (by decide) (by decide)]
    rw [b8, b16, b24, p_cl (show n < 2147483648 by omega), p_cl (show 8 + n < 2147483648 by omega), p_cl (show 16 + n < 2147483648 by omega), p_cl (show 24 + n < 2147483648 by omega)]
    refine ⟨fun c => absurd ((p_leI (a := 8) (by omega) (by omega)).mp c) (by omega), fun _ => ⟨L.1, _, L1.f29, _, L1.f3, L.k2, L.v2 (i := n) (by omega) rfl, L.k22, L.v22 (i := n) (by omega) rfl, ?_⟩⟩
    have w1 : Ch m [22] [] M1 (wI M1 (m + 22) n (rI M1 (m + 2) n)) := Ch.wa 22 _ _ (by decide) (by decide) (by decide)
    refine ⟨_, (w1.lm L1).f4, L.k3, L.v3 (i := n) (by omega) rfl, L.v22 (i := 8 + n) (by omega) rfl, ?_⟩
    have w2 := w1.tr (Ch.wa (S := [22]) (F := []) (M := wI M1 (m + 22) n (rI M1 (m + 2) n)) 22 (8 + n) (rI (wI M1 (m + 22) n (rI M1 (m + 2) n)) (m + 3) n) (by decide) (by decide) (by decide))
    refine ⟨_, (w2.lm L1).f6, L.k5, L.v5 (i := n) (by omega) rfl, ?_⟩
    rintro M16 rfl
    have w3 := w2.tr (Ch.wa (S := [22]) (F := []) (M := wI (wI M1 (m + 22) n (rI M1 (m + 2) n)) (m + 22) (8 + n) (rI (wI M1 (m + 22) n (rI M1 (m + 2) n)) (m + 3) n)) 22 (16 + n) (rI (wI (wI M1 (m + 22) n (rI M1 (m + 2) n)) (m + 22) (8 + n) (rI (wI M1 (m + 22) n (rI M1 (m + 2) n)) (m + 3) n)) (m + 5) n) (by decide) (by decide) (by decide))
    refine ⟨L.v22 (i := 16 + n) (by omega) rfl, _, (w3.lm L1).f29, _, (w3.lm L1).f7, L.k6, L.v6 (i := n) (by omega) rfl, L.k22, L.v22 (i := 24 + n) (by omega) rfl, hkk _ ⟨hc.tr (w3.tr (Ch.wa 22 _ _ (by decide) (by decide) (by decide))), fun k hk => ?_⟩⟩
    by_cases e : k = n
    · subst e
      simp (disch := omega) only [rI_ne, rI_same, y2, y3, y5, y6, and_self]
    · simp (disch := omega) only [rI_ne]
      exact hq k (by omega)
  rintro M1 kk ⟨hc, hq⟩
  unfold wb_X12_keep_27
  dsimp only
  refine ⟨fun _ => ?_, fun c => absurd ((p_leI (a := 8) (by omega) (by omega)).mpr (by omega)) c⟩
  unfold wp_X12_keep_98
  have d9 : Ch m [21, 22, 23, 24] [27] M M1 := c3.tr (hc.mono (by decide) (by decide))
  refine for1 0 64 (by omega) (by omega) (fun n M2 => Ch m [22] [] M1 M2 ∧ (∀ q, q < 32 → rI M2 (m + 22) q = rI M1 (m + 22) q) ∧ ∀ k, k < n → rI M2 (m + 22) (32 + k) = rI M (m + 4) k) ⟨Ch.rf _ _ _ _, fun _ _ => rfl, fun k hk => by omega⟩ ?_ ?_
  · rintro n M2 k2 - hn ⟨hc2, hq2, hq3⟩ hk2
    unfold wb_X12_keep_98
    dsimp only
    have L2 := hc2.lm (d9.lm L)
    have y4 : rI M2 (m + 4) n = rI M (m + 4) n := by rw [hc2.ar 4 (by decide) (by decide) (by decide), d9.ar 4 (by decide) (by decide) (by decide)]
    rw [b32, p_cl (show n < 2147483648 by omega), p_cl (show 32 + n < 2147483648 by omega)]
    refine ⟨fun c => absurd ((p_leI (a := 64) (by omega) (by omega)).mp c) (by omega), fun _ => ⟨L.1, _, L2.f29, _, L2.f5, L.k4, L.v4 (i := n) (by omega) rfl, L.k22, L.v22 (i := 32 + n) (by omega) rfl, hk2 _ ⟨hc2.tr (Ch.wa 22 _ _ (by decide) (by decide) (by decide)), fun q hq5 => by rw [rI_ne _ _ (by omega)]; exact hq2 q hq5, fun k hk => ?_⟩⟩⟩
    by_cases e : k = n
    · subst e; rw [rI_same]; exact y4
    · rw [rI_ne _ _ (by omega)]; exact hq3 k (by omega)
  rintro M2 k2 ⟨hc2, hq2, hq3⟩
  unfold wb_X12_keep_98
  dsimp only
  refine ⟨fun _ => ?_, fun c => absurd ((p_leI (a := 64) (by omega) (by omega)).mpr (by omega)) c⟩
  unfold wp_X12_keep_127
  have d10 : Ch m [21, 22, 23, 24] [27] M M2 := d9.tr (hc2.mono (by decide) (by decide))
  refine for1 0 24 (by omega) (by omega) (fun n M3 => Ch m [23] [] M2 M3 ∧ ∀ k, k < n → rI M3 (m + 23) k = rI M (m + 10) k ∧ rI M3 (m + 23) (24 + k) = rI M (m + 11) k ∧ rI M3 (m + 23) (48 + k) = rI M (m + 12) k) ⟨Ch.rf _ _ _ _, fun k hk => by omega⟩ ?_ ?_
  · rintro n M3 k3 - hn ⟨hc3, hq4⟩ hk3
    unfold wb_X12_keep_127
    dsimp only
    have L3 := hc3.lm (d10.lm L)
    have y2 : rI M3 (m + 10) n = rI M (m + 10) n := by rw [hc3.ar 10 (by decide) (by decide) (by decide), d10.ar 10 (by decide) (by decide) (by decide)]
    have y3 : rI M3 (m + 11) n = rI M (m + 11) n := by rw [hc3.ar 11 (by decide) (by decide) (by decide), d10.ar 11 (by decide) (by decide) (by decide)]
    have y5 : rI M3 (m + 12) n = rI M (m + 12) n := by rw [hc3.ar 12 (by decide) (by decide) (by decide), d10.ar 12 (by decide) (by decide) (by decide)]
    rw [b24, b48, p_cl (show n < 2147483648 by omega), p_cl (show 24 + n < 2147483648 by omega), p_cl (show 48 + n < 2147483648 by omega)]
    refine ⟨fun c => absurd ((p_leI (a := 24) (by omega) (by omega)).mp c) (by omega), fun _ => ⟨L.1, _, L3.f30, _, L3.f12, L.k10, L.v10 (i := n) (by omega) rfl, L.k23, L.v23 (i := n) (by omega) rfl, ?_⟩⟩
    have w1 : Ch m [23] [] M3 (wI M3 (m + 23) n (rI M3 (m + 10) n)) := Ch.wa 23 _ _ (by decide) (by decide) (by decide)
    refine ⟨_, (w1.lm L3).f13, L.k11, L.v11 (i := n) (by omega) rfl, L.v23 (i := 24 + n) (by omega) rfl, ?_⟩
    have w2 := w1.tr (Ch.wa (S := [23]) (F := []) (M := wI M3 (m + 23) n (rI M3 (m + 10) n)) 23 (24 + n) (rI (wI M3 (m + 23) n (rI M3 (m + 10) n)) (m + 11) n) (by decide) (by decide) (by decide))
    refine ⟨_, (w2.lm L3).f14, L.k12, L.v12 (i := n) (by omega) rfl, ?_⟩
    rintro M16 rfl
    refine ⟨L.v23 (i := 48 + n) (by omega) rfl, hk3 _ ⟨hc3.tr (w2.tr (Ch.wa 23 _ _ (by decide) (by decide) (by decide))), fun k hk => ?_⟩⟩
    by_cases e : k = n
    · subst e
      simp (disch := omega) only [rI_ne, rI_same, y2, y3, y5, and_self]
    · simp (disch := omega) only [rI_ne]
      exact hq4 k (by omega)
  rintro M3 k3 ⟨hc3, hq4⟩
  unfold wb_X12_keep_127
  dsimp only
  refine ⟨fun _ => ?_, fun c => absurd ((p_leI (a := 24) (by omega) (by omega)).mpr (by omega)) c⟩
  unfold wp_X12_keep_183
  have d11 : Ch m [21, 22, 23, 24] [27] M M3 := d10.tr (hc3.mono (by decide) (by decide))
  refine for1 0 240 (by omega) (by omega) (fun n M4 => Ch m [23] [] M3 M4 ∧ (∀ q, q < 72 → rI M4 (m + 23) q = rI M3 (m + 23) q) ∧ ∀ k, k < n → rI M4 (m + 23) (72 + k) = rI M (m + 13) k) ⟨Ch.rf _ _ _ _, fun _ _ => rfl, fun k hk => by omega⟩ ?_ ?_
  · rintro n M4 k4 - hn ⟨hc4, hq5, hq6⟩ hk4
    unfold wb_X12_keep_183
    dsimp only
    have L4 := hc4.lm (d11.lm L)
    have y4 : rI M4 (m + 13) n = rI M (m + 13) n := by rw [hc4.ar 13 (by decide) (by decide) (by decide), d11.ar 13 (by decide) (by decide) (by decide)]
    rw [b72, p_cl (show n < 2147483648 by omega), p_cl (show 72 + n < 2147483648 by omega)]
    refine ⟨fun c => absurd ((p_leI (a := 240) (by omega) (by omega)).mp c) (by omega), fun _ => ⟨L.1, _, L4.f30, _, L4.f15, L.k13, L.v13 (i := n) (by omega) rfl, L.k23, L.v23 (i := 72 + n) (by omega) rfl, hk4 _ ⟨hc4.tr (Ch.wa 23 _ _ (by decide) (by decide) (by decide)), fun q hq7 => by rw [rI_ne _ _ (by omega)]; exact hq5 q hq7, fun k hk => ?_⟩⟩⟩
    by_cases e : k = n
    · subst e; rw [rI_same]; exact y4
    · rw [rI_ne _ _ (by omega)]; exact hq6 k (by omega)
  rintro M4 k4 ⟨hc4, hq5, hq6⟩
  unfold wb_X12_keep_183
  dsimp only
  have d12 : Ch m [21, 22, 23, 24] [27] M M4 := d11.tr (hc4.mono (by decide) (by decide))
  have L4 := d12.lm L
  refine ⟨fun _ => ⟨L.1, _, L4.f26, _, L4.f31, s12_copy (n := 420) rfl (by decide) L.k20 (by rw [L.n20]; decide) (by rw [L.n20]; decide) L.k24 (by rw [L.n24]; decide) (by rw [L.n24]; decide) (by omega) (fun M5 k1 k2' k3' k4' => ?_)⟩, fun c => absurd ((p_leI (a := 240) (by omega) (by omega)).mpr (by omega)) c⟩
  have hc5 : Ch m [24] [] M4 M5 := ch420 (q1 := 0) (by decide) (by decide) k1 k3' k4'
  have d13 : Ch m [21, 22, 23, 24] [27] M M5 := d12.tr (hc5.mono (by decide) (by decide))
  have x21 : rI M5 (m + 21) = rI M0 (m + 21) := by rw [hc5.ar 21 (by decide) (by decide) (by decide), hc4.ar 21 (by decide) (by decide) (by decide), hc3.ar 21 (by decide) (by decide) (by decide), hc2.ar 21 (by decide) (by decide) (by decide), hc.ar 21 (by decide) (by decide) (by decide)]
  have x22 : rI M5 (m + 22) = rI M2 (m + 22) := by rw [hc5.ar 22 (by decide) (by decide) (by decide), hc4.ar 22 (by decide) (by decide) (by decide), hc3.ar 22 (by decide) (by decide) (by decide)]
  have x23 : rI M5 (m + 23) = rI M4 (m + 23) := hc5.ar 23 (by decide) (by decide) (by decide)
  have x27 : rI M5 m 27 = 1 := by rw [hc5.fl 27 (by decide), hc4.fl 27 (by decide), hc3.fl 27 (by decide), hc2.fl 27 (by decide), hc.fl 27 (by decide)]; exact v27
  refine QM.to ⟨d1.ch d13 (by decide) (by decide), d2.ch d13 (by decide) (by decide), d3.ch d13 (by decide) (by decide), d4.ch d13 (by decide) (by decide), d5.ch d13 (by decide) (by decide), (d13.fl 24 (by decide)).trans d6, d7.ch d13 (by decide) (by decide), ⟨x27, mSrcF.ext d2 ?_ (fun i hi => ?_) (fun i hi => ?_) (fun i hi => ?_) (fun i hi => ?_) (fun i hi => ?_) (fun i hi => ?_) (fun i hi => ?_) (fun i hi => ?_) (fun i hi => ?_), mMemF.ext d7 ?_ (fun i hi => ?_)⟩⟩ L d13
  · rw [x21]; exact v0
  · rw [x22, hq2 i (by omega)]; exact (hq i hi).1
  · rw [x22, hq2 _ (by omega)]; exact (hq i hi).2.1
  · rw [x22]; exact hq3 i hi
  · rw [x22, hq2 _ (by omega)]; exact (hq i hi).2.2.1
  · rw [x22, hq2 _ (by omega)]; exact (hq i hi).2.2.2
  · rw [x23, hq5 _ (by omega)]; exact (hq4 i hi).1
  · rw [x23, hq5 _ (by omega)]; exact (hq4 i hi).2.1
  · rw [x23, hq5 _ (by omega)]; exact (hq4 i hi).2.2
  · rw [x23]; exact hq6 i hi
  · rw [x21]; exact v1
  · rw [k2' i hi, d12.ar 20 (by decide) (by decide) (by decide)]
theorem mo_back (h : RM sh m a M) : wp_X12_back sh M m (QM sh m M (opBack a)) := by
  have hR := h
  obtain ⟨L, d1, d2, d3, d4, d5, d6, d7, d8⟩ := h
  unfold wp_X12_back opBack
  have z0 : (0 : Int32).toNatClampNeg = 0 := rfl
  have z1 : (1 : Int32).toNatClampNeg = 1 := rfl
  cases hz : aK a with
  | none =>
    have d8' := d8
    rw [hz] at d8'
    have e : rI M m 27 = 0 := d8'
    rw [e]
    exact ⟨L.1, br0 (QM.same hR)⟩
  | some x =>
    have d8' := d8
    rw [hz] at d8'
    obtain ⟨e, kb, km⟩ := d8'
    rw [e]
    refine ⟨L.1, br1 ⟨_, L.f28, L.k21, L.v21 (i := 0) (by omega) rfl, L.v21 (i := 1) (by omega) rfl, ?_⟩⟩
    rw [z0, z1]
    have c3 : Ch m [2, 3, 4, 5, 6, 10, 11, 12, 13, 20] [2, 25] M (wI (wI M m 2 (rI M (m + 21) 0)) m 25 (rI (wI M m 2 (rI M (m + 21) 0)) (m + 21) 1)) := (Ch.wf 2 _ (by decide)).tr (Ch.wf 25 _ (by decide))
    have v0 : rI (wI (wI M m 2 (rI M (m + 21) 0)) m 25 (rI (wI M m 2 (rI M (m + 21) 0)) (m + 21) 1)) m 2 = rI M (m + 21) 0 := by rw [rI_ne _ _ (by omega), rI_same]
    have v1 : rI (wI (wI M m 2 (rI M (m + 21) 0)) m 25 (rI (wI M m 2 (rI M (m + 21) 0)) (m + 21) 1)) m 25 = rI M (m + 21) 1 := by rw [rI_same, rI_ne _ _ (by omega)]
    generalize wI (wI M m 2 (rI M (m + 21) 0)) m 25 (rI (wI M m 2 (rI M (m + 21) 0)) (m + 21) 1) = M0 at c3 v0 v1 ⊢
    unfold wp_X12_back_32
    refine for1 0 8 (by omega) (by omega) (fun n M1 => Ch m [2, 3, 5, 6] [] M0 M1 ∧ ∀ k, k < n → rI M1 (m + 2) k = rI M (m + 22) k ∧ rI M1 (m + 3) k = rI M (m + 22) (8 + k) ∧ rI M1 (m + 5) k = rI M (m + 22) (16 + k) ∧ rI M1 (m + 6) k = rI M (m + 22) (24 + k)) ⟨Ch.rf _ _ _ _, fun k hk => by omega⟩ ?_ ?_
    · rintro n M1 kk - hn ⟨hc, hq⟩ hkk
      unfold wb_X12_back_32
      dsimp only
      have L1 := hc.lm (c3.lm L)
      have y : ∀ q, rI M1 (m + 22) q = rI M (m + 22) q := fun q => by rw [hc.ar 22 (by decide) (by decide) (by decide), c3.ar 22 (by decide) (by decide) (by decide)]
      rw [b8, b16, b24, p_cl (show n < 2147483648 by omega), p_cl (show 8 + n < 2147483648 by omega), p_cl (show 16 + n < 2147483648 by omega), p_cl (show 24 + n < 2147483648 by omega)]
      refine ⟨fun c => absurd ((p_leI (a := 8) (by omega) (by omega)).mp c) (by omega), fun _ => ⟨L.1, _, L1.f3, _, L1.f29, L.k22, L.v22 (i := n) (by omega) rfl, L.k2, L.v2 (i := n) (by omega) rfl, ?_⟩⟩
      have w1 : Ch m [2, 3, 5, 6] [] M1 (wI M1 (m + 2) n (rI M1 (m + 22) n)) := Ch.wa 2 _ _ (by decide) (by decide) (by decide)
      refine ⟨_, (w1.lm L1).f4, L.v22 (i := 8 + n) (by omega) rfl, L.k3, L.v3 (i := n) (by omega) rfl, ?_⟩
      have w2 := w1.tr (Ch.wa (S := [2, 3, 5, 6]) (F := []) (M := wI M1 (m + 2) n (rI M1 (m + 22) n)) 3 n (rI (wI M1 (m + 2) n (rI M1 (m + 22) n)) (m + 22) (8 + n)) (by decide) (by decide) (by decide))
      refine ⟨_, (w2.lm L1).f6, L.v22 (i := 16 + n) (by omega) rfl, ?_⟩
      rintro M15 rfl
      have w3 := w2.tr (Ch.wa (S := [2, 3, 5, 6]) (F := []) (M := wI (wI M1 (m + 2) n (rI M1 (m + 22) n)) (m + 3) n (rI (wI M1 (m + 2) n (rI M1 (m + 22) n)) (m + 22) (8 + n))) 5 n (rI (wI (wI M1 (m + 2) n (rI M1 (m + 22) n)) (m + 3) n (rI (wI M1 (m + 2) n (rI M1 (m + 22) n)) (m + 22) (8 + n))) (m + 22) (16 + n)) (by decide) (by decide) (by decide))
      refine ⟨L.k5, L.v5 (i := n) (by omega) rfl, _, (w3.lm L1).f7, _, (w3.lm L1).f29, L.k22, L.v22 (i := 24 + n) (by omega) rfl, L.k6, L.v6 (i := n) (by omega) rfl, hkk _ ⟨hc.tr (w3.tr (Ch.wa 6 _ _ (by decide) (by decide) (by decide))), fun k hk => ?_⟩⟩
      by_cases e : k = n
      · subst e
        simp (disch := omega) only [rI_ne, rI_same, y, and_self]
      · simp (disch := omega) only [rI_ne]
        exact hq k (by omega)
    rintro M1 kk ⟨hc, hq⟩
    unfold wb_X12_back_32
    dsimp only
    refine ⟨fun _ => ?_, fun c => absurd ((p_leI (a := 8) (by omega) (by omega)).mpr (by omega)) c⟩
    unfold wp_X12_back_103
    have d9 : Ch m [2, 3, 4, 5, 6, 10, 11, 12, 13, 20] [2, 25] M M1 := c3.tr (hc.mono (by decide) (by decide))
    refine for1 0 64 (by omega) (by omega) (fun n M2 => Ch m [4] [] M1 M2 ∧ ∀ k, k < n → rI M2 (m + 4) k = rI M (m + 22) (32 + k)) ⟨Ch.rf _ _ _ _, fun k hk => by omega⟩ ?_ ?_
    · rintro n M2 k2 - hn ⟨hc2, hq3⟩ hk2
      unfold wb_X12_back_103
      dsimp only
      have L2 := hc2.lm (d9.lm L)
      have y4 : rI M2 (m + 22) (32 + n) = rI M (m + 22) (32 + n) := by rw [hc2.ar 22 (by decide) (by decide) (by decide), d9.ar 22 (by decide) (by decide) (by decide)]
      rw [b32, p_cl (show n < 2147483648 by omega), p_cl (show 32 + n < 2147483648 by omega)]
      refine ⟨fun c => absurd ((p_leI (a := 64) (by omega) (by omega)).mp c) (by omega), fun _ => ⟨L.1, _, L2.f5, _, L2.f29, L.k22, L.v22 (i := 32 + n) (by omega) rfl, L.k4, L.v4 (i := n) (by omega) rfl, hk2 _ ⟨hc2.tr (Ch.wa 4 _ _ (by decide) (by decide) (by decide)), fun k hk => ?_⟩⟩⟩
      by_cases e : k = n
      · subst e; rw [rI_same]; exact y4
      · rw [rI_ne _ _ (by omega)]; exact hq3 k (by omega)
    rintro M2 k2 ⟨hc2, hq3⟩
    unfold wb_X12_back_103
    dsimp only
    refine ⟨fun _ => ?_, fun c => absurd ((p_leI (a := 64) (by omega) (by omega)).mpr (by omega)) c⟩
    unfold wp_X12_back_132
    have d10 : Ch m [2, 3, 4, 5, 6, 10, 11, 12, 13, 20] [2, 25] M M2 := d9.tr (hc2.mono (by decide) (by decide))
    refine for1 0 24 (by omega) (by omega) (fun n M3 => Ch m [10, 11, 12] [] M2 M3 ∧ ∀ k, k < n → rI M3 (m + 10) k = rI M (m + 23) k ∧ rI M3 (m + 11) k = rI M (m + 23) (24 + k) ∧ rI M3 (m + 12) k = rI M (m + 23) (48 + k)) ⟨Ch.rf _ _ _ _, fun k hk => by omega⟩ ?_ ?_
    · rintro n M3 k3 - hn ⟨hc3, hq4⟩ hk3
      unfold wb_X12_back_132
      dsimp only
      have L3 := hc3.lm (d10.lm L)
      have y : ∀ q, rI M3 (m + 23) q = rI M (m + 23) q := fun q => by rw [hc3.ar 23 (by decide) (by decide) (by decide), d10.ar 23 (by decide) (by decide) (by decide)]
      rw [b24, b48, p_cl (show n < 2147483648 by omega), p_cl (show 24 + n < 2147483648 by omega), p_cl (show 48 + n < 2147483648 by omega)]
      refine ⟨fun c => absurd ((p_leI (a := 24) (by omega) (by omega)).mp c) (by omega), fun _ => ⟨L.1, _, L3.f12, _, L3.f30, L.k23, L.v23 (i := n) (by omega) rfl, L.k10, L.v10 (i := n) (by omega) rfl, ?_⟩⟩
      have w1 : Ch m [10, 11, 12] [] M3 (wI M3 (m + 10) n (rI M3 (m + 23) n)) := Ch.wa 10 _ _ (by decide) (by decide) (by decide)
      refine ⟨_, (w1.lm L3).f13, L.v23 (i := 24 + n) (by omega) rfl, L.k11, L.v11 (i := n) (by omega) rfl, ?_⟩
      have w2 := w1.tr (Ch.wa (S := [10, 11, 12]) (F := []) (M := wI M3 (m + 10) n (rI M3 (m + 23) n)) 11 n (rI (wI M3 (m + 10) n (rI M3 (m + 23) n)) (m + 23) (24 + n)) (by decide) (by decide) (by decide))
      refine ⟨_, (w2.lm L3).f14, L.v23 (i := 48 + n) (by omega) rfl, ?_⟩
      rintro M15 rfl
      refine ⟨L.k12, L.v12 (i := n) (by omega) rfl, hk3 _ ⟨hc3.tr (w2.tr (Ch.wa 12 _ _ (by decide) (by decide) (by decide))), fun k hk => ?_⟩⟩
      by_cases e : k = n
      · subst e
        simp (disch := omega) only [rI_ne, rI_same, y, and_self]
      · simp (disch := omega) only [rI_ne]
        exact hq4 k (by omega)
    rintro M3 k3 ⟨hc3, hq4⟩
    unfold wb_X12_back_132
    dsimp only
    refine ⟨fun _ => ?_, fun c => absurd ((p_leI (a := 24) (by omega) (by omega)).mpr (by omega)) c⟩
    unfold wp_X12_back_188
    have d11 : Ch m [2, 3, 4, 5, 6, 10, 11, 12, 13, 20] [2, 25] M M3 := d10.tr (hc3.mono (by decide) (by decide))
    refine for1 0 240 (by omega) (by omega) (fun n M4 => Ch m [13] [] M3 M4 ∧ ∀ k, k < n → rI M4 (m + 13) k = rI M (m + 23) (72 + k)) ⟨Ch.rf _ _ _ _, fun k hk => by omega⟩ ?_ ?_
    · rintro n M4 k4 - hn ⟨hc4, hq6⟩ hk4
      unfold wb_X12_back_188
      dsimp only
      have L4 := hc4.lm (d11.lm L)
      have y4 : rI M4 (m + 23) (72 + n) = rI M (m + 23) (72 + n) := by rw [hc4.ar 23 (by decide) (by decide) (by decide), d11.ar 23 (by decide) (by decide) (by decide)]
      rw [b72, p_cl (show n < 2147483648 by omega), p_cl (show 72 + n < 2147483648 by omega)]
      refine ⟨fun c => absurd ((p_leI (a := 240) (by omega) (by omega)).mp c) (by omega), fun _ => ⟨L.1, _, L4.f15, _, L4.f30, L.k23, L.v23 (i := 72 + n) (by omega) rfl, L.k13, L.v13 (i := n) (by omega) rfl, hk4 _ ⟨hc4.tr (Ch.wa 13 _ _ (by decide) (by decide) (by decide)), fun k hk => ?_⟩⟩⟩
      by_cases e : k = n
      · subst e; rw [rI_same]; exact y4
      · rw [rI_ne _ _ (by omega)]; exact hq6 k (by omega)
    rintro M4 k4 ⟨hc4, hq6⟩
    unfold wb_X12_back_188
    dsimp only
    have d12 : Ch m [2, 3, 4, 5, 6, 10, 11, 12, 13, 20] [2, 25] M M4 := d11.tr (hc4.mono (by decide) (by decide))
    have L4 := d12.lm L
    refine ⟨fun _ => ⟨L.1, _, L4.f31, _, L4.f26, s12_copy (n := 420) rfl (by decide) L.k24 (by rw [L.n24]; decide) (by rw [L.n24]; decide) L.k20 (by rw [L.n20]; decide) (by rw [L.n20]; decide) (by omega) (fun M5 k1 k2' k3' k4' => ?_)⟩, fun c => absurd ((p_leI (a := 240) (by omega) (by omega)).mpr (by omega)) c⟩
    have hc5 : Ch m [20] [] M4 M5 := ch420 (q1 := 0) (by decide) (by decide) k1 k3' k4'
    have d13 : Ch m [2, 3, 4, 5, 6, 10, 11, 12, 13, 20] [2, 25] M M5 := d12.tr (hc5.mono (by decide) (by decide))
    have xr : ∀ k, 1 ≤ k → k < 39 → k ∉ [20, 13, 10, 11, 12, 4] → rI M5 (m + k) = rI M1 (m + k) := fun k h1 h2 h3 => by
      simp at h3
      rw [hc5.ar k h1 h2 (by simp; omega), hc4.ar k h1 h2 (by simp; omega), hc3.ar k h1 h2 (by simp; omega), hc2.ar k h1 h2 (by simp; omega)]
    have x4 : rI M5 (m + 4) = rI M2 (m + 4) := by rw [hc5.ar 4 (by decide) (by decide) (by decide), hc4.ar 4 (by decide) (by decide) (by decide), hc3.ar 4 (by decide) (by decide) (by decide)]
    have x10 : ∀ k, k ∈ [10, 11, 12] → rI M5 (m + k) = rI M3 (m + k) := fun k h3 => by
      simp at h3
      rw [hc5.ar k (by omega) (by omega) (by simp; omega), hc4.ar k (by omega) (by omega) (by simp; omega)]
    have x13 : rI M5 (m + 13) = rI M4 (m + 13) := hc5.ar 13 (by decide) (by decide) (by decide)
    have xf : ∀ f, rI M5 m f = rI M0 m f := fun f => by rw [hc5.fl f (by simp), hc4.fl f (by simp), hc3.fl f (by simp), hc2.fl f (by simp), hc.fl f (by simp)]
    refine QM.to ⟨d1.ch d13 (by decide) (by decide), mSrcF.ext kb ?_ (fun i hi => ?_) (fun i hi => ?_) (fun i hi => ?_) (fun i hi => ?_) (fun i hi => ?_) (fun i hi => ?_) (fun i hi => ?_) (fun i hi => ?_) (fun i hi => ?_), d3.ch d13 (by decide) (by decide), d4.ch d13 (by decide) (by decide), d5.ch d13 (by decide) (by decide), (d13.fl 24 (by decide)).trans d6, mMemF.ext km ?_ (fun i hi => ?_), d8.ch d13 (by decide) (by decide)⟩ L d13
    · rw [xf]; exact v0
    · rw [xr 2 (by decide) (by decide) (by decide)]; exact (hq i hi).1
    · rw [xr 3 (by decide) (by decide) (by decide)]; exact (hq i hi).2.1
    · rw [x4]; exact hq3 i hi
    · rw [xr 5 (by decide) (by decide) (by decide)]; exact (hq i hi).2.2.1
    · rw [xr 6 (by decide) (by decide) (by decide)]; exact (hq i hi).2.2.2
    · rw [x10 10 (by decide)]; exact (hq4 i hi).1
    · rw [x10 11 (by decide)]; exact (hq4 i hi).2.1
    · rw [x10 12 (by decide)]; exact (hq4 i hi).2.2
    · rw [x13]; exact hq6 i hi
    · rw [xf]; exact v1
    · rw [k2' i hi, d12.ar 24 (by decide) (by decide) (by decide)]
end MF
