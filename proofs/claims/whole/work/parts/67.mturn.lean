/-! the reference: turn -/
/-- only what belongs to place i has changed -/
def OutI (m i : Nat) (M M' : gh_M) : Prop := Ch m [5, 6, 10, 11, 12, 13] [] M M' ∧ (∀ q, q ≠ i → rI M' (m + 5) q = rI M (m + 5) q ∧ rI M' (m + 6) q = rI M (m + 6) q) ∧ (∀ q, (q < 3 * i ∨ 3 * i + 3 ≤ q) → rI M' (m + 10) q = rI M (m + 10) q ∧ rI M' (m + 11) q = rI M (m + 11) q ∧ rI M' (m + 12) q = rI M (m + 12) q) ∧ ∀ q, (q < 30 * i ∨ 30 * i + 30 ≤ q) → rI M' (m + 13) q = rI M (m + 13) q
theorem OutI.rf (m i : Nat) (M : gh_M) : OutI m i M M := ⟨Ch.rf _ _ _ _, fun _ _ => ⟨rfl, rfl⟩, fun _ _ => ⟨rfl, rfl, rfl⟩, fun _ _ => rfl⟩
theorem OutI.tr {m i : Nat} {M M1 M2 : gh_M} (x : OutI m i M M1) (y : OutI m i M1 M2) : OutI m i M M2 :=
  ⟨x.1.tr y.1, fun q hq => ⟨(y.2.1 q hq).1.trans (x.2.1 q hq).1, (y.2.1 q hq).2.trans (x.2.1 q hq).2⟩, fun q hq => ⟨(y.2.2.1 q hq).1.trans (x.2.2.1 q hq).1, (y.2.2.1 q hq).2.1.trans (x.2.2.1 q hq).2.1, (y.2.2.1 q hq).2.2.trans (x.2.2.1 q hq).2.2⟩, fun q hq => (y.2.2.2 q hq).trans (x.2.2.2 q hq)⟩
theorem OutI.w {m i : Nat} {M M1 : gh_M} (x : OutI m i M M1) (k j : Nat) (v : Int32) (hk : k ∈ [5, 6, 10, 11, 12, 13]) (h5 : (k = 5 ∨ k = 6) → j = i) (h10 : (k = 10 ∨ k = 11 ∨ k = 12) → 3 * i ≤ j ∧ j < 3 * i + 3) (h13 : k = 13 → 30 * i ≤ j ∧ j < 30 * i + 30) : OutI m i M (wI M1 (m + k) j v) := by
  have hk2 := hk
  simp at hk2
  refine x.tr ⟨Ch.wa k j v (by omega) (by omega) hk, fun q hq => ⟨rI_ne _ _ (by omega), rI_ne _ _ (by omega)⟩, fun q hq => ⟨rI_ne _ _ (by omega), rI_ne _ _ (by omega), rI_ne _ _ (by omega)⟩, fun q hq => rI_ne _ _ (by omega)⟩
section MT
variable {sh : gh_Sh} {m : Nat} {a : AbS} {M : gh_M}
theorem s12_takeOver {post : gh_M → Prop} {i k : Nat} {far : Int32} (L : LM sh M m) (hi : i < 8) (hk : k < 8) (hp : ∀ M', OutI m i M M' → (∀ q, rI M' (m + 5) q = rI M (m + 5) q ∧ rI M' (m + 6) q = rI M (m + 6) q) → (∀ t, t < 3 → (rI M' (m + 10) (3 * i + t) = if 0 < (rI M (m + 30) (3 * k + t)).toInt ∧ 0 < far.toInt then 3 else rI M (m + 30) (3 * k + t)) ∧ rI M' (m + 11) (3 * i + t) = rI M (m + 31) (3 * k + t) ∧ rI M' (m + 12) (3 * i + t) = rI M (m + 32) (3 * k + t) ∧ ∀ j, j < 10 → rI M' (m + 13) (10 * (3 * i + t) + j) = rI M (m + 33) (10 * (3 * k + t) + j)) → post M') : wp_X12_takeOver sh M m (nI i) (nI k) far post := by
  unfold wp_X12_takeOver wp_X12_takeOver_3
  refine for1 0 3 (by omega) (by omega) (fun n M1 => OutI m i M M1 ∧ (∀ q, rI M1 (m + 5) q = rI M (m + 5) q ∧ rI M1 (m + 6) q = rI M (m + 6) q) ∧ ∀ t, t < n → (rI M1 (m + 10) (3 * i + t) = if 0 < (rI M (m + 30) (3 * k + t)).toInt ∧ 0 < far.toInt then 3 else rI M (m + 30) (3 * k + t)) ∧ rI M1 (m + 11) (3 * i + t) = rI M (m + 31) (3 * k + t) ∧ rI M1 (m + 12) (3 * i + t) = rI M (m + 32) (3 * k + t) ∧ ∀ j, j < 10 → rI M1 (m + 13) (10 * (3 * i + t) + j) = rI M (m + 33) (10 * (3 * k + t) + j)) ⟨OutI.rf _ _ _, fun _ => ⟨rfl, rfl⟩, fun t ht => by omega⟩ ?_ ?_
  · rintro t M1 kk - ht ⟨ho, h56, hv⟩ hkk
    unfold wb_X12_takeOver_3
    dsimp only
    have L1 := ho.1.lm L
    rw [e3, e3]
    have o30 : ∀ q, rI M1 (m + 30) q = rI M (m + 30) q := fun q => by rw [ho.1.ar 30 (by decide) (by decide) (by decide)]
    have o31 : ∀ q, rI M1 (m + 31) q = rI M (m + 31) q := fun q => by rw [ho.1.ar 31 (by decide) (by decide) (by decide)]
    have o32 : ∀ q, rI M1 (m + 32) q = rI M (m + 32) q := fun q => by rw [ho.1.ar 32 (by decide) (by decide) (by decide)]
    have o33 : ∀ q, rI M1 (m + 33) q = rI M (m + 33) q := fun q => by rw [ho.1.ar 33 (by decide) (by decide) (by decide)]
    have go : ∀ s2, (s2 = if 0 < (rI M (m + 30) (3 * k + t)).toInt ∧ 0 < far.toInt then 3 else rI M (m + 30) (3 * k + t)) → wp_X12_takeOver_56 sh post (fun x4 M => kk (x4, M)) m (nI i) (nI k) far (nI t) (nI (3 * i + t)) (nI (3 * k + t)) (m + 10) (nI (3 * i + t)) s2 M1 := fun s2 hs2 => by
      unfold wp_X12_takeOver_56
      rw [p_cl (show 3 * i + t < 2147483648 by omega), p_cl (show 3 * k + t < 2147483648 by omega)]
      have w1 : OutI m i M1 (wI M1 (m + 10) (3 * i + t) s2) := (OutI.rf m i M1).w 10 _ _ (by decide) (by omega) (by omega) (by omega)
      refine ⟨L.k10, L.v10 (i := 3 * i + t) (by omega) rfl, L.1, _, (w1.1.lm L1).f13, _, (w1.1.lm L1).f38, L.k31, L.v31 (i := 3 * k + t) (by omega) rfl, L.k11, L.v11 (i := 3 * i + t) (by omega) rfl, ?_⟩
      have w2 := w1.w 11 (3 * i + t) (rI (wI M1 (m + 10) (3 * i + t) s2) (m + 31) (3 * k + t)) (by decide) (by omega) (by omega) (by omega)
      refine ⟨_, (w2.1.lm L1).f14, _, (w2.1.lm L1).f39, L.k32, L.v32 (i := 3 * k + t) (by omega) rfl, ?_⟩
      rintro M14 rfl
      have w3 := w2.w 12 (3 * i + t) (rI (wI (wI M1 (m + 10) (3 * i + t) s2) (m + 11) (3 * i + t) (rI (wI M1 (m + 10) (3 * i + t) s2) (m + 31) (3 * k + t))) (m + 32) (3 * k + t)) (by decide) (by omega) (by omega) (by omega)
      refine ⟨L.k12, L.v12 (i := 3 * i + t) (by omega) rfl, ?_⟩
      have y5 : ∀ q, rI (wI (wI (wI M1 (m + 10) (3 * i + t) s2) (m + 11) (3 * i + t) (rI (wI M1 (m + 10) (3 * i + t) s2) (m + 31) (3 * k + t))) (m + 12) (3 * i + t) (rI (wI (wI M1 (m + 10) (3 * i + t) s2) (m + 11) (3 * i + t) (rI (wI M1 (m + 10) (3 * i + t) s2) (m + 31) (3 * k + t))) (m + 32) (3 * k + t))) (m + 5) q = rI M1 (m + 5) q := fun q => by rw [rI_ne _ _ (by omega), rI_ne _ _ (by omega), rI_ne _ _ (by omega)]
      have y6 : ∀ q, rI (wI (wI (wI M1 (m + 10) (3 * i + t) s2) (m + 11) (3 * i + t) (rI (wI M1 (m + 10) (3 * i + t) s2) (m + 31) (3 * k + t))) (m + 12) (3 * i + t) (rI (wI (wI M1 (m + 10) (3 * i + t) s2) (m + 11) (3 * i + t) (rI (wI M1 (m + 10) (3 * i + t) s2) (m + 31) (3 * k + t))) (m + 32) (3 * k + t))) (m + 6) q = rI M1 (m + 6) q := fun q => by rw [rI_ne _ _ (by omega), rI_ne _ _ (by omega), rI_ne _ _ (by omega)]
      have y10 : ∀ q, rI (wI (wI (wI M1 (m + 10) (3 * i + t) s2) (m + 11) (3 * i + t) (rI (wI M1 (m + 10) (3 * i + t) s2) (m + 31) (3 * k + t))) (m + 12) (3 * i + t) (rI (wI (wI M1 (m + 10) (3 * i + t) s2) (m + 11) (3 * i + t) (rI (wI M1 (m + 10) (3 * i + t) s2) (m + 31) (3 * k + t))) (m + 32) (3 * k + t))) (m + 10) q = if q = 3 * i + t then s2 else rI M1 (m + 10) q := fun q => by
        rw [rI_ne _ _ (by omega), rI_ne _ _ (by omega), rI_wI]
        by_cases e : q = 3 * i + t
        · rw [if_pos ⟨rfl, e⟩, if_pos e]
        · rw [if_neg (fun z => e z.2), if_neg e]
      have y11 : ∀ q, rI (wI (wI (wI M1 (m + 10) (3 * i + t) s2) (m + 11) (3 * i + t) (rI (wI M1 (m + 10) (3 * i + t) s2) (m + 31) (3 * k + t))) (m + 12) (3 * i + t) (rI (wI (wI M1 (m + 10) (3 * i + t) s2) (m + 11) (3 * i + t) (rI (wI M1 (m + 10) (3 * i + t) s2) (m + 31) (3 * k + t))) (m + 32) (3 * k + t))) (m + 11) q = if q = 3 * i + t then rI M (m + 31) (3 * k + t) else rI M1 (m + 11) q := fun q => by
        rw [rI_ne _ _ (by omega), rI_wI, rI_ne _ _ (show m + 31 ≠ m + 10 ∨ _ by omega), o31]
        by_cases e : q = 3 * i + t
        · rw [if_pos ⟨rfl, e⟩, if_pos e]
        · rw [if_neg (fun z => e z.2), if_neg e, rI_ne _ _ (by omega)]
      have y12 : ∀ q, rI (wI (wI (wI M1 (m + 10) (3 * i + t) s2) (m + 11) (3 * i + t) (rI (wI M1 (m + 10) (3 * i + t) s2) (m + 31) (3 * k + t))) (m + 12) (3 * i + t) (rI (wI (wI M1 (m + 10) (3 * i + t) s2) (m + 11) (3 * i + t) (rI (wI M1 (m + 10) (3 * i + t) s2) (m + 31) (3 * k + t))) (m + 32) (3 * k + t))) (m + 12) q = if q = 3 * i + t then rI M (m + 32) (3 * k + t) else rI M1 (m + 12) q := fun q => by
        rw [rI_wI, rI_ne _ _ (show m + 32 ≠ m + 11 ∨ _ by omega), rI_ne _ _ (show m + 32 ≠ m + 10 ∨ _ by omega), o32]
        by_cases e : q = 3 * i + t
        · rw [if_pos ⟨rfl, e⟩, if_pos e]
        · rw [if_neg (fun z => e z.2), if_neg e, rI_ne _ _ (by omega), rI_ne _ _ (by omega)]
      have y13 : ∀ q, rI (wI (wI (wI M1 (m + 10) (3 * i + t) s2) (m + 11) (3 * i + t) (rI (wI M1 (m + 10) (3 * i + t) s2) (m + 31) (3 * k + t))) (m + 12) (3 * i + t) (rI (wI (wI M1 (m + 10) (3 * i + t) s2) (m + 11) (3 * i + t) (rI (wI M1 (m + 10) (3 * i + t) s2) (m + 31) (3 * k + t))) (m + 32) (3 * k + t))) (m + 13) q = rI M1 (m + 13) q := fun q => by rw [rI_ne _ _ (by omega), rI_ne _ _ (by omega), rI_ne _ _ (by omega)]
      generalize wI (wI (wI M1 (m + 10) (3 * i + t) s2) (m + 11) (3 * i + t) (rI (wI M1 (m + 10) (3 * i + t) s2) (m + 31) (3 * k + t))) (m + 12) (3 * i + t) (rI (wI (wI M1 (m + 10) (3 * i + t) s2) (m + 11) (3 * i + t) (rI (wI M1 (m + 10) (3 * i + t) s2) (m + 31) (3 * k + t))) (m + 32) (3 * k + t)) = M0 at w3 y5 y6 y10 y11 y12 y13 ⊢
      unfold wp_X12_takeOver_88
      refine for1 0 10 (by omega) (by omega) (fun n M2 => OutI m i M1 M2 ∧ Ch m [13] [] M0 M2 ∧ ∀ q, rI M2 (m + 13) q = if 10 * (3 * i + t) ≤ q ∧ q < 10 * (3 * i + t) + n then rI M (m + 33) (10 * (3 * k + t) + (q - 10 * (3 * i + t))) else rI M1 (m + 13) q) ⟨w3, Ch.rf _ _ _ _, fun q => by rw [if_neg (by omega), y13]⟩ ?_ ?_
      · rintro n M2 k2 - hn ⟨ho2, hc2, hq2⟩ hk2
        unfold wb_X12_takeOver_88
        dsimp only
        have L2 := ho2.1.lm L1
        rw [e10, e10]
        refine ⟨fun c => absurd ((p_leI (a := 10) (by omega) (by omega)).mp c) (by omega), fun _ => ⟨L.1, _, L2.f15, _, L2.f40, L.k33, L.v33 (i := 10 * (3 * k + t) + n) (by omega) rfl, L.k13, L.v13 (i := 10 * (3 * i + t) + n) (by omega) rfl, hk2 _ ⟨?_, hc2.tr (Ch.wa 13 _ _ (by decide) (by decide) (by decide)), fun q => ?_⟩⟩⟩
        · rw [p_cl (by omega)]; exact ho2.w 13 _ _ (by decide) (by omega) (by omega) (by omega)
        · rw [p_cl (by omega), p_cl (by omega), ho2.1.ar 33 (by decide) (by decide) (by decide), o33, rI_wI, hq2]
          by_cases e : q = 10 * (3 * i + t) + n
          · rw [if_pos ⟨rfl, e⟩, if_pos (by omega), show q - 10 * (3 * i + t) = n by omega]
          · rw [if_neg (fun z => e z.2)]
            by_cases e2 : 10 * (3 * i + t) ≤ q ∧ q < 10 * (3 * i + t) + n
            · rw [if_pos e2, if_pos (by omega)]
            · rw [if_neg e2, if_neg (by omega)]
      · rintro M2 k2 ⟨ho2, hc2, hq2⟩
        unfold wb_X12_takeOver_88
        dsimp only
        refine ⟨fun _ => hkk _ ⟨ho.tr ho2, fun q => ?_, fun t2 ht2 => ?_⟩, fun c => absurd ((p_leI (a := 10) (by omega) (by omega)).mpr (by omega)) c⟩
        · rw [hc2.ar 5 (by decide) (by decide) (by decide), hc2.ar 6 (by decide) (by decide) (by decide), y5, y6]; exact h56 q
        · rw [hc2.ar 10 (by decide) (by decide) (by decide), hc2.ar 11 (by decide) (by decide) (by decide), hc2.ar 12 (by decide) (by decide) (by decide), y10, y11, y12]
          by_cases e : t2 = t
          · subst e
            rw [if_pos rfl, if_pos rfl, if_pos rfl]
            refine ⟨hs2, rfl, rfl, fun j hj => ?_⟩
            rw [hq2, if_pos (by omega), show 10 * (3 * i + t2) + j - 10 * (3 * i + t2) = j by omega]
          · have hne : ¬ 3 * i + t2 = 3 * i + t := by omega
            rw [if_neg hne, if_neg hne, if_neg hne]
            obtain ⟨v1, v2, v3, v4⟩ := hv t2 (by omega)
            refine ⟨v1, v2, v3, fun j hj => ?_⟩
            rw [hq2, if_neg (by omega)]; exact v4 j hj
    refine ⟨fun c => absurd ((p_leI (a := 3) (by omega) (by omega)).mp c) (by omega), fun _ => ⟨L.1, _, L1.f12, _, L1.f37, L.k30, L.v30 (i := 3 * k + t) (by omega) rfl, ?_⟩⟩
    rw [p_cl (show 3 * k + t < 2147483648 by omega), o30]
    have go49 : (rI M (m + 30) (3 * k + t) = if 0 < (rI M (m + 30) (3 * k + t)).toInt ∧ 0 < far.toInt then 3 else rI M (m + 30) (3 * k + t)) → wp_X12_takeOver_49 sh post (fun x4 M => kk (x4, M)) m (nI i) (nI k) far (nI t) (nI (3 * i + t)) (nI (3 * k + t)) (m + 10) (nI (3 * i + t)) M1 := fun hh => by
      unfold wp_X12_takeOver_49
      refine ⟨L.1, _, L1.f37, L.k30, L.v30 (i := 3 * k + t) (by omega) rfl, go _ ?_⟩
      rw [p_cl (by omega), o30]; exact hh
    refine ⟨fun c => go49 ?_, fun c => ⟨fun c2 => go49 ?_, fun c2 => go _ ?_⟩⟩
    · rw [p_le0] at c; rw [if_neg (by omega)]
    · rw [p_le0] at c2; rw [if_neg (by omega)]
    · rw [p_le0] at c c2; rw [if_pos (by omega)]
  · rintro M1 kk ⟨ho, h56, hv⟩
    unfold wb_X12_takeOver_3
    dsimp only
    exact ⟨fun _ => hp M1 ho h56 hv, fun c => absurd ((p_leI (a := 3) (by omega) (by omega)).mpr (by omega)) c⟩
theorem chCopy {q2 : Nat} {M1 : gh_M} (h1 : 1 ≤ q2) (h2 : q2 < 39) (k1 : ∀ a j, a ≠ m + q2 → rI M1 a j = rI M a j) (k3 : ∀ a j, rJ M1 a j = rJ M a j) (k4 : ∀ a j, rR M1 a j = rR M a j) : Ch m [q2] [] M M1 := ch420 (q1 := 0) h1 h2 k1 k3 k4
/-- what one PIECE of THE NEXT one has become -/
def nowIs (m : Nat) (M : gh_M) (i : Nat) (p : PcT) : Prop := gvM (rI M (m + 5) i) p.2.2.1 ∧ rI M (m + 6) i = p.2.2.2.1 ∧ ∀ t, t < 3 → txM (rI M (m + 10) (3 * i + t)) (rI M (m + 11) (3 * i + t)) (rI M (m + 12) (3 * i + t)) (fun j => rI M (m + 13) (10 * (3 * i + t) + j)) (p.2.2.2.2 t)
theorem nowIs.out {M' : gh_M} {i i' : Nat} {p : PcT} (h : nowIs m M i' p) (o : OutI m i M M') (hne : i' ≠ i) : nowIs m M' i' p := by
  obtain ⟨h1, h2, h3⟩ := h
  refine ⟨by rw [(o.2.1 i' hne).1]; exact h1, (o.2.1 i' hne).2.trans h2, fun t ht => ?_⟩
  obtain ⟨s1, s2⟩ := h3 t ht
  obtain ⟨o1, o2, o3⟩ := o.2.2.1 (3 * i' + t) (by omega)
  rw [o1, o2, o3]
  refine ⟨s1, ?_⟩
  rcases s2 with s2 | ⟨s2, s3, s4, s5, s6⟩
  · exact Or.inl s2
  · refine Or.inr ⟨s2, s3, s4, s5, fun j hj => ?_⟩
    show rI M' (m + 13) (10 * (3 * i' + t) + j) = _
    rw [o.2.2.2 _ (by omega)]; exact s6 j hj
theorem mo_turn (h : RM sh m a M) : wp_X12_turn sh M m (QM sh m M (opTurn a)) := by
  have hR := h
  obtain ⟨L, d1, d2, d3, d4, d5, d6, d7, d8⟩ := h
  unfold wp_X12_turn opTurn
  have hs := d2.1
  have hlen : (nL a).length = (aN a).length := by simp
  have hn8 := d3.1
  have hn : (nL a).length ≤ 8 := by rw [hlen]; exact d3.1
  have h8 : rI M m 8 = nI (nL a).length := by rw [hlen]; exact d3.2.1
  rw [h8]
  refine ⟨L.1, fun c => ?_, fun c => s12_findMatch hR (fun M3 hc3 hcost hmat => ?_)⟩
  · rw [if_pos ((p_eqI (b := 0) (by omega) (by omega)).mp c)]; exact QM.same hR
  have hne : ¬ (nL a).length = 0 := fun z => c (by rw [z]; rfl)
  rw [if_neg hne]
  have L3 := hc3.lm L
  refine ⟨_, L3.f12, _, L3.f37, s12_copy (n := 24) rfl (by decide) L.k10 (by rw [L.n10]; decide) (by rw [L.n10]; decide) L.k30 (by rw [L.n30]; decide) (by rw [L.n30]; decide) (by omega) (fun M7 a1' a2' a3' a4' => ?_)⟩
  have c7 : Ch m [30] [] M3 M7 := chCopy (by decide) (by decide) a1' a3' a4'
  have L7 := c7.lm L3
  refine ⟨_, L7.f13, _, L7.f38, s12_copy (n := 24) rfl (by decide) L.k11 (by rw [L.n11]; decide) (by rw [L.n11]; decide) L.k31 (by rw [L.n31]; decide) (by rw [L.n31]; decide) (by omega) (fun M10 b1' b2' b3' b4' => ?_)⟩
  have c10 : Ch m [31] [] M7 M10 := chCopy (by decide) (by decide) b1' b3' b4'
  have L10 := c10.lm L7
  refine ⟨_, L10.f14, _, L10.f39, s12_copy (n := 24) rfl (by decide) L.k12 (by rw [L.n12]; decide) (by rw [L.n12]; decide) L.k32 (by rw [L.n32]; decide) (by rw [L.n32]; decide) (by omega) (fun M13 x1' x2' x3' x4' => ?_)⟩
  have c13 : Ch m [32] [] M10 M13 := chCopy (by decide) (by decide) x1' x3' x4'
  have L13 := c13.lm L10
  refine ⟨_, L13.f15, _, L13.f40, s12_copy (n := 240) rfl (by decide) L.k13 (by rw [L.n13]; decide) (by rw [L.n13]; decide) L.k33 (by rw [L.n33]; decide) (by rw [L.n33]; decide) (by omega) (fun M16 y1' y2' y3' y4' => ?_)⟩
  have c16 : Ch m [33] [] M13 M16 := chCopy (by decide) (by decide) y1' y3' y4'
  have cA : Ch m [25, 26, 27, 28, 29, 30, 31, 32, 33] [] M M16 := (hc3.mono (by decide) (by decide)).tr ((c7.mono (by decide) (by decide)).tr ((c10.mono (by decide) (by decide)).tr ((c13.mono (by decide) (by decide)).tr (c16.mono (by decide) (by decide)))))
  have u30 : ∀ q, q < 24 → rI M16 (m + 30) q = rI M (m + 10) q := fun q hq => by
    rw [c16.ar 30 (by decide) (by decide) (by decide), c13.ar 30 (by decide) (by decide) (by decide), c10.ar 30 (by decide) (by decide) (by decide), a2' q hq, hc3.ar 10 (by decide) (by decide) (by decide)]
  have u31 : ∀ q, q < 24 → rI M16 (m + 31) q = rI M (m + 11) q := fun q hq => by
    rw [c16.ar 31 (by decide) (by decide) (by decide), c13.ar 31 (by decide) (by decide) (by decide), b2' q hq, c7.ar 11 (by decide) (by decide) (by decide), hc3.ar 11 (by decide) (by decide) (by decide)]
  have u32 : ∀ q, q < 24 → rI M16 (m + 32) q = rI M (m + 12) q := fun q hq => by
    rw [c16.ar 32 (by decide) (by decide) (by decide), x2' q hq, c10.ar 12 (by decide) (by decide) (by decide), c7.ar 12 (by decide) (by decide) (by decide), hc3.ar 12 (by decide) (by decide) (by decide)]
  have u33 : ∀ q, q < 240 → rI M16 (m + 33) q = rI M (m + 13) q := fun q hq => by
    rw [y2' q hq, c13.ar 13 (by decide) (by decide) (by decide), c10.ar 13 (by decide) (by decide) (by decide), c7.ar 13 (by decide) (by decide) (by decide), hc3.ar 13 (by decide) (by decide) (by decide)]
  have u27 : ∀ q, rI M16 (m + 27) q = rI M3 (m + 27) q := fun q => by
    rw [c16.ar 27 (by decide) (by decide) (by decide), c13.ar 27 (by decide) (by decide) (by decide), c10.ar 27 (by decide) (by decide) (by decide), c7.ar 27 (by decide) (by decide) (by decide)]
  have u29 : ∀ q, rI M16 (m + 29) q = rI M3 (m + 29) q := fun q => by
    rw [c16.ar 29 (by decide) (by decide) (by decide), c13.ar 29 (by decide) (by decide) (by decide), c10.ar 29 (by decide) (by decide) (by decide), c7.ar 29 (by decide) (by decide) (by decide)]
  have L16 := cA.lm L
  clear a1' a2' a3' a4' b1' b2' b3' b4' x1' x2' x3' x4' y1' y2' y3' y4' c7 c10 c13 c16 L7 L10 L13
  unfold wp_X12_turn_70
  refine for1 0 (nL a).length (by omega) (by omega) (fun i M1 => Ch m [5, 6, 10, 11, 12, 13] [] M16 M1 ∧ ∀ i', i' < i → nowIs m M1 i' (tkP a i')) ⟨Ch.rf _ _ _ _, fun i' hi' => by omega⟩ ?_ ?_
  · rintro i M1 k1 - hi ⟨hc1, hv1⟩ hk1
    unfold wb_X12_turn_70
    dsimp only
    have L1 := hc1.lm L16
    have hi' : i < (aN a).length := by omega
    obtain ⟨n1, n2, n3, n4⟩ := d3.2.2 i hi'
    have hget := nL_get hi'
    have g8 : rI M1 m 8 = nI (nL a).length := (hc1.fl 8 (by decide)).trans ((cA.fl 8 (by decide)).trans h8)
    have gm : rI M1 (m + 29) i = ixI (mTn a i) := by rw [hc1.ar 29 (by decide) (by decide) (by decide), u29]; exact hmat i hi
    have gk : rI M1 (m + 7) i = ((aN a).getD i nx0).1 := by rw [hc1.ar 7 (by decide) (by decide) (by decide), cA.ar 7 (by decide) (by decide) (by decide)]; exact n1
    have g30 : ∀ q, q < 24 → rI M1 (m + 30) q = rI M (m + 10) q := fun q hq => by rw [hc1.ar 30 (by decide) (by decide) (by decide)]; exact u30 q hq
    have g31 : ∀ q, q < 24 → rI M1 (m + 31) q = rI M (m + 11) q := fun q hq => by rw [hc1.ar 31 (by decide) (by decide) (by decide)]; exact u31 q hq
    have g32 : ∀ q, q < 24 → rI M1 (m + 32) q = rI M (m + 12) q := fun q hq => by rw [hc1.ar 32 (by decide) (by decide) (by decide)]; exact u32 q hq
    have g33 : ∀ q, q < 240 → rI M1 (m + 33) q = rI M (m + 13) q := fun q hq => by rw [hc1.ar 33 (by decide) (by decide) (by decide)]; exact u33 q hq
    have gc : ∀ k, k < (aS a).length → rI M1 (m + 27) (8 * i + k) = nI (cMt (nL a) (aS a) i k) := fun k hk => by rw [hc1.ar 27 (by decide) (by decide) (by decide), u27]; exact hcost i k hi hk
    rw [g8, p_cl (show i < 2147483648 by omega)]
    refine ⟨L.1, fun cc => absurd ((p_leI (by omega) (by omega)).mp cc) (by omega), fun _ => ⟨_, L1.f6, _, L1.f36, L.k29, L.v29 (i := i) (by omega) rfl, L.k5, L.v5 (i := i) (by omega) rfl, ?_⟩⟩
    rw [gm]
    have o1 : OutI m i M1 (wI M1 (m + 5) i (ixI (mTn a i))) := (OutI.rf m i M1).w 5 _ _ (by decide) (by omega) (by omega) (by omega)
    have gm2 : rI (wI M1 (m + 5) i (ixI (mTn a i))) (m + 29) i = ixI (mTn a i) := (rI_ne _ _ (by omega)).trans gm
    refine ⟨_, (o1.1.lm L1).f7, L.v29 (i := i) (by omega) rfl, ?_⟩
    rw [gm2]
    -- the rest of the round, once the distance is known
    have rest : ∀ v : Int32, (∀ M2, OutI m i M1 M2 → rI M2 (m + 5) i = ixI (mTn a i) → rI M2 (m + 6) i = v → (∀ t, t < 3 → rI M2 (m + 10) (3 * i + t) = 0) → (mTn a i = none ∨ ((aN a).getD i nx0).1 = 1) → nowIs m M2 i (tkP a i)) → (∀ k M2, mTn a i = some k → k < (aS a).length → ¬ ((aN a).getD i nx0).1 = 1 → OutI m i M1 M2 → rI M2 (m + 5) i = ixI (mTn a i) → rI M2 (m + 6) i = v → (∀ t, t < 3 → (rI M2 (m + 10) (3 * i + t) = if 0 < (rI M1 (m + 30) (3 * k + t)).toInt ∧ 0 < v.toInt then 3 else rI M1 (m + 30) (3 * k + t)) ∧ rI M2 (m + 11) (3 * i + t) = rI M1 (m + 31) (3 * k + t) ∧ rI M2 (m + 12) (3 * i + t) = rI M1 (m + 32) (3 * k + t) ∧ ∀ j, j < 10 → rI M2 (m + 13) (10 * (3 * i + t) + j) = rI M1 (m + 33) (10 * (3 * k + t) + j)) → nowIs m M2 i (tkP a i)) → wp_X12_turn_124 sh (QM sh m M (nI (bk (aS a).length (nL a).length (cMt (nL a) (aS a)) (zMt (nL a)) (nL a).length 0), sN (sS a ((List.range (nL a).length).map (tkP a))) [])) (fun x2 M => k1 (x2, M)) m (nI (bk (aS a).length (nL a).length (cMt (nL a) (aS a)) (zMt (nL a)) (nL a).length 0)) (nI i) (m + 6) (nI i) v (wI M1 (m + 5) i (ixI (mTn a i))) := fun v hA hB => by
      unfold wp_X12_turn_124
      rw [p_cl (show i < 2147483648 by omega)]
      refine ⟨L.k6, L.v6 (i := i) (by omega) rfl, ?_⟩
      have o2 := o1.w 6 i v (by decide) (by omega) (by omega) (by omega)
      have v5 : rI (wI (wI M1 (m + 5) i (ixI (mTn a i))) (m + 6) i v) (m + 5) i = ixI (mTn a i) := by rw [rI_ne _ _ (by omega), rI_same]
      have v6 : rI (wI (wI M1 (m + 5) i (ixI (mTn a i))) (m + 6) i v) (m + 6) i = v := rI_same _ _ _ _
      generalize wI (wI M1 (m + 5) i (ixI (mTn a i))) (m + 6) i v = M2 at o2 v5 v6
      have fin : ∀ M4, OutI m i M1 M4 → nowIs m M4 i (tkP a i) → k1 (nI i + 1, M4) := fun M4 o4 hnow => hk1 _ ⟨hc1.tr o4.1, fun i' hi2 => by
        by_cases e : i' = i
        · subst e; exact hnow
        · exact (hv1 i' (by omega)).out o4 e⟩
      unfold wp_X12_turn_127
      refine for1 0 3 (by omega) (by omega) (fun t M3 => OutI m i M1 M3 ∧ rI M3 (m + 5) i = ixI (mTn a i) ∧ rI M3 (m + 6) i = v ∧ ∀ t', t' < t → rI M3 (m + 10) (3 * i + t') = 0) ⟨o2, v5, v6, fun t' ht' => by omega⟩ ?_ ?_
      · rintro t M4 k4 - ht ⟨o4, w5, w6, w10⟩ hk4
        unfold wb_X12_turn_127
        dsimp only
        have L4 := o4.1.lm L1
        rw [e3]
        refine ⟨fun cc => absurd ((p_leI (a := 3) (by omega) (by omega)).mp cc) (by omega), fun _ => ⟨L.1, _, L4.f12, L.k10, L.v10 (i := 3 * i + t) (by omega) rfl, hk4 _ ⟨?_, ?_, ?_, fun t' ht' => ?_⟩⟩⟩
        · rw [p_cl (by omega)]; exact o4.w 10 _ _ (by decide) (by omega) (by omega) (by omega)
        · rw [rI_ne _ _ (by omega)]; exact w5
        · rw [rI_ne _ _ (by omega)]; exact w6
        · rw [p_cl (by omega)]
          by_cases e : t' = t
          · subst e; rw [rI_same]
          · rw [rI_ne _ _ (by omega)]; exact w10 t' (by omega)
      · rintro M4 k4 ⟨o4, w5, w6, w10⟩
        unfold wb_X12_turn_127 wp_X12_turn_185
        dsimp only
        have L4 := o4.1.lm L1
        have gm4 : rI M4 (m + 29) i = ixI (mTn a i) := by rw [o4.1.ar 29 (by decide) (by decide) (by decide)]; exact gm
        have gk4 : rI M4 (m + 7) i = ((aN a).getD i nx0).1 := by rw [o4.1.ar 7 (by decide) (by decide) (by decide)]; exact gk
        refine ⟨fun _ => ⟨L.1, _, L4.f36, L.k29, L.v29 (i := i) (by omega) rfl, ?_⟩, fun cc => absurd ((p_leI (a := 3) (by omega) (by omega)).mpr (by omega)) cc⟩
        rw [p_cl (show i < 2147483648 by omega), gm4]
        cases hm : mTn a i with
        | none =>
          rw [hm] at w5
          exact ⟨fun _ => fin M4 o4 (hA M4 o4 (by rw [hm]; exact w5) w6 w10 (Or.inl hm)), fun cc => absurd (show (-1 : Int32) < 0 by decide) cc⟩
        | some k =>
          have hk : k < (aS a).length := (findK_some hm).1
          rw [hm] at w5
          refine ⟨fun cc => absurd cc (nI_pos (by omega)), fun _ => ⟨_, L4.f9, L.k7, L.v7 (i := i) (by omega) rfl, ?_⟩⟩
          rw [gk4]
          refine ⟨fun cc => fin M4 o4 (hA M4 o4 (by rw [hm]; exact w5) w6 w10 (Or.inr cc)), fun cc => ⟨L.v29 (i := i) (by omega) rfl, _, L4.f7, L.k6, L.v6 (i := i) (by omega) rfl, ?_⟩⟩
          rw [w6]
          refine s12_takeOver L4 (by omega) (by omega) (fun M5 o5 h56 hv5 => fin M5 (o4.tr o5) (hB k M5 hm hk cc (o4.tr o5) (by rw [(h56 i).1, hm]; exact w5) (by rw [(h56 i).2]; exact w6) (fun t ht => ?_)))
          have := hv5 t ht
          rw [o4.1.ar 30 (by decide) (by decide) (by decide), o4.1.ar 31 (by decide) (by decide) (by decide), o4.1.ar 32 (by decide) (by decide) (by decide), o4.1.ar 33 (by decide) (by decide) (by decide)] at this
          exact this
    cases hm : mTn a i with
    | none =>
      have htk : tkP a i = nxP ((aN a).getD i nx0) := by unfold tkP; rw [hm, ← hget]
      rw [hm] at rest
      refine ⟨fun cc => absurd cc (by decide), fun _ => rest 0 (fun M2 o2 w5 w6 w10 _ => ?_) (fun k M2 hk => by cases hk)⟩
      rw [htk]
      exact ⟨Or.inl ⟨rfl, w5⟩, w6, fun t ht => ⟨w10 t ht, Or.inl ⟨rfl, rfl⟩⟩⟩
    | some k =>
      have hk : k < (aS a).length := (findK_some hm).1
      have htk : tkP a i = (((nL a).getD i pc0).1, ((nL a).getD i pc0).2.1, nI k, nI (cMt (nL a) (aS a) i k), if ((nL a).getD i pc0).1 = 1 then ((nL a).getD i pc0).2.2.2.2 else fun t => tkOf (nI (cMt (nL a) (aS a) i k)) (((aS a).getD k pc0).2.2.2.2 t)) := by unfold tkP; rw [hm]
      rw [hget] at htk
      rw [hm] at rest
      refine ⟨fun _ => ⟨_, (Ch.lm (show Ch m [5] [] M1 (wI M1 (m + 5) i (ixI (some k))) from Ch.wa 5 _ _ (by decide) (by decide) (by decide)) L1).f34, L.v29 (i := i) (by omega) rfl, L.k27, L.v27 (i := 8 * i + k) (by omega) (e8 _ _), ?_⟩, fun cc => absurd (nI_pos' (by omega)) cc⟩
      rw [show (8 : Int32) * nI i + ixI (some k) = nI (8 * i + k) from e8 i k, p_cl (show 8 * i + k < 2147483648 by omega), rI_ne _ _ (show m + 27 ≠ m + 5 ∨ _ by omega), gc k hk]
      refine rest _ (fun M2 o2 w5 w6 w10 hor => ?_) (fun k' M2 hk' hk2 hkind o2 w5 w6 hv => ?_)
      · rcases hor with hor | hor
        · cases hor
        rw [htk]
        refine ⟨Or.inr ⟨by rw [p_ti (by omega)]; omega, w5⟩, w6, fun t ht => ?_⟩
        show txM _ _ _ _ ((if ((aN a).getD i nx0).1 = 1 then fun _ => tx0 else fun t => tkOf (nI (cMt (nL a) (aS a) i k)) (((aS a).getD k pc0).2.2.2.2 t)) t)
        rw [if_pos hor]
        exact ⟨w10 t ht, Or.inl ⟨rfl, rfl⟩⟩
      · cases hk'
        rw [htk]
        refine ⟨Or.inr ⟨by rw [p_ti (by omega)]; omega, w5⟩, w6, fun t ht => ?_⟩
        show txM _ _ _ _ ((if ((aN a).getD i nx0).1 = 1 then fun _ => tx0 else fun t => tkOf (nI (cMt (nL a) (aS a) i k)) (((aS a).getD k pc0).2.2.2.2 t)) t)
        rw [if_neg hkind]
        obtain ⟨v1, v2, v3, v4⟩ := hv t ht
        obtain ⟨s1, s2⟩ := (d2.ats hk).2.2.2.2.2.2 t ht
        rw [g30 _ (by omega), s1] at v1
        rw [g31 _ (by omega)] at v2
        rw [g32 _ (by omega)] at v3
        have v4' : ∀ j, j < 10 → rI M2 (m + 13) (10 * (3 * i + t) + j) = rI M (m + 13) (10 * (3 * k + t) + j) := fun j hj => by rw [v4 j hj, g33 _ (by omega)]
        show txM _ _ _ _ (tkOf (nI (cMt (nL a) (aS a) i k)) (((aS a).getD k pc0).2.2.2.2 t))
        generalize (((aS a).getD k pc0).2.2.2.2 t) = X at s1 s2 v1 ⊢
        generalize nI (cMt (nL a) (aS a) i k) = F at v1 ⊢
        unfold tkOf
        rw [v1, v2, v3]
        rcases s2 with ⟨z1, z2⟩ | ⟨z1, z2, z3, z4, z5⟩
        · rw [z1, if_neg (by intro z; exact absurd z.1 (by decide))]
          subst z2
          by_cases e : F.toInt ≤ 0
          · rw [if_pos e]; exact ⟨rfl, Or.inl ⟨rfl, rfl⟩⟩
          · rw [if_neg e]; exact ⟨rfl, Or.inl ⟨rfl, rfl⟩⟩
        · have pos : 0 < X.1.toInt := by rcases z1 with z | z | z <;> (rw [z]; decide)
          have ne0 : ¬ X.1 = 0 := fun z => by rw [z] at pos; exact absurd pos (by decide)
          by_cases e : F.toInt ≤ 0
          · rw [if_pos e, if_neg (by omega)]
            exact ⟨rfl, Or.inr ⟨z1, z2, z3, z4, fun j hj => (v4' j (by omega)).trans (z5 j hj)⟩⟩
          · rw [if_neg e, if_pos (by omega), if_neg ne0]
            exact ⟨rfl, Or.inr ⟨Or.inr (Or.inr rfl), z2, z3, z4, fun j hj => (v4' j (by have : j < X.2.2.length := hj; omega)).trans (z5 j hj)⟩⟩
  · rintro M1 k1 ⟨hc1, hv1⟩
    unfold wb_X12_turn_70
    dsimp only
    have L1 := hc1.lm L16
    have g8 : rI M1 m 8 = nI (nL a).length := (hc1.fl 8 (by decide)).trans ((cA.fl 8 (by decide)).trans h8)
    rw [g8]
    refine ⟨L.1, fun _ => ⟨_, L1.f9, _, L1.f3, s12_copy (n := 8) rfl (by decide) L.k7 (by rw [L.n7]; decide) (by rw [L.n7]; decide) L.k2 (by rw [L.n2]; decide) (by rw [L.n2]; decide) (by omega) (fun M5 a1' a2' a3' a4' => ?_)⟩, fun cc => absurd ((p_leI (by omega) (by omega)).mpr (Nat.le_refl _)) cc⟩
    have c5 : Ch m [2] [] M1 M5 := chCopy (by decide) (by decide) a1' a3' a4'
    have L5 := c5.lm L1
    refine ⟨_, L5.f10, _, L5.f4, s12_copy (n := 8) rfl (by decide) L.k8 (by rw [L.n8]; decide) (by rw [L.n8]; decide) L.k3 (by rw [L.n3]; decide) (by rw [L.n3]; decide) (by omega) (fun M8 b1' b2' b3' b4' => ?_)⟩
    have c8 : Ch m [3] [] M5 M8 := chCopy (by decide) (by decide) b1' b3' b4'
    have L8 := c8.lm L5
    refine ⟨_, L8.f11, _, L8.f5, s12_copy (n := 64) rfl (by decide) L.k9 (by rw [L.n9]; decide) (by rw [L.n9]; decide) L.k4 (by rw [L.n4]; decide) (by rw [L.n4]; decide) (by omega) (fun M11 x1' x2' x3' x4' => ?_)⟩
    have c11 : Ch m [4] [] M8 M11 := chCopy (by decide) (by decide) x1' x3' x4'
    have cB : Ch m [2, 3, 4] [] M1 M11 := (c5.mono (by decide) (by decide)).tr ((c8.mono (by decide) (by decide)).tr (c11.mono (by decide) (by decide)))
    have e8' : rI M11 m 8 = nI (nL a).length := (cB.fl 8 (by decide)).trans g8
    rw [e8']
    have cC : Ch m [2, 3, 4, 5, 6, 10, 11, 12, 13, 25, 26, 27, 28, 29, 30, 31, 32, 33] [2, 8] M (wI (wI M11 m 2 (nI (nL a).length)) m 8 0) := ((cA.mono (by decide) (by decide)).tr ((hc1.mono (by decide) (by decide)).tr (cB.mono (by decide) (by decide)))).tr ((Ch.wf 2 _ (by decide)).tr (Ch.wf 8 _ (by decide)))
    have rd : ∀ k j, 1 ≤ k → rI (wI (wI M11 m 2 (nI (nL a).length)) m 8 0) (m + k) j = rI M11 (m + k) j := fun k j hk => by rw [rI_ne _ _ (by omega), rI_ne _ _ (by omega)]
    refine QM.to ⟨d1.ch cC (by decide) (by decide), ⟨?_, ?_, fun i hi => ?_⟩, ⟨Nat.zero_le _, by rw [rI_same]; rfl, fun i hi => absurd hi (Nat.not_lt_zero i)⟩, d4.ch cC (by decide) (by decide), d5.ch cC (by decide) (by decide), (cC.fl 24 (by decide)).trans d6, d7.ch cC (by decide) (by decide), d8.ch cC (by decide) (by decide)⟩ L cC
    · show ((List.range (nL a).length).map (tkP a)).length ≤ 8
      simpa using hn8
    · show _ = nI ((List.range (nL a).length).map (tkP a)).length
      rw [rI_ne _ _ (by omega), rI_same]; simp
    · replace hi : i < ((List.range (nL a).length).map (tkP a)).length := hi
      rw [List.length_map, List.length_range] at hi
      have hi' : i < (aN a).length := by omega
      obtain ⟨n1, n2, n3, n4⟩ := d3.2.2 i hi'
      have hget := nL_get hi'
      show pcM _ _ _ _ _ _ _ _ _ (((List.range (nL a).length).map (tkP a)).getD i pc0)
      rw [p_range_getD hi]
      have t1 : (tkP a i).1 = ((aN a).getD i nx0).1 ∧ (tkP a i).2.1 = ((aN a).getD i nx0).2 := by
        unfold tkP
        cases mTn a i with
        | none => rw [hget]; exact ⟨rfl, rfl⟩
        | some k => rw [hget]; exact ⟨rfl, rfl⟩
      have k7 : ∀ k, k = 7 ∨ k = 8 ∨ k = 9 → rI M1 (m + k) = rI M (m + k) := fun k hk => by
        rw [hc1.ar k (by omega) (by omega) (by simp; omega), cA.ar k (by omega) (by omega) (by simp; omega)]
      have r2 : rI M11 (m + 2) i = ((aN a).getD i nx0).1 := by
        rw [c11.ar 2 (by decide) (by decide) (by decide), c8.ar 2 (by decide) (by decide) (by decide), a2' i (by omega), k7 7 (by omega)]; exact n1
      have r3 : rI M11 (m + 3) i = nI ((aN a).getD i nx0).2.length := by
        rw [c11.ar 3 (by decide) (by decide) (by decide), b2' i (by omega), c5.ar 8 (by decide) (by decide) (by decide), k7 8 (by omega)]; exact n3
      have r4 : ∀ j, j < ((aN a).getD i nx0).2.length → rI M11 (m + 4) (8 * i + j) = ((aN a).getD i nx0).2.getD j 0 := fun j hj => by
        rw [x2' _ (by omega), c8.ar 9 (by decide) (by decide) (by decide), c5.ar 9 (by decide) (by decide) (by decide), k7 9 (by omega)]; exact n4 j hj
      obtain ⟨w1, w2, w3⟩ := hv1 i hi
      have rk : ∀ k, k = 5 ∨ k = 6 ∨ k = 10 ∨ k = 11 ∨ k = 12 ∨ k = 13 → rI M11 (m + k) = rI M1 (m + k) := fun k hk => cB.ar k (by omega) (by omega) (by simp; omega)
      refine ⟨?_, by rw [t1.2]; exact n2, ?_, fun j hj => ?_, ?_, ?_, fun t ht => ?_⟩
      · rw [rd 2 _ (by decide), t1.1]; exact r2
      · rw [rd 3 _ (by decide), t1.2]; exact r3
      · rw [t1.2] at hj ⊢
        show rI _ (m + 4) (8 * i + j) = _
        rw [rd 4 _ (by decide)]; exact r4 j hj
      · rw [rd 5 _ (by decide), rk 5 (by omega)]; exact w1
      · rw [rd 6 _ (by decide), rk 6 (by omega)]; exact w2
      · show txM (rI _ (m + 10) (3 * i + t)) (rI _ (m + 11) (3 * i + t)) (rI _ (m + 12) (3 * i + t)) (fun j => rI _ (m + 13) (10 * (3 * i + t) + j)) _
        rw [rd 10 _ (by decide), rd 11 _ (by decide), rd 12 _ (by decide), rk 10 (by omega), rk 11 (by omega), rk 12 (by omega)]
        simp only [rd 13 _ (by decide), rk 13 (by omega)]
        exact w3 t ht
end MT
