/-! the reference: prepare, findPlan -/
section MF
variable {sh : gh_Sh} {m : Nat} {a : AbS} {M : gh_M}
theorem s12_prepare {post : gh_M → Prop} {t : Nat} (h : RM sh m a M) (ht : t < 3) (hp : ∀ M', Ch m [25, 26, 34, 35, 37] [41, 42, 50] M M' → FX sh m a t M' → (∀ j, j < (aH a).length → rI M' (m + 37) j = nI (hHr (aH a) j)) → rI M' m 50 = nI (needP (effN a t) (aS a).length) → post M') : wp_X12_prepare sh M m (nI t) post := by
  have hR := h
  obtain ⟨L, d1, d2, d3, d4, d5, d6, d7, d8⟩ := h
  unfold wp_X12_prepare wp_X12_prepare_7
  have h8 := d2.1
  have h5 := d4.1
  have hl10 : ∀ i, i < (aS a).length → (pcAt a i).2.1.length ≤ 10 := fun i hi => by have := (d2.ats hi).2.1; show ((aS a).getD i pc0).2.1.length ≤ 10; omega
  refine ⟨L.1, for1 0 (aH a).length (by omega) (by omega) (fun j M1 => Ch m [25, 26, 34, 35, 37] [41, 42, 50] M M1 ∧ rI M1 m 50 = 0 ∧ ∀ i, i < j → rI M1 (m + 37) i = nI (hHr (aH a) i)) ⟨Ch.wf 50 _ (by decide), rI_same _ _ _ _, fun i hi => by omega⟩ ?_ ?_⟩
  · rintro j M1 k - hj ⟨c1, n1, v1⟩ hk
    unfold wb_X12_prepare_7
    dsimp only
    have L1 := c1.lm L
    have e4 := d4.ch c1 (by decide) (by decide)
    obtain ⟨ok1, g1, g2, g3⟩ := e4.2.2 j hj
    rw [e4.2.1]
    refine ⟨L.1, fun c => absurd ((p_leI (by omega) (by omega)).mp c) (by omega), fun _ => ⟨_, L1.f46, _, L1.f18, L.k15, L.v15 (i := j) (by omega) rfl, L.k37, L.v37 (i := j) (by omega) rfl, hk _ ⟨c1.tr (Ch.wa 37 _ _ (by decide) (by decide) (by decide)), by rw [rI_ne _ _ (by omega)]; exact n1, fun i hi => ?_⟩⟩⟩
    rw [p_cl (by omega), g2, (hHr_is ok1).1]
    by_cases e : i = j
    · subst e; rw [rI_same]
    · rw [rI_ne _ _ (Or.inr e)]; exact v1 i (by omega)
  rintro M1 k ⟨c1, n1, v1⟩
  unfold wb_X12_prepare_7
  dsimp only
  have e4 := d4.ch c1 (by decide) (by decide)
  rw [e4.2.1]
  refine ⟨L.1, fun _ => ?_, fun c => absurd ((p_leI (by omega) (by omega)).mpr (Nat.le_refl _)) c⟩
  unfold wp_X12_prepare_35
  refine for1 0 (aS a).length (by omega) (by omega) (fun p M2 => Ch m [25, 26, 34, 35, 37] [41, 42, 50] M M2 ∧ rI M2 m 50 = nI (needP (effN a t) p) ∧ (∀ i, i < (aH a).length → rI M2 (m + 37) i = nI (hHr (aH a) i)) ∧ (∀ q, q < p → rI M2 (m + 34) q = nI (effN a t q)) ∧ ∀ q, q < p → chk (effN a t) (hKn (aH a) t) (hHr (aH a)) (hRt (aH a)) q (aH a).length (rI M2 (m + 35) q)) ⟨c1, n1, v1, fun q hq => by omega, fun q hq => by omega⟩ ?_ ?_
  · rintro p M2 k2 - hpl ⟨c2, n2, v2, w2, z2⟩ hk2
    unfold wb_X12_prepare_35
    dsimp only
    have hR2 : RM sh m a M2 := hR.scr c2 (by decide) (by decide)
    have L2 := hR2.1
    rw [show rI M2 m 2 = nI (aS a).length from hR2.2.2.1.2.1]
    obtain ⟨ef1, ef2⟩ := effN_is (t := t) hpl (hl10 p hpl)
    have V34 := L.v34 (i := p) (by omega) rfl
    refine ⟨L.1, fun c => absurd ((p_leI (by omega) (by omega)).mp c) (by omega), fun _ => ⟨_, L2.f43, s12_effortOf hR2 hpl ht (fun M3 c3 => ⟨L.k34, V34, _, (c3.lm L2).f43, L.k34, V34, ?_⟩)⟩⟩
    rw [p_cl (by omega), rI_same, ef1, rI_ne _ _ (show m ≠ m + 34 ∨ 50 ≠ p by omega), c3.fl 50 (by decide), n2]
    have c4 : Ch m [25, 26, 34, 35, 37] [41, 42, 50] M (wI M3 (m + 34) p (nI (effN a t p))) := (c2.tr (c3.mono (by decide) (by decide))).tr (Ch.wa 34 _ _ (by decide) (by decide) (by decide))
    have fin : ∀ x, needP (effN a t) (p + 1) = needP (effN a t) p + x → wp_X12_prepare_74 sh post (fun x2 M => k2 (x2, M)) m (nI t) (nI p) m (nI (needP (effN a t) p)) (nI x) (wI M3 (m + 34) p (nI (effN a t p))) := fun x hx => by
      unfold wp_X12_prepare_74
      have a34 : rI (wI M3 (m + 34) p (nI (effN a t p))) (m + 34) p = nI (effN a t p) := rI_same _ _ _ _
      have a37 : ∀ i, i < (aH a).length → rI (wI M3 (m + 34) p (nI (effN a t p))) (m + 37) i = nI (hHr (aH a) i) := fun i hi => by rw [rI_ne _ _ (by omega), c3.1 37 _ (by decide) (by decide) (by decide)]; exact v2 i hi
      have b34 : ∀ q, q < p → rI (wI M3 (m + 34) p (nI (effN a t p))) (m + 34) q = nI (effN a t q) := fun q hq => by rw [rI_ne _ _ (by omega), c3.1 34 _ (by decide) (by decide) (by decide)]; exact w2 q hq
      have b35 : ∀ q, rI (wI M3 (m + 34) p (nI (effN a t p))) (m + 35) q = rI M2 (m + 35) q := fun q => by rw [rI_ne _ _ (by omega), c3.1 35 _ (by decide) (by decide) (by decide)]
      generalize wI M3 (m + 34) p (nI (effN a t p)) = M4 at c4 a34 a37 b34 b35
      have c5 : Ch m [25, 26, 34, 35, 37] [41, 42, 50] M (wI (wI M4 m 50 (nI (needP (effN a t) p) + nI x)) (m + 35) p (-1)) := (c4.tr (Ch.wf 50 _ (by decide))).tr (Ch.wa 35 _ _ (by decide) (by decide) (by decide))
      refine ⟨L.1, L.1, _, (c4.lm L).f44, L.k35, L.v35 (i := p) (by omega) rfl, ?_⟩
      rw [p_cl (by omega)]
      refine s12_prep87 (c5.lm L) (d4.ch c5 (by decide) (by decide)) (by omega) ef2 ?_ (rI_same _ _ _ _) (fun M6 c6 o6 v6 => hk2 _ ⟨c5.tr (c6.mono (by decide) (by decide)), ?_, fun i hi => ?_, fun q hq => ?_, fun q hq => ?_⟩)
      · rw [rI_ne _ _ (by omega), rI_ne _ _ (by omega)]; exact a34
      · rw [c6.fl 50 (by decide), rI_ne _ _ (by omega), rI_same, nI_add, hx]
      · rw [c6.1 37 _ (by decide) (by decide) (by decide), rI_ne _ _ (by omega), rI_ne _ _ (by omega)]; exact a37 i hi
      · rw [c6.1 34 _ (by decide) (by decide) (by decide), rI_ne _ _ (by omega), rI_ne _ _ (by omega)]
        by_cases e : q = p
        · subst e; exact a34
        · exact b34 q (by omega)
      · by_cases e : q = p
        · subst e; exact v6
        · rw [o6 q e, rI_ne _ _ (Or.inr e), rI_ne _ _ (by omega), b35]; exact z2 q (by omega)
    refine ⟨fun c => fin 0 ?_, fun c => fin 1 ?_⟩
    · have : effN a t p = 0 := by have := (p_leI (b := 0) (by omega) (by omega)).mp c; omega
      rw [needP_s, if_pos this]
    · have : ¬ effN a t p = 0 := fun z => c (by rw [z]; exact Int32.le_refl _)
      rw [needP_s, if_neg this]
  · rintro M2 k2 ⟨c2, n2, v2, w2, z2⟩
    unfold wb_X12_prepare_35
    dsimp only
    have hR2 : RM sh m a M2 := hR.scr c2 (by decide) (by decide)
    rw [show rI M2 m 2 = nI (aS a).length from hR2.2.2.1.2.1]
    exact ⟨L.1, fun _ => hp M2 c2 ⟨hR2.1, hR2.2.2.1.2.1, hR2.2.2.2.2.1, w2, z2⟩ v2 n2, fun c => absurd ((p_leI (by omega) (by omega)).mpr (Nat.le_refl _)) c⟩
end MF
