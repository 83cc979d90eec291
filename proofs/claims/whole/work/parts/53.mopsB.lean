/-! the reference's calls: hands, terms, limit; FAR -/
section MB
variable {sh : gh_Sh} {m : Nat} {a : AbS} {M : gh_M}
theorem mo_hand (h : RM sh m a M) (t n r : Int32) : wp_X12_hand sh M m t n r (QM sh m M (opHand a t n r)) := by
  have hR := h
  obtain ⟨L, d1, d2, d3, d4, d5, d6, d7, d8⟩ := h
  unfold wp_X12_hand opHand
  have hl := d4.1
  refine s12_in (fun c => br0 ?_) (fun c c' => br1 (s12_in (fun e => br0 ?_) (fun e e' => br1 (s12_in (fun f => br0 ?_) (fun f f' => br1 ⟨L.1, ?_⟩)))))
  · rw [iteP_f (fun z => c z.1)]; exact QM.same hR
  · rw [iteP_f (fun z => e z.2.1)]; exact QM.same hR
  · rw [iteP_f (fun z => f z.2.2)]; exact QM.same hR
  rw [iteP_t (c := inR t 1 7 ∧ inR n 0 20 ∧ inR r 1 9) ⟨⟨c, c'⟩, ⟨e, e'⟩, ⟨f, f'⟩⟩, d4.2.1]
  refine ⟨fun q => ?_, fun q => ?_⟩
  · have : (aH a).length = 5 := (p_eqI (b := 5) (by omega) (by omega)).mp q
    rw [if_pos (by omega)]; exact QM.same hR
  have hne : ¬ (aH a).length = 5 := fun z => q (by rw [z]; rfl)
  rw [if_neg (by omega)]
  have c5 : Ch m [14, 15, 16] [16] M (wI M (m + 14) (aH a).length t) := Ch.wa 14 _ _ (by decide) (by decide) (by decide)
  have c6 : Ch m [14, 15, 16] [16] M (wI (wI M (m + 14) (aH a).length t) (m + 15) (aH a).length n) := c5.tr (Ch.wa 15 _ _ (by decide) (by decide) (by decide))
  refine ⟨_, L.f17, L.k14, L.v14 (i := (aH a).length) (by omega) rfl, ?_⟩
  rw [p_cl (by omega), rI_ne _ _ (show m ≠ m + 14 ∨ _ by omega), d4.2.1, p_cl (by omega)]
  refine ⟨_, (c5.lm L).f18, L.k15, L.v15 (i := (aH a).length) (by omega) rfl, _, (c6.lm L).f19, ?_⟩
  rintro M1 rfl
  have e16 : rI (wI (wI M (m + 14) (aH a).length t) (m + 15) (aH a).length n) m 16 = nI (aH a).length := by rw [rI_ne _ _ (by omega), rI_ne _ _ (by omega)]; exact d4.2.1
  rw [e16, p_cl (by omega), rI_same, rI_ne _ _ (by omega), e16, nI_1, p_sub1]
  refine ⟨L.k16, L.v16 (i := (aH a).length) (by omega) rfl, ?_⟩
  have c7 : Ch m [14, 15, 16] [16] M (wI (wI (wI (wI M (m + 14) (aH a).length t) (m + 15) (aH a).length n) (m + 16) (aH a).length r) m 16 (nI ((aH a).length + 1))) := (c6.tr (Ch.wa 16 _ _ (by decide) (by decide) (by decide))).tr (Ch.wf 16 _ (by decide))
  refine QM.to ⟨d1.ch c7 (by decide) (by decide), d2.ch c7 (by decide) (by decide), d3.ch c7 (by decide) (by decide), ⟨by show (aH a ++ [(t, n, r)]).length ≤ 5; simp; omega, by show _ = nI (aH a ++ [(t, n, r)]).length; rw [rI_same]; simp, fun i hi => ?_⟩, d5.ch c7 (by decide) (by decide), (c7.fl 24 (by decide)).trans d6, d7.ch c7 (by decide) (by decide), d8.ch c7 (by decide) (by decide)⟩ L c7
  replace hi : i < (aH a ++ [(t, n, r)]).length := hi
  simp at hi
  show hnOk ((aH a ++ [(t, n, r)]).getD i hn0) ∧ _ = ((aH a ++ [(t, n, r)]).getD i hn0).1 ∧ _ = ((aH a ++ [(t, n, r)]).getD i hn0).2.1 ∧ _ = ((aH a ++ [(t, n, r)]).getD i hn0).2.2
  by_cases e : i = (aH a).length
  · subst e
    rw [p_getD_app]
    refine ⟨⟨⟨c, c'⟩, ⟨‹_›, e'⟩, ⟨f, f'⟩⟩, ?_, ?_, ?_⟩
    · rw [rI_ne _ _ (by omega), rI_ne _ _ (by omega), rI_ne _ _ (by omega), rI_same]
    · rw [rI_ne _ _ (by omega), rI_ne _ _ (by omega), rI_same]
    · rw [rI_ne _ _ (by omega), rI_same]
  · rw [p_getD_app2 (by omega)]
    obtain ⟨r1, r2, r3, r4⟩ := d4.2.2 i (by omega)
    refine ⟨r1, ?_, ?_, ?_⟩
    · rw [rI_ne _ _ (by omega), rI_ne _ _ (by omega), rI_ne _ _ (by omega), rI_ne _ _ (by omega)]; exact r2
    · rw [rI_ne _ _ (by omega), rI_ne _ _ (by omega), rI_ne _ _ (by omega), rI_ne _ _ (by omega)]; exact r3
    · rw [rI_ne _ _ (by omega), rI_ne _ _ (by omega), rI_ne _ _ (by omega), rI_ne _ _ (by omega)]; exact r4
theorem mo_hours (h : RM sh m a M) (x n : Int32) : wp_X12_hours sh M m x n (QM sh m M (opHours a x n)) := by
  have hR := h
  obtain ⟨L, d1, d2, d3, d4, d5, d6, d7, d8⟩ := h
  unfold wp_X12_hours opHours
  have hl := d4.1
  refine ⟨L.1, s12_isHand L d4 (fun e => br0 ?_) (fun j hj e1 e => br1 ?_)⟩
  · rw [e]; exact QM.same hR
  rw [e]
  subst e1
  dsimp only
  refine s12_in (fun c => br0 ?_) (fun c c' => br1 ⟨_, L.f18, L.k15, L.v15 (i := j) (by omega) rfl, L.v15 (i := j) (by omega) rfl, ?_⟩)
  · rw [iteP_f (c := inR n 0 20) c]; exact QM.same hR
  rw [iteP_t (c := inR n 0 20) ⟨c, c'⟩, p_cl (by omega), show rI M (m + 15) j = (hnAt a j).2.1 from (d4.2.2 j hj).2.2.1]
  have c7 : Ch m [15] [] M (wI M (m + 15) j n) := Ch.wa 15 _ _ (by decide) (by decide) (by decide)
  refine QM.to ⟨d1.ch c7 (by decide) (by decide), d2.ch c7 (by decide) (by decide), d3.ch c7 (by decide) (by decide), ⟨by show ((aH a).set j _).length ≤ 5; simpa using d4.1, by show _ = nI ((aH a).set j _).length; rw [c7.fl 16 (by decide), d4.2.1]; simp, fun i hi => ?_⟩, d5.ch c7 (by decide) (by decide), (c7.fl 24 (by decide)).trans d6, d7.ch c7 (by decide) (by decide), d8.ch c7 (by decide) (by decide)⟩ L c7
  replace hi : i < ((aH a).set j ((hnAt a j).1, n, (hnAt a j).2.2)).length := hi
  simp at hi
  show hnOk (((aH a).set j ((hnAt a j).1, n, (hnAt a j).2.2)).getD i hn0) ∧ _ = (((aH a).set j ((hnAt a j).1, n, (hnAt a j).2.2)).getD i hn0).1 ∧ _ = (((aH a).set j ((hnAt a j).1, n, (hnAt a j).2.2)).getD i hn0).2.1 ∧ _ = (((aH a).set j ((hnAt a j).1, n, (hnAt a j).2.2)).getD i hn0).2.2
  rw [p_set_getD hi]
  obtain ⟨r1, r2, r3, r4⟩ := d4.2.2 i hi
  rw [c7.ar 14 (by decide) (by decide) (by decide), c7.ar 16 (by decide) (by decide) (by decide)]
  by_cases e : i = j
  · subst e
    rw [if_pos rfl, rI_same]
    exact ⟨⟨r1.1, ⟨c, c'⟩, r1.2.2⟩, r2, rfl, r4⟩
  · rw [if_neg e, rI_ne _ _ (by omega)]
    exact ⟨r1, r2, r3, r4⟩
theorem mo_limit (h : RM sh m a M) (n : Int32) : wp_X12_limit sh M m n (QM sh m M (opLimit a n)) := by
  have hR := h
  obtain ⟨L, d1, d2, d3, d4, d5, d6, d7, d8⟩ := h
  unfold wp_X12_limit opLimit
  refine s12_in (fun c => br0 ?_) (fun c c' => br1 ⟨L.1, ?_⟩)
  · rw [iteP_f (c := inR n 1 10) c]; exact QM.same hR
  rw [iteP_t (c := inR n 1 10) ⟨c, c'⟩, d6]
  have c7 : Ch m [] [24] M (wI M m 24 n) := Ch.wf 24 _ (by decide)
  exact QM.to ⟨d1.ch c7 (by decide) (by decide), d2.ch c7 (by decide) (by decide), d3.ch c7 (by decide) (by decide), d4.ch c7 (by decide) (by decide), d5.ch c7 (by decide) (by decide), rI_same _ _ _ _, d7.ch c7 (by decide) (by decide), d8.ch c7 (by decide) (by decide)⟩ L c7
/-- the place of a TERM, as the reference has it -/
def ixI (o : Option Nat) : Int32 := match o with
  | none => -1
  | some k => nI k
theorem s12_termOf {post : Int32 → gh_M → Prop} {w t : Int32} {l : List TmT} (L : LM sh M m) (h : mTerms m M l) (hp : post (ixI (tmIx l w t l.length)) M) : wp_X12_termOf sh M m w t post := by
  unfold wp_X12_termOf wp_X12_termOf_5
  have hl := h.1.1
  refine for2 0 l.length (by omega) (by omega) (fun i x M1 => M1 = M ∧ x = ixI (tmIx l w t i)) ⟨rfl, rfl⟩ ?_ ?_
  · rintro i x M1 k - hi ⟨rfl, rfl⟩ hk
    unfold wb_X12_termOf_5 wp_X12_termOf_41 wp_X12_termOf_42
    dsimp only
    rw [h.2.1]
    obtain ⟨r1, r2, r3⟩ := h.2.2 i hi
    have hu : tmIx l w t (i + 1) = if (l.getD i tm0).1 = w ∧ (l.getD i tm0).2.1 = t then some i else tmIx l w t i := rfl
    refine ⟨L.1, fun c => absurd ((p_leI (by omega) (by omega)).mp c) (by omega), fun _ => ⟨_, L.f21, L.k17, L.v17 (i := i) (by omega) rfl, ?_⟩⟩
    rw [p_cl (by omega), r1]
    refine ⟨fun c => ⟨_, L.f22, L.k18, L.v18 (i := i) (by omega) rfl, fun c2 => hk _ _ ⟨rfl, ?_⟩, fun c2 => hk _ _ ⟨rfl, ?_⟩⟩, fun c => hk _ _ ⟨rfl, ?_⟩⟩ <;> (try rw [r2] at c2)
    · rw [hu, if_pos ⟨c, c2⟩]; rfl
    · rw [hu, if_neg (fun z => c2 z.2)]
    · rw [hu, if_neg (fun z => c z.1)]
  · rintro x M1 k ⟨rfl, rfl⟩
    unfold wb_X12_termOf_5
    dsimp only
    rw [h.2.1]
    exact ⟨L.1, fun _ => hp, fun c => absurd ((p_leI (by omega) (by omega)).mpr (Nat.le_refl _)) c⟩
theorem mo_term64 {w t o : Int32} {k n : Nat} {M0 : gh_M} (L : LM sh M m) (c9 : Ch m [] [20] M M0) (d : RMd m a M) (hn : rI M0 m 20 = nI n) (hk : k < 10) {l : List TmT} (hl : l.length = n) (hg : tmGood l) (hh : ∀ i, i < n → (i = k ∧ l.getD i tm0 = (w, t, o)) ∨ (i ≠ k ∧ i < (aT a).length ∧ l.getD i tm0 = (aT a).getD i tm0)) (x : Int32) (hx : x = nI k) : wp_X12_term_64 sh (QM sh m M (nI n, sT a l)) m w t o x M0 := by
  subst hx
  obtain ⟨d1, d2, d3, d4, d5, d6, d7, d8⟩ := d
  unfold wp_X12_term_64
  have c0 : Ch m [17, 18, 19] [20] M M0 := c9.mono (by decide) (by decide)
  have L0 := c0.lm L
  refine ⟨L.1, _, L0.f21, L.k17, L.v17 (i := k) hk rfl, ?_⟩
  have c1 : Ch m [17, 18, 19] [20] M (wI M0 (m + 17) k w) := c0.tr (Ch.wa 17 _ _ (by decide) (by decide) (by decide))
  have c2 : Ch m [17, 18, 19] [20] M (wI (wI M0 (m + 17) k w) (m + 18) k t) := c1.tr (Ch.wa 18 _ _ (by decide) (by decide) (by decide))
  rw [p_cl (by omega)]
  refine ⟨_, (c1.lm L).f22, L.k18, L.v18 (i := k) hk rfl, _, (c2.lm L).f23, ?_⟩
  rintro M9 rfl
  refine ⟨L.k19, L.v19 (i := k) hk rfl, ?_⟩
  rw [rI_ne _ _ (by omega), rI_ne _ _ (by omega), rI_ne _ _ (by omega), hn]
  have c7 : Ch m [17, 18, 19] [20] M (wI (wI (wI M0 (m + 17) k w) (m + 18) k t) (m + 19) k o) := c2.tr (Ch.wa 19 _ _ (by decide) (by decide) (by decide))
  refine QM.to ⟨d1.ch c7 (by decide) (by decide), d2.ch c7 (by decide) (by decide), d3.ch c7 (by decide) (by decide), d4.ch c7 (by decide) (by decide), ⟨hg, ?_, fun i hi => ?_⟩, (c7.fl 24 (by decide)).trans d6, d7.ch c7 (by decide) (by decide), d8.ch c7 (by decide) (by decide)⟩ L c7
  · show _ = nI l.length
    rw [rI_ne _ _ (by omega), rI_ne _ _ (by omega), rI_ne _ _ (by omega), hn, hl]
  · replace hi : i < l.length := hi
    show _ = (l.getD i tm0).1 ∧ _ = (l.getD i tm0).2.1 ∧ _ = (l.getD i tm0).2.2
    have r17 : ∀ j, rI (wI (wI (wI M0 (m + 17) k w) (m + 18) k t) (m + 19) k o) (m + 17) j = if j = k then w else rI M0 (m + 17) j := fun j => by
      rw [rI_ne _ _ (by omega), rI_ne _ _ (by omega), rI_wI]
      by_cases e : j = k
      · rw [if_pos ⟨rfl, e⟩, if_pos e]
      · rw [if_neg (fun z => e z.2), if_neg e]
    have r18 : ∀ j, rI (wI (wI (wI M0 (m + 17) k w) (m + 18) k t) (m + 19) k o) (m + 18) j = if j = k then t else rI M0 (m + 18) j := fun j => by
      rw [rI_ne _ _ (by omega), rI_wI]
      by_cases e : j = k
      · rw [if_pos ⟨rfl, e⟩, if_pos e]
      · rw [if_neg (fun z => e z.2), if_neg e, rI_ne _ _ (by omega)]
    have r19 : ∀ j, rI (wI (wI (wI M0 (m + 17) k w) (m + 18) k t) (m + 19) k o) (m + 19) j = if j = k then o else rI M0 (m + 19) j := fun j => by
      rw [rI_wI]
      by_cases e : j = k
      · rw [if_pos ⟨rfl, e⟩, if_pos e]
      · rw [if_neg (fun z => e z.2), if_neg e, rI_ne _ _ (by omega), rI_ne _ _ (by omega)]
    rw [r17, r18, r19]
    rcases hh i (by omega) with ⟨e, e2⟩ | ⟨e, e1, e2⟩
    · rw [if_pos e, if_pos e, if_pos e, e2]; exact ⟨rfl, rfl, rfl⟩
    · rw [if_neg e, if_neg e, if_neg e, e2]
      rw [c9.ar 17 (by decide) (by decide) (by decide), c9.ar 18 (by decide) (by decide) (by decide), c9.ar 19 (by decide) (by decide) (by decide)]
      exact d5.2.2 i e1
theorem tmIx_has {l : List TmT} {w t : Int32} : tmHas l w t ↔ ∃ k, tmIx l w t l.length = some k := by
  refine ⟨fun ⟨k, hk, hk2⟩ => ?_, fun ⟨k, hk⟩ => ⟨k, (tmIx_some hk).1, (tmIx_some hk).2⟩⟩
  cases h : tmIx l w t l.length with
  | none => exact absurd hk2 (tmIx_none h k hk)
  | some j => exact ⟨j, rfl⟩
theorem mo_term (h : RM sh m a M) (w t o : Int32) : wp_X12_term sh M m w t o (QM sh m M (opTerm a w t o)) := by
  have hR := h
  obtain ⟨L, hd⟩ := h
  have hd' := hd
  obtain ⟨d1, d2, d3, d4, d5, d6, d7, d8⟩ := hd
  unfold wp_X12_term opTerm
  have hl := d5.1.1
  refine s12_isWord (fun c => br0 ?_) (fun c => br1 (s12_isTongue (fun _ e => br0 ?_) (fun t' ht' e1 _ => br1 (s12_isOwn (fun f => br0 ?_) (fun f => br1 ⟨L.1, s12_termOf L d5 ?_⟩)))))
  · rw [iteP_f (fun z => c z.1)]; exact QM.same hR
  · rw [iteP_f (fun z => e z.2.1)]; exact QM.same hR
  · rw [iteP_f (fun z => f z.2.2)]; exact QM.same hR
  have ht : isT t := e1 ▸ isT_nI ht'
  rw [iteP_t ⟨c, ht, f⟩]
  cases hx : tmIx (aT a) w t (aT a).length with
  | some k =>
    obtain ⟨hk, hk2⟩ := tmIx_some hx
    have hp : tmPut (aT a) w t o = (aT a).set k (w, t, o) := by unfold tmPut; rw [hx]
    have hg := tmPut_good d5.1 c ht f (Or.inr ⟨k, hk, hk2⟩)
    refine ⟨fun _ => ?_, fun q => absurd (nI_pos' (by omega)) q⟩
    rw [iteP_f (fun z => z.2 ⟨k, hk, hk2⟩)]
    rw [hp] at hg ⊢
    refine mo_term64 L (Ch.rf _ _ _ _) hd' (by rw [d5.2.1, List.length_set]) (by omega) rfl hg (fun i hi => ?_) _ rfl
    rw [List.length_set] at hi
    rw [p_set_getD hi]
    by_cases e : i = k
    · left; exact ⟨e, by rw [if_pos e]⟩
    · right; exact ⟨e, hi, by rw [if_neg e]⟩
  | none =>
    have hn := tmIx_none hx
    have hnh : ¬ tmHas (aT a) w t := fun ⟨k, hk, hk2⟩ => hn k hk hk2
    have hp : tmPut (aT a) w t o = aT a ++ [(w, t, o)] := by unfold tmPut; rw [hx]
    refine ⟨fun q => absurd q (by decide), fun _ => ?_⟩
    rw [d5.2.1]
    refine ⟨fun q => ?_, fun q => ?_⟩
    · have : (aT a).length = 10 := (p_eqI (b := 10) (by omega) (by omega)).mp q
      rw [iteP_t ⟨by omega, hnh⟩]; exact QM.same hR
    · have hne : ¬ (aT a).length = 10 := fun z => q (by rw [z]; rfl)
      rw [iteP_f (fun z => hne (by have := z.1; omega))]
      have hg := tmPut_good d5.1 c ht f (Or.inl (by omega))
      rw [hp] at hg ⊢
      refine mo_term64 L (Ch.wf 20 _ (by decide)) hd' (by rw [rI_same, nI_1]; simp) (k := (aT a).length) (by omega) rfl hg (fun i hi => ?_) _ rfl
      simp at hi
      by_cases e : i = (aT a).length
      · left; subst e; exact ⟨rfl, p_getD_app⟩
      · right; exact ⟨e, by omega, p_getD_app2 (by omega)⟩
theorem mo_forget (h : RM sh m a M) (w t : Int32) : wp_X12_forget sh M m w t (QM sh m M (opForget a w t)) := by
  have hR := h
  obtain ⟨L, d1, d2, d3, d4, d5, d6, d7, d8⟩ := h
  unfold wp_X12_forget opForget
  have hl := d5.1.1
  refine s12_isWord (fun c => br0 ?_) (fun c => br1 (s12_isTongue (fun _ e => br0 ?_) (fun t' ht' e1 _ => br1 ⟨L.1, s12_termOf L d5 ?_⟩)))
  · rw [iteP_f (fun z => c z.1)]; exact QM.same hR
  · rw [iteP_f (fun z => e z.2)]; exact QM.same hR
  have ht : isT t := e1 ▸ isT_nI ht'
  rw [iteP_t ⟨c, ht⟩]
  cases hx : tmIx (aT a) w t (aT a).length with
  | none => exact ⟨fun q => absurd q (by decide), fun _ => QM.same hR⟩
  | some k =>
    obtain ⟨hk, hk2⟩ := tmIx_some hx
    refine ⟨fun _ => ?_, fun q => absurd (nI_pos' (by omega)) q⟩
    rw [d5.2.1, show nI (aT a).length - (1 : Int32) = nI ((aT a).length - 1) from p_pred (by omega)]
    dsimp only [ixI]
    have c0 : Ch m [17, 18, 19] [20] M (wI M m 20 (nI ((aT a).length - 1))) := Ch.wf 20 _ (by decide)
    have e20 : rI (wI M m 20 (nI ((aT a).length - 1))) m 20 = nI ((aT a).length - 1) := rI_same _ _ _ _
    have e17 : ∀ j, rI (wI M m 20 (nI ((aT a).length - 1))) (m + 17) j = rI M (m + 17) j := fun j => rI_ne _ _ (by omega)
    have e18 : ∀ j, rI (wI M m 20 (nI ((aT a).length - 1))) (m + 18) j = rI M (m + 18) j := fun j => rI_ne _ _ (by omega)
    have e19 : ∀ j, rI (wI M m 20 (nI ((aT a).length - 1))) (m + 19) j = rI M (m + 19) j := fun j => rI_ne _ _ (by omega)
    generalize wI M m 20 (nI ((aT a).length - 1)) = M0 at c0 e20 e17 e18 e19 ⊢
    refine ⟨_, (c0.lm L).f21, L.k17, L.v17 (i := (aT a).length - 1) (by omega) e20, L.v17 (i := k) (by omega) rfl, ?_⟩
    rw [e20, p_cl (by omega), p_cl (by omega), e17]
    have c1 := c0.tr (Ch.wa (S := [17, 18, 19]) (F := [20]) (M := M0) 17 k (rI M (m + 17) ((aT a).length - 1)) (by decide) (by decide) (by decide))
    have e20' : rI (wI M0 (m + 17) k (rI M (m + 17) ((aT a).length - 1))) m 20 = nI ((aT a).length - 1) := (rI_ne _ _ (by omega)).trans e20
    refine ⟨_, (c1.lm L).f22, L.k18, L.v18 (i := (aT a).length - 1) (by omega) e20', ?_⟩
    rintro M18 rfl
    rw [e20', p_cl (by omega), show rI (wI M0 (m + 17) k (rI M (m + 17) ((aT a).length - 1))) (m + 18) ((aT a).length - 1) = rI M (m + 18) ((aT a).length - 1) from (rI_ne _ _ (by omega)).trans (e18 _)]
    have c2 := c1.tr (Ch.wa (S := [17, 18, 19]) (F := [20]) (M := wI M0 (m + 17) k (rI M (m + 17) ((aT a).length - 1))) 18 k (rI M (m + 18) ((aT a).length - 1)) (by decide) (by decide) (by decide))
    have e20'' : rI (wI (wI M0 (m + 17) k (rI M (m + 17) ((aT a).length - 1))) (m + 18) k (rI M (m + 18) ((aT a).length - 1))) m 20 = nI ((aT a).length - 1) := (rI_ne _ _ (by omega)).trans e20'
    refine ⟨L.v18 (i := k) (by omega) rfl, _, (c2.lm L).f23, L.k19, L.v19 (i := (aT a).length - 1) (by omega) e20'', L.v19 (i := k) (by omega) rfl, ?_⟩
    rw [e20'', p_cl (by omega), show rI (wI (wI M0 (m + 17) k (rI M (m + 17) ((aT a).length - 1))) (m + 18) k (rI M (m + 18) ((aT a).length - 1))) (m + 19) ((aT a).length - 1) = rI M (m + 19) ((aT a).length - 1) from (rI_ne _ _ (by omega)).trans ((rI_ne _ _ (by omega)).trans (e19 _))]
    have c7 := c2.tr (Ch.wa (S := [17, 18, 19]) (F := [20]) (M := wI (wI M0 (m + 17) k (rI M (m + 17) ((aT a).length - 1))) (m + 18) k (rI M (m + 18) ((aT a).length - 1))) 19 k (rI M (m + 19) ((aT a).length - 1)) (by decide) (by decide) (by decide))
    rw [rI_ne _ _ (show m ≠ m + 19 ∨ _ by omega), e20'']
    obtain ⟨t1, t2, t3⟩ := d5.2.2 ((aT a).length - 1) (by omega)
    refine QM.to ⟨d1.ch c7 (by decide) (by decide), d2.ch c7 (by decide) (by decide), d3.ch c7 (by decide) (by decide), d4.ch c7 (by decide) (by decide), ⟨tmDel_good d5.1 hk, ?_, fun i hi => ?_⟩, (c7.fl 24 (by decide)).trans d6, d7.ch c7 (by decide) (by decide), d8.ch c7 (by decide) (by decide)⟩ L c7
    · show _ = nI (tmDel (aT a) k).length
      rw [rI_ne _ _ (by omega), e20'', tmDel_len]
    · replace hi : i < (tmDel (aT a) k).length := hi
      rw [tmDel_len] at hi
      show _ = ((tmDel (aT a) k).getD i tm0).1 ∧ _ = ((tmDel (aT a) k).getD i tm0).2.1 ∧ _ = ((tmDel (aT a) k).getD i tm0).2.2
      rw [tmDel_get hi]
      obtain ⟨u1, u2, u3⟩ := d5.2.2 i (by omega)
      by_cases e : i = k
      · subst e
        rw [if_pos rfl]
        refine ⟨?_, ?_, ?_⟩
        · rw [rI_ne _ _ (by omega), rI_ne _ _ (by omega), rI_same]; exact t1
        · rw [rI_ne _ _ (by omega), rI_same]; exact t2
        · rw [rI_same]; exact t3
      · rw [if_neg e]
        refine ⟨?_, ?_, ?_⟩
        · rw [rI_ne _ _ (by omega), rI_ne _ _ (by omega), rI_ne _ _ (by omega), e17]; exact u1
        · rw [rI_ne _ _ (by omega), rI_ne _ _ (by omega), rI_ne _ _ (by omega), e18]; exact u2
        · rw [rI_ne _ _ (by omega), rI_ne _ _ (by omega), rI_ne _ _ (by omega), e19]; exact u3
end MB
