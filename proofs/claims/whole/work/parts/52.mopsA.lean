/-! the reference's calls: the source, hands, terms -/
theorem p_asked0 {l : List Int32} (hl : l.length ≤ 10) {w : Int32} {f : Nat} (hf : f < 1000) (h : ¬ ((f : Int) ≤ w.toInt ∧ w.toInt ≤ f - 1 + l.length)) : (if w < nI f then -1 else rowAt l (w - nI f)) = -1 := by
  by_cases c : w < nI f
  · rw [if_pos c]
  · rw [if_neg c]
    rw [p_lt, p_ti (by omega)] at c
    obtain ⟨n, hn, rfl⟩ := nI_of (x := w) (by rw [p_lt0]; omega)
    have hn' : n < 2147483648 := hn
    rw [p_ti hn'] at c h
    rw [pk_sub (by omega)]
    unfold rowAt
    rw [show p_ix l.length (nI (n - f)) = none from if_neg (by rw [p_ti (by omega)]; omega)]
theorem p_asked1 {l : List Int32} (hl : l.length ≤ 10) {w : Int32} {f : Nat} (hf : f < 1000) (h1 : (f : Int) ≤ w.toInt) (h2 : w.toInt ≤ f - 1 + l.length) : ∃ j, j < l.length ∧ w = nI (f + j) ∧ (if w < nI f then -1 else rowAt l (w - nI f)) = l.getD j 0 := by
  obtain ⟨n, hn, rfl⟩ := nI_of (x := w) (by rw [p_lt0]; omega)
  have hn' : n < 2147483648 := hn
  rw [p_ti hn'] at h1 h2
  refine ⟨n - f, by omega, by rw [show f + (n - f) = n by omega], ?_⟩
  rw [if_neg (by rw [p_lt, p_ti (by omega), p_ti (by omega)]; omega), pk_sub (by omega)]
  exact rowAt_nI (by omega) hl
section MA
variable {sh : gh_Sh} {m : Nat} {a : AbS} {M : gh_M}
theorem mo_sign23 (h : RM sh m a M) (x : Int32) (hx : isW x ∨ isH x ∨ isO x) : wp_X12_sign_23 sh (QM sh m M (opSign a x)) m x M := by
  have hR := h
  obtain ⟨L, d1, d2, d3, d4, d5, d6, d7, d8⟩ := h
  unfold wp_X12_sign_23 opSign
  have hl := d1.1
  rw [iteP_t hx, d1.2.1]
  refine ⟨L.1, fun c => ?_, fun c => ⟨_, L.f1, L.k1, L.v1 (i := (aD a).length) ?_ rfl, ?_⟩⟩
  · have : (aD a).length = 10 := (p_eqI (b := 10) (by omega) (by omega)).mp c
    rw [if_pos (by omega)]; exact QM.same hR
  · have : ¬ (aD a).length = 10 := fun z => c (by rw [z]; rfl)
    omega
  · have hne : ¬ (aD a).length = 10 := fun z => c (by rw [z]; rfl)
    rw [if_neg (by omega), p_cl (by omega), rI_same, rI_ne _ _ (by omega), d1.2.1, nI_1]
    have c1 : Ch m [1] [0] M (wI (wI M (m + 1) (aD a).length x) m 0 (nI ((aD a).length + 1))) := (Ch.wa 1 _ _ (by decide) (by decide) (by decide)).tr (Ch.wf 0 _ (by decide))
    refine QM.to ⟨⟨by show (aD a ++ [x]).length ≤ 10; simp; omega, by show _ = nI (aD a ++ [x]).length; rw [rI_same]; simp, fun i hi => ?_⟩, d2.ch c1 (by decide) (by decide), d3.ch c1 (by decide) (by decide), d4.ch c1 (by decide) (by decide), d5.ch c1 (by decide) (by decide), (c1.fl 24 (by decide)).trans d6, d7.ch c1 (by decide) (by decide), d8.ch c1 (by decide) (by decide)⟩ L c1
    replace hi : i < (aD a ++ [x]).length := hi
    simp at hi
    rw [rI_ne _ _ (by omega)]
    by_cases e : i = (aD a).length
    · subst e; rw [rI_same]; exact p_getD_app.symm
    · rw [rI_ne _ _ (by omega), d1.2.2 i (by omega)]; exact (p_getD_app2 (by omega)).symm
theorem mo_sign (h : RM sh m a M) (x : Int32) : wp_X12_sign sh M m x (QM sh m M (opSign a x)) := by
  unfold wp_X12_sign
  refine s12_isWord (fun c => br0 (s12_isHole (fun c2 => br0 (s12_isOwn (fun c3 => br0 ?_) (fun c3 => br1 (mo_sign23 h x (Or.inr (Or.inr c3)))))) (fun c2 => br1 (mo_sign23 h x (Or.inr (Or.inl c2)))))) (fun c => br1 (mo_sign23 h x (Or.inl c)))
  unfold opSign
  rw [iteP_f (fun z => z.elim c (fun z => z.elim c2 c3))]
  exact QM.same h
theorem mo_scrap (h : RM sh m a M) : wp_X12_scrap sh M m (QM sh m M (opScrap a)) := by
  obtain ⟨L, d1, d2, d3, d4, d5, d6, d7, d8⟩ := h
  unfold wp_X12_scrap opScrap
  have c1 : Ch m [] [0] M (wI M m 0 (0 : Int32)) := Ch.wf 0 _ (by decide)
  rw [d1.2.1]
  exact ⟨L.1, QM.to ⟨⟨Nat.zero_le _, by rw [rI_same]; rfl, fun i hi => absurd hi (Nat.not_lt_zero i)⟩, d2.ch c1 (by decide) (by decide), d3.ch c1 (by decide) (by decide), d4.ch c1 (by decide) (by decide), d5.ch c1 (by decide) (by decide), (c1.fl 24 (by decide)).trans d6, d7.ch c1 (by decide) (by decide), d8.ch c1 (by decide) (by decide)⟩ L c1⟩
theorem mo_drop (h : RM sh m a M) : wp_X12_drop sh M m (QM sh m M (opDrop a)) := by
  obtain ⟨L, d1, d2, d3, d4, d5, d6, d7, d8⟩ := h
  unfold wp_X12_drop opDrop
  have c1 : Ch m [] [8] M (wI M m 8 (0 : Int32)) := Ch.wf 8 _ (by decide)
  rw [d3.2.1]
  exact ⟨L.1, QM.to ⟨d1.ch c1 (by decide) (by decide), d2.ch c1 (by decide) (by decide), ⟨Nat.zero_le _, by rw [rI_same]; rfl, fun i hi => absurd hi (Nat.not_lt_zero i)⟩, d4.ch c1 (by decide) (by decide), d5.ch c1 (by decide) (by decide), (c1.fl 24 (by decide)).trans d6, d7.ch c1 (by decide) (by decide), d8.ch c1 (by decide) (by decide)⟩ L c1⟩
theorem mo_piece (h : RM sh m a M) (k : Int32) : wp_X12_piece sh M m k (QM sh m M (opPiece a k)) := by
  have hR := h
  obtain ⟨L, d1, d2, d3, d4, d5, d6, d7, d8⟩ := h
  unfold wp_X12_piece opPiece
  have hl := d1.1
  have hn := d3.1
  refine s12_in (fun c => br0 ?_) (fun c c' => br1 ⟨L.1, ?_⟩)
  · rw [iteP_f (c := 0 ≤ k.toInt ∧ k.toInt ≤ 2) c]; exact QM.same hR
  rw [iteP_t (c := 0 ≤ k.toInt ∧ k.toInt ≤ 2) ⟨c, c'⟩, d1.2.1]
  refine s12_in (fun c2 => br0 ?_) (fun c2 c2' => br1 (s12_hasOwn L d1 (fun c3 => br0 ⟨fun c4 => ?_, fun c4 => ?_⟩) (fun c3 => br1 ?_)))
  · rw [p_ti (by omega)] at c2
    rw [if_neg (fun z => c2 ⟨by show (1 : Int) ≤ _; omega, by show _ ≤ (8 : Int); omega⟩)]; exact QM.same hR
  · rw [p_ti (by omega)] at c2 c2'
    have h1 : (1 : Int) ≤ ((aD a).length : Int) := c2
    have h2 : ((aD a).length : Int) ≤ 8 := c2'
    rw [d3.2.1] at c4
    have : (aN a).length = 8 := (p_eqI (b := 8) (by omega) (by omega)).mp c4
    rw [if_pos (by omega), iteP_f c3, if_pos (by omega)]; exact QM.same hR
  · rw [p_ti (by omega)] at c2 c2'
    have h1 : (1 : Int) ≤ ((aD a).length : Int) := c2
    have h2 : ((aD a).length : Int) ≤ 8 := c2'
    rw [d3.2.1] at c4 ⊢
    have hne : ¬ (aN a).length = 8 := fun z => c4 (by rw [z]; rfl)
    rw [if_pos (by omega), iteP_f c3, if_neg (by omega)]
    have c5 : Ch m [7, 8, 9] [8, 0] M (wI M (m + 7) (aN a).length k) := Ch.wa 7 _ _ (by decide) (by decide) (by decide)
    refine ⟨_, L.f9, L.k7, L.v7 (i := (aN a).length) (by omega) rfl, _, (c5.lm L).f10, L.k8, ?_, ?_⟩
    · rw [p_cl (by omega), rI_ne _ _ (by omega), d3.2.1]; exact L.v8 (i := (aN a).length) (by omega) rfl
    · rw [p_cl (by omega), rI_ne _ _ (by omega), d3.2.1, p_cl (by omega), rI_ne _ _ (by omega), d1.2.1]
      have c6 : Ch m [7, 8, 9] [8, 0] M (wI (wI M (m + 7) (aN a).length k) (m + 8) (aN a).length (nI (aD a).length)) := c5.tr (Ch.wa 8 _ _ (by decide) (by decide) (by decide))
      have k7 : ∀ i, rI (wI (wI M (m + 7) (aN a).length k) (m + 8) (aN a).length (nI (aD a).length)) (m + 7) i = if i = (aN a).length then k else rI M (m + 7) i := fun i => by
        rw [rI_ne _ _ (by omega), rI_wI]
        by_cases e : i = (aN a).length
        · rw [if_pos ⟨rfl, e⟩, if_pos e]
        · rw [if_neg (fun z => e z.2), if_neg e]
      have k8 : ∀ i, rI (wI (wI M (m + 7) (aN a).length k) (m + 8) (aN a).length (nI (aD a).length)) (m + 8) i = if i = (aN a).length then nI (aD a).length else rI M (m + 8) i := fun i => by
        rw [rI_wI]
        by_cases e : i = (aN a).length
        · rw [if_pos ⟨rfl, e⟩, if_pos e]
        · rw [if_neg (fun z => e z.2), if_neg e, rI_ne _ _ (by omega)]
      have k9 : ∀ i, rI (wI (wI M (m + 7) (aN a).length k) (m + 8) (aN a).length (nI (aD a).length)) (m + 9) i = rI M (m + 9) i := fun i => by rw [rI_ne _ _ (by omega), rI_ne _ _ (by omega)]
      have kf : ∀ f, rI (wI (wI M (m + 7) (aN a).length k) (m + 8) (aN a).length (nI (aD a).length)) m f = rI M m f := fun f => by rw [rI_ne _ _ (by omega), rI_ne _ _ (by omega)]
      have k1 : ∀ i, rI (wI (wI M (m + 7) (aN a).length k) (m + 8) (aN a).length (nI (aD a).length)) (m + 1) i = rI M (m + 1) i := fun i => by rw [rI_ne _ _ (by omega), rI_ne _ _ (by omega)]
      generalize wI (wI M (m + 7) (aN a).length k) (m + 8) (aN a).length (nI (aD a).length) = M0 at c6 k7 k8 k9 kf k1 ⊢
      unfold wp_X12_piece_74
      refine for1 0 (aD a).length (by omega) (by omega) (fun i M1 => Ch m [9] [] M0 M1 ∧ ∀ q, rI M1 (m + 9) q = if 8 * (aN a).length ≤ q ∧ q < 8 * (aN a).length + i then (aD a).getD (q - 8 * (aN a).length) 0 else rI M (m + 9) q) ⟨Ch.rf _ _ _ _, fun q => by rw [if_neg (by omega), k9]⟩ ?_ ?_
      · rintro i M1 kk - hi ⟨hc, hq⟩ hk
        unfold wb_X12_piece_74
        dsimp only
        have L1 := hc.lm (c6.lm L)
        rw [hc.fl 0 (by decide), hc.fl 8 (by decide), kf, kf, d1.2.1, d3.2.1]
        refine ⟨L.1, fun c => absurd ((p_leI (by omega) (by omega)).mp c) (by omega), fun _ => ⟨_, L1.f11, _, L1.f1, L.k1, L.v1 (i := i) (by omega) rfl, L.k9, L.v9 (i := 8 * (aN a).length + i) (by omega) (e8 _ _), hk _ ⟨hc.tr (Ch.wa 9 _ _ (by decide) (by decide) (by decide)), fun q => ?_⟩⟩⟩
        rw [e8, p_cl (by omega), p_cl (by omega), hc.ar 1 (by decide) (by decide) (by decide), k1, d1.2.2 i hi, rI_wI, hq]
        by_cases e : q = 8 * (aN a).length + i
        · rw [if_pos ⟨rfl, e⟩, if_pos (by omega), show q - 8 * (aN a).length = i by omega]
        · rw [if_neg (fun z => e z.2)]
          by_cases e2 : 8 * (aN a).length ≤ q ∧ q < 8 * (aN a).length + i
          · rw [if_pos e2, if_pos (by omega)]
          · rw [if_neg e2, if_neg (by omega)]
      · rintro M1 kk ⟨hc, hq⟩
        unfold wb_X12_piece_74
        dsimp only
        rw [hc.fl 0 (by decide), hc.fl 8 (by decide), kf, kf, d1.2.1, d3.2.1]
        refine ⟨L.1, fun _ => ?_, fun c => absurd ((p_leI (by omega) (by omega)).mpr (Nat.le_refl _)) c⟩
        have c7 : Ch m [7, 8, 9] [8, 0] M (wI (wI M1 m 8 (nI (aN a).length + (1 : Int32))) m 0 (0 : Int32)) := (c6.tr (hc.mono (by decide) (by decide))).tr ((Ch.wf 8 _ (by decide)).tr (Ch.wf 0 _ (by decide)))
        rw [rI_ne _ _ (by omega), rI_same, nI_1, p_sub1]
        rw [nI_1] at c7
        refine QM.to ⟨⟨Nat.zero_le _, by rw [rI_same]; rfl, fun i hi => absurd hi (Nat.not_lt_zero i)⟩, d2.ch c7 (by decide) (by decide), ⟨by show (aN a ++ [(k, aD a)]).length ≤ 8; simp; omega, by show _ = nI (aN a ++ [(k, aD a)]).length; rw [rI_ne _ _ (by omega), rI_same]; simp, fun i hi => ?_⟩, d4.ch c7 (by decide) (by decide), d5.ch c7 (by decide) (by decide), (c7.fl 24 (by decide)).trans d6, d7.ch c7 (by decide) (by decide), d8.ch c7 (by decide) (by decide)⟩ L c7
        replace hi : i < (aN a ++ [(k, aD a)]).length := hi
        simp at hi
        have q7 : rI (wI (wI M1 m 8 (nI ((aN a).length + 1))) m 0 (0 : Int32)) (m + 7) i = if i = (aN a).length then k else rI M (m + 7) i := by rw [rI_ne _ _ (by omega), rI_ne _ _ (by omega), hc.ar 7 (by decide) (by decide) (by decide), k7]
        have q8 : rI (wI (wI M1 m 8 (nI ((aN a).length + 1))) m 0 (0 : Int32)) (m + 8) i = if i = (aN a).length then nI (aD a).length else rI M (m + 8) i := by rw [rI_ne _ _ (by omega), rI_ne _ _ (by omega), hc.ar 8 (by decide) (by decide) (by decide), k8]
        have q9 : ∀ j, rI (wI (wI M1 m 8 (nI ((aN a).length + 1))) m 0 (0 : Int32)) (m + 9) j = rI M1 (m + 9) j := fun j => by rw [rI_ne _ _ (by omega), rI_ne _ _ (by omega)]
        rw [q7, q8]
        by_cases e : i = (aN a).length
        · subst e
          rw [if_pos rfl, if_pos rfl]
          rw [show (aN a ++ [(k, aD a)]).getD (aN a).length nx0 = (k, aD a) from p_getD_app]
          refine ⟨rfl, by show (aD a).length ≤ 8; omega, rfl, fun j hj => ?_⟩
          have hj' : j < (aD a).length := hj
          rw [q9, hq, if_pos (by omega), show 8 * (aN a).length + j - 8 * (aN a).length = j by omega]
        · rw [if_neg e, if_neg e]
          rw [show (aN a ++ [(k, aD a)]).getD i nx0 = (aN a).getD i nx0 from p_getD_app2 (by omega)]
          obtain ⟨r1, r2, r3, r4⟩ := d3.2.2 i (by omega)
          refine ⟨r1, r2, r3, fun j hj => ?_⟩
          rw [q9, hq, if_neg (by omega)]; exact r4 j hj
  · rw [p_ti (by omega)] at c2 c2'
    have h1 : (1 : Int) ≤ ((aD a).length : Int) := c2
    have h2 : ((aD a).length : Int) ≤ 8 := c2'
    rw [if_pos (by omega), iteP_t c3]; exact QM.same hR
theorem mo_of (h : RM sh m a M) (p w : Int32) : wp_X12_of sh M m p w (QM sh m M (opOf a p w)) := by
  have hR := h
  obtain ⟨L, d1, d2, d3, d4, d5, d6, d7, d8⟩ := h
  unfold wp_X12_of opOf
  have h8 := d2.1
  refine ⟨L.1, s12_isPiece L d2 (fun e => br0 ?_) (fun i hi e1 e => br1 ?_)⟩
  · rw [e]; exact QM.same hR
  rw [e]
  subst e1
  obtain ⟨q1, q2, q3, q4, q5, q6, q7⟩ := d2.2.2 i hi
  have hp : pcAt a i = (aS a).getD i pc0 := rfl
  have hp' : (pcAt a i).2.1.length = ((aS a).getD i pc0).2.1.length := rfl
  refine ⟨fun c => ⟨_, L.f3, L.k2, L.v2 (i := i) (by omega) rfl, ?_⟩, fun c => ⟨fun c2 => ⟨_, L.f4, L.k3, L.v3 (i := i) (by omega) rfl, ?_⟩, fun c2 => ⟨_, L.f4, L.k3, L.v3 (i := i) (by omega) rfl, ?_⟩⟩⟩
  · dsimp only
    rw [if_pos c, p_cl (by omega), q1]; exact QM.same hR
  · dsimp only
    rw [if_neg c, if_pos c2, p_cl (by omega), q3]; exact QM.same hR
  · dsimp only
    rw [if_neg c, if_neg c2, p_cl (by omega), q3, b9]
    refine s12_in (fun c3 => br0 ?_) (fun c3 c4 => br1 ⟨_, L.f5, L.k4, ?_⟩)
    · rw [show (if w < 10 then (-1 : Int32) else rowAt (pcAt a i).2.1 (w - 10)) = -1 from p_asked0 (f := 10) (by rw [hp]; omega) (by decide) (fun z => c3 ⟨z.1, by rw [p_ti (by omega)]; have := z.2; omega⟩)]; exact QM.same hR
    · rw [p_ti (by omega)] at c4
      obtain ⟨j, hj, rfl, e4⟩ := p_asked1 (l := (pcAt a i).2.1) (f := 10) (by rw [hp]; omega) (by decide) c3 (by rw [hp]; omega)
      have e5 : ((8 : Int32) * nI i + nI (10 + j)) - (10 : Int32) = nI (8 * i + j) := by
        rw [e8, show 8 * i + (10 + j) = 8 * i + j + 10 by omega]
        exact (pk_sub (a := 8 * i + j + 10) (b := 10) (by omega)).trans (by rw [Nat.add_sub_cancel])
      have hj' : j < ((aS a).getD i pc0).2.1.length := hj
      rw [show (if nI (10 + j) < 10 then (-1 : Int32) else rowAt (pcAt a i).2.1 (nI (10 + j) - 10)) = _ from e4, e5, p_cl (by omega)]
      refine ⟨L.v4 (i := 8 * i + j) (by omega) rfl, ?_⟩
      rw [show rI M (m + 4) (8 * i + j) = (pcAt a i).2.1.getD j 0 from q4 j hj']; exact QM.same hR
theorem mo_from (h : RM sh m a M) (p : Int32) : wp_X12_from sh M m p (QM sh m M (opFrom a p)) := by
  have hR := h
  obtain ⟨L, d1, d2, d3, d4, d5, d6, d7, d8⟩ := h
  unfold wp_X12_from opFrom
  have h8 := d2.1
  refine ⟨L.1, s12_isPiece L d2 (fun e => br0 ?_) (fun i hi e1 e => br1 ?_)⟩
  · rw [e]; exact QM.same hR
  rw [e]
  subst e1
  obtain ⟨q1, q2, q3, q4, q5, q6, q7⟩ := d2.2.2 i hi
  refine ⟨_, L.f6, L.k5, L.v5 (i := i) (by omega) rfl, ?_⟩
  rw [p_cl (by omega)]
  dsimp only
  rcases q5 with ⟨g1, g2⟩ | ⟨g1, g2⟩
  · rw [g2, show (pcAt a i).2.2.1 = -5 from g1]
    exact ⟨fun c => absurd c (by decide), fun _ => QM.same hR⟩
  · rw [g2]
    exact ⟨fun _ => ⟨L.v5 (i := i) (by omega) rfl, QM.same hR⟩, fun c => absurd ((p_0le _).mpr g1) c⟩
theorem mo_story (h : RM sh m a M) (p : Int32) : wp_X12_story sh M m p (QM sh m M (opStory a p)) := by
  have hR := h
  obtain ⟨L, d1, d2, d3, d4, d5, d6, d7, d8⟩ := h
  unfold wp_X12_story opStory
  have h8 := d2.1
  refine ⟨L.1, s12_isPiece L d2 (fun e => br0 ?_) (fun i hi e1 e => br1 ?_)⟩
  · rw [e]; exact QM.same hR
  rw [e]
  subst e1
  obtain ⟨q1, q2, q3, q4, q5, q6, q7⟩ := d2.2.2 i hi
  refine ⟨_, L.f6, L.k5, L.v5 (i := i) (by omega) rfl, ?_⟩
  rw [p_cl (by omega)]
  dsimp only
  unfold storyOf
  have g6 : (pcAt a i).2.2.2.1 = rI M (m + 6) i := q6.symm
  rcases q5 with ⟨g1, g2⟩ | ⟨g1, g2⟩
  · rw [g2, if_pos (show (pcAt a i).2.2.1 = -5 from g1)]
    exact ⟨fun c => absurd c (by decide), fun _ => QM.same hR⟩
  · have n5 : ¬ (pcAt a i).2.2.1 = -5 := fun z => by
      have z' : ((aS a).getD i pc0).2.2.1 = -5 := z
      rw [z'] at g1; exact absurd g1 (by decide)
    rw [if_neg n5, g6, g2]
    refine ⟨fun _ => ⟨_, L.f7, L.k6, L.v6 (i := i) (by omega) rfl, fun c => ⟨L.v5 (i := i) (by omega) rfl, fun c2 => ?_, fun c2 => ?_⟩, fun c => ?_⟩, fun c => absurd ((p_0le _).mpr g1) c⟩
    · rw [p_le0] at c
      rw [if_neg (by omega), if_pos c2]; exact QM.same hR
    · rw [p_le0] at c
      rw [if_neg (by omega), if_neg c2]; exact QM.same hR
    · rw [p_le0] at c
      rw [if_pos (by omega)]; exact QM.same hR
end MA
