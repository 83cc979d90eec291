/-! Hands, Terms -/
/-- a HAND: TONGUES, HOURS, RATE -/
abbrev HnT : Type := Int32 × Int32 × Int32
def hn0 : HnT := (0, 0, 0)
def kn (x : HnT) (t : Nat) : Prop := (x.1 >>> (nI t &&& 31)) &&& (1 : Int32) = (1 : Int32)
def LHands (sh : gh_Sh) (M : gh_M) (h : Nat) : Prop := sh.1 h = 2 ∧ rR M h 0 = some (h + 1) ∧ rR M h 1 = some (h + 2) ∧ rR M h 2 = some (h + 3) ∧ (sh.1 (h + 1) = 13 ∧ sh.2 (h + 1) = 5) ∧ (sh.1 (h + 2) = 13 ∧ sh.2 (h + 2) = 5) ∧ (sh.1 (h + 3) = 13 ∧ sh.2 (h + 3) = 5)
theorem LHands.fr {sh : gh_Sh} {M M' : gh_M} {h : Nat} (L : LHands sh M h) (e : ∀ a j, rR M' a j = rR M a j) : LHands sh M' h := ⟨L.1, (e _ _).trans L.2.1, (e _ _).trans L.2.2.1, (e _ _).trans L.2.2.2.1, L.2.2.2.2⟩
theorem LHands.fw {sh : gh_Sh} {lo hi : Nat} {M M' : gh_M} {h : Nat} (L : LHands sh M h) (f : Fw lo hi M M') (d : h + 3 < lo ∨ hi ≤ h) : LHands sh M' h := ⟨L.1, (f _ _ (by omega)).2.2.trans L.2.1, (f _ _ (by omega)).2.2.trans L.2.2.1, (f _ _ (by omega)).2.2.trans L.2.2.2.1, L.2.2.2.2⟩
def handsIs (M : gh_M) (h : Nat) (l : List HnT) : Prop := l.length ≤ 5 ∧ rI M h 3 = nI l.length ∧ ∀ i, i < l.length → rI M (h + 1) i = (l.getD i hn0).1 ∧ rI M (h + 2) i = (l.getD i hn0).2.1 ∧ rI M (h + 3) i = (l.getD i hn0).2.2
theorem handsIs.fr {lo hi : Nat} {M M' : gh_M} {h : Nat} {l : List HnT} (H : handsIs M h l) (f : Fr lo hi M M') (d : h + 3 < lo ∨ hi ≤ h) : handsIs M' h l := ⟨H.1, (f.I (by omega) _).trans H.2.1, fun i hi => ⟨(f.I (by omega) _).trans (H.2.2 i hi).1, (f.I (by omega) _).trans (H.2.2 i hi).2.1, (f.I (by omega) _).trans (H.2.2 i hi).2.2⟩⟩
theorem handsIs.fw {lo hi : Nat} {M M' : gh_M} {h : Nat} {l : List HnT} (H : handsIs M h l) (f : Fw lo hi M M') (d : h + 3 < lo ∨ hi ≤ h) : handsIs M' h l := ⟨H.1, (f _ _ (by omega)).1.trans H.2.1, fun i hi => ⟨(f _ _ (by omega)).1.trans (H.2.2 i hi).1, (f _ _ (by omega)).1.trans (H.2.2 i hi).2.1, (f _ _ (by omega)).1.trans (H.2.2 i hi).2.2⟩⟩
section HandSpecs
variable {sh : gh_Sh} {M : gh_M} {q : Nat} {l : List HnT}
theorem s2_count {post : Int32 → gh_M → Prop} (L : LHands sh M q) (H : handsIs M q l) (h : post (nI l.length) M) : wp_X2_count sh M q post := by
  unfold wp_X2_count
  exact ⟨L.1, by rw [H.2.1]; exact h⟩
theorem s2_isFull {post : Int32 → gh_M → Prop} (L : LHands sh M q) (H : handsIs M q l) (h : post (if 5 ≤ l.length then 1 else 0) M) : wp_X2_isFull sh M q post := by
  unfold wp_X2_isFull
  have hl := H.1
  have e : (rI M q 3 < (5 : Int32)) ↔ ¬ 5 ≤ l.length := by
    rw [H.2.1]
    exact (p_ltI (b := 5) (by omega) (by decide)).trans (by omega)
  refine ⟨L.1, fun c => ?_, fun c => ?_⟩
  · rw [if_neg (e.mp c)] at h; exact h
  · rw [if_pos (Classical.not_not.mp fun q => c (e.mpr q))] at h; exact h
theorem s2_has {post : Int32 → gh_M → Prop} {i : Int32} (L : LHands sh M q) (H : handsIs M q l) (h : post (if (p_ix l.length i).isSome then 1 else 0) M) : wp_X2_has sh M q i post := by
  unfold wp_X2_has
  have hl := H.1
  rw [H.2.1]
  rcases p_ix_cases l.length (by omega) i with ⟨e, hc⟩ | ⟨j, hj, rfl, e⟩
  · rw [e] at h
    refine ⟨fun _ => h, fun c => ⟨L.1, fun _ => h, fun c2 => ?_⟩⟩
    rcases hc with hc | hc
    · exact absurd hc c
    · exact absurd hc c2
  · rw [e] at h
    refine ⟨fun c => absurd c (nI_pos (by omega)), fun _ => ⟨L.1, fun c => ?_, fun c => h⟩⟩
    rw [p_leI (by omega) (by omega)] at c; omega
theorem s2_has_nI {post : Int32 → gh_M → Prop} {j : Nat} (hj : j < l.length) (L : LHands sh M q) (H : handsIs M q l) (h : post 1 M) : wp_X2_has sh M q (nI j) post := s2_has L H (by rw [p_ix_nI hj (by have := H.1; omega)]; exact h)
theorem s2_knows {post : Int32 → gh_M → Prop} {j t : Nat} (hj : j < l.length) (ht : t < 3) (L : LHands sh M q) (H : handsIs M q l) (h : post (b2i (kn (l.getD j hn0) t)) M) : wp_X2_knows sh M q (nI j) (nI t) post := by
  unfold wp_X2_knows
  have hl := H.1
  refine ⟨L.1, s2_has_nI hj L H ⟨fun c => absurd c (by decide), fun _ => s11_isTongue ⟨fun c => absurd (isT_nI ht) (b2i_0.mp c), fun _ => ⟨_, L.2.1, L.2.2.2.2.1.1, by rw [L.2.2.2.2.1.2]; exact p_in (by omega) (by omega), ?_⟩⟩⟩⟩
  rw [p_cl (by omega), (H.2.2 j hj).1]
  refine ⟨fun c => ?_, fun c => ?_⟩
  · rw [b2i_t (show kn (l.getD j hn0) t from c)] at h; exact h
  · rw [b2i_f (show ¬ kn (l.getD j hn0) t from c)] at h; exact h
theorem s2_hoursOf {post : Int32 → gh_M → Prop} {j : Nat} (hj : j < l.length) (L : LHands sh M q) (H : handsIs M q l) (h : post (l.getD j hn0).2.1 M) : wp_X2_hoursOf sh M q (nI j) post := by
  unfold wp_X2_hoursOf
  have hl := H.1
  refine ⟨L.1, s2_has_nI hj L H ⟨fun c => absurd c (by decide), fun _ => ⟨_, L.2.2.1, L.2.2.2.2.2.1.1, by rw [L.2.2.2.2.2.1.2]; exact p_in (by omega) (by omega), ?_⟩⟩⟩
  rw [p_cl (by omega), (H.2.2 j hj).2.1]; exact h
theorem s2_rateOf {post : Int32 → gh_M → Prop} {j : Nat} (hj : j < l.length) (L : LHands sh M q) (H : handsIs M q l) (h : post (l.getD j hn0).2.2 M) : wp_X2_rateOf sh M q (nI j) post := by
  unfold wp_X2_rateOf
  have hl := H.1
  refine ⟨L.1, s2_has_nI hj L H ⟨fun c => absurd c (by decide), fun _ => ⟨_, L.2.2.2.1, L.2.2.2.2.2.2.1, by rw [L.2.2.2.2.2.2.2]; exact p_in (by omega) (by omega), ?_⟩⟩⟩
  rw [p_cl (by omega), (H.2.2 j hj).2.2]; exact h
theorem p_set_getD {α : Type} {l : List α} {x d : α} {k i : Nat} (hi : i < l.length) : (l.set k x).getD i d = if i = k then x else l.getD i d := by
  rw [List.getD_eq_getElem?_getD, List.getElem?_set, List.getD_eq_getElem?_getD]
  by_cases e : k = i
  · subst e; simp [hi]
  · simp [e, Ne.symm e]
theorem s2_setHours {post : gh_M → Prop} {j : Nat} {n : Int32} (hj : j < l.length) (L : LHands sh M q) (H : handsIs M q l) (h : ∀ M', Fr q (q + 4) M M' → handsIs M' q (l.set j ((l.getD j hn0).1, n, (l.getD j hn0).2.2)) → post M') : wp_X2_setHours sh M q (nI j) n post := by
  unfold wp_X2_setHours
  have hl := H.1
  refine ⟨L.1, s2_has_nI hj L H ⟨fun c => absurd c (by decide), fun _ => ⟨_, L.2.2.1, L.2.2.2.2.2.1.1, by rw [L.2.2.2.2.2.1.2]; exact p_in (by omega) (by omega), ?_⟩⟩⟩
  rw [p_cl (by omega)]
  refine h _ (Fr.w (by omega) (by omega)) ⟨by simpa using H.1, by rw [rI_ne _ _ (by omega), H.2.1]; simp, fun i hi => ?_⟩
  simp at hi
  rw [p_set_getD hi]
  obtain ⟨a, b, c⟩ := H.2.2 i hi
  by_cases e : i = j
  · subst e
    rw [if_pos rfl]
    exact ⟨by rw [rI_ne _ _ (by omega)]; exact a, rI_same _ _ _ _, by rw [rI_ne _ _ (by omega)]; exact c⟩
  · rw [if_neg e]
    exact ⟨by rw [rI_ne _ _ (by omega)]; exact a, by rw [rI_ne _ _ (by omega)]; exact b, by rw [rI_ne _ _ (by omega)]; exact c⟩
end HandSpecs
/-- a TERM: WORD, TONGUE, OWN WORD -/
abbrev TmT : Type := Int32 × Int32 × Int32
def tm0 : TmT := (0, 0, 0)
def tmKey (l : List TmT) (k : Nat) (w t : Int32) : Prop := (l.getD k tm0).1 = w ∧ (l.getD k tm0).2.1 = t
def tmHas (l : List TmT) (w t : Int32) : Prop := ∃ k, k < l.length ∧ tmKey l k w t
def tmGood (l : List TmT) : Prop := l.length ≤ 10 ∧ (∀ k, k < l.length → isW (l.getD k tm0).1 ∧ isT (l.getD k tm0).2.1 ∧ isO (l.getD k tm0).2.2) ∧ ∀ i j, i < l.length → j < l.length → (l.getD i tm0).1 = (l.getD j tm0).1 → (l.getD i tm0).2.1 = (l.getD j tm0).2.1 → i = j
def tmSpec (l : List TmT) (w t : Int32) (v : Int32) : Prop := (∃ k, k < l.length ∧ tmKey l k w t ∧ v = (l.getD k tm0).2.2) ∨ (¬ tmHas l w t ∧ v = 0)
def LTerms (sh : gh_Sh) (M : gh_M) (q : Nat) : Prop := sh.1 q = 9 ∧ rR M q 0 = some (q + 1) ∧ sh.1 (q + 1) = 18 ∧ sh.2 (q + 1) = 3 ∧ ∀ t, t < 3 → rR M (q + 1) t = some (q + 2 + t) ∧ sh.1 (q + 2 + t) = 13 ∧ sh.2 (q + 2 + t) = 100
theorem LTerms.fr {sh : gh_Sh} {M M' : gh_M} {q : Nat} (L : LTerms sh M q) (e : ∀ a j, rR M' a j = rR M a j) : LTerms sh M' q := ⟨L.1, (e _ _).trans L.2.1, L.2.2.1, L.2.2.2.1, fun t ht => ⟨(e _ _).trans (L.2.2.2.2 t ht).1, (L.2.2.2.2 t ht).2⟩⟩
theorem LTerms.fw {sh : gh_Sh} {lo hi : Nat} {M M' : gh_M} {q : Nat} (L : LTerms sh M q) (f : Fw lo hi M M') (d : q + 4 < lo ∨ hi ≤ q) : LTerms sh M' q := ⟨L.1, (f _ _ (by omega)).2.2.trans L.2.1, L.2.2.1, L.2.2.2.1, fun t ht => ⟨(f _ _ (by omega)).2.2.trans (L.2.2.2.2 t ht).1, (L.2.2.2.2 t ht).2⟩⟩
def termsIs (M : gh_M) (q : Nat) (l : List TmT) : Prop := tmGood l ∧ rI M q 1 = nI l.length ∧ ∀ w t, w < 100 → t < 3 → tmSpec l (nI w) (nI t) (rI M (q + 2 + t) w)
theorem termsIs.fr {lo hi : Nat} {M M' : gh_M} {q : Nat} {l : List TmT} (H : termsIs M q l) (f : Fr lo hi M M') (d : q + 4 < lo ∨ hi ≤ q) : termsIs M' q l := ⟨H.1, (f.I (by omega) _).trans H.2.1, fun w t hw ht => by rw [f.I (by omega)]; exact H.2.2 w t hw ht⟩
theorem termsIs.fw {lo hi : Nat} {M M' : gh_M} {q : Nat} {l : List TmT} (H : termsIs M q l) (f : Fw lo hi M M') (d : q + 4 < lo ∨ hi ≤ q) : termsIs M' q l := ⟨H.1, (f _ _ (by omega)).1.trans H.2.1, fun w t hw ht => by rw [(f _ _ (by omega)).1]; exact H.2.2 w t hw ht⟩
theorem tmSpec_ne {l : List TmT} {w t v : Int32} (hg : tmGood l) (h : tmSpec l w t v) : v = 0 ↔ ¬ tmHas l w t := by
  rcases h with ⟨k, hk, hk2, rfl⟩ | ⟨hn, rfl⟩
  · have ho := (hg.2.1 k hk).2.2
    refine ⟨fun e => ?_, fun hn => absurd ⟨k, hk, hk2⟩ hn⟩
    rw [e] at ho
    exact absurd ho.1 (by decide)
  · exact ⟨fun _ => hn, fun _ => rfl⟩
theorem isW_nI {x : Int32} (h : isW x) : ∃ w, w < 100 ∧ x = nI w := by
  rcases p_ix_cases 100 (by decide) x with ⟨e, hc⟩ | ⟨j, hj, rfl, e⟩
  · exfalso
    rcases hc with hc | hc
    · rw [p_lt0] at hc; have := h.1; omega
    · rw [p_le, p_ti (by decide)] at hc; have := h.2; omega
  · exact ⟨j, hj, rfl⟩
theorem nI_isW {w : Nat} (h : w < 100) : isW (nI w) := by unfold isW; rw [p_ti (by omega)]; omega
section TermSpecs
variable {sh : gh_Sh} {M : gh_M} {q : Nat} {l : List TmT}
theorem s9_count {post : Int32 → gh_M → Prop} (L : LTerms sh M q) (H : termsIs M q l) (h : post (nI l.length) M) : wp_X9_count sh M q post := by
  unfold wp_X9_count
  exact ⟨L.1, by rw [H.2.1]; exact h⟩
theorem s9_isFull {post : Int32 → gh_M → Prop} (L : LTerms sh M q) (H : termsIs M q l) (h : post (if 10 ≤ l.length then 1 else 0) M) : wp_X9_isFull sh M q post := by
  unfold wp_X9_isFull
  have hl := H.1.1
  have e : (rI M q 1 < (10 : Int32)) ↔ ¬ 10 ≤ l.length := by
    rw [H.2.1]
    exact (p_ltI (b := 10) (by omega) (by decide)).trans (by omega)
  refine ⟨L.1, fun c => ?_, fun c => ?_⟩
  · rw [if_neg (e.mp c)] at h; exact h
  · rw [if_pos (Classical.not_not.mp fun q => c (e.mpr q))] at h; exact h
theorem s9_own {post : Int32 → gh_M → Prop} {x : Int32} {t : Nat} (ht : t < 3) (L : LTerms sh M q) (H : termsIs M q l) (h : ∀ v, tmSpec l x (nI t) v → post v M) : wp_X9_ownWordOf sh M q x (nI t) post := by
  unfold wp_X9_ownWordOf
  refine s11_isWord ⟨fun c => ?_, fun c => s11_isTongue ⟨fun c2 => absurd (isT_nI ht) (b2i_0.mp c2), fun _ => ?_⟩⟩
  · rw [b2i_0] at c
    refine h 0 (Or.inr ⟨fun z => ?_, rfl⟩)
    obtain ⟨k, hk, e1, e2⟩ := z
    exact c (e1 ▸ (H.1.2.1 k hk).1)
  · rw [b2i_n0] at c
    obtain ⟨w, hw, rfl⟩ := isW_nI c
    obtain ⟨l1, l2, l3⟩ := L.2.2.2.2 t ht
    refine ⟨L.1, _, L.2.1, L.2.2.1, by rw [L.2.2.2.1]; exact p_in ht (by omega), _, by rw [p_cl (by omega)]; exact l1, l2, by rw [l3]; exact p_in hw (by omega), h _ ?_⟩
    rw [p_cl (by omega)]
    exact H.2.2 w t hw ht
theorem s9_has {post : Int32 → gh_M → Prop} {x : Int32} {t : Nat} (ht : t < 3) (L : LTerms sh M q) (H : termsIs M q l) (h : post (b2i (tmHas l x (nI t))) M) : wp_X9_has sh M q x (nI t) post := by
  unfold wp_X9_has
  refine ⟨L.1, s9_own ht L H (fun v hv => ⟨fun c => ?_, fun c => ?_⟩)⟩
  · rw [b2i_f ((tmSpec_ne H.1 hv).mp c)] at h; exact h
  · rw [b2i_t (Classical.not_not.mp fun z => c ((tmSpec_ne H.1 hv).mpr z))] at h; exact h
/-- the place of a TERM among the first n, the last one -/
def tmIx (l : List TmT) (w t : Int32) : Nat → Option Nat
  | 0 => none
  | k + 1 => if (l.getD k tm0).1 = w ∧ (l.getD k tm0).2.1 = t then some k else tmIx l w t k
theorem tmIx_some {l : List TmT} {w t : Int32} : ∀ {n k : Nat}, tmIx l w t n = some k → k < n ∧ tmKey l k w t
  | 0, k, h => by cases h
  | n + 1, k, h => by
    unfold tmIx at h
    split at h
    · rename_i hc; cases h; exact ⟨by omega, hc⟩
    · have := tmIx_some h; exact ⟨by omega, this.2⟩
theorem tmIx_none {l : List TmT} {w t : Int32} : ∀ {n : Nat}, tmIx l w t n = none → ∀ k, k < n → ¬ tmKey l k w t
  | 0, h, k, hk => by omega
  | n + 1, h, k, hk => by
    unfold tmIx at h
    split at h
    · cases h
    · rename_i hc
      by_cases e : k = n
      · subst e; exact hc
      · exact tmIx_none h k (by omega)
def tmPut (l : List TmT) (w t o : Int32) : List TmT := match tmIx l w t l.length with
  | some k => l.set k (w, t, o)
  | none => l ++ [(w, t, o)]
theorem tmPut_good {l : List TmT} {w t o : Int32} (hg : tmGood l) (hw : isW w) (ht : isT t) (ho : isO o) (hl : l.length < 10 ∨ tmHas l w t) : tmGood (tmPut l w t o) := by
  unfold tmPut
  cases h : tmIx l w t l.length with
  | some k =>
    obtain ⟨hk, hk2⟩ := tmIx_some h
    dsimp only
    refine ⟨by simpa using hg.1, fun i hi => ?_, fun i j hi hj e1 e2 => ?_⟩
    · simp at hi
      rw [p_set_getD hi]
      split
      · exact ⟨hw, ht, ho⟩
      · exact hg.2.1 i hi
    · simp at hi hj
      have key : ∀ i, i < l.length → ((l.set k (w, t, o)).getD i tm0).1 = (l.getD i tm0).1 ∧ ((l.set k (w, t, o)).getD i tm0).2.1 = (l.getD i tm0).2.1 := fun i hi => by
        rw [p_set_getD hi]
        split
        · rename_i e; subst e; exact ⟨hk2.1.symm, hk2.2.symm⟩
        · exact ⟨rfl, rfl⟩
      rw [(key i hi).1, (key j hj).1] at e1
      rw [(key i hi).2, (key j hj).2] at e2
      exact hg.2.2 i j hi hj e1 e2
  | none =>
    have hn := tmIx_none h
    have hlt : l.length < 10 := by
      rcases hl with hl | ⟨k, hk, hk2⟩
      · exact hl
      · exact absurd hk2 (hn k hk)
    dsimp only
    refine ⟨by simp; omega, fun i hi => ?_, fun i j hi hj e1 e2 => ?_⟩
    · simp at hi
      by_cases e : i = l.length
      · subst e; rw [p_getD_app]; exact ⟨hw, ht, ho⟩
      · rw [p_getD_app2 (by omega)]; exact hg.2.1 i (by omega)
    · simp at hi hj
      by_cases ei : i = l.length <;> by_cases ej : j = l.length
      · omega
      · subst ei
        rw [p_getD_app, p_getD_app2 (by omega)] at e1 e2
        exact absurd ⟨e1.symm, e2.symm⟩ (hn j (by omega))
      · subst ej
        rw [p_getD_app, p_getD_app2 (by omega)] at e1 e2
        exact absurd ⟨e1, e2⟩ (hn i (by omega))
      · rw [p_getD_app2 (by omega), p_getD_app2 (by omega)] at e1 e2
        exact hg.2.2 i j (by omega) (by omega) e1 e2
end TermSpecs
