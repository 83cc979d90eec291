/-! Hands.add, Terms.put, Terms.remove -/
theorem s2_add {sh : gh_Sh} {M : gh_M} {q : Nat} {l : List HnT} {post : gh_M → Prop} {a b c : Int32} (hl : l.length < 5) (L : LHands sh M q) (H : handsIs M q l) (h : ∀ M', Fr q (q + 4) M M' → handsIs M' q (l ++ [(a, b, c)]) → post M') : wp_X2_add sh M q a b c post := by
  unfold wp_X2_add
  have c0 := H.2.1
  have cl : (nI l.length).toNatClampNeg = l.length := p_cl (by omega)
  refine ⟨L.1, s2_isFull L H ⟨fun _ => ⟨q + 1, L.2.1, L.2.2.2.2.1.1, by rw [L.2.2.2.2.1.2, c0]; exact p_in hl (by omega), q + 2, L.2.2.1, L.2.2.2.2.2.1.1, ?_, q + 3, L.2.2.2.1, fun M12 e12 => ?_⟩, fun z => ?_⟩⟩
  · rw [rI_ne _ _ (by omega), c0, L.2.2.2.2.2.1.2]; exact p_in hl (by omega)
  · rw [rI_ne _ _ (show q ≠ q + 1 ∨ _ by omega), c0, cl] at e12
    have e3 : rI M12 q 3 = nI l.length := by rw [e12, rI_ne _ _ (by omega), rI_ne _ _ (by omega)]; exact c0
    refine ⟨L.2.2.2.2.2.2.1, by rw [e3, L.2.2.2.2.2.2.2]; exact p_in hl (by omega), ?_⟩
    rw [rI_ne _ _ (show q ≠ q + 3 ∨ _ by omega), e3, cl]
    refine h _ ?_ ⟨by simp; omega, ?_, fun i hi => ?_⟩
    · rw [e12]
      exact Fr.tr (Fr.tr (Fr.w (lo := q) (hi := q + 4) (by omega) (by omega)) (Fr.w (lo := q) (hi := q + 4) (by omega) (by omega)) (Nat.le_refl q) (Nat.le_refl q) (Nat.le_refl (q + 4)) (Nat.le_refl (q + 4))) (Fr.tr (Fr.w (lo := q) (hi := q + 4) (by omega) (by omega)) (Fr.w (lo := q) (hi := q + 4) (by omega) (by omega)) (Nat.le_refl q) (Nat.le_refl q) (Nat.le_refl (q + 4)) (Nat.le_refl (q + 4))) (Nat.le_refl q) (Nat.le_refl q) (Nat.le_refl (q + 4)) (Nat.le_refl (q + 4))
    · rw [rI_same, List.length_append]; exact nI_1 _
    · simp at hi
      by_cases e : i = l.length
      · subst e
        rw [p_getD_app]
        refine ⟨?_, ?_, ?_⟩
        · rw [rI_ne _ _ (by omega), rI_ne _ _ (by omega), e12, rI_ne _ _ (by omega), rI_same]
        · rw [rI_ne _ _ (by omega), rI_ne _ _ (by omega), e12, rI_same]
        · rw [rI_ne _ _ (by omega), rI_same]
      · rw [p_getD_app2 (by omega)]
        obtain ⟨h1, h2, h3⟩ := H.2.2 i (by omega)
        refine ⟨?_, ?_, ?_⟩
        · rw [rI_ne _ _ (by omega), rI_ne _ _ (by omega), e12, rI_ne _ _ (by omega), rI_ne _ _ (by omega)]; exact h1
        · rw [rI_ne _ _ (by omega), rI_ne _ _ (by omega), e12, rI_ne _ _ (by omega), rI_ne _ _ (by omega)]; exact h2
        · rw [rI_ne _ _ (by omega), rI_ne _ _ (by omega), e12, rI_ne _ _ (by omega), rI_ne _ _ (by omega)]; exact h3
  · rw [if_neg (by omega)] at z; exact absurd rfl z
section TermSpecs2
variable {sh : gh_Sh} {M : gh_M} {q : Nat} {l : List TmT}
theorem tmPut_spec {l : List TmT} {w t o w' t' v : Int32} (h : tmSpec l w' t' v) : tmSpec (tmPut l w t o) w' t' (if w' = w ∧ t' = t then o else v) := by
  unfold tmPut
  cases hx : tmIx l w t l.length with
  | some k =>
    obtain ⟨hk, hk2⟩ := tmIx_some hx
    dsimp only
    by_cases hc : w' = w ∧ t' = t
    · rw [if_pos hc]
      left
      refine ⟨k, by simpa using hk, ?_, ?_⟩
      · unfold tmKey; rw [p_set_getD hk, if_pos rfl]; exact ⟨hc.1.symm, hc.2.symm⟩
      · rw [p_set_getD hk, if_pos rfl]
    · rw [if_neg hc]
      have key : ∀ i, i < l.length → (tmKey (l.set k (w, t, o)) i w' t' ↔ tmKey l i w' t') := fun i hi => by
        unfold tmKey
        rw [p_set_getD hi]
        by_cases e : i = k
        · subst e
          rw [if_pos rfl]
          exact ⟨fun z => absurd ⟨z.1.symm, z.2.symm⟩ hc, fun z => absurd ⟨z.1.symm.trans hk2.1, z.2.symm.trans hk2.2⟩ hc⟩
        · rw [if_neg e]
      rcases h with ⟨i, hi, hi2, e⟩ | ⟨hn, e⟩
      · left
        refine ⟨i, by simpa using hi, (key i hi).mpr hi2, ?_⟩
        rw [p_set_getD hi, if_neg]
        · exact e
        · intro z; subst z
          exact hc ⟨hi2.1.symm.trans hk2.1, hi2.2.symm.trans hk2.2⟩
      · right
        refine ⟨fun ⟨i, hi, hi2⟩ => ?_, e⟩
        simp at hi
        exact hn ⟨i, hi, (key i hi).mp hi2⟩
  | none =>
    have hn := tmIx_none hx
    dsimp only
    by_cases hc : w' = w ∧ t' = t
    · rw [if_pos hc]
      left
      refine ⟨l.length, by simp, ?_, ?_⟩
      · unfold tmKey; rw [p_getD_app]; exact ⟨hc.1.symm, hc.2.symm⟩
      · rw [p_getD_app]
    · rw [if_neg hc]
      rcases h with ⟨i, hi, hi2, e⟩ | ⟨hn2, e⟩
      · left
        refine ⟨i, by simp; omega, ?_, ?_⟩
        · unfold tmKey; rw [p_getD_app2 hi]; exact hi2
        · rw [p_getD_app2 hi]; exact e
      · right
        refine ⟨fun ⟨i, hi, hi2⟩ => ?_, e⟩
        simp at hi
        by_cases ei : i = l.length
        · subst ei
          unfold tmKey at hi2
          rw [p_getD_app] at hi2
          exact hc ⟨hi2.1.symm, hi2.2.symm⟩
        · unfold tmKey at hi2
          rw [p_getD_app2 (by omega)] at hi2
          exact hn2 ⟨i, by omega, hi2⟩
theorem tmPut_len {l : List TmT} {w t o : Int32} : (tmHas l w t → (tmPut l w t o).length = l.length) ∧ (¬ tmHas l w t → (tmPut l w t o).length = l.length + 1) := by
  unfold tmPut
  cases hx : tmIx l w t l.length with
  | some k =>
    obtain ⟨hk, hk2⟩ := tmIx_some hx
    exact ⟨fun _ => by simp, fun z => absurd ⟨k, hk, hk2⟩ z⟩
  | none =>
    have hn := tmIx_none hx
    exact ⟨fun ⟨k, hk, hk2⟩ => absurd hk2 (hn k hk), fun _ => by simp⟩
theorem s9_put {post : gh_M → Prop} {w t : Nat} {o : Int32} (hw : w < 100) (ht : t < 3) (ho : isO o) (L : LTerms sh M q) (H : termsIs M q l) (hl : l.length < 10 ∨ tmHas l (nI w) (nI t)) (h : ∀ M', Fr q (q + 5) M M' → termsIs M' q (tmPut l (nI w) (nI t) o) → post M') : wp_X9_put sh M q (nI w) (nI t) o post := by
  unfold wp_X9_put
  obtain ⟨l1, l2, l3⟩ := L.2.2.2.2 t ht
  have hg := tmPut_good (o := o) H.1 (nI_isW hw) (isT_nI ht) ho hl
  have fin : ∀ n : Int32, rI M q 1 + n = nI (tmPut l (nI w) (nI t) o).length → wp_X9_put_33 sh post q (nI w) (nI t) o q (rI M q 1) n M := by
    intro n hn
    unfold wp_X9_put_33
    refine ⟨L.1, L.1, _, L.2.1, L.2.2.1, by rw [L.2.2.2.1]; exact p_in ht (by omega), _, by rw [p_cl (by omega)]; exact l1, l2, by rw [l3]; exact p_in hw (by omega), h _ ?_ ⟨hg, ?_, fun w' t' hw' ht' => ?_⟩⟩
    · exact Fr.tr (Fr.w (lo := q) (hi := q + 5) (by omega) (by omega)) (Fr.w (lo := q) (hi := q + 5) (by omega) (by omega)) (Nat.le_refl q) (Nat.le_refl q) (Nat.le_refl (q + 5)) (Nat.le_refl (q + 5))
    · rw [rI_ne _ _ (by omega), rI_same]; exact hn
    · have := tmPut_spec (w := nI w) (t := nI t) (o := o) (H.2.2 w' t' hw' ht')
      rw [p_cl (by omega)]
      by_cases e : w' = w ∧ t' = t
      · obtain ⟨rfl, rfl⟩ := e
        rw [if_pos ⟨rfl, rfl⟩] at this
        rw [rI_same]; exact this
      · rw [if_neg (fun z => e ⟨(p_eqI (by omega) (by omega)).mp z.1, (p_eqI (by omega) (by omega)).mp z.2⟩)] at this
        rw [rI_ne _ _ (by omega), rI_ne _ _ (by omega)]; exact this
  refine s11_isWord ⟨fun c => absurd (nI_isW hw) (b2i_0.mp c), fun _ => s11_isTongue ⟨fun c => absurd (isT_nI ht) (b2i_0.mp c), fun _ => ⟨L.1, s9_has ht L H ⟨fun c => fin _ ?_, fun c => fin _ ?_⟩⟩⟩⟩
  · rw [b2i_0] at c
    rw [tmPut_len.2 c, H.2.1]; exact nI_1 _
  · rw [b2i_n0] at c
    rw [tmPut_len.1 c, H.2.1]; exact (nI_add _ 0)
/-- as the reference takes a TERM away: the last one comes into its place -/
def tmDel (l : List TmT) (k : Nat) : List TmT := (l.set k (l.getD (l.length - 1) tm0)).take (l.length - 1)
theorem tmDel_len {l : List TmT} {k : Nat} : (tmDel l k).length = l.length - 1 := by
  unfold tmDel; simp
theorem tmDel_get {l : List TmT} {k i : Nat} (hi : i < l.length - 1) : (tmDel l k).getD i tm0 = if i = k then l.getD (l.length - 1) tm0 else l.getD i tm0 := by
  unfold tmDel
  rw [List.getD_eq_getElem?_getD, List.getElem?_take, if_pos hi, ← List.getD_eq_getElem?_getD, p_set_getD (by omega)]
theorem tmDel_good {l : List TmT} {k : Nat} (hg : tmGood l) (hk : k < l.length) : tmGood (tmDel l k) := by
  refine ⟨by rw [tmDel_len]; have := hg.1; omega, fun i hi => ?_, fun i j hi hj e1 e2 => ?_⟩
  · rw [tmDel_len] at hi
    rw [tmDel_get hi]
    split
    · exact hg.2.1 _ (by omega)
    · exact hg.2.1 _ (by omega)
  · rw [tmDel_len] at hi hj
    rw [tmDel_get hi, tmDel_get hj] at e1 e2
    by_cases ei : i = k <;> by_cases ej : j = k
    · omega
    · rw [if_pos ei, if_neg ej] at e1 e2
      have := hg.2.2 _ _ (by omega) (by omega) e1 e2; omega
    · rw [if_neg ei, if_pos ej] at e1 e2
      have := hg.2.2 _ _ (by omega) (by omega) e1 e2; omega
    · rw [if_neg ei, if_neg ej] at e1 e2
      exact hg.2.2 _ _ (by omega) (by omega) e1 e2
theorem tmDel_spec {l : List TmT} {k : Nat} {w t w' t' v : Int32} (hg : tmGood l) (hk : k < l.length) (hk2 : tmKey l k w t) (h : tmSpec l w' t' v) : tmSpec (tmDel l k) w' t' (if w' = w ∧ t' = t then 0 else v) := by
  -- a TERM of the shorter list is one of the longer, at another place than k
  have back : ∀ i, i < l.length - 1 → ∃ j, j < l.length ∧ j ≠ k ∧ (tmDel l k).getD i tm0 = l.getD j tm0 := fun i hi => by
    rw [tmDel_get hi]
    by_cases e : i = k
    · exact ⟨l.length - 1, by omega, by omega, if_pos e⟩
    · exact ⟨i, by omega, e, if_neg e⟩
  have forth : ∀ j, j < l.length → j ≠ k → ∃ i, i < l.length - 1 ∧ (tmDel l k).getD i tm0 = l.getD j tm0 := fun j hj hjk => by
    by_cases e : j = l.length - 1
    · subst e
      exact ⟨k, by omega, by rw [tmDel_get (by omega), if_pos rfl]⟩
    · exact ⟨j, by omega, by rw [tmDel_get (by omega), if_neg hjk]⟩
  by_cases hc : w' = w ∧ t' = t
  · rw [if_pos hc]
    right
    refine ⟨fun ⟨i, hi, hi2⟩ => ?_, rfl⟩
    rw [tmDel_len] at hi
    obtain ⟨j, hj, hjk, e⟩ := back i hi
    unfold tmKey at hi2
    rw [e] at hi2
    exact hjk (hg.2.2 j k hj hk (by rw [hi2.1, hk2.1, hc.1]) (by rw [hi2.2, hk2.2, hc.2]))
  · rw [if_neg hc]
    rcases h with ⟨j, hj, hj2, e⟩ | ⟨hn, e⟩
    · left
      have hjk : j ≠ k := fun z => by subst z; exact hc ⟨hj2.1.symm.trans hk2.1, hj2.2.symm.trans hk2.2⟩
      obtain ⟨i, hi, ei⟩ := forth j hj hjk
      refine ⟨i, by rw [tmDel_len]; exact hi, ?_, ?_⟩
      · unfold tmKey; rw [ei]; exact hj2
      · rw [ei]; exact e
    · right
      refine ⟨fun ⟨i, hi, hi2⟩ => ?_, e⟩
      rw [tmDel_len] at hi
      obtain ⟨j, hj, -, ej⟩ := back i hi
      unfold tmKey at hi2
      rw [ej] at hi2
      exact hn ⟨j, hj, hi2⟩
theorem s9_remove {post : gh_M → Prop} {w t k : Nat} (hw : w < 100) (ht : t < 3) (hk : k < l.length) (hk2 : tmKey l k (nI w) (nI t)) (L : LTerms sh M q) (H : termsIs M q l) (h : ∀ M', Fr q (q + 5) M M' → termsIs M' q (tmDel l k) → post M') : wp_X9_remove sh M q (nI w) (nI t) post := by
  unfold wp_X9_remove
  obtain ⟨l1, l2, l3⟩ := L.2.2.2.2 t ht
  refine ⟨L.1, s9_has ht L H ⟨fun c => absurd ⟨k, hk, hk2⟩ (b2i_0.mp c), fun c => ⟨_, L.2.1, L.2.2.1, by rw [L.2.2.2.1]; exact p_in ht (by omega), _, by rw [p_cl (by omega)]; exact l1, l2, by rw [l3]; exact p_in hw (by omega), h _ ?_ ⟨tmDel_good H.1 hk, ?_, fun w' t' hw' ht' => ?_⟩⟩⟩⟩
  · exact Fr.tr (Fr.w (lo := q) (hi := q + 5) (by omega) (by omega)) (Fr.w (lo := q) (hi := q + 5) (by omega) (by omega)) (Nat.le_refl q) (Nat.le_refl q) (Nat.le_refl (q + 5)) (Nat.le_refl (q + 5))
  · rw [rI_same, rI_ne _ _ (by omega), H.2.1, tmDel_len]
    exact pk_sub (show 1 ≤ l.length by omega)
  · have := tmDel_spec H.1 hk hk2 (H.2.2 w' t' hw' ht')
    rw [p_cl (by omega)]
    by_cases e : w' = w ∧ t' = t
    · obtain ⟨rfl, rfl⟩ := e
      rw [if_pos ⟨rfl, rfl⟩] at this
      rw [rI_ne _ _ (by omega), rI_same]; exact this
    · rw [if_neg (fun z => e ⟨(p_eqI (by omega) (by omega)).mp z.1, (p_eqI (by omega) (by omega)).mp z.2⟩)] at this
      rw [rI_ne _ _ (by omega), rI_ne _ _ (by omega)]; exact this
end TermSpecs2
