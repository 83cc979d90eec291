/-! the reference: small methods -/
section MH
variable {sh : gh_Sh} {M : gh_M} {m : Nat}
theorem s12_in {post : Int32 → gh_M → Prop} {x a b : Int32} (h0 : ¬ (a.toInt ≤ x.toInt ∧ x.toInt ≤ b.toInt) → post 0 M) (h1 : a.toInt ≤ x.toInt → x.toInt ≤ b.toInt → post 1 M) : wp_X12_in sh M x a b post := by
  unfold wp_X12_in
  refine ⟨fun c => ?_, fun c => ⟨fun c2 => ?_, fun c2 => ?_⟩⟩
  · rw [p_lt] at c; exact h0 (by omega)
  · rw [p_lt] at c2; exact h0 (by omega)
  · rw [p_lt] at c c2; exact h1 (by omega) (by omega)
theorem s12_isWord {post : Int32 → gh_M → Prop} {x : Int32} (h0 : ¬ isW x → post 0 M) (h1 : isW x → post 1 M) : wp_X12_isWord sh M x post := by
  unfold wp_X12_isWord
  exact s12_in (fun c => ⟨Or.inl rfl, h0 c⟩) (fun c d => ⟨Or.inr rfl, h1 ⟨c, d⟩⟩)
theorem s12_isHole {post : Int32 → gh_M → Prop} {x : Int32} (h0 : ¬ isH x → post 0 M) (h1 : isH x → post 1 M) : wp_X12_isHole sh M x post := by
  unfold wp_X12_isHole
  exact s12_in (fun c => ⟨Or.inl rfl, h0 c⟩) (fun c d => ⟨Or.inr rfl, h1 ⟨c, d⟩⟩)
theorem s12_isOwn {post : Int32 → gh_M → Prop} {x : Int32} (h0 : ¬ isO x → post 0 M) (h1 : isO x → post 1 M) : wp_X12_isOwn sh M x post := by
  unfold wp_X12_isOwn
  exact s12_in (fun c => ⟨Or.inl rfl, h0 c⟩) (fun c d => ⟨Or.inr rfl, h1 ⟨c, d⟩⟩)
theorem p_ix3_none {x : Int32} (h : ¬ isT x) : p_ix 3 x = none := if_neg fun z => h ⟨z.1, by have := z.2; omega⟩
theorem s12_isTongue {post : Int32 → gh_M → Prop} {x : Int32} (h0 : p_ix 3 x = none → ¬ isT x → post 0 M) (h1 : ∀ t, t < 3 → x = nI t → p_ix 3 x = some t → post 1 M) : wp_X12_isTongue sh M x post := by
  unfold wp_X12_isTongue
  refine s12_in (fun c => ⟨Or.inl rfl, h0 (p_ix3_none c) c⟩) (fun c d => ⟨Or.inr rfl, ?_⟩)
  rcases isT_ix x with h | ⟨t, ht, rfl⟩
  · exact absurd ⟨c, d⟩ h
  · exact h1 t ht rfl (p_ix_nI ht (by decide))
theorem p_upto {n : Nat} (hn : n < 1000) : ((nI n - (1 : Int32)).toInt) = (n : Int) - 1 := pk_sub_toInt (b := 1) (by omega) (by decide)
theorem s12_inN {post : Int32 → gh_M → Prop} {x : Int32} {n : Nat} (hn : n < 1000) (h0 : p_ix n x = none → post 0 M) (h1 : ∀ i, i < n → x = nI i → p_ix n x = some i → post 1 M) : wp_X12_in sh M x 0 (nI n - (1 : Int32)) post := by
  have z : (0 : Int32).toInt = 0 := rfl
  refine s12_in (fun c => h0 (if_neg fun q => c ?_)) (fun c d => ?_)
  · rw [p_upto hn, z]; omega
  · rw [p_upto hn] at d
    rw [z] at c
    rcases p_ix_cases n (by omega) x with ⟨-, e | e⟩ | ⟨j, hj, rfl, e⟩
    · rw [p_lt0] at e; omega
    · rw [p_le, p_ti (by omega)] at e; omega
    · exact h1 j hj rfl e
theorem s12_isPiece {post : Int32 → gh_M → Prop} {x : Int32} {l : List PcT} (L : LM sh M m) (h : mSrc m M l) (h0 : p_ix l.length x = none → post 0 M) (h1 : ∀ i, i < l.length → x = nI i → p_ix l.length x = some i → post 1 M) : wp_X12_isPiece sh M m x post := by
  unfold wp_X12_isPiece
  have h8 := h.1
  refine ⟨L.1, ?_⟩
  rw [show rI M m 2 = nI l.length from h.2.1]
  exact s12_inN (by omega) (fun e => ⟨Or.inl rfl, h0 e⟩) (fun i hi e1 e2 => ⟨Or.inr rfl, h1 i hi e1 e2⟩)
theorem s12_isHand {post : Int32 → gh_M → Prop} {x : Int32} {l : List HnT} (L : LM sh M m) (h : mHands m M l) (h0 : p_ix l.length x = none → post 0 M) (h1 : ∀ i, i < l.length → x = nI i → p_ix l.length x = some i → post 1 M) : wp_X12_isHand sh M m x post := by
  unfold wp_X12_isHand
  have h8 := h.1
  refine ⟨L.1, ?_⟩
  rw [h.2.1]
  exact s12_inN (by omega) (fun e => ⟨Or.inl rfl, h0 e⟩) (fun i hi e1 e2 => ⟨Or.inr rfl, h1 i hi e1 e2⟩)
theorem s12_knows {post : Int32 → gh_M → Prop} {j t : Nat} {l : List HnT} (L : LM sh M m) (h : mHands m M l) (hj : j < l.length) (h0 : ¬ kn (l.getD j hn0) t → post 0 M) (h1 : kn (l.getD j hn0) t → post 1 M) : wp_X12_knows sh M m (nI j) (nI t) post := by
  unfold wp_X12_knows
  have h5 := h.1
  refine ⟨L.1, _, L.f17, L.k14, L.v14 (i := j) (by omega) rfl, ?_⟩
  rw [p_cl (by omega), (h.2.2 j hj).2.1]
  exact ⟨h1, h0⟩
theorem s12_least {post : Int32 → gh_M → Prop} {x y : Nat} (hx : x < 2147483648) (hy : y < 2147483648) (h : post (nI (min x y)) M) : wp_X12_least sh M (nI x) (nI y) post := by
  unfold wp_X12_least
  rw [p_leI hy hx]
  refine ⟨fun c => ?_, fun c => ?_⟩
  · rw [Nat.min_eq_right c] at h; exact h
  · rw [Nat.min_eq_left (by omega)] at h; exact h
theorem s12_hasOwn {post : Int32 → gh_M → Prop} {d : List Int32} (L : LM sh M m) (h : mDraft m M d) (h0 : ¬ (∃ x ∈ d, isO x) → post 0 M) (h1 : (∃ x ∈ d, isO x) → post 1 M) : wp_X12_draftHasOwn sh M m post := by
  unfold wp_X12_draftHasOwn wp_X12_draftHasOwn_4
  have hl := h.1
  refine for2 0 d.length (by omega) (by omega) (fun i x M1 => M1 = M ∧ x = b2i (∃ j, j < i ∧ isO (d.getD j 0))) ⟨rfl, (b2i_f (by rintro ⟨j, hj, -⟩; omega)).symm⟩ ?_ ?_
  · rintro i x M1 k - hi ⟨rfl, rfl⟩ hk
    unfold wb_X12_draftHasOwn_4 wp_X12_draftHasOwn_28 wp_X12_draftHasOwn_33
    dsimp only
    rw [h.2.1]
    refine ⟨L.1, fun c => absurd ((p_leI (by omega) (by omega)).mp c) (by omega), fun _ => ⟨fun c => ⟨_, L.f1, L.k1, L.v1 (i := i) (by omega) rfl, ?_⟩, fun c => hk _ _ ⟨rfl, ?_⟩⟩⟩
    · rw [p_cl (by omega), h.2.2 i hi]
      rw [b2i_0] at c
      refine s12_isOwn (fun q => br0 (hk _ _ ⟨rfl, (b2i_f ?_).symm⟩)) (fun q => br1 (hk _ _ ⟨rfl, (b2i_t ⟨i, by omega, q⟩).symm⟩))
      rintro ⟨j, hj, hj2⟩
      by_cases e : j = i
      · subst e; exact q hj2
      · exact c ⟨j, by omega, hj2⟩
    · rw [b2i_n0] at c
      obtain ⟨j, hj, hj2⟩ := c
      exact (b2i_t ⟨j, by omega, hj2⟩).symm
  · rintro x M1 k ⟨rfl, rfl⟩
    unfold wb_X12_draftHasOwn_4
    dsimp only
    rw [h.2.1]
    refine ⟨L.1, fun _ => ⟨b2i_01 _, ?_⟩, fun c => absurd ((p_leI (by omega) (by omega)).mpr (Nat.le_refl _)) c⟩
    by_cases e : ∃ j, j < d.length ∧ isO (d.getD j 0)
    · rw [b2i_t e]
      obtain ⟨j, hj, hj2⟩ := e
      exact h1 ⟨_, p_getD_mem hj, hj2⟩
    · rw [b2i_f e]
      refine h0 ?_
      rintro ⟨x, hx, hx2⟩
      obtain ⟨j, hj, rfl⟩ := p_mem_getD (d := 0) hx
      exact e ⟨j, hj, hx2⟩
theorem s12_hasWord {post : Int32 → gh_M → Prop} {d : List Int32} (L : LM sh M m) (h : mDraft m M d) (h0 : ¬ (∃ x ∈ d, isW x) → post 0 M) (h1 : (∃ x ∈ d, isW x) → post 1 M) : wp_X12_draftHasWord sh M m post := by
  unfold wp_X12_draftHasWord wp_X12_draftHasWord_4
  have hl := h.1
  refine for2 0 d.length (by omega) (by omega) (fun i x M1 => M1 = M ∧ x = b2i (∃ j, j < i ∧ isW (d.getD j 0))) ⟨rfl, (b2i_f (by rintro ⟨j, hj, -⟩; omega)).symm⟩ ?_ ?_
  · rintro i x M1 k - hi ⟨rfl, rfl⟩ hk
    unfold wb_X12_draftHasWord_4 wp_X12_draftHasWord_28 wp_X12_draftHasWord_33
    dsimp only
    rw [h.2.1]
    refine ⟨L.1, fun c => absurd ((p_leI (by omega) (by omega)).mp c) (by omega), fun _ => ⟨fun c => ⟨_, L.f1, L.k1, L.v1 (i := i) (by omega) rfl, ?_⟩, fun c => hk _ _ ⟨rfl, ?_⟩⟩⟩
    · rw [p_cl (by omega), h.2.2 i hi]
      rw [b2i_0] at c
      refine s12_isWord (fun q => br0 (hk _ _ ⟨rfl, (b2i_f ?_).symm⟩)) (fun q => br1 (hk _ _ ⟨rfl, (b2i_t ⟨i, by omega, q⟩).symm⟩))
      rintro ⟨j, hj, hj2⟩
      by_cases e : j = i
      · subst e; exact q hj2
      · exact c ⟨j, by omega, hj2⟩
    · rw [b2i_n0] at c
      obtain ⟨j, hj, hj2⟩ := c
      exact (b2i_t ⟨j, by omega, hj2⟩).symm
  · rintro x M1 k ⟨rfl, rfl⟩
    unfold wb_X12_draftHasWord_4
    dsimp only
    rw [h.2.1]
    refine ⟨L.1, fun _ => ⟨b2i_01 _, ?_⟩, fun c => absurd ((p_leI (by omega) (by omega)).mpr (Nat.le_refl _)) c⟩
    by_cases e : ∃ j, j < d.length ∧ isW (d.getD j 0)
    · rw [b2i_t e]
      obtain ⟨j, hj, hj2⟩ := e
      exact h1 ⟨_, p_getD_mem hj, hj2⟩
    · rw [b2i_f e]
      refine h0 ?_
      rintro ⟨x, hx, hx2⟩
      obtain ⟨j, hj, rfl⟩ := p_mem_getD (d := 0) hx
      exact e ⟨j, hj, hx2⟩
/-- copy of the first n of one array to another -/
theorem s12_copy {post : gh_M → Prop} {q1 q2 n : Nat} {x : Int32} (hx : x = nI n) (hn : n < 1000) (k1 : sh.1 q1 = 13) (n1 : n ≤ sh.2 q1) (b1 : sh.2 q1 < 10000) (k2 : sh.1 q2 = 13) (n2 : n ≤ sh.2 q2) (b2 : sh.2 q2 < 10000) (hq : q1 ≠ q2) (h : ∀ M', (∀ a j, a ≠ q2 → rI M' a j = rI M a j) → (∀ j, j < n → rI M' q2 j = rI M q1 j) → (∀ a j, rJ M' a j = rJ M a j) → (∀ a j, rR M' a j = rR M a j) → post M') : wp_X12_copy sh M q1 q2 x post := by
  subst hx
  unfold wp_X12_copy wp_X12_copy_2
  refine for1 0 n (by omega) (by omega) (fun i M1 => (∀ a j, a ≠ q2 → rI M1 a j = rI M a j) ∧ (∀ j, j < i → rI M1 q2 j = rI M q1 j) ∧ (∀ a j, rJ M1 a j = rJ M a j) ∧ (∀ a j, rR M1 a j = rR M a j)) ⟨fun _ _ _ => rfl, fun j hj => by omega, fun _ _ => rfl, fun _ _ => rfl⟩ ?_ ?_
  · rintro i M1 k - hi ⟨h1, h2, h3, h4⟩ hk
    unfold wb_X12_copy_2
    dsimp only
    refine ⟨fun c => absurd ((p_leI (by omega) (by omega)).mp c) (by omega), fun _ => ⟨k1, p_in (by omega) (by omega), k2, p_in (by omega) (by omega), hk _ ⟨fun a j ha => ?_, fun j hj => ?_, h3, h4⟩⟩⟩
    · rw [rI_ne _ _ (by omega)]; exact h1 a j ha
    · rw [p_cl (by omega)]
      by_cases e : j = i
      · subst e; rw [rI_same]; exact h1 _ _ hq
      · rw [rI_ne _ _ (by omega)]; exact h2 j (by omega)
  · rintro M1 k ⟨h1, h2, h3, h4⟩
    unfold wb_X12_copy_2
    dsimp only
    exact ⟨fun _ => h M1 h1 h2 h3 h4, fun c => absurd ((p_leI (by omega) (by omega)).mpr (Nat.le_refl _)) c⟩
end MH
