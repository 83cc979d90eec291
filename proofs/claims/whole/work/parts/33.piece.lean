/-! Piece -/
/-- a PIECE: its KIND, its SIGNS, what it was given (-5 none), how FAR, its TEXTS -/
abbrev PcT : Type := Int32 × List Int32 × Int32 × Int32 × (Nat → TxT)
def pc0 : PcT := (0, [], -5, 0, fun _ => tx0)
def LPiece (sh : gh_Sh) (M : gh_M) (p : Nat) : Prop := sh.1 p = 5 ∧ rR M p 0 = some (p + 1) ∧ LRow sh M (p + 1) ∧ rR M p 1 = some (p + 3) ∧ sh.1 (p + 3) = 17 ∧ sh.2 (p + 3) = 3 ∧ ∀ t, t < 3 → rR M (p + 3) t = some (p + 4 + 3 * t) ∧ LText sh M (p + 4 + 3 * t)
theorem LPiece.fr {sh : gh_Sh} {M M' : gh_M} {p : Nat} (h : LPiece sh M p) (e : ∀ a j, rR M' a j = rR M a j) : LPiece sh M' p :=
  ⟨h.1, (e _ _).trans h.2.1, h.2.2.1.fr e, (e _ _).trans h.2.2.2.1, h.2.2.2.2.1, h.2.2.2.2.2.1, fun t ht => ⟨(e _ _).trans (h.2.2.2.2.2.2 t ht).1, (h.2.2.2.2.2.2 t ht).2.fr e⟩⟩
def pieceIs (M : gh_M) (p : Nat) (x : PcT) : Prop := rI M p 2 = x.1 ∧ rowIs M (p + 1) x.2.1 ∧ rI M p 3 = x.2.2.1 ∧ rI M p 4 = x.2.2.2.1 ∧ ∀ t, t < 3 → textIs M (p + 4 + 3 * t) (x.2.2.2.2 t)
theorem pieceIs.fr {lo hi : Nat} {M M' : gh_M} {p : Nat} {x : PcT} (h : pieceIs M p x) (f : Fr lo hi M M') (d : p + 12 < lo ∨ hi ≤ p) : pieceIs M' p x :=
  ⟨(f.I (by omega) _).trans h.1, h.2.1.fr f (by omega), (f.I (by omega) _).trans h.2.2.1, (f.I (by omega) _).trans h.2.2.2.1, fun t ht => (h.2.2.2.2 t ht).fr f (by omega)⟩
section PieceSpecs
variable {sh : gh_Sh} {M : gh_M} {p : Nat} {x : PcT}
theorem s5_signs {post : Nat → gh_M → Prop} (L : LPiece sh M p) (h : post (p + 1) M) : wp_X5_signs sh M p post := by
  unfold wp_X5_signs
  exact ⟨L.1, _, L.2.1, h⟩
theorem s5_kind {post : Int32 → gh_M → Prop} (L : LPiece sh M p) (T : pieceIs M p x) (h : post x.1 M) : wp_X5_kind sh M p post := by
  unfold wp_X5_kind
  exact ⟨L.1, by rw [T.1]; exact h⟩
theorem s5_given {post : Int32 → gh_M → Prop} (L : LPiece sh M p) (T : pieceIs M p x) (h : post x.2.2.1 M) : wp_X5_given sh M p post := by
  unfold wp_X5_given
  exact ⟨L.1, by rw [T.2.2.1]; exact h⟩
theorem s5_textIn {post : Option Nat → gh_M → Prop} {t : Int32} (L : LPiece sh M p) (h : post ((p_ix 3 t).map (fun j => p + 4 + 3 * j)) M) : wp_X5_textIn sh M p t post := by
  unfold wp_X5_textIn
  refine s11_isTongue ⟨fun c => ?_, fun c => ?_⟩
  · rw [b2i_0] at c
    rcases p_ix_cases 3 (by decide) t with ⟨e, hc⟩ | ⟨j, hj, rfl, e⟩
    · rw [e] at h; exact h
    · exact absurd (isT_nI hj) c
  · rw [b2i_n0] at c
    rcases isT_ix t with hn | ⟨j, hj, rfl⟩
    · exact absurd c hn
    · rw [p_ix_nI hj (by decide)] at h
      refine ⟨L.1, _, L.2.2.2.1, L.2.2.2.2.1, by rw [L.2.2.2.2.2.1]; exact p_in hj (by decide), _, ?_, h⟩
      rw [p_cl (by omega)]; exact (L.2.2.2.2.2.2 j hj).1
def storyOf (x : PcT) (place : Int32) : Int32 := if x.2.2.1 = -5 then 3 else if 0 < x.2.2.2.1.toInt then 2 else if x.2.2.1 = place then 0 else 1
theorem s5_storyAt {post : Int32 → gh_M → Prop} {q : Int32} (L : LPiece sh M p) (T : pieceIs M p x) (h : post (storyOf x q) M) : wp_X5_storyAt sh M p q post := by
  unfold wp_X5_storyAt
  unfold storyOf at h
  rw [T.2.2.1, T.2.2.2.1]
  refine ⟨L.1, fun c => ?_, fun c => ⟨fun c2 => ⟨fun c3 => ?_, fun c3 => ?_⟩, fun c2 => ?_⟩⟩
  · rw [if_pos c] at h; exact h
  · rw [p_le0] at c2; rw [if_neg c, if_neg (by omega), if_pos c3] at h; exact h
  · rw [p_le0] at c2; rw [if_neg c, if_neg (by omega), if_neg c3] at h; exact h
  · rw [p_le0] at c2; rw [if_neg c, if_pos (by omega)] at h; exact h
theorem s5_isReviewedIn {post : Int32 → gh_M → Prop} {j : Nat} (hj : j < 3) (L : LPiece sh M p) (T : pieceIs M p x) (h : post (b2i ((x.2.2.2.2 j).1 = 2)) M) : wp_X5_isReviewedIn sh M p (nI j) post := by
  unfold wp_X5_isReviewedIn
  refine s11_isTongue ⟨fun c => absurd (isT_nI hj) (b2i_0.mp c), fun c => ?_⟩
  obtain ⟨l1, l2⟩ := L.2.2.2.2.2.2 j hj
  refine ⟨L.1, _, L.2.2.2.1, L.2.2.2.2.1, by rw [L.2.2.2.2.2.1]; exact p_in hj (by decide), _, by rw [p_cl (by omega)]; exact l1, l2.1, s10_state l2 (T.2.2.2.2 j hj) ⟨fun c => ?_, fun c => ?_⟩⟩
  · rw [b2i_t c] at h; exact h
  · rw [b2i_f c] at h; exact h
theorem s5_needsWork {post : Int32 → gh_M → Prop} {j : Nat} (hj : j < 3) (L : LPiece sh M p) (T : pieceIs M p x) (h : post (b2i (¬ x.1 = 1 ∧ ¬ (x.2.2.2.2 j).1 = 2)) M) : wp_X5_needsWork sh M p (nI j) post := by
  unfold wp_X5_needsWork
  rw [T.1]
  refine ⟨L.1, fun c => ?_, fun c => s5_isReviewedIn hj L T ⟨fun c2 => ?_, fun c2 => ?_⟩⟩
  · rw [b2i_f (fun q => q.1 c)] at h; exact h
  · rw [b2i_0] at c2; rw [b2i_t ⟨c, c2⟩] at h; exact h
  · rw [b2i_n0] at c2; rw [b2i_f (fun q => q.2 c2)] at h; exact h
/-- what a PIECE adds to THE RELEASE -/
def relOf (x : PcT) (j : Nat) : List Int32 := if (x.2.2.2.2 j).1 = 2 then (x.2.2.2.2 j).2.2 else x.2.1
theorem s5_releasedIn {post : Nat → gh_M → Prop} {j : Nat} (hj : j < 3) (L : LPiece sh M p) (T : pieceIs M p x) (h : ∀ r, LRow sh M r → rowIs M r (relOf x j) → post r M) : wp_X5_releasedIn sh M p (nI j) post := by
  unfold wp_X5_releasedIn
  obtain ⟨l1, l2⟩ := L.2.2.2.2.2.2 j hj
  refine ⟨L.1, s5_isReviewedIn hj L T ⟨fun c => ⟨_, L.2.1, h _ L.2.2.1 ?_⟩, fun c => ?_⟩⟩
  · rw [b2i_0] at c; unfold relOf; rw [if_neg c]; exact T.2.1
  · rw [b2i_n0] at c
    refine ⟨_, L.2.2.2.1, L.2.2.2.2.1, by rw [L.2.2.2.2.2.1]; exact p_in hj (by decide), _, by rw [p_cl (by omega)]; exact l1, l2.1, s10_signs l2 (h _ l2.2.2 ?_)⟩
    unfold relOf; rw [if_pos c]; exact (T.2.2.2.2 j hj).2.2
/-- of three -/
def cnt3 (f : Nat → Bool) : Nat → Nat
  | 0 => 0
  | n + 1 => cnt3 f n + if f n = true then 1 else 0
theorem cnt3_le (f : Nat → Bool) : ∀ n, cnt3 f n ≤ n
  | 0 => Nat.le_refl 0
  | n + 1 => by
    have := cnt3_le f n
    unfold cnt3
    split <;> omega
theorem s5_textsThatAre {post : Int32 → gh_M → Prop} {st : Int32} (L : LPiece sh M p) (T : pieceIs M p x) (h : post (nI (cnt3 (fun t => decide ((x.2.2.2.2 t).1 = st)) 3)) M) : wp_X5_textsThatAre sh M p st post := by
  unfold wp_X5_textsThatAre wp_X5_textsThatAre_4
  refine ⟨fun v => v.2.2 = M ∧ ∃ i, i ≤ 3 ∧ v.2.1 = nI i ∧ v.1 = nI (cnt3 (fun t => decide ((x.2.2.2.2 t).1 = st)) i), fun v => 3 - v.2.1.toNatClampNeg, ⟨rfl, 0, by omega, rfl, rfl⟩, ?_⟩
  rintro ⟨n, y, M1⟩ ⟨rfl, i, hi, hy, hn⟩
  dsimp only at hy hn ⊢
  subst hy
  subst hn
  unfold wb_X5_textsThatAre_4
  refine ⟨fun c => ?_, fun c => ?_⟩
  · have : i = 3 := by have := (p_leI (a := 3) (by omega) (by omega)).mp c; omega
    subst this; exact h
  · have hi3 : i < 3 := by have : ¬ 3 ≤ i := fun q => c ((p_leI (a := 3) (by omega) (by omega)).mpr q); omega
    obtain ⟨l1, l2⟩ := L.2.2.2.2.2.2 i hi3
    have hm : 3 - (nI i + 1).toNatClampNeg < 3 - (nI i).toNatClampNeg := by
      rw [nI_1, p_cl (by omega), p_cl (by omega)]; omega
    refine ⟨L.1, _, L.2.2.2.1, L.2.2.2.2.1, by rw [L.2.2.2.2.2.1]; exact p_in hi3 (by decide), _, by rw [p_cl (by omega)]; exact l1, l2.1, s10_state l2 (T.2.2.2.2 i hi3) ⟨fun c2 => ?_, fun c2 => ?_⟩⟩
    · unfold wp_X5_textsThatAre_25
      refine ⟨⟨rfl, i + 1, by omega, nI_1 i, ?_⟩, hm⟩
      show _ = nI (cnt3 _ i + _)
      rw [if_pos (decide_eq_true c2)]; exact nI_1 _
    · unfold wp_X5_textsThatAre_25
      refine ⟨⟨rfl, i + 1, by omega, nI_1 i, ?_⟩, hm⟩
      show _ = nI (cnt3 _ i + _)
      rw [if_neg (fun q => c2 (of_decide_eq_true q))]; rfl
theorem p_3le {i : Nat} (hi : i ≤ 3) : ((3 : Int32) ≤ nI i) ↔ i = 3 := (p_leI (a := 3) (by omega) (by omega)).trans (by omega)
theorem p_m3 {i : Nat} (hi : i < 3) : 3 - (nI i + 1).toNatClampNeg < 3 - (nI i).toNatClampNeg := by
  rw [nI_1, p_cl (by omega), p_cl (by omega)]; omega
theorem s5_begin {post : gh_M → Prop} {k : Int32} {r : Nat} {l : List Int32} (L : LPiece sh M p) (L' : LRow sh M r) (R : rowIs M r l) (d : r + 1 < p ∨ p + 12 < r) (h : ∀ M', Fr p (p + 13) M M' → pieceIs M' p (k, l, -5, 0, fun _ => tx0) → post M') : wp_X5_begin sh M p k r post := by
  unfold wp_X5_begin
  have f0 : Fr p (p + 13) M (wI M p 2 k) := Fr.w (by omega) (by omega)
  refine ⟨L.1, _, L.2.1, L.2.2.1.1, s7_copy (L.2.2.1.fr f0.2.2) (L'.fr f0.2.2) (R.fr f0 (by omega)) (by omega) (fun M4 hF hR => ?_)⟩
  have f4 : Fr p (p + 13) M (wI (wI M4 p 3 (-5 : Int32)) p 4 (0 : Int32)) := Fr.tr (Fr.tr f0 hF (lo := p) (hi := p + 13) (by omega) (by omega) (by omega) (by omega)) (Fr.tr (Fr.w (lo := p) (hi := p + 13) (by omega) (by omega)) (Fr.w (lo := p) (hi := p + 13) (by omega) (by omega)) (Nat.le_refl p) (Nat.le_refl p) (Nat.le_refl (p + 13)) (Nat.le_refl (p + 13))) (by omega) (by omega) (by omega) (by omega)
  unfold wp_X5_begin_26
  refine ⟨fun v => ∃ i, i ≤ 3 ∧ v.1 = nI i ∧ Fr p (p + 13) M v.2 ∧ rI v.2 p 2 = k ∧ rowIs v.2 (p + 1) l ∧ rI v.2 p 3 = -5 ∧ rI v.2 p 4 = 0 ∧ ∀ t, t < i → textIs v.2 (p + 4 + 3 * t) tx0, fun v => 3 - v.1.toNatClampNeg, ?_, ?_⟩
  · refine ⟨0, by omega, rfl, f4, ?_, ?_, ?_, rI_same _ _ _ _, fun t ht => by omega⟩
    · show rI (wI (wI M4 p 3 (-5 : Int32)) p 4 (0 : Int32)) p 2 = k
      rw [rI_ne _ _ (by omega), rI_ne _ _ (by omega), hF.I (by omega), rI_same]
    · exact (hR.fr (Fr.w (lo := p) (hi := p + 1) (a := p) (k := 3) (v := -5) (by omega) (by omega)) (by omega)).fr (Fr.w (lo := p) (hi := p + 1) (by omega) (by omega)) (by omega)
    · show rI (wI (wI M4 p 3 (-5 : Int32)) p 4 (0 : Int32)) p 3 = -5
      rw [rI_ne _ _ (by omega), rI_same]
  · rintro ⟨y, M1⟩ ⟨i, hi, hy, hF1, h2, hr, h3, h4, ht⟩
    dsimp only at hy hF1 h2 hr h3 h4 ht ⊢
    subst hy
    unfold wb_X5_begin_26
    have L1 := L.fr hF1.2.2
    refine ⟨fun c => ?_, fun c => ?_⟩
    · rw [p_3le hi] at c; subst c
      exact h M1 hF1 ⟨h2, hr, h3, h4, ht⟩
    · rw [p_3le hi] at c
      have hi3 : i < 3 := by omega
      obtain ⟨l1, l2⟩ := L1.2.2.2.2.2.2 i hi3
      refine ⟨L1.1, _, L1.2.2.2.1, L1.2.2.2.2.1, by rw [L1.2.2.2.2.2.1]; exact p_in hi3 (by decide), _, by rw [p_cl (by omega)]; exact l1, l2.1, s10_clear l2 (fun M2 hF2 hT2 => ⟨⟨i + 1, by omega, nI_1 i, ?_, ?_, ?_, ?_, ?_, fun t ht2 => ?_⟩, p_m3 hi3⟩)⟩
      · exact Fr.tr hF1 hF2 (by omega) (by omega) (by omega) (by omega)
      · exact (hF2.I (by omega) _).trans h2
      · exact hr.fr hF2 (by omega)
      · exact (hF2.I (by omega) _).trans h3
      · exact (hF2.I (by omega) _).trans h4
      · by_cases e : t = i
        · subst e; exact hT2
        · exact (ht t (by omega)).fr hF2 (by omega)
/-- a TEXT taken over -/
def tkOf (far : Int32) (x : TxT) : TxT := if far.toInt ≤ 0 then x else (if x.1 = 0 then 0 else 3, x.2)
theorem s5_follow {post : gh_M → Prop} {p' : Nat} {x' : PcT} {pl far : Int32} (L : LPiece sh M p) (L' : LPiece sh M p') (T : pieceIs M p x) (T' : pieceIs M p' x') (d : p' + 12 < p ∨ p + 12 < p') (h : ∀ M', Fr p (p + 13) M M' → pieceIs M' p (x.1, x.2.1, pl, far, if x.1 = 1 then x.2.2.2.2 else fun t => tkOf far (x'.2.2.2.2 t)) → post M') : wp_X5_follow sh M p p' pl far post := by
  unfold wp_X5_follow
  have f4 : Fr p (p + 13) M (wI (wI M p 3 pl) p 4 far) := Fr.tr (Fr.w (lo := p) (hi := p + 13) (by omega) (by omega)) (Fr.w (lo := p) (hi := p + 13) (by omega) (by omega)) (Nat.le_refl p) (Nat.le_refl p) (Nat.le_refl (p + 13)) (Nat.le_refl (p + 13))
  have f5 : Fr p (p + 1) M (wI (wI M p 3 pl) p 4 far) := Fr.tr (Fr.w (lo := p) (hi := p + 1) (by omega) (by omega)) (Fr.w (lo := p) (hi := p + 1) (by omega) (by omega)) (Nat.le_refl p) (Nat.le_refl p) (Nat.le_refl (p + 1)) (Nat.le_refl (p + 1))
  have e2 : rI (wI (wI M p 3 pl) p 4 far) p 2 = x.1 := by rw [rI_ne _ _ (by omega), rI_ne _ _ (by omega)]; exact T.1
  have e3 : rI (wI (wI M p 3 pl) p 4 far) p 3 = pl := by rw [rI_ne _ _ (by omega), rI_same]
  have e4 : rI (wI (wI M p 3 pl) p 4 far) p 4 = far := rI_same _ _ _ _
  have e5 := T.2.1.fr f5 (by omega)
  generalize wI (wI M p 3 pl) p 4 far = M0 at f4 f5 e2 e3 e4 e5 ⊢
  rw [e2]
  refine ⟨L.1, fun c => ?_, fun c => ?_⟩
  · rw [if_pos c] at h
    exact h _ f4 ⟨e2, e5, e3, e4, fun t ht => (T.2.2.2.2 t ht).fr f5 (by omega)⟩
  · rw [if_neg c] at h
    unfold wp_X5_follow_22
    refine ⟨fun v => ∃ i, i ≤ 3 ∧ v.1 = nI i ∧ Fr p (p + 13) M v.2 ∧ rI v.2 p 2 = x.1 ∧ rowIs v.2 (p + 1) x.2.1 ∧ rI v.2 p 3 = pl ∧ rI v.2 p 4 = far ∧ ∀ t, t < i → textIs v.2 (p + 4 + 3 * t) (tkOf far (x'.2.2.2.2 t)), fun v => 3 - v.1.toNatClampNeg, ⟨0, by omega, rfl, f4, e2, e5, e3, e4, fun t ht => by omega⟩, ?_⟩
    rintro ⟨y, M1⟩ ⟨i, hi, hy, hF1, h2, hr, h3, h4, ht⟩
    dsimp only at hy hF1 h2 hr h3 h4 ht ⊢
    subst hy
    unfold wb_X5_follow_22
    have L1 := L.fr hF1.2.2
    have L1' := L'.fr hF1.2.2
    refine ⟨fun c => ?_, fun c => ?_⟩
    · rw [p_3le hi] at c; subst c
      exact h M1 hF1 ⟨h2, hr, h3, h4, ht⟩
    · rw [p_3le hi] at c
      have hi3 : i < 3 := by omega
      obtain ⟨l1, l2⟩ := L1.2.2.2.2.2.2 i hi3
      obtain ⟨m1, m2⟩ := L1'.2.2.2.2.2.2 i hi3
      have T1 := (T'.2.2.2.2 i hi3).fr hF1 (by omega)
      refine ⟨L1.1, _, L1.2.2.2.1, L1.2.2.2.2.1, by rw [L1.2.2.2.2.2.1]; exact p_in hi3 (by decide), _, by rw [p_cl (by omega)]; exact l1, L1'.1, _, L1'.2.2.2.1, L1'.2.2.2.2.1, by rw [L1'.2.2.2.2.2.1]; exact p_in hi3 (by decide), _, by rw [p_cl (by omega)]; exact m1, l2.1, s10_copy l2 m2 T1 (by omega) (fun M2 hF2 hT2 => ⟨fun c2 => ?_, fun c2 => ?_⟩)⟩
      · unfold wp_X5_follow_59
        rw [p_le0] at c2
        refine ⟨⟨i + 1, by omega, nI_1 i, ?_, ?_, ?_, ?_, ?_, fun t ht2 => ?_⟩, p_m3 hi3⟩
        · exact Fr.tr hF1 hF2 (by omega) (by omega) (by omega) (by omega)
        · exact (hF2.I (by omega) _).trans h2
        · exact hr.fr hF2 (by omega)
        · exact (hF2.I (by omega) _).trans h3
        · exact (hF2.I (by omega) _).trans h4
        · by_cases e : t = i
          · subst e; unfold tkOf; rw [if_pos c2]; exact hT2
          · exact (ht t (by omega)).fr hF2 (by omega)
      · rw [p_le0] at c2
        have L2 := L1.fr hF2.2.2
        obtain ⟨n1, n2⟩ := L2.2.2.2.2.2.2 i hi3
        refine ⟨_, L2.2.2.2.1, L2.2.2.2.2.1, by rw [L2.2.2.2.2.2.1]; exact p_in hi3 (by decide), _, by rw [p_cl (by omega)]; exact n1, n2.1, s10_becomeDoubtful n2 hT2 (fun M3 hF3 hT3 => ?_)⟩
        unfold wp_X5_follow_59
        refine ⟨⟨i + 1, by omega, nI_1 i, ?_, ?_, ?_, ?_, ?_, fun t ht2 => ?_⟩, p_m3 hi3⟩
        · exact Fr.tr (Fr.tr hF1 hF2 (lo := p) (hi := p + 13) (by omega) (by omega) (by omega) (by omega)) hF3 (by omega) (by omega) (by omega) (by omega)
        · exact (hF3.I (by omega) _).trans ((hF2.I (by omega) _).trans h2)
        · exact (hr.fr hF2 (by omega)).fr hF3 (by omega)
        · exact (hF3.I (by omega) _).trans ((hF2.I (by omega) _).trans h3)
        · exact (hF3.I (by omega) _).trans ((hF2.I (by omega) _).trans h4)
        · by_cases e : t = i
          · subst e; unfold tkOf; rw [if_neg c2]; exact hT3
          · exact ((ht t (by omega)).fr hF2 (by omega)).fr hF3 (by omega)
theorem s5_copy {post : gh_M → Prop} {p' : Nat} (L : LPiece sh M p) (L' : LPiece sh M p') (T : pieceIs M p' x) (d : p' + 12 < p ∨ p + 12 < p') (h : ∀ M', Fr p (p + 13) M M' → pieceIs M' p x → post M') : wp_X5_copy sh M p p' post := by
  unfold wp_X5_copy
  have f0 : Fr p (p + 13) M (wI M p 2 (rI M p' 2)) := Fr.w (by omega) (by omega)
  refine ⟨L'.1, L.1, _, L.2.1, _, L'.2.1, L.2.2.1.1, s7_copy (L.2.2.1.fr f0.2.2) (L'.2.2.1.fr f0.2.2) (T.2.1.fr f0 (by omega)) (by omega) (fun M6 hF hR => ?_)⟩
  have g3 : rI M6 p' 3 = x.2.2.1 := by rw [hF.I (by omega), rI_ne _ _ (by omega)]; exact T.2.2.1
  have g4 : rI (wI M6 p 3 (rI M6 p' 3)) p' 4 = x.2.2.2.1 := by rw [rI_ne _ _ (by omega), hF.I (by omega), rI_ne _ _ (by omega)]; exact T.2.2.2.1
  rw [g4, g3]
  have f4 : Fr p (p + 13) M (wI (wI M6 p 3 x.2.2.1) p 4 x.2.2.2.1) := Fr.tr (Fr.tr f0 hF (lo := p) (hi := p + 13) (by omega) (by omega) (by omega) (by omega)) (Fr.tr (Fr.w (lo := p) (hi := p + 13) (by omega) (by omega)) (Fr.w (lo := p) (hi := p + 13) (by omega) (by omega)) (Nat.le_refl p) (Nat.le_refl p) (Nat.le_refl (p + 13)) (Nat.le_refl (p + 13))) (by omega) (by omega) (by omega) (by omega)
  have e2 : rI (wI (wI M6 p 3 x.2.2.1) p 4 x.2.2.2.1) p 2 = x.1 := by rw [rI_ne _ _ (by omega), rI_ne _ _ (by omega), hF.I (by omega), rI_same]; exact T.1
  have e3 : rI (wI (wI M6 p 3 x.2.2.1) p 4 x.2.2.2.1) p 3 = x.2.2.1 := by rw [rI_ne _ _ (by omega), rI_same]
  have e4 : rI (wI (wI M6 p 3 x.2.2.1) p 4 x.2.2.2.1) p 4 = x.2.2.2.1 := rI_same _ _ _ _
  have e5 : rowIs (wI (wI M6 p 3 x.2.2.1) p 4 x.2.2.2.1) (p + 1) x.2.1 := (hR.fr (Fr.w (lo := p) (hi := p + 1) (a := p) (k := 3) (v := x.2.2.1) (by omega) (by omega)) (by omega)).fr (Fr.w (lo := p) (hi := p + 1) (by omega) (by omega)) (by omega)
  generalize wI (wI M6 p 3 x.2.2.1) p 4 x.2.2.2.1 = M0 at f4 e2 e3 e4 e5 ⊢
  unfold wp_X5_copy_37
  refine ⟨fun v => ∃ i, i ≤ 3 ∧ v.1 = nI i ∧ Fr p (p + 13) M v.2 ∧ rI v.2 p 2 = x.1 ∧ rowIs v.2 (p + 1) x.2.1 ∧ rI v.2 p 3 = x.2.2.1 ∧ rI v.2 p 4 = x.2.2.2.1 ∧ ∀ t, t < i → textIs v.2 (p + 4 + 3 * t) (x.2.2.2.2 t), fun v => 3 - v.1.toNatClampNeg, ⟨0, by omega, rfl, f4, e2, e5, e3, e4, fun t ht => by omega⟩, ?_⟩
  rintro ⟨y, M1⟩ ⟨i, hi, hy, hF1, h2, hr, h3, h4, ht⟩
  dsimp only at hy hF1 h2 hr h3 h4 ht ⊢
  subst hy
  unfold wb_X5_copy_37
  have L1 := L.fr hF1.2.2
  have L1' := L'.fr hF1.2.2
  refine ⟨fun c => ?_, fun c => ?_⟩
  · rw [p_3le hi] at c; subst c
    exact h M1 hF1 ⟨h2, hr, h3, h4, ht⟩
  · rw [p_3le hi] at c
    have hi3 : i < 3 := by omega
    obtain ⟨l1, l2⟩ := L1.2.2.2.2.2.2 i hi3
    obtain ⟨m1, m2⟩ := L1'.2.2.2.2.2.2 i hi3
    have T1 := (T.2.2.2.2 i hi3).fr hF1 (by omega)
    refine ⟨L1.1, _, L1.2.2.2.1, L1.2.2.2.2.1, by rw [L1.2.2.2.2.2.1]; exact p_in hi3 (by decide), _, by rw [p_cl (by omega)]; exact l1, L1'.1, _, L1'.2.2.2.1, L1'.2.2.2.2.1, by rw [L1'.2.2.2.2.2.1]; exact p_in hi3 (by decide), _, by rw [p_cl (by omega)]; exact m1, l2.1, s10_copy l2 m2 T1 (by omega) (fun M2 hF2 hT2 => ⟨⟨i + 1, by omega, nI_1 i, ?_, ?_, ?_, ?_, ?_, fun t ht2 => ?_⟩, p_m3 hi3⟩)⟩
    · exact Fr.tr hF1 hF2 (by omega) (by omega) (by omega) (by omega)
    · exact (hF2.I (by omega) _).trans h2
    · exact hr.fr hF2 (by omega)
    · exact (hF2.I (by omega) _).trans h3
    · exact (hF2.I (by omega) _).trans h4
    · by_cases e : t = i
      · subst e; exact hT2
      · exact (ht t (by omega)).fr hF2 (by omega)
end PieceSpecs
