/-! numbers' sorts; Text -/
def isW (x : Int32) : Prop := 0 ≤ x.toInt ∧ x.toInt ≤ 99
def isH (x : Int32) : Prop := 100 ≤ x.toInt ∧ x.toInt ≤ 103
def isO (x : Int32) : Prop := 200 ≤ x.toInt ∧ x.toInt ≤ 299
def isT (x : Int32) : Prop := 0 ≤ x.toInt ∧ x.toInt ≤ 2
theorem isW_dec (x : Int32) : isW x ∨ ¬ isW x := Classical.em _
noncomputable def b2i (c : Prop) : Int32 := @ite _ c (Classical.propDecidable c) 1 0
theorem b2i_t {c : Prop} (h : c) : b2i c = 1 := if_pos h
theorem b2i_f {c : Prop} (h : ¬ c) : b2i c = 0 := if_neg h
theorem b2i_01 (c : Prop) : b2i c = 0 ∨ b2i c = 1 := by
  by_cases h : c
  · exact Or.inr (b2i_t h)
  · exact Or.inl (b2i_f h)
theorem b2i_0 {c : Prop} : b2i c = 0 ↔ ¬ c := by
  by_cases h : c
  · rw [b2i_t h]; exact ⟨fun e => absurd e (by decide), fun e => absurd h e⟩
  · rw [b2i_f h]; exact ⟨fun _ => h, fun _ => rfl⟩
theorem b2i_n0 {c : Prop} : ¬ b2i c = 0 ↔ c := by rw [b2i_0]; exact Classical.not_not
theorem b2i_iff {c d : Prop} (h : c ↔ d) : b2i c = b2i d := by rw [propext h]
theorem p_lt0 (x : Int32) : x < 0 ↔ x.toInt < 0 := by rw [p_lt, show Int32.toInt 0 = 0 from rfl]
theorem p_le0 (x : Int32) : x ≤ 0 ↔ x.toInt ≤ 0 := by rw [p_le, show Int32.toInt 0 = 0 from rfl]
theorem p_0le (x : Int32) : 0 ≤ x ↔ 0 ≤ x.toInt := by rw [p_le, show Int32.toInt 0 = 0 from rfl]
section St
variable {sh : gh_Sh} {M : gh_M}
theorem s11_isIn {post : Int32 → gh_M → Prop} {x a b : Int32} (h : post (b2i (a.toInt ≤ x.toInt ∧ x.toInt ≤ b.toInt)) M) : wp_X11_isIn sh M x a b post := by
  unfold wp_X11_isIn
  refine ⟨fun c => ?_, fun c => ⟨fun c2 => ?_, fun c2 => ?_⟩⟩
  · rw [p_lt] at c; rw [b2i_f (by omega)] at h; exact h
  · rw [p_lt] at c2; rw [b2i_f (by omega)] at h; exact h
  · rw [p_lt] at c c2; rw [b2i_t (by omega)] at h; exact h
theorem s11_isWord {post : Int32 → gh_M → Prop} {x : Int32} (h : post (b2i (isW x)) M) : wp_X11_isWord sh M x post := by
  unfold wp_X11_isWord
  exact s11_isIn ⟨b2i_01 _, h⟩
theorem s11_isOwnWord {post : Int32 → gh_M → Prop} {x : Int32} (h : post (b2i (isO x)) M) : wp_X11_isOwnWord sh M x post := by
  unfold wp_X11_isOwnWord
  exact s11_isIn ⟨b2i_01 _, h⟩
theorem s11_isTongue {post : Int32 → gh_M → Prop} {x : Int32} (h : post (b2i (isT x)) M) : wp_X11_isTongue sh M x post := by
  unfold wp_X11_isTongue
  exact s11_isIn ⟨b2i_01 _, h⟩
theorem s11_isSign {post : Int32 → gh_M → Prop} {x : Int32} (h : post (b2i (isW x ∨ isH x ∨ isO x)) M) : wp_X11_isSign sh M x post := by
  unfold wp_X11_isSign
  refine s11_isWord ⟨fun c => s11_isOwnWord ⟨fun c2 => s11_isIn ⟨fun c3 => ?_, fun c3 => ?_⟩, fun c2 => ?_⟩, fun c => ?_⟩
  · rw [b2i_f (by rw [b2i_0] at c c2 c3; exact fun q => q.elim c (fun q => q.elim (fun q => c3 q) c2))] at h; exact h
  · rw [b2i_t (Or.inr (Or.inl (show isH x from b2i_n0.mp c3)))] at h; exact h
  · rw [b2i_t (Or.inr (Or.inr (b2i_n0.mp c2)))] at h; exact h
  · rw [b2i_t (Or.inl (b2i_n0.mp c))] at h; exact h
theorem isT_ix (x : Int32) : (¬ isT x) ∨ ∃ t, t < 3 ∧ x = nI t := by
  rcases p_ix_cases 3 (by decide) x with ⟨e, hc⟩ | ⟨j, hj, rfl, e⟩
  · left
    intro h
    rcases hc with hc | hc
    · rw [p_lt0] at hc; have := h.1; omega
    · rw [p_le, p_ti (by decide)] at hc; have := h.2; omega
  · exact Or.inr ⟨j, hj, rfl⟩
theorem isT_nI {t : Nat} (h : t < 3) : isT (nI t) := by
  unfold isT; rw [p_ti (by omega)]; omega
theorem s7_holdsAny {post : Int32 → gh_M → Prop} {r : Nat} {l : List Int32} {a n : Int32} (P : Int32 → Prop) (hP : ∀ x : Int32, P x ↔ (a.toInt ≤ x.toInt ∧ x.toInt ≤ ((a + n) - (1 : Int32)).toInt)) (L : LRow sh M r) (R : rowIs M r l) (h : post (b2i (∃ x ∈ l, P x)) M) : wp_X7_holdsAny sh M r a n post := by
  unfold wp_X7_holdsAny wp_X7_holdsAny_2
  have hl := R.1
  refine ⟨fun v => v.2 = M ∧ ∃ i, i ≤ l.length ∧ v.1 = nI i ∧ ∀ j, j < i → ¬ P (l.getD j 0), fun v => 10 - v.1.toNatClampNeg, ⟨rfl, 0, by omega, rfl, fun j hj => by omega⟩, ?_⟩
  rintro ⟨x, M1⟩ ⟨rfl, i, hi, hx, hr⟩
  dsimp only at hx ⊢
  subst hx
  unfold wb_X7_holdsAny_2
  rw [R.2.1]
  refine ⟨L.1, fun c => ?_, fun c => ?_⟩
  · rw [p_leI (by omega) (by omega)] at c
    have : i = l.length := by omega
    subst this
    rw [b2i_f] at h
    · exact h
    · rintro ⟨x, hx, hp⟩
      obtain ⟨j, hj, e⟩ := List.getElem_of_mem hx
      refine hr j hj ?_
      rw [List.getD_eq_getElem?_getD, List.getElem?_eq_getElem hj]
      simpa [e] using hp
  · rw [p_leI (by omega) (by omega)] at c
    refine ⟨_, L.2.2.2, L.2.1, by rw [L.2.2.1]; exact p_in (by omega) (by omega), ?_⟩
    have hm : 10 - (nI i + 1).toNatClampNeg < 10 - (nI i).toNatClampNeg := by
      rw [nI_1, p_cl (by omega), p_cl (by omega)]
      omega
    rw [show rI M1 (r + 1) (nI i).toNatClampNeg = l.getD i 0 by rw [p_cl (by omega), R.2.2 i (by omega)]]
    refine s11_isIn ⟨fun c2 => ?_, fun c2 => ?_⟩
    · rw [b2i_0, ← hP] at c2
      refine ⟨⟨rfl, i + 1, by omega, nI_1 i, fun j hj => ?_⟩, ?_⟩
      · by_cases e : j = i
        · subst e; exact c2
        · exact hr j (by omega)
      · exact hm
    · rw [b2i_n0, ← hP] at c2
      rw [b2i_t] at h
      · exact h
      · refine ⟨l.getD i 0, ?_, c2⟩
        rw [List.getD_eq_getElem?_getD, List.getElem?_eq_getElem (show i < l.length by omega)]
        exact List.getElem_mem _
end St
/-- a TEXT: its STATE, its writer, its SIGNS -/
abbrev TxT : Type := Int32 × Int32 × List Int32
def tx0 : TxT := (0, -5, [])
def LText (sh : gh_Sh) (M : gh_M) (t : Nat) : Prop := sh.1 t = 10 ∧ rR M t 0 = some (t + 1) ∧ LRow sh M (t + 1)
theorem LText.fr {sh : gh_Sh} {M M' : gh_M} {t : Nat} (h : LText sh M t) (e : ∀ a j, rR M' a j = rR M a j) : LText sh M' t := ⟨h.1, (e _ _).trans h.2.1, h.2.2.fr e⟩
def textIs (M : gh_M) (t : Nat) (x : TxT) : Prop := rI M t 1 = x.1 ∧ rI M t 2 = x.2.1 ∧ rowIs M (t + 1) x.2.2
theorem textIs.fr {lo hi : Nat} {M M' : gh_M} {t : Nat} {x : TxT} (h : textIs M t x) (f : Fr lo hi M M') (d : t + 2 < lo ∨ hi ≤ t) : textIs M' t x := ⟨(f.I (by omega) 1).trans h.1, (f.I (by omega) 2).trans h.2.1, h.2.2.fr f (by omega)⟩
section TextSpecs
variable {sh : gh_Sh} {M : gh_M} {t : Nat} {x : TxT}
theorem s10_signs {post : Nat → gh_M → Prop} (L : LText sh M t) (h : post (t + 1) M) : wp_X10_signs sh M t post := by
  unfold wp_X10_signs
  exact ⟨L.1, _, L.2.1, h⟩
theorem s10_state {post : Int32 → gh_M → Prop} (L : LText sh M t) (T : textIs M t x) (h : post x.1 M) : wp_X10_state sh M t post := by
  unfold wp_X10_state
  exact ⟨L.1, by rw [T.1]; exact h⟩
theorem s10_writer {post : Int32 → gh_M → Prop} (L : LText sh M t) (T : textIs M t x) (h : post x.2.1 M) : wp_X10_writer sh M t post := by
  unfold wp_X10_writer
  exact ⟨L.1, by rw [T.2.1]; exact h⟩
theorem s10_waits {post : Int32 → gh_M → Prop} (L : LText sh M t) (T : textIs M t x) (h : post (b2i (x.1 = 1 ∨ x.1 = 3)) M) : wp_X10_waitsForReview sh M t post := by
  unfold wp_X10_waitsForReview wp_X10_waitsForReview_16
  rw [T.1]
  refine ⟨L.1, fun c => ?_, fun c => ⟨fun c2 => ?_, fun c2 => ?_⟩⟩
  · rw [b2i_t (Or.inl c)] at h; exact h
  · rw [b2i_t (Or.inr c2)] at h; exact h
  · rw [b2i_f (fun q => q.elim c c2)] at h; exact h
theorem s10_becomeDraft {post : gh_M → Prop} {r : Nat} {l : List Int32} {w : Int32} (L : LText sh M t) (L' : LRow sh M r) (R : rowIs M r l) (d : r + 1 < t ∨ t + 2 < r) (h : ∀ M', Fr t (t + 3) M M' → textIs M' t (1, w, l) → post M') : wp_X10_becomeDraft sh M t r w post := by
  unfold wp_X10_becomeDraft
  refine ⟨L.1, _, L.2.1, L.2.2.1, s7_copy L.2.2 L' R (by omega) (fun M4 hF hR => h _ ?_ ?_)⟩
  · exact Fr.tr hF (Fr.tr (Fr.w (lo := t) (hi := t + 3) (by omega) (by omega)) (Fr.w (lo := t) (hi := t + 3) (by omega) (by omega)) (Nat.le_refl t) (Nat.le_refl t) (Nat.le_refl (t + 3)) (Nat.le_refl (t + 3))) (by omega) (by omega) (by omega) (by omega)
  · refine ⟨rI_same _ _ _ _, by rw [rI_ne _ _ (by omega), rI_same], hR.1, ?_, fun i hi => ?_⟩
    · rw [rI_ne _ _ (by omega), rI_ne _ _ (by omega)]; exact hR.2.1
    · rw [rI_ne _ _ (by omega), rI_ne _ _ (by omega)]; exact hR.2.2 i hi
theorem s10_becomeReviewed {post : gh_M → Prop} (L : LText sh M t) (T : textIs M t x) (h : ∀ M', Fr t (t + 3) M M' → textIs M' t (2, x.2) → post M') : wp_X10_becomeReviewed sh M t post := by
  unfold wp_X10_becomeReviewed
  refine ⟨L.1, h _ (Fr.w (by omega) (by omega)) ⟨rI_same _ _ _ _, by rw [rI_ne _ _ (by omega)]; exact T.2.1, T.2.2.fr (Fr.w (lo := t) (hi := t + 1) (by omega) (by omega)) (by omega)⟩⟩
theorem s10_becomeDoubtful {post : gh_M → Prop} (L : LText sh M t) (T : textIs M t x) (h : ∀ M', Fr t (t + 3) M M' → textIs M' t (if x.1 = 0 then 0 else 3, x.2) → post M') : wp_X10_becomeDoubtful sh M t post := by
  unfold wp_X10_becomeDoubtful
  rw [T.1]
  refine ⟨L.1, fun c => h _ (Fr.rf _ _ _) ?_, fun c => h _ (Fr.w (by omega) (by omega)) ?_⟩
  · rw [if_pos c]; exact ⟨T.1.trans c, T.2⟩
  · rw [if_neg c]; exact ⟨rI_same _ _ _ _, by rw [rI_ne _ _ (by omega)]; exact T.2.1, T.2.2.fr (Fr.w (lo := t) (hi := t + 1) (by omega) (by omega)) (by omega)⟩
theorem s10_clear {post : gh_M → Prop} (L : LText sh M t) (h : ∀ M', Fr t (t + 3) M M' → textIs M' t tx0 → post M') : wp_X10_clear sh M t post := by
  unfold wp_X10_clear
  refine ⟨L.1, _, L.2.1, L.2.2.1, s7_clear L.2.2 (fun M4 hF hR => h _ ?_ ?_)⟩
  · exact Fr.tr hF (Fr.tr (Fr.w (lo := t) (hi := t + 3) (by omega) (by omega)) (Fr.w (lo := t) (hi := t + 3) (by omega) (by omega)) (Nat.le_refl t) (Nat.le_refl t) (Nat.le_refl (t + 3)) (Nat.le_refl (t + 3))) (by omega) (by omega) (by omega) (by omega)
  · refine ⟨rI_same _ _ _ _, by rw [rI_ne _ _ (by omega), rI_same]; rfl, hR.1, ?_, fun i hi => ?_⟩
    · rw [rI_ne _ _ (by omega), rI_ne _ _ (by omega)]; exact hR.2.1
    · rw [rI_ne _ _ (by omega), rI_ne _ _ (by omega)]; exact hR.2.2 i hi
theorem s10_copy {post : gh_M → Prop} {t' : Nat} (L : LText sh M t) (L' : LText sh M t') (T : textIs M t' x) (d : t' + 2 < t ∨ t + 2 < t') (h : ∀ M', Fr t (t + 3) M M' → textIs M' t x → post M') : wp_X10_copy sh M t t' post := by
  unfold wp_X10_copy
  refine ⟨L.1, _, L.2.1, L'.1, _, L'.2.1, L.2.2.1, s7_copy L.2.2 L'.2.2 T.2.2 (by omega) (fun M6 hF hR => h _ ?_ ?_)⟩
  · exact Fr.tr hF (Fr.tr (Fr.w (lo := t) (hi := t + 3) (by omega) (by omega)) (Fr.w (lo := t) (hi := t + 3) (by omega) (by omega)) (Nat.le_refl t) (Nat.le_refl t) (Nat.le_refl (t + 3)) (Nat.le_refl (t + 3))) (by omega) (by omega) (by omega) (by omega)
  · refine ⟨?_, ?_, hR.1, ?_, fun i hi => ?_⟩
    · rw [rI_same, rI_ne _ _ (by omega), hF.I (by omega)]; exact T.1
    · rw [rI_ne _ _ (by omega), rI_same, hF.I (by omega)]; exact T.2.1
    · rw [rI_ne _ _ (by omega), rI_ne _ _ (by omega)]; exact hR.2.1
    · rw [rI_ne _ _ (by omega), rI_ne _ _ (by omega)]; exact hR.2.2 i hi
end TextSpecs
