/-! Row, the rest -/
section RowSpecs2
variable {sh : gh_Sh} {M : gh_M} {r : Nat} {l : List Int32}
theorem s7_askedFor {post : Int32 → gh_M → Prop} {w f : Int32} (L : LRow sh M r) (R : rowIs M r l) (h : post (if w < f then -1 else rowAt l (w - f)) M) : wp_X7_askedFor sh M r w f post := by
  unfold wp_X7_askedFor
  refine ⟨fun c => ?_, fun c => ?_⟩
  · rw [if_neg (by rw [p_lt]; rw [p_le] at c; omega)] at h
    exact ⟨L.1, s7_at L R h⟩
  · rw [if_pos (by rw [p_lt]; rw [p_le] at c; omega)] at h
    exact h
theorem s7_add {post : gh_M → Prop} {x : Int32} (L : LRow sh M r) (R : rowIs M r l) (hl : l.length < 10) (h : ∀ M', Fr r (r + 2) M M' → rowIs M' r (l ++ [x]) → post M') : wp_X7_add sh M r x post := by
  unfold wp_X7_add
  refine ⟨L.1, s7_isFull L R ⟨fun _ => ⟨_, L.2.2.2, L.2.1, ?_, h _ ?_ ?_⟩, fun c => ?_⟩⟩
  · rw [L.2.2.1, R.2.1]; exact p_in hl (by decide)
  · exact Fr.tr (Fr.w (lo := r) (hi := r + 2) (by omega) (by omega)) (Fr.w (lo := r) (hi := r + 2) (by omega) (by omega)) (by omega) (by omega) (by omega) (by omega)
  · rw [R.2.1, p_cl (by omega)]
    refine ⟨by simp; omega, ?_, fun i hi => ?_⟩
    · rw [rI_same, rI_ne _ _ (by omega), R.2.1, List.length_append]; exact nI_1 _
    · rw [rI_ne _ _ (by omega)]
      simp at hi
      by_cases e : i = l.length
      · subst e; rw [rI_same]; simp
      · rw [rI_ne _ _ (by omega), R.2.2 i (by omega)]
        simp [List.getD_eq_getElem?_getD, List.getElem?_append_left (show i < l.length by omega)]
  · rw [if_neg (by omega)] at c; exact absurd rfl c
theorem s7_clear {post : gh_M → Prop} (L : LRow sh M r) (h : ∀ M', Fr r (r + 2) M M' → rowIs M' r [] → post M') : wp_X7_clear sh M r post := by
  unfold wp_X7_clear
  exact ⟨L.1, h _ (Fr.w (by omega) (by omega)) ⟨by simp, by rw [rI_same]; rfl, fun i hi => by simp at hi⟩⟩
theorem s7_copy {post : gh_M → Prop} {r' : Nat} (L : LRow sh M r) (L' : LRow sh M r') (R : rowIs M r' l) (hne : r' + 1 < r ∨ r + 1 < r') (h : ∀ M', Fr r (r + 2) M M' → rowIs M' r l → post M') : wp_X7_copy sh M r r' post := by
  unfold wp_X7_copy
  refine ⟨L'.1, L.1, ?_⟩
  unfold wp_X7_copy_10
  have hl := R.1
  refine ⟨fun v => ∃ i, i ≤ l.length ∧ v.1 = nI i ∧ Fr r (r + 2) M v.2 ∧ rI v.2 r 1 = nI l.length ∧ ∀ j, j < i → rI v.2 (r + 1) j = l.getD j 0, fun v => 10 - v.1.toNatClampNeg, ?_, ?_⟩
  · exact ⟨0, by omega, rfl, Fr.w (by omega) (by omega), by rw [rI_same, R.2.1], fun j hj => by omega⟩
  · rintro ⟨x, M1⟩ ⟨i, hi, hx, hF, hs, hr⟩
    dsimp only at hx hF hs hr ⊢
    subst hx
    unfold wb_X7_copy_10
    rw [hs]
    refine ⟨L.1, fun c => ?_, fun c => ?_⟩
    · rw [p_leI (by omega) (by omega)] at c
      have : i = l.length := by omega
      subst this
      exact h M1 hF ⟨hl, hs, hr⟩
    · rw [p_leI (by omega) (by omega)] at c
      refine ⟨_, (hF.R r 0).trans L.2.2.2, L'.1, _, (hF.R r' 0).trans L'.2.2.2, L'.2.1, by rw [L'.2.2.1]; exact p_in (by omega) (by omega), L.2.1, by rw [L.2.2.1]; exact p_in (by omega) (by omega), ⟨i + 1, by omega, nI_1 i, ?_, ?_, ?_⟩, ?_⟩
      · exact Fr.tr hF (Fr.w (lo := r) (hi := r + 2) (by omega) (by omega)) (by omega) (by omega) (by omega) (by omega)
      · rw [rI_ne _ _ (by omega)]; exact hs
      · intro j hj
        rw [p_cl (by omega)]
        by_cases e : j = i
        · subst e
          rw [rI_same, hF.I (by omega), R.2.2 j (by omega)]
        · rw [rI_ne _ _ (by omega)]; exact hr j (by omega)
      · show 10 - (nI i + 1).toNatClampNeg < 10 - (nI i).toNatClampNeg
        rw [nI_1, p_cl (by omega), p_cl (by omega)]
        omega
theorem p_getD_ext {a b : List Int32} (hl : a.length = b.length) (h : ∀ i, i < a.length → a.getD i 0 = b.getD i 0) : a = b := by
  apply List.ext_getElem hl
  intro i h1 h2
  have := h i h1
  simp [List.getD_eq_getElem?_getD, List.getElem?_eq_getElem h1, List.getElem?_eq_getElem h2] at this
  exact this
theorem s7_isSameAs {post : Int32 → gh_M → Prop} {r' : Nat} {l' : List Int32} (L : LRow sh M r) (L' : LRow sh M r') (R : rowIs M r l) (R' : rowIs M r' l') (h : post (if l = l' then 1 else 0) M) : wp_X7_isSameAs sh M r r' post := by
  unfold wp_X7_isSameAs
  have hl := R.1
  have hl' := R'.1
  refine ⟨L.1, L'.1, fun c => ?_, fun c => ?_⟩
  · rw [R.2.1, R'.2.1, p_eqI (by omega) (by omega)] at c
    unfold wp_X7_isSameAs_15
    refine ⟨fun v => v.2 = M ∧ ∃ i, i ≤ l.length ∧ v.1 = nI i ∧ ∀ j, j < i → l.getD j 0 = l'.getD j 0, fun v => 10 - v.1.toNatClampNeg, ⟨rfl, 0, by omega, rfl, fun j hj => by omega⟩, ?_⟩
    rintro ⟨x, M1⟩ ⟨rfl, i, hi, hx, hr⟩
    dsimp only at hx ⊢
    subst hx
    unfold wb_X7_isSameAs_15
    rw [R.2.1]
    refine ⟨L.1, fun c1 => ?_, fun c1 => ?_⟩
    · rw [p_leI (by omega) (by omega)] at c1
      have e : l = l' := p_getD_ext c (fun j hj => hr j (by omega))
      rw [if_pos e] at h
      exact h
    · rw [p_leI (by omega) (by omega)] at c1
      refine ⟨_, L.2.2.2, L.2.1, by rw [L.2.2.1]; exact p_in (by omega) (by omega), L'.1, _, L'.2.2.2, L'.2.1, by rw [L'.2.2.1]; exact p_in (by omega) (by omega), fun c2 => ?_, fun c2 => ?_⟩
      · rw [p_cl (by omega), R.2.2 i (by omega), R'.2.2 i (by omega)] at c2
        refine ⟨⟨rfl, i + 1, by omega, nI_1 i, fun j hj => ?_⟩, ?_⟩
        · by_cases e : j = i
          · subst e; exact c2
          · exact hr j (by omega)
        · show 10 - (nI i + 1).toNatClampNeg < 10 - (nI i).toNatClampNeg
          rw [nI_1, p_cl (by omega), p_cl (by omega)]
          omega
      · rw [p_cl (by omega), R.2.2 i (by omega), R'.2.2 i (by omega)] at c2
        rw [if_neg (fun e => c2 (by rw [e]))] at h
        exact h
  · rw [R.2.1, R'.2.1, p_eqI (by omega) (by omega)] at c
    rw [if_neg (fun e => c (by rw [e]))] at h
    exact h
/-- how often -/
theorem p_count_take (l : List Int32) (x : Int32) (i : Nat) (hi : i < l.length) : (l.take (i + 1)).count x = (l.take i).count x + if l.getD i 0 = x then 1 else 0 := by
  rw [List.take_add_one]
  rw [List.count_append, List.getElem?_eq_getElem hi]
  simp [List.getD_eq_getElem?_getD, List.getElem?_eq_getElem hi, List.count_singleton]
theorem s7_timesOf {post : Int32 → gh_M → Prop} {x : Int32} (L : LRow sh M r) (R : rowIs M r l) (h : post (nI (l.count x)) M) : wp_X7_timesOf sh M r x post := by
  unfold wp_X7_timesOf wp_X7_timesOf_4
  have hl := R.1
  refine ⟨fun v => v.2.2 = M ∧ ∃ i, i ≤ l.length ∧ v.2.1 = nI i ∧ v.1 = nI ((l.take i).count x), fun v => 10 - v.2.1.toNatClampNeg, ⟨rfl, 0, by omega, rfl, rfl⟩, ?_⟩
  rintro ⟨t, y, M1⟩ ⟨rfl, i, hi, hy, ht⟩
  dsimp only at hy ht ⊢
  subst hy
  subst ht
  unfold wb_X7_timesOf_4
  rw [R.2.1]
  refine ⟨L.1, fun c => ?_, fun c => ?_⟩
  · rw [p_leI (by omega) (by omega)] at c
    have : i = l.length := by omega
    subst this
    rw [List.take_length]
    exact h
  · rw [p_leI (by omega) (by omega)] at c
    have hm : 10 - (nI i + 1).toNatClampNeg < 10 - (nI i).toNatClampNeg := by
      rw [nI_1, p_cl (by omega), p_cl (by omega)]
      omega
    refine ⟨_, L.2.2.2, L.2.1, by rw [L.2.2.1]; exact p_in (by omega) (by omega), fun c2 => ?_, fun c2 => ?_⟩
    · rw [p_cl (by omega), R.2.2 i (by omega)] at c2
      unfold wp_X7_timesOf_25
      refine ⟨⟨rfl, i + 1, by omega, nI_1 i, ?_⟩, hm⟩
      rw [p_count_take l x i (by omega), if_pos c2]
      exact nI_1 _
    · rw [p_cl (by omega), R.2.2 i (by omega)] at c2
      unfold wp_X7_timesOf_25
      refine ⟨⟨rfl, i + 1, by omega, nI_1 i, ?_⟩, hm⟩
      rw [p_count_take l x i (by omega), if_neg c2]
      rfl
end RowSpecs2
