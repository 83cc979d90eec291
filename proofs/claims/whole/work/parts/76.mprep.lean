/-! the reference: prepare, canBeBetter, fits -/
theorem needP_s {e : Nat → Nat} {n : Nat} : needP e (n + 1) = needP e n + (if e n = 0 then 0 else 1) := rfl
section MP
variable {sh : gh_Sh} {m : Nat} {a : AbS} {M : gh_M}
/-- what the search reads -/
def FX (sh : gh_Sh) (m : Nat) (a : AbS) (t : Nat) (M : gh_M) : Prop := LM sh M m ∧ rI M m 2 = nI (aS a).length ∧ mHands m M (aH a) ∧ (∀ p, p < (aS a).length → rI M (m + 34) p = nI (effN a t p)) ∧ ∀ p, p < (aS a).length → chk (effN a t) (hKn (aH a) t) (hHr (aH a)) (hRt (aH a)) p (aH a).length (rI M (m + 35) p)
theorem FX.ch {t : Nat} {M' : gh_M} {S F : List Nat} (f : FX sh m a t M) (c : Ch m S F M M') (hS : ∀ k ∈ [14, 15, 16, 34, 35], k ∉ S) (hF : 2 ∉ F) (hF2 : 16 ∉ F) : FX sh m a t M' := by
  obtain ⟨f1, f2, f3, f4, f5⟩ := f
  refine ⟨c.lm f1, (c.fl 2 hF).trans f2, f3.ch c (fun k hk => hS k (by simp at hk ⊢; omega)) hF2, ?_, ?_⟩
  · rw [c.ar 34 (by decide) (by decide) (hS 34 (by decide))]; exact f4
  · rw [c.ar 35 (by decide) (by decide) (hS 35 (by decide))]; exact f5
theorem FX.rate {t j : Nat} (f : FX sh m a t M) (hj : j < (aH a).length) : rI M (m + 16) j = nI (hRt (aH a) j) ∧ hRt (aH a) j ≤ 9 ∧ rI M (m + 15) j = nI (hHr (aH a) j) ∧ hHr (aH a) j ≤ 20 := by
  obtain ⟨o1, o2, o3, o4⟩ := f.2.2.1.2.2 j hj
  obtain ⟨e1, e2⟩ := hRt_is o1
  obtain ⟨e3, e4⟩ := hHr_is o1
  exact ⟨o4.trans e1, e2, o3.trans e3, e4⟩
theorem s12_fits {post : Int32 → gh_M → Prop} {t p j u : Nat} (f : FX sh m a t M) (hs : (aS a).length ≤ 8) (hp : p < (aS a).length) (he : effN a t p ≤ 10) (hj : j < (aH a).length) (hu : u ≤ 20) (hl : rI M (m + 37) j = nI u) (h0 : ¬ fitP (effN a t) (hKn (aH a) t) p j u → post 0 M) (h1 : fitP (effN a t) (hKn (aH a) t) p j u → post 1 M) : wp_X12_fits sh M m (nI p) (nI j) (nI t) post := by
  unfold wp_X12_fits
  obtain ⟨L, f2, f3, f4, f5⟩ := f
  have h5 := f3.1
  refine ⟨L.1, _, L.f43, L.k34, L.v34 (i := p) (by omega) rfl, ?_⟩
  rw [p_cl (by omega), f4 p hp]
  refine ⟨fun c => h0 fun z => ?_, fun c => s12_knows L f3 hj (fun c2 => br0 (h0 fun z => c2 z.2.1)) (fun c2 => br1 ⟨_, L.f46, L.k37, L.v37 (i := j) (by omega) rfl, _, L.f43, L.k34, L.v34 (i := p) (by omega) rfl, ?_⟩)⟩
  · have := (p_leI (b := 0) (by omega) (by omega)).mp c
    have := z.1
    omega
  rw [p_cl (by omega), hl, f4 p hp]
  have e0 : 0 < effN a t p := Nat.pos_of_ne_zero fun z => c (by rw [z]; exact Int32.le_refl _)
  refine ⟨fun c3 => h0 fun z => ?_, fun c3 => h1 ⟨e0, c2, ?_⟩⟩
  · have := (p_ltI (by omega) (by omega)).mp c3
    have := z.2.2
    omega
  · exact Nat.not_lt.mp fun z => c3 ((p_ltI (by omega) (by omega)).mpr z)
theorem s12_can {post : Int32 → gh_M → Prop} {t from0 many cost bc : Nat} {bm : Int32} (f : FX sh m a t M) (hs : (aS a).length ≤ 8) (hf0 : from0 ≤ (aS a).length) (hm : many ≤ 8) (hc : cost ≤ 1000) (h48 : rI M m 48 = bm) (hbm : bm = -1 ∨ ∃ b, b ≤ 8 ∧ bm = nI b) (h49 : rI M m 49 = nI bc) (hbc : bc ≤ 1000) (h1 : post 1 M)
    (h0 : ∀ b, b ≤ 8 → bm = nI b → (many + sumR (fun p => muV (rI M (m + 35) p)) from0 (aS a).length < b ∨ (many + sumR (fun p => muV (rI M (m + 35) p)) from0 (aS a).length = b ∧ bc ≤ cost + sumR (fun p => laV (rI M (m + 35) p)) from0 (aS a).length)) → post 0 M) : wp_X12_canBeBetter sh M m (nI from0) (nI many) (nI cost) post := by
  unfold wp_X12_canBeBetter wp_X12_canBeBetter_9
  obtain ⟨L, f2, f3, f4, f5⟩ := f
  have muB : ∀ v, muV v ≤ 1 := fun v => by unfold muV; split <;> omega
  have laB : ∀ p, p < (aS a).length → laV (rI M (m + 35) p) ≤ 90 := fun p hp => by
    rcases f5 p hp with ⟨hv, -⟩ | ⟨x, hx, hv, -⟩
    · rw [hv]; unfold laV; rw [if_pos (by decide)]; omega
    · rw [hv]; unfold laV; rw [if_neg (nI_pos (by omega)), p_cl (by omega)]; exact hx
  refine loopW (fun n v => v.2.2.2 = M ∧ ∃ p, from0 ≤ p ∧ p ≤ (aS a).length ∧ n = (aS a).length - p ∧ v.2.2.1 = nI p ∧ v.1 = nI (many + sumR (fun p => muV (rI M (m + 35) p)) from0 p) ∧ v.2.1 = nI (cost + sumR (fun p => laV (rI M (m + 35) p)) from0 p)) ((aS a).length - from0) ⟨rfl, from0, Nat.le_refl _, hf0, rfl, rfl, by rw [sumR_0]; rfl, by rw [sumR_0]; rfl⟩ ?_
  rintro n ⟨x4, x5, x6, M1⟩ k ⟨hM, p, p1, p2, hn, e6, e4, e5⟩ hk
  dsimp only at hM e6 e4 e5
  subst hM e6 e4 e5
  unfold wb_X12_canBeBetter_9 wp_X12_canBeBetter_97 wp_X12_canBeBetter_35 wp_X12_canBeBetter_61
  dsimp only
  rw [f2]
  have mb : sumR (fun p => muV (rI M1 (m + 35) p)) from0 p ≤ p * 1 := sumR_le (fun q hq => muB _)
  have lb : sumR (fun p => laV (rI M1 (m + 35) p)) from0 p ≤ p * 90 := sumR_le (fun q hq => laB q (by omega))
  refine ⟨L.1, fun c => ?_, fun c => ?_⟩
  · have pe : p = (aS a).length := by have := (p_leI (by omega) (by omega)).mp c; omega
    subst pe
    rw [h48, h49]
    rcases hbm with e | ⟨b, hb, e⟩
    · subst e
      refine ⟨fun _ => h1, fun c2 => absurd ?_ c2⟩
      rw [p_lt, p_ti (by omega)]
      show (-1 : Int) < _
      omega
    · subst e
      refine ⟨fun _ => h1, fun c2 => ⟨fun c3 => ⟨fun c4 => ?_, fun _ => h1⟩, fun c3 => ?_⟩⟩
      · rw [p_eqI (by omega) (by omega)] at c3
        rw [p_leI (by omega) (by omega)] at c4
        exact h0 b hb rfl (Or.inr ⟨c3, c4⟩)
      · rw [p_ltI (by omega) (by omega)] at c2
        rw [p_eqI (by omega) (by omega)] at c3
        exact h0 b hb rfl (Or.inl (by omega))
  have pl : p < (aS a).length := Nat.not_le.mp fun z => c ((p_leI (by omega) (by omega)).mpr z)
  refine ⟨_, L.f44, L.k35, L.v35 (i := p) (by omega) rfl, ?_⟩
  rw [p_cl (by omega)]
  have go : ∀ x y : Nat, muV (rI M1 (m + 35) p) = x → laV (rI M1 (m + 35) p) = y → k (nI (many + sumR (fun p => muV (rI M1 (m + 35) p)) from0 p) + nI x, nI (cost + sumR (fun p => laV (rI M1 (m + 35) p)) from0 p) + nI y, nI p + 1, M1) := fun x y hx hy => by
    refine hk ((aS a).length - (p + 1)) _ (by omega) ⟨rfl, p + 1, by omega, by omega, rfl, nI_1 p, ?_, ?_⟩
    · dsimp only
      rw [nI_add, sumR_s p1, hx, Nat.add_assoc]
    · dsimp only
      rw [nI_add, sumR_s p1, hy, Nat.add_assoc]
  rcases f5 p pl with ⟨hv, -⟩ | ⟨x, hx, hv, -⟩
  · have z0 : ¬ (0 : Int32) ≤ rI M1 (m + 35) p := by rw [hv]; decide
    exact ⟨fun z => absurd z z0, fun _ => ⟨L.1, _, L.f44, L.k35, L.v35 (i := p) (by omega) rfl, fun z => absurd z z0, fun _ => go 0 0 (by rw [hv]; rfl) (by rw [hv]; rfl)⟩⟩
  · have z0 : (0 : Int32) ≤ rI M1 (m + 35) p := by rw [hv]; exact nI_pos' (by omega)
    have g := go 1 x (by rw [hv]; unfold muV; rw [if_neg (nI_pos (by omega))]) (by rw [hv]; unfold laV; rw [if_neg (nI_pos (by omega)), p_cl (by omega)])
    rw [← hv] at g
    exact ⟨fun _ => ⟨L.1, _, L.f44, L.k35, L.v35 (i := p) (by omega) rfl, fun _ => ⟨L.v35 (i := p) (by omega) rfl, g⟩, fun z => absurd z0 z⟩, fun z => absurd z0 z⟩
theorem s12_prep87 {post : gh_M → Prop} {k35 : Int32 → gh_M → Prop} {t p : Nat} (L : LM sh M m) (d4 : mHands m M (aH a)) (hp : p < 8) (he : effN a t p ≤ 10) (h34 : rI M (m + 34) p = nI (effN a t p)) (h35 : rI M (m + 35) p = -1) (hk35 : ∀ M', Ch m [35] [] M M' → (∀ q, q ≠ p → rI M' (m + 35) q = rI M (m + 35) q) → chk (effN a t) (hKn (aH a) t) (hHr (aH a)) (hRt (aH a)) p (aH a).length (rI M' (m + 35) p) → k35 (nI p + 1) M') : wp_X12_prepare_87 sh post k35 m (nI t) (nI p) 0 M := by
  unfold wp_X12_prepare_87
  have h5 := d4.1
  refine for1 0 (aH a).length (by omega) (by omega) (fun j M1 => Ch m [35] [] M M1 ∧ (∀ q, q ≠ p → rI M1 (m + 35) q = rI M (m + 35) q) ∧ chk (effN a t) (hKn (aH a) t) (hHr (aH a)) (hRt (aH a)) p j (rI M1 (m + 35) p)) ⟨Ch.rf _ _ _ _, fun _ _ => rfl, Or.inl ⟨h35, fun j hj => by omega⟩⟩ ?_ ?_
  · rintro j M1 k - hj ⟨c1, o1, v1⟩ hk
    unfold wb_X12_prepare_87 wp_X12_prepare_132 wp_X12_prepare_133 wp_X12_prepare_185 wp_X12_prepare_180 wp_X12_prepare_191
    dsimp only
    have L1 := c1.lm L
    have d1 := d4.ch c1 (by decide) (by decide)
    have e34 : rI M1 (m + 34) p = nI (effN a t p) := by rw [c1.ar 34 (by decide) (by decide) (by decide)]; exact h34
    obtain ⟨ok1, g1, g2, g3⟩ := d1.2.2 j hj
    obtain ⟨r1, r2⟩ := hRt_is ok1
    obtain ⟨u1, u2⟩ := hHr_is ok1
    have eb : effN a t p * hRt (aH a) j ≤ 90 := Nat.mul_le_mul he r2
    have V34 := L.v34 (i := p) hp rfl
    have V35 := L.v35 (i := p) hp rfl
    -- the same value is written again
    have same : ¬ fitP (effN a t) (hKn (aH a) t) p j (hHr (aH a) j) ∨ (∃ x, x ≤ effN a t p * hRt (aH a) j ∧ rI M1 (m + 35) p = nI x) → k (nI j + 1, wI M1 (m + 35) p (rI M1 (m + 35) p)) := fun hno => hk _ ⟨c1.tr (Ch.wa 35 _ _ (by decide) (by decide) (by decide)), fun q hq => by rw [rI_ne _ _ (Or.inr hq)]; exact o1 q hq, by
      rw [rI_same]
      rcases v1 with ⟨w1, w2⟩ | ⟨x, w1, w2, w3⟩
      · refine Or.inl ⟨w1, fun i hi => ?_⟩
        by_cases e : i = j
        · subst e
          rcases hno with hno | ⟨x, hx, ex⟩
          · exact hno
          · rw [w1] at ex
            have := congrArg Int32.toInt ex
            rw [p_ti (by omega)] at this
            exact absurd this (by show ¬ (-1 : Int) = _; omega)
        · exact w2 i (by omega)
      · refine Or.inr ⟨x, w1, w2, fun i hi hfit => ?_⟩
        by_cases e : i = j
        · subst e
          rcases hno with hno | ⟨y, hy, ey⟩
          · exact absurd hfit hno
          · rw [w2] at ey
            have := (p_eqI (by omega) (by omega)).mp ey
            omega
        · exact w3 i (by omega) hfit⟩
    have new : (rI M1 (m + 35) p = -1 ∨ ∃ x, x ≤ 90 ∧ rI M1 (m + 35) p = nI x ∧ effN a t p * hRt (aH a) j ≤ x) → k (nI j + 1, wI M1 (m + 35) p (nI (effN a t p * hRt (aH a) j))) := fun hno => hk _ ⟨c1.tr (Ch.wa 35 _ _ (by decide) (by decide) (by decide)), fun q hq => by rw [rI_ne _ _ (Or.inr hq)]; exact o1 q hq, by
      rw [rI_same]
      refine Or.inr ⟨_, eb, rfl, fun i hi hfit => ?_⟩
      by_cases e : i = j
      · subst e; exact Nat.le_refl _
      · rcases v1 with ⟨w1, w2⟩ | ⟨x, w1, w2, w3⟩
        · exact absurd hfit (w2 i (by omega))
        · have h9 := w3 i (by omega) hfit
          rcases hno with hno | ⟨y, hy, ey, hle⟩
          · rw [hno] at w2
            have := congrArg Int32.toInt w2
            rw [p_ti (by omega)] at this
            exact absurd this (by show ¬ (-1 : Int) = _; omega)
          · rw [w2] at ey
            have := (p_eqI (by omega) (by omega)).mp ey
            omega⟩
    rw [d1.2.1]
    refine ⟨L.1, fun c => absurd ((p_leI (by omega) (by omega)).mp c) (by omega), fun _ => ⟨_, L1.f43, L.k34, V34, ?_⟩⟩
    rw [p_cl (by omega), e34]
    have no : ¬ fitP (effN a t) (hKn (aH a) t) p j (hHr (aH a) j) → sh.1 m = 12 ∧ ∃ q2, rR M1 m 43 = some q2 ∧ sh.1 q2 = 13 ∧ vp_in (nI p) (sh.2 q2) ∧ ∃ q5, rR M1 m 19 = some q5 ∧ sh.1 q5 = 13 ∧ vp_in (nI j) (sh.2 q5) ∧ ∃ q8, rR M1 m 44 = some q8 ∧ sh.1 m = 12 ∧ ∃ q3, rR M1 m 44 = some q3 ∧ sh.1 q3 = 13 ∧ vp_in (nI p) (sh.2 q3) ∧ sh.1 q8 = 13 ∧ vp_in (nI p) (sh.2 q8) ∧ k (nI j + 1, wI M1 q8 p (rI M1 q3 p)) := fun z => ⟨L.1, _, L1.f43, L.k34, V34, _, L1.f19, L.k16, L.v16 (i := j) (by omega) rfl, _, L1.f44, L.1, _, L1.f44, L.k35, V35, L.k35, V35, same (Or.inl z)⟩
    refine ⟨fun c => ?_, fun c => s12_knows L1 d1 hj (fun c2 => br0 ?_) (fun c2 => br1 ⟨_, L1.f18, L.k15, L.v15 (i := j) (by omega) rfl, _, L1.f43, L.k34, V34, ?_⟩)⟩
    · have nf : ¬ fitP (effN a t) (hKn (aH a) t) p j (hHr (aH a) j) := fun z => by
        have := (p_leI (b := 0) (by omega) (by omega)).mp c
        have := z.1
        omega
      obtain ⟨n1, q2, n2, n3, n4, q5, n5, n6, n7, q8, n8, n9, q3, n10, n11, n12, n13, n14, n15⟩ := no nf
      exact ⟨n1, q2, n2, n3, n4, q5, n5, n6, n7, q8, n8, br0 ⟨n9, q3, n10, n11, n12, n13, n14, n15⟩⟩
    · obtain ⟨n1, q2, n2, n3, n4, q5, n5, n6, n7, q8, n8, n9, q3, n10, n11, n12, n13, n14, n15⟩ := no (fun z => c2 z.2.1)
      exact ⟨n1, q2, n2, n3, n4, q5, n5, n6, n7, q8, n8, br0 ⟨n9, q3, n10, n11, n12, n13, n14, n15⟩⟩
    rw [p_cl (show j < 2147483648 by omega), g2, u1, e34]
    refine ⟨fun c3 => ?_, fun c3 => ⟨L.1, _, L1.f43, L.k34, V34, _, L1.f19, L.k16, L.v16 (i := j) (by omega) rfl, _, L1.f44, br1 ⟨L.k35, V35, ?_⟩⟩⟩
    · have nf : ¬ fitP (effN a t) (hKn (aH a) t) p j (hHr (aH a) j) := fun z => by
        have := (p_ltI (by omega) (by omega)).mp c3
        have := z.2.2
        omega
      obtain ⟨n1, q2, n2, n3, n4, q5, n5, n6, n7, q8, n8, n9, q3, n10, n11, n12, n13, n14, n15⟩ := no nf
      exact ⟨n1, q2, n2, n3, n4, q5, n5, n6, n7, q8, n8, br0 ⟨n9, q3, n10, n11, n12, n13, n14, n15⟩⟩
    rw [e34, g3, r1, pk_mul]
    refine ⟨fun c4 => ⟨L.k35, V35, new ?_⟩, fun c4 => ⟨V35, fun c5 => ⟨L.1, _, L1.f44, L.k35, V35, L.k35, V35, same ?_⟩, fun c5 => ⟨L.k35, V35, new ?_⟩⟩⟩
    · rcases v1 with ⟨w1, w2⟩ | ⟨x, w1, w2, w3⟩
      · exact Or.inl w1
      · rw [w2] at c4; exact absurd c4 (nI_pos (by omega))
    · rcases v1 with ⟨w1, w2⟩ | ⟨x, w1, w2, w3⟩
      · rw [w1] at c4; exact absurd (show (-1 : Int32) < 0 by decide) c4
      · rw [w2] at c5
        exact Or.inr ⟨x, (p_leI (by omega) (by omega)).mp c5, w2⟩
    · rcases v1 with ⟨w1, w2⟩ | ⟨x, w1, w2, w3⟩
      · exact Or.inl w1
      · rw [w2] at c5
        exact Or.inr ⟨x, w1, w2, Nat.le_of_lt (Nat.not_le.mp fun z => c5 ((p_leI (by omega) (by omega)).mpr z))⟩
  · rintro M1 k ⟨c1, o1, v1⟩
    unfold wb_X12_prepare_87
    dsimp only
    have d1 := d4.ch c1 (by decide) (by decide)
    rw [d1.2.1]
    exact ⟨L.1, fun _ => hk35 M1 c1 o1 v1, fun c => absurd ((p_leI (by omega) (by omega)).mpr (Nat.le_refl _)) c⟩
end MP
