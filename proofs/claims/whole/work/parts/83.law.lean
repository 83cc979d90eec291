/-! the law, call by call -/
theorem lw_QQ {sh : gh_Sh} {g m : Nat} {M M1 M2 : gh_M} {o : Int32 × AbS} {r r' : Int32} {K : Prop} (hm : m = g + 544) (q : QC sh g M o r M1) (q' : QM sh m M1 o r' M2) (k : RC sh g o.2 M2 → RM sh m o.2 M2 → K) : (r = r' → K) ∧ (¬ r = r' → False) := ⟨fun _ => k (q.2.1.away (Sw.rf m (m + 39) sh) q'.2.2 (by omega)) q'.2.1, fun z => z (q.1.trans q'.1.symm)⟩
theorem lw_M {sh : gh_Sh} {g m : Nat} {a : AbS} {M M1 : gh_M} {o : Int32 × AbS} {r : Int32} (hm : m = g + 544) (h : RM sh m a M) (q : QC sh g M o r M1) : RM sh m a M1 := h.away q.2.2 (by omega)
set_option maxRecDepth 10000 in
theorem lw_body {L : Nat} {xs : Nat → Int32} {sh : gh_Sh} {g m i : Nat} {a : AbS} {M : gh_M} {k : Int32 → gh_M → Prop} (hm : m = g + 544) (hL : L ≤ 2048) (hC : RC sh g a M) (hM : RM sh m a M) (hk : 4 * i + 4 ≤ L → ∀ a' M', RC sh g a' M' → RM sh m a' M' → k (nI (4 * i) + 4) M') (hi : i ≤ 600) : wb_L_law_18 L xs sh g m k (nI (4 * i)) M := by
  unfold wb_L_law_18
  refine ⟨fun _ => trivial, fun c => ?_⟩
  have h4 : 4 * i + 4 ≤ L := by
    apply Classical.byContradiction
    intro z
    apply c
    rw [p_lt, p_ti (by omega), show (Int32.ofNat L - (4 : Int32)).toInt = (L : Int) - 4 from pk_sub_toInt (a := L) (b := 4) (by omega) (by omega)]
    omega
  have v0 : vp_in (nI (4 * i)) L := p_in (by omega) (by omega)
  have v1 : vp_in (nI (4 * i) + (1 : Int32)) L := by rw [a1]; exact p_in (by omega) (by omega)
  have v2 : vp_in (nI (4 * i) + (2 : Int32)) L := by rw [a2]; exact p_in (by omega) (by omega)
  have v3 : vp_in (nI (4 * i) + (3 : Int32)) L := by rw [a3]; exact p_in (by omega) (by omega)
  have K : ∀ a' M', RC sh g a' M' → RM sh m a' M' → wp_L_law_994 L xs sh k g m (nI (4 * i)) M' := fun a' M' h1 h2 => hk h4 a' M' h1 h2
  have s1 : sh.1 g = 11 := by obtain ⟨sb, nb, σ, τ, l, -⟩ := hC; exact l.1.1
  have s2 : sh.1 m = 12 := hM.1.1
  have ok : ∀ j, j < (aH a).length → hnOk (hnAt a j) := fun j hj => (hM.2.2.2.2.1.2.2 j hj).1
  refine ⟨v0, fun _ => ⟨v1, s1, _, cl_sign hC _, fun r M1 q => ⟨v1, s2, _, mo_sign (lw_M hm hM q) _, fun r2 M2 q2 => lw_QQ hm q q2 (K _ _)⟩⟩,
    fun _ => ⟨s1, _, cl_scrap hC, fun r M1 q => ⟨s2, _, mo_scrap (lw_M hm hM q), fun r2 M2 q2 => lw_QQ hm q q2 (K _ _)⟩⟩,
    fun _ => ⟨v1, s1, _, cl_piece hC _, fun r M1 q => ⟨v1, s2, _, mo_piece (lw_M hm hM q) _, fun r2 M2 q2 => lw_QQ hm q q2 (K _ _)⟩⟩,
    fun _ => ⟨s1, _, cl_drop hC, fun r M1 q => ⟨s2, _, mo_drop (lw_M hm hM q), fun r2 M2 q2 => lw_QQ hm q q2 (K _ _)⟩⟩,
    fun _ => ⟨s1, _, cl_turn hC, fun r M1 q => ⟨s2, _, mo_turn (lw_M hm hM q), fun r2 M2 q2 => lw_QQ hm q q2 (K _ _)⟩⟩,
    fun _ => ⟨v1, v2, s1, _, cl_of hC _ _, fun r M1 q => ⟨v1, v2, s2, _, mo_of (lw_M hm hM q) _ _, fun r2 M2 q2 => lw_QQ hm q q2 (K _ _)⟩⟩,
    fun _ => ⟨v1, v2, s1, _, cl_far hC _ _, fun r M1 q => ⟨v1, v2, s2, _, mo_far (lw_M hm hM q) _ _, fun r2 M2 q2 => lw_QQ hm q q2 (K _ _)⟩⟩,
    fun _ => ⟨v1, s1, _, cl_from hC _, fun r M1 q => ⟨v1, s2, _, mo_from (lw_M hm hM q) _, fun r2 M2 q2 => lw_QQ hm q q2 (K _ _)⟩⟩,
    fun _ => ⟨v1, s1, _, cl_story hC _, fun r M1 q => ⟨v1, s2, _, mo_story (lw_M hm hM q) _, fun r2 M2 q2 => lw_QQ hm q q2 (K _ _)⟩⟩,
    fun _ => ⟨v1, v2, v3, s1, _, cl_hand hC _ _ _, fun r M1 q => ⟨v1, v2, v3, s2, _, mo_hand (lw_M hm hM q) _ _ _, fun r2 M2 q2 => lw_QQ hm q q2 (K _ _)⟩⟩,
    fun _ => ⟨v1, v2, s1, _, cl_hours hC _ _, fun r M1 q => ⟨v1, v2, s2, _, mo_hours (lw_M hm hM q) _ _, fun r2 M2 q2 => lw_QQ hm q q2 (K _ _)⟩⟩,
    fun _ => ⟨v1, v2, v3, s1, _, cl_term hC _ _ _, fun r M1 q => ⟨v1, v2, v3, s2, _, mo_term (lw_M hm hM q) _ _ _, fun r2 M2 q2 => lw_QQ hm q q2 (K _ _)⟩⟩,
    fun _ => ⟨v1, v2, s1, _, cl_forget hC _ _, fun r M1 q => ⟨v1, v2, s2, _, mo_forget (lw_M hm hM q) _ _, fun r2 M2 q2 => lw_QQ hm q q2 (K _ _)⟩⟩,
    fun _ => ⟨v1, v2, v3, s1, _, cl_write hC _ _ _, fun r M1 q => ⟨v1, v2, v3, s2, _, mo_write (lw_M hm hM q) _ _ _, fun r2 M2 q2 => lw_QQ hm q q2 (K _ _)⟩⟩,
    fun _ => ⟨v1, v2, v3, s1, _, cl_review hC _ _ _, fun r M1 q => ⟨v1, v2, v3, s2, _, mo_review (lw_M hm hM q) _ _ _, fun r2 M2 q2 => lw_QQ hm q q2 (K _ _)⟩⟩,
    fun _ => ⟨v1, v2, v3, s1, _, cl_reuse hC _ _ _, fun r M1 q => ⟨v1, v2, v3, s2, _, mo_reuse (lw_M hm hM q) _ _ _, fun r2 M2 q2 => lw_QQ hm q q2 (K _ _)⟩⟩,
    fun _ => ⟨v1, v2, v3, s1, _, cl_text hC _ _ _, fun r M1 q => ⟨v1, v2, v3, s2, _, mo_text (lw_M hm hM q) _ _ _, fun r2 M2 q2 => lw_QQ hm q q2 (K _ _)⟩⟩,
    fun _ => ⟨v1, v2, s1, _, cl_fault hC _ _, fun r M1 q => ⟨v1, v2, s2, _, mo_fault (lw_M hm hM q) _ _, fun r2 M2 q2 => lw_QQ hm q q2 (K _ _)⟩⟩,
    fun _ => ⟨v1, s1, _, cl_limit hC _, fun r M1 q => ⟨v1, s2, _, mo_limit (lw_M hm hM q) _, fun r2 M2 q2 => lw_QQ hm q q2 (K _ _)⟩⟩,
    fun _ => ⟨v1, v2, v3, s1, _, cl_nearest hC _ _ _, fun r M1 q => ⟨v1, v2, v3, s2, _, mo_nearest (lw_M hm hM q) _ _ _, fun r2 M2 q2 => lw_QQ hm q q2 (K _ _)⟩⟩,
    fun _ => ⟨v1, v2, s1, _, cl_memory hC _ _, fun r M1 q => ⟨v1, v2, s2, _, mo_memory (lw_M hm hM q) _ _, fun r2 M2 q2 => lw_QQ hm q q2 (K _ _)⟩⟩,
    fun _ => ⟨v1, v2, s1, _, cl_effort hC _ _, fun r M1 q => ⟨v1, v2, s2, _, mo_effort (lw_M hm hM q) _ _, fun r2 M2 q2 => lw_QQ hm q q2 (K _ _)⟩⟩,
    fun _ => ⟨v1, v2, s1, _, cl_plan hC ok _ _, fun r M1 q => ⟨v1, v2, s2, _, mo_plan (lw_M hm hM q) _ _, fun r2 M2 q2 => lw_QQ hm q q2 (K _ _)⟩⟩,
    fun _ => ⟨v1, v2, s1, _, cl_planned hC ok _ _, fun r M1 q => ⟨v1, v2, s2, _, mo_planned (lw_M hm hM q) _ _, fun r2 M2 q2 => lw_QQ hm q q2 (K _ _)⟩⟩,
    fun _ => ⟨v1, v2, s1, _, cl_release hC _ _, fun r M1 q => ⟨v1, v2, s2, _, mo_release (lw_M hm hM q) _ _, fun r2 M2 q2 => lw_QQ hm q q2 (K _ _)⟩⟩,
    fun _ => ⟨v1, s1, _, cl_many hC _, fun r M1 q => ⟨v1, s2, _, mo_many (lw_M hm hM q) _, fun r2 M2 q2 => lw_QQ hm q q2 (K _ _)⟩⟩,
    fun _ => ⟨s1, _, cl_keep hC, fun r M1 q => ⟨s2, _, mo_keep (lw_M hm hM q), fun r2 M2 q2 => lw_QQ hm q q2 (K _ _)⟩⟩,
    fun _ => ⟨s1, _, cl_back hC, fun r M1 q => ⟨s2, _, mo_back (lw_M hm hM q), fun r2 M2 q2 => lw_QQ hm q q2 (K _ _)⟩⟩,
    fun _ => K a M hC hM⟩
theorem pure_law (b L : Nat) (xs : Nat → Int32) (hL : L ≤ 2048) : wp_L_law b L xs gh_sh0 gh_M0 := by
  unfold wp_L_law
  refine ⟨by decide, by decide, by decide, by decide, i11 (b := b) (n := 0) (y := b + 0) rfl (fun s1 M1 a1 b1 r1 => ⟨by decide, by decide, by decide, by decide, i12 (b := b) (n := 544) (y := b + 544) rfl (fun s2 M2 a2 b2 r2 => ?_)⟩)⟩
  have r1' : RC s2 (b + 0) aInit M2 := r1.away a2 b2 (by omega)
  unfold wp_L_law_18
  refine loopW (fun p v => ∃ i a, v.1 = nI (4 * i) ∧ i + p = 600 ∧ RC s2 (b + 0) a v.2 ∧ RM s2 (b + 544) a v.2) 600 ⟨0, aInit, rfl, rfl, r1', r2⟩ ?_
  rintro p ⟨x, M3⟩ k ⟨i, a, hx, hp, hC, hM⟩ hk
  dsimp only at hx hC hM
  subst hx
  refine lw_body (by omega) hL hC hM (fun h4 a' M' h1 h2 => hk (p - 1) _ (by omega) ⟨i + 1, a', nI_add (4 * i) 4, by omega, h1, h2⟩) (by omega)
