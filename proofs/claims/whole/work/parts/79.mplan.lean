/-! the reference: findPlan, plan, planned -/
section MPl
variable {sh : gh_Sh} {m : Nat} {a : AbS} {M : gh_M}
theorem s12_findPlan {post : gh_M → Prop} {t : Nat} (h : RM sh m a M) (ht : t < 3) (hp : ∀ M', Ch m [25, 26, 34, 35, 36, 37, 38] [41, 42, 48, 49, 50] M M' → rI M' m 48 = nI (cnA a (plC a t) (aS a).length) → rI M' m 49 = nI (csA a t (plC a t) (aS a).length) → (∀ q, q < (aS a).length → rI M' (m + 38) q = nI (plC a t q)) → rI M' m 50 = nI (needP (effN a t) (aS a).length) → post M') : wp_X12_findPlan sh M m (nI t) post := by
  have hR := h
  obtain ⟨L, d1, d2, d3, d4, d5, d6, d7, d8⟩ := h
  unfold wp_X12_findPlan
  have hs := d2.1
  have hh := d4.1
  have hl10 : ∀ i, i < (aS a).length → (pcAt a i).2.1.length ≤ 10 := fun i hi => by have := (d2.ats hi).2.1; show ((aS a).getD i pc0).2.1.length ≤ 10; omega
  have H : DH a t := ⟨hs, hh, effN_le hl10 t, fun j hj => ⟨(hHr_is (d4.2.2 j hj).1).2, (hRt_is (d4.2.2 j hj).1).2⟩⟩
  refine ⟨L.1, s12_prepare hR ht (fun M2 c2 f2 l2 n2 => ⟨_, f2.1.f45, ?_⟩)⟩
  rintro M4 hM4
  subst hM4
  refine ⟨L.k36, L.v36 (i := 0) (by omega) rfl, ?_⟩
  rw [show (0 : Int32).toNatClampNeg = 0 from rfl]
  unfold wp_X12_findPlan_32
  have c5 : Ch m [36, 37, 38] [48, 49] M2 (wI (wI (wI M2 m 48 (-1)) m 49 0) (m + 36) 0 (-1)) := ((Ch.wf 48 _ (by decide)).tr (Ch.wf 49 _ (by decide))).tr (Ch.wa 36 _ _ (by decide) (by decide) (by decide))
  have b48 : rI (wI (wI (wI M2 m 48 (-1)) m 49 0) (m + 36) 0 (-1)) m 48 = -1 := by rw [rI_ne _ _ (by omega), rI_ne _ _ (by omega), rI_same]
  have b49 : rI (wI (wI (wI M2 m 48 (-1)) m 49 0) (m + 36) 0 (-1)) m 49 = 0 := by rw [rI_ne _ _ (by omega), rI_same]
  have b36 : rI (wI (wI (wI M2 m 48 (-1)) m 49 0) (m + 36) 0 (-1)) (m + 36) 0 = -1 := rI_same _ _ _ _
  have b37 : ∀ j, rI (wI (wI (wI M2 m 48 (-1)) m 49 0) (m + 36) 0 (-1)) (m + 37) j = rI M2 (m + 37) j := fun j => by rw [rI_ne _ _ (by omega), rI_ne _ _ (by omega), rI_ne _ _ (by omega)]
  generalize wI (wI (wI M2 m 48 (-1)) m 49 0) (m + 36) 0 (-1) = M5 at c5 b48 b49 b36 b37
  have pv0 : PVa a t (fun _ => (aH a).length) 0 := ⟨fun q hq => by omega, fun j hj => Nat.zero_le _⟩
  have us0 : ∀ j, j < (aH a).length → usA a t (fun _ => (aH a).length) j 1 = 0 := fun j hj => by
    show 0 + (if (aH a).length = j then effN a t 0 else 0) = 0
    rw [if_neg (by omega)]
  have J0 : ∃ n0, Ch m [36, 37, 38] [48, 49] M2 M5 ∧ DJ m a t n0 ((0 : Int32), (0 : Int32), (0 : Int32), (1 : Int32), M5) := by
    by_cases z : (aS a).length = 0
    · refine ⟨_, c5, Or.inr (Or.inl ⟨rfl, by rw [z]; rfl, fun _ => (aH a).length, by rw [z]; exact pv0, fun q hq => by omega, fun j hj => ?_, ?_, ?_, ?_, rfl⟩)⟩
      · dsimp only
        rw [b37, l2 j hj, z]
        exact congrArg nI (Nat.sub_zero _).symm
      · rw [z]; rfl
      · rw [z]; rfl
      · rw [z]; exact Or.inl ⟨b48, b49, fun f hf w => by have w' : 0 < 0 := w; omega⟩
    · refine ⟨_, c5, Or.inr (Or.inr ⟨rfl, 0, fun _ => (aH a).length, 0, by omega, rfl, PV.up pv0 (Or.inl rfl), fun q hq => by omega, Or.inl ⟨rfl, rfl, b36⟩, fun j hj => ?_, ?_, ?_, Or.inl ⟨b48, b49, fun f hf w => ?_⟩, rfl⟩)⟩
      · dsimp only
        rw [b37, l2 j hj, us0 j hj, Nat.sub_zero]
      · show (0 : Int32) = nI (0 + if (aH a).length < (aH a).length then 1 else 0)
        rw [if_neg (Nat.lt_irrefl _)]; rfl
      · show (0 : Int32) = nI (0 + if (aH a).length < (aH a).length then effN a t 0 * hRt (aH a) (aH a).length else 0)
        rw [if_neg (Nat.lt_irrefl _)]; rfl
      · have w' : 8 * 0 + f 0 < 8 * 0 + 0 := w
        omega
  obtain ⟨n0, J0⟩ := J0
  refine loopW (fun n v => Ch m [36, 37, 38] [48, 49] M2 v.2.2.2.2 ∧ DJ m a t n v) n0 J0 ?_
  rintro n ⟨x2, x3, x4, x5, M1⟩ k ⟨hch, hj⟩ hk
  dsimp only at hch
  unfold wb_X12_findPlan_32 wp_X12_findPlan_70 wp_X12_findPlan_94 wp_X12_findPlan_106
  dsimp only
  have f1 := f2.ch hch (by decide) (by decide) (by decide)
  have L1 := f1.1
  rcases hj with ⟨h5, hn, hb⟩ | ⟨h5, h2, x, hx, hc, hl, h3, h4, hb, hn⟩ | ⟨h5, i, x, d, hi, h2, hx, hc, hd, hl, h3, h4, hb, hn⟩
  · dsimp only at h5 hb
    subst h5
    refine ⟨fun _ => ?_, fun c => absurd rfl c⟩
    obtain ⟨r1, r2, r3⟩ := hb.done hh hs (fun q hq => effN_0 hq) H.2.2.1 (fun j hj => (H.2.2.2 j hj).2) (plC_ok a t)
    exact hp M1 ((c2.mono (by decide) (by decide)).tr (hch.mono (by decide) (by decide))) r1 r2 r3 ((hch.fl 50 (by decide)).trans n2)
  · dsimp only at h5 h2 hc hl h3 h4 hb
    subst h5 h2 h3 h4
    rw [f1.2.1]
    have x8 := hx.lt8 hh
    have hA : horn x (aS a).length < 8 ^ (aS a).length := horn_lt _ x8
    have hcs : ∀ g, csA a t g (aS a).length ≤ 720 := fun g => H.cs g hs
    have cn8 := fun g => DH.cn (a := a) g (aS a).length
    have hn2 : (8 ^ (aS a).length - (horn x (aS a).length + 1) * 8 ^ ((aS a).length - (aS a).length)) * 16 + (17 - (aS a).length) < n := by
      rw [Nat.sub_self, Nat.pow_zero, Nat.mul_one]
      omega
    have take : (rI M1 m 48 < nI (cnA a x (aS a).length) ∨ (nI (cnA a x (aS a).length) = rI M1 m 48 ∧ ¬ rI M1 m 49 ≤ nI (csA a t x (aS a).length))) → sh.1 m = 12 ∧ ∃ q2, rR (wI (wI M1 m 48 (nI (cnA a x (aS a).length))) m 49 (nI (csA a t x (aS a).length))) m 45 = some q2 ∧ ∃ q3, rR (wI (wI M1 m 48 (nI (cnA a x (aS a).length))) m 49 (nI (csA a t x (aS a).length))) m 47 = some q3 ∧ wp_X12_copy sh (wI (wI M1 m 48 (nI (cnA a x (aS a).length))) m 49 (nI (csA a t x (aS a).length))) q2 q3 (8 : Int32) (fun M4 => (nI (aS a).length + (-1) < 0 → k (nI (aS a).length + (-1), nI (cnA a x (aS a).length), nI (csA a t x (aS a).length), 0, M4)) ∧ (¬ nI (aS a).length + (-1) < 0 → k (nI (aS a).length + (-1), nI (cnA a x (aS a).length), nI (csA a t x (aS a).length), 1, M4))) := fun hw => by
      refine ⟨L.1, _, L1.f45, _, L1.f47, s12_copy (n := 8) rfl (by decide) L.k36 (by rw [L.n36]; decide) (by rw [L.n36]; decide) L.k38 (by rw [L.n38]; decide) (by rw [L.n38]; decide) (by omega) (fun M6 o6 v6 j6 r6 => ?_)⟩
      have c6 : Ch m [36, 37, 38] [48, 49] M1 M6 := ((Ch.wf 48 _ (by decide)).tr (Ch.wf 49 _ (by decide))).tr ⟨fun k j q1 q2 q3 => o6 _ _ (fun z => q3 (by rw [show k = 38 by omega]; decide)), fun f hf => o6 _ _ (by omega), fun q j hq => o6 _ _ (by omega), j6, r6⟩
      refine fp_back (Nat.le_refl _) hs hx (fun q hq => ?_) (fun j hj => ?_) (Bst.take hh hs hcs hx hb ?_ ?_ (fun q hq => ?_) hw) hn2 (hch.tr c6) hk
      · rw [o6 _ _ (by omega), rI_ne _ _ (by omega), rI_ne _ _ (by omega)]; exact hc q hq
      · rw [o6 _ _ (by omega), rI_ne _ _ (by omega), rI_ne _ _ (by omega)]; exact hl j hj
      · rw [o6 _ _ (by omega), rI_ne _ _ (by omega), rI_same]
      · rw [o6 _ _ (by omega), rI_same]
      · rw [v6 q (by omega), rI_ne _ _ (by omega), rI_ne _ _ (by omega)]; exact hc q hq
    have keep : ¬ rI M1 m 48 < nI (cnA a x (aS a).length) → (nI (cnA a x (aS a).length) = rI M1 m 48 → rI M1 m 49 ≤ nI (csA a t x (aS a).length)) → (nI (aS a).length + (-1) < 0 → k (nI (aS a).length + (-1), nI (cnA a x (aS a).length), nI (csA a t x (aS a).length), 0, M1)) ∧ (¬ nI (aS a).length + (-1) < 0 → k (nI (aS a).length + (-1), nI (cnA a x (aS a).length), nI (csA a t x (aS a).length), 1, M1)) := fun w1 w2 => by
      have cx := cn8 x
      have sx := hcs x
      refine fp_back (Nat.le_refl _) hs hx hc hl ?_ hn2 hch hk
      rcases hb with ⟨e1, -, -⟩ | ⟨b, b1, b2, b3, b4, b5, b6⟩
      · exfalso
        rw [e1, p_lt, p_ti (by omega)] at w1
        exact w1 (by show (-1 : Int) < _; omega)
      · have cb := cn8 b
        have sb := hcs b
        refine Bst.keep hh hx b1 b2 b3 b4 b5 b6 ?_
        rw [show rI M1 m 48 = nI (cnA a b (aS a).length) from b3] at w1 w2
        rw [show rI M1 m 49 = nI (csA a t b (aS a).length) from b4] at w2
        have w1' : ¬ cnA a b (aS a).length < cnA a x (aS a).length := fun z => w1 ((p_ltI (by omega) (by omega)).mpr z)
        by_cases z : cnA a x (aS a).length = cnA a b (aS a).length
        · refine Or.inr ⟨z, ?_⟩
          show csA a t b (aS a).length ≤ csA a t x (aS a).length
          exact (p_leI (by omega) (by omega)).mp (w2 (congrArg nI z))
        · exact Or.inl (by show cnA a x (aS a).length < cnA a b (aS a).length; omega)
    exact ⟨fun c => absurd c (by decide), fun _ => ⟨L.1, fun _ => ⟨fun c => take (Or.inl c), fun c => ⟨fun c3 => ⟨fun c4 => keep c (fun _ => c4), fun c4 => take (Or.inr ⟨c3, c4⟩)⟩, fun c3 => keep c (fun z => absurd z c3)⟩⟩, fun c => absurd rfl c⟩⟩
  · dsimp only at h5 h2 hc hd hl h3 h4 hb
    subst h5 h2 h3 h4
    rw [f1.2.1]
    refine ⟨fun c => absurd c (by decide), fun _ => ⟨L.1, fun c => absurd ((p_eqI (by omega) (by omega)).mp c) (by omega), fun _ => ⟨_, L1.f45, L.k36, L.v36 (i := i) (by omega) rfl, ?_⟩⟩⟩
    rw [p_cl (by omega), f1.2.2.1.2.1]
    have hxd := hx.down (k := i) (by omega)
    have xh := (hx.1 i (by omega)).1
    have c1 : cnA a x (i + 1) = cnA a x i + (if x i < (aH a).length then 1 else 0) := rfl
    have c2' : csA a t x (i + 1) = csA a t x i + (if x i < (aH a).length then effN a t i * hRt (aH a) (x i) else 0) := rfl
    have c3' : ∀ j, usA a t x j (i + 1) = usA a t x j i + (if x i = j then effN a t i else 0) := fun _ => rfl
    have same : ¬ x i < (aH a).length → cnA a x (i + 1) = cnA a x i ∧ csA a t x (i + 1) = csA a t x i ∧ LIv m a t x i M1 := fun z => ⟨by rw [c1, if_neg z, Nat.add_zero], by rw [c2', if_neg z, Nat.add_zero], fun j hj => by rw [hl j hj, c3', if_neg (by omega), Nat.add_zero]⟩
    rcases hd with ⟨rfl, xi, ci⟩ | ⟨rfl, ci⟩
    · obtain ⟨q1, q2, q3⟩ := same (by omega)
      rw [ci, q1, q2]
      exact ⟨fun _ => fp_171 H f1 hi hxd hc q3 (by omega) (by decide) hb hn hch hk, fun c => absurd (show (-1 : Int32) < 0 by decide) c⟩
    · rw [ci]
      refine ⟨fun c => absurd c (nI_pos (by omega)), fun _ => ⟨fun c => ?_, fun c => ?_⟩⟩
      · have hge := (p_leI (by omega) (by omega)).mp c
        obtain ⟨q1, q2, q3⟩ := same (by omega)
        rw [q1, q2]
        exact fp_171 H f1 hi hxd hc q3 (by omega) (nI_1 _) hb hn hch hk
      · have lt : x i < (aH a).length := Nat.not_le.mp fun z => c ((p_leI (by omega) (by omega)).mpr z)
        obtain ⟨r1, r2, r3, r4⟩ := f1.rate lt
        have e34 := f1.2.2.2.1 i hi
        have hux := hl (x i) lt
        have hue := c3' (x i)
        rw [if_pos rfl] at hue
        have hle := hx.2 (x i) lt
        rw [show usedP (effN a t) x (x i) (i + 1) = usA a t x (x i) i + effN a t i from hue] at hle
        have V37 := L.v37 (i := x i) (by omega) rfl
        have V34 := L.v34 (i := i) (by omega) rfl
        refine ⟨_, L1.f46, L.k37, V37, _, L1.f43, L.k34, V34, V37, V34, _, L1.f19, L.k16, L.v16 (i := x i) (by omega) rfl, ?_⟩
        rw [p_cl (show x i < 2147483648 by omega), hux, e34, nI_add, rI_ne _ _ (show m + 34 ≠ m + 37 ∨ i ≠ x i by omega), rI_ne _ _ (show m + 16 ≠ m + 37 ∨ x i ≠ x i by omega), e34, r1, pk_mul, c1, if_pos lt, c2', if_pos lt, pk_m1, pk_sub (by omega), Nat.add_sub_cancel, show hHr (aH a) (x i) - usA a t x (x i) (i + 1) + effN a t i = hHr (aH a) (x i) - usA a t x (x i) i by omega]
        have c5 : Ch m [36, 37, 38] [48, 49] M1 (wI M1 (m + 37) (x i) (nI (hHr (aH a) (x i) - usA a t x (x i) i))) := Ch.wa 37 _ _ (by decide) (by decide) (by decide)
        refine fp_171 H (f1.ch c5 (by decide) (by decide) (by decide)) hi hxd (fun q hq => ?_) (fun j hj => ?_) (by omega) (nI_1 _) (hb.ch (rI_ne _ _ (by omega)) (rI_ne _ _ (by omega)) (fun q hq => rI_ne _ _ (by omega))) hn (hch.tr c5) hk
        · rw [rI_ne _ _ (by omega)]; exact hc q hq
        · by_cases e : j = x i
          · subst e; rw [rI_same]
          · rw [rI_ne _ _ (Or.inr e), hl j hj, c3', if_neg (Ne.symm e), Nat.add_zero]
theorem mo_plan (h : RM sh m a M) (t p : Int32) : wp_X12_plan sh M m t p (QM sh m M (opPlan a t p)) := by
  have hR := h
  obtain ⟨L, d1, d2, d3, d4, d5, d6, d7, d8⟩ := h
  unfold wp_X12_plan opPlan
  have hs := d2.1
  have hh := d4.1
  refine s12_isTongue (fun e _ => br0 ?_) (fun t' ht' e3 e2 => br1 ⟨L.1, s12_isPiece L d2 (fun e => br0 ?_) (fun i hi e1 e => br1 ?_)⟩)
  · rw [e]; exact QM.same hR
  · rw [e2, e]; exact QM.same hR
  · rw [e2, e]
    subst e1 e3
    have V38 := L.v38 (i := i) (by omega) rfl
    refine s12_findPlan hR ht' (fun M1 c1 r1 r2 r3 r4 => ⟨_, (c1.lm L).f47, L.k38, V38, ?_⟩)
    have hR1 := hR.scr c1 (by decide) (by decide)
    have hpi := ((plC_ok a t').1.1 i hi).1
    rw [p_cl (by omega), r3 i hi, c1.fl 16 (by decide), d4.2.1]
    dsimp only
    refine ⟨fun c => ?_, fun c => ⟨V38, ?_⟩⟩
    · have := (p_leI (by omega) (by omega)).mp c
      rw [if_neg (by omega)]
      exact ⟨rfl, hR1, c1.2.2.fw⟩
    · have : plC a t' i < (aH a).length := Nat.not_le.mp fun z => c ((p_leI (by omega) (by omega)).mpr z)
      rw [if_pos this]
      exact ⟨rfl, hR1, c1.2.2.fw⟩
theorem mo_planned (h : RM sh m a M) (t w : Int32) : wp_X12_planned sh M m t w (QM sh m M (opPlanned a t w)) := by
  have hR := h
  obtain ⟨L, d1, d2, d3, d4, d5, d6, d7, d8⟩ := h
  unfold wp_X12_planned opPlanned
  refine s12_isTongue (fun e _ => br0 ?_) (fun t' ht' e3 e2 => br1 (s12_in (fun e => br0 ?_) (fun e4 e5 => br1 ⟨L.1, ?_⟩)))
  · rw [e]; exact QM.same hR
  · rw [e2]
    dsimp only
    rw [iteP_f (show ¬ inR w 0 2 from e)]; exact QM.same hR
  · rw [e2]
    subst e3
    dsimp only
    rw [iteP_t (show inR w 0 2 from ⟨e4, e5⟩)]
    refine s12_findPlan hR ht' (fun M1 c1 r1 r2 r3 r4 => ?_)
    have hR1 := hR.scr c1 (by decide) (by decide)
    refine ⟨fun c => ?_, fun c => ⟨fun c2 => ?_, fun c2 => ?_⟩⟩
    · rw [if_pos c, r1]; exact ⟨rfl, hR1, c1.2.2.fw⟩
    · rw [if_neg c, if_pos c2, r2]; exact ⟨rfl, hR1, c1.2.2.fw⟩
    · rw [if_neg c, if_neg c2, r4]; exact ⟨rfl, hR1, c1.2.2.fw⟩
end MPl
