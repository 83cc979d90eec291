/-! texts and memory -/
abbrev txAt (a : AbS) (i t : Nat) : TxT := (pcAt a i).2.2.2.2 t
def pcSet (p : PcT) (t : Nat) (x : TxT) : PcT := (p.1, p.2.1, p.2.2.1, p.2.2.2.1, fun s => if s = t then x else p.2.2.2.2 s)
def setTx (l : List PcT) (i t : Nat) (x : TxT) : List PcT := l.set i (pcSet (l.getD i pc0) t x)
noncomputable def whyNo (a : AbS) (p t h : Int32) : Int32 := match p_ix (aS a).length p, p_ix 3 t, p_ix (aH a).length h with
  | some i, some t', some j => if (pcAt a i).1 = 1 then -3 else iteP (kn (hnAt a j) t') 0 (-3)
  | _, _, _ => -1
def othHoles (p t : List Int32) : Prop := ∃ n, 100 ≤ n ∧ n < 104 ∧ p.count (nI n) ≠ t.count (nI n)
def lacks (tm : List TmT) (p t : List Int32) (tg : Int32) : Prop := ∃ i k, i < p.length ∧ k < tm.length ∧ tmKey tm k (p.getD i 0) tg ∧ t.count (tm.getD k tm0).2.2 = 0
noncomputable def fltOf (tm : List TmT) (lim : Int32) (p : PcT) (x : TxT) (tg : Int32) : Int32 := iteP (othHoles p.2.1 x.2.2) 1 (iteP (lacks tm p.2.1 x.2.2 tg) 2 (iteP (p.1 = 2 ∧ lim < nI x.2.2.length) 3 0))
noncomputable def opWrite (a : AbS) (p t h : Int32) : Int32 × AbS := iteP (whyNo a p t h < 0) (whyNo a p t h, a) (if (aD a).length = 0 then (-6, a) else iteP (∃ x ∈ aD a, isW x) (-3, a) (match p_ix (aS a).length p, p_ix 3 t with
  | some i, some t' => (nI (aD a).length, sS (sD a []) (setTx (aS a) i t' (1, h, aD a)))
  | _, _ => (nI (aD a).length, sD a [])))
noncomputable def opReview (a : AbS) (p t h : Int32) : Int32 × AbS := match p_ix (aS a).length p, p_ix 3 t, p_ix (aH a).length h with
  | some i, some t', some j => iteP ((txAt a i t').1 = 1 ∨ (txAt a i t').1 = 3) (iteP (kn (hnAt a j) t') (if (txAt a i t').2.1 = h then (-7, a) else iteP (0 < (fltOf (aT a) (aL a) (pcAt a i) (txAt a i t') t).toInt) (-10 - fltOf (aT a) (aL a) (pcAt a i) (txAt a i t') t, a) (nI (remL (aM a) (t, (pcAt a i).2.1, (txAt a i t').2.2)).length, sM (sS a (setTx (aS a) i t' (2, (txAt a i t').2))) (remL (aM a) (t, (pcAt a i).2.1, (txAt a i t').2.2)))) (-3, a)) (-4, a)
  | _, _, _ => (-1, a)
def nearA (a : AbS) (i : Nat) (t : Int32) : Option (Nat × Nat) := nearK (aM a) (pcAt a i).2.1 t (aM a).length
noncomputable def opReuse (a : AbS) (p t h : Int32) : Int32 × AbS := iteP (whyNo a p t h < 0) (whyNo a p t h, a) (match p_ix (aS a).length p, p_ix 3 t with
  | some i, some t' => (match nearA a i t with
    | none => (-5, a)
    | some (k, _) => (nI ((aM a).getD k en0).2.2.length, sS a (setTx (aS a) i t' (1, h, ((aM a).getD k en0).2.2))))
  | _, _ => (-1, a))
def opText (a : AbS) (p t w : Int32) : Int32 × AbS := (match p_ix (aS a).length p, p_ix 3 t with
  | some i, some t' => if w = 0 then (txAt a i t').1 else if w = 1 then (txAt a i t').2.1 else if w = 2 then nI (txAt a i t').2.2.length else if w < 10 then -1 else rowAt (txAt a i t').2.2 (w - 10)
  | _, _ => -1, a)
noncomputable def opFault (a : AbS) (p t : Int32) : Int32 × AbS := (match p_ix (aS a).length p, p_ix 3 t with
  | some i, some t' => if (txAt a i t').1 = 0 then -5 else fltOf (aT a) (aL a) (pcAt a i) (txAt a i t') t
  | _, _ => -1, a)
section OpsB
variable {sh : gh_Sh} {g : Nat} {a : AbS} {M : gh_M}
theorem book_text {sb i t : Nat} {M' : gh_M} {l : List PcT} {x : TxT} (B : bookIs M sb l) (hi : i < l.length) (ht : t < 3) (f : Fr (sb + 2 + 13 * i + 4 + 3 * t) (sb + 2 + 13 * i + 4 + 3 * t + 3) M M') (h : textIs M' (sb + 2 + 13 * i + 4 + 3 * t) x) : bookIs M' sb (setTx l i t x) := by
  have hl := B.1
  unfold setTx
  refine ⟨by simpa using B.1, by rw [f.I (by omega), B.2.1]; simp, fun k hk => ?_⟩
  simp at hk
  rw [p_set_getD hk]
  by_cases e : k = i
  · subst e
    rw [if_pos rfl]
    have P := B.2.2 k hk
    refine ⟨(f.I (by omega) _).trans P.1, P.2.1.fr f (by omega), (f.I (by omega) _).trans P.2.2.1, (f.I (by omega) _).trans P.2.2.2.1, fun s hs => ?_⟩
    show textIs M' _ (if s = t then x else ((l.getD k pc0).2.2.2.2 s))
    by_cases es : s = t
    · subst es; rw [if_pos rfl]; exact h
    · rw [if_neg es]; exact (P.2.2.2.2 s hs).fr f (by omega)
  · rw [if_neg e]
    exact (B.2.2 k hk).fr f (by omega)
theorem sX_textAt {sb nb : Nat} {σ τ : Nat → Nat} {p t : Int32} {post : Option Nat → gh_M → Prop} (L : LCl sh M g sb nb σ τ) (D : RCd M g sb nb σ τ a) (h : post (match p_ix (aS a).length p, p_ix 3 t with
  | some i, some t' => some (sb + 2 + 13 * i + 4 + 3 * t')
  | _, _ => none) M) : wp_X11_textAt sh M g p t post := by
  unfold wp_X11_textAt
  have hl := D.2.1.1
  refine ⟨L.1.1, _, L.e9, L.sb.1, s0_at L.sb D.2.1 ⟨fun c => ?_, fun q c => ?_⟩⟩
  · cases hx : p_ix (aS a).length p with
    | none => rw [hx] at h; exact h
    | some i => rw [hx] at c; cases c
  · cases hx : p_ix (aS a).length p with
    | none => rw [hx] at c; cases c
    | some i =>
      rw [hx] at c h
      cases c
      obtain ⟨hi, -⟩ := p_ix_some hx (by omega)
      have Lp := L.lp (i := i) (by omega)
      refine ⟨Lp.1, s5_textIn Lp ?_⟩
      cases hy : p_ix 3 t with
      | none => rw [hy] at h; exact h
      | some t' => rw [hy] at h; exact h
theorem sX_why {sb nb : Nat} {σ τ : Nat → Nat} {p t x : Int32} {post : Int32 → gh_M → Prop} (L : LCl sh M g sb nb σ τ) (D : RCd M g sb nb σ τ a) (h : post (whyNo a p t x) M) : wp_X11_whyNoWriting sh M g p t x post := by
  unfold wp_X11_whyNoWriting
  unfold whyNo at h
  have hl := D.2.1.1
  have e4 : rR M g 4 = some (g + 13) := L.1.2.2.2.2.2.1
  have Lh := L.2.2.2.2.2.1
  have H := D.2.2.2.1
  have hh := H.1
  refine ⟨L.1.1, _, L.e9, L.sb.1, s0_at L.sb D.2.1 ⟨fun c => ?_, fun q c => ?_⟩⟩
  · cases hx : p_ix (aS a).length p with
    | none => rw [hx] at h; exact h
    | some i => rw [hx] at c; cases c
  · cases hx : p_ix (aS a).length p with
    | none => rw [hx] at c; cases c
    | some i =>
      rw [hx] at c h
      cases c
      obtain ⟨hi, -⟩ := p_ix_some hx (by omega)
      have Lp := L.lp (i := i) (by omega)
      refine s11_isTongue ⟨fun c2 => ?_, fun c2 => ?_⟩
      · rw [b2i_0] at c2
        cases hy : p_ix 3 t with
        | none => rw [hy] at h; exact h
        | some t' => obtain ⟨h1, rfl⟩ := p_ix_some hy (by decide); exact absurd (isT_nI h1) c2
      · rw [b2i_n0] at c2
        obtain ⟨t', ht', rfl⟩ : ∃ t', t' < 3 ∧ t = nI t' := (isT_ix t).resolve_left (fun z => z c2)
        rw [p_ix_nI ht' (by decide)] at h
        refine ⟨_, e4, Lh.1, s2_has Lh H ⟨fun c3 => ?_, fun c3 => ?_⟩⟩
        · cases hz : p_ix (aH a).length x with
          | none => rw [hz] at h; exact h
          | some j => rw [hz] at c3; exact absurd c3 (show ¬ (1 : Int32) = 0 by decide)
        · cases hz : p_ix (aH a).length x with
          | none => rw [hz] at c3; exact absurd rfl c3
          | some j =>
            rw [hz] at h
            obtain ⟨hj, rfl⟩ := p_ix_some hz (by omega)
            dsimp only at h
            refine ⟨Lp.1, s5_kind Lp (D.2.1.2.2 i hi) ⟨fun c4 => ?_, fun c4 => ⟨_, e4, Lh.1, s2_knows hj ht' Lh H ⟨fun c5 => ?_, fun c5 => ?_⟩⟩⟩⟩
            · unfold wp_X11_whyNoWriting_56; rw [if_pos c4] at h; exact h
            · rw [b2i_0] at c5; unfold wp_X11_whyNoWriting_56; rw [if_neg c4, iteP_f c5] at h; exact h
            · rw [b2i_n0] at c5; rw [if_neg c4, iteP_t c5] at h; exact h
theorem whyNo_ok {p t x : Int32} (h : ¬ whyNo a p t x < 0) (hl : (aS a).length < 1000) (hh : (aH a).length < 1000) : ∃ i t' j, i < (aS a).length ∧ p = nI i ∧ t' < 3 ∧ t = nI t' ∧ j < (aH a).length ∧ x = nI j ∧ (pcAt a i).1 ≠ 1 ∧ kn (hnAt a j) t' ∧ whyNo a p t x = 0 := by
  unfold whyNo at h ⊢
  cases hx : p_ix (aS a).length p with
  | none => rw [hx] at h; exact absurd (show (-1 : Int32) < 0 by decide) h
  | some i =>
    cases hy : p_ix 3 t with
    | none => rw [hx, hy] at h; exact absurd (show (-1 : Int32) < 0 by decide) h
    | some t' =>
      cases hz : p_ix (aH a).length x with
      | none => rw [hx, hy, hz] at h; exact absurd (show (-1 : Int32) < 0 by decide) h
      | some j =>
        rw [hx, hy, hz] at h
        dsimp only at h ⊢
        obtain ⟨h1, h2⟩ := p_ix_some hx (by omega)
        obtain ⟨h3, h4⟩ := p_ix_some hy (by decide)
        obtain ⟨h5, h6⟩ := p_ix_some hz (by omega)
        by_cases c : (pcAt a i).1 = 1
        · rw [if_pos c] at h; exact absurd (show (-3 : Int32) < 0 by decide) h
        · rw [if_neg c] at h
          by_cases c2 : kn (hnAt a j) t'
          · exact ⟨i, t', j, h1, h2, h3, h4, h5, h6, c, c2, by rw [if_neg c, iteP_t c2]⟩
          · rw [iteP_f c2] at h; exact absurd (show (-3 : Int32) < 0 by decide) h
theorem cl_write (h : RC sh g a M) (p t x : Int32) : wp_X11_write sh M g p t x (QC sh g M (opWrite a p t x)) := by
  have hR := h
  obtain ⟨sb, nb, σ, τ, L, D⟩ := h
  unfold wp_X11_write opWrite
  have e0 := L.1.2.1
  have Lr := L.2.1
  have hl := D.1.1
  have hls := D.2.1.1
  have hlh := D.2.2.2.1.1
  have hs := L.1.2.2.2.2.2.2.2.2.2.2.2.2
  refine ⟨L.1.1, sX_why L D ⟨fun c => ⟨_, e0, Lr.1, s7_size Lr D.1 ⟨fun c2 => ?_, fun c2 => ⟨_, e0, Lr.1, s7_holdsAny isW p_wrd Lr D.1 ⟨fun c3 => ?_, fun c3 => ?_⟩⟩⟩⟩, fun c => ?_⟩⟩
  · have hn : ¬ whyNo a p t x < 0 := by rw [p_0le] at c; rw [p_lt0]; omega
    have hz : (aD a).length = 0 := (p_eqI (b := 0) (by omega) (by omega)).mp c2
    rw [iteP_f hn, if_pos hz]; exact QC.same hR
  · have hn : ¬ whyNo a p t x < 0 := by rw [p_0le] at c; rw [p_lt0]; omega
    have hz : ¬ (aD a).length = 0 := fun z => c2 (by rw [z]; rfl)
    rw [b2i_0] at c3
    obtain ⟨i, t', j, hi, rfl, ht', rfl, hj, rfl, hk, hkn, -⟩ := whyNo_ok hn (by omega) (by omega)
    rw [iteP_f hn, if_neg hz, iteP_f c3]
    refine sX_textAt L D ⟨fun c4 => ?_, fun q c4 => ?_⟩
    · rw [p_ix_nI hi (by omega), p_ix_nI ht' (by decide)] at c4; cases c4
    · rw [p_ix_nI hi (by omega), p_ix_nI ht' (by decide)] at c4
      cases c4
      obtain ⟨-, Lt⟩ := (L.lp (i := i) (by omega)).2.2.2.2.2.2 t' ht'
      refine ⟨_, e0, Lt.1, s10_becomeDraft Lt Lr D.1 (by omega) (fun M1 hF hT => ?_)⟩
      have hB := book_text D.2.1 hi ht' hF hT
      obtain ⟨L1, D1⟩ := RC.source L D (hF.mono (by omega) (by omega)) hB
      unfold wp_X11_write_69
      refine ⟨L.1.1, _, L1.1.2.1, Lr.1, s7_size L1.2.1 D1.1 ⟨_, L1.1.2.1, Lr.1, s7_clear L1.2.1 (fun M2 hF2 hR2 => ?_)⟩⟩
      obtain ⟨L2, D2⟩ := RC.draft L1 D1 hF2 hR2
      rw [p_ix_nI hi (by omega), p_ix_nI ht' (by decide)]
      exact ⟨rfl, ⟨sb, nb, σ, τ, L2, D2⟩, Fw.tr hF.fw hF2.fw (by omega) (by omega) (by omega) (by omega)⟩
  · have hn : ¬ whyNo a p t x < 0 := by rw [p_0le] at c; rw [p_lt0]; omega
    have hz : ¬ (aD a).length = 0 := fun z => c2 (by rw [z]; rfl)
    rw [b2i_n0] at c3
    rw [iteP_f hn, if_neg hz, iteP_t c3]; exact QC.same hR
  · have hn : whyNo a p t x < 0 := by rw [p_0le] at c; rw [p_lt0]; omega
    rw [iteP_t hn]; exact QC.same hR
theorem sX_holes {r1 r2 : Nat} {l1 l2 : List Int32} {post : Int32 → gh_M → Prop} (L1 : LRow sh M r1) (L2 : LRow sh M r2) (R1 : rowIs M r1 l1) (R2 : rowIs M r2 l2) (h : post (b2i (othHoles l1 l2)) M) : wp_X11_hasOtherHoles sh M r1 r2 post := by
  unfold wp_X11_hasOtherHoles wp_X11_hasOtherHoles_3
  have h1 := R1.1
  have h2 := R2.1
  refine ⟨fun v => v.2 = M ∧ ∃ n, 100 ≤ n ∧ n ≤ 104 ∧ v.1 = nI n ∧ ∀ k, 100 ≤ k → k < n → l1.count (nI k) = l2.count (nI k), fun v => 104 - v.1.toNatClampNeg, ⟨rfl, 100, by omega, by omega, rfl, fun k h1 h2 => by omega⟩, ?_⟩
  rintro ⟨x, M1⟩ ⟨rfl, n, hn1, hn2, hx, hr⟩
  dsimp only at hx ⊢
  subst hx
  unfold wb_X11_hasOtherHoles_3
  refine ⟨fun c => ?_, fun c => ?_⟩
  · have : n = 104 := by have := (p_leI (a := 104) (by decide) (by omega)).mp c; omega
    subst this
    rw [b2i_f] at h
    · exact h
    · rintro ⟨k, hk1, hk2, hk3⟩; exact hk3 (hr k hk1 hk2)
  · have hlt : n < 104 := by
      have : ¬ 104 ≤ n := fun z => c ((p_leI (a := 104) (by decide) (by omega)).mpr z)
      omega
    have q1 := List.count_le_length (a := nI n) (l := l1)
    have q2 := List.count_le_length (a := nI n) (l := l2)
    refine ⟨L1.1, s7_timesOf L1 R1 ⟨L2.1, s7_timesOf L2 R2 ⟨fun c2 => ?_, fun c2 => ?_⟩⟩⟩
    · rw [p_eqI (by omega) (by omega)] at c2
      refine ⟨⟨rfl, n + 1, by omega, by omega, nI_1 n, fun k hk1 hk2 => ?_⟩, p_m8 hlt (by decide)⟩
      by_cases e : k = n
      · subst e; exact c2
      · exact hr k hk1 (by omega)
    · rw [p_eqI (by omega) (by omega)] at c2
      rw [b2i_t ⟨n, hn1, hlt, c2⟩] at h; exact h
theorem sX_lacks {sb nb : Nat} {σ τ : Nat → Nat} {r1 r2 t : Nat} {l1 l2 : List Int32} {post : Int32 → gh_M → Prop} (L : LCl sh M g sb nb σ τ) (D : RCd M g sb nb σ τ a) (ht : t < 3) (L1 : LRow sh M r1) (L2 : LRow sh M r2) (R1 : rowIs M r1 l1) (R2 : rowIs M r2 l2) (h : post (b2i (lacks (aT a) l1 l2 (nI t))) M) : wp_X11_lacksTerm sh M g r1 r2 (nI t) post := by
  unfold wp_X11_lacksTerm wp_X11_lacksTerm_3
  have h1 := R1.1
  have h2 := R2.1
  have e5 : rR M g 5 = some (g + 17) := L.1.2.2.2.2.2.2.1
  have Lt := L.2.2.2.2.2.2.1
  have T := D.2.2.2.2.1
  refine ⟨fun v => v.2 = M ∧ ∃ i, i ≤ l1.length ∧ v.1 = nI i ∧ ∀ j k, j < i → k < (aT a).length → tmKey (aT a) k (l1.getD j 0) (nI t) → ¬ l2.count ((aT a).getD k tm0).2.2 = 0, fun v => 10 - v.1.toNatClampNeg, ⟨rfl, 0, by omega, rfl, fun j k hj => by omega⟩, ?_⟩
  rintro ⟨x, M1⟩ ⟨rfl, i, hi, hx, hr⟩
  dsimp only at hx ⊢
  subst hx
  unfold wb_X11_lacksTerm_3
  refine ⟨L1.1, s7_size L1 R1 ⟨fun c => ?_, fun c => s7_at L1 R1 ?_⟩⟩
  · rw [p_leI (by omega) (by omega)] at c
    rw [b2i_f] at h
    · exact h
    · rintro ⟨j, k, hj, hk, hk2, hc⟩; exact hr j k (by omega) hk hk2 hc
  · rw [p_leI (by omega) (by omega)] at c
    have hil : i < l1.length := by omega
    rw [rowAt_nI hil h1]
    have go : (∀ k, k < (aT a).length → tmKey (aT a) k (l1.getD i 0) (nI t) → ¬ l2.count ((aT a).getD k tm0).2.2 = 0) → ((M1 = M1 ∧ ∃ i_1, i_1 ≤ l1.length ∧ nI i + 1 = nI i_1 ∧ ∀ j k, j < i_1 → k < (aT a).length → tmKey (aT a) k (l1.getD j 0) (nI t) → ¬ l2.count ((aT a).getD k tm0).2.2 = 0) ∧ 10 - (nI i + 1).toNatClampNeg < 10 - (nI i).toNatClampNeg) := fun hq => by
      refine ⟨⟨rfl, i + 1, by omega, nI_1 i, fun j k hj hk hk2 => ?_⟩, p_m8 (by omega) (by decide)⟩
      by_cases e : j = i
      · subst e; exact hq k hk hk2
      · exact hr j k (by omega) hk hk2
    refine ⟨L.1.1, _, e5, Lt.1, s9_has ht Lt T ⟨fun c2 => ?_, fun c2 => ⟨_, e5, Lt.1, s9_own ht Lt T (fun v hv => ⟨L2.1, s7_timesOf L2 R2 ⟨fun c3 => ?_, fun c3 => ?_⟩⟩)⟩⟩⟩
    · rw [b2i_0] at c2
      unfold wp_X11_lacksTerm_52
      exact go (fun k hk hk2 => absurd ⟨k, hk, hk2⟩ c2)
    · rw [b2i_n0] at c2
      have q2 := List.count_le_length (a := v) (l := l2)
      have c4 : l2.count v = 0 := (p_eqI (b := 0) (by omega) (by omega)).mp c3
      rcases hv with ⟨k, hk, hk2, rfl⟩ | ⟨hn, -⟩
      · rw [b2i_t ⟨i, k, hil, hk, hk2, c4⟩] at h; exact h
      · exact absurd c2 hn
    · rw [b2i_n0] at c2
      unfold wp_X11_lacksTerm_52
      refine go (fun k hk hk2 c4 => ?_)
      rcases hv with ⟨k', hk', hk2', rfl⟩ | ⟨hn, -⟩
      · have : k = k' := T.1.2.2 k k' hk hk' (hk2.1.trans hk2'.1.symm) (hk2.2.trans hk2'.2.symm)
        subst this
        exact c3 (by rw [c4]; rfl)
      · exact absurd c2 hn
theorem sX_fault {sb nb : Nat} {σ τ : Nat → Nat} {p x t : Nat} {P : PcT} {X : TxT} {post : Int32 → gh_M → Prop} (L : LCl sh M g sb nb σ τ) (D : RCd M g sb nb σ τ a) (ht : t < 3) (Lp : LPiece sh M p) (Lx : LText sh M x) (hP : pieceIs M p P) (hX : textIs M x X) (h : post (fltOf (aT a) (aL a) P X (nI t)) M) : wp_X11_faultOf sh M g p x (nI t) post := by
  unfold wp_X11_faultOf
  unfold fltOf at h
  have hx10 := hX.2.2.1
  refine ⟨Lp.1, s5_signs Lp ⟨Lx.1, s10_signs Lx (sX_holes Lp.2.2.1 Lx.2.2 hP.2.1 hX.2.2 ⟨fun c => s5_signs Lp (s10_signs Lx ⟨L.1.1, sX_lacks L D ht Lp.2.2.1 Lx.2.2 hP.2.1 hX.2.2 ⟨fun c2 => s5_kind Lp hP ⟨fun c3 => s10_signs Lx ⟨Lx.2.2.1, s7_size Lx.2.2 hX.2.2 ⟨fun c4 => ?_, fun c4 => ?_⟩⟩, fun c3 => ?_⟩, fun c2 => ?_⟩⟩), fun c => ?_⟩)⟩⟩
  · rw [b2i_0] at c c2
    rw [D.2.2.2.2.2.1, p_le] at c4
    rw [iteP_f c, iteP_f c2, iteP_f (fun z => by have := z.2; rw [p_lt] at this; omega)] at h; exact h
  · rw [b2i_0] at c c2
    rw [D.2.2.2.2.2.1, p_le] at c4
    rw [iteP_f c, iteP_f c2, iteP_t ⟨c3, by rw [p_lt]; omega⟩] at h; exact h
  · rw [b2i_0] at c c2
    rw [iteP_f c, iteP_f c2, iteP_f (fun z => c3 z.1)] at h; exact h
  · rw [b2i_0] at c; rw [b2i_n0] at c2
    rw [iteP_f c, iteP_t c2] at h; exact h
  · rw [b2i_n0] at c
    rw [iteP_t c] at h; exact h
end OpsB
