/-! review, reuse, text, fault, nearest, memory, effort, release, many, keep, back -/
noncomputable def opNearest (a : AbS) (p t w : Int32) : Int32 × AbS := (match p_ix (aS a).length p, p_ix 3 t with
  | some i, some _ => iteP (inR w 0 2) (match nearA a i t with
    | none => -5
    | some (k, d) => if w = 0 then nI k else if w = 1 then nI d else nI ((aM a).getD k en0).2.2.length) (-1)
  | _, _ => -1, a)
def opMemory (a : AbS) (k w : Int32) : Int32 × AbS := (match p_ix (aM a).length k with
  | none => -1
  | some j => if w = 0 then ((aM a).getD j en0).1 else if w = 1 then nI ((aM a).getD j en0).2.1.length else if w = 2 then nI ((aM a).getD j en0).2.2.length else if (20 : Int32) ≤ w then (if w < 20 then -1 else rowAt ((aM a).getD j en0).2.2 (w - 20)) else (if w < 10 then -1 else rowAt ((aM a).getD j en0).2.1 (w - 10)), a)
def effD (o : Option (Nat × Nat)) (n : Nat) : Int32 := match o with
  | none => nI n
  | some (_, d) => if d = 0 then 1 else if d ≤ 2 then 2 else nI n
noncomputable def effA (a : AbS) (i t : Nat) : Int32 := iteP (¬ (pcAt a i).1 = 1 ∧ ¬ (txAt a i t).1 = 2) (effD (nearA a i (nI t)) (pcAt a i).2.1.length) 0
noncomputable def opEffort (a : AbS) (p t : Int32) : Int32 × AbS := (match p_ix (aS a).length p, p_ix 3 t with
  | some i, some t' => effA a i t'
  | _, _ => -1, a)
def opRelease (a : AbS) (t x : Int32) : Int32 × AbS := (match p_ix 3 t with
  | none => -1
  | some t' => if x.toInt < 0 then -5 else relAt (aS a) t' 9 0 x.toInt.toNat, a)
def stN (a : AbS) (st : Int32) : Int32 := nI (sumN (fun i => cnt3 (fun t => decide ((((aS a).getD i pc0).2.2.2.2 t).1 = st)) 3) (aS a).length)
def opMany (a : AbS) (w : Int32) : Int32 × AbS := (if w = 0 then nI (aS a).length else if w = 1 then nI (aN a).length else if w = 2 then nI (aD a).length else if w = 3 then nI (aH a).length else if w = 4 then nI (aT a).length else if w = 5 then nI (aM a).length else if w = 6 then stN a 1 else if w = 7 then stN a 2 else if w = 8 then stN a 3 else (match p_ix 3 (w - 9) with
  | none => -1
  | some t => nI (sumN (fun i => (relOf ((aS a).getD i pc0) t).length) (aS a).length)), a)
def opKeep (a : AbS) : Int32 × AbS := (1, sK a (some (aS a, aM a)))
def opBack (a : AbS) : Int32 × AbS := match aK a with
  | none => (-5, a)
  | some x => (1, sM (sS a x.1) x.2)
section OpsC
variable {sh : gh_Sh} {g : Nat} {a : AbS} {M : gh_M}
theorem fltOf_rng (tm : List TmT) (lim : Int32) (p : PcT) (x : TxT) (t : Int32) : fltOf tm lim p x t = 0 ∨ fltOf tm lim p x t = 1 ∨ fltOf tm lim p x t = 2 ∨ fltOf tm lim p x t = 3 := by
  unfold fltOf
  by_cases c1 : othHoles p.2.1 x.2.2
  · rw [iteP_t c1]; simp
  · rw [iteP_f c1]
    by_cases c2 : lacks tm p.2.1 x.2.2 t
    · rw [iteP_t c2]; simp
    · rw [iteP_f c2]
      by_cases c3 : p.1 = 2 ∧ lim < nI x.2.2.length
      · rw [iteP_t c3]; simp
      · rw [iteP_f c3]; simp
theorem cl_review (h : RC sh g a M) (p t x : Int32) : wp_X11_review sh M g p t x (QC sh g M (opReview a p t x)) := by
  have hR := h
  obtain ⟨sb, nb, σ, τ, L, D⟩ := h
  unfold wp_X11_review opReview
  have hls := D.2.1.1
  have hlh := D.2.2.2.1.1
  have e4 : rR M g 4 = some (g + 13) := L.1.2.2.2.2.2.1
  have Lh := L.2.2.2.2.2.1
  have H := D.2.2.2.1
  have hs := L.1.2.2.2.2.2.2.2.2.2.2.2.2
  refine ⟨L.1.1, _, L.e9, L.sb.1, s0_at L.sb D.2.1 (sX_textAt L D ?_)⟩
  cases hx : p_ix (aS a).length p with
  | none => exact ⟨fun _ => QC.same hR, fun q c => by cases c⟩
  | some i =>
    obtain ⟨hi, rfl⟩ := p_ix_some hx (by omega)
    refine ⟨fun c => (by cases c), fun q c => ?_⟩
    cases c
    cases hy : p_ix 3 t with
    | none => exact ⟨fun _ => QC.same hR, fun q c => by cases c⟩
    | some t' =>
      obtain ⟨ht', rfl⟩ := p_ix_some hy (by decide)
      refine ⟨fun c => (by cases c), fun q c => ?_⟩
      cases c
      dsimp only
      have Lp := L.lp (i := i) (by omega)
      have P := D.2.1.2.2 i hi
      obtain ⟨-, Lt⟩ := Lp.2.2.2.2.2.2 t' ht'
      have T := P.2.2.2.2 t' ht'
      refine ⟨_, e4, Lh.1, s2_has Lh H ⟨fun c => ?_, fun c => ?_⟩⟩
      · cases hz : p_ix (aH a).length x with
        | none => exact QC.same hR
        | some j => rw [hz] at c; exact absurd c (show ¬ (1 : Int32) = 0 by decide)
      · cases hz : p_ix (aH a).length x with
        | none => rw [hz] at c; exact absurd rfl c
        | some j =>
          obtain ⟨hj, rfl⟩ := p_ix_some hz (by omega)
          dsimp only
          refine ⟨Lt.1, s10_waits Lt T ⟨fun c2 => ?_, fun c2 => ⟨_, e4, Lh.1, s2_knows hj ht' Lh H ⟨fun c3 => ?_, fun c3 => s10_writer Lt T ⟨fun c4 => ?_, fun c4 => sX_fault L D ht' Lp Lt P T ⟨fun c5 => s10_becomeReviewed Lt T (fun M1 hF1 hT1 => ?_), fun c5 => ?_⟩⟩⟩⟩⟩⟩
          · rw [b2i_0] at c2; rw [iteP_f c2]; exact QC.same hR
          · rw [b2i_n0] at c2; rw [b2i_0] at c3; rw [iteP_t c2, iteP_f c3]; exact QC.same hR
          · rw [b2i_n0] at c2 c3; rw [iteP_t c2, iteP_t c3, if_pos c4]; exact QC.same hR
          · rw [b2i_n0] at c2 c3; rw [p_le0] at c5
            rw [iteP_t c2, iteP_t c3, if_neg c4, iteP_f (Int.not_lt.mpr c5)]
            have hB := book_text D.2.1 hi ht' hF1 hT1
            obtain ⟨L1, D1⟩ := RC.source L D (hF1.mono (by omega) (by omega)) hB
            have Lp1 := Lp.fr hF1.2.2
            have Lt1 := Lt.fr hF1.2.2
            have R1 : rowIs M1 (sb + 2 + 13 * i + 1) (pcAt a i).2.1 := P.2.1.fr hF1 (by omega)
            refine ⟨_, L1.1.2.2.2.2.2.2.2.1, Lp.1, s5_signs Lp1 (s10_signs Lt1 ⟨L1.2.2.2.2.2.2.2.1.1, s4_remember L1.2.2.2.2.2.2.2.1 D1.2.2.2.2.2.2.1 Lp1.2.2.1 Lt1.2.2 R1 hT1.2.2 (by omega) (by omega) (fun M2 σ' hF2 L2m B2 => ?_)⟩)⟩
            obtain ⟨L2, D2⟩ := RC.mem L1 D1 hF2 L2m B2
            refine ⟨_, L2.1.2.2.2.2.2.2.2.1, L2m.1, s4_count L2m B2 ⟨rfl, ⟨sb, nb, σ', τ, L2, D2⟩, Fw.tr hF1.fw hF2 (by omega) (by omega) (by omega) (by omega)⟩⟩
          · rw [b2i_n0] at c2 c3; rw [p_le0] at c5
            rw [iteP_t c2, iteP_t c3, if_neg c4, iteP_t (Int.not_le.mp c5)]; exact QC.same hR
theorem sX_closest {sb nb : Nat} {σ τ : Nat → Nat} {i : Nat} {t : Int32} {post : Option Nat → gh_M → Prop} (L : LCl sh M g sb nb σ τ) (D : RCd M g sb nb σ τ a) (hi : i < (aS a).length) (h : ∀ M', Fr (g + 4) (g + 5) M M' → post ((nearA a i t).map (fun x => g + 22 + 2 + 5 * σ x.1)) M') : wp_X11_closestEntry sh M g (sb + 2 + 13 * i) t post := by
  unfold wp_X11_closestEntry
  have hls := D.2.1.1
  have hs := L.1.2.2.2.2.2.2.2.2.2.2.2.2
  have Lp := L.lp (i := i) (by omega)
  have P := D.2.1.2.2 i hi
  have e6 : rR M g 6 = some (g + 22) := L.1.2.2.2.2.2.2.2.1
  have Lm := L.2.2.2.2.2.2.2.1
  have Bm := D.2.2.2.2.2.2.1
  refine ⟨L.1.1, _, e6, Lp.1, s5_signs Lp ⟨_, L.1.2.2.1, Lm.1, s4_closest Lm Bm L.2.2.1 Lp.2.2.1 P.2.1 (by omega) (by omega) (fun M1 hF => ?_)⟩⟩
  have hF' : Fr (g + 4) (g + 5) M M1 := hF.mono (by omega) (by omega)
  refine s4_at (Lm.fr hF.2.2) (Bm.fr Lm hF (by omega)) ?_
  have := h M1 hF'
  unfold nearA at this
  cases hn : nearK (aM a) (pcAt a i).2.1 t (aM a).length with
  | none =>
    rw [hn] at this
    show post ((p_ix (aM a).length (-5)).map _) M1
    rw [show p_ix (aM a).length (-5) = none from if_neg (fun z => absurd z.1 (by decide))]
    exact this
  | some kd =>
    obtain ⟨k, d⟩ := kd
    rw [hn] at this
    have hk := (nearK_lt hn).1
    show post ((p_ix (aM a).length (nI k)).map _) M1
    rw [p_ix_nI hk (by have := Bm.1; omega)]
    exact this
theorem cl_reuse (h : RC sh g a M) (p t x : Int32) : wp_X11_reuse sh M g p t x (QC sh g M (opReuse a p t x)) := by
  have hR := h
  obtain ⟨sb, nb, σ, τ, L, D⟩ := h
  unfold wp_X11_reuse opReuse
  have hls := D.2.1.1
  have hlh := D.2.2.2.1.1
  have hs := L.1.2.2.2.2.2.2.2.2.2.2.2.2
  refine ⟨L.1.1, sX_why L D ⟨fun c => ?_, fun c => ?_⟩⟩
  · have hn : ¬ whyNo a p t x < 0 := by rw [p_0le] at c; rw [p_lt0]; omega
    rw [iteP_f hn]
    obtain ⟨i, t', j, hi, rfl, ht', rfl, hj, rfl, hk, hkn, -⟩ := whyNo_ok hn (by omega) (by omega)
    refine ⟨_, L.e9, L.sb.1, s0_at L.sb D.2.1 ?_⟩
    rw [p_ix_nI hi (by omega), p_ix_nI ht' (by decide)]
    refine ⟨_, rfl, sX_closest L D hi (fun M1 hF => ?_)⟩
    obtain ⟨L1, D1⟩ := RC.ruler L D hF
    refine sX_textAt L1 D1 ?_
    rw [p_ix_nI hi (by omega), p_ix_nI ht' (by decide)]
    dsimp only
    cases hn : nearA a i (nI t') with
    | none => exact ⟨fun _ => ⟨rfl, ⟨sb, nb, σ, τ, L1, D1⟩, hF.fw.mono (by omega) (by omega)⟩, fun q c => by cases c⟩
    | some kd =>
      obtain ⟨k, d⟩ := kd
      have hk2 := (nearK_lt hn).1
      refine ⟨fun c => (by cases c), fun q c => ?_⟩
      cases c
      refine ⟨fun c => (by cases c), fun q c => ?_⟩
      cases c
      dsimp only
      have Lm := L1.2.2.2.2.2.2.2.1
      have Bm := D1.2.2.2.2.2.2.1
      have hm20 := Bm.1
      obtain ⟨-, a2⟩ := Lm.2.2.2.2.1 k (by omega)
      have Le := Lm.2.2.2.2.2.2 (σ k) a2
      have E := Bm.2.2 k hk2
      obtain ⟨-, Lt⟩ := (L1.lp (i := i) (by omega)).2.2.2.2.2.2 t' ht'
      refine ⟨Le.1, s1_textSigns Le ⟨Lt.1, s10_becomeDraft Lt Le.2.2.2.2 E.2.2 (by omega) (fun M2 hF2 hT => ?_)⟩⟩
      have hB := book_text D1.2.1 hi ht' hF2 hT
      obtain ⟨L2, D2⟩ := RC.source L1 D1 (hF2.mono (by omega) (by omega)) hB
      have Lt2 := Lt.fr hF2.2.2
      exact s10_signs Lt2 ⟨Lt2.2.2.1, s7_size Lt2.2.2 hT.2.2 ⟨rfl, ⟨sb, nb, σ, τ, L2, D2⟩, Fw.tr hF.fw hF2.fw (by omega) (by omega) (by omega) (by omega)⟩⟩
  · have hn : whyNo a p t x < 0 := by rw [p_0le] at c; rw [p_lt0]; omega
    rw [iteP_t hn]; exact QC.same hR
theorem cl_text (h : RC sh g a M) (p t w : Int32) : wp_X11_text sh M g p t w (QC sh g M (opText a p t w)) := by
  have hR := h
  obtain ⟨sb, nb, σ, τ, L, D⟩ := h
  unfold wp_X11_text opText
  have hls := D.2.1.1
  refine ⟨L.1.1, sX_textAt L D ?_⟩
  cases hx : p_ix (aS a).length p with
  | none => exact ⟨fun _ => QC.same hR, fun q c => by cases c⟩
  | some i =>
    obtain ⟨hi, rfl⟩ := p_ix_some hx (by omega)
    cases hy : p_ix 3 t with
    | none => exact ⟨fun _ => QC.same hR, fun q c => by cases c⟩
    | some t' =>
      obtain ⟨ht', rfl⟩ := p_ix_some hy (by decide)
      refine ⟨fun c => (by cases c), fun q c => ?_⟩
      cases c
      dsimp only
      have Lp := L.lp (i := i) (by omega)
      have P := D.2.1.2.2 i hi
      obtain ⟨-, Lt⟩ := Lp.2.2.2.2.2.2 t' ht'
      have T := P.2.2.2.2 t' ht'
      refine ⟨fun c => ⟨Lt.1, s10_state Lt T ?_⟩, fun c => ⟨fun c2 => ⟨Lt.1, s10_writer Lt T ?_⟩, fun c2 => ⟨fun c3 => ⟨Lt.1, s10_signs Lt ⟨Lt.2.2.1, s7_size Lt.2.2 T.2.2 ?_⟩⟩, fun c3 => ⟨Lt.1, s10_signs Lt ⟨Lt.2.2.1, s7_askedFor Lt.2.2 T.2.2 ?_⟩⟩⟩⟩⟩
      · rw [if_pos c]; exact QC.same hR
      · rw [if_neg c, if_pos c2]; exact QC.same hR
      · rw [if_neg c, if_neg c2, if_pos c3]; exact QC.same hR
      · rw [if_neg c, if_neg c2, if_neg c3]; exact QC.same hR
theorem cl_fault (h : RC sh g a M) (p t : Int32) : wp_X11_fault sh M g p t (QC sh g M (opFault a p t)) := by
  have hR := h
  obtain ⟨sb, nb, σ, τ, L, D⟩ := h
  unfold wp_X11_fault opFault
  have hls := D.2.1.1
  refine ⟨L.1.1, _, L.e9, L.sb.1, s0_at L.sb D.2.1 (sX_textAt L D ?_)⟩
  cases hx : p_ix (aS a).length p with
  | none => exact ⟨fun _ => QC.same hR, fun q c => by cases c⟩
  | some i =>
    obtain ⟨hi, rfl⟩ := p_ix_some hx (by omega)
    refine ⟨fun c => (by cases c), fun q c => ?_⟩
    cases c
    cases hy : p_ix 3 t with
    | none => exact ⟨fun _ => QC.same hR, fun q c => by cases c⟩
    | some t' =>
      obtain ⟨ht', rfl⟩ := p_ix_some hy (by decide)
      refine ⟨fun c => (by cases c), fun q c => ?_⟩
      cases c
      dsimp only
      have Lp := L.lp (i := i) (by omega)
      have P := D.2.1.2.2 i hi
      obtain ⟨-, Lt⟩ := Lp.2.2.2.2.2.2 t' ht'
      have T := P.2.2.2.2 t' ht'
      refine ⟨Lt.1, s10_state Lt T ⟨fun c => ?_, fun c => sX_fault L D ht' Lp Lt P T ?_⟩⟩
      · rw [if_pos c]; exact QC.same hR
      · rw [if_neg c]; exact QC.same hR
theorem cl_nearest (h : RC sh g a M) (p t w : Int32) : wp_X11_nearest sh M g p t w (QC sh g M (opNearest a p t w)) := by
  have hR := h
  obtain ⟨sb, nb, σ, τ, L, D⟩ := h
  unfold wp_X11_nearest opNearest
  have hls := D.2.1.1
  have hs := L.1.2.2.2.2.2.2.2.2.2.2.2.2
  refine ⟨L.1.1, _, L.e9, L.sb.1, s0_at L.sb D.2.1 ?_⟩
  cases hx : p_ix (aS a).length p with
  | none => exact ⟨fun _ => QC.same hR, fun q c => by cases c⟩
  | some i =>
    obtain ⟨hi, rfl⟩ := p_ix_some hx (by omega)
    refine ⟨fun c => (by cases c), fun q c => ?_⟩
    cases c
    dsimp only
    refine s11_isTongue ⟨fun c => ?_, fun c => ?_⟩
    · rw [b2i_0] at c
      cases hy : p_ix 3 t with
      | none => exact QC.same hR
      | some t' => obtain ⟨h1, rfl⟩ := p_ix_some hy (by decide); exact absurd (isT_nI h1) c
    · rw [b2i_n0] at c
      obtain ⟨t', ht', rfl⟩ : ∃ t', t' < 3 ∧ t = nI t' := (isT_ix t).resolve_left (fun z => z c)
      rw [p_ix_nI ht' (by decide)]
      dsimp only
      have Lp := L.lp (i := i) (by omega)
      have P := D.2.1.2.2 i hi
      have e6 : rR M g 6 = some (g + 22) := L.1.2.2.2.2.2.2.2.1
      have Lm := L.2.2.2.2.2.2.2.1
      have Bm := D.2.2.2.2.2.2.1
      have hm20 := Bm.1
      refine s11_isIn ⟨fun c2 => ?_, fun c2 => ⟨_, e6, Lp.1, s5_signs Lp ⟨_, L.1.2.2.1, Lm.1, s4_closest Lm Bm L.2.2.1 Lp.2.2.1 P.2.1 (by omega) (by omega) (fun M1 hF => ?_)⟩⟩⟩
      · rw [b2i_0] at c2; rw [iteP_f (c := inR w 0 2) c2]; exact QC.same hR
      · rw [b2i_n0] at c2; rw [iteP_t (c := inR w 0 2) c2]
        have hF' : Fr (g + 4) (g + 5) M M1 := hF.mono (by omega) (by omega)
        obtain ⟨L1, D1⟩ := RC.ruler L D hF'
        have fw1 : Fw g (g + 544) M M1 := hF'.fw.mono (by omega) (by omega)
        refine ⟨_, L1.1.2.2.2.2.2.2.2.1, Lm.1, s4_at L1.2.2.2.2.2.2.2.1 D1.2.2.2.2.2.2.1 ?_⟩
        show (_ → QC sh g M (match nearA a i (nI t') with
          | none => -5
          | some (k, d) => if w = 0 then nI k else if w = 1 then nI d else nI ((aM a).getD k en0).2.2.length, a) _ M1) ∧ _
        unfold nearA
        cases hn : nearK (aM a) (pcAt a i).2.1 (nI t') (aM a).length with
        | none =>
          have e5 : p_ix (aM a).length (nrF none) = none := if_neg (fun z => absurd z.1 (by decide))
          rw [e5]
          exact ⟨fun _ => ⟨rfl, ⟨sb, nb, σ, τ, L1, D1⟩, fw1⟩, fun q c => by cases c⟩
        | some kd =>
          obtain ⟨k, d⟩ := kd
          obtain ⟨hk, hd, -⟩ := nearK_lt hn
          have e5 : p_ix (aM a).length (nrF (some (k, d))) = some k := p_ix_nI hk (by omega)
          rw [e5]
          refine ⟨fun c => (by cases c), fun q c => ?_⟩
          cases c
          have Lm1 := L1.2.2.2.2.2.2.2.1
          have Bm1 := D1.2.2.2.2.2.2.1
          obtain ⟨-, a2⟩ := Lm1.2.2.2.2.1 k (by omega)
          have Le := Lm1.2.2.2.2.2.2 (σ k) a2
          have E := Bm1.2.2 k hk
          have Lp1 := L1.lp (i := i) (by omega)
          have P1 := D1.2.1.2.2 i hi
          dsimp only
          refine ⟨fun c => ?_, fun c => ⟨fun c3 => ⟨_, L1.1.2.2.1, s5_signs Lp1 ⟨Le.1, s1_pieceSigns Le ⟨L1.2.2.1.1, s8_between L1.2.2.1 Lp1.2.2.1 Le.2.2.1 P1.2.1 E.2.1 (by omega) (by omega) (fun M2 hF2 => ?_)⟩⟩⟩, fun c3 => ⟨Le.1, s1_textSigns Le ⟨Le.2.2.2.2.1, s7_size Le.2.2.2.2 E.2.2 ?_⟩⟩⟩⟩
          · rw [if_pos c]; exact ⟨rfl, ⟨sb, nb, σ, τ, L1, D1⟩, fw1⟩
          · rw [if_neg c, if_pos c3]
            have hF2' : Fr (g + 4) (g + 5) M1 M2 := hF2.mono (by omega) (by omega)
            obtain ⟨L2, D2⟩ := RC.ruler L1 D1 hF2'
            exact ⟨by rw [hd], ⟨sb, nb, σ, τ, L2, D2⟩, Fw.tr fw1 hF2'.fw (by omega) (by omega) (by omega) (by omega)⟩
          · rw [if_neg c, if_neg c3]; exact ⟨rfl, ⟨sb, nb, σ, τ, L1, D1⟩, fw1⟩
theorem cl_memory (h : RC sh g a M) (k w : Int32) : wp_X11_memory sh M g k w (QC sh g M (opMemory a k w)) := by
  have hR := h
  obtain ⟨sb, nb, σ, τ, L, D⟩ := h
  unfold wp_X11_memory opMemory
  have Lm := L.2.2.2.2.2.2.2.1
  have Bm := D.2.2.2.2.2.2.1
  have hm20 := Bm.1
  refine ⟨L.1.1, _, L.1.2.2.2.2.2.2.2.1, Lm.1, s4_at Lm Bm ?_⟩
  cases hx : p_ix (aM a).length k with
  | none => exact ⟨fun _ => QC.same hR, fun q c => by cases c⟩
  | some j =>
    obtain ⟨hj, rfl⟩ := p_ix_some hx (by omega)
    refine ⟨fun c => (by cases c), fun q c => ?_⟩
    cases c
    obtain ⟨-, a2⟩ := Lm.2.2.2.2.1 j (by omega)
    have Le := Lm.2.2.2.2.2.2 (σ j) a2
    have E := Bm.2.2 j hj
    dsimp only
    refine ⟨fun c => ⟨Le.1, s1_tongue Le E ?_⟩, fun c => ⟨fun c2 => ⟨Le.1, s1_pieceSigns Le ⟨Le.2.2.1.1, s7_size Le.2.2.1 E.2.1 ?_⟩⟩, fun c2 => ⟨fun c3 => ⟨Le.1, s1_textSigns Le ⟨Le.2.2.2.2.1, s7_size Le.2.2.2.2 E.2.2 ?_⟩⟩, fun c3 => ⟨fun c4 => ⟨Le.1, s1_textSigns Le ⟨Le.2.2.2.2.1, s7_askedFor Le.2.2.2.2 E.2.2 ?_⟩⟩, fun c4 => ⟨Le.1, s1_pieceSigns Le ⟨Le.2.2.1.1, s7_askedFor Le.2.2.1 E.2.1 ?_⟩⟩⟩⟩⟩⟩
    · rw [if_pos c]; exact QC.same hR
    · rw [if_neg c, if_pos c2]; exact QC.same hR
    · rw [if_neg c, if_neg c2, if_pos c3]; exact QC.same hR
    · rw [if_neg c, if_neg c2, if_neg c3, if_pos c4]; exact QC.same hR
    · rw [if_neg c, if_neg c2, if_neg c3, if_neg c4]; exact QC.same hR
theorem sX_effort {sb nb : Nat} {σ τ : Nat → Nat} {i t : Nat} {post : Int32 → gh_M → Prop} (L : LCl sh M g sb nb σ τ) (D : RCd M g sb nb σ τ a) (hi : i < (aS a).length) (ht : t < 3) (h : ∀ M', Fr (g + 4) (g + 5) M M' → post (effA a i t) M') : wp_X11_effortFor sh M g (sb + 2 + 13 * i) (nI t) post := by
  unfold wp_X11_effortFor
  have hls := D.2.1.1
  have hs := L.1.2.2.2.2.2.2.2.2.2.2.2.2
  have Lp := L.lp (i := i) (by omega)
  have P := D.2.1.2.2 i hi
  have hpl := P.2.1.1
  unfold effA at h
  refine ⟨Lp.1, s5_needsWork ht Lp P ⟨fun c => ?_, fun c => ⟨L.1.1, sX_closest L D hi (fun M1 hF => ?_)⟩⟩⟩
  · rw [b2i_0] at c
    have := h M (Fr.rf _ _ _)
    rw [iteP_f c] at this; exact this
  · rw [b2i_n0] at c
    rw [iteP_t c] at h
    obtain ⟨L1, D1⟩ := RC.ruler L D hF
    have Lp1 := L1.lp (i := i) (by omega)
    have P1 := D1.2.1.2.2 i hi
    cases hn : nearA a i (nI t) with
    | none =>
      rw [hn] at h
      exact ⟨fun _ => s5_signs Lp1 ⟨Lp1.2.2.1.1, s7_size Lp1.2.2.1 P1.2.1 (h M1 hF)⟩, fun q c => by cases c⟩
    | some kd =>
      obtain ⟨k, d⟩ := kd
      rw [hn] at h
      obtain ⟨hk, hd, -⟩ := nearK_lt hn
      refine ⟨fun c => (by cases c), fun q c => ?_⟩
      cases c
      have Lm1 := L1.2.2.2.2.2.2.2.1
      have Bm1 := D1.2.2.2.2.2.2.1
      have hm20 := Bm1.1
      obtain ⟨-, a2⟩ := Lm1.2.2.2.2.1 k (by omega)
      have Le := Lm1.2.2.2.2.2.2 (σ k) a2
      have E := Bm1.2.2 k hk
      have hdm := dist_max ((aS a).getD i pc0).2.1 ((aM a).getD k en0).2.1
      have hE := E.2.1.1
      dsimp only
      refine ⟨_, L1.1.2.2.1, s5_signs Lp1 ⟨Le.1, s1_pieceSigns Le ⟨L1.2.2.1.1, s8_between L1.2.2.1 Lp1.2.2.1 Le.2.2.1 P1.2.1 E.2.1 (by omega) (by omega) (fun M2 hF2 => ?_)⟩⟩⟩
      have hF2' : Fr (g + 4) (g + 5) M1 M2 := hF2.mono (by omega) (by omega)
      obtain ⟨L2, D2⟩ := RC.ruler L1 D1 hF2'
      have Lp2 := L2.lp (i := i) (by omega)
      have P2 := D2.2.1.2.2 i hi
      have fin := h M2 (Fr.tr hF hF2' (by omega) (by omega) (by omega) (by omega))
      unfold effD at fin
      dsimp only at fin
      rw [hd] at fin
      refine ⟨fun c2 => ?_, fun c2 => ⟨fun c3 => s5_signs Lp2 ⟨Lp2.2.2.1.1, s7_size Lp2.2.2.1 P2.2.1 ?_⟩, fun c3 => ?_⟩⟩
      · have c4 := (p_eqI (b := 0) (by omega) (by omega)).mp c2
        rw [if_pos c4] at fin; exact fin
      · have c4 : ¬ dist ((aS a).getD i pc0).2.1 ((aM a).getD k en0).2.1 = 0 := fun z => c2 (by rw [z]; rfl)
        have c5 := (p_ltI (a := 2) (by decide) (by omega)).mp c3
        rw [if_neg c4, if_neg (Nat.not_le.mpr c5)] at fin; exact fin
      · have c4 : ¬ dist ((aS a).getD i pc0).2.1 ((aM a).getD k en0).2.1 = 0 := fun z => c2 (by rw [z]; rfl)
        have c5 : ¬ 2 < dist ((aS a).getD i pc0).2.1 ((aM a).getD k en0).2.1 := fun z => c3 ((p_ltI (a := 2) (by decide) (by omega)).mpr z)
        rw [if_neg c4, if_pos (Nat.not_lt.mp c5)] at fin; exact fin
theorem cl_effort (h : RC sh g a M) (p t : Int32) : wp_X11_effort sh M g p t (QC sh g M (opEffort a p t)) := by
  have hR := h
  obtain ⟨sb, nb, σ, τ, L, D⟩ := h
  unfold wp_X11_effort opEffort wp_X11_effort_20
  have hls := D.2.1.1
  refine ⟨L.1.1, _, L.e9, L.sb.1, s0_at L.sb D.2.1 ?_⟩
  cases hx : p_ix (aS a).length p with
  | none => exact ⟨fun _ => QC.same hR, fun q c => by cases c⟩
  | some i =>
    obtain ⟨hi, rfl⟩ := p_ix_some hx (by omega)
    refine ⟨fun c => (by cases c), fun q c => ?_⟩
    cases c
    refine s11_isTongue ⟨fun c => ?_, fun c => ?_⟩
    · rw [b2i_0] at c
      cases hy : p_ix 3 t with
      | none => exact QC.same hR
      | some t' => obtain ⟨h1, rfl⟩ := p_ix_some hy (by decide); exact absurd (isT_nI h1) c
    · rw [b2i_n0] at c
      obtain ⟨t', ht', rfl⟩ : ∃ t', t' < 3 ∧ t = nI t' := (isT_ix t).resolve_left (fun z => z c)
      rw [p_ix_nI ht' (by decide)]
      refine sX_effort L D hi ht' (fun M1 hF => ?_)
      obtain ⟨L1, D1⟩ := RC.ruler L D hF
      exact ⟨rfl, ⟨sb, nb, σ, τ, L1, D1⟩, hF.fw.mono (by omega) (by omega)⟩
theorem cl_release (h : RC sh g a M) (t x : Int32) : wp_X11_release sh M g t x (QC sh g M (opRelease a t x)) := by
  have hR := h
  obtain ⟨sb, nb, σ, τ, L, D⟩ := h
  unfold wp_X11_release opRelease
  refine s11_isTongue ⟨fun c => ?_, fun c => ?_⟩
  · rw [b2i_0] at c
    cases hy : p_ix 3 t with
    | none => exact QC.same hR
    | some t' => obtain ⟨h1, rfl⟩ := p_ix_some hy (by decide); exact absurd (isT_nI h1) c
  · rw [b2i_n0] at c
    obtain ⟨t', ht', rfl⟩ : ∃ t', t' < 3 ∧ t = nI t' := (isT_ix t).resolve_left (fun z => z c)
    rw [p_ix_nI ht' (by decide)]
    exact ⟨L.1.1, _, L.e9, L.sb.1, s0_releasedSign ht' L.sb D.2.1 (QC.same hR)⟩
end OpsC
