/-! the calls on the abstract state, and the class's: the source, hands, terms -/
noncomputable def iteP {α : Type} (c : Prop) (x y : α) : α := @ite α c (Classical.propDecidable c) x y
theorem iteP_t {α : Type} {c : Prop} {x y : α} (h : c) : iteP c x y = x := if_pos h
theorem iteP_f {α : Type} {c : Prop} {x y : α} (h : ¬ c) : iteP c x y = y := if_neg h
def QC (sh : gh_Sh) (g : Nat) (M : gh_M) (o : Int32 × AbS) : Int32 → gh_M → Prop := fun r M1 => r = o.1 ∧ RC sh g o.2 M1 ∧ Fw g (g + 544) M M1
noncomputable def opSign (a : AbS) (x : Int32) : Int32 × AbS := iteP (isW x ∨ isH x ∨ isO x) (if 10 ≤ (aD a).length then (-2, a) else (nI ((aD a).length + 1), sD a (aD a ++ [x]))) (-1, a)
def opScrap (a : AbS) : Int32 × AbS := (nI (aD a).length, sD a [])
noncomputable def opPiece (a : AbS) (k : Int32) : Int32 × AbS := iteP (0 ≤ k.toInt ∧ k.toInt ≤ 2) (if 1 ≤ (aD a).length ∧ (aD a).length ≤ 8 then iteP (∃ x ∈ aD a, isO x) (-3, a) (if 8 ≤ (aN a).length then (-2, a) else (nI (aN a).length, sN (sD a []) (aN a ++ [(k, aD a)]))) else (-6, a)) (-1, a)
def opDrop (a : AbS) : Int32 × AbS := (nI (aN a).length, sN a [])
abbrev pcAt (a : AbS) (i : Nat) : PcT := (aS a).getD i pc0
def opOf (a : AbS) (p w : Int32) : Int32 × AbS := (match p_ix (aS a).length p with
  | none => -1
  | some i => if w = 0 then (pcAt a i).1 else if w = 1 then nI (pcAt a i).2.1.length else if w < 10 then -1 else rowAt (pcAt a i).2.1 (w - 10), a)
def opFar (a : AbS) (p q : Int32) : Int32 × AbS := (match p_ix (aS a).length p, p_ix (aS a).length q with
  | some i, some j => nI (dist (pcAt a i).2.1 (pcAt a j).2.1)
  | _, _ => -1, a)
def opFrom (a : AbS) (p : Int32) : Int32 × AbS := (match p_ix (aS a).length p with
  | none => -1
  | some i => (pcAt a i).2.2.1, a)
def opStory (a : AbS) (p : Int32) : Int32 × AbS := (match p_ix (aS a).length p with
  | none => -1
  | some i => storyOf (pcAt a i) p, a)
def inR (x : Int32) (lo hi : Int) : Prop := lo ≤ x.toInt ∧ x.toInt ≤ hi
noncomputable def opHand (a : AbS) (t h r : Int32) : Int32 × AbS := iteP (inR t 1 7 ∧ inR h 0 20 ∧ inR r 1 9) (if 5 ≤ (aH a).length then (-2, a) else (nI (aH a).length, sH a (aH a ++ [(t, h, r)]))) (-1, a)
abbrev hnAt (a : AbS) (i : Nat) : HnT := (aH a).getD i hn0
noncomputable def opHours (a : AbS) (x n : Int32) : Int32 × AbS := match p_ix (aH a).length x with
  | none => (-1, a)
  | some j => iteP (inR n 0 20) ((hnAt a j).2.1, sH a ((aH a).set j ((hnAt a j).1, n, (hnAt a j).2.2))) (-1, a)
noncomputable def opTerm (a : AbS) (w t o : Int32) : Int32 × AbS := iteP (isW w ∧ isT t ∧ isO o) (iteP (10 ≤ (aT a).length ∧ ¬ tmHas (aT a) w t) (-2, a) (nI (tmPut (aT a) w t o).length, sT a (tmPut (aT a) w t o))) (-1, a)
noncomputable def opForget (a : AbS) (w t : Int32) : Int32 × AbS := iteP (isW w ∧ isT t) (match tmIx (aT a) w t (aT a).length with
  | none => (-5, a)
  | some k => (nI ((aT a).length - 1), sT a (tmDel (aT a) k))) (-1, a)
noncomputable def opLimit (a : AbS) (n : Int32) : Int32 × AbS := iteP (inR n 1 10) (aL a, sL a n) (-1, a)
theorem p_pred {n : Nat} (h : 1 ≤ n) : nI n - (1 : Int32) = nI (n - 1) := pk_sub h
section OpsA
variable {sh : gh_Sh} {g : Nat} {a : AbS} {M : gh_M}
theorem QC.same {r : Int32} (h : RC sh g a M) : QC sh g M (r, a) r M := ⟨rfl, h, Fw.rf _ _ _⟩
theorem cl_sign (h : RC sh g a M) (x : Int32) : wp_X11_sign sh M g x (QC sh g M (opSign a x)) := by
  have hR := h
  obtain ⟨sb, nb, σ, τ, L, D⟩ := h
  unfold wp_X11_sign opSign
  have e0 := L.1.2.1
  have Lr := L.2.1
  have hl := D.1.1
  refine s11_isSign ⟨fun c => ?_, fun c => ⟨L.1.1, _, e0, Lr.1, s7_isFull Lr D.1 ⟨fun c2 => ⟨_, e0, Lr.1, ?_⟩, fun c2 => ?_⟩⟩⟩
  · rw [b2i_0] at c; rw [iteP_f c]; exact QC.same hR
  · rw [b2i_n0] at c
    have hlt : ¬ 10 ≤ (aD a).length := fun z => by rw [if_pos z] at c2; exact absurd c2 (by decide)
    rw [iteP_t c, if_neg hlt]
    refine s7_add Lr D.1 (by omega) (fun M1 hF hR1 => ?_)
    obtain ⟨L1, D1⟩ := RC.draft L D hF hR1
    refine ⟨_, L1.1.2.1, Lr.1, s7_size L1.2.1 hR1 ⟨by simp, ⟨sb, nb, σ, τ, L1, D1⟩, hF.fw.mono (by omega) (by omega)⟩⟩
  · rw [b2i_n0] at c
    have hge : 10 ≤ (aD a).length := Classical.byContradiction fun z => c2 (if_neg z)
    rw [iteP_t c, if_pos hge]; exact QC.same hR
theorem cl_scrap (h : RC sh g a M) : wp_X11_scrap sh M g (QC sh g M (opScrap a)) := by
  obtain ⟨sb, nb, σ, τ, L, D⟩ := h
  unfold wp_X11_scrap opScrap
  refine ⟨L.1.1, _, L.1.2.1, L.2.1.1, s7_size L.2.1 D.1 ⟨_, L.1.2.1, L.2.1.1, s7_clear L.2.1 (fun M1 hF hR1 => ?_)⟩⟩
  obtain ⟨L1, D1⟩ := RC.draft L D hF hR1
  exact ⟨rfl, ⟨sb, nb, σ, τ, L1, D1⟩, hF.fw.mono (by omega) (by omega)⟩
theorem p_own (x : Int32) : isO x ↔ ((200 : Int32).toInt ≤ x.toInt ∧ x.toInt ≤ (((200 : Int32) + (100 : Int32)) - (1 : Int32)).toInt) := Iff.rfl
theorem p_wrd (x : Int32) : isW x ↔ ((0 : Int32).toInt ≤ x.toInt ∧ x.toInt ≤ (((0 : Int32) + (100 : Int32)) - (1 : Int32)).toInt) := Iff.rfl
theorem cl_piece (h : RC sh g a M) (k : Int32) : wp_X11_piece sh M g k (QC sh g M (opPiece a k)) := by
  have hR := h
  obtain ⟨sb, nb, σ, τ, L, D⟩ := h
  unfold wp_X11_piece opPiece
  have e0 := L.1.2.1
  have e10 : rR M g 10 = some nb := L.1.2.2.2.2.2.2.2.2.2.2.2.1
  have hs := L.1.2.2.2.2.2.2.2.2.2.2.2.2
  have Lr := L.2.1
  have hl := D.1.1
  refine s11_isIn ⟨fun c => ?_, fun c => ⟨L.1.1, _, e0, Lr.1, s7_size Lr D.1 (s11_isIn ⟨fun c2 => ?_, fun c2 => ⟨_, e0, Lr.1, s7_holdsAny isO p_own Lr D.1 ⟨fun c3 => ⟨_, e10, L.nb.1, s0_isFull L.nb D.2.2.1 ⟨fun c4 => ⟨_, e10, _, e0, L.nb.1, ?_⟩, fun c4 => ?_⟩⟩, fun c3 => ?_⟩⟩⟩)⟩⟩
  · rw [b2i_0] at c; rw [iteP_f (c := 0 ≤ k.toInt ∧ k.toInt ≤ 2) c]; exact QC.same hR
  · rw [b2i_n0] at c; rw [b2i_0, p_ti (by omega)] at c2
    rw [iteP_t (c := 0 ≤ k.toInt ∧ k.toInt ≤ 2) c, if_neg (fun z => c2 ⟨by show (1 : Int) ≤ _; omega, by show _ ≤ (8 : Int); omega⟩)]; exact QC.same hR
  · rw [b2i_n0] at c; rw [b2i_n0, p_ti (by omega)] at c2; rw [b2i_0] at c3
    have h1 : (1 : Int) ≤ ((aD a).length : Int) := c2.1
    have h2 : ((aD a).length : Int) ≤ 8 := c2.2
    have hlen : ((aN a).map nxP).length = (aN a).length := by simp
    have hlt : ¬ 8 ≤ (aN a).length := fun z => by rw [hlen, if_pos z] at c4; exact absurd c4 (by decide)
    rw [iteP_t (c := 0 ≤ k.toInt ∧ k.toInt ≤ 2) c, if_pos (by omega), iteP_f c3, if_neg hlt]
    refine s0_add L.nb D.2.2.1 (by rw [hlen]; omega) Lr D.1 (by omega) (fun M1 hF hB => ?_)
    have hB2 : bookIs M1 nb ((aN a ++ [(k, aD a)]).map nxP) := by rw [List.map_append]; exact hB
    obtain ⟨L1, D1⟩ := RC.next L D hF hB2
    refine ⟨_, L1.1.2.1, Lr.1, s7_clear L1.2.1 (fun M2 hF2 hR2 => ?_)⟩
    obtain ⟨L2, D2⟩ := RC.draft L1 D1 hF2 hR2
    refine ⟨_, L2.1.2.2.2.2.2.2.2.2.2.2.2.1, L.nb.1, s0_count L2.nb D2.2.2.1 ⟨?_, ⟨sb, nb, σ, τ, L2, D2⟩, Fw.tr hF.fw hF2.fw (by omega) (by omega) (by omega) (by omega)⟩⟩
    show nI ((aN a ++ [(k, aD a)]).map nxP).length - (1 : Int32) = nI (aN a).length
    rw [p_pred (by simp)]; simp
  · rw [b2i_n0] at c; rw [b2i_n0, p_ti (by omega)] at c2; rw [b2i_0] at c3
    have h1 : (1 : Int) ≤ ((aD a).length : Int) := c2.1
    have h2 : ((aD a).length : Int) ≤ 8 := c2.2
    have hlen : ((aN a).map nxP).length = (aN a).length := by simp
    have hge : 8 ≤ (aN a).length := Classical.byContradiction fun z => c4 (by rw [hlen]; exact if_neg z)
    rw [iteP_t (c := 0 ≤ k.toInt ∧ k.toInt ≤ 2) c, if_pos (by omega), iteP_f c3, if_pos hge]; exact QC.same hR
  · rw [b2i_n0] at c; rw [b2i_n0, p_ti (by omega)] at c2; rw [b2i_n0] at c3
    have h1 : (1 : Int) ≤ ((aD a).length : Int) := c2.1
    have h2 : ((aD a).length : Int) ≤ 8 := c2.2
    rw [iteP_t (c := 0 ≤ k.toInt ∧ k.toInt ≤ 2) c, if_pos (by omega), iteP_t c3]; exact QC.same hR
theorem cl_drop (h : RC sh g a M) : wp_X11_drop sh M g (QC sh g M (opDrop a)) := by
  obtain ⟨sb, nb, σ, τ, L, D⟩ := h
  unfold wp_X11_drop opDrop
  have e10 : rR M g 10 = some nb := L.1.2.2.2.2.2.2.2.2.2.2.2.1
  have hs := L.1.2.2.2.2.2.2.2.2.2.2.2.2
  refine ⟨L.1.1, _, e10, L.nb.1, s0_count L.nb D.2.2.1 ⟨_, e10, L.nb.1, s0_clear L.nb (fun M1 hF hB => ?_)⟩⟩
  obtain ⟨L1, D1⟩ := RC.next L D (x := []) hF hB
  exact ⟨by simp, ⟨sb, nb, σ, τ, L1, D1⟩, hF.fw.mono (by omega) (by omega)⟩
theorem LCl.e9 {sb nb : Nat} {σ τ : Nat → Nat} (L : LCl sh M g sb nb σ τ) : rR M g 9 = some sb := L.1.2.2.2.2.2.2.2.2.2.2.1
theorem LCl.lp {sb nb : Nat} {σ τ : Nat → Nat} (L : LCl sh M g sb nb σ τ) {i : Nat} (hi : i < 8) : LPiece sh M (sb + 2 + 13 * i) := (L.sb.2.2.2.2 i hi).2
theorem cl_of (h : RC sh g a M) (p w : Int32) : wp_X11_of sh M g p w (QC sh g M (opOf a p w)) := by
  have hR := h
  obtain ⟨sb, nb, σ, τ, L, D⟩ := h
  unfold wp_X11_of opOf
  have hl := D.2.1.1
  refine ⟨L.1.1, _, L.e9, L.sb.1, s0_at L.sb D.2.1 ⟨fun c => ?_, fun q c => ?_⟩⟩
  · cases hx : p_ix (aS a).length p with
    | none => exact QC.same hR
    | some i => rw [hx] at c; cases c
  · cases hx : p_ix (aS a).length p with
    | none => rw [hx] at c; cases c
    | some i =>
      rw [hx] at c
      cases c
      obtain ⟨hi, -⟩ := p_ix_some hx (by omega)
      have P := D.2.1.2.2 i hi
      have Lp := L.lp (i := i) (by omega)
      dsimp only
      refine ⟨fun c => ⟨Lp.1, s5_kind Lp P ?_⟩, fun c => ⟨fun c2 => ⟨Lp.1, s5_signs Lp ⟨Lp.2.2.1.1, s7_size Lp.2.2.1 P.2.1 ?_⟩⟩, fun c2 => ⟨Lp.1, s5_signs Lp ⟨Lp.2.2.1.1, s7_askedFor Lp.2.2.1 P.2.1 ?_⟩⟩⟩⟩
      · rw [if_pos c]; exact QC.same hR
      · rw [if_neg c, if_pos c2]; exact QC.same hR
      · rw [if_neg c, if_neg c2]; exact QC.same hR
theorem cl_far (h : RC sh g a M) (p q : Int32) : wp_X11_far sh M g p q (QC sh g M (opFar a p q)) := by
  have hR := h
  obtain ⟨sb, nb, σ, τ, L, D⟩ := h
  unfold wp_X11_far opFar
  have hl := D.2.1.1
  have hs := L.1.2.2.2.2.2.2.2.2.2.2.2.2
  refine ⟨L.1.1, _, L.e9, L.sb.1, s0_at L.sb D.2.1 ⟨_, L.e9, L.sb.1, s0_at L.sb D.2.1 ⟨fun c => ?_, fun x c => ⟨fun c2 => ?_, fun y c2 => ?_⟩⟩⟩⟩
  · cases hx : p_ix (aS a).length p with
    | none => exact QC.same hR
    | some i => rw [hx] at c; cases c
  · cases hx : p_ix (aS a).length p with
    | none => rw [hx] at c; cases c
    | some i =>
      cases hy : p_ix (aS a).length q with
      | none => exact QC.same hR
      | some j => rw [hy] at c2; cases c2
  · cases hx : p_ix (aS a).length p with
    | none => rw [hx] at c; cases c
    | some i =>
      cases hy : p_ix (aS a).length q with
      | none => rw [hy] at c2; cases c2
      | some j =>
        rw [hx] at c; cases c
        rw [hy] at c2; cases c2
        obtain ⟨hi, -⟩ := p_ix_some hx (by omega)
        obtain ⟨hj, -⟩ := p_ix_some hy (by omega)
        have P := D.2.1.2.2 i hi
        have P2 := D.2.1.2.2 j hj
        have Lp := L.lp (i := i) (by omega)
        have Lq := L.lp (i := j) (by omega)
        dsimp only
        refine ⟨_, L.1.2.2.1, Lp.1, s5_signs Lp ⟨Lq.1, s5_signs Lq ⟨L.2.2.1.1, s8_between L.2.2.1 Lp.2.2.1 Lq.2.2.1 P.2.1 P2.2.1 (by omega) (by omega) (fun M1 hF => ?_)⟩⟩⟩
        obtain ⟨L1, D1⟩ := RC.ruler L D (hF.mono (by omega) (by omega))
        exact ⟨rfl, ⟨sb, nb, σ, τ, L1, D1⟩, hF.fw.mono (by omega) (by omega)⟩
theorem cl_from (h : RC sh g a M) (p : Int32) : wp_X11_from sh M g p (QC sh g M (opFrom a p)) := by
  have hR := h
  obtain ⟨sb, nb, σ, τ, L, D⟩ := h
  unfold wp_X11_from opFrom
  have hl := D.2.1.1
  refine ⟨L.1.1, _, L.e9, L.sb.1, s0_at L.sb D.2.1 ⟨fun c => ?_, fun q c => ?_⟩⟩
  · cases hx : p_ix (aS a).length p with
    | none => exact QC.same hR
    | some i => rw [hx] at c; cases c
  · cases hx : p_ix (aS a).length p with
    | none => rw [hx] at c; cases c
    | some i =>
      rw [hx] at c
      cases c
      obtain ⟨hi, -⟩ := p_ix_some hx (by omega)
      have Lp := L.lp (i := i) (by omega)
      exact ⟨Lp.1, s5_given Lp (D.2.1.2.2 i hi) (QC.same hR)⟩
theorem cl_story (h : RC sh g a M) (p : Int32) : wp_X11_story sh M g p (QC sh g M (opStory a p)) := by
  have hR := h
  obtain ⟨sb, nb, σ, τ, L, D⟩ := h
  unfold wp_X11_story opStory
  have hl := D.2.1.1
  refine ⟨L.1.1, _, L.e9, L.sb.1, s0_at L.sb D.2.1 ⟨fun c => ?_, fun q c => ?_⟩⟩
  · cases hx : p_ix (aS a).length p with
    | none => exact QC.same hR
    | some i => rw [hx] at c; cases c
  · cases hx : p_ix (aS a).length p with
    | none => rw [hx] at c; cases c
    | some i =>
      rw [hx] at c
      cases c
      obtain ⟨hi, -⟩ := p_ix_some hx (by omega)
      have Lp := L.lp (i := i) (by omega)
      exact ⟨Lp.1, s5_storyAt Lp (D.2.1.2.2 i hi) (QC.same hR)⟩
theorem cl_hand (h : RC sh g a M) (t n r : Int32) : wp_X11_hand sh M g t n r (QC sh g M (opHand a t n r)) := by
  have hR := h
  obtain ⟨sb, nb, σ, τ, L, D⟩ := h
  unfold wp_X11_hand opHand
  have e4 : rR M g 4 = some (g + 13) := L.1.2.2.2.2.2.1
  have Lh := L.2.2.2.2.2.1
  have H := D.2.2.2.1
  have hl := H.1
  refine s11_isIn ⟨fun c => ?_, fun c => s11_isIn ⟨fun c2 => ?_, fun c2 => s11_isIn ⟨fun c3 => ?_, fun c3 => ⟨L.1.1, _, e4, Lh.1, s2_isFull Lh H ⟨fun c4 => ⟨_, e4, Lh.1, ?_⟩, fun c4 => ?_⟩⟩⟩⟩⟩
  · rw [b2i_0] at c; rw [iteP_f (fun z => c z.1)]; exact QC.same hR
  · rw [b2i_0] at c2; rw [iteP_f (fun z => c2 z.2.1)]; exact QC.same hR
  · rw [b2i_0] at c3; rw [iteP_f (fun z => c3 z.2.2)]; exact QC.same hR
  · rw [b2i_n0] at c c2 c3
    have hlt : ¬ 5 ≤ (aH a).length := fun z => by rw [if_pos z] at c4; exact absurd c4 (by decide)
    rw [iteP_t (c := inR t 1 7 ∧ inR n 0 20 ∧ inR r 1 9) ⟨c, c2, c3⟩, if_neg hlt]
    refine s2_add (by omega) Lh H (fun M1 hF hH => ?_)
    obtain ⟨L1, D1⟩ := RC.hands L D hF hH
    refine ⟨_, L1.1.2.2.2.2.2.1, Lh.1, s2_count L1.2.2.2.2.2.1 hH ⟨?_, ⟨sb, nb, σ, τ, L1, D1⟩, hF.fw.mono (by omega) (by omega)⟩⟩
    rw [p_pred (by simp)]; simp
  · rw [b2i_n0] at c c2 c3
    have hge : 5 ≤ (aH a).length := Classical.byContradiction fun z => c4 (if_neg z)
    rw [iteP_t (c := inR t 1 7 ∧ inR n 0 20 ∧ inR r 1 9) ⟨c, c2, c3⟩, if_pos hge]; exact QC.same hR
theorem cl_hours (h : RC sh g a M) (x n : Int32) : wp_X11_hours sh M g x n (QC sh g M (opHours a x n)) := by
  have hR := h
  obtain ⟨sb, nb, σ, τ, L, D⟩ := h
  unfold wp_X11_hours opHours
  have e4 : rR M g 4 = some (g + 13) := L.1.2.2.2.2.2.1
  have Lh := L.2.2.2.2.2.1
  have H := D.2.2.2.1
  have hl := H.1
  refine ⟨L.1.1, _, e4, Lh.1, s2_has Lh H ⟨fun c => ?_, fun c => ?_⟩⟩
  · cases hx : p_ix (aH a).length x with
    | none => exact QC.same hR
    | some j => rw [hx] at c; exact absurd c (show ¬ (1 : Int32) = 0 by decide)
  · cases hx : p_ix (aH a).length x with
    | none => rw [hx] at c; exact absurd rfl c
    | some j =>
      obtain ⟨hj, rfl⟩ := p_ix_some hx (by omega)
      dsimp only
      refine s11_isIn ⟨fun c2 => ?_, fun c2 => ⟨_, e4, Lh.1, s2_hoursOf hj Lh H ⟨_, e4, Lh.1, s2_setHours hj Lh H (fun M1 hF hH => ?_)⟩⟩⟩
      · rw [b2i_0] at c2; rw [iteP_f (c := inR n 0 20) c2]; exact QC.same hR
      · rw [b2i_n0] at c2
        rw [iteP_t (c := inR n 0 20) c2]
        obtain ⟨L1, D1⟩ := RC.hands L D hF hH
        exact ⟨rfl, ⟨sb, nb, σ, τ, L1, D1⟩, hF.fw.mono (by omega) (by omega)⟩
theorem cl_term (h : RC sh g a M) (w t o : Int32) : wp_X11_term sh M g w t o (QC sh g M (opTerm a w t o)) := by
  have hR := h
  obtain ⟨sb, nb, σ, τ, L, D⟩ := h
  unfold wp_X11_term opTerm
  have e5 : rR M g 5 = some (g + 17) := L.1.2.2.2.2.2.2.1
  have Lt := L.2.2.2.2.2.2.1
  have T := D.2.2.2.2.1
  have hl := T.1.1
  refine s11_isWord ⟨fun c => ?_, fun c => s11_isTongue ⟨fun c2 => ?_, fun c2 => s11_isOwnWord ⟨fun c3 => ?_, fun c3 => ?_⟩⟩⟩
  · rw [b2i_0] at c; rw [iteP_f (fun z => c z.1)]; exact QC.same hR
  · rw [b2i_0] at c2; rw [iteP_f (fun z => c2 z.2.1)]; exact QC.same hR
  · rw [b2i_0] at c3; rw [iteP_f (fun z => c3 z.2.2)]; exact QC.same hR
  · rw [b2i_n0] at c c2 c3
    rw [iteP_t ⟨c, c2, c3⟩]
    obtain ⟨w', hw', rfl⟩ := isW_nI c
    obtain ⟨t', ht', rfl⟩ : ∃ t', t' < 3 ∧ t = nI t' := (isT_ix t).resolve_left (fun z => z c2)
    have go : ¬ (10 ≤ (aT a).length ∧ ¬ tmHas (aT a) (nI w') (nI t')) → wp_X11_term_48 sh (QC sh g M (iteP (10 ≤ (aT a).length ∧ ¬ tmHas (aT a) (nI w') (nI t')) (-2, a) (nI (tmPut (aT a) (nI w') (nI t') o).length, sT a (tmPut (aT a) (nI w') (nI t') o)))) g (nI w') (nI t') o M := by
      intro hn
      rw [iteP_f hn]
      unfold wp_X11_term_48
      refine ⟨L.1.1, _, e5, Lt.1, s9_put hw' ht' c3 Lt T ?_ (fun M1 hF hT => ?_)⟩
      · by_cases z : 10 ≤ (aT a).length
        · exact Or.inr (Classical.byContradiction fun y => hn ⟨z, y⟩)
        · exact Or.inl (by omega)
      · obtain ⟨L1, D1⟩ := RC.terms L D hF hT
        exact ⟨_, L1.1.2.2.2.2.2.2.1, Lt.1, s9_count L1.2.2.2.2.2.2.1 hT ⟨rfl, ⟨sb, nb, σ, τ, L1, D1⟩, hF.fw.mono (by omega) (by omega)⟩⟩
    refine ⟨L.1.1, _, e5, Lt.1, s9_isFull Lt T ⟨fun c4 => go ?_, fun c4 => ⟨_, e5, Lt.1, s9_has ht' Lt T ⟨fun c5 => ?_, fun c5 => go ?_⟩⟩⟩⟩
    · intro z; rw [if_pos z.1] at c4; exact absurd c4 (by decide)
    · rw [b2i_0] at c5
      have hge : 10 ≤ (aT a).length := Classical.byContradiction fun z => c4 (if_neg z)
      rw [iteP_t ⟨hge, c5⟩]; exact QC.same hR
    · rw [b2i_n0] at c5; exact fun z => z.2 c5
theorem cl_forget (h : RC sh g a M) (w t : Int32) : wp_X11_forget sh M g w t (QC sh g M (opForget a w t)) := by
  have hR := h
  obtain ⟨sb, nb, σ, τ, L, D⟩ := h
  unfold wp_X11_forget opForget
  have e5 : rR M g 5 = some (g + 17) := L.1.2.2.2.2.2.2.1
  have Lt := L.2.2.2.2.2.2.1
  have T := D.2.2.2.2.1
  have hl := T.1.1
  refine s11_isWord ⟨fun c => ?_, fun c => s11_isTongue ⟨fun c2 => ?_, fun c2 => ?_⟩⟩
  · rw [b2i_0] at c; rw [iteP_f (fun z => c z.1)]; exact QC.same hR
  · rw [b2i_0] at c2; rw [iteP_f (fun z => c2 z.2)]; exact QC.same hR
  · rw [b2i_n0] at c c2
    rw [iteP_t ⟨c, c2⟩]
    obtain ⟨w', hw', rfl⟩ := isW_nI c
    obtain ⟨t', ht', rfl⟩ : ∃ t', t' < 3 ∧ t = nI t' := (isT_ix t).resolve_left (fun z => z c2)
    refine ⟨L.1.1, _, e5, Lt.1, s9_has ht' Lt T ⟨fun c3 => ?_, fun c3 => ⟨_, e5, Lt.1, ?_⟩⟩⟩
    · rw [b2i_0] at c3
      cases hx : tmIx (aT a) (nI w') (nI t') (aT a).length with
      | none => exact QC.same hR
      | some k => exact absurd ⟨k, tmIx_some hx⟩ c3
    · rw [b2i_n0] at c3
      cases hx : tmIx (aT a) (nI w') (nI t') (aT a).length with
      | none =>
        obtain ⟨k, hk, hk2⟩ := c3
        exact absurd hk2 (tmIx_none hx k hk)
      | some k =>
        obtain ⟨hk, hk2⟩ := tmIx_some hx
        refine s9_remove hw' ht' hk hk2 Lt T (fun M1 hF hT => ?_)
        obtain ⟨L1, D1⟩ := RC.terms L D hF hT
        exact ⟨_, L1.1.2.2.2.2.2.2.1, Lt.1, s9_count L1.2.2.2.2.2.2.1 hT ⟨by rw [tmDel_len], ⟨sb, nb, σ, τ, L1, D1⟩, hF.fw.mono (by omega) (by omega)⟩⟩
theorem cl_limit (h : RC sh g a M) (n : Int32) : wp_X11_limit sh M g n (QC sh g M (opLimit a n)) := by
  have hR := h
  obtain ⟨sb, nb, σ, τ, L, D⟩ := h
  unfold wp_X11_limit opLimit
  refine s11_isIn ⟨fun c => ?_, fun c => ⟨L.1.1, ?_⟩⟩
  · rw [b2i_0] at c; rw [iteP_f (c := inR n 1 10) c]; exact QC.same hR
  · rw [b2i_n0] at c
    rw [iteP_t (c := inR n 1 10) c]
    obtain ⟨L1, D1⟩ := RC.limit L D n
    exact ⟨D.2.2.2.2.2.1, ⟨sb, nb, σ, τ, L1, D1⟩, (Fr.w (lo := g) (hi := g + 544) (by omega) (by omega)).fw⟩
end OpsA
