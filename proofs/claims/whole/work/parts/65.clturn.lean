/-! turn -/
abbrev nL (a : AbS) : List PcT := (aN a).map nxP
def mTn (a : AbS) (i : Nat) : Option Nat := mtM (aS a).length (nL a).length (cMt (nL a) (aS a)) (zMt (nL a)) i
def tkP (a : AbS) (i : Nat) : PcT := match mTn a i with
  | none => (nL a).getD i pc0
  | some k => (((nL a).getD i pc0).1, ((nL a).getD i pc0).2.1, nI k, nI (cMt (nL a) (aS a) i k), if ((nL a).getD i pc0).1 = 1 then ((nL a).getD i pc0).2.2.2.2 else fun t => tkOf (nI (cMt (nL a) (aS a) i k)) (((aS a).getD k pc0).2.2.2.2 t))
def opTurn (a : AbS) : Int32 × AbS := if (nL a).length = 0 then (-5, a) else (nI (bk (aS a).length (nL a).length (cMt (nL a) (aS a)) (zMt (nL a)) (nL a).length 0), sN (sS a ((List.range (nL a).length).map (tkP a))) [])
theorem p_range_getD {n i : Nat} {f : Nat → PcT} (hi : i < n) : ((List.range n).map f).getD i pc0 = f i := by
  rw [List.getD_eq_getElem?_getD, List.getElem?_map, List.getElem?_range hi]
  rfl
section CLT
variable {sh : gh_Sh} {g : Nat} {a : AbS} {M : gh_M}
theorem sX_takeOver {sb : Nat} {S : List PcT} {post : gh_M → Prop} {p : Nat} {x : PcT} {pl : Int32} (h11 : sh.1 g = 11) (e9 : rR M g 9 = some sb) (e1 : rR M g 1 = some (g + 3)) (Ls : LBook sh M sb) (Bs : bookIs M sb S) (Lu : LRuler sh M (g + 3)) (Lp : LPiece sh M p) (P : pieceIs M p x) (dp : p + 12 < sb ∨ sb + 105 < p) (dg : g + 10 < p) (ds : g + 10 < sb)
    (h0 : p_ix S.length pl = none → post M) (h1 : ∀ k, k < S.length → pl = nI k → ∀ M1 M2, Fr (g + 4) (g + 5) M M1 → Fr p (p + 13) M1 M2 → pieceIs M2 p (x.1, x.2.1, nI k, nI (dist x.2.1 (S.getD k pc0).2.1), if x.1 = 1 then x.2.2.2.2 else fun t => tkOf (nI (dist x.2.1 (S.getD k pc0).2.1)) ((S.getD k pc0).2.2.2.2 t)) → post M2) : wp_X11_takeOver sh M g p pl post := by
  unfold wp_X11_takeOver
  have hs := Bs.1
  refine ⟨h11, _, e9, Ls.1, s0_at Ls Bs ?_⟩
  cases hx : p_ix S.length pl with
  | none => exact ⟨fun _ => h0 hx, fun q c => by cases c⟩
  | some k =>
    obtain ⟨hk, rfl⟩ := p_ix_some hx (by omega)
    refine ⟨fun c => (by cases c), fun q c => ?_⟩
    cases c
    have Lk := (Ls.2.2.2.2 k (by omega)).2
    have Pk := Bs.2.2 k hk
    dsimp only
    refine ⟨_, e1, Lp.1, s5_signs Lp ⟨Lk.1, s5_signs Lk ⟨Lu.1, s8_between Lu Lp.2.2.1 Lk.2.2.1 P.2.1 Pk.2.1 (by omega) (show sb + 2 + 13 * k + 1 + 1 < g + 3 ∨ g + 3 + 1 < sb + 2 + 13 * k + 1 by omega) (fun M1 hF => ?_)⟩⟩⟩
    refine s5_follow (Lp.fr hF.2.2) (Lk.fr hF.2.2) (P.fr hF (by omega)) (Pk.fr hF (by omega)) (by omega) (fun M2 hF2 hP2 => h1 k hk rfl M1 M2 (hF.mono (by omega) (by omega)) hF2 hP2)
theorem cl_turn (h : RC sh g a M) : wp_X11_turn sh M g (QC sh g M (opTurn a)) := by
  have hR := h
  obtain ⟨sb, nb, σ, τ, L, D⟩ := h
  unfold wp_X11_turn opTurn
  have e10 : rR M g 10 = some nb := L.1.2.2.2.2.2.2.2.2.2.2.2.1
  have hsw := L.1.2.2.2.2.2.2.2.2.2.2.2.2
  have hn : (nL a).length ≤ 8 := D.2.2.1.1
  have hs := D.2.1.1
  refine ⟨L.1.1, _, e10, L.nb.1, s0_count L.nb D.2.2.1 ⟨fun c => ?_, fun c => ?_⟩⟩
  · rw [if_pos ((p_eqI (a := (nL a).length) (b := 0) (by omega) (by omega)).mp c)]; exact QC.same hR
  have hne : ¬ (nL a).length = 0 := fun z => c (by show nI (nL a).length = 0; rw [z]; rfl)
  rw [if_neg hne]
  refine ⟨_, L.1.2.2.2.1, _, L.e9, _, e10, _, L.1.2.2.1, L.2.2.2.1.1, s3_match L.2.2.2.1 L.sb D.2.1 L.nb D.2.2.1 L.2.2.1 (by omega) (by omega) (by omega) (fun M12 f12 r12 hK => ?_)⟩
  obtain ⟨L12, D12⟩ := RC.work L D f12 r12 (by omega) (by omega) (Or.inl (by omega))
  have hKb : bk (aS a).length (nL a).length (cMt (nL a) (aS a)) (zMt (nL a)) (nL a).length 0 * 4294967296 + lexd (aS a).length (nL a).length (cMt (nL a) (aS a)) (zMt (nL a)) (nL a).length 0 < 9223372036854775808 := by
    rw [← bk_key hs hn _ (Nat.le_refl _), ← fd_bk]
    refine Nat.lt_of_le_of_lt (fd_le (B := 68719476736) _ (fun j hj => wZ_le (D.2.2.1.2.2 j hj).2.1.1) _) ?_
    exact Nat.lt_of_le_of_lt (Nat.mul_le_mul_right 68719476736 hn) (by decide)
  unfold wp_X11_turn_35
  refine for1 0 (nL a).length (by omega) (by omega) (fun i M1 => (∀ x j, rR M1 x j = rR M12 x j) ∧ (∀ x j, rJ M1 x j = rJ M12 x j) ∧ (∀ x j, x ≠ g + 4 → (x < nb ∨ nb + 106 ≤ x) → rI M1 x j = rI M12 x j) ∧ rI M1 nb 1 = nI (nL a).length ∧ ∀ y, y < (nL a).length → pieceIs M1 (nb + 2 + 13 * y) (if y < i then tkP a y else (nL a).getD y pc0)) ⟨fun _ _ => rfl, fun _ _ => rfl, fun _ _ _ _ => rfl, D12.2.2.1.2.1, fun y hy => by rw [if_neg (by omega)]; exact D12.2.2.1.2.2 y hy⟩ ?_ ?_
  · rintro i M1 k - hi ⟨hr, hJ, hI, hc, hp⟩ hk
    unfold wb_X11_turn_35
    dsimp only
    have L1 := L12.fr hr
    have e10' : rR M1 g 10 = some nb := L1.1.2.2.2.2.2.2.2.2.2.2.2.1
    have hR1 : ∀ {r : Nat} {s : List Int32}, (r + 1 < g + 4 ∨ (g + 4 < r ∧ (r + 1 < nb ∨ nb + 106 ≤ r))) → rowIs M12 r s → rowIs M1 r s := fun {r s} hd z => ⟨z.1, (hI _ _ (by omega) (by omega)).trans z.2.1, fun i hi => (hI _ _ (by omega) (by omega)).trans (z.2.2 i hi)⟩
    have Bs1 : bookIs M1 sb (aS a) := by
      refine ⟨hs, (hI _ _ (by omega) (by omega)).trans D12.2.1.2.1, fun y hy => ?_⟩
      obtain ⟨p1, p2, p3, p4, p5⟩ := D12.2.1.2.2 y hy
      exact ⟨(hI _ _ (by omega) (by omega)).trans p1, hR1 (by omega) p2, (hI _ _ (by omega) (by omega)).trans p3, (hI _ _ (by omega) (by omega)).trans p4, fun t ht => ⟨(hI _ _ (by omega) (by omega)).trans (p5 t ht).1, (hI _ _ (by omega) (by omega)).trans (p5 t ht).2.1, hR1 (by omega) (p5 t ht).2.2⟩⟩
    refine ⟨L.1.1, _, e10', L1.nb.1, ?_⟩
    unfold wp_X0_count
    rw [hc]
    refine ⟨L1.nb.1, fun c => absurd ((p_leI (by omega) (by omega)).mp c) (by omega), fun _ => ⟨_, e10', L1.nb.1, ?_⟩⟩
    have hat : wp_X0_at sh M1 nb (nI i) (fun r15 M14 => ∃ q16, rR M14 g 2 = some q16 ∧ sh.1 q16 = 3 ∧ wp_X3_givenTo sh M14 q16 (nI i) (fun r19 M18 => ∃ a20, r15 = some a20 ∧ wp_X11_takeOver sh M18 g a20 r19 (fun M21 => k (nI i + 1, M21)))) := by
      unfold wp_X0_at
      refine ⟨fun c => absurd c (nI_pos (by omega)), fun _ => ⟨L1.nb.1, fun c => ?_, fun c => ⟨_, L1.nb.2.1, L1.nb.2.2.1, by rw [L1.nb.2.2.2.1]; exact p_in (by omega) (by decide), _, by rw [p_cl (by omega)]; exact (L1.nb.2.2.2.2 i (by omega)).1, ?_⟩⟩⟩
      · rw [hc, p_leI (by omega) (by omega)] at c; omega
      have hp1 := hp i hi
      rw [if_neg (by omega)] at hp1
      have hdig := key_digit (c := cMt (nL a) (aS a)) (z := zMt (nL a)) hs hn hi
      refine ⟨_, L1.1.2.2.2.1, L1.2.2.2.1.1, s3_givenTo L1.2.2.2.1 (by omega) hKb (by rw [hJ]; exact hK) ⟨_, rfl, ?_⟩⟩
      rw [hdig]
      have hmt : mtM (aS a).length (nL a).length (cMt (nL a) (aS a)) (zMt (nL a)) i = mTn a i := rfl
      rw [hmt]
      cases hm : mTn a i with
      | none =>
        have htk : tkP a i = (nL a).getD i pc0 := by unfold tkP; rw [hm]
        rw [if_pos (show dgK none = 8 from rfl)]
        refine sX_takeOver L.1.1 L1.e9 L1.1.2.2.1 L1.sb Bs1 L1.2.2.1 ((L1.nb.2.2.2.2 i (by omega)).2) hp1 (by omega) (by omega) (by omega) (fun _ => hk _ ⟨hr, hJ, hI, hc, fun y hy => ?_⟩) (fun q hq e => ?_)
        · by_cases e : y = i
          · subst e; rw [if_pos (by omega), htk]; exact hp1
          · have := hp y hy
            by_cases e2 : y < i
            · rw [if_pos e2] at this; rw [if_pos (by omega)]; exact this
            · rw [if_neg e2] at this; rw [if_neg (by omega)]; exact this
        · have e' := congrArg Int32.toInt e
          rw [p_ti (by omega)] at e'
          exact absurd e' (by show ¬ (-5 : Int) = _; omega)
      | some q =>
        have hq : q < (aS a).length := (findK_some hm).1
        have htk : tkP a i = (((nL a).getD i pc0).1, ((nL a).getD i pc0).2.1, nI q, nI (cMt (nL a) (aS a) i q), if ((nL a).getD i pc0).1 = 1 then ((nL a).getD i pc0).2.2.2.2 else fun t => tkOf (nI (cMt (nL a) (aS a) i q)) (((aS a).getD q pc0).2.2.2.2 t)) := by unfold tkP; rw [hm]
        rw [if_neg (show ¬ dgK (some q) = 8 from fun z => by have z' : q = 8 := z; omega)]
        refine sX_takeOver L.1.1 L1.e9 L1.1.2.2.1 L1.sb Bs1 L1.2.2.1 ((L1.nb.2.2.2.2 i (by omega)).2) hp1 (by omega) (by omega) (by omega) (fun e => ?_) (fun q2 hq2 e Ma Mb fa fb hpb => hk _ ⟨fun x j => (fb.R x j).trans ((fa.R x j).trans (hr x j)), fun x j => (fb.J x j).trans ((fa.J x j).trans (hJ x j)), fun x j hx1 hx2 => (fb.I (by omega) j).trans ((fa.I (by omega) j).trans (hI x j hx1 hx2)), (fb.I (by omega) _).trans ((fa.I (by omega) _).trans hc), fun y hy => ?_⟩)
        · rw [show nI (dgK (some q)) = nI q from rfl, p_ix_nI hq (by omega)] at e; cases e
        · have e' : q = q2 := (p_eqI (by omega) (by omega)).mp e
          subst e'
          by_cases e3 : y = i
          · subst e3; rw [if_pos (by omega), htk]; exact hpb
          · have h3 := ((hp y hy).fr fa (by omega)).fr fb (by omega)
            by_cases e2 : y < i
            · rw [if_pos e2] at h3; rw [if_pos (by omega)]; exact h3
            · rw [if_neg e2] at h3; rw [if_neg (by omega)]; exact h3
    exact hat
  · rintro M1 k ⟨hr, hJ, hI, hc, hp⟩
    unfold wb_X11_turn_35
    dsimp only
    have L1 := L12.fr hr
    have e10' : rR M1 g 10 = some nb := L1.1.2.2.2.2.2.2.2.2.2.2.2.1
    refine ⟨L.1.1, _, e10', L1.nb.1, ?_⟩
    unfold wp_X0_count
    rw [hc]
    refine ⟨L1.nb.1, fun _ => ⟨_, L1.e9, _, e10', _, rR_same _ _ _ _, L1.sb.1, ?_⟩, fun c => absurd ((p_leI (by omega) (by omega)).mpr (Nat.le_refl _)) c⟩
    -- the two ranges, one after the other
    have fa : Fr (g + 4) (g + 5) M12 (((fun x j => if x = g + 4 then rI M1 x j else rI M12 x j), M12.2) : gh_M) := ⟨fun x j hx => if_neg (by omega), fun _ _ => rfl, fun _ _ => rfl⟩
    have fb : Fr nb (nb + 106) (((fun x j => if x = g + 4 then rI M1 x j else rI M12 x j), M12.2) : gh_M) M1 := ⟨fun x j hx => by
      show rI M1 x j = if x = g + 4 then rI M1 x j else rI M12 x j
      by_cases e : x = g + 4
      · rw [if_pos e]
      · rw [if_neg e]; exact hI x j e hx, fun x j => hJ x j, fun x j => hr x j⟩
    obtain ⟨La, Da⟩ := RC.ruler L12 D12 fa
    generalize (((fun x j => if x = g + 4 then rI M1 x j else rI M12 x j), M12.2) : gh_M) = Ma at fa fb La Da
    have Bn : bookIs M1 nb ((List.range (nL a).length).map (tkP a)) := by
      refine ⟨by simpa using hn, by rw [hc]; simp, fun y hy => ?_⟩
      simp only [List.length_map, List.length_range] at hy
      have := hp y (by simpa using hy)
      rw [if_pos (by simpa using hy)] at this
      rw [p_range_getD (by simpa using hy)]; exact this
    have Bs1 : bookIs M1 sb (aS a) := Da.2.1.fr fb (by omega)
    have f2 : Fw g (g + 1) M1 (wR (wR M1 g 9 (some nb)) g 10 (some sb)) := fun x j hx => ⟨rfl, rfl, by rw [rR_ne _ _ (by omega), rR_ne _ _ (by omega)]⟩
    have r9 : rR (wR (wR M1 g 9 (some nb)) g 10 (some sb)) g 9 = some nb := by rw [rR_ne _ _ (by omega), rR_same]
    have r10 : rR (wR (wR M1 g 9 (some nb)) g 10 (some sb)) g 10 = some sb := rR_same _ _ _ _
    have ro : ∀ j, j ≠ 9 → j ≠ 10 → rR (wR (wR M1 g 9 (some nb)) g 10 (some sb)) g j = rR M1 g j := fun j h1 h2 => by rw [rR_ne _ _ (by omega), rR_ne _ _ (by omega)]
    have rI2 : ∀ x j, rI (wR (wR M1 g 9 (some nb)) g 10 (some sb)) x j = rI M1 x j := fun _ _ => rfl
    generalize wR (wR M1 g 9 (some nb)) g 10 (some sb) = M2 at f2 r9 r10 ro rI2
    obtain ⟨lf, lr, lu, lm, lp, lh, lt, m1, m2, b1, b2, b3⟩ := L1
    obtain ⟨h0, q0, q1, q2, q3, q4, q5, q6, q7, q8, q9, q10, q11⟩ := lf
    have Lsb2 : LBook sh M2 sb := by
      rcases hsw with ⟨rfl, -⟩ | ⟨rfl, -⟩
      · exact b2.fw f2 (by omega)
      · exact b3.fw f2 (by omega)
    refine s0_clear Lsb2 (fun M3 f3 B3 => ⟨rfl, ⟨nb, sb, σ, τ, ⟨⟨h0, ?_, ?_, ?_, ?_, ?_, ?_, ?_, ?_, ?_, ?_, ?_, by omega⟩, (lr.fw f2 (by omega)).fr f3.2.2, (lu.fw f2 (by omega)).fr f3.2.2, ?_, ?_, (lh.fw f2 (by omega)).fr f3.2.2, (lt.fw f2 (by omega)).fr f3.2.2, (m1.fw f2 (by omega)).fr f3.2.2, (m2.fw f2 (by omega)).fr f3.2.2, (b1.fw f2 (by omega)).fr f3.2.2, (b2.fw f2 (by omega)).fr f3.2.2, (b3.fw f2 (by omega)).fr f3.2.2⟩, ?_⟩, ?_⟩)
    · rw [f3.R, ro _ (by decide) (by decide)]; exact q0
    · rw [f3.R, ro _ (by decide) (by decide)]; exact q1
    · rw [f3.R, ro _ (by decide) (by decide)]; exact q2
    · rw [f3.R, ro _ (by decide) (by decide)]; exact q3
    · rw [f3.R, ro _ (by decide) (by decide)]; exact q4
    · rw [f3.R, ro _ (by decide) (by decide)]; exact q5
    · rw [f3.R, ro _ (by decide) (by decide)]; exact q6
    · rw [f3.R, ro _ (by decide) (by decide)]; exact q7
    · rw [f3.R, ro _ (by decide) (by decide)]; exact q8
    · rw [f3.R]; exact r9
    · rw [f3.R]; exact r10
    · have l2 := lm.fw f2 (by omega)
      exact ⟨l2.1, (f3.R _ _).trans l2.2.1, (f3.R _ _).trans l2.2.2.1, l2.2.2.2⟩
    · have l2 := lp.fw f2 (by omega)
      exact ⟨l2.1, (f3.R _ _).trans l2.2.1, (f3.R _ _).trans l2.2.2.1, (f3.R _ _).trans l2.2.2.2.1, (f3.R _ _).trans l2.2.2.2.2.1, l2.2.2.2.2.2⟩
    · obtain ⟨d1, d2, d3, d4, d5, d6, d7, d8, d9⟩ := Da
      refine ⟨((d1.fr fb (by omega)).fw f2 (by omega)).fr f3 (by omega), (Bn.fw f2 (by omega)).fr f3 (by omega), B3, ((d4.fr fb (by omega)).fw f2 (by omega)).fr f3 (by omega), ((d5.fr fb (by omega)).fw f2 (by omega)).fr f3 (by omega), ?_, ?_, ?_, ((d9.fw fb.fw (by omega)).fw f2 (by omega)).fw f3.fw (by omega)⟩
      · rw [f3.I (by omega), rI2, fb.I (by omega)]; exact d6
      · exact memIs.fr (m1.fw f2 (by omega)) (memIs.fw m1 (d7.fr (La.2.2.2.2.2.2.2.1) fb (by omega)) f2 (by omega)) f3 (by omega)
      · have hk2 : keptIs M1 g τ (aK a) := d8.fw La.2.2.2.2.2.2.2.2.1 fb.fw (by omega) (by omega)
        have hk3 : keptIs M2 g τ (aK a) := by
          show keptIs _ g τ (aK a)
          generalize aK a = kk at hk2
          cases kk with
          | none => exact (rI2 _ _).trans hk2
          | some y => exact ⟨(rI2 _ _).trans hk2.1, hk2.2.1.fw f2 (by omega), memIs.fw m2 hk2.2.2 f2 (by omega)⟩
        exact hk3.fw (m2.fw f2 (by omega)) f3.fw (by omega) (by omega)
    · refine Fw.tr (Fw.tr (Fw.tr f12 fa.fw (lo := g) (hi := g + 544) (by omega) (by omega) (by omega) (by omega)) fb.fw (lo := g) (hi := g + 544) (by omega) (by omega) (by omega) (by omega)) (Fw.tr f2 f3.fw (lo := g) (hi := g + 544) (by omega) (by omega) (by omega) (by omega)) (by omega) (by omega) (by omega) (by omega)
end CLT
