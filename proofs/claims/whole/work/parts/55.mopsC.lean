/-! the reference's calls: far, text, write, fault -/
section MC
variable {sh : gh_Sh} {m : Nat} {a : AbS} {M : gh_M}
theorem mSrc.ats {l : List PcT} {i : Nat} (h : mSrc m M l) (hi : i < l.length) : rI M (m + 2) i = (l.getD i pc0).1 ∧ (l.getD i pc0).2.1.length ≤ 8 ∧ rI M (m + 3) i = nI (l.getD i pc0).2.1.length ∧ (∀ j, j < (l.getD i pc0).2.1.length → rI M (m + 4) (8 * i + j) = (l.getD i pc0).2.1.getD j 0) ∧ gvM (rI M (m + 5) i) (l.getD i pc0).2.2.1 ∧ rI M (m + 6) i = (l.getD i pc0).2.2.2.1 ∧ ∀ t, t < 3 → txM (rI M (m + 10) (3 * i + t)) (rI M (m + 11) (3 * i + t)) (rI M (m + 12) (3 * i + t)) (fun j => rI M (m + 13) (10 * (3 * i + t) + j)) ((l.getD i pc0).2.2.2.2 t) := h.2.2 i hi
theorem txM.pos {s w n : Int32} {f : Nat → Int32} {x : TxT} (h : txM s w n f x) (hx : ¬ x.1 = 0) : x.2.2.length ≤ 10 ∧ w = x.2.1 ∧ n = nI x.2.2.length ∧ ∀ j, j < x.2.2.length → f j = x.2.2.getD j 0 := by
  rcases h.2 with ⟨h1, -⟩ | ⟨-, h2⟩
  · exact absurd h1 hx
  · exact h2
theorem mo_far (h : RM sh m a M) (p q : Int32) : wp_X12_far sh M m p q (QM sh m M (opFar a p q)) := by
  have hR := h
  obtain ⟨L, d1, d2, d3, d4, d5, d6, d7, d8⟩ := h
  unfold wp_X12_far opFar
  have h8 := d2.1
  refine ⟨L.1, s12_isPiece L d2 (fun e => br0 ?_) (fun i hi e1 e => br1 (s12_isPiece L d2 (fun e2 => br0 ?_) (fun j hj e3 e2 => br1 ⟨_, L.f5, _, L.f4, L.k3, L.v3 (i := i) (by omega) e1, L.v3 (i := j) (by omega) e3, ?_⟩)))⟩
  · rw [e]; exact QM.same hR
  · rw [e, e2]; exact QM.same hR
  rw [e, e2]
  subst e1 e3
  obtain ⟨q1, q2, q3, q4, -⟩ := d2.ats hi
  obtain ⟨r1, r2, r3, r4, -⟩ := d2.ats hj
  rw [p_cl (by omega), p_cl (by omega), q3, r3, m8, m8]
  refine s12_apart L q2 r2 L.k4 L.k4 (by rw [L.n4]; omega) (by rw [L.n4]; omega) (by rw [L.n4]; decide) (by rw [L.n4]; decide) (by omega) (by omega) q4 r4 (fun M1 hc => ⟨rfl, RM.scr hR hc (by decide) (by decide), hc.2.2.fw⟩)
theorem s12_often {post : Int32 → gh_M → Prop} {q at1 : Nat} {l : List Int32} {x : Int32} (h1 : l.length ≤ 10) (k1 : sh.1 q = 13) (b1 : at1 + l.length ≤ sh.2 q) (u1 : sh.2 q < 10000) (r1 : ∀ i, i < l.length → rI M q (at1 + i) = l.getD i 0) (h : post (nI (l.count x)) M) : wp_X12_often sh M q (nI at1) (nI l.length) x post := by
  unfold wp_X12_often wp_X12_often_6
  refine for2 0 l.length (by omega) (by omega) (fun i y M1 => M1 = M ∧ y = nI ((l.take i).count x)) ⟨rfl, rfl⟩ ?_ ?_
  · rintro i y M1 k - hi ⟨rfl, rfl⟩ hk
    unfold wb_X12_often_6 wp_X12_often_29
    dsimp only
    refine ⟨fun c => absurd ((p_leI (by omega) (by omega)).mp c) (by omega), fun _ => ⟨k1, by rw [nI_add]; exact p_in (by omega) (by omega), ?_⟩⟩
    rw [nI_add, p_cl (by omega), r1 i hi]
    refine ⟨fun c => hk _ _ ⟨rfl, ?_⟩, fun c => hk _ _ ⟨rfl, ?_⟩⟩
    · rw [p_count_take l x i hi, if_pos c]; exact nI_1 _
    · rw [p_count_take l x i hi, if_neg c]; exact nI_add _ 0
  · rintro y M1 k ⟨rfl, rfl⟩
    unfold wb_X12_often_6
    dsimp only
    rw [List.take_length]
    exact ⟨fun _ => h, fun c => absurd ((p_leI (by omega) (by omega)).mpr (Nat.le_refl _)) c⟩
theorem s12_faultOf {post : Int32 → gh_M → Prop} {i t : Nat} (h : RM sh m a M) (hi : i < (aS a).length) (ht : t < 3) (hs : ¬ (txAt a i t).1 = 0) (hp : post (fltOf (aT a) (aL a) (pcAt a i) (txAt a i t) (nI t)) M) : wp_X12_faultOf sh M m (nI i) (nI t) post := by
  obtain ⟨L, d1, d2, d3, d4, d5, d6, d7, d8⟩ := h
  unfold wp_X12_faultOf wp_X12_faultOf_10
  unfold fltOf at hp
  have h8 := d2.1
  have h10 := d5.1.1
  obtain ⟨q1, q2, q3, q4, q5, q6, q7⟩ := d2.ats hi
  obtain ⟨t1, t2, t3, t4⟩ := (q7 t ht).pos hs
  have tw : ((aS a).getD i pc0).2.2.2.2 t = txAt a i t := rfl
  have pw : (aS a).getD i pc0 = pcAt a i := rfl
  rw [tw] at t1 t3 t4
  rw [pw] at q1 q2 q3 q4
  rw [e3]
  have oft : ∀ {x : Int32} {post2 : Int32 → gh_M → Prop}, post2 (nI ((txAt a i t).2.2.count x)) M → wp_X12_often sh M (m + 13) ((10 : Int32) * nI (3 * i + t)) (rI M (m + 12) (nI (3 * i + t)).toNatClampNeg) x post2 := fun {x post2} hh => by
    rw [m10, p_cl (by omega), t3]
    exact s12_often t1 L.k13 (by rw [L.n13]; omega) (by rw [L.n13]; decide) t4 hh
  have ofs : ∀ {x : Int32} {post2 : Int32 → gh_M → Prop}, post2 (nI ((pcAt a i).2.1.count x)) M → wp_X12_often sh M (m + 4) ((8 : Int32) * nI i) (rI M (m + 3) (nI i).toNatClampNeg) x post2 := fun {x post2} hh => by
    rw [m8, p_cl (by omega), q3]
    exact s12_often (by omega) L.k4 (by rw [L.n4]; omega) (by rw [L.n4]; decide) q4 hh
  refine for1 100 104 (by omega) (by omega) (fun n M1 => M1 = M ∧ ∀ k, 100 ≤ k → k < n → (pcAt a i).2.1.count (nI k) = (txAt a i t).2.2.count (nI k)) ⟨rfl, fun k h1 h2 => by omega⟩ ?_ ?_
  · rintro n M1 k hn1 hn ⟨rfl, hr⟩ hk
    unfold wb_X12_faultOf_10
    dsimp only
    have b1 := List.count_le_length (a := nI n) (l := (txAt a i t).2.2)
    have b2 := List.count_le_length (a := nI n) (l := (pcAt a i).2.1)
    refine ⟨fun c => absurd ((p_leI (a := 104) (by omega) (by omega)).mp c) (by omega), fun _ => ⟨L.1, _, L.f15, _, L.f14, L.k12, L.v12 (i := 3 * i + t) (by omega) rfl, oft ⟨_, L.f5, _, L.f4, L.k3, L.v3 (i := i) (by omega) rfl, ofs ⟨fun c => hk _ ⟨rfl, fun k h1 h2 => ?_⟩, fun c => ?_⟩⟩⟩⟩
    · rw [p_eqI (by omega) (by omega)] at c
      by_cases e : k = n
      · subst e; exact c.symm
      · exact hr k h1 (by omega)
    · rw [p_eqI (by omega) (by omega)] at c
      rw [iteP_t ⟨n, hn1, hn, fun z => c z.symm⟩] at hp; exact hp
  · rintro M1 k ⟨rfl, hr⟩
    unfold wb_X12_faultOf_10
    dsimp only
    refine ⟨fun _ => ?_, fun c => absurd ((p_leI (a := 104) (by omega) (by omega)).mpr (by omega)) c⟩
    have hno : ¬ othHoles (pcAt a i).2.1 (txAt a i t).2.2 := by rintro ⟨n, h1, h2, h3⟩; exact h3 (hr n h1 h2)
    rw [iteP_f hno] at hp
    unfold wp_X12_faultOf_69
    refine for1 0 (pcAt a i).2.1.length (by omega) (by omega) (fun n M2 => M2 = M1 ∧ ∀ j k, j < n → k < (aT a).length → tmKey (aT a) k ((pcAt a i).2.1.getD j 0) (nI t) → ¬ (txAt a i t).2.2.count ((aT a).getD k tm0).2.2 = 0) ⟨rfl, fun j k hj => by omega⟩ ?_ ?_
    · rintro n M2 k - hn ⟨rfl, hr2⟩ hk
      unfold wb_X12_faultOf_69
      dsimp only
      refine ⟨L.1, _, L.f4, L.k3, L.v3 (i := i) (by omega) rfl, ?_⟩
      rw [p_cl (show i < 2147483648 by omega), q3]
      refine ⟨fun c => absurd ((p_leI (by omega) (by omega)).mp c) (by omega), fun _ => ⟨_, L.f5, L.k4, L.v4 (i := 8 * i + n) (by omega) (e8 _ _), ?_⟩⟩
      rw [e8, p_cl (show 8 * i + n < 2147483648 by omega), q4 n hn]
      have go : (∀ k, k < (aT a).length → tmKey (aT a) k ((pcAt a i).2.1.getD n 0) (nI t) → ¬ (txAt a i t).2.2.count ((aT a).getD k tm0).2.2 = 0) → k (nI n + 1, M2) := fun hq => hk _ ⟨rfl, fun j k hj hk1 hk2 => by
        by_cases e : j = n
        · subst e; exact hq k hk1 hk2
        · exact hr2 j k (by omega) hk1 hk2⟩
      refine s12_isWord (fun c => br0 ?_) (fun c => br1 ⟨_, L.f5, L.k4, L.v4 (i := 8 * i + n) (by omega) rfl, ?_⟩)
      · unfold wp_X12_faultOf_119 wp_X12_faultOf_155
        exact ⟨fun _ => go (fun k hk1 hk2 => absurd (hk2.1 ▸ (d5.1.2.1 k hk1).1) c), fun q => absurd (show (-1 : Int32) < 0 by decide) q⟩
      · rw [q4 n hn]
        refine s12_termOf L d5 ?_
        unfold wp_X12_faultOf_119 wp_X12_faultOf_155
        cases hx : tmIx (aT a) ((pcAt a i).2.1.getD n 0) (nI t) (aT a).length with
        | none => exact ⟨fun _ => go (fun k hk1 hk2 => absurd hk2 (tmIx_none hx k hk1)), fun q => absurd (show (-1 : Int32) < 0 by decide) q⟩
        | some k0 =>
          obtain ⟨hk1, hk2⟩ := tmIx_some hx
          refine ⟨fun q => absurd q (nI_pos (by omega)), fun _ => ⟨L.1, _, L.f15, _, L.f14, L.k12, L.v12 (i := 3 * i + t) (by omega) rfl, _, L.f23, L.k19, L.v19 (i := k0) (by omega) rfl, ?_⟩⟩
          dsimp only [ixI]
          rw [p_cl (show k0 < 2147483648 by omega), (d5.2.2 k0 hk1).2.2]
          have b1 := List.count_le_length (a := ((aT a).getD k0 tm0).2.2) (l := (txAt a i t).2.2)
          refine oft ⟨fun c2 => ?_, fun c2 => go (fun k' hk1' hk2' => ?_)⟩
          · have c3 : (txAt a i t).2.2.count ((aT a).getD k0 tm0).2.2 = 0 := (p_eqI (b := 0) (by omega) (by omega)).mp c2
            rw [iteP_t ⟨n, k0, hn, hk1, hk2, c3⟩] at hp; exact hp
          · have : k' = k0 := d5.1.2.2 k' k0 hk1' hk1 (hk2'.1.trans hk2.1.symm) (hk2'.2.trans hk2.2.symm)
            subst this
            intro c4
            exact c2 (by rw [c4]; rfl)
    · rintro M2 k2 ⟨rfl, hr2⟩
      unfold wb_X12_faultOf_69
      dsimp only
      refine ⟨L.1, _, L.f4, L.k3, L.v3 (i := i) (by omega) rfl, ?_⟩
      rw [p_cl (show i < 2147483648 by omega), q3]
      refine ⟨fun _ => ⟨_, L.f3, L.k2, L.v2 (i := i) (by omega) rfl, ?_⟩, fun c => absurd ((p_leI (by omega) (by omega)).mpr (Nat.le_refl _)) c⟩
      rw [q1]
      have hno2 : ¬ lacks (aT a) (pcAt a i).2.1 (txAt a i t).2.2 (nI t) := by rintro ⟨j, k, hj, hk, hk2, hc⟩; exact hr2 j k hj hk hk2 hc
      rw [iteP_f hno2] at hp
      refine ⟨fun c => ⟨_, L.f14, L.k12, L.v12 (i := 3 * i + t) (by omega) rfl, ?_⟩, fun c => ?_⟩
      · rw [p_cl (by omega), t3, d6]
        refine ⟨fun c2 => ?_, fun c2 => ?_⟩
        · rw [p_le] at c2
          rw [iteP_f (fun z => by have := z.2; rw [p_lt] at this; omega)] at hp; exact hp
        · rw [p_le] at c2
          rw [iteP_t ⟨c, by rw [p_lt]; omega⟩] at hp; exact hp
      · rw [iteP_f (fun z => c z.1)] at hp; exact hp
theorem mo_fault (h : RM sh m a M) (p t : Int32) : wp_X12_fault sh M m p t (QM sh m M (opFault a p t)) := by
  have hR := h
  obtain ⟨L, d1, d2, d3, d4, d5, d6, d7, d8⟩ := h
  unfold wp_X12_fault opFault
  have h8 := d2.1
  refine ⟨L.1, s12_isPiece L d2 (fun e => br0 ?_) (fun i hi e1 e => br1 (s12_isTongue (fun e2 _ => br0 ?_) (fun t' ht' e3 e2 => br1 ?_)))⟩
  · rw [e]; exact QM.same hR
  · rw [e, e2]; exact QM.same hR
  rw [e, e2]
  subst e1 e3
  rw [e3]
  refine ⟨_, L.f12, L.k10, L.v10 (i := 3 * i + t') (by omega) rfl, ?_⟩
  obtain ⟨q1, q2, q3, q4, q5, q6, q7⟩ := d2.ats hi
  rw [p_cl (by omega), (q7 t' ht').1]
  dsimp only
  refine ⟨fun c => ?_, fun c => s12_faultOf hR hi ht' c ?_⟩
  · rw [if_pos c]; exact QM.same hR
  · rw [if_neg c]; exact QM.same hR
theorem mo_text (h : RM sh m a M) (p t w : Int32) : wp_X12_text sh M m p t w (QM sh m M (opText a p t w)) := by
  have hR := h
  obtain ⟨L, d1, d2, d3, d4, d5, d6, d7, d8⟩ := h
  unfold wp_X12_text opText
  have h8 := d2.1
  refine ⟨L.1, s12_isPiece L d2 (fun e => br0 ?_) (fun i hi e1 e => br1 (s12_isTongue (fun e2 _ => br0 ?_) (fun t' ht' e3 e2 => br1 ?_)))⟩
  · rw [e]; exact QM.same hR
  · rw [e, e2]; exact QM.same hR
  rw [e, e2]
  subst e1 e3
  rw [e3]
  refine ⟨_, L.f12, L.k10, L.v10 (i := 3 * i + t') (by omega) rfl, ?_⟩
  obtain ⟨q1, q2, q3, q4, q5, q6, q7⟩ := d2.ats hi
  obtain ⟨s1, s2⟩ := q7 t' ht'
  have tw : ((aS a).getD i pc0).2.2.2.2 t' = txAt a i t' := rfl
  rw [tw] at s1 s2
  rw [p_cl (by omega), s1]
  unfold wp_X12_text_39
  dsimp only
  rcases s2 with ⟨z1, z2⟩ | ⟨z1, z2, z3, z4, z5⟩
  · rw [z1]
    refine ⟨fun _ => ⟨fun c => ⟨L.1, _, L.f12, L.k10, L.v10 (i := 3 * i + t') (by omega) rfl, ?_⟩, fun c => ⟨fun c2 => br0 ?_, fun c2 => ⟨fun c3 => br0 ?_, fun c3 => br0 ?_⟩⟩⟩, fun c => absurd (show (0 : Int32) ≤ 0 by decide) c⟩
    · rw [if_pos c, p_cl (by omega), s1, z1]; exact QM.same hR
    · rw [if_neg c, if_pos c2, z2]; exact QM.same hR
    · rw [if_neg c, if_neg c2, if_pos c3, z2]; exact QM.same hR
    · rw [if_neg c, if_neg c2, if_neg c3, z2]
      have : (if w < 10 then (-1 : Int32) else rowAt tx0.2.2 (w - 10)) = -1 := by
        split
        · rfl
        · show rowAt [] _ = -1
          unfold rowAt
          rw [show p_ix ([] : List Int32).length (w - 10) = none from if_neg (fun z => by have h1 := z.1; have h2 : (w - 10).toInt < 0 := z.2; omega)]
      rw [this]; exact QM.same hR
  · have np : ¬ (txAt a i t').1 ≤ 0 := by
      rcases z1 with z | z | z <;> (rw [z]; decide)
    refine ⟨fun c => absurd c np, fun _ => ⟨fun c => ⟨L.1, _, L.f12, L.k10, L.v10 (i := 3 * i + t') (by omega) rfl, ?_⟩, fun c => ⟨fun c2 => br1 ⟨L.1, _, L.f13, L.k11, L.v11 (i := 3 * i + t') (by omega) rfl, ?_⟩, fun c2 => ⟨fun c3 => br1 ⟨L.1, _, L.f14, L.k12, L.v12 (i := 3 * i + t') (by omega) rfl, ?_⟩, fun c3 => br1 ⟨L.1, _, L.f14, L.k12, L.v12 (i := 3 * i + t') (by omega) rfl, ?_⟩⟩⟩⟩⟩
    · rw [if_pos c, p_cl (by omega), s1]; exact QM.same hR
    · rw [if_neg c, if_pos c2, p_cl (by omega), z3]; exact QM.same hR
    · rw [if_neg c, if_neg c2, if_pos c3, p_cl (by omega), z4]; exact QM.same hR
    · rw [if_neg c, if_neg c2, if_neg c3, p_cl (by omega), z4, b9]
      refine s12_in (fun c3 => br0 ?_) (fun c3 c4 => br1 ⟨_, L.f15, L.k13, ?_⟩)
      · rw [show (if w < 10 then (-1 : Int32) else rowAt (txAt a i t').2.2 (w - 10)) = -1 from p_asked0 (f := 10) z2 (by decide) (fun z => c3 ⟨z.1, by rw [p_ti (by omega)]; have := z.2; omega⟩)]; exact QM.same hR
      · rw [p_ti (by omega)] at c4
        obtain ⟨j, hj, rfl, e4⟩ := p_asked1 (l := (txAt a i t').2.2) (f := 10) z2 (by decide) c3 (by omega)
        have e5 : ((10 : Int32) * nI (3 * i + t') + nI (10 + j)) - (10 : Int32) = nI (10 * (3 * i + t') + j) := by
          rw [e10, show 10 * (3 * i + t') + (10 + j) = 10 * (3 * i + t') + j + 10 by omega]
          exact (pk_sub (a := 10 * (3 * i + t') + j + 10) (b := 10) (by omega)).trans (by rw [Nat.add_sub_cancel])
        rw [show (if nI (10 + j) < 10 then (-1 : Int32) else rowAt (txAt a i t').2.2 (nI (10 + j) - 10)) = _ from e4, e5, p_cl (by omega)]
        refine ⟨L.v13 (i := 10 * (3 * i + t') + j) (by omega) rfl, ?_⟩
        rw [show rI M (m + 13) (10 * (3 * i + t') + j) = (txAt a i t').2.2.getD j 0 from z5 j hj]; exact QM.same hR
/-- a TEXT has changed -/
theorem mSrc.tx {l : List PcT} {i t : Nat} {x : TxT} {M' : gh_M} {F : List Nat} (h : mSrc m M l) (hi : i < l.length) (ht : t < 3) (c : Ch m [10, 11, 12, 13] F M M') (hF : 2 ∉ F) (ho : ∀ q, q ≠ 3 * i + t → rI M' (m + 10) q = rI M (m + 10) q ∧ rI M' (m + 11) q = rI M (m + 11) q ∧ rI M' (m + 12) q = rI M (m + 12) q) (hw : ∀ q, (q < 10 * (3 * i + t) ∨ 10 * (3 * i + t) + 10 ≤ q) → rI M' (m + 13) q = rI M (m + 13) q) (hx : txM (rI M' (m + 10) (3 * i + t)) (rI M' (m + 11) (3 * i + t)) (rI M' (m + 12) (3 * i + t)) (fun j => rI M' (m + 13) (10 * (3 * i + t) + j)) x) : mSrc m M' (setTx l i t x) := by
  have h8 := h.1
  refine ⟨by unfold setTx; simpa using h.1, by rw [c.fl 2 hF]; unfold setTx; rw [List.length_set]; exact h.2.1, fun k hk => ?_⟩
  unfold setTx at hk ⊢
  rw [List.length_set] at hk
  obtain ⟨q1, q2, q3, q4, q5, q6, q7⟩ := h.ats hk
  have tt : ∀ s, s < 3 → ¬ (k = i ∧ s = t) → txM (rI M' (m + 10) (3 * k + s)) (rI M' (m + 11) (3 * k + s)) (rI M' (m + 12) (3 * k + s)) (fun j => rI M' (m + 13) (10 * (3 * k + s) + j)) ((l.getD k pc0).2.2.2.2 s) := fun s hs hne => by
    obtain ⟨o1, o2, o3⟩ := ho (3 * k + s) (by omega)
    obtain ⟨u1, u2⟩ := q7 s hs
    rw [o1, o2, o3]
    refine ⟨u1, ?_⟩
    rcases u2 with u2 | ⟨u2, u3, u4, u5, u6⟩
    · exact Or.inl u2
    · refine Or.inr ⟨u2, u3, u4, u5, fun j hj => ?_⟩
      show rI M' (m + 13) (10 * (3 * k + s) + j) = _
      rw [hw _ (by omega)]; exact u6 j hj
  rw [p_set_getD hk, c.ar 2 (by decide) (by decide) (by simp), c.ar 3 (by decide) (by decide) (by simp), c.ar 4 (by decide) (by decide) (by simp), c.ar 5 (by decide) (by decide) (by simp), c.ar 6 (by decide) (by decide) (by simp)]
  by_cases e : k = i
  · subst e
    rw [if_pos rfl]
    refine ⟨q1, q2, q3, q4, q5, q6, fun s hs => ?_⟩
    show txM _ _ _ _ (if s = t then x else ((l.getD k pc0).2.2.2.2 s))
    by_cases es : s = t
    · subst es; rw [if_pos rfl]; exact hx
    · rw [if_neg es]; exact tt s hs (by omega)
  · rw [if_neg e]
    exact ⟨q1, q2, q3, q4, q5, q6, fun s hs => tt s hs (by omega)⟩
theorem s12_three {post : Int32 → gh_M → Prop} {p t x : Int32} (h : RM sh m a M) (h0 : (p_ix (aS a).length p = none ∨ p_ix 3 t = none ∨ p_ix (aH a).length x = none) → post 0 M) (h1 : ∀ i t' j, i < (aS a).length → t' < 3 → j < (aH a).length → p = nI i → t = nI t' → x = nI j → p_ix (aS a).length p = some i → p_ix 3 t = some t' → p_ix (aH a).length x = some j → post 1 M) : wp_X12_areThree sh M m p t x post := by
  obtain ⟨L, d1, d2, d3, d4, d5, d6, d7, d8⟩ := h
  unfold wp_X12_areThree
  refine ⟨L.1, s12_isPiece L d2 (fun e => br0 (h0 (Or.inl e))) (fun i hi e1 e => br1 (s12_isTongue (fun e2 _ => br0 (h0 (Or.inr (Or.inl e2)))) (fun t' ht' e3 e2 => br1 (s12_isHand L d4 (fun e4 => br0 (h0 (Or.inr (Or.inr e4)))) (fun j hj e5 e4 => br1 (h1 i t' j hi ht' hj e1 e3 e5 e e2 e4))))))⟩
theorem whyNo_none {p t x : Int32} (h : p_ix (aS a).length p = none ∨ p_ix 3 t = none ∨ p_ix (aH a).length x = none) : whyNo a p t x = -1 := by
  unfold whyNo
  rcases h with h | h | h
  · rw [h]
  · rw [h]; cases p_ix (aS a).length p <;> rfl
  · rw [h]; cases p_ix (aS a).length p <;> cases p_ix 3 t <;> rfl
theorem mo_write (h : RM sh m a M) (p t x : Int32) : wp_X12_write sh M m p t x (QM sh m M (opWrite a p t x)) := by
  have hR := h
  obtain ⟨L, d1, d2, d3, d4, d5, d6, d7, d8⟩ := h
  unfold wp_X12_write opWrite
  have h8 := d2.1
  have hl := d1.1
  have hh := d4.1
  refine ⟨L.1, s12_three hR (fun e => br0 ?_) (fun i t' j hi ht' hj e1 e3 e5 g1 g2 g3 => br1 ⟨_, L.f3, L.k2, L.v2 (i := i) (by omega) e1, ?_⟩)⟩
  · rw [whyNo_none e, iteP_t (by decide)]; exact QM.same hR
  have hw : whyNo a p t x = if (pcAt a i).1 = 1 then -3 else iteP (kn (hnAt a j) t') 0 (-3) := by unfold whyNo; rw [g1, g2, g3]
  subst e1 e3 e5
  obtain ⟨q1, q2, q3, q4, q5, q6, q7⟩ := d2.ats hi
  rw [p_cl (by omega), show rI M (m + 2) i = (pcAt a i).1 from q1]
  refine ⟨fun c => ?_, fun c => s12_knows L d4 hj (fun c2 => br0 ?_) (fun c2 => br1 ?_)⟩
  · rw [if_pos c] at hw; rw [hw, iteP_t (by decide)]; exact QM.same hR
  · rw [if_neg c, iteP_f c2] at hw; rw [hw, iteP_t (by decide)]; exact QM.same hR
  rw [if_neg c, iteP_t c2] at hw
  rw [hw, iteP_f (by decide), g1, g2, d1.2.1]
  refine ⟨fun c3 => ?_, fun c3 => s12_hasWord L d1 (fun c4 => br0 ?_) (fun c4 => br1 ?_)⟩
  · rw [if_pos ((p_eqI (b := 0) (by omega) (by omega)).mp c3)]; exact QM.same hR
  · have hz : ¬ (aD a).length = 0 := fun z => c3 (by rw [z]; rfl)
    rw [if_neg hz, iteP_f c4, e3]
    dsimp only
    refine ⟨_, L.f12, L.k10, L.v10 (i := 3 * i + t') (by omega) rfl, ?_⟩
    rw [p_cl (by omega)]
    have c5 : Ch m [10, 11, 12, 13] [0] M (wI M (m + 10) (3 * i + t') 1) := Ch.wa 10 _ _ (by decide) (by decide) (by decide)
    have c6 : Ch m [10, 11, 12, 13] [0] M (wI (wI M (m + 10) (3 * i + t') 1) (m + 11) (3 * i + t') (nI j)) := c5.tr (Ch.wa 11 _ _ (by decide) (by decide) (by decide))
    refine ⟨_, (c5.lm L).f13, L.k11, L.v11 (i := 3 * i + t') (by omega) rfl, _, (c6.lm L).f14, ?_⟩
    rintro M23 rfl
    refine ⟨L.k12, L.v12 (i := 3 * i + t') (by omega) rfl, ?_⟩
    have c7 : Ch m [10, 11, 12, 13] [0] M (wI (wI (wI M (m + 10) (3 * i + t') 1) (m + 11) (3 * i + t') (nI j)) (m + 12) (3 * i + t') (rI M m 0)) := c6.tr (Ch.wa 12 _ _ (by decide) (by decide) (by decide))
    rw [d1.2.1] at c7 ⊢
    have r10 : ∀ q, rI (wI (wI (wI M (m + 10) (3 * i + t') 1) (m + 11) (3 * i + t') (nI j)) (m + 12) (3 * i + t') (nI (aD a).length)) (m + 10) q = if q = 3 * i + t' then 1 else rI M (m + 10) q := fun q => by
      rw [rI_ne _ _ (by omega), rI_ne _ _ (by omega), rI_wI]
      by_cases e : q = 3 * i + t'
      · rw [if_pos ⟨rfl, e⟩, if_pos e]
      · rw [if_neg (fun z => e z.2), if_neg e]
    have r11 : ∀ q, rI (wI (wI (wI M (m + 10) (3 * i + t') 1) (m + 11) (3 * i + t') (nI j)) (m + 12) (3 * i + t') (nI (aD a).length)) (m + 11) q = if q = 3 * i + t' then nI j else rI M (m + 11) q := fun q => by
      rw [rI_ne _ _ (by omega), rI_wI]
      by_cases e : q = 3 * i + t'
      · rw [if_pos ⟨rfl, e⟩, if_pos e]
      · rw [if_neg (fun z => e z.2), if_neg e, rI_ne _ _ (by omega)]
    have r12 : ∀ q, rI (wI (wI (wI M (m + 10) (3 * i + t') 1) (m + 11) (3 * i + t') (nI j)) (m + 12) (3 * i + t') (nI (aD a).length)) (m + 12) q = if q = 3 * i + t' then nI (aD a).length else rI M (m + 12) q := fun q => by
      rw [rI_wI]
      by_cases e : q = 3 * i + t'
      · rw [if_pos ⟨rfl, e⟩, if_pos e]
      · rw [if_neg (fun z => e z.2), if_neg e, rI_ne _ _ (by omega), rI_ne _ _ (by omega)]
    have r13 : ∀ q, rI (wI (wI (wI M (m + 10) (3 * i + t') 1) (m + 11) (3 * i + t') (nI j)) (m + 12) (3 * i + t') (nI (aD a).length)) (m + 13) q = rI M (m + 13) q := fun q => by rw [rI_ne _ _ (by omega), rI_ne _ _ (by omega), rI_ne _ _ (by omega)]
    have r1 : ∀ q, rI (wI (wI (wI M (m + 10) (3 * i + t') 1) (m + 11) (3 * i + t') (nI j)) (m + 12) (3 * i + t') (nI (aD a).length)) (m + 1) q = rI M (m + 1) q := fun q => by rw [rI_ne _ _ (by omega), rI_ne _ _ (by omega), rI_ne _ _ (by omega)]
    generalize wI (wI (wI M (m + 10) (3 * i + t') 1) (m + 11) (3 * i + t') (nI j)) (m + 12) (3 * i + t') (nI (aD a).length) = M0 at c7 r10 r11 r12 r13 r1 ⊢
    unfold wp_X12_write_95
    refine for1 0 (aD a).length (by omega) (by omega) (fun n M1 => Ch m [13] [] M0 M1 ∧ ∀ q, rI M1 (m + 13) q = if 10 * (3 * i + t') ≤ q ∧ q < 10 * (3 * i + t') + n then (aD a).getD (q - 10 * (3 * i + t')) 0 else rI M (m + 13) q) ⟨Ch.rf _ _ _ _, fun q => by rw [if_neg (by omega), r13]⟩ ?_ ?_
    · rintro n M1 k - hn ⟨hc, hq⟩ hk
      unfold wb_X12_write_95
      dsimp only
      have L1 := hc.lm (c7.lm L)
      refine ⟨fun c => absurd ((p_leI (by omega) (by omega)).mp c) (by omega), fun _ => ⟨L.1, _, L1.f15, _, L1.f1, L.k1, L.v1 (i := n) (by omega) rfl, L.k13, L.v13 (i := 10 * (3 * i + t') + n) (by omega) (e10 _ _), hk _ ⟨hc.tr (Ch.wa 13 _ _ (by decide) (by decide) (by decide)), fun q => ?_⟩⟩⟩
      rw [e10, p_cl (by omega), p_cl (by omega), hc.ar 1 (by decide) (by decide) (by decide), r1, d1.2.2 n hn, rI_wI, hq]
      by_cases e : q = 10 * (3 * i + t') + n
      · rw [if_pos ⟨rfl, e⟩, if_pos (by omega), show q - 10 * (3 * i + t') = n by omega]
      · rw [if_neg (fun z => e z.2)]
        by_cases e2 : 10 * (3 * i + t') ≤ q ∧ q < 10 * (3 * i + t') + n
        · rw [if_pos e2, if_pos (by omega)]
        · rw [if_neg e2, if_neg (by omega)]
    · rintro M1 k ⟨hc, hq⟩
      unfold wb_X12_write_95
      dsimp only
      refine ⟨fun _ => ⟨L.1, ?_⟩, fun c => absurd ((p_leI (by omega) (by omega)).mpr (Nat.le_refl _)) c⟩
      have c8 : Ch m [10, 11, 12, 13] [0] M (wI M1 m 0 (0 : Int32)) := (c7.tr (hc.mono (by decide) (by decide))).tr (Ch.wf 0 _ (by decide))
      refine QM.to ⟨⟨Nat.zero_le _, by rw [rI_same]; rfl, fun i hi => absurd hi (Nat.not_lt_zero i)⟩, d2.tx (x := (1, nI j, aD a)) hi ht' c8 (by decide) (fun q hne => ⟨?_, ?_, ?_⟩) (fun q hne => ?_) ⟨?_, Or.inr ⟨Or.inl rfl, hl, ?_, ?_, fun n hn => ?_⟩⟩, d3.ch c8 (by decide) (by decide), d4.ch c8 (by decide) (by decide), d5.ch c8 (by decide) (by decide), (c8.fl 24 (by decide)).trans d6, d7.ch c8 (by decide) (by decide), d8.ch c8 (by decide) (by decide)⟩ L c8
      · rw [rI_ne _ _ (by omega), hc.ar 10 (by decide) (by decide) (by decide), r10, if_neg hne]
      · rw [rI_ne _ _ (by omega), hc.ar 11 (by decide) (by decide) (by decide), r11, if_neg hne]
      · rw [rI_ne _ _ (by omega), hc.ar 12 (by decide) (by decide) (by decide), r12, if_neg hne]
      · rw [rI_ne _ _ (by omega), hq, if_neg (by omega)]
      · rw [rI_ne _ _ (by omega), hc.ar 10 (by decide) (by decide) (by decide), r10, if_pos rfl]
      · rw [rI_ne _ _ (by omega), hc.ar 11 (by decide) (by decide) (by decide), r11, if_pos rfl]
      · rw [rI_ne _ _ (by omega), hc.ar 12 (by decide) (by decide) (by decide), r12, if_pos rfl]
      · replace hn : n < (aD a).length := hn
        show rI (wI M1 m 0 0) (m + 13) (10 * (3 * i + t') + n) = (aD a).getD n 0
        rw [rI_ne _ _ (by omega), hq, if_pos (by omega), show 10 * (3 * i + t') + n - 10 * (3 * i + t') = n by omega]
  · have hz : ¬ (aD a).length = 0 := fun z => c3 (by rw [z]; rfl)
    rw [if_neg hz, iteP_t c4]; exact QM.same hR
end MC
