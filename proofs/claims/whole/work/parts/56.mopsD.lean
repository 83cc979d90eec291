/-! the reference's calls: nearest, reuse, memory, effort -/
def nrI (o : Option (Nat × Nat)) : Int32 := match o with
  | none => -1
  | some (k, _) => nI k
def nrD (o : Option (Nat × Nat)) : Int32 := match o with
  | none => 1000000
  | some (_, d) => nI d
section MD
variable {sh : gh_Sh} {m : Nat} {a : AbS} {M : gh_M}
theorem mMem.ats {l : List EnT} {k : Nat} (h : mMem m M l) (hk : k < l.length) : rI M (m + 20) (21 * k) = (l.getD k en0).1 ∧ (l.getD k en0).2.1.length ≤ 8 ∧ (l.getD k en0).2.2.length ≤ 10 ∧ rI M (m + 20) (21 * k + 1) = nI (l.getD k en0).2.1.length ∧ rI M (m + 20) (21 * k + 2) = nI (l.getD k en0).2.2.length ∧ (∀ j, j < (l.getD k en0).2.1.length → rI M (m + 20) (21 * k + 3 + j) = (l.getD k en0).2.1.getD j 0) ∧ ∀ j, j < (l.getD k en0).2.2.length → rI M (m + 20) (21 * k + 11 + j) = (l.getD k en0).2.2.getD j 0 := h.2.2 k hk
theorem s12_nearest {post : gh_M → Prop} {i : Nat} {t : Int32} {l : List EnT} {ps : List PcT} (L : LM sh M m) (d2 : mSrc m M ps) (d7 : mMem m M l) (hi : i < ps.length) (hp : ∀ M', Ch m [25, 26] [41, 42] M M' → rI M' m 41 = nrI (nearK l (ps.getD i pc0).2.1 t l.length) → rI M' m 42 = nrD (nearK l (ps.getD i pc0).2.1 t l.length) → post M') : wp_X12_findNearest sh M m (nI i) t post := by
  unfold wp_X12_findNearest wp_X12_findNearest_13
  have h8 := d2.1
  have h20 := d7.1
  obtain ⟨q1, q2, q3, q4, -⟩ := d2.ats hi
  refine ⟨L.1, ?_⟩
  refine for1 0 l.length (by omega) (by omega) (fun k M1 => Ch m [25, 26] [41, 42] M M1 ∧ rI M1 m 41 = nrI (nearK l (ps.getD i pc0).2.1 t k) ∧ rI M1 m 42 = nrD (nearK l (ps.getD i pc0).2.1 t k)) ⟨(Ch.wf 41 _ (by decide)).tr (Ch.wf 42 _ (by decide)), (rI_ne _ _ (by omega)).trans (rI_same _ _ _ _), rI_same _ _ _ _⟩ ?_ ?_
  · rintro k M1 kk - hk ⟨hc, h1, h2⟩ hkk
    unfold wb_X12_findNearest_13
    dsimp only
    have L1 := hc.lm L
    obtain ⟨m1, m2, m3, m4, m5, m6, m7⟩ := d7.ats hk
    have hu : nearK l (ps.getD i pc0).2.1 t (k + 1) = if (l.getD k en0).1 = t then (match nearK l (ps.getD i pc0).2.1 t k with
      | none => some (k, dist (ps.getD i pc0).2.1 (l.getD k en0).2.1)
      | some (q, d) => if dist (ps.getD i pc0).2.1 (l.getD k en0).2.1 ≤ d then some (k, dist (ps.getD i pc0).2.1 (l.getD k en0).2.1) else some (q, d)) else nearK l (ps.getD i pc0).2.1 t k := rfl
    rw [hc.fl 25 (by decide), show rI M m 25 = nI l.length from d7.2.1]
    refine ⟨L.1, fun c => absurd ((p_leI (by omega) (by omega)).mp c) (by omega), fun _ => ⟨_, L1.f26, L.k20, L.v20 (i := 21 * k) (by omega) (m21 _), ?_⟩⟩
    rw [m21, p_cl (show 21 * k < 2147483648 by omega), hc.ar 20 (by decide) (by decide) (by decide), m1]
    refine ⟨fun c => ⟨_, L1.f5, _, L1.f4, L.k3, L.v3 (i := i) (by omega) rfl, L.v20 (i := 21 * k + 1) (by omega) (a1 _), ?_⟩, fun c => ?_⟩
    · rw [p_cl (show i < 2147483648 by omega), hc.ar 3 (by decide) (by decide) (by decide), q3, a1, p_cl (show 21 * k + 1 < 2147483648 by omega), m4, m8, a3]
      have hd := dist_max (ps.getD i pc0).2.1 (l.getD k en0).2.1
      refine s12_apart L1 q2 m2 L.k4 L.k20 (by rw [L.n4]; omega) (by rw [L.n20]; omega) (by rw [L.n4]; decide) (by rw [L.n20]; decide) (by omega) (by omega) (fun j hj => by rw [hc.ar 4 (by decide) (by decide) (by decide)]; exact q4 j hj) (fun j hj => by rw [hc.ar 20 (by decide) (by decide) (by decide)]; exact m6 j hj) (fun M2 hc2 => ?_)
      have hc3 : Ch m [25, 26] [41, 42] M M2 := hc.tr (hc2.mono (by decide) (by decide))
      unfold wp_X12_findNearest_78 wp_X12_findNearest_107
      refine ⟨fun c2 => absurd ((p_leI (a := 1000000) (by omega) (by omega)).mp c2) (by omega), fun _ => ⟨L.1, ?_⟩⟩
      rw [hc2.fl 42 (by decide), h2]
      cases hn : nearK l (ps.getD i pc0).2.1 t k with
      | none =>
        refine ⟨fun c2 => absurd ((p_ltI (a := 1000000) (by omega) (by omega)).mp c2) (by omega), fun _ => hkk _ ⟨hc3.tr ((Ch.wf 41 _ (by decide)).tr (Ch.wf 42 _ (by decide))), ?_, ?_⟩⟩
        · rw [rI_ne _ _ (by omega), rI_same, hu, if_pos c, hn]; rfl
        · rw [rI_same, hu, if_pos c, hn]; rfl
      | some qd =>
        obtain ⟨q, d⟩ := qd
        have hq := nearK_lt hn
        have hdb : d ≤ 8 := by
          rw [hq.2.1]
          have := dist_max (ps.getD i pc0).2.1 (l.getD q en0).2.1
          have := (d7.ats (show q < l.length by omega)).2.1
          omega
        dsimp only [nrD]
        refine ⟨fun c2 => hkk _ ⟨hc3, ?_, ?_⟩, fun c2 => hkk _ ⟨hc3.tr ((Ch.wf 41 _ (by decide)).tr (Ch.wf 42 _ (by decide))), ?_, ?_⟩⟩
        · rw [p_ltI (by omega) (by omega)] at c2
          rw [hu, if_pos c, hn, hc2.fl 41 (by decide), h1, hn]
          dsimp only
          rw [if_neg (by omega)]
        · rw [p_ltI (by omega) (by omega)] at c2
          rw [hu, if_pos c, hn, hc2.fl 42 (by decide), h2, hn]
          dsimp only
          rw [if_neg (by omega)]
        · rw [p_ltI (by omega) (by omega)] at c2
          rw [rI_ne _ _ (by omega), rI_same, hu, if_pos c, hn]
          dsimp only
          rw [if_pos (by omega)]; rfl
        · rw [p_ltI (by omega) (by omega)] at c2
          rw [rI_same, hu, if_pos c, hn]
          dsimp only
          rw [if_pos (by omega)]; rfl
    · unfold wp_X12_findNearest_78 wp_X12_findNearest_107
      refine ⟨fun _ => hkk _ ⟨hc, ?_, ?_⟩, fun c2 => absurd (show (1000000 : Int32) ≤ 1000000 by decide) c2⟩
      · rw [hu, if_neg c]; exact h1
      · rw [hu, if_neg c]; exact h2
  · rintro M1 kk ⟨hc, h1, h2⟩
    unfold wb_X12_findNearest_13
    dsimp only
    rw [hc.fl 25 (by decide), show rI M m 25 = nI l.length from d7.2.1]
    exact ⟨L.1, fun _ => hp M1 hc h1 h2, fun c => absurd ((p_leI (by omega) (by omega)).mpr (Nat.le_refl _)) c⟩
theorem mo_nearest (h : RM sh m a M) (p t w : Int32) : wp_X12_nearest sh M m p t w (QM sh m M (opNearest a p t w)) := by
  have hR := h
  obtain ⟨L, d1, d2, d3, d4, d5, d6, d7, d8⟩ := h
  unfold wp_X12_nearest opNearest
  have h8 := d2.1
  have h20 := d7.1
  refine ⟨L.1, s12_isPiece L d2 (fun e => br0 ?_) (fun i hi e1 e => br1 (s12_isTongue (fun e2 _ => br0 ?_) (fun t' ht' e3 e2 => br1 (s12_in (fun c => br0 ?_) (fun c c' => br1 ?_)))))⟩
  · rw [e]; exact QM.same hR
  · rw [e, e2]; exact QM.same hR
  · rw [e, e2]
    dsimp only
    rw [iteP_f (c := inR w 0 2) c]; exact QM.same hR
  rw [e, e2]
  dsimp only
  rw [iteP_t (c := inR w 0 2) ⟨c, c'⟩]
  subst e1
  refine s12_nearest L d2 d7 hi (fun M1 hc n1 n2 => ?_)
  have hR1 := RM.scr hR hc (by decide) (by decide)
  unfold nearA
  have pw : (aS a).getD i pc0 = pcAt a i := rfl
  rw [pw] at n1 n2
  rw [n1]
  cases hn : nearK (aM a) (pcAt a i).2.1 t (aM a).length with
  | none => exact ⟨fun q => absurd q (by decide), fun _ => ⟨rfl, hR1, hc.2.2.fw⟩⟩
  | some kd =>
    obtain ⟨k, d⟩ := kd
    have hk := (nearK_lt hn).1
    rw [hn] at n1 n2
    dsimp only [nrI]
    dsimp only [nrI] at n1
    dsimp only [nrD] at n2
    refine ⟨fun _ => ⟨fun c2 => ?_, fun c2 => ⟨fun c3 => ?_, fun c3 => ⟨_, hR1.1.f26, L.k20, L.v20 (i := 21 * k + 2) (by omega) (by rw [m21, a2]), ?_⟩⟩⟩, fun q => absurd (nI_pos' (by omega)) q⟩
    · rw [if_pos c2]; exact ⟨rfl, hR1, hc.2.2.fw⟩
    · rw [if_neg c2, if_pos c3, n2]; exact ⟨rfl, hR1, hc.2.2.fw⟩
    · rw [if_neg c2, if_neg c3, m21, a2, p_cl (by omega), hc.ar 20 (by decide) (by decide) (by decide), (d7.ats hk).2.2.2.2.1]; exact ⟨rfl, hR1, hc.2.2.fw⟩
theorem s12_effortOf {post : Int32 → gh_M → Prop} {i t : Nat} (h : RM sh m a M) (hi : i < (aS a).length) (ht : t < 3) (hp : ∀ M', Ch m [25, 26] [41, 42] M M' → post (effA a i t) M') : wp_X12_effortOf sh M m (nI i) (nI t) post := by
  have hR := h
  obtain ⟨L, d1, d2, d3, d4, d5, d6, d7, d8⟩ := h
  unfold wp_X12_effortOf
  unfold effA at hp
  have h8 := d2.1
  have h20 := d7.1
  obtain ⟨q1, q2, q3, q4, q5, q6, q7⟩ := d2.ats hi
  have pw : (aS a).getD i pc0 = pcAt a i := rfl
  have tw : ((aS a).getD i pc0).2.2.2.2 t = txAt a i t := rfl
  have s1 := (q7 t ht).1
  rw [tw] at s1
  rw [pw] at q1 q2 q3
  refine ⟨L.1, _, L.f3, L.k2, L.v2 (i := i) (by omega) rfl, ?_⟩
  rw [p_cl (by omega), q1]
  refine ⟨fun c => ?_, fun c => ⟨_, L.f12, L.k10, L.v10 (i := 3 * i + t) (by omega) (e3 _ _), ?_⟩⟩
  · rw [iteP_f (fun z => z.1 c)] at hp; exact hp M (Ch.rf _ _ _ _)
  rw [e3, p_cl (by omega), s1]
  refine ⟨fun c2 => ?_, fun c2 => s12_nearest L d2 d7 hi (fun M1 hc n1 n2 => ?_)⟩
  · rw [iteP_f (fun z => z.2 c2)] at hp; exact hp M (Ch.rf _ _ _ _)
  rw [iteP_t ⟨c, c2⟩] at hp
  unfold nearA at hp
  rw [pw] at n1 n2
  have hsz : wp_X12_effortOf_69 sh post m (nI i) M1 ↔ post (nI (pcAt a i).2.1.length) M1 := by
    unfold wp_X12_effortOf_69
    refine ⟨fun z => ?_, fun z => ⟨L.1, _, (hc.lm L).f4, L.k3, L.v3 (i := i) (by omega) rfl, ?_⟩⟩
    · obtain ⟨-, q, hq, -, -, hz⟩ := z
      rw [(hc.lm L).f4] at hq
      cases hq
      rw [p_cl (by omega), hc.ar 3 (by decide) (by decide) (by decide), q3] at hz; exact hz
    · rw [p_cl (by omega), hc.ar 3 (by decide) (by decide) (by decide), q3]; exact z
  unfold wp_X12_effortOf_50
  rw [hsz, n1, n2]
  have hp1 := hp M1 hc
  cases hn : nearK (aM a) (pcAt a i).2.1 (nI t) (aM a).length with
  | none =>
    rw [hn] at hp1
    exact ⟨fun _ => ⟨L.1, fun _ => hp1, fun q => absurd (show (-1 : Int32) < 0 by decide) q⟩, fun q => absurd (show (-1 : Int32) < 0 by decide) q⟩
  | some kd =>
    obtain ⟨k, d⟩ := kd
    obtain ⟨hk, hd, -⟩ := nearK_lt hn
    have hdb : d ≤ 8 := by
      rw [hd]
      have := dist_max (pcAt a i).2.1 ((aM a).getD k en0).2.1
      have := (d7.ats hk).2.1
      omega
    rw [hn] at hp1
    dsimp only [effD] at hp1
    dsimp only [nrI, nrD]
    have nk : ¬ nI k < 0 := nI_pos (by omega)
    refine ⟨fun q => absurd q nk, fun _ => ⟨fun c3 => ?_, fun c3 => ⟨L.1, fun q => absurd q nk, fun _ => ⟨fun c4 => ?_, fun c4 => ?_⟩⟩⟩⟩
    · rw [if_pos ((p_eqI (b := 0) (by omega) (by omega)).mp c3)] at hp1; exact hp1
    · have h3 : 3 ≤ d := (p_leI (a := 3) (by omega) (by omega)).mp c4
      rw [if_neg (by omega), if_neg (by omega)] at hp1; exact hp1
    · have h3 : ¬ 3 ≤ d := fun z => c4 ((p_leI (a := 3) (by omega) (by omega)).mpr z)
      have h0 : ¬ d = 0 := fun z => c3 (by rw [z]; rfl)
      rw [if_neg h0, if_pos (by omega)] at hp1; exact hp1
theorem mo_effort (h : RM sh m a M) (p t : Int32) : wp_X12_effort sh M m p t (QM sh m M (opEffort a p t)) := by
  have hR := h
  obtain ⟨L, d1, d2, d3, d4, d5, d6, d7, d8⟩ := h
  unfold wp_X12_effort opEffort
  refine ⟨L.1, s12_isPiece L d2 (fun e => br0 ?_) (fun i hi e1 e => br1 (s12_isTongue (fun e2 _ => br0 ?_) (fun t' ht' e3 e2 => br1 ?_)))⟩
  · rw [e]; exact QM.same hR
  · rw [e, e2]; exact QM.same hR
  rw [e, e2]
  subst e1 e3
  exact s12_effortOf hR hi ht' (fun M1 hc => ⟨rfl, RM.scr hR hc (by decide) (by decide), hc.2.2.fw⟩)
theorem mo_memory (h : RM sh m a M) (k w : Int32) : wp_X12_memory sh M m k w (QM sh m M (opMemory a k w)) := by
  have hR := h
  obtain ⟨L, d1, d2, d3, d4, d5, d6, d7, d8⟩ := h
  unfold wp_X12_memory opMemory
  have h20 := d7.1
  refine ⟨L.1, ?_⟩
  rw [show rI M m 25 = nI (aM a).length from d7.2.1]
  refine s12_inN (by omega) (fun e => br0 ?_) (fun j hj e1 e => br1 ?_)
  · rw [e]; exact QM.same hR
  rw [e]
  subst e1
  obtain ⟨m1, m2, m3, m4, m5, m6, m7⟩ := d7.ats hj
  dsimp only
  generalize (aM a).getD j en0 = E at m1 m2 m3 m4 m5 m6 m7 ⊢
  refine s12_in (fun c => br0 ⟨_, L.f26, L.k20, L.v20 (i := 21 * j + 1) (by omega) (by rw [m21, a1]), ?_⟩) (fun c c' => br1 ⟨_, L.f26, L.k20, ?_⟩)
  · have c0 : ¬ (0 ≤ w.toInt ∧ w.toInt ≤ 2) := c
    have n : ∀ k : Int32, 0 ≤ k.toInt → k.toInt ≤ 2 → ¬ w = k := fun k h1 h2 z => c0 (z ▸ ⟨h1, h2⟩)
    rw [if_neg (n 0 (by decide) (by decide)), if_neg (n 1 (by decide) (by decide)), if_neg (n 2 (by decide) (by decide)), m21, a1, p_cl (by omega), m4, b9]
    refine s12_in (fun c2 => br0 ⟨_, L.f26, L.k20, L.v20 (i := 21 * j + 2) (by omega) (by rw [a2]), ?_⟩) (fun c2 c2' => br1 ⟨_, L.f26, L.k20, ?_⟩)
    · rw [a2, p_cl (by omega), m5, b19]
      rw [p_ti (by omega)] at c2
      have c2' : ¬ ((10 : Int) ≤ w.toInt ∧ w.toInt ≤ ((9 + E.2.1.length : Nat) : Int)) := c2
      have ep : (if w < 10 then (-1 : Int32) else rowAt E.2.1 (w - 10)) = -1 := p_asked0 (f := 10) (by omega) (by decide) (fun z => c2' ⟨z.1, by have := z.2; omega⟩)
      refine s12_in (fun c3 => br0 ?_) (fun c3 c3' => br1 ⟨_, L.f26, L.k20, ?_⟩)
      · rw [p_ti (by omega)] at c3
        have c3' : ¬ ((20 : Int) ≤ w.toInt ∧ w.toInt ≤ ((19 + E.2.2.length : Nat) : Int)) := c3
        have et : (if w < 20 then (-1 : Int32) else rowAt E.2.2 (w - 20)) = -1 := p_asked0 (f := 20) m3 (by decide) (fun z => c3' ⟨z.1, by have := z.2; omega⟩)
        rw [ep, et, ite_self]; exact QM.same hR
      · rw [p_ti (by omega)] at c3'
        obtain ⟨q, hq, rfl, e4⟩ := p_asked1 (l := E.2.2) (f := 20) m3 (by decide) c3 (by omega)
        have e5 : ((nI (21 * j) + (11 : Int32)) + nI (20 + q)) - (20 : Int32) = nI (21 * j + 11 + q) := by
          rw [a11, nI_add, show 21 * j + 11 + (20 + q) = 21 * j + 11 + q + 20 by omega]
          exact (pk_sub (a := 21 * j + 11 + q + 20) (b := 20) (by omega)).trans (by rw [Nat.add_sub_cancel])
        rw [if_pos (show (20 : Int32) ≤ nI (20 + q) from (p_leI (a := 20) (b := 20 + q) (by omega) (by omega)).mpr (by omega)), show (if nI (20 + q) < 20 then (-1 : Int32) else rowAt E.2.2 (nI (20 + q) - 20)) = _ from e4, e5, p_cl (by omega), m7 q hq]
        exact ⟨L.v20 (i := 21 * j + 11 + q) (by omega) rfl, QM.same hR⟩
    · rw [p_ti (by omega)] at c2'
      obtain ⟨q, hq, rfl, e4⟩ := p_asked1 (l := E.2.1) (f := 10) (by omega) (by decide) c2 (by omega)
      have e5 : ((nI (21 * j) + (3 : Int32)) + nI (10 + q)) - (10 : Int32) = nI (21 * j + 3 + q) := by
        rw [a3, nI_add, show 21 * j + 3 + (10 + q) = 21 * j + 3 + q + 10 by omega]
        exact (pk_sub (a := 21 * j + 3 + q + 10) (b := 10) (by omega)).trans (by rw [Nat.add_sub_cancel])
      rw [if_neg (show ¬ (20 : Int32) ≤ nI (10 + q) from fun z => absurd ((p_leI (a := 20) (b := 10 + q) (by omega) (by omega)).mp z) (by omega)), show (if nI (10 + q) < 10 then (-1 : Int32) else rowAt E.2.1 (nI (10 + q) - 10)) = _ from e4, e5, p_cl (by omega), m6 q hq]
      exact ⟨L.v20 (i := 21 * j + 3 + q) (by omega) rfl, QM.same hR⟩
  · have c1 : 0 ≤ w.toInt := c
    have c2 : w.toInt ≤ 2 := c'
    obtain ⟨q, hq, rfl⟩ := nI_of2 (x := w) (M := 2) (n := 2) rfl (by rw [p_lt0]; omega) (by rw [p_le]; exact c')
    rw [m21, nI_add, p_cl (by omega)]
    refine ⟨L.v20 (i := 21 * j + q) (by omega) rfl, ?_⟩
    have hq3 : q = 0 ∨ q = 1 ∨ q = 2 := by omega
    rcases hq3 with rfl | rfl | rfl
    · rw [if_pos (show nI 0 = 0 from rfl)]; show QM sh m M (E.1, a) (rI M (m + 20) (21 * j)) M; rw [m1]; exact QM.same hR
    · rw [if_neg (by decide), if_pos (show nI 1 = 1 from rfl), m4]; exact QM.same hR
    · rw [if_neg (by decide), if_neg (by decide), if_pos (show nI 2 = 2 from rfl), m5]; exact QM.same hR
theorem mo_reuse (h : RM sh m a M) (p t x : Int32) : wp_X12_reuse sh M m p t x (QM sh m M (opReuse a p t x)) := by
  have hR := h
  obtain ⟨L, d1, d2, d3, d4, d5, d6, d7, d8⟩ := h
  unfold wp_X12_reuse opReuse
  have h8 := d2.1
  have h20 := d7.1
  have hh := d4.1
  refine ⟨L.1, s12_three hR (fun e => br0 ?_) (fun i t' j hi ht' hj e1 e3' e5 g1 g2 g3 => br1 ⟨_, L.f3, L.k2, L.v2 (i := i) (by omega) e1, ?_⟩)⟩
  · rw [whyNo_none e, iteP_t (by decide)]; exact QM.same hR
  have hw : whyNo a p t x = if (pcAt a i).1 = 1 then -3 else iteP (kn (hnAt a j) t') 0 (-3) := by unfold whyNo; rw [g1, g2, g3]
  subst e1 e3' e5
  obtain ⟨q1, q2, q3, q4, q5, q6, q7⟩ := d2.ats hi
  rw [p_cl (by omega), show rI M (m + 2) i = (pcAt a i).1 from q1]
  refine ⟨fun c => ?_, fun c => s12_knows L d4 hj (fun c2 => br0 ?_) (fun c2 => br1 (s12_nearest L d2 d7 hi (fun M1 hc n1 n2 => ?_)))⟩
  · rw [if_pos c] at hw; rw [hw, iteP_t (by decide)]; exact QM.same hR
  · rw [if_neg c, iteP_f c2] at hw; rw [hw, iteP_t (by decide)]; exact QM.same hR
  rw [if_neg c, iteP_t c2] at hw
  rw [hw, iteP_f (by decide), g1, g2]
  have pw : (aS a).getD i pc0 = pcAt a i := rfl
  have hR1 := RM.scr hR hc (by decide) (by decide)
  rw [pw] at n1 n2
  unfold nearA
  dsimp only
  rw [n1]
  cases hn : nearK (aM a) (pcAt a i).2.1 (nI t') (aM a).length with
  | none => exact ⟨fun q => absurd q (by decide), fun _ => ⟨rfl, hR1, hc.2.2.fw⟩⟩
  | some kd =>
    obtain ⟨k, d⟩ := kd
    have hk := (nearK_lt hn).1
    rw [hn] at n1
    dsimp only [nrI] at n1
    dsimp only [nrI]
    obtain ⟨m1, m2, m3, m4, m5, m6, m7⟩ := d7.ats hk
    obtain ⟨L1, b1, b2, b3, b4, b5, b6, b7, b8⟩ := hR1
    refine ⟨fun _ => ?_, fun q => absurd (nI_pos' (by omega)) q⟩
    rw [e3]
    have c5 : Ch m [10, 11, 12, 13] [] M1 (wI M1 (m + 10) (3 * i + t') 1) := Ch.wa 10 _ _ (by decide) (by decide) (by decide)
    have c6 : Ch m [10, 11, 12, 13] [] M1 (wI (wI M1 (m + 10) (3 * i + t') 1) (m + 11) (3 * i + t') (nI j)) := c5.tr (Ch.wa 11 _ _ (by decide) (by decide) (by decide))
    have e41 : rI (wI (wI M1 (m + 10) (3 * i + t') 1) (m + 11) (3 * i + t') (nI j)) m 41 = nI k := by rw [c6.fl 41 (by decide)]; exact n1
    refine ⟨_, L1.f12, L.k10, L.v10 (i := 3 * i + t') (by omega) rfl, ?_⟩
    rw [p_cl (show 3 * i + t' < 2147483648 by omega)]
    refine ⟨_, (c5.lm L1).f13, L.k11, L.v11 (i := 3 * i + t') (by omega) rfl, _, (c6.lm L1).f14, _, (c6.lm L1).f26, L.k20, L.v20 (i := 21 * k + 2) (by omega) (by rw [e41, m21, a2]), ?_⟩
    rintro M24 rfl
    refine ⟨L.k12, L.v12 (i := 3 * i + t') (by omega) rfl, ?_⟩
    rw [e41, m21, a2, p_cl (show 21 * k + 2 < 2147483648 by omega), c6.ar 20 (by decide) (by decide) (by decide), (b7.ats hk).2.2.2.2.1]
    have c7 : Ch m [10, 11, 12, 13] [] M1 (wI (wI (wI M1 (m + 10) (3 * i + t') 1) (m + 11) (3 * i + t') (nI j)) (m + 12) (3 * i + t') (nI ((aM a).getD k en0).2.2.length)) := c6.tr (Ch.wa 12 _ _ (by decide) (by decide) (by decide))
    have r10 : ∀ q, rI (wI (wI (wI M1 (m + 10) (3 * i + t') 1) (m + 11) (3 * i + t') (nI j)) (m + 12) (3 * i + t') (nI ((aM a).getD k en0).2.2.length)) (m + 10) q = if q = 3 * i + t' then 1 else rI M1 (m + 10) q := fun q => by
      rw [rI_ne _ _ (by omega), rI_ne _ _ (by omega), rI_wI]
      by_cases e : q = 3 * i + t'
      · rw [if_pos ⟨rfl, e⟩, if_pos e]
      · rw [if_neg (fun z => e z.2), if_neg e]
    have r11 : ∀ q, rI (wI (wI (wI M1 (m + 10) (3 * i + t') 1) (m + 11) (3 * i + t') (nI j)) (m + 12) (3 * i + t') (nI ((aM a).getD k en0).2.2.length)) (m + 11) q = if q = 3 * i + t' then nI j else rI M1 (m + 11) q := fun q => by
      rw [rI_ne _ _ (by omega), rI_wI]
      by_cases e : q = 3 * i + t'
      · rw [if_pos ⟨rfl, e⟩, if_pos e]
      · rw [if_neg (fun z => e z.2), if_neg e, rI_ne _ _ (by omega)]
    have r12 : ∀ q, rI (wI (wI (wI M1 (m + 10) (3 * i + t') 1) (m + 11) (3 * i + t') (nI j)) (m + 12) (3 * i + t') (nI ((aM a).getD k en0).2.2.length)) (m + 12) q = if q = 3 * i + t' then nI ((aM a).getD k en0).2.2.length else rI M1 (m + 12) q := fun q => by
      rw [rI_wI]
      by_cases e : q = 3 * i + t'
      · rw [if_pos ⟨rfl, e⟩, if_pos e]
      · rw [if_neg (fun z => e z.2), if_neg e, rI_ne _ _ (by omega), rI_ne _ _ (by omega)]
    have r13 : ∀ q, rI (wI (wI (wI M1 (m + 10) (3 * i + t') 1) (m + 11) (3 * i + t') (nI j)) (m + 12) (3 * i + t') (nI ((aM a).getD k en0).2.2.length)) (m + 13) q = rI M1 (m + 13) q := fun q => by rw [rI_ne _ _ (by omega), rI_ne _ _ (by omega), rI_ne _ _ (by omega)]
    generalize wI (wI (wI M1 (m + 10) (3 * i + t') 1) (m + 11) (3 * i + t') (nI j)) (m + 12) (3 * i + t') (nI ((aM a).getD k en0).2.2.length) = M0 at c7 r10 r11 r12 r13 ⊢
    unfold wp_X12_reuse_97
    refine for1 0 ((aM a).getD k en0).2.2.length (by omega) (by omega) (fun n M2 => Ch m [13] [] M0 M2 ∧ ∀ q, rI M2 (m + 13) q = if 10 * (3 * i + t') ≤ q ∧ q < 10 * (3 * i + t') + n then ((aM a).getD k en0).2.2.getD (q - 10 * (3 * i + t')) 0 else rI M1 (m + 13) q) ⟨Ch.rf _ _ _ _, fun q => by rw [if_neg (by omega), r13]⟩ ?_ ?_
    · rintro n M2 kk - hn2 ⟨hc2, hq⟩ hkk
      unfold wb_X12_reuse_97
      dsimp only
      have L2 := hc2.lm (c7.lm L1)
      have e12 : rI M2 (m + 12) (3 * i + t') = nI ((aM a).getD k en0).2.2.length := by rw [hc2.ar 12 (by decide) (by decide) (by decide), r12, if_pos rfl]
      have e41b : rI M2 m 41 = nI k := by rw [hc2.fl 41 (by decide), c7.fl 41 (by decide)]; exact n1
      refine ⟨L.1, _, L2.f14, L.k12, L.v12 (i := 3 * i + t') (by omega) rfl, ?_⟩
      rw [p_cl (show 3 * i + t' < 2147483648 by omega), e12, e41b, m21, a11, nI_add, e10]
      refine ⟨fun c => absurd ((p_leI (by omega) (by omega)).mp c) (by omega), fun _ => ⟨_, L2.f15, _, L2.f26, L.k20, L.v20 (i := 21 * k + 11 + n) (by omega) rfl, L.k13, L.v13 (i := 10 * (3 * i + t') + n) (by omega) rfl, hkk _ ⟨hc2.tr (Ch.wa 13 _ _ (by decide) (by decide) (by decide)), fun q => ?_⟩⟩⟩
      rw [p_cl (by omega), p_cl (by omega), hc2.ar 20 (by decide) (by decide) (by decide), c7.ar 20 (by decide) (by decide) (by decide), (b7.ats hk).2.2.2.2.2.2 n hn2, rI_wI, hq]
      by_cases e : q = 10 * (3 * i + t') + n
      · rw [if_pos ⟨rfl, e⟩, if_pos (by omega), show q - 10 * (3 * i + t') = n by omega]
      · rw [if_neg (fun z => e z.2)]
        by_cases e2 : 10 * (3 * i + t') ≤ q ∧ q < 10 * (3 * i + t') + n
        · rw [if_pos e2, if_pos (by omega)]
        · rw [if_neg e2, if_neg (by omega)]
    · rintro M2 kk ⟨hc2, hq⟩
      unfold wb_X12_reuse_97
      dsimp only
      have L2 := hc2.lm (c7.lm L1)
      have e12 : rI M2 (m + 12) (3 * i + t') = nI ((aM a).getD k en0).2.2.length := by rw [hc2.ar 12 (by decide) (by decide) (by decide), r12, if_pos rfl]
      refine ⟨L.1, _, L2.f14, L.k12, L.v12 (i := 3 * i + t') (by omega) rfl, ?_⟩
      rw [p_cl (show 3 * i + t' < 2147483648 by omega), e12]
      refine ⟨fun _ => ⟨L.v12 (i := 3 * i + t') (by omega) rfl, ?_⟩, fun c => absurd ((p_leI (by omega) (by omega)).mpr (Nat.le_refl _)) c⟩
      have c8 : Ch m [10, 11, 12, 13] [] M1 M2 := c7.tr (hc2.mono (by decide) (by decide))
      refine ⟨rfl, ⟨L2, b1.ch c8 (by decide) (by decide), b2.tx (x := (1, nI j, ((aM a).getD k en0).2.2)) hi ht' c8 (by decide) (fun q hne => ⟨?_, ?_, ?_⟩) (fun q hne => ?_) ⟨?_, Or.inr ⟨Or.inl rfl, m3, ?_, ?_, fun n hn => ?_⟩⟩, b3.ch c8 (by decide) (by decide), b4.ch c8 (by decide) (by decide), b5.ch c8 (by decide) (by decide), (c8.fl 24 (by decide)).trans b6, b7.ch c8 (by decide) (by decide), b8.ch c8 (by decide) (by decide)⟩, Fw.tr hc.2.2.fw c8.2.2.fw (Nat.le_refl _) (Nat.le_refl _) (Nat.le_refl _) (Nat.le_refl _)⟩
      · rw [hc2.ar 10 (by decide) (by decide) (by decide), r10, if_neg hne]
      · rw [hc2.ar 11 (by decide) (by decide) (by decide), r11, if_neg hne]
      · rw [hc2.ar 12 (by decide) (by decide) (by decide), r12, if_neg hne]
      · rw [hq, if_neg (by omega)]
      · rw [hc2.ar 10 (by decide) (by decide) (by decide), r10, if_pos rfl]
      · rw [hc2.ar 11 (by decide) (by decide) (by decide), r11, if_pos rfl]
      · rw [hc2.ar 12 (by decide) (by decide) (by decide), r12, if_pos rfl]
      · replace hn : n < ((aM a).getD k en0).2.2.length := hn
        show rI M2 (m + 13) (10 * (3 * i + t') + n) = ((aM a).getD k en0).2.2.getD n 0
        rw [hq, if_pos (by omega), show 10 * (3 * i + t') + n - 10 * (3 * i + t') = n by omega]
end MD
