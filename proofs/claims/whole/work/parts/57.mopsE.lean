/-! the reference's calls: review, release, many -/
theorem memEq {A : Nat → Int32} {k : Nat} {E : EnT} {t : Int32} {s x : List Int32} (h1 : A (21 * k) = E.1) (h2 : E.2.1.length ≤ 8) (h3 : E.2.2.length ≤ 10) (h4 : A (21 * k + 1) = nI E.2.1.length) (h5 : A (21 * k + 2) = nI E.2.2.length) (h6 : ∀ j, j < E.2.1.length → A (21 * k + 3 + j) = E.2.1.getD j 0) (h7 : ∀ j, j < E.2.2.length → A (21 * k + 11 + j) = E.2.2.getD j 0) (hs : s.length ≤ 8) (hx : x.length ≤ 10) : ((A (21 * k) = t ∧ A (21 * k + 1) = nI s.length ∧ A (21 * k + 2) = nI x.length) ∧ (∀ j, j < s.length → A (21 * k + 3 + j) = s.getD j 0) ∧ ∀ j, j < x.length → A (21 * k + 11 + j) = x.getD j 0) ↔ E = (t, s, x) := by
  obtain ⟨e1, e2, e3⟩ := E
  dsimp only at h1 h2 h3 h4 h5 h6 h7
  constructor
  · rintro ⟨⟨g1, g2, g3⟩, g4, g5⟩
    rw [h1] at g1
    rw [h4, p_eqI (by omega) (by omega)] at g2
    rw [h5, p_eqI (by omega) (by omega)] at g3
    have q1 : e2 = s := p_getD_ext g2 (fun j hj => by rw [← h6 j hj]; exact g4 j (by omega))
    have q2 : e3 = x := p_getD_ext g3 (fun j hj => by rw [← h7 j hj]; exact g5 j (by omega))
    rw [g1, q1, q2]
  · intro e
    cases e
    exact ⟨⟨h1, h4, h5⟩, h6, h7⟩
section ME
variable {sh : gh_Sh} {m : Nat} {a : AbS} {M : gh_M}
theorem s12_isRem {post : Int32 → gh_M → Prop} {i t : Nat} {l : List EnT} {s x : List Int32} (L : LM sh M m) (d7 : mMem m M l) (hi : i < 8) (ht : t < 3) (hs : s.length ≤ 8) (hx : x.length ≤ 10) (h3 : rI M (m + 3) i = nI s.length) (h4 : ∀ j, j < s.length → rI M (m + 4) (8 * i + j) = s.getD j 0) (h12 : rI M (m + 12) (3 * i + t) = nI x.length) (h13 : ∀ j, j < x.length → rI M (m + 13) (10 * (3 * i + t) + j) = x.getD j 0) (h0 : (nI t, s, x) ∉ l → post 0 M) (h1 : (nI t, s, x) ∈ l → post 1 M) : wp_X12_isRemembered sh M m (nI i) (nI t) post := by
  unfold wp_X12_isRemembered wp_X12_isRemembered_12
  have h20 := d7.1
  rw [e3]
  refine for2 0 l.length (by omega) (by omega) (fun k y M1 => M1 = M ∧ y = b2i (∃ q, q < k ∧ l.getD q en0 = (nI t, s, x))) ⟨rfl, (b2i_f (by rintro ⟨q, hq, -⟩; omega)).symm⟩ ?_ ?_
  · rintro k y M1 kk - hk ⟨rfl, rfl⟩ hkk
    unfold wb_X12_isRemembered_12
    dsimp only
    obtain ⟨m1, m2, m3, m4, m5, m6, m7⟩ := d7.ats hk
    have iff := memEq (t := nI t) m1 m2 m3 m4 m5 m6 m7 hs hx
    rw [show rI M1 m 25 = nI l.length from d7.2.1]
    refine ⟨L.1, fun c => absurd ((p_leI (by omega) (by omega)).mp c) (by omega), fun _ => ⟨_, L.f26, L.k20, L.v20 (i := 21 * k) (by omega) (m21 _), ?_⟩⟩
    have go : ∀ y0, y0 = b2i (rI M1 (m + 20) (21 * k) = nI t ∧ rI M1 (m + 20) (21 * k + 1) = nI s.length ∧ rI M1 (m + 20) (21 * k + 2) = nI x.length) → wp_X12_isRemembered_80 sh post (fun x4 x5 M => kk (x4, x5, M)) m (nI i) (nI t) (nI (3 * i + t)) (b2i (∃ q, q < k ∧ l.getD q en0 = (nI t, s, x))) (nI k) (nI (21 * k)) y0 M1 := fun y0 hy0 => by
      unfold wp_X12_isRemembered_80 wp_X12_isRemembered_85
      subst hy0
      refine for2 0 s.length (by omega) (by omega) (fun n y M2 => M2 = M1 ∧ y = b2i ((rI M1 (m + 20) (21 * k) = nI t ∧ rI M1 (m + 20) (21 * k + 1) = nI s.length ∧ rI M1 (m + 20) (21 * k + 2) = nI x.length) ∧ ∀ j, j < n → rI M1 (m + 20) (21 * k + 3 + j) = s.getD j 0)) ⟨rfl, b2i_iff ⟨fun z => ⟨z, fun j hj => absurd hj (Nat.not_lt_zero j)⟩, fun z => z.1⟩⟩ ?_ ?_
      · rintro n y M2 k2 - hn ⟨rfl, rfl⟩ hk2
        unfold wb_X12_isRemembered_85 wp_X12_isRemembered_132 wp_X12_isRemembered_133
        dsimp only
        refine ⟨L.1, _, L.f4, L.k3, L.v3 (i := i) (by omega) rfl, ?_⟩
        rw [p_cl (show i < 2147483648 by omega), h3]
        refine ⟨fun c => absurd ((p_leI (by omega) (by omega)).mp c) (by omega), fun _ => ⟨fun c => hk2 _ _ ⟨rfl, ?_⟩, fun c => ⟨_, L.f26, L.k20, L.v20 (i := 21 * k + 3 + n) (by omega) (by rw [a3, nI_add]), _, L.f5, L.k4, L.v4 (i := 8 * i + n) (by omega) (e8 _ _), ?_⟩⟩⟩
        · rw [b2i_0] at c
          exact (b2i_f (fun z => c ⟨z.1, fun j hj => z.2 j (by omega)⟩)).symm
        · rw [b2i_n0] at c
          rw [a3, nI_add, e8, p_cl (by omega), p_cl (by omega), h4 n hn]
          refine ⟨fun c2 => hk2 _ _ ⟨rfl, (b2i_t ⟨c.1, fun j hj => ?_⟩).symm⟩, fun c2 => hk2 _ _ ⟨rfl, (b2i_f (fun z => c2 (z.2 n (by omega)))).symm⟩⟩
          by_cases e : j = n
          · subst e; exact c2
          · exact c.2 j (by omega)
      · rintro y M2 k2 ⟨rfl, rfl⟩
        unfold wb_X12_isRemembered_85
        dsimp only
        refine ⟨L.1, _, L.f4, L.k3, L.v3 (i := i) (by omega) rfl, ?_⟩
        rw [p_cl (show i < 2147483648 by omega), h3]
        refine ⟨fun _ => ?_, fun c => absurd ((p_leI (by omega) (by omega)).mpr (Nat.le_refl _)) c⟩
        unfold wp_X12_isRemembered_144
        refine for2 0 x.length (by omega) (by omega) (fun n y M3 => M3 = M2 ∧ y = b2i ((rI M2 (m + 20) (21 * k) = nI t ∧ rI M2 (m + 20) (21 * k + 1) = nI s.length ∧ rI M2 (m + 20) (21 * k + 2) = nI x.length) ∧ (∀ j, j < s.length → rI M2 (m + 20) (21 * k + 3 + j) = s.getD j 0) ∧ ∀ j, j < n → rI M2 (m + 20) (21 * k + 11 + j) = x.getD j 0)) ⟨rfl, b2i_iff ⟨fun z => ⟨z.1, z.2, fun j hj => absurd hj (Nat.not_lt_zero j)⟩, fun z => ⟨z.1, z.2.1⟩⟩⟩ ?_ ?_
        · rintro n y M3 k3 - hn ⟨rfl, rfl⟩ hk3
          unfold wb_X12_isRemembered_144 wp_X12_isRemembered_192 wp_X12_isRemembered_193
          dsimp only
          refine ⟨L.1, _, L.f14, L.k12, L.v12 (i := 3 * i + t) (by omega) rfl, ?_⟩
          rw [p_cl (show 3 * i + t < 2147483648 by omega), h12]
          refine ⟨fun c => absurd ((p_leI (by omega) (by omega)).mp c) (by omega), fun _ => ⟨fun c => hk3 _ _ ⟨rfl, ?_⟩, fun c => ⟨_, L.f26, L.k20, L.v20 (i := 21 * k + 11 + n) (by omega) (by rw [a11, nI_add]), _, L.f15, L.k13, L.v13 (i := 10 * (3 * i + t) + n) (by omega) (e10 _ _), ?_⟩⟩⟩
          · rw [b2i_0] at c
            exact (b2i_f (fun z => c ⟨z.1, z.2.1, fun j hj => z.2.2 j (by omega)⟩)).symm
          · rw [b2i_n0] at c
            rw [a11, nI_add, e10, p_cl (by omega), p_cl (by omega), h13 n hn]
            refine ⟨fun c2 => hk3 _ _ ⟨rfl, (b2i_t ⟨c.1, c.2.1, fun j hj => ?_⟩).symm⟩, fun c2 => hk3 _ _ ⟨rfl, (b2i_f (fun z => c2 (z.2.2 n (by omega)))).symm⟩⟩
            by_cases e : j = n
            · subst e; exact c2
            · exact c.2.2 j (by omega)
        · rintro y M3 k3 ⟨rfl, rfl⟩
          unfold wb_X12_isRemembered_144 wp_X12_isRemembered_211 wp_X12_isRemembered_216
          dsimp only
          refine ⟨L.1, _, L.f14, L.k12, L.v12 (i := 3 * i + t) (by omega) rfl, ?_⟩
          rw [p_cl (show 3 * i + t < 2147483648 by omega), h12]
          refine ⟨fun _ => ⟨fun c => ⟨fun c2 => hkk _ _ ⟨rfl, ?_⟩, fun c2 => hkk _ _ ⟨rfl, ?_⟩⟩, fun c => hkk _ _ ⟨rfl, ?_⟩⟩, fun c => absurd ((p_leI (by omega) (by omega)).mpr (Nat.le_refl _)) c⟩
          · rw [b2i_0] at c c2
            refine (b2i_f ?_).symm
            rintro ⟨q, hq, hq2⟩
            by_cases e : q = k
            · subst e; exact c2 (iff.mpr hq2)
            · exact c ⟨q, by omega, hq2⟩
          · rw [b2i_n0] at c2
            exact (b2i_t ⟨k, by omega, iff.mp c2⟩).symm
          · rw [b2i_n0] at c
            obtain ⟨q, hq, hq2⟩ := c
            exact (b2i_t ⟨q, by omega, hq2⟩).symm
    rw [m21, a1, a2, p_cl (show 21 * k < 2147483648 by omega), p_cl (show 21 * k + 1 < 2147483648 by omega), p_cl (show 21 * k + 2 < 2147483648 by omega)]
    unfold wp_X12_isRemembered_79
    refine ⟨fun c => ⟨L.v20 (i := 21 * k + 1) (by omega) rfl, _, L.f4, L.k3, L.v3 (i := i) (by omega) rfl, ?_⟩, fun c => go _ (b2i_f (fun z => c z.1)).symm⟩
    rw [p_cl (show i < 2147483648 by omega), h3]
    refine ⟨fun c2 => ⟨L.v20 (i := 21 * k + 2) (by omega) rfl, _, L.f14, L.k12, L.v12 (i := 3 * i + t) (by omega) rfl, ?_⟩, fun c2 => go _ (b2i_f (fun z => c2 z.2.1)).symm⟩
    rw [p_cl (show 3 * i + t < 2147483648 by omega), h12]
    exact ⟨fun c3 => go _ (b2i_t ⟨c, c2, c3⟩).symm, fun c3 => go _ (b2i_f (fun z => c3 z.2.2)).symm⟩
  · rintro y M1 kk ⟨rfl, rfl⟩
    unfold wb_X12_isRemembered_12
    dsimp only
    rw [show rI M1 m 25 = nI l.length from d7.2.1]
    refine ⟨L.1, fun _ => ⟨b2i_01 _, ?_⟩, fun c => absurd ((p_leI (by omega) (by omega)).mpr (Nat.le_refl _)) c⟩
    by_cases e : ∃ q, q < l.length ∧ l.getD q en0 = (nI t, s, x)
    · rw [b2i_t e]
      obtain ⟨q, hq, hq2⟩ := e
      exact h1 (hq2 ▸ p_getD_mem hq)
    · rw [b2i_f e]
      refine h0 (fun z => ?_)
      obtain ⟨q, hq, hq2⟩ := p_mem_getD (d := en0) z
      exact e ⟨q, hq, hq2⟩
theorem s12_rem59 {post : gh_M → Prop} {i t : Nat} {l : List EnT} {s x : List Int32} (L : LM sh M m) (d7 : mMem m M l) (hl : l.length < 20) (hi : i < 8) (ht : t < 3) (hs : s.length ≤ 8) (hx : x.length ≤ 10) (h3 : rI M (m + 3) i = nI s.length) (h4 : ∀ j, j < s.length → rI M (m + 4) (8 * i + j) = s.getD j 0) (h12 : rI M (m + 12) (3 * i + t) = nI x.length) (h13 : ∀ j, j < x.length → rI M (m + 13) (10 * (3 * i + t) + j) = x.getD j 0) (hp : ∀ M', Ch m [20] [25] M M' → mMem m M' (l ++ [(nI t, s, x)]) → post M') : wp_X12_remember_59 sh post m (nI i) (nI t) M := by
  unfold wp_X12_remember_59
  rw [show rI M m 25 = nI l.length from d7.2.1, m21, a1, a2, e3]
  refine ⟨L.1, _, L.f26, L.k20, L.v20 (i := 21 * l.length) (by omega) rfl, ?_⟩
  rw [p_cl (show 21 * l.length < 2147483648 by omega), p_cl (show 21 * l.length + 1 < 2147483648 by omega), p_cl (show 21 * l.length + 2 < 2147483648 by omega)]
  have c1 : Ch m [20] [] M (wI M (m + 20) (21 * l.length) (nI t)) := Ch.wa 20 _ _ (by decide) (by decide) (by decide)
  refine ⟨_, (c1.lm L).f4, L.k3, L.v3 (i := i) (by omega) rfl, L.v20 (i := 21 * l.length + 1) (by omega) rfl, ?_⟩
  rw [p_cl (show i < 2147483648 by omega), c1.ar 3 (by decide) (by decide) (by decide), h3]
  have c2 : Ch m [20] [] M (wI (wI M (m + 20) (21 * l.length) (nI t)) (m + 20) (21 * l.length + 1) (nI s.length)) := c1.tr (Ch.wa 20 _ _ (by decide) (by decide) (by decide))
  refine ⟨_, (c2.lm L).f14, L.k12, L.v12 (i := 3 * i + t) (by omega) rfl, ?_⟩
  rintro M12 rfl
  rw [p_cl (show 3 * i + t < 2147483648 by omega), c2.ar 12 (by decide) (by decide) (by decide), h12]
  refine ⟨L.v20 (i := 21 * l.length + 2) (by omega) rfl, ?_⟩
  have c3 : Ch m [20] [] M (wI (wI (wI M (m + 20) (21 * l.length) (nI t)) (m + 20) (21 * l.length + 1) (nI s.length)) (m + 20) (21 * l.length + 2) (nI x.length)) := c2.tr (Ch.wa 20 _ _ (by decide) (by decide) (by decide))
  have r20 : ∀ q, rI (wI (wI (wI M (m + 20) (21 * l.length) (nI t)) (m + 20) (21 * l.length + 1) (nI s.length)) (m + 20) (21 * l.length + 2) (nI x.length)) (m + 20) q = if q = 21 * l.length then nI t else if q = 21 * l.length + 1 then nI s.length else if q = 21 * l.length + 2 then nI x.length else rI M (m + 20) q := fun q => by
    by_cases q1 : q = 21 * l.length
    · rw [if_pos q1, rI_ne _ _ (by omega), rI_ne _ _ (by omega), q1, rI_same]
    · rw [if_neg q1]
      by_cases q2 : q = 21 * l.length + 1
      · rw [if_pos q2, rI_ne _ _ (by omega), q2, rI_same]
      · rw [if_neg q2]
        by_cases q3 : q = 21 * l.length + 2
        · rw [if_pos q3, q3, rI_same]
        · rw [if_neg q3, rI_ne _ _ (by omega), rI_ne _ _ (by omega), rI_ne _ _ (by omega)]
  generalize wI (wI (wI M (m + 20) (21 * l.length) (nI t)) (m + 20) (21 * l.length + 1) (nI s.length)) (m + 20) (21 * l.length + 2) (nI x.length) = M0 at c3 r20 ⊢
  unfold wp_X12_remember_113
  refine for1 0 8 (by omega) (by omega) (fun n M1 => Ch m [20] [] M0 M1 ∧ ∀ q, rI M1 (m + 20) q = if 21 * l.length + 3 ≤ q ∧ q < 21 * l.length + 3 + n then rI M (m + 4) (8 * i + (q - (21 * l.length + 3))) else rI M0 (m + 20) q) ⟨Ch.rf _ _ _ _, fun q => by rw [if_neg (by omega)]⟩ ?_ ?_
  · rintro n M1 k - hn ⟨hc, hq⟩ hk
    unfold wb_X12_remember_113
    dsimp only
    have L1 := hc.lm (c3.lm L)
    refine ⟨fun c => absurd ((p_leI (a := 8) (by omega) (by omega)).mp c) (by omega), fun _ => ⟨L.1, _, L1.f26, _, L1.f5, L.k4, L.v4 (i := 8 * i + n) (by omega) (e8 _ _), L.k20, L.v20 (i := 21 * l.length + 3 + n) (by omega) (by rw [a3, nI_add]), hk _ ⟨hc.tr (Ch.wa 20 _ _ (by decide) (by decide) (by decide)), fun q => ?_⟩⟩⟩
    rw [a3, nI_add, e8, p_cl (by omega), p_cl (by omega), hc.ar 4 (by decide) (by decide) (by decide), c3.ar 4 (by decide) (by decide) (by decide), rI_wI, hq]
    by_cases e : q = 21 * l.length + 3 + n
    · rw [if_pos ⟨rfl, e⟩, if_pos (by omega), show q - (21 * l.length + 3) = n by omega]
    · rw [if_neg (fun z => e z.2)]
      by_cases e2 : 21 * l.length + 3 ≤ q ∧ q < 21 * l.length + 3 + n
      · rw [if_pos e2, if_pos (by omega)]
      · rw [if_neg e2, if_neg (by omega)]
  · rintro M1 k ⟨hc, hq⟩
    unfold wb_X12_remember_113
    dsimp only
    refine ⟨fun _ => ?_, fun c => absurd ((p_leI (a := 8) (by omega) (by omega)).mpr (by omega)) c⟩
    unfold wp_X12_remember_152
    refine for1 0 10 (by omega) (by omega) (fun n M2 => Ch m [20] [] M1 M2 ∧ ∀ q, rI M2 (m + 20) q = if 21 * l.length + 11 ≤ q ∧ q < 21 * l.length + 11 + n then rI M (m + 13) (10 * (3 * i + t) + (q - (21 * l.length + 11))) else rI M1 (m + 20) q) ⟨Ch.rf _ _ _ _, fun q => by rw [if_neg (by omega)]⟩ ?_ ?_
    · rintro n M2 k2 - hn ⟨hc2, hq2⟩ hk2
      unfold wb_X12_remember_152
      dsimp only
      have L2 := hc2.lm (hc.lm (c3.lm L))
      refine ⟨fun c => absurd ((p_leI (a := 10) (by omega) (by omega)).mp c) (by omega), fun _ => ⟨L.1, _, L2.f26, _, L2.f15, L.k13, L.v13 (i := 10 * (3 * i + t) + n) (by omega) (e10 _ _), L.k20, L.v20 (i := 21 * l.length + 11 + n) (by omega) (by rw [a11, nI_add]), hk2 _ ⟨hc2.tr (Ch.wa 20 _ _ (by decide) (by decide) (by decide)), fun q => ?_⟩⟩⟩
      rw [a11, nI_add, e10, p_cl (by omega), p_cl (by omega), hc2.ar 13 (by decide) (by decide) (by decide), hc.ar 13 (by decide) (by decide) (by decide), c3.ar 13 (by decide) (by decide) (by decide), rI_wI, hq2]
      by_cases e : q = 21 * l.length + 11 + n
      · rw [if_pos ⟨rfl, e⟩, if_pos (by omega), show q - (21 * l.length + 11) = n by omega]
      · rw [if_neg (fun z => e z.2)]
        by_cases e2 : 21 * l.length + 11 ≤ q ∧ q < 21 * l.length + 11 + n
        · rw [if_pos e2, if_pos (by omega)]
        · rw [if_neg e2, if_neg (by omega)]
    · rintro M2 k2 ⟨hc2, hq2⟩
      unfold wb_X12_remember_152
      dsimp only
      refine ⟨fun _ => ⟨L.1, ?_⟩, fun c => absurd ((p_leI (a := 10) (by omega) (by omega)).mpr (by omega)) c⟩
      have c4 : Ch m [20] [25] M M2 := (c3.tr (hc.tr hc2)).mono (by decide) (by decide)
      rw [show rI M2 m 25 = nI l.length by rw [hc2.fl 25 (by decide), hc.fl 25 (by decide), c3.fl 25 (by decide)]; exact d7.2.1, a1]
      refine hp _ (c4.tr (Ch.wf 25 _ (by decide))) ⟨by simp; omega, by rw [rI_same]; simp, fun k hk => ?_⟩
      simp at hk
      have rr : ∀ q, rI (wI M2 m 25 (nI (l.length + 1))) (m + 20) q = rI M2 (m + 20) q := fun q => rI_ne _ _ (by omega)
      simp only [rr, hq2, hq, r20]
      by_cases e : k = l.length
      · subst e
        rw [p_getD_app]
        dsimp only
        refine ⟨?_, hs, hx, ?_, ?_, fun j hj => ?_, fun j hj => ?_⟩
        · rw [if_neg (by omega), if_neg (by omega), if_pos rfl]
        · rw [if_neg (by omega), if_neg (by omega), if_neg (by omega), if_pos rfl]
        · rw [if_neg (by omega), if_neg (by omega), if_neg (by omega), if_neg (by omega), if_pos rfl]
        · rw [if_neg (by omega), if_pos (by omega), show 21 * l.length + 3 + j - (21 * l.length + 3) = j by omega]; exact h4 j hj
        · rw [if_pos (by omega), show 21 * l.length + 11 + j - (21 * l.length + 11) = j by omega]; exact h13 j hj
      · rw [p_getD_app2 (by omega)]
        obtain ⟨m1, m2, m3, m4, m5, m6, m7⟩ := d7.ats (show k < l.length by omega)
        refine ⟨?_, m2, m3, ?_, ?_, fun j hj => ?_, fun j hj => ?_⟩
        · rw [if_neg (by omega), if_neg (by omega), if_neg (by omega), if_neg (by omega), if_neg (by omega)]; exact m1
        · rw [if_neg (by omega), if_neg (by omega), if_neg (by omega), if_neg (by omega), if_neg (by omega)]; exact m4
        · rw [if_neg (by omega), if_neg (by omega), if_neg (by omega), if_neg (by omega), if_neg (by omega)]; exact m5
        · rw [if_neg (by omega), if_neg (by omega), if_neg (by omega), if_neg (by omega), if_neg (by omega)]; exact m6 j hj
        · rw [if_neg (by omega), if_neg (by omega), if_neg (by omega), if_neg (by omega), if_neg (by omega)]; exact m7 j hj
theorem s12_remember {post : gh_M → Prop} {i t : Nat} {l : List EnT} {s x : List Int32} (L : LM sh M m) (d7 : mMem m M l) (hi : i < 8) (ht : t < 3) (hs : s.length ≤ 8) (hx : x.length ≤ 10) (h3 : rI M (m + 3) i = nI s.length) (h4 : ∀ j, j < s.length → rI M (m + 4) (8 * i + j) = s.getD j 0) (h12 : rI M (m + 12) (3 * i + t) = nI x.length) (h13 : ∀ j, j < x.length → rI M (m + 13) (10 * (3 * i + t) + j) = x.getD j 0) (hp : ∀ M', Ch m [20] [25] M M' → mMem m M' (remL l (nI t, s, x)) → post M') : wp_X12_remember sh M m (nI i) (nI t) post := by
  unfold wp_X12_remember
  have h20 := d7.1
  refine ⟨L.1, s12_isRem L d7 hi ht hs hx h3 h4 h12 h13 (fun hn => br0 ?_) (fun hy => br1 ?_)⟩
  · have hrem : remL l (nI t, s, x) = if l.length < 20 then l ++ [(nI t, s, x)] else l.tail ++ [(nI t, s, x)] := if_neg hn
    rw [hrem] at hp
    rw [show rI M m 25 = nI l.length from d7.2.1]
    refine ⟨fun c => ?_, fun c => ?_⟩
    · have hl : l.length = 20 := (p_eqI (b := 20) (by omega) (by omega)).mp c
      rw [if_neg (by omega)] at hp
      unfold wp_X12_remember_21
      refine for1 0 399 (by omega) (by omega) (fun n M1 => Ch m [20] [] M M1 ∧ ∀ q, rI M1 (m + 20) q = if q < n then rI M (m + 20) (q + 21) else rI M (m + 20) q) ⟨Ch.rf _ _ _ _, fun q => by rw [if_neg (by omega)]⟩ ?_ ?_
      · rintro n M1 k - hn ⟨hc, hq⟩ hk
        unfold wb_X12_remember_21
        dsimp only
        have L1 := hc.lm L
        refine ⟨fun c => absurd ((p_leI (a := 399) (by omega) (by omega)).mp c) (by omega), fun _ => ⟨L.1, _, L1.f26, L.k20, L.v20 (i := n + 21) (by omega) (a21 _), L.v20 (i := n) (by omega) rfl, hk _ ⟨hc.tr (Ch.wa 20 _ _ (by decide) (by decide) (by decide)), fun q => ?_⟩⟩⟩
        rw [a21, p_cl (by omega), p_cl (by omega), hq (n + 21), if_neg (by omega), rI_wI, hq]
        by_cases e : q = n
        · rw [if_pos ⟨rfl, e⟩, if_pos (by omega), e]
        · rw [if_neg (fun z => e z.2)]
          by_cases e2 : q < n
          · rw [if_pos e2, if_pos (by omega)]
          · rw [if_neg e2, if_neg (by omega)]
      · rintro M1 k ⟨hc, hq⟩
        unfold wb_X12_remember_21
        dsimp only
        refine ⟨fun _ => ⟨L.1, ?_⟩, fun c => absurd ((p_leI (a := 399) (by omega) (by omega)).mpr (by omega)) c⟩
        rw [hc.fl 25 (by decide), show rI M m 25 = nI l.length from d7.2.1, p_pred (by omega)]
        have c2 : Ch m [20] [25] M (wI M1 m 25 (nI (l.length - 1))) := (hc.mono (by decide) (by decide)).tr (Ch.wf 25 _ (by decide))
        have d7' : mMem m (wI M1 m 25 (nI (l.length - 1))) l.tail := by
          refine ⟨by rw [List.length_tail]; omega, by rw [rI_same, List.length_tail], fun k hk => ?_⟩
          rw [List.length_tail] at hk
          have e1 : l.tail.getD k en0 = l.getD (k + 1) en0 := by simp [List.getD_eq_getElem?_getD]
          have rr : ∀ q, rI (wI M1 m 25 (nI (l.length - 1))) (m + 20) q = rI M1 (m + 20) q := fun q => rI_ne _ _ (by omega)
          rw [e1]
          simp only [rr, hq]
          obtain ⟨m1, m2, m3, m4, m5, m6, m7⟩ := d7.ats (show k + 1 < l.length by omega)
          refine ⟨?_, m2, m3, ?_, ?_, fun j hj => ?_, fun j hj => ?_⟩
          · rw [if_pos (by omega)]; exact m1
          · rw [if_pos (by omega), show 21 * k + 1 + 21 = 21 * (k + 1) + 1 by omega]; exact m4
          · rw [if_pos (by omega), show 21 * k + 2 + 21 = 21 * (k + 1) + 2 by omega]; exact m5
          · rw [if_pos (by omega), show 21 * k + 3 + j + 21 = 21 * (k + 1) + 3 + j by omega]; exact m6 j hj
          · rw [if_pos (by omega), show 21 * k + 11 + j + 21 = 21 * (k + 1) + 11 + j by omega]; exact m7 j hj
        refine s12_rem59 (c2.lm L) d7' (by rw [List.length_tail]; omega) hi ht hs hx ?_ (fun j hj => ?_) ?_ (fun j hj => ?_) (fun M' hc' hm' => hp M' (c2.tr hc') hm')
        · rw [c2.ar 3 (by decide) (by decide) (by decide)]; exact h3
        · rw [c2.ar 4 (by decide) (by decide) (by decide)]; exact h4 j hj
        · rw [c2.ar 12 (by decide) (by decide) (by decide)]; exact h12
        · rw [c2.ar 13 (by decide) (by decide) (by decide)]; exact h13 j hj
    · have hl : ¬ l.length = 20 := fun z => c (by rw [z]; rfl)
      rw [if_pos (by omega)] at hp
      exact s12_rem59 L d7 (by omega) hi ht hs hx h3 h4 h12 h13 hp
  · have hrem : remL l (nI t, s, x) = l := if_pos hy
    rw [hrem] at hp
    exact hp M (Ch.rf _ _ _ _) d7
theorem mo_review44 (h : RM sh m a M) {i t j : Nat} (hi : i < (aS a).length) (ht : t < 3) (hj : j < (aH a).length) (hs : (txAt a i t).1 = 1 ∨ (txAt a i t).1 = 3) : wp_X12_review_44 sh (QM sh m M (iteP (kn (hnAt a j) t) (if (txAt a i t).2.1 = nI j then (-7, a) else iteP (0 < (fltOf (aT a) (aL a) (pcAt a i) (txAt a i t) (nI t)).toInt) (-10 - fltOf (aT a) (aL a) (pcAt a i) (txAt a i t) (nI t), a) (nI (remL (aM a) (nI t, (pcAt a i).2.1, (txAt a i t).2.2)).length, sM (sS a (setTx (aS a) i t (2, (txAt a i t).2))) (remL (aM a) (nI t, (pcAt a i).2.1, (txAt a i t).2.2)))) (-3, a))) m (nI i) (nI t) (nI j) (nI (3 * i + t)) M := by
  have hR := h
  obtain ⟨L, d1, d2, d3, d4, d5, d6, d7, d8⟩ := h
  unfold wp_X12_review_44
  have h8 := d2.1
  obtain ⟨q1, q2, q3, q4, q5, q6, q7⟩ := d2.ats hi
  have hs0 : ¬ (txAt a i t).1 = 0 := by rcases hs with z | z <;> (rw [z]; decide)
  obtain ⟨t1, t2, t3, t4⟩ := (q7 t ht).pos hs0
  have tw : ((aS a).getD i pc0).2.2.2.2 t = txAt a i t := rfl
  have pw : (aS a).getD i pc0 = pcAt a i := rfl
  rw [tw] at t1 t2 t3 t4
  rw [pw] at q1 q2 q3 q4
  refine ⟨L.1, s12_knows L d4 hj (fun c => br0 ?_) (fun c => br1 ⟨_, L.f13, L.k11, L.v11 (i := 3 * i + t) (by omega) rfl, ?_⟩)⟩
  · rw [iteP_f c]; exact QM.same hR
  rw [iteP_t c, p_cl (show 3 * i + t < 2147483648 by omega), t2]
  refine ⟨fun c2 => ?_, fun c2 => s12_faultOf hR hi ht hs0 ⟨fun c3 => ⟨_, L.f12, L.k10, L.v10 (i := 3 * i + t) (by omega) rfl, ?_⟩, fun c3 => ?_⟩⟩
  · rw [if_pos c2]; exact QM.same hR
  · rw [p_le0] at c3
    rw [if_neg c2, iteP_f (Int.not_lt.mpr c3)]
    have c1 : Ch m [10, 11, 12, 13] [] M (wI M (m + 10) (3 * i + t) 2) := Ch.wa 10 _ _ (by decide) (by decide) (by decide)
    refine s12_remember (c1.lm L) (d7.ch c1 (by decide) (by decide)) (by omega) ht q2 t1 ?_ (fun j hj => ?_) ?_ (fun j hj => ?_) (fun M2 hc2 hm2 => ?_)
    · rw [c1.ar 3 (by decide) (by decide) (by decide)]; exact q3
    · rw [c1.ar 4 (by decide) (by decide) (by decide)]; exact q4 j hj
    · rw [rI_ne _ _ (by omega)]; exact t3
    · rw [rI_ne _ _ (by omega)]; exact t4 j hj
    · have b2 : mSrc m (wI M (m + 10) (3 * i + t) 2) (setTx (aS a) i t (2, (txAt a i t).2)) := d2.tx hi ht c1 (by decide) (fun q hne => ⟨rI_ne _ _ (by omega), rI_ne _ _ (by omega), rI_ne _ _ (by omega)⟩) (fun q hne => rI_ne _ _ (by omega)) ⟨rI_same _ _ _ _, Or.inr ⟨Or.inr (Or.inl rfl), t1, by rw [rI_ne _ _ (by omega)]; exact t2, by rw [rI_ne _ _ (by omega)]; exact t3, fun j hj => by show rI (wI M (m + 10) (3 * i + t) 2) (m + 13) (10 * (3 * i + t) + j) = _; rw [rI_ne _ _ (by omega)]; exact t4 j hj⟩⟩
      have c3' : Ch m [10, 11, 12, 13, 20] [25] M M2 := (c1.mono (by decide) (by decide)).tr (hc2.mono (by decide) (by decide))
      rw [show rI M2 m 25 = _ from hm2.2.1]
      exact QM.to ⟨d1.ch c3' (by decide) (by decide), b2.ch hc2 (by decide) (by decide), d3.ch c3' (by decide) (by decide), d4.ch c3' (by decide) (by decide), d5.ch c3' (by decide) (by decide), (c3'.fl 24 (by decide)).trans d6, hm2, d8.ch c3' (by decide) (by decide)⟩ L c3'
  · rw [p_le0] at c3
    rw [if_neg c2, iteP_t (Int.not_le.mp c3)]; exact QM.same hR
theorem opReview_none {p t x : Int32} (h : p_ix (aS a).length p = none ∨ p_ix 3 t = none ∨ p_ix (aH a).length x = none) : opReview a p t x = (-1, a) := by
  unfold opReview
  rcases h with h | h | h
  · rw [h]
  · rw [h]; cases p_ix (aS a).length p <;> rfl
  · rw [h]; cases p_ix (aS a).length p <;> cases p_ix 3 t <;> rfl
theorem mo_review (h : RM sh m a M) (p t x : Int32) : wp_X12_review sh M m p t x (QM sh m M (opReview a p t x)) := by
  have hR := h
  obtain ⟨L, d1, d2, d3, d4, d5, d6, d7, d8⟩ := h
  unfold wp_X12_review
  have h8 := d2.1
  refine ⟨L.1, s12_three hR (fun e => br0 ?_) (fun i t' j hi ht' hj e1 e3' e5 g1 g2 g3 => br1 ?_)⟩
  · rw [opReview_none e]; exact QM.same hR
  unfold opReview
  rw [g1, g2, g3]
  subst e1 e3' e5
  dsimp only
  obtain ⟨q1, q2, q3, q4, q5, q6, q7⟩ := d2.ats hi
  have s1 : rI M (m + 10) (3 * i + t') = (txAt a i t').1 := (q7 t' ht').1
  rw [e3]
  refine ⟨_, L.f12, L.k10, L.v10 (i := 3 * i + t') (by omega) rfl, ?_⟩
  rw [p_cl (show 3 * i + t' < 2147483648 by omega), s1]
  refine ⟨fun c => ?_, fun c => ⟨L.v10 (i := 3 * i + t') (by omega) rfl, fun c2 => ?_, fun c2 => ?_⟩⟩
  · rw [iteP_t (Or.inl c)]; exact mo_review44 hR hi ht' hj (Or.inl c)
  · rw [iteP_t (Or.inr c2)]; exact mo_review44 hR hi ht' hj (Or.inr c2)
  · rw [iteP_f (fun z => z.elim c c2)]; exact QM.same hR
end ME
