/-! many, keep, back -/
section OpsD
variable {sh : gh_Sh} {g : Nat} {a : AbS} {M : gh_M}
theorem p_ix3 {w : Int32} (h : ¬ (9 ≤ w.toInt ∧ w.toInt ≤ 11)) : p_ix 3 (w - 9) = none := by
  unfold p_ix
  refine if_neg (fun z => ?_)
  have hr := p_rng w
  have e : (w - 9).toInt = (w.toInt - 9).bmod (2 ^ 32) := Int32.toInt_sub w 9
  by_cases hlow : w.toInt < -2147483639
  · have e2 : (w.toInt - 9).bmod (2 ^ 32) = w.toInt - 9 + 4294967296 := by
      rw [Int.bmod_def]
      have : (w.toInt - 9) % ((2 ^ 32 : Nat) : Int) = w.toInt - 9 + 4294967296 := by omega
      rw [this]
      rw [if_pos (by omega)]
    rw [e, e2] at z; omega
  · have e2 : (w.toInt - 9).bmod (2 ^ 32) = w.toInt - 9 := by
      rw [Int.bmod_def]
      by_cases hp : 0 ≤ w.toInt - 9
      · have : (w.toInt - 9) % ((2 ^ 32 : Nat) : Int) = w.toInt - 9 := by omega
        rw [this, if_pos (by omega)]
      · have : (w.toInt - 9) % ((2 ^ 32 : Nat) : Int) = w.toInt - 9 + 4294967296 := by omega
        rw [this, if_neg (by omega)]; omega
    rw [e, e2] at z; omega
theorem p_sub9 {w : Int32} (h : 9 ≤ w.toInt ∧ w.toInt ≤ 11) : ∃ t, t < 3 ∧ w - 9 = nI t := by
  rcases (show w.toInt = 9 ∨ w.toInt = 10 ∨ w.toInt = 11 by omega) with e | e | e
  · have : w = 9 := (p_eq w 9).mpr e
    exact ⟨0, by omega, by rw [this]; decide⟩
  · have : w = 10 := (p_eq w 10).mpr e
    exact ⟨1, by omega, by rw [this]; decide⟩
  · have : w = 11 := (p_eq w 11).mpr e
    exact ⟨2, by omega, by rw [this]; decide⟩
theorem cl_many (h : RC sh g a M) (w : Int32) : wp_X11_many sh M g w (QC sh g M (opMany a w)) := by
  have hR := h
  obtain ⟨sb, nb, σ, τ, L, D⟩ := h
  unfold wp_X11_many opMany
  have e10 : rR M g 10 = some nb := L.1.2.2.2.2.2.2.2.2.2.2.2.1
  have e4 : rR M g 4 = some (g + 13) := L.1.2.2.2.2.2.1
  have e5 : rR M g 5 = some (g + 17) := L.1.2.2.2.2.2.2.1
  have e6 : rR M g 6 = some (g + 22) := L.1.2.2.2.2.2.2.2.1
  have hlen : ((aN a).map nxP).length = (aN a).length := by simp
  refine ⟨fun c => ⟨L.1.1, _, L.e9, L.sb.1, s0_count L.sb D.2.1 ?_⟩, fun c => ⟨L.1.1, _, e10, L.nb.1, s0_count L.nb D.2.2.1 ?_⟩, fun c => ⟨L.1.1, _, L.1.2.1, L.2.1.1, s7_size L.2.1 D.1 ?_⟩, fun c => ⟨L.1.1, _, e4, L.2.2.2.2.2.1.1, s2_count L.2.2.2.2.2.1 D.2.2.2.1 ?_⟩, fun c => ⟨L.1.1, _, e5, L.2.2.2.2.2.2.1.1, s9_count L.2.2.2.2.2.2.1 D.2.2.2.2.1 ?_⟩, fun c => ⟨L.1.1, _, e6, L.2.2.2.2.2.2.2.1.1, s4_count L.2.2.2.2.2.2.2.1 D.2.2.2.2.2.2.1 ?_⟩, fun c => ⟨L.1.1, _, L.e9, L.sb.1, s0_textsThatAre L.sb D.2.1 ?_⟩, fun c => ⟨L.1.1, _, L.e9, L.sb.1, s0_textsThatAre L.sb D.2.1 ?_⟩, fun c => ⟨L.1.1, _, L.e9, L.sb.1, s0_textsThatAre L.sb D.2.1 ?_⟩, fun cd => s11_isIn ⟨fun c => ?_, fun c => ?_⟩⟩
  · subst c; exact QC.same hR
  · subst c; rw [hlen]; exact QC.same hR
  · subst c; exact QC.same hR
  · subst c; exact QC.same hR
  · subst c; exact QC.same hR
  · subst c; exact QC.same hR
  · subst c; exact QC.same hR
  · subst c; exact QC.same hR
  · subst c; exact QC.same hR
  · rw [b2i_0] at c
    have c' : ¬ (9 ≤ w.toInt ∧ w.toInt ≤ 11) := c
    have n : ∀ k : Int32, 0 ≤ k.toInt → k.toInt ≤ 8 → ¬ w = k := fun k h1 h2 z => by rw [z] at cd; omega
    rw [if_neg (n 0 (by decide) (by decide)), if_neg (n 1 (by decide) (by decide)), if_neg (n 2 (by decide) (by decide)), if_neg (n 3 (by decide) (by decide)), if_neg (n 4 (by decide) (by decide)), if_neg (n 5 (by decide) (by decide)), if_neg (n 6 (by decide) (by decide)), if_neg (n 7 (by decide) (by decide)), if_neg (n 8 (by decide) (by decide)), p_ix3 c']
    exact QC.same hR
  · rw [b2i_n0] at c
    have c' : 9 ≤ w.toInt ∧ w.toInt ≤ 11 := c
    obtain ⟨t, ht, e⟩ := p_sub9 c'
    have n : ∀ k : Int32, k.toInt < 9 → ¬ w = k := fun k hk z => by rw [z] at c'; omega
    refine ⟨L.1.1, _, L.e9, L.sb.1, ?_⟩
    rw [if_neg (n 0 (by decide)), if_neg (n 1 (by decide)), if_neg (n 2 (by decide)), if_neg (n 3 (by decide)), if_neg (n 4 (by decide)), if_neg (n 5 (by decide)), if_neg (n 6 (by decide)), if_neg (n 7 (by decide)), if_neg (n 8 (by decide)), e, p_ix_nI ht (by decide)]
    exact s0_releasedSize ht L.sb D.2.1 (QC.same hR)
theorem cl_keep (h : RC sh g a M) : wp_X11_keep sh M g (QC sh g M (opKeep a)) := by
  obtain ⟨sb, nb, σ, τ, L, D⟩ := h
  unfold wp_X11_keep opKeep
  have hs := L.1.2.2.2.2.2.2.2.2.2.2.2.2
  have Lk := L.2.2.2.2.2.2.2.2.2.1
  refine ⟨L.1.1, _, L.1.2.2.2.2.2.2.2.2.2.1, _, L.e9, Lk.1, s0_copy Lk L.sb D.2.1 (by omega) (fun M1 f1 B1 => ?_)⟩
  have L1 := L.fr f1.2.2
  have m1 := D.2.2.2.2.2.2.1.fr L.2.2.2.2.2.2.2.1 f1 (by omega)
  refine ⟨_, L1.1.2.2.2.2.2.2.2.2.1, _, L1.1.2.2.2.2.2.2.2.1, L1.2.2.2.2.2.2.2.2.1.1, s4_copy L1.2.2.2.2.2.2.2.2.1 L1.2.2.2.2.2.2.2.1 m1 (by omega) (fun M2 f2 B2 => ?_)⟩
  have L2 := L1.fr f2.2.2
  have f3 : Fr g (g + 1) M2 (wI M2 g 12 (1 : Int32)) := Fr.w (by omega) (by omega)
  have L3 := L2.fr f3.2.2
  obtain ⟨d1, d2, d3, d4, d5, d6, d7, d8, d9⟩ := D
  refine ⟨rfl, ⟨sb, nb, σ, τ, L3, ((d1.fr f1 (by omega)).fr f2 (by omega)).fr f3 (by omega), ((d2.fr f1 (by omega)).fr f2 (by omega)).fr f3 (by omega), ((d3.fr f1 (by omega)).fr f2 (by omega)).fr f3 (by omega), ((d4.fr f1 (by omega)).fr f2 (by omega)).fr f3 (by omega), ((d5.fr f1 (by omega)).fr f2 (by omega)).fr f3 (by omega), ?_, ?_, ?_, ((d9.fw f1.fw (by omega)).fw f2.fw (by omega)).fw f3.fw (by omega)⟩, ?_⟩
  · rw [rI_ne _ _ (by omega), f2.I (by omega), f1.I (by omega)]; exact d6
  · exact (m1.fr L1.2.2.2.2.2.2.2.1 f2 (by omega)).fr L2.2.2.2.2.2.2.2.1 f3 (by omega)
  · exact ⟨rI_same _ _ _ _, (B1.fr f2 (by omega)).fr f3 (by omega), B2.fr L2.2.2.2.2.2.2.2.2.1 f3 (by omega)⟩
  · exact Fw.tr (Fw.tr f1.fw f2.fw (lo := g) (hi := g + 544) (by omega) (by omega) (by omega) (by omega)) f3.fw (by omega) (by omega) (by omega) (by omega)
theorem cl_back (h : RC sh g a M) : wp_X11_back sh M g (QC sh g M (opBack a)) := by
  have hR := h
  obtain ⟨sb, nb, σ, τ, L, D⟩ := h
  unfold wp_X11_back opBack
  have hs := L.1.2.2.2.2.2.2.2.2.2.2.2.2
  have Lk := L.2.2.2.2.2.2.2.2.2.1
  have hk := D.2.2.2.2.2.2.2.1
  cases hz : aK a with
  | none =>
    rw [hz] at hk
    have e : rI M g 12 = 0 := hk
    rw [e]
    exact ⟨L.1.1, fun _ => QC.same hR, fun c => absurd rfl c⟩
  | some x =>
    rw [hz] at hk
    obtain ⟨e, kb, km⟩ := hk
    rw [e]
    refine ⟨L.1.1, fun c => absurd c (by decide), fun _ => ⟨_, L.e9, _, L.1.2.2.2.2.2.2.2.2.2.1, L.sb.1, s0_copy L.sb Lk kb (by omega) (fun M1 f1 B1 => ?_)⟩⟩
    obtain ⟨L1, D1⟩ := RC.source L D f1 B1
    have km1 := km.fr L.2.2.2.2.2.2.2.2.1 f1 (by omega)
    refine ⟨_, L1.1.2.2.2.2.2.2.2.1, _, L1.1.2.2.2.2.2.2.2.2.1, L1.2.2.2.2.2.2.2.1.1, s4_copy L1.2.2.2.2.2.2.2.1 L1.2.2.2.2.2.2.2.2.1 km1 (by omega) (fun M2 f2 B2 => ?_)⟩
    obtain ⟨L2, D2⟩ := RC.mem L1 D1 f2.fw (L1.2.2.2.2.2.2.2.1.fr f2.2.2) B2
    exact ⟨rfl, ⟨sb, nb, σ, τ, L2, D2⟩, Fw.tr f1.fw f2.fw (by omega) (by omega) (by omega) (by omega)⟩
end OpsD
