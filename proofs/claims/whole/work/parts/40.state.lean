/-! the class's state -/
abbrev NxT : Type := Int32 × List Int32
def nxP (x : NxT) : PcT := (x.1, x.2, -5, 0, fun _ => tx0)
abbrev KpT : Type := Option (List PcT × List EnT)
/-- THE DRAFT, THE SOURCE, THE NEXT one, HANDS, TERMS, LIMIT, THE MEMORY, what is kept -/
abbrev AbS : Type := List Int32 × List PcT × List NxT × List HnT × List TmT × Int32 × List EnT × KpT
abbrev aD (a : AbS) : List Int32 := a.1
abbrev aS (a : AbS) : List PcT := a.2.1
abbrev aN (a : AbS) : List NxT := a.2.2.1
abbrev aH (a : AbS) : List HnT := a.2.2.2.1
abbrev aT (a : AbS) : List TmT := a.2.2.2.2.1
abbrev aL (a : AbS) : Int32 := a.2.2.2.2.2.1
abbrev aM (a : AbS) : List EnT := a.2.2.2.2.2.2.1
abbrev aK (a : AbS) : KpT := a.2.2.2.2.2.2.2
abbrev sD (a : AbS) (d : List Int32) : AbS := (d, a.2)
abbrev sS (a : AbS) (x : List PcT) : AbS := (aD a, x, a.2.2)
abbrev sN (a : AbS) (x : List NxT) : AbS := (aD a, aS a, x, a.2.2.2)
abbrev sH (a : AbS) (x : List HnT) : AbS := (aD a, aS a, aN a, x, a.2.2.2.2)
abbrev sT (a : AbS) (x : List TmT) : AbS := (aD a, aS a, aN a, aH a, x, a.2.2.2.2.2)
abbrev sL (a : AbS) (x : Int32) : AbS := (aD a, aS a, aN a, aH a, aT a, x, a.2.2.2.2.2.2)
abbrev sM (a : AbS) (x : List EnT) : AbS := (aD a, aS a, aN a, aH a, aT a, aL a, x, aK a)
abbrev sK (a : AbS) (x : KpT) : AbS := (aD a, aS a, aN a, aH a, aT a, aL a, aM a, x)
def LMat (sh : gh_Sh) (M : gh_M) (a : Nat) : Prop := sh.1 a = 3 ∧ rR M a 0 = some (a + 1) ∧ rR M a 1 = some (a + 2) ∧ sh.1 (a + 1) = 14 ∧ sh.2 (a + 1) = 256 ∧ sh.1 (a + 2) = 14 ∧ sh.2 (a + 2) = 8
theorem LMat.fw {sh : gh_Sh} {lo hi : Nat} {M M' : gh_M} {a : Nat} (h : LMat sh M a) (f : Fw lo hi M M') (d : a < lo ∨ hi ≤ a) : LMat sh M' a := ⟨h.1, (f _ _ d).2.2.trans h.2.1, (f _ _ d).2.2.trans h.2.2.1, h.2.2.2⟩
def LPl (sh : gh_Sh) (M : gh_M) (a : Nat) : Prop := sh.1 a = 6 ∧ rR M a 0 = some (a + 1) ∧ rR M a 1 = some (a + 2) ∧ rR M a 2 = some (a + 3) ∧ rR M a 3 = some (a + 4) ∧ (sh.1 (a + 1) = 13 ∧ sh.2 (a + 1) = 8) ∧ (sh.1 (a + 2) = 13 ∧ sh.2 (a + 2) = 256) ∧ (sh.1 (a + 3) = 13 ∧ sh.2 (a + 3) = 256) ∧ (sh.1 (a + 4) = 14 ∧ sh.2 (a + 4) = 256)
theorem LPl.fw {sh : gh_Sh} {lo hi : Nat} {M M' : gh_M} {a : Nat} (h : LPl sh M a) (f : Fw lo hi M M') (d : a < lo ∨ hi ≤ a) : LPl sh M' a := ⟨h.1, (f _ _ d).2.2.trans h.2.1, (f _ _ d).2.2.trans h.2.2.1, (f _ _ d).2.2.trans h.2.2.2.1, (f _ _ d).2.2.trans h.2.2.2.2.1, h.2.2.2.2.2⟩
theorem LRuler.fw {sh : gh_Sh} {lo hi : Nat} {M M' : gh_M} {u : Nat} (h : LRuler sh M u) (f : Fw lo hi M M') (d : u < lo ∨ hi ≤ u) : LRuler sh M' u := ⟨h.1, (f _ _ d).2.2.trans h.2.1, h.2.2⟩
/-- a 1 for the digit of each PIECE of a set -/
def onesN (s : Nat) : Nat := (List.range 8).foldl (fun n i => n + if s.testBit i then 2 ^ (3 * (7 - i)) else 0) 0
def onesIs (M : gh_M) (a : Nat) : Prop := (∀ s, s < 256 → rI M (a + 3) s = nI (onesN s)) ∧ rI M (a + 2) 0 = 0
theorem onesIs.fw {lo hi : Nat} {M M' : gh_M} {a : Nat} (h : onesIs M a) (f : Fw lo hi M M') (d : a + 3 < lo ∨ hi ≤ a + 2) : onesIs M' a := ⟨fun s hs => (f _ _ (by omega)).1.trans (h.1 s hs), (f _ _ (by omega)).1.trans h.2⟩
/-- the class's fields -/
def LCf (sh : gh_Sh) (M : gh_M) (g sb nb : Nat) : Prop := sh.1 g = 11 ∧ rR M g 0 = some (g + 1) ∧ rR M g 1 = some (g + 3) ∧ rR M g 2 = some (g + 5) ∧ rR M g 3 = some (g + 8) ∧ rR M g 4 = some (g + 13) ∧ rR M g 5 = some (g + 17) ∧ rR M g 6 = some (g + 22) ∧ rR M g 7 = some (g + 124) ∧ rR M g 8 = some (g + 226) ∧ rR M g 9 = some sb ∧ rR M g 10 = some nb ∧ ((sb = g + 332 ∧ nb = g + 438) ∨ (sb = g + 438 ∧ nb = g + 332))
theorem LCf.fw {sh : gh_Sh} {lo hi : Nat} {M M' : gh_M} {g sb nb : Nat} (h : LCf sh M g sb nb) (f : Fw lo hi M M') (d : g < lo ∨ hi ≤ g) : LCf sh M' g sb nb := by
  obtain ⟨h0, h1, h2, h3, h4, h5, h6, h7, h8, h9, h10, h11, h12⟩ := h
  have q : ∀ j, rR M' g j = rR M g j := fun j => (f g j d).2.2
  exact ⟨h0, (q _).trans h1, (q _).trans h2, (q _).trans h3, (q _).trans h4, (q _).trans h5, (q _).trans h6, (q _).trans h7, (q _).trans h8, (q _).trans h9, (q _).trans h10, (q _).trans h11, h12⟩
def keptIs (M : gh_M) (g : Nat) (τ : Nat → Nat) (k : KpT) : Prop := match k with
  | none => rI M g 12 = 0
  | some x => rI M g 12 = 1 ∧ bookIs M (g + 226) x.1 ∧ memIs M (g + 124) τ x.2
theorem keptIs.fw {sh : gh_Sh} {lo hi : Nat} {M M' : gh_M} {g : Nat} {τ : Nat → Nat} {k : KpT} (L : LMem sh M (g + 124) τ) (h : keptIs M g τ k) (f : Fw lo hi M M') (d0 : g < lo ∨ hi ≤ g) (d : g + 331 < lo ∨ (hi ≤ g + 124) ∨ (g + 225 < lo ∧ hi ≤ g + 226)) : keptIs M' g τ k := by
  cases k with
  | none => exact (f _ _ d0).1.trans h
  | some x => exact ⟨(f _ _ d0).1.trans h.1, h.2.1.fw f (by omega), memIs.fw L h.2.2 f (by omega)⟩
/-- all of the class but its data -/
def LCl (sh : gh_Sh) (M : gh_M) (g sb nb : Nat) (σ τ : Nat → Nat) : Prop := LCf sh M g sb nb ∧ LRow sh M (g + 1) ∧ LRuler sh M (g + 3) ∧ LMat sh M (g + 5) ∧ LPl sh M (g + 8) ∧ LHands sh M (g + 13) ∧ LTerms sh M (g + 17) ∧ LMem sh M (g + 22) σ ∧ LMem sh M (g + 124) τ ∧ LBook sh M (g + 226) ∧ LBook sh M (g + 332) ∧ LBook sh M (g + 438)
def RCd (M : gh_M) (g sb nb : Nat) (σ τ : Nat → Nat) (a : AbS) : Prop := rowIs M (g + 1) (aD a) ∧ bookIs M sb (aS a) ∧ bookIs M nb ((aN a).map nxP) ∧ handsIs M (g + 13) (aH a) ∧ termsIs M (g + 17) (aT a) ∧ rI M g 11 = aL a ∧ memIs M (g + 22) σ (aM a) ∧ keptIs M g τ (aK a) ∧ onesIs M (g + 8)
def RC (sh : gh_Sh) (g : Nat) (a : AbS) (M : gh_M) : Prop := ∃ sb nb σ τ, LCl sh M g sb nb σ τ ∧ RCd M g sb nb σ τ a
/-- the layout stays where only ints changed -/
theorem LCl.fr {sh : gh_Sh} {M M' : gh_M} {g sb nb : Nat} {σ τ : Nat → Nat} (h : LCl sh M g sb nb σ τ) (e : ∀ a j, rR M' a j = rR M a j) : LCl sh M' g sb nb σ τ := by
  obtain ⟨⟨h0, h1, h2, h3, h4, h5, h6, h7, h8, h9, h10, h11, h12⟩, r, u, m, p, hd, t, m1, m2, b1, b2, b3⟩ := h
  exact ⟨⟨h0, (e _ _).trans h1, (e _ _).trans h2, (e _ _).trans h3, (e _ _).trans h4, (e _ _).trans h5, (e _ _).trans h6, (e _ _).trans h7, (e _ _).trans h8, (e _ _).trans h9, (e _ _).trans h10, (e _ _).trans h11, h12⟩, r.fr e, u.fr e, ⟨m.1, (e _ _).trans m.2.1, (e _ _).trans m.2.2.1, m.2.2.2⟩, ⟨p.1, (e _ _).trans p.2.1, (e _ _).trans p.2.2.1, (e _ _).trans p.2.2.2.1, (e _ _).trans p.2.2.2.2.1, p.2.2.2.2.2⟩, hd.fr e, t.fr e, m1.fr e, m2.fr e, b1.fr e, b2.fr e, b3.fr e⟩
theorem LCl.sb {sh : gh_Sh} {M : gh_M} {g sb nb : Nat} {σ τ : Nat → Nat} (h : LCl sh M g sb nb σ τ) : LBook sh M sb := by
  obtain ⟨⟨-, -, -, -, -, -, -, -, -, -, -, -, h12⟩, -, -, -, -, -, -, -, -, -, b2, b3⟩ := h
  rcases h12 with ⟨rfl, -⟩ | ⟨rfl, -⟩
  · exact b2
  · exact b3
theorem LCl.nb {sh : gh_Sh} {M : gh_M} {g sb nb : Nat} {σ τ : Nat → Nat} (h : LCl sh M g sb nb σ τ) : LBook sh M nb := by
  obtain ⟨⟨-, -, -, -, -, -, -, -, -, -, -, -, h12⟩, -, -, -, -, -, -, -, -, -, b2, b3⟩ := h
  rcases h12 with ⟨-, rfl⟩ | ⟨-, rfl⟩
  · exact b3
  · exact b2
section RCs
variable {sh : gh_Sh} {g sb nb : Nat} {σ τ : Nat → Nat} {a : AbS} {M M' : gh_M}
theorem RC.draft (L : LCl sh M g sb nb σ τ) (D : RCd M g sb nb σ τ a) (f : Fr (g + 1) (g + 3) M M') {d : List Int32} (h : rowIs M' (g + 1) d) : LCl sh M' g sb nb σ τ ∧ RCd M' g sb nb σ τ (sD a d) := by
  obtain ⟨d1, d2, d3, d4, d5, d6, d7, d8, d9⟩ := D
  have hs := L.1.2.2.2.2.2.2.2.2.2.2.2.2
  exact ⟨L.fr f.2.2, h, d2.fr f (by omega), d3.fr f (by omega), d4.fr f (by omega), d5.fr f (by omega), (f.I (by omega) _).trans d6, d7.fr L.2.2.2.2.2.2.2.1 f (by omega), d8.fw L.2.2.2.2.2.2.2.2.1 f.fw (by omega) (by omega), d9.fw f.fw (by omega)⟩
theorem RC.ruler (L : LCl sh M g sb nb σ τ) (D : RCd M g sb nb σ τ a) (f : Fr (g + 4) (g + 5) M M') : LCl sh M' g sb nb σ τ ∧ RCd M' g sb nb σ τ a := by
  obtain ⟨d1, d2, d3, d4, d5, d6, d7, d8, d9⟩ := D
  have hs := L.1.2.2.2.2.2.2.2.2.2.2.2.2
  exact ⟨L.fr f.2.2, d1.fr f (by omega), d2.fr f (by omega), d3.fr f (by omega), d4.fr f (by omega), d5.fr f (by omega), (f.I (by omega) _).trans d6, d7.fr L.2.2.2.2.2.2.2.1 f (by omega), d8.fw L.2.2.2.2.2.2.2.2.1 f.fw (by omega) (by omega), d9.fw f.fw (by omega)⟩
theorem RC.next (L : LCl sh M g sb nb σ τ) (D : RCd M g sb nb σ τ a) (f : Fr nb (nb + 106) M M') {x : List NxT} (h : bookIs M' nb (x.map nxP)) : LCl sh M' g sb nb σ τ ∧ RCd M' g sb nb σ τ (sN a x) := by
  obtain ⟨d1, d2, d3, d4, d5, d6, d7, d8, d9⟩ := D
  have hs := L.1.2.2.2.2.2.2.2.2.2.2.2.2
  exact ⟨L.fr f.2.2, d1.fr f (by omega), d2.fr f (by omega), h, d4.fr f (by omega), d5.fr f (by omega), (f.I (by omega) _).trans d6, d7.fr L.2.2.2.2.2.2.2.1 f (by omega), d8.fw L.2.2.2.2.2.2.2.2.1 f.fw (by omega) (by omega), d9.fw f.fw (by omega)⟩
theorem RC.source (L : LCl sh M g sb nb σ τ) (D : RCd M g sb nb σ τ a) (f : Fr sb (sb + 106) M M') {x : List PcT} (h : bookIs M' sb x) : LCl sh M' g sb nb σ τ ∧ RCd M' g sb nb σ τ (sS a x) := by
  obtain ⟨d1, d2, d3, d4, d5, d6, d7, d8, d9⟩ := D
  have hs := L.1.2.2.2.2.2.2.2.2.2.2.2.2
  exact ⟨L.fr f.2.2, d1.fr f (by omega), h, d3.fr f (by omega), d4.fr f (by omega), d5.fr f (by omega), (f.I (by omega) _).trans d6, d7.fr L.2.2.2.2.2.2.2.1 f (by omega), d8.fw L.2.2.2.2.2.2.2.2.1 f.fw (by omega) (by omega), d9.fw f.fw (by omega)⟩
theorem RC.hands (L : LCl sh M g sb nb σ τ) (D : RCd M g sb nb σ τ a) (f : Fr (g + 13) (g + 13 + 4) M M') {x : List HnT} (h : handsIs M' (g + 13) x) : LCl sh M' g sb nb σ τ ∧ RCd M' g sb nb σ τ (sH a x) := by
  obtain ⟨d1, d2, d3, d4, d5, d6, d7, d8, d9⟩ := D
  have hs := L.1.2.2.2.2.2.2.2.2.2.2.2.2
  exact ⟨L.fr f.2.2, d1.fr f (by omega), d2.fr f (by omega), d3.fr f (by omega), h, d5.fr f (by omega), (f.I (by omega) _).trans d6, d7.fr L.2.2.2.2.2.2.2.1 f (by omega), d8.fw L.2.2.2.2.2.2.2.2.1 f.fw (by omega) (by omega), d9.fw f.fw (by omega)⟩
theorem RC.terms (L : LCl sh M g sb nb σ τ) (D : RCd M g sb nb σ τ a) (f : Fr (g + 17) (g + 17 + 5) M M') {x : List TmT} (h : termsIs M' (g + 17) x) : LCl sh M' g sb nb σ τ ∧ RCd M' g sb nb σ τ (sT a x) := by
  obtain ⟨d1, d2, d3, d4, d5, d6, d7, d8, d9⟩ := D
  have hs := L.1.2.2.2.2.2.2.2.2.2.2.2.2
  exact ⟨L.fr f.2.2, d1.fr f (by omega), d2.fr f (by omega), d3.fr f (by omega), d4.fr f (by omega), h, (f.I (by omega) _).trans d6, d7.fr L.2.2.2.2.2.2.2.1 f (by omega), d8.fw L.2.2.2.2.2.2.2.2.1 f.fw (by omega) (by omega), d9.fw f.fw (by omega)⟩
theorem RC.limit (L : LCl sh M g sb nb σ τ) (D : RCd M g sb nb σ τ a) (x : Int32) : LCl sh (wI M g 11 x) g sb nb σ τ ∧ RCd (wI M g 11 x) g sb nb σ τ (sL a x) := by
  obtain ⟨d1, d2, d3, d4, d5, d6, d7, d8, d9⟩ := D
  have hs := L.1.2.2.2.2.2.2.2.2.2.2.2.2
  have f : Fr g (g + 1) M (wI M g 11 x) := Fr.w (by omega) (by omega)
  refine ⟨L.fr f.2.2, d1.fr f (by omega), d2.fr f (by omega), d3.fr f (by omega), d4.fr f (by omega), d5.fr f (by omega), rI_same _ _ _ _, d7.fr L.2.2.2.2.2.2.2.1 f (by omega), ?_, d9.fw f.fw (by omega)⟩
  have hk : keptIs M g τ (aK a) := d8
  show keptIs _ g τ (aK a)
  generalize aK a = k at hk
  cases k with
  | none => exact (rI_ne _ _ (by omega)).trans hk
  | some y => exact ⟨(rI_ne _ _ (by omega)).trans hk.1, hk.2.1.fr f (by omega), hk.2.2.fr L.2.2.2.2.2.2.2.2.1 f (by omega)⟩
/-- THE MEMORY has changed, and with it the order of its rows -/
theorem RC.mem {σ' : Nat → Nat} (L : LCl sh M g sb nb σ τ) (D : RCd M g sb nb σ τ a) (f : Fw (g + 22) (g + 22 + 102) M M') {x : List EnT} (l : LMem sh M' (g + 22) σ') (h : memIs M' (g + 22) σ' x) : LCl sh M' g sb nb σ' τ ∧ RCd M' g sb nb σ' τ (sM a x) := by
  obtain ⟨d1, d2, d3, d4, d5, d6, d7, d8, d9⟩ := D
  obtain ⟨lf, r, u, m, p, hd, t, m1, m2, b1, b2, b3⟩ := L
  have hs := lf.2.2.2.2.2.2.2.2.2.2.2.2
  exact ⟨⟨lf.fw f (by omega), r.fw f (by omega), u.fw f (by omega), m.fw f (by omega), p.fw f (by omega), hd.fw f (by omega), t.fw f (by omega), l, m2.fw f (by omega), b1.fw f (by omega), b2.fw f (by omega), b3.fw f (by omega)⟩,
    d1.fw f (by omega), d2.fw f (by omega), d3.fw f (by omega), d4.fw f (by omega), d5.fw f (by omega), (f _ _ (by omega)).1.trans d6, h, d8.fw m2 f (by omega) (by omega), d9.fw f (by omega)⟩
/-- inside of the Matcher or the Planner -/
theorem RC.work {lo hi : Nat} (L : LCl sh M g sb nb σ τ) (D : RCd M g sb nb σ τ a) (f : Fw lo hi M M') (hr : ∀ x j, rR M' x j = rR M x j) (h1 : g + 4 ≤ lo) (h2 : hi ≤ g + 13) (h3 : hi ≤ g + 10 ∨ g + 11 < lo ∨ onesIs M' (g + 8)) : LCl sh M' g sb nb σ τ ∧ RCd M' g sb nb σ τ a := by
  obtain ⟨d1, d2, d3, d4, d5, d6, d7, d8, d9⟩ := D
  have hs := L.1.2.2.2.2.2.2.2.2.2.2.2.2
  refine ⟨L.fr hr, d1.fw f (by omega), d2.fw f (by omega), d3.fw f (by omega), d4.fw f (by omega), d5.fw f (by omega), (f _ _ (by omega)).1.trans d6, memIs.fw L.2.2.2.2.2.2.2.1 d7 f (by omega), d8.fw L.2.2.2.2.2.2.2.2.1 f (by omega) (by omega), ?_⟩
  rcases h3 with h3 | h3 | h3
  · exact d9.fw f (by omega)
  · exact d9.fw f (by omega)
  · exact h3
end RCs
