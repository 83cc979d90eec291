/-! the constructors: what is new, and what stays -/
def Sw (lo hi : Nat) (sh sh' : gh_Sh) : Prop := ∀ a, (a < lo ∨ hi ≤ a) → sh'.1 a = sh.1 a ∧ sh'.2 a = sh.2 a
theorem Sw.t {lo hi : Nat} {sh s1 s2 : gh_Sh} (a : Sw lo hi sh s1) (b : Sw lo hi s1 s2) : Sw lo hi sh s2 := fun x hx => ⟨(b x hx).1.trans (a x hx).1, (b x hx).2.trans (a x hx).2⟩
theorem Sw.mono {l1 h1 lo hi : Nat} {sh s1 : gh_Sh} (a : Sw l1 h1 sh s1) (e1 : lo ≤ l1) (e3 : h1 ≤ hi) : Sw lo hi sh s1 := fun x hx => a x (by omega)
theorem Sw.u {lo hi : Nat} {sh : gh_Sh} {a k l : Nat} (h1 : lo ≤ a) (h2 : a < hi) : Sw lo hi sh (shU sh a k l) := fun x hx => ⟨if_neg (by omega), if_neg (by omega)⟩
theorem shU1 (sh : gh_Sh) (a k l : Nat) : (shU sh a k l).1 a = k := if_pos rfl
theorem shU2 (sh : gh_Sh) (a k l : Nat) : (shU sh a k l).2 a = l := if_pos rfl
theorem shN1 (sh : gh_Sh) {a b k l : Nat} (h : b ≠ a) : (shU sh a k l).1 b = sh.1 b := if_neg h
theorem shN2 (sh : gh_Sh) {a b k l : Nat} (h : b ≠ a) : (shU sh a k l).2 b = sh.2 b := if_neg h
theorem Fw.t {lo hi : Nat} {M M1 M2 : gh_M} (a : Fw lo hi M M1) (b : Fw lo hi M1 M2) : Fw lo hi M M2 := Fw.tr a b (Nat.le_refl _) (Nat.le_refl _) (Nat.le_refl _) (Nat.le_refl _)
theorem Fw.z {lo hi a : Nat} {M : gh_M} (h1 : lo ≤ a) (h2 : a < hi) : Fw lo hi M (zM M a) := fun x j hx => ⟨if_neg (by omega), if_neg (by omega), if_neg (by omega)⟩
theorem Fw.r {lo hi a k : Nat} {v : Option Nat} {M : gh_M} (h1 : lo ≤ a) (h2 : a < hi) : Fw lo hi M (wR M a k v) := fun x j hx => ⟨rfl, rfl, rR_ne _ _ (by omega)⟩
theorem Fw.i {lo hi a k : Nat} {v : Int32} {M : gh_M} (h1 : lo ≤ a) (h2 : a < hi) : Fw lo hi M (wI M a k v) := (Fr.w h1 h2).fw
theorem zM_I (M : gh_M) (a j : Nat) : rI (zM M a) a j = 0 := if_pos rfl
theorem zM_In (M : gh_M) {a b j : Nat} (h : b ≠ a) : rI (zM M a) b j = rI M b j := if_neg h
theorem zM_Rn (M : gh_M) {a b j : Nat} (h : b ≠ a) : rR (zM M a) b j = rR M b j := if_neg h
/-! shapes elsewhere -/
section SwL
variable {sh sh' : gh_Sh} {M : gh_M} {lo hi : Nat}
theorem LRow.sw {r : Nat} (h : LRow sh M r) (s : Sw lo hi sh sh') (d : r + 1 < lo ∨ hi ≤ r) : LRow sh' M r := ⟨(s _ (by omega)).1.trans h.1, (s _ (by omega)).1.trans h.2.1, (s _ (by omega)).2.trans h.2.2.1, h.2.2.2⟩
theorem LText.sw {t : Nat} (h : LText sh M t) (s : Sw lo hi sh sh') (d : t + 2 < lo ∨ hi ≤ t) : LText sh' M t := ⟨(s _ (by omega)).1.trans h.1, h.2.1, h.2.2.sw s (by omega)⟩
theorem LPiece.sw {p : Nat} (h : LPiece sh M p) (s : Sw lo hi sh sh') (d : p + 12 < lo ∨ hi ≤ p) : LPiece sh' M p := ⟨(s _ (by omega)).1.trans h.1, h.2.1, h.2.2.1.sw s (by omega), h.2.2.2.1, (s _ (by omega)).1.trans h.2.2.2.2.1, (s _ (by omega)).2.trans h.2.2.2.2.2.1, fun t ht => ⟨(h.2.2.2.2.2.2 t ht).1, (h.2.2.2.2.2.2 t ht).2.sw s (by omega)⟩⟩
theorem LBook.sw {b : Nat} (h : LBook sh M b) (s : Sw lo hi sh sh') (d : b + 105 < lo ∨ hi ≤ b) : LBook sh' M b := ⟨(s _ (by omega)).1.trans h.1, h.2.1, (s _ (by omega)).1.trans h.2.2.1, (s _ (by omega)).2.trans h.2.2.2.1, fun i hi => ⟨(h.2.2.2.2 i hi).1, (h.2.2.2.2 i hi).2.sw s (by omega)⟩⟩
theorem LRuler.sw {u : Nat} (h : LRuler sh M u) (s : Sw lo hi sh sh') (d : u + 1 < lo ∨ hi ≤ u) : LRuler sh' M u := ⟨(s _ (by omega)).1.trans h.1, h.2.1, (s _ (by omega)).1.trans h.2.2.1, (s _ (by omega)).2.trans h.2.2.2⟩
theorem LEntry.sw {e : Nat} (h : LEntry sh M e) (s : Sw lo hi sh sh') (d : e + 4 < lo ∨ hi ≤ e) : LEntry sh' M e := ⟨(s _ (by omega)).1.trans h.1, h.2.1, h.2.2.1.sw s (by omega), h.2.2.2.1, h.2.2.2.2.sw s (by omega)⟩
theorem LMem.sw {m : Nat} {σ : Nat → Nat} (h : LMem sh M m σ) (s : Sw lo hi sh sh') (d : m + 101 < lo ∨ hi ≤ m) : LMem sh' M m σ := ⟨(s _ (by omega)).1.trans h.1, h.2.1, (s _ (by omega)).1.trans h.2.2.1, (s _ (by omega)).2.trans h.2.2.2.1, h.2.2.2.2.1, h.2.2.2.2.2.1, fun e he => (h.2.2.2.2.2.2 e he).sw s (by omega)⟩
theorem LHands.sw {q : Nat} (h : LHands sh M q) (s : Sw lo hi sh sh') (d : q + 3 < lo ∨ hi ≤ q) : LHands sh' M q := ⟨(s _ (by omega)).1.trans h.1, h.2.1, h.2.2.1, h.2.2.2.1, ⟨(s _ (by omega)).1.trans h.2.2.2.2.1.1, (s _ (by omega)).2.trans h.2.2.2.2.1.2⟩, ⟨(s _ (by omega)).1.trans h.2.2.2.2.2.1.1, (s _ (by omega)).2.trans h.2.2.2.2.2.1.2⟩, ⟨(s _ (by omega)).1.trans h.2.2.2.2.2.2.1, (s _ (by omega)).2.trans h.2.2.2.2.2.2.2⟩⟩
theorem LTerms.sw {q : Nat} (h : LTerms sh M q) (s : Sw lo hi sh sh') (d : q + 4 < lo ∨ hi ≤ q) : LTerms sh' M q := ⟨(s _ (by omega)).1.trans h.1, h.2.1, (s _ (by omega)).1.trans h.2.2.1, (s _ (by omega)).2.trans h.2.2.2.1, fun t ht => ⟨(h.2.2.2.2 t ht).1, (s _ (by omega)).1.trans (h.2.2.2.2 t ht).2.1, (s _ (by omega)).2.trans (h.2.2.2.2 t ht).2.2⟩⟩
theorem LMat.sw {q : Nat} (h : LMat sh M q) (s : Sw lo hi sh sh') (d : q + 2 < lo ∨ hi ≤ q) : LMat sh' M q := ⟨(s _ (by omega)).1.trans h.1, h.2.1, h.2.2.1, (s _ (by omega)).1.trans h.2.2.2.1, (s _ (by omega)).2.trans h.2.2.2.2.1, (s _ (by omega)).1.trans h.2.2.2.2.2.1, (s _ (by omega)).2.trans h.2.2.2.2.2.2⟩
theorem LPl.sw {q : Nat} (h : LPl sh M q) (s : Sw lo hi sh sh') (d : q + 4 < lo ∨ hi ≤ q) : LPl sh' M q := by
  obtain ⟨h1, h2, h3, h4, h5, ⟨a1, a2⟩, ⟨b1, b2⟩, ⟨c1, c2⟩, d1, d2⟩ := h
  exact ⟨(s _ (by omega)).1.trans h1, h2, h3, h4, h5, ⟨(s _ (by omega)).1.trans a1, (s _ (by omega)).2.trans a2⟩, ⟨(s _ (by omega)).1.trans b1, (s _ (by omega)).2.trans b2⟩, ⟨(s _ (by omega)).1.trans c1, (s _ (by omega)).2.trans c2⟩, (s _ (by omega)).1.trans d1, (s _ (by omega)).2.trans d2⟩
theorem LCl.sw {g sb nb : Nat} {σ τ : Nat → Nat} (h : LCl sh M g sb nb σ τ) (s : Sw lo hi sh sh') (d : g + 543 < lo ∨ hi ≤ g) : LCl sh' M g sb nb σ τ := by
  obtain ⟨l1, l2, l3, l4, l5, l6, l7, l8, l9, l10, l11, l12⟩ := h
  exact ⟨⟨(s _ (by omega)).1.trans l1.1, l1.2⟩, l2.sw s (by omega), l3.sw s (by omega), l4.sw s (by omega), l5.sw s (by omega), l6.sw s (by omega), l7.sw s (by omega), l8.sw s (by omega), l9.sw s (by omega), l10.sw s (by omega), l11.sw s (by omega), l12.sw s (by omega)⟩
end SwL
/-- the class's state stays where only cells behind it, or ahead of it, changed -/
theorem RC.away {sh sh' : gh_Sh} {g lo hi : Nat} {a : AbS} {M M' : gh_M} (h : RC sh g a M) (s : Sw lo hi sh sh') (f : Fw lo hi M M') (d : g + 543 < lo ∨ hi ≤ g) : RC sh' g a M' := by
  obtain ⟨sb, nb, σ, τ, L, d1, d2, d3, d4, d5, d6, d7, d8, d9⟩ := h
  have hs := L.1.2.2.2.2.2.2.2.2.2.2.2.2
  have L2 := L
  obtain ⟨l1, l2, l3, l4, l5, l6, l7, l8, l9, l10, l11, l12⟩ := L2
  have L3 : LCl sh M' g sb nb σ τ := ⟨l1.fw f (by omega), l2.fw f (by omega), l3.fw f (by omega), l4.fw f (by omega), l5.fw f (by omega), l6.fw f (by omega), l7.fw f (by omega), l8.fw f (by omega), l9.fw f (by omega), l10.fw f (by omega), l11.fw f (by omega), l12.fw f (by omega)⟩
  refine ⟨sb, nb, σ, τ, L3.sw s d, d1.fw f (by omega), d2.fw f (by omega), d3.fw f (by omega), d4.fw f (by omega), d5.fw f (by omega), (f _ _ (by omega)).1.trans d6, memIs.fw l8 d7 f (by omega), ?_, d9.fw f (by omega)⟩
  have hk : keptIs M g τ (aK a) := d8
  show keptIs _ g τ (aK a)
  generalize aK a = k at hk
  cases k with
  | none => exact (f _ _ (by omega)).1.trans hk
  | some y => exact ⟨(f _ _ (by omega)).1.trans hk.1, hk.2.1.fw f (by omega), memIs.fw l9 hk.2.2 f (by omega)⟩
theorem RM.away {sh : gh_Sh} {m lo hi : Nat} {a : AbS} {M M' : gh_M} (h : RM sh m a M) (f : Fw lo hi M M') (d : m + 38 < lo ∨ hi ≤ m) : RM sh m a M' := by
  obtain ⟨L, h1, h2, h3, h4, h5, h6, h7, h8⟩ := h
  have e : ∀ k, k < 39 → rI M' (m + k) = rI M (m + k) := fun k hk => funext fun j => (f _ _ (by omega)).1
  have e0 : rI M' m = rI M m := e 0 (by omega)
  refine ⟨L.fw f (by omega), ?_, ?_, ?_, ?_, ?_, by rw [e0]; exact h6, ?_, ?_⟩
  · unfold mDraft; rw [e0, e 1 (by omega)]; exact h1
  · unfold mSrc; rw [e0, e 2 (by omega), e 3 (by omega), e 4 (by omega), e 5 (by omega), e 6 (by omega), e 10 (by omega), e 11 (by omega), e 12 (by omega), e 13 (by omega)]; exact h2
  · unfold mNext; rw [e0, e 7 (by omega), e 8 (by omega), e 9 (by omega)]; exact h3
  · unfold mHands; rw [e0, e 14 (by omega), e 15 (by omega), e 16 (by omega)]; exact h4
  · unfold mTerms; rw [e0, e 17 (by omega), e 18 (by omega), e 19 (by omega)]; exact h5
  · unfold mMem; rw [e0, e 20 (by omega)]; exact h7
  · unfold mKept; rw [e0, e 21 (by omega), e 22 (by omega), e 23 (by omega), e 24 (by omega)]; exact h8
/-! new objects, one by one -/
section Init
variable {b n : Nat} {sh : gh_Sh} {M : gh_M} {post : gh_Sh → gh_M → Prop} {y : Nat}
theorem i7 (hy : y = b + n) (hp : ∀ sh' M', Sw y (y + 2) sh sh' → Fw y (y + 2) M M' → LRow sh' M' y → rowIs M' y [] → post sh' M') : wp_X7_init b (shU sh y 7 0) (n + 1) (zM M y) y post := by
  unfold wp_X7_init
  rw [show b + (n + 1) = y + 1 by omega]
  have e : (shU (shU sh y 7 0) (y + 1) 13 10).1 y = 7 := by rw [shN1 _ (by omega), shU1]
  refine ⟨by decide, by decide, e, rfl, by decide, by decide, hp _ _ ((Sw.u (by omega) (by omega)).t (Sw.u (by omega) (by omega))) (((Fw.z (by omega) (by omega)).t (Fw.z (by omega) (by omega))).t (Fw.r (by omega) (by omega))) ⟨e, shU1 _ _ _ _, shU2 _ _ _ _, rR_same _ _ _ _⟩ ⟨Nat.zero_le _, ?_, fun i hi => absurd hi (Nat.not_lt_zero i)⟩⟩
  rw [rI_wR, zM_In _ (by omega), zM_I]; rfl
theorem i10 (hy : y = b + n) (hp : ∀ sh' M', Sw y (y + 3) sh sh' → Fw y (y + 3) M M' → LText sh' M' y → post sh' M') : wp_X10_init b (shU sh y 10 0) (n + 1) (zM M y) y post := by
  unfold wp_X10_init
  rw [show b + (n + 1) = y + 1 by omega]
  refine ⟨by decide, by decide, by decide, by decide, i7 (y := y + 1) (by omega) (fun s1 M1 a1 a2 a3 a4 => ?_)⟩
  have e : s1.1 y = 10 := by rw [(a1 y (by omega)).1, shU1]
  refine ⟨e, ?_⟩
  rintro M2 rfl
  have f2 : Fw y (y + 1) M1 (wI (wI (wR M1 y 0 (some (y + 1))) y 1 0) y 2 (-5)) := ((Fw.r (by omega) (by omega)).t (Fw.i (by omega) (by omega))).t (Fw.i (by omega) (by omega))
  exact ⟨rfl, by decide, by decide, hp _ _ ((Sw.u (by omega) (by omega)).t (a1.mono (by omega) (by omega))) (((Fw.z (by omega) (by omega)).t (a2.mono (by omega) (by omega))).t (f2.mono (by omega) (by omega))) ⟨e, rR_same _ _ _ _, a3.fw f2 (by omega)⟩⟩
theorem i1 (hy : y = b + n) (hp : ∀ sh' M', Sw y (y + 5) sh sh' → Fw y (y + 5) M M' → LEntry sh' M' y → post sh' M') : wp_X1_init b (shU sh y 1 0) (n + 1) (zM M y) y post := by
  unfold wp_X1_init
  rw [show b + (n + 1) = y + 1 by omega, show b + (n + 1 + 2) = y + 3 by omega]
  refine ⟨by decide, by decide, by decide, by decide, i7 (y := y + 1) (by omega) (fun s1 M1 a1 a2 a3 a4 => ?_)⟩
  have e : s1.1 y = 1 := by rw [(a1 _ (by omega)).1, shU1]
  refine ⟨e, by decide, by decide, by decide, by decide, i7 (y := y + 3) (by omega) (fun s2 M2 c1 c2 c3 c4 => ?_)⟩
  have e2 : s2.1 y = 1 := by rw [(c1 y (by omega)).1]; exact e
  have f1 : Fw y (y + 1) M1 (wR M1 y 0 (some (y + 1))) := Fw.r (by omega) (by omega)
  have f2 : Fw y (y + 1) M2 (wR M2 y 1 (some (y + 3))) := Fw.r (by omega) (by omega)
  refine ⟨e2, rfl, by decide, by decide, hp _ _ ((Sw.u (by omega) (by omega)).t ((a1.mono (by omega) (by omega)).t (c1.mono (by omega) (by omega)))) (((Fw.z (by omega) (by omega)).t (a2.mono (by omega) (by omega))).t ((f1.mono (by omega) (by omega)).t ((c2.mono (by omega) (by omega)).t (f2.mono (by omega) (by omega))))) ⟨e2, ?_, ((a3.fw f1 (by omega)).fw c2 (by omega) |>.sw c1 (by omega)).fw f2 (by omega), rR_same _ _ _ _, c3.fw f2 (by omega)⟩⟩
  rw [rR_ne _ _ (by omega), (c2 _ _ (by omega)).2.2, rR_same]
theorem i8 (hy : y = b + n) (hp : ∀ sh' M', Sw y (y + 2) sh sh' → Fw y (y + 2) M M' → LRuler sh' M' y → post sh' M') : wp_X8_init b (shU sh y 8 0) (n + 1) (zM M y) y post := by
  unfold wp_X8_init
  rw [show b + (n + 1) = y + 1 by omega]
  have e : (shU (shU sh y 8 0) (y + 1) 13 11).1 y = 8 := by rw [shN1 _ (by omega), shU1]
  exact ⟨by decide, by decide, e, rfl, by decide, by decide, hp _ _ ((Sw.u (by omega) (by omega)).t (Sw.u (by omega) (by omega))) (((Fw.z (by omega) (by omega)).t (Fw.z (by omega) (by omega))).t (Fw.r (by omega) (by omega))) ⟨e, rR_same _ _ _ _, shU1 _ _ _ _, shU2 _ _ _ _⟩⟩
theorem i3 (hy : y = b + n) (hp : ∀ sh' M', Sw y (y + 3) sh sh' → Fw y (y + 3) M M' → LMat sh' M' y → post sh' M') : wp_X3_init b (shU sh y 3 0) (n + 1) (zM M y) y post := by
  unfold wp_X3_init
  rw [show b + (n + 1 + 1) = y + 2 by omega, show b + (n + 1) = y + 1 by omega]
  have e : (shU (shU sh y 3 0) (y + 1) 14 256).1 y = 3 := by rw [shN1 _ (by omega), shU1]
  have e2 : (shU (shU (shU sh y 3 0) (y + 1) 14 256) (y + 2) 14 8).1 y = 3 := by rw [shN1 _ (by omega)]; exact e
  refine ⟨by decide, by decide, e, by decide, by decide, e2, rfl, by decide, by decide, hp _ _ (((Sw.u (by omega) (by omega)).t (Sw.u (by omega) (by omega))).t (Sw.u (by omega) (by omega))) (((Fw.z (by omega) (by omega)).t ((Fw.z (by omega) (by omega)).t (Fw.r (by omega) (by omega)))).t ((Fw.z (by omega) (by omega)).t (Fw.r (by omega) (by omega)))) ⟨e2, ?_, rR_same _ _ _ _, ?_, ?_, shU1 _ _ _ _, shU2 _ _ _ _⟩⟩
  · rw [rR_ne _ _ (by omega), zM_Rn _ (by omega), rR_same]
  · rw [shN1 _ (by omega), shU1]
  · rw [shN2 _ (by omega), shU2]
theorem i2 (hy : y = b + n) (hp : ∀ sh' M', Sw y (y + 4) sh sh' → Fw y (y + 4) M M' → LHands sh' M' y → handsIs M' y [] → post sh' M') : wp_X2_init b (shU sh y 2 0) (n + 1) (zM M y) y post := by
  unfold wp_X2_init
  rw [show b + (n + 1 + 2) = y + 3 by omega, show b + (n + 1 + 1) = y + 2 by omega, show b + (n + 1) = y + 1 by omega]
  have e1 : (shU (shU sh y 2 0) (y + 1) 13 5).1 y = 2 := by rw [shN1 _ (by omega), shU1]
  have e2 : (shU (shU (shU sh y 2 0) (y + 1) 13 5) (y + 2) 13 5).1 y = 2 := by rw [shN1 _ (by omega)]; exact e1
  have e3 : (shU (shU (shU (shU sh y 2 0) (y + 1) 13 5) (y + 2) 13 5) (y + 3) 13 5).1 y = 2 := by rw [shN1 _ (by omega)]; exact e2
  refine ⟨by decide, by decide, e1, by decide, by decide, e2, by decide, by decide, ?_⟩
  rintro M9 rfl
  refine ⟨e3, rfl, by decide, by decide, hp _ _ ((((Sw.u (by omega) (by omega)).t (Sw.u (by omega) (by omega))).t (Sw.u (by omega) (by omega))).t (Sw.u (by omega) (by omega))) ((((Fw.z (by omega) (by omega)).t ((Fw.z (by omega) (by omega)).t (Fw.r (by omega) (by omega)))).t ((Fw.z (by omega) (by omega)).t (Fw.r (by omega) (by omega)))).t ((Fw.z (by omega) (by omega)).t (Fw.r (by omega) (by omega)))) ⟨e3, ?_, ?_, rR_same _ _ _ _, ⟨?_, ?_⟩, ⟨?_, ?_⟩, shU1 _ _ _ _, shU2 _ _ _ _⟩ ⟨Nat.zero_le _, ?_, fun i hi => absurd hi (Nat.not_lt_zero i)⟩⟩
  · rw [rR_ne _ _ (by omega), zM_Rn _ (by omega), rR_ne _ _ (by omega), zM_Rn _ (by omega), rR_same]
  · rw [rR_ne _ _ (by omega), zM_Rn _ (by omega), rR_same]
  · rw [shN1 _ (by omega), shN1 _ (by omega), shU1]
  · rw [shN2 _ (by omega), shN2 _ (by omega), shU2]
  · rw [shN1 _ (by omega), shU1]
  · rw [shN2 _ (by omega), shU2]
  · rw [rI_wR, zM_In _ (by omega), rI_wR, zM_In _ (by omega), rI_wR, zM_In _ (by omega), zM_I]; rfl
theorem tm_nil : tmGood [] := ⟨Nat.zero_le _, fun k hk => absurd hk (Nat.not_lt_zero k), fun i j hi => absurd hi (Nat.not_lt_zero i)⟩
theorem i9 (hy : y = b + n) (hp : ∀ sh' M', Sw y (y + 5) sh sh' → Fw y (y + 5) M M' → LTerms sh' M' y → termsIs M' y [] → post sh' M') : wp_X9_init b (shU sh y 9 0) (n + 1) (zM M y) y post := by
  unfold wp_X9_init sh4 zM4
  rw [show b + (n + 1) = y + 1 by omega]
  simp only [show y + 1 + 1 = y + 2 by omega, show y + 1 + 2 = y + 3 by omega, show y + 1 + 3 = y + 4 by omega]
  have e3 : (shU (shU (shU (shU (shU sh y 9 0) (y + 1) 18 3) (y + 2) 13 100) (y + 3) 13 100) (y + 4) 13 100).1 y = 9 := by rw [shN1 _ (by omega), shN1 _ (by omega), shN1 _ (by omega), shN1 _ (by omega), shU1]
  refine ⟨by decide, by decide, e3, trivial, by decide, by decide, hp _ _ (((((Sw.u (by omega) (by omega)).t (Sw.u (by omega) (by omega))).t (Sw.u (by omega) (by omega))).t (Sw.u (by omega) (by omega))).t (Sw.u (by omega) (by omega))) ((Fw.z (by omega) (by omega)).t ((Fw.z (by omega) (by omega)).t ((Fw.z (by omega) (by omega)).t ((Fw.z (by omega) (by omega)).t ((Fw.z (by omega) (by omega)).t ((Fw.r (by omega) (by omega)).t ((Fw.r (by omega) (by omega)).t ((Fw.r (by omega) (by omega)).t (Fw.r (by omega) (by omega)))))))))) ⟨e3, rR_same _ _ _ _, ?_, ?_, fun t ht => ?_⟩ ⟨tm_nil, ?_, fun w t hw ht => Or.inr ⟨fun ⟨k, hk, _⟩ => absurd hk (Nat.not_lt_zero k), ?_⟩⟩⟩
  · rw [shN1 _ (by omega), shN1 _ (by omega), shN1 _ (by omega), shU1]
  · rw [shN2 _ (by omega), shN2 _ (by omega), shN2 _ (by omega), shU2]
  · rcases (show t = 0 ∨ t = 1 ∨ t = 2 by omega) with rfl | rfl | rfl
    · refine ⟨?_, ?_, ?_⟩
      · rw [rR_ne _ _ (by omega), rR_ne _ _ (by omega), rR_ne _ _ (by omega), rR_same]
      · show (shU _ _ _ _).1 (y + 2) = 13
        rw [shN1 _ (by omega), shN1 _ (by omega), shU1]
      · show (shU _ _ _ _).2 (y + 2) = 100
        rw [shN2 _ (by omega), shN2 _ (by omega), shU2]
    · refine ⟨?_, ?_, ?_⟩
      · rw [rR_ne _ _ (by omega), rR_ne _ _ (by omega), rR_same]
      · show (shU _ _ _ _).1 (y + 3) = 13
        rw [shN1 _ (by omega), shU1]
      · show (shU _ _ _ _).2 (y + 3) = 100
        rw [shN2 _ (by omega), shU2]
    · refine ⟨?_, ?_, ?_⟩
      · rw [rR_ne _ _ (by omega), rR_same]
      · exact shU1 _ _ _ _
      · exact shU2 _ _ _ _
  · rw [rI_wR, rI_wR, rI_wR, rI_wR, zM_In _ (by omega), zM_In _ (by omega), zM_In _ (by omega), zM_In _ (by omega), zM_I]; rfl
  · rw [rI_wR, rI_wR, rI_wR, rI_wR]
    rcases (show t = 0 ∨ t = 1 ∨ t = 2 by omega) with rfl | rfl | rfl
    · show rI _ (y + 2) w = 0
      rw [zM_In _ (by omega), zM_In _ (by omega), zM_I]
    · show rI _ (y + 3) w = 0
      rw [zM_In _ (by omega), zM_I]
    · exact zM_I _ _ _
end Init
