/-! Book -/
/-- nothing outside lo .. hi-1 has changed -/
def Fw (lo hi : Nat) (M M' : gh_M) : Prop := ∀ a j, (a < lo ∨ hi ≤ a) → rI M' a j = rI M a j ∧ rJ M' a j = rJ M a j ∧ rR M' a j = rR M a j
theorem Fr.fw {lo hi : Nat} {M M' : gh_M} (h : Fr lo hi M M') : Fw lo hi M M' := fun a j ha => ⟨h.1 a j ha, h.2.1 a j, h.2.2 a j⟩
theorem Fw.rf (lo hi : Nat) (M : gh_M) : Fw lo hi M M := fun _ _ _ => ⟨rfl, rfl, rfl⟩
theorem Fw.tr {l1 h1 l2 h2 lo hi : Nat} {M M1 M2 : gh_M} (a : Fw l1 h1 M M1) (b : Fw l2 h2 M1 M2) (e1 : lo ≤ l1) (e2 : lo ≤ l2) (e3 : h1 ≤ hi) (e4 : h2 ≤ hi) : Fw lo hi M M2 := fun x j hx => by
  have p := a x j (by omega)
  have q := b x j (by omega)
  exact ⟨q.1.trans p.1, q.2.1.trans p.2.1, q.2.2.trans p.2.2⟩
theorem Fw.mono {l1 h1 lo hi : Nat} {M M1 : gh_M} (a : Fw l1 h1 M M1) (e1 : lo ≤ l1) (e3 : h1 ≤ hi) : Fw lo hi M M1 := fun x j hx => a x j (by omega)
theorem LRow.fw {sh : gh_Sh} {lo hi : Nat} {M M' : gh_M} {r : Nat} (h : LRow sh M r) (f : Fw lo hi M M') (d : r + 1 < lo ∨ hi ≤ r) : LRow sh M' r := ⟨h.1, h.2.1, h.2.2.1, (f r 0 (by omega)).2.2.trans h.2.2.2⟩
theorem rowIs.fw {lo hi : Nat} {M M' : gh_M} {r : Nat} {l : List Int32} (h : rowIs M r l) (f : Fw lo hi M M') (d : r + 1 < lo ∨ hi ≤ r) : rowIs M' r l := ⟨h.1, (f _ _ (by omega)).1.trans h.2.1, fun i hi => (f _ _ (by omega)).1.trans (h.2.2 i hi)⟩
theorem LText.fw {sh : gh_Sh} {lo hi : Nat} {M M' : gh_M} {t : Nat} (h : LText sh M t) (f : Fw lo hi M M') (d : t + 2 < lo ∨ hi ≤ t) : LText sh M' t := ⟨h.1, (f _ _ (by omega)).2.2.trans h.2.1, h.2.2.fw f (by omega)⟩
theorem textIs.fw {lo hi : Nat} {M M' : gh_M} {t : Nat} {x : TxT} (h : textIs M t x) (f : Fw lo hi M M') (d : t + 2 < lo ∨ hi ≤ t) : textIs M' t x := ⟨(f _ _ (by omega)).1.trans h.1, (f _ _ (by omega)).1.trans h.2.1, h.2.2.fw f (by omega)⟩
theorem LPiece.fw {sh : gh_Sh} {lo hi : Nat} {M M' : gh_M} {p : Nat} (h : LPiece sh M p) (f : Fw lo hi M M') (d : p + 12 < lo ∨ hi ≤ p) : LPiece sh M' p :=
  ⟨h.1, (f _ _ (by omega)).2.2.trans h.2.1, h.2.2.1.fw f (by omega), (f _ _ (by omega)).2.2.trans h.2.2.2.1, h.2.2.2.2.1, h.2.2.2.2.2.1, fun t ht => ⟨(f _ _ (by omega)).2.2.trans (h.2.2.2.2.2.2 t ht).1, (h.2.2.2.2.2.2 t ht).2.fw f (by omega)⟩⟩
theorem pieceIs.fw {lo hi : Nat} {M M' : gh_M} {p : Nat} {x : PcT} (h : pieceIs M p x) (f : Fw lo hi M M') (d : p + 12 < lo ∨ hi ≤ p) : pieceIs M' p x :=
  ⟨(f _ _ (by omega)).1.trans h.1, h.2.1.fw f (by omega), (f _ _ (by omega)).1.trans h.2.2.1, (f _ _ (by omega)).1.trans h.2.2.2.1, fun t ht => (h.2.2.2.2 t ht).fw f (by omega)⟩
def LBook (sh : gh_Sh) (M : gh_M) (b : Nat) : Prop := sh.1 b = 0 ∧ rR M b 0 = some (b + 1) ∧ sh.1 (b + 1) = 16 ∧ sh.2 (b + 1) = 8 ∧ ∀ i, i < 8 → rR M (b + 1) i = some (b + 2 + 13 * i) ∧ LPiece sh M (b + 2 + 13 * i)
theorem LBook.fr {sh : gh_Sh} {M M' : gh_M} {b : Nat} (h : LBook sh M b) (e : ∀ a j, rR M' a j = rR M a j) : LBook sh M' b := ⟨h.1, (e _ _).trans h.2.1, h.2.2.1, h.2.2.2.1, fun i hi => ⟨(e _ _).trans (h.2.2.2.2 i hi).1, (h.2.2.2.2 i hi).2.fr e⟩⟩
theorem LBook.fw {sh : gh_Sh} {lo hi : Nat} {M M' : gh_M} {b : Nat} (h : LBook sh M b) (f : Fw lo hi M M') (d : b + 105 < lo ∨ hi ≤ b) : LBook sh M' b := ⟨h.1, (f _ _ (by omega)).2.2.trans h.2.1, h.2.2.1, h.2.2.2.1, fun i hi => ⟨(f _ _ (by omega)).2.2.trans (h.2.2.2.2 i hi).1, (h.2.2.2.2 i hi).2.fw f (by omega)⟩⟩
def bookIs (M : gh_M) (b : Nat) (l : List PcT) : Prop := l.length ≤ 8 ∧ rI M b 1 = nI l.length ∧ ∀ i, i < l.length → pieceIs M (b + 2 + 13 * i) (l.getD i pc0)
theorem bookIs.fr {lo hi : Nat} {M M' : gh_M} {b : Nat} {l : List PcT} (h : bookIs M b l) (f : Fr lo hi M M') (d : b + 105 < lo ∨ hi ≤ b) : bookIs M' b l := ⟨h.1, (f.I (by omega) _).trans h.2.1, fun i hi => (h.2.2 i hi).fr f (by have := h.1; omega)⟩
theorem bookIs.fw {lo hi : Nat} {M M' : gh_M} {b : Nat} {l : List PcT} (h : bookIs M b l) (f : Fw lo hi M M') (d : b + 105 < lo ∨ hi ≤ b) : bookIs M' b l := ⟨h.1, (f _ _ (by omega)).1.trans h.2.1, fun i hi => (h.2.2 i hi).fw f (by have := h.1; omega)⟩
theorem p_m8 {N i : Nat} (hi : i < N) (hN : N < 1000) : N - (nI i + 1).toNatClampNeg < N - (nI i).toNatClampNeg := by
  rw [nI_1, p_cl (by omega), p_cl (by omega)]; omega
section BookSpecs
variable {sh : gh_Sh} {M : gh_M} {b : Nat} {l : List PcT}
theorem s0_count {post : Int32 → gh_M → Prop} (L : LBook sh M b) (B : bookIs M b l) (h : post (nI l.length) M) : wp_X0_count sh M b post := by
  unfold wp_X0_count
  exact ⟨L.1, by rw [B.2.1]; exact h⟩
theorem s0_isFull {post : Int32 → gh_M → Prop} (L : LBook sh M b) (B : bookIs M b l) (h : post (if 8 ≤ l.length then 1 else 0) M) : wp_X0_isFull sh M b post := by
  unfold wp_X0_isFull
  have hl := B.1
  have e : (rI M b 1 < (8 : Int32)) ↔ ¬ 8 ≤ l.length := by
    rw [B.2.1]
    exact (p_ltI (b := 8) (by omega) (by decide)).trans (by omega)
  refine ⟨L.1, fun c => ?_, fun c => ?_⟩
  · rw [if_neg (e.mp c)] at h; exact h
  · rw [if_pos (Classical.not_not.mp fun q => c (e.mpr q))] at h; exact h
theorem s0_at {post : Option Nat → gh_M → Prop} {i : Int32} (L : LBook sh M b) (B : bookIs M b l) (h : post ((p_ix l.length i).map (fun j => b + 2 + 13 * j)) M) : wp_X0_at sh M b i post := by
  unfold wp_X0_at
  have hl := B.1
  rcases p_ix_cases l.length (by omega) i with ⟨e, hc⟩ | ⟨j, hj, rfl, e⟩
  · rw [e] at h
    refine ⟨fun _ => h, fun c => ⟨L.1, fun _ => h, fun c2 => ?_⟩⟩
    rw [B.2.1] at c2
    rcases hc with hc | hc
    · exact absurd hc c
    · exact absurd hc c2
  · rw [e] at h
    refine ⟨fun c => absurd c (nI_pos (by omega)), fun _ => ⟨L.1, fun c => ?_, fun c => ⟨_, L.2.1, L.2.2.1, ?_, _, ?_, h⟩⟩⟩
    · rw [B.2.1, p_leI (by omega) (by omega)] at c; omega
    · rw [L.2.2.2.1]; exact p_in (by omega) (by omega)
    · rw [p_cl (by omega)]; exact (L.2.2.2.2 j (by omega)).1
theorem s0_clear {post : gh_M → Prop} (L : LBook sh M b) (h : ∀ M', Fr b (b + 106) M M' → bookIs M' b [] → post M') : wp_X0_clear sh M b post := by
  unfold wp_X0_clear
  exact ⟨L.1, h _ (Fr.w (by omega) (by omega)) ⟨by simp, rI_same _ _ _ _, fun i hi => by simp at hi⟩⟩
theorem p_getD_app {α : Type} {l : List α} {x d : α} : (l ++ [x]).getD l.length d = x := by
  simp [List.getD_eq_getElem?_getD]
theorem p_getD_app2 {α : Type} {l : List α} {x d : α} {i : Nat} (h : i < l.length) : (l ++ [x]).getD i d = l.getD i d := by
  simp [List.getD_eq_getElem?_getD, List.getElem?_append_left h]
theorem s0_add {post : gh_M → Prop} {k : Int32} {r : Nat} {s : List Int32} (L : LBook sh M b) (B : bookIs M b l) (hl : l.length < 8) (L' : LRow sh M r) (R : rowIs M r s) (d : r + 1 < b ∨ b + 105 < r) (h : ∀ M', Fr b (b + 106) M M' → bookIs M' b (l ++ [(k, s, -5, 0, fun _ => tx0)]) → post M') : wp_X0_add sh M b k r post := by
  unfold wp_X0_add
  obtain ⟨l1, l2⟩ := L.2.2.2.2 l.length hl
  refine ⟨L.1, s0_isFull L B ⟨fun _ => ⟨_, L.2.1, L.2.2.1, ?_, _, ?_, l2.1, s5_begin l2 L' R (by omega) (fun M1 hF hP => h _ ?_ ?_)⟩, fun c => ?_⟩⟩
  · rw [L.2.2.2.1, B.2.1]; exact p_in hl (by decide)
  · rw [B.2.1, p_cl (by omega)]; exact l1
  · exact Fr.tr hF (Fr.w (lo := b) (hi := b + 106) (by omega) (by omega)) (by omega) (by omega) (by omega) (by omega)
  · refine ⟨by simp; omega, ?_, fun i hi => ?_⟩
    · rw [rI_same, hF.I (by omega), B.2.1, List.length_append]; exact nI_1 _
    · simp at hi
      refine pieceIs.fr ?_ (Fr.w (lo := b) (hi := b + 1) (by omega) (by omega)) (by omega)
      by_cases e : i = l.length
      · subst e; rw [p_getD_app]; exact hP
      · rw [p_getD_app2 (by omega)]; exact (B.2.2 i (by omega)).fr hF (by omega)
  · rw [if_neg (by omega)] at c; exact absurd rfl c
theorem s0_copy {post : gh_M → Prop} {b' : Nat} (L : LBook sh M b) (L' : LBook sh M b') (B : bookIs M b' l) (d : b' + 105 < b ∨ b + 105 < b') (h : ∀ M', Fr b (b + 106) M M' → bookIs M' b l → post M') : wp_X0_copy sh M b b' post := by
  unfold wp_X0_copy
  refine ⟨L'.1, L.1, ?_⟩
  unfold wp_X0_copy_10
  have hl := B.1
  refine ⟨fun v => ∃ i, i ≤ l.length ∧ v.1 = nI i ∧ Fr b (b + 106) M v.2 ∧ rI v.2 b 1 = nI l.length ∧ ∀ j, j < i → pieceIs v.2 (b + 2 + 13 * j) (l.getD j pc0), fun v => 8 - v.1.toNatClampNeg, ⟨0, by omega, rfl, Fr.w (by omega) (by omega), by rw [rI_same, B.2.1], fun j hj => by omega⟩, ?_⟩
  rintro ⟨x, M1⟩ ⟨i, hi, hx, hF, hs, hr⟩
  dsimp only at hx hF hs hr ⊢
  subst hx
  unfold wb_X0_copy_10
  rw [hs]
  have L1 := L.fr hF.2.2
  have L1' := L'.fr hF.2.2
  refine ⟨L.1, fun c => ?_, fun c => ?_⟩
  · rw [p_leI (by omega) (by omega)] at c
    have : i = l.length := by omega
    subst this
    exact h M1 hF ⟨hl, hs, hr⟩
  · rw [p_leI (by omega) (by omega)] at c
    obtain ⟨l1, l2⟩ := L1.2.2.2.2 i (by omega)
    obtain ⟨m1, m2⟩ := L1'.2.2.2.2 i (by omega)
    refine ⟨_, L1.2.1, L1.2.2.1, by rw [L1.2.2.2.1]; exact p_in (by omega) (by decide), _, by rw [p_cl (by omega)]; exact l1, L1'.1, _, L1'.2.1, L1'.2.2.1, by rw [L1'.2.2.2.1]; exact p_in (by omega) (by decide), _, by rw [p_cl (by omega)]; exact m1, l2.1, s5_copy l2 m2 ((B.2.2 i (by omega)).fr hF (by omega)) (by omega) (fun M2 hF2 hP2 => ⟨⟨i + 1, by omega, nI_1 i, ?_, ?_, fun j hj => ?_⟩, p_m8 (by omega) (by omega)⟩)⟩
    · exact Fr.tr hF hF2 (by omega) (by omega) (by omega) (by omega)
    · exact (hF2.I (by omega) _).trans hs
    · by_cases e : j = i
      · subst e; exact hP2
      · exact (hr j (by omega)).fr hF2 (by omega)
/-- sums over the first n -/
def sumN (f : Nat → Nat) : Nat → Nat
  | 0 => 0
  | n + 1 => sumN f n + f n
theorem s0_textsThatAre {post : Int32 → gh_M → Prop} {st : Int32} (L : LBook sh M b) (B : bookIs M b l) (h : post (nI (sumN (fun i => cnt3 (fun t => decide (((l.getD i pc0).2.2.2.2 t).1 = st)) 3) l.length)) M) : wp_X0_textsThatAre sh M b st post := by
  unfold wp_X0_textsThatAre wp_X0_textsThatAre_4
  have hl := B.1
  refine ⟨fun v => v.2.2 = M ∧ ∃ i, i ≤ l.length ∧ v.2.1 = nI i ∧ v.1 = nI (sumN (fun i => cnt3 (fun t => decide (((l.getD i pc0).2.2.2.2 t).1 = st)) 3) i), fun v => 8 - v.2.1.toNatClampNeg, ⟨rfl, 0, by omega, rfl, rfl⟩, ?_⟩
  rintro ⟨n, y, M1⟩ ⟨rfl, i, hi, hy, hn⟩
  dsimp only at hy hn ⊢
  subst hy
  subst hn
  unfold wb_X0_textsThatAre_4
  rw [B.2.1]
  refine ⟨L.1, fun c => ?_, fun c => ?_⟩
  · rw [p_leI (by omega) (by omega)] at c
    have : i = l.length := by omega
    subst this; exact h
  · rw [p_leI (by omega) (by omega)] at c
    obtain ⟨l1, l2⟩ := L.2.2.2.2 i (by omega)
    refine ⟨_, L.2.1, L.2.2.1, by rw [L.2.2.2.1]; exact p_in (by omega) (by decide), _, by rw [p_cl (by omega)]; exact l1, l2.1, s5_textsThatAre l2 (B.2.2 i (by omega)) ⟨⟨rfl, i + 1, by omega, nI_1 i, nI_add _ _⟩, p_m8 (by omega) (by omega)⟩⟩
theorem s0_releasedSize {post : Int32 → gh_M → Prop} {t : Nat} (ht : t < 3) (L : LBook sh M b) (B : bookIs M b l) (h : post (nI (sumN (fun i => (relOf (l.getD i pc0) t).length) l.length)) M) : wp_X0_releasedSize sh M b (nI t) post := by
  unfold wp_X0_releasedSize wp_X0_releasedSize_4
  have hl := B.1
  refine ⟨fun v => v.2.2 = M ∧ ∃ i, i ≤ l.length ∧ v.2.1 = nI i ∧ v.1 = nI (sumN (fun i => (relOf (l.getD i pc0) t).length) i), fun v => 8 - v.2.1.toNatClampNeg, ⟨rfl, 0, by omega, rfl, rfl⟩, ?_⟩
  rintro ⟨n, y, M1⟩ ⟨rfl, i, hi, hy, hn⟩
  dsimp only at hy hn ⊢
  subst hy
  subst hn
  unfold wb_X0_releasedSize_4
  rw [B.2.1]
  refine ⟨L.1, fun c => ?_, fun c => ?_⟩
  · rw [p_leI (by omega) (by omega)] at c
    have : i = l.length := by omega
    subst this; exact h
  · rw [p_leI (by omega) (by omega)] at c
    obtain ⟨l1, l2⟩ := L.2.2.2.2 i (by omega)
    refine ⟨_, L.2.1, L.2.2.1, by rw [L.2.2.2.1]; exact p_in (by omega) (by decide), _, by rw [p_cl (by omega)]; exact l1, l2.1, s5_releasedIn ht l2 (B.2.2 i (by omega)) (fun r Lr Rr => ⟨Lr.1, s7_size Lr Rr ⟨⟨rfl, i + 1, by omega, nI_1 i, nI_add _ _⟩, p_m8 (by omega) (by omega)⟩⟩)⟩
/-- SIGN number n of the rows from i on -/
def relAt (l : List PcT) (t : Nat) : Nat → Nat → Nat → Int32
  | 0, _, _ => -5
  | k + 1, i, n => if i < l.length then (if n < (relOf (l.getD i pc0) t).length then (relOf (l.getD i pc0) t).getD n 0 else relAt l t k (i + 1) (n - (relOf (l.getD i pc0) t).length)) else -5
theorem s0_releasedSign {post : Int32 → gh_M → Prop} {t : Nat} {x : Int32} (ht : t < 3) (L : LBook sh M b) (B : bookIs M b l) (h : post (if x.toInt < 0 then -5 else relAt l t 9 0 x.toInt.toNat) M) : wp_X0_releasedSign sh M b (nI t) x post := by
  unfold wp_X0_releasedSign
  have hl := B.1
  refine ⟨fun c => ?_, fun c => ?_⟩
  · rw [p_0le] at c
    rw [if_neg (by omega)] at h
    unfold wp_X0_releasedSign_12
    have hxb := p_rng x
    generalize hV : relAt l t 9 0 x.toInt.toNat = V at h
    refine ⟨fun v => v.2.2 = M ∧ ∃ i n, i ≤ l.length ∧ v.2.1 = nI i ∧ v.1 = nI n ∧ n < 2147483648 ∧ V = relAt l t (9 - i) i n, fun v => 8 - v.2.1.toNatClampNeg, ⟨rfl, 0, x.toInt.toNat, by omega, rfl, ?_, by omega, hV.symm⟩, ?_⟩
    · show x = nI x.toInt.toNat
      rw [p_eq, p_ti (by omega)]; omega
    rintro ⟨m, y, M1⟩ ⟨rfl, i, n, hi, hy, hm, hn, he⟩
    dsimp only at hy hm ⊢
    subst hy
    subst hm
    unfold wb_X0_releasedSign_12
    rw [B.2.1]
    have e9 : 9 - i = (8 - i) + 1 := by omega
    rw [e9] at he
    unfold relAt at he
    refine ⟨L.1, fun c => ?_, fun c => ?_⟩
    · rw [p_leI (by omega) (by omega)] at c
      rw [if_neg (by omega)] at he
      rw [he] at h; exact h
    · rw [p_leI (by omega) (by omega)] at c
      rw [if_pos (by omega)] at he
      obtain ⟨l1, l2⟩ := L.2.2.2.2 i (by omega)
      refine ⟨_, L.2.1, L.2.2.1, by rw [L.2.2.2.1]; exact p_in (by omega) (by decide), _, by rw [p_cl (by omega)]; exact l1, l2.1, s5_releasedIn ht l2 (B.2.2 i (by omega)) (fun r Lr Rr => ⟨Lr.1, s7_size Lr Rr ⟨fun c2 => s7_size Lr Rr ?_, fun c2 => s7_at Lr Rr ?_⟩⟩)⟩
      · have hr10 := Rr.1
        rw [p_leI (by omega) (by omega)] at c2
        rw [if_neg (by omega)] at he
        refine ⟨⟨rfl, i + 1, n - (relOf (l.getD i pc0) t).length, by omega, nI_1 i, pk_sub c2, by omega, ?_⟩, p_m8 (by omega) (by omega)⟩
        rw [he, show 9 - (i + 1) = 8 - i by omega]
      · have hr10 := Rr.1
        rw [p_leI (by omega) (by omega)] at c2
        rw [if_pos (by omega)] at he
        rw [rowAt_nI (by omega) hr10, ← he]; exact h
  · rw [p_0le] at c
    rw [if_pos (by omega)] at h
    exact h
end BookSpecs
