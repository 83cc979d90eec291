/-! pure tools: numbers, frames, rows -/
theorem p_lt (a b : Int32) : a < b ↔ a.toInt < b.toInt := Int32.lt_iff_toInt_lt
theorem p_le (a b : Int32) : a ≤ b ↔ a.toInt ≤ b.toInt := Int32.le_iff_toInt_le
theorem p_eq (a b : Int32) : a = b ↔ a.toInt = b.toInt := ⟨fun h => by rw [h], fun h => Int32.toInt_inj.mp h⟩
theorem p_rng (x : Int32) : -2147483648 ≤ x.toInt ∧ x.toInt < 2147483648 := ⟨Int32.le_toInt x, Int32.toInt_lt x⟩
theorem p_lit (n : Nat) : (OfNat.ofNat n : Int32) = nI n := rfl
theorem p_ti {n : Nat} (h : n < 2147483648) : (nI n).toInt = (n : Int) := nI_toInt h
theorem p_cl {n : Nat} (h : n < 2147483648) : (nI n).toNatClampNeg = n := nI_clamp h
theorem p_in {n N : Nat} (h : n < N) (hN : N < 2147483648) : vp_in (nI n) N := vp_in_nI h hN
theorem p_nle {a b : Nat} (h : a < b) (hb : b < 2147483648) : ¬ nI b ≤ nI a := nI_ge h hb
theorem p_leI {a b : Nat} (ha : a < 2147483648) (hb : b < 2147483648) : nI a ≤ nI b ↔ a ≤ b := nI_leI ha hb
theorem p_ltI {a b : Nat} (ha : a < 2147483648) (hb : b < 2147483648) : nI a < nI b ↔ a < b := nI_ltI ha hb
theorem p_eqI {a b : Nat} (ha : a < 2147483648) (hb : b < 2147483648) : nI a = nI b ↔ a = b := nI_eq ha hb
/-- the place that an int names among n -/
def p_ix (n : Nat) (x : Int32) : Option Nat := if 0 ≤ x.toInt ∧ x.toInt < n then some x.toInt.toNat else none
theorem p_ix_nI {n j : Nat} (h : j < n) (hn : n < 2147483648) : p_ix n (nI j) = some j := by
  unfold p_ix
  rw [p_ti (by omega), if_pos (by omega)]
  simp
theorem p_ix_some {n j : Nat} {x : Int32} (h : p_ix n x = some j) (hn : n < 2147483648) : j < n ∧ x = nI j := by
  unfold p_ix at h
  split at h
  · rename_i hc
    cases h
    refine ⟨by omega, ?_⟩
    rw [p_eq, p_ti (by have := p_rng x; omega)]
    omega
  · cases h
theorem p_ix_none {n : Nat} {x : Int32} (h : p_ix n x = none) : x.toInt < 0 ∨ (n : Int) ≤ x.toInt := by
  unfold p_ix at h
  split at h
  · cases h
  · rename_i hc
    omega
theorem p_ix_cases (n : Nat) (hn : n < 2147483648) (x : Int32) : (p_ix n x = none ∧ (x < 0 ∨ nI n ≤ x)) ∨ ∃ j, j < n ∧ x = nI j ∧ p_ix n x = some j := by
  cases h : p_ix n x with
  | none =>
    left
    refine ⟨rfl, ?_⟩
    rcases p_ix_none h with h1 | h1
    · left; rw [p_lt]; exact h1
    · right; rw [p_le, p_ti hn]; exact h1
  | some j =>
    obtain ⟨h1, h2⟩ := p_ix_some h hn
    exact Or.inr ⟨j, h1, h2, rfl⟩
/-- nothing but ints of the cells lo .. hi-1 has changed -/
def Fr (lo hi : Nat) (M M' : gh_M) : Prop := (∀ a j, (a < lo ∨ hi ≤ a) → rI M' a j = rI M a j) ∧ (∀ a j, rJ M' a j = rJ M a j) ∧ ∀ a j, rR M' a j = rR M a j
theorem Fr.rf (lo hi : Nat) (M : gh_M) : Fr lo hi M M := ⟨fun _ _ _ => rfl, fun _ _ => rfl, fun _ _ => rfl⟩
theorem Fr.tr {l1 h1 l2 h2 lo hi : Nat} {M M1 M2 : gh_M} (a : Fr l1 h1 M M1) (b : Fr l2 h2 M1 M2) (e1 : lo ≤ l1) (e2 : lo ≤ l2) (e3 : h1 ≤ hi) (e4 : h2 ≤ hi) : Fr lo hi M M2 :=
  ⟨fun x j hx => (b.1 x j (by omega)).trans (a.1 x j (by omega)), fun x j => (b.2.1 x j).trans (a.2.1 x j), fun x j => (b.2.2 x j).trans (a.2.2 x j)⟩
theorem Fr.mono {l1 h1 lo hi : Nat} {M M1 : gh_M} (a : Fr l1 h1 M M1) (e1 : lo ≤ l1) (e3 : h1 ≤ hi) : Fr lo hi M M1 := ⟨fun x j hx => a.1 x j (by omega), a.2.1, a.2.2⟩
theorem Fr.w {lo hi a k : Nat} {v : Int32} {M : gh_M} (h1 : lo ≤ a) (h2 : a < hi) : Fr lo hi M (wI M a k v) := ⟨fun x j hx => by rw [rI_wI, if_neg (by omega)], fun _ _ => rfl, fun _ _ => rfl⟩
theorem Fr.I {lo hi : Nat} {M M' : gh_M} (h : Fr lo hi M M') {a : Nat} (ha : a < lo ∨ hi ≤ a) (j : Nat) : rI M' a j = rI M a j := h.1 a j ha
theorem Fr.J {lo hi : Nat} {M M' : gh_M} (h : Fr lo hi M M') (a j : Nat) : rJ M' a j = rJ M a j := h.2.1 a j
theorem Fr.R {lo hi : Nat} {M M' : gh_M} (h : Fr lo hi M M') (a j : Nat) : rR M' a j = rR M a j := h.2.2 a j
theorem rI_same (M : gh_M) (a k : Nat) (v : Int32) : rI (wI M a k v) a k = v := by rw [rI_wI, if_pos ⟨rfl, rfl⟩]
theorem rI_ne (M : gh_M) {a k b j : Nat} (v : Int32) (h : b ≠ a ∨ j ≠ k) : rI (wI M a k v) b j = rI M b j := by rw [rI_wI, if_neg (by omega)]
theorem rJ_same (M : gh_M) (a k : Nat) (v : Int64) : rJ (wJ M a k v) a k = v := by rw [rJ_wJ, if_pos ⟨rfl, rfl⟩]
theorem rJ_ne (M : gh_M) {a k b j : Nat} (v : Int64) (h : b ≠ a ∨ j ≠ k) : rJ (wJ M a k v) b j = rJ M b j := by rw [rJ_wJ, if_neg (by omega)]
/-- a Row at r, its array behind it -/
def LRow (sh : gh_Sh) (M : gh_M) (r : Nat) : Prop := sh.1 r = 7 ∧ sh.1 (r + 1) = 13 ∧ sh.2 (r + 1) = 10 ∧ rR M r 0 = some (r + 1)
theorem LRow.fr {sh : gh_Sh} {M M' : gh_M} {r : Nat} (h : LRow sh M r) (e : ∀ a j, rR M' a j = rR M a j) : LRow sh M' r := ⟨h.1, h.2.1, h.2.2.1, (e r 0).trans h.2.2.2⟩
def rowIs (M : gh_M) (r : Nat) (l : List Int32) : Prop := l.length ≤ 10 ∧ rI M r 1 = nI l.length ∧ ∀ i, i < l.length → rI M (r + 1) i = l.getD i 0
theorem rowIs.fr {lo hi : Nat} {M M' : gh_M} {r : Nat} {l : List Int32} (h : rowIs M r l) (f : Fr lo hi M M') (d : r + 1 < lo ∨ hi ≤ r) : rowIs M' r l :=
  ⟨h.1, (f.I (by omega) 1).trans h.2.1, fun i hi => (f.I (by omega) i).trans (h.2.2 i hi)⟩
/-- the SIGN that at() answers -/
def rowAt (l : List Int32) (i : Int32) : Int32 := match p_ix l.length i with
  | none => -1
  | some j => l.getD j 0
theorem rowAt_nI {l : List Int32} {j : Nat} (h : j < l.length) (hl : l.length ≤ 10) : rowAt l (nI j) = l.getD j 0 := by
  unfold rowAt
  rw [p_ix_nI h (by omega)]
section RowSpecs
variable {sh : gh_Sh} {M : gh_M} {r : Nat} {l : List Int32}
theorem s7_size {post : Int32 → gh_M → Prop} (L : LRow sh M r) (R : rowIs M r l) (h : post (nI l.length) M) : wp_X7_size sh M r post := by
  unfold wp_X7_size
  exact ⟨L.1, by rw [R.2.1]; exact h⟩
theorem s7_isFull {post : Int32 → gh_M → Prop} (L : LRow sh M r) (R : rowIs M r l) (h : post (if 10 ≤ l.length then 1 else 0) M) : wp_X7_isFull sh M r post := by
  unfold wp_X7_isFull
  have hl := R.1
  have e : (rI M r 1 < (10 : Int32)) ↔ ¬ 10 ≤ l.length := by
    rw [R.2.1]
    exact (p_ltI (b := 10) (by omega) (by decide)).trans (by omega)
  refine ⟨L.1, fun c => ?_, fun c => ?_⟩
  · rw [if_neg (e.mp c)] at h; exact h
  · rw [if_pos (Classical.not_not.mp fun q => c (e.mpr q))] at h; exact h
theorem s7_at {post : Int32 → gh_M → Prop} {i : Int32} (L : LRow sh M r) (R : rowIs M r l) (h : post (rowAt l i) M) : wp_X7_at sh M r i post := by
  unfold wp_X7_at
  have hl := R.1
  rcases p_ix_cases l.length (by omega) i with ⟨e, hc⟩ | ⟨j, hj, rfl, e⟩
  · have e2 : rowAt l i = -1 := by unfold rowAt; rw [e]
    rw [e2] at h
    refine ⟨fun _ => h, fun c => ⟨L.1, fun _ => h, fun c2 => ?_⟩⟩
    rw [R.2.1] at c2
    rcases hc with hc | hc
    · exact absurd hc c
    · exact absurd hc c2
  · rw [rowAt_nI hj R.1] at h
    refine ⟨fun c => absurd c (nI_pos (by omega)), fun _ => ⟨L.1, fun c => ?_, fun c => ⟨_, L.2.2.2, L.2.1, ?_, ?_⟩⟩⟩
    · rw [R.2.1, p_leI (by omega) (by omega)] at c; omega
    · rw [L.2.2.1]; exact p_in (by omega) (by omega)
    · rw [p_cl (by omega), R.2.2 j hj]; exact h
end RowSpecs
