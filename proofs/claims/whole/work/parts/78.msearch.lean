/-! the reference: the search for THE PLAN -/
abbrev PVa (a : AbS) (t : Nat) (x : Nat → Nat) (n : Nat) : Prop := PV (aH a).length (effN a t) (hKn (aH a) t) (hHr (aH a)) x n
abbrev BsA (a : AbS) (t m c n : Nat) (M : gh_M) : Prop := Bst (aS a).length (aH a).length (effN a t) (hKn (aH a) t) (hHr (aH a)) (hRt (aH a)) m c n M
abbrev cnA (a : AbS) (x : Nat → Nat) (n : Nat) : Nat := cntP (aH a).length x n
noncomputable abbrev csA (a : AbS) (t : Nat) (x : Nat → Nat) (n : Nat) : Nat := cstP (aH a).length (effN a t) (hRt (aH a)) x n
noncomputable abbrev usA (a : AbS) (t : Nat) (x : Nat → Nat) (j n : Nat) : Nat := usedP (effN a t) x j n
theorem cnA_ext {a : AbS} {f g : Nat → Nat} {n : Nat} (hg : ∀ q, q < n → g q = f q) : cnA a g n = cnA a f n := cntP_ext hg
theorem csA_ext {a : AbS} {t : Nat} {f g : Nat → Nat} {n : Nat} (hg : ∀ q, q < n → g q = f q) : csA a t g n = csA a t f n := cstP_ext hg
theorem usA_ext {a : AbS} {t : Nat} {f g : Nat → Nat} {j n : Nat} (hg : ∀ q, q < n → g q = f q) : usA a t g j n = usA a t f j n := usedP_ext hg
def CIv (m : Nat) (x : Nat → Nat) (n : Nat) (M : gh_M) : Prop := ∀ q, q < n → rI M (m + 36) q = nI (x q)
def LIv (m : Nat) (a : AbS) (t : Nat) (x : Nat → Nat) (n : Nat) (M : gh_M) : Prop := ∀ j, j < (aH a).length → rI M (m + 37) j = nI (hHr (aH a) j - usA a t x j n)
def DJ (m : Nat) (a : AbS) (t : Nat) (n : Nat) (v : Int32 × Int32 × Int32 × Int32 × gh_M) : Prop :=
  (v.2.2.2.1 = 0 ∧ n = 0 ∧ BsA a t m 1 0 v.2.2.2.2) ∨
  (v.2.2.2.1 = 1 ∧ v.1 = nI (aS a).length ∧ ∃ x, PVa a t x (aS a).length ∧ CIv m x (aS a).length v.2.2.2.2 ∧ LIv m a t x (aS a).length v.2.2.2.2 ∧ v.2.1 = nI (cnA a x (aS a).length) ∧ v.2.2.1 = nI (csA a t x (aS a).length) ∧ BsA a t m (horn x (aS a).length) (aS a).length v.2.2.2.2 ∧ n = (8 ^ (aS a).length - horn x (aS a).length) * 16 + (16 - (aS a).length)) ∨
  (v.2.2.2.1 = 1 ∧ ∃ i x d, i < (aS a).length ∧ v.1 = nI i ∧ PVa a t x (i + 1) ∧ CIv m x i v.2.2.2.2 ∧ ((d = 0 ∧ x i = (aH a).length ∧ rI v.2.2.2.2 (m + 36) i = -1) ∨ (d = x i + 1 ∧ rI v.2.2.2.2 (m + 36) i = nI (x i))) ∧ LIv m a t x (i + 1) v.2.2.2.2 ∧ v.2.1 = nI (cnA a x (i + 1)) ∧ v.2.2.1 = nI (csA a t x (i + 1)) ∧ BsA a t m (8 * horn x i + d) (i + 1) v.2.2.2.2 ∧ n = (8 ^ (aS a).length - (8 * horn x i + d) * 8 ^ ((aS a).length - (i + 1))) * 16 + (16 - i))
/-- the numbers are small -/
def DH (a : AbS) (t : Nat) : Prop := (aS a).length ≤ 8 ∧ (aH a).length ≤ 5 ∧ (∀ q, effN a t q ≤ 10) ∧ ∀ j, j < (aH a).length → hHr (aH a) j ≤ 20 ∧ hRt (aH a) j ≤ 9
theorem ms_step {A d s i : Nat} (hi : i < s) (hd : d ≤ 7) (hA : A < 8 ^ i) : (8 * A + d) * 8 ^ (s - (i + 1)) < (A + 1) * 8 ^ (s - i) ∧ (8 * A + d) * 8 ^ (s - (i + 1)) < 8 ^ s := by
  have e1 : 8 ^ (s - i) = 8 ^ (s - (i + 1)) * 8 := by rw [show s - i = s - (i + 1) + 1 by omega, Nat.pow_succ]
  have h1 : (8 * A + d) * 8 ^ (s - (i + 1)) < (A + 1) * 8 ^ (s - i) := by
    rw [e1, show (A + 1) * (8 ^ (s - (i + 1)) * 8) = (8 * A + 8) * 8 ^ (s - (i + 1)) by rw [Nat.mul_comm (8 ^ (s - (i + 1))) 8, ← Nat.mul_assoc, Nat.add_mul, Nat.mul_comm A 8]]
    exact Nat.mul_lt_mul_of_pos_right (by omega) (Nat.pow_pos (by omega))
  refine ⟨h1, Nat.lt_of_lt_of_le h1 ?_⟩
  have : 8 ^ s = 8 ^ i * 8 ^ (s - i) := by rw [← Nat.pow_add, show i + (s - i) = s by omega]
  rw [this]
  exact Nat.mul_le_mul_right _ hA
section MS
variable {sh : gh_Sh} {m : Nat} {a : AbS} {t : Nat} {M0 M : gh_M} {n : Nat} {k : Int32 × Int32 × Int32 × Int32 × gh_M → Prop}
theorem DH.cs (H : DH a t) (x : Nat → Nat) {n : Nat} (hn : n ≤ 8) : csA a t x n ≤ 720 := cst_small hn H.2.2.1 (fun j hj => (H.2.2.2 j hj).2)
theorem DH.cn (x : Nat → Nat) (n : Nat) : cnA a x n ≤ n * 1 := sumN_bound n (fun q hq => by split <;> omega)
theorem fp_back {i : Nat} {x : Nat → Nat} (hi : i ≤ (aS a).length) (hs : (aS a).length ≤ 8) (hx : PVa a t x i) (hc : CIv m x i M) (hl : LIv m a t x i M) (hb : BsA a t m (horn x i + 1) i M) (hn : (8 ^ (aS a).length - (horn x i + 1) * 8 ^ ((aS a).length - i)) * 16 + (17 - i) < n) (hch : Ch m [36, 37, 38] [48, 49] M0 M) (hk : ∀ n' v', n' < n → (Ch m [36, 37, 38] [48, 49] M0 v'.2.2.2.2 ∧ DJ m a t n' v') → k v') : (nI i + (-1) < 0 → k (nI i + (-1), nI (cnA a x i), nI (csA a t x i), 0, M)) ∧ (¬ nI i + (-1) < 0 → k (nI i + (-1), nI (cnA a x i), nI (csA a t x i), 1, M)) := by
  cases i with
  | zero => exact ⟨fun _ => hk 0 _ (by omega) ⟨hch, Or.inl ⟨rfl, rfl, hb⟩⟩, fun c => absurd (show nI 0 + (-1) < 0 by decide) c⟩
  | succ i =>
    rw [pk_m1]
    refine ⟨fun c => absurd c (nI_pos (by omega)), fun _ => hk _ _ ?_ ⟨hch, Or.inr (Or.inr ⟨rfl, i, x, x i + 1, by omega, rfl, hx, fun q hq => hc q (by omega), Or.inr ⟨rfl, hc i (by omega)⟩, hl, rfl, rfl, hb, rfl⟩)⟩⟩
    have e : 8 * horn x i + (x i + 1) = horn x (i + 1) + 1 := rfl
    rw [e]
    omega
theorem fp_down {post : gh_M → Prop} {i : Nat} {x : Nat → Nat} (H : DH a t) (f : FX sh m a t M) (hi : i < (aS a).length) (hx : PVa a t x (i + 1)) (hc : CIv m x (i + 1) M) (hl : LIv m a t x (i + 1) M) (hb : BsA a t m (horn x (i + 1)) (i + 1) M) (hn : (8 ^ (aS a).length - horn x (i + 1) * 8 ^ ((aS a).length - (i + 1))) * 16 + (15 - i) < n) (hch : Ch m [36, 37, 38] [48, 49] M0 M) (hk : ∀ n' v', n' < n → (Ch m [36, 37, 38] [48, 49] M0 v'.2.2.2.2 ∧ DJ m a t n' v') → k v') : wp_X12_findPlan_295 sh post (fun x2 x3 x4 x5 M => k (x2, x3, x4, x5, M)) m (nI t) (nI i) (nI (cnA a x (i + 1))) (nI (csA a t x (i + 1))) 1 M := by
  unfold wp_X12_findPlan_295 wp_X12_findPlan_313
  obtain ⟨L, f2, -⟩ := f
  have hs := H.1
  rw [f2, nI_1]
  refine ⟨L.1, fun c => ?_, fun c => ?_⟩
  · have e : i + 1 = (aS a).length := by have := (p_leI (by omega) (by omega)).mp c; omega
    rw [e] at hx hc hl hb hn ⊢
    rw [Nat.sub_self, Nat.pow_zero, Nat.mul_one] at hn
    exact hk _ _ (by omega) ⟨hch, Or.inr (Or.inl ⟨rfl, rfl, x, hx, hc, hl, rfl, rfl, hb, rfl⟩)⟩
  · have lt : i + 1 < (aS a).length := Nat.not_le.mp fun z => c ((p_leI (by omega) (by omega)).mpr z)
    refine ⟨_, L.f45, L.k36, L.v36 (i := i + 1) (by omega) rfl, ?_⟩
    rw [p_cl (by omega)]
    have ext : ∀ q, q < i + 1 → (fun q => if q = i + 1 then (aH a).length else x q) q = x q := fun q hq => if_neg (by omega)
    have eh : (fun q => if q = i + 1 then (aH a).length else x q) (i + 1) = (aH a).length := if_pos rfl
    have hx2 : PVa a t (fun q => if q = i + 1 then (aH a).length else x q) (i + 2) := PV.up (hx.ext ext) (Or.inl eh)
    have hhn := horn_congr (i + 1) ext
    have c1 : cnA a (fun q => if q = i + 1 then (aH a).length else x q) (i + 2) = cnA a x (i + 1) := by
      have : cnA a (fun q => if q = i + 1 then (aH a).length else x q) (i + 2) = cnA a (fun q => if q = i + 1 then (aH a).length else x q) (i + 1) + (if (fun q => if q = i + 1 then (aH a).length else x q) (i + 1) < (aH a).length then 1 else 0) := rfl
      rw [this, eh, if_neg (Nat.lt_irrefl _), cnA_ext ext, Nat.add_zero]
    have c2 : csA a t (fun q => if q = i + 1 then (aH a).length else x q) (i + 2) = csA a t x (i + 1) := by
      have : csA a t (fun q => if q = i + 1 then (aH a).length else x q) (i + 2) = csA a t (fun q => if q = i + 1 then (aH a).length else x q) (i + 1) + (if (fun q => if q = i + 1 then (aH a).length else x q) (i + 1) < (aH a).length then effN a t (i + 1) * hRt (aH a) ((fun q => if q = i + 1 then (aH a).length else x q) (i + 1)) else 0) := rfl
      rw [this, eh, if_neg (Nat.lt_irrefl _), csA_ext ext, Nat.add_zero]
    have c3 : ∀ j, j < (aH a).length → usA a t (fun q => if q = i + 1 then (aH a).length else x q) j (i + 2) = usA a t x j (i + 1) := fun j hj => by
      have : usA a t (fun q => if q = i + 1 then (aH a).length else x q) j (i + 2) = usA a t (fun q => if q = i + 1 then (aH a).length else x q) j (i + 1) + (if (fun q => if q = i + 1 then (aH a).length else x q) (i + 1) = j then effN a t (i + 1) else 0) := rfl
      rw [this, eh, if_neg (by omega), usA_ext ext, Nat.add_zero]
    generalize (fun q => if q = i + 1 then (aH a).length else x q) = y at ext eh hx2 hhn c1 c2 c3
    refine hk _ _ ?_ ⟨hch.tr (Ch.wa 36 _ _ (by decide) (by decide) (by decide)), Or.inr (Or.inr ⟨rfl, i + 1, y, 0, lt, rfl, hx2, fun q hq => ?_, Or.inl ⟨rfl, eh, rI_same _ _ _ _⟩, fun j hj => ?_, ?_, ?_, ?_, rfl⟩)⟩
    · rw [hhn, Nat.add_zero, show (8 * horn x (i + 1)) * 8 ^ ((aS a).length - (i + 1 + 1)) = horn x (i + 1) * 8 ^ ((aS a).length - (i + 1)) by rw [show (aS a).length - (i + 1) = (aS a).length - (i + 1 + 1) + 1 by omega, Nat.pow_succ, Nat.mul_comm 8, Nat.mul_assoc, Nat.mul_comm 8]]
      omega
    · rw [rI_ne _ _ (by omega), ext q hq]; exact hc q hq
    · rw [rI_ne _ _ (by omega), c3 j hj]; exact hl j hj
    · dsimp only; rw [c1]
    · dsimp only; rw [c2]
    · refine Bst.ch (Bst.skip hb (fun g hg => ?_)) (rI_ne _ _ (by omega)) (rI_ne _ _ (by omega)) (fun q hq => rI_ne _ _ (by omega))
      have g8 := hg.lt8 H.2.1 (i + 1) lt
      have e2 : horn g (i + 1 + 1) = 8 * horn g (i + 1) + g (i + 1) := rfl
      rw [e2, hhn]
      omega
theorem fp_203 {post : gh_M → Prop} {i d nx : Nat} {x : Nat → Nat} (H : DH a t) (f : FX sh m a t M) (hi : i < (aS a).length) (hx : PVa a t x i) (hc : CIv m x i M) (hl : LIv m a t x i M) (hd : d ≤ nx) (hnx : nx ≤ (aH a).length ∨ (nx = (aH a).length + 1 ∧ d = nx)) (hno : ∀ j, d ≤ j → j < nx → j < (aH a).length → ¬ fitP (effN a t) (hKn (aH a) t) i j (hHr (aH a) j - usA a t x j i)) (hfit : nx < (aH a).length → fitP (effN a t) (hKn (aH a) t) i nx (hHr (aH a) nx - usA a t x nx i)) (hb : BsA a t m (8 * horn x i + d) (i + 1) M) (hn : n = (8 ^ (aS a).length - (8 * horn x i + d) * 8 ^ ((aS a).length - (i + 1))) * 16 + (16 - i)) (hch : Ch m [36, 37, 38] [48, 49] M0 M) (hk : ∀ n' v', n' < n → (Ch m [36, 37, 38] [48, 49] M0 v'.2.2.2.2 ∧ DJ m a t n' v') → k v') : wp_X12_findPlan_203 sh post (fun x2 x3 x4 x5 M => k (x2, x3, x4, x5, M)) m (nI t) (nI i) (nI (cnA a x i)) (nI (csA a t x i)) 1 (nI nx) M := by
  unfold wp_X12_findPlan_203 wp_X12_findPlan_223 wp_X12_findPlan_235
  have hf := f
  obtain ⟨L, f2, f3, f4, f5⟩ := f
  have hs := H.1
  have hh := H.2.1
  have x8 := hx.lt8 hh
  have hA : horn x i < 8 ^ i := horn_lt i x8
  obtain ⟨ms1, ms2⟩ := ms_step (d := d) hi (by omega) hA
  -- of plans that begin as x
  have pre : ∀ g, PVa a t g (aS a).length → horn g i = horn x i → ∀ q, q < i → g q = x q := fun g hg he => horn_eq i (fun q hq => hg.lt8 hh q (by omega)) x8 he
  have hback : BsA a t m (horn x i + 1) i M → (nI i + (-1) < 0 → k (nI i + (-1), nI (cnA a x i), nI (csA a t x i), 0, M)) ∧ (¬ nI i + (-1) < 0 → k (nI i + (-1), nI (cnA a x i), nI (csA a t x i), 1, M)) := fun hb2 => fp_back (by omega) hs hx hc hl hb2 (by omega) hch hk
  rw [f3.2.1]
  refine ⟨L.1, fun c => hback ?_, fun c => ?_⟩
  · have hlt := (p_ltI (by omega) (by omega)).mp c
    refine Bst.skip hb (fun g hg => ?_)
    have g8 := hg.lt8 hh i hi
    have gh := (hg.1 i hi).1
    have e2 : horn g (i + 1) = 8 * horn g i + g i := rfl
    rw [e2]
    omega
  have hle : nx ≤ (aH a).length := Nat.not_lt.mp fun z => c ((p_ltI (by omega) (by omega)).mpr z)
  have cn8 := DH.cn (a := a) x i
  have cs7 := H.cs x (n := i) (by omega)
  have hcs : ∀ g, csA a t g (aS a).length ≤ 720 := fun g => H.cs g hs
  -- what is told as best
  have bst : (rI M m 48 = -1 ∨ ∃ b, b ≤ 8 ∧ rI M m 48 = nI b) ∧ ∃ bc, bc ≤ 1000 ∧ rI M m 49 = nI bc := by
    rcases hb with ⟨b1, b2, -⟩ | ⟨b, b1, b2, b3, b4, -⟩
    · exact ⟨Or.inl b1, 0, by omega, b2⟩
    · have := DH.cn (a := a) b (aS a).length
      have := hcs b
      exact ⟨Or.inr ⟨cnA a b (aS a).length, by omega, b3⟩, csA a t b (aS a).length, by omega, b4⟩
  obtain ⟨bm, bc, bc1, bc2⟩ := bst
  refine s12_can hf hs (by omega) (by omega) (by omega) rfl bm bc2 bc1 (br1 ?_) (fun b hb8 eb hw => br0 (hback ?_))
  · -- one step down
    have ext : ∀ q, q < i → (fun q => if q = i then nx else x q) q = x q := fun q hq => if_neg (by omega)
    have eh : (fun q => if q = i then nx else x q) i = nx := if_pos rfl
    have hhn : horn (fun q => if q = i then nx else x q) (i + 1) = 8 * horn x i + nx := by
      show 8 * horn (fun q => if q = i then nx else x q) i + (fun q => if q = i then nx else x q) i = _
      rw [horn_congr i ext, eh]
    have u1 : ∀ j, usA a t (fun q => if q = i then nx else x q) j i = usA a t x j i := fun j => usA_ext ext
    have c1 : cnA a (fun q => if q = i then nx else x q) (i + 1) = cnA a x i + (if nx < (aH a).length then 1 else 0) := by
      have : cnA a (fun q => if q = i then nx else x q) (i + 1) = cnA a (fun q => if q = i then nx else x q) i + (if (fun q => if q = i then nx else x q) i < (aH a).length then 1 else 0) := rfl
      rw [this, eh, cnA_ext ext]
    have c2 : csA a t (fun q => if q = i then nx else x q) (i + 1) = csA a t x i + (if nx < (aH a).length then effN a t i * hRt (aH a) nx else 0) := by
      have : csA a t (fun q => if q = i then nx else x q) (i + 1) = csA a t (fun q => if q = i then nx else x q) i + (if (fun q => if q = i then nx else x q) i < (aH a).length then effN a t i * hRt (aH a) ((fun q => if q = i then nx else x q) i) else 0) := rfl
      rw [this, eh, csA_ext ext]
    have c3 : ∀ j, usA a t (fun q => if q = i then nx else x q) j (i + 1) = usA a t x j i + (if nx = j then effN a t i else 0) := fun j => by
      have : usA a t (fun q => if q = i then nx else x q) j (i + 1) = usA a t (fun q => if q = i then nx else x q) j i + (if (fun q => if q = i then nx else x q) i = j then effN a t i else 0) := rfl
      rw [this, eh, u1]
    have hy : PVa a t (fun q => if q = i then nx else x q) (i + 1) := by
      refine PV.up (hx.ext ext) ?_
      rw [if_pos (rfl : i = i)]
      by_cases z : nx < (aH a).length
      · refine Or.inr ⟨z, ?_⟩
        have := hfit z
        rw [show usedP (effN a t) (fun q => if q = i then nx else x q) nx i = usA a t x nx i from u1 nx]
        exact this
      · exact Or.inl (by omega)
    generalize (fun q => if q = i then nx else x q) = y at ext eh hhn u1 c1 c2 c3 hy
    have hb2 : BsA a t m (horn y (i + 1)) (i + 1) M := by
      refine Bst.skip hb (fun g hg => ?_)
      have g8 := hg.lt8 hh i hi
      have e2 : horn g (i + 1) = 8 * horn g i + g i := rfl
      rw [e2, hhn]
      refine ⟨fun z => ?_, fun z => by omega⟩
      apply Classical.byContradiction
      intro w
      have eq : horn g i = horn x i := by omega
      have ft := hg.fit hi (pre g hg eq) (show g i < (aH a).length by omega)
      exact hno (g i) (by omega) (by omega) (by omega) ft
    have mle : (8 * horn x i + d) * 8 ^ ((aS a).length - (i + 1)) ≤ (8 * horn x i + nx) * 8 ^ ((aS a).length - (i + 1)) := Nat.mul_le_mul_right _ (by omega)
    have hn2 : (8 ^ (aS a).length - horn y (i + 1) * 8 ^ ((aS a).length - (i + 1))) * 16 + (15 - i) < n := by
      rw [hhn, hn]
      omega
    have V36 := L.v36 (i := i) (by omega) rfl
    have V34 := L.v34 (i := i) (by omega) rfl
    refine ⟨_, L.f45, L.k36, V36, ?_⟩
    rw [p_cl (show i < 2147483648 by omega), rI_ne _ _ (show m ≠ m + 36 ∨ 16 ≠ i by omega), f3.2.1]
    refine ⟨fun c4 => ?_, fun c4 => ?_⟩
    · have en : nx = (aH a).length := by have := (p_leI (by omega) (by omega)).mp c4; omega
      have c5 : Ch m [36, 37, 38] [48, 49] M (wI M (m + 36) i (nI nx)) := Ch.wa 36 _ _ (by decide) (by decide) (by decide)
      have q1 : cnA a y (i + 1) = cnA a x i := by rw [c1, if_neg (by omega)]; rfl
      have q2 : csA a t y (i + 1) = csA a t x i := by rw [c2, if_neg (by omega)]; rfl
      rw [← q1, ← q2]
      refine fp_down H (hf.ch c5 (by decide) (by decide) (by decide)) hi hy (fun q hq => ?_) (fun j hj => ?_) (hb2.ch (rI_ne _ _ (by omega)) (rI_ne _ _ (by omega)) (fun q hq => rI_ne _ _ (by omega))) hn2 (hch.tr c5) hk
      · by_cases e : q = i
        · subst e; rw [rI_same, eh]
        · rw [rI_ne _ _ (Or.inr e), ext q (by omega)]; exact hc q (by omega)
      · rw [rI_ne _ _ (by omega), c3, if_neg (by omega)]; exact hl j hj
    · have lt : nx < (aH a).length := Nat.not_le.mp fun z => c4 ((p_leI (by omega) (by omega)).mpr z)
      obtain ⟨t1, t2, t3⟩ := hfit lt
      obtain ⟨r1, r2, r3, r4⟩ := hf.rate lt
      have hux := hl nx lt
      have V37 := L.v37 (i := nx) (by omega) rfl
      refine ⟨_, L.f46, L.k37, V37, _, L.f43, L.k34, V34, V37, V34, _, L.f19, L.k16, L.v16 (i := nx) (by omega) rfl, ?_⟩
      rw [p_cl (show nx < 2147483648 by omega)]
      rw [rI_ne M _ (show m + 37 ≠ m + 36 ∨ nx ≠ i by omega), rI_ne M _ (show m + 34 ≠ m + 36 ∨ i ≠ i by omega), hux, f4 i hi, pk_sub t3, rI_ne _ _ (show m + 34 ≠ m + 37 ∨ i ≠ nx by omega), rI_ne M _ (show m + 34 ≠ m + 36 ∨ i ≠ i by omega), rI_ne _ _ (show m + 16 ≠ m + 37 ∨ nx ≠ nx by omega), rI_ne M _ (show m + 16 ≠ m + 36 ∨ nx ≠ i by omega), f4 i hi, r1, pk_mul, nI_add, nI_1]
      have c5 : Ch m [36, 37, 38] [48, 49] M (wI (wI M (m + 36) i (nI nx)) (m + 37) nx (nI (hHr (aH a) nx - usA a t x nx i - effN a t i))) := (Ch.wa 36 _ _ (by decide) (by decide) (by decide)).tr (Ch.wa 37 _ _ (by decide) (by decide) (by decide))
      have q1 : cnA a y (i + 1) = cnA a x i + 1 := by rw [c1, if_pos lt]
      have q2 : csA a t y (i + 1) = csA a t x i + effN a t i * hRt (aH a) nx := by rw [c2, if_pos lt]
      rw [← q1, ← q2]
      refine fp_down H (hf.ch c5 (by decide) (by decide) (by decide)) hi hy (fun q hq => ?_) (fun j hj => ?_) (hb2.ch ?_ ?_ (fun q hq => ?_)) hn2 (hch.tr c5) hk
      · rw [rI_ne _ _ (show m + 36 ≠ m + 37 ∨ q ≠ nx by omega)]
        by_cases e : q = i
        · subst e; rw [rI_same, eh]
        · rw [rI_ne _ _ (Or.inr e), ext q (by omega)]; exact hc q (by omega)
      · rw [c3]
        by_cases e : j = nx
        · subst e; rw [rI_same, if_pos rfl, Nat.sub_sub]
        · rw [rI_ne _ _ (Or.inr e), rI_ne _ _ (by omega), if_neg (Ne.symm e)]; exact hl j hj
      · rw [rI_ne _ _ (by omega), rI_ne _ _ (by omega)]
      · rw [rI_ne _ _ (by omega), rI_ne _ _ (by omega)]
      · rw [rI_ne _ _ (by omega), rI_ne _ _ (by omega)]
  · exact Bst.prune hh hs hi (by omega) x8 hb eb bc2 hb8 bc1 hcs f5 rfl rfl hw
theorem fp_171 {post : gh_M → Prop} {i d : Nat} {x : Nat → Nat} {x6 : Int32} (H : DH a t) (f : FX sh m a t M) (hi : i < (aS a).length) (hx : PVa a t x i) (hc : CIv m x i M) (hl : LIv m a t x i M) (hd : d ≤ (aH a).length + 1) (h6 : x6 + (1 : Int32) = nI d) (hb : BsA a t m (8 * horn x i + d) (i + 1) M) (hn : n = (8 ^ (aS a).length - (8 * horn x i + d) * 8 ^ ((aS a).length - (i + 1))) * 16 + (16 - i)) (hch : Ch m [36, 37, 38] [48, 49] M0 M) (hk : ∀ n' v', n' < n → (Ch m [36, 37, 38] [48, 49] M0 v'.2.2.2.2 ∧ DJ m a t n' v') → k v') : wp_X12_findPlan_171 sh post (fun x2 x3 x4 x5 M => k (x2, x3, x4, x5, M)) m (nI t) (nI i) (nI (cnA a x i)) (nI (csA a t x i)) 1 x6 M := by
  unfold wp_X12_findPlan_171 wp_X12_findPlan_177
  rw [h6]
  have hs := H.1
  have hh := H.2.1
  refine loopW (fun p v => v.2 = M ∧ ∃ nx, d ≤ nx ∧ (nx ≤ (aH a).length ∨ (nx = (aH a).length + 1 ∧ d = nx)) ∧ v.1 = nI nx ∧ p = (aH a).length + 1 - nx ∧ ∀ j, d ≤ j → j < nx → j < (aH a).length → ¬ fitP (effN a t) (hKn (aH a) t) i j (hHr (aH a) j - usA a t x j i)) ((aH a).length + 1 - d) ⟨rfl, d, Nat.le_refl _, by omega, rfl, rfl, fun j h1 h2 => by omega⟩ ?_
  rintro p ⟨x7, M1⟩ k2 ⟨hM, nx, n1, n2, n3, n4, n5⟩ hk2
  dsimp only at hM n3
  subst hM n3
  unfold wb_X12_findPlan_177
  dsimp only
  rw [f.2.2.1.2.1]
  refine ⟨f.1.1, fun c => ?_, fun c => ?_⟩
  · have hge := (p_leI (by omega) (by omega)).mp c
    exact fp_203 H f hi hx hc hl n1 n2 n5 (fun z => by omega) hb hn hch hk
  · have lt : nx < (aH a).length := Nat.not_le.mp fun z => c ((p_leI (by omega) (by omega)).mpr z)
    have h20 := (f.rate lt).2.2.2
    refine s12_fits f hs hi (H.2.2.1 i) lt (u := hHr (aH a) nx - usA a t x nx i) (by omega) (hl nx lt) (fun z => br0 ?_) (fun z => br1 ?_)
    · refine hk2 ((aH a).length + 1 - (nx + 1)) _ (by omega) ⟨rfl, nx + 1, by omega, by omega, nI_1 nx, rfl, fun j h1 h2 h3 => ?_⟩
      by_cases e : j = nx
      · subst e; exact z
      · exact n5 j h1 (by omega) h3
    · exact fp_203 H f hi hx hc hl n1 n2 n5 (fun _ => z) hb hn hch hk
end MS
