/-! THE PLAN: sets of PIECES -/
def mkM (P : Nat → Bool) (n : Nat) : Nat := sumN (fun p => if P p = true then 2 ^ p else 0) n
theorem mkM_lt (P : Nat → Bool) : ∀ n, mkM P n < 2 ^ n
  | 0 => by show 0 < 1; omega
  | n + 1 => by
    have := mkM_lt P n
    show mkM P n + (if P n = true then 2 ^ n else 0) < 2 ^ (n + 1)
    rw [Nat.pow_succ]
    split <;> omega
theorem mkM_bit (P : Nat → Bool) (p : Nat) : ∀ n, (mkM P n).testBit p = (decide (p < n) && P p)
  | 0 => by
    show (0 : Nat).testBit p = _
    rw [Nat.zero_testBit, decide_eq_false (by omega)]; rfl
  | n + 1 => by
    have ih := mkM_bit P p n
    have hl := mkM_lt P n
    show (mkM P n + (if P n = true then 2 ^ n else 0)).testBit p = _
    by_cases hp : P n = true
    · rw [if_pos hp, Nat.add_comm, show 2 ^ n + mkM P n = 2 ^ n ||| mkM P n from by have := Nat.two_pow_add_eq_or_of_lt hl 1; rwa [Nat.mul_one] at this, Nat.testBit_or, ih, Nat.testBit_two_pow]
      by_cases e : n = p
      · subst e; simp [hp]
      · by_cases e2 : p < n
        · simp [e, e2, show p < n + 1 by omega]
        · simp [e, e2, show ¬ p < n + 1 by omega]
    · rw [if_neg hp, Nat.add_zero, ih]
      by_cases e : n = p
      · subst e; simp at hp; simp [hp]
      · by_cases e2 : p < n
        · simp [e2, show p < n + 1 by omega]
        · simp [e2, show ¬ p < n + 1 by omega]
/-- a sum over a set -/
def sumS (x : Nat) (g : Nat → Nat) : Nat := sumN (fun p => if x.testBit p = true then g p else 0) 8
theorem sumS_congr {x : Nat} {g k : Nat → Nat} (h : ∀ p, p < 8 → x.testBit p = true → g p = k p) : sumS x g = sumS x k := sumN_congr 8 (fun p hp => by
  by_cases e : x.testBit p = true
  · rw [if_pos e, if_pos e, h p hp e]
  · rw [if_neg e, if_neg e])
theorem sumS_split {x y : Nat} {g : Nat → Nat} (h : subB y x) : sumS x g = sumS (x ^^^ y) g + sumS y g := by
  unfold sumS
  rw [← sumN_add]
  refine sumN_congr 8 (fun p hp => ?_)
  rw [Nat.testBit_xor]
  by_cases hy : y.testBit p = true
  · rw [if_pos hy, if_pos (h p hy), h p hy, hy]; simp
  · rw [if_neg hy]
    simp at hy
    rw [hy]
    simp
theorem xor_sub {x y : Nat} (h : subB y x) : subB (x ^^^ y) x := fun p hp => by
  rw [Nat.testBit_xor] at hp
  cases hx : x.testBit p with
  | true => rfl
  | false =>
    rw [hx] at hp
    cases hy : y.testBit p with
    | true => rw [h p hy] at hx; cases hx
    | false => rw [hy] at hp; cases hp
theorem sumS_mono {x y : Nat} {g k : Nat → Nat} (h : ∀ p, p < 8 → y.testBit p = true → g p ≤ (if x.testBit p = true then k p else 0)) : sumS y g ≤ sumS x k := sumN_le 8 (fun p hp => by
  by_cases e : y.testBit p = true
  · rw [if_pos e]; exact h p hp e
  · rw [if_neg e]; omega)
section Pl
variable (h : Nat) (e : Nat → Nat) (K : Nat → Prop) (hr rt : Nat → Nat)
def ldM (x : Nat) : Nat := sumS x e
def onM (x : Nat) : Nat := sumS x (fun p => 8 ^ (7 - p))
def keyS (f : Nat → Nat) (x : Nat) : Nat := sumS x (fun p => wP h e rt p (f p))
def VS (f : Nat → Nat) (x j : Nat) : Prop := (∀ p, p < 8 → x.testBit p = true → f p < h → f p < j ∧ K (f p)) ∧ ∀ i, i < j → sumS x (fun p => if f p = i then e p else 0) ≤ hr i
def OptV (j x v : Nat) : Prop := (∀ f, VS h e K hr f x j → v ≤ keyS h e rt f x) ∧ ∃ f, VS h e K hr f x j ∧ v = keyS h e rt f x
/-- what a HAND makes of it -/
def NewV (H R j : Nat) (B : Nat → Nat) (x v : Nat) : Prop := v ≤ B x ∧ (∀ y, subB y x → 0 < y → ldM e y ≤ H → v ≤ B (x ^^^ y) + (ldM e y * R * 16777216 + j * onM y)) ∧ (v = B x ∨ ∃ y, subB y x ∧ 0 < y ∧ ldM e y ≤ H ∧ v = B (x ^^^ y) + (ldM e y * R * 16777216 + j * onM y))
variable {h e K hr rt}
theorem sumS_mulr {x c : Nat} {g : Nat → Nat} : sumS x (fun p => g p * c) = sumS x g * c := by
  unfold sumS
  rw [← sumN_mul]
  exact sumN_congr 8 (fun p hp => by dsimp only; split <;> omega)
theorem sumS_addf {x : Nat} {g k : Nat → Nat} : sumS x (fun p => g p + k p) = sumS x g + sumS x k := by
  unfold sumS
  rw [← sumN_add]
  exact sumN_congr 8 (fun p hp => by dsimp only; split <;> omega)
theorem worth_is {y j : Nat} {f : Nat → Nat} (hj : j < h) (hf : ∀ p, p < 8 → y.testBit p = true → f p = j) : keyS h e rt f y = ldM e y * rt j * 16777216 + j * onM y := by
  unfold keyS ldM onM
  rw [sumS_congr (k := fun p => e p * rt j * 16777216 + 8 ^ (7 - p) * j) (fun p hp hb => by unfold wP; rw [hf p hp hb, if_pos hj, Nat.mul_comm j])]
  rw [sumS_addf, sumS_mulr, sumS_mulr, sumS_mulr, Nat.mul_comm j]
theorem opt_0 {x : Nat} : OptV h e K hr rt 0 x (sumS x (fun p => 1099511627776 + 5 * 8 ^ (7 - p))) := by
  have key : ∀ f, (∀ p, p < 8 → x.testBit p = true → ¬ f p < h) → keyS h e rt f x = sumS x (fun p => 1099511627776 + 5 * 8 ^ (7 - p)) := fun f hf => sumS_congr (fun p hp hb => by unfold wP; rw [if_neg (hf p hp hb)])
  refine ⟨fun f hf => ?_, fun _ => h, ⟨fun p _ _ w => absurd w (Nat.lt_irrefl h), fun i hi => by omega⟩, ?_⟩
  · rw [key f (fun p hp hb w => by have := (hf.1 p hp hb w).1; omega)]; exact Nat.le_refl _
  · rw [key _ (fun p hp hb w => absurd w (Nat.lt_irrefl h))]
theorem opt_skip {j x v : Nat} (hj : j < h) (hk : ¬ K j) (ho : OptV h e K hr rt j x v) : OptV h e K hr rt (j + 1) x v := by
  have iff : ∀ f, VS h e K hr f x (j + 1) → VS h e K hr f x j := fun f hf => ⟨fun p hp hb w => by
      have := hf.1 p hp hb w
      by_cases z : f p = j
      · rw [z] at this; exact absurd this.2 hk
      · exact ⟨by omega, this.2⟩, fun i hi => hf.2 i (by omega)⟩
  obtain ⟨h1, f, h2, h3⟩ := ho
  refine ⟨fun f hf => h1 f (iff f hf), f, ⟨fun p hp hb w => ⟨by have := (h2.1 p hp hb w).1; omega, (h2.1 p hp hb w).2⟩, fun i hi => ?_⟩, h3⟩
  by_cases z : i = j
  · subst z
    have : sumS x (fun p => if f p = i then e p else 0) = sumS x (fun _ => 0) := sumS_congr (fun p hp hb => if_neg (fun w => by have := (h2.1 p hp hb (by omega)).1; omega))
    rw [this]
    unfold sumS
    rw [sumN_zero (fun q => by split <;> rfl)]
    omega
  · exact h2.2 i (by omega)
theorem opt_step {j x v nd : Nat} {B : Nat → Nat} (hj : j < h) (hk : K j) (hx : subB x nd) (hB : ∀ y, subB y nd → OptV h e K hr rt j y (B y)) (hN : NewV e (hr j) (rt j) j B x v) : OptV h e K hr rt (j + 1) x v := by
  obtain ⟨n1, n2, n3⟩ := hN
  constructor
  · intro f hf
    have mb : ∀ p, (mkM (fun p => x.testBit p && decide (f p = j)) 8).testBit p = (decide (p < 8) && (x.testBit p && decide (f p = j))) := fun p => mkM_bit _ p 8
    have sy : subB (mkM (fun p => x.testBit p && decide (f p = j)) 8) x := fun p hp => by
      rw [mb] at hp
      simp at hp
      exact hp.2.1
    have inY : ∀ p, p < 8 → x.testBit p = true → f p = j → (mkM (fun p => x.testBit p && decide (f p = j)) 8).testBit p = true := fun p hp hb w => by rw [mb]; simp [hp, hb, w]
    have outY : ∀ p, (mkM (fun p => x.testBit p && decide (f p = j)) 8).testBit p = true → f p = j := fun p hp => by
      rw [mb] at hp; simp at hp; exact hp.2.2
    generalize mkM (fun p => x.testBit p && decide (f p = j)) 8 = y at mb sy inY outY
    by_cases y0 : y = 0
    · have : VS h e K hr f x j := ⟨fun p hp hb w => by
        have := hf.1 p hp hb w
        have ne : f p ≠ j := fun z => by
          have := inY p hp hb z
          rw [y0, Nat.zero_testBit] at this; cases this
        exact ⟨by omega, this.2⟩, fun i hi => hf.2 i (by omega)⟩
      have := (hB x hx).1 f this
      omega
    · have hxy : subB (x ^^^ y) nd := fun p hp => hx p (xor_sub sy p hp)
      have vs : VS h e K hr f (x ^^^ y) j := by
        refine ⟨fun p hp hb w => ?_, fun i hi => ?_⟩
        · have hbx := xor_sub sy p hb
          have := hf.1 p hp hbx w
          have ne : f p ≠ j := fun z => by
            have hy := inY p hp hbx z
            rw [Nat.testBit_xor, hbx, hy] at hb
            cases hb
          exact ⟨by omega, this.2⟩
        · refine Nat.le_trans (sumS_mono (fun p hp hb => ?_)) (hf.2 i (by omega))
          rw [if_pos (xor_sub sy p hb)]
          exact Nat.le_refl _
      have ld : ldM e y ≤ hr j := by
        refine Nat.le_trans (sumS_mono (x := x) (k := fun p => if f p = j then e p else 0) (fun p hp hb => ?_)) (hf.2 j (by omega))
        rw [if_pos (sy p hb), if_pos (outY p hb)]
        exact Nat.le_refl _
      have h1 := n2 y sy (by omega) ld
      have h2 := (hB _ hxy).1 f vs
      have h3 : keyS h e rt f x = keyS h e rt f (x ^^^ y) + (ldM e y * rt j * 16777216 + j * onM y) := by
        rw [← worth_is hj (fun p hp hb => outY p hb)]
        exact sumS_split sy
      omega
  · rcases n3 with n3 | ⟨y, sy, y0, ld, n3⟩
    · obtain ⟨f, h2, h3⟩ := (hB x hx).2
      refine ⟨f, ⟨fun p hp hb w => ⟨by have := (h2.1 p hp hb w).1; omega, (h2.1 p hp hb w).2⟩, fun i hi => ?_⟩, n3.trans h3⟩
      by_cases z : i = j
      · subst z
        have : sumS x (fun p => if f p = i then e p else 0) = sumS x (fun _ => 0) := sumS_congr (fun p hp hb => if_neg (fun w => by have := (h2.1 p hp hb (by omega)).1; omega))
        rw [this]
        unfold sumS
        rw [sumN_zero (fun q => by split <;> rfl)]
        omega
      · exact h2.2 i (by omega)
    · have hxy : subB (x ^^^ y) nd := fun p hp => hx p (xor_sub sy p hp)
      obtain ⟨f, h2, h3⟩ := (hB _ hxy).2
      have nb : ∀ p, y.testBit p = false → x.testBit p = true → (x ^^^ y).testBit p = true := fun p h1 h4 => by rw [Nat.testBit_xor, h1, h4]; rfl
      have bn : ∀ p, (x ^^^ y).testBit p = true → y.testBit p = false := fun p hp => by
        cases hy : y.testBit p with
        | false => rfl
        | true => rw [Nat.testBit_xor, hy, sy p hy] at hp; cases hp
      refine ⟨fun p => if y.testBit p = true then j else f p, ⟨fun p hp hb w => ?_, fun i hi => ?_⟩, ?_⟩
      · dsimp only at w ⊢
        cases hy : y.testBit p with
        | true => rw [if_pos rfl]; exact ⟨by omega, hk⟩
        | false =>
          rw [hy, if_neg (by decide)] at w
          rw [if_neg (by decide)]
          have := h2.1 p hp (nb p hy hb) w
          exact ⟨by omega, this.2⟩
      · rw [sumS_split sy]
        have e1 : sumS (x ^^^ y) (fun p => if (if y.testBit p = true then j else f p) = i then e p else 0) = sumS (x ^^^ y) (fun p => if f p = i then e p else 0) := sumS_congr (fun p hp hb => by rw [bn p hb]; rfl)
        have e2 : sumS y (fun p => if (if y.testBit p = true then j else f p) = i then e p else 0) = sumS y (fun p => if j = i then e p else 0) := sumS_congr (fun p hp hb => by rw [if_pos hb])
        rw [e1, e2]
        by_cases z : i = j
        · subst z
          have : sumS (x ^^^ y) (fun p => if f p = i then e p else 0) = sumS (x ^^^ y) (fun _ => 0) := sumS_congr (fun p hp hb => if_neg (fun w => by have := (h2.1 p hp hb (by omega)).1; omega))
          have e3 : sumS (x ^^^ y) (fun _ => 0) = 0 := by
            unfold sumS
            exact sumN_zero (fun q => by split <;> rfl) 8
          have e4 : sumS y (fun p => if i = i then e p else 0) = ldM e y := sumS_congr (fun p hp hb => if_pos rfl)
          rw [this, e3, e4]
          omega
        · have : sumS y (fun p => if j = i then e p else 0) = 0 := by
            unfold sumS
            exact sumN_zero (fun q => by dsimp only; rw [if_neg (show ¬ j = i by omega)]; split <;> rfl) 8
          rw [this]
          have := h2.2 i (by omega)
          omega
      · rw [n3, h3]
        have e1 : keyS h e rt (fun p => if y.testBit p = true then j else f p) x = keyS h e rt (fun p => if y.testBit p = true then j else f p) (x ^^^ y) + keyS h e rt (fun p => if y.testBit p = true then j else f p) y := sumS_split sy
        rw [e1, worth_is hj (fun p hp hb => if_pos hb)]
        congr 1
        exact sumS_congr (fun p hp hb => by dsimp only; rw [bn p hb]; rfl)
/-- the sets' best is the plans' best -/
theorem opt_final {s v : Nat} {c : Nat → Nat} (hs : s ≤ 8) (he0 : ∀ q, s ≤ q → e q = 0) (hc : optP s h e K hr rt c) (ho : OptV h e K hr rt h (mkM (fun p => decide (0 < e p)) 8) v) : v = keyP h e rt c s := by
  have nb : ∀ p, (mkM (fun p => decide (0 < e p)) 8).testBit p = (decide (p < 8) && decide (0 < e p)) := fun p => mkM_bit _ p 8
  have np : ∀ p, (mkM (fun p => decide (0 < e p)) 8).testBit p = true → p < s ∧ 0 < e p := fun p hp => by
    rw [nb] at hp
    simp at hp
    refine ⟨?_, hp.2⟩
    apply Classical.byContradiction
    intro w
    have := he0 p (by omega)
    omega
  have keq : ∀ f g : Nat → Nat, (∀ p, p < s → 0 < e p → wP h e rt p (f p) = wP h e rt p (g p)) → keyS h e rt f (mkM (fun p => decide (0 < e p)) 8) = keyP h e rt g s := fun f g hfg => by
    have : keyP h e rt g 8 = keyP h e rt g s := sumN_ext0 (fun q hq => if_pos (he0 q hq)) 8 hs
    rw [← this]
    unfold keyS keyP sumS
    refine sumN_congr 8 (fun p hp => ?_)
    by_cases z : e p = 0
    · rw [if_pos z, if_neg (fun w => by have := np p w; omega)]
    · have hb : (mkM (fun p => decide (0 < e p)) 8).testBit p = true := by rw [nb]; simp [hp]; omega
      rw [if_neg z, if_pos hb]
      exact hfg p (np p hb).1 (by omega)
  obtain ⟨h1, f, h2, h3⟩ := ho
  apply Nat.le_antisymm
  · rw [← keq c c (fun _ _ _ => rfl)]
    refine h1 c ⟨fun p hp hb w => ⟨w, ((hc.1.1 p (np p hb).1).2 w).2⟩, fun i hi => ?_⟩
    refine Nat.le_trans ?_ (hc.1.2 i hi)
    unfold usedP
    have : sumN (fun q => if c q = i then e q else 0) 8 = sumN (fun q => if c q = i then e q else 0) s := sumN_ext0 (fun q hq => by rw [he0 q hq]; split <;> rfl) 8 hs
    rw [← this]
    unfold sumS
    exact sumN_le 8 (fun p hp => by dsimp only; split <;> omega)
  · have pv : PV h e K hr (fun p => if e p = 0 then h else if f p < h then f p else h) s := by
      refine ⟨fun q hq => ?_, fun i hi => ?_⟩
      · dsimp only
        by_cases z : e q = 0
        · rw [if_pos z]; exact ⟨Nat.le_refl h, fun w => absurd w (Nat.lt_irrefl h)⟩
        · rw [if_neg z]
          by_cases w : f q < h
          · rw [if_pos w]
            have hb : (mkM (fun p => decide (0 < e p)) 8).testBit q = true := by rw [nb]; simp [show q < 8 by omega]; omega
            exact ⟨by omega, fun _ => ⟨by omega, (h2.1 q (by omega) hb w).2⟩⟩
          · rw [if_neg w]; exact ⟨Nat.le_refl h, fun w => absurd w (Nat.lt_irrefl h)⟩
      · refine Nat.le_trans ?_ (h2.2 i hi)
        unfold usedP sumS
        have : sumN (fun q => if (if e q = 0 then h else if f q < h then f q else h) = i then e q else 0) 8 = sumN (fun q => if (if e q = 0 then h else if f q < h then f q else h) = i then e q else 0) s := sumN_ext0 (fun q hq => by rw [he0 q hq, ite_self]) 8 hs
        rw [← this]
        refine sumN_le 8 (fun p hp => ?_)
        by_cases z : e p = 0
        · rw [z, ite_self]; exact Nat.zero_le _
        · have hb : (mkM (fun p => decide (0 < e p)) 8).testBit p = true := by rw [nb]; simp [hp]; omega
          rw [if_neg z, if_pos hb]
          by_cases w : f p < h
          · rw [if_pos w]; exact Nat.le_refl _
          · rw [if_neg w, if_neg (show ¬ h = i by omega)]; omega
    have := hc.2 _ pv
    rw [h3, keq f (fun p => if e p = 0 then h else if f p < h then f p else h) (fun p hp he => ?_)]
    · exact this
    · rw [if_neg (show ¬ e p = 0 by omega)]
      by_cases w : f p < h
      · rw [if_pos w]
      · rw [if_neg w]
        unfold wP
        rw [if_neg w, if_neg (Nat.lt_irrefl h)]
end Pl
