/-! THE MATCH: two ways to find the least -/
def minK (p : Nat → Bool) (v : Nat → Nat) (acc : Nat) : Nat → Nat
  | 0 => acc
  | j + 1 => if p j = true then min (minK p v acc j) (v j) else minK p v acc j
theorem minK_acc {p : Nat → Bool} {v : Nat → Nat} {acc : Nat} : ∀ n, minK p v acc n ≤ acc
  | 0 => Nat.le_refl _
  | n + 1 => by
    have := minK_acc (p := p) (v := v) (acc := acc) n
    unfold minK
    split <;> omega
theorem minK_le {p : Nat → Bool} {v : Nat → Nat} {acc : Nat} : ∀ {n j : Nat}, j < n → p j = true → minK p v acc n ≤ v j
  | n + 1, j, hj, hp => by
    unfold minK
    by_cases e : j = n
    · subst e; rw [if_pos hp]; omega
    · have := minK_le (p := p) (v := v) (acc := acc) (show j < n by omega) hp
      split <;> omega
theorem le_minK {p : Nat → Bool} {v : Nat → Nat} {acc x : Nat} (h0 : x ≤ acc) : ∀ n, (∀ j, j < n → p j = true → x ≤ v j) → x ≤ minK p v acc n
  | 0, _ => h0
  | n + 1, h => by
    have h1 := le_minK (p := p) (v := v) (acc := acc) h0 n (fun j hj => h j (by omega))
    unfold minK
    split
    · rename_i hp
      have := h n (by omega) hp
      omega
    · exact h1
theorem minK_or {p : Nat → Bool} {v : Nat → Nat} {acc : Nat} : ∀ n, minK p v acc n = acc ∨ ∃ j, j < n ∧ p j = true ∧ minK p v acc n = v j
  | 0 => Or.inl rfl
  | n + 1 => by
    unfold minK
    split
    · rename_i hp
      by_cases e : v n ≤ minK p v acc n
      · exact Or.inr ⟨n, by omega, hp, by omega⟩
      · rcases minK_or (p := p) (v := v) (acc := acc) n with h | ⟨j, hj, hp2, h⟩
        · left; omega
        · exact Or.inr ⟨j, by omega, hp2, by omega⟩
    · rcases minK_or (p := p) (v := v) (acc := acc) n with h | ⟨j, hj, hp2, h⟩
      · left; exact h
      · exact Or.inr ⟨j, by omega, hp2, h⟩
/-- what is left to pay from the last r on, when a set is given away -/
def bk (s n : Nat) (W : Nat → Nat → Nat) (Z : Nat → Nat) : Nat → Nat → Nat
  | 0, _ => 0
  | r + 1, set => minK (fun k => !set.testBit k) (fun k => W (n - (r + 1)) k + bk s n W Z r (set ||| 2 ^ k)) (Z (n - (r + 1)) + bk s n W Z r set) s
/-- what the first i cost at least, when a set may be given -/
def fd (s : Nat) (W : Nat → Nat → Nat) (Z : Nat → Nat) : Nat → Nat → Nat
  | 0, _ => 0
  | i + 1, set => minK (fun j => set.testBit j) (fun j => fd s W Z i (set ^^^ 2 ^ j) + W i j) (fd s W Z i set + Z i) s
def subB (x y : Nat) : Prop := ∀ j, x.testBit j = true → y.testBit j = true
theorem t_or (x k j : Nat) : (x ||| 2 ^ k).testBit j = (x.testBit j || decide (k = j)) := by rw [Nat.testBit_or, Nat.testBit_two_pow]
theorem t_xor (x k j : Nat) : (x ^^^ 2 ^ k).testBit j = (x.testBit j ^^ decide (k = j)) := by rw [Nat.testBit_xor, Nat.testBit_two_pow]
theorem or_xor {x k : Nat} (h : x.testBit k = false) : (x ||| 2 ^ k) ^^^ 2 ^ k = x := by
  apply Nat.eq_of_testBit_eq
  intro j
  rw [t_xor, t_or]
  by_cases e : k = j
  · subst e; simp [h]
  · simp [e]
theorem xor_or {x k : Nat} (h : x.testBit k = true) : (x ^^^ 2 ^ k) ||| 2 ^ k = x := by
  apply Nat.eq_of_testBit_eq
  intro j
  rw [t_or, t_xor]
  by_cases e : k = j
  · subst e; simp [h]
  · simp [e]
theorem xor_bit {x k : Nat} (h : x.testBit k = true) : (x ^^^ 2 ^ k).testBit k = false := by rw [t_xor, h]; simp
theorem or_bit (x k : Nat) : (x ||| 2 ^ k).testBit k = true := by rw [t_or]; simp
theorem or_lt {x k s : Nat} (hx : x < 2 ^ s) (hk : k < s) : x ||| 2 ^ k < 2 ^ s := Nat.or_lt_two_pow hx (Nat.pow_lt_pow_right (by omega) hk)
theorem xor_lt {x k s : Nat} (hx : x < 2 ^ s) (hk : k < s) : x ^^^ 2 ^ k < 2 ^ s := Nat.xor_lt_two_pow hx (Nat.pow_lt_pow_right (by omega) hk)
theorem fd_mono {s : Nat} {W : Nat → Nat → Nat} {Z : Nat → Nat} : ∀ i {x y : Nat}, subB x y → fd s W Z i y ≤ fd s W Z i x
  | 0, x, y, h => Nat.le_refl _
  | i + 1, x, y, h => by
    conv => rhs; unfold fd
    refine le_minK ?_ s (fun j hj hp => ?_)
    · have h1 : fd s W Z (i + 1) y ≤ fd s W Z i y + Z i := by conv => lhs; unfold fd
                                                              exact minK_acc s
      have := fd_mono (s := s) (W := W) (Z := Z) i h
      omega
    · have h1 : fd s W Z (i + 1) y ≤ fd s W Z i (y ^^^ 2 ^ j) + W i j := by conv => lhs; unfold fd
                                                                            exact minK_le (v := fun j => fd s W Z i (y ^^^ 2 ^ j) + W i j) hj (h j hp)
      have h2 : subB (x ^^^ 2 ^ j) (y ^^^ 2 ^ j) := fun q hq => by
        rw [t_xor] at hq ⊢
        by_cases e : j = q
        · subst e; simp [hp] at hq
        · simp [e] at hq ⊢; exact h q hq
      have := fd_mono (s := s) (W := W) (Z := Z) i h2
      omega
theorem bk_mono {s n : Nat} {W : Nat → Nat → Nat} {Z : Nat → Nat} : ∀ r {x y : Nat}, subB x y → bk s n W Z r x ≤ bk s n W Z r y
  | 0, x, y, h => Nat.le_refl _
  | r + 1, x, y, h => by
    conv => rhs; unfold bk
    refine le_minK ?_ s (fun j hj hp => ?_)
    · have h1 : bk s n W Z (r + 1) x ≤ Z (n - (r + 1)) + bk s n W Z r x := by conv => lhs; unfold bk
                                                                              exact minK_acc s
      have := bk_mono (s := s) (n := n) (W := W) (Z := Z) r h
      omega
    · have hx : (!x.testBit j) = true := by
        cases hb : x.testBit j with
        | false => rfl
        | true => rw [h j hb] at hp; cases hp
      have h1 : bk s n W Z (r + 1) x ≤ W (n - (r + 1)) j + bk s n W Z r (x ||| 2 ^ j) := by conv => lhs; unfold bk
                                                                                            exact minK_le (v := fun k => W (n - (r + 1)) k + bk s n W Z r (x ||| 2 ^ k)) hj hx
      have h2 : subB (x ||| 2 ^ j) (y ||| 2 ^ j) := fun q hq => by
        rw [t_or] at hq ⊢
        by_cases e : j = q
        · subst e; simp
        · simp [e] at hq ⊢; exact h q hq
      have := bk_mono (s := s) (n := n) (W := W) (Z := Z) r h2
      omega
/-- both ways lead to the same -/
theorem fd_bk {s n : Nat} {W : Nat → Nat → Nat} {Z : Nat → Nat} : fd s W Z n (2 ^ s - 1) = bk s n W Z n 0 := by
  have all : ∀ x, x < 2 ^ s → subB x (2 ^ s - 1) := fun x hx j hj => by
    rw [Nat.testBit_two_pow_sub_one]
    refine decide_eq_true ?_
    apply Classical.byContradiction
    intro h
    have : x < 2 ^ j := Nat.lt_of_lt_of_le hx (Nat.pow_le_pow_right (by omega) (by omega))
    rw [Nat.testBit_lt_two_pow this] at hj
    cases hj
  have up : ∀ r, r ≤ n → ∀ x, x < 2 ^ s → fd s W Z n (2 ^ s - 1) ≤ fd s W Z (n - r) x + bk s n W Z r x := by
    intro r
    induction r with
    | zero =>
      intro _ x hx
      have := fd_mono (s := s) (W := W) (Z := Z) n (all x hx)
      rw [Nat.sub_zero]; omega
    | succ r ih =>
      intro hr x hx
      have key : fd s W Z n (2 ^ s - 1) - fd s W Z (n - (r + 1)) x ≤ bk s n W Z (r + 1) x := by
        have hn : n - r = n - (r + 1) + 1 := by omega
        conv => rhs; unfold bk
        refine le_minK ?_ s (fun j hj hp => ?_)
        · have h1 := ih (by omega) x hx
          have h2 : fd s W Z (n - r) x ≤ fd s W Z (n - (r + 1)) x + Z (n - (r + 1)) := by
            rw [hn]; conv => lhs; unfold fd
            exact minK_acc s
          omega
        · have hb : x.testBit j = false := by simpa using hp
          have h1 := ih (by omega) (x ||| 2 ^ j) (or_lt hx hj)
          have h2 : fd s W Z (n - r) (x ||| 2 ^ j) ≤ fd s W Z (n - (r + 1)) x + W (n - (r + 1)) j := by
            rw [hn]; conv => lhs; unfold fd
            have := minK_le (p := fun q => (x ||| 2 ^ j).testBit q) (v := fun q => fd s W Z (n - (r + 1)) ((x ||| 2 ^ j) ^^^ 2 ^ q) + W (n - (r + 1)) q) (acc := fd s W Z (n - (r + 1)) (x ||| 2 ^ j) + Z (n - (r + 1))) hj (or_bit x j)
            rw [or_xor hb] at this
            exact this
          omega
      omega
  have dn : ∀ i, i ≤ n → ∀ x, x < 2 ^ s → bk s n W Z n 0 ≤ fd s W Z i x + bk s n W Z (n - i) x := by
    intro i
    induction i with
    | zero =>
      intro _ x hx
      have : bk s n W Z n 0 ≤ bk s n W Z n x := bk_mono n (fun j hj => by simp at hj)
      rw [Nat.sub_zero]; omega
    | succ i ih =>
      intro hi x hx
      have key : bk s n W Z n 0 - bk s n W Z (n - (i + 1)) x ≤ fd s W Z (i + 1) x := by
        have hn : n - i = n - (i + 1) + 1 := by omega
        have hn2 : n - (n - (i + 1) + 1) = i := by omega
        conv => rhs; unfold fd
        refine le_minK ?_ s (fun j hj hp => ?_)
        · have h1 := ih (by omega) x hx
          have h2 : bk s n W Z (n - i) x ≤ Z i + bk s n W Z (n - (i + 1)) x := by
            rw [hn]; conv => lhs; unfold bk
            rw [hn2]
            exact minK_acc s
          omega
        · have h1 := ih (by omega) (x ^^^ 2 ^ j) (xor_lt hx hj)
          have h2 : bk s n W Z (n - i) (x ^^^ 2 ^ j) ≤ W i j + bk s n W Z (n - (i + 1)) x := by
            rw [hn]; conv => lhs; unfold bk
            rw [hn2]
            have := minK_le (p := fun q => !(x ^^^ 2 ^ j).testBit q) (v := fun q => W i q + bk s n W Z (n - (i + 1)) ((x ^^^ 2 ^ j) ||| 2 ^ q)) (acc := Z i + bk s n W Z (n - (i + 1)) (x ^^^ 2 ^ j)) hj (by rw [xor_bit hp]; rfl)
            rw [xor_or hp] at this
            exact this
          omega
      omega
  have h1 := up n (Nat.le_refl n) 0 (Nat.two_pow_pos s)
  have h2 := dn n (Nat.le_refl n) (2 ^ s - 1) (by have := Nat.two_pow_pos s; omega)
  rw [Nat.sub_self] at h1 h2
  have z1 : fd s W Z 0 0 = 0 := by unfold fd; rfl
  have z2 : bk s n W Z 0 (2 ^ s - 1) = 0 := by unfold bk; rfl
  omega
