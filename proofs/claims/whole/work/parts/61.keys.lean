/-! THE MATCH: of several, the first one -/
def findK (p : Nat → Bool) : Nat → Option Nat
  | 0 => none
  | n + 1 => match findK p n with
    | some k => some k
    | none => if p n = true then some n else none
theorem findK_some {p : Nat → Bool} : ∀ {n k : Nat}, findK p n = some k → k < n ∧ p k = true ∧ ∀ j, j < k → p j = false
  | 0, k, h => by cases h
  | n + 1, k, h => by
    have no : ∀ {n : Nat}, findK p n = none → ∀ k, k < n → p k = false := by
      intro n
      induction n with
      | zero => intro _ k hk; omega
      | succ n ih =>
        intro h k hk
        unfold findK at h
        split at h
        · cases h
        · rename_i hn
          split at h
          · cases h
          · rename_i hp
            by_cases e : k = n
            · subst e; simpa using hp
            · exact ih hn k (by omega)
    unfold findK at h
    split at h
    · rename_i q hq
      cases h
      have := findK_some hq
      exact ⟨by omega, this.2⟩
    · rename_i hn
      split at h
      · rename_i hp
        cases h
        exact ⟨by omega, hp, fun j hj => no hn j hj⟩
      · cases h
theorem findK_none {p : Nat → Bool} : ∀ {n : Nat}, findK p n = none → ∀ k, k < n → p k = false := by
  intro n
  induction n with
  | zero => intro _ k hk; omega
  | succ n ih =>
    intro h k hk
    unfold findK at h
    split at h
    · cases h
    · rename_i hn
      split at h
      · cases h
      · rename_i hp
        by_cases e : k = n
        · subst e; simpa using hp
        · exact ih hn k (by omega)
theorem findK_is {p : Nat → Bool} {n k : Nat} (hk : k < n) (hp : p k = true) (hj : ∀ j, j < k → p j = false) : findK p n = some k := by
  cases h : findK p n with
  | none => rw [findK_none h k hk] at hp; cases hp
  | some q =>
    obtain ⟨h1, h2, h3⟩ := findK_some h
    by_cases e : q < k
    · rw [hj q e] at h2; cases h2
    · by_cases e2 : k < q
      · rw [h3 k e2] at hp; cases hp
      · rw [show q = k by omega]
theorem findK_no {p : Nat → Bool} {n : Nat} (h : ∀ k, k < n → p k = false) : findK p n = none := by
  cases hf : findK p n with
  | none => rfl
  | some q =>
    obtain ⟨h1, h2, h3⟩ := findK_some hf
    rw [h q h1] at h2; cases h2
section Keys
variable (s n : Nat) (c : Nat → Nat → Nat) (z : Nat → Nat)
/-- which one the one with r behind it is given -/
def ck (r set : Nat) : Option Nat := findK (fun k => !set.testBit k && decide (c (n - (r + 1)) k + bk s n c z r (set ||| 2 ^ k) = bk s n c z (r + 1) set)) s
def stK (set : Nat) (o : Option Nat) : Nat := match o with
  | none => set
  | some k => set ||| 2 ^ k
def dgK (o : Option Nat) : Nat := match o with
  | none => 8
  | some k => k
def lexd : Nat → Nat → Nat
  | 0, _ => 0
  | r + 1, set => dgK (ck s n c z r set) * 16 ^ (7 - (n - (r + 1))) + lexd r (stK set (ck s n c z r set))
def wW (i k : Nat) : Nat := c i k * 4294967296 + k * 16 ^ (7 - i)
def wZ (i : Nat) : Nat := z i * 4294967296 + 8 * 16 ^ (7 - i)
variable {s n c z}
theorem dgK_le {r set : Nat} (hs : s ≤ 8) : dgK (ck s n c z r set) ≤ 8 := by
  cases h : ck s n c z r set with
  | none => exact Nat.le_refl 8
  | some k =>
    have := (findK_some h).1
    show k ≤ 8
    omega
theorem lexd_lt (hs : s ≤ 8) (hn : n ≤ 8) : ∀ r, r ≤ n → ∀ set, lexd s n c z r set < 16 ^ (8 - (n - r))
  | 0, _, set => by unfold lexd; exact Nat.pow_pos (by omega)
  | r + 1, hr, set => by
    have ih := lexd_lt hs hn r (by omega) (stK set (ck s n c z r set))
    have hd := dgK_le (n := n) (c := c) (z := z) (r := r) (set := set) hs
    unfold lexd
    rw [show 8 - (n - r) = 7 - (n - (r + 1)) by omega] at ih
    rw [show 8 - (n - (r + 1)) = 7 - (n - (r + 1)) + 1 by omega, Nat.pow_succ]
    have := Nat.mul_le_mul_right (16 ^ (7 - (n - (r + 1)))) hd
    generalize 16 ^ (7 - (n - (r + 1))) = E at ih this ⊢
    omega
theorem bk_key (hs : s ≤ 8) (hn : n ≤ 8) : ∀ r, r ≤ n → ∀ set, bk s n (wW c) (wZ z) r set = bk s n c z r set * 4294967296 + lexd s n c z r set
  | 0, _, set => by unfold bk lexd; rfl
  | r + 1, hr, set => by
    have ih := bk_key hs hn r (by omega)
    have hl := lexd_lt (c := c) (z := z) hs hn r (by omega)
    have hL := lexd_lt (c := c) (z := z) hs hn (r + 1) hr set
    have hP : 16 ^ (8 - (n - (r + 1))) ≤ 4294967296 := by
      have : 16 ^ (8 - (n - (r + 1))) ≤ 16 ^ 8 := Nat.pow_le_pow_right (by omega) (by omega)
      exact this
    rw [show 8 - (n - r) = 7 - (n - (r + 1)) by omega] at hl
    have aZ : wZ z (n - (r + 1)) + bk s n (wW c) (wZ z) r set = (z (n - (r + 1)) + bk s n c z r set) * 4294967296 + (8 * 16 ^ (7 - (n - (r + 1))) + lexd s n c z r set) := by
      rw [ih set]; unfold wZ; rw [Nat.add_mul]; omega
    have aW : ∀ k, wW c (n - (r + 1)) k + bk s n (wW c) (wZ z) r (set ||| 2 ^ k) = (c (n - (r + 1)) k + bk s n c z r (set ||| 2 ^ k)) * 4294967296 + (k * 16 ^ (7 - (n - (r + 1))) + lexd s n c z r (set ||| 2 ^ k)) := fun k => by
      rw [ih (set ||| 2 ^ k)]; unfold wW; rw [Nat.add_mul]; omega
    have bu : bk s n c z (r + 1) set = minK (fun k => !set.testBit k) (fun k => c (n - (r + 1)) k + bk s n c z r (set ||| 2 ^ k)) (z (n - (r + 1)) + bk s n c z r set) s := by conv => lhs; unfold bk
    have bU : bk s n (wW c) (wZ z) (r + 1) set = minK (fun k => !set.testBit k) (fun k => wW c (n - (r + 1)) k + bk s n (wW c) (wZ z) r (set ||| 2 ^ k)) (wZ z (n - (r + 1)) + bk s n (wW c) (wZ z) r set) s := by conv => lhs; unfold bk
    have le0 : bk s n c z (r + 1) set ≤ z (n - (r + 1)) + bk s n c z r set := by rw [bu]; exact minK_acc s
    have le1 : ∀ k, k < s → (!set.testBit k) = true → bk s n c z (r + 1) set ≤ c (n - (r + 1)) k + bk s n c z r (set ||| 2 ^ k) := fun k hk hp => by
      rw [bu]; exact minK_le (v := fun k => c (n - (r + 1)) k + bk s n c z r (set ||| 2 ^ k)) hk hp
    have Le0 : bk s n (wW c) (wZ z) (r + 1) set ≤ wZ z (n - (r + 1)) + bk s n (wW c) (wZ z) r set := by rw [bU]; exact minK_acc s
    have Le1 : ∀ k, k < s → (!set.testBit k) = true → bk s n (wW c) (wZ z) (r + 1) set ≤ wW c (n - (r + 1)) k + bk s n (wW c) (wZ z) r (set ||| 2 ^ k) := fun k hk hp => by
      rw [bU]; exact minK_le (v := fun k => wW c (n - (r + 1)) k + bk s n (wW c) (wZ z) r (set ||| 2 ^ k)) hk hp
    have hu : lexd s n c z (r + 1) set = dgK (ck s n c z r set) * 16 ^ (7 - (n - (r + 1))) + lexd s n c z r (stK set (ck s n c z r set)) := by conv => lhs; unfold lexd
    apply Nat.le_antisymm
    · cases hc : ck s n c z r set with
      | none =>
        rw [hc] at hu
        have hno := findK_none hc
        have e : bk s n c z (r + 1) set = z (n - (r + 1)) + bk s n c z r set := by
          rcases minK_or (p := fun k => !set.testBit k) (v := fun k => c (n - (r + 1)) k + bk s n c z r (set ||| 2 ^ k)) (acc := z (n - (r + 1)) + bk s n c z r set) s with h | ⟨j, hj, hp, h⟩
          · rw [bu]; exact h
          · exfalso
            have := hno j hj
            simp at hp
            simp [hp] at this
            exact this (by rw [bu]; exact h.symm)
        rw [aZ, ← e] at Le0
        have hu' : lexd s n c z (r + 1) set = 8 * 16 ^ (7 - (n - (r + 1))) + lexd s n c z r set := hu
        omega
      | some k =>
        rw [hc] at hu
        obtain ⟨h1, h2, h3⟩ := findK_some hc
        simp at h2
        have := Le1 k h1 (by simp [h2.1])
        rw [aW, h2.2] at this
        have hu' : lexd s n c z (r + 1) set = k * 16 ^ (7 - (n - (r + 1))) + lexd s n c z r (set ||| 2 ^ k) := hu
        omega
    · rw [bU]
      refine le_minK ?_ s (fun k hk hp => ?_)
      · rw [aZ]
        by_cases e : bk s n c z (r + 1) set = z (n - (r + 1)) + bk s n c z r set
        · rw [← e]
          have : lexd s n c z (r + 1) set ≤ 8 * 16 ^ (7 - (n - (r + 1))) + lexd s n c z r set := by
            cases hc : ck s n c z r set with
            | none => rw [hc] at hu; exact Nat.le_of_eq hu
            | some q =>
              rw [hc] at hu
              have hu' : lexd s n c z (r + 1) set = q * 16 ^ (7 - (n - (r + 1))) + lexd s n c z r (set ||| 2 ^ q) := hu
              have h1 := (findK_some hc).1
              have h4 := hl (set ||| 2 ^ q)
              have h5 : (q + 1) * 16 ^ (7 - (n - (r + 1))) ≤ 8 * 16 ^ (7 - (n - (r + 1))) := Nat.mul_le_mul_right _ (by omega)
              rw [Nat.succ_mul] at h5
              omega
          omega
        · have : bk s n c z (r + 1) set + 1 ≤ z (n - (r + 1)) + bk s n c z r set := by omega
          have := Nat.mul_le_mul_right 4294967296 this
          omega
      · rw [aW]
        have l1 := le1 k hk hp
        by_cases e : bk s n c z (r + 1) set = c (n - (r + 1)) k + bk s n c z r (set ||| 2 ^ k)
        · rw [← e]
          have hpk : (!set.testBit k && decide (c (n - (r + 1)) k + bk s n c z r (set ||| 2 ^ k) = bk s n c z (r + 1) set)) = true := by
            simp at hp; simp [hp, e.symm]
          have : lexd s n c z (r + 1) set ≤ k * 16 ^ (7 - (n - (r + 1))) + lexd s n c z r (set ||| 2 ^ k) := by
            cases hc : ck s n c z r set with
            | none => have := findK_none hc k hk; rw [hpk] at this; cases this
            | some q =>
              rw [hc] at hu
              have hu' : lexd s n c z (r + 1) set = q * 16 ^ (7 - (n - (r + 1))) + lexd s n c z r (set ||| 2 ^ q) := hu
              obtain ⟨h1, h2, h3⟩ := findK_some hc
              by_cases eq : q = k
              · subst eq; exact Nat.le_of_eq hu'
              · have hq : q < k := by
                  apply Classical.byContradiction
                  intro hn
                  have := h3 k (by omega)
                  rw [hpk] at this; cases this
                have h4 := hl (set ||| 2 ^ q)
                have h5 : (q + 1) * 16 ^ (7 - (n - (r + 1))) ≤ k * 16 ^ (7 - (n - (r + 1))) := Nat.mul_le_mul_right _ (by omega)
                rw [Nat.succ_mul] at h5
                omega
          omega
        · have : bk s n c z (r + 1) set + 1 ≤ c (n - (r + 1)) k + bk s n c z r (set ||| 2 ^ k) := by omega
          have := Nat.mul_le_mul_right 4294967296 this
          omega
variable (s n c z)
/-- what has been given away to the first i -/
def stM : Nat → Nat
  | 0 => 0
  | i + 1 => stK (stM i) (ck s n c z (n - (i + 1)) (stM i))
def mtM (i : Nat) : Option Nat := ck s n c z (n - (i + 1)) (stM s n c z i)
variable {s n c z}
theorem key_at (hn : n ≤ 8) : ∀ i, i ≤ n → ∃ Q, bk s n c z n 0 * 4294967296 + lexd s n c z n 0 = 16 ^ (8 - i) * Q + lexd s n c z (n - i) (stM s n c z i)
  | 0, _ => ⟨bk s n c z n 0, by rw [Nat.mul_comm]; rfl⟩
  | i + 1, hi => by
    obtain ⟨Q, hQ⟩ := key_at hn i (by omega)
    refine ⟨16 * Q + dgK (mtM s n c z i), ?_⟩
    rw [hQ, show n - i = n - (i + 1) + 1 by omega]
    have hu : lexd s n c z (n - (i + 1) + 1) (stM s n c z i) = dgK (ck s n c z (n - (i + 1)) (stM s n c z i)) * 16 ^ (7 - (n - (n - (i + 1) + 1))) + lexd s n c z (n - (i + 1)) (stK (stM s n c z i) (ck s n c z (n - (i + 1)) (stM s n c z i))) := by conv => lhs; unfold lexd
    rw [hu, show n - (n - (i + 1) + 1) = i by omega, show 8 - i = 7 - i + 1 by omega, show 8 - (i + 1) = 7 - i by omega, Nat.pow_succ, Nat.mul_add]
    unfold mtM
    have : stM s n c z (i + 1) = stK (stM s n c z i) (ck s n c z (n - (i + 1)) (stM s n c z i)) := rfl
    rw [this, Nat.mul_comm (dgK _) (16 ^ (7 - i)), ← Nat.mul_assoc]
    omega
theorem key_digit (hs : s ≤ 8) (hn : n ≤ 8) {i : Nat} (hi : i < n) : (bk s n c z n 0 * 4294967296 + lexd s n c z n 0) / 16 ^ (7 - i) % 16 = dgK (mtM s n c z i) := by
  obtain ⟨Q, hQ⟩ := key_at (s := s) (c := c) (z := z) hn i (by omega)
  have hu : lexd s n c z (n - (i + 1) + 1) (stM s n c z i) = dgK (ck s n c z (n - (i + 1)) (stM s n c z i)) * 16 ^ (7 - (n - (n - (i + 1) + 1))) + lexd s n c z (n - (i + 1)) (stK (stM s n c z i) (ck s n c z (n - (i + 1)) (stM s n c z i))) := by conv => lhs; unfold lexd
  have hl := lexd_lt (c := c) (z := z) hs hn (n - (i + 1)) (by omega) (stK (stM s n c z i) (ck s n c z (n - (i + 1)) (stM s n c z i)))
  have hd : dgK (mtM s n c z i) ≤ 8 := dgK_le hs
  rw [show 8 - (n - (n - (i + 1))) = 7 - i by omega] at hl
  rw [hQ, show n - i = n - (i + 1) + 1 by omega, hu, show n - (n - (i + 1) + 1) = i by omega, show 8 - i = 7 - i + 1 by omega, Nat.pow_succ]
  have hE : 0 < 16 ^ (7 - i) := Nat.pow_pos (by omega)
  rw [show 16 ^ (7 - i) * 16 * Q + (dgK (ck s n c z (n - (i + 1)) (stM s n c z i)) * 16 ^ (7 - i) + lexd s n c z (n - (i + 1)) (stK (stM s n c z i) (ck s n c z (n - (i + 1)) (stM s n c z i)))) = 16 ^ (7 - i) * (16 * Q + dgK (mtM s n c z i)) + lexd s n c z (n - (i + 1)) (stK (stM s n c z i) (ck s n c z (n - (i + 1)) (stM s n c z i))) by
    rw [Nat.mul_add, Nat.mul_comm (dgK _), ← Nat.mul_assoc]; unfold mtM; omega]
  rw [Nat.mul_add_div hE, Nat.div_eq_of_lt hl]
  omega
theorem key_cost (hs : s ≤ 8) (hn : n ≤ 8) : (bk s n c z n 0 * 4294967296 + lexd s n c z n 0) / 4294967296 = bk s n c z n 0 := by
  have hl := lexd_lt (c := c) (z := z) hs hn n (Nat.le_refl n) 0
  have hP : 16 ^ (8 - (n - n)) ≤ 4294967296 := by
    rw [Nat.sub_self]; decide
  omega
theorem stM_lt : ∀ i, stM s n c z i < 2 ^ s
  | 0 => Nat.two_pow_pos s
  | i + 1 => by
    have ih := stM_lt i
    show stK (stM s n c z i) (ck s n c z (n - (i + 1)) (stM s n c z i)) < 2 ^ s
    cases h : ck s n c z (n - (i + 1)) (stM s n c z i) with
    | none => exact ih
    | some k => exact or_lt ih (findK_some h).1
end Keys
