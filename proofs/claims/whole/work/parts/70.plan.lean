/-! THE PLAN: what is best -/
theorem sumN_congr {f g : Nat → Nat} : ∀ n, (∀ q, q < n → f q = g q) → sumN f n = sumN g n
  | 0, _ => rfl
  | n + 1, h => by
    have := sumN_congr n (fun q hq => h q (by omega))
    unfold sumN
    rw [this, h n (by omega)]
theorem sumN_le {f g : Nat → Nat} : ∀ n, (∀ q, q < n → f q ≤ g q) → sumN f n ≤ sumN g n
  | 0, _ => Nat.le_refl _
  | n + 1, h => by
    have := sumN_le n (fun q hq => h q (by omega))
    have h2 := h n (by omega)
    unfold sumN
    omega
theorem sumN_add {f g : Nat → Nat} : ∀ n, sumN (fun q => f q + g q) n = sumN f n + sumN g n
  | 0 => rfl
  | n + 1 => by
    have := sumN_add (f := f) (g := g) n
    unfold sumN
    omega
theorem sumN_mul {f : Nat → Nat} {c : Nat} : ∀ n, sumN (fun q => f q * c) n = sumN f n * c
  | 0 => by unfold sumN; omega
  | n + 1 => by
    have := sumN_mul (f := f) (c := c) n
    unfold sumN
    rw [this, Nat.add_mul]
theorem sumN_bound {f : Nat → Nat} {B : Nat} : ∀ n, (∀ q, q < n → f q ≤ B) → sumN f n ≤ n * B
  | 0, _ => by unfold sumN; omega
  | n + 1, h => by
    have := sumN_bound n (fun q hq => h q (by omega))
    have h2 := h n (by omega)
    unfold sumN
    rw [Nat.succ_mul]
    omega
theorem sumN_ext0 {f : Nat → Nat} {s : Nat} (h : ∀ q, s ≤ q → f q = 0) : ∀ n, s ≤ n → sumN f n = sumN f s
  | 0, hn => by rw [show s = 0 by omega]
  | n + 1, hn => by
    by_cases e : s = n + 1
    · rw [e]
    · have := sumN_ext0 h n (by omega)
      have h2 := h n (by omega)
      show sumN f n + f n = _
      omega
/-- digits, the first the highest -/
def horn (d : Nat → Nat) : Nat → Nat
  | 0 => 0
  | n + 1 => 8 * horn d n + d n
theorem horn_lt {d : Nat → Nat} : ∀ n, (∀ q, q < n → d q < 8) → horn d n < 8 ^ n
  | 0, _ => by show 0 < 1; omega
  | n + 1, h => by
    have := horn_lt n (fun q hq => h q (by omega))
    have h2 := h n (by omega)
    show 8 * horn d n + d n < 8 ^ (n + 1)
    rw [Nat.pow_succ]
    omega
theorem horn_sum {d : Nat → Nat} : ∀ n, n ≤ 8 → sumN (fun q => d q * 8 ^ (7 - q)) n = horn d n * 8 ^ (8 - n)
  | 0, _ => by show 0 = 0 * _; omega
  | n + 1, h => by
    have := horn_sum (d := d) n (by omega)
    show sumN (fun q => d q * 8 ^ (7 - q)) n + d n * 8 ^ (7 - n) = (8 * horn d n + d n) * 8 ^ (8 - (n + 1))
    rw [this, show 8 - n = 7 - n + 1 by omega, show 8 - (n + 1) = 7 - n by omega, Nat.pow_succ, Nat.add_mul, Nat.mul_comm 8 (horn d n), Nat.mul_assoc, Nat.mul_comm 8]
theorem horn_div {d : Nat → Nat} {n : Nat} (h : ∀ q, q < n → d q < 8) : ∀ k, k ≤ n → horn d n / 8 ^ k = horn d (n - k)
  | 0, _ => by rw [Nat.pow_zero, Nat.div_one, Nat.sub_zero]
  | k + 1, hk => by
    have ih := horn_div h k (by omega)
    rw [Nat.pow_succ, ← Nat.div_div_eq_div_mul, ih, show n - k = n - (k + 1) + 1 by omega]
    show (8 * horn d (n - (k + 1)) + d (n - (k + 1))) / 8 = _
    have := h (n - (k + 1)) (by omega)
    omega
theorem horn_digit {d : Nat → Nat} (h : ∀ q, q < 8 → d q < 8) {p : Nat} (hp : p < 8) : horn d 8 / 8 ^ (7 - p) % 8 = d p := by
  rw [horn_div h (7 - p) (by omega), show 8 - (7 - p) = p + 1 by omega]
  show (8 * horn d p + d p) % 8 = d p
  have := h p hp
  omega
theorem horn_less {x y : Nat → Nat} {q : Nat} (hx : ∀ i, x i < 8) (he : ∀ i, i < q → x i = y i) (hq : x q < y q) : ∀ n, q < n → horn x n < horn y n
  | n + 1, hn => by
    show 8 * horn x n + x n < 8 * horn y n + y n
    by_cases e : n = q
    · subst e
      have : horn x n = horn y n := by
        have : ∀ k, k ≤ n → horn x k = horn y k := by
          intro k
          induction k with
          | zero => intro _; rfl
          | succ k ih => intro hk; show 8 * horn x k + x k = 8 * horn y k + y k; rw [ih (by omega), he k (by omega)]
        exact this n (Nat.le_refl n)
      omega
    · have := horn_less hx he hq n (by omega)
      have := hx n
      omega
section Plan
variable (s h : Nat) (e : Nat → Nat) (K : Nat → Prop) (hr rt : Nat → Nat)
def usedP (c : Nat → Nat) (j n : Nat) : Nat := sumN (fun q => if c q = j then e q else 0) n
def cntP (c : Nat → Nat) (n : Nat) : Nat := sumN (fun q => if c q < h then 1 else 0) n
def cstP (c : Nat → Nat) (n : Nat) : Nat := sumN (fun q => if c q < h then e q * rt (c q) else 0) n
def needP (n : Nat) : Nat := sumN (fun q => if e q = 0 then 0 else 1) n
def leftP (c : Nat → Nat) (n : Nat) : Nat := sumN (fun q => if e q = 0 then 0 else if c q < h then 0 else 1) n
def dgP (c : Nat → Nat) (q : Nat) : Nat := if e q = 0 then 0 else if c q < h then c q else 5
/-- a plan of the first n -/
def PV (c : Nat → Nat) (n : Nat) : Prop := (∀ q, q < n → c q ≤ h ∧ (c q < h → 0 < e q ∧ K (c q))) ∧ ∀ j, j < h → usedP e c j n ≤ hr j
def wP (q x : Nat) : Nat := if x < h then e q * rt x * 16777216 + x * 8 ^ (7 - q) else 1099511627776 + 5 * 8 ^ (7 - q)
def keyP (c : Nat → Nat) (n : Nat) : Nat := sumN (fun q => if e q = 0 then 0 else wP h e rt q (c q)) n
def optP (c : Nat → Nat) : Prop := PV h e K hr c s ∧ ∀ f, PV h e K hr f s → keyP h e rt c s ≤ keyP h e rt f s
variable {s h e K hr rt}
theorem keyP_split {c : Nat → Nat} : ∀ n, (∀ q, q < n → c q < h → 0 < e q) → keyP h e rt c n = leftP h e c n * 1099511627776 + cstP h e rt c n * 16777216 + sumN (fun q => dgP h e c q * 8 ^ (7 - q)) n
  | 0, _ => by unfold keyP leftP cstP sumN; omega
  | n + 1, hv => by
    have ih := keyP_split (c := c) n (fun q hq => hv q (by omega))
    have h1 := hv n (by omega)
    unfold keyP leftP cstP at ih ⊢
    unfold sumN
    rw [ih]
    unfold dgP wP
    by_cases z : e n = 0
    · have hc : ¬ c n < h := fun w => by have := h1 w; omega
      rw [if_pos z, if_pos z, if_pos z, if_neg hc]
      omega
    · by_cases w : c n < h
      · rw [if_neg z, if_neg z, if_neg z, if_pos w, if_pos w, if_pos w, if_pos w, Nat.add_mul, Nat.add_mul]
        omega
      · rw [if_neg z, if_neg z, if_neg z, if_neg w, if_neg w, if_neg w, if_neg w, Nat.add_mul, Nat.add_mul]
        omega
theorem left_cnt {c : Nat → Nat} : ∀ n, (∀ q, q < n → c q < h → 0 < e q) → leftP h e c n + cntP h c n = needP e n
  | 0, _ => rfl
  | n + 1, hv => by
    have ih := left_cnt (c := c) n (fun q hq => hv q (by omega))
    have h1 := hv n (by omega)
    unfold leftP cntP needP at ih ⊢
    unfold sumN
    by_cases z : e n = 0
    · have hc : ¬ c n < h := fun w => by have := h1 w; omega
      rw [if_pos z, if_pos z, if_neg hc]; omega
    · by_cases w : c n < h
      · rw [if_neg z, if_neg z, if_pos w, if_pos w]; omega
      · rw [if_neg z, if_neg z, if_neg w, if_neg w]; omega
theorem dgP_lt {c : Nat → Nat} (hh : h ≤ 5) (q : Nat) : dgP h e c q < 8 := by
  unfold dgP
  split
  · omega
  · split <;> omega
theorem digs_horn {c : Nat → Nat} (hs : s ≤ 8) (he : ∀ q, s ≤ q → e q = 0) : sumN (fun q => dgP h e c q * 8 ^ (7 - q)) s = horn (dgP h e c) 8 := by
  have h1 : sumN (fun q => dgP h e c q * 8 ^ (7 - q)) 8 = sumN (fun q => dgP h e c q * 8 ^ (7 - q)) s := sumN_ext0 (fun q hq => by unfold dgP; rw [if_pos (he q hq), Nat.zero_mul]) 8 hs
  rw [← h1, horn_sum 8 (Nat.le_refl 8), Nat.sub_self, Nat.pow_zero, Nat.mul_one]
theorem cst_small {c : Nat → Nat} {n : Nat} (hn : n ≤ 8) (he : ∀ q, e q ≤ 10) (hrt : ∀ j, j < h → rt j ≤ 9) : cstP h e rt c n ≤ 720 := by
  unfold cstP
  refine Nat.le_trans (sumN_bound (B := 90) n (fun q hq => ?_)) (by omega)
  split
  · rename_i hc
    exact Nat.mul_le_mul (he q) (hrt _ hc)
  · omega
/-- of two plans the better one has the lesser key -/
theorem key_le {b f : Nat → Nat} (hs : s ≤ 8) (hh : h ≤ 5) (he0 : ∀ q, s ≤ q → e q = 0) (he : ∀ q, e q ≤ 10) (hrt : ∀ j, j < h → rt j ≤ 9) (vb : ∀ q, q < s → b q ≤ h ∧ (b q < h → 0 < e q)) (vf : ∀ q, q < s → f q ≤ h ∧ (f q < h → 0 < e q))
    (hl : cntP h f s < cntP h b s ∨ (cntP h f s = cntP h b s ∧ (cstP h e rt b s < cstP h e rt f s ∨ (cstP h e rt b s = cstP h e rt f s ∧ ((∀ q, q < s → b q = f q) ∨ ∃ q, q < s ∧ (∀ i, i < q → b i = f i) ∧ b q < f q))))) : keyP h e rt b s ≤ keyP h e rt f s := by
  have cb := fun q hq => (vb q hq).2
  have cf := fun q hq => (vf q hq).2
  rw [keyP_split s cb, keyP_split s cf, digs_horn hs he0, digs_horn hs he0]
  have l1 := left_cnt s cb
  have l2 := left_cnt s cf
  have k1 := cst_small (c := b) hs he hrt
  have k2 := cst_small (c := f) hs he hrt
  have d1 : horn (dgP h e b) 8 < 16777216 := horn_lt 8 (fun q _ => dgP_lt hh q)
  have d2 : horn (dgP h e f) 8 < 16777216 := horn_lt 8 (fun q _ => dgP_lt hh q)
  rcases hl with hl | ⟨hl, hl2 | ⟨hl2, hl3 | ⟨q, hq, heq, hlt⟩⟩⟩
  · omega
  · omega
  · have : horn (dgP h e b) 8 = horn (dgP h e f) 8 := by
      rw [← digs_horn hs he0, ← digs_horn hs he0]
      exact sumN_congr s (fun q hq => by unfold dgP; rw [hl3 q hq])
    omega
  · have hbq : b q < h := Nat.lt_of_lt_of_le hlt (vf q hq).1
    have hz : ¬ e q = 0 := fun z => by have := cb q hq hbq; omega
    have : horn (dgP h e b) 8 < horn (dgP h e f) 8 := by
      refine horn_less (q := q) (fun i => dgP_lt hh i) (fun i hi => by unfold dgP; rw [heq i hi]) ?_ 8 (by omega)
      unfold dgP
      rw [if_neg hz, if_neg hz, if_pos hbq]
      split <;> omega
    omega
theorem opt_unique {b f : Nat → Nat} (hs : s ≤ 8) (hh : h ≤ 5) (he0 : ∀ q, s ≤ q → e q = 0) (he : ∀ q, e q ≤ 10) (hrt : ∀ j, j < h → rt j ≤ 9) (ob : optP s h e K hr rt b) (of : optP s h e K hr rt f) : ∀ q, q < s → b q = f q := by
  have cb := fun q hq => ((ob.1.1 q hq).2 · |>.1)
  have cf := fun q hq => ((of.1.1 q hq).2 · |>.1)
  have hk : keyP h e rt b s = keyP h e rt f s := Nat.le_antisymm (ob.2 f of.1) (of.2 b ob.1)
  rw [keyP_split s cb, keyP_split s cf, digs_horn hs he0, digs_horn hs he0] at hk
  have k1 := cst_small (c := b) hs he hrt
  have k2 := cst_small (c := f) hs he hrt
  have d1 : horn (dgP h e b) 8 < 16777216 := horn_lt 8 (fun q _ => dgP_lt hh q)
  have d2 : horn (dgP h e f) 8 < 16777216 := horn_lt 8 (fun q _ => dgP_lt hh q)
  have hd : horn (dgP h e b) 8 = horn (dgP h e f) 8 := by omega
  intro q hq
  have x1 := horn_digit (d := dgP h e b) (fun i _ => dgP_lt hh i) (show q < 8 by omega)
  have x2 := horn_digit (d := dgP h e f) (fun i _ => dgP_lt hh i) (show q < 8 by omega)
  rw [hd, x2] at x1
  have b1 := (ob.1.1 q hq).1
  have f1 := (of.1.1 q hq).1
  have b2 := cb q hq
  have f2 := cf q hq
  unfold dgP at x1
  by_cases z : e q = 0
  · have : ¬ b q < h := fun w => by have := b2 w; omega
    have : ¬ f q < h := fun w => by have := f2 w; omega
    omega
  · rw [if_neg z, if_neg z] at x1
    by_cases w1 : b q < h
    · rw [if_pos w1] at x1
      by_cases w2 : f q < h
      · rw [if_pos w2] at x1; omega
      · rw [if_neg w2] at x1; omega
    · rw [if_neg w1] at x1
      by_cases w2 : f q < h
      · rw [if_pos w2] at x1; omega
      · omega
theorem sumN_zero {f : Nat → Nat} (h : ∀ q, f q = 0) : ∀ n, sumN f n = 0
  | 0 => rfl
  | n + 1 => by
    have := sumN_zero h n
    show sumN f n + f n = 0
    rw [this, h n]
theorem opt_exists : ∃ c, optP s h e K hr rt c := by
  have ex : ∃ n, ∃ c, PV h e K hr c s ∧ keyP h e rt c s = n := by
    refine ⟨_, fun _ => h, ⟨fun q _ => ⟨Nat.le_refl h, fun w => absurd w (Nat.lt_irrefl h)⟩, fun j hj => ?_⟩, rfl⟩
    unfold usedP
    rw [sumN_zero (fun q => if_neg (show ¬ h = j by omega))]
    omega
  obtain ⟨n, ⟨c, hc, hn⟩, hmin⟩ := pk_least _ ex
  refine ⟨c, hc, fun f hf => ?_⟩
  apply Classical.byContradiction
  intro hlt
  exact hmin (keyP h e rt f s) (by omega) ⟨f, hf, rfl⟩
end Plan
