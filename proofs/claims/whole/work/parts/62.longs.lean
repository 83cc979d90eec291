/-! longs, bits, loops -/
theorem q_s64 : ∀ k, k < 64 → (((nI k).toInt64 &&& 63).toBitVec.smod 64) = BitVec.ofNat 64 k := by decide +kernel
theorem q_bv (n : Nat) : (lN n).toBitVec = BitVec.ofNat 64 n := rfl
theorem q_shl (n : Nat) {k : Nat} (hk : k < 64) : lN n <<< ((nI k).toInt64 &&& 63) = lN (n * 2 ^ k) := by
  apply Int64.toBitVec_inj.mp
  rw [Int64.toBitVec_shiftLeft, q_s64 k hk, q_bv, q_bv]
  apply BitVec.eq_of_toNat_eq
  rw [BitVec.shiftLeft_eq', BitVec.toNat_shiftLeft, BitVec.toNat_ofNat, BitVec.toNat_ofNat, BitVec.toNat_ofNat, Nat.mod_eq_of_lt (show k < 2 ^ 64 by omega), Nat.shiftLeft_eq]
  rw [Nat.mod_mul_mod]
theorem q_shr {n k : Nat} (hn : n < 9223372036854775808) (hk : k < 64) : lN n >>> ((nI k).toInt64 &&& 63) = lN (n / 2 ^ k) := by
  apply Int64.toBitVec_inj.mp
  rw [Int64.toBitVec_shiftRight, q_s64 k hk, q_bv, q_bv]
  apply BitVec.eq_of_toNat_eq
  have hm : (BitVec.ofNat 64 n).msb = false := by
    rw [BitVec.msb_eq_decide]
    simp
    omega
  rw [BitVec.sshiftRight_eq', BitVec.sshiftRight_eq_of_msb_false hm, BitVec.toNat_ushiftRight, BitVec.toNat_ofNat, BitVec.toNat_ofNat, BitVec.toNat_ofNat, Nat.mod_eq_of_lt (show k < 2 ^ 64 by omega), Nat.shiftRight_eq_div_pow, Nat.mod_eq_of_lt (show n < 2 ^ 64 by omega), Nat.mod_eq_of_lt]
  exact Nat.lt_of_le_of_lt (Nat.div_le_self _ _) (by omega)
theorem nI_mod (n : Nat) : nI (n % 4294967296) = nI n := by
  unfold nI
  apply Int32.toBitVec_inj.mp
  show BitVec.ofNat 32 (n % 4294967296) = BitVec.ofNat 32 n
  apply BitVec.eq_of_toNat_eq
  rw [BitVec.toNat_ofNat, BitVec.toNat_ofNat]
  exact Nat.mod_mod _ _
theorem q_and {m : Int32} (n k : Nat) (hk : k ≤ 16) (hm : m.toBitVec.toNat = 2 ^ k - 1) : nI n &&& m = nI (n % 2 ^ k) := by
  rw [← nI_mod n, pk_andN (Nat.mod_lt _ (by decide)) k hm]
  congr 1
  have : (2 : Nat) ^ 32 = 2 ^ k * 2 ^ (32 - k) := by rw [← Nat.pow_add, show k + (32 - k) = 32 by omega]
  rw [this, Nat.mod_mul_right_mod]
theorem i_bit : ∀ x, x < 256 → ∀ k, k < 8 → (((nI x >>> (nI k &&& 31)) &&& (1 : Int32) = (1 : Int32)) ↔ x.testBit k = true) := by decide +kernel
theorem i_bit0 : ∀ x, x < 256 → ∀ k, k < 8 → (((nI x >>> (nI k &&& 31)) &&& (1 : Int32) = (0 : Int32)) ↔ x.testBit k = false) := by decide +kernel
theorem i_xor : ∀ x, x < 256 → ∀ k, k < 8 → nI x ^^^ ((1 : Int32) <<< (nI k &&& 31)) = nI (x ^^^ 2 ^ k) := by decide +kernel
theorem i_or : ∀ x, x < 256 → ∀ k, k < 8 → nI x ||| ((1 : Int32) <<< (nI k &&& 31)) = nI (x ||| 2 ^ k) := by decide +kernel
theorem i_all : ∀ s, s ≤ 8 → ((1 : Int32) <<< (nI s &&& 31)) - (1 : Int32) = nI (2 ^ s - 1) := by decide +kernel
theorem i_xlt : ∀ x, x < 256 → ∀ k, k < 8 → x.testBit k = true → x ^^^ 2 ^ k < x := by decide +kernel
theorem p_256 {s : Nat} (hs : s ≤ 8) : 2 ^ s ≤ 256 := Nat.pow_le_pow_right (n := 2) (by omega) hs
/-- counts down to below nothing -/
def dI : Nat → Int32
  | 0 => -1
  | i + 1 => nI i
theorem dI_pred (n : Nat) : nI n - (1 : Int32) = dI n := by
  cases n with
  | zero => rfl
  | succ n => exact p_sub1 n
theorem dI_m1 (i : Nat) : nI i + (-1) = dI i := by
  cases i with
  | zero => rfl
  | succ i => exact pk_m1 i
theorem forD {body : (Int32 × gh_M → Prop) → Int32 × gh_M → Prop} {M : gh_M} (n : Nat) (hn : n < 2147483648) (I : Nat → gh_M → Prop) (h0 : I n M) (hs : ∀ i M1 k, i < n → I (i + 1) M1 → (∀ M2, I i M2 → k (nI i + (-1), M2)) → body k (nI i, M1)) (he : ∀ M1 k, I 0 M1 → body k (-1, M1)) : gh_loop body (dI n, M) := by
  refine ⟨fun v => ∃ i, i ≤ n ∧ v.1 = dI i ∧ I i v.2, fun v => (v.1.toInt + 1).toNat, ⟨n, Nat.le_refl n, rfl, h0⟩, ?_⟩
  rintro ⟨x, M1⟩ ⟨i, h2, hx, hI⟩
  dsimp only at hx hI
  subst hx
  cases i with
  | zero => exact he M1 _ hI
  | succ i =>
    refine hs i M1 _ (by omega) hI (fun M2 hI2 => ⟨⟨i, by omega, dI_m1 i, hI2⟩, ?_⟩)
    show ((nI i + (-1)).toInt + 1).toNat < ((nI i).toInt + 1).toNat
    rw [dI_m1, p_ti (by omega)]
    cases i with
    | zero => decide
    | succ i => show ((nI i).toInt + 1).toNat < _; rw [p_ti (by omega)]; omega
theorem forD2 {α : Type} {body : (α × Int32 × gh_M → Prop) → α × Int32 × gh_M → Prop} {M : gh_M} {x0 : α} (n : Nat) (hn : n < 2147483648) (I : Nat → α → gh_M → Prop) (h0 : I n x0 M) (hs : ∀ i x M1 k, i < n → I (i + 1) x M1 → (∀ y M2, I i y M2 → k (y, nI i + (-1), M2)) → body k (x, nI i, M1)) (he : ∀ x M1 k, I 0 x M1 → body k (x, -1, M1)) : gh_loop body (x0, dI n, M) := by
  refine ⟨fun v => ∃ i, i ≤ n ∧ v.2.1 = dI i ∧ I i v.1 v.2.2, fun v => (v.2.1.toInt + 1).toNat, ⟨n, Nat.le_refl n, rfl, h0⟩, ?_⟩
  rintro ⟨y, x, M1⟩ ⟨i, h2, hx, hI⟩
  dsimp only at hx hI
  subst hx
  cases i with
  | zero => exact he y M1 _ hI
  | succ i =>
    refine hs i y M1 _ (by omega) hI (fun y2 M2 hI2 => ⟨⟨i, by omega, dI_m1 i, hI2⟩, ?_⟩)
    show ((nI i + (-1)).toInt + 1).toNat < ((nI i).toInt + 1).toNat
    rw [dI_m1, p_ti (by omega)]
    cases i with
    | zero => decide
    | succ i => show ((nI i).toInt + 1).toNat < _; rw [p_ti (by omega)]; omega
theorem for2g {α : Type} {body : (α × Int32 × gh_M → Prop) → α × Int32 × gh_M → Prop} {M : gh_M} {x0 : α} (c n : Nat) (hc : c ≤ n) (hn : n < 2147483648) (I : Nat → α → gh_M → Prop) (h0 : I c x0 M) (hs : ∀ i x M1 k, c ≤ i → i < n → I i x M1 → (∀ y M2, I (i + 1) y M2 → k (y, nI i + 1, M2)) → body k (x, nI i, M1)) (he : ∀ x M1 k, I n x M1 → body k (x, nI n, M1)) : gh_loop body (x0, nI c, M) := by
  refine ⟨fun v => ∃ i, c ≤ i ∧ i ≤ n ∧ v.2.1 = nI i ∧ I i v.1 v.2.2, fun v => n - v.2.1.toNatClampNeg, ⟨c, Nat.le_refl c, hc, rfl, h0⟩, ?_⟩
  rintro ⟨y, x, M1⟩ ⟨i, h1, h2, hx, hI⟩
  dsimp only at hx hI
  subst hx
  by_cases h : i < n
  · refine hs i y M1 _ h1 h hI (fun y2 M2 hI2 => ⟨⟨i + 1, by omega, by omega, nI_1 i, hI2⟩, ?_⟩)
    show n - (nI i + 1).toNatClampNeg < n - (nI i).toNatClampNeg
    rw [nI_1, p_cl (by omega), p_cl (by omega)]; omega
  · have : i = n := by omega
    subst this
    exact he y M1 _ hI
theorem q_min {a b : Nat} (ha : a < 9223372036854775808) (hb : b < 9223372036854775808) : (if lN b < lN a then lN b else lN a) = lN (min a b) := by
  by_cases h : b < a
  · rw [if_pos ((pk_lLT hb ha).mpr h), Nat.min_eq_right (by omega)]
  · rw [if_neg (fun z => h ((pk_lLT hb ha).mp z)), Nat.min_eq_left (by omega)]
