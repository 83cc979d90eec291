/-! Planner -/
theorem sub_next : ∀ (n x y p : Nat), x < 2 ^ n → subB x y → subB p y → 0 < x → p < x → p ≤ (x - 1) &&& y
  | 0, x, y, p, hx, _, _, h0, _ => by rw [Nat.pow_zero] at hx; omega
  | n + 1, x, y, p, hx, sx, sp, h0, hp => by
    have half : ∀ {a b : Nat}, subB a b → subB (a / 2) (b / 2) := fun {a b} h j hj => by
      rw [Nat.testBit_div_two] at hj ⊢
      exact h _ hj
    have low : ∀ {a b : Nat}, subB a b → a % 2 = 1 → b % 2 = 1 := fun {a b} h ha => by
      have := h 0
      rw [Nat.testBit_zero, Nat.testBit_zero] at this
      have := this (decide_eq_true ha)
      exact of_decide_eq_true this
    have hd : ((x - 1) &&& y) / 2 = (x - 1) / 2 &&& y / 2 := Nat.and_div_two
    have hm : ((x - 1) &&& y) % 2 = 1 ↔ (x - 1) % 2 = 1 ∧ y % 2 = 1 := Nat.and_mod_two_eq_one
    rw [Nat.pow_succ] at hx
    by_cases o : x % 2 = 1
    · have e1 : (x - 1) / 2 = x / 2 := by omega
      have e2 : x / 2 &&& y / 2 = x / 2 := by
        apply Nat.eq_of_testBit_eq
        intro j
        rw [Nat.testBit_and]
        cases hj : (x / 2).testBit j with
        | false => rfl
        | true => rw [half sx j hj]; rfl
      rw [e1, e2] at hd
      omega
    · have e1 : (x - 1) / 2 = x / 2 - 1 := by omega
      have ih := sub_next n (x / 2) (y / 2) (p / 2) (by omega) (half sx) (half sp) (by omega) (by omega)
      rw [e1] at hd
      have hl := low sp
      have hm2 : p % 2 = 1 → ((x - 1) &&& y) % 2 = 1 := fun w => hm.mpr ⟨by omega, hl w⟩
      clear hm
      generalize (x - 1) &&& y = z at hd hm2 ⊢
      generalize x / 2 - 1 &&& y / 2 = u at hd ih
      by_cases w : p % 2 = 1
      · have := hm2 w
        omega
      · omega
theorem and_sub (x y : Nat) : subB (x &&& y) y := fun j hj => by
  rw [Nat.testBit_and] at hj
  cases h : y.testBit j with
  | true => rfl
  | false => rw [h] at hj; simp at hj
theorem sub_tr {x y z : Nat} (h : subB x y) (k : subB y z) : subB x z := fun j hj => k j (h j hj)
theorem sub_xlt : ∀ x, x < 256 → ∀ y, y < 256 → 0 < y → x &&& y = y → x ^^^ y < x := by decide +kernel
theorem i_and (x y : Nat) (hx : x < 256) (hy : y < 256) : nI x &&& nI y = nI (x &&& y) := by
  unfold nI
  apply Int32.toBitVec_inj.mp
  rw [Int32.toBitVec_and]
  show BitVec.ofNat 32 x &&& BitVec.ofNat 32 y = BitVec.ofNat 32 (x &&& y)
  rw [BitVec.ofNat_and]
theorem i_xor2 (x y : Nat) : nI x ^^^ nI y = nI (x ^^^ y) := by
  unfold nI
  apply Int32.toBitVec_inj.mp
  rw [Int32.toBitVec_xor]
  show BitVec.ofNat 32 x ^^^ BitVec.ofNat 32 y = BitVec.ofNat 32 (x ^^^ y)
  rw [BitVec.ofNat_xor]
theorem onesN_is : ∀ x, x < 256 → onesN x = onM x := by decide +kernel
theorem bc_is : ∀ x, x < 256 → (List.range 8).countP (fun j => x.testBit j) = sumS x (fun _ => 1) := by decide +kernel
