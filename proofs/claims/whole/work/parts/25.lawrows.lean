/-! the law's own rows -/
def gh_CL (X : gh_X) (x0 L : Nat) (xs : Nat → Int32) : Prop := gh_C X cL_law RL 4 ∧ (gx_h X).sig.returnType = ret ∧ (gx_h X).locks = false ∧ gx_Q X = lw_Z (gx_w X) #[Value.ref x0] (gx_s X) ∧ gx_a X = #[Value.ref x0] ∧ gx_H X = (gx_s X).heap ∧ gx_b X = (gx_s X).heap.size ∧ va_X x0 L xs (gx_s X) (gx_s X).heap ∧ x0 < (gx_s X).heap.size
section GHL
variable {X : gh_X} {x0 L : Nat} {xs : Nat → Int32} {cells slots : Nat} {sh : gh_Sh} {n pc : Nat} {lv : List (Nat × Value)} {st : List Value} {M : gh_M}
theorem k_sld (C : gh_CL X x0 L xs) {i : Int32} (d : decode cL_law pc = .ok (.iaload, 1)) (hi : vp_in i L) (kk : gh_G X room_1 4 cells slots sh n (pc + 1) lv (.int (xs i.toNatClampNeg) :: st) M) : gh_G X room_1 4 cells slots sh n pc lv (.int i :: .ref x0 :: st) M := by
  intro H locs ls hh hl
  obtain ⟨h1, h2, h3, h4, h5, h6, h7, h8, h9⟩ := C
  exact va_sld (A := fun q => gx_b X ≤ q) (H0 := gx_H X) h1.1 h1.2.1 (by rw [h6]; exact h8) (by rw [h6]; exact h9) (by show ¬ gx_b X ≤ x0; rw [h7]; omega) hh.2 hi d (kk H locs ls hh hl)
theorem k_slen (C : gh_CL X x0 L xs) (d : decode cL_law pc = .ok (.arraylength, 1)) (kk : gh_G X room_1 4 cells slots sh n (pc + 1) lv (.int (Int32.ofNat L) :: st) M) : gh_G X room_1 4 cells slots sh n pc lv (.ref x0 :: st) M := by
  intro H locs ls hh hl
  obtain ⟨h1, h2, h3, h4, h5, h6, h7, h8, h9⟩ := C
  exact va_slen (A := fun q => gx_b X ≤ q) (H0 := gx_H X) h1.1 h1.2.1 (by rw [h6]; exact h8) (by rw [h6]; exact h9) (by show ¬ gx_b X ≤ x0; rw [h7]; omega) hh.2 d (kk H locs ls hh hl)
theorem k_lawret (C : gh_CL X x0 L xs) (d : decode cL_law pc = .ok (.ireturn, 1)) (hc : cells ≤ 600000) (hs : slots ≤ 7302250) : gh_G X room_1 4 cells slots sh n pc lv [.int 1] M := by
  intro H locs ls hh hl
  obtain ⟨h1, h2, h3, h4, h5, h6, h7, h8, h9⟩ := C
  refine va_forget (fun q hq => ?_) (W.widen hc hs ?_)
  · have := hh.2.2.2 q hq
    rw [← h7]; exact this
  · skip
    rw [h4, h5]
    exact lw_ret h1.1 h1.2.1 h2 h3 d
end GHL
