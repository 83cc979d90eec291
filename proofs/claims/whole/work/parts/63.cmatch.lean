/-! Matcher -/
theorem q_sub (n : Nat) : (lN n).toInt32 = nI n := lN_i n
section CM
variable {sh : gh_Sh} {M : gh_M} {q : Nat}
theorem s3_worthOf {post : Int64 → gh_M → Prop} {c d i : Nat} (hc : c < 1000) (hd : d < 1000) (hi : i < 8) (h : post (lN (c * 4294967296 + d * 16 ^ (7 - i))) M) : wp_X3_worthOf sh M (nI c) (nI d) (nI i) post := by
  unfold wp_X3_worthOf wp_X3_shiftOf
  have e1 : (4 : Int32) * ((7 : Int32) - nI i) = nI (4 * (7 - i)) := by
    rw [show (7 : Int32) - nI i = nI (7 - i) from pk_sub (a := 7) (by omega)]
    exact pk_mul 4 _
  show post (((nI c).toInt64 <<< ((nI 32).toInt64 &&& 63)) + ((nI d).toInt64 <<< (((4 : Int32) * ((7 : Int32) - nI i)).toInt64 &&& 63))) M
  rw [e1, nI_l (n := c) (by omega), nI_l (n := d) (by omega), q_shl c (by omega), q_shl d (by omega), lN_add, Nat.pow_mul]
  exact h
theorem s3_givenTo {post : Int32 → gh_M → Prop} {K i : Nat} (L : LMat sh M q) (hi : i < 8) (hK : K < 9223372036854775808) (hj : rJ M q 2 = lN K) (h : post (if K / 16 ^ (7 - i) % 16 = 8 then -5 else nI (K / 16 ^ (7 - i) % 16)) M) : wp_X3_givenTo sh M q (nI i) post := by
  unfold wp_X3_givenTo wp_X3_shiftOf
  have e1 : (4 : Int32) * ((7 : Int32) - nI i) = nI (4 * (7 - i)) := by
    rw [show (7 : Int32) - nI i = nI (7 - i) from pk_sub (a := 7) (by omega)]
    exact pk_mul 4 _
  dsimp only
  rw [e1, hj, q_shr hK (by omega), lN_i, q_and _ 4 (by omega) (by decide), Nat.pow_mul]
  have hm : K / 16 ^ (7 - i) % 16 < 16 := Nat.mod_lt _ (by decide)
  refine ⟨L.1, fun c => ?_, fun c => ?_⟩
  · have : K / 16 ^ (7 - i) % 16 = 8 := (p_eqI (b := 8) (by omega) (by omega)).mp c
    rw [if_pos this] at h; exact h
  · have : ¬ K / 16 ^ (7 - i) % 16 = 8 := fun z => c (by
      show nI (K / 16 ^ (7 - i) % 16) = 8
      rw [z]; rfl)
    rw [if_neg this] at h; exact h
/-- only longs of one cell have changed -/
def Fj (a : Nat) (M M' : gh_M) : Prop := (∀ x j, rI M' x j = rI M x j) ∧ (∀ x j, x ≠ a → rJ M' x j = rJ M x j) ∧ ∀ x j, rR M' x j = rR M x j
theorem Fj.rf (a : Nat) (M : gh_M) : Fj a M M := ⟨fun _ _ => rfl, fun _ _ _ => rfl, fun _ _ => rfl⟩
theorem Fj.w (a k : Nat) (v : Int64) {M M' : gh_M} (h : Fj a M M') : Fj a M (wJ M' a k v) := ⟨h.1, fun x j hx => (rJ_ne _ _ (Or.inl hx)).trans (h.2.1 x j hx), h.2.2⟩
theorem Fj.fw {a : Nat} {M M' : gh_M} (h : Fj a M M') : Fw a (a + 1) M M' := fun x j hx => ⟨h.1 x j, h.2.1 x j (by omega), h.2.2 x j⟩
theorem s3_giveOne {post : gh_M → Prop} {s Z : Nat} {F W : Nat → Nat} (L : LMat sh M q) (hs : s ≤ 8) (hZ : Z < 1152921504606846976) (hF : ∀ x, x < 2 ^ s → F x < 1152921504606846976) (hW : ∀ j, j < s → W j < 1152921504606846976) (hb : ∀ x, x < 2 ^ s → rJ M (q + 1) x = lN (F x)) (hw : ∀ j, j < s → rJ M (q + 2) j = lN (W j)) (h : ∀ M', Fj (q + 1) M M' → (∀ x, x < 2 ^ s → rJ M' (q + 1) x = lN (minK (fun j => x.testBit j) (fun j => F (x ^^^ 2 ^ j) + W j) (F x + Z) s)) → post M') : wp_X3_giveOne sh M q (nI s) (lN Z) post := by
  unfold wp_X3_giveOne wp_X3_giveOne_7
  have h256 := p_256 hs
  have hpos := Nat.two_pow_pos s
  rw [i_all s hs, show nI (2 ^ s - 1) = dI (2 ^ s) by rw [← dI_pred, p_pred (by omega)]]
  refine forD (2 ^ s) (by omega) (fun i M1 => Fj (q + 1) M M1 ∧ ∀ x, x < 2 ^ s → rJ M1 (q + 1) x = if i ≤ x then lN (minK (fun j => x.testBit j) (fun j => F (x ^^^ 2 ^ j) + W j) (F x + Z) s) else lN (F x)) ⟨Fj.rf _ _, fun x hx => by rw [if_neg (by omega)]; exact hb x hx⟩ ?_ ?_
  · rintro i M1 k hi ⟨hf, hx⟩ hk
    unfold wb_X3_giveOne_7
    dsimp only
    have r0 : rR M1 q 0 = some (q + 1) := (hf.2.2 _ _).trans L.2.1
    have r1 : rR M1 q 1 = some (q + 2) := (hf.2.2 _ _).trans L.2.2.1
    have k14 := L.2.2.2.1
    have v1 : ∀ y, y < 256 → vp_in (nI y) (sh.2 (q + 1)) := fun y hy => by rw [L.2.2.2.2.1]; exact p_in hy (by decide)
    refine ⟨fun c => absurd c (nI_pos (by omega)), fun _ => ⟨L.1, _, r0, k14, v1 i (by omega), ?_⟩⟩
    rw [p_cl (show i < 2147483648 by omega), hx i hi, if_neg (by omega), lN_add]
    unfold wp_X3_giveOne_26
    refine for2g 0 s (by omega) (by omega) (fun j y M2 => M2 = M1 ∧ y = lN (minK (fun j => i.testBit j) (fun j => F (i ^^^ 2 ^ j) + W j) (F i + Z) j)) ⟨rfl, rfl⟩ ?_ ?_
    · rintro j y M2 k2 - hj ⟨rfl, rfl⟩ hk2
      unfold wb_X3_giveOne_26 wp_X3_giveOne_70
      dsimp only
      have hu : minK (fun j => i.testBit j) (fun j => F (i ^^^ 2 ^ j) + W j) (F i + Z) (j + 1) = if i.testBit j = true then min (minK (fun j => i.testBit j) (fun j => F (i ^^^ 2 ^ j) + W j) (F i + Z) j) (F (i ^^^ 2 ^ j) + W j) else minK (fun j => i.testBit j) (fun j => F (i ^^^ 2 ^ j) + W j) (F i + Z) j := rfl
      have hacc := minK_acc (p := fun j => i.testBit j) (v := fun j => F (i ^^^ 2 ^ j) + W j) (acc := F i + Z) j
      have hFi := hF i hi
      refine ⟨fun c => absurd ((p_leI (by omega) (by omega)).mp c) (by omega), fun _ => ⟨fun c => ?_, fun c => hk2 _ _ ⟨rfl, ?_⟩⟩⟩
      · rw [i_bit i (by omega) j (by omega)] at c
        have hlt := i_xlt i (by omega) j (by omega) c
        have hx2 : i ^^^ 2 ^ j < 2 ^ s := by omega
        rw [i_xor i (by omega) j (by omega)]
        refine ⟨L.1, _, r0, k14, v1 _ (by omega), _, r1, L.2.2.2.2.2.1, by rw [L.2.2.2.2.2.2]; exact p_in (by omega) (by decide), hk2 _ _ ⟨rfl, ?_⟩⟩
        have hFx := hF _ hx2
        have hWj := hW j hj
        rw [p_cl (by omega), p_cl (by omega), hx _ hx2, if_neg (show ¬ i + 1 ≤ i ^^^ 2 ^ j by omega), hf.2.1 _ _ (by omega), hw j hj, lN_add, q_min (by omega) (by omega), hu, if_pos c]
      · rw [i_bit i (by omega) j (by omega)] at c
        rw [hu, if_neg c]
    · rintro y M2 k2 ⟨rfl, rfl⟩
      unfold wb_X3_giveOne_26
      dsimp only
      refine ⟨fun _ => ⟨L.1, _, r0, k14, v1 i (by omega), hk _ ⟨hf.w _ _ _, fun x hx2 => ?_⟩⟩, fun c => absurd ((p_leI (by omega) (by omega)).mpr (Nat.le_refl _)) c⟩
      rw [p_cl (by omega)]
      by_cases e : x = i
      · subst e; rw [rJ_same, if_pos (Nat.le_refl _)]
      · rw [rJ_ne _ _ (Or.inr e), hx x hx2]
        by_cases e2 : i + 1 ≤ x
        · rw [if_pos e2, if_pos (by omega)]
        · rw [if_neg e2, if_neg (by omega)]
  · rintro M1 k ⟨hf, hx⟩
    unfold wb_X3_giveOne_7
    dsimp only
    exact ⟨fun _ => h M1 hf (fun x hx2 => by rw [hx x hx2, if_pos (Nat.zero_le _)]), fun c => absurd (show (-1 : Int32) < 0 by decide) c⟩
theorem s3_weigh {post : gh_M → Prop} {r i b u : Nat} {l : List Int32} {B : List PcT} (L : LMat sh M q) (hi : i < 8) (Lr : LRow sh M r) (R : rowIs M r l) (Lb : LBook sh M b) (Bb : bookIs M b B) (Lu : LRuler sh M u) (d1 : r + 1 < u ∨ u + 1 < r) (d2 : b + 105 < u ∨ u + 1 < b) (d3 : u + 1 < q) (d4 : r + 1 < q + 2 ∨ q + 2 < r) (d5 : b + 105 < q + 2 ∨ q + 2 < b) (h : ∀ M', Fw (u + 1) (q + 3) M M' → (∀ x j, rR M' x j = rR M x j) → (∀ x j, x ≠ q + 2 → rJ M' x j = rJ M x j) → (∀ x j, x ≠ u + 1 → rI M' x j = rI M x j) → (∀ j, j < B.length → rJ M' (q + 2) j = lN (dist l (B.getD j pc0).2.1 * 4294967296 + j * 16 ^ (7 - i))) → post M') : wp_X3_weigh sh M q r (nI i) b u post := by
  unfold wp_X3_weigh wp_X3_weigh_3
  have hB := Bb.1
  refine for1 0 B.length (by omega) (by omega) (fun j M1 => (∀ x j, rR M1 x j = rR M x j) ∧ (∀ x j, x ≠ q + 2 → rJ M1 x j = rJ M x j) ∧ (∀ x j, x ≠ u + 1 → rI M1 x j = rI M x j) ∧ ∀ y, y < j → rJ M1 (q + 2) y = lN (dist l (B.getD y pc0).2.1 * 4294967296 + y * 16 ^ (7 - i))) ⟨fun _ _ => rfl, fun _ _ _ => rfl, fun _ _ _ => rfl, fun y hy => by omega⟩ ?_ ?_
  · rintro j M1 k - hj ⟨hr, hJ, hI, hv⟩ hk
    unfold wb_X3_weigh_3 wp_X3_weigh_49
    dsimp only
    have f1 : Fw (u + 1) (q + 3) M M1 := fun x y hx => ⟨hI x y (by omega), hJ x y (by omega), hr x y⟩
    have Lb1 := Lb.fr hr
    have e1 : rI M1 b 1 = nI B.length := (hI _ _ (by omega)).trans Bb.2.1
    have Bb1 : bookIs M1 b B := by
      refine ⟨hB, e1, fun y hy => ?_⟩
      obtain ⟨p1, p2, p3, p4, p5⟩ := Bb.2.2 y hy
      have rw1 : ∀ {r : Nat} {s : List Int32}, (r + 1 < u + 1 ∨ u + 1 < r) → rowIs M r s → rowIs M1 r s := fun {r s} hd z => ⟨z.1, (hI _ _ (by omega)).trans z.2.1, fun i hi => (hI _ _ (by omega)).trans (z.2.2 i hi)⟩
      exact ⟨(hI _ _ (by omega)).trans p1, rw1 (by omega) p2, (hI _ _ (by omega)).trans p3, (hI _ _ (by omega)).trans p4, fun t ht => ⟨(hI _ _ (by omega)).trans (p5 t ht).1, (hI _ _ (by omega)).trans (p5 t ht).2.1, rw1 (by omega) (p5 t ht).2.2⟩⟩
    have R1 : rowIs M1 r l := ⟨R.1, (hI _ _ (by omega)).trans R.2.1, fun i hi => (hI _ _ (by omega)).trans (R.2.2 i hi)⟩
    refine ⟨Lb.1, s0_count Lb1 Bb1 ⟨fun c => absurd ((p_leI (by omega) (by omega)).mp c) (by omega), fun _ => s0_at Lb1 Bb1 ?_⟩⟩
    rw [p_ix_nI hj (by omega)]
    refine ⟨fun c => (by cases c), fun x c => ?_⟩
    cases c
    have Lp := (Lb1.2.2.2.2 j (by omega)).2
    have P := Bb1.2.2 j hj
    have hP10 := P.2.1.1
    have hl10 := R.1
    have hdm := dist_max l (B.getD j pc0).2.1
    refine ⟨L.1, _, (hr _ _).trans L.2.2.1, Lp.1, s5_signs Lp ⟨Lu.1, s8_between (Lu.fr hr) (Lr.fr hr) Lp.2.2.1 R1 P.2.1 d1 (show b + 2 + 13 * j + 1 + 1 < u ∨ u + 1 < b + 2 + 13 * j + 1 by omega) (fun M2 hF2 => s3_worthOf (by omega) (by omega) hi ⟨L.2.2.2.2.2.1, by rw [L.2.2.2.2.2.2]; exact p_in (by omega) (by decide), hk _ ⟨fun x y => (hF2.R x y).trans (hr x y), fun x y hx => ?_, fun x y hx => (hF2.I (by omega) y).trans (hI x y hx), fun y hy => ?_⟩⟩)⟩⟩
    · rw [rJ_ne _ _ (Or.inl hx)]; exact (hF2.J x y).trans (hJ x y hx)
    · rw [p_cl (by omega)]
      by_cases e : y = j
      · subst e; rw [rJ_same]
      · rw [rJ_ne _ _ (Or.inr e), hF2.J]; exact hv y (by omega)
  · rintro M1 k ⟨hr, hJ, hI, hv⟩
    unfold wb_X3_weigh_3
    dsimp only
    have Lb1 := Lb.fr hr
    have e1 : rI M1 b 1 = nI B.length := (hI _ _ (by omega)).trans Bb.2.1
    refine ⟨Lb.1, ?_⟩
    unfold wp_X0_count
    refine ⟨Lb1.1, ?_⟩
    rw [e1]
    exact ⟨fun _ => h M1 (fun x y hx => ⟨hI x y (by omega), hJ x y (by omega), hr x y⟩) hr hJ hI hv, fun c => absurd ((p_leI (by omega) (by omega)).mpr (Nat.le_refl _)) c⟩
end CM
