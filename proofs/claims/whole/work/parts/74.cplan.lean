/-! Planner: solve; plan and planned of the class -/
theorem inR_nI {x : Int32} {lo hi : Int} (h : inR x lo hi) (h0 : 0 ≤ lo) : x = nI x.toNatClampNeg ∧ (x.toNatClampNeg : Int) ≤ hi := by
  have e : (x.toNatClampNeg : Int) = x.toInt := by
    show ((x.toInt.toNat : Nat) : Int) = x.toInt
    have := h.1
    omega
  have := p_rng x
  refine ⟨?_, by rw [e]; exact h.2⟩
  rw [p_eq, p_ti (by omega), e]
def hKn (l : List HnT) (t j : Nat) : Prop := kn (l.getD j hn0) t
def hHr (l : List HnT) (j : Nat) : Nat := (l.getD j hn0).2.1.toNatClampNeg
def hRt (l : List HnT) (j : Nat) : Nat := (l.getD j hn0).2.2.toNatClampNeg
theorem hHr_is {l : List HnT} {j : Nat} (h : hnOk (l.getD j hn0)) : (l.getD j hn0).2.1 = nI (hHr l j) ∧ hHr l j ≤ 20 := by
  have := inR_nI h.2.1 (by omega)
  exact ⟨this.1, by have := this.2; unfold hHr; omega⟩
theorem hRt_is {l : List HnT} {j : Nat} (h : hnOk (l.getD j hn0)) : (l.getD j hn0).2.2 = nI (hRt l j) ∧ hRt l j ≤ 9 := by
  have := inR_nI h.2.2 (by omega)
  exact ⟨this.1, by have := this.2; unfold hRt; omega⟩
theorem base_is {x : Nat} : sumS x (fun p => 1099511627776 + 5 * 8 ^ (7 - p)) = sumS x (fun _ => 1) * 1099511627776 + 5 * onM x := by
  rw [sumS_addf (g := fun _ => 1099511627776) (k := fun p => 5 * 8 ^ (7 - p))]
  have h1 : sumS x (fun _ => 1099511627776) = sumS x (fun _ => 1) * 1099511627776 := by
    rw [← sumS_mulr (g := fun _ => 1)]
  have h2 : sumS x (fun p => 5 * 8 ^ (7 - p)) = 5 * onM x := by
    unfold onM
    rw [Nat.mul_comm 5, ← sumS_mulr]
    exact sumS_congr (fun p _ _ => Nat.mul_comm _ _)
  rw [h1, h2]
theorem opt_le {h j x v : Nat} {e : Nat → Nat} {K : Nat → Prop} {hr rt : Nat → Nat} (hj : j ≤ h) (ho : OptV h e K hr rt j x v) : v ≤ 8796176908288 := by
  refine Nat.le_trans (ho.1 (fun _ => h) ⟨fun p _ _ w => absurd w (Nat.lt_irrefl h), fun i hi => ?_⟩) ?_
  · rw [sumS_congr (k := fun _ => 0) (fun p _ _ => if_neg (show ¬ h = i by omega))]
    unfold sumS
    rw [sumN_zero (fun q => by split <;> rfl)]
    omega
  · refine sumS_le8 (B := 1099522113536) (fun p hp => ?_)
    unfold wP
    rw [if_neg (Nat.lt_irrefl h)]
    have : 8 ^ (7 - p) ≤ 8 ^ 7 := Nat.pow_le_pow_right (by omega) (by omega)
    omega
section CS
variable {sh : gh_Sh} {M : gh_M} {q : Nat}
theorem Fj.tr {a : Nat} {M1 M2 : gh_M} (h : Fj a M M1) (k : Fj a M1 M2) : Fj a M M2 := ⟨fun x j => (k.1 x j).trans (h.1 x j), fun x j hx => (k.2.1 x j hx).trans (h.2.1 x j hx), fun x j => (k.2.2 x j).trans (h.2.2 x j)⟩
theorem s6_solve {post : gh_M → Prop} {e : Nat → Nat} {u t : Nat} {hl : List HnT} (L : LPl sh M q) (Lh : LHands sh M u) (Hh : handsIs M u hl) (hd : q + 4 < u) (ok : ∀ i, i < hl.length → hnOk (hl.getD i hn0)) (ht : t < 3) (he : ∀ p, p < 8 → rI M (q + 1) p = nI (e p)) (hb : ∀ p, e p ≤ 10) (hon : onesIs M q)
    (h : ∀ M' v, Fw q (q + 5) M M' → (∀ x j, rR M' x j = rR M x j) → onesIs M' q → rI M' q 4 = nI (mkM (fun p => decide (0 < e p)) 8) → rJ M' q 5 = lN v → OptV hl.length e (hKn hl t) (hHr hl) (hRt hl) hl.length (mkM (fun p => decide (0 < e p)) 8) v → post M') : wp_X6_solve sh M q u (nI t) post := by
  unfold wp_X6_solve
  refine ⟨L.1, s6_measure L he hb hon.2 (fun M1 f1 n1 l1 => ?_)⟩
  have hnd : mkM (fun p => decide (0 < e p)) 8 < 256 := mkM_lt _ 8
  generalize mkM (fun p => decide (0 < e p)) 8 = nd at n1 hnd h
  have o1 : ∀ x, x < 256 → rI M1 (q + 3) x = nI (onM x) := fun x hx => by rw [f1.1 _ _ (by omega) (by omega), hon.1 x hx, onesN_is x hx]
  have hh5 := Hh.1
  unfold wp_X6_solve_6
  refine for1 0 256 (by omega) (by omega) (fun i M2 => Fj (q + 4) M1 M2 ∧ ∀ x, x < i → rJ M2 (q + 4) x = lN (sumS x (fun p => 1099511627776 + 5 * 8 ^ (7 - p)))) ⟨Fj.rf _ _, fun x hx => by omega⟩ ?_ ?_
  · rintro i M2 k - hi ⟨hf, hv⟩ hk
    unfold wb_X6_solve_6 wp_J6_bitCount
    dsimp only
    have L2 := (L.fr f1.2.2).fr hf.2.2
    have s8 : sumS i (fun _ => 1) ≤ 8 * 1 := sumS_le8 (fun _ _ => Nat.le_refl 1)
    have onb := onM_le i hi
    refine ⟨fun c => absurd ((p_leI (a := 256) (by omega) (by omega)).mp c) (by omega), fun _ => ⟨L.1, _, L2.2.2.2.2.1, _, L2.2.2.2.1, L.k3, L.v3 hi, L.k4, L.v4 hi, hk _ ⟨hf.w _ _ _, fun x hx => ?_⟩⟩⟩
    rw [p_cl (by omega)]
    by_cases ex : x = i
    · subst ex
      rw [rJ_same, gh_bc_ok x hi, bc_is x hi, hf.1, o1 x hi, show (5 : Int32) = nI 5 from rfl, pk_mul, nI_l (by omega), nI_l (by omega), show (40 : Int32) = nI 40 from rfl, q_shl _ (by omega), lN_add, base_is]
    · rw [rJ_ne _ _ (Or.inr ex)]; exact hv x (by omega)
  rintro M2 k ⟨hf, hv⟩
  unfold wb_X6_solve_6
  dsimp only
  refine ⟨fun _ => ?_, fun c => absurd ((p_leI (a := 256) (by omega) (by omega)).mpr (Nat.le_refl _)) c⟩
  unfold wp_X6_solve_45
  refine for1 0 hl.length (by omega) (by omega) (fun j M3 => Fj (q + 4) M1 M3 ∧ ∃ B : Nat → Nat, ∀ x, subB x nd → rJ M3 (q + 4) x = lN (B x) ∧ OptV hl.length e (hKn hl t) (hHr hl) (hRt hl) j x (B x)) ⟨hf, _, fun x hx => ⟨hv x (by have := sub_le hx; omega), opt_0⟩⟩ ?_ ?_
  · rintro j M3 k2 - hj ⟨f3, B, hB⟩ hk2
    unfold wb_X6_solve_45 wp_X6_solve_77
    dsimp only
    have fw3 : Fw q (q + 5) M M3 := fun x y hx => ⟨(f3.1 x y).trans (f1.1 x y (by omega) (by omega)), (f3.2.1 x y (by omega)).trans (f1.2.1 x y), (f3.2.2 x y).trans (f1.2.2 x y)⟩
    have L3 := (L.fr f1.2.2).fr f3.2.2
    have Lh3 := Lh.fw fw3 (by omega)
    have Hh3 := Hh.fw fw3 (by omega)
    refine ⟨Lh.1, s2_count Lh3 Hh3 ⟨fun c => absurd ((p_leI (by omega) (by omega)).mp c) (by omega), fun _ => s2_knows hj ht Lh3 Hh3 ⟨fun c => ?_, fun c => s2_hoursOf hj Lh3 Hh3 (s2_rateOf hj Lh3 Hh3 ⟨L.1, ?_⟩)⟩⟩⟩
    · rw [b2i_0] at c
      exact hk2 _ ⟨f3, B, fun x hx => ⟨(hB x hx).1, opt_skip hj c (hB x hx).2⟩⟩
    rw [b2i_n0] at c
    obtain ⟨e1, e2⟩ := hHr_is (ok j hj)
    obtain ⟨e3, e4⟩ := hRt_is (ok j hj)
    rw [e1, e3]
    refine s6_giveTo (e := e) (B := B) (nd := nd) L3 hnd (by omega) e2 e4 (fun x hx => by have := opt_le (by omega) (hB x hx).2; omega) hb (by rw [f3.1]; exact n1) (fun x hx => by rw [f3.1]; exact l1 x hx) (fun x hx => by rw [f3.1]; exact o1 x hx) (fun x hx => (hB x hx).1) (fun M4 f4 v4 => hk2 _ ⟨f3.tr f4, ?_⟩)
    have ex : ∀ x, ∃ v, subB x nd → rJ M4 (q + 4) x = lN v ∧ NewV e (hHr hl j) (hRt hl j) j B x v := fun x => by
      by_cases hx : subB x nd
      · obtain ⟨v, hv⟩ := v4 x hx
        exact ⟨v, fun _ => hv⟩
      · exact ⟨0, fun z => absurd z hx⟩
    obtain ⟨F, hF⟩ := Classical.axiomOfChoice ex
    exact ⟨F, fun x hx => ⟨(hF x hx).1, opt_step hj c hx (fun y hy => (hB y hy).2) (hF x hx).2⟩⟩
  · rintro M3 k2 ⟨f3, B, hB⟩
    unfold wb_X6_solve_45
    dsimp only
    have fw3 : Fw q (q + 5) M M3 := fun x y hx => ⟨(f3.1 x y).trans (f1.1 x y (by omega) (by omega)), (f3.2.1 x y (by omega)).trans (f1.2.1 x y), (f3.2.2 x y).trans (f1.2.2 x y)⟩
    have L3 := (L.fr f1.2.2).fr f3.2.2
    have Lh3 := Lh.fw fw3 (by omega)
    have Hh3 := Hh.fw fw3 (by omega)
    have n3 : rI M3 q 4 = nI nd := by rw [f3.1]; exact n1
    refine ⟨Lh.1, s2_count Lh3 Hh3 ⟨fun _ => ⟨L.1, _, L3.2.2.2.2.1, L.k4, by rw [n3]; exact L.v4 hnd, ?_⟩, fun c => absurd ((p_leI (by omega) (by omega)).mpr (Nat.le_refl _)) c⟩⟩
    rw [n3, p_cl (by omega), (hB nd (fun _ z => z)).1]
    refine h _ (B nd) (fun x y hx => ⟨(fw3 x y hx).1, (rJ_ne _ _ (by omega)).trans (fw3 x y hx).2.1, (fw3 x y hx).2.2⟩) (fun x y => (f3.2.2 x y).trans (f1.2.2 x y)) ⟨fun x hx => ?_, ?_⟩ n3 (rJ_same _ _ _ _) (hB nd (fun _ z => z)).2
    · rw [rI_wJ, f3.1, o1 x hx, onesN_is x hx]
    · rw [rI_wJ, f3.1, l1 0 (by omega)]
      unfold ldM
      rw [sumS_0]; rfl
theorem s6_needing {post : Int32 → gh_M → Prop} {nd : Nat} (L : LPl sh M q) (hnd : nd < 256) (h4 : rI M q 4 = nI nd) (h : post (nI (sumS nd (fun _ => 1))) M) : wp_X6_needing sh M q post := by
  unfold wp_X6_needing wp_J6_bitCount
  rw [h4, gh_bc_ok nd hnd, bc_is nd hnd]
  exact ⟨L.1, h⟩
theorem s6_withHand {post : Int32 → gh_M → Prop} {nd v : Nat} (L : LPl sh M q) (hnd : nd < 256) (h4 : rI M q 4 = nI nd) (hv : v < 9223372036854775808) (h5 : rJ M q 5 = lN v) (hle : v / 1099511627776 ≤ sumS nd (fun _ => 1)) (h : post (nI (sumS nd (fun _ => 1) - v / 1099511627776)) M) : wp_X6_withHand sh M q post := by
  unfold wp_X6_withHand
  refine ⟨L.1, s6_needing L hnd h4 ?_⟩
  rw [h5, show (40 : Int32) = nI 40 from rfl, q_shr hv (by omega), lN_i, show (2 : Nat) ^ 40 = 1099511627776 from rfl, pk_sub hle]
  exact h
theorem s6_cost {post : Int32 → gh_M → Prop} {v : Nat} (L : LPl sh M q) (hv : v < 9223372036854775808) (h5 : rJ M q 5 = lN v) (h : post (nI (v / 16777216 % 65536)) M) : wp_X6_cost sh M q post := by
  unfold wp_X6_cost
  rw [h5, show (24 : Int32) = nI 24 from rfl, q_shr hv (by omega), lN_i, show (2 : Nat) ^ 24 = 16777216 from rfl, q_and _ 16 (by omega) (by decide)]
  exact ⟨L.1, h⟩
theorem s6_handOf {post : Int32 → gh_M → Prop} {nd v p : Nat} (L : LPl sh M q) (hp : p < 8) (hnd : nd < 256) (h4 : rI M q 4 = nI nd) (hv : v < 9223372036854775808) (h5 : rJ M q 5 = lN v) (h0 : nd.testBit p = false → post (-5) M) (h1 : nd.testBit p = true → v / 8 ^ (7 - p) % 8 = 5 → post (-5) M) (h2 : nd.testBit p = true → ¬ v / 8 ^ (7 - p) % 8 = 5 → post (nI (v / 8 ^ (7 - p) % 8)) M) : wp_X6_handOf sh M q (nI p) post := by
  unfold wp_X6_handOf wp_X6_shiftOf
  have e1 : (3 : Int32) * ((7 : Int32) - nI p) = nI (3 * (7 - p)) := by
    rw [show (7 : Int32) - nI p = nI (7 - p) from pk_sub (a := 7) (by omega)]
    exact pk_mul 3 _
  dsimp only
  rw [e1, h4, h5, q_shr hv (by omega), lN_i, q_and (m := 7) _ 3 (by omega) (by decide), Nat.pow_mul]
  have hm : v / (2 ^ 3) ^ (7 - p) % 2 ^ 3 < 8 := Nat.mod_lt _ (by decide)
  refine ⟨fun c => absurd c (nI_pos (by omega)), fun _ => ⟨fun c => absurd ((p_leI (a := 8) (by omega) (by omega)).mp c) (by omega), fun _ => ⟨L.1, fun c => h0 ((i_bit0 nd hnd p hp).mp c), fun c => ?_⟩⟩⟩
  have hb : nd.testBit p = true := by
    cases hz : nd.testBit p with
    | true => rfl
    | false => exact absurd ((i_bit0 nd hnd p hp).mpr hz) c
  refine ⟨fun c2 => h1 hb ?_, fun c2 => h2 hb fun z => c2 ?_⟩
  · exact (p_eqI (b := 5) (by omega) (by omega)).mp c2
  · exact congrArg nI z
end CS
section KeyV
variable {s h : Nat} {e : Nat → Nat} {K : Nat → Prop} {hr rt c : Nat → Nat}
theorem key_parts (hs : s ≤ 8) (hh : h ≤ 5) (he0 : ∀ q, s ≤ q → e q = 0) (he : ∀ q, e q ≤ 10) (hrt : ∀ j, j < h → rt j ≤ 9) (vc : ∀ q, q < s → c q < h → 0 < e q) : keyP h e rt c s / 1099511627776 = leftP h e c s ∧ keyP h e rt c s / 16777216 % 65536 = cstP h e rt c s ∧ ∀ p, p < 8 → keyP h e rt c s / 8 ^ (7 - p) % 8 = dgP h e c p := by
  rw [keyP_split s vc, digs_horn hs he0]
  have k1 := cst_small (c := c) hs he hrt
  have d1 : horn (dgP h e c) 8 < 16777216 := horn_lt 8 (fun q _ => dgP_lt hh q)
  refine ⟨by omega, by omega, fun p hp => ?_⟩
  rw [← horn_digit (d := dgP h e c) (fun i _ => dgP_lt hh i) hp]
  have e8 : (16777216 : Nat) = 8 ^ (7 - p) * (8 * 8 ^ p) := by
    have : (16777216 : Nat) = 8 ^ (7 - p + (1 + p)) := by rw [show 7 - p + (1 + p) = 8 by omega]
    rw [this, Nat.pow_add, Nat.pow_add, Nat.pow_one]
  have e9 : leftP h e c s * 1099511627776 + cstP h e rt c s * 16777216 + horn (dgP h e c) 8 = 8 ^ (7 - p) * (8 * (8 ^ p * (leftP h e c s * 65536 + cstP h e rt c s))) + horn (dgP h e c) 8 := by
    have : leftP h e c s * 1099511627776 + cstP h e rt c s * 16777216 = 16777216 * (leftP h e c s * 65536 + cstP h e rt c s) := by omega
    rw [this, e8, Nat.mul_assoc, Nat.mul_assoc]
  rw [e9, Nat.mul_add_div (Nat.pow_pos (by omega)), Nat.mul_add_mod]
theorem need_is (hs : s ≤ 8) (he0 : ∀ q, s ≤ q → e q = 0) : sumS (mkM (fun p => decide (0 < e p)) 8) (fun _ => 1) = needP e s := by
  have : needP e 8 = needP e s := sumN_ext0 (fun q hq => if_pos (he0 q hq)) 8 hs
  rw [← this]
  unfold sumS needP
  refine sumN_congr 8 (fun p hp => ?_)
  rw [mkM_bit]
  by_cases z : e p = 0
  · rw [if_pos z, if_neg (by simp [z])]
  · rw [if_neg z, if_pos (by simp [hp]; omega)]
end KeyV
noncomputable def effN (a : AbS) (t p : Nat) : Nat := if p < (aS a).length then (effA a p t).toNatClampNeg else 0
theorem effA_le {a : AbS} {t p : Nat} (hl : (pcAt a p).2.1.length ≤ 10) : ∃ n, n ≤ 10 ∧ effA a p t = nI n := by
  unfold effA
  by_cases c : ¬ (pcAt a p).1 = 1 ∧ ¬ (txAt a p t).1 = 2
  · rw [iteP_t c]
    unfold effD
    split
    · exact ⟨_, hl, rfl⟩
    · split
      · exact ⟨1, by omega, rfl⟩
      · split
        · exact ⟨2, by omega, rfl⟩
        · exact ⟨_, hl, rfl⟩
  · rw [iteP_f c]; exact ⟨0, by omega, rfl⟩
theorem effN_is {a : AbS} {t p : Nat} (hp : p < (aS a).length) (hl : (pcAt a p).2.1.length ≤ 10) : effA a p t = nI (effN a t p) ∧ effN a t p ≤ 10 := by
  obtain ⟨n, h1, h2⟩ := effA_le (t := t) hl
  unfold effN
  rw [if_pos hp, h2, p_cl (by omega)]
  exact ⟨rfl, h1⟩
theorem effN_0 {a : AbS} {t p : Nat} (hp : (aS a).length ≤ p) : effN a t p = 0 := if_neg (by omega)
theorem effN_le {a : AbS} (hl : ∀ i, i < (aS a).length → (pcAt a i).2.1.length ≤ 10) (t p : Nat) : effN a t p ≤ 10 := by
  by_cases hp : p < (aS a).length
  · exact (effN_is hp (hl p hp)).2
  · rw [effN_0 (by omega)]; omega
/-- THE PLAN -/
noncomputable def plC (a : AbS) (t : Nat) : Nat → Nat := Classical.choose (opt_exists (s := (aS a).length) (h := (aH a).length) (e := effN a t) (K := hKn (aH a) t) (hr := hHr (aH a)) (rt := hRt (aH a)))
theorem plC_ok (a : AbS) (t : Nat) : optP (aS a).length (aH a).length (effN a t) (hKn (aH a) t) (hHr (aH a)) (hRt (aH a)) (plC a t) := Classical.choose_spec (opt_exists (s := (aS a).length) (h := (aH a).length) (e := effN a t) (K := hKn (aH a) t) (hr := hHr (aH a)) (rt := hRt (aH a)))
noncomputable def opPlan (a : AbS) (t p : Int32) : Int32 × AbS := (match p_ix 3 t, p_ix (aS a).length p with
  | some t', some i => if plC a t' i < (aH a).length then nI (plC a t' i) else -5
  | _, _ => -1, a)
noncomputable def opPlanned (a : AbS) (t w : Int32) : Int32 × AbS := (match p_ix 3 t with
  | some t' => iteP (inR w 0 2) (if w = 0 then nI (cntP (aH a).length (plC a t') (aS a).length) else if w = 1 then nI (cstP (aH a).length (effN a t') (hRt (aH a)) (plC a t') (aS a).length) else nI (needP (effN a t') (aS a).length)) (-1)
  | none => -1, a)
theorem p_ix_ge {n i : Nat} (h : n ≤ i) (hi : i < 2147483648) : p_ix n (nI i) = none := by
  unfold p_ix
  rw [p_ti hi, if_neg (by omega)]
section CLP
variable {sh : gh_Sh} {g : Nat} {a : AbS} {M : gh_M}
theorem sX_makePlan {sb nb : Nat} {σ τ : Nat → Nat} {t : Nat} {post : gh_M → Prop} (L : LCl sh M g sb nb σ τ) (D : RCd M g sb nb σ τ a) (ok : ∀ i, i < (aH a).length → hnOk (hnAt a i)) (ht : t < 3)
    (h : ∀ M' v, LCl sh M' g sb nb σ τ → RCd M' g sb nb σ τ a → Fw g (g + 544) M M' → rI M' (g + 8) 4 = nI (mkM (fun p => decide (0 < effN a t p)) 8) → rJ M' (g + 8) 5 = lN v → OptV (aH a).length (effN a t) (hKn (aH a) t) (hHr (aH a)) (hRt (aH a)) (aH a).length (mkM (fun p => decide (0 < effN a t p)) 8) v → post M') : wp_X11_makePlan sh M g (nI t) post := by
  unfold wp_X11_makePlan wp_X11_makePlan_2
  have hs := D.2.1.1
  have hl10 : ∀ i, i < (aS a).length → (pcAt a i).2.1.length ≤ 10 := fun i hi => (D.2.1.2.2 i hi).2.1.1
  refine for1 0 8 (by omega) (by omega) (fun i M1 => LCl sh M1 g sb nb σ τ ∧ RCd M1 g sb nb σ τ a ∧ Fw g (g + 544) M M1 ∧ ∀ p, p < i → rI M1 (g + 8 + 1) p = nI (effN a t p)) ⟨L, D, Fw.rf _ _ _, fun p hp => by omega⟩ ?_ ?_
  · rintro i M1 k - hi ⟨L1, D1, f1, e1⟩ hk
    unfold wb_X11_makePlan_2 wp_X11_makePlan_36
    dsimp only
    have fin : ∀ M2, LCl sh M2 g sb nb σ τ → RCd M2 g sb nb σ τ a → Fw g (g + 544) M M2 → (∀ p, p < i → rI M2 (g + 8 + 1) p = nI (effN a t p)) → wp_X6_setEffort sh M2 (g + 8) (nI i) (nI (effN a t i)) (fun M3 => k (nI i + 1, M3)) := fun M2 L2 D2 f2 e2 => by
      refine s6_setEffort L2.2.2.2.2.1 hi (hk _ ?_)
      have f3 : Fr (g + 8 + 1) (g + 8 + 2) M2 (wI M2 (g + 8 + 1) i (nI (effN a t i))) := Fr.w (by omega) (by omega)
      obtain ⟨L3, D3⟩ := RC.work L2 D2 f3.fw f3.2.2 (by omega) (by omega) (Or.inl (by omega))
      refine ⟨L3, D3, Fw.tr f2 f3.fw (by omega) (by omega) (by omega) (by omega), fun p hp => ?_⟩
      by_cases ep : p = i
      · subst ep; exact rI_same _ _ _ _
      · rw [rI_ne _ _ (Or.inr ep)]; exact e2 p (by omega)
    refine ⟨fun c => absurd ((p_leI (a := 8) (by omega) (by omega)).mp c) (by omega), fun _ => ⟨L.1.1, _, L1.e9, L1.sb.1, s0_at L1.sb D1.2.1 ⟨_, L1.1.2.2.2.2.1, ?_⟩⟩⟩
    by_cases hx : i < (aS a).length
    · rw [p_ix_nI hx (by omega)]
      refine ⟨fun c => (by cases c), fun x c => ?_⟩
      cases c
      refine sX_effort L1 D1 hx ht (fun M2 f2 => ⟨L1.2.2.2.2.1.1, ?_⟩)
      rw [(effN_is hx (hl10 i hx)).1]
      obtain ⟨L2, D2⟩ := RC.ruler L1 D1 f2
      exact fin M2 L2 D2 (Fw.tr f1 f2.fw (by omega) (by omega) (by omega) (by omega)) (fun p hp => (f2.I (by omega) _).trans (e1 p hp))
    · rw [p_ix_ge (by omega) (by omega)]
      refine ⟨fun _ => ⟨L1.2.2.2.2.1.1, ?_⟩, fun x c => (by cases c)⟩
      have := fin M1 L1 D1 f1 e1
      rw [effN_0 (by omega)] at this
      exact this
  · rintro M1 k ⟨L1, D1, f1, e1⟩
    unfold wb_X11_makePlan_2
    dsimp only
    refine ⟨fun _ => ⟨L.1.1, _, L1.1.2.2.2.2.1, _, L1.1.2.2.2.2.2.1, L1.2.2.2.2.1.1, s6_solve L1.2.2.2.2.1 L1.2.2.2.2.2.1 D1.2.2.2.1 (by omega) ok ht e1 (effN_le hl10 t) D1.2.2.2.2.2.2.2.2 (fun M2 v f2 r2 o2 n2 v2 p2 => ?_)⟩, fun c => absurd ((p_leI (a := 8) (by omega) (by omega)).mpr (Nat.le_refl _)) c⟩
    obtain ⟨L2, D2⟩ := RC.work L1 D1 f2 r2 (by omega) (by omega) (Or.inr (Or.inr o2))
    exact h M2 v L2 D2 (Fw.tr f1 f2 (by omega) (by omega) (by omega) (by omega)) n2 v2 p2
theorem cl_plan (h : RC sh g a M) (ok : ∀ i, i < (aH a).length → hnOk (hnAt a i)) (t p : Int32) : wp_X11_plan sh M g t p (QC sh g M (opPlan a t p)) := by
  have hR := h
  obtain ⟨sb, nb, σ, τ, L, D⟩ := h
  unfold wp_X11_plan opPlan
  have hs := D.2.1.1
  have hh := D.2.2.2.1.1
  have hl10 : ∀ i, i < (aS a).length → (pcAt a i).2.1.length ≤ 10 := fun i hi => (D.2.1.2.2 i hi).2.1.1
  refine s11_isTongue ⟨fun c => ?_, fun c => ?_⟩
  · rw [b2i_0] at c
    cases hy : p_ix 3 t with
    | none => exact QC.same hR
    | some t' => obtain ⟨h1, rfl⟩ := p_ix_some hy (by decide); exact absurd (isT_nI h1) c
  rw [b2i_n0] at c
  obtain ⟨t', ht', rfl⟩ : ∃ t', t' < 3 ∧ t = nI t' := (isT_ix t).resolve_left (fun z => z c)
  rw [p_ix_nI ht' (by decide)]
  refine ⟨L.1.1, _, L.e9, L.sb.1, s0_at L.sb D.2.1 ?_⟩
  cases hx : p_ix (aS a).length p with
  | none => exact ⟨fun _ => QC.same hR, fun q c => by cases c⟩
  | some i =>
    obtain ⟨hi, rfl⟩ := p_ix_some hx (by omega)
    refine ⟨fun c => (by cases c), fun q c => ?_⟩
    cases c
    refine sX_makePlan L D ok ht' (fun M1 v L1 D1 f1 n1 v1 p1 => ⟨_, L1.1.2.2.2.2.1, L1.2.2.2.2.1.1, ?_⟩)
    have hv := opt_final (e := effN a t') hs (fun q hq => effN_0 hq) (plC_ok a t') p1
    have hvb := opt_le (Nat.le_refl _) p1
    have vc := fun q hq => (((plC_ok a t').1.1 q hq).2 · |>.1)
    have kd := (key_parts (e := effN a t') (c := plC a t') hs hh (fun q hq => effN_0 hq) (effN_le hl10 t') (fun j hj => (hRt_is (ok j hj)).2) vc).2.2 i (by omega)
    rw [← hv] at kd
    have nb' : (mkM (fun p => decide (0 < effN a t' p)) 8).testBit i = decide (0 < effN a t' i) := by rw [mkM_bit, decide_eq_true (show i < 8 by omega)]; rfl
    have vi := vc i hi
    refine s6_handOf L1.2.2.2.2.1 (by omega) (mkM_lt _ 8) n1 (by omega) v1 (fun z => ?_) (fun z z2 => ?_) (fun z z2 => ?_)
    · rw [nb'] at z
      have z' := of_decide_eq_false z
      have : ¬ plC a t' i < (aH a).length := fun w => z' (vi w)
      dsimp only
      rw [if_neg this]
      exact ⟨rfl, ⟨sb, nb, σ, τ, L1, D1⟩, f1⟩
    · rw [kd] at z2
      unfold dgP at z2
      have : ¬ plC a t' i < (aH a).length := fun w => by
        have := vi w
        rw [if_neg (by omega), if_pos w] at z2
        omega
      dsimp only
      rw [if_neg this]
      exact ⟨rfl, ⟨sb, nb, σ, τ, L1, D1⟩, f1⟩
    · rw [nb'] at z
      have z' := of_decide_eq_true z
      rw [kd] at z2 ⊢
      unfold dgP at z2 ⊢
      rw [if_neg (by omega)] at z2 ⊢
      have : plC a t' i < (aH a).length := Classical.byContradiction fun w => z2 (if_neg w)
      dsimp only
      rw [if_pos this, if_pos this]
      exact ⟨rfl, ⟨sb, nb, σ, τ, L1, D1⟩, f1⟩
theorem cl_planned (h : RC sh g a M) (ok : ∀ i, i < (aH a).length → hnOk (hnAt a i)) (t w : Int32) : wp_X11_planned sh M g t w (QC sh g M (opPlanned a t w)) := by
  have hR := h
  obtain ⟨sb, nb, σ, τ, L, D⟩ := h
  unfold wp_X11_planned opPlanned
  have hs := D.2.1.1
  have hh := D.2.2.2.1.1
  have hl10 : ∀ i, i < (aS a).length → (pcAt a i).2.1.length ≤ 10 := fun i hi => (D.2.1.2.2 i hi).2.1.1
  refine s11_isTongue ⟨fun c => ?_, fun c => ?_⟩
  · rw [b2i_0] at c
    cases hy : p_ix 3 t with
    | none => exact QC.same hR
    | some t' => obtain ⟨h1, rfl⟩ := p_ix_some hy (by decide); exact absurd (isT_nI h1) c
  rw [b2i_n0] at c
  obtain ⟨t', ht', rfl⟩ : ∃ t', t' < 3 ∧ t = nI t' := (isT_ix t).resolve_left (fun z => z c)
  rw [p_ix_nI ht' (by decide)]
  refine s11_isIn ⟨fun c2 => ?_, fun c2 => ⟨L.1.1, ?_⟩⟩
  · rw [b2i_0] at c2
    dsimp only
    rw [iteP_f (show ¬ inR w 0 2 from c2)]; exact QC.same hR
  rw [b2i_n0] at c2
  dsimp only
  rw [iteP_t (show inR w 0 2 from c2)]
  refine sX_makePlan L D ok ht' (fun M1 v L1 D1 f1 n1 v1 p1 => ?_)
  have hv := opt_final (e := effN a t') hs (fun q hq => effN_0 hq) (plC_ok a t') p1
  have hvb := opt_le (Nat.le_refl _) p1
  have vc := fun q hq => (((plC_ok a t').1.1 q hq).2 · |>.1)
  have kd := key_parts (e := effN a t') (c := plC a t') hs hh (fun q hq => effN_0 hq) (effN_le hl10 t') (fun j hj => (hRt_is (ok j hj)).2) vc
  rw [← hv] at kd
  have nn := need_is (s := (aS a).length) (e := effN a t') hs (fun q hq => effN_0 hq)
  have lc := left_cnt (aS a).length vc
  refine ⟨fun c3 => ⟨_, L1.1.2.2.2.2.1, L1.2.2.2.2.1.1, s6_withHand L1.2.2.2.2.1 (mkM_lt _ 8) n1 (by omega) v1 (by rw [nn, kd.1]; omega) ?_⟩, fun c3 => ⟨fun c4 => ⟨_, L1.1.2.2.2.2.1, L1.2.2.2.2.1.1, s6_cost L1.2.2.2.2.1 (by omega) v1 ?_⟩, fun c4 => ⟨_, L1.1.2.2.2.2.1, L1.2.2.2.2.1.1, s6_needing L1.2.2.2.2.1 (mkM_lt _ 8) n1 ?_⟩⟩⟩
  · rw [if_pos c3, nn, kd.1, show needP (effN a t') (aS a).length - leftP (aH a).length (effN a t') (plC a t') (aS a).length = cntP (aH a).length (plC a t') (aS a).length by omega]
    exact ⟨rfl, ⟨sb, nb, σ, τ, L1, D1⟩, f1⟩
  · rw [if_neg c3, if_pos c4, kd.2.1]
    exact ⟨rfl, ⟨sb, nb, σ, τ, L1, D1⟩, f1⟩
  · rw [if_neg c3, if_neg c4, nn]
    exact ⟨rfl, ⟨sb, nb, σ, τ, L1, D1⟩, f1⟩
end CLP
