/-! THE PLAN of the reference: what its search needs -/
theorem horn_pre {f : Nat → Nat} {s n : Nat} (h : ∀ q, q < s → f q < 8) (hn : n ≤ s) : horn f s / 8 ^ (s - n) = horn f n := by
  rw [horn_div h (s - n) (by omega), show s - (s - n) = n by omega]
theorem horn_mono {f b : Nat → Nat} {s n : Nat} (hf : ∀ q, q < s → f q < 8) (hb : ∀ q, q < s → b q < 8) (hn : n ≤ s) (h : horn f s ≤ horn b s) : horn f n ≤ horn b n := by
  rw [← horn_pre hf hn, ← horn_pre hb hn]
  exact Nat.div_le_div_right h
theorem horn_eq {f b : Nat → Nat} : ∀ n, (∀ q, q < n → f q < 8) → (∀ q, q < n → b q < 8) → horn f n = horn b n → ∀ q, q < n → f q = b q
  | 0, _, _, _, q, hq => by omega
  | n + 1, hf, hb, h, q, hq => by
    have h1 := hf n (by omega)
    have h2 := hb n (by omega)
    have h3 : 8 * horn f n + f n = 8 * horn b n + b n := h
    by_cases e : q = n
    · subst e; omega
    · exact horn_eq n (fun q hq => hf q (by omega)) (fun q hq => hb q (by omega)) (by omega) q (by omega)
theorem horn_congr {f b : Nat → Nat} : ∀ n, (∀ q, q < n → f q = b q) → horn f n = horn b n
  | 0, _ => rfl
  | n + 1, h => by
    show 8 * horn f n + f n = 8 * horn b n + b n
    rw [horn_congr n (fun q hq => h q (by omega)), h n (by omega)]
theorem horn_lex {f b : Nat → Nat} : ∀ n, (∀ q, q < n → f q < 8) → (∀ q, q < n → b q < 8) → horn b n ≤ horn f n → (∀ q, q < n → b q = f q) ∨ ∃ q, q < n ∧ (∀ i, i < q → b i = f i) ∧ b q < f q
  | 0, _, _, _ => Or.inl fun q hq => by omega
  | n + 1, hf, hb, h => by
    have h1 := hf n (by omega)
    have h2 := hb n (by omega)
    have h3 : 8 * horn b n + b n ≤ 8 * horn f n + f n := h
    rcases horn_lex n (fun q hq => hf q (by omega)) (fun q hq => hb q (by omega)) (by omega) with h4 | ⟨q, h4, h5, h6⟩
    · have h5 := horn_congr n h4
      by_cases e : b n = f n
      · refine Or.inl fun q hq => ?_
        by_cases e2 : q = n
        · subst e2; exact e
        · exact h4 q (by omega)
      · exact Or.inr ⟨n, by omega, h4, by omega⟩
    · exact Or.inr ⟨q, by omega, h5, h6⟩
theorem sumN_mono {f : Nat → Nat} {n : Nat} : ∀ k, n ≤ k → sumN f n ≤ sumN f k
  | 0, h => by rw [show n = 0 by omega]; exact Nat.le_refl _
  | k + 1, h => by
    by_cases e : n = k + 1
    · subst e; exact Nat.le_refl _
    · have := sumN_mono (f := f) (n := n) k (by omega)
      show sumN f n ≤ sumN f k + f k
      omega
/-- a sum from a on -/
def sumR (f : Nat → Nat) (a n : Nat) : Nat := sumN (fun i => if a ≤ i then f i else 0) n
theorem sumR_0 {f : Nat → Nat} {a : Nat} : sumR f a a = 0 := by
  unfold sumR
  rw [sumN_congr (g := fun _ => 0) a (fun q hq => if_neg (by omega))]
  exact sumN_zero (fun _ => rfl) a
theorem sumR_s {f : Nat → Nat} {a n : Nat} (h : a ≤ n) : sumR f a (n + 1) = sumR f a n + f n := by
  show sumN (fun i => if a ≤ i then f i else 0) n + (if a ≤ n then f n else 0) = _
  rw [if_pos h]; rfl
theorem sumR_le {f : Nat → Nat} {a n B : Nat} (h : ∀ q, q < n → f q ≤ B) : sumR f a n ≤ n * B := sumN_bound n (fun q hq => by
  split
  · exact h q hq
  · exact Nat.zero_le _)
section Dfs
variable (s h : Nat) (e : Nat → Nat) (K : Nat → Prop) (hr rt : Nat → Nat)
def fitP (p j u : Nat) : Prop := 0 < e p ∧ K j ∧ e p ≤ u
/-- what is known of the cheapest of a PIECE -/
def chk (p n : Nat) (v : Int32) : Prop := (v = -1 ∧ ∀ j, j < n → ¬ fitP e K p j (hr j)) ∨ ∃ x, x ≤ 90 ∧ v = nI x ∧ ∀ j, j < n → fitP e K p j (hr j) → x ≤ e p * rt j
def muV (v : Int32) : Nat := if v < 0 then 0 else 1
def laV (v : Int32) : Nat := if v < 0 then 0 else v.toNatClampNeg
/-- b is no worse than f -/
def BL (b f : Nat → Nat) : Prop := cntP h f s < cntP h b s ∨ (cntP h f s = cntP h b s ∧ (cstP h e rt b s < cstP h e rt f s ∨ (cstP h e rt b s = cstP h e rt f s ∧ horn b s ≤ horn f s)))
variable {s h e K hr rt}
theorem PV.lt8 {f : Nat → Nat} {n : Nat} (hh : h ≤ 5) (hf : PV h e K hr f n) : ∀ q, q < n → f q < 8 := fun q hq => by
  have := (hf.1 q hq).1
  omega
theorem PV.down {f : Nat → Nat} {n k : Nat} (hf : PV h e K hr f n) (hk : k ≤ n) : PV h e K hr f k := ⟨fun q hq => hf.1 q (by omega), fun j hj => Nat.le_trans (sumN_mono n hk) (hf.2 j hj)⟩
theorem PV.up {f : Nat → Nat} {n : Nat} (hf : PV h e K hr f n) (hn : f n = h ∨ (f n < h ∧ fitP e K n (f n) (hr (f n) - usedP e f (f n) n))) : PV h e K hr f (n + 1) := by
  refine ⟨fun q hq => ?_, fun j hj => ?_⟩
  · by_cases eq : q = n
    · subst eq
      rcases hn with hn | hn
      · exact ⟨by omega, fun w => by omega⟩
      · exact ⟨by omega, fun _ => ⟨hn.2.1, hn.2.2.1⟩⟩
    · exact hf.1 q (by omega)
  · show usedP e f j n + (if f n = j then e n else 0) ≤ hr j
    have h2 := hf.2 j hj
    by_cases ej : f n = j
    · rw [if_pos ej]
      rcases hn with hn | hn
      · omega
      · have := hn.2.2.2
        rw [ej] at this
        have h3 := hn.2.1
        omega
    · rw [if_neg ej]; exact h2
theorem PV.ext {f g : Nat → Nat} {n : Nat} (hf : PV h e K hr f n) (hg : ∀ q, q < n → g q = f q) : PV h e K hr g n := ⟨fun q hq => by rw [hg q hq]; exact hf.1 q hq, fun j hj => by
  have : usedP e g j n = usedP e f j n := sumN_congr n (fun q hq => by rw [hg q hq])
  rw [this]; exact hf.2 j hj⟩
theorem cntP_ext {f g : Nat → Nat} {n : Nat} (hg : ∀ q, q < n → g q = f q) : cntP h g n = cntP h f n := sumN_congr n (fun q hq => by rw [hg q hq])
theorem cstP_ext {f g : Nat → Nat} {n : Nat} (hg : ∀ q, q < n → g q = f q) : cstP h e rt g n = cstP h e rt f n := sumN_congr n (fun q hq => by rw [hg q hq])
theorem usedP_ext {f g : Nat → Nat} {j n : Nat} (hg : ∀ q, q < n → g q = f q) : usedP e g j n = usedP e f j n := sumN_congr n (fun q hq => by rw [hg q hq])
/-- a plan's HAND fits behind what went before -/
theorem PV.fit {f x : Nat → Nat} {n : Nat} (hf : PV h e K hr f s) (hn : n < s) (hx : ∀ i, i < n → f i = x i) (hj : f n < h) : fitP e K n (f n) (hr (f n) - usedP e x (f n) n) := by
  obtain ⟨h1, h2⟩ := (hf.1 n hn).2 hj
  refine ⟨h1, h2, ?_⟩
  have h3 := (hf.down (k := n + 1) (by omega)).2 (f n) hj
  have h4 : usedP e f (f n) n + (if f n = f n then e n else 0) ≤ hr (f n) := h3
  rw [if_pos rfl, usedP_ext (e := e) (f := x) hx] at h4
  omega
/-- how good what begins as x can be -/
theorem can_be {f x : Nat → Nat} {at0 : Nat} {c : Nat → Int32} (hf : PV h e K hr f s) (hx : ∀ i, i < at0 → f i = x i) (hc : ∀ p, p < s → chk e K hr rt p h (c p)) : ∀ n, at0 ≤ n → n ≤ s → cntP h f n ≤ cntP h x at0 + sumR (fun p => muV (c p)) at0 n ∧ (cntP h f n = cntP h x at0 + sumR (fun p => muV (c p)) at0 n → cstP h e rt x at0 + sumR (fun p => laV (c p)) at0 n ≤ cstP h e rt f n) := by
  intro n
  induction n with
  | zero =>
    intro h1 h2
    have : at0 = 0 := by omega
    subst this
    rw [sumR_0, sumR_0]
    exact ⟨Nat.zero_le _, fun _ => Nat.zero_le _⟩
  | succ n ih =>
    intro h1 h2
    by_cases eq : at0 = n + 1
    · subst eq
      rw [sumR_0, sumR_0, cntP_ext hx, cstP_ext hx]
      exact ⟨Nat.le_refl _, fun _ => Nat.le_refl _⟩
    · obtain ⟨i1, i2⟩ := ih (by omega) (by omega)
      rw [sumR_s (by omega), sumR_s (by omega)]
      have c1 : cntP h f (n + 1) = cntP h f n + (if f n < h then 1 else 0) := rfl
      have c2 : cstP h e rt f (n + 1) = cstP h e rt f n + (if f n < h then e n * rt (f n) else 0) := rfl
      rw [c1, c2]
      by_cases w : f n < h
      · have ft := hf.fit (x := f) (n := n) (by omega) (fun _ _ => rfl) w
        have ft2 : fitP e K n (f n) (hr (f n)) := ⟨ft.1, ft.2.1, Nat.le_trans ft.2.2 (Nat.sub_le _ _)⟩
        rw [if_pos w, if_pos w]
        rcases hc n (by omega) with ⟨hv, hno⟩ | ⟨x, hx90, hv, hle⟩
        · exact absurd ft2 (hno (f n) w)
        · have := hle (f n) w ft2
          have m1 : muV (c n) = 1 := by rw [hv]; unfold muV; rw [if_neg (nI_pos (by omega))]
          have l1 : laV (c n) = x := by rw [hv]; unfold laV; rw [if_neg (nI_pos (by omega)), p_cl (by omega)]
          rw [m1, l1]
          exact ⟨by omega, fun z => by have := i2 (by omega); omega⟩
      · rw [if_neg w, if_neg w]
        by_cases hv : c n < 0
        · have m1 : muV (c n) = 0 := if_pos hv
          have l1 : laV (c n) = 0 := if_pos hv
          rw [m1, l1]
          exact ⟨by omega, fun z => by have := i2 (by omega); omega⟩
        · have m1 : muV (c n) = 1 := if_neg hv
          rw [m1]
          exact ⟨by omega, fun z => by omega⟩
/-- of what is told as best so far, and of all that stand ahead of c among the first n -/
def Bst (s h : Nat) (e : Nat → Nat) (K : Nat → Prop) (hr rt : Nat → Nat) (m c n : Nat) (M : gh_M) : Prop := (rI M m 48 = -1 ∧ rI M m 49 = 0 ∧ ∀ f, PV h e K hr f s → ¬ horn f n < c) ∨ ∃ b, PV h e K hr b s ∧ horn b n < c ∧ rI M m 48 = nI (cntP h b s) ∧ rI M m 49 = nI (cstP h e rt b s) ∧ (∀ q, q < s → rI M (m + 38) q = nI (b q)) ∧ ∀ f, PV h e K hr f s → horn f n < c → BL s h e rt b f
theorem Bst.ch {m c n : Nat} {M M' : gh_M} (b : Bst s h e K hr rt m c n M) (h1 : rI M' m 48 = rI M m 48) (h2 : rI M' m 49 = rI M m 49) (h3 : ∀ q, q < s → rI M' (m + 38) q = rI M (m + 38) q) : Bst s h e K hr rt m c n M' := by
  unfold Bst
  rw [h1, h2]
  rcases b with b | ⟨b, b1, b2, b3, b4, b5, b6⟩
  · exact Or.inl b
  · exact Or.inr ⟨b, b1, b2, b3, b4, fun q hq => (h3 q hq).trans (b5 q hq), b6⟩
/-- nothing that is a plan stands between -/
theorem Bst.skip {m c n c' n' : Nat} {M : gh_M} (b : Bst s h e K hr rt m c n M) (h1 : ∀ f, PV h e K hr f s → (horn f n' < c' ↔ horn f n < c)) : Bst s h e K hr rt m c' n' M := by
  rcases b with ⟨b1, b2, b3⟩ | ⟨b, b1, b2, b3, b4, b5, b6⟩
  · exact Or.inl ⟨b1, b2, fun f hf z => b3 f hf ((h1 f hf).mp z)⟩
  · exact Or.inr ⟨b, b1, (h1 b b1).mpr b2, b3, b4, b5, fun f hf z => b6 f hf ((h1 f hf).mp z)⟩
/-- nothing better stands between -/
theorem Bst.prune {m at0 d bc most least : Nat} {x : Nat → Nat} {M : gh_M} {bm : Nat} {c : Nat → Int32} (hh : h ≤ 5) (hs : s ≤ 8) (hat : at0 < s) (hd : d ≤ 8) (hx8 : ∀ i, i < at0 → x i < 8) (b : Bst s h e K hr rt m (8 * horn x at0 + d) (at0 + 1) M) (hbm : rI M m 48 = nI bm) (hbc : rI M m 49 = nI bc) (hbm8 : bm ≤ 8) (hbc9 : bc ≤ 1000) (hcs : ∀ f, cstP h e rt f s ≤ 720)
    (hc : ∀ p, p < s → chk e K hr rt p h (c p)) (hm : most = cntP h x at0 + sumR (fun p => muV (c p)) at0 s) (hl : least = cstP h e rt x at0 + sumR (fun p => laV (c p)) at0 s) (hle : most < bm ∨ (most = bm ∧ bc ≤ least)) : Bst s h e K hr rt m (horn x at0 + 1) at0 M := by
  rcases b with ⟨b1, b2, b3⟩ | ⟨b, b1, b2, b3, b4, b5, b6⟩
  · rw [hbm] at b1
    have := congrArg Int32.toInt b1
    rw [p_ti (by omega)] at this
    exact absurd this (by show ¬ (bm : Int) = -1; omega)
  have cb : cntP h b s ≤ s * 1 := sumN_bound s (fun q hq => by split <;> omega)
  have eb : bm = cntP h b s := by rw [b3] at hbm; exact ((p_eqI (by omega) (by omega)).mp hbm).symm
  have ec : bc = cstP h e rt b s := by
    have := hcs b
    rw [b4] at hbc; exact ((p_eqI (by omega) (by omega)).mp hbc).symm
  have bb : 8 * horn b at0 + b at0 < 8 * horn x at0 + d := b2
  refine Or.inr ⟨b, b1, by omega, b3, b4, b5, fun f hf hlt => ?_⟩
  by_cases dn : horn f (at0 + 1) < 8 * horn x at0 + d
  · exact b6 f hf dn
  have f8 := hf.lt8 hh
  have fa := f8 at0 hat
  have dn' : ¬ 8 * horn f at0 + f at0 < 8 * horn x at0 + d := dn
  have e1 : horn f at0 = horn x at0 := by
    have : horn x at0 ≤ horn f at0 := by
      apply Classical.byContradiction
      intro z
      -- then f stands ahead already, or its digit is 7 at most
      have h9 : horn f at0 + 1 ≤ horn x at0 := by omega
      omega
    omega
  have e2 := horn_eq at0 (fun q hq => f8 q (by omega)) hx8 e1
  obtain ⟨k1, k2⟩ := can_be (x := x) hf e2 hc s (by omega) (Nat.le_refl s)
  rw [← hm] at k1 k2
  rw [← hl] at k2
  have hlex : horn b s ≤ horn f s := by
    apply Classical.byContradiction
    intro z
    have : horn f (at0 + 1) ≤ horn b (at0 + 1) := horn_mono f8 (b1.lt8 hh) (by omega) (by omega)
    omega
  unfold BL
  by_cases z : cntP h f s < cntP h b s
  · exact Or.inl z
  · have z2 : cntP h f s = most := by omega
    have := k2 z2
    refine Or.inr ⟨by omega, ?_⟩
    by_cases z3 : cstP h e rt b s < cstP h e rt f s
    · exact Or.inl z3
    · exact Or.inr ⟨by omega, hlex⟩
/-- a whole plan that is seen next -/
theorem BL.of_eq {b f g : Nat → Nat} (hb : ∀ q, q < s → g q = f q) (h1 : BL s h e rt b f) : BL s h e rt b g := by
  unfold BL at h1 ⊢
  rw [cntP_ext hb, cstP_ext hb, horn_congr s hb]
  exact h1
theorem Bst.keep {m : Nat} {x : Nat → Nat} {M : gh_M} {b : Nat → Nat} (hh : h ≤ 5) (hx : PV h e K hr x s) (b1 : PV h e K hr b s) (b2 : horn b s < horn x s) (b3 : rI M m 48 = nI (cntP h b s)) (b4 : rI M m 49 = nI (cstP h e rt b s)) (b5 : ∀ q, q < s → rI M (m + 38) q = nI (b q)) (b6 : ∀ f, PV h e K hr f s → horn f s < horn x s → BL s h e rt b f) (hw : cntP h x s < cntP h b s ∨ (cntP h x s = cntP h b s ∧ cstP h e rt b s ≤ cstP h e rt x s)) : Bst s h e K hr rt m (horn x s + 1) s M := by
  refine Or.inr ⟨b, b1, by omega, b3, b4, b5, fun f hf hlt => ?_⟩
  by_cases z : horn f s < horn x s
  · exact b6 f hf z
  · refine BL.of_eq (f := x) (horn_eq s (hf.lt8 hh) (hx.lt8 hh) (by omega)) ?_
    rcases hw with hw | ⟨w1, w2⟩
    · exact Or.inl hw
    · refine Or.inr ⟨w1, ?_⟩
      by_cases w3 : cstP h e rt b s < cstP h e rt x s
      · exact Or.inl w3
      · exact Or.inr ⟨by omega, by omega⟩
theorem Bst.take {m : Nat} {x : Nat → Nat} {M M' : gh_M} (hh : h ≤ 5) (hs : s ≤ 8) (hcs : ∀ f, cstP h e rt f s ≤ 720) (hx : PV h e K hr x s) (b : Bst s h e K hr rt m (horn x s) s M) (b3 : rI M' m 48 = nI (cntP h x s)) (b4 : rI M' m 49 = nI (cstP h e rt x s)) (b5 : ∀ q, q < s → rI M' (m + 38) q = nI (x q)) (hw : rI M m 48 < nI (cntP h x s) ∨ (nI (cntP h x s) = rI M m 48 ∧ ¬ rI M m 49 ≤ nI (cstP h e rt x s))) : Bst s h e K hr rt m (horn x s + 1) s M' := by
  have same : ∀ f, PV h e K hr f s → ¬ horn f s < horn x s → horn f s < horn x s + 1 → BL s h e rt x f := fun f hf z z2 => by
    have := BL.of_eq (s := s) (h := h) (e := e) (rt := rt) (b := x) (f := x) (horn_eq s (hf.lt8 hh) (hx.lt8 hh) (by omega)) (Or.inr ⟨rfl, Or.inr ⟨rfl, Nat.le_refl _⟩⟩)
    exact this
  refine Or.inr ⟨x, hx, by omega, b3, b4, b5, fun f hf hlt => ?_⟩
  by_cases z : horn f s < horn x s
  · rcases b with ⟨-, -, c3⟩ | ⟨b, c1, c2, c3, c4, c5, c6⟩
    · exact absurd z (c3 f hf)
    · have hbf := c6 f hf z
      have cb : ∀ g, cntP h g s ≤ s * 1 := fun g => sumN_bound s (fun q hq => by split <;> omega)
      have cb1 := cb b
      have cb2 := cb x
      have cs1 := hcs b
      have cs2 := hcs x
      rw [c3, c4] at hw
      unfold BL at hbf ⊢
      rcases hw with hw | ⟨w1, w2⟩
      · rw [p_ltI (by omega) (by omega)] at hw
        omega
      · rw [p_eqI (by omega) (by omega)] at w1
        rw [p_leI (by omega) (by omega)] at w2
        omega
  · exact same f hf z hlt
/-- all is seen -/
theorem Bst.done {m : Nat} {M : gh_M} {c : Nat → Nat} (hh : h ≤ 5) (hs : s ≤ 8) (he0 : ∀ q, s ≤ q → e q = 0) (he : ∀ q, e q ≤ 10) (hrt : ∀ j, j < h → rt j ≤ 9) (hc : optP s h e K hr rt c) (b : Bst s h e K hr rt m 1 0 M) : rI M m 48 = nI (cntP h c s) ∧ rI M m 49 = nI (cstP h e rt c s) ∧ ∀ q, q < s → rI M (m + 38) q = nI (c q) := by
  rcases b with ⟨-, -, b3⟩ | ⟨b, b1, b2, b3, b4, b5, b6⟩
  · exact absurd (show horn c 0 < 1 by show 0 < 1; omega) (b3 c hc.1)
  have ob : optP s h e K hr rt b := by
    refine ⟨b1, fun f hf => ?_⟩
    have hbl := b6 f hf (show 0 < 1 by omega)
    refine key_le hs hh he0 he hrt (fun q hq => ⟨(b1.1 q hq).1, fun w => ((b1.1 q hq).2 w).1⟩) (fun q hq => ⟨(hf.1 q hq).1, fun w => ((hf.1 q hq).2 w).1⟩) ?_
    rcases hbl with z | ⟨z1, z2 | ⟨z2, z3⟩⟩
    · exact Or.inl z
    · exact Or.inr ⟨z1, Or.inl z2⟩
    · exact Or.inr ⟨z1, Or.inr ⟨z2, horn_lex s (hf.lt8 hh) (b1.lt8 hh) z3⟩⟩
  have eq := opt_unique hs hh he0 he hrt ob hc
  exact ⟨by rw [b3, cntP_ext eq], by rw [b4, cstP_ext eq], fun q hq => by rw [b5 q hq, eq q hq]⟩
end Dfs
