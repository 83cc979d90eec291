/-! the reference: FAR -/
section MAp
variable {sh : gh_Sh} {m : Nat} {M : gh_M}
theorem s12_ap138 {post : Int32 → gh_M → Prop} {k28 : Int32 → gh_M → Prop} {x1 x4 n i : Nat} {x2 x3 x5 : Int32} (L : LM sh M m) (hn : n ≤ 8) (h : ∀ M', Ch m [25, 26] [] M M' → (∀ j, j ≤ n → rI M' (m + 26) j = rI M (m + 25) j) → k28 (nI i + 1) M') : wp_X12_apart_138 sh post k28 m x1 x2 x3 x4 x5 (nI n) (nI i) 0 M := by
  unfold wp_X12_apart_138
  refine for1 0 (n + 1) (by omega) (by omega) (fun j M1 => Ch m [26] [] M M1 ∧ ∀ q, q < j → rI M1 (m + 26) q = rI M (m + 25) q) ⟨Ch.rf _ _ _ _, fun q hq => by omega⟩ ?_ ?_
  · rintro j M1 k - hj ⟨hc, hq⟩ hk
    unfold wb_X12_apart_138
    dsimp only
    have L1 := hc.lm L
    refine ⟨fun c => absurd ((p_ltI (by omega) (by omega)).mp c) (by omega), fun _ => ⟨L.1, _, L1.f33, _, L1.f32, L.k25, L.v25 (i := j) (by omega) rfl, L.k26, L.v26 (i := j) (by omega) rfl, hk _ ⟨hc.tr (Ch.wa 26 _ _ (by decide) (by decide) (by decide)), fun q hq2 => ?_⟩⟩⟩
    rw [p_cl (by omega)]
    by_cases e : q = j
    · subst e; rw [rI_same, hc.ar 25 (by decide) (by decide) (by decide)]
    · rw [rI_ne _ _ (by omega)]; exact hq q (by omega)
  · rintro M1 k ⟨hc, hq⟩
    unfold wb_X12_apart_138
    dsimp only
    exact ⟨fun _ => h M1 (hc.mono (by decide) (by decide)) (fun j hj => hq j (by omega)), fun c => absurd ((p_ltI (by omega) (by omega)).mpr (by omega)) c⟩
theorem s12_apart {post : Int32 → gh_M → Prop} {q1 q2 at1 at2 : Nat} {l1 l2 : List Int32} (L : LM sh M m) (h1 : l1.length ≤ 8) (h2 : l2.length ≤ 8) (k1 : sh.1 q1 = 13) (k2 : sh.1 q2 = 13) (b1 : at1 + l1.length ≤ sh.2 q1) (b2 : at2 + l2.length ≤ sh.2 q2) (u1 : sh.2 q1 < 10000) (u2 : sh.2 q2 < 10000) (d1 : q1 ≠ m + 25 ∧ q1 ≠ m + 26) (d2 : q2 ≠ m + 25 ∧ q2 ≠ m + 26)
    (r1 : ∀ i, i < l1.length → rI M q1 (at1 + i) = l1.getD i 0) (r2 : ∀ i, i < l2.length → rI M q2 (at2 + i) = l2.getD i 0)
    (h : ∀ M', Ch m [25, 26] [] M M' → post (nI (dist l1 l2)) M') : wp_X12_apart sh M m q1 (nI at1) (nI l1.length) q2 (nI at2) (nI l2.length) post := by
  unfold wp_X12_apart wp_X12_apart_3
  have frm : ∀ {M1 : gh_M} {q : Nat}, (Ch m [25, 26] [] M M1 ∧ ∀ a j, a ≠ m + 25 → a ≠ m + 26 → rI M1 a j = rI M a j) → q ≠ m + 25 ∧ q ≠ m + 26 → ∀ j, rI M1 q j = rI M q j := fun hh hq j => hh.2 _ _ hq.1 hq.2
  refine for1 0 (l2.length + 1) (by omega) (by omega) (fun j M1 => (Ch m [25, 26] [] M M1 ∧ ∀ a j, a ≠ m + 25 → a ≠ m + 26 → rI M1 a j = rI M a j) ∧ ∀ q, q < j → rI M1 (m + 26) q = nI q) ⟨⟨Ch.rf _ _ _ _, fun _ _ _ _ => rfl⟩, fun q hq => by omega⟩ ?_ ?_
  · rintro j M1 k - hj ⟨hc, hq⟩ hk
    unfold wb_X12_apart_3
    dsimp only
    refine ⟨fun c => absurd ((p_ltI (by omega) (by omega)).mp c) (by omega), fun _ => ⟨L.1, _, (hc.1.lm L).f33, L.k26, L.v26 (i := j) (by omega) rfl, hk _ ⟨⟨hc.1.tr (Ch.wa 26 _ _ (by decide) (by decide) (by decide)), fun a j ha hb => by rw [rI_ne _ _ (by omega)]; exact hc.2 a j ha hb⟩, fun q hq2 => ?_⟩⟩⟩
    rw [p_cl (by omega)]
    by_cases e : q = j
    · subst e; rw [rI_same]
    · rw [rI_ne _ _ (by omega)]; exact hq q (by omega)
  · rintro M1 k ⟨hc, hq⟩
    unfold wb_X12_apart_3
    dsimp only
    refine ⟨fun _ => ?_, fun c => absurd ((p_ltI (by omega) (by omega)).mpr (by omega)) c⟩
    unfold wp_X12_apart_28
    refine for1 1 (l1.length + 1) (by omega) (by omega) (fun i M2 => (Ch m [25, 26] [] M M2 ∧ ∀ a j, a ≠ m + 25 → a ≠ m + 26 → rI M2 a j = rI M a j) ∧ ∀ q, q ≤ l2.length → rI M2 (m + 26) q = nI (lev (fun i => l1.getD i 0) (fun i => l2.getD i 0) (i - 1) q)) ⟨hc, fun q hq2 => by rw [hq q (by omega), lev_0]⟩ ?_ ?_
    · rintro i M2 k2' hi1 hi ⟨hc2, hq2⟩ hk
      obtain ⟨i, rfl⟩ : ∃ i', i = i' + 1 := ⟨i - 1, by omega⟩
      unfold wb_X12_apart_28
      dsimp only
      have z0 : (0 : Int32).toNatClampNeg = 0 := rfl
      rw [Nat.add_sub_cancel] at hq2
      refine ⟨fun c => absurd ((p_ltI (by omega) (by omega)).mp c) (by omega), fun _ => ⟨L.1, _, (hc2.1.lm L).f32, L.k25, L.v25 (i := 0) (by omega) rfl, ?_⟩⟩
      unfold wp_X12_apart_45
      refine for1 1 (l2.length + 1) (by omega) (by omega) (fun j M3 => (Ch m [25, 26] [] M M3 ∧ ∀ a j, a ≠ m + 25 → a ≠ m + 26 → rI M3 a j = rI M a j) ∧ (∀ q, q ≤ l2.length → rI M3 (m + 26) q = nI (lev (fun i => l1.getD i 0) (fun i => l2.getD i 0) i q)) ∧ ∀ q, q < j → rI M3 (m + 25) q = nI (lev (fun i => l1.getD i 0) (fun i => l2.getD i 0) (i + 1) q)) ⟨⟨hc2.1.tr (Ch.wa 25 _ _ (by decide) (by decide) (by decide)), fun a j ha hb => by rw [rI_ne _ _ (by omega)]; exact hc2.2 a j ha hb⟩, fun q hq3 => by rw [rI_ne _ _ (by omega)]; exact hq2 q hq3, fun q hq3 => ?_⟩ ?_ ?_
      · rw [z0, show q = 0 by omega, rI_same, lev_i0]
      · rintro j M3 k3 hj1 hj ⟨hc3, hq3, hq4⟩ hk3
        obtain ⟨j, rfl⟩ : ∃ j', j = j' + 1 := ⟨j - 1, by omega⟩
        unfold wb_X12_apart_45
        dsimp only
        have L3 := hc3.1.lm L
        have ea : (nI at1 + nI (i + 1)) - (1 : Int32) = nI (at1 + i) := by rw [nI_add, ← Nat.add_assoc, p_sub1]
        have eb : (nI at2 + nI (j + 1)) - (1 : Int32) = nI (at2 + j) := by rw [nI_add, ← Nat.add_assoc, p_sub1]
        have hb0 := lev_le (fun i => l1.getD i 0) (fun i => l2.getD i 0) i j
        have hb1 := lev_le (fun i => l1.getD i 0) (fun i => l2.getD i 0) i (j + 1)
        have hb2 := lev_le (fun i => l1.getD i 0) (fun i => l2.getD i 0) (i + 1) j
        have ra : rI M3 q1 (at1 + i) = l1.getD i 0 := (frm hc3 d1 _).trans (r1 i (by omega))
        have rb : rI M3 q2 (at2 + j) = l2.getD j 0 := (frm hc3 d2 _).trans (r2 j (by omega))
        refine ⟨fun c => absurd ((p_ltI (by omega) (by omega)).mp c) (by omega), fun _ => ⟨L.1, _, L3.f33, L.k26, L.v26 (i := j) (by omega) (p_sub1 j), k1, ?_, k2, ?_, ?_⟩⟩
        · rw [ea]; exact p_in (by omega) (by omega)
        · rw [eb]; exact p_in (by omega) (by omega)
        rw [ea, eb, p_cl (show at1 + i < 2147483648 by omega), p_cl (show at2 + j < 2147483648 by omega), ra, rb, p_sub1, p_cl (show j < 2147483648 by omega), hq3 j (by omega)]
        have step : ∀ s0 : Nat, s0 = (if l1.getD i 0 = l2.getD j 0 then 0 else 1) → wp_X12_apart_87 sh post (fun x7 M => k2' (x7, M)) (fun x8 M => k3 (x8, M)) m q1 (nI at1) (nI l1.length) q2 (nI at2) (nI l2.length) (nI (i + 1)) (nI (j + 1)) (nI (lev (fun i => l1.getD i 0) (fun i => l2.getD i 0) i j)) (nI s0) M3 := fun s0 hs0 => by
          have hs1 : s0 ≤ 1 := by rw [hs0]; split <;> omega
          unfold wp_X12_apart_87
          refine ⟨L.1, _, L3.f33, L.k26, L.v26 (i := j + 1) (by omega) rfl, ?_⟩
          rw [p_cl (by omega), hq3 (j + 1) (by omega), nI_add, nI_1]
          refine s12_least (by omega) (by omega) ⟨_, L3.f32, L.k25, L.v25 (i := j) (by omega) (p_sub1 j), ?_⟩
          rw [p_sub1, p_cl (show j < 2147483648 by omega), hq4 j (by omega), nI_1]
          refine s12_least (by omega) (by omega) ⟨L.v25 (i := j + 1) (by omega) rfl, hk3 _ ⟨⟨hc3.1.tr (Ch.wa 25 _ _ (by decide) (by decide) (by decide)), fun a j ha hb => by rw [rI_ne _ _ (by omega)]; exact hc3.2 a j ha hb⟩, fun q hq5 => by rw [rI_ne _ _ (by omega)]; exact hq3 q hq5, fun q hq5 => ?_⟩⟩
          by_cases e : q = j + 1
          · subst e
            rw [rI_same, lev_ss, ← hs0]
            congr 1
            omega
          · rw [rI_ne _ _ (by omega)]; exact hq4 q (by omega)
        refine ⟨fun c => step 0 (by rw [if_pos c]), fun c => step 1 (by rw [if_neg c])⟩
      · rintro M3 k3 ⟨hc3, hq3, hq4⟩
        unfold wb_X12_apart_45
        dsimp only
        refine ⟨fun _ => ?_, fun c => absurd ((p_ltI (by omega) (by omega)).mpr (by omega)) c⟩
        refine s12_ap138 (hc3.1.lm L) h2 (fun M4 hc4 hq5 => hk M4 ⟨⟨hc3.1.tr hc4, fun a j ha hb => ?_⟩, fun q hq6 => ?_⟩)
        · have : rI M4 a j = rI M3 a j := by
            by_cases e : m < a ∧ a < m + 39
            · obtain ⟨k', rfl⟩ : ∃ k', a = m + k' := ⟨a - m, by omega⟩
              exact hc4.1 k' j (by omega) (by omega) (by simp; omega)
            · by_cases e2 : a = m
              · subst e2; exact hc4.2.1 j (by simp)
              · exact hc4.2.2.I (by omega) j
          rw [this]; exact hc3.2 a j ha hb
        · rw [hq5 q hq6, hq4 q (by omega)]; rfl
    · rintro M2 k2' ⟨hc2, hq2⟩
      unfold wb_X12_apart_28
      dsimp only
      rw [p_cl (by omega)]
      refine ⟨fun _ => ⟨L.1, _, (hc2.1.lm L).f33, L.k26, L.v26 (i := l2.length) (by omega) rfl, ?_⟩, fun c => absurd ((p_ltI (by omega) (by omega)).mpr (by omega)) c⟩
      rw [hq2 l2.length (by omega), Nat.add_sub_cancel]
      exact h M2 hc2.1
end MAp
