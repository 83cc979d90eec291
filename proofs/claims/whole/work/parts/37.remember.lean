/-! Memory.remember -/
def rotS (σ : Nat → Nat) (k : Nat) : Nat := if k = 19 then σ 0 else σ (k + 1)
theorem rR_same (M : gh_M) (a k : Nat) (v : Option Nat) : rR (wR M a k v) a k = v := by rw [rR_wR, if_pos ⟨rfl, rfl⟩]
theorem rR_ne (M : gh_M) {a k b j : Nat} (v : Option Nat) (h : b ≠ a ∨ j ≠ k) : rR (wR M a k v) b j = rR M b j := by rw [rR_wR, if_neg (by omega)]
section MemSpecs2
variable {sh : gh_Sh} {M : gh_M} {m : Nat} {σ : Nat → Nat} {l : List EnT}
theorem s4_put {post : gh_M → Prop} (L : LMem sh M m σ) (h : ∀ M', (∀ a j, rI M' a j = rI M a j) → (∀ a j, rJ M' a j = rJ M a j) → (∀ a j, a ≠ m + 1 → rR M' a j = rR M a j) → LMem sh M' m (rotS σ) → post M') : wp_X4_putEldestLast sh M m post := by
  unfold wp_X4_putEldestLast
  have z0 : (0 : Int32).toNatClampNeg = 0 := rfl
  have z19 : (19 : Int32).toNatClampNeg = 19 := by decide
  refine ⟨L.1, _, L.2.1, L.2.2.1, by rw [L.2.2.2.1]; exact p_in (n := 0) (by omega) (by omega), _, by rw [z0]; exact (L.2.2.2.2.1 0 (by omega)).1, ?_⟩
  unfold wp_X4_putEldestLast_9
  refine ⟨fun v => ∃ k, 1 ≤ k ∧ k ≤ 20 ∧ v.1 = nI k ∧ (∀ a j, rI v.2 a j = rI M a j) ∧ (∀ a j, rJ v.2 a j = rJ M a j) ∧ (∀ a j, a ≠ m + 1 → rR v.2 a j = rR M a j) ∧ ∀ j, j < 20 → rR v.2 (m + 1) j = some (m + 2 + 5 * (if j + 1 < k then σ (j + 1) else σ j)), fun v => 20 - v.1.toNatClampNeg, ?_, ?_⟩
  · refine ⟨1, by omega, by omega, rfl, fun _ _ => rfl, fun _ _ => rfl, fun _ _ _ => rfl, fun j hj => ?_⟩
    rw [if_neg (by omega)]
    exact (L.2.2.2.2.1 j hj).1
  rintro ⟨x, M1⟩ ⟨k, h1, h20, hx, hI, hJ, hR, hE⟩
  dsimp only at hx hI hJ hR hE ⊢
  subst hx
  have e0 : rR M1 m 0 = some (m + 1) := (hR m 0 (by omega)).trans L.2.1
  unfold wb_X4_putEldestLast_9
  refine ⟨fun c => ?_, fun c => ?_⟩
  · have hk : k = 20 := by have := (p_leI (a := 20) (by decide) (by omega)).mp c; omega
    subst hk
    refine ⟨L.1, _, e0, L.2.2.1, (L.2.2.2.2.2.2 _ (L.2.2.2.2.1 0 (by omega)).2).1, by rw [L.2.2.2.1]; exact p_in (n := 19) (by omega) (by omega), ?_⟩
    rw [z19]
    have hR' : ∀ a j, a ≠ m + 1 → rR (wR M1 (m + 1) 19 (some (m + 2 + 5 * σ 0))) a j = rR M a j := fun a j ha => by rw [rR_ne _ _ (Or.inl ha)]; exact hR a j ha
    refine h _ hI hJ hR' ⟨L.1, (hR' m 0 (by omega)).trans L.2.1, L.2.2.1, L.2.2.2.1, fun j hj => ⟨?_, ?_⟩, fun i j hi hj q => ?_, fun e he => ?_⟩
    · by_cases e : j = 19
      · subst e; rw [rR_same]; rfl
      · rw [rR_ne _ _ (Or.inr e), hE j hj, if_pos (by omega)]
        unfold rotS; rw [if_neg e]
    · unfold rotS
      split
      · exact (L.2.2.2.2.1 0 (by omega)).2
      · exact (L.2.2.2.2.1 (j + 1) (by omega)).2
    · have inj := L.2.2.2.2.2.1
      unfold rotS at q
      split at q <;> split at q
      · omega
      · have := inj 0 (j + 1) (by omega) (by omega) q; omega
      · have := inj (i + 1) 0 (by omega) (by omega) q; omega
      · have := inj (i + 1) (j + 1) (by omega) (by omega) q; omega
    · obtain ⟨q1, q2, q3, q4, q5⟩ := L.2.2.2.2.2.2 e he
      exact ⟨q1, (hR' _ _ (by omega)).trans q2, ⟨q3.1, q3.2.1, q3.2.2.1, (hR' _ _ (by omega)).trans q3.2.2.2⟩, (hR' _ _ (by omega)).trans q4, ⟨q5.1, q5.2.1, q5.2.2.1, (hR' _ _ (by omega)).trans q5.2.2.2⟩⟩
  · have hk : k < 20 := by
      have : ¬ 20 ≤ k := fun q => c ((p_leI (a := 20) (by decide) (by omega)).mpr q)
      omega
    obtain ⟨k', rfl⟩ : ∃ k', k = k' + 1 := ⟨k - 1, by omega⟩
    refine ⟨L.1, _, e0, L.2.2.1, by rw [L.2.2.2.1]; exact p_in (by omega) (by omega), _, by rw [p_cl (by omega)]; exact hE (k' + 1) (by omega), ?_, by rw [L.2.2.2.1, p_sub1]; exact p_in (by omega) (by omega), ?_⟩
    · rw [if_neg (by omega)]; exact (L.2.2.2.2.2.2 _ (L.2.2.2.2.1 (k' + 1) (by omega)).2).1
    · rw [if_neg (by omega), p_sub1, p_cl (show k' < 2147483648 by omega)]
      refine ⟨⟨k' + 2, by omega, by omega, nI_1 _, hI, hJ, fun a j ha => by rw [rR_ne _ _ (Or.inl ha)]; exact hR a j ha, fun j hj => ?_⟩, p_m8 (by omega) (by omega)⟩
      by_cases e : j = k'
      · subst e; rw [rR_same, if_pos (by omega)]
      · rw [rR_ne _ _ (Or.inr e), hE j hj]
        by_cases e2 : j + 1 < k' + 1
        · rw [if_pos e2, if_pos (by omega)]
        · rw [if_neg e2, if_neg (by omega)]
noncomputable def remL (l : List EnT) (e : EnT) : List EnT := @ite _ (e ∈ l) (Classical.propDecidable _) l (if l.length < 20 then l ++ [e] else l.tail ++ [e])
theorem s4_last {post : gh_M → Prop} {r1 r2 : Nat} {t : Int32} {l1 l2 : List Int32} {q : List EnT} {M0 : gh_M} (L : LMem sh M m σ) (hq : q.length < 20) (hc : rI M m 1 = nI (q.length + 1)) (hE : ∀ k, k < q.length → entryIs M (m + 2 + 5 * σ k) (q.getD k en0)) (hF : Fw m (m + 102) M0 M) (L1 : LRow sh M r1) (L2 : LRow sh M r2) (R1 : rowIs M r1 l1) (R2 : rowIs M r2 l2) (d1 : r1 + 1 < m ∨ m + 101 < r1) (d2 : r2 + 1 < m ∨ m + 101 < r2)
    (h : ∀ M', Fw m (m + 102) M0 M' → LMem sh M' m σ → memIs M' m σ (q ++ [(t, l1, l2)]) → post M') : wp_X4_remember_61 sh post m r1 t r2 M := by
  unfold wp_X4_remember_61
  rw [hc, p_sub1, p_cl (by omega)]
  obtain ⟨a1, a2⟩ := L.2.2.2.2.1 q.length hq
  have Le := L.2.2.2.2.2.2 _ a2
  refine ⟨L.1, _, L.2.1, L.2.2.1, by rw [L.2.2.2.1]; exact p_in hq (by omega), _, a1, Le.1, s1_fill Le L1 L2 R1 R2 (by omega) (by omega) (fun M2 hF2 hE2 => h M2 ?_ (L.fr hF2.2.2) ⟨by simp; omega, ?_, fun k hk => ?_⟩)⟩
  · exact Fw.tr hF hF2.fw (by omega) (by omega) (by omega) (by omega)
  · rw [hF2.I (by omega), hc]; simp
  · simp at hk
    by_cases e : k = q.length
    · subst e; rw [p_getD_app]; exact hE2
    · rw [p_getD_app2 (by omega)]
      have n1 := (L.2.2.2.2.1 k (by omega)).2
      have n2 : σ k ≠ σ q.length := fun z => e (L.2.2.2.2.2.1 k q.length (by omega) (by omega) z)
      exact (hE k (by omega)).fr hF2 (by omega)
theorem p_getD_mem {α : Type} {l : List α} {d : α} {k : Nat} (h : k < l.length) : l.getD k d ∈ l := by
  rw [List.getD_eq_getElem?_getD, List.getElem?_eq_getElem h]
  exact List.getElem_mem _
theorem p_mem_getD {α : Type} {l : List α} {d x : α} (h : x ∈ l) : ∃ k, k < l.length ∧ l.getD k d = x := by
  obtain ⟨k, hk, e⟩ := List.getElem_of_mem h
  exact ⟨k, hk, by rw [List.getD_eq_getElem?_getD, List.getElem?_eq_getElem hk]; exact e⟩
theorem s4_remember {post : gh_M → Prop} {r1 r2 : Nat} {t : Int32} {l1 l2 : List Int32} (L : LMem sh M m σ) (B : memIs M m σ l) (L1 : LRow sh M r1) (L2 : LRow sh M r2) (R1 : rowIs M r1 l1) (R2 : rowIs M r2 l2) (d1 : r1 + 1 < m ∨ m + 101 < r1) (d2 : r2 + 1 < m ∨ m + 101 < r2)
    (h : ∀ M' σ', Fw m (m + 102) M M' → LMem sh M' m σ' → memIs M' m σ' (remL l (t, l1, l2)) → post M') : wp_X4_remember sh M m r1 t r2 post := by
  unfold wp_X4_remember wp_X4_remember_3
  have hl := B.1
  refine ⟨fun v => v.2 = M ∧ ∃ k, k ≤ l.length ∧ v.1 = nI k ∧ ∀ j, j < k → l.getD j en0 ≠ (t, l1, l2), fun v => 20 - v.1.toNatClampNeg, ⟨rfl, 0, by omega, rfl, fun j hj => by omega⟩, ?_⟩
  rintro ⟨x, M1⟩ ⟨rfl, k, hk, hx, hr⟩
  dsimp only at hx ⊢
  subst hx
  unfold wb_X4_remember_3
  rw [B.2.1]
  refine ⟨L.1, fun c => ?_, fun c => ?_⟩
  · rw [p_leI (by omega) (by omega)] at c
    have : k = l.length := by omega
    subst this
    have hnm : (t, l1, l2) ∉ l := fun z => by
      obtain ⟨j, hj, e⟩ := p_mem_getD (d := en0) z
      exact hr j hj e
    have hrem : remL l (t, l1, l2) = if l.length < 20 then l ++ [(t, l1, l2)] else l.tail ++ [(t, l1, l2)] := if_neg hnm
    rw [hrem] at h
    refine ⟨fun c2 => ?_, fun c2 => ?_⟩
    · have c3 := (p_leI (a := 20) (by decide) (by omega)).mp c2
      rw [if_neg (by omega)] at h
      refine s4_put L (fun M2 hI hJ hR L' => ?_)
      have hF : Fw m (m + 102) M1 M2 := fun a j ha => ⟨hI a j, hJ a j, hR a j (by omega)⟩
      have hRow : ∀ {r : Nat} {s : List Int32}, rowIs M1 r s → rowIs M2 r s := fun {r s} q => ⟨q.1, (hI _ _).trans q.2.1, fun i hi => (hI _ _).trans (q.2.2 i hi)⟩
      have hLR : ∀ {r : Nat}, (r + 1 < m ∨ m + 101 < r) → LRow sh M1 r → LRow sh M2 r := fun {r} hd q => ⟨q.1, q.2.1, q.2.2.1, (hR _ _ (by omega)).trans q.2.2.2⟩
      refine s4_last (q := l.tail) L' (by rw [List.length_tail]; omega) ?_ (fun j hj => ?_) hF (hLR d1 L1) (hLR d2 L2) (hRow R1) (hRow R2) d1 d2 (fun M3 hF3 L3 B3 => h M3 _ hF3 L3 B3)
      · rw [hI, B.2.1, List.length_tail, show l.length - 1 + 1 = l.length by omega]
      · rw [List.length_tail] at hj
        have e1 : l.tail.getD j en0 = l.getD (j + 1) en0 := by
          simp [List.getD_eq_getElem?_getD]
        rw [e1]
        unfold rotS
        rw [if_neg (by omega)]
        have q := B.2.2 (j + 1) (by omega)
        exact ⟨(hI _ _).trans q.1, hRow q.2.1, hRow q.2.2⟩
    · have c3 : l.length < 20 := Nat.not_le.mp fun z => c2 ((p_leI (a := 20) (by decide) (by omega)).mpr z)
      rw [if_pos c3] at h
      have f1 : Fr m (m + 1) M1 (wI M1 m 1 (nI l.length + (1 : Int32))) := Fr.w (by omega) (by omega)
      refine s4_last (q := l) (L.fr f1.2.2) c3 ?_ (fun j hj => ?_) (f1.fw.mono (by omega) (by omega)) (L1.fr f1.2.2) (L2.fr f1.2.2) (R1.fr f1 (by omega)) (R2.fr f1 (by omega)) d1 d2 (fun M3 hF3 L3 B3 => h M3 _ hF3 L3 B3)
      · rw [rI_same]; exact nI_1 _
      · exact (B.2.2 j hj).fr f1 (by omega)
  · rw [p_leI (by omega) (by omega)] at c
    obtain ⟨a1, a2⟩ := L.2.2.2.2.1 k (by omega)
    have Le := L.2.2.2.2.2.2 (σ k) a2
    refine ⟨_, L.2.1, L.2.2.1, by rw [L.2.2.2.1]; exact p_in (by omega) (by omega), _, by rw [p_cl (by omega)]; exact a1, Le.1, s1_isJust Le (B.2.2 k (by omega)) L1 L2 R1 R2 ⟨fun c2 => ?_, fun c2 => ?_⟩⟩
    · rw [b2i_0] at c2
      refine ⟨⟨rfl, k + 1, by omega, nI_1 k, fun j hj => ?_⟩, p_m8 (by omega) (by omega)⟩
      by_cases e : j = k
      · subst e; exact c2
      · exact hr j (by omega)
    · rw [b2i_n0] at c2
      have hm : (t, l1, l2) ∈ l := by rw [← c2]; exact p_getD_mem (by omega)
      have hrem : remL l (t, l1, l2) = l := if_pos hm
      rw [hrem] at h
      exact h _ σ (Fw.rf _ _ _) L B
end MemSpecs2
