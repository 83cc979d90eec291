/-! Entry, Memory -/
/-- one of THE MEMORY: TONGUE, the PIECE's SIGNS, the TEXT's -/
abbrev EnT : Type := Int32 × List Int32 × List Int32
def en0 : EnT := (0, [], [])
def LEntry (sh : gh_Sh) (M : gh_M) (e : Nat) : Prop := sh.1 e = 1 ∧ rR M e 0 = some (e + 1) ∧ LRow sh M (e + 1) ∧ rR M e 1 = some (e + 3) ∧ LRow sh M (e + 3)
theorem LEntry.fr {sh : gh_Sh} {M M' : gh_M} {e : Nat} (h : LEntry sh M e) (q : ∀ a j, rR M' a j = rR M a j) : LEntry sh M' e := ⟨h.1, (q _ _).trans h.2.1, h.2.2.1.fr q, (q _ _).trans h.2.2.2.1, h.2.2.2.2.fr q⟩
theorem LEntry.fw {sh : gh_Sh} {lo hi : Nat} {M M' : gh_M} {e : Nat} (h : LEntry sh M e) (f : Fw lo hi M M') (d : e + 4 < lo ∨ hi ≤ e) : LEntry sh M' e := ⟨h.1, (f _ _ (by omega)).2.2.trans h.2.1, h.2.2.1.fw f (by omega), (f _ _ (by omega)).2.2.trans h.2.2.2.1, h.2.2.2.2.fw f (by omega)⟩
def entryIs (M : gh_M) (e : Nat) (x : EnT) : Prop := rI M e 2 = x.1 ∧ rowIs M (e + 1) x.2.1 ∧ rowIs M (e + 3) x.2.2
theorem entryIs.fr {lo hi : Nat} {M M' : gh_M} {e : Nat} {x : EnT} (h : entryIs M e x) (f : Fr lo hi M M') (d : e + 4 < lo ∨ hi ≤ e) : entryIs M' e x := ⟨(f.I (by omega) _).trans h.1, h.2.1.fr f (by omega), h.2.2.fr f (by omega)⟩
theorem entryIs.fw {lo hi : Nat} {M M' : gh_M} {e : Nat} {x : EnT} (h : entryIs M e x) (f : Fw lo hi M M') (d : e + 4 < lo ∨ hi ≤ e) : entryIs M' e x := ⟨(f _ _ (by omega)).1.trans h.1, h.2.1.fw f (by omega), h.2.2.fw f (by omega)⟩
section EntrySpecs
variable {sh : gh_Sh} {M : gh_M} {e : Nat} {x : EnT}
theorem s1_pieceSigns {post : Nat → gh_M → Prop} (L : LEntry sh M e) (h : post (e + 1) M) : wp_X1_pieceSigns sh M e post := by
  unfold wp_X1_pieceSigns
  exact ⟨L.1, _, L.2.1, h⟩
theorem s1_textSigns {post : Nat → gh_M → Prop} (L : LEntry sh M e) (h : post (e + 3) M) : wp_X1_textSigns sh M e post := by
  unfold wp_X1_textSigns
  exact ⟨L.1, _, L.2.2.2.1, h⟩
theorem s1_tongue {post : Int32 → gh_M → Prop} (L : LEntry sh M e) (E : entryIs M e x) (h : post x.1 M) : wp_X1_tongue sh M e post := by
  unfold wp_X1_tongue
  exact ⟨L.1, by rw [E.1]; exact h⟩
theorem s1_fill {post : gh_M → Prop} {r1 r2 : Nat} {t : Int32} {l1 l2 : List Int32} (L : LEntry sh M e) (L1 : LRow sh M r1) (L2 : LRow sh M r2) (R1 : rowIs M r1 l1) (R2 : rowIs M r2 l2) (d1 : r1 + 1 < e ∨ e + 4 < r1) (d2 : r2 + 1 < e ∨ e + 4 < r2) (h : ∀ M', Fr e (e + 5) M M' → entryIs M' e (t, l1, l2) → post M') : wp_X1_fill sh M e r1 t r2 post := by
  unfold wp_X1_fill
  refine ⟨L.1, _, L.2.1, L.2.2.1.1, s7_copy L.2.2.1 L1 R1 (by omega) (fun M1 hF1 hR1 => ?_)⟩
  have f2 : Fr e (e + 1) M1 (wI M1 e 2 t) := Fr.w (by omega) (by omega)
  have f3 : Fr e (e + 5) M (wI M1 e 2 t) := Fr.tr hF1 f2 (by omega) (by omega) (by omega) (by omega)
  refine ⟨_, (hF1.R e 1).trans L.2.2.2.1, L.2.2.2.2.1, s7_copy ((L.2.2.2.2.fr hF1.2.2).fr f2.2.2) ((L2.fr hF1.2.2).fr f2.2.2) (R2.fr f3 (by omega)) (by omega) (fun M2 hF2 hR2 => h M2 ?_ ⟨?_, ?_, hR2⟩)⟩
  · exact Fr.tr f3 hF2 (by omega) (by omega) (by omega) (by omega)
  · rw [hF2.I (by omega), rI_same]
  · exact (hR1.fr f2 (by omega)).fr hF2 (by omega)
theorem s1_isJust {post : Int32 → gh_M → Prop} {r1 r2 : Nat} {t : Int32} {l1 l2 : List Int32} (L : LEntry sh M e) (E : entryIs M e x) (L1 : LRow sh M r1) (L2 : LRow sh M r2) (R1 : rowIs M r1 l1) (R2 : rowIs M r2 l2) (h : post (b2i (x = (t, l1, l2))) M) : wp_X1_isJust sh M e r1 t r2 post := by
  unfold wp_X1_isJust
  rw [E.1]
  obtain ⟨a, b, c⟩ := x
  refine ⟨L.1, fun c1 => ⟨_, L.2.1, L.2.2.1.1, s7_isSameAs L.2.2.1 L1 E.2.1 R1 ⟨fun c2 => ?_, fun c2 => ⟨_, L.2.2.2.1, L.2.2.2.2.1, s7_isSameAs L.2.2.2.2 L2 E.2.2 R2 ⟨fun c3 => ?_, fun c3 => ?_⟩⟩⟩⟩, fun c1 => ?_⟩
  · rw [b2i_f] at h
    · exact h
    · intro q; cases q; rw [if_pos rfl] at c2; exact absurd c2 (by decide)
  · rw [b2i_f] at h
    · exact h
    · intro q; cases q; rw [if_pos rfl] at c3; exact absurd c3 (by decide)
  · rw [b2i_t] at h
    · exact h
    · have e2 : b = l1 := Classical.byContradiction fun q => c2 (if_neg q)
      have e3 : c = l2 := Classical.byContradiction fun q => c3 (if_neg q)
      dsimp only at c1
      rw [c1, e2, e3]
  · rw [b2i_f] at h
    · exact h
    · intro q; cases q; exact c1 rfl
end EntrySpecs
def LMem (sh : gh_Sh) (M : gh_M) (m : Nat) (σ : Nat → Nat) : Prop := sh.1 m = 4 ∧ rR M m 0 = some (m + 1) ∧ sh.1 (m + 1) = 15 ∧ sh.2 (m + 1) = 20 ∧ (∀ k, k < 20 → rR M (m + 1) k = some (m + 2 + 5 * σ k) ∧ σ k < 20) ∧ (∀ i j, i < 20 → j < 20 → σ i = σ j → i = j) ∧ ∀ e, e < 20 → LEntry sh M (m + 2 + 5 * e)
theorem LMem.fr {sh : gh_Sh} {M M' : gh_M} {m : Nat} {σ : Nat → Nat} (h : LMem sh M m σ) (q : ∀ a j, rR M' a j = rR M a j) : LMem sh M' m σ := ⟨h.1, (q _ _).trans h.2.1, h.2.2.1, h.2.2.2.1, fun k hk => ⟨(q _ _).trans (h.2.2.2.2.1 k hk).1, (h.2.2.2.2.1 k hk).2⟩, h.2.2.2.2.2.1, fun e he => (h.2.2.2.2.2.2 e he).fr q⟩
theorem LMem.fw {sh : gh_Sh} {lo hi : Nat} {M M' : gh_M} {m : Nat} {σ : Nat → Nat} (h : LMem sh M m σ) (f : Fw lo hi M M') (d : m + 101 < lo ∨ hi ≤ m) : LMem sh M' m σ := ⟨h.1, (f _ _ (by omega)).2.2.trans h.2.1, h.2.2.1, h.2.2.2.1, fun k hk => ⟨(f _ _ (by omega)).2.2.trans (h.2.2.2.2.1 k hk).1, (h.2.2.2.2.1 k hk).2⟩, h.2.2.2.2.2.1, fun e he => (h.2.2.2.2.2.2 e he).fw f (by omega)⟩
def memIs (M : gh_M) (m : Nat) (σ : Nat → Nat) (l : List EnT) : Prop := l.length ≤ 20 ∧ rI M m 1 = nI l.length ∧ ∀ k, k < l.length → entryIs M (m + 2 + 5 * σ k) (l.getD k en0)
theorem memIs.fr {sh : gh_Sh} {lo hi : Nat} {M M' : gh_M} {m : Nat} {σ : Nat → Nat} {l : List EnT} (L : LMem sh M m σ) (h : memIs M m σ l) (f : Fr lo hi M M') (d : m + 101 < lo ∨ hi ≤ m) : memIs M' m σ l := ⟨h.1, (f.I (by omega) _).trans h.2.1, fun k hk => (h.2.2 k hk).fr f (by have := h.1; have := (L.2.2.2.2.1 k (by omega)).2; omega)⟩
theorem memIs.fw {sh : gh_Sh} {lo hi : Nat} {M M' : gh_M} {m : Nat} {σ : Nat → Nat} {l : List EnT} (L : LMem sh M m σ) (h : memIs M m σ l) (f : Fw lo hi M M') (d : m + 101 < lo ∨ hi ≤ m) : memIs M' m σ l := ⟨h.1, (f _ _ (by omega)).1.trans h.2.1, fun k hk => (h.2.2 k hk).fw f (by have := h.1; have := (L.2.2.2.2.1 k (by omega)).2; omega)⟩
/-- THE NEAREST of the first k: its number and how FAR -/
def nearK (l : List EnT) (s : List Int32) (t : Int32) : Nat → Option (Nat × Nat)
  | 0 => none
  | k + 1 => if (l.getD k en0).1 = t then (match nearK l s t k with
      | none => some (k, dist s (l.getD k en0).2.1)
      | some (q, d) => if dist s (l.getD k en0).2.1 ≤ d then some (k, dist s (l.getD k en0).2.1) else some (q, d)) else nearK l s t k
theorem nearK_lt {l : List EnT} {s : List Int32} {t : Int32} : ∀ {k q d : Nat}, nearK l s t k = some (q, d) → q < k ∧ d = dist s (l.getD q en0).2.1 ∧ (l.getD q en0).1 = t
  | 0, q, d, h => by cases h
  | k + 1, q, d, h => by
    unfold nearK at h
    split at h
    · rename_i ht
      split at h
      · cases h; exact ⟨by omega, rfl, ht⟩
      · rename_i q1 d1 he
        split at h
        · cases h; exact ⟨by omega, rfl, ht⟩
        · cases h
          have := nearK_lt he
          exact ⟨by omega, this.2⟩
    · have := nearK_lt h
      exact ⟨by omega, this.2⟩
section MemSpecs
variable {sh : gh_Sh} {M : gh_M} {m : Nat} {σ : Nat → Nat} {l : List EnT}
theorem s4_count {post : Int32 → gh_M → Prop} (L : LMem sh M m σ) (B : memIs M m σ l) (h : post (nI l.length) M) : wp_X4_count sh M m post := by
  unfold wp_X4_count
  exact ⟨L.1, by rw [B.2.1]; exact h⟩
theorem s4_at {post : Option Nat → gh_M → Prop} {i : Int32} (L : LMem sh M m σ) (B : memIs M m σ l) (h : post ((p_ix l.length i).map (fun j => m + 2 + 5 * σ j)) M) : wp_X4_at sh M m i post := by
  unfold wp_X4_at
  have hl := B.1
  rcases p_ix_cases l.length (by omega) i with ⟨e, hc⟩ | ⟨j, hj, rfl, e⟩
  · rw [e] at h
    refine ⟨fun _ => h, fun c => ⟨L.1, fun _ => h, fun c2 => ?_⟩⟩
    rw [B.2.1] at c2
    rcases hc with hc | hc
    · exact absurd hc c
    · exact absurd hc c2
  · rw [e] at h
    refine ⟨fun c => absurd c (nI_pos (by omega)), fun _ => ⟨L.1, fun c => ?_, fun c => ⟨_, L.2.1, L.2.2.1, ?_, _, ?_, h⟩⟩⟩
    · rw [B.2.1, p_leI (by omega) (by omega)] at c; omega
    · rw [L.2.2.2.1]; exact p_in (by omega) (by omega)
    · rw [p_cl (by omega)]; exact (L.2.2.2.2.1 j (by omega)).1
/-- the number as the class has it -/
def nrF (o : Option (Nat × Nat)) : Int32 := match o with
  | none => -5
  | some (k, _) => nI k
def nrL (o : Option (Nat × Nat)) : Int32 := match o with
  | none => 11
  | some (_, d) => nI d
theorem s4_closest {post : Int32 → gh_M → Prop} {r u : Nat} {s : List Int32} {t : Int32} (L : LMem sh M m σ) (B : memIs M m σ l) (Lu : LRuler sh M u) (Lr : LRow sh M r) (R : rowIs M r s) (d1 : r + 1 < u ∨ u + 1 < r) (d2 : m + 101 < u ∨ u + 1 < m) (h : ∀ M', Fr (u + 1) (u + 2) M M' → post (nrF (nearK l s t l.length)) M') : wp_X4_closest sh M m r t u post := by
  unfold wp_X4_closest wp_X4_closest_11
  have hl := B.1
  have hs := R.1
  refine ⟨fun v => ∃ k, k ≤ l.length ∧ v.2.2.1 = nI k ∧ v.1 = nrF (nearK l s t k) ∧ v.2.1 = nrL (nearK l s t k) ∧ Fr (u + 1) (u + 2) M v.2.2.2, fun v => 20 - v.2.2.1.toNatClampNeg, ⟨0, by omega, rfl, rfl, rfl, Fr.rf _ _ _⟩, ?_⟩
  rintro ⟨x4, x5, x6, M1⟩ ⟨k, hk, hx6, hx4, hx5, hF⟩
  dsimp only at hx6 hx4 hx5 hF ⊢
  subst hx6
  subst hx4
  subst hx5
  have A := L.fr hF.2.2
  have Bm := B.fr L hF (by omega)
  unfold wb_X4_closest_11
  rw [Bm.2.1]
  refine ⟨A.1, fun c => ?_, fun c => ?_⟩
  · rw [p_leI (by omega) (by omega)] at c
    have : k = l.length := by omega
    subst this
    exact h M1 hF
  · rw [p_leI (by omega) (by omega)] at c
    have hk1 : k < l.length := by omega
    obtain ⟨a1, a2⟩ := A.2.2.2.2.1 k (by omega)
    have Le := A.2.2.2.2.2.2 (σ k) a2
    have E := Bm.2.2 k hk1
    have hm : 20 - (nI k + 1).toNatClampNeg < 20 - (nI k).toNatClampNeg := p_m8 (by omega) (by omega)
    refine ⟨_, A.2.1, A.2.2.1, by rw [A.2.2.2.1]; exact p_in (by omega) (by omega), _, by rw [p_cl (by omega)]; exact a1, Le.1, s1_tongue Le E ⟨fun c2 => ?_, fun c2 => ?_⟩⟩
    · refine ⟨_, A.2.1, A.2.2.1, by rw [A.2.2.2.1]; exact p_in (by omega) (by omega), _, by rw [p_cl (by omega)]; exact a1, Le.1, s1_pieceSigns Le ⟨Lu.1, s8_between (Lu.fr hF.2.2) (Lr.fr hF.2.2) Le.2.2.1 (R.fr hF (by omega)) E.2.1 d1 (by omega) (fun M2 hF2 => ?_)⟩⟩
      have hd := dist_max s (l.getD k en0).2.1
      have hE := E.2.1.1
      have hF3 : Fr (u + 1) (u + 2) M M2 := Fr.tr hF hF2 (by omega) (by omega) (by omega) (by omega)
      cases hn : nearK l s t k with
      | none =>
        refine ⟨fun c3 => ?_, fun c3 => ?_⟩
        · exact absurd ((p_ltI (a := 11) (by decide) (by omega)).mp c3) (by omega)
        · unfold wp_X4_closest_66
          refine ⟨⟨k + 1, by omega, nI_1 k, ?_, ?_, hF3⟩, hm⟩
          · show _ = nrF (nearK l s t (k + 1))
            unfold nearK; rw [if_pos c2, hn]; rfl
          · show _ = nrL (nearK l s t (k + 1))
            unfold nearK; rw [if_pos c2, hn]; rfl
      | some qd =>
        obtain ⟨q, d⟩ := qd
        have hq := nearK_lt hn
        have hdb : d ≤ 10 := by
          rw [hq.2.1]
          have := dist_max s (l.getD q en0).2.1
          have := (B.2.2 q (by omega)).2.1.1
          omega
        refine ⟨fun c3 => ?_, fun c3 => ?_⟩
        · have c4 := (p_ltI (by omega) (by omega)).mp c3
          unfold wp_X4_closest_66
          refine ⟨⟨k + 1, by omega, nI_1 k, ?_, ?_, hF3⟩, hm⟩
          · show _ = nrF (nearK l s t (k + 1))
            unfold nearK; rw [if_pos c2, hn]
            dsimp only
            rw [if_neg (by omega)]
          · show _ = nrL (nearK l s t (k + 1))
            unfold nearK; rw [if_pos c2, hn]
            dsimp only
            rw [if_neg (by omega)]
        · have c4 : dist s (l.getD k en0).2.1 ≤ d := Nat.not_lt.mp fun z => c3 ((p_ltI (by omega) (by omega)).mpr z)
          unfold wp_X4_closest_66
          refine ⟨⟨k + 1, by omega, nI_1 k, ?_, ?_, hF3⟩, hm⟩
          · show _ = nrF (nearK l s t (k + 1))
            unfold nearK; rw [if_pos c2, hn]
            dsimp only
            rw [if_pos c4]; rfl
          · show _ = nrL (nearK l s t (k + 1))
            unfold nearK; rw [if_pos c2, hn]
            dsimp only
            rw [if_pos c4]; rfl
    · unfold wp_X4_closest_66
      refine ⟨⟨k + 1, by omega, nI_1 k, ?_, ?_, hF⟩, hm⟩
      · show _ = nrF (nearK l s t (k + 1))
        conv => rhs; unfold nearK
        rw [if_neg c2]
      · show _ = nrL (nearK l s t (k + 1))
        conv => rhs; unfold nearK
        rw [if_neg c2]
theorem s4_copy {post : gh_M → Prop} {m' : Nat} {σ' : Nat → Nat} (L : LMem sh M m σ) (L' : LMem sh M m' σ') (B : memIs M m' σ' l) (d : m' + 101 < m ∨ m + 101 < m') (h : ∀ M', Fr m (m + 102) M M' → memIs M' m σ l → post M') : wp_X4_copy sh M m m' post := by
  unfold wp_X4_copy
  refine ⟨L'.1, L.1, ?_⟩
  unfold wp_X4_copy_10
  have hl := B.1
  refine ⟨fun v => ∃ i, i ≤ l.length ∧ v.1 = nI i ∧ Fr m (m + 102) M v.2 ∧ rI v.2 m 1 = nI l.length ∧ ∀ j, j < i → entryIs v.2 (m + 2 + 5 * σ j) (l.getD j en0), fun v => 20 - v.1.toNatClampNeg, ⟨0, by omega, rfl, Fr.w (by omega) (by omega), by rw [rI_same, B.2.1], fun j hj => by omega⟩, ?_⟩
  rintro ⟨x, M1⟩ ⟨i, hi, hx, hF, hs, hr⟩
  dsimp only at hx hF hs hr ⊢
  subst hx
  unfold wb_X4_copy_10
  rw [hs]
  have A := L.fr hF.2.2
  have A' := L'.fr hF.2.2
  refine ⟨L.1, fun c => ?_, fun c => ?_⟩
  · rw [p_leI (by omega) (by omega)] at c
    have : i = l.length := by omega
    subst this
    exact h M1 hF ⟨hl, hs, hr⟩
  · rw [p_leI (by omega) (by omega)] at c
    obtain ⟨a1, a2⟩ := A.2.2.2.2.1 i (by omega)
    obtain ⟨b1, b2⟩ := A'.2.2.2.2.1 i (by omega)
    have Le := A.2.2.2.2.2.2 (σ i) a2
    have Le' := A'.2.2.2.2.2.2 (σ' i) b2
    have E := (B.2.2 i (by omega)).fr hF (by omega)
    refine ⟨A'.1, _, A'.2.1, A'.2.2.1, by rw [A'.2.2.2.1]; exact p_in (by omega) (by decide), _, by rw [p_cl (by omega)]; exact b1, _, A.2.1, A.2.2.1, by rw [A.2.2.2.1]; exact p_in (by omega) (by decide), _, by rw [p_cl (by omega)]; exact a1, Le'.1, s1_pieceSigns Le' (s1_tongue Le' E (s1_textSigns Le' ⟨Le.1, s1_fill Le Le'.2.2.1 Le'.2.2.2.2 E.2.1 E.2.2 (by omega) (by omega) (fun M2 hF2 hE2 => ⟨⟨i + 1, by omega, nI_1 i, ?_, ?_, fun j hj => ?_⟩, p_m8 (by omega) (by omega)⟩)⟩))⟩
    · exact Fr.tr hF hF2 (by omega) (by omega) (by omega) (by omega)
    · exact (hF2.I (by omega) _).trans hs
    · by_cases e : j = i
      · subst e; exact hE2
      · have n1 := (A.2.2.2.2.1 j (by omega)).2
        have n2 : σ j ≠ σ i := fun q => e (A.2.2.2.2.2.1 j i (by omega) (by omega) q)
        exact (hr j (by omega)).fr hF2 (by omega)
end MemSpecs
