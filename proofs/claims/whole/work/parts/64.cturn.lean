/-! Matcher.match; turn -/
theorem fd_le {s B : Nat} {W : Nat → Nat → Nat} {Z : Nat → Nat} : ∀ i, (∀ j, j < i → Z j ≤ B) → ∀ x, fd s W Z i x ≤ i * B
  | 0, _, x => by unfold fd; omega
  | i + 1, h, x => by
    have ih := fd_le (s := s) (W := W) i (fun j hj => h j (by omega)) x
    have h1 : fd s W Z (i + 1) x ≤ fd s W Z i x + Z i := by conv => lhs; unfold fd
                                                            exact minK_acc s
    have h2 := h i (by omega)
    rw [Nat.succ_mul]
    omega
theorem p16_le (i : Nat) : 16 ^ (7 - i) ≤ 268435456 := by
  have : 16 ^ (7 - i) ≤ 16 ^ 7 := Nat.pow_le_pow_right (by omega) (by omega)
  exact this
theorem wW_le {c : Nat → Nat → Nat} {i k : Nat} (hc : c i k ≤ 10) (hk : k ≤ 8) : wW c i k ≤ 68719476736 := by
  unfold wW
  exact Nat.le_trans (Nat.add_le_add (Nat.mul_le_mul_right 4294967296 hc) (Nat.mul_le_mul hk (p16_le i))) (by decide)
theorem wZ_le {z : Nat → Nat} {i : Nat} (hz : z i ≤ 10) : wZ z i ≤ 68719476736 := by
  unfold wZ
  exact Nat.le_trans (Nat.add_le_add (Nat.mul_le_mul_right 4294967296 hz) (Nat.mul_le_mul_left 8 (p16_le i))) (by decide)
def cMt (N S : List PcT) (i k : Nat) : Nat := dist (N.getD i pc0).2.1 (S.getD k pc0).2.1
def zMt (N : List PcT) (i : Nat) : Nat := (N.getD i pc0).2.1.length
section CT
variable {sh : gh_Sh} {M : gh_M} {q sb nb u : Nat}
theorem bookIs.ri {M' : gh_M} {b y : Nat} {B : List PcT} (h : bookIs M b B) (d : b + 105 < y ∨ y < b) (hI : ∀ x j, x ≠ y → rI M' x j = rI M x j) : bookIs M' b B := by
  have hB := h.1
  refine ⟨hB, (hI _ _ (by omega)).trans h.2.1, fun k hk => ?_⟩
  obtain ⟨p1, p2, p3, p4, p5⟩ := h.2.2 k hk
  have rw1 : ∀ {r : Nat} {s : List Int32}, (r + 1 < y ∨ y < r) → rowIs M r s → rowIs M' r s := fun {r s} hd z => ⟨z.1, (hI _ _ (by omega)).trans z.2.1, fun i hi => (hI _ _ (by omega)).trans (z.2.2 i hi)⟩
  exact ⟨(hI _ _ (by omega)).trans p1, rw1 (by omega) p2, (hI _ _ (by omega)).trans p3, (hI _ _ (by omega)).trans p4, fun t ht => ⟨(hI _ _ (by omega)).trans (p5 t ht).1, (hI _ _ (by omega)).trans (p5 t ht).2.1, rw1 (by omega) (p5 t ht).2.2⟩⟩
theorem s3_match {post : Int32 → gh_M → Prop} {S N : List PcT} (L : LMat sh M q) (Ls : LBook sh M sb) (Bs : bookIs M sb S) (Ln : LBook sh M nb) (Bn : bookIs M nb N) (Lu : LRuler sh M u) (dq : q = u + 2) (ds : u + 10 < sb) (dn : u + 10 < nb) (h : ∀ M', Fw (u + 1) (q + 3) M M' → (∀ x j, rR M' x j = rR M x j) → rJ M' q 2 = lN (bk S.length N.length (cMt N S) (zMt N) N.length 0 * 4294967296 + lexd S.length N.length (cMt N S) (zMt N) N.length 0) → post (nI (bk S.length N.length (cMt N S) (zMt N) N.length 0)) M') : wp_X3_match sh M q sb nb u post := by
  unfold wp_X3_match
  have hs := Bs.1
  have hn := Bn.1
  have h256 := p_256 hs
  have hpos := Nat.two_pow_pos S.length
  have hNl : ∀ i, i < N.length → (N.getD i pc0).2.1.length ≤ 10 := fun i hi => (Bn.2.2 i hi).2.1.1
  have hSl : ∀ k, k < S.length → (S.getD k pc0).2.1.length ≤ 10 := fun k hk => (Bs.2.2 k hk).2.1.1
  have hcb : ∀ i k, i < N.length → k < S.length → cMt N S i k ≤ 10 := fun i k hi hk => by
    have h1 := dist_max (N.getD i pc0).2.1 (S.getD k pc0).2.1
    have h2 := hNl i hi
    have h3 := hSl k hk
    show dist _ _ ≤ 10
    omega
  have hzb : ∀ i, i < N.length → wZ (zMt N) i ≤ 68719476736 := fun i hi => wZ_le (hNl i hi)
  have hwb : ∀ i k, i < N.length → k < S.length → wW (cMt N S) i k ≤ 68719476736 := fun i k hi hk => wW_le (hcb i k hi hk) (by omega)
  have hfb : ∀ i, i ≤ N.length → ∀ x, fd S.length (wW (cMt N S)) (wZ (zMt N)) i x ≤ 549755813888 := fun i hi x => Nat.le_trans (fd_le (s := S.length) (W := wW (cMt N S)) (B := 68719476736) i (fun j hj => hzb j (by omega)) x) (Nat.le_trans (Nat.mul_le_mul_right 68719476736 (show i ≤ 8 by omega)) (by decide))
  have v1 : ∀ y, y < 256 → vp_in (nI y) (sh.2 (q + 1)) := fun y hy => by rw [L.2.2.2.2.1]; exact p_in hy (by decide)
  refine ⟨Ls.1, s0_count Ls Bs ?_⟩
  rw [i_all _ hs]
  unfold wp_X3_match_13
  refine for1 0 (2 ^ S.length) (by omega) (by omega) (fun i M1 => Fj (q + 1) M M1 ∧ ∀ x, x < i → rJ M1 (q + 1) x = lN 0) ⟨Fj.rf _ _, fun x hx => by omega⟩ ?_ ?_
  · rintro i M1 k - hi ⟨hf, hx⟩ hk
    unfold wb_X3_match_13
    dsimp only
    refine ⟨fun c => absurd ((p_ltI (by omega) (by omega)).mp c) (by omega), fun _ => ⟨L.1, _, (hf.2.2 _ _).trans L.2.1, L.2.2.2.1, v1 i (by omega), hk _ ⟨hf.w _ _ _, fun x hx2 => ?_⟩⟩⟩
    rw [p_cl (by omega)]
    by_cases e : x = i
    · subst e; rw [rJ_same]; rfl
    · rw [rJ_ne _ _ (Or.inr e)]; exact hx x (by omega)
  rintro M1 k ⟨hf, hx⟩
  unfold wb_X3_match_13
  dsimp only
  refine ⟨fun _ => ?_, fun c => absurd ((p_ltI (by omega) (by omega)).mpr (by omega)) c⟩
  unfold wp_X3_match_37
  refine for1 0 N.length (by omega) (by omega) (fun i M2 => (∀ x j, rR M2 x j = rR M x j) ∧ (∀ x j, x ≠ q + 1 → x ≠ q + 2 → rJ M2 x j = rJ M x j) ∧ (∀ x j, x ≠ u + 1 → rI M2 x j = rI M x j) ∧ ∀ x, x < 2 ^ S.length → rJ M2 (q + 1) x = lN (fd S.length (wW (cMt N S)) (wZ (zMt N)) i x)) ⟨hf.2.2, fun x j h1 h2 => hf.2.1 x j h1, fun x j _ => hf.1 x j, fun x hx2 => hx x hx2⟩ ?_ ?_
  · rintro i M2 k2 - hi ⟨hr, hJ, hI, hv⟩ hk2
    unfold wb_X3_match_37 wp_X3_match_99
    dsimp only
    have L2 : LMat sh M2 q := ⟨L.1, (hr _ _).trans L.2.1, (hr _ _).trans L.2.2.1, L.2.2.2⟩
    have Ln2 := Ln.fr hr
    have Ls2 := Ls.fr hr
    have Bn2 := bookIs.ri Bn (M' := M2) (y := u + 1) (by omega) hI
    have Bs2 := bookIs.ri Bs (M' := M2) (y := u + 1) (by omega) hI
    refine ⟨Ln.1, s0_count Ln2 Bn2 ⟨fun c => absurd ((p_leI (by omega) (by omega)).mp c) (by omega), fun _ => s0_at Ln2 Bn2 ?_⟩⟩
    rw [p_ix_nI hi (by omega)]
    refine ⟨fun c => (by cases c), fun x c => ?_⟩
    cases c
    have Lp := (Ln2.2.2.2.2 i (by omega)).2
    have P := Bn2.2.2 i hi
    refine ⟨Lp.1, s5_signs Lp ⟨L.1, s3_weigh L2 (by omega) Lp.2.2.1 P.2.1 Ls2 Bs2 (Lu.fr hr) (show nb + 2 + 13 * i + 1 + 1 < u ∨ u + 1 < nb + 2 + 13 * i + 1 by omega) (by omega) (by omega) (show nb + 2 + 13 * i + 1 + 1 < q + 2 ∨ q + 2 < nb + 2 + 13 * i + 1 by omega) (by omega) (fun M3 f3 r3 j3 i3 w3 => ?_)⟩⟩
    have hr3 : ∀ x j, rR M3 x j = rR M x j := fun x j => (r3 x j).trans (hr x j)
    have Lp3 := Lp.fr r3
    have P3 := ((bookIs.ri Bn2 (M' := M3) (y := u + 1) (by omega) i3).2.2 i hi)
    have Bs3 := bookIs.ri Bs2 (M' := M3) (y := u + 1) (by omega) i3
    refine s5_signs Lp3 ⟨Lp3.2.2.1.1, s7_size Lp3.2.2.1 P3.2.1 (s3_worthOf (show (N.getD i pc0).2.1.length < 1000 by have := hNl i hi; omega) (d := 8) (by omega) (by omega) ⟨Ls.1, s0_count (Ls2.fr r3) Bs3 ?_⟩)⟩
    have L3 : LMat sh M3 q := ⟨L.1, (hr3 _ _).trans L.2.1, (hr3 _ _).trans L.2.2.1, L.2.2.2⟩
    refine s3_giveOne (F := fd S.length (wW (cMt N S)) (wZ (zMt N)) i) (W := wW (cMt N S) i) (Z := wZ (zMt N) i) L3 hs (by have := hzb i hi; omega) (fun x hx2 => by have := hfb i (by omega) x; omega) (fun j hj => by have := hwb i j hi hj; omega) (fun x hx2 => by rw [j3 _ _ (by omega)]; exact hv x hx2) (fun j hj => w3 j hj) (fun M4 f4 v4 => hk2 _ ⟨fun x j => (f4.2.2 x j).trans (hr3 x j), fun x j h1 h2 => (f4.2.1 x j h1).trans ((j3 x j h2).trans (hJ x j h1 h2)), fun x j h1 => (f4.1 x j).trans ((i3 x j h1).trans (hI x j h1)), fun x hx2 => ?_⟩)
    rw [v4 x hx2]
    conv => rhs; unfold fd
  · rintro M2 k2 ⟨hr, hJ, hI, hv⟩
    unfold wb_X3_match_37
    dsimp only
    have Ln2 := Ln.fr hr
    have Bn2 := bookIs.ri Bn (M' := M2) (y := u + 1) (by omega) hI
    refine ⟨Ln.1, s0_count Ln2 Bn2 ⟨fun _ => ⟨L.1, _, (hr _ _).trans L.2.1, L.2.2.2.1, v1 _ (by omega), ?_⟩, fun c => absurd ((p_leI (by omega) (by omega)).mpr (Nat.le_refl _)) c⟩⟩
    have hK := hfb N.length (Nat.le_refl _) (2 ^ S.length - 1)
    have e1 : fd S.length (wW (cMt N S)) (wZ (zMt N)) N.length (2 ^ S.length - 1) = bk S.length N.length (cMt N S) (zMt N) N.length 0 * 4294967296 + lexd S.length N.length (cMt N S) (zMt N) N.length 0 := by
      rw [fd_bk, bk_key hs hn _ (Nat.le_refl _)]
    have e2 := key_cost (c := cMt N S) (z := zMt N) hs hn
    rw [p_cl (by omega), hv _ (by omega), rJ_same, e1, show (32 : Int32) = nI 32 from rfl, q_shr (by rw [← e1]; omega) (by omega), lN_i, show (2 : Nat) ^ 32 = 4294967296 from rfl, e2]
    refine h _ (fun x j hx2 => ⟨hI x j (by omega), ?_, hr x j⟩) hr (rJ_same _ _ _ _)
    rw [rJ_ne _ _ (by omega)]
    exact hJ x j (by omega) (by omega)
end CT
