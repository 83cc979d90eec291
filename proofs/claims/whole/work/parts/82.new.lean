/-! the class made new, the reference made new -/
def aInit : AbS := ([], [], [], [], [], 6, [], none)
theorem Sw.rf (lo hi : Nat) (sh : gh_Sh) : Sw lo hi sh sh := fun _ _ => ⟨rfl, rfl⟩
/-- what stays but for the object's own fields -/
def Fo (y lo hi : Nat) (sh : gh_Sh) (M : gh_M) (sh' : gh_Sh) (M' : gh_M) : Prop := Sw lo hi sh sh' ∧ ∀ a j, a ≠ y → (a < lo ∨ hi ≤ a) → rI M' a j = rI M a j ∧ rJ M' a j = rJ M a j ∧ rR M' a j = rR M a j
theorem Fo.stop {y lo hi : Nat} {sh : gh_Sh} {M M' : gh_M} (f : Fw y (y + 1) M M') : Fo y lo hi sh M sh M' := ⟨Sw.rf _ _ _, fun a j h _ => f a j (by omega)⟩
theorem Fo.step {y lo hi l h lo2 : Nat} {sh sh1 sh' : gh_Sh} {M M1 M2 M' : gh_M} (f0 : Fw y (y + 1) M M1) (s1 : Sw l h sh sh1) (f1 : Fw l h M1 M2) (t : Fo y lo2 hi sh1 M2 sh' M') (e1 : lo ≤ l) (e2 : h ≤ hi) (e3 : lo ≤ lo2) : Fo y lo hi sh M sh' M' := by
  refine ⟨(s1.mono e1 e2).t (t.1.mono e3 (Nat.le_refl _)), fun a j hy ha => ?_⟩
  obtain ⟨p1, p2, p3⟩ := f0 a j (by omega)
  obtain ⟨q1, q2, q3⟩ := f1 a j (by omega)
  obtain ⟨r1, r2, r3⟩ := t.2 a j hy (by omega)
  exact ⟨r1.trans (q1.trans p1), r2.trans (q2.trans p2), r3.trans (q3.trans p3)⟩
theorem Fo.use {y lo hi : Nat} {sh sh' : gh_Sh} {M M' : gh_M} (h : Fo y lo hi sh M sh' M') : ∃ Mx, Fw lo hi M Mx ∧ Fw y (y + 1) Mx M' := by
  refine ⟨(fun a j => if a = y then M.1 a j else M'.1 a j, fun a j => if a = y then M.2.1 a j else M'.2.1 a j, fun a j => if a = y then M.2.2 a j else M'.2.2 a j), fun a j ha => ?_, fun a j ha => ?_⟩
  · by_cases e : a = y
    · exact ⟨if_pos e, if_pos e, if_pos e⟩
    · obtain ⟨h1, h2, h3⟩ := h.2 a j e ha
      exact ⟨(if_neg e).trans h1, (if_neg e).trans h2, (if_neg e).trans h3⟩
  · have e : a ≠ y := by omega
    exact ⟨(show (if a = y then M.1 a j else M'.1 a j) = M'.1 a j from if_neg e).symm, (show (if a = y then M.2.1 a j else M'.2.1 a j) = M'.2.1 a j from if_neg e).symm, (show (if a = y then M.2.2 a j else M'.2.2 a j) = M'.2.2 a j from if_neg e).symm⟩
def ofs (k : Nat) : Nat := [1, 3, 5, 8, 13, 17, 22, 124, 226, 332, 438].getD k 0
def FRs (y k : Nat) (M : gh_M) : Prop := ∀ j, j < k → rR M y j = some (y + ofs j)
theorem FRs.step {y k lo hi : Nat} {M M1 : gh_M} (h : FRs y k M) (f : Fw lo hi M M1) (d : y < lo) : FRs y (k + 1) (wR M1 y k (some (y + ofs k))) := fun j hj => by
  by_cases e : j = k
  · subst e; exact rR_same _ _ _ _
  · rw [rR_ne _ _ (by omega), (f _ _ (by omega)).2.2]; exact h j (by omega)
section InitC
variable {b n : Nat} {sh : gh_Sh} {M : gh_M} {post : gh_Sh → gh_M → Prop} {y : Nat}
theorem i11 (hy : y = b + n) (hp : ∀ sh' M', Sw y (y + 544) sh sh' → Fw y (y + 544) M M' → RC sh' y aInit M' → post sh' M') : wp_X11_init b (shU sh y 11 0) (n + 1) (zM M y) y post := by
  unfold wp_X11_init
  rw [show b + (n + 1) = y + 1 by omega, show b + (n + 1 + 2) = y + 3 by omega, show b + (n + 1 + 4) = y + 5 by omega, show b + (n + 1 + 7) = y + 8 by omega, show b + (n + 1 + 12) = y + 13 by omega, show b + (n + 1 + 16) = y + 17 by omega, show b + (n + 1 + 21) = y + 22 by omega, show b + (n + 1 + 123) = y + 124 by omega, show b + (n + 1 + 225) = y + 226 by omega, show b + (n + 1 + 331) = y + 332 by omega, show b + (n + 1 + 437) = y + 438 by omega]
  refine ⟨by decide, by decide, by decide, by decide, i7 (y := y + 1) (by omega) (fun s1 M1 a1 b1 l1 r1 => ?_)⟩
  have y1 : s1.1 y = 11 := by rw [(a1 y (by omega)).1, shU1]
  have g0 : FRs y 0 (zM M y) := fun j hj => absurd hj (Nat.not_lt_zero j)
  have g1 : FRs y 1 (wR M1 y 0 (some (y + 1))) := g0.step b1 (by omega)
  refine ⟨y1, by decide, by decide, by decide, by decide, i8 (y := y + 3) (by omega) (fun s2 M2 a2 b2 l2 => ?_)⟩
  have y2 : s2.1 y = 11 := (a2 y (by omega)).1.trans y1
  have g2 : FRs y 2 (wR M2 y 1 (some (y + 3))) := g1.step b2 (by omega)
  refine ⟨y2, by decide, by decide, by decide, by decide, i3 (y := y + 5) (by omega) (fun s3 M3 a3 b3 l3 => ?_)⟩
  have y3 : s3.1 y = 11 := (a3 y (by omega)).1.trans y2
  have g3 : FRs y 3 (wR M3 y 2 (some (y + 5))) := g2.step b3 (by omega)
  refine ⟨y3, by decide, by decide, by decide, by decide, i6 (y := y + 8) (by omega) (fun s4 M4 a4 b4 l4 r4 => ?_)⟩
  have y4 : s4.1 y = 11 := (a4 y (by omega)).1.trans y3
  have g4 : FRs y 4 (wR M4 y 3 (some (y + 8))) := g3.step b4 (by omega)
  refine ⟨y4, by decide, by decide, by decide, by decide, i2 (y := y + 13) (by omega) (fun s5 M5 a5 b5 l5 r5 => ?_)⟩
  have y5 : s5.1 y = 11 := (a5 y (by omega)).1.trans y4
  have g5 : FRs y 5 (wR M5 y 4 (some (y + 13))) := g4.step b5 (by omega)
  refine ⟨y5, by decide, by decide, by decide, by decide, i9 (y := y + 17) (by omega) (fun s6 M6 a6 b6 l6 r6 => ?_)⟩
  have y6 : s6.1 y = 11 := (a6 y (by omega)).1.trans y5
  have g6 : FRs y 6 (wR M6 y 5 (some (y + 17))) := g5.step b6 (by omega)
  refine ⟨y6, by decide, by decide, by decide, by decide, i4 (y := y + 22) (by omega) (fun s7 M7 a7 b7 l7 r7 => ?_)⟩
  have y7 : s7.1 y = 11 := (a7 y (by omega)).1.trans y6
  have g7 : FRs y 7 (wR M7 y 6 (some (y + 22))) := g6.step b7 (by omega)
  refine ⟨y7, by decide, by decide, by decide, by decide, i4 (y := y + 124) (by omega) (fun s8 M8 a8 b8 l8 r8 => ?_)⟩
  have y8 : s8.1 y = 11 := (a8 y (by omega)).1.trans y7
  have g8 : FRs y 8 (wR M8 y 7 (some (y + 124))) := g7.step b8 (by omega)
  refine ⟨y8, by decide, by decide, by decide, by decide, i0 (y := y + 226) (by omega) (fun s9 M9 a9 b9 l9 r9 => ?_)⟩
  have y9 : s9.1 y = 11 := (a9 y (by omega)).1.trans y8
  have g9 : FRs y 9 (wR M9 y 8 (some (y + 226))) := g8.step b9 (by omega)
  refine ⟨y9, by decide, by decide, by decide, by decide, i0 (y := y + 332) (by omega) (fun s10 M10 a10 b10 l10 r10 => ?_)⟩
  have y10 : s10.1 y = 11 := (a10 y (by omega)).1.trans y9
  have g10 : FRs y 10 (wR M10 y 9 (some (y + 332))) := g9.step b10 (by omega)
  refine ⟨y10, by decide, by decide, by decide, by decide, i0 (y := y + 438) (by omega) (fun s11 M11 a11 b11 l11 r11 => ?_)⟩
  have y11 : s11.1 y = 11 := (a11 y (by omega)).1.trans y10
  have g11 : FRs y 11 (wR M11 y 10 (some (y + 438))) := g10.step b11 (by omega)
  refine ⟨y11, ?_⟩
  rintro M78 rfl
  have t11 : Fo y (y + 544) (y + 544) s11 M11 s11 (wI (wI (wR M11 y 10 (some (y + 438))) y 11 6) y 12 0) := Fo.stop (((Fw.r (by omega) (by omega)).t (Fw.i (by omega) (by omega))).t (Fw.i (by omega) (by omega)))
  have t10 : Fo y (y + 438) (y + 544) s10 M10 s11 _ := Fo.step (Fw.r (a := y) (k := 9) (v := some (y + 332)) (by omega) (by omega)) a11 b11 t11 (by omega) (by omega) (by omega)
  have t9 : Fo y (y + 332) (y + 544) s9 M9 s11 _ := Fo.step (Fw.r (a := y) (k := 8) (v := some (y + 226)) (by omega) (by omega)) a10 b10 t10 (by omega) (by omega) (by omega)
  have t8 : Fo y (y + 226) (y + 544) s8 M8 s11 _ := Fo.step (Fw.r (a := y) (k := 7) (v := some (y + 124)) (by omega) (by omega)) a9 b9 t9 (by omega) (by omega) (by omega)
  have t7 : Fo y (y + 124) (y + 544) s7 M7 s11 _ := Fo.step (Fw.r (a := y) (k := 6) (v := some (y + 22)) (by omega) (by omega)) a8 b8 t8 (by omega) (by omega) (by omega)
  have t6 : Fo y (y + 22) (y + 544) s6 M6 s11 _ := Fo.step (Fw.r (a := y) (k := 5) (v := some (y + 17)) (by omega) (by omega)) a7 b7 t7 (by omega) (by omega) (by omega)
  have t5 : Fo y (y + 17) (y + 544) s5 M5 s11 _ := Fo.step (Fw.r (a := y) (k := 4) (v := some (y + 13)) (by omega) (by omega)) a6 b6 t6 (by omega) (by omega) (by omega)
  have t4 : Fo y (y + 13) (y + 544) s4 M4 s11 _ := Fo.step (Fw.r (a := y) (k := 3) (v := some (y + 8)) (by omega) (by omega)) a5 b5 t5 (by omega) (by omega) (by omega)
  have t3 : Fo y (y + 8) (y + 544) s3 M3 s11 _ := Fo.step (Fw.r (a := y) (k := 2) (v := some (y + 5)) (by omega) (by omega)) a4 b4 t4 (by omega) (by omega) (by omega)
  have t2 : Fo y (y + 5) (y + 544) s2 M2 s11 _ := Fo.step (Fw.r (a := y) (k := 1) (v := some (y + 3)) (by omega) (by omega)) a3 b3 t3 (by omega) (by omega) (by omega)
  have t1 : Fo y (y + 3) (y + 544) s1 M1 s11 _ := Fo.step (Fw.r (a := y) (k := 0) (v := some (y + 1)) (by omega) (by omega)) a2 b2 t2 (by omega) (by omega) (by omega)
  have t0 : Fo y (y + 1) (y + 544) (shU sh y 11 0) M s11 _ := Fo.step (Fw.z (a := y) (by omega) (by omega)) a1 b1 t1 (by omega) (by omega) (by omega)
  obtain ⟨X1, u1, v1⟩ := t1.use
  obtain ⟨X2, u2, v2⟩ := t2.use
  obtain ⟨X3, u3, v3⟩ := t3.use
  obtain ⟨X4, u4, v4⟩ := t4.use
  obtain ⟨X5, u5, v5⟩ := t5.use
  obtain ⟨X6, u6, v6⟩ := t6.use
  obtain ⟨X7, u7, v7⟩ := t7.use
  obtain ⟨X8, u8, v8⟩ := t8.use
  obtain ⟨X9, u9, v9⟩ := t9.use
  obtain ⟨X10, u10, v10⟩ := t10.use
  obtain ⟨X11, u11, v11⟩ := t11.use
  have G : ∀ j, j < 11 → rR (wI (wI (wR M11 y 10 (some (y + 438))) y 11 6) y 12 0) y j = some (y + ofs j) := fun j hj => g11 j hj
  refine ⟨rfl, by decide, by decide, hp _ _ ((Sw.u (by omega) (by omega)).t (t0.1.mono (by omega) (by omega))) (fun a j ha => t0.2 a j (by omega) (by omega)) ⟨y + 332, y + 438, fun k => k, fun k => k, ⟨⟨y11, G 0 (by decide), G 1 (by decide), G 2 (by decide), G 3 (by decide), G 4 (by decide), G 5 (by decide), G 6 (by decide), G 7 (by decide), G 8 (by decide), G 9 (by decide), G 10 (by decide), Or.inl ⟨rfl, rfl⟩⟩, ((l1.fw u1 (by omega)).fw v1 (by omega)).sw t1.1 (by omega), ((l2.fw u2 (by omega)).fw v2 (by omega)).sw t2.1 (by omega), ((l3.fw u3 (by omega)).fw v3 (by omega)).sw t3.1 (by omega), ((l4.fw u4 (by omega)).fw v4 (by omega)).sw t4.1 (by omega), ((l5.fw u5 (by omega)).fw v5 (by omega)).sw t5.1 (by omega), ((l6.fw u6 (by omega)).fw v6 (by omega)).sw t6.1 (by omega), ((l7.fw u7 (by omega)).fw v7 (by omega)).sw t7.1 (by omega), ((l8.fw u8 (by omega)).fw v8 (by omega)).sw t8.1 (by omega), ((l9.fw u9 (by omega)).fw v9 (by omega)).sw t9.1 (by omega), ((l10.fw u10 (by omega)).fw v10 (by omega)).sw t10.1 (by omega), ((l11.fw u11 (by omega)).fw v11 (by omega)).sw t11.1 (by omega)⟩, (r1.fw u1 (by omega)).fw v1 (by omega), (r10.fw u10 (by omega)).fw v10 (by omega), (r11.fw u11 (by omega)).fw v11 (by omega), (r5.fw u5 (by omega)).fw v5 (by omega), (r6.fw u6 (by omega)).fw v6 (by omega), ?_, memIs.fw (l7.fw u7 (by omega)) (memIs.fw l7 r7 u7 (by omega)) v7 (by omega), ?_, (r4.fw u4 (by omega)).fw v4 (by omega)⟩⟩
  · exact (rI_ne _ _ (by omega)).trans (rI_same _ _ _ _)
  · exact rI_same _ _ _ _
end InitC
/-- the reference's first k rows are there -/
def MI (y : Nat) (sh : gh_Sh) (M : gh_M) (k : Nat) (v : Int32) (s : gh_Sh) (M' : gh_M) : Prop := s.1 y = 12 ∧ (∀ x ∈ mdTab.take k, rR M' y x.1 = some (y + x.2.1) ∧ s.1 (y + x.2.1) = 13 ∧ s.2 (y + x.2.1) = x.2.2) ∧ (∀ j, j ≠ 24 → rI M' y j = 0) ∧ rI M' y 24 = v ∧ Sw y (y + 39) sh s ∧ Fw y (y + 39) M M'
theorem MI.step {y k f len c : Nat} {sh s : gh_Sh} {M M' : gh_M} {v : Int32} (h : MI y sh M k v s M') (ht : mdTab.take (k + 1) = mdTab.take k ++ [(f, k + 1, len)]) (hd : ∀ x ∈ mdTab.take k, x.1 ≠ f ∧ x.2.1 < k + 1) (hk : k < 38) (hc : c = y + (k + 1)) : MI y sh M (k + 1) v (shU s c 13 len) (wR (zM M' c) y f (some c)) := by
  subst hc
  obtain ⟨h1, h2, h3, h4, h5, h6⟩ := h
  refine ⟨by rw [shN1 _ (by omega)]; exact h1, fun x hx => ?_, fun j hj => by rw [rI_wR, zM_In _ (by omega)]; exact h3 j hj, by rw [rI_wR, zM_In _ (by omega)]; exact h4, h5.t (Sw.u (by omega) (by omega)), h6.t ((Fw.z (by omega) (by omega)).t (Fw.r (by omega) (by omega)))⟩
  rw [ht, List.mem_append, List.mem_singleton] at hx
  rcases hx with hx | rfl
  · obtain ⟨q1, q2⟩ := hd x hx
    obtain ⟨r1, r2, r3⟩ := h2 x hx
    exact ⟨by rw [rR_ne _ _ (Or.inr q1), zM_Rn _ (by omega)]; exact r1, by rw [shN1 _ (by omega)]; exact r2, by rw [shN2 _ (by omega)]; exact r3⟩
  · exact ⟨rR_same _ _ _ _, shU1 _ _ _ _, shU2 _ _ _ _⟩
theorem MI.lim {y k : Nat} {sh s : gh_Sh} {M M' : gh_M} {v : Int32} (h : MI y sh M k v s M') : MI y sh M k 6 s (wI M' y 24 6) := ⟨h.1, h.2.1, fun j hj => by rw [rI_ne _ _ (Or.inr hj)]; exact h.2.2.1 j hj, rI_same _ _ _ _, h.2.2.2.2.1, h.2.2.2.2.2.t (Fw.i (by omega) (by omega))⟩
section InitM
variable {b n : Nat} {sh : gh_Sh} {M : gh_M} {post : gh_Sh → gh_M → Prop} {y : Nat}
set_option maxRecDepth 10000 in
theorem i12 (hy : y = b + n) (hp : ∀ sh' M', Sw y (y + 39) sh sh' → Fw y (y + 39) M M' → RM sh' y aInit M' → post sh' M') : wp_X12_init b (shU sh y 12 0) (n + 1) (zM M y) y post := by
  unfold wp_X12_init
  have m0 : MI y sh M 0 0 (shU sh y 12 0) (zM M y) := ⟨shU1 _ _ _ _, fun x hx => absurd hx List.not_mem_nil, fun j _ => zM_I _ _ _, zM_I _ _ _, Sw.u (by omega) (by omega), Fw.z (by omega) (by omega)⟩
  refine ⟨by decide, ?_⟩
  refine ⟨by decide, ?_⟩
  have m1 := MI.step (c := b + (n + 1)) (f := 1) (len := 10) m0 rfl (by decide) (by decide) (by omega)
  refine ⟨m1.1, ?_⟩
  refine ⟨by decide, ?_⟩
  refine ⟨by decide, ?_⟩
  have m2 := MI.step (c := b + (n + 1 + 1)) (f := 3) (len := 8) m1 rfl (by decide) (by decide) (by omega)
  refine ⟨m2.1, ?_⟩
  refine ⟨by decide, ?_⟩
  refine ⟨by decide, ?_⟩
  intro M9 eM9; subst eM9
  have m3 := MI.step (c := b + (n + 1 + 2)) (f := 4) (len := 8) m2 rfl (by decide) (by decide) (by omega)
  refine ⟨m3.1, ?_⟩
  refine ⟨by decide, ?_⟩
  refine ⟨by decide, ?_⟩
  have m4 := MI.step (c := b + (n + 1 + 3)) (f := 5) (len := 64) m3 rfl (by decide) (by decide) (by omega)
  refine ⟨m4.1, ?_⟩
  refine ⟨by decide, ?_⟩
  refine ⟨by decide, ?_⟩
  intro M16 eM16; subst eM16
  have m5 := MI.step (c := b + (n + 1 + 4)) (f := 6) (len := 8) m4 rfl (by decide) (by decide) (by omega)
  refine ⟨m5.1, ?_⟩
  refine ⟨by decide, ?_⟩
  refine ⟨by decide, ?_⟩
  have m6 := MI.step (c := b + (n + 1 + 5)) (f := 7) (len := 8) m5 rfl (by decide) (by decide) (by omega)
  refine ⟨m6.1, ?_⟩
  refine ⟨by decide, ?_⟩
  refine ⟨by decide, ?_⟩
  intro M23 eM23; subst eM23
  have m7 := MI.step (c := b + (n + 1 + 6)) (f := 9) (len := 8) m6 rfl (by decide) (by decide) (by omega)
  refine ⟨m7.1, ?_⟩
  refine ⟨by decide, ?_⟩
  refine ⟨by decide, ?_⟩
  have m8 := MI.step (c := b + (n + 1 + 7)) (f := 10) (len := 8) m7 rfl (by decide) (by decide) (by omega)
  refine ⟨m8.1, ?_⟩
  refine ⟨by decide, ?_⟩
  refine ⟨by decide, ?_⟩
  intro M30 eM30; subst eM30
  have m9 := MI.step (c := b + (n + 1 + 8)) (f := 11) (len := 64) m8 rfl (by decide) (by decide) (by omega)
  refine ⟨m9.1, ?_⟩
  refine ⟨by decide, ?_⟩
  refine ⟨by decide, ?_⟩
  have m10 := MI.step (c := b + (n + 1 + 9)) (f := 12) (len := 24) m9 rfl (by decide) (by decide) (by omega)
  refine ⟨m10.1, ?_⟩
  refine ⟨by decide, ?_⟩
  refine ⟨by decide, ?_⟩
  intro M37 eM37; subst eM37
  have m11 := MI.step (c := b + (n + 1 + 10)) (f := 13) (len := 24) m10 rfl (by decide) (by decide) (by omega)
  refine ⟨m11.1, ?_⟩
  refine ⟨by decide, ?_⟩
  refine ⟨by decide, ?_⟩
  have m12 := MI.step (c := b + (n + 1 + 11)) (f := 14) (len := 24) m11 rfl (by decide) (by decide) (by omega)
  refine ⟨m12.1, ?_⟩
  refine ⟨by decide, ?_⟩
  refine ⟨by decide, ?_⟩
  intro M44 eM44; subst eM44
  have m13 := MI.step (c := b + (n + 1 + 12)) (f := 15) (len := 240) m12 rfl (by decide) (by decide) (by omega)
  refine ⟨m13.1, ?_⟩
  refine ⟨by decide, ?_⟩
  refine ⟨by decide, ?_⟩
  have m14 := MI.step (c := b + (n + 1 + 13)) (f := 17) (len := 5) m13 rfl (by decide) (by decide) (by omega)
  refine ⟨m14.1, ?_⟩
  refine ⟨by decide, ?_⟩
  refine ⟨by decide, ?_⟩
  intro M51 eM51; subst eM51
  have m15 := MI.step (c := b + (n + 1 + 14)) (f := 18) (len := 5) m14 rfl (by decide) (by decide) (by omega)
  refine ⟨m15.1, ?_⟩
  refine ⟨by decide, ?_⟩
  refine ⟨by decide, ?_⟩
  have m16 := MI.step (c := b + (n + 1 + 15)) (f := 19) (len := 5) m15 rfl (by decide) (by decide) (by omega)
  refine ⟨m16.1, ?_⟩
  refine ⟨by decide, ?_⟩
  refine ⟨by decide, ?_⟩
  intro M58 eM58; subst eM58
  have m17 := MI.step (c := b + (n + 1 + 16)) (f := 21) (len := 10) m16 rfl (by decide) (by decide) (by omega)
  refine ⟨m17.1, ?_⟩
  refine ⟨by decide, ?_⟩
  refine ⟨by decide, ?_⟩
  have m18 := MI.step (c := b + (n + 1 + 17)) (f := 22) (len := 10) m17 rfl (by decide) (by decide) (by omega)
  refine ⟨m18.1, ?_⟩
  refine ⟨by decide, ?_⟩
  refine ⟨by decide, ?_⟩
  intro M65 eM65; subst eM65
  have m19 := MI.step (c := b + (n + 1 + 18)) (f := 23) (len := 10) m18 rfl (by decide) (by decide) (by omega)
  refine ⟨m19.1, ?_⟩
  refine ⟨by decide, ?_⟩
  refine ⟨by decide, ?_⟩
  intro M69 eM69; subst eM69
  have m20 := MI.step (c := b + (n + 1 + 19)) (f := 26) (len := 420) (MI.lim m19) rfl (by decide) (by decide) (by omega)
  refine ⟨m20.1, ?_⟩
  refine ⟨by decide, ?_⟩
  refine ⟨by decide, ?_⟩
  have m21 := MI.step (c := b + (n + 1 + 20)) (f := 28) (len := 2) m20 rfl (by decide) (by decide) (by omega)
  refine ⟨m21.1, ?_⟩
  refine ⟨by decide, ?_⟩
  refine ⟨by decide, ?_⟩
  intro M76 eM76; subst eM76
  have m22 := MI.step (c := b + (n + 1 + 21)) (f := 29) (len := 96) m21 rfl (by decide) (by decide) (by omega)
  refine ⟨m22.1, ?_⟩
  refine ⟨by decide, ?_⟩
  refine ⟨by decide, ?_⟩
  have m23 := MI.step (c := b + (n + 1 + 22)) (f := 30) (len := 312) m22 rfl (by decide) (by decide) (by omega)
  refine ⟨m23.1, ?_⟩
  refine ⟨by decide, ?_⟩
  refine ⟨by decide, ?_⟩
  intro M83 eM83; subst eM83
  have m24 := MI.step (c := b + (n + 1 + 23)) (f := 31) (len := 420) m23 rfl (by decide) (by decide) (by omega)
  refine ⟨m24.1, ?_⟩
  refine ⟨by decide, ?_⟩
  refine ⟨by decide, ?_⟩
  have m25 := MI.step (c := b + (n + 1 + 24)) (f := 32) (len := 9) m24 rfl (by decide) (by decide) (by omega)
  refine ⟨m25.1, ?_⟩
  refine ⟨by decide, ?_⟩
  refine ⟨by decide, ?_⟩
  intro M90 eM90; subst eM90
  have m26 := MI.step (c := b + (n + 1 + 25)) (f := 33) (len := 9) m25 rfl (by decide) (by decide) (by omega)
  refine ⟨m26.1, ?_⟩
  refine ⟨by decide, ?_⟩
  refine ⟨by decide, ?_⟩
  have m27 := MI.step (c := b + (n + 1 + 26)) (f := 34) (len := 64) m26 rfl (by decide) (by decide) (by omega)
  refine ⟨m27.1, ?_⟩
  refine ⟨by decide, ?_⟩
  refine ⟨by decide, ?_⟩
  intro M97 eM97; subst eM97
  have m28 := MI.step (c := b + (n + 1 + 27)) (f := 35) (len := 2304) m27 rfl (by decide) (by decide) (by omega)
  refine ⟨m28.1, ?_⟩
  refine ⟨by decide, ?_⟩
  refine ⟨by decide, ?_⟩
  have m29 := MI.step (c := b + (n + 1 + 28)) (f := 36) (len := 8) m28 rfl (by decide) (by decide) (by omega)
  refine ⟨m29.1, ?_⟩
  refine ⟨by decide, ?_⟩
  refine ⟨by decide, ?_⟩
  intro M104 eM104; subst eM104
  have m30 := MI.step (c := b + (n + 1 + 29)) (f := 37) (len := 24) m29 rfl (by decide) (by decide) (by omega)
  refine ⟨m30.1, ?_⟩
  refine ⟨by decide, ?_⟩
  refine ⟨by decide, ?_⟩
  have m31 := MI.step (c := b + (n + 1 + 30)) (f := 38) (len := 24) m30 rfl (by decide) (by decide) (by omega)
  refine ⟨m31.1, ?_⟩
  refine ⟨by decide, ?_⟩
  refine ⟨by decide, ?_⟩
  intro M111 eM111; subst eM111
  have m32 := MI.step (c := b + (n + 1 + 31)) (f := 39) (len := 24) m31 rfl (by decide) (by decide) (by omega)
  refine ⟨m32.1, ?_⟩
  refine ⟨by decide, ?_⟩
  refine ⟨by decide, ?_⟩
  have m33 := MI.step (c := b + (n + 1 + 32)) (f := 40) (len := 240) m32 rfl (by decide) (by decide) (by omega)
  refine ⟨m33.1, ?_⟩
  refine ⟨by decide, ?_⟩
  refine ⟨by decide, ?_⟩
  intro M118 eM118; subst eM118
  have m34 := MI.step (c := b + (n + 1 + 33)) (f := 43) (len := 8) m33 rfl (by decide) (by decide) (by omega)
  refine ⟨m34.1, ?_⟩
  refine ⟨by decide, ?_⟩
  refine ⟨by decide, ?_⟩
  have m35 := MI.step (c := b + (n + 1 + 34)) (f := 44) (len := 8) m34 rfl (by decide) (by decide) (by omega)
  refine ⟨m35.1, ?_⟩
  refine ⟨by decide, ?_⟩
  refine ⟨by decide, ?_⟩
  intro M125 eM125; subst eM125
  have m36 := MI.step (c := b + (n + 1 + 35)) (f := 45) (len := 8) m35 rfl (by decide) (by decide) (by omega)
  refine ⟨m36.1, ?_⟩
  refine ⟨by decide, ?_⟩
  refine ⟨by decide, ?_⟩
  have m37 := MI.step (c := b + (n + 1 + 36)) (f := 46) (len := 5) m36 rfl (by decide) (by decide) (by omega)
  refine ⟨m37.1, ?_⟩
  refine ⟨by decide, ?_⟩
  refine ⟨by decide, ?_⟩
  intro M132 eM132; subst eM132
  have m38 := MI.step (c := b + (n + 1 + 37)) (f := 47) (len := 8) m37 rfl (by decide) (by decide) (by omega)
  refine ⟨m38.1, ?_⟩
  refine ⟨rfl, ?_⟩
  refine ⟨by decide, ?_⟩
  refine ⟨by decide, ?_⟩
  obtain ⟨h1, h2, h3, h4, h5, h6⟩ := m38
  have nil : ∀ (P : Nat → Prop) (i : Nat), i < 0 → P i := fun P i hi => absurd hi (Nat.not_lt_zero i)
  refine hp _ _ h5 h6 ⟨⟨h1, fun x hx => h2 x hx⟩, ⟨Nat.zero_le _, h3 0 (by decide), nil _⟩, ⟨Nat.zero_le _, h3 2 (by decide), nil _⟩, ⟨Nat.zero_le _, h3 8 (by decide), nil _⟩, ⟨Nat.zero_le _, h3 16 (by decide), nil _⟩, ⟨tm_nil, h3 20 (by decide), nil _⟩, h4, ⟨Nat.zero_le _, h3 25 (by decide), nil _⟩, h3 27 (by decide)⟩
end InitM
