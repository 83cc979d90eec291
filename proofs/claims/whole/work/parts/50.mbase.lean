/-! the reference: its layout, loops, frames -/
def mdTab : List (Nat × Nat × Nat) := [(1, 1, 10), (3, 2, 8), (4, 3, 8), (5, 4, 64), (6, 5, 8), (7, 6, 8), (9, 7, 8), (10, 8, 8), (11, 9, 64), (12, 10, 24), (13, 11, 24), (14, 12, 24), (15, 13, 240), (17, 14, 5), (18, 15, 5), (19, 16, 5), (21, 17, 10), (22, 18, 10), (23, 19, 10), (26, 20, 420), (28, 21, 2), (29, 22, 96), (30, 23, 312), (31, 24, 420), (32, 25, 9), (33, 26, 9), (34, 27, 64), (35, 28, 2304), (36, 29, 8), (37, 30, 24), (38, 31, 24), (39, 32, 24), (40, 33, 240), (43, 34, 8), (44, 35, 8), (45, 36, 8), (46, 37, 5), (47, 38, 8)]
def LM (sh : gh_Sh) (M : gh_M) (m : Nat) : Prop := sh.1 m = 12 ∧ ∀ x ∈ mdTab, rR M m x.1 = some (m + x.2.1) ∧ sh.1 (m + x.2.1) = 13 ∧ sh.2 (m + x.2.1) = x.2.2
theorem LM.fr {sh : gh_Sh} {M M' : gh_M} {m : Nat} (h : LM sh M m) (e : ∀ a j, rR M' a j = rR M a j) : LM sh M' m := ⟨h.1, fun x hx => ⟨(e _ _).trans (h.2 x hx).1, (h.2 x hx).2⟩⟩
theorem LM.fw {sh : gh_Sh} {lo hi : Nat} {M M' : gh_M} {m : Nat} (h : LM sh M m) (f : Fw lo hi M M') (d : m < lo ∨ hi ≤ m) : LM sh M' m := ⟨h.1, fun x hx => ⟨(f _ _ d).2.2.trans (h.2 x hx).1, (h.2 x hx).2⟩⟩
section LMs
variable {sh : gh_Sh} {M : gh_M} {m : Nat}
theorem LM.f1 (L : LM sh M m) : rR M m 1 = some (m + 1) := (L.2 (1, 1, 10) (by decide)).1
theorem LM.k1 (L : LM sh M m) : sh.1 (m + 1) = 13 := (L.2 (1, 1, 10) (by decide)).2.1
theorem LM.v1 (L : LM sh M m) {i : Nat} (hi : i < 10) {x : Int32} (hx : x = nI i) : vp_in x (sh.2 (m + 1)) := by rw [(L.2 (1, 1, 10) (by decide)).2.2, hx]; exact p_in hi (by decide)
theorem LM.n1 (L : LM sh M m) : sh.2 (m + 1) = 10 := (L.2 (1, 1, 10) (by decide)).2.2
theorem LM.f3 (L : LM sh M m) : rR M m 3 = some (m + 2) := (L.2 (3, 2, 8) (by decide)).1
theorem LM.k2 (L : LM sh M m) : sh.1 (m + 2) = 13 := (L.2 (3, 2, 8) (by decide)).2.1
theorem LM.v2 (L : LM sh M m) {i : Nat} (hi : i < 8) {x : Int32} (hx : x = nI i) : vp_in x (sh.2 (m + 2)) := by rw [(L.2 (3, 2, 8) (by decide)).2.2, hx]; exact p_in hi (by decide)
theorem LM.n2 (L : LM sh M m) : sh.2 (m + 2) = 8 := (L.2 (3, 2, 8) (by decide)).2.2
theorem LM.f4 (L : LM sh M m) : rR M m 4 = some (m + 3) := (L.2 (4, 3, 8) (by decide)).1
theorem LM.k3 (L : LM sh M m) : sh.1 (m + 3) = 13 := (L.2 (4, 3, 8) (by decide)).2.1
theorem LM.v3 (L : LM sh M m) {i : Nat} (hi : i < 8) {x : Int32} (hx : x = nI i) : vp_in x (sh.2 (m + 3)) := by rw [(L.2 (4, 3, 8) (by decide)).2.2, hx]; exact p_in hi (by decide)
theorem LM.n3 (L : LM sh M m) : sh.2 (m + 3) = 8 := (L.2 (4, 3, 8) (by decide)).2.2
theorem LM.f5 (L : LM sh M m) : rR M m 5 = some (m + 4) := (L.2 (5, 4, 64) (by decide)).1
theorem LM.k4 (L : LM sh M m) : sh.1 (m + 4) = 13 := (L.2 (5, 4, 64) (by decide)).2.1
theorem LM.v4 (L : LM sh M m) {i : Nat} (hi : i < 64) {x : Int32} (hx : x = nI i) : vp_in x (sh.2 (m + 4)) := by rw [(L.2 (5, 4, 64) (by decide)).2.2, hx]; exact p_in hi (by decide)
theorem LM.n4 (L : LM sh M m) : sh.2 (m + 4) = 64 := (L.2 (5, 4, 64) (by decide)).2.2
theorem LM.f6 (L : LM sh M m) : rR M m 6 = some (m + 5) := (L.2 (6, 5, 8) (by decide)).1
theorem LM.k5 (L : LM sh M m) : sh.1 (m + 5) = 13 := (L.2 (6, 5, 8) (by decide)).2.1
theorem LM.v5 (L : LM sh M m) {i : Nat} (hi : i < 8) {x : Int32} (hx : x = nI i) : vp_in x (sh.2 (m + 5)) := by rw [(L.2 (6, 5, 8) (by decide)).2.2, hx]; exact p_in hi (by decide)
theorem LM.n5 (L : LM sh M m) : sh.2 (m + 5) = 8 := (L.2 (6, 5, 8) (by decide)).2.2
theorem LM.f7 (L : LM sh M m) : rR M m 7 = some (m + 6) := (L.2 (7, 6, 8) (by decide)).1
theorem LM.k6 (L : LM sh M m) : sh.1 (m + 6) = 13 := (L.2 (7, 6, 8) (by decide)).2.1
theorem LM.v6 (L : LM sh M m) {i : Nat} (hi : i < 8) {x : Int32} (hx : x = nI i) : vp_in x (sh.2 (m + 6)) := by rw [(L.2 (7, 6, 8) (by decide)).2.2, hx]; exact p_in hi (by decide)
theorem LM.n6 (L : LM sh M m) : sh.2 (m + 6) = 8 := (L.2 (7, 6, 8) (by decide)).2.2
theorem LM.f9 (L : LM sh M m) : rR M m 9 = some (m + 7) := (L.2 (9, 7, 8) (by decide)).1
theorem LM.k7 (L : LM sh M m) : sh.1 (m + 7) = 13 := (L.2 (9, 7, 8) (by decide)).2.1
theorem LM.v7 (L : LM sh M m) {i : Nat} (hi : i < 8) {x : Int32} (hx : x = nI i) : vp_in x (sh.2 (m + 7)) := by rw [(L.2 (9, 7, 8) (by decide)).2.2, hx]; exact p_in hi (by decide)
theorem LM.n7 (L : LM sh M m) : sh.2 (m + 7) = 8 := (L.2 (9, 7, 8) (by decide)).2.2
theorem LM.f10 (L : LM sh M m) : rR M m 10 = some (m + 8) := (L.2 (10, 8, 8) (by decide)).1
theorem LM.k8 (L : LM sh M m) : sh.1 (m + 8) = 13 := (L.2 (10, 8, 8) (by decide)).2.1
theorem LM.v8 (L : LM sh M m) {i : Nat} (hi : i < 8) {x : Int32} (hx : x = nI i) : vp_in x (sh.2 (m + 8)) := by rw [(L.2 (10, 8, 8) (by decide)).2.2, hx]; exact p_in hi (by decide)
theorem LM.n8 (L : LM sh M m) : sh.2 (m + 8) = 8 := (L.2 (10, 8, 8) (by decide)).2.2
theorem LM.f11 (L : LM sh M m) : rR M m 11 = some (m + 9) := (L.2 (11, 9, 64) (by decide)).1
theorem LM.k9 (L : LM sh M m) : sh.1 (m + 9) = 13 := (L.2 (11, 9, 64) (by decide)).2.1
theorem LM.v9 (L : LM sh M m) {i : Nat} (hi : i < 64) {x : Int32} (hx : x = nI i) : vp_in x (sh.2 (m + 9)) := by rw [(L.2 (11, 9, 64) (by decide)).2.2, hx]; exact p_in hi (by decide)
theorem LM.n9 (L : LM sh M m) : sh.2 (m + 9) = 64 := (L.2 (11, 9, 64) (by decide)).2.2
theorem LM.f12 (L : LM sh M m) : rR M m 12 = some (m + 10) := (L.2 (12, 10, 24) (by decide)).1
theorem LM.k10 (L : LM sh M m) : sh.1 (m + 10) = 13 := (L.2 (12, 10, 24) (by decide)).2.1
theorem LM.v10 (L : LM sh M m) {i : Nat} (hi : i < 24) {x : Int32} (hx : x = nI i) : vp_in x (sh.2 (m + 10)) := by rw [(L.2 (12, 10, 24) (by decide)).2.2, hx]; exact p_in hi (by decide)
theorem LM.n10 (L : LM sh M m) : sh.2 (m + 10) = 24 := (L.2 (12, 10, 24) (by decide)).2.2
theorem LM.f13 (L : LM sh M m) : rR M m 13 = some (m + 11) := (L.2 (13, 11, 24) (by decide)).1
theorem LM.k11 (L : LM sh M m) : sh.1 (m + 11) = 13 := (L.2 (13, 11, 24) (by decide)).2.1
theorem LM.v11 (L : LM sh M m) {i : Nat} (hi : i < 24) {x : Int32} (hx : x = nI i) : vp_in x (sh.2 (m + 11)) := by rw [(L.2 (13, 11, 24) (by decide)).2.2, hx]; exact p_in hi (by decide)
theorem LM.n11 (L : LM sh M m) : sh.2 (m + 11) = 24 := (L.2 (13, 11, 24) (by decide)).2.2
theorem LM.f14 (L : LM sh M m) : rR M m 14 = some (m + 12) := (L.2 (14, 12, 24) (by decide)).1
theorem LM.k12 (L : LM sh M m) : sh.1 (m + 12) = 13 := (L.2 (14, 12, 24) (by decide)).2.1
theorem LM.v12 (L : LM sh M m) {i : Nat} (hi : i < 24) {x : Int32} (hx : x = nI i) : vp_in x (sh.2 (m + 12)) := by rw [(L.2 (14, 12, 24) (by decide)).2.2, hx]; exact p_in hi (by decide)
theorem LM.n12 (L : LM sh M m) : sh.2 (m + 12) = 24 := (L.2 (14, 12, 24) (by decide)).2.2
theorem LM.f15 (L : LM sh M m) : rR M m 15 = some (m + 13) := (L.2 (15, 13, 240) (by decide)).1
theorem LM.k13 (L : LM sh M m) : sh.1 (m + 13) = 13 := (L.2 (15, 13, 240) (by decide)).2.1
theorem LM.v13 (L : LM sh M m) {i : Nat} (hi : i < 240) {x : Int32} (hx : x = nI i) : vp_in x (sh.2 (m + 13)) := by rw [(L.2 (15, 13, 240) (by decide)).2.2, hx]; exact p_in hi (by decide)
theorem LM.n13 (L : LM sh M m) : sh.2 (m + 13) = 240 := (L.2 (15, 13, 240) (by decide)).2.2
theorem LM.f17 (L : LM sh M m) : rR M m 17 = some (m + 14) := (L.2 (17, 14, 5) (by decide)).1
theorem LM.k14 (L : LM sh M m) : sh.1 (m + 14) = 13 := (L.2 (17, 14, 5) (by decide)).2.1
theorem LM.v14 (L : LM sh M m) {i : Nat} (hi : i < 5) {x : Int32} (hx : x = nI i) : vp_in x (sh.2 (m + 14)) := by rw [(L.2 (17, 14, 5) (by decide)).2.2, hx]; exact p_in hi (by decide)
theorem LM.n14 (L : LM sh M m) : sh.2 (m + 14) = 5 := (L.2 (17, 14, 5) (by decide)).2.2
theorem LM.f18 (L : LM sh M m) : rR M m 18 = some (m + 15) := (L.2 (18, 15, 5) (by decide)).1
theorem LM.k15 (L : LM sh M m) : sh.1 (m + 15) = 13 := (L.2 (18, 15, 5) (by decide)).2.1
theorem LM.v15 (L : LM sh M m) {i : Nat} (hi : i < 5) {x : Int32} (hx : x = nI i) : vp_in x (sh.2 (m + 15)) := by rw [(L.2 (18, 15, 5) (by decide)).2.2, hx]; exact p_in hi (by decide)
theorem LM.n15 (L : LM sh M m) : sh.2 (m + 15) = 5 := (L.2 (18, 15, 5) (by decide)).2.2
theorem LM.f19 (L : LM sh M m) : rR M m 19 = some (m + 16) := (L.2 (19, 16, 5) (by decide)).1
theorem LM.k16 (L : LM sh M m) : sh.1 (m + 16) = 13 := (L.2 (19, 16, 5) (by decide)).2.1
theorem LM.v16 (L : LM sh M m) {i : Nat} (hi : i < 5) {x : Int32} (hx : x = nI i) : vp_in x (sh.2 (m + 16)) := by rw [(L.2 (19, 16, 5) (by decide)).2.2, hx]; exact p_in hi (by decide)
theorem LM.n16 (L : LM sh M m) : sh.2 (m + 16) = 5 := (L.2 (19, 16, 5) (by decide)).2.2
theorem LM.f21 (L : LM sh M m) : rR M m 21 = some (m + 17) := (L.2 (21, 17, 10) (by decide)).1
theorem LM.k17 (L : LM sh M m) : sh.1 (m + 17) = 13 := (L.2 (21, 17, 10) (by decide)).2.1
theorem LM.v17 (L : LM sh M m) {i : Nat} (hi : i < 10) {x : Int32} (hx : x = nI i) : vp_in x (sh.2 (m + 17)) := by rw [(L.2 (21, 17, 10) (by decide)).2.2, hx]; exact p_in hi (by decide)
theorem LM.n17 (L : LM sh M m) : sh.2 (m + 17) = 10 := (L.2 (21, 17, 10) (by decide)).2.2
theorem LM.f22 (L : LM sh M m) : rR M m 22 = some (m + 18) := (L.2 (22, 18, 10) (by decide)).1
theorem LM.k18 (L : LM sh M m) : sh.1 (m + 18) = 13 := (L.2 (22, 18, 10) (by decide)).2.1
theorem LM.v18 (L : LM sh M m) {i : Nat} (hi : i < 10) {x : Int32} (hx : x = nI i) : vp_in x (sh.2 (m + 18)) := by rw [(L.2 (22, 18, 10) (by decide)).2.2, hx]; exact p_in hi (by decide)
theorem LM.n18 (L : LM sh M m) : sh.2 (m + 18) = 10 := (L.2 (22, 18, 10) (by decide)).2.2
theorem LM.f23 (L : LM sh M m) : rR M m 23 = some (m + 19) := (L.2 (23, 19, 10) (by decide)).1
theorem LM.k19 (L : LM sh M m) : sh.1 (m + 19) = 13 := (L.2 (23, 19, 10) (by decide)).2.1
theorem LM.v19 (L : LM sh M m) {i : Nat} (hi : i < 10) {x : Int32} (hx : x = nI i) : vp_in x (sh.2 (m + 19)) := by rw [(L.2 (23, 19, 10) (by decide)).2.2, hx]; exact p_in hi (by decide)
theorem LM.n19 (L : LM sh M m) : sh.2 (m + 19) = 10 := (L.2 (23, 19, 10) (by decide)).2.2
theorem LM.f26 (L : LM sh M m) : rR M m 26 = some (m + 20) := (L.2 (26, 20, 420) (by decide)).1
theorem LM.k20 (L : LM sh M m) : sh.1 (m + 20) = 13 := (L.2 (26, 20, 420) (by decide)).2.1
theorem LM.v20 (L : LM sh M m) {i : Nat} (hi : i < 420) {x : Int32} (hx : x = nI i) : vp_in x (sh.2 (m + 20)) := by rw [(L.2 (26, 20, 420) (by decide)).2.2, hx]; exact p_in hi (by decide)
theorem LM.n20 (L : LM sh M m) : sh.2 (m + 20) = 420 := (L.2 (26, 20, 420) (by decide)).2.2
theorem LM.f28 (L : LM sh M m) : rR M m 28 = some (m + 21) := (L.2 (28, 21, 2) (by decide)).1
theorem LM.k21 (L : LM sh M m) : sh.1 (m + 21) = 13 := (L.2 (28, 21, 2) (by decide)).2.1
theorem LM.v21 (L : LM sh M m) {i : Nat} (hi : i < 2) {x : Int32} (hx : x = nI i) : vp_in x (sh.2 (m + 21)) := by rw [(L.2 (28, 21, 2) (by decide)).2.2, hx]; exact p_in hi (by decide)
theorem LM.n21 (L : LM sh M m) : sh.2 (m + 21) = 2 := (L.2 (28, 21, 2) (by decide)).2.2
theorem LM.f29 (L : LM sh M m) : rR M m 29 = some (m + 22) := (L.2 (29, 22, 96) (by decide)).1
theorem LM.k22 (L : LM sh M m) : sh.1 (m + 22) = 13 := (L.2 (29, 22, 96) (by decide)).2.1
theorem LM.v22 (L : LM sh M m) {i : Nat} (hi : i < 96) {x : Int32} (hx : x = nI i) : vp_in x (sh.2 (m + 22)) := by rw [(L.2 (29, 22, 96) (by decide)).2.2, hx]; exact p_in hi (by decide)
theorem LM.n22 (L : LM sh M m) : sh.2 (m + 22) = 96 := (L.2 (29, 22, 96) (by decide)).2.2
theorem LM.f30 (L : LM sh M m) : rR M m 30 = some (m + 23) := (L.2 (30, 23, 312) (by decide)).1
theorem LM.k23 (L : LM sh M m) : sh.1 (m + 23) = 13 := (L.2 (30, 23, 312) (by decide)).2.1
theorem LM.v23 (L : LM sh M m) {i : Nat} (hi : i < 312) {x : Int32} (hx : x = nI i) : vp_in x (sh.2 (m + 23)) := by rw [(L.2 (30, 23, 312) (by decide)).2.2, hx]; exact p_in hi (by decide)
theorem LM.n23 (L : LM sh M m) : sh.2 (m + 23) = 312 := (L.2 (30, 23, 312) (by decide)).2.2
theorem LM.f31 (L : LM sh M m) : rR M m 31 = some (m + 24) := (L.2 (31, 24, 420) (by decide)).1
theorem LM.k24 (L : LM sh M m) : sh.1 (m + 24) = 13 := (L.2 (31, 24, 420) (by decide)).2.1
theorem LM.v24 (L : LM sh M m) {i : Nat} (hi : i < 420) {x : Int32} (hx : x = nI i) : vp_in x (sh.2 (m + 24)) := by rw [(L.2 (31, 24, 420) (by decide)).2.2, hx]; exact p_in hi (by decide)
theorem LM.n24 (L : LM sh M m) : sh.2 (m + 24) = 420 := (L.2 (31, 24, 420) (by decide)).2.2
theorem LM.f32 (L : LM sh M m) : rR M m 32 = some (m + 25) := (L.2 (32, 25, 9) (by decide)).1
theorem LM.k25 (L : LM sh M m) : sh.1 (m + 25) = 13 := (L.2 (32, 25, 9) (by decide)).2.1
theorem LM.v25 (L : LM sh M m) {i : Nat} (hi : i < 9) {x : Int32} (hx : x = nI i) : vp_in x (sh.2 (m + 25)) := by rw [(L.2 (32, 25, 9) (by decide)).2.2, hx]; exact p_in hi (by decide)
theorem LM.n25 (L : LM sh M m) : sh.2 (m + 25) = 9 := (L.2 (32, 25, 9) (by decide)).2.2
theorem LM.f33 (L : LM sh M m) : rR M m 33 = some (m + 26) := (L.2 (33, 26, 9) (by decide)).1
theorem LM.k26 (L : LM sh M m) : sh.1 (m + 26) = 13 := (L.2 (33, 26, 9) (by decide)).2.1
theorem LM.v26 (L : LM sh M m) {i : Nat} (hi : i < 9) {x : Int32} (hx : x = nI i) : vp_in x (sh.2 (m + 26)) := by rw [(L.2 (33, 26, 9) (by decide)).2.2, hx]; exact p_in hi (by decide)
theorem LM.n26 (L : LM sh M m) : sh.2 (m + 26) = 9 := (L.2 (33, 26, 9) (by decide)).2.2
theorem LM.f34 (L : LM sh M m) : rR M m 34 = some (m + 27) := (L.2 (34, 27, 64) (by decide)).1
theorem LM.k27 (L : LM sh M m) : sh.1 (m + 27) = 13 := (L.2 (34, 27, 64) (by decide)).2.1
theorem LM.v27 (L : LM sh M m) {i : Nat} (hi : i < 64) {x : Int32} (hx : x = nI i) : vp_in x (sh.2 (m + 27)) := by rw [(L.2 (34, 27, 64) (by decide)).2.2, hx]; exact p_in hi (by decide)
theorem LM.n27 (L : LM sh M m) : sh.2 (m + 27) = 64 := (L.2 (34, 27, 64) (by decide)).2.2
theorem LM.f35 (L : LM sh M m) : rR M m 35 = some (m + 28) := (L.2 (35, 28, 2304) (by decide)).1
theorem LM.k28 (L : LM sh M m) : sh.1 (m + 28) = 13 := (L.2 (35, 28, 2304) (by decide)).2.1
theorem LM.v28 (L : LM sh M m) {i : Nat} (hi : i < 2304) {x : Int32} (hx : x = nI i) : vp_in x (sh.2 (m + 28)) := by rw [(L.2 (35, 28, 2304) (by decide)).2.2, hx]; exact p_in hi (by decide)
theorem LM.n28 (L : LM sh M m) : sh.2 (m + 28) = 2304 := (L.2 (35, 28, 2304) (by decide)).2.2
theorem LM.f36 (L : LM sh M m) : rR M m 36 = some (m + 29) := (L.2 (36, 29, 8) (by decide)).1
theorem LM.k29 (L : LM sh M m) : sh.1 (m + 29) = 13 := (L.2 (36, 29, 8) (by decide)).2.1
theorem LM.v29 (L : LM sh M m) {i : Nat} (hi : i < 8) {x : Int32} (hx : x = nI i) : vp_in x (sh.2 (m + 29)) := by rw [(L.2 (36, 29, 8) (by decide)).2.2, hx]; exact p_in hi (by decide)
theorem LM.n29 (L : LM sh M m) : sh.2 (m + 29) = 8 := (L.2 (36, 29, 8) (by decide)).2.2
theorem LM.f37 (L : LM sh M m) : rR M m 37 = some (m + 30) := (L.2 (37, 30, 24) (by decide)).1
theorem LM.k30 (L : LM sh M m) : sh.1 (m + 30) = 13 := (L.2 (37, 30, 24) (by decide)).2.1
theorem LM.v30 (L : LM sh M m) {i : Nat} (hi : i < 24) {x : Int32} (hx : x = nI i) : vp_in x (sh.2 (m + 30)) := by rw [(L.2 (37, 30, 24) (by decide)).2.2, hx]; exact p_in hi (by decide)
theorem LM.n30 (L : LM sh M m) : sh.2 (m + 30) = 24 := (L.2 (37, 30, 24) (by decide)).2.2
theorem LM.f38 (L : LM sh M m) : rR M m 38 = some (m + 31) := (L.2 (38, 31, 24) (by decide)).1
theorem LM.k31 (L : LM sh M m) : sh.1 (m + 31) = 13 := (L.2 (38, 31, 24) (by decide)).2.1
theorem LM.v31 (L : LM sh M m) {i : Nat} (hi : i < 24) {x : Int32} (hx : x = nI i) : vp_in x (sh.2 (m + 31)) := by rw [(L.2 (38, 31, 24) (by decide)).2.2, hx]; exact p_in hi (by decide)
theorem LM.n31 (L : LM sh M m) : sh.2 (m + 31) = 24 := (L.2 (38, 31, 24) (by decide)).2.2
theorem LM.f39 (L : LM sh M m) : rR M m 39 = some (m + 32) := (L.2 (39, 32, 24) (by decide)).1
theorem LM.k32 (L : LM sh M m) : sh.1 (m + 32) = 13 := (L.2 (39, 32, 24) (by decide)).2.1
theorem LM.v32 (L : LM sh M m) {i : Nat} (hi : i < 24) {x : Int32} (hx : x = nI i) : vp_in x (sh.2 (m + 32)) := by rw [(L.2 (39, 32, 24) (by decide)).2.2, hx]; exact p_in hi (by decide)
theorem LM.n32 (L : LM sh M m) : sh.2 (m + 32) = 24 := (L.2 (39, 32, 24) (by decide)).2.2
theorem LM.f40 (L : LM sh M m) : rR M m 40 = some (m + 33) := (L.2 (40, 33, 240) (by decide)).1
theorem LM.k33 (L : LM sh M m) : sh.1 (m + 33) = 13 := (L.2 (40, 33, 240) (by decide)).2.1
theorem LM.v33 (L : LM sh M m) {i : Nat} (hi : i < 240) {x : Int32} (hx : x = nI i) : vp_in x (sh.2 (m + 33)) := by rw [(L.2 (40, 33, 240) (by decide)).2.2, hx]; exact p_in hi (by decide)
theorem LM.n33 (L : LM sh M m) : sh.2 (m + 33) = 240 := (L.2 (40, 33, 240) (by decide)).2.2
theorem LM.f43 (L : LM sh M m) : rR M m 43 = some (m + 34) := (L.2 (43, 34, 8) (by decide)).1
theorem LM.k34 (L : LM sh M m) : sh.1 (m + 34) = 13 := (L.2 (43, 34, 8) (by decide)).2.1
theorem LM.v34 (L : LM sh M m) {i : Nat} (hi : i < 8) {x : Int32} (hx : x = nI i) : vp_in x (sh.2 (m + 34)) := by rw [(L.2 (43, 34, 8) (by decide)).2.2, hx]; exact p_in hi (by decide)
theorem LM.n34 (L : LM sh M m) : sh.2 (m + 34) = 8 := (L.2 (43, 34, 8) (by decide)).2.2
theorem LM.f44 (L : LM sh M m) : rR M m 44 = some (m + 35) := (L.2 (44, 35, 8) (by decide)).1
theorem LM.k35 (L : LM sh M m) : sh.1 (m + 35) = 13 := (L.2 (44, 35, 8) (by decide)).2.1
theorem LM.v35 (L : LM sh M m) {i : Nat} (hi : i < 8) {x : Int32} (hx : x = nI i) : vp_in x (sh.2 (m + 35)) := by rw [(L.2 (44, 35, 8) (by decide)).2.2, hx]; exact p_in hi (by decide)
theorem LM.n35 (L : LM sh M m) : sh.2 (m + 35) = 8 := (L.2 (44, 35, 8) (by decide)).2.2
theorem LM.f45 (L : LM sh M m) : rR M m 45 = some (m + 36) := (L.2 (45, 36, 8) (by decide)).1
theorem LM.k36 (L : LM sh M m) : sh.1 (m + 36) = 13 := (L.2 (45, 36, 8) (by decide)).2.1
theorem LM.v36 (L : LM sh M m) {i : Nat} (hi : i < 8) {x : Int32} (hx : x = nI i) : vp_in x (sh.2 (m + 36)) := by rw [(L.2 (45, 36, 8) (by decide)).2.2, hx]; exact p_in hi (by decide)
theorem LM.n36 (L : LM sh M m) : sh.2 (m + 36) = 8 := (L.2 (45, 36, 8) (by decide)).2.2
theorem LM.f46 (L : LM sh M m) : rR M m 46 = some (m + 37) := (L.2 (46, 37, 5) (by decide)).1
theorem LM.k37 (L : LM sh M m) : sh.1 (m + 37) = 13 := (L.2 (46, 37, 5) (by decide)).2.1
theorem LM.v37 (L : LM sh M m) {i : Nat} (hi : i < 5) {x : Int32} (hx : x = nI i) : vp_in x (sh.2 (m + 37)) := by rw [(L.2 (46, 37, 5) (by decide)).2.2, hx]; exact p_in hi (by decide)
theorem LM.n37 (L : LM sh M m) : sh.2 (m + 37) = 5 := (L.2 (46, 37, 5) (by decide)).2.2
theorem LM.f47 (L : LM sh M m) : rR M m 47 = some (m + 38) := (L.2 (47, 38, 8) (by decide)).1
theorem LM.k38 (L : LM sh M m) : sh.1 (m + 38) = 13 := (L.2 (47, 38, 8) (by decide)).2.1
theorem LM.v38 (L : LM sh M m) {i : Nat} (hi : i < 8) {x : Int32} (hx : x = nI i) : vp_in x (sh.2 (m + 38)) := by rw [(L.2 (47, 38, 8) (by decide)).2.2, hx]; exact p_in hi (by decide)
theorem LM.n38 (L : LM sh M m) : sh.2 (m + 38) = 8 := (L.2 (47, 38, 8) (by decide)).2.2
end LMs
theorem e3 (i j : Nat) : (3 : Int32) * nI i + nI j = nI (3 * i + j) := (congrArg (· + nI j) (pk_mul 3 i)).trans (nI_add _ _)
theorem e8 (i j : Nat) : (8 : Int32) * nI i + nI j = nI (8 * i + j) := (congrArg (· + nI j) (pk_mul 8 i)).trans (nI_add _ _)
theorem e10 (i j : Nat) : (10 : Int32) * nI i + nI j = nI (10 * i + j) := (congrArg (· + nI j) (pk_mul 10 i)).trans (nI_add _ _)
theorem e256 (i j : Nat) : (256 : Int32) * nI i + nI j = nI (256 * i + j) := (congrArg (· + nI j) (pk_mul 256 i)).trans (nI_add _ _)
theorem m8 (i : Nat) : (8 : Int32) * nI i = nI (8 * i) := pk_mul 8 i
theorem m10 (i : Nat) : (10 : Int32) * nI i = nI (10 * i) := pk_mul 10 i
theorem m21 (i : Nat) : (21 : Int32) * nI i = nI (21 * i) := pk_mul 21 i
theorem a1 (i : Nat) : nI i + (1 : Int32) = nI (i + 1) := nI_1 i
theorem a2 (i : Nat) : nI i + (2 : Int32) = nI (i + 2) := nI_add i 2
theorem a3 (i : Nat) : nI i + (3 : Int32) = nI (i + 3) := nI_add i 3
theorem a11 (i : Nat) : nI i + (11 : Int32) = nI (i + 11) := nI_add i 11
theorem a21 (i : Nat) : nI i + (21 : Int32) = nI (i + 21) := nI_add i 21
theorem b8 (i : Nat) : (8 : Int32) + nI i = nI (8 + i) := nI_add 8 i
theorem b9 (i : Nat) : (9 : Int32) + nI i = nI (9 + i) := nI_add 9 i
theorem b16 (i : Nat) : (16 : Int32) + nI i = nI (16 + i) := nI_add 16 i
theorem b19 (i : Nat) : (19 : Int32) + nI i = nI (19 + i) := nI_add 19 i
theorem b24 (i : Nat) : (24 : Int32) + nI i = nI (24 + i) := nI_add 24 i
theorem b32 (i : Nat) : (32 : Int32) + nI i = nI (32 + i) := nI_add 32 i
theorem b48 (i : Nat) : (48 : Int32) + nI i = nI (48 + i) := nI_add 48 i
theorem b72 (i : Nat) : (72 : Int32) + nI i = nI (72 + i) := nI_add 72 i
theorem br0 {A B : Prop} (h : A) : ((0 : Int32) = 0 → A) ∧ (¬ (0 : Int32) = 0 → B) := ⟨fun _ => h, fun c => absurd rfl c⟩
theorem br1 {A B : Prop} (h : B) : ((1 : Int32) = 0 → A) ∧ (¬ (1 : Int32) = 0 → B) := ⟨fun c => absurd c (by decide), fun _ => h⟩
/-- loops that count up -/
theorem for1 {body : (Int32 × gh_M → Prop) → Int32 × gh_M → Prop} {M : gh_M} (c n : Nat) (hc : c ≤ n) (hn : n < 2147483648) (I : Nat → gh_M → Prop) (h0 : I c M) (hs : ∀ i M1 k, c ≤ i → i < n → I i M1 → (∀ M2, I (i + 1) M2 → k (nI i + 1, M2)) → body k (nI i, M1)) (he : ∀ M1 k, I n M1 → body k (nI n, M1)) : gh_loop body (nI c, M) := by
  refine ⟨fun v => ∃ i, c ≤ i ∧ i ≤ n ∧ v.1 = nI i ∧ I i v.2, fun v => n - v.1.toNatClampNeg, ⟨c, Nat.le_refl c, hc, rfl, h0⟩, ?_⟩
  rintro ⟨x, M1⟩ ⟨i, h1, h2, hx, hI⟩
  dsimp only at hx hI
  subst hx
  by_cases h : i < n
  · refine hs i M1 _ h1 h hI (fun M2 hI2 => ⟨⟨i + 1, by omega, by omega, nI_1 i, hI2⟩, ?_⟩)
    show n - (nI i + 1).toNatClampNeg < n - (nI i).toNatClampNeg
    rw [nI_1, p_cl (by omega), p_cl (by omega)]; omega
  · have : i = n := by omega
    subst this
    exact he M1 _ hI
theorem for2 {body : (Int32 × Int32 × gh_M → Prop) → Int32 × Int32 × gh_M → Prop} {M : gh_M} {x0 : Int32} (c n : Nat) (hc : c ≤ n) (hn : n < 2147483648) (I : Nat → Int32 → gh_M → Prop) (h0 : I c x0 M) (hs : ∀ i x M1 k, c ≤ i → i < n → I i x M1 → (∀ y M2, I (i + 1) y M2 → k (y, nI i + 1, M2)) → body k (x, nI i, M1)) (he : ∀ x M1 k, I n x M1 → body k (x, nI n, M1)) : gh_loop body (x0, nI c, M) := by
  refine ⟨fun v => ∃ i, c ≤ i ∧ i ≤ n ∧ v.2.1 = nI i ∧ I i v.1 v.2.2, fun v => n - v.2.1.toNatClampNeg, ⟨c, Nat.le_refl c, hc, rfl, h0⟩, ?_⟩
  rintro ⟨y, x, M1⟩ ⟨i, h1, h2, hx, hI⟩
  dsimp only at hx hI
  subst hx
  by_cases h : i < n
  · refine hs i y M1 _ h1 h hI (fun y2 M2 hI2 => ⟨⟨i + 1, by omega, by omega, nI_1 i, hI2⟩, ?_⟩)
    show n - (nI i + 1).toNatClampNeg < n - (nI i).toNatClampNeg
    rw [nI_1, p_cl (by omega), p_cl (by omega)]; omega
  · have : i = n := by omega
    subst this
    exact he y M1 _ hI
/-- which cells and fields of the reference may have changed -/
def Ch (m : Nat) (S F : List Nat) (M M' : gh_M) : Prop := (∀ k j, 1 ≤ k → k < 39 → k ∉ S → rI M' (m + k) j = rI M (m + k) j) ∧ (∀ f, f ∉ F → rI M' m f = rI M m f) ∧ Fr m (m + 39) M M'
theorem Ch.rf (m : Nat) (S F : List Nat) (M : gh_M) : Ch m S F M M := ⟨fun _ _ _ _ _ => rfl, fun _ _ => rfl, Fr.rf _ _ _⟩
theorem Ch.tr {m : Nat} {S F : List Nat} {M M1 M2 : gh_M} (a : Ch m S F M M1) (b : Ch m S F M1 M2) : Ch m S F M M2 := ⟨fun k j h1 h2 h3 => (b.1 k j h1 h2 h3).trans (a.1 k j h1 h2 h3), fun f hf => (b.2.1 f hf).trans (a.2.1 f hf), Fr.tr a.2.2 b.2.2 (Nat.le_refl _) (Nat.le_refl _) (Nat.le_refl _) (Nat.le_refl _)⟩
theorem Ch.mono {m : Nat} {S F S' F' : List Nat} {M M1 : gh_M} (a : Ch m S F M M1) (h1 : ∀ x ∈ S, x ∈ S') (h2 : ∀ x ∈ F, x ∈ F') : Ch m S' F' M M1 := ⟨fun k j q1 q2 q3 => a.1 k j q1 q2 (fun z => q3 (h1 k z)), fun f hf => a.2.1 f (fun z => hf (h2 f z)), a.2.2⟩
theorem Ch.wa {m : Nat} {S F : List Nat} {M : gh_M} (k : Nat) (j : Nat) (v : Int32) (h1 : 1 ≤ k) (h2 : k < 39) (h : k ∈ S) : Ch m S F M (wI M (m + k) j v) := ⟨fun k' j' q1 q2 q3 => rI_ne _ _ (by left; intro z; exact q3 ((show k' = k by omega) ▸ h)), fun f hf => rI_ne _ _ (by omega), Fr.w (by omega) (by omega)⟩
theorem Ch.wf {m : Nat} {S F : List Nat} {M : gh_M} (f : Nat) (v : Int32) (h : f ∈ F) : Ch m S F M (wI M m f v) := ⟨fun k' j' q1 q2 q3 => rI_ne _ _ (by omega), fun f' hf => rI_ne _ _ (by right; intro z; exact hf (z ▸ h)), Fr.w (by omega) (by omega)⟩
theorem Ch.ar {m : Nat} {S F : List Nat} {M M' : gh_M} (c : Ch m S F M M') (k : Nat) (h1 : 1 ≤ k) (h2 : k < 39) (h : k ∉ S) : rI M' (m + k) = rI M (m + k) := funext fun j => c.1 k j h1 h2 h
theorem Ch.fl {m : Nat} {S F : List Nat} {M M' : gh_M} (c : Ch m S F M M') (f : Nat) (h : f ∉ F) : rI M' m f = rI M m f := c.2.1 f h
theorem Ch.lm {sh : gh_Sh} {m : Nat} {S F : List Nat} {M M' : gh_M} (c : Ch m S F M M') (L : LM sh M m) : LM sh M' m := L.fr c.2.2.2.2
/-! the reference's state -/
def txM (s w n : Int32) (f : Nat → Int32) (x : TxT) : Prop := s = x.1 ∧ ((x.1 = 0 ∧ x = tx0) ∨ ((x.1 = 1 ∨ x.1 = 2 ∨ x.1 = 3) ∧ x.2.2.length ≤ 10 ∧ w = x.2.1 ∧ n = nI x.2.2.length ∧ ∀ j, j < x.2.2.length → f j = x.2.2.getD j 0))
def gvM (g x : Int32) : Prop := (x = -5 ∧ g = -1) ∨ (0 ≤ x.toInt ∧ g = x)
def pcM (k s : Int32) (sg : Nat → Int32) (g f : Int32) (st w ln : Nat → Int32) (wd : Nat → Nat → Int32) (p : PcT) : Prop := k = p.1 ∧ p.2.1.length ≤ 8 ∧ s = nI p.2.1.length ∧ (∀ j, j < p.2.1.length → sg j = p.2.1.getD j 0) ∧ gvM g p.2.2.1 ∧ f = p.2.2.2.1 ∧ ∀ t, t < 3 → txM (st t) (w t) (ln t) (wd t) (p.2.2.2.2 t)
def mSrcF (n : Int32) (K S Sg G F St W Ln Wd : Nat → Int32) (l : List PcT) : Prop := l.length ≤ 8 ∧ n = nI l.length ∧ ∀ i, i < l.length → pcM (K i) (S i) (fun j => Sg (8 * i + j)) (G i) (F i) (fun t => St (3 * i + t)) (fun t => W (3 * i + t)) (fun t => Ln (3 * i + t)) (fun t j => Wd (10 * (3 * i + t) + j)) (l.getD i pc0)
theorem mSrcF.ext {n n' : Int32} {K S Sg G F St W Ln Wd K' S' Sg' G' F' St' W' Ln' Wd' : Nat → Int32} {l : List PcT} (h : mSrcF n K S Sg G F St W Ln Wd l) (hn : n' = n) (hK : ∀ i, i < 8 → K' i = K i) (hS : ∀ i, i < 8 → S' i = S i) (hSg : ∀ i, i < 64 → Sg' i = Sg i) (hG : ∀ i, i < 8 → G' i = G i) (hF : ∀ i, i < 8 → F' i = F i) (hSt : ∀ i, i < 24 → St' i = St i) (hW : ∀ i, i < 24 → W' i = W i) (hLn : ∀ i, i < 24 → Ln' i = Ln i) (hWd : ∀ i, i < 240 → Wd' i = Wd i) : mSrcF n' K' S' Sg' G' F' St' W' Ln' Wd' l := by
  obtain ⟨h1, h2, h3⟩ := h
  refine ⟨h1, hn.trans h2, fun i hi => ?_⟩
  obtain ⟨q1, q2, q3, q4, q5, q6, q7⟩ := h3 i hi
  refine ⟨(hK i (by omega)).trans q1, q2, (hS i (by omega)).trans q3, fun j hj => (hSg _ (by omega)).trans (q4 j hj), by rw [hG i (by omega)]; exact q5, (hF i (by omega)).trans q6, fun t ht => ?_⟩
  obtain ⟨r1, r2⟩ := q7 t ht
  refine ⟨(hSt _ (by omega)).trans r1, ?_⟩
  rcases r2 with r2 | ⟨r2, r3, r4, r5, r6⟩
  · exact Or.inl r2
  · exact Or.inr ⟨r2, r3, (hW _ (by omega)).trans r4, (hLn _ (by omega)).trans r5, fun j hj => (hWd _ (by omega)).trans (r6 j hj)⟩
def mMemF (n : Int32) (A : Nat → Int32) (l : List EnT) : Prop := l.length ≤ 20 ∧ n = nI l.length ∧ ∀ k, k < l.length → A (21 * k) = (l.getD k en0).1 ∧ (l.getD k en0).2.1.length ≤ 8 ∧ (l.getD k en0).2.2.length ≤ 10 ∧ A (21 * k + 1) = nI (l.getD k en0).2.1.length ∧ A (21 * k + 2) = nI (l.getD k en0).2.2.length ∧ (∀ j, j < (l.getD k en0).2.1.length → A (21 * k + 3 + j) = (l.getD k en0).2.1.getD j 0) ∧ ∀ j, j < (l.getD k en0).2.2.length → A (21 * k + 11 + j) = (l.getD k en0).2.2.getD j 0
theorem mMemF.ext {n n' : Int32} {A A' : Nat → Int32} {l : List EnT} (h : mMemF n A l) (hn : n' = n) (hA : ∀ i, i < 420 → A' i = A i) : mMemF n' A' l := by
  obtain ⟨h1, h2, h3⟩ := h
  refine ⟨h1, hn.trans h2, fun k hk => ?_⟩
  obtain ⟨q1, q2, q3, q4, q5, q6, q7⟩ := h3 k hk
  exact ⟨(hA _ (by omega)).trans q1, q2, q3, (hA _ (by omega)).trans q4, (hA _ (by omega)).trans q5, fun j hj => (hA _ (by omega)).trans (q6 j hj), fun j hj => (hA _ (by omega)).trans (q7 j hj)⟩
def nx0 : NxT := (0, [])
def mDraft (m : Nat) (M : gh_M) (d : List Int32) : Prop := d.length ≤ 10 ∧ rI M m 0 = nI d.length ∧ ∀ i, i < d.length → rI M (m + 1) i = d.getD i 0
def mSrc (m : Nat) (M : gh_M) (l : List PcT) : Prop := mSrcF (rI M m 2) (rI M (m + 2)) (rI M (m + 3)) (rI M (m + 4)) (rI M (m + 5)) (rI M (m + 6)) (rI M (m + 10)) (rI M (m + 11)) (rI M (m + 12)) (rI M (m + 13)) l
def mNext (m : Nat) (M : gh_M) (l : List NxT) : Prop := l.length ≤ 8 ∧ rI M m 8 = nI l.length ∧ ∀ i, i < l.length → rI M (m + 7) i = (l.getD i nx0).1 ∧ (l.getD i nx0).2.length ≤ 8 ∧ rI M (m + 8) i = nI (l.getD i nx0).2.length ∧ ∀ j, j < (l.getD i nx0).2.length → rI M (m + 9) (8 * i + j) = (l.getD i nx0).2.getD j 0
def hnOk (x : HnT) : Prop := inR x.1 1 7 ∧ inR x.2.1 0 20 ∧ inR x.2.2 1 9
def mHands (m : Nat) (M : gh_M) (l : List HnT) : Prop := l.length ≤ 5 ∧ rI M m 16 = nI l.length ∧ ∀ i, i < l.length → hnOk (l.getD i hn0) ∧ rI M (m + 14) i = (l.getD i hn0).1 ∧ rI M (m + 15) i = (l.getD i hn0).2.1 ∧ rI M (m + 16) i = (l.getD i hn0).2.2
def mTerms (m : Nat) (M : gh_M) (l : List TmT) : Prop := tmGood l ∧ rI M m 20 = nI l.length ∧ ∀ i, i < l.length → rI M (m + 17) i = (l.getD i tm0).1 ∧ rI M (m + 18) i = (l.getD i tm0).2.1 ∧ rI M (m + 19) i = (l.getD i tm0).2.2
def mMem (m : Nat) (M : gh_M) (l : List EnT) : Prop := mMemF (rI M m 25) (rI M (m + 20)) l
def mKept (m : Nat) (M : gh_M) (k : KpT) : Prop := match k with
  | none => rI M m 27 = 0
  | some x => rI M m 27 = 1 ∧ mSrcF (rI M (m + 21) 0) (rI M (m + 22)) (fun i => rI M (m + 22) (8 + i)) (fun i => rI M (m + 22) (32 + i)) (fun i => rI M (m + 22) (16 + i)) (fun i => rI M (m + 22) (24 + i)) (rI M (m + 23)) (fun i => rI M (m + 23) (24 + i)) (fun i => rI M (m + 23) (48 + i)) (fun i => rI M (m + 23) (72 + i)) x.1 ∧ mMemF (rI M (m + 21) 1) (rI M (m + 24)) x.2
section ChC
variable {m : Nat} {S F : List Nat} {M M' : gh_M}
theorem mDraft.ch {d : List Int32} (h : mDraft m M d) (c : Ch m S F M M') (hS : 1 ∉ S) (hF : 0 ∉ F) : mDraft m M' d := by
  unfold mDraft; rw [c.fl 0 hF, c.ar 1 (by decide) (by decide) hS]; exact h
theorem mSrc.ch {l : List PcT} (h : mSrc m M l) (c : Ch m S F M M') (hS : ∀ k ∈ [2, 3, 4, 5, 6, 10, 11, 12, 13], k ∉ S) (hF : 2 ∉ F) : mSrc m M' l := by
  unfold mSrc
  rw [c.fl 2 hF, c.ar 2 (by decide) (by decide) (hS 2 (by decide)), c.ar 3 (by decide) (by decide) (hS 3 (by decide)), c.ar 4 (by decide) (by decide) (hS 4 (by decide)), c.ar 5 (by decide) (by decide) (hS 5 (by decide)), c.ar 6 (by decide) (by decide) (hS 6 (by decide)), c.ar 10 (by decide) (by decide) (hS 10 (by decide)), c.ar 11 (by decide) (by decide) (hS 11 (by decide)), c.ar 12 (by decide) (by decide) (hS 12 (by decide)), c.ar 13 (by decide) (by decide) (hS 13 (by decide))]
  exact h
theorem mNext.ch {l : List NxT} (h : mNext m M l) (c : Ch m S F M M') (hS : ∀ k ∈ [7, 8, 9], k ∉ S) (hF : 8 ∉ F) : mNext m M' l := by
  unfold mNext
  rw [c.fl 8 hF, c.ar 7 (by decide) (by decide) (hS 7 (by decide)), c.ar 8 (by decide) (by decide) (hS 8 (by decide)), c.ar 9 (by decide) (by decide) (hS 9 (by decide))]
  exact h
theorem mHands.ch {l : List HnT} (h : mHands m M l) (c : Ch m S F M M') (hS : ∀ k ∈ [14, 15, 16], k ∉ S) (hF : 16 ∉ F) : mHands m M' l := by
  unfold mHands
  rw [c.fl 16 hF, c.ar 14 (by decide) (by decide) (hS 14 (by decide)), c.ar 15 (by decide) (by decide) (hS 15 (by decide)), c.ar 16 (by decide) (by decide) (hS 16 (by decide))]
  exact h
theorem mTerms.ch {l : List TmT} (h : mTerms m M l) (c : Ch m S F M M') (hS : ∀ k ∈ [17, 18, 19], k ∉ S) (hF : 20 ∉ F) : mTerms m M' l := by
  unfold mTerms
  rw [c.fl 20 hF, c.ar 17 (by decide) (by decide) (hS 17 (by decide)), c.ar 18 (by decide) (by decide) (hS 18 (by decide)), c.ar 19 (by decide) (by decide) (hS 19 (by decide))]
  exact h
theorem mMem.ch {l : List EnT} (h : mMem m M l) (c : Ch m S F M M') (hS : 20 ∉ S) (hF : 25 ∉ F) : mMem m M' l := by
  unfold mMem
  rw [c.fl 25 hF, c.ar 20 (by decide) (by decide) hS]
  exact h
theorem mKept.ch {k : KpT} (h : mKept m M k) (c : Ch m S F M M') (hS : ∀ k ∈ [21, 22, 23, 24], k ∉ S) (hF : 27 ∉ F) : mKept m M' k := by
  unfold mKept
  rw [c.fl 27 hF, c.ar 21 (by decide) (by decide) (hS 21 (by decide)), c.ar 22 (by decide) (by decide) (hS 22 (by decide)), c.ar 23 (by decide) (by decide) (hS 23 (by decide)), c.ar 24 (by decide) (by decide) (hS 24 (by decide))]
  exact h
end ChC
def RMd (m : Nat) (a : AbS) (M : gh_M) : Prop := mDraft m M (aD a) ∧ mSrc m M (aS a) ∧ mNext m M (aN a) ∧ mHands m M (aH a) ∧ mTerms m M (aT a) ∧ rI M m 24 = aL a ∧ mMem m M (aM a) ∧ mKept m M (aK a)
def RM (sh : gh_Sh) (m : Nat) (a : AbS) (M : gh_M) : Prop := LM sh M m ∧ RMd m a M
def QM (sh : gh_Sh) (m : Nat) (M : gh_M) (o : Int32 × AbS) : Int32 → gh_M → Prop := fun r M1 => r = o.1 ∧ RM sh m o.2 M1 ∧ Fw m (m + 39) M M1
section RMs
variable {sh : gh_Sh} {m : Nat} {a : AbS} {S F : List Nat} {M M' : gh_M}
theorem RMd.scr (h : RMd m a M) (c : Ch m S F M M') (hS : ∀ k ∈ S, 25 ≤ k) (hF : ∀ f ∈ F, 41 ≤ f) : RMd m a M' := by
  obtain ⟨h1, h2, h3, h4, h5, h6, h7, h8⟩ := h
  have s : ∀ k, k < 25 → k ∉ S := fun k hk z => by have := hS k z; omega
  have f : ∀ k, k < 41 → k ∉ F := fun k hk z => by have := hF k z; omega
  refine ⟨h1.ch c (s _ (by omega)) (f _ (by omega)), h2.ch c (fun k hk => s k ?_) (f _ (by omega)), h3.ch c (fun k hk => s k ?_) (f _ (by omega)), h4.ch c (fun k hk => s k ?_) (f _ (by omega)), h5.ch c (fun k hk => s k ?_) (f _ (by omega)), (c.fl 24 (f _ (by omega))).trans h6, h7.ch c (s _ (by omega)) (f _ (by omega)), h8.ch c (fun k hk => s k ?_) (f _ (by omega))⟩ <;>
    (simp at hk; omega)
theorem RM.scr (h : RM sh m a M) (c : Ch m S F M M') (hS : ∀ k ∈ S, 25 ≤ k) (hF : ∀ f ∈ F, 41 ≤ f) : RM sh m a M' := ⟨c.lm h.1, h.2.scr c hS hF⟩
theorem QM.same {r : Int32} (h : RM sh m a M) : QM sh m M (r, a) r M := ⟨rfl, h, Fw.rf _ _ _⟩
theorem QM.to {r : Int32} {b : AbS} (h : RMd m b M') (L : LM sh M m) (c : Ch m S F M M') : QM sh m M (r, b) r M' := ⟨rfl, ⟨c.lm L, h⟩, c.2.2.fw⟩
end RMs
