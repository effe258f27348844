/-! Calls that only read, answered alike -/
theorem lcm_le0 {x y : Int64} : lg_cmp x y ≤ 0 ↔ ¬ y < x := by
  rw [← lcm_gt, fa_le, fa_lt]; omega
theorem lcm_0le {x y : Int64} : 0 ≤ lg_cmp x y ↔ ¬ x < y := by
  rw [← lcm_lt, fa_le, fa_lt]; omega
theorem lcm_eq {x y : Int64} : lg_cmp x y = 0 ↔ x = y := by
  have h1 := lcm_lt (x := x) (y := y)
  have h2 := lcm_gt (x := x) (y := y)
  rw [fa_lt, fa_lt64] at h1 h2
  rw [fa_eq, fa_eq64]
  have e : (0 : Int32).toInt = 0 := by decide
  omega
theorem inN {E : EN} {f : Nat} {S : WS} {x : Int32} (z : Int64) (u : Int32) (N : Nat) (hN : N + 1 < 2 ^ 31) (hz : z = lN N) (hu : u = nI (N + 1)) : f_X9_in E f S x.toInt64 (0 : Int64) z = some (b2i (inI x u), S) := by
  rw [hu, hz, ← nI_l (by omega), show (0 : Int64) = (0 : Int32).toInt64 by decide, e_in32, ← nI_pred N, b2i_c (l1i hN)]
theorem ifb1 {α : Type} {p : Prop} {A B : α} (h : p) : (if b2i p = 0 then A else B) = B := if_neg (fun q => b2i_eq0.mp q h)
theorem ifb0 {α : Type} {p : Prop} {A B : α} (h : ¬ p) : (if b2i p = 0 then A else B) = A := if_pos (b2i_eq0.mpr h)
/-- a class's own test of bounds -/
theorem bnd {x : Int32} (z : Int32) (N : Nat) (hN : N + 1 < 2 ^ 31) (hz : z = nI N) : x ≤ z ↔ ¬ nI (N + 1) ≤ x := by
  rw [hz, fa_le, fa_le, nI_toInt (by omega), nI_toInt (by omega)]; omega
section OPS
variable {E : EN} {n c : Nat} {S : WS} {x : Nat} {M : Nat → Int32}
theorem Inv.L (h : Inv E c S x M) : LE E c := h.1
theorem Inv.s (h : Inv E c S x M) : SH S c := h.2.1
theorem Inv.n0 (h : Inv E c S x M) : gr S 451 c = some (c + x) := h.2.2.1.2.1
theorem Inv.w (h : Inv E c S x M) : WF M := h.2.2.2.1
theorem Inv.m (h : Inv E c S x M) : RMt E S (c + x) M := h.2.2.2.2.1
theorem Inv.o (h : Inv E c S x M) : RWl E S (c + 129) M (-1) := h.2.2.2.2.2.1
theorem OK.r {α : Type} {v : α} {f : Option (α × WS)} {g : WS → Option (α × WS)} (h : Inv E c S x M) (hf : f = some (v, S)) (hg : g S = some (v, S)) : OK E c f g := ⟨v, S, S, x, M, hf, hg, h⟩
theorem OK.k {α : Type} {v : α} {f : Option (α × WS)} {g : WS → Option (α × WS)} {S1 S2 : WS} (h : Inv E c S x M) (hf : f = some (v, S1)) (k1 : KP c S S1) (hg : g S1 = some (v, S2)) (k2 : KP c S1 S2) : OK E c f g := ⟨v, S1, S2, x, M, hf, hg, (h.kp k1).kp k2⟩
theorem k528 {S : WS} {v : Int32} : KP c S (si S 528 (c + 129) v) := KP.si (by unfold kf; omega)
theorem ix2 {y : Int32} (h : inI y (nI 2)) : y = 0 ∨ y = 1 := by
  obtain ⟨j, hj, rfl⟩ := inI_j rfl (by decide) h
  rcases (show j = 0 ∨ j = 1 by omega) with rfl | rfl
  · exact Or.inl rfl
  · exact Or.inr rfl
theorem ix3 {y : Int32} (h : inI y (nI 3)) : y = 0 ∨ y = 1 ∨ y = 2 := by
  obtain ⟨j, hj, rfl⟩ := inI_j rfl (by decide) h
  rcases (show j = 0 ∨ j = 1 ∨ j = 2 by omega) with rfl | rfl | rfl
  · exact Or.inl rfl
  · exact Or.inr (Or.inl rfl)
  · exact Or.inr (Or.inr rfl)
theorem ix4 {y : Int32} (h : inI y (nI 4)) : y = 0 ∨ y = 1 ∨ y = 2 ∨ y = 3 := by
  obtain ⟨j, hj, rfl⟩ := inI_j rfl (by decide) h
  rcases (show j = 0 ∨ j = 1 ∨ j = 2 ∨ j = 3 by omega) with rfl | rfl | rfl | rfl
  · exact Or.inl rfl
  · exact Or.inr (Or.inl rfl)
  · exact Or.inr (Or.inr (Or.inl rfl))
  · exact Or.inr (Or.inr (Or.inr rfl))
theorem ix5 {y : Int32} (h : inI y (nI 5)) : y = 0 ∨ y = 1 ∨ y = 2 ∨ y = 3 ∨ y = 4 := by
  obtain ⟨j, hj, rfl⟩ := inI_j rfl (by decide) h
  rcases (show j = 0 ∨ j = 1 ∨ j = 2 ∨ j = 3 ∨ j = 4 by omega) with rfl | rfl | rfl | rfl | rfl
  · exact Or.inl rfl
  · exact Or.inr (Or.inl rfl)
  · exact Or.inr (Or.inr (Or.inl rfl))
  · exact Or.inr (Or.inr (Or.inr (Or.inl rfl)))
  · exact Or.inr (Or.inr (Or.inr (Or.inr rfl)))
theorem op_fault (h : Inv E c S x M) (y : Int32) : OK E c (f_X8_fault E n S c y) (fun S1 => f_X9_fault E n S1 (c + 129) y) := by
  have g : gr S 450 c = some (c + 2) := h.s.g 450 0 2 (by decide)
  have hf := h.2.2.2.2.2.2.2.1
  by_cases c1 : y = 0
  · subst c1
    exact OK.r h (v := gi S 524 (c + 129)) (by simp only [f_X8_fault, g, obs, if_true, hf.1]) (by simp only [f_X9_fault, if_true])
  · by_cases c2 : y = 1
    · subst c2
      exact OK.r h (v := gi S 525 (c + 129)) (by simp only [f_X8_fault, c1, g, obs, if_true, if_false, hf.2]) (by simp only [f_X9_fault, c1, if_true, if_false])
    · exact OK.r h (v := -1) (by simp only [f_X8_fault, c1, c2, if_false]) (by simp only [f_X9_fault, c1, c2, if_false])
theorem op_path (h : Inv E c S x M) (p y : Int32) : OK E c (f_X8_path E n S c p y) (fun S1 => f_X9_path E n S1 (c + 129) p y) := by
  have hA := h.w.lA
  by_cases c1 : inI p (M 2)
  · obtain ⟨j, hj, rfl⟩ := inI_j h.w.s2 (by omega) c1
    by_cases c2 : inI y (nI 3)
    · rcases ix3 c2 with rfl | rfl | rfl
      · exact OK.r h (v := M (45 + 2 * j)) (by simp only [f_X8_path, h.n0, obs, e_X3_hasPath h.m, bds, ifb1 c1, if_false, if_true, h.m.g136, h.m.n2, nI_clamp (show j < 2 ^ 31 by omega), ifn (rinc (show j < 10 by omega) (show 10 < 2 ^ 31 by omega)), (h.m.hp j hj).1]) (by simp only [f_X9_path, e_X9_isPath h.o h.w, inN 2 (nI 3) 2 (by decide) rfl rfl, bds, ifb1 c1, ifb1 c2, if_false, if_true, show ¬ (0 : Int32) = 2 by decide, e_X9_endOf0 h.o (show j < 10 by omega)])
      · exact OK.r h (v := M (46 + 2 * j)) (by simp only [f_X8_path, h.n0, obs, e_X3_hasPath h.m, bds, ifb1 c1, if_false, if_true, show ¬ (1 : Int32) = 0 by decide, h.m.g137, h.m.n3, nI_clamp (show j < 2 ^ 31 by omega), ifn (rinc (show j < 10 by omega) (show 10 < 2 ^ 31 by omega)), (h.m.hp j hj).2]) (by simp only [f_X9_path, e_X9_isPath h.o h.w, inN 2 (nI 3) 2 (by decide) rfl rfl, bds, ifb1 c1, ifb1 c2, if_false, if_true, show ¬ (1 : Int32) = 2 by decide, e_X9_endOf1 h.o (show j < 10 by omega)])
      · exact OK.r h (v := drp M j) (by simp only [f_X8_path, h.n0, obs, e_X3_hasPath h.m, bds, ifb1 c1, if_false, if_true, show ¬ (2 : Int32) = 0 by decide, show ¬ (2 : Int32) = 1 by decide, e_X3_dropOf h.m h.w hj]) (by simp only [f_X9_path, e_X9_isPath h.o h.w, inN 2 (nI 3) 2 (by decide) rfl rfl, bds, ifb1 c1, ifb1 c2, if_false, if_true, e_X9_dropOf h.o h.w hj])
    · have d0 : ¬ y = 0 := fun q => c2 (by rw [q]; decide)
      have d1 : ¬ y = 1 := fun q => c2 (by rw [q]; decide)
      have d2 : ¬ y = 2 := fun q => c2 (by rw [q]; decide)
      exact OK.r h (v := -2) (by simp only [f_X8_path, h.n0, obs, e_X3_hasPath h.m, bds, ifb1 c1, if_false, d0, d1, d2]) (by simp only [f_X9_path, e_X9_isPath h.o h.w, inN 2 (nI 3) 2 (by decide) rfl rfl, bds, ifb1 c1, ifb0 c2])
  · exact OK.r h (v := -2) (by simp only [f_X8_path, h.n0, obs, e_X3_hasPath h.m, bds, ifb0 c1]) (by simp only [f_X9_path, e_X9_isPath h.o h.w, bds, ifb0 c1])
theorem e_X9_brideL (h : Inv E c S x M) (hn : 8 ≤ n) {b : Nat} (hb : b < cB M) (y : Int32) : f_X9_bride_L28 E n n S (c + 129) (nI b) y 0 0 = if y = 0 then some (M (65 + 2 * b), S) else if y = 1 then some (M (66 + 2 * b), S) else if y = 2 then some (nI (cn (fun s => oM M s = nI b) (cS M)), S) else some (tkn (oM M) (kM M) (nI b) (cS M), S) := by
  have hS := h.w.lS
  have hB := h.w.lB
  refine lp (N := cS M) (P := fun s k => f_X9_bride_L28 E n k S (c + 129) (nI b) y (nI (cn (fun s => oM M s = nI b) s)) (nI s) = if y = 0 then some (M (65 + 2 * b), S) else if y = 1 then some (M (66 + 2 * b), S) else if y = 2 then some (nI (cn (fun s => oM M s = nI b) (cS M)), S) else some (tkn (oM M) (kM M) (nI b) (cS M), S)) ?_ ?_ (cS M) 0 n (by omega) (by omega)
  · intro k
    simp only [f_X9_bride_L28, h.o.1, obs, h.o.2.1, mg4, h.o.v4, h.w.t4, if_true, e_X9_pathOf h.o (show b < 4 by omega), e_X9_yearOf h.o (show b < 4 by omega), e_X9_takenBy h.o h.w hn, bds]
  · intro s k hs ih
    simp only [f_X9_bride_L28, h.o.1, obs, h.o.2.1, mg4, h.o.v4, h.w.f4 hs, if_false, e_X9_courts h.o (show s < 7 by omega), bds, lts, nI_1, add0]
    rw [cn] at ih
    by_cases c1 : oM M s = nI b
    · rw [if_pos c1] at ih
      rw [if_pos (show M (102 + s) = nI b from c1)]; exact ih
    · rw [if_neg c1] at ih
      rw [if_neg (show ¬ M (102 + s) = nI b from c1)]; exact ih
theorem op_bride (h : Inv E c S x M) (hn : 8 ≤ n) (p y : Int32) : OK E c (f_X8_bride E n S c p y) (fun S1 => f_X9_bride E n S1 (c + 129) p y) := by
  have hB := h.w.lB
  by_cases c1 : inI p (M 3)
  · obtain ⟨j, hj, rfl⟩ := inI_j h.w.s3 (by omega) c1
    by_cases c2 : inI y (nI 4)
    · have hg : f_X9_bride E n S (c + 129) (nI j) y = f_X9_bride_L28 E n n S (c + 129) (nI j) y 0 0 := by simp only [f_X9_bride, e_X9_isBride h.o h.w, inN 3 (nI 4) 3 (by decide) rfl rfl, bds, ifb1 c1, ifb1 c2, if_false]
      rw [e_X9_brideL h hn hj] at hg
      rcases ix4 c2 with rfl | rfl | rfl | rfl
      · exact OK.r h (v := M (65 + 2 * j)) (by simp only [f_X8_bride, h.n0, obs, e_X3_hasBride h.m, bds, ifb1 c1, if_false, if_true, h.m.g138, h.m.n4, nI_clamp (show j < 2 ^ 31 by omega), ifn (rinc (show j < 4 by omega) (show 4 < 2 ^ 31 by omega)), (h.m.hb j hj).1]) (by rw [hg]; rfl)
      · exact OK.r h (v := M (66 + 2 * j)) (by simp only [f_X8_bride, h.n0, obs, e_X3_hasBride h.m, bds, ifb1 c1, if_false, if_true, show ¬ (1 : Int32) = 0 by decide, h.m.g139, h.m.n5, nI_clamp (show j < 2 ^ 31 by omega), ifn (rinc (show j < 4 by omega) (show 4 < 2 ^ 31 by omega)), (h.m.hb j hj).2]) (by rw [hg]; rfl)
      · exact OK.r h (v := nI (cn (fun s => oM M s = nI j) (cS M))) (by simp only [f_X8_bride, h.n0, obs, e_X3_hasBride h.m, bds, ifb1 c1, if_false, if_true, show ¬ (2 : Int32) = 0 by decide, show ¬ (2 : Int32) = 1 by decide, h.m.g143, e_X3_courtersOf h.m h.w hn]) (by rw [hg]; rfl)
      · exact OK.r h (v := tkn (oM M) (kM M) (nI j) (cS M)) (by simp only [f_X8_bride, h.n0, obs, e_X3_hasBride h.m, bds, ifb1 c1, if_false, if_true, show ¬ (3 : Int32) = 0 by decide, show ¬ (3 : Int32) = 1 by decide, show ¬ (3 : Int32) = 2 by decide, h.m.g143, e_X3_takenByC h.m h.w hn]) (by rw [hg]; rfl)
    · have d0 : ¬ y = 0 := fun q => c2 (by rw [q]; decide)
      have d1 : ¬ y = 1 := fun q => c2 (by rw [q]; decide)
      have d2 : ¬ y = 2 := fun q => c2 (by rw [q]; decide)
      have d3 : ¬ y = 3 := fun q => c2 (by rw [q]; decide)
      exact OK.r h (v := -2) (by simp only [f_X8_bride, h.n0, obs, e_X3_hasBride h.m, bds, ifb1 c1, if_false, d0, d1, d2, d3]) (by simp only [f_X9_bride, e_X9_isBride h.o h.w, inN 3 (nI 4) 3 (by decide) rfl rfl, bds, ifb1 c1, ifb0 c2])
  · exact OK.r h (v := -2) (by simp only [f_X8_bride, h.n0, obs, e_X3_hasBride h.m, bds, ifb0 c1]) (by simp only [f_X9_bride, e_X9_isBride h.o h.w, bds, ifb0 c1])
theorem op_suitor (h : Inv E c S x M) (hn : 8 ≤ n) (p y : Int32) : OK E c (f_X8_suitor E n S c p y) (fun S1 => f_X9_suitor E n S1 (c + 129) p y) := by
  have hS := h.w.lS
  by_cases c1 : inI p (M 4)
  · obtain ⟨j, hj, rfl⟩ := inI_j h.w.s4 (by omega) c1
    by_cases c2 : inI y (nI 5)
    · rcases ix5 c2 with rfl | rfl | rfl | rfl | rfl
      · exact OK.r h (v := M (73 + 3 * j)) (by simp only [f_X8_suitor, h.n0, obs, e_X3_hasSuitor h.m, bds, ifb1 c1, if_false, if_true, h.m.g140, h.m.n6, nI_clamp (show j < 2 ^ 31 by omega), ifn (rinc (show j < 7 by omega) (show 7 < 2 ^ 31 by omega)), (h.m.hs j hj).1]) (by simp only [f_X9_suitor, e_X9_isSuitor h.o h.w, inN 4 (nI 5) 4 (by decide) rfl rfl, bds, ifb1 c1, ifb1 c2, if_false, if_true, e_X9_skillOf h.o (show j < 7 by omega)])
      · exact OK.r h (v := M (74 + 3 * j)) (by simp only [f_X8_suitor, h.n0, obs, e_X3_hasSuitor h.m, bds, ifb1 c1, if_false, if_true, show ¬ (1 : Int32) = 0 by decide, h.m.g141, h.m.n7, nI_clamp (show j < 2 ^ 31 by omega), ifn (rinc (show j < 7 by omega) (show 7 < 2 ^ 31 by omega)), (h.m.hs j hj).2.1]) (by simp only [f_X9_suitor, e_X9_isSuitor h.o h.w, inN 4 (nI 5) 4 (by decide) rfl rfl, bds, ifb1 c1, ifb1 c2, if_false, if_true, show ¬ (1 : Int32) = 0 by decide, e_X9_spiteOf h.o (show j < 7 by omega)])
      · refine OK.r h (v := M (75 + 3 * j)) (by simp only [f_X8_suitor, h.n0, obs, e_X3_hasSuitor h.m, bds, ifb1 c1, if_false, if_true, show ¬ (2 : Int32) = 0 by decide, show ¬ (2 : Int32) = 1 by decide, h.m.g142, h.m.n8, nI_clamp (show j < 2 ^ 31 by omega), ifn (rinc (show j < 7 by omega) (show 7 < 2 ^ 31 by omega)), (h.m.hs j hj).2.2]) ?_
        simp only [f_X9_suitor, e_X9_isSuitor h.o h.w, inN 4 (nI 5) 4 (by decide) rfl rfl, bds, ifb1 c1, ifb1 c2, if_false, if_true, show ¬ (2 : Int32) = 0 by decide, show ¬ (2 : Int32) = 1 by decide]
        exact wrd h.o (y := fun v => some (v, S)) (ixS2 j) (by omega)
      · exact OK.r h (v := M (102 + j)) (by simp only [f_X8_suitor, h.n0, obs, e_X3_hasSuitor h.m, bds, ifb1 c1, if_false, if_true, show ¬ (3 : Int32) = 0 by decide, show ¬ (3 : Int32) = 1 by decide, show ¬ (3 : Int32) = 2 by decide, h.m.g143, h.m.n9, nI_clamp (show j < 2 ^ 31 by omega), ifn (rinc (show j < 7 by omega) (show 7 < 2 ^ 31 by omega)), h.m.hc j (by omega)]) (by simp only [f_X9_suitor, e_X9_isSuitor h.o h.w, inN 4 (nI 5) 4 (by decide) rfl rfl, bds, ifb1 c1, ifb1 c2, if_false, if_true, show ¬ (3 : Int32) = 0 by decide, show ¬ (3 : Int32) = 1 by decide, show ¬ (3 : Int32) = 2 by decide, e_X9_courts h.o (show j < 7 by omega)])
      · by_cases c3 : rfs (oM M) (kM M) (cS M) j
        · exact OK.r h (v := 1) (by simp only [f_X8_suitor, h.n0, obs, e_X3_hasSuitor h.m, bds, ifb1 c1, if_false, if_true, show ¬ (4 : Int32) = 0 by decide, show ¬ (4 : Int32) = 1 by decide, show ¬ (4 : Int32) = 2 by decide, show ¬ (4 : Int32) = 3 by decide, h.m.g143, e_X3_isRefusedC h.m h.w hn (show j < 7 by omega), b2i_t c3, show ¬ (1 : Int32) = 0 by decide]) (by simp only [f_X9_suitor, e_X9_isSuitor h.o h.w, inN 4 (nI 5) 4 (by decide) rfl rfl, bds, ifb1 c1, ifb1 c2, if_false, if_true, show ¬ (4 : Int32) = 0 by decide, show ¬ (4 : Int32) = 1 by decide, show ¬ (4 : Int32) = 2 by decide, show ¬ (4 : Int32) = 3 by decide, e_X9_isRefused h.o h.w hn (show j < 7 by omega), b2i_t c3, show ¬ (1 : Int32) = 0 by decide])
        · exact OK.r h (v := 0) (by simp only [f_X8_suitor, h.n0, obs, e_X3_hasSuitor h.m, bds, ifb1 c1, if_false, if_true, show ¬ (4 : Int32) = 0 by decide, show ¬ (4 : Int32) = 1 by decide, show ¬ (4 : Int32) = 2 by decide, show ¬ (4 : Int32) = 3 by decide, h.m.g143, e_X3_isRefusedC h.m h.w hn (show j < 7 by omega), b2i_f c3]) (by simp only [f_X9_suitor, e_X9_isSuitor h.o h.w, inN 4 (nI 5) 4 (by decide) rfl rfl, bds, ifb1 c1, ifb1 c2, if_false, if_true, show ¬ (4 : Int32) = 0 by decide, show ¬ (4 : Int32) = 1 by decide, show ¬ (4 : Int32) = 2 by decide, show ¬ (4 : Int32) = 3 by decide, e_X9_isRefused h.o h.w hn (show j < 7 by omega), b2i_f c3])
    · have d0 : ¬ y = 0 := fun q => c2 (by rw [q]; decide)
      have d1 : ¬ y = 1 := fun q => c2 (by rw [q]; decide)
      have d2 : ¬ y = 2 := fun q => c2 (by rw [q]; decide)
      have d3 : ¬ y = 3 := fun q => c2 (by rw [q]; decide)
      have d4 : ¬ y = 4 := fun q => c2 (by rw [q]; decide)
      exact OK.r h (v := -2) (by simp only [f_X8_suitor, h.n0, obs, e_X3_hasSuitor h.m, bds, ifb1 c1, if_false, d0, d1, d2, d3, d4]) (by simp only [f_X9_suitor, e_X9_isSuitor h.o h.w, inN 4 (nI 5) 4 (by decide) rfl rfl, bds, ifb1 c1, ifb0 c2])
  · exact OK.r h (v := -2) (by simp only [f_X8_suitor, h.n0, obs, e_X3_hasSuitor h.m, bds, ifb0 c1]) (by simp only [f_X9_suitor, e_X9_isSuitor h.o h.w, bds, ifb0 c1])
end OPS
