/-! Frames of what holds between calls; slots; count, end -/
theorem bit01 (v : Int32) : v &&& 1 = 0 ∨ v &&& 1 = 1 := by
  obtain ⟨j, hj, e⟩ := pk_andE v (m := 1) 1 (by decide)
  rw [e]
  rcases (show j = 0 ∨ j = 1 by omega) with rfl | rfl
  · exact Or.inl rfl
  · exact Or.inr rfl
theorem bit0 {v : Int32} : v &&& 1 = 0 ↔ ¬ v &&& 1 = 1 := by
  rcases bit01 v with h | h
  · rw [h]; exact ⟨fun _ => by decide, fun _ => rfl⟩
  · rw [h]; exact ⟨fun q => absurd q (by decide), fun q => absurd rfl q⟩
theorem si_self {S : WS} {f a : Nat} {v : Int32} (h : v = gi S f a) : si S f a v = S := by
  subst h
  unfold si u2 gi
  obtain ⟨s1, s2, s3, s4, s5, s6⟩ := S
  simp only [Prod.mk.injEq, and_true]
  funext g b
  by_cases c : g = f ∧ b = a
  · rw [if_pos c, c.1, c.2]
  · rw [if_neg c]
section FRM
variable {E : EN} {n c : Nat} {S S' : WS} {x : Nat} {M : Nat → Int32}
theorem Inv.t (h : Inv E c S x M) : TAP c S := h.2.2.2.2.2.2.1
theorem Inv.f (h : Inv E c S x M) : FLT c S := h.2.2.2.2.2.2.2.1
theorem Inv.i (h : Inv E c S x M) : ∀ k, k < 3 → IMG E c S k := h.2.2.2.2.2.2.2.2.1
theorem Inv.sl (h : Inv E c S x M) : ∀ k, k < 4 → SLT c S k := h.2.2.2.2.2.2.2.2.2
theorem Inv.hx (h : Inv E c S x M) : x = 4 ∨ x = 17 := h.2.2.1.1
theorem TAP.fr (h : TAP c S) (e1 : gi S' 449 c = gi S 449 c) (e2 : gi S' 517 (c + 129) = gi S 517 (c + 129)) (e3 : ai S' (c + 1) = ai S (c + 1)) (e4 : ai S' (c + 133) = ai S (c + 133)) : TAP c S' := by
  obtain ⟨⟨t, h1, h2, h3⟩, h4⟩ := h
  exact ⟨⟨t, h1, e1.trans h2, e2.trans h3⟩, by rw [e3, e4]; exact h4⟩
theorem FLT.fr (h : FLT c S) (e1 : gi S' 198 (c + 2) = gi S 198 (c + 2)) (e2 : gi S' 199 (c + 2) = gi S 199 (c + 2)) (e3 : gi S' 524 (c + 129) = gi S 524 (c + 129)) (e4 : gi S' 525 (c + 129) = gi S 525 (c + 129)) : FLT c S' := ⟨e1.trans (h.1.trans e3.symm), e2.trans (h.2.trans e4.symm)⟩
theorem IMG.fr {k : Nat} (h : IMG E c S k) (g : ∀ f, gr S' f (c + (82 + 13 * k)) = gr S f (c + (82 + 13 * k))) (gf : ∀ f, 128 ≤ f → f ≤ 134 → gi S' f (c + (82 + 13 * k)) = gi S f (c + (82 + 13 * k))) (a : ∀ j, 1 ≤ j → j ≤ 12 → ai S' (c + (82 + 13 * k) + j) = ai S (c + (82 + 13 * k) + j)) (e1 : ai S' (c + 31) k = ai S (c + 31) k) (e2 : ai S' (c + 132) k = ai S (c + 132) k) (e3 : ∀ i, i < 109 → ai S' (c + 131) (109 * k + i) = ai S (c + 131) (109 * k + i)) : IMG E c S' k := by
  obtain ⟨q1, q2, q3⟩ := h
  refine ⟨by rw [e1, e2]; exact q1, by rw [e1]; exact q2, fun q4 => ?_⟩
  rw [e1] at q4
  obtain ⟨N, w, r, d⟩ := q3 q4
  exact ⟨N, w, RMt.fr r g gf a, fun i hi => (e3 i hi).trans (d i hi)⟩
theorem SLT.fr {k : Nat} (h : SLT c S k) (e1 : gi S' 320 (c + (121 + 2 * k)) = gi S 320 (c + (121 + 2 * k))) (e2 : gi S' 321 (c + (121 + 2 * k)) = gi S 321 (c + (121 + 2 * k))) (e3 : ai S' (c + 146) k = ai S (c + 146) k) (e4 : ai S' (c + 145) k = ai S (c + 145) k) (e5 : ∀ i, i < 60 → aj S' (c + (122 + 2 * k)) i = aj S (c + (122 + 2 * k)) i) (e6 : ∀ i, i < 60 → aj S' (c + 147) (60 * k + i) = aj S (c + 147) (60 * k + i)) : SLT c S' k := by
  obtain ⟨q1, q2, q3, q4, q5⟩ := h
  refine ⟨by rw [e1, e3]; exact q1, by rw [e2, e4]; exact q2, by rw [e3]; exact q3, by rw [e4]; exact q4, fun i hi => ?_⟩
  rw [e5 i hi, e6 i hi]; exact q5 i hi
theorem RWl.fr {m : Nat} {lo : Int32} (h : RWl E S m M lo) (e1 : gr S' 513 m = gr S 513 m) (e2 : ∀ i, i < 109 → ai S' (m + 1) i = ai S (m + 1) i) (e3 : gi S' 527 m = gi S 527 m) : RWl E S' m M lo := ⟨e1.trans h.1, h.2.1, fun i hi => (e2 i hi).trans (h.2.2.1 i hi), e3.trans h.2.2.2⟩
theorem Inv.re {x' : Nat} {M' : Nat → Int32} (h : Inv E c S x M) (hr : ∀ f a, f ≠ 384 → f ≠ 0 → f ≠ 192 → f ≠ 451 → f ≠ 452 → gr S' f a = gr S f a) (har : ∀ a, ar S' a = ar S a) (hN : NOW c S' x') (hw : WF M') (hm : RMt E S' (c + x') M') (ho : RWl E S' (c + 129) M' (-1)) (ht : TAP c S') (hf : FLT c S') (hi : ∀ k, k < 3 → IMG E c S' k) (hs : ∀ k, k < 4 → SLT c S' k) : Inv E c S' x' M' := by
  have shF : ∀ t, t ∈ shl → t.1 ≠ 384 ∧ t.1 ≠ 0 ∧ t.1 ≠ 192 ∧ t.1 ≠ 451 ∧ t.1 ≠ 452 := by decide
  refine ⟨h.L, ⟨fun t q => ?_, fun y hy k hk => ?_, fun k hk => ?_, fun k hk => ?_⟩, hN, hw, hm, ho, ht, hf, hi, hs⟩
  · have s := shF t q
    exact (hr _ _ s.1 s.2.1 s.2.2.1 s.2.2.2.1 s.2.2.2.2).trans (h.s.1 t q)
  · exact (hr _ _ (by omega) (by omega) (by omega) (by omega) (by omega)).trans (h.s.2.1 y hy k hk)
  · rw [har]; exact h.s.2.2.1 k hk
  · rw [har]; exact h.s.2.2.2 k hk
theorem e_X8_slotAt (h : Inv E c S x M) {k : Nat} (hk : k < 4) : f_X8_slotAt E n S c (nI k) = some (some (c + (121 + 2 * k)), S) := by
  have g : gr S 455 c = some (c + 32) := h.s.g 455 0 32 (by decide)
  have l : eN E (c + 32) = 4 := h.L.at 32 4 (by decide) (by decide)
  have a := h.s.2.2.2 k hk
  rw [Nat.add_assoc] at a
  simp only [f_X8_slotAt, if_neg (nI_pos (show k < 2 ^ 31 by omega)), if_neg (show ¬ (4 : Int32) ≤ nI k from nI_ge (b := 4) (by omega) (by decide)), g, obs, l, nI_clamp (show k < 2 ^ 31 by omega), ifn (rinc (show k < 4 by omega) (show 4 < 2 ^ 31 by omega)), a, oes]
theorem e_X8_slotAt0 {k : Int32} (hk : ¬ inI k (nI 4)) : f_X8_slotAt E n S c k = some (none, S) := by
  unfold f_X8_slotAt
  by_cases c1 : k < 0
  · rw [if_pos c1]
  · rw [if_neg c1, if_pos]
    apply Classical.byContradiction
    intro q
    exact hk ⟨c1, q⟩
theorem e_X9_isSlot (k : Int32) : f_X9_isSlot E n S k = some (b2i (inI k (nI 4)), S) := by
  simp only [f_X9_isSlot, inN 3 (nI 4) 3 (by decide) rfl rfl, bds, zc_b]
theorem Inv.g546 (h : Inv E c S x M) : gr S 546 (c + 129) = some (c + 145) := h.s.g 546 129 145 (by decide)
theorem Inv.g547 (h : Inv E c S x M) : gr S 547 (c + 129) = some (c + 146) := h.s.g 547 129 146 (by decide)
theorem Inv.g548 (h : Inv E c S x M) : gr S 548 (c + 129) = some (c + 147) := h.s.g 548 129 147 (by decide)
theorem Inv.g549 (h : Inv E c S x M) : gr S 549 (c + 129) = some (c + 148) := h.s.g 549 129 148 (by decide)
theorem Inv.l145 (h : Inv E c S x M) : eN E (c + 145) = 4 := h.L.at 145 4 (by decide) (by decide)
theorem Inv.l146 (h : Inv E c S x M) : eN E (c + 146) = 4 := h.L.at 146 4 (by decide) (by decide)
theorem Inv.l147 (h : Inv E c S x M) : eN E (c + 147) = 240 := h.L.at 147 240 (by decide) (by decide)
theorem Inv.l148 (h : Inv E c S x M) : eN E (c + 148) = 60 := h.L.at 148 60 (by decide) (by decide)
theorem gr322 (h : SH S c) {k : Nat} (hk : k < 4) : gr S 322 (c + (121 + 2 * k)) = some (c + (122 + 2 * k)) := by
  rcases (show k = 0 ∨ k = 1 ∨ k = 2 ∨ k = 3 by omega) with rfl | rfl | rfl | rfl
  · exact h.g 322 121 122 (by decide)
  · exact h.g 322 123 124 (by decide)
  · exact h.g 322 125 126 (by decide)
  · exact h.g 322 127 128 (by decide)
theorem LE.sl (h : LE E c) {k : Nat} (hk : k < 4) : eN E (c + (122 + 2 * k)) = 60 := by
  rcases (show k = 0 ∨ k = 1 ∨ k = 2 ∨ k = 3 by omega) with rfl | rfl | rfl | rfl
  · exact h.at 122 60 (by decide) (by decide)
  · exact h.at 124 60 (by decide) (by decide)
  · exact h.at 126 60 (by decide) (by decide)
  · exact h.at 128 60 (by decide) (by decide)
/-- who courts, as bits -/
def cab (M : Nat → Int32) : Nat → Int32
  | 0 => 0
  | s + 1 => if M (102 + s) = -1 then cab M s else cab M s ||| ((1 : Int32) <<< (nI s &&& 31))
theorem e_X8_cab (h : Inv E c S x M) (hn : 8 ≤ n) : f_X8_courtersAsBits E n S c = some (cab M (cS M), S) := by
  have hS := h.w.lS
  refine lp (N := cS M) (P := fun s k => f_X8_courtersAsBits_L4 E n k S c (cab M s) (nI s) = some (cab M (cS M), S)) ?_ ?_ (cS M) 0 n (by omega) (by omega)
  · intro k
    simp only [f_X8_courtersAsBits_L4, h.n0, obs, h.m.i133, h.w.t4, if_true]
  · intro s k hs ih
    simp only [f_X8_courtersAsBits_L4, h.n0, obs, h.m.i133, h.w.f4 hs, if_false, h.m.g143, h.m.n9, nI_clamp (show s < 2 ^ 31 by omega), ifn (rinc (show s < 7 by omega) (show 7 < 2 ^ 31 by omega)), h.m.hc s (by omega), lts, nI_1]
    rw [cab] at ih
    by_cases d : M (102 + s) = -1
    · rw [if_pos d] at ih ⊢; exact ih
    · rw [if_neg d] at ih ⊢; exact ih
theorem e_X9_cab (h : Inv E c S x M) (hn : 8 ≤ n) : f_X9_count_L111 E n n S (c + 129) 0 0 = some (cab M (cS M), S) := by
  have hS := h.w.lS
  refine lp (N := cS M) (P := fun s k => f_X9_count_L111 E n k S (c + 129) (cab M s) (nI s) = some (cab M (cS M), S)) ?_ ?_ (cS M) 0 n (by omega) (by omega)
  · intro k
    simp only [f_X9_count_L111, h.o.1, obs, h.o.2.1, mg4, h.o.v4, h.w.t4, if_true]
  · intro s k hs ih
    simp only [f_X9_count_L111, h.o.1, obs, h.o.2.1, mg4, h.o.v4, h.w.f4 hs, if_false, e_X9_courts h.o (show s < 7 by omega), bds, lts, nI_1, Int32.or_zero]
    rw [cab] at ih
    by_cases d : M (102 + s) = -1
    · rw [if_pos d] at ih ⊢; exact ih
    · rw [if_neg d] at ih ⊢; exact ih
theorem e_X8_slotsWithRows (h : Inv E c S x M) (hn : 8 ≤ n) : f_X8_slotsWithRows E n S c = some (nI (cn (fun k => ai S (c + 145) k ≠ -1) 4), S) := by
  refine lp (N := 4) (P := fun s k => f_X8_slotsWithRows_L4 E n k S c (nI (cn (fun k => ai S (c + 145) k ≠ -1) s)) (nI s) = some (nI (cn (fun k => ai S (c + 145) k ≠ -1) 4), S)) ?_ ?_ 4 0 n (by omega) (by omega)
  · intro k
    simp only [f_X8_slotsWithRows_L4]
    rw [if_pos (show (4 : Int32) ≤ nI 4 by decide)]
  · intro s k hs ih
    simp only [f_X8_slotsWithRows_L4, e_X8_slotAt h hs, bds, oes, (h.sl s hs).2.1, lts, nI_1]
    rw [if_neg (show ¬ (4 : Int32) ≤ nI s from nI_ge (b := 4) (by omega) (by decide))]
    rw [cn] at ih
    by_cases d : ai S (c + 145) s = -1
    · rw [if_neg (fun q => q d)] at ih
      rw [if_pos d]; exact ih
    · rw [if_pos d] at ih
      rw [if_neg d]; exact ih
theorem e_X9_slotsWithRows (h : Inv E c S x M) (hn : 8 ≤ n) : f_X9_count_L150 E n n S (c + 129) 0 0 = some (nI (cn (fun k => ai S (c + 145) k ≠ -1) 4), S) := by
  refine lp (N := 4) (P := fun s k => f_X9_count_L150 E n k S (c + 129) (nI (cn (fun k => ai S (c + 145) k ≠ -1) s)) (nI s) = some (nI (cn (fun k => ai S (c + 145) k ≠ -1) 4), S)) ?_ ?_ 4 0 n (by omega) (by omega)
  · intro k
    simp only [f_X9_count_L150]
    rw [if_pos (show (4 : Int32) ≤ nI 4 by decide)]
  · intro s k hs ih
    simp only [f_X9_count_L150, h.g546, obs, h.l145, nI_clamp (show s < 2 ^ 31 by omega), ifn (rinc (show s < 4 by omega) (show 4 < 2 ^ 31 by omega)), lts, nI_1, add0]
    rw [if_neg (show ¬ (4 : Int32) ≤ nI s from nI_ge (b := 4) (by omega) (by decide))]
    rw [cn] at ih
    by_cases d : ai S (c + 145) s = -1
    · rw [if_neg (fun q => q d)] at ih
      rw [if_pos d]; exact ih
    · rw [if_pos d] at ih
      rw [if_neg d]; exact ih
theorem op_count (h : Inv E c S x M) (hn : 8 ≤ n) (y : Int32) : OK E c (f_X8_count E n S c y) (fun S1 => f_X9_count E n S1 (c + 129) y) := by
  by_cases c0 : y = 0
  · subst c0
    exact OK.r h (v := M 0) (by simp only [f_X8_count, if_true, h.n0, obs, h.m.i129]) (by simp only [f_X9_count, if_true, e_X9_places h.o, bds])
  by_cases c1 : y = 1
  · subst c1
    exact OK.r h (v := M 1) (by simp only [f_X8_count, c0, if_true, if_false, h.n0, obs, h.m.i130]) (by simp only [f_X9_count, c0, if_true, if_false, h.o.1, obs, h.o.2.1, mg1, h.o.v1])
  by_cases c2 : y = 2
  · subst c2
    exact OK.r h (v := M 2) (by simp only [f_X8_count, c0, c1, if_true, if_false, h.n0, obs, h.m.i131]) (by simp only [f_X9_count, c0, c1, if_true, if_false, h.o.1, obs, h.o.2.1, mg2, h.o.v2])
  by_cases c3 : y = 3
  · subst c3
    exact OK.r h (v := M 3) (by simp only [f_X8_count, c0, c1, c2, if_true, if_false, h.n0, obs, h.m.i132]) (by simp only [f_X9_count, c0, c1, c2, if_true, if_false, h.o.1, obs, h.o.2.1, mg3, h.o.v3])
  by_cases c4 : y = 4
  · subst c4
    exact OK.r h (v := M 4) (by simp only [f_X8_count, c0, c1, c2, c3, if_true, if_false, h.n0, obs, h.m.i133]) (by simp only [f_X9_count, c0, c1, c2, c3, if_true, if_false, h.o.1, obs, h.o.2.1, mg4, h.o.v4])
  by_cases c5 : y = 5
  · subst c5
    exact OK.r h (v := M 5) (by simp only [f_X8_count, c0, c1, c2, c3, c4, if_true, if_false, h.n0, obs, h.m.i134]) (by simp only [f_X9_count, c0, c1, c2, c3, c4, if_true, if_false, h.o.1, obs, h.o.2.1, mg5, h.o.v5])
  by_cases c6 : y = 6
  · subst c6
    exact OK.r h (v := M 6) (by simp only [f_X8_count, c0, c1, c2, c3, c4, c5, if_true, if_false, h.n0, obs, h.m.i128]) (by simp only [f_X9_count, c0, c1, c2, c3, c4, c5, if_true, if_false, h.o.1, obs, h.o.2.1, mg6, h.o.v6])
  by_cases c7 : y = 7
  · subst c7
    obtain ⟨⟨t, ht, e1, e2⟩, -⟩ := h.t
    have e1 : gi S 449 c = nI t := e1
    exact OK.r h (v := nI t) (by simp only [f_X8_count, c0, c1, c2, c3, c4, c5, c6, if_true, if_false, e1]) (by simp only [f_X9_count, c0, c1, c2, c3, c4, c5, c6, if_true, if_false, e2])
  by_cases c8 : y = 8
  · subst c8
    exact OK.r h (v := cab M (cS M)) (by simp only [f_X8_count, c0, c1, c2, c3, c4, c5, c6, c7, if_true, if_false, e_X8_cab h hn, bds]) (by simp only [f_X9_count, c0, c1, c2, c3, c4, c5, c6, c7, if_true, if_false, e_X9_cab h hn])
  by_cases c9 : y = 9
  · subst c9
    exact OK.r h (v := nI (cn (fun k => ai S (c + 145) k ≠ -1) 4)) (by simp only [f_X8_count, c0, c1, c2, c3, c4, c5, c6, c7, c8, if_true, if_false, e_X8_slotsWithRows h hn, bds]) (by simp only [f_X9_count, c0, c1, c2, c3, c4, c5, c6, c7, c8, if_true, if_false, e_X9_slotsWithRows h hn])
  exact OK.r h (v := -1) (by simp only [f_X8_count, c0, c1, c2, c3, c4, c5, c6, c7, c8, c9, if_false]) (by simp only [f_X9_count, c0, c1, c2, c3, c4, c5, c6, c7, c8, c9, if_false])
theorem op_end (h : Inv E c S x M) (y : Int32) : OK E c (f_X8_end E n S c y) (fun S1 => f_X9_end E n S1 (c + 129) y) := by
  have hx := h.hx
  obtain ⟨⟨t, ht, e1, e2⟩, e3⟩ := h.t
  have e1 : gi S 449 c = nI t := e1
  by_cases c1 : inI y (nI (t + 1))
  · obtain ⟨j, hj, rfl⟩ := inI_j rfl (by omega) c1
    refine ⟨nI j, si S 449 c (nI j), si (si S 449 c (nI j)) 517 (c + 129) (nI j), x, M, ?_, ?_, ?_⟩
    · simp only [f_X8_end, if_neg c1.1, e1, if_pos (nI_le (show j ≤ t by omega) (show t < 2 ^ 31 by omega)), lts]
    · have e4 : gi (si S 449 c (nI j)) 517 (c + 129) = nI t := (gi_si_f (by decide)).trans e2
      simp only [f_X9_end, e4, nI_l (show t < 2 ^ 31 by omega), inN (lN t) (nI (t + 1)) t (by omega) rfl rfl, bds, ifb1 c1, lts]
    · have ef : ∀ f a, f ≠ 449 → f ≠ 517 → gi (si (si S 449 c (nI j)) 517 (c + 129) (nI j)) f a = gi S f a := fun f a q1 q2 => (gi_si_f q2).trans (gi_si_f q1)
      refine h.re (fun _ _ _ _ _ _ _ => rfl) (fun _ => rfl) h.2.2.1 h.w ?_ ?_ ?_ ?_ ?_ ?_
      · exact RMt.fr h.m (fun _ => rfl) (fun f q1 q2 => ef f _ (by omega) (by omega)) (fun _ _ _ => rfl)
      · exact h.o.fr rfl (fun _ _ => rfl) (ef 527 _ (by decide) (by decide))
      · exact ⟨⟨j, by omega, (gi_si_f (by decide)).trans gi_si_eq, gi_si_eq⟩, e3⟩
      · exact h.f.fr (ef _ _ (by decide) (by decide)) (ef _ _ (by decide) (by decide)) (ef _ _ (by decide) (by decide)) (ef _ _ (by decide) (by decide))
      · intro k hk
        exact (h.i k hk).fr (fun _ => rfl) (fun f q1 q2 => ef f _ (by omega) (by omega)) (fun _ _ _ => rfl) rfl rfl (fun _ _ => rfl)
      · intro k hk
        exact (h.sl k hk).fr (ef _ _ (by decide) (by decide)) (ef _ _ (by decide) (by decide)) rfl rfl (fun _ _ => rfl) (fun _ _ => rfl)
  · refine OK.r h (v := -1) ?_ (by simp only [f_X9_end, e2, nI_l (show t < 2 ^ 31 by omega), inN (lN t) (nI (t + 1)) t (by omega) rfl rfl, bds, ifb0 c1])
    simp only [f_X8_end, e1]
    by_cases c2 : y < 0
    · rw [if_pos c2]
    · rw [if_neg c2, if_neg]
      intro q
      exact c1 ⟨c2, (bnd (nI t) t (by omega) rfl).mp q⟩
end FRM
