/-! A line of a mountain, both ways -/
theorem wrd_ne : ∀ w, w < 18 → ∀ w', w' < 18 → w ≠ w' → ¬ (sLen.getD w 0 = sLen.getD w' 0 ∧ ∀ i, i < sLen.getD w 0 → schr w (nI i) = schr w' (nI i)) := by decide +kernel
theorem lim10 : ∀ x, x < 10 → ¬ (10 : Int32) ≤ nI x ∧ ¬ nI x = 10 := by decide +kernel
theorem lim4 : ∀ x, x < 4 → ¬ (4 : Int32) ≤ nI x ∧ ¬ nI x = 4 := by decide +kernel
theorem lim7 : ∀ x, x < 7 → ¬ (7 : Int32) ≤ nI x ∧ ¬ nI x = 7 := by decide +kernel
theorem eql10 : (10 : Int32) ≤ nI 10 ∧ nI 10 = 10 := by decide
theorem eql4 : (4 : Int32) ≤ nI 4 ∧ nI 4 = 4 := by decide
theorem eql7 : (7 : Int32) ≤ nI 7 ∧ nI 7 = 7 := by decide
theorem wrd_64 : ∀ w, w < 18 → sLen.getD w 0 < 64 := by decide
section LNX
variable {E : EN} {n c a : Nat} {S S' Sc Sm Sm1 : WS} {b : Nat → Int32} {L q : Nat} {R R' Rm : Nat → Int32} {fc : Option (Int32 × WS)} {fm : Option (Unit × WS)}
theorem tkw_ne {w w' : Nat} (hw : w < 18) (hw' : w' < 18) (hne : w ≠ w') (h : tkw b L q w) : ¬ tkw b L q w' := fun h' => wrd_ne w hw w' hw' hne (tkw_one h h')
theorem OUT.zc (h : OUT E c a b L q R Sc Sm fc fm) : OUT E c a b L q R Sc Sm (bd fc fun v S => zc v S) fm := by
  rcases h with ⟨q', R', Sc', Sm', r1, r⟩ | ⟨k, p, Sc', Sm', r1, r⟩
  · exact Or.inl ⟨q', R', Sc', Sm', by rw [r1, bds, zc1], r⟩
  · exact Or.inr ⟨k, p, Sc', Sm', by rw [r1, bds, zc0], r⟩
theorem OUT.un (h : OUT E c a b L q R Sc Sm fc fm) : OUT E c a b L q R Sc Sm fc (bd fm fun _ S => some ((), S)) := by
  rcases h with ⟨q', R', Sc', Sm', r1, r2, r3, r4, r⟩ | ⟨k, p, Sc', Sm', r1, r2, r3, r4, r⟩
  · exact Or.inl ⟨q', R', Sc', Sm', r1, r2, r3, by rw [r4, bds], r⟩
  · exact Or.inr ⟨k, p, Sc', Sm', r1, r2, r3, by rw [r4, bds], r⟩
theorem OUT.pre (h : OUT E c a b L q R Sc Sm1 fc fm) (k : FMo c Sm Sm1) : OUT E c a b L q R Sc Sm fc fm := by
  rcases h with ⟨q', R', Sc', Sm', r1, r2, r3, r4, r5, r⟩ | ⟨k', p, Sc', Sm', r1, r2, r3, r4, r5, r⟩
  · exact Or.inl ⟨q', R', Sc', Sm', r1, r2, r3, r4, k.tr r5, r⟩
  · exact Or.inr ⟨k', p, Sc', Sm', r1, r2, r3, r4, k.tr r5, r⟩
theorem J161_bad {k p : Nat} (h : BAD E c k p S) : f_X9_readNext_J161 E n S (c + 129) = some ((), S) := by
  simp only [f_X9_readNext_J161, gd_f h, bds, if_true]
theorem J78n_bad {k p : Nat} (h : BAD E c k p S) (hn : 2 ≤ n) : f_X9_readNext_J78 E n S (c + 129) = some ((), S) := by
  simp only [f_X9_readNext_J78, f_X9_readNext_J98, f_X9_readNext_J117, f_X9_readNext_J137, bad_is h hn, bds, if_true, J161_bad h]
/-- both fail at the token's start, the model's line being over -/
theorem out_f (k : Nat) (hk : 1 ≤ k ∧ k ≤ 3) (hs : RC E c a b L q R Sc) (hm : RM E c b L q R Sm) {g : WS → Option (Unit × WS)} (hg : ∀ S p, BAD E c k p S → g S = some ((), S)) : OUT E c a b L q R Sc Sm (bd (f_X4_failHere E n Sc (c + 2) (nI k)) fun v S => zc v S) (bd (f_X9_errs E n Sm (c + 129) (nI k)) fun _ S => g S) := by
  obtain ⟨Sc4, f1, f2, f3⟩ := cf_ok (n := n) k hs
  obtain ⟨Sm4, h1, h2, h3⟩ := me (n := n) k hk hm
  exact Or.inr ⟨k, _, Sc4, Sm4, by rw [f1, bds, zc0], f2, f3, by rw [h1, bds, hg _ _ h3], h2, h3⟩
theorem out_3 (hs : RC E c a b L q R Sc) (hm : RM E c b L q R Sm) : OUT E c a b L q R Sc Sm (bd (f_X4_failHere E n Sc (c + 2) 3) fun v S => zc v S) (bd (f_X9_errs E n Sm (c + 129) 3) fun _ S => f_X9_readNext_J161 E n S (c + 129)) := out_f (n := n) 3 (by decide) hs hm (fun S p h => J161_bad h)
theorem out_1 (hs : RC E c a b L q R Sc) (hm : RM E c b L q R Sm) (hn : 1500 ≤ n) : OUT E c a b L q R Sc Sm (bd (f_X4_failHere E n Sc (c + 2) 1) fun v S => zc v S) (bd (f_X9_errs E n Sm (c + 129) 1) fun _ S => f_X9_readNext_J78 E n S (c + 129)) := out_f (n := n) 1 (by decide) hs hm (fun S p h => J78n_bad h (by omega))
theorem nx_78 (hm : RM E c b L q R Sm) (hn : 1500 ≤ n) (h : tkw b L q 3 ∨ tkw b L q 4 ∨ tkw b L q 6 ∨ tkw b L q 8 ∨ tkw b L q 12 ∨ tkw b L q 14 ∨ tkw b L q 17) : f_X9_readNext E n Sm (c + 129) = f_X9_readNext_J78 E n Sm (c + 129) := by
  have mi : ∀ w, w < 18 → f_X9_is E n Sm (c + 129) w = some (b2i (tkw b L q w), Sm) := fun w hw => e_X9_is hm hn (wrd_64 w hw)
  simp only [f_X9_readNext, mi 3 (by decide), mi 4 (by decide), mi 6 (by decide), mi 8 (by decide), mi 12 (by decide), mi 14 (by decide), mi 17 (by decide), bds]
  by_cases k3 : tkw b L q 3
  · rw [ifb1 k3]
  rw [ifb0 k3]
  by_cases k4 : tkw b L q 4
  · rw [ifb1 k4]
  rw [ifb0 k4]
  by_cases k6 : tkw b L q 6
  · rw [ifb1 k6]
  rw [ifb0 k6]
  by_cases k8 : tkw b L q 8
  · rw [ifb1 k8]
  rw [ifb0 k8]
  by_cases k12 : tkw b L q 12
  · rw [ifb1 k12]
  rw [ifb0 k12]
  by_cases k14 : tkw b L q 14
  · rw [ifb1 k14]
  rw [ifb0 k14]
  by_cases k17 : tkw b L q 17
  · rw [ifb1 k17]
  exact absurd h (fun z => by rcases z with z | z | z | z | z | z | z <;> contradiction)
theorem nx_4 (hm : RM E c b L q R Sm) (hn : 1500 ≤ n) (h : ¬ tkw b L q 4) : f_X9_readNext_J78 E n Sm (c + 129) = f_X9_readNext_J98 E n Sm (c + 129) := by
  simp only [f_X9_readNext_J78, e_X9_is hm hn (wrd_64 4 (by decide)), bds, ifb0 h]
theorem nx_6 (hm : RM E c b L q R Sm) (hn : 1500 ≤ n) (h : ¬ tkw b L q 6) : f_X9_readNext_J98 E n Sm (c + 129) = f_X9_readNext_J117 E n Sm (c + 129) := by
  simp only [f_X9_readNext_J98, e_X9_is hm hn (wrd_64 6 (by decide)), bds, ifb0 h]
theorem nx_8 (hm : RM E c b L q R Sm) (hn : 1500 ≤ n) (h : ¬ tkw b L q 8) : f_X9_readNext_J117 E n Sm (c + 129) = f_X9_readNext_J137 E n Sm (c + 129) := by
  simp only [f_X9_readNext_J117, e_X9_is hm hn (wrd_64 8 (by decide)), bds, ifb0 h]
theorem nx_14 (hm : RM E c b L q R Sm) (hn : 1500 ≤ n) (h : ¬ tkw b L q 14) : f_X9_readNext_J137 E n Sm (c + 129) = f_X9_readNext_J161 E n Sm (c + 129) := by
  simp only [f_X9_readNext_J137, e_X9_is hm hn (wrd_64 14 (by decide)), bds, ifb0 h]
theorem ln_w3 (hs : RC E c a b L q R Sc) (hm : RM E c b L q R Sm) (ha : a = c + 4 ∨ a = c + 17) (hn : 1500 ≤ n) (hw : WF R) (h0 : 0 < cP R) (h6 : R 6 ≠ 0)  (k3 : tkw b L q 3) : OUT E c a b L q R Sc Sm (f_X4_readLine E n Sc (c + 2) a) (f_X9_readNext E n Sm (c + 129)) := by
  have hA := hw.lA
  have hB := hw.lB
  have hS := hw.lS
  have hW := hw.lW
  have ci : ∀ w, w < 18 → f_X4_isWord E n Sc (c + 2) w = some (b2i (tkw b L q w), Sc) := fun w hw => e_X4_isWord hs.1 hs.2.2 hn (wrd_64 w hw)
  have mi : ∀ w, w < 18 → f_X9_is E n Sm (c + 129) w = some (b2i (tkw b L q w), Sm) := fun w hw => e_X9_is hm hn (wrd_64 w hw)
  have mt : ∀ w, w < 18 → ¬ tkw b L q w → f_X9_takes E n Sm (c + 129) w = some (0, Sm) := fun w hw h => mt0 hm hn (wrd_64 w hw) h
  have c0 : ∀ w, w < 18 → ¬ tkw b L q w → f_X4_isWord E n Sc (c + 2) w = some (0, Sc) := fun w hw h => by rw [ci w hw, b2i_f h]
  have c1 : ∀ w, w < 18 → tkw b L q w → f_X4_isWord E n Sc (c + 2) w = some (1, Sc) := fun w hw h => by rw [ci w hw, b2i_t h]
  have i0 : ∀ w, w < 18 → ¬ tkw b L q w → f_X9_is E n Sm (c + 129) w = some (0, Sm) := fun w hw h => by rw [mi w hw, b2i_f h]
  have i1 : ∀ w, w < 18 → tkw b L q w → f_X9_is E n Sm (c + 129) w = some (1, Sm) := fun w hw h => by rw [mi w hw, b2i_t h]
  have ne : ∀ w w', w < 18 → w' < 18 → w ≠ w' → tkw b L q w → ¬ tkw b L q w' := fun w w' h1 h2 h3 h => tkw_ne h1 h2 h3 h
  have e128 : ¬ gi Sc 128 a = 0 := by rw [hs.2.1.i128]; exact h6
  have m2 : ai Sm (c + 135) (Int32.toNatClampNeg 2) = nI (cA R) := (hm.2.2.2.2.1 2 (by decide)).trans hw.s2
  have m3 : ai Sm (c + 135) (Int32.toNatClampNeg 3) = nI (cB R) := (hm.2.2.2.2.1 3 (by decide)).trans hw.s3
  have m4 : ai Sm (c + 135) (Int32.toNatClampNeg 4) = nI (cS R) := (hm.2.2.2.2.1 4 (by decide)).trans hw.s4
  have m5 : ai Sm (c + 135) (Int32.toNatClampNeg 5) = nI (cW R) := (hm.2.2.2.2.1 5 (by decide)).trans hw.s5
  have e131 : gi Sc 131 a = nI (cA R) := hs.2.1.i131.trans hw.s2
  have e132 : gi Sc 132 a = nI (cB R) := hs.2.1.i132.trans hw.s3
  have e133 : gi Sc 133 a = nI (cS R) := hs.2.1.i133.trans hw.s4
  have e134 : gi Sc 134 a = nI (cW R) := hs.2.1.i134.trans hw.s5
  have gt := gd_t (E := E) (n := n) hm.2.1
  have nx := fun w (h1 : w < 18) (h2 : 3 ≠ w) => ne 3 w (by decide) h1 h2 k3
  obtain ⟨Sm1, t1, t2, t3⟩ := mt1 (n := n) hm hn (wrd_64 3 (by decide)) k3
  have cst : f_X4_readLine E n Sc (c + 2) a = bd (f_X4_readHeight E n Sc (c + 2) a) fun v S => zc v S := by
    simp only [f_X4_readLine, c0 0 (by decide) (nx 0 (by decide) (by decide)), bds, if_true, if_neg e128, c1 3 (by decide) k3, if_neg o10]
  have mst : f_X9_readNext E n Sm (c + 129) = mHgt E n Sm1 (c + 129) := by
    rw [nx_78 hm hn (Or.inl k3), nx_4 hm hn (nx 4 (by decide) (by decide)), nx_6 hm hn (nx 6 (by decide) (by decide)), nx_8 hm hn (nx 8 (by decide) (by decide)), nx_14 hm hn (nx 14 (by decide) (by decide))]
    unfold f_X9_readNext_J161
    rw [gt, bds, if_neg o10, t1, bds, if_neg o10]
    rfl
  rw [cst, mst]
  exact ((ln_hgt hs t3 ha hn hw h0).pre t2).zc
theorem ln_w4 (hs : RC E c a b L q R Sc) (hm : RM E c b L q R Sm) (ha : a = c + 4 ∨ a = c + 17) (hn : 1500 ≤ n) (hw : WF R) (h0 : 0 < cP R) (h6 : R 6 ≠ 0) (k3 : ¬ tkw b L q 3) (k4 : tkw b L q 4) : OUT E c a b L q R Sc Sm (f_X4_readLine E n Sc (c + 2) a) (f_X9_readNext E n Sm (c + 129)) := by
  have hA := hw.lA
  have hB := hw.lB
  have hS := hw.lS
  have hW := hw.lW
  have ci : ∀ w, w < 18 → f_X4_isWord E n Sc (c + 2) w = some (b2i (tkw b L q w), Sc) := fun w hw => e_X4_isWord hs.1 hs.2.2 hn (wrd_64 w hw)
  have mi : ∀ w, w < 18 → f_X9_is E n Sm (c + 129) w = some (b2i (tkw b L q w), Sm) := fun w hw => e_X9_is hm hn (wrd_64 w hw)
  have mt : ∀ w, w < 18 → ¬ tkw b L q w → f_X9_takes E n Sm (c + 129) w = some (0, Sm) := fun w hw h => mt0 hm hn (wrd_64 w hw) h
  have c0 : ∀ w, w < 18 → ¬ tkw b L q w → f_X4_isWord E n Sc (c + 2) w = some (0, Sc) := fun w hw h => by rw [ci w hw, b2i_f h]
  have c1 : ∀ w, w < 18 → tkw b L q w → f_X4_isWord E n Sc (c + 2) w = some (1, Sc) := fun w hw h => by rw [ci w hw, b2i_t h]
  have i0 : ∀ w, w < 18 → ¬ tkw b L q w → f_X9_is E n Sm (c + 129) w = some (0, Sm) := fun w hw h => by rw [mi w hw, b2i_f h]
  have i1 : ∀ w, w < 18 → tkw b L q w → f_X9_is E n Sm (c + 129) w = some (1, Sm) := fun w hw h => by rw [mi w hw, b2i_t h]
  have ne : ∀ w w', w < 18 → w' < 18 → w ≠ w' → tkw b L q w → ¬ tkw b L q w' := fun w w' h1 h2 h3 h => tkw_ne h1 h2 h3 h
  have e128 : ¬ gi Sc 128 a = 0 := by rw [hs.2.1.i128]; exact h6
  have m2 : ai Sm (c + 135) (Int32.toNatClampNeg 2) = nI (cA R) := (hm.2.2.2.2.1 2 (by decide)).trans hw.s2
  have m3 : ai Sm (c + 135) (Int32.toNatClampNeg 3) = nI (cB R) := (hm.2.2.2.2.1 3 (by decide)).trans hw.s3
  have m4 : ai Sm (c + 135) (Int32.toNatClampNeg 4) = nI (cS R) := (hm.2.2.2.2.1 4 (by decide)).trans hw.s4
  have m5 : ai Sm (c + 135) (Int32.toNatClampNeg 5) = nI (cW R) := (hm.2.2.2.2.1 5 (by decide)).trans hw.s5
  have e131 : gi Sc 131 a = nI (cA R) := hs.2.1.i131.trans hw.s2
  have e132 : gi Sc 132 a = nI (cB R) := hs.2.1.i132.trans hw.s3
  have e133 : gi Sc 133 a = nI (cS R) := hs.2.1.i133.trans hw.s4
  have e134 : gi Sc 134 a = nI (cW R) := hs.2.1.i134.trans hw.s5
  have gt := gd_t (E := E) (n := n) hm.2.1
  have nx := fun w (h1 : w < 18) (h2 : 4 ≠ w) => ne 4 w (by decide) h1 h2 k4
  have cst : f_X4_readLine E n Sc (c + 2) a = if (10 : Int32) ≤ nI (cA R) then bd (f_X4_failHere E n Sc (c + 2) 3) fun v S => zc v S else bd (f_X4_readPath E n Sc (c + 2) a) fun v S => zc v S := by
    simp only [f_X4_readLine, c0 0 (by decide) (nx 0 (by decide) (by decide)), bds, if_true, if_neg e128, c0 3 (by decide) k3, c1 4 (by decide) k4, if_neg o10, e131]
  have mst : f_X9_readNext E n Sm (c + 129) = if nI (cA R) = 10 then bd (f_X9_errs E n Sm (c + 129) 3) fun _ S => f_X9_readNext_J161 E n S (c + 129) else f_X9_readNext_J161 E n Sm (c + 129) := by
    rw [nx_78 hm hn (Or.inr (Or.inl k4))]
    simp only [f_X9_readNext_J78, i1 4 (by decide) k4, bds, if_neg o10, hm.2.2.1, obs, hm.2.2.2.1, mg2, m2]
    rw [nx_6 hm hn (nx 6 (by decide) (by decide)), nx_8 hm hn (nx 8 (by decide) (by decide)), nx_14 hm hn (nx 14 (by decide) (by decide))]
  rw [cst, mst]
  by_cases lim : cA R = 10
  · rw [lim, if_pos eql10.1, if_pos eql10.2]
    exact out_3 hs hm
  · rw [if_neg (lim10 (cA R) (by omega)).1, if_neg (lim10 (cA R) (by omega)).2]
    obtain ⟨Sm1, t1, t2, t3⟩ := mt1 (n := n) hm hn (wrd_64 4 (by decide)) k4
    have jst : f_X9_readNext_J161 E n Sm (c + 129) = bd (f_X9_readPath E n Sm1 (c + 129)) fun _ S => some ((), S) := by
      unfold f_X9_readNext_J161
      rw [gt, bds, if_neg o10, mt 3 (by decide) k3, bds, if_pos (rfl : (0 : Int32) = 0), t1, bds, if_neg o10]
    rw [jst]
    exact ((ln_pth hs t3 ha hn hw h0 (by omega)).pre t2).zc.un
theorem ln_w6 (hs : RC E c a b L q R Sc) (hm : RM E c b L q R Sm) (ha : a = c + 4 ∨ a = c + 17) (hn : 1500 ≤ n) (hw : WF R) (h0 : 0 < cP R) (h6 : R 6 ≠ 0) (k3 : ¬ tkw b L q 3) (k4 : ¬ tkw b L q 4) (k6 : tkw b L q 6) : OUT E c a b L q R Sc Sm (f_X4_readLine E n Sc (c + 2) a) (f_X9_readNext E n Sm (c + 129)) := by
  have hA := hw.lA
  have hB := hw.lB
  have hS := hw.lS
  have hW := hw.lW
  have ci : ∀ w, w < 18 → f_X4_isWord E n Sc (c + 2) w = some (b2i (tkw b L q w), Sc) := fun w hw => e_X4_isWord hs.1 hs.2.2 hn (wrd_64 w hw)
  have mi : ∀ w, w < 18 → f_X9_is E n Sm (c + 129) w = some (b2i (tkw b L q w), Sm) := fun w hw => e_X9_is hm hn (wrd_64 w hw)
  have mt : ∀ w, w < 18 → ¬ tkw b L q w → f_X9_takes E n Sm (c + 129) w = some (0, Sm) := fun w hw h => mt0 hm hn (wrd_64 w hw) h
  have c0 : ∀ w, w < 18 → ¬ tkw b L q w → f_X4_isWord E n Sc (c + 2) w = some (0, Sc) := fun w hw h => by rw [ci w hw, b2i_f h]
  have c1 : ∀ w, w < 18 → tkw b L q w → f_X4_isWord E n Sc (c + 2) w = some (1, Sc) := fun w hw h => by rw [ci w hw, b2i_t h]
  have i0 : ∀ w, w < 18 → ¬ tkw b L q w → f_X9_is E n Sm (c + 129) w = some (0, Sm) := fun w hw h => by rw [mi w hw, b2i_f h]
  have i1 : ∀ w, w < 18 → tkw b L q w → f_X9_is E n Sm (c + 129) w = some (1, Sm) := fun w hw h => by rw [mi w hw, b2i_t h]
  have ne : ∀ w w', w < 18 → w' < 18 → w ≠ w' → tkw b L q w → ¬ tkw b L q w' := fun w w' h1 h2 h3 h => tkw_ne h1 h2 h3 h
  have e128 : ¬ gi Sc 128 a = 0 := by rw [hs.2.1.i128]; exact h6
  have m2 : ai Sm (c + 135) (Int32.toNatClampNeg 2) = nI (cA R) := (hm.2.2.2.2.1 2 (by decide)).trans hw.s2
  have m3 : ai Sm (c + 135) (Int32.toNatClampNeg 3) = nI (cB R) := (hm.2.2.2.2.1 3 (by decide)).trans hw.s3
  have m4 : ai Sm (c + 135) (Int32.toNatClampNeg 4) = nI (cS R) := (hm.2.2.2.2.1 4 (by decide)).trans hw.s4
  have m5 : ai Sm (c + 135) (Int32.toNatClampNeg 5) = nI (cW R) := (hm.2.2.2.2.1 5 (by decide)).trans hw.s5
  have e131 : gi Sc 131 a = nI (cA R) := hs.2.1.i131.trans hw.s2
  have e132 : gi Sc 132 a = nI (cB R) := hs.2.1.i132.trans hw.s3
  have e133 : gi Sc 133 a = nI (cS R) := hs.2.1.i133.trans hw.s4
  have e134 : gi Sc 134 a = nI (cW R) := hs.2.1.i134.trans hw.s5
  have gt := gd_t (E := E) (n := n) hm.2.1
  have nx := fun w (h1 : w < 18) (h2 : 6 ≠ w) => ne 6 w (by decide) h1 h2 k6
  have cst : f_X4_readLine E n Sc (c + 2) a = if (4 : Int32) ≤ nI (cB R) then bd (f_X4_failHere E n Sc (c + 2) 3) fun v S => zc v S else bd (f_X4_readBride E n Sc (c + 2) a) fun v S => zc v S := by
    unfold f_X4_readLine
    rw [c0 0 (by decide) (nx 0 (by decide) (by decide)), bds, if_pos (rfl : (0 : Int32) = 0), if_neg e128, c0 3 (by decide) k3, bds, if_pos (rfl : (0 : Int32) = 0), c0 4 (by decide) k4, bds, if_pos (rfl : (0 : Int32) = 0), c1 6 (by decide) k6, bds, if_neg o10, e132]
  have mst : f_X9_readNext E n Sm (c + 129) = if nI (cB R) = 4 then bd (f_X9_errs E n Sm (c + 129) 3) fun _ S => f_X9_readNext_J161 E n S (c + 129) else f_X9_readNext_J161 E n Sm (c + 129) := by
    rw [nx_78 hm hn (Or.inr (Or.inr (Or.inl k6))), nx_4 hm hn k4]
    simp only [f_X9_readNext_J98, i1 6 (by decide) k6, bds, if_neg o10, hm.2.2.1, obs, hm.2.2.2.1, mg3, m3]
    rw [nx_8 hm hn (nx 8 (by decide) (by decide)), nx_14 hm hn (nx 14 (by decide) (by decide))]
  rw [cst, mst]
  by_cases lim : cB R = 4
  · rw [lim, if_pos eql4.1, if_pos eql4.2]
    exact out_3 hs hm
  · rw [if_neg (lim4 (cB R) (by omega)).1, if_neg (lim4 (cB R) (by omega)).2]
    obtain ⟨Sm1, t1, t2, t3⟩ := mt1 (n := n) hm hn (wrd_64 6 (by decide)) k6
    have jst : f_X9_readNext_J161 E n Sm (c + 129) = bd (f_X9_readBride E n Sm1 (c + 129)) fun _ S => some ((), S) := by
      unfold f_X9_readNext_J161
      rw [gt, bds, if_neg o10, mt 3 (by decide) k3, bds, if_pos (rfl : (0 : Int32) = 0), mt 4 (by decide) k4, bds, if_pos (rfl : (0 : Int32) = 0), t1, bds, if_neg o10]
    rw [jst]
    exact ((ln_brd hs t3 ha hn hw h0 (by omega)).pre t2).zc.un
theorem ln_w8 (hs : RC E c a b L q R Sc) (hm : RM E c b L q R Sm) (ha : a = c + 4 ∨ a = c + 17) (hn : 1500 ≤ n) (hw : WF R) (h0 : 0 < cP R) (h6 : R 6 ≠ 0) (k3 : ¬ tkw b L q 3) (k4 : ¬ tkw b L q 4) (k6 : ¬ tkw b L q 6) (k8 : tkw b L q 8) : OUT E c a b L q R Sc Sm (f_X4_readLine E n Sc (c + 2) a) (f_X9_readNext E n Sm (c + 129)) := by
  have hA := hw.lA
  have hB := hw.lB
  have hS := hw.lS
  have hW := hw.lW
  have ci : ∀ w, w < 18 → f_X4_isWord E n Sc (c + 2) w = some (b2i (tkw b L q w), Sc) := fun w hw => e_X4_isWord hs.1 hs.2.2 hn (wrd_64 w hw)
  have mi : ∀ w, w < 18 → f_X9_is E n Sm (c + 129) w = some (b2i (tkw b L q w), Sm) := fun w hw => e_X9_is hm hn (wrd_64 w hw)
  have mt : ∀ w, w < 18 → ¬ tkw b L q w → f_X9_takes E n Sm (c + 129) w = some (0, Sm) := fun w hw h => mt0 hm hn (wrd_64 w hw) h
  have c0 : ∀ w, w < 18 → ¬ tkw b L q w → f_X4_isWord E n Sc (c + 2) w = some (0, Sc) := fun w hw h => by rw [ci w hw, b2i_f h]
  have c1 : ∀ w, w < 18 → tkw b L q w → f_X4_isWord E n Sc (c + 2) w = some (1, Sc) := fun w hw h => by rw [ci w hw, b2i_t h]
  have i0 : ∀ w, w < 18 → ¬ tkw b L q w → f_X9_is E n Sm (c + 129) w = some (0, Sm) := fun w hw h => by rw [mi w hw, b2i_f h]
  have i1 : ∀ w, w < 18 → tkw b L q w → f_X9_is E n Sm (c + 129) w = some (1, Sm) := fun w hw h => by rw [mi w hw, b2i_t h]
  have ne : ∀ w w', w < 18 → w' < 18 → w ≠ w' → tkw b L q w → ¬ tkw b L q w' := fun w w' h1 h2 h3 h => tkw_ne h1 h2 h3 h
  have e128 : ¬ gi Sc 128 a = 0 := by rw [hs.2.1.i128]; exact h6
  have m2 : ai Sm (c + 135) (Int32.toNatClampNeg 2) = nI (cA R) := (hm.2.2.2.2.1 2 (by decide)).trans hw.s2
  have m3 : ai Sm (c + 135) (Int32.toNatClampNeg 3) = nI (cB R) := (hm.2.2.2.2.1 3 (by decide)).trans hw.s3
  have m4 : ai Sm (c + 135) (Int32.toNatClampNeg 4) = nI (cS R) := (hm.2.2.2.2.1 4 (by decide)).trans hw.s4
  have m5 : ai Sm (c + 135) (Int32.toNatClampNeg 5) = nI (cW R) := (hm.2.2.2.2.1 5 (by decide)).trans hw.s5
  have e131 : gi Sc 131 a = nI (cA R) := hs.2.1.i131.trans hw.s2
  have e132 : gi Sc 132 a = nI (cB R) := hs.2.1.i132.trans hw.s3
  have e133 : gi Sc 133 a = nI (cS R) := hs.2.1.i133.trans hw.s4
  have e134 : gi Sc 134 a = nI (cW R) := hs.2.1.i134.trans hw.s5
  have gt := gd_t (E := E) (n := n) hm.2.1
  have nx := fun w (h1 : w < 18) (h2 : 8 ≠ w) => ne 8 w (by decide) h1 h2 k8
  have cst : f_X4_readLine E n Sc (c + 2) a = if (7 : Int32) ≤ nI (cS R) then bd (f_X4_failHere E n Sc (c + 2) 3) fun v S => zc v S else bd (f_X4_readSuitor E n Sc (c + 2) a) fun v S => zc v S := by
    unfold f_X4_readLine
    rw [c0 0 (by decide) (nx 0 (by decide) (by decide)), bds, if_pos (rfl : (0 : Int32) = 0), if_neg e128, c0 3 (by decide) k3, bds, if_pos (rfl : (0 : Int32) = 0), c0 4 (by decide) k4, bds, if_pos (rfl : (0 : Int32) = 0), c0 6 (by decide) k6, bds, if_pos (rfl : (0 : Int32) = 0), c1 8 (by decide) k8, bds, if_neg o10, e133]
  have mst : f_X9_readNext E n Sm (c + 129) = if nI (cS R) = 7 then bd (f_X9_errs E n Sm (c + 129) 3) fun _ S => f_X9_readNext_J161 E n S (c + 129) else f_X9_readNext_J161 E n Sm (c + 129) := by
    rw [nx_78 hm hn (Or.inr (Or.inr (Or.inr (Or.inl k8)))), nx_4 hm hn k4, nx_6 hm hn k6]
    simp only [f_X9_readNext_J117, i1 8 (by decide) k8, bds, if_neg o10, hm.2.2.1, obs, hm.2.2.2.1, mg4, m4]
    rw [nx_14 hm hn (nx 14 (by decide) (by decide))]
  rw [cst, mst]
  by_cases lim : cS R = 7
  · rw [lim, if_pos eql7.1, if_pos eql7.2]
    exact out_3 hs hm
  · rw [if_neg (lim7 (cS R) (by omega)).1, if_neg (lim7 (cS R) (by omega)).2]
    obtain ⟨Sm1, t1, t2, t3⟩ := mt1 (n := n) hm hn (wrd_64 8 (by decide)) k8
    have jst : f_X9_readNext_J161 E n Sm (c + 129) = bd (f_X9_readSuitor E n Sm1 (c + 129)) fun _ S => some ((), S) := by
      unfold f_X9_readNext_J161
      rw [gt, bds, if_neg o10, mt 3 (by decide) k3, bds, if_pos (rfl : (0 : Int32) = 0), mt 4 (by decide) k4, bds, if_pos (rfl : (0 : Int32) = 0), mt 6 (by decide) k6, bds, if_pos (rfl : (0 : Int32) = 0), t1, bds, if_neg o10]
    rw [jst]
    exact ((ln_sui hs t3 ha hn hw h0 (by omega)).pre t2).zc.un
theorem ln_w12 (hs : RC E c a b L q R Sc) (hm : RM E c b L q R Sm) (ha : a = c + 4 ∨ a = c + 17) (hn : 1500 ≤ n) (hw : WF R) (h0 : 0 < cP R) (h6 : R 6 ≠ 0) (k3 : ¬ tkw b L q 3) (k4 : ¬ tkw b L q 4) (k6 : ¬ tkw b L q 6) (k8 : ¬ tkw b L q 8) (k12 : tkw b L q 12) : OUT E c a b L q R Sc Sm (f_X4_readLine E n Sc (c + 2) a) (f_X9_readNext E n Sm (c + 129)) := by
  have hA := hw.lA
  have hB := hw.lB
  have hS := hw.lS
  have hW := hw.lW
  have ci : ∀ w, w < 18 → f_X4_isWord E n Sc (c + 2) w = some (b2i (tkw b L q w), Sc) := fun w hw => e_X4_isWord hs.1 hs.2.2 hn (wrd_64 w hw)
  have mi : ∀ w, w < 18 → f_X9_is E n Sm (c + 129) w = some (b2i (tkw b L q w), Sm) := fun w hw => e_X9_is hm hn (wrd_64 w hw)
  have mt : ∀ w, w < 18 → ¬ tkw b L q w → f_X9_takes E n Sm (c + 129) w = some (0, Sm) := fun w hw h => mt0 hm hn (wrd_64 w hw) h
  have c0 : ∀ w, w < 18 → ¬ tkw b L q w → f_X4_isWord E n Sc (c + 2) w = some (0, Sc) := fun w hw h => by rw [ci w hw, b2i_f h]
  have c1 : ∀ w, w < 18 → tkw b L q w → f_X4_isWord E n Sc (c + 2) w = some (1, Sc) := fun w hw h => by rw [ci w hw, b2i_t h]
  have i0 : ∀ w, w < 18 → ¬ tkw b L q w → f_X9_is E n Sm (c + 129) w = some (0, Sm) := fun w hw h => by rw [mi w hw, b2i_f h]
  have i1 : ∀ w, w < 18 → tkw b L q w → f_X9_is E n Sm (c + 129) w = some (1, Sm) := fun w hw h => by rw [mi w hw, b2i_t h]
  have ne : ∀ w w', w < 18 → w' < 18 → w ≠ w' → tkw b L q w → ¬ tkw b L q w' := fun w w' h1 h2 h3 h => tkw_ne h1 h2 h3 h
  have e128 : ¬ gi Sc 128 a = 0 := by rw [hs.2.1.i128]; exact h6
  have m2 : ai Sm (c + 135) (Int32.toNatClampNeg 2) = nI (cA R) := (hm.2.2.2.2.1 2 (by decide)).trans hw.s2
  have m3 : ai Sm (c + 135) (Int32.toNatClampNeg 3) = nI (cB R) := (hm.2.2.2.2.1 3 (by decide)).trans hw.s3
  have m4 : ai Sm (c + 135) (Int32.toNatClampNeg 4) = nI (cS R) := (hm.2.2.2.2.1 4 (by decide)).trans hw.s4
  have m5 : ai Sm (c + 135) (Int32.toNatClampNeg 5) = nI (cW R) := (hm.2.2.2.2.1 5 (by decide)).trans hw.s5
  have e131 : gi Sc 131 a = nI (cA R) := hs.2.1.i131.trans hw.s2
  have e132 : gi Sc 132 a = nI (cB R) := hs.2.1.i132.trans hw.s3
  have e133 : gi Sc 133 a = nI (cS R) := hs.2.1.i133.trans hw.s4
  have e134 : gi Sc 134 a = nI (cW R) := hs.2.1.i134.trans hw.s5
  have gt := gd_t (E := E) (n := n) hm.2.1
  have nx := fun w (h1 : w < 18) (h2 : 12 ≠ w) => ne 12 w (by decide) h1 h2 k12
  obtain ⟨Sm1, t1, t2, t3⟩ := mt1 (n := n) hm hn (wrd_64 12 (by decide)) k12
  have cst : f_X4_readLine E n Sc (c + 2) a = bd (f_X4_readRain E n Sc (c + 2) a) fun v S => zc v S := by
    unfold f_X4_readLine
    rw [c0 0 (by decide) (nx 0 (by decide) (by decide)), bds, if_pos (rfl : (0 : Int32) = 0), if_neg e128, c0 3 (by decide) k3, bds, if_pos (rfl : (0 : Int32) = 0), c0 4 (by decide) k4, bds, if_pos (rfl : (0 : Int32) = 0), c0 6 (by decide) k6, bds, if_pos (rfl : (0 : Int32) = 0), c0 8 (by decide) k8, bds, if_pos (rfl : (0 : Int32) = 0), c1 12 (by decide) k12, bds, if_neg o10]
  have mst : f_X9_readNext E n Sm (c + 129) = mRain E n Sm1 (c + 129) := by
    rw [nx_78 hm hn (Or.inr (Or.inr (Or.inr (Or.inr (Or.inl k12))))), nx_4 hm hn k4, nx_6 hm hn k6, nx_8 hm hn k8, nx_14 hm hn (nx 14 (by decide) (by decide))]
    unfold f_X9_readNext_J161
    rw [gt, bds, if_neg o10, mt 3 (by decide) k3, bds, if_pos (rfl : (0 : Int32) = 0), mt 4 (by decide) k4, bds, if_pos (rfl : (0 : Int32) = 0), mt 6 (by decide) k6, bds, if_pos (rfl : (0 : Int32) = 0), mt 8 (by decide) k8, bds, if_pos (rfl : (0 : Int32) = 0), t1, bds, if_neg o10]
    rfl
  rw [cst, mst]
  exact ((ln_rain hs t3 ha hn hw h0).pre t2).zc
theorem ln_w14 (hs : RC E c a b L q R Sc) (hm : RM E c b L q R Sm) (ha : a = c + 4 ∨ a = c + 17) (hn : 1500 ≤ n) (hw : WF R) (h0 : 0 < cP R) (h6 : R 6 ≠ 0) (k3 : ¬ tkw b L q 3) (k4 : ¬ tkw b L q 4) (k6 : ¬ tkw b L q 6) (k8 : ¬ tkw b L q 8) (k12 : ¬ tkw b L q 12) (k14 : tkw b L q 14) : OUT E c a b L q R Sc Sm (f_X4_readLine E n Sc (c + 2) a) (f_X9_readNext E n Sm (c + 129)) := by
  have hA := hw.lA
  have hB := hw.lB
  have hS := hw.lS
  have hW := hw.lW
  have ci : ∀ w, w < 18 → f_X4_isWord E n Sc (c + 2) w = some (b2i (tkw b L q w), Sc) := fun w hw => e_X4_isWord hs.1 hs.2.2 hn (wrd_64 w hw)
  have mi : ∀ w, w < 18 → f_X9_is E n Sm (c + 129) w = some (b2i (tkw b L q w), Sm) := fun w hw => e_X9_is hm hn (wrd_64 w hw)
  have mt : ∀ w, w < 18 → ¬ tkw b L q w → f_X9_takes E n Sm (c + 129) w = some (0, Sm) := fun w hw h => mt0 hm hn (wrd_64 w hw) h
  have c0 : ∀ w, w < 18 → ¬ tkw b L q w → f_X4_isWord E n Sc (c + 2) w = some (0, Sc) := fun w hw h => by rw [ci w hw, b2i_f h]
  have c1 : ∀ w, w < 18 → tkw b L q w → f_X4_isWord E n Sc (c + 2) w = some (1, Sc) := fun w hw h => by rw [ci w hw, b2i_t h]
  have i0 : ∀ w, w < 18 → ¬ tkw b L q w → f_X9_is E n Sm (c + 129) w = some (0, Sm) := fun w hw h => by rw [mi w hw, b2i_f h]
  have i1 : ∀ w, w < 18 → tkw b L q w → f_X9_is E n Sm (c + 129) w = some (1, Sm) := fun w hw h => by rw [mi w hw, b2i_t h]
  have ne : ∀ w w', w < 18 → w' < 18 → w ≠ w' → tkw b L q w → ¬ tkw b L q w' := fun w w' h1 h2 h3 h => tkw_ne h1 h2 h3 h
  have e128 : ¬ gi Sc 128 a = 0 := by rw [hs.2.1.i128]; exact h6
  have m2 : ai Sm (c + 135) (Int32.toNatClampNeg 2) = nI (cA R) := (hm.2.2.2.2.1 2 (by decide)).trans hw.s2
  have m3 : ai Sm (c + 135) (Int32.toNatClampNeg 3) = nI (cB R) := (hm.2.2.2.2.1 3 (by decide)).trans hw.s3
  have m4 : ai Sm (c + 135) (Int32.toNatClampNeg 4) = nI (cS R) := (hm.2.2.2.2.1 4 (by decide)).trans hw.s4
  have m5 : ai Sm (c + 135) (Int32.toNatClampNeg 5) = nI (cW R) := (hm.2.2.2.2.1 5 (by decide)).trans hw.s5
  have e131 : gi Sc 131 a = nI (cA R) := hs.2.1.i131.trans hw.s2
  have e132 : gi Sc 132 a = nI (cB R) := hs.2.1.i132.trans hw.s3
  have e133 : gi Sc 133 a = nI (cS R) := hs.2.1.i133.trans hw.s4
  have e134 : gi Sc 134 a = nI (cW R) := hs.2.1.i134.trans hw.s5
  have gt := gd_t (E := E) (n := n) hm.2.1
  have nx := fun w (h1 : w < 18) (h2 : 14 ≠ w) => ne 14 w (by decide) h1 h2 k14
  have cst : f_X4_readLine E n Sc (c + 2) a = if (4 : Int32) ≤ nI (cW R) then bd (f_X4_failHere E n Sc (c + 2) 3) fun v S => zc v S else bd (f_X4_readWalker E n Sc (c + 2) a) fun v S => zc v S := by
    unfold f_X4_readLine
    rw [c0 0 (by decide) (nx 0 (by decide) (by decide)), bds, if_pos (rfl : (0 : Int32) = 0), if_neg e128, c0 3 (by decide) k3, bds, if_pos (rfl : (0 : Int32) = 0), c0 4 (by decide) k4, bds, if_pos (rfl : (0 : Int32) = 0), c0 6 (by decide) k6, bds, if_pos (rfl : (0 : Int32) = 0), c0 8 (by decide) k8, bds, if_pos (rfl : (0 : Int32) = 0), c0 12 (by decide) k12, bds, if_pos (rfl : (0 : Int32) = 0), c1 14 (by decide) k14, bds, if_neg o10, e134]
  have mst : f_X9_readNext E n Sm (c + 129) = if nI (cW R) = 4 then bd (f_X9_errs E n Sm (c + 129) 3) fun _ S => f_X9_readNext_J161 E n S (c + 129) else f_X9_readNext_J161 E n Sm (c + 129) := by
    rw [nx_78 hm hn (Or.inr (Or.inr (Or.inr (Or.inr (Or.inr (Or.inl k14)))))), nx_4 hm hn k4, nx_6 hm hn k6, nx_8 hm hn k8]
    simp only [f_X9_readNext_J137, i1 14 (by decide) k14, bds, if_neg o10, hm.2.2.1, obs, hm.2.2.2.1, mg5, m5]
  rw [cst, mst]
  by_cases lim : cW R = 4
  · rw [lim, if_pos eql4.1, if_pos eql4.2]
    exact out_3 hs hm
  · rw [if_neg (lim4 (cW R) (by omega)).1, if_neg (lim4 (cW R) (by omega)).2]
    obtain ⟨Sm1, t1, t2, t3⟩ := mt1 (n := n) hm hn (wrd_64 14 (by decide)) k14
    have jst : f_X9_readNext_J161 E n Sm (c + 129) = mWlk E n Sm1 (c + 129) := by
      unfold f_X9_readNext_J161
      rw [gt, bds, if_neg o10, mt 3 (by decide) k3, bds, if_pos (rfl : (0 : Int32) = 0), mt 4 (by decide) k4, bds, if_pos (rfl : (0 : Int32) = 0), mt 6 (by decide) k6, bds, if_pos (rfl : (0 : Int32) = 0), mt 8 (by decide) k8, bds, if_pos (rfl : (0 : Int32) = 0), mt 12 (by decide) k12, bds, if_pos (rfl : (0 : Int32) = 0), t1, bds, if_neg o10]
      rfl
    rw [jst]
    exact ((ln_wlk hs t3 ha hn hw h0 (by omega)).pre t2).zc
theorem ln_w17 (hs : RC E c a b L q R Sc) (hm : RM E c b L q R Sm) (ha : a = c + 4 ∨ a = c + 17) (hn : 1500 ≤ n) (hw : WF R) (h0 : 0 < cP R) (h6 : R 6 ≠ 0) (k3 : ¬ tkw b L q 3) (k4 : ¬ tkw b L q 4) (k6 : ¬ tkw b L q 6) (k8 : ¬ tkw b L q 8) (k12 : ¬ tkw b L q 12) (k14 : ¬ tkw b L q 14) (k17 : tkw b L q 17) : OUT E c a b L q R Sc Sm (f_X4_readLine E n Sc (c + 2) a) (f_X9_readNext E n Sm (c + 129)) := by
  have hA := hw.lA
  have hB := hw.lB
  have hS := hw.lS
  have hW := hw.lW
  have ci : ∀ w, w < 18 → f_X4_isWord E n Sc (c + 2) w = some (b2i (tkw b L q w), Sc) := fun w hw => e_X4_isWord hs.1 hs.2.2 hn (wrd_64 w hw)
  have mi : ∀ w, w < 18 → f_X9_is E n Sm (c + 129) w = some (b2i (tkw b L q w), Sm) := fun w hw => e_X9_is hm hn (wrd_64 w hw)
  have mt : ∀ w, w < 18 → ¬ tkw b L q w → f_X9_takes E n Sm (c + 129) w = some (0, Sm) := fun w hw h => mt0 hm hn (wrd_64 w hw) h
  have c0 : ∀ w, w < 18 → ¬ tkw b L q w → f_X4_isWord E n Sc (c + 2) w = some (0, Sc) := fun w hw h => by rw [ci w hw, b2i_f h]
  have c1 : ∀ w, w < 18 → tkw b L q w → f_X4_isWord E n Sc (c + 2) w = some (1, Sc) := fun w hw h => by rw [ci w hw, b2i_t h]
  have i0 : ∀ w, w < 18 → ¬ tkw b L q w → f_X9_is E n Sm (c + 129) w = some (0, Sm) := fun w hw h => by rw [mi w hw, b2i_f h]
  have i1 : ∀ w, w < 18 → tkw b L q w → f_X9_is E n Sm (c + 129) w = some (1, Sm) := fun w hw h => by rw [mi w hw, b2i_t h]
  have ne : ∀ w w', w < 18 → w' < 18 → w ≠ w' → tkw b L q w → ¬ tkw b L q w' := fun w w' h1 h2 h3 h => tkw_ne h1 h2 h3 h
  have e128 : ¬ gi Sc 128 a = 0 := by rw [hs.2.1.i128]; exact h6
  have m2 : ai Sm (c + 135) (Int32.toNatClampNeg 2) = nI (cA R) := (hm.2.2.2.2.1 2 (by decide)).trans hw.s2
  have m3 : ai Sm (c + 135) (Int32.toNatClampNeg 3) = nI (cB R) := (hm.2.2.2.2.1 3 (by decide)).trans hw.s3
  have m4 : ai Sm (c + 135) (Int32.toNatClampNeg 4) = nI (cS R) := (hm.2.2.2.2.1 4 (by decide)).trans hw.s4
  have m5 : ai Sm (c + 135) (Int32.toNatClampNeg 5) = nI (cW R) := (hm.2.2.2.2.1 5 (by decide)).trans hw.s5
  have e131 : gi Sc 131 a = nI (cA R) := hs.2.1.i131.trans hw.s2
  have e132 : gi Sc 132 a = nI (cB R) := hs.2.1.i132.trans hw.s3
  have e133 : gi Sc 133 a = nI (cS R) := hs.2.1.i133.trans hw.s4
  have e134 : gi Sc 134 a = nI (cW R) := hs.2.1.i134.trans hw.s5
  have gt := gd_t (E := E) (n := n) hm.2.1
  have nx := fun w (h1 : w < 18) (h2 : 17 ≠ w) => ne 17 w (by decide) h1 h2 k17
  obtain ⟨Sm1, t1, t2, t3⟩ := e_X9_go (n := n) hm hn
  have cst : f_X4_readLine E n Sc (c + 2) a = bd (f_X4_readCourt E n Sc (c + 2) a) fun v S => zc v S := by
    unfold f_X4_readLine
    rw [c0 0 (by decide) (nx 0 (by decide) (by decide)), bds, if_pos (rfl : (0 : Int32) = 0), if_neg e128, c0 3 (by decide) k3, bds, if_pos (rfl : (0 : Int32) = 0), c0 4 (by decide) k4, bds, if_pos (rfl : (0 : Int32) = 0), c0 6 (by decide) k6, bds, if_pos (rfl : (0 : Int32) = 0), c0 8 (by decide) k8, bds, if_pos (rfl : (0 : Int32) = 0), c0 12 (by decide) k12, bds, if_pos (rfl : (0 : Int32) = 0), c0 14 (by decide) k14, bds, if_pos (rfl : (0 : Int32) = 0), c1 17 (by decide) k17, bds, if_neg o10]
  have mst : f_X9_readNext E n Sm (c + 129) = bd (f_X9_readCourt E n Sm1 (c + 129)) fun _ S => some ((), S) := by
    rw [nx_78 hm hn (Or.inr (Or.inr (Or.inr (Or.inr (Or.inr (Or.inr k17)))))), nx_4 hm hn k4, nx_6 hm hn k6, nx_8 hm hn k8, nx_14 hm hn k14]
    unfold f_X9_readNext_J161
    rw [gt, bds, if_neg o10, mt 3 (by decide) k3, bds, if_pos (rfl : (0 : Int32) = 0), mt 4 (by decide) k4, bds, if_pos (rfl : (0 : Int32) = 0), mt 6 (by decide) k6, bds, if_pos (rfl : (0 : Int32) = 0), mt 8 (by decide) k8, bds, if_pos (rfl : (0 : Int32) = 0), mt 12 (by decide) k12, bds, if_pos (rfl : (0 : Int32) = 0), mt 14 (by decide) k14, bds, if_pos (rfl : (0 : Int32) = 0), t1, bds]
  rw [cst, mst]
  exact ((ln_crt hs t3 ha hn hw h0).pre t2).zc.un
theorem nx_no (hm : RM E c b L q R Sm) (hn : 1500 ≤ n) (k3 : ¬ tkw b L q 3) (k4 : ¬ tkw b L q 4) (k6 : ¬ tkw b L q 6) (k8 : ¬ tkw b L q 8) (k12 : ¬ tkw b L q 12) (k14 : ¬ tkw b L q 14) (k17 : ¬ tkw b L q 17) : f_X9_readNext E n Sm (c + 129) = bd (f_X9_errs E n Sm (c + 129) 1) fun _ S => f_X9_readNext_J78 E n S (c + 129) := by
  have mi : ∀ w, w < 18 → f_X9_is E n Sm (c + 129) w = some (b2i (tkw b L q w), Sm) := fun w hw => e_X9_is hm hn (wrd_64 w hw)
  simp only [f_X9_readNext, mi 3 (by decide), mi 4 (by decide), mi 6 (by decide), mi 8 (by decide), mi 12 (by decide), mi 14 (by decide), mi 17 (by decide), bds]
  rw [ifb0 k3, ifb0 k4, ifb0 k6, ifb0 k8, ifb0 k12, ifb0 k14, ifb0 k17]
theorem cx_no (hs : RC E c a b L q R Sc) (hn : 1500 ≤ n) (h6 : R 6 ≠ 0) (k0 : ¬ tkw b L q 0) (k3 : ¬ tkw b L q 3) (k4 : ¬ tkw b L q 4) (k6 : ¬ tkw b L q 6) (k8 : ¬ tkw b L q 8) (k12 : ¬ tkw b L q 12) (k14 : ¬ tkw b L q 14) (k17 : ¬ tkw b L q 17) : f_X4_readLine E n Sc (c + 2) a = bd (f_X4_failHere E n Sc (c + 2) 1) fun v S => zc v S := by
  have c0 : ∀ w, w < 18 → ¬ tkw b L q w → f_X4_isWord E n Sc (c + 2) w = some (0, Sc) := fun w hw h => by rw [e_X4_isWord hs.1 hs.2.2 hn (wrd_64 w hw), b2i_f h]
  have e128 : ¬ gi Sc 128 a = 0 := by rw [hs.2.1.i128]; exact h6
  unfold f_X4_readLine
  rw [c0 0 (by decide) k0, bds, if_pos (rfl : (0 : Int32) = 0), if_neg e128, c0 3 (by decide) k3, bds, if_pos (rfl : (0 : Int32) = 0), c0 4 (by decide) k4, bds, if_pos (rfl : (0 : Int32) = 0), c0 6 (by decide) k6, bds, if_pos (rfl : (0 : Int32) = 0), c0 8 (by decide) k8, bds, if_pos (rfl : (0 : Int32) = 0), c0 12 (by decide) k12, bds, if_pos (rfl : (0 : Int32) = 0), c0 14 (by decide) k14, bds, if_pos (rfl : (0 : Int32) = 0), c0 17 (by decide) k17, bds, if_pos (rfl : (0 : Int32) = 0)]
theorem cx_0 (hs : RC E c a b L q R Sc) (hn : 1500 ≤ n) (h6 : R 6 ≠ 0) (k0 : tkw b L q 0) : f_X4_readLine E n Sc (c + 2) a = bd (f_X4_failHere E n Sc (c + 2) 1) fun v S => zc v S := by
  have c1 : f_X4_isWord E n Sc (c + 2) 0 = some (1, Sc) := by rw [e_X4_isWord hs.1 hs.2.2 hn (wrd_64 0 (by decide)), b2i_t k0]
  have e128 : ¬ gi Sc 128 a = 0 := by rw [hs.2.1.i128]; exact h6
  unfold f_X4_readLine
  rw [c1, bds, if_neg o10, if_neg e128]
theorem ln_wx (hs : RC E c a b L q R Sc) (hm : RM E c b L q R Sm) (ha : a = c + 4 ∨ a = c + 17) (hn : 1500 ≤ n) (hw : WF R) (h0 : 0 < cP R) (h6 : R 6 ≠ 0) (k3 : ¬ tkw b L q 3) (k4 : ¬ tkw b L q 4) (k6 : ¬ tkw b L q 6) (k8 : ¬ tkw b L q 8) (k12 : ¬ tkw b L q 12) (k14 : ¬ tkw b L q 14) (k17 : ¬ tkw b L q 17) : OUT E c a b L q R Sc Sm (f_X4_readLine E n Sc (c + 2) a) (f_X9_readNext E n Sm (c + 129)) := by
  rw [nx_no hm hn k3 k4 k6 k8 k12 k14 k17]
  by_cases k0 : tkw b L q 0
  · rw [cx_0 hs hn h6 k0]; exact out_1 hs hm hn
  · rw [cx_no hs hn h6 k0 k3 k4 k6 k8 k12 k14 k17]; exact out_1 hs hm hn
theorem ln_all (hs : RC E c a b L q R Sc) (hm : RM E c b L q R Sm) (ha : a = c + 4 ∨ a = c + 17) (hn : 1500 ≤ n) (hw : WF R) (h0 : 0 < cP R) (h6 : R 6 ≠ 0) : OUT E c a b L q R Sc Sm (f_X4_readLine E n Sc (c + 2) a) (f_X9_readNext E n Sm (c + 129)) := by
  by_cases k3 : tkw b L q 3
  · exact ln_w3 hs hm ha hn hw h0 h6 k3
  by_cases k4 : tkw b L q 4
  · exact ln_w4 hs hm ha hn hw h0 h6 k3 k4
  by_cases k6 : tkw b L q 6
  · exact ln_w6 hs hm ha hn hw h0 h6 k3 k4 k6
  by_cases k8 : tkw b L q 8
  · exact ln_w8 hs hm ha hn hw h0 h6 k3 k4 k6 k8
  by_cases k12 : tkw b L q 12
  · exact ln_w12 hs hm ha hn hw h0 h6 k3 k4 k6 k8 k12
  by_cases k14 : tkw b L q 14
  · exact ln_w14 hs hm ha hn hw h0 h6 k3 k4 k6 k8 k12 k14
  by_cases k17 : tkw b L q 17
  · exact ln_w17 hs hm ha hn hw h0 h6 k3 k4 k6 k8 k12 k14 k17
  exact ln_wx hs hm ha hn hw h0 h6 k3 k4 k6 k8 k12 k14 k17
end LNX
