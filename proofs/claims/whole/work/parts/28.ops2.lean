/-! More calls that only read -/
section OP2
variable {E : EN} {n c : Nat} {S : WS} {x : Nat} {M : Nat → Int32}
theorem e_X8_knowsPath (h : Inv E c S x M) (p y : Int32) : f_X8_knowsPath E n S c p y = some (b2i (inI p (M 2) ∧ inI y (M 1)), S) := by
  simp only [f_X8_knowsPath, h.n0, obs, e_X3_hasPath h.m, e_X3_hasYear h.m, bds, b2i_eq0]
  by_cases c : inI p (M 2)
  · rw [if_neg (fun q => q c)]
    by_cases d : inI y (M 1)
    · rw [if_neg (fun q => q d), b2i_t ⟨c, d⟩]
    · rw [if_pos d, b2i_f (fun q => d q.2)]
  · rw [if_pos c, b2i_f (fun q => c q.1)]
theorem e_X8_knowsWay (h : Inv E c S x M) (w t y : Int32) : f_X8_knowsWay E n S c w t y = some (b2i (inI w (M 5) ∧ inI t (M 0) ∧ inI y (M 1)), S) := by
  simp only [f_X8_knowsWay, h.n0, obs, e_X3_hasWalker h.m, e_X3_hasPlace h.m, e_X3_hasYear h.m, bds, b2i_eq0]
  by_cases c : inI w (M 5)
  · rw [if_neg (fun q => q c)]
    by_cases d : inI t (M 0)
    · rw [if_neg (fun q => q d)]
      by_cases e : inI y (M 1)
      · rw [if_neg (fun q => q e), b2i_t ⟨c, d, e⟩]
      · rw [if_pos e, b2i_f (fun q => e q.2.2)]
    · rw [if_pos d, b2i_f (fun q => d q.2.1)]
  · rw [if_pos c, b2i_f (fun q => c q.1)]
theorem op_hearts (h : Inv E c S x M) (hn : 8 ≤ n) : OK E c (f_X8_hearts E n S c) (fun S1 => f_X9_hearts E n S1 (c + 129)) := by
  have hS := h.w.lS
  by_cases c1 : ¬ M 0 ≤ 0
  · refine OK.r h (v := nI (cn (rfs (oM M) (kM M) (cS M)) (cS M))) ?_ (by simp only [f_X9_hearts, e_X9_isMountain h.o, bds, ifb1 c1, e_X9_heartsNow h.o h.w hn])
    simp only [f_X8_hearts, h.n0, obs, e_X3_isTold h.m, bds, ifb1 c1]
    refine lp (N := cS M) (P := fun s k => f_X8_hearts_L17 E n k S c (nI (cn (rfs (oM M) (kM M) (cS M)) s)) (nI s) = some (nI (cn (rfs (oM M) (kM M) (cS M)) (cS M)), S)) ?_ ?_ (cS M) 0 n (by omega) (by omega)
    · intro k
      simp only [f_X8_hearts_L17, h.n0, obs, h.m.i133, h.w.t4, if_true]
    · intro s k hs ih
      simp only [f_X8_hearts_L17, h.n0, obs, h.m.i133, h.w.f4 hs, if_false, h.m.g143, e_X3_isRefusedC h.m h.w hn (show s < 7 by omega), bds, lts, nI_1, b2i_eq0]
      by_cases c : rfs (oM M) (kM M) (cS M) s
      · rw [cn, if_pos c] at ih
        rw [if_neg (fun q => q c)]; exact ih
      · rw [cn, if_neg c] at ih
        rw [if_pos c]; exact ih
  · exact OK.r h (v := -2) (by simp only [f_X8_hearts, h.n0, obs, e_X3_isTold h.m, bds, ifb0 c1]) (by simp only [f_X9_hearts, e_X9_isMountain h.o, bds, ifb0 c1])
theorem op_steps (h : Inv E c S x M) (hn : 8 ≤ n) (p y : Int32) : OK E c (f_X8_steps E n S c p y) (fun S1 => f_X9_steps E n S1 (c + 129) p y) := by
  by_cases c1 : inI p (M 2) ∧ inI y (M 1)
  · exact OK.r h (v := nI (stp M p y (-1) (cS M))) (by simp only [f_X8_steps, e_X8_knowsPath h, bds, ifb1 c1, h.n0, obs, e_X3_stepsOn h.m h.w hn]) (by simp only [f_X9_steps, e_X9_areSo h.o h.w, bds, ifb1 c1, e_X9_stepsOf h.o h.w hn])
  · exact OK.r h (v := -2) (by simp only [f_X8_steps, e_X8_knowsPath h, bds, ifb0 c1]) (by simp only [f_X9_steps, e_X9_areSo h.o h.w, bds, ifb0 c1])
def whf (M : Nat → Int32) (p y i : Int32) : Nat → Nat → Int32 → Int32
  | 0, _, _ => -1
  | k + 1, s, t => if hst M s p y then (if t = i then nI s else whf M p y i k (s + 1) (t + 1)) else whf M p y i k (s + 1) t
theorem op_whose (h : Inv E c S x M) (hn : 8 ≤ n) (p y i : Int32) : OK E c (f_X8_whose E n S c p y i) (fun S1 => f_X9_whose E n S1 (c + 129) p y i) := by
  have hS := h.w.lS
  by_cases c1 : inI p (M 2) ∧ inI y (M 1)
  · refine OK.r h (v := whf M p y i (cS M) 0 0) ?_ ?_
    · simp only [f_X8_whose, e_X8_knowsPath h, bds, ifb1 c1]
      refine lp (N := cS M) (P := fun s k => ∀ t, f_X8_whose_L18 E n k S c p y i t (nI s) = some (whf M p y i (cS M - s) s t, S)) ?_ ?_ (cS M) 0 n (by omega) (by omega) 0
      · intro k t
        simp only [f_X8_whose_L18, h.n0, obs, h.m.i133, h.w.t4, if_true, Nat.sub_self, whf]
      · intro s k hs ih t
        simp only [f_X8_whose_L18, h.n0, obs, h.m.i133, h.w.f4 hs, if_false, e_X3_hasStep h.m h.w hs, bds, lts, nI_1, b2i_eq0]
        rw [show cS M - s = (cS M - (s + 1)) + 1 by omega, whf]
        by_cases c : hst M s p y
        · rw [if_neg (fun q => q c), if_pos c]
          by_cases d : t = i
          · rw [if_pos d, if_pos d]
          · rw [if_neg d, if_neg d]; exact ih (t + 1)
        · rw [if_pos c, if_neg c]; exact ih t
    · simp only [f_X9_whose, e_X9_areSo h.o h.w, bds, ifb1 c1]
      refine lp (N := cS M) (P := fun s k => ∀ t, f_X9_whose_L18 E n k S (c + 129) p y i t (nI s) = some (whf M p y i (cS M - s) s t, S)) ?_ ?_ (cS M) 0 n (by omega) (by omega) 0
      · intro k t
        simp only [f_X9_whose_L18, h.o.1, obs, h.o.2.1, mg4, h.o.v4, h.w.t4, if_true, Nat.sub_self, whf]
      · intro s k hs ih t
        simp only [f_X9_whose_L18, h.o.1, obs, h.o.2.1, mg4, h.o.v4, h.w.f4 hs, if_false, e_X9_hasStep h.o h.w hs, bds, lts, nI_1, b2i_eq0]
        rw [show cS M - s = (cS M - (s + 1)) + 1 by omega, whf]
        by_cases c : hst M s p y
        · rw [if_neg (fun q => q ⟨nIm1 (by omega), c⟩), if_pos c]
          by_cases d : t = i
          · rw [if_pos d, if_pos d]
          · rw [if_neg d, if_neg d]; exact ih (t + 1)
        · rw [if_pos (fun q => c q.2), if_neg c]; exact ih t
  · exact OK.r h (v := -2) (by simp only [f_X8_whose, e_X8_knowsPath h, bds, ifb0 c1]) (by simp only [f_X9_whose, e_X9_areSo h.o h.w, bds, ifb0 c1])
theorem op_leap (h : Inv E c S x M) (hn : 8 ≤ n) (p y : Int32) : OK E c (f_X8_leap E n S c p y) (fun S1 => f_X9_leap E n S1 (c + 129) p y) := by
  have hA := h.w.lA
  by_cases c1 : inI p (M 2) ∧ inI y (M 1)
  · obtain ⟨j, hj, rfl⟩ := inI_j h.w.s2 (by omega) c1.1
    exact OK.r h (v := lpv M j y (-1)) (by simp only [f_X8_leap, e_X8_knowsPath h, bds, ifb1 c1, h.n0, obs, e_X3_leapOf h.m h.w hn hj]) (by simp only [f_X9_leap, e_X9_areSo h.o h.w, bds, ifb1 c1, e_X9_leapNow h.o h.w hn hj])
  · exact OK.r h (v := -2) (by simp only [f_X8_leap, e_X8_knowsPath h, bds, ifb0 c1]) (by simp only [f_X9_leap, e_X9_areSo h.o h.w, bds, ifb0 c1])
/-- the last year of the first so many with a step -/
def lst (M : Nat → Int32) (p : Int32) : Nat → Int32
  | 0 => -1
  | y + 1 => if stp M p (nI y) (-1) (cS M) = 0 then lst M p y else nI y
theorem lst_is (M : Nat → Int32) (p : Int32) : ∀ k, lst M p k = -1 ∨ ∃ j, j < k ∧ lst M p k = nI j := by
  intro k
  induction k with
  | zero => exact Or.inl rfl
  | succ k ih =>
    rw [lst]
    by_cases c : stp M p (nI k) (-1) (cS M) = 0
    · rw [if_pos c]
      rcases ih with q | ⟨j, hj, q⟩
      · exact Or.inl q
      · exact Or.inr ⟨j, by omega, q⟩
    · rw [if_neg c]; exact Or.inr ⟨k, by omega, rfl⟩
theorem nI_le0 {k : Nat} (hk : k < 2 ^ 31) : nI k ≤ 0 ↔ k = 0 := by
  rw [fa_le, nI_toInt hk, show (0 : Int32).toInt = 0 by decide]; omega
theorem op_rots (h : Inv E c S x M) (hn : 40 ≤ n) (p : Int32) : OK E c (f_X8_rots E n S c p) (fun S1 => f_X9_rots E n S1 (c + 129) p) := by
  have hY := h.w.lY
  have hS := h.w.lS
  by_cases c1 : inI p (M 2)
  · refine OK.r h (v := if lst M p (cY M) = -1 then -1 else if lst M p (cY M) = M 1 - 1 then -1 else lst M p (cY M) + 1) ?_ ?_
    · simp only [f_X8_rots, h.n0, obs, e_X3_hasPath h.m, bds, ifb1 c1, h.m.i130, lts]
      have key : ∀ k, k ≤ cY M → ∀ f, k < f → f_X8_rots_L24 E n f S c p (nI k - 1) = some (if lst M p k = -1 then -1 else if lst M p k = M 1 - 1 then -1 else lst M p k + 1, S) := by
        intro k
        induction k with
        | zero =>
          intro _ f hf
          obtain ⟨f, rfl⟩ : ∃ q, f = q + 1 := ⟨f - 1, by omega⟩
          simp only [f_X8_rots_L24, show (nI 0 - 1 : Int32) < 0 by decide, if_true, lst]
        | succ k ih =>
          intro hk f hf
          obtain ⟨f, rfl⟩ : ∃ q, f = q + 1 := ⟨f - 1, by omega⟩
          have h7 := stp_le M p (nI k) (-1) (cS M)
          simp only [f_X8_rots_L24, nI_pred, nI_pos (show k < 2 ^ 31 by omega), if_false, h.n0, obs, e_X3_stepsOn h.m h.w (show 8 ≤ n by omega), bds, lts, h.m.i130]
          have e := nI_le0 (show stp M p (nI k) (-1) (cS M) < 2 ^ 31 by omega)
          by_cases d : stp M p (nI k) (-1) (cS M) = 0
          · rw [if_pos (e.mpr d), lst, if_pos d]
            have := ih (by omega) f (by omega)
            rw [show nI k + (-1) = nI k - 1 by rw [Int32.sub_eq_add_neg]]
            exact this
          · rw [if_neg (fun q => d (e.mp q)), lst, if_neg d, if_neg (nIm1 (show k < 2 ^ 31 by omega))]
            by_cases d2 : nI k = M 1 - 1
            · rw [if_pos d2, if_pos d2]
            · rw [if_neg d2, if_neg d2]
      have := key (cY M) (Nat.le_refl _) n (by omega)
      rw [← h.w.s1] at this
      exact this
    · simp only [f_X9_rots, e_X9_isPath h.o h.w, bds, ifb1 c1]
      refine lp (N := cY M) (P := fun s k => f_X9_rots_L16 E n k S (c + 129) p (lst M p s) (nI s) = some (if lst M p (cY M) = -1 then -1 else if lst M p (cY M) = M 1 - 1 then -1 else lst M p (cY M) + 1, S)) ?_ ?_ (cY M) 0 n (by omega) (by omega)
      · intro k
        simp only [f_X9_rots_L16, h.o.1, obs, h.o.2.1, mg1, h.o.v1, h.w.t1, if_true]
        by_cases d : lst M p (cY M) = -1
        · rw [if_pos d, if_pos d]
        · rw [if_neg d, if_neg d]
          by_cases d2 : lst M p (cY M) = M 1 - 1
          · rw [if_pos d2, if_pos d2]
          · rw [if_neg d2, if_neg d2]
      · intro s k hs ih
        have h7 := stp_le M p (nI s) (-1) (cS M)
        have e := nI_le0 (show stp M p (nI s) (-1) (cS M) < 2 ^ 31 by omega)
        simp only [f_X9_rots_L16, h.o.1, obs, h.o.2.1, mg1, h.o.v1, h.w.f1 hs, if_false, e_X9_stepsOf h.o h.w (show 8 ≤ n by omega), bds, lts, nI_1]
        rw [lst] at ih
        by_cases d : stp M p (nI s) (-1) (cS M) = 0
        · rw [if_pos d] at ih
          rw [if_pos (e.mpr d)]; exact ih
        · rw [if_neg d] at ih
          rw [if_neg (fun q => d (e.mp q))]; exact ih
  · exact OK.r h (v := -2) (by simp only [f_X8_rots, h.n0, obs, e_X3_hasPath h.m, bds, ifb0 c1]) (by simp only [f_X9_rots, e_X9_isPath h.o h.w, bds, ifb0 c1])
theorem op_lacks (h : Inv E c S x M) (hn : 200 ≤ n) (p y z : Int32) : OK E c (f_X8_lacks E n S c p y z) (fun S1 => f_X9_lacks E n S1 (c + 129) p y z) := by
  have hA := h.w.lA
  by_cases c1 : inI p (M 2) ∧ inI y (M 1)
  · obtain ⟨j, hj, rfl⟩ := inI_j h.w.s2 (by omega) c1.1
    by_cases c2 : inI z (nI 100)
    · obtain ⟨q, hq, rfl⟩ := inI_j rfl (by decide) c2
      obtain ⟨d, hd, ed⟩ := drp_nat h.w hj
      refine OK.r h (v := lcI d (stp M (nI j) y (-1) (cS M)) q) (by simp only [f_X8_lacks, e_X8_knowsPath h, bds, ifb1 c1, h.n0, obs, if_neg c2.1, if_pos ((bnd (99 : Int32) 99 (by decide) rfl).mpr c2.2), e_X3_lackingOn h.m h.w (show 8 ≤ n by omega) hj hd ed (show q ≤ 99 by omega)]) ?_
      simp only [f_X9_lacks, e_X9_areSo h.o h.w, bds, ifb1 c1, inN 99 (nI 100) 99 (by decide) rfl rfl, ifb1 c2, e_X9_lacksOf h.o h.w hn hj hd ed (show q ≤ 99 by omega)]
      unfold lcF lcI
      cases e : lcn d (stp M (nI j) y (-1) (cS M)) q with
      | none => simp only [if_true]
      | some t =>
        have := lcn_le e hd
        simp only []
        rw [if_neg (fun q => by rw [show (1000000 : Int32) = nI 1000000 from rfl, nI_eq (by omega) (by decide)] at q; omega)]
    · refine OK.r h (v := -2) ?_ (by simp only [f_X9_lacks, e_X9_areSo h.o h.w, bds, ifb1 c1, inN 99 (nI 100) 99 (by decide) rfl rfl, ifb0 c2])
      simp only [f_X8_lacks, e_X8_knowsPath h, bds, ifb1 c1]
      by_cases c3 : z < 0
      · rw [if_pos c3]
      · rw [if_neg c3, if_neg (fun q => c2 ⟨c3, (bnd (99 : Int32) 99 (by decide) rfl).mp q⟩)]
  · exact OK.r h (v := -2) (by simp only [f_X8_lacks, e_X8_knowsPath h, bds, ifb0 c1]) (by simp only [f_X9_lacks, e_X9_areSo h.o h.w, bds, ifb0 c1])
theorem op_hopes0 (h : Inv E c S x M) (hn : 8 ≤ n) (s : Int32) : f_X8_hopes E n S c s = some (@ite _ (inI s (M 4)) (Classical.propDecidable _) (hop M (oM M) s.toNatClampNeg) (-2), S) := by
  have hS := h.w.lS
  by_cases c1 : inI s (M 4)
  · obtain ⟨j, hj, rfl⟩ := inI_j h.w.s4 (by omega) c1
    rw [if_pos c1, nI_clamp (show j < 2 ^ 31 by omega)]
    simp only [f_X8_hopes, h.n0, obs, e_X3_hasSuitor h.m, bds, ifb1 c1, h.m.g143, e_X3_hopeOf h.m h.w h.m.n9 hn hj]
    rw [hop_congr h.w (fun _ _ => rfl) (fun i hi => h.m.hc i hi) hj]
  · rw [if_neg c1]; simp only [f_X8_hopes, h.n0, obs, e_X3_hasSuitor h.m, bds, ifb0 c1]
theorem op_reach (h : Inv E c S x M) (hn : 11 ≤ n) (w y : Int32) : OK E c (f_X8_reach E n S c w y) (fun S1 => f_X9_reach E n S1 (c + 129) w y) := by
  have hW := h.w.lW
  by_cases c1 : inI w (M 5)
  · by_cases c2 : inI y (M 1)
    · obtain ⟨j, hj, rfl⟩ := inI_j h.w.s5 (by omega) c1
      refine OK.k (S2 := si S 528 (c + 129) (opn M (M (94 + 2 * j)) y (-1) (cA M))) h (v := rea M j y (-1)) (by simp only [f_X8_reach, h.n0, obs, e_X3_hasWalker h.m, e_X3_hasYear h.m, bds, ifb1 c1, ifb1 c2, e_X3_reachOf h.m h.w hn hj]) KP.rf ?_ k528
      simp only [f_X9_reach, e_X9_isWalker h.o h.w, e_X9_isYear h.o h.w, bds, ifb1 c1, ifb1 c2]
      have e := e_X9_reachOf h.o h.w hn hj y
      exact e
    · exact OK.r h (v := -2) (by simp only [f_X8_reach, h.n0, obs, e_X3_hasWalker h.m, e_X3_hasYear h.m, bds, ifb1 c1, ifb0 c2]) (by simp only [f_X9_reach, e_X9_isWalker h.o h.w, e_X9_isYear h.o h.w, bds, ifb1 c1, ifb0 c2])
  · exact OK.r h (v := -2) (by simp only [f_X8_reach, h.n0, obs, e_X3_hasWalker h.m, bds, ifb0 c1]) (by simp only [f_X9_reach, e_X9_isWalker h.o h.w, bds, ifb0 c1])
end OP2
