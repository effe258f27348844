/-! What a slot's row tells of measured leaps -/
def msr (M : Nat → Int32) (l : Nat) (N : Nat → Int64) : Prop := l % 3 = 0 ∧ ∀ i, i < l / 3 → (∃ j, j < cA M ∧ N (i * 3) = lN j) ∧ ∃ j, j < cY M ∧ N (i * 3 + 1) = lN j
noncomputable def msv (M : Nat → Int32) (l : Nat) (N : Nat → Int64) : Int32 := @ite _ (msr M l N) (Classical.propDecidable _) 0 (-2)
theorem msv_t {M : Nat → Int32} {l : Nat} {N : Nat → Int64} (h : msr M l N) : msv M l N = 0 := if_pos h
theorem msv_f {M : Nat → Int32} {l : Nat} {N : Nat → Int64} (h : ¬ msr M l N) : msv M l N = -2 := if_neg h
theorem inL {N : Nat} (hN : N < 2 ^ 31) {v : Int64} : (¬ v < 0 ∧ v < lN N) ↔ ∃ j, j < N ∧ v = lN j := by
  have z : (0 : Int64).toInt = 0 := by decide
  constructor
  · rintro ⟨h1, h2⟩
    rw [Int64.lt_iff_toInt_lt] at h1 h2
    rw [pf_lI (by omega)] at h2
    refine ⟨v.toInt.toNat, by omega, Int64.toInt_inj.mp ?_⟩
    rw [pf_lI (by omega)]; omega
  · rintro ⟨j, hj, rfl⟩
    rw [Int64.lt_iff_toInt_lt, Int64.lt_iff_toInt_lt, pf_lI (by omega), pf_lI (by omega)]
    omega
theorem lN_32 {j : Nat} (h : j < 2 ^ 31) : (lN j).toInt32 = nI j := by rw [← nI_l h, Int32.toInt32_toInt64]
theorem m3 : ∀ l, l < 61 → (nI l - nI l / (3 : Int32) * (3 : Int32) = 0 ↔ l % 3 = 0) := by decide +kernel
theorem q3 : ∀ l, l < 61 → nI l / (3 : Int32) = nI (l / 3) := by decide +kernel
theorem d3 : ¬ ((3 : Int32) = 0) := by decide
theorem e_X9_inL {E : EN} {f : Nat} {S : WS} {N : Nat} (hN : N < 2 ^ 31) (v : Int64) : f_X9_in E f S v (0 : Int64) ((nI N - 1).toInt64) = some (b2i (∃ j, j < N ∧ v = lN j), S) := by
  have z : (0 : Int64).toInt = 0 := by decide
  have eX : ((nI N - 1).toInt64).toInt = (N : Int) - 1 := by
    cases N with
    | zero => decide
    | succ q => rw [nI_pred, nI_l (by omega), pf_lI (by omega)]; omega
  unfold f_X9_in
  by_cases c1 : v < 0
  · rw [if_pos (lcm_lt.mpr c1), b2i_f (fun q => ((inL hN).mpr q).1 c1)]
  · rw [if_neg (fun q => c1 (lcm_lt.mp q))]
    by_cases c2 : v < lN N
    · rw [if_neg, b2i_t ((inL hN).mp ⟨c1, c2⟩)]
      rw [lcm_gt, Int64.lt_iff_toInt_lt, eX]
      rw [Int64.lt_iff_toInt_lt, pf_lI (by omega)] at c2
      omega
    · rw [if_pos, b2i_f (fun q => c2 ((inL hN).mpr q).2)]
      rw [lcm_gt, Int64.lt_iff_toInt_lt, eX]
      rw [Int64.lt_iff_toInt_lt, pf_lI (by omega)] at c2
      omega
abbrev mP (N : Nat → Int64) (i : Nat) : Nat := (N (i * 3)).toInt32.toNatClampNeg
abbrev mY (N : Nat → Int64) (i : Nat) : Nat := (N (i * 3 + 1)).toInt32.toNatClampNeg
theorem msr.p {M : Nat → Int32} (hw : WF M) {l : Nat} {N : Nat → Int64} (h : msr M l N) {i : Nat} (hi : i < l / 3) : mP N i < cA M ∧ (N (i * 3)).toInt32 = nI (mP N i) ∧ mY N i < cY M ∧ (N (i * 3 + 1)).toInt32 = nI (mY N i) := by
  have hA := hw.lA
  have hY := hw.lY
  obtain ⟨⟨p, hp, ep⟩, ⟨y, hy, ey⟩⟩ := h.2 i hi
  have e1 : mP N i = p := by show (N (i * 3)).toInt32.toNatClampNeg = p; rw [ep, lN_32 (by omega), nI_clamp (by omega)]
  have e2 : mY N i = y := by show (N (i * 3 + 1)).toInt32.toNatClampNeg = y; rw [ey, lN_32 (by omega), nI_clamp (by omega)]
  rw [e1, e2, ep, ey, lN_32 (by omega), lN_32 (by omega)]
  exact ⟨hp, rfl, hy, rfl⟩
section MSD
variable {E : EN} {n c : Nat} {S : WS} {x : Nat} {M : Nat → Int32}
abbrev nmb (c : Nat) (S : WS) (k : Nat) : Nat → Int64 := fun i => aj S (c + 147) (60 * k + i)
theorem e_X9_isPathL {m : Nat} {lo : Int32} (o : RWl E S m M lo) (hw : WF M) (v : Int64) : f_X9_isPath E n S m v = some (b2i (∃ j, j < cA M ∧ v = lN j), S) := by
  have hA := hw.lA
  simp only [f_X9_isPath, o.1, obs, o.2.1, mg2, o.v2, hw.s2, e_X9_inL (show cA M < 2 ^ 31 by omega), bds, zc_b]
theorem e_X9_isYearL {m : Nat} {lo : Int32} (o : RWl E S m M lo) (hw : WF M) (v : Int64) : f_X9_isYear E n S m v = some (b2i (∃ j, j < cY M ∧ v = lN j), S) := by
  have hY := hw.lY
  simp only [f_X9_isYear, o.1, obs, o.2.1, mg1, o.v1, hw.s1, e_X9_inL (show cY M < 2 ^ 31 by omega), bds, zc_b]
theorem e_X6_num (h : Inv E c S x M) {k : Nat} (hk : k < 4) {i : Nat} (hi : i < 60) : f_X6_numberAt E n S (c + (121 + 2 * k)) (nI i) = some (nmb c S k i, S) := by
  simp only [f_X6_numberAt, if_neg (nI_pos (show i < 2 ^ 31 by omega)), gr322 h.s hk, obs, h.L.sl hk, if_neg (show ¬ Int32.ofNat 60 ≤ nI i from nI_ge hi (by decide)), nI_clamp (show i < 2 ^ 31 by omega), ifn (rinc hi (show 60 < 2 ^ 31 by omega)), (h.sl k hk).2.2.2.2 i hi]
theorem e_X9_num (g548 : gr S 548 (c + 129) = some (c + 147)) (l147 : eN E (c + 147) = 240) {k : Nat} (hk : k < 4) {i : Nat} (hi : i < 60) : f_X9_numberAt E n S (c + 129) (nI k) (nI i) = some (nmb c S k i, S) := by
  simp only [f_X9_numberAt, g548, obs, l147, ix60, nI_clamp (show 60 * k + i < 2 ^ 31 by omega), ifn (rinc (show 60 * k + i < 240 by omega) (show 240 < 2 ^ 31 by omega))]
theorem ix32 (i : Nat) : nI (i * 3) + (2 : Int32) = nI (i * 3 + 2) := nI_add (i * 3) 2
theorem ix33 (i : Nat) : nI (i * 3) + (3 : Int32) = nI ((i + 1) * 3) := by
  rw [show (i + 1) * 3 = i * 3 + 3 by omega]; exact nI_add (i * 3) 3
theorem e_X6_measures {a l : Nat} (hl : l ≤ 60) (e : gi S 321 a = nI l) : f_X6_measures E n S a = some (nI (l / 3), S) := by
  simp only [f_X6_measures, if_neg d3, e, q3 l (by omega)]
theorem e_X6_isMeasured (h : Inv E c S x M) (hn : 30 ≤ n) {k : Nat} (hk : k < 4) {l : Nat} (hl : l ≤ 60) (e : gi S 321 (c + (121 + 2 * k)) = nI l) : f_X6_isMeasured E n S (c + (121 + 2 * k)) (c + x) = some (b2i (msr M l (nmb c S k)), S) := by
  have hA := h.w.lA
  have hY := h.w.lY
  simp only [f_X6_isMeasured, if_neg d3, e]
  by_cases m0 : l % 3 = 0
  · rw [if_pos ((m3 l (by omega)).mpr m0)]
    refine lp (N := l / 3) (P := fun i m => (∀ t, t < i → (∃ j, j < cA M ∧ nmb c S k (t * 3) = lN j) ∧ ∃ j, j < cY M ∧ nmb c S k (t * 3 + 1) = lN j) → f_X6_isMeasured_L13 E n m S (c + (121 + 2 * k)) (c + x) (nI i) = some (b2i (msr M l (nmb c S k)), S)) ?_ ?_ (l / 3) 0 n (by omega) (by omega) (fun t ht => by omega)
    · intro m hq
      simp only [f_X6_isMeasured_L13, e_X6_measures hl e, bds, if_pos (nI_le (Nat.le_refl (l / 3)) (show l / 3 < 2 ^ 31 by omega))]
      rw [b2i_t (show msr M l (nmb c S k) from ⟨m0, hq⟩)]
    · intro i m hi ih hq
      simp only [f_X6_isMeasured_L13, e_X6_measures hl e, bds, if_neg (nI_ge hi (show l / 3 < 2 ^ 31 by omega)), ix3m, nI_1, e_X6_num h hk (show i * 3 < 60 by omega), e_X6_num h hk (show i * 3 + 1 < 60 by omega), h.m.i131, h.m.i130, h.w.s2, h.w.s1, nI_l (show cA M < 2 ^ 31 by omega), nI_l (show cY M < 2 ^ 31 by omega), lcm_lt, lcm_0le, lts]
      have p1 := inL (N := cA M) (by omega) (v := nmb c S k (i * 3))
      have p2 := inL (N := cY M) (by omega) (v := nmb c S k (i * 3 + 1))
      have no : (¬ ((∃ j, j < cA M ∧ nmb c S k (i * 3) = lN j) ∧ ∃ j, j < cY M ∧ nmb c S k (i * 3 + 1) = lN j)) → some ((0 : Int32), S) = some (b2i (msr M l (nmb c S k)), S) := fun q => by rw [b2i_f (fun z => q (z.2 i hi))]
      by_cases a1 : nmb c S k (i * 3) < 0
      · rw [if_pos a1]; exact no (fun q => (p1.mpr q.1).1 a1)
      · rw [if_neg a1]
        by_cases a2 : nmb c S k (i * 3) < lN (cA M)
        · rw [if_neg (fun q => q a2)]
          by_cases a3 : nmb c S k (i * 3 + 1) < 0
          · rw [if_pos a3]; exact no (fun q => (p2.mpr q.2).1 a3)
          · rw [if_neg a3]
            by_cases a4 : nmb c S k (i * 3 + 1) < lN (cY M)
            · rw [if_pos a4]
              exact ih (fun t ht => by
                by_cases et : t = i
                · subst et; exact ⟨p1.mp ⟨a1, a2⟩, p2.mp ⟨a3, a4⟩⟩
                · exact hq t (by omega))
            · rw [if_neg a4]; exact no (fun q => a4 (p2.mpr q.2).2)
        · rw [if_pos a2]; exact no (fun q => a2 (p1.mpr q.1).2)
  · rw [if_neg (fun q => m0 ((m3 l (by omega)).mp q)), b2i_f (fun q => m0 q.1)]
theorem e_X9_asks_L43 (h : Inv E c S x M) (hn : 30 ≤ n) {k : Nat} (hk : k < 4) {l : Nat} (hl : l ≤ 60) (e : ai S (c + 145) k = nI l) (m0 : l % 3 = 0) : f_X9_asksMeasured_L43 E n n S (c + 129) (nI k) 0 = some (msv M l (nmb c S k), S) := by
  have hA := h.w.lA
  have hY := h.w.lY
  refine lp (N := l / 3) (P := fun i m => (∀ t, t < i → (∃ j, j < cA M ∧ nmb c S k (t * 3) = lN j) ∧ ∃ j, j < cY M ∧ nmb c S k (t * 3 + 1) = lN j) → f_X9_asksMeasured_L43 E n m S (c + 129) (nI k) (nI (i * 3)) = some (msv M l (nmb c S k), S)) ?_ ?_ (l / 3) 0 n (by omega) (by omega) (fun t ht => by omega)
  · intro m hq
    simp only [f_X9_asksMeasured_L43, h.g546, obs, h.l145, nI_clamp (show k < 2 ^ 31 by omega), ifn (rinc hk (show 4 < 2 ^ 31 by omega)), e, if_pos (nI_le (show l ≤ l / 3 * 3 by omega) (show l / 3 * 3 < 2 ^ 31 by omega))]
    rw [msv_t ⟨m0, hq⟩]
  · intro i m hi ih hq
    have g2 := e_X9_num (n := n) h.g548 h.l147 hk (show i * 3 < 60 by omega)
    have g3 := e_X9_num (n := n) h.g548 h.l147 hk (show i * 3 + 1 < 60 by omega)
    simp only [f_X9_asksMeasured_L43, h.g546, obs, h.l145, nI_clamp (show k < 2 ^ 31 by omega), ifn (rinc hk (show 4 < 2 ^ 31 by omega)), e, if_neg (nI_ge (show i * 3 < l by omega) (show l < 2 ^ 31 by omega)), g2, bds, e_X9_isPathL h.o h.w, nI_1, g3, e_X9_isYearL h.o h.w, ix33, lts]
    by_cases p1 : ∃ j, j < cA M ∧ nmb c S k (i * 3) = lN j
    · rw [ifb1 p1]
      by_cases p2 : ∃ j, j < cY M ∧ nmb c S k (i * 3 + 1) = lN j
      · rw [ifb1 p2]
        exact ih (fun t ht => by
          by_cases et : t = i
          · subst et; exact ⟨p1, p2⟩
          · exact hq t (by omega))
      · rw [ifb0 p2, msv_f (fun z => p2 (z.2 i hi).2)]
    · rw [ifb0 p1, msv_f (fun z => p1 (z.2 i hi).1)]
/-- whether the slot k can be asked: 0, or the refusal -/
noncomputable def ask (M : Nat → Int32) (c : Nat) (S : WS) (k : Nat) : Int32 := if ai S (c + 145) k = -1 then -6 else msv M (ai S (c + 145) k).toNatClampNeg (nmb c S k)
theorem ask_3 (k : Nat) : ask M c S k = 0 ∨ ask M c S k = -2 ∨ ask M c S k = -6 := by
  unfold ask
  by_cases z : ai S (c + 145) k = -1
  · rw [if_pos z]; exact Or.inr (Or.inr rfl)
  · rw [if_neg z]
    by_cases q : msr M (ai S (c + 145) k).toNatClampNeg (nmb c S k)
    · rw [msv_t q]; exact Or.inl rfl
    · rw [msv_f q]; exact Or.inr (Or.inl rfl)
theorem ask_0 (h : Inv E c S x M) {k : Nat} (hk : k < 4) (h0 : ask M c S k = 0) : ∃ l, l ≤ 60 ∧ ai S (c + 145) k = nI l ∧ msr M l (nmb c S k) := by
  unfold ask at h0
  by_cases z : ai S (c + 145) k = -1
  · rw [if_pos z] at h0; exact absurd h0 (by decide)
  · rw [if_neg z] at h0
    rcases (h.sl k hk).2.2.2.1 with q | ⟨l, hl, el⟩
    · exact absurd q z
    · refine ⟨l, hl, el, ?_⟩
      rw [el, nI_clamp (by omega)] at h0
      apply Classical.byContradiction
      intro w
      rw [msv_f w] at h0
      exact absurd h0 (by decide)
theorem e_X8_refusal (h : Inv E c S x M) (hn : 30 ≤ n) {k : Nat} (hk : k < 4) : f_X8_refusalOf E n S c (c + (121 + 2 * k)) = some (if M 0 ≤ 0 then -2 else ask M c S k, S) := by
  simp only [f_X8_refusalOf, h.n0, obs, e_X3_isTold h.m, bds, (h.sl k hk).2.1]
  by_cases c1 : M 0 ≤ 0
  · rw [if_pos c1, ifb0 (fun q => q c1)]
  · rw [if_neg c1, ifb1 c1]
    unfold ask
    by_cases z : ai S (c + 145) k = -1
    · rw [if_pos z, if_pos z]
    · rw [if_neg z, if_neg z]
      rcases (h.sl k hk).2.2.2.1 with q | ⟨l, hl, el⟩
      · exact absurd q z
      · rw [e_X6_isMeasured h hn hk hl ((h.sl k hk).2.1.trans el), bds, el, nI_clamp (by omega)]
        by_cases q : msr M l (nmb c S k)
        · rw [ifb1 q, msv_t q]
        · rw [ifb0 q, msv_f q]
theorem e_X9_asks (h : Inv E c S x M) (hn : 30 ≤ n) {k : Nat} (hk : k < 4) (v : Int32) : f_X9_asksMeasured E n S (c + 129) (nI k) v = some (if v = 0 then -2 else ask M c S k, S) := by
  have c1 : inI (nI k) (nI 4) := ⟨nI_pos (by omega), nI_ge hk (by decide)⟩
  simp only [f_X9_asksMeasured, e_X9_isSlot, bds, ifb1 c1]
  by_cases z0 : v = 0
  · rw [if_pos z0, if_pos z0]
  · rw [if_neg z0, if_neg z0]
    simp only [h.g546, obs, h.l145, nI_clamp (show k < 2 ^ 31 by omega), ifn (rinc hk (show 4 < 2 ^ 31 by omega)), if_neg d3]
    unfold ask
    by_cases z : ai S (c + 145) k = -1
    · rw [if_pos z, if_pos z]
    · rw [if_neg z, if_neg z]
      rcases (h.sl k hk).2.2.2.1 with q | ⟨l, hl, el⟩
      · exact absurd q z
      · rw [el, nI_clamp (by omega)]
        by_cases m0 : l % 3 = 0
        · rw [if_pos ((m3 l (by omega)).mpr m0)]; exact e_X9_asks_L43 h hn hk hl el m0
        · rw [if_neg (fun q => m0 ((m3 l (by omega)).mp q)), msv_f (fun q => m0 q.1)]
theorem e_X9_asks0 {k v : Int32} (hk : ¬ inI k (nI 4)) : f_X9_asksMeasured E n S (c + 129) k v = some (-2, S) := by
  simp only [f_X9_asksMeasured, e_X9_isSlot, bds, ifb0 hk]
end MSD
