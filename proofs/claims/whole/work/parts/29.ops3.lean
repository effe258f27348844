/-! Chances, divisors; most, worst, dry, count -/
theorem forI_iff {M : Nat → Int32} (hw : WF M) {s b : Nat} (hs : s < cS M) (hb : b < cB M) : forI M (nI s) (nI b) ↔ (M (75 + 3 * s) >>> (nI b &&& 31)) &&& 1 = 1 := by
  have hS := hw.lS
  have hB := hw.lB
  unfold forI
  rw [nI_clamp (show s < 2 ^ 31 by omega)]
  constructor
  · intro q; exact q.2.2
  · intro q
    exact ⟨(show inI (nI s) (M 4) by rw [hw.s4]; exact inI_nI (by omega) hs), (show inI (nI b) (M 3) by rw [hw.s3]; exact inI_nI (by omega) hb), q⟩
theorem wst_iff {M : Nat → Int32} (hw : WF M) {s b : Nat} (hb : b < cB M) (p y : Int32) : wst M s (nI b) p y ↔ M (65 + 2 * b) = p ∧ ¬ y < M (66 + 2 * b) ∧ ¬ M (66 + 2 * b) + M (73 + 3 * s) < y := by
  have hB := hw.lB
  unfold wst
  rw [nI_clamp (show b < 2 ^ 31 by omega)]
  constructor
  · intro q; exact q.2
  · intro q; exact ⟨(show inI (nI b) (M 3) by rw [hw.s3]; exact inI_nI (by omega) hb), q⟩
theorem imin_nat {a b : Nat} (ha : a < 2 ^ 31) (hb : b < 2 ^ 31) : imin (nI a) (nI b) = nI (min a b) := by
  unfold imin
  by_cases c : b < a
  · rw [if_pos (nI_lt c ha), Nat.min_eq_right (by omega)]
  · rw [if_neg (nI_nlt (by omega) hb), Nat.min_eq_left (by omega)]
theorem fal_nat {M : Nat → Int32} (hw : WF M) {s y : Nat} (hs : s < cS M) (hy : y < 30) : ∃ v, v ≤ 100 ∧ fal M s y = nI v := by
  obtain ⟨r, hr, er⟩ := hw.2.2.2.2.2.1 y hy
  obtain ⟨k, q, f, -, hq, -, -, -, eq, -⟩ := hw.2.2.2.2.2.2.2.2.2.1 s hs
  unfold fal
  rw [er, eq]
  by_cases c : rfs (oM M) (kM M) (cS M) s
  · rw [if_pos c, nI_add, show (100 : Int32) = nI 100 from rfl, imin_nat (by decide) (by omega)]
    exact ⟨_, Nat.min_le_left _ _, rfl⟩
  · rw [if_neg c, show (0 : Int32) = nI 0 from rfl, nI_add, show (100 : Int32) = nI 100 from rfl, imin_nat (by decide) (by omega)]
    exact ⟨_, Nat.min_le_left _ _, rfl⟩
theorem saf_nat {M : Nat → Int32} (hw : WF M) (p : Int32) {y k0 : Nat} (hy : y < 30) (h0 : k0 ≤ 100000000000000) : ∀ s, s ≤ cS M → ∃ k, k ≤ k0 ∧ saf M p y (lN k0) s = lN k := by
  intro s
  induction s with
  | zero => intro _; exact ⟨k0, Nat.le_refl _, rfl⟩
  | succ s ih =>
    intro hs
    obtain ⟨k, hk, e⟩ := ih (by omega)
    rw [saf]
    by_cases c : hst M s p (nI y)
    · obtain ⟨v, hv, ev⟩ := fal_nat hw (show s < cS M by omega) hy
      rw [if_pos c, e, ev, show (100 : Int64) = lN 100 from rfl, pk_lDiv (by omega) (by decide) (by decide), show (100 : Int32) = nI 100 from rfl, pk_sub hv, nI_l (by omega), lN_mul]
      refine ⟨k / 100 * (100 - v), ?_, rfl⟩
      have h1 : k / 100 * (100 - v) ≤ k / 100 * 100 := Nat.mul_le_mul_left _ (by omega)
      have h2 : k / 100 * 100 ≤ k := Nat.div_mul_le_self k 100
      omega
    · rw [if_neg c]; exact ⟨k, hk, e⟩
theorem gcd_step (a b : Nat) : Nat.gcd a b = Nat.gcd b (a % b) := by
  rw [Nat.gcd_comm a b, Nat.gcd_rec b a, Nat.gcd_comm]
theorem mod_half {b r : Nat} (h0 : 0 < r) (h : r < b) : 2 * (b % r) < b := by
  have h1 := Nat.mod_lt b h0
  have h2 := Nat.div_add_mod b r
  have h3 : 1 ≤ b / r := (Nat.one_le_div_iff h0).mpr (by omega)
  have h4 : r * 1 ≤ r * (b / r) := Nat.mul_le_mul_left r h3
  omega
section OP3
variable {E : EN} {n c : Nat} {S : WS} {x : Nat} {M : Nat → Int32}
theorem c0n {b : Nat} (hb : b < 2 ^ 63) : lN b = 0 ↔ b = 0 := pk_lEQ (b := 0) hb (by decide)
theorem e_X8_common_L : ∀ k a b, a < 2 ^ 62 → b < 2 ^ k → k ≤ 60 → ∀ i, i + 2 * k + 1 ≤ 200 → ∀ m, 2 * k + 1 < m → f_X8_commonDivisor_L9 E n m S (lN a) (lN b) (nI i) = some (lN (Nat.gcd a b), S) := by
  intro k
  induction k with
  | zero =>
    intro a b ha hb hk i hi m hm
    obtain ⟨m, rfl⟩ : ∃ q, m = q + 1 := ⟨m - 1, by omega⟩
    have : b = 0 := by omega
    subst this
    simp only [f_X8_commonDivisor_L9]
    rw [if_neg (show ¬ (200 : Int32) ≤ nI i from nI_ge (b := 200) (by omega) (by decide)), if_pos (lcm_eq.mpr (show lN 0 = 0 from rfl)), Nat.gcd_zero_right]
  | succ k ih =>
    intro a b ha hb hk i hi m hm
    obtain ⟨m, rfl⟩ : ∃ q, m = q + 1 := ⟨m - 1, by omega⟩
    have h60 : 2 ^ (k + 1) ≤ 2 ^ 60 := Nat.pow_le_pow_right (by decide) hk
    have hb62 : b < 2 ^ 62 := by omega
    simp only [f_X8_commonDivisor_L9]
    rw [if_neg (show ¬ (200 : Int32) ≤ nI i from nI_ge (b := 200) (by omega) (by decide))]
    by_cases c0 : b = 0
    · subst c0; rw [if_pos (lcm_eq.mpr (show lN 0 = 0 from rfl)), Nat.gcd_zero_right]
    · have cb : ¬ lN b = 0 := fun q => c0 ((c0n (by omega)).mp q)
      rw [if_neg (fun q => cb (lcm_eq.mp q)), if_neg cb, lts, lts, nI_1, pk_lRem (by omega) (by omega) (by omega)]
      obtain ⟨m, rfl⟩ : ∃ q, m = q + 1 := ⟨m - 1, by omega⟩
      have hr := Nat.mod_lt a (show 0 < b by omega)
      simp only [f_X8_commonDivisor_L9]
      rw [if_neg (show ¬ (200 : Int32) ≤ nI (i + 1) from nI_ge (b := 200) (by omega) (by decide))]
      by_cases c1 : a % b = 0
      · rw [c1, if_pos (lcm_eq.mpr (show lN 0 = 0 from rfl)), gcd_step, c1, Nat.gcd_zero_right]
      · have cr : ¬ lN (a % b) = 0 := fun q => c1 ((c0n (by omega)).mp q)
        rw [if_neg (fun q => cr (lcm_eq.mp q)), if_neg cr, lts, lts, nI_1, pk_lRem (by omega) (by omega) (by omega)]
        have hh := mod_half (show 0 < a % b by omega) hr
        rw [ih (a % b) (b % (a % b)) (by omega) (by rw [Nat.pow_succ] at hb; omega) (by omega) (i + 1 + 1) (by omega) m (by omega), gcd_step a b, gcd_step b]
theorem e_X9_divisor_L : ∀ k a b, a < 2 ^ 62 → b < 2 ^ k → k ≤ 60 → ∀ m, 2 * k + 1 < m → f_X9_divisor_L6 E n m S (lN a) (lN b) = some (lN (Nat.gcd a b), S) := by
  intro k
  induction k with
  | zero =>
    intro a b ha hb hk m hm
    obtain ⟨m, rfl⟩ : ∃ q, m = q + 1 := ⟨m - 1, by omega⟩
    have : b = 0 := by omega
    subst this
    simp only [f_X9_divisor_L6]
    rw [if_pos (lcm_eq.mpr (show lN 0 = 0 from rfl)), Nat.gcd_zero_right]
  | succ k ih =>
    intro a b ha hb hk m hm
    obtain ⟨m, rfl⟩ : ∃ q, m = q + 1 := ⟨m - 1, by omega⟩
    have h60 : 2 ^ (k + 1) ≤ 2 ^ 60 := Nat.pow_le_pow_right (by decide) hk
    have hb62 : b < 2 ^ 62 := by omega
    simp only [f_X9_divisor_L6]
    by_cases c0 : b = 0
    · subst c0; rw [if_pos (lcm_eq.mpr (show lN 0 = 0 from rfl)), Nat.gcd_zero_right]
    · have cb : ¬ lN b = 0 := fun q => c0 ((c0n (by omega)).mp q)
      rw [if_neg (fun q => cb (lcm_eq.mp q)), if_neg cb, lts, pk_lRem (by omega) (by omega) (by omega)]
      obtain ⟨m, rfl⟩ : ∃ q, m = q + 1 := ⟨m - 1, by omega⟩
      have hr := Nat.mod_lt a (show 0 < b by omega)
      simp only [f_X9_divisor_L6]
      by_cases c1 : a % b = 0
      · rw [c1, if_pos (lcm_eq.mpr (show lN 0 = 0 from rfl)), gcd_step, c1, Nat.gcd_zero_right]
      · have cr : ¬ lN (a % b) = 0 := fun q => c1 ((c0n (by omega)).mp q)
        rw [if_neg (fun q => cr (lcm_eq.mp q)), if_neg cr, lts, pk_lRem (by omega) (by omega) (by omega)]
        have hh := mod_half (show 0 < a % b by omega) hr
        rw [ih (a % b) (b % (a % b)) (by omega) (by rw [Nat.pow_succ] at hb; omega) (by omega) m (by omega), gcd_step a b, gcd_step b]
/-- a chance's number above (0) or below, in lowest terms -/
def low (k : Nat) (w : Int32) : Int64 := if w = 0 then lN (k / Nat.gcd k 100000000000000) else lN (100000000000000 / Nat.gcd k 100000000000000)
theorem e_X8_lowestTerm {k : Nat} (hk : k ≤ 100000000000000) (hn : 200 ≤ n) (w : Int32) : f_X8_lowestTerm E n S (lN k) w = some (low k w, S) := by
  have g := e_X8_common_L (E := E) (n := n) (S := S) 47 100000000000000 k (by decide) (by omega) (by decide) 0 (by decide) n (by omega)
  have g0 : 0 < Nat.gcd 100000000000000 k := Nat.gcd_pos_of_pos_left _ (by decide)
  have g1 : Nat.gcd 100000000000000 k ≤ 100000000000000 := Nat.gcd_le_left _ (by decide)
  have gz : ¬ lN (Nat.gcd 100000000000000 k) = 0 := fun q => by have := (c0n (by omega)).mp q; omega
  have gp : ¬ lg_cmp (lN (Nat.gcd 100000000000000 k)) 0 ≤ 0 := fun q => lcm_le0.mp q (by rw [show (0 : Int64) = lN 0 from rfl, pk_lLT (by decide) (by omega)]; exact g0)
  unfold f_X8_lowestTerm low
  rw [show f_X8_commonDivisor E n S (100000000000000 : Int64) (lN k) = some (lN (Nat.gcd 100000000000000 k), S) from g, bds, if_neg gp, if_neg gz, if_neg gz, if_neg gp, show (100000000000000 : Int64) = lN 100000000000000 from rfl, pk_lDiv (by omega) g0 (by omega), pk_lDiv (by decide) g0 (by omega), Nat.gcd_comm k]
  by_cases cw : w = 0
  · rw [if_pos cw, if_pos cw]
  · rw [if_neg cw, if_neg cw]
theorem e_X9_part {k : Nat} (hk : k ≤ 100000000000000) (hn : 200 ≤ n) (w : Int32) : f_X9_part E n S (lN k) w = some (low k w, S) := by
  have g := e_X9_divisor_L (E := E) (n := n) (S := S) 47 k 100000000000000 (by omega) (by decide) (by decide) n (by omega)
  have g0 : 0 < Nat.gcd k 100000000000000 := Nat.gcd_pos_of_pos_right _ (by decide)
  have g1 : Nat.gcd k 100000000000000 ≤ 100000000000000 := Nat.gcd_le_right _ (by decide)
  have gz : ¬ lN (Nat.gcd k 100000000000000) = 0 := fun q => by have := (c0n (by omega)).mp q; omega
  unfold f_X9_part low
  rw [show f_X9_divisor E n S (lN k) (100000000000000 : Int64) = some (lN (Nat.gcd k 100000000000000), S) from g, bds, bds, if_neg gz, if_neg gz, show (100000000000000 : Int64) = lN 100000000000000 from rfl, pk_lDiv (by omega) g0 (by omega), pk_lDiv (by decide) g0 (by omega)]
  by_cases cw : w = 0
  · rw [if_pos cw, if_pos cw]
  · rw [if_neg cw, if_neg cw]
theorem op_safe (h : Inv E c S x M) (hn : 200 ≤ n) (p y z : Int32) : OK E c (f_X8_safe E n S c p y z) (fun S1 => f_X9_safe E n S1 (c + 129) p y z) := by
  have hY := h.w.lY
  by_cases c1 : inI p (M 2) ∧ inI y (M 1)
  · obtain ⟨j, hj, rfl⟩ := inI_j h.w.s1 (by omega) c1.2
    by_cases c2 : inI z (nI 2)
    · obtain ⟨k, hk, e⟩ := saf_nat h.w p (show j < 30 by omega) (Nat.le_refl 100000000000000) (cS M) (Nat.le_refl _)
      refine OK.r h (v := low k z) ?_ ?_
      · simp only [f_X8_safe, e_X8_knowsPath h, bds, ifb1 c1, if_neg c2.1, if_pos ((bnd (1 : Int32) 1 (by decide) rfl).mpr c2.2), h.n0, obs, e_X3_safeAlong h.m h.w (show 8 ≤ n by omega) p (show j < 30 by omega), show (100000000000000 : Int64) = lN 100000000000000 from rfl, e, e_X8_lowestTerm hk hn]
      · simp only [f_X9_safe, e_X9_areSo h.o h.w, bds, ifb1 c1, inN 1 (nI 2) 1 (by decide) rfl rfl, ifb1 c2, e_X9_safeBy h.o h.w (show 8 ≤ n by omega) p (show j < 30 by omega), show (100000000000000 : Int64) = lN 100000000000000 from rfl, e, e_X9_part hk hn]
    · refine OK.r h (v := -2) ?_ (by simp only [f_X9_safe, e_X9_areSo h.o h.w, bds, ifb1 c1, inN 1 (nI 2) 1 (by decide) rfl rfl, ifb0 c2])
      simp only [f_X8_safe, e_X8_knowsPath h, bds, ifb1 c1]
      by_cases c3 : z < 0
      · rw [if_pos c3]
      · rw [if_neg c3, if_neg (fun q => c2 ⟨c3, (bnd (1 : Int32) 1 (by decide) rfl).mp q⟩)]
  · exact OK.r h (v := -2) (by simp only [f_X8_safe, e_X8_knowsPath h, bds, ifb0 c1]) (by simp only [f_X9_safe, e_X9_areSo h.o h.w, bds, ifb0 c1])
/-- whether s could have a step, courting one of the first so many -/
def csp (M : Nat → Int32) (p y : Int32) (s b : Nat) : Prop := ∃ j, j < b ∧ forI M (nI s) (nI j) ∧ wst M s (nI j) p y
theorem csp_s {p y : Int32} {s b : Nat} : csp M p y s (b + 1) ↔ csp M p y s b ∨ (forI M (nI s) (nI b) ∧ wst M s (nI b) p y) := by
  constructor
  · rintro ⟨j, hj, q⟩
    by_cases e : j = b
    · subst e; exact Or.inr q
    · exact Or.inl ⟨j, by omega, q⟩
  · rintro (⟨j, hj, q⟩ | q)
    · exact ⟨j, by omega, q⟩
    · exact ⟨b, by omega, q⟩
theorem e_X8_couldStep (h : Inv E c S x M) (hn : 8 ≤ n) {s : Nat} (hs : s < cS M) (p y : Int32) : f_X8_couldStep E n S c (nI s) p y = some (b2i (csp M p y s (cB M)), S) := by
  have hB := h.w.lB
  refine lp (N := cB M) (P := fun b k => ¬ csp M p y s b → f_X8_couldStep_L3 E n k S c (nI s) p y (nI b) = some (b2i (csp M p y s (cB M)), S)) ?_ ?_ (cB M) 0 n (by omega) (by omega) (fun ⟨j, hj, _⟩ => by omega)
  · intro k q
    simp only [f_X8_couldStep_L3, h.n0, obs, h.m.i132, h.w.t3, if_true]
    rw [b2i_f q]
  · intro b k hb ih q
    simp only [f_X8_couldStep_L3, h.n0, obs, h.m.i132, h.w.f3 hb, if_false, e_X3_isFor h.m h.w, e_X3_wouldStep h.m h.w hs, bds, lts, nI_1, b2i_eq0]
    by_cases c1 : forI M (nI s) (nI b)
    · rw [if_neg (fun q => q c1)]
      by_cases c2 : wst M s (nI b) p y
      · rw [if_neg (fun q => q c2), b2i_t ⟨b, hb, c1, c2⟩]
      · rw [if_pos c2]
        exact ih (fun q2 => (csp_s.mp q2).elim q (fun q3 => c2 q3.2))
    · rw [if_pos c1]
      exact ih (fun q2 => (csp_s.mp q2).elim q (fun q3 => c1 q3.1))
theorem e_X9_most_L34 (h : Inv E c S x M) (hn : 8 ≤ n) (k17 : WS → Nat → Int32 → Int32 → Int32 → Int32 → Option (Int32 × WS)) {s : Nat} (hs : s < cS M) (p y v : Int32) : f_X9_most_L34 E n k17 n S (c + 129) p y v (nI s) 0 0 = k17 S (c + 129) p y (v + b2i (csp M p y s (cB M))) (nI (s + 1)) := by
  have hB := h.w.lB
  have hS := h.w.lS
  have key := lp (N := cB M) (P := fun b k => f_X9_most_L34 E n k17 k S (c + 129) p y v (nI s) (b2i (csp M p y s b)) (nI b) = k17 S (c + 129) p y (v + b2i (csp M p y s (cB M))) (nI (s + 1))) ?_ ?_ (cB M) 0 n (by omega) (by omega)
  · rw [b2i_f (show ¬ csp M p y s 0 from fun ⟨j, hj, _⟩ => by omega)] at key
    exact key
  · intro k
    simp only [f_X9_most_L34, h.o.1, obs, h.o.2.1, mg3, h.o.v3, h.w.t3, if_true, lts, nI_1, b2i_eq0]
    by_cases d : csp M p y s (cB M)
    · rw [ifb1 d, b2i_t d]
    · rw [ifb0 d, b2i_f d]
  · intro b k hb ih
    simp only [f_X9_most_L34, h.o.1, obs, h.o.2.1, mg3, h.o.v3, h.w.f3 hb, if_false, lts, nI_1, b2i_eq0, e_X9_isFor h.o (show s < 7 by omega), e_X9_pathOf h.o (show b < 4 by omega), e_X9_yearOf h.o (show b < 4 by omega), e_X9_skillOf h.o (show s < 7 by omega), e_in32, bds]
    rw [b2i_c (csp_s (M := M) (p := p) (y := y) (s := s) (b := b))] at ih
    by_cases d : csp M p y s b
    · rw [ifb1 d]
      rw [b2i_t (Or.inl d)] at ih; exact ih
    · rw [ifb0 d]
      by_cases c1 : (M (75 + 3 * s) >>> (nI b &&& 31)) &&& 1 = 1
      · rw [if_neg (fun q => q c1)]
        by_cases c2 : M (65 + 2 * b) = p
        · rw [if_pos c2]
          by_cases c3 : ¬ y < M (66 + 2 * b) ∧ ¬ M (66 + 2 * b) + M (73 + 3 * s) < y
          · rw [if_neg (fun q => q c3)]
            rw [b2i_t (Or.inr ⟨(forI_iff h.w hs hb).mpr c1, (wst_iff h.w hb p y).mpr ⟨c2, c3⟩⟩)] at ih; exact ih
          · rw [if_pos c3]
            rw [b2i_f (fun q => q.elim d (fun q => c3 ((wst_iff h.w hb p y).mp q.2).2))] at ih; exact ih
        · rw [if_neg c2]
          rw [b2i_f (fun q => q.elim d (fun q => c2 ((wst_iff h.w hb p y).mp q.2).1))] at ih; exact ih
      · rw [if_pos c1]
        rw [b2i_f (fun q => q.elim d (fun q => c1 ((forI_iff h.w hs hb).mp q.1)))] at ih; exact ih
theorem cn_s (P : Nat → Prop) (s : Nat) : nI (cn P (s + 1)) = nI (cn P s) + b2i (P s) := by
  by_cases q : P s
  · rw [cn, if_pos q, b2i_t q, nI_1]
  · rw [cn, if_neg q, b2i_f q, add0]
theorem op_most (h : Inv E c S x M) (hn : 8 ≤ n) (p y : Int32) : OK E c (f_X8_most E n S c p y) (fun S1 => f_X9_most E n S1 (c + 129) p y) := by
  have hS := h.w.lS
  by_cases c1 : inI p (M 2) ∧ inI y (M 1)
  · refine OK.r h (v := nI (cn (fun s => csp M p y s (cB M)) (cS M))) ?_ ?_
    · simp only [f_X8_most, e_X8_knowsPath h, bds, ifb1 c1]
      refine lp (N := cS M) (P := fun s k => f_X8_most_L17 E n k S c p y (nI (cn (fun s => csp M p y s (cB M)) s)) (nI s) = some (nI (cn (fun s => csp M p y s (cB M)) (cS M)), S)) ?_ ?_ (cS M) 0 n (by omega) (by omega)
      · intro k
        simp only [f_X8_most_L17, h.n0, obs, h.m.i133, h.w.t4, if_true]
      · intro s k hs ih
        simp only [f_X8_most_L17, h.n0, obs, h.m.i133, h.w.f4 hs, if_false, e_X8_couldStep h hn hs, bds, lts, nI_1, b2i_eq0]
        by_cases q : csp M p y s (cB M)
        · rw [cn, if_pos q] at ih
          rw [ifb1 q]; exact ih
        · rw [cn, if_neg q] at ih
          rw [ifb0 q]; exact ih
    · simp only [f_X9_most, e_X9_areSo h.o h.w, bds, ifb1 c1]
      refine lp (N := cS M) (P := fun s k => f_X9_most_L17 E n k S (c + 129) p y (nI (cn (fun s => csp M p y s (cB M)) s)) (nI s) = some (nI (cn (fun s => csp M p y s (cB M)) (cS M)), S)) ?_ ?_ (cS M) 0 n (by omega) (by omega)
      · intro k
        simp only [f_X9_most_L17, h.o.1, obs, h.o.2.1, mg4, h.o.v4, h.w.t4, if_true]
      · intro s k hs ih
        simp only [f_X9_most_L17, h.o.1, obs, h.o.2.1, mg4, h.o.v4, h.w.f4 hs, if_false, e_X9_most_L34 h hn _ hs]
        rw [cn_s] at ih; exact ih
  · exact OK.r h (v := -2) (by simp only [f_X8_most, e_X8_knowsPath h, bds, ifb0 c1]) (by simp only [f_X9_most, e_X9_areSo h.o h.w, bds, ifb0 c1])
/-- the suitor of the worst step, of the first so many -/
def wor (M : Nat → Int32) (p : Int32) (y : Nat) : Nat → Int32
  | 0 => -1
  | s + 1 => if hst M s p (nI y) then (if wor M p y s = -1 then nI s else if fal M s y ≤ fal M (wor M p y s).toNatClampNeg y then wor M p y s else nI s) else wor M p y s
theorem wor_is (M : Nat → Int32) (p : Int32) (y : Nat) : ∀ k, wor M p y k = -1 ∨ ∃ j, j < k ∧ wor M p y k = nI j := by
  intro k
  induction k with
  | zero => exact Or.inl rfl
  | succ k ih =>
    have ih2 : wor M p y k = -1 ∨ ∃ j, j < k + 1 ∧ wor M p y k = nI j := ih.imp id (fun ⟨j, a, b⟩ => ⟨j, by omega, b⟩)
    rw [wor]
    by_cases c : hst M k p (nI y)
    · rw [if_pos c]
      by_cases d : wor M p y k = -1
      · rw [if_pos d]; exact Or.inr ⟨k, by omega, rfl⟩
      · rw [if_neg d]
        by_cases e : fal M k y ≤ fal M (wor M p y k).toNatClampNeg y
        · rw [if_pos e]; exact ih2
        · rw [if_neg e]; exact Or.inr ⟨k, by omega, rfl⟩
    · rw [if_neg c]; exact ih2
theorem op_worst (h : Inv E c S x M) (hn : 8 ≤ n) (p y : Int32) : OK E c (f_X8_worst E n S c p y) (fun S1 => f_X9_worst E n S1 (c + 129) p y) := by
  have hS := h.w.lS
  have hY := h.w.lY
  by_cases c1 : inI p (M 2) ∧ inI y (M 1)
  · obtain ⟨y, hy, rfl⟩ := inI_j h.w.s1 (by omega) c1.2
    refine OK.r h (v := wor M p y (cS M)) ?_ ?_
    · simp only [f_X8_worst, e_X8_knowsPath h, bds, ifb1 c1]
      refine lp (N := cS M) (P := fun s k => f_X8_worst_L20 E n k S c p (nI y) (wor M p y s) (if wor M p y s = -1 then -1 else fal M (wor M p y s).toNatClampNeg y) (nI s) = some (wor M p y (cS M), S)) ?_ ?_ (cS M) 0 n (by omega) (by omega)
      · intro k
        simp only [f_X8_worst_L20, h.n0, obs, h.m.i133, h.w.t4, if_true]
      · intro s k hs ih
        simp only [f_X8_worst_L20, h.n0, obs, h.m.i133, h.w.f4 hs, if_false, e_X3_hasStep h.m h.w hs, e_X3_fallOf h.m h.w hn hs (show y < 30 by omega), bds, lts, nI_1, b2i_eq0]
        rw [wor] at ih
        by_cases q : hst M s p (nI y)
        · simp only [if_pos q] at ih
          rw [if_neg (fun r => r q)]
          obtain ⟨v, hv, ev⟩ := fal_nat h.w hs (show y < 30 by omega)
          by_cases d : wor M p y s = -1
          · simp only [if_pos d, if_neg (nIm1 (show s < 2 ^ 31 by omega)), nI_clamp (show s < 2 ^ 31 by omega)] at ih
            rw [if_pos d, if_neg (fun r => by rw [ev, fa_le, nI_toInt (by omega), show (-1 : Int32).toInt = -1 by decide] at r; omega)]
            exact ih
          · simp only [if_neg d] at ih
            rw [if_neg d]
            by_cases e : fal M s y ≤ fal M (wor M p y s).toNatClampNeg y
            · simp only [if_pos e, if_neg d] at ih
              rw [if_pos e]
              exact ih
            · simp only [if_neg e, if_neg (nIm1 (show s < 2 ^ 31 by omega)), nI_clamp (show s < 2 ^ 31 by omega)] at ih
              rw [if_neg e]; exact ih
        · simp only [if_neg q] at ih
          rw [if_pos q]; exact ih
    · simp only [f_X9_worst, e_X9_areSo h.o h.w, bds, ifb1 c1]
      refine lp (N := cS M) (P := fun s k => f_X9_worst_L17 E n k S (c + 129) p (nI y) (wor M p y s) (nI s) = some (wor M p y (cS M), S)) ?_ ?_ (cS M) 0 n (by omega) (by omega)
      · intro k
        simp only [f_X9_worst_L17, h.o.1, obs, h.o.2.1, mg4, h.o.v4, h.w.t4, if_true]
      · intro s k hs ih
        simp only [f_X9_worst_L17, h.o.1, obs, h.o.2.1, mg4, h.o.v4, h.w.f4 hs, if_false, e_X9_hasStep h.o h.w hs, e_X9_fallOf h.o h.w hn (show s < 7 by omega) (show y < 30 by omega), bds, lts, nI_1, b2i_eq0]
        rw [wor] at ih
        by_cases q : hst M s p (nI y)
        · simp only [if_pos q] at ih
          rw [if_neg (fun r => r ⟨nIm1 (by omega), q⟩)]
          by_cases d : wor M p y s = -1
          · simp only [if_pos d] at ih
            rw [if_pos d]; exact ih
          · simp only [if_neg d] at ih
            rw [if_neg d]
            rcases wor_is M p y s with r | ⟨j, hj, r⟩
            · exact absurd r d
            · rw [r, nI_clamp (show j < 2 ^ 31 by omega)] at ih
              rw [r, e_X9_fallOf h.o h.w hn (show j < 7 by omega) (show y < 30 by omega), bds]
              by_cases e : fal M s y ≤ fal M j y
              · simp only [if_pos e] at ih
                rw [if_pos e]; exact ih
              · simp only [if_neg e] at ih
                rw [if_neg e]; exact ih
        · simp only [if_neg q] at ih
          rw [if_pos (fun r => q r.2)]; exact ih
  · exact OK.r h (v := -2) (by simp only [f_X8_worst, e_X8_knowsPath h, bds, ifb0 c1]) (by simp only [f_X9_worst, e_X9_areSo h.o h.w, bds, ifb0 c1])
end OP3
