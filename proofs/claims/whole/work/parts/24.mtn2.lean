/-! The class's Mountain, further: falls, chances, open paths, reach, lacks, hopes -/
section MT2
variable {E : EN} {n : Nat} {S : WS} {a : Nat} {M : Nat → Int32}
theorem RMt.hh (h : RMt E S a M) : ∀ p, p < 8 → ai S (a + 1) p = M (7 + p) := h.2.2.1
theorem RMt.hp (h : RMt E S a M) : ∀ p, p < cA M → ai S (a + 2) p = M (45 + 2 * p) ∧ ai S (a + 3) p = M (46 + 2 * p) := h.2.2.2.1
theorem RMt.hb (h : RMt E S a M) : ∀ b, b < cB M → ai S (a + 4) b = M (65 + 2 * b) ∧ ai S (a + 5) b = M (66 + 2 * b) := h.2.2.2.2.1
theorem RMt.hs (h : RMt E S a M) : ∀ s, s < cS M → ai S (a + 6) s = M (73 + 3 * s) ∧ ai S (a + 7) s = M (74 + 3 * s) ∧ ai S (a + 8) s = M (75 + 3 * s) := h.2.2.2.2.2.1
theorem RMt.hc (h : RMt E S a M) : ∀ s, s < 7 → ai S (a + 9) s = M (102 + s) := h.2.2.2.2.2.2.1
theorem RMt.hr (h : RMt E S a M) : ∀ y, y < 30 → ai S (a + 10) y = M (15 + y) := h.2.2.2.2.2.2.2.1
theorem RMt.hk (h : RMt E S a M) : ∀ w, w < cW M → ai S (a + 11) w = M (94 + 2 * w) ∧ ai S (a + 12) w = M (95 + 2 * w) := h.2.2.2.2.2.2.2.2
theorem tkn_congr {c d k : Nat → Int32} {b : Int32} : ∀ {N : Nat}, (∀ i, i < N → c i = d i) → tkn c k b N = tkn d k b N := by
  intro N
  induction N with
  | zero => intro _; rfl
  | succ s ih =>
    intro h
    rw [tkn, tkn, h s (by omega), ih (fun i hi => h i (by omega))]
theorem rfs_congr {c d k : Nat → Int32} {N s : Nat} (h : ∀ i, i < N → c i = d i) (h2 : c s = d s) : rfs c k N s ↔ rfs d k N s := by
  unfold rfs
  rw [h2, tkn_congr h]
theorem e_X3_isRefusedC (h : RMt E S a M) (hw : WF M) {s : Nat} (hn : 8 ≤ n) (hs : s < 7) : f_X3_isRefused E n S a (a + 9) (nI s) = some (b2i (rfs (oM M) (kM M) (cS M) s), S) := by
  rw [e_X3_isRefused h hw h.n9 hn hs, b2i_c (rfs_congr (fun i hi => h.hc i (by have := hw.lS; omega)) (h.hc s hs))]
theorem e_X3_takenByC (h : RMt E S a M) (hw : WF M) (hn : 8 ≤ n) (b : Int32) : f_X3_takenBy E n S a (a + 9) b = some (tkn (oM M) (kM M) b (cS M), S) := by
  rw [e_X3_takenBy h hw h.n9 hn, tkn_congr (fun i hi => h.hc i (by have := hw.lS; omega))]
theorem e_X3_courtersOf (h : RMt E S a M) (hw : WF M) (hn : 8 ≤ n) (b : Int32) : f_X3_courtersOf E n S a (a + 9) b = some (nI (cn (fun s => oM M s = b) (cS M)), S) := by
  have hS := hw.lS
  refine lp (N := cS M) (P := fun s k => f_X3_courtersOf_L5 E n k S a (a + 9) b (nI (cn (fun s => oM M s = b) s)) (nI s) = some (nI (cn (fun s => oM M s = b) (cS M)), S)) ?_ ?_ (cS M) 0 n (by omega) (by omega)
  · intro k
    simp only [f_X3_courtersOf_L5, h.i133, hw.t4, if_true]
  · intro s k hs ih
    simp only [f_X3_courtersOf_L5, h.i133, hw.f4 hs, if_false, h.n9, nI_clamp (show s < 2 ^ 31 by omega), ifn (rinc (show s < 7 by omega) (show 7 < 2 ^ 31 by omega)), h.hc s (by omega), lts, nI_1]
    rw [cn] at ih
    by_cases c : oM M s = b
    · rw [if_pos c] at ih
      rw [if_pos (show M (102 + s) = b from c)]; exact ih
    · rw [if_neg c] at ih
      rw [if_neg (show ¬ M (102 + s) = b from c)]; exact ih
theorem imin_comm (x y : Int32) : imin x y = imin y x := by
  unfold imin
  rcases fa_three x y with h | h | h
  · have := fa_of_lt h; rw [if_neg this.2.2.1, if_pos h]
  · subst h; rfl
  · have := fa_of_lt h; rw [if_neg this.2.2.1, if_pos h]
theorem e_X3_fallOf (h : RMt E S a M) (hw : WF M) (hn : 8 ≤ n) {s y : Nat} (hs : s < cS M) (hy : y < 30) : f_X3_fallOf E n S a (nI s) (nI y) = some (fal M s y, S) := by
  have hS := hw.lS
  simp only [f_X3_fallOf, h.g144, h.g143, obs, h.n10, nI_clamp (show y < 2 ^ 31 by omega), nI_clamp (show s < 2 ^ 31 by omega), ifn (rinc (show y < 30 by omega) (show 30 < 2 ^ 31 by omega)), e_X3_isRefusedC h hw hn (show s < 7 by omega), bds, b2i_eq0, h.g141, h.n7, ifn (rinc (show s < 7 by omega) (show 7 < 2 ^ 31 by omega)), lts, h.hr y hy, (h.hs s hs).2.1, imin_comm _ 100, fal]
  by_cases c : rfs (oM M) (kM M) (cS M) s
  · rw [if_neg (fun q => q c), if_pos c]
  · rw [if_pos c, if_neg c]
theorem e_X3_safeAlong (h : RMt E S a M) (hw : WF M) (hn : 8 ≤ n) (p : Int32) {y : Nat} (hy : y < 30) (x : Int64) : f_X3_safeAlong E n S a x p (nI y) = some (saf M p y x (cS M), S) := by
  have hS := hw.lS
  refine lp (N := cS M) (P := fun s k => f_X3_safeAlong_L6 E n k S a p (nI y) (saf M p y x s) (nI s) = some (saf M p y x (cS M), S)) ?_ ?_ (cS M) 0 n (by omega) (by omega)
  · intro k
    simp only [f_X3_safeAlong_L6, h.i133, hw.t4, if_true]
  · intro s k hs ih
    simp only [f_X3_safeAlong_L6, h.i133, hw.f4 hs, if_false, e_X3_hasStep h hw hs, bds, lts, nI_1, b2i_eq0, e_X3_fallOf h hw hn hs hy, c100]
    rw [saf] at ih
    by_cases c2 : hst M s p (nI y)
    · rw [if_pos c2] at ih
      rw [if_neg (fun q => q c2)]; exact ih
    · rw [if_neg c2] at ih
      rw [if_pos c2]; exact ih
theorem e_X8_roundedUp {d : Int32} {k : Nat} (hk : k < 2 ^ 30) : f_X8_roundedUp E n S d (nI k + 1) = some (lpd d k, S) := by
  unfold f_X8_roundedUp lpd
  rw [nI_1, if_neg (nI_nle (by omega) (by omega)), if_neg (nI_ne0 (by omega) (by omega)), ← nI_1, ← Int32.add_assoc, Int32.add_sub_cancel]
theorem e_X8_roundedUp' {d : Int32} {k : Nat} (hk : k < 2 ^ 30) : f_X8_roundedUp E n S d (nI (k + 1)) = some (lpd d k, S) := by
  rw [← nI_1]; exact e_X8_roundedUp hk
theorem e_X3_leapOf (h : RMt E S a M) (hw : WF M) (hn : 8 ≤ n) {p : Nat} (hp : p < cA M) (y : Int32) : f_X3_leapOf E n S a (nI p) y = some (lpv M p y (-1), S) := by
  have h7 := stp_le M (nI p) y (-1) (cS M)
  have hS := hw.lS
  simp only [f_X3_leapOf, e_X3_dropOf h hw hp, e_X3_stepsOn h hw hn, bds, e_X8_roundedUp (show stp M (nI p) y (-1) (cS M) < 2 ^ 30 by omega)]
  rfl
theorem e_X3_openPaths (h : RMt E S a M) (hw : WF M) (hn : 11 ≤ n) (l y wo : Int32) : f_X3_openPaths E n S a l y wo = some (opn M l y wo (cA M), S) := by
  have hA := hw.lA
  have hS := hw.lS
  refine lp (N := cA M) (P := fun s k => f_X3_openPaths_L6 E n k S a l y wo (opn M l y wo s) (nI s) = some (opn M l y wo (cA M), S)) ?_ ?_ (cA M) 0 n (by omega) (by omega)
  · intro k
    simp only [f_X3_openPaths_L6, h.i131, hw.t2, if_true]
  · intro s k hs ih
    have h7 := stp_le M (nI s) y wo (cS M)
    simp only [f_X3_openPaths_L6, h.i131, hw.f2 hs, if_false, e_X3_dropOf h hw hs, e_X3_stepsOn h hw (show 8 ≤ n by omega), e_X8_roundedUp' (show stp M (nI s) y wo (cS M) < 2 ^ 30 by omega), bds, lts, nI_1]
    rw [opn, lpv] at ih
    by_cases c : l < lpd (drp M s) (stp M (nI s) y wo (cS M))
    · rw [if_pos c] at ih ⊢; exact ih
    · rw [if_neg c] at ih ⊢; exact ih
/-- the places that a walker reaches -/
def rea (M : Nat → Int32) (w : Nat) (y lo : Int32) : Int32 := rch M (opn M (M (94 + 2 * w)) y lo (cA M)) (M (95 + 2 * w))
theorem e_X3_reachOf (h : RMt E S a M) (hw : WF M) (hn : 11 ≤ n) {w : Nat} (hk : w < cW M) (y wo : Int32) : f_X3_reachOf E n S a (nI w) y wo = some (rea M w y wo, S) := by
  have hW := hw.lW
  obtain ⟨l, q, -, hq, e1, e2⟩ := hw.2.2.2.2.2.2.2.2.2.2.1 w hk
  simp only [f_X3_reachOf, h.g146, h.g145, obs, h.n11, h.n12, nI_clamp (show w < 2 ^ 31 by omega), ifn (rinc (show w < 4 by omega) (show 4 < 2 ^ 31 by omega)), (h.hk w hk).1, (h.hk w hk).2, e_X3_openPaths h hw hn, bds]
  rw [e2, e_X3_placesFrom h hw hn _ hq, bds, rea, e2]
theorem e_X3_pathBetween (h : RMt E S a M) (hw : WF M) (hn : 11 ≤ n) (u v : Int32) : f_X3_pathBetween E n S a u v = some (pbt M u v, S) := by
  have hA := hw.lA
  refine (lp (N := cA M) (P := fun s k => f_X3_pathBetween_L2 E n k S a u v (nI s) = some (ff (isb M u v) (cA M - s) s, S)) ?_ ?_ (cA M) 0 n (by omega) (by omega)).trans rfl
  · intro k
    simp only [f_X3_pathBetween_L2, h.i131, hw.t2, if_true, Nat.sub_self, ff]
  · intro s k hs ih
    simp only [f_X3_pathBetween_L2, f_X3_pathBetween_J30, h.i131, hw.f2 hs, if_false, h.g136, h.g137, obs, h.n2, h.n3, nI_clamp (show s < 2 ^ 31 by omega), ifn (rinc (show s < 10 by omega) (show 10 < 2 ^ 31 by omega)), (h.hp s hs).1, (h.hp s hs).2, lts, nI_1]
    rw [show cA M - s = (cA M - (s + 1)) + 1 by omega, ff]
    rw [pb_step]
    by_cases c : isb M u v s
    · rw [if_pos c, if_pos c]
    · rw [if_neg c, if_neg c]; exact ih
end MT2
section MD2
variable {E : EN} {n : Nat} {S : WS} {m : Nat} {M : Nat → Int32} {lo : Int32}
theorem e_X9_reachOf (h : RWl E S m M lo) (hw : WF M) (hn : 11 ≤ n) {w : Nat} (hk : w < cW M) (y : Int32) : f_X9_reachOf E n S m (nI w) y = some (rea M w y lo, si S 528 m (opn M (M (94 + 2 * w)) y lo (cA M))) := by
  have hW := hw.lW
  obtain ⟨l, q, -, hq, e1, e2⟩ := hw.2.2.2.2.2.2.2.2.2.2.1 w hk
  simp only [f_X9_reachOf, e_X9_leapOf h (show w < 4 by omega), bds, e_X9_opens h hw hn, e_X9_homeOf h.si8 (show w < 4 by omega)]
  rw [e2, e_X9_reachFrom h.si8 hw hn hq, bds, gi_si_eq, rea, e2]
theorem e_X9_canCome (h : RWl E S m M lo) (hw : WF M) (hn : 11 ≤ n) {w : Nat} (hk : w < cW M) (t y : Int32) : f_X9_canCome E n S m (nI w) t y = some (b2i ((rea M w y lo >>> (t &&& 31)) &&& 1 = 1), si S 528 m (opn M (M (94 + 2 * w)) y lo (cA M))) := by
  have hW := hw.lW
  obtain ⟨l, q, -, hq, e1, e2⟩ := hw.2.2.2.2.2.2.2.2.2.2.1 w hk
  simp only [f_X9_canCome, e_X9_leapOf h (show w < 4 by omega), bds, e_X9_opens h hw hn, e_X9_homeOf h.si8 (show w < 4 by omega)]
  rw [e2, e_X9_reachFrom h.si8 hw hn hq, bds, gi_si_eq, rea, e2]
  by_cases c : (rch M (opn M (M (94 + 2 * w)) y lo (cA M)) (nI q) >>> (t &&& 31)) &&& 1 = 1
  · rw [if_pos c, b2i_t c]
  · rw [if_neg c, b2i_f c]
theorem e_X9_areSo (h : RWl E S m M lo) (hw : WF M) (x y : Int32) : f_X9_areSo E n S m x y = some (b2i (inI x (M 2) ∧ inI y (M 1)), S) := by
  simp only [f_X9_areSo, e_X9_isPath h hw, e_X9_isYear h hw, bds, b2i_eq0]
  by_cases c : inI x (M 2)
  · rw [if_neg (fun q => q c)]
    by_cases d : inI y (M 1)
    · rw [if_neg (fun q => q d), b2i_t ⟨c, d⟩]
    · rw [if_pos d, b2i_f (fun q => d q.2)]
  · rw [if_pos c, b2i_f (fun q => c q.1)]
theorem e_X9_isAsked (h : RWl E S m M lo) (hw : WF M) (x t y : Int32) : f_X9_isAsked E n S m x t y = some (b2i (inI x (M 5) ∧ inI t (M 0) ∧ inI y (M 1)), S) := by
  simp only [f_X9_isAsked, e_X9_isWalker h hw, e_X9_isPlace h hw, e_X9_isYear h hw, bds, b2i_eq0]
  by_cases c : inI x (M 5)
  · rw [if_neg (fun q => q c)]
    by_cases d : inI t (M 0)
    · rw [if_neg (fun q => q d)]
      by_cases e : inI y (M 1)
      · rw [if_neg (fun q => q e), b2i_t ⟨c, d, e⟩]
      · rw [if_pos e, b2i_f (fun q => e q.2.2)]
    · rw [if_pos d, b2i_f (fun q => d q.2.1)]
  · rw [if_pos c, b2i_f (fun q => c q.1)]
end MD2
/-! What is lacking -/
theorem lpd_nat {d k : Nat} (hd : d < 1000) (hk : k < 1000) : lpd (nI d) k = nI ((d + k) / (k + 1)) := by
  rw [lpd, nI_add, pk_div (by omega) (by omega) (by omega)]
theorem leap_le {d k n : Nat} : (d + k) / (k + 1) ≤ n ↔ d ≤ n * (k + 1) := by
  have h := Nat.div_lt_iff_lt_mul (x := d + k) (y := n + 1) (k := k + 1) (by omega)
  rw [Nat.add_mul, Nat.one_mul] at h
  constructor
  · intro q; have := h.mp (by omega); omega
  · intro q; have := h.mpr (by omega); omega
theorem drp_nat {M : Nat → Int32} (hw : WF M) {p : Nat} (hp : p < cA M) : ∃ d, d ≤ 99 ∧ drp M p = nI d := by
  have hP := hw.lP
  obtain ⟨u, v, hu, hv, -, eu, ev⟩ := hw.2.2.2.2.2.2.1 p hp
  obtain ⟨x, hx, ex⟩ := hw.2.2.2.2.1 u (by omega)
  obtain ⟨y, hy, ey⟩ := hw.2.2.2.2.1 v (by omega)
  rw [drp, eu, ev, nI_clamp (show u < 2 ^ 31 by omega), nI_clamp (show v < 2 ^ 31 by omega), ex, ey, iabs]
  by_cases c : y ≤ x
  · rw [pk_sub c, if_pos (nI_pos' (by omega))]
    exact ⟨x - y, by omega, rfl⟩
  · have h1 : (nI x - nI y) = -(nI (y - x)) := by
      rw [← pk_sub (show x ≤ y by omega), Int32.neg_sub]
    have h2 : nI x - nI y < 0 := pk_sneg (by omega) (by omega)
    rw [if_neg (fun q => (fa_of_lt h2).2.1 q), h1, Int32.zero_sub, Int32.neg_neg]
    exact ⟨y - x, by omega, rfl⟩
/-- how many steps more: none is enough: none -/
def lcn (d k n : Nat) : Option Nat := if d ≤ n * (k + 1) then some 0 else if n = 0 then none else some ((d + n - 1) / n - 1 - k)
theorem lcn_spec {d k n t : Nat} (h : lcn d k n = some t) (hn : n ≠ 0) : d ≤ n * (k + t + 1) ∧ ∀ j, j < t → ¬ d ≤ n * (k + j + 1) := by
  unfold lcn at h
  by_cases c : d ≤ n * (k + 1)
  · rw [if_pos c] at h
    cases h
    exact ⟨c, fun j hj => by omega⟩
  · rw [if_neg c, if_neg hn] at h
    have e : t = (d + n - 1) / n - 1 - k := by cases h; rfl
    have key : ∀ j, d ≤ n * j ↔ (d + n - 1) / n ≤ j := by
      intro j
      have h2 := Nat.div_lt_iff_lt_mul (x := d + n - 1) (y := j + 1) (k := n) (by omega)
      rw [Nat.add_mul, Nat.one_mul] at h2
      rw [Nat.mul_comm n j]
      constructor
      · intro q; have := h2.mpr (by omega); omega
      · intro q; have := h2.mp (by omega); omega
    rw [key] at c
    refine ⟨(key _).mpr (by omega), fun j hj q => ?_⟩
    have := (key _).mp q
    omega
theorem lcn_le {d k n t : Nat} (h : lcn d k n = some t) (hd : d ≤ 99) : t ≤ 99 := by
  unfold lcn at h
  by_cases c : d ≤ n * (k + 1)
  · rw [if_pos c] at h; cases h; omega
  · rw [if_neg c] at h
    by_cases c2 : n = 0
    · rw [if_pos c2] at h; cases h
    · rw [if_neg c2] at h
      have e : t = (d + n - 1) / n - 1 - k := by cases h; rfl
      have h2 := Nat.div_lt_iff_lt_mul (x := d + n - 1) (y := d + 1) (k := n) (by omega)
      have h3 : d + n - 1 < (d + 1) * n := by
        rw [Nat.add_mul, Nat.one_mul]
        have := Nat.le_mul_of_pos_right d (show 0 < n by omega)
        omega
      have := h2.mpr h3
      omega
/-- the answer of the class: -1 where none is enough -/
def lcI (d k n : Nat) : Int32 := match lcn d k n with | none => -1 | some t => nI t
theorem e_X8_lacking {E : EN} {f : Nat} {S : WS} {d k n : Nat} (hd : d ≤ 99) (hk : k ≤ 99) (hn : n ≤ 99) : f_X8_lacking E f S (nI d) (nI k) (nI n) = some (lcI d k n, S) := by
  have hb : n * (k + 1) ≤ 99 * 100 := Nat.mul_le_mul hn (by omega)
  unfold f_X8_lacking lcI lcn
  rw [nI_1, pk_mul]
  by_cases c : d ≤ n * (k + 1)
  · rw [if_neg (nI_nlt c (by omega)), if_pos c]; rfl
  · rw [if_pos (nI_lt (by omega) (by omega)), if_neg c]
    by_cases c2 : n = 0
    · subst c2; rw [if_pos (show nI 0 = 0 from rfl), if_pos rfl]
    · rw [if_neg (nI_ne0 (by omega) (by omega)), if_neg c2]
      obtain ⟨q, rfl⟩ : ∃ q, n = q + 1 := ⟨n - 1, by omega⟩
      rw [← nI_1, e_X8_roundedUp (by omega), bds, lpd_nat (by omega) (by omega)]
      have key : k + 1 < (d + q) / (q + 1) := by
        apply Classical.byContradiction
        intro q2
        have := leap_le (d := d) (k := q) (n := k + 1)
        have := this.mp (by omega)
        rw [Nat.mul_comm] at this
        exact c this
      rw [show d + (q + 1) - 1 = d + q by omega, show nI ((d + q) / (q + 1)) - 1 - nI k = nI ((d + q) / (q + 1) - 1 - k) by rw [show (1 : Int32) = nI 1 from rfl, pk_sub (by omega), pk_sub (by omega)]]
theorem e_X3_lackingOn {E : EN} {f : Nat} {S : WS} {a : Nat} {M : Nat → Int32} (h : RMt E S a M) (hw : WF M) (hn : 8 ≤ f) {p d n : Nat} (hp : p < cA M) (hd : d ≤ 99) (ed : drp M p = nI d) (hn2 : n ≤ 99) (y : Int32) : f_X3_lackingOn E f S a (nI p) y (nI n) = some (lcI d (stp M (nI p) y (-1) (cS M)) n, S) := by
  have h7 := stp_le M (nI p) y (-1) (cS M)
  have hS := hw.lS
  simp only [f_X3_lackingOn, e_X3_dropOf h hw hp, e_X3_stepsOn h hw hn, bds]
  rw [ed, e_X8_lacking hd (by omega) hn2, bds]
def lcF (d k n : Nat) : Int32 := match lcn d k n with | none => 1000000 | some t => nI t
theorem e_X9_lacksOf {E : EN} {f : Nat} {S : WS} {m : Nat} {M : Nat → Int32} {lo : Int32} (h : RWl E S m M lo) (hw : WF M) (hf : 200 ≤ f) {p d n : Nat} (hp : p < cA M) (hd : d ≤ 99) (ed : drp M p = nI d) (hn2 : n ≤ 99) (y : Int32) : f_X9_lacksOf E f S m (nI p) y (nI n) = some (lcF d (stp M (nI p) y lo (cS M)) n, S) := by
  have h7 := stp_le M (nI p) y lo (cS M)
  have hS := hw.lS
  simp only [f_X9_lacksOf, e_X9_dropOf h hw hp, bds]
  rw [ed]
  have hb : n * (stp M (nI p) y lo (cS M) + 1) ≤ 99 * 100 := Nat.mul_le_mul hn2 (by omega)
  have loop : ∀ t, t ≤ 99 → d ≤ n * (stp M (nI p) y lo (cS M) + t + 1) → (∀ j, j < t → ¬ d ≤ n * (stp M (nI p) y lo (cS M) + j + 1)) → f_X9_lacksOf_L23 E f f S m (nI p) y (nI n) (nI d) 0 = some (nI t, S) := by
    intro t ht h1 h2
    refine lp (N := t) (P := fun s k => f_X9_lacksOf_L23 E f k S m (nI p) y (nI n) (nI d) (nI s) = some (nI t, S)) ?_ ?_ t 0 f (by omega) (by omega)
    · intro k
      simp only [f_X9_lacksOf_L23, e_X9_stepsOf h hw (show 8 ≤ f by omega), bds, nI_add]
      rw [e_X9_leapBy (by omega), bds, lpd_nat (by omega) (by omega), if_pos (nI_le (leap_le.mpr h1) (by omega))]
    · intro s k hs ih
      simp only [f_X9_lacksOf_L23, e_X9_stepsOf h hw (show 8 ≤ f by omega), bds, nI_add]
      have h3 : ¬ (d + (stp M (nI p) y lo (cS M) + s)) / (stp M (nI p) y lo (cS M) + s + 1) ≤ n := fun q => h2 s hs (leap_le.mp q)
      have h4 : (d + (stp M (nI p) y lo (cS M) + s)) / (stp M (nI p) y lo (cS M) + s + 1) ≤ d + (stp M (nI p) y lo (cS M) + s) := Nat.div_le_self _ _
      rw [e_X9_leapBy (by omega), bds, lpd_nat (by omega) (by omega), if_neg (nI_ge (by omega) (by omega)), lts, nI_1]
      exact ih
  unfold lcF lcn
  by_cases c0 : n = 0
  · subst c0
    rw [if_pos (show nI 0 = 0 from rfl)]
    by_cases c1 : d = 0
    · subst c1
      rw [if_pos (show nI 0 ≤ 0 by decide), if_pos (by omega)]
      exact loop 0 (by omega) (by omega) (fun j hj => by omega)
    · rw [if_neg (nI_nle (by omega) (by omega)), if_neg (by omega), if_pos rfl]
  · rw [if_neg (nI_ne0 (by omega) (by omega))]
    cases e : lcn d (stp M (nI p) y lo (cS M)) n with
    | none =>
      unfold lcn at e
      by_cases c : d ≤ n * (stp M (nI p) y lo (cS M) + 1)
      · rw [if_pos c] at e; cases e
      · rw [if_neg c, if_neg c0] at e; cases e
    | some t =>
      have hs := lcn_spec e c0
      unfold lcn at e
      rw [e]
      exact loop t (lcn_le (d := d) (k := stp M (nI p) y lo (cS M)) (n := n) e hd) hs.1 hs.2
