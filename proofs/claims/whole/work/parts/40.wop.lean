/-! Calls over ways: shortest, goes, safest, place, ways, climbs, walk, walks -/
theorem inP {E : EN} {f : Nat} {S : WS} {x : Int32} {N : Nat} (hN : N < 2 ^ 31) : f_X9_in E f S x.toInt64 (0 : Int64) ((nI N - 1).toInt64) = some (b2i (inI x (nI N)), S) := by
  rw [show (0 : Int64) = (0 : Int32).toInt64 by decide, e_in32, b2i_c (l1i hN)]
theorem imax_comm (x y : Int32) : imax x y = imax y x := by
  unfold imax
  rcases fa_three x y with h | h | h
  · have := fa_of_lt h; rw [if_pos h, if_neg this.2.2.1]
  · subst h; rfl
  · have := fa_of_lt h; rw [if_neg this.2.2.1, if_pos h]
def upw (M : Nat → Int32) (A : AW) (i : Nat) : Int32 := M (7 + (aR A (i + 1)).toNatClampNeg) - M (7 + (aR A i).toNatClampNeg)
/-- how much up (down) along the shortest, to its i-th place -/
def cli (M : Nat → Int32) (A : AW) (z : Int32) : Nat → Int32
  | 0 => 0
  | i + 1 => cli M A z i + imax 0 (if z = 0 then upw M A i else -upw M A i)
def drw (X : Nat) : Nat := (1103515245 * X + 12345) % 2147483648
def dvw (X : Nat) : Nat := X / 65536 % 100
/-- whether a step is missed, and what is drawn then -/
def mis (M : Nat → Int32) (p : Int32) (y : Nat) : Nat → Nat → Nat → Bool × Nat
  | 0, _, X => (false, X)
  | k + 1, s, X => if hst M s p (nI y) then (if nI (dvw (drw X)) < fal M s y then (true, drw X) else mis M p y k (s + 1) (drw X)) else mis M p y k (s + 1) X
def foo (M : Nat → Int32) (u v : Int32) : Int32 := if M (7 + u.toNatClampNeg) ≤ M (7 + v.toNatClampNeg) then u else v
noncomputable def wlk (M : Nat → Int32) (A : AW) (y : Nat) : Nat → Nat → Nat → Int32
  | 0, _, _ => aQ A (aL A - 1)
  | k + 1, i, X => if (mis M (pbt M (aQ A (i - 1)) (aQ A i)) y (cS M) 0 X).1 = true then foo M (aQ A (i - 1)) (aQ A i) else wlk M A y k (i + 1) (mis M (pbt M (aQ A (i - 1)) (aQ A i)) y (cS M) 0 X).2
theorem drw_lt (X : Nat) : drw X < 2147483648 := Nat.mod_lt _ (by decide)
theorem drw_l {X : Nat} (hX : X < 2147483648) : (((1103515245 : Int64) * lN X) + (12345 : Int64)) - (((1103515245 : Int64) * lN X) + (12345 : Int64)) / (2147483648 : Int64) * (2147483648 : Int64) = lN (drw X) := by
  rw [show (1103515245 : Int64) = lN 1103515245 from rfl, show (12345 : Int64) = lN 12345 from rfl, show (2147483648 : Int64) = lN 2147483648 from rfl, lN_mul, lN_add, pk_lRem (by omega) (by decide) (by decide)]
  rfl
theorem dvw_l {X : Nat} (hX : X < 2147483648) : (lN X / (65536 : Int64)) - (lN X / (65536 : Int64)) / (100 : Int64) * (100 : Int64) = lN (dvw X) := by
  have := Nat.div_le_self X 65536
  rw [show (65536 : Int64) = lN 65536 from rfl, show (100 : Int64) = lN 100 from rfl, pk_lDiv (by omega) (by decide) (by decide), pk_lRem (by omega) (by decide) (by decide)]
  rfl
theorem dvw_lt (X : Nat) : dvw X < 100 := Nat.mod_lt _ (by decide)
theorem mis_lt {M : Nat → Int32} {p : Int32} {y : Nat} : ∀ k s X, X < 2147483648 → (mis M p y k s X).2 < 2147483648 := by
  intro k
  induction k with
  | zero => intro s X hX; exact hX
  | succ k ih =>
    intro s X hX
    rw [mis]
    by_cases c : hst M s p (nI y)
    · rw [if_pos c]
      by_cases d : nI (dvw (drw X)) < fal M s y
      · rw [if_pos d]; exact drw_lt X
      · rw [if_neg d]; exact ih _ _ (drw_lt X)
    · rw [if_neg c]; exact ih _ _ hX
theorem e_X9_isSeed {E : EN} {n : Nat} {S : WS} (z : Int32) : f_X9_isSeed E n S z = some (b2i (inI z (nI 2000000001)), S) := by
  simp only [f_X9_isSeed, inN 2000000000 (nI 2000000001) 2000000000 (by decide) rfl rfl, bds, zc_b]
section WOP
variable {E : EN} {n c : Nat} {S : WS} {x : Nat} {M : Nat → Int32}
/-- both searches -/
theorem two_ways (h : Inv E c S x M) (hn : 30000000 ≤ n) {w : Nat} (hk : w < cW M) (t : Int32) {y : Nat} (hy : y < 30) : ∃ S1 S2, f_X7_findAll E n S (c + 33) (c + x) (nI w) t (nI y) = some ((), S1) ∧ Inv E c S1 x M ∧ CWa c (wys M t w y) S1 ∧ AVal M (wys M t w y) ∧ f_X9_allWays E n S1 (c + 129) (nI w) t (nI y) = some ((), S2) ∧ Inv E c S2 x M ∧ MWa c (wys M t w y) S2 := by
  obtain ⟨S1, a1, a2, a3, a4⟩ := e_X7_findAll (n := n) h (by omega) hk t hy
  obtain ⟨S2, b1, b2, b3, b4⟩ := e_X9_allWays (n := n) (h.kp a2) hn hk t hy
  exact ⟨S1, S2, a1, h.kp a2, a3, a4, b1, (h.kp a2).kp b2, b3⟩
theorem op_ways (h : Inv E c S x M) (hn : 30000000 ≤ n) (w t y : Int32) : OK E c (f_X8_ways E n S c w t y) (fun S1 => f_X9_ways E n S1 (c + 129) w t y) := by
  have hW := h.w.lW
  have hY := h.w.lY
  by_cases c1 : inI w (M 5) ∧ inI t (M 0) ∧ inI y (M 1)
  · obtain ⟨j, hj, rfl⟩ := inI_j h.w.s5 (by omega) c1.1
    obtain ⟨y, hy, rfl⟩ := inI_j h.w.s1 (by omega) c1.2.2
    obtain ⟨S1, S2, a1, i1, a3, a4, b1, i2, b3⟩ := two_ways h hn hj t (show y < 30 by omega)
    refine ⟨nI (aT (wys M t j y)), S1, S2, x, M, ?_, ?_, i2⟩
    · simp only [f_X8_ways, e_X8_knowsWay h, bds, ifb1 c1, h.g456, h.n0, obs, a1, i1.g456, a3.1]
    · simp only [f_X9_ways, e_X9_isAsked i1.o i1.w, bds, ifb1 c1, b1, b3.1]
  · exact OK.r h (v := -2) (by simp only [f_X8_ways, e_X8_knowsWay h, bds, ifb0 c1]) (by simp only [f_X9_ways, e_X9_isAsked h.o h.w, bds, ifb0 c1])
theorem op_shortest (h : Inv E c S x M) (hn : 30000000 ≤ n) (w t y : Int32) : OK E c (f_X8_shortest E n S c w t y) (fun S1 => f_X9_shortest E n S1 (c + 129) w t y) := by
  have hW := h.w.lW
  have hY := h.w.lY
  by_cases c1 : inI w (M 5) ∧ inI t (M 0) ∧ inI y (M 1)
  · obtain ⟨j, hj, rfl⟩ := inI_j h.w.s5 (by omega) c1.1
    obtain ⟨y, hy, rfl⟩ := inI_j h.w.s1 (by omega) c1.2.2
    obtain ⟨S1, S2, a1, i1, a3, a4, b1, i2, b3⟩ := two_ways h hn hj t (show y < 30 by omega)
    have a8 := a4.1
    refine ⟨if aS (wys M t j y) = 0 then -1 else nI (aS (wys M t j y)), S1, S2, x, M, ?_, ?_, i2⟩
    · simp only [f_X8_shortest, e_X8_knowsWay h, bds, ifb1 c1, h.g456, h.n0, obs, a1, i1.g456, a3.2.1.1]
    · simp only [f_X9_shortest, e_X9_isAsked i1.o i1.w, bds, ifb1 c1, b1, b3.2.1.1]
      by_cases c2 : aS (wys M t j y) = 0
      · rw [if_pos c2, if_pos (by rw [c2]; decide)]
      · rw [if_neg c2, if_neg (nI_ne0 (by omega) (by omega))]
  · exact OK.r h (v := -2) (by simp only [f_X8_shortest, e_X8_knowsWay h, bds, ifb0 c1]) (by simp only [f_X9_shortest, e_X9_isAsked h.o h.w, bds, ifb0 c1])
theorem op_goes (h : Inv E c S x M) (hn : 30000000 ≤ n) (w t y i : Int32) : OK E c (f_X8_goes E n S c w t y i) (fun S1 => f_X9_goes E n S1 (c + 129) w t y i) := by
  have hW := h.w.lW
  have hY := h.w.lY
  by_cases c1 : inI w (M 5) ∧ inI t (M 0) ∧ inI y (M 1)
  · obtain ⟨j, hj, rfl⟩ := inI_j h.w.s5 (by omega) c1.1
    obtain ⟨y, hy, rfl⟩ := inI_j h.w.s1 (by omega) c1.2.2
    obtain ⟨S1, S2, a1, i1, a3, a4, b1, i2, b3⟩ := two_ways h hn hj t (show y < 30 by omega)
    have a8 := a4.1
    by_cases c2 : inI i (nI (aS (wys M t j y)))
    · obtain ⟨i, hi, rfl⟩ := inI_j rfl (by omega) c2
      refine ⟨aR (wys M t j y) i, S1, S2, x, M, ?_, ?_, i2⟩
      · simp only [f_X8_goes, e_X8_knowsWay h, bds, ifb1 c1, h.g456, h.n0, obs, a1, i1.g456, a3.2.1.1, if_neg c2.1, if_neg (show ¬ aS (wys M t j y) = 0 by omega), if_neg c2.2, i1.g391, h.l48, nI_clamp (show i < 2 ^ 31 by omega), ifn (rinc (show i < 8 by omega) (show 8 < 2 ^ 31 by omega)), a3.2.1.2 i hi]
      · simp only [f_X9_goes, e_X9_isAsked i1.o i1.w, bds, ifb1 c1, b1, b3.2.1.1, inP (show aS (wys M t j y) < 2 ^ 31 by omega), ifb1 c2, i2.g533, obs, h.l139, nI_clamp (show i < 2 ^ 31 by omega), ifn (rinc (show i < 8 by omega) (show 8 < 2 ^ 31 by omega)), b3.2.1.2 i hi]
    · refine ⟨-1, S1, S2, x, M, ?_, ?_, i2⟩
      · simp only [f_X8_goes, e_X8_knowsWay h, bds, ifb1 c1, h.g456, h.n0, obs, a1, i1.g456, a3.2.1.1]
        by_cases c3 : i < 0
        · rw [if_pos c3]
        · rw [if_neg c3, if_pos]
          by_cases c4 : aS (wys M t j y) = 0
          · rw [if_pos c4, fa_le, show (-1 : Int32).toInt = -1 by decide]
            rw [fa_lt, show (0 : Int32).toInt = 0 by decide] at c3
            omega
          · rw [if_neg c4]
            exact Classical.byContradiction fun q => c2 ⟨c3, q⟩
      · simp only [f_X9_goes, e_X9_isAsked i1.o i1.w, bds, ifb1 c1, b1, b3.2.1.1, inP (show aS (wys M t j y) < 2 ^ 31 by omega), ifb0 c2]
  · exact OK.r h (v := -2) (by simp only [f_X8_goes, e_X8_knowsWay h, bds, ifb0 c1]) (by simp only [f_X9_goes, e_X9_isAsked h.o h.w, bds, ifb0 c1])
theorem op_place (h : Inv E c S x M) (hn : 30000000 ≤ n) (w t y i : Int32) : OK E c (f_X8_place E n S c w t y i) (fun S1 => f_X9_place E n S1 (c + 129) w t y i) := by
  have hW := h.w.lW
  have hY := h.w.lY
  by_cases c1 : inI w (M 5) ∧ inI t (M 0) ∧ inI y (M 1)
  · obtain ⟨j, hj, rfl⟩ := inI_j h.w.s5 (by omega) c1.1
    obtain ⟨y, hy, rfl⟩ := inI_j h.w.s1 (by omega) c1.2.2
    obtain ⟨S1, S2, a1, i1, a3, a4, b1, i2, b3⟩ := two_ways h hn hj t (show y < 30 by omega)
    have a8 := a4.2.1
    by_cases c2 : inI i (nI (aL (wys M t j y)))
    · obtain ⟨i, hi, rfl⟩ := inI_j rfl (by omega) c2
      refine ⟨aQ (wys M t j y) i, S1, S2, x, M, ?_, ?_, i2⟩
      · simp only [f_X8_place, e_X8_knowsWay h, bds, ifb1 c1, h.g456, h.n0, obs, a1, i1.g456, a3.2.2.1, if_neg c2.1, if_neg (show ¬ aL (wys M t j y) = 0 by omega), if_neg c2.2, i1.g394, h.l49, nI_clamp (show i < 2 ^ 31 by omega), ifn (rinc (show i < 8 by omega) (show 8 < 2 ^ 31 by omega)), a3.2.2.2.2 i hi]
      · simp only [f_X9_place, e_X9_isAsked i1.o i1.w, bds, ifb1 c1, b1, b3.2.2.1, inP (show aL (wys M t j y) < 2 ^ 31 by omega), ifb1 c2, i2.g535, obs, h.l140, nI_clamp (show i < 2 ^ 31 by omega), ifn (rinc (show i < 8 by omega) (show 8 < 2 ^ 31 by omega)), b3.2.2.2.2 i hi]
    · refine ⟨-1, S1, S2, x, M, ?_, ?_, i2⟩
      · simp only [f_X8_place, e_X8_knowsWay h, bds, ifb1 c1, h.g456, h.n0, obs, a1, i1.g456, a3.2.2.1]
        by_cases c3 : i < 0
        · rw [if_pos c3]
        · rw [if_neg c3, if_pos]
          by_cases c4 : aL (wys M t j y) = 0
          · rw [if_pos c4, fa_le, show (-1 : Int32).toInt = -1 by decide]
            rw [fa_lt, show (0 : Int32).toInt = 0 by decide] at c3
            omega
          · rw [if_neg c4]
            exact Classical.byContradiction fun q => c2 ⟨c3, q⟩
      · simp only [f_X9_place, e_X9_isAsked i1.o i1.w, bds, ifb1 c1, b1, b3.2.2.1, inP (show aL (wys M t j y) < 2 ^ 31 by omega), ifb0 c2]
  · exact OK.r h (v := -2) (by simp only [f_X8_place, e_X8_knowsWay h, bds, ifb0 c1]) (by simp only [f_X9_place, e_X9_isAsked h.o h.w, bds, ifb0 c1])
theorem op_safest (h : Inv E c S x M) (hn : 30000000 ≤ n) (w t y z : Int32) : OK E c (f_X8_safest E n S c w t y z) (fun S1 => f_X9_safest E n S1 (c + 129) w t y z) := by
  have hW := h.w.lW
  have hY := h.w.lY
  by_cases c1 : inI w (M 5) ∧ inI t (M 0) ∧ inI y (M 1)
  · by_cases c2 : inI z (nI 3)
    · obtain ⟨j, hj, rfl⟩ := inI_j h.w.s5 (by omega) c1.1
      obtain ⟨y, hy, rfl⟩ := inI_j h.w.s1 (by omega) c1.2.2
      obtain ⟨S1, S2, a1, i1, a3, a4, b1, i2, b3⟩ := two_ways h hn hj t (show y < 30 by omega)
      have a8 := a4.2.1
      have cz : z ≤ 2 := (bnd (2 : Int32) 2 (by decide) rfl).mpr c2.2
      by_cases c3 : aL (wys M t j y) = 0
      · refine ⟨-1, S1, S2, x, M, ?_, ?_, i2⟩
        · simp only [f_X8_safest, e_X8_knowsWay h, bds, ifb1 c1, if_neg c2.1, if_pos cz, h.g456, h.n0, obs, a1, i1.g456, a3.2.2.1, if_pos c3, if_true]
        · simp only [f_X9_safest, e_X9_isAsked i1.o i1.w, bds, ifb1 c1, inN 2 (nI 3) 2 (by decide) rfl rfl, ifb1 c2, b1, b3.2.2.1]
          rw [if_pos (by rw [c3]; decide)]
      · have c4 : ¬ nI (aL (wys M t j y)) = -1 := nIm1 (by omega)
        have c5 : ¬ nI (aL (wys M t j y)) = 0 := nI_ne0 (by omega) (by omega)
        obtain ⟨k, hk, ek⟩ := a4.2.2.2.2.1 (by omega)
        have ca := a3.2.2.2.1
        have cb := b3.2.2.2.1 (by omega)
        rw [if_neg c3, ek] at ca
        rw [ek] at cb
        by_cases c6 : z = 2
        · refine ⟨(nI (aL (wys M t j y))).toInt64, S1, S2, x, M, ?_, ?_, i2⟩
          · simp only [f_X8_safest, e_X8_knowsWay h, bds, ifb1 c1, if_neg c2.1, if_pos cz, h.g456, h.n0, obs, a1, i1.g456, a3.2.2.1, if_neg c3, if_neg c4, if_pos c6]
          · simp only [f_X9_safest, e_X9_isAsked i1.o i1.w, bds, ifb1 c1, inN 2 (nI 3) 2 (by decide) rfl rfl, ifb1 c2, b1, b3.2.2.1, if_neg c5, if_pos c6]
        · refine ⟨low k z, S1, S2, x, M, ?_, ?_, i2⟩
          · simp only [f_X8_safest, e_X8_knowsWay h, bds, ifb1 c1, if_neg c2.1, if_pos cz, h.g456, h.n0, obs, a1, i1.g456, a3.2.2.1, if_neg c3, if_neg c4, if_neg c6, ca, e_X8_lowestTerm hk (show 200 ≤ n by omega)]
          · simp only [f_X9_safest, e_X9_isAsked i1.o i1.w, bds, ifb1 c1, inN 2 (nI 3) 2 (by decide) rfl rfl, ifb1 c2, b1, b3.2.2.1, if_neg c5, if_neg c6, cb, e_X9_part hk (show 200 ≤ n by omega)]
    · refine OK.r h (v := -2) ?_ (by simp only [f_X9_safest, e_X9_isAsked h.o h.w, bds, ifb1 c1, inN 2 (nI 3) 2 (by decide) rfl rfl, ifb0 c2])
      simp only [f_X8_safest, e_X8_knowsWay h, bds, ifb1 c1]
      by_cases c3 : z < 0
      · rw [if_pos c3]
      · rw [if_neg c3, if_neg (fun q => c2 ⟨c3, (bnd (2 : Int32) 2 (by decide) rfl).mp q⟩)]
  · exact OK.r h (v := -2) (by simp only [f_X8_safest, e_X8_knowsWay h, bds, ifb0 c1]) (by simp only [f_X9_safest, e_X9_isAsked h.o h.w, bds, ifb0 c1])
theorem op_climbs (h : Inv E c S x M) (hn : 30000000 ≤ n) (w t y z : Int32) : OK E c (f_X8_climbs E n S c w t y z) (fun S1 => f_X9_climbs E n S1 (c + 129) w t y z) := by
  have hW := h.w.lW
  have hY := h.w.lY
  have hP := h.w.lP
  by_cases c1 : inI w (M 5) ∧ inI t (M 0) ∧ inI y (M 1)
  · by_cases c2 : inI z (nI 2)
    · obtain ⟨j, hj, rfl⟩ := inI_j h.w.s5 (by omega) c1.1
      obtain ⟨y, hy, rfl⟩ := inI_j h.w.s1 (by omega) c1.2.2
      obtain ⟨S1, S2, a1, i1, a3, a4, b1, i2, b3⟩ := two_ways h hn hj t (show y < 30 by omega)
      have a8 := a4.1
      have cz : z ≤ 1 := (bnd (1 : Int32) 1 (by decide) rfl).mpr c2.2
      obtain ⟨A, hA⟩ : ∃ A, A = wys M t j y := ⟨_, rfl⟩
      rw [← hA] at a3 a4 b3 a8
      have aR7 := a4.2.2.1
      by_cases c3 : aS A = 0
      · refine ⟨-1, S1, S2, x, M, ?_, ?_, i2⟩
        · simp only [f_X8_climbs, e_X8_knowsWay h, bds, ifb1 c1, if_neg c2.1, if_pos cz, h.g456, h.n0, obs, a1, i1.g456, a3.2.1.1, if_pos c3, if_true]
        · simp only [f_X9_climbs, e_X9_isAsked i1.o i1.w, bds, ifb1 c1, inN 1 (nI 2) 1 (by decide) rfl rfl, ifb1 c2, b1]
          obtain ⟨n, rfl⟩ : ∃ q, n = q + 1 := ⟨n - 1, by omega⟩
          simp only [f_X9_climbs_L37, b3.2.1.1, c3]
          rw [if_pos (show nI 0 ≤ 1 by decide), if_pos (show nI 0 = 0 by decide)]
      · refine ⟨cli M A z (aS A - 1), S1, S2, x, M, ?_, ?_, i2⟩
        · simp only [f_X8_climbs, e_X8_knowsWay h, bds, ifb1 c1, if_neg c2.1, if_pos cz, h.g456, h.n0, obs, a1, i1.g456, a3.2.1.1, if_neg c3, if_neg (nIm1 (show aS A < 2 ^ 31 by omega))]
          refine lp (N := aS A) (P := fun s k => 1 ≤ s → f_X8_climbs_L57 E n k S1 c z (cli M A z (s - 1)) (nI s) = some (cli M A z (aS A - 1), S1)) ?_ ?_ (aS A - 1) 1 n (by omega) (by omega) (by omega)
          · intro k _
            simp only [f_X8_climbs_L57, i1.g456, obs, a3.2.1.1, if_neg c3, if_pos (nI_le (Nat.le_refl (aS A)) (show aS A < 2 ^ 31 by omega))]
          · intro s k hs ih h1
            have ih := ih (by omega)
            obtain ⟨s, rfl⟩ : ∃ q, s = q + 1 := ⟨s - 1, by omega⟩
            obtain ⟨p, hp, ep⟩ := aR7 s (by omega)
            obtain ⟨q, hq, eq⟩ := aR7 (s + 1) (by omega)
            rw [show s + 1 + 1 - 1 = s + 1 by omega, cli, upw, eq, ep, nI_clamp (show q < 2 ^ 31 by omega), nI_clamp (show p < 2 ^ 31 by omega)] at ih
            rw [show s + 1 - 1 = s by omega]
            simp only [f_X8_climbs_L57, i1.g456, obs, a3.2.1.1, if_neg c3, if_neg (nI_ge hs (show aS A < 2 ^ 31 by omega)), i1.n0, i1.m.g135, i1.m.n1, i1.g391, h.l48, nI_pred, nI_clamp (show s + 1 < 2 ^ 31 by omega), nI_clamp (show s < 2 ^ 31 by omega), ifn (rinc (show s + 1 < 8 by omega) (show 8 < 2 ^ 31 by omega)), ifn (rinc (show s < 8 by omega) (show 8 < 2 ^ 31 by omega)), a3.2.1.2 (s + 1) (by omega), a3.2.1.2 s (by omega), eq, ep, nI_clamp (show q < 2 ^ 31 by omega), nI_clamp (show p < 2 ^ 31 by omega), ifn (rinc (show q < 8 by omega) (show 8 < 2 ^ 31 by omega)), ifn (rinc (show p < 8 by omega) (show 8 < 2 ^ 31 by omega)), i1.m.hh q (by omega), i1.m.hh p (by omega), lts, nI_1, imax_comm _ 0]
            by_cases z0 : z = 0
            · rw [if_pos z0] at ih ⊢; exact ih
            · rw [if_neg z0] at ih ⊢; exact ih
        · simp only [f_X9_climbs, e_X9_isAsked i1.o i1.w, bds, ifb1 c1, inN 1 (nI 2) 1 (by decide) rfl rfl, ifb1 c2, b1]
          refine lp (N := aS A) (P := fun s k => 1 ≤ s → f_X9_climbs_L37 E n k S2 (c + 129) z (cli M A z (s - 1)) (nI s) = some (cli M A z (aS A - 1), S2)) ?_ ?_ (aS A - 1) 1 n (by omega) (by omega) (by omega)
          · intro k _
            simp only [f_X9_climbs_L37, b3.2.1.1, if_pos (nI_le (Nat.le_refl (aS A)) (show aS A < 2 ^ 31 by omega)), if_neg (nI_ne0 (show 0 < aS A by omega) (show aS A < 2 ^ 31 by omega))]
          · intro s k hs ih h1
            have ih := ih (by omega)
            obtain ⟨s, rfl⟩ : ∃ q, s = q + 1 := ⟨s - 1, by omega⟩
            obtain ⟨p, hp, ep⟩ := aR7 s (by omega)
            obtain ⟨q, hq, eq⟩ := aR7 (s + 1) (by omega)
            rw [show s + 1 + 1 - 1 = s + 1 by omega, cli, upw, eq, ep, nI_clamp (show q < 2 ^ 31 by omega), nI_clamp (show p < 2 ^ 31 by omega)] at ih
            rw [show s + 1 - 1 = s by omega]
            simp only [f_X9_climbs_L37, b3.2.1.1, if_neg (nI_ge hs (show aS A < 2 ^ 31 by omega)), i2.o.1, obs, i2.o.2.1, i2.g533, h.l139, nI_pred, nI_clamp (show s + 1 < 2 ^ 31 by omega), nI_clamp (show s < 2 ^ 31 by omega), ifn (rinc (show s + 1 < 8 by omega) (show 8 < 2 ^ 31 by omega)), ifn (rinc (show s < 8 by omega) (show 8 < 2 ^ 31 by omega)), b3.2.1.2 (s + 1) (by omega), b3.2.1.2 s (by omega), eq, ep, ixH, nI_clamp (show 7 + q < 2 ^ 31 by omega), nI_clamp (show 7 + p < 2 ^ 31 by omega), ifn (rinc (show 7 + q < 109 by omega) (show 109 < 2 ^ 31 by omega)), ifn (rinc (show 7 + p < 109 by omega) (show 109 < 2 ^ 31 by omega)), i2.o.2.2.1 _ (show 7 + q < 109 by omega), i2.o.2.2.1 _ (show 7 + p < 109 by omega), lts, nI_1]
            by_cases z0 : z = 0
            · rw [if_pos z0] at ih ⊢; exact ih
            · rw [if_neg z0] at ih ⊢; exact ih
    · refine OK.r h (v := -2) ?_ (by simp only [f_X9_climbs, e_X9_isAsked h.o h.w, bds, ifb1 c1, inN 1 (nI 2) 1 (by decide) rfl rfl, ifb0 c2])
      simp only [f_X8_climbs, e_X8_knowsWay h, bds, ifb1 c1]
      by_cases c3 : z < 0
      · rw [if_pos c3]
      · rw [if_neg c3, if_neg (fun q => c2 ⟨c3, (bnd (1 : Int32) 1 (by decide) rfl).mp q⟩)]
  · exact OK.r h (v := -2) (by simp only [f_X8_climbs, e_X8_knowsWay h, bds, ifb0 c1]) (by simp only [f_X9_climbs, e_X9_isAsked h.o h.w, bds, ifb0 c1])
theorem cL1 : ¬ ((2147483648 : Int64) = 0) := by decide
theorem cL2 : ¬ ((65536 : Int64) = 0) := by decide
theorem e_X8_walk_L73 (h : Inv E c S x M) (hn : 8 ≤ n) (k19 : WS → Nat → Int32 → Int64 → Int32 → Option (Int32 × WS)) {y : Nat} (hy : y < 30) (i p : Int32) {u v : Nat} (hu : u < cP M) (hv : v < cP M) {X : Nat} (hX : X < 2147483648) : f_X8_endOfWalk_L73 E n k19 n S c (nI y) (lN X) i (nI u) (nI v) p 0 = if (mis M p y (cS M) 0 X).1 = true then some (foo M (nI u) (nI v), S) else k19 S c (nI y) (lN (mis M p y (cS M) 0 X).2) (i + 1) := by
  have hS := h.w.lS
  have hP := h.w.lP
  refine lp (N := cS M) (P := fun s k => ∀ X, X < 2147483648 → f_X8_endOfWalk_L73 E n k19 k S c (nI y) (lN X) i (nI u) (nI v) p (nI s) = if (mis M p y (cS M - s) s X).1 = true then some (foo M (nI u) (nI v), S) else k19 S c (nI y) (lN (mis M p y (cS M - s) s X).2) (i + 1)) ?_ ?_ (cS M) 0 n (by omega) (by omega) X hX
  · intro k X hX
    simp only [f_X8_endOfWalk_L73, h.n0, obs, h.m.i133, h.w.t4, if_true, lts, Nat.sub_self, mis]
    rw [if_neg (by decide)]
  · intro s k hs ih X hX
    simp only [f_X8_endOfWalk_L73, h.n0, obs, h.m.i133, h.w.f4 hs, if_false, e_X3_hasStep h.m h.w hs, bds, b2i_eq0, cL1, cL2, c100, lts, drw_l hX, dvw_l (drw_lt X), e_X3_fallOf h.m h.w hn hs hy, h.m.g135, h.m.n1, nI_clamp (show u < 2 ^ 31 by omega), nI_clamp (show v < 2 ^ 31 by omega), ifn (rinc (show u < 8 by omega) (show 8 < 2 ^ 31 by omega)), ifn (rinc (show v < 8 by omega) (show 8 < 2 ^ 31 by omega)), h.m.hh u (by omega), h.m.hh v (by omega), nI_1]
    rw [show cS M - s = (cS M - (s + 1)) + 1 by omega, mis]
    by_cases c1 : hst M s p (nI y)
    · rw [if_neg (fun q => q c1), if_pos c1]
      obtain ⟨f, hf, ef⟩ := fal_nat h.w hs hy
      have hd := dvw_lt (drw X)
      rw [ef, nI_l (show f < 2 ^ 31 by omega)]
      by_cases c2 : dvw (drw X) < f
      · rw [if_neg (fun q => lcm_0le.mp q ((pk_lLT (by omega) (by omega)).mpr c2)), if_pos (nI_lt c2 (by omega)), if_pos rfl, foo, nI_clamp (show u < 2 ^ 31 by omega), nI_clamp (show v < 2 ^ 31 by omega)]
        by_cases c3 : M (7 + u) ≤ M (7 + v)
        · rw [if_pos c3, if_pos c3]
        · rw [if_neg c3, if_neg c3]
      · rw [if_pos (lcm_0le.mpr (fun q => c2 ((pk_lLT (by omega) (by omega)).mp q))), if_neg (nI_nlt (by omega) (by omega))]
        exact ih _ (drw_lt X)
    · rw [if_pos c1, if_neg c1]
      exact ih _ hX
theorem e_X8_endOfWalk (h : Inv E c S x M) (hn : 20 ≤ n) {A : AW} (hV : AVal M A) (hA : CSf c A S) (h0 : aL A ≠ 0) {y : Nat} (hy : y < 30) {X : Nat} (hX : X < 2147483648) : f_X8_endOfWalk E n S c (lN X) (nI y) = some (wlk M A y (aL A - 1) 1 X, S) := by
  have hP := h.w.lP
  obtain ⟨b1, b2, b3⟩ := hA
  have hL := hV.2.1
  have hQ := hV.2.2.2.1
  rw [if_neg h0] at b1
  simp only [f_X8_endOfWalk, h.g456, obs, b1, if_neg (nIm1 (show aL A < 2 ^ 31 by omega))]
  refine lp (N := aL A) (P := fun s k => 1 ≤ s → ∀ X, X < 2147483648 → f_X8_endOfWalk_L19 E n k S c (nI y) (lN X) (nI s) = some (wlk M A y (aL A - s) s X, S)) ?_ ?_ (aL A - 1) 1 n (by omega) (by omega) (by omega) X hX
  · intro k _ X hX
    obtain ⟨l, hl⟩ : ∃ l, aL A = l + 1 := ⟨aL A - 1, by omega⟩
    simp only [f_X8_endOfWalk_L19, h.g456, obs, b1, if_pos (nI_le (Nat.le_refl (aL A)) (show aL A < 2 ^ 31 by omega)), h.g394, h.l49, Nat.sub_self, wlk, b3]
    rw [hl, nI_pred, nI_clamp (show l < 2 ^ 31 by omega), ifn (rinc (show l < 8 by omega) (show 8 < 2 ^ 31 by omega)), b3 l (by omega), Nat.add_sub_cancel]
  · intro s k hs ih h1 X hX
    obtain ⟨s, rfl⟩ : ∃ q, s = q + 1 := ⟨s - 1, by omega⟩
    obtain ⟨p, hp, ep⟩ := hQ s (by omega)
    obtain ⟨q, hq, eq⟩ := hQ (s + 1) (by omega)
    simp only [f_X8_endOfWalk_L19, h.g456, obs, b1, if_neg (nI_ge hs (show aL A < 2 ^ 31 by omega)), h.g394, h.l49, nI_pred, nI_clamp (show s < 2 ^ 31 by omega), nI_clamp (show s + 1 < 2 ^ 31 by omega), ifn (rinc (show s < 8 by omega) (show 8 < 2 ^ 31 by omega)), ifn (rinc (show s + 1 < 8 by omega) (show 8 < 2 ^ 31 by omega)), b3 s (by omega), b3 (s + 1) (by omega), lts, h.n0, e_X3_pathBetween h.m h.w (show 11 ≤ n by omega), bds]
    rw [ep, eq, e_X8_walk_L73 h (by omega) _ hy _ _ hp hq hX, show aL A - (s + 1) = (aL A - (s + 1 + 1)) + 1 by omega, wlk, show s + 1 - 1 = s by omega, ep, eq]
    by_cases c1 : (mis M (pbt M (nI p) (nI q)) y (cS M) 0 X).1 = true
    · rw [if_pos c1, if_pos c1]
    · rw [if_neg c1, if_neg c1, nI_1]
      exact ih (by omega) _ (mis_lt _ _ _ hX)
end WOP
