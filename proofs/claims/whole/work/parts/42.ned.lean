/-! The least leap: need -/
theorem opn_nat {M : Nat → Int32} (l y lo : Int32) : ∀ k, k ≤ 30 → ∃ w, w < 2 ^ k ∧ opn M l y lo k = nI w ∧ ∀ p, p < k → (w.testBit p = true ↔ ¬ l < lpv M p y lo) := by
  intro k
  induction k with
  | zero => intro _; exact ⟨0, by decide, rfl, fun p hp => by omega⟩
  | succ k ih =>
    intro hk
    obtain ⟨w, a, b, d⟩ := ih (by omega)
    have hp2 : 2 ^ (k + 1) = 2 * 2 ^ k := by rw [Nat.pow_succ]; omega
    have hlt : ∀ p, k ≤ p → w.testBit p = false := fun p hp => Nat.testBit_lt_two_pow (Nat.lt_of_lt_of_le a (Nat.pow_le_pow_right (by decide) hp))
    rw [opn]
    by_cases c : l < lpv M k y lo
    · rw [if_pos c]
      refine ⟨w, by omega, b, fun p hp => ?_⟩
      by_cases e : p = k
      · subst e
        rw [hlt p (Nat.le_refl _)]
        exact ⟨fun q => (by cases q), fun q => absurd c q⟩
      · exact d p (by omega)
    · rw [if_neg c, b, shl1 k (by omega), fa_or]
      refine ⟨w ||| 2 ^ k, Nat.or_lt_two_pow (by omega) (by omega), rfl, fun p hp => ?_⟩
      rw [fb_bit_set, Bool.or_eq_true, decide_eq_true_eq]
      by_cases e : p = k
      · subst e
        exact ⟨fun _ => c, fun _ => Or.inr rfl⟩
      · rw [d p (by omega)]
        exact ⟨fun q => q.elim id (fun q => absurd q e), fun q => Or.inl q⟩
theorem lpv_nat {M : Nat → Int32} (hw : WF M) {p : Nat} (hp : p < cA M) (y : Int32) : ∃ k, k ≤ 99 ∧ lpv M p y (-1) = nI k := by
  obtain ⟨d, hd, ed⟩ := drp_nat hw hp
  have h7 := stp_le M (nI p) y (-1) (cS M)
  have hS := hw.lS
  refine ⟨_, ?_, by rw [lpv, ed, lpd_nat (by omega) (by omega)]⟩
  exact leap_le.mpr (by omega)
abbrev ndp (M : Nat → Int32) (y : Int32) (p : Nat) : Option Nat := some (lpv M p y (-1)).toNatClampNeg
/-- those whose cost is no more than so much, as bits -/
def SB (M : Nat → Int32) (f : Nat → Nat) (m v : Nat) : Prop := v < 2 ^ cP M ∧ ∀ i, i < cP M → (v.testBit i = true ↔ f i ≤ m)
theorem min_le' {a b m : Nat} : min a b ≤ m ↔ a ≤ m ∨ b ≤ m := by
  rcases Nat.le_total a b with h | h
  · rw [Nat.min_eq_left h]; omega
  · rw [Nat.min_eq_right h]; omega
theorem two_bits {v a b : Nat} : v &&& (2 ^ a ||| 2 ^ b) = 0 ↔ v.testBit a = false ∧ v.testBit b = false := by
  have e : ∀ i, (2 ^ a ||| 2 ^ b).testBit i = true ↔ i = a ∨ i = b := by
    intro i
    rw [fb_bit_set, Bool.or_eq_true, decide_eq_true_eq, Nat.testBit_two_pow, decide_eq_true_eq]
    exact ⟨fun q => q.imp (fun q => q.symm) id, fun q => q.imp (fun q => q.symm) id⟩
  constructor
  · intro h
    have key : ∀ i, (i = a ∨ i = b) → v.testBit i = false := by
      intro i hi
      have h1 : (v &&& (2 ^ a ||| 2 ^ b)).testBit i = false := by rw [h, Nat.zero_testBit]
      rw [Nat.testBit_and, (e i).mpr hi, Bool.and_true] at h1
      exact h1
    exact ⟨key a (Or.inl rfl), key b (Or.inr rfl)⟩
  · rintro ⟨h1, h2⟩
    apply Nat.eq_of_testBit_eq
    intro i
    rw [Nat.testBit_and, Nat.zero_testBit]
    by_cases hi : i = a ∨ i = b
    · rcases hi with rfl | rfl
      · rw [h1, Bool.false_and]
      · rw [h2, Bool.false_and]
    · have : (2 ^ a ||| 2 ^ b).testBit i = false := by
        cases q : (2 ^ a ||| 2 ^ b).testBit i
        · rfl
        · exact absurd ((e i).mp q) hi
      rw [this, Bool.and_false]
theorem rnd_SB {M : Nat → Int32} (hw : WF M) {y : Int32} {m : Nat} (hm : m ≤ 99) {f : Nat → Nat} {v : Nat} (hv : SB M f m v) : ∀ p, p ≤ cA M → ∃ u, rnd M (opn M (nI m) y (-1) (cA M)) (nI v) p = nI u ∧ SB M (rlo M (opx 0) (ndp M y) f p) m u := by
  have hP := hw.lP
  have hA := hw.lA
  have h2P : 2 ^ cP M ≤ 2 ^ 8 := Nat.pow_le_pow_right (by decide) hP
  obtain ⟨o, o1, o2, o3⟩ := opn_nat (M := M) (nI m) y (-1) (cA M) (by omega)
  have h2A : 2 ^ cA M ≤ 2 ^ 10 := Nat.pow_le_pow_right (by decide) hA
  intro p
  induction p with
  | zero => intro _; exact ⟨v, rfl, hv⟩
  | succ p ih =>
    intro hp
    obtain ⟨u, u1, u2, u3⟩ := ih (by omega)
    obtain ⟨a, b, ha, hb, hab, ea, eb, e0, e1⟩ := hw.pth (show p < cA M by omega)
    obtain ⟨k, hk, ek⟩ := lpv_nat hw (show p < cA M by omega) y
    have eE : ends M p = nI (2 ^ a ||| 2 ^ b) := by rw [ends, ea, eb, shl1 a (by omega), shl1 b (by omega), fa_or]
    have hE : 2 ^ a ||| 2 ^ b < 2 ^ cP M := Nat.or_lt_two_pow (Nat.pow_lt_pow_right (by decide) ha) (Nat.pow_lt_pow_right (by decide) hb)
    have ob := (bitI (v := o) (j := p) (by omega) (by omega)).trans (o3 p (by omega))
    rw [ek, nI_ltI (by omega) (by omega)] at ob
    have hrl : ∀ i, i < cP M → (rlo M (opx 0) (ndp M y) f (p + 1) i ≤ m ↔ if i = a then (rlo M (opx 0) (ndp M y) f p a ≤ m ∨ (rlo M (opx 0) (ndp M y) f p b ≤ m ∧ k ≤ m)) else if i = b then (rlo M (opx 0) (ndp M y) f p b ≤ m ∨ (rlo M (opx 0) (ndp M y) f p a ≤ m ∧ k ≤ m)) else rlo M (opx 0) (ndp M y) f p i ≤ m) := by
      intro i hi
      rw [rlo]
      simp only [ndp, ek, nI_clamp (show k < 2 ^ 31 by omega), rlx, e0, e1, opx, if_true]
      by_cases c1 : i = a
      · rw [if_pos c1, if_pos c1, min_le', Nat.max_le]
      · rw [if_neg c1, if_neg c1]
        by_cases c2 : i = b
        · rw [if_pos c2, if_pos c2, min_le', Nat.max_le]
        · rw [if_neg c2, if_neg c2]
    rw [o2] at u1
    rw [rnd, o2, u1, eE]
    by_cases c : m < k
    · rw [if_neg (fun q => (ob.mp q) c)]
      refine ⟨u, rfl, u2, fun i hi => ?_⟩
      rw [hrl i hi]
      by_cases c1 : i = a
      · subst c1; rw [if_pos rfl, u3 i hi]; omega
      · rw [if_neg c1]
        by_cases c2 : i = b
        · subst c2; rw [if_pos rfl, u3 i hi]; omega
        · rw [if_neg c2]; exact u3 i hi
    · rw [if_pos (ob.mpr c), fa_and, fa_or]
      have hz : nI (u &&& (2 ^ a ||| 2 ^ b)) = 0 ↔ u.testBit a = false ∧ u.testBit b = false := by
        rw [← two_bits, show (0 : Int32) = nI 0 from rfl, nI_eq (Nat.lt_of_le_of_lt Nat.and_le_left (by omega)) (by decide)]
      by_cases d : u.testBit a = false ∧ u.testBit b = false
      · rw [if_pos (hz.mpr d)]
        have na : ¬ rlo M (opx 0) (ndp M y) f p a ≤ m := fun q => by have := (u3 a ha).mpr q; rw [d.1] at this; cases this
        have nb : ¬ rlo M (opx 0) (ndp M y) f p b ≤ m := fun q => by have := (u3 b hb).mpr q; rw [d.2] at this; cases this
        refine ⟨u, rfl, u2, fun i hi => ?_⟩
        rw [hrl i hi, u3 i hi]
        by_cases c1 : i = a
        · subst c1; rw [if_pos rfl]; omega
        · rw [if_neg c1]
          by_cases c2 : i = b
          · subst c2; rw [if_pos rfl]; omega
          · rw [if_neg c2]
      · rw [if_neg (fun q => d (hz.mp q))]
        have nab : rlo M (opx 0) (ndp M y) f p a ≤ m ∨ rlo M (opx 0) (ndp M y) f p b ≤ m := by
          apply Classical.byContradiction
          intro q
          refine d ⟨?_, ?_⟩
          · cases z : u.testBit a
            · rfl
            · exact absurd (Or.inl ((u3 a ha).mp z)) q
          · cases z : u.testBit b
            · rfl
            · exact absurd (Or.inr ((u3 b hb).mp z)) q
        refine ⟨u ||| (2 ^ a ||| 2 ^ b), rfl, Nat.or_lt_two_pow u2 hE, fun i hi => ?_⟩
        have ebit : (u ||| (2 ^ a ||| 2 ^ b)).testBit i = true ↔ rlo M (opx 0) (ndp M y) f p i ≤ m ∨ i = a ∨ i = b := by
          rw [Nat.testBit_or, Bool.or_eq_true, u3 i hi, fb_bit_set, Bool.or_eq_true, decide_eq_true_eq, Nat.testBit_two_pow, decide_eq_true_eq]
          exact ⟨fun q => q.imp id (fun q => q.imp (fun q => q.symm) id), fun q => q.imp id (fun q => q.imp (fun q => q.symm) id)⟩
        rw [ebit, hrl i hi]
        by_cases c1 : i = a
        · subst c1; rw [if_pos rfl]; omega
        · rw [if_neg c1]
          by_cases c2 : i = b
          · subst c2; rw [if_pos rfl]; omega
          · rw [if_neg c2]; omega
theorem itr_SB {M : Nat → Int32} (hw : WF M) {y : Int32} {m s : Nat} (hm : m ≤ 99) (hs : s < cP M) : ∀ k, ∃ u, itr M (opn M (nI m) y (-1) (cA M)) ((1 : Int32) <<< (nI s &&& 31)) k = nI u ∧ SB M (rls M (opx 0) (ndp M y) (f00 s) k) m u := by
  have hP := hw.lP
  intro k
  induction k with
  | zero =>
    refine ⟨2 ^ s, shl1 s (by omega), Nat.pow_lt_pow_right (by decide) hs, fun i hi => ?_⟩
    rw [rls, f00, Nat.testBit_two_pow, decide_eq_true_eq]
    by_cases e : i = s
    · rw [if_pos e]; exact ⟨fun _ => Nat.zero_le _, fun _ => e.symm⟩
    · rw [if_neg e]; exact ⟨fun q => absurd q.symm e, fun q => by omega⟩
  | succ k ih =>
    obtain ⟨u, u1, u2⟩ := ih
    obtain ⟨w, w1, w2⟩ := rnd_SB hw (y := y) hm u2 (cA M) (Nat.le_refl _)
    exact ⟨w, by rw [itr, u1]; exact w1, w2⟩
theorem rls_ok {M : Nat → Int32} (hw : WF M) {y : Int32} {s : Nat} (k : Nat) : ∀ i, i < 8 → rls M (opx 0) (ndp M y) (f00 s) k i ≤ 99 ∨ rls M (opx 0) (ndp M y) (f00 s) k i = 1000000 := by
  have hP := hw.lP
  induction k with
  | zero =>
    intro i hi
    rw [rls, f00]
    by_cases e : i = s
    · rw [if_pos e]; exact Or.inl (by omega)
    · rw [if_neg e]; exact Or.inr rfl
  | succ k ih =>
    have key : ∀ p, p ≤ cA M → ∀ i, i < 8 → rlo M (opx 0) (ndp M y) (rls M (opx 0) (ndp M y) (f00 s) k) p i ≤ 99 ∨ rlo M (opx 0) (ndp M y) (rls M (opx 0) (ndp M y) (f00 s) k) p i = 1000000 := by
      intro p
      induction p with
      | zero => intro _; exact ih
      | succ p ihp =>
        intro hp i hi
        have ihp := ihp (by omega)
        obtain ⟨a, b, ha, hb, hab, ea, eb, e0, e1⟩ := hw.pth (show p < cA M by omega)
        obtain ⟨q, hq, eq⟩ := lpv_nat hw (show p < cA M by omega) y
        have i1 := ihp a (by omega)
        have i2 := ihp b (by omega)
        have i3 := ihp i hi
        rw [rlo]
        simp only [ndp, eq, nI_clamp (show q < 2 ^ 31 by omega), rlx, e0, e1, opx, if_true]
        by_cases c1 : i = a
        · rw [if_pos c1]; simp only [Nat.min_def, Nat.max_def]; split <;> split <;> omega
        · rw [if_neg c1]
          by_cases c2 : i = b
          · rw [if_pos c2]; simp only [Nat.min_def, Nat.max_def]; split <;> split <;> omega
          · rw [if_neg c2]; exact i3
    exact key (cA M) (Nat.le_refl _)
section NED
variable {E : EN} {n c : Nat} {S : WS} {x : Nat} {M : Nat → Int32}
theorem op_need (h : Inv E c S x M) (hn : 200 ≤ n) (a b y : Int32) : OK E c (f_X8_need E n S c a b y) (fun S1 => f_X9_need E n S1 (c + 129) a b y) := by
  have hP := h.w.lP
  have hA := h.w.lA
  by_cases c1 : inI a (M 0)
  · by_cases c2 : inI b (M 0)
    · by_cases c3 : inI y (M 1)
      · obtain ⟨a, ha, rfl⟩ := inI_j h.w.s0 (by omega) c1
        obtain ⟨b, hb, rfl⟩ := inI_j h.w.s0 (by omega) c2
        have ok := rls_ok h.w (y := y) (s := a) (cP M) b (by omega)
        obtain ⟨F, hF⟩ : ∃ F, F = rls M (opx 0) (ndp M y) (f00 a) (cP M) b := ⟨_, rfl⟩
        rw [← hF] at ok
        have cl : ∃ S1, f_X8_need_L39 E n n S c (nI a) (nI b) y 0 = some (if 1000000 ≤ F then -1 else nI F, S1) ∧ KP c S S1 := by
          refine lp (N := cA M) (P := fun s k => ∀ S, Inv E c S x M → (∀ p, p < s → ai S (c + 81) p = pri (ndp M y p)) → ∃ S1, f_X8_need_L39 E n k S c (nI a) (nI b) y (nI s) = some (if 1000000 ≤ F then -1 else nI F, S1) ∧ KP c S S1) ?_ ?_ (cA M) 0 n (by omega) (by omega) S h (fun p hp => by omega)
          · intro k S h hq
            obtain ⟨S1, f1, f2⟩ := e_X8_cheapest (n := n) (pr := ndp M y) (by omega) ha hb 0 h (fun p hp => ⟨hq p hp, fun w hw => by
              obtain ⟨q, hq, eq⟩ := lpv_nat h.w hp y
              rw [ndp, eq, nI_clamp (by omega)] at hw
              cases hw; omega⟩)
            rw [← hF] at f1
            refine ⟨S1, ?_, f2⟩
            simp only [f_X8_need_L39, h.n0, obs, h.m.i131, h.w.t2, if_true, f1, bds]
          · intro s k hs ih S h hq
            obtain ⟨q, hq1, eq⟩ := lpv_nat h.w hs y
            simp only [f_X8_need_L39, h.n0, obs, h.m.i131, h.w.f2 hs, if_false, h.g462, h.l81, e_X3_leapOf h.m h.w (show 8 ≤ n by omega) hs, bds, nI_clamp (show s < 2 ^ 31 by omega), ifn (rinc (show s < 10 by omega) (show 10 < 2 ^ 31 by omega)), lts, nI_1]
            have kk : KP c S (wi S (c + 81) (upd (ai S (c + 81)) s (lpv M s y (-1)))) := KP.wi (by unfold ka; omega)
            obtain ⟨S1, f1, f2⟩ := ih (wi S (c + 81) (upd (ai S (c + 81)) s (lpv M s y (-1)))) (h.kp kk) (fun p hp => by
              rw [ai_wi]
              by_cases e : p = s
              · subst e
                rw [pk_us, ndp, pri, eq, nI_clamp (by omega)]
              · rw [pk_un e]; exact hq p (by omega))
            exact ⟨S1, f1, kk.tr f2⟩
        have md : ∀ S, Inv E c S x M → ∃ S1, f_X9_need_L31 E n n S (c + 129) (nI a) (nI b) y 0 = some (if 1000000 ≤ F then -1 else nI F, S1) ∧ KP c S S1 := by
          intro S h
          refine lp (N := 100) (P := fun s k => ∀ S, Inv E c S x M → s ≤ F → ∃ S1, f_X9_need_L31 E n k S (c + 129) (nI a) (nI b) y (nI s) = some (if 1000000 ≤ F then -1 else nI F, S1) ∧ KP c S S1) ?_ ?_ 100 0 n (by omega) (by omega) S h (Nat.zero_le _)
          · intro k S h hF
            refine ⟨S, ?_, KP.rf⟩
            simp only [f_X9_need_L31]
            rw [if_pos (show (100 : Int32) ≤ nI 100 by decide), if_pos (show 1000000 ≤ F by omega)]
          · intro s k hs ih S h hsF
            have kk := k528 (c := c) (S := S) (v := opn M (nI s) y (-1) (cA M))
            obtain ⟨u, u1, u2, u3⟩ := itr_SB h.w (y := y) (m := s) (s := a) (by omega) ha (cP M)
            rw [rch_ge h.w ha] at u1
            have h2P : 2 ^ cP M ≤ 2 ^ 8 := Nat.pow_le_pow_right (by decide) hP
            have hbit := (bitI (v := u) (j := b) (by omega) (by omega)).trans (u3 b hb)
            rw [← hF] at hbit
            simp only [f_X9_need_L31, e_X9_opens h.o h.w (show 11 ≤ n by omega), bds, e_X9_reachFrom h.o.si8 h.w (show 11 ≤ n by omega) ha, gi_si_eq, u1, lts, nI_1]
            rw [if_neg (show ¬ (100 : Int32) ≤ nI s from nI_ge (b := 100) (by omega) (by decide))]
            by_cases d : F ≤ s
            · rw [if_pos (hbit.mpr d), if_neg (by omega), show F = s by omega]
              exact ⟨_, rfl, kk⟩
            · rw [if_neg (fun q => d (hbit.mp q))]
              obtain ⟨S1, f1, f2⟩ := ih _ (h.kp kk) (by omega)
              exact ⟨S1, f1, kk.tr f2⟩
        obtain ⟨S1, f1, f2⟩ := cl
        obtain ⟨S2, g1, g2⟩ := md S1 (h.kp f2)
        refine OK.k h ?_ f2 ?_ g2 (v := if 1000000 ≤ F then -1 else nI F)
        · simp only [f_X8_need, h.n0, obs, e_X3_hasPlace h.m, e_X3_hasYear h.m, bds, ifb1 c1, ifb1 c2, ifb1 c3]
          exact f1
        · simp only [f_X9_need, e_X9_isPlace (h.kp f2).o h.w, e_X9_isYear (h.kp f2).o h.w, bds, ifb1 c1, ifb1 c2, ifb1 c3]
          exact g1
      · exact OK.r h (v := -2) (by simp only [f_X8_need, h.n0, obs, e_X3_hasPlace h.m, e_X3_hasYear h.m, bds, ifb1 c1, ifb1 c2, ifb0 c3]) (by simp only [f_X9_need, e_X9_isPlace h.o h.w, e_X9_isYear h.o h.w, bds, ifb1 c1, ifb1 c2, ifb0 c3])
    · exact OK.r h (v := -2) (by simp only [f_X8_need, h.n0, obs, e_X3_hasPlace h.m, e_X3_hasYear h.m, bds, ifb1 c1, ifb0 c2]) (by simp only [f_X9_need, e_X9_isPlace h.o h.w, e_X9_isYear h.o h.w, bds, ifb1 c1, ifb0 c2])
  · exact OK.r h (v := -2) (by simp only [f_X8_need, h.n0, obs, e_X3_hasPlace h.m, bds, ifb0 c1]) (by simp only [f_X9_need, e_X9_isPlace h.o h.w, bds, ifb0 c1])
end NED
