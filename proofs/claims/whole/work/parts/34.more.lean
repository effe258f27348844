/-! A bride more -/
/-- the first path, from p on, on which q steps more let one come -/
noncomputable def mor (M : Nat → Int32) (P : Nat → Prop) (o g t : Int32) : Nat → Nat → Int32
  | 0, _ => -1
  | k + 1, p => @ite _ (P p ∧ (rch M (o ||| ((1 : Int32) <<< (nI p &&& 31))) g >>> (t &&& 31)) &&& 1 = 1) (Classical.propDecidable _) (nI p) (mor M P o g t k (p + 1))
theorem lcn_iff {d k n q : Nat} : (∃ t, lcn d k n = some t ∧ t ≤ q) ↔ d ≤ n * (k + q + 1) := by
  constructor
  · rintro ⟨t, e, ht⟩
    by_cases hn : n = 0
    · subst hn
      unfold lcn at e
      by_cases c : d ≤ 0 * (k + 1)
      · omega
      · rw [if_neg c, if_pos rfl] at e; cases e
    · have h1 := (lcn_spec e hn).1
      exact Nat.le_trans h1 (Nat.mul_le_mul_left n (by omega))
  · intro h
    by_cases hn : n = 0
    · subst hn
      refine ⟨0, ?_, Nat.zero_le _⟩
      unfold lcn
      rw [if_pos (by omega)]
    · cases e : lcn d k n with
      | none =>
        unfold lcn at e
        by_cases c : d ≤ n * (k + 1)
        · rw [if_pos c] at e; cases e
        · rw [if_neg c, if_neg hn] at e; cases e
      | some t =>
        refine ⟨t, rfl, ?_⟩
        apply Classical.byContradiction
        intro q2
        exact (lcn_spec e hn).2 q (by omega) h
section MOR
variable {E : EN} {n c : Nat} {S : WS} {x : Nat} {M : Nat → Int32}
theorem op_more (h : Inv E c S x M) (hn : 200 ≤ n) (w t y z : Int32) : OK E c (f_X8_more E n S c w t y z) (fun S1 => f_X9_more E n S1 (c + 129) w t y z) := by
  have hW := h.w.lW
  have hA := h.w.lA
  have hS := h.w.lS
  by_cases c1 : inI w (M 5) ∧ inI t (M 0) ∧ inI y (M 1)
  · obtain ⟨j, hj, rfl⟩ := inI_j h.w.s5 (by omega) c1.1
    obtain ⟨l, a, hl, ha, e1, e2⟩ := h.w.walk hj
    have kk : ∀ v, KP c S (si S 528 (c + 129) v) := fun v => k528
    by_cases c2 : ¬ z < 1 ∧ ¬ 9 < z
    · obtain ⟨q, hq, rfl⟩ : ∃ q : Nat, (1 ≤ q ∧ q ≤ 9) ∧ z = nI q := by
        have h1 := c2.1
        have h2 := c2.2
        have e1 : (1 : Int32).toInt = 1 := by decide
        have e9 : (9 : Int32).toInt = 9 := by decide
        rw [fa_lt] at h1 h2
        obtain ⟨q, hq, rfl⟩ := nI_of (x := z) (by rw [fa_lt, show (0 : Int32).toInt = 0 by decide]; omega)
        rw [nI_toInt hq] at h1 h2
        exact ⟨q, by omega, rfl⟩
      have hin : f_X9_in E n S (nI q).toInt64 (1 : Int64) (9 : Int64) = some (b2i True, S) := by
        rw [show (1 : Int64) = (1 : Int32).toInt64 by decide, show (9 : Int64) = (9 : Int32).toInt64 by decide, e_in32, b2i_c (q := True) ⟨fun _ => trivial, fun _ => c2⟩]
      have hin1 : b2i True = 1 := b2i_t trivial
      by_cases c3 : (rea M j y (-1) >>> (t &&& 31)) &&& 1 = 1
      · refine OK.k (S1 := S) h (v := -1) ?_ KP.rf ?_ (kk (opn M (M (94 + 2 * j)) y (-1) (cA M)))
        · simp only [f_X8_more, e_X8_knowsWay h, bds, ifb1 c1, if_neg c2.1, if_pos ((bnd (9 : Int32) 9 (by decide) rfl).mpr (nI_ge (show q < 10 by omega) (by decide))), e_X8_canCome h (show 11 ≤ n by omega) hj, ifb1 c3]
        · simp only [f_X9_more, e_X9_isAsked h.o h.w, bds, ifb1 c1, hin, ifb1 trivial, e_X9_canCome h.o h.w (show 11 ≤ n by omega) hj, ifb1 c3]
      · have hst2 : ∀ p, stp M (nI p) y (-1) (cS M) ≤ 7 := fun p => by have := stp_le M (nI p) y (-1) (cS M); omega
        have cl : f_X8_more_L61 E n n S c (nI j) t y (nI q) (opn M (nI l) y (-1) (cA M)) 0 = some (mor M (fun p => ∃ d, drp M p = nI d ∧ d ≤ 99 ∧ d ≤ l * (stp M (nI p) y (-1) (cS M) + q + 1)) (opn M (nI l) y (-1) (cA M)) (nI a) t (cA M) 0, S) := by
          refine lp (N := cA M) (P := fun p k => f_X8_more_L61 E n k S c (nI j) t y (nI q) (opn M (nI l) y (-1) (cA M)) (nI p) = some (mor M (fun p => ∃ d, drp M p = nI d ∧ d ≤ 99 ∧ d ≤ l * (stp M (nI p) y (-1) (cS M) + q + 1)) (opn M (nI l) y (-1) (cA M)) (nI a) t (cA M - p) p, S)) ?_ ?_ (cA M) 0 n (by omega) (by omega)
          · intro k
            simp only [f_X8_more_L61, h.n0, obs, h.m.i131, h.w.t2, if_true, Nat.sub_self, mor]
          · intro p k hp ih
            obtain ⟨d, hd, ed⟩ := drp_nat h.w hp
            have hk := hst2 p
            simp only [f_X8_more_L61, h.n0, obs, h.m.i131, h.w.f2 hp, if_false, h.m.g145, h.m.g146, h.m.n11, h.m.n12, nI_clamp (show j < 2 ^ 31 by omega), ifn (rinc (show j < 4 by omega) (show 4 < 2 ^ 31 by omega)), (h.m.hk j hj).1, (h.m.hk j hj).2, e1, e2, e_X3_lackingOn h.m h.w (show 8 ≤ n by omega) hp hd ed hl, e_X3_placesFrom h.m h.w (show 11 ≤ n by omega) _ ha, bds, lts, nI_1]
            rw [show cA M - p = (cA M - (p + 1)) + 1 by omega, mor]
            have hiff := lcn_iff (d := d) (k := stp M (nI p) y (-1) (cS M)) (n := l) (q := q)
            unfold lcI
            cases e : lcn d (stp M (nI p) y (-1) (cS M)) l with
            | none =>
              simp only [if_true]
              rw [if_neg]
              · exact ih
              · rintro ⟨⟨d', ed', hd', q2⟩, -⟩
                rw [ed, nI_eq (by omega) (by omega)] at ed'
                subst ed'
                obtain ⟨t', e', -⟩ := hiff.mpr q2
                rw [e] at e'; cases e'
            | some u =>
              have hu := lcn_le e hd
              simp only []
              rw [if_neg (nIm1 (by omega))]
              by_cases g : q < u
              · rw [if_pos (nI_lt g (by omega)), if_neg]
                · exact ih
                · rintro ⟨⟨d', ed', hd', q2⟩, -⟩
                  rw [ed, nI_eq (by omega) (by omega)] at ed'
                  subst ed'
                  obtain ⟨t', e', ht'⟩ := hiff.mpr q2
                  rw [e] at e'
                  cases e'
                  omega
              · rw [if_neg (nI_nlt (by omega) (by omega))]
                have q2 := hiff.mp ⟨u, e, by omega⟩
                by_cases g2 : (rch M (opn M (nI l) y (-1) (cA M) ||| ((1 : Int32) <<< (nI p &&& 31))) (nI a) >>> (t &&& 31)) &&& 1 = 1
                · rw [if_pos g2, if_pos ⟨⟨d, ed, hd, q2⟩, g2⟩]
                · rw [if_neg g2, if_neg (fun r => g2 r.2)]; exact ih
        have md : ∃ S2, f_X9_more_L47 E n n (si S 528 (c + 129) (opn M (nI l) y (-1) (cA M))) (c + 129) (nI j) t y (nI q) (opn M (nI l) y (-1) (cA M)) 0 = some (mor M (fun p => ∃ d, drp M p = nI d ∧ d ≤ 99 ∧ d ≤ l * (stp M (nI p) y (-1) (cS M) + q + 1)) (opn M (nI l) y (-1) (cA M)) (nI a) t (cA M) 0, S2) ∧ KP c S S2 := by
          refine lp (N := cA M) (P := fun p k => ∀ v, ∃ S2, f_X9_more_L47 E n k (si S 528 (c + 129) v) (c + 129) (nI j) t y (nI q) (opn M (nI l) y (-1) (cA M)) (nI p) = some (mor M (fun p => ∃ d, drp M p = nI d ∧ d ≤ 99 ∧ d ≤ l * (stp M (nI p) y (-1) (cS M) + q + 1)) (opn M (nI l) y (-1) (cA M)) (nI a) t (cA M - p) p, S2) ∧ KP c S S2) ?_ ?_ (cA M) 0 n (by omega) (by omega) _
          · intro k v
            have ho := h.o.si8 (v := v)
            refine ⟨si S 528 (c + 129) v, ?_, kk _⟩
            simp only [f_X9_more_L47, ho.1, obs, ho.2.1, mg2, ho.v2, h.w.t2, if_true, Nat.sub_self, mor]
          · intro p k hp ih v
            obtain ⟨d, hd, ed⟩ := drp_nat h.w hp
            have hk := hst2 p
            have ho := fun v => h.o.si8 (v := v)
            have hlp : lpd (nI d) (stp M (nI p) y (-1) (cS M) + q) = nI ((d + (stp M (nI p) y (-1) (cS M) + q)) / (stp M (nI p) y (-1) (cS M) + q + 1)) := lpd_nat (by omega) (by omega)
            have hdv : (d + (stp M (nI p) y (-1) (cS M) + q)) / (stp M (nI p) y (-1) (cS M) + q + 1) ≤ d + (stp M (nI p) y (-1) (cS M) + q) := Nat.div_le_self _ _
            simp only [f_X9_more_L47, f_X9_more_J96, (ho v).1, obs, (ho v).2.1, mg2, (ho v).v2, h.w.f2 hp, if_false, e_X9_dropOf (ho v) h.w hp, e_X9_stepsOf (ho v) h.w (show 8 ≤ n by omega), bds, nI_add, ed, e_X9_leapBy (d := nI d) (show stp M (nI p) y (-1) (cS M) + q < 2 ^ 30 by omega), e_X9_leapOf (ho v) (show j < 4 by omega), e1, hlp, lts, si_si, e_X9_homeOf (ho _) (show j < 4 by omega), e2, e_X9_reachFrom (ho _) h.w (show 11 ≤ n by omega) ha, gi_si_eq, nI_1, Int32.or_zero]
            rw [show cA M - p = (cA M - (p + 1)) + 1 by omega, mor]
            by_cases g : d ≤ l * (stp M (nI p) y (-1) (cS M) + q + 1)
            · rw [if_neg (nI_nlt (leap_le.mpr g) (by omega))]
              by_cases g2 : (rch M (opn M (nI l) y (-1) (cA M) ||| ((1 : Int32) <<< (nI p &&& 31))) (nI a) >>> (t &&& 31)) &&& 1 = 1
              · rw [if_pos g2, if_pos ⟨⟨d, ed, hd, g⟩, g2⟩]
                exact ⟨_, rfl, kk _⟩
              · rw [if_neg g2, if_neg (fun r => g2 r.2)]; exact ih _
            · have g3 : ¬ (d + (stp M (nI p) y (-1) (cS M) + q)) / (stp M (nI p) y (-1) (cS M) + q + 1) ≤ l := fun r => g (leap_le.mp r)
              have c4 : ¬ (rch M (opn M (nI l) y (-1) (cA M)) (nI a) >>> (t &&& 31)) &&& 1 = 1 := by
                intro r
                rw [rea, e1, e2] at c3
                exact c3 r
              rw [if_pos (nI_lt (by omega) (by omega)), if_neg c4, if_neg]
              · exact ih _
              · rintro ⟨⟨d', ed', hd', q2⟩, -⟩
                rw [ed, nI_eq (by omega) (by omega)] at ed'
                subst ed'
                exact g q2
        obtain ⟨S2, md, k2⟩ := md
        refine OK.k (S1 := S) (S2 := S2) h (v := mor M (fun p => ∃ d, drp M p = nI d ∧ d ≤ 99 ∧ d ≤ l * (stp M (nI p) y (-1) (cS M) + q + 1)) (opn M (nI l) y (-1) (cA M)) (nI a) t (cA M) 0) ?_ KP.rf ?_ k2
        · simp only [f_X8_more, e_X8_knowsWay h, bds, ifb1 c1, if_neg c2.1, if_pos ((bnd (9 : Int32) 9 (by decide) rfl).mpr (nI_ge (show q < 10 by omega) (by decide))), e_X8_canCome h (show 11 ≤ n by omega) hj, ifb0 c3, h.n0, obs, h.m.g145, h.m.n11, nI_clamp (show j < 2 ^ 31 by omega), ifn (rinc (show j < 4 by omega) (show 4 < 2 ^ 31 by omega)), (h.m.hk j hj).1, e1, e_X3_openPaths h.m h.w (show 11 ≤ n by omega)]
          exact cl
        · simp only [f_X9_more, e_X9_isAsked h.o h.w, bds, ifb1 c1, hin, ifb1 trivial, e_X9_canCome h.o h.w (show 11 ≤ n by omega) hj, ifb0 c3, lts, gi_si_eq, e1]
          exact md
    · have hin : f_X9_in E n S z.toInt64 (1 : Int64) (9 : Int64) = some (b2i False, S) := by
        rw [show (1 : Int64) = (1 : Int32).toInt64 by decide, show (9 : Int64) = (9 : Int32).toInt64 by decide, e_in32, b2i_c (q := False) ⟨fun q => c2 q, fun q => q.elim⟩]
      refine OK.r h (v := -2) ?_ (by simp only [f_X9_more, e_X9_isAsked h.o h.w, bds, ifb1 c1, hin, ifb0 not_false])
      simp only [f_X8_more, e_X8_knowsWay h, bds, ifb1 c1]
      by_cases c4 : z < 1
      · rw [if_pos c4]
      · rw [if_neg c4, if_neg]
        intro q
        refine c2 ⟨c4, fun r => ?_⟩
        exact (fa_of_lt r).2.1 q
  · exact OK.r h (v := -2) (by simp only [f_X8_more, e_X8_knowsWay h, bds, ifb0 c1]) (by simp only [f_X9_more, e_X9_isAsked h.o h.w, bds, ifb0 c1])
end MOR
