/-! mountain -/
section MTO
variable {E : EN} {n c : Nat} {S S2 : WS} {x : Nat} {M : Nat → Int32}
/-- what the call changes, and that between calls all is well again -/
theorem mt_inv {x' : Nat} {M' : Nat → Int32} (h : Inv E c S x M) {a : Nat} (ha : a = c + (21 - x)) (F1 : ∀ f q, ¬ (q = c + 2 ∧ f = 192) → ¬ (q = c ∧ (f = 451 ∨ f = 452)) → gr S2 f q = gr S f q) (F2 : ∀ q, ar S2 q = ar S q) (F3 : ∀ f q, ¬ (q = c ∧ f = 449) → ¬ (q = c + 2 ∧ 193 ≤ f ∧ f ≤ 199) → ¬ (q = a ∧ 128 ≤ f ∧ f ≤ 134) → ¬ (q = c + 129 ∧ (f = 517 ∨ (519 ≤ f ∧ f ≤ 525))) → gi S2 f q = gi S f q) (F4 : ∀ q, (q ≤ a ∨ a + 12 < q) → q ≠ c + 135 → q ≠ c + 130 → ai S2 q = ai S q) (F5 : ∀ q, aj S2 q = aj S q) (hN : NOW c S2 x') (hw : WF M') (hm : RMt E S2 (c + x') M') (ho : ∀ i, i < 109 → ai S2 (c + 130) i = M' i) (t1 : gi S2 449 c = 0) (t2 : gi S2 517 (c + 129) = 0) (hf : FLT c S2) : Inv E c S2 x' M' := by
  have hx := h.hx
  refine h.re (fun f q h1 h2 h3 h4 h5 => F1 f q (by omega) (by omega)) F2 hN hw hm ⟨(F1 _ _ (by omega) (by omega)).trans h.o.1, h.o.2.1, ho, (F3 _ _ (by omega) (by omega) (by omega) (by omega)).trans h.o.2.2.2⟩ ⟨⟨0, by omega, t1, t2⟩, ?_⟩ hf (fun k hk => ?_) (fun k hk => ?_)
  · rw [F4 (c + 1) (by omega) (by omega) (by omega), F4 (c + 133) (by omega) (by omega) (by omega)]; exact h.t.2
  · refine (h.i k hk).fr (fun f => ?_) (fun f h1 h2 => F3 _ _ (by omega) (by omega) (by omega) (by omega)) (fun j h1 h2 => F4 _ (by omega) (by omega) (by omega)) (by rw [F4 _ (by omega) (by omega) (by omega)]) (by rw [F4 _ (by omega) (by omega) (by omega)]) (fun i hi => by rw [F4 _ (by omega) (by omega) (by omega)])
    exact F1 _ _ (by omega) (by omega)
  · exact (h.sl k hk).fr (F3 _ _ (by omega) (by omega) (by omega) (by omega)) (F3 _ _ (by omega) (by omega) (by omega) (by omega)) (by rw [F4 _ (by omega) (by omega) (by omega)]) (by rw [F4 _ (by omega) (by omega) (by omega)]) (fun i hi => by rw [F5]) (fun i hi => by rw [F5])
theorem op_mountain (h : Inv E c S x M) (hn : 2000 ≤ n) : OK E c (f_X8_mountain E n S c) (fun S1 => f_X9_mountain E n S1 (c + 129)) := by
  have hx := h.hx
  obtain ⟨⟨t, ht, e449, e517⟩, rows⟩ := h.t
  have e449 : gi S 449 c = nI t := e449
  obtain ⟨Sc, b1, b2, b3, b4, b5, b6, b7, b8⟩ := c_begin (n := n) h hn ht e449
  obtain ⟨a, ha⟩ : ∃ a, a = c + (21 - x) := ⟨_, rfl⟩
  rw [← ha] at b1 b2 b5 b6
  have ha' : a = c + 4 ∨ a = c + 17 := by omega
  have l133 : eN E (c + 133) = 1400 := h.L.at 133 1400 (by decide) (by decide)
  have l135 : eN E (c + 135) = 109 := h.L.at 135 109 (by decide) (by decide)
  have l130 : eN E (c + 130) = 109 := h.L.at 130 109 (by decide) (by decide)
  have z00 : R00 6 = nI 0 := if_pos (by decide)
  have p00 : cP R00 = 0 := by show (R00 0).toNatClampNeg = 0; rw [show R00 0 = 0 from if_pos (by decide)]; decide
  have mrun : ∀ Sm, gr Sm 516 (c + 129) = some (c + 133) → (∀ i, i < 1400 → ai Sm (c + 133) i = ai S (c + 1) i ∧ byt (ai S (c + 1) i)) → gi Sm 517 (c + 129) = nI t → gr Sm 526 (c + 129) = some (c + 135) → _ := fun Sm g1 g2 g3 g4 => m_begin (n := n) (b := ai S (c + 1)) hn ht g1 l133 g2 g3 g4 l135
  have r0 : ∀ i, i < 1400 → ai S (c + 133) i = ai S (c + 1) i ∧ byt (ai S (c + 1) i) := fun i hi => ⟨(rows i hi).1.symm, (rows i hi).2⟩
  have g451 : gr S 451 c = some (c + x) := h.n0
  have g452 : gr S 452 c = some (c + (21 - x)) := h.2.2.1.2.2
  have g450 : gr S 450 c = some (c + 2) := h.s.g 450 0 2 (by decide)
  have g448 : gr S 448 c = some (c + 1) := h.s.g 448 0 1 (by decide)
  have cst : ∀ v S', f_X4_readWhole_L41 E n n Sc (c + 2) a 0 = some (v, S') → f_X8_mountain E n S c = if v = 0 then some ((-4 : Int32), S') else (gr S' 451 c).bind fun b8 => (gr S' 452 c).bind fun b9 => lt (sr S' 451 c (some b9)) fun S10 => lt (sr S10 452 c (some b8)) fun S11 => (gr S11 451 c).bind fun b12 => some ((gi S11 128 b12), S11) := by
    intro v S' e
    have q1 : gr (si S 449 c 0) 450 c = some (c + 2) := g450
    have q2 : gr (si S 449 c 0) 448 c = some (c + 1) := g448
    have q3 : gr (si S 449 c 0) 452 c = some a := by rw [ha]; exact g452
    simp only [f_X8_mountain, e449, lts, q1, q2, q3, obs]
    rw [b1, e, bds]
  obtain ⟨Sm1, m1, m2, m3, m4, m5, m6, m7, m8⟩ := mrun S (h.s.g 516 129 133 (by decide)) r0 e517 (h.s.g 526 129 135 (by decide))
  have first := run_all (n := n) ha' (by omega) (t - 0) 0 0 R00 Sc Sm1 rfl b2 m2 R00_wf z00 (Nat.le_refl _) (Or.inl ⟨rfl, p00, fun s hs => if_neg (by omega)⟩) n n (by omega) (by omega)
  -- the class's end, whatever it is, and then the model from there
  have fin : ∀ v S', f_X4_readWhole_L41 E n n Sc (c + 2) a 0 = some (v, S') → FC c a Sc S' → ∀ S1, (∀ f q, ¬ (q = c ∧ (f = 451 ∨ f = 452)) → gr S1 f q = gr S' f q) → (∀ q, ar S1 q = ar S' q) → (∀ f q, gi S1 f q = gi S' f q) → (∀ q, ai S1 q = ai S' q) → (∀ q, aj S1 q = aj S' q) → ∃ Sm1, f_X9_mountain E n S1 (c + 129) = f_X9_mountain_L63 E n n Sm1 (c + 129) ∧ RM E c (ai S (c + 1)) t 0 R00 Sm1 ∧ (∀ f q, ¬ (q = c + 2 ∧ f = 192) → ¬ (q = c ∧ (f = 451 ∨ f = 452)) → gr Sm1 f q = gr S f q) ∧ (∀ q, ar Sm1 q = ar S q) ∧ (∀ f q, ¬ (q = c ∧ f = 449) → ¬ (q = c + 2 ∧ 193 ≤ f ∧ f ≤ 199) → ¬ (q = a ∧ 128 ≤ f ∧ f ≤ 134) → ¬ (q = c + 129 ∧ (f = 517 ∨ (519 ≤ f ∧ f ≤ 525))) → gi Sm1 f q = gi S f q) ∧ (∀ q, (q ≤ a ∨ a + 12 < q) → q ≠ c + 135 → ai Sm1 q = ai S q) ∧ (∀ q, aj Sm1 q = aj S q) ∧ gi Sm1 449 c = 0 ∧ gi Sm1 517 (c + 129) = 0 ∧ (∀ f q, gr Sm1 f q = gr S1 f q) ∧ (∀ f q, q ≠ c + 129 → gi Sm1 f q = gi S' f q) ∧ ∀ q, q ≠ c + 135 → ai Sm1 q = ai S' q := by
    intro v S' e k S1 k1 k2 k3 k4 k5
    have G : ∀ f q, ¬ (q = c + 2 ∧ f = 192) → ¬ (q = c ∧ (f = 451 ∨ f = 452)) → gr S1 f q = gr S f q := fun f q h1 h2 => (k1 f q h2).trans ((k.1 f q).trans (b3 f q h1))
    have A : ∀ q, (q ≤ a ∨ a + 12 < q) → ai S1 q = ai S q := fun q hq => (k4 q).trans ((k.2.2.2.1 q hq).trans (b6 q hq))
    have I : ∀ f q, ¬ (q = c ∧ f = 449) → ¬ (q = c + 2 ∧ 193 ≤ f ∧ f ≤ 199) → ¬ (q = a ∧ 128 ≤ f ∧ f ≤ 134) → gi S1 f q = gi S f q := fun f q h1 h2 h3 => (k3 f q).trans ((k.2.2.1 f q h2 h3).trans (b5 f q h1 h2 h3))
    obtain ⟨Sm1, m1, m2, m3, m4, m5, m6, m7, m8⟩ := mrun S1 ((G _ _ (by omega) (by omega)).trans (h.s.g 516 129 133 (by decide))) (fun i hi => by rw [A (c + 133) (by omega)]; exact r0 i hi) ((I _ _ (by omega) (by omega) (by omega)).trans e517) ((G _ _ (by omega) (by omega)).trans (h.s.g 526 129 135 (by decide)))
    refine ⟨Sm1, m1, m2, fun f q h1 h2 => (m3 f q).trans (G f q h1 h2), fun q => (m4 q).trans ((k2 q).trans ((k.2.1 q).trans (b4 q))), fun f q h1 h2 h3 h4 => (m5 f q h4).trans (I f q h1 h2 h3), fun q h1 h2 => (m6 q h2).trans (A q h1), fun q => (m7 q).trans ((k5 q).trans ((k.2.2.2.2 q).trans (b7 q))), ?_, m8, m3, fun f q hq => (m5 f q (by omega)).trans (k3 f q), fun q hq => (m6 q hq).trans (k4 q)⟩
    rw [m5 _ _ (by omega), k3, k.2.2.1 _ _ (by omega) (by omega)]; exact b8
  rcases first with ⟨q', R', Sc', Sm', s1, s2, -⟩ | ⟨k', p, Sc', Sm', s1, s2, -⟩
  · have e451 : gr Sc' 451 c = some (c + x) := (s2.1 _ _).trans ((b3 _ _ (by omega)).trans g451)
    have e452 : gr Sc' 452 c = some a := by rw [ha]; exact (s2.1 _ _).trans ((b3 _ _ (by omega)).trans g452)
    obtain ⟨S1, hS1⟩ : ∃ S1, S1 = sr (sr Sc' 451 c (some a)) 452 c (some (c + x)) := ⟨_, rfl⟩
    have f451 : gr S1 451 c = some a := by rw [hS1, gr_sr_f (by decide)]; exact gr_sr_eq
    have f452 : gr S1 452 c = some (c + x) := by rw [hS1]; exact gr_sr_eq
    obtain ⟨Sm1, m1, m2, m3, m4, m5, m6, m7, m8, m9, m10, m11, m12⟩ := fin 1 Sc' s1 s2 S1 (fun f q hq => by
      rw [hS1]
      by_cases e : q = c
      · rw [gr_sr_f (by omega), gr_sr_f (by omega)]
      · rw [gr_sr_a e, gr_sr_a e]) (fun q => by rw [hS1]; rfl) (fun f q => by rw [hS1]; rfl) (fun q => by rw [hS1]; rfl) (fun q => by rw [hS1]; rfl)
    rcases run_all (n := n) ha' (by omega) (t - 0) 0 0 R00 Sc Sm1 rfl b2 m2 R00_wf z00 (Nat.le_refl _) (Or.inl ⟨rfl, p00, fun s hs => if_neg (by omega)⟩) n n (by omega) (by omega) with ⟨q2, R2, Sc2, Sm2, t1, t2, t3, t4, t5, t6, t7⟩ | ⟨k', p, Sc2, Sm2, t1, -⟩
    · have t1 : f_X4_readWhole_L41 E n n Sc (c + 2) a 0 = some (1, Sc2) := t1
      have e1 : Sc2 = Sc' := by
        have := t1.symm.trans s1
        exact (Prod.mk.inj (Option.some.inj this)).2
      subst e1
      obtain ⟨g, u1, u2⟩ := m_end (n := n) (S := Sm2) hn ((t6.1 _ _).trans ((m3 _ _ (by omega) (by omega)).trans h.o.1)) l130 t7.2.2.1 l135
      have gR : ∀ i, i < 109 → g i = R2 i := fun i hi => (u1 i hi).trans (t7.2.2.2.2.1 i hi)
      refine ⟨R2 6, S1, wi Sm2 (c + 130) g, 21 - x, R2, ?_, ?_, ?_⟩
      · rw [cst 1 _ s1, if_neg o10, e451, e452]
        simp only [obs, lts]
        rw [← hS1, f451]
        simp only [obs]
        rw [show gi S1 128 a = R2 6 by rw [hS1]; exact t3.2.1.i128]
      · show f_X9_mountain E n S1 (c + 129) = _
        rw [m1, t5, u2, gR 6 (by omega)]
      · refine mt_inv h ha (fun f q h1 h2 => (t6.1 f q).trans (m3 f q h1 h2)) (fun q => (t6.2.1 q).trans (m4 q)) (fun f q h1 h2 h3 h4 => (t6.2.2.1 f q (by omega)).trans (m5 f q h1 h2 h3 h4)) (fun q h1 h2 h3 => (ai_wi_a h3).trans ((t6.2.2.2.1 q h2).trans (m6 q h1 h2))) (fun q => (t6.2.2.2.2 q).trans (m7 q)) ⟨by omega, ?_, ?_⟩ t4 ?_ (fun i hi => by rw [ai_wi]; exact gR i hi) ((t6.2.2.1 _ _ (by omega)).trans m8) ((t6.2.2.1 _ _ (by omega)).trans m9) ⟨?_, ?_⟩
        · rw [← ha]; exact (t6.1 _ _).trans ((m10 _ _).trans f451)
        · rw [show 21 - (21 - x) = x by omega]; exact (t6.1 _ _).trans ((m10 _ _).trans f452)
        · rw [← ha]
          refine t3.2.1.fr (fun f => ?_) (fun f h1 h2 => ?_) (fun j h1 h2 => ?_)
          · refine (t6.1 f a).trans ((m10 f a).trans ?_)
            rw [hS1, gr_sr_a (by omega), gr_sr_a (by omega)]
          · exact (t6.2.2.1 _ _ (by omega)).trans (m11 _ _ (by omega))
          · exact (ai_wi_a (by omega)).trans ((t6.2.2.2.1 _ (by omega)).trans (m12 _ (by omega)))
        · show gi Sm2 198 (c + 2) = gi Sm2 524 (c + 129)
          rw [t6.2.2.1 _ _ (by omega), m11 _ _ (by omega), t3.1.1.2.2.2.2.2.1, t7.2.1]
        · show gi Sm2 199 (c + 2) = gi Sm2 525 (c + 129)
          rw [t6.2.2.1 _ _ (by omega), m11 _ _ (by omega), t3.1.1.2.2.2.2.2.2, t7.1.1.2.2.2.2.2]
    · have := (Prod.mk.inj (Option.some.inj (t1.symm.trans s1))).1
      exact absurd this (by decide)
  · obtain ⟨Sm1, m1, m2, m3, m4, m5, m6, m7, m8, m9, m10, m11, m12⟩ := fin 0 Sc' s1 s2 Sc' (fun _ _ _ => rfl) (fun _ => rfl) (fun _ _ => rfl) (fun _ => rfl) (fun _ => rfl)
    rcases run_all (n := n) ha' (by omega) (t - 0) 0 0 R00 Sc Sm1 rfl b2 m2 R00_wf z00 (Nat.le_refl _) (Or.inl ⟨rfl, p00, fun s hs => if_neg (by omega)⟩) n n (by omega) (by omega) with ⟨q2, R2, Sc2, Sm2, t1, -⟩ | ⟨k', p, Sc2, Sm2, t1, t2, t3, t4, t5, t6⟩
    · have := (Prod.mk.inj (Option.some.inj (t1.symm.trans s1))).1
      exact absurd this (by decide)
    · have t1 : f_X4_readWhole_L41 E n n Sc (c + 2) a 0 = some (0, Sc2) := t1
      have e1 : Sc2 = Sc' := by
        have := t1.symm.trans s1
        exact (Prod.mk.inj (Option.some.inj this)).2
      subst e1
      refine ⟨-4, Sc2, Sm2, x, M, by rw [cst 0 _ s1, if_pos rfl], (by show f_X9_mountain E n Sc2 (c + 129) = _; rw [m1, t4]), ?_⟩
      have G : ∀ f q, ¬ (q = c + 2 ∧ f = 192) → gr Sm2 f q = gr S f q := fun f q h1 => (t5.1 f q).trans ((m10 f q).trans ((s2.1 f q).trans (b3 f q h1)))
      refine mt_inv h ha (fun f q h1 _ => G f q h1) (fun q => (t5.2.1 q).trans (m4 q)) (fun f q h1 h2 h3 h4 => (t5.2.2.1 f q (by omega)).trans (m5 f q h1 h2 h3 h4)) (fun q h1 h2 _ => (t5.2.2.2.1 q h2).trans (m6 q h1 h2)) (fun q => (t5.2.2.2.2 q).trans (m7 q)) ⟨hx, (G _ _ (by omega)).trans g451, (G _ _ (by omega)).trans g452⟩ h.w ?_ (fun i hi => by rw [t5.2.2.2.1 _ (by omega), m6 _ (by omega) (by omega)]; exact h.o.2.2.1 i hi) ((t5.2.2.1 _ _ (by omega)).trans m8) ((t5.2.2.1 _ _ (by omega)).trans m9) ⟨?_, ?_⟩
      · exact h.m.fr (fun f => G _ _ (by omega)) (fun f h1 h2 => (t5.2.2.1 _ _ (by omega)).trans (m5 _ _ (by omega) (by omega) (by omega) (by omega))) (fun j h1 h2 => (t5.2.2.2.1 _ (by omega)).trans (m6 _ (by omega) (by omega)))
      · rw [t5.2.2.1 _ _ (by omega), m11 _ _ (by omega), t3.1, t6.1]
      · rw [t5.2.2.1 _ _ (by omega), m11 _ _ (by omega), t3.2, t6.2.1]
end MTO
