/-! mountain: the model's beginning and end -/
section MTE
variable {E : EN} {n c : Nat} {S Sm : WS} {b : Nat → Int32}
theorem m_begin (hn : 2000 ≤ n) {t : Nat} (ht : t ≤ 1400) (g516 : gr Sm 516 (c + 129) = some (c + 133)) (l133 : eN E (c + 133) = 1400) (rows : ∀ i, i < 1400 → ai Sm (c + 133) i = b i ∧ byt (b i)) (e517 : gi Sm 517 (c + 129) = nI t) (g526 : gr Sm 526 (c + 129) = some (c + 135)) (l135 : eN E (c + 135) = 109) : ∃ S1, f_X9_mountain E n Sm (c + 129) = f_X9_mountain_L63 E n n S1 (c + 129) ∧ RM E c b t 0 R00 S1 ∧ (∀ f q, gr S1 f q = gr Sm f q) ∧ (∀ q, ar S1 q = ar Sm q) ∧ (∀ f q, ¬ (q = c + 129 ∧ (f = 517 ∨ (519 ≤ f ∧ f ≤ 525))) → gi S1 f q = gi Sm f q) ∧ (∀ q, q ≠ c + 135 → ai S1 q = ai Sm q) ∧ (∀ q, aj S1 q = aj Sm q) ∧ gi S1 517 (c + 129) = 0 := by
  obtain ⟨S5, hS5⟩ : ∃ S5, S5 = si (si (si (si (si Sm 519 (c + 129) (nI t)) 517 (c + 129) 0) 520 (c + 129) 0) 524 (c + 129) 0) 525 (c + 129) (-1) := ⟨_, rfl⟩
  have g5 : gr S5 526 (c + 129) = some (c + 135) := by rw [hS5]; exact g526
  have key := lp (N := 109) (P := fun i m => ∀ g : Nat → Int32, (∀ j, j < i → g j = R00 j) → ∃ g' : Nat → Int32, (∀ j, j < 109 → g' j = R00 j) ∧ f_X9_mountain_L30 E n m (wi S5 (c + 135) g) (c + 129) (nI i) = bd (f_X9_advance E n (wi S5 (c + 135) g') (c + 129)) fun _ S1 => f_X9_mountain_L63 E n n S1 (c + 129)) ?_ ?_ 109 0 n (by omega) (by omega) (ai S5 (c + 135)) (fun j hj => by omega)
  · obtain ⟨g, k1, k2⟩ := key
    rw [wi_self rfl] at k2
    obtain ⟨S6, hS6⟩ : ∃ S6, S6 = wi S5 (c + 135) g := ⟨_, rfl⟩
    rw [← hS6] at k2
    have gf : ∀ f, gi S6 f (c + 129) = gi S5 f (c + 129) := fun f => by rw [hS6]; rfl
    have mx : MX E c b t S6 := by
      refine ⟨by rw [hS6, hS5]; exact g516, l133, fun i hi => ?_, ?_, ht, ?_⟩
      · rw [hS6, ai_wi_a (by omega), hS5]; exact rows i hi
      · rw [gf, hS5, gi_si_f (by decide), gi_si_f (by decide), gi_si_f (by decide), gi_si_f (by decide), gi_si_eq]
      · rw [gf, hS5, gi_si_eq]
    have e520 : gi S6 520 (c + 129) = nI 0 := by rw [gf, hS5, gi_si_f (by decide), gi_si_f (by decide), gi_si_eq]; rfl
    obtain ⟨S1, r1, r2, r3⟩ := e_X9_next_tok (n := n) (q := 0) (by omega) (Nat.zero_le _) mx e520
    have gi5 : ∀ f q, ¬ (q = c + 129 ∧ (f = 517 ∨ (519 ≤ f ∧ f ≤ 525))) → gi S5 f q = gi Sm f q := by
      intro f q hh
      have st : ∀ (S : WS) (g p : Nat) (v : Int32), ¬ (q = p ∧ f = g) → gi (si S g p v) f q = gi S f q := fun S g p v hh => by
        by_cases e : f = g
        · exact gi_si_a (fun w => hh ⟨w, e⟩)
        · exact gi_si_f e
      rw [hS5, st _ _ _ _ (by omega), st _ _ _ _ (by omega), st _ _ _ _ (by omega), st _ _ _ _ (by omega), st _ _ _ _ (by omega)]
    refine ⟨S1, ?_, ⟨r3, ?_, ?_, l135, fun i hi => ?_, Nat.zero_le _⟩, fun f q => (r2.1 f q).trans (by rw [hS6, hS5]; rfl), fun q => (r2.2.1 q).trans (by rw [hS6, hS5]; rfl), fun f q hh => (r2.2.2.1 f q (by omega)).trans ((by rw [hS6]; rfl : gi S6 f q = gi S5 f q).trans (gi5 f q hh)), fun q hq => (r2.2.2.2.1 q).trans (by rw [hS6, ai_wi_a hq, hS5]; rfl), fun q => (r2.2.2.2.2 q).trans (by rw [hS6, hS5]; rfl), ?_⟩
    · simp only [f_X9_mountain, e517, lts]
      rw [← hS5]
      have k2 : f_X9_mountain_L30 E n n S5 (c + 129) 0 = bd (f_X9_advance E n S6 (c + 129)) fun _ S1 => f_X9_mountain_L63 E n n S1 (c + 129) := k2
      rw [k2, r1, bds]
    · rw [r2.2.2.1 _ _ (by omega), gf, hS5, gi_si_f (by decide), gi_si_eq]
    · rw [r2.1, hS6]; exact g5
    · rw [r2.2.2.2.1, hS6, ai_wi]; exact k1 i hi
    · rw [r2.2.2.1 _ _ (by omega), gf, hS5, gi_si_f (by decide), gi_si_f (by decide), gi_si_f (by decide), gi_si_eq]
  · intro m g hg
    refine ⟨g, hg, ?_⟩
    simp only [f_X9_mountain_L30]
    rw [if_pos (show (109 : Int32) ≤ nI 109 by decide)]
  · intro i m hi ih g hg
    have gg : gr (wi S5 (c + 135) g) 526 (c + 129) = some (c + 135) := g5
    have nx : ∀ v, v = R00 i → ∃ g' : Nat → Int32, (∀ j, j < 109 → g' j = R00 j) ∧ f_X9_mountain_L30 E n m (wi S5 (c + 135) (upd g i v)) (c + 129) (nI (i + 1)) = bd (f_X9_advance E n (wi S5 (c + 135) g') (c + 129)) fun _ S1 => f_X9_mountain_L63 E n n S1 (c + 129) := fun v hv => ih (upd g i v) (fun j hj => by
      by_cases e : j = i
      · subst e; rw [pk_us]; exact hv
      · rw [pk_un e]; exact hg j (by omega))
    simp only [f_X9_mountain_L30, if_neg (show ¬ (109 : Int32) ≤ nI i from nI_ge (b := 109) hi (by decide)), gg, obs, l135, nI_clamp (show i < 2 ^ 31 by omega), ifn (rinc hi (show 109 < 2 ^ 31 by omega)), ai_wi, wi_wi, lts, nI_1]
    by_cases c1 : i < 102
    · rw [if_pos (show nI i < (102 : Int32) from nI_lt (b := 102) c1 (by decide))]
      exact nx 0 (if_pos c1).symm
    · rw [if_neg (show ¬ nI i < (102 : Int32) from nI_nlt (b := 102) (by omega) (by omega))]
      exact nx (-1) (if_neg c1).symm
theorem m_end (hn : 2000 ≤ n) (g513 : gr S 513 (c + 129) = some (c + 130)) (l130 : eN E (c + 130) = 109) (g526 : gr S 526 (c + 129) = some (c + 135)) (l135 : eN E (c + 135) = 109) : ∃ g : Nat → Int32, (∀ i, i < 109 → g i = ai S (c + 135) i) ∧ f_X9_mountain_L96 E n n S (c + 129) 0 = some (g 6, wi S (c + 130) g) := by
  have key := lp (N := 109) (P := fun i m => ∀ g : Nat → Int32, (∀ j, j < i → g j = ai S (c + 135) j) → ∃ g' : Nat → Int32, (∀ j, j < 109 → g' j = ai S (c + 135) j) ∧ f_X9_mountain_L96 E n m (wi S (c + 130) g) (c + 129) (nI i) = some (g' 6, wi S (c + 130) g')) ?_ ?_ 109 0 n (by omega) (by omega) (ai S (c + 130)) (fun j hj => by omega)
  · rw [wi_self rfl] at key
    exact key
  · intro m g hg
    have gg : gr (wi S (c + 130) g) 513 (c + 129) = some (c + 130) := g513
    refine ⟨g, hg, ?_⟩
    simp only [f_X9_mountain_L96]
    rw [if_pos (show (109 : Int32) ≤ nI 109 by decide)]
    simp only [gg, obs, l130, mg6, ai_wi, t6n]
    rw [if_neg (by decide)]
  · intro i m hi ih g hg
    have gg : gr (wi S (c + 130) g) 513 (c + 129) = some (c + 130) := g513
    have g2 : gr (wi S (c + 130) g) 526 (c + 129) = some (c + 135) := g526
    have a2 : ai (wi S (c + 130) g) (c + 135) = ai S (c + 135) := ai_wi_a (by omega)
    simp only [f_X9_mountain_L96, if_neg (show ¬ (109 : Int32) ≤ nI i from nI_ge (b := 109) hi (by decide)), gg, g2, obs, l130, l135, a2, nI_clamp (show i < 2 ^ 31 by omega), ifn (rinc hi (show 109 < 2 ^ 31 by omega)), ai_wi, wi_wi, lts, nI_1]
    exact ih _ (fun j hj => by
      by_cases e : j = i
      · subst e; rw [pk_us]
      · rw [pk_un e]; exact hg j (by omega))
end MTE
