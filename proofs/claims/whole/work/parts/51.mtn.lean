/-! mountain: how both begin -/
def R00 : Nat → Int32 := fun i => if i < 102 then 0 else -1
theorem R00_wf : WF R00 := by
  have z : ∀ i, i < 102 → R00 i = 0 := fun i hi => if_pos hi
  refine WF_mk (P := 0) (Y := 0) (A := 0) (B := 0) (s0 := 0) (W := 0) (l := 0) (z 0 (by omega)) (z 1 (by omega)) (z 2 (by omega)) (z 3 (by omega)) (z 4 (by omega)) (z 5 (by omega)) (z 6 (by omega)) (by omega) (by omega) (fun _ => ⟨rfl, rfl, rfl, rfl, rfl, rfl⟩) (fun q => by omega) (fun p hp => ⟨0, by omega, z _ (by omega)⟩) (fun p hp => ⟨0, by omega, z _ (by omega)⟩) ⟨fun p hp => by omega, fun p q hp => by omega⟩ (fun p hp => by omega) (fun p hp => by omega) (fun p hp => by omega) (fun s hs => Or.inl (if_neg (by omega)))
section MTB
variable {E : EN} {n c : Nat} {S Sc Sm : WS} {x : Nat} {M : Nat → Int32}
/-- the class's beginning -/
theorem c_begin (h : Inv E c S x M) (hn : 2000 ≤ n) {t : Nat} (ht : t ≤ 1400) (e449 : gi S 449 c = nI t) : ∃ Sc, (∀ K : Int32 → WS → Option (Int32 × WS), bd (f_X4_readWhole E n (si S 449 c 0) (c + 2) (c + 1) (nI t) (c + (21 - x))) K = bd (f_X4_readWhole_L41 E n n Sc (c + 2) (c + (21 - x)) 0) K) ∧ RC E c (c + (21 - x)) (ai S (c + 1)) t 0 R00 Sc ∧ (∀ f q, ¬ (q = c + 2 ∧ f = 192) → gr Sc f q = gr S f q) ∧ (∀ q, ar Sc q = ar S q) ∧ (∀ f q, ¬ (q = c ∧ f = 449) → ¬ (q = c + 2 ∧ 193 ≤ f ∧ f ≤ 199) → ¬ (q = c + (21 - x) ∧ 128 ≤ f ∧ f ≤ 134) → gi Sc f q = gi S f q) ∧ (∀ q, (q ≤ c + (21 - x) ∨ c + (21 - x) + 12 < q) → ai Sc q = ai S q) ∧ (∀ q, aj Sc q = aj S q) ∧ gi Sc 449 c = 0 := by
  have hx := h.hx
  obtain ⟨y, hy⟩ : ∃ y, y = 21 - x := ⟨_, rfl⟩
  rw [← hy]
  have hy' : y = 4 ∨ y = 17 := by omega
  obtain ⟨a, ha⟩ : ∃ a, a = c + y := ⟨_, rfl⟩
  have ms := h.L.ms h.s (y := y) (by omega)
  rw [← ha] at ms ⊢
  have l1 : eN E (c + 1) = 1400 := h.L.at 1 1400 (by decide) (by decide)
  obtain ⟨S5, hS5⟩ : ∃ S5, S5 = si (si (si (si (sr (si S 449 c 0) 192 (c + 2) (some (c + 1))) 193 (c + 2) (nI t)) 194 (c + 2) 0) 198 (c + 2) 0) 199 (c + 2) (-1) := ⟨_, rfl⟩
  obtain ⟨S7, hS7⟩ : ∃ S7, S7 = si (si (si (si (si (si (si S5 128 a 0) 129 a 0) 130 a 0) 131 a 0) 132 a 0) 133 a 0) 134 a 0 := ⟨_, rfl⟩
  have gr7 : ∀ f q, ¬ (q = c + 2 ∧ f = 192) → gr S7 f q = gr S f q := fun f q hf => by
    rw [hS7, hS5]
    by_cases e : f = 192
    · exact gr_sr_a (fun w => hf ⟨w, e⟩)
    · exact gr_sr_f e
  have m5 : MS0 E S7 a := ⟨fun k hk => (gr7 _ _ (by omega)).trans (ms.1 k hk), ms.2⟩
  obtain ⟨g1, p1, -, p3⟩ := e_fillI (E := E) (n := n) (S := S7) (v := 0) m5.2.1 (by decide) (by omega)
  obtain ⟨S9, hS9⟩ : ∃ S9, S9 = wi S7 (a + 1) g1 := ⟨_, rfl⟩
  obtain ⟨g2, q1, -, q3⟩ := e_fillI (E := E) (n := n) (S := S9) (v := 0) m5.2.2.2.2.2.2.2.2.2.2.1 (by decide) (by omega)
  obtain ⟨S12, hS12⟩ : ∃ S12, S12 = wi S9 (a + 10) g2 := ⟨_, rfl⟩
  obtain ⟨g3, r1, -, r3⟩ := e_fillI (E := E) (n := n) (S := S12) (v := -1) m5.2.2.2.2.2.2.2.2.2.1 (by decide) (by omega)
  obtain ⟨S15, hS15⟩ : ∃ S15, S15 = wi S12 (a + 9) g3 := ⟨_, rfl⟩
  rw [← hS9] at p3
  rw [← hS12] at q3
  rw [← hS15] at r3
  have gi15 : ∀ f q, gi S15 f q = gi S7 f q := fun f q => by rw [hS15, hS12, hS9]; rfl
  have gr15 : ∀ f q, gr S15 f q = gr S7 f q := fun f q => by rw [hS15, hS12, hS9]; rfl
  have giR : ∀ f, gi S15 f (c + 2) = gi S5 f (c + 2) := fun f => by
    rw [gi15, hS7, gi_si_a (by omega), gi_si_a (by omega), gi_si_a (by omega), gi_si_a (by omega), gi_si_a (by omega), gi_si_a (by omega), gi_si_a (by omega)]
  have a5 : ∀ q, ai S7 q = ai S q := fun q => by rw [hS7, hS5]; rfl
  have cx : CX E c (ai S (c + 1)) t S15 := by
    refine ⟨?_, l1, ?_, ?_, ht, ?_, ?_⟩
    · rw [gr15, hS7, hS5]; exact gr_sr_eq
    · rw [hS15, ai_wi_a (by omega), hS12, ai_wi_a (by omega), hS9, ai_wi_a (by omega), a5]
    · rw [giR, hS5, gi_si_f (by decide), gi_si_f (by decide), gi_si_f (by decide), gi_si_eq]
    · rw [giR, hS5, gi_si_f (by decide), gi_si_eq]
    · rw [giR, hS5, gi_si_eq]
  have e194 : gi S15 194 (c + 2) = nI 0 := by rw [giR, hS5, gi_si_f (by decide), gi_si_f (by decide), gi_si_eq]; rfl
  have mt15 : RMt E S15 a R00 := by
    have z : ∀ i, i < 102 → R00 i = 0 := fun i hi => if_pos hi
    have c2 : cA R00 = 0 := by show (R00 2).toNatClampNeg = 0; rw [z 2 (by omega)]; decide
    have c3 : cB R00 = 0 := by show (R00 3).toNatClampNeg = 0; rw [z 3 (by omega)]; decide
    have c4 : cS R00 = 0 := by show (R00 4).toNatClampNeg = 0; rw [z 4 (by omega)]; decide
    have c5 : cW R00 = 0 := by show (R00 5).toNatClampNeg = 0; rw [z 5 (by omega)]; decide
    refine ⟨⟨fun k hk => (gr15 _ _).trans (m5.1 k hk), m5.2⟩, ⟨?_, ?_, ?_, ?_, ?_, ?_, ?_⟩, ?_, ?_, ?_, ?_, ?_, ?_, ?_⟩
    · rw [gi15, hS7, gi_si_f (by decide), gi_si_f (by decide), gi_si_f (by decide), gi_si_f (by decide), gi_si_f (by decide), gi_si_f (by decide), gi_si_eq, z 6 (by omega)]
    · rw [gi15, hS7, gi_si_f (by decide), gi_si_f (by decide), gi_si_f (by decide), gi_si_f (by decide), gi_si_f (by decide), gi_si_eq, z 0 (by omega)]
    · rw [gi15, hS7, gi_si_f (by decide), gi_si_f (by decide), gi_si_f (by decide), gi_si_f (by decide), gi_si_eq, z 1 (by omega)]
    · rw [gi15, hS7, gi_si_f (by decide), gi_si_f (by decide), gi_si_f (by decide), gi_si_eq, z 2 (by omega)]
    · rw [gi15, hS7, gi_si_f (by decide), gi_si_f (by decide), gi_si_eq, z 3 (by omega)]
    · rw [gi15, hS7, gi_si_f (by decide), gi_si_eq, z 4 (by omega)]
    · rw [gi15, hS7, gi_si_eq, z 5 (by omega)]
    · intro p hp; rw [hS15, ai_wi_a (by omega), hS12, ai_wi_a (by omega), hS9, ai_wi, z _ (by omega)]; exact p1 p hp
    · intro p hp; rw [c2] at hp; omega
    · intro p hp; rw [c3] at hp; omega
    · intro p hp; rw [c4] at hp; omega
    · intro p hp; rw [hS15, ai_wi, show R00 (102 + p) = -1 from if_neg (by omega)]; exact r1 p hp
    · intro p hp; rw [hS15, ai_wi_a (by omega), hS12, ai_wi, z _ (by omega)]; exact q1 p hp
    · intro p hp; rw [c5] at hp; omega
  obtain ⟨Sc, s1, s2, s3⟩ := e_X4_next (n := n) (q := 0) (by omega) (Nat.zero_le _) cx e194
  have gi7 : ∀ f q, ¬ (q = c ∧ f = 449) → ¬ (q = c + 2 ∧ 193 ≤ f ∧ f ≤ 199) → ¬ (q = a ∧ 128 ≤ f ∧ f ≤ 134) → gi S7 f q = gi S f q := by
    intro f q h1 h2 h3
    have st : ∀ (S : WS) (g p : Nat) (v : Int32), ¬ (q = p ∧ f = g) → gi (si S g p v) f q = gi S f q := fun S g p v hh => by
      by_cases e : f = g
      · exact gi_si_a (fun w => hh ⟨w, e⟩)
      · exact gi_si_f e
    rw [hS7, st _ _ _ _ (by omega), st _ _ _ _ (by omega), st _ _ _ _ (by omega), st _ _ _ _ (by omega), st _ _ _ _ (by omega), st _ _ _ _ (by omega), st _ _ _ _ (by omega), hS5, st _ _ _ _ (by omega), st _ _ _ _ (by omega), st _ _ _ _ (by omega), st _ _ _ _ (by omega)]
    show gi (si S 449 c 0) f q = _
    rw [st _ _ _ _ (by omega)]
  refine ⟨Sc, fun K => ?_, ⟨s3, mt15.fr (fun f => s2.1 f a) (fun f _ _ => s2.2.2.1 f a (by omega)) (fun j _ _ => s2.2.2.2.1 _), Nat.zero_le _⟩, fun f q hf => (s2.1 f q).trans ((gr15 f q).trans (gr7 f q hf)), fun q => (s2.2.1 q).trans (by rw [hS15, hS12, hS9, hS7, hS5]; rfl), fun f q h1 h2 h3 => (s2.2.2.1 f q (by omega)).trans ((gi15 f q).trans (gi7 f q h1 h2 h3)), fun q hq => (s2.2.2.2.1 q).trans (by rw [hS15, ai_wi_a (by omega), hS12, ai_wi_a (by omega), hS9, ai_wi_a (by omega), a5]), fun q => (s2.2.2.2.2 q).trans (by rw [hS15, hS12, hS9, hS7, hS5]; rfl), ?_⟩
  · have im : imin (nI t) (Int32.ofNat 1400) = nI t := by
      rw [show Int32.ofNat 1400 = nI 1400 from rfl, imin_nat (by omega) (by decide), Nat.min_eq_left ht]
    have g135 : gr S7 135 a = some (a + 1) := m5.1 0 (by decide)
    have g144 : gr S9 144 a = some (a + 10) := by rw [hS9]; exact m5.1 9 (by decide)
    have g143 : gr S12 143 a = some (a + 9) := by rw [hS12, hS9]; exact m5.1 8 (by decide)
    simp only [f_X4_readWhole, l1, im, lts]
    rw [← hS5]
    simp only [f_X3_clearAll, lts]
    rw [← hS7]
    simp only [g135, obs, p3, bds, g144, q3, g143, r3, s1]
  · rw [s2.2.2.1 _ _ (by omega), gi15, hS7, gi_si_f (by decide), gi_si_f (by decide), gi_si_f (by decide), gi_si_f (by decide), gi_si_f (by decide), gi_si_f (by decide), gi_si_f (by decide), hS5, gi_si_f (by decide), gi_si_f (by decide), gi_si_f (by decide), gi_si_f (by decide)]
    exact gi_si_eq
end MTB
