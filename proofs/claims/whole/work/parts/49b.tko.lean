/-! The condition that courtings agree with what is told -/
/-- from j on: the least and the greatest count of steps that P allows (the greatest one more) -/
def TK (P : Nat → Prop) (j a b : Nat) : Prop := (∀ k, j ≤ k → k ≤ 7 → P k → a ≤ k ∧ k + 1 ≤ b) ∧ (a = 8 ∨ (a ≤ 7 ∧ j ≤ a ∧ P a)) ∧ (b = 0 ∨ (j < b ∧ b ≤ 8 ∧ P (b - 1)))
theorem TK_8 {P : Nat → Prop} : TK P 8 8 0 := ⟨fun k h1 h2 => by omega, Or.inl rfl, Or.inl rfl⟩
theorem TK_no {P : Nat → Prop} {j a b : Nat} (h : TK P (j + 1) a b) (hp : ¬ P j) : TK P j a b := by
  refine ⟨fun k h1 h2 h3 => ?_, ?_, ?_⟩
  · by_cases e : k = j
    · subst e; exact absurd h3 hp
    · exact h.1 k (by omega) h2 h3
  · exact h.2.1.imp id (fun q => ⟨q.1, by omega, q.2.2⟩)
  · exact h.2.2.imp id (fun q => ⟨by omega, q.2⟩)
theorem TK_yes {P : Nat → Prop} {j a b : Nat} (h : TK P (j + 1) a b) (hj : j ≤ 7) (hp : P j) : TK P j j (max b (j + 1)) := by
  refine ⟨fun k h1 h2 h3 => ?_, Or.inr ⟨hj, Nat.le_refl _, hp⟩, Or.inr ?_⟩
  · by_cases e : k = j
    · subst e; exact ⟨Nat.le_refl _, Nat.le_max_right _ _⟩
    · exact ⟨h1, Nat.le_trans (h.1 k (by omega) h2 h3).2 (Nat.le_max_left _ _)⟩
  · rcases h.2.2 with q | q
    · rw [q, Nat.max_eq_right (by omega)]
      exact ⟨by omega, by omega, by rw [Nat.add_sub_cancel]; exact hp⟩
    · rw [Nat.max_eq_left (by omega)]
      exact ⟨by omega, q.2⟩
theorem TK_b8 {P : Nat → Prop} {j a b : Nat} (h : TK P j a b) : a ≤ 8 ∧ b ≤ 8 := ⟨by rcases h.2.1 with q | q <;> omega, by rcases h.2.2 with q | q <;> omega⟩
theorem imax_1 {b k : Nat} (hb : b ≤ 8) (hk : k ≤ 7) : imax (nI b - 1) (nI k) = nI (max b (k + 1)) - 1 := by
  have key : ∀ b, b < 9 → ∀ k, k < 8 → imax (nI b - 1) (nI k) = nI (max b (k + 1)) - 1 := by decide +kernel
  exact key b (by omega) k (by omega)
/-- told: the path i would be leapt so far with k steps -/
def tld (M : Nat → Int32) (N : Nat → Int64) (i k : Nat) : Prop := (lpd (drp M (mP N i)) k).toInt64 = N (i * 3 + 2)
theorem leap_mono {d k k' : Nat} (h : k ≤ k') : (d + k') / (k' + 1) ≤ (d + k) / (k + 1) := by
  have e : ∀ k, (d + k) / (k + 1) ≤ (d + k) / (k + 1) := fun _ => Nat.le_refl _
  rw [leap_le]
  have q := (leap_le (d := d) (k := k) (n := (d + k) / (k + 1))).mp (Nat.le_refl _)
  exact Nat.le_trans q (Nat.mul_le_mul_left _ (by omega))
theorem tld_mid {M : Nat → Int32} (hw : WF M) {N : Nat → Int64} {i : Nat} (hp : mP N i < cA M) {a k b : Nat} (h1 : a ≤ k) (h2 : k ≤ b) (hb : b ≤ 7) (ta : tld M N i a) (tb : tld M N i b) : tld M N i k := by
  obtain ⟨d, hd, ed⟩ := drp_nat hw hp
  unfold tld at ta tb ⊢
  rw [ed, lpd_nat (by omega) (by omega)] at ta tb ⊢
  have l1 := leap_mono (d := d) h1
  have l2 := leap_mono (d := d) h2
  have x1 : (d + a) / (a + 1) ≤ d + a := Nat.div_le_self _ _
  have x2 : (d + b) / (b + 1) ≤ d + b := Nat.div_le_self _ _
  have x3 : (d + k) / (k + 1) ≤ d + k := Nat.div_le_self _ _
  have e : nI ((d + a) / (a + 1)) = nI ((d + b) / (b + 1)) := by
    have := ta.trans tb.symm
    have := congrArg Int64.toInt32 this
    rw [Int32.toInt32_toInt64, Int32.toInt32_toInt64] at this
    exact this
  have e2 := (nI_eq (by omega) (by omega)).mp e
  rw [show (d + k) / (k + 1) = (d + a) / (a + 1) by omega]
  exact ta
noncomputable def ab1 (M : Nat → Int32) (N : Nat → Int64) (s b i : Nat) : Nat := if wst M s (nI b) (nI (mP N i)) (nI (mY N i)) then 1 else 0
def CC1 (M : Nat → Int32) (N : Nat → Int64) (F : Nat) (k : Nat → Nat) : Prop := ∀ i, i < F → tld M N i (k i)
section TKO
variable {E : EN} {n c : Nat} {S S' : WS} {x : Nat} {M : Nat → Int32} {N : Nat → Int64} {F : Nat}
def JR (c : Nat) (M : Nat → Int32) (N : Nat → Int64) (S : WS) (i : Nat) : Prop := ai S (c + 75) i = nI (mP N i) ∧ ai S (c + 76) i = nI (mY N i) ∧ ∃ a b, ai S (c + 77) i = nI a ∧ ai S (c + 78) i = nI b - 1 ∧ TK (tld M N i) 0 a b
def JI1 (c : Nat) (M : Nat → Int32) (N : Nat → Int64) (F : Nat) (S : WS) : Prop := gi S 64 (c + 74) = nI F ∧ ∀ i, i < F → JR c M N S i
theorem JI1.ch (h : JI1 c M N F S) (k : CH c S S') : JI1 c M N F S' := by
  refine ⟨(k.2.1 _ _ (by omega)).trans h.1, fun i hi => ?_⟩
  unfold JR
  rw [k.2.2 (c + 75) (by omega), k.2.2 (c + 76) (by omega), k.2.2 (c + 77) (by omega), k.2.2 (c + 78) (by omega)]
  exact h.2 i hi
theorem Inv.g65 (h : Inv E c S x M) : gr S 65 (c + 74) = some (c + 75) := h.s.g 65 74 75 (by decide)
theorem Inv.g66 (h : Inv E c S x M) : gr S 66 (c + 74) = some (c + 76) := h.s.g 66 74 76 (by decide)
theorem Inv.g67 (h : Inv E c S x M) : gr S 67 (c + 74) = some (c + 77) := h.s.g 67 74 77 (by decide)
theorem Inv.g68 (h : Inv E c S x M) : gr S 68 (c + 74) = some (c + 78) := h.s.g 68 74 78 (by decide)
theorem Inv.l75 (h : Inv E c S x M) : eN E (c + 75) = 20 := h.L.at 75 20 (by decide) (by decide)
theorem Inv.l76 (h : Inv E c S x M) : eN E (c + 76) = 20 := h.L.at 76 20 (by decide) (by decide)
theorem Inv.l77 (h : Inv E c S x M) : eN E (c + 77) = 20 := h.L.at 77 20 (by decide) (by decide)
theorem Inv.l78 (h : Inv E c S x M) : eN E (c + 78) = 20 := h.L.at 78 20 (by decide) (by decide)
theorem nmb_kp (k : KP c S S') {q : Nat} : nmb c S' q = nmb c S q := by
  funext i
  show aj S' (c + 147) _ = aj S (c + 147) _
  rw [k.2.2.2.2 (c + 147) (by unfold ka; omega) (by omega)]
theorem e_X6_told (h : Inv E c S x M) {k : Nat} (hk : k < 4) {i : Nat} (hi : i < 20) : f_X6_leapTold E n S (c + (121 + 2 * k)) (nI i) = some (nmb c S k (i * 3 + 2), S) := by
  simp only [f_X6_leapTold, ix3m, ix32, e_X6_num h hk (show i * 3 + 2 < 60 by omega), bds]
theorem e_X2_take_L64 (k15 : WS → Nat → Nat → Nat → Int32 → Option (Unit × WS)) {k : Nat} (hk : k < 4) {i : Nat} (hi : i < 20) (hp : mP N i < cA M) : ∀ j, j ≤ 8 → ∀ m, j < m → ∀ S a b, Inv E c S x M → nmb c S k = N → ai S (c + 75) i = nI (mP N i) → ai S (c + 77) i = nI a → ai S (c + 78) i = nI b - 1 → TK (tld M N i) j a b → ∃ S' a' b', f_X2_takeOver_L64 E n k15 m S (c + 74) (c + x) (c + (121 + 2 * k)) (nI i) (nI j - 1) = k15 S' (c + 74) (c + x) (c + (121 + 2 * k)) (nI (i + 1)) ∧ KP c S S' ∧ (∀ f q, gi S' f q = gi S f q) ∧ (∀ q, q ≠ c + 77 → q ≠ c + 78 → ai S' q = ai S q) ∧ (∀ t, t ≠ i → ai S' (c + 77) t = ai S (c + 77) t ∧ ai S' (c + 78) t = ai S (c + 78) t) ∧ ai S' (c + 77) i = nI a' ∧ ai S' (c + 78) i = nI b' - 1 ∧ TK (tld M N i) 0 a' b' := by
  intro j
  induction j with
  | zero =>
    intro _ m hm S a b h hN r5 r7 r8 hT
    obtain ⟨m, rfl⟩ : ∃ q, m = q + 1 := ⟨m - 1, by omega⟩
    refine ⟨S, a, b, ?_, KP.rf, fun _ _ => rfl, fun _ _ _ => rfl, fun _ _ => ⟨rfl, rfl⟩, r7, r8, hT⟩
    simp only [f_X2_takeOver_L64]
    rw [if_pos (show (nI 0 - 1 : Int32) < 0 by decide), lts, nI_1]
  | succ j ih =>
    intro hj m hm S a b h hN r5 r7 r8 hT
    obtain ⟨m, rfl⟩ : ∃ q, m = q + 1 := ⟨m - 1, by omega⟩
    have em : nI j + (-1) = nI j - 1 := by rw [Int32.sub_eq_add_neg]
    have t8 := TK_b8 hT
    have tl : f_X6_leapTold E n S (c + (121 + 2 * k)) (nI i) = some (N (i * 3 + 2), S) := by
      rw [e_X6_told h hk hi, congrFun hN]
    simp only [f_X2_takeOver_L64, nI_pred, if_neg (nI_pos (show j < 2 ^ 31 by omega)), h.g65, obs, h.l75, nI_clamp (show i < 2 ^ 31 by omega), ifn (rinc hi (show 20 < 2 ^ 31 by omega)), r5, e_X3_dropOf h.m h.w hp, bds, e_X8_roundedUp (show j < 2 ^ 30 by omega), tl, lcm_eq]
    by_cases p : (lpd (drp M (mP N i)) j).toInt64 = N (i * 3 + 2)
    · rw [if_pos p]
      obtain ⟨S1, hS1⟩ : ∃ S1, S1 = wi S (c + 77) (upd (ai S (c + 77)) i (nI j)) := ⟨_, rfl⟩
      have k1 : KP c S S1 := by rw [hS1]; exact KP.wi (by unfold ka; omega)
      have i1 := h.kp k1
      have r81 : ai S1 (c + 78) = ai S (c + 78) := by rw [hS1, ai_wi_a (by omega)]
      obtain ⟨S2, hS2⟩ : ∃ S2, S2 = wi S1 (c + 78) (upd (ai S1 (c + 78)) i (nI (max b (j + 1)) - 1)) := ⟨_, rfl⟩
      have k2 : KP c S1 S2 := by rw [hS2]; exact KP.wi (by unfold ka; omega)
      have a2 : ∀ q, q ≠ c + 77 → q ≠ c + 78 → ai S2 q = ai S q := fun q q1 q2 => by rw [hS2, ai_wi_a q2, hS1, ai_wi_a q1]
      have r77 : ai S2 (c + 77) = upd (ai S (c + 77)) i (nI j) := by rw [hS2, ai_wi_a (by omega), hS1, ai_wi]
      have r78 : ai S2 (c + 78) = upd (ai S (c + 78)) i (nI (max b (j + 1)) - 1) := by rw [hS2, ai_wi, r81]
      simp only [h.g67, obs, h.l77, ifn (rinc hi (show 20 < 2 ^ 31 by omega)), lts]
      rw [← hS1]
      simp only [i1.g68, obs, h.l78, ifn (rinc hi (show 20 < 2 ^ 31 by omega)), r81, r8, imax_1 t8.2 (show j ≤ 7 by omega)]
      rw [← r81, ← hS2, em]
      obtain ⟨S', a', b', e1, e2, e3, e4, e5, e6, e7, e8⟩ := ih (by omega) m (by omega) S2 j (max b (j + 1)) ((h.kp k1).kp k2) ((nmb_kp (k1.tr k2)).trans hN) (by rw [a2 _ (by omega) (by omega)]; exact r5) (by rw [r77, pk_us]) (by rw [r78, pk_us]) (TK_yes hT (by omega) p)
      refine ⟨S', a', b', e1, (k1.tr k2).tr e2, fun f q => (e3 f q).trans (by rw [hS2, hS1]; rfl), fun q q1 q2 => (e4 q q1 q2).trans (a2 q q1 q2), fun t ht => ⟨(e5 t ht).1.trans ?_, (e5 t ht).2.trans ?_⟩, e6, e7, e8⟩
      · rw [r77, pk_un ht]
      · rw [r78, pk_un ht, r81]
    · rw [if_neg p, lts, em]
      exact ih (by omega) m (by omega) S a b h hN r5 r7 r8 (TK_no hT p)
theorem e_X2_take_L15 (hn : 30 ≤ n) {k : Nat} (hk : k < 4) {l : Nat} (hl : l ≤ 60) (hM : msr M l N) : ∀ j i, i + j = l / 3 → ∀ m, j < m → ∀ S, Inv E c S x M → nmb c S k = N → gi S 64 (c + 74) = nI (l / 3) → (∀ t, t < i → JR c M N S t) → ∃ S', f_X2_takeOver_L15 E n m S (c + 74) (c + x) (c + (121 + 2 * k)) (nI i) = some ((), S') ∧ KP c S S' ∧ JI1 c M N (l / 3) S' := by
  intro j
  induction j with
  | zero =>
    intro i hi m hm S h hN hF hq
    obtain ⟨m, rfl⟩ : ∃ q, m = q + 1 := ⟨m - 1, by omega⟩
    refine ⟨S, ?_, KP.rf, hF, fun t ht => hq t (by omega)⟩
    simp only [f_X2_takeOver_L15, hF]
    rw [if_pos (nI_le (show l / 3 ≤ i by omega) (by omega))]
  | succ j ih =>
    intro i hi m hm S h hN hF hq
    obtain ⟨m, rfl⟩ : ∃ q, m = q + 1 := ⟨m - 1, by omega⟩
    have hi20 : i < 20 := by omega
    obtain ⟨m1, m2, m3, m4⟩ := hM.p h.w (show i < l / 3 by omega)
    obtain ⟨S1, hS1⟩ : ∃ S1, S1 = wi S (c + 75) (upd (ai S (c + 75)) i (nI (mP N i))) := ⟨_, rfl⟩
    have k1 : KP c S S1 := by rw [hS1]; exact KP.wi (by unfold ka; omega)
    have i1 := h.kp k1
    have n1 : nmb c S1 k = N := (nmb_kp k1).trans hN
    obtain ⟨S2, hS2⟩ : ∃ S2, S2 = wi S1 (c + 76) (upd (ai S1 (c + 76)) i (nI (mY N i))) := ⟨_, rfl⟩
    have k2 : KP c S1 S2 := by rw [hS2]; exact KP.wi (by unfold ka; omega)
    have i2 := i1.kp k2
    obtain ⟨S3, hS3⟩ : ∃ S3, S3 = wi S2 (c + 77) (upd (ai S2 (c + 77)) i 8) := ⟨_, rfl⟩
    have k3 : KP c S2 S3 := by rw [hS3]; exact KP.wi (by unfold ka; omega)
    have i3 := i2.kp k3
    obtain ⟨S4, hS4⟩ : ∃ S4, S4 = wi S3 (c + 78) (upd (ai S3 (c + 78)) i (-1)) := ⟨_, rfl⟩
    have k4 : KP c S3 S4 := by rw [hS4]; exact KP.wi (by unfold ka; omega)
    have i4 := i3.kp k4
    have kk : KP c S S4 := ((k1.tr k2).tr k3).tr k4
    have r5 : ai S4 (c + 75) = upd (ai S (c + 75)) i (nI (mP N i)) := by rw [hS4, ai_wi_a (by omega), hS3, ai_wi_a (by omega), hS2, ai_wi_a (by omega), hS1, ai_wi]
    have r6 : ai S4 (c + 76) = upd (ai S (c + 76)) i (nI (mY N i)) := by rw [hS4, ai_wi_a (by omega), hS3, ai_wi_a (by omega), hS2, ai_wi, hS1, ai_wi_a (by omega)]
    have r7 : ai S4 (c + 77) = upd (ai S (c + 77)) i 8 := by rw [hS4, ai_wi_a (by omega), hS3, ai_wi, hS2, ai_wi_a (by omega), hS1, ai_wi_a (by omega)]
    have r8 : ai S4 (c + 78) = upd (ai S (c + 78)) i (-1) := by rw [hS4, ai_wi, hS3, ai_wi_a (by omega), hS2, ai_wi_a (by omega), hS1, ai_wi_a (by omega)]
    have gg : ∀ f q, gi S4 f q = gi S f q := fun f q => by rw [hS4, hS3, hS2, hS1]; rfl
    obtain ⟨S5, a', b', e1, e2, e3, e4, e5, e6, e7, e8⟩ := e_X2_take_L64 (E := E) (n := n) (x := x) (f_X2_takeOver_L15 E n m) hk hi20 m1 8 (Nat.le_refl _) n (by omega) S4 8 0 i4 ((nmb_kp kk).trans hN) (by rw [r5, pk_us]) (by rw [r7, pk_us]; rfl) (by rw [r8, pk_us, crv_0]) TK_8
    have e1 : f_X2_takeOver_L64 E n (f_X2_takeOver_L15 E n m) n S4 (c + 74) (c + x) (c + (121 + 2 * k)) (nI i) 7 = f_X2_takeOver_L15 E n m S5 (c + 74) (c + x) (c + (121 + 2 * k)) (nI (i + 1)) := e1
    have path : f_X6_pathOf E n S (c + (121 + 2 * k)) (nI i) = some (nI (mP N i), S) := by
      have q := e_X6_num (n := n) h hk (show i * 3 < 60 by omega)
      rw [congrFun hN] at q
      simp only [f_X6_pathOf, ix3m, q, bds, m2]
    have year : f_X6_yearOf E n S1 (c + (121 + 2 * k)) (nI i) = some (nI (mY N i), S1) := by
      have q := e_X6_num (n := n) i1 hk (show i * 3 + 1 < 60 by omega)
      rw [congrFun n1] at q
      simp only [f_X6_yearOf, ix3m, nI_1, q, bds, m4]
    obtain ⟨S6, f1, f2, f3⟩ := ih (i + 1) (by omega) m (by omega) S5 (i4.kp e2) ((nmb_kp (kk.tr e2)).trans hN) ((e3 _ _).trans ((gg _ _).trans hF)) (fun t ht => by
      by_cases et : t = i
      · subst et
        exact ⟨by rw [e4 _ (by omega) (by omega), r5, pk_us], by rw [e4 _ (by omega) (by omega), r6, pk_us], a', b', e6, e7, e8⟩
      · obtain ⟨q1, q2, qa, qb, q3, q4, q5⟩ := hq t (by omega)
        exact ⟨by rw [e4 _ (by omega) (by omega), r5, pk_un et]; exact q1, by rw [e4 _ (by omega) (by omega), r6, pk_un et]; exact q2, qa, qb, by rw [(e5 t et).1, r7, pk_un et]; exact q3, by rw [(e5 t et).2, r8, pk_un et]; exact q4, q5⟩)
    refine ⟨S6, ?_, (kk.tr e2).tr f2, f3⟩
    rw [← f1, ← e1]
    conv => lhs; unfold f_X2_takeOver_L15
    simp only [hF, if_neg (nI_ge (show i < l / 3 by omega) (show l / 3 < 2 ^ 31 by omega)), h.g65, obs, path, bds, h.l75, nI_clamp (show i < 2 ^ 31 by omega), ifn (rinc hi20 (show 20 < 2 ^ 31 by omega)), lts]
    rw [← hS1]
    simp only [i1.g66, obs, year, bds, h.l76, nI_clamp (show i < 2 ^ 31 by omega), ifn (rinc hi20 (show 20 < 2 ^ 31 by omega))]
    rw [← hS2]
    simp only [i2.g67, obs, h.l77, nI_clamp (show i < 2 ^ 31 by omega), ifn (rinc hi20 (show 20 < 2 ^ 31 by omega))]
    rw [← hS3]
    simp only [i3.g68, obs, h.l78, nI_clamp (show i < 2 ^ 31 by omega), ifn (rinc hi20 (show 20 < 2 ^ 31 by omega))]
    rw [← hS4]
theorem e_X2_takeOver (h : Inv E c S x M) (hn : 30 ≤ n) {k : Nat} (hk : k < 4) {l : Nat} (hl : l ≤ 60) (e : ai S (c + 145) k = nI l) (hM : msr M l (nmb c S k)) : ∃ S', f_X2_takeOver E n S (c + 74) (c + x) (c + (121 + 2 * k)) = some ((), S') ∧ KP c S S' ∧ JI1 c M (nmb c S k) (l / 3) S' := by
  have k1 : KP c S (si S 64 (c + 74) (nI (l / 3))) := KP.si (by unfold kf; omega)
  obtain ⟨S', e1, e2, e3⟩ := e_X2_take_L15 (n := n) (N := nmb c S k) hn hk hl hM (l / 3) 0 (by omega) n (by omega) _ (h.kp k1) (nmb_kp k1) gi_si_eq (fun t ht => by omega)
  refine ⟨S', ?_, k1.tr e2, e3⟩
  simp only [f_X2_takeOver, e_X6_measures hl ((h.sl k hk).2.1.trans e), bds]
  rw [show (20 : Int32) = nI 20 from rfl, imin_nat (by omega) (by omega), Nat.min_eq_left (by omega), lts]
  exact e1
theorem e_X2_addedBy (h : Inv E c S x M) (hn : 30 ≤ n) (hJ : JI1 c M N F S) (hF : F ≤ 20) {s b : Nat} (hs : s < cS M) : f_X2_addedBy E n S (c + 74) (c + x) (nI s) (nI b) = some (lN (pkf F (ab1 M N s b)), S) := by
  have key := lp (N := F) (P := fun i m => f_X2_addedBy_L6 E n m S (c + 74) (c + x) (nI s) (nI b) (lN (pkf F (fun t => if t < i then ab1 M N s b t else 0))) (nI i) = some (lN (pkf F (ab1 M N s b)), S)) ?_ ?_ F 0 n (by omega) (by omega)
  · rw [show pkf F (fun t => if t < 0 then ab1 M N s b t else 0) = 0 from (pkf_cong F (fun t _ => if_neg (by omega))).trans (pkf_0 F)] at key
    exact key
  · intro m
    simp only [f_X2_addedBy_L6, hJ.1, if_pos (nI_le (Nat.le_refl F) (show F < 2 ^ 31 by omega))]
    rw [pkf_cong F (fun t ht => if_pos ht)]
  · intro i m hi ih
    obtain ⟨q1, q2, -⟩ := hJ.2 i hi
    simp only [f_X2_addedBy_L6, hJ.1, if_neg (nI_ge hi (show F < 2 ^ 31 by omega)), h.g65, h.g66, obs, h.l75, h.l76, nI_clamp (show i < 2 ^ 31 by omega), ifn (rinc (show i < 20 by omega) (show 20 < 2 ^ 31 by omega)), q1, q2, e_X3_wouldStep h.m h.w hs, bds, lts, nI_1]
    by_cases w : wst M s (nI b) (nI (mP N i)) (nI (mY N i))
    · have u1 : ∀ t, t < F → (fun t => if t < i then ab1 M N s b t else 0) t ≤ 1 := by
        intro t _
        show (if t < i then ab1 M N s b t else 0) ≤ 1
        unfold ab1
        split
        · split <;> omega
        · omega
      have u2 : ∀ t, t < F → (fun t => if t = i then 1 else 0) t ≤ 1 := by
        intro t _
        show (if t = i then 1 else 0) ≤ 1
        split <;> omega
      rw [ifb1 w, ix3m, sh1 i (by omega), ← pkf_one F i hi, fb_orL, pkf_or F u1 u2]
      rw [show pkf F (fun t => if (if t < i then ab1 M N s b t else 0) = 1 ∨ (if t = i then 1 else 0) = 1 then 1 else 0) = pkf F (fun t => if t < i + 1 then ab1 M N s b t else 0) from pkf_cong F (fun t ht => by
        have a01 : ab1 M N s b t = 0 ∨ ab1 M N s b t = 1 := by unfold ab1; split <;> simp
        by_cases et : t = i
        · subst et
          have a1 : ab1 M N s b t = 1 := if_pos w
          rw [if_pos (Or.inr (if_pos rfl)), if_pos (by omega), a1]
        · rw [if_neg (show ¬ t = i from et)]
          by_cases lt1 : t < i
          · rw [if_pos lt1, if_pos (show t < i + 1 by omega)]
            rcases a01 with z | z
            · rw [z]; rfl
            · rw [z]; rfl
          · rw [if_neg lt1, if_neg (show ¬ t < i + 1 by omega)]; rfl)]
      exact ih
    · rw [ifb0 w]
      rw [show pkf F (fun t => if t < i then ab1 M N s b t else 0) = pkf F (fun t => if t < i + 1 then ab1 M N s b t else 0) from pkf_cong F (fun t ht => by
        by_cases et : t = i
        · subst et
          have a1 : ab1 M N s b t = 0 := if_neg w
          rw [if_neg (by omega), if_pos (by omega), a1]
        · by_cases lt1 : t < i
          · rw [if_pos lt1, if_pos (by omega)]
          · rw [if_neg lt1, if_neg (by omega)])]
      exact ih
theorem e_X2_judge (hw : WF M) (h : Inv E c S x M) (hn : 30 ≤ n) (hJ : JI1 c M N F S) (hF : F ≤ 20) (hp : ∀ i, i < F → mP N i < cA M) {lo hi : Nat → Nat} (hlh : ∀ i, i < F → lo i ≤ hi i ∧ hi i ≤ 7) : ∃ v, f_X2_judge E n S (c + 74) (lN (pkf F lo)) (lN (pkf F hi)) = some (v, S) ∧ JV (CC1 M N F) F lo hi v := by
  have l7 : ∀ j, j < F → lo j ≤ 7 := fun j hj => by have := hlh j hj; omega
  have h7 : ∀ j, j < F → hi j ≤ 7 := fun j hj => (hlh j hj).2
  refine lp (N := F) (P := fun i m => ∀ u : Int32, ((u = 1 ∧ ∀ j, j < i → ∀ k, lo j ≤ k → k ≤ hi j → tld M N j k) ∨ (u = 0 ∧ ∃ j, j < i ∧ lo j ≠ hi j)) → ∃ v, f_X2_judge_L6 E n m S (c + 74) (lN (pkf F lo)) (lN (pkf F hi)) u (nI i) = some (v, S) ∧ JV (CC1 M N F) F lo hi v) ?_ ?_ F 0 n (by omega) (by omega) 1 (Or.inl ⟨rfl, fun j hj => by omega⟩)
  · intro m u hu
    simp only [f_X2_judge_L6, hJ.1, if_pos (nI_le (Nat.le_refl F) (show F < 2 ^ 31 by omega))]
    rcases hu with ⟨e, q⟩ | ⟨e, j, hj, q⟩
    · rw [e, if_neg (by decide)]
      exact ⟨1, rfl, Or.inl ⟨rfl, fun k hk i hi => q i hi (k i) (hk i hi).1 (hk i hi).2⟩⟩
    · rw [e, if_pos rfl]
      exact ⟨2, rfl, Or.inr (Or.inr ⟨rfl, j, hj, q⟩)⟩
  · intro i m hi1 ih u hu
    obtain ⟨-, -, a, b, q3, q4, q5⟩ := hJ.2 i hi1
    obtain ⟨a8, b8⟩ := TK_b8 q5
    have hl := hlh i hi1
    have e1 : ((lN (pkf F lo) >>> ((nI i * (3 : Int32)).toInt64 &&& 63)) &&& (7 : Int64)).toInt32 = nI (lo i) := by
      rw [pkf_x hF hi1 l7, lN_32 (by omega)]
    have e2 : ((lN (pkf F hi) >>> ((nI i * (3 : Int32)).toInt64 &&& 63)) &&& (7 : Int64)).toInt32 = nI (hi i) := by
      rw [pkf_x hF hi1 h7, lN_32 (by omega)]
    have cmp : ∀ t, t ≤ 7 → (nI b - 1 < nI t ↔ b < t + 1) := by
      have key : ∀ b, b < 9 → ∀ t, t < 8 → (nI b - 1 < nI t ↔ b < t + 1) := by decide +kernel
      exact fun t ht => key b (by omega) t (by omega)
    have lea : ∀ t, t ≤ 7 → (nI a ≤ nI t ↔ a ≤ t) := fun t ht => ⟨fun q => Classical.byContradiction fun z => nI_ge (show t < a by omega) (by omega) q, fun q => nI_le q (by omega)⟩
    have ltb : ∀ t, t ≤ 7 → (nI t < nI a ↔ t < a) := fun t ht => ⟨fun q => Classical.byContradiction fun z => nI_nlt (show a ≤ t by omega) (by omega) q, fun q => nI_lt q (by omega)⟩
    -- no count between can be
    have no : (∀ k, lo i ≤ k → k ≤ hi i → ¬ tld M N i k) → JV (CC1 M N F) F lo hi 0 := fun z => Or.inr (Or.inl ⟨rfl, fun k hk q => z (k i) (hk i hi1).1 (hk i hi1).2 (q i hi1)⟩)
    have ne : lo i ≠ hi i → ∃ v, f_X2_judge_L6 E n m S (c + 74) (lN (pkf F lo)) (lN (pkf F hi)) 0 (nI (i + 1)) = some (v, S) ∧ JV (CC1 M N F) F lo hi v := fun z => ih 0 (Or.inr ⟨rfl, i, by omega, z⟩)
    simp only [f_X2_judge_L6, hJ.1, if_neg (nI_ge hi1 (show F < 2 ^ 31 by omega)), e1, e2, lts, h.g68, h.g67, obs, h.l78, h.l77, nI_clamp (show i < 2 ^ 31 by omega), ifn (rinc (show i < 20 by omega) (show 20 < 2 ^ 31 by omega)), q3, q4, nI_1]
    by_cases c1 : b < lo i + 1
    · rw [if_pos ((cmp _ (by omega)).mpr c1)]
      exact ⟨0, rfl, no (fun k k1 k2 t => by have := (q5.1 k (Nat.zero_le _) (by omega) t).2; omega)⟩
    · rw [if_neg (fun q => c1 ((cmp _ (by omega)).mp q))]
      by_cases c2 : a ≤ hi i
      · rw [if_pos ((lea _ hl.2).mpr c2)]
        rcases hu with ⟨e, q⟩ | ⟨e, j, hj, q⟩
        · rw [e, if_neg (by decide)]
          by_cases c3 : lo i < a
          · rw [if_pos ((ltb _ (by omega)).mpr c3)]
            exact ne (by omega)
          · rw [if_neg (fun w => c3 ((ltb _ (by omega)).mp w))]
            by_cases c4 : b < hi i + 1
            · rw [if_pos ((cmp _ hl.2).mpr c4)]
              exact ne (by omega)
            · rw [if_neg (fun w => c4 ((cmp _ hl.2).mp w))]
              refine ih 1 (Or.inl ⟨rfl, fun j hj k k1 k2 => ?_⟩)
              by_cases ej : j = i
              · subst ej
                have ta : tld M N j a := by rcases q5.2.1 with w | w
                                            · omega
                                            · exact w.2.2
                have tb : tld M N j (b - 1) := by rcases q5.2.2 with w | w
                                                  · omega
                                                  · exact w.2.2
                exact tld_mid hw (hp j hi1) (show a ≤ k by omega) (show k ≤ b - 1 by omega) (by omega) ta tb
              · exact q j (by omega) k k1 k2
        · rw [e, if_pos rfl]
          exact ih 0 (Or.inr ⟨rfl, j, by omega, q⟩)
      · rw [if_neg (fun q => c2 ((lea _ hl.2).mp q))]
        exact ⟨0, rfl, no (fun k k1 k2 t => by have := (q5.1 k (Nat.zero_le _) (by omega) t).1; omega)⟩
theorem jc1 (hw : WF M) (hn : 30 ≤ n) (hK : eK E (c + 74) ≠ 0) (hF : F ≤ 20) (hp : ∀ i, i < F → mP N i < cA M) : JC E n c (c + 74) F x M (ab1 M N) (JI1 c M N F) (CC1 M N F) := by
  refine ⟨hF, fun s b i => by unfold ab1; split <;> omega, fun S S' j k => j.ch k, fun S s b h j hs hb => ?_, fun S lo hi h j hlh => ?_⟩
  · unfold f_A_addedBy
    rw [if_neg hK]
    exact e_X2_addedBy h hn j hF hs
  · obtain ⟨v, e1, e2⟩ := e_X2_judge (n := n) hw h hn j hF hp hlh
    unfold f_A_judge
    rw [if_neg hK]
    exact ⟨v, S, e1, KP.rf, ⟨fun _ _ => rfl, fun _ _ => rfl, fun _ _ => rfl, fun _ => rfl⟩, j, e2⟩
end TKO
