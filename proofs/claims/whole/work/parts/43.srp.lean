/-! The search over all courtings, purely: packed counts, what is kept, all completions at once -/
theorem tb8 {p q : Nat} (hq : q < 8) (j : Nat) : (8 * p + q).testBit j = if j < 3 then q.testBit j else p.testBit (j - 3) := by
  rw [Nat.testBit_eq_decide_div_mod_eq]
  by_cases h : j < 3
  · rw [if_pos h, Nat.testBit_eq_decide_div_mod_eq]
    rcases (show j = 0 ∨ j = 1 ∨ j = 2 by omega) with rfl | rfl | rfl
    · rw [show (8 * p + q) / 2 ^ 0 % 2 = q / 2 ^ 0 % 2 by omega]
    · rw [show (8 * p + q) / 2 ^ 1 % 2 = q / 2 ^ 1 % 2 by omega]
    · rw [show (8 * p + q) / 2 ^ 2 % 2 = q / 2 ^ 2 % 2 by omega]
  · rw [if_neg h, Nat.testBit_eq_decide_div_mod_eq]
    obtain ⟨i, rfl⟩ : ∃ i, j = i + 3 := ⟨j - 3, by omega⟩
    rw [Nat.add_sub_cancel, show 2 ^ (i + 3) = 8 * 2 ^ i by rw [Nat.pow_add]; omega, ← Nat.div_div_eq_div_mul, show (8 * p + q) / 8 = p by omega]
theorem or8 {p q u v : Nat} (hq : q < 8) (hv : v < 8) : (8 * p + q) ||| (8 * u + v) = 8 * (p ||| u) + (q ||| v) := by
  have h8 : q ||| v < 8 := Nat.or_lt_two_pow (n := 3) hq hv
  apply Nat.eq_of_testBit_eq
  intro j
  rw [Nat.testBit_or, tb8 hq, tb8 hv, tb8 h8]
  by_cases h : j < 3
  · rw [if_pos h, if_pos h, if_pos h, Nat.testBit_or]
  · rw [if_neg h, if_neg h, if_neg h, Nat.testBit_or]
/-- so many counts, three bits each -/
def pkf : Nat → (Nat → Nat) → Nat
  | 0, _ => 0
  | F + 1, k => k 0 + 8 * pkf F (fun i => k (i + 1))
theorem pkf_lt : ∀ (F : Nat) (k : Nat → Nat), (∀ i, i < F → k i ≤ 7) → pkf F k < 8 ^ F := by
  intro F
  induction F with
  | zero => intro k _; exact Nat.lt_of_lt_of_le Nat.zero_lt_one (Nat.le_refl _)
  | succ F ih =>
    intro k h
    have a := ih (fun i => k (i + 1)) (fun i hi => h (i + 1) (by omega))
    have b := h 0 (by omega)
    rw [pkf, Nat.pow_succ]; omega
theorem pkf_cong : ∀ (F : Nat) {k l : Nat → Nat}, (∀ i, i < F → k i = l i) → pkf F k = pkf F l := by
  intro F
  induction F with
  | zero => intro k l _; rfl
  | succ F ih =>
    intro k l h
    rw [pkf, pkf, h 0 (by omega), ih (fun i hi => h (i + 1) (by omega))]
theorem pkf_add : ∀ (F : Nat) (k l : Nat → Nat), pkf F k + pkf F l = pkf F (fun i => k i + l i) := by
  intro F
  induction F with
  | zero => intro k l; rfl
  | succ F ih =>
    intro k l
    rw [pkf, pkf, pkf, ← ih]; omega
theorem pkf_get : ∀ (F : Nat) (k : Nat → Nat) (i : Nat), i < F → (∀ j, j < F → k j ≤ 7) → pkf F k / 2 ^ (i * 3) % 8 = k i := by
  intro F
  induction F with
  | zero => intro k i hi; omega
  | succ F ih =>
    intro k i hi h
    have b := h 0 (by omega)
    rw [pkf]
    cases i with
    | zero => rw [Nat.zero_mul, Nat.pow_zero, Nat.div_one]; omega
    | succ i =>
      rw [show 2 ^ ((i + 1) * 3) = 8 * 2 ^ (i * 3) by rw [Nat.add_mul, Nat.pow_add]; omega, ← Nat.div_div_eq_div_mul, show (k 0 + 8 * pkf F (fun i => k (i + 1))) / 8 = pkf F (fun i => k (i + 1)) by omega]
      exact ih _ i (by omega) (fun j hj => h (j + 1) (by omega))
theorem pkf_0 : ∀ F, pkf F (fun _ => 0) = 0 := by
  intro F
  induction F with
  | zero => rfl
  | succ F ih => rw [pkf, ih]
theorem pkf_one : ∀ (F p : Nat), p < F → pkf F (fun i => if i = p then 1 else 0) = 2 ^ (p * 3) := by
  intro F
  induction F with
  | zero => intro p hp; omega
  | succ F ih =>
    intro p hp
    rw [pkf]
    cases p with
    | zero =>
      rw [if_pos rfl, show pkf F (fun i => if i + 1 = 0 then 1 else 0) = pkf F (fun _ => 0) from pkf_cong F (fun i _ => if_neg (by omega)), pkf_0]
    | succ p =>
      rw [if_neg (by omega), show pkf F (fun i => if i + 1 = p + 1 then 1 else 0) = pkf F (fun i => if i = p then 1 else 0) from pkf_cong F (fun i _ => by
        by_cases e : i = p
        · rw [if_pos e, if_pos (by omega)]
        · rw [if_neg e, if_neg (by omega)]), ih p (by omega), show 2 ^ ((p + 1) * 3) = 8 * 2 ^ (p * 3) by rw [Nat.add_mul, Nat.pow_add]; omega]
      omega
theorem pkf_or : ∀ (F : Nat) {k l : Nat → Nat}, (∀ i, i < F → k i ≤ 1) → (∀ i, i < F → l i ≤ 1) → pkf F k ||| pkf F l = pkf F (fun i => if k i = 1 ∨ l i = 1 then 1 else 0) := by
  intro F
  induction F with
  | zero => intro k l _ _; exact Nat.or_self 0
  | succ F ih =>
    intro k l hk hl
    have a := hk 0 (by omega)
    have b := hl 0 (by omega)
    rw [pkf, pkf, pkf, Nat.add_comm (k 0), Nat.add_comm (l 0), or8 (by omega) (by omega), ih (fun i hi => hk (i + 1) (by omega)) (fun i hi => hl (i + 1) (by omega))]
    have e : k 0 ||| l 0 = if k 0 = 1 ∨ l 0 = 1 then 1 else 0 := by
      rcases (show k 0 = 0 ∨ k 0 = 1 by omega) with e1 | e1 <;> rcases (show l 0 = 0 ∨ l 0 = 1 by omega) with e2 | e2 <;> rw [e1, e2] <;> rfl
    rw [e]; omega
/-- what is kept: how many; fewest hearts, fewest busy; the first; seen choices, as bits -/
abbrev BW : Type := Nat × Nat × Nat × (Nat → Nat) × (Nat → Nat)
abbrev bT (B : BW) : Nat := B.1
abbrev bH (B : BW) : Nat := B.2.1
abbrev bB (B : BW) : Nat := B.2.2.1
abbrev bF (B : BW) : Nat → Nat := B.2.2.2.1
abbrev bM (B : BW) : Nat → Nat := B.2.2.2.2
abbrev few (B : BW) (h : Nat) : Prop := bT B = 0 ∨ h < bH B
abbrev fwb (B : BW) (b : Nat) : Prop := bT B = 0 ∨ b < bB B
def gb (c0 : Nat → Nat) (h b m : Nat) (u : Nat → Nat) (B : BW) : BW := (bT B + m, if few B h then h else bH B, if fwb B b then b else bB B, if few B h then c0 else bF B, fun s => bM B s ||| u s)
theorem gb_no {c1 : Nat → Nat} {h1 b1 m1 : Nat} {u1 : Nat → Nat} {X : BW} (e1 : ¬ few X h1) (e2 : ¬ fwb X b1) : gb c1 h1 b1 m1 u1 X = (bT X + m1, bH X, bB X, bF X, fun s => bM X s ||| u1 s) := by
  unfold gb
  rw [if_neg e1, if_neg e2, if_neg e1]
theorem gb_gb {c0 c1 : Nat → Nat} {h h1 b b1 m m1 : Nat} {u u1 : Nat → Nat} {B : BW} (hh : h ≤ h1) (hb : b ≤ b1) (hm : 1 ≤ m) : gb c1 h1 b1 m1 u1 (gb c0 h b m u B) = gb c0 h b (m + m1) (fun s => u s ||| u1 s) B := by
  have e1 : ¬ few (gb c0 h b m u B) h1 := by
    unfold few gb
    simp only [bT, bH]
    rintro (q | q)
    · omega
    · by_cases c : few B h
      · rw [if_pos c] at q; omega
      · rw [if_neg c] at q
        unfold few at c
        simp only [bT, bH] at c
        omega
  have e2 : ¬ fwb (gb c0 h b m u B) b1 := by
    unfold fwb gb
    simp only [bT, bB]
    rintro (q | q)
    · omega
    · by_cases c : fwb B b
      · rw [if_pos c] at q; omega
      · rw [if_neg c] at q
        unfold fwb at c
        simp only [bT, bB] at c
        omega
  rw [gb_no e1 e2]
  unfold gb
  simp only [Prod.mk.injEq, true_and, bT, bM]
  refine ⟨by omega, ?_⟩
  funext s
  exact Nat.or_assoc _ _ _
def scd (c : Nat → Nat) (d v : Nat) : Nat → Nat := fun s => if s = d then v else c s
def bsy (c : Nat → Nat) : Nat → Nat
  | 0 => 0
  | s + 1 => if c s = 0 then bsy c s else bsy c s + 1
def crd (c : Nat → Nat) : Nat → Nat
  | 0 => 0
  | s + 1 => if c s = 0 then crd c s else crd c s ||| 2 ^ (c s)
/-- how many bits below the j-th; these bits -/
def na (m : Nat) : Nat → Nat
  | 0 => 0
  | j + 1 => if m.testBit j = true then na m j + 1 else na m j
def orm (m : Nat) : Nat → Nat
  | 0 => 0
  | j + 1 => if m.testBit j = true then orm m j ||| 2 ^ j else orm m j
theorem na_t {m j : Nat} (h : m.testBit j = true) : na m (j + 1) = na m j + 1 := if_pos h
theorem na_f {m j : Nat} (h : ¬ m.testBit j = true) : na m (j + 1) = na m j := if_neg h
theorem orm_t {m j : Nat} (h : m.testBit j = true) : orm m (j + 1) = orm m j ||| 2 ^ j := if_pos h
theorem orm_f {m j : Nat} (h : ¬ m.testBit j = true) : orm m (j + 1) = orm m j := if_neg h
theorem orm_5 : ∀ m, m < 32 → orm m 5 = m := by decide +kernel
theorem na_or : ∀ m, m < 32 → ∀ j, j < 5 → na (m ||| 2 ^ j) 5 ≤ na m 5 + 1 ∧ na m 5 ≤ na (m ||| 2 ^ j) 5 := by decide +kernel
def hrt (c : Nat → Nat) (d : Nat) : Nat := bsy c d - na (crd c d) 5
theorem scd_at {c : Nat → Nat} {d v : Nat} : scd c d v d = v := if_pos rfl
theorem scd_un {c : Nat → Nat} {d v s : Nat} (h : s ≠ d) : scd c d v s = c s := if_neg h
theorem bsy_cong {c e : Nat → Nat} : ∀ {d : Nat}, (∀ s, s < d → c s = e s) → bsy c d = bsy e d := by
  intro d
  induction d with
  | zero => intro _; rfl
  | succ d ih => intro h; rw [bsy, bsy, h d (by omega), ih (fun s hs => h s (by omega))]
theorem crd_cong {c e : Nat → Nat} : ∀ {d : Nat}, (∀ s, s < d → c s = e s) → crd c d = crd e d := by
  intro d
  induction d with
  | zero => intro _; rfl
  | succ d ih => intro h; rw [crd, crd, h d (by omega), ih (fun s hs => h s (by omega))]
theorem bsy_le (c : Nat → Nat) : ∀ d, bsy c d ≤ d := by
  intro d
  induction d with
  | zero => exact Nat.le_refl _
  | succ d ih => rw [bsy]; split <;> omega
theorem crd_lt {c : Nat → Nat} : ∀ {d : Nat}, (∀ s, s < d → c s < 5) → crd c d < 32 := by
  intro d
  induction d with
  | zero => intro _; rw [crd]; decide
  | succ d ih =>
    intro h
    have a := ih (fun s hs => h s (by omega))
    rw [crd]
    split
    · exact a
    · exact Nat.or_lt_two_pow (n := 5) a (Nat.pow_lt_pow_right (by decide) (h d (by omega)))
theorem na_le_bsy {c : Nat → Nat} : ∀ {d : Nat}, (∀ s, s < d → c s < 5) → na (crd c d) 5 ≤ bsy c d := by
  intro d
  induction d with
  | zero => intro _; rw [crd, bsy]; decide
  | succ d ih =>
    intro h
    have a := ih (fun s hs => h s (by omega))
    have b := crd_lt (c := c) (d := d) (fun s hs => h s (by omega))
    rw [crd, bsy]
    by_cases e : c d = 0
    · rw [if_pos e, if_pos e]; exact a
    · rw [if_neg e, if_neg e]
      have := (na_or _ b (c d) (h d (by omega))).1
      omega
theorem hrt_s {c : Nat → Nat} {d v : Nat} (h : ∀ s, s < d → c s < 5) (hv : v < 5) : hrt c d ≤ hrt (scd c d v) (d + 1) ∧ bsy c d ≤ bsy (scd c d v) (d + 1) := by
  have a := crd_lt h
  have b := na_le_bsy h
  have e1 : bsy (scd c d v) d = bsy c d := bsy_cong (fun s hs => scd_un (by omega))
  have e2 : crd (scd c d v) d = crd c d := crd_cong (fun s hs => scd_un (by omega))
  unfold hrt
  rw [bsy, crd, e1, e2, scd_at]
  by_cases e : v = 0
  · rw [if_pos e, if_pos e]; omega
  · rw [if_neg e, if_neg e]
    have := (na_or _ a v hv).1
    omega
theorem hrt_0 {c : Nat → Nat} {d : Nat} (h : c d = 0) : hrt c (d + 1) = hrt c d ∧ bsy c (d + 1) = bsy c d ∧ crd c (d + 1) = crd c d := by
  have e1 : bsy c (d + 1) = bsy c d := by rw [bsy, if_pos h]
  have e2 : crd c (d + 1) = crd c d := by rw [crd, if_pos h]
  exact ⟨by unfold hrt; rw [e1, e2], e1, e2⟩
theorem scd_0 {c : Nat → Nat} {d : Nat} (h : c d = 0) : scd c d 0 = c := by
  funext s
  unfold scd
  by_cases e : s = d
  · rw [if_pos e, e, h]
  · rw [if_neg e]
/-- the choices of s as bits: 0 nobody, 1 bride 0 .. -/
abbrev chs (M : Nat → Int32) (s : Nat) : Nat := 2 * (M (75 + 3 * s)).toNatClampNeg + 1
abbrev alw (M : Nat → Int32) (s v : Nat) : Prop := (chs M s).testBit v = true
def cml (M : Nat → Int32) : Nat → Nat → Nat
  | 0, _ => 1
  | k + 1, d => cml M k (d + 1) * na (chs M d) 5
def um (M : Nat → Int32) (N d : Nat) (c : Nat → Nat) : Nat → Nat := fun s => if s < d then 2 ^ (c s) else if s < N then chs M s else 0
def lpS (f : Nat → BW → BW) : Nat → BW → BW
  | 0, B => B
  | j + 1, B => f j (lpS f j B)
noncomputable def enm (M : Nat → Int32) (C : (Nat → Nat) → Prop) : Nat → Nat → (Nat → Nat) → BW → BW
  | 0, d, c, B => @ite _ (C c) (Classical.propDecidable _) (gb c (hrt c d) (bsy c d) 1 (um M d d c) B) B
  | k + 1, d, c, B => lpS (fun v B => if alw M d v then enm M C k (d + 1) (scd c d v) B else B) 5 B
theorem lpS_cong {f g : Nat → BW → BW} {B : BW} : ∀ {j : Nat}, (∀ v B, v < j → f v B = g v B) → lpS f j B = lpS g j B := by
  intro j
  induction j with
  | zero => intro _; rfl
  | succ j ih => intro h; rw [lpS, lpS, ih (fun v B hv => h v B (by omega)), h j _ (by omega)]
/-- c' completes the first d choices of c -/
def cpl (M : Nat → Int32) (N d : Nat) (c c' : Nat → Nat) : Prop := (∀ s, s < d → c' s = c s) ∧ (∀ s, d ≤ s → s < N → alw M s (c' s)) ∧ ∀ s, N ≤ s → c' s = 0
theorem alw_5 {M : Nat → Int32} (hw : WF M) {s v : Nat} (hs : s < cS M) (h : alw M s v) : v < 5 := by
  have hB := hw.lB
  obtain ⟨k, q, f, -, -, -, hf, -, -, ef⟩ := hw.2.2.2.2.2.2.2.2.2.1 s hs
  have h2 : 2 ^ cB M ≤ 2 ^ 4 := Nat.pow_le_pow_right (by decide) hB
  apply Classical.byContradiction
  intro q
  have : (chs M s).testBit v = false := Nat.testBit_lt_two_pow (Nat.lt_of_lt_of_le (show chs M s < 2 ^ 5 by unfold chs; rw [ef, nI_clamp (by omega)]; omega) (Nat.pow_le_pow_right (by decide) (by omega)))
  rw [h] at this; cases this
theorem chs_lt {M : Nat → Int32} (hw : WF M) {s : Nat} (hs : s < cS M) : chs M s < 32 := by
  have hB := hw.lB
  obtain ⟨k, q, f, -, -, -, hf, -, -, ef⟩ := hw.2.2.2.2.2.2.2.2.2.1 s hs
  have h2 : 2 ^ cB M ≤ 2 ^ 4 := Nat.pow_le_pow_right (by decide) hB
  unfold chs; rw [ef, nI_clamp (by omega)]; omega
theorem alw_0 {M : Nat → Int32} {s : Nat} : alw M s 0 := by
  unfold alw chs
  rw [Nat.testBit_zero, decide_eq_true_eq]; omega
theorem cpl_s {M : Nat → Int32} {N d v : Nat} {c c' : Nat → Nat} (hd : d < N) (hv : alw M d v) (h : cpl M N (d + 1) (scd c d v) c') : cpl M N d c c' := by
  refine ⟨fun s hs => (h.1 s (by omega)).trans (scd_un (by omega)), fun s h1 h2 => ?_, h.2.2⟩
  by_cases e : s = d
  · subst e; rw [h.1 s (by omega), scd_at]; exact hv
  · exact h.2.1 s (by omega) h2
theorem enm_none {M : Nat → Int32} {C : (Nat → Nat) → Prop} {N : Nat} : ∀ k d c B, d + k = N → (∀ s, d ≤ s → c s = 0) → (∀ c', cpl M N d c c' → ¬ C c') → enm M C k d c B = B := by
  intro k
  induction k with
  | zero =>
    intro d c B hd h0 hC
    rw [enm, if_neg (hC c ⟨fun _ _ => rfl, fun s h1 h2 => by omega, fun s hs => h0 s (by omega)⟩)]
  | succ k ih =>
    intro d c B hd h0 hC
    rw [enm]
    have key : ∀ j, j ≤ 5 → lpS (fun v B => if alw M d v then enm M C k (d + 1) (scd c d v) B else B) j B = B := by
      intro j
      induction j with
      | zero => intro _; rfl
      | succ j ihj =>
        intro hj
        rw [lpS, ihj (by omega)]
        by_cases a : alw M d j
        · rw [if_pos a]
          exact ih (d + 1) _ _ (by omega) (fun s hs => by rw [scd_un (by omega)]; exact h0 s (by omega)) (fun c' hc' => hC c' (cpl_s (by omega) a hc'))
        · rw [if_neg a]
    exact key 5 (Nat.le_refl _)
theorem cml_pos {M : Nat → Int32} : ∀ k d, 1 ≤ cml M k d := by
  intro k
  induction k with
  | zero => intro d; exact Nat.le_refl _
  | succ k ih =>
    intro d
    rw [cml]
    have a := ih (d + 1)
    have mono : ∀ (m j i : Nat), na m j ≤ na m (j + i) := by
      intro m j i
      induction i with
      | zero => exact Nat.le_refl _
      | succ i ihi =>
        show na m j ≤ na m (j + i + 1)
        rw [na]; split <;> omega
    have b : 1 ≤ na (chs M d) 5 := by
      have h1 : na (chs M d) 1 = 1 := na_t alw_0
      have h2 : na (chs M d) 1 ≤ na (chs M d) 5 := mono (chs M d) 1 4
      omega
    exact Nat.mul_le_mul a b
theorem enm_all {M : Nat → Int32} {C : (Nat → Nat) → Prop} (hw : WF M) : ∀ k d c B, d + k = cS M → (∀ s, s < d → c s < 5) → (∀ s, d ≤ s → c s = 0) → (∀ c', cpl M (cS M) d c c' → C c') → enm M C k d c B = gb c (hrt c d) (bsy c d) (cml M k d) (um M (cS M) d c) B := by
  intro k
  induction k with
  | zero =>
    intro d c B hd h5 h0 hC
    rw [enm, if_pos (hC c ⟨fun _ _ => rfl, fun s h1 h2 => by omega, fun s hs => h0 s (by omega)⟩), cml, show cS M = d by omega]
  | succ k ih =>
    intro d c B hd h5 h0 hC
    rw [enm]
    have cp := cml_pos (M := M) k (d + 1)
    have step : ∀ v B, alw M d v → enm M C k (d + 1) (scd c d v) B = gb (scd c d v) (hrt (scd c d v) (d + 1)) (bsy (scd c d v) (d + 1)) (cml M k (d + 1)) (um M (cS M) (d + 1) (scd c d v)) B := by
      intro v B a
      refine ih (d + 1) _ B (by omega) (fun s hs => ?_) (fun s hs => by rw [scd_un (by omega)]; exact h0 s (by omega)) (fun c' hc' => hC c' (cpl_s (by omega) a hc'))
      by_cases e : s = d
      · subst e; rw [scd_at]; exact alw_5 hw (by omega) a
      · rw [scd_un e]; exact h5 s (by omega)
    have key : ∀ j, j < 5 → lpS (fun v B => if alw M d v then enm M C k (d + 1) (scd c d v) B else B) (j + 1) B = gb c (hrt c d) (bsy c d) (na (chs M d) (j + 1) * cml M k (d + 1)) (fun s => if s < d then 2 ^ (c s) else if s = d then orm (chs M d) (j + 1) else if s < cS M then chs M s else 0) B ∧ 1 ≤ na (chs M d) (j + 1) := by
      intro j
      induction j with
      | zero =>
        intro _
        have n1 : na (chs M d) (0 + 1) = 1 := na_t alw_0
        refine ⟨?_, by omega⟩
        rw [n1, lpS, lpS, if_pos alw_0, step 0 B alw_0, scd_0 (h0 d (Nat.le_refl _)), (hrt_0 (h0 d (Nat.le_refl _))).1, (hrt_0 (h0 d (Nat.le_refl _))).2.1, Nat.one_mul]
        congr 1
        funext s
        unfold um
        by_cases e1 : s < d
        · rw [if_pos e1, if_pos (by omega)]
        · rw [if_neg e1]
          by_cases e2 : s = d
          · subst e2
            rw [if_pos (by omega), if_pos rfl, h0 s (Nat.le_refl _), orm_t alw_0]; exact (Nat.zero_or _).symm
          · rw [if_neg (by omega), if_neg e2]
      | succ j ihj =>
        intro hj
        obtain ⟨e, hn⟩ := ihj (by omega)
        rw [lpS, e]
        by_cases a : alw M d (j + 1)
        · rw [if_pos a, step (j + 1) _ a]
          have hm := hrt_s (c := c) (d := d) (v := j + 1) h5 (by omega)
          rw [gb_gb hm.1 hm.2 (Nat.mul_le_mul hn cp), na_t a]
          refine ⟨?_, by omega⟩
          have e2 : na (chs M d) (j + 1) * cml M k (d + 1) + cml M k (d + 1) = (na (chs M d) (j + 1) + 1) * cml M k (d + 1) := by rw [Nat.add_mul, Nat.one_mul]
          rw [e2]
          congr 1
          funext s
          unfold um
          by_cases e1 : s < d
          · rw [if_pos e1, if_pos (by omega), if_pos e1, scd_un (by omega), Nat.or_self]
          · rw [if_neg e1, if_neg e1]
            by_cases e3 : s = d
            · subst e3
              rw [if_pos rfl, if_pos (by omega), if_pos rfl, scd_at, orm_t a]
            · rw [if_neg e3, if_neg (show ¬ s < d + 1 by omega), if_neg e3, Nat.or_self]
        · rw [if_neg a, na_f a]
          refine ⟨?_, hn⟩
          congr 1
          funext s
          by_cases e1 : s < d
          · rw [if_pos e1, if_pos e1]
          · rw [if_neg e1, if_neg e1]
            by_cases e3 : s = d
            · rw [if_pos e3, if_pos e3, orm_f a]
            · rw [if_neg e3, if_neg e3]
    rw [(key 4 (by omega)).1, cml, Nat.mul_comm]
    congr 1
    funext s
    unfold um
    by_cases e1 : s < d
    · rw [if_pos e1, if_pos e1]
    · rw [if_neg e1, if_neg e1]
      by_cases e3 : s = d
      · subst e3
        rw [if_pos rfl, if_pos (by omega), orm_5 _ (chs_lt hw (by omega))]
      · rw [if_neg e3]
def BOK (B : BW) : Prop := bT B ≠ 0 → bH B ≤ 7 ∧ bB B ≤ 7
theorem gb_ok {c0 : Nat → Nat} {h b m : Nat} {u : Nat → Nat} {B : BW} (hB : BOK B) (h7 : h ≤ 7) (b7 : b ≤ 7) : BOK (gb c0 h b m u B) := by
  intro _
  unfold gb
  simp only [bH, bB]
  unfold BOK at hB
  simp only [bT, bH, bB] at hB
  refine ⟨?_, ?_⟩
  · by_cases c : few B h
    · rw [if_pos c]; exact h7
    · rw [if_neg c]; exact (hB (fun q => c (Or.inl q))).1
  · by_cases c : fwb B b
    · rw [if_pos c]; exact b7
    · rw [if_neg c]; exact (hB (fun q => c (Or.inl q))).2
theorem enm_ok {M : Nat → Int32} {C : (Nat → Nat) → Prop} : ∀ k d c B, d + k ≤ 7 → BOK B → BOK (enm M C k d c B) := by
  intro k
  induction k with
  | zero =>
    intro d c B hd hB
    rw [enm]
    have := bsy_le c d
    by_cases q : C c
    · rw [if_pos q]; exact gb_ok hB (by unfold hrt; omega) (by omega)
    · rw [if_neg q]; exact hB
  | succ k ih =>
    intro d c B hd hB
    rw [enm]
    have key : ∀ j, BOK (lpS (fun v B => if alw M d v then enm M C k (d + 1) (scd c d v) B else B) j B) := by
      intro j
      induction j with
      | zero => exact hB
      | succ j ihj =>
        rw [lpS]
        by_cases a : alw M d j
        · rw [if_pos a]; exact ih (d + 1) _ _ (by omega) ihj
        · rw [if_neg a]; exact ihj
    exact key 5
theorem enm_tot {M : Nat → Int32} {C : (Nat → Nat) → Prop} : ∀ k d c B, bT (enm M C k d c B) ≤ bT B + 5 ^ k := by
  intro k
  induction k with
  | zero =>
    intro d c B
    rw [enm]
    by_cases q : C c
    · rw [if_pos q]; unfold gb; exact Nat.le_refl _
    · rw [if_neg q]; exact Nat.le_add_right _ _
  | succ k ih =>
    intro d c B
    rw [enm]
    have key : ∀ j, bT (lpS (fun v B => if alw M d v then enm M C k (d + 1) (scd c d v) B else B) j B) ≤ bT B + j * 5 ^ k := by
      intro j
      induction j with
      | zero => rw [lpS]; omega
      | succ j ihj =>
        rw [lpS, Nat.add_mul, Nat.one_mul]
        by_cases a : alw M d j
        · rw [if_pos a]
          have := ih (d + 1) (scd c d j) (lpS (fun v B => if alw M d v then enm M C k (d + 1) (scd c d v) B else B) j B)
          omega
        · rw [if_neg a]; exact Nat.le_trans ihj (Nat.add_le_add_left (Nat.le_add_right _ _) _)
    have := key 5
    rw [Nat.pow_succ]; omega
/-- what each choice adds to each count; counts of the first d; what the rest can add at most -/
def abc (ab : Nat → Nat → Nat → Nat) (s v i : Nat) : Nat := if v = 0 then 0 else ab s (v - 1) i
def cnt (ab : Nat → Nat → Nat → Nat) (c : Nat → Nat) : Nat → Nat → Nat
  | 0, _ => 0
  | s + 1, i => cnt ab c s i + abc ab s (c s) i
def orb (M : Nat → Int32) (ab : Nat → Nat → Nat → Nat) (s : Nat) : Nat → Nat → Nat
  | 0, _ => 0
  | b + 1, i => if alw M s (b + 1) then (if orb M ab s b i = 1 ∨ ab s b i = 1 then 1 else 0) else orb M ab s b i
def mst (M : Nat → Int32) (ab : Nat → Nat → Nat → Nat) : Nat → Nat → Nat → Nat
  | 0, _, _ => 0
  | k + 1, d, i => mst M ab k (d + 1) i + orb M ab d 4 i
theorem cnt_cong {ab : Nat → Nat → Nat → Nat} {c e : Nat → Nat} {i : Nat} : ∀ {d : Nat}, (∀ s, s < d → c s = e s) → cnt ab c d i = cnt ab e d i := by
  intro d
  induction d with
  | zero => intro _; rfl
  | succ d ih => intro h; rw [cnt, cnt, h d (by omega), ih (fun s hs => h s (by omega))]
theorem orb_le {M : Nat → Int32} {ab : Nat → Nat → Nat → Nat} {s i : Nat} : ∀ b, orb M ab s b i ≤ 1 := by
  intro b
  induction b with
  | zero => exact Nat.zero_le _
  | succ b ih => rw [orb]; split
                 · split <;> omega
                 · exact ih
theorem orb_ge {M : Nat → Int32} {ab : Nat → Nat → Nat → Nat} {s i b : Nat} (ha : alw M s (b + 1)) (h1 : ab s b i = 1) : ∀ k, orb M ab s (b + 1 + k) i = 1 := by
  intro k
  induction k with
  | zero => rw [Nat.add_zero, orb, if_pos ha, if_pos (Or.inr h1)]
  | succ k ih =>
    show orb M ab s (b + 1 + k + 1) i = 1
    rw [orb, ih]
    split
    · rw [if_pos (Or.inl rfl)]
    · rfl
theorem cnt_le {ab : Nat → Nat → Nat → Nat} (h1 : ∀ s b i, ab s b i ≤ 1) {c : Nat → Nat} {i : Nat} : ∀ d, cnt ab c d i ≤ d := by
  intro d
  induction d with
  | zero => exact Nat.le_refl _
  | succ d ih =>
    rw [cnt, abc]
    have := h1 d (c d - 1) i
    split <;> omega
theorem mst_le {M : Nat → Int32} {ab : Nat → Nat → Nat → Nat} {i : Nat} : ∀ k d, mst M ab k d i ≤ k := by
  intro k
  induction k with
  | zero => intro d; exact Nat.le_refl _
  | succ k ih =>
    intro d
    rw [mst]
    have := ih (d + 1)
    have := orb_le (M := M) (ab := ab) (s := d) (i := i) 4
    omega
theorem cnt_rng {M : Nat → Int32} (hw : WF M) {ab : Nat → Nat → Nat → Nat} (h1 : ∀ s b i, ab s b i ≤ 1) {c' : Nat → Nat} {i : Nat} : ∀ k d, d + k = cS M → (∀ s, d ≤ s → s < cS M → alw M s (c' s)) → cnt ab c' d i ≤ cnt ab c' (cS M) i ∧ cnt ab c' (cS M) i ≤ cnt ab c' d i + mst M ab k d i := by
  intro k
  induction k with
  | zero => intro d hd h; rw [show cS M = d by omega, mst]; omega
  | succ k ih =>
    intro d hd h
    have e := ih (d + 1) (by omega) (fun s h1 h2 => h s (by omega) h2)
    have a := h d (Nat.le_refl _) (by omega)
    rw [cnt] at e
    rw [mst]
    have b : abc ab d (c' d) i ≤ orb M ab d 4 i := by
      unfold abc
      by_cases q : c' d = 0
      · rw [if_pos q]; exact Nat.zero_le _
      · rw [if_neg q]
        have a5 := alw_5 hw (show d < cS M by omega) a
        rcases (show ab d (c' d - 1) i = 0 ∨ ab d (c' d - 1) i = 1 by have := h1 d (c' d - 1) i; omega) with z | z
        · rw [z]; exact Nat.zero_le _
        · have := orb_ge (M := M) (b := c' d - 1) (by rw [show c' d - 1 + 1 = c' d by omega]; exact a) z (4 - c' d)
          rw [show c' d - 1 + 1 + (4 - c' d) = 4 by omega] at this
          omega
    omega
