/-! THE MATHEMATICS. Base: how the functions are unfolded, numbers, the mountain M : Nat → Int32 as one row (0 places, 1 years, 2 paths, 3 brides, 4 suitors, 5 walkers, 6 lines; 7+p heights, 15+y rain, 45+2p+k ends of paths, 65+2b+k brides, 73+3s+k suitors, 94+2w+k walkers, 102+s whom each courts) -/
theorem bds {ρ β : Type} (v : ρ) (S : WS) (k : ρ → WS → Option β) : bd (some (v, S)) k = k v S := rfl
theorem lts {α β : Type} (v : α) (k : α → β) : lt v k = k v := rfl
theorem obs {α β : Type} (a : α) (k : α → Option β) : (some a).bind k = k a := rfl
theorem oes {α β : Type} (a : α) (x : β) (k : α → β) : (some a).elim x k = k a := rfl
theorem oen {α β : Type} (x : β) (k : α → β) : (none : Option α).elim x k = x := rfl
theorem zc0 {S : WS} : zc 0 S = some (0, S) := rfl
theorem zc1 {S : WS} : zc 1 S = some (1, S) := rfl
noncomputable def b2i (p : Prop) : Int32 := @ite Int32 p (Classical.propDecidable p) 1 0
theorem b2i_t {p : Prop} (h : p) : b2i p = 1 := @if_pos p (Classical.propDecidable p) h _ _ _
theorem b2i_f {p : Prop} (h : ¬ p) : b2i p = 0 := @if_neg p (Classical.propDecidable p) h _ _ _
theorem b2i_c {p q : Prop} (h : p ↔ q) : b2i p = b2i q := by rw [propext h]
theorem zc_b {p : Prop} {S : WS} : zc (b2i p) S = some (b2i p, S) := by
  by_cases h : p
  · rw [b2i_t h]; rfl
  · rw [b2i_f h]; rfl
theorem b2i_eq0 {p : Prop} : (b2i p = 0) ↔ ¬ p := by
  by_cases h : p
  · rw [b2i_t h]; exact ⟨fun q => absurd q (by decide), fun q => absurd h q⟩
  · rw [b2i_f h]; exact ⟨fun _ => h, fun _ => rfl⟩
theorem lcm_lt {x y : Int64} : lg_cmp x y < 0 ↔ x < y := lg_cmp_lt x y
theorem lcm_gt {x y : Int64} : 0 < lg_cmp x y ↔ y < x := lg_cmp_gt x y
theorem e_in {E : EN} {n : Nat} {S : WS} {x y z : Int64} : f_X9_in E n S x y z = some (b2i (¬ x < y ∧ ¬ z < x), S) := by
  unfold f_X9_in
  by_cases h : x < y
  · rw [if_pos (lcm_lt.mpr h), b2i_f (fun q => q.1 h)]
  · rw [if_neg (fun q => h (lcm_lt.mp q))]
    by_cases h2 : z < x
    · rw [if_pos (lcm_gt.mpr h2), b2i_f (fun q => q.2 h2)]
    · rw [if_neg (fun q => h2 (lcm_gt.mp q)), b2i_t ⟨h, h2⟩]
theorem i64_lt {x y : Int32} : x.toInt64 < y.toInt64 ↔ x < y := by
  rw [Int64.lt_iff_toInt_lt, Int32.lt_iff_toInt_lt, Int32.toInt_toInt64, Int32.toInt_toInt64]
theorem e_in32 {E : EN} {n : Nat} {S : WS} {x y z : Int32} : f_X9_in E n S x.toInt64 y.toInt64 z.toInt64 = some (b2i (¬ x < y ∧ ¬ z < x), S) := by
  rw [e_in, b2i_c (q := ¬ x < y ∧ ¬ z < x) (by rw [i64_lt, i64_lt])]
/-- what an argument is: out of its bounds below N, or a number below it -/
theorem ixc (x : Int32) {N : Nat} (hN : N < 2 ^ 31) : (x < 0 ∨ nI N ≤ x) ∨ ∃ j : Nat, j < N ∧ x = nI j := by
  rcases pk_ix x hN with h | h | h
  · exact Or.inl (Or.inl h)
  · exact Or.inl (Or.inr h)
  · exact Or.inr h
/-- two worlds agree at the cells of P -/
def agr (P : Nat → Prop) (S S' : WS) : Prop := ∀ b, P b → (∀ f, gi S' f b = gi S f b) ∧ (∀ f, gj S' f b = gj S f b) ∧ (∀ f, gr S' f b = gr S f b) ∧ ai S' b = ai S b ∧ aj S' b = aj S b ∧ ar S' b = ar S b
theorem agr.rf {P : Nat → Prop} {S : WS} : agr P S S := fun _ _ => ⟨fun _ => rfl, fun _ => rfl, fun _ => rfl, rfl, rfl, rfl⟩
theorem agr.tr {P : Nat → Prop} {S S1 S2 : WS} (h : agr P S S1) (h2 : agr P S1 S2) : agr P S S2 := fun b hb => ⟨fun f => ((h2 b hb).1 f).trans ((h b hb).1 f), fun f => ((h2 b hb).2.1 f).trans ((h b hb).2.1 f), fun f => ((h2 b hb).2.2.1 f).trans ((h b hb).2.2.1 f), (h2 b hb).2.2.2.1.trans (h b hb).2.2.2.1, (h2 b hb).2.2.2.2.1.trans (h b hb).2.2.2.2.1, (h2 b hb).2.2.2.2.2.trans (h b hb).2.2.2.2.2⟩
theorem agr.mono {P P' : Nat → Prop} {S S' : WS} (h : agr P S S') (hp : ∀ b, P' b → P b) : agr P' S S' := fun b hb => h b (hp b hb)
theorem agr.si {P : Nat → Prop} {S : WS} {f a : Nat} {v : Int32} (h : ¬ P a) : agr P S (si S f a v) := fun b hb => ⟨fun g => gi_si_a (fun q => h (q ▸ hb)), fun _ => rfl, fun _ => rfl, rfl, rfl, rfl⟩
theorem agr.sj {P : Nat → Prop} {S : WS} {f a : Nat} {v : Int64} (h : ¬ P a) : agr P S (sj S f a v) := fun b hb => ⟨fun _ => rfl, fun g => gj_sj_a (fun q => h (q ▸ hb)), fun _ => rfl, rfl, rfl, rfl⟩
theorem agr.sr {P : Nat → Prop} {S : WS} {f a : Nat} {v : Option Nat} (h : ¬ P a) : agr P S (sr S f a v) := fun b hb => ⟨fun _ => rfl, fun _ => rfl, fun g => gr_sr_a (fun q => h (q ▸ hb)), rfl, rfl, rfl⟩
theorem agr.wi {P : Nat → Prop} {S : WS} {a : Nat} {g : Nat → Int32} (h : ¬ P a) : agr P S (wi S a g) := fun b hb => ⟨fun _ => rfl, fun _ => rfl, fun _ => rfl, ai_wi_a (fun q => h (q ▸ hb)), rfl, rfl⟩
theorem agr.wj {P : Nat → Prop} {S : WS} {a : Nat} {g : Nat → Int64} (h : ¬ P a) : agr P S (wj S a g) := fun b hb => ⟨fun _ => rfl, fun _ => rfl, fun _ => rfl, rfl, aj_wj_a (fun q => h (q ▸ hb)), rfl⟩
/-- the counts of a mountain -/
abbrev cP (M : Nat → Int32) : Nat := (M 0).toNatClampNeg
abbrev cY (M : Nat → Int32) : Nat := (M 1).toNatClampNeg
abbrev cA (M : Nat → Int32) : Nat := (M 2).toNatClampNeg
abbrev cB (M : Nat → Int32) : Nat := (M 3).toNatClampNeg
abbrev cS (M : Nat → Int32) : Nat := (M 4).toNatClampNeg
abbrev cW (M : Nat → Int32) : Nat := (M 5).toNatClampNeg
/-- what every mountain keeps -/
def WF (M : Nat → Int32) : Prop :=
  (M 0 = nI (cP M) ∧ M 1 = nI (cY M) ∧ M 2 = nI (cA M) ∧ M 3 = nI (cB M) ∧ M 4 = nI (cS M) ∧ M 5 = nI (cW M)) ∧
  (cP M ≤ 8 ∧ cY M ≤ 30 ∧ cA M ≤ 10 ∧ cB M ≤ 4 ∧ cS M ≤ 7 ∧ cW M ≤ 4) ∧
  (cP M = 0 → cY M = 0 ∧ cA M = 0 ∧ cB M = 0 ∧ cS M = 0 ∧ cW M = 0 ∧ M 6 = 0) ∧
  (0 < cP M → 2 ≤ cP M ∧ 1 ≤ cY M) ∧
  (∀ p, p < 8 → ∃ h : Nat, h ≤ 99 ∧ M (7 + p) = nI h) ∧ (∀ y, y < 30 → ∃ h : Nat, h ≤ 100 ∧ M (15 + y) = nI h) ∧
  (∀ p, p < cA M → ∃ a b : Nat, a < cP M ∧ b < cP M ∧ a ≠ b ∧ M (45 + 2 * p) = nI a ∧ M (46 + 2 * p) = nI b) ∧
  (∀ p q, p < cA M → q < cA M → ((M (45 + 2 * p) = M (45 + 2 * q) ∧ M (46 + 2 * p) = M (46 + 2 * q)) ∨ (M (45 + 2 * p) = M (46 + 2 * q) ∧ M (46 + 2 * p) = M (45 + 2 * q))) → p = q) ∧
  (∀ b, b < cB M → ∃ p y : Nat, p < cA M ∧ y < cY M ∧ M (65 + 2 * b) = nI p ∧ M (66 + 2 * b) = nI y) ∧
  (∀ s, s < cS M → ∃ k q f : Nat, k ≤ 30 ∧ q ≤ 100 ∧ 0 < f ∧ f < 2 ^ cB M ∧ M (73 + 3 * s) = nI k ∧ M (74 + 3 * s) = nI q ∧ M (75 + 3 * s) = nI f) ∧
  (∀ w, w < cW M → ∃ l a : Nat, l ≤ 99 ∧ a < cP M ∧ M (94 + 2 * w) = nI l ∧ M (95 + 2 * w) = nI a) ∧
  (∀ s, s < 7 → cP M = 0 ∨ M (102 + s) = -1 ∨ ∃ b f : Nat, s < cS M ∧ b < cB M ∧ M (102 + s) = nI b ∧ M (75 + 3 * s) = nI f ∧ f.testBit b = true) ∧ (∃ l : Nat, l ≤ 1400 ∧ M 6 = nI l)
/-- the shape of an object Mountain: its rows lie behind it -/
def MS0 (E : EN) (S : WS) (a : Nat) : Prop := (∀ k, k < 12 → gr S (135 + k) a = some (a + 1 + k)) ∧ eN E (a + 1) = 8 ∧ eN E (a + 2) = 10 ∧ eN E (a + 3) = 10 ∧ eN E (a + 4) = 4 ∧ eN E (a + 5) = 4 ∧ eN E (a + 6) = 7 ∧ eN E (a + 7) = 7 ∧ eN E (a + 8) = 7 ∧ eN E (a + 9) = 7 ∧ eN E (a + 10) = 30 ∧ eN E (a + 11) = 4 ∧ eN E (a + 12) = 4
/-- an object Mountain holds M -/
def RMt (E : EN) (S : WS) (a : Nat) (M : Nat → Int32) : Prop :=
  MS0 E S a ∧ (gi S 128 a = M 6 ∧ gi S 129 a = M 0 ∧ gi S 130 a = M 1 ∧ gi S 131 a = M 2 ∧ gi S 132 a = M 3 ∧ gi S 133 a = M 4 ∧ gi S 134 a = M 5) ∧
  (∀ p, p < 8 → ai S (a + 1) p = M (7 + p)) ∧ (∀ p, p < cA M → ai S (a + 2) p = M (45 + 2 * p) ∧ ai S (a + 3) p = M (46 + 2 * p)) ∧
  (∀ b, b < cB M → ai S (a + 4) b = M (65 + 2 * b) ∧ ai S (a + 5) b = M (66 + 2 * b)) ∧
  (∀ s, s < cS M → ai S (a + 6) s = M (73 + 3 * s) ∧ ai S (a + 7) s = M (74 + 3 * s) ∧ ai S (a + 8) s = M (75 + 3 * s)) ∧
  (∀ s, s < 7 → ai S (a + 9) s = M (102 + s)) ∧ (∀ y, y < 30 → ai S (a + 10) y = M (15 + y)) ∧
  (∀ w, w < cW M → ai S (a + 11) w = M (94 + 2 * w) ∧ ai S (a + 12) w = M (95 + 2 * w))
/-- the model's world holds M (its row lies behind it) -/
def RWo (E : EN) (S : WS) (m : Nat) (M : Nat → Int32) : Prop := gr S 513 m = some (m + 1) ∧ eN E (m + 1) = 109 ∧ (∀ i, i < 109 → ai S (m + 1) i = M i) ∧ gi S 527 m = -1
theorem RMt.g135 {E : EN} {S : WS} {a : Nat} {M : Nat → Int32} (h : RMt E S a M) : gr S 135 a = some (a + 1) := h.1.1 0 (by decide)
theorem RMt.g136 {E : EN} {S : WS} {a : Nat} {M : Nat → Int32} (h : RMt E S a M) : gr S 136 a = some (a + 2) := h.1.1 1 (by decide)
theorem RMt.g137 {E : EN} {S : WS} {a : Nat} {M : Nat → Int32} (h : RMt E S a M) : gr S 137 a = some (a + 3) := h.1.1 2 (by decide)
theorem RMt.g138 {E : EN} {S : WS} {a : Nat} {M : Nat → Int32} (h : RMt E S a M) : gr S 138 a = some (a + 4) := h.1.1 3 (by decide)
theorem RMt.g139 {E : EN} {S : WS} {a : Nat} {M : Nat → Int32} (h : RMt E S a M) : gr S 139 a = some (a + 5) := h.1.1 4 (by decide)
theorem RMt.g140 {E : EN} {S : WS} {a : Nat} {M : Nat → Int32} (h : RMt E S a M) : gr S 140 a = some (a + 6) := h.1.1 5 (by decide)
theorem RMt.g141 {E : EN} {S : WS} {a : Nat} {M : Nat → Int32} (h : RMt E S a M) : gr S 141 a = some (a + 7) := h.1.1 6 (by decide)
theorem RMt.g142 {E : EN} {S : WS} {a : Nat} {M : Nat → Int32} (h : RMt E S a M) : gr S 142 a = some (a + 8) := h.1.1 7 (by decide)
theorem RMt.g143 {E : EN} {S : WS} {a : Nat} {M : Nat → Int32} (h : RMt E S a M) : gr S 143 a = some (a + 9) := h.1.1 8 (by decide)
theorem RMt.g144 {E : EN} {S : WS} {a : Nat} {M : Nat → Int32} (h : RMt E S a M) : gr S 144 a = some (a + 10) := h.1.1 9 (by decide)
theorem RMt.g145 {E : EN} {S : WS} {a : Nat} {M : Nat → Int32} (h : RMt E S a M) : gr S 145 a = some (a + 11) := h.1.1 10 (by decide)
theorem RMt.g146 {E : EN} {S : WS} {a : Nat} {M : Nat → Int32} (h : RMt E S a M) : gr S 146 a = some (a + 12) := h.1.1 11 (by decide)
theorem RMt.n1 {E : EN} {S : WS} {a : Nat} {M : Nat → Int32} (h : RMt E S a M) : eN E (a + 1) = 8 := h.1.2.1
theorem RMt.n2 {E : EN} {S : WS} {a : Nat} {M : Nat → Int32} (h : RMt E S a M) : eN E (a + 2) = 10 := h.1.2.2.1
theorem RMt.n3 {E : EN} {S : WS} {a : Nat} {M : Nat → Int32} (h : RMt E S a M) : eN E (a + 3) = 10 := h.1.2.2.2.1
theorem RMt.n4 {E : EN} {S : WS} {a : Nat} {M : Nat → Int32} (h : RMt E S a M) : eN E (a + 4) = 4 := h.1.2.2.2.2.1
theorem RMt.n5 {E : EN} {S : WS} {a : Nat} {M : Nat → Int32} (h : RMt E S a M) : eN E (a + 5) = 4 := h.1.2.2.2.2.2.1
theorem RMt.n6 {E : EN} {S : WS} {a : Nat} {M : Nat → Int32} (h : RMt E S a M) : eN E (a + 6) = 7 := h.1.2.2.2.2.2.2.1
theorem RMt.n7 {E : EN} {S : WS} {a : Nat} {M : Nat → Int32} (h : RMt E S a M) : eN E (a + 7) = 7 := h.1.2.2.2.2.2.2.2.1
theorem RMt.n8 {E : EN} {S : WS} {a : Nat} {M : Nat → Int32} (h : RMt E S a M) : eN E (a + 8) = 7 := h.1.2.2.2.2.2.2.2.2.1
theorem RMt.n9 {E : EN} {S : WS} {a : Nat} {M : Nat → Int32} (h : RMt E S a M) : eN E (a + 9) = 7 := h.1.2.2.2.2.2.2.2.2.2.1
theorem RMt.n10 {E : EN} {S : WS} {a : Nat} {M : Nat → Int32} (h : RMt E S a M) : eN E (a + 10) = 30 := h.1.2.2.2.2.2.2.2.2.2.2.1
theorem RMt.n11 {E : EN} {S : WS} {a : Nat} {M : Nat → Int32} (h : RMt E S a M) : eN E (a + 11) = 4 := h.1.2.2.2.2.2.2.2.2.2.2.2.1
theorem RMt.n12 {E : EN} {S : WS} {a : Nat} {M : Nat → Int32} (h : RMt E S a M) : eN E (a + 12) = 4 := h.1.2.2.2.2.2.2.2.2.2.2.2.2
theorem RMt.i128 {E : EN} {S : WS} {a : Nat} {M : Nat → Int32} (h : RMt E S a M) : gi S 128 a = M 6 := h.2.1.1
theorem RMt.i129 {E : EN} {S : WS} {a : Nat} {M : Nat → Int32} (h : RMt E S a M) : gi S 129 a = M 0 := h.2.1.2.1
theorem RMt.i130 {E : EN} {S : WS} {a : Nat} {M : Nat → Int32} (h : RMt E S a M) : gi S 130 a = M 1 := h.2.1.2.2.1
theorem RMt.i131 {E : EN} {S : WS} {a : Nat} {M : Nat → Int32} (h : RMt E S a M) : gi S 131 a = M 2 := h.2.1.2.2.2.1
theorem RMt.i132 {E : EN} {S : WS} {a : Nat} {M : Nat → Int32} (h : RMt E S a M) : gi S 132 a = M 3 := h.2.1.2.2.2.2.1
theorem RMt.i133 {E : EN} {S : WS} {a : Nat} {M : Nat → Int32} (h : RMt E S a M) : gi S 133 a = M 4 := h.2.1.2.2.2.2.2.1
theorem RMt.i134 {E : EN} {S : WS} {a : Nat} {M : Nat → Int32} (h : RMt E S a M) : gi S 134 a = M 5 := h.2.1.2.2.2.2.2.2
theorem WF.s4 {M : Nat → Int32} (h : WF M) : M 4 = nI (cS M) := h.1.2.2.2.2.1
theorem WF.s3 {M : Nat → Int32} (h : WF M) : M 3 = nI (cB M) := h.1.2.2.2.1
theorem WF.s2 {M : Nat → Int32} (h : WF M) : M 2 = nI (cA M) := h.1.2.2.1
theorem WF.s1 {M : Nat → Int32} (h : WF M) : M 1 = nI (cY M) := h.1.2.1
theorem WF.s0 {M : Nat → Int32} (h : WF M) : M 0 = nI (cP M) := h.1.1
theorem WF.s5 {M : Nat → Int32} (h : WF M) : M 5 = nI (cW M) := h.1.2.2.2.2.2
theorem WF.lS {M : Nat → Int32} (h : WF M) : cS M ≤ 7 := h.2.1.2.2.2.2.1
theorem WF.lB {M : Nat → Int32} (h : WF M) : cB M ≤ 4 := h.2.1.2.2.2.1
theorem WF.lA {M : Nat → Int32} (h : WF M) : cA M ≤ 10 := h.2.1.2.2.1
theorem WF.lY {M : Nat → Int32} (h : WF M) : cY M ≤ 30 := h.2.1.2.1
theorem WF.lP {M : Nat → Int32} (h : WF M) : cP M ≤ 8 := h.2.1.1
theorem WF.lW {M : Nat → Int32} (h : WF M) : cW M ≤ 4 := h.2.1.2.2.2.2.2
/-- a row's place below its length -/
theorem rin {j N : Nat} (h : j < N) (hN : N < 2 ^ 31) : ¬ (nI j < 0 ∨ N ≤ (nI j).toNatClampNeg) := nI_in h hN
theorem rinc {j N : Nat} (h : j < N) (hN : N < 2 ^ 31) : ¬ (nI j < 0 ∨ N ≤ j) := by
  rintro (q | q)
  · exact nI_pos (by omega) q
  · omega
/-- by whom a bride is taken, of the first so many suitors (c: whom each courts, k: skills) -/
def tkn (c k : Nat → Int32) (b : Int32) : Nat → Int32
  | 0 => -1
  | s + 1 => if c s = b then (if tkn c k b s = -1 then nI s else if k s ≤ k (tkn c k b s).toNatClampNeg then tkn c k b s else nI s) else tkn c k b s
theorem tkn_is (c k : Nat → Int32) (b : Int32) : ∀ s, s < 2 ^ 31 → tkn c k b s = -1 ∨ ∃ j, j < s ∧ tkn c k b s = nI j ∧ c j = b := by
  intro s
  induction s with
  | zero => intro _; exact Or.inl rfl
  | succ s ih =>
    intro hs
    have ih := ih (by omega)
    unfold tkn
    by_cases h1 : c s = b
    · rw [if_pos h1]
      by_cases h2 : tkn c k b s = -1
      · rw [if_pos h2]; exact Or.inr ⟨s, by omega, rfl, h1⟩
      · rw [if_neg h2]
        by_cases h3 : k s ≤ k (tkn c k b s).toNatClampNeg
        · rw [if_pos h3]
          rcases ih with h | ⟨j, hj, e, e2⟩
          · exact absurd h h2
          · exact Or.inr ⟨j, by omega, e, e2⟩
        · rw [if_neg h3]; exact Or.inr ⟨s, by omega, rfl, h1⟩
    · rw [if_neg h1]
      rcases ih with h | ⟨j, hj, e, e2⟩
      · exact Or.inl h
      · exact Or.inr ⟨j, by omega, e, e2⟩
theorem e_X3_takenBy_L {E : EN} {n : Nat} {S : WS} {a h1 : Nat} {M : Nat → Int32} (h : RMt E S a M) (hw : WF M) (hl : eN E h1 = 7) (b : Int32) : ∀ (k s m : Nat), s + k = cS M → k < m → f_X3_takenBy_L5 E n m S a h1 b (tkn (ai S h1) (fun s => M (73 + 3 * s)) b s) (nI s) = some (tkn (ai S h1) (fun s => M (73 + 3 * s)) b (cS M), S) := by
  have hS := hw.lS
  intro k
  induction k with
  | zero =>
    intro s m hs hm
    obtain ⟨m, rfl⟩ : ∃ q, m = q + 1 := ⟨m - 1, by omega⟩
    unfold f_X3_takenBy_L5
    rw [h.i133, hw.s4, if_pos (nI_le (by omega) (by omega)), show s = cS M by omega]
  | succ k ih =>
    intro s m hs hm
    obtain ⟨m, rfl⟩ : ∃ q, m = q + 1 := ⟨m - 1, by omega⟩
    unfold f_X3_takenBy_L5
    rw [h.i133, hw.s4, if_neg (nI_ge (by omega) (by omega)), hl, if_neg (rin (by omega) (by omega)), nI_clamp (show s < 2 ^ 31 by omega)]
    have step := ih (s + 1) m (by omega) (by omega)
    rw [tkn] at step
    by_cases c1 : ai S h1 s = b
    · rw [if_pos c1] at step ⊢
      by_cases c2 : tkn (ai S h1) (fun s => M (73 + 3 * s)) b s = -1
      · rw [if_pos c2] at step
        rw [if_pos c2, lts, nI_1]
        exact step
      · rw [if_neg c2] at step
        rw [if_neg c2, h.g140, obs, h.n6, if_neg (rinc (by omega) (by omega)), obs, h.n6]
        rcases tkn_is (ai S h1) (fun s => M (73 + 3 * s)) b s (by omega) with q | ⟨j, hj, q, -⟩
        · exact absurd q c2
        · rw [q] at step ⊢
          rw [nI_clamp (show j < 2 ^ 31 by omega)] at step ⊢
          rw [if_neg (rinc (by omega) (by omega))]
          rw [(h.2.2.2.2.2.1 s (by omega)).1, (h.2.2.2.2.2.1 j (by omega)).1]
          by_cases c3 : M (73 + 3 * s) ≤ M (73 + 3 * j)
          · rw [if_pos c3] at step ⊢
            rw [lts, nI_1]; exact step
          · rw [if_neg c3] at step ⊢
            rw [lts, nI_1]; exact step
    · rw [if_neg c1] at step ⊢
      rw [lts, nI_1]; exact step
theorem e_X3_takenBy {E : EN} {n : Nat} {S : WS} {a h1 : Nat} {M : Nat → Int32} (h : RMt E S a M) (hw : WF M) (hl : eN E h1 = 7) (hn : 8 ≤ n) (b : Int32) : f_X3_takenBy E n S a h1 b = some (tkn (ai S h1) (fun s => M (73 + 3 * s)) b (cS M), S) := e_X3_takenBy_L h hw hl b (cS M) 0 n (by omega) (by have := hw.lS; omega)
