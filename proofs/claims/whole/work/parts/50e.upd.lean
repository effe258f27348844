/-! A mountain read piece by piece: what stays true -/
def wH (R : Nat → Int32) : Prop := ∀ p, p < 8 → ∃ h : Nat, h ≤ 99 ∧ R (7 + p) = nI h
def wRn (R : Nat → Int32) : Prop := ∀ y, y < 30 → ∃ h : Nat, h ≤ 100 ∧ R (15 + y) = nI h
def wA (P A : Nat) (R : Nat → Int32) : Prop := (∀ p, p < A → ∃ a b : Nat, a < P ∧ b < P ∧ a ≠ b ∧ R (45 + 2 * p) = nI a ∧ R (46 + 2 * p) = nI b) ∧ ∀ p q, p < A → q < A → ((R (45 + 2 * p) = R (45 + 2 * q) ∧ R (46 + 2 * p) = R (46 + 2 * q)) ∨ (R (45 + 2 * p) = R (46 + 2 * q) ∧ R (46 + 2 * p) = R (45 + 2 * q))) → p = q
def wB (A Y B : Nat) (R : Nat → Int32) : Prop := ∀ b, b < B → ∃ p y : Nat, p < A ∧ y < Y ∧ R (65 + 2 * b) = nI p ∧ R (66 + 2 * b) = nI y
def wS (B s0 : Nat) (R : Nat → Int32) : Prop := ∀ s, s < s0 → ∃ k q f : Nat, k ≤ 30 ∧ q ≤ 100 ∧ 0 < f ∧ f < 2 ^ B ∧ R (73 + 3 * s) = nI k ∧ R (74 + 3 * s) = nI q ∧ R (75 + 3 * s) = nI f
def wW (P W : Nat) (R : Nat → Int32) : Prop := ∀ w, w < W → ∃ l a : Nat, l ≤ 99 ∧ a < P ∧ R (94 + 2 * w) = nI l ∧ R (95 + 2 * w) = nI a
def wC (B s0 : Nat) (R : Nat → Int32) : Prop := ∀ s, s < 7 → R (102 + s) = -1 ∨ ∃ b f : Nat, s < s0 ∧ b < B ∧ R (102 + s) = nI b ∧ R (75 + 3 * s) = nI f ∧ f.testBit b = true
theorem WF_mk {R : Nat → Int32} {P Y A B s0 W l : Nat} (e0 : R 0 = nI P) (e1 : R 1 = nI Y) (e2 : R 2 = nI A) (e3 : R 3 = nI B) (e4 : R 4 = nI s0) (e5 : R 5 = nI W) (e6 : R 6 = nI l) (hb : P ≤ 8 ∧ Y ≤ 30 ∧ A ≤ 10 ∧ B ≤ 4 ∧ s0 ≤ 7 ∧ W ≤ 4) (hl : l ≤ 1400) (hz : P = 0 → Y = 0 ∧ A = 0 ∧ B = 0 ∧ s0 = 0 ∧ W = 0 ∧ l = 0) (hp : 0 < P → 2 ≤ P ∧ 1 ≤ Y) (h1 : wH R) (h2 : wRn R) (h3 : wA P A R) (h4 : wB A Y B R) (h5 : wS B s0 R) (h6 : wW P W R) (h7 : wC B s0 R) : WF R := by
  have c0 : cP R = P := by show (R 0).toNatClampNeg = P; rw [e0, nI_clamp (by omega)]
  have c1 : cY R = Y := by show (R 1).toNatClampNeg = Y; rw [e1, nI_clamp (by omega)]
  have c2 : cA R = A := by show (R 2).toNatClampNeg = A; rw [e2, nI_clamp (by omega)]
  have c3 : cB R = B := by show (R 3).toNatClampNeg = B; rw [e3, nI_clamp (by omega)]
  have c4 : cS R = s0 := by show (R 4).toNatClampNeg = s0; rw [e4, nI_clamp (by omega)]
  have c5 : cW R = W := by show (R 5).toNatClampNeg = W; rw [e5, nI_clamp (by omega)]
  unfold WF
  rw [c0, c1, c2, c3, c4, c5]
  refine ⟨⟨e0, e1, e2, e3, e4, e5⟩, hb, fun z => by obtain ⟨z1, z2, z3, z4, z5, z6⟩ := hz z; exact ⟨z1, z2, z3, z4, z5, by rw [e6, z6]; rfl⟩, hp, h1, h2, h3.1, h3.2, h4, h5, h6, fun s hs => Or.inr (h7 s hs), l, hl, e6⟩
section UPW
variable {R R' : Nat → Int32}
theorem wH.c (h : wH R) (e : ∀ i, 7 ≤ i → i < 15 → R' i = R i) : wH R' := fun p hp => by rw [e _ (by omega) (by omega)]; exact h p hp
theorem wRn.c (h : wRn R) (e : ∀ i, 15 ≤ i → i < 45 → R' i = R i) : wRn R' := fun p hp => by rw [e _ (by omega) (by omega)]; exact h p hp
theorem wA.c {P A : Nat} (h : wA P A R) (hA : A ≤ 10) (e : ∀ i, 45 ≤ i → i < 65 → R' i = R i) : wA P A R' := ⟨fun p hp => by rw [e _ (by omega) (by omega), e _ (by omega) (by omega)]; exact h.1 p hp, fun p q hp hq => by rw [e (45 + 2 * p) (by omega) (by omega), e (46 + 2 * p) (by omega) (by omega), e (45 + 2 * q) (by omega) (by omega), e (46 + 2 * q) (by omega) (by omega)]; exact h.2 p q hp hq⟩
theorem wB.c {A A' Y B : Nat} (h : wB A Y B R) (hA : A ≤ A') (hB : B ≤ 4) (e : ∀ i, 65 ≤ i → i < 73 → R' i = R i) : wB A' Y B R' := fun p hp => by
  rw [e _ (by omega) (by omega), e _ (by omega) (by omega)]
  obtain ⟨u, v, h1, h2⟩ := h p hp
  exact ⟨u, v, by omega, h2⟩
theorem wS.c {B B' s0 : Nat} (h : wS B s0 R) (hB : B ≤ B') (hs : s0 ≤ 7) (e : ∀ i, 73 ≤ i → i < 94 → R' i = R i) : wS B' s0 R' := fun p hp => by
  rw [e _ (by omega) (by omega), e _ (by omega) (by omega), e _ (by omega) (by omega)]
  obtain ⟨k, q, f, h1, h2, h3, h4, h5⟩ := h p hp
  exact ⟨k, q, f, h1, h2, h3, Nat.lt_of_lt_of_le h4 (Nat.pow_le_pow_right (by decide) hB), h5⟩
theorem wW.c {P W : Nat} (h : wW P W R) (hW : W ≤ 4) (e : ∀ i, 94 ≤ i → i < 102 → R' i = R i) : wW P W R' := fun p hp => by rw [e _ (by omega) (by omega), e _ (by omega) (by omega)]; exact h p hp
theorem wC.c {B B' s0 s1 : Nat} (h : wC B s0 R) (hB : B ≤ B') (hs : s0 ≤ s1) (hs0 : s0 ≤ 7) (e : ∀ i, 102 ≤ i → i < 109 → R' i = R i) (e2 : ∀ s, s < s0 → R' (75 + 3 * s) = R (75 + 3 * s)) : wC B' s1 R' := fun p hp => by
  rw [e _ (by omega) (by omega)]
  rcases h p hp with z | ⟨b, f, h1, h2, h3, h4, h5⟩
  · exact Or.inl z
  · exact Or.inr ⟨b, f, by omega, by omega, h3, by rw [e2 p h1]; exact h4, h5⟩
theorem WF.c6 (h : WF R) : ∃ l : Nat, l ≤ 1400 ∧ R 6 = nI l := h.2.2.2.2.2.2.2.2.2.2.2.2
theorem WF.sec (h : WF R) (p0 : 0 < cP R) : wH R ∧ wRn R ∧ wA (cP R) (cA R) R ∧ wB (cA R) (cY R) (cB R) R ∧ wS (cB R) (cS R) R ∧ wW (cP R) (cW R) R ∧ wC (cB R) (cS R) R := ⟨h.2.2.2.2.1, h.2.2.2.2.2.1, ⟨h.2.2.2.2.2.2.1, h.2.2.2.2.2.2.2.1⟩, h.2.2.2.2.2.2.2.2.1, h.2.2.2.2.2.2.2.2.2.1, h.2.2.2.2.2.2.2.2.2.2.1, fun s hs => (h.2.2.2.2.2.2.2.2.2.2.2.1 s hs).resolve_left (by omega)⟩
theorem WF.zl {l : Nat} (h : WF R) (hl : l ≤ 1400) (e : R 6 = nI l) : cP R = 0 → cY R = 0 ∧ cA R = 0 ∧ cB R = 0 ∧ cS R = 0 ∧ cW R = 0 ∧ l = 0 := fun z => by
  obtain ⟨z1, z2, z3, z4, z5, z6⟩ := h.2.2.1 z
  refine ⟨z1, z2, z3, z4, z5, ?_⟩
  rw [e] at z6
  exact (nI_eq (b := 0) (by omega) (by decide)).mp z6
/-- no place yet: no line either; with places none of these is forced -/
theorem WF.uH (h : WF R) (p0 : 0 < cP R) {p v : Nat} (hp : p < 8) (hv : v ≤ 99) : WF (upd R (7 + p) (nI v)) := by
  obtain ⟨l, hl, el⟩ := h.c6
  obtain ⟨s1, s2, s3, s4, s5, s6, s7⟩ := h.sec p0
  have e : ∀ i, i ≠ 7 + p → upd R (7 + p) (nI v) i = R i := fun i hi => pk_un hi
  have hS := h.lS
  refine WF_mk (P := cP R) (Y := cY R) (A := cA R) (B := cB R) (s0 := cS R) (W := cW R) (l := l) (by rw [e _ (by omega)]; exact h.s0) (by rw [e _ (by omega)]; exact h.s1) (by rw [e _ (by omega)]; exact h.s2) (by rw [e _ (by omega)]; exact h.s3) (by rw [e _ (by omega)]; exact h.s4) (by rw [e _ (by omega)]; exact h.s5) (by rw [e _ (by omega)]; exact el) h.2.1 hl (h.zl hl el) h.2.2.2.1 ?_ (s2.c (fun i h1 h2 => e i (by omega))) (s3.c h.lA (fun i h1 h2 => e i (by omega))) (s4.c (Nat.le_refl _) h.lB (fun i h1 h2 => e i (by omega))) (s5.c (Nat.le_refl _) h.lS (fun i h1 h2 => e i (by omega))) (s6.c h.lW (fun i h1 h2 => e i (by omega))) (s7.c (Nat.le_refl _) (Nat.le_refl _) h.lS (fun i h1 h2 => e i (by omega)) (fun s hs => e _ (by omega)))
  intro p' hp'
  by_cases q : p' = p
  · subst q; rw [pk_us]; exact ⟨v, hv, rfl⟩
  · rw [e _ (by omega)]; exact s1 p' hp'
theorem WF.uR (h : WF R) (p0 : 0 < cP R) {y v : Nat} (hy : y < 30) (hv : v ≤ 100) : WF (upd R (15 + y) (nI v)) := by
  obtain ⟨l, hl, el⟩ := h.c6
  obtain ⟨s1, s2, s3, s4, s5, s6, s7⟩ := h.sec p0
  have e : ∀ i, i ≠ 15 + y → upd R (15 + y) (nI v) i = R i := fun i hi => pk_un hi
  have hS := h.lS
  refine WF_mk (P := cP R) (Y := cY R) (A := cA R) (B := cB R) (s0 := cS R) (W := cW R) (l := l) (by rw [e _ (by omega)]; exact h.s0) (by rw [e _ (by omega)]; exact h.s1) (by rw [e _ (by omega)]; exact h.s2) (by rw [e _ (by omega)]; exact h.s3) (by rw [e _ (by omega)]; exact h.s4) (by rw [e _ (by omega)]; exact h.s5) (by rw [e _ (by omega)]; exact el) h.2.1 hl (h.zl hl el) h.2.2.2.1 (s1.c (fun i h1 h2 => e i (by omega))) ?_ (s3.c h.lA (fun i h1 h2 => e i (by omega))) (s4.c (Nat.le_refl _) h.lB (fun i h1 h2 => e i (by omega))) (s5.c (Nat.le_refl _) h.lS (fun i h1 h2 => e i (by omega))) (s6.c h.lW (fun i h1 h2 => e i (by omega))) (s7.c (Nat.le_refl _) (Nat.le_refl _) h.lS (fun i h1 h2 => e i (by omega)) (fun s hs => e _ (by omega)))
  intro p' hp'
  by_cases q : p' = y
  · subst q; rw [pk_us]; exact ⟨v, hv, rfl⟩
  · rw [e _ (by omega)]; exact s2 p' hp'
theorem WF.u6 (h : WF R) {l : Nat} (p0 : 0 < cP R) (hl : l ≤ 1400) : WF (upd R 6 (nI l)) := by
  obtain ⟨s1, s2, s3, s4, s5, s6, s7⟩ := h.sec p0
  have e : ∀ i, i ≠ 6 → upd R 6 (nI l) i = R i := fun i hi => pk_un hi
  have hS := h.lS
  exact WF_mk (P := cP R) (Y := cY R) (A := cA R) (B := cB R) (s0 := cS R) (W := cW R) (l := l) (by rw [e _ (by omega)]; exact h.s0) (by rw [e _ (by omega)]; exact h.s1) (by rw [e _ (by omega)]; exact h.s2) (by rw [e _ (by omega)]; exact h.s3) (by rw [e _ (by omega)]; exact h.s4) (by rw [e _ (by omega)]; exact h.s5) pk_us h.2.1 hl (fun z => by omega) h.2.2.2.1 (s1.c (fun i h1 h2 => e i (by omega))) (s2.c (fun i h1 h2 => e i (by omega))) (s3.c h.lA (fun i h1 h2 => e i (by omega))) (s4.c (Nat.le_refl _) h.lB (fun i h1 h2 => e i (by omega))) (s5.c (Nat.le_refl _) h.lS (fun i h1 h2 => e i (by omega))) (s6.c h.lW (fun i h1 h2 => e i (by omega))) (s7.c (Nat.le_refl _) (Nat.le_refl _) h.lS (fun i h1 h2 => e i (by omega)) (fun s hs => e _ (by omega)))
theorem WF.u01 (h : WF R) {P Y : Nat} (h0 : cP R = 0) (hP : 2 ≤ P ∧ P ≤ 8) (hY : 1 ≤ Y ∧ Y ≤ 30) (hc : ∀ s, s < 7 → R (102 + s) = -1) : WF (upd (upd R 0 (nI P)) 1 (nI Y)) := by
  obtain ⟨l, hl, el⟩ := h.c6
  obtain ⟨z1, z2, z3, z4, z5, z6⟩ := h.2.2.1 h0
  have s1 : wH R := h.2.2.2.2.1
  have s2 : wRn R := h.2.2.2.2.2.1
  have e : ∀ i, i ≠ 0 → i ≠ 1 → upd (upd R 0 (nI P)) 1 (nI Y) i = R i := fun i h1 h2 => (pk_un h2).trans (pk_un h1)
  refine WF_mk (P := P) (Y := Y) (A := 0) (B := 0) (s0 := 0) (W := 0) (l := l) (by rw [pk_un (by decide), pk_us]) pk_us (by rw [e _ (by omega) (by omega), h.s2, z2]) (by rw [e _ (by omega) (by omega), h.s3, z3]) (by rw [e _ (by omega) (by omega), h.s4, z4]) (by rw [e _ (by omega) (by omega), h.s5, z5]) (by rw [e _ (by omega) (by omega)]; exact el) (by omega) hl (fun z => by omega) (fun _ => by omega) (s1.c (fun i h1 h2 => e i (by omega) (by omega))) (s2.c (fun i h1 h2 => e i (by omega) (by omega))) ⟨fun p hp => by omega, fun p q hp => by omega⟩ (fun p hp => by omega) (fun p hp => by omega) (fun p hp => by omega) ?_
  intro s hs
  rw [e _ (by omega) (by omega)]
  exact Or.inl (hc s hs)
theorem WF.uA (h : WF R) (p0 : 0 < cP R) {u v : Nat} (hA : cA R < 10) (hu : u < cP R) (hv : v < cP R) (huv : u ≠ v) (hno : ∀ p, p < cA R → ¬ ((R (45 + 2 * p) = nI u ∧ R (46 + 2 * p) = nI v) ∨ (R (45 + 2 * p) = nI v ∧ R (46 + 2 * p) = nI u))) : WF (upd (upd (upd R (45 + 2 * cA R) (nI u)) (46 + 2 * cA R) (nI v)) 2 (nI (cA R + 1))) := by
  obtain ⟨l, hl, el⟩ := h.c6
  obtain ⟨s1, s2, s3, s4, s5, s6, s7⟩ := h.sec p0
  have hS := h.lS
  obtain ⟨g, hg⟩ : ∃ g, g = upd (upd (upd R (45 + 2 * cA R) (nI u)) (46 + 2 * cA R) (nI v)) 2 (nI (cA R + 1)) := ⟨_, rfl⟩
  have e : ∀ i, i ≠ 2 → i ≠ 45 + 2 * cA R → i ≠ 46 + 2 * cA R → g i = R i := fun i h1 h2 h3 => by rw [hg, pk_un h1, pk_un h3, pk_un h2]
  have n1 : g (45 + 2 * cA R) = nI u := by rw [hg, pk_un (by omega), pk_un (by omega), pk_us]
  have n2 : g (46 + 2 * cA R) = nI v := by rw [hg, pk_un (by omega), pk_us]
  have n3 : g 2 = nI (cA R + 1) := by rw [hg, pk_us]
  rw [← hg]
  have hP := h.lP
  have b2 := h.2.1
  refine WF_mk (P := cP R) (Y := cY R) (A := cA R + 1) (B := cB R) (s0 := cS R) (W := cW R) (l := l) (by rw [e _ (by omega) (by omega) (by omega)]; exact h.s0) (by rw [e _ (by omega) (by omega) (by omega)]; exact h.s1) n3 (by rw [e _ (by omega) (by omega) (by omega)]; exact h.s3) (by rw [e _ (by omega) (by omega) (by omega)]; exact h.s4) (by rw [e _ (by omega) (by omega) (by omega)]; exact h.s5) (by rw [e _ (by omega) (by omega) (by omega)]; exact el) (by omega) hl (fun z => by omega) h.2.2.2.1 (s1.c (fun i h1 h2 => e i (by omega) (by omega) (by omega))) (s2.c (fun i h1 h2 => e i (by omega) (by omega) (by omega))) ⟨?_, ?_⟩ (s4.c (by omega) h.lB (fun i h1 h2 => e i (by omega) (by omega) (by omega))) (s5.c (Nat.le_refl _) h.lS (fun i h1 h2 => e i (by omega) (by omega) (by omega))) (s6.c h.lW (fun i h1 h2 => e i (by omega) (by omega) (by omega))) (s7.c (Nat.le_refl _) (Nat.le_refl _) h.lS (fun i h1 h2 => e i (by omega) (by omega) (by omega)) (fun s hs => e _ (by omega) (by omega) (by omega)))
  · intro p hp
    by_cases q : p = cA R
    · subst q; exact ⟨u, v, hu, hv, huv, n1, n2⟩
    · rw [e _ (by omega) (by omega) (by omega), e _ (by omega) (by omega) (by omega)]; exact s3.1 p (by omega)
  · intro p q hp hq hh
    by_cases qp : p = cA R
    · by_cases qq : q = cA R
      · omega
      · rw [qp, n1, n2, e (45 + 2 * q) (by omega) (by omega) (by omega), e (46 + 2 * q) (by omega) (by omega) (by omega)] at hh
        exact absurd (hh.imp (fun z => ⟨z.1.symm, z.2.symm⟩) (fun z => ⟨z.2.symm, z.1.symm⟩)) (hno q (by omega))
    · by_cases qq : q = cA R
      · rw [qq, n1, n2, e (45 + 2 * p) (by omega) (by omega) (by omega), e (46 + 2 * p) (by omega) (by omega) (by omega)] at hh
        exact absurd hh (hno p (by omega))
      · rw [e (45 + 2 * p) (by omega) (by omega) (by omega), e (46 + 2 * p) (by omega) (by omega) (by omega), e (45 + 2 * q) (by omega) (by omega) (by omega), e (46 + 2 * q) (by omega) (by omega) (by omega)] at hh
        exact s3.2 p q (by omega) (by omega) hh
theorem WF.uB (h : WF R) (p0 : 0 < cP R) {u v : Nat} (hB : cB R < 4) (hu : u < cA R) (hv : v < cY R) : WF (upd (upd (upd R (65 + 2 * cB R) (nI u)) (66 + 2 * cB R) (nI v)) 3 (nI (cB R + 1))) := by
  obtain ⟨l, hl, el⟩ := h.c6
  obtain ⟨s1, s2, s3, s4, s5, s6, s7⟩ := h.sec p0
  have hS := h.lS
  have b2 := h.2.1
  have z0 := h.zl hl el
  obtain ⟨g, hg⟩ : ∃ g, g = upd (upd (upd R (65 + 2 * cB R) (nI u)) (66 + 2 * cB R) (nI v)) 3 (nI (cB R + 1)) := ⟨_, rfl⟩
  have e : ∀ i, i ≠ 3 → i ≠ 65 + 2 * cB R → i ≠ 66 + 2 * cB R → g i = R i := fun i h1 h2 h3 => by rw [hg, pk_un h1, pk_un h3, pk_un h2]
  have n1 : g (65 + 2 * cB R) = nI u := by rw [hg, pk_un (by omega), pk_un (by omega), pk_us]
  have n2 : g (66 + 2 * cB R) = nI v := by rw [hg, pk_un (by omega), pk_us]
  have n3 : g 3 = nI (cB R + 1) := by rw [hg, pk_us]
  rw [← hg]
  refine WF_mk (P := cP R) (Y := cY R) (A := cA R) (B := cB R + 1) (s0 := cS R) (W := cW R) (l := l) (by rw [e _ (by omega) (by omega) (by omega)]; exact h.s0) (by rw [e _ (by omega) (by omega) (by omega)]; exact h.s1) (by rw [e _ (by omega) (by omega) (by omega)]; exact h.s2) n3 (by rw [e _ (by omega) (by omega) (by omega)]; exact h.s4) (by rw [e _ (by omega) (by omega) (by omega)]; exact h.s5) (by rw [e _ (by omega) (by omega) (by omega)]; exact el) (by omega) hl (fun z => by have := z0 z; omega) h.2.2.2.1 (s1.c (fun i h1 h2 => e i (by omega) (by omega) (by omega))) (s2.c (fun i h1 h2 => e i (by omega) (by omega) (by omega))) (s3.c h.lA (fun i h1 h2 => e i (by omega) (by omega) (by omega))) ?_ (s5.c (by omega) h.lS (fun i h1 h2 => e i (by omega) (by omega) (by omega))) (s6.c h.lW (fun i h1 h2 => e i (by omega) (by omega) (by omega))) (s7.c (by omega) (Nat.le_refl _) h.lS (fun i h1 h2 => e i (by omega) (by omega) (by omega)) (fun s hs => e _ (by omega) (by omega) (by omega)))
  intro p hp
  by_cases q : p = cB R
  · subst q; exact ⟨u, v, hu, hv, n1, n2⟩
  · rw [e _ (by omega) (by omega) (by omega), e _ (by omega) (by omega) (by omega)]; exact s4 p (by omega)
theorem WF.uW (h : WF R) (p0 : 0 < cP R) {u v : Nat} (hW : cW R < 4) (hu : u ≤ 99) (hv : v < cP R) : WF (upd (upd (upd R (94 + 2 * cW R) (nI u)) (95 + 2 * cW R) (nI v)) 5 (nI (cW R + 1))) := by
  obtain ⟨l, hl, el⟩ := h.c6
  obtain ⟨s1, s2, s3, s4, s5, s6, s7⟩ := h.sec p0
  have hS := h.lS
  have b2 := h.2.1
  have z0 := h.zl hl el
  obtain ⟨g, hg⟩ : ∃ g, g = upd (upd (upd R (94 + 2 * cW R) (nI u)) (95 + 2 * cW R) (nI v)) 5 (nI (cW R + 1)) := ⟨_, rfl⟩
  have e : ∀ i, i ≠ 5 → i ≠ 94 + 2 * cW R → i ≠ 95 + 2 * cW R → g i = R i := fun i h1 h2 h3 => by rw [hg, pk_un h1, pk_un h3, pk_un h2]
  have n1 : g (94 + 2 * cW R) = nI u := by rw [hg, pk_un (by omega), pk_un (by omega), pk_us]
  have n2 : g (95 + 2 * cW R) = nI v := by rw [hg, pk_un (by omega), pk_us]
  have n3 : g 5 = nI (cW R + 1) := by rw [hg, pk_us]
  rw [← hg]
  refine WF_mk (P := cP R) (Y := cY R) (A := cA R) (B := cB R) (s0 := cS R) (W := cW R + 1) (l := l) (by rw [e _ (by omega) (by omega) (by omega)]; exact h.s0) (by rw [e _ (by omega) (by omega) (by omega)]; exact h.s1) (by rw [e _ (by omega) (by omega) (by omega)]; exact h.s2) (by rw [e _ (by omega) (by omega) (by omega)]; exact h.s3) (by rw [e _ (by omega) (by omega) (by omega)]; exact h.s4) n3 (by rw [e _ (by omega) (by omega) (by omega)]; exact el) (by omega) hl (fun z => by omega) h.2.2.2.1 (s1.c (fun i h1 h2 => e i (by omega) (by omega) (by omega))) (s2.c (fun i h1 h2 => e i (by omega) (by omega) (by omega))) (s3.c h.lA (fun i h1 h2 => e i (by omega) (by omega) (by omega))) (s4.c (Nat.le_refl _) h.lB (fun i h1 h2 => e i (by omega) (by omega) (by omega))) (s5.c (Nat.le_refl _) h.lS (fun i h1 h2 => e i (by omega) (by omega) (by omega))) ?_ (s7.c (Nat.le_refl _) (Nat.le_refl _) h.lS (fun i h1 h2 => e i (by omega) (by omega) (by omega)) (fun s hs => e _ (by omega) (by omega) (by omega)))
  intro p hp
  by_cases q : p = cW R
  · subst q; exact ⟨u, v, hu, hv, n1, n2⟩
  · rw [e _ (by omega) (by omega) (by omega), e _ (by omega) (by omega) (by omega)]; exact s6 p (by omega)
theorem WF.uS (h : WF R) (p0 : 0 < cP R) {u v f : Nat} (hs : cS R < 7) (hu : u ≤ 30) (hv : v ≤ 100) (h0 : 0 < f) (hf : f < 2 ^ cB R) : WF (upd (upd (upd (upd R (73 + 3 * cS R) (nI u)) (74 + 3 * cS R) (nI v)) (75 + 3 * cS R) (nI f)) 4 (nI (cS R + 1))) := by
  obtain ⟨l, hl, el⟩ := h.c6
  obtain ⟨s1, s2, s3, s4, s5, s6, s7⟩ := h.sec p0
  have b2 := h.2.1
  have z0 := h.zl hl el
  obtain ⟨g, hg⟩ : ∃ g, g = upd (upd (upd (upd R (73 + 3 * cS R) (nI u)) (74 + 3 * cS R) (nI v)) (75 + 3 * cS R) (nI f)) 4 (nI (cS R + 1)) := ⟨_, rfl⟩
  have e : ∀ i, i ≠ 4 → i ≠ 73 + 3 * cS R → i ≠ 74 + 3 * cS R → i ≠ 75 + 3 * cS R → g i = R i := fun i h1 h2 h3 h4 => by rw [hg, pk_un h1, pk_un h4, pk_un h3, pk_un h2]
  have n1 : g (73 + 3 * cS R) = nI u := by rw [hg, pk_un (by omega), pk_un (by omega), pk_un (by omega), pk_us]
  have n2 : g (74 + 3 * cS R) = nI v := by rw [hg, pk_un (by omega), pk_un (by omega), pk_us]
  have n4 : g (75 + 3 * cS R) = nI f := by rw [hg, pk_un (by omega), pk_us]
  have n3 : g 4 = nI (cS R + 1) := by rw [hg, pk_us]
  rw [← hg]
  have pB : cB R = 0 → False := fun z => by rw [z] at hf; omega
  refine WF_mk (P := cP R) (Y := cY R) (A := cA R) (B := cB R) (s0 := cS R + 1) (W := cW R) (l := l) (by rw [e _ (by omega) (by omega) (by omega) (by omega)]; exact h.s0) (by rw [e _ (by omega) (by omega) (by omega) (by omega)]; exact h.s1) (by rw [e _ (by omega) (by omega) (by omega) (by omega)]; exact h.s2) (by rw [e _ (by omega) (by omega) (by omega) (by omega)]; exact h.s3) n3 (by rw [e _ (by omega) (by omega) (by omega) (by omega)]; exact h.s5) (by rw [e _ (by omega) (by omega) (by omega) (by omega)]; exact el) (by omega) hl (fun z => absurd (z0 z).2.2.1 pB) h.2.2.2.1 (s1.c (fun i h1 h2 => e i (by omega) (by omega) (by omega) (by omega))) (s2.c (fun i h1 h2 => e i (by omega) (by omega) (by omega) (by omega))) (s3.c h.lA (fun i h1 h2 => e i (by omega) (by omega) (by omega) (by omega))) (s4.c (Nat.le_refl _) h.lB (fun i h1 h2 => e i (by omega) (by omega) (by omega) (by omega))) ?_ (s6.c h.lW (fun i h1 h2 => e i (by omega) (by omega) (by omega) (by omega))) (s7.c (Nat.le_refl _) (by omega) h.lS (fun i h1 h2 => e i (by omega) (by omega) (by omega) (by omega)) (fun s hs => e _ (by omega) (by omega) (by omega) (by omega)))
  intro p hp
  by_cases q : p = cS R
  · subst q; exact ⟨u, v, f, hu, hv, h0, hf, n1, n2, n4⟩
  · rw [e _ (by omega) (by omega) (by omega) (by omega), e _ (by omega) (by omega) (by omega) (by omega), e _ (by omega) (by omega) (by omega) (by omega)]; exact s5 p (by omega)
theorem WF.uC (h : WF R) (p0 : 0 < cP R) {s v f : Nat} (hs : s < cS R) (hv : v < cB R) (ef : R (75 + 3 * s) = nI f) (ht : f.testBit v = true) : WF (upd R (102 + s) (nI v)) := by
  obtain ⟨l, hl, el⟩ := h.c6
  obtain ⟨s1, s2, s3, s4, s5, s6, s7⟩ := h.sec p0
  have e : ∀ i, i ≠ 102 + s → upd R (102 + s) (nI v) i = R i := fun i hi => pk_un hi
  have hS := h.lS
  refine WF_mk (P := cP R) (Y := cY R) (A := cA R) (B := cB R) (s0 := cS R) (W := cW R) (l := l) (by rw [e _ (by omega)]; exact h.s0) (by rw [e _ (by omega)]; exact h.s1) (by rw [e _ (by omega)]; exact h.s2) (by rw [e _ (by omega)]; exact h.s3) (by rw [e _ (by omega)]; exact h.s4) (by rw [e _ (by omega)]; exact h.s5) (by rw [e _ (by omega)]; exact el) h.2.1 hl (h.zl hl el) h.2.2.2.1 (s1.c (fun i h1 h2 => e i (by omega))) (s2.c (fun i h1 h2 => e i (by omega))) (s3.c h.lA (fun i h1 h2 => e i (by omega))) (s4.c (Nat.le_refl _) h.lB (fun i h1 h2 => e i (by omega))) (s5.c (Nat.le_refl _) h.lS (fun i h1 h2 => e i (by omega))) (s6.c h.lW (fun i h1 h2 => e i (by omega))) ?_
  intro t ht2
  by_cases q : t = s
  · subst q; rw [pk_us, e (75 + 3 * t) (by omega)]; exact Or.inr ⟨v, f, hs, hv, rfl, ef, ht⟩
  · rw [e (102 + t) (by omega)]
    by_cases q2 : t < cS R
    · rw [e (75 + 3 * t) (by omega)]; exact s7 t ht2
    · rcases s7 t ht2 with z | ⟨b, f', h1, -⟩
      · exact Or.inl z
      · omega
end UPW
