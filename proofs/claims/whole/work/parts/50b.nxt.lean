/-! The next token, both ways -/
theorem sp_iff {v : Int32} : sp v = true ↔ v = 32 ∨ v = 10 := by
  unfold sp
  rw [Bool.or_eq_true, beq_iff_eq, beq_iff_eq]
theorem lb_iff {v : Int32} : lb v = true ↔ ¬ v < 97 ∧ ¬ 122 < v := by unfold lb; rw [decide_eq_true_eq]
theorem db_iff {v : Int32} : db v = true ↔ ¬ v < 48 ∧ ¬ 57 < v := by unfold db; rw [decide_eq_true_eq]
theorem lb_db {v : Int32} (h : lb v = true) : ¬ db v = true := by
  rw [lb_iff] at h
  rw [db_iff]
  rintro ⟨h1, h2⟩
  have h3 := h.1
  rw [fa_lt, show (97 : Int32).toInt = 97 by decide] at h3
  rw [fa_lt, show (57 : Int32).toInt = 57 by decide] at h2
  omega
section NXT
variable {E : EN} {n c : Nat} {S S' : WS} {b : Nat → Int32} {L : Nat}
theorem e_X4_L113_1 (hn : 1500 ≤ n) {s : Nat} (hs : s < L) : ∀ k i (S : WS), L - i = k → CX E c b L S → gi S 196 (c + 2) = nI s → gi S 194 (c + 2) = nI i → s ≤ i → i ≤ L → gi S 195 (c + 2) = 1 → gi S 197 (c + 2) = 0 → ∀ m, k < m → ∃ S', f_X4_nextToken_L113 E n m S (c + 2) = some ((), S') ∧ FT c S S' ∧ gi S' 194 (c + 2) = nI (max (rn lb b L i) (s + 1)) ∧ gi S' 195 (c + 2) = 1 ∧ gi S' 197 (c + 2) = 0 ∧ gi S' 196 (c + 2) = nI s := by
  intro k
  have last : ∀ i (S : WS), CX E c b L S → gi S 196 (c + 2) = nI s → gi S 194 (c + 2) = nI i → s ≤ i → i ≤ L → gi S 195 (c + 2) = 1 → gi S 197 (c + 2) = 0 → rn lb b L i = i → ∃ S', f_X4_nextToken_L170 E n n S (c + 2) = some ((), S') ∧ FT c S S' ∧ gi S' 194 (c + 2) = nI (max (rn lb b L i) (s + 1)) ∧ gi S' 195 (c + 2) = 1 ∧ gi S' 197 (c + 2) = 0 ∧ gi S' 196 (c + 2) = nI s := by
    intro i S hX e6 e4 h1 h2 e5 e7 er
    obtain ⟨S', r1, r2, r3, -, r5⟩ := e_X4_L170 hn hX hs (Or.inl e5) e6 h2 e4 (fun q => absurd e5 q) h1 e7
    obtain ⟨q1, q2, q3⟩ := r3 e5
    exact ⟨S', r1, r2, by rw [er]; exact q1, q2, q3, r5⟩
  induction k with
  | zero =>
    intro i S hk hX e6 e4 h1 h2 e5 e7 m hm
    obtain ⟨m, rfl⟩ : ∃ q, m = q + 1 := ⟨m - 1, by omega⟩
    have hL := hX.2.2.2.2
    simp only [f_X4_nextToken_L113]
    rw [e4, hX.2.2.2.1, if_pos (nI_le (show L ≤ i by omega) (by omega))]
    exact last i S hX e6 e4 h1 h2 e5 e7 (rn_f (by omega))
  | succ k ih =>
    intro i S hk hX e6 e4 h1 h2 e5 e7 m hm
    obtain ⟨m, rfl⟩ : ∃ q, m = q + 1 := ⟨m - 1, by omega⟩
    have hL := hX.2.2.2.2
    have hiL : i < L := by omega
    simp only [f_X4_nextToken_L113]
    rw [e4, hX.2.2.2.1, if_neg (nI_ge hiL (by omega)), hX.1]
    simp only [obs, hX.2.1, nI_clamp (show i < 2 ^ 31 by omega), ifn (rinc (show i < 1400 by omega) (show 1400 < 2 ^ 31 by omega)), hX.2.2.1]
    by_cases c1 : b i < 97
    · rw [if_pos c1]
      exact last i S hX e6 e4 h1 h2 e5 e7 (rn_f (fun q => (lb_iff.mp q.2).1 c1))
    · rw [if_neg c1]
      by_cases c2 : 122 < b i
      · rw [if_pos c2]
        exact last i S hX e6 e4 h1 h2 e5 e7 (rn_f (fun q => (lb_iff.mp q.2).2 c2))
      · rw [if_neg c2]
        have d : lb (b i) = true := lb_iff.mpr ⟨c1, c2⟩
        have g4 : gi (si S 195 (c + 2) 1) 194 (c + 2) = nI i := (gi_si_f (by decide)).trans e4
        simp only [lts, g4, nI_1]
        have f1 : FT c S (si S 195 (c + 2) 1) := FT.s (by omega)
        have f2 : FT c (si S 195 (c + 2) 1) (si (si S 195 (c + 2) 1) 194 (c + 2) (nI (i + 1))) := FT.s (by omega)
        obtain ⟨S', r1, r2, r3, r4, r5, r6⟩ := ih (i + 1) (si (si S 195 (c + 2) 1) 194 (c + 2) (nI (i + 1))) (by omega) ((hX.ft f1).ft f2) ((gi_si_f (by decide)).trans ((gi_si_f (by decide)).trans e6)) gi_si_eq (by omega) (by omega) ((gi_si_f (by decide)).trans gi_si_eq) ((gi_si_f (by decide)).trans ((gi_si_f (by decide)).trans e7)) m (by omega)
        exact ⟨S', r1, (f1.tr f2).tr r2, by rw [r3, rn_t hiL d], r4, r5, r6⟩
theorem e_X4_L113 (hn : 1500 ≤ n) {s : Nat} (hs : s < L) (hX : CX E c b L S) (e6 : gi S 196 (c + 2) = nI s) (e4 : gi S 194 (c + 2) = nI s) (e5 : gi S 195 (c + 2) = nI (if b s = 59 then 3 else 4)) (e7 : gi S 197 (c + 2) = 0) : ∃ S', f_X4_nextToken_L113 E n n S (c + 2) = some ((), S') ∧ FT c S S' ∧ gi S' 194 (c + 2) = nI (if lb (b s) = true then rn lb b L s else if db (b s) = true then rn db b L s else s + 1) ∧ gi S' 195 (c + 2) = nI (if lb (b s) = true then 1 else if db (b s) = true then 2 else if b s = 59 then 3 else 4) ∧ gi S' 197 (c + 2) = nI (vln b L s 0) ∧ gi S' 196 (c + 2) = nI s := by
  have hL := hX.2.2.2.2
  have k1 : gi S 195 (c + 2) ≠ 1 := by rw [e5]; split <;> decide
  have nolet : ¬ lb (b s) = true → ∃ S', f_X4_nextToken_L170 E n n S (c + 2) = some ((), S') ∧ FT c S S' ∧ gi S' 194 (c + 2) = nI (if lb (b s) = true then rn lb b L s else if db (b s) = true then rn db b L s else s + 1) ∧ gi S' 195 (c + 2) = nI (if lb (b s) = true then 1 else if db (b s) = true then 2 else if b s = 59 then 3 else 4) ∧ gi S' 197 (c + 2) = nI (vln b L s 0) ∧ gi S' 196 (c + 2) = nI s := by
    intro nl
    obtain ⟨S', r1, r2, -, r4, r5⟩ := e_X4_L170 hn hX hs (Or.inr (by rw [e5]; split; exact Or.inl rfl; exact Or.inr rfl)) e6 (by omega) e4 (fun _ => rfl) (Nat.le_refl _) e7
    obtain ⟨q1, q2, q3⟩ := r4 k1
    refine ⟨S', r1, r2, ?_, ?_, q3, r5⟩
    · rw [q1, if_neg nl]
      by_cases d : db (b s) = true
      · rw [if_pos d]
        have g := rn_ge (P := db) (b := b) (L := L) _ (s + 1) rfl
        rw [rn_t hs d, Nat.max_eq_left g.1]
      · rw [if_neg d, rn_f (fun q => d q.2), Nat.max_eq_right (by omega)]
    · rw [q2, if_neg nl]
      by_cases d : db (b s) = true
      · rw [if_pos d, if_pos d]; rfl
      · rw [if_neg d, if_neg d]; exact e5
  obtain ⟨m, hm⟩ : ∃ m, n = m + 1 := ⟨n - 1, by omega⟩
  have un : ∀ n0, f_X4_nextToken_L113 E n0 n S (c + 2) = if b s < 97 then f_X4_nextToken_L170 E n0 n0 S (c + 2) else if 122 < b s then f_X4_nextToken_L170 E n0 n0 S (c + 2) else f_X4_nextToken_L113 E n0 m (si (si S 195 (c + 2) 1) 194 (c + 2) (nI (s + 1))) (c + 2) := by
    intro n0
    rw [hm]
    have g4 : gi (si S 195 (c + 2) 1) 194 (c + 2) = nI s := (gi_si_f (by decide)).trans e4
    simp only [f_X4_nextToken_L113]
    rw [e4, hX.2.2.2.1, if_neg (nI_ge hs (by omega)), hX.1]
    simp only [obs, hX.2.1, nI_clamp (show s < 2 ^ 31 by omega), ifn (rinc (show s < 1400 by omega) (show 1400 < 2 ^ 31 by omega)), hX.2.2.1, lts, g4, nI_1]
  rw [un n]
  by_cases c1 : b s < 97
  · rw [if_pos c1]; exact nolet (fun q => (lb_iff.mp q).1 c1)
  · rw [if_neg c1]
    by_cases c2 : 122 < b s
    · rw [if_pos c2]; exact nolet (fun q => (lb_iff.mp q).2 c2)
    · rw [if_neg c2]
      have d : lb (b s) = true := lb_iff.mpr ⟨c1, c2⟩
      have f1 : FT c S (si S 195 (c + 2) 1) := FT.s (by omega)
      have f2 : FT c (si S 195 (c + 2) 1) (si (si S 195 (c + 2) 1) 194 (c + 2) (nI (s + 1))) := FT.s (by omega)
      obtain ⟨S', r1, r2, r3, r4, r5, r6⟩ := e_X4_L113_1 (n := n) hn hs (L - (s + 1)) (s + 1) (si (si S 195 (c + 2) 1) 194 (c + 2) (nI (s + 1))) rfl ((hX.ft f1).ft f2) ((gi_si_f (by decide)).trans ((gi_si_f (by decide)).trans e6)) gi_si_eq (by omega) (by omega) ((gi_si_f (by decide)).trans gi_si_eq) ((gi_si_f (by decide)).trans ((gi_si_f (by decide)).trans e7)) m (by omega)
      refine ⟨S', r1, (f1.tr f2).tr r2, ?_, ?_, ?_, r6⟩
      · have g := rn_ge (P := lb) (b := b) (L := L) _ (s + 1) rfl
        rw [r3, if_pos d, rn_t hs d, Nat.max_eq_left g.1]
      · rw [r4, if_pos d]; rfl
      · rw [r5, vln_f (fun q => lb_db d q.2)]; rfl
theorem e_X4_J60 (hn : 1500 ≤ n) {q : Nat} (hq : q ≤ L) (hX : CX E c b L S) (e6 : gi S 196 (c + 2) = nI (skp b L q)) : ∃ S', f_X4_nextToken_J60 E n S (c + 2) = some ((), S') ∧ FT c S S' ∧ CR E c b L q S' := by
  have hL := hX.2.2.2.2
  have hs := (skp_le (b := b) hq).2
  obtain ⟨S2, hS2⟩ : ∃ S2, S2 = si (si S 194 (c + 2) (nI (skp b L q))) 197 (c + 2) 0 := ⟨_, rfl⟩
  have f2 : FT c S S2 := by rw [hS2]; exact (FT.s (by omega)).tr (FT.s (by omega))
  have x2 := hX.ft f2
  have w6 : gi S2 196 (c + 2) = nI (skp b L q) := by rw [hS2, gi_si_f (by decide), gi_si_f (by decide)]; exact e6
  have w4 : gi S2 194 (c + 2) = nI (skp b L q) := by rw [hS2, gi_si_f (by decide), gi_si_eq]
  have w7 : gi S2 197 (c + 2) = 0 := by rw [hS2, gi_si_eq]
  simp only [f_X4_nextToken_J60, e6, lts]
  rw [← hS2]
  simp only [w6, x2.2.2.2.1]
  by_cases c1 : skp b L q < L
  · rw [if_pos (nI_lt c1 (by omega)), x2.1]
    simp only [obs, hX.2.1, nI_clamp (show skp b L q < 2 ^ 31 by omega), ifn (rinc (show skp b L q < 1400 by omega) (show 1400 < 2 ^ 31 by omega)), x2.2.2.1]
    have go : ∀ v : Int32, v = nI (if b (skp b L q) = 59 then 3 else 4) → ∃ S', f_X4_nextToken_L113 E n n (si S2 195 (c + 2) v) (c + 2) = some ((), S') ∧ FT c S S' ∧ CR E c b L q S' := by
      intro v hv
      have f3 : FT c S2 (si S2 195 (c + 2) v) := FT.s (by omega)
      obtain ⟨S', r1, r2, r3, r4, r5, r6⟩ := e_X4_L113 (E := E) (n := n) (b := b) (L := L) (S := si S2 195 (c + 2) v) hn c1 (x2.ft f3) ((gi_si_f (by decide)).trans w6) ((gi_si_f (by decide)).trans w4) (gi_si_eq.trans hv) ((gi_si_f (by decide)).trans w7)
      refine ⟨S', r1, (f2.tr f3).tr r2, (x2.ft f3).ft r2, ?_, ?_, r6, r5⟩
      · rw [r3]; unfold bhd; rw [if_neg (show ¬ L ≤ skp b L q by omega)]
      · rw [r4]; unfold knd; rw [if_neg (show ¬ L ≤ skp b L q by omega)]
    by_cases c2 : b (skp b L q) = 59
    · rw [if_pos c2]; exact go 3 (by rw [if_pos c2]; rfl)
    · rw [if_neg c2]; exact go 4 (by rw [if_neg c2]; rfl)
  · rw [if_neg (nI_nlt (show L ≤ skp b L q by omega) (by omega))]
    refine ⟨si S2 195 (c + 2) 0, rfl, f2.tr (FT.s (by omega)), x2.ft (FT.s (by omega)), ?_, ?_, (gi_si_f (by decide)).trans w6, ?_⟩
    · rw [gi_si_f (by decide), w4]; unfold bhd; rw [if_pos (by omega)]
    · rw [gi_si_eq]; unfold knd; rw [if_pos (by omega)]; rfl
    · rw [gi_si_f (by decide), w7]; unfold vlu; rw [vln_f (by omega)]; rfl
theorem e_X4_next (hn : 1500 ≤ n) {q : Nat} (hq : q ≤ L) (hX : CX E c b L S) (e4 : gi S 194 (c + 2) = nI q) : ∃ S', f_X4_nextToken E n S (c + 2) = some ((), S') ∧ FT c S S' ∧ CR E c b L q S' := by
  have hL := hX.2.2.2.2
  have key : ∀ k i (S : WS), L - i = k → i ≤ L → CX E c b L S → gi S 196 (c + 2) = nI i → rn sp b L i = skp b L q → ∀ m, k < m → ∃ S', f_X4_nextToken_L8 E n m S (c + 2) = some ((), S') ∧ FT c S S' ∧ CR E c b L q S' := by
    intro k
    induction k with
    | zero =>
      intro i S hk hi hX e6 er m hm
      obtain ⟨m, rfl⟩ : ∃ q, m = q + 1 := ⟨m - 1, by omega⟩
      simp only [f_X4_nextToken_L8]
      rw [e6, hX.2.2.2.1, if_pos (nI_le (show L ≤ i by omega) (by omega))]
      rw [rn_f (by omega)] at er
      exact e_X4_J60 hn hq hX (by rw [e6, er])
    | succ k ih =>
      intro i S hk hi hX e6 er m hm
      obtain ⟨m, rfl⟩ : ∃ q, m = q + 1 := ⟨m - 1, by omega⟩
      have hiL : i < L := by omega
      simp only [f_X4_nextToken_L8]
      rw [e6, hX.2.2.2.1, if_neg (nI_ge hiL (by omega)), hX.1]
      simp only [obs, hX.2.1, nI_clamp (show i < 2 ^ 31 by omega), ifn (rinc (show i < 1400 by omega) (show 1400 < 2 ^ 31 by omega)), hX.2.2.1, lts, nI_1]
      have on : sp (b i) = true → ∃ S', f_X4_nextToken_L8 E n m (si S 196 (c + 2) (nI (i + 1))) (c + 2) = some ((), S') ∧ FT c S S' ∧ CR E c b L q S' := by
        intro d
        have f1 : FT c S (si S 196 (c + 2) (nI (i + 1))) := FT.s (by omega)
        obtain ⟨S', r1, r2, r3⟩ := ih (i + 1) (si S 196 (c + 2) (nI (i + 1))) (by omega) (by omega) (hX.ft f1) gi_si_eq (by rw [← rn_t hiL d]; exact er) m (by omega)
        exact ⟨S', r1, f1.tr r2, r3⟩
      by_cases c1 : b i = 32
      · rw [if_pos c1]; exact on (sp_iff.mpr (Or.inl c1))
      · rw [if_neg c1]
        by_cases c2 : b i = 10
        · rw [if_pos c2]; exact on (sp_iff.mpr (Or.inr c2))
        · rw [if_neg c2]
          rw [rn_f (fun z => (sp_iff.mp z.2).elim c1 c2)] at er
          exact e_X4_J60 hn hq hX (by rw [e6, er])
  have f1 : FT c S (si S 196 (c + 2) (nI q)) := FT.s (by omega)
  obtain ⟨S', r1, r2, r3⟩ := key (L - q) q (si S 196 (c + 2) (nI q)) rfl hq (hX.ft f1) gi_si_eq rfl n (by omega)
  refine ⟨S', ?_, f1.tr r2, r3⟩
  simp only [f_X4_nextToken, e4, lts]
  exact r1
end NXT
