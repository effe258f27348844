/-! The model's next token -/
theorem byt_all {P : Int32 → Prop} (h : ∀ k, k < 256 → P (Int8.ofNat k).toInt32) {v : Int32} (hv : byt v) : P v := by
  have e : Int8.ofNat v.toInt8.toBitVec.toNat = v.toInt8 := by
    apply Int8.toBitVec_inj.mp
    simp
  have q : P v.toInt8.toInt32 := by
    rw [← e]; exact h _ v.toInt8.toBitVec.isLt
  exact Eq.mpr (congrArg P hv) q
abbrev byF (v : Int32) : Prop := (v &&& 255 = 32 ↔ v = 32) ∧ (v &&& 255 = 10 ↔ v = 10) ∧ (v &&& 255 = 59 ↔ v = 59) ∧ ¬ v &&& 255 = -1 ∧ ((¬ v &&& 255 < 97 ∧ ¬ 122 < v &&& 255) ↔ lb v = true) ∧ ((¬ v &&& 255 < 48 ∧ ¬ 57 < v &&& 255) ↔ db v = true) ∧ (db v = true → v &&& 255 = v)
theorem byf : ∀ k, k < 256 → byF (Int8.ofNat k).toInt32 := by decide +kernel
section ADV
variable {E : EN} {n c : Nat} {S S' : WS} {b : Nat → Int32} {L : Nat}
/-- what a step to the next token changes -/
def FA (c : Nat) (S S' : WS) : Prop := (∀ f q, gr S' f q = gr S f q) ∧ (∀ q, ar S' q = ar S q) ∧ (∀ f q, ¬ (q = c + 129 ∧ 520 ≤ f ∧ f ≤ 523) → gi S' f q = gi S f q) ∧ (∀ q, ai S' q = ai S q) ∧ ∀ q, aj S' q = aj S q
theorem FA.rf : FA c S S := ⟨fun _ _ => rfl, fun _ => rfl, fun _ _ _ => rfl, fun _ => rfl, fun _ => rfl⟩
theorem FA.tr {S1 S2 : WS} (h : FA c S S1) (k : FA c S1 S2) : FA c S S2 := ⟨fun f q => (k.1 f q).trans (h.1 f q), fun q => (k.2.1 q).trans (h.2.1 q), fun f q z => (k.2.2.1 f q z).trans (h.2.2.1 f q z), fun q => (k.2.2.2.1 q).trans (h.2.2.2.1 q), fun q => (k.2.2.2.2 q).trans (h.2.2.2.2 q)⟩
theorem FA.s {f : Nat} {v : Int32} (h : 520 ≤ f ∧ f ≤ 523) : FA c S (si S f (c + 129) v) := ⟨fun _ _ => rfl, fun _ => rfl, fun g q z => by
  by_cases e : g = f
  · subst e
    exact gi_si_a (fun w => z ⟨w, h⟩)
  · exact gi_si_f e, fun _ => rfl, fun _ => rfl⟩
def MX (E : EN) (c : Nat) (b : Nat → Int32) (L : Nat) (S : WS) : Prop := gr S 516 (c + 129) = some (c + 133) ∧ eN E (c + 133) = 1400 ∧ (∀ i, i < 1400 → ai S (c + 133) i = b i ∧ byt (b i)) ∧ gi S 519 (c + 129) = nI L ∧ L ≤ 1400 ∧ gi S 525 (c + 129) = -1
theorem MX.fa (h : MX E c b L S) (k : FA c S S') : MX E c b L S' := ⟨(k.1 _ _).trans h.1, h.2.1, fun i hi => by rw [k.2.2.2.1]; exact h.2.2.1 i hi, (k.2.2.1 _ _ (by omega)).trans h.2.2.2.1, h.2.2.2.2.1, (k.2.2.1 _ _ (by omega)).trans h.2.2.2.2.2⟩
def MR (E : EN) (c : Nat) (b : Nat → Int32) (L q : Nat) (S : WS) : Prop := MX E c b L S ∧ gi S 520 (c + 129) = nI (bhd b L q) ∧ gi S 522 (c + 129) = nI (knd b L q) ∧ gi S 521 (c + 129) = nI (skp b L q) ∧ (knd b L q = 2 → gi S 523 (c + 129) = nI (min 99999 (vlu b L q)))
theorem e_X9_see (hX : MX E c b L S) {i : Nat} (hi : i ≤ L) : f_X9_see E n S (c + 129) (nI i) = some (if i < L then b i &&& 255 else -1, S) := by
  have hL := hX.2.2.2.2
  simp only [f_X9_see, hX.2.2.2.1]
  by_cases c1 : i < L
  · rw [if_neg (nI_ge c1 (by omega)), if_pos c1]
    simp only [hX.1, obs, hX.2.1, nI_clamp (show i < 2 ^ 31 by omega), ifn (rinc (show i < 1400 by omega) (show 1400 < 2 ^ 31 by omega)), (hX.2.2.1 i (by omega)).1]
  · rw [if_pos (nI_le (show L ≤ i by omega) (by omega)), if_neg c1]
theorem see_f (hX : MX E c b L S) {i : Nat} (hi : i < L) : byF (b i) := by
  have hL := hX.2.2.2.2
  exact byt_all byf (hX.2.2.1 i (by omega)).2
theorem in_lb {x : Int32} : f_X9_in E n S x.toInt64 (97 : Int64) (122 : Int64) = some (b2i (¬ x < 97 ∧ ¬ 122 < x), S) := by
  rw [show (97 : Int64) = (97 : Int32).toInt64 by decide, show (122 : Int64) = (122 : Int32).toInt64 by decide, e_in32]
theorem in_db {x : Int32} : f_X9_in E n S x.toInt64 (48 : Int64) (57 : Int64) = some (b2i (¬ x < 48 ∧ ¬ 57 < x), S) := by
  rw [show (48 : Int64) = (48 : Int32).toInt64 by decide, show (57 : Int64) = (57 : Int32).toInt64 by decide, e_in32]
theorem e_X9_L83 : ∀ k i (S : WS), L - i = k → i ≤ L → MX E c b L S → gi S 520 (c + 129) = nI i → ∀ m, k < m → ∃ S', f_X9_advance_L83 E n m S (c + 129) = some ((), S') ∧ FA c S S' ∧ gi S' 520 (c + 129) = nI (rn lb b L i) ∧ gi S' 522 (c + 129) = 1 ∧ gi S' 521 (c + 129) = gi S 521 (c + 129) := by
  intro k
  induction k with
  | zero =>
    intro i S hk hi hX e m hm
    obtain ⟨m, rfl⟩ : ∃ q, m = q + 1 := ⟨m - 1, by omega⟩
    refine ⟨si S 522 (c + 129) 1, ?_, FA.s (by omega), ?_, gi_si_eq, gi_si_f (by decide)⟩
    · simp only [f_X9_advance_L83]
      rw [e, e_X9_see hX hi, bds, if_neg (by omega), in_lb, bds, ifb0 (by decide)]
      rfl
    · rw [gi_si_f (by decide), rn_f (by omega)]; exact e
  | succ k ih =>
    intro i S hk hi hX e m hm
    obtain ⟨m, rfl⟩ : ∃ q, m = q + 1 := ⟨m - 1, by omega⟩
    have hiL : i < L := by omega
    have hL := hX.2.2.2.2
    obtain ⟨-, -, -, -, f5, f6, f7⟩ := see_f hX hiL
    simp only [f_X9_advance_L83]
    rw [e, e_X9_see hX hi, bds, if_pos hiL, in_lb, bds]
    by_cases d : lb (b i) = true
    · rw [ifb1 (f5.mpr d)]
      simp only [e, lts, nI_1]
      have f1 : FA c S (si S 520 (c + 129) (nI (i + 1))) := FA.s (by omega)
      obtain ⟨S', r1, r2, r3, r4, r5⟩ := ih (i + 1) (si S 520 (c + 129) (nI (i + 1))) (by omega) (by omega) (hX.fa f1) gi_si_eq m (by omega)
      exact ⟨S', r1, f1.tr r2, by rw [r3, rn_t hiL d], r4, r5.trans (gi_si_f (by decide))⟩
    · rw [ifb0 (fun q => d (f5.mp q))]
      refine ⟨si S 522 (c + 129) 1, rfl, FA.s (by omega), ?_, gi_si_eq, gi_si_f (by decide)⟩
      rw [gi_si_f (by decide), rn_f (fun q => d q.2)]; exact e
theorem e_X9_L144 : ∀ k i v (S : WS), L - i = k → i ≤ L → MX E c b L S → gi S 520 (c + 129) = nI i → gi S 523 (c + 129) = nI (min 99999 v) → v ≤ 1000000 → ∀ m, k < m → ∃ S', f_X9_advance_L144 E n m S (c + 129) = some ((), S') ∧ FA c S S' ∧ gi S' 520 (c + 129) = nI (rn db b L i) ∧ gi S' 522 (c + 129) = 2 ∧ gi S' 521 (c + 129) = gi S 521 (c + 129) ∧ gi S' 523 (c + 129) = nI (min 99999 (vln b L i v)) := by
  intro k
  induction k with
  | zero =>
    intro i v S hk hi hX e e3 hv m hm
    obtain ⟨m, rfl⟩ : ∃ q, m = q + 1 := ⟨m - 1, by omega⟩
    refine ⟨si S 522 (c + 129) 2, ?_, FA.s (by omega), ?_, gi_si_eq, gi_si_f (by decide), ?_⟩
    · simp only [f_X9_advance_L144]
      rw [e, e_X9_see hX hi, bds, if_neg (by omega), in_db, bds, ifb0 (by decide)]
      rfl
    · rw [gi_si_f (by decide), rn_f (by omega)]; exact e
    · rw [gi_si_f (by decide), vln_f (by omega)]; exact e3
  | succ k ih =>
    intro i v S hk hi hX e e3 hv m hm
    obtain ⟨m, rfl⟩ : ∃ q, m = q + 1 := ⟨m - 1, by omega⟩
    have hiL : i < L := by omega
    have hL := hX.2.2.2.2
    obtain ⟨-, -, -, -, f5, f6, f7⟩ := see_f hX hiL
    simp only [f_X9_advance_L144]
    rw [e, e_X9_see hX hi, bds, if_pos hiL, in_db, bds]
    by_cases d : db (b i) = true
    · rw [ifb1 (f6.mpr d), e, e_X9_see hX hi, bds, if_pos hiL, f7 d, e3]
      obtain ⟨dd, hd, ed, ed2⟩ := db_v d
      have ev : imin (99999 : Int32) ((((10 : Int32) * nI (min 99999 v)) + b i) - (48 : Int32)) = nI (min 99999 (min (v * 10 + (b i).toNatClampNeg - 48) 1000000)) := by
        have h1 : (10 : Int32) * nI (min 99999 v) = nI (10 * min 99999 v) := pk_mul 10 (min 99999 v)
        have h2 : min 99999 v ≤ 99999 := Nat.min_le_left _ _
        rw [ed2, ed, h1, nI_add, show (48 : Int32) = nI 48 from rfl, pk_sub (by omega), show (99999 : Int32) = nI 99999 from rfl, imin_nat (by omega) (by omega)]
        congr 1
        omega
      rw [ev]
      have g0 : gi (si S 523 (c + 129) (nI (min 99999 (min (v * 10 + (b i).toNatClampNeg - 48) 1000000)))) 520 (c + 129) = nI i := (gi_si_f (by decide)).trans e
      simp only [lts, g0, nI_1]
      have f1 : FA c S (si S 523 (c + 129) (nI (min 99999 (min (v * 10 + (b i).toNatClampNeg - 48) 1000000)))) := FA.s (by omega)
      have f2 : FA c (si S 523 (c + 129) (nI (min 99999 (min (v * 10 + (b i).toNatClampNeg - 48) 1000000)))) (si (si S 523 (c + 129) (nI (min 99999 (min (v * 10 + (b i).toNatClampNeg - 48) 1000000)))) 520 (c + 129) (nI (i + 1))) := FA.s (by omega)
      obtain ⟨S', r1, r2, r3, r4, r5, r6⟩ := ih (i + 1) (min (v * 10 + (b i).toNatClampNeg - 48) 1000000) _ (by omega) (by omega) ((hX.fa f1).fa f2) gi_si_eq ((gi_si_f (by decide)).trans gi_si_eq) (Nat.min_le_right _ _) m (by omega)
      exact ⟨S', r1, (f1.tr f2).tr r2, by rw [r3, rn_t hiL d], r4, r5.trans ((gi_si_f (by decide)).trans (gi_si_f (by decide))), by rw [r6, vln_t hiL d]⟩
    · rw [ifb0 (fun q => d (f6.mp q))]
      refine ⟨si S 522 (c + 129) 2, rfl, FA.s (by omega), ?_, gi_si_eq, gi_si_f (by decide), ?_⟩
      · rw [gi_si_f (by decide), rn_f (fun q => d q.2)]; exact e
      · rw [gi_si_f (by decide), vln_f (fun q => d q.2)]; exact e3
theorem e_X9_next_tok (hn : 1500 ≤ n) {q : Nat} (hq : q ≤ L) (hX : MX E c b L S) (e0 : gi S 520 (c + 129) = nI q) : ∃ S', f_X9_advance E n S (c + 129) = some ((), S') ∧ FA c S S' ∧ MR E c b L q S' := by
  have hL := hX.2.2.2.2
  have key : ∀ k i (S : WS), L - i = k → i ≤ L → MX E c b L S → gi S 520 (c + 129) = nI i → rn sp b L i = skp b L q → ∀ m, k < m → ∃ S', f_X9_advance_L0 E n m S (c + 129) = some ((), S') ∧ FA c S S' ∧ MR E c b L q S' := by
    intro k
    induction k with
    | zero =>
      intro i S hk hi hX e er m hm
      obtain ⟨m, rfl⟩ : ∃ q, m = q + 1 := ⟨m - 1, by omega⟩
      have f1 : FA c S (si S 521 (c + 129) (nI i)) := FA.s (by omega)
      have e1 : gi (si S 521 (c + 129) (nI i)) 520 (c + 129) = nI i := (gi_si_f (by decide)).trans e
      rw [rn_f (by omega)] at er
      have iL : ¬ i < L := by omega
      refine ⟨si (si S 521 (c + 129) (nI i)) 522 (c + 129) 0, ?_, f1.tr (FA.s (by omega)), (hX.fa f1).fa (FA.s (by omega)), ?_, ?_, ?_, fun z => ?_⟩
      · simp only [f_X9_advance_L0, e, e_X9_see hX hi, bds, iL, if_false, show ¬ (-1 : Int32) = 32 by decide, show ¬ (-1 : Int32) = 10 by decide, lts, e1, e_X9_see (hX.fa f1) hi, if_true]
      · rw [gi_si_f (by decide), e1, er]; unfold bhd; rw [if_pos (by omega)]
      · rw [gi_si_eq]; unfold knd; rw [if_pos (by omega)]; rfl
      · rw [gi_si_f (by decide), gi_si_eq, er]
      · unfold knd at z; rw [if_pos (by omega)] at z; omega
    | succ k ih =>
      intro i S hk hi hX e er m hm
      obtain ⟨m, rfl⟩ : ∃ q, m = q + 1 := ⟨m - 1, by omega⟩
      have hiL : i < L := by omega
      obtain ⟨f1, f2, f3, f4, f5, f6, f7⟩ := see_f hX hiL
      have on : sp (b i) = true → ∃ S', f_X9_advance_L0 E n m (si S 520 (c + 129) (nI (i + 1))) (c + 129) = some ((), S') ∧ FA c S S' ∧ MR E c b L q S' := by
        intro d
        have g1 : FA c S (si S 520 (c + 129) (nI (i + 1))) := FA.s (by omega)
        obtain ⟨S', r1, r2, r3⟩ := ih (i + 1) (si S 520 (c + 129) (nI (i + 1))) (by omega) (by omega) (hX.fa g1) gi_si_eq (by rw [← rn_t hiL d]; exact er) m (by omega)
        exact ⟨S', r1, g1.tr r2, r3⟩
      have st : f_X9_advance_L0 E n (m + 1) S (c + 129) = if b i = 32 then f_X9_advance_L0 E n m (si S 520 (c + 129) (nI (i + 1))) (c + 129) else if b i = 10 then f_X9_advance_L0 E n m (si S 520 (c + 129) (nI (i + 1))) (c + 129) else if lb (b i) = true then f_X9_advance_L83 E n n (si S 521 (c + 129) (nI i)) (c + 129) else if db (b i) = true then f_X9_advance_L144 E n n (si (si S 521 (c + 129) (nI i)) 523 (c + 129) 0) (c + 129) else some ((), si (si (si S 521 (c + 129) (nI i)) 522 (c + 129) (if b i = 59 then 3 else 4)) 520 (c + 129) (nI (i + 1))) := by
        have g1 : FA c S (si S 521 (c + 129) (nI i)) := FA.s (by omega)
        have e1 : gi (si S 521 (c + 129) (nI i)) 520 (c + 129) = nI i := (gi_si_f (by decide)).trans e
        simp only [f_X9_advance_L0, e, e_X9_see hX hi, bds, hiL, if_true, f1, f2, lts, nI_1, e1, e_X9_see (hX.fa g1) hi, f4, if_false, in_lb, in_db, f3]
        by_cases c1 : b i = 32
        · rw [if_pos c1, if_pos c1]
        · rw [if_neg c1, if_neg c1]
          by_cases c2 : b i = 10
          · rw [if_pos c2, if_pos c2]
          · rw [if_neg c2, if_neg c2]
            by_cases c3 : lb (b i) = true
            · rw [ifb1 (f5.mpr c3), if_pos c3]
            · rw [ifb0 (fun w => c3 (f5.mp w)), if_neg c3]
              by_cases c4 : db (b i) = true
              · rw [ifb1 (f6.mpr c4), if_pos c4]
              · rw [ifb0 (fun w => c4 (f6.mp w)), if_neg c4]
                by_cases c5 : b i = 59
                · have e2 : gi (si (si S 521 (c + 129) (nI i)) 522 (c + 129) 3) 520 (c + 129) = nI i := (gi_si_f (by decide)).trans e1
                  rw [if_pos c5, if_pos c5, e2, nI_1]
                · have e2 : gi (si (si S 521 (c + 129) (nI i)) 522 (c + 129) 4) 520 (c + 129) = nI i := (gi_si_f (by decide)).trans e1
                  rw [if_neg c5, if_neg c5, e2, nI_1]
      rw [st]
      by_cases c1 : b i = 32
      · rw [if_pos c1]; exact on (sp_iff.mpr (Or.inl c1))
      · rw [if_neg c1]
        by_cases c2 : b i = 10
        · rw [if_pos c2]; exact on (sp_iff.mpr (Or.inr c2))
        · rw [if_neg c2]
          rw [rn_f (fun z => (sp_iff.mp z.2).elim c1 c2)] at er
          have g1 : FA c S (si S 521 (c + 129) (nI i)) := FA.s (by omega)
          have e1 : gi (si S 521 (c + 129) (nI i)) 520 (c + 129) = nI i := (gi_si_f (by decide)).trans e
          have nL : ¬ L ≤ i := by omega
          by_cases c3 : lb (b i) = true
          · rw [if_pos c3]
            obtain ⟨S', r1, r2, r3, r4, r5⟩ := e_X9_L83 (n := n) (L - i) i (si S 521 (c + 129) (nI i)) rfl hi (hX.fa g1) e1 n (by omega)
            refine ⟨S', r1, g1.tr r2, (hX.fa g1).fa r2, ?_, ?_, ?_, fun z => ?_⟩
            · rw [r3]; unfold bhd; rw [← er, if_neg nL, if_pos c3]
            · rw [r4]; unfold knd; rw [← er, if_neg nL, if_pos c3]; rfl
            · rw [r5, gi_si_eq, er]
            · unfold knd at z; rw [← er, if_neg nL, if_pos c3] at z; omega
          · rw [if_neg c3]
            by_cases c4 : db (b i) = true
            · rw [if_pos c4]
              have g2 : FA c (si S 521 (c + 129) (nI i)) (si (si S 521 (c + 129) (nI i)) 523 (c + 129) 0) := FA.s (by omega)
              obtain ⟨S', r1, r2, r3, r4, r5, r6⟩ := e_X9_L144 (n := n) (L - i) i 0 (si (si S 521 (c + 129) (nI i)) 523 (c + 129) 0) rfl hi ((hX.fa g1).fa g2) ((gi_si_f (by decide)).trans e1) (gi_si_eq.trans rfl) (by omega) n (by omega)
              refine ⟨S', r1, (g1.tr g2).tr r2, ((hX.fa g1).fa g2).fa r2, ?_, ?_, ?_, fun z => ?_⟩
              · rw [r3]; unfold bhd; rw [← er, if_neg nL, if_neg c3, if_pos c4]
              · rw [r4]; unfold knd; rw [← er, if_neg nL, if_neg c3, if_pos c4]; rfl
              · rw [r5, gi_si_f (by decide), gi_si_eq, er]
              · rw [r6]; unfold vlu; rw [← er]
            · rw [if_neg c4]
              refine ⟨_, rfl, (g1.tr (FA.s (by omega))).tr (FA.s (by omega)), ((hX.fa g1).fa (FA.s (by omega))).fa (FA.s (by omega)), ?_, ?_, ?_, fun z => ?_⟩
              · rw [gi_si_eq]; unfold bhd; rw [← er, if_neg nL, if_neg c3, if_neg c4]
              · rw [gi_si_f (by decide), gi_si_eq]; unfold knd; rw [← er, if_neg nL, if_neg c3, if_neg c4]
                split <;> rfl
              · rw [gi_si_f (by decide), gi_si_f (by decide), gi_si_eq, er]
              · unfold knd at z; rw [← er, if_neg nL, if_neg c3, if_neg c4] at z; split at z <;> omega
  exact key (L - q) q S rfl hq hX e0 rfl n (by omega)
end ADV
