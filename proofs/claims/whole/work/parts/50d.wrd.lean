/-! Words and numbers, both ways -/
def tkw (b : Nat → Int32) (L q w : Nat) : Prop := knd b L q = 1 ∧ bhd b L q - skp b L q = sLen.getD w 0 ∧ ∀ i, i < sLen.getD w 0 → b (skp b L q + i) = schr w (nI i)
def nok (b : Nat → Int32) (L q lo h1 : Nat) : Prop := knd b L q = 2 ∧ lo ≤ vlu b L q ∧ vlu b L q < h1
def nfk (b : Nat → Int32) (L q : Nat) : Nat := if knd b L q = 2 then 2 else 1
theorem tkw_one {b : Nat → Int32} {L q w w' : Nat} (h : tkw b L q w) (h' : tkw b L q w') : sLen.getD w 0 = sLen.getD w' 0 ∧ ∀ i, i < sLen.getD w 0 → schr w (nI i) = schr w' (nI i) := by
  have e : sLen.getD w 0 = sLen.getD w' 0 := h.2.1.symm.trans h'.2.1
  exact ⟨e, fun i hi => (h.2.2 i hi).symm.trans (h'.2.2 i (by omega))⟩
section WRD
variable {E : EN} {n c a : Nat} {S S' : WS} {b : Nat → Int32} {L q : Nat} {R : Nat → Int32}
/-- what the class's reading changes -/
def FC (c a : Nat) (S S' : WS) : Prop := (∀ f q, gr S' f q = gr S f q) ∧ (∀ q, ar S' q = ar S q) ∧ (∀ f q, ¬ (q = c + 2 ∧ 193 ≤ f ∧ f ≤ 199) → ¬ (q = a ∧ 128 ≤ f ∧ f ≤ 134) → gi S' f q = gi S f q) ∧ (∀ q, (q ≤ a ∨ a + 12 < q) → ai S' q = ai S q) ∧ ∀ q, aj S' q = aj S q
theorem FC.rf : FC c a S S := ⟨fun _ _ => rfl, fun _ => rfl, fun _ _ _ _ => rfl, fun _ _ => rfl, fun _ => rfl⟩
theorem FC.tr {S1 S2 : WS} (h : FC c a S S1) (k : FC c a S1 S2) : FC c a S S2 := ⟨fun f q => (k.1 f q).trans (h.1 f q), fun q => (k.2.1 q).trans (h.2.1 q), fun f q z y => (k.2.2.1 f q z y).trans (h.2.2.1 f q z y), fun q z => (k.2.2.2.1 q z).trans (h.2.2.2.1 q z), fun q => (k.2.2.2.2 q).trans (h.2.2.2.2 q)⟩
theorem FT.fc (h : FT c S S') : FC c a S S' := ⟨h.1, h.2.1, fun f q z _ => h.2.2.1 f q (by omega), fun q _ => h.2.2.2.1 q, h.2.2.2.2⟩
theorem fc_s {f : Nat} {v : Int32} (h : 193 ≤ f ∧ f ≤ 199) : FC c a S (si S f (c + 2) v) := ⟨fun _ _ => rfl, fun _ => rfl, fun g q z _ => by
  by_cases e : g = f
  · subst e
    exact gi_si_a (fun w => z ⟨w, h⟩)
  · exact gi_si_f e, fun _ _ => rfl, fun _ => rfl⟩
theorem fc_a {f : Nat} {v : Int32} (h : 128 ≤ f ∧ f ≤ 134) : FC c a S (si S f a v) := ⟨fun _ _ => rfl, fun _ => rfl, fun g q _ z => by
  by_cases e : g = f
  · subst e
    exact gi_si_a (fun w => z ⟨w, h⟩)
  · exact gi_si_f e, fun _ _ => rfl, fun _ => rfl⟩
theorem fc_w {k : Nat} {g : Nat → Int32} (h : 1 ≤ k ∧ k ≤ 12) : FC c a S (wi S (a + k) g) := ⟨fun _ _ => rfl, fun _ => rfl, fun _ _ _ _ => rfl, fun q z => ai_wi_a (by omega), fun _ => rfl⟩
/-- what the model's reading changes -/
def FMo (c : Nat) (S S' : WS) : Prop := (∀ f q, gr S' f q = gr S f q) ∧ (∀ q, ar S' q = ar S q) ∧ (∀ f q, ¬ (q = c + 129 ∧ 519 ≤ f ∧ f ≤ 525) → gi S' f q = gi S f q) ∧ (∀ q, q ≠ c + 135 → ai S' q = ai S q) ∧ ∀ q, aj S' q = aj S q
theorem FMo.rf : FMo c S S := ⟨fun _ _ => rfl, fun _ => rfl, fun _ _ _ => rfl, fun _ _ => rfl, fun _ => rfl⟩
theorem FMo.tr {S1 S2 : WS} (h : FMo c S S1) (k : FMo c S1 S2) : FMo c S S2 := ⟨fun f q => (k.1 f q).trans (h.1 f q), fun q => (k.2.1 q).trans (h.2.1 q), fun f q z => (k.2.2.1 f q z).trans (h.2.2.1 f q z), fun q z => (k.2.2.2.1 q z).trans (h.2.2.2.1 q z), fun q => (k.2.2.2.2 q).trans (h.2.2.2.2 q)⟩
theorem FA.fm (h : FA c S S') : FMo c S S' := ⟨h.1, h.2.1, fun f q z => h.2.2.1 f q (by omega), fun q _ => h.2.2.2.1 q, h.2.2.2.2⟩
theorem fm_s {f : Nat} {v : Int32} (h : 519 ≤ f ∧ f ≤ 525) : FMo c S (si S f (c + 129) v) := ⟨fun _ _ => rfl, fun _ => rfl, fun g q z => by
  by_cases e : g = f
  · subst e
    exact gi_si_a (fun w => z ⟨w, h⟩)
  · exact gi_si_f e, fun _ _ => rfl, fun _ => rfl⟩
theorem fm_w {g : Nat → Int32} : FMo c S (wi S (c + 135) g) := ⟨fun _ _ => rfl, fun _ => rfl, fun _ _ _ => rfl, fun q z => ai_wi_a z, fun _ => rfl⟩
/-- the reading of the class: its token from q on, the object at a holds R -/
def RC (E : EN) (c a : Nat) (b : Nat → Int32) (L q : Nat) (R : Nat → Int32) (S : WS) : Prop := CR E c b L q S ∧ RMt E S a R ∧ q ≤ L
def CF (c k p : Nat) (S : WS) : Prop := gi S 198 (c + 2) = nI k ∧ gi S 199 (c + 2) = nI p
/-- .. of the model -/
def RM (E : EN) (c : Nat) (b : Nat → Int32) (L q : Nat) (R : Nat → Int32) (S : WS) : Prop := MR E c b L q S ∧ gi S 524 (c + 129) = 0 ∧ gr S 526 (c + 129) = some (c + 135) ∧ eN E (c + 135) = 109 ∧ (∀ i, i < 109 → ai S (c + 135) i = R i) ∧ q ≤ L
def BAD (E : EN) (c k p : Nat) (S : WS) : Prop := gi S 524 (c + 129) = nI k ∧ gi S 525 (c + 129) = nI p ∧ 1 ≤ k ∧ k ≤ 3 ∧ gr S 526 (c + 129) = some (c + 135) ∧ eN E (c + 135) = 109
theorem RC.ft (h : RC E c a b L q R S) (ha : a = c + 4 ∨ a = c + 17) {q' : Nat} (k : FT c S S') (r : CR E c b L q' S') (hq : q' ≤ L) : RC E c a b L q' R S' := ⟨r, h.2.1.fr (fun f => k.1 f a) (fun f _ _ => k.2.2.1 f a (by omega)) (fun j _ _ => k.2.2.2.1 _), hq⟩
theorem e_X4_go (h : RC E c a b L q R S) (ha : a = c + 4 ∨ a = c + 17) (hn : 1500 ≤ n) : ∃ S', f_X4_nextToken E n S (c + 2) = some ((), S') ∧ FC c a S S' ∧ RC E c a b L (bhd b L q) R S' := by
  have hb := bhd_le (b := b) h.2.2
  obtain ⟨S', r1, r2, r3⟩ := e_X4_next (n := n) hn hb.2.1 h.1.1 h.1.2.1
  exact ⟨S', r1, r2.fc, h.ft ha r2 r3 hb.2.1⟩
theorem e_X9_go (h : RM E c b L q R S) (hn : 1500 ≤ n) : ∃ S', f_X9_advance E n S (c + 129) = some ((), S') ∧ FMo c S S' ∧ RM E c b L (bhd b L q) R S' := by
  have hb := bhd_le (b := b) h.2.2.2.2.2
  obtain ⟨S', r1, r2, r3⟩ := e_X9_next_tok (n := n) hn hb.2.1 h.1.1 h.1.2.1
  exact ⟨S', r1, r2.fm, r3, (r2.2.2.1 _ _ (by omega)).trans h.2.1, (r2.1 _ _).trans h.2.2.1, h.2.2.2.1, fun i hi => by rw [r2.2.2.2.1]; exact h.2.2.2.2.1 i hi, hb.2.1⟩
theorem e_X4_isWord (h : CR E c b L q S) (hq : q ≤ L) (hn : 1500 ≤ n) {w : Nat} (hw : sLen.getD w 0 < 64) : f_X4_isWord E n S (c + 2) w = some (b2i (tkw b L q w), S) := by
  have hb := bhd_le (b := b) hq
  have hL := h.1.2.2.2.2
  have hk := knd_le (b := b) (L := L) (q := q)
  simp only [f_X4_isWord, h.2.2.1, h.2.1, h.2.2.2.1, f_length, bds, pk_sub hb.1]
  by_cases c1 : knd b L q = 1
  · rw [if_pos (show nI (knd b L q) = 1 by rw [c1]; rfl)]
    by_cases c2 : bhd b L q - skp b L q = sLen.getD w 0
    · rw [if_pos (show nI (bhd b L q - skp b L q) = Int32.ofNat (sLen.getD w 0) from congrArg nI c2)]
      refine lp (N := sLen.getD w 0) (P := fun i m => (∀ t, t < i → b (skp b L q + t) = schr w (nI t)) → f_X4_isWord_L28 E n m S (c + 2) w (nI i) = some (b2i (tkw b L q w), S)) ?_ ?_ (sLen.getD w 0) 0 n (by omega) (by omega) (fun t ht => by omega)
      · intro m hq
        simp only [f_X4_isWord_L28, f_length, bds]
        rw [if_pos (show Int32.ofNat (sLen.getD w 0) ≤ nI (sLen.getD w 0) from nI_le (Nat.le_refl _) (by omega)), b2i_t (show tkw b L q w from ⟨c1, c2, hq⟩)]
      · intro i m hi ih hq
        simp only [f_X4_isWord_L28, f_length, bds, if_neg (show ¬ Int32.ofNat (sLen.getD w 0) ≤ nI i from nI_ge hi (by omega)), h.1.1, obs, h.2.2.2.1, nI_add, h.1.2.1, nI_clamp (show skp b L q + i < 2 ^ 31 by omega), ifn (rinc (show skp b L q + i < 1400 by omega) (show 1400 < 2 ^ 31 by omega)), f_charAt, nI_clamp (show i < 2 ^ 31 by omega), ifn (rinc hi (show sLen.getD w 0 < 2 ^ 31 by omega)), h.1.2.2.1, lts, nI_1]
        by_cases d : b (skp b L q + i) = schr w (nI i)
        · rw [if_pos d]
          exact ih (fun t ht => by
            by_cases et : t = i
            · subst et; exact d
            · exact hq t (by omega))
        · rw [if_neg d, b2i_f (fun z => d (z.2.2 i hi))]
    · rw [if_neg (show ¬ nI (bhd b L q - skp b L q) = Int32.ofNat (sLen.getD w 0) from fun z => c2 ((nI_eq (by omega) (by omega)).mp z)), b2i_f (fun z => c2 z.2.1)]
  · rw [if_neg (show ¬ nI (knd b L q) = 1 from fun z => c1 ((nI_eq (b := 1) (by omega) (by decide)).mp z)), b2i_f (fun z => c1 z.1)]
theorem cf_ok (k : Nat) (h : RC E c a b L q R S) : ∃ S', f_X4_failHere E n S (c + 2) (nI k) = some (0, S') ∧ FC c a S S' ∧ CF c k (skp b L q) S' := by
  refine ⟨si (si S 198 (c + 2) (nI k)) 199 (c + 2) (nI (skp b L q)), ?_, (fc_s (by omega)).tr (fc_s (by omega)), (gi_si_f (by decide)).trans gi_si_eq, gi_si_eq⟩
  have g6 : gi (si S 198 (c + 2) (nI k)) 196 (c + 2) = nI (skp b L q) := (gi_si_f (by decide)).trans h.1.2.2.2.1
  simp only [f_X4_failHere, lts, g6]
/-- the class takes a word, or fails -/
theorem cw (h : RC E c a b L q R S) (ha : a = c + 4 ∨ a = c + 17) (hn : 1500 ≤ n) {w : Nat} (hw : sLen.getD w 0 < 64) (c1 : tkw b L q w) : ∃ S', f_X4_takeWord E n S (c + 2) w = some (1, S') ∧ FC c a S S' ∧ RC E c a b L (bhd b L q) R S' := by
  obtain ⟨S', r1, r2, r3⟩ := e_X4_go (n := n) h ha hn
  exact ⟨S', by simp only [f_X4_takeWord, e_X4_isWord h.1 h.2.2 hn hw, bds, ifb1 c1, r1], r2, r3⟩
theorem cwf (h : RC E c a b L q R S) (hn : 1500 ≤ n) {w : Nat} (hw : sLen.getD w 0 < 64) (c1 : ¬ tkw b L q w) : ∃ S', f_X4_takeWord E n S (c + 2) w = some (0, S') ∧ FC c a S S' ∧ CF c 1 (skp b L q) S' := by
  obtain ⟨S', r1, r2, r3⟩ := cf_ok (n := n) 1 h
  have r1 : f_X4_failHere E n S (c + 2) 1 = some (0, S') := r1
  exact ⟨S', by simp only [f_X4_takeWord, e_X4_isWord h.1 h.2.2 hn hw, bds, ifb0 c1, r1, zc0], r2, r3⟩
theorem kd2 (h : CR E c b L q S) : (gi S 195 (c + 2) = 2 ↔ knd b L q = 2) := by
  have hk := knd_le (b := b) (L := L) (q := q)
  rw [h.2.2.1]
  exact nI_eq (b := 2) (by omega) (by decide)
theorem cn1 (h : RC E c a b L q R S) (ha : a = c + 4 ∨ a = c + 17) (hn : 1500 ≤ n) {lo h1 : Nat} (hh1 : h1 ≤ 1000) {hi : Int32} (ehi : hi = nI h1 - 1) (c1 : nok b L q lo h1) : ∃ S', f_X4_takeNumber E n S (c + 2) (nI lo) hi = some (nI (vlu b L q), S') ∧ FC c a S S' ∧ RC E c a b L (bhd b L q) R S' := by
  obtain ⟨S', r1, r2, r3⟩ := e_X4_go (n := n) h ha hn
  have hlo : ¬ nI (vlu b L q) < nI lo := nI_nlt c1.2.1 (by have := c1.2.2; omega)
  have hle : nI (vlu b L q) ≤ hi := by
    rw [ehi]
    obtain ⟨t, rfl⟩ : ∃ t, h1 = t + 1 := ⟨h1 - 1, by have := c1.2.2; omega⟩
    rw [nI_pred]; exact nI_le (by have := c1.2.2; omega) (by omega)
  exact ⟨S', by simp only [f_X4_takeNumber, if_pos ((kd2 h.1).mpr c1.1), h.1.2.2.2.2, if_neg hlo, if_pos hle, lts, r1, bds], r2, r3⟩
theorem cn0 (h : RC E c a b L q R S) (hn : 1500 ≤ n) {lo h1 : Nat} (hh1 : h1 ≤ 1000) (hlo : lo ≤ 1000) {hi : Int32} (ehi : hi = nI h1 - 1) (c1 : ¬ nok b L q lo h1) : ∃ S', f_X4_takeNumber E n S (c + 2) (nI lo) hi = some (-1, S') ∧ FC c a S S' ∧ CF c (nfk b L q) (skp b L q) S' := by
  have hv := vlu_le (b := b) (L := L) (q := q)
  unfold nfk
  by_cases k2 : knd b L q = 2
  · rw [if_pos k2]
    obtain ⟨S', r1, r2, r3⟩ := cf_ok (n := n) 2 h
    have r1 : f_X4_failHere E n S (c + 2) 2 = some (0, S') := r1
    refine ⟨S', ?_, r2, r3⟩
    simp only [f_X4_takeNumber, if_pos ((kd2 h.1).mpr k2), h.1.2.2.2.2]
    by_cases c2 : vlu b L q < lo
    · rw [if_pos (nI_lt c2 (by omega)), r1, bds]
    · rw [if_neg (nI_nlt (by omega) (by omega)), if_neg, r1, bds]
      have c3 : h1 ≤ vlu b L q := Classical.byContradiction fun z => c1 ⟨k2, by omega, by omega⟩
      rw [ehi]
      cases h1 with
      | zero =>
        rw [crv_0]
        intro z
        exact nI_pos (show vlu b L q < 2 ^ 31 by omega) (by
          rw [Int32.le_iff_toInt_le, show (-1 : Int32).toInt = -1 by decide] at z
          rw [fa_lt, show (0 : Int32).toInt = 0 by decide]
          omega)
      | succ t => rw [nI_pred]; exact nI_ge (by omega) (by omega)
  · rw [if_neg k2]
    obtain ⟨S', r1, r2, r3⟩ := cf_ok (n := n) 1 h
    have r1 : f_X4_failHere E n S (c + 2) 1 = some (0, S') := r1
    exact ⟨S', by simp only [f_X4_takeNumber, if_neg (fun z => k2 ((kd2 h.1).mp z)), r1, bds], r2, r3⟩
/-! the model's -/
theorem gd_t (h : gi S 524 (c + 129) = 0) : f_X9_good E n S (c + 129) = some (1, S) := by simp only [f_X9_good, if_pos h]
theorem gd_f {k p : Nat} (h : BAD E c k p S) : f_X9_good E n S (c + 129) = some (0, S) := by
  have : ¬ gi S 524 (c + 129) = 0 := by rw [h.1]; exact nI_ne0 h.2.2.1 (by have := h.2.2.2.1; omega)
  simp only [f_X9_good, if_neg this]
theorem o10 : ¬ ((1 : Int32) = 0) := by decide
theorem is_0 {w : Nat} {i : Int32} (hn : 2 ≤ n) : ∀ n0, f_X9_is_L39 E n0 n S (c + 129) w 0 i = some (0, S) := by
  intro n0
  obtain ⟨m, rfl⟩ : ∃ m, n = m + 1 := ⟨n - 1, by omega⟩
  simp only [f_X9_is_L39, f_length, bds, if_true, zc0]
  split <;> rfl
theorem e_X9_is (h : RM E c b L q R S) (hn : 1500 ≤ n) {w : Nat} (hw : sLen.getD w 0 < 64) : f_X9_is E n S (c + 129) w = some (b2i (tkw b L q w), S) := by
  have hb := bhd_le (b := b) h.2.2.2.2.2
  have hL := h.1.1.2.2.2.2
  have hk := knd_le (b := b) (L := L) (q := q)
  simp only [f_X9_is, gd_t h.2.1, bds, if_neg o10, h.1.2.2.1, h.1.2.1, h.1.2.2.2.1, f_length, pk_sub hb.1]
  by_cases c1 : knd b L q = 1
  · rw [if_pos (show nI (knd b L q) = 1 by rw [c1]; rfl)]
    by_cases c2 : bhd b L q - skp b L q = sLen.getD w 0
    · rw [if_pos (show nI (bhd b L q - skp b L q) = Int32.ofNat (sLen.getD w 0) from congrArg nI c2)]
      have key : ∀ k i, i + k = sLen.getD w 0 → (∀ t, t < i → b (skp b L q + t) = schr w (nI t)) → ∀ m, k + 1 < m → f_X9_is_L39 E n m S (c + 129) w 1 (nI i) = some (b2i (tkw b L q w), S) := by
        intro k
        induction k with
        | zero =>
          intro i hi hq m hm
          obtain ⟨m, rfl⟩ : ∃ q, m = q + 1 := ⟨m - 1, by omega⟩
          simp only [f_X9_is_L39, f_length, bds]
          rw [if_pos (show Int32.ofNat (sLen.getD w 0) ≤ nI i from nI_le (by omega) (by omega)), b2i_t (show tkw b L q w from ⟨c1, c2, fun t ht => hq t (by omega)⟩), zc1]
        | succ k ih =>
          intro i hi hq m hm
          obtain ⟨m, rfl⟩ : ∃ q, m = q + 1 := ⟨m - 1, by omega⟩
          have hil : i < sLen.getD w 0 := by omega
          simp only [f_X9_is_L39, f_length, bds, if_neg (show ¬ Int32.ofNat (sLen.getD w 0) ≤ nI i from nI_ge hil (by omega)), if_neg o10, h.1.1.1, obs, h.1.2.2.2.1, nI_add, h.1.1.2.1, nI_clamp (show skp b L q + i < 2 ^ 31 by omega), ifn (rinc (show skp b L q + i < 1400 by omega) (show 1400 < 2 ^ 31 by omega)), f_charAt, nI_clamp (show i < 2 ^ 31 by omega), ifn (rinc hil (show sLen.getD w 0 < 2 ^ 31 by omega)), (h.1.1.2.2.1 _ (show skp b L q + i < 1400 by omega)).1, lts, nI_1]
          by_cases d : b (skp b L q + i) = schr w (nI i)
          · rw [if_pos d]
            exact ih (i + 1) (by omega) (fun t ht => by
              by_cases et : t = i
              · subst et; exact d
              · exact hq t (by omega)) m (by omega)
          · rw [if_neg d, b2i_f (fun z => d (z.2.2 i hil))]
            exact is_0 (by omega) n
      exact key (sLen.getD w 0) 0 (by omega) (fun t ht => by omega) n (by omega)
    · rw [if_neg (show ¬ nI (bhd b L q - skp b L q) = Int32.ofNat (sLen.getD w 0) from fun z => c2 ((nI_eq (by omega) (by omega)).mp z)), b2i_f (fun z => c2 z.2.1)]
      exact is_0 (by omega) n
  · rw [if_neg (show ¬ nI (knd b L q) = 1 from fun z => c1 ((nI_eq (b := 1) (by omega) (by decide)).mp z)), b2i_f (fun z => c1 z.1)]
    exact is_0 (by omega) n
theorem mt1 (h : RM E c b L q R S) (hn : 1500 ≤ n) {w : Nat} (hw : sLen.getD w 0 < 64) (c1 : tkw b L q w) : ∃ S', f_X9_takes E n S (c + 129) w = some (1, S') ∧ FMo c S S' ∧ RM E c b L (bhd b L q) R S' := by
  obtain ⟨S', r1, r2, r3⟩ := e_X9_go (n := n) h hn
  refine ⟨S', ?_, r2, r3⟩
  simp only [f_X9_takes, e_X9_is h hn hw, bds, ifb1 c1, r1]
  rw [b2i_t c1, zc1]
theorem mt0 (h : RM E c b L q R S) (hn : 1500 ≤ n) {w : Nat} (hw : sLen.getD w 0 < 64) (c1 : ¬ tkw b L q w) : f_X9_takes E n S (c + 129) w = some (0, S) := by
  simp only [f_X9_takes, e_X9_is h hn hw, bds, ifb0 c1]
  rw [b2i_f c1, zc0]
theorem me (k : Nat) (hk : 1 ≤ k ∧ k ≤ 3) (h : RM E c b L q R S) : ∃ S', f_X9_errs E n S (c + 129) (nI k) = some ((), S') ∧ FMo c S S' ∧ BAD E c k (skp b L q) S' := by
  have g1 : gi (si S 524 (c + 129) (nI k)) 521 (c + 129) = nI (skp b L q) := (gi_si_f (by decide)).trans h.1.2.2.2.1
  refine ⟨si (si S 524 (c + 129) (nI k)) 525 (c + 129) (nI (skp b L q)), ?_, (fm_s (by omega)).tr (fm_s (by omega)), (gi_si_f (by decide)).trans gi_si_eq, gi_si_eq, hk.1, hk.2, h.2.2.1, h.2.2.2.1⟩
  simp only [f_X9_errs, gd_t h.2.1, bds, if_neg o10, lts, g1]
theorem mw (h : RM E c b L q R S) (hn : 1500 ≤ n) {w : Nat} (hw : sLen.getD w 0 < 64) (c1 : tkw b L q w) : ∃ S', f_X9_needs E n S (c + 129) w = some ((), S') ∧ FMo c S S' ∧ RM E c b L (bhd b L q) R S' := by
  obtain ⟨S', r1, r2, r3⟩ := mt1 (n := n) h hn hw c1
  exact ⟨S', by simp only [f_X9_needs, r1, bds, if_neg o10], r2, r3⟩
theorem mwf (h : RM E c b L q R S) (hn : 1500 ≤ n) {w : Nat} (hw : sLen.getD w 0 < 64) (c1 : ¬ tkw b L q w) : ∃ S', f_X9_needs E n S (c + 129) w = some ((), S') ∧ FMo c S S' ∧ BAD E c 1 (skp b L q) S' := by
  obtain ⟨S', r1, r2, r3⟩ := me (n := n) 1 (by decide) h
  have r1 : f_X9_errs E n S (c + 129) 1 = some ((), S') := r1
  exact ⟨S', by simp only [f_X9_needs, mt0 h hn hw c1, bds, if_true, r1], r2, r3⟩
theorem mk2 (h : MR E c b L q S) : (gi S 522 (c + 129) = 2 ↔ knd b L q = 2) := by
  have hk := knd_le (b := b) (L := L) (q := q)
  rw [h.2.2.1]
  exact nI_eq (b := 2) (by omega) (by decide)
theorem in_num {v lo h1 : Nat} (hv : v ≤ 1000000) (hlo : lo ≤ 1000) (hh1 : h1 ≤ 1000) {hi : Int32} (ehi : hi = nI h1 - 1) : f_X9_in E n S (nI (min 99999 v)).toInt64 (nI lo).toInt64 hi.toInt64 = some (b2i (lo ≤ v ∧ v < h1), S) := by
  have h2 : min 99999 v ≤ 99999 := Nat.min_le_left _ _
  rw [e_in32, b2i_c]
  have e1 : ¬ nI (min 99999 v) < nI lo ↔ lo ≤ v := ⟨fun z => Classical.byContradiction fun y => z (nI_lt (by omega) (by omega)), fun z => nI_nlt (by omega) (by omega)⟩
  rw [e1]
  refine and_congr Iff.rfl ?_
  rw [ehi]
  cases h1 with
  | zero =>
    rw [crv_0]
    refine ⟨fun z => ?_, fun z => by omega⟩
    exact absurd (by rw [fa_lt, nI_toInt (by omega), show (-1 : Int32).toInt = -1 by decide]; omega) z
  | succ t =>
    rw [nI_pred]
    exact ⟨fun z => Classical.byContradiction fun y => z (nI_lt (by omega) (by omega)), fun z => nI_nlt (by omega) (by omega)⟩
theorem mn1 (h : RM E c b L q R S) (hn : 1500 ≤ n) {lo h1 : Nat} (hh1 : h1 ≤ 1000) (hlo : lo ≤ 1000) {hi : Int32} (ehi : hi = nI h1 - 1) (c1 : nok b L q lo h1) : ∃ S', f_X9_number E n S (c + 129) (nI lo) hi = some (nI (vlu b L q), S') ∧ FMo c S S' ∧ RM E c b L (bhd b L q) R S' := by
  have hv := vlu_le (b := b) (L := L) (q := q)
  obtain ⟨S', r1, r2, r3⟩ := e_X9_go (n := n) h hn
  have e3 := h.1.2.2.2.2 c1.1
  refine ⟨S', ?_, r2, r3⟩
  simp only [f_X9_number, f_X9_number_J20, gd_t h.2.1, bds, if_neg o10, if_pos ((mk2 h.1).mpr c1.1), e3, in_num hv hlo hh1 ehi, ifb1 c1.2, lts, r1]
  rw [Nat.min_eq_right (by have := c1.2.2; omega)]
theorem bad_num {k p : Nat} (h : BAD E c k p S) (lo hi : Int32) : f_X9_number E n S (c + 129) lo hi = some (0, S) := by
  simp only [f_X9_number, f_X9_number_J20, gd_f h, bds, if_true]
theorem mn0 (h : RM E c b L q R S) (hn : 1500 ≤ n) {lo h1 : Nat} (hh1 : h1 ≤ 1000) (hlo : lo ≤ 1000) {hi : Int32} (ehi : hi = nI h1 - 1) (c1 : ¬ nok b L q lo h1) : ∃ S', f_X9_number E n S (c + 129) (nI lo) hi = some (0, S') ∧ FMo c S S' ∧ BAD E c (nfk b L q) (skp b L q) S' := by
  have hv := vlu_le (b := b) (L := L) (q := q)
  unfold nfk
  by_cases k2 : knd b L q = 2
  · rw [if_pos k2]
    obtain ⟨S', r1, r2, r3⟩ := me (n := n) 2 (by decide) h
    have r1 : f_X9_errs E n S (c + 129) 2 = some ((), S') := r1
    have e3 := h.1.2.2.2.2 k2
    refine ⟨S', ?_, r2, r3⟩
    simp only [f_X9_number, f_X9_number_J20, gd_t h.2.1, bds, if_neg o10, if_pos ((mk2 h.1).mpr k2), e3, in_num hv hlo hh1 ehi, ifb0 (show ¬ (lo ≤ vlu b L q ∧ vlu b L q < h1) from fun z => c1 ⟨k2, z⟩), r1, gd_f r3, if_true]
  · rw [if_neg k2]
    obtain ⟨S', r1, r2, r3⟩ := me (n := n) 1 (by decide) h
    have r1 : f_X9_errs E n S (c + 129) 1 = some ((), S') := r1
    refine ⟨S', ?_, r2, r3⟩
    simp only [f_X9_number, f_X9_number_J20, gd_t h.2.1, bds, if_neg o10, if_neg (fun z => k2 ((mk2 h.1).mp z)), r1, gd_f r3, if_true]
theorem bad_is {k p : Nat} (h : BAD E c k p S) (hn : 2 ≤ n) (w : Nat) : f_X9_is E n S (c + 129) w = some (0, S) := by
  simp only [f_X9_is, gd_f h, bds, if_true]
  exact is_0 hn n
theorem bad_takes {k p : Nat} (h : BAD E c k p S) (hn : 2 ≤ n) (w : Nat) : f_X9_takes E n S (c + 129) w = some (0, S) := by
  simp only [f_X9_takes, bad_is h hn, bds, if_true, zc0]
theorem bad_errs {k p : Nat} (h : BAD E c k p S) (v : Int32) : f_X9_errs E n S (c + 129) v = some ((), S) := by
  simp only [f_X9_errs, gd_f h, bds, if_true]
theorem bad_needs {k p : Nat} (h : BAD E c k p S) (hn : 2 ≤ n) (w : Nat) : f_X9_needs E n S (c + 129) w = some ((), S) := by
  simp only [f_X9_needs, bad_takes h hn, bds, if_true, bad_errs h]
theorem bad_told {k p : Nat} (h : BAD E c k p S) (hn : 2 ≤ n) (w : Nat) (lo hi : Int32) : f_X9_told E n S (c + 129) w lo hi = some (0, S) := by
  simp only [f_X9_told, bad_needs h hn, bds, bad_num h]
theorem BAD.w {k p : Nat} (h : BAD E c k p S) {g : Nat → Int32} : BAD E c k p (wi S (c + 135) g) := h
end WRD
