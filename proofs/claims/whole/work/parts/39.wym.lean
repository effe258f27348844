/-! All ways by the model -/
def stB : Nat → Nat
  | 0 => 0
  | k + 1 => 8 * (1 + stB k) + 1
section WYM
variable {E : EN} {n c : Nat} {S S' : WS} {x : Nat} {M : Nat → Int32}
def MWa (c : Nat) (A : AW) (S : WS) : Prop := gi S 532 (c + 129) = nI (aT A) ∧ (gi S 534 (c + 129) = nI (aS A) ∧ ∀ i, i < aS A → ai S (c + 139) i = aR A i) ∧ gi S 536 (c + 129) = nI (aL A) ∧ (0 < aL A → gj S 537 (c + 129) = aC A) ∧ ∀ i, i < aL A → ai S (c + 140) i = aQ A i
theorem Inv.g529 (h : Inv E c S x M) : gr S 529 (c + 129) = some (c + 136) := h.s.g 529 129 136 (by decide)
theorem Inv.g530 (h : Inv E c S x M) : gr S 530 (c + 129) = some (c + 137) := h.s.g 530 129 137 (by decide)
theorem Inv.g531 (h : Inv E c S x M) : gr S 531 (c + 129) = some (c + 138) := h.s.g 531 129 138 (by decide)
theorem Inv.g533 (h : Inv E c S x M) : gr S 533 (c + 129) = some (c + 139) := h.s.g 533 129 139 (by decide)
theorem Inv.g535 (h : Inv E c S x M) : gr S 535 (c + 129) = some (c + 140) := h.s.g 535 129 140 (by decide)
theorem Inv.l136 (h : Inv E c S x M) : eN E (c + 136) = 8 := h.L.at 136 8 (by decide) (by decide)
theorem Inv.l137 (h : Inv E c S x M) : eN E (c + 137) = 8 := h.L.at 137 8 (by decide) (by decide)
theorem Inv.l138 (h : Inv E c S x M) : eN E (c + 138) = 8 := h.L.at 138 8 (by decide) (by decide)
theorem Inv.l139 (h : Inv E c S x M) : eN E (c + 139) = 8 := h.L.at 139 8 (by decide) (by decide)
theorem Inv.l140 (h : Inv E c S x M) : eN E (c + 140) = 8 := h.L.at 140 8 (by decide) (by decide)
/-- what found keeps -/
def FF (c : Nat) (S S' : WS) : Prop := (∀ f q, gr S' f q = gr S f q) ∧ (∀ f q, f ≠ 532 → f ≠ 534 → f ≠ 536 → gi S' f q = gi S f q) ∧ (∀ q, q ≠ c + 139 → q ≠ c + 140 → ai S' q = ai S q) ∧ ∀ q, aj S' q = aj S q
theorem FF.tr {S1 S2 : WS} (h : FF c S S1) (h2 : FF c S1 S2) : FF c S S2 := ⟨fun f q => (h2.1 f q).trans (h.1 f q), fun f q a b d => (h2.2.1 f q a b d).trans (h.2.1 f q a b d), fun q a b => (h2.2.2.1 q a b).trans (h.2.2.1 q a b), fun q => (h2.2.2.2 q).trans (h.2.2.2 q)⟩
theorem e_X9_found_L105 (h : Inv E c S x M) (hn : 10 ≤ n) {r : Nat → Int32} {l : Nat} {v : Int64} (h1 : 1 ≤ l) (h8 : l ≤ 8) (hr : ∀ i, i < l → ai S (c + 136) i = r i) (hv : aj S (c + 138) (l - 1) = v) : ∃ S', f_X9_found_L105 E n n S (c + 129) (nI l) 0 = some ((), S') ∧ KP c S S' ∧ FF c S S' ∧ (∀ f q, f ≠ 536 → gi S' f q = gi S f q) ∧ (∀ q, q ≠ c + 140 → ai S' q = ai S q) ∧ gi S' 536 (c + 129) = nI l ∧ gj S' 537 (c + 129) = v ∧ ∀ i, i < l → ai S' (c + 140) i = r i := by
  have key := lp (N := l) (P := fun s m => ∀ g, (∀ i, i < s → g i = r i) → ∃ g', (∀ i, i < l → g' i = r i) ∧ f_X9_found_L105 E n m (wi S (c + 140) g) (c + 129) (nI l) (nI s) = some ((), sj (si (wi S (c + 140) g') 536 (c + 129) (nI l)) 537 (c + 129) v)) ?_ ?_ l 0 n (by omega) (by omega) (ai S (c + 140)) (fun i hi => by omega)
  · obtain ⟨g', g1, g2⟩ := key
    rw [wi_self rfl] at g2
    refine ⟨_, g2, ((KP.wi (by unfold ka; omega)).tr (KP.si (by unfold kf; omega))).tr KP.sj, ⟨fun _ _ => rfl, fun f q _ _ hf => gi_si_f hf, fun q _ hq => ai_wi_a hq, fun _ => rfl⟩, fun f q hf => gi_si_f hf, fun q hq => ai_wi_a hq, gi_si_eq, gj_sj_eq, fun i hi => by rw [ai_sj, ai_si, ai_wi]; exact g1 i hi⟩
  · intro m g hg
    refine ⟨g, hg, ?_⟩
    have k531 : gr (si (wi S (c + 140) g) 536 (c + 129) (nI l)) 531 (c + 129) = some (c + 138) := h.g531
    have kv : aj (si (wi S (c + 140) g) 536 (c + 129) (nI l)) (c + 138) (l - 1) = v := hv
    obtain ⟨l, rfl⟩ : ∃ q, l = q + 1 := ⟨l - 1, by omega⟩
    rw [Nat.add_sub_cancel] at kv
    simp only [f_X9_found_L105]
    rw [if_pos (nI_le (Nat.le_refl _) (by omega))]
    simp only [lts, k531, obs, nI_pred, h.l138, nI_clamp (show l < 2 ^ 31 by omega), ifn (rinc (show l < 8 by omega) (show 8 < 2 ^ 31 by omega)), kv]
  · intro s m hs ih g hg
    have k535 : gr (wi S (c + 140) g) 535 (c + 129) = some (c + 140) := h.g535
    have k529 : gr (wi S (c + 140) g) 529 (c + 129) = some (c + 136) := h.g529
    have k136 : ai (wi S (c + 140) g) (c + 136) = ai S (c + 136) := ai_wi_a (by omega)
    simp only [f_X9_found_L105]
    rw [if_neg (nI_ge hs (by omega))]
    simp only [k535, k529, obs, h.l136, h.l140, nI_clamp (show s < 2 ^ 31 by omega), ifn (rinc (show s < 8 by omega) (show 8 < 2 ^ 31 by omega)), lts, nI_1, ai_wi, wi_wi, k136]
    refine ih _ (fun i hi => ?_)
    by_cases e : i = s
    · subst e; rw [pk_us]; exact hr i hs
    · rw [pk_un e]; exact hg i (by omega)
theorem e_X9_found_J55 (h : Inv E c S x M) (hn : 10 ≤ n) {A : AW} (hV : AVal M A) {r : Nat → Int32} {l : Nat} {v : Int64} (h1 : 1 ≤ l) (h8 : l ≤ 8) (hr : ∀ i, i < l → ai S (c + 136) i = r i) (hv : aj S (c + 138) (l - 1) = v) (a1 : gi S 536 (c + 129) = nI (aL A)) (a2 : 0 < aL A → gj S 537 (c + 129) = aC A) (a3 : ∀ i, i < aL A → ai S (c + 140) i = aQ A i) : ∃ S', f_X9_found_J55 E n S (c + 129) (nI l) = some ((), S') ∧ KP c S S' ∧ FF c S S' ∧ (∀ f q, f ≠ 536 → gi S' f q = gi S f q) ∧ (∀ q, q ≠ c + 140 → ai S' q = ai S q) ∧ gi S' 536 (c + 129) = nI (aL (nt A r l v)) ∧ (0 < aL (nt A r l v) → gj S' 537 (c + 129) = aC (nt A r l v)) ∧ ∀ i, i < aL (nt A r l v) → ai S' (c + 140) i = aQ (nt A r l v) i := by
  have hL := hV.2.1
  have up : sfc A l v → ∃ S', f_X9_found_L105 E n n S (c + 129) (nI l) 0 = some ((), S') ∧ KP c S S' ∧ FF c S S' ∧ (∀ f q, f ≠ 536 → gi S' f q = gi S f q) ∧ (∀ q, q ≠ c + 140 → ai S' q = ai S q) ∧ gi S' 536 (c + 129) = nI (aL (nt A r l v)) ∧ (0 < aL (nt A r l v) → gj S' 537 (c + 129) = aC (nt A r l v)) ∧ ∀ i, i < aL (nt A r l v) → ai S' (c + 140) i = aQ (nt A r l v) i := by
    intro q
    obtain ⟨S', e, e1, e2, e3, e4, e5, e6, e7⟩ := e_X9_found_L105 (n := n) h hn h1 h8 hr hv
    refine ⟨S', e, e1, e2, e3, e4, ?_, ?_, ?_⟩ <;> unfold nt <;> simp only [aL, aC, aQ]
    · rw [if_pos q]; exact e5
    · rw [if_pos q, if_pos q]; exact fun _ => e6
    · rw [if_pos q, if_pos q]; exact e7
  have no : ¬ sfc A l v → KP c S S ∧ FF c S S ∧ (∀ f q, f ≠ 536 → gi S f q = gi S f q) ∧ (∀ q, q ≠ c + 140 → ai S q = ai S q) ∧ gi S 536 (c + 129) = nI (aL (nt A r l v)) ∧ (0 < aL (nt A r l v) → gj S 537 (c + 129) = aC (nt A r l v)) ∧ ∀ i, i < aL (nt A r l v) → ai S (c + 140) i = aQ (nt A r l v) i := by
    intro q
    refine ⟨KP.rf, ⟨fun _ _ => rfl, fun _ _ _ _ _ => rfl, fun _ _ _ => rfl, fun _ => rfl⟩, fun _ _ _ => rfl, fun _ _ => rfl, ?_, ?_, ?_⟩ <;> unfold nt <;> simp only [aL, aC, aQ]
    · rw [if_neg q]; exact a1
    · rw [if_neg q, if_neg q]; exact a2
    · rw [if_neg q, if_neg q]; exact a3
  unfold f_X9_found_J55
  rw [a1]
  obtain ⟨l', rfl⟩ : ∃ q, l = q + 1 := ⟨l - 1, by omega⟩
  rw [Nat.add_sub_cancel] at hv
  by_cases c0 : aL A = 0
  · rw [if_pos (by rw [c0]; decide)]
    exact up (Or.inl c0)
  · rw [if_neg (nI_nle (by omega) (by omega))]
    simp only [h.g531, obs, nI_pred, h.l138, nI_clamp (show l' < 2 ^ 31 by omega), ifn (rinc (show l' < 8 by omega) (show 8 < 2 ^ 31 by omega)), hv, a2 (by omega)]
    by_cases c1 : v < aC A
    · rw [if_pos (lcm_lt.mpr c1)]
      refine ⟨S, rfl, no ?_⟩
      rw [fa_lt64] at c1
      rintro (q | q | q)
      · exact c0 q
      · rw [fa_lt64] at q; omega
      · have := (fa_eq64 _ _).mp q.1; omega
    · rw [if_neg (fun q => c1 (lcm_lt.mp q))]
      by_cases c2 : v = aC A
      · rw [if_pos (lcm_eq.mpr c2)]
        by_cases c3 : l' + 1 < aL A
        · rw [if_pos (nI_lt c3 (by omega))]
          exact up (Or.inr (Or.inr ⟨c2, c3⟩))
        · rw [if_neg (nI_nlt (by omega) (by omega))]
          refine ⟨S, rfl, no ?_⟩
          rintro (q | q | q)
          · exact c0 q
          · rw [c2, fa_lt64] at q; omega
          · exact c3 q.2
      · rw [if_neg (fun q => c2 (lcm_eq.mp q))]
        refine up (Or.inr (Or.inl ?_))
        rw [fa_lt64] at c1 ⊢
        rw [fa_eq64] at c2
        omega
theorem e_X9_found_L27 (h : Inv E c S x M) (hn : 10 ≤ n) {r : Nat → Int32} {l : Nat} (h1 : 1 ≤ l) (h8 : l ≤ 8) (hr : ∀ i, i < l → ai S (c + 136) i = r i) : ∃ g, (∀ i, i < l → g i = r i) ∧ f_X9_found_L27 E n n S (c + 129) (nI l) 0 = f_X9_found_J55 E n (si (wi S (c + 139) g) 534 (c + 129) (nI l)) (c + 129) (nI l) := by
  have key := lp (N := l) (P := fun s m => ∀ g, (∀ i, i < s → g i = r i) → ∃ g', (∀ i, i < l → g' i = r i) ∧ f_X9_found_L27 E n m (wi S (c + 139) g) (c + 129) (nI l) (nI s) = f_X9_found_J55 E n (si (wi S (c + 139) g') 534 (c + 129) (nI l)) (c + 129) (nI l)) ?_ ?_ l 0 n (by omega) (by omega) (ai S (c + 139)) (fun i hi => by omega)
  · rw [wi_self rfl] at key
    exact key
  · intro m g hg
    refine ⟨g, hg, ?_⟩
    simp only [f_X9_found_L27]
    rw [if_pos (nI_le (Nat.le_refl _) (by omega)), lts]
  · intro s m hs ih g hg
    have k533 : gr (wi S (c + 139) g) 533 (c + 129) = some (c + 139) := h.g533
    have k529 : gr (wi S (c + 139) g) 529 (c + 129) = some (c + 136) := h.g529
    have k136 : ai (wi S (c + 139) g) (c + 136) = ai S (c + 136) := ai_wi_a (by omega)
    simp only [f_X9_found_L27]
    rw [if_neg (nI_ge hs (by omega))]
    simp only [k533, k529, obs, h.l136, h.l139, nI_clamp (show s < 2 ^ 31 by omega), ifn (rinc (show s < 8 by omega) (show 8 < 2 ^ 31 by omega)), lts, nI_1, ai_wi, wi_wi, k136]
    refine ih _ (fun i hi => ?_)
    by_cases e : i = s
    · subst e; rw [pk_us]; exact hr i hs
    · rw [pk_un e]; exact hg i (by omega)
theorem e_X9_found (h : Inv E c S x M) (hn : 10 ≤ n) {A : AW} (hV : AVal M A) (hA : MWa c A S) {r : Nat → Int32} {l : Nat} {v : Int64} (h1 : 1 ≤ l) (h8 : l ≤ 8) (hr : ∀ i, i < l → ai S (c + 136) i = r i) (hv : aj S (c + 138) (l - 1) = v) : ∃ S', f_X9_found E n S (c + 129) (nI l) = some ((), S') ∧ KP c S S' ∧ FF c S S' ∧ MWa c (nt A r l v) S' := by
  obtain ⟨t1, ⟨s1, s2⟩, f1, f2, f3⟩ := hA
  have hS := hV.1
  obtain ⟨S1, hS1⟩ : ∃ S1, S1 = si S 532 (c + 129) (nI (aT A + 1)) := ⟨_, rfl⟩
  have k1 : KP c S S1 := by rw [hS1]; exact KP.si (by unfold kf; omega)
  have i1 := h.kp k1
  have F1 : FF c S S1 := by rw [hS1]; exact ⟨fun _ _ => rfl, fun f q a _ _ => gi_si_f a, fun _ _ _ => rfl, fun _ => rfl⟩
  have u1 : gi S1 532 (c + 129) = nI (aT A + 1) := by rw [hS1]; exact gi_si_eq
  have u2 : gi S1 534 (c + 129) = nI (aS A) := by rw [hS1, gi_si_f (by decide)]; exact s1
  have u3 : gi S1 536 (c + 129) = nI (aL A) := by rw [hS1, gi_si_f (by decide)]; exact f1
  have uj : gj S1 537 (c + 129) = gj S 537 (c + 129) := by rw [hS1]; rfl
  have ua : ∀ q, ai S1 q = ai S q := fun q => by rw [hS1]; rfl
  have uJ : ∀ q, aj S1 q = aj S q := fun q => by rw [hS1]; rfl
  have up : shc A l → ∃ S', f_X9_found_L27 E n n S1 (c + 129) (nI l) 0 = some ((), S') ∧ KP c S S' ∧ FF c S S' ∧ MWa c (nt A r l v) S' := by
    intro q
    obtain ⟨g, g1, g2⟩ := e_X9_found_L27 (n := n) (r := r) i1 hn h1 h8 (fun i hi => by rw [ua]; exact hr i hi)
    obtain ⟨S2, hS2⟩ : ∃ S2, S2 = si (wi S1 (c + 139) g) 534 (c + 129) (nI l) := ⟨_, rfl⟩
    have k2 : KP c S1 S2 := by rw [hS2]; exact (KP.wi (by unfold ka; omega)).tr (KP.si (by unfold kf; omega))
    have F2 : FF c S1 S2 := by rw [hS2]; exact ⟨fun _ _ => rfl, fun f q _ a _ => gi_si_f a, fun q a _ => ai_wi_a a, fun _ => rfl⟩
    rw [← hS2] at g2
    obtain ⟨S', e, e1, e2, e3, e4, e5, e6, e7⟩ := e_X9_found_J55 (n := n) (S := S2) (i1.kp k2) hn hV (r := r) (l := l) (v := v) h1 h8 (fun i hi => by rw [F2.2.2.1 _ (by omega) (by omega), ua]; exact hr i hi) (by rw [F2.2.2.2, uJ]; exact hv) (by rw [hS2, gi_si_f (by decide)]; exact u3) (fun z => by rw [hS2]; exact (uj.trans (f2 z))) (fun i hi => by rw [hS2, ai_si, ai_wi_a (by omega), ua]; exact f3 i hi)
    refine ⟨S', g2.trans e, (k1.tr k2).tr e1, (F1.tr F2).tr e2, ?_, ⟨?_, ?_⟩, e5, e6, e7⟩
    · rw [e3 _ _ (by decide), hS2, gi_si_f (by decide)]; exact u1
    · rw [e3 _ _ (by decide), hS2, gi_si_eq]; unfold nt; simp only [aS]; rw [if_pos q]
    · unfold nt; simp only [aS, aR]; rw [if_pos q, if_pos q]
      intro i hi
      rw [e4 _ (by omega), hS2, ai_si, ai_wi]; exact g1 i hi
  have no : ¬ shc A l → ∃ S', f_X9_found_J55 E n S1 (c + 129) (nI l) = some ((), S') ∧ KP c S S' ∧ FF c S S' ∧ MWa c (nt A r l v) S' := by
    intro q
    obtain ⟨S', e, e1, e2, e3, e4, e5, e6, e7⟩ := e_X9_found_J55 (n := n) (S := S1) i1 hn hV (r := r) (l := l) (v := v) h1 h8 (fun i hi => by rw [ua]; exact hr i hi) (by rw [uJ]; exact hv) u3 (fun z => uj.trans (f2 z)) (fun i hi => by rw [ua]; exact f3 i hi)
    refine ⟨S', e, k1.tr e1, F1.tr e2, ?_, ⟨?_, ?_⟩, e5, e6, e7⟩
    · rw [e3 _ _ (by decide)]; exact u1
    · rw [e3 _ _ (by decide), u2]; unfold nt; simp only [aS]; rw [if_neg q]
    · unfold nt; simp only [aS, aR]; rw [if_neg q, if_neg q]
      intro i hi
      rw [e4 _ (by omega), ua]; exact s2 i hi
  simp only [f_X9_found, t1, lts, nI_1]
  rw [← hS1, u2]
  by_cases c0 : aS A = 0
  · rw [if_pos (by rw [c0]; decide)]
    exact up (Or.inl c0)
  · rw [if_neg (nI_ne0 (by omega) (by omega))]
    by_cases c1 : l < aS A
    · rw [if_neg (nI_ge c1 (by omega))]
      exact up (Or.inr c1)
    · rw [if_pos (nI_le (by omega) (by omega))]
      exact no (fun q => q.elim c0 c1)
theorem e_X9_isNew (h : Inv E c S x M) (hn : 10 ≤ n) {r : Nat → Int32} {d : Nat} (h8 : d < 8) (hr : ∀ i, i ≤ d → ai S (c + 136) i = r i) (v : Int32) : f_X9_isNew E n S (c + 129) v (nI (d + 1)) = some (b2i (∀ i, i ≤ d → r i ≠ v), S) := by
  refine lp (N := d + 1) (P := fun s m => (∀ i, i < s → r i ≠ v) → f_X9_isNew_L2 E n m S (c + 129) v (nI (d + 1)) (nI s) = some (b2i (∀ i, i ≤ d → r i ≠ v), S)) ?_ ?_ (d + 1) 0 n (by omega) (by omega) (fun i hi => by omega)
  · intro m q
    simp only [f_X9_isNew_L2]
    rw [if_pos (nI_le (Nat.le_refl _) (by omega)), b2i_t (fun i hi => q i (by omega))]
  · intro s m hs ih q
    simp only [f_X9_isNew_L2]
    rw [if_neg (nI_ge hs (by omega))]
    simp only [h.g529, obs, h.l136, nI_clamp (show s < 2 ^ 31 by omega), ifn (rinc (show s < 8 by omega) (show 8 < 2 ^ 31 by omega)), hr s (by omega), lts, nI_1]
    by_cases e : r s = v
    · rw [if_pos e, b2i_f (fun z => z s (by omega) e)]
    · rw [if_neg e]
      refine ih (fun i hi => ?_)
      by_cases e2 : i = s
      · subst e2; exact e
      · exact q i (by omega)
/-- the model's search at a level -/
theorem e_X9_lvl {o t : Int32} {y : Nat} (hy : y < 30) (hn : 20 ≤ n) : ∀ k d, k + d = 8 → 1 ≤ k → ∀ (S : WS) (r : Nat → Int32) (v : Int64) (A : AW), Inv E c S x M → gi S 528 (c + 129) = o → MWa c A S → AVal M A → (∀ i, i ≤ d → ai S (c + 136) i = r i) → plc M r (d + 1) → (∀ i j, i < j → j ≤ d → r i ≠ r j) → aj S (c + 138) d = v → cok v → ai S (c + 137) d = -1 → ∃ s S', s ≤ stB k ∧ (∀ m, f_X9_allWays_L55 E n (s + m) S (c + 129) t (nI y) (nI (d + 1)) = f_X9_allWays_L55 E n m S' (c + 129) t (nI y) (nI d)) ∧ KP c S S' ∧ gi S' 528 (c + 129) = o ∧ MWa c (dfs M o t y k r d v A) S' ∧ AVal M (dfs M o t y k r d v A) ∧ (∀ i, i ≤ d → ai S' (c + 136) i = r i) ∧ (∀ i, i < d → ai S' (c + 137) i = ai S (c + 137) i) ∧ ∀ i, i ≤ d → aj S' (c + 138) i = aj S (c + 138) i := by
  intro k
  induction k with
  | zero => intro d _ h1; omega
  | succ k ih =>
    intro d hd _ S r v A h ho hA hV hr hp hdis hv hvc hg
    have hP := h.w.lP
    rw [dfs]
    by_cases c0 : r d = t
    · rw [if_pos c0]
      obtain ⟨S', e, e1, e2, e3⟩ := e_X9_found (n := n) h (by omega) hV hA (r := r) (l := d + 1) (v := v) (by omega) (by omega) (fun i hi => hr i (by omega)) hv
      refine ⟨1, S', by unfold stB; omega, fun m => ?_, e1, (e2.2.1 _ _ (by decide) (by decide) (by decide)).trans ho, e3, nt_val hV (by omega) (by omega) hp hvc, fun i hi => by rw [e2.2.2.1 _ (by omega) (by omega)]; exact hr i hi, fun i hi => by rw [e2.2.2.1 _ (by omega) (by omega)], fun i hi => by rw [e2.2.2.2]⟩
      rw [show 1 + m = m + 1 by omega]
      simp only [f_X9_allWays_L55]
      rw [if_neg (nI_nle (by omega) (by omega))]
      simp only [h.g529, obs, nI_pred, h.l136, nI_clamp (show d < 2 ^ 31 by omega), ifn (rinc (show d < 8 by omega) (show 8 < 2 ^ 31 by omega)), hr d (Nat.le_refl _), lts]
      rw [if_pos c0, e, bds, pk_m1]
    · rw [if_neg c0]
      have loop : ∀ j q, q + j = cP M → ∀ (S : WS) (A : AW), Inv E c S x M → gi S 528 (c + 129) = o → MWa c A S → AVal M A → (∀ i, i ≤ d → ai S (c + 136) i = r i) → aj S (c + 138) d = v → ai S (c + 137) d + 1 = nI q → ∃ s S', s ≤ j * (1 + stB k) + 1 ∧ (∀ m, f_X9_allWays_L55 E n (s + m) S (c + 129) t (nI y) (nI (d + 1)) = f_X9_allWays_L55 E n m S' (c + 129) t (nI y) (nI d)) ∧ KP c S S' ∧ gi S' 528 (c + 129) = o ∧ MWa c (lpq (fun q A => @ite _ (gon M o r d q) (Classical.propDecidable _) (dfs M o t y k (upd r (d + 1) (nI q)) (d + 1) (saf M (pbt M (r d) (nI q)) y v (cS M)) A) A) j q A) S' ∧ AVal M (lpq (fun q A => @ite _ (gon M o r d q) (Classical.propDecidable _) (dfs M o t y k (upd r (d + 1) (nI q)) (d + 1) (saf M (pbt M (r d) (nI q)) y v (cS M)) A) A) j q A) ∧ (∀ i, i ≤ d → ai S' (c + 136) i = r i) ∧ (∀ i, i < d → ai S' (c + 137) i = ai S (c + 137) i) ∧ ∀ i, i ≤ d → aj S' (c + 138) i = aj S (c + 138) i := by
        intro j
        induction j with
        | zero =>
          intro q hqj S A h ho hA hV hr hv hg
          have k5 : KP c S (wi S (c + 137) (upd (ai S (c + 137)) d (nI q))) := KP.wi (by unfold ka; omega)
          have i5 := h.kp k5
          refine ⟨1, wi S (c + 137) (upd (ai S (c + 137)) d (nI q)), by omega, fun m => ?_, k5, ho, ?_, hV, fun i hi => by rw [ai_wi_a (by omega)]; exact hr i hi, fun i hi => by rw [ai_wi, pk_un (by omega)], fun _ _ => rfl⟩
          · rw [show 1 + m = m + 1 by omega]
            simp only [f_X9_allWays_L55]
            rw [if_neg (nI_nle (by omega) (by omega))]
            simp only [h.g529, h.g530, i5.g530, obs, nI_pred, h.l136, h.l137, nI_clamp (show d < 2 ^ 31 by omega), ifn (rinc (show d < 8 by omega) (show 8 < 2 ^ 31 by omega)), hr d (Nat.le_refl _), lts, if_neg c0, hg, ai_wi, pk_us, e_X9_places i5.o, bds]
            rw [if_neg (show ¬ nI q < M 0 from by rw [h.w.s0]; exact nI_nlt (by omega) (by omega)), pk_m1]
          · obtain ⟨a1, ⟨a2, a3⟩, a4, a5, a6⟩ := hA
            exact ⟨a1, ⟨a2, fun i hi => by rw [ai_wi_a (by omega)]; exact a3 i hi⟩, a4, a5, fun i hi => by rw [ai_wi_a (by omega)]; exact a6 i hi⟩
        | succ j ihj =>
          intro q hqj S A h ho hA hV hr hv hg
          obtain ⟨S5, hS5⟩ : ∃ S5, S5 = wi S (c + 137) (upd (ai S (c + 137)) d (nI q)) := ⟨_, rfl⟩
          have k5 : KP c S S5 := by rw [hS5]; exact KP.wi (by unfold ka; omega)
          have i5 := h.kp k5
          have ho5 : gi S5 528 (c + 129) = o := by rw [hS5]; exact ho
          have hr5 : ∀ i, i ≤ d → ai S5 (c + 136) i = r i := fun i hi => by rw [hS5, ai_wi_a (by omega)]; exact hr i hi
          have hA5 : MWa c A S5 := by
            obtain ⟨a1, ⟨a2, a3⟩, a4, a5, a6⟩ := hA
            rw [hS5]
            exact ⟨a1, ⟨a2, fun i hi => by rw [ai_wi_a (by omega)]; exact a3 i hi⟩, a4, a5, fun i hi => by rw [ai_wi_a (by omega)]; exact a6 i hi⟩
          have hv5 : aj S5 (c + 138) = aj S (c + 138) := by rw [hS5]; rfl
          have hg5 : ai S5 (c + 137) = upd (ai S (c + 137)) d (nI q) := by rw [hS5, ai_wi]
          have hgq : ai S5 (c + 137) d + 1 = nI (q + 1) := by rw [hg5, pk_us, nI_1]
          have hnew := e_X9_isNew (n := n) i5 (by omega) (show d < 8 by omega) hr5 (nI q)
          have step : ∀ m, f_X9_allWays_L55 E n (m + 1) S (c + 129) t (nI y) (nI (d + 1)) = (bd (f_X9_pathBetween E n S5 (c + 129) (r d) (nI q)) fun v11 S10 =>
            if v11 = (-1 : Int32) then
              f_X9_allWays_L55 E n m S10 (c + 129) t (nI y) (nI (d + 1))
            else
              if (((gi S10 528 (c + 129)) >>> (v11 &&& 31)) &&& (1 : Int32)) = 0 then
                f_X9_allWays_L55 E n m S10 (c + 129) t (nI y) (nI (d + 1))
              else
                bd (f_X9_isNew E n S10 (c + 129) (nI q) (nI (d + 1))) fun v13 S12 =>
                if v13 = 0 then
                  f_X9_allWays_L55 E n m S12 (c + 129) t (nI y) (nI (d + 1))
                else
                  (gr S12 529 (c + 129)).bind fun b14 =>
                  if (nI (d + 1)) < 0 ∨ eN E b14 ≤ (nI (d + 1)).toNatClampNeg then none else
                  lt (wi S12 b14 (upd (ai S12 b14) (nI (d + 1)).toNatClampNeg (nI q))) fun S15 =>
                  (gr S15 531 (c + 129)).bind fun b16 =>
                  (gr S15 531 (c + 129)).bind fun b17 =>
                  if ((nI (d + 1)) - (1 : Int32)) < 0 ∨ eN E b17 ≤ ((nI (d + 1)) - (1 : Int32)).toNatClampNeg then none else
                  bd (f_X9_safeBy E n S15 (c + 129) (aj S15 b17 ((nI (d + 1)) - (1 : Int32)).toNatClampNeg) v11 (nI y)) fun v19 S18 =>
                  if (nI (d + 1)) < 0 ∨ eN E b16 ≤ (nI (d + 1)).toNatClampNeg then none else
                  lt (wj S18 b16 (vp_updL (aj S18 b16) (nI (d + 1)).toNatClampNeg v19)) fun S20 =>
                  (gr S20 530 (c + 129)).bind fun b21 =>
                  if (nI (d + 1)) < 0 ∨ eN E b21 ≤ (nI (d + 1)).toNatClampNeg then none else
                  lt (wi S20 b21 (upd (ai S20 b21) (nI (d + 1)).toNatClampNeg (-1 : Int32))) fun S22 =>
                  lt ((nI (d + 1)) + (1 : Int32)) fun y23 =>
                  f_X9_allWays_L55 E n m S22 (c + 129) t (nI y) y23) := by
            intro m
            conv => lhs; unfold f_X9_allWays_L55
            rw [if_neg (nI_nle (by omega) (by omega))]
            simp only [h.g529, h.g530, obs, nI_pred, h.l136, h.l137, nI_clamp (show d < 2 ^ 31 by omega), ifn (rinc (show d < 8 by omega) (show 8 < 2 ^ 31 by omega)), hr d (Nat.le_refl _), lts, if_neg c0, hg]
            rw [← hS5]
            simp only [i5.g530, obs, h.l137, ifn (rinc (show d < 8 by omega) (show 8 < 2 ^ 31 by omega)), hg5, pk_us, e_X9_places i5.o, bds]
            rw [if_pos (show nI q < M 0 from by rw [h.w.s0]; exact nI_lt (by omega) (by omega))]
          have skip : ∀ A', (∀ m, f_X9_allWays_L55 E n (m + 1) S (c + 129) t (nI y) (nI (d + 1)) = f_X9_allWays_L55 E n m S5 (c + 129) t (nI y) (nI (d + 1))) → A' = lpq (fun q A => @ite _ (gon M o r d q) (Classical.propDecidable _) (dfs M o t y k (upd r (d + 1) (nI q)) (d + 1) (saf M (pbt M (r d) (nI q)) y v (cS M)) A) A) j (q + 1) A → ∃ s S', s ≤ (j + 1) * (1 + stB k) + 1 ∧ (∀ m, f_X9_allWays_L55 E n (s + m) S (c + 129) t (nI y) (nI (d + 1)) = f_X9_allWays_L55 E n m S' (c + 129) t (nI y) (nI d)) ∧ KP c S S' ∧ gi S' 528 (c + 129) = o ∧ MWa c A' S' ∧ AVal M A' ∧ (∀ i, i ≤ d → ai S' (c + 136) i = r i) ∧ (∀ i, i < d → ai S' (c + 137) i = ai S (c + 137) i) ∧ ∀ i, i ≤ d → aj S' (c + 138) i = aj S (c + 138) i := by
            intro A' hs hA'
            obtain ⟨s, S', e, e1, e2, e3, e4, e5, e6, e7, e8⟩ := ihj (q + 1) (by omega) S5 A i5 ho5 hA5 hV hr5 (by rw [hv5]; exact hv) hgq
            rw [hA']
            refine ⟨s + 1, S', ?_, fun m => ?_, k5.tr e2, e3, e4, e5, e6, fun i hi => ?_, fun i hi => ?_⟩
            · rw [Nat.add_mul, Nat.one_mul]; omega
            · rw [show s + 1 + m = s + m + 1 by omega, hs, e1]
            · rw [e7 i hi, hg5, pk_un (by omega)]
            · rw [e8 i hi, hv5]
          rw [lpq]
          by_cases g2 : pbt M (r d) (nI q) = -1
          · rw [if_neg (fun z => z.2.1 g2)]
            refine skip _ (fun m => ?_) rfl
            rw [step, e_X9_pathBetween i5.o i5.w (by omega), bds, if_pos g2]
          · by_cases g3 : (o >>> (pbt M (r d) (nI q) &&& 31)) &&& 1 = 1
            · by_cases g1 : ∀ i, i ≤ d → r i ≠ nI q
              · rw [if_pos ⟨g1, g2, g3⟩]
                have hd7 : d < 7 := by
                  apply Classical.byContradiction
                  intro hd7
                  have hd7 : d = 7 := by omega
                  subst hd7
                  obtain ⟨i, hi, e⟩ := fb_onto (n := 8) (f := fun i => (r i).toNatClampNeg) (fun i hi => by
                    obtain ⟨p, hp1, hp2⟩ := hp i (by omega)
                    show (r i).toNatClampNeg < 8
                    rw [hp2, nI_clamp (by omega)]; omega) (fun i j hij hj e => by
                    obtain ⟨p, hp1, hp2⟩ := hp i (by omega)
                    obtain ⟨p', hp3, hp4⟩ := hp j (by omega)
                    have e : (r i).toNatClampNeg = (r j).toNatClampNeg := e
                    rw [hp2, hp4, nI_clamp (by omega), nI_clamp (by omega)] at e
                    exact hdis i j hij (by omega) (by rw [hp2, hp4, e])) (y := q) (by omega)
                  obtain ⟨p, hp1, hp2⟩ := hp i (by omega)
                  have e : (r i).toNatClampNeg = q := e
                  rw [hp2, nI_clamp (by omega)] at e
                  exact g1 i (by omega) (by rw [hp2, e])
                obtain ⟨S6, hS6⟩ : ∃ S6, S6 = wi S5 (c + 136) (upd (ai S5 (c + 136)) (d + 1) (nI q)) := ⟨_, rfl⟩
                have k6 : KP c S5 S6 := by rw [hS6]; exact KP.wi (by unfold ka; omega)
                have i6 := i5.kp k6
                have v6 : aj S6 (c + 138) = aj S (c + 138) := by rw [hS6]; exact hv5
                obtain ⟨S7, hS7⟩ : ∃ S7, S7 = wj S6 (c + 138) (vp_updL (aj S6 (c + 138)) (d + 1) (saf M (pbt M (r d) (nI q)) y v (cS M))) := ⟨_, rfl⟩
                have k7 : KP c S6 S7 := by rw [hS7]; exact KP.wj (Or.inl (by unfold ka; omega))
                have i7 := i6.kp k7
                obtain ⟨S8, hS8⟩ : ∃ S8, S8 = wi S7 (c + 137) (upd (ai S7 (c + 137)) (d + 1) (-1)) := ⟨_, rfl⟩
                have k8 : KP c S7 S8 := by rw [hS8]; exact KP.wi (by unfold ka; omega)
                have i8 := i7.kp k8
                have b136 : ai S8 (c + 136) = upd (ai S5 (c + 136)) (d + 1) (nI q) := by rw [hS8, ai_wi_a (by omega), hS7, ai_wj, hS6, ai_wi]
                have b137 : ai S8 (c + 137) = upd (ai S5 (c + 137)) (d + 1) (-1) := by rw [hS8, ai_wi, hS7, ai_wj, hS6, ai_wi_a (by omega)]
                have b138 : aj S8 (c + 138) = vp_updL (aj S (c + 138)) (d + 1) (saf M (pbt M (r d) (nI q)) y v (cS M)) := by rw [hS8, aj_wi, hS7, aj_wj, v6]
                have ob : ∀ q, q ≠ c + 136 → q ≠ c + 137 → ai S8 q = ai S5 q := fun q q1 q2 => by rw [hS8, ai_wi_a q2, hS7, ai_wj, hS6, ai_wi_a q1]
                have og : ∀ f q, gi S8 f q = gi S5 f q := fun f q => by rw [hS8, gi_wi, hS7, gi_wj, hS6, gi_wi]
                have oj : ∀ f q, gj S8 f q = gj S5 f q := fun f q => by rw [hS8, gj_wi, hS7, gj_wj, hS6, gj_wi]
                have hA8 : MWa c A S8 := by
                  obtain ⟨a1, ⟨a2, a3⟩, a4, a5, a6⟩ := hA5
                  exact ⟨(og _ _).trans a1, ⟨(og _ _).trans a2, fun i hi => by rw [ob _ (by omega) (by omega)]; exact a3 i hi⟩, (og _ _).trans a4, fun z => (oj _ _).trans (a5 z), fun i hi => by rw [ob _ (by omega) (by omega)]; exact a6 i hi⟩
                obtain ⟨s1, S9, f0, f1, f2, f3, f4, f5, f6, f7, f8⟩ := ih (d + 1) (by omega) (by omega) S8 (upd r (d + 1) (nI q)) (saf M (pbt M (r d) (nI q)) y v (cS M)) A i8 ((og _ _).trans ho5) hA8 hV (fun i hi => by
                  rw [b136]
                  by_cases e : i = d + 1
                  · subst e; rw [pk_us, pk_us]
                  · rw [pk_un e, pk_un e]; exact hr5 i (by omega)) (fun i hi => by
                  by_cases e : i = d + 1
                  · subst e; rw [pk_us]; exact ⟨q, by omega, rfl⟩
                  · rw [pk_un e]; exact hp i (by omega)) (fun i j hij hj => by
                  by_cases e : j = d + 1
                  · subst e; rw [pk_us, pk_un (by omega)]; exact g1 i (by omega)
                  · rw [pk_un e, pk_un (by omega)]; exact hdis i j hij (by omega)) (by rw [b138, pk_uLs]) (cok_saf h.w _ hy hvc) (by rw [b137, pk_us])
                have r9 : ∀ i, i ≤ d → ai S9 (c + 136) i = r i := fun i hi => by rw [f6 i (by omega), pk_un (by omega)]
                have g9 : ai S9 (c + 137) d + 1 = nI (q + 1) := by rw [f7 d (by omega), b137, pk_un (by omega)]; exact hgq
                have v9 : ∀ i, i ≤ d → aj S9 (c + 138) i = aj S (c + 138) i := fun i hi => by rw [f8 i (by omega), b138, pk_uLn (by omega)]
                obtain ⟨s2, S', e, e1, e2, e3, e4, e5, e6, e7, e8⟩ := ihj (q + 1) (by omega) S9 _ (i8.kp f2) f3 f4 f5 r9 (by rw [v9 d (Nat.le_refl _)]; exact hv) g9
                refine ⟨1 + s1 + s2, S', ?_, fun m => ?_, (((k5.tr k6).tr k7).tr k8).tr (f2.tr e2), e3, e4, e5, e6, fun i hi => ?_, fun i hi => ?_⟩
                · rw [Nat.add_mul, Nat.one_mul]; omega
                · rw [show 1 + s1 + s2 + m = (s1 + (s2 + m)) + 1 by omega, step, e_X9_pathBetween i5.o i5.w (by omega), bds, if_neg g2, ho5, if_neg (fun z => bit0.mp z g3), hnew, bds, ifb1 g1]
                  simp only [i5.g529, obs, h.l136, nI_clamp (show d + 1 < 2 ^ 31 by omega), ifn (rinc (show d + 1 < 8 by omega) (show 8 < 2 ^ 31 by omega)), lts]
                  rw [← hS6]
                  simp only [i6.g531, obs, h.l138, nI_pred, nI_clamp (show d < 2 ^ 31 by omega), ifn (rinc (show d < 8 by omega) (show 8 < 2 ^ 31 by omega)), ifn (rinc (show d + 1 < 8 by omega) (show 8 < 2 ^ 31 by omega)), v6, hv, e_X9_safeBy i6.o i6.w (show 8 ≤ n by omega) _ hy, bds]
                  rw [show wj S6 (c + 138) (vp_updL (aj S (c + 138)) (d + 1) (saf M (pbt M (r d) (nI q)) y v (cS M))) = S7 by rw [hS7, v6]]
                  simp only [i7.g530, obs, h.l137, ifn (rinc (show d + 1 < 8 by omega) (show 8 < 2 ^ 31 by omega)), nI_1]
                  rw [← hS8, f1, e1]
                · rw [e7 i hi, f7 i (by omega), b137, pk_un (by omega), hg5, pk_un (by omega)]
                · rw [e8 i hi, v9 i hi]
              · rw [if_neg (fun z => g1 z.1)]
                refine skip _ (fun m => ?_) rfl
                rw [step, e_X9_pathBetween i5.o i5.w (by omega), bds, if_neg g2, ho5, if_neg (fun z => bit0.mp z g3), hnew, bds, ifb0 g1]
            · rw [if_neg (fun z => g3 z.2.2)]
              refine skip _ (fun m => ?_) rfl
              rw [step, e_X9_pathBetween i5.o i5.w (by omega), bds, if_neg g2, ho5, if_pos (bit0.mpr g3)]
      obtain ⟨s, S', e, e1, e2, e3, e4, e5, e6, e7, e8⟩ := loop (cP M) 0 (by omega) S A h ho hA hV hr hv (by rw [hg]; decide)
      refine ⟨s, S', ?_, e1, e2, e3, e4, e5, e6, e7, e8⟩
      unfold stB
      have := Nat.mul_le_mul_right (1 + stB k) hP
      omega
theorem e_X9_allWays (h : Inv E c S x M) (hn : 30000000 ≤ n) {w : Nat} (hk : w < cW M) (t : Int32) {y : Nat} (hy : y < 30) : ∃ S', f_X9_allWays E n S (c + 129) (nI w) t (nI y) = some ((), S') ∧ KP c S S' ∧ MWa c (wys M t w y) S' ∧ AVal M (wys M t w y) := by
  have hW := h.w.lW
  obtain ⟨l, a, hl, ha, e1, e2⟩ := h.w.walk hk
  have hP := h.w.lP
  obtain ⟨S1, hS1⟩ : ∃ S1, S1 = si (si (si (si S 528 (c + 129) (opn M (M (94 + 2 * w)) (nI y) (-1) (cA M))) 532 (c + 129) 0) 534 (c + 129) 0) 536 (c + 129) 0 := ⟨_, rfl⟩
  have k1 : KP c S S1 := by rw [hS1]; exact ((k528.tr (KP.si (by unfold kf; omega))).tr (KP.si (by unfold kf; omega))).tr (KP.si (by unfold kf; omega))
  have i1 := h.kp k1
  obtain ⟨S2, hS2⟩ : ∃ S2, S2 = wi (wj (wi S1 (c + 136) (upd (ai S1 (c + 136)) 0 (M (95 + 2 * w)))) (c + 138) (vp_updL (aj S1 (c + 138)) 0 100000000000000)) (c + 137) (upd (ai S1 (c + 137)) 0 (-1)) := ⟨_, rfl⟩
  have k2 : KP c S1 S2 := by rw [hS2]; exact ((KP.wi (by unfold ka; omega)).tr (KP.wj (Or.inl (by unfold ka; omega)))).tr (KP.wi (by unfold ka; omega))
  have i2 := i1.kp k2
  have og : ∀ f q, gi S2 f q = gi S1 f q := fun f q => by rw [hS2]; rfl
  obtain ⟨s, S', f0, f1, f2, f3, f4, f5, -⟩ := e_X9_lvl (E := E) (n := n) (o := opn M (M (94 + 2 * w)) (nI y) (-1) (cA M)) (t := t) hy (by omega) 8 0 (by omega) (by omega) S2 (fun _ => M (95 + 2 * w)) 100000000000000 (0, 0, (fun _ => 0), 0, 0, (fun _ => 0)) i2 (by rw [og, hS1, gi_si_f (by decide), gi_si_f (by decide), gi_si_f (by decide), gi_si_eq]) ⟨by rw [og, hS1, gi_si_f (by decide), gi_si_f (by decide), gi_si_eq]; rfl, ⟨by rw [og, hS1, gi_si_f (by decide), gi_si_eq]; rfl, fun i hi => absurd hi (Nat.not_lt_zero i)⟩, by rw [og, hS1, gi_si_eq]; rfl, fun z => absurd z (Nat.lt_irrefl 0), fun i hi => absurd hi (Nat.not_lt_zero i)⟩ ⟨Nat.zero_le _, Nat.zero_le _, fun i hi => absurd hi (Nat.not_lt_zero i), fun i hi => absurd hi (Nat.not_lt_zero i), fun q => absurd q (Nat.lt_irrefl 0), Iff.rfl⟩ (fun i hi => by
    rw [hS2, ai_wi_a (by omega), ai_wj, ai_wi, show i = 0 by omega, pk_us]) (fun i hi => ⟨a, ha, e2⟩) (fun i j h1 h2 => by omega) (by rw [hS2, aj_wi, aj_wj, pk_uLs]) ⟨100000000000000, Nat.le_refl _, rfl⟩ (by rw [hS2, ai_wi, pk_us])
  have hs : s + (n - s) = n := by
    have : stB 8 ≤ 29000000 := by decide
    omega
  have fin : f_X9_allWays_L55 E n n S2 (c + 129) t (nI y) 1 = some ((), S') := by
    have q := f1 (n - s)
    rw [hs] at q
    refine (show f_X9_allWays_L55 E n n S2 (c + 129) t (nI y) 1 = f_X9_allWays_L55 E n n S2 (c + 129) t (nI y) (nI (0 + 1)) from rfl).trans (q.trans ?_)
    obtain ⟨z, hz⟩ : ∃ z, n - s = z + 1 := ⟨n - s - 1, by
      have : stB 8 ≤ 29000000 := by decide
      omega⟩
    rw [hz]
    simp only [f_X9_allWays_L55]
    rw [if_pos (show nI 0 ≤ 0 by decide)]
  refine ⟨S', ?_, (k1.tr k2).tr f2, f4, f5⟩
  have ho8 := h.o.si8 (v := opn M (M (94 + 2 * w)) (nI y) (-1) (cA M))
  have z0 : ∀ {α : Type} (y : Option α), (if (0 : Int32) < 0 ∨ 8 ≤ Int32.toNatClampNeg 0 then none else y) = y := fun y => if_neg (by decide)
  simp only [f_X9_allWays, e_X9_leapOf h.o (show w < 4 by omega), bds, e_X9_opens h.o h.w (show 11 ≤ n by omega), lts]
  rw [← hS1]
  simp only [i1.g529, obs, e_X9_homeOf i1.o (show w < 4 by omega), bds, h.l136, z0, gr_wi, gr_wj, i1.g531, i1.g530, h.l137, h.l138, aj_wi, ai_wj]
  rw [ai_wi_a (show c + 137 ≠ c + 136 by omega)]
  have e : wi (wj (wi S1 (c + 136) (upd (ai S1 (c + 136)) (Int32.toNatClampNeg 0) (M (95 + 2 * w)))) (c + 138) (vp_updL (aj S1 (c + 138)) (Int32.toNatClampNeg 0) 100000000000000)) (c + 137) (upd (ai S1 (c + 137)) (Int32.toNatClampNeg 0) (-1)) = S2 := hS2.symm
  rw [e]; exact fin
end WYM
