/-! All ways, in the order of their rows: what is kept of them; the class's search -/
/-- how many; the shortest: its length (0 without), its row; the safest: its length, its chance, its row -/
abbrev AW : Type := Nat × Nat × (Nat → Int32) × Nat × Int64 × (Nat → Int32)
abbrev aT (A : AW) : Nat := A.1
abbrev aS (A : AW) : Nat := A.2.1
abbrev aR (A : AW) : Nat → Int32 := A.2.2.1
abbrev aL (A : AW) : Nat := A.2.2.2.1
abbrev aC (A : AW) : Int64 := A.2.2.2.2.1
abbrev aQ (A : AW) : Nat → Int32 := A.2.2.2.2.2
abbrev shc (A : AW) (l : Nat) : Prop := aS A = 0 ∨ l < aS A
abbrev sfc (A : AW) (l : Nat) (v : Int64) : Prop := aL A = 0 ∨ aC A < v ∨ (v = aC A ∧ l < aL A)
def nt (A : AW) (r : Nat → Int32) (l : Nat) (v : Int64) : AW := (aT A + 1, if shc A l then l else aS A, if shc A l then r else aR A, if sfc A l v then l else aL A, if sfc A l v then v else aC A, if sfc A l v then r else aQ A)
def lpq (f : Nat → AW → AW) : Nat → Nat → AW → AW
  | 0, _, A => A
  | j + 1, q, A => lpq f j (q + 1) (f q A)
abbrev gon (M : Nat → Int32) (o : Int32) (r : Nat → Int32) (d q : Nat) : Prop := (∀ i, i ≤ d → r i ≠ nI q) ∧ pbt M (r d) (nI q) ≠ -1 ∧ (o >>> (pbt M (r d) (nI q) &&& 31)) &&& 1 = 1
noncomputable def dfs (M : Nat → Int32) (o t : Int32) (y : Nat) : Nat → (Nat → Int32) → Nat → Int64 → AW → AW
  | 0, _, _, _, A => A
  | k + 1, r, d, v, A => if r d = t then nt A r (d + 1) v else lpq (fun q A => @ite _ (gon M o r d q) (Classical.propDecidable _) (dfs M o t y k (upd r (d + 1) (nI q)) (d + 1) (saf M (pbt M (r d) (nI q)) y v (cS M)) A) A) (cP M) 0 A
abbrev plc (M : Nat → Int32) (r : Nat → Int32) (l : Nat) : Prop := ∀ i, i < l → ∃ p, p < cP M ∧ r i = nI p
abbrev cok (v : Int64) : Prop := ∃ z : Nat, z ≤ 100000000000000 ∧ v = lN z
def AVal (M : Nat → Int32) (A : AW) : Prop := aS A ≤ 8 ∧ aL A ≤ 8 ∧ plc M (aR A) (aS A) ∧ plc M (aQ A) (aL A) ∧ (0 < aL A → cok (aC A)) ∧ (aS A = 0 ↔ aL A = 0)
theorem nt_val {M : Nat → Int32} {A : AW} {r : Nat → Int32} {l : Nat} {v : Int64} (h : AVal M A) (h1 : 1 ≤ l) (h8 : l ≤ 8) (hr : plc M r l) (hv : cok v) : AVal M (nt A r l v) := by
  obtain ⟨a1, a2, a3, a4, a5, a6⟩ := h
  have e1 : (aS (nt A r l v) = l ∧ aR (nt A r l v) = r) ∨ (aS (nt A r l v) = aS A ∧ aR (nt A r l v) = aR A ∧ aS A ≠ 0) := by
    unfold nt
    by_cases c : shc A l
    · left; exact ⟨if_pos c, if_pos c⟩
    · right; exact ⟨if_neg c, if_neg c, fun q => c (Or.inl q)⟩
  have e2 : (aL (nt A r l v) = l ∧ aC (nt A r l v) = v ∧ aQ (nt A r l v) = r) ∨ (aL (nt A r l v) = aL A ∧ aC (nt A r l v) = aC A ∧ aQ (nt A r l v) = aQ A ∧ aL A ≠ 0) := by
    unfold nt
    by_cases c : sfc A l v
    · left; exact ⟨if_pos c, if_pos c, if_pos c⟩
    · right; exact ⟨if_neg c, if_neg c, if_neg c, fun q => c (Or.inl q)⟩
  unfold AVal
  rcases e1 with ⟨p1, p2⟩ | ⟨p1, p2, p3⟩
  · rw [p1, p2]
    rcases e2 with ⟨q1, q2, q3⟩ | ⟨q1, q2, q3, q4⟩
    · rw [q1, q2, q3]; exact ⟨h8, h8, hr, hr, fun _ => hv, by omega⟩
    · rw [q1, q2, q3]; exact ⟨h8, a2, hr, a4, a5, by omega⟩
  · rw [p1, p2]
    rcases e2 with ⟨q1, q2, q3⟩ | ⟨q1, q2, q3, q4⟩
    · rw [q1, q2, q3]; exact ⟨a1, h8, a3, hr, fun _ => hv, by omega⟩
    · rw [q1, q2, q3]; exact ⟨a1, a2, a3, a4, a5, a6⟩
theorem cok_saf {M : Nat → Int32} (hw : WF M) (p : Int32) {y : Nat} (hy : y < 30) {v : Int64} (hv : cok v) : cok (saf M p y v (cS M)) := by
  obtain ⟨z, hz, rfl⟩ := hv
  obtain ⟨k, hk, e⟩ := saf_nat hw p hy hz (cS M) (Nat.le_refl _)
  exact ⟨k, by omega, e⟩
theorem cok_pos {v : Int64} (hv : cok v) : (-1 : Int64) < v := by
  obtain ⟨z, hz, rfl⟩ := hv
  rw [fa_lt64, pk_lT (by omega), show (-1 : Int64).toInt = -1 by decide]; omega
section WAY
variable {E : EN} {n c : Nat} {S S' : WS} {x : Nat} {M : Nat → Int32}
def CWt (c x : Nat) (o t : Int32) (y : Nat) (S : WS) : Prop := gr S 384 (c + 33) = some (c + x) ∧ gi S 385 (c + 33) = t ∧ gi S 386 (c + 33) = nI y ∧ gi S 387 (c + 33) = o
def CSh (c : Nat) (A : AW) (S : WS) : Prop := gi S 390 (c + 33) = (if aS A = 0 then -1 else nI (aS A)) ∧ ∀ i, i < aS A → ai S (c + 48) i = aR A i
def CSf (c : Nat) (A : AW) (S : WS) : Prop := gi S 392 (c + 33) = (if aL A = 0 then -1 else nI (aL A)) ∧ gj S 393 (c + 33) = (if aL A = 0 then -1 else aC A) ∧ ∀ i, i < aL A → ai S (c + 49) i = aQ A i
def CWa (c : Nat) (A : AW) (S : WS) : Prop := gi S 389 (c + 33) = nI (aT A) ∧ CSh c A S ∧ CSf c A S
theorem Inv.g388 (h : Inv E c S x M) : gr S 388 (c + 33) = some (c + 47) := h.s.g 388 33 47 (by decide)
theorem Inv.g391 (h : Inv E c S x M) : gr S 391 (c + 33) = some (c + 48) := h.s.g 391 33 48 (by decide)
theorem Inv.g394 (h : Inv E c S x M) : gr S 394 (c + 33) = some (c + 49) := h.s.g 394 33 49 (by decide)
theorem Inv.g456 (h : Inv E c S x M) : gr S 456 c = some (c + 33) := h.s.g 456 0 33 (by decide)
theorem Inv.l47 (h : Inv E c S x M) : eN E (c + 47) = 8 := h.L.at 47 8 (by decide) (by decide)
theorem Inv.l48 (h : Inv E c S x M) : eN E (c + 48) = 8 := h.L.at 48 8 (by decide) (by decide)
theorem Inv.l49 (h : Inv E c S x M) : eN E (c + 49) = 8 := h.L.at 49 8 (by decide) (by decide)
theorem e_X7_J42 (h : Inv E c S x M) {A : AW} (hA : AVal M A) (hc : CSf c A S) {r : Nat → Int32} {l : Nat} {v : Int64} (h1 : 1 ≤ l) (h8 : l ≤ 8) (hr : ∀ i, i < l → ai S (c + 47) i = r i) (hv : cok v) : ∃ S', f_X7_noteWay_J42 E n S (c + 33) (nI l) v = some ((), S') ∧ KP c S S' ∧ (∀ f q, gr S' f q = gr S f q) ∧ (∀ f q, f ≠ 392 → gi S' f q = gi S f q) ∧ (∀ q, q ≠ c + 49 → ai S' q = ai S q) ∧ CSf c (nt A r l v) S' := by
  obtain ⟨b1, b2, b3⟩ := hc
  have hA2 := hA.2.1
  obtain ⟨g, g1, g2⟩ := e_X8_copyRow (E := E) (n := n) (S := si (sj S 393 (c + 33) v) 392 (c + 33) (nI l)) h.l47 h.l49 (by decide)
  have k388 : gr (si (sj S 393 (c + 33) v) 392 (c + 33) (nI l)) 388 (c + 33) = some (c + 47) := h.g388
  have k394 : gr (si (sj S 393 (c + 33) v) 392 (c + 33) (nI l)) 394 (c + 33) = some (c + 49) := h.g394
  have up : sfc A l v → KP c S (wi (si (sj S 393 (c + 33) v) 392 (c + 33) (nI l)) (c + 49) g) ∧ (∀ f q, gr (wi (si (sj S 393 (c + 33) v) 392 (c + 33) (nI l)) (c + 49) g) f q = gr S f q) ∧ (∀ f q, f ≠ 392 → gi (wi (si (sj S 393 (c + 33) v) 392 (c + 33) (nI l)) (c + 49) g) f q = gi S f q) ∧ (∀ q, q ≠ c + 49 → ai (wi (si (sj S 393 (c + 33) v) 392 (c + 33) (nI l)) (c + 49) g) q = ai S q) ∧ CSf c (nt A r l v) (wi (si (sj S 393 (c + 33) v) 392 (c + 33) (nI l)) (c + 49) g) := by
    intro q
    refine ⟨(KP.sj.tr (KP.si (by unfold kf; omega))).tr (KP.wi (by unfold ka; omega)), fun _ _ => rfl, fun f q hf => gi_si_f hf, fun q hq => ai_wi_a hq, ?_⟩
    unfold CSf nt
    simp only [aL, aC, aQ]
    rw [if_pos q, if_pos q, if_pos q, if_neg (show ¬ l = 0 by omega), if_neg (show ¬ l = 0 by omega)]
    refine ⟨gi_si_eq, gj_sj_eq, fun i hi => ?_⟩
    rw [ai_wi, g1 i (by omega)]
    exact hr i hi
  have no : ¬ sfc A l v → KP c S S ∧ (∀ f q, gr S f q = gr S f q) ∧ (∀ f q, f ≠ 392 → gi S f q = gi S f q) ∧ (∀ q, q ≠ c + 49 → ai S q = ai S q) ∧ CSf c (nt A r l v) S := by
    intro q
    refine ⟨KP.rf, fun _ _ => rfl, fun _ _ _ => rfl, fun _ _ => rfl, ?_⟩
    unfold CSf nt
    simp only [aL, aC, aQ]
    rw [if_neg q, if_neg q, if_neg q]
    exact ⟨b1, b2, b3⟩
  unfold f_X7_noteWay_J42
  by_cases c0 : aL A = 0
  · refine ⟨_, ?_, up (Or.inl c0)⟩
    rw [if_pos c0] at b2
    rw [b2, if_pos (lcm_gt.mpr (cok_pos hv))]
    simp only [lts, k388, k394, obs, g2, bds]
  · rw [if_neg c0] at b1 b2
    rw [b2, b1]
    by_cases c1 : aC A < v
    · refine ⟨_, ?_, up (Or.inr (Or.inl c1))⟩
      rw [if_pos (lcm_gt.mpr c1)]
      simp only [lts, k388, k394, obs, g2, bds]
    · rw [if_neg (fun q => c1 (lcm_gt.mp q))]
      by_cases c2 : v = aC A
      · rw [if_pos (lcm_eq.mpr c2)]
        by_cases c3 : l < aL A
        · refine ⟨_, ?_, up (Or.inr (Or.inr ⟨c2, c3⟩))⟩
          rw [if_neg (nI_ge c3 (by omega))]
          simp only [lts, k388, k394, obs, g2, bds]
        · refine ⟨S, ?_, no ?_⟩
          · rw [if_pos (nI_le (by omega) (by omega))]
          · rintro (q | q | q)
            · exact c0 q
            · exact c1 q
            · exact c3 q.2
      · refine ⟨S, ?_, no ?_⟩
        · rw [if_neg (fun q => c2 (lcm_eq.mp q))]
        · rintro (q | q | q)
          · exact c0 q
          · exact c1 q
          · exact c2 q.1
theorem e_X7_noteWay (h : Inv E c S x M) {A : AW} (hA : AVal M A) (hc : CWa c A S) {r : Nat → Int32} {l : Nat} {v : Int64} (h1 : 1 ≤ l) (h8 : l ≤ 8) (hr : ∀ i, i < l → ai S (c + 47) i = r i) (hv : cok v) : ∃ S', f_X7_noteWay E n S (c + 33) (nI l) v = some ((), S') ∧ KP c S S' ∧ (∀ f q, gr S' f q = gr S f q) ∧ (∀ f q, f ≠ 389 → f ≠ 390 → f ≠ 392 → gi S' f q = gi S f q) ∧ ai S' (c + 47) = ai S (c + 47) ∧ CWa c (nt A r l v) S' := by
  obtain ⟨t1, ⟨s1, s2⟩, f1, f2, f3⟩ := hc
  have hA1 := hA.1
  obtain ⟨S1, hS1⟩ : ∃ S1, S1 = si S 389 (c + 33) (nI (aT A + 1)) := ⟨_, rfl⟩
  have k1 : KP c S S1 := by rw [hS1]; exact KP.si (by unfold kf; omega)
  have i1 := h.kp k1
  have g390 : gi S1 390 (c + 33) = gi S 390 (c + 33) := by rw [hS1]; exact gi_si_f (by decide)
  obtain ⟨g, g1, g2⟩ := e_X8_copyRow (E := E) (n := n) (S := si S1 390 (c + 33) (nI l)) h.l47 h.l48 (by decide)
  have k388 : gr (si S1 390 (c + 33) (nI l)) 388 (c + 33) = some (c + 47) := i1.g388
  have k391 : gr (si S1 390 (c + 33) (nI l)) 391 (c + 33) = some (c + 48) := i1.g391
  have c47 : ai S1 (c + 47) = ai S (c + 47) := by rw [hS1]; rfl
  have up : shc A l → ∃ S', f_X7_noteWay_J42 E n (wi (si S1 390 (c + 33) (nI l)) (c + 48) g) (c + 33) (nI l) v = some ((), S') ∧ KP c S S' ∧ (∀ f q, gr S' f q = gr S f q) ∧ (∀ f q, f ≠ 389 → f ≠ 390 → f ≠ 392 → gi S' f q = gi S f q) ∧ ai S' (c + 47) = ai S (c + 47) ∧ CWa c (nt A r l v) S' := by
    intro q
    have k2 : KP c S1 (wi (si S1 390 (c + 33) (nI l)) (c + 48) g) := (KP.si (by unfold kf; omega)).tr (KP.wi (by unfold ka; omega))
    have b47 : ai (wi (si S1 390 (c + 33) (nI l)) (c + 48) g) (c + 47) = ai S (c + 47) := (ai_wi_a (by omega)).trans c47
    obtain ⟨S', e, e1, e2, e3, e4, e5⟩ := e_X7_J42 (n := n) (i1.kp k2) hA (r := r) (l := l) (v := v) ⟨by rw [gi_wi, gi_si_f (by decide), hS1, gi_si_f (by decide)]; exact f1, by rw [gj_wi, gj_si, hS1, gj_si]; exact f2, fun i hi => by rw [ai_wi_a (by omega), ai_si, hS1, ai_si]; exact f3 i hi⟩ h1 h8 (fun i hi => by rw [b47]; exact hr i hi) hv
    refine ⟨S', e, (k1.tr k2).tr e1, fun f q => by rw [e2, gr_wi, gr_si, hS1, gr_si], fun f q p1 p2 p3 => by rw [e3 f q p3, gi_wi, gi_si_f p2, hS1, gi_si_f p1], (e4 _ (by omega)).trans b47, ?_, ⟨?_, ?_⟩, e5⟩
    · rw [e3 _ _ (by decide), gi_wi, gi_si_f (by decide), hS1, gi_si_eq]; rfl
    · rw [e3 _ _ (by decide), gi_wi, gi_si_eq]
      unfold nt
      simp only [aS]
      rw [if_pos q, if_neg (show ¬ l = 0 by omega)]
    · unfold nt
      simp only [aS, aR]
      rw [if_pos q, if_pos q]
      intro i hi
      rw [e4 _ (by omega), ai_wi, g1 i (by omega), ai_si, c47]
      exact hr i hi
  have no : ¬ shc A l → ∃ S', f_X7_noteWay_J42 E n S1 (c + 33) (nI l) v = some ((), S') ∧ KP c S S' ∧ (∀ f q, gr S' f q = gr S f q) ∧ (∀ f q, f ≠ 389 → f ≠ 390 → f ≠ 392 → gi S' f q = gi S f q) ∧ ai S' (c + 47) = ai S (c + 47) ∧ CWa c (nt A r l v) S' := by
    intro q
    obtain ⟨S', e, e1, e2, e3, e4, e5⟩ := e_X7_J42 (n := n) i1 hA (r := r) (l := l) (v := v) ⟨by rw [hS1, gi_si_f (by decide)]; exact f1, by rw [hS1, gj_si]; exact f2, fun i hi => by rw [hS1, ai_si]; exact f3 i hi⟩ h1 h8 (fun i hi => by rw [c47]; exact hr i hi) hv
    refine ⟨S', e, k1.tr e1, fun f q => by rw [e2, hS1, gr_si], fun f q p1 p2 p3 => by rw [e3 f q p3, hS1, gi_si_f p1], (e4 _ (by omega)).trans c47, ?_, ⟨?_, ?_⟩, e5⟩
    · rw [e3 _ _ (by decide), hS1, gi_si_eq]; rfl
    · rw [e3 _ _ (by decide), g390, s1]
      unfold nt
      simp only [aS]
      rw [if_neg q]
    · unfold nt
      simp only [aS, aR]
      rw [if_neg q, if_neg q]
      intro i hi
      rw [e4 _ (by omega), hS1, ai_si]
      exact s2 i hi
  simp only [f_X7_noteWay, t1, lts, nI_1]
  rw [← hS1, g390, s1]
  by_cases c0 : aS A = 0
  · rw [if_pos c0, if_pos rfl]
    simp only [k388, k391, obs, g2, bds]
    exact up (Or.inl c0)
  · rw [if_neg c0, if_neg (nIm1 (by omega))]
    by_cases c1 : l < aS A
    · rw [if_neg (nI_ge c1 (by omega))]
      simp only [k388, k391, obs, g2, bds]
      exact up (Or.inr c1)
    · rw [if_pos (nI_le (by omega) (by omega))]
      exact no (fun q => q.elim c0 c1)
theorem e_X7_goOn {o t : Int32} {y : Nat} (hy : y < 30) (hn : 20 ≤ n) : ∀ k d, k + d = 8 → ∀ ff, k < ff → ∀ (S : WS) (r : Nat → Int32) (w : Nat) (v : Int64) (A : AW), Inv E c S x M → CWt c x o t y S → CWa c A S → AVal M A → (∀ i, i < d → ai S (c + 47) i = r i) → plc M r (d + 1) → w < 2 ^ 8 → (∀ q, q < 8 → (w.testBit q = true ↔ ∃ i, i < d ∧ r i = nI q)) → cok v → ∃ S', f_X7_goOn E n ff S (c + 33) (nI d) (r d) (nI w) v = some ((), S') ∧ KP c S S' ∧ CWt c x o t y S' ∧ CWa c (dfs M o t y k r d v A) S' ∧ AVal M (dfs M o t y k r d v A) ∧ ∀ i, i < d → ai S' (c + 47) i = r i := by
  intro k
  induction k with
  | zero =>
    intro d hd ff hff S r w v A h ht hA hV hr hp hw hq hv
    obtain ⟨ff, rfl⟩ : ∃ q, ff = q + 1 := ⟨ff - 1, by omega⟩
    refine ⟨S, ?_, KP.rf, ht, hA, hV, hr⟩
    simp only [f_X7_goOn]
    rw [if_neg (show ¬ nI d < (8 : Int32) from nI_nlt (a := d) (b := 8) (by omega) (by omega))]
  | succ k ih =>
    intro d hd ff hff S r w v A h ht hA hV hr hp hw hq hv
    obtain ⟨ff, rfl⟩ : ∃ q, ff = q + 1 := ⟨ff - 1, by omega⟩
    obtain ⟨t1, t2, t3, t4⟩ := ht
    have hP := h.w.lP
    obtain ⟨S1, hS1⟩ : ∃ S1, S1 = wi S (c + 47) (upd (ai S (c + 47)) d (r d)) := ⟨_, rfl⟩
    have k1 : KP c S S1 := by rw [hS1]; exact KP.wi (by unfold ka; omega)
    have i1 := h.kp k1
    have ht1 : CWt c x o t y S1 := by rw [hS1]; exact ⟨t1, t2, t3, t4⟩
    have hA1 : CWa c A S1 := by
      obtain ⟨a1, ⟨a2, a3⟩, a4, a5, a6⟩ := hA
      rw [hS1]
      exact ⟨a1, ⟨a2, fun i hi => by rw [ai_wi_a (by omega)]; exact a3 i hi⟩, a4, a5, fun i hi => by rw [ai_wi_a (by omega)]; exact a6 i hi⟩
    have hr1 : ∀ i, i < d + 1 → ai S1 (c + 47) i = r i := by
      intro i hi
      rw [hS1, ai_wi]
      by_cases e : i = d
      · subst e; exact pk_us
      · rw [pk_un e]; exact hr i (by omega)
    simp only [f_X7_goOn]
    rw [if_pos (show nI d < (8 : Int32) from nI_lt (a := d) (b := 8) (by omega) (by decide))]
    simp only [h.g388, obs, h.l47, nI_clamp (show d < 2 ^ 31 by omega), ifn (rinc (show d < 8 by omega) (show 8 < 2 ^ 31 by omega)), lts]
    rw [← hS1, ht1.2.1, dfs]
    by_cases c0 : r d = t
    · rw [if_pos c0, if_pos c0, nI_1]
      obtain ⟨S', e, e1, e2, e3, e4, e5⟩ := e_X7_noteWay (n := n) i1 hV hA1 (r := r) (l := d + 1) (v := v) (by omega) (by omega) hr1 hv
      rw [e, bds]
      refine ⟨S', rfl, k1.tr e1, ⟨(e2 _ _).trans ht1.1, (e3 _ _ (by decide) (by decide) (by decide)).trans ht1.2.1, (e3 _ _ (by decide) (by decide) (by decide)).trans ht1.2.2.1, (e3 _ _ (by decide) (by decide) (by decide)).trans ht1.2.2.2⟩, e5, nt_val hV (by omega) (by omega) hp hv, fun i hi => by rw [e4]; exact hr1 i (by omega)⟩
    · rw [if_neg c0, if_neg c0]
      obtain ⟨p, hpP, ep⟩ := hp d (by omega)
      have hb : nI w ||| ((1 : Int32) <<< (r d &&& 31)) = nI (w ||| 2 ^ p) := by rw [ep, shl1 p (by omega), fa_or]
      have hw2 : w ||| 2 ^ p < 2 ^ 8 := Nat.or_lt_two_pow hw (Nat.pow_lt_pow_right (by decide) (by omega))
      have hq2 : ∀ q, q < 8 → ((w ||| 2 ^ p).testBit q = true ↔ ∃ i, i < d + 1 ∧ r i = nI q) := by
        intro q hq8
        rw [fb_bit_set, Bool.or_eq_true, hq q hq8, decide_eq_true_eq]
        constructor
        · rintro (⟨i, hi, e⟩ | e)
          · exact ⟨i, by omega, e⟩
          · exact ⟨d, by omega, by rw [ep, e]⟩
        · rintro ⟨i, hi, e⟩
          by_cases e2 : i = d
          · subst e2
            rw [ep, nI_eq (by omega) (by omega)] at e
            exact Or.inr e.symm
          · exact Or.inl ⟨i, by omega, e⟩
      rw [hb]
      have loop : ∀ j q, q + j = cP M → ∀ m, j < m → ∀ (S : WS) (A : AW), Inv E c S x M → CWt c x o t y S → CWa c A S → AVal M A → (∀ i, i < d + 1 → ai S (c + 47) i = r i) → ∃ S', f_X7_goOn_L42 E n (f_X7_goOn E n ff) m S (c + 33) (nI d) (r d) v (nI (w ||| 2 ^ p)) (nI q) = some ((), S') ∧ KP c S S' ∧ CWt c x o t y S' ∧ CWa c (lpq (fun q A => @ite _ (gon M o r d q) (Classical.propDecidable _) (dfs M o t y k (upd r (d + 1) (nI q)) (d + 1) (saf M (pbt M (r d) (nI q)) y v (cS M)) A) A) j q A) S' ∧ AVal M (lpq (fun q A => @ite _ (gon M o r d q) (Classical.propDecidable _) (dfs M o t y k (upd r (d + 1) (nI q)) (d + 1) (saf M (pbt M (r d) (nI q)) y v (cS M)) A) A) j q A) ∧ ∀ i, i < d + 1 → ai S' (c + 47) i = r i := by
        intro j
        induction j with
        | zero =>
          intro q hqj m hm S A h ht hA hV hr
          obtain ⟨m, rfl⟩ : ∃ q, m = q + 1 := ⟨m - 1, by omega⟩
          refine ⟨S, ?_, KP.rf, ht, hA, hV, hr⟩
          simp only [f_X7_goOn_L42, ht.1, obs, h.m.i129]
          rw [show q = cP M by omega, if_pos h.w.t0]
        | succ j ihj =>
          intro q hqj m hm S A h ht hA hV hr
          obtain ⟨m, rfl⟩ : ∃ q, m = q + 1 := ⟨m - 1, by omega⟩
          simp only [f_X7_goOn_L42, ht.1, obs, h.m.i129, h.w.f0 (show q < cP M by omega), if_false, e_X3_pathBetween h.m h.w (show 11 ≤ n by omega), bds, ht.2.2.1, ht.2.2.2, e_X3_safeAlong h.m h.w (show 8 ≤ n by omega) _ hy, lts, nI_1]
          rw [lpq]
          have hbit := bitI (v := w ||| 2 ^ p) (j := q) (by omega) (by omega)
          by_cases g1 : ∀ i, i ≤ d → r i ≠ nI q
          · have n1 : ¬ (nI (w ||| 2 ^ p) >>> (nI q &&& 31)) &&& 1 = 1 := fun z => by
              obtain ⟨i, hi, e⟩ := (hq2 q (by omega)).mp (hbit.mp z)
              exact g1 i (by omega) e
            rw [if_pos (bit0.mpr n1)]
            by_cases g2 : pbt M (r d) (nI q) = -1
            · rw [if_pos g2, if_neg (fun z => z.2.1 g2)]
              exact ihj (q + 1) (by omega) m (by omega) S A h ht hA hV hr
            · rw [if_neg g2]
              by_cases g3 : (o >>> (pbt M (r d) (nI q) &&& 31)) &&& 1 = 1
              · rw [if_pos g3, if_pos ⟨g1, g2, g3⟩]
                obtain ⟨S2, e, e1, e2, e3, e4, e5⟩ := ih (d + 1) (by omega) ff (by omega) S (upd r (d + 1) (nI q)) (w ||| 2 ^ p) (saf M (pbt M (r d) (nI q)) y v (cS M)) A h ht hA hV (fun i hi => by rw [pk_un (by omega)]; exact hr i hi) (fun i hi => by
                  by_cases e : i = d + 1
                  · subst e; rw [pk_us]; exact ⟨q, by omega, rfl⟩
                  · rw [pk_un e]; exact hp i (by omega)) hw2 (fun q' hq' => by
                  rw [hq2 q' hq']
                  constructor
                  · rintro ⟨i, hi, e⟩; exact ⟨i, hi, by rw [pk_un (by omega)]; exact e⟩
                  · rintro ⟨i, hi, e⟩; rw [pk_un (by omega)] at e; exact ⟨i, hi, e⟩) (cok_saf h.w _ hy hv)
                rw [pk_us] at e
                rw [e, bds]
                obtain ⟨S3, f, f1, f2, f3, f4, f5⟩ := ihj (q + 1) (by omega) m (by omega) S2 _ (h.kp e1) e2 e3 e4 (fun i hi => by
                  have := e5 i hi
                  rw [pk_un (by omega)] at this; exact this)
                exact ⟨S3, f, e1.tr f1, f2, f3, f4, f5⟩
              · rw [if_neg g3, if_neg (fun z => g3 z.2.2)]
                exact ihj (q + 1) (by omega) m (by omega) S A h ht hA hV hr
          · have n1 : (nI (w ||| 2 ^ p) >>> (nI q &&& 31)) &&& 1 = 1 := hbit.mpr ((hq2 q (by omega)).mpr (Classical.byContradiction fun z => g1 (fun i hi e => z ⟨i, by omega, e⟩)))
            rw [if_neg (fun z => bit0.mp z n1), if_neg (fun z => g1 z.1)]
            exact ihj (q + 1) (by omega) m (by omega) S A h ht hA hV hr
      obtain ⟨S2, e, e1, e2, e3, e4, e5⟩ := loop (cP M) 0 (by omega) n (by omega) S1 A i1 ht1 hA1 hV hr1
      exact ⟨S2, e, k1.tr e1, e2, e3, e4, fun i hi => e5 i (by omega)⟩
/-- all ways of w to t in year y -/
noncomputable def wys (M : Nat → Int32) (t : Int32) (w y : Nat) : AW := dfs M (opn M (M (94 + 2 * w)) (nI y) (-1) (cA M)) t y 8 (fun _ => M (95 + 2 * w)) 0 100000000000000 (0, 0, (fun _ => 0), 0, 0, (fun _ => 0))
theorem e_X7_findAll (h : Inv E c S x M) (hn : 20 ≤ n) {w : Nat} (hk : w < cW M) (t : Int32) {y : Nat} (hy : y < 30) : ∃ S', f_X7_findAll E n S (c + 33) (c + x) (nI w) t (nI y) = some ((), S') ∧ KP c S S' ∧ CWa c (wys M t w y) S' ∧ AVal M (wys M t w y) := by
  have hW := h.w.lW
  obtain ⟨l, a, hl, ha, e1, e2⟩ := h.w.walk hk
  obtain ⟨S3, hS3⟩ : ∃ S3, S3 = si (si (sr S 384 (c + 33) (some (c + x))) 385 (c + 33) t) 386 (c + 33) (nI y) := ⟨_, rfl⟩
  have k3 : KP c S S3 := by rw [hS3]; exact ((KP.sr (Or.inl rfl)).tr (KP.si (by unfold kf; omega))).tr (KP.si (by unfold kf; omega))
  have i3 := h.kp k3
  have g3 : gr S3 384 (c + 33) = some (c + x) := by rw [hS3]; exact gr_sr_eq
  have y3 : gi S3 386 (c + 33) = nI y := by rw [hS3]; exact gi_si_eq
  have t3 : gi S3 385 (c + 33) = t := by rw [hS3, gi_si_f (by decide)]; exact gi_si_eq
  obtain ⟨S4, hS4⟩ : ∃ S4, S4 = sj (si (si (si (si S3 387 (c + 33) (opn M (M (94 + 2 * w)) (nI y) (-1) (cA M))) 389 (c + 33) 0) 390 (c + 33) (-1)) 392 (c + 33) (-1)) 393 (c + 33) (-1) := ⟨_, rfl⟩
  have k4 : KP c S3 S4 := by rw [hS4]; exact ((((KP.si (by unfold kf; omega)).tr (KP.si (by unfold kf; omega))).tr (KP.si (by unfold kf; omega))).tr (KP.si (by unfold kf; omega))).tr KP.sj
  have i4 := i3.kp k4
  have g4 : gr S4 384 (c + 33) = some (c + x) := by rw [hS4]; exact g3
  have ht : CWt c x (opn M (M (94 + 2 * w)) (nI y) (-1) (cA M)) t y S4 := by
    refine ⟨g4, ?_, ?_, ?_⟩
    · rw [hS4, gi_sj, gi_si_f (by decide), gi_si_f (by decide), gi_si_f (by decide), gi_si_f (by decide)]; exact t3
    · rw [hS4, gi_sj, gi_si_f (by decide), gi_si_f (by decide), gi_si_f (by decide), gi_si_f (by decide)]; exact y3
    · rw [hS4, gi_sj, gi_si_f (by decide), gi_si_f (by decide), gi_si_f (by decide), gi_si_eq]
  have hA : CWa c (0, 0, (fun _ => 0), 0, 0, (fun _ => 0)) S4 := by
    refine ⟨?_, ⟨?_, fun i hi => absurd hi (Nat.not_lt_zero i)⟩, ?_, ?_, fun i hi => absurd hi (Nat.not_lt_zero i)⟩
    · rw [hS4, gi_sj, gi_si_f (by decide), gi_si_f (by decide), gi_si_eq]; rfl
    · rw [hS4, gi_sj, gi_si_f (by decide), gi_si_eq]; rfl
    · rw [hS4, gi_sj, gi_si_eq]; rfl
    · rw [hS4, gj_sj_eq]; rfl
  have hV : AVal M (0, 0, (fun _ => 0), 0, 0, (fun _ => 0)) := ⟨Nat.zero_le _, Nat.zero_le _, fun i hi => absurd hi (Nat.not_lt_zero i), fun i hi => absurd hi (Nat.not_lt_zero i), fun q => absurd q (Nat.lt_irrefl 0), Iff.rfl⟩
  obtain ⟨S', f, f1, f2, f3, f4, -⟩ := e_X7_goOn (E := E) (n := n) hy hn 8 0 (by omega) 12 (by omega) S4 (fun _ => M (95 + 2 * w)) 0 100000000000000 _ i4 ht hA hV (fun i hi => by omega) (fun i hi => ⟨a, ha, e2⟩) (by decide) (fun q hq => by
    rw [Nat.zero_testBit]
    constructor
    · intro z; cases z
    · rintro ⟨i, hi, -⟩; omega) ⟨100000000000000, Nat.le_refl _, rfl⟩
  refine ⟨S', ?_, (k3.tr k4).tr f1, f3, f4⟩
  simp only [f_X7_findAll, lts]
  rw [← hS3]
  simp only [g3, y3, obs, i3.m.g145, i3.m.n11, nI_clamp (show w < 2 ^ 31 by omega), ifn (rinc (show w < 4 by omega) (show 4 < 2 ^ 31 by omega)), (i3.m.hk w hk).1, e_X3_openPaths i3.m i3.w (show 11 ≤ n by omega), bds]
  rw [← hS4]
  simp only [g4, obs, i4.m.g146, i4.m.n12, nI_clamp (show w < 2 ^ 31 by omega), ifn (rinc (show w < 4 by omega) (show 4 < 2 ^ 31 by omega)), (i4.m.hk w hk).2]
  rw [show f_X7_goOn E n 12 S4 (c + 33) 0 (M (95 + 2 * w)) 0 100000000000000 = some ((), S') from f, bds]
end WAY
