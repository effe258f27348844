/-! agree, sure, kindly, odd -/
theorem enm_msk {M : Nat → Int32} (hw : WF M) {C : (Nat → Nat) → Prop} : ∀ k d c B, d + k = cS M → (∀ s, s < d → c s < 5) → (∀ s, bM B s < 32) → ∀ s, bM (enm M C k d c B) s < 32 := by
  intro k
  induction k with
  | zero =>
    intro d c B hd hc hB s
    rw [enm]
    by_cases q : C c
    · rw [if_pos q]
      unfold gb um
      simp only [bM]
      refine Nat.or_lt_two_pow (n := 5) (hB s) ?_
      by_cases e : s < d
      · rw [if_pos e]; exact Nat.pow_lt_pow_right (by decide) (hc s e)
      · rw [if_neg e, if_neg e]; decide
    · rw [if_neg q]; exact hB s
  | succ k ih =>
    intro d c B hd hc hB
    rw [enm]
    have key : ∀ j, j ≤ 5 → ∀ s, bM (lpS (fun v B => if alw M d v then enm M C k (d + 1) (scd c d v) B else B) j B) s < 32 := by
      intro j
      induction j with
      | zero => intro _; exact hB
      | succ j ihj =>
        intro hj
        rw [lpS]
        by_cases a : alw M d j
        · rw [if_pos a]
          exact ih (d + 1) _ _ (by omega) (fun s hs => by
            by_cases e : s = d
            · subst e; rw [scd_at]; omega
            · rw [scd_un e]; exact hc s (by omega)) (ihj (by omega))
        · rw [if_neg a]; exact ihj (by omega)
    exact key 5 (Nat.le_refl _)
/-- what is the same by all, of what is seen -/
def RS (m : Nat) (r : Int32) : Prop := (∃ j, j < 5 ∧ m = 2 ^ j ∧ r = if j = 0 then 9 else nI j - 1) ∨ ((∀ j, j < 5 → m ≠ 2 ^ j) ∧ r = -1)
theorem RS_SB {v r : Int32} {m : Nat} (h : RS m r) (b : SBt v m) : (if v = -2 then (-1 : Int32) else if v = -1 then 9 else v) = r := by
  have inj : ∀ i, i < 5 → ∀ j, j < 5 → 2 ^ i = 2 ^ j → i = j := by decide
  have no2 : ∀ i, i < 5 → ¬ nI i - 1 = -2 := by decide
  rcases b with ⟨i, hi, e1, e2⟩ | ⟨e1, i, i', hi, hi', hne, b1, b2⟩
  · rcases h with ⟨j, hj, e3, e4⟩ | ⟨q, -⟩
    · have := inj i hi j hj (e2.symm.trans e3)
      subst this
      rw [e1, if_neg (no2 i hi), e4]
      by_cases z : i = 0
      · rw [if_pos ((crv_m1 (by omega)).mpr z), if_pos z]
      · rw [if_neg (fun w => z ((crv_m1 (by omega)).mp w)), if_neg z]
    · exact absurd e2 (q i hi)
  · rw [if_pos e1]
    rcases h with ⟨j, hj, e3, e4⟩ | ⟨-, e4⟩
    · rw [e3, Nat.testBit_two_pow, decide_eq_true_eq] at b1 b2
      omega
    · exact e4.symm
theorem ix3r (i : Nat) : (3 : Int32) * nI i = nI (i * 3) := by show nI 3 * nI i = _; rw [pk_mul, Nat.mul_comm]
section AGR
variable {E : EN} {n c : Nat} {S0 S S' : WS} {x : Nat} {M : Nat → Int32} {B : BW} {c0 : Nat → Nat}
theorem e_X5_sameByAll (h : Inv E c S x M) (hn : 10 ≤ n) {s : Nat} (hs : s < 7) {m : Nat} (hm : m < 32) (e : ai S (c + 57) s = nI m) : ∃ r, f_X5_sameByAll E n S (c + 50) (nI s) = some (r, S) ∧ RS m r := by
  refine lp (N := 5) (P := fun j k => (∀ i, i < j → m ≠ 2 ^ i) → ∃ r, f_X5_sameByAll_L2 E n k S (c + 50) (nI s) (nI j) = some (r, S) ∧ RS m r) ?_ ?_ 5 0 n (by omega) (by omega) (fun i hi => by omega)
  · intro k hq
    refine ⟨-1, ?_, Or.inr ⟨hq, rfl⟩⟩
    simp only [f_X5_sameByAll_L2]
    rw [if_pos (by decide)]
  · intro j k hj ih hq
    have p32 : 2 ^ j ≤ 2 ^ 4 := Nat.pow_le_pow_right (by decide) (by omega)
    simp only [f_X5_sameByAll_L2, if_neg (show ¬ (5 : Int32) ≤ nI j from nI_ge (b := 5) hj (by decide)), h.g266, obs, h.l57, nI_clamp (show s < 2 ^ 31 by omega), ifn (rinc hs (show 7 < 2 ^ 31 by omega)), e, shl1 j (by omega), lts, nI_1]
    by_cases q : m = 2 ^ j
    · rw [if_pos ((nI_eq (by omega) (by omega)).mpr q)]
      by_cases z : j = 0
      · subst z
        exact ⟨9, by rw [if_pos (show nI 0 = 0 from rfl)], Or.inl ⟨0, by omega, q, rfl⟩⟩
      · refine ⟨nI j - 1, by rw [if_neg (nI_ne0 (by omega) (by omega))], Or.inl ⟨j, hj, q, by rw [if_neg z]⟩⟩
    · rw [if_neg (fun w => q ((nI_eq (by omega) (by omega)).mp w))]
      exact ih (fun i hi => by
        by_cases ei : i = j
        · subst ei; exact q
        · exact hq i (by omega))
theorem MI.nmb (hI : MI c S0 M c0 S) {k : Nat} : nmb c S k = nmb c S0 k := by
  obtain ⟨g, g1, g2, q, g3⟩ := hI
  exact nmb_kp q
theorem MI.a145 (hI : MI c S0 M c0 S) : ai S (c + 145) = ai S0 (c + 145) := by
  obtain ⟨g, g1, g2, q, g3⟩ := hI
  exact (q.2.2.2.1 (c + 145) (by unfold ka; omega)).trans (ai_wi_a (by omega))
theorem e_X9_isSo (h0 : Inv E c S0 x M) (hn : 30 ≤ n) (hI : MI c S0 M c0 S) (hc : alc M c0) {k : Nat} (hk : k < 4) {l : Nat} (hl : l ≤ 60) (hM : msr M l (nmb c S0 k)) {i : Nat} (hi : i < l / 3) : f_X9_isSo E n S (c + 129) (nI k) (nI (i * 3)) = some (b2i (tld M (nmb c S0 k) i (cnt (ab1 M (nmb c S0 k)) c0 (cS M) i)), S) := by
  have g548 : gr S 548 (c + 129) = some (c + 147) := hI.rf h0 (f := 548) (a := 129) (b := 147) (by decide)
  have a1 := e_X9_num (n := n) g548 h0.l147 hk (show i * 3 < 60 by omega)
  have a2 := e_X9_num (n := n) g548 h0.l147 hk (show i * 3 + 1 < 60 by omega)
  have a3 := e_X9_num (n := n) g548 h0.l147 hk (show i * 3 + 2 < 60 by omega)
  rw [congrFun hI.nmb] at a1 a2 a3
  obtain ⟨p1, p2, p3, p4⟩ := hM.p h0.w hi
  have lp1 := lpv_Mc h0.w (c := c0) (ab := ab1 M (nmb c S0 k)) (i := i) (y := nI (mY (nmb c S0 k) i)) p1 (fun s b => rfl)
  have o := hI.o h0
  have ln := e_X9_leapNow (n := n) o (WF_Mc h0.w hc) (by omega) (p := mP (nmb c S0 k) i) (by rw [Mc_n.2.2.1]; exact p1) (nI (mY (nmb c S0 k) i))
  rw [lp1] at ln
  simp only [f_X9_isSo, a1, bds, nI_1, a2, p2, p4, ln, ix32, a3, lcm_eq]
  by_cases q : tld M (nmb c S0 k) i (cnt (ab1 M (nmb c S0 k)) c0 (cS M) i)
  · rw [b2i_t q]
    exact if_pos q
  · rw [b2i_f q]
    exact if_neg q
theorem tso_agr (h0 : Inv E c S0 x M) (hn : 30 ≤ n) {k : Nat} (hk : k < 4) {l : Nat} (hl : l ≤ 60) (e : ai S0 (c + 145) k = nI l) (hM : msr M l (nmb c S0 k)) : TSo c S0 M (fun c1 => CC1 M (nmb c S0 k) (l / 3) (cnt (ab1 M (nmb c S0 k)) c1 (cS M))) (fun S => f_X9_agrees E n S (c + 129) (nI k)) := by
  intro S c0 hI hc
  have g546 : gr S 546 (c + 129) = some (c + 145) := hI.rf h0 (f := 546) (a := 129) (b := 145) (by decide)
  have ek : ai S (c + 145) k = nI l := by rw [hI.a145]; exact e
  have m0 := hM.1
  refine ⟨S, ?_, KP.rf, fun _ => rfl, fun _ _ _ => rfl⟩
  refine lp (N := l / 3) (P := fun i m => (∀ t, t < i → tld M (nmb c S0 k) t (cnt (ab1 M (nmb c S0 k)) c0 (cS M) t)) → f_X9_agrees_L2 E n m S (c + 129) (nI k) (nI (i * 3)) = some (b2i (CC1 M (nmb c S0 k) (l / 3) (cnt (ab1 M (nmb c S0 k)) c0 (cS M))), S)) ?_ ?_ (l / 3) 0 n (by omega) (by omega) (fun t ht => by omega)
  · intro m hq
    simp only [f_X9_agrees_L2, g546, obs, h0.l145, nI_clamp (show k < 2 ^ 31 by omega), ifn (rinc hk (show 4 < 2 ^ 31 by omega)), ek, if_pos (nI_le (show l ≤ l / 3 * 3 by omega) (show l / 3 * 3 < 2 ^ 31 by omega))]
    rw [b2i_t (show CC1 M (nmb c S0 k) (l / 3) (cnt (ab1 M (nmb c S0 k)) c0 (cS M)) from hq)]
  · intro i m hi ih hq
    simp only [f_X9_agrees_L2, g546, obs, h0.l145, nI_clamp (show k < 2 ^ 31 by omega), ifn (rinc hk (show 4 < 2 ^ 31 by omega)), ek, if_neg (nI_ge (show i * 3 < l by omega) (show l < 2 ^ 31 by omega)), e_X9_isSo h0 hn hI hc hk hl hM hi, bds, ix33, lts]
    by_cases q : tld M (nmb c S0 k) i (cnt (ab1 M (nmb c S0 k)) c0 (cS M) i)
    · rw [ifb1 q]
      exact ih (fun t ht => by
        by_cases et : t = i
        · subst et; exact q
        · exact hq t (by omega))
    · rw [ifb0 q, b2i_f (show ¬ CC1 M (nmb c S0 k) (l / 3) (cnt (ab1 M (nmb c S0 k)) c0 (cS M)) from fun w => q (w i hi))]
theorem e_X9_courtingsBy (h : Inv E c S x M) (hn : 100000 ≤ n) {k : Nat} (hk : k < 4) {l : Nat} (hl : l ≤ 60) (e : ai S (c + 145) k = nI l) (hM : msr M l (nmb c S k)) : ∃ S', f_X9_courtingsBy E n S (c + 129) (nI k) = some ((), S') ∧ KP c S S' ∧ MB c M (enm M (fun c1 => CC1 M (nmb c S k) (l / 3) (cnt (ab1 M (nmb c S k)) c1 (cS M))) (cS M) 0 (fun _ => 0) B00) S' := by
  have k1 : KP c S (si S 539 (c + 129) 0) := KP.si (by unfold kf; omega)
  have h1 := h.kp k1
  have n1 : nmb c (si S 539 (c + 129) 0) k = nmb c S k := nmb_kp k1
  obtain ⟨S2, b1, b2, b3⟩ := e_X9_begins (n := n) h1 (by omega)
  have g2 : gi S2 539 (c + 129) = 0 := (b3 _ _).trans gi_si_eq
  have st : f_X9_courtingsBy E n S (c + 129) (nI k) = f_X9_courtingsBy_L9 E n n S2 (c + 129) (nI k) := by
    simp only [f_X9_courtingsBy, lts, b1, bds]
  obtain ⟨S3, m1, m2, m3⟩ := mod_search (n := n) (LP := fun m S => f_X9_courtingsBy_L9 E n m S (c + 129) (nI k)) h1 (by omega) (fun m S => by
    simp only [f_X9_courtingsBy_L9]
    rfl) (tso_agr h1 (by omega) hk hl e (by rw [n1]; exact hM)) b2 g2 (m := n) hn
  rw [n1] at m3
  exact ⟨S3, st.trans m1, k1.tr m2, m3⟩
theorem both_agr (h : Inv E c S x M) (hn : 100000 ≤ n) (hK : eK E (c + 74) ≠ 0) {k : Nat} (hk : k < 4) (h0 : ¬ M 0 ≤ 0) (ha : ask M c S k = 0) : ∃ S1 S2 B, f_X8_searchAgreeing E n S c (nI k) = some (0, S1) ∧ KP c S S1 ∧ Inv E c S1 x M ∧ CBr c M B S1 ∧ f_X9_courtingsBy E n S1 (c + 129) (nI k) = some ((), S2) ∧ KP c S1 S2 ∧ Inv E c S2 x M ∧ MB c M B S2 ∧ bT B < 2 ^ 30 ∧ ∀ s, bM B s < 32 := by
  have hS := h.w.lS
  have p7 : 5 ^ (cS M) ≤ 5 ^ 7 := Nat.pow_le_pow_right (by decide) hS
  have e7 : (5 : Nat) ^ 7 = 78125 := by decide
  obtain ⟨l, hl, el, hM⟩ := ask_0 h hk ha
  obtain ⟨Sa, a1, a2, a3⟩ := e_X2_takeOver (n := n) h (by omega) hk hl el hM
  have hA := h.kp a2
  obtain ⟨S1, s1, s2, s3⟩ := e_X5_seek (n := n) hA (by omega) (jc1 h.w (by omega) hK (show l / 3 ≤ 20 by omega) (fun i hi => (hM.p h.w hi).1)) a3
  have h1 := hA.kp s2
  have nn : nmb c S1 k = nmb c S k := nmb_kp (a2.tr s2)
  have el1 : ai S1 (c + 145) k = nI l := by rw [(a2.tr s2).2.2.2.1 (c + 145) (by unfold ka; omega)]; exact el
  obtain ⟨S2, m1, m2, m3⟩ := e_X9_courtingsBy (n := n) h1 hn hk hl el1 (by rw [nn]; exact hM)
  rw [nn] at m3
  have g9 : gr S 459 c = some (c + 74) := h.s.g 459 0 74 (by decide)
  have g9' : gr Sa 459 c = some (c + 74) := hA.s.g 459 0 74 (by decide)
  have g7 : gr Sa 457 c = some (c + 50) := hA.s.g 457 0 50 (by decide)
  have tot := enm_tot (M := M) (C := fun c1 => CC1 M (nmb c S k) (l / 3) (cnt (ab1 M (nmb c S k)) c1 (cS M))) (cS M) 0 (fun _ => 0) B00
  have msk := enm_msk h.w (C := fun c1 => CC1 M (nmb c S k) (l / 3) (cnt (ab1 M (nmb c S k)) c1 (cS M))) (cS M) 0 (fun _ => 0) B00 (by omega) (fun s hs => by omega) (fun s => by show 0 < 32; decide)
  refine ⟨S1, S2, _, ?_, a2.tr s2, h1, s3, m1, m2, h1.kp m2, m3, Nat.lt_of_le_of_lt tot (by show 0 + _ < _; omega), msk⟩
  simp only [f_X8_searchAgreeing, e_X8_slotAt h hk, bds, oes, e_X8_refusal h (show 30 ≤ n by omega) hk, if_neg h0, ha, if_true, g9, h.n0, obs, a1, g7, hA.n0, g9', s1]
theorem ask_kp (k1 : KP c S S') {k : Nat} : ask M c S' k = ask M c S k := by
  unfold ask
  rw [k1.2.2.2.1 (c + 145) (by unfold ka; omega), nmb_kp k1]
/-- refused alike, or asked -/
theorem agr_no (h : Inv E c S x M) (hn : 30 ≤ n) (k : Int32) : (∃ j, j < 4 ∧ k = nI j ∧ ¬ M 0 ≤ 0 ∧ ask M c S j = 0) ∨ ∃ v : Int32, v ≠ 0 ∧ ¬ 0 ≤ v ∧ f_X8_searchAgreeing E n S c k = some (v, S) ∧ f_X9_asksMeasured E n S (c + 129) k (b2i (¬ M 0 ≤ 0)) = some (v, S) := by
  by_cases c1 : inI k (nI 4)
  · obtain ⟨j, hj, rfl⟩ := inI_j (N := 4) rfl (by decide) c1
    by_cases c2 : M 0 ≤ 0
    · right
      refine ⟨-2, by decide, by decide, ?_, ?_⟩
      · simp only [f_X8_searchAgreeing, e_X8_slotAt h hj, bds, oes, e_X8_refusal h hn hj, if_pos c2]
        rw [if_neg (by decide)]
      · rw [e_X9_asks h hn hj, b2i_f (fun q => q c2), if_pos rfl]
    · rcases ask_3 (M := M) (c := c) (S := S) j with z | z | z
      · exact Or.inl ⟨j, hj, rfl, c2, z⟩
      · right
        refine ⟨-2, by decide, by decide, ?_, ?_⟩
        · simp only [f_X8_searchAgreeing, e_X8_slotAt h hj, bds, oes, e_X8_refusal h hn hj, if_neg c2, z]
          rw [if_neg (by decide)]
        · rw [e_X9_asks h hn hj, b2i_t c2, if_neg (by decide), z]
      · right
        refine ⟨-6, by decide, by decide, ?_, ?_⟩
        · simp only [f_X8_searchAgreeing, e_X8_slotAt h hj, bds, oes, e_X8_refusal h hn hj, if_neg c2, z]
          rw [if_neg (by decide)]
        · rw [e_X9_asks h hn hj, b2i_t c2, if_neg (by decide), z]
  · right
    refine ⟨-2, by decide, by decide, ?_, e_X9_asks0 c1⟩
    simp only [f_X8_searchAgreeing, e_X8_slotAt0 c1, bds, f_X8_refusalOf_0]
    rfl
theorem asks_t (h : Inv E c S x M) (hn : 30 ≤ n) {k : Nat} (hk : k < 4) {p : Prop} (hp : p) (ha : ask M c S k = 0) : f_X9_asksMeasured E n S (c + 129) (nI k) (b2i p) = some (0, S) := by
  rw [e_X9_asks h hn hk, b2i_t hp, if_neg (by decide), ha]
theorem op_agree (h : Inv E c S x M) (hn : 100000 ≤ n) (hK : eK E (c + 74) ≠ 0) (k : Int32) : OK E c (f_X8_agree E n S c k) (fun S1 => f_X9_agree E n S1 (c + 129) k) := by
  rcases agr_no (n := n) h (by omega) k with ⟨j, hj, rfl, c2, z⟩ | ⟨v, v0, vn, e1, e2⟩
  · obtain ⟨S1, S2, B, a1, a2, a3, a4, b1, b2, b3, b4, b5, b6⟩ := both_agr (n := n) h hn hK hj c2 z
    have at1 := asks_t (n := n) a3 (by omega) hj c2 ((ask_kp a2).trans z)
    refine OK.k h (v := nI (bT B)) (S1 := S1) (S2 := S2) ?_ a2 ?_ b2
    · simp only [f_X8_agree, a1, bds, if_true, cb457 a3, obs, a4.1]
    · simp only [f_X9_agree, e_X9_isMountain a3.o, bds, at1, b1, b4.1]
      rw [if_pos (by decide)]
  · exact OK.r h (v := v) (by simp only [f_X8_agree, e1, bds, if_neg v0]) (by simp only [f_X9_agree, e_X9_isMountain h.o, bds, e2, if_neg vn])
theorem op_kindly (h : Inv E c S x M) (hn : 100000 ≤ n) (hK : eK E (c + 74) ≠ 0) (k : Int32) : OK E c (f_X8_kindly E n S c k) (fun S1 => f_X9_kindly E n S1 (c + 129) k) := by
  rcases agr_no (n := n) h (by omega) k with ⟨j, hj, rfl, c2, z⟩ | ⟨v, v0, vn, e1, e2⟩
  · obtain ⟨S1, S2, B, a1, a2, a3, a4, b1, b2, b3, b4, b5, b6⟩ := both_agr (n := n) h hn hK hj c2 z
    have at1 := asks_t (n := n) a3 (by omega) hj c2 ((ask_kp a2).trans z)
    refine OK.k h (v := gi S1 263 (c + 50)) (S1 := S1) (S2 := S2) ?_ a2 ?_ b2
    · simp only [f_X8_kindly, a1, bds, if_true, cb457 a3, obs]
    · simp only [f_X9_kindly, e_X9_isMountain a3.o, bds, at1, b1]
      rw [if_pos (by decide)]
      exact rd_few a4 b4 b5
  · exact OK.r h (v := v) (by simp only [f_X8_kindly, e1, bds, if_neg v0]) (by simp only [f_X9_kindly, e_X9_isMountain h.o, bds, e2, if_neg vn])
theorem op_sure (h : Inv E c S x M) (hn : 100000 ≤ n) (hK : eK E (c + 74) ≠ 0) (k s : Int32) : OK E c (f_X8_sure E n S c k s) (fun S1 => f_X9_sure E n S1 (c + 129) k s) := by
  have hS := h.w.lS
  by_cases c1 : inI s (M 4)
  · obtain ⟨s, hs, rfl⟩ := inI_j h.w.s4 (by omega) c1
    have m0 : ¬ M 0 ≤ 0 := by
      rw [h.w.s0]
      intro q
      have hP := h.w.lP
      have := (nI_le0 (show cP M < 2 ^ 31 by omega)).mp q
      have := (h.w.2.2.1 this).2.2.2.1
      omega
    rcases agr_no (n := n) h (by omega) k with ⟨j, hj, rfl, c2, z⟩ | ⟨v, v0, vn, e1, e2⟩
    · obtain ⟨S1, S2, B, a1, a2, a3, a4, b1, b2, b3, b4, b5, b6⟩ := both_agr (n := n) h hn hK hj c2 z
      have at1 := asks_t (n := n) a3 (by omega) hj c1 ((ask_kp a2).trans z)
      obtain ⟨r, r1, r2⟩ := e_X5_sameByAll (n := n) a3 (by omega) (show s < 7 by omega) (b6 s) (a4.2.2.2 s hs).2
      have g543 : gr S2 543 (c + 129) = some (c + 129 + 14) := b3.s.g 543 129 143 (by decide)
      have l143 : eN E (c + 129 + 14) = 7 := h.L.at 143 7 (by omega) (by decide)
      refine OK.k h (v := r) (S1 := S1) (S2 := S2) ?_ a2 ?_ b2
      · simp only [f_X8_sure, h.n0, obs, e_X3_hasSuitor h.m, bds, ifb1 c1, a1, if_true, cb457 a3, r1]
      · simp only [f_X9_sure, e_X9_isSuitor a3.o h.w, bds, at1, b1]
        rw [if_pos (by decide), b4.1]
        by_cases w : bT B = 0
        · rw [if_pos ((bT0 b5).mpr w)]
          have mz := b4.2.2 w s hs
          rw [mz] at r2
          rcases r2 with ⟨i, hi, e3, e4⟩ | ⟨-, e4⟩
          · have := Nat.two_pow_pos i; omega
          · rw [e4]
        · rw [if_neg (fun q => w ((bT0 b5).mp q))]
          simp only [g543, obs, l143, nI_clamp (show s < 2 ^ 31 by omega), ifn (rinc (show s < 7 by omega) (show 7 < 2 ^ 31 by omega))]
          have fin := RS_SB r2 ((b4.2.1 w).2.2 s hs).2
          rw [← fin]
          by_cases w1 : ai S2 (c + 129 + 14) s = -2
          · rw [if_pos w1, if_pos w1]
          · rw [if_neg w1, if_neg w1]
            by_cases w2 : ai S2 (c + 129 + 14) s = -1
            · rw [if_pos w2, if_pos w2]
            · rw [if_neg w2, if_neg w2]
    · have e2 : f_X9_asksMeasured E n S (c + 129) k (b2i (inI (nI s) (M 4))) = some (v, S) := by rw [b2i_t c1, ← b2i_t m0]; exact e2
      exact OK.r h (v := v) (by simp only [f_X8_sure, h.n0, obs, e_X3_hasSuitor h.m, bds, ifb1 c1, e1, if_neg v0]) (by simp only [f_X9_sure, e_X9_isSuitor h.o h.w, bds, e2, if_neg vn])
  · have e2 : f_X9_asksMeasured E n S (c + 129) k (b2i (inI s (M 4))) = some (-2, S) := by
      by_cases c3 : inI k (nI 4)
      · obtain ⟨j, hj, rfl⟩ := inI_j (N := 4) rfl (by decide) c3
        rw [e_X9_asks h (by omega) hj, b2i_f c1, if_pos rfl]
      · exact e_X9_asks0 c3
    exact OK.r h (v := -2) (by simp only [f_X8_sure, h.n0, obs, e_X3_hasSuitor h.m, bds, ifb0 c1]) (by
      simp only [f_X9_sure, e_X9_isSuitor h.o h.w, bds, e2]
      rw [if_neg (by decide)])
/-! odd -/
noncomputable def odv (M : Nat → Int32) (N : Nat → Int64) (i : Nat) : Prop := (lpv M (mP N i) (nI (mY N i)) (-1)).toInt64 = N (i * 3 + 2)
theorem op_odd (h : Inv E c S x M) (hn : 100 ≤ n) (k : Int32) : OK E c (f_X8_odd0 E n S c k) (fun S1 => f_X9_odd E n S1 (c + 129) k) := by
  have two : ∀ v : Int32, v ≠ 0 → ¬ 0 ≤ v → f_X8_odd0 E n S c k = some (v, S) → f_X9_asksMeasured E n S (c + 129) k (b2i (¬ M 0 ≤ 0)) = some (v, S) → OK E c (f_X8_odd0 E n S c k) (fun S1 => f_X9_odd E n S1 (c + 129) k) := fun v _ vn e1 e2 => OK.r h (v := v) e1 (by simp only [f_X9_odd, e_X9_isMountain h.o, bds, e2, if_neg vn])
  by_cases c1 : inI k (nI 4)
  · obtain ⟨k, hk, rfl⟩ := inI_j (N := 4) rfl (by decide) c1
    have hk : k < 4 := hk
    by_cases c2 : M 0 ≤ 0
    · refine two (-2) (by decide) (by decide) ?_ ?_
      · simp only [f_X8_odd0, e_X8_slotAt h hk, bds, oes, e_X8_refusal h (show 30 ≤ n by omega) hk, if_pos c2]
        rw [if_neg (by decide)]
      · rw [e_X9_asks h (by omega) hk, b2i_f (fun q => q c2), if_pos rfl]
    · by_cases z : ask M c S k = 0
      · obtain ⟨l, hl, el, hM⟩ := ask_0 h hk z
        have m0 := hM.1
        have es : gi S 321 (c + (121 + 2 * k)) = nI l := (h.sl k hk).2.1.trans el
        obtain ⟨r, r1, r2⟩ : ∃ r, f_X8_odd0_L25 E n n S c (c + (121 + 2 * k)) 0 = some (r, S) ∧ f_X9_odd_L18 E n n S (c + 129) (nI k) 0 = some (r, S) := by
          have key : ∀ j i, i + j = l / 3 → ∀ m, j < m → ∃ r, f_X8_odd0_L25 E n m S c (c + (121 + 2 * k)) (nI i) = some (r, S) ∧ f_X9_odd_L18 E n m S (c + 129) (nI k) (nI i) = some (r, S) := by
            intro j
            induction j with
            | zero =>
              intro i hi m hm
              obtain ⟨m, rfl⟩ : ∃ q, m = q + 1 := ⟨m - 1, by omega⟩
              refine ⟨-1, ?_, ?_⟩
              · simp only [f_X8_odd0_L25, e_X6_measures hl es, bds, if_pos (nI_le (show l / 3 ≤ i by omega) (show i < 2 ^ 31 by omega))]
              · simp only [f_X9_odd_L18, h.g546, obs, h.l145, nI_clamp (show k < 2 ^ 31 by omega), ifn (rinc hk (show 4 < 2 ^ 31 by omega)), el, ix3r, if_pos (nI_le (show l ≤ i * 3 by omega) (show i * 3 < 2 ^ 31 by omega))]
            | succ j ih =>
              intro i hi m hm
              obtain ⟨m, rfl⟩ : ∃ q, m = q + 1 := ⟨m - 1, by omega⟩
              obtain ⟨r, r1, r2⟩ := ih (i + 1) (by omega) m (by omega)
              obtain ⟨p1, p2, p3, p4⟩ := hM.p h.w (show i < l / 3 by omega)
              have path : f_X6_pathOf E n S (c + (121 + 2 * k)) (nI i) = some (nI (mP (nmb c S k) i), S) := by
                have q := e_X6_num (n := n) h hk (show i * 3 < 60 by omega)
                simp only [f_X6_pathOf, ix3m, q, bds, p2]
              have year : f_X6_yearOf E n S (c + (121 + 2 * k)) (nI i) = some (nI (mY (nmb c S k) i), S) := by
                have q := e_X6_num (n := n) h hk (show i * 3 + 1 < 60 by omega)
                simp only [f_X6_yearOf, ix3m, nI_1, q, bds, p4]
              have a1 := e_X9_num (n := n) h.g548 h.l147 hk (show i * 3 < 60 by omega)
              have a2 := e_X9_num (n := n) h.g548 h.l147 hk (show i * 3 + 1 < 60 by omega)
              have a3 := e_X9_num (n := n) h.g548 h.l147 hk (show i * 3 + 2 < 60 by omega)
              have so : f_X9_isSo E n S (c + 129) (nI k) (nI (i * 3)) = some (b2i (odv M (nmb c S k) i), S) := by
                simp only [f_X9_isSo, a1, bds, nI_1, a2, p2, p4, e_X9_leapNow h.o h.w (show 8 ≤ n by omega) p1, ix32, a3, lcm_eq]
                by_cases q : odv M (nmb c S k) i
                · rw [b2i_t q]; exact if_pos q
                · rw [b2i_f q]; exact if_neg q
              have t1 : f_X8_odd0_L25 E n (m + 1) S c (c + (121 + 2 * k)) (nI i) = if (lpv M (mP (nmb c S k) i) (nI (mY (nmb c S k) i)) (-1)).toInt64 = nmb c S k (i * 3 + 2) then f_X8_odd0_L25 E n m S c (c + (121 + 2 * k)) (nI (i + 1)) else some (nI i, S) := by
                simp only [f_X8_odd0_L25, e_X6_measures hl es, bds, if_neg (nI_ge (show i < l / 3 by omega) (show l / 3 < 2 ^ 31 by omega)), h.n0, obs, path, year, e_X3_leapOf h.m h.w (show 8 ≤ n by omega) p1, e_X6_told h hk (show i < 20 by omega), lcm_eq, lts, nI_1]
              have t2 : f_X9_odd_L18 E n (m + 1) S (c + 129) (nI k) (nI i) = if b2i (odv M (nmb c S k) i) = 0 then some (nI i, S) else f_X9_odd_L18 E n m S (c + 129) (nI k) (nI (i + 1)) := by
                simp only [f_X9_odd_L18, h.g546, obs, h.l145, nI_clamp (show k < 2 ^ 31 by omega), ifn (rinc hk (show 4 < 2 ^ 31 by omega)), el, ix3r, if_neg (nI_ge (show i * 3 < l by omega) (show l < 2 ^ 31 by omega)), so, bds, lts, nI_1]
              rw [t1, t2]
              by_cases q : odv M (nmb c S k) i
              · have q' : (lpv M (mP (nmb c S k) i) (nI (mY (nmb c S k) i)) (-1)).toInt64 = nmb c S k (i * 3 + 2) := q
                rw [ifb1 q, if_pos q']; exact ⟨r, r1, r2⟩
              · have q' : ¬ (lpv M (mP (nmb c S k) i) (nI (mY (nmb c S k) i)) (-1)).toInt64 = nmb c S k (i * 3 + 2) := q
                rw [ifb0 q, if_neg q']; exact ⟨nI i, rfl, rfl⟩
          exact key (l / 3) 0 (by omega) n (by omega)
        refine OK.r h (v := r) ?_ ?_
        · simp only [f_X8_odd0, e_X8_slotAt h hk, bds, oes, e_X8_refusal h (show 30 ≤ n by omega) hk, if_neg c2, z, if_true, r1]
        · simp only [f_X9_odd, e_X9_isMountain h.o, bds, asks_t h (show 30 ≤ n by omega) hk c2 z, r2]
          rw [if_pos (by decide)]
      · have z3 := (ask_3 (M := M) (c := c) (S := S) k).resolve_left z
        refine two (ask M c S k) z (by rcases z3 with q | q <;> rw [q] <;> decide) ?_ ?_
        · simp only [f_X8_odd0, e_X8_slotAt h hk, bds, oes, e_X8_refusal h (show 30 ≤ n by omega) hk, if_neg c2, if_neg z]
        · rw [e_X9_asks h (by omega) hk, b2i_t c2, if_neg (by decide)]
  · refine two (-2) (by decide) (by decide) ?_ (e_X9_asks0 c1)
    simp only [f_X8_odd0, e_X8_slotAt0 c1, bds, f_X8_refusalOf_0]
    rfl
end AGR
