/-! The mountain with another courting: what it shows, in words of choices -/
theorem crv_0 : nI 0 - 1 = -1 := by decide
theorem crv_s (b : Nat) : nI (b + 1) - 1 = nI b := nI_pred b
theorem crv_eq {u v : Nat} (hu : u < 2 ^ 31) (hv : v < 2 ^ 31) : nI u - 1 = nI v - 1 ↔ u = v := by
  constructor
  · intro h
    have h2 : nI u = nI v := by
      have := congrArg (fun z => z + 1) h
      simp only [Int32.sub_add_cancel] at this
      exact this
    exact (nI_eq hu hv).mp h2
  · intro h; rw [h]
theorem crv_m1 {v : Nat} (hv : v < 2 ^ 31) : nI v - 1 = -1 ↔ v = 0 := by
  rw [← crv_0, crv_eq hv (by decide)]
def Mc (M : Nat → Int32) (c : Nat → Nat) : Nat → Int32 := fun i => if 102 ≤ i ∧ i < 102 + cS M then nI (c (i - 102)) - 1 else M i
theorem Mc_lo {M : Nat → Int32} {c : Nat → Nat} {i : Nat} (h : i < 102) : Mc M c i = M i := if_neg (by omega)
theorem Mc_at {M : Nat → Int32} {c : Nat → Nat} {s : Nat} (h : s < cS M) : Mc M c (102 + s) = nI (c s) - 1 := by
  unfold Mc
  rw [if_pos ⟨by omega, by omega⟩, Nat.add_sub_cancel_left]
abbrev alc (M : Nat → Int32) (c : Nat → Nat) : Prop := ∀ s, s < cS M → alw M s (c s)
theorem Mc_n {M : Nat → Int32} {c : Nat → Nat} : cP (Mc M c) = cP M ∧ cY (Mc M c) = cY M ∧ cA (Mc M c) = cA M ∧ cB (Mc M c) = cB M ∧ cS (Mc M c) = cS M ∧ cW (Mc M c) = cW M := ⟨cE (Mc_lo (by omega)), cE (Mc_lo (by omega)), cE (Mc_lo (by omega)), cE (Mc_lo (by omega)), cE (Mc_lo (by omega)), cE (Mc_lo (by omega))⟩
theorem WF_Mc {M : Nat → Int32} (hw : WF M) {c : Nat → Nat} (hc : alc M c) : WF (Mc M c) := by
  have e : ∀ i, i < 102 → Mc M c i = M i := fun i hi => Mc_lo hi
  obtain ⟨e0, e1, e2, e3, e4, e5⟩ := Mc_n (M := M) (c := c)
  have hw0 := hw
  obtain ⟨w1, w2, w3, w4, w5, w6, w7, w8, w9, w10, w11, w12, w13⟩ := hw
  unfold WF
  rw [e0, e1, e2, e3, e4, e5, e 0 (by omega), e 1 (by omega), e 2 (by omega), e 3 (by omega), e 4 (by omega), e 5 (by omega), e 6 (by omega)]
  refine ⟨w1, w2, w3, w4, ?_, ?_, ?_, ?_, ?_, ?_, ?_, ?_, w13⟩
  · intro p hp; rw [e (7 + p) (by omega)]; exact w5 p hp
  · intro p hp; rw [e (15 + p) (by omega)]; exact w6 p hp
  · intro p hp; have := w2.2.2.1; rw [e (45 + 2 * p) (by omega), e (46 + 2 * p) (by omega)]; exact w7 p hp
  · intro p q hp hq; have := w2.2.2.1
    rw [e (45 + 2 * p) (by omega), e (46 + 2 * p) (by omega), e (45 + 2 * q) (by omega), e (46 + 2 * q) (by omega)]; exact w8 p q hp hq
  · intro p hp; have := w2.2.2.2.1; rw [e (65 + 2 * p) (by omega), e (66 + 2 * p) (by omega)]; exact w9 p hp
  · intro p hp; have := w2.2.2.2.2.1; rw [e (73 + 3 * p) (by omega), e (74 + 3 * p) (by omega), e (75 + 3 * p) (by omega)]; exact w10 p hp
  · intro p hp; have := w2.2.2.2.2.2; rw [e (94 + 2 * p) (by omega), e (95 + 2 * p) (by omega)]; exact w11 p hp
  · intro p hp
    have hS := w2.2.2.2.2.1
    by_cases q : p < cS M
    · rw [e (75 + 3 * p) (by omega), Mc_at q]
      have a := hc p q
      have a5 := alw_5 hw0 q a
      by_cases z : c p = 0
      · rw [z]; exact Or.inr (Or.inl crv_0)
      · obtain ⟨b, hb⟩ : ∃ b, c p = b + 1 := ⟨c p - 1, by omega⟩
        rw [hb] at a
        have hbB := alw_b hw0 q a
        rw [hb, crv_s]
        exact Or.inr (Or.inr (forI_ok hw0 q hbB ((alw_for hw0 q hbB).mp a)))
    · rw [show Mc M c (102 + p) = M (102 + p) from if_neg (by omega)]
      rcases w12 p hp with z | z | ⟨b, f, z, -⟩
      · exact Or.inl z
      · exact Or.inr (Or.inl z)
      · exact absurd z q
theorem wst_Mc {M : Nat → Int32} (hw : WF M) {c : Nat → Nat} {s : Nat} (hs : s < cS M) (b p y : Int32) : wst (Mc M c) s b p y ↔ wst M s b p y := by
  have hS := hw.lS
  have hB := hw.lB
  have e3 : Mc M c 3 = M 3 := Mc_lo (by omega)
  unfold wst
  rw [e3]
  by_cases h : inI b (M 3)
  · obtain ⟨j, hj, rfl⟩ := inI_j hw.s3 (by omega) h
    rw [nI_clamp (show j < 2 ^ 31 by omega), Mc_lo (show 65 + 2 * j < 102 by omega), Mc_lo (show 66 + 2 * j < 102 by omega), Mc_lo (show 73 + 3 * s < 102 by omega)]
  · exact ⟨fun q => absurd q.1 h, fun q => absurd q.1 h⟩
theorem stp_cnt {M : Nat → Int32} (hw : WF M) {c : Nat → Nat} {ab : Nat → Nat → Nat → Nat} {i : Nat} {p y : Int32} (hab : ∀ s b, ab s b i = if wst M s (nI b) p y then 1 else 0) : ∀ n, n ≤ cS M → stp (Mc M c) p y (-1) n = cnt ab c n i := by
  have hS := hw.lS
  intro n
  induction n with
  | zero => intro _; rfl
  | succ s ih =>
    intro hs
    have e := ih (by omega)
    rw [stp, if_neg (nIm1 (show s < 2 ^ 31 by omega)), e, cnt, abc]
    have hh : hst (Mc M c) s p y ↔ wst M s (nI (c s) - 1) p y := by
      unfold hst
      rw [Mc_at (by omega)]
      exact wst_Mc hw (by omega) _ p y
    by_cases z : c s = 0
    · rw [if_pos z, if_neg]
      · rw [Nat.add_zero]
      · intro q
        have q2 := hh.mp q
        rw [z, crv_0] at q2
        exact q2.1.1 (by decide)
    · obtain ⟨b, hb⟩ : ∃ b, c s = b + 1 := ⟨c s - 1, by omega⟩
      rw [if_neg z, hab, hb, Nat.add_sub_cancel]
      rw [hb, crv_s] at hh
      by_cases q : wst M s (nI b) p y
      · rw [if_pos (hh.mpr q), if_pos q]
      · rw [if_neg (fun q2 => q (hh.mp q2)), if_neg q, Nat.add_zero]
theorem drp_Mc {M : Nat → Int32} (hw : WF M) {c : Nat → Nat} {p : Nat} (hp : p < cA M) : drp (Mc M c) p = drp M p := by
  have hA := hw.lA
  have hP := hw.lP
  obtain ⟨u, v, hu, hv, -, eu, ev⟩ := hw.2.2.2.2.2.2.1 p hp
  rw [drp, drp, Mc_lo (show 45 + 2 * p < 102 by omega), Mc_lo (show 46 + 2 * p < 102 by omega), eu, ev, nI_clamp (show u < 2 ^ 31 by omega), nI_clamp (show v < 2 ^ 31 by omega), Mc_lo (show 7 + u < 102 by omega), Mc_lo (show 7 + v < 102 by omega)]
theorem lpv_Mc {M : Nat → Int32} (hw : WF M) {c : Nat → Nat} {ab : Nat → Nat → Nat → Nat} {i p : Nat} {y : Int32} (hp : p < cA M) (hab : ∀ s b, ab s b i = if wst M s (nI b) (nI p) y then 1 else 0) : lpv (Mc M c) p y (-1) = lpd (drp M p) (cnt ab c (cS M) i) := by
  rw [lpv, drp_Mc hw hp, Mc_n.2.2.2.2.1, stp_cnt hw hab (cS M) (Nat.le_refl _)]
theorem rnd_cong {M N : Nat → Int32} (e : ∀ i, i < 102 → M i = N i) {o v : Int32} : ∀ p, p ≤ 10 → rnd M o v p = rnd N o v p := by
  intro p
  induction p with
  | zero => intro _; rfl
  | succ p ih =>
    intro hp
    rw [rnd, rnd, ih (by omega), ends, ends, e (45 + 2 * p) (by omega), e (46 + 2 * p) (by omega)]
theorem rch_cong {M N : Nat → Int32} (e : ∀ i, i < 102 → M i = N i) (hA : cA M ≤ 10) (o h : Int32) : rch M o h = rch N o h := by
  have eA : cA M = cA N := cE (e 2 (by omega))
  have key : ∀ k x, itr M o x k = itr N o x k := by
    intro k x
    induction k with
    | zero => rfl
    | succ k ih => rw [itr, itr, ih, ← eA, rnd_cong e (cA M) hA]
  exact key 8 _
/-- coming, by choices and by the mountain with them -/
theorem come_Mc {M : Nat → Int32} (hw : WF M) {c : Nat → Nat} (hc : alc M c) {w t : Nat} (hk : w < cW M) (y : Int32) : ((rea (Mc M c) w y (-1) >>> (nI t &&& 31)) &&& 1 = 1) ↔ cmr M w (opw M (cnt (ab0 M y) c (cS M)) w (cA M)) t := by
  have hW := hw.lW
  have hA := hw.lA
  have hS := hw.lS
  have wc := WF_Mc hw hc
  obtain ⟨l, a, hl, ha, e1, e2⟩ := hw.walk hk
  obtain ⟨o, o1, o2, o3⟩ := opn_nat (M := Mc M c) (nI l) y (-1) (cA M) (by omega)
  have q := opw_bit (M := M) (k := cnt (ab0 M y) c (cS M)) (w := w) (cA M)
  have el : lep M w = l := by rw [lep, e1, nI_clamp (by omega)]
  have eo : o = opw M (cnt (ab0 M y) c (cS M)) w (cA M) := by
    apply Nat.eq_of_testBit_eq
    intro j
    by_cases hj : j < cA M
    · have h1 := o3 j hj
      have h2 := q.2 j
      obtain ⟨d, hd, ed⟩ := drp_nat hw hj
      have h7 := cnt_le (ab := ab0 M y) (fun s b i => by unfold ab0; split <;> omega) (c := c) (i := j) (cS M)
      rw [lpv_Mc hw (i := j) (ab := ab0 M y) hj (fun s b => rfl), ed, lpd_nat (by omega) (by omega)] at h1
      have hdv : (d + cnt (ab0 M y) c (cS M) j) / (cnt (ab0 M y) c (cS M) j + 1) ≤ d + cnt (ab0 M y) c (cS M) j := Nat.div_le_self _ _
      rw [nI_ltI (by omega) (by omega)] at h1
      have ll := leap_le (d := d) (k := cnt (ab0 M y) c (cS M) j) (n := l)
      have edn : drn M j = d := by rw [drn, ed, nI_clamp (by omega)]
      rw [edn, el] at h2
      have h3 : o.testBit j = true ↔ (opw M (cnt (ab0 M y) c (cS M)) w (cA M)).testBit j = true := by
        rw [h1, h2, ← ll]
        constructor
        · intro z; exact ⟨hj, by omega⟩
        · intro z; have := z.2; omega
      cases b1 : o.testBit j <;> cases b2 : (opw M (cnt (ab0 M y) c (cS M)) w (cA M)).testBit j
      · rfl
      · exact absurd (h3.mpr b2) (by rw [b1]; decide)
      · exact absurd (h3.mp b1) (by rw [b2]; decide)
      · rfl
    · rw [Nat.testBit_lt_two_pow (Nat.lt_of_lt_of_le o1 (Nat.pow_le_pow_right (by decide) (by omega))), Nat.testBit_lt_two_pow (Nat.lt_of_lt_of_le q.1 (Nat.pow_le_pow_right (by decide) (by omega)))]
  rw [rea, Mc_n.2.2.1, Mc_lo (show 94 + 2 * w < 102 by omega), Mc_lo (show 95 + 2 * w < 102 by omega), e1, o2, rch_cong (N := M) (fun i hi => Mc_lo hi) (by rw [Mc_n.2.2.1]; exact hA), eo]
/-! hearts -/
theorem cn_cong {P Q : Nat → Prop} : ∀ {N : Nat}, (∀ s, s < N → (P s ↔ Q s)) → cn P N = cn Q N := by
  intro N
  induction N with
  | zero => intro _; rfl
  | succ N ih =>
    intro h
    have e := ih (fun s hs => h s (by omega))
    by_cases q : P N
    · rw [cn, cn, if_pos q, if_pos ((h N (by omega)).mp q), e]
    · rw [cn, cn, if_neg q, if_neg (fun z => q ((h N (by omega)).mpr z)), e]
theorem cn_one {P Q : Nat → Prop} {j : Nat} : ∀ {N : Nat}, (∀ s, s < N → (Q s ↔ P s ∨ s = j)) → ¬ P j → j < N → cn Q N = cn P N + 1 := by
  intro N
  induction N with
  | zero => intro _ _ h; omega
  | succ N ih =>
    intro h hp hj
    by_cases e : j = N
    · subst e
      have e2 : cn Q j = cn P j := cn_cong (fun s hs => by
        rw [h s (by omega)]
        exact ⟨fun q => q.elim id (fun q => by omega), fun q => Or.inl q⟩)
      rw [cn, cn, if_pos ((h j (by omega)).mpr (Or.inr rfl)), if_neg hp, e2]
    · have e2 := ih (fun s hs => h s (by omega)) hp (by omega)
      have e3 := h N (by omega)
      by_cases q : P N
      · rw [cn, cn, if_pos (e3.mpr (Or.inl q)), if_pos q, e2]
      · rw [cn, cn, if_neg (fun z => (e3.mp z).elim q (fun z => e z.symm)), if_neg q, e2]
theorem cn_split (P Q : Nat → Prop) : ∀ N, cn P N = cn (fun s => P s ∧ ¬ Q s) N + cn (fun s => P s ∧ Q s) N := by
  intro N
  induction N with
  | zero => rfl
  | succ N ih =>
    by_cases p : P N
    · by_cases q : Q N
      · rw [cn, cn, cn, if_pos p, if_neg (fun z => z.2 q), if_pos ⟨p, q⟩, ih]; omega
      · rw [cn, cn, cn, if_pos p, if_pos ⟨p, q⟩, if_neg (fun z => q z.2), ih]; omega
    · rw [cn, cn, cn, if_neg p, if_neg (fun z => p z.1), if_neg (fun z => p z.1), ih]
theorem cn_bsy {c : Nat → Nat} : ∀ N, cn (fun s => c s ≠ 0) N = bsy c N := by
  intro N
  induction N with
  | zero => rfl
  | succ N ih =>
    by_cases q : c N = 0
    · rw [cn, bsy, if_neg (fun z => z q), if_pos q, ih]
    · rw [cn, bsy, if_pos q, if_neg q, ih]
theorem crd_bit {c : Nat → Nat} {j : Nat} : ∀ N, (crd c N).testBit j = true ↔ ∃ s, s < N ∧ c s ≠ 0 ∧ c s = j := by
  intro N
  induction N with
  | zero => rw [crd, Nat.zero_testBit]; exact ⟨fun q => (by cases q), fun ⟨s, hs, _⟩ => by omega⟩
  | succ N ih =>
    rw [crd]
    by_cases q : c N = 0
    · rw [if_pos q, ih]
      constructor
      · rintro ⟨s, h1, h2⟩; exact ⟨s, by omega, h2⟩
      · rintro ⟨s, h1, h2, h3⟩
        by_cases e : s = N
        · subst e; exact absurd q h2
        · exact ⟨s, by omega, h2, h3⟩
    · rw [if_neg q, fb_bit_set, Bool.or_eq_true, decide_eq_true_eq, ih]
      constructor
      · rintro (⟨s, h1, h2⟩ | h)
        · exact ⟨s, by omega, h2⟩
        · exact ⟨N, by omega, q, h.symm⟩
      · rintro ⟨s, h1, h2, h3⟩
        by_cases e : s = N
        · subst e; exact Or.inr h3.symm
        · exact Or.inl ⟨s, by omega, h2, h3⟩
theorem cn_F : ∀ N, cn (fun _ => False) N = 0 := by
  intro N
  induction N with
  | zero => rfl
  | succ N ih => rw [cn, if_neg (fun q => q), ih]
theorem hearts_Mc {M : Nat → Int32} (hw : WF M) {c : Nat → Nat} (hc : alc M c) : cn (rfs (oM (Mc M c)) (kM (Mc M c)) (cS (Mc M c))) (cS (Mc M c)) = hrt c (cS M) := by
  have hS := hw.lS
  rw [Mc_n.2.2.2.2.1]
  obtain ⟨o, ho⟩ : ∃ o, o = oM (Mc M c) := ⟨_, rfl⟩
  obtain ⟨k, hk⟩ : ∃ k, k = kM (Mc M c) := ⟨_, rfl⟩
  rw [← ho, ← hk]
  have os : ∀ s, s < cS M → o s = nI (c s) - 1 := fun s hs => by rw [ho]; exact Mc_at hs
  have c5 : ∀ s, s < cS M → c s < 5 := fun s hs => alw_5 hw hs (hc s hs)
  have om : ∀ s, s < cS M → (o s = -1 ↔ c s = 0) := fun s hs => by rw [os s hs]; exact crv_m1 (by have := c5 s hs; omega)
  have a1 := cn_split (fun s => c s ≠ 0) (fun s => tkn o k (o s) (cS M) = nI s) (cS M)
  rw [cn_bsy] at a1
  have a2 : cn (fun s => c s ≠ 0 ∧ ¬ tkn o k (o s) (cS M) = nI s) (cS M) = cn (rfs o k (cS M)) (cS M) := cn_cong (fun s hs => by
    unfold rfs
    exact and_congr (not_congr (om s hs).symm) Iff.rfl)
  have a3 : ∀ J, J ≤ 5 → cn (fun s => c s ≠ 0 ∧ c s < J ∧ tkn o k (o s) (cS M) = nI s) (cS M) = na (crd c (cS M)) J := by
    intro J
    induction J with
    | zero =>
      intro _
      rw [na]
      exact (cn_cong (Q := fun _ => False) (fun s hs => ⟨fun q => by have := q.2.1; omega, fun q => q.elim⟩)).trans (cn_F (cS M))
    | succ J ih =>
      intro hJ
      have ih := ih (by omega)
      by_cases b : (crd c (cS M)).testBit J = true
      · rw [na_t b, ← ih]
        obtain ⟨s, h1, h2, h3⟩ := (crd_bit (cS M)).mp b
        rcases tkn_best o k (nI J - 1) (cS M) (by omega) with ⟨-, q⟩ | ⟨j, ej, bj⟩
        · exact absurd (by rw [os s h1, h3]) (q s h1)
        · have cj : c j = J := by
            have := bj.2.1
            rw [os j bj.1] at this
            exact (crv_eq (by have := c5 j bj.1; omega) (by omega)).mp this
          refine cn_one (j := j) (fun s' hs' => ?_) (fun q => by have := q.2.1; omega) bj.1
          constructor
          · rintro ⟨q1, q2, q3⟩
            by_cases e : c s' = J
            · right
              rw [os s' hs', e, ej] at q3
              exact ((nI_eq (by have := bj.1; omega) (by omega)).mp q3).symm
            · exact Or.inl ⟨q1, by omega, q3⟩
          · rintro (⟨q1, q2, q3⟩ | q)
            · exact ⟨q1, by omega, q3⟩
            · subst q
              exact ⟨by omega, by omega, by rw [os s' hs', cj]; exact ej⟩
      · rw [na_f b, ← ih]
        refine cn_cong (fun s hs => ?_)
        constructor
        · rintro ⟨q1, q2, q3⟩
          refine ⟨q1, ?_, q3⟩
          apply Classical.byContradiction
          intro z
          exact b ((crd_bit (cS M)).mpr ⟨s, hs, q1, by omega⟩)
        · rintro ⟨q1, q2, q3⟩; exact ⟨q1, by omega, q3⟩
  have a4 : cn (fun s => c s ≠ 0 ∧ tkn o k (o s) (cS M) = nI s) (cS M) = na (crd c (cS M)) 5 := by
    rw [← a3 5 (Nat.le_refl _)]
    exact cn_cong (fun s hs => ⟨fun q => ⟨q.1, c5 s hs, q.2⟩, fun q => ⟨q.1, q.2.2⟩⟩)
  rw [a2, a4] at a1
  unfold hrt
  omega
/-! the next courting -/
def faw (M : Nat → Int32) (s : Nat) : Nat → Nat → Option Nat
  | 0, _ => none
  | k + 1, v => if alw M s v then some v else faw M s k (v + 1)
def nxc (M : Nat → Int32) : Nat → (Nat → Nat) → Bool × (Nat → Nat)
  | 0, c => (false, c)
  | d + 1, c => match faw M d (5 - (c d + 1)) (c d + 1) with
    | some v => (true, scd c d v)
    | none => nxc M d (scd c d 0)
theorem faw_none {M : Nat → Int32} (hw : WF M) {s : Nat} (hs : s < cS M) : ∀ k v, cB M + 1 ≤ v → faw M s k v = none := by
  intro k
  induction k with
  | zero => intro v _; rfl
  | succ k ih =>
    intro v hv
    rw [faw, if_neg, ih (v + 1) (by omega)]
    intro a
    obtain ⟨b, rfl⟩ : ∃ b, v = b + 1 := ⟨v - 1, by omega⟩
    have := alw_b hw hs a
    omega
theorem enm_cong {M : Nat → Int32} {C C' : (Nat → Nat) → Prop} {N : Nat} : ∀ k d c B, d + k = N → (∀ s, d ≤ s → c s = 0) → (∀ c', cpl M N d c c' → (C c' ↔ C' c')) → enm M C k d c B = enm M C' k d c B := by
  intro k
  induction k with
  | zero =>
    intro d c B hd h0 hC
    have e := hC c ⟨fun _ _ => rfl, fun s h1 h2 => by omega, fun s hs => h0 s (by omega)⟩
    rw [enm, enm]
    by_cases q : C c
    · rw [if_pos q, if_pos (e.mp q)]
    · rw [if_neg q, if_neg (fun z => q (e.mpr z))]
  | succ k ih =>
    intro d c B hd h0 hC
    rw [enm, enm]
    refine lpS_cong (fun v B hv => ?_)
    by_cases a : alw M d v
    · rw [if_pos a, if_pos a]
      exact ih (d + 1) _ _ (by omega) (fun s hs => by rw [scd_un (by omega)]; exact h0 s (by omega)) (fun c' hc' => hC c' (cpl_s (by omega) a hc'))
    · rw [if_neg a, if_neg a]
