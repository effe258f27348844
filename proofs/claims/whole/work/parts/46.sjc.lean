/-! The condition that walkers come to a place -/
abbrev drn (M : Nat → Int32) (p : Nat) : Nat := (drp M p).toNatClampNeg
abbrev lep (M : Nat → Int32) (w : Nat) : Nat := (M (94 + 2 * w)).toNatClampNeg
/-- the paths that w can go, by counts of steps, as bits -/
def opw (M : Nat → Int32) (k : Nat → Nat) (w : Nat) : Nat → Nat
  | 0 => 0
  | p + 1 => if drn M p ≤ lep M w * (k p + 1) then opw M k w p ||| 2 ^ p else opw M k w p
theorem opw_bit {M : Nat → Int32} {k : Nat → Nat} {w : Nat} : ∀ P, opw M k w P < 2 ^ P ∧ ∀ p, (opw M k w P).testBit p = true ↔ p < P ∧ drn M p ≤ lep M w * (k p + 1) := by
  intro P
  induction P with
  | zero => exact ⟨by rw [opw]; decide, fun p => by rw [opw, Nat.zero_testBit]; exact ⟨fun q => (by cases q), fun q => by omega⟩⟩
  | succ P ih =>
    obtain ⟨a, b⟩ := ih
    have hp2 : 2 ^ (P + 1) = 2 * 2 ^ P := by rw [Nat.pow_succ]; omega
    rw [opw]
    by_cases c : drn M P ≤ lep M w * (k P + 1)
    · rw [if_pos c]
      refine ⟨Nat.or_lt_two_pow (by omega) (by omega), fun p => ?_⟩
      rw [fb_bit_set, Bool.or_eq_true, decide_eq_true_eq, b p]
      constructor
      · rintro (⟨q1, q2⟩ | q)
        · exact ⟨by omega, q2⟩
        · subst q; exact ⟨by omega, c⟩
      · rintro ⟨q1, q2⟩
        by_cases e : p = P
        · exact Or.inr e
        · exact Or.inl ⟨by omega, q2⟩
    · rw [if_neg c]
      refine ⟨by omega, fun p => ?_⟩
      rw [b p]
      constructor
      · rintro ⟨q1, q2⟩; exact ⟨by omega, q2⟩
      · rintro ⟨q1, q2⟩
        by_cases e : p = P
        · subst e; exact absurd q2 c
        · exact ⟨by omega, q2⟩
theorem rnd_mono {M : Nat → Int32} (hw : WF M) {o o' v v' : Nat} (ho : o < 2 ^ 30) (ho' : o' < 2 ^ 30) (hoo : bsub o o') (hv : v < 2 ^ cP M) (hv' : v' < 2 ^ cP M) (hvv : bsub v v') : ∀ p, p ≤ cA M → ∃ u u', u < 2 ^ cP M ∧ u' < 2 ^ cP M ∧ rnd M (nI o) (nI v) p = nI u ∧ rnd M (nI o') (nI v') p = nI u' ∧ bsub u u' := by
  have hP := hw.lP
  have hA := hw.lA
  have h2P : 2 ^ cP M ≤ 2 ^ 8 := Nat.pow_le_pow_right (by decide) hP
  intro p
  induction p with
  | zero => intro _; exact ⟨v, v', hv, hv', rfl, rfl, hvv⟩
  | succ p ih =>
    intro hp
    obtain ⟨u, u', a, b, d, e, f⟩ := ih (by omega)
    obtain ⟨g, hg, eg⟩ := ends_nat hw (show p < cA M by omega)
    have b1 := bitI (v := o) (j := p) (by omega) (by omega)
    have b2 := bitI (v := o') (j := p) (by omega) (by omega)
    have z : ∀ t, t < 2 ^ cP M → (nI (t &&& g) = 0 ↔ t &&& g = 0) := fun t ht => by
      rw [show (0 : Int32) = nI 0 from rfl, nI_eq (Nat.lt_of_le_of_lt Nat.and_le_left (by omega)) (by decide)]
    have orlt : ∀ t, t < 2 ^ cP M → t ||| g < 2 ^ cP M := fun t ht => Nat.or_lt_two_pow ht hg
    have sub1 : bsub u (u' ||| g) := fun j hj => by rw [Nat.testBit_or, f j hj]; rfl
    have sub2 : bsub (u ||| g) (u' ||| g) := fun j hj => by
      rw [Nat.testBit_or, Bool.or_eq_true] at hj ⊢
      exact hj.imp (f j) id
    have hz : u' &&& g = 0 → u &&& g = 0 := by
      intro q
      apply Nat.eq_of_testBit_eq
      intro j
      rw [Nat.zero_testBit, Nat.testBit_and]
      cases h1 : u.testBit j
      · rfl
      · have h2 := f j h1
        have h3 : (u' &&& g).testBit j = false := by rw [q, Nat.zero_testBit]
        rw [Nat.testBit_and, h2, Bool.true_and] at h3
        rw [h3]; rfl
    rw [rnd, rnd, d, e, eg, fa_and, fa_and, fa_or, fa_or]
    by_cases c1 : (nI o >>> (nI p &&& 31)) &&& 1 = 1
    · have c2 := b2.mpr (hoo p (b1.mp c1))
      rw [if_pos c1, if_pos c2]
      by_cases d1 : u' &&& g = 0
      · rw [if_pos ((z u a).mpr (hz d1)), if_pos ((z u' b).mpr d1)]
        exact ⟨u, u', a, b, rfl, rfl, f⟩
      · rw [if_neg (fun q => d1 ((z u' b).mp q))]
        by_cases d2 : u &&& g = 0
        · rw [if_pos ((z u a).mpr d2)]
          exact ⟨u, u' ||| g, a, orlt u' b, rfl, rfl, sub1⟩
        · rw [if_neg (fun q => d2 ((z u a).mp q))]
          exact ⟨u ||| g, u' ||| g, orlt u a, orlt u' b, rfl, rfl, sub2⟩
    · rw [if_neg c1]
      by_cases c2 : (nI o' >>> (nI p &&& 31)) &&& 1 = 1
      · rw [if_pos c2]
        by_cases d1 : u' &&& g = 0
        · rw [if_pos ((z u' b).mpr d1)]
          exact ⟨u, u', a, b, rfl, rfl, f⟩
        · rw [if_neg (fun q => d1 ((z u' b).mp q))]
          exact ⟨u, u' ||| g, a, orlt u' b, rfl, rfl, sub1⟩
      · rw [if_neg c2]
        exact ⟨u, u', a, b, rfl, rfl, f⟩
theorem rch_mono {M : Nat → Int32} (hw : WF M) {o o' j : Nat} (ho : o < 2 ^ 30) (ho' : o' < 2 ^ 30) (hoo : bsub o o') (hj : j < cP M) : ∃ u u', u < 2 ^ cP M ∧ u' < 2 ^ cP M ∧ rch M (nI o) (nI j) = nI u ∧ rch M (nI o') (nI j) = nI u' ∧ bsub u u' := by
  have hP := hw.lP
  have key : ∀ k, ∃ u u', u < 2 ^ cP M ∧ u' < 2 ^ cP M ∧ itr M (nI o) ((1 : Int32) <<< (nI j &&& 31)) k = nI u ∧ itr M (nI o') ((1 : Int32) <<< (nI j &&& 31)) k = nI u' ∧ bsub u u' := by
    intro k
    induction k with
    | zero =>
      have hlt : 2 ^ j < 2 ^ cP M := Nat.pow_lt_pow_right (by decide) hj
      exact ⟨2 ^ j, 2 ^ j, hlt, hlt, shl1 j (by omega), shl1 j (by omega), fun _ q => q⟩
    | succ k ih =>
      obtain ⟨u, u', a, b, d, e, f⟩ := ih
      obtain ⟨r, r', a', b', d', e', f'⟩ := rnd_mono hw ho ho' hoo a b f (cA M) (Nat.le_refl _)
      exact ⟨r, r', a', b', by rw [itr, d]; exact d', by rw [itr, e]; exact e', f'⟩
  exact key 8
abbrev cmr (M : Nat → Int32) (w o t : Nat) : Prop := (rch M (nI o) (M (95 + 2 * w)) >>> (nI t &&& 31)) &&& 1 = 1
theorem cmr_mono {M : Nat → Int32} (hw : WF M) {w o o' t : Nat} (hk : w < cW M) (ht : t < cP M) (ho : o < 2 ^ 30) (ho' : o' < 2 ^ 30) (hoo : bsub o o') (h : cmr M w o t) : cmr M w o' t := by
  have hP := hw.lP
  have h2P : 2 ^ cP M ≤ 2 ^ 8 := Nat.pow_le_pow_right (by decide) hP
  obtain ⟨l, a, hl, ha, e1, e2⟩ := hw.walk hk
  obtain ⟨u, u', p1, p2, p3, p4, p5⟩ := rch_mono hw ho ho' hoo ha
  unfold cmr at h ⊢
  rw [e2, p3, bitI (by omega) (by omega)] at h
  rw [e2, p4, bitI (by omega) (by omega)]
  exact p5 t h
/-- all of these walkers come -/
def CC0 (M : Nat → Int32) (fw bw t : Nat) (k : Nat → Nat) : Prop := ∀ w, fw ≤ w → w < bw → cmr M w (opw M k w (cA M)) t
theorem CC0_mono {M : Nat → Int32} (hw : WF M) {fw bw t : Nat} (hb : bw ≤ cW M) (ht : t < cP M) {k l : Nat → Nat} (hkl : ∀ i, i < cA M → k i ≤ l i) (h : CC0 M fw bw t k) : CC0 M fw bw t l := by
  have hA := hw.lA
  have h2 : 2 ^ cA M ≤ 2 ^ 10 := Nat.pow_le_pow_right (by decide) hA
  intro w h1 h2'
  have o1 := opw_bit (M := M) (k := k) (w := w) (cA M)
  have o2 := opw_bit (M := M) (k := l) (w := w) (cA M)
  refine cmr_mono hw (by omega) ht (by omega) (by omega) (fun j hj => ?_) (h w h1 h2')
  rw [o1.2] at hj
  rw [o2.2]
  exact ⟨hj.1, Nat.le_trans hj.2 (Nat.mul_le_mul_left _ (by have := hkl j hj.1; omega))⟩
abbrev ned (M : Nat → Int32) (w p : Nat) : Int32 := lcF (drn M p) 0 (lep M w)
theorem ned_nat {M : Nat → Int32} (hw : WF M) {w p : Nat} (hp : p < cA M) {k : Nat} (hk : k ≤ 7) : ∃ q, q ≤ 1000000 ∧ ned M w p = nI q ∧ (k < q ↔ ¬ drn M p ≤ lep M w * (k + 1)) := by
  obtain ⟨d, hd, ed⟩ := drp_nat hw hp
  have edn : drn M p = d := by rw [drn, ed, nI_clamp (by omega)]
  have hiff := lcn_iff (d := d) (k := 0) (n := lep M w) (q := k)
  rw [show 0 + k + 1 = k + 1 by omega] at hiff
  unfold ned lcF
  rw [edn, ← hiff]
  cases e : lcn d 0 (lep M w) with
  | none =>
    refine ⟨1000000, Nat.le_refl _, rfl, fun _ => ?_, fun _ => by omega⟩
    rintro ⟨t, h1, -⟩
    cases h1
  | some t =>
    refine ⟨t, by have := lcn_le e hd; omega, rfl, ?_, ?_⟩
    · rintro h1 ⟨t', h2, h3⟩
      cases h2
      omega
    · intro h1
      apply Classical.byContradiction
      intro h2
      exact h1 ⟨t, rfl, by omega⟩
section SJC
variable {E : EN} {n c : Nat} {S S' : WS} {x : Nat} {M : Nat → Int32} {fw bw t : Nat} {y : Int32}
def JI0 (c x : Nat) (M : Nat → Int32) (fw bw t : Nat) (y : Int32) (S : WS) : Prop := gr S 0 (c + 58) = some (c + x) ∧ gi S 1 (c + 58) = nI fw ∧ gi S 2 (c + 58) = nI bw ∧ gi S 3 (c + 58) = nI t ∧ gi S 4 (c + 58) = y ∧ (∀ w p, fw ≤ w → w < bw → p < cA M → ai S (c + 72) (w * 10 + p) = ned M w p) ∧ ∀ w o, fw ≤ w → w < bw → o < 1024 → ai S (c + 73) (w * 1024 + o) = 0 ∨ (ai S (c + 73) (w * 1024 + o) = 1 ∧ cmr M w o t) ∨ (ai S (c + 73) (w * 1024 + o) = 2 ∧ ¬ cmr M w o t)
noncomputable def ab0 (M : Nat → Int32) (y : Int32) (s b i : Nat) : Nat := if wst M s (nI b) (nI i) y then 1 else 0
theorem JI0.ch (h : JI0 c x M fw bw t y S) (k : CH c S S') : JI0 c x M fw bw t y S' := by
  obtain ⟨a1, a2, a3, a4, a5, a6, a7⟩ := h
  refine ⟨(k.1 _ _).trans a1, (k.2.1 _ _ (by omega)).trans a2, (k.2.1 _ _ (by omega)).trans a3, (k.2.1 _ _ (by omega)).trans a4, (k.2.1 _ _ (by omega)).trans a5, fun w p h1 h2 h3 => ?_, fun w o h1 h2 h3 => ?_⟩
  · rw [k.2.2 _ (by omega)]; exact a6 w p h1 h2 h3
  · rw [k.2.2 _ (by omega)]; exact a7 w o h1 h2 h3
theorem Inv.g5 (h : Inv E c S x M) : gr S 5 (c + 58) = some (c + 72) := h.s.g 5 58 72 (by decide)
theorem Inv.g6 (h : Inv E c S x M) : gr S 6 (c + 58) = some (c + 73) := h.s.g 6 58 73 (by decide)
theorem Inv.l72 (h : Inv E c S x M) : eN E (c + 72) = 40 := h.L.at 72 40 (by decide) (by decide)
theorem Inv.l73 (h : Inv E c S x M) : eN E (c + 73) = 4096 := h.L.at 73 4096 (by decide) (by decide)
theorem nb1 : vp_nar .byte ((1 : Int32).toInt8.toInt32) = 1 := (pk_vb 1).trans (by decide)
theorem nb2 : vp_nar .byte ((2 : Int32).toInt8.toInt32) = 2 := (pk_vb 2).trans (by decide)
theorem e_X0_come_L19 (hn : 20 ≤ n) (k5 : WS → Nat → Int64 → Int32 → Option (Int32 × WS)) {kk : Nat → Nat} (hk : ∀ i, i < cA M → kk i ≤ 7) (h : Inv E c S x M) (hJ : JI0 c x M fw bw t y S) (hb : bw ≤ cW M) (ht : t < cP M) {w : Nat} (h1 : fw ≤ w) (h2 : w < bw) : ∃ S', KP c S S' ∧ CJ c S S' ∧ JI0 c x M fw bw t y S' ∧ f_X0_allCome_L19 E n k5 n S (c + 58) (lN (pkf (cA M) kk)) (nI w) 0 0 = @ite _ (cmr M w (opw M kk w (cA M)) t) (Classical.propDecidable _) (k5 S' (c + 58) (lN (pkf (cA M) kk)) (nI (w + 1))) (some (0, S')) := by
  have hA := h.w.lA
  have hP := h.w.lP
  have hW := h.w.lW
  have h2A : 2 ^ cA M ≤ 2 ^ 10 := Nat.pow_le_pow_right (by decide) hA
  obtain ⟨j1, j2, j3, j4, j5, j6, j7⟩ := hJ
  refine lp (N := cA M) (P := fun p m => ∃ S', KP c S S' ∧ CJ c S S' ∧ JI0 c x M fw bw t y S' ∧ f_X0_allCome_L19 E n k5 m S (c + 58) (lN (pkf (cA M) kk)) (nI w) (nI (opw M kk w p)) (nI p) = @ite _ (cmr M w (opw M kk w (cA M)) t) (Classical.propDecidable _) (k5 S' (c + 58) (lN (pkf (cA M) kk)) (nI (w + 1))) (some (0, S'))) ?_ ?_ (cA M) 0 n (by omega) (by omega)
  · intro m
    have o1 := (opw_bit (M := M) (k := kk) (w := w) (cA M)).1
    obtain ⟨o, ho⟩ : ∃ o, o = opw M kk w (cA M) := ⟨_, rfl⟩
    rw [← ho] at o1 ⊢
    obtain ⟨l, a, hl, ha, e1, e2⟩ := h.w.walk (show w < cW M by omega)
    have ix : nI w * (1024 : Int32) + nI o = nI (w * 1024 + o) := by
      show nI w * nI 1024 + nI o = _; rw [pk_mul, nI_add]
    have cm : cmr M w o t ↔ (rch M (nI o) (nI a) >>> (nI t &&& 31)) &&& 1 = 1 := by unfold cmr; rw [e2]
    simp only [f_X0_allCome_L19, j1, obs, h.m.i131, h.w.t2, if_true, lts, ix, h.g6, h.l73, nI_clamp (show w * 1024 + o < 2 ^ 31 by omega), ifn (rinc (show w * 1024 + o < 4096 by omega) (show 4096 < 2 ^ 31 by omega)), nI_1]
    rcases j7 w o h1 h2 (by omega) with q | ⟨q, qc⟩ | ⟨q, qc⟩
    · rw [q, if_pos rfl]
      simp only [h.m.g146, obs, h.m.n12, nI_clamp (show w < 2 ^ 31 by omega), ifn (rinc (show w < 4 by omega) (show 4 < 2 ^ 31 by omega)), (h.m.hk w (by omega)).2, e2, e_X3_placesFrom h.m h.w (show 11 ≤ n by omega) _ ha, bds, j4, nb1, nb2, h.g6, h.l73, nI_clamp (show w * 1024 + o < 2 ^ 31 by omega), ifn (rinc (show w * 1024 + o < 4096 by omega) (show 4096 < 2 ^ 31 by omega)), lts]
      have gen : ∀ v : Int32, ((v = 1 ∧ cmr M w o t) ∨ (v = 2 ∧ ¬ cmr M w o t)) → KP c S (wi S (c + 73) (upd (ai S (c + 73)) (w * 1024 + o) v)) ∧ CJ c S (wi S (c + 73) (upd (ai S (c + 73)) (w * 1024 + o) v)) ∧ JI0 c x M fw bw t y (wi S (c + 73) (upd (ai S (c + 73)) (w * 1024 + o) v)) ∧ gr (wi S (c + 73) (upd (ai S (c + 73)) (w * 1024 + o) v)) 6 (c + 58) = some (c + 73) ∧ ai (wi S (c + 73) (upd (ai S (c + 73)) (w * 1024 + o) v)) (c + 73) (w * 1024 + o) = v := by
        intro v hv
        refine ⟨KP.wi (by unfold ka; omega), ⟨fun _ _ => rfl, fun _ _ => rfl, fun q hq => ai_wi_a hq, fun _ => rfl⟩, ⟨j1, j2, j3, j4, j5, fun w' p a1 a2 a3 => by rw [ai_wi_a (by omega)]; exact j6 w' p a1 a2 a3, fun w' o' a1 a2 a3 => ?_⟩, h.g6, by rw [ai_wi, pk_us]⟩
        rw [ai_wi]
        by_cases e : w' * 1024 + o' = w * 1024 + o
        · have ew : w' = w := by omega
          have eo : o' = o := by omega
          subst ew; subst eo
          rw [pk_us]; exact Or.inr hv
        · rw [pk_un e]; exact j7 w' o' a1 a2 a3
      by_cases cc : cmr M w o t
      · obtain ⟨g1, g2, g3, g4, g5⟩ := gen 1 (Or.inl ⟨rfl, cc⟩)
        refine ⟨wi S (c + 73) (upd (ai S (c + 73)) (w * 1024 + o) 1), g1, g2, g3, ?_⟩
        rw [if_pos (cm.mp cc), if_pos cc, g4, obs, h.l73, ifn (rinc (show w * 1024 + o < 4096 by omega) (show 4096 < 2 ^ 31 by omega)), g5, if_neg (by decide)]
      · obtain ⟨g1, g2, g3, g4, g5⟩ := gen 2 (Or.inr ⟨rfl, cc⟩)
        refine ⟨wi S (c + 73) (upd (ai S (c + 73)) (w * 1024 + o) 2), g1, g2, g3, ?_⟩
        rw [if_neg (fun z => cc (cm.mpr z)), if_neg cc, g4, obs, h.l73, ifn (rinc (show w * 1024 + o < 4096 by omega) (show 4096 < 2 ^ 31 by omega)), g5, if_pos rfl]
    · refine ⟨S, KP.rf, ⟨fun _ _ => rfl, fun _ _ => rfl, fun _ _ => rfl, fun _ => rfl⟩, ⟨j1, j2, j3, j4, j5, j6, j7⟩, ?_⟩
      rw [q, if_neg (by decide), if_neg (by decide), if_pos qc]
    · refine ⟨S, KP.rf, ⟨fun _ _ => rfl, fun _ _ => rfl, fun _ _ => rfl, fun _ => rfl⟩, ⟨j1, j2, j3, j4, j5, j6, j7⟩, ?_⟩
      rw [q, if_neg (by decide), if_pos rfl, if_neg qc]
  · intro p m hp ih
    have o1 := (opw_bit (M := M) (k := kk) (w := w) p).1
    obtain ⟨q, hq, eq, hiff⟩ := ned_nat h.w (w := w) hp (hk p hp)
    have ix : nI w * (10 : Int32) + nI p = nI (w * 10 + p) := by
      show nI w * nI 10 + nI p = _; rw [pk_mul, nI_add]
    have h7 := hk p hp
    simp only [f_X0_allCome_L19, j1, obs, h.m.i131, h.w.f2 hp, if_false, h.g5, h.l72, ix, nI_clamp (show w * 10 + p < 2 ^ 31 by omega), ifn (rinc (show w * 10 + p < 40 by omega) (show 40 < 2 ^ 31 by omega)), j6 w p h1 h2 hp, eq, nI_l (show q < 2 ^ 31 by omega), pkf_x (show cA M ≤ 20 by omega) hp hk, lts, nI_1]
    rw [opw] at ih
    by_cases d : kk p < q
    · rw [if_pos (lcm_lt.mpr ((pk_lLT (by omega) (by omega)).mpr d))]
      rw [if_neg (hiff.mp d)] at ih
      exact ih
    · rw [if_neg (fun z => d ((pk_lLT (by omega) (by omega)).mp (lcm_lt.mp z))), shl1 p (by omega), fa_or]
      rw [if_pos (Classical.byContradiction fun z => d (hiff.mpr z))] at ih
      exact ih
theorem e_X0_allCome (hn : 20 ≤ n) {kk : Nat → Nat} (hk : ∀ i, i < cA M → kk i ≤ 7) (h : Inv E c S x M) (hJ : JI0 c x M fw bw t y S) (hfb : fw ≤ bw) (hb : bw ≤ cW M) (ht : t < cP M) : ∃ S', KP c S S' ∧ CJ c S S' ∧ JI0 c x M fw bw t y S' ∧ f_X0_allCome E n S (c + 58) (lN (pkf (cA M) kk)) = some (b2i (CC0 M fw bw t kk), S') := by
  have hW := h.w.lW
  have key := lp (N := bw) (P := fun w m => fw ≤ w → ∀ S, Inv E c S x M → JI0 c x M fw bw t y S → (∀ w', fw ≤ w' → w' < w → cmr M w' (opw M kk w' (cA M)) t) → ∃ S', KP c S S' ∧ CJ c S S' ∧ JI0 c x M fw bw t y S' ∧ f_X0_allCome_L5 E n m S (c + 58) (lN (pkf (cA M) kk)) (nI w) = some (b2i (CC0 M fw bw t kk), S')) ?_ ?_ (bw - fw) fw n (by omega) (by omega) (Nat.le_refl _) S h hJ (fun w' q1 q2 => by omega)
  · obtain ⟨S', e1, e2, e3, e4⟩ := key
    refine ⟨S', e1, e2, e3, ?_⟩
    simp only [f_X0_allCome, hJ.2.1, lts]
    exact e4
  · intro m _ S h hJ hq
    refine ⟨S, KP.rf, ⟨fun _ _ => rfl, fun _ _ => rfl, fun _ _ => rfl, fun _ => rfl⟩, hJ, ?_⟩
    simp only [f_X0_allCome_L5, hJ.2.2.1]
    rw [if_pos (nI_le (Nat.le_refl _) (by omega)), b2i_t (show CC0 M fw bw t kk from hq)]
  · intro w m hwb ih hfw S h hJ hq
    obtain ⟨S1, e1, e2, e3, e4⟩ := e_X0_come_L19 (n := n) hn (f_X0_allCome_L5 E n m) hk h hJ hb ht hfw hwb
    simp only [f_X0_allCome_L5, hJ.2.2.1]
    rw [if_neg (nI_ge hwb (by omega)), e4]
    by_cases d : cmr M w (opw M kk w (cA M)) t
    · rw [if_pos d]
      obtain ⟨S2, f1, f2, f3, f4⟩ := ih (by omega) S1 (h.kp e1) e3 (fun w' q1 q2 => by
        by_cases e : w' = w
        · subst e; exact d
        · exact hq w' q1 (by omega))
      exact ⟨S2, e1.tr f1, ⟨fun f q => (f2.1 f q).trans (e2.1 f q), fun f q => (f2.2.1 f q).trans (e2.2.1 f q), fun q hq => (f2.2.2.1 q hq).trans (e2.2.2.1 q hq), fun q => (f2.2.2.2 q).trans (e2.2.2.2 q)⟩, f3, f4⟩
    · rw [if_neg d]
      refine ⟨S1, e1, e2, e3, ?_⟩
      rw [b2i_f (show ¬ CC0 M fw bw t kk from fun q => d (q w hfw hwb))]
theorem jc0 (hw : WF M) (hn : 20 ≤ n) (hK : eK E (c + 58) = 0) (hfb : fw ≤ bw) (hb : bw ≤ cW M) (ht : t < cP M) : JC E n c (c + 58) (cA M) x M (ab0 M y) (JI0 c x M fw bw t y) (CC0 M fw bw t) := by
  have hA := hw.lA
  refine ⟨by omega, fun s b i => by unfold ab0; split <;> omega, fun S S' j k => j.ch k, fun S s b h j hs hb => ?_, fun S lo hi h j hlh => ?_⟩
  · have hB := h.w.lB
    obtain ⟨p, yy, hp, hy, ep, ey⟩ := h.w.2.2.2.2.2.2.2.2.1 b hb
    obtain ⟨j1, j2, j3, j4, j5, j6, j7⟩ := j
    unfold f_A_addedBy
    rw [if_pos hK]
    simp only [f_X0_addedBy, h.m.g138, obs, h.m.n4, nI_clamp (show b < 2 ^ 31 by omega), ifn (rinc (show b < 4 by omega) (show 4 < 2 ^ 31 by omega)), (h.m.hb b hb).1, ep, lts, j5, e_X3_wouldStep h.m h.w hs, bds]
    by_cases q : wst M s (nI b) (nI p) y
    · rw [ifb1 q, ix3m, sh1 p (by omega), ← pkf_one (cA M) p hp]
      refine congrArg some (Prod.ext (congrArg lN (pkf_cong _ fun i hi => ?_)) rfl)
      unfold ab0
      by_cases e : i = p
      · subst e; rw [if_pos rfl, if_pos q]
      · rw [if_neg e, if_neg]
        intro q2
        have e2 := ((wst_iff h.w hb (nI i) y).mp q2).1
        rw [ep, nI_eq (by omega) (by omega)] at e2
        exact e e2.symm
    · rw [ifb0 q]
      refine congrArg some (Prod.ext ?_ rfl)
      show (0 : Int64) = lN (pkf (cA M) (ab0 M y s b))
      have : pkf (cA M) (ab0 M y s b) = 0 := by
        rw [← pkf_0 (cA M)]
        refine pkf_cong _ fun i hi => ?_
        unfold ab0
        rw [if_neg]
        intro q2
        have e2 := ((wst_iff h.w hb (nI i) y).mp q2).1
        rw [ep, nI_eq (by omega) (by omega)] at e2
        subst e2
        exact q q2
      rw [this]; rfl
  · obtain ⟨S1, e1, e2, e3, e4⟩ := e_X0_allCome (n := n) hn (kk := lo) (fun i hi => by have := hlh i hi; omega) h j hfb hb ht
    obtain ⟨S2, f1, f2, f3, f4⟩ := e_X0_allCome (n := n) hn (kk := hi) (fun i hi => (hlh i hi).2) (h.kp e1) e3 hfb hb ht
    have tr : CJ c S S2 := ⟨fun f q => (f2.1 f q).trans (e2.1 f q), fun f q => (f2.2.1 f q).trans (e2.2.1 f q), fun q hq => (f2.2.2.1 q hq).trans (e2.2.2.1 q hq), fun q => (f2.2.2.2 q).trans (e2.2.2.2 q)⟩
    unfold f_A_judge
    rw [if_pos hK]
    simp only [f_X0_judge, e4, bds]
    by_cases q : CC0 M fw bw t lo
    · rw [ifb1 q]
      exact ⟨1, S1, rfl, e1, e2, e3, Or.inl ⟨rfl, fun k hk => CC0_mono hw hb ht (fun i hi => (hk i hi).1) q⟩⟩
    · rw [ifb0 q, f4, bds]
      by_cases q2 : CC0 M fw bw t hi
      · rw [ifb1 q2]
        refine ⟨2, S2, rfl, e1.tr f1, tr, f3, Or.inr (Or.inr ⟨rfl, ?_⟩)⟩
        apply Classical.byContradiction
        intro z
        exact q (CC0_mono hw hb ht (fun i hi => by
          apply Classical.byContradiction
          intro z2
          exact z ⟨i, hi, fun e => by omega⟩) q2)
      · rw [ifb0 q2]
        exact ⟨0, S2, rfl, e1.tr f1, tr, f3, Or.inr (Or.inl ⟨rfl, fun k hk z => q2 (CC0_mono hw hb ht (fun i hi => (hk i hi).2) z)⟩)⟩
theorem e_X0_aimAt (h : Inv E c S x M) (hn : 5000 ≤ n) (hfb : fw ≤ bw) (hb : bw ≤ cW M) : ∃ S', f_X0_aimAt E n S (c + 58) (c + x) (nI fw) (nI bw) (nI t) y = some ((), S') ∧ KP c S S' ∧ JI0 c x M fw bw t y S' := by
  have hA := h.w.lA
  have hW := h.w.lW
  obtain ⟨S5, hS5⟩ : ∃ S5, S5 = si (si (si (si (sr S 0 (c + 58) (some (c + x))) 1 (c + 58) (nI fw)) 2 (c + 58) (nI bw)) 3 (c + 58) (nI t)) 4 (c + 58) y := ⟨_, rfl⟩
  have k5 : KP c S S5 := by rw [hS5]; exact ((((KP.sr (Or.inr rfl)).tr (KP.si (by unfold kf; omega))).tr (KP.si (by unfold kf; omega))).tr (KP.si (by unfold kf; omega))).tr (KP.si (by unfold kf; omega))
  have i5 := h.kp k5
  obtain ⟨g, p1, p2, p3⟩ := e_fillB (E := E) (n := n) (S := S5) (v := 0) h.l73 (by decide) (by omega)
  obtain ⟨S7, hS7⟩ : ∃ S7, S7 = wi S5 (c + 73) g := ⟨_, rfl⟩
  rw [← hS7] at p3
  have k7 : KP c S5 S7 := by rw [hS7]; exact KP.wi (by unfold ka; omega)
  have i7 := i5.kp k7
  have g0 : gr S7 0 (c + 58) = some (c + x) := by rw [hS7, hS5]; exact gr_sr_eq
  -- the rows: all of the walkers before w, of w the first p
  have L47 : ∀ k38 : WS → Nat → Int32 → Int32 → Option (Unit × WS), ∀ w, fw ≤ w → w < bw → ∀ S, Inv E c S x M → gr S 0 (c + 58) = some (c + x) → ∃ g, (∀ p, p < cA M → g (w * 10 + p) = ned M w p) ∧ (∀ i, (i < w * 10 ∨ w * 10 + 10 ≤ i) → g i = ai S (c + 72) i) ∧ f_X0_aimAt_L47 E n k38 n S (c + 58) (nI bw) (nI w) 0 = k38 (wi S (c + 72) g) (c + 58) (nI bw) (nI (w + 1)) := by
    intro k38 w h1 h2 S h g0
    obtain ⟨l, a, hl, ha, e1, e2⟩ := h.w.walk (show w < cW M by omega)
    have el : lep M w = l := by rw [lep, e1, nI_clamp (by omega)]
    have key := lp (N := cA M) (P := fun p m => ∀ g, (∀ q, q < p → g (w * 10 + q) = ned M w q) → (∀ i, (i < w * 10 ∨ w * 10 + 10 ≤ i) → g i = ai S (c + 72) i) → ∃ g', (∀ p, p < cA M → g' (w * 10 + p) = ned M w p) ∧ (∀ i, (i < w * 10 ∨ w * 10 + 10 ≤ i) → g' i = ai S (c + 72) i) ∧ f_X0_aimAt_L47 E n k38 m (wi S (c + 72) g) (c + 58) (nI bw) (nI w) (nI p) = k38 (wi S (c + 72) g') (c + 58) (nI bw) (nI (w + 1))) ?_ ?_ (cA M) 0 n (by omega) (by omega) (ai S (c + 72)) (fun q hq => by omega) (fun _ _ => rfl)
    · rw [wi_self rfl] at key
      exact key
    · intro m g q1 q2
      have ii := h.kp (KP.wi (c := c) (S := S) (a := c + 72) (g := g) (by unfold ka; omega))
      have gg : gr (wi S (c + 72) g) 0 (c + 58) = some (c + x) := g0
      refine ⟨g, q1, q2, ?_⟩
      simp only [f_X0_aimAt_L47, gg, obs, ii.m.i131, h.w.t2, if_true, lts, nI_1]
    · intro p m hp ih g q1 q2
      have ii := h.kp (KP.wi (c := c) (S := S) (a := c + 72) (g := g) (by unfold ka; omega))
      have gg : gr (wi S (c + 72) g) 0 (c + 58) = some (c + x) := g0
      obtain ⟨d, hd, ed⟩ := drp_nat h.w hp
      have edn : drn M p = d := by rw [drn, ed, nI_clamp (by omega)]
      have ix : nI w * (10 : Int32) + nI p = nI (w * 10 + p) := by
        show nI w * nI 10 + nI p = _; rw [pk_mul, nI_add]
      have hlk : f_X8_lacking E n (wi S (c + 72) g) (nI d) 0 (nI l) = some (lcI d 0 l, wi S (c + 72) g) := e_X8_lacking (k := 0) hd (by omega) hl
      have next := ih (upd g (w * 10 + p) (ned M w p)) (fun q hq => by
        by_cases e : q = p
        · subst e; rw [pk_us]
        · rw [pk_un (by omega)]; exact q1 q (by omega)) (fun i hi => by rw [pk_un (by omega)]; exact q2 i hi)
      simp only [f_X0_aimAt_L47, gg, obs, ii.m.i131, h.w.f2 hp, if_false, e_X3_dropOf ii.m h.w hp, ed, bds, ii.m.g145, h.m.n11, nI_clamp (show w < 2 ^ 31 by omega), ifn (rinc (show w < 4 by omega) (show 4 < 2 ^ 31 by omega)), (ii.m.hk w (by omega)).1, e1, hlk, ii.g5, h.l72, ix, nI_clamp (show w * 10 + p < 2 ^ 31 by omega), ifn (rinc (show w * 10 + p < 40 by omega) (show 40 < 2 ^ 31 by omega)), lts, nI_1, ai_wi, wi_wi]
      rw [ned, edn, el] at next
      unfold lcI
      unfold lcF at next
      cases e : lcn d 0 l with
      | none =>
        rw [e] at next
        simp only [if_true] at next ⊢
        exact next
      | some q =>
        have hq := lcn_le e hd
        rw [e] at next
        simp only [] at next ⊢
        rw [if_neg (nIm1 (by omega))]
        exact next
  have fin := lp (N := bw) (P := fun w m => fw ≤ w → ∀ S, Inv E c S x M → gr S 0 (c + 58) = some (c + x) → (∀ w' p, fw ≤ w' → w' < w → p < cA M → ai S (c + 72) (w' * 10 + p) = ned M w' p) → ∃ g', (∀ w' p, fw ≤ w' → w' < bw → p < cA M → g' (w' * 10 + p) = ned M w' p) ∧ f_X0_aimAt_L38 E n m S (c + 58) (nI bw) (nI w) = some ((), wi S (c + 72) g')) ?_ ?_ (bw - fw) fw n (by omega) (by omega) (Nat.le_refl _) S7 i7 g0 (fun w' p q1 q2 => by omega)
  · obtain ⟨g', r1, r2⟩ := fin
    refine ⟨wi S7 (c + 72) g', ?_, (k5.tr k7).tr (KP.wi (by unfold ka; omega)), g0, ?_, ?_, ?_, ?_, fun w p q1 q2 q3 => by rw [ai_wi]; exact r1 w p q1 q2 q3, fun w o q1 q2 q3 => Or.inl ?_⟩
    · simp only [f_X0_aimAt, lts]
      rw [← hS5]
      simp only [i5.g6, obs, p3, bds]
      exact r2
    · rw [gi_wi, hS7, gi_wi, hS5, gi_si_f (by decide), gi_si_f (by decide), gi_si_f (by decide), gi_si_eq]
    · rw [gi_wi, hS7, gi_wi, hS5, gi_si_f (by decide), gi_si_f (by decide), gi_si_eq]
    · rw [gi_wi, hS7, gi_wi, hS5, gi_si_f (by decide), gi_si_eq]
    · rw [gi_wi, hS7, gi_wi, hS5, gi_si_eq]
    · rw [ai_wi_a (by omega), hS7, ai_wi, p1 _ (by omega)]
      decide
  · intro m _ S h g0 hq
    refine ⟨ai S (c + 72), hq, ?_⟩
    rw [wi_self rfl]
    simp only [f_X0_aimAt_L38]
    rw [if_pos (nI_le (Nat.le_refl _) (by omega))]
  · intro w m hwb ih hfw S h g0 hq
    obtain ⟨g, r1, r2, r3⟩ := L47 (f_X0_aimAt_L38 E n m) w hfw hwb S h g0
    simp only [f_X0_aimAt_L38]
    rw [if_neg (nI_ge hwb (by omega)), r3]
    obtain ⟨g', s1, s2⟩ := ih (by omega) (wi S (c + 72) g) (h.kp (KP.wi (by unfold ka; omega))) g0 (fun w' p q1 q2 q3 => by
      rw [ai_wi]
      by_cases e : w' = w
      · subst e; exact r1 p q3
      · rw [r2 _ (by omega)]; exact hq w' p q1 (by omega) q3)
    rw [wi_wi] at s2
    exact ⟨g', s1, s2⟩
end SJC
