/-! The class's search, whole: seek -/
section SEK
variable {E : EN} {n c hc F : Nat} {S S' : WS} {x : Nat} {M : Nat → Int32} {ab : Nat → Nat → Nat → Nat} {J : WS → Prop} {CC : (Nat → Nat) → Prop}
theorem ix5m (s : Nat) : nI s * (5 : Int32) = nI (s * 5) := pk_mul s 5
theorem e_X5_addsOf (h : Inv E c S x M) (hn : 20 ≤ n) (hJ : JC E n c hc F x M ab J CC) (jS : J S) {s : Nat} (hs : s < cS M) : ∃ g, f_X5_addsOf E n S (c + 50) (c + x) hc (nI s) = some (lN (pkf F (orb M ab s (cB M))), wj S (c + 52) g) ∧ (∀ v, alw M s v → g (s * 5 + v) = lN (pkf F (abc ab s v))) ∧ ∀ i, i < s * 5 ∨ s * 5 + 5 ≤ i → g i = aj S (c + 52) i := by
  obtain ⟨hF, hab, hst, hadd, -⟩ := hJ
  have hS := h.w.lS
  have hB := h.w.lB
  have z0 : pkf F (abc ab s 0) = 0 := (pkf_cong F (fun i hi => if_pos rfl)).trans (pkf_0 F)
  have zo : pkf F (orb M ab s 0) = 0 := (pkf_cong F (fun i hi => rfl)).trans (pkf_0 F)
  have key := lp (N := cB M) (P := fun b k => ∀ g, (∀ v, v < b + 1 → alw M s v → g (s * 5 + v) = lN (pkf F (abc ab s v))) → (∀ i, i < s * 5 ∨ s * 5 + 5 ≤ i → g i = aj S (c + 52) i) → ∃ g', f_X5_addsOf_L15 E n k (wj S (c + 52) g) (c + 50) (c + x) hc (nI s) (lN (pkf F (orb M ab s b))) (nI b) = some (lN (pkf F (orb M ab s (cB M))), wj S (c + 52) g') ∧ (∀ v, v < cB M + 1 → alw M s v → g' (s * 5 + v) = lN (pkf F (abc ab s v))) ∧ ∀ i, i < s * 5 ∨ s * 5 + 5 ≤ i → g' i = aj S (c + 52) i) ?_ ?_ (cB M) 0 n (by omega) (by omega) (vp_updL (aj S (c + 52)) (s * 5) 0) (fun v hv _ => by
    have e : v = 0 := by omega
    subst e
    rw [z0]; exact pk_uLs) (fun i hi => pk_uLn (by omega))
  · obtain ⟨g, e1, e2, e3⟩ := key
    refine ⟨g, ?_, fun v hv => e2 v ?_ hv, e3⟩
    · simp only [f_X5_addsOf, h.g258, obs, h.l52, ix5m, nI_clamp (show s * 5 < 2 ^ 31 by omega), ifn (rinc (show s * 5 < 35 by omega) (show 35 < 2 ^ 31 by omega)), lts]
      rw [zo] at e1
      exact e1
    · by_cases q : v = 0
      · omega
      · have := alw_b h.w hs (b := v - 1) (by rw [show v - 1 + 1 = v by omega]; exact hv)
        omega
  · intro k g h1 h2
    refine ⟨g, ?_, h1, h2⟩
    have i1 := h.kp (KP.wj (c := c) (S := S) (a := c + 52) (g := g) (Or.inl (by unfold ka; omega)))
    simp only [f_X5_addsOf_L15, i1.m.i132, h.w.t3, if_true]
  · intro b k hb ih g h1 h2
    have kk : KP c S (wj S (c + 52) g) := KP.wj (Or.inl (by unfold ka; omega))
    have i1 := h.kp kk
    have hc1 : CH c S (wj S (c + 52) g) := ⟨fun _ _ => rfl, fun _ _ _ => rfl, fun _ _ => rfl⟩
    simp only [f_X5_addsOf_L15, i1.m.i132, h.w.f3 hb, if_false, e_X3_isFor i1.m h.w, bds, lts, nI_1]
    by_cases a : alw M s (b + 1)
    · have hf := (alw_for h.w hs hb).mp a
      rw [ifb1 hf, hadd _ s b i1 (hst _ _ jS hc1) hs hb, bds]
      simp only [i1.g258, obs, h.l52, ix5m, nI_add, nI_1, nI_clamp (show s * 5 + b + 1 < 2 ^ 31 by omega), ifn (rinc (show s * 5 + b + 1 < 35 by omega) (show 35 < 2 ^ 31 by omega)), aj_wj, wj_wj, fb_orL]
      rw [pkf_or F (fun i hi => orb_le b) (fun i hi => hab s b i), show pkf F (fun i => if orb M ab s b i = 1 ∨ ab s b i = 1 then 1 else 0) = pkf F (orb M ab s (b + 1)) from pkf_cong F (fun i hi => by rw [orb, if_pos a])]
      refine ih _ (fun v hv hv2 => ?_) (fun i hi => ?_)
      · by_cases e : v = b + 1
        · subst e
          rw [show s * 5 + (b + 1) = s * 5 + b + 1 by omega, pk_uLs]
          exact congrArg lN (pkf_cong F (fun i hi => by rw [abc, if_neg (by omega), Nat.add_sub_cancel]))
        · rw [pk_uLn (by omega)]; exact h1 v (by omega) hv2
      · rw [pk_uLn (by omega)]; exact h2 i hi
    · rw [ifb0 (fun q => a ((alw_for h.w hs hb).mpr q)), show pkf F (orb M ab s b) = pkf F (orb M ab s (b + 1)) from pkf_cong F (fun i hi => by rw [orb, if_neg a])]
      refine ih g (fun v hv hv2 => ?_) h2
      by_cases e : v = b + 1
      · subst e; exact absurd hv2 a
      · exact h1 v (by omega) hv2
def SSp (c F : Nat) (M : Nat → Int32) (ab : Nat → Nat → Nat → Nat) (s : Nat) (S : WS) : Prop := gi S 256 (c + 50) = nI (cS M) ∧ (∀ i, s ≤ i → i < cS M → ai S (c + 51) i = nI (chs M i)) ∧ (∀ i v, s ≤ i → i < cS M → alw M i v → aj S (c + 52) (i * 5 + v) = lN (pkf F (abc ab i v))) ∧ (∀ k d, s ≤ d → d + k = cS M → aj S (c + 53) d = lN (pkf F (mst M ab k d))) ∧ ∀ k d, s ≤ d → d + k = cS M → ai S (c + 54) d = nI (cml M k d)
abbrev B00 : BW := (0, 0, 0, (fun _ => 0), (fun _ => 0))
theorem e_X5_seek_L66 (hn : 20 ≤ n) (hJ : JC E n c hc F x M ab J CC) : ∀ s, s ≤ cS M → ∀ m, s < m → ∀ S, Inv E c S x M → J S → SSp c F M ab s S → CBr c M B00 S → ∃ S1, KP c S S1 ∧ J S1 ∧ SS c F M ab S1 ∧ CBr c M B00 S1 ∧ f_X5_seek_L66 E n m S (c + 50) (c + x) hc (nI s - 1) = (bd (f_X5_chooseOn E n 12 S1 (c + 50) hc 0 0 0 0) fun _ S => some ((), S)) := by
  intro s
  induction s with
  | zero =>
    intro _ m hm S h jS hS hB
    obtain ⟨m, rfl⟩ : ∃ q, m = q + 1 := ⟨m - 1, by omega⟩
    refine ⟨S, KP.rf, jS, ⟨hS.1, fun i hi => hS.2.1 i (Nat.zero_le _) hi, fun i v hi hv => hS.2.2.1 i v (Nat.zero_le _) hi hv, fun k d hd => hS.2.2.2.1 k d (Nat.zero_le _) hd, fun k d hd => hS.2.2.2.2 k d (Nat.zero_le _) hd⟩, hB, ?_⟩
    simp only [f_X5_seek_L66]
    rw [if_pos (show (nI 0 - 1 : Int32) < 0 by decide)]
  | succ s ih =>
    intro hs m hm S h jS hS hB
    obtain ⟨m, rfl⟩ : ∃ q, m = q + 1 := ⟨m - 1, by omega⟩
    obtain ⟨a1, a2, a3, a4, a5⟩ := hS
    obtain ⟨b1, b2, b3, b4⟩ := hB
    have hSl := h.w.lS
    have hBl := h.w.lB
    obtain ⟨q1, q2, f, -, -, -, hf, -, -, ef⟩ := h.w.2.2.2.2.2.2.2.2.2.1 s (by omega)
    have h2 : 2 ^ cB M ≤ 2 ^ 4 := Nat.pow_le_pow_right (by decide) hBl
    have ech : (nI f <<< ((1 : Int32) &&& 31)) ||| (1 : Int32) = nI (chs M s) := by
      rw [pk_shlN _ 1 (by decide) (by omega), show (1 : Int32) = nI 1 from rfl, show f * 2 ^ 1 = 2 ^ 1 * f by omega, fa_or_sum (k := 1) f (by decide)]
      unfold chs; rw [ef, nI_clamp (by omega)]
    obtain ⟨S5, hS5⟩ : ∃ S5, S5 = wi S (c + 51) (upd (ai S (c + 51)) s (nI (chs M s))) := ⟨_, rfl⟩
    have k5 : KP c S S5 := by rw [hS5]; exact KP.wi (by unfold ka; omega)
    have i5 := h.kp k5
    have hc5 : CH c S S5 := by rw [hS5]; exact ⟨fun _ _ => rfl, fun _ _ _ => rfl, fun q hq => ai_wi_a (by omega)⟩
    have aj5 : ∀ q, aj S5 q = aj S q := fun q => by rw [hS5]; rfl
    obtain ⟨g, g1, g2, g3⟩ := e_X5_addsOf i5 hn hJ (hJ.2.2.1 _ _ jS hc5) (show s < cS M by omega)
    obtain ⟨k, hk⟩ : ∃ k, s + 1 + k = cS M := ⟨cS M - (s + 1), by omega⟩
    have em : lN (pkf F (mst M ab k (s + 1))) + lN (pkf F (orb M ab s (cB M))) = lN (pkf F (mst M ab (k + 1) s)) := by
      rw [lN_add, pkf_add]
      exact congrArg lN (pkf_cong F (fun i hi => by rw [mst, orb_cB h.w (by omega)]))
    obtain ⟨S10, hS10⟩ : ∃ S10, S10 = wj (wj S5 (c + 52) g) (c + 53) (vp_updL (aj (wj S5 (c + 52) g) (c + 53)) s (lN (pkf F (mst M ab (k + 1) s)))) := ⟨_, rfl⟩
    have k10 : KP c S5 S10 := by rw [hS10]; exact (KP.wj (Or.inl (by unfold ka; omega))).tr (KP.wj (Or.inl (by unfold ka; omega)))
    have i10 := i5.kp k10
    have ai10 : ∀ q, ai S10 q = ai S5 q := fun q => by rw [hS10]; rfl
    have e54 : ai S10 (c + 54) (s + 1) = nI (cml M k (s + 1)) := by rw [ai10, hS5, ai_wi_a (by omega)]; exact a5 k (s + 1) (Nat.le_refl _) hk
    have e51 : ai S10 (c + 51) s = nI (chs M s) := by rw [ai10, hS5, ai_wi, pk_us]
    obtain ⟨S16, hS16⟩ : ∃ S16, S16 = wi S10 (c + 54) (upd (ai S10 (c + 54)) s (nI (cml M (k + 1) s))) := ⟨_, rfl⟩
    have k16 : KP c S10 S16 := by rw [hS16]; exact KP.wi (by unfold ka; omega)
    have i16 := i10.kp k16
    have gg : ∀ f q, gi S16 f q = gi S f q := fun f q => by rw [hS16, hS10, hS5]; rfl
    have aa : ∀ q, q ≠ c + 51 → q ≠ c + 54 → ai S16 q = ai S q := fun q p1 p2 => by rw [hS16, ai_wi_a p2, ai10, hS5, ai_wi_a p1]
    have r51 : ai S16 (c + 51) = upd (ai S (c + 51)) s (nI (chs M s)) := by rw [hS16, ai_wi_a (by omega), ai10, hS5, ai_wi]
    have r54 : ai S16 (c + 54) = upd (ai S (c + 54)) s (nI (cml M (k + 1) s)) := by rw [hS16, ai_wi, ai10, hS5, ai_wi_a (by omega)]
    have r52 : aj S16 (c + 52) = g := by rw [hS16, aj_wi, hS10, aj_wj_a (by omega), aj_wj]
    have r53 : aj S16 (c + 53) = vp_updL (aj S (c + 53)) s (lN (pkf F (mst M ab (k + 1) s))) := by rw [hS16, aj_wi, hS10, aj_wj, aj_wj_a (by omega), aj5]
    have hc16 : CH c S S16 := ⟨fun f q => by rw [hS16, hS10, hS5]; rfl, fun f q _ => gg f q, fun q hq => aa q (by omega) (by omega)⟩
    obtain ⟨S1, e1, e2, e3, e4, e5⟩ := ih (by omega) m (by omega) S16 i16 (hJ.2.2.1 _ _ jS hc16) ⟨(gg _ _).trans a1, fun i h1 h2 => by
      rw [r51]
      by_cases e : i = s
      · subst e; rw [pk_us]
      · rw [pk_un e]; exact a2 i (by omega) h2, fun i v h1 h2 hv => by
      rw [r52]
      by_cases e : i = s
      · subst e; exact g2 v hv
      · rw [g3 _ (by omega), aj5]; exact a3 i v (by omega) h2 hv, fun k' d h1 h2 => by
      rw [r53]
      by_cases e : d = s
      · subst e; rw [pk_uLs, show k' = k + 1 by omega]
      · rw [pk_uLn e]; exact a4 k' d (by omega) h2, fun k' d h1 h2 => by
      rw [r54]
      by_cases e : d = s
      · subst e; rw [pk_us, show k' = k + 1 by omega]
      · rw [pk_un e]; exact a5 k' d (by omega) h2⟩ ⟨(gg _ _).trans b1, (gg _ _).trans b2, (gg _ _).trans b3, fun i hi => by rw [aa _ (by omega) (by omega), aa _ (by omega) (by omega)]; exact b4 i hi⟩
    refine ⟨S1, ((k5.tr k10).tr k16).tr e1, e2, e3, e4, ?_⟩
    rw [← e5]
    conv => lhs; unfold f_X5_seek_L66
    simp only [nI_pred, if_neg (nI_pos (show s < 2 ^ 31 by omega)), h.g257, h.m.g142, obs, h.m.n8, h.l51, nI_clamp (show s < 2 ^ 31 by omega), ifn (rinc (show s < 7 by omega) (show 7 < 2 ^ 31 by omega)), (h.m.hs s (by omega)).2.2, ef, ech, lts]
    rw [← hS5]
    have p53 : aj S5 (c + 53) (s + 1) = lN (pkf F (mst M ab k (s + 1))) := by rw [aj5]; exact a4 k (s + 1) (Nat.le_refl _) hk
    simp only [i5.g259, obs, h.l53, nI_1, nI_clamp (show s + 1 < 2 ^ 31 by omega), ifn (rinc (show s + 1 < 8 by omega) (show 8 < 2 ^ 31 by omega)), ifn (rinc (show s < 8 by omega) (show 8 < 2 ^ 31 by omega)), g1, bds, p53, em]
    rw [← hS10]
    have emul : nI (cml M k (s + 1)) * nI (na (chs M s) 5) = nI (cml M (k + 1) s) := by rw [pk_mul]; rfl
    simp only [i10.g260, i10.g257, obs, h.l54, h.l51, nI_clamp (show s < 2 ^ 31 by omega), nI_clamp (show s + 1 < 2 ^ 31 by omega), ifn (rinc (show s + 1 < 8 by omega) (show 8 < 2 ^ 31 by omega)), ifn (rinc (show s < 8 by omega) (show 8 < 2 ^ 31 by omega)), ifn (rinc (show s < 7 by omega) (show 7 < 2 ^ 31 by omega)), e51, e54, e_bitCount (chs_lt h.w (show s < cS M by omega)), bds, emul]
    rw [← hS16, show nI s + (-1) = nI s - 1 by rw [Int32.sub_eq_add_neg]]
theorem e_X5_seek (h : Inv E c S x M) (hn : 20 ≤ n) (hJ : JC E n c hc F x M ab J CC) (jS : J S) : ∃ S', f_X5_seek E n S (c + 50) (c + x) hc = some ((), S') ∧ KP c S S' ∧ CBr c M (enm M (fun c1 => CC (cnt ab c1 (cS M))) (cS M) 0 (fun _ => 0) B00) S' := by
  have hSl := h.w.lS
  obtain ⟨S4, hS4⟩ : ∃ S4, S4 = si (si (si (si S 256 (c + 50) (nI (cS M))) 262 (c + 50) 0) 263 (c + 50) (-1)) 264 (c + 50) (-1) := ⟨_, rfl⟩
  have k4 : KP c S S4 := by rw [hS4]; exact (((KP.si (by unfold kf; omega)).tr (KP.si (by unfold kf; omega))).tr (KP.si (by unfold kf; omega))).tr (KP.si (by unfold kf; omega))
  have i4 := h.kp k4
  have c4 : CH c S S4 := by
    rw [hS4]
    exact ⟨fun _ _ => rfl, fun f q hf => by rw [gi_si_f (by omega), gi_si_f (by omega), gi_si_f (by omega), gi_si_f (by omega)], fun _ _ => rfl⟩
  have w256 : gi S4 256 (c + 50) = nI (cS M) := by rw [hS4, gi_si_f (by decide), gi_si_f (by decide), gi_si_f (by decide), gi_si_eq]
  have w262 : gi S4 262 (c + 50) = 0 := by rw [hS4, gi_si_f (by decide), gi_si_f (by decide), gi_si_eq]
  have w263 : gi S4 263 (c + 50) = -1 := by rw [hS4, gi_si_f (by decide), gi_si_eq]
  have w264 : gi S4 264 (c + 50) = -1 := by rw [hS4, gi_si_eq]
  obtain ⟨g6, p1, -, p3⟩ := e_fillI (E := E) (n := n) (S := S4) (v := -1) h.l56 (by decide) (by omega)
  obtain ⟨S6, hS6⟩ : ∃ S6, S6 = wi S4 (c + 56) g6 := ⟨_, rfl⟩
  rw [← hS6] at p3
  have k6 : KP c S4 S6 := by rw [hS6]; exact KP.wi (by unfold ka; omega)
  have i6 := i4.kp k6
  obtain ⟨g7, q1, -, q3⟩ := e_fillI (E := E) (n := n) (S := S6) (v := 0) h.l57 (by decide) (by omega)
  obtain ⟨S7, hS7⟩ : ∃ S7, S7 = wi S6 (c + 57) g7 := ⟨_, rfl⟩
  rw [← hS7] at q3
  have k7 : KP c S6 S7 := by rw [hS7]; exact KP.wi (by unfold ka; omega)
  have i7 := i6.kp k7
  obtain ⟨S8, hS8⟩ : ∃ S8, S8 = wi (wj S7 (c + 53) (vp_updL (aj S7 (c + 53)) (cS M) 0)) (c + 54) (upd (ai (wj S7 (c + 53) (vp_updL (aj S7 (c + 53)) (cS M) 0)) (c + 54)) (cS M) 1) := ⟨_, rfl⟩
  have k8 : KP c S7 S8 := by rw [hS8]; exact (KP.wj (Or.inl (by unfold ka; omega))).tr (KP.wi (by unfold ka; omega))
  have i8 := i7.kp k8
  have gg : ∀ f q, gi S8 f q = gi S4 f q := fun f q => by rw [hS8, hS7, hS6]; rfl
  have c8 : CH c S S8 := c4.tr ⟨fun f q => by rw [hS8, hS7, hS6]; rfl, fun f q _ => gg f q, fun q hq => by rw [hS8, ai_wi_a (by omega), ai_wj, hS7, ai_wi_a (by omega), hS6, ai_wi_a (by omega)]⟩
  have e7 : ∀ f, gi S7 f (c + 50) = gi S4 f (c + 50) := fun f => by rw [hS7, hS6]; rfl
  obtain ⟨S9, e1, e2, e3, e4, e5⟩ := e_X5_seek_L66 (n := n) hn hJ (cS M) (Nat.le_refl _) n (by omega) S8 i8 (hJ.2.2.1 _ _ jS c8) ⟨(gg _ _).trans w256, fun i h1 h2 => by omega, fun i v h1 h2 => by omega, fun k d h1 h2 => by
    rw [show d = cS M by omega, show k = 0 by omega, hS8, aj_wi, aj_wj, pk_uLs, show pkf F (mst M ab 0 (cS M)) = 0 from (pkf_cong F (fun i hi => rfl)).trans (pkf_0 F)]; rfl, fun k d h1 h2 => by
    rw [show d = cS M by omega, show k = 0 by omega, hS8, ai_wi, pk_us]; rfl⟩ ⟨(gg _ _).trans w262, (gg _ _).trans w263, (gg _ _).trans w264, fun s hs => ⟨by
    rw [hS8, ai_wi_a (by omega), ai_wj, hS7, ai_wi_a (by omega), hS6, ai_wi]; exact p1 s (by omega), by
    rw [hS8, ai_wi_a (by omega), ai_wj, hS7, ai_wi]; exact q1 s (by omega)⟩⟩
  obtain ⟨S', f1, f2, f3, f4, f5, -⟩ := e_X5_chooseOn (n := n) hn hJ (cS M) 0 (by omega) 12 (by omega) S9 (fun _ => 0) B00 (i8.kp e1) e2 e3 e4 (fun q => absurd rfl q) (fun s hs => by omega) (fun _ _ => rfl) (fun s hs => by omega)
  refine ⟨S', ?_, ((((k4.tr k6).tr k7).tr k8).tr e1).tr f2, f5⟩
  have z : pkf F (cnt ab (fun _ => 0) 0) = 0 := (pkf_cong F (fun i hi => rfl)).trans (pkf_0 F)
  rw [z] at f1
  have f1 : f_X5_chooseOn E n 12 S9 (c + 50) hc 0 0 0 0 = some ((), S') := f1
  simp only [f_X5_seek, h.m.i133, h.w.s4, lts]
  rw [← hS4]
  simp only [i4.g265, obs, p3, bds, i6.g266, q3, i7.g259, e7, w256, h.l53, nI_clamp (show cS M < 2 ^ 31 by omega), ifn (rinc (show cS M < 8 by omega) (show 8 < 2 ^ 31 by omega)), gr_wj, i7.g260, gi_wj, h.l54]
  rw [← hS8]
  simp only [gg, w256]
  rw [e5, f1, bds]
end SEK
