/-! The model's search: what is kept of a courting met -/
section MET
variable {E : EN} {n c : Nat} {S0 S : WS} {x : Nat} {M : Nat → Int32} {c0 : Nat → Nat} {B : BW}
theorem SB_0 {j : Nat} (hj : j < 5) : SBt (nI j - 1) (0 ||| 2 ^ j) := Or.inl ⟨j, hj, rfl, Nat.zero_or _⟩
theorem e_X9_meets_J143 {T h b H Bb : Nat} (e1 : gi S 539 (c + 129) = nI T) (hT : T < 2 ^ 30) (e2 : T ≠ 0 → gi S 541 (c + 129) = nI Bb) (hBb : Bb < 2 ^ 30) (hb : b < 2 ^ 30) (hh : H = h) : f_X9_meets_J143 E n S (c + 129) (nI b) (c + 129) (nI h) = some ((), si (si (si S 540 (c + 129) (nI H)) 541 (c + 129) (nI (if T = 0 ∨ b < Bb then b else Bb))) 539 (c + 129) (nI (T + 1))) := by
  have q1 : ∀ v w, gi (si (si S 540 (c + 129) v) 541 (c + 129) w) 539 (c + 129) = nI T := fun v w => (gi_si_f (by decide)).trans ((gi_si_f (by decide)).trans e1)
  have q2 : gi (si S 540 (c + 129) (nI h)) 539 (c + 129) = nI T := (gi_si_f (by decide)).trans e1
  subst hh
  simp only [f_X9_meets_J143, lts, q2]
  by_cases z : T = 0
  · have z0 : nI T = 0 := by rw [z]; rfl
    rw [if_pos z0, if_pos (Or.inl z), q1, nI_1]
  · have e3 : gi (si S 540 (c + 129) (nI H)) 541 (c + 129) = nI Bb := (gi_si_f (by decide)).trans (e2 z)
    rw [if_neg (nI_ne0 (Nat.pos_of_ne_zero z) (by omega)), e3, imin_nat (by omega) (by omega), q1, nI_1]
    by_cases q : b < Bb
    · rw [if_pos (Or.inr q), Nat.min_eq_right (by omega)]
    · rw [if_neg (fun w => w.elim z q), Nat.min_eq_left (by omega)]
theorem e_X9_meets_L96 (hn : 8 ≤ n) (hw : WF M) (o : RWl E S (c + 129) (Mc M c0) (-1)) (g542 : gr S 542 (c + 129) = some (c + 129 + 13)) (l142 : eN E (c + 129 + 13) = 7) (h b : Int32) : ∃ g, (∀ i, i < cS M → g i = nI (c0 i) - 1) ∧ f_X9_meets_L96 E n n S (c + 129) h b 0 = if gi S 539 (c + 129) = 0 then f_X9_meets_J143 E n (wi S (c + 129 + 13) g) (c + 129) b (c + 129) h else f_X9_meets_J143 E n (wi S (c + 129 + 13) g) (c + 129) b (c + 129) (imin (gi S 540 (c + 129)) h) := by
  have hS := hw.lS
  have key := lp (N := cS M) (P := fun s k => ∀ u : Nat → Int32, (∀ i, i < s → u i = nI (c0 i) - 1) → ∃ g, (∀ i, i < cS M → g i = nI (c0 i) - 1) ∧ f_X9_meets_L96 E n k (wi S (c + 129 + 13) u) (c + 129) h b (nI s) = if gi S 539 (c + 129) = 0 then f_X9_meets_J143 E n (wi S (c + 129 + 13) g) (c + 129) b (c + 129) h else f_X9_meets_J143 E n (wi S (c + 129 + 13) g) (c + 129) b (c + 129) (imin (gi S 540 (c + 129)) h)) ?_ ?_ (cS M) 0 n (by omega) (by omega) (ai S (c + 129 + 13)) (fun i hi => by omega)
  · rw [wi_self rfl] at key
    exact key
  · intro k u hu
    have o : RWl E (wi S (c + 129 + 13) u) (c + 129) (Mc M c0) (-1) := o.fr rfl (fun i hi => by rw [ai_wi_a (by omega)]) rfl
    refine ⟨u, hu, ?_⟩
    simp only [f_X9_meets_L96, o.1, obs, o.2.1, mg4, o.v4, Mc4, hw.t4, if_true]
    rfl
  · intro s k hs ih u hu
    have o : RWl E (wi S (c + 129 + 13) u) (c + 129) (Mc M c0) (-1) := o.fr rfl (fun i hi => by rw [ai_wi_a (by omega)]) rfl
    have g542 : gr (wi S (c + 129 + 13) u) 542 (c + 129) = some (c + 129 + 13) := g542
    simp only [f_X9_meets_L96, o.1, obs, o.2.1, mg4, o.v4, Mc4, hw.f4 hs, if_false, g542, e_X9_courts o (show s < 7 by omega), Mc_at hs, bds, l142, nI_clamp (show s < 2 ^ 31 by omega), ifn (rinc (show s < 7 by omega) (show 7 < 2 ^ 31 by omega)), lts, ai_wi, wi_wi, nI_1]
    exact ih _ (fun i hi => by
      by_cases e : i = s
      · subst e; rw [pk_us]
      · rw [pk_un e]; exact hu i (by omega))
theorem e_X9_meets_L9 (hn : 8 ≤ n) (hw : WF M) (hc : alc M c0) (o : RWl E S (c + 129) (Mc M c0) (-1)) (g543 : gr S 543 (c + 129) = some (c + 129 + 14)) (l143 : eN E (c + 129 + 14) = 7) {T : Nat} (hT : T < 2 ^ 30) (e1 : gi S 539 (c + 129) = nI T) (hB : ∀ i, i < cS M → T ≠ 0 → SBt (ai S (c + 129 + 14) i) (bM B i)) (hB0 : T = 0 → ∀ i, i < cS M → bM B i = 0) (h : Int32) : ∃ g, (∀ i, i < cS M → SBt (g i) (bM B i ||| 2 ^ (c0 i))) ∧ f_X9_meets_L9 E n n S (c + 129) h 0 0 = if T = 0 then f_X9_meets_L96 E n n (wi S (c + 129 + 14) g) (c + 129) h (nI (bsy c0 (cS M))) 0 else if gi S 540 (c + 129) ≤ h then f_X9_meets_J143 E n (wi S (c + 129 + 14) g) (c + 129) (nI (bsy c0 (cS M))) (c + 129) (imin (gi S 540 (c + 129)) h) else f_X9_meets_L96 E n n (wi S (c + 129 + 14) g) (c + 129) h (nI (bsy c0 (cS M))) 0 := by
  have hS := hw.lS
  have T0 : nI T = 0 ↔ T = 0 := by rw [show (0 : Int32) = nI 0 from rfl]; exact nI_eq (by omega) (by decide)
  have key := lp (N := cS M) (P := fun s k => ∀ u : Nat → Int32, (∀ i, i < s → SBt (u i) (bM B i ||| 2 ^ (c0 i))) → (∀ i, s ≤ i → u i = ai S (c + 129 + 14) i) → ∃ g, (∀ i, i < cS M → SBt (g i) (bM B i ||| 2 ^ (c0 i))) ∧ f_X9_meets_L9 E n k (wi S (c + 129 + 14) u) (c + 129) h (nI (bsy c0 s)) (nI s) = if T = 0 then f_X9_meets_L96 E n n (wi S (c + 129 + 14) g) (c + 129) h (nI (bsy c0 (cS M))) 0 else if gi S 540 (c + 129) ≤ h then f_X9_meets_J143 E n (wi S (c + 129 + 14) g) (c + 129) (nI (bsy c0 (cS M))) (c + 129) (imin (gi S 540 (c + 129)) h) else f_X9_meets_L96 E n n (wi S (c + 129 + 14) g) (c + 129) h (nI (bsy c0 (cS M))) 0) ?_ ?_ (cS M) 0 n (by omega) (by omega) (ai S (c + 129 + 14)) (fun i hi => by omega) (fun _ _ => rfl)
  · rw [wi_self rfl] at key
    exact key
  · intro k u hu _
    have o : RWl E (wi S (c + 129 + 14) u) (c + 129) (Mc M c0) (-1) := o.fr rfl (fun i hi => by rw [ai_wi_a (by omega)]) rfl
    have e1 : gi (wi S (c + 129 + 14) u) 539 (c + 129) = nI T := e1
    refine ⟨u, hu, ?_⟩
    simp only [f_X9_meets_L9, o.1, obs, o.2.1, mg4, o.v4, Mc4, hw.t4, if_true, e1]
    by_cases z : T = 0
    · rw [if_pos (T0.mpr z), if_pos z]
    · rw [if_neg (fun q => z (T0.mp q)), if_neg z, if_neg (fun q => z (T0.mp q))]
      rfl
  · intro s k hs ih u hu hu2
    have o : RWl E (wi S (c + 129 + 14) u) (c + 129) (Mc M c0) (-1) := o.fr rfl (fun i hi => by rw [ai_wi_a (by omega)]) rfl
    have e1 : gi (wi S (c + 129 + 14) u) 539 (c + 129) = nI T := e1
    have g543 : gr (wi S (c + 129 + 14) u) 543 (c + 129) = some (c + 129 + 14) := g543
    have c5 := alw_5 hw hs (hc s hs)
    obtain ⟨v, hv, sv⟩ : ∃ v : Int32, (v = if T = 0 then nI (c0 s) - 1 else if u s = nI (c0 s) - 1 then nI (c0 s) - 1 else -2) ∧ SBt v (bM B s ||| 2 ^ (c0 s)) := by
      refine ⟨_, rfl, ?_⟩
      by_cases z : T = 0
      · rw [if_pos z, hB0 z s hs]; exact SB_0 c5
      · rw [if_neg z, hu2 s (Nat.le_refl _)]; exact SB_step (hB s hs z) c5
    have nx := ih (upd u s v) (fun i hi => by
      by_cases e : i = s
      · subst e; rw [pk_us]; exact sv
      · rw [pk_un e]; exact hu i (by omega)) (fun i hi => by rw [pk_un (by omega)]; exact hu2 i (by omega))
    have jj : ∀ t : Int32, nI (bsy c0 s) + t = nI (bsy c0 (s + 1)) → f_X9_meets_J34 E n (f_X9_meets_L9 E n k) (wi S (c + 129 + 14) u) (c + 129) h (nI s) (nI (bsy c0 s)) t = f_X9_meets_L9 E n k (wi S (c + 129 + 14) (upd u s v)) (c + 129) h (nI (bsy c0 (s + 1))) (nI (s + 1)) := by
      intro t ht
      simp only [f_X9_meets_J34, ht, lts, g543, obs, e1, e_X9_courts o (show s < 7 by omega), Mc_at hs, bds, l143, nI_clamp (show s < 2 ^ 31 by omega), ifn (rinc (show s < 7 by omega) (show 7 < 2 ^ 31 by omega)), ai_wi, wi_wi, nI_1]
      by_cases z : T = 0
      · rw [if_pos (T0.mpr z), hv, if_pos z]
      · rw [if_neg (fun q => z (T0.mp q)), hv, if_neg z]
        by_cases q : u s = nI (c0 s) - 1
        · rw [if_pos q, if_pos q]
        · rw [if_neg q, if_neg q]
    simp only [f_X9_meets_L9, o.1, obs, o.2.1, mg4, o.v4, Mc4, hw.f4 hs, if_false, e_X9_courts o (show s < 7 by omega), Mc_at hs, bds]
    by_cases z : c0 s = 0
    · rw [if_pos ((crv_m1 (by omega)).mpr z), jj 0 (by rw [bsy, if_pos z, Int32.add_zero])]
      exact nx
    · rw [if_neg (fun q => z ((crv_m1 (by omega)).mp q)), jj 1 (by rw [bsy, if_neg z, nI_1])]
      exact nx
theorem e_X9_meets (h0 : Inv E c S0 x M) (hn : 8 ≤ n) (hI : MI c S0 M c0 S) (hc : alc M c0) (hB : MB c M B S) (ok : BOK B) (hT : bT B + 1 ≤ 1000000) : ∃ S', f_X9_meets E n S (c + 129) = some ((), S') ∧ MI c S0 M c0 S' ∧ MB c M (gb c0 (hrt c0 (cS M)) (bsy c0 (cS M)) 1 (um M (cS M) (cS M) c0) B) S' := by
  have hS := h0.w.lS
  have o := hI.o h0
  obtain ⟨b1, b2, b3⟩ := hB
  have hb7 := bsy_le c0 (cS M)
  have hh7 : hrt c0 (cS M) ≤ 7 := by unfold hrt; omega
  have g542 : gr S 542 (c + 129) = some (c + 129 + 13) := hI.rf h0 (f := 542) (a := 129) (b := 142) (by decide)
  have g543 : gr S 543 (c + 129) = some (c + 129 + 14) := hI.rf h0 (f := 543) (a := 129) (b := 143) (by decide)
  have l142 : eN E (c + 129 + 13) = 7 := h0.L.at 142 7 (by omega) (by decide)
  have l143 : eN E (c + 129 + 14) = 7 := h0.L.at 143 7 (by omega) (by decide)
  have w5 := WF_Mc h0.w hc
  have hh := hearts_Mc h0.w hc
  obtain ⟨g, p1, p2⟩ := e_X9_meets_L9 (n := n) hn h0.w hc o g543 l143 (T := bT B) (by omega) b1 (fun i hi z => ((b2 z).2.2 i hi).2) b3 (nI (hrt c0 (cS M)))
  have start : f_X9_meets E n S (c + 129) = f_X9_meets_L9 E n n S (c + 129) (nI (hrt c0 (cS M))) 0 0 := by
    simp only [f_X9_meets, e_X9_heartsNow o w5 hn, hh, bds]
  obtain ⟨S1, hS1⟩ : ∃ S1, S1 = wi S (c + 129 + 14) g := ⟨_, rfl⟩
  have k1 : KP c S S1 := by rw [hS1]; exact KP.wi (by unfold ka; omega)
  have a1 : ∀ q, q ≠ c + 129 + 14 → ai S1 q = ai S q := fun q hq => by rw [hS1, ai_wi_a hq]
  have r14 : ai S1 (c + 129 + 14) = g := by rw [hS1, ai_wi]
  have i1 : MI c S0 M c0 S1 := hI.kp k1 (a1 _ (by omega))
  have gg : ∀ f q, gi S1 f q = gi S f q := fun f q => by rw [hS1]; rfl
  rw [← hS1] at p2
  have TB : bT B ≠ 0 → bH B ≤ 7 ∧ bB B ≤ 7 := ok
  -- at the end: the counts
  have fin : ∀ S2 H, KP c S1 S2 → (∀ f q, gi S2 f q = gi S1 f q) → (∀ q, q ≠ c + 129 + 13 → ai S2 q = ai S1 q) → (H = if few B (hrt c0 (cS M)) then hrt c0 (cS M) else bH B) → (∀ i, i < cS M → ai S2 (c + 129 + 13) i = nI (if few B (hrt c0 (cS M)) then c0 i else bF B i) - 1) → ∃ S', f_X9_meets_J143 E n S2 (c + 129) (nI (bsy c0 (cS M))) (c + 129) (nI H) = some ((), S') ∧ MI c S0 M c0 S' ∧ MB c M (gb c0 (hrt c0 (cS M)) (bsy c0 (cS M)) 1 (um M (cS M) (cS M) c0) B) S' := by
    intro S2 H k2 g2 a2 hH h13
    obtain ⟨Bb, hBb, hBl⟩ : ∃ Bb, (bT B ≠ 0 → Bb = bB B) ∧ Bb ≤ 7 := by
      by_cases z : bT B = 0
      · exact ⟨0, fun q => absurd z q, by omega⟩
      · exact ⟨bB B, fun _ => rfl, (TB z).2⟩
    have e := e_X9_meets_J143 (E := E) (n := n) (c := c) (S := S2) (T := bT B) (h := H) (b := bsy c0 (cS M)) (H := H) (Bb := Bb) (by rw [g2, gg]; exact b1) (by omega) (fun z => by rw [g2, gg, hBb z]; exact (b2 z).2.1) (by omega) (by omega) rfl
    refine ⟨_, e, ?_, gi_si_eq, fun _ => ⟨?_, ?_, fun s hs => ⟨?_, ?_⟩⟩, fun z => ?_⟩
    · exact (i1.kp k2 (a2 _ (by omega))).kp (((KP.si (by unfold kf; omega)).tr (KP.si (by unfold kf; omega))).tr (KP.si (by unfold kf; omega))) rfl
    · rw [gi_si_f (by decide), gi_si_f (by decide), gi_si_eq, hH]; rfl
    · rw [gi_si_f (by decide), gi_si_eq]
      unfold gb fwb
      simp only [bB]
      by_cases z : bT B = 0
      · rw [if_pos (Or.inl z), if_pos (Or.inl z)]
      · rw [hBb z]
    · rw [ai_si, ai_si, ai_si, h13 s hs]
      unfold gb
      simp only [bF]
      by_cases q : few B (hrt c0 (cS M))
      · rw [if_pos q, if_pos q]
      · rw [if_neg q, if_neg q]
    · rw [ai_si, ai_si, ai_si, a2 _ (by omega), r14]
      have := p1 s hs
      unfold gb um
      simp only [bM]
      rw [if_pos hs]
      exact this
    · exact absurd z (Nat.succ_ne_zero _)
  -- by the rows
  have byrow : few B (hrt c0 (cS M)) → (∀ v, v = imin (gi S 540 (c + 129)) (nI (hrt c0 (cS M))) → bT B ≠ 0 → v = nI (hrt c0 (cS M))) → ∃ S', f_X9_meets_L96 E n n S1 (c + 129) (nI (hrt c0 (cS M))) (nI (bsy c0 (cS M))) 0 = some ((), S') ∧ MI c S0 M c0 S' ∧ MB c M (gb c0 (hrt c0 (cS M)) (bsy c0 (cS M)) 1 (um M (cS M) (cS M) c0) B) S' := by
    intro hf hv
    obtain ⟨u, u1, u2⟩ := e_X9_meets_L96 (n := n) hn h0.w (i1.o h0) (i1.rf h0 (f := 542) (a := 129) (b := 142) (by decide)) l142 (nI (hrt c0 (cS M))) (nI (bsy c0 (cS M)))
    obtain ⟨S', f1, f2, f3⟩ := fin (wi S1 (c + 129 + 13) u) (hrt c0 (cS M)) (KP.wi (by unfold ka; omega)) (fun _ _ => rfl) (fun q hq => ai_wi_a hq) (by rw [if_pos hf]) (fun i hi => by rw [ai_wi, if_pos hf]; exact u1 i hi)
    refine ⟨S', ?_, f2, f3⟩
    rw [u2, gg, gg, b1]
    by_cases z : bT B = 0
    · have z0 : nI (bT B) = 0 := by rw [z]; rfl
      rw [if_pos z0]; exact f1
    · rw [if_neg (nI_ne0 (Nat.pos_of_ne_zero z) (by omega)), hv _ rfl z]; exact f1
  rw [start, p2]
  by_cases z : bT B = 0
  · rw [if_pos z]
    exact byrow (Or.inl z) (fun v _ q => absurd z q)
  · obtain ⟨b4, b5, b6⟩ := b2 z
    have hH7 := (TB z).1
    rw [if_neg z, b4]
    by_cases q : hrt c0 (cS M) < bH B
    · rw [if_neg (nI_ge q (by omega))]
      refine byrow (Or.inr q) (fun v hv _ => ?_)
      rw [hv, b4, imin_nat (by omega) (by omega), Nat.min_eq_right (by omega)]
    · have nf : ¬ few B (hrt c0 (cS M)) := fun w => w.elim z q
      rw [if_pos (nI_le (by omega) (by omega)), imin_nat (by omega) (by omega), Nat.min_eq_left (by omega)]
      exact fin S1 (bH B) KP.rf (fun _ _ => rfl) (fun _ _ => rfl) (by rw [if_neg nf]) (fun i hi => by rw [a1 _ (by omega), (b6 i hi).1, if_neg nf])
end MET
