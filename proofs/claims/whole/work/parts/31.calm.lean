/-! Hopes by the model; peace; thoughts -/
section CLM
variable {E : EN} {n : Nat} {S : WS} {m : Nat} {M : Nat → Int32} {lo : Int32}
theorem e_X9_hopeOf (h : RWl E S m M lo) (hw : WF M) (hn : 8 ≤ n) {s : Nat} (hs : s < cS M) : f_X9_hopeOf E n S m (nI s) = some (hop M (oM M) s, S) := by
  have hS := hw.lS
  have hB := hw.lB
  have hf : ai S (m + 1) (102 + s) = M (102 + s) := h.2.2.1 (102 + s) (by omega)
  simp only [f_X9_hopeOf, e_X9_isRefused h hw hn (show s < 7 by omega), e_X9_courts h (show s < 7 by omega), bds, b2i_eq0]
  unfold hop
  by_cases c : rfs (oM M) (kM M) (cS M) s
  · rw [if_neg (fun q => q c), if_pos c]
    have back : ∀ v, wi (wi S (m + 1) (upd (ai S (m + 1)) (102 + s) v)) (m + 1) (upd (ai (wi S (m + 1) (upd (ai S (m + 1)) (102 + s) v)) (m + 1)) (102 + s) (M (102 + s))) = S := by
      intro v
      rw [ai_wi, wi_wi, fa_upd_twice, fa_upd_same hf, wi_self rfl]
    have again : ∀ v w, wi (wi S (m + 1) (upd (ai S (m + 1)) (102 + s) v)) (m + 1) (upd (ai (wi S (m + 1) (upd (ai S (m + 1)) (102 + s) v)) (m + 1)) (102 + s) w) = wi S (m + 1) (upd (ai S (m + 1)) (102 + s) w) := by
      intro v w
      rw [ai_wi, wi_wi, fa_upd_twice]
    have e3 : ∀ v, ai (wi S (m + 1) (upd (ai S (m + 1)) (102 + s) v)) (m + 1) (Int32.toNatClampNeg 3) = M 3 := fun v => (h.crt (k := 102 + s) (v := v)).v3.trans (pk_un (by omega))
    have key := lp (N := cB M) (P := fun b k => ∀ v, (v = -1 ∨ ∃ b f : Nat, s < cS M ∧ b < cB M ∧ v = nI b ∧ M (75 + 3 * s) = nI f ∧ f.testBit b = true) → f_X9_hopeOf_L21 E n k (wi S (m + 1) (upd (ai S (m + 1)) (102 + s) v)) m (nI s) (M (102 + s)) (-1) (nI b) = some (ff (fun b => nI b ≠ oM M s ∧ forI M (nI s) (nI b) ∧ wbt (oM M) (kM M) (nI b) s (cS M)) (cB M - b) b, S)) ?_ ?_ (cB M) 0 n (by omega) (by omega) (M (102 + s)) ((hw.2.2.2.2.2.2.2.2.2.2.2.1 s (by omega)).resolve_left (fun z => by have := (hw.2.2.1 z).2.2.2.1; omega))
    · rw [fa_upd_same hf, wi_self rfl] at key
      exact key
    · intro k v hv
      have hg : gr (wi S (m + 1) (upd (ai S (m + 1)) (102 + s) v)) 513 m = some (m + 1) := h.1
      simp only [f_X9_hopeOf_L21, hg, obs, h.2.1, mg3, e3, hw.t3, if_true, ixC, nI_clamp (show 102 + s < 2 ^ 31 by omega), ifn (rinc (show 102 + s < 109 by omega) (show 109 < 2 ^ 31 by omega)), lts, back, Nat.sub_self, ff]
    · intro b k hb ih v hv
      have hg : ∀ v, gr (wi S (m + 1) (upd (ai S (m + 1)) (102 + s) v)) 513 m = some (m + 1) := fun v => h.1
      have hF := e_X9_isFor (n := n) (h.crt (k := 102 + s) (v := v)) (show s < 7 by omega) (nI b)
      rw [pk_un (show 75 + 3 * s ≠ 102 + s by omega)] at hF
      simp only [f_X9_hopeOf_L21, hg, obs, h.2.1, mg3, e3, hw.f3 hb, if_false, if_true, ixC, nI_clamp (show 102 + s < 2 ^ 31 by omega), ifn (rinc (show 102 + s < 109 by omega) (show 109 < 2 ^ 31 by omega)), lts, again, hF, bds, nI_1, b2i_eq0]
      rw [show cB M - b = (cB M - (b + 1)) + 1 by omega, ff]
      by_cases c1 : nI b = M (102 + s)
      · rw [if_pos c1, if_neg (fun q => q.1 c1)]; exact ih v hv
      · rw [if_neg c1]
        by_cases c2 : (M (75 + 3 * s) >>> (nI b &&& 31)) &&& 1 = 1
        · rw [if_neg (fun q => q c2)]
          have c2' := (forI_iff hw hs hb).mpr c2
          have okb : nI b = -1 ∨ ∃ b' f : Nat, s < cS M ∧ b' < cB M ∧ nI b = nI b' ∧ M (75 + 3 * s) = nI f ∧ f.testBit b' = true := Or.inr (forI_ok hw hs hb c2')
          have hT := e_X9_takenBy (n := n) (h.crt (k := 102 + s) (v := nI b)) (WF_crt hw (show s < 7 by omega) okb) hn (nI b)
          have e4 : cS (upd M (102 + s) (nI b)) = cS M := cE (pk_un (by omega))
          have eT : tkn (oM (upd M (102 + s) (nI b))) (kM (upd M (102 + s) (nI b))) (nI b) (cS (upd M (102 + s) (nI b))) = tkn (upd (oM M) s (nI b)) (kM M) (nI b) (cS M) := by
            rw [e4]
            refine tkn_congr2 (by omega) (fun i hi => ?_) (fun i hi => pk_un (by omega))
            by_cases q : i = s
            · subst q; rw [pk_us]; exact pk_us
            · rw [pk_un q]; exact pk_un (by omega)
          rw [hT, bds, eT]
          have hwb := wbt_iff (c := oM M) (k := kM M) hs (by omega) (fun q => c1 q.symm)
          by_cases c3 : wbt (oM M) (kM M) (nI b) s (cS M)
          · rw [if_pos (hwb.mpr c3), if_pos ⟨c1, c2', c3⟩]
            rcases k with _ | k
            · have := ih v hv
              simp only [f_X9_hopeOf_L21] at this
              cases this
            · simp only [f_X9_hopeOf_L21, hg, obs, h.2.1, mg3, e3, ixC, nI_clamp (show 102 + s < 2 ^ 31 by omega), ifn (rinc (show 102 + s < 109 by omega) (show 109 < 2 ^ 31 by omega)), lts, back, if_neg (nIm1 (show b < 2 ^ 31 by omega))]
              by_cases c4 : M 3 ≤ nI (b + 1)
              · rw [if_pos c4]
              · rw [if_neg c4]
          · rw [if_neg (fun q => c3 (hwb.mp q)), if_neg (fun q => c3 q.2.2)]
            exact ih (nI b) okb
        · rw [if_pos c2, if_neg (fun q => c2 ((forI_iff hw hs hb).mp q.2.1))]; exact ih v hv
  · rw [if_pos c, if_neg c]
theorem e_X9_restless (h : RWl E S m M lo) (hw : WF M) (hn : 8 ≤ n) : f_X9_restless E n S m = some (fho M (oM M), S) := by
  have hS := hw.lS
  refine (lp (N := cS M) (P := fun s k => f_X9_restless_L2 E n k S m (nI s) = some (ff (fun s => hop M (oM M) s ≠ -1) (cS M - s) s, S)) ?_ ?_ (cS M) 0 n (by omega) (by omega)).trans rfl
  · intro k
    simp only [f_X9_restless_L2, h.1, obs, h.2.1, mg4, h.v4, hw.t4, if_true, Nat.sub_self, ff]
  · intro s k hs ih
    simp only [f_X9_restless_L2, h.1, obs, h.2.1, mg4, h.v4, hw.f4 hs, if_false, e_X9_hopeOf h hw hn hs, bds, lts, nI_1]
    rw [show cS M - s = (cS M - (s + 1)) + 1 by omega, ff]
    by_cases c : hop M (oM M) s = -1
    · rw [if_pos c, if_neg (fun q => q c)]; exact ih
    · rw [if_neg c, if_pos c]
theorem hop_is (M c : Nat → Int32) (s : Nat) : hop M c s = -1 ∨ ∃ b, b < cB M ∧ hop M c s = nI b ∧ forI M (nI s) (nI b) := by
  unfold hop
  by_cases q : rfs c (kM M) (cS M) s
  · rw [if_pos q]
    rcases ff_is (fun b => nI b ≠ c s ∧ forI M (nI s) (nI b) ∧ wbt c (kM M) (nI b) s (cS M)) (cB M) 0 with r | ⟨j, h1, h2, h3, h4⟩
    · exact Or.inl r
    · exact Or.inr ⟨j, by omega, h4, h3.2.1⟩
  · rw [if_neg q]; exact Or.inl rfl
theorem fho_is (M c : Nat → Int32) : fho M c = -1 ∨ ∃ s, s < cS M ∧ fho M c = nI s := by
  rcases ff_is (fun s => hop M c s ≠ -1) (cS M) 0 with r | ⟨j, h1, h2, h3, h4⟩
  · exact Or.inl r
  · exact Or.inr ⟨j, by omega, h4⟩
/-- the mountain after so many moves of those who hope -/
noncomputable def stm (M : Nat → Int32) : Nat → Nat → Int32
  | 0 => M
  | q + 1 => if fho (stm M q) (oM (stm M q)) = -1 then stm M q else upd (stm M q) (102 + (fho (stm M q) (oM (stm M q))).toNatClampNeg) (hop (stm M q) (oM (stm M q)) (fho (stm M q) (oM (stm M q))).toNatClampNeg)
theorem stm_wf (hw : WF M) : ∀ q, WF (stm M q) ∧ (∀ i, i < 102 → stm M q i = M i) ∧ (∀ i, 102 + cS M ≤ i → stm M q i = M i) := by
  have hS := hw.lS
  intro q
  induction q with
  | zero => exact ⟨hw, fun _ _ => rfl, fun _ _ => rfl⟩
  | succ q ih =>
    rw [stm]
    by_cases c : fho (stm M q) (oM (stm M q)) = -1
    · rw [if_pos c]; exact ih
    · rw [if_neg c]
      obtain ⟨w, e1, e2⟩ := ih
      have e4 : cS (stm M q) = cS M := cE (e1 4 (by omega))
      have hS2 := w.lS
      rcases fho_is (stm M q) (oM (stm M q)) with r | ⟨s, hs, r⟩
      · exact absurd r c
      · rw [r, nI_clamp (show s < 2 ^ 31 by omega)]
        refine ⟨WF_crt w (by omega) ?_, fun i hi => (pk_un (by omega)).trans (e1 i hi), fun i hi => (pk_un (by omega)).trans (e2 i hi)⟩
        rcases hop_is (stm M q) (oM (stm M q)) s with t | ⟨b, hb, t, hf⟩
        · exact Or.inl t
        · rw [t]; exact Or.inr (forI_ok w hs hb hf)
theorem stm_const {q : Nat} (h : fho (stm M q) (oM (stm M q)) = -1) : ∀ k, stm M (q + k) = stm M q := by
  intro k
  induction k with
  | zero => rfl
  | succ k ih => rw [show q + (k + 1) = (q + k) + 1 by omega, stm, ih, if_pos h]
/-- in how many moves there is peace, at most N; -1: in none -/
noncomputable abbrev pea (M : Nat → Int32) (N q : Nat) : Int32 := ff (fun k => fho (stm M k) (oM (stm M k)) = -1) (N + 1 - q) q
theorem e_X9_settles (h : RWl E S m M lo) (hw : WF M) (hn : 60 ≤ n) {N : Nat} (hN : N ≤ 40) : ∃ g, (∀ i, i < 109 → g i = stm M N i) ∧ (∀ i, 109 ≤ i → g i = ai S (m + 1) i) ∧ f_X9_settles E n S m (nI N) = some (pea M N 0, wi S (m + 1) g) := by
  have hS := hw.lS
  unfold f_X9_settles
  rw [e_X9_restless h hw (by omega), bds]
  have key := lp (N := N) (P := fun q k => ∀ g, (∀ i, i < 109 → g i = stm M q i) → (∀ i, 109 ≤ i → g i = ai S (m + 1) i) → ∃ g', (∀ i, i < 109 → g' i = stm M N i) ∧ (∀ i, 109 ≤ i → g' i = ai S (m + 1) i) ∧ f_X9_settles_L7 E n k (wi S (m + 1) g) m (nI N) (nI q) (fho (stm M q) (oM (stm M q))) = some (pea M N q, wi S (m + 1) g')) ?_ ?_ N 0 n (by omega) (by omega) (ai S (m + 1)) (fun i hi => h.2.2.1 i hi) (fun _ _ => rfl)
  · obtain ⟨g, h1, h2, h3⟩ := key
    rw [wi_self rfl] at h3
    exact ⟨g, h1, h2, h3⟩
  · intro k g h1 h2
    refine ⟨g, h1, h2, ?_⟩
    simp only [f_X9_settles_L7]
    unfold pea
    rw [show N + 1 - N = 0 + 1 by omega, ff]
    by_cases c : fho (stm M N) (oM (stm M N)) = -1
    · rw [if_pos c, if_pos c, if_pos c]
    · rw [if_neg c, if_pos (nI_le (Nat.le_refl _) (by omega)), if_neg c, if_neg c, ff]
  · intro q k hq ih g h1 h2
    obtain ⟨w, e1, e2⟩ := stm_wf hw q
    have e4 : cS (stm M q) = cS M := cE (e1 4 (by omega))
    have hR : RWl E (wi S (m + 1) g) m (stm M q) lo := h.row h1
    simp only [f_X9_settles_L7]
    unfold pea
    rw [show N + 1 - q = (N + 1 - (q + 1)) + 1 by omega, ff]
    by_cases c : fho (stm M q) (oM (stm M q)) = -1
    · rw [if_pos c, if_pos c, if_pos c]
      have e := stm_const c (N - q)
      rw [show q + (N - q) = N by omega] at e
      exact ⟨g, fun i hi => by rw [e]; exact h1 i hi, h2, rfl⟩
    · rw [if_neg c, if_neg (nI_ge hq (by omega)), if_neg c]
      rcases fho_is (stm M q) (oM (stm M q)) with r | ⟨s, hs, r⟩
      · exact absurd r c
      · have es : stm M (q + 1) = upd (stm M q) (102 + s) (hop (stm M q) (oM (stm M q)) s) := by
          rw [stm, if_neg c, r, nI_clamp (show s < 2 ^ 31 by omega)]
        have hR2 : RWl E (wi S (m + 1) (upd g (102 + s) (hop (stm M q) (oM (stm M q)) s))) m (stm M (q + 1)) lo := by
          have := hR.crt (k := 102 + s) (v := hop (stm M q) (oM (stm M q)) s)
          rw [ai_wi, wi_wi, ← es] at this
          exact this
        rw [r]
        simp only [hR.1, obs, e_X9_hopeOf hR w (show 8 ≤ n by omega) hs, bds, ixC, h.2.1, nI_clamp (show 102 + s < 2 ^ 31 by omega), ifn (rinc (show 102 + s < 109 by omega) (show 109 < 2 ^ 31 by omega)), lts, nI_1, ai_wi, wi_wi, e_X9_restless hR2 (stm_wf hw (q + 1)).1 (show 8 ≤ n by omega)]
        refine ih _ (fun i hi => ?_) (fun i hi => ?_)
        · rw [es]
          by_cases d : i = 102 + s
          · rw [d, pk_us, pk_us]
          · rw [pk_un d, pk_un d]; exact h1 i hi
        · rw [pk_un (by omega)]; exact h2 i hi
theorem e_X9_keeps (h : RWl E S m M lo) (hw : WF M) (hn : 8 ≤ n) (hg : gr S 538 m = some (m + 12)) (hl : eN E (m + 12) = 7) : f_X9_keeps E n S m = some ((), wi S (m + 12) (fa_fill (oM M) (ai S (m + 12)) (cS M))) := by
  have hS := hw.lS
  have key := lp (N := cS M) (P := fun s k => f_X9_keeps_L2 E n k (wi S (m + 12) (fa_fill (oM M) (ai S (m + 12)) s)) m (nI s) = some ((), wi S (m + 12) (fa_fill (oM M) (ai S (m + 12)) (cS M)))) ?_ ?_ (cS M) 0 n (by omega) (by omega)
  · rw [fa_fill_0, wi_self rfl] at key
    exact key
  · intro k
    have h : RWl E (wi S (m + 12) (fa_fill (oM M) (ai S (m + 12)) (cS M))) m M lo := ⟨h.1, h.2.1, fun i hi => by rw [ai_wi_a (by omega)]; exact h.2.2.1 i hi, h.2.2.2⟩
    simp only [f_X9_keeps_L2, h.1, obs, h.2.1, mg4, h.v4, hw.t4, if_true]
  · intro s k hs ih
    have h : RWl E (wi S (m + 12) (fa_fill (oM M) (ai S (m + 12)) s)) m M lo := ⟨h.1, h.2.1, fun i hi => by rw [ai_wi_a (by omega)]; exact h.2.2.1 i hi, h.2.2.2⟩
    have g : gr (wi S (m + 12) (fa_fill (oM M) (ai S (m + 12)) s)) 538 m = some (m + 12) := hg
    simp only [f_X9_keeps_L2, h.1, obs, h.2.1, mg4, h.v4, hw.f4 hs, if_false, g, e_X9_courts h (show s < 7 by omega), bds, hl, nI_clamp (show s < 2 ^ 31 by omega), ifn (rinc (show s < 7 by omega) (show 7 < 2 ^ 31 by omega)), lts, nI_1, ai_wi, wi_wi]
    rw [show upd (fa_fill (oM M) (ai S (m + 12)) s) s (M (102 + s)) = fa_fill (oM M) (ai S (m + 12)) (s + 1) from fa_fill_succ (oM M) _ s]
    exact ih
theorem e_X9_endsCourtings {g : Nat → Int32} (h : RWl E (wi S (m + 1) g) m M lo) (hw : WF M) (hn : 8 ≤ n) (hg : gr S 538 m = some (m + 12)) (hl : eN E (m + 12) = 7) : f_X9_endsCourtings E n (wi S (m + 1) g) m = some ((), wi S (m + 1) (fb_put g (ai S (m + 12)) 102 (cS M))) := by
  have hS := hw.lS
  have hgM : ∀ i, i < 109 → g i = M i := fun i hi => by have := h.2.2.1 i hi; rw [ai_wi] at this; exact this
  have key := lp (N := cS M) (P := fun s k => f_X9_endsCourtings_L2 E n k (wi S (m + 1) (fb_put g (ai S (m + 12)) 102 s)) m (nI s) = some ((), wi S (m + 1) (fb_put g (ai S (m + 12)) 102 (cS M)))) ?_ ?_ (cS M) 0 n (by omega) (by omega)
  · rw [fb_put_0] at key
    exact key
  · intro k
    have g1 : gr (wi S (m + 1) (fb_put g (ai S (m + 12)) 102 (cS M))) 513 m = some (m + 1) := h.1
    have g4 : fb_put g (ai S (m + 12)) 102 (cS M) (Int32.toNatClampNeg 4) = M 4 := (fb_put_out (Or.inl (by decide))).trans (hgM 4 (by omega))
    simp only [f_X9_endsCourtings_L2, g1, obs, h.2.1, mg4, ai_wi, g4, hw.t4, if_true]
  · intro s k hs ih
    have g1 : gr (wi S (m + 1) (fb_put g (ai S (m + 12)) 102 s)) 513 m = some (m + 1) := h.1
    have g2 : gr (wi S (m + 1) (fb_put g (ai S (m + 12)) 102 s)) 538 m = some (m + 12) := hg
    have g4 : fb_put g (ai S (m + 12)) 102 s (Int32.toNatClampNeg 4) = M 4 := (fb_put_out (Or.inl (by decide))).trans (hgM 4 (by omega))
    have g5 : ai (wi S (m + 1) (fb_put g (ai S (m + 12)) 102 s)) (m + 12) = ai S (m + 12) := ai_wi_a (by omega)
    simp only [f_X9_endsCourtings_L2, g1, g2, obs, h.2.1, mg4, ai_wi, g4, hw.f4 hs, if_false, hl, g5, ixC, nI_clamp (show s < 2 ^ 31 by omega), nI_clamp (show 102 + s < 2 ^ 31 by omega), ifn (rinc (show s < 7 by omega) (show 7 < 2 ^ 31 by omega)), ifn (rinc (show 102 + s < 109 by omega) (show 109 < 2 ^ 31 by omega)), lts, nI_1, wi_wi, fb_put_succ]
    exact ih
end CLM
section CL2
variable {E : EN} {n c : Nat} {S : WS} {x : Nat} {M : Nat → Int32}
theorem op_hopes (h : Inv E c S x M) (hn : 8 ≤ n) (s : Int32) : OK E c (f_X8_hopes E n S c s) (fun S1 => f_X9_hopes E n S1 (c + 129) s) := by
  have hS := h.w.lS
  refine OK.r h (op_hopes0 h hn s) ?_
  by_cases c1 : inI s (M 4)
  · obtain ⟨j, hj, rfl⟩ := inI_j h.w.s4 (by omega) c1
    rw [if_pos c1, nI_clamp (show j < 2 ^ 31 by omega)]
    simp only [f_X9_hopes, e_X9_isSuitor h.o h.w, bds, ifb1 c1, e_X9_hopeOf h.o h.w hn hj]
  · rw [if_neg c1]; simp only [f_X9_hopes, e_X9_isSuitor h.o h.w, bds, ifb0 c1]
theorem op_peace (h : Inv E c S x M) (hn : 8 ≤ n) : OK E c (f_X8_peace E n S c) (fun S1 => f_X9_peace E n S1 (c + 129)) := by
  by_cases c1 : ¬ M 0 ≤ 0
  · have e := fho_congr (M := M) (N := M) (c := ai S (c + x + 9)) (d := oM M) h.w (fun _ _ => rfl) (fun i hi => h.m.hc i hi)
    by_cases c2 : fho M (oM M) = -1
    · exact OK.r h (v := 1) (by simp only [f_X8_peace, h.n0, obs, e_X3_isTold h.m, bds, ifb1 c1, h.m.g143, e_X3_firstHoping h.m h.w h.m.n9 hn, e, if_pos c2]) (by simp only [f_X9_peace, e_X9_isMountain h.o, bds, ifb1 c1, e_X9_restless h.o h.w hn, if_pos c2])
    · exact OK.r h (v := 0) (by simp only [f_X8_peace, h.n0, obs, e_X3_isTold h.m, bds, ifb1 c1, h.m.g143, e_X3_firstHoping h.m h.w h.m.n9 hn, e, if_neg c2]) (by simp only [f_X9_peace, e_X9_isMountain h.o, bds, ifb1 c1, e_X9_restless h.o h.w hn, if_neg c2])
  · exact OK.r h (v := -2) (by simp only [f_X8_peace, h.n0, obs, e_X3_isTold h.m, bds, ifb0 c1]) (by simp only [f_X9_peace, e_X9_isMountain h.o, bds, ifb0 c1])
theorem e_X8_copyRow {a b N : Nat} (ha : eN E a = N) (hb : eN E b = N) (hN : N < 2 ^ 31) : ∃ g, (∀ i, i < N → g i = ai S a i) ∧ f_X8_copyRow E n S a b = some ((), wi S b g) := by
  refine ⟨va_cpy (ai S a) (ai S b) 0 0 N, ?_, ?_⟩
  rotate_left
  · unfold f_X8_copyRow
    rw [ha, hb, show imin (Int32.ofNat N) (Int32.ofNat N) = nI N from by rw [show Int32.ofNat N = nI N from rfl, imin_nat hN hN, Nat.min_self], nI_clamp hN, show Int32.toNatClampNeg 0 = 0 from rfl, if_neg, lts]
    rintro (q | q | q | q | q)
    · exact absurd q (by decide)
    · exact absurd q (by decide)
    · exact nI_pos hN q
    · omega
    · omega
  · intro i hi
    rw [pk_cpy_in (by omega) (by omega)]
    congr 1; omega
theorem LE.at (h : LE E c) (i N : Nat) (hi : i < 149) (hN : (Kt.getD i (99, 0)).2 = N) : eN E (c + i) = N := (h i hi).trans hN
theorem e_X8_calm (h : Inv E c S x M) (hn : 60 ≤ n) {N : Nat} (hN : N ≤ 40) : ∃ g, (∀ i, i < 7 → g i = stm M N (102 + i)) ∧ f_X8_calmInThought E n S c (nI N) = some (pea M N 0, wi S (c + 79) g) := by
  have hS := h.w.lS
  have hx : x = 4 ∨ x = 17 := h.2.2.1.1
  have hg : gr S 460 c = some (c + 79) := h.s.g 460 0 79 (by decide)
  have hl : eN E (c + 79) = 7 := h.L.at 79 7 (by omega) (by decide)
  obtain ⟨g0, e0, hc⟩ := e_X8_copyRow (E := E) (n := n) (S := S) h.m.n9 hl (by decide)
  simp only [f_X8_calmInThought, h.n0, obs, h.m.g143, hg, hc, bds]
  have hM : ∀ g, RMt E (wi S (c + 79) g) (c + x) M := fun g => RMt.fr h.m (fun _ => rfl) (fun _ _ _ => rfl) (fun j h1 h2 => ai_wi_a (by omega))
  have hg' : ∀ g, gr (wi S (c + 79) g) 460 c = some (c + 79) := fun g => hg
  have hn' : ∀ g, gr (wi S (c + 79) g) 451 c = some (c + x) := fun g => h.n0
  refine lp (N := N + 1) (P := fun q k => ∀ g, (∀ i, i < 7 → g i = stm M (min q N) (102 + i)) → ∃ g', (∀ i, i < 7 → g' i = stm M N (102 + i)) ∧ f_X8_calmInThought_L16 E n k (wi S (c + 79) g) c (nI N) (nI q) = some (pea M N q, wi S (c + 79) g')) ?_ ?_ (N + 1) 0 n (by omega) (by omega) g0 (fun i hi => by rw [e0 i hi]; rw [show min 0 N = 0 by omega]; exact h.m.hc i hi)
  · intro k g h1
    rw [show min (N + 1) N = N by omega] at h1
    refine ⟨g, h1, ?_⟩
    simp only [f_X8_calmInThought_L16]
    rw [if_pos (nI_lt (by omega) (by omega))]
    unfold pea
    rw [show N + 1 - (N + 1) = 0 by omega, ff]
  · intro q k hq ih g h1
    rw [show min q N = q by omega] at h1
    obtain ⟨w, e1, e2⟩ := stm_wf h.w q
    have e4 : cS (stm M q) = cS M := cE (e1 4 (by omega))
    have ef : fho M g = fho (stm M q) (oM (stm M q)) := fho_congr h.w (fun i hi => (e1 i hi).symm) h1
    have hfh := e_X3_firstHoping (n := n) (hM g) h.w hl (show 8 ≤ n by omega)
    rw [ai_wi, ef] at hfh
    simp only [f_X8_calmInThought_L16, hn', hg', obs, hfh, bds]
    rw [if_neg (nI_nlt (by omega) (by omega))]
    unfold pea
    rw [show N + 1 - q = (N + 1 - (q + 1)) + 1 by omega, ff]
    by_cases d : fho (stm M q) (oM (stm M q)) = -1
    · rw [if_pos d, if_pos d]
      have e := stm_const d (N - q)
      rw [show q + (N - q) = N by omega] at e
      exact ⟨g, fun i hi => by rw [e]; exact h1 i hi, rfl⟩
    · rw [if_neg d, if_neg d]
      by_cases d2 : N ≤ q
      · rw [if_pos (nI_le d2 (by omega)), lts, nI_1]
        refine ih g (fun i hi => ?_)
        rw [show min (q + 1) N = q by omega]; exact h1 i hi
      · rw [if_neg (nI_ge (by omega) (by omega))]
        rcases fho_is (stm M q) (oM (stm M q)) with r | ⟨s, hs, r⟩
        · exact absurd r d
        · have es : stm M (q + 1) = upd (stm M q) (102 + s) (hop (stm M q) (oM (stm M q)) s) := by
            rw [stm, if_neg d, r, nI_clamp (show s < 2 ^ 31 by omega)]
          have hho := e_X3_hopeOf (n := n) (hM g) h.w hl (show 8 ≤ n by omega) (show s < cS M by omega)
          rw [ai_wi, hop_congr h.w (fun i hi => (e1 i hi).symm) h1 (show s < cS M by omega)] at hho
          rw [r]
          simp only [hho, bds, hl, nI_clamp (show s < 2 ^ 31 by omega), ifn (rinc (show s < 7 by omega) (show 7 < 2 ^ 31 by omega)), lts, nI_1, ai_wi, wi_wi]
          refine ih _ (fun i hi => ?_)
          rw [show min (q + 1) N = q + 1 by omega, es]
          by_cases t : i = s
          · rw [t, pk_us, pk_us]
          · rw [pk_un t, pk_un (show 102 + i ≠ 102 + s by omega)]; exact h1 i hi
/-- the model's thoughts, from keeping to restoring -/
theorem e_X9_calm (h : Inv E c S x M) (hn : 60 ≤ n) {N : Nat} (hN : N ≤ 40) : ∃ S1 S2 S3, f_X9_keeps E n S (c + 129) = some ((), S1) ∧ f_X9_settles E n S1 (c + 129) (nI N) = some (pea M N 0, S2) ∧ RWl E S2 (c + 129) (stm M N) (-1) ∧ f_X9_endsCourtings E n S2 (c + 129) = some ((), S3) ∧ KP c S S3 := by
  have hS := h.w.lS
  have hg : gr S 538 (c + 129) = some (c + 129 + 12) := h.s.g 538 129 141 (by decide)
  have hl : eN E (c + 129 + 12) = 7 := h.L.at 141 7 (by omega) (by decide)
  have k1 := e_X9_keeps (n := n) h.o h.w (by omega) hg hl
  have h1 : RWl E (wi S (c + 129 + 12) (fa_fill (oM M) (ai S (c + 129 + 12)) (cS M))) (c + 129) M (-1) := ⟨h.o.1, h.o.2.1, fun i hi => by rw [ai_wi_a (by omega)]; exact h.o.2.2.1 i hi, h.o.2.2.2⟩
  obtain ⟨g, e1, e2, e3⟩ := e_X9_settles h1 h.w hn hN
  obtain ⟨w, f1, f2⟩ := stm_wf h.w N
  have e4 : cS (stm M N) = cS M := cE (f1 4 (by omega))
  have h2 : RWl E (wi (wi S (c + 129 + 12) (fa_fill (oM M) (ai S (c + 129 + 12)) (cS M))) (c + 129 + 1) g) (c + 129) (stm M N) (-1) := h1.row e1
  have k3 := e_X9_endsCourtings (n := n) h2 w (by omega) hg hl
  refine ⟨_, _, _, k1, e3, h2, k3, ?_⟩
  rw [wi_self]
  · exact KP.wi (by unfold ka; omega)
  · funext i
    rw [ai_wi, e4]
    by_cases q : 102 ≤ i ∧ i < 102 + cS M
    · rw [fb_put_in q.1 q.2, fa_fill_in (by omega), h1.2.2.1 i (by omega)]
      show M (102 + (i - 102)) = M i
      rw [show 102 + (i - 102) = i by omega]
    · rw [fb_put_out (by omega)]
      by_cases q2 : i < 109
      · rw [e1 i q2, h1.2.2.1 i q2]
        by_cases q3 : i < 102
        · exact f1 i q3
        · exact f2 i (by omega)
      · exact e2 i (by omega)
theorem op_peaces (h : Inv E c S x M) (hn : 60 ≤ n) (z : Int32) : OK E c (f_X8_peaces E n S c z) (fun S1 => f_X9_peaces E n S1 (c + 129) z) := by
  by_cases c1 : ¬ M 0 ≤ 0
  · by_cases c2 : inI z (nI 41)
    · obtain ⟨N, hN, rfl⟩ := inI_j rfl (by decide) c2
      obtain ⟨g, e1, e2⟩ := e_X8_calm h hn (show N ≤ 40 by omega)
      have h1 := h.kp (KP.wi (c := c) (S := S) (a := c + 79) (g := g) (by unfold ka; omega))
      obtain ⟨S1, S2, S3, a1, a2, a3, a4, a5⟩ := e_X9_calm h1 hn (show N ≤ 40 by omega)
      refine OK.k h (v := pea M N 0) (S1 := wi S (c + 79) g) (S2 := S3) ?_ (KP.wi (by unfold ka; omega)) ?_ a5
      · simp only [f_X8_peaces, h.n0, obs, e_X3_isTold h.m, bds, ifb1 c1, if_neg c2.1, if_pos ((bnd (40 : Int32) 40 (by decide) rfl).mpr c2.2), e2]
      · simp only [f_X9_peaces, e_X9_isMountain h1.o, bds, ifb1 c1, inN 40 (nI 41) 40 (by decide) rfl rfl, ifb1 c2, a1, a2, a4]
    · refine OK.r h (v := -2) ?_ (by simp only [f_X9_peaces, e_X9_isMountain h.o, bds, ifb1 c1, inN 40 (nI 41) 40 (by decide) rfl rfl, ifb0 c2])
      simp only [f_X8_peaces, h.n0, obs, e_X3_isTold h.m, bds, ifb1 c1]
      by_cases c3 : z < 0
      · rw [if_pos c3]
      · rw [if_neg c3, if_neg (fun q => c2 ⟨c3, (bnd (40 : Int32) 40 (by decide) rfl).mp q⟩)]
  · exact OK.r h (v := -2) (by simp only [f_X8_peaces, h.n0, obs, e_X3_isTold h.m, bds, ifb0 c1]) (by simp only [f_X9_peaces, e_X9_isMountain h.o, bds, ifb0 c1])
theorem op_then (h : Inv E c S x M) (hn : 60 ≤ n) (s z : Int32) : OK E c (f_X8_then E n S c s z) (fun S1 => f_X9_then E n S1 (c + 129) s z) := by
  have hS := h.w.lS
  by_cases c1 : inI s (M 4)
  · obtain ⟨j, hj, rfl⟩ := inI_j h.w.s4 (by omega) c1
    by_cases c2 : inI z (nI 41)
    · obtain ⟨N, hN, rfl⟩ := inI_j rfl (by decide) c2
      obtain ⟨g, e1, e2⟩ := e_X8_calm h hn (show N ≤ 40 by omega)
      have h1 := h.kp (KP.wi (c := c) (S := S) (a := c + 79) (g := g) (by unfold ka; omega))
      obtain ⟨S1, S2, S3, a1, a2, a3, a4, a5⟩ := e_X9_calm h1 hn (show N ≤ 40 by omega)
      have hg : gr (wi S (c + 79) g) 460 c = some (c + 79) := h.s.g 460 0 79 (by decide)
      have hl : eN E (c + 79) = 7 := h.L.at 79 7 (by omega) (by decide)
      refine OK.k h (v := stm M N (102 + j)) (S1 := wi S (c + 79) g) (S2 := S3) ?_ (KP.wi (by unfold ka; omega)) ?_ a5
      · simp only [f_X8_then, h.n0, obs, e_X3_hasSuitor h.m, bds, ifb1 c1, if_neg c2.1, if_pos ((bnd (40 : Int32) 40 (by decide) rfl).mpr c2.2), e2, hg, hl, nI_clamp (show j < 2 ^ 31 by omega), ifn (rinc (show j < 7 by omega) (show 7 < 2 ^ 31 by omega)), ai_wi, e1 j (show j < 7 by omega)]
      · simp only [f_X9_then, e_X9_isSuitor h1.o h.w, bds, ifb1 c1, inN 40 (nI 41) 40 (by decide) rfl rfl, ifb1 c2, a1, a2, e_X9_courts a3 (show j < 7 by omega), a4]
    · refine OK.r h (v := -2) ?_ (by simp only [f_X9_then, e_X9_isSuitor h.o h.w, bds, ifb1 c1, inN 40 (nI 41) 40 (by decide) rfl rfl, ifb0 c2])
      simp only [f_X8_then, h.n0, obs, e_X3_hasSuitor h.m, bds, ifb1 c1]
      by_cases c3 : z < 0
      · rw [if_pos c3]
      · rw [if_neg c3, if_neg (fun q => c2 ⟨c3, (bnd (40 : Int32) 40 (by decide) rfl).mp q⟩)]
  · exact OK.r h (v := -2) (by simp only [f_X8_then, h.n0, obs, e_X3_hasSuitor h.m, bds, ifb0 c1]) (by simp only [f_X9_then, e_X9_isSuitor h.o h.w, bds, ifb0 c1])
end CL2
