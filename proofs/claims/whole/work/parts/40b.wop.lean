/-! Walks by the model; the calls -/
section WOQ
variable {E : EN} {n c : Nat} {S : WS} {x : Nat} {M : Nat → Int32}
/-- what a draw keeps -/
def FJ (S S' : WS) : Prop := (∀ f q, gi S' f q = gi S f q) ∧ (∀ q, ai S' q = ai S q) ∧ ∀ f q, f ≠ 545 → gj S' f q = gj S f q
theorem FJ.tr {S1 S2 : WS} (h : FJ S S1) (h2 : FJ S1 S2) : FJ S S2 := ⟨fun f q => (h2.1 f q).trans (h.1 f q), fun q => (h2.2.1 q).trans (h.2.1 q), fun f q a => (h2.2.2 f q a).trans (h.2.2 f q a)⟩
theorem FJ.sj {v : Int64} : FJ S (sj S 545 (c + 129) v) := ⟨fun _ _ => rfl, fun _ => rfl, fun f q hf => gj_sj_f hf⟩
theorem MWa.fj {S S' : WS} {A : AW} (h : MWa c A S) (k : FJ S S') : MWa c A S' := by
  obtain ⟨a1, ⟨a2, a3⟩, a4, a5, a6⟩ := h
  exact ⟨(k.1 _ _).trans a1, ⟨(k.1 _ _).trans a2, fun i hi => by rw [k.2.1]; exact a3 i hi⟩, (k.1 _ _).trans a4, fun z => (k.2.2 _ _ (by decide)).trans (a5 z), fun i hi => by rw [k.2.1]; exact a6 i hi⟩
theorem e_X9_draw {X : Nat} (hX : X < 2147483648) (hj : gj S 545 (c + 129) = lN X) : f_X9_draw E n S (c + 129) = some (nI (dvw (drw X)), sj S 545 (c + 129) (lN (drw X))) := by
  unfold f_X9_draw
  rw [if_neg cL1, hj, drw_l hX, lts, if_neg cL2, if_neg c100, gj_sj_eq, dvw_l (drw_lt X), lN_i]
theorem e_X9_misses (h : Inv E c S x M) (hn : 8 ≤ n) (p : Int32) {y : Nat} (hy : y < 30) {X : Nat} (hX : X < 2147483648) (hj : gj S 545 (c + 129) = lN X) : ∃ S', f_X9_misses E n S (c + 129) p (nI y) = some (b2i ((mis M p y (cS M) 0 X).1 = true), S') ∧ KP c S S' ∧ FJ S S' ∧ gj S' 545 (c + 129) = lN (mis M p y (cS M) 0 X).2 := by
  have hS := h.w.lS
  refine lp (N := cS M) (P := fun s k => ∀ S X, Inv E c S x M → X < 2147483648 → gj S 545 (c + 129) = lN X → ∃ S', f_X9_misses_L2 E n k S (c + 129) p (nI y) (nI s) = some (b2i ((mis M p y (cS M - s) s X).1 = true), S') ∧ KP c S S' ∧ FJ S S' ∧ gj S' 545 (c + 129) = lN (mis M p y (cS M - s) s X).2) ?_ ?_ (cS M) 0 n (by omega) (by omega) S X h hX hj
  · intro k S X h hX hj
    refine ⟨S, ?_, KP.rf, ⟨fun _ _ => rfl, fun _ => rfl, fun _ _ _ => rfl⟩, ?_⟩
    · simp only [f_X9_misses_L2, h.o.1, obs, h.o.2.1, mg4, h.o.v4, h.w.t4, if_true, Nat.sub_self, mis]
      rw [b2i_f (by decide)]
    · rw [Nat.sub_self, mis]; exact hj
  · intro s k hs ih S X h hX hj
    have kk : KP c S (sj S 545 (c + 129) (lN (drw X))) := KP.sj
    have ff : FJ S (sj S 545 (c + 129) (lN (drw X))) := FJ.sj
    have i2 := h.kp kk
    have hlt := drw_lt X
    simp only [f_X9_misses_L2, e_X9_draw hX hj, h.o.1, obs, h.o.2.1, mg4, h.o.v4, h.w.f4 hs, if_false, e_X9_hasStep h.o h.w hs, bds, b2i_eq0, lts, e_X9_fallOf i2.o i2.w hn (show s < 7 by omega) hy, nI_1]
    rw [show cS M - s = (cS M - (s + 1)) + 1 by omega, mis]
    generalize drw X = Y at kk ff i2 hlt ⊢
    by_cases c1 : hst M s p (nI y)
    · rw [if_neg (fun q => q ⟨nIm1 (by omega), c1⟩), if_pos c1]
      obtain ⟨f, hf, ef⟩ := fal_nat h.w hs hy
      have hd := dvw_lt Y
      rw [ef]
      by_cases c2 : dvw Y < f
      · rw [if_neg (nI_ge c2 (by omega)), if_pos (nI_lt c2 (by omega)), b2i_t rfl]
        exact ⟨_, rfl, kk, ff, gj_sj_eq⟩
      · rw [if_pos (nI_le (by omega) (by omega)), if_neg (nI_nlt (by omega) (by omega))]
        obtain ⟨S', e, e1, e2, e3⟩ := ih _ Y i2 hlt gj_sj_eq
        exact ⟨S', e, kk.tr e1, ff.tr e2, e3⟩
    · rw [if_pos (fun q => c1 q.2), if_neg c1]
      exact ih S X h hX hj
theorem e_X9_walks (h : Inv E c S x M) (hn : 20 ≤ n) {A : AW} (hV : AVal M A) (hA : MWa c A S) (h0 : aL A ≠ 0) {y : Nat} (hy : y < 30) {X : Nat} (hX : X < 2147483648) : ∃ S', f_X9_walks E n S (c + 129) (lN X) (nI y) = some (wlk M A y (aL A - 1) 1 X, S') ∧ KP c S S' ∧ FJ S S' := by
  have hP := h.w.lP
  have hL := hV.2.1
  have hQ := hV.2.2.2.1
  have kk : KP c S (sj S 545 (c + 129) (lN X)) := KP.sj
  have ff : FJ S (sj S 545 (c + 129) (lN X)) := FJ.sj
  have key := lp (N := aL A) (P := fun s k => 1 ≤ s → ∀ S X, Inv E c S x M → MWa c A S → X < 2147483648 → gj S 545 (c + 129) = lN X → ∃ S', f_X9_walks_L8 E n k S (c + 129) (nI y) (nI s) = some (wlk M A y (aL A - s) s X, S') ∧ KP c S S' ∧ FJ S S') ?_ ?_ (aL A - 1) 1 n (by omega) (by omega) (by omega) (sj S 545 (c + 129) (lN X)) X (h.kp kk) (hA.fj ff) hX gj_sj_eq
  · obtain ⟨S', e, e1, e2⟩ := key
    refine ⟨S', ?_, kk.tr e1, ff.tr e2⟩
    simp only [f_X9_walks, lts]
    exact e
  · intro k _ S X h hA hX hj
    obtain ⟨l, hl⟩ : ∃ l, aL A = l + 1 := ⟨aL A - 1, by omega⟩
    refine ⟨S, ?_, KP.rf, ⟨fun _ _ => rfl, fun _ => rfl, fun _ _ _ => rfl⟩⟩
    have b3 := hA.2.2.2.2
    simp only [f_X9_walks_L8, hA.2.2.1, if_pos (nI_le (Nat.le_refl (aL A)) (show aL A < 2 ^ 31 by omega)), h.g535, obs, h.l140, Nat.sub_self, wlk]
    rw [hl, nI_pred, nI_clamp (show l < 2 ^ 31 by omega), ifn (rinc (show l < 8 by omega) (show 8 < 2 ^ 31 by omega)), b3 l (by omega), Nat.add_sub_cancel]
  · intro s k hs ih h1 S X h hA hX hj
    obtain ⟨s, rfl⟩ : ∃ q, s = q + 1 := ⟨s - 1, by omega⟩
    obtain ⟨p, hp, ep⟩ := hQ s (by omega)
    obtain ⟨q, hq, eq⟩ := hQ (s + 1) (by omega)
    have b3 := hA.2.2.2.2
    obtain ⟨S2, e, e1, e2, e3⟩ := e_X9_misses (n := n) h (by omega) (pbt M (nI p) (nI q)) hy hX hj
    have i2 := h.kp e1
    simp only [f_X9_walks_L8, hA.2.2.1, if_neg (nI_ge hs (show aL A < 2 ^ 31 by omega)), h.g535, obs, h.l140, nI_pred, nI_clamp (show s < 2 ^ 31 by omega), nI_clamp (show s + 1 < 2 ^ 31 by omega), ifn (rinc (show s < 8 by omega) (show 8 < 2 ^ 31 by omega)), ifn (rinc (show s + 1 < 8 by omega) (show 8 < 2 ^ 31 by omega)), b3 s (by omega), b3 (s + 1) (by omega), lts, e_X9_pathBetween h.o h.w (show 11 ≤ n by omega), bds, ep, eq, e, b2i_eq0, i2.o.1, i2.o.2.1, ixH, nI_clamp (show 7 + q < 2 ^ 31 by omega), nI_clamp (show 7 + p < 2 ^ 31 by omega), ifn (rinc (show 7 + q < 109 by omega) (show 109 < 2 ^ 31 by omega)), ifn (rinc (show 7 + p < 109 by omega) (show 109 < 2 ^ 31 by omega)), i2.o.2.2.1 _ (show 7 + q < 109 by omega), i2.o.2.2.1 _ (show 7 + p < 109 by omega), nI_1]
    rw [show aL A - (s + 1) = (aL A - (s + 1 + 1)) + 1 by omega, wlk, show s + 1 - 1 = s by omega, ep, eq]
    by_cases c1 : (mis M (pbt M (nI p) (nI q)) y (cS M) 0 X).1 = true
    · rw [if_neg (fun z => z c1), if_pos c1, foo, nI_clamp (show p < 2 ^ 31 by omega), nI_clamp (show q < 2 ^ 31 by omega)]
      by_cases c2 : M (7 + p) ≤ M (7 + q)
      · rw [if_pos c2, if_pos c2]; exact ⟨S2, rfl, e1, e2⟩
      · rw [if_neg c2, if_neg c2]; exact ⟨S2, rfl, e1, e2⟩
    · rw [if_pos c1, if_neg c1]
      obtain ⟨S3, f, f1, f2⟩ := ih (by omega) S2 _ i2 (hA.fj e2) (mis_lt _ _ _ hX) e3
      exact ⟨S3, f, e1.tr f1, e2.tr f2⟩
theorem op_walk (h : Inv E c S x M) (hn : 30000000 ≤ n) (z w t y : Int32) : OK E c (f_X8_walk E n S c z w t y) (fun S1 => f_X9_walk E n S1 (c + 129) z w t y) := by
  have hW := h.w.lW
  have hY := h.w.lY
  by_cases c2 : inI z (nI 2000000001)
  · by_cases c1 : inI w (M 5) ∧ inI t (M 0) ∧ inI y (M 1)
    · obtain ⟨j, hj, rfl⟩ := inI_j h.w.s5 (by omega) c1.1
      obtain ⟨y, hy, rfl⟩ := inI_j h.w.s1 (by omega) c1.2.2
      obtain ⟨X, hX, rfl⟩ := inI_j rfl (by decide) c2
      obtain ⟨S1, S2, a1, i1, a3, a4, b1, i2, b3⟩ := two_ways h hn hj t (show y < 30 by omega)
      have cz : nI X ≤ 2000000000 := (bnd (2000000000 : Int32) 2000000000 (by decide) rfl).mpr c2.2
      have a8 := a4.2.1
      by_cases c3 : aL (wys M t j y) = 0
      · refine ⟨-1, S1, S2, x, M, ?_, ?_, i2⟩
        · simp only [f_X8_walk, f_X8_endOfWalk, e_X8_knowsWay h, bds, ifb1 c1, if_neg c2.1, if_pos cz, h.g456, h.n0, obs, a1, i1.g456, a3.2.2.1, if_pos c3, if_true]
        · simp only [f_X9_walk, e_X9_isSeed, e_X9_isAsked i1.o i1.w, bds, ifb1 c1, ifb1 c2, b1, b3.2.2.1]
          rw [if_pos (by rw [c3]; decide)]
      · have cl := e_X8_endOfWalk (n := n) i1 (by omega) a4 a3.2.2 c3 (show y < 30 by omega) (show X < 2147483648 by omega)
        obtain ⟨S3, md, k3, -⟩ := e_X9_walks (n := n) i2 (by omega) a4 b3 c3 (show y < 30 by omega) (show X < 2147483648 by omega)
        refine ⟨wlk M (wys M t j y) y (aL (wys M t j y) - 1) 1 X, S1, S3, x, M, ?_, ?_, i2.kp k3⟩
        · simp only [f_X8_walk, e_X8_knowsWay h, bds, ifb1 c1, if_neg c2.1, if_pos cz, h.g456, h.n0, obs, a1, nI_l (show X < 2 ^ 31 by omega), cl]
        · simp only [f_X9_walk, e_X9_isSeed, e_X9_isAsked i1.o i1.w, bds, ifb1 c1, ifb1 c2, b1, b3.2.2.1, if_neg (nI_ne0 (show 0 < aL (wys M t j y) by omega) (show aL (wys M t j y) < 2 ^ 31 by omega)), nI_l (show X < 2 ^ 31 by omega), md]
    · refine OK.r h (v := -2) (by simp only [f_X8_walk, e_X8_knowsWay h, bds, ifb0 c1]) (by simp only [f_X9_walk, e_X9_isSeed, e_X9_isAsked h.o h.w, bds, ifb1 c2, ifb0 c1])
  · refine OK.r h (v := -2) ?_ (by simp only [f_X9_walk, e_X9_isSeed, bds, ifb0 c2])
    by_cases c1 : inI w (M 5) ∧ inI t (M 0) ∧ inI y (M 1)
    · simp only [f_X8_walk, e_X8_knowsWay h, bds, ifb1 c1]
      by_cases c3 : z < 0
      · rw [if_pos c3]
      · rw [if_neg c3, if_neg (fun q => c2 ⟨c3, (bnd (2000000000 : Int32) 2000000000 (by decide) rfl).mp q⟩)]
    · simp only [f_X8_walk, e_X8_knowsWay h, bds, ifb0 c1]
/-- in how many of the walks i .. he is there in the end -/
noncomputable def wcn (M : Nat → Int32) (A : AW) (y : Nat) (t : Int32) (X : Nat) : Nat → Nat → Int32 → Int32
  | 0, _, u => u
  | k + 1, i, u => wcn M A y t X k (i + 1) (if wlk M A y (aL A - 1) 1 (X + i) = t then u + 1 else u)
theorem op_walks (h : Inv E c S x M) (hn : 30000000 ≤ n) (z m w t y : Int32) : OK E c (f_X8_walks E n S c z m w t y) (fun S1 => f_X9_walks_ E n S1 (c + 129) z m w t y) := by
  have hW := h.w.lW
  have hY := h.w.lY
  by_cases cc : inI z (nI 2000000001) ∧ (¬ m < 1 ∧ ¬ 20 < m) ∧ (inI w (M 5) ∧ inI t (M 0) ∧ inI y (M 1))
  · obtain ⟨c2, cm, c1⟩ := cc
    obtain ⟨j, hj, rfl⟩ := inI_j h.w.s5 (by omega) c1.1
    obtain ⟨y, hy, rfl⟩ := inI_j h.w.s1 (by omega) c1.2.2
    obtain ⟨X, hX, rfl⟩ := inI_j rfl (by decide) c2
    obtain ⟨S1, S2, a1, i1, a3, a4, b1, i2, b3⟩ := two_ways h hn hj t (show y < 30 by omega)
    have cz : ¬ (2000000000 : Int32) < nI X := fun q => c2.2 (by
      have h1 := (fa_lt _ _).mp q
      rw [show (2000000000 : Int32).toInt = 2000000000 by decide, nI_toInt (by omega)] at h1
      omega)
    obtain ⟨m, hm, rfl⟩ : ∃ q : Nat, (1 ≤ q ∧ q ≤ 20) ∧ m = nI q := by
      have h1 := cm.1
      have h2 := cm.2
      have e1 : (1 : Int32).toInt = 1 := by decide
      have e9 : (20 : Int32).toInt = 20 := by decide
      rw [fa_lt] at h1 h2
      obtain ⟨q, hq, rfl⟩ := nI_of (x := m) (by rw [fa_lt, show (0 : Int32).toInt = 0 by decide]; omega)
      rw [nI_toInt hq] at h1 h2
      exact ⟨q, by omega, rfl⟩
    have cm3 : nI m ≤ 20 := by
      have h2 := cm.2
      rw [fa_lt] at h2
      rw [fa_le]; omega
    have hin : ∀ S : WS, f_X9_in E n S (nI m).toInt64 (1 : Int64) (20 : Int64) = some (b2i True, S) := fun S => by
      rw [show (1 : Int64) = (1 : Int32).toInt64 by decide, show (20 : Int64) = (20 : Int32).toInt64 by decide, e_in32, b2i_c (q := True) ⟨fun _ => trivial, fun _ => cm⟩]
    have a8 := a4.2.1
    obtain ⟨A, hA⟩ : ∃ A, A = wys M t j y := ⟨_, rfl⟩
    rw [← hA] at a3 a4 b3 a8
    by_cases c3 : aL A = 0
    · refine ⟨-1, S1, S2, x, M, ?_, ?_, i2⟩
      · simp only [f_X8_walks, e_X8_knowsWay h, bds, ifb1 c1, if_neg c2.1, if_neg cz, if_neg cm.1, if_pos cm3, h.g456, h.n0, obs, a1, i1.g456, a3.2.2.1, if_pos c3, if_true]
      · simp only [f_X9_walks_, e_X9_isSeed, e_X9_isAsked i1.o i1.w, bds, ifb1 c1, ifb1 c2, hin, ifb1 trivial, b1, b3.2.2.1]
        rw [if_pos (by rw [c3]; decide)]
    · have cl : f_X8_walks_L72 E n n S1 c (nI X) (nI m) t (nI y) 0 0 = some (wcn M A y t X m 0 0, S1) := by
        refine lp (N := m) (P := fun s k => ∀ u, f_X8_walks_L72 E n k S1 c (nI X) (nI m) t (nI y) u (nI s) = some (wcn M A y t X (m - s) s u, S1)) ?_ ?_ m 0 n (by omega) (by omega) 0
        · intro k u
          simp only [f_X8_walks_L72, Nat.sub_self, wcn]
          rw [if_pos (nI_le (Nat.le_refl _) (by omega))]
        · intro s k hs ih u
          have e := e_X8_endOfWalk (n := n) i1 (by omega) a4 a3.2.2 c3 (show y < 30 by omega) (show X + s < 2147483648 by omega)
          simp only [f_X8_walks_L72, if_neg (nI_ge hs (show m < 2 ^ 31 by omega)), nI_l (show X < 2 ^ 31 by omega), nI_l (show s < 2 ^ 31 by omega), lN_add, e, bds, lts, nI_1]
          rw [show m - s = (m - (s + 1)) + 1 by omega, wcn]
          by_cases d : wlk M A y (aL A - 1) 1 (X + s) = t
          · rw [if_pos d, if_pos d]; exact ih _
          · rw [if_neg d, if_neg d]; exact ih _
      have md : ∃ S3, f_X9_walks__L58 E n n S2 (c + 129) (nI X) (nI m) t (nI y) 0 0 = some (wcn M A y t X m 0 0, S3) ∧ KP c S2 S3 := by
        refine lp (N := m) (P := fun s k => ∀ S2 u, Inv E c S2 x M → MWa c A S2 → ∃ S3, f_X9_walks__L58 E n k S2 (c + 129) (nI X) (nI m) t (nI y) u (nI s) = some (wcn M A y t X (m - s) s u, S3) ∧ KP c S2 S3) ?_ ?_ m 0 n (by omega) (by omega) S2 0 i2 b3
        · intro k S2 u i2 b3
          refine ⟨S2, ?_, KP.rf⟩
          simp only [f_X9_walks__L58, Nat.sub_self, wcn]
          rw [if_pos (nI_le (Nat.le_refl _) (by omega))]
        · intro s k hs ih S2 u i2 b3
          obtain ⟨S3, e, e1, e2⟩ := e_X9_walks (n := n) i2 (by omega) a4 b3 c3 (show y < 30 by omega) (show X + s < 2147483648 by omega)
          simp only [f_X9_walks__L58, if_neg (nI_ge hs (show m < 2 ^ 31 by omega)), nI_l (show X < 2 ^ 31 by omega), nI_l (show s < 2 ^ 31 by omega), lN_add, e, bds, lts, nI_1, add0]
          rw [show m - s = (m - (s + 1)) + 1 by omega, wcn]
          by_cases d : wlk M A y (aL A - 1) 1 (X + s) = t
          · rw [if_pos d, if_pos d]
            obtain ⟨S4, f, f1⟩ := ih S3 (u + 1) (i2.kp e1) (b3.fj e2)
            exact ⟨S4, f, e1.tr f1⟩
          · rw [if_neg d, if_neg d]
            obtain ⟨S4, f, f1⟩ := ih S3 u (i2.kp e1) (b3.fj e2)
            exact ⟨S4, f, e1.tr f1⟩
      obtain ⟨S3, md, k3⟩ := md
      refine ⟨wcn M A y t X m 0 0, S1, S3, x, M, ?_, ?_, i2.kp k3⟩
      · simp only [f_X8_walks, e_X8_knowsWay h, bds, ifb1 c1, if_neg c2.1, if_neg cz, if_neg cm.1, if_pos cm3, h.g456, h.n0, obs, a1, i1.g456, a3.2.2.1, if_neg c3, if_neg (nIm1 (show aL A < 2 ^ 31 by omega))]
        exact cl
      · simp only [f_X9_walks_, e_X9_isSeed, e_X9_isAsked i1.o i1.w, bds, ifb1 c1, ifb1 c2, hin, ifb1 trivial, b1, b3.2.2.1, if_neg (nI_ne0 (show 0 < aL A by omega) (show aL A < 2 ^ 31 by omega))]
        exact md
  · have hin : ∀ S : WS, f_X9_in E n S m.toInt64 (1 : Int64) (20 : Int64) = some (b2i (¬ m < 1 ∧ ¬ 20 < m), S) := fun S => by
      rw [show (1 : Int64) = (1 : Int32).toInt64 by decide, show (20 : Int64) = (20 : Int32).toInt64 by decide, e_in32]
    refine OK.r h (v := -2) ?_ ?_
    · simp only [f_X8_walks, e_X8_knowsWay h, bds]
      by_cases c1 : inI w (M 5) ∧ inI t (M 0) ∧ inI y (M 1)
      · rw [ifb1 c1]
        by_cases z1 : z < 0
        · rw [if_pos z1]
        · rw [if_neg z1]
          by_cases z2 : (2000000000 : Int32) < z
          · rw [if_pos z2]
          · rw [if_neg z2]
            by_cases m1 : m < 1
            · rw [if_pos m1]
            · rw [if_neg m1, if_neg]
              intro m2
              refine cc ⟨⟨z1, (bnd (2000000000 : Int32) 2000000000 (by decide) rfl).mp ?_⟩, ⟨m1, fun q => (fa_of_lt q).2.1 m2⟩, c1⟩
              rw [fa_le]; rw [fa_lt] at z2; omega
      · rw [ifb0 c1]
    · simp only [f_X9_walks_, e_X9_isSeed, bds, hin, e_X9_isAsked h.o h.w]
      by_cases c2 : inI z (nI 2000000001)
      · rw [ifb1 c2]
        by_cases c3 : ¬ m < 1 ∧ ¬ 20 < m
        · rw [ifb1 c3, ifb0 (fun q => cc ⟨c2, c3, q⟩)]
        · rw [ifb0 c3]
      · rw [ifb0 c2]
end WOQ
