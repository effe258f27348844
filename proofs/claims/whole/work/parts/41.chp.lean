/-! The cheapest way: need, sold -/
/-- one path relaxed, both ways -/
def rlx (op : Nat → Nat → Nat) (f : Nat → Nat) (u v w : Nat) : Nat → Nat := fun i => if i = u then min (f u) (op (f v) w) else if i = v then min (f v) (op (f u) w) else f i
abbrev en0 (M : Nat → Int32) (p : Nat) : Nat := (M (45 + 2 * p)).toNatClampNeg
abbrev en1 (M : Nat → Int32) (p : Nat) : Nat := (M (46 + 2 * p)).toNatClampNeg
/-- one round over the first so many paths -/
def rlo (M : Nat → Int32) (op : Nat → Nat → Nat) (pr : Nat → Option Nat) (f : Nat → Nat) : Nat → Nat → Nat
  | 0 => f
  | p + 1 => match pr p with
    | none => rlo M op pr f p
    | some w => rlx op (rlo M op pr f p) (en0 M p) (en1 M p) w
def rls (M : Nat → Int32) (op : Nat → Nat → Nat) (pr : Nat → Option Nat) (f : Nat → Nat) : Nat → Nat → Nat
  | 0 => f
  | k + 1 => rlo M op pr (rls M op pr f k) (cA M)
def f00 (s : Nat) : Nat → Nat := fun i => if i = s then 0 else 1000000
def pri : Option Nat → Int32
  | none => -1
  | some w => nI w
abbrev opx (z : Int32) : Nat → Nat → Nat := fun a w => if z = 0 then max a w else a + w
theorem imax_nat {a b : Nat} (ha : a < 2 ^ 31) (hb : b < 2 ^ 31) : imax (nI a) (nI b) = nI (max a b) := by
  unfold imax
  by_cases c : a < b
  · rw [if_pos (nI_lt c hb), Nat.max_eq_right (by omega)]
  · rw [if_neg (nI_nlt (by omega) ha), Nat.max_eq_left (by omega)]
theorem opx_le {z : Int32} {a w : Nat} : a ≤ opx z a w := by
  unfold opx
  by_cases c : z = 0
  · rw [if_pos c]; exact Nat.le_max_left _ _
  · rw [if_neg c]; omega
theorem opx_mono {z : Int32} {a b w : Nat} (h : a ≤ b) : opx z a w ≤ opx z b w := by
  unfold opx
  by_cases c : z = 0
  · rw [if_pos c, if_pos c]
    exact Nat.max_le.mpr ⟨Nat.le_trans h (Nat.le_max_left _ _), Nat.le_max_right _ _⟩
  · rw [if_neg c, if_neg c]; omega
theorem opx_lt {z : Int32} {a w : Nat} (ha : a ≤ 1000000) (hw : w ≤ 1000000) : opx z a w ≤ 2000000 := by
  unfold opx
  by_cases c : z = 0
  · rw [if_pos c]; simp only [Nat.max_def]; split <;> omega
  · rw [if_neg c]; omega
/-- one way, then the other: both at once -/
theorem rlx_12 {z : Int32} {a b w : Nat} : min a (opx z (min b (opx z a w)) w) = min a (opx z b w) := by
  have h1 : a ≤ opx z (opx z a w) w := Nat.le_trans (opx_le (w := w)) (opx_le (w := w))
  rcases Nat.le_total b (opx z a w) with h | h
  · rw [Nat.min_eq_left h]
  · rw [Nat.min_eq_right h, Nat.min_eq_left h1]
    have h2 := opx_mono (z := z) (w := w) h
    rw [Nat.min_eq_left (Nat.le_trans h1 h2)]
theorem rlx_bd {z : Int32} {f : Nat → Nat} {u v w i : Nat} (h : ∀ i, i < 8 → f i ≤ 1000000) (hu : u < 8) (hv : v < 8) (hi : i < 8) : rlx (opx z) f u v w i ≤ 1000000 := by
  unfold rlx
  have a1 := h u hu
  have a2 := h v hv
  have a3 := h i hi
  split
  · exact Nat.le_trans (Nat.min_le_left _ _) a1
  · split
    · exact Nat.le_trans (Nat.min_le_left _ _) a2
    · exact a3
theorem WF.pth {M : Nat → Int32} (hw : WF M) {p : Nat} (hp : p < cA M) : ∃ u v : Nat, u < cP M ∧ v < cP M ∧ u ≠ v ∧ M (45 + 2 * p) = nI u ∧ M (46 + 2 * p) = nI v ∧ en0 M p = u ∧ en1 M p = v := by
  have hP := hw.lP
  obtain ⟨u, v, hu, hv, huv, eu, ev⟩ := hw.2.2.2.2.2.2.1 p hp
  exact ⟨u, v, hu, hv, huv, eu, ev, by rw [en0, eu, nI_clamp (by omega)], by rw [en1, ev, nI_clamp (by omega)]⟩
theorem rlo_bd {M : Nat → Int32} (hw : WF M) {z : Int32} {pr : Nat → Option Nat} {f : Nat → Nat} (h : ∀ i, i < 8 → f i ≤ 1000000) : ∀ p, p ≤ cA M → ∀ i, i < 8 → rlo M (opx z) pr f p i ≤ 1000000 := by
  intro p
  induction p with
  | zero => intro _; exact h
  | succ p ih =>
    intro hp i hi
    have hP := hw.lP
    obtain ⟨u, v, hu, hv, -, -, -, e0, e1⟩ := hw.pth (show p < cA M by omega)
    rw [rlo]
    cases pr p with
    | none => exact ih (by omega) i hi
    | some w => exact rlx_bd (ih (by omega)) (by omega) (by omega) hi
theorem rls_bd {M : Nat → Int32} (hw : WF M) {z : Int32} {pr : Nat → Option Nat} {f : Nat → Nat} (h : ∀ i, i < 8 → f i ≤ 1000000) : ∀ k, ∀ i, i < 8 → rls M (opx z) pr f k i ≤ 1000000 := by
  intro k
  induction k with
  | zero => exact h
  | succ k ih => exact rlo_bd hw ih (cA M) (Nat.le_refl _)
theorem f00_bd {s i : Nat} : f00 s i ≤ 1000000 := by unfold f00; split <;> omega
section CHP
variable {E : EN} {n c : Nat} {S : WS} {x : Nat} {M : Nat → Int32}
def CO (c : Nat) (S : WS) (f : Nat → Nat) : Prop := ∀ i, i < 8 → ai S (c + 80) i = nI (f i)
def PR (c : Nat) (M : Nat → Int32) (pr : Nat → Option Nat) (S : WS) : Prop := ∀ p, p < cA M → ai S (c + 81) p = pri (pr p) ∧ ∀ w, pr p = some w → w ≤ 1000
theorem Inv.g461 (h : Inv E c S x M) : gr S 461 c = some (c + 80) := h.s.g 461 0 80 (by decide)
theorem Inv.g462 (h : Inv E c S x M) : gr S 462 c = some (c + 81) := h.s.g 462 0 81 (by decide)
theorem Inv.l80 (h : Inv E c S x M) : eN E (c + 80) = 8 := h.L.at 80 8 (by decide) (by decide)
theorem Inv.l81 (h : Inv E c S x M) : eN E (c + 81) = 10 := h.L.at 81 10 (by decide) (by decide)
theorem e_X8_passPrice (h : Inv E c S x M) {f : Nat → Nat} (hf : CO c S f) {u v w : Nat} (hu : u < 8) (hv : v < 8) (bu : f u ≤ 1000000) (bv : f v ≤ 1000000) (hw : w ≤ 1000) (z : Int32) : f_X8_passPrice E n S c (nI u) (nI v) (nI w) z = some ((), wi S (c + 80) (upd (ai S (c + 80)) v (nI (min (f v) (opx z (f u) w))))) := by
  have hb := opx_lt (z := z) bu (show w ≤ 1000000 by omega)
  unfold f_X8_passPrice
  by_cases c0 : z = 0
  · rw [if_pos c0]
    simp only [h.g461, obs, h.l80, nI_clamp (show u < 2 ^ 31 by omega), nI_clamp (show v < 2 ^ 31 by omega), ifn (rinc hu (show 8 < 2 ^ 31 by omega)), ifn (rinc hv (show 8 < 2 ^ 31 by omega)), hf u hu, hf v hv, lts, imax_nat (show f u < 2 ^ 31 by omega) (show w < 2 ^ 31 by omega)]
    rw [show max (f u) w = opx z (f u) w from (if_pos c0).symm, imin_nat (by omega) (by omega)]
  · rw [if_neg c0]
    simp only [h.g461, obs, h.l80, nI_clamp (show u < 2 ^ 31 by omega), nI_clamp (show v < 2 ^ 31 by omega), ifn (rinc hu (show 8 < 2 ^ 31 by omega)), ifn (rinc hv (show 8 < 2 ^ 31 by omega)), hf u hu, hf v hv, lts, nI_add]
    rw [show f u + w = opx z (f u) w from (if_neg c0).symm, imin_nat (by omega) (by omega)]
theorem e_X8_cheap_L35 (hn : 20 ≤ n) (k20 : WS → Nat → Int32 → Int32 → Int32 → Option (Int32 × WS)) {pr : Nat → Option Nat} {f : Nat → Nat} (hf : ∀ i, i < 8 → f i ≤ 1000000) (t z r : Int32) (h : Inv E c S x M) (hC : CO c S f) (hP : PR c M pr S) : ∃ S', f_X8_cheapest_L35 E n k20 n S c t z r 0 = k20 S' c t z (r + 1) ∧ KP c S S' ∧ CO c S' (rlo M (opx z) pr f (cA M)) ∧ PR c M pr S' := by
  have hA := h.w.lA
  refine lp (N := cA M) (P := fun p k => ∀ S, Inv E c S x M → CO c S (rlo M (opx z) pr f p) → PR c M pr S → ∃ S', f_X8_cheapest_L35 E n k20 k S c t z r (nI p) = k20 S' c t z (r + 1) ∧ KP c S S' ∧ CO c S' (rlo M (opx z) pr f (cA M)) ∧ PR c M pr S') ?_ ?_ (cA M) 0 n (by omega) (by omega) S h hC hP
  · intro k S h hC hP
    refine ⟨S, ?_, KP.rf, hC, hP⟩
    simp only [f_X8_cheapest_L35, h.n0, obs, h.m.i131, h.w.t2, if_true, lts]
  · intro p k hp ih S h hC hP
    have hPl := h.w.lP
    obtain ⟨u, v, hu, hv, huv, eu, ev, e0, e1⟩ := h.w.pth hp
    obtain ⟨p1, p2⟩ := hP p hp
    have bd0 := rlo_bd h.w (z := z) (pr := pr) hf p (by omega)
    cases e : pr p with
    | none =>
      have p1 : ai S (c + 81) p = -1 := by rw [p1, e]; rfl
      simp only [f_X8_cheapest_L35, h.n0, obs, h.m.i131, h.w.f2 hp, if_false, h.g462, h.l81, nI_clamp (show p < 2 ^ 31 by omega), ifn (rinc (show p < 10 by omega) (show 10 < 2 ^ 31 by omega)), p1, lts, nI_1]
      rw [if_pos True.intro]
      refine ih S h ?_ hP
      rw [rlo, e]; exact hC
    | some w =>
      have hw := p2 w e
      have p1 : ai S (c + 81) p = nI w := by rw [p1, e]; rfl
      simp only [f_X8_cheapest_L35, h.n0, obs, h.m.i131, h.w.f2 hp, if_false, h.g462, h.l81, nI_clamp (show p < 2 ^ 31 by omega), ifn (rinc (show p < 10 by omega) (show 10 < 2 ^ 31 by omega)), p1, lts, nI_1]
      obtain ⟨S1, hS1⟩ : ∃ S1, S1 = wi S (c + 80) (upd (ai S (c + 80)) v (nI (min (rlo M (opx z) pr f p v) (opx z (rlo M (opx z) pr f p u) w)))) := ⟨_, rfl⟩
      have k1 : KP c S S1 := by rw [hS1]; exact KP.wi (by unfold ka; omega)
      have i1 := h.kp k1
      have C1 : CO c S1 (fun i => if i = v then min (rlo M (opx z) pr f p v) (opx z (rlo M (opx z) pr f p u) w) else rlo M (opx z) pr f p i) := by
        intro i hi
        rw [hS1, ai_wi]
        by_cases ei : i = v
        · subst ei; rw [pk_us]; simp only [if_true]
        · rw [pk_un ei, hC i hi]; simp only [ei, if_false]
      have p1' : ai S1 (c + 81) p = nI w := by rw [hS1, ai_wi_a (by omega), p1]
      have q1 := e_X8_passPrice (n := n) h hC (u := u) (v := v) (w := w) (by omega) (by omega) (bd0 u (by omega)) (bd0 v (by omega)) hw z
      have q2 := e_X8_passPrice (n := n) i1 C1 (u := v) (v := u) (w := w) (by omega) (by omega) (by simp only [if_true]; exact Nat.le_trans (Nat.min_le_left _ _) (bd0 v (by omega))) (by simp only [huv, if_false]; exact bd0 u (by omega)) hw z
      simp only [if_true, huv, if_false] at q2
      rw [if_neg (nIm1 (show w < 2 ^ 31 by omega))]
      simp only [h.m.g136, h.m.g137, h.m.n2, h.m.n3, obs, nI_clamp (show p < 2 ^ 31 by omega), ifn (rinc (show p < 10 by omega) (show 10 < 2 ^ 31 by omega)), (h.m.hp p hp).1, (h.m.hp p hp).2, eu, ev, q1, bds]
      rw [← hS1]
      simp only [i1.n0, i1.g462, i1.m.g136, i1.m.g137, h.m.n2, h.m.n3, h.l81, obs, nI_clamp (show p < 2 ^ 31 by omega), ifn (rinc (show p < 10 by omega) (show 10 < 2 ^ 31 by omega)), (i1.m.hp p hp).1, (i1.m.hp p hp).2, eu, ev, p1', q2, bds]
      obtain ⟨S2, hS2⟩ : ∃ S2, S2 = wi S1 (c + 80) (upd (ai S1 (c + 80)) u (nI (min (rlo M (opx z) pr f p u) (opx z (min (rlo M (opx z) pr f p v) (opx z (rlo M (opx z) pr f p u) w)) w)))) := ⟨_, rfl⟩
      have k2 : KP c S1 S2 := by rw [hS2]; exact KP.wi (by unfold ka; omega)
      rw [← hS2]
      obtain ⟨S3, r1, r2, r3, r4⟩ := ih S2 (i1.kp k2) (fun i hi => by
        rw [rlo, e, hS2, ai_wi]
        simp only [rlx, e0, e1]
        by_cases ei : i = u
        · subst ei; rw [pk_us, if_pos rfl, rlx_12]
        · rw [pk_un ei, C1 i hi, if_neg ei]) (fun q hq => by
        rw [hS2, ai_wi_a (by omega), hS1, ai_wi_a (by omega)]; exact hP q hq)
      exact ⟨S3, r1, (k1.tr k2).tr r2, r3, r4⟩
theorem e_X8_cheapest (hn : 20 ≤ n) {pr : Nat → Option Nat} {s t : Nat} (hs : s < cP M) (ht : t < cP M) (z : Int32) (h : Inv E c S x M) (hP : PR c M pr S) : ∃ S', f_X8_cheapest E n S c (nI s) (nI t) z = some (if 1000000 ≤ rls M (opx z) pr (f00 s) (cP M) t then -1 else nI (rls M (opx z) pr (f00 s) (cP M) t), S') ∧ KP c S S' := by
  have hPl := h.w.lP
  have bd : ∀ k i, i < 8 → rls M (opx z) pr (f00 s) k i ≤ 1000000 := rls_bd h.w (fun i _ => f00_bd)
  obtain ⟨g, g1, g2, g3⟩ := e_fillI (E := E) (n := n) (S := S) (v := 1000000) h.l80 (by decide) (by omega)
  obtain ⟨S1, hS1⟩ : ∃ S1, S1 = wi (wi S (c + 80) g) (c + 80) (upd (ai (wi S (c + 80) g) (c + 80)) s 0) := ⟨_, rfl⟩
  have k1 : KP c S S1 := by rw [hS1]; exact (KP.wi (by unfold ka; omega)).tr (KP.wi (by unfold ka; omega))
  have C1 : CO c S1 (f00 s) := by
    intro i hi
    rw [hS1, ai_wi, ai_wi]
    unfold f00
    by_cases e : i = s
    · subst e; rw [pk_us, if_pos rfl]; rfl
    · rw [pk_un e, g1 i hi, if_neg e]; rfl
  have P1 : PR c M pr S1 := fun p hp => by rw [hS1, ai_wi_a (by omega), ai_wi_a (by omega)]; exact hP p hp
  have key := lp (N := cP M) (P := fun r k => ∀ S, Inv E c S x M → CO c S (rls M (opx z) pr (f00 s) r) → PR c M pr S → ∃ S', f_X8_cheapest_L20 E n k S c (nI t) z (nI r) = some (if 1000000 ≤ rls M (opx z) pr (f00 s) (cP M) t then -1 else nI (rls M (opx z) pr (f00 s) (cP M) t), S') ∧ KP c S S') ?_ ?_ (cP M) 0 n (by omega) (by omega) S1 (h.kp k1) C1 P1
  · obtain ⟨S', e, e1⟩ := key
    refine ⟨S', ?_, k1.tr e1⟩
    have q : gr (wi S (c + 80) g) 461 c = some (c + 80) := h.g461
    simp only [f_X8_cheapest, h.g461, obs, g3, bds, q, h.l80, nI_clamp (show s < 2 ^ 31 by omega), ifn (rinc (show s < 8 by omega) (show 8 < 2 ^ 31 by omega)), lts]
    rw [← hS1]; exact e
  · intro k S h hC hP
    refine ⟨S, ?_, KP.rf⟩
    have b := bd (cP M) t (by omega)
    simp only [f_X8_cheapest_L20, h.n0, obs, h.m.i129, h.w.t0, if_true, h.g461, h.l80, nI_clamp (show t < 2 ^ 31 by omega), ifn (rinc (show t < 8 by omega) (show 8 < 2 ^ 31 by omega)), hC t (by omega)]
    by_cases d : 1000000 ≤ rls M (opx z) pr (f00 s) (cP M) t
    · rw [if_pos d, if_pos (show (1000000 : Int32) ≤ nI _ from nI_le (a := 1000000) d (by omega))]
    · rw [if_neg d, if_neg (show ¬ (1000000 : Int32) ≤ nI _ from nI_ge (b := 1000000) (by omega) (by decide))]
  · intro r k hr ih S h hC hP
    simp only [f_X8_cheapest_L20, h.n0, obs, h.m.i129, h.w.f0 hr, if_false]
    obtain ⟨S1, e, e1, e2, e3⟩ := e_X8_cheap_L35 (n := n) hn (f_X8_cheapest_L20 E n k) (bd r) (nI t) z (nI r) h hC hP
    rw [e, nI_1]
    obtain ⟨S2, f1, f2⟩ := ih S1 (h.kp e1) e2 e3
    exact ⟨S2, f1, e1.tr f2⟩
/-- what one path lacks -/
def lkn (M : Nat → Int32) (y : Int32) (l p : Nat) : Option Nat := lcn (drp M p).toNatClampNeg (stp M (nI p) y (-1) (cS M)) l
theorem op_sold (h : Inv E c S x M) (hn : 200 ≤ n) (w t y : Int32) : OK E c (f_X8_sold E n S c w t y) (fun S1 => f_X9_sold E n S1 (c + 129) w t y) := by
  have hW := h.w.lW
  have hA := h.w.lA
  have hPl := h.w.lP
  have hS := h.w.lS
  by_cases c1 : inI w (M 5) ∧ inI t (M 0) ∧ inI y (M 1)
  · obtain ⟨j, hj, rfl⟩ := inI_j h.w.s5 (by omega) c1.1
    obtain ⟨t, ht, rfl⟩ := inI_j h.w.s0 (by omega) c1.2.1
    obtain ⟨l, a, hl, ha, e1, e2⟩ := h.w.walk hj
    have hpr : ∀ p, p < cA M → ∃ d, d ≤ 99 ∧ drp M p = nI d ∧ lkn M y l p = lcn d (stp M (nI p) y (-1) (cS M)) l ∧ ∀ w, lkn M y l p = some w → w ≤ 99 := by
      intro p hp
      obtain ⟨d, hd, ed⟩ := drp_nat h.w hp
      have e : lkn M y l p = lcn d (stp M (nI p) y (-1) (cS M)) l := by rw [lkn, ed, nI_clamp (by omega)]
      exact ⟨d, hd, ed, e, fun w hw => lcn_le (by rw [← e]; exact hw) hd⟩
    have bd : ∀ k i, i < 8 → rls M (opx 1) (lkn M y l) (f00 a) k i ≤ 1000000 := rls_bd h.w (fun i _ => f00_bd)
    have cl : ∃ S1, f_X8_sold_L16 E n n S c (nI j) (nI t) y 0 = some (if 1000000 ≤ rls M (opx 1) (lkn M y l) (f00 a) (cP M) t then -1 else nI (rls M (opx 1) (lkn M y l) (f00 a) (cP M) t), S1) ∧ KP c S S1 := by
      refine lp (N := cA M) (P := fun s k => ∀ S, Inv E c S x M → (∀ p, p < s → ai S (c + 81) p = pri (lkn M y l p)) → ∃ S1, f_X8_sold_L16 E n k S c (nI j) (nI t) y (nI s) = some (if 1000000 ≤ rls M (opx 1) (lkn M y l) (f00 a) (cP M) t then -1 else nI (rls M (opx 1) (lkn M y l) (f00 a) (cP M) t), S1) ∧ KP c S S1) ?_ ?_ (cA M) 0 n (by omega) (by omega) S h (fun p hp => by omega)
      · intro k S h hq
        obtain ⟨S1, f1, f2⟩ := e_X8_cheapest (n := n) (pr := lkn M y l) (by omega) ha ht 1 h (fun p hp => ⟨hq p hp, fun w hw => by
          obtain ⟨d, -, -, -, hle⟩ := hpr p hp
          have := hle w hw; omega⟩)
        refine ⟨S1, ?_, f2⟩
        simp only [f_X8_sold_L16, h.n0, obs, h.m.i131, h.w.t2, if_true, h.m.g146, h.m.n12, nI_clamp (show j < 2 ^ 31 by omega), ifn (rinc (show j < 4 by omega) (show 4 < 2 ^ 31 by omega)), (h.m.hk j hj).2, e2, f1, bds]
      · intro s k hs ih S h hq
        obtain ⟨d, hd, ed, el, -⟩ := hpr s hs
        simp only [f_X8_sold_L16, h.n0, obs, h.m.i131, h.w.f2 hs, if_false, h.g462, h.m.g145, h.m.n11, nI_clamp (show j < 2 ^ 31 by omega), ifn (rinc (show j < 4 by omega) (show 4 < 2 ^ 31 by omega)), (h.m.hk j hj).1, e1, e_X3_lackingOn h.m h.w (show 8 ≤ n by omega) hs hd ed hl, bds, h.l81, nI_clamp (show s < 2 ^ 31 by omega), ifn (rinc (show s < 10 by omega) (show 10 < 2 ^ 31 by omega)), lts, nI_1]
        have kk : KP c S (wi S (c + 81) (upd (ai S (c + 81)) s (lcI d (stp M (nI s) y (-1) (cS M)) l))) := KP.wi (by unfold ka; omega)
        obtain ⟨S1, f1, f2⟩ := ih _ (h.kp kk) (fun p hp => by
          rw [ai_wi]
          by_cases e : p = s
          · subst e
            rw [pk_us, el, lcI]
            cases lcn d (stp M (nI p) y (-1) (cS M)) l <;> rfl
          · rw [pk_un e]; exact hq p (by omega))
        exact ⟨S1, f1, kk.tr f2⟩
    have md : ∀ S, Inv E c S x M → ∃ S1, f_X9_sold_L16 E n n S (c + 129) (nI j) (nI t) y 0 = some (if 1000000 ≤ rls M (opx 1) (lkn M y l) (f00 a) (cP M) t then -1 else nI (rls M (opx 1) (lkn M y l) (f00 a) (cP M) t), S1) ∧ KP c S S1 := by
      intro S h
      have g544 : ∀ {S}, Inv E c S x M → gr S 544 (c + 129) = some (c + 144) := fun h => h.s.g 544 129 144 (by decide)
      have l144 : eN E (c + 144) = 8 := h.L.at 144 8 (by decide) (by decide)
      have ks : ∀ {S : WS} {g : Nat → Int32}, KP c S (wi S (c + 144) g) := fun {S g} => KP.wi (by unfold ka; omega)
      have L70 : ∀ k58 : WS → Nat → Int32 → Int32 → Int32 → Int32 → Option (Int32 × WS), ∀ (S : WS) (f : Nat → Nat) (r : Int32), (∀ i, i < 8 → f i ≤ 1000000) → Inv E c S x M → (∀ i, i < cP M → ai S (c + 144) i = nI (f i)) → ∃ S', f_X9_sold_L70 E n k58 n S (c + 129) (nI j) (nI t) y r 0 = k58 S' (c + 129) (nI j) (nI t) y (r + 1) ∧ KP c S S' ∧ ∀ i, i < cP M → ai S' (c + 144) i = nI (rlo M (opx 1) (lkn M y l) f (cA M) i) := by
        intro k58 S f r hf h hC
        refine lp (N := cA M) (P := fun p k => ∀ S, Inv E c S x M → (∀ i, i < cP M → ai S (c + 144) i = nI (rlo M (opx 1) (lkn M y l) f p i)) → ∃ S', f_X9_sold_L70 E n k58 k S (c + 129) (nI j) (nI t) y r (nI p) = k58 S' (c + 129) (nI j) (nI t) y (r + 1) ∧ KP c S S' ∧ ∀ i, i < cP M → ai S' (c + 144) i = nI (rlo M (opx 1) (lkn M y l) f (cA M) i)) ?_ ?_ (cA M) 0 n (by omega) (by omega) S h hC
        · intro k S h hC
          refine ⟨S, ?_, KP.rf, hC⟩
          simp only [f_X9_sold_L70, h.o.1, obs, h.o.2.1, mg2, h.o.v2, h.w.t2, if_true, lts]
        · intro p k hp ih S h hC
          obtain ⟨u, v, hu, hv, huv, eu, ev, e0, e1'⟩ := h.w.pth hp
          obtain ⟨d, hd, ed, el, hle⟩ := hpr p hp
          have bd0 := rlo_bd h.w (z := 1) (pr := lkn M y l) hf p (by omega)
          have bu := bd0 u (by omega)
          have bv := bd0 v (by omega)
          obtain ⟨w, hw, ew, hwn⟩ : ∃ w, w ≤ 1000000 ∧ lcF d (stp M (nI p) y (-1) (cS M)) l = nI w ∧ ∀ i, rlo M (opx 1) (lkn M y l) f (p + 1) i = rlx (opx 1) (rlo M (opx 1) (lkn M y l) f p) u v w i ∨ (¬ i = u ∧ ¬ i = v) ∨ w = 1000000 := by
            unfold lcF
            rw [← el]
            cases e : lkn M y l p with
            | none => exact ⟨1000000, Nat.le_refl _, rfl, fun i => Or.inr (Or.inr rfl)⟩
            | some w =>
              refine ⟨w, by have := hle w e; omega, rfl, fun i => Or.inl ?_⟩
              rw [rlo, e]
              simp only [e0, e1']
          have hstep : ∀ i, i < cP M → rlo M (opx 1) (lkn M y l) f (p + 1) i = rlx (opx 1) (rlo M (opx 1) (lkn M y l) f p) u v w i := by
            intro i hi
            cases e : lkn M y l p with
            | some w' =>
              have : nI w' = nI w := by rw [← ew, lcF, ← el, e]
              rw [nI_eq (by have := hle w' e; omega) (by omega)] at this
              subst this
              rw [rlo, e]
              simp only [e0, e1']
            | none =>
              have : nI 1000000 = nI w := by rw [← ew, lcF, ← el, e]; rfl
              rw [nI_eq (by decide) (by omega)] at this
              subst this
              have bi := bd0 i (by omega)
              rw [rlo, e]
              simp only [rlx, opx]
              by_cases ei : i = u
              · subst ei; rw [if_pos rfl, if_neg (by decide), Nat.min_eq_left (by omega)]
              · rw [if_neg ei]
                by_cases ej : i = v
                · subst ej; rw [if_pos rfl, if_neg (by decide), Nat.min_eq_left (by omega)]
                · rw [if_neg ej]
          obtain ⟨S1, hS1⟩ : ∃ S1, S1 = wi S (c + 144) (upd (ai S (c + 144)) u (nI (min (rlo M (opx 1) (lkn M y l) f p u) (rlo M (opx 1) (lkn M y l) f p v + w)))) := ⟨_, rfl⟩
          have k1 : KP c S S1 := by rw [hS1]; exact ks
          have i1 := h.kp k1
          have a1u : ai S1 (c + 144) u = nI (min (rlo M (opx 1) (lkn M y l) f p u) (rlo M (opx 1) (lkn M y l) f p v + w)) := by rw [hS1, ai_wi, pk_us]
          have a1v : ai S1 (c + 144) v = nI (rlo M (opx 1) (lkn M y l) f p v) := by rw [hS1, ai_wi, pk_un (fun q => huv q.symm)]; exact hC v hv
          have mn : min (rlo M (opx 1) (lkn M y l) f p u) (rlo M (opx 1) (lkn M y l) f p v + w) ≤ 1000000 := Nat.le_trans (Nat.min_le_left _ _) bu
          simp only [f_X9_sold_L70, h.o.1, obs, h.o.2.1, mg2, h.o.v2, h.w.f2 hp, if_false, e_X9_leapOf h.o (show j < 4 by omega), e1, e_X9_lacksOf h.o h.w hn hp hd ed hl, ew, e_X9_endOf0 h.o (show p < 10 by omega), e_X9_endOf1 h.o (show p < 10 by omega), bds, eu, ev, g544 h, l144, nI_clamp (show u < 2 ^ 31 by omega), nI_clamp (show v < 2 ^ 31 by omega), ifn (rinc (show u < 8 by omega) (show 8 < 2 ^ 31 by omega)), ifn (rinc (show v < 8 by omega) (show 8 < 2 ^ 31 by omega)), hC u hu, hC v hv, nI_add, imin_nat (show rlo M (opx 1) (lkn M y l) f p u < 2 ^ 31 by omega) (show rlo M (opx 1) (lkn M y l) f p v + w < 2 ^ 31 by omega), lts, nI_1]
          rw [← hS1]
          simp only [g544 i1, obs, l144, nI_clamp (show u < 2 ^ 31 by omega), nI_clamp (show v < 2 ^ 31 by omega), ifn (rinc (show u < 8 by omega) (show 8 < 2 ^ 31 by omega)), ifn (rinc (show v < 8 by omega) (show 8 < 2 ^ 31 by omega)), a1u, a1v, nI_add, imin_nat (show rlo M (opx 1) (lkn M y l) f p v < 2 ^ 31 by omega) (show min (rlo M (opx 1) (lkn M y l) f p u) (rlo M (opx 1) (lkn M y l) f p v + w) + w < 2 ^ 31 by omega)]
          obtain ⟨S2, hS2⟩ : ∃ S2, S2 = wi S1 (c + 144) (upd (ai S1 (c + 144)) v (nI (min (rlo M (opx 1) (lkn M y l) f p v) (min (rlo M (opx 1) (lkn M y l) f p u) (rlo M (opx 1) (lkn M y l) f p v + w) + w)))) := ⟨_, rfl⟩
          rw [← hS2]
          have k2 : KP c S1 S2 := by rw [hS2]; exact ks
          obtain ⟨S3, r1, r2, r3⟩ := ih S2 (i1.kp k2) (fun i hi => by
            rw [hstep i hi, hS2, ai_wi]
            have q12 := rlx_12 (z := 1) (a := rlo M (opx 1) (lkn M y l) f p v) (b := rlo M (opx 1) (lkn M y l) f p u) (w := w)
            simp only [opx, show ¬ (1 : Int32) = 0 by decide, if_false] at q12
            simp only [rlx, opx, show ¬ (1 : Int32) = 0 by decide, if_false]
            by_cases ej : i = v
            · subst ej
              rw [pk_us, if_neg (fun q => huv q.symm), if_pos rfl]
              exact congrArg nI q12
            · rw [pk_un ej]
              by_cases ei : i = u
              · subst ei; rw [a1u, if_pos rfl]
              · rw [if_neg ei, if_neg ej, hS1, ai_wi, pk_un ei]; exact hC i hi)
          exact ⟨S3, r1, (k1.tr k2).tr r2, r3⟩
      have L58 : ∀ S, Inv E c S x M → (∀ i, i < cP M → ai S (c + 144) i = nI (f00 a i)) → ∃ S1, f_X9_sold_L58 E n n S (c + 129) (nI j) (nI t) y 0 = some (if 1000000 ≤ rls M (opx 1) (lkn M y l) (f00 a) (cP M) t then -1 else nI (rls M (opx 1) (lkn M y l) (f00 a) (cP M) t), S1) ∧ KP c S S1 := by
        intro S h hC
        refine lp (N := cP M) (P := fun r k => ∀ S, Inv E c S x M → (∀ i, i < cP M → ai S (c + 144) i = nI (rls M (opx 1) (lkn M y l) (f00 a) r i)) → ∃ S1, f_X9_sold_L58 E n k S (c + 129) (nI j) (nI t) y (nI r) = some (if 1000000 ≤ rls M (opx 1) (lkn M y l) (f00 a) (cP M) t then -1 else nI (rls M (opx 1) (lkn M y l) (f00 a) (cP M) t), S1) ∧ KP c S S1) ?_ ?_ (cP M) 0 n (by omega) (by omega) S h hC
        · intro k S h hC
          refine ⟨S, ?_, KP.rf⟩
          have b := bd (cP M) t (by omega)
          simp only [f_X9_sold_L58, e_X9_places h.o, bds, h.w.t0, if_true, g544 h, obs, l144, nI_clamp (show t < 2 ^ 31 by omega), ifn (rinc (show t < 8 by omega) (show 8 < 2 ^ 31 by omega)), hC t ht]
          by_cases d : 1000000 ≤ rls M (opx 1) (lkn M y l) (f00 a) (cP M) t
          · rw [if_pos d, if_neg (show ¬ nI _ < (1000000 : Int32) from nI_nlt (b := 1000000) d (by omega))]
          · rw [if_neg d, if_pos (show nI _ < (1000000 : Int32) from nI_lt (b := 1000000) (by omega) (by decide))]
        · intro r k hr ih S h hC
          simp only [f_X9_sold_L58, e_X9_places h.o, bds, h.w.f0 hr, if_false]
          obtain ⟨S1, e, e1, e2⟩ := L70 (f_X9_sold_L58 E n k) S _ (nI r) (bd r) h hC
          rw [e, nI_1]
          obtain ⟨S2, f1, f2⟩ := ih S1 (h.kp e1) e2
          exact ⟨S2, f1, e1.tr f2⟩
      refine lp (N := cP M) (P := fun s k => ∀ S, Inv E c S x M → (∀ i, i < s → ai S (c + 144) i = nI (f00 a i)) → ∃ S1, f_X9_sold_L16 E n k S (c + 129) (nI j) (nI t) y (nI s) = some (if 1000000 ≤ rls M (opx 1) (lkn M y l) (f00 a) (cP M) t then -1 else nI (rls M (opx 1) (lkn M y l) (f00 a) (cP M) t), S1) ∧ KP c S S1) ?_ ?_ (cP M) 0 n (by omega) (by omega) S h (fun i hi => by omega)
      · intro k S h hC
        simp only [f_X9_sold_L16, e_X9_places h.o, bds, h.w.t0, if_true]
        exact L58 S h hC
      · intro s k hs ih S h hC
        simp only [f_X9_sold_L16, e_X9_places h.o, bds, h.w.f0 hs, if_false, g544 h, obs, e_X9_homeOf h.o (show j < 4 by omega), e2, l144, nI_clamp (show s < 2 ^ 31 by omega), ifn (rinc (show s < 8 by omega) (show 8 < 2 ^ 31 by omega)), lts, nI_1]
        by_cases d : s = a
        · rw [if_pos (by rw [d])]
          obtain ⟨S1, f1, f2⟩ := ih (wi S (c + 144) (upd (ai S (c + 144)) s 0)) (h.kp ks) (fun i hi => by
            rw [ai_wi]
            by_cases e : i = s
            · subst e; rw [pk_us, f00, if_pos d]; rfl
            · rw [pk_un e]; exact hC i (by omega))
          exact ⟨S1, f1, ks.tr f2⟩
        · rw [if_neg (fun q => d ((nI_eq (by omega) (by omega)).mp q))]
          obtain ⟨S1, f1, f2⟩ := ih (wi S (c + 144) (upd (ai S (c + 144)) s 1000000)) (h.kp ks) (fun i hi => by
            rw [ai_wi]
            by_cases e : i = s
            · subst e; rw [pk_us, f00, if_neg d]; rfl
            · rw [pk_un e]; exact hC i (by omega))
          exact ⟨S1, f1, ks.tr f2⟩
    obtain ⟨S1, f1, f2⟩ := cl
    obtain ⟨S2, g1, g2⟩ := md S1 (h.kp f2)
    refine OK.k h ?_ f2 ?_ g2 (v := if 1000000 ≤ rls M (opx 1) (lkn M y l) (f00 a) (cP M) t then -1 else nI (rls M (opx 1) (lkn M y l) (f00 a) (cP M) t))
    · simp only [f_X8_sold, e_X8_knowsWay h, bds, ifb1 c1]
      exact f1
    · simp only [f_X9_sold, e_X9_isAsked (h.kp f2).o h.w, bds, ifb1 c1]
      exact g1
  · exact OK.r h (v := -2) (by simp only [f_X8_sold, e_X8_knowsWay h, bds, ifb0 c1]) (by simp only [f_X9_sold, e_X9_isAsked h.o h.w, bds, ifb0 c1])
end CHP
