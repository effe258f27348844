/-! The class's search: what is noted, what is laid ahead, the choices one after the other -/
theorem pf_lI {a : Nat} (h : a < 2 ^ 63) : (lN a).toInt = (a : Int) := lg_ofNat_toInt h
theorem pf_shr {a d : Nat} {D : Int64} (hD : (D.toBitVec.smod 64).toNat = d) (h : a < 2 ^ 62) : lN a >>> D = lN (a / 2 ^ d) := by
  have hd : a / 2 ^ d ≤ a := Nat.div_le_self _ _
  apply Int64.toInt_inj.mp
  have e : (lN a >>> D).toInt = (lN a).toInt >>> d := by
    rw [← hD]
    exact BitVec.toInt_sshiftRight ..
  rw [e, Int.shiftRight_eq_div_pow, pf_lI (by omega), pf_lI (by omega)]
  rfl
theorem sh3 : ∀ k, k < 64 → (((nI k).toInt64 &&& 63).toBitVec.smod 64).toNat = k := by decide +kernel
theorem ix3m (i : Nat) : nI i * (3 : Int32) = nI (i * 3) := by show nI i * nI 3 = _; rw [pk_mul]
theorem sh1 : ∀ p, p < 21 → (1 : Int64) <<< ((nI (p * 3)).toInt64 &&& 63) = lN (2 ^ (p * 3)) := by decide +kernel
theorem pkf_60 {F : Nat} {k : Nat → Nat} (hF : F ≤ 20) (h : ∀ j, j < F → k j ≤ 7) : pkf F k < 2 ^ 61 := by
  have a := pkf_lt F k h
  have b : 8 ^ F ≤ 8 ^ 20 := Nat.pow_le_pow_right (by decide) hF
  have d : (8 : Nat) ^ 20 < 2 ^ 61 := by decide
  omega
theorem pkf_x {F i : Nat} {k : Nat → Nat} (hF : F ≤ 20) (hi : i < F) (h : ∀ j, j < F → k j ≤ 7) : (lN (pkf F k) >>> ((nI i * (3 : Int32)).toInt64 &&& 63)) &&& (7 : Int64) = lN (k i) := by
  have a := pkf_60 hF h
  rw [ix3m, pf_shr (sh3 (i * 3) (by omega)) (by omega), show (7 : Int64) = lN (2 ^ 3 - 1) from rfl, fb_maskL, show (2 : Nat) ^ 3 = 8 from rfl, pkf_get F k i hi h]
def bcx (x0 : Int32) : Int32 :=
  lt (x0 - (((x0.toUInt32 >>> ((1 : Int32).toUInt32 &&& Int32.toUInt32 31)).toInt32) &&& (1431655765 : Int32))) fun y1 =>
  lt ((y1 &&& (858993459 : Int32)) + (((y1.toUInt32 >>> ((2 : Int32).toUInt32 &&& Int32.toUInt32 31)).toInt32) &&& (858993459 : Int32))) fun y2 =>
  lt ((y2 + ((y2.toUInt32 >>> ((4 : Int32).toUInt32 &&& Int32.toUInt32 31)).toInt32)) &&& (252645135 : Int32)) fun y3 =>
  lt (y3 + ((y3.toUInt32 >>> ((8 : Int32).toUInt32 &&& Int32.toUInt32 31)).toInt32)) fun y4 =>
  lt (y4 + ((y4.toUInt32 >>> ((16 : Int32).toUInt32 &&& Int32.toUInt32 31)).toInt32)) fun y5 =>
  y5 &&& (63 : Int32)
theorem bcx_na : ∀ m, m < 32 → bcx (nI m) = nI (na m 5) := by decide +kernel
theorem e_bitCount {E : EN} {n : Nat} {S : WS} {m : Nat} (hm : m < 32) : f_J6_bitCount_0f7a4 E n S (nI m) = some (nI (na m 5), S) := by
  rw [← bcx_na m hm]; rfl
theorem alw_for {M : Nat → Int32} (hw : WF M) {s b : Nat} (hs : s < cS M) (hb : b < cB M) : alw M s (b + 1) ↔ forI M (nI s) (nI b) := by
  have hB := hw.lB
  obtain ⟨k, q, f, -, -, -, hf, -, -, ef⟩ := hw.2.2.2.2.2.2.2.2.2.1 s hs
  have h2 : 2 ^ cB M ≤ 2 ^ 4 := Nat.pow_le_pow_right (by decide) hB
  rw [forI_iff hw hs hb, ef, bitI (by omega) (by omega)]
  unfold alw chs
  rw [ef, nI_clamp (by omega), Nat.testBit_eq_decide_div_mod_eq, Nat.testBit_eq_decide_div_mod_eq, show 2 ^ (b + 1) = 2 * 2 ^ b by rw [Nat.pow_succ]; omega, ← Nat.div_div_eq_div_mul, show (2 * f + 1) / 2 = f by omega]
theorem alw_b {M : Nat → Int32} (hw : WF M) {s b : Nat} (hs : s < cS M) (h : alw M s (b + 1)) : b < cB M := by
  have hB := hw.lB
  obtain ⟨k, q, f, -, -, -, hf, -, -, ef⟩ := hw.2.2.2.2.2.2.2.2.2.1 s hs
  have h2 : 2 ^ cB M ≤ 2 ^ 4 := Nat.pow_le_pow_right (by decide) hB
  apply Classical.byContradiction
  intro q
  have e2 : 2 ^ (cB M + 1) = 2 * 2 ^ cB M := by rw [Nat.pow_succ]; omega
  have : (chs M s).testBit (b + 1) = false := Nat.testBit_lt_two_pow (Nat.lt_of_lt_of_le (show chs M s < 2 ^ (cB M + 1) by unfold chs; rw [ef, nI_clamp (by omega)]; omega) (Nat.pow_le_pow_right (by decide) (by omega)))
  rw [h] at this; cases this
theorem orb_cB {M : Nat → Int32} (hw : WF M) {ab : Nat → Nat → Nat → Nat} {s i : Nat} (hs : s < cS M) : orb M ab s 4 i = orb M ab s (cB M) i := by
  have hB := hw.lB
  have key : ∀ k, orb M ab s (cB M + k) i = orb M ab s (cB M) i := by
    intro k
    induction k with
    | zero => rfl
    | succ k ih =>
      show orb M ab s (cB M + k + 1) i = _
      rw [orb, if_neg (fun q => by have := alw_b hw hs q; omega)]; exact ih
  have := key (4 - cB M)
  rw [show cB M + (4 - cB M) = 4 by omega] at this
  exact this
section SRC
variable {E : EN} {n c hc F : Nat} {S S' : WS} {x : Nat} {M : Nat → Int32} {ab : Nat → Nat → Nat → Nat} {J : WS → Prop} {CC : (Nat → Nat) → Prop}
def CG (c : Nat) (S S' : WS) : Prop := (∀ f q, gr S' f q = gr S f q) ∧ (∀ f q, f ≠ 262 → f ≠ 263 → f ≠ 264 → gi S' f q = gi S f q) ∧ (∀ q, q ≠ c + 55 → q ≠ c + 56 → q ≠ c + 57 → ai S' q = ai S q) ∧ ∀ q, aj S' q = aj S q
/-- what a judgement changes: what is known of comings alone -/
def CJ (c : Nat) (S S' : WS) : Prop := (∀ f q, gr S' f q = gr S f q) ∧ (∀ f q, gi S' f q = gi S f q) ∧ (∀ q, q ≠ c + 73 → ai S' q = ai S q) ∧ ∀ q, aj S' q = aj S q
/-- what the search's own work changes -/
def CH (c : Nat) (S S' : WS) : Prop := (∀ f q, gr S' f q = gr S f q) ∧ (∀ f q, f < 256 ∨ 264 < f → gi S' f q = gi S f q) ∧ ∀ q, q < c + 51 ∨ c + 57 < q → ai S' q = ai S q
theorem CG.rf : CG c S S := ⟨fun _ _ => rfl, fun _ _ _ _ _ => rfl, fun _ _ _ _ => rfl, fun _ => rfl⟩
theorem CG.tr {S1 S2 : WS} (h : CG c S S1) (h2 : CG c S1 S2) : CG c S S2 := ⟨fun f q => (h2.1 f q).trans (h.1 f q), fun f q a b d => (h2.2.1 f q a b d).trans (h.2.1 f q a b d), fun q a b d => (h2.2.2.1 q a b d).trans (h.2.2.1 q a b d), fun q => (h2.2.2.2 q).trans (h.2.2.2 q)⟩
theorem CH.tr {S1 S2 : WS} (h : CH c S S1) (h2 : CH c S1 S2) : CH c S S2 := ⟨fun f q => (h2.1 f q).trans (h.1 f q), fun f q a => (h2.2.1 f q a).trans (h.2.1 f q a), fun q a => (h2.2.2 q a).trans (h.2.2 q a)⟩
theorem CH.rf : CH c S S := ⟨fun _ _ => rfl, fun _ _ _ => rfl, fun _ _ => rfl⟩
theorem CG.ch (h : CG c S S') : CH c S S' := ⟨h.1, fun f q a => h.2.1 f q (by omega) (by omega) (by omega), fun q a => h.2.2.1 q (by omega) (by omega) (by omega)⟩
def CBr (c : Nat) (M : Nat → Int32) (B : BW) (S : WS) : Prop := gi S 262 (c + 50) = nI (bT B) ∧ gi S 263 (c + 50) = (if bT B = 0 then -1 else nI (bH B)) ∧ gi S 264 (c + 50) = (if bT B = 0 then -1 else nI (bB B)) ∧ ∀ s, s < cS M → ai S (c + 56) s = (if bT B = 0 then -1 else nI (bF B s) - 1) ∧ ai S (c + 57) s = nI (bM B s)
def SS (c F : Nat) (M : Nat → Int32) (ab : Nat → Nat → Nat → Nat) (S : WS) : Prop := gi S 256 (c + 50) = nI (cS M) ∧ (∀ s, s < cS M → ai S (c + 51) s = nI (chs M s)) ∧ (∀ s v, s < cS M → alw M s v → aj S (c + 52) (s * 5 + v) = lN (pkf F (abc ab s v))) ∧ (∀ k d, d + k = cS M → aj S (c + 53) d = lN (pkf F (mst M ab k d))) ∧ ∀ k d, d + k = cS M → ai S (c + 54) d = nI (cml M k d)
theorem SS.cg (h : SS c F M ab S) (k : CG c S S') : SS c F M ab S' := by
  obtain ⟨a1, a2, a3, a4, a5⟩ := h
  refine ⟨(k.2.1 _ _ (by decide) (by decide) (by decide)).trans a1, fun s hs => ?_, fun s v hs hv => ?_, fun q d hd => ?_, fun q d hd => ?_⟩
  · rw [k.2.2.1 _ (by omega) (by omega) (by omega)]; exact a2 s hs
  · rw [k.2.2.2]; exact a3 s v hs hv
  · rw [k.2.2.2]; exact a4 q d hd
  · rw [k.2.2.1 _ (by omega) (by omega) (by omega)]; exact a5 q d hd
theorem SS.cj (h : SS c F M ab S) (k : CJ c S S') : SS c F M ab S' := by
  obtain ⟨a1, a2, a3, a4, a5⟩ := h
  refine ⟨(k.2.1 _ _).trans a1, fun s hs => ?_, fun s v hs hv => ?_, fun q d hd => ?_, fun q d hd => ?_⟩
  · rw [k.2.2.1 _ (by omega)]; exact a2 s hs
  · rw [k.2.2.2]; exact a3 s v hs hv
  · rw [k.2.2.2]; exact a4 q d hd
  · rw [k.2.2.1 _ (by omega)]; exact a5 q d hd
theorem CBr.cj {B : BW} (h : CBr c M B S) (k : CJ c S S') : CBr c M B S' := by
  obtain ⟨a1, a2, a3, a4⟩ := h
  exact ⟨(k.2.1 _ _).trans a1, (k.2.1 _ _).trans a2, (k.2.1 _ _).trans a3, fun s hs => by rw [k.2.2.1 _ (by omega), k.2.2.1 _ (by omega)]; exact a4 s hs⟩
theorem Inv.g257 (h : Inv E c S x M) : gr S 257 (c + 50) = some (c + 51) := h.s.g 257 50 51 (by decide)
theorem Inv.g258 (h : Inv E c S x M) : gr S 258 (c + 50) = some (c + 52) := h.s.g 258 50 52 (by decide)
theorem Inv.g259 (h : Inv E c S x M) : gr S 259 (c + 50) = some (c + 53) := h.s.g 259 50 53 (by decide)
theorem Inv.g260 (h : Inv E c S x M) : gr S 260 (c + 50) = some (c + 54) := h.s.g 260 50 54 (by decide)
theorem Inv.g261 (h : Inv E c S x M) : gr S 261 (c + 50) = some (c + 55) := h.s.g 261 50 55 (by decide)
theorem Inv.g265 (h : Inv E c S x M) : gr S 265 (c + 50) = some (c + 56) := h.s.g 265 50 56 (by decide)
theorem Inv.g266 (h : Inv E c S x M) : gr S 266 (c + 50) = some (c + 57) := h.s.g 266 50 57 (by decide)
theorem Inv.l51 (h : Inv E c S x M) : eN E (c + 51) = 7 := h.L.at 51 7 (by decide) (by decide)
theorem Inv.l52 (h : Inv E c S x M) : eN E (c + 52) = 35 := h.L.at 52 35 (by decide) (by decide)
theorem Inv.l53 (h : Inv E c S x M) : eN E (c + 53) = 8 := h.L.at 53 8 (by decide) (by decide)
theorem Inv.l54 (h : Inv E c S x M) : eN E (c + 54) = 8 := h.L.at 54 8 (by decide) (by decide)
theorem Inv.l55 (h : Inv E c S x M) : eN E (c + 55) = 7 := h.L.at 55 7 (by decide) (by decide)
theorem Inv.l56 (h : Inv E c S x M) : eN E (c + 56) = 7 := h.L.at 56 7 (by decide) (by decide)
theorem Inv.l57 (h : Inv E c S x M) : eN E (c + 57) = 7 := h.L.at 57 7 (by decide) (by decide)
/-- the note's last loop -/
theorem e_X5_note_L (hn : 10 ≤ n) {d : Nat} {c0 : Nat → Nat} (hd : d ≤ cS M) (c5 : ∀ s, s < d → c0 s < 5) (c00 : ∀ s, d ≤ s → c0 s = 0) (fl : Int32) {B : BW} (o : Nat → Int32) (h : Inv E c S x M) (h256 : gi S 256 (c + 50) = nI (cS M)) (h51 : ∀ s, s < cS M → ai S (c + 51) s = nI (chs M s)) (hp : ∀ s, s < d → ai S (c + 55) s = nI (c0 s)) (h7 : ∀ s, s < cS M → ai S (c + 57) s = nI (bM B s)) (h6 : ∀ s, s < cS M → ai S (c + 56) s = o s) : ∃ S', f_X5_noteAll_L92 E n n S (c + 50) (nI d) fl 0 = some ((), S') ∧ KP c S S' ∧ (∀ f q, gr S' f q = gr S f q) ∧ (∀ f q, gi S' f q = gi S f q) ∧ (∀ q, q ≠ c + 56 → q ≠ c + 57 → ai S' q = ai S q) ∧ (∀ q, aj S' q = aj S q) ∧ (∀ s, s < cS M → ai S' (c + 57) s = nI (bM B s ||| um M (cS M) d c0 s)) ∧ ∀ s, s < cS M → ai S' (c + 56) s = if fl = 0 then o s else nI (c0 s) - 1 := by
  have hS := h.w.lS
  refine lp (N := cS M) (P := fun s k => ∀ S, Inv E c S x M → gi S 256 (c + 50) = nI (cS M) → (∀ s, s < cS M → ai S (c + 51) s = nI (chs M s)) → (∀ s, s < d → ai S (c + 55) s = nI (c0 s)) → (∀ i, i < cS M → ai S (c + 57) i = if i < s then nI (bM B i ||| um M (cS M) d c0 i) else nI (bM B i)) → (∀ i, i < cS M → ai S (c + 56) i = if i < s then (if fl = 0 then o i else nI (c0 i) - 1) else o i) → ∃ S', f_X5_noteAll_L92 E n k S (c + 50) (nI d) fl (nI s) = some ((), S') ∧ KP c S S' ∧ (∀ f q, gr S' f q = gr S f q) ∧ (∀ f q, gi S' f q = gi S f q) ∧ (∀ q, q ≠ c + 56 → q ≠ c + 57 → ai S' q = ai S q) ∧ (∀ q, aj S' q = aj S q) ∧ (∀ s, s < cS M → ai S' (c + 57) s = nI (bM B s ||| um M (cS M) d c0 s)) ∧ ∀ s, s < cS M → ai S' (c + 56) s = if fl = 0 then o s else nI (c0 s) - 1) ?_ ?_ (cS M) 0 n (by omega) (by omega) S h h256 h51 hp (fun i hi => by rw [if_neg (by omega)]; exact h7 i hi) (fun i hi => by rw [if_neg (by omega)]; exact h6 i hi)
  · intro k S h h256 h51 hp h7 h6
    refine ⟨S, ?_, KP.rf, fun _ _ => rfl, fun _ _ => rfl, fun _ _ _ => rfl, fun _ => rfl, fun i hi => by rw [h7 i hi, if_pos hi], fun i hi => by rw [h6 i hi, if_pos hi]⟩
    simp only [f_X5_noteAll_L92, h256, if_pos (nI_le (Nat.le_refl (cS M)) (show cS M < 2 ^ 31 by omega))]
  · intro s k hs ih S h h256 h51 hp h7 h6
    have s7 : ai S (c + 57) s = nI (bM B s) := by rw [h7 s hs, if_neg (by omega)]
    -- the row of what is seen
    obtain ⟨S1, hS1⟩ : ∃ S1, S1 = wi S (c + 57) (upd (ai S (c + 57)) s (nI (bM B s ||| um M (cS M) d c0 s))) := ⟨_, rfl⟩
    have k1 : KP c S S1 := by rw [hS1]; exact KP.wi (by unfold ka; omega)
    have i1 := h.kp k1
    have a1 : ∀ q, q ≠ c + 57 → ai S1 q = ai S q := fun q hq => by rw [hS1, ai_wi_a hq]
    have b7 : ∀ i, i < cS M → ai S1 (c + 57) i = if i < s + 1 then nI (bM B i ||| um M (cS M) d c0 i) else nI (bM B i) := by
      intro i hi
      rw [hS1, ai_wi]
      by_cases e : i = s
      · subst e; rw [pk_us, if_pos (by omega)]
      · rw [pk_un e, h7 i hi]
        by_cases e2 : i < s
        · rw [if_pos e2, if_pos (by omega)]
        · rw [if_neg e2, if_neg (by omega)]
    have g1 : ∀ f q, gr S1 f q = gr S f q := fun f q => by rw [hS1]; rfl
    have j1 : ∀ f q, gi S1 f q = gi S f q := fun f q => by rw [hS1]; rfl
    have l1 : ∀ q, aj S1 q = aj S q := fun q => by rw [hS1]; rfl
    have stepJ : f_X5_noteAll_L92 E n (k + 1) S (c + 50) (nI d) fl (nI s) = (if fl = 0 then f_X5_noteAll_L92 E n k S1 (c + 50) (nI d) fl (nI (s + 1)) else f_X5_noteAll_L92 E n k (wi S1 (c + 56) (upd (ai S1 (c + 56)) s (nI (c0 s) - 1))) (c + 50) (nI d) fl (nI (s + 1))) := by
      simp only [f_X5_noteAll_L92, f_X5_noteAll_J134, h256, if_neg (nI_ge hs (show cS M < 2 ^ 31 by omega)), h.g266, h.g257, h.g261, obs, h.l51, h.l55, h.l57, nI_clamp (show s < 2 ^ 31 by omega), ifn (rinc (show s < 7 by omega) (show 7 < 2 ^ 31 by omega)), s7, h51 s hs, lts, nI_1]
      by_cases e : d ≤ s
      · rw [if_pos (nI_le e (by omega)), fa_or, show chs M s = um M (cS M) d c0 s by unfold um; rw [if_neg (by omega), if_pos hs], ← hS1]
        by_cases f0 : fl = 0
        · rw [if_pos f0, if_pos f0]
        · rw [if_neg f0, if_neg f0]
          simp only [i1.g265, obs, if_pos (nI_le e (show s < 2 ^ 31 by omega)), h.l56, ifn (rinc (show s < 7 by omega) (show 7 < 2 ^ 31 by omega))]
          rw [c00 s e]; rfl
      · have hp1 : ai S1 (c + 55) s = nI (c0 s) := by rw [a1 _ (by omega)]; exact hp s (by omega)
        have c5s := c5 s (by omega)
        rw [if_neg (nI_ge (by omega) (by omega)), hp s (by omega), shl1 (c0 s) (by omega), fa_or, show 2 ^ (c0 s) = um M (cS M) d c0 s by unfold um; rw [if_pos (by omega)], ← hS1]
        by_cases f0 : fl = 0
        · rw [if_pos f0, if_pos f0]
        · rw [if_neg f0, if_neg f0]
          simp only [i1.g265, i1.g261, obs, if_neg (nI_ge (show s < d by omega) (show d < 2 ^ 31 by omega)), h.l56, h.l55, ifn (rinc (show s < 7 by omega) (show 7 < 2 ^ 31 by omega)), hp1]
    rw [stepJ]
    by_cases f0 : fl = 0
    · rw [if_pos f0]
      obtain ⟨S2, e1, e2, e3, e4, e5, e6, e7, e8⟩ := ih S1 i1 ((j1 _ _).trans h256) (fun s hs => by rw [a1 _ (by omega)]; exact h51 s hs) (fun s hs => by rw [a1 _ (by omega)]; exact hp s hs) b7 (fun i hi => by
        rw [a1 _ (by omega), h6 i hi, if_pos f0]
        by_cases e : i < s
        · rw [if_pos e, if_pos (by omega)]
        · rw [if_neg e]; split <;> rfl)
      exact ⟨S2, e1, k1.tr e2, fun f q => (e3 f q).trans (g1 f q), fun f q => (e4 f q).trans (j1 f q), fun q q1 q2 => (e5 q q1 q2).trans (a1 q q2), fun q => (e6 q).trans (l1 q), e7, e8⟩
    · rw [if_neg f0]
      have k2 : KP c S1 (wi S1 (c + 56) (upd (ai S1 (c + 56)) s (nI (c0 s) - 1))) := KP.wi (by unfold ka; omega)
      obtain ⟨S2, e1, e2, e3, e4, e5, e6, e7, e8⟩ := ih (wi S1 (c + 56) (upd (ai S1 (c + 56)) s (nI (c0 s) - 1))) (i1.kp k2) ((j1 _ _).trans h256) (fun s hs => by rw [ai_wi_a (by omega), a1 _ (by omega)]; exact h51 s hs) (fun s hs => by rw [ai_wi_a (by omega), a1 _ (by omega)]; exact hp s hs) (fun i hi => by rw [ai_wi_a (by omega)]; exact b7 i hi) (fun i hi => by
        rw [ai_wi]
        by_cases e : i = s
        · subst e; rw [pk_us, if_pos (by omega), if_neg f0]
        · rw [pk_un e, a1 _ (by omega), h6 i hi, if_neg f0]
          by_cases e2 : i < s
          · rw [if_pos e2, if_pos (by omega)]
          · rw [if_neg e2, if_neg (by omega)])
      exact ⟨S2, e1, (k1.tr k2).tr e2, fun f q => (e3 f q).trans (g1 f q), fun f q => (e4 f q).trans (j1 f q), fun q q1 q2 => (e5 q q1 q2).trans ((ai_wi_a q1).trans (a1 q q2)), fun q => (e6 q).trans (l1 q), e7, e8⟩
theorem e_X5_noteAll (h : Inv E c S x M) (hn : 10 ≤ n) (hS : SS c F M ab S) {d k : Nat} (hdk : d + k = cS M) {c0 : Nat → Nat} (c5 : ∀ s, s < d → c0 s < 5) (c00 : ∀ s, d ≤ s → c0 s = 0) (hp : ∀ s, s < d → ai S (c + 55) s = nI (c0 s)) {B : BW} (hB : CBr c M B S) (ok : BOK B) : ∃ S', f_X5_noteAll E n S (c + 50) (nI d) (nI (crd c0 d)) (nI (bsy c0 d)) = some ((), S') ∧ KP c S S' ∧ CG c S S' ∧ ai S' (c + 55) = ai S (c + 55) ∧ CBr c M (gb c0 (hrt c0 d) (bsy c0 d) (cml M k d) (um M (cS M) d c0) B) S' := by
  have hSl := h.w.lS
  obtain ⟨b1, b2, b3, b4⟩ := hB
  obtain ⟨s1, s2, s3, s4, s5⟩ := hS
  have h32 := crd_lt c5
  have hle := na_le_bsy c5
  have hbd := bsy_le c0 d
  have hh : nI (bsy c0 d) - nI (na (crd c0 d) 5) = nI (hrt c0 d) := pk_sub hle
  have hrl : hrt c0 d ≤ 7 := by unfold hrt; omega
  have cp := cml_pos (M := M) k d
  obtain ⟨G, hG⟩ : ∃ G, G = gb c0 (hrt c0 d) (bsy c0 d) (cml M k d) (um M (cS M) d c0) B := ⟨_, rfl⟩
  have GT : bT G = bT B + cml M k d := by rw [hG]; rfl
  have GT0 : ¬ bT G = 0 := by omega
  -- behind the counts: fl says whether these are fewer hearts
  have fin : ∀ (fl : Int32) (fh : Int32), (fl = 0 ↔ ¬ few B (hrt c0 d)) → fh = nI (bH G) → ∃ S', f_X5_noteAll_L92 E n n (si (si (si S 262 (c + 50) (nI (bT B) + nI (cml M k d))) 264 (c + 50) (nI (bB G))) 263 (c + 50) fh) (c + 50) (nI d) fl 0 = some ((), S') ∧ KP c S S' ∧ CG c S S' ∧ ai S' (c + 55) = ai S (c + 55) ∧ CBr c M G S' := by
    intro fl fh hfl hfh
    have kk : KP c S (si (si (si S 262 (c + 50) (nI (bT B) + nI (cml M k d))) 264 (c + 50) (nI (bB G))) 263 (c + 50) fh) := ((KP.si (by unfold kf; omega)).tr (KP.si (by unfold kf; omega))).tr (KP.si (by unfold kf; omega))
    obtain ⟨S', e1, e2, e3, e4, e5, e6, e7, e8⟩ := e_X5_note_L (E := E) (x := x) (M := M) (B := B) hn (show d ≤ cS M by omega) c5 c00 fl (fun s => if bT B = 0 then -1 else nI (bF B s) - 1) (h.kp kk) (by rw [gi_si_f (by decide), gi_si_f (by decide), gi_si_f (by decide)]; exact s1) s2 hp (fun s hs => (b4 s hs).2) (fun s hs => (b4 s hs).1)
    refine ⟨S', e1, kk.tr e2, ⟨fun f q => e3 f q, fun f q p1 p2 p3 => ?_, fun q p1 p2 p3 => e5 q p2 p3, fun q => e6 q⟩, e5 _ (by omega) (by omega), ?_, ?_, ?_, fun s hs => ⟨?_, ?_⟩⟩
    · rw [e4, gi_si_f p2, gi_si_f p3, gi_si_f p1]
    · rw [e4, gi_si_f (by decide), gi_si_f (by decide), gi_si_eq, nI_add, GT]
    · rw [e4, gi_si_eq, if_neg GT0, hfh]
    · rw [e4, gi_si_f (by decide), gi_si_eq, if_neg GT0]
    · rw [e8 s hs, if_neg GT0]
      by_cases q : few B (hrt c0 d)
      · rw [if_neg (fun z => (hfl.mp z) q), hG]
        unfold gb
        simp only [bF]
        rw [if_pos q]
      · rw [if_pos (hfl.mpr q), hG]
        unfold gb
        simp only [bF]
        rw [if_neg q, if_neg (fun z => q (Or.inl z))]
    · rw [e7 s hs, hG]; rfl
  have GB : ∀ w : Int32, w = (if bT B = 0 then -1 else nI (bB B)) → (if w = -1 then nI (bsy c0 d) else imin w (nI (bsy c0 d))) = nI (bB G) := by
    intro w hw
    rw [hG]
    unfold gb
    simp only [bB]
    by_cases q : bT B = 0
    · rw [hw, if_pos q, if_pos rfl, if_pos (Or.inl q)]
    · have := (ok q).2
      rw [hw, if_neg q, if_neg (nIm1 (by omega)), imin_nat (by omega) (by omega)]
      by_cases q2 : bsy c0 d < bB B
      · rw [if_pos (Or.inr q2), Nat.min_eq_right (by omega)]
      · rw [if_neg (fun z => z.elim q q2), Nat.min_eq_left (by omega)]
  have J30 : ∀ fl : Int32, (fl = 0 ∨ fl = 1) → (fl = 0 ↔ ¬ few B (hrt c0 d)) → ∃ S', f_X5_noteAll_J30 E n S (c + 50) (nI d) (nI (bsy c0 d)) (nI (hrt c0 d)) fl = some ((), S') ∧ KP c S S' ∧ CG c S S' ∧ ai S' (c + 55) = ai S (c + 55) ∧ CBr c M G S' := by
    intro fl _ hfl
    have GBw := GB (if bT B = 0 then -1 else nI (bB B)) rfl
    simp only [f_X5_noteAll_J30, f_X5_noteAll_J68, h.g260, obs, h.l54, nI_clamp (show d < 2 ^ 31 by omega), ifn (rinc (show d < 8 by omega) (show 8 < 2 ^ 31 by omega)), s5 k d hdk, b1, lts, gi_si_f (show (264 : Nat) ≠ 262 by decide), gi_si_f (show (263 : Nat) ≠ 264 by decide), gi_si_f (show (263 : Nat) ≠ 262 by decide)]
    rw [b3]
    have both : ∀ (v : Int32), v = nI (bB G) → ∃ S', (if fl = 0 then f_X5_noteAll_L92 E n n (si (si (si S 262 (c + 50) (nI (bT B) + nI (cml M k d))) 264 (c + 50) v) 263 (c + 50) (gi S 263 (c + 50))) (c + 50) (nI d) fl 0 else f_X5_noteAll_L92 E n n (si (si (si S 262 (c + 50) (nI (bT B) + nI (cml M k d))) 264 (c + 50) v) 263 (c + 50) (nI (hrt c0 d))) (c + 50) (nI d) fl 0) = some ((), S') ∧ KP c S S' ∧ CG c S S' ∧ ai S' (c + 55) = ai S (c + 55) ∧ CBr c M G S' := by
      intro v hv
      subst hv
      by_cases f0 : fl = 0
      · rw [if_pos f0]
        have nf := hfl.mp f0
        refine fin fl _ hfl ?_
        rw [b2, if_neg (fun z => nf (Or.inl z)), hG]
        unfold gb
        simp only [bH]
        rw [if_neg nf]
      · rw [if_neg f0]
        have yf : few B (hrt c0 d) := Classical.byContradiction fun z => f0 (hfl.mpr z)
        refine fin fl _ hfl ?_
        rw [hG]
        unfold gb
        simp only [bH]
        rw [if_pos yf]
    by_cases q : bT B = 0
    · rw [if_pos q, if_pos rfl] at GBw ⊢
      exact both _ GBw
    · have := (ok q).2
      rw [if_neg q, if_neg (nIm1 (by omega))] at GBw
      rw [if_neg q, if_neg (nIm1 (by omega))]
      exact both _ GBw
  rw [← hG]
  simp only [f_X5_noteAll, e_bitCount h32, bds, hh, lts]
  rw [b2]
  by_cases q : bT B = 0
  · rw [if_pos q, if_pos rfl]
    exact J30 1 (Or.inr rfl) ⟨fun z => absurd z (by decide), fun z => absurd (Or.inl q) z⟩
  · have := (ok q).1
    rw [if_neg q, if_neg (nIm1 (by omega))]
    by_cases q2 : hrt c0 d < bH B
    · rw [if_neg (nI_ge q2 (by omega))]
      exact J30 1 (Or.inr rfl) ⟨fun z => absurd z (by decide), fun z => absurd (Or.inr q2) z⟩
    · rw [if_pos (nI_le (by omega) (by omega))]
      exact J30 0 (Or.inl rfl) ⟨fun _ z => z.elim q q2, fun _ => rfl⟩
/-- a verdict over all counts between two -/
def JV (CC : (Nat → Nat) → Prop) (F : Nat) (lo hi : Nat → Nat) (v : Int32) : Prop := (v = 1 ∧ ∀ k, (∀ i, i < F → lo i ≤ k i ∧ k i ≤ hi i) → CC k) ∨ (v = 0 ∧ ∀ k, (∀ i, i < F → lo i ≤ k i ∧ k i ≤ hi i) → ¬ CC k) ∨ (v = 2 ∧ ∃ i, i < F ∧ lo i ≠ hi i)
/-- what is wanted of a condition -/
def JC (E : EN) (n c hc F x : Nat) (M : Nat → Int32) (ab : Nat → Nat → Nat → Nat) (J : WS → Prop) (CC : (Nat → Nat) → Prop) : Prop := F ≤ 20 ∧ (∀ s b i, ab s b i ≤ 1) ∧ (∀ S S', J S → CH c S S' → J S') ∧ (∀ S s b, Inv E c S x M → J S → s < cS M → b < cB M → f_A_addedBy E n S hc (c + x) (nI s) (nI b) = some (lN (pkf F (ab s b)), S)) ∧ ∀ S lo hi, Inv E c S x M → J S → (∀ i, i < F → lo i ≤ hi i ∧ hi i ≤ 7) → ∃ v S', f_A_judge E n S hc (lN (pkf F lo)) (lN (pkf F hi)) = some (v, S') ∧ KP c S S' ∧ CJ c S S' ∧ J S' ∧ JV CC F lo hi v
theorem e_X5_chooseOn (hn : 20 ≤ n) (hJ : JC E n c hc F x M ab J CC) : ∀ k d, d + k = cS M → ∀ ff, k < ff → ∀ (S : WS) (c0 : Nat → Nat) (B : BW), Inv E c S x M → J S → SS c F M ab S → CBr c M B S → BOK B → (∀ s, s < d → c0 s < 5) → (∀ s, d ≤ s → c0 s = 0) → (∀ s, s < d → ai S (c + 55) s = nI (c0 s)) → ∃ S', f_X5_chooseOn E n ff S (c + 50) hc (nI d) (lN (pkf F (cnt ab c0 d))) (nI (crd c0 d)) (nI (bsy c0 d)) = some ((), S') ∧ KP c S S' ∧ J S' ∧ SS c F M ab S' ∧ CBr c M (enm M (fun c1 => CC (cnt ab c1 (cS M))) k d c0 B) S' ∧ ∀ s, s < d → ai S' (c + 55) s = nI (c0 s) := by
  obtain ⟨hF, hab, hst, hadd, hjd⟩ := hJ
  intro k
  induction k with
  | zero =>
    intro d hd ff hff S c0 B h jS hS hB ok c5 c00 hp
    obtain ⟨ff, rfl⟩ : ∃ q, ff = q + 1 := ⟨ff - 1, by omega⟩
    have hSl := h.w.lS
    obtain ⟨v, S1, j1, j2, j3, j4, j5⟩ := hjd S (cnt ab c0 d) (fun i => cnt ab c0 d i + mst M ab 0 d i) h jS (fun i hi => by
      have := cnt_le hab (c := c0) (i := i) d
      rw [mst]; omega)
    have i1 := h.kp j2
    have hS1 := hS.cj j3
    have hB1 := hB.cj j3
    have hp1 : ∀ s, s < d → ai S1 (c + 55) s = nI (c0 s) := fun s hs => by rw [j3.2.2.1 _ (by omega)]; exact hp s hs
    have hcN : ∀ c', cpl M (cS M) d c0 c' → ∀ i, i < F → cnt ab c0 d i ≤ cnt ab c' (cS M) i ∧ cnt ab c' (cS M) i ≤ cnt ab c0 d i + mst M ab 0 d i := by
      intro c' hc' i hi
      have e := cnt_rng h.w hab (c' := c') (i := i) 0 d hd hc'.2.1
      rw [cnt_cong (c := c') (e := c0) (d := d) (fun s hs => hc'.1 s hs)] at e
      exact e
    simp only [f_X5_chooseOn, hS.1, if_pos (nI_le (show d ≤ cS M by omega) (show cS M < 2 ^ 31 by omega)), h.g259, obs, h.l53, nI_clamp (show d < 2 ^ 31 by omega), ifn (rinc (show d < 8 by omega) (show 8 < 2 ^ 31 by omega)), hS.2.2.2.1 0 d hd, lN_add, pkf_add, j1, bds]
    rcases j5 with ⟨rfl, hv⟩ | ⟨rfl, hv⟩ | ⟨rfl, i, hi, hne⟩
    · obtain ⟨S2, n1, n2, n3, n4, n5⟩ := e_X5_noteAll (n := n) i1 (by omega) hS1 hd c5 c00 hp1 hB1 ok
      rw [if_pos rfl, n1, bds, if_neg (by decide)]
      refine ⟨S2, rfl, j2.tr n2, hst _ _ j4 n3.ch, hS1.cg n3, ?_, fun s hs => by rw [n4]; exact hp1 s hs⟩
      rw [enm_all h.w 0 d c0 B hd c5 c00 (fun c' hc' => hv _ (fun i hi => hcN c' hc' i hi))]
      exact n5
    · rw [if_neg (by decide), if_neg (by decide)]
      refine ⟨S1, rfl, j2, j4, hS1, ?_, hp1⟩
      rw [enm_none (N := cS M) 0 d c0 B hd c00 (fun c' hc' => hv _ (fun i hi => hcN c' hc' i hi))]
      exact hB1
    · exact absurd rfl hne
  | succ k ih =>
    intro d hd ff hff S c0 B h jS hS hB ok c5 c00 hp
    obtain ⟨ff, rfl⟩ : ∃ q, ff = q + 1 := ⟨ff - 1, by omega⟩
    have hSl := h.w.lS
    obtain ⟨v, S1, j1, j2, j3, j4, j5⟩ := hjd S (cnt ab c0 d) (fun i => cnt ab c0 d i + mst M ab (k + 1) d i) h jS (fun i hi => by
      have := cnt_le hab (c := c0) (i := i) d
      have := mst_le (M := M) (ab := ab) (i := i) (k + 1) d
      omega)
    have i1 := h.kp j2
    have hS1 := hS.cj j3
    have hB1 := hB.cj j3
    have hp1 : ∀ s, s < d → ai S1 (c + 55) s = nI (c0 s) := fun s hs => by rw [j3.2.2.1 _ (by omega)]; exact hp s hs
    have hcN : ∀ c', cpl M (cS M) d c0 c' → ∀ i, i < F → cnt ab c0 d i ≤ cnt ab c' (cS M) i ∧ cnt ab c' (cS M) i ≤ cnt ab c0 d i + mst M ab (k + 1) d i := by
      intro c' hc' i hi
      have e := cnt_rng h.w hab (c' := c') (i := i) (k + 1) d hd hc'.2.1
      rw [cnt_cong (c := c') (e := c0) (d := d) (fun s hs => hc'.1 s hs)] at e
      exact e
    simp only [f_X5_chooseOn, hS.1, if_pos (nI_le (show d ≤ cS M by omega) (show cS M < 2 ^ 31 by omega)), h.g259, obs, h.l53, nI_clamp (show d < 2 ^ 31 by omega), ifn (rinc (show d < 8 by omega) (show 8 < 2 ^ 31 by omega)), hS.2.2.2.1 (k + 1) d hd, lN_add, pkf_add, j1, bds]
    rcases j5 with ⟨rfl, hv⟩ | ⟨rfl, hv⟩ | ⟨rfl, -⟩
    · obtain ⟨S2, n1, n2, n3, n4, n5⟩ := e_X5_noteAll (n := n) i1 (by omega) hS1 hd c5 c00 hp1 hB1 ok
      rw [if_pos rfl, n1, bds, if_neg (by decide)]
      refine ⟨S2, rfl, j2.tr n2, hst _ _ j4 n3.ch, hS1.cg n3, ?_, fun s hs => by rw [n4]; exact hp1 s hs⟩
      rw [enm_all h.w (k + 1) d c0 B hd c5 c00 (fun c' hc' => hv _ (fun i hi => hcN c' hc' i hi))]
      exact n5
    · rw [if_neg (by decide), if_neg (by decide)]
      refine ⟨S1, rfl, j2, j4, hS1, ?_, hp1⟩
      rw [enm_none (N := cS M) (k + 1) d c0 B hd c00 (fun c' hc' => hv _ (fun i hi => hcN c' hc' i hi))]
      exact hB1
    · rw [if_neg (by decide), if_pos rfl, hS1.1, if_neg (fun z => by have := (nI_eq (by omega) (by omega)).mp z; omega)]
      have h32 := crd_lt c5
      have loop := lp (N := 5) (P := fun v m => ∀ S, Inv E c S x M → J S → SS c F M ab S → CBr c M (lpS (fun v B => if alw M d v then enm M (fun c1 => CC (cnt ab c1 (cS M))) k (d + 1) (scd c0 d v) B else B) v B) S → BOK (lpS (fun v B => if alw M d v then enm M (fun c1 => CC (cnt ab c1 (cS M))) k (d + 1) (scd c0 d v) B else B) v B) → (∀ s, s < d → ai S (c + 55) s = nI (c0 s)) → ∃ S', f_X5_chooseOn_L57 E n (f_X5_chooseOn E n ff) m S (c + 50) hc (nI d) (lN (pkf F (cnt ab c0 d))) (nI (crd c0 d)) (nI (bsy c0 d)) (nI v) = some ((), S') ∧ KP c S S' ∧ J S' ∧ SS c F M ab S' ∧ CBr c M (lpS (fun v B => if alw M d v then enm M (fun c1 => CC (cnt ab c1 (cS M))) k (d + 1) (scd c0 d v) B else B) 5 B) S' ∧ ∀ s, s < d → ai S' (c + 55) s = nI (c0 s)) ?_ ?_ 5 0 n (by omega) (by omega) S1 i1 j4 hS1 hB1 ok hp1
      · obtain ⟨S2, e1, e2, e3, e4, e5, e6⟩ := loop
        exact ⟨S2, e1, j2.tr e2, e3, e4, e5, e6⟩
      · intro m S h jS hS hB ok hp
        refine ⟨S, ?_, KP.rf, jS, hS, hB, hp⟩
        simp only [f_X5_chooseOn_L57]
        rw [if_pos (show (5 : Int32) ≤ nI 5 by decide)]
      · intro v m hv5 ihv S h jS hS hB ok hp
        have hb := (bitI (v := chs M d) (j := v) (by have := chs_lt h.w (show d < cS M by omega); omega) (by omega))
        simp only [f_X5_chooseOn_L57, h.g257, obs, h.l51, nI_clamp (show d < 2 ^ 31 by omega), ifn (rinc (show d < 7 by omega) (show 7 < 2 ^ 31 by omega)), hS.2.1 d (by omega), lts, nI_1]
        rw [if_neg (show ¬ (5 : Int32) ≤ nI v from nI_ge (b := 5) (by omega) (by decide))]
        by_cases a : alw M d v
        · rw [if_pos (hb.mpr a)]
          obtain ⟨S4, hS4⟩ : ∃ S4, S4 = wi S (c + 55) (upd (ai S (c + 55)) d (nI v)) := ⟨_, rfl⟩
          have k4 : KP c S S4 := by rw [hS4]; exact KP.wi (by unfold ka; omega)
          have g4 : CG c S S4 := by rw [hS4]; exact ⟨fun _ _ => rfl, fun _ _ _ _ _ => rfl, fun q q1 _ _ => ai_wi_a q1, fun _ => rfl⟩
          have i4 := h.kp k4
          have hS4' := hS.cg g4
          have hB4 : CBr c M (lpS (fun v B => if alw M d v then enm M (fun c1 => CC (cnt ab c1 (cS M))) k (d + 1) (scd c0 d v) B else B) v B) S4 := by
            obtain ⟨q1, q2, q3, q4⟩ := hB
            rw [hS4]
            exact ⟨q1, q2, q3, fun s hs => by rw [ai_wi_a (by omega), ai_wi_a (by omega)]; exact q4 s hs⟩
          have hp4 : ∀ s, s < d + 1 → ai S4 (c + 55) s = nI (scd c0 d v s) := by
            intro s hs
            rw [hS4, ai_wi]
            by_cases e : s = d
            · subst e; rw [pk_us, scd_at]
            · rw [pk_un e, scd_un e]; exact hp s (by omega)
          have e5 : cnt ab (scd c0 d v) d = cnt ab c0 d := funext fun i => cnt_cong (fun s hs => scd_un (by omega))
          have ecnt : pkf F (fun i => cnt ab c0 d i + abc ab d v i) = pkf F (cnt ab (scd c0 d v) (d + 1)) := pkf_cong F (fun i hi => by rw [cnt, e5, scd_at])
          have ebs : bsy (scd c0 d v) d = bsy c0 d := bsy_cong (fun s hs => scd_un (by omega))
          have ecr : crd (scd c0 d v) d = crd c0 d := crd_cong (fun s hs => scd_un (by omega))
          obtain ⟨S5, r1, r2, r3, r4, r5, r6⟩ := ih (d + 1) (by omega) ff (by omega) S4 (scd c0 d v) _ i4 (hst _ _ jS g4.ch) hS4' hB4 ok (fun s hs => by
            by_cases e : s = d
            · subst e; rw [scd_at]; exact hv5
            · rw [scd_un e]; exact c5 s (by omega)) (fun s hs => by rw [scd_un (by omega)]; exact c00 s (by omega)) hp4
          have i5 := i4.kp r2
          have l5 : lpS (fun v B => if alw M d v then enm M (fun c1 => CC (cnt ab c1 (cS M))) k (d + 1) (scd c0 d v) B else B) (v + 1) B = enm M (fun c1 => CC (cnt ab c1 (cS M))) k (d + 1) (scd c0 d v) (lpS (fun v B => if alw M d v then enm M (fun c1 => CC (cnt ab c1 (cS M))) k (d + 1) (scd c0 d v) B else B) v B) := by
            rw [lpS, if_pos a]
          obtain ⟨S6, t1, t2, t3, t4, t5, t6⟩ := ihv S5 i5 r3 r4 (by rw [l5]; exact r5) (by rw [l5]; exact enm_ok k (d + 1) _ _ (by omega) ok) (fun s hs => by
            have := r6 s (by omega)
            rw [scd_un (by omega)] at this; exact this)
          refine ⟨S6, ?_, (k4.tr r2).tr t2, t3, t4, t5, t6⟩
          simp only [h.g261, obs, h.l55, ifn (rinc (show d < 7 by omega) (show 7 < 2 ^ 31 by omega))]
          rw [← hS4]
          simp only [i4.g258, obs, h.l52, show nI d * (5 : Int32) = nI (d * 5) from pk_mul d 5, nI_add, nI_clamp (show d * 5 + v < 2 ^ 31 by omega), ifn (rinc (show d * 5 + v < 35 by omega) (show 35 < 2 ^ 31 by omega)), hS4'.2.2.1 d v (by omega) a, lN_add, pkf_add]
          rw [ecnt]
          rw [crd, bsy, scd_at, ebs, ecr] at r1
          by_cases v0 : v = 0
          · rw [if_pos v0, if_pos v0] at r1
            rw [if_pos (show nI v = 0 by rw [v0]; rfl), r1, bds]
            exact t1
          · rw [if_neg v0, if_neg v0] at r1
            rw [if_neg (nI_ne0 (by omega) (by omega)), shl1 v (by omega), fa_or, r1, bds]
            exact t1
        · rw [if_neg (fun z => a (hb.mp z))]
          have l5 : lpS (fun v B => if alw M d v then enm M (fun c1 => CC (cnt ab c1 (cS M))) k (d + 1) (scd c0 d v) B else B) (v + 1) B = lpS (fun v B => if alw M d v then enm M (fun c1 => CC (cnt ab c1 (cS M))) k (d + 1) (scd c0 d v) B else B) v B := by
            rw [lpS, if_neg a]
          exact ihv S h jS hS (by rw [l5]; exact hB) (by rw [l5]; exact ok) hp
end SRC
