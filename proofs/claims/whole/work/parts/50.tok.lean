/-! The tokens of a text, purely; the class's next token -/
def sp (v : Int32) : Bool := v == 32 || v == 10
def lb (v : Int32) : Bool := decide (¬ v < 97 ∧ ¬ 122 < v)
def db (v : Int32) : Bool := decide (¬ v < 48 ∧ ¬ 57 < v)
def run (P : Int32 → Bool) (b : Nat → Int32) (L : Nat) : Nat → Nat → Nat
  | 0, i => i
  | k + 1, i => if i < L ∧ P (b i) = true then run P b L k (i + 1) else i
abbrev rn (P : Int32 → Bool) (b : Nat → Int32) (L i : Nat) : Nat := run P b L (L - i) i
def vrn (b : Nat → Int32) (L : Nat) : Nat → Nat → Nat → Nat
  | 0, _, v => v
  | k + 1, i, v => if i < L ∧ db (b i) = true then vrn b L k (i + 1) (min (v * 10 + (b i).toNatClampNeg - 48) 1000000) else v
abbrev vln (b : Nat → Int32) (L i v : Nat) : Nat := vrn b L (L - i) i v
theorem rn_t {P : Int32 → Bool} {b : Nat → Int32} {L i : Nat} (h : i < L) (hp : P (b i) = true) : rn P b L i = rn P b L (i + 1) := by
  show run P b L (L - i) i = run P b L (L - (i + 1)) (i + 1)
  rw [show L - i = (L - (i + 1)) + 1 by omega, run, if_pos ⟨h, hp⟩]
theorem rn_f {P : Int32 → Bool} {b : Nat → Int32} {L i : Nat} (h : ¬ (i < L ∧ P (b i) = true)) : rn P b L i = i := by
  show run P b L (L - i) i = i
  cases L - i with
  | zero => rfl
  | succ k => rw [run, if_neg h]
theorem vln_t {b : Nat → Int32} {L i v : Nat} (h : i < L) (hp : db (b i) = true) : vln b L i v = vln b L (i + 1) (min (v * 10 + (b i).toNatClampNeg - 48) 1000000) := by
  show vrn b L (L - i) i v = vrn b L (L - (i + 1)) (i + 1) _
  rw [show L - i = (L - (i + 1)) + 1 by omega, vrn, if_pos ⟨h, hp⟩]
theorem vln_f {b : Nat → Int32} {L i v : Nat} (h : ¬ (i < L ∧ db (b i) = true)) : vln b L i v = v := by
  show vrn b L (L - i) i v = v
  cases L - i with
  | zero => rfl
  | succ k => rw [vrn, if_neg h]
theorem rn_ge {P : Int32 → Bool} {b : Nat → Int32} {L : Nat} : ∀ k i, L - i = k → i ≤ rn P b L i ∧ (i ≤ L → rn P b L i ≤ L) ∧ ¬ (rn P b L i < L ∧ P (b (rn P b L i)) = true) := by
  intro k
  induction k with
  | zero =>
    intro i h
    rw [rn_f (P := P) (by omega)]
    exact ⟨Nat.le_refl _, fun q => q, by omega⟩
  | succ k ih =>
    intro i h
    by_cases c : i < L ∧ P (b i) = true
    · rw [rn_t c.1 c.2]
      have := ih (i + 1) (by omega)
      exact ⟨by omega, fun _ => this.2.1 (by omega), this.2.2⟩
    · rw [rn_f c]
      exact ⟨Nat.le_refl _, fun q => q, c⟩
theorem db_v {v : Int32} (h : db v = true) : ∃ d, d ≤ 9 ∧ v = nI (48 + d) ∧ v.toNatClampNeg = 48 + d := by
  unfold db at h
  rw [decide_eq_true_eq] at h
  rw [fa_lt, fa_lt, show (48 : Int32).toInt = 48 by decide, show (57 : Int32).toInt = 57 by decide] at h
  have e : v = nI v.toInt.toNat := by
    rw [fa_eq, nI_toInt (by omega)]; omega
  refine ⟨v.toInt.toNat - 48, by omega, ?_, ?_⟩
  · rw [show 48 + (v.toInt.toNat - 48) = v.toInt.toNat by omega]; exact e
  · rw [e, nI_clamp (by omega)]
    rw [nI_toInt (by omega)]; omega
theorem vln_le {b : Nat → Int32} {L : Nat} : ∀ k i v, L - i = k → v ≤ 1000000 → vln b L i v ≤ 1000000 := by
  intro k
  induction k with
  | zero => intro i v h hv; rw [vln_f (by omega)]; exact hv
  | succ k ih =>
    intro i v h hv
    by_cases c : i < L ∧ db (b i) = true
    · rw [vln_t c.1 c.2]; exact ih (i + 1) _ (by omega) (Nat.min_le_right _ _)
    · rw [vln_f c]; exact hv
/-- the token read from q on: where it starts, its kind, what lies behind it, its value -/
def skp (b : Nat → Int32) (L q : Nat) : Nat := rn sp b L q
def knd (b : Nat → Int32) (L q : Nat) : Nat := if L ≤ skp b L q then 0 else if lb (b (skp b L q)) = true then 1 else if db (b (skp b L q)) = true then 2 else if b (skp b L q) = 59 then 3 else 4
def bhd (b : Nat → Int32) (L q : Nat) : Nat := if L ≤ skp b L q then skp b L q else if lb (b (skp b L q)) = true then rn lb b L (skp b L q) else if db (b (skp b L q)) = true then rn db b L (skp b L q) else skp b L q + 1
def vlu (b : Nat → Int32) (L q : Nat) : Nat := vln b L (skp b L q) 0
theorem skp_le {b : Nat → Int32} {L q : Nat} (h : q ≤ L) : q ≤ skp b L q ∧ skp b L q ≤ L := by
  have := rn_ge (P := sp) (b := b) (L := L) _ q rfl
  exact ⟨this.1, this.2.1 h⟩
theorem bhd_le {b : Nat → Int32} {L q : Nat} (h : q ≤ L) : skp b L q ≤ bhd b L q ∧ bhd b L q ≤ L ∧ (knd b L q ≠ 0 → skp b L q < bhd b L q) := by
  have h1 := skp_le (b := b) h
  unfold bhd knd
  by_cases c1 : L ≤ skp b L q
  · rw [if_pos c1, if_pos c1]; exact ⟨Nat.le_refl _, h1.2, fun q => absurd rfl q⟩
  · rw [if_neg c1, if_neg c1]
    by_cases c2 : lb (b (skp b L q)) = true
    · rw [if_pos c2, if_pos c2]
      have := rn_ge (P := lb) (b := b) (L := L) _ (skp b L q) rfl
      have t := rn_t (P := lb) (show skp b L q < L by omega) c2
      have g := rn_ge (P := lb) (b := b) (L := L) _ (skp b L q + 1) rfl
      exact ⟨this.1, this.2.1 h1.2, fun _ => by omega⟩
    · rw [if_neg c2, if_neg c2]
      by_cases c3 : db (b (skp b L q)) = true
      · rw [if_pos c3, if_pos c3]
        have := rn_ge (P := db) (b := b) (L := L) _ (skp b L q) rfl
        have t := rn_t (P := db) (show skp b L q < L by omega) c3
        have g := rn_ge (P := db) (b := b) (L := L) _ (skp b L q + 1) rfl
        exact ⟨this.1, this.2.1 h1.2, fun _ => by omega⟩
      · rw [if_neg c3]
        exact ⟨by omega, by omega, fun _ => by omega⟩
theorem knd_le {b : Nat → Int32} {L q : Nat} : knd b L q ≤ 4 := by
  unfold knd
  split
  · omega
  · split
    · omega
    · split
      · omega
      · split <;> omega
theorem vlu_le {b : Nat → Int32} {L q : Nat} : vlu b L q ≤ 1000000 := vln_le _ _ _ rfl (by omega)
section TOK
variable {E : EN} {n c : Nat} {S S' : WS} {b : Nat → Int32} {L : Nat}
/-- what a step to the next token changes -/
def FT (c : Nat) (S S' : WS) : Prop := (∀ f q, gr S' f q = gr S f q) ∧ (∀ q, ar S' q = ar S q) ∧ (∀ f q, ¬ (q = c + 2 ∧ 194 ≤ f ∧ f ≤ 197) → gi S' f q = gi S f q) ∧ (∀ q, ai S' q = ai S q) ∧ ∀ q, aj S' q = aj S q
theorem FT.rf : FT c S S := ⟨fun _ _ => rfl, fun _ => rfl, fun _ _ _ => rfl, fun _ => rfl, fun _ => rfl⟩
theorem FT.tr {S1 S2 : WS} (h : FT c S S1) (k : FT c S1 S2) : FT c S S2 := ⟨fun f q => (k.1 f q).trans (h.1 f q), fun q => (k.2.1 q).trans (h.2.1 q), fun f q z => (k.2.2.1 f q z).trans (h.2.2.1 f q z), fun q => (k.2.2.2.1 q).trans (h.2.2.2.1 q), fun q => (k.2.2.2.2 q).trans (h.2.2.2.2 q)⟩
theorem FT.s {f : Nat} {v : Int32} (h : 194 ≤ f ∧ f ≤ 197) : FT c S (si S f (c + 2) v) := ⟨fun _ _ => rfl, fun _ => rfl, fun g q z => by
  by_cases e : g = f
  · subst e
    exact gi_si_a (fun w => z ⟨w, h⟩)
  · exact gi_si_f e, fun _ => rfl, fun _ => rfl⟩
/-- the class's reader: its text -/
def CX (E : EN) (c : Nat) (b : Nat → Int32) (L : Nat) (S : WS) : Prop := gr S 192 (c + 2) = some (c + 1) ∧ eN E (c + 1) = 1400 ∧ ai S (c + 1) = b ∧ gi S 193 (c + 2) = nI L ∧ L ≤ 1400 ∧ gi S 198 (c + 2) = 0 ∧ gi S 199 (c + 2) = -1
theorem CX.ft (h : CX E c b L S) (k : FT c S S') : CX E c b L S' := ⟨(k.1 _ _).trans h.1, h.2.1, (k.2.2.2.1 _).trans h.2.2.1, (k.2.2.1 _ _ (by omega)).trans h.2.2.2.1, h.2.2.2.2.1, (k.2.2.1 _ _ (by omega)).trans h.2.2.2.2.2.1, (k.2.2.1 _ _ (by omega)).trans h.2.2.2.2.2.2⟩
/-- .. and its token, read from q on -/
def CR (E : EN) (c : Nat) (b : Nat → Int32) (L q : Nat) (S : WS) : Prop := CX E c b L S ∧ gi S 194 (c + 2) = nI (bhd b L q) ∧ gi S 195 (c + 2) = nI (knd b L q) ∧ gi S 196 (c + 2) = nI (skp b L q) ∧ gi S 197 (c + 2) = nI (vlu b L q)
theorem e_X4_L170 (hn : 1500 ≤ n) (hX : CX E c b L S) {s : Nat} (hs : s < L) (e5 : gi S 195 (c + 2) = nI 1 ∨ ((gi S 195 (c + 2) = nI 3 ∨ gi S 195 (c + 2) = nI 4))) (e6 : gi S 196 (c + 2) = nI s) {i : Nat} (hi : i ≤ L) (e4 : gi S 194 (c + 2) = nI i) (h1 : gi S 195 (c + 2) ≠ 1 → i = s) (hsi : s ≤ i) (e7 : gi S 197 (c + 2) = 0) : ∃ S', f_X4_nextToken_L170 E n n S (c + 2) = some ((), S') ∧ FT c S S' ∧ (gi S 195 (c + 2) = 1 → gi S' 194 (c + 2) = nI (max i (s + 1)) ∧ gi S' 195 (c + 2) = 1 ∧ gi S' 197 (c + 2) = 0) ∧ (gi S 195 (c + 2) ≠ 1 → gi S' 194 (c + 2) = nI (max (rn db b L i) (s + 1)) ∧ gi S' 195 (c + 2) = (if db (b s) = true then 2 else gi S 195 (c + 2)) ∧ gi S' 197 (c + 2) = nI (vln b L i 0)) ∧ gi S' 196 (c + 2) = nI s := by
  have hL := hX.2.2.2.2
  have mx : ∀ t, t ≤ 1400 → imax (nI t) (nI s + (1 : Int32)) = nI (max t (s + 1)) := fun t ht => by rw [nI_1, imax_nat (by omega) (by omega)]
  by_cases k1 : gi S 195 (c + 2) = 1
  · obtain ⟨m, hm⟩ : ∃ m, n = m + 1 := ⟨n - 1, by omega⟩
    refine ⟨si S 194 (c + 2) (nI (max i (s + 1))), ?_, FT.s (by omega), fun _ => ⟨gi_si_eq, (gi_si_f (by decide)).trans k1, (gi_si_f (by decide)).trans e7⟩, fun q => absurd k1 q, (gi_si_f (by decide)).trans e6⟩
    have : ∀ n0, f_X4_nextToken_L170 E n0 n S (c + 2) = some ((), si S 194 (c + 2) (nI (max i (s + 1)))) := by
      intro n0
      rw [hm]
      simp only [f_X4_nextToken_L170]
      rw [if_pos k1, e4, e6, mx i (by omega), lts]
    exact this n
  · have hi0 : s = i := (h1 k1).symm
    subst hi0
    have key : ∀ k i v (S : WS), CX E c b L S → gi S 196 (c + 2) = nI s → gi S 194 (c + 2) = nI i → gi S 195 (c + 2) ≠ 1 → gi S 197 (c + 2) = nI v → v ≤ 1000000 → i ≤ L → L - i = k → ∀ m, k < m → ∃ S', f_X4_nextToken_L170 E n m S (c + 2) = some ((), S') ∧ FT c S S' ∧ gi S' 194 (c + 2) = nI (max (rn db b L i) (s + 1)) ∧ gi S' 195 (c + 2) = (if i < L ∧ db (b i) = true then 2 else gi S 195 (c + 2)) ∧ gi S' 197 (c + 2) = nI (vln b L i v) ∧ gi S' 196 (c + 2) = nI s := by
      intro k
      induction k with
      | zero =>
        intro i v S hX e6 e4 k1 e7 hv hi hk m hm
        obtain ⟨m, rfl⟩ : ∃ q, m = q + 1 := ⟨m - 1, by omega⟩
        refine ⟨si S 194 (c + 2) (nI (max i (s + 1))), ?_, FT.s (by omega), ?_, ?_, ?_, (gi_si_f (by decide)).trans e6⟩
        · simp only [f_X4_nextToken_L170]
          rw [if_neg k1, e4, hX.2.2.2.1, if_pos (nI_le (show L ≤ i by omega) (by omega)), e6, mx i (by omega), lts]
        · rw [gi_si_eq, rn_f (by omega)]
        · rw [gi_si_f (by decide), if_neg (by omega)]
        · rw [gi_si_f (by decide), vln_f (by omega)]; exact e7
      | succ k ih =>
        intro i v S hX e6 e4 k1 e7 hv hi hk m hm
        obtain ⟨m, rfl⟩ : ∃ q, m = q + 1 := ⟨m - 1, by omega⟩
        have hiL : i < L := by omega
        have stop : ¬ db (b i) = true → f_X4_nextToken_L170 E n (m + 1) S (c + 2) = some ((), si S 194 (c + 2) (nI (max i (s + 1)))) → ∃ S', f_X4_nextToken_L170 E n (m + 1) S (c + 2) = some ((), S') ∧ FT c S S' ∧ gi S' 194 (c + 2) = nI (max (rn db b L i) (s + 1)) ∧ gi S' 195 (c + 2) = (if i < L ∧ db (b i) = true then 2 else gi S 195 (c + 2)) ∧ gi S' 197 (c + 2) = nI (vln b L i v) ∧ gi S' 196 (c + 2) = nI s := by
          intro nd e
          refine ⟨_, e, FT.s (by omega), ?_, ?_, ?_, (gi_si_f (by decide)).trans e6⟩
          · rw [gi_si_eq, rn_f (fun q => nd q.2)]
          · rw [gi_si_f (by decide), if_neg (fun q => nd q.2)]
          · rw [gi_si_f (by decide), vln_f (fun q => nd q.2)]; exact e7
        by_cases c1 : b i < 48
        · refine stop (fun q => by unfold db at q; rw [decide_eq_true_eq] at q; exact q.1 c1) ?_
          simp only [f_X4_nextToken_L170]
          rw [if_neg k1, e4, hX.2.2.2.1, if_neg (nI_ge hiL (by omega)), hX.1]
          simp only [obs, hX.2.1, nI_clamp (show i < 2 ^ 31 by omega), ifn (rinc (show i < 1400 by omega) (show 1400 < 2 ^ 31 by omega)), hX.2.2.1, if_pos c1, e6, mx i (by omega), lts]
        · by_cases c2 : 57 < b i
          · refine stop (fun q => by unfold db at q; rw [decide_eq_true_eq] at q; exact q.2 c2) ?_
            simp only [f_X4_nextToken_L170]
            rw [if_neg k1, e4, hX.2.2.2.1, if_neg (nI_ge hiL (by omega)), hX.1]
            simp only [obs, hX.2.1, nI_clamp (show i < 2 ^ 31 by omega), ifn (rinc (show i < 1400 by omega) (show 1400 < 2 ^ 31 by omega)), hX.2.2.1, if_neg c1, if_pos c2, e6, mx i (by omega), lts]
          · have d : db (b i) = true := by unfold db; rw [decide_eq_true_eq]; exact ⟨c1, c2⟩
            obtain ⟨dd, hd, ed, ed2⟩ := db_v d
            obtain ⟨S1, hS1⟩ : ∃ S1, S1 = si S 195 (c + 2) 2 := ⟨_, rfl⟩
            have f1 : FT c S S1 := by rw [hS1]; exact FT.s (by omega)
            have x1 := hX.ft f1
            obtain ⟨S2, hS2⟩ : ∃ S2, S2 = si S1 197 (c + 2) (nI (min (v * 10 + (b i).toNatClampNeg - 48) 1000000)) := ⟨_, rfl⟩
            have f2 : FT c S1 S2 := by rw [hS2]; exact FT.s (by omega)
            obtain ⟨S3, hS3⟩ : ∃ S3, S3 = si S2 194 (c + 2) (nI (i + 1)) := ⟨_, rfl⟩
            have f3 : FT c S2 S3 := by rw [hS3]; exact FT.s (by omega)
            have w4 : gi S1 194 (c + 2) = nI i := by rw [hS1, gi_si_f (by decide)]; exact e4
            have w7 : gi S1 197 (c + 2) = nI v := by rw [hS1, gi_si_f (by decide)]; exact e7
            have u4 : gi S2 194 (c + 2) = nI i := by rw [hS2, gi_si_f (by decide)]; exact w4
            have ev : imin (((nI v * (10 : Int32)) + b i) - (48 : Int32)) (1000000 : Int32) = nI (min (v * 10 + (b i).toNatClampNeg - 48) 1000000) := by
              rw [ed2, ed, show nI v * (10 : Int32) = nI (v * 10) from pk_mul v 10, nI_add, show (48 : Int32) = nI 48 from rfl, pk_sub (by omega), show (1000000 : Int32) = nI 1000000 from rfl, imin_nat (by omega) (by omega)]
            obtain ⟨S', r1, r2, r3, r4, r5, r6⟩ := ih (i + 1) (min (v * 10 + (b i).toNatClampNeg - 48) 1000000) S3 ((x1.ft f2).ft f3) (by rw [hS3, gi_si_f (by decide), hS2, gi_si_f (by decide), hS1, gi_si_f (by decide)]; exact e6) (by rw [hS3, gi_si_eq]) (by rw [hS3, gi_si_f (by decide), hS2, gi_si_f (by decide), hS1, gi_si_eq]; decide) (by rw [hS3, gi_si_f (by decide), hS2, gi_si_eq]) (Nat.min_le_right _ _) (by omega) (by omega) m (by omega)
            refine ⟨S', ?_, ((f1.tr f2).tr f3).tr r2, ?_, ?_, ?_, r6⟩
            · rw [← r1]
              conv => lhs; unfold f_X4_nextToken_L170
              rw [if_neg k1, e4, hX.2.2.2.1, if_neg (nI_ge hiL (by omega)), hX.1]
              simp only [obs, hX.2.1, nI_clamp (show i < 2 ^ 31 by omega), ifn (rinc (show i < 1400 by omega) (show 1400 < 2 ^ 31 by omega)), hX.2.2.1, if_neg c1, if_neg c2, lts]
              rw [← hS1]
              simp only [x1.1, obs, hX.2.1, w4, w7, nI_clamp (show i < 2 ^ 31 by omega), ifn (rinc (show i < 1400 by omega) (show 1400 < 2 ^ 31 by omega)), x1.2.2.1, ev]
              rw [← hS2, u4, nI_1, ← hS3]
            · rw [r3, rn_t hiL d]
            · have rhs : (if i < L ∧ db (b i) = true then (2 : Int32) else gi S 195 (c + 2)) = 2 := if_pos ⟨hiL, d⟩
              rw [r4, rhs]
              by_cases z : i + 1 < L ∧ db (b (i + 1)) = true
              · rw [if_pos z]
              · rw [if_neg z, hS3, gi_si_f (by decide), hS2, gi_si_f (by decide), hS1, gi_si_eq]
            · rw [r5, vln_t hiL d]
    obtain ⟨S', r1, r2, r3, r4, r5, r6⟩ := key (L - s) s 0 S hX e6 e4 k1 e7 (by omega) hi rfl n (by omega)
    refine ⟨S', r1, r2, fun q => absurd q k1, fun _ => ⟨r3, ?_, r5⟩, r6⟩
    rw [r4]
    by_cases z : db (b s) = true
    · rw [if_pos z, if_pos ⟨hs, z⟩]
    · rw [if_neg z, if_neg (fun q => z q.2)]
end TOK
