/-! How one goes on from place to place -/
theorem shl1 : ∀ a, a < 31 → (1 : Int32) <<< (nI a &&& 31) = nI (2 ^ a) := by decide +kernel
theorem smo : ∀ a, a < 31 → ((nI a &&& 31).toBitVec.smod 32).toNat = a := by decide +kernel
theorem bitI {v j : Nat} (hv : v < 2 ^ 31) (hj : j < 31) : ((nI v >>> (nI j &&& 31)) &&& 1 = 1) ↔ v.testBit j = true := by
  rw [pk_shrN hv _ j (smo j hj), show (1 : Int32) = nI (2 ^ 1 - 1) from rfl, fa_mask, Nat.testBit_eq_decide_div_mod_eq]
  have h2 : v / 2 ^ j % 2 ^ 1 < 2 := Nat.mod_lt _ (by decide)
  rw [show nI (2 ^ 1 - 1) = nI 1 from rfl, nI_eq (by omega) (by decide)]
  simp
/-- the two ends of a path as bits -/
def ends (M : Nat → Int32) (p : Nat) : Int32 := ((1 : Int32) <<< (M (45 + 2 * p) &&& 31)) ||| ((1 : Int32) <<< (M (46 + 2 * p) &&& 31))
/-- one round over the first so many paths -/
def rnd (M : Nat → Int32) (o x : Int32) : Nat → Int32
  | 0 => x
  | p + 1 => if (o >>> (nI p &&& 31)) &&& 1 = 1 then (if rnd M o x p &&& ends M p = 0 then rnd M o x p else rnd M o x p ||| ends M p) else rnd M o x p
def itr (M : Nat → Int32) (o x : Int32) : Nat → Int32
  | 0 => x
  | k + 1 => rnd M o (itr M o x k) (cA M)
def rch (M : Nat → Int32) (o h : Int32) : Int32 := itr M o ((1 : Int32) <<< (h &&& 31)) 8
def bsub (v w : Nat) : Prop := ∀ j, v.testBit j = true → w.testBit j = true
theorem cn_mono {P Q : Nat → Prop} (h : ∀ j, P j → Q j) : ∀ N, cn P N ≤ cn Q N := by
  intro N
  induction N with
  | zero => exact Nat.le_refl _
  | succ s ih =>
    by_cases c : P s
    · simp only [cn, c, h s c, if_true]; omega
    · by_cases d : Q s
      · simp only [cn, c, d, if_true, if_false]; omega
      · simp only [cn, c, d, if_false]; omega
theorem cn_lt {P Q : Nat → Prop} (h : ∀ j, P j → Q j) {i : Nat} (hp : ¬ P i) (hq : Q i) : ∀ N, i < N → cn P N < cn Q N := by
  intro N
  induction N with
  | zero => intro h; omega
  | succ s ih =>
    intro hi
    by_cases e : i = s
    · subst e
      simp only [cn, hp, hq, if_true, if_false]
      have := cn_mono h i
      omega
    · have ih := ih (by omega)
      by_cases c : P s
      · simp only [cn, c, h s c, if_true]; omega
      · by_cases d : Q s
        · simp only [cn, c, d, if_true, if_false]; omega
        · simp only [cn, c, d, if_false]; omega
theorem cn_pos {P : Nat → Prop} {i : Nat} (hp : P i) {N : Nat} (hi : i < N) : 0 < cn P N := by
  have := cn_lt (P := fun _ => False) (Q := P) (fun _ q => q.elim) (fun q => q) hp N hi
  omega
theorem bsub_or (v w : Nat) : bsub v (v ||| w) := by
  intro j h; rw [Nat.testBit_or, h]; rfl
theorem ends_nat {M : Nat → Int32} (hw : WF M) {p : Nat} (hp : p < cA M) : ∃ e, e < 2 ^ cP M ∧ ends M p = nI e := by
  have hP := hw.lP
  obtain ⟨u, v, hu, hv, -, eu, ev⟩ := hw.2.2.2.2.2.2.1 p hp
  refine ⟨2 ^ u ||| 2 ^ v, Nat.or_lt_two_pow (Nat.pow_lt_pow_right (by decide) hu) (Nat.pow_lt_pow_right (by decide) hv), ?_⟩
  rw [ends, eu, ev, shl1 u (by omega), shl1 v (by omega), fa_or]
theorem rnd_nat {M : Nat → Int32} (hw : WF M) (o : Int32) {v : Nat} (hv : v < 2 ^ cP M) : ∀ p, p ≤ cA M → ∃ w, w < 2 ^ cP M ∧ bsub v w ∧ rnd M o (nI v) p = nI w := by
  intro p
  induction p with
  | zero => intro _; exact ⟨v, hv, fun _ h => h, rfl⟩
  | succ p ih =>
    intro hp
    obtain ⟨w, h1, h2, h3⟩ := ih (by omega)
    obtain ⟨e, he, ee⟩ := ends_nat hw (show p < cA M by omega)
    by_cases c : (o >>> (nI p &&& 31)) &&& 1 = 1
    · by_cases d : rnd M o (nI v) p &&& ends M p = 0
      · exact ⟨w, h1, h2, by rw [rnd, if_pos c, if_pos d, h3]⟩
      · refine ⟨w ||| e, Nat.or_lt_two_pow h1 he, fun j hj => bsub_or w e j (h2 j hj), ?_⟩
        rw [rnd, if_pos c, if_neg d, h3, ee, fa_or]
    · exact ⟨w, h1, h2, by rw [rnd, if_neg c, h3]⟩
theorem itr_nat {M : Nat → Int32} (hw : WF M) (o : Int32) {v : Nat} (hv : v < 2 ^ cP M) : ∀ k, ∃ w, w < 2 ^ cP M ∧ itr M o (nI v) k = nI w ∧ ((∀ r, r < k → itr M o (nI v) (r + 1) ≠ itr M o (nI v) r) → cn (fun j => v.testBit j = true) (cP M) + k ≤ cn (fun j => w.testBit j = true) (cP M)) := by
  have hP := hw.lP
  have h2 : 2 ^ cP M ≤ 2 ^ 8 := Nat.pow_le_pow_right (by decide) hP
  intro k
  induction k with
  | zero => exact ⟨v, hv, rfl, fun _ => Nat.le_refl _⟩
  | succ k ih =>
    obtain ⟨w, a, b, c⟩ := ih
    obtain ⟨z, d, e, f⟩ := rnd_nat hw o a (cA M) (Nat.le_refl _)
    refine ⟨z, d, by rw [itr, b, f], fun g => ?_⟩
    have c := c (fun r hr => g r (by omega))
    have g := g k (by omega)
    rw [itr, b, f] at g
    have hne : z ≠ w := fun q => g (by rw [q])
    obtain ⟨j, hj⟩ : ∃ j, z.testBit j ≠ w.testBit j := by
      apply Classical.byContradiction
      intro q
      refine hne (Nat.eq_of_testBit_eq fun j => ?_)
      apply Classical.byContradiction
      intro q2; exact q ⟨j, q2⟩
    have hj1 : z.testBit j = true ∧ w.testBit j = false := by
      cases hz : z.testBit j
      · cases hw2 : w.testBit j
        · rw [hz, hw2] at hj; exact absurd rfl hj
        · have := e j hw2; rw [hz] at this; cases this
      · refine ⟨rfl, ?_⟩
        cases hw2 : w.testBit j
        · rfl
        · rw [hz, hw2] at hj; exact absurd rfl hj
    have hjP : j < cP M := by
      apply Classical.byContradiction
      intro q
      have : z.testBit j = false := Nat.testBit_lt_two_pow (Nat.lt_of_lt_of_le d (Nat.pow_le_pow_right (by decide) (by omega)))
      rw [hj1.1] at this; cases this
    have := cn_lt (P := fun j => w.testBit j = true) (Q := fun j => z.testBit j = true) (fun j hj => e j hj) (i := j) (by simp [hj1.2]) hj1.1 (cP M) hjP
    omega
theorem itr_stab {M : Nat → Int32} {o x : Int32} {r : Nat} (h : itr M o x (r + 1) = itr M o x r) : ∀ k, itr M o x (r + k) = itr M o x r := by
  intro k
  induction k with
  | zero => rfl
  | succ k ih => rw [show r + (k + 1) = (r + k) + 1 by omega, itr, ih, ← itr]; exact h
theorem itr_ex {M : Nat → Int32} (hw : WF M) (o : Int32) {h : Nat} (hh : h < cP M) : ∃ r, r < cP M ∧ itr M o ((1 : Int32) <<< (nI h &&& 31)) (r + 1) = itr M o ((1 : Int32) <<< (nI h &&& 31)) r := by
  have hP := hw.lP
  rw [shl1 h (by omega)]
  apply Classical.byContradiction
  intro q
  obtain ⟨w, a, b, c⟩ := itr_nat hw o (Nat.pow_lt_pow_right (by decide) hh) (cP M)
  have c := c (fun r hr e => q ⟨r, hr, e⟩)
  have := cn_le (fun j => w.testBit j = true) (cP M)
  have := cn_pos (P := fun j => (2 ^ h).testBit j = true) (i := h) Nat.testBit_two_pow_self hh
  omega
theorem rch_eq {M : Nat → Int32} (hw : WF M) {o : Int32} {h r : Nat} (hh : h < cP M) (hr : itr M o ((1 : Int32) <<< (nI h &&& 31)) (r + 1) = itr M o ((1 : Int32) <<< (nI h &&& 31)) r) : itr M o ((1 : Int32) <<< (nI h &&& 31)) r = rch M o (nI h) := by
  have hP := hw.lP
  obtain ⟨q, hq, e⟩ := itr_ex hw o hh
  unfold rch
  rcases Nat.le_total q r with h1 | h1
  · have a := itr_stab e (r - q)
    have b := itr_stab e (8 - q)
    rw [show q + (r - q) = r by omega] at a
    rw [show q + (8 - q) = 8 by omega] at b
    rw [a, b]
  · have a := itr_stab hr (8 - r)
    rw [show r + (8 - r) = 8 by omega] at a
    rw [a]
theorem rch_ge {M : Nat → Int32} (hw : WF M) {o : Int32} {h : Nat} (hh : h < cP M) : itr M o ((1 : Int32) <<< (nI h &&& 31)) (cP M) = rch M o (nI h) := by
  obtain ⟨q, hq, e⟩ := itr_ex hw o hh
  have a := itr_stab e (cP M - q)
  rw [show q + (cP M - q) = cP M by omega] at a
  rw [a]; exact rch_eq hw hh e
section RCH
variable {E : EN} {n : Nat} {S : WS} {m a : Nat} {M : Nat → Int32} {lo : Int32}
theorem e_X9_reachFrom_L16 (h : RWl E S m M lo) (hw : WF M) (hn : 11 ≤ n) (k6 : WS → Nat → Int32 → Int32 → Option (Int32 × WS)) (x w : Int32) : f_X9_reachFrom_L16 E n k6 n S m x w 0 = k6 S m (rnd M (gi S 528 m) x (cA M)) w := by
  have hA := hw.lA
  refine lp (N := cA M) (P := fun s k => f_X9_reachFrom_L16 E n k6 k S m (rnd M (gi S 528 m) x s) w (nI s) = k6 S m (rnd M (gi S 528 m) x (cA M)) w) ?_ ?_ (cA M) 0 n (by omega) (by omega)
  · intro k
    simp only [f_X9_reachFrom_L16, h.1, obs, h.2.1, mg2, h.v2, hw.t2, if_true]
  · intro s k hs ih
    simp only [f_X9_reachFrom_L16, h.1, obs, h.2.1, mg2, h.v2, hw.f2 hs, if_false, e_X9_endOf0 h (show s < 10 by omega), e_X9_endOf1 h (show s < 10 by omega), bds, lts, nI_1]
    rw [rnd] at ih
    by_cases c : (gi S 528 m >>> (nI s &&& 31)) &&& 1 = 1
    · rw [if_pos c] at ih ⊢
      by_cases d : rnd M (gi S 528 m) x s &&& ends M s = 0
      · rw [if_pos d] at ih
        rw [if_pos (show rnd M (gi S 528 m) x s &&& ((1 : Int32) <<< (M (45 + 2 * s) &&& 31) ||| (1 : Int32) <<< (M (46 + 2 * s) &&& 31)) = 0 from d)]; exact ih
      · rw [if_neg d] at ih
        rw [if_neg (show ¬ rnd M (gi S 528 m) x s &&& ((1 : Int32) <<< (M (45 + 2 * s) &&& 31) ||| (1 : Int32) <<< (M (46 + 2 * s) &&& 31)) = 0 from d)]; exact ih
    · rw [if_neg c] at ih ⊢; exact ih
theorem shl_ne0 : ∀ a, a < 8 → ¬ ((0 : Int32) = (1 : Int32) <<< (nI a &&& 31)) := by decide +kernel
theorem e_X9_reachFrom (h : RWl E S m M lo) (hw : WF M) (hn : 11 ≤ n) {j : Nat} (hj : j < cP M) : f_X9_reachFrom E n S m (nI j) = some (rch M (gi S 528 m) (nI j), S) := by
  have hP := hw.lP
  obtain ⟨r, hr, er⟩ := itr_ex hw (gi S 528 m) hj
  have key : ∀ k q, q + k = r → ∀ f, k + 1 < f → f_X9_reachFrom_L6 E n f S m (itr M (gi S 528 m) ((1 : Int32) <<< (nI j &&& 31)) (q + 1)) (itr M (gi S 528 m) ((1 : Int32) <<< (nI j &&& 31)) q) = some (rch M (gi S 528 m) (nI j), S) := by
    intro k
    induction k with
    | zero =>
      intro q hq f hf
      obtain ⟨f, rfl⟩ : ∃ g, f = g + 1 := ⟨f - 1, by omega⟩
      rw [show q = r by omega, er]
      simp only [f_X9_reachFrom_L6, if_true]
      rw [rch_eq hw hj er]
    | succ k ih =>
      intro q hq f hf
      obtain ⟨f, rfl⟩ : ∃ g, f = g + 1 := ⟨f - 1, by omega⟩
      simp only [f_X9_reachFrom_L6]
      by_cases c : itr M (gi S 528 m) ((1 : Int32) <<< (nI j &&& 31)) q = itr M (gi S 528 m) ((1 : Int32) <<< (nI j &&& 31)) (q + 1)
      · rw [if_pos c, ← c, rch_eq hw hj c.symm]
      · rw [if_neg c, e_X9_reachFrom_L16 h hw hn]
        exact ih (q + 1) (by omega) f (by omega)
  unfold f_X9_reachFrom
  rw [lts]
  obtain ⟨n', rfl⟩ : ∃ g, n = g + 1 := ⟨n - 1, by omega⟩
  simp only [f_X9_reachFrom_L6]
  rw [if_neg (shl_ne0 j (by omega)), e_X9_reachFrom_L16 h hw hn]
  exact key r 0 (by omega) n' (by omega)
theorem e_X3_placesFrom_L22 (h : RMt E S a M) (hw : WF M) (hn : 11 ≤ n) (k7 : WS → Nat → Int32 → Int32 → Int32 → Option (Int32 × WS)) (o x i w : Int32) : f_X3_placesFrom_L22 E n k7 n S a o x i w 0 = if rnd M o x (cA M) = w then some (rnd M o x (cA M), S) else k7 S a o (rnd M o x (cA M)) (i + 1) := by
  have hA := hw.lA
  refine lp (N := cA M) (P := fun s k => f_X3_placesFrom_L22 E n k7 k S a o (rnd M o x s) i w (nI s) = if rnd M o x (cA M) = w then some (rnd M o x (cA M), S) else k7 S a o (rnd M o x (cA M)) (i + 1)) ?_ ?_ (cA M) 0 n (by omega) (by omega)
  · intro k
    simp only [f_X3_placesFrom_L22, h.i131, hw.t2, if_true, lts]
  · intro s k hs ih
    have e := h.2.2.2.1 s hs
    simp only [f_X3_placesFrom_L22, h.i131, hw.f2 hs, if_false, h.g136, h.g137, obs, h.n2, h.n3, nI_clamp (show s < 2 ^ 31 by omega), ifn (rinc (show s < 10 by omega) (show 10 < 2 ^ 31 by omega)), e.1, e.2, lts, nI_1]
    rw [rnd] at ih
    by_cases c : (o >>> (nI s &&& 31)) &&& 1 = 1
    · rw [if_pos c] at ih ⊢
      by_cases d : rnd M o x s &&& ends M s = 0
      · rw [if_pos d] at ih
        rw [if_pos (show rnd M o x s &&& ((1 : Int32) <<< (M (45 + 2 * s) &&& 31) ||| (1 : Int32) <<< (M (46 + 2 * s) &&& 31)) = 0 from d)]; exact ih
      · rw [if_neg d] at ih
        rw [if_neg (show ¬ rnd M o x s &&& ((1 : Int32) <<< (M (45 + 2 * s) &&& 31) ||| (1 : Int32) <<< (M (46 + 2 * s) &&& 31)) = 0 from d)]; exact ih
    · rw [if_neg c] at ih ⊢; exact ih
theorem e_X3_placesFrom (h : RMt E S a M) (hw : WF M) (hn : 11 ≤ n) (o : Int32) {j : Nat} (hj : j < cP M) : f_X3_placesFrom E n S a (nI j) o = some (rch M o (nI j), S) := by
  have hP := hw.lP
  unfold f_X3_placesFrom
  rw [lts]
  refine (lp (N := cP M) (P := fun q f => f_X3_placesFrom_L7 E n f S a o (itr M o ((1 : Int32) <<< (nI j &&& 31)) q) (nI q) = some (rch M o (nI j), S)) ?_ ?_ (cP M) 0 n (by omega) (by omega))
  · intro k
    simp only [f_X3_placesFrom_L7, h.i129, hw.t0, if_true]
    rw [rch_ge hw hj]
  · intro s k hs ih
    simp only [f_X3_placesFrom_L7, h.i129, hw.f0 hs, if_false]
    rw [e_X3_placesFrom_L22 h hw hn]
    by_cases c : rnd M o (itr M o ((1 : Int32) <<< (nI j &&& 31)) s) (cA M) = itr M o ((1 : Int32) <<< (nI j &&& 31)) s
    · rw [if_pos c, c, rch_eq hw hj c]
    · rw [if_neg c, nI_1]; exact ih
end RCH
