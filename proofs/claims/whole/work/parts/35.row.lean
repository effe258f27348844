/-! Rows: row, write, paste -/
theorem aj_wj' {S : WS} {a : Nat} {g : Nat → Int64} : aj (wj S a g) a = g := aj_wj
theorem wj_wj {S : WS} {a : Nat} {g g2 : Nat → Int64} : wj (wj S a g) a g2 = wj S a g2 := by
  unfold wj u1
  simp only [Prod.mk.injEq, and_true, true_and]
  funext b
  by_cases c : b = a <;> simp [c]
theorem wj_self {S : WS} {a : Nat} {g : Nat → Int64} (h : g = aj S a) : wj S a g = S := by
  subst h
  unfold wj u1 aj
  obtain ⟨s1, s2, s3, s4, s5, s6⟩ := S
  simp only [Prod.mk.injEq, and_true, true_and]
  funext b
  by_cases c : b = a <;> simp [c]
theorem e_fillL {E : EN} {n N a : Nat} {S : WS} {v : Int64} (hN : eN E a = N) (h31 : N < 2 ^ 31) (hn : N < n) : ∃ g, (∀ i, i < N → g i = v) ∧ (∀ i, N ≤ i → g i = aj S a i) ∧ f_J7_fill_d0a16 E n S a v = some ((), wj S a g) := by
  have key := lp (N := N) (P := fun s k => ∀ g, (∀ i, i < s → g i = v) → (∀ i, N ≤ i → g i = aj S a i) → ∃ g', (∀ i, i < N → g' i = v) ∧ (∀ i, N ≤ i → g' i = aj S a i) ∧ f_J7_fill_d0a16_L6 E n k (wj S a g) a v (nI s) (nI N) = some ((), wj S a g')) ?_ ?_ N 0 n (by omega) hn (aj S a) (fun i hi => by omega) (fun _ _ => rfl)
  · obtain ⟨g, a1, a2, a3⟩ := key
    rw [wj_self rfl] at a3
    refine ⟨g, a1, a2, ?_⟩
    unfold f_J7_fill_d0a16
    rw [hN, lts]; exact a3
  · intro k g h1 h2
    refine ⟨g, h1, h2, ?_⟩
    simp only [f_J7_fill_d0a16_L6]
    rw [if_pos (nI_le (Nat.le_refl _) h31)]
  · intro s k hs ih g h1 h2
    simp only [f_J7_fill_d0a16_L6, hN, nI_clamp (show s < 2 ^ 31 by omega), ifn (rinc hs h31), lts, nI_1, aj_wj, wj_wj]
    rw [if_neg (nI_ge hs h31)]
    refine ih _ (fun i hi => ?_) (fun i hi => ?_)
    · by_cases e : i = s
      · subst e; exact pk_uLs
      · rw [pk_uLn e]; exact h1 i (by omega)
    · rw [pk_uLn (by omega)]; exact h2 i hi
theorem e_fillI {E : EN} {n N a : Nat} {S : WS} {v : Int32} (hN : eN E a = N) (h31 : N < 2 ^ 31) (hn : N < n) : ∃ g, (∀ i, i < N → g i = v) ∧ (∀ i, N ≤ i → g i = ai S a i) ∧ f_J7_fill_53178 E n S a v = some ((), wi S a g) := by
  have key := lp (N := N) (P := fun s k => ∀ g, (∀ i, i < s → g i = v) → (∀ i, N ≤ i → g i = ai S a i) → ∃ g', (∀ i, i < N → g' i = v) ∧ (∀ i, N ≤ i → g' i = ai S a i) ∧ f_J7_fill_53178_L5 E n k (wi S a g) a v (nI s) (nI N) = some ((), wi S a g')) ?_ ?_ N 0 n (by omega) hn (ai S a) (fun i hi => by omega) (fun _ _ => rfl)
  · obtain ⟨g, a1, a2, a3⟩ := key
    rw [wi_self rfl] at a3
    refine ⟨g, a1, a2, ?_⟩
    unfold f_J7_fill_53178
    rw [hN, lts]; exact a3
  · intro k g h1 h2
    refine ⟨g, h1, h2, ?_⟩
    simp only [f_J7_fill_53178_L5]
    rw [if_pos (nI_le (Nat.le_refl _) h31)]
  · intro s k hs ih g h1 h2
    simp only [f_J7_fill_53178_L5, hN, nI_clamp (show s < 2 ^ 31 by omega), ifn (rinc hs h31), lts, nI_1, ai_wi, wi_wi]
    rw [if_neg (nI_ge hs h31)]
    refine ih _ (fun i hi => ?_) (fun i hi => ?_)
    · by_cases e : i = s
      · subst e; exact pk_us
      · rw [pk_un e]; exact h1 i (by omega)
    · rw [pk_un (by omega)]; exact h2 i hi
theorem e_fillB {E : EN} {n N a : Nat} {S : WS} {v : Int32} (hN : eN E a = N) (h31 : N < 2 ^ 31) (hn : N < n) : ∃ g, (∀ i, i < N → g i = vp_nar .byte v) ∧ (∀ i, N ≤ i → g i = ai S a i) ∧ f_J7_fill_031fb E n S a v = some ((), wi S a g) := by
  have key := lp (N := N) (P := fun s k => ∀ g, (∀ i, i < s → g i = vp_nar .byte v) → (∀ i, N ≤ i → g i = ai S a i) → ∃ g', (∀ i, i < N → g' i = vp_nar .byte v) ∧ (∀ i, N ≤ i → g' i = ai S a i) ∧ f_J7_fill_031fb_L5 E n k (wi S a g) a v (nI s) (nI N) = some ((), wi S a g')) ?_ ?_ N 0 n (by omega) hn (ai S a) (fun i hi => by omega) (fun _ _ => rfl)
  · obtain ⟨g, a1, a2, a3⟩ := key
    rw [wi_self rfl] at a3
    refine ⟨g, a1, a2, ?_⟩
    unfold f_J7_fill_031fb
    rw [hN, lts]; exact a3
  · intro k g h1 h2
    refine ⟨g, h1, h2, ?_⟩
    simp only [f_J7_fill_031fb_L5]
    rw [if_pos (nI_le (Nat.le_refl _) h31)]
  · intro s k hs ih g h1 h2
    simp only [f_J7_fill_031fb_L5, hN, nI_clamp (show s < 2 ^ 31 by omega), ifn (rinc hs h31), lts, nI_1, ai_wi, wi_wi]
    rw [if_neg (nI_ge hs h31)]
    refine ih _ (fun i hi => ?_) (fun i hi => ?_)
    · by_cases e : i = s
      · subst e; exact pk_us
      · rw [pk_un e]; exact h1 i (by omega)
    · rw [pk_un (by omega)]; exact h2 i hi
theorem sxt {w v : Nat} (x : BitVec w) {i : Nat} (hi : i < v) : (x.signExtend v).getLsbD i = x.getLsbD (if i < w then i else w - 1) := by
  rw [BitVec.getLsbD_signExtend]
  by_cases q : i < w
  · simp [hi, q]
  · simp [hi, q, BitVec.msb_eq_getLsbD_last]
theorem cutW (x y : Int64) {k i : Nat} (hk : k < 64) (hy : (y.toBitVec.smod 64).toNat = k) (hi : i < 64) : ((x <<< y) >>> y).toBitVec.getLsbD i = x.toBitVec.getLsbD (if i + k < 64 then i else 63 - k) := by
  rw [Int64.toBitVec_shiftRight, Int64.toBitVec_shiftLeft]
  show ((x.toBitVec <<< (y.toBitVec.smod 64).toNat).sshiftRight (y.toBitVec.smod 64).toNat).getLsbD i = _
  rw [hy, BitVec.getLsbD_sshiftRight, BitVec.msb_eq_getLsbD_last]
  by_cases q : i + k < 64
  · rw [if_pos q, if_pos (show k + i < 64 by omega), BitVec.getLsbD_shiftLeft]
    simp [show ¬ 64 ≤ i by omega, show k + i < 64 by omega]
  · rw [if_neg q, if_neg (show ¬ k + i < 64 by omega), BitVec.getLsbD_shiftLeft]
    simp [show ¬ 64 ≤ i by omega, show ¬ 63 < k by omega]
theorem cut8 (x y : Int64) (hy : (y.toBitVec.smod 64).toNat = 56) : (x <<< y) >>> y = x.toInt32.toInt8.toInt32.toInt64 := by
  apply Int64.toBitVec_inj.1
  apply BitVec.eq_of_getLsbD_eq
  intro i hi
  rw [cutW x y (by decide) hy hi]
  show _ = ((((x.toBitVec.signExtend 32).signExtend 8).signExtend 32).signExtend 64).getLsbD i
  by_cases q : i < 8
  · rw [sxt _ hi, if_pos (show i < 32 by omega), sxt _ (show i < 32 by omega), if_pos q, sxt _ q, if_pos (show i < 32 by omega), sxt _ (show i < 32 by omega), if_pos hi, if_pos (show i + 56 < 64 by omega)]
  · rw [sxt _ hi, sxt _ (show (if i < 32 then i else 32 - 1) < 32 by split <;> omega), if_neg (show ¬ (if i < 32 then i else 32 - 1) < 8 by split <;> omega), sxt _ (show 8 - 1 < 8 by decide), if_pos (show 8 - 1 < 32 by decide), sxt _ (show 8 - 1 < 32 by decide), if_pos (show 8 - 1 < 64 by decide), if_neg (show ¬ i + 56 < 64 by omega)]
theorem cut16 (x y : Int64) (hy : (y.toBitVec.smod 64).toNat = 48) : (x <<< y) >>> y = x.toInt32.toInt16.toInt32.toInt64 := by
  apply Int64.toBitVec_inj.1
  apply BitVec.eq_of_getLsbD_eq
  intro i hi
  rw [cutW x y (by decide) hy hi]
  show _ = ((((x.toBitVec.signExtend 32).signExtend 16).signExtend 32).signExtend 64).getLsbD i
  by_cases q : i < 16
  · rw [sxt _ hi, if_pos (show i < 32 by omega), sxt _ (show i < 32 by omega), if_pos q, sxt _ q, if_pos (show i < 32 by omega), sxt _ (show i < 32 by omega), if_pos hi, if_pos (show i + 48 < 64 by omega)]
  · rw [sxt _ hi, sxt _ (show (if i < 32 then i else 32 - 1) < 32 by split <;> omega), if_neg (show ¬ (if i < 32 then i else 32 - 1) < 16 by split <;> omega), sxt _ (show 16 - 1 < 16 by decide), if_pos (show 16 - 1 < 32 by decide), sxt _ (show 16 - 1 < 32 by decide), if_pos (show 16 - 1 < 64 by decide), if_neg (show ¬ i + 48 < 64 by omega)]
theorem cut32 (x y : Int64) (hy : (y.toBitVec.smod 64).toNat = 32) : (x <<< y) >>> y = x.toInt32.toInt64 := by
  apply Int64.toBitVec_inj.1
  apply BitVec.eq_of_getLsbD_eq
  intro i hi
  rw [cutW x y (by decide) hy hi]
  show _ = ((x.toBitVec.signExtend 32).signExtend 64).getLsbD i
  by_cases q : i < 32
  · rw [sxt _ hi, if_pos q, sxt _ q, if_pos hi, if_pos (show i + 32 < 64 by omega)]
  · rw [sxt _ hi, if_neg q, sxt _ (show 32 - 1 < 32 by decide), if_pos (show 32 - 1 < 64 by decide), if_neg (show ¬ i + 32 < 64 by omega)]
theorem cut64 (x y : Int64) (hy : (y.toBitVec.smod 64).toNat = 0) : (x <<< y) >>> y = x := by
  apply Int64.toBitVec_inj.1
  apply BitVec.eq_of_getLsbD_eq
  intro i hi
  rw [cutW x y (by decide) hy hi, if_pos (show i + 0 < 64 by omega)]
theorem e_cut {E : EN} {n : Nat} {S : WS} (v : Int64) {w : Nat} (hw : w < 4) : ∃ u, f_X8_cutToWidth E n S v (nI w) = some (u, S) ∧ f_X9_cut E n S v (nI w) = some (u, S) := by
  rcases (show w = 0 ∨ w = 1 ∨ w = 2 ∨ w = 3 by omega) with rfl | rfl | rfl | rfl
  · refine ⟨v.toInt32.toInt8.toInt32.toInt64, ?_, ?_⟩
    · unfold f_X8_cutToWidth; rw [if_pos (show nI 0 = 0 by decide)]
    · unfold f_X9_cut; rw [lts, cut8 _ _ (by decide +kernel)]
  · refine ⟨v.toInt32.toInt16.toInt32.toInt64, ?_, ?_⟩
    · unfold f_X8_cutToWidth; rw [if_neg (show ¬ nI 1 = 0 by decide), if_pos (show nI 1 = 1 by decide)]
    · unfold f_X9_cut; rw [lts, cut16 _ _ (by decide +kernel)]
  · refine ⟨v.toInt32.toInt64, ?_, ?_⟩
    · unfold f_X8_cutToWidth; rw [if_neg (show ¬ nI 2 = 0 by decide), if_neg (show ¬ nI 2 = 1 by decide), if_pos (show nI 2 = 2 by decide)]
    · unfold f_X9_cut; rw [lts, cut32 _ _ (by decide +kernel)]
  · refine ⟨v, ?_, ?_⟩
    · unfold f_X8_cutToWidth; rw [if_neg (show ¬ nI 3 = 0 by decide), if_neg (show ¬ nI 3 = 1 by decide), if_neg (show ¬ nI 3 = 2 by decide)]
    · unfold f_X9_cut; rw [lts, cut64 _ _ (by decide +kernel)]
section ROWS
variable {E : EN} {n c : Nat} {S : WS} {x : Nat} {M : Nat → Int32}
theorem ix60 (k i : Nat) : (60 : Int32) * nI k + nI i = nI (60 * k + i) := by
  show nI 60 * nI k + nI i = _; rw [pk_mul, nI_add]
/-- what the calls on rows change -/
theorem Inv.rw {S' : WS} (h : Inv E c S x M) (hr : ∀ f a, gr S' f a = gr S f a) (har : ∀ a, ar S' a = ar S a) (hg : ∀ f a, f ≠ 320 → f ≠ 321 → gi S' f a = gi S f a) (hai : ∀ a, a ≠ c + 145 → a ≠ c + 146 → ai S' a = ai S a) (hs : ∀ k, k < 4 → SLT c S' k) : Inv E c S' x M := by
  have hx := h.hx
  refine h.re (fun f a _ _ _ _ _ => hr f a) har ⟨hx, (hr _ _).trans h.2.2.1.2.1, (hr _ _).trans h.2.2.1.2.2⟩ h.w ?_ ?_ ?_ ?_ ?_ hs
  · exact RMt.fr h.m (fun f => hr f _) (fun f q1 q2 => hg f _ (by omega) (by omega)) (fun j q1 q2 => hai _ (by omega) (by omega))
  · exact h.o.fr (hr _ _) (fun i hi => by rw [hai _ (by omega) (by omega)]) (hg 527 _ (by decide) (by decide))
  · exact h.t.fr (hg _ _ (by decide) (by decide)) (hg _ _ (by decide) (by decide)) (hai _ (by omega) (by omega)) (hai _ (by omega) (by omega))
  · exact h.f.fr (hg _ _ (by decide) (by decide)) (hg _ _ (by decide) (by decide)) (hg _ _ (by decide) (by decide)) (hg _ _ (by decide) (by decide))
  · intro k hk
    exact (h.i k hk).fr (fun f => hr f _) (fun f q1 q2 => hg f _ (by omega) (by omega)) (fun j q1 q2 => hai _ (by omega) (by omega)) (by rw [hai _ (by omega) (by omega)]) (by rw [hai _ (by omega) (by omega)]) (fun i hi => by rw [hai _ (by omega) (by omega)])
theorem e_X9_row_L {S : WS} (hn : 61 ≤ n) (hg : gr S 548 (c + 129) = some (c + 147)) (hl : eN E (c + 147) = 240) {k : Nat} (hk : k < 4) : ∃ g, (∀ i, i < 60 → g (60 * k + i) = 0) ∧ (∀ i, i < 60 * k ∨ 60 * k + 60 ≤ i → g i = aj S (c + 147) i) ∧ f_X9_row_L52 E n n S (c + 129) (nI k) 0 = some (0, wj S (c + 147) g) := by
  have key := lp (N := 60) (P := fun s q => ∀ g, (∀ i, i < s → g (60 * k + i) = 0) → (∀ i, i < 60 * k ∨ 60 * k + 60 ≤ i → g i = aj S (c + 147) i) → ∃ g', (∀ i, i < 60 → g' (60 * k + i) = 0) ∧ (∀ i, i < 60 * k ∨ 60 * k + 60 ≤ i → g' i = aj S (c + 147) i) ∧ f_X9_row_L52 E n q (wj S (c + 147) g) (c + 129) (nI k) (nI s) = some (0, wj S (c + 147) g')) ?_ ?_ 60 0 n (by omega) (by omega) (aj S (c + 147)) (fun i hi => by omega) (fun _ _ => rfl)
  · obtain ⟨g, a1, a2, a3⟩ := key
    rw [wj_self rfl] at a3
    exact ⟨g, a1, a2, a3⟩
  · intro q g h1 h2
    refine ⟨g, h1, h2, ?_⟩
    simp only [f_X9_row_L52]
    rw [if_pos (show (60 : Int32) ≤ nI 60 by decide)]
  · intro s q hs ih g h1 h2
    have hg' : gr (wj S (c + 147) g) 548 (c + 129) = some (c + 147) := hg
    simp only [f_X9_row_L52, hg', obs, hl, ix60, nI_clamp (show 60 * k + s < 2 ^ 31 by omega), ifn (rinc (show 60 * k + s < 240 by omega) (show 240 < 2 ^ 31 by omega)), lts, nI_1, aj_wj, wj_wj]
    rw [if_neg (show ¬ (60 : Int32) ≤ nI s from nI_ge (b := 60) (by omega) (by decide))]
    refine ih _ (fun i hi => ?_) (fun i hi => ?_)
    · by_cases e : i = s
      · subst e; exact pk_uLs
      · rw [pk_uLn (by omega)]; exact h1 i (by omega)
    · rw [pk_uLn (by omega)]; exact h2 i hi
theorem op_row (h : Inv E c S x M) (hn : 61 ≤ n) (s w l : Int32) : OK E c (f_X8_row E n S c s w l) (fun S1 => f_X9_row E n S1 (c + 129) s w l) := by
  have hx := h.hx
  by_cases c1 : inI s (nI 4)
  · obtain ⟨k, hk, rfl⟩ := inI_j rfl (by decide) c1
    by_cases c2 : inI w (nI 4)
    · by_cases c3 : l ≤ 60
      · by_cases c4 : 0 ≤ l
        · obtain ⟨w, hw, rfl⟩ := inI_j rfl (by decide) c2
          obtain ⟨l, hl, rfl⟩ := nI_of2 (n := 60) (M := 60) (by decide) (x := l) (fun q => (fa_of_lt q).2.1 c4) c3
          obtain ⟨g, g1, g2, g3⟩ := e_fillL (E := E) (n := n) (S := si (si S 320 (c + (121 + 2 * k)) (nI w)) 321 (c + (121 + 2 * k)) (nI l)) (v := 0) (h.L.sl hk) (by decide) (by omega)
          have hgr : gr (si (si S 320 (c + (121 + 2 * k)) (nI w)) 321 (c + (121 + 2 * k)) (nI l)) 322 (c + (121 + 2 * k)) = some (c + (122 + 2 * k)) := gr322 h.s hk
          obtain ⟨S1, hS1⟩ : ∃ S1, S1 = wj (si (si S 320 (c + (121 + 2 * k)) (nI w)) 321 (c + (121 + 2 * k)) (nI l)) (c + (122 + 2 * k)) g := ⟨_, rfl⟩
          have m1 : gr S1 546 (c + 129) = some (c + 145) := by rw [hS1]; exact h.g546
          have m2 : ∀ g, gr (wi S1 (c + 145) g) 547 (c + 129) = some (c + 146) := fun g => by rw [hS1]; exact h.g547
          have m3 : ∀ g g', gr (wi (wi S1 (c + 145) g) (c + 146) g') 548 (c + 129) = some (c + 147) := fun g g' => by rw [hS1]; exact h.g548
          obtain ⟨q, q1, q2, q3⟩ := e_X9_row_L (E := E) (c := c) (S := wi (wi S1 (c + 145) (upd (ai S1 (c + 145)) k (nI l))) (c + 146) (upd (ai (wi S1 (c + 145) (upd (ai S1 (c + 145)) k (nI l))) (c + 146)) k (nI w))) hn (m3 _ _) h.l147 hk
          refine ⟨0, S1, wj (wi (wi S1 (c + 145) (upd (ai S1 (c + 145)) k (nI l))) (c + 146) (upd (ai (wi S1 (c + 145) (upd (ai S1 (c + 145)) k (nI l))) (c + 146)) k (nI w))) (c + 147) q, x, M, ?_, ?_, ?_⟩
          rotate_left
          · simp only [f_X9_row, e_X9_isSlot, bds, ifb1 c1, inN 3 (nI 4) 3 (by decide) rfl rfl, ifb1 c2, if_pos c3, if_pos c4, m1, m2, obs, h.l145, h.l146, nI_clamp (show k < 2 ^ 31 by omega), ifn (rinc hk (show 4 < 2 ^ 31 by omega)), lts]
            exact q3
          · have e145 : ai S1 (c + 145) = ai S (c + 145) := by rw [hS1]; rfl
            have e146 : ai S1 (c + 146) = ai S (c + 146) := by rw [hS1]; rfl
            have eg : ∀ f a, (f ≠ 320 ∧ f ≠ 321) ∨ a ≠ c + (121 + 2 * k) → gi S1 f a = gi S f a := by
              intro f a hf
              rw [hS1]
              show gi (si (si S 320 (c + (121 + 2 * k)) (nI w)) 321 (c + (121 + 2 * k)) (nI l)) f a = gi S f a
              rcases hf with ⟨p1, p2⟩ | p
              · rw [gi_si_f p2, gi_si_f p1]
              · rw [gi_si_a p, gi_si_a p]
            refine h.rw (fun f a => by rw [gr_wj, gr_wi, gr_wi, hS1]; rfl) (fun a => by rw [ar_wj, ar_wi, ar_wi, hS1]; rfl) (fun f a p1 p2 => by rw [gi_wj, gi_wi, gi_wi]; exact eg f a (Or.inl ⟨p1, p2⟩)) (fun a p1 p2 => by rw [ai_wj, ai_wi_a p2, ai_wi_a p1, hS1]; rfl) (fun j hj => ?_)
            have f145 : ai (wj (wi (wi S1 (c + 145) (upd (ai S1 (c + 145)) k (nI l))) (c + 146) (upd (ai (wi S1 (c + 145) (upd (ai S1 (c + 145)) k (nI l))) (c + 146)) k (nI w))) (c + 147) q) (c + 145) = upd (ai S (c + 145)) k (nI l) := by
              rw [ai_wj, ai_wi_a (by omega), ai_wi, e145]
            have f146 : ai (wj (wi (wi S1 (c + 145) (upd (ai S1 (c + 145)) k (nI l))) (c + 146) (upd (ai (wi S1 (c + 145) (upd (ai S1 (c + 145)) k (nI l))) (c + 146)) k (nI w))) (c + 147) q) (c + 146) = upd (ai S (c + 146)) k (nI w) := by
              rw [ai_wj, ai_wi, ai_wi_a (by omega), e146]
            have f147 : aj (wj (wi (wi S1 (c + 145) (upd (ai S1 (c + 145)) k (nI l))) (c + 146) (upd (ai (wi S1 (c + 145) (upd (ai S1 (c + 145)) k (nI l))) (c + 146)) k (nI w))) (c + 147) q) (c + 147) = q := aj_wj
            have fj : ∀ a, a ≠ c + 147 → aj (wj (wi (wi S1 (c + 145) (upd (ai S1 (c + 145)) k (nI l))) (c + 146) (upd (ai (wi S1 (c + 145) (upd (ai S1 (c + 145)) k (nI l))) (c + 146)) k (nI w))) (c + 147) q) a = aj S1 a := fun a ha => aj_wj_a ha
            by_cases e : j = k
            · subst e
              refine ⟨?_, ?_, ?_, ?_, ?_⟩
              · rw [f146, pk_us, gi_wj, gi_wi, gi_wi, hS1, gi_wj, gi_si_f (by decide), gi_si_eq]
              · rw [f145, pk_us, gi_wj, gi_wi, gi_wi, hS1, gi_wj, gi_si_eq]
              · rw [f146, pk_us]; exact ⟨w, hw, rfl⟩
              · rw [f145, pk_us]; exact Or.inr ⟨l, hl, rfl⟩
              · intro i hi
                rw [f147, fj _ (by omega), hS1, aj_wj, g1 i hi, q1 i hi]
            · refine (h.sl j hj).fr ?_ ?_ ?_ ?_ ?_ ?_
              · rw [gi_wj, gi_wi, gi_wi]; exact eg _ _ (Or.inr (by omega))
              · rw [gi_wj, gi_wi, gi_wi]; exact eg _ _ (Or.inr (by omega))
              · rw [f146, pk_un e]
              · rw [f145, pk_un e]
              · intro i hi
                rw [fj _ (by omega), hS1, aj_wj_a (by omega)]; rfl
              · intro i hi
                rw [f147, q2 _ (by omega)]
                show aj S1 (c + 147) _ = _
                rw [hS1, aj_wj_a (by omega)]; rfl
          · simp only [f_X8_row, e_X8_slotAt h hk, bds, oes, if_neg c2.1, if_pos c3, if_pos c4, lts, hgr, obs, g3]
            rw [if_neg (show ¬ (4 : Int32) ≤ nI w from c2.2), hS1]
        · exact OK.r h (v := -3) (by simp only [f_X8_row, e_X8_slotAt h hk, bds, oes, if_neg c2.1, if_neg (show ¬ (4 : Int32) ≤ w from c2.2), if_pos c3, if_neg c4]) (by simp only [f_X9_row, e_X9_isSlot, bds, ifb1 c1, inN 3 (nI 4) 3 (by decide) rfl rfl, ifb1 c2, if_pos c3, if_neg c4])
      · exact OK.r h (v := -2) (by simp only [f_X8_row, e_X8_slotAt h hk, bds, oes, if_neg c2.1, if_neg (show ¬ (4 : Int32) ≤ w from c2.2), if_neg c3]) (by simp only [f_X9_row, e_X9_isSlot, bds, ifb1 c1, inN 3 (nI 4) 3 (by decide) rfl rfl, ifb1 c2, if_neg c3])
    · refine OK.r h (v := -2) ?_ (by simp only [f_X9_row, e_X9_isSlot, bds, ifb1 c1, inN 3 (nI 4) 3 (by decide) rfl rfl, ifb0 c2])
      simp only [f_X8_row, e_X8_slotAt h hk, bds, oes]
      by_cases c3 : w < 0
      · rw [if_pos c3]
      · rw [if_neg c3, if_pos]
        apply Classical.byContradiction
        intro q
        exact c2 ⟨c3, q⟩
  · exact OK.r h (v := -2) (by simp only [f_X8_row, e_X8_slotAt0 c1, bds, oen]) (by simp only [f_X9_row, e_X9_isSlot, bds, ifb0 c1])
theorem op_write (h : Inv E c S x M) (s i : Int32) (v : Int64) : OK E c (f_X8_write E n S c s i v) (fun S1 => f_X9_write E n S1 (c + 129) s i v) := by
  have hx := h.hx
  by_cases c1 : inI s (nI 4)
  · obtain ⟨k, hk, rfl⟩ := inI_j rfl (by decide) c1
    obtain ⟨s1, s2, ⟨w, hw, s3⟩, s4, s5⟩ := h.sl k hk
    rcases s4 with s4 | ⟨l, hl, s4⟩
    · exact OK.r h (v := -6) (by simp only [f_X8_write, e_X8_slotAt h hk, bds, oes, s2, s4, if_true]) (by simp only [f_X9_write, e_X9_isSlot, bds, ifb1 c1, h.g546, obs, h.l145, nI_clamp (show k < 2 ^ 31 by omega), ifn (rinc hk (show 4 < 2 ^ 31 by omega)), s4, if_true])
    · have hl1 : ¬ nI l = -1 := nIm1 (by omega)
      have hin : f_X9_in E n S i.toInt64 (0 : Int64) ((nI l - 1).toInt64) = some (b2i (inI i (nI l)), S) := by
        rw [show (0 : Int64) = (0 : Int32).toInt64 by decide, e_in32, b2i_c (l1i (show l < 2 ^ 31 by omega))]
      by_cases c2 : inI i (nI l)
      · obtain ⟨j, hj, rfl⟩ := inI_j rfl (by omega) c2
        obtain ⟨u, u1, u2⟩ := e_cut (E := E) (n := n) (S := S) v hw
        have u2' : ∀ g, f_X9_cut E n (wj S (c + (122 + 2 * k)) g) v (nI w) = some (u, wj S (c + (122 + 2 * k)) g) := by
          intro g
          obtain ⟨u', a1, a2⟩ := e_cut (E := E) (n := n) (S := wj S (c + (122 + 2 * k)) g) v hw
          have : u = u' := by
            unfold f_X9_cut at u2 a2
            rw [lts] at u2 a2
            cases u2; cases a2; rfl
          rw [a2, this]
        refine ⟨0, wj S (c + (122 + 2 * k)) (vp_updL (aj S (c + (122 + 2 * k))) j u), wj (wj S (c + (122 + 2 * k)) (vp_updL (aj S (c + (122 + 2 * k))) j u)) (c + 147) (vp_updL (aj S (c + 147)) (60 * k + j) u), x, M, ?_, ?_, ?_⟩
        · simp only [f_X8_write, e_X8_slotAt h hk, bds, oes, s2, s4, if_neg hl1, if_neg c2.1, if_pos (nI_lt hj (show l < 2 ^ 31 by omega)), gr322 h.s hk, obs, s1, s3, u1, h.L.sl hk, nI_clamp (show j < 2 ^ 31 by omega), ifn (rinc (show j < 60 by omega) (show 60 < 2 ^ 31 by omega)), lts]
        · have m1 : ∀ g, gr (wj S (c + (122 + 2 * k)) g) 546 (c + 129) = some (c + 145) := fun g => h.g546
          have m2 : ∀ g, gr (wj S (c + (122 + 2 * k)) g) 547 (c + 129) = some (c + 146) := fun g => h.g547
          have m3 : ∀ g, gr (wj S (c + (122 + 2 * k)) g) 548 (c + 129) = some (c + 147) := fun g => h.g548
          have a1 : ∀ g, ai (wj S (c + (122 + 2 * k)) g) (c + 145) k = nI l := fun g => s4
          have a2 : ∀ g, ai (wj S (c + (122 + 2 * k)) g) (c + 146) k = nI w := fun g => s3
          have hin' : ∀ g, f_X9_in E n (wj S (c + (122 + 2 * k)) g) (nI j).toInt64 (0 : Int64) ((nI l - 1).toInt64) = some (b2i (inI (nI j) (nI l)), wj S (c + (122 + 2 * k)) g) := fun g => by
            rw [show (0 : Int64) = (0 : Int32).toInt64 by decide, e_in32, b2i_c (l1i (show l < 2 ^ 31 by omega))]
          have aj2 : ∀ g, aj (wj S (c + (122 + 2 * k)) g) (c + 147) = aj S (c + 147) := fun g => aj_wj_a (by omega)
          simp only [f_X9_write, e_X9_isSlot, bds, ifb1 c1, m1, m2, m3, obs, h.l145, h.l146, h.l147, nI_clamp (show k < 2 ^ 31 by omega), ifn (rinc hk (show 4 < 2 ^ 31 by omega)), a1, a2, if_neg hl1, hin', ifb1 c2, u2', ix60, nI_clamp (show 60 * k + j < 2 ^ 31 by omega), ifn (rinc (show 60 * k + j < 240 by omega) (show 240 < 2 ^ 31 by omega)), lts, aj2]
        · refine h.rw (fun _ _ => rfl) (fun _ => rfl) (fun _ _ _ _ => rfl) (fun _ _ _ => rfl) (fun q hq => ?_)
          have f147 : aj (wj (wj S (c + (122 + 2 * k)) (vp_updL (aj S (c + (122 + 2 * k))) j u)) (c + 147) (vp_updL (aj S (c + 147)) (60 * k + j) u)) (c + 147) = vp_updL (aj S (c + 147)) (60 * k + j) u := aj_wj
          have fj : ∀ a, a ≠ c + 147 → aj (wj (wj S (c + (122 + 2 * k)) (vp_updL (aj S (c + (122 + 2 * k))) j u)) (c + 147) (vp_updL (aj S (c + 147)) (60 * k + j) u)) a = aj (wj S (c + (122 + 2 * k)) (vp_updL (aj S (c + (122 + 2 * k))) j u)) a := fun a ha => aj_wj_a ha
          by_cases e : q = k
          · subst e
            refine ⟨s1, s2, ⟨w, hw, s3⟩, Or.inr ⟨l, hl, s4⟩, fun i hi => ?_⟩
            rw [f147, fj _ (by omega), aj_wj]
            by_cases e2 : i = j
            · subst e2; rw [pk_uLs, pk_uLs]
            · rw [pk_uLn e2, pk_uLn (show 60 * q + i ≠ 60 * q + j by omega)]; exact s5 i hi
          · refine (h.sl q hq).fr rfl rfl rfl rfl (fun i hi => ?_) (fun i hi => ?_)
            · rw [fj _ (by omega), aj_wj_a (by omega)]
            · rw [f147, pk_uLn (by omega)]
      · refine OK.r h (v := -7) ?_ (by simp only [f_X9_write, e_X9_isSlot, bds, ifb1 c1, h.g546, obs, h.l145, nI_clamp (show k < 2 ^ 31 by omega), ifn (rinc hk (show 4 < 2 ^ 31 by omega)), s4, if_neg hl1, hin, ifb0 c2])
        simp only [f_X8_write, e_X8_slotAt h hk, bds, oes, s2, s4, if_neg hl1]
        by_cases c3 : i < 0
        · rw [if_pos c3]
        · rw [if_neg c3, if_neg]
          intro q
          exact c2 ⟨c3, (fa_of_lt q).2.1⟩
  · exact OK.r h (v := -2) (by simp only [f_X8_write, e_X8_slotAt0 c1, bds, oen]) (by simp only [f_X9_write, e_X9_isSlot, bds, ifb0 c1])
end ROWS
