/-! paste, feed -/
def hld (x y l : Int32) : Prop := ¬ x < 0 ∧ ¬ y < 0 ∧ ¬ l.toInt64 < x.toInt64 + y.toInt64
theorem hld_nat {x y : Int32} {l : Nat} (hl : l ≤ 60) (h : hld x y (nI l)) : ∃ a m : Nat, x = nI a ∧ y = nI m ∧ a + m ≤ l := by
  obtain ⟨h1, h2, h3⟩ := h
  obtain ⟨a, ha, rfl⟩ := nI_of h1
  obtain ⟨m, hm, rfl⟩ := nI_of h2
  rw [nI_l ha, nI_l hm, nI_l (by omega), lN_add, pk_lLT (by omega) (by omega)] at h3
  exact ⟨a, m, rfl, rfl, by omega⟩
theorem e_X6_holds {E : EN} {n : Nat} {S : WS} {a : Nat} {x y : Int32} : f_X6_holds E n S a x y = some (b2i (hld x y (gi S 321 a)), S) := by
  unfold f_X6_holds
  by_cases h1 : x < 0
  · rw [if_pos h1, b2i_f (fun q => q.1 h1)]
  · rw [if_neg h1]
    by_cases h2 : y < 0
    · rw [if_pos h2, b2i_f (fun q => q.2.1 h2)]
    · rw [if_neg h2]
      by_cases h3 : (gi S 321 a).toInt64 < x.toInt64 + y.toInt64
      · rw [if_pos (lcm_gt.mpr h3), b2i_f (fun q => q.2.2 h3)]
      · rw [if_neg (fun q => h3 (lcm_gt.mp q)), b2i_t ⟨h1, h2, h3⟩]
section PST
variable {E : EN} {n c : Nat} {S : WS} {x : Nat} {M : Nat → Int32}
theorem ix60a (k a i : Nat) : ((60 : Int32) * nI k + nI a) + nI i = nI (60 * k + a + i) := by
  rw [ix60, nI_add]
theorem e_X9_paste_L150 (hn : 61 ≤ n) (hg : gr S 548 (c + 129) = some (c + 147)) (hl : eN E (c + 147) = 240) (hg2 : gr S 549 (c + 129) = some (c + 148)) (hl2 : eN E (c + 148) = 60) {q b m : Nat} (hq : q < 4) (hb : b + m ≤ 60) : ∃ g, (∀ i, g i = if 60 * q + b ≤ i ∧ i < 60 * q + b + m then aj S (c + 148) (i - (60 * q + b)) else aj S (c + 147) i) ∧ f_X9_paste_L150 E n n S (c + 129) (nI q) (nI b) (nI m) 0 = some (0, wj S (c + 147) g) := by
  have key := lp (N := m) (P := fun s f => ∀ g0, (∀ i, g0 i = if 60 * q + b ≤ i ∧ i < 60 * q + b + s then aj S (c + 148) (i - (60 * q + b)) else aj S (c + 147) i) → ∃ g, (∀ i, g i = if 60 * q + b ≤ i ∧ i < 60 * q + b + m then aj S (c + 148) (i - (60 * q + b)) else aj S (c + 147) i) ∧ f_X9_paste_L150 E n f (wj S (c + 147) g0) (c + 129) (nI q) (nI b) (nI m) (nI s) = some (0, wj S (c + 147) g)) ?_ ?_ m 0 n (by omega) (by omega) (aj S (c + 147)) (fun i => (if_neg (by omega)).symm)
  · rw [wj_self rfl] at key
    exact key
  · intro f g0 h0
    refine ⟨g0, h0, ?_⟩
    simp only [f_X9_paste_L150]
    rw [if_pos (nI_le (Nat.le_refl _) (by omega))]
  · intro s f hs ih g0 h0
    have hg' : gr (wj S (c + 147) g0) 548 (c + 129) = some (c + 147) := hg
    have hg2' : gr (wj S (c + 147) g0) 549 (c + 129) = some (c + 148) := hg2
    have a148 : aj (wj S (c + 147) g0) (c + 148) = aj S (c + 148) := aj_wj_a (by omega)
    simp only [f_X9_paste_L150, hg', hg2', obs, hl, hl2, ix60a, nI_clamp (show s < 2 ^ 31 by omega), nI_clamp (show 60 * q + b + s < 2 ^ 31 by omega), ifn (rinc (show s < 60 by omega) (show 60 < 2 ^ 31 by omega)), ifn (rinc (show 60 * q + b + s < 240 by omega) (show 240 < 2 ^ 31 by omega)), lts, nI_1, aj_wj, wj_wj, a148]
    rw [if_neg (nI_ge hs (by omega))]
    refine ih _ (fun i => ?_)
    by_cases e : i = 60 * q + b + s
    · rw [e, pk_uLs, if_pos (by omega), show 60 * q + b + s - (60 * q + b) = s by omega]
    · rw [pk_uLn e, h0 i]
      by_cases d : 60 * q + b ≤ i ∧ i < 60 * q + b + s
      · rw [if_pos d, if_pos (by omega)]
      · rw [if_neg d, if_neg (by omega)]
theorem e_X9_paste_L113 (hn : 61 ≤ n) (hg : gr S 548 (c + 129) = some (c + 147)) (hl : eN E (c + 147) = 240) (hg2 : gr S 549 (c + 129) = some (c + 148)) (hl2 : eN E (c + 148) = 60) {k a q b m : Nat} (hk : k < 4) (ha : a + m ≤ 60) (hq : q < 4) (hb : b + m ≤ 60) : ∃ g g2, (∀ i, g i = if 60 * q + b ≤ i ∧ i < 60 * q + b + m then aj S (c + 147) (60 * k + a + (i - (60 * q + b))) else aj S (c + 147) i) ∧ f_X9_paste_L113 E n n S (c + 129) (nI k) (nI a) (nI q) (nI b) (nI m) 0 = some (0, wj (wj S (c + 148) g2) (c + 147) g) := by
  have key := lp (N := m) (P := fun s f => ∀ g0, (∀ i, i < s → g0 i = aj S (c + 147) (60 * k + a + i)) → ∃ g g2, (∀ i, g i = if 60 * q + b ≤ i ∧ i < 60 * q + b + m then aj S (c + 147) (60 * k + a + (i - (60 * q + b))) else aj S (c + 147) i) ∧ f_X9_paste_L113 E n f (wj S (c + 148) g0) (c + 129) (nI k) (nI a) (nI q) (nI b) (nI m) (nI s) = some (0, wj (wj S (c + 148) g2) (c + 147) g)) ?_ ?_ m 0 n (by omega) (by omega) (aj S (c + 148)) (fun i hi => by omega)
  · rw [wj_self rfl] at key
    exact key
  · intro f g0 h0
    have a147 : aj (wj S (c + 148) g0) (c + 147) = aj S (c + 147) := aj_wj_a (by omega)
    obtain ⟨g, g1, g3⟩ := e_X9_paste_L150 (E := E) (S := wj S (c + 148) g0) hn hg hl hg2 hl2 hq hb
    refine ⟨g, g0, fun i => ?_, ?_⟩
    · rw [g1 i, aj_wj, a147]
      by_cases d : 60 * q + b ≤ i ∧ i < 60 * q + b + m
      · rw [if_pos d, if_pos d, h0 _ (by omega)]
      · rw [if_neg d, if_neg d]
    · simp only [f_X9_paste_L113]
      rw [if_pos (nI_le (Nat.le_refl _) (by omega))]
      exact g3
  · intro s f hs ih g0 h0
    have hg' : gr (wj S (c + 148) g0) 548 (c + 129) = some (c + 147) := hg
    have hg2' : gr (wj S (c + 148) g0) 549 (c + 129) = some (c + 148) := hg2
    have a147 : aj (wj S (c + 148) g0) (c + 147) = aj S (c + 147) := aj_wj_a (by omega)
    simp only [f_X9_paste_L113, hg', hg2', obs, hl, hl2, ix60a, nI_clamp (show s < 2 ^ 31 by omega), nI_clamp (show 60 * k + a + s < 2 ^ 31 by omega), ifn (rinc (show s < 60 by omega) (show 60 < 2 ^ 31 by omega)), ifn (rinc (show 60 * k + a + s < 240 by omega) (show 240 < 2 ^ 31 by omega)), lts, nI_1, aj_wj, wj_wj, a147]
    rw [if_neg (nI_ge hs (by omega))]
    refine ih _ (fun i hi => ?_)
    by_cases e : i = s
    · rw [e, pk_uLs]
    · rw [pk_uLn e]; exact h0 i (by omega)
theorem op_paste (h : Inv E c S x M) (hn : 61 ≤ n) (s i t j m : Int32) : OK E c (f_X8_paste E n S c s i t j m) (fun S1 => f_X9_paste E n S1 (c + 129) s i t j m) := by
  have hx := h.hx
  by_cases c1 : inI s (nI 4)
  · by_cases c2 : inI t (nI 4)
    · obtain ⟨k, hk, rfl⟩ := inI_j rfl (by decide) c1
      obtain ⟨q, hq, rfl⟩ := inI_j rfl (by decide) c2
      obtain ⟨s1, s2, ⟨w, hw, s3⟩, s4, s5⟩ := h.sl k hk
      obtain ⟨t1, t2, ⟨u, hu, t3⟩, t4, t5⟩ := h.sl q hq
      have mo : ∀ {α : Type} (y : Option α), (if nI k < 0 ∨ 4 ≤ k then none else y) = y := fun y => if_neg (rinc hk (by decide))
      have mq : ∀ {α : Type} (y : Option α), (if nI q < 0 ∨ 4 ≤ q then none else y) = y := fun y => if_neg (rinc hq (by decide))
      have cS : f_X8_slotAt E n S c (nI k) = some (some (c + (121 + 2 * k)), S) := e_X8_slotAt h hk
      have cT : f_X8_slotAt E n S c (nI q) = some (some (c + (121 + 2 * q)), S) := e_X8_slotAt h hq
      rcases s4 with s4 | ⟨l, hl, s4⟩
      · exact OK.r h (v := -6) (by simp only [f_X8_paste, cS, cT, bds, oes, s2, s4, if_true]) (by simp only [f_X9_paste, e_X9_isSlot, bds, ifb1 c1, ifb1 c2, h.g546, obs, h.l145, nI_clamp (show k < 2 ^ 31 by omega), mo, s4, if_true])
      · have hl1 : ¬ nI l = -1 := nIm1 (by omega)
        rcases t4 with t4 | ⟨l2, hl2, t4⟩
        · exact OK.r h (v := -6) (by simp only [f_X8_paste, cS, cT, bds, oes, s2, s4, t2, t4, if_neg hl1, if_true]) (by simp only [f_X9_paste, e_X9_isSlot, bds, ifb1 c1, ifb1 c2, h.g546, obs, h.l145, nI_clamp (show k < 2 ^ 31 by omega), nI_clamp (show q < 2 ^ 31 by omega), mo, mq, s4, t4, if_neg hl1, if_true])
        · have hl3 : ¬ nI l2 = -1 := nIm1 (by omega)
          by_cases c3 : nI w = nI u
          · by_cases c4 : hld i m (nI l)
            · by_cases c5 : hld j m (nI l2)
              · obtain ⟨a, m, rfl, rfl, ha⟩ := hld_nat hl c4
                obtain ⟨b, m', rfl, em, hb⟩ := hld_nat hl2 c5
                have em := (nI_eq (show m < 2 ^ 31 by omega) (show m' < 2 ^ 31 by omega)).mp em
                subst em
                have n1 : aj (wj S (c + (122 + 2 * q)) (va_cpy (aj S (c + (122 + 2 * k))) (aj S (c + (122 + 2 * q))) a b m)) (c + 147) = aj S (c + 147) := aj_wj_a (by omega)
                obtain ⟨S1, hS1⟩ : ∃ S1, S1 = wj S (c + (122 + 2 * q)) (va_cpy (aj S (c + (122 + 2 * k))) (aj S (c + (122 + 2 * q))) a b m) := ⟨_, rfl⟩
                have m546 : gr S1 546 (c + 129) = some (c + 145) := by rw [hS1]; exact h.g546
                have m547 : gr S1 547 (c + 129) = some (c + 146) := by rw [hS1]; exact h.g547
                have m548 : gr S1 548 (c + 129) = some (c + 147) := by rw [hS1]; exact h.g548
                have m549 : gr S1 549 (c + 129) = some (c + 148) := by rw [hS1]; exact h.g549
                have a145 : ai S1 (c + 145) = ai S (c + 145) := by rw [hS1]; rfl
                have a146 : ai S1 (c + 146) = ai S (c + 146) := by rw [hS1]; rfl
                obtain ⟨g, g2, g1, g3⟩ := e_X9_paste_L113 (E := E) (S := S1) (k := k) (a := a) (m := m) hn m548 h.l147 m549 h.l148 hk (by omega) hq (show b + m ≤ 60 by omega)
                refine ⟨0, S1, wj (wj S1 (c + 148) g2) (c + 147) g, x, M, ?_, ?_, ?_⟩
                rotate_left
                · have d2 : ¬ 0 < lg_cmp ((nI a).toInt64 + (nI m).toInt64) (nI l).toInt64 := fun r => c4.2.2 (lcm_gt.mp r)
                  have d3 : lg_cmp ((nI b).toInt64 + (nI m).toInt64) (nI l2).toInt64 ≤ 0 := lcm_le0.mpr c5.2.2
                  simp only [f_X9_paste, e_X9_isSlot, bds, ifb1 c1, ifb1 c2, m546, m547, obs, h.l145, h.l146, nI_clamp (show k < 2 ^ 31 by omega), nI_clamp (show q < 2 ^ 31 by omega), mo, mq, a145, a146, s3, t3, s4, t4, if_neg hl1, if_neg hl3, if_pos c3, if_neg c4.1, if_neg c4.2.1, if_neg c5.1, if_neg d2, if_pos d3]
                  exact g3
                · refine h.rw (fun f a => by rw [gr_wj, gr_wj, hS1]; rfl) (fun a => by rw [ar_wj, ar_wj, hS1]; rfl) (fun f a _ _ => by rw [gi_wj, gi_wj, hS1]; rfl) (fun a _ _ => by rw [ai_wj, ai_wj, hS1]; rfl) (fun p hp => ?_)
                  have f147 : aj (wj (wj S1 (c + 148) g2) (c + 147) g) (c + 147) = g := aj_wj
                  have fj : ∀ e, e ≠ c + 147 → e ≠ c + 148 → aj (wj (wj S1 (c + 148) g2) (c + 147) g) e = aj S1 e := fun e e1 e2 => (aj_wj_a e1).trans (aj_wj_a e2)
                  have g1' : ∀ i, g i = if 60 * q + b ≤ i ∧ i < 60 * q + b + m then aj S (c + 147) (60 * k + a + (i - (60 * q + b))) else aj S (c + 147) i := by
                    intro i
                    rw [g1 i, hS1, n1]
                  by_cases e : p = q
                  · subst e
                    refine ⟨?_, ?_, ?_, ?_, fun i hi => ?_⟩
                    · rw [gi_wj, gi_wj, ai_wj, ai_wj, hS1]; exact t1
                    · rw [gi_wj, gi_wj, ai_wj, ai_wj, hS1]; exact t2
                    · rw [ai_wj, ai_wj, hS1]; exact ⟨u, hu, t3⟩
                    · rw [ai_wj, ai_wj, hS1]; exact Or.inr ⟨l2, hl2, t4⟩
                    · rw [f147, fj _ (by omega) (by omega), hS1, aj_wj, g1' _]
                      by_cases d : b ≤ i ∧ i < b + m
                      · rw [pk_cpy_in d.1 d.2, if_pos (by omega), s5 _ (by omega)]
                        congr 1; omega
                      · rw [pk_cpy_out (by omega), if_neg (by omega)]; exact t5 i hi
                  · refine (h.sl p hp).fr ?_ ?_ ?_ ?_ (fun i hi => ?_) (fun i hi => ?_)
                    · rw [gi_wj, gi_wj, hS1]; rfl
                    · rw [gi_wj, gi_wj, hS1]; rfl
                    · rw [ai_wj, ai_wj, hS1]; rfl
                    · rw [ai_wj, ai_wj, hS1]; rfl
                    · rw [fj _ (by omega) (by omega), hS1, aj_wj_a (by omega)]
                    · rw [f147, g1' _, if_neg (by omega)]
                · have cg : ¬ (nI a < 0 ∨ nI b < 0 ∨ nI m < 0 ∨ 60 < a + m ∨ 60 < b + m) := by
                    rintro (r | r | r | r | r)
                    · exact c4.1 r
                    · exact c5.1 r
                    · exact c4.2.1 r
                    · omega
                    · omega
                  simp only [f_X8_paste, cS, cT, bds, oes, s2, s4, t2, t4, s1, t1, s3, t3, if_neg hl1, if_neg hl3, if_pos c3, e_X6_holds, ifb1 c4, ifb1 c5, gr322 h.s hk, gr322 h.s hq, obs, h.L.sl hk, h.L.sl hq, nI_clamp (show a < 2 ^ 31 by omega), nI_clamp (show b < 2 ^ 31 by omega), nI_clamp (show m < 2 ^ 31 by omega), if_neg cg, lts, hS1]
              · refine OK.r h (v := -7) (by simp only [f_X8_paste, cS, cT, bds, oes, s2, s4, t2, t4, s1, t1, s3, t3, if_neg hl1, if_neg hl3, if_pos c3, e_X6_holds, ifb1 c4, ifb0 c5]) ?_
                simp only [f_X9_paste, e_X9_isSlot, bds, ifb1 c1, ifb1 c2, h.g546, h.g547, obs, h.l145, h.l146, nI_clamp (show k < 2 ^ 31 by omega), nI_clamp (show q < 2 ^ 31 by omega), mo, mq, s3, t3, s4, t4, if_neg hl1, if_neg hl3, if_pos c3, if_neg c4.1, if_neg c4.2.1]
                by_cases r1 : j < 0
                · rw [if_pos r1]
                · rw [if_neg r1, if_neg (fun r => c4.2.2 (lcm_gt.mp r)), if_neg (fun r => c5 ⟨r1, c4.2.1, lcm_le0.mp r⟩)]
            · refine OK.r h (v := -7) (by simp only [f_X8_paste, cS, cT, bds, oes, s2, s4, t2, t4, s1, t1, s3, t3, if_neg hl1, if_neg hl3, if_pos c3, e_X6_holds, ifb0 c4]) ?_
              simp only [f_X9_paste, e_X9_isSlot, bds, ifb1 c1, ifb1 c2, h.g546, h.g547, obs, h.l145, h.l146, nI_clamp (show k < 2 ^ 31 by omega), nI_clamp (show q < 2 ^ 31 by omega), mo, mq, s3, t3, s4, t4, if_neg hl1, if_neg hl3, if_pos c3]
              by_cases r1 : i < 0
              · rw [if_pos r1]
              · rw [if_neg r1]
                by_cases r2 : j < 0
                · rw [if_pos r2]
                · rw [if_neg r2]
                  by_cases r3 : m < 0
                  · rw [if_pos r3]
                  · rw [if_neg r3, if_pos (lcm_gt.mpr (Classical.byContradiction fun r => c4 ⟨r1, r3, r⟩))]
          · exact OK.r h (v := -8) (by simp only [f_X8_paste, cS, cT, bds, oes, s2, s4, t2, t4, s1, t1, s3, t3, if_neg hl1, if_neg hl3, if_neg c3]) (by simp only [f_X9_paste, e_X9_isSlot, bds, ifb1 c1, ifb1 c2, h.g546, h.g547, obs, h.l145, h.l146, nI_clamp (show k < 2 ^ 31 by omega), nI_clamp (show q < 2 ^ 31 by omega), mo, mq, s3, t3, s4, t4, if_neg hl1, if_neg hl3, if_neg c3])
    · obtain ⟨k, hk, rfl⟩ := inI_j rfl (by decide) c1
      exact OK.r h (v := -2) (by simp only [f_X8_paste, e_X8_slotAt h hk, e_X8_slotAt0 c2, bds, oes, oen]) (by simp only [f_X9_paste, e_X9_isSlot, bds, ifb1 c1, ifb0 c2])
  · refine OK.r h (v := -2) ?_ (by simp only [f_X9_paste, e_X9_isSlot, bds, ifb0 c1])
    by_cases c2 : inI t (nI 4)
    · obtain ⟨q, hq, rfl⟩ := inI_j rfl (by decide) c2
      simp only [f_X8_paste, e_X8_slotAt h hq, e_X8_slotAt0 c1, bds, oes, oen]
    · simp only [f_X8_paste, e_X8_slotAt0 c2, e_X8_slotAt0 c1, bds, oen]
/-- byte q (from the lowest) of a number -/
def byq (v : Int32) (q : Nat) : Int32 := ((v.toUInt32 >>> ((nI (8 * q)).toUInt32 &&& Int32.toUInt32 31)).toInt32).toInt8.toInt32
theorem bt_ush (m : Nat) (hm : m < 32) (v : Int32) (i : Nat) : (v.toUInt32 >>> ((nI m).toUInt32 &&& Int32.toUInt32 31)).toInt32.toBitVec.getLsbD i = v.toBitVec.getLsbD (m + i) := by
  have su : ∀ m, m < 32 → (((nI m).toUInt32 &&& Int32.toUInt32 31).toBitVec % 32).toNat = m := by decide +kernel
  show (v.toUInt32 >>> ((nI m).toUInt32 &&& Int32.toUInt32 31)).toBitVec.getLsbD i = v.toUInt32.toBitVec.getLsbD (m + i)
  rw [UInt32.toBitVec_shiftRight]
  show (v.toUInt32.toBitVec >>> (((nI m).toUInt32 &&& Int32.toUInt32 31).toBitVec % 32).toNat).getLsbD i = _
  rw [su m hm, BitVec.getLsbD_ushiftRight]
theorem bt_ssh (m : Nat) (hm : m < 32) (v : Int32) {i : Nat} (hi : m + i < 32) : (v >>> (nI m &&& 31)).toBitVec.getLsbD i = v.toBitVec.getLsbD (m + i) := by
  have sl : ∀ m, m < 32 → ((nI m &&& 31).toBitVec.smod 32).toNat = m := by decide +kernel
  rw [Int32.toBitVec_shiftRight]
  show (v.toBitVec.sshiftRight ((nI m &&& 31).toBitVec.smod 32).toNat).getLsbD i = _
  rw [sl m hm, BitVec.getLsbD_sshiftRight]
  simp [hi, show ¬ 32 ≤ i by omega]
theorem by8 {u v : Int32} (h : ∀ i, i < 8 → u.toBitVec.getLsbD i = v.toBitVec.getLsbD i) : u.toInt8 = v.toInt8 := by
  apply Int8.toBitVec_inj.1
  apply BitVec.eq_of_getLsbD_eq
  intro i hi
  show (u.toBitVec.signExtend 8).getLsbD i = (v.toBitVec.signExtend 8).getLsbD i
  rw [sxt _ hi, sxt _ hi, if_pos (show i < 32 by omega)]
  exact h i hi
theorem byq_s (v : Int32) {q : Nat} (hq : q < 4) : (v >>> (nI (8 * q) &&& 31)).toInt8.toInt32 = byq v q := by
  unfold byq
  rw [by8]
  intro i hi
  rw [bt_ush (8 * q) (by omega), bt_ssh (8 * q) (by omega) v (by omega)]
/-- what the tape's writing changes -/
def FX (c : Nat) (S S' : WS) : Prop := (∀ f a, gr S' f a = gr S f a) ∧ (∀ a, ar S' a = ar S a) ∧ (∀ f a, f ≠ 449 → gi S' f a = gi S f a) ∧ (∀ a, a ≠ c + 1 → ai S' a = ai S a) ∧ (∀ a, aj S' a = aj S a)
theorem e_X8_put_L (v : Int32) (hl : eN E (c + 1) = 1400) : ∀ k, k ≤ 4 → ∀ (S : WS) (t : Nat), gr S 448 c = some (c + 1) → gi S 449 c = nI t → t + k ≤ 1400 → ∀ m, k < m → ∃ S', f_X8_putNumber_L3 E n m S c v (nI (8 * k) - 8) = some ((), S') ∧ FX c S S' ∧ gi S' 449 c = nI (t + k) ∧ (∀ i, i < k → ai S' (c + 1) (t + i) = byq v (k - 1 - i)) ∧ (∀ j, j < t ∨ t + k ≤ j → ai S' (c + 1) j = ai S (c + 1) j) := by
  intro k
  induction k with
  | zero =>
    intro _ S t hg ht hk m hm
    obtain ⟨m, rfl⟩ : ∃ q, m = q + 1 := ⟨m - 1, by omega⟩
    refine ⟨S, ?_, ⟨fun _ _ => rfl, fun _ => rfl, fun _ _ _ => rfl, fun _ _ => rfl, fun _ => rfl⟩, ht, fun i hi => by omega, fun _ _ => rfl⟩
    simp only [f_X8_putNumber_L3]
    rw [if_pos (by decide)]
  | succ k ih =>
    intro hk4 S t hg ht hk m hm
    obtain ⟨m, rfl⟩ : ∃ q, m = q + 1 := ⟨m - 1, by omega⟩
    have e8 : nI (8 * (k + 1)) - 8 = nI (8 * k) := by
      show nI (8 * (k + 1)) - nI 8 = _
      rw [pk_sub (by omega)]; congr 1
    obtain ⟨S', a1, a2, a3, a4, a5⟩ := ih (by omega) (si (wi S (c + 1) (upd (ai S (c + 1)) t (byq v k))) 449 c (nI (t + 1))) (t + 1) hg gi_si_eq (by omega) m (by omega)
    refine ⟨S', ?_, ⟨a2.1, a2.2.1, fun f a hf => (a2.2.2.1 f a hf).trans (gi_si_f hf), fun a ha => (a2.2.2.2.1 a ha).trans (ai_wi_a ha), a2.2.2.2.2⟩, ?_, ?_, ?_⟩
    · rw [e8]
      simp only [f_X8_putNumber_L3, if_neg (nI_pos (show 8 * k < 2 ^ 31 by omega)), ht, if_neg (nI_pos (show t < 2 ^ 31 by omega)), hg, obs, hl, nI_clamp (show t < 2 ^ 31 by omega), ifn (rinc (show t < 1400 by omega) (show 1400 < 2 ^ 31 by omega)), lts, pk_vb, gi_wi, nI_1]
      rw [if_neg (show ¬ Int32.ofNat 1400 ≤ nI t from nI_ge (by omega) (by decide)), show nI (8 * k) + (-8) = nI (8 * k) - 8 by rw [Int32.sub_eq_add_neg]]
      exact a1
    · rw [a3]; congr 1; omega
    · intro i hi
      by_cases e : i = 0
      · subst e
        rw [a5 _ (by omega)]
        show ai (wi S (c + 1) _) (c + 1) _ = _
        rw [ai_wi]; exact pk_us
      · rw [show t + i = t + 1 + (i - 1) by omega, a4 (i - 1) (by omega)]; congr 1; omega
    · intro j hj
      rw [a5 j (by omega)]
      show ai (wi S (c + 1) _) (c + 1) _ = _
      rw [ai_wi, pk_un (by omega)]
/-- so many numbers have been put -/
def PQ (c : Nat) (S S' : WS) (t : Nat) (xs : Nat → Int32) (q : Nat) : Prop := FX c S S' ∧ gi S' 449 c = nI (t + 4 * q) ∧ (∀ i, i < 4 * q → ai S' (c + 1) (t + i) = byq (xs (i / 4)) (3 - i % 4)) ∧ ∀ j, j < t ∨ t + 4 * q ≤ j → ai S' (c + 1) j = ai S (c + 1) j
theorem e_X8_put (hn : 5 ≤ n) (hl : eN E (c + 1) = 1400) {S S' : WS} (hg : gr S 448 c = some (c + 1)) {t q : Nat} {xs : Nat → Int32} (h : PQ c S S' t xs q) (ht : t + 4 * q + 4 ≤ 1400) : ∃ S2, f_X8_putNumber E n S' c (xs q) = some ((), S2) ∧ PQ c S S2 t xs (q + 1) := by
  obtain ⟨⟨f1, f2, f3, f4, f5⟩, p2, p3, p4⟩ := h
  obtain ⟨S2, a1, a2, a3, a4, a5⟩ := e_X8_put_L (E := E) (n := n) (xs q) hl 4 (Nat.le_refl _) S' (t + 4 * q) ((f1 448 c).trans hg) p2 (by omega) n (by omega)
  refine ⟨S2, a1, ⟨fun f a => (a2.1 f a).trans (f1 f a), fun a => (a2.2.1 a).trans (f2 a), fun f a hf => (a2.2.2.1 f a hf).trans (f3 f a hf), fun a ha => (a2.2.2.2.1 a ha).trans (f4 a ha), fun a => (a2.2.2.2.2 a).trans (f5 a)⟩, ?_, ?_, ?_⟩
  · rw [a3]; congr 1
  · intro i hi
    by_cases e : i < 4 * q
    · rw [a5 _ (by omega)]; exact p3 i e
    · rw [show t + i = t + 4 * q + (i - 4 * q) by omega, a4 (i - 4 * q) (by omega), show i / 4 = q by omega]; congr 1; omega
  · intro j hj
    rw [a5 j (by omega)]; exact p4 j (by omega)
theorem byt_byq (v : Int32) (q : Nat) : byt (byq v q) := by
  unfold byt byq
  rw [fb_byte_twice]
theorem e_X9_feed_L {S : WS} (hn : 21 ≤ n) (hg : gr S 516 (c + 129) = some (c + 133)) (hl : eN E (c + 133) = 1400) (hg2 : gr S 518 (c + 129) = some (c + 134)) (hl2 : eN E (c + 134) = 5) {t : Nat} (ht : gi S 517 (c + 129) = nI t) (h20 : t + 20 ≤ 1400) : ∃ g, (∀ i, i < 20 → g (t + i) = byq (ai S (c + 134) (i / 4)) (3 - i % 4)) ∧ (∀ j, j < t ∨ t + 20 ≤ j → g j = ai S (c + 133) j) ∧ f_X9_feed_L55 E n n S (c + 129) 0 = some (nI (t + 20), si (wi S (c + 133) g) 517 (c + 129) (nI (t + 20))) := by
  have key := lp (N := 20) (P := fun s k => ∀ g0, (∀ i, i < s → g0 (t + i) = byq (ai S (c + 134) (i / 4)) (3 - i % 4)) → (∀ j, j < t ∨ t + 20 ≤ j → g0 j = ai S (c + 133) j) → ∃ g, (∀ i, i < 20 → g (t + i) = byq (ai S (c + 134) (i / 4)) (3 - i % 4)) ∧ (∀ j, j < t ∨ t + 20 ≤ j → g j = ai S (c + 133) j) ∧ f_X9_feed_L55 E n k (wi S (c + 133) g0) (c + 129) (nI s) = some (nI (t + 20), si (wi S (c + 133) g) 517 (c + 129) (nI (t + 20)))) ?_ ?_ 20 0 n (by omega) (by omega) (ai S (c + 133)) (fun i hi => by omega) (fun _ _ => rfl)
  · rw [wi_self rfl] at key
    exact key
  · intro k g0 h1 h2
    refine ⟨g0, h1, h2, ?_⟩
    simp only [f_X9_feed_L55]
    rw [if_pos (show (20 : Int32) ≤ nI 20 by decide), lts, gi_si_eq, gi_wi, ht, show nI t + 20 = nI (t + 20) from nI_add t 20]
  · intro s k hs ih g0 h1 h2
    have hg' : gr (wi S (c + 133) g0) 516 (c + 129) = some (c + 133) := hg
    have hg2' : gr (wi S (c + 133) g0) 518 (c + 129) = some (c + 134) := hg2
    have ht' : gi (wi S (c + 133) g0) 517 (c + 129) = nI t := ht
    have a134 : ai (wi S (c + 133) g0) (c + 134) = ai S (c + 134) := ai_wi_a (by omega)
    have dv : nI s / 4 = nI (s / 4) := pk_div (d := 4) (by omega) (by decide) (by decide)
    have rm : nI s - nI s / 4 * 4 = nI (s % 4) := pk_rem (d := 4) (by omega) (by decide) (by decide)
    rw [dv] at rm
    have sh : (24 : Int32) - (8 : Int32) * nI (s % 4) = nI (8 * (3 - s % 4)) := by
      show nI 24 - nI 8 * nI (s % 4) = _
      rw [pk_mul, pk_sub (by omega)]; congr 1; omega
    have c4 : ¬ (4 : Int32) = 0 := by decide
    simp only [f_X9_feed_L55, hg', hg2', obs, dv, rm, sh, c4, if_false, hl, hl2, ht', nI_add, nI_clamp (show s / 4 < 2 ^ 31 by omega), nI_clamp (show t + s < 2 ^ 31 by omega), ifn (rinc (show s / 4 < 5 by omega) (show 5 < 2 ^ 31 by omega)), ifn (rinc (show t + s < 1400 by omega) (show 1400 < 2 ^ 31 by omega)), a134, byq_s _ (show 3 - s % 4 < 4 by omega), lts, nI_1, ai_wi, wi_wi]
    rw [if_neg (show ¬ (20 : Int32) ≤ nI s from nI_ge (b := 20) (by omega) (by decide)), show vp_nar .byte (byq (ai S (c + 134) (s / 4)) (3 - s % 4)) = byq (ai S (c + 134) (s / 4)) (3 - s % 4) from pk_vb _]
    refine ih _ (fun i hi => ?_) (fun j hj => ?_)
    · by_cases e : i = s
      · subst e; exact pk_us
      · rw [pk_un (by omega)]; exact h1 i (by omega)
    · rw [pk_un (by omega)]; exact h2 j hj
theorem op_feed (h : Inv E c S x M) (hn : 21 ≤ n) (v0 v1 v2 v3 v4 : Int32) : OK E c (f_X8_feed E n S c v0 v1 v2 v3 v4) (fun S1 => f_X9_feed E n S1 (c + 129) v0 v1 v2 v3 v4) := by
  have hx := h.hx
  obtain ⟨⟨t, ht, e1, e2⟩, e3⟩ := h.t
  have e1 : gi S 449 c = nI t := e1
  have g516 : gr S 516 (c + 129) = some (c + 133) := h.s.g 516 129 133 (by decide)
  have g518 : gr S 518 (c + 129) = some (c + 134) := h.s.g 518 129 134 (by decide)
  have g448 : gr S 448 c = some (c + 1) := h.s.g 448 0 1 (by decide)
  have l1 : eN E (c + 1) = 1400 := h.L.at 1 1400 (by decide) (by decide)
  have l133 : eN E (c + 133) = 1400 := h.L.at 133 1400 (by decide) (by decide)
  have l134 : eN E (c + 134) = 5 := h.L.at 134 5 (by decide) (by decide)
  have t20 : nI t + 20 = nI (t + 20) := nI_add t 20
  by_cases c1 : t + 20 ≤ 1400
  · obtain ⟨xs, x0, x1, x2, x3, x4⟩ : ∃ xs : Nat → Int32, xs 0 = v0 ∧ xs 1 = v1 ∧ xs 2 = v2 ∧ xs 3 = v3 ∧ xs 4 = v4 := ⟨fun i => if i = 0 then v0 else if i = 1 then v1 else if i = 2 then v2 else if i = 3 then v3 else v4, rfl, rfl, rfl, rfl, rfl⟩
    have p0 : PQ c S S t xs 0 := ⟨⟨fun _ _ => rfl, fun _ => rfl, fun _ _ _ => rfl, fun _ _ => rfl, fun _ => rfl⟩, e1, fun i hi => by omega, fun _ _ => rfl⟩
    obtain ⟨S1, r1, p1⟩ := e_X8_put (E := E) (n := n) (by omega) l1 g448 p0 (by omega)
    obtain ⟨S2, r2, p2⟩ := e_X8_put (E := E) (n := n) (by omega) l1 g448 p1 (by omega)
    obtain ⟨S3, r3, p3⟩ := e_X8_put (E := E) (n := n) (by omega) l1 g448 p2 (by omega)
    obtain ⟨S4, r4, p4⟩ := e_X8_put (E := E) (n := n) (by omega) l1 g448 p3 (by omega)
    obtain ⟨S5, r5, p5⟩ := e_X8_put (E := E) (n := n) (by omega) l1 g448 p4 (by omega)
    rw [x0] at r1
    rw [show (0 + 1 : Nat) = 1 from rfl, x1] at r2
    rw [show (0 + 1 + 1 : Nat) = 2 from rfl, x2] at r3
    rw [show (0 + 1 + 1 + 1 : Nat) = 3 from rfl, x3] at r4
    rw [show (0 + 1 + 1 + 1 + 1 : Nat) = 4 from rfl, x4] at r5
    obtain ⟨⟨f1, f2, f3, f4, f5⟩, q2, q3, q4⟩ := p5
    have q2 : gi S5 449 c = nI (t + 20) := q2
    obtain ⟨g5, hg5⟩ : ∃ g5, g5 = upd (upd (upd (upd (upd (ai S5 (c + 134)) 0 v0) 1 v1) 2 v2) 3 v3) 4 v4 := ⟨_, rfl⟩
    have k518 : ∀ g, gr (wi S5 (c + 134) g) 518 (c + 129) = some (c + 134) := fun g => (f1 518 _).trans g518
    have k516 : ∀ g, gr (wi S5 (c + 134) g) 516 (c + 129) = some (c + 133) := fun g => (f1 516 _).trans g516
    have k518' : gr S5 518 (c + 129) = some (c + 134) := (f1 518 _).trans g518
    have k517 : gi S5 517 (c + 129) = nI t := (f3 517 _ (by decide)).trans e2
    obtain ⟨g, w1, w2, w3⟩ := e_X9_feed_L (E := E) (n := n) (c := c) (S := wi S5 (c + 134) g5) hn (k516 g5) l133 (k518 g5) l134 k517 c1
    have hv : ∀ i, i < 5 → ai (wi S5 (c + 134) g5) (c + 134) i = xs i := by
      intro i hi
      rw [ai_wi, hg5]
      rcases (show i = 0 ∨ i = 1 ∨ i = 2 ∨ i = 3 ∨ i = 4 by omega) with rfl | rfl | rfl | rfl | rfl
      · rw [pk_un (by decide), pk_un (by decide), pk_un (by decide), pk_un (by decide), pk_us, x0]
      · rw [pk_un (by decide), pk_un (by decide), pk_un (by decide), pk_us, x1]
      · rw [pk_un (by decide), pk_un (by decide), pk_us, x2]
      · rw [pk_un (by decide), pk_us, x3]
      · rw [pk_us, x4]
    refine ⟨nI (t + 20), S5, si (wi (wi S5 (c + 134) g5) (c + 133) g) 517 (c + 129) (nI (t + 20)), x, M, ?_, ?_, ?_⟩
    rotate_left
    · have m0 : ∀ {α : Type} (y : Option α), (if (0 : Int32) < 0 ∨ 5 ≤ Int32.toNatClampNeg 0 then none else y) = y := fun y => if_neg (by decide)
      have m1 : ∀ {α : Type} (y : Option α), (if (1 : Int32) < 0 ∨ 5 ≤ Int32.toNatClampNeg 1 then none else y) = y := fun y => if_neg (by decide)
      have m2 : ∀ {α : Type} (y : Option α), (if (2 : Int32) < 0 ∨ 5 ≤ Int32.toNatClampNeg 2 then none else y) = y := fun y => if_neg (by decide)
      have m3 : ∀ {α : Type} (y : Option α), (if (3 : Int32) < 0 ∨ 5 ≤ Int32.toNatClampNeg 3 then none else y) = y := fun y => if_neg (by decide)
      have m4 : ∀ {α : Type} (y : Option α), (if (4 : Int32) < 0 ∨ 5 ≤ Int32.toNatClampNeg 4 then none else y) = y := fun y => if_neg (by decide)
      simp only [f_X9_feed, k517, t20, if_pos (show nI (t + 20) ≤ (1400 : Int32) from nI_le (b := 1400) c1 (by decide)), k518', k518, obs, l134, m0, m1, m2, m3, m4, lts, ai_wi, wi_wi]
      subst hg5
      exact w3
    · have gx : ∀ f a, f ≠ 449 → f ≠ 517 → gi (si (wi (wi S5 (c + 134) g5) (c + 133) g) 517 (c + 129) (nI (t + 20))) f a = gi S f a := fun f a h1 h2 => (gi_si_f h2).trans (f3 f a h1)
      have ax : ∀ a, a ≠ c + 1 → a ≠ c + 133 → a ≠ c + 134 → ai (si (wi (wi S5 (c + 134) g5) (c + 133) g) 517 (c + 129) (nI (t + 20))) a = ai S a := fun a h1 h2 h3 => (ai_wi_a h2).trans ((ai_wi_a h3).trans (f4 a h1))
      refine h.re (fun f a _ _ _ _ _ => f1 f a) f2 ⟨hx, (f1 _ _).trans h.2.2.1.2.1, (f1 _ _).trans h.2.2.1.2.2⟩ h.w ?_ ?_ ?_ ?_ ?_ ?_
      · exact RMt.fr h.m (fun f => f1 f _) (fun f q1 q2 => gx f _ (by omega) (by omega)) (fun j q1 q2 => ax _ (by omega) (by omega) (by omega))
      · exact h.o.fr (f1 _ _) (fun i hi => by rw [ax _ (by omega) (by omega) (by omega)]) (gx 527 _ (by decide) (by decide))
      · refine ⟨⟨t + 20, c1, (gi_si_f (by decide)).trans q2, gi_si_eq⟩, fun i hi => ?_⟩
        have a1 : ai (si (wi (wi S5 (c + 134) g5) (c + 133) g) 517 (c + 129) (nI (t + 20))) (c + 1) = ai S5 (c + 1) := (ai_wi_a (by omega)).trans (ai_wi_a (by omega))
        have a133 : ai (si (wi (wi S5 (c + 134) g5) (c + 133) g) 517 (c + 129) (nI (t + 20))) (c + 133) = g := ai_wi
        rw [a1, a133]
        by_cases d : i < t ∨ t + 20 ≤ i
        · rw [w2 i d, q4 i d, ai_wi_a (by omega), f4 _ (by omega)]; exact e3 i hi
        · rw [show i = t + (i - t) by omega, w1 (i - t) (by omega), q3 (i - t) (by omega), hv _ (by omega)]
          exact ⟨rfl, byt_byq _ _⟩
      · exact h.f.fr (gx _ _ (by decide) (by decide)) (gx _ _ (by decide) (by decide)) (gx _ _ (by decide) (by decide)) (gx _ _ (by decide) (by decide))
      · intro k hk
        exact (h.i k hk).fr (fun f => f1 f _) (fun f q1 q2 => gx f _ (by omega) (by omega)) (fun j q1 q2 => ax _ (by omega) (by omega) (by omega)) (by rw [ax _ (by omega) (by omega) (by omega)]) (by rw [ax _ (by omega) (by omega) (by omega)]) (fun i hi => by rw [ax _ (by omega) (by omega) (by omega)])
      · intro k hk
        exact (h.sl k hk).fr (gx _ _ (by decide) (by decide)) (gx _ _ (by decide) (by decide)) (by rw [ax _ (by omega) (by omega) (by omega)]) (by rw [ax _ (by omega) (by omega) (by omega)]) (fun i hi => by show aj S5 _ _ = _; rw [f5]) (fun i hi => by show aj S5 _ _ = _; rw [f5])
    · simp only [f_X8_feed, e1, t20, if_pos (show nI (t + 20) ≤ (1400 : Int32) from nI_le (b := 1400) c1 (by decide)), r1, r2, r3, r4, r5, bds, q2]
  · have cn : ¬ nI (t + 20) ≤ (1400 : Int32) := nI_ge (a := 1400) (by omega) (by omega)
    exact OK.r h (v := -1) (by simp only [f_X8_feed, e1, t20, if_neg cn]) (by simp only [f_X9_feed, e2, t20, if_neg cn])
end PST
