/-! All lines, both ways -/
section RUN
variable {E : EN} {n c a : Nat} {S S' Sc Sm : WS} {b : Nat → Int32} {L q : Nat} {R R' : Nat → Int32}
theorem kd0 (h : CR E c b L q S) : (gi S 195 (c + 2) = 0 ↔ knd b L q = 0) := by
  have hk := knd_le (b := b) (L := L) (q := q)
  rw [h.2.2.1]
  exact nI_eq (b := 0) (by omega) (by decide)
theorem mk0 (h : MR E c b L q S) : (gi S 522 (c + 129) = 0 ↔ knd b L q = 0) := by
  have hk := knd_le (b := b) (L := L) (q := q)
  rw [h.2.2.1]
  exact nI_eq (b := 0) (by omega) (by decide)
theorem run_all (ha : a = c + 4 ∨ a = c + 17) (hn : 1500 ≤ n) : ∀ k q l R Sc Sm, L - q = k → RC E c a b L q R Sc → RM E c b L q R Sm → WF R → R 6 = nI l → l ≤ q → ((l = 0 ∧ cP R = 0 ∧ ∀ s, s < 7 → R (102 + s) = -1) ∨ (0 < l ∧ 0 < cP R)) → ∀ fc fm, k < fc → k < fm → (∃ q' R' Sc' Sm', f_X4_readWhole_L41 E n fc Sc (c + 2) a (nI l) = some (1, Sc') ∧ FC c a Sc Sc' ∧ RC E c a b L q' R' Sc' ∧ WF R' ∧ f_X9_mountain_L63 E n fm Sm (c + 129) = f_X9_mountain_L96 E n n Sm' (c + 129) 0 ∧ FMo c Sm Sm' ∧ RM E c b L q' R' Sm') ∨ (∃ k p Sc' Sm', f_X4_readWhole_L41 E n fc Sc (c + 2) a (nI l) = some (0, Sc') ∧ FC c a Sc Sc' ∧ CF c k p Sc' ∧ f_X9_mountain_L63 E n fm Sm (c + 129) = some (-4, Sm') ∧ FMo c Sm Sm' ∧ BAD E c k p Sm') := by
  intro k
  induction k using Nat.strongRecOn with
  | ind k ih =>
    intro q l R Sc Sm hk hs hm hw hl hlq h0 fc fm hfc hfm
    obtain ⟨fc, rfl⟩ : ∃ t, fc = t + 1 := ⟨fc - 1, by omega⟩
    obtain ⟨fm, rfl⟩ : ∃ t, fm = t + 1 := ⟨fm - 1, by omega⟩
    have hL := hs.1.1.2.2.2.2
    have hb := bhd_le (b := b) hs.2.2
    have hsk := skp_le (b := b) hs.2.2
    have gt := gd_t (E := E) (n := n) hm.2.1
    by_cases c0 : knd b L q = 0
    · refine Or.inl ⟨q, R, Sc, Sm, ?_, FC.rf, hs, hw, ?_, FMo.rf, hm⟩
      · simp only [f_X4_readWhole_L41, if_pos ((kd0 hs.1).mpr c0)]
        split <;> rfl
      · simp only [f_X9_mountain_L63, gt, bds, if_neg o10, if_pos ((mk0 hm.1).mpr c0)]
    · have kz : skp b L q < L := by
        apply Classical.byContradiction
        intro z
        exact c0 (by unfold knd; rw [if_pos (by omega)])
      have l14 : l < 1400 := by omega
      have outl : OUL E n c a b L q R Sc Sm := by
        rcases h0 with ⟨z1, z2, z3⟩ | ⟨z1, z2⟩
        · exact ln_first hs hm ha hn hw z2 (by rw [hl, z1]; rfl) z3
        · exact ln_one hs hm ha hn hw z2 (by rw [hl]; exact nI_ne0 z1 (by omega))
      have n14 : ¬ (1400 : Int32) ≤ nI l := nI_ge (b := 1400) l14 (by decide)
      have nk : ¬ gi Sc 195 (c + 2) = 0 := fun z => c0 ((kd0 hs.1).mp z)
      have nm : ¬ gi Sm 522 (c + 129) = 0 := fun z => c0 ((mk0 hm.1).mp z)
      rcases outl with ⟨q', R', Sc1, Sm1, r1, r2, r3, r4, r5, r6, r7, r8, r9, r10⟩ | ⟨k', p, Sc1, Sm1, r1, r2, r3, r4, r5, r6⟩
      · have hl' : R' 6 = nI l := r9.trans hl
        have cst : f_X4_readWhole_L41 E n (fc + 1) Sc (c + 2) a (nI l) = bd (f_X4_takeSemicolon E n Sc1 (c + 2)) fun v4 S3 => if v4 = 0 then some ((0 : Int32), S3) else (fun S => f_X4_readWhole_L41 E n fc S (c + 2) a (nI (l + 1))) (si S3 128 a (gi S3 128 a + 1)) := by
          simp only [f_X4_readWhole_L41, if_neg n14, if_neg nk, r1, bds, if_neg o10, lts, nI_1]
        have mst : f_X9_mountain_L63 E n (fm + 1) Sm (c + 129) = bd (mTL E n Sm1 (c + 129)) fun _ S => f_X9_mountain_L63 E n fm S (c + 129) := by
          simp only [f_X9_mountain_L63, gt, bds, if_neg o10, if_neg nm, r4]
        rcases ln_semi (n := n) r3 r6 ha hn hl' (fun S => f_X4_readWhole_L41 E n fc S (c + 2) a (nI (l + 1))) with ⟨Sc2, Sm2, s1, s2, s3, s4, s5, s6, s7⟩ | ⟨k', p, Sc2, Sm2, s1, s2, s3, s4, s5, s6⟩
        · have hb' := bhd_le (b := b) r3.2.2
          have key := ih (L - bhd b L q') (by omega) (bhd b L q') (l + 1) (upd R' 6 (nI (l + 1))) Sc2 Sm2 rfl s3 s6 (r7.u6 r8 (by omega)) pk_us (by omega) (Or.inr ⟨by omega, by
            show 0 < cP (upd R' 6 (nI (l + 1)))
            rw [show cP (upd R' 6 (nI (l + 1))) = cP R' from cE (pk_un (by decide))]; exact r8⟩) fc fm (by omega) (by omega)
          rw [cst, s1, mst, s4, bds]
          rcases key with ⟨q2, R2, Sc3, Sm3, t1, t2, t3, t4, t5, t6, t7⟩ | ⟨k', p, Sc3, Sm3, t1, t2, t3, t4, t5, t6⟩
          · exact Or.inl ⟨q2, R2, Sc3, Sm3, t1, (r2.tr s2).tr t2, t3, t4, t5, (r5.tr s5).tr t6, t7⟩
          · exact Or.inr ⟨k', p, Sc3, Sm3, t1, (r2.tr s2).tr t2, t3, t4, (r5.tr s5).tr t5, t6⟩
        · refine Or.inr ⟨k', p, Sc2, Sm2, by rw [cst, s1], r2.tr s2, s3, ?_, r5.tr s5, s6⟩
          rw [mst, s4, bds]
          obtain ⟨fm, rfl⟩ : ∃ t, fm = t + 1 := ⟨fm - 1, by omega⟩
          simp only [f_X9_mountain_L63, gd_f s6, bds, if_true]
      · obtain ⟨Sm2, j1, j2, j3⟩ := TL_bad (n := n) r6
        refine Or.inr ⟨k', p, Sc1, Sm2, ?_, r2, r3, ?_, r5.tr j2, j3⟩
        · simp only [f_X4_readWhole_L41, if_neg n14, if_neg nk, r1, bds, if_true]
        · obtain ⟨fm, rfl⟩ : ∃ t, fm = t + 1 := ⟨fm - 1, by omega⟩
          simp only [f_X9_mountain_L63, gt, bds, if_neg o10, if_neg nm, r4, j1, gd_f j3, if_true]
end RUN
