/-! THE CONTRACTS, by program -/
set_option maxRecDepth 100000 in
set_option maxHeartbeats 4000000 in
theorem p_X9_nextCourting_L21 {A : AM} {E : EN} {n : Nat} (C : Cx A E cX9_nextCourting 3 RX9 1 22) (X : Ex A E (some .boolean)) {k9 : WS → Nat → Int32 → Option (Int32 × WS)} (hk9 : ∀ (S : WS) (h0 : Nat) (x1 : Int32) (_ : Ty E h0 8), Gd A E 3 (QM A E wI tT) (k9 S h0 x1) S 9 [(0, .ref h0), (1, .int x1)] []) : ∀ (m : Nat) (S : WS) (h0 : Nat) (x1 : Int32) (x2 : Int32) (th0 : Ty E h0 8), Gd A E 3 (QM A E wI tT) (f_X9_nextCourting_L21 E n k9 m S h0 x1 x2) S 21 [(0, .ref h0), (1, .int x1), (2, .int x2)] [] := by
  intro m
  induction m with
  | zero => intros; exact gn
  | succ m ih =>
    intro S h0 x1 x2 th0
    unfold f_X9_nextCourting_L21
    refine r_iload_n C 2 dX9_nextCourting_21 rfl ?_
    refine r_aload_n C 0 dX9_nextCourting_22 rfl ?_
    refine r_getr C fl_X9_9 dX9_nextCourting_23 th0 (fun b1 tb1 => ?_)
    refine r_iconst C (3 : Int32) dX9_nextCourting_26 (by decide) ?_
    refine r_iald C dX9_nextCourting_27 tb1 ?_
    refine r_icmp_ge C 46 dX9_nextCourting_28 (by decide) ?_ ?_
    · exact p_X9_nextCourting_J46 C X hk9 S h0 x1 x2 th0
    · refine r_aload_n C 0 dX9_nextCourting_31 rfl ?_
      refine r_iload_n C 1 dX9_nextCourting_32 rfl ?_
      refine r_iload_n C 2 dX9_nextCourting_33 rfl ?_
      refine r_callV (As := [.int x1, .int x2]) (rest := []) C (c_X9_isFor _ E n h0 x1 x2 th0) dX9_nextCourting_34 ml_X9_276 mv_X9_isFor ⟨TX9, _, rfl⟩ (by decide) th0 rfl rfl ⟨by decide, by decide⟩ (Nat.le_of_ble_eq_true rfl) (fun v3 S2 hv3 => ?_)
      refine r_if_ne C 46 dX9_nextCourting_37 (by decide) ?_ ?_
      · exact p_X9_nextCourting_J46 C X hk9 S2 h0 x1 x2 th0
      · refine r_iinc C 2 (fun y4 => [(2, .int y4), (0, .ref h0), (1, .int x1)]) dX9_nextCourting_40 rfl (v := (1 : Int32)) (by decide) (by decide) (fun _ => rfl) (fun y4 => ?_)
        refine r_goto C 21 dX9_nextCourting_43 (by decide) ?_
        refine r_sub [1, 2, 0] [(0, .ref h0), (1, .int x1), (2, .int y4)] rfl ?_
        exact ih S2 h0 x1 y4 th0
set_option maxRecDepth 100000 in
set_option maxHeartbeats 4000000 in
theorem p_X9_nextCourting_L9 {A : AM} {E : EN} {n : Nat} (C : Cx A E cX9_nextCourting 3 RX9 1 22) (X : Ex A E (some .boolean))  : ∀ (m : Nat) (S : WS) (h0 : Nat) (x1 : Int32) (th0 : Ty E h0 8), Gd A E 3 (QM A E wI tT) (f_X9_nextCourting_L9 E n  m S h0 x1) S 9 [(0, .ref h0), (1, .int x1)] [] := by
  intro m
  induction m with
  | zero => intros; exact gn
  | succ m ih =>
    intro S h0 x1 th0
    unfold f_X9_nextCourting_L9
    refine r_iload_n C 1 dX9_nextCourting_9 rfl ?_
    refine r_if_lt C 84 dX9_nextCourting_10 (by decide) ?_ ?_
    · refine r_iconst C (0 : Int32) dX9_nextCourting_84 (by decide) ?_
      exact r_zreturn C X rfl dX9_nextCourting_85
    · refine r_aload_n C 0 dX9_nextCourting_13 rfl ?_
      refine r_iload_n C 1 dX9_nextCourting_14 rfl ?_
      refine r_callV (As := [.int x1]) (rest := []) C (c_X9_courts _ E n h0 x1 th0) dX9_nextCourting_15 ml_X9_234 mv_X9_courts ⟨TX9, _, rfl⟩ (by decide) th0 rfl rfl ⟨by decide, by decide⟩ (Nat.le_of_ble_eq_true rfl) (fun v2 S1 hv2 => ?_)
      refine r_iconst C (1 : Int32) dX9_nextCourting_18 (by decide) ?_
      refine r_iadd C dX9_nextCourting_19 ?_
      refine r_topi (fun y3 => ?_)
      refine r_istore_n C [(2, .int y3), (0, .ref h0), (1, .int x1)] dX9_nextCourting_20 (by decide) rfl ?_
      refine r_sub [1, 2, 0] [(0, .ref h0), (1, .int x1), (2, .int y3)] rfl ?_
      exact p_X9_nextCourting_L21 C X ih n S1 h0 x1 y3 th0
set_option maxRecDepth 100000 in
set_option maxHeartbeats 4000000 in
theorem c_X9_nextCourting (l : Launch) (E : EN) (n : Nat) (h0 : Nat) (th0 : Ty E h0 8) : CT l E yX9_nextCourting cX9_nextCourting 3 (some .boolean) 1 22 wI tT [.ref h0] (fun S => f_X9_nextCourting E n S h0) := by
  refine ct_of RX9 (by decide +kernel) rfl [(0, .ref h0)] rfl (Nat.le_of_ble_eq_true rfl) (fun A S hA C X => ?_)
  subst hA
  show Gd A E 3 (QM A E wI tT) (f_X9_nextCourting E n S h0) S 0 [(0, .ref h0)] []
  unfold f_X9_nextCourting
  refine r_aload_n C 0 dX9_nextCourting_0 rfl ?_
  refine r_getr C fl_X9_9 dX9_nextCourting_1 th0 (fun b1 tb1 => ?_)
  refine r_iconst C (4 : Int32) dX9_nextCourting_4 (by decide) ?_
  refine r_iald C dX9_nextCourting_5 tb1 ?_
  refine r_iconst C (1 : Int32) dX9_nextCourting_6 (by decide) ?_
  refine r_isub C dX9_nextCourting_7 ?_
  refine r_topi (fun y2 => ?_)
  refine r_istore_n C [(1, .int y2), (0, .ref h0)] dX9_nextCourting_8 (by decide) rfl ?_
  refine r_sub [1, 0] [(0, .ref h0), (1, .int y2)] rfl ?_
  exact p_X9_nextCourting_L9 C X  n S h0 y2 th0
set_option maxRecDepth 100000 in
set_option maxHeartbeats 4000000 in
theorem p_X9_meets_J143 {A : AM} {E : EN} {n : Nat} (C : Cx A E cX9_meets 4 RX9 4 87) (X : Ex A E none)  (S : WS) (h0 : Nat) (x2 : Int32) (g0 : Nat) (s1 : Int32) (th0 : Ty E h0 8) (tg0 : Ty E g0 8) : Gd A E 4 (QM A E wV tT) (f_X9_meets_J143 E n  S h0 x2 g0 s1) S 143 [(0, .ref h0), (2, .int x2)] [.int s1, .ref g0] := by
  unfold f_X9_meets_J143
  refine r_puti C fl_X9_388 dX9_meets_143 tg0 (fun S1 => ?_)
  refine r_aload_n C 0 dX9_meets_146 rfl ?_
  refine r_aload_n C 0 dX9_meets_147 rfl ?_
  refine r_geti C fl_X9_385 dX9_meets_148 th0 ?_
  refine r_if_ne C 158 dX9_meets_151 (by decide) ?_ ?_
  · refine r_aload_n C 0 dX9_meets_158 rfl ?_
    refine r_geti C fl_X9_391 dX9_meets_159 th0 ?_
    refine r_iload_n C 1 dX9_meets_162 rfl ?_
    refine r_mmin C (mG 1416 (by decide +kernel) rfl) mmin_w ⟨by decide, by decide⟩ (Nat.le_of_ble_eq_true rfl) dX9_meets_163 ?_
    refine r_puti C fl_X9_391 dX9_meets_166 th0 (fun S2 => ?_)
    refine r_aload_n C 0 dX9_meets_169 rfl ?_
    refine r_dup C dX9_meets_170 rfl ?_
    refine r_geti C fl_X9_385 dX9_meets_171 th0 ?_
    refine r_iconst C (1 : Int32) dX9_meets_174 (by decide) ?_
    refine r_iadd C dX9_meets_175 ?_
    refine r_puti C fl_X9_385 dX9_meets_176 th0 (fun S3 => ?_)
    exact r_return C X dX9_meets_179
  · refine r_iload_n C 1 dX9_meets_154 rfl ?_
    refine r_goto C 166 dX9_meets_155 (by decide) ?_
    refine r_puti C fl_X9_391 dX9_meets_166 th0 (fun S4 => ?_)
    refine r_aload_n C 0 dX9_meets_169 rfl ?_
    refine r_dup C dX9_meets_170 rfl ?_
    refine r_geti C fl_X9_385 dX9_meets_171 th0 ?_
    refine r_iconst C (1 : Int32) dX9_meets_174 (by decide) ?_
    refine r_iadd C dX9_meets_175 ?_
    refine r_puti C fl_X9_385 dX9_meets_176 th0 (fun S5 => ?_)
    exact r_return C X dX9_meets_179
set_option maxRecDepth 100000 in
set_option maxHeartbeats 4000000 in
theorem p_X9_meets_L96 {A : AM} {E : EN} {n : Nat} (C : Cx A E cX9_meets 4 RX9 4 87) (X : Ex A E none)  : ∀ (m : Nat) (S : WS) (h0 : Nat) (x1 : Int32) (x2 : Int32) (x3 : Int32) (th0 : Ty E h0 8), Gd A E 4 (QM A E wV tT) (f_X9_meets_L96 E n  m S h0 x1 x2 x3) S 96 [(0, .ref h0), (1, .int x1), (2, .int x2), (3, .int x3)] [] := by
  intro m
  induction m with
  | zero => intros; exact gn
  | succ m ih =>
    intro S h0 x1 x2 x3 th0
    unfold f_X9_meets_L96
    refine r_iload_n C 3 dX9_meets_96 rfl ?_
    refine r_aload_n C 0 dX9_meets_97 rfl ?_
    refine r_getr C fl_X9_9 dX9_meets_98 th0 (fun b1 tb1 => ?_)
    refine r_iconst C (4 : Int32) dX9_meets_101 (by decide) ?_
    refine r_iald C dX9_meets_102 tb1 ?_
    refine r_icmp_ge C 123 dX9_meets_103 (by decide) ?_ ?_
    · refine r_aload_n C 0 dX9_meets_123 rfl ?_
      refine r_aload_n C 0 dX9_meets_124 rfl ?_
      refine r_geti C fl_X9_385 dX9_meets_125 th0 ?_
      refine r_if_ne C 135 dX9_meets_128 (by decide) ?_ ?_
      · refine r_aload_n C 0 dX9_meets_135 rfl ?_
        refine r_geti C fl_X9_388 dX9_meets_136 th0 ?_
        refine r_iload_n C 1 dX9_meets_139 rfl ?_
        refine r_mmin C (mG 1416 (by decide +kernel) rfl) mmin_w ⟨by decide, by decide⟩ (Nat.le_of_ble_eq_true rfl) dX9_meets_140 ?_
        refine r_sub [0, 2] [(0, .ref h0), (2, .int x2)] rfl ?_
        exact p_X9_meets_J143 C X  S h0 x2 h0 (imin (gi S 540 h0) x1) th0 th0
      · refine r_iload_n C 1 dX9_meets_131 rfl ?_
        refine r_goto C 143 dX9_meets_132 (by decide) ?_
        refine r_sub [0, 2] [(0, .ref h0), (2, .int x2)] rfl ?_
        exact p_X9_meets_J143 C X  S h0 x2 h0 x1 th0 th0
    · refine r_aload_n C 0 dX9_meets_106 rfl ?_
      refine r_getr C fl_X9_56 dX9_meets_107 th0 (fun b2 tb2 => ?_)
      refine r_iload_n C 3 dX9_meets_110 rfl ?_
      refine r_aload_n C 0 dX9_meets_111 rfl ?_
      refine r_iload_n C 3 dX9_meets_112 rfl ?_
      refine r_callV (As := [.int x3]) (rest := [.int x3, .ref b2]) C (c_X9_courts _ E n h0 x3 th0) dX9_meets_113 ml_X9_234 mv_X9_courts ⟨TX9, _, rfl⟩ (by decide) th0 rfl rfl ⟨by decide, by decide⟩ (Nat.le_of_ble_eq_true rfl) (fun v4 S3 hv4 => ?_)
      refine r_iast C dX9_meets_116 tb2 (fun S5 => ?_)
      refine r_iinc C 3 (fun y6 => [(3, .int y6), (0, .ref h0), (1, .int x1), (2, .int x2)]) dX9_meets_117 rfl (v := (1 : Int32)) (by decide) (by decide) (fun _ => rfl) (fun y6 => ?_)
      refine r_goto C 96 dX9_meets_120 (by decide) ?_
      refine r_sub [1, 2, 3, 0] [(0, .ref h0), (1, .int x1), (2, .int x2), (3, .int y6)] rfl ?_
      exact ih S5 h0 x1 x2 y6 th0
set_option maxRecDepth 100000 in
set_option maxHeartbeats 4000000 in
theorem p_X9_meets_J34 {A : AM} {E : EN} {n : Nat} (C : Cx A E cX9_meets 4 RX9 4 87) (X : Ex A E none) {k9 : WS → Nat → Int32 → Int32 → Int32 → Option (Unit × WS)} (hk9 : ∀ (S : WS) (h0 : Nat) (x1 : Int32) (x2 : Int32) (x3 : Int32) (_ : Ty E h0 8), Gd A E 4 (QM A E wV tT) (k9 S h0 x1 x2 x3) S 9 [(0, .ref h0), (1, .int x1), (2, .int x2), (3, .int x3)] []) (S : WS) (h0 : Nat) (x1 : Int32) (x3 : Int32) (s0 : Int32) (s1 : Int32) (th0 : Ty E h0 8) : Gd A E 4 (QM A E wV tT) (f_X9_meets_J34 E n k9 S h0 x1 x3 s0 s1) S 34 [(0, .ref h0), (1, .int x1), (3, .int x3)] [.int s1, .int s0] := by
  unfold f_X9_meets_J34
  refine r_iadd C dX9_meets_34 ?_
  refine r_topi (fun y1 => ?_)
  refine r_istore_n C [(2, .int y1), (0, .ref h0), (1, .int x1), (3, .int x3)] dX9_meets_35 (by decide) rfl ?_
  refine r_aload_n C 1 dX9_meets_36 rfl ?_
  refine r_getr C fl_X9_59 dX9_meets_37 th0 (fun b2 tb2 => ?_)
  refine r_iload_n C 3 dX9_meets_40 rfl ?_
  refine r_aload_n C 1 dX9_meets_41 rfl ?_
  refine r_geti C fl_X9_385 dX9_meets_42 th0 ?_
  refine r_if_eq C 62 dX9_meets_45 (by decide) ?_ ?_
  · refine r_aload_n C 1 dX9_meets_62 rfl ?_
    refine r_iload_n C 3 dX9_meets_63 rfl ?_
    refine r_callV (As := [.int x3]) (rest := [.int x3, .ref b2]) C (c_X9_courts _ E n h0 x3 th0) dX9_meets_64 ml_X9_234 mv_X9_courts ⟨TX9, _, rfl⟩ (by decide) th0 rfl rfl ⟨by decide, by decide⟩ (Nat.le_of_ble_eq_true rfl) (fun v4 S3 hv4 => ?_)
    refine r_goto C 72 dX9_meets_67 (by decide) ?_
    refine r_iast C dX9_meets_72 tb2 (fun S5 => ?_)
    refine r_iinc C 3 (fun y6 => [(3, .int y6), (2, .int y1), (0, .ref h0), (1, .int x1)]) dX9_meets_73 rfl (v := (1 : Int32)) (by decide) (by decide) (fun _ => rfl) (fun y6 => ?_)
    refine r_goto C 9 dX9_meets_76 (by decide) ?_
    refine r_sub [2, 3, 1, 0] [(0, .ref h0), (1, .int x1), (2, .int y1), (3, .int y6)] rfl ?_
    exact hk9 S5 h0 x1 y1 y6 th0
  · refine r_aload_n C 1 dX9_meets_48 rfl ?_
    refine r_getr C fl_X9_59 dX9_meets_49 th0 (fun b7 tb7 => ?_)
    refine r_iload_n C 3 dX9_meets_52 rfl ?_
    refine r_iald C dX9_meets_53 tb7 ?_
    refine r_aload_n C 1 dX9_meets_54 rfl ?_
    refine r_iload_n C 3 dX9_meets_55 rfl ?_
    refine r_callV (As := [.int x3]) (rest := [.int (ai S b7 x3.toNatClampNeg), .int x3, .ref b2]) C (c_X9_courts _ E n h0 x3 th0) dX9_meets_56 ml_X9_234 mv_X9_courts ⟨TX9, _, rfl⟩ (by decide) th0 rfl rfl ⟨by decide, by decide⟩ (Nat.le_of_ble_eq_true rfl) (fun v9 S8 hv9 => ?_)
    refine r_icmp_ne C 70 dX9_meets_59 (by decide) ?_ ?_
    · refine r_bipush C (-2 : Int32) dX9_meets_70 (by decide) ?_
      refine r_iast C dX9_meets_72 tb2 (fun S10 => ?_)
      refine r_iinc C 3 (fun y11 => [(3, .int y11), (2, .int y1), (0, .ref h0), (1, .int x1)]) dX9_meets_73 rfl (v := (1 : Int32)) (by decide) (by decide) (fun _ => rfl) (fun y11 => ?_)
      refine r_goto C 9 dX9_meets_76 (by decide) ?_
      refine r_sub [2, 3, 1, 0] [(0, .ref h0), (1, .int x1), (2, .int y1), (3, .int y11)] rfl ?_
      exact hk9 S10 h0 x1 y1 y11 th0
    · refine r_aload_n C 1 dX9_meets_62 rfl ?_
      refine r_iload_n C 3 dX9_meets_63 rfl ?_
      refine r_callV (As := [.int x3]) (rest := [.int x3, .ref b2]) C (c_X9_courts _ E n h0 x3 th0) dX9_meets_64 ml_X9_234 mv_X9_courts ⟨TX9, _, rfl⟩ (by decide) th0 rfl rfl ⟨by decide, by decide⟩ (Nat.le_of_ble_eq_true rfl) (fun v13 S12 hv13 => ?_)
      refine r_goto C 72 dX9_meets_67 (by decide) ?_
      refine r_iast C dX9_meets_72 tb2 (fun S14 => ?_)
      refine r_iinc C 3 (fun y15 => [(3, .int y15), (2, .int y1), (0, .ref h0), (1, .int x1)]) dX9_meets_73 rfl (v := (1 : Int32)) (by decide) (by decide) (fun _ => rfl) (fun y15 => ?_)
      refine r_goto C 9 dX9_meets_76 (by decide) ?_
      refine r_sub [2, 3, 1, 0] [(0, .ref h0), (1, .int x1), (2, .int y1), (3, .int y15)] rfl ?_
      exact hk9 S14 h0 x1 y1 y15 th0
set_option maxRecDepth 100000 in
set_option maxHeartbeats 4000000 in
theorem p_X9_meets_L9 {A : AM} {E : EN} {n : Nat} (C : Cx A E cX9_meets 4 RX9 4 87) (X : Ex A E none)  : ∀ (m : Nat) (S : WS) (h0 : Nat) (x1 : Int32) (x2 : Int32) (x3 : Int32) (th0 : Ty E h0 8), Gd A E 4 (QM A E wV tT) (f_X9_meets_L9 E n  m S h0 x1 x2 x3) S 9 [(0, .ref h0), (1, .int x1), (2, .int x2), (3, .int x3)] [] := by
  intro m
  induction m with
  | zero => intros; exact gn
  | succ m ih =>
    intro S h0 x1 x2 x3 th0
    unfold f_X9_meets_L9
    refine r_iload_n C 3 dX9_meets_9 rfl ?_
    refine r_aload_n C 0 dX9_meets_10 rfl ?_
    refine r_getr C fl_X9_9 dX9_meets_11 th0 (fun b1 tb1 => ?_)
    refine r_iconst C (4 : Int32) dX9_meets_14 (by decide) ?_
    refine r_iald C dX9_meets_15 tb1 ?_
    refine r_icmp_ge C 79 dX9_meets_16 (by decide) ?_ ?_
    · refine r_aload_n C 0 dX9_meets_79 rfl ?_
      refine r_geti C fl_X9_385 dX9_meets_80 th0 ?_
      refine r_if_eq C 94 dX9_meets_83 (by decide) ?_ ?_
      · refine r_iconst C (0 : Int32) dX9_meets_94 (by decide) ?_
        refine r_istore_n C [(3, .int (0 : Int32)), (0, .ref h0), (1, .int x1), (2, .int x2)] dX9_meets_95 (by decide) rfl ?_
        refine r_sub [1, 2, 3, 0] [(0, .ref h0), (1, .int x1), (2, .int x2), (3, .int (0 : Int32))] rfl ?_
        exact p_X9_meets_L96 C X  n S h0 x1 x2 (0 : Int32) th0
      · refine r_iload_n C 1 dX9_meets_86 rfl ?_
        refine r_aload_n C 0 dX9_meets_87 rfl ?_
        refine r_geti C fl_X9_388 dX9_meets_88 th0 ?_
        refine r_icmp_ge C 123 dX9_meets_91 (by decide) ?_ ?_
        · refine r_aload_n C 0 dX9_meets_123 rfl ?_
          refine r_aload_n C 0 dX9_meets_124 rfl ?_
          refine r_geti C fl_X9_385 dX9_meets_125 th0 ?_
          refine r_if_ne C 135 dX9_meets_128 (by decide) ?_ ?_
          · refine r_aload_n C 0 dX9_meets_135 rfl ?_
            refine r_geti C fl_X9_388 dX9_meets_136 th0 ?_
            refine r_iload_n C 1 dX9_meets_139 rfl ?_
            refine r_mmin C (mG 1416 (by decide +kernel) rfl) mmin_w ⟨by decide, by decide⟩ (Nat.le_of_ble_eq_true rfl) dX9_meets_140 ?_
            refine r_sub [0, 2] [(0, .ref h0), (2, .int x2)] rfl ?_
            exact p_X9_meets_J143 C X  S h0 x2 h0 (imin (gi S 540 h0) x1) th0 th0
          · refine r_iload_n C 1 dX9_meets_131 rfl ?_
            refine r_goto C 143 dX9_meets_132 (by decide) ?_
            refine r_sub [0, 2] [(0, .ref h0), (2, .int x2)] rfl ?_
            exact p_X9_meets_J143 C X  S h0 x2 h0 x1 th0 th0
        · refine r_iconst C (0 : Int32) dX9_meets_94 (by decide) ?_
          refine r_istore_n C [(3, .int (0 : Int32)), (0, .ref h0), (1, .int x1), (2, .int x2)] dX9_meets_95 (by decide) rfl ?_
          refine r_sub [1, 2, 3, 0] [(0, .ref h0), (1, .int x1), (2, .int x2), (3, .int (0 : Int32))] rfl ?_
          exact p_X9_meets_L96 C X  n S h0 x1 x2 (0 : Int32) th0
    · refine r_iload_n C 2 dX9_meets_19 rfl ?_
      refine r_aload_n C 0 dX9_meets_20 rfl ?_
      refine r_iload_n C 3 dX9_meets_21 rfl ?_
      refine r_callV (As := [.int x3]) (rest := [.int x2]) C (c_X9_courts _ E n h0 x3 th0) dX9_meets_22 ml_X9_234 mv_X9_courts ⟨TX9, _, rfl⟩ (by decide) th0 rfl rfl ⟨by decide, by decide⟩ (Nat.le_of_ble_eq_true rfl) (fun v3 S2 hv3 => ?_)
      refine r_iconst C (-1 : Int32) dX9_meets_25 (by decide) ?_
      refine r_icmp_ne C 33 dX9_meets_26 (by decide) ?_ ?_
      · refine r_iconst C (1 : Int32) dX9_meets_33 (by decide) ?_
        refine r_sub [0, 1, 3] [(0, .ref h0), (1, .int x1), (3, .int x3)] rfl ?_
        exact p_X9_meets_J34 C X ih S2 h0 x1 x3 x2 (1 : Int32) th0
      · refine r_iconst C (0 : Int32) dX9_meets_29 (by decide) ?_
        refine r_goto C 34 dX9_meets_30 (by decide) ?_
        refine r_sub [0, 1, 3] [(0, .ref h0), (1, .int x1), (3, .int x3)] rfl ?_
        exact p_X9_meets_J34 C X ih S2 h0 x1 x3 x2 (0 : Int32) th0
set_option maxRecDepth 100000 in
set_option maxHeartbeats 4000000 in
theorem c_X9_meets (l : Launch) (E : EN) (n : Nat) (h0 : Nat) (th0 : Ty E h0 8) : CT l E yX9_meets cX9_meets 4 none 4 87 wV tT [.ref h0] (fun S => f_X9_meets E n S h0) := by
  refine ct_of RX9 (by decide +kernel) rfl [(0, .ref h0)] rfl (Nat.le_of_ble_eq_true rfl) (fun A S hA C X => ?_)
  subst hA
  show Gd A E 4 (QM A E wV tT) (f_X9_meets E n S h0) S 0 [(0, .ref h0)] []
  unfold f_X9_meets
  refine r_aload_n C 0 dX9_meets_0 rfl ?_
  refine r_callV (As := []) (rest := []) C (c_X9_heartsNow _ E n h0 th0) dX9_meets_1 ml_X9_289 mv_X9_heartsNow ⟨TX9, _, rfl⟩ (by decide) th0 rfl rfl ⟨by decide, by decide⟩ (Nat.le_of_ble_eq_true rfl) (fun v2 S1 hv2 => ?_)
  refine r_istore_n C [(1, .int v2), (0, .ref h0)] dX9_meets_4 (by decide) rfl ?_
  refine r_iconst C (0 : Int32) dX9_meets_5 (by decide) ?_
  refine r_istore_n C [(2, .int (0 : Int32)), (1, .int v2), (0, .ref h0)] dX9_meets_6 (by decide) rfl ?_
  refine r_iconst C (0 : Int32) dX9_meets_7 (by decide) ?_
  refine r_istore_n C [(3, .int (0 : Int32)), (2, .int (0 : Int32)), (1, .int v2), (0, .ref h0)] dX9_meets_8 (by decide) rfl ?_
  refine r_sub [3, 2, 1, 0] [(0, .ref h0), (1, .int v2), (2, .int (0 : Int32)), (3, .int (0 : Int32))] rfl ?_
  exact p_X9_meets_L9 C X  n S1 h0 v2 (0 : Int32) (0 : Int32) th0
set_option maxRecDepth 100000 in
set_option maxHeartbeats 4000000 in
theorem p_X9_allCanCome_L2 {A : AM} {E : EN} {n : Nat} (C : Cx A E cX9_allCanCome 4 RX9 6 141) (X : Ex A E (some .boolean))  : ∀ (m : Nat) (S : WS) (h0 : Nat) (x1 : Int32) (x2 : Int32) (x3 : Int32) (th0 : Ty E h0 8), Gd A E 4 (QM A E wI tT) (f_X9_allCanCome_L2 E n  m S h0 x1 x2 x3) S 2 [(0, .ref h0), (1, .int x1), (2, .int x2), (3, .int x3)] [] := by
  intro m
  induction m with
  | zero => intros; exact gn
  | succ m ih =>
    intro S h0 x1 x2 x3 th0
    unfold f_X9_allCanCome_L2
    refine r_iload_n C 3 dX9_allCanCome_2 rfl ?_
    refine r_aload_n C 0 dX9_allCanCome_3 rfl ?_
    refine r_getr C fl_X9_9 dX9_allCanCome_4 th0 (fun b1 tb1 => ?_)
    refine r_iconst C (5 : Int32) dX9_allCanCome_7 (by decide) ?_
    refine r_iald C dX9_allCanCome_8 tb1 ?_
    refine r_icmp_ge C 30 dX9_allCanCome_9 (by decide) ?_ ?_
    · refine r_iconst C (1 : Int32) dX9_allCanCome_30 (by decide) ?_
      exact r_zreturn C X rfl dX9_allCanCome_31
    · refine r_aload_n C 0 dX9_allCanCome_12 rfl ?_
      refine r_iload_n C 3 dX9_allCanCome_13 rfl ?_
      refine r_iload_n C 1 dX9_allCanCome_14 rfl ?_
      refine r_iload_n C 2 dX9_allCanCome_15 rfl ?_
      refine r_callV (As := [.int x3, .int x1, .int x2]) (rest := []) C (c_X9_canCome _ E n h0 x3 x1 x2 th0) dX9_allCanCome_16 ml_X9_382 mv_X9_canCome ⟨TX9, _, rfl⟩ (by decide) th0 rfl rfl ⟨by decide, by decide⟩ (Nat.le_of_ble_eq_true rfl) (fun v3 S2 hv3 => ?_)
      refine r_if_ne C 24 dX9_allCanCome_19 (by decide) ?_ ?_
      · refine r_iinc C 3 (fun y4 => [(3, .int y4), (0, .ref h0), (1, .int x1), (2, .int x2)]) dX9_allCanCome_24 rfl (v := (1 : Int32)) (by decide) (by decide) (fun _ => rfl) (fun y4 => ?_)
        refine r_goto C 2 dX9_allCanCome_27 (by decide) ?_
        refine r_sub [1, 2, 3, 0] [(0, .ref h0), (1, .int x1), (2, .int x2), (3, .int y4)] rfl ?_
        exact ih S2 h0 x1 x2 y4 th0
      · refine r_iconst C (0 : Int32) dX9_allCanCome_22 (by decide) ?_
        exact r_zreturn C X rfl dX9_allCanCome_23
set_option maxRecDepth 100000 in
set_option maxHeartbeats 4000000 in
theorem c_X9_allCanCome (l : Launch) (E : EN) (n : Nat) (h0 : Nat) (x1 : Int32) (x2 : Int32) (th0 : Ty E h0 8) : CT l E yX9_allCanCome cX9_allCanCome 4 (some .boolean) 6 141 wI tT [.ref h0, .int x1, .int x2] (fun S => f_X9_allCanCome E n S h0 x1 x2) := by
  refine ct_of RX9 (by decide +kernel) rfl [(0, .ref h0), (1, .int x1), (2, .int x2)] rfl (Nat.le_of_ble_eq_true rfl) (fun A S hA C X => ?_)
  subst hA
  show Gd A E 4 (QM A E wI tT) (f_X9_allCanCome E n S h0 x1 x2) S 0 [(0, .ref h0), (1, .int x1), (2, .int x2)] []
  unfold f_X9_allCanCome
  refine r_iconst C (0 : Int32) dX9_allCanCome_0 (by decide) ?_
  refine r_istore_n C [(3, .int (0 : Int32)), (0, .ref h0), (1, .int x1), (2, .int x2)] dX9_allCanCome_1 (by decide) rfl ?_
  refine r_sub [1, 2, 3, 0] [(0, .ref h0), (1, .int x1), (2, .int x2), (3, .int (0 : Int32))] rfl ?_
  exact p_X9_allCanCome_L2 C X  n S h0 x1 x2 (0 : Int32) th0
set_option maxRecDepth 100000 in
set_option maxHeartbeats 4000000 in
theorem p_X9_courtingsTo_L9 {A : AM} {E : EN} {n : Nat} (C : Cx A E cX9_courtingsTo 4 RX9 7 164) (X : Ex A E none)  : ∀ (m : Nat) (S : WS) (h0 : Nat) (x1 : Int32) (x2 : Int32) (x3 : Int32) (th0 : Ty E h0 8), Gd A E 4 (QM A E wV tT) (f_X9_courtingsTo_L9 E n  m S h0 x1 x2 x3) S 9 [(0, .ref h0), (1, .int x1), (2, .int x2), (3, .int x3)] [] := by
  intro m
  induction m with
  | zero => intros; exact gn
  | succ m ih =>
    intro S h0 x1 x2 x3 th0
    unfold f_X9_courtingsTo_L9
    refine r_iload_n C 1 dX9_courtingsTo_9 rfl ?_
    refine r_iconst C (-1 : Int32) dX9_courtingsTo_10 (by decide) ?_
    refine r_icmp_ne C 26 dX9_courtingsTo_11 (by decide) ?_ ?_
    · refine r_aload_n C 0 dX9_courtingsTo_26 rfl ?_
      refine r_iload_n C 1 dX9_courtingsTo_27 rfl ?_
      refine r_iload_n C 2 dX9_courtingsTo_28 rfl ?_
      refine r_iload_n C 3 dX9_courtingsTo_29 rfl ?_
      refine r_callV (As := [.int x1, .int x2, .int x3]) (rest := []) C (c_X9_canCome _ E n h0 x1 x2 x3 th0) dX9_courtingsTo_30 ml_X9_382 mv_X9_canCome ⟨TX9, _, rfl⟩ (by decide) th0 rfl rfl ⟨by decide, by decide⟩ (Nat.le_of_ble_eq_true rfl) (fun v2 S1 hv2 => ?_)
      refine r_if_eq C 40 dX9_courtingsTo_33 (by decide) ?_ ?_
      · refine r_aload_n C 0 dX9_courtingsTo_40 rfl ?_
        refine r_callV (As := []) (rest := []) C (c_X9_nextCourting _ E n h0 th0) dX9_courtingsTo_41 ml_X9_403 mv_X9_nextCourting ⟨TX9, _, rfl⟩ (by decide) th0 rfl rfl ⟨by decide, by decide⟩ (Nat.le_of_ble_eq_true rfl) (fun v4 S3 hv4 => ?_)
        refine r_if_ne C 9 dX9_courtingsTo_44 (by decide) ?_ ?_
        · exact ih S3 h0 x1 x2 x3 th0
        · refine r_aload_n C 0 dX9_courtingsTo_47 rfl ?_
          refine r_callV (As := []) (rest := []) C (c_X9_endsCourtings _ E n h0 th0) dX9_courtingsTo_48 ml_X9_406 mv_X9_endsCourtings ⟨TX9, _, rfl⟩ (by decide) th0 rfl rfl ⟨by decide, by decide⟩ (Nat.le_of_ble_eq_true rfl) (fun v6 S5 hv6 => ?_)
          exact r_return C X dX9_courtingsTo_51
      · refine r_aload_n C 0 dX9_courtingsTo_36 rfl ?_
        refine r_callV (As := []) (rest := []) C (c_X9_meets _ E n h0 th0) dX9_courtingsTo_37 ml_X9_400 mv_X9_meets ⟨TX9, _, rfl⟩ (by decide) th0 rfl rfl ⟨by decide, by decide⟩ (Nat.le_of_ble_eq_true rfl) (fun v8 S7 hv8 => ?_)
        refine r_aload_n C 0 dX9_courtingsTo_40 rfl ?_
        refine r_callV (As := []) (rest := []) C (c_X9_nextCourting _ E n h0 th0) dX9_courtingsTo_41 ml_X9_403 mv_X9_nextCourting ⟨TX9, _, rfl⟩ (by decide) th0 rfl rfl ⟨by decide, by decide⟩ (Nat.le_of_ble_eq_true rfl) (fun v10 S9 hv10 => ?_)
        refine r_if_ne C 9 dX9_courtingsTo_44 (by decide) ?_ ?_
        · exact ih S9 h0 x1 x2 x3 th0
        · refine r_aload_n C 0 dX9_courtingsTo_47 rfl ?_
          refine r_callV (As := []) (rest := []) C (c_X9_endsCourtings _ E n h0 th0) dX9_courtingsTo_48 ml_X9_406 mv_X9_endsCourtings ⟨TX9, _, rfl⟩ (by decide) th0 rfl rfl ⟨by decide, by decide⟩ (Nat.le_of_ble_eq_true rfl) (fun v12 S11 hv12 => ?_)
          exact r_return C X dX9_courtingsTo_51
    · refine r_aload_n C 0 dX9_courtingsTo_14 rfl ?_
      refine r_iload_n C 2 dX9_courtingsTo_15 rfl ?_
      refine r_iload_n C 3 dX9_courtingsTo_16 rfl ?_
      refine r_callV (As := [.int x2, .int x3]) (rest := []) C (c_X9_allCanCome _ E n h0 x2 x3 th0) dX9_courtingsTo_17 ml_X9_397 mv_X9_allCanCome ⟨TX9, _, rfl⟩ (by decide) th0 rfl rfl ⟨by decide, by decide⟩ (Nat.le_of_ble_eq_true rfl) (fun v14 S13 hv14 => ?_)
      refine r_if_eq C 40 dX9_courtingsTo_20 (by decide) ?_ ?_
      · refine r_aload_n C 0 dX9_courtingsTo_40 rfl ?_
        refine r_callV (As := []) (rest := []) C (c_X9_nextCourting _ E n h0 th0) dX9_courtingsTo_41 ml_X9_403 mv_X9_nextCourting ⟨TX9, _, rfl⟩ (by decide) th0 rfl rfl ⟨by decide, by decide⟩ (Nat.le_of_ble_eq_true rfl) (fun v16 S15 hv16 => ?_)
        refine r_if_ne C 9 dX9_courtingsTo_44 (by decide) ?_ ?_
        · exact ih S15 h0 x1 x2 x3 th0
        · refine r_aload_n C 0 dX9_courtingsTo_47 rfl ?_
          refine r_callV (As := []) (rest := []) C (c_X9_endsCourtings _ E n h0 th0) dX9_courtingsTo_48 ml_X9_406 mv_X9_endsCourtings ⟨TX9, _, rfl⟩ (by decide) th0 rfl rfl ⟨by decide, by decide⟩ (Nat.le_of_ble_eq_true rfl) (fun v18 S17 hv18 => ?_)
          exact r_return C X dX9_courtingsTo_51
      · refine r_goto C 36 dX9_courtingsTo_23 (by decide) ?_
        refine r_aload_n C 0 dX9_courtingsTo_36 rfl ?_
        refine r_callV (As := []) (rest := []) C (c_X9_meets _ E n h0 th0) dX9_courtingsTo_37 ml_X9_400 mv_X9_meets ⟨TX9, _, rfl⟩ (by decide) th0 rfl rfl ⟨by decide, by decide⟩ (Nat.le_of_ble_eq_true rfl) (fun v20 S19 hv20 => ?_)
        refine r_aload_n C 0 dX9_courtingsTo_40 rfl ?_
        refine r_callV (As := []) (rest := []) C (c_X9_nextCourting _ E n h0 th0) dX9_courtingsTo_41 ml_X9_403 mv_X9_nextCourting ⟨TX9, _, rfl⟩ (by decide) th0 rfl rfl ⟨by decide, by decide⟩ (Nat.le_of_ble_eq_true rfl) (fun v22 S21 hv22 => ?_)
        refine r_if_ne C 9 dX9_courtingsTo_44 (by decide) ?_ ?_
        · exact ih S21 h0 x1 x2 x3 th0
        · refine r_aload_n C 0 dX9_courtingsTo_47 rfl ?_
          refine r_callV (As := []) (rest := []) C (c_X9_endsCourtings _ E n h0 th0) dX9_courtingsTo_48 ml_X9_406 mv_X9_endsCourtings ⟨TX9, _, rfl⟩ (by decide) th0 rfl rfl ⟨by decide, by decide⟩ (Nat.le_of_ble_eq_true rfl) (fun v24 S23 hv24 => ?_)
          exact r_return C X dX9_courtingsTo_51
set_option maxRecDepth 100000 in
set_option maxHeartbeats 4000000 in
theorem c_X9_courtingsTo (l : Launch) (E : EN) (n : Nat) (h0 : Nat) (x1 : Int32) (x2 : Int32) (x3 : Int32) (th0 : Ty E h0 8) : CT l E yX9_courtingsTo cX9_courtingsTo 4 none 7 164 wV tT [.ref h0, .int x1, .int x2, .int x3] (fun S => f_X9_courtingsTo E n S h0 x1 x2 x3) := by
  refine ct_of RX9 (by decide +kernel) rfl [(0, .ref h0), (1, .int x1), (2, .int x2), (3, .int x3)] rfl (Nat.le_of_ble_eq_true rfl) (fun A S hA C X => ?_)
  subst hA
  show Gd A E 4 (QM A E wV tT) (f_X9_courtingsTo E n S h0 x1 x2 x3) S 0 [(0, .ref h0), (1, .int x1), (2, .int x2), (3, .int x3)] []
  unfold f_X9_courtingsTo
  refine r_aload_n C 0 dX9_courtingsTo_0 rfl ?_
  refine r_iconst C (0 : Int32) dX9_courtingsTo_1 (by decide) ?_
  refine r_puti C fl_X9_385 dX9_courtingsTo_2 th0 (fun S1 => ?_)
  refine r_aload_n C 0 dX9_courtingsTo_5 rfl ?_
  refine r_callV (As := []) (rest := []) C (c_X9_beginsCourtings _ E n h0 th0) dX9_courtingsTo_6 ml_X9_394 mv_X9_beginsCourtings ⟨TX9, _, rfl⟩ (by decide) th0 rfl rfl ⟨by decide, by decide⟩ (Nat.le_of_ble_eq_true rfl) (fun v3 S2 hv3 => ?_)
  exact p_X9_courtingsTo_L9 C X  n S2 h0 x1 x2 x3 th0
set_option maxRecDepth 100000 in
set_option maxHeartbeats 4000000 in
theorem c_X9_fewest (l : Launch) (E : EN) (n : Nat) (h0 : Nat) (x1 : Int32) (x2 : Int32) (x3 : Int32) (th0 : Ty E h0 8) : CT l E yX9_fewest cX9_fewest 4 (some .int) 8 187 wI tT [.ref h0, .int x1, .int x2, .int x3] (fun S => f_X9_fewest E n S h0 x1 x2 x3) := by
  refine ct_of RX9 (by decide +kernel) rfl [(0, .ref h0), (1, .int x1), (2, .int x2), (3, .int x3)] rfl (Nat.le_of_ble_eq_true rfl) (fun A S hA C X => ?_)
  subst hA
  show Gd A E 4 (QM A E wI tT) (f_X9_fewest E n S h0 x1 x2 x3) S 0 [(0, .ref h0), (1, .int x1), (2, .int x2), (3, .int x3)] []
  unfold f_X9_fewest
  refine r_aload_n C 0 dX9_fewest_0 rfl ?_
  refine r_iload_n C 1 dX9_fewest_1 rfl ?_
  refine r_iload_n C 2 dX9_fewest_2 rfl ?_
  refine r_iload_n C 3 dX9_fewest_3 rfl ?_
  refine r_callV (As := [.int x1, .int x2, .int x3]) (rest := []) C (c_X9_isAsked _ E n h0 x1 x2 x3 th0) dX9_fewest_4 ml_X9_373 mv_X9_isAsked ⟨TX9, _, rfl⟩ (by decide) th0 rfl rfl ⟨by decide, by decide⟩ (Nat.le_of_ble_eq_true rfl) (fun v2 S1 hv2 => ?_)
  refine r_if_ne C 13 dX9_fewest_7 (by decide) ?_ ?_
  · refine r_aload_n C 0 dX9_fewest_13 rfl ?_
    refine r_iload_n C 1 dX9_fewest_14 rfl ?_
    refine r_iload_n C 2 dX9_fewest_15 rfl ?_
    refine r_iload_n C 3 dX9_fewest_16 rfl ?_
    refine r_callV (As := [.int x1, .int x2, .int x3]) (rest := []) C (c_X9_courtingsTo _ E n h0 x1 x2 x3 th0) dX9_fewest_17 ml_X9_409 mv_X9_courtingsTo ⟨TX9, _, rfl⟩ (by decide) th0 rfl rfl ⟨by decide, by decide⟩ (Nat.le_of_ble_eq_true rfl) (fun v4 S3 hv4 => ?_)
    refine r_aload_n C 0 dX9_fewest_20 rfl ?_
    refine r_geti C fl_X9_385 dX9_fewest_21 th0 ?_
    refine r_if_ne C 31 dX9_fewest_24 (by decide) ?_ ?_
    · refine r_aload_n C 0 dX9_fewest_31 rfl ?_
      refine r_geti C fl_X9_388 dX9_fewest_32 th0 ?_
      exact r_ireturn C X dX9_fewest_35
    · refine r_iconst C (-1 : Int32) dX9_fewest_27 (by decide) ?_
      refine r_goto C 35 dX9_fewest_28 (by decide) ?_
      exact r_ireturn C X dX9_fewest_35
  · refine r_bipush C (-2 : Int32) dX9_fewest_10 (by decide) ?_
    exact r_ireturn C X dX9_fewest_12
set_option maxRecDepth 100000 in
set_option maxHeartbeats 4000000 in
theorem c_X9_whom (l : Launch) (E : EN) (n : Nat) (h0 : Nat) (x1 : Int32) (x2 : Int32) (x3 : Int32) (x4 : Int32) (th0 : Ty E h0 8) : CT l E yX9_whom cX9_whom 5 (some .int) 8 187 wI tT [.ref h0, .int x1, .int x2, .int x3, .int x4] (fun S => f_X9_whom E n S h0 x1 x2 x3 x4) := by
  refine ct_of RX9 (by decide +kernel) rfl [(0, .ref h0), (1, .int x1), (2, .int x2), (3, .int x3), (4, .int x4)] rfl (Nat.le_of_ble_eq_true rfl) (fun A S hA C X => ?_)
  subst hA
  show Gd A E 5 (QM A E wI tT) (f_X9_whom E n S h0 x1 x2 x3 x4) S 0 [(0, .ref h0), (1, .int x1), (2, .int x2), (3, .int x3), (4, .int x4)] []
  unfold f_X9_whom
  refine r_aload_n C 0 dX9_whom_0 rfl ?_
  refine r_iload_n C 1 dX9_whom_1 rfl ?_
  refine r_iload_n C 2 dX9_whom_2 rfl ?_
  refine r_iload_n C 3 dX9_whom_3 rfl ?_
  refine r_callV (As := [.int x1, .int x2, .int x3]) (rest := []) C (c_X9_isAsked _ E n h0 x1 x2 x3 th0) dX9_whom_4 ml_X9_373 mv_X9_isAsked ⟨TX9, _, rfl⟩ (by decide) th0 rfl rfl ⟨by decide, by decide⟩ (Nat.le_of_ble_eq_true rfl) (fun v2 S1 hv2 => ?_)
  refine r_if_eq C 19 dX9_whom_7 (by decide) ?_ ?_
  · refine r_bipush C (-2 : Int32) dX9_whom_19 (by decide) ?_
    exact r_ireturn C X dX9_whom_21
  · refine r_aload_n C 0 dX9_whom_10 rfl ?_
    refine r_iload C 4 dX9_whom_11 rfl ?_
    refine r_callV (As := [.int x4]) (rest := []) C (c_X9_isSuitor _ E n h0 x4 th0) dX9_whom_13 ml_X9_270 mv_X9_isSuitor ⟨TX9, _, rfl⟩ (by decide) th0 rfl rfl ⟨by decide, by decide⟩ (Nat.le_of_ble_eq_true rfl) (fun v4 S3 hv4 => ?_)
    refine r_if_ne C 22 dX9_whom_16 (by decide) ?_ ?_
    · refine r_aload_n C 0 dX9_whom_22 rfl ?_
      refine r_iload_n C 1 dX9_whom_23 rfl ?_
      refine r_iload_n C 2 dX9_whom_24 rfl ?_
      refine r_iload_n C 3 dX9_whom_25 rfl ?_
      refine r_callV (As := [.int x1, .int x2, .int x3]) (rest := []) C (c_X9_courtingsTo _ E n h0 x1 x2 x3 th0) dX9_whom_26 ml_X9_409 mv_X9_courtingsTo ⟨TX9, _, rfl⟩ (by decide) th0 rfl rfl ⟨by decide, by decide⟩ (Nat.le_of_ble_eq_true rfl) (fun v6 S5 hv6 => ?_)
      refine r_aload_n C 0 dX9_whom_29 rfl ?_
      refine r_geti C fl_X9_385 dX9_whom_30 th0 ?_
      refine r_if_ne C 40 dX9_whom_33 (by decide) ?_ ?_
      · refine r_aload_n C 0 dX9_whom_40 rfl ?_
        refine r_getr C fl_X9_56 dX9_whom_41 th0 (fun b7 tb7 => ?_)
        refine r_iload C 4 dX9_whom_44 rfl ?_
        refine r_iald C dX9_whom_46 tb7 ?_
        exact r_ireturn C X dX9_whom_47
      · refine r_iconst C (-1 : Int32) dX9_whom_36 (by decide) ?_
        refine r_goto C 47 dX9_whom_37 (by decide) ?_
        exact r_ireturn C X dX9_whom_47
    · refine r_bipush C (-2 : Int32) dX9_whom_19 (by decide) ?_
      exact r_ireturn C X dX9_whom_21
set_option maxRecDepth 100000 in
set_option maxHeartbeats 4000000 in
theorem c_X9_all (l : Launch) (E : EN) (n : Nat) (h0 : Nat) (x1 : Int32) (x2 : Int32) (th0 : Ty E h0 8) : CT l E yX9_all cX9_all 3 (some .int) 8 187 wI tT [.ref h0, .int x1, .int x2] (fun S => f_X9_all E n S h0 x1 x2) := by
  refine ct_of RX9 (by decide +kernel) rfl [(0, .ref h0), (1, .int x1), (2, .int x2)] rfl (Nat.le_of_ble_eq_true rfl) (fun A S hA C X => ?_)
  subst hA
  show Gd A E 3 (QM A E wI tT) (f_X9_all E n S h0 x1 x2) S 0 [(0, .ref h0), (1, .int x1), (2, .int x2)] []
  unfold f_X9_all
  refine r_aload_n C 0 dX9_all_0 rfl ?_
  refine r_iload_n C 1 dX9_all_1 rfl ?_
  refine r_callV (As := [.int x1]) (rest := []) C (c_X9_isPlace _ E n h0 x1 th0) dX9_all_2 ml_X9_370 mv_X9_isPlace ⟨TX9, _, rfl⟩ (by decide) th0 rfl rfl ⟨by decide, by decide⟩ (Nat.le_of_ble_eq_true rfl) (fun v2 S1 hv2 => ?_)
  refine r_if_eq C 17 dX9_all_5 (by decide) ?_ ?_
  · refine r_bipush C (-2 : Int32) dX9_all_17 (by decide) ?_
    exact r_ireturn C X dX9_all_19
  · refine r_aload_n C 0 dX9_all_8 rfl ?_
    refine r_iload_n C 2 dX9_all_9 rfl ?_
    refine r_i2l C dX9_all_10 ?_
    refine r_callV (As := [.long (x2.toInt64)]) (rest := []) C (c_X9_isYear _ E n h0 (x2.toInt64) th0) dX9_all_11 ml_X9_292 mv_X9_isYear ⟨TX9, _, rfl⟩ (by decide) th0 rfl rfl ⟨by decide, by decide⟩ (Nat.le_of_ble_eq_true rfl) (fun v4 S3 hv4 => ?_)
    refine r_if_ne C 20 dX9_all_14 (by decide) ?_ ?_
    · refine r_aload_n C 0 dX9_all_20 rfl ?_
      refine r_iconst C (-1 : Int32) dX9_all_21 (by decide) ?_
      refine r_iload_n C 1 dX9_all_22 rfl ?_
      refine r_iload_n C 2 dX9_all_23 rfl ?_
      refine r_callV (As := [.int (-1 : Int32), .int x1, .int x2]) (rest := []) C (c_X9_courtingsTo _ E n h0 (-1 : Int32) x1 x2 th0) dX9_all_24 ml_X9_409 mv_X9_courtingsTo ⟨TX9, _, rfl⟩ (by decide) th0 rfl rfl ⟨by decide, by decide⟩ (Nat.le_of_ble_eq_true rfl) (fun v6 S5 hv6 => ?_)
      refine r_aload_n C 0 dX9_all_27 rfl ?_
      refine r_geti C fl_X9_385 dX9_all_28 th0 ?_
      refine r_if_ne C 38 dX9_all_31 (by decide) ?_ ?_
      · refine r_aload_n C 0 dX9_all_38 rfl ?_
        refine r_geti C fl_X9_388 dX9_all_39 th0 ?_
        exact r_ireturn C X dX9_all_42
      · refine r_iconst C (-1 : Int32) dX9_all_34 (by decide) ?_
        refine r_goto C 42 dX9_all_35 (by decide) ?_
        exact r_ireturn C X dX9_all_42
    · refine r_bipush C (-2 : Int32) dX9_all_17 (by decide) ?_
      exact r_ireturn C X dX9_all_19
set_option maxRecDepth 100000 in
set_option maxHeartbeats 4000000 in
theorem c_X9_courtings (l : Launch) (E : EN) (n : Nat) (h0 : Nat) (x1 : Int32) (x2 : Int32) (x3 : Int32) (th0 : Ty E h0 8) : CT l E yX9_courtings cX9_courtings 4 (some .int) 8 187 wI tT [.ref h0, .int x1, .int x2, .int x3] (fun S => f_X9_courtings E n S h0 x1 x2 x3) := by
  refine ct_of RX9 (by decide +kernel) rfl [(0, .ref h0), (1, .int x1), (2, .int x2), (3, .int x3)] rfl (Nat.le_of_ble_eq_true rfl) (fun A S hA C X => ?_)
  subst hA
  show Gd A E 4 (QM A E wI tT) (f_X9_courtings E n S h0 x1 x2 x3) S 0 [(0, .ref h0), (1, .int x1), (2, .int x2), (3, .int x3)] []
  unfold f_X9_courtings
  refine r_aload_n C 0 dX9_courtings_0 rfl ?_
  refine r_iload_n C 1 dX9_courtings_1 rfl ?_
  refine r_iload_n C 2 dX9_courtings_2 rfl ?_
  refine r_iload_n C 3 dX9_courtings_3 rfl ?_
  refine r_callV (As := [.int x1, .int x2, .int x3]) (rest := []) C (c_X9_isAsked _ E n h0 x1 x2 x3 th0) dX9_courtings_4 ml_X9_373 mv_X9_isAsked ⟨TX9, _, rfl⟩ (by decide) th0 rfl rfl ⟨by decide, by decide⟩ (Nat.le_of_ble_eq_true rfl) (fun v2 S1 hv2 => ?_)
  refine r_if_ne C 13 dX9_courtings_7 (by decide) ?_ ?_
  · refine r_aload_n C 0 dX9_courtings_13 rfl ?_
    refine r_iload_n C 1 dX9_courtings_14 rfl ?_
    refine r_iload_n C 2 dX9_courtings_15 rfl ?_
    refine r_iload_n C 3 dX9_courtings_16 rfl ?_
    refine r_callV (As := [.int x1, .int x2, .int x3]) (rest := []) C (c_X9_courtingsTo _ E n h0 x1 x2 x3 th0) dX9_courtings_17 ml_X9_409 mv_X9_courtingsTo ⟨TX9, _, rfl⟩ (by decide) th0 rfl rfl ⟨by decide, by decide⟩ (Nat.le_of_ble_eq_true rfl) (fun v4 S3 hv4 => ?_)
    refine r_aload_n C 0 dX9_courtings_20 rfl ?_
    refine r_geti C fl_X9_385 dX9_courtings_21 th0 ?_
    exact r_ireturn C X dX9_courtings_24
  · refine r_bipush C (-2 : Int32) dX9_courtings_10 (by decide) ?_
    exact r_ireturn C X dX9_courtings_12
set_option maxRecDepth 100000 in
set_option maxHeartbeats 4000000 in
theorem c_X9_busy (l : Launch) (E : EN) (n : Nat) (h0 : Nat) (x1 : Int32) (x2 : Int32) (x3 : Int32) (th0 : Ty E h0 8) : CT l E yX9_busy cX9_busy 4 (some .int) 8 187 wI tT [.ref h0, .int x1, .int x2, .int x3] (fun S => f_X9_busy E n S h0 x1 x2 x3) := by
  refine ct_of RX9 (by decide +kernel) rfl [(0, .ref h0), (1, .int x1), (2, .int x2), (3, .int x3)] rfl (Nat.le_of_ble_eq_true rfl) (fun A S hA C X => ?_)
  subst hA
  show Gd A E 4 (QM A E wI tT) (f_X9_busy E n S h0 x1 x2 x3) S 0 [(0, .ref h0), (1, .int x1), (2, .int x2), (3, .int x3)] []
  unfold f_X9_busy
  refine r_aload_n C 0 dX9_busy_0 rfl ?_
  refine r_iload_n C 1 dX9_busy_1 rfl ?_
  refine r_iload_n C 2 dX9_busy_2 rfl ?_
  refine r_iload_n C 3 dX9_busy_3 rfl ?_
  refine r_callV (As := [.int x1, .int x2, .int x3]) (rest := []) C (c_X9_isAsked _ E n h0 x1 x2 x3 th0) dX9_busy_4 ml_X9_373 mv_X9_isAsked ⟨TX9, _, rfl⟩ (by decide) th0 rfl rfl ⟨by decide, by decide⟩ (Nat.le_of_ble_eq_true rfl) (fun v2 S1 hv2 => ?_)
  refine r_if_ne C 13 dX9_busy_7 (by decide) ?_ ?_
  · refine r_aload_n C 0 dX9_busy_13 rfl ?_
    refine r_iload_n C 1 dX9_busy_14 rfl ?_
    refine r_iload_n C 2 dX9_busy_15 rfl ?_
    refine r_iload_n C 3 dX9_busy_16 rfl ?_
    refine r_callV (As := [.int x1, .int x2, .int x3]) (rest := []) C (c_X9_courtingsTo _ E n h0 x1 x2 x3 th0) dX9_busy_17 ml_X9_409 mv_X9_courtingsTo ⟨TX9, _, rfl⟩ (by decide) th0 rfl rfl ⟨by decide, by decide⟩ (Nat.le_of_ble_eq_true rfl) (fun v4 S3 hv4 => ?_)
    refine r_aload_n C 0 dX9_busy_20 rfl ?_
    refine r_geti C fl_X9_385 dX9_busy_21 th0 ?_
    refine r_if_ne C 31 dX9_busy_24 (by decide) ?_ ?_
    · refine r_aload_n C 0 dX9_busy_31 rfl ?_
      refine r_geti C fl_X9_391 dX9_busy_32 th0 ?_
      exact r_ireturn C X dX9_busy_35
    · refine r_iconst C (-1 : Int32) dX9_busy_27 (by decide) ?_
      refine r_goto C 35 dX9_busy_28 (by decide) ?_
      exact r_ireturn C X dX9_busy_35
  · refine r_bipush C (-2 : Int32) dX9_busy_10 (by decide) ?_
    exact r_ireturn C X dX9_busy_12
set_option maxRecDepth 100000 in
set_option maxHeartbeats 4000000 in
theorem p_X9_most_L34 {A : AM} {E : EN} {n : Nat} (C : Cx A E cX9_most 7 RX9 3 69) (X : Ex A E (some .int)) {k17 : WS → Nat → Int32 → Int32 → Int32 → Int32 → Option (Int32 × WS)} (hk17 : ∀ (S : WS) (h0 : Nat) (x1 : Int32) (x2 : Int32) (x3 : Int32) (x4 : Int32) (_ : Ty E h0 8), Gd A E 7 (QM A E wI tT) (k17 S h0 x1 x2 x3 x4) S 17 [(0, .ref h0), (1, .int x1), (2, .int x2), (3, .int x3), (4, .int x4)] []) : ∀ (m : Nat) (S : WS) (h0 : Nat) (x1 : Int32) (x2 : Int32) (x3 : Int32) (x4 : Int32) (x5 : Int32) (x6 : Int32) (th0 : Ty E h0 8), Gd A E 7 (QM A E wI tT) (f_X9_most_L34 E n k17 m S h0 x1 x2 x3 x4 x5 x6) S 34 [(0, .ref h0), (1, .int x1), (2, .int x2), (3, .int x3), (4, .int x4), (5, .int x5), (6, .int x6)] [] := by
  intro m
  induction m with
  | zero => intros; exact gn
  | succ m ih =>
    intro S h0 x1 x2 x3 x4 x5 x6 th0
    unfold f_X9_most_L34
    refine r_iload C 6 dX9_most_34 rfl ?_
    refine r_aload_n C 0 dX9_most_36 rfl ?_
    refine r_getr C fl_X9_9 dX9_most_37 th0 (fun b1 tb1 => ?_)
    refine r_iconst C (3 : Int32) dX9_most_40 (by decide) ?_
    refine r_iald C dX9_most_41 tb1 ?_
    refine r_icmp_ge C 113 dX9_most_42 (by decide) ?_ ?_
    · refine r_iload_n C 3 dX9_most_113 rfl ?_
      refine r_iload C 5 dX9_most_114 rfl ?_
      refine r_if_eq C 123 dX9_most_116 (by decide) ?_ ?_
      · refine r_iconst C (0 : Int32) dX9_most_123 (by decide) ?_
        refine r_iadd C dX9_most_124 ?_
        refine r_topi (fun y2 => ?_)
        refine r_istore_n C [(3, .int y2), (0, .ref h0), (1, .int x1), (2, .int x2), (4, .int x4), (5, .int x5), (6, .int x6)] dX9_most_125 (by decide) rfl ?_
        refine r_iinc C 4 (fun y3 => [(4, .int y3), (3, .int y2), (0, .ref h0), (1, .int x1), (2, .int x2), (5, .int x5), (6, .int x6)]) dX9_most_126 rfl (v := (1 : Int32)) (by decide) (by decide) (fun _ => rfl) (fun y3 => ?_)
        refine r_goto C 17 dX9_most_129 (by decide) ?_
        refine r_sub [2, 3, 4, 1, 0] [(0, .ref h0), (1, .int x1), (2, .int x2), (3, .int y2), (4, .int y3)] rfl ?_
        exact hk17 S h0 x1 x2 y2 y3 th0
      · refine r_iconst C (1 : Int32) dX9_most_119 (by decide) ?_
        refine r_goto C 124 dX9_most_120 (by decide) ?_
        refine r_iadd C dX9_most_124 ?_
        refine r_topi (fun y4 => ?_)
        refine r_istore_n C [(3, .int y4), (0, .ref h0), (1, .int x1), (2, .int x2), (4, .int x4), (5, .int x5), (6, .int x6)] dX9_most_125 (by decide) rfl ?_
        refine r_iinc C 4 (fun y5 => [(4, .int y5), (3, .int y4), (0, .ref h0), (1, .int x1), (2, .int x2), (5, .int x5), (6, .int x6)]) dX9_most_126 rfl (v := (1 : Int32)) (by decide) (by decide) (fun _ => rfl) (fun y5 => ?_)
        refine r_goto C 17 dX9_most_129 (by decide) ?_
        refine r_sub [2, 3, 4, 1, 0] [(0, .ref h0), (1, .int x1), (2, .int x2), (3, .int y4), (4, .int y5)] rfl ?_
        exact hk17 S h0 x1 x2 y4 y5 th0
    · refine r_iload C 5 dX9_most_45 rfl ?_
      refine r_if_ne C 100 dX9_most_47 (by decide) ?_ ?_
      · refine r_iconst C (1 : Int32) dX9_most_100 (by decide) ?_
        refine r_goto C 105 dX9_most_101 (by decide) ?_
        refine r_istore C [(5, .int (1 : Int32)), (0, .ref h0), (1, .int x1), (2, .int x2), (3, .int x3), (4, .int x4), (6, .int x6)] dX9_most_105 (by decide) rfl ?_
        refine r_iinc C 6 (fun y6 => [(6, .int y6), (5, .int (1 : Int32)), (0, .ref h0), (1, .int x1), (2, .int x2), (3, .int x3), (4, .int x4)]) dX9_most_107 rfl (v := (1 : Int32)) (by decide) (by decide) (fun _ => rfl) (fun y6 => ?_)
        refine r_goto C 34 dX9_most_110 (by decide) ?_
        refine r_sub [2, 3, 4, 5, 6, 1, 0] [(0, .ref h0), (1, .int x1), (2, .int x2), (3, .int x3), (4, .int x4), (5, .int (1 : Int32)), (6, .int y6)] rfl ?_
        exact ih S h0 x1 x2 x3 x4 (1 : Int32) y6 th0
      · refine r_aload_n C 0 dX9_most_50 rfl ?_
        refine r_iload C 4 dX9_most_51 rfl ?_
        refine r_iload C 6 dX9_most_53 rfl ?_
        refine r_callV (As := [.int x4, .int x6]) (rest := []) C (c_X9_isFor _ E n h0 x4 x6 th0) dX9_most_55 ml_X9_276 mv_X9_isFor ⟨TX9, _, rfl⟩ (by decide) th0 rfl rfl ⟨by decide, by decide⟩ (Nat.le_of_ble_eq_true rfl) (fun v8 S7 hv8 => ?_)
        refine r_if_eq C 104 dX9_most_58 (by decide) ?_ ?_
        · refine r_iconst C (0 : Int32) dX9_most_104 (by decide) ?_
          refine r_istore C [(5, .int (0 : Int32)), (0, .ref h0), (1, .int x1), (2, .int x2), (3, .int x3), (4, .int x4), (6, .int x6)] dX9_most_105 (by decide) rfl ?_
          refine r_iinc C 6 (fun y9 => [(6, .int y9), (5, .int (0 : Int32)), (0, .ref h0), (1, .int x1), (2, .int x2), (3, .int x3), (4, .int x4)]) dX9_most_107 rfl (v := (1 : Int32)) (by decide) (by decide) (fun _ => rfl) (fun y9 => ?_)
          refine r_goto C 34 dX9_most_110 (by decide) ?_
          refine r_sub [2, 3, 4, 5, 6, 1, 0] [(0, .ref h0), (1, .int x1), (2, .int x2), (3, .int x3), (4, .int x4), (5, .int (0 : Int32)), (6, .int y9)] rfl ?_
          exact ih S7 h0 x1 x2 x3 x4 (0 : Int32) y9 th0
        · refine r_aload_n C 0 dX9_most_61 rfl ?_
          refine r_iload C 6 dX9_most_62 rfl ?_
          refine r_callV (As := [.int x6]) (rest := []) C (c_X9_pathOf _ E n h0 x6 th0) dX9_most_64 ml_X9_247 mv_X9_pathOf ⟨TX9, _, rfl⟩ (by decide) th0 rfl rfl ⟨by decide, by decide⟩ (Nat.le_of_ble_eq_true rfl) (fun v11 S10 hv11 => ?_)
          refine r_iload_n C 1 dX9_most_67 rfl ?_
          refine r_icmp_ne C 104 dX9_most_68 (by decide) ?_ ?_
          · refine r_iconst C (0 : Int32) dX9_most_104 (by decide) ?_
            refine r_istore C [(5, .int (0 : Int32)), (0, .ref h0), (1, .int x1), (2, .int x2), (3, .int x3), (4, .int x4), (6, .int x6)] dX9_most_105 (by decide) rfl ?_
            refine r_iinc C 6 (fun y12 => [(6, .int y12), (5, .int (0 : Int32)), (0, .ref h0), (1, .int x1), (2, .int x2), (3, .int x3), (4, .int x4)]) dX9_most_107 rfl (v := (1 : Int32)) (by decide) (by decide) (fun _ => rfl) (fun y12 => ?_)
            refine r_goto C 34 dX9_most_110 (by decide) ?_
            refine r_sub [2, 3, 4, 5, 6, 1, 0] [(0, .ref h0), (1, .int x1), (2, .int x2), (3, .int x3), (4, .int x4), (5, .int (0 : Int32)), (6, .int y12)] rfl ?_
            exact ih S10 h0 x1 x2 x3 x4 (0 : Int32) y12 th0
          · refine r_iload_n C 2 dX9_most_71 rfl ?_
            refine r_i2l C dX9_most_72 ?_
            refine r_aload_n C 0 dX9_most_73 rfl ?_
            refine r_iload C 6 dX9_most_74 rfl ?_
            refine r_callV (As := [.int x6]) (rest := [.long (x2.toInt64)]) C (c_X9_yearOf _ E n h0 x6 th0) dX9_most_76 ml_X9_250 mv_X9_yearOf ⟨TX9, _, rfl⟩ (by decide) th0 rfl rfl ⟨by decide, by decide⟩ (Nat.le_of_ble_eq_true rfl) (fun v14 S13 hv14 => ?_)
            refine r_i2l C dX9_most_79 ?_
            refine r_aload_n C 0 dX9_most_80 rfl ?_
            refine r_iload C 6 dX9_most_81 rfl ?_
            refine r_callV (As := [.int x6]) (rest := [.long (v14.toInt64), .long (x2.toInt64)]) C (c_X9_yearOf _ E n h0 x6 th0) dX9_most_83 ml_X9_250 mv_X9_yearOf ⟨TX9, _, rfl⟩ (by decide) th0 rfl rfl ⟨by decide, by decide⟩ (Nat.le_of_ble_eq_true rfl) (fun v16 S15 hv16 => ?_)
            refine r_aload_n C 0 dX9_most_86 rfl ?_
            refine r_iload C 4 dX9_most_87 rfl ?_
            refine r_callV (As := [.int x4]) (rest := [.int v16, .long (v14.toInt64), .long (x2.toInt64)]) C (c_X9_skillOf _ E n h0 x4 th0) dX9_most_89 ml_X9_237 mv_X9_skillOf ⟨TX9, _, rfl⟩ (by decide) th0 rfl rfl ⟨by decide, by decide⟩ (Nat.le_of_ble_eq_true rfl) (fun v18 S17 hv18 => ?_)
            refine r_iadd C dX9_most_92 ?_
            refine r_i2l C dX9_most_93 ?_
            refine r_callS (As := [.long (x2.toInt64), .long (v14.toInt64), .long ((v16 + v18).toInt64)]) (rest := []) C (c_X9_in _ E n (x2.toInt64) (v14.toInt64) ((v16 + v18).toInt64) ) dX9_most_94 ml_X9_82 mv_X9_in rfl rfl ⟨by decide, by decide⟩ (Nat.le_of_ble_eq_true rfl) (fun v20 S19 hv20 => ?_)
            refine r_if_eq C 104 dX9_most_97 (by decide) ?_ ?_
            · refine r_iconst C (0 : Int32) dX9_most_104 (by decide) ?_
              refine r_istore C [(5, .int (0 : Int32)), (0, .ref h0), (1, .int x1), (2, .int x2), (3, .int x3), (4, .int x4), (6, .int x6)] dX9_most_105 (by decide) rfl ?_
              refine r_iinc C 6 (fun y21 => [(6, .int y21), (5, .int (0 : Int32)), (0, .ref h0), (1, .int x1), (2, .int x2), (3, .int x3), (4, .int x4)]) dX9_most_107 rfl (v := (1 : Int32)) (by decide) (by decide) (fun _ => rfl) (fun y21 => ?_)
              refine r_goto C 34 dX9_most_110 (by decide) ?_
              refine r_sub [2, 3, 4, 5, 6, 1, 0] [(0, .ref h0), (1, .int x1), (2, .int x2), (3, .int x3), (4, .int x4), (5, .int (0 : Int32)), (6, .int y21)] rfl ?_
              exact ih S19 h0 x1 x2 x3 x4 (0 : Int32) y21 th0
            · refine r_iconst C (1 : Int32) dX9_most_100 (by decide) ?_
              refine r_goto C 105 dX9_most_101 (by decide) ?_
              refine r_istore C [(5, .int (1 : Int32)), (0, .ref h0), (1, .int x1), (2, .int x2), (3, .int x3), (4, .int x4), (6, .int x6)] dX9_most_105 (by decide) rfl ?_
              refine r_iinc C 6 (fun y22 => [(6, .int y22), (5, .int (1 : Int32)), (0, .ref h0), (1, .int x1), (2, .int x2), (3, .int x3), (4, .int x4)]) dX9_most_107 rfl (v := (1 : Int32)) (by decide) (by decide) (fun _ => rfl) (fun y22 => ?_)
              refine r_goto C 34 dX9_most_110 (by decide) ?_
              refine r_sub [2, 3, 4, 5, 6, 1, 0] [(0, .ref h0), (1, .int x1), (2, .int x2), (3, .int x3), (4, .int x4), (5, .int (1 : Int32)), (6, .int y22)] rfl ?_
              exact ih S19 h0 x1 x2 x3 x4 (1 : Int32) y22 th0
set_option maxRecDepth 100000 in
set_option maxHeartbeats 4000000 in
theorem p_X9_most_L17 {A : AM} {E : EN} {n : Nat} (C : Cx A E cX9_most 7 RX9 3 69) (X : Ex A E (some .int))  : ∀ (m : Nat) (S : WS) (h0 : Nat) (x1 : Int32) (x2 : Int32) (x3 : Int32) (x4 : Int32) (th0 : Ty E h0 8), Gd A E 7 (QM A E wI tT) (f_X9_most_L17 E n  m S h0 x1 x2 x3 x4) S 17 [(0, .ref h0), (1, .int x1), (2, .int x2), (3, .int x3), (4, .int x4)] [] := by
  intro m
  induction m with
  | zero => intros; exact gn
  | succ m ih =>
    intro S h0 x1 x2 x3 x4 th0
    unfold f_X9_most_L17
    refine r_iload C 4 dX9_most_17 rfl ?_
    refine r_aload_n C 0 dX9_most_19 rfl ?_
    refine r_getr C fl_X9_9 dX9_most_20 th0 (fun b1 tb1 => ?_)
    refine r_iconst C (4 : Int32) dX9_most_23 (by decide) ?_
    refine r_iald C dX9_most_24 tb1 ?_
    refine r_icmp_ge C 132 dX9_most_25 (by decide) ?_ ?_
    · refine r_iload_n C 3 dX9_most_132 rfl ?_
      exact r_ireturn C X dX9_most_133
    · refine r_iconst C (0 : Int32) dX9_most_28 (by decide) ?_
      refine r_istore C [(5, .int (0 : Int32)), (0, .ref h0), (1, .int x1), (2, .int x2), (3, .int x3), (4, .int x4)] dX9_most_29 (by decide) rfl ?_
      refine r_iconst C (0 : Int32) dX9_most_31 (by decide) ?_
      refine r_istore C [(6, .int (0 : Int32)), (5, .int (0 : Int32)), (0, .ref h0), (1, .int x1), (2, .int x2), (3, .int x3), (4, .int x4)] dX9_most_32 (by decide) rfl ?_
      refine r_sub [2, 3, 4, 5, 6, 1, 0] [(0, .ref h0), (1, .int x1), (2, .int x2), (3, .int x3), (4, .int x4), (5, .int (0 : Int32)), (6, .int (0 : Int32))] rfl ?_
      exact p_X9_most_L34 C X ih n S h0 x1 x2 x3 x4 (0 : Int32) (0 : Int32) th0
set_option maxRecDepth 100000 in
set_option maxHeartbeats 4000000 in
theorem c_X9_most (l : Launch) (E : EN) (n : Nat) (h0 : Nat) (x1 : Int32) (x2 : Int32) (th0 : Ty E h0 8) : CT l E yX9_most cX9_most 7 (some .int) 3 69 wI tT [.ref h0, .int x1, .int x2] (fun S => f_X9_most E n S h0 x1 x2) := by
  refine ct_of RX9 (by decide +kernel) rfl [(0, .ref h0), (1, .int x1), (2, .int x2)] rfl (Nat.le_of_ble_eq_true rfl) (fun A S hA C X => ?_)
  subst hA
  show Gd A E 7 (QM A E wI tT) (f_X9_most E n S h0 x1 x2) S 0 [(0, .ref h0), (1, .int x1), (2, .int x2)] []
  unfold f_X9_most
  refine r_aload_n C 0 dX9_most_0 rfl ?_
  refine r_iload_n C 1 dX9_most_1 rfl ?_
  refine r_iload_n C 2 dX9_most_2 rfl ?_
  refine r_callV (As := [.int x1, .int x2]) (rest := []) C (c_X9_areSo _ E n h0 x1 x2 th0) dX9_most_3 ml_X9_295 mv_X9_areSo ⟨TX9, _, rfl⟩ (by decide) th0 rfl rfl ⟨by decide, by decide⟩ (Nat.le_of_ble_eq_true rfl) (fun v2 S1 hv2 => ?_)
  refine r_if_ne C 12 dX9_most_6 (by decide) ?_ ?_
  · refine r_iconst C (0 : Int32) dX9_most_12 (by decide) ?_
    refine r_istore_n C [(3, .int (0 : Int32)), (0, .ref h0), (1, .int x1), (2, .int x2)] dX9_most_13 (by decide) rfl ?_
    refine r_iconst C (0 : Int32) dX9_most_14 (by decide) ?_
    refine r_istore C [(4, .int (0 : Int32)), (3, .int (0 : Int32)), (0, .ref h0), (1, .int x1), (2, .int x2)] dX9_most_15 (by decide) rfl ?_
    refine r_sub [2, 3, 4, 1, 0] [(0, .ref h0), (1, .int x1), (2, .int x2), (3, .int (0 : Int32)), (4, .int (0 : Int32))] rfl ?_
    exact p_X9_most_L17 C X  n S1 h0 x1 x2 (0 : Int32) (0 : Int32) th0
  · refine r_bipush C (-2 : Int32) dX9_most_9 (by decide) ?_
    exact r_ireturn C X dX9_most_11
set_option maxRecDepth 100000 in
set_option maxHeartbeats 4000000 in
theorem p_X9_worst_L17 {A : AM} {E : EN} {n : Nat} (C : Cx A E cX9_worst 5 RX9 4 87) (X : Ex A E (some .int))  : ∀ (m : Nat) (S : WS) (h0 : Nat) (x1 : Int32) (x2 : Int32) (x3 : Int32) (x4 : Int32) (th0 : Ty E h0 8), Gd A E 5 (QM A E wI tT) (f_X9_worst_L17 E n  m S h0 x1 x2 x3 x4) S 17 [(0, .ref h0), (1, .int x1), (2, .int x2), (3, .int x3), (4, .int x4)] [] := by
  intro m
  induction m with
  | zero => intros; exact gn
  | succ m ih =>
    intro S h0 x1 x2 x3 x4 th0
    unfold f_X9_worst_L17
    refine r_iload C 4 dX9_worst_17 rfl ?_
    refine r_aload_n C 0 dX9_worst_19 rfl ?_
    refine r_getr C fl_X9_9 dX9_worst_20 th0 (fun b1 tb1 => ?_)
    refine r_iconst C (4 : Int32) dX9_worst_23 (by decide) ?_
    refine r_iald C dX9_worst_24 tb1 ?_
    refine r_icmp_ge C 69 dX9_worst_25 (by decide) ?_ ?_
    · refine r_iload_n C 3 dX9_worst_69 rfl ?_
      exact r_ireturn C X dX9_worst_70
    · refine r_aload_n C 0 dX9_worst_28 rfl ?_
      refine r_iload C 4 dX9_worst_29 rfl ?_
      refine r_iload_n C 1 dX9_worst_31 rfl ?_
      refine r_iload_n C 2 dX9_worst_32 rfl ?_
      refine r_callV (As := [.int x4, .int x1, .int x2]) (rest := []) C (c_X9_hasStep _ E n h0 x4 x1 x2 th0) dX9_worst_33 ml_X9_253 mv_X9_hasStep ⟨TX9, _, rfl⟩ (by decide) th0 rfl rfl ⟨by decide, by decide⟩ (Nat.le_of_ble_eq_true rfl) (fun v3 S2 hv3 => ?_)
      refine r_if_eq C 63 dX9_worst_36 (by decide) ?_ ?_
      · refine r_iinc C 4 (fun y4 => [(4, .int y4), (0, .ref h0), (1, .int x1), (2, .int x2), (3, .int x3)]) dX9_worst_63 rfl (v := (1 : Int32)) (by decide) (by decide) (fun _ => rfl) (fun y4 => ?_)
        refine r_goto C 17 dX9_worst_66 (by decide) ?_
        refine r_sub [1, 2, 3, 4, 0] [(0, .ref h0), (1, .int x1), (2, .int x2), (3, .int x3), (4, .int y4)] rfl ?_
        exact ih S2 h0 x1 x2 x3 y4 th0
      · refine r_iload_n C 3 dX9_worst_39 rfl ?_
        refine r_iconst C (-1 : Int32) dX9_worst_40 (by decide) ?_
        refine r_icmp_eq C 60 dX9_worst_41 (by decide) ?_ ?_
        · refine r_iload C 4 dX9_worst_60 rfl ?_
          refine r_istore_n C [(3, .int x4), (0, .ref h0), (1, .int x1), (2, .int x2), (4, .int x4)] dX9_worst_62 (by decide) rfl ?_
          refine r_iinc C 4 (fun y5 => [(4, .int y5), (3, .int x4), (0, .ref h0), (1, .int x1), (2, .int x2)]) dX9_worst_63 rfl (v := (1 : Int32)) (by decide) (by decide) (fun _ => rfl) (fun y5 => ?_)
          refine r_goto C 17 dX9_worst_66 (by decide) ?_
          refine r_sub [2, 3, 4, 1, 0] [(0, .ref h0), (1, .int x1), (2, .int x2), (3, .int x4), (4, .int y5)] rfl ?_
          exact ih S2 h0 x1 x2 x4 y5 th0
        · refine r_aload_n C 0 dX9_worst_44 rfl ?_
          refine r_iload C 4 dX9_worst_45 rfl ?_
          refine r_iload_n C 2 dX9_worst_47 rfl ?_
          refine r_callV (As := [.int x4, .int x2]) (rest := []) C (c_X9_fallOf _ E n h0 x4 x2 th0) dX9_worst_48 ml_X9_310 mv_X9_fallOf ⟨TX9, _, rfl⟩ (by decide) th0 rfl rfl ⟨by decide, by decide⟩ (Nat.le_of_ble_eq_true rfl) (fun v7 S6 hv7 => ?_)
          refine r_aload_n C 0 dX9_worst_51 rfl ?_
          refine r_iload_n C 3 dX9_worst_52 rfl ?_
          refine r_iload_n C 2 dX9_worst_53 rfl ?_
          refine r_callV (As := [.int x3, .int x2]) (rest := [.int v7]) C (c_X9_fallOf _ E n h0 x3 x2 th0) dX9_worst_54 ml_X9_310 mv_X9_fallOf ⟨TX9, _, rfl⟩ (by decide) th0 rfl rfl ⟨by decide, by decide⟩ (Nat.le_of_ble_eq_true rfl) (fun v9 S8 hv9 => ?_)
          refine r_icmp_le C 63 dX9_worst_57 (by decide) ?_ ?_
          · refine r_iinc C 4 (fun y10 => [(4, .int y10), (0, .ref h0), (1, .int x1), (2, .int x2), (3, .int x3)]) dX9_worst_63 rfl (v := (1 : Int32)) (by decide) (by decide) (fun _ => rfl) (fun y10 => ?_)
            refine r_goto C 17 dX9_worst_66 (by decide) ?_
            refine r_sub [1, 2, 3, 4, 0] [(0, .ref h0), (1, .int x1), (2, .int x2), (3, .int x3), (4, .int y10)] rfl ?_
            exact ih S8 h0 x1 x2 x3 y10 th0
          · refine r_iload C 4 dX9_worst_60 rfl ?_
            refine r_istore_n C [(3, .int x4), (0, .ref h0), (1, .int x1), (2, .int x2), (4, .int x4)] dX9_worst_62 (by decide) rfl ?_
            refine r_iinc C 4 (fun y11 => [(4, .int y11), (3, .int x4), (0, .ref h0), (1, .int x1), (2, .int x2)]) dX9_worst_63 rfl (v := (1 : Int32)) (by decide) (by decide) (fun _ => rfl) (fun y11 => ?_)
            refine r_goto C 17 dX9_worst_66 (by decide) ?_
            refine r_sub [2, 3, 4, 1, 0] [(0, .ref h0), (1, .int x1), (2, .int x2), (3, .int x4), (4, .int y11)] rfl ?_
            exact ih S8 h0 x1 x2 x4 y11 th0
set_option maxRecDepth 100000 in
set_option maxHeartbeats 4000000 in
theorem c_X9_worst (l : Launch) (E : EN) (n : Nat) (h0 : Nat) (x1 : Int32) (x2 : Int32) (th0 : Ty E h0 8) : CT l E yX9_worst cX9_worst 5 (some .int) 4 87 wI tT [.ref h0, .int x1, .int x2] (fun S => f_X9_worst E n S h0 x1 x2) := by
  refine ct_of RX9 (by decide +kernel) rfl [(0, .ref h0), (1, .int x1), (2, .int x2)] rfl (Nat.le_of_ble_eq_true rfl) (fun A S hA C X => ?_)
  subst hA
  show Gd A E 5 (QM A E wI tT) (f_X9_worst E n S h0 x1 x2) S 0 [(0, .ref h0), (1, .int x1), (2, .int x2)] []
  unfold f_X9_worst
  refine r_aload_n C 0 dX9_worst_0 rfl ?_
  refine r_iload_n C 1 dX9_worst_1 rfl ?_
  refine r_iload_n C 2 dX9_worst_2 rfl ?_
  refine r_callV (As := [.int x1, .int x2]) (rest := []) C (c_X9_areSo _ E n h0 x1 x2 th0) dX9_worst_3 ml_X9_295 mv_X9_areSo ⟨TX9, _, rfl⟩ (by decide) th0 rfl rfl ⟨by decide, by decide⟩ (Nat.le_of_ble_eq_true rfl) (fun v2 S1 hv2 => ?_)
  refine r_if_ne C 12 dX9_worst_6 (by decide) ?_ ?_
  · refine r_iconst C (-1 : Int32) dX9_worst_12 (by decide) ?_
    refine r_istore_n C [(3, .int (-1 : Int32)), (0, .ref h0), (1, .int x1), (2, .int x2)] dX9_worst_13 (by decide) rfl ?_
    refine r_iconst C (0 : Int32) dX9_worst_14 (by decide) ?_
    refine r_istore C [(4, .int (0 : Int32)), (3, .int (-1 : Int32)), (0, .ref h0), (1, .int x1), (2, .int x2)] dX9_worst_15 (by decide) rfl ?_
    refine r_sub [2, 3, 4, 1, 0] [(0, .ref h0), (1, .int x1), (2, .int x2), (3, .int (-1 : Int32)), (4, .int (0 : Int32))] rfl ?_
    exact p_X9_worst_L17 C X  n S1 h0 x1 x2 (-1 : Int32) (0 : Int32) th0
  · refine r_bipush C (-2 : Int32) dX9_worst_9 (by decide) ?_
    exact r_ireturn C X dX9_worst_11
set_option maxRecDepth 100000 in
set_option maxHeartbeats 4000000 in
theorem p_X9_dry_L16 {A : AM} {E : EN} {n : Nat} (C : Cx A E cX9_dry 4 RX9 5 114) (X : Ex A E (some .int))  : ∀ (m : Nat) (S : WS) (h0 : Nat) (x1 : Int32) (x2 : Int32) (x3 : Int32) (th0 : Ty E h0 8), Gd A E 4 (QM A E wI tT) (f_X9_dry_L16 E n  m S h0 x1 x2 x3) S 16 [(0, .ref h0), (1, .int x1), (2, .int x2), (3, .int x3)] [] := by
  intro m
  induction m with
  | zero => intros; exact gn
  | succ m ih =>
    intro S h0 x1 x2 x3 th0
    unfold f_X9_dry_L16
    refine r_iload_n C 3 dX9_dry_16 rfl ?_
    refine r_aload_n C 0 dX9_dry_17 rfl ?_
    refine r_getr C fl_X9_9 dX9_dry_18 th0 (fun b1 tb1 => ?_)
    refine r_iconst C (1 : Int32) dX9_dry_21 (by decide) ?_
    refine r_iald C dX9_dry_22 tb1 ?_
    refine r_icmp_ge C 60 dX9_dry_23 (by decide) ?_ ?_
    · refine r_iload_n C 2 dX9_dry_60 rfl ?_
      exact r_ireturn C X dX9_dry_61
    · refine r_aload_n C 0 dX9_dry_26 rfl ?_
      refine r_ldc2 C (100000000000000 : Int64) (mG 1637 (by decide +kernel) rfl) dX9_dry_27 ?_
      refine r_iload_n C 1 dX9_dry_30 rfl ?_
      refine r_iload_n C 3 dX9_dry_31 rfl ?_
      refine r_callV (As := [.long (100000000000000 : Int64), .int x1, .int x3]) (rest := []) C (c_X9_safeBy _ E n h0 (100000000000000 : Int64) x1 x3 th0) dX9_dry_32 ml_X9_319 mv_X9_safeBy ⟨TX9, _, rfl⟩ (by decide) th0 rfl rfl ⟨by decide, by decide⟩ (Nat.le_of_ble_eq_true rfl) (fun v3 S2 hv3 => ?_)
      refine r_aload_n C 0 dX9_dry_35 rfl ?_
      refine r_ldc2 C (100000000000000 : Int64) (mG 1637 (by decide +kernel) rfl) dX9_dry_36 ?_
      refine r_iload_n C 1 dX9_dry_39 rfl ?_
      refine r_iload_n C 2 dX9_dry_40 rfl ?_
      refine r_callV (As := [.long (100000000000000 : Int64), .int x1, .int x2]) (rest := [.long v3]) C (c_X9_safeBy _ E n h0 (100000000000000 : Int64) x1 x2 th0) dX9_dry_41 ml_X9_319 mv_X9_safeBy ⟨TX9, _, rfl⟩ (by decide) th0 rfl rfl ⟨by decide, by decide⟩ (Nat.le_of_ble_eq_true rfl) (fun v5 S4 hv5 => ?_)
      refine r_lcmp C dX9_dry_44 ?_
      refine r_if_le C 52 dX9_dry_45 (by decide) ?_ ?_
      · refine r_iload_n C 2 dX9_dry_52 rfl ?_
        refine r_istore_n C [(2, .int x2), (0, .ref h0), (1, .int x1), (3, .int x3)] dX9_dry_53 (by decide) rfl ?_
        refine r_iinc C 3 (fun y6 => [(3, .int y6), (2, .int x2), (0, .ref h0), (1, .int x1)]) dX9_dry_54 rfl (v := (1 : Int32)) (by decide) (by decide) (fun _ => rfl) (fun y6 => ?_)
        refine r_goto C 16 dX9_dry_57 (by decide) ?_
        refine r_sub [2, 3, 1, 0] [(0, .ref h0), (1, .int x1), (2, .int x2), (3, .int y6)] rfl ?_
        exact ih S4 h0 x1 x2 y6 th0
      · refine r_iload_n C 3 dX9_dry_48 rfl ?_
        refine r_goto C 53 dX9_dry_49 (by decide) ?_
        refine r_istore_n C [(2, .int x3), (0, .ref h0), (1, .int x1), (3, .int x3)] dX9_dry_53 (by decide) rfl ?_
        refine r_iinc C 3 (fun y7 => [(3, .int y7), (2, .int x3), (0, .ref h0), (1, .int x1)]) dX9_dry_54 rfl (v := (1 : Int32)) (by decide) (by decide) (fun _ => rfl) (fun y7 => ?_)
        refine r_goto C 16 dX9_dry_57 (by decide) ?_
        refine r_sub [2, 3, 1, 0] [(0, .ref h0), (1, .int x1), (2, .int x3), (3, .int y7)] rfl ?_
        exact ih S4 h0 x1 x3 y7 th0
set_option maxRecDepth 100000 in
set_option maxHeartbeats 4000000 in
theorem c_X9_dry (l : Launch) (E : EN) (n : Nat) (h0 : Nat) (x1 : Int32) (th0 : Ty E h0 8) : CT l E yX9_dry cX9_dry 4 (some .int) 5 114 wI tT [.ref h0, .int x1] (fun S => f_X9_dry E n S h0 x1) := by
  refine ct_of RX9 (by decide +kernel) rfl [(0, .ref h0), (1, .int x1)] rfl (Nat.le_of_ble_eq_true rfl) (fun A S hA C X => ?_)
  subst hA
  show Gd A E 4 (QM A E wI tT) (f_X9_dry E n S h0 x1) S 0 [(0, .ref h0), (1, .int x1)] []
  unfold f_X9_dry
  refine r_aload_n C 0 dX9_dry_0 rfl ?_
  refine r_iload_n C 1 dX9_dry_1 rfl ?_
  refine r_i2l C dX9_dry_2 ?_
  refine r_callV (As := [.long (x1.toInt64)]) (rest := []) C (c_X9_isPath _ E n h0 (x1.toInt64) th0) dX9_dry_3 ml_X9_266 mv_X9_isPath ⟨TX9, _, rfl⟩ (by decide) th0 rfl rfl ⟨by decide, by decide⟩ (Nat.le_of_ble_eq_true rfl) (fun v2 S1 hv2 => ?_)
  refine r_if_ne C 12 dX9_dry_6 (by decide) ?_ ?_
  · refine r_iconst C (0 : Int32) dX9_dry_12 (by decide) ?_
    refine r_istore_n C [(2, .int (0 : Int32)), (0, .ref h0), (1, .int x1)] dX9_dry_13 (by decide) rfl ?_
    refine r_iconst C (1 : Int32) dX9_dry_14 (by decide) ?_
    refine r_istore_n C [(3, .int (1 : Int32)), (2, .int (0 : Int32)), (0, .ref h0), (1, .int x1)] dX9_dry_15 (by decide) rfl ?_
    refine r_sub [2, 3, 1, 0] [(0, .ref h0), (1, .int x1), (2, .int (0 : Int32)), (3, .int (1 : Int32))] rfl ?_
    exact p_X9_dry_L16 C X  n S1 h0 x1 (0 : Int32) (1 : Int32) th0
  · refine r_bipush C (-2 : Int32) dX9_dry_9 (by decide) ?_
    exact r_ireturn C X dX9_dry_11
set_option maxRecDepth 100000 in
set_option maxHeartbeats 4000000 in
theorem p_X9_climbs_L37 {A : AM} {E : EN} {n : Nat} (C : Cx A E cX9_climbs 8 RX9 6 145) (X : Ex A E (some .int))  : ∀ (m : Nat) (S : WS) (h0 : Nat) (x4 : Int32) (x5 : Int32) (x6 : Int32) (th0 : Ty E h0 8), Gd A E 8 (QM A E wI tT) (f_X9_climbs_L37 E n  m S h0 x4 x5 x6) S 37 [(0, .ref h0), (4, .int x4), (5, .int x5), (6, .int x6)] [] := by
  intro m
  induction m with
  | zero => intros; exact gn
  | succ m ih =>
    intro S h0 x4 x5 x6 th0
    unfold f_X9_climbs_L37
    refine r_iload C 3 dX9_climbs_37 rfl ?_
    refine r_aload_n C 0 dX9_climbs_39 rfl ?_
    refine r_geti C fl_X9_348 dX9_climbs_40 th0 ?_
    refine r_icmp_ge C 109 dX9_climbs_43 (by decide) ?_ ?_
    · refine r_aload_n C 0 dX9_climbs_109 rfl ?_
      refine r_geti C fl_X9_348 dX9_climbs_110 th0 ?_
      refine r_if_ne C 120 dX9_climbs_113 (by decide) ?_ ?_
      · refine r_iload C 2 dX9_climbs_120 rfl ?_
        exact r_ireturn C X dX9_climbs_122
      · refine r_iconst C (-1 : Int32) dX9_climbs_116 (by decide) ?_
        refine r_goto C 122 dX9_climbs_117 (by decide) ?_
        exact r_ireturn C X dX9_climbs_122
    · refine r_aload_n C 0 dX9_climbs_46 rfl ?_
      refine r_getr C fl_X9_9 dX9_climbs_47 th0 (fun b1 tb1 => ?_)
      refine r_bipush C (7 : Int32) dX9_climbs_50 (by decide) ?_
      refine r_aload_n C 0 dX9_climbs_52 rfl ?_
      refine r_getr C fl_X9_47 dX9_climbs_53 th0 (fun b2 tb2 => ?_)
      refine r_iload C 3 dX9_climbs_56 rfl ?_
      refine r_iald C dX9_climbs_58 tb2 ?_
      refine r_iadd C dX9_climbs_59 ?_
      refine r_iald C dX9_climbs_60 tb1 ?_
      refine r_aload_n C 0 dX9_climbs_61 rfl ?_
      refine r_getr C fl_X9_9 dX9_climbs_62 th0 (fun b3 tb3 => ?_)
      refine r_bipush C (7 : Int32) dX9_climbs_65 (by decide) ?_
      refine r_aload_n C 0 dX9_climbs_67 rfl ?_
      refine r_getr C fl_X9_47 dX9_climbs_68 th0 (fun b4 tb4 => ?_)
      refine r_iload C 3 dX9_climbs_71 rfl ?_
      refine r_iconst C (1 : Int32) dX9_climbs_73 (by decide) ?_
      refine r_isub C dX9_climbs_74 ?_
      refine r_iald C dX9_climbs_75 tb4 ?_
      refine r_iadd C dX9_climbs_76 ?_
      refine r_iald C dX9_climbs_77 tb3 ?_
      refine r_isub C dX9_climbs_78 ?_
      refine r_topi (fun y5 => ?_)
      refine r_istore C [(7, .int y5), (0, .ref h0), (4, .int x4), (5, .int x5), (6, .int x6)] dX9_climbs_79 (by decide) rfl ?_
      refine r_iload C 3 dX9_climbs_81 rfl ?_
      refine r_iconst C (0 : Int32) dX9_climbs_83 (by decide) ?_
      refine r_iload C 2 dX9_climbs_84 rfl ?_
      refine r_if_ne C 94 dX9_climbs_86 (by decide) ?_ ?_
      · refine r_iload C 0 dX9_climbs_94 rfl ?_
        refine r_ineg C dX9_climbs_96 ?_
        refine r_mmax C (mG 1799 (by decide +kernel) rfl) mmax_w ⟨by decide, by decide⟩ (Nat.le_of_ble_eq_true rfl) dX9_climbs_97 ?_
        refine r_iadd C dX9_climbs_100 ?_
        refine r_topi (fun y6 => ?_)
        refine r_istore C [(5, .int y6), (7, .int y5), (0, .ref h0), (4, .int x4), (6, .int x6)] dX9_climbs_101 (by decide) rfl ?_
        refine r_iinc C 4 (fun y7 => [(6, .int y7), (5, .int y6), (7, .int y5), (0, .ref h0), (4, .int x4)]) dX9_climbs_103 rfl (v := (1 : Int32)) (by decide) (by decide) (fun _ => rfl) (fun y7 => ?_)
        refine r_goto C 37 dX9_climbs_106 (by decide) ?_
        refine r_sub [3, 4, 1, 0] [(0, .ref h0), (4, .int x4), (5, .int y6), (6, .int y7)] rfl ?_
        exact ih S h0 x4 y6 y7 th0
      · refine r_iload C 0 dX9_climbs_89 rfl ?_
        refine r_goto C 97 dX9_climbs_91 (by decide) ?_
        refine r_mmax C (mG 1799 (by decide +kernel) rfl) mmax_w ⟨by decide, by decide⟩ (Nat.le_of_ble_eq_true rfl) dX9_climbs_97 ?_
        refine r_iadd C dX9_climbs_100 ?_
        refine r_topi (fun y8 => ?_)
        refine r_istore C [(5, .int y8), (7, .int y5), (0, .ref h0), (4, .int x4), (6, .int x6)] dX9_climbs_101 (by decide) rfl ?_
        refine r_iinc C 4 (fun y9 => [(6, .int y9), (5, .int y8), (7, .int y5), (0, .ref h0), (4, .int x4)]) dX9_climbs_103 rfl (v := (1 : Int32)) (by decide) (by decide) (fun _ => rfl) (fun y9 => ?_)
        refine r_goto C 37 dX9_climbs_106 (by decide) ?_
        refine r_sub [3, 4, 1, 0] [(0, .ref h0), (4, .int x4), (5, .int y8), (6, .int y9)] rfl ?_
        exact ih S h0 x4 y8 y9 th0
set_option maxRecDepth 100000 in
set_option maxHeartbeats 4000000 in
theorem c_X9_climbs (l : Launch) (E : EN) (n : Nat) (h0 : Nat) (x1 : Int32) (x2 : Int32) (x3 : Int32) (x4 : Int32) (th0 : Ty E h0 8) : CT l E yX9_climbs cX9_climbs 8 (some .int) 6 145 wI tT [.ref h0, .int x1, .int x2, .int x3, .int x4] (fun S => f_X9_climbs E n S h0 x1 x2 x3 x4) := by
  refine ct_of RX9 (by decide +kernel) rfl [(0, .ref h0), (1, .int x1), (2, .int x2), (3, .int x3), (4, .int x4)] rfl (Nat.le_of_ble_eq_true rfl) (fun A S hA C X => ?_)
  subst hA
  show Gd A E 8 (QM A E wI tT) (f_X9_climbs E n S h0 x1 x2 x3 x4) S 0 [(0, .ref h0), (1, .int x1), (2, .int x2), (3, .int x3), (4, .int x4)] []
  unfold f_X9_climbs
  refine r_aload_n C 0 dX9_climbs_0 rfl ?_
  refine r_iload_n C 1 dX9_climbs_1 rfl ?_
  refine r_iload_n C 2 dX9_climbs_2 rfl ?_
  refine r_iload_n C 3 dX9_climbs_3 rfl ?_
  refine r_callV (As := [.int x1, .int x2, .int x3]) (rest := []) C (c_X9_isAsked _ E n h0 x1 x2 x3 th0) dX9_climbs_4 ml_X9_373 mv_X9_isAsked ⟨TX9, _, rfl⟩ (by decide) th0 rfl rfl ⟨by decide, by decide⟩ (Nat.le_of_ble_eq_true rfl) (fun v2 S1 hv2 => ?_)
  refine r_if_eq C 21 dX9_climbs_7 (by decide) ?_ ?_
  · refine r_bipush C (-2 : Int32) dX9_climbs_21 (by decide) ?_
    exact r_ireturn C X dX9_climbs_23
  · refine r_iload C 4 dX9_climbs_10 rfl ?_
    refine r_i2l C dX9_climbs_12 ?_
    refine r_lconst C (0 : Int64) dX9_climbs_13 (by decide) ?_
    refine r_lconst C (1 : Int64) dX9_climbs_14 (by decide) ?_
    refine r_callS (As := [.long (x4.toInt64), .long (0 : Int64), .long (1 : Int64)]) (rest := []) C (c_X9_in _ E n (x4.toInt64) (0 : Int64) (1 : Int64) ) dX9_climbs_15 ml_X9_82 mv_X9_in rfl rfl ⟨by decide, by decide⟩ (Nat.le_of_ble_eq_true rfl) (fun v4 S3 hv4 => ?_)
    refine r_if_ne C 24 dX9_climbs_18 (by decide) ?_ ?_
    · refine r_aload_n C 0 dX9_climbs_24 rfl ?_
      refine r_iload_n C 1 dX9_climbs_25 rfl ?_
      refine r_iload_n C 2 dX9_climbs_26 rfl ?_
      refine r_iload_n C 3 dX9_climbs_27 rfl ?_
      refine r_callV (As := [.int x1, .int x2, .int x3]) (rest := []) C (c_X9_allWays _ E n h0 x1 x2 x3 th0) dX9_climbs_28 ml_X9_376 mv_X9_allWays ⟨TX9, _, rfl⟩ (by decide) th0 rfl rfl ⟨by decide, by decide⟩ (Nat.le_of_ble_eq_true rfl) (fun v6 S5 hv6 => ?_)
      refine r_iconst C (0 : Int32) dX9_climbs_31 (by decide) ?_
      refine r_istore C [(5, .int (0 : Int32)), (0, .ref h0), (1, .int x1), (2, .int x2), (3, .int x3), (4, .int x4)] dX9_climbs_32 (by decide) rfl ?_
      refine r_iconst C (1 : Int32) dX9_climbs_34 (by decide) ?_
      refine r_istore C [(6, .int (1 : Int32)), (5, .int (0 : Int32)), (0, .ref h0), (1, .int x1), (2, .int x2), (3, .int x3), (4, .int x4)] dX9_climbs_35 (by decide) rfl ?_
      refine r_sub [2, 6, 1, 0] [(0, .ref h0), (4, .int x4), (5, .int (0 : Int32)), (6, .int (1 : Int32))] rfl ?_
      exact p_X9_climbs_L37 C X  n S5 h0 x4 (0 : Int32) (1 : Int32) th0
    · refine r_bipush C (-2 : Int32) dX9_climbs_21 (by decide) ?_
      exact r_ireturn C X dX9_climbs_23
set_option maxRecDepth 100000 in
set_option maxHeartbeats 4000000 in
theorem p_X9_high_L55 {A : AM} {E : EN} {n : Nat} (C : Cx A E cX9_high 6 RX9 5 118) (X : Ex A E (some .int))  : ∀ (m : Nat) (S : WS) (h0 : Nat) (x3 : Int32) (x4 : Int32) (x5 : Int32) (th0 : Ty E h0 8), Gd A E 6 (QM A E wI tT) (f_X9_high_L55 E n  m S h0 x3 x4 x5) S 55 [(0, .ref h0), (3, .int x3), (4, .int x4), (5, .int x5)] [] := by
  intro m
  induction m with
  | zero => intros; exact gn
  | succ m ih =>
    intro S h0 x3 x4 x5 th0
    unfold f_X9_high_L55
    refine r_iload C 3 dX9_high_55 rfl ?_
    refine r_if_lt C 103 dX9_high_57 (by decide) ?_ ?_
    · refine r_iload C 2 dX9_high_103 rfl ?_
      exact r_ireturn C X dX9_high_105
    · refine r_iload_n C 1 dX9_high_60 rfl ?_
      refine r_iload C 3 dX9_high_61 rfl ?_
      refine r_ishr C dX9_high_63 ?_
      refine r_iconst C (1 : Int32) dX9_high_64 (by decide) ?_
      refine r_iand C dX9_high_65 ?_
      refine r_iconst C (1 : Int32) dX9_high_66 (by decide) ?_
      refine r_icmp_ne C 97 dX9_high_67 (by decide) ?_ ?_
      · refine r_iinc C 3 (fun y1 => [(5, .int y1), (0, .ref h0), (3, .int x3), (4, .int x4)]) dX9_high_97 rfl (v := (-1 : Int32)) (by decide) (by decide) (fun _ => rfl) (fun y1 => ?_)
        refine r_goto C 55 dX9_high_100 (by decide) ?_
        refine r_sub [1, 2, 3, 0] [(0, .ref h0), (3, .int x3), (4, .int x4), (5, .int y1)] rfl ?_
        exact ih S h0 x3 x4 y1 th0
      · refine r_aload_n C 0 dX9_high_70 rfl ?_
        refine r_getr C fl_X9_9 dX9_high_71 th0 (fun b2 tb2 => ?_)
        refine r_bipush C (7 : Int32) dX9_high_74 (by decide) ?_
        refine r_iload C 3 dX9_high_76 rfl ?_
        refine r_iadd C dX9_high_78 ?_
        refine r_iald C dX9_high_79 tb2 ?_
        refine r_aload_n C 0 dX9_high_80 rfl ?_
        refine r_getr C fl_X9_9 dX9_high_81 th0 (fun b3 tb3 => ?_)
        refine r_bipush C (7 : Int32) dX9_high_84 (by decide) ?_
        refine r_iload C 2 dX9_high_86 rfl ?_
        refine r_iadd C dX9_high_88 ?_
        refine r_iald C dX9_high_89 tb3 ?_
        refine r_icmp_lt C 97 dX9_high_90 (by decide) ?_ ?_
        · refine r_iinc C 3 (fun y4 => [(5, .int y4), (0, .ref h0), (3, .int x3), (4, .int x4)]) dX9_high_97 rfl (v := (-1 : Int32)) (by decide) (by decide) (fun _ => rfl) (fun y4 => ?_)
          refine r_goto C 55 dX9_high_100 (by decide) ?_
          refine r_sub [1, 2, 3, 0] [(0, .ref h0), (3, .int x3), (4, .int x4), (5, .int y4)] rfl ?_
          exact ih S h0 x3 x4 y4 th0
        · refine r_iload C 3 dX9_high_93 rfl ?_
          refine r_istore C [(4, .int x5), (0, .ref h0), (3, .int x3), (5, .int x5)] dX9_high_95 (by decide) rfl ?_
          refine r_iinc C 3 (fun y5 => [(5, .int y5), (4, .int x5), (0, .ref h0), (3, .int x3)]) dX9_high_97 rfl (v := (-1 : Int32)) (by decide) (by decide) (fun _ => rfl) (fun y5 => ?_)
          refine r_goto C 55 dX9_high_100 (by decide) ?_
          refine r_sub [2, 3, 1, 0] [(0, .ref h0), (3, .int x3), (4, .int x5), (5, .int y5)] rfl ?_
          exact ih S h0 x3 x5 y5 th0
set_option maxRecDepth 100000 in
set_option maxHeartbeats 4000000 in
theorem c_X9_high (l : Launch) (E : EN) (n : Nat) (h0 : Nat) (x1 : Int32) (x2 : Int32) (th0 : Ty E h0 8) : CT l E yX9_high cX9_high 6 (some .int) 5 118 wI tT [.ref h0, .int x1, .int x2] (fun S => f_X9_high E n S h0 x1 x2) := by
  refine ct_of RX9 (by decide +kernel) rfl [(0, .ref h0), (1, .int x1), (2, .int x2)] rfl (Nat.le_of_ble_eq_true rfl) (fun A S hA C X => ?_)
  subst hA
  show Gd A E 6 (QM A E wI tT) (f_X9_high E n S h0 x1 x2) S 0 [(0, .ref h0), (1, .int x1), (2, .int x2)] []
  unfold f_X9_high
  refine r_aload_n C 0 dX9_high_0 rfl ?_
  refine r_iload_n C 1 dX9_high_1 rfl ?_
  refine r_callV (As := [.int x1]) (rest := []) C (c_X9_isWalker _ E n h0 x1 th0) dX9_high_2 ml_X9_367 mv_X9_isWalker ⟨TX9, _, rfl⟩ (by decide) th0 rfl rfl ⟨by decide, by decide⟩ (Nat.le_of_ble_eq_true rfl) (fun v2 S1 hv2 => ?_)
  refine r_if_eq C 17 dX9_high_5 (by decide) ?_ ?_
  · refine r_bipush C (-2 : Int32) dX9_high_17 (by decide) ?_
    exact r_ireturn C X dX9_high_19
  · refine r_aload_n C 0 dX9_high_8 rfl ?_
    refine r_iload_n C 2 dX9_high_9 rfl ?_
    refine r_i2l C dX9_high_10 ?_
    refine r_callV (As := [.long (x2.toInt64)]) (rest := []) C (c_X9_isYear _ E n h0 (x2.toInt64) th0) dX9_high_11 ml_X9_292 mv_X9_isYear ⟨TX9, _, rfl⟩ (by decide) th0 rfl rfl ⟨by decide, by decide⟩ (Nat.le_of_ble_eq_true rfl) (fun v4 S3 hv4 => ?_)
    refine r_if_ne C 20 dX9_high_14 (by decide) ?_ ?_
    · refine r_aload_n C 0 dX9_high_20 rfl ?_
      refine r_aload_n C 0 dX9_high_21 rfl ?_
      refine r_iload_n C 1 dX9_high_22 rfl ?_
      refine r_callV (As := [.int x1]) (rest := [.ref h0]) C (c_X9_leapOf _ E n h0 x1 th0) dX9_high_23 ml_X9_332 mv_X9_leapOf ⟨TX9, _, rfl⟩ (by decide) th0 rfl rfl ⟨by decide, by decide⟩ (Nat.le_of_ble_eq_true rfl) (fun v6 S5 hv6 => ?_)
      refine r_iload_n C 2 dX9_high_26 rfl ?_
      refine r_callV (As := [.int v6, .int x2]) (rest := []) C (c_X9_opens _ E n h0 v6 x2 th0) dX9_high_27 ml_X9_335 mv_X9_opens ⟨TX9, _, rfl⟩ (by decide) th0 rfl rfl ⟨by decide, by decide⟩ (Nat.le_of_ble_eq_true rfl) (fun v8 S7 hv8 => ?_)
      refine r_aload_n C 0 dX9_high_30 rfl ?_
      refine r_aload_n C 0 dX9_high_31 rfl ?_
      refine r_iload_n C 1 dX9_high_32 rfl ?_
      refine r_callV (As := [.int x1]) (rest := [.ref h0]) C (c_X9_homeOf _ E n h0 x1 th0) dX9_high_33 ml_X9_339 mv_X9_homeOf ⟨TX9, _, rfl⟩ (by decide) th0 rfl rfl ⟨by decide, by decide⟩ (Nat.le_of_ble_eq_true rfl) (fun v10 S9 hv10 => ?_)
      refine r_callV (As := [.int v10]) (rest := []) C (c_X9_reachFrom _ E n h0 v10 th0) dX9_high_36 ml_X9_342 mv_X9_reachFrom ⟨TX9, _, rfl⟩ (by decide) th0 rfl rfl ⟨by decide, by decide⟩ (Nat.le_of_ble_eq_true rfl) (fun v12 S11 hv12 => ?_)
      refine r_istore_n C [(3, .int v12), (0, .ref h0), (1, .int x1), (2, .int x2)] dX9_high_39 (by decide) rfl ?_
      refine r_aload_n C 1 dX9_high_40 rfl ?_
      refine r_iload_n C 2 dX9_high_41 rfl ?_
      refine r_callV (As := [.int x1]) (rest := []) C (c_X9_homeOf _ E n h0 x1 th0) dX9_high_42 ml_X9_339 mv_X9_homeOf ⟨TX9, _, rfl⟩ (by decide) th0 rfl rfl ⟨by decide, by decide⟩ (Nat.le_of_ble_eq_true rfl) (fun v14 S13 hv14 => ?_)
      refine r_istore C [(4, .int v14), (3, .int v12), (0, .ref h0), (1, .int x1), (2, .int x2)] dX9_high_45 (by decide) rfl ?_
      refine r_aload_n C 2 dX9_high_47 rfl ?_
      refine r_callV (As := []) (rest := []) C (c_X9_places _ E n h0 th0) dX9_high_48 ml_X9_86 mv_X9_places ⟨TX9, _, rfl⟩ (by decide) th0 rfl rfl ⟨by decide, by decide⟩ (Nat.le_of_ble_eq_true rfl) (fun v16 S15 hv16 => ?_)
      refine r_iconst C (1 : Int32) dX9_high_51 (by decide) ?_
      refine r_isub C dX9_high_52 ?_
      refine r_topi (fun y17 => ?_)
      refine r_istore C [(5, .int y17), (4, .int v14), (3, .int v12), (0, .ref h0), (1, .int x1), (2, .int x2)] dX9_high_53 (by decide) rfl ?_
      refine r_sub [3, 2, 1, 0] [(0, .ref h0), (3, .int v12), (4, .int v14), (5, .int y17)] rfl ?_
      exact p_X9_high_L55 C X  n S15 h0 v12 v14 y17 th0
    · refine r_bipush C (-2 : Int32) dX9_high_17 (by decide) ?_
      exact r_ireturn C X dX9_high_19
set_option maxRecDepth 100000 in
set_option maxHeartbeats 4000000 in
theorem p_X9_parts_L38 {A : AM} {E : EN} {n : Nat} (C : Cx A E cX9_parts 6 RX9 5 118) (X : Ex A E (some .int))  : ∀ (m : Nat) (S : WS) (h0 : Nat) (x3 : Int32) (x4 : Int32) (x5 : Int32) (th0 : Ty E h0 8), Gd A E 6 (QM A E wI tT) (f_X9_parts_L38 E n  m S h0 x3 x4 x5) S 38 [(0, .ref h0), (3, .int x3), (4, .int x4), (5, .int x5)] [] := by
  intro m
  induction m with
  | zero => intros; exact gn
  | succ m ih =>
    intro S h0 x3 x4 x5 th0
    unfold f_X9_parts_L38
    refine r_iload C 3 dX9_parts_38 rfl ?_
    refine r_aload_n C 0 dX9_parts_40 rfl ?_
    refine r_callV (As := []) (rest := [.int x5]) C (c_X9_places _ E n h0 th0) dX9_parts_41 ml_X9_86 mv_X9_places ⟨TX9, _, rfl⟩ (by decide) th0 rfl rfl ⟨by decide, by decide⟩ (Nat.le_of_ble_eq_true rfl) (fun v2 S1 hv2 => ?_)
    refine r_icmp_ge C 78 dX9_parts_44 (by decide) ?_ ?_
    · refine r_iload C 2 dX9_parts_78 rfl ?_
      exact r_ireturn C X dX9_parts_80
    · refine r_iload_n C 1 dX9_parts_47 rfl ?_
      refine r_iload C 3 dX9_parts_48 rfl ?_
      refine r_ishr C dX9_parts_50 ?_
      refine r_iconst C (1 : Int32) dX9_parts_51 (by decide) ?_
      refine r_iand C dX9_parts_52 ?_
      refine r_iconst C (1 : Int32) dX9_parts_53 (by decide) ?_
      refine r_icmp_ne C 60 dX9_parts_54 (by decide) ?_ ?_
      · refine r_iload_n C 1 dX9_parts_60 rfl ?_
        refine r_aload_n C 0 dX9_parts_61 rfl ?_
        refine r_iload C 3 dX9_parts_62 rfl ?_
        refine r_callV (As := [.int x5]) (rest := [.int x3]) C (c_X9_reachFrom _ E n h0 x5 th0) dX9_parts_64 ml_X9_342 mv_X9_reachFrom ⟨TX9, _, rfl⟩ (by decide) th0 rfl rfl ⟨by decide, by decide⟩ (Nat.le_of_ble_eq_true rfl) (fun v4 S3 hv4 => ?_)
        refine r_ior C dX9_parts_67 ?_
        refine r_topi (fun y5 => ?_)
        refine r_istore_n C [(3, .int y5), (0, .ref h0), (4, .int x4), (5, .int x5)] dX9_parts_68 (by decide) rfl ?_
        refine r_iinc C 2 (fun y6 => [(4, .int y6), (3, .int y5), (0, .ref h0), (5, .int x5)]) dX9_parts_69 rfl (v := (1 : Int32)) (by decide) (by decide) (fun _ => rfl) (fun y6 => ?_)
        refine r_iinc C 3 (fun y7 => [(5, .int y7), (4, .int y6), (3, .int y5), (0, .ref h0)]) dX9_parts_72 rfl (v := (1 : Int32)) (by decide) (by decide) (fun _ => rfl) (fun y7 => ?_)
        refine r_goto C 38 dX9_parts_75 (by decide) ?_
        refine r_sub [3, 2, 1, 0] [(0, .ref h0), (3, .int y5), (4, .int y6), (5, .int y7)] rfl ?_
        exact ih S3 h0 y5 y6 y7 th0
      · refine r_goto C 72 dX9_parts_57 (by decide) ?_
        refine r_iinc C 3 (fun y8 => [(5, .int y8), (0, .ref h0), (3, .int x3), (4, .int x4)]) dX9_parts_72 rfl (v := (1 : Int32)) (by decide) (by decide) (fun _ => rfl) (fun y8 => ?_)
        refine r_goto C 38 dX9_parts_75 (by decide) ?_
        refine r_sub [1, 2, 3, 0] [(0, .ref h0), (3, .int x3), (4, .int x4), (5, .int y8)] rfl ?_
        exact ih S1 h0 x3 x4 y8 th0
set_option maxRecDepth 100000 in
set_option maxHeartbeats 4000000 in
theorem c_X9_parts (l : Launch) (E : EN) (n : Nat) (h0 : Nat) (x1 : Int32) (x2 : Int32) (th0 : Ty E h0 8) : CT l E yX9_parts cX9_parts 6 (some .int) 5 118 wI tT [.ref h0, .int x1, .int x2] (fun S => f_X9_parts E n S h0 x1 x2) := by
  refine ct_of RX9 (by decide +kernel) rfl [(0, .ref h0), (1, .int x1), (2, .int x2)] rfl (Nat.le_of_ble_eq_true rfl) (fun A S hA C X => ?_)
  subst hA
  show Gd A E 6 (QM A E wI tT) (f_X9_parts E n S h0 x1 x2) S 0 [(0, .ref h0), (1, .int x1), (2, .int x2)] []
  unfold f_X9_parts
  refine r_aload_n C 0 dX9_parts_0 rfl ?_
  refine r_iload_n C 1 dX9_parts_1 rfl ?_
  refine r_i2l C dX9_parts_2 ?_
  refine r_callV (As := [.long (x1.toInt64)]) (rest := []) C (c_X9_isYear _ E n h0 (x1.toInt64) th0) dX9_parts_3 ml_X9_292 mv_X9_isYear ⟨TX9, _, rfl⟩ (by decide) th0 rfl rfl ⟨by decide, by decide⟩ (Nat.le_of_ble_eq_true rfl) (fun v2 S1 hv2 => ?_)
  refine r_if_eq C 21 dX9_parts_6 (by decide) ?_ ?_
  · refine r_bipush C (-2 : Int32) dX9_parts_21 (by decide) ?_
    exact r_ireturn C X dX9_parts_23
  · refine r_iload_n C 2 dX9_parts_9 rfl ?_
    refine r_i2l C dX9_parts_10 ?_
    refine r_lconst C (0 : Int64) dX9_parts_11 (by decide) ?_
    refine r_ldc2 C (99 : Int64) (mG 1627 (by decide +kernel) rfl) dX9_parts_12 ?_
    refine r_callS (As := [.long (x2.toInt64), .long (0 : Int64), .long (99 : Int64)]) (rest := []) C (c_X9_in _ E n (x2.toInt64) (0 : Int64) (99 : Int64) ) dX9_parts_15 ml_X9_82 mv_X9_in rfl rfl ⟨by decide, by decide⟩ (Nat.le_of_ble_eq_true rfl) (fun v4 S3 hv4 => ?_)
    refine r_if_ne C 24 dX9_parts_18 (by decide) ?_ ?_
    · refine r_aload_n C 0 dX9_parts_24 rfl ?_
      refine r_iload_n C 2 dX9_parts_25 rfl ?_
      refine r_iload_n C 1 dX9_parts_26 rfl ?_
      refine r_callV (As := [.int x2, .int x1]) (rest := []) C (c_X9_opens _ E n h0 x2 x1 th0) dX9_parts_27 ml_X9_335 mv_X9_opens ⟨TX9, _, rfl⟩ (by decide) th0 rfl rfl ⟨by decide, by decide⟩ (Nat.le_of_ble_eq_true rfl) (fun v6 S5 hv6 => ?_)
      refine r_iconst C (0 : Int32) dX9_parts_30 (by decide) ?_
      refine r_istore_n C [(3, .int (0 : Int32)), (0, .ref h0), (1, .int x1), (2, .int x2)] dX9_parts_31 (by decide) rfl ?_
      refine r_iconst C (0 : Int32) dX9_parts_32 (by decide) ?_
      refine r_istore C [(4, .int (0 : Int32)), (3, .int (0 : Int32)), (0, .ref h0), (1, .int x1), (2, .int x2)] dX9_parts_33 (by decide) rfl ?_
      refine r_iconst C (0 : Int32) dX9_parts_35 (by decide) ?_
      refine r_istore C [(5, .int (0 : Int32)), (4, .int (0 : Int32)), (3, .int (0 : Int32)), (0, .ref h0), (1, .int x1), (2, .int x2)] dX9_parts_36 (by decide) rfl ?_
      refine r_sub [3, 2, 1, 0] [(0, .ref h0), (3, .int (0 : Int32)), (4, .int (0 : Int32)), (5, .int (0 : Int32))] rfl ?_
      exact p_X9_parts_L38 C X  n S5 h0 (0 : Int32) (0 : Int32) (0 : Int32) th0
    · refine r_bipush C (-2 : Int32) dX9_parts_21 (by decide) ?_
      exact r_ireturn C X dX9_parts_23
set_option maxRecDepth 100000 in
set_option maxHeartbeats 4000000 in
theorem p_X9_cuts_L37 {A : AM} {E : EN} {n : Nat} (C : Cx A E cX9_cuts 7 RX9 6 141) (X : Ex A E (some .int))  : ∀ (m : Nat) (S : WS) (h0 : Nat) (x1 : Int32) (x2 : Int32) (x4 : Int32) (x5 : Int32) (x6 : Int32) (th0 : Ty E h0 8), Gd A E 7 (QM A E wI tT) (f_X9_cuts_L37 E n  m S h0 x1 x2 x4 x5 x6) S 37 [(0, .ref h0), (1, .int x1), (2, .int x2), (4, .int x4), (5, .int x5), (6, .int x6)] [] := by
  intro m
  induction m with
  | zero => intros; exact gn
  | succ m ih =>
    intro S h0 x1 x2 x4 x5 x6 th0
    unfold f_X9_cuts_L37
    refine r_iload C 5 dX9_cuts_37 rfl ?_
    refine r_aload_n C 0 dX9_cuts_39 rfl ?_
    refine r_getr C fl_X9_9 dX9_cuts_40 th0 (fun b1 tb1 => ?_)
    refine r_iconst C (2 : Int32) dX9_cuts_43 (by decide) ?_
    refine r_iald C dX9_cuts_44 tb1 ?_
    refine r_icmp_ge C 96 dX9_cuts_45 (by decide) ?_ ?_
    · refine r_iload C 4 dX9_cuts_96 rfl ?_
      exact r_ireturn C X dX9_cuts_98
    · refine r_aload_n C 0 dX9_cuts_48 rfl ?_
      refine r_iload C 3 dX9_cuts_49 rfl ?_
      refine r_iconst C (1 : Int32) dX9_cuts_51 (by decide) ?_
      refine r_iload C 5 dX9_cuts_52 rfl ?_
      refine r_ishl C dX9_cuts_54 ?_
      refine r_iconst C (-1 : Int32) dX9_cuts_55 (by decide) ?_
      refine r_ixor C dX9_cuts_56 ?_
      refine r_iand C dX9_cuts_57 ?_
      refine r_puti C fl_X9_329 dX9_cuts_58 th0 (fun S2 => ?_)
      refine r_iload C 4 dX9_cuts_61 rfl ?_
      refine r_aload_n C 0 dX9_cuts_63 rfl ?_
      refine r_aload_n C 0 dX9_cuts_64 rfl ?_
      refine r_iload_n C 1 dX9_cuts_65 rfl ?_
      refine r_callV (As := [.int x1]) (rest := [.ref h0, .int x5]) C (c_X9_homeOf _ E n h0 x1 th0) dX9_cuts_66 ml_X9_339 mv_X9_homeOf ⟨TX9, _, rfl⟩ (by decide) th0 rfl rfl ⟨by decide, by decide⟩ (Nat.le_of_ble_eq_true rfl) (fun v4 S3 hv4 => ?_)
      refine r_callV (As := [.int v4]) (rest := [.int x5]) C (c_X9_reachFrom _ E n h0 v4 th0) dX9_cuts_69 ml_X9_342 mv_X9_reachFrom ⟨TX9, _, rfl⟩ (by decide) th0 rfl rfl ⟨by decide, by decide⟩ (Nat.le_of_ble_eq_true rfl) (fun v6 S5 hv6 => ?_)
      refine r_iload_n C 2 dX9_cuts_72 rfl ?_
      refine r_ishr C dX9_cuts_73 ?_
      refine r_iconst C (1 : Int32) dX9_cuts_74 (by decide) ?_
      refine r_iand C dX9_cuts_75 ?_
      refine r_if_ne C 86 dX9_cuts_76 (by decide) ?_ ?_
      · refine r_iconst C (0 : Int32) dX9_cuts_86 (by decide) ?_
        refine r_ior C dX9_cuts_87 ?_
        refine r_topi (fun y7 => ?_)
        refine r_istore C [(5, .int y7), (0, .ref h0), (1, .int x1), (2, .int x2), (4, .int x4), (6, .int x6)] dX9_cuts_88 (by decide) rfl ?_
        refine r_iinc C 5 (fun y8 => [(6, .int y8), (5, .int y7), (0, .ref h0), (1, .int x1), (2, .int x2), (4, .int x4)]) dX9_cuts_90 rfl (v := (1 : Int32)) (by decide) (by decide) (fun _ => rfl) (fun y8 => ?_)
        refine r_goto C 37 dX9_cuts_93 (by decide) ?_
        refine r_sub [2, 3, 4, 5, 1, 0] [(0, .ref h0), (1, .int x1), (2, .int x2), (4, .int x4), (5, .int y7), (6, .int y8)] rfl ?_
        exact ih S5 h0 x1 x2 x4 y7 y8 th0
      · refine r_iconst C (1 : Int32) dX9_cuts_79 (by decide) ?_
        refine r_iload C 5 dX9_cuts_80 rfl ?_
        refine r_ishl C dX9_cuts_82 ?_
        refine r_goto C 87 dX9_cuts_83 (by decide) ?_
        refine r_ior C dX9_cuts_87 ?_
        refine r_topi (fun y9 => ?_)
        refine r_istore C [(5, .int y9), (0, .ref h0), (1, .int x1), (2, .int x2), (4, .int x4), (6, .int x6)] dX9_cuts_88 (by decide) rfl ?_
        refine r_iinc C 5 (fun y10 => [(6, .int y10), (5, .int y9), (0, .ref h0), (1, .int x1), (2, .int x2), (4, .int x4)]) dX9_cuts_90 rfl (v := (1 : Int32)) (by decide) (by decide) (fun _ => rfl) (fun y10 => ?_)
        refine r_goto C 37 dX9_cuts_93 (by decide) ?_
        refine r_sub [2, 3, 4, 5, 1, 0] [(0, .ref h0), (1, .int x1), (2, .int x2), (4, .int x4), (5, .int y9), (6, .int y10)] rfl ?_
        exact ih S5 h0 x1 x2 x4 y9 y10 th0
set_option maxRecDepth 100000 in
set_option maxHeartbeats 4000000 in
theorem c_X9_cuts (l : Launch) (E : EN) (n : Nat) (h0 : Nat) (x1 : Int32) (x2 : Int32) (x3 : Int32) (th0 : Ty E h0 8) : CT l E yX9_cuts cX9_cuts 7 (some .int) 6 141 wI tT [.ref h0, .int x1, .int x2, .int x3] (fun S => f_X9_cuts E n S h0 x1 x2 x3) := by
  refine ct_of RX9 (by decide +kernel) rfl [(0, .ref h0), (1, .int x1), (2, .int x2), (3, .int x3)] rfl (Nat.le_of_ble_eq_true rfl) (fun A S hA C X => ?_)
  subst hA
  show Gd A E 7 (QM A E wI tT) (f_X9_cuts E n S h0 x1 x2 x3) S 0 [(0, .ref h0), (1, .int x1), (2, .int x2), (3, .int x3)] []
  unfold f_X9_cuts
  refine r_aload_n C 0 dX9_cuts_0 rfl ?_
  refine r_iload_n C 1 dX9_cuts_1 rfl ?_
  refine r_iload_n C 2 dX9_cuts_2 rfl ?_
  refine r_iload_n C 3 dX9_cuts_3 rfl ?_
  refine r_callV (As := [.int x1, .int x2, .int x3]) (rest := []) C (c_X9_isAsked _ E n h0 x1 x2 x3 th0) dX9_cuts_4 ml_X9_373 mv_X9_isAsked ⟨TX9, _, rfl⟩ (by decide) th0 rfl rfl ⟨by decide, by decide⟩ (Nat.le_of_ble_eq_true rfl) (fun v2 S1 hv2 => ?_)
  refine r_if_ne C 13 dX9_cuts_7 (by decide) ?_ ?_
  · refine r_aload_n C 0 dX9_cuts_13 rfl ?_
    refine r_iload_n C 1 dX9_cuts_14 rfl ?_
    refine r_iload_n C 2 dX9_cuts_15 rfl ?_
    refine r_iload_n C 3 dX9_cuts_16 rfl ?_
    refine r_callV (As := [.int x1, .int x2, .int x3]) (rest := []) C (c_X9_canCome _ E n h0 x1 x2 x3 th0) dX9_cuts_17 ml_X9_382 mv_X9_canCome ⟨TX9, _, rfl⟩ (by decide) th0 rfl rfl ⟨by decide, by decide⟩ (Nat.le_of_ble_eq_true rfl) (fun v4 S3 hv4 => ?_)
    refine r_if_ne C 25 dX9_cuts_20 (by decide) ?_ ?_
    · refine r_aload_n C 0 dX9_cuts_25 rfl ?_
      refine r_geti C fl_X9_329 dX9_cuts_26 th0 ?_
      refine r_topi (fun y5 => ?_)
      refine r_istore C [(4, .int y5), (0, .ref h0), (1, .int x1), (2, .int x2), (3, .int x3)] dX9_cuts_29 (by decide) rfl ?_
      refine r_iconst C (0 : Int32) dX9_cuts_31 (by decide) ?_
      refine r_istore C [(5, .int (0 : Int32)), (4, .int y5), (0, .ref h0), (1, .int x1), (2, .int x2), (3, .int x3)] dX9_cuts_32 (by decide) rfl ?_
      refine r_iconst C (0 : Int32) dX9_cuts_34 (by decide) ?_
      refine r_istore C [(6, .int (0 : Int32)), (5, .int (0 : Int32)), (4, .int y5), (0, .ref h0), (1, .int x1), (2, .int x2), (3, .int x3)] dX9_cuts_35 (by decide) rfl ?_
      refine r_sub [3, 4, 5, 2, 1, 0] [(0, .ref h0), (1, .int x1), (2, .int x2), (4, .int y5), (5, .int (0 : Int32)), (6, .int (0 : Int32))] rfl ?_
      exact p_X9_cuts_L37 C X  n S3 h0 x1 x2 y5 (0 : Int32) (0 : Int32) th0
    · refine r_iconst C (-1 : Int32) dX9_cuts_23 (by decide) ?_
      exact r_ireturn C X dX9_cuts_24
  · refine r_bipush C (-2 : Int32) dX9_cuts_10 (by decide) ?_
    exact r_ireturn C X dX9_cuts_12
set_option maxRecDepth 100000 in
set_option maxHeartbeats 4000000 in
theorem c_X9_reachOf (l : Launch) (E : EN) (n : Nat) (h0 : Nat) (x1 : Int32) (x2 : Int32) (th0 : Ty E h0 8) : CT l E yX9_reachOf cX9_reachOf 3 (some .int) 5 118 wI tT [.ref h0, .int x1, .int x2] (fun S => f_X9_reachOf E n S h0 x1 x2) := by
  refine ct_of RX9 (by decide +kernel) rfl [(0, .ref h0), (1, .int x1), (2, .int x2)] rfl (Nat.le_of_ble_eq_true rfl) (fun A S hA C X => ?_)
  subst hA
  show Gd A E 3 (QM A E wI tT) (f_X9_reachOf E n S h0 x1 x2) S 0 [(0, .ref h0), (1, .int x1), (2, .int x2)] []
  unfold f_X9_reachOf
  refine r_aload_n C 0 dX9_reachOf_0 rfl ?_
  refine r_aload_n C 0 dX9_reachOf_1 rfl ?_
  refine r_iload_n C 1 dX9_reachOf_2 rfl ?_
  refine r_callV (As := [.int x1]) (rest := [.ref h0]) C (c_X9_leapOf _ E n h0 x1 th0) dX9_reachOf_3 ml_X9_332 mv_X9_leapOf ⟨TX9, _, rfl⟩ (by decide) th0 rfl rfl ⟨by decide, by decide⟩ (Nat.le_of_ble_eq_true rfl) (fun v2 S1 hv2 => ?_)
  refine r_iload_n C 2 dX9_reachOf_6 rfl ?_
  refine r_callV (As := [.int v2, .int x2]) (rest := []) C (c_X9_opens _ E n h0 v2 x2 th0) dX9_reachOf_7 ml_X9_335 mv_X9_opens ⟨TX9, _, rfl⟩ (by decide) th0 rfl rfl ⟨by decide, by decide⟩ (Nat.le_of_ble_eq_true rfl) (fun v4 S3 hv4 => ?_)
  refine r_aload_n C 0 dX9_reachOf_10 rfl ?_
  refine r_aload_n C 0 dX9_reachOf_11 rfl ?_
  refine r_iload_n C 1 dX9_reachOf_12 rfl ?_
  refine r_callV (As := [.int x1]) (rest := [.ref h0]) C (c_X9_homeOf _ E n h0 x1 th0) dX9_reachOf_13 ml_X9_339 mv_X9_homeOf ⟨TX9, _, rfl⟩ (by decide) th0 rfl rfl ⟨by decide, by decide⟩ (Nat.le_of_ble_eq_true rfl) (fun v6 S5 hv6 => ?_)
  refine r_callV (As := [.int v6]) (rest := []) C (c_X9_reachFrom _ E n h0 v6 th0) dX9_reachOf_16 ml_X9_342 mv_X9_reachFrom ⟨TX9, _, rfl⟩ (by decide) th0 rfl rfl ⟨by decide, by decide⟩ (Nat.le_of_ble_eq_true rfl) (fun v8 S7 hv8 => ?_)
  exact r_ireturn C X dX9_reachOf_19
set_option maxRecDepth 100000 in
set_option maxHeartbeats 4000000 in
theorem p_X9_vain_L39 {A : AM} {E : EN} {n : Nat} (C : Cx A E cX9_vain 6 RX9 6 140) (X : Ex A E (some .int)) {k26 : WS → Nat → Int32 → Int32 → Int32 → Option (Int32 × WS)} (hk26 : ∀ (S : WS) (h0 : Nat) (x1 : Int32) (x2 : Int32) (x3 : Int32) (_ : Ty E h0 8), Gd A E 6 (QM A E wI tT) (k26 S h0 x1 x2 x3) S 26 [(0, .ref h0), (1, .int x1), (2, .int x2), (3, .int x3)] []) : ∀ (m : Nat) (S : WS) (h0 : Nat) (x1 : Int32) (x2 : Int32) (x3 : Int32) (x4 : Int32) (th0 : Ty E h0 8), Gd A E 6 (QM A E wI tT) (f_X9_vain_L39 E n k26 m S h0 x1 x2 x3 x4) S 39 [(0, .ref h0), (1, .int x1), (2, .int x2), (3, .int x3), (4, .int x4)] [] := by
  intro m
  induction m with
  | zero => intros; exact gn
  | succ m ih =>
    intro S h0 x1 x2 x3 x4 th0
    unfold f_X9_vain_L39
    refine r_iload C 4 dX9_vain_39 rfl ?_
    refine r_aload_n C 0 dX9_vain_41 rfl ?_
    refine r_getr C fl_X9_9 dX9_vain_42 th0 (fun b1 tb1 => ?_)
    refine r_iconst C (1 : Int32) dX9_vain_45 (by decide) ?_
    refine r_iald C dX9_vain_46 tb1 ?_
    refine r_icmp_ge C 97 dX9_vain_47 (by decide) ?_ ?_
    · refine r_iinc C 3 (fun y2 => [(3, .int y2), (0, .ref h0), (1, .int x1), (2, .int x2), (4, .int x4)]) dX9_vain_97 rfl (v := (1 : Int32)) (by decide) (by decide) (fun _ => rfl) (fun y2 => ?_)
      refine r_goto C 26 dX9_vain_100 (by decide) ?_
      refine r_sub [1, 2, 3, 0] [(0, .ref h0), (1, .int x1), (2, .int x2), (3, .int y2)] rfl ?_
      exact hk26 S h0 x1 x2 y2 th0
    · refine r_aload_n C 0 dX9_vain_50 rfl ?_
      refine r_iload_n C 3 dX9_vain_51 rfl ?_
      refine r_iload C 4 dX9_vain_52 rfl ?_
      refine r_callV (As := [.int x3, .int x4]) (rest := []) C (c_X9_reachOf _ E n h0 x3 x4 th0) dX9_vain_54 ml_X9_415 mv_X9_reachOf ⟨TX9, _, rfl⟩ (by decide) th0 rfl rfl ⟨by decide, by decide⟩ (Nat.le_of_ble_eq_true rfl) (fun v4 S3 hv4 => ?_)
      refine r_istore C [(5, .int v4), (0, .ref h0), (1, .int x1), (2, .int x2), (3, .int x3), (4, .int x4)] dX9_vain_57 (by decide) rfl ?_
      refine r_aload_n C 1 dX9_vain_59 rfl ?_
      refine r_iload_n C 2 dX9_vain_60 rfl ?_
      refine r_puti C fl_X9_34 dX9_vain_61 th0 (fun S5 => ?_)
      refine r_iload_n C 3 dX9_vain_64 rfl ?_
      refine r_if_eq C 84 dX9_vain_65 (by decide) ?_ ?_
      · refine r_iconst C (0 : Int32) dX9_vain_84 (by decide) ?_
        refine r_istore_n C [(2, .int (0 : Int32)), (5, .int v4), (0, .ref h0), (1, .int x1), (3, .int x3), (4, .int x4)] dX9_vain_85 (by decide) rfl ?_
        refine r_aload_n C 2 dX9_vain_86 rfl ?_
        refine r_iconst C (-1 : Int32) dX9_vain_87 (by decide) ?_
        refine r_puti C fl_X9_34 dX9_vain_88 th0 (fun S6 => ?_)
        refine r_iinc C 5 (fun y7 => [(4, .int y7), (2, .int (0 : Int32)), (5, .int v4), (0, .ref h0), (1, .int x1), (3, .int x3)]) dX9_vain_91 rfl (v := (1 : Int32)) (by decide) (by decide) (fun _ => rfl) (fun y7 => ?_)
        refine r_goto C 39 dX9_vain_94 (by decide) ?_
        refine r_sub [3, 4, 1, 5, 0] [(0, .ref h0), (1, .int x1), (2, .int (0 : Int32)), (3, .int x3), (4, .int y7)] rfl ?_
        exact ih S6 h0 x1 (0 : Int32) x3 y7 th0
      · refine r_aload_n C 1 dX9_vain_68 rfl ?_
        refine r_iload_n C 4 dX9_vain_69 rfl ?_
        refine r_iload C 5 dX9_vain_70 rfl ?_
        refine r_callV (As := [.int x3, .int x4]) (rest := []) C (c_X9_reachOf _ E n h0 x3 x4 th0) dX9_vain_72 ml_X9_415 mv_X9_reachOf ⟨TX9, _, rfl⟩ (by decide) th0 rfl rfl ⟨by decide, by decide⟩ (Nat.le_of_ble_eq_true rfl) (fun v9 S8 hv9 => ?_)
        refine r_iload C 0 dX9_vain_75 rfl ?_
        refine r_icmp_ne C 84 dX9_vain_77 (by decide) ?_ ?_
        · refine r_iconst C (0 : Int32) dX9_vain_84 (by decide) ?_
          refine r_istore_n C [(2, .int (0 : Int32)), (5, .int v4), (0, .ref h0), (1, .int x1), (3, .int x3), (4, .int x4)] dX9_vain_85 (by decide) rfl ?_
          refine r_aload_n C 2 dX9_vain_86 rfl ?_
          refine r_iconst C (-1 : Int32) dX9_vain_87 (by decide) ?_
          refine r_puti C fl_X9_34 dX9_vain_88 th0 (fun S10 => ?_)
          refine r_iinc C 5 (fun y11 => [(4, .int y11), (2, .int (0 : Int32)), (5, .int v4), (0, .ref h0), (1, .int x1), (3, .int x3)]) dX9_vain_91 rfl (v := (1 : Int32)) (by decide) (by decide) (fun _ => rfl) (fun y11 => ?_)
          refine r_goto C 39 dX9_vain_94 (by decide) ?_
          refine r_sub [3, 4, 1, 5, 0] [(0, .ref h0), (1, .int x1), (2, .int (0 : Int32)), (3, .int x3), (4, .int y11)] rfl ?_
          exact ih S10 h0 x1 (0 : Int32) x3 y11 th0
        · refine r_iconst C (1 : Int32) dX9_vain_80 (by decide) ?_
          refine r_goto C 85 dX9_vain_81 (by decide) ?_
          refine r_istore_n C [(2, .int (1 : Int32)), (5, .int v4), (0, .ref h0), (1, .int x1), (3, .int x3), (4, .int x4)] dX9_vain_85 (by decide) rfl ?_
          refine r_aload_n C 2 dX9_vain_86 rfl ?_
          refine r_iconst C (-1 : Int32) dX9_vain_87 (by decide) ?_
          refine r_puti C fl_X9_34 dX9_vain_88 th0 (fun S12 => ?_)
          refine r_iinc C 5 (fun y13 => [(4, .int y13), (2, .int (1 : Int32)), (5, .int v4), (0, .ref h0), (1, .int x1), (3, .int x3)]) dX9_vain_91 rfl (v := (1 : Int32)) (by decide) (by decide) (fun _ => rfl) (fun y13 => ?_)
          refine r_goto C 39 dX9_vain_94 (by decide) ?_
          refine r_sub [3, 4, 1, 5, 0] [(0, .ref h0), (1, .int x1), (2, .int (1 : Int32)), (3, .int x3), (4, .int y13)] rfl ?_
          exact ih S12 h0 x1 (1 : Int32) x3 y13 th0
set_option maxRecDepth 100000 in
set_option maxHeartbeats 4000000 in
theorem p_X9_vain_L26 {A : AM} {E : EN} {n : Nat} (C : Cx A E cX9_vain 6 RX9 6 140) (X : Ex A E (some .int))  : ∀ (m : Nat) (S : WS) (h0 : Nat) (x1 : Int32) (x2 : Int32) (x3 : Int32) (th0 : Ty E h0 8), Gd A E 6 (QM A E wI tT) (f_X9_vain_L26 E n  m S h0 x1 x2 x3) S 26 [(0, .ref h0), (1, .int x1), (2, .int x2), (3, .int x3)] [] := by
  intro m
  induction m with
  | zero => intros; exact gn
  | succ m ih =>
    intro S h0 x1 x2 x3 th0
    unfold f_X9_vain_L26
    refine r_iload_n C 3 dX9_vain_26 rfl ?_
    refine r_aload_n C 0 dX9_vain_27 rfl ?_
    refine r_getr C fl_X9_9 dX9_vain_28 th0 (fun b1 tb1 => ?_)
    refine r_iconst C (5 : Int32) dX9_vain_31 (by decide) ?_
    refine r_iald C dX9_vain_32 tb1 ?_
    refine r_icmp_ge C 103 dX9_vain_33 (by decide) ?_ ?_
    · refine r_iload_n C 2 dX9_vain_103 rfl ?_
      refine r_if_eq C 111 dX9_vain_104 (by decide) ?_ ?_
      · refine r_iconst C (0 : Int32) dX9_vain_111 (by decide) ?_
        exact r_ireturn C X dX9_vain_112
      · refine r_iconst C (1 : Int32) dX9_vain_107 (by decide) ?_
        refine r_goto C 112 dX9_vain_108 (by decide) ?_
        exact r_ireturn C X dX9_vain_112
    · refine r_iconst C (0 : Int32) dX9_vain_36 (by decide) ?_
      refine r_istore C [(4, .int (0 : Int32)), (0, .ref h0), (1, .int x1), (2, .int x2), (3, .int x3)] dX9_vain_37 (by decide) rfl ?_
      refine r_sub [1, 2, 3, 4, 0] [(0, .ref h0), (1, .int x1), (2, .int x2), (3, .int x3), (4, .int (0 : Int32))] rfl ?_
      exact p_X9_vain_L39 C X ih n S h0 x1 x2 x3 (0 : Int32) th0
set_option maxRecDepth 100000 in
set_option maxHeartbeats 4000000 in
theorem c_X9_vain (l : Launch) (E : EN) (n : Nat) (h0 : Nat) (x1 : Int32) (th0 : Ty E h0 8) : CT l E yX9_vain cX9_vain 6 (some .int) 6 140 wI tT [.ref h0, .int x1] (fun S => f_X9_vain E n S h0 x1) := by
  refine ct_of RX9 (by decide +kernel) rfl [(0, .ref h0), (1, .int x1)] rfl (Nat.le_of_ble_eq_true rfl) (fun A S hA C X => ?_)
  subst hA
  show Gd A E 6 (QM A E wI tT) (f_X9_vain E n S h0 x1) S 0 [(0, .ref h0), (1, .int x1)] []
  unfold f_X9_vain
  refine r_aload_n C 0 dX9_vain_0 rfl ?_
  refine r_iload_n C 1 dX9_vain_1 rfl ?_
  refine r_callV (As := [.int x1]) (rest := []) C (c_X9_isSuitor _ E n h0 x1 th0) dX9_vain_2 ml_X9_270 mv_X9_isSuitor ⟨TX9, _, rfl⟩ (by decide) th0 rfl rfl ⟨by decide, by decide⟩ (Nat.le_of_ble_eq_true rfl) (fun v2 S1 hv2 => ?_)
  refine r_if_ne C 11 dX9_vain_5 (by decide) ?_ ?_
  · refine r_aload_n C 0 dX9_vain_11 rfl ?_
    refine r_iload_n C 1 dX9_vain_12 rfl ?_
    refine r_callV (As := [.int x1]) (rest := []) C (c_X9_courts _ E n h0 x1 th0) dX9_vain_13 ml_X9_234 mv_X9_courts ⟨TX9, _, rfl⟩ (by decide) th0 rfl rfl ⟨by decide, by decide⟩ (Nat.le_of_ble_eq_true rfl) (fun v4 S3 hv4 => ?_)
    refine r_iconst C (-1 : Int32) dX9_vain_16 (by decide) ?_
    refine r_icmp_ne C 22 dX9_vain_17 (by decide) ?_ ?_
    · refine r_iconst C (1 : Int32) dX9_vain_22 (by decide) ?_
      refine r_istore_n C [(2, .int (1 : Int32)), (0, .ref h0), (1, .int x1)] dX9_vain_23 (by decide) rfl ?_
      refine r_iconst C (0 : Int32) dX9_vain_24 (by decide) ?_
      refine r_istore_n C [(3, .int (0 : Int32)), (2, .int (1 : Int32)), (0, .ref h0), (1, .int x1)] dX9_vain_25 (by decide) rfl ?_
      refine r_sub [2, 3, 1, 0] [(0, .ref h0), (1, .int x1), (2, .int (1 : Int32)), (3, .int (0 : Int32))] rfl ?_
      exact p_X9_vain_L26 C X  n S3 h0 x1 (1 : Int32) (0 : Int32) th0
    · refine r_iconst C (-1 : Int32) dX9_vain_20 (by decide) ?_
      exact r_ireturn C X dX9_vain_21
  · refine r_bipush C (-2 : Int32) dX9_vain_8 (by decide) ?_
    exact r_ireturn C X dX9_vain_10
set_option maxRecDepth 100000 in
set_option maxHeartbeats 4000000 in
theorem p_X9_sold_L70 {A : AM} {E : EN} {n : Nat} (C : Cx A E cX9_sold 9 RX9 4 98) (X : Ex A E (some .int)) {k58 : WS → Nat → Int32 → Int32 → Int32 → Int32 → Option (Int32 × WS)} (hk58 : ∀ (S : WS) (h0 : Nat) (x1 : Int32) (x2 : Int32) (x3 : Int32) (x4 : Int32) (_ : Ty E h0 8), Gd A E 9 (QM A E wI tT) (k58 S h0 x1 x2 x3 x4) S 58 [(0, .ref h0), (1, .int x1), (2, .int x2), (3, .int x3), (4, .int x4)] []) : ∀ (m : Nat) (S : WS) (h0 : Nat) (x1 : Int32) (x2 : Int32) (x3 : Int32) (x4 : Int32) (x5 : Int32) (th0 : Ty E h0 8), Gd A E 9 (QM A E wI tT) (f_X9_sold_L70 E n k58 m S h0 x1 x2 x3 x4 x5) S 70 [(0, .ref h0), (1, .int x1), (2, .int x2), (3, .int x3), (4, .int x4), (5, .int x5)] [] := by
  intro m
  induction m with
  | zero => intros; exact gn
  | succ m ih =>
    intro S h0 x1 x2 x3 x4 x5 th0
    unfold f_X9_sold_L70
    refine r_iload C 5 dX9_sold_70 rfl ?_
    refine r_aload_n C 0 dX9_sold_72 rfl ?_
    refine r_getr C fl_X9_9 dX9_sold_73 th0 (fun b1 tb1 => ?_)
    refine r_iconst C (2 : Int32) dX9_sold_76 (by decide) ?_
    refine r_iald C dX9_sold_77 tb1 ?_
    refine r_icmp_ge C 173 dX9_sold_78 (by decide) ?_ ?_
    · refine r_iinc C 4 (fun y2 => [(4, .int y2), (0, .ref h0), (1, .int x1), (2, .int x2), (3, .int x3), (5, .int x5)]) dX9_sold_173 rfl (v := (1 : Int32)) (by decide) (by decide) (fun _ => rfl) (fun y2 => ?_)
      refine r_goto C 58 dX9_sold_176 (by decide) ?_
      refine r_sub [1, 2, 3, 4, 0] [(0, .ref h0), (1, .int x1), (2, .int x2), (3, .int x3), (4, .int y2)] rfl ?_
      exact hk58 S h0 x1 x2 x3 y2 th0
    · refine r_aload_n C 0 dX9_sold_81 rfl ?_
      refine r_iload C 5 dX9_sold_82 rfl ?_
      refine r_iload_n C 3 dX9_sold_84 rfl ?_
      refine r_aload_n C 0 dX9_sold_85 rfl ?_
      refine r_iload_n C 1 dX9_sold_86 rfl ?_
      refine r_callV (As := [.int x1]) (rest := [.int x3, .int x5, .ref h0]) C (c_X9_leapOf _ E n h0 x1 th0) dX9_sold_87 ml_X9_332 mv_X9_leapOf ⟨TX9, _, rfl⟩ (by decide) th0 rfl rfl ⟨by decide, by decide⟩ (Nat.le_of_ble_eq_true rfl) (fun v4 S3 hv4 => ?_)
      refine r_callV (As := [.int x5, .int x3, .int v4]) (rest := []) C (c_X9_lacksOf _ E n h0 x5 x3 v4 th0) dX9_sold_90 ml_X9_304 mv_X9_lacksOf ⟨TX9, _, rfl⟩ (by decide) th0 rfl rfl ⟨by decide, by decide⟩ (Nat.le_of_ble_eq_true rfl) (fun v6 S5 hv6 => ?_)
      refine r_istore C [(6, .int v6), (0, .ref h0), (1, .int x1), (2, .int x2), (3, .int x3), (4, .int x4), (5, .int x5)] dX9_sold_93 (by decide) rfl ?_
      refine r_aload_n C 1 dX9_sold_95 rfl ?_
      refine r_iload C 6 dX9_sold_96 rfl ?_
      refine r_iconst C (0 : Int32) dX9_sold_98 (by decide) ?_
      refine r_callV (As := [.int x5, .int (0 : Int32)]) (rest := []) C (c_X9_endOf _ E n h0 x5 (0 : Int32) th0) dX9_sold_99 ml_X9_90 mv_X9_endOf ⟨TX9, _, rfl⟩ (by decide) th0 rfl rfl ⟨by decide, by decide⟩ (Nat.le_of_ble_eq_true rfl) (fun v8 S7 hv8 => ?_)
      refine r_istore C [(7, .int v8), (6, .int v6), (0, .ref h0), (1, .int x1), (2, .int x2), (3, .int x3), (4, .int x4), (5, .int x5)] dX9_sold_102 (by decide) rfl ?_
      refine r_aload_n C 2 dX9_sold_104 rfl ?_
      refine r_iload C 7 dX9_sold_105 rfl ?_
      refine r_iconst C (1 : Int32) dX9_sold_107 (by decide) ?_
      refine r_callV (As := [.int x5, .int (1 : Int32)]) (rest := []) C (c_X9_endOf _ E n h0 x5 (1 : Int32) th0) dX9_sold_108 ml_X9_90 mv_X9_endOf ⟨TX9, _, rfl⟩ (by decide) th0 rfl rfl ⟨by decide, by decide⟩ (Nat.le_of_ble_eq_true rfl) (fun v10 S9 hv10 => ?_)
      refine r_istore C [(8, .int v10), (7, .int v8), (6, .int v6), (0, .ref h0), (1, .int x1), (2, .int x2), (3, .int x3), (4, .int x4), (5, .int x5)] dX9_sold_111 (by decide) rfl ?_
      refine r_aload_n C 3 dX9_sold_113 rfl ?_
      refine r_getr C fl_X9_62 dX9_sold_114 th0 (fun b11 tb11 => ?_)
      refine r_iload C 1 dX9_sold_117 rfl ?_
      refine r_aload_n C 3 dX9_sold_119 rfl ?_
      refine r_getr C fl_X9_62 dX9_sold_120 th0 (fun b12 tb12 => ?_)
      refine r_iload C 1 dX9_sold_123 rfl ?_
      refine r_iald C dX9_sold_125 tb12 ?_
      refine r_aload_n C 3 dX9_sold_126 rfl ?_
      refine r_getr C fl_X9_62 dX9_sold_127 th0 (fun b13 tb13 => ?_)
      refine r_iload C 0 dX9_sold_130 rfl ?_
      refine r_iald C dX9_sold_132 tb13 ?_
      refine r_iload C 2 dX9_sold_133 rfl ?_
      refine r_iadd C dX9_sold_135 ?_
      refine r_mmin C (mG 1416 (by decide +kernel) rfl) mmin_w ⟨by decide, by decide⟩ (Nat.le_of_ble_eq_true rfl) dX9_sold_136 ?_
      refine r_iast C dX9_sold_139 tb11 (fun S14 => ?_)
      refine r_aload_n C 3 dX9_sold_140 rfl ?_
      refine r_getr C fl_X9_62 dX9_sold_141 th0 (fun b15 tb15 => ?_)
      refine r_iload C 0 dX9_sold_144 rfl ?_
      refine r_aload_n C 3 dX9_sold_146 rfl ?_
      refine r_getr C fl_X9_62 dX9_sold_147 th0 (fun b16 tb16 => ?_)
      refine r_iload C 0 dX9_sold_150 rfl ?_
      refine r_iald C dX9_sold_152 tb16 ?_
      refine r_aload_n C 3 dX9_sold_153 rfl ?_
      refine r_getr C fl_X9_62 dX9_sold_154 th0 (fun b17 tb17 => ?_)
      refine r_iload C 1 dX9_sold_157 rfl ?_
      refine r_iald C dX9_sold_159 tb17 ?_
      refine r_iload C 2 dX9_sold_160 rfl ?_
      refine r_iadd C dX9_sold_162 ?_
      refine r_mmin C (mG 1416 (by decide +kernel) rfl) mmin_w ⟨by decide, by decide⟩ (Nat.le_of_ble_eq_true rfl) dX9_sold_163 ?_
      refine r_iast C dX9_sold_166 tb15 (fun S18 => ?_)
      refine r_iinc C 8 (fun y19 => [(5, .int y19), (8, .int v10), (7, .int v8), (6, .int v6), (0, .ref h0), (1, .int x1), (2, .int x2), (3, .int x3), (4, .int x4)]) dX9_sold_167 rfl (v := (1 : Int32)) (by decide) (by decide) (fun _ => rfl) (fun y19 => ?_)
      refine r_goto C 70 dX9_sold_170 (by decide) ?_
      refine r_sub [4, 5, 6, 7, 8, 0] [(0, .ref h0), (1, .int x1), (2, .int x2), (3, .int x3), (4, .int x4), (5, .int y19)] rfl ?_
      exact ih S18 h0 x1 x2 x3 x4 y19 th0
set_option maxRecDepth 100000 in
set_option maxHeartbeats 4000000 in
theorem p_X9_sold_L58 {A : AM} {E : EN} {n : Nat} (C : Cx A E cX9_sold 9 RX9 4 98) (X : Ex A E (some .int))  : ∀ (m : Nat) (S : WS) (h0 : Nat) (x1 : Int32) (x2 : Int32) (x3 : Int32) (x4 : Int32) (th0 : Ty E h0 8), Gd A E 9 (QM A E wI tT) (f_X9_sold_L58 E n  m S h0 x1 x2 x3 x4) S 58 [(0, .ref h0), (1, .int x1), (2, .int x2), (3, .int x3), (4, .int x4)] [] := by
  intro m
  induction m with
  | zero => intros; exact gn
  | succ m ih =>
    intro S h0 x1 x2 x3 x4 th0
    unfold f_X9_sold_L58
    refine r_iload C 4 dX9_sold_58 rfl ?_
    refine r_aload_n C 0 dX9_sold_60 rfl ?_
    refine r_callV (As := []) (rest := [.int x4]) C (c_X9_places _ E n h0 th0) dX9_sold_61 ml_X9_86 mv_X9_places ⟨TX9, _, rfl⟩ (by decide) th0 rfl rfl ⟨by decide, by decide⟩ (Nat.le_of_ble_eq_true rfl) (fun v2 S1 hv2 => ?_)
    refine r_icmp_ge C 179 dX9_sold_64 (by decide) ?_ ?_
    · refine r_aload_n C 0 dX9_sold_179 rfl ?_
      refine r_getr C fl_X9_62 dX9_sold_180 th0 (fun b3 tb3 => ?_)
      refine r_iload_n C 2 dX9_sold_183 rfl ?_
      refine r_iald C dX9_sold_184 tb3 ?_
      refine r_ldc_w C (1000000 : Int32) (mG 1632 (by decide +kernel) rfl) dX9_sold_185 ?_
      refine r_icmp_lt C 195 dX9_sold_188 (by decide) ?_ ?_
      · refine r_aload_n C 0 dX9_sold_195 rfl ?_
        refine r_getr C fl_X9_62 dX9_sold_196 th0 (fun b4 tb4 => ?_)
        refine r_iload_n C 2 dX9_sold_199 rfl ?_
        refine r_iald C dX9_sold_200 tb4 ?_
        exact r_ireturn C X dX9_sold_201
      · refine r_iconst C (-1 : Int32) dX9_sold_191 (by decide) ?_
        refine r_goto C 201 dX9_sold_192 (by decide) ?_
        exact r_ireturn C X dX9_sold_201
    · refine r_iconst C (0 : Int32) dX9_sold_67 (by decide) ?_
      refine r_istore C [(5, .int (0 : Int32)), (0, .ref h0), (1, .int x1), (2, .int x2), (3, .int x3), (4, .int x4)] dX9_sold_68 (by decide) rfl ?_
      refine r_sub [1, 2, 3, 4, 5, 0] [(0, .ref h0), (1, .int x1), (2, .int x2), (3, .int x3), (4, .int x4), (5, .int (0 : Int32))] rfl ?_
      exact p_X9_sold_L70 C X ih n S1 h0 x1 x2 x3 x4 (0 : Int32) th0
set_option maxRecDepth 100000 in
set_option maxHeartbeats 4000000 in
theorem p_X9_sold_L16 {A : AM} {E : EN} {n : Nat} (C : Cx A E cX9_sold 9 RX9 4 98) (X : Ex A E (some .int))  : ∀ (m : Nat) (S : WS) (h0 : Nat) (x1 : Int32) (x2 : Int32) (x3 : Int32) (x4 : Int32) (th0 : Ty E h0 8), Gd A E 9 (QM A E wI tT) (f_X9_sold_L16 E n  m S h0 x1 x2 x3 x4) S 16 [(0, .ref h0), (1, .int x1), (2, .int x2), (3, .int x3), (4, .int x4)] [] := by
  intro m
  induction m with
  | zero => intros; exact gn
  | succ m ih =>
    intro S h0 x1 x2 x3 x4 th0
    unfold f_X9_sold_L16
    refine r_iload C 4 dX9_sold_16 rfl ?_
    refine r_aload_n C 0 dX9_sold_18 rfl ?_
    refine r_callV (As := []) (rest := [.int x4]) C (c_X9_places _ E n h0 th0) dX9_sold_19 ml_X9_86 mv_X9_places ⟨TX9, _, rfl⟩ (by decide) th0 rfl rfl ⟨by decide, by decide⟩ (Nat.le_of_ble_eq_true rfl) (fun v2 S1 hv2 => ?_)
    refine r_icmp_ge C 55 dX9_sold_22 (by decide) ?_ ?_
    · refine r_iconst C (0 : Int32) dX9_sold_55 (by decide) ?_
      refine r_istore C [(4, .int (0 : Int32)), (0, .ref h0), (1, .int x1), (2, .int x2), (3, .int x3)] dX9_sold_56 (by decide) rfl ?_
      refine r_sub [1, 2, 3, 4, 0] [(0, .ref h0), (1, .int x1), (2, .int x2), (3, .int x3), (4, .int (0 : Int32))] rfl ?_
      exact p_X9_sold_L58 C X  n S1 h0 x1 x2 x3 (0 : Int32) th0
    · refine r_aload_n C 0 dX9_sold_25 rfl ?_
      refine r_getr C fl_X9_62 dX9_sold_26 th0 (fun b3 tb3 => ?_)
      refine r_iload C 4 dX9_sold_29 rfl ?_
      refine r_iload C 4 dX9_sold_31 rfl ?_
      refine r_aload_n C 0 dX9_sold_33 rfl ?_
      refine r_iload_n C 1 dX9_sold_34 rfl ?_
      refine r_callV (As := [.int x1]) (rest := [.int x4, .int x4, .ref b3]) C (c_X9_homeOf _ E n h0 x1 th0) dX9_sold_35 ml_X9_339 mv_X9_homeOf ⟨TX9, _, rfl⟩ (by decide) th0 rfl rfl ⟨by decide, by decide⟩ (Nat.le_of_ble_eq_true rfl) (fun v5 S4 hv5 => ?_)
      refine r_icmp_ne C 45 dX9_sold_38 (by decide) ?_ ?_
      · refine r_ldc_w C (1000000 : Int32) (mG 1632 (by decide +kernel) rfl) dX9_sold_45 ?_
        refine r_iast C dX9_sold_48 tb3 (fun S6 => ?_)
        refine r_iinc C 4 (fun y7 => [(4, .int y7), (0, .ref h0), (1, .int x1), (2, .int x2), (3, .int x3)]) dX9_sold_49 rfl (v := (1 : Int32)) (by decide) (by decide) (fun _ => rfl) (fun y7 => ?_)
        refine r_goto C 16 dX9_sold_52 (by decide) ?_
        refine r_sub [1, 2, 3, 4, 0] [(0, .ref h0), (1, .int x1), (2, .int x2), (3, .int x3), (4, .int y7)] rfl ?_
        exact ih S6 h0 x1 x2 x3 y7 th0
      · refine r_iconst C (0 : Int32) dX9_sold_41 (by decide) ?_
        refine r_goto C 48 dX9_sold_42 (by decide) ?_
        refine r_iast C dX9_sold_48 tb3 (fun S8 => ?_)
        refine r_iinc C 4 (fun y9 => [(4, .int y9), (0, .ref h0), (1, .int x1), (2, .int x2), (3, .int x3)]) dX9_sold_49 rfl (v := (1 : Int32)) (by decide) (by decide) (fun _ => rfl) (fun y9 => ?_)
        refine r_goto C 16 dX9_sold_52 (by decide) ?_
        refine r_sub [1, 2, 3, 4, 0] [(0, .ref h0), (1, .int x1), (2, .int x2), (3, .int x3), (4, .int y9)] rfl ?_
        exact ih S8 h0 x1 x2 x3 y9 th0
set_option maxRecDepth 100000 in
set_option maxHeartbeats 4000000 in
theorem c_X9_sold (l : Launch) (E : EN) (n : Nat) (h0 : Nat) (x1 : Int32) (x2 : Int32) (x3 : Int32) (th0 : Ty E h0 8) : CT l E yX9_sold cX9_sold 9 (some .int) 4 98 wI tT [.ref h0, .int x1, .int x2, .int x3] (fun S => f_X9_sold E n S h0 x1 x2 x3) := by
  refine ct_of RX9 (by decide +kernel) rfl [(0, .ref h0), (1, .int x1), (2, .int x2), (3, .int x3)] rfl (Nat.le_of_ble_eq_true rfl) (fun A S hA C X => ?_)
  subst hA
  show Gd A E 9 (QM A E wI tT) (f_X9_sold E n S h0 x1 x2 x3) S 0 [(0, .ref h0), (1, .int x1), (2, .int x2), (3, .int x3)] []
  unfold f_X9_sold
  refine r_aload_n C 0 dX9_sold_0 rfl ?_
  refine r_iload_n C 1 dX9_sold_1 rfl ?_
  refine r_iload_n C 2 dX9_sold_2 rfl ?_
  refine r_iload_n C 3 dX9_sold_3 rfl ?_
  refine r_callV (As := [.int x1, .int x2, .int x3]) (rest := []) C (c_X9_isAsked _ E n h0 x1 x2 x3 th0) dX9_sold_4 ml_X9_373 mv_X9_isAsked ⟨TX9, _, rfl⟩ (by decide) th0 rfl rfl ⟨by decide, by decide⟩ (Nat.le_of_ble_eq_true rfl) (fun v2 S1 hv2 => ?_)
  refine r_if_ne C 13 dX9_sold_7 (by decide) ?_ ?_
  · refine r_iconst C (0 : Int32) dX9_sold_13 (by decide) ?_
    refine r_istore C [(4, .int (0 : Int32)), (0, .ref h0), (1, .int x1), (2, .int x2), (3, .int x3)] dX9_sold_14 (by decide) rfl ?_
    refine r_sub [1, 2, 3, 4, 0] [(0, .ref h0), (1, .int x1), (2, .int x2), (3, .int x3), (4, .int (0 : Int32))] rfl ?_
    exact p_X9_sold_L16 C X  n S1 h0 x1 x2 x3 (0 : Int32) th0
  · refine r_bipush C (-2 : Int32) dX9_sold_10 (by decide) ?_
    exact r_ireturn C X dX9_sold_12
set_option maxRecDepth 100000 in
set_option maxHeartbeats 4000000 in
theorem p_X9_more_J96 {A : AM} {E : EN} {n : Nat} (C : Cx A E cX9_more 7 RX9 6 141) (X : Ex A E (some .int)) {k47 : WS → Nat → Int32 → Int32 → Int32 → Int32 → Int32 → Int32 → Option (Int32 × WS)} (hk47 : ∀ (S : WS) (h0 : Nat) (x1 : Int32) (x2 : Int32) (x3 : Int32) (x4 : Int32) (x5 : Int32) (x6 : Int32) (_ : Ty E h0 8), Gd A E 7 (QM A E wI tT) (k47 S h0 x1 x2 x3 x4 x5 x6) S 47 [(0, .ref h0), (1, .int x1), (2, .int x2), (3, .int x3), (4, .int x4), (5, .int x5), (6, .int x6)] []) (S : WS) (h0 : Nat) (x1 : Int32) (x2 : Int32) (x3 : Int32) (x4 : Int32) (x5 : Int32) (x6 : Int32) (g0 : Nat) (s1 : Int32) (s2 : Int32) (th0 : Ty E h0 8) (tg0 : Ty E g0 8) : Gd A E 7 (QM A E wI tT) (f_X9_more_J96 E n k47 S h0 x1 x2 x3 x4 x5 x6 g0 s1 s2) S 96 [(0, .ref h0), (1, .int x1), (2, .int x2), (3, .int x3), (4, .int x4), (5, .int x5), (6, .int x6)] [.int s2, .int s1, .ref g0] := by
  unfold f_X9_more_J96
  refine r_ior C dX9_more_96 ?_
  refine r_puti C fl_X9_329 dX9_more_97 tg0 (fun S1 => ?_)
  refine r_aload_n C 0 dX9_more_100 rfl ?_
  refine r_aload_n C 0 dX9_more_101 rfl ?_
  refine r_iload_n C 1 dX9_more_102 rfl ?_
  refine r_callV (As := [.int x1]) (rest := [.ref h0]) C (c_X9_homeOf _ E n h0 x1 th0) dX9_more_103 ml_X9_339 mv_X9_homeOf ⟨TX9, _, rfl⟩ (by decide) th0 rfl rfl ⟨by decide, by decide⟩ (Nat.le_of_ble_eq_true rfl) (fun v3 S2 hv3 => ?_)
  refine r_callV (As := [.int v3]) (rest := []) C (c_X9_reachFrom _ E n h0 v3 th0) dX9_more_106 ml_X9_342 mv_X9_reachFrom ⟨TX9, _, rfl⟩ (by decide) th0 rfl rfl ⟨by decide, by decide⟩ (Nat.le_of_ble_eq_true rfl) (fun v5 S4 hv5 => ?_)
  refine r_iload_n C 2 dX9_more_109 rfl ?_
  refine r_ishr C dX9_more_110 ?_
  refine r_iconst C (1 : Int32) dX9_more_111 (by decide) ?_
  refine r_iand C dX9_more_112 ?_
  refine r_iconst C (1 : Int32) dX9_more_113 (by decide) ?_
  refine r_icmp_ne C 120 dX9_more_114 (by decide) ?_ ?_
  · refine r_iinc C 6 (fun y6 => [(6, .int y6), (0, .ref h0), (1, .int x1), (2, .int x2), (3, .int x3), (4, .int x4), (5, .int x5)]) dX9_more_120 rfl (v := (1 : Int32)) (by decide) (by decide) (fun _ => rfl) (fun y6 => ?_)
    refine r_goto C 47 dX9_more_123 (by decide) ?_
    refine r_sub [1, 2, 3, 4, 5, 6, 0] [(0, .ref h0), (1, .int x1), (2, .int x2), (3, .int x3), (4, .int x4), (5, .int x5), (6, .int y6)] rfl ?_
    exact hk47 S4 h0 x1 x2 x3 x4 x5 y6 th0
  · refine r_iload C 6 dX9_more_117 rfl ?_
    exact r_ireturn C X dX9_more_119
set_option maxRecDepth 100000 in
set_option maxHeartbeats 4000000 in
theorem p_X9_more_L47 {A : AM} {E : EN} {n : Nat} (C : Cx A E cX9_more 7 RX9 6 141) (X : Ex A E (some .int))  : ∀ (m : Nat) (S : WS) (h0 : Nat) (x1 : Int32) (x2 : Int32) (x3 : Int32) (x4 : Int32) (x5 : Int32) (x6 : Int32) (th0 : Ty E h0 8), Gd A E 7 (QM A E wI tT) (f_X9_more_L47 E n  m S h0 x1 x2 x3 x4 x5 x6) S 47 [(0, .ref h0), (1, .int x1), (2, .int x2), (3, .int x3), (4, .int x4), (5, .int x5), (6, .int x6)] [] := by
  intro m
  induction m with
  | zero => intros; exact gn
  | succ m ih =>
    intro S h0 x1 x2 x3 x4 x5 x6 th0
    unfold f_X9_more_L47
    refine r_iload C 6 dX9_more_47 rfl ?_
    refine r_aload_n C 0 dX9_more_49 rfl ?_
    refine r_getr C fl_X9_9 dX9_more_50 th0 (fun b1 tb1 => ?_)
    refine r_iconst C (2 : Int32) dX9_more_53 (by decide) ?_
    refine r_iald C dX9_more_54 tb1 ?_
    refine r_icmp_ge C 126 dX9_more_55 (by decide) ?_ ?_
    · refine r_iconst C (-1 : Int32) dX9_more_126 (by decide) ?_
      exact r_ireturn C X dX9_more_127
    · refine r_aload_n C 0 dX9_more_58 rfl ?_
      refine r_iload C 5 dX9_more_59 rfl ?_
      refine r_aload_n C 0 dX9_more_61 rfl ?_
      refine r_iload C 6 dX9_more_62 rfl ?_
      refine r_callV (As := [.int x6]) (rest := [.int x5, .ref h0]) C (c_X9_dropOf _ E n h0 x6 th0) dX9_more_64 ml_X9_257 mv_X9_dropOf ⟨TX9, _, rfl⟩ (by decide) th0 rfl rfl ⟨by decide, by decide⟩ (Nat.le_of_ble_eq_true rfl) (fun v3 S2 hv3 => ?_)
      refine r_aload_n C 0 dX9_more_67 rfl ?_
      refine r_iload C 6 dX9_more_68 rfl ?_
      refine r_iload_n C 3 dX9_more_70 rfl ?_
      refine r_callV (As := [.int x6, .int x3]) (rest := [.int v3, .int x5, .ref h0]) C (c_X9_stepsOf _ E n h0 x6 x3 th0) dX9_more_71 ml_X9_260 mv_X9_stepsOf ⟨TX9, _, rfl⟩ (by decide) th0 rfl rfl ⟨by decide, by decide⟩ (Nat.le_of_ble_eq_true rfl) (fun v5 S4 hv5 => ?_)
      refine r_iload C 4 dX9_more_74 rfl ?_
      refine r_iadd C dX9_more_76 ?_
      refine r_callS (As := [.int v3, .int (v5 + x4)]) (rest := [.int x5, .ref h0]) C (c_X9_leapBy _ E n v3 (v5 + x4) ) dX9_more_77 ml_X9_263 mv_X9_leapBy rfl rfl ⟨by decide, by decide⟩ (Nat.le_of_ble_eq_true rfl) (fun v7 S6 hv7 => ?_)
      refine r_aload_n C 0 dX9_more_80 rfl ?_
      refine r_iload_n C 1 dX9_more_81 rfl ?_
      refine r_callV (As := [.int x1]) (rest := [.int v7, .int x5, .ref h0]) C (c_X9_leapOf _ E n h0 x1 th0) dX9_more_82 ml_X9_332 mv_X9_leapOf ⟨TX9, _, rfl⟩ (by decide) th0 rfl rfl ⟨by decide, by decide⟩ (Nat.le_of_ble_eq_true rfl) (fun v9 S8 hv9 => ?_)
      refine r_icmp_gt C 95 dX9_more_85 (by decide) ?_ ?_
      · refine r_iconst C (0 : Int32) dX9_more_95 (by decide) ?_
        exact p_X9_more_J96 C X ih S8 h0 x1 x2 x3 x4 x5 x6 h0 x5 (0 : Int32) th0 th0
      · refine r_iconst C (1 : Int32) dX9_more_88 (by decide) ?_
        refine r_iload C 6 dX9_more_89 rfl ?_
        refine r_ishl C dX9_more_91 ?_
        refine r_goto C 96 dX9_more_92 (by decide) ?_
        exact p_X9_more_J96 C X ih S8 h0 x1 x2 x3 x4 x5 x6 h0 x5 ((1 : Int32) <<< (x6 &&& 31)) th0 th0
