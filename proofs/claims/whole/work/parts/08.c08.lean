/-! THE CONTRACTS, by program -/
set_option maxRecDepth 100000 in
set_option maxHeartbeats 4000000 in
theorem c_X0_aimAt (l : Launch) (E : EN) (n : Nat) (h0 : Nat) (h1 : Nat) (x2 : Int32) (x3 : Int32) (x4 : Int32) (x5 : Int32) (th0 : Ty E h0 0) (th1 : Ty E h1 2) : CT l E yX0_aimAt cX0_aimAt 9 none 2 43 wV tT [.ref h0, .ref h1, .int x2, .int x3, .int x4, .int x5] (fun S => f_X0_aimAt E n S h0 h1 x2 x3 x4 x5) := by
  refine ct_of RX0 (by decide +kernel) rfl [(0, .ref h0), (1, .ref h1), (2, .int x2), (3, .int x3), (4, .int x4), (5, .int x5)] rfl (Nat.le_of_ble_eq_true rfl) (fun A S hA C X => ?_)
  subst hA
  show Gd A E 9 (QM A E wV tT) (f_X0_aimAt E n S h0 h1 x2 x3 x4 x5) S 0 [(0, .ref h0), (1, .ref h1), (2, .int x2), (3, .int x3), (4, .int x4), (5, .int x5)] []
  unfold f_X0_aimAt
  refine r_aload_n C 0 dX0_aimAt_0 rfl ?_
  refine r_aload_n C 1 dX0_aimAt_1 rfl ?_
  refine r_putr C fl_X0_12 dX0_aimAt_2 th0 th1 rfl rfl (fun S1 => ?_)
  refine r_aload_n C 0 dX0_aimAt_5 rfl ?_
  refine r_iload_n C 2 dX0_aimAt_6 rfl ?_
  refine r_puti C fl_X0_26 dX0_aimAt_7 th0 (fun S2 => ?_)
  refine r_aload_n C 0 dX0_aimAt_10 rfl ?_
  refine r_iload_n C 3 dX0_aimAt_11 rfl ?_
  refine r_puti C fl_X0_30 dX0_aimAt_12 th0 (fun S3 => ?_)
  refine r_aload_n C 0 dX0_aimAt_15 rfl ?_
  refine r_iload C 4 dX0_aimAt_16 rfl ?_
  refine r_puti C fl_X0_33 dX0_aimAt_18 th0 (fun S4 => ?_)
  refine r_aload_n C 0 dX0_aimAt_21 rfl ?_
  refine r_iload C 5 dX0_aimAt_22 rfl ?_
  refine r_puti C fl_X0_36 dX0_aimAt_24 th0 (fun S5 => ?_)
  refine r_aload_n C 0 dX0_aimAt_27 rfl ?_
  refine r_getr C fl_X0_22 dX0_aimAt_28 th0 (fun b6 tb6 => ?_)
  refine r_iconst C (0 : Int32) dX0_aimAt_31 (by decide) ?_
  refine r_callS (As := [.ref b6, .int (0 : Int32)]) (rest := []) C (c_J7_fill_031fb _ E n b6 (0 : Int32) tb6) dX0_aimAt_32 ml_X0_39 mv_J7_fill_031fb rfl rfl ⟨by decide, by decide⟩ (Nat.le_of_ble_eq_true rfl) (fun v8 S7 hv8 => ?_)
  refine r_iload_n C 2 dX0_aimAt_35 rfl ?_
  refine r_istore C [(6, .int x2), (0, .ref h0), (1, .ref h1), (2, .int x2), (3, .int x3), (4, .int x4), (5, .int x5)] dX0_aimAt_36 (by decide) rfl ?_
  refine r_sub [1, 4, 0] [(0, .ref h0), (3, .int x3), (6, .int x2)] rfl ?_
  exact p_X0_aimAt_L38 C X  n S7 h0 x3 x2 th0
set_option maxRecDepth 100000 in
set_option maxHeartbeats 4000000 in
theorem c_X0_addedBy (l : Launch) (E : EN) (n : Nat) (h0 : Nat) (h1 : Nat) (x2 : Int32) (x3 : Int32) (th0 : Ty E h0 0) (th1 : Ty E h1 2) : CT l E yX0_addedBy cX0_addedBy 5 (some .long) 1 24 wJ tT [.ref h0, .ref h1, .int x2, .int x3] (fun S => f_X0_addedBy E n S h0 h1 x2 x3) := by
  refine ct_of RX0 (by decide +kernel) rfl [(0, .ref h0), (1, .ref h1), (2, .int x2), (3, .int x3)] rfl (Nat.le_of_ble_eq_true rfl) (fun A S hA C X => ?_)
  subst hA
  show Gd A E 5 (QM A E wJ tT) (f_X0_addedBy E n S h0 h1 x2 x3) S 0 [(0, .ref h0), (1, .ref h1), (2, .int x2), (3, .int x3)] []
  unfold f_X0_addedBy
  refine r_aload_n C 1 dX0_addedBy_0 rfl ?_
  refine r_getr C fl_X0_60 dX0_addedBy_1 th1 (fun b1 tb1 => ?_)
  refine r_iload_n C 3 dX0_addedBy_4 rfl ?_
  refine r_iald C dX0_addedBy_5 tb1 ?_
  refine r_topi (fun y2 => ?_)
  refine r_istore C [(4, .int y2), (0, .ref h0), (1, .ref h1), (2, .int x2), (3, .int x3)] dX0_addedBy_6 (by decide) rfl ?_
  refine r_aload_n C 2 dX0_addedBy_8 rfl ?_
  refine r_iload_n C 3 dX0_addedBy_9 rfl ?_
  refine r_iload_n C 4 dX0_addedBy_10 rfl ?_
  refine r_iload C 0 dX0_addedBy_11 rfl ?_
  refine r_aload_n C 1 dX0_addedBy_13 rfl ?_
  refine r_geti C fl_X0_36 dX0_addedBy_14 th0 ?_
  refine r_callV (As := [.int x2, .int x3, .int y2, .int (gi S 4 h0)]) (rest := []) C (c_X3_wouldStep _ E n h1 x2 x3 y2 (gi S 4 h0) th1) dX0_addedBy_17 ml_X0_63 mv_X3_wouldStep ⟨TX3, _, rfl⟩ (by decide) th1 rfl rfl ⟨by decide, by decide⟩ (Nat.le_of_ble_eq_true rfl) (fun v4 S3 hv4 => ?_)
  refine r_if_eq C 32 dX0_addedBy_20 (by decide) ?_ ?_
  · refine r_lconst C (0 : Int64) dX0_addedBy_32 (by decide) ?_
    exact r_lreturn C X dX0_addedBy_33
  · refine r_lconst C (1 : Int64) dX0_addedBy_23 (by decide) ?_
    refine r_iload C 0 dX0_addedBy_24 rfl ?_
    refine r_iconst C (3 : Int32) dX0_addedBy_26 (by decide) ?_
    refine r_imul C dX0_addedBy_27 ?_
    refine r_lshl C dX0_addedBy_28 ?_
    refine r_goto C 33 dX0_addedBy_29 (by decide) ?_
    exact r_lreturn C X dX0_addedBy_33
set_option maxRecDepth 100000 in
set_option maxHeartbeats 4000000 in
theorem p_X0_allCome_L19 {A : AM} {E : EN} {n : Nat} (C : Cx A E cX0_allCome 7 RX0 1 27) (X : Ex A E (some .boolean)) {k5 : WS → Nat → Int64 → Int32 → Option (Int32 × WS)} (hk5 : ∀ (S : WS) (h0 : Nat) (x1 : Int64) (x3 : Int32) (_ : Ty E h0 0), Gd A E 7 (QM A E wI tT) (k5 S h0 x1 x3) S 5 [(0, .ref h0), (1, .long x1), (3, .int x3)] []) : ∀ (m : Nat) (S : WS) (h0 : Nat) (x1 : Int64) (x3 : Int32) (x4 : Int32) (x5 : Int32) (th0 : Ty E h0 0), Gd A E 7 (QM A E wI tT) (f_X0_allCome_L19 E n k5 m S h0 x1 x3 x4 x5) S 19 [(0, .ref h0), (1, .long x1), (3, .int x3), (4, .int x4), (5, .int x5)] [] := by
  intro m
  induction m with
  | zero => intros; exact gn
  | succ m ih =>
    intro S h0 x1 x3 x4 x5 th0
    unfold f_X0_allCome_L19
    refine r_iload C 4 dX0_allCome_19 rfl ?_
    refine r_aload_n C 0 dX0_allCome_21 rfl ?_
    refine r_getr C fl_X0_12 dX0_allCome_22 th0 (fun b1 tb1 => ?_)
    refine r_geti C fl_X0_45 dX0_allCome_25 tb1 ?_
    refine r_icmp_ge C 73 dX0_allCome_28 (by decide) ?_ ?_
    · refine r_iload_n C 2 dX0_allCome_73 rfl ?_
      refine r_sipush C (1024 : Int32) dX0_allCome_74 (by decide) ?_
      refine r_imul C dX0_allCome_77 ?_
      refine r_iload C 3 dX0_allCome_78 rfl ?_
      refine r_iadd C dX0_allCome_80 ?_
      refine r_topi (fun y2 => ?_)
      refine r_istore C [(5, .int y2), (0, .ref h0), (1, .long x1), (3, .int x3), (4, .int x4)] dX0_allCome_81 (by decide) rfl ?_
      refine r_aload_n C 1 dX0_allCome_83 rfl ?_
      refine r_getr C fl_X0_22 dX0_allCome_84 th0 (fun b3 tb3 => ?_)
      refine r_iload C 0 dX0_allCome_87 rfl ?_
      refine r_bald C dX0_allCome_89 tb3 ?_
      refine r_if_ne C 139 dX0_allCome_90 (by decide) ?_ ?_
      · refine r_aload_n C 1 dX0_allCome_139 rfl ?_
        refine r_getr C fl_X0_22 dX0_allCome_140 th0 (fun b4 tb4 => ?_)
        refine r_iload C 0 dX0_allCome_143 rfl ?_
        refine r_bald C dX0_allCome_145 tb4 ?_
        refine r_iconst C (2 : Int32) dX0_allCome_146 (by decide) ?_
        refine r_icmp_ne C 152 dX0_allCome_147 (by decide) ?_ ?_
        · refine r_iinc C 3 (fun y5 => [(3, .int y5), (5, .int y2), (0, .ref h0), (1, .long x1), (4, .int x4)]) dX0_allCome_152 rfl (v := (1 : Int32)) (by decide) (by decide) (fun _ => rfl) (fun y5 => ?_)
          refine r_goto C 5 dX0_allCome_155 (by decide) ?_
          refine r_sub [2, 3, 0] [(0, .ref h0), (1, .long x1), (3, .int y5)] rfl ?_
          exact hk5 S h0 x1 y5 th0
        · refine r_iconst C (0 : Int32) dX0_allCome_150 (by decide) ?_
          exact r_zreturn C X rfl dX0_allCome_151
      · refine r_aload_n C 1 dX0_allCome_93 rfl ?_
        refine r_getr C fl_X0_12 dX0_allCome_94 th0 (fun b6 tb6 => ?_)
        refine r_aload_n C 1 dX0_allCome_97 rfl ?_
        refine r_getr C fl_X0_12 dX0_allCome_98 th0 (fun b7 tb7 => ?_)
        refine r_getr C fl_X0_73 dX0_allCome_101 tb7 (fun b8 tb8 => ?_)
        refine r_iload_n C 3 dX0_allCome_104 rfl ?_
        refine r_iald C dX0_allCome_105 tb8 ?_
        refine r_iload C 4 dX0_allCome_106 rfl ?_
        refine r_callV (As := [.int (ai S b8 x3.toNatClampNeg), .int x4]) (rest := []) C (c_X3_placesFrom _ E n b6 (ai S b8 x3.toNatClampNeg) x4 tb6) dX0_allCome_108 ml_X0_76 mv_X3_placesFrom ⟨TX3, _, rfl⟩ (by decide) tb6 rfl rfl ⟨by decide, by decide⟩ (Nat.le_of_ble_eq_true rfl) (fun v10 S9 hv10 => ?_)
        refine r_istore C [(6, .int v10), (5, .int y2), (0, .ref h0), (1, .long x1), (3, .int x3), (4, .int x4)] dX0_allCome_111 (by decide) rfl ?_
        refine r_aload_n C 2 dX0_allCome_113 rfl ?_
        refine r_getr C fl_X0_22 dX0_allCome_114 th0 (fun b11 tb11 => ?_)
        refine r_iload C 1 dX0_allCome_117 rfl ?_
        refine r_iload C 0 dX0_allCome_119 rfl ?_
        refine r_aload_n C 2 dX0_allCome_121 rfl ?_
        refine r_geti C fl_X0_33 dX0_allCome_122 th0 ?_
        refine r_ishr C dX0_allCome_125 ?_
        refine r_iconst C (1 : Int32) dX0_allCome_126 (by decide) ?_
        refine r_iand C dX0_allCome_127 ?_
        refine r_iconst C (1 : Int32) dX0_allCome_128 (by decide) ?_
        refine r_icmp_ne C 136 dX0_allCome_129 (by decide) ?_ ?_
        · refine r_iconst C (2 : Int32) dX0_allCome_136 (by decide) ?_
          refine r_i2b C dX0_allCome_137 ?_
          refine r_bast C dX0_allCome_138 tb11 (fun S12 => ?_)
          refine r_aload_n C 2 dX0_allCome_139 rfl ?_
          refine r_getr C fl_X0_22 dX0_allCome_140 th0 (fun b13 tb13 => ?_)
          refine r_iload C 1 dX0_allCome_143 rfl ?_
          refine r_bald C dX0_allCome_145 tb13 ?_
          refine r_iconst C (2 : Int32) dX0_allCome_146 (by decide) ?_
          refine r_icmp_ne C 152 dX0_allCome_147 (by decide) ?_ ?_
          · refine r_iinc C 4 (fun y14 => [(3, .int y14), (6, .int v10), (5, .int y2), (0, .ref h0), (1, .long x1), (4, .int x4)]) dX0_allCome_152 rfl (v := (1 : Int32)) (by decide) (by decide) (fun _ => rfl) (fun y14 => ?_)
            refine r_goto C 5 dX0_allCome_155 (by decide) ?_
            refine r_sub [3, 4, 0] [(0, .ref h0), (1, .long x1), (3, .int y14)] rfl ?_
            exact hk5 S12 h0 x1 y14 th0
          · refine r_iconst C (0 : Int32) dX0_allCome_150 (by decide) ?_
            exact r_zreturn C X rfl dX0_allCome_151
        · refine r_iconst C (1 : Int32) dX0_allCome_132 (by decide) ?_
          refine r_goto C 137 dX0_allCome_133 (by decide) ?_
          refine r_i2b C dX0_allCome_137 ?_
          refine r_bast C dX0_allCome_138 tb11 (fun S15 => ?_)
          refine r_aload_n C 2 dX0_allCome_139 rfl ?_
          refine r_getr C fl_X0_22 dX0_allCome_140 th0 (fun b16 tb16 => ?_)
          refine r_iload C 1 dX0_allCome_143 rfl ?_
          refine r_bald C dX0_allCome_145 tb16 ?_
          refine r_iconst C (2 : Int32) dX0_allCome_146 (by decide) ?_
          refine r_icmp_ne C 152 dX0_allCome_147 (by decide) ?_ ?_
          · refine r_iinc C 4 (fun y17 => [(3, .int y17), (6, .int v10), (5, .int y2), (0, .ref h0), (1, .long x1), (4, .int x4)]) dX0_allCome_152 rfl (v := (1 : Int32)) (by decide) (by decide) (fun _ => rfl) (fun y17 => ?_)
            refine r_goto C 5 dX0_allCome_155 (by decide) ?_
            refine r_sub [3, 4, 0] [(0, .ref h0), (1, .long x1), (3, .int y17)] rfl ?_
            exact hk5 S15 h0 x1 y17 th0
          · refine r_iconst C (0 : Int32) dX0_allCome_150 (by decide) ?_
            exact r_zreturn C X rfl dX0_allCome_151
    · refine r_lload_n C 1 dX0_allCome_31 rfl ?_
      refine r_iload C 4 dX0_allCome_32 rfl ?_
      refine r_iconst C (3 : Int32) dX0_allCome_34 (by decide) ?_
      refine r_imul C dX0_allCome_35 ?_
      refine r_lshr C dX0_allCome_36 ?_
      refine r_ldc2 C (7 : Int64) (mG 1057 (by decide +kernel) rfl) dX0_allCome_37 ?_
      refine r_land C dX0_allCome_40 ?_
      refine r_aload_n C 0 dX0_allCome_41 rfl ?_
      refine r_getr C fl_X0_18 dX0_allCome_42 th0 (fun b18 tb18 => ?_)
      refine r_iload_n C 2 dX0_allCome_45 rfl ?_
      refine r_bipush C (10 : Int32) dX0_allCome_46 (by decide) ?_
      refine r_imul C dX0_allCome_48 ?_
      refine r_iload C 4 dX0_allCome_49 rfl ?_
      refine r_iadd C dX0_allCome_51 ?_
      refine r_iald C dX0_allCome_52 tb18 ?_
      refine r_i2l C dX0_allCome_53 ?_
      refine r_lcmp C dX0_allCome_54 ?_
      refine r_if_lt C 67 dX0_allCome_55 (by decide) ?_ ?_
      · refine r_iinc C 4 (fun y19 => [(5, .int y19), (0, .ref h0), (1, .long x1), (3, .int x3), (4, .int x4)]) dX0_allCome_67 rfl (v := (1 : Int32)) (by decide) (by decide) (fun _ => rfl) (fun y19 => ?_)
        refine r_goto C 19 dX0_allCome_70 (by decide) ?_
        refine r_sub [1, 2, 3, 4, 0] [(0, .ref h0), (1, .long x1), (3, .int x3), (4, .int x4), (5, .int y19)] rfl ?_
        exact ih S h0 x1 x3 x4 y19 th0
      · refine r_iload C 3 dX0_allCome_58 rfl ?_
        refine r_iconst C (1 : Int32) dX0_allCome_60 (by decide) ?_
        refine r_iload C 4 dX0_allCome_61 rfl ?_
        refine r_ishl C dX0_allCome_63 ?_
        refine r_ior C dX0_allCome_64 ?_
        refine r_topi (fun y20 => ?_)
        refine r_istore C [(4, .int y20), (0, .ref h0), (1, .long x1), (3, .int x3), (5, .int x5)] dX0_allCome_65 (by decide) rfl ?_
        refine r_iinc C 4 (fun y21 => [(5, .int y21), (4, .int y20), (0, .ref h0), (1, .long x1), (3, .int x3)]) dX0_allCome_67 rfl (v := (1 : Int32)) (by decide) (by decide) (fun _ => rfl) (fun y21 => ?_)
        refine r_goto C 19 dX0_allCome_70 (by decide) ?_
        refine r_sub [2, 3, 4, 1, 0] [(0, .ref h0), (1, .long x1), (3, .int x3), (4, .int y20), (5, .int y21)] rfl ?_
        exact ih S h0 x1 x3 y20 y21 th0
set_option maxRecDepth 100000 in
set_option maxHeartbeats 4000000 in
theorem p_X0_allCome_L5 {A : AM} {E : EN} {n : Nat} (C : Cx A E cX0_allCome 7 RX0 1 27) (X : Ex A E (some .boolean))  : ∀ (m : Nat) (S : WS) (h0 : Nat) (x1 : Int64) (x3 : Int32) (th0 : Ty E h0 0), Gd A E 7 (QM A E wI tT) (f_X0_allCome_L5 E n  m S h0 x1 x3) S 5 [(0, .ref h0), (1, .long x1), (3, .int x3)] [] := by
  intro m
  induction m with
  | zero => intros; exact gn
  | succ m ih =>
    intro S h0 x1 x3 th0
    unfold f_X0_allCome_L5
    refine r_iload_n C 2 dX0_allCome_5 rfl ?_
    refine r_aload_n C 0 dX0_allCome_6 rfl ?_
    refine r_geti C fl_X0_30 dX0_allCome_7 th0 ?_
    refine r_icmp_ge C 158 dX0_allCome_10 (by decide) ?_ ?_
    · refine r_iconst C (1 : Int32) dX0_allCome_158 (by decide) ?_
      exact r_zreturn C X rfl dX0_allCome_159
    · refine r_iconst C (0 : Int32) dX0_allCome_13 (by decide) ?_
      refine r_istore C [(4, .int (0 : Int32)), (0, .ref h0), (1, .long x1), (3, .int x3)] dX0_allCome_14 (by decide) rfl ?_
      refine r_iconst C (0 : Int32) dX0_allCome_16 (by decide) ?_
      refine r_istore C [(5, .int (0 : Int32)), (4, .int (0 : Int32)), (0, .ref h0), (1, .long x1), (3, .int x3)] dX0_allCome_17 (by decide) rfl ?_
      refine r_sub [2, 3, 4, 1, 0] [(0, .ref h0), (1, .long x1), (3, .int x3), (4, .int (0 : Int32)), (5, .int (0 : Int32))] rfl ?_
      exact p_X0_allCome_L19 C X ih n S h0 x1 x3 (0 : Int32) (0 : Int32) th0
set_option maxRecDepth 100000 in
set_option maxHeartbeats 4000000 in
theorem c_X0_allCome (l : Launch) (E : EN) (n : Nat) (h0 : Nat) (x1 : Int64) (th0 : Ty E h0 0) : CT l E yX0_allCome cX0_allCome 7 (some .boolean) 1 27 wI tT [.ref h0, .long x1] (fun S => f_X0_allCome E n S h0 x1) := by
  refine ct_of RX0 (by decide +kernel) rfl [(0, .ref h0), (1, .long x1)] rfl (Nat.le_of_ble_eq_true rfl) (fun A S hA C X => ?_)
  subst hA
  show Gd A E 7 (QM A E wI tT) (f_X0_allCome E n S h0 x1) S 0 [(0, .ref h0), (1, .long x1)] []
  unfold f_X0_allCome
  refine r_aload_n C 0 dX0_allCome_0 rfl ?_
  refine r_geti C fl_X0_26 dX0_allCome_1 th0 ?_
  refine r_topi (fun y1 => ?_)
  refine r_istore_n C [(3, .int y1), (0, .ref h0), (1, .long x1)] dX0_allCome_4 (by decide) rfl ?_
  refine r_sub [1, 2, 0] [(0, .ref h0), (1, .long x1), (3, .int y1)] rfl ?_
  exact p_X0_allCome_L5 C X  n S h0 x1 y1 th0
set_option maxRecDepth 100000 in
set_option maxHeartbeats 4000000 in
theorem p_X2_takeOver_L64 {A : AM} {E : EN} {n : Nat} (C : Cx A E cX2_takeOver 5 RX2 2 42) (X : Ex A E none) {k15 : WS → Nat → Nat → Nat → Int32 → Option (Unit × WS)} (hk15 : ∀ (S : WS) (h0 : Nat) (h1 : Nat) (h2 : Nat) (x3 : Int32) (_ : Ty E h0 1) (_ : Ty E h1 2) (_ : Ty E h2 5), Gd A E 5 (QM A E wV tT) (k15 S h0 h1 h2 x3) S 15 [(0, .ref h0), (1, .ref h1), (2, .ref h2), (3, .int x3)] []) : ∀ (m : Nat) (S : WS) (h0 : Nat) (h1 : Nat) (h2 : Nat) (x3 : Int32) (x4 : Int32) (th0 : Ty E h0 1) (th1 : Ty E h1 2) (th2 : Ty E h2 5), Gd A E 5 (QM A E wV tT) (f_X2_takeOver_L64 E n k15 m S h0 h1 h2 x3 x4) S 64 [(0, .ref h0), (1, .ref h1), (2, .ref h2), (3, .int x3), (4, .int x4)] [] := by
  intro m
  induction m with
  | zero => intros; exact gn
  | succ m ih =>
    intro S h0 h1 h2 x3 x4 th0 th1 th2
    unfold f_X2_takeOver_L64
    refine r_iload C 4 dX2_takeOver_64 rfl ?_
    refine r_if_lt C 127 dX2_takeOver_66 (by decide) ?_ ?_
    · refine r_iinc C 3 (fun y1 => [(3, .int y1), (0, .ref h0), (1, .ref h1), (2, .ref h2), (4, .int x4)]) dX2_takeOver_127 rfl (v := (1 : Int32)) (by decide) (by decide) (fun _ => rfl) (fun y1 => ?_)
      refine r_goto C 15 dX2_takeOver_130 (by decide) ?_
      refine r_sub [1, 2, 3, 0] [(0, .ref h0), (1, .ref h1), (2, .ref h2), (3, .int y1)] rfl ?_
      exact hk15 S h0 h1 h2 y1 th0 th1 th2
    · refine r_aload_n C 1 dX2_takeOver_69 rfl ?_
      refine r_aload_n C 0 dX2_takeOver_70 rfl ?_
      refine r_getr C fl_X2_11 dX2_takeOver_71 th0 (fun b2 tb2 => ?_)
      refine r_iload_n C 3 dX2_takeOver_74 rfl ?_
      refine r_iald C dX2_takeOver_75 tb2 ?_
      refine r_callV (As := [.int (ai S b2 x3.toNatClampNeg)]) (rest := []) C (c_X3_dropOf _ E n h1 (ai S b2 x3.toNatClampNeg) th1) dX2_takeOver_76 ml_X2_46 mv_X3_dropOf ⟨TX3, _, rfl⟩ (by decide) th1 rfl rfl ⟨by decide, by decide⟩ (Nat.le_of_ble_eq_true rfl) (fun v4 S3 hv4 => ?_)
      refine r_iload C 4 dX2_takeOver_79 rfl ?_
      refine r_iconst C (1 : Int32) dX2_takeOver_81 (by decide) ?_
      refine r_iadd C dX2_takeOver_82 ?_
      refine r_callS (As := [.int v4, .int (x4 + (1 : Int32))]) (rest := []) C (c_X8_roundedUp _ E n v4 (x4 + (1 : Int32)) ) dX2_takeOver_83 ml_X2_51 mv_X8_roundedUp rfl rfl ⟨by decide, by decide⟩ (Nat.le_of_ble_eq_true rfl) (fun v6 S5 hv6 => ?_)
      refine r_i2l C dX2_takeOver_86 ?_
      refine r_aload_n C 2 dX2_takeOver_87 rfl ?_
      refine r_iload_n C 3 dX2_takeOver_88 rfl ?_
      refine r_callV (As := [.int x3]) (rest := [.long (v6.toInt64)]) C (c_X6_leapTold _ E n h2 x3 th2) dX2_takeOver_89 ml_X2_54 mv_X6_leapTold ⟨TX6, _, rfl⟩ (by decide) th2 rfl rfl ⟨by decide, by decide⟩ (Nat.le_of_ble_eq_true rfl) (fun v8 S7 hv8 => ?_)
      refine r_lcmp C dX2_takeOver_92 ?_
      refine r_if_ne C 121 dX2_takeOver_93 (by decide) ?_ ?_
      · refine r_iinc C 4 (fun y9 => [(4, .int y9), (0, .ref h0), (1, .ref h1), (2, .ref h2), (3, .int x3)]) dX2_takeOver_121 rfl (v := (-1 : Int32)) (by decide) (by decide) (fun _ => rfl) (fun y9 => ?_)
        refine r_goto C 64 dX2_takeOver_124 (by decide) ?_
        refine r_sub [1, 2, 3, 4, 0] [(0, .ref h0), (1, .ref h1), (2, .ref h2), (3, .int x3), (4, .int y9)] rfl ?_
        exact ih S7 h0 h1 h2 x3 y9 th0 th1 th2
      · refine r_aload_n C 0 dX2_takeOver_96 rfl ?_
        refine r_getr C fl_X2_18 dX2_takeOver_97 th0 (fun b10 tb10 => ?_)
        refine r_iload_n C 3 dX2_takeOver_100 rfl ?_
        refine r_iload C 4 dX2_takeOver_101 rfl ?_
        refine r_iast C dX2_takeOver_103 tb10 (fun S11 => ?_)
        refine r_aload_n C 0 dX2_takeOver_104 rfl ?_
        refine r_getr C fl_X2_21 dX2_takeOver_105 th0 (fun b12 tb12 => ?_)
        refine r_iload_n C 3 dX2_takeOver_108 rfl ?_
        refine r_aload_n C 0 dX2_takeOver_109 rfl ?_
        refine r_getr C fl_X2_21 dX2_takeOver_110 th0 (fun b13 tb13 => ?_)
        refine r_iload_n C 3 dX2_takeOver_113 rfl ?_
        refine r_iald C dX2_takeOver_114 tb13 ?_
        refine r_iload C 4 dX2_takeOver_115 rfl ?_
        refine r_mmax C (mG 1133 (by decide +kernel) rfl) mmax_w ⟨by decide, by decide⟩ (Nat.le_of_ble_eq_true rfl) dX2_takeOver_117 ?_
        refine r_iast C dX2_takeOver_120 tb12 (fun S14 => ?_)
        refine r_iinc C 4 (fun y15 => [(4, .int y15), (0, .ref h0), (1, .ref h1), (2, .ref h2), (3, .int x3)]) dX2_takeOver_121 rfl (v := (-1 : Int32)) (by decide) (by decide) (fun _ => rfl) (fun y15 => ?_)
        refine r_goto C 64 dX2_takeOver_124 (by decide) ?_
        refine r_sub [1, 2, 3, 4, 0] [(0, .ref h0), (1, .ref h1), (2, .ref h2), (3, .int x3), (4, .int y15)] rfl ?_
        exact ih S14 h0 h1 h2 x3 y15 th0 th1 th2
set_option maxRecDepth 100000 in
set_option maxHeartbeats 4000000 in
theorem p_X2_takeOver_L15 {A : AM} {E : EN} {n : Nat} (C : Cx A E cX2_takeOver 5 RX2 2 42) (X : Ex A E none)  : ∀ (m : Nat) (S : WS) (h0 : Nat) (h1 : Nat) (h2 : Nat) (x3 : Int32) (th0 : Ty E h0 1) (th1 : Ty E h1 2) (th2 : Ty E h2 5), Gd A E 5 (QM A E wV tT) (f_X2_takeOver_L15 E n  m S h0 h1 h2 x3) S 15 [(0, .ref h0), (1, .ref h1), (2, .ref h2), (3, .int x3)] [] := by
  intro m
  induction m with
  | zero => intros; exact gn
  | succ m ih =>
    intro S h0 h1 h2 x3 th0 th1 th2
    unfold f_X2_takeOver_L15
    refine r_iload_n C 3 dX2_takeOver_15 rfl ?_
    refine r_aload_n C 0 dX2_takeOver_16 rfl ?_
    refine r_geti C fl_X2_36 dX2_takeOver_17 th0 ?_
    refine r_icmp_ge C 133 dX2_takeOver_20 (by decide) ?_ ?_
    · exact r_return C X dX2_takeOver_133
    · refine r_aload_n C 0 dX2_takeOver_23 rfl ?_
      refine r_getr C fl_X2_11 dX2_takeOver_24 th0 (fun b1 tb1 => ?_)
      refine r_iload_n C 3 dX2_takeOver_27 rfl ?_
      refine r_aload_n C 2 dX2_takeOver_28 rfl ?_
      refine r_iload_n C 3 dX2_takeOver_29 rfl ?_
      refine r_callV (As := [.int x3]) (rest := [.int x3, .ref b1]) C (c_X6_pathOf _ E n h2 x3 th2) dX2_takeOver_30 ml_X2_39 mv_X6_pathOf ⟨TX6, _, rfl⟩ (by decide) th2 rfl rfl ⟨by decide, by decide⟩ (Nat.le_of_ble_eq_true rfl) (fun v3 S2 hv3 => ?_)
      refine r_iast C dX2_takeOver_33 tb1 (fun S4 => ?_)
      refine r_aload_n C 0 dX2_takeOver_34 rfl ?_
      refine r_getr C fl_X2_15 dX2_takeOver_35 th0 (fun b5 tb5 => ?_)
      refine r_iload_n C 3 dX2_takeOver_38 rfl ?_
      refine r_aload_n C 2 dX2_takeOver_39 rfl ?_
      refine r_iload_n C 3 dX2_takeOver_40 rfl ?_
      refine r_callV (As := [.int x3]) (rest := [.int x3, .ref b5]) C (c_X6_yearOf _ E n h2 x3 th2) dX2_takeOver_41 ml_X2_43 mv_X6_yearOf ⟨TX6, _, rfl⟩ (by decide) th2 rfl rfl ⟨by decide, by decide⟩ (Nat.le_of_ble_eq_true rfl) (fun v7 S6 hv7 => ?_)
      refine r_iast C dX2_takeOver_44 tb5 (fun S8 => ?_)
      refine r_aload_n C 0 dX2_takeOver_45 rfl ?_
      refine r_getr C fl_X2_18 dX2_takeOver_46 th0 (fun b9 tb9 => ?_)
      refine r_iload_n C 3 dX2_takeOver_49 rfl ?_
      refine r_bipush C (8 : Int32) dX2_takeOver_50 (by decide) ?_
      refine r_iast C dX2_takeOver_52 tb9 (fun S10 => ?_)
      refine r_aload_n C 0 dX2_takeOver_53 rfl ?_
      refine r_getr C fl_X2_21 dX2_takeOver_54 th0 (fun b11 tb11 => ?_)
      refine r_iload_n C 3 dX2_takeOver_57 rfl ?_
      refine r_iconst C (-1 : Int32) dX2_takeOver_58 (by decide) ?_
      refine r_iast C dX2_takeOver_59 tb11 (fun S12 => ?_)
      refine r_bipush C (7 : Int32) dX2_takeOver_60 (by decide) ?_
      refine r_istore C [(4, .int (7 : Int32)), (0, .ref h0), (1, .ref h1), (2, .ref h2), (3, .int x3)] dX2_takeOver_62 (by decide) rfl ?_
      refine r_sub [1, 2, 3, 4, 0] [(0, .ref h0), (1, .ref h1), (2, .ref h2), (3, .int x3), (4, .int (7 : Int32))] rfl ?_
      exact p_X2_takeOver_L64 C X ih n S12 h0 h1 h2 x3 (7 : Int32) th0 th1 th2
set_option maxRecDepth 100000 in
set_option maxHeartbeats 4000000 in
theorem c_X2_takeOver (l : Launch) (E : EN) (n : Nat) (h0 : Nat) (h1 : Nat) (h2 : Nat) (th0 : Ty E h0 1) (th1 : Ty E h1 2) (th2 : Ty E h2 5) : CT l E yX2_takeOver cX2_takeOver 5 none 2 42 wV tT [.ref h0, .ref h1, .ref h2] (fun S => f_X2_takeOver E n S h0 h1 h2) := by
  refine ct_of RX2 (by decide +kernel) rfl [(0, .ref h0), (1, .ref h1), (2, .ref h2)] rfl (Nat.le_of_ble_eq_true rfl) (fun A S hA C X => ?_)
  subst hA
  show Gd A E 5 (QM A E wV tT) (f_X2_takeOver E n S h0 h1 h2) S 0 [(0, .ref h0), (1, .ref h1), (2, .ref h2)] []
  unfold f_X2_takeOver
  refine r_aload_n C 0 dX2_takeOver_0 rfl ?_
  refine r_aload_n C 2 dX2_takeOver_1 rfl ?_
  refine r_callV (As := []) (rest := [.ref h0]) C (c_X6_measures _ E n h2 th2) dX2_takeOver_2 ml_X2_24 mv_X6_measures ⟨TX6, _, rfl⟩ (by decide) th2 rfl rfl ⟨by decide, by decide⟩ (Nat.le_of_ble_eq_true rfl) (fun v2 S1 hv2 => ?_)
  refine r_bipush C (20 : Int32) dX2_takeOver_5 (by decide) ?_
  refine r_mmin C (mG 1118 (by decide +kernel) rfl) mmin_w ⟨by decide, by decide⟩ (Nat.le_of_ble_eq_true rfl) dX2_takeOver_7 ?_
  refine r_puti C fl_X2_36 dX2_takeOver_10 th0 (fun S3 => ?_)
  refine r_iconst C (0 : Int32) dX2_takeOver_13 (by decide) ?_
  refine r_istore_n C [(3, .int (0 : Int32)), (0, .ref h0), (1, .ref h1), (2, .ref h2)] dX2_takeOver_14 (by decide) rfl ?_
  refine r_sub [1, 2, 3, 0] [(0, .ref h0), (1, .ref h1), (2, .ref h2), (3, .int (0 : Int32))] rfl ?_
  exact p_X2_takeOver_L15 C X  n S3 h0 h1 h2 (0 : Int32) th0 th1 th2
set_option maxRecDepth 100000 in
set_option maxHeartbeats 4000000 in
theorem p_X2_addedBy_L6 {A : AM} {E : EN} {n : Nat} (C : Cx A E cX2_addedBy 7 RX2 1 24) (X : Ex A E (some .long))  : ∀ (m : Nat) (S : WS) (h0 : Nat) (h1 : Nat) (x2 : Int32) (x3 : Int32) (x4 : Int64) (x6 : Int32) (th0 : Ty E h0 1) (th1 : Ty E h1 2), Gd A E 7 (QM A E wJ tT) (f_X2_addedBy_L6 E n  m S h0 h1 x2 x3 x4 x6) S 6 [(0, .ref h0), (1, .ref h1), (2, .int x2), (3, .int x3), (4, .long x4), (6, .int x6)] [] := by
  intro m
  induction m with
  | zero => intros; exact gn
  | succ m ih =>
    intro S h0 h1 x2 x3 x4 x6 th0 th1
    unfold f_X2_addedBy_L6
    refine r_iload C 5 dX2_addedBy_6 rfl ?_
    refine r_aload_n C 0 dX2_addedBy_8 rfl ?_
    refine r_geti C fl_X2_36 dX2_addedBy_9 th0 ?_
    refine r_icmp_ge C 55 dX2_addedBy_12 (by decide) ?_ ?_
    · refine r_lload C 4 dX2_addedBy_55 rfl ?_
      exact r_lreturn C X dX2_addedBy_57
    · refine r_aload_n C 1 dX2_addedBy_15 rfl ?_
      refine r_iload_n C 2 dX2_addedBy_16 rfl ?_
      refine r_iload_n C 3 dX2_addedBy_17 rfl ?_
      refine r_aload_n C 0 dX2_addedBy_18 rfl ?_
      refine r_getr C fl_X2_11 dX2_addedBy_19 th0 (fun b1 tb1 => ?_)
      refine r_iload C 5 dX2_addedBy_22 rfl ?_
      refine r_iald C dX2_addedBy_24 tb1 ?_
      refine r_aload_n C 0 dX2_addedBy_25 rfl ?_
      refine r_getr C fl_X2_15 dX2_addedBy_26 th0 (fun b2 tb2 => ?_)
      refine r_iload C 5 dX2_addedBy_29 rfl ?_
      refine r_iald C dX2_addedBy_31 tb2 ?_
      refine r_callV (As := [.int x2, .int x3, .int (ai S b1 x6.toNatClampNeg), .int (ai S b2 x6.toNatClampNeg)]) (rest := []) C (c_X3_wouldStep _ E n h1 x2 x3 (ai S b1 x6.toNatClampNeg) (ai S b2 x6.toNatClampNeg) th1) dX2_addedBy_32 ml_X2_61 mv_X3_wouldStep ⟨TX3, _, rfl⟩ (by decide) th1 rfl rfl ⟨by decide, by decide⟩ (Nat.le_of_ble_eq_true rfl) (fun v4 S3 hv4 => ?_)
      refine r_if_eq C 49 dX2_addedBy_35 (by decide) ?_ ?_
      · refine r_iinc C 5 (fun y5 => [(6, .int y5), (0, .ref h0), (1, .ref h1), (2, .int x2), (3, .int x3), (4, .long x4)]) dX2_addedBy_49 rfl (v := (1 : Int32)) (by decide) (by decide) (fun _ => rfl) (fun y5 => ?_)
        refine r_goto C 6 dX2_addedBy_52 (by decide) ?_
        refine r_sub [1, 2, 3, 4, 5, 0] [(0, .ref h0), (1, .ref h1), (2, .int x2), (3, .int x3), (4, .long x4), (6, .int y5)] rfl ?_
        exact ih S3 h0 h1 x2 x3 x4 y5 th0 th1
      · refine r_lload C 4 dX2_addedBy_38 rfl ?_
        refine r_lconst C (1 : Int64) dX2_addedBy_40 (by decide) ?_
        refine r_iload C 5 dX2_addedBy_41 rfl ?_
        refine r_iconst C (3 : Int32) dX2_addedBy_43 (by decide) ?_
        refine r_imul C dX2_addedBy_44 ?_
        refine r_lshl C dX2_addedBy_45 ?_
        refine r_lor C dX2_addedBy_46 ?_
        refine r_topl (fun y6 => ?_)
        refine r_lstore C [(4, .long y6), (0, .ref h0), (1, .ref h1), (2, .int x2), (3, .int x3), (6, .int x6)] dX2_addedBy_47 (by decide) rfl ?_
        refine r_iinc C 5 (fun y7 => [(6, .int y7), (4, .long y6), (0, .ref h0), (1, .ref h1), (2, .int x2), (3, .int x3)]) dX2_addedBy_49 rfl (v := (1 : Int32)) (by decide) (by decide) (fun _ => rfl) (fun y7 => ?_)
        refine r_goto C 6 dX2_addedBy_52 (by decide) ?_
        refine r_sub [2, 3, 4, 5, 1, 0] [(0, .ref h0), (1, .ref h1), (2, .int x2), (3, .int x3), (4, .long y6), (6, .int y7)] rfl ?_
        exact ih S3 h0 h1 x2 x3 y6 y7 th0 th1
set_option maxRecDepth 100000 in
set_option maxHeartbeats 4000000 in
theorem c_X2_addedBy (l : Launch) (E : EN) (n : Nat) (h0 : Nat) (h1 : Nat) (x2 : Int32) (x3 : Int32) (th0 : Ty E h0 1) (th1 : Ty E h1 2) : CT l E yX2_addedBy cX2_addedBy 7 (some .long) 1 24 wJ tT [.ref h0, .ref h1, .int x2, .int x3] (fun S => f_X2_addedBy E n S h0 h1 x2 x3) := by
  refine ct_of RX2 (by decide +kernel) rfl [(0, .ref h0), (1, .ref h1), (2, .int x2), (3, .int x3)] rfl (Nat.le_of_ble_eq_true rfl) (fun A S hA C X => ?_)
  subst hA
  show Gd A E 7 (QM A E wJ tT) (f_X2_addedBy E n S h0 h1 x2 x3) S 0 [(0, .ref h0), (1, .ref h1), (2, .int x2), (3, .int x3)] []
  unfold f_X2_addedBy
  refine r_lconst C (0 : Int64) dX2_addedBy_0 (by decide) ?_
  refine r_lstore C [(4, .long (0 : Int64)), (0, .ref h0), (1, .ref h1), (2, .int x2), (3, .int x3)] dX2_addedBy_1 (by decide) rfl ?_
  refine r_iconst C (0 : Int32) dX2_addedBy_3 (by decide) ?_
  refine r_istore C [(6, .int (0 : Int32)), (4, .long (0 : Int64)), (0, .ref h0), (1, .ref h1), (2, .int x2), (3, .int x3)] dX2_addedBy_4 (by decide) rfl ?_
  refine r_sub [2, 3, 4, 5, 1, 0] [(0, .ref h0), (1, .ref h1), (2, .int x2), (3, .int x3), (4, .long (0 : Int64)), (6, .int (0 : Int32))] rfl ?_
  exact p_X2_addedBy_L6 C X  n S h0 h1 x2 x3 (0 : Int64) (0 : Int32) th0 th1
set_option maxRecDepth 100000 in
set_option maxHeartbeats 4000000 in
theorem c_X3_clearAll (l : Launch) (E : EN) (n : Nat) (h0 : Nat) (th0 : Ty E h0 2) : CT l E yX3_clearAll cX3_clearAll 1 none 1 23 wV tT [.ref h0] (fun S => f_X3_clearAll E n S h0) := by
  refine ct_of RX3 (by decide +kernel) rfl [(0, .ref h0)] rfl (Nat.le_of_ble_eq_true rfl) (fun A S hA C X => ?_)
  subst hA
  show Gd A E 1 (QM A E wV tT) (f_X3_clearAll E n S h0) S 0 [(0, .ref h0)] []
  unfold f_X3_clearAll
  refine r_aload_n C 0 dX3_clearAll_0 rfl ?_
  refine r_iconst C (0 : Int32) dX3_clearAll_1 (by decide) ?_
  refine r_puti C fl_X3_48 dX3_clearAll_2 th0 (fun S1 => ?_)
  refine r_aload_n C 0 dX3_clearAll_5 rfl ?_
  refine r_iconst C (0 : Int32) dX3_clearAll_6 (by decide) ?_
  refine r_puti C fl_X3_52 dX3_clearAll_7 th0 (fun S2 => ?_)
  refine r_aload_n C 0 dX3_clearAll_10 rfl ?_
  refine r_iconst C (0 : Int32) dX3_clearAll_11 (by decide) ?_
  refine r_puti C fl_X3_55 dX3_clearAll_12 th0 (fun S3 => ?_)
  refine r_aload_n C 0 dX3_clearAll_15 rfl ?_
  refine r_iconst C (0 : Int32) dX3_clearAll_16 (by decide) ?_
  refine r_puti C fl_X3_58 dX3_clearAll_17 th0 (fun S4 => ?_)
  refine r_aload_n C 0 dX3_clearAll_20 rfl ?_
  refine r_iconst C (0 : Int32) dX3_clearAll_21 (by decide) ?_
  refine r_puti C fl_X3_61 dX3_clearAll_22 th0 (fun S5 => ?_)
  refine r_aload_n C 0 dX3_clearAll_25 rfl ?_
  refine r_iconst C (0 : Int32) dX3_clearAll_26 (by decide) ?_
  refine r_puti C fl_X3_64 dX3_clearAll_27 th0 (fun S6 => ?_)
  refine r_aload_n C 0 dX3_clearAll_30 rfl ?_
  refine r_iconst C (0 : Int32) dX3_clearAll_31 (by decide) ?_
  refine r_puti C fl_X3_67 dX3_clearAll_32 th0 (fun S7 => ?_)
  refine r_aload_n C 0 dX3_clearAll_35 rfl ?_
  refine r_getr C fl_X3_9 dX3_clearAll_36 th0 (fun b8 tb8 => ?_)
  refine r_iconst C (0 : Int32) dX3_clearAll_39 (by decide) ?_
  refine r_callS (As := [.ref b8, .int (0 : Int32)]) (rest := []) C (c_J7_fill_53178 _ E n b8 (0 : Int32) tb8) dX3_clearAll_40 ml_X3_70 mv_J7_fill_53178 rfl rfl ⟨by decide, by decide⟩ (Nat.le_of_ble_eq_true rfl) (fun v10 S9 hv10 => ?_)
  refine r_aload_n C 0 dX3_clearAll_43 rfl ?_
  refine r_getr C fl_X3_39 dX3_clearAll_44 th0 (fun b11 tb11 => ?_)
  refine r_iconst C (0 : Int32) dX3_clearAll_47 (by decide) ?_
  refine r_callS (As := [.ref b11, .int (0 : Int32)]) (rest := []) C (c_J7_fill_53178 _ E n b11 (0 : Int32) tb11) dX3_clearAll_48 ml_X3_70 mv_J7_fill_53178 rfl rfl ⟨by decide, by decide⟩ (Nat.le_of_ble_eq_true rfl) (fun v13 S12 hv13 => ?_)
  refine r_aload_n C 0 dX3_clearAll_51 rfl ?_
  refine r_getr C fl_X3_36 dX3_clearAll_52 th0 (fun b14 tb14 => ?_)
  refine r_iconst C (-1 : Int32) dX3_clearAll_55 (by decide) ?_
  refine r_callS (As := [.ref b14, .int (-1 : Int32)]) (rest := []) C (c_J7_fill_53178 _ E n b14 (-1 : Int32) tb14) dX3_clearAll_56 ml_X3_70 mv_J7_fill_53178 rfl rfl ⟨by decide, by decide⟩ (Nat.le_of_ble_eq_true rfl) (fun v16 S15 hv16 => ?_)
  exact r_return C X dX3_clearAll_59
set_option maxRecDepth 100000 in
set_option maxHeartbeats 4000000 in
theorem c_X3_takeFrom (l : Launch) (E : EN) (n : Nat) (h0 : Nat) (h1 : Nat) (th0 : Ty E h0 2) (th1 : Ty E h1 2) : CT l E yX3_takeFrom cX3_takeFrom 2 none 2 51 wV tT [.ref h0, .ref h1] (fun S => f_X3_takeFrom E n S h0 h1) := by
  refine ct_of RX3 (by decide +kernel) rfl [(0, .ref h0), (1, .ref h1)] rfl (Nat.le_of_ble_eq_true rfl) (fun A S hA C X => ?_)
  subst hA
  show Gd A E 2 (QM A E wV tT) (f_X3_takeFrom E n S h0 h1) S 0 [(0, .ref h0), (1, .ref h1)] []
  unfold f_X3_takeFrom
  refine r_aload_n C 0 dX3_takeFrom_0 rfl ?_
  refine r_aload_n C 1 dX3_takeFrom_1 rfl ?_
  refine r_geti C fl_X3_48 dX3_takeFrom_2 th1 ?_
  refine r_puti C fl_X3_48 dX3_takeFrom_5 th0 (fun S1 => ?_)
  refine r_aload_n C 0 dX3_takeFrom_8 rfl ?_
  refine r_aload_n C 1 dX3_takeFrom_9 rfl ?_
  refine r_geti C fl_X3_52 dX3_takeFrom_10 th1 ?_
  refine r_puti C fl_X3_52 dX3_takeFrom_13 th0 (fun S2 => ?_)
  refine r_aload_n C 0 dX3_takeFrom_16 rfl ?_
  refine r_aload_n C 1 dX3_takeFrom_17 rfl ?_
  refine r_geti C fl_X3_55 dX3_takeFrom_18 th1 ?_
  refine r_puti C fl_X3_55 dX3_takeFrom_21 th0 (fun S3 => ?_)
  refine r_aload_n C 0 dX3_takeFrom_24 rfl ?_
  refine r_aload_n C 1 dX3_takeFrom_25 rfl ?_
  refine r_geti C fl_X3_58 dX3_takeFrom_26 th1 ?_
  refine r_puti C fl_X3_58 dX3_takeFrom_29 th0 (fun S4 => ?_)
  refine r_aload_n C 0 dX3_takeFrom_32 rfl ?_
  refine r_aload_n C 1 dX3_takeFrom_33 rfl ?_
  refine r_geti C fl_X3_61 dX3_takeFrom_34 th1 ?_
  refine r_puti C fl_X3_61 dX3_takeFrom_37 th0 (fun S5 => ?_)
  refine r_aload_n C 0 dX3_takeFrom_40 rfl ?_
  refine r_aload_n C 1 dX3_takeFrom_41 rfl ?_
  refine r_geti C fl_X3_64 dX3_takeFrom_42 th1 ?_
  refine r_puti C fl_X3_64 dX3_takeFrom_45 th0 (fun S6 => ?_)
  refine r_aload_n C 0 dX3_takeFrom_48 rfl ?_
  refine r_aload_n C 1 dX3_takeFrom_49 rfl ?_
  refine r_geti C fl_X3_67 dX3_takeFrom_50 th1 ?_
  refine r_puti C fl_X3_67 dX3_takeFrom_53 th0 (fun S7 => ?_)
  refine r_aload_n C 1 dX3_takeFrom_56 rfl ?_
  refine r_getr C fl_X3_9 dX3_takeFrom_57 th1 (fun b8 tb8 => ?_)
  refine r_aload_n C 0 dX3_takeFrom_60 rfl ?_
  refine r_getr C fl_X3_9 dX3_takeFrom_61 th0 (fun b9 tb9 => ?_)
  refine r_callS (As := [.ref b8, .ref b9]) (rest := []) C (c_X8_copyRow _ E n b8 b9 tb8 tb9) dX3_takeFrom_64 ml_X3_76 mv_X8_copyRow rfl rfl ⟨by decide, by decide⟩ (Nat.le_of_ble_eq_true rfl) (fun v11 S10 hv11 => ?_)
  refine r_aload_n C 1 dX3_takeFrom_67 rfl ?_
  refine r_getr C fl_X3_15 dX3_takeFrom_68 th1 (fun b12 tb12 => ?_)
  refine r_aload_n C 0 dX3_takeFrom_71 rfl ?_
  refine r_getr C fl_X3_15 dX3_takeFrom_72 th0 (fun b13 tb13 => ?_)
  refine r_callS (As := [.ref b12, .ref b13]) (rest := []) C (c_X8_copyRow _ E n b12 b13 tb12 tb13) dX3_takeFrom_75 ml_X3_76 mv_X8_copyRow rfl rfl ⟨by decide, by decide⟩ (Nat.le_of_ble_eq_true rfl) (fun v15 S14 hv15 => ?_)
  refine r_aload_n C 1 dX3_takeFrom_78 rfl ?_
  refine r_getr C fl_X3_18 dX3_takeFrom_79 th1 (fun b16 tb16 => ?_)
  refine r_aload_n C 0 dX3_takeFrom_82 rfl ?_
  refine r_getr C fl_X3_18 dX3_takeFrom_83 th0 (fun b17 tb17 => ?_)
  refine r_callS (As := [.ref b16, .ref b17]) (rest := []) C (c_X8_copyRow _ E n b16 b17 tb16 tb17) dX3_takeFrom_86 ml_X3_76 mv_X8_copyRow rfl rfl ⟨by decide, by decide⟩ (Nat.le_of_ble_eq_true rfl) (fun v19 S18 hv19 => ?_)
  refine r_aload_n C 1 dX3_takeFrom_89 rfl ?_
  refine r_getr C fl_X3_21 dX3_takeFrom_90 th1 (fun b20 tb20 => ?_)
  refine r_aload_n C 0 dX3_takeFrom_93 rfl ?_
  refine r_getr C fl_X3_21 dX3_takeFrom_94 th0 (fun b21 tb21 => ?_)
  refine r_callS (As := [.ref b20, .ref b21]) (rest := []) C (c_X8_copyRow _ E n b20 b21 tb20 tb21) dX3_takeFrom_97 ml_X3_76 mv_X8_copyRow rfl rfl ⟨by decide, by decide⟩ (Nat.le_of_ble_eq_true rfl) (fun v23 S22 hv23 => ?_)
  refine r_aload_n C 1 dX3_takeFrom_100 rfl ?_
  refine r_getr C fl_X3_24 dX3_takeFrom_101 th1 (fun b24 tb24 => ?_)
  refine r_aload_n C 0 dX3_takeFrom_104 rfl ?_
  refine r_getr C fl_X3_24 dX3_takeFrom_105 th0 (fun b25 tb25 => ?_)
  refine r_callS (As := [.ref b24, .ref b25]) (rest := []) C (c_X8_copyRow _ E n b24 b25 tb24 tb25) dX3_takeFrom_108 ml_X3_76 mv_X8_copyRow rfl rfl ⟨by decide, by decide⟩ (Nat.le_of_ble_eq_true rfl) (fun v27 S26 hv27 => ?_)
  refine r_aload_n C 1 dX3_takeFrom_111 rfl ?_
  refine r_getr C fl_X3_27 dX3_takeFrom_112 th1 (fun b28 tb28 => ?_)
  refine r_aload_n C 0 dX3_takeFrom_115 rfl ?_
  refine r_getr C fl_X3_27 dX3_takeFrom_116 th0 (fun b29 tb29 => ?_)
  refine r_callS (As := [.ref b28, .ref b29]) (rest := []) C (c_X8_copyRow _ E n b28 b29 tb28 tb29) dX3_takeFrom_119 ml_X3_76 mv_X8_copyRow rfl rfl ⟨by decide, by decide⟩ (Nat.le_of_ble_eq_true rfl) (fun v31 S30 hv31 => ?_)
  refine r_aload_n C 1 dX3_takeFrom_122 rfl ?_
  refine r_getr C fl_X3_30 dX3_takeFrom_123 th1 (fun b32 tb32 => ?_)
  refine r_aload_n C 0 dX3_takeFrom_126 rfl ?_
  refine r_getr C fl_X3_30 dX3_takeFrom_127 th0 (fun b33 tb33 => ?_)
  refine r_callS (As := [.ref b32, .ref b33]) (rest := []) C (c_X8_copyRow _ E n b32 b33 tb32 tb33) dX3_takeFrom_130 ml_X3_76 mv_X8_copyRow rfl rfl ⟨by decide, by decide⟩ (Nat.le_of_ble_eq_true rfl) (fun v35 S34 hv35 => ?_)
  refine r_aload_n C 1 dX3_takeFrom_133 rfl ?_
  refine r_getr C fl_X3_33 dX3_takeFrom_134 th1 (fun b36 tb36 => ?_)
  refine r_aload_n C 0 dX3_takeFrom_137 rfl ?_
  refine r_getr C fl_X3_33 dX3_takeFrom_138 th0 (fun b37 tb37 => ?_)
  refine r_callS (As := [.ref b36, .ref b37]) (rest := []) C (c_X8_copyRow _ E n b36 b37 tb36 tb37) dX3_takeFrom_141 ml_X3_76 mv_X8_copyRow rfl rfl ⟨by decide, by decide⟩ (Nat.le_of_ble_eq_true rfl) (fun v39 S38 hv39 => ?_)
  refine r_aload_n C 1 dX3_takeFrom_144 rfl ?_
  refine r_getr C fl_X3_36 dX3_takeFrom_145 th1 (fun b40 tb40 => ?_)
  refine r_aload_n C 0 dX3_takeFrom_148 rfl ?_
  refine r_getr C fl_X3_36 dX3_takeFrom_149 th0 (fun b41 tb41 => ?_)
  refine r_callS (As := [.ref b40, .ref b41]) (rest := []) C (c_X8_copyRow _ E n b40 b41 tb40 tb41) dX3_takeFrom_152 ml_X3_76 mv_X8_copyRow rfl rfl ⟨by decide, by decide⟩ (Nat.le_of_ble_eq_true rfl) (fun v43 S42 hv43 => ?_)
  refine r_aload_n C 1 dX3_takeFrom_155 rfl ?_
  refine r_getr C fl_X3_39 dX3_takeFrom_156 th1 (fun b44 tb44 => ?_)
  refine r_aload_n C 0 dX3_takeFrom_159 rfl ?_
  refine r_getr C fl_X3_39 dX3_takeFrom_160 th0 (fun b45 tb45 => ?_)
  refine r_callS (As := [.ref b44, .ref b45]) (rest := []) C (c_X8_copyRow _ E n b44 b45 tb44 tb45) dX3_takeFrom_163 ml_X3_76 mv_X8_copyRow rfl rfl ⟨by decide, by decide⟩ (Nat.le_of_ble_eq_true rfl) (fun v47 S46 hv47 => ?_)
  refine r_aload_n C 1 dX3_takeFrom_166 rfl ?_
  refine r_getr C fl_X3_42 dX3_takeFrom_167 th1 (fun b48 tb48 => ?_)
  refine r_aload_n C 0 dX3_takeFrom_170 rfl ?_
  refine r_getr C fl_X3_42 dX3_takeFrom_171 th0 (fun b49 tb49 => ?_)
  refine r_callS (As := [.ref b48, .ref b49]) (rest := []) C (c_X8_copyRow _ E n b48 b49 tb48 tb49) dX3_takeFrom_174 ml_X3_76 mv_X8_copyRow rfl rfl ⟨by decide, by decide⟩ (Nat.le_of_ble_eq_true rfl) (fun v51 S50 hv51 => ?_)
  refine r_aload_n C 1 dX3_takeFrom_177 rfl ?_
  refine r_getr C fl_X3_45 dX3_takeFrom_178 th1 (fun b52 tb52 => ?_)
  refine r_aload_n C 0 dX3_takeFrom_181 rfl ?_
  refine r_getr C fl_X3_45 dX3_takeFrom_182 th0 (fun b53 tb53 => ?_)
  refine r_callS (As := [.ref b52, .ref b53]) (rest := []) C (c_X8_copyRow _ E n b52 b53 tb52 tb53) dX3_takeFrom_185 ml_X3_76 mv_X8_copyRow rfl rfl ⟨by decide, by decide⟩ (Nat.le_of_ble_eq_true rfl) (fun v55 S54 hv55 => ?_)
  exact r_return C X dX3_takeFrom_188
set_option maxRecDepth 100000 in
set_option maxHeartbeats 4000000 in
theorem p_X3_hopeOf_L13 {A : AM} {E : EN} {n : Nat} (C : Cx A E cX3_hopeOf 4 RX3 2 48) (X : Ex A E (some .int))  : ∀ (m : Nat) (S : WS) (h0 : Nat) (h1 : Nat) (x2 : Int32) (x3 : Int32) (th0 : Ty E h0 2) (th1 : Ty E h1 10), Gd A E 4 (QM A E wI tT) (f_X3_hopeOf_L13 E n  m S h0 h1 x2 x3) S 13 [(0, .ref h0), (1, .ref h1), (2, .int x2), (3, .int x3)] [] := by
  intro m
  induction m with
  | zero => intros; exact gn
  | succ m ih =>
    intro S h0 h1 x2 x3 th0 th1
    unfold f_X3_hopeOf_L13
    refine r_iload_n C 3 dX3_hopeOf_13 rfl ?_
    refine r_aload_n C 0 dX3_hopeOf_14 rfl ?_
    refine r_geti C fl_X3_61 dX3_hopeOf_15 th0 ?_
    refine r_icmp_ge C 55 dX3_hopeOf_18 (by decide) ?_ ?_
    · refine r_iconst C (-1 : Int32) dX3_hopeOf_55 (by decide) ?_
      exact r_ireturn C X dX3_hopeOf_56
    · refine r_iload_n C 3 dX3_hopeOf_21 rfl ?_
      refine r_aload_n C 1 dX3_hopeOf_22 rfl ?_
      refine r_iload_n C 2 dX3_hopeOf_23 rfl ?_
      refine r_iald C dX3_hopeOf_24 th1 ?_
      refine r_icmp_eq C 49 dX3_hopeOf_25 (by decide) ?_ ?_
      · refine r_iinc C 3 (fun y1 => [(3, .int y1), (0, .ref h0), (1, .ref h1), (2, .int x2)]) dX3_hopeOf_49 rfl (v := (1 : Int32)) (by decide) (by decide) (fun _ => rfl) (fun y1 => ?_)
        refine r_goto C 13 dX3_hopeOf_52 (by decide) ?_
        refine r_sub [1, 2, 3, 0] [(0, .ref h0), (1, .ref h1), (2, .int x2), (3, .int y1)] rfl ?_
        exact ih S h0 h1 x2 y1 th0 th1
      · refine r_aload_n C 0 dX3_hopeOf_28 rfl ?_
        refine r_iload_n C 2 dX3_hopeOf_29 rfl ?_
        refine r_iload_n C 3 dX3_hopeOf_30 rfl ?_
        refine r_callV (As := [.int x2, .int x3]) (rest := []) C (c_X3_isFor _ E n h0 x2 x3 th0) dX3_hopeOf_31 ml_X3_101 mv_X3_isFor ⟨TX3, _, rfl⟩ (by decide) th0 rfl rfl ⟨by decide, by decide⟩ (Nat.le_of_ble_eq_true rfl) (fun v3 S2 hv3 => ?_)
        refine r_if_eq C 49 dX3_hopeOf_34 (by decide) ?_ ?_
        · refine r_iinc C 3 (fun y4 => [(3, .int y4), (0, .ref h0), (1, .ref h1), (2, .int x2)]) dX3_hopeOf_49 rfl (v := (1 : Int32)) (by decide) (by decide) (fun _ => rfl) (fun y4 => ?_)
          refine r_goto C 13 dX3_hopeOf_52 (by decide) ?_
          refine r_sub [1, 2, 3, 0] [(0, .ref h0), (1, .ref h1), (2, .int x2), (3, .int y4)] rfl ?_
          exact ih S2 h0 h1 x2 y4 th0 th1
        · refine r_aload_n C 0 dX3_hopeOf_37 rfl ?_
          refine r_aload_n C 1 dX3_hopeOf_38 rfl ?_
          refine r_iload_n C 2 dX3_hopeOf_39 rfl ?_
          refine r_iload_n C 3 dX3_hopeOf_40 rfl ?_
          refine r_callV (As := [.ref h1, .int x2, .int x3]) (rest := []) C (c_X3_wouldBeTaken _ E n h0 h1 x2 x3 th0 th1) dX3_hopeOf_41 ml_X3_105 mv_X3_wouldBeTaken ⟨TX3, _, rfl⟩ (by decide) th0 rfl rfl ⟨by decide, by decide⟩ (Nat.le_of_ble_eq_true rfl) (fun v6 S5 hv6 => ?_)
          refine r_if_eq C 49 dX3_hopeOf_44 (by decide) ?_ ?_
          · refine r_iinc C 3 (fun y7 => [(3, .int y7), (0, .ref h0), (1, .ref h1), (2, .int x2)]) dX3_hopeOf_49 rfl (v := (1 : Int32)) (by decide) (by decide) (fun _ => rfl) (fun y7 => ?_)
            refine r_goto C 13 dX3_hopeOf_52 (by decide) ?_
            refine r_sub [1, 2, 3, 0] [(0, .ref h0), (1, .ref h1), (2, .int x2), (3, .int y7)] rfl ?_
            exact ih S5 h0 h1 x2 y7 th0 th1
          · refine r_iload_n C 3 dX3_hopeOf_47 rfl ?_
            exact r_ireturn C X dX3_hopeOf_48
set_option maxRecDepth 100000 in
set_option maxHeartbeats 4000000 in
theorem c_X3_hopeOf (l : Launch) (E : EN) (n : Nat) (h0 : Nat) (h1 : Nat) (x2 : Int32) (th0 : Ty E h0 2) (th1 : Ty E h1 10) : CT l E yX3_hopeOf cX3_hopeOf 4 (some .int) 2 48 wI tT [.ref h0, .ref h1, .int x2] (fun S => f_X3_hopeOf E n S h0 h1 x2) := by
  refine ct_of RX3 (by decide +kernel) rfl [(0, .ref h0), (1, .ref h1), (2, .int x2)] rfl (Nat.le_of_ble_eq_true rfl) (fun A S hA C X => ?_)
  subst hA
  show Gd A E 4 (QM A E wI tT) (f_X3_hopeOf E n S h0 h1 x2) S 0 [(0, .ref h0), (1, .ref h1), (2, .int x2)] []
  unfold f_X3_hopeOf
  refine r_aload_n C 0 dX3_hopeOf_0 rfl ?_
  refine r_aload_n C 1 dX3_hopeOf_1 rfl ?_
  refine r_iload_n C 2 dX3_hopeOf_2 rfl ?_
  refine r_callV (As := [.ref h1, .int x2]) (rest := []) C (c_X3_isRefused _ E n h0 h1 x2 th0 th1) dX3_hopeOf_3 ml_X3_97 mv_X3_isRefused ⟨TX3, _, rfl⟩ (by decide) th0 rfl rfl ⟨by decide, by decide⟩ (Nat.le_of_ble_eq_true rfl) (fun v2 S1 hv2 => ?_)
  refine r_if_ne C 11 dX3_hopeOf_6 (by decide) ?_ ?_
  · refine r_iconst C (0 : Int32) dX3_hopeOf_11 (by decide) ?_
    refine r_istore_n C [(3, .int (0 : Int32)), (0, .ref h0), (1, .ref h1), (2, .int x2)] dX3_hopeOf_12 (by decide) rfl ?_
    refine r_sub [1, 2, 3, 0] [(0, .ref h0), (1, .ref h1), (2, .int x2), (3, .int (0 : Int32))] rfl ?_
    exact p_X3_hopeOf_L13 C X  n S1 h0 h1 x2 (0 : Int32) th0 th1
  · refine r_iconst C (-1 : Int32) dX3_hopeOf_9 (by decide) ?_
    exact r_ireturn C X dX3_hopeOf_10
set_option maxRecDepth 100000 in
set_option maxHeartbeats 4000000 in
theorem p_X3_firstHoping_L2 {A : AM} {E : EN} {n : Nat} (C : Cx A E cX3_firstHoping 3 RX3 3 71) (X : Ex A E (some .int))  : ∀ (m : Nat) (S : WS) (h0 : Nat) (h1 : Nat) (x2 : Int32) (th0 : Ty E h0 2) (th1 : Ty E h1 10), Gd A E 3 (QM A E wI tT) (f_X3_firstHoping_L2 E n  m S h0 h1 x2) S 2 [(0, .ref h0), (1, .ref h1), (2, .int x2)] [] := by
  intro m
  induction m with
  | zero => intros; exact gn
  | succ m ih =>
    intro S h0 h1 x2 th0 th1
    unfold f_X3_firstHoping_L2
    refine r_iload_n C 2 dX3_firstHoping_2 rfl ?_
    refine r_aload_n C 0 dX3_firstHoping_3 rfl ?_
    refine r_geti C fl_X3_64 dX3_firstHoping_4 th0 ?_
    refine r_icmp_ge C 28 dX3_firstHoping_7 (by decide) ?_ ?_
    · refine r_iconst C (-1 : Int32) dX3_firstHoping_28 (by decide) ?_
      exact r_ireturn C X dX3_firstHoping_29
    · refine r_aload_n C 0 dX3_firstHoping_10 rfl ?_
      refine r_aload_n C 1 dX3_firstHoping_11 rfl ?_
      refine r_iload_n C 2 dX3_firstHoping_12 rfl ?_
      refine r_callV (As := [.ref h1, .int x2]) (rest := []) C (c_X3_hopeOf _ E n h0 h1 x2 th0 th1) dX3_firstHoping_13 ml_X3_109 mv_X3_hopeOf ⟨TX3, _, rfl⟩ (by decide) th0 rfl rfl ⟨by decide, by decide⟩ (Nat.le_of_ble_eq_true rfl) (fun v2 S1 hv2 => ?_)
      refine r_iconst C (-1 : Int32) dX3_firstHoping_16 (by decide) ?_
      refine r_icmp_eq C 22 dX3_firstHoping_17 (by decide) ?_ ?_
      · refine r_iinc C 2 (fun y3 => [(2, .int y3), (0, .ref h0), (1, .ref h1)]) dX3_firstHoping_22 rfl (v := (1 : Int32)) (by decide) (by decide) (fun _ => rfl) (fun y3 => ?_)
        refine r_goto C 2 dX3_firstHoping_25 (by decide) ?_
        refine r_sub [1, 2, 0] [(0, .ref h0), (1, .ref h1), (2, .int y3)] rfl ?_
        exact ih S1 h0 h1 y3 th0 th1
      · refine r_iload_n C 2 dX3_firstHoping_20 rfl ?_
        exact r_ireturn C X dX3_firstHoping_21
set_option maxRecDepth 100000 in
set_option maxHeartbeats 4000000 in
theorem c_X3_firstHoping (l : Launch) (E : EN) (n : Nat) (h0 : Nat) (h1 : Nat) (th0 : Ty E h0 2) (th1 : Ty E h1 10) : CT l E yX3_firstHoping cX3_firstHoping 3 (some .int) 3 71 wI tT [.ref h0, .ref h1] (fun S => f_X3_firstHoping E n S h0 h1) := by
  refine ct_of RX3 (by decide +kernel) rfl [(0, .ref h0), (1, .ref h1)] rfl (Nat.le_of_ble_eq_true rfl) (fun A S hA C X => ?_)
  subst hA
  show Gd A E 3 (QM A E wI tT) (f_X3_firstHoping E n S h0 h1) S 0 [(0, .ref h0), (1, .ref h1)] []
  unfold f_X3_firstHoping
  refine r_iconst C (0 : Int32) dX3_firstHoping_0 (by decide) ?_
  refine r_istore_n C [(2, .int (0 : Int32)), (0, .ref h0), (1, .ref h1)] dX3_firstHoping_1 (by decide) rfl ?_
  refine r_sub [1, 2, 0] [(0, .ref h0), (1, .ref h1), (2, .int (0 : Int32))] rfl ?_
  exact p_X3_firstHoping_L2 C X  n S h0 h1 (0 : Int32) th0 th1
set_option maxRecDepth 100000 in
set_option maxHeartbeats 4000000 in
theorem c_X3_leapOf (l : Launch) (E : EN) (n : Nat) (h0 : Nat) (x1 : Int32) (x2 : Int32) (th0 : Ty E h0 2) : CT l E yX3_leapOf cX3_leapOf 3 (some .int) 3 72 wI tT [.ref h0, .int x1, .int x2] (fun S => f_X3_leapOf E n S h0 x1 x2) := by
  refine ct_of RX3 (by decide +kernel) rfl [(0, .ref h0), (1, .int x1), (2, .int x2)] rfl (Nat.le_of_ble_eq_true rfl) (fun A S hA C X => ?_)
  subst hA
  show Gd A E 3 (QM A E wI tT) (f_X3_leapOf E n S h0 x1 x2) S 0 [(0, .ref h0), (1, .int x1), (2, .int x2)] []
  unfold f_X3_leapOf
  refine r_aload_n C 0 dX3_leapOf_0 rfl ?_
  refine r_iload_n C 1 dX3_leapOf_1 rfl ?_
  refine r_callV (As := [.int x1]) (rest := []) C (c_X3_dropOf _ E n h0 x1 th0) dX3_leapOf_2 ml_X3_120 mv_X3_dropOf ⟨TX3, _, rfl⟩ (by decide) th0 rfl rfl ⟨by decide, by decide⟩ (Nat.le_of_ble_eq_true rfl) (fun v2 S1 hv2 => ?_)
  refine r_aload_n C 0 dX3_leapOf_5 rfl ?_
  refine r_iload_n C 1 dX3_leapOf_6 rfl ?_
  refine r_iload_n C 2 dX3_leapOf_7 rfl ?_
  refine r_iconst C (-1 : Int32) dX3_leapOf_8 (by decide) ?_
  refine r_callV (As := [.int x1, .int x2, .int (-1 : Int32)]) (rest := [.int v2]) C (c_X3_stepsOn _ E n h0 x1 x2 (-1 : Int32) th0) dX3_leapOf_9 ml_X3_123 mv_X3_stepsOn ⟨TX3, _, rfl⟩ (by decide) th0 rfl rfl ⟨by decide, by decide⟩ (Nat.le_of_ble_eq_true rfl) (fun v4 S3 hv4 => ?_)
  refine r_iconst C (1 : Int32) dX3_leapOf_12 (by decide) ?_
  refine r_iadd C dX3_leapOf_13 ?_
  refine r_callS (As := [.int v2, .int (v4 + (1 : Int32))]) (rest := []) C (c_X8_roundedUp _ E n v2 (v4 + (1 : Int32)) ) dX3_leapOf_14 ml_X3_127 mv_X8_roundedUp rfl rfl ⟨by decide, by decide⟩ (Nat.le_of_ble_eq_true rfl) (fun v6 S5 hv6 => ?_)
  exact r_ireturn C X dX3_leapOf_17
set_option maxRecDepth 100000 in
set_option maxHeartbeats 4000000 in
theorem c_X3_lackingOn (l : Launch) (E : EN) (n : Nat) (h0 : Nat) (x1 : Int32) (x2 : Int32) (x3 : Int32) (th0 : Ty E h0 2) : CT l E yX3_lackingOn cX3_lackingOn 4 (some .int) 3 72 wI tT [.ref h0, .int x1, .int x2, .int x3] (fun S => f_X3_lackingOn E n S h0 x1 x2 x3) := by
  refine ct_of RX3 (by decide +kernel) rfl [(0, .ref h0), (1, .int x1), (2, .int x2), (3, .int x3)] rfl (Nat.le_of_ble_eq_true rfl) (fun A S hA C X => ?_)
  subst hA
  show Gd A E 4 (QM A E wI tT) (f_X3_lackingOn E n S h0 x1 x2 x3) S 0 [(0, .ref h0), (1, .int x1), (2, .int x2), (3, .int x3)] []
  unfold f_X3_lackingOn
  refine r_aload_n C 0 dX3_lackingOn_0 rfl ?_
  refine r_iload_n C 1 dX3_lackingOn_1 rfl ?_
  refine r_callV (As := [.int x1]) (rest := []) C (c_X3_dropOf _ E n h0 x1 th0) dX3_lackingOn_2 ml_X3_120 mv_X3_dropOf ⟨TX3, _, rfl⟩ (by decide) th0 rfl rfl ⟨by decide, by decide⟩ (Nat.le_of_ble_eq_true rfl) (fun v2 S1 hv2 => ?_)
  refine r_aload_n C 0 dX3_lackingOn_5 rfl ?_
  refine r_iload_n C 1 dX3_lackingOn_6 rfl ?_
  refine r_iload_n C 2 dX3_lackingOn_7 rfl ?_
  refine r_iconst C (-1 : Int32) dX3_lackingOn_8 (by decide) ?_
  refine r_callV (As := [.int x1, .int x2, .int (-1 : Int32)]) (rest := [.int v2]) C (c_X3_stepsOn _ E n h0 x1 x2 (-1 : Int32) th0) dX3_lackingOn_9 ml_X3_123 mv_X3_stepsOn ⟨TX3, _, rfl⟩ (by decide) th0 rfl rfl ⟨by decide, by decide⟩ (Nat.le_of_ble_eq_true rfl) (fun v4 S3 hv4 => ?_)
  refine r_iload_n C 3 dX3_lackingOn_12 rfl ?_
  refine r_callS (As := [.int v2, .int v4, .int x3]) (rest := []) C (c_X8_lacking _ E n v2 v4 x3 ) dX3_lackingOn_13 ml_X3_131 mv_X8_lacking rfl rfl ⟨by decide, by decide⟩ (Nat.le_of_ble_eq_true rfl) (fun v6 S5 hv6 => ?_)
  exact r_ireturn C X dX3_lackingOn_16
set_option maxRecDepth 100000 in
set_option maxHeartbeats 4000000 in
theorem p_X3_openPaths_L6 {A : AM} {E : EN} {n : Nat} (C : Cx A E cX3_openPaths 6 RX3 3 72) (X : Ex A E (some .int))  : ∀ (m : Nat) (S : WS) (h0 : Nat) (x1 : Int32) (x2 : Int32) (x3 : Int32) (x4 : Int32) (x5 : Int32) (th0 : Ty E h0 2), Gd A E 6 (QM A E wI tT) (f_X3_openPaths_L6 E n  m S h0 x1 x2 x3 x4 x5) S 6 [(0, .ref h0), (1, .int x1), (2, .int x2), (3, .int x3), (4, .int x4), (5, .int x5)] [] := by
  intro m
  induction m with
  | zero => intros; exact gn
  | succ m ih =>
    intro S h0 x1 x2 x3 x4 x5 th0
    unfold f_X3_openPaths_L6
    refine r_iload C 5 dX3_openPaths_6 rfl ?_
    refine r_aload_n C 0 dX3_openPaths_8 rfl ?_
    refine r_geti C fl_X3_58 dX3_openPaths_9 th0 ?_
    refine r_icmp_ge C 53 dX3_openPaths_12 (by decide) ?_ ?_
    · refine r_iload C 4 dX3_openPaths_53 rfl ?_
      exact r_ireturn C X dX3_openPaths_55
    · refine r_aload_n C 0 dX3_openPaths_15 rfl ?_
      refine r_iload C 5 dX3_openPaths_16 rfl ?_
      refine r_callV (As := [.int x5]) (rest := []) C (c_X3_dropOf _ E n h0 x5 th0) dX3_openPaths_18 ml_X3_120 mv_X3_dropOf ⟨TX3, _, rfl⟩ (by decide) th0 rfl rfl ⟨by decide, by decide⟩ (Nat.le_of_ble_eq_true rfl) (fun v2 S1 hv2 => ?_)
      refine r_aload_n C 0 dX3_openPaths_21 rfl ?_
      refine r_iload C 5 dX3_openPaths_22 rfl ?_
      refine r_iload_n C 2 dX3_openPaths_24 rfl ?_
      refine r_iload_n C 3 dX3_openPaths_25 rfl ?_
      refine r_callV (As := [.int x5, .int x2, .int x3]) (rest := [.int v2]) C (c_X3_stepsOn _ E n h0 x5 x2 x3 th0) dX3_openPaths_26 ml_X3_123 mv_X3_stepsOn ⟨TX3, _, rfl⟩ (by decide) th0 rfl rfl ⟨by decide, by decide⟩ (Nat.le_of_ble_eq_true rfl) (fun v4 S3 hv4 => ?_)
      refine r_iconst C (1 : Int32) dX3_openPaths_29 (by decide) ?_
      refine r_iadd C dX3_openPaths_30 ?_
      refine r_callS (As := [.int v2, .int (v4 + (1 : Int32))]) (rest := []) C (c_X8_roundedUp _ E n v2 (v4 + (1 : Int32)) ) dX3_openPaths_31 ml_X3_127 mv_X8_roundedUp rfl rfl ⟨by decide, by decide⟩ (Nat.le_of_ble_eq_true rfl) (fun v6 S5 hv6 => ?_)
      refine r_iload_n C 1 dX3_openPaths_34 rfl ?_
      refine r_icmp_gt C 47 dX3_openPaths_35 (by decide) ?_ ?_
      · refine r_iinc C 5 (fun y7 => [(5, .int y7), (0, .ref h0), (1, .int x1), (2, .int x2), (3, .int x3), (4, .int x4)]) dX3_openPaths_47 rfl (v := (1 : Int32)) (by decide) (by decide) (fun _ => rfl) (fun y7 => ?_)
        refine r_goto C 6 dX3_openPaths_50 (by decide) ?_
        refine r_sub [1, 2, 3, 4, 5, 0] [(0, .ref h0), (1, .int x1), (2, .int x2), (3, .int x3), (4, .int x4), (5, .int y7)] rfl ?_
        exact ih S5 h0 x1 x2 x3 x4 y7 th0
      · refine r_iload C 4 dX3_openPaths_38 rfl ?_
        refine r_iconst C (1 : Int32) dX3_openPaths_40 (by decide) ?_
        refine r_iload C 5 dX3_openPaths_41 rfl ?_
        refine r_ishl C dX3_openPaths_43 ?_
        refine r_ior C dX3_openPaths_44 ?_
        refine r_topi (fun y8 => ?_)
        refine r_istore C [(4, .int y8), (0, .ref h0), (1, .int x1), (2, .int x2), (3, .int x3), (5, .int x5)] dX3_openPaths_45 (by decide) rfl ?_
        refine r_iinc C 5 (fun y9 => [(5, .int y9), (4, .int y8), (0, .ref h0), (1, .int x1), (2, .int x2), (3, .int x3)]) dX3_openPaths_47 rfl (v := (1 : Int32)) (by decide) (by decide) (fun _ => rfl) (fun y9 => ?_)
        refine r_goto C 6 dX3_openPaths_50 (by decide) ?_
        refine r_sub [2, 3, 4, 5, 1, 0] [(0, .ref h0), (1, .int x1), (2, .int x2), (3, .int x3), (4, .int y8), (5, .int y9)] rfl ?_
        exact ih S5 h0 x1 x2 x3 y8 y9 th0
set_option maxRecDepth 100000 in
set_option maxHeartbeats 4000000 in
theorem c_X3_openPaths (l : Launch) (E : EN) (n : Nat) (h0 : Nat) (x1 : Int32) (x2 : Int32) (x3 : Int32) (th0 : Ty E h0 2) : CT l E yX3_openPaths cX3_openPaths 6 (some .int) 3 72 wI tT [.ref h0, .int x1, .int x2, .int x3] (fun S => f_X3_openPaths E n S h0 x1 x2 x3) := by
  refine ct_of RX3 (by decide +kernel) rfl [(0, .ref h0), (1, .int x1), (2, .int x2), (3, .int x3)] rfl (Nat.le_of_ble_eq_true rfl) (fun A S hA C X => ?_)
  subst hA
  show Gd A E 6 (QM A E wI tT) (f_X3_openPaths E n S h0 x1 x2 x3) S 0 [(0, .ref h0), (1, .int x1), (2, .int x2), (3, .int x3)] []
  unfold f_X3_openPaths
  refine r_iconst C (0 : Int32) dX3_openPaths_0 (by decide) ?_
  refine r_istore C [(4, .int (0 : Int32)), (0, .ref h0), (1, .int x1), (2, .int x2), (3, .int x3)] dX3_openPaths_1 (by decide) rfl ?_
  refine r_iconst C (0 : Int32) dX3_openPaths_3 (by decide) ?_
  refine r_istore C [(5, .int (0 : Int32)), (4, .int (0 : Int32)), (0, .ref h0), (1, .int x1), (2, .int x2), (3, .int x3)] dX3_openPaths_4 (by decide) rfl ?_
  refine r_sub [2, 3, 4, 5, 1, 0] [(0, .ref h0), (1, .int x1), (2, .int x2), (3, .int x3), (4, .int (0 : Int32)), (5, .int (0 : Int32))] rfl ?_
  exact p_X3_openPaths_L6 C X  n S h0 x1 x2 x3 (0 : Int32) (0 : Int32) th0
set_option maxRecDepth 100000 in
set_option maxHeartbeats 4000000 in
theorem c_X3_reachOf (l : Launch) (E : EN) (n : Nat) (h0 : Nat) (x1 : Int32) (x2 : Int32) (x3 : Int32) (th0 : Ty E h0 2) : CT l E yX3_reachOf cX3_reachOf 4 (some .int) 4 97 wI tT [.ref h0, .int x1, .int x2, .int x3] (fun S => f_X3_reachOf E n S h0 x1 x2 x3) := by
  refine ct_of RX3 (by decide +kernel) rfl [(0, .ref h0), (1, .int x1), (2, .int x2), (3, .int x3)] rfl (Nat.le_of_ble_eq_true rfl) (fun A S hA C X => ?_)
  subst hA
  show Gd A E 4 (QM A E wI tT) (f_X3_reachOf E n S h0 x1 x2 x3) S 0 [(0, .ref h0), (1, .int x1), (2, .int x2), (3, .int x3)] []
  unfold f_X3_reachOf
  refine r_aload_n C 0 dX3_reachOf_0 rfl ?_
  refine r_aload_n C 0 dX3_reachOf_1 rfl ?_
  refine r_getr C fl_X3_45 dX3_reachOf_2 th0 (fun b1 tb1 => ?_)
  refine r_iload_n C 1 dX3_reachOf_5 rfl ?_
  refine r_iald C dX3_reachOf_6 tb1 ?_
  refine r_aload_n C 0 dX3_reachOf_7 rfl ?_
  refine r_aload_n C 0 dX3_reachOf_8 rfl ?_
  refine r_getr C fl_X3_42 dX3_reachOf_9 th0 (fun b2 tb2 => ?_)
  refine r_iload_n C 1 dX3_reachOf_12 rfl ?_
  refine r_iald C dX3_reachOf_13 tb2 ?_
  refine r_iload_n C 2 dX3_reachOf_14 rfl ?_
  refine r_iload_n C 3 dX3_reachOf_15 rfl ?_
  refine r_callV (As := [.int (ai S b2 x1.toNatClampNeg), .int x2, .int x3]) (rest := [.int (ai S b1 x1.toNatClampNeg), .ref h0]) C (c_X3_openPaths _ E n h0 (ai S b2 x1.toNatClampNeg) x2 x3 th0) dX3_reachOf_16 ml_X3_142 mv_X3_openPaths ⟨TX3, _, rfl⟩ (by decide) th0 rfl rfl ⟨by decide, by decide⟩ (Nat.le_of_ble_eq_true rfl) (fun v4 S3 hv4 => ?_)
  refine r_callV (As := [.int (ai S b1 x1.toNatClampNeg), .int v4]) (rest := []) C (c_X3_placesFrom _ E n h0 (ai S b1 x1.toNatClampNeg) v4 th0) dX3_reachOf_19 ml_X3_145 mv_X3_placesFrom ⟨TX3, _, rfl⟩ (by decide) th0 rfl rfl ⟨by decide, by decide⟩ (Nat.le_of_ble_eq_true rfl) (fun v6 S5 hv6 => ?_)
  exact r_ireturn C X dX3_reachOf_22
set_option maxRecDepth 100000 in
set_option maxHeartbeats 4000000 in
theorem p_X4_readSuitor_J52 {A : AM} {E : EN} {n : Nat} (C : Cx A E cX4_readSuitor 5 RX4 6 128) (X : Ex A E (some .boolean))  (S : WS) (h0 : Nat) (h1 : Nat) (x2 : Int32) (s0 : Int32) (th0 : Ty E h0 3) (th1 : Ty E h1 2) : Gd A E 5 (QM A E wI tT) (f_X4_readSuitor_J52 E n  S h0 h1 x2 s0) S 52 [(0, .ref h0), (1, .ref h1), (2, .int x2)] [.int s0] := by
  unfold f_X4_readSuitor_J52
  refine r_istore_n C [(3, .int s0), (0, .ref h0), (1, .ref h1), (2, .int x2)] dX4_readSuitor_52 (by decide) rfl ?_
  refine r_iload_n C 0 dX4_readSuitor_53 rfl ?_
  refine r_iconst C (-1 : Int32) dX4_readSuitor_54 (by decide) ?_
  refine r_icmp_eq C 67 dX4_readSuitor_55 (by decide) ?_ ?_
  · refine r_iconst C (0 : Int32) dX4_readSuitor_67 (by decide) ?_
    exact r_zreturn C X rfl dX4_readSuitor_68
  · refine r_aload_n C 1 dX4_readSuitor_58 rfl ?_
    refine r_ldcS C (tx := "for") 11 (List.mem_of_getElem? (i := 11) rfl) dX4_readSuitor_59 ?_
    refine r_callV (As := [.ref (eSK E 11)]) (rest := []) C (c_X4_takeWord _ E n h0 11 th0 (by decide)) dX4_readSuitor_61 ml_X4_137 mv_X4_takeWord ⟨TX4, _, rfl⟩ (by decide) th0 rfl rfl ⟨by decide, by decide⟩ (Nat.le_of_ble_eq_true rfl) (fun v2 S1 hv2 => ?_)
    refine r_if_ne C 69 dX4_readSuitor_64 (by decide) ?_ ?_
    · refine r_aload_n C 1 dX4_readSuitor_69 rfl ?_
      refine r_aload_n C 2 dX4_readSuitor_70 rfl ?_
      refine r_callV (As := [.ref h1]) (rest := []) C (c_X4_takeBrides _ E n h0 h1 th0 th1) dX4_readSuitor_71 ml_X4_178 mv_X4_takeBrides ⟨TX4, _, rfl⟩ (by decide) th0 rfl rfl ⟨by decide, by decide⟩ (Nat.le_of_ble_eq_true rfl) (fun v4 S3 hv4 => ?_)
      refine r_istore C [(4, .int v4), (3, .int s0), (0, .ref h0), (1, .ref h1), (2, .int x2)] dX4_readSuitor_74 (by decide) rfl ?_
      refine r_iload C 0 dX4_readSuitor_76 rfl ?_
      refine r_iconst C (-1 : Int32) dX4_readSuitor_78 (by decide) ?_
      refine r_icmp_ne C 84 dX4_readSuitor_79 (by decide) ?_ ?_
      · refine r_aload_n C 3 dX4_readSuitor_84 rfl ?_
        refine r_getr C fl_X4_182 dX4_readSuitor_85 th1 (fun b5 tb5 => ?_)
        refine r_aload_n C 3 dX4_readSuitor_88 rfl ?_
        refine r_geti C fl_X4_111 dX4_readSuitor_89 th1 ?_
        refine r_iload_n C 4 dX4_readSuitor_92 rfl ?_
        refine r_iast C dX4_readSuitor_93 tb5 (fun S6 => ?_)
        refine r_aload_n C 3 dX4_readSuitor_94 rfl ?_
        refine r_getr C fl_X4_184 dX4_readSuitor_95 th1 (fun b7 tb7 => ?_)
        refine r_aload_n C 3 dX4_readSuitor_98 rfl ?_
        refine r_geti C fl_X4_111 dX4_readSuitor_99 th1 ?_
        refine r_iload_n C 1 dX4_readSuitor_102 rfl ?_
        refine r_iast C dX4_readSuitor_103 tb7 (fun S8 => ?_)
        refine r_aload_n C 3 dX4_readSuitor_104 rfl ?_
        refine r_getr C fl_X4_186 dX4_readSuitor_105 th1 (fun b9 tb9 => ?_)
        refine r_aload_n C 3 dX4_readSuitor_108 rfl ?_
        refine r_geti C fl_X4_111 dX4_readSuitor_109 th1 ?_
        refine r_iload C 0 dX4_readSuitor_112 rfl ?_
        refine r_iast C dX4_readSuitor_114 tb9 (fun S10 => ?_)
        refine r_aload_n C 3 dX4_readSuitor_115 rfl ?_
        refine r_dup C dX4_readSuitor_116 rfl ?_
        refine r_geti C fl_X4_111 dX4_readSuitor_117 th1 ?_
        refine r_iconst C (1 : Int32) dX4_readSuitor_120 (by decide) ?_
        refine r_iadd C dX4_readSuitor_121 ?_
        refine r_puti C fl_X4_111 dX4_readSuitor_122 th1 (fun S11 => ?_)
        refine r_iconst C (1 : Int32) dX4_readSuitor_125 (by decide) ?_
        exact r_zreturn C X rfl dX4_readSuitor_126
      · refine r_iconst C (0 : Int32) dX4_readSuitor_82 (by decide) ?_
        exact r_zreturn C X rfl dX4_readSuitor_83
    · refine r_iconst C (0 : Int32) dX4_readSuitor_67 (by decide) ?_
      exact r_zreturn C X rfl dX4_readSuitor_68
set_option maxRecDepth 100000 in
set_option maxHeartbeats 4000000 in
theorem p_X4_readSuitor_J24 {A : AM} {E : EN} {n : Nat} (C : Cx A E cX4_readSuitor 5 RX4 6 128) (X : Ex A E (some .boolean))  (S : WS) (h0 : Nat) (h1 : Nat) (s0 : Int32) (th0 : Ty E h0 3) (th1 : Ty E h1 2) : Gd A E 5 (QM A E wI tT) (f_X4_readSuitor_J24 E n  S h0 h1 s0) S 24 [(0, .ref h0), (1, .ref h1)] [.int s0] := by
  unfold f_X4_readSuitor_J24
  refine r_istore_n C [(2, .int s0), (0, .ref h0), (1, .ref h1)] dX4_readSuitor_24 (by decide) rfl ?_
  refine r_iload_n C 0 dX4_readSuitor_25 rfl ?_
  refine r_iconst C (-1 : Int32) dX4_readSuitor_26 (by decide) ?_
  refine r_icmp_ne C 32 dX4_readSuitor_27 (by decide) ?_ ?_
  · refine r_aload_n C 1 dX4_readSuitor_32 rfl ?_
    refine r_ldcS C (tx := "spite") 10 (List.mem_of_getElem? (i := 10) rfl) dX4_readSuitor_33 ?_
    refine r_callV (As := [.ref (eSK E 10)]) (rest := []) C (c_X4_takeWord _ E n h0 10 th0 (by decide)) dX4_readSuitor_35 ml_X4_137 mv_X4_takeWord ⟨TX4, _, rfl⟩ (by decide) th0 rfl rfl ⟨by decide, by decide⟩ (Nat.le_of_ble_eq_true rfl) (fun v2 S1 hv2 => ?_)
    refine r_if_eq C 51 dX4_readSuitor_38 (by decide) ?_ ?_
    · refine r_iconst C (-1 : Int32) dX4_readSuitor_51 (by decide) ?_
      refine r_sub [1, 2, 0] [(0, .ref h0), (1, .ref h1), (2, .int s0)] rfl ?_
      exact p_X4_readSuitor_J52 C X  S1 h0 h1 s0 (-1 : Int32) th0 th1
    · refine r_aload_n C 1 dX4_readSuitor_41 rfl ?_
      refine r_iconst C (0 : Int32) dX4_readSuitor_42 (by decide) ?_
      refine r_bipush C (100 : Int32) dX4_readSuitor_43 (by decide) ?_
      refine r_callV (As := [.int (0 : Int32), .int (100 : Int32)]) (rest := []) C (c_X4_takeNumber _ E n h0 (0 : Int32) (100 : Int32) th0) dX4_readSuitor_45 ml_X4_140 mv_X4_takeNumber ⟨TX4, _, rfl⟩ (by decide) th0 rfl rfl ⟨by decide, by decide⟩ (Nat.le_of_ble_eq_true rfl) (fun v4 S3 hv4 => ?_)
      refine r_goto C 52 dX4_readSuitor_48 (by decide) ?_
      refine r_sub [1, 2, 0] [(0, .ref h0), (1, .ref h1), (2, .int s0)] rfl ?_
      exact p_X4_readSuitor_J52 C X  S3 h0 h1 s0 v4 th0 th1
  · refine r_iconst C (0 : Int32) dX4_readSuitor_30 (by decide) ?_
    exact r_zreturn C X rfl dX4_readSuitor_31
set_option maxRecDepth 100000 in
set_option maxHeartbeats 4000000 in
theorem c_X4_readSuitor (l : Launch) (E : EN) (n : Nat) (h0 : Nat) (h1 : Nat) (th0 : Ty E h0 3) (th1 : Ty E h1 2) : CT l E yX4_readSuitor cX4_readSuitor 5 (some .boolean) 6 128 wI tT [.ref h0, .ref h1] (fun S => f_X4_readSuitor E n S h0 h1) := by
  refine ct_of RX4 (by decide +kernel) rfl [(0, .ref h0), (1, .ref h1)] rfl (Nat.le_of_ble_eq_true rfl) (fun A S hA C X => ?_)
  subst hA
  show Gd A E 5 (QM A E wI tT) (f_X4_readSuitor E n S h0 h1) S 0 [(0, .ref h0), (1, .ref h1)] []
  unfold f_X4_readSuitor
  refine r_aload_n C 0 dX4_readSuitor_0 rfl ?_
  refine r_callV (As := []) (rest := []) C (c_X4_nextToken _ E n h0 th0) dX4_readSuitor_1 ml_X4_48 mv_X4_nextToken ⟨TX4, _, rfl⟩ (by decide) th0 rfl rfl ⟨by decide, by decide⟩ (Nat.le_of_ble_eq_true rfl) (fun v2 S1 hv2 => ?_)
  refine r_aload_n C 0 dX4_readSuitor_4 rfl ?_
  refine r_ldcS C (tx := "skill") 9 (List.mem_of_getElem? (i := 9) rfl) dX4_readSuitor_5 ?_
  refine r_callV (As := [.ref (eSK E 9)]) (rest := []) C (c_X4_takeWord _ E n h0 9 th0 (by decide)) dX4_readSuitor_7 ml_X4_137 mv_X4_takeWord ⟨TX4, _, rfl⟩ (by decide) th0 rfl rfl ⟨by decide, by decide⟩ (Nat.le_of_ble_eq_true rfl) (fun v4 S3 hv4 => ?_)
  refine r_if_eq C 23 dX4_readSuitor_10 (by decide) ?_ ?_
  · refine r_iconst C (-1 : Int32) dX4_readSuitor_23 (by decide) ?_
    exact p_X4_readSuitor_J24 C X  S3 h0 h1 (-1 : Int32) th0 th1
  · refine r_aload_n C 0 dX4_readSuitor_13 rfl ?_
    refine r_iconst C (0 : Int32) dX4_readSuitor_14 (by decide) ?_
    refine r_bipush C (30 : Int32) dX4_readSuitor_15 (by decide) ?_
    refine r_callV (As := [.int (0 : Int32), .int (30 : Int32)]) (rest := []) C (c_X4_takeNumber _ E n h0 (0 : Int32) (30 : Int32) th0) dX4_readSuitor_17 ml_X4_140 mv_X4_takeNumber ⟨TX4, _, rfl⟩ (by decide) th0 rfl rfl ⟨by decide, by decide⟩ (Nat.le_of_ble_eq_true rfl) (fun v6 S5 hv6 => ?_)
    refine r_goto C 24 dX4_readSuitor_20 (by decide) ?_
    exact p_X4_readSuitor_J24 C X  S5 h0 h1 v6 th0 th1
set_option maxRecDepth 100000 in
set_option maxHeartbeats 4000000 in
theorem p_X5_noteAll_J134 {A : AM} {E : EN} {n : Nat} (C : Cx A E cX5_noteAll 7 RX5 1 21) (X : Ex A E none) {k92 : WS → Nat → Int32 → Int32 → Int32 → Option (Unit × WS)} (hk92 : ∀ (S : WS) (h0 : Nat) (x1 : Int32) (x5 : Int32) (x6 : Int32) (_ : Ty E h0 4), Gd A E 7 (QM A E wV tT) (k92 S h0 x1 x5 x6) S 92 [(0, .ref h0), (1, .int x1), (5, .int x5), (6, .int x6)] []) (S : WS) (h0 : Nat) (x1 : Int32) (x5 : Int32) (x6 : Int32) (g0 : Nat) (s1 : Int32) (s2 : Int32) (s3 : Int32) (th0 : Ty E h0 4) (tg0 : Ty E g0 10) : Gd A E 7 (QM A E wV tT) (f_X5_noteAll_J134 E n k92 S h0 x1 x5 x6 g0 s1 s2 s3) S 134 [(0, .ref h0), (1, .int x1), (5, .int x5), (6, .int x6)] [.int s3, .int s2, .int s1, .ref g0] := by
  unfold f_X5_noteAll_J134
  refine r_ior C dX5_noteAll_134 ?_
  refine r_iast C dX5_noteAll_135 tg0 (fun S1 => ?_)
  refine r_iload C 2 dX5_noteAll_136 rfl ?_
  refine r_if_eq C 167 dX5_noteAll_138 (by decide) ?_ ?_
  · refine r_iinc C 3 (fun y2 => [(6, .int y2), (0, .ref h0), (1, .int x1), (5, .int x5)]) dX5_noteAll_167 rfl (v := (1 : Int32)) (by decide) (by decide) (fun _ => rfl) (fun y2 => ?_)
    refine r_goto C 92 dX5_noteAll_170 (by decide) ?_
    refine r_sub [1, 2, 3, 0] [(0, .ref h0), (1, .int x1), (5, .int x5), (6, .int y2)] rfl ?_
    exact hk92 S1 h0 x1 x5 y2 th0
  · refine r_aload_n C 0 dX5_noteAll_141 rfl ?_
    refine r_getr C fl_X5_28 dX5_noteAll_142 th0 (fun b3 tb3 => ?_)
    refine r_iload C 3 dX5_noteAll_145 rfl ?_
    refine r_iload C 3 dX5_noteAll_147 rfl ?_
    refine r_iload_n C 1 dX5_noteAll_149 rfl ?_
    refine r_icmp_ge C 165 dX5_noteAll_150 (by decide) ?_ ?_
    · refine r_iconst C (-1 : Int32) dX5_noteAll_165 (by decide) ?_
      refine r_iast C dX5_noteAll_166 tb3 (fun S4 => ?_)
      refine r_iinc C 3 (fun y5 => [(6, .int y5), (0, .ref h0), (1, .int x1), (5, .int x5)]) dX5_noteAll_167 rfl (v := (1 : Int32)) (by decide) (by decide) (fun _ => rfl) (fun y5 => ?_)
      refine r_goto C 92 dX5_noteAll_170 (by decide) ?_
      refine r_sub [1, 2, 3, 0] [(0, .ref h0), (1, .int x1), (5, .int x5), (6, .int y5)] rfl ?_
      exact hk92 S4 h0 x1 x5 y5 th0
    · refine r_aload_n C 0 dX5_noteAll_153 rfl ?_
      refine r_getr C fl_X5_25 dX5_noteAll_154 th0 (fun b6 tb6 => ?_)
      refine r_iload C 3 dX5_noteAll_157 rfl ?_
      refine r_iald C dX5_noteAll_159 tb6 ?_
      refine r_iconst C (1 : Int32) dX5_noteAll_160 (by decide) ?_
      refine r_isub C dX5_noteAll_161 ?_
      refine r_goto C 166 dX5_noteAll_162 (by decide) ?_
      refine r_iast C dX5_noteAll_166 tb3 (fun S7 => ?_)
      refine r_iinc C 3 (fun y8 => [(6, .int y8), (0, .ref h0), (1, .int x1), (5, .int x5)]) dX5_noteAll_167 rfl (v := (1 : Int32)) (by decide) (by decide) (fun _ => rfl) (fun y8 => ?_)
      refine r_goto C 92 dX5_noteAll_170 (by decide) ?_
      refine r_sub [1, 2, 3, 0] [(0, .ref h0), (1, .int x1), (5, .int x5), (6, .int y8)] rfl ?_
      exact hk92 S7 h0 x1 x5 y8 th0
set_option maxRecDepth 100000 in
set_option maxHeartbeats 4000000 in
theorem p_X5_noteAll_L92 {A : AM} {E : EN} {n : Nat} (C : Cx A E cX5_noteAll 7 RX5 1 21) (X : Ex A E none)  : ∀ (m : Nat) (S : WS) (h0 : Nat) (x1 : Int32) (x5 : Int32) (x6 : Int32) (th0 : Ty E h0 4), Gd A E 7 (QM A E wV tT) (f_X5_noteAll_L92 E n  m S h0 x1 x5 x6) S 92 [(0, .ref h0), (1, .int x1), (5, .int x5), (6, .int x6)] [] := by
  intro m
  induction m with
  | zero => intros; exact gn
  | succ m ih =>
    intro S h0 x1 x5 x6 th0
    unfold f_X5_noteAll_L92
    refine r_iload C 3 dX5_noteAll_92 rfl ?_
    refine r_aload_n C 0 dX5_noteAll_94 rfl ?_
    refine r_geti C fl_X5_40 dX5_noteAll_95 th0 ?_
    refine r_icmp_ge C 173 dX5_noteAll_98 (by decide) ?_ ?_
    · exact r_return C X dX5_noteAll_173
    · refine r_aload_n C 0 dX5_noteAll_101 rfl ?_
      refine r_getr C fl_X5_31 dX5_noteAll_102 th0 (fun b1 tb1 => ?_)
      refine r_iload C 3 dX5_noteAll_105 rfl ?_
      refine r_dup2 C dX5_noteAll_107 rfl rfl ?_
      refine r_iald C dX5_noteAll_108 tb1 ?_
      refine r_iload C 3 dX5_noteAll_109 rfl ?_
      refine r_iload_n C 1 dX5_noteAll_111 rfl ?_
      refine r_icmp_ge C 127 dX5_noteAll_112 (by decide) ?_ ?_
      · refine r_aload_n C 0 dX5_noteAll_127 rfl ?_
        refine r_getr C fl_X5_9 dX5_noteAll_128 th0 (fun b2 tb2 => ?_)
        refine r_iload C 3 dX5_noteAll_131 rfl ?_
        refine r_iald C dX5_noteAll_133 tb2 ?_
        exact p_X5_noteAll_J134 C X ih S h0 x1 x5 x6 b1 x6 (ai S b1 x6.toNatClampNeg) (ai S b2 x6.toNatClampNeg) th0 tb1
      · refine r_iconst C (1 : Int32) dX5_noteAll_115 (by decide) ?_
        refine r_aload_n C 0 dX5_noteAll_116 rfl ?_
        refine r_getr C fl_X5_25 dX5_noteAll_117 th0 (fun b3 tb3 => ?_)
        refine r_iload C 3 dX5_noteAll_120 rfl ?_
        refine r_iald C dX5_noteAll_122 tb3 ?_
        refine r_ishl C dX5_noteAll_123 ?_
        refine r_goto C 134 dX5_noteAll_124 (by decide) ?_
        exact p_X5_noteAll_J134 C X ih S h0 x1 x5 x6 b1 x6 (ai S b1 x6.toNatClampNeg) ((1 : Int32) <<< ((ai S b3 x6.toNatClampNeg) &&& 31)) th0 tb1
set_option maxRecDepth 100000 in
set_option maxHeartbeats 4000000 in
theorem p_X5_noteAll_J68 {A : AM} {E : EN} {n : Nat} (C : Cx A E cX5_noteAll 7 RX5 1 21) (X : Ex A E none)  (S : WS) (h0 : Nat) (x1 : Int32) (x4 : Int32) (x5 : Int32) (g0 : Nat) (s1 : Int32) (th0 : Ty E h0 4) (tg0 : Ty E g0 4) : Gd A E 7 (QM A E wV tT) (f_X5_noteAll_J68 E n  S h0 x1 x4 x5 g0 s1) S 68 [(0, .ref h0), (1, .int x1), (4, .int x4), (5, .int x5)] [.int s1, .ref g0] := by
  unfold f_X5_noteAll_J68
  refine r_puti C fl_X5_47 dX5_noteAll_68 tg0 (fun S1 => ?_)
  refine r_aload_n C 0 dX5_noteAll_71 rfl ?_
  refine r_iload C 3 dX5_noteAll_72 rfl ?_
  refine r_if_eq C 82 dX5_noteAll_74 (by decide) ?_ ?_
  · refine r_aload_n C 0 dX5_noteAll_82 rfl ?_
    refine r_geti C fl_X5_44 dX5_noteAll_83 th0 ?_
    refine r_puti C fl_X5_44 dX5_noteAll_86 th0 (fun S2 => ?_)
    refine r_iconst C (0 : Int32) dX5_noteAll_89 (by decide) ?_
    refine r_istore C [(6, .int (0 : Int32)), (0, .ref h0), (1, .int x1), (4, .int x4), (5, .int x5)] dX5_noteAll_90 (by decide) rfl ?_
    refine r_sub [1, 2, 4, 0] [(0, .ref h0), (1, .int x1), (5, .int x5), (6, .int (0 : Int32))] rfl ?_
    exact p_X5_noteAll_L92 C X  n S2 h0 x1 x5 (0 : Int32) th0
  · refine r_iload C 2 dX5_noteAll_77 rfl ?_
    refine r_goto C 86 dX5_noteAll_79 (by decide) ?_
    refine r_puti C fl_X5_44 dX5_noteAll_86 th0 (fun S3 => ?_)
    refine r_iconst C (0 : Int32) dX5_noteAll_89 (by decide) ?_
    refine r_istore C [(6, .int (0 : Int32)), (0, .ref h0), (1, .int x1), (4, .int x4), (5, .int x5)] dX5_noteAll_90 (by decide) rfl ?_
    refine r_sub [1, 2, 4, 0] [(0, .ref h0), (1, .int x1), (5, .int x5), (6, .int (0 : Int32))] rfl ?_
    exact p_X5_noteAll_L92 C X  n S3 h0 x1 x5 (0 : Int32) th0
set_option maxRecDepth 100000 in
set_option maxHeartbeats 4000000 in
theorem p_X5_noteAll_J30 {A : AM} {E : EN} {n : Nat} (C : Cx A E cX5_noteAll 7 RX5 1 21) (X : Ex A E none)  (S : WS) (h0 : Nat) (x1 : Int32) (x3 : Int32) (x4 : Int32) (s0 : Int32) (th0 : Ty E h0 4) : Gd A E 7 (QM A E wV tT) (f_X5_noteAll_J30 E n  S h0 x1 x3 x4 s0) S 30 [(0, .ref h0), (1, .int x1), (3, .int x3), (4, .int x4)] [.int s0] := by
  unfold f_X5_noteAll_J30
  refine r_istore C [(5, .int s0), (0, .ref h0), (1, .int x1), (3, .int x3), (4, .int x4)] dX5_noteAll_30 (by decide) rfl ?_
  refine r_aload_n C 1 dX5_noteAll_32 rfl ?_
  refine r_dup C dX5_noteAll_33 rfl ?_
  refine r_geti C fl_X5_41 dX5_noteAll_34 th0 ?_
  refine r_aload_n C 1 dX5_noteAll_37 rfl ?_
  refine r_getr C fl_X5_22 dX5_noteAll_38 th0 (fun b1 tb1 => ?_)
  refine r_iload_n C 2 dX5_noteAll_41 rfl ?_
  refine r_iald C dX5_noteAll_42 tb1 ?_
  refine r_iadd C dX5_noteAll_43 ?_
  refine r_puti C fl_X5_41 dX5_noteAll_44 th0 (fun S2 => ?_)
  refine r_aload_n C 1 dX5_noteAll_47 rfl ?_
  refine r_aload_n C 1 dX5_noteAll_48 rfl ?_
  refine r_geti C fl_X5_47 dX5_noteAll_49 th0 ?_
  refine r_iconst C (-1 : Int32) dX5_noteAll_52 (by decide) ?_
  refine r_icmp_ne C 60 dX5_noteAll_53 (by decide) ?_ ?_
  · refine r_aload_n C 1 dX5_noteAll_60 rfl ?_
    refine r_geti C fl_X5_47 dX5_noteAll_61 th0 ?_
    refine r_iload_n C 3 dX5_noteAll_64 rfl ?_
    refine r_mmin C (mG 1067 (by decide +kernel) rfl) mmin_w ⟨by decide, by decide⟩ (Nat.le_of_ble_eq_true rfl) dX5_noteAll_65 ?_
    refine r_sub [1, 2, 4, 0] [(0, .ref h0), (1, .int x1), (4, .int x4), (5, .int s0)] rfl ?_
    exact p_X5_noteAll_J68 C X  S2 h0 x1 x4 s0 h0 (imin (gi S2 264 h0) x3) th0 th0
  · refine r_iload_n C 3 dX5_noteAll_56 rfl ?_
    refine r_goto C 68 dX5_noteAll_57 (by decide) ?_
    refine r_sub [1, 2, 4, 0] [(0, .ref h0), (1, .int x1), (4, .int x4), (5, .int s0)] rfl ?_
    exact p_X5_noteAll_J68 C X  S2 h0 x1 x4 s0 h0 x3 th0 th0
set_option maxRecDepth 100000 in
set_option maxHeartbeats 4000000 in
theorem c_X5_noteAll (l : Launch) (E : EN) (n : Nat) (h0 : Nat) (x1 : Int32) (x2 : Int32) (x3 : Int32) (th0 : Ty E h0 4) : CT l E yX5_noteAll cX5_noteAll 7 none 1 21 wV tT [.ref h0, .int x1, .int x2, .int x3] (fun S => f_X5_noteAll E n S h0 x1 x2 x3) := by
  refine ct_of RX5 (by decide +kernel) rfl [(0, .ref h0), (1, .int x1), (2, .int x2), (3, .int x3)] rfl (Nat.le_of_ble_eq_true rfl) (fun A S hA C X => ?_)
  subst hA
  show Gd A E 7 (QM A E wV tT) (f_X5_noteAll E n S h0 x1 x2 x3) S 0 [(0, .ref h0), (1, .int x1), (2, .int x2), (3, .int x3)] []
  unfold f_X5_noteAll
  refine r_iload_n C 3 dX5_noteAll_0 rfl ?_
  refine r_iload_n C 2 dX5_noteAll_1 rfl ?_
  refine r_callS (As := [.int x2]) (rest := [.int x3]) C (c_J6_bitCount_0f7a4 _ E n x2 ) dX5_noteAll_2 ml_X5_63 mv_J6_bitCount_0f7a4 rfl rfl ⟨by decide, by decide⟩ (Nat.le_of_ble_eq_true rfl) (fun v2 S1 hv2 => ?_)
  refine r_isub C dX5_noteAll_5 ?_
  refine r_topi (fun y3 => ?_)
  refine r_istore C [(4, .int y3), (0, .ref h0), (1, .int x1), (2, .int x2), (3, .int x3)] dX5_noteAll_6 (by decide) rfl ?_
  refine r_aload_n C 1 dX5_noteAll_8 rfl ?_
  refine r_geti C fl_X5_44 dX5_noteAll_9 th0 ?_
  refine r_iconst C (-1 : Int32) dX5_noteAll_12 (by decide) ?_
  refine r_icmp_eq C 25 dX5_noteAll_13 (by decide) ?_ ?_
  · refine r_iconst C (1 : Int32) dX5_noteAll_25 (by decide) ?_
    refine r_goto C 30 dX5_noteAll_26 (by decide) ?_
    refine r_sub [1, 2, 4, 0] [(0, .ref h0), (1, .int x1), (3, .int x3), (4, .int y3)] rfl ?_
    exact p_X5_noteAll_J30 C X  S1 h0 x1 x3 y3 (1 : Int32) th0
  · refine r_iload C 0 dX5_noteAll_16 rfl ?_
    refine r_aload_n C 1 dX5_noteAll_18 rfl ?_
    refine r_geti C fl_X5_44 dX5_noteAll_19 th0 ?_
    refine r_icmp_ge C 29 dX5_noteAll_22 (by decide) ?_ ?_
    · refine r_iconst C (0 : Int32) dX5_noteAll_29 (by decide) ?_
      refine r_sub [1, 2, 4, 0] [(0, .ref h0), (1, .int x1), (3, .int x3), (4, .int y3)] rfl ?_
      exact p_X5_noteAll_J30 C X  S1 h0 x1 x3 y3 (0 : Int32) th0
    · refine r_iconst C (1 : Int32) dX5_noteAll_25 (by decide) ?_
      refine r_goto C 30 dX5_noteAll_26 (by decide) ?_
      refine r_sub [1, 2, 4, 0] [(0, .ref h0), (1, .int x1), (3, .int x3), (4, .int y3)] rfl ?_
      exact p_X5_noteAll_J30 C X  S1 h0 x1 x3 y3 (1 : Int32) th0
set_option maxRecDepth 100000 in
set_option maxHeartbeats 4000000 in
theorem p_X7_noteWay_J42 {A : AM} {E : EN} {n : Nat} (C : Cx A E cX7_noteWay 4 RX7 2 51) (X : Ex A E none)  (S : WS) (h0 : Nat) (x1 : Int32) (x2 : Int64) (th0 : Ty E h0 6) : Gd A E 4 (QM A E wV tT) (f_X7_noteWay_J42 E n  S h0 x1 x2) S 42 [(0, .ref h0), (1, .int x1), (2, .long x2)] [] := by
  unfold f_X7_noteWay_J42
  refine r_lload_n C 2 dX7_noteWay_42 rfl ?_
  refine r_aload_n C 0 dX7_noteWay_43 rfl ?_
  refine r_getj C fl_X7_56 dX7_noteWay_44 th0 ?_
  refine r_lcmp C dX7_noteWay_47 ?_
  refine r_if_gt C 68 dX7_noteWay_48 (by decide) ?_ ?_
  · refine r_aload_n C 0 dX7_noteWay_68 rfl ?_
    refine r_lload_n C 2 dX7_noteWay_69 rfl ?_
    refine r_putj C fl_X7_56 dX7_noteWay_70 th0 (fun S1 => ?_)
    refine r_aload_n C 0 dX7_noteWay_73 rfl ?_
    refine r_iload_n C 1 dX7_noteWay_74 rfl ?_
    refine r_puti C fl_X7_51 dX7_noteWay_75 th0 (fun S2 => ?_)
    refine r_aload_n C 0 dX7_noteWay_78 rfl ?_
    refine r_getr C fl_X7_18 dX7_noteWay_79 th0 (fun b3 tb3 => ?_)
    refine r_aload_n C 0 dX7_noteWay_82 rfl ?_
    refine r_getr C fl_X7_25 dX7_noteWay_83 th0 (fun b4 tb4 => ?_)
    refine r_callS (As := [.ref b3, .ref b4]) (rest := []) C (c_X8_copyRow _ E n b3 b4 tb3 tb4) dX7_noteWay_86 ml_X7_84 mv_X8_copyRow rfl rfl ⟨by decide, by decide⟩ (Nat.le_of_ble_eq_true rfl) (fun v6 S5 hv6 => ?_)
    exact r_return C X dX7_noteWay_89
  · refine r_lload_n C 2 dX7_noteWay_51 rfl ?_
    refine r_aload_n C 0 dX7_noteWay_52 rfl ?_
    refine r_getj C fl_X7_56 dX7_noteWay_53 th0 ?_
    refine r_lcmp C dX7_noteWay_56 ?_
    refine r_if_ne C 89 dX7_noteWay_57 (by decide) ?_ ?_
    · exact r_return C X dX7_noteWay_89
    · refine r_iload_n C 1 dX7_noteWay_60 rfl ?_
      refine r_aload_n C 0 dX7_noteWay_61 rfl ?_
      refine r_geti C fl_X7_51 dX7_noteWay_62 th0 ?_
      refine r_icmp_ge C 89 dX7_noteWay_65 (by decide) ?_ ?_
      · exact r_return C X dX7_noteWay_89
      · refine r_aload_n C 0 dX7_noteWay_68 rfl ?_
        refine r_lload_n C 2 dX7_noteWay_69 rfl ?_
        refine r_putj C fl_X7_56 dX7_noteWay_70 th0 (fun S7 => ?_)
        refine r_aload_n C 0 dX7_noteWay_73 rfl ?_
        refine r_iload_n C 1 dX7_noteWay_74 rfl ?_
        refine r_puti C fl_X7_51 dX7_noteWay_75 th0 (fun S8 => ?_)
        refine r_aload_n C 0 dX7_noteWay_78 rfl ?_
        refine r_getr C fl_X7_18 dX7_noteWay_79 th0 (fun b9 tb9 => ?_)
        refine r_aload_n C 0 dX7_noteWay_82 rfl ?_
        refine r_getr C fl_X7_25 dX7_noteWay_83 th0 (fun b10 tb10 => ?_)
        refine r_callS (As := [.ref b9, .ref b10]) (rest := []) C (c_X8_copyRow _ E n b9 b10 tb9 tb10) dX7_noteWay_86 ml_X7_84 mv_X8_copyRow rfl rfl ⟨by decide, by decide⟩ (Nat.le_of_ble_eq_true rfl) (fun v12 S11 hv12 => ?_)
        exact r_return C X dX7_noteWay_89
set_option maxRecDepth 100000 in
set_option maxHeartbeats 4000000 in
theorem c_X7_noteWay (l : Launch) (E : EN) (n : Nat) (h0 : Nat) (x1 : Int32) (x2 : Int64) (th0 : Ty E h0 6) : CT l E yX7_noteWay cX7_noteWay 4 none 2 51 wV tT [.ref h0, .int x1, .long x2] (fun S => f_X7_noteWay E n S h0 x1 x2) := by
  refine ct_of RX7 (by decide +kernel) rfl [(0, .ref h0), (1, .int x1), (2, .long x2)] rfl (Nat.le_of_ble_eq_true rfl) (fun A S hA C X => ?_)
  subst hA
  show Gd A E 4 (QM A E wV tT) (f_X7_noteWay E n S h0 x1 x2) S 0 [(0, .ref h0), (1, .int x1), (2, .long x2)] []
  unfold f_X7_noteWay
  refine r_aload_n C 0 dX7_noteWay_0 rfl ?_
  refine r_dup C dX7_noteWay_1 rfl ?_
  refine r_geti C fl_X7_45 dX7_noteWay_2 th0 ?_
  refine r_iconst C (1 : Int32) dX7_noteWay_5 (by decide) ?_
  refine r_iadd C dX7_noteWay_6 ?_
  refine r_puti C fl_X7_45 dX7_noteWay_7 th0 (fun S1 => ?_)
  refine r_aload_n C 0 dX7_noteWay_10 rfl ?_
  refine r_geti C fl_X7_48 dX7_noteWay_11 th0 ?_
  refine r_iconst C (-1 : Int32) dX7_noteWay_14 (by decide) ?_
  refine r_icmp_eq C 26 dX7_noteWay_15 (by decide) ?_ ?_
  · refine r_aload_n C 0 dX7_noteWay_26 rfl ?_
    refine r_iload_n C 1 dX7_noteWay_27 rfl ?_
    refine r_puti C fl_X7_48 dX7_noteWay_28 th0 (fun S2 => ?_)
    refine r_aload_n C 0 dX7_noteWay_31 rfl ?_
    refine r_getr C fl_X7_18 dX7_noteWay_32 th0 (fun b3 tb3 => ?_)
    refine r_aload_n C 0 dX7_noteWay_35 rfl ?_
    refine r_getr C fl_X7_22 dX7_noteWay_36 th0 (fun b4 tb4 => ?_)
    refine r_callS (As := [.ref b3, .ref b4]) (rest := []) C (c_X8_copyRow _ E n b3 b4 tb3 tb4) dX7_noteWay_39 ml_X7_84 mv_X8_copyRow rfl rfl ⟨by decide, by decide⟩ (Nat.le_of_ble_eq_true rfl) (fun v6 S5 hv6 => ?_)
    exact p_X7_noteWay_J42 C X  S5 h0 x1 x2 th0
  · refine r_iload_n C 1 dX7_noteWay_18 rfl ?_
    refine r_aload_n C 0 dX7_noteWay_19 rfl ?_
    refine r_geti C fl_X7_48 dX7_noteWay_20 th0 ?_
    refine r_icmp_ge C 42 dX7_noteWay_23 (by decide) ?_ ?_
    · exact p_X7_noteWay_J42 C X  S1 h0 x1 x2 th0
    · refine r_aload_n C 0 dX7_noteWay_26 rfl ?_
      refine r_iload_n C 1 dX7_noteWay_27 rfl ?_
      refine r_puti C fl_X7_48 dX7_noteWay_28 th0 (fun S7 => ?_)
      refine r_aload_n C 0 dX7_noteWay_31 rfl ?_
      refine r_getr C fl_X7_18 dX7_noteWay_32 th0 (fun b8 tb8 => ?_)
      refine r_aload_n C 0 dX7_noteWay_35 rfl ?_
      refine r_getr C fl_X7_22 dX7_noteWay_36 th0 (fun b9 tb9 => ?_)
      refine r_callS (As := [.ref b8, .ref b9]) (rest := []) C (c_X8_copyRow _ E n b8 b9 tb8 tb9) dX7_noteWay_39 ml_X7_84 mv_X8_copyRow rfl rfl ⟨by decide, by decide⟩ (Nat.le_of_ble_eq_true rfl) (fun v11 S10 hv11 => ?_)
      exact p_X7_noteWay_J42 C X  S10 h0 x1 x2 th0
set_option maxRecDepth 100000 in
set_option maxHeartbeats 4000000 in
theorem c_X8_feed (l : Launch) (E : EN) (n : Nat) (h0 : Nat) (x1 : Int32) (x2 : Int32) (x3 : Int32) (x4 : Int32) (x5 : Int32) (th0 : Ty E h0 7) : CT l E yX8_feed cX8_feed 6 (some .int) 1 22 wI tT [.ref h0, .int x1, .int x2, .int x3, .int x4, .int x5] (fun S => f_X8_feed E n S h0 x1 x2 x3 x4 x5) := by
  refine ct_of RX8 (by decide +kernel) rfl [(0, .ref h0), (1, .int x1), (2, .int x2), (3, .int x3), (4, .int x4), (5, .int x5)] rfl (Nat.le_of_ble_eq_true rfl) (fun A S hA C X => ?_)
  subst hA
  show Gd A E 6 (QM A E wI tT) (f_X8_feed E n S h0 x1 x2 x3 x4 x5) S 0 [(0, .ref h0), (1, .int x1), (2, .int x2), (3, .int x3), (4, .int x4), (5, .int x5)] []
  unfold f_X8_feed
  refine r_aload_n C 0 dX8_feed_0 rfl ?_
  refine r_geti C fl_X8_13 dX8_feed_1 th0 ?_
  refine r_bipush C (20 : Int32) dX8_feed_4 (by decide) ?_
  refine r_iadd C dX8_feed_6 ?_
  refine r_sipush C (1400 : Int32) dX8_feed_7 (by decide) ?_
  refine r_icmp_le C 15 dX8_feed_10 (by decide) ?_ ?_
  · refine r_aload_n C 0 dX8_feed_15 rfl ?_
    refine r_iload_n C 1 dX8_feed_16 rfl ?_
    refine r_callV (As := [.int x1]) (rest := []) C (c_X8_putNumber _ E n h0 x1 th0) dX8_feed_17 ml_X8_87 mv_X8_putNumber ⟨TX8, _, rfl⟩ (by decide) th0 rfl rfl ⟨by decide, by decide⟩ (Nat.le_of_ble_eq_true rfl) (fun v2 S1 hv2 => ?_)
    refine r_aload_n C 0 dX8_feed_20 rfl ?_
    refine r_iload_n C 2 dX8_feed_21 rfl ?_
    refine r_callV (As := [.int x2]) (rest := []) C (c_X8_putNumber _ E n h0 x2 th0) dX8_feed_22 ml_X8_87 mv_X8_putNumber ⟨TX8, _, rfl⟩ (by decide) th0 rfl rfl ⟨by decide, by decide⟩ (Nat.le_of_ble_eq_true rfl) (fun v4 S3 hv4 => ?_)
    refine r_aload_n C 0 dX8_feed_25 rfl ?_
    refine r_iload_n C 3 dX8_feed_26 rfl ?_
    refine r_callV (As := [.int x3]) (rest := []) C (c_X8_putNumber _ E n h0 x3 th0) dX8_feed_27 ml_X8_87 mv_X8_putNumber ⟨TX8, _, rfl⟩ (by decide) th0 rfl rfl ⟨by decide, by decide⟩ (Nat.le_of_ble_eq_true rfl) (fun v6 S5 hv6 => ?_)
    refine r_aload_n C 0 dX8_feed_30 rfl ?_
    refine r_iload C 4 dX8_feed_31 rfl ?_
    refine r_callV (As := [.int x4]) (rest := []) C (c_X8_putNumber _ E n h0 x4 th0) dX8_feed_33 ml_X8_87 mv_X8_putNumber ⟨TX8, _, rfl⟩ (by decide) th0 rfl rfl ⟨by decide, by decide⟩ (Nat.le_of_ble_eq_true rfl) (fun v8 S7 hv8 => ?_)
    refine r_aload_n C 0 dX8_feed_36 rfl ?_
    refine r_iload C 5 dX8_feed_37 rfl ?_
    refine r_callV (As := [.int x5]) (rest := []) C (c_X8_putNumber _ E n h0 x5 th0) dX8_feed_39 ml_X8_87 mv_X8_putNumber ⟨TX8, _, rfl⟩ (by decide) th0 rfl rfl ⟨by decide, by decide⟩ (Nat.le_of_ble_eq_true rfl) (fun v10 S9 hv10 => ?_)
    refine r_aload_n C 0 dX8_feed_42 rfl ?_
    refine r_geti C fl_X8_13 dX8_feed_43 th0 ?_
    exact r_ireturn C X dX8_feed_46
  · refine r_iconst C (-1 : Int32) dX8_feed_13 (by decide) ?_
    exact r_ireturn C X dX8_feed_14
set_option maxRecDepth 100000 in
set_option maxHeartbeats 4000000 in
theorem c_X8_leap (l : Launch) (E : EN) (n : Nat) (h0 : Nat) (x1 : Int32) (x2 : Int32) (th0 : Ty E h0 7) : CT l E yX8_leap cX8_leap 3 (some .int) 4 94 wI tT [.ref h0, .int x1, .int x2] (fun S => f_X8_leap E n S h0 x1 x2) := by
  refine ct_of RX8 (by decide +kernel) rfl [(0, .ref h0), (1, .int x1), (2, .int x2)] rfl (Nat.le_of_ble_eq_true rfl) (fun A S hA C X => ?_)
  subst hA
  show Gd A E 3 (QM A E wI tT) (f_X8_leap E n S h0 x1 x2) S 0 [(0, .ref h0), (1, .int x1), (2, .int x2)] []
  unfold f_X8_leap
  refine r_aload_n C 0 dX8_leap_0 rfl ?_
  refine r_iload_n C 1 dX8_leap_1 rfl ?_
  refine r_iload_n C 2 dX8_leap_2 rfl ?_
  refine r_callV (As := [.int x1, .int x2]) (rest := []) C (c_X8_knowsPath _ E n h0 x1 x2 th0) dX8_leap_3 ml_X8_167 mv_X8_knowsPath ⟨TX8, _, rfl⟩ (by decide) th0 rfl rfl ⟨by decide, by decide⟩ (Nat.le_of_ble_eq_true rfl) (fun v2 S1 hv2 => ?_)
  refine r_if_eq C 21 dX8_leap_6 (by decide) ?_ ?_
  · refine r_bipush C (-2 : Int32) dX8_leap_21 (by decide) ?_
    exact r_ireturn C X dX8_leap_23
  · refine r_aload_n C 0 dX8_leap_9 rfl ?_
    refine r_getr C fl_X8_27 dX8_leap_10 th0 (fun b3 tb3 => ?_)
    refine r_iload_n C 1 dX8_leap_13 rfl ?_
    refine r_iload_n C 2 dX8_leap_14 rfl ?_
    refine r_callV (As := [.int x1, .int x2]) (rest := []) C (c_X3_leapOf _ E n b3 x1 x2 tb3) dX8_leap_15 ml_X8_178 mv_X3_leapOf ⟨TX3, _, rfl⟩ (by decide) tb3 rfl rfl ⟨by decide, by decide⟩ (Nat.le_of_ble_eq_true rfl) (fun v5 S4 hv5 => ?_)
    refine r_goto C 23 dX8_leap_18 (by decide) ?_
    exact r_ireturn C X dX8_leap_23
set_option maxRecDepth 100000 in
set_option maxHeartbeats 4000000 in
theorem c_X8_lacks (l : Launch) (E : EN) (n : Nat) (h0 : Nat) (x1 : Int32) (x2 : Int32) (x3 : Int32) (th0 : Ty E h0 7) : CT l E yX8_lacks cX8_lacks 4 (some .int) 4 95 wI tT [.ref h0, .int x1, .int x2, .int x3] (fun S => f_X8_lacks E n S h0 x1 x2 x3) := by
  refine ct_of RX8 (by decide +kernel) rfl [(0, .ref h0), (1, .int x1), (2, .int x2), (3, .int x3)] rfl (Nat.le_of_ble_eq_true rfl) (fun A S hA C X => ?_)
  subst hA
  show Gd A E 4 (QM A E wI tT) (f_X8_lacks E n S h0 x1 x2 x3) S 0 [(0, .ref h0), (1, .int x1), (2, .int x2), (3, .int x3)] []
  unfold f_X8_lacks
  refine r_aload_n C 0 dX8_lacks_0 rfl ?_
  refine r_iload_n C 1 dX8_lacks_1 rfl ?_
  refine r_iload_n C 2 dX8_lacks_2 rfl ?_
  refine r_callV (As := [.int x1, .int x2]) (rest := []) C (c_X8_knowsPath _ E n h0 x1 x2 th0) dX8_lacks_3 ml_X8_167 mv_X8_knowsPath ⟨TX8, _, rfl⟩ (by decide) th0 rfl rfl ⟨by decide, by decide⟩ (Nat.le_of_ble_eq_true rfl) (fun v2 S1 hv2 => ?_)
  refine r_if_eq C 19 dX8_lacks_6 (by decide) ?_ ?_
  · refine r_bipush C (-2 : Int32) dX8_lacks_19 (by decide) ?_
    exact r_ireturn C X dX8_lacks_21
  · refine r_iload_n C 3 dX8_lacks_9 rfl ?_
    refine r_if_lt C 19 dX8_lacks_10 (by decide) ?_ ?_
    · refine r_bipush C (-2 : Int32) dX8_lacks_19 (by decide) ?_
      exact r_ireturn C X dX8_lacks_21
    · refine r_iload_n C 3 dX8_lacks_13 rfl ?_
      refine r_bipush C (99 : Int32) dX8_lacks_14 (by decide) ?_
      refine r_icmp_le C 22 dX8_lacks_16 (by decide) ?_ ?_
      · refine r_aload_n C 0 dX8_lacks_22 rfl ?_
        refine r_getr C fl_X8_27 dX8_lacks_23 th0 (fun b3 tb3 => ?_)
        refine r_iload_n C 1 dX8_lacks_26 rfl ?_
        refine r_iload_n C 2 dX8_lacks_27 rfl ?_
        refine r_iload_n C 3 dX8_lacks_28 rfl ?_
        refine r_callV (As := [.int x1, .int x2, .int x3]) (rest := []) C (c_X3_lackingOn _ E n b3 x1 x2 x3 tb3) dX8_lacks_29 ml_X8_185 mv_X3_lackingOn ⟨TX3, _, rfl⟩ (by decide) tb3 rfl rfl ⟨by decide, by decide⟩ (Nat.le_of_ble_eq_true rfl) (fun v5 S4 hv5 => ?_)
        exact r_ireturn C X dX8_lacks_32
      · refine r_bipush C (-2 : Int32) dX8_lacks_19 (by decide) ?_
        exact r_ireturn C X dX8_lacks_21
set_option maxRecDepth 100000 in
set_option maxHeartbeats 4000000 in
theorem p_X8_most_L17 {A : AM} {E : EN} {n : Nat} (C : Cx A E cX8_most 5 RX8 3 67) (X : Ex A E (some .int))  : ∀ (m : Nat) (S : WS) (h0 : Nat) (x1 : Int32) (x2 : Int32) (x3 : Int32) (x4 : Int32) (th0 : Ty E h0 7), Gd A E 5 (QM A E wI tT) (f_X8_most_L17 E n  m S h0 x1 x2 x3 x4) S 17 [(0, .ref h0), (1, .int x1), (2, .int x2), (3, .int x3), (4, .int x4)] [] := by
  intro m
  induction m with
  | zero => intros; exact gn
  | succ m ih =>
    intro S h0 x1 x2 x3 x4 th0
    unfold f_X8_most_L17
    refine r_iload C 4 dX8_most_17 rfl ?_
    refine r_aload_n C 0 dX8_most_19 rfl ?_
    refine r_getr C fl_X8_27 dX8_most_20 th0 (fun b1 tb1 => ?_)
    refine r_geti C fl_X8_161 dX8_most_23 tb1 ?_
    refine r_icmp_ge C 49 dX8_most_26 (by decide) ?_ ?_
    · refine r_iload_n C 3 dX8_most_49 rfl ?_
      exact r_ireturn C X dX8_most_50
    · refine r_aload_n C 0 dX8_most_29 rfl ?_
      refine r_iload C 4 dX8_most_30 rfl ?_
      refine r_iload_n C 1 dX8_most_32 rfl ?_
      refine r_iload_n C 2 dX8_most_33 rfl ?_
      refine r_callV (As := [.int x4, .int x1, .int x2]) (rest := []) C (c_X8_couldStep _ E n h0 x4 x1 x2 th0) dX8_most_34 ml_X8_200 mv_X8_couldStep ⟨TX8, _, rfl⟩ (by decide) th0 rfl rfl ⟨by decide, by decide⟩ (Nat.le_of_ble_eq_true rfl) (fun v3 S2 hv3 => ?_)
      refine r_if_eq C 43 dX8_most_37 (by decide) ?_ ?_
      · refine r_iinc C 4 (fun y4 => [(4, .int y4), (0, .ref h0), (1, .int x1), (2, .int x2), (3, .int x3)]) dX8_most_43 rfl (v := (1 : Int32)) (by decide) (by decide) (fun _ => rfl) (fun y4 => ?_)
        refine r_goto C 17 dX8_most_46 (by decide) ?_
        refine r_sub [1, 2, 3, 4, 0] [(0, .ref h0), (1, .int x1), (2, .int x2), (3, .int x3), (4, .int y4)] rfl ?_
        exact ih S2 h0 x1 x2 x3 y4 th0
      · refine r_iinc C 3 (fun y5 => [(3, .int y5), (0, .ref h0), (1, .int x1), (2, .int x2), (4, .int x4)]) dX8_most_40 rfl (v := (1 : Int32)) (by decide) (by decide) (fun _ => rfl) (fun y5 => ?_)
        refine r_iinc C 4 (fun y6 => [(4, .int y6), (3, .int y5), (0, .ref h0), (1, .int x1), (2, .int x2)]) dX8_most_43 rfl (v := (1 : Int32)) (by decide) (by decide) (fun _ => rfl) (fun y6 => ?_)
        refine r_goto C 17 dX8_most_46 (by decide) ?_
        refine r_sub [2, 3, 4, 1, 0] [(0, .ref h0), (1, .int x1), (2, .int x2), (3, .int y5), (4, .int y6)] rfl ?_
        exact ih S2 h0 x1 x2 y5 y6 th0
set_option maxRecDepth 100000 in
set_option maxHeartbeats 4000000 in
theorem c_X8_most (l : Launch) (E : EN) (n : Nat) (h0 : Nat) (x1 : Int32) (x2 : Int32) (th0 : Ty E h0 7) : CT l E yX8_most cX8_most 5 (some .int) 3 67 wI tT [.ref h0, .int x1, .int x2] (fun S => f_X8_most E n S h0 x1 x2) := by
  refine ct_of RX8 (by decide +kernel) rfl [(0, .ref h0), (1, .int x1), (2, .int x2)] rfl (Nat.le_of_ble_eq_true rfl) (fun A S hA C X => ?_)
  subst hA
  show Gd A E 5 (QM A E wI tT) (f_X8_most E n S h0 x1 x2) S 0 [(0, .ref h0), (1, .int x1), (2, .int x2)] []
  unfold f_X8_most
  refine r_aload_n C 0 dX8_most_0 rfl ?_
  refine r_iload_n C 1 dX8_most_1 rfl ?_
  refine r_iload_n C 2 dX8_most_2 rfl ?_
  refine r_callV (As := [.int x1, .int x2]) (rest := []) C (c_X8_knowsPath _ E n h0 x1 x2 th0) dX8_most_3 ml_X8_167 mv_X8_knowsPath ⟨TX8, _, rfl⟩ (by decide) th0 rfl rfl ⟨by decide, by decide⟩ (Nat.le_of_ble_eq_true rfl) (fun v2 S1 hv2 => ?_)
  refine r_if_ne C 12 dX8_most_6 (by decide) ?_ ?_
  · refine r_iconst C (0 : Int32) dX8_most_12 (by decide) ?_
    refine r_istore_n C [(3, .int (0 : Int32)), (0, .ref h0), (1, .int x1), (2, .int x2)] dX8_most_13 (by decide) rfl ?_
    refine r_iconst C (0 : Int32) dX8_most_14 (by decide) ?_
    refine r_istore C [(4, .int (0 : Int32)), (3, .int (0 : Int32)), (0, .ref h0), (1, .int x1), (2, .int x2)] dX8_most_15 (by decide) rfl ?_
    refine r_sub [2, 3, 4, 1, 0] [(0, .ref h0), (1, .int x1), (2, .int x2), (3, .int (0 : Int32)), (4, .int (0 : Int32))] rfl ?_
    exact p_X8_most_L17 C X  n S1 h0 x1 x2 (0 : Int32) (0 : Int32) th0
  · refine r_bipush C (-2 : Int32) dX8_most_9 (by decide) ?_
    exact r_ireturn C X dX8_most_11
set_option maxRecDepth 100000 in
set_option maxHeartbeats 4000000 in
theorem c_X8_lowestTerm (l : Launch) (E : EN) (n : Nat) (x0 : Int64) (x2 : Int32) : CT l E yX8_lowestTerm cX8_lowestTerm 7 (some .long) 1 30 wJ tT [.long x0, .int x2] (fun S => f_X8_lowestTerm E n S x0 x2) := by
  refine ct_of RX8 (by decide +kernel) rfl [(0, .long x0), (2, .int x2)] rfl (Nat.le_of_ble_eq_true rfl) (fun A S hA C X => ?_)
  subst hA
  show Gd A E 7 (QM A E wJ tT) (f_X8_lowestTerm E n S x0 x2) S 0 [(0, .long x0), (2, .int x2)] []
  unfold f_X8_lowestTerm
  refine r_ldc2 C (100000000000000 : Int64) (mG 838 (by decide +kernel) rfl) dX8_lowestTerm_0 ?_
  refine r_lload_n C 0 dX8_lowestTerm_3 rfl ?_
  refine r_callS (As := [.long (100000000000000 : Int64), .long x0]) (rest := []) C (c_X8_commonDivisor _ E n (100000000000000 : Int64) x0 ) dX8_lowestTerm_4 ml_X8_215 mv_X8_commonDivisor rfl rfl ⟨by decide, by decide⟩ (Nat.le_of_ble_eq_true rfl) (fun v2 S1 hv2 => ?_)
  refine r_lstore_n C [(3, .long v2), (0, .long x0), (2, .int x2)] dX8_lowestTerm_7 (by decide) rfl ?_
  refine r_iload_n C 2 dX8_lowestTerm_8 rfl ?_
  refine r_if_ne C 16 dX8_lowestTerm_9 (by decide) ?_ ?_
  · refine r_ldc2 C (100000000000000 : Int64) (mG 838 (by decide +kernel) rfl) dX8_lowestTerm_16 ?_
    refine r_lstore C [(5, .long (100000000000000 : Int64)), (3, .long v2), (0, .long x0), (2, .int x2)] dX8_lowestTerm_19 (by decide) rfl ?_
    refine r_lload_n C 1 dX8_lowestTerm_21 rfl ?_
    refine r_lconst C (0 : Int64) dX8_lowestTerm_22 (by decide) ?_
    refine r_lcmp C dX8_lowestTerm_23 ?_
    refine r_if_le C 34 dX8_lowestTerm_24 (by decide) ?_ ?_
    · refine r_lload C 0 dX8_lowestTerm_34 rfl ?_
      exact r_lreturn C X dX8_lowestTerm_36
    · refine r_lload C 0 dX8_lowestTerm_27 rfl ?_
      refine r_lload_n C 1 dX8_lowestTerm_29 rfl ?_
      refine r_ldiv C dX8_lowestTerm_30 ?_
      refine r_goto C 36 dX8_lowestTerm_31 (by decide) ?_
      exact r_lreturn C X dX8_lowestTerm_36
  · refine r_lload_n C 1 dX8_lowestTerm_12 rfl ?_
    refine r_goto C 19 dX8_lowestTerm_13 (by decide) ?_
    refine r_lstore C [(5, .long x0), (3, .long v2), (0, .long x0), (2, .int x2)] dX8_lowestTerm_19 (by decide) rfl ?_
    refine r_lload_n C 1 dX8_lowestTerm_21 rfl ?_
    refine r_lconst C (0 : Int64) dX8_lowestTerm_22 (by decide) ?_
    refine r_lcmp C dX8_lowestTerm_23 ?_
    refine r_if_le C 34 dX8_lowestTerm_24 (by decide) ?_ ?_
    · refine r_lload C 0 dX8_lowestTerm_34 rfl ?_
      exact r_lreturn C X dX8_lowestTerm_36
    · refine r_lload C 0 dX8_lowestTerm_27 rfl ?_
      refine r_lload_n C 1 dX8_lowestTerm_29 rfl ?_
      refine r_ldiv C dX8_lowestTerm_30 ?_
      refine r_goto C 36 dX8_lowestTerm_31 (by decide) ?_
      exact r_lreturn C X dX8_lowestTerm_36
set_option maxRecDepth 100000 in
set_option maxHeartbeats 4000000 in
theorem c_X8_reach (l : Launch) (E : EN) (n : Nat) (h0 : Nat) (x1 : Int32) (x2 : Int32) (th0 : Ty E h0 7) : CT l E yX8_reach cX8_reach 3 (some .int) 5 120 wI tT [.ref h0, .int x1, .int x2] (fun S => f_X8_reach E n S h0 x1 x2) := by
  refine ct_of RX8 (by decide +kernel) rfl [(0, .ref h0), (1, .int x1), (2, .int x2)] rfl (Nat.le_of_ble_eq_true rfl) (fun A S hA C X => ?_)
  subst hA
  show Gd A E 3 (QM A E wI tT) (f_X8_reach E n S h0 x1 x2) S 0 [(0, .ref h0), (1, .int x1), (2, .int x2)] []
  unfold f_X8_reach
  refine r_aload_n C 0 dX8_reach_0 rfl ?_
  refine r_getr C fl_X8_27 dX8_reach_1 th0 (fun b1 tb1 => ?_)
  refine r_iload_n C 1 dX8_reach_4 rfl ?_
  refine r_callV (As := [.int x1]) (rest := []) C (c_X3_hasWalker _ E n b1 x1 tb1) dX8_reach_5 ml_X8_219 mv_X3_hasWalker ⟨TX3, _, rfl⟩ (by decide) tb1 rfl rfl ⟨by decide, by decide⟩ (Nat.le_of_ble_eq_true rfl) (fun v3 S2 hv3 => ?_)
  refine r_if_eq C 35 dX8_reach_8 (by decide) ?_ ?_
  · refine r_bipush C (-2 : Int32) dX8_reach_35 (by decide) ?_
    exact r_ireturn C X dX8_reach_37
  · refine r_aload_n C 0 dX8_reach_11 rfl ?_
    refine r_getr C fl_X8_27 dX8_reach_12 th0 (fun b4 tb4 => ?_)
    refine r_iload_n C 2 dX8_reach_15 rfl ?_
    refine r_callV (As := [.int x2]) (rest := []) C (c_X3_hasYear _ E n b4 x2 tb4) dX8_reach_16 ml_X8_164 mv_X3_hasYear ⟨TX3, _, rfl⟩ (by decide) tb4 rfl rfl ⟨by decide, by decide⟩ (Nat.le_of_ble_eq_true rfl) (fun v6 S5 hv6 => ?_)
    refine r_if_eq C 35 dX8_reach_19 (by decide) ?_ ?_
    · refine r_bipush C (-2 : Int32) dX8_reach_35 (by decide) ?_
      exact r_ireturn C X dX8_reach_37
    · refine r_aload_n C 0 dX8_reach_22 rfl ?_
      refine r_getr C fl_X8_27 dX8_reach_23 th0 (fun b7 tb7 => ?_)
      refine r_iload_n C 1 dX8_reach_26 rfl ?_
      refine r_iload_n C 2 dX8_reach_27 rfl ?_
      refine r_iconst C (-1 : Int32) dX8_reach_28 (by decide) ?_
      refine r_callV (As := [.int x1, .int x2, .int (-1 : Int32)]) (rest := []) C (c_X3_reachOf _ E n b7 x1 x2 (-1 : Int32) tb7) dX8_reach_29 ml_X8_225 mv_X3_reachOf ⟨TX3, _, rfl⟩ (by decide) tb7 rfl rfl ⟨by decide, by decide⟩ (Nat.le_of_ble_eq_true rfl) (fun v9 S8 hv9 => ?_)
      refine r_goto C 37 dX8_reach_32 (by decide) ?_
      exact r_ireturn C X dX8_reach_37
set_option maxRecDepth 100000 in
set_option maxHeartbeats 4000000 in
theorem c_X8_canCome (l : Launch) (E : EN) (n : Nat) (h0 : Nat) (x1 : Int32) (x2 : Int32) (x3 : Int32) (th0 : Ty E h0 7) : CT l E yX8_canCome cX8_canCome 4 (some .boolean) 5 120 wI tT [.ref h0, .int x1, .int x2, .int x3] (fun S => f_X8_canCome E n S h0 x1 x2 x3) := by
  refine ct_of RX8 (by decide +kernel) rfl [(0, .ref h0), (1, .int x1), (2, .int x2), (3, .int x3)] rfl (Nat.le_of_ble_eq_true rfl) (fun A S hA C X => ?_)
  subst hA
  show Gd A E 4 (QM A E wI tT) (f_X8_canCome E n S h0 x1 x2 x3) S 0 [(0, .ref h0), (1, .int x1), (2, .int x2), (3, .int x3)] []
  unfold f_X8_canCome
  refine r_aload_n C 0 dX8_canCome_0 rfl ?_
  refine r_getr C fl_X8_27 dX8_canCome_1 th0 (fun b1 tb1 => ?_)
  refine r_iload_n C 1 dX8_canCome_4 rfl ?_
  refine r_iload_n C 3 dX8_canCome_5 rfl ?_
  refine r_iconst C (-1 : Int32) dX8_canCome_6 (by decide) ?_
  refine r_callV (As := [.int x1, .int x3, .int (-1 : Int32)]) (rest := []) C (c_X3_reachOf _ E n b1 x1 x3 (-1 : Int32) tb1) dX8_canCome_7 ml_X8_225 mv_X3_reachOf ⟨TX3, _, rfl⟩ (by decide) tb1 rfl rfl ⟨by decide, by decide⟩ (Nat.le_of_ble_eq_true rfl) (fun v3 S2 hv3 => ?_)
  refine r_iload_n C 2 dX8_canCome_10 rfl ?_
  refine r_ishr C dX8_canCome_11 ?_
  refine r_iconst C (1 : Int32) dX8_canCome_12 (by decide) ?_
  refine r_iand C dX8_canCome_13 ?_
  refine r_iconst C (1 : Int32) dX8_canCome_14 (by decide) ?_
  refine r_icmp_ne C 22 dX8_canCome_15 (by decide) ?_ ?_
  · refine r_iconst C (0 : Int32) dX8_canCome_22 (by decide) ?_
    exact r_zreturn C X rfl dX8_canCome_23
  · refine r_iconst C (1 : Int32) dX8_canCome_18 (by decide) ?_
    refine r_goto C 23 dX8_canCome_19 (by decide) ?_
    exact r_zreturn C X rfl dX8_canCome_23
set_option maxRecDepth 100000 in
set_option maxHeartbeats 4000000 in
theorem p_X8_when_L46 {A : AM} {E : EN} {n : Nat} (C : Cx A E cX8_when 8 RX8 6 143) (X : Ex A E (some .int))  : ∀ (m : Nat) (S : WS) (h0 : Nat) (x1 : Int32) (x2 : Int32) (x3 : Int32) (x4 : Int32) (x5 : Int32) (x6 : Int32) (x7 : Int32) (th0 : Ty E h0 7), Gd A E 8 (QM A E wI tT) (f_X8_when_L46 E n  m S h0 x1 x2 x3 x4 x5 x6 x7) S 46 [(0, .ref h0), (1, .int x1), (2, .int x2), (3, .int x3), (4, .int x4), (5, .int x5), (6, .int x6), (7, .int x7)] [] := by
  intro m
  induction m with
  | zero => intros; exact gn
  | succ m ih =>
    intro S h0 x1 x2 x3 x4 x5 x6 x7 th0
    unfold f_X8_when_L46
    refine r_iload C 7 dX8_when_46 rfl ?_
    refine r_aload_n C 0 dX8_when_48 rfl ?_
    refine r_getr C fl_X8_27 dX8_when_49 th0 (fun b1 tb1 => ?_)
    refine r_geti C fl_X8_182 dX8_when_52 tb1 ?_
    refine r_icmp_ge C 96 dX8_when_55 (by decide) ?_ ?_
    · refine r_iload_n C 3 dX8_when_96 rfl ?_
      refine r_iconst C (2 : Int32) dX8_when_97 (by decide) ?_
      refine r_icmp_ne C 104 dX8_when_98 (by decide) ?_ ?_
      · refine r_iload_n C 3 dX8_when_104 rfl ?_
        refine r_if_ne C 113 dX8_when_105 (by decide) ?_ ?_
        · refine r_iload C 5 dX8_when_113 rfl ?_
          exact r_ireturn C X dX8_when_115
        · refine r_iload C 4 dX8_when_108 rfl ?_
          refine r_goto C 115 dX8_when_110 (by decide) ?_
          exact r_ireturn C X dX8_when_115
      · refine r_iload C 6 dX8_when_101 rfl ?_
        exact r_ireturn C X dX8_when_103
    · refine r_aload_n C 0 dX8_when_58 rfl ?_
      refine r_iload_n C 1 dX8_when_59 rfl ?_
      refine r_iload_n C 2 dX8_when_60 rfl ?_
      refine r_iload C 7 dX8_when_61 rfl ?_
      refine r_callV (As := [.int x1, .int x2, .int x7]) (rest := []) C (c_X8_canCome _ E n h0 x1 x2 x7 th0) dX8_when_63 ml_X8_254 mv_X8_canCome ⟨TX8, _, rfl⟩ (by decide) th0 rfl rfl ⟨by decide, by decide⟩ (Nat.le_of_ble_eq_true rfl) (fun v3 S2 hv3 => ?_)
      refine r_if_eq C 90 dX8_when_66 (by decide) ?_ ?_
      · refine r_iinc C 7 (fun y4 => [(7, .int y4), (0, .ref h0), (1, .int x1), (2, .int x2), (3, .int x3), (4, .int x4), (5, .int x5), (6, .int x6)]) dX8_when_90 rfl (v := (1 : Int32)) (by decide) (by decide) (fun _ => rfl) (fun y4 => ?_)
        refine r_goto C 46 dX8_when_93 (by decide) ?_
        refine r_sub [1, 2, 3, 4, 5, 6, 7, 0] [(0, .ref h0), (1, .int x1), (2, .int x2), (3, .int x3), (4, .int x4), (5, .int x5), (6, .int x6), (7, .int y4)] rfl ?_
        exact ih S2 h0 x1 x2 x3 x4 x5 x6 y4 th0
      · refine r_iload C 6 dX8_when_69 rfl ?_
        refine r_if_ne C 79 dX8_when_71 (by decide) ?_ ?_
        · refine r_iload C 4 dX8_when_79 rfl ?_
          refine r_istore C [(4, .int x4), (0, .ref h0), (1, .int x1), (2, .int x2), (3, .int x3), (5, .int x5), (6, .int x6), (7, .int x7)] dX8_when_81 (by decide) rfl ?_
          refine r_iload C 7 dX8_when_83 rfl ?_
          refine r_istore C [(5, .int x7), (4, .int x4), (0, .ref h0), (1, .int x1), (2, .int x2), (3, .int x3), (6, .int x6), (7, .int x7)] dX8_when_85 (by decide) rfl ?_
          refine r_iinc C 6 (fun y5 => [(6, .int y5), (5, .int x7), (4, .int x4), (0, .ref h0), (1, .int x1), (2, .int x2), (3, .int x3), (7, .int x7)]) dX8_when_87 rfl (v := (1 : Int32)) (by decide) (by decide) (fun _ => rfl) (fun y5 => ?_)
          refine r_iinc C 7 (fun y6 => [(7, .int y6), (6, .int y5), (5, .int x7), (4, .int x4), (0, .ref h0), (1, .int x1), (2, .int x2), (3, .int x3)]) dX8_when_90 rfl (v := (1 : Int32)) (by decide) (by decide) (fun _ => rfl) (fun y6 => ?_)
          refine r_goto C 46 dX8_when_93 (by decide) ?_
          refine r_sub [4, 5, 6, 7, 3, 2, 1, 0] [(0, .ref h0), (1, .int x1), (2, .int x2), (3, .int x3), (4, .int x4), (5, .int x7), (6, .int y5), (7, .int y6)] rfl ?_
          exact ih S2 h0 x1 x2 x3 x4 x7 y5 y6 th0
        · refine r_iload C 7 dX8_when_74 rfl ?_
          refine r_goto C 81 dX8_when_76 (by decide) ?_
          refine r_istore C [(4, .int x7), (0, .ref h0), (1, .int x1), (2, .int x2), (3, .int x3), (5, .int x5), (6, .int x6), (7, .int x7)] dX8_when_81 (by decide) rfl ?_
          refine r_iload C 7 dX8_when_83 rfl ?_
          refine r_istore C [(5, .int x7), (4, .int x7), (0, .ref h0), (1, .int x1), (2, .int x2), (3, .int x3), (6, .int x6), (7, .int x7)] dX8_when_85 (by decide) rfl ?_
          refine r_iinc C 6 (fun y7 => [(6, .int y7), (5, .int x7), (4, .int x7), (0, .ref h0), (1, .int x1), (2, .int x2), (3, .int x3), (7, .int x7)]) dX8_when_87 rfl (v := (1 : Int32)) (by decide) (by decide) (fun _ => rfl) (fun y7 => ?_)
          refine r_iinc C 7 (fun y8 => [(7, .int y8), (6, .int y7), (5, .int x7), (4, .int x7), (0, .ref h0), (1, .int x1), (2, .int x2), (3, .int x3)]) dX8_when_90 rfl (v := (1 : Int32)) (by decide) (by decide) (fun _ => rfl) (fun y8 => ?_)
          refine r_goto C 46 dX8_when_93 (by decide) ?_
          refine r_sub [4, 5, 6, 7, 3, 2, 1, 0] [(0, .ref h0), (1, .int x1), (2, .int x2), (3, .int x3), (4, .int x7), (5, .int x7), (6, .int y7), (7, .int y8)] rfl ?_
          exact ih S2 h0 x1 x2 x3 x7 x7 y7 y8 th0
set_option maxRecDepth 100000 in
set_option maxHeartbeats 4000000 in
theorem c_X8_when (l : Launch) (E : EN) (n : Nat) (h0 : Nat) (x1 : Int32) (x2 : Int32) (x3 : Int32) (th0 : Ty E h0 7) : CT l E yX8_when cX8_when 8 (some .int) 6 143 wI tT [.ref h0, .int x1, .int x2, .int x3] (fun S => f_X8_when E n S h0 x1 x2 x3) := by
  refine ct_of RX8 (by decide +kernel) rfl [(0, .ref h0), (1, .int x1), (2, .int x2), (3, .int x3)] rfl (Nat.le_of_ble_eq_true rfl) (fun A S hA C X => ?_)
  subst hA
  show Gd A E 8 (QM A E wI tT) (f_X8_when E n S h0 x1 x2 x3) S 0 [(0, .ref h0), (1, .int x1), (2, .int x2), (3, .int x3)] []
  unfold f_X8_when
  refine r_aload_n C 0 dX8_when_0 rfl ?_
  refine r_getr C fl_X8_27 dX8_when_1 th0 (fun b1 tb1 => ?_)
  refine r_iload_n C 1 dX8_when_4 rfl ?_
  refine r_callV (As := [.int x1]) (rest := []) C (c_X3_hasWalker _ E n b1 x1 tb1) dX8_when_5 ml_X8_219 mv_X3_hasWalker ⟨TX3, _, rfl⟩ (by decide) tb1 rfl rfl ⟨by decide, by decide⟩ (Nat.le_of_ble_eq_true rfl) (fun v3 S2 hv3 => ?_)
  refine r_if_eq C 31 dX8_when_8 (by decide) ?_ ?_
  · refine r_bipush C (-2 : Int32) dX8_when_31 (by decide) ?_
    exact r_ireturn C X dX8_when_33
  · refine r_aload_n C 0 dX8_when_11 rfl ?_
    refine r_getr C fl_X8_27 dX8_when_12 th0 (fun b4 tb4 => ?_)
    refine r_iload_n C 2 dX8_when_15 rfl ?_
    refine r_callV (As := [.int x2]) (rest := []) C (c_X3_hasPlace _ E n b4 x2 tb4) dX8_when_16 ml_X8_222 mv_X3_hasPlace ⟨TX3, _, rfl⟩ (by decide) tb4 rfl rfl ⟨by decide, by decide⟩ (Nat.le_of_ble_eq_true rfl) (fun v6 S5 hv6 => ?_)
    refine r_if_eq C 31 dX8_when_19 (by decide) ?_ ?_
    · refine r_bipush C (-2 : Int32) dX8_when_31 (by decide) ?_
      exact r_ireturn C X dX8_when_33
    · refine r_iload_n C 3 dX8_when_22 rfl ?_
      refine r_if_lt C 31 dX8_when_23 (by decide) ?_ ?_
      · refine r_bipush C (-2 : Int32) dX8_when_31 (by decide) ?_
        exact r_ireturn C X dX8_when_33
      · refine r_iload_n C 3 dX8_when_26 rfl ?_
        refine r_iconst C (2 : Int32) dX8_when_27 (by decide) ?_
        refine r_icmp_le C 34 dX8_when_28 (by decide) ?_ ?_
        · refine r_iconst C (-1 : Int32) dX8_when_34 (by decide) ?_
          refine r_istore C [(4, .int (-1 : Int32)), (0, .ref h0), (1, .int x1), (2, .int x2), (3, .int x3)] dX8_when_35 (by decide) rfl ?_
          refine r_iconst C (-1 : Int32) dX8_when_37 (by decide) ?_
          refine r_istore C [(5, .int (-1 : Int32)), (4, .int (-1 : Int32)), (0, .ref h0), (1, .int x1), (2, .int x2), (3, .int x3)] dX8_when_38 (by decide) rfl ?_
          refine r_iconst C (0 : Int32) dX8_when_40 (by decide) ?_
          refine r_istore C [(6, .int (0 : Int32)), (5, .int (-1 : Int32)), (4, .int (-1 : Int32)), (0, .ref h0), (1, .int x1), (2, .int x2), (3, .int x3)] dX8_when_41 (by decide) rfl ?_
          refine r_iconst C (0 : Int32) dX8_when_43 (by decide) ?_
          refine r_istore C [(7, .int (0 : Int32)), (6, .int (0 : Int32)), (5, .int (-1 : Int32)), (4, .int (-1 : Int32)), (0, .ref h0), (1, .int x1), (2, .int x2), (3, .int x3)] dX8_when_44 (by decide) rfl ?_
          refine r_sub [4, 5, 6, 7, 3, 2, 1, 0] [(0, .ref h0), (1, .int x1), (2, .int x2), (3, .int x3), (4, .int (-1 : Int32)), (5, .int (-1 : Int32)), (6, .int (0 : Int32)), (7, .int (0 : Int32))] rfl ?_
          exact p_X8_when_L46 C X  n S5 h0 x1 x2 x3 (-1 : Int32) (-1 : Int32) (0 : Int32) (0 : Int32) th0
        · refine r_bipush C (-2 : Int32) dX8_when_31 (by decide) ?_
          exact r_ireturn C X dX8_when_33
set_option maxRecDepth 100000 in
set_option maxHeartbeats 4000000 in
theorem p_X8_high_L53 {A : AM} {E : EN} {n : Nat} (C : Cx A E cX8_high 7 RX8 5 120) (X : Ex A E (some .int))  : ∀ (m : Nat) (S : WS) (h0 : Nat) (x3 : Int32) (x4 : Int32) (x5 : Int32) (x6 : Int32) (th0 : Ty E h0 7), Gd A E 7 (QM A E wI tT) (f_X8_high_L53 E n  m S h0 x3 x4 x5 x6) S 53 [(0, .ref h0), (3, .int x3), (4, .int x4), (5, .int x5), (6, .int x6)] [] := by
  intro m
  induction m with
  | zero => intros; exact gn
  | succ m ih =>
    intro S h0 x3 x4 x5 x6 th0
    unfold f_X8_high_L53
    refine r_iload C 4 dX8_high_53 rfl ?_
    refine r_aload_n C 0 dX8_high_55 rfl ?_
    refine r_getr C fl_X8_27 dX8_high_56 th0 (fun b1 tb1 => ?_)
    refine r_geti C fl_X8_268 dX8_high_59 tb1 ?_
    refine r_icmp_ge C 112 dX8_high_62 (by decide) ?_ ?_
    · refine r_iload C 2 dX8_high_112 rfl ?_
      exact r_ireturn C X dX8_high_114
    · refine r_iload_n C 1 dX8_high_65 rfl ?_
      refine r_iload C 4 dX8_high_66 rfl ?_
      refine r_ishr C dX8_high_68 ?_
      refine r_iconst C (1 : Int32) dX8_high_69 (by decide) ?_
      refine r_iand C dX8_high_70 ?_
      refine r_iconst C (1 : Int32) dX8_high_71 (by decide) ?_
      refine r_icmp_ne C 106 dX8_high_72 (by decide) ?_ ?_
      · refine r_iinc C 4 (fun y2 => [(6, .int y2), (0, .ref h0), (3, .int x3), (4, .int x4), (5, .int x5)]) dX8_high_106 rfl (v := (1 : Int32)) (by decide) (by decide) (fun _ => rfl) (fun y2 => ?_)
        refine r_goto C 53 dX8_high_109 (by decide) ?_
        refine r_sub [1, 2, 3, 4, 0] [(0, .ref h0), (3, .int x3), (4, .int x4), (5, .int x5), (6, .int y2)] rfl ?_
        exact ih S h0 x3 x4 x5 y2 th0
      · refine r_aload_n C 0 dX8_high_75 rfl ?_
        refine r_getr C fl_X8_27 dX8_high_76 th0 (fun b3 tb3 => ?_)
        refine r_getr C fl_X8_257 dX8_high_79 tb3 (fun b4 tb4 => ?_)
        refine r_iload C 4 dX8_high_82 rfl ?_
        refine r_iald C dX8_high_84 tb4 ?_
        refine r_iload C 3 dX8_high_85 rfl ?_
        refine r_icmp_le C 106 dX8_high_87 (by decide) ?_ ?_
        · refine r_iinc C 4 (fun y5 => [(6, .int y5), (0, .ref h0), (3, .int x3), (4, .int x4), (5, .int x5)]) dX8_high_106 rfl (v := (1 : Int32)) (by decide) (by decide) (fun _ => rfl) (fun y5 => ?_)
          refine r_goto C 53 dX8_high_109 (by decide) ?_
          refine r_sub [1, 2, 3, 4, 0] [(0, .ref h0), (3, .int x3), (4, .int x4), (5, .int x5), (6, .int y5)] rfl ?_
          exact ih S h0 x3 x4 x5 y5 th0
        · refine r_aload_n C 0 dX8_high_90 rfl ?_
          refine r_getr C fl_X8_27 dX8_high_91 th0 (fun b6 tb6 => ?_)
          refine r_getr C fl_X8_257 dX8_high_94 tb6 (fun b7 tb7 => ?_)
          refine r_iload C 4 dX8_high_97 rfl ?_
          refine r_iald C dX8_high_99 tb7 ?_
          refine r_topi (fun y8 => ?_)
          refine r_istore C [(5, .int y8), (0, .ref h0), (3, .int x3), (4, .int x4), (6, .int x6)] dX8_high_100 (by decide) rfl ?_
          refine r_iload C 4 dX8_high_102 rfl ?_
          refine r_istore C [(4, .int x6), (5, .int y8), (0, .ref h0), (3, .int x3), (6, .int x6)] dX8_high_104 (by decide) rfl ?_
          refine r_iinc C 4 (fun y9 => [(6, .int y9), (4, .int x6), (5, .int y8), (0, .ref h0), (3, .int x3)]) dX8_high_106 rfl (v := (1 : Int32)) (by decide) (by decide) (fun _ => rfl) (fun y9 => ?_)
          refine r_goto C 53 dX8_high_109 (by decide) ?_
          refine r_sub [3, 4, 1, 2, 0] [(0, .ref h0), (3, .int x3), (4, .int x6), (5, .int y8), (6, .int y9)] rfl ?_
          exact ih S h0 x3 x6 y8 y9 th0
set_option maxRecDepth 100000 in
set_option maxHeartbeats 4000000 in
theorem c_X8_high (l : Launch) (E : EN) (n : Nat) (h0 : Nat) (x1 : Int32) (x2 : Int32) (th0 : Ty E h0 7) : CT l E yX8_high cX8_high 7 (some .int) 5 120 wI tT [.ref h0, .int x1, .int x2] (fun S => f_X8_high E n S h0 x1 x2) := by
  refine ct_of RX8 (by decide +kernel) rfl [(0, .ref h0), (1, .int x1), (2, .int x2)] rfl (Nat.le_of_ble_eq_true rfl) (fun A S hA C X => ?_)
  subst hA
  show Gd A E 7 (QM A E wI tT) (f_X8_high E n S h0 x1 x2) S 0 [(0, .ref h0), (1, .int x1), (2, .int x2)] []
  unfold f_X8_high
  refine r_aload_n C 0 dX8_high_0 rfl ?_
  refine r_getr C fl_X8_27 dX8_high_1 th0 (fun b1 tb1 => ?_)
  refine r_iload_n C 1 dX8_high_4 rfl ?_
  refine r_callV (As := [.int x1]) (rest := []) C (c_X3_hasWalker _ E n b1 x1 tb1) dX8_high_5 ml_X8_219 mv_X3_hasWalker ⟨TX3, _, rfl⟩ (by decide) tb1 rfl rfl ⟨by decide, by decide⟩ (Nat.le_of_ble_eq_true rfl) (fun v3 S2 hv3 => ?_)
  refine r_if_eq C 22 dX8_high_8 (by decide) ?_ ?_
  · refine r_bipush C (-2 : Int32) dX8_high_22 (by decide) ?_
    exact r_ireturn C X dX8_high_24
  · refine r_aload_n C 0 dX8_high_11 rfl ?_
    refine r_getr C fl_X8_27 dX8_high_12 th0 (fun b4 tb4 => ?_)
    refine r_iload_n C 2 dX8_high_15 rfl ?_
    refine r_callV (As := [.int x2]) (rest := []) C (c_X3_hasYear _ E n b4 x2 tb4) dX8_high_16 ml_X8_164 mv_X3_hasYear ⟨TX3, _, rfl⟩ (by decide) tb4 rfl rfl ⟨by decide, by decide⟩ (Nat.le_of_ble_eq_true rfl) (fun v6 S5 hv6 => ?_)
    refine r_if_ne C 25 dX8_high_19 (by decide) ?_ ?_
    · refine r_aload_n C 0 dX8_high_25 rfl ?_
      refine r_getr C fl_X8_27 dX8_high_26 th0 (fun b7 tb7 => ?_)
      refine r_iload_n C 1 dX8_high_29 rfl ?_
      refine r_iload_n C 2 dX8_high_30 rfl ?_
      refine r_iconst C (-1 : Int32) dX8_high_31 (by decide) ?_
      refine r_callV (As := [.int x1, .int x2, .int (-1 : Int32)]) (rest := []) C (c_X3_reachOf _ E n b7 x1 x2 (-1 : Int32) tb7) dX8_high_32 ml_X8_225 mv_X3_reachOf ⟨TX3, _, rfl⟩ (by decide) tb7 rfl rfl ⟨by decide, by decide⟩ (Nat.le_of_ble_eq_true rfl) (fun v9 S8 hv9 => ?_)
      refine r_istore_n C [(3, .int v9), (0, .ref h0), (1, .int x1), (2, .int x2)] dX8_high_35 (by decide) rfl ?_
      refine r_aload_n C 1 dX8_high_36 rfl ?_
      refine r_getr C fl_X8_27 dX8_high_37 th0 (fun b10 tb10 => ?_)
      refine r_getr C fl_X8_265 dX8_high_40 tb10 (fun b11 tb11 => ?_)
      refine r_iload_n C 2 dX8_high_43 rfl ?_
      refine r_iald C dX8_high_44 tb11 ?_
      refine r_topi (fun y12 => ?_)
      refine r_istore C [(4, .int y12), (3, .int v9), (0, .ref h0), (1, .int x1), (2, .int x2)] dX8_high_45 (by decide) rfl ?_
      refine r_iconst C (-1 : Int32) dX8_high_47 (by decide) ?_
      refine r_istore C [(5, .int (-1 : Int32)), (4, .int y12), (3, .int v9), (0, .ref h0), (1, .int x1), (2, .int x2)] dX8_high_48 (by decide) rfl ?_
      refine r_iconst C (0 : Int32) dX8_high_50 (by decide) ?_
      refine r_istore C [(6, .int (0 : Int32)), (5, .int (-1 : Int32)), (4, .int y12), (3, .int v9), (0, .ref h0), (1, .int x1), (2, .int x2)] dX8_high_51 (by decide) rfl ?_
      refine r_sub [4, 3, 2, 1, 0] [(0, .ref h0), (3, .int v9), (4, .int y12), (5, .int (-1 : Int32)), (6, .int (0 : Int32))] rfl ?_
      exact p_X8_high_L53 C X  n S8 h0 v9 y12 (-1 : Int32) (0 : Int32) th0
    · refine r_bipush C (-2 : Int32) dX8_high_22 (by decide) ?_
      exact r_ireturn C X dX8_high_24
set_option maxRecDepth 100000 in
set_option maxHeartbeats 4000000 in
theorem p_X8_parts_L44 {A : AM} {E : EN} {n : Nat} (C : Cx A E cX8_parts 7 RX8 4 97) (X : Ex A E (some .int))  : ∀ (m : Nat) (S : WS) (h0 : Nat) (x3 : Int32) (x4 : Int32) (x5 : Int32) (x6 : Int32) (th0 : Ty E h0 7), Gd A E 7 (QM A E wI tT) (f_X8_parts_L44 E n  m S h0 x3 x4 x5 x6) S 44 [(0, .ref h0), (3, .int x3), (4, .int x4), (5, .int x5), (6, .int x6)] [] := by
  intro m
  induction m with
  | zero => intros; exact gn
  | succ m ih =>
    intro S h0 x3 x4 x5 x6 th0
    unfold f_X8_parts_L44
    refine r_iload C 4 dX8_parts_44 rfl ?_
    refine r_aload_n C 0 dX8_parts_46 rfl ?_
    refine r_getr C fl_X8_27 dX8_parts_47 th0 (fun b1 tb1 => ?_)
    refine r_geti C fl_X8_268 dX8_parts_50 tb1 ?_
    refine r_icmp_ge C 90 dX8_parts_53 (by decide) ?_ ?_
    · refine r_iload C 3 dX8_parts_90 rfl ?_
      exact r_ireturn C X dX8_parts_92
    · refine r_iload C 2 dX8_parts_56 rfl ?_
      refine r_iload C 4 dX8_parts_58 rfl ?_
      refine r_ishr C dX8_parts_60 ?_
      refine r_iconst C (1 : Int32) dX8_parts_61 (by decide) ?_
      refine r_iand C dX8_parts_62 ?_
      refine r_if_ne C 84 dX8_parts_63 (by decide) ?_ ?_
      · refine r_iinc C 4 (fun y2 => [(6, .int y2), (0, .ref h0), (3, .int x3), (4, .int x4), (5, .int x5)]) dX8_parts_84 rfl (v := (1 : Int32)) (by decide) (by decide) (fun _ => rfl) (fun y2 => ?_)
        refine r_goto C 44 dX8_parts_87 (by decide) ?_
        refine r_sub [1, 2, 3, 4, 0] [(0, .ref h0), (3, .int x3), (4, .int x4), (5, .int x5), (6, .int y2)] rfl ?_
        exact ih S h0 x3 x4 x5 y2 th0
      · refine r_iload C 2 dX8_parts_66 rfl ?_
        refine r_aload_n C 0 dX8_parts_68 rfl ?_
        refine r_getr C fl_X8_27 dX8_parts_69 th0 (fun b3 tb3 => ?_)
        refine r_iload C 4 dX8_parts_72 rfl ?_
        refine r_iload_n C 1 dX8_parts_74 rfl ?_
        refine r_callV (As := [.int x6, .int x3]) (rest := [.int x4]) C (c_X3_placesFrom _ E n b3 x6 x3 tb3) dX8_parts_75 ml_X8_274 mv_X3_placesFrom ⟨TX3, _, rfl⟩ (by decide) tb3 rfl rfl ⟨by decide, by decide⟩ (Nat.le_of_ble_eq_true rfl) (fun v5 S4 hv5 => ?_)
        refine r_ior C dX8_parts_78 ?_
        refine r_topi (fun y6 => ?_)
        refine r_istore C [(4, .int y6), (0, .ref h0), (3, .int x3), (5, .int x5), (6, .int x6)] dX8_parts_79 (by decide) rfl ?_
        refine r_iinc C 3 (fun y7 => [(5, .int y7), (4, .int y6), (0, .ref h0), (3, .int x3), (6, .int x6)]) dX8_parts_81 rfl (v := (1 : Int32)) (by decide) (by decide) (fun _ => rfl) (fun y7 => ?_)
        refine r_iinc C 4 (fun y8 => [(6, .int y8), (5, .int y7), (4, .int y6), (0, .ref h0), (3, .int x3)]) dX8_parts_84 rfl (v := (1 : Int32)) (by decide) (by decide) (fun _ => rfl) (fun y8 => ?_)
        refine r_goto C 44 dX8_parts_87 (by decide) ?_
        refine r_sub [3, 4, 2, 1, 0] [(0, .ref h0), (3, .int x3), (4, .int y6), (5, .int y7), (6, .int y8)] rfl ?_
        exact ih S4 h0 x3 y6 y7 y8 th0
