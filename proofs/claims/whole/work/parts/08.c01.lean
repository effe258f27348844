/-! THE CONTRACTS, by program -/
set_option maxRecDepth 100000 in
set_option maxHeartbeats 4000000 in
theorem p_X2_judge_L6 {A : AM} {E : EN} {n : Nat} (C : Cx A E cX2_judge 9 RX2 0 0) (X : Ex A E (some .int))  : ∀ (m : Nat) (S : WS) (h0 : Nat) (x1 : Int64) (x3 : Int64) (x5 : Int32) (x6 : Int32) (th0 : Ty E h0 1), Gd A E 9 (QM A E wI tT) (f_X2_judge_L6 E n  m S h0 x1 x3 x5 x6) S 6 [(0, .ref h0), (1, .long x1), (3, .long x3), (5, .int x5), (6, .int x6)] [] := by
  intro m
  induction m with
  | zero => intros; exact gn
  | succ m ih =>
    intro S h0 x1 x3 x5 x6 th0
    unfold f_X2_judge_L6
    refine r_iload C 4 dX2_judge_6 rfl ?_
    refine r_aload_n C 0 dX2_judge_8 rfl ?_
    refine r_geti C fl_X2_36 dX2_judge_9 th0 ?_
    refine r_icmp_ge C 109 dX2_judge_12 (by decide) ?_ ?_
    · refine r_iload C 3 dX2_judge_109 rfl ?_
      refine r_if_eq C 118 dX2_judge_111 (by decide) ?_ ?_
      · refine r_iconst C (2 : Int32) dX2_judge_118 (by decide) ?_
        exact r_ireturn C X dX2_judge_119
      · refine r_iconst C (1 : Int32) dX2_judge_114 (by decide) ?_
        refine r_goto C 119 dX2_judge_115 (by decide) ?_
        exact r_ireturn C X dX2_judge_119
    · refine r_lload_n C 1 dX2_judge_15 rfl ?_
      refine r_iload C 4 dX2_judge_16 rfl ?_
      refine r_iconst C (3 : Int32) dX2_judge_18 (by decide) ?_
      refine r_imul C dX2_judge_19 ?_
      refine r_lshr C dX2_judge_20 ?_
      refine r_ldc2 C (7 : Int64) (mG 1062 (by decide +kernel) rfl) dX2_judge_21 ?_
      refine r_land C dX2_judge_24 ?_
      refine r_l2i C dX2_judge_25 ?_
      refine r_topi (fun y1 => ?_)
      refine r_istore C [(7, .int y1), (0, .ref h0), (1, .long x1), (3, .long x3), (5, .int x5), (6, .int x6)] dX2_judge_26 (by decide) rfl ?_
      refine r_lload_n C 3 dX2_judge_28 rfl ?_
      refine r_iload C 5 dX2_judge_29 rfl ?_
      refine r_iconst C (3 : Int32) dX2_judge_31 (by decide) ?_
      refine r_imul C dX2_judge_32 ?_
      refine r_lshr C dX2_judge_33 ?_
      refine r_ldc2 C (7 : Int64) (mG 1062 (by decide +kernel) rfl) dX2_judge_34 ?_
      refine r_land C dX2_judge_37 ?_
      refine r_l2i C dX2_judge_38 ?_
      refine r_topi (fun y2 => ?_)
      refine r_istore C [(8, .int y2), (7, .int y1), (0, .ref h0), (1, .long x1), (3, .long x3), (5, .int x5), (6, .int x6)] dX2_judge_39 (by decide) rfl ?_
      refine r_iload C 1 dX2_judge_41 rfl ?_
      refine r_aload_n C 2 dX2_judge_43 rfl ?_
      refine r_getr C fl_X2_21 dX2_judge_44 th0 (fun b3 tb3 => ?_)
      refine r_iload C 6 dX2_judge_47 rfl ?_
      refine r_iald C dX2_judge_49 tb3 ?_
      refine r_icmp_gt C 65 dX2_judge_50 (by decide) ?_ ?_
      · refine r_iconst C (0 : Int32) dX2_judge_65 (by decide) ?_
        exact r_ireturn C X dX2_judge_66
      · refine r_iload C 0 dX2_judge_53 rfl ?_
        refine r_aload_n C 2 dX2_judge_55 rfl ?_
        refine r_getr C fl_X2_18 dX2_judge_56 th0 (fun b4 tb4 => ?_)
        refine r_iload C 6 dX2_judge_59 rfl ?_
        refine r_iald C dX2_judge_61 tb4 ?_
        refine r_icmp_ge C 67 dX2_judge_62 (by decide) ?_ ?_
        · refine r_iload C 5 dX2_judge_67 rfl ?_
          refine r_if_eq C 100 dX2_judge_69 (by decide) ?_ ?_
          · refine r_iconst C (0 : Int32) dX2_judge_100 (by decide) ?_
            refine r_istore C [(5, .int (0 : Int32)), (8, .int y2), (7, .int y1), (0, .ref h0), (1, .long x1), (3, .long x3), (6, .int x6)] dX2_judge_101 (by decide) rfl ?_
            refine r_iinc C 6 (fun y5 => [(6, .int y5), (5, .int (0 : Int32)), (8, .int y2), (7, .int y1), (0, .ref h0), (1, .long x1), (3, .long x3)]) dX2_judge_103 rfl (v := (1 : Int32)) (by decide) (by decide) (fun _ => rfl) (fun y5 => ?_)
            refine r_goto C 6 dX2_judge_106 (by decide) ?_
            refine r_sub [4, 5, 6, 1, 0] [(0, .ref h0), (1, .long x1), (3, .long x3), (5, .int (0 : Int32)), (6, .int y5)] rfl ?_
            exact ih S h0 x1 x3 (0 : Int32) y5 th0
          · refine r_iload C 1 dX2_judge_72 rfl ?_
            refine r_aload_n C 2 dX2_judge_74 rfl ?_
            refine r_getr C fl_X2_18 dX2_judge_75 th0 (fun b6 tb6 => ?_)
            refine r_iload C 6 dX2_judge_78 rfl ?_
            refine r_iald C dX2_judge_80 tb6 ?_
            refine r_icmp_lt C 100 dX2_judge_81 (by decide) ?_ ?_
            · refine r_iconst C (0 : Int32) dX2_judge_100 (by decide) ?_
              refine r_istore C [(5, .int (0 : Int32)), (8, .int y2), (7, .int y1), (0, .ref h0), (1, .long x1), (3, .long x3), (6, .int x6)] dX2_judge_101 (by decide) rfl ?_
              refine r_iinc C 6 (fun y7 => [(6, .int y7), (5, .int (0 : Int32)), (8, .int y2), (7, .int y1), (0, .ref h0), (1, .long x1), (3, .long x3)]) dX2_judge_103 rfl (v := (1 : Int32)) (by decide) (by decide) (fun _ => rfl) (fun y7 => ?_)
              refine r_goto C 6 dX2_judge_106 (by decide) ?_
              refine r_sub [4, 5, 6, 1, 0] [(0, .ref h0), (1, .long x1), (3, .long x3), (5, .int (0 : Int32)), (6, .int y7)] rfl ?_
              exact ih S h0 x1 x3 (0 : Int32) y7 th0
            · refine r_iload C 0 dX2_judge_84 rfl ?_
              refine r_aload_n C 2 dX2_judge_86 rfl ?_
              refine r_getr C fl_X2_21 dX2_judge_87 th0 (fun b8 tb8 => ?_)
              refine r_iload C 6 dX2_judge_90 rfl ?_
              refine r_iald C dX2_judge_92 tb8 ?_
              refine r_icmp_gt C 100 dX2_judge_93 (by decide) ?_ ?_
              · refine r_iconst C (0 : Int32) dX2_judge_100 (by decide) ?_
                refine r_istore C [(5, .int (0 : Int32)), (8, .int y2), (7, .int y1), (0, .ref h0), (1, .long x1), (3, .long x3), (6, .int x6)] dX2_judge_101 (by decide) rfl ?_
                refine r_iinc C 6 (fun y9 => [(6, .int y9), (5, .int (0 : Int32)), (8, .int y2), (7, .int y1), (0, .ref h0), (1, .long x1), (3, .long x3)]) dX2_judge_103 rfl (v := (1 : Int32)) (by decide) (by decide) (fun _ => rfl) (fun y9 => ?_)
                refine r_goto C 6 dX2_judge_106 (by decide) ?_
                refine r_sub [4, 5, 6, 1, 0] [(0, .ref h0), (1, .long x1), (3, .long x3), (5, .int (0 : Int32)), (6, .int y9)] rfl ?_
                exact ih S h0 x1 x3 (0 : Int32) y9 th0
              · refine r_iconst C (1 : Int32) dX2_judge_96 (by decide) ?_
                refine r_goto C 101 dX2_judge_97 (by decide) ?_
                refine r_istore C [(5, .int (1 : Int32)), (8, .int y2), (7, .int y1), (0, .ref h0), (1, .long x1), (3, .long x3), (6, .int x6)] dX2_judge_101 (by decide) rfl ?_
                refine r_iinc C 6 (fun y10 => [(6, .int y10), (5, .int (1 : Int32)), (8, .int y2), (7, .int y1), (0, .ref h0), (1, .long x1), (3, .long x3)]) dX2_judge_103 rfl (v := (1 : Int32)) (by decide) (by decide) (fun _ => rfl) (fun y10 => ?_)
                refine r_goto C 6 dX2_judge_106 (by decide) ?_
                refine r_sub [4, 5, 6, 1, 0] [(0, .ref h0), (1, .long x1), (3, .long x3), (5, .int (1 : Int32)), (6, .int y10)] rfl ?_
                exact ih S h0 x1 x3 (1 : Int32) y10 th0
        · refine r_iconst C (0 : Int32) dX2_judge_65 (by decide) ?_
          exact r_ireturn C X dX2_judge_66
set_option maxRecDepth 100000 in
set_option maxHeartbeats 4000000 in
theorem c_X2_judge (l : Launch) (E : EN) (n : Nat) (h0 : Nat) (x1 : Int64) (x3 : Int64) (th0 : Ty E h0 1) : CT l E yX2_judge cX2_judge 9 (some .int) 0 0 wI tT [.ref h0, .long x1, .long x3] (fun S => f_X2_judge E n S h0 x1 x3) := by
  refine ct_of RX2 (by decide +kernel) rfl [(0, .ref h0), (1, .long x1), (3, .long x3)] rfl (Nat.le_of_ble_eq_true rfl) (fun A S hA C X => ?_)
  subst hA
  show Gd A E 9 (QM A E wI tT) (f_X2_judge E n S h0 x1 x3) S 0 [(0, .ref h0), (1, .long x1), (3, .long x3)] []
  unfold f_X2_judge
  refine r_iconst C (1 : Int32) dX2_judge_0 (by decide) ?_
  refine r_istore C [(5, .int (1 : Int32)), (0, .ref h0), (1, .long x1), (3, .long x3)] dX2_judge_1 (by decide) rfl ?_
  refine r_iconst C (0 : Int32) dX2_judge_3 (by decide) ?_
  refine r_istore C [(6, .int (0 : Int32)), (5, .int (1 : Int32)), (0, .ref h0), (1, .long x1), (3, .long x3)] dX2_judge_4 (by decide) rfl ?_
  refine r_sub [2, 3, 4, 1, 0] [(0, .ref h0), (1, .long x1), (3, .long x3), (5, .int (1 : Int32)), (6, .int (0 : Int32))] rfl ?_
  exact p_X2_judge_L6 C X  n S h0 x1 x3 (1 : Int32) (0 : Int32) th0
set_option maxRecDepth 100000 in
set_option maxHeartbeats 4000000 in
theorem c_X3_isTold (l : Launch) (E : EN) (n : Nat) (h0 : Nat) (th0 : Ty E h0 2) : CT l E yX3_isTold cX3_isTold 1 (some .boolean) 0 0 wI tT [.ref h0] (fun S => f_X3_isTold E n S h0) := by
  refine ct_of RX3 (by decide +kernel) rfl [(0, .ref h0)] rfl (Nat.le_of_ble_eq_true rfl) (fun A S hA C X => ?_)
  subst hA
  show Gd A E 1 (QM A E wI tT) (f_X3_isTold E n S h0) S 0 [(0, .ref h0)] []
  unfold f_X3_isTold
  refine r_aload_n C 0 dX3_isTold_0 rfl ?_
  refine r_geti C fl_X3_52 dX3_isTold_1 th0 ?_
  refine r_if_le C 11 dX3_isTold_4 (by decide) ?_ ?_
  · refine r_iconst C (0 : Int32) dX3_isTold_11 (by decide) ?_
    exact r_zreturn C X rfl dX3_isTold_12
  · refine r_iconst C (1 : Int32) dX3_isTold_7 (by decide) ?_
    refine r_goto C 12 dX3_isTold_8 (by decide) ?_
    exact r_zreturn C X rfl dX3_isTold_12
set_option maxRecDepth 100000 in
set_option maxHeartbeats 4000000 in
theorem c_X3_hasPlace (l : Launch) (E : EN) (n : Nat) (h0 : Nat) (x1 : Int32) (th0 : Ty E h0 2) : CT l E yX3_hasPlace cX3_hasPlace 2 (some .boolean) 0 0 wI tT [.ref h0, .int x1] (fun S => f_X3_hasPlace E n S h0 x1) := by
  refine ct_of RX3 (by decide +kernel) rfl [(0, .ref h0), (1, .int x1)] rfl (Nat.le_of_ble_eq_true rfl) (fun A S hA C X => ?_)
  subst hA
  show Gd A E 2 (QM A E wI tT) (f_X3_hasPlace E n S h0 x1) S 0 [(0, .ref h0), (1, .int x1)] []
  unfold f_X3_hasPlace
  refine r_iload_n C 1 dX3_hasPlace_0 rfl ?_
  refine r_if_lt C 16 dX3_hasPlace_1 (by decide) ?_ ?_
  · refine r_iconst C (0 : Int32) dX3_hasPlace_16 (by decide) ?_
    exact r_zreturn C X rfl dX3_hasPlace_17
  · refine r_iload_n C 1 dX3_hasPlace_4 rfl ?_
    refine r_aload_n C 0 dX3_hasPlace_5 rfl ?_
    refine r_geti C fl_X3_52 dX3_hasPlace_6 th0 ?_
    refine r_icmp_ge C 16 dX3_hasPlace_9 (by decide) ?_ ?_
    · refine r_iconst C (0 : Int32) dX3_hasPlace_16 (by decide) ?_
      exact r_zreturn C X rfl dX3_hasPlace_17
    · refine r_iconst C (1 : Int32) dX3_hasPlace_12 (by decide) ?_
      refine r_goto C 17 dX3_hasPlace_13 (by decide) ?_
      exact r_zreturn C X rfl dX3_hasPlace_17
set_option maxRecDepth 100000 in
set_option maxHeartbeats 4000000 in
theorem c_X3_hasYear (l : Launch) (E : EN) (n : Nat) (h0 : Nat) (x1 : Int32) (th0 : Ty E h0 2) : CT l E yX3_hasYear cX3_hasYear 2 (some .boolean) 0 0 wI tT [.ref h0, .int x1] (fun S => f_X3_hasYear E n S h0 x1) := by
  refine ct_of RX3 (by decide +kernel) rfl [(0, .ref h0), (1, .int x1)] rfl (Nat.le_of_ble_eq_true rfl) (fun A S hA C X => ?_)
  subst hA
  show Gd A E 2 (QM A E wI tT) (f_X3_hasYear E n S h0 x1) S 0 [(0, .ref h0), (1, .int x1)] []
  unfold f_X3_hasYear
  refine r_iload_n C 1 dX3_hasYear_0 rfl ?_
  refine r_if_lt C 16 dX3_hasYear_1 (by decide) ?_ ?_
  · refine r_iconst C (0 : Int32) dX3_hasYear_16 (by decide) ?_
    exact r_zreturn C X rfl dX3_hasYear_17
  · refine r_iload_n C 1 dX3_hasYear_4 rfl ?_
    refine r_aload_n C 0 dX3_hasYear_5 rfl ?_
    refine r_geti C fl_X3_55 dX3_hasYear_6 th0 ?_
    refine r_icmp_ge C 16 dX3_hasYear_9 (by decide) ?_ ?_
    · refine r_iconst C (0 : Int32) dX3_hasYear_16 (by decide) ?_
      exact r_zreturn C X rfl dX3_hasYear_17
    · refine r_iconst C (1 : Int32) dX3_hasYear_12 (by decide) ?_
      refine r_goto C 17 dX3_hasYear_13 (by decide) ?_
      exact r_zreturn C X rfl dX3_hasYear_17
set_option maxRecDepth 100000 in
set_option maxHeartbeats 4000000 in
theorem c_X3_hasPath (l : Launch) (E : EN) (n : Nat) (h0 : Nat) (x1 : Int32) (th0 : Ty E h0 2) : CT l E yX3_hasPath cX3_hasPath 2 (some .boolean) 0 0 wI tT [.ref h0, .int x1] (fun S => f_X3_hasPath E n S h0 x1) := by
  refine ct_of RX3 (by decide +kernel) rfl [(0, .ref h0), (1, .int x1)] rfl (Nat.le_of_ble_eq_true rfl) (fun A S hA C X => ?_)
  subst hA
  show Gd A E 2 (QM A E wI tT) (f_X3_hasPath E n S h0 x1) S 0 [(0, .ref h0), (1, .int x1)] []
  unfold f_X3_hasPath
  refine r_iload_n C 1 dX3_hasPath_0 rfl ?_
  refine r_if_lt C 16 dX3_hasPath_1 (by decide) ?_ ?_
  · refine r_iconst C (0 : Int32) dX3_hasPath_16 (by decide) ?_
    exact r_zreturn C X rfl dX3_hasPath_17
  · refine r_iload_n C 1 dX3_hasPath_4 rfl ?_
    refine r_aload_n C 0 dX3_hasPath_5 rfl ?_
    refine r_geti C fl_X3_58 dX3_hasPath_6 th0 ?_
    refine r_icmp_ge C 16 dX3_hasPath_9 (by decide) ?_ ?_
    · refine r_iconst C (0 : Int32) dX3_hasPath_16 (by decide) ?_
      exact r_zreturn C X rfl dX3_hasPath_17
    · refine r_iconst C (1 : Int32) dX3_hasPath_12 (by decide) ?_
      refine r_goto C 17 dX3_hasPath_13 (by decide) ?_
      exact r_zreturn C X rfl dX3_hasPath_17
set_option maxRecDepth 100000 in
set_option maxHeartbeats 4000000 in
theorem c_X3_hasBride (l : Launch) (E : EN) (n : Nat) (h0 : Nat) (x1 : Int32) (th0 : Ty E h0 2) : CT l E yX3_hasBride cX3_hasBride 2 (some .boolean) 0 0 wI tT [.ref h0, .int x1] (fun S => f_X3_hasBride E n S h0 x1) := by
  refine ct_of RX3 (by decide +kernel) rfl [(0, .ref h0), (1, .int x1)] rfl (Nat.le_of_ble_eq_true rfl) (fun A S hA C X => ?_)
  subst hA
  show Gd A E 2 (QM A E wI tT) (f_X3_hasBride E n S h0 x1) S 0 [(0, .ref h0), (1, .int x1)] []
  unfold f_X3_hasBride
  refine r_iload_n C 1 dX3_hasBride_0 rfl ?_
  refine r_if_lt C 16 dX3_hasBride_1 (by decide) ?_ ?_
  · refine r_iconst C (0 : Int32) dX3_hasBride_16 (by decide) ?_
    exact r_zreturn C X rfl dX3_hasBride_17
  · refine r_iload_n C 1 dX3_hasBride_4 rfl ?_
    refine r_aload_n C 0 dX3_hasBride_5 rfl ?_
    refine r_geti C fl_X3_61 dX3_hasBride_6 th0 ?_
    refine r_icmp_ge C 16 dX3_hasBride_9 (by decide) ?_ ?_
    · refine r_iconst C (0 : Int32) dX3_hasBride_16 (by decide) ?_
      exact r_zreturn C X rfl dX3_hasBride_17
    · refine r_iconst C (1 : Int32) dX3_hasBride_12 (by decide) ?_
      refine r_goto C 17 dX3_hasBride_13 (by decide) ?_
      exact r_zreturn C X rfl dX3_hasBride_17
set_option maxRecDepth 100000 in
set_option maxHeartbeats 4000000 in
theorem c_X3_hasSuitor (l : Launch) (E : EN) (n : Nat) (h0 : Nat) (x1 : Int32) (th0 : Ty E h0 2) : CT l E yX3_hasSuitor cX3_hasSuitor 2 (some .boolean) 0 0 wI tT [.ref h0, .int x1] (fun S => f_X3_hasSuitor E n S h0 x1) := by
  refine ct_of RX3 (by decide +kernel) rfl [(0, .ref h0), (1, .int x1)] rfl (Nat.le_of_ble_eq_true rfl) (fun A S hA C X => ?_)
  subst hA
  show Gd A E 2 (QM A E wI tT) (f_X3_hasSuitor E n S h0 x1) S 0 [(0, .ref h0), (1, .int x1)] []
  unfold f_X3_hasSuitor
  refine r_iload_n C 1 dX3_hasSuitor_0 rfl ?_
  refine r_if_lt C 16 dX3_hasSuitor_1 (by decide) ?_ ?_
  · refine r_iconst C (0 : Int32) dX3_hasSuitor_16 (by decide) ?_
    exact r_zreturn C X rfl dX3_hasSuitor_17
  · refine r_iload_n C 1 dX3_hasSuitor_4 rfl ?_
    refine r_aload_n C 0 dX3_hasSuitor_5 rfl ?_
    refine r_geti C fl_X3_64 dX3_hasSuitor_6 th0 ?_
    refine r_icmp_ge C 16 dX3_hasSuitor_9 (by decide) ?_ ?_
    · refine r_iconst C (0 : Int32) dX3_hasSuitor_16 (by decide) ?_
      exact r_zreturn C X rfl dX3_hasSuitor_17
    · refine r_iconst C (1 : Int32) dX3_hasSuitor_12 (by decide) ?_
      refine r_goto C 17 dX3_hasSuitor_13 (by decide) ?_
      exact r_zreturn C X rfl dX3_hasSuitor_17
set_option maxRecDepth 100000 in
set_option maxHeartbeats 4000000 in
theorem c_X3_hasWalker (l : Launch) (E : EN) (n : Nat) (h0 : Nat) (x1 : Int32) (th0 : Ty E h0 2) : CT l E yX3_hasWalker cX3_hasWalker 2 (some .boolean) 0 0 wI tT [.ref h0, .int x1] (fun S => f_X3_hasWalker E n S h0 x1) := by
  refine ct_of RX3 (by decide +kernel) rfl [(0, .ref h0), (1, .int x1)] rfl (Nat.le_of_ble_eq_true rfl) (fun A S hA C X => ?_)
  subst hA
  show Gd A E 2 (QM A E wI tT) (f_X3_hasWalker E n S h0 x1) S 0 [(0, .ref h0), (1, .int x1)] []
  unfold f_X3_hasWalker
  refine r_iload_n C 1 dX3_hasWalker_0 rfl ?_
  refine r_if_lt C 16 dX3_hasWalker_1 (by decide) ?_ ?_
  · refine r_iconst C (0 : Int32) dX3_hasWalker_16 (by decide) ?_
    exact r_zreturn C X rfl dX3_hasWalker_17
  · refine r_iload_n C 1 dX3_hasWalker_4 rfl ?_
    refine r_aload_n C 0 dX3_hasWalker_5 rfl ?_
    refine r_geti C fl_X3_67 dX3_hasWalker_6 th0 ?_
    refine r_icmp_ge C 16 dX3_hasWalker_9 (by decide) ?_ ?_
    · refine r_iconst C (0 : Int32) dX3_hasWalker_16 (by decide) ?_
      exact r_zreturn C X rfl dX3_hasWalker_17
    · refine r_iconst C (1 : Int32) dX3_hasWalker_12 (by decide) ?_
      refine r_goto C 17 dX3_hasWalker_13 (by decide) ?_
      exact r_zreturn C X rfl dX3_hasWalker_17
set_option maxRecDepth 100000 in
set_option maxHeartbeats 4000000 in
theorem c_X3_isFor (l : Launch) (E : EN) (n : Nat) (h0 : Nat) (x1 : Int32) (x2 : Int32) (th0 : Ty E h0 2) : CT l E yX3_isFor cX3_isFor 3 (some .boolean) 1 21 wI tT [.ref h0, .int x1, .int x2] (fun S => f_X3_isFor E n S h0 x1 x2) := by
  refine ct_of RX3 (by decide +kernel) rfl [(0, .ref h0), (1, .int x1), (2, .int x2)] rfl (Nat.le_of_ble_eq_true rfl) (fun A S hA C X => ?_)
  subst hA
  show Gd A E 3 (QM A E wI tT) (f_X3_isFor E n S h0 x1 x2) S 0 [(0, .ref h0), (1, .int x1), (2, .int x2)] []
  unfold f_X3_isFor
  refine r_aload_n C 0 dX3_isFor_0 rfl ?_
  refine r_iload_n C 1 dX3_isFor_1 rfl ?_
  refine r_callV (As := [.int x1]) (rest := []) C (c_X3_hasSuitor _ E n h0 x1 th0) dX3_isFor_2 ml_X3_80 mv_X3_hasSuitor ⟨TX3, _, rfl⟩ (by decide) th0 rfl rfl ⟨by decide, by decide⟩ (Nat.le_of_ble_eq_true rfl) (fun v2 S1 hv2 => ?_)
  refine r_if_eq C 34 dX3_isFor_5 (by decide) ?_ ?_
  · refine r_iconst C (0 : Int32) dX3_isFor_34 (by decide) ?_
    exact r_zreturn C X rfl dX3_isFor_35
  · refine r_aload_n C 0 dX3_isFor_8 rfl ?_
    refine r_iload_n C 2 dX3_isFor_9 rfl ?_
    refine r_callV (As := [.int x2]) (rest := []) C (c_X3_hasBride _ E n h0 x2 th0) dX3_isFor_10 ml_X3_84 mv_X3_hasBride ⟨TX3, _, rfl⟩ (by decide) th0 rfl rfl ⟨by decide, by decide⟩ (Nat.le_of_ble_eq_true rfl) (fun v4 S3 hv4 => ?_)
    refine r_if_eq C 34 dX3_isFor_13 (by decide) ?_ ?_
    · refine r_iconst C (0 : Int32) dX3_isFor_34 (by decide) ?_
      exact r_zreturn C X rfl dX3_isFor_35
    · refine r_aload_n C 0 dX3_isFor_16 rfl ?_
      refine r_getr C fl_X3_33 dX3_isFor_17 th0 (fun b5 tb5 => ?_)
      refine r_iload_n C 1 dX3_isFor_20 rfl ?_
      refine r_iald C dX3_isFor_21 tb5 ?_
      refine r_iload_n C 2 dX3_isFor_22 rfl ?_
      refine r_ishr C dX3_isFor_23 ?_
      refine r_iconst C (1 : Int32) dX3_isFor_24 (by decide) ?_
      refine r_iand C dX3_isFor_25 ?_
      refine r_iconst C (1 : Int32) dX3_isFor_26 (by decide) ?_
      refine r_icmp_ne C 34 dX3_isFor_27 (by decide) ?_ ?_
      · refine r_iconst C (0 : Int32) dX3_isFor_34 (by decide) ?_
        exact r_zreturn C X rfl dX3_isFor_35
      · refine r_iconst C (1 : Int32) dX3_isFor_30 (by decide) ?_
        refine r_goto C 35 dX3_isFor_31 (by decide) ?_
        exact r_zreturn C X rfl dX3_isFor_35
set_option maxRecDepth 100000 in
set_option maxHeartbeats 4000000 in
theorem p_X3_pathBetween_J30 {A : AM} {E : EN} {n : Nat} (C : Cx A E cX3_pathBetween 4 RX3 0 0) (X : Ex A E (some .int)) {k2 : WS → Nat → Int32 → Int32 → Int32 → Option (Int32 × WS)} (hk2 : ∀ (S : WS) (h0 : Nat) (x1 : Int32) (x2 : Int32) (x3 : Int32) (_ : Ty E h0 2), Gd A E 4 (QM A E wI tT) (k2 S h0 x1 x2 x3) S 2 [(0, .ref h0), (1, .int x1), (2, .int x2), (3, .int x3)] []) (S : WS) (h0 : Nat) (x1 : Int32) (x2 : Int32) (x3 : Int32) (th0 : Ty E h0 2) : Gd A E 4 (QM A E wI tT) (f_X3_pathBetween_J30 E n k2 S h0 x1 x2 x3) S 30 [(0, .ref h0), (1, .int x1), (2, .int x2), (3, .int x3)] [] := by
  unfold f_X3_pathBetween_J30
  refine r_aload_n C 0 dX3_pathBetween_30 rfl ?_
  refine r_getr C fl_X3_15 dX3_pathBetween_31 th0 (fun b1 tb1 => ?_)
  refine r_iload_n C 3 dX3_pathBetween_34 rfl ?_
  refine r_iald C dX3_pathBetween_35 tb1 ?_
  refine r_iload_n C 2 dX3_pathBetween_36 rfl ?_
  refine r_icmp_ne C 52 dX3_pathBetween_37 (by decide) ?_ ?_
  · refine r_iinc C 3 (fun y2 => [(3, .int y2), (0, .ref h0), (1, .int x1), (2, .int x2)]) dX3_pathBetween_52 rfl (v := (1 : Int32)) (by decide) (by decide) (fun _ => rfl) (fun y2 => ?_)
    refine r_goto C 2 dX3_pathBetween_55 (by decide) ?_
    refine r_sub [1, 2, 3, 0] [(0, .ref h0), (1, .int x1), (2, .int x2), (3, .int y2)] rfl ?_
    exact hk2 S h0 x1 x2 y2 th0
  · refine r_aload_n C 0 dX3_pathBetween_40 rfl ?_
    refine r_getr C fl_X3_18 dX3_pathBetween_41 th0 (fun b3 tb3 => ?_)
    refine r_iload_n C 3 dX3_pathBetween_44 rfl ?_
    refine r_iald C dX3_pathBetween_45 tb3 ?_
    refine r_iload_n C 1 dX3_pathBetween_46 rfl ?_
    refine r_icmp_ne C 52 dX3_pathBetween_47 (by decide) ?_ ?_
    · refine r_iinc C 3 (fun y4 => [(3, .int y4), (0, .ref h0), (1, .int x1), (2, .int x2)]) dX3_pathBetween_52 rfl (v := (1 : Int32)) (by decide) (by decide) (fun _ => rfl) (fun y4 => ?_)
      refine r_goto C 2 dX3_pathBetween_55 (by decide) ?_
      refine r_sub [1, 2, 3, 0] [(0, .ref h0), (1, .int x1), (2, .int x2), (3, .int y4)] rfl ?_
      exact hk2 S h0 x1 x2 y4 th0
    · refine r_iload_n C 3 dX3_pathBetween_50 rfl ?_
      exact r_ireturn C X dX3_pathBetween_51
set_option maxRecDepth 100000 in
set_option maxHeartbeats 4000000 in
theorem p_X3_pathBetween_L2 {A : AM} {E : EN} {n : Nat} (C : Cx A E cX3_pathBetween 4 RX3 0 0) (X : Ex A E (some .int))  : ∀ (m : Nat) (S : WS) (h0 : Nat) (x1 : Int32) (x2 : Int32) (x3 : Int32) (th0 : Ty E h0 2), Gd A E 4 (QM A E wI tT) (f_X3_pathBetween_L2 E n  m S h0 x1 x2 x3) S 2 [(0, .ref h0), (1, .int x1), (2, .int x2), (3, .int x3)] [] := by
  intro m
  induction m with
  | zero => intros; exact gn
  | succ m ih =>
    intro S h0 x1 x2 x3 th0
    unfold f_X3_pathBetween_L2
    refine r_iload_n C 3 dX3_pathBetween_2 rfl ?_
    refine r_aload_n C 0 dX3_pathBetween_3 rfl ?_
    refine r_geti C fl_X3_58 dX3_pathBetween_4 th0 ?_
    refine r_icmp_ge C 58 dX3_pathBetween_7 (by decide) ?_ ?_
    · refine r_iconst C (-1 : Int32) dX3_pathBetween_58 (by decide) ?_
      exact r_ireturn C X dX3_pathBetween_59
    · refine r_aload_n C 0 dX3_pathBetween_10 rfl ?_
      refine r_getr C fl_X3_15 dX3_pathBetween_11 th0 (fun b1 tb1 => ?_)
      refine r_iload_n C 3 dX3_pathBetween_14 rfl ?_
      refine r_iald C dX3_pathBetween_15 tb1 ?_
      refine r_iload_n C 1 dX3_pathBetween_16 rfl ?_
      refine r_icmp_ne C 30 dX3_pathBetween_17 (by decide) ?_ ?_
      · exact p_X3_pathBetween_J30 C X ih S h0 x1 x2 x3 th0
      · refine r_aload_n C 0 dX3_pathBetween_20 rfl ?_
        refine r_getr C fl_X3_18 dX3_pathBetween_21 th0 (fun b2 tb2 => ?_)
        refine r_iload_n C 3 dX3_pathBetween_24 rfl ?_
        refine r_iald C dX3_pathBetween_25 tb2 ?_
        refine r_iload_n C 2 dX3_pathBetween_26 rfl ?_
        refine r_icmp_eq C 50 dX3_pathBetween_27 (by decide) ?_ ?_
        · refine r_iload_n C 3 dX3_pathBetween_50 rfl ?_
          exact r_ireturn C X dX3_pathBetween_51
        · exact p_X3_pathBetween_J30 C X ih S h0 x1 x2 x3 th0
set_option maxRecDepth 100000 in
set_option maxHeartbeats 4000000 in
theorem c_X3_pathBetween (l : Launch) (E : EN) (n : Nat) (h0 : Nat) (x1 : Int32) (x2 : Int32) (th0 : Ty E h0 2) : CT l E yX3_pathBetween cX3_pathBetween 4 (some .int) 0 0 wI tT [.ref h0, .int x1, .int x2] (fun S => f_X3_pathBetween E n S h0 x1 x2) := by
  refine ct_of RX3 (by decide +kernel) rfl [(0, .ref h0), (1, .int x1), (2, .int x2)] rfl (Nat.le_of_ble_eq_true rfl) (fun A S hA C X => ?_)
  subst hA
  show Gd A E 4 (QM A E wI tT) (f_X3_pathBetween E n S h0 x1 x2) S 0 [(0, .ref h0), (1, .int x1), (2, .int x2)] []
  unfold f_X3_pathBetween
  refine r_iconst C (0 : Int32) dX3_pathBetween_0 (by decide) ?_
  refine r_istore_n C [(3, .int (0 : Int32)), (0, .ref h0), (1, .int x1), (2, .int x2)] dX3_pathBetween_1 (by decide) rfl ?_
  refine r_sub [1, 2, 3, 0] [(0, .ref h0), (1, .int x1), (2, .int x2), (3, .int (0 : Int32))] rfl ?_
  exact p_X3_pathBetween_L2 C X  n S h0 x1 x2 (0 : Int32) th0
set_option maxRecDepth 100000 in
set_option maxHeartbeats 4000000 in
theorem c_X3_dropOf (l : Launch) (E : EN) (n : Nat) (h0 : Nat) (x1 : Int32) (th0 : Ty E h0 2) : CT l E yX3_dropOf cX3_dropOf 2 (some .int) 1 21 wI tT [.ref h0, .int x1] (fun S => f_X3_dropOf E n S h0 x1) := by
  refine ct_of RX3 (by decide +kernel) rfl [(0, .ref h0), (1, .int x1)] rfl (Nat.le_of_ble_eq_true rfl) (fun A S hA C X => ?_)
  subst hA
  show Gd A E 2 (QM A E wI tT) (f_X3_dropOf E n S h0 x1) S 0 [(0, .ref h0), (1, .int x1)] []
  unfold f_X3_dropOf
  refine r_aload_n C 0 dX3_dropOf_0 rfl ?_
  refine r_getr C fl_X3_9 dX3_dropOf_1 th0 (fun b1 tb1 => ?_)
  refine r_aload_n C 0 dX3_dropOf_4 rfl ?_
  refine r_getr C fl_X3_15 dX3_dropOf_5 th0 (fun b2 tb2 => ?_)
  refine r_iload_n C 1 dX3_dropOf_8 rfl ?_
  refine r_iald C dX3_dropOf_9 tb2 ?_
  refine r_iald C dX3_dropOf_10 tb1 ?_
  refine r_aload_n C 0 dX3_dropOf_11 rfl ?_
  refine r_getr C fl_X3_9 dX3_dropOf_12 th0 (fun b3 tb3 => ?_)
  refine r_aload_n C 0 dX3_dropOf_15 rfl ?_
  refine r_getr C fl_X3_18 dX3_dropOf_16 th0 (fun b4 tb4 => ?_)
  refine r_iload_n C 1 dX3_dropOf_19 rfl ?_
  refine r_iald C dX3_dropOf_20 tb4 ?_
  refine r_iald C dX3_dropOf_21 tb3 ?_
  refine r_isub C dX3_dropOf_22 ?_
  refine r_mabs C (mG 736 (by decide +kernel) rfl) mabs_w ⟨by decide, by decide⟩ (Nat.le_of_ble_eq_true rfl) dX3_dropOf_23 ?_
  exact r_ireturn C X dX3_dropOf_26
set_option maxRecDepth 100000 in
set_option maxHeartbeats 4000000 in
theorem p_X3_courtersOf_L5 {A : AM} {E : EN} {n : Nat} (C : Cx A E cX3_courtersOf 5 RX3 0 0) (X : Ex A E (some .int))  : ∀ (m : Nat) (S : WS) (h0 : Nat) (h1 : Nat) (x2 : Int32) (x3 : Int32) (x4 : Int32) (th0 : Ty E h0 2) (th1 : Ty E h1 10), Gd A E 5 (QM A E wI tT) (f_X3_courtersOf_L5 E n  m S h0 h1 x2 x3 x4) S 5 [(0, .ref h0), (1, .ref h1), (2, .int x2), (3, .int x3), (4, .int x4)] [] := by
  intro m
  induction m with
  | zero => intros; exact gn
  | succ m ih =>
    intro S h0 h1 x2 x3 x4 th0 th1
    unfold f_X3_courtersOf_L5
    refine r_iload C 4 dX3_courtersOf_5 rfl ?_
    refine r_aload_n C 0 dX3_courtersOf_7 rfl ?_
    refine r_geti C fl_X3_64 dX3_courtersOf_8 th0 ?_
    refine r_icmp_ge C 31 dX3_courtersOf_11 (by decide) ?_ ?_
    · refine r_iload_n C 3 dX3_courtersOf_31 rfl ?_
      exact r_ireturn C X dX3_courtersOf_32
    · refine r_aload_n C 1 dX3_courtersOf_14 rfl ?_
      refine r_iload C 4 dX3_courtersOf_15 rfl ?_
      refine r_iald C dX3_courtersOf_17 th1 ?_
      refine r_iload_n C 2 dX3_courtersOf_18 rfl ?_
      refine r_icmp_ne C 25 dX3_courtersOf_19 (by decide) ?_ ?_
      · refine r_iinc C 4 (fun y1 => [(4, .int y1), (0, .ref h0), (1, .ref h1), (2, .int x2), (3, .int x3)]) dX3_courtersOf_25 rfl (v := (1 : Int32)) (by decide) (by decide) (fun _ => rfl) (fun y1 => ?_)
        refine r_goto C 5 dX3_courtersOf_28 (by decide) ?_
        refine r_sub [1, 2, 3, 4, 0] [(0, .ref h0), (1, .ref h1), (2, .int x2), (3, .int x3), (4, .int y1)] rfl ?_
        exact ih S h0 h1 x2 x3 y1 th0 th1
      · refine r_iinc C 3 (fun y2 => [(3, .int y2), (0, .ref h0), (1, .ref h1), (2, .int x2), (4, .int x4)]) dX3_courtersOf_22 rfl (v := (1 : Int32)) (by decide) (by decide) (fun _ => rfl) (fun y2 => ?_)
        refine r_iinc C 4 (fun y3 => [(4, .int y3), (3, .int y2), (0, .ref h0), (1, .ref h1), (2, .int x2)]) dX3_courtersOf_25 rfl (v := (1 : Int32)) (by decide) (by decide) (fun _ => rfl) (fun y3 => ?_)
        refine r_goto C 5 dX3_courtersOf_28 (by decide) ?_
        refine r_sub [2, 3, 4, 1, 0] [(0, .ref h0), (1, .ref h1), (2, .int x2), (3, .int y2), (4, .int y3)] rfl ?_
        exact ih S h0 h1 x2 y2 y3 th0 th1
set_option maxRecDepth 100000 in
set_option maxHeartbeats 4000000 in
theorem c_X3_courtersOf (l : Launch) (E : EN) (n : Nat) (h0 : Nat) (h1 : Nat) (x2 : Int32) (th0 : Ty E h0 2) (th1 : Ty E h1 10) : CT l E yX3_courtersOf cX3_courtersOf 5 (some .int) 0 0 wI tT [.ref h0, .ref h1, .int x2] (fun S => f_X3_courtersOf E n S h0 h1 x2) := by
  refine ct_of RX3 (by decide +kernel) rfl [(0, .ref h0), (1, .ref h1), (2, .int x2)] rfl (Nat.le_of_ble_eq_true rfl) (fun A S hA C X => ?_)
  subst hA
  show Gd A E 5 (QM A E wI tT) (f_X3_courtersOf E n S h0 h1 x2) S 0 [(0, .ref h0), (1, .ref h1), (2, .int x2)] []
  unfold f_X3_courtersOf
  refine r_iconst C (0 : Int32) dX3_courtersOf_0 (by decide) ?_
  refine r_istore_n C [(3, .int (0 : Int32)), (0, .ref h0), (1, .ref h1), (2, .int x2)] dX3_courtersOf_1 (by decide) rfl ?_
  refine r_iconst C (0 : Int32) dX3_courtersOf_2 (by decide) ?_
  refine r_istore C [(4, .int (0 : Int32)), (3, .int (0 : Int32)), (0, .ref h0), (1, .ref h1), (2, .int x2)] dX3_courtersOf_3 (by decide) rfl ?_
  refine r_sub [2, 3, 4, 1, 0] [(0, .ref h0), (1, .ref h1), (2, .int x2), (3, .int (0 : Int32)), (4, .int (0 : Int32))] rfl ?_
  exact p_X3_courtersOf_L5 C X  n S h0 h1 x2 (0 : Int32) (0 : Int32) th0 th1
set_option maxRecDepth 100000 in
set_option maxHeartbeats 4000000 in
theorem p_X3_takenBy_L5 {A : AM} {E : EN} {n : Nat} (C : Cx A E cX3_takenBy 5 RX3 0 0) (X : Ex A E (some .int))  : ∀ (m : Nat) (S : WS) (h0 : Nat) (h1 : Nat) (x2 : Int32) (x3 : Int32) (x4 : Int32) (th0 : Ty E h0 2) (th1 : Ty E h1 10), Gd A E 5 (QM A E wI tT) (f_X3_takenBy_L5 E n  m S h0 h1 x2 x3 x4) S 5 [(0, .ref h0), (1, .ref h1), (2, .int x2), (3, .int x3), (4, .int x4)] [] := by
  intro m
  induction m with
  | zero => intros; exact gn
  | succ m ih =>
    intro S h0 h1 x2 x3 x4 th0 th1
    unfold f_X3_takenBy_L5
    refine r_iload C 4 dX3_takenBy_5 rfl ?_
    refine r_aload_n C 0 dX3_takenBy_7 rfl ?_
    refine r_geti C fl_X3_64 dX3_takenBy_8 th0 ?_
    refine r_icmp_ge C 52 dX3_takenBy_11 (by decide) ?_ ?_
    · refine r_iload_n C 3 dX3_takenBy_52 rfl ?_
      exact r_ireturn C X dX3_takenBy_53
    · refine r_aload_n C 1 dX3_takenBy_14 rfl ?_
      refine r_iload C 4 dX3_takenBy_15 rfl ?_
      refine r_iald C dX3_takenBy_17 th1 ?_
      refine r_iload_n C 2 dX3_takenBy_18 rfl ?_
      refine r_icmp_ne C 46 dX3_takenBy_19 (by decide) ?_ ?_
      · refine r_iinc C 4 (fun y1 => [(4, .int y1), (0, .ref h0), (1, .ref h1), (2, .int x2), (3, .int x3)]) dX3_takenBy_46 rfl (v := (1 : Int32)) (by decide) (by decide) (fun _ => rfl) (fun y1 => ?_)
        refine r_goto C 5 dX3_takenBy_49 (by decide) ?_
        refine r_sub [1, 2, 3, 4, 0] [(0, .ref h0), (1, .ref h1), (2, .int x2), (3, .int x3), (4, .int y1)] rfl ?_
        exact ih S h0 h1 x2 x3 y1 th0 th1
      · refine r_iload_n C 3 dX3_takenBy_22 rfl ?_
        refine r_iconst C (-1 : Int32) dX3_takenBy_23 (by decide) ?_
        refine r_icmp_eq C 43 dX3_takenBy_24 (by decide) ?_ ?_
        · refine r_iload C 4 dX3_takenBy_43 rfl ?_
          refine r_istore_n C [(3, .int x4), (0, .ref h0), (1, .ref h1), (2, .int x2), (4, .int x4)] dX3_takenBy_45 (by decide) rfl ?_
          refine r_iinc C 4 (fun y2 => [(4, .int y2), (3, .int x4), (0, .ref h0), (1, .ref h1), (2, .int x2)]) dX3_takenBy_46 rfl (v := (1 : Int32)) (by decide) (by decide) (fun _ => rfl) (fun y2 => ?_)
          refine r_goto C 5 dX3_takenBy_49 (by decide) ?_
          refine r_sub [2, 3, 4, 1, 0] [(0, .ref h0), (1, .ref h1), (2, .int x2), (3, .int x4), (4, .int y2)] rfl ?_
          exact ih S h0 h1 x2 x4 y2 th0 th1
        · refine r_aload_n C 0 dX3_takenBy_27 rfl ?_
          refine r_getr C fl_X3_27 dX3_takenBy_28 th0 (fun b3 tb3 => ?_)
          refine r_iload C 4 dX3_takenBy_31 rfl ?_
          refine r_iald C dX3_takenBy_33 tb3 ?_
          refine r_aload_n C 0 dX3_takenBy_34 rfl ?_
          refine r_getr C fl_X3_27 dX3_takenBy_35 th0 (fun b4 tb4 => ?_)
          refine r_iload_n C 3 dX3_takenBy_38 rfl ?_
          refine r_iald C dX3_takenBy_39 tb4 ?_
          refine r_icmp_le C 46 dX3_takenBy_40 (by decide) ?_ ?_
          · refine r_iinc C 4 (fun y5 => [(4, .int y5), (0, .ref h0), (1, .ref h1), (2, .int x2), (3, .int x3)]) dX3_takenBy_46 rfl (v := (1 : Int32)) (by decide) (by decide) (fun _ => rfl) (fun y5 => ?_)
            refine r_goto C 5 dX3_takenBy_49 (by decide) ?_
            refine r_sub [1, 2, 3, 4, 0] [(0, .ref h0), (1, .ref h1), (2, .int x2), (3, .int x3), (4, .int y5)] rfl ?_
            exact ih S h0 h1 x2 x3 y5 th0 th1
          · refine r_iload C 4 dX3_takenBy_43 rfl ?_
            refine r_istore_n C [(3, .int x4), (0, .ref h0), (1, .ref h1), (2, .int x2), (4, .int x4)] dX3_takenBy_45 (by decide) rfl ?_
            refine r_iinc C 4 (fun y6 => [(4, .int y6), (3, .int x4), (0, .ref h0), (1, .ref h1), (2, .int x2)]) dX3_takenBy_46 rfl (v := (1 : Int32)) (by decide) (by decide) (fun _ => rfl) (fun y6 => ?_)
            refine r_goto C 5 dX3_takenBy_49 (by decide) ?_
            refine r_sub [2, 3, 4, 1, 0] [(0, .ref h0), (1, .ref h1), (2, .int x2), (3, .int x4), (4, .int y6)] rfl ?_
            exact ih S h0 h1 x2 x4 y6 th0 th1
set_option maxRecDepth 100000 in
set_option maxHeartbeats 4000000 in
theorem c_X3_takenBy (l : Launch) (E : EN) (n : Nat) (h0 : Nat) (h1 : Nat) (x2 : Int32) (th0 : Ty E h0 2) (th1 : Ty E h1 10) : CT l E yX3_takenBy cX3_takenBy 5 (some .int) 0 0 wI tT [.ref h0, .ref h1, .int x2] (fun S => f_X3_takenBy E n S h0 h1 x2) := by
  refine ct_of RX3 (by decide +kernel) rfl [(0, .ref h0), (1, .ref h1), (2, .int x2)] rfl (Nat.le_of_ble_eq_true rfl) (fun A S hA C X => ?_)
  subst hA
  show Gd A E 5 (QM A E wI tT) (f_X3_takenBy E n S h0 h1 x2) S 0 [(0, .ref h0), (1, .ref h1), (2, .int x2)] []
  unfold f_X3_takenBy
  refine r_iconst C (-1 : Int32) dX3_takenBy_0 (by decide) ?_
  refine r_istore_n C [(3, .int (-1 : Int32)), (0, .ref h0), (1, .ref h1), (2, .int x2)] dX3_takenBy_1 (by decide) rfl ?_
  refine r_iconst C (0 : Int32) dX3_takenBy_2 (by decide) ?_
  refine r_istore C [(4, .int (0 : Int32)), (3, .int (-1 : Int32)), (0, .ref h0), (1, .ref h1), (2, .int x2)] dX3_takenBy_3 (by decide) rfl ?_
  refine r_sub [2, 3, 4, 1, 0] [(0, .ref h0), (1, .ref h1), (2, .int x2), (3, .int (-1 : Int32)), (4, .int (0 : Int32))] rfl ?_
  exact p_X3_takenBy_L5 C X  n S h0 h1 x2 (-1 : Int32) (0 : Int32) th0 th1
set_option maxRecDepth 100000 in
set_option maxHeartbeats 4000000 in
theorem c_X3_isRefused (l : Launch) (E : EN) (n : Nat) (h0 : Nat) (h1 : Nat) (x2 : Int32) (th0 : Ty E h0 2) (th1 : Ty E h1 10) : CT l E yX3_isRefused cX3_isRefused 3 (some .boolean) 1 24 wI tT [.ref h0, .ref h1, .int x2] (fun S => f_X3_isRefused E n S h0 h1 x2) := by
  refine ct_of RX3 (by decide +kernel) rfl [(0, .ref h0), (1, .ref h1), (2, .int x2)] rfl (Nat.le_of_ble_eq_true rfl) (fun A S hA C X => ?_)
  subst hA
  show Gd A E 3 (QM A E wI tT) (f_X3_isRefused E n S h0 h1 x2) S 0 [(0, .ref h0), (1, .ref h1), (2, .int x2)] []
  unfold f_X3_isRefused
  refine r_aload_n C 1 dX3_isRefused_0 rfl ?_
  refine r_iload_n C 2 dX3_isRefused_1 rfl ?_
  refine r_iald C dX3_isRefused_2 th1 ?_
  refine r_iconst C (-1 : Int32) dX3_isRefused_3 (by decide) ?_
  refine r_icmp_eq C 23 dX3_isRefused_4 (by decide) ?_ ?_
  · refine r_iconst C (0 : Int32) dX3_isRefused_23 (by decide) ?_
    exact r_zreturn C X rfl dX3_isRefused_24
  · refine r_aload_n C 0 dX3_isRefused_7 rfl ?_
    refine r_aload_n C 1 dX3_isRefused_8 rfl ?_
    refine r_aload_n C 1 dX3_isRefused_9 rfl ?_
    refine r_iload_n C 2 dX3_isRefused_10 rfl ?_
    refine r_iald C dX3_isRefused_11 th1 ?_
    refine r_callV (As := [.ref h1, .int (ai S h1 x2.toNatClampNeg)]) (rest := []) C (c_X3_takenBy _ E n h0 h1 (ai S h1 x2.toNatClampNeg) th0 th1) dX3_isRefused_12 ml_X3_93 mv_X3_takenBy ⟨TX3, _, rfl⟩ (by decide) th0 rfl rfl ⟨by decide, by decide⟩ (Nat.le_of_ble_eq_true rfl) (fun v2 S1 hv2 => ?_)
    refine r_iload_n C 2 dX3_isRefused_15 rfl ?_
    refine r_icmp_eq C 23 dX3_isRefused_16 (by decide) ?_ ?_
    · refine r_iconst C (0 : Int32) dX3_isRefused_23 (by decide) ?_
      exact r_zreturn C X rfl dX3_isRefused_24
    · refine r_iconst C (1 : Int32) dX3_isRefused_19 (by decide) ?_
      refine r_goto C 24 dX3_isRefused_20 (by decide) ?_
      exact r_zreturn C X rfl dX3_isRefused_24
set_option maxRecDepth 100000 in
set_option maxHeartbeats 4000000 in
theorem c_X3_wouldBeTaken (l : Launch) (E : EN) (n : Nat) (h0 : Nat) (h1 : Nat) (x2 : Int32) (x3 : Int32) (th0 : Ty E h0 2) (th1 : Ty E h1 10) : CT l E yX3_wouldBeTaken cX3_wouldBeTaken 5 (some .boolean) 1 24 wI tT [.ref h0, .ref h1, .int x2, .int x3] (fun S => f_X3_wouldBeTaken E n S h0 h1 x2 x3) := by
  refine ct_of RX3 (by decide +kernel) rfl [(0, .ref h0), (1, .ref h1), (2, .int x2), (3, .int x3)] rfl (Nat.le_of_ble_eq_true rfl) (fun A S hA C X => ?_)
  subst hA
  show Gd A E 5 (QM A E wI tT) (f_X3_wouldBeTaken E n S h0 h1 x2 x3) S 0 [(0, .ref h0), (1, .ref h1), (2, .int x2), (3, .int x3)] []
  unfold f_X3_wouldBeTaken
  refine r_aload_n C 0 dX3_wouldBeTaken_0 rfl ?_
  refine r_aload_n C 1 dX3_wouldBeTaken_1 rfl ?_
  refine r_iload_n C 3 dX3_wouldBeTaken_2 rfl ?_
  refine r_callV (As := [.ref h1, .int x3]) (rest := []) C (c_X3_takenBy _ E n h0 h1 x3 th0 th1) dX3_wouldBeTaken_3 ml_X3_93 mv_X3_takenBy ⟨TX3, _, rfl⟩ (by decide) th0 rfl rfl ⟨by decide, by decide⟩ (Nat.le_of_ble_eq_true rfl) (fun v2 S1 hv2 => ?_)
  refine r_istore C [(4, .int v2), (0, .ref h0), (1, .ref h1), (2, .int x2), (3, .int x3)] dX3_wouldBeTaken_6 (by decide) rfl ?_
  refine r_iload C 0 dX3_wouldBeTaken_8 rfl ?_
  refine r_iconst C (-1 : Int32) dX3_wouldBeTaken_10 (by decide) ?_
  refine r_icmp_eq C 52 dX3_wouldBeTaken_11 (by decide) ?_ ?_
  · refine r_iconst C (1 : Int32) dX3_wouldBeTaken_52 (by decide) ?_
    refine r_goto C 57 dX3_wouldBeTaken_53 (by decide) ?_
    exact r_zreturn C X rfl dX3_wouldBeTaken_57
  · refine r_aload_n C 1 dX3_wouldBeTaken_14 rfl ?_
    refine r_getr C fl_X3_27 dX3_wouldBeTaken_15 th0 (fun b3 tb3 => ?_)
    refine r_iload_n C 3 dX3_wouldBeTaken_18 rfl ?_
    refine r_iald C dX3_wouldBeTaken_19 tb3 ?_
    refine r_aload_n C 1 dX3_wouldBeTaken_20 rfl ?_
    refine r_getr C fl_X3_27 dX3_wouldBeTaken_21 th0 (fun b4 tb4 => ?_)
    refine r_iload C 0 dX3_wouldBeTaken_24 rfl ?_
    refine r_iald C dX3_wouldBeTaken_26 tb4 ?_
    refine r_icmp_gt C 52 dX3_wouldBeTaken_27 (by decide) ?_ ?_
    · refine r_iconst C (1 : Int32) dX3_wouldBeTaken_52 (by decide) ?_
      refine r_goto C 57 dX3_wouldBeTaken_53 (by decide) ?_
      exact r_zreturn C X rfl dX3_wouldBeTaken_57
    · refine r_aload_n C 1 dX3_wouldBeTaken_30 rfl ?_
      refine r_getr C fl_X3_27 dX3_wouldBeTaken_31 th0 (fun b5 tb5 => ?_)
      refine r_iload_n C 3 dX3_wouldBeTaken_34 rfl ?_
      refine r_iald C dX3_wouldBeTaken_35 tb5 ?_
      refine r_aload_n C 1 dX3_wouldBeTaken_36 rfl ?_
      refine r_getr C fl_X3_27 dX3_wouldBeTaken_37 th0 (fun b6 tb6 => ?_)
      refine r_iload C 0 dX3_wouldBeTaken_40 rfl ?_
      refine r_iald C dX3_wouldBeTaken_42 tb6 ?_
      refine r_icmp_ne C 56 dX3_wouldBeTaken_43 (by decide) ?_ ?_
      · refine r_iconst C (0 : Int32) dX3_wouldBeTaken_56 (by decide) ?_
        exact r_zreturn C X rfl dX3_wouldBeTaken_57
      · refine r_iload_n C 3 dX3_wouldBeTaken_46 rfl ?_
        refine r_iload C 0 dX3_wouldBeTaken_47 rfl ?_
        refine r_icmp_ge C 56 dX3_wouldBeTaken_49 (by decide) ?_ ?_
        · refine r_iconst C (0 : Int32) dX3_wouldBeTaken_56 (by decide) ?_
          exact r_zreturn C X rfl dX3_wouldBeTaken_57
        · refine r_iconst C (1 : Int32) dX3_wouldBeTaken_52 (by decide) ?_
          refine r_goto C 57 dX3_wouldBeTaken_53 (by decide) ?_
          exact r_zreturn C X rfl dX3_wouldBeTaken_57
set_option maxRecDepth 100000 in
set_option maxHeartbeats 4000000 in
theorem c_X3_wouldStep (l : Launch) (E : EN) (n : Nat) (h0 : Nat) (x1 : Int32) (x2 : Int32) (x3 : Int32) (x4 : Int32) (th0 : Ty E h0 2) : CT l E yX3_wouldStep cX3_wouldStep 5 (some .boolean) 0 0 wI tT [.ref h0, .int x1, .int x2, .int x3, .int x4] (fun S => f_X3_wouldStep E n S h0 x1 x2 x3 x4) := by
  refine ct_of RX3 (by decide +kernel) rfl [(0, .ref h0), (1, .int x1), (2, .int x2), (3, .int x3), (4, .int x4)] rfl (Nat.le_of_ble_eq_true rfl) (fun A S hA C X => ?_)
  subst hA
  show Gd A E 5 (QM A E wI tT) (f_X3_wouldStep E n S h0 x1 x2 x3 x4) S 0 [(0, .ref h0), (1, .int x1), (2, .int x2), (3, .int x3), (4, .int x4)] []
  unfold f_X3_wouldStep
  refine r_iload_n C 2 dX3_wouldStep_0 rfl ?_
  refine r_if_lt C 55 dX3_wouldStep_1 (by decide) ?_ ?_
  · refine r_iconst C (0 : Int32) dX3_wouldStep_55 (by decide) ?_
    exact r_zreturn C X rfl dX3_wouldStep_56
  · refine r_iload_n C 2 dX3_wouldStep_4 rfl ?_
    refine r_aload_n C 0 dX3_wouldStep_5 rfl ?_
    refine r_geti C fl_X3_61 dX3_wouldStep_6 th0 ?_
    refine r_icmp_ge C 55 dX3_wouldStep_9 (by decide) ?_ ?_
    · refine r_iconst C (0 : Int32) dX3_wouldStep_55 (by decide) ?_
      exact r_zreturn C X rfl dX3_wouldStep_56
    · refine r_aload_n C 0 dX3_wouldStep_12 rfl ?_
      refine r_getr C fl_X3_21 dX3_wouldStep_13 th0 (fun b1 tb1 => ?_)
      refine r_iload_n C 2 dX3_wouldStep_16 rfl ?_
      refine r_iald C dX3_wouldStep_17 tb1 ?_
      refine r_iload_n C 3 dX3_wouldStep_18 rfl ?_
      refine r_icmp_ne C 55 dX3_wouldStep_19 (by decide) ?_ ?_
      · refine r_iconst C (0 : Int32) dX3_wouldStep_55 (by decide) ?_
        exact r_zreturn C X rfl dX3_wouldStep_56
      · refine r_iload C 4 dX3_wouldStep_22 rfl ?_
        refine r_aload_n C 0 dX3_wouldStep_24 rfl ?_
        refine r_getr C fl_X3_24 dX3_wouldStep_25 th0 (fun b2 tb2 => ?_)
        refine r_iload_n C 2 dX3_wouldStep_28 rfl ?_
        refine r_iald C dX3_wouldStep_29 tb2 ?_
        refine r_icmp_lt C 55 dX3_wouldStep_30 (by decide) ?_ ?_
        · refine r_iconst C (0 : Int32) dX3_wouldStep_55 (by decide) ?_
          exact r_zreturn C X rfl dX3_wouldStep_56
        · refine r_iload C 4 dX3_wouldStep_33 rfl ?_
          refine r_aload_n C 0 dX3_wouldStep_35 rfl ?_
          refine r_getr C fl_X3_24 dX3_wouldStep_36 th0 (fun b3 tb3 => ?_)
          refine r_iload_n C 2 dX3_wouldStep_39 rfl ?_
          refine r_iald C dX3_wouldStep_40 tb3 ?_
          refine r_aload_n C 0 dX3_wouldStep_41 rfl ?_
          refine r_getr C fl_X3_27 dX3_wouldStep_42 th0 (fun b4 tb4 => ?_)
          refine r_iload_n C 1 dX3_wouldStep_45 rfl ?_
          refine r_iald C dX3_wouldStep_46 tb4 ?_
          refine r_iadd C dX3_wouldStep_47 ?_
          refine r_icmp_gt C 55 dX3_wouldStep_48 (by decide) ?_ ?_
          · refine r_iconst C (0 : Int32) dX3_wouldStep_55 (by decide) ?_
            exact r_zreturn C X rfl dX3_wouldStep_56
          · refine r_iconst C (1 : Int32) dX3_wouldStep_51 (by decide) ?_
            refine r_goto C 56 dX3_wouldStep_52 (by decide) ?_
            exact r_zreturn C X rfl dX3_wouldStep_56
set_option maxRecDepth 100000 in
set_option maxHeartbeats 4000000 in
theorem c_X3_hasStep (l : Launch) (E : EN) (n : Nat) (h0 : Nat) (x1 : Int32) (x2 : Int32) (x3 : Int32) (th0 : Ty E h0 2) : CT l E yX3_hasStep cX3_hasStep 4 (some .boolean) 1 24 wI tT [.ref h0, .int x1, .int x2, .int x3] (fun S => f_X3_hasStep E n S h0 x1 x2 x3) := by
  refine ct_of RX3 (by decide +kernel) rfl [(0, .ref h0), (1, .int x1), (2, .int x2), (3, .int x3)] rfl (Nat.le_of_ble_eq_true rfl) (fun A S hA C X => ?_)
  subst hA
  show Gd A E 4 (QM A E wI tT) (f_X3_hasStep E n S h0 x1 x2 x3) S 0 [(0, .ref h0), (1, .int x1), (2, .int x2), (3, .int x3)] []
  unfold f_X3_hasStep
  refine r_aload_n C 0 dX3_hasStep_0 rfl ?_
  refine r_iload_n C 1 dX3_hasStep_1 rfl ?_
  refine r_aload_n C 0 dX3_hasStep_2 rfl ?_
  refine r_getr C fl_X3_36 dX3_hasStep_3 th0 (fun b1 tb1 => ?_)
  refine r_iload_n C 1 dX3_hasStep_6 rfl ?_
  refine r_iald C dX3_hasStep_7 tb1 ?_
  refine r_iload_n C 2 dX3_hasStep_8 rfl ?_
  refine r_iload_n C 3 dX3_hasStep_9 rfl ?_
  refine r_callV (As := [.int x1, .int (ai S b1 x1.toNatClampNeg), .int x2, .int x3]) (rest := []) C (c_X3_wouldStep _ E n h0 x1 (ai S b1 x1.toNatClampNeg) x2 x3 th0) dX3_hasStep_10 ml_X3_112 mv_X3_wouldStep ⟨TX3, _, rfl⟩ (by decide) th0 rfl rfl ⟨by decide, by decide⟩ (Nat.le_of_ble_eq_true rfl) (fun v3 S2 hv3 => ?_)
  exact r_zreturnc C X dX3_hasStep_13
set_option maxRecDepth 100000 in
set_option maxHeartbeats 4000000 in
theorem p_X3_stepsOn_L6 {A : AM} {E : EN} {n : Nat} (C : Cx A E cX3_stepsOn 6 RX3 2 47) (X : Ex A E (some .int))  : ∀ (m : Nat) (S : WS) (h0 : Nat) (x1 : Int32) (x2 : Int32) (x3 : Int32) (x4 : Int32) (x5 : Int32) (th0 : Ty E h0 2), Gd A E 6 (QM A E wI tT) (f_X3_stepsOn_L6 E n  m S h0 x1 x2 x3 x4 x5) S 6 [(0, .ref h0), (1, .int x1), (2, .int x2), (3, .int x3), (4, .int x4), (5, .int x5)] [] := by
  intro m
  induction m with
  | zero => intros; exact gn
  | succ m ih =>
    intro S h0 x1 x2 x3 x4 x5 th0
    unfold f_X3_stepsOn_L6
    refine r_iload C 5 dX3_stepsOn_6 rfl ?_
    refine r_aload_n C 0 dX3_stepsOn_8 rfl ?_
    refine r_geti C fl_X3_64 dX3_stepsOn_9 th0 ?_
    refine r_icmp_ge C 41 dX3_stepsOn_12 (by decide) ?_ ?_
    · refine r_iload C 4 dX3_stepsOn_41 rfl ?_
      exact r_ireturn C X dX3_stepsOn_43
    · refine r_iload C 5 dX3_stepsOn_15 rfl ?_
      refine r_iload_n C 3 dX3_stepsOn_17 rfl ?_
      refine r_icmp_eq C 35 dX3_stepsOn_18 (by decide) ?_ ?_
      · refine r_iinc C 5 (fun y1 => [(5, .int y1), (0, .ref h0), (1, .int x1), (2, .int x2), (3, .int x3), (4, .int x4)]) dX3_stepsOn_35 rfl (v := (1 : Int32)) (by decide) (by decide) (fun _ => rfl) (fun y1 => ?_)
        refine r_goto C 6 dX3_stepsOn_38 (by decide) ?_
        refine r_sub [1, 2, 3, 4, 5, 0] [(0, .ref h0), (1, .int x1), (2, .int x2), (3, .int x3), (4, .int x4), (5, .int y1)] rfl ?_
        exact ih S h0 x1 x2 x3 x4 y1 th0
      · refine r_aload_n C 0 dX3_stepsOn_21 rfl ?_
        refine r_iload C 5 dX3_stepsOn_22 rfl ?_
        refine r_iload_n C 1 dX3_stepsOn_24 rfl ?_
        refine r_iload_n C 2 dX3_stepsOn_25 rfl ?_
        refine r_callV (As := [.int x5, .int x1, .int x2]) (rest := []) C (c_X3_hasStep _ E n h0 x5 x1 x2 th0) dX3_stepsOn_26 ml_X3_116 mv_X3_hasStep ⟨TX3, _, rfl⟩ (by decide) th0 rfl rfl ⟨by decide, by decide⟩ (Nat.le_of_ble_eq_true rfl) (fun v3 S2 hv3 => ?_)
        refine r_if_eq C 35 dX3_stepsOn_29 (by decide) ?_ ?_
        · refine r_iinc C 5 (fun y4 => [(5, .int y4), (0, .ref h0), (1, .int x1), (2, .int x2), (3, .int x3), (4, .int x4)]) dX3_stepsOn_35 rfl (v := (1 : Int32)) (by decide) (by decide) (fun _ => rfl) (fun y4 => ?_)
          refine r_goto C 6 dX3_stepsOn_38 (by decide) ?_
          refine r_sub [1, 2, 3, 4, 5, 0] [(0, .ref h0), (1, .int x1), (2, .int x2), (3, .int x3), (4, .int x4), (5, .int y4)] rfl ?_
          exact ih S2 h0 x1 x2 x3 x4 y4 th0
        · refine r_iinc C 4 (fun y5 => [(4, .int y5), (0, .ref h0), (1, .int x1), (2, .int x2), (3, .int x3), (5, .int x5)]) dX3_stepsOn_32 rfl (v := (1 : Int32)) (by decide) (by decide) (fun _ => rfl) (fun y5 => ?_)
          refine r_iinc C 5 (fun y6 => [(5, .int y6), (4, .int y5), (0, .ref h0), (1, .int x1), (2, .int x2), (3, .int x3)]) dX3_stepsOn_35 rfl (v := (1 : Int32)) (by decide) (by decide) (fun _ => rfl) (fun y6 => ?_)
          refine r_goto C 6 dX3_stepsOn_38 (by decide) ?_
          refine r_sub [2, 3, 4, 5, 1, 0] [(0, .ref h0), (1, .int x1), (2, .int x2), (3, .int x3), (4, .int y5), (5, .int y6)] rfl ?_
          exact ih S2 h0 x1 x2 x3 y5 y6 th0
set_option maxRecDepth 100000 in
set_option maxHeartbeats 4000000 in
theorem c_X3_stepsOn (l : Launch) (E : EN) (n : Nat) (h0 : Nat) (x1 : Int32) (x2 : Int32) (x3 : Int32) (th0 : Ty E h0 2) : CT l E yX3_stepsOn cX3_stepsOn 6 (some .int) 2 47 wI tT [.ref h0, .int x1, .int x2, .int x3] (fun S => f_X3_stepsOn E n S h0 x1 x2 x3) := by
  refine ct_of RX3 (by decide +kernel) rfl [(0, .ref h0), (1, .int x1), (2, .int x2), (3, .int x3)] rfl (Nat.le_of_ble_eq_true rfl) (fun A S hA C X => ?_)
  subst hA
  show Gd A E 6 (QM A E wI tT) (f_X3_stepsOn E n S h0 x1 x2 x3) S 0 [(0, .ref h0), (1, .int x1), (2, .int x2), (3, .int x3)] []
  unfold f_X3_stepsOn
  refine r_iconst C (0 : Int32) dX3_stepsOn_0 (by decide) ?_
  refine r_istore C [(4, .int (0 : Int32)), (0, .ref h0), (1, .int x1), (2, .int x2), (3, .int x3)] dX3_stepsOn_1 (by decide) rfl ?_
  refine r_iconst C (0 : Int32) dX3_stepsOn_3 (by decide) ?_
  refine r_istore C [(5, .int (0 : Int32)), (4, .int (0 : Int32)), (0, .ref h0), (1, .int x1), (2, .int x2), (3, .int x3)] dX3_stepsOn_4 (by decide) rfl ?_
  refine r_sub [2, 3, 4, 5, 1, 0] [(0, .ref h0), (1, .int x1), (2, .int x2), (3, .int x3), (4, .int (0 : Int32)), (5, .int (0 : Int32))] rfl ?_
  exact p_X3_stepsOn_L6 C X  n S h0 x1 x2 x3 (0 : Int32) (0 : Int32) th0
set_option maxRecDepth 100000 in
set_option maxHeartbeats 4000000 in
theorem c_X3_fallOf (l : Launch) (E : EN) (n : Nat) (h0 : Nat) (x1 : Int32) (x2 : Int32) (th0 : Ty E h0 2) : CT l E yX3_fallOf cX3_fallOf 4 (some .int) 2 46 wI tT [.ref h0, .int x1, .int x2] (fun S => f_X3_fallOf E n S h0 x1 x2) := by
  refine ct_of RX3 (by decide +kernel) rfl [(0, .ref h0), (1, .int x1), (2, .int x2)] rfl (Nat.le_of_ble_eq_true rfl) (fun A S hA C X => ?_)
  subst hA
  show Gd A E 4 (QM A E wI tT) (f_X3_fallOf E n S h0 x1 x2) S 0 [(0, .ref h0), (1, .int x1), (2, .int x2)] []
  unfold f_X3_fallOf
  refine r_aload_n C 0 dX3_fallOf_0 rfl ?_
  refine r_getr C fl_X3_39 dX3_fallOf_1 th0 (fun b1 tb1 => ?_)
  refine r_iload_n C 2 dX3_fallOf_4 rfl ?_
  refine r_iald C dX3_fallOf_5 tb1 ?_
  refine r_aload_n C 0 dX3_fallOf_6 rfl ?_
  refine r_aload_n C 0 dX3_fallOf_7 rfl ?_
  refine r_getr C fl_X3_36 dX3_fallOf_8 th0 (fun b2 tb2 => ?_)
  refine r_iload_n C 1 dX3_fallOf_11 rfl ?_
  refine r_callV (As := [.ref b2, .int x1]) (rest := [.int (ai S b1 x2.toNatClampNeg)]) C (c_X3_isRefused _ E n h0 b2 x1 th0 tb2) dX3_fallOf_12 ml_X3_97 mv_X3_isRefused ⟨TX3, _, rfl⟩ (by decide) th0 rfl rfl ⟨by decide, by decide⟩ (Nat.le_of_ble_eq_true rfl) (fun v4 S3 hv4 => ?_)
  refine r_if_eq C 27 dX3_fallOf_15 (by decide) ?_ ?_
  · refine r_iconst C (0 : Int32) dX3_fallOf_27 (by decide) ?_
    refine r_iadd C dX3_fallOf_28 ?_
    refine r_topi (fun y5 => ?_)
    refine r_istore_n C [(3, .int y5), (0, .ref h0), (1, .int x1), (2, .int x2)] dX3_fallOf_29 (by decide) rfl ?_
    refine r_iload_n C 0 dX3_fallOf_30 rfl ?_
    refine r_bipush C (100 : Int32) dX3_fallOf_31 (by decide) ?_
    refine r_mmin C (mG 849 (by decide +kernel) rfl) mmin_w ⟨by decide, by decide⟩ (Nat.le_of_ble_eq_true rfl) dX3_fallOf_33 ?_
    exact r_ireturn C X dX3_fallOf_36
  · refine r_aload_n C 0 dX3_fallOf_18 rfl ?_
    refine r_getr C fl_X3_30 dX3_fallOf_19 th0 (fun b6 tb6 => ?_)
    refine r_iload_n C 1 dX3_fallOf_22 rfl ?_
    refine r_iald C dX3_fallOf_23 tb6 ?_
    refine r_goto C 28 dX3_fallOf_24 (by decide) ?_
    refine r_iadd C dX3_fallOf_28 ?_
    refine r_topi (fun y7 => ?_)
    refine r_istore_n C [(3, .int y7), (0, .ref h0), (1, .int x1), (2, .int x2)] dX3_fallOf_29 (by decide) rfl ?_
    refine r_iload_n C 0 dX3_fallOf_30 rfl ?_
    refine r_bipush C (100 : Int32) dX3_fallOf_31 (by decide) ?_
    refine r_mmin C (mG 849 (by decide +kernel) rfl) mmin_w ⟨by decide, by decide⟩ (Nat.le_of_ble_eq_true rfl) dX3_fallOf_33 ?_
    exact r_ireturn C X dX3_fallOf_36
set_option maxRecDepth 100000 in
set_option maxHeartbeats 4000000 in
theorem p_X3_safeAlong_L6 {A : AM} {E : EN} {n : Nat} (C : Cx A E cX3_safeAlong 8 RX3 3 69) (X : Ex A E (some .long))  : ∀ (m : Nat) (S : WS) (h0 : Nat) (x3 : Int32) (x4 : Int32) (x5 : Int64) (x7 : Int32) (th0 : Ty E h0 2), Gd A E 8 (QM A E wJ tT) (f_X3_safeAlong_L6 E n  m S h0 x3 x4 x5 x7) S 6 [(0, .ref h0), (3, .int x3), (4, .int x4), (5, .long x5), (7, .int x7)] [] := by
  intro m
  induction m with
  | zero => intros; exact gn
  | succ m ih =>
    intro S h0 x3 x4 x5 x7 th0
    unfold f_X3_safeAlong_L6
    refine r_iload C 4 dX3_safeAlong_6 rfl ?_
    refine r_aload_n C 0 dX3_safeAlong_8 rfl ?_
    refine r_geti C fl_X3_64 dX3_safeAlong_9 th0 ?_
    refine r_icmp_ge C 54 dX3_safeAlong_12 (by decide) ?_ ?_
    · refine r_lload C 3 dX3_safeAlong_54 rfl ?_
      exact r_lreturn C X dX3_safeAlong_56
    · refine r_aload_n C 0 dX3_safeAlong_15 rfl ?_
      refine r_iload C 4 dX3_safeAlong_16 rfl ?_
      refine r_iload_n C 1 dX3_safeAlong_18 rfl ?_
      refine r_iload C 2 dX3_safeAlong_19 rfl ?_
      refine r_callV (As := [.int x7, .int x3, .int x4]) (rest := []) C (c_X3_hasStep _ E n h0 x7 x3 x4 th0) dX3_safeAlong_21 ml_X3_116 mv_X3_hasStep ⟨TX3, _, rfl⟩ (by decide) th0 rfl rfl ⟨by decide, by decide⟩ (Nat.le_of_ble_eq_true rfl) (fun v2 S1 hv2 => ?_)
      refine r_if_eq C 48 dX3_safeAlong_24 (by decide) ?_ ?_
      · refine r_iinc C 4 (fun y3 => [(7, .int y3), (0, .ref h0), (3, .int x3), (4, .int x4), (5, .long x5)]) dX3_safeAlong_48 rfl (v := (1 : Int32)) (by decide) (by decide) (fun _ => rfl) (fun y3 => ?_)
        refine r_goto C 6 dX3_safeAlong_51 (by decide) ?_
        refine r_sub [1, 2, 3, 4, 0] [(0, .ref h0), (3, .int x3), (4, .int x4), (5, .long x5), (7, .int y3)] rfl ?_
        exact ih S1 h0 x3 x4 x5 y3 th0
      · refine r_lload C 3 dX3_safeAlong_27 rfl ?_
        refine r_ldc2 C (100 : Int64) (mG 843 (by decide +kernel) rfl) dX3_safeAlong_29 ?_
        refine r_ldiv C dX3_safeAlong_32 ?_
        refine r_bipush C (100 : Int32) dX3_safeAlong_33 (by decide) ?_
        refine r_aload_n C 0 dX3_safeAlong_35 rfl ?_
        refine r_iload C 4 dX3_safeAlong_36 rfl ?_
        refine r_iload C 2 dX3_safeAlong_38 rfl ?_
        refine r_callV (As := [.int x7, .int x4]) (rest := [.int (100 : Int32), .long (x5 / (100 : Int64))]) C (c_X3_fallOf _ E n h0 x7 x4 th0) dX3_safeAlong_40 ml_X3_139 mv_X3_fallOf ⟨TX3, _, rfl⟩ (by decide) th0 rfl rfl ⟨by decide, by decide⟩ (Nat.le_of_ble_eq_true rfl) (fun v5 S4 hv5 => ?_)
        refine r_isub C dX3_safeAlong_43 ?_
        refine r_i2l C dX3_safeAlong_44 ?_
        refine r_lmul C dX3_safeAlong_45 ?_
        refine r_topl (fun y6 => ?_)
        refine r_lstore C [(5, .long y6), (0, .ref h0), (3, .int x3), (4, .int x4), (7, .int x7)] dX3_safeAlong_46 (by decide) rfl ?_
        refine r_iinc C 4 (fun y7 => [(7, .int y7), (5, .long y6), (0, .ref h0), (3, .int x3), (4, .int x4)]) dX3_safeAlong_48 rfl (v := (1 : Int32)) (by decide) (by decide) (fun _ => rfl) (fun y7 => ?_)
        refine r_goto C 6 dX3_safeAlong_51 (by decide) ?_
        refine r_sub [2, 3, 4, 1, 0] [(0, .ref h0), (3, .int x3), (4, .int x4), (5, .long y6), (7, .int y7)] rfl ?_
        exact ih S4 h0 x3 x4 y6 y7 th0
set_option maxRecDepth 100000 in
set_option maxHeartbeats 4000000 in
theorem c_X3_safeAlong (l : Launch) (E : EN) (n : Nat) (h0 : Nat) (x1 : Int64) (x3 : Int32) (x4 : Int32) (th0 : Ty E h0 2) : CT l E yX3_safeAlong cX3_safeAlong 8 (some .long) 3 69 wJ tT [.ref h0, .long x1, .int x3, .int x4] (fun S => f_X3_safeAlong E n S h0 x1 x3 x4) := by
  refine ct_of RX3 (by decide +kernel) rfl [(0, .ref h0), (1, .long x1), (3, .int x3), (4, .int x4)] rfl (Nat.le_of_ble_eq_true rfl) (fun A S hA C X => ?_)
  subst hA
  show Gd A E 8 (QM A E wJ tT) (f_X3_safeAlong E n S h0 x1 x3 x4) S 0 [(0, .ref h0), (1, .long x1), (3, .int x3), (4, .int x4)] []
  unfold f_X3_safeAlong
  refine r_lload_n C 1 dX3_safeAlong_0 rfl ?_
  refine r_lstore C [(5, .long x1), (0, .ref h0), (1, .long x1), (3, .int x3), (4, .int x4)] dX3_safeAlong_1 (by decide) rfl ?_
  refine r_iconst C (0 : Int32) dX3_safeAlong_3 (by decide) ?_
  refine r_istore C [(7, .int (0 : Int32)), (5, .long x1), (0, .ref h0), (1, .long x1), (3, .int x3), (4, .int x4)] dX3_safeAlong_4 (by decide) rfl ?_
  refine r_sub [2, 4, 5, 1, 0] [(0, .ref h0), (3, .int x3), (4, .int x4), (5, .long x1), (7, .int (0 : Int32))] rfl ?_
  exact p_X3_safeAlong_L6 C X  n S h0 x3 x4 x1 (0 : Int32) th0
set_option maxRecDepth 100000 in
set_option maxHeartbeats 4000000 in
theorem p_X3_placesFrom_L22 {A : AM} {E : EN} {n : Nat} (C : Cx A E cX3_placesFrom 8 RX3 0 0) (X : Ex A E (some .int)) {k7 : WS → Nat → Int32 → Int32 → Int32 → Option (Int32 × WS)} (hk7 : ∀ (S : WS) (h0 : Nat) (x2 : Int32) (x3 : Int32) (x4 : Int32) (_ : Ty E h0 2), Gd A E 8 (QM A E wI tT) (k7 S h0 x2 x3 x4) S 7 [(0, .ref h0), (2, .int x2), (3, .int x3), (4, .int x4)] []) : ∀ (m : Nat) (S : WS) (h0 : Nat) (x2 : Int32) (x3 : Int32) (x4 : Int32) (x5 : Int32) (x6 : Int32) (th0 : Ty E h0 2), Gd A E 8 (QM A E wI tT) (f_X3_placesFrom_L22 E n k7 m S h0 x2 x3 x4 x5 x6) S 22 [(0, .ref h0), (2, .int x2), (3, .int x3), (4, .int x4), (5, .int x5), (6, .int x6)] [] := by
  intro m
  induction m with
  | zero => intros; exact gn
  | succ m ih =>
    intro S h0 x2 x3 x4 x5 x6 th0
    unfold f_X3_placesFrom_L22
    refine r_iload C 5 dX3_placesFrom_22 rfl ?_
    refine r_aload_n C 0 dX3_placesFrom_24 rfl ?_
    refine r_geti C fl_X3_58 dX3_placesFrom_25 th0 ?_
    refine r_icmp_ge C 80 dX3_placesFrom_28 (by decide) ?_ ?_
    · refine r_iload_n C 2 dX3_placesFrom_80 rfl ?_
      refine r_iload C 4 dX3_placesFrom_81 rfl ?_
      refine r_icmp_ne C 89 dX3_placesFrom_83 (by decide) ?_ ?_
      · refine r_iinc C 3 (fun y1 => [(4, .int y1), (0, .ref h0), (2, .int x2), (3, .int x3), (5, .int x5), (6, .int x6)]) dX3_placesFrom_89 rfl (v := (1 : Int32)) (by decide) (by decide) (fun _ => rfl) (fun y1 => ?_)
        refine r_goto C 7 dX3_placesFrom_92 (by decide) ?_
        refine r_sub [1, 2, 3, 0] [(0, .ref h0), (2, .int x2), (3, .int x3), (4, .int y1)] rfl ?_
        exact hk7 S h0 x2 x3 y1 th0
      · refine r_goto C 95 dX3_placesFrom_86 (by decide) ?_
        refine r_iload_n C 2 dX3_placesFrom_95 rfl ?_
        exact r_ireturn C X dX3_placesFrom_96
    · refine r_iconst C (1 : Int32) dX3_placesFrom_31 (by decide) ?_
      refine r_aload_n C 0 dX3_placesFrom_32 rfl ?_
      refine r_getr C fl_X3_15 dX3_placesFrom_33 th0 (fun b2 tb2 => ?_)
      refine r_iload C 5 dX3_placesFrom_36 rfl ?_
      refine r_iald C dX3_placesFrom_38 tb2 ?_
      refine r_ishl C dX3_placesFrom_39 ?_
      refine r_iconst C (1 : Int32) dX3_placesFrom_40 (by decide) ?_
      refine r_aload_n C 0 dX3_placesFrom_41 rfl ?_
      refine r_getr C fl_X3_18 dX3_placesFrom_42 th0 (fun b3 tb3 => ?_)
      refine r_iload C 5 dX3_placesFrom_45 rfl ?_
      refine r_iald C dX3_placesFrom_47 tb3 ?_
      refine r_ishl C dX3_placesFrom_48 ?_
      refine r_ior C dX3_placesFrom_49 ?_
      refine r_topi (fun y4 => ?_)
      refine r_istore C [(7, .int y4), (0, .ref h0), (2, .int x2), (3, .int x3), (4, .int x4), (5, .int x5), (6, .int x6)] dX3_placesFrom_50 (by decide) rfl ?_
      refine r_iload_n C 2 dX3_placesFrom_52 rfl ?_
      refine r_iload C 6 dX3_placesFrom_53 rfl ?_
      refine r_ishr C dX3_placesFrom_55 ?_
      refine r_iconst C (1 : Int32) dX3_placesFrom_56 (by decide) ?_
      refine r_iand C dX3_placesFrom_57 ?_
      refine r_iconst C (1 : Int32) dX3_placesFrom_58 (by decide) ?_
      refine r_icmp_ne C 74 dX3_placesFrom_59 (by decide) ?_ ?_
      · refine r_iinc C 6 (fun y5 => [(6, .int y5), (7, .int y4), (0, .ref h0), (2, .int x2), (3, .int x3), (4, .int x4), (5, .int x5)]) dX3_placesFrom_74 rfl (v := (1 : Int32)) (by decide) (by decide) (fun _ => rfl) (fun y5 => ?_)
        refine r_goto C 22 dX3_placesFrom_77 (by decide) ?_
        refine r_sub [2, 3, 4, 5, 6, 0] [(0, .ref h0), (2, .int x2), (3, .int x3), (4, .int x4), (5, .int x5), (6, .int y5)] rfl ?_
        exact ih S h0 x2 x3 x4 x5 y5 th0
      · refine r_iload_n C 3 dX3_placesFrom_62 rfl ?_
        refine r_iload C 0 dX3_placesFrom_63 rfl ?_
        refine r_iand C dX3_placesFrom_65 ?_
        refine r_if_eq C 74 dX3_placesFrom_66 (by decide) ?_ ?_
        · refine r_iinc C 6 (fun y6 => [(6, .int y6), (7, .int y4), (0, .ref h0), (2, .int x2), (3, .int x3), (4, .int x4), (5, .int x5)]) dX3_placesFrom_74 rfl (v := (1 : Int32)) (by decide) (by decide) (fun _ => rfl) (fun y6 => ?_)
          refine r_goto C 22 dX3_placesFrom_77 (by decide) ?_
          refine r_sub [2, 3, 4, 5, 6, 0] [(0, .ref h0), (2, .int x2), (3, .int x3), (4, .int x4), (5, .int x5), (6, .int y6)] rfl ?_
          exact ih S h0 x2 x3 x4 x5 y6 th0
        · refine r_iload_n C 3 dX3_placesFrom_69 rfl ?_
          refine r_iload C 0 dX3_placesFrom_70 rfl ?_
          refine r_ior C dX3_placesFrom_72 ?_
          refine r_topi (fun y7 => ?_)
          refine r_istore_n C [(3, .int y7), (7, .int y4), (0, .ref h0), (2, .int x2), (4, .int x4), (5, .int x5), (6, .int x6)] dX3_placesFrom_73 (by decide) rfl ?_
          refine r_iinc C 6 (fun y8 => [(6, .int y8), (3, .int y7), (7, .int y4), (0, .ref h0), (2, .int x2), (4, .int x4), (5, .int x5)]) dX3_placesFrom_74 rfl (v := (1 : Int32)) (by decide) (by decide) (fun _ => rfl) (fun y8 => ?_)
          refine r_goto C 22 dX3_placesFrom_77 (by decide) ?_
          refine r_sub [3, 4, 1, 5, 6, 0] [(0, .ref h0), (2, .int x2), (3, .int y7), (4, .int x4), (5, .int x5), (6, .int y8)] rfl ?_
          exact ih S h0 x2 y7 x4 x5 y8 th0
set_option maxRecDepth 100000 in
set_option maxHeartbeats 4000000 in
theorem p_X3_placesFrom_L7 {A : AM} {E : EN} {n : Nat} (C : Cx A E cX3_placesFrom 8 RX3 0 0) (X : Ex A E (some .int))  : ∀ (m : Nat) (S : WS) (h0 : Nat) (x2 : Int32) (x3 : Int32) (x4 : Int32) (th0 : Ty E h0 2), Gd A E 8 (QM A E wI tT) (f_X3_placesFrom_L7 E n  m S h0 x2 x3 x4) S 7 [(0, .ref h0), (2, .int x2), (3, .int x3), (4, .int x4)] [] := by
  intro m
  induction m with
  | zero => intros; exact gn
  | succ m ih =>
    intro S h0 x2 x3 x4 th0
    unfold f_X3_placesFrom_L7
    refine r_iload C 3 dX3_placesFrom_7 rfl ?_
    refine r_aload_n C 0 dX3_placesFrom_9 rfl ?_
    refine r_geti C fl_X3_52 dX3_placesFrom_10 th0 ?_
    refine r_icmp_ge C 95 dX3_placesFrom_13 (by decide) ?_ ?_
    · refine r_iload_n C 2 dX3_placesFrom_95 rfl ?_
      exact r_ireturn C X dX3_placesFrom_96
    · refine r_iload_n C 2 dX3_placesFrom_16 rfl ?_
      refine r_istore C [(5, .int x3), (0, .ref h0), (2, .int x2), (3, .int x3), (4, .int x4)] dX3_placesFrom_17 (by decide) rfl ?_
      refine r_iconst C (0 : Int32) dX3_placesFrom_19 (by decide) ?_
      refine r_istore C [(6, .int (0 : Int32)), (5, .int x3), (0, .ref h0), (2, .int x2), (3, .int x3), (4, .int x4)] dX3_placesFrom_20 (by decide) rfl ?_
      refine r_sub [2, 3, 4, 5, 1, 0] [(0, .ref h0), (2, .int x2), (3, .int x3), (4, .int x4), (5, .int x3), (6, .int (0 : Int32))] rfl ?_
      exact p_X3_placesFrom_L22 C X ih n S h0 x2 x3 x4 x3 (0 : Int32) th0
set_option maxRecDepth 100000 in
set_option maxHeartbeats 4000000 in
theorem c_X3_placesFrom (l : Launch) (E : EN) (n : Nat) (h0 : Nat) (x1 : Int32) (x2 : Int32) (th0 : Ty E h0 2) : CT l E yX3_placesFrom cX3_placesFrom 8 (some .int) 0 0 wI tT [.ref h0, .int x1, .int x2] (fun S => f_X3_placesFrom E n S h0 x1 x2) := by
  refine ct_of RX3 (by decide +kernel) rfl [(0, .ref h0), (1, .int x1), (2, .int x2)] rfl (Nat.le_of_ble_eq_true rfl) (fun A S hA C X => ?_)
  subst hA
  show Gd A E 8 (QM A E wI tT) (f_X3_placesFrom E n S h0 x1 x2) S 0 [(0, .ref h0), (1, .int x1), (2, .int x2)] []
  unfold f_X3_placesFrom
  refine r_iconst C (1 : Int32) dX3_placesFrom_0 (by decide) ?_
  refine r_iload_n C 1 dX3_placesFrom_1 rfl ?_
  refine r_ishl C dX3_placesFrom_2 ?_
  refine r_topi (fun y1 => ?_)
  refine r_istore_n C [(3, .int y1), (0, .ref h0), (1, .int x1), (2, .int x2)] dX3_placesFrom_3 (by decide) rfl ?_
  refine r_iconst C (0 : Int32) dX3_placesFrom_4 (by decide) ?_
  refine r_istore C [(4, .int (0 : Int32)), (3, .int y1), (0, .ref h0), (1, .int x1), (2, .int x2)] dX3_placesFrom_5 (by decide) rfl ?_
  refine r_sub [2, 4, 1, 0] [(0, .ref h0), (2, .int x2), (3, .int y1), (4, .int (0 : Int32))] rfl ?_
  exact p_X3_placesFrom_L7 C X  n S h0 x2 y1 (0 : Int32) th0
set_option maxRecDepth 100000 in
set_option maxHeartbeats 4000000 in
theorem p_X4_nextToken_L170 {A : AM} {E : EN} {n : Nat} (C : Cx A E cX4_nextToken 1 RX4 1 21) (X : Ex A E none)  : ∀ (m : Nat) (S : WS) (h0 : Nat) (th0 : Ty E h0 3), Gd A E 1 (QM A E wV tT) (f_X4_nextToken_L170 E n  m S h0) S 170 [(0, .ref h0)] [] := by
  intro m
  induction m with
  | zero => intros; exact gn
  | succ m ih =>
    intro S h0 th0
    unfold f_X4_nextToken_L170
    refine r_aload_n C 0 dX4_nextToken_170 rfl ?_
    refine r_geti C fl_X4_22 dX4_nextToken_171 th0 ?_
    refine r_iconst C (1 : Int32) dX4_nextToken_174 (by decide) ?_
    refine r_icmp_eq C 264 dX4_nextToken_175 (by decide) ?_ ?_
    · refine r_aload_n C 0 dX4_nextToken_264 rfl ?_
      refine r_aload_n C 0 dX4_nextToken_265 rfl ?_
      refine r_geti C fl_X4_19 dX4_nextToken_266 th0 ?_
      refine r_aload_n C 0 dX4_nextToken_269 rfl ?_
      refine r_geti C fl_X4_25 dX4_nextToken_270 th0 ?_
      refine r_iconst C (1 : Int32) dX4_nextToken_273 (by decide) ?_
      refine r_iadd C dX4_nextToken_274 ?_
      refine r_mmax C (mG 575 (by decide +kernel) rfl) mmax_w ⟨by decide, by decide⟩ (Nat.le_of_ble_eq_true rfl) dX4_nextToken_275 ?_
      refine r_puti C fl_X4_19 dX4_nextToken_278 th0 (fun S1 => ?_)
      exact r_return C X dX4_nextToken_281
    · refine r_aload_n C 0 dX4_nextToken_178 rfl ?_
      refine r_geti C fl_X4_19 dX4_nextToken_179 th0 ?_
      refine r_aload_n C 0 dX4_nextToken_182 rfl ?_
      refine r_geti C fl_X4_15 dX4_nextToken_183 th0 ?_
      refine r_icmp_ge C 264 dX4_nextToken_186 (by decide) ?_ ?_
      · refine r_aload_n C 0 dX4_nextToken_264 rfl ?_
        refine r_aload_n C 0 dX4_nextToken_265 rfl ?_
        refine r_geti C fl_X4_19 dX4_nextToken_266 th0 ?_
        refine r_aload_n C 0 dX4_nextToken_269 rfl ?_
        refine r_geti C fl_X4_25 dX4_nextToken_270 th0 ?_
        refine r_iconst C (1 : Int32) dX4_nextToken_273 (by decide) ?_
        refine r_iadd C dX4_nextToken_274 ?_
        refine r_mmax C (mG 575 (by decide +kernel) rfl) mmax_w ⟨by decide, by decide⟩ (Nat.le_of_ble_eq_true rfl) dX4_nextToken_275 ?_
        refine r_puti C fl_X4_19 dX4_nextToken_278 th0 (fun S2 => ?_)
        exact r_return C X dX4_nextToken_281
      · refine r_aload_n C 0 dX4_nextToken_189 rfl ?_
        refine r_getr C fl_X4_9 dX4_nextToken_190 th0 (fun b3 tb3 => ?_)
        refine r_aload_n C 0 dX4_nextToken_193 rfl ?_
        refine r_geti C fl_X4_19 dX4_nextToken_194 th0 ?_
        refine r_bald C dX4_nextToken_197 tb3 ?_
        refine r_bipush C (48 : Int32) dX4_nextToken_198 (by decide) ?_
        refine r_icmp_lt C 264 dX4_nextToken_200 (by decide) ?_ ?_
        · refine r_aload_n C 0 dX4_nextToken_264 rfl ?_
          refine r_aload_n C 0 dX4_nextToken_265 rfl ?_
          refine r_geti C fl_X4_19 dX4_nextToken_266 th0 ?_
          refine r_aload_n C 0 dX4_nextToken_269 rfl ?_
          refine r_geti C fl_X4_25 dX4_nextToken_270 th0 ?_
          refine r_iconst C (1 : Int32) dX4_nextToken_273 (by decide) ?_
          refine r_iadd C dX4_nextToken_274 ?_
          refine r_mmax C (mG 575 (by decide +kernel) rfl) mmax_w ⟨by decide, by decide⟩ (Nat.le_of_ble_eq_true rfl) dX4_nextToken_275 ?_
          refine r_puti C fl_X4_19 dX4_nextToken_278 th0 (fun S4 => ?_)
          exact r_return C X dX4_nextToken_281
        · refine r_aload_n C 0 dX4_nextToken_203 rfl ?_
          refine r_getr C fl_X4_9 dX4_nextToken_204 th0 (fun b5 tb5 => ?_)
          refine r_aload_n C 0 dX4_nextToken_207 rfl ?_
          refine r_geti C fl_X4_19 dX4_nextToken_208 th0 ?_
          refine r_bald C dX4_nextToken_211 tb5 ?_
          refine r_bipush C (57 : Int32) dX4_nextToken_212 (by decide) ?_
          refine r_icmp_gt C 264 dX4_nextToken_214 (by decide) ?_ ?_
          · refine r_aload_n C 0 dX4_nextToken_264 rfl ?_
            refine r_aload_n C 0 dX4_nextToken_265 rfl ?_
            refine r_geti C fl_X4_19 dX4_nextToken_266 th0 ?_
            refine r_aload_n C 0 dX4_nextToken_269 rfl ?_
            refine r_geti C fl_X4_25 dX4_nextToken_270 th0 ?_
            refine r_iconst C (1 : Int32) dX4_nextToken_273 (by decide) ?_
            refine r_iadd C dX4_nextToken_274 ?_
            refine r_mmax C (mG 575 (by decide +kernel) rfl) mmax_w ⟨by decide, by decide⟩ (Nat.le_of_ble_eq_true rfl) dX4_nextToken_275 ?_
            refine r_puti C fl_X4_19 dX4_nextToken_278 th0 (fun S6 => ?_)
            exact r_return C X dX4_nextToken_281
          · refine r_aload_n C 0 dX4_nextToken_217 rfl ?_
            refine r_iconst C (2 : Int32) dX4_nextToken_218 (by decide) ?_
            refine r_puti C fl_X4_22 dX4_nextToken_219 th0 (fun S7 => ?_)
            refine r_aload_n C 0 dX4_nextToken_222 rfl ?_
            refine r_aload_n C 0 dX4_nextToken_223 rfl ?_
            refine r_geti C fl_X4_28 dX4_nextToken_224 th0 ?_
            refine r_bipush C (10 : Int32) dX4_nextToken_227 (by decide) ?_
            refine r_imul C dX4_nextToken_229 ?_
            refine r_aload_n C 0 dX4_nextToken_230 rfl ?_
            refine r_getr C fl_X4_9 dX4_nextToken_231 th0 (fun b8 tb8 => ?_)
            refine r_aload_n C 0 dX4_nextToken_234 rfl ?_
            refine r_geti C fl_X4_19 dX4_nextToken_235 th0 ?_
            refine r_bald C dX4_nextToken_238 tb8 ?_
            refine r_iadd C dX4_nextToken_239 ?_
            refine r_bipush C (48 : Int32) dX4_nextToken_240 (by decide) ?_
            refine r_isub C dX4_nextToken_242 ?_
            refine r_ldc C (1000000 : Int32) (mG 574 (by decide +kernel) rfl) dX4_nextToken_243 ?_
            refine r_mmin C (mG 560 (by decide +kernel) rfl) mmin_w ⟨by decide, by decide⟩ (Nat.le_of_ble_eq_true rfl) dX4_nextToken_245 ?_
            refine r_puti C fl_X4_28 dX4_nextToken_248 th0 (fun S9 => ?_)
            refine r_aload_n C 0 dX4_nextToken_251 rfl ?_
            refine r_dup C dX4_nextToken_252 rfl ?_
            refine r_geti C fl_X4_19 dX4_nextToken_253 th0 ?_
            refine r_iconst C (1 : Int32) dX4_nextToken_256 (by decide) ?_
            refine r_iadd C dX4_nextToken_257 ?_
            refine r_puti C fl_X4_19 dX4_nextToken_258 th0 (fun S10 => ?_)
            refine r_goto C 170 dX4_nextToken_261 (by decide) ?_
            exact ih S10 h0 th0
set_option maxRecDepth 100000 in
set_option maxHeartbeats 4000000 in
theorem p_X4_nextToken_L113 {A : AM} {E : EN} {n : Nat} (C : Cx A E cX4_nextToken 1 RX4 1 21) (X : Ex A E none)  : ∀ (m : Nat) (S : WS) (h0 : Nat) (th0 : Ty E h0 3), Gd A E 1 (QM A E wV tT) (f_X4_nextToken_L113 E n  m S h0) S 113 [(0, .ref h0)] [] := by
  intro m
  induction m with
  | zero => intros; exact gn
  | succ m ih =>
    intro S h0 th0
    unfold f_X4_nextToken_L113
    refine r_aload_n C 0 dX4_nextToken_113 rfl ?_
    refine r_geti C fl_X4_19 dX4_nextToken_114 th0 ?_
    refine r_aload_n C 0 dX4_nextToken_117 rfl ?_
    refine r_geti C fl_X4_15 dX4_nextToken_118 th0 ?_
    refine r_icmp_ge C 170 dX4_nextToken_121 (by decide) ?_ ?_
    · exact p_X4_nextToken_L170 C X  n S h0 th0
    · refine r_aload_n C 0 dX4_nextToken_124 rfl ?_
      refine r_getr C fl_X4_9 dX4_nextToken_125 th0 (fun b1 tb1 => ?_)
      refine r_aload_n C 0 dX4_nextToken_128 rfl ?_
      refine r_geti C fl_X4_19 dX4_nextToken_129 th0 ?_
      refine r_bald C dX4_nextToken_132 tb1 ?_
      refine r_bipush C (97 : Int32) dX4_nextToken_133 (by decide) ?_
      refine r_icmp_lt C 170 dX4_nextToken_135 (by decide) ?_ ?_
      · exact p_X4_nextToken_L170 C X  n S h0 th0
      · refine r_aload_n C 0 dX4_nextToken_138 rfl ?_
        refine r_getr C fl_X4_9 dX4_nextToken_139 th0 (fun b2 tb2 => ?_)
        refine r_aload_n C 0 dX4_nextToken_142 rfl ?_
        refine r_geti C fl_X4_19 dX4_nextToken_143 th0 ?_
        refine r_bald C dX4_nextToken_146 tb2 ?_
        refine r_bipush C (122 : Int32) dX4_nextToken_147 (by decide) ?_
        refine r_icmp_gt C 170 dX4_nextToken_149 (by decide) ?_ ?_
        · exact p_X4_nextToken_L170 C X  n S h0 th0
        · refine r_aload_n C 0 dX4_nextToken_152 rfl ?_
          refine r_iconst C (1 : Int32) dX4_nextToken_153 (by decide) ?_
          refine r_puti C fl_X4_22 dX4_nextToken_154 th0 (fun S3 => ?_)
          refine r_aload_n C 0 dX4_nextToken_157 rfl ?_
          refine r_dup C dX4_nextToken_158 rfl ?_
          refine r_geti C fl_X4_19 dX4_nextToken_159 th0 ?_
          refine r_iconst C (1 : Int32) dX4_nextToken_162 (by decide) ?_
          refine r_iadd C dX4_nextToken_163 ?_
          refine r_puti C fl_X4_19 dX4_nextToken_164 th0 (fun S4 => ?_)
          refine r_goto C 113 dX4_nextToken_167 (by decide) ?_
          exact ih S4 h0 th0
set_option maxRecDepth 100000 in
set_option maxHeartbeats 4000000 in
theorem p_X4_nextToken_J60 {A : AM} {E : EN} {n : Nat} (C : Cx A E cX4_nextToken 1 RX4 1 21) (X : Ex A E none)  (S : WS) (h0 : Nat) (th0 : Ty E h0 3) : Gd A E 1 (QM A E wV tT) (f_X4_nextToken_J60 E n  S h0) S 60 [(0, .ref h0)] [] := by
  unfold f_X4_nextToken_J60
  refine r_aload_n C 0 dX4_nextToken_60 rfl ?_
  refine r_aload_n C 0 dX4_nextToken_61 rfl ?_
  refine r_geti C fl_X4_25 dX4_nextToken_62 th0 ?_
  refine r_puti C fl_X4_19 dX4_nextToken_65 th0 (fun S1 => ?_)
  refine r_aload_n C 0 dX4_nextToken_68 rfl ?_
  refine r_iconst C (0 : Int32) dX4_nextToken_69 (by decide) ?_
  refine r_puti C fl_X4_28 dX4_nextToken_70 th0 (fun S2 => ?_)
  refine r_aload_n C 0 dX4_nextToken_73 rfl ?_
  refine r_geti C fl_X4_25 dX4_nextToken_74 th0 ?_
  refine r_aload_n C 0 dX4_nextToken_77 rfl ?_
  refine r_geti C fl_X4_15 dX4_nextToken_78 th0 ?_
  refine r_icmp_lt C 90 dX4_nextToken_81 (by decide) ?_ ?_
  · refine r_aload_n C 0 dX4_nextToken_90 rfl ?_
    refine r_aload_n C 0 dX4_nextToken_91 rfl ?_
    refine r_getr C fl_X4_9 dX4_nextToken_92 th0 (fun b3 tb3 => ?_)
    refine r_aload_n C 0 dX4_nextToken_95 rfl ?_
    refine r_geti C fl_X4_25 dX4_nextToken_96 th0 ?_
    refine r_bald C dX4_nextToken_99 tb3 ?_
    refine r_bipush C (59 : Int32) dX4_nextToken_100 (by decide) ?_
    refine r_icmp_ne C 109 dX4_nextToken_102 (by decide) ?_ ?_
    · refine r_iconst C (4 : Int32) dX4_nextToken_109 (by decide) ?_
      refine r_puti C fl_X4_22 dX4_nextToken_110 th0 (fun S4 => ?_)
      exact p_X4_nextToken_L113 C X  n S4 h0 th0
    · refine r_iconst C (3 : Int32) dX4_nextToken_105 (by decide) ?_
      refine r_goto C 110 dX4_nextToken_106 (by decide) ?_
      refine r_puti C fl_X4_22 dX4_nextToken_110 th0 (fun S5 => ?_)
      exact p_X4_nextToken_L113 C X  n S5 h0 th0
  · refine r_aload_n C 0 dX4_nextToken_84 rfl ?_
    refine r_iconst C (0 : Int32) dX4_nextToken_85 (by decide) ?_
    refine r_puti C fl_X4_22 dX4_nextToken_86 th0 (fun S6 => ?_)
    exact r_return C X dX4_nextToken_89
set_option maxRecDepth 100000 in
set_option maxHeartbeats 4000000 in
theorem p_X4_nextToken_L8 {A : AM} {E : EN} {n : Nat} (C : Cx A E cX4_nextToken 1 RX4 1 21) (X : Ex A E none)  : ∀ (m : Nat) (S : WS) (h0 : Nat) (th0 : Ty E h0 3), Gd A E 1 (QM A E wV tT) (f_X4_nextToken_L8 E n  m S h0) S 8 [(0, .ref h0)] [] := by
  intro m
  induction m with
  | zero => intros; exact gn
  | succ m ih =>
    intro S h0 th0
    unfold f_X4_nextToken_L8
    refine r_aload_n C 0 dX4_nextToken_8 rfl ?_
    refine r_geti C fl_X4_25 dX4_nextToken_9 th0 ?_
    refine r_aload_n C 0 dX4_nextToken_12 rfl ?_
    refine r_geti C fl_X4_15 dX4_nextToken_13 th0 ?_
    refine r_icmp_ge C 60 dX4_nextToken_16 (by decide) ?_ ?_
    · exact p_X4_nextToken_J60 C X  S h0 th0
    · refine r_aload_n C 0 dX4_nextToken_19 rfl ?_
      refine r_getr C fl_X4_9 dX4_nextToken_20 th0 (fun b1 tb1 => ?_)
      refine r_aload_n C 0 dX4_nextToken_23 rfl ?_
      refine r_geti C fl_X4_25 dX4_nextToken_24 th0 ?_
      refine r_bald C dX4_nextToken_27 tb1 ?_
      refine r_bipush C (32 : Int32) dX4_nextToken_28 (by decide) ?_
      refine r_icmp_eq C 47 dX4_nextToken_30 (by decide) ?_ ?_
      · refine r_aload_n C 0 dX4_nextToken_47 rfl ?_
        refine r_dup C dX4_nextToken_48 rfl ?_
        refine r_geti C fl_X4_25 dX4_nextToken_49 th0 ?_
        refine r_iconst C (1 : Int32) dX4_nextToken_52 (by decide) ?_
        refine r_iadd C dX4_nextToken_53 ?_
        refine r_puti C fl_X4_25 dX4_nextToken_54 th0 (fun S2 => ?_)
        refine r_goto C 8 dX4_nextToken_57 (by decide) ?_
        exact ih S2 h0 th0
      · refine r_aload_n C 0 dX4_nextToken_33 rfl ?_
        refine r_getr C fl_X4_9 dX4_nextToken_34 th0 (fun b3 tb3 => ?_)
        refine r_aload_n C 0 dX4_nextToken_37 rfl ?_
        refine r_geti C fl_X4_25 dX4_nextToken_38 th0 ?_
        refine r_bald C dX4_nextToken_41 tb3 ?_
        refine r_bipush C (10 : Int32) dX4_nextToken_42 (by decide) ?_
        refine r_icmp_ne C 60 dX4_nextToken_44 (by decide) ?_ ?_
        · exact p_X4_nextToken_J60 C X  S h0 th0
        · refine r_aload_n C 0 dX4_nextToken_47 rfl ?_
          refine r_dup C dX4_nextToken_48 rfl ?_
          refine r_geti C fl_X4_25 dX4_nextToken_49 th0 ?_
          refine r_iconst C (1 : Int32) dX4_nextToken_52 (by decide) ?_
          refine r_iadd C dX4_nextToken_53 ?_
          refine r_puti C fl_X4_25 dX4_nextToken_54 th0 (fun S4 => ?_)
          refine r_goto C 8 dX4_nextToken_57 (by decide) ?_
          exact ih S4 h0 th0
set_option maxRecDepth 100000 in
set_option maxHeartbeats 4000000 in
theorem c_X4_nextToken (l : Launch) (E : EN) (n : Nat) (h0 : Nat) (th0 : Ty E h0 3) : CT l E yX4_nextToken cX4_nextToken 1 none 1 21 wV tT [.ref h0] (fun S => f_X4_nextToken E n S h0) := by
  refine ct_of RX4 (by decide +kernel) rfl [(0, .ref h0)] rfl (Nat.le_of_ble_eq_true rfl) (fun A S hA C X => ?_)
  subst hA
  show Gd A E 1 (QM A E wV tT) (f_X4_nextToken E n S h0) S 0 [(0, .ref h0)] []
  unfold f_X4_nextToken
  refine r_aload_n C 0 dX4_nextToken_0 rfl ?_
  refine r_aload_n C 0 dX4_nextToken_1 rfl ?_
  refine r_geti C fl_X4_19 dX4_nextToken_2 th0 ?_
  refine r_puti C fl_X4_25 dX4_nextToken_5 th0 (fun S1 => ?_)
  exact p_X4_nextToken_L8 C X  n S1 h0 th0
set_option maxRecDepth 100000 in
set_option maxHeartbeats 4000000 in
theorem p_X4_isWord_L28 {A : AM} {E : EN} {n : Nat} (C : Cx A E cX4_isWord 3 RX4 4 85) (X : Ex A E (some .boolean))  : ∀ (m : Nat) (S : WS) (h0 : Nat) (w1 : Nat) (x2 : Int32) (th0 : Ty E h0 3) (tw1 : w1 < sNum), Gd A E 3 (QM A E wI tT) (f_X4_isWord_L28 E n  m S h0 w1 x2) S 28 [(0, .ref h0), (1, .ref (eSK E w1)), (2, .int x2)] [] := by
  intro m
  induction m with
  | zero => intros; exact gn
  | succ m ih =>
    intro S h0 w1 x2 th0 tw1
    unfold f_X4_isWord_L28
    refine r_iload_n C 2 dX4_isWord_28 rfl ?_
    refine r_aload_n C 1 dX4_isWord_29 rfl ?_
    refine r_callT (As := []) (rest := [.int x2]) C X (c_length _ E w1 tw1) dX4_isWord_30 (mG 587 (by decide +kernel) rfl) mv_J0_length_8abf5 rfl tw1 rfl rfl ⟨by decide, by decide⟩ (Nat.le_of_ble_eq_true rfl) (fun v2 S1 hv2 => ?_)
    refine r_icmp_ge C 63 dX4_isWord_33 (by decide) ?_ ?_
    · refine r_iconst C (1 : Int32) dX4_isWord_63 (by decide) ?_
      exact r_zreturn C X rfl dX4_isWord_64
    · refine r_aload_n C 0 dX4_isWord_36 rfl ?_
      refine r_getr C fl_X4_9 dX4_isWord_37 th0 (fun b3 tb3 => ?_)
      refine r_aload_n C 0 dX4_isWord_40 rfl ?_
      refine r_geti C fl_X4_25 dX4_isWord_41 th0 ?_
      refine r_iload_n C 2 dX4_isWord_44 rfl ?_
      refine r_iadd C dX4_isWord_45 ?_
      refine r_bald C dX4_isWord_46 tb3 ?_
      refine r_aload_n C 1 dX4_isWord_47 rfl ?_
      refine r_iload_n C 2 dX4_isWord_48 rfl ?_
      refine r_callT (As := [.int x2]) (rest := [.int (ai S1 b3 ((gi S1 196 h0) + x2).toNatClampNeg)]) C X (c_charAt _ E w1 tw1 x2) dX4_isWord_49 (mG 597 (by decide +kernel) rfl) mv_J0_charAt_5068e rfl tw1 rfl rfl ⟨by decide, by decide⟩ (Nat.le_of_ble_eq_true rfl) (fun v5 S4 hv5 => ?_)
      refine r_icmp_eq C 57 dX4_isWord_52 (by decide) ?_ ?_
      · refine r_iinc C 2 (fun y6 => [(2, .int y6), (0, .ref h0), (1, .ref (eSK E w1))]) dX4_isWord_57 rfl (v := (1 : Int32)) (by decide) (by decide) (fun _ => rfl) (fun y6 => ?_)
        refine r_goto C 28 dX4_isWord_60 (by decide) ?_
        refine r_sub [1, 2, 0] [(0, .ref h0), (1, .ref (eSK E w1)), (2, .int y6)] rfl ?_
        exact ih S4 h0 w1 y6 th0 tw1
      · refine r_iconst C (0 : Int32) dX4_isWord_55 (by decide) ?_
        exact r_zreturn C X rfl dX4_isWord_56
set_option maxRecDepth 100000 in
set_option maxHeartbeats 4000000 in
theorem c_X4_isWord (l : Launch) (E : EN) (n : Nat) (h0 : Nat) (w1 : Nat) (th0 : Ty E h0 3) (tw1 : w1 < sNum) : CT l E yX4_isWord cX4_isWord 3 (some .boolean) 4 85 wI tT [.ref h0, .ref (eSK E w1)] (fun S => f_X4_isWord E n S h0 w1) := by
  refine ct_of RX4 (by decide +kernel) rfl [(0, .ref h0), (1, .ref (eSK E w1))] rfl (Nat.le_of_ble_eq_true rfl) (fun A S hA C X => ?_)
  subst hA
  show Gd A E 3 (QM A E wI tT) (f_X4_isWord E n S h0 w1) S 0 [(0, .ref h0), (1, .ref (eSK E w1))] []
  unfold f_X4_isWord
  refine r_aload_n C 0 dX4_isWord_0 rfl ?_
  refine r_geti C fl_X4_22 dX4_isWord_1 th0 ?_
  refine r_iconst C (1 : Int32) dX4_isWord_4 (by decide) ?_
  refine r_icmp_ne C 24 dX4_isWord_5 (by decide) ?_ ?_
  · refine r_iconst C (0 : Int32) dX4_isWord_24 (by decide) ?_
    exact r_zreturn C X rfl dX4_isWord_25
  · refine r_aload_n C 0 dX4_isWord_8 rfl ?_
    refine r_geti C fl_X4_19 dX4_isWord_9 th0 ?_
    refine r_aload_n C 0 dX4_isWord_12 rfl ?_
    refine r_geti C fl_X4_25 dX4_isWord_13 th0 ?_
    refine r_isub C dX4_isWord_16 ?_
    refine r_aload_n C 1 dX4_isWord_17 rfl ?_
    refine r_callT (As := []) (rest := [.int ((gi S 194 h0) - (gi S 196 h0))]) C X (c_length _ E w1 tw1) dX4_isWord_18 (mG 587 (by decide +kernel) rfl) mv_J0_length_8abf5 rfl tw1 rfl rfl ⟨by decide, by decide⟩ (Nat.le_of_ble_eq_true rfl) (fun v2 S1 hv2 => ?_)
    refine r_icmp_eq C 26 dX4_isWord_21 (by decide) ?_ ?_
    · refine r_iconst C (0 : Int32) dX4_isWord_26 (by decide) ?_
      refine r_istore_n C [(2, .int (0 : Int32)), (0, .ref h0), (1, .ref (eSK E w1))] dX4_isWord_27 (by decide) rfl ?_
      refine r_sub [1, 2, 0] [(0, .ref h0), (1, .ref (eSK E w1)), (2, .int (0 : Int32))] rfl ?_
      exact p_X4_isWord_L28 C X  n S1 h0 w1 (0 : Int32) th0 tw1
    · refine r_iconst C (0 : Int32) dX4_isWord_24 (by decide) ?_
      exact r_zreturn C X rfl dX4_isWord_25
set_option maxRecDepth 100000 in
set_option maxHeartbeats 4000000 in
theorem c_X4_failHere (l : Launch) (E : EN) (n : Nat) (h0 : Nat) (x1 : Int32) (th0 : Ty E h0 3) : CT l E yX4_failHere cX4_failHere 2 (some .boolean) 0 0 wI tT [.ref h0, .int x1] (fun S => f_X4_failHere E n S h0 x1) := by
  refine ct_of RX4 (by decide +kernel) rfl [(0, .ref h0), (1, .int x1)] rfl (Nat.le_of_ble_eq_true rfl) (fun A S hA C X => ?_)
  subst hA
  show Gd A E 2 (QM A E wI tT) (f_X4_failHere E n S h0 x1) S 0 [(0, .ref h0), (1, .int x1)] []
  unfold f_X4_failHere
  refine r_aload_n C 0 dX4_failHere_0 rfl ?_
  refine r_iload_n C 1 dX4_failHere_1 rfl ?_
  refine r_puti C fl_X4_31 dX4_failHere_2 th0 (fun S1 => ?_)
  refine r_aload_n C 0 dX4_failHere_5 rfl ?_
  refine r_aload_n C 0 dX4_failHere_6 rfl ?_
  refine r_geti C fl_X4_25 dX4_failHere_7 th0 ?_
  refine r_puti C fl_X4_34 dX4_failHere_10 th0 (fun S2 => ?_)
  refine r_iconst C (0 : Int32) dX4_failHere_13 (by decide) ?_
  exact r_zreturn C X rfl dX4_failHere_14
set_option maxRecDepth 100000 in
set_option maxHeartbeats 4000000 in
theorem c_X4_takeSemicolon (l : Launch) (E : EN) (n : Nat) (h0 : Nat) (th0 : Ty E h0 3) : CT l E yX4_takeSemicolon cX4_takeSemicolon 1 (some .boolean) 2 41 wI tT [.ref h0] (fun S => f_X4_takeSemicolon E n S h0) := by
  refine ct_of RX4 (by decide +kernel) rfl [(0, .ref h0)] rfl (Nat.le_of_ble_eq_true rfl) (fun A S hA C X => ?_)
  subst hA
  show Gd A E 1 (QM A E wI tT) (f_X4_takeSemicolon E n S h0) S 0 [(0, .ref h0)] []
  unfold f_X4_takeSemicolon
  refine r_aload_n C 0 dX4_takeSemicolon_0 rfl ?_
  refine r_geti C fl_X4_22 dX4_takeSemicolon_1 th0 ?_
  refine r_iconst C (3 : Int32) dX4_takeSemicolon_4 (by decide) ?_
  refine r_icmp_eq C 14 dX4_takeSemicolon_5 (by decide) ?_ ?_
  · refine r_aload_n C 0 dX4_takeSemicolon_14 rfl ?_
    refine r_callV (As := []) (rest := []) C (c_X4_nextToken _ E n h0 th0) dX4_takeSemicolon_15 ml_X4_48 mv_X4_nextToken ⟨TX4, _, rfl⟩ (by decide) th0 rfl rfl ⟨by decide, by decide⟩ (Nat.le_of_ble_eq_true rfl) (fun v2 S1 hv2 => ?_)
    refine r_iconst C (1 : Int32) dX4_takeSemicolon_18 (by decide) ?_
    exact r_zreturn C X rfl dX4_takeSemicolon_19
  · refine r_aload_n C 0 dX4_takeSemicolon_8 rfl ?_
    refine r_iconst C (1 : Int32) dX4_takeSemicolon_9 (by decide) ?_
    refine r_callV (As := [.int (1 : Int32)]) (rest := []) C (c_X4_failHere _ E n h0 (1 : Int32) th0) dX4_takeSemicolon_10 ml_X4_75 mv_X4_failHere ⟨TX4, _, rfl⟩ (by decide) th0 rfl rfl ⟨by decide, by decide⟩ (Nat.le_of_ble_eq_true rfl) (fun v4 S3 hv4 => ?_)
    exact r_zreturnc C X dX4_takeSemicolon_13
set_option maxRecDepth 100000 in
set_option maxHeartbeats 4000000 in
theorem c_X4_takeWord (l : Launch) (E : EN) (n : Nat) (h0 : Nat) (w1 : Nat) (th0 : Ty E h0 3) (tw1 : w1 < sNum) : CT l E yX4_takeWord cX4_takeWord 2 (some .boolean) 5 107 wI tT [.ref h0, .ref (eSK E w1)] (fun S => f_X4_takeWord E n S h0 w1) := by
  refine ct_of RX4 (by decide +kernel) rfl [(0, .ref h0), (1, .ref (eSK E w1))] rfl (Nat.le_of_ble_eq_true rfl) (fun A S hA C X => ?_)
  subst hA
  show Gd A E 2 (QM A E wI tT) (f_X4_takeWord E n S h0 w1) S 0 [(0, .ref h0), (1, .ref (eSK E w1))] []
  unfold f_X4_takeWord
  refine r_aload_n C 0 dX4_takeWord_0 rfl ?_
  refine r_aload_n C 1 dX4_takeWord_1 rfl ?_
  refine r_callV (As := [.ref (eSK E w1)]) (rest := []) C (c_X4_isWord _ E n h0 w1 th0 tw1) dX4_takeWord_2 ml_X4_79 mv_X4_isWord ⟨TX4, _, rfl⟩ (by decide) th0 rfl rfl ⟨by decide, by decide⟩ (Nat.le_of_ble_eq_true rfl) (fun v2 S1 hv2 => ?_)
  refine r_if_ne C 14 dX4_takeWord_5 (by decide) ?_ ?_
  · refine r_aload_n C 0 dX4_takeWord_14 rfl ?_
    refine r_callV (As := []) (rest := []) C (c_X4_nextToken _ E n h0 th0) dX4_takeWord_15 ml_X4_48 mv_X4_nextToken ⟨TX4, _, rfl⟩ (by decide) th0 rfl rfl ⟨by decide, by decide⟩ (Nat.le_of_ble_eq_true rfl) (fun v4 S3 hv4 => ?_)
    refine r_iconst C (1 : Int32) dX4_takeWord_18 (by decide) ?_
    exact r_zreturn C X rfl dX4_takeWord_19
  · refine r_aload_n C 0 dX4_takeWord_8 rfl ?_
    refine r_iconst C (1 : Int32) dX4_takeWord_9 (by decide) ?_
    refine r_callV (As := [.int (1 : Int32)]) (rest := []) C (c_X4_failHere _ E n h0 (1 : Int32) th0) dX4_takeWord_10 ml_X4_75 mv_X4_failHere ⟨TX4, _, rfl⟩ (by decide) th0 rfl rfl ⟨by decide, by decide⟩ (Nat.le_of_ble_eq_true rfl) (fun v6 S5 hv6 => ?_)
    exact r_zreturnc C X dX4_takeWord_13
set_option maxRecDepth 100000 in
set_option maxHeartbeats 4000000 in
theorem c_X4_takeNumber (l : Launch) (E : EN) (n : Nat) (h0 : Nat) (x1 : Int32) (x2 : Int32) (th0 : Ty E h0 3) : CT l E yX4_takeNumber cX4_takeNumber 4 (some .int) 2 41 wI tT [.ref h0, .int x1, .int x2] (fun S => f_X4_takeNumber E n S h0 x1 x2) := by
  refine ct_of RX4 (by decide +kernel) rfl [(0, .ref h0), (1, .int x1), (2, .int x2)] rfl (Nat.le_of_ble_eq_true rfl) (fun A S hA C X => ?_)
  subst hA
  show Gd A E 4 (QM A E wI tT) (f_X4_takeNumber E n S h0 x1 x2) S 0 [(0, .ref h0), (1, .int x1), (2, .int x2)] []
  unfold f_X4_takeNumber
  refine r_aload_n C 0 dX4_takeNumber_0 rfl ?_
  refine r_geti C fl_X4_22 dX4_takeNumber_1 th0 ?_
  refine r_iconst C (2 : Int32) dX4_takeNumber_4 (by decide) ?_
  refine r_icmp_eq C 16 dX4_takeNumber_5 (by decide) ?_ ?_
  · refine r_aload_n C 0 dX4_takeNumber_16 rfl ?_
    refine r_geti C fl_X4_28 dX4_takeNumber_17 th0 ?_
    refine r_iload_n C 1 dX4_takeNumber_20 rfl ?_
    refine r_icmp_lt C 32 dX4_takeNumber_21 (by decide) ?_ ?_
    · refine r_aload_n C 0 dX4_takeNumber_32 rfl ?_
      refine r_iconst C (2 : Int32) dX4_takeNumber_33 (by decide) ?_
      refine r_callV (As := [.int (2 : Int32)]) (rest := []) C (c_X4_failHere _ E n h0 (2 : Int32) th0) dX4_takeNumber_34 ml_X4_75 mv_X4_failHere ⟨TX4, _, rfl⟩ (by decide) th0 rfl rfl ⟨by decide, by decide⟩ (Nat.le_of_ble_eq_true rfl) (fun v2 S1 hv2 => ?_)
      refine r_pop C dX4_takeNumber_37 rfl ?_
      refine r_iconst C (-1 : Int32) dX4_takeNumber_38 (by decide) ?_
      exact r_ireturn C X dX4_takeNumber_39
    · refine r_aload_n C 0 dX4_takeNumber_24 rfl ?_
      refine r_geti C fl_X4_28 dX4_takeNumber_25 th0 ?_
      refine r_iload_n C 2 dX4_takeNumber_28 rfl ?_
      refine r_icmp_le C 40 dX4_takeNumber_29 (by decide) ?_ ?_
      · refine r_aload_n C 0 dX4_takeNumber_40 rfl ?_
        refine r_geti C fl_X4_28 dX4_takeNumber_41 th0 ?_
        refine r_topi (fun y3 => ?_)
        refine r_istore_n C [(3, .int y3), (0, .ref h0), (1, .int x1), (2, .int x2)] dX4_takeNumber_44 (by decide) rfl ?_
        refine r_aload_n C 1 dX4_takeNumber_45 rfl ?_
        refine r_callV (As := []) (rest := []) C (c_X4_nextToken _ E n h0 th0) dX4_takeNumber_46 ml_X4_48 mv_X4_nextToken ⟨TX4, _, rfl⟩ (by decide) th0 rfl rfl ⟨by decide, by decide⟩ (Nat.le_of_ble_eq_true rfl) (fun v5 S4 hv5 => ?_)
        refine r_iload_n C 0 dX4_takeNumber_49 rfl ?_
        exact r_ireturn C X dX4_takeNumber_50
      · refine r_aload_n C 0 dX4_takeNumber_32 rfl ?_
        refine r_iconst C (2 : Int32) dX4_takeNumber_33 (by decide) ?_
        refine r_callV (As := [.int (2 : Int32)]) (rest := []) C (c_X4_failHere _ E n h0 (2 : Int32) th0) dX4_takeNumber_34 ml_X4_75 mv_X4_failHere ⟨TX4, _, rfl⟩ (by decide) th0 rfl rfl ⟨by decide, by decide⟩ (Nat.le_of_ble_eq_true rfl) (fun v7 S6 hv7 => ?_)
        refine r_pop C dX4_takeNumber_37 rfl ?_
        refine r_iconst C (-1 : Int32) dX4_takeNumber_38 (by decide) ?_
        exact r_ireturn C X dX4_takeNumber_39
  · refine r_aload_n C 0 dX4_takeNumber_8 rfl ?_
    refine r_iconst C (1 : Int32) dX4_takeNumber_9 (by decide) ?_
    refine r_callV (As := [.int (1 : Int32)]) (rest := []) C (c_X4_failHere _ E n h0 (1 : Int32) th0) dX4_takeNumber_10 ml_X4_75 mv_X4_failHere ⟨TX4, _, rfl⟩ (by decide) th0 rfl rfl ⟨by decide, by decide⟩ (Nat.le_of_ble_eq_true rfl) (fun v9 S8 hv9 => ?_)
    refine r_pop C dX4_takeNumber_13 rfl ?_
    refine r_iconst C (-1 : Int32) dX4_takeNumber_14 (by decide) ?_
    exact r_ireturn C X dX4_takeNumber_15
set_option maxRecDepth 100000 in
set_option maxHeartbeats 4000000 in
theorem p_X4_readMountain_J24 {A : AM} {E : EN} {n : Nat} (C : Cx A E cX4_readMountain 4 RX4 6 128) (X : Ex A E (some .boolean))  (S : WS) (h0 : Nat) (h1 : Nat) (s0 : Int32) (th0 : Ty E h0 3) (th1 : Ty E h1 2) : Gd A E 4 (QM A E wI tT) (f_X4_readMountain_J24 E n  S h0 h1 s0) S 24 [(0, .ref h0), (1, .ref h1)] [.int s0] := by
  unfold f_X4_readMountain_J24
  refine r_istore_n C [(2, .int s0), (0, .ref h0), (1, .ref h1)] dX4_readMountain_24 (by decide) rfl ?_
  refine r_iload_n C 0 dX4_readMountain_25 rfl ?_
  refine r_iconst C (-1 : Int32) dX4_readMountain_26 (by decide) ?_
  refine r_icmp_ne C 32 dX4_readMountain_27 (by decide) ?_ ?_
  · refine r_aload_n C 1 dX4_readMountain_32 rfl ?_
    refine r_ldcS C (tx := "years") 2 (List.mem_of_getElem? (i := 2) rfl) dX4_readMountain_33 ?_
    refine r_callV (As := [.ref (eSK E 2)]) (rest := []) C (c_X4_takeWord _ E n h0 2 th0 (by decide)) dX4_readMountain_35 ml_X4_137 mv_X4_takeWord ⟨TX4, _, rfl⟩ (by decide) th0 rfl rfl ⟨by decide, by decide⟩ (Nat.le_of_ble_eq_true rfl) (fun v2 S1 hv2 => ?_)
    refine r_if_eq C 51 dX4_readMountain_38 (by decide) ?_ ?_
    · refine r_iconst C (-1 : Int32) dX4_readMountain_51 (by decide) ?_
      refine r_istore_n C [(3, .int (-1 : Int32)), (2, .int s0), (0, .ref h0), (1, .ref h1)] dX4_readMountain_52 (by decide) rfl ?_
      refine r_iload_n C 0 dX4_readMountain_53 rfl ?_
      refine r_iconst C (-1 : Int32) dX4_readMountain_54 (by decide) ?_
      refine r_icmp_neF C 60 dX4_readMountain_55 (by decide) (by decide) ?_
      refine r_iconst C (0 : Int32) dX4_readMountain_58 (by decide) ?_
      exact r_zreturn C X rfl dX4_readMountain_59
    · refine r_aload_n C 1 dX4_readMountain_41 rfl ?_
      refine r_iconst C (1 : Int32) dX4_readMountain_42 (by decide) ?_
      refine r_bipush C (30 : Int32) dX4_readMountain_43 (by decide) ?_
      refine r_callV (As := [.int (1 : Int32), .int (30 : Int32)]) (rest := []) C (c_X4_takeNumber _ E n h0 (1 : Int32) (30 : Int32) th0) dX4_readMountain_45 ml_X4_140 mv_X4_takeNumber ⟨TX4, _, rfl⟩ (by decide) th0 rfl rfl ⟨by decide, by decide⟩ (Nat.le_of_ble_eq_true rfl) (fun v4 S3 hv4 => ?_)
      refine r_goto C 52 dX4_readMountain_48 (by decide) ?_
      refine r_istore_n C [(3, .int v4), (2, .int s0), (0, .ref h0), (1, .ref h1)] dX4_readMountain_52 (by decide) rfl ?_
      refine r_iload_n C 0 dX4_readMountain_53 rfl ?_
      refine r_iconst C (-1 : Int32) dX4_readMountain_54 (by decide) ?_
      refine r_icmp_ne C 60 dX4_readMountain_55 (by decide) ?_ ?_
      · refine r_aload_n C 3 dX4_readMountain_60 rfl ?_
        refine r_iload_n C 1 dX4_readMountain_61 rfl ?_
        refine r_puti C fl_X4_145 dX4_readMountain_62 th1 (fun S5 => ?_)
        refine r_aload_n C 3 dX4_readMountain_65 rfl ?_
        refine r_iload_n C 0 dX4_readMountain_66 rfl ?_
        refine r_puti C fl_X4_147 dX4_readMountain_67 th1 (fun S6 => ?_)
        refine r_iconst C (1 : Int32) dX4_readMountain_70 (by decide) ?_
        exact r_zreturn C X rfl dX4_readMountain_71
      · refine r_iconst C (0 : Int32) dX4_readMountain_58 (by decide) ?_
        exact r_zreturn C X rfl dX4_readMountain_59
  · refine r_iconst C (0 : Int32) dX4_readMountain_30 (by decide) ?_
    exact r_zreturn C X rfl dX4_readMountain_31
set_option maxRecDepth 100000 in
set_option maxHeartbeats 4000000 in
theorem c_X4_readMountain (l : Launch) (E : EN) (n : Nat) (h0 : Nat) (h1 : Nat) (th0 : Ty E h0 3) (th1 : Ty E h1 2) : CT l E yX4_readMountain cX4_readMountain 4 (some .boolean) 6 128 wI tT [.ref h0, .ref h1] (fun S => f_X4_readMountain E n S h0 h1) := by
  refine ct_of RX4 (by decide +kernel) rfl [(0, .ref h0), (1, .ref h1)] rfl (Nat.le_of_ble_eq_true rfl) (fun A S hA C X => ?_)
  subst hA
  show Gd A E 4 (QM A E wI tT) (f_X4_readMountain E n S h0 h1) S 0 [(0, .ref h0), (1, .ref h1)] []
  unfold f_X4_readMountain
  refine r_aload_n C 0 dX4_readMountain_0 rfl ?_
  refine r_callV (As := []) (rest := []) C (c_X4_nextToken _ E n h0 th0) dX4_readMountain_1 ml_X4_48 mv_X4_nextToken ⟨TX4, _, rfl⟩ (by decide) th0 rfl rfl ⟨by decide, by decide⟩ (Nat.le_of_ble_eq_true rfl) (fun v2 S1 hv2 => ?_)
  refine r_aload_n C 0 dX4_readMountain_4 rfl ?_
  refine r_ldcS C (tx := "places") 1 (List.mem_of_getElem? (i := 1) rfl) dX4_readMountain_5 ?_
  refine r_callV (As := [.ref (eSK E 1)]) (rest := []) C (c_X4_takeWord _ E n h0 1 th0 (by decide)) dX4_readMountain_7 ml_X4_137 mv_X4_takeWord ⟨TX4, _, rfl⟩ (by decide) th0 rfl rfl ⟨by decide, by decide⟩ (Nat.le_of_ble_eq_true rfl) (fun v4 S3 hv4 => ?_)
  refine r_if_eq C 23 dX4_readMountain_10 (by decide) ?_ ?_
  · refine r_iconst C (-1 : Int32) dX4_readMountain_23 (by decide) ?_
    exact p_X4_readMountain_J24 C X  S3 h0 h1 (-1 : Int32) th0 th1
  · refine r_aload_n C 0 dX4_readMountain_13 rfl ?_
    refine r_iconst C (2 : Int32) dX4_readMountain_14 (by decide) ?_
    refine r_bipush C (8 : Int32) dX4_readMountain_15 (by decide) ?_
    refine r_callV (As := [.int (2 : Int32), .int (8 : Int32)]) (rest := []) C (c_X4_takeNumber _ E n h0 (2 : Int32) (8 : Int32) th0) dX4_readMountain_17 ml_X4_140 mv_X4_takeNumber ⟨TX4, _, rfl⟩ (by decide) th0 rfl rfl ⟨by decide, by decide⟩ (Nat.le_of_ble_eq_true rfl) (fun v6 S5 hv6 => ?_)
    refine r_goto C 24 dX4_readMountain_20 (by decide) ?_
    exact p_X4_readMountain_J24 C X  S5 h0 h1 v6 th0 th1
set_option maxRecDepth 100000 in
set_option maxHeartbeats 4000000 in
theorem c_X4_readHeight (l : Launch) (E : EN) (n : Nat) (h0 : Nat) (h1 : Nat) (th0 : Ty E h0 3) (th1 : Ty E h1 2) : CT l E yX4_readHeight cX4_readHeight 4 (some .boolean) 3 64 wI tT [.ref h0, .ref h1] (fun S => f_X4_readHeight E n S h0 h1) := by
  refine ct_of RX4 (by decide +kernel) rfl [(0, .ref h0), (1, .ref h1)] rfl (Nat.le_of_ble_eq_true rfl) (fun A S hA C X => ?_)
  subst hA
  show Gd A E 4 (QM A E wI tT) (f_X4_readHeight E n S h0 h1) S 0 [(0, .ref h0), (1, .ref h1)] []
  unfold f_X4_readHeight
  refine r_aload_n C 0 dX4_readHeight_0 rfl ?_
  refine r_callV (As := []) (rest := []) C (c_X4_nextToken _ E n h0 th0) dX4_readHeight_1 ml_X4_48 mv_X4_nextToken ⟨TX4, _, rfl⟩ (by decide) th0 rfl rfl ⟨by decide, by decide⟩ (Nat.le_of_ble_eq_true rfl) (fun v2 S1 hv2 => ?_)
  refine r_aload_n C 0 dX4_readHeight_4 rfl ?_
  refine r_iconst C (0 : Int32) dX4_readHeight_5 (by decide) ?_
  refine r_aload_n C 1 dX4_readHeight_6 rfl ?_
  refine r_geti C fl_X4_145 dX4_readHeight_7 th1 ?_
  refine r_iconst C (1 : Int32) dX4_readHeight_10 (by decide) ?_
  refine r_isub C dX4_readHeight_11 ?_
  refine r_callV (As := [.int (0 : Int32), .int ((gi S1 129 h1) - (1 : Int32))]) (rest := []) C (c_X4_takeNumber _ E n h0 (0 : Int32) ((gi S1 129 h1) - (1 : Int32)) th0) dX4_readHeight_12 ml_X4_140 mv_X4_takeNumber ⟨TX4, _, rfl⟩ (by decide) th0 rfl rfl ⟨by decide, by decide⟩ (Nat.le_of_ble_eq_true rfl) (fun v4 S3 hv4 => ?_)
  refine r_istore_n C [(2, .int v4), (0, .ref h0), (1, .ref h1)] dX4_readHeight_15 (by decide) rfl ?_
  refine r_iload_n C 0 dX4_readHeight_16 rfl ?_
  refine r_iconst C (-1 : Int32) dX4_readHeight_17 (by decide) ?_
  refine r_icmp_ne C 23 dX4_readHeight_18 (by decide) ?_ ?_
  · refine r_aload_n C 1 dX4_readHeight_23 rfl ?_
    refine r_iconst C (0 : Int32) dX4_readHeight_24 (by decide) ?_
    refine r_bipush C (99 : Int32) dX4_readHeight_25 (by decide) ?_
    refine r_callV (As := [.int (0 : Int32), .int (99 : Int32)]) (rest := []) C (c_X4_takeNumber _ E n h0 (0 : Int32) (99 : Int32) th0) dX4_readHeight_27 ml_X4_140 mv_X4_takeNumber ⟨TX4, _, rfl⟩ (by decide) th0 rfl rfl ⟨by decide, by decide⟩ (Nat.le_of_ble_eq_true rfl) (fun v6 S5 hv6 => ?_)
    refine r_istore_n C [(3, .int v6), (2, .int v4), (0, .ref h0), (1, .ref h1)] dX4_readHeight_30 (by decide) rfl ?_
    refine r_iload_n C 0 dX4_readHeight_31 rfl ?_
    refine r_iconst C (-1 : Int32) dX4_readHeight_32 (by decide) ?_
    refine r_icmp_ne C 38 dX4_readHeight_33 (by decide) ?_ ?_
    · refine r_aload_n C 3 dX4_readHeight_38 rfl ?_
      refine r_getr C fl_X4_149 dX4_readHeight_39 th1 (fun b7 tb7 => ?_)
      refine r_iload_n C 1 dX4_readHeight_42 rfl ?_
      refine r_iload_n C 0 dX4_readHeight_43 rfl ?_
      refine r_iast C dX4_readHeight_44 tb7 (fun S8 => ?_)
      refine r_iconst C (1 : Int32) dX4_readHeight_45 (by decide) ?_
      exact r_zreturn C X rfl dX4_readHeight_46
    · refine r_iconst C (0 : Int32) dX4_readHeight_36 (by decide) ?_
      exact r_zreturn C X rfl dX4_readHeight_37
  · refine r_iconst C (0 : Int32) dX4_readHeight_21 (by decide) ?_
    exact r_zreturn C X rfl dX4_readHeight_22
set_option maxRecDepth 100000 in
set_option maxHeartbeats 4000000 in
theorem p_X4_readPath_J67 {A : AM} {E : EN} {n : Nat} (C : Cx A E cX4_readPath 4 RX4 6 128) (X : Ex A E (some .boolean))  (S : WS) (h0 : Nat) (h1 : Nat) (x2 : Int32) (th0 : Ty E h0 3) (th1 : Ty E h1 2) : Gd A E 4 (QM A E wI tT) (f_X4_readPath_J67 E n  S h0 h1 x2) S 67 [(0, .ref h0), (1, .ref h1), (2, .int x2)] [] := by
  unfold f_X4_readPath_J67
  refine r_aload_n C 0 dX4_readPath_67 rfl ?_
  refine r_iconst C (0 : Int32) dX4_readPath_68 (by decide) ?_
  refine r_aload_n C 1 dX4_readPath_69 rfl ?_
  refine r_geti C fl_X4_145 dX4_readPath_70 th1 ?_
  refine r_iconst C (1 : Int32) dX4_readPath_73 (by decide) ?_
  refine r_isub C dX4_readPath_74 ?_
  refine r_callV (As := [.int (0 : Int32), .int ((gi S 129 h1) - (1 : Int32))]) (rest := []) C (c_X4_takeNumber _ E n h0 (0 : Int32) ((gi S 129 h1) - (1 : Int32)) th0) dX4_readPath_75 ml_X4_140 mv_X4_takeNumber ⟨TX4, _, rfl⟩ (by decide) th0 rfl rfl ⟨by decide, by decide⟩ (Nat.le_of_ble_eq_true rfl) (fun v2 S1 hv2 => ?_)
  refine r_istore_n C [(3, .int v2), (0, .ref h0), (1, .ref h1), (2, .int x2)] dX4_readPath_78 (by decide) rfl ?_
  refine r_iload_n C 0 dX4_readPath_79 rfl ?_
  refine r_iconst C (-1 : Int32) dX4_readPath_80 (by decide) ?_
  refine r_icmp_ne C 86 dX4_readPath_81 (by decide) ?_ ?_
  · refine r_aload_n C 2 dX4_readPath_86 rfl ?_
    refine r_getr C fl_X4_158 dX4_readPath_87 th1 (fun b3 tb3 => ?_)
    refine r_aload_n C 2 dX4_readPath_90 rfl ?_
    refine r_geti C fl_X4_95 dX4_readPath_91 th1 ?_
    refine r_iload_n C 3 dX4_readPath_94 rfl ?_
    refine r_iast C dX4_readPath_95 tb3 (fun S4 => ?_)
    refine r_aload_n C 2 dX4_readPath_96 rfl ?_
    refine r_getr C fl_X4_161 dX4_readPath_97 th1 (fun b5 tb5 => ?_)
    refine r_aload_n C 2 dX4_readPath_100 rfl ?_
    refine r_geti C fl_X4_95 dX4_readPath_101 th1 ?_
    refine r_iload_n C 0 dX4_readPath_104 rfl ?_
    refine r_iast C dX4_readPath_105 tb5 (fun S6 => ?_)
    refine r_aload_n C 2 dX4_readPath_106 rfl ?_
    refine r_dup C dX4_readPath_107 rfl ?_
    refine r_geti C fl_X4_95 dX4_readPath_108 th1 ?_
    refine r_iconst C (1 : Int32) dX4_readPath_111 (by decide) ?_
    refine r_iadd C dX4_readPath_112 ?_
    refine r_puti C fl_X4_95 dX4_readPath_113 th1 (fun S7 => ?_)
    refine r_iconst C (1 : Int32) dX4_readPath_116 (by decide) ?_
    exact r_zreturn C X rfl dX4_readPath_117
  · refine r_iconst C (0 : Int32) dX4_readPath_84 (by decide) ?_
    exact r_zreturn C X rfl dX4_readPath_85
set_option maxRecDepth 100000 in
set_option maxHeartbeats 4000000 in
theorem c_X4_readPath (l : Launch) (E : EN) (n : Nat) (h0 : Nat) (h1 : Nat) (th0 : Ty E h0 3) (th1 : Ty E h1 2) : CT l E yX4_readPath cX4_readPath 4 (some .boolean) 6 128 wI tT [.ref h0, .ref h1] (fun S => f_X4_readPath E n S h0 h1) := by
  refine ct_of RX4 (by decide +kernel) rfl [(0, .ref h0), (1, .ref h1)] rfl (Nat.le_of_ble_eq_true rfl) (fun A S hA C X => ?_)
  subst hA
  show Gd A E 4 (QM A E wI tT) (f_X4_readPath E n S h0 h1) S 0 [(0, .ref h0), (1, .ref h1)] []
  unfold f_X4_readPath
  refine r_aload_n C 0 dX4_readPath_0 rfl ?_
  refine r_callV (As := []) (rest := []) C (c_X4_nextToken _ E n h0 th0) dX4_readPath_1 ml_X4_48 mv_X4_nextToken ⟨TX4, _, rfl⟩ (by decide) th0 rfl rfl ⟨by decide, by decide⟩ (Nat.le_of_ble_eq_true rfl) (fun v2 S1 hv2 => ?_)
  refine r_aload_n C 0 dX4_readPath_4 rfl ?_
  refine r_iconst C (0 : Int32) dX4_readPath_5 (by decide) ?_
  refine r_aload_n C 1 dX4_readPath_6 rfl ?_
  refine r_geti C fl_X4_145 dX4_readPath_7 th1 ?_
  refine r_iconst C (1 : Int32) dX4_readPath_10 (by decide) ?_
  refine r_isub C dX4_readPath_11 ?_
  refine r_callV (As := [.int (0 : Int32), .int ((gi S1 129 h1) - (1 : Int32))]) (rest := []) C (c_X4_takeNumber _ E n h0 (0 : Int32) ((gi S1 129 h1) - (1 : Int32)) th0) dX4_readPath_12 ml_X4_140 mv_X4_takeNumber ⟨TX4, _, rfl⟩ (by decide) th0 rfl rfl ⟨by decide, by decide⟩ (Nat.le_of_ble_eq_true rfl) (fun v4 S3 hv4 => ?_)
  refine r_istore_n C [(2, .int v4), (0, .ref h0), (1, .ref h1)] dX4_readPath_15 (by decide) rfl ?_
  refine r_iload_n C 0 dX4_readPath_16 rfl ?_
  refine r_iconst C (-1 : Int32) dX4_readPath_17 (by decide) ?_
  refine r_icmp_eq C 30 dX4_readPath_18 (by decide) ?_ ?_
  · refine r_iconst C (0 : Int32) dX4_readPath_30 (by decide) ?_
    exact r_zreturn C X rfl dX4_readPath_31
  · refine r_aload_n C 1 dX4_readPath_21 rfl ?_
    refine r_ldcS C (tx := "to") 5 (List.mem_of_getElem? (i := 5) rfl) dX4_readPath_22 ?_
    refine r_callV (As := [.ref (eSK E 5)]) (rest := []) C (c_X4_takeWord _ E n h0 5 th0 (by decide)) dX4_readPath_24 ml_X4_137 mv_X4_takeWord ⟨TX4, _, rfl⟩ (by decide) th0 rfl rfl ⟨by decide, by decide⟩ (Nat.le_of_ble_eq_true rfl) (fun v6 S5 hv6 => ?_)
    refine r_if_ne C 32 dX4_readPath_27 (by decide) ?_ ?_
    · refine r_aload_n C 1 dX4_readPath_32 rfl ?_
      refine r_geti C fl_X4_22 dX4_readPath_33 th0 ?_
      refine r_iconst C (2 : Int32) dX4_readPath_36 (by decide) ?_
      refine r_icmp_ne C 67 dX4_readPath_37 (by decide) ?_ ?_
      · refine r_sub [1, 2, 0] [(0, .ref h0), (1, .ref h1), (2, .int v4)] rfl ?_
        exact p_X4_readPath_J67 C X  S5 h0 h1 v4 th0 th1
      · refine r_aload_n C 1 dX4_readPath_40 rfl ?_
        refine r_geti C fl_X4_28 dX4_readPath_41 th0 ?_
        refine r_iload_n C 0 dX4_readPath_44 rfl ?_
        refine r_icmp_eq C 61 dX4_readPath_45 (by decide) ?_ ?_
        · refine r_aload_n C 1 dX4_readPath_61 rfl ?_
          refine r_iconst C (2 : Int32) dX4_readPath_62 (by decide) ?_
          refine r_callV (As := [.int (2 : Int32)]) (rest := []) C (c_X4_failHere _ E n h0 (2 : Int32) th0) dX4_readPath_63 ml_X4_75 mv_X4_failHere ⟨TX4, _, rfl⟩ (by decide) th0 rfl rfl ⟨by decide, by decide⟩ (Nat.le_of_ble_eq_true rfl) (fun v8 S7 hv8 => ?_)
          exact r_zreturnc C X dX4_readPath_66
        · refine r_aload_n C 2 dX4_readPath_48 rfl ?_
          refine r_iload_n C 0 dX4_readPath_49 rfl ?_
          refine r_aload_n C 1 dX4_readPath_50 rfl ?_
          refine r_geti C fl_X4_28 dX4_readPath_51 th0 ?_
          refine r_callV (As := [.int v4, .int (gi S5 197 h0)]) (rest := []) C (c_X3_pathBetween _ E n h1 v4 (gi S5 197 h0) th1) dX4_readPath_54 ml_X4_155 mv_X3_pathBetween ⟨TX3, _, rfl⟩ (by decide) th1 rfl rfl ⟨by decide, by decide⟩ (Nat.le_of_ble_eq_true rfl) (fun v10 S9 hv10 => ?_)
          refine r_iconst C (-1 : Int32) dX4_readPath_57 (by decide) ?_
          refine r_icmp_eq C 67 dX4_readPath_58 (by decide) ?_ ?_
          · refine r_sub [1, 2, 0] [(0, .ref h0), (1, .ref h1), (2, .int v4)] rfl ?_
            exact p_X4_readPath_J67 C X  S9 h0 h1 v4 th0 th1
          · refine r_aload_n C 1 dX4_readPath_61 rfl ?_
            refine r_iconst C (2 : Int32) dX4_readPath_62 (by decide) ?_
            refine r_callV (As := [.int (2 : Int32)]) (rest := []) C (c_X4_failHere _ E n h0 (2 : Int32) th0) dX4_readPath_63 ml_X4_75 mv_X4_failHere ⟨TX4, _, rfl⟩ (by decide) th0 rfl rfl ⟨by decide, by decide⟩ (Nat.le_of_ble_eq_true rfl) (fun v12 S11 hv12 => ?_)
            exact r_zreturnc C X dX4_readPath_66
    · refine r_iconst C (0 : Int32) dX4_readPath_30 (by decide) ?_
      exact r_zreturn C X rfl dX4_readPath_31
set_option maxRecDepth 100000 in
set_option maxHeartbeats 4000000 in
theorem p_X4_readBride_J60 {A : AM} {E : EN} {n : Nat} (C : Cx A E cX4_readBride 4 RX4 6 128) (X : Ex A E (some .boolean))  (S : WS) (h1 : Nat) (x2 : Int32) (s0 : Int32) (th1 : Ty E h1 2) : Gd A E 4 (QM A E wI tT) (f_X4_readBride_J60 E n  S h1 x2 s0) S 60 [(1, .ref h1), (2, .int x2)] [.int s0] := by
  unfold f_X4_readBride_J60
  refine r_istore_n C [(3, .int s0), (1, .ref h1), (2, .int x2)] dX4_readBride_60 (by decide) rfl ?_
  refine r_iload_n C 0 dX4_readBride_61 rfl ?_
  refine r_iconst C (-1 : Int32) dX4_readBride_62 (by decide) ?_
  refine r_icmp_ne C 68 dX4_readBride_63 (by decide) ?_ ?_
  · refine r_aload_n C 1 dX4_readBride_68 rfl ?_
    refine r_getr C fl_X4_166 dX4_readBride_69 th1 (fun b1 tb1 => ?_)
    refine r_aload_n C 1 dX4_readBride_72 rfl ?_
    refine r_geti C fl_X4_103 dX4_readBride_73 th1 ?_
    refine r_iload_n C 2 dX4_readBride_76 rfl ?_
    refine r_iast C dX4_readBride_77 tb1 (fun S2 => ?_)
    refine r_aload_n C 1 dX4_readBride_78 rfl ?_
    refine r_getr C fl_X4_169 dX4_readBride_79 th1 (fun b3 tb3 => ?_)
    refine r_aload_n C 1 dX4_readBride_82 rfl ?_
    refine r_geti C fl_X4_103 dX4_readBride_83 th1 ?_
    refine r_iload_n C 0 dX4_readBride_86 rfl ?_
    refine r_iast C dX4_readBride_87 tb3 (fun S4 => ?_)
    refine r_aload_n C 1 dX4_readBride_88 rfl ?_
    refine r_dup C dX4_readBride_89 rfl ?_
    refine r_geti C fl_X4_103 dX4_readBride_90 th1 ?_
    refine r_iconst C (1 : Int32) dX4_readBride_93 (by decide) ?_
    refine r_iadd C dX4_readBride_94 ?_
    refine r_puti C fl_X4_103 dX4_readBride_95 th1 (fun S5 => ?_)
    refine r_iconst C (1 : Int32) dX4_readBride_98 (by decide) ?_
    exact r_zreturn C X rfl dX4_readBride_99
  · refine r_iconst C (0 : Int32) dX4_readBride_66 (by decide) ?_
    exact r_zreturn C X rfl dX4_readBride_67
set_option maxRecDepth 100000 in
set_option maxHeartbeats 4000000 in
theorem p_X4_readBride_J28 {A : AM} {E : EN} {n : Nat} (C : Cx A E cX4_readBride 4 RX4 6 128) (X : Ex A E (some .boolean))  (S : WS) (h0 : Nat) (h1 : Nat) (s0 : Int32) (th0 : Ty E h0 3) (th1 : Ty E h1 2) : Gd A E 4 (QM A E wI tT) (f_X4_readBride_J28 E n  S h0 h1 s0) S 28 [(0, .ref h0), (1, .ref h1)] [.int s0] := by
  unfold f_X4_readBride_J28
  refine r_istore_n C [(2, .int s0), (0, .ref h0), (1, .ref h1)] dX4_readBride_28 (by decide) rfl ?_
  refine r_iload_n C 0 dX4_readBride_29 rfl ?_
  refine r_iconst C (-1 : Int32) dX4_readBride_30 (by decide) ?_
  refine r_icmp_ne C 36 dX4_readBride_31 (by decide) ?_ ?_
  · refine r_aload_n C 1 dX4_readBride_36 rfl ?_
    refine r_ldcS C (tx := "in") 7 (List.mem_of_getElem? (i := 7) rfl) dX4_readBride_37 ?_
    refine r_callV (As := [.ref (eSK E 7)]) (rest := []) C (c_X4_takeWord _ E n h0 7 th0 (by decide)) dX4_readBride_39 ml_X4_137 mv_X4_takeWord ⟨TX4, _, rfl⟩ (by decide) th0 rfl rfl ⟨by decide, by decide⟩ (Nat.le_of_ble_eq_true rfl) (fun v2 S1 hv2 => ?_)
    refine r_if_eq C 59 dX4_readBride_42 (by decide) ?_ ?_
    · refine r_iconst C (-1 : Int32) dX4_readBride_59 (by decide) ?_
      refine r_sub [2, 0] [(1, .ref h1), (2, .int s0)] rfl ?_
      exact p_X4_readBride_J60 C X  S1 h1 s0 (-1 : Int32) th1
    · refine r_aload_n C 1 dX4_readBride_45 rfl ?_
      refine r_iconst C (0 : Int32) dX4_readBride_46 (by decide) ?_
      refine r_aload_n C 2 dX4_readBride_47 rfl ?_
      refine r_geti C fl_X4_147 dX4_readBride_48 th1 ?_
      refine r_iconst C (1 : Int32) dX4_readBride_51 (by decide) ?_
      refine r_isub C dX4_readBride_52 ?_
      refine r_callV (As := [.int (0 : Int32), .int ((gi S1 130 h1) - (1 : Int32))]) (rest := []) C (c_X4_takeNumber _ E n h0 (0 : Int32) ((gi S1 130 h1) - (1 : Int32)) th0) dX4_readBride_53 ml_X4_140 mv_X4_takeNumber ⟨TX4, _, rfl⟩ (by decide) th0 rfl rfl ⟨by decide, by decide⟩ (Nat.le_of_ble_eq_true rfl) (fun v4 S3 hv4 => ?_)
      refine r_goto C 60 dX4_readBride_56 (by decide) ?_
      refine r_sub [2, 0] [(1, .ref h1), (2, .int s0)] rfl ?_
      exact p_X4_readBride_J60 C X  S3 h1 s0 v4 th1
  · refine r_iconst C (0 : Int32) dX4_readBride_34 (by decide) ?_
    exact r_zreturn C X rfl dX4_readBride_35
