/-! THE CONTRACTS, by program -/
set_option maxRecDepth 100000 in
set_option maxHeartbeats 4000000 in
theorem c_X6_leapTold (l : Launch) (E : EN) (n : Nat) (h0 : Nat) (x1 : Int32) (th0 : Ty E h0 5) : CT l E yX6_leapTold cX6_leapTold 2 (some .long) 1 21 wJ tT [.ref h0, .int x1] (fun S => f_X6_leapTold E n S h0 x1) := by
  refine ct_of RX6 (by decide +kernel) rfl [(0, .ref h0), (1, .int x1)] rfl (Nat.le_of_ble_eq_true rfl) (fun A S hA C X => ?_)
  subst hA
  show Gd A E 2 (QM A E wJ tT) (f_X6_leapTold E n S h0 x1) S 0 [(0, .ref h0), (1, .int x1)] []
  unfold f_X6_leapTold
  refine r_aload_n C 0 dX6_leapTold_0 rfl ?_
  refine r_iload_n C 1 dX6_leapTold_1 rfl ?_
  refine r_iconst C (3 : Int32) dX6_leapTold_2 (by decide) ?_
  refine r_imul C dX6_leapTold_3 ?_
  refine r_iconst C (2 : Int32) dX6_leapTold_4 (by decide) ?_
  refine r_iadd C dX6_leapTold_5 ?_
  refine r_callV (As := [.int ((x1 * (3 : Int32)) + (2 : Int32))]) (rest := []) C (c_X6_numberAt _ E n h0 ((x1 * (3 : Int32)) + (2 : Int32)) th0) dX6_leapTold_6 ml_X6_24 mv_X6_numberAt ⟨TX6, _, rfl⟩ (by decide) th0 rfl rfl ⟨by decide, by decide⟩ (Nat.le_of_ble_eq_true rfl) (fun v2 S1 hv2 => ?_)
  exact r_lreturn C X dX6_leapTold_9
set_option maxRecDepth 100000 in
set_option maxHeartbeats 4000000 in
theorem p_X6_isMeasured_L13 {A : AM} {E : EN} {n : Nat} (C : Cx A E cX6_isMeasured 7 RX6 1 21) (X : Ex A E (some .boolean))  : ∀ (m : Nat) (S : WS) (h0 : Nat) (h1 : Nat) (x2 : Int32) (th0 : Ty E h0 5) (th1 : Ty E h1 2), Gd A E 7 (QM A E wI tT) (f_X6_isMeasured_L13 E n  m S h0 h1 x2) S 13 [(0, .ref h0), (1, .ref h1), (2, .int x2)] [] := by
  intro m
  induction m with
  | zero => intros; exact gn
  | succ m ih =>
    intro S h0 h1 x2 th0 th1
    unfold f_X6_isMeasured_L13
    refine r_iload_n C 2 dX6_isMeasured_13 rfl ?_
    refine r_aload_n C 0 dX6_isMeasured_14 rfl ?_
    refine r_callV (As := []) (rest := [.int x2]) C (c_X6_measures _ E n h0 th0) dX6_isMeasured_15 ml_X6_28 mv_X6_measures ⟨TX6, _, rfl⟩ (by decide) th0 rfl rfl ⟨by decide, by decide⟩ (Nat.le_of_ble_eq_true rfl) (fun v2 S1 hv2 => ?_)
    refine r_icmp_ge C 82 dX6_isMeasured_18 (by decide) ?_ ?_
    · refine r_iconst C (1 : Int32) dX6_isMeasured_82 (by decide) ?_
      exact r_zreturn C X rfl dX6_isMeasured_83
    · refine r_aload_n C 0 dX6_isMeasured_21 rfl ?_
      refine r_iload_n C 2 dX6_isMeasured_22 rfl ?_
      refine r_iconst C (3 : Int32) dX6_isMeasured_23 (by decide) ?_
      refine r_imul C dX6_isMeasured_24 ?_
      refine r_callV (As := [.int (x2 * (3 : Int32))]) (rest := []) C (c_X6_numberAt _ E n h0 (x2 * (3 : Int32)) th0) dX6_isMeasured_25 ml_X6_24 mv_X6_numberAt ⟨TX6, _, rfl⟩ (by decide) th0 rfl rfl ⟨by decide, by decide⟩ (Nat.le_of_ble_eq_true rfl) (fun v4 S3 hv4 => ?_)
      refine r_lstore_n C [(3, .long v4), (0, .ref h0), (1, .ref h1), (2, .int x2)] dX6_isMeasured_28 (by decide) rfl ?_
      refine r_aload_n C 1 dX6_isMeasured_29 rfl ?_
      refine r_iload_n C 3 dX6_isMeasured_30 rfl ?_
      refine r_iconst C (3 : Int32) dX6_isMeasured_31 (by decide) ?_
      refine r_imul C dX6_isMeasured_32 ?_
      refine r_iconst C (1 : Int32) dX6_isMeasured_33 (by decide) ?_
      refine r_iadd C dX6_isMeasured_34 ?_
      refine r_callV (As := [.int ((x2 * (3 : Int32)) + (1 : Int32))]) (rest := []) C (c_X6_numberAt _ E n h0 ((x2 * (3 : Int32)) + (1 : Int32)) th0) dX6_isMeasured_35 ml_X6_24 mv_X6_numberAt ⟨TX6, _, rfl⟩ (by decide) th0 rfl rfl ⟨by decide, by decide⟩ (Nat.le_of_ble_eq_true rfl) (fun v6 S5 hv6 => ?_)
      refine r_lstore C [(5, .long v6), (3, .long v4), (0, .ref h0), (1, .ref h1), (2, .int x2)] dX6_isMeasured_38 (by decide) rfl ?_
      refine r_lload_n C 1 dX6_isMeasured_40 rfl ?_
      refine r_lconst C (0 : Int64) dX6_isMeasured_41 (by decide) ?_
      refine r_lcmp C dX6_isMeasured_42 ?_
      refine r_if_lt C 74 dX6_isMeasured_43 (by decide) ?_ ?_
      · refine r_iconst C (0 : Int32) dX6_isMeasured_74 (by decide) ?_
        exact r_zreturn C X rfl dX6_isMeasured_75
      · refine r_lload_n C 1 dX6_isMeasured_46 rfl ?_
        refine r_aload_n C 3 dX6_isMeasured_47 rfl ?_
        refine r_geti C fl_X6_32 dX6_isMeasured_48 th1 ?_
        refine r_i2l C dX6_isMeasured_51 ?_
        refine r_lcmp C dX6_isMeasured_52 ?_
        refine r_if_ge C 74 dX6_isMeasured_53 (by decide) ?_ ?_
        · refine r_iconst C (0 : Int32) dX6_isMeasured_74 (by decide) ?_
          exact r_zreturn C X rfl dX6_isMeasured_75
        · refine r_lload C 0 dX6_isMeasured_56 rfl ?_
          refine r_lconst C (0 : Int64) dX6_isMeasured_58 (by decide) ?_
          refine r_lcmp C dX6_isMeasured_59 ?_
          refine r_if_lt C 74 dX6_isMeasured_60 (by decide) ?_ ?_
          · refine r_iconst C (0 : Int32) dX6_isMeasured_74 (by decide) ?_
            exact r_zreturn C X rfl dX6_isMeasured_75
          · refine r_lload C 0 dX6_isMeasured_63 rfl ?_
            refine r_aload_n C 3 dX6_isMeasured_65 rfl ?_
            refine r_geti C fl_X6_37 dX6_isMeasured_66 th1 ?_
            refine r_i2l C dX6_isMeasured_69 ?_
            refine r_lcmp C dX6_isMeasured_70 ?_
            refine r_if_lt C 76 dX6_isMeasured_71 (by decide) ?_ ?_
            · refine r_iinc C 4 (fun y7 => [(2, .int y7), (5, .long v6), (3, .long v4), (0, .ref h0), (1, .ref h1)]) dX6_isMeasured_76 rfl (v := (1 : Int32)) (by decide) (by decide) (fun _ => rfl) (fun y7 => ?_)
              refine r_goto C 13 dX6_isMeasured_79 (by decide) ?_
              refine r_sub [3, 4, 0] [(0, .ref h0), (1, .ref h1), (2, .int y7)] rfl ?_
              exact ih S5 h0 h1 y7 th0 th1
            · refine r_iconst C (0 : Int32) dX6_isMeasured_74 (by decide) ?_
              exact r_zreturn C X rfl dX6_isMeasured_75
set_option maxRecDepth 100000 in
set_option maxHeartbeats 4000000 in
theorem c_X6_isMeasured (l : Launch) (E : EN) (n : Nat) (h0 : Nat) (h1 : Nat) (th0 : Ty E h0 5) (th1 : Ty E h1 2) : CT l E yX6_isMeasured cX6_isMeasured 7 (some .boolean) 1 21 wI tT [.ref h0, .ref h1] (fun S => f_X6_isMeasured E n S h0 h1) := by
  refine ct_of RX6 (by decide +kernel) rfl [(0, .ref h0), (1, .ref h1)] rfl (Nat.le_of_ble_eq_true rfl) (fun A S hA C X => ?_)
  subst hA
  show Gd A E 7 (QM A E wI tT) (f_X6_isMeasured E n S h0 h1) S 0 [(0, .ref h0), (1, .ref h1)] []
  unfold f_X6_isMeasured
  refine r_aload_n C 0 dX6_isMeasured_0 rfl ?_
  refine r_geti C fl_X6_15 dX6_isMeasured_1 th0 ?_
  refine r_iconst C (3 : Int32) dX6_isMeasured_4 (by decide) ?_
  refine r_irem C dX6_isMeasured_5 ?_
  refine r_if_eq C 11 dX6_isMeasured_6 (by decide) ?_ ?_
  · refine r_iconst C (0 : Int32) dX6_isMeasured_11 (by decide) ?_
    refine r_istore_n C [(2, .int (0 : Int32)), (0, .ref h0), (1, .ref h1)] dX6_isMeasured_12 (by decide) rfl ?_
    refine r_sub [1, 2, 0] [(0, .ref h0), (1, .ref h1), (2, .int (0 : Int32))] rfl ?_
    exact p_X6_isMeasured_L13 C X  n S h0 h1 (0 : Int32) th0 th1
  · refine r_iconst C (0 : Int32) dX6_isMeasured_9 (by decide) ?_
    exact r_zreturn C X rfl dX6_isMeasured_10
set_option maxRecDepth 100000 in
set_option maxHeartbeats 4000000 in
theorem p_X8_putNumber_L3 {A : AM} {E : EN} {n : Nat} (C : Cx A E cX8_putNumber 3 RX8 0 0) (X : Ex A E none)  : ∀ (m : Nat) (S : WS) (h0 : Nat) (x1 : Int32) (x2 : Int32) (th0 : Ty E h0 7), Gd A E 3 (QM A E wV tT) (f_X8_putNumber_L3 E n  m S h0 x1 x2) S 3 [(0, .ref h0), (1, .int x1), (2, .int x2)] [] := by
  intro m
  induction m with
  | zero => intros; exact gn
  | succ m ih =>
    intro S h0 x1 x2 th0
    unfold f_X8_putNumber_L3
    refine r_iload_n C 2 dX8_putNumber_3 rfl ?_
    refine r_if_lt C 55 dX8_putNumber_4 (by decide) ?_ ?_
    · exact r_return C X dX8_putNumber_55
    · refine r_aload_n C 0 dX8_putNumber_7 rfl ?_
      refine r_geti C fl_X8_13 dX8_putNumber_8 th0 ?_
      refine r_if_lt C 49 dX8_putNumber_11 (by decide) ?_ ?_
      · refine r_iinc C 2 (fun y1 => [(2, .int y1), (0, .ref h0), (1, .int x1)]) dX8_putNumber_49 rfl (v := (-8 : Int32)) (by decide) (by decide) (fun _ => rfl) (fun y1 => ?_)
        refine r_goto C 3 dX8_putNumber_52 (by decide) ?_
        refine r_sub [1, 2, 0] [(0, .ref h0), (1, .int x1), (2, .int y1)] rfl ?_
        exact ih S h0 x1 y1 th0
      · refine r_aload_n C 0 dX8_putNumber_14 rfl ?_
        refine r_geti C fl_X8_13 dX8_putNumber_15 th0 ?_
        refine r_aload_n C 0 dX8_putNumber_18 rfl ?_
        refine r_getr C fl_X8_9 dX8_putNumber_19 th0 (fun b2 tb2 => ?_)
        refine r_alen C (k := 9) rfl (by decide) dX8_putNumber_22 tb2 ?_
        refine r_icmp_ge C 49 dX8_putNumber_23 (by decide) ?_ ?_
        · refine r_iinc C 2 (fun y3 => [(2, .int y3), (0, .ref h0), (1, .int x1)]) dX8_putNumber_49 rfl (v := (-8 : Int32)) (by decide) (by decide) (fun _ => rfl) (fun y3 => ?_)
          refine r_goto C 3 dX8_putNumber_52 (by decide) ?_
          refine r_sub [1, 2, 0] [(0, .ref h0), (1, .int x1), (2, .int y3)] rfl ?_
          exact ih S h0 x1 y3 th0
        · refine r_aload_n C 0 dX8_putNumber_26 rfl ?_
          refine r_getr C fl_X8_9 dX8_putNumber_27 th0 (fun b4 tb4 => ?_)
          refine r_aload_n C 0 dX8_putNumber_30 rfl ?_
          refine r_geti C fl_X8_13 dX8_putNumber_31 th0 ?_
          refine r_iload_n C 1 dX8_putNumber_34 rfl ?_
          refine r_iload_n C 2 dX8_putNumber_35 rfl ?_
          refine r_iushr C dX8_putNumber_36 ?_
          refine r_i2b C dX8_putNumber_37 ?_
          refine r_bast C dX8_putNumber_38 tb4 (fun S5 => ?_)
          refine r_aload_n C 0 dX8_putNumber_39 rfl ?_
          refine r_dup C dX8_putNumber_40 rfl ?_
          refine r_geti C fl_X8_13 dX8_putNumber_41 th0 ?_
          refine r_iconst C (1 : Int32) dX8_putNumber_44 (by decide) ?_
          refine r_iadd C dX8_putNumber_45 ?_
          refine r_puti C fl_X8_13 dX8_putNumber_46 th0 (fun S6 => ?_)
          refine r_iinc C 2 (fun y7 => [(2, .int y7), (0, .ref h0), (1, .int x1)]) dX8_putNumber_49 rfl (v := (-8 : Int32)) (by decide) (by decide) (fun _ => rfl) (fun y7 => ?_)
          refine r_goto C 3 dX8_putNumber_52 (by decide) ?_
          refine r_sub [1, 2, 0] [(0, .ref h0), (1, .int x1), (2, .int y7)] rfl ?_
          exact ih S6 h0 x1 y7 th0
set_option maxRecDepth 100000 in
set_option maxHeartbeats 4000000 in
theorem c_X8_putNumber (l : Launch) (E : EN) (n : Nat) (h0 : Nat) (x1 : Int32) (th0 : Ty E h0 7) : CT l E yX8_putNumber cX8_putNumber 3 none 0 0 wV tT [.ref h0, .int x1] (fun S => f_X8_putNumber E n S h0 x1) := by
  refine ct_of RX8 (by decide +kernel) rfl [(0, .ref h0), (1, .int x1)] rfl (Nat.le_of_ble_eq_true rfl) (fun A S hA C X => ?_)
  subst hA
  show Gd A E 3 (QM A E wV tT) (f_X8_putNumber E n S h0 x1) S 0 [(0, .ref h0), (1, .int x1)] []
  unfold f_X8_putNumber
  refine r_bipush C (24 : Int32) dX8_putNumber_0 (by decide) ?_
  refine r_istore_n C [(2, .int (24 : Int32)), (0, .ref h0), (1, .int x1)] dX8_putNumber_2 (by decide) rfl ?_
  refine r_sub [1, 2, 0] [(0, .ref h0), (1, .int x1), (2, .int (24 : Int32))] rfl ?_
  exact p_X8_putNumber_L3 C X  n S h0 x1 (24 : Int32) th0
set_option maxRecDepth 100000 in
set_option maxHeartbeats 4000000 in
theorem c_X8_end (l : Launch) (E : EN) (n : Nat) (h0 : Nat) (x1 : Int32) (th0 : Ty E h0 7) : CT l E yX8_end cX8_end 2 (some .int) 0 0 wI tT [.ref h0, .int x1] (fun S => f_X8_end E n S h0 x1) := by
  refine ct_of RX8 (by decide +kernel) rfl [(0, .ref h0), (1, .int x1)] rfl (Nat.le_of_ble_eq_true rfl) (fun A S hA C X => ?_)
  subst hA
  show Gd A E 2 (QM A E wI tT) (f_X8_end E n S h0 x1) S 0 [(0, .ref h0), (1, .int x1)] []
  unfold f_X8_end
  refine r_iload_n C 1 dX8_end_0 rfl ?_
  refine r_if_lt C 12 dX8_end_1 (by decide) ?_ ?_
  · refine r_iconst C (-1 : Int32) dX8_end_12 (by decide) ?_
    exact r_ireturn C X dX8_end_13
  · refine r_iload_n C 1 dX8_end_4 rfl ?_
    refine r_aload_n C 0 dX8_end_5 rfl ?_
    refine r_geti C fl_X8_13 dX8_end_6 th0 ?_
    refine r_icmp_le C 14 dX8_end_9 (by decide) ?_ ?_
    · refine r_aload_n C 0 dX8_end_14 rfl ?_
      refine r_iload_n C 1 dX8_end_15 rfl ?_
      refine r_puti C fl_X8_13 dX8_end_16 th0 (fun S1 => ?_)
      refine r_iload_n C 1 dX8_end_19 rfl ?_
      exact r_ireturn C X dX8_end_20
    · refine r_iconst C (-1 : Int32) dX8_end_12 (by decide) ?_
      exact r_ireturn C X dX8_end_13
set_option maxRecDepth 100000 in
set_option maxHeartbeats 4000000 in
theorem c_X8_fault (l : Launch) (E : EN) (n : Nat) (h0 : Nat) (x1 : Int32) (th0 : Ty E h0 7) : CT l E yX8_fault cX8_fault 2 (some .int) 0 0 wI tT [.ref h0, .int x1] (fun S => f_X8_fault E n S h0 x1) := by
  refine ct_of RX8 (by decide +kernel) rfl [(0, .ref h0), (1, .int x1)] rfl (Nat.le_of_ble_eq_true rfl) (fun A S hA C X => ?_)
  subst hA
  show Gd A E 2 (QM A E wI tT) (f_X8_fault E n S h0 x1) S 0 [(0, .ref h0), (1, .int x1)] []
  unfold f_X8_fault
  refine r_iload_n C 1 dX8_fault_0 rfl ?_
  refine r_if_ne C 12 dX8_fault_1 (by decide) ?_ ?_
  · refine r_iload_n C 1 dX8_fault_12 rfl ?_
    refine r_iconst C (1 : Int32) dX8_fault_13 (by decide) ?_
    refine r_icmp_ne C 27 dX8_fault_14 (by decide) ?_ ?_
    · refine r_iconst C (-1 : Int32) dX8_fault_27 (by decide) ?_
      exact r_ireturn C X dX8_fault_28
    · refine r_aload_n C 0 dX8_fault_17 rfl ?_
      refine r_getr C fl_X8_20 dX8_fault_18 th0 (fun b1 tb1 => ?_)
      refine r_geti C fl_X8_101 dX8_fault_21 tb1 ?_
      refine r_goto C 28 dX8_fault_24 (by decide) ?_
      exact r_ireturn C X dX8_fault_28
  · refine r_aload_n C 0 dX8_fault_4 rfl ?_
    refine r_getr C fl_X8_20 dX8_fault_5 th0 (fun b2 tb2 => ?_)
    refine r_geti C fl_X8_98 dX8_fault_8 tb2 ?_
    exact r_ireturn C X dX8_fault_11
set_option maxRecDepth 100000 in
set_option maxHeartbeats 4000000 in
theorem c_X8_path (l : Launch) (E : EN) (n : Nat) (h0 : Nat) (x1 : Int32) (x2 : Int32) (th0 : Ty E h0 7) : CT l E yX8_path cX8_path 3 (some .int) 2 42 wI tT [.ref h0, .int x1, .int x2] (fun S => f_X8_path E n S h0 x1 x2) := by
  refine ct_of RX8 (by decide +kernel) rfl [(0, .ref h0), (1, .int x1), (2, .int x2)] rfl (Nat.le_of_ble_eq_true rfl) (fun A S hA C X => ?_)
  subst hA
  show Gd A E 3 (QM A E wI tT) (f_X8_path E n S h0 x1 x2) S 0 [(0, .ref h0), (1, .int x1), (2, .int x2)] []
  unfold f_X8_path
  refine r_aload_n C 0 dX8_path_0 rfl ?_
  refine r_getr C fl_X8_27 dX8_path_1 th0 (fun b1 tb1 => ?_)
  refine r_iload_n C 1 dX8_path_4 rfl ?_
  refine r_callV (As := [.int x1]) (rest := []) C (c_X3_hasPath _ E n b1 x1 tb1) dX8_path_5 ml_X8_104 mv_X3_hasPath ⟨TX3, _, rfl⟩ (by decide) tb1 rfl rfl ⟨by decide, by decide⟩ (Nat.le_of_ble_eq_true rfl) (fun v3 S2 hv3 => ?_)
  refine r_if_ne C 14 dX8_path_8 (by decide) ?_ ?_
  · refine r_iload_n C 2 dX8_path_14 rfl ?_
    refine r_ite (fun hs0 => ?_) (fun hs0 => ?_)
    · refine r_swIn C 0 40 dX8_path_15 (by rw [hs0]; rfl) (by decide) (by decide) rfl (by decide) ?_
      refine r_aload_n C 0 dX8_path_40 rfl ?_
      refine r_getr C fl_X8_27 dX8_path_41 th0 (fun b4 tb4 => ?_)
      refine r_getr C fl_X8_108 dX8_path_44 tb4 (fun b5 tb5 => ?_)
      refine r_iload_n C 1 dX8_path_47 rfl ?_
      refine r_iald C dX8_path_48 tb5 ?_
      exact r_ireturn C X dX8_path_49
    refine r_ite (fun hs1 => ?_) (fun hs1 => ?_)
    · refine r_swIn C 1 50 dX8_path_15 (by rw [hs1]; rfl) (by decide) (by decide) rfl (by decide) ?_
      refine r_aload_n C 0 dX8_path_50 rfl ?_
      refine r_getr C fl_X8_27 dX8_path_51 th0 (fun b6 tb6 => ?_)
      refine r_getr C fl_X8_111 dX8_path_54 tb6 (fun b7 tb7 => ?_)
      refine r_iload_n C 1 dX8_path_57 rfl ?_
      refine r_iald C dX8_path_58 tb7 ?_
      exact r_ireturn C X dX8_path_59
    refine r_ite (fun hs2 => ?_) (fun hs2 => ?_)
    · refine r_swIn C 2 60 dX8_path_15 (by rw [hs2]; rfl) (by decide) (by decide) rfl (by decide) ?_
      refine r_aload_n C 0 dX8_path_60 rfl ?_
      refine r_getr C fl_X8_27 dX8_path_61 th0 (fun b8 tb8 => ?_)
      refine r_iload_n C 1 dX8_path_64 rfl ?_
      refine r_callV (As := [.int x1]) (rest := []) C (c_X3_dropOf _ E n b8 x1 tb8) dX8_path_65 ml_X8_114 mv_X3_dropOf ⟨TX3, _, rfl⟩ (by decide) tb8 rfl rfl ⟨by decide, by decide⟩ (Nat.le_of_ble_eq_true rfl) (fun v10 S9 hv10 => ?_)
      exact r_ireturn C X dX8_path_68
    refine r_swOut C 69 dX8_path_15 (by have z0 := lv_neT hs0 (a := 0) rfl; have z1 := lv_neT hs1 (a := 1) rfl; have z2 := lv_neT hs2 (a := 2) rfl;  omega) (by decide) ?_
    refine r_bipush C (-2 : Int32) dX8_path_69 (by decide) ?_
    exact r_ireturn C X dX8_path_71
  · refine r_bipush C (-2 : Int32) dX8_path_11 (by decide) ?_
    exact r_ireturn C X dX8_path_13
set_option maxRecDepth 100000 in
set_option maxHeartbeats 4000000 in
theorem c_X8_court (l : Launch) (E : EN) (n : Nat) (h0 : Nat) (x1 : Int32) (x2 : Int32) (th0 : Ty E h0 7) : CT l E yX8_court cX8_court 4 (some .int) 2 43 wI tT [.ref h0, .int x1, .int x2] (fun S => f_X8_court E n S h0 x1 x2) := by
  refine ct_of RX8 (by decide +kernel) rfl [(0, .ref h0), (1, .int x1), (2, .int x2)] rfl (Nat.le_of_ble_eq_true rfl) (fun A S hA C X => ?_)
  subst hA
  show Gd A E 4 (QM A E wI tT) (f_X8_court E n S h0 x1 x2) S 0 [(0, .ref h0), (1, .int x1), (2, .int x2)] []
  unfold f_X8_court
  refine r_aload_n C 0 dX8_court_0 rfl ?_
  refine r_getr C fl_X8_27 dX8_court_1 th0 (fun b1 tb1 => ?_)
  refine r_iload_n C 1 dX8_court_4 rfl ?_
  refine r_callV (As := [.int x1]) (rest := []) C (c_X3_hasSuitor _ E n b1 x1 tb1) dX8_court_5 ml_X8_118 mv_X3_hasSuitor ⟨TX3, _, rfl⟩ (by decide) tb1 rfl rfl ⟨by decide, by decide⟩ (Nat.le_of_ble_eq_true rfl) (fun v3 S2 hv3 => ?_)
  refine r_if_eq C 28 dX8_court_8 (by decide) ?_ ?_
  · refine r_bipush C (-2 : Int32) dX8_court_28 (by decide) ?_
    exact r_ireturn C X dX8_court_30
  · refine r_iload_n C 2 dX8_court_11 rfl ?_
    refine r_iconst C (-1 : Int32) dX8_court_12 (by decide) ?_
    refine r_icmp_eq C 31 dX8_court_13 (by decide) ?_ ?_
    · refine r_aload_n C 0 dX8_court_31 rfl ?_
      refine r_getr C fl_X8_27 dX8_court_32 th0 (fun b4 tb4 => ?_)
      refine r_getr C fl_X8_125 dX8_court_35 tb4 (fun b5 tb5 => ?_)
      refine r_iload_n C 1 dX8_court_38 rfl ?_
      refine r_iald C dX8_court_39 tb5 ?_
      refine r_topi (fun y6 => ?_)
      refine r_istore_n C [(3, .int y6), (0, .ref h0), (1, .int x1), (2, .int x2)] dX8_court_40 (by decide) rfl ?_
      refine r_aload_n C 1 dX8_court_41 rfl ?_
      refine r_getr C fl_X8_27 dX8_court_42 th0 (fun b7 tb7 => ?_)
      refine r_getr C fl_X8_125 dX8_court_45 tb7 (fun b8 tb8 => ?_)
      refine r_iload_n C 2 dX8_court_48 rfl ?_
      refine r_iload_n C 3 dX8_court_49 rfl ?_
      refine r_iast C dX8_court_50 tb8 (fun S9 => ?_)
      refine r_iload_n C 0 dX8_court_51 rfl ?_
      exact r_ireturn C X dX8_court_52
    · refine r_aload_n C 0 dX8_court_16 rfl ?_
      refine r_getr C fl_X8_27 dX8_court_17 th0 (fun b10 tb10 => ?_)
      refine r_iload_n C 1 dX8_court_20 rfl ?_
      refine r_iload_n C 2 dX8_court_21 rfl ?_
      refine r_callV (As := [.int x1, .int x2]) (rest := []) C (c_X3_isFor _ E n b10 x1 x2 tb10) dX8_court_22 ml_X8_121 mv_X3_isFor ⟨TX3, _, rfl⟩ (by decide) tb10 rfl rfl ⟨by decide, by decide⟩ (Nat.le_of_ble_eq_true rfl) (fun v12 S11 hv12 => ?_)
      refine r_if_ne C 31 dX8_court_25 (by decide) ?_ ?_
      · refine r_aload_n C 0 dX8_court_31 rfl ?_
        refine r_getr C fl_X8_27 dX8_court_32 th0 (fun b13 tb13 => ?_)
        refine r_getr C fl_X8_125 dX8_court_35 tb13 (fun b14 tb14 => ?_)
        refine r_iload_n C 1 dX8_court_38 rfl ?_
        refine r_iald C dX8_court_39 tb14 ?_
        refine r_topi (fun y15 => ?_)
        refine r_istore_n C [(3, .int y15), (0, .ref h0), (1, .int x1), (2, .int x2)] dX8_court_40 (by decide) rfl ?_
        refine r_aload_n C 1 dX8_court_41 rfl ?_
        refine r_getr C fl_X8_27 dX8_court_42 th0 (fun b16 tb16 => ?_)
        refine r_getr C fl_X8_125 dX8_court_45 tb16 (fun b17 tb17 => ?_)
        refine r_iload_n C 2 dX8_court_48 rfl ?_
        refine r_iload_n C 3 dX8_court_49 rfl ?_
        refine r_iast C dX8_court_50 tb17 (fun S18 => ?_)
        refine r_iload_n C 0 dX8_court_51 rfl ?_
        exact r_ireturn C X dX8_court_52
      · refine r_bipush C (-2 : Int32) dX8_court_28 (by decide) ?_
        exact r_ireturn C X dX8_court_30
set_option maxRecDepth 100000 in
set_option maxHeartbeats 4000000 in
theorem c_X8_bride (l : Launch) (E : EN) (n : Nat) (h0 : Nat) (x1 : Int32) (x2 : Int32) (th0 : Ty E h0 7) : CT l E yX8_bride cX8_bride 3 (some .int) 1 24 wI tT [.ref h0, .int x1, .int x2] (fun S => f_X8_bride E n S h0 x1 x2) := by
  refine ct_of RX8 (by decide +kernel) rfl [(0, .ref h0), (1, .int x1), (2, .int x2)] rfl (Nat.le_of_ble_eq_true rfl) (fun A S hA C X => ?_)
  subst hA
  show Gd A E 3 (QM A E wI tT) (f_X8_bride E n S h0 x1 x2) S 0 [(0, .ref h0), (1, .int x1), (2, .int x2)] []
  unfold f_X8_bride
  refine r_aload_n C 0 dX8_bride_0 rfl ?_
  refine r_getr C fl_X8_27 dX8_bride_1 th0 (fun b1 tb1 => ?_)
  refine r_iload_n C 1 dX8_bride_4 rfl ?_
  refine r_callV (As := [.int x1]) (rest := []) C (c_X3_hasBride _ E n b1 x1 tb1) dX8_bride_5 ml_X8_128 mv_X3_hasBride ⟨TX3, _, rfl⟩ (by decide) tb1 rfl rfl ⟨by decide, by decide⟩ (Nat.le_of_ble_eq_true rfl) (fun v3 S2 hv3 => ?_)
  refine r_if_ne C 14 dX8_bride_8 (by decide) ?_ ?_
  · refine r_iload_n C 2 dX8_bride_14 rfl ?_
    refine r_ite (fun hs0 => ?_) (fun hs0 => ?_)
    · refine r_swIn C 0 44 dX8_bride_15 (by rw [hs0]; rfl) (by decide) (by decide) rfl (by decide) ?_
      refine r_aload_n C 0 dX8_bride_44 rfl ?_
      refine r_getr C fl_X8_27 dX8_bride_45 th0 (fun b4 tb4 => ?_)
      refine r_getr C fl_X8_131 dX8_bride_48 tb4 (fun b5 tb5 => ?_)
      refine r_iload_n C 1 dX8_bride_51 rfl ?_
      refine r_iald C dX8_bride_52 tb5 ?_
      exact r_ireturn C X dX8_bride_53
    refine r_ite (fun hs1 => ?_) (fun hs1 => ?_)
    · refine r_swIn C 1 54 dX8_bride_15 (by rw [hs1]; rfl) (by decide) (by decide) rfl (by decide) ?_
      refine r_aload_n C 0 dX8_bride_54 rfl ?_
      refine r_getr C fl_X8_27 dX8_bride_55 th0 (fun b6 tb6 => ?_)
      refine r_getr C fl_X8_134 dX8_bride_58 tb6 (fun b7 tb7 => ?_)
      refine r_iload_n C 1 dX8_bride_61 rfl ?_
      refine r_iald C dX8_bride_62 tb7 ?_
      exact r_ireturn C X dX8_bride_63
    refine r_ite (fun hs2 => ?_) (fun hs2 => ?_)
    · refine r_swIn C 2 64 dX8_bride_15 (by rw [hs2]; rfl) (by decide) (by decide) rfl (by decide) ?_
      refine r_aload_n C 0 dX8_bride_64 rfl ?_
      refine r_getr C fl_X8_27 dX8_bride_65 th0 (fun b8 tb8 => ?_)
      refine r_aload_n C 0 dX8_bride_68 rfl ?_
      refine r_getr C fl_X8_27 dX8_bride_69 th0 (fun b9 tb9 => ?_)
      refine r_getr C fl_X8_125 dX8_bride_72 tb9 (fun b10 tb10 => ?_)
      refine r_iload_n C 1 dX8_bride_75 rfl ?_
      refine r_callV (As := [.ref b10, .int x1]) (rest := []) C (c_X3_courtersOf _ E n b8 b10 x1 tb8 tb10) dX8_bride_76 ml_X8_137 mv_X3_courtersOf ⟨TX3, _, rfl⟩ (by decide) tb8 rfl rfl ⟨by decide, by decide⟩ (Nat.le_of_ble_eq_true rfl) (fun v12 S11 hv12 => ?_)
      exact r_ireturn C X dX8_bride_79
    refine r_ite (fun hs3 => ?_) (fun hs3 => ?_)
    · refine r_swIn C 3 80 dX8_bride_15 (by rw [hs3]; rfl) (by decide) (by decide) rfl (by decide) ?_
      refine r_aload_n C 0 dX8_bride_80 rfl ?_
      refine r_getr C fl_X8_27 dX8_bride_81 th0 (fun b13 tb13 => ?_)
      refine r_aload_n C 0 dX8_bride_84 rfl ?_
      refine r_getr C fl_X8_27 dX8_bride_85 th0 (fun b14 tb14 => ?_)
      refine r_getr C fl_X8_125 dX8_bride_88 tb14 (fun b15 tb15 => ?_)
      refine r_iload_n C 1 dX8_bride_91 rfl ?_
      refine r_callV (As := [.ref b15, .int x1]) (rest := []) C (c_X3_takenBy _ E n b13 b15 x1 tb13 tb15) dX8_bride_92 ml_X8_141 mv_X3_takenBy ⟨TX3, _, rfl⟩ (by decide) tb13 rfl rfl ⟨by decide, by decide⟩ (Nat.le_of_ble_eq_true rfl) (fun v17 S16 hv17 => ?_)
      exact r_ireturn C X dX8_bride_95
    refine r_swOut C 96 dX8_bride_15 (by have z0 := lv_neT hs0 (a := 0) rfl; have z1 := lv_neT hs1 (a := 1) rfl; have z2 := lv_neT hs2 (a := 2) rfl; have z3 := lv_neT hs3 (a := 3) rfl;  omega) (by decide) ?_
    refine r_bipush C (-2 : Int32) dX8_bride_96 (by decide) ?_
    exact r_ireturn C X dX8_bride_98
  · refine r_bipush C (-2 : Int32) dX8_bride_11 (by decide) ?_
    exact r_ireturn C X dX8_bride_13
set_option maxRecDepth 100000 in
set_option maxHeartbeats 4000000 in
theorem c_X8_suitor (l : Launch) (E : EN) (n : Nat) (h0 : Nat) (x1 : Int32) (x2 : Int32) (th0 : Ty E h0 7) : CT l E yX8_suitor cX8_suitor 3 (some .int) 2 46 wI tT [.ref h0, .int x1, .int x2] (fun S => f_X8_suitor E n S h0 x1 x2) := by
  refine ct_of RX8 (by decide +kernel) rfl [(0, .ref h0), (1, .int x1), (2, .int x2)] rfl (Nat.le_of_ble_eq_true rfl) (fun A S hA C X => ?_)
  subst hA
  show Gd A E 3 (QM A E wI tT) (f_X8_suitor E n S h0 x1 x2) S 0 [(0, .ref h0), (1, .int x1), (2, .int x2)] []
  unfold f_X8_suitor
  refine r_aload_n C 0 dX8_suitor_0 rfl ?_
  refine r_getr C fl_X8_27 dX8_suitor_1 th0 (fun b1 tb1 => ?_)
  refine r_iload_n C 1 dX8_suitor_4 rfl ?_
  refine r_callV (As := [.int x1]) (rest := []) C (c_X3_hasSuitor _ E n b1 x1 tb1) dX8_suitor_5 ml_X8_118 mv_X3_hasSuitor ⟨TX3, _, rfl⟩ (by decide) tb1 rfl rfl ⟨by decide, by decide⟩ (Nat.le_of_ble_eq_true rfl) (fun v3 S2 hv3 => ?_)
  refine r_if_ne C 14 dX8_suitor_8 (by decide) ?_ ?_
  · refine r_iload_n C 2 dX8_suitor_14 rfl ?_
    refine r_ite (fun hs0 => ?_) (fun hs0 => ?_)
    · refine r_swIn C 0 48 dX8_suitor_15 (by rw [hs0]; rfl) (by decide) (by decide) rfl (by decide) ?_
      refine r_aload_n C 0 dX8_suitor_48 rfl ?_
      refine r_getr C fl_X8_27 dX8_suitor_49 th0 (fun b4 tb4 => ?_)
      refine r_getr C fl_X8_144 dX8_suitor_52 tb4 (fun b5 tb5 => ?_)
      refine r_iload_n C 1 dX8_suitor_55 rfl ?_
      refine r_iald C dX8_suitor_56 tb5 ?_
      exact r_ireturn C X dX8_suitor_57
    refine r_ite (fun hs1 => ?_) (fun hs1 => ?_)
    · refine r_swIn C 1 58 dX8_suitor_15 (by rw [hs1]; rfl) (by decide) (by decide) rfl (by decide) ?_
      refine r_aload_n C 0 dX8_suitor_58 rfl ?_
      refine r_getr C fl_X8_27 dX8_suitor_59 th0 (fun b6 tb6 => ?_)
      refine r_getr C fl_X8_147 dX8_suitor_62 tb6 (fun b7 tb7 => ?_)
      refine r_iload_n C 1 dX8_suitor_65 rfl ?_
      refine r_iald C dX8_suitor_66 tb7 ?_
      exact r_ireturn C X dX8_suitor_67
    refine r_ite (fun hs2 => ?_) (fun hs2 => ?_)
    · refine r_swIn C 2 68 dX8_suitor_15 (by rw [hs2]; rfl) (by decide) (by decide) rfl (by decide) ?_
      refine r_aload_n C 0 dX8_suitor_68 rfl ?_
      refine r_getr C fl_X8_27 dX8_suitor_69 th0 (fun b8 tb8 => ?_)
      refine r_getr C fl_X8_150 dX8_suitor_72 tb8 (fun b9 tb9 => ?_)
      refine r_iload_n C 1 dX8_suitor_75 rfl ?_
      refine r_iald C dX8_suitor_76 tb9 ?_
      exact r_ireturn C X dX8_suitor_77
    refine r_ite (fun hs3 => ?_) (fun hs3 => ?_)
    · refine r_swIn C 3 78 dX8_suitor_15 (by rw [hs3]; rfl) (by decide) (by decide) rfl (by decide) ?_
      refine r_aload_n C 0 dX8_suitor_78 rfl ?_
      refine r_getr C fl_X8_27 dX8_suitor_79 th0 (fun b10 tb10 => ?_)
      refine r_getr C fl_X8_125 dX8_suitor_82 tb10 (fun b11 tb11 => ?_)
      refine r_iload_n C 1 dX8_suitor_85 rfl ?_
      refine r_iald C dX8_suitor_86 tb11 ?_
      exact r_ireturn C X dX8_suitor_87
    refine r_ite (fun hs4 => ?_) (fun hs4 => ?_)
    · refine r_swIn C 4 88 dX8_suitor_15 (by rw [hs4]; rfl) (by decide) (by decide) rfl (by decide) ?_
      refine r_aload_n C 0 dX8_suitor_88 rfl ?_
      refine r_getr C fl_X8_27 dX8_suitor_89 th0 (fun b12 tb12 => ?_)
      refine r_aload_n C 0 dX8_suitor_92 rfl ?_
      refine r_getr C fl_X8_27 dX8_suitor_93 th0 (fun b13 tb13 => ?_)
      refine r_getr C fl_X8_125 dX8_suitor_96 tb13 (fun b14 tb14 => ?_)
      refine r_iload_n C 1 dX8_suitor_99 rfl ?_
      refine r_callV (As := [.ref b14, .int x1]) (rest := []) C (c_X3_isRefused _ E n b12 b14 x1 tb12 tb14) dX8_suitor_100 ml_X8_153 mv_X3_isRefused ⟨TX3, _, rfl⟩ (by decide) tb12 rfl rfl ⟨by decide, by decide⟩ (Nat.le_of_ble_eq_true rfl) (fun v16 S15 hv16 => ?_)
      refine r_if_eq C 110 dX8_suitor_103 (by decide) ?_ ?_
      · refine r_iconst C (0 : Int32) dX8_suitor_110 (by decide) ?_
        exact r_ireturn C X dX8_suitor_111
      · refine r_iconst C (1 : Int32) dX8_suitor_106 (by decide) ?_
        refine r_goto C 111 dX8_suitor_107 (by decide) ?_
        exact r_ireturn C X dX8_suitor_111
    refine r_swOut C 112 dX8_suitor_15 (by have z0 := lv_neT hs0 (a := 0) rfl; have z1 := lv_neT hs1 (a := 1) rfl; have z2 := lv_neT hs2 (a := 2) rfl; have z3 := lv_neT hs3 (a := 3) rfl; have z4 := lv_neT hs4 (a := 4) rfl;  omega) (by decide) ?_
    refine r_bipush C (-2 : Int32) dX8_suitor_112 (by decide) ?_
    exact r_ireturn C X dX8_suitor_114
  · refine r_bipush C (-2 : Int32) dX8_suitor_11 (by decide) ?_
    exact r_ireturn C X dX8_suitor_13
set_option maxRecDepth 100000 in
set_option maxHeartbeats 4000000 in
theorem p_X8_hearts_L17 {A : AM} {E : EN} {n : Nat} (C : Cx A E cX8_hearts 3 RX8 2 46) (X : Ex A E (some .int))  : ∀ (m : Nat) (S : WS) (h0 : Nat) (x1 : Int32) (x2 : Int32) (th0 : Ty E h0 7), Gd A E 3 (QM A E wI tT) (f_X8_hearts_L17 E n  m S h0 x1 x2) S 17 [(0, .ref h0), (1, .int x1), (2, .int x2)] [] := by
  intro m
  induction m with
  | zero => intros; exact gn
  | succ m ih =>
    intro S h0 x1 x2 th0
    unfold f_X8_hearts_L17
    refine r_iload_n C 2 dX8_hearts_17 rfl ?_
    refine r_aload_n C 0 dX8_hearts_18 rfl ?_
    refine r_getr C fl_X8_27 dX8_hearts_19 th0 (fun b1 tb1 => ?_)
    refine r_geti C fl_X8_161 dX8_hearts_22 tb1 ?_
    refine r_icmp_ge C 55 dX8_hearts_25 (by decide) ?_ ?_
    · refine r_iload_n C 1 dX8_hearts_55 rfl ?_
      exact r_ireturn C X dX8_hearts_56
    · refine r_aload_n C 0 dX8_hearts_28 rfl ?_
      refine r_getr C fl_X8_27 dX8_hearts_29 th0 (fun b2 tb2 => ?_)
      refine r_aload_n C 0 dX8_hearts_32 rfl ?_
      refine r_getr C fl_X8_27 dX8_hearts_33 th0 (fun b3 tb3 => ?_)
      refine r_getr C fl_X8_125 dX8_hearts_36 tb3 (fun b4 tb4 => ?_)
      refine r_iload_n C 2 dX8_hearts_39 rfl ?_
      refine r_callV (As := [.ref b4, .int x2]) (rest := []) C (c_X3_isRefused _ E n b2 b4 x2 tb2 tb4) dX8_hearts_40 ml_X8_153 mv_X3_isRefused ⟨TX3, _, rfl⟩ (by decide) tb2 rfl rfl ⟨by decide, by decide⟩ (Nat.le_of_ble_eq_true rfl) (fun v6 S5 hv6 => ?_)
      refine r_if_eq C 49 dX8_hearts_43 (by decide) ?_ ?_
      · refine r_iinc C 2 (fun y7 => [(2, .int y7), (0, .ref h0), (1, .int x1)]) dX8_hearts_49 rfl (v := (1 : Int32)) (by decide) (by decide) (fun _ => rfl) (fun y7 => ?_)
        refine r_goto C 17 dX8_hearts_52 (by decide) ?_
        refine r_sub [1, 2, 0] [(0, .ref h0), (1, .int x1), (2, .int y7)] rfl ?_
        exact ih S5 h0 x1 y7 th0
      · refine r_iinc C 1 (fun y8 => [(1, .int y8), (0, .ref h0), (2, .int x2)]) dX8_hearts_46 rfl (v := (1 : Int32)) (by decide) (by decide) (fun _ => rfl) (fun y8 => ?_)
        refine r_iinc C 2 (fun y9 => [(2, .int y9), (1, .int y8), (0, .ref h0)]) dX8_hearts_49 rfl (v := (1 : Int32)) (by decide) (by decide) (fun _ => rfl) (fun y9 => ?_)
        refine r_goto C 17 dX8_hearts_52 (by decide) ?_
        refine r_sub [2, 1, 0] [(0, .ref h0), (1, .int y8), (2, .int y9)] rfl ?_
        exact ih S5 h0 y8 y9 th0
set_option maxRecDepth 100000 in
set_option maxHeartbeats 4000000 in
theorem c_X8_hearts (l : Launch) (E : EN) (n : Nat) (h0 : Nat) (th0 : Ty E h0 7) : CT l E yX8_hearts cX8_hearts 3 (some .int) 2 46 wI tT [.ref h0] (fun S => f_X8_hearts E n S h0) := by
  refine ct_of RX8 (by decide +kernel) rfl [(0, .ref h0)] rfl (Nat.le_of_ble_eq_true rfl) (fun A S hA C X => ?_)
  subst hA
  show Gd A E 3 (QM A E wI tT) (f_X8_hearts E n S h0) S 0 [(0, .ref h0)] []
  unfold f_X8_hearts
  refine r_aload_n C 0 dX8_hearts_0 rfl ?_
  refine r_getr C fl_X8_27 dX8_hearts_1 th0 (fun b1 tb1 => ?_)
  refine r_callV (As := []) (rest := []) C (c_X3_isTold _ E n b1 tb1) dX8_hearts_4 ml_X8_157 mv_X3_isTold ⟨TX3, _, rfl⟩ (by decide) tb1 rfl rfl ⟨by decide, by decide⟩ (Nat.le_of_ble_eq_true rfl) (fun v3 S2 hv3 => ?_)
  refine r_if_ne C 13 dX8_hearts_7 (by decide) ?_ ?_
  · refine r_iconst C (0 : Int32) dX8_hearts_13 (by decide) ?_
    refine r_istore_n C [(1, .int (0 : Int32)), (0, .ref h0)] dX8_hearts_14 (by decide) rfl ?_
    refine r_iconst C (0 : Int32) dX8_hearts_15 (by decide) ?_
    refine r_istore_n C [(2, .int (0 : Int32)), (1, .int (0 : Int32)), (0, .ref h0)] dX8_hearts_16 (by decide) rfl ?_
    refine r_sub [2, 1, 0] [(0, .ref h0), (1, .int (0 : Int32)), (2, .int (0 : Int32))] rfl ?_
    exact p_X8_hearts_L17 C X  n S2 h0 (0 : Int32) (0 : Int32) th0
  · refine r_bipush C (-2 : Int32) dX8_hearts_10 (by decide) ?_
    exact r_ireturn C X dX8_hearts_12
set_option maxRecDepth 100000 in
set_option maxHeartbeats 4000000 in
theorem c_X8_knowsPath (l : Launch) (E : EN) (n : Nat) (h0 : Nat) (x1 : Int32) (x2 : Int32) (th0 : Ty E h0 7) : CT l E yX8_knowsPath cX8_knowsPath 3 (some .boolean) 1 21 wI tT [.ref h0, .int x1, .int x2] (fun S => f_X8_knowsPath E n S h0 x1 x2) := by
  refine ct_of RX8 (by decide +kernel) rfl [(0, .ref h0), (1, .int x1), (2, .int x2)] rfl (Nat.le_of_ble_eq_true rfl) (fun A S hA C X => ?_)
  subst hA
  show Gd A E 3 (QM A E wI tT) (f_X8_knowsPath E n S h0 x1 x2) S 0 [(0, .ref h0), (1, .int x1), (2, .int x2)] []
  unfold f_X8_knowsPath
  refine r_aload_n C 0 dX8_knowsPath_0 rfl ?_
  refine r_getr C fl_X8_27 dX8_knowsPath_1 th0 (fun b1 tb1 => ?_)
  refine r_iload_n C 1 dX8_knowsPath_4 rfl ?_
  refine r_callV (As := [.int x1]) (rest := []) C (c_X3_hasPath _ E n b1 x1 tb1) dX8_knowsPath_5 ml_X8_104 mv_X3_hasPath ⟨TX3, _, rfl⟩ (by decide) tb1 rfl rfl ⟨by decide, by decide⟩ (Nat.le_of_ble_eq_true rfl) (fun v3 S2 hv3 => ?_)
  refine r_if_eq C 26 dX8_knowsPath_8 (by decide) ?_ ?_
  · refine r_iconst C (0 : Int32) dX8_knowsPath_26 (by decide) ?_
    exact r_zreturn C X rfl dX8_knowsPath_27
  · refine r_aload_n C 0 dX8_knowsPath_11 rfl ?_
    refine r_getr C fl_X8_27 dX8_knowsPath_12 th0 (fun b4 tb4 => ?_)
    refine r_iload_n C 2 dX8_knowsPath_15 rfl ?_
    refine r_callV (As := [.int x2]) (rest := []) C (c_X3_hasYear _ E n b4 x2 tb4) dX8_knowsPath_16 ml_X8_164 mv_X3_hasYear ⟨TX3, _, rfl⟩ (by decide) tb4 rfl rfl ⟨by decide, by decide⟩ (Nat.le_of_ble_eq_true rfl) (fun v6 S5 hv6 => ?_)
    refine r_if_eq C 26 dX8_knowsPath_19 (by decide) ?_ ?_
    · refine r_iconst C (0 : Int32) dX8_knowsPath_26 (by decide) ?_
      exact r_zreturn C X rfl dX8_knowsPath_27
    · refine r_iconst C (1 : Int32) dX8_knowsPath_22 (by decide) ?_
      refine r_goto C 27 dX8_knowsPath_23 (by decide) ?_
      exact r_zreturn C X rfl dX8_knowsPath_27
set_option maxRecDepth 100000 in
set_option maxHeartbeats 4000000 in
theorem c_X8_steps (l : Launch) (E : EN) (n : Nat) (h0 : Nat) (x1 : Int32) (x2 : Int32) (th0 : Ty E h0 7) : CT l E yX8_steps cX8_steps 3 (some .int) 3 72 wI tT [.ref h0, .int x1, .int x2] (fun S => f_X8_steps E n S h0 x1 x2) := by
  refine ct_of RX8 (by decide +kernel) rfl [(0, .ref h0), (1, .int x1), (2, .int x2)] rfl (Nat.le_of_ble_eq_true rfl) (fun A S hA C X => ?_)
  subst hA
  show Gd A E 3 (QM A E wI tT) (f_X8_steps E n S h0 x1 x2) S 0 [(0, .ref h0), (1, .int x1), (2, .int x2)] []
  unfold f_X8_steps
  refine r_aload_n C 0 dX8_steps_0 rfl ?_
  refine r_iload_n C 1 dX8_steps_1 rfl ?_
  refine r_iload_n C 2 dX8_steps_2 rfl ?_
  refine r_callV (As := [.int x1, .int x2]) (rest := []) C (c_X8_knowsPath _ E n h0 x1 x2 th0) dX8_steps_3 ml_X8_167 mv_X8_knowsPath ⟨TX8, _, rfl⟩ (by decide) th0 rfl rfl ⟨by decide, by decide⟩ (Nat.le_of_ble_eq_true rfl) (fun v2 S1 hv2 => ?_)
  refine r_if_eq C 22 dX8_steps_6 (by decide) ?_ ?_
  · refine r_bipush C (-2 : Int32) dX8_steps_22 (by decide) ?_
    exact r_ireturn C X dX8_steps_24
  · refine r_aload_n C 0 dX8_steps_9 rfl ?_
    refine r_getr C fl_X8_27 dX8_steps_10 th0 (fun b3 tb3 => ?_)
    refine r_iload_n C 1 dX8_steps_13 rfl ?_
    refine r_iload_n C 2 dX8_steps_14 rfl ?_
    refine r_iconst C (-1 : Int32) dX8_steps_15 (by decide) ?_
    refine r_callV (As := [.int x1, .int x2, .int (-1 : Int32)]) (rest := []) C (c_X3_stepsOn _ E n b3 x1 x2 (-1 : Int32) tb3) dX8_steps_16 ml_X8_170 mv_X3_stepsOn ⟨TX3, _, rfl⟩ (by decide) tb3 rfl rfl ⟨by decide, by decide⟩ (Nat.le_of_ble_eq_true rfl) (fun v5 S4 hv5 => ?_)
    refine r_goto C 24 dX8_steps_19 (by decide) ?_
    exact r_ireturn C X dX8_steps_24
set_option maxRecDepth 100000 in
set_option maxHeartbeats 4000000 in
theorem p_X8_whose_L18 {A : AM} {E : EN} {n : Nat} (C : Cx A E cX8_whose 6 RX8 2 47) (X : Ex A E (some .int))  : ∀ (m : Nat) (S : WS) (h0 : Nat) (x1 : Int32) (x2 : Int32) (x3 : Int32) (x4 : Int32) (x5 : Int32) (th0 : Ty E h0 7), Gd A E 6 (QM A E wI tT) (f_X8_whose_L18 E n  m S h0 x1 x2 x3 x4 x5) S 18 [(0, .ref h0), (1, .int x1), (2, .int x2), (3, .int x3), (4, .int x4), (5, .int x5)] [] := by
  intro m
  induction m with
  | zero => intros; exact gn
  | succ m ih =>
    intro S h0 x1 x2 x3 x4 x5 th0
    unfold f_X8_whose_L18
    refine r_iload C 5 dX8_whose_18 rfl ?_
    refine r_aload_n C 0 dX8_whose_20 rfl ?_
    refine r_getr C fl_X8_27 dX8_whose_21 th0 (fun b1 tb1 => ?_)
    refine r_geti C fl_X8_161 dX8_whose_24 tb1 ?_
    refine r_icmp_ge C 62 dX8_whose_27 (by decide) ?_ ?_
    · refine r_iconst C (-1 : Int32) dX8_whose_62 (by decide) ?_
      exact r_ireturn C X dX8_whose_63
    · refine r_aload_n C 0 dX8_whose_30 rfl ?_
      refine r_getr C fl_X8_27 dX8_whose_31 th0 (fun b2 tb2 => ?_)
      refine r_iload C 5 dX8_whose_34 rfl ?_
      refine r_iload_n C 1 dX8_whose_36 rfl ?_
      refine r_iload_n C 2 dX8_whose_37 rfl ?_
      refine r_callV (As := [.int x5, .int x1, .int x2]) (rest := []) C (c_X3_hasStep _ E n b2 x5 x1 x2 tb2) dX8_whose_38 ml_X8_174 mv_X3_hasStep ⟨TX3, _, rfl⟩ (by decide) tb2 rfl rfl ⟨by decide, by decide⟩ (Nat.le_of_ble_eq_true rfl) (fun v4 S3 hv4 => ?_)
      refine r_if_eq C 56 dX8_whose_41 (by decide) ?_ ?_
      · refine r_iinc C 5 (fun y5 => [(5, .int y5), (0, .ref h0), (1, .int x1), (2, .int x2), (3, .int x3), (4, .int x4)]) dX8_whose_56 rfl (v := (1 : Int32)) (by decide) (by decide) (fun _ => rfl) (fun y5 => ?_)
        refine r_goto C 18 dX8_whose_59 (by decide) ?_
        refine r_sub [1, 2, 3, 4, 5, 0] [(0, .ref h0), (1, .int x1), (2, .int x2), (3, .int x3), (4, .int x4), (5, .int y5)] rfl ?_
        exact ih S3 h0 x1 x2 x3 x4 y5 th0
      · refine r_iload C 4 dX8_whose_44 rfl ?_
        refine r_iload_n C 3 dX8_whose_46 rfl ?_
        refine r_icmp_ne C 53 dX8_whose_47 (by decide) ?_ ?_
        · refine r_iinc C 4 (fun y6 => [(4, .int y6), (0, .ref h0), (1, .int x1), (2, .int x2), (3, .int x3), (5, .int x5)]) dX8_whose_53 rfl (v := (1 : Int32)) (by decide) (by decide) (fun _ => rfl) (fun y6 => ?_)
          refine r_iinc C 5 (fun y7 => [(5, .int y7), (4, .int y6), (0, .ref h0), (1, .int x1), (2, .int x2), (3, .int x3)]) dX8_whose_56 rfl (v := (1 : Int32)) (by decide) (by decide) (fun _ => rfl) (fun y7 => ?_)
          refine r_goto C 18 dX8_whose_59 (by decide) ?_
          refine r_sub [2, 3, 4, 5, 1, 0] [(0, .ref h0), (1, .int x1), (2, .int x2), (3, .int x3), (4, .int y6), (5, .int y7)] rfl ?_
          exact ih S3 h0 x1 x2 x3 y6 y7 th0
        · refine r_iload C 5 dX8_whose_50 rfl ?_
          exact r_ireturn C X dX8_whose_52
set_option maxRecDepth 100000 in
set_option maxHeartbeats 4000000 in
theorem c_X8_whose (l : Launch) (E : EN) (n : Nat) (h0 : Nat) (x1 : Int32) (x2 : Int32) (x3 : Int32) (th0 : Ty E h0 7) : CT l E yX8_whose cX8_whose 6 (some .int) 2 47 wI tT [.ref h0, .int x1, .int x2, .int x3] (fun S => f_X8_whose E n S h0 x1 x2 x3) := by
  refine ct_of RX8 (by decide +kernel) rfl [(0, .ref h0), (1, .int x1), (2, .int x2), (3, .int x3)] rfl (Nat.le_of_ble_eq_true rfl) (fun A S hA C X => ?_)
  subst hA
  show Gd A E 6 (QM A E wI tT) (f_X8_whose E n S h0 x1 x2 x3) S 0 [(0, .ref h0), (1, .int x1), (2, .int x2), (3, .int x3)] []
  unfold f_X8_whose
  refine r_aload_n C 0 dX8_whose_0 rfl ?_
  refine r_iload_n C 1 dX8_whose_1 rfl ?_
  refine r_iload_n C 2 dX8_whose_2 rfl ?_
  refine r_callV (As := [.int x1, .int x2]) (rest := []) C (c_X8_knowsPath _ E n h0 x1 x2 th0) dX8_whose_3 ml_X8_167 mv_X8_knowsPath ⟨TX8, _, rfl⟩ (by decide) th0 rfl rfl ⟨by decide, by decide⟩ (Nat.le_of_ble_eq_true rfl) (fun v2 S1 hv2 => ?_)
  refine r_if_ne C 12 dX8_whose_6 (by decide) ?_ ?_
  · refine r_iconst C (0 : Int32) dX8_whose_12 (by decide) ?_
    refine r_istore C [(4, .int (0 : Int32)), (0, .ref h0), (1, .int x1), (2, .int x2), (3, .int x3)] dX8_whose_13 (by decide) rfl ?_
    refine r_iconst C (0 : Int32) dX8_whose_15 (by decide) ?_
    refine r_istore C [(5, .int (0 : Int32)), (4, .int (0 : Int32)), (0, .ref h0), (1, .int x1), (2, .int x2), (3, .int x3)] dX8_whose_16 (by decide) rfl ?_
    refine r_sub [2, 3, 4, 5, 1, 0] [(0, .ref h0), (1, .int x1), (2, .int x2), (3, .int x3), (4, .int (0 : Int32)), (5, .int (0 : Int32))] rfl ?_
    exact p_X8_whose_L18 C X  n S1 h0 x1 x2 x3 (0 : Int32) (0 : Int32) th0
  · refine r_bipush C (-2 : Int32) dX8_whose_9 (by decide) ?_
    exact r_ireturn C X dX8_whose_11
set_option maxRecDepth 100000 in
set_option maxHeartbeats 4000000 in
theorem p_X8_rots_L24 {A : AM} {E : EN} {n : Nat} (C : Cx A E cX8_rots 3 RX8 3 72) (X : Ex A E (some .int))  : ∀ (m : Nat) (S : WS) (h0 : Nat) (x1 : Int32) (x2 : Int32) (th0 : Ty E h0 7), Gd A E 3 (QM A E wI tT) (f_X8_rots_L24 E n  m S h0 x1 x2) S 24 [(0, .ref h0), (1, .int x1), (2, .int x2)] [] := by
  intro m
  induction m with
  | zero => intros; exact gn
  | succ m ih =>
    intro S h0 x1 x2 th0
    unfold f_X8_rots_L24
    refine r_iload_n C 2 dX8_rots_24 rfl ?_
    refine r_if_lt C 68 dX8_rots_25 (by decide) ?_ ?_
    · refine r_iconst C (-1 : Int32) dX8_rots_68 (by decide) ?_
      exact r_ireturn C X dX8_rots_69
    · refine r_aload_n C 0 dX8_rots_28 rfl ?_
      refine r_getr C fl_X8_27 dX8_rots_29 th0 (fun b1 tb1 => ?_)
      refine r_iload_n C 1 dX8_rots_32 rfl ?_
      refine r_iload_n C 2 dX8_rots_33 rfl ?_
      refine r_iconst C (-1 : Int32) dX8_rots_34 (by decide) ?_
      refine r_callV (As := [.int x1, .int x2, .int (-1 : Int32)]) (rest := []) C (c_X3_stepsOn _ E n b1 x1 x2 (-1 : Int32) tb1) dX8_rots_35 ml_X8_170 mv_X3_stepsOn ⟨TX3, _, rfl⟩ (by decide) tb1 rfl rfl ⟨by decide, by decide⟩ (Nat.le_of_ble_eq_true rfl) (fun v3 S2 hv3 => ?_)
      refine r_if_le C 62 dX8_rots_38 (by decide) ?_ ?_
      · refine r_iinc C 2 (fun y4 => [(2, .int y4), (0, .ref h0), (1, .int x1)]) dX8_rots_62 rfl (v := (-1 : Int32)) (by decide) (by decide) (fun _ => rfl) (fun y4 => ?_)
        refine r_goto C 24 dX8_rots_65 (by decide) ?_
        refine r_sub [1, 2, 0] [(0, .ref h0), (1, .int x1), (2, .int y4)] rfl ?_
        exact ih S2 h0 x1 y4 th0
      · refine r_iload_n C 2 dX8_rots_41 rfl ?_
        refine r_aload_n C 0 dX8_rots_42 rfl ?_
        refine r_getr C fl_X8_27 dX8_rots_43 th0 (fun b5 tb5 => ?_)
        refine r_geti C fl_X8_182 dX8_rots_46 tb5 ?_
        refine r_iconst C (1 : Int32) dX8_rots_49 (by decide) ?_
        refine r_isub C dX8_rots_50 ?_
        refine r_icmp_ne C 58 dX8_rots_51 (by decide) ?_ ?_
        · refine r_iload_n C 2 dX8_rots_58 rfl ?_
          refine r_iconst C (1 : Int32) dX8_rots_59 (by decide) ?_
          refine r_iadd C dX8_rots_60 ?_
          exact r_ireturn C X dX8_rots_61
        · refine r_iconst C (-1 : Int32) dX8_rots_54 (by decide) ?_
          refine r_goto C 61 dX8_rots_55 (by decide) ?_
          exact r_ireturn C X dX8_rots_61
set_option maxRecDepth 100000 in
set_option maxHeartbeats 4000000 in
theorem c_X8_rots (l : Launch) (E : EN) (n : Nat) (h0 : Nat) (x1 : Int32) (th0 : Ty E h0 7) : CT l E yX8_rots cX8_rots 3 (some .int) 3 72 wI tT [.ref h0, .int x1] (fun S => f_X8_rots E n S h0 x1) := by
  refine ct_of RX8 (by decide +kernel) rfl [(0, .ref h0), (1, .int x1)] rfl (Nat.le_of_ble_eq_true rfl) (fun A S hA C X => ?_)
  subst hA
  show Gd A E 3 (QM A E wI tT) (f_X8_rots E n S h0 x1) S 0 [(0, .ref h0), (1, .int x1)] []
  unfold f_X8_rots
  refine r_aload_n C 0 dX8_rots_0 rfl ?_
  refine r_getr C fl_X8_27 dX8_rots_1 th0 (fun b1 tb1 => ?_)
  refine r_iload_n C 1 dX8_rots_4 rfl ?_
  refine r_callV (As := [.int x1]) (rest := []) C (c_X3_hasPath _ E n b1 x1 tb1) dX8_rots_5 ml_X8_104 mv_X3_hasPath ⟨TX3, _, rfl⟩ (by decide) tb1 rfl rfl ⟨by decide, by decide⟩ (Nat.le_of_ble_eq_true rfl) (fun v3 S2 hv3 => ?_)
  refine r_if_ne C 14 dX8_rots_8 (by decide) ?_ ?_
  · refine r_aload_n C 0 dX8_rots_14 rfl ?_
    refine r_getr C fl_X8_27 dX8_rots_15 th0 (fun b4 tb4 => ?_)
    refine r_geti C fl_X8_182 dX8_rots_18 tb4 ?_
    refine r_iconst C (1 : Int32) dX8_rots_21 (by decide) ?_
    refine r_isub C dX8_rots_22 ?_
    refine r_topi (fun y5 => ?_)
    refine r_istore_n C [(2, .int y5), (0, .ref h0), (1, .int x1)] dX8_rots_23 (by decide) rfl ?_
    refine r_sub [1, 2, 0] [(0, .ref h0), (1, .int x1), (2, .int y5)] rfl ?_
    exact p_X8_rots_L24 C X  n S2 h0 x1 y5 th0
  · refine r_bipush C (-2 : Int32) dX8_rots_11 (by decide) ?_
    exact r_ireturn C X dX8_rots_13
set_option maxRecDepth 100000 in
set_option maxHeartbeats 4000000 in
theorem p_X8_couldStep_L3 {A : AM} {E : EN} {n : Nat} (C : Cx A E cX8_couldStep 5 RX8 2 43) (X : Ex A E (some .boolean))  : ∀ (m : Nat) (S : WS) (h0 : Nat) (x1 : Int32) (x2 : Int32) (x3 : Int32) (x4 : Int32) (th0 : Ty E h0 7), Gd A E 5 (QM A E wI tT) (f_X8_couldStep_L3 E n  m S h0 x1 x2 x3 x4) S 3 [(0, .ref h0), (1, .int x1), (2, .int x2), (3, .int x3), (4, .int x4)] [] := by
  intro m
  induction m with
  | zero => intros; exact gn
  | succ m ih =>
    intro S h0 x1 x2 x3 x4 th0
    unfold f_X8_couldStep_L3
    refine r_iload C 4 dX8_couldStep_3 rfl ?_
    refine r_aload_n C 0 dX8_couldStep_5 rfl ?_
    refine r_getr C fl_X8_27 dX8_couldStep_6 th0 (fun b1 tb1 => ?_)
    refine r_geti C fl_X8_203 dX8_couldStep_9 tb1 ?_
    refine r_icmp_ge C 51 dX8_couldStep_12 (by decide) ?_ ?_
    · refine r_iconst C (0 : Int32) dX8_couldStep_51 (by decide) ?_
      exact r_zreturn C X rfl dX8_couldStep_52
    · refine r_aload_n C 0 dX8_couldStep_15 rfl ?_
      refine r_getr C fl_X8_27 dX8_couldStep_16 th0 (fun b2 tb2 => ?_)
      refine r_iload_n C 1 dX8_couldStep_19 rfl ?_
      refine r_iload C 4 dX8_couldStep_20 rfl ?_
      refine r_callV (As := [.int x1, .int x4]) (rest := []) C (c_X3_isFor _ E n b2 x1 x4 tb2) dX8_couldStep_22 ml_X8_121 mv_X3_isFor ⟨TX3, _, rfl⟩ (by decide) tb2 rfl rfl ⟨by decide, by decide⟩ (Nat.le_of_ble_eq_true rfl) (fun v4 S3 hv4 => ?_)
      refine r_if_eq C 45 dX8_couldStep_25 (by decide) ?_ ?_
      · refine r_iinc C 4 (fun y5 => [(4, .int y5), (0, .ref h0), (1, .int x1), (2, .int x2), (3, .int x3)]) dX8_couldStep_45 rfl (v := (1 : Int32)) (by decide) (by decide) (fun _ => rfl) (fun y5 => ?_)
        refine r_goto C 3 dX8_couldStep_48 (by decide) ?_
        refine r_sub [1, 2, 3, 4, 0] [(0, .ref h0), (1, .int x1), (2, .int x2), (3, .int x3), (4, .int y5)] rfl ?_
        exact ih S3 h0 x1 x2 x3 y5 th0
      · refine r_aload_n C 0 dX8_couldStep_28 rfl ?_
        refine r_getr C fl_X8_27 dX8_couldStep_29 th0 (fun b6 tb6 => ?_)
        refine r_iload_n C 1 dX8_couldStep_32 rfl ?_
        refine r_iload C 4 dX8_couldStep_33 rfl ?_
        refine r_iload_n C 2 dX8_couldStep_35 rfl ?_
        refine r_iload_n C 3 dX8_couldStep_36 rfl ?_
        refine r_callV (As := [.int x1, .int x4, .int x2, .int x3]) (rest := []) C (c_X3_wouldStep _ E n b6 x1 x4 x2 x3 tb6) dX8_couldStep_37 ml_X8_206 mv_X3_wouldStep ⟨TX3, _, rfl⟩ (by decide) tb6 rfl rfl ⟨by decide, by decide⟩ (Nat.le_of_ble_eq_true rfl) (fun v8 S7 hv8 => ?_)
        refine r_if_eq C 45 dX8_couldStep_40 (by decide) ?_ ?_
        · refine r_iinc C 4 (fun y9 => [(4, .int y9), (0, .ref h0), (1, .int x1), (2, .int x2), (3, .int x3)]) dX8_couldStep_45 rfl (v := (1 : Int32)) (by decide) (by decide) (fun _ => rfl) (fun y9 => ?_)
          refine r_goto C 3 dX8_couldStep_48 (by decide) ?_
          refine r_sub [1, 2, 3, 4, 0] [(0, .ref h0), (1, .int x1), (2, .int x2), (3, .int x3), (4, .int y9)] rfl ?_
          exact ih S7 h0 x1 x2 x3 y9 th0
        · refine r_iconst C (1 : Int32) dX8_couldStep_43 (by decide) ?_
          exact r_zreturn C X rfl dX8_couldStep_44
set_option maxRecDepth 100000 in
set_option maxHeartbeats 4000000 in
theorem c_X8_couldStep (l : Launch) (E : EN) (n : Nat) (h0 : Nat) (x1 : Int32) (x2 : Int32) (x3 : Int32) (th0 : Ty E h0 7) : CT l E yX8_couldStep cX8_couldStep 5 (some .boolean) 2 43 wI tT [.ref h0, .int x1, .int x2, .int x3] (fun S => f_X8_couldStep E n S h0 x1 x2 x3) := by
  refine ct_of RX8 (by decide +kernel) rfl [(0, .ref h0), (1, .int x1), (2, .int x2), (3, .int x3)] rfl (Nat.le_of_ble_eq_true rfl) (fun A S hA C X => ?_)
  subst hA
  show Gd A E 5 (QM A E wI tT) (f_X8_couldStep E n S h0 x1 x2 x3) S 0 [(0, .ref h0), (1, .int x1), (2, .int x2), (3, .int x3)] []
  unfold f_X8_couldStep
  refine r_iconst C (0 : Int32) dX8_couldStep_0 (by decide) ?_
  refine r_istore C [(4, .int (0 : Int32)), (0, .ref h0), (1, .int x1), (2, .int x2), (3, .int x3)] dX8_couldStep_1 (by decide) rfl ?_
  refine r_sub [1, 2, 3, 4, 0] [(0, .ref h0), (1, .int x1), (2, .int x2), (3, .int x3), (4, .int (0 : Int32))] rfl ?_
  exact p_X8_couldStep_L3 C X  n S h0 x1 x2 x3 (0 : Int32) th0
set_option maxRecDepth 100000 in
set_option maxHeartbeats 4000000 in
theorem p_X8_worst_L20 {A : AM} {E : EN} {n : Nat} (C : Cx A E cX8_worst 6 RX8 3 69) (X : Ex A E (some .int))  : ∀ (m : Nat) (S : WS) (h0 : Nat) (x1 : Int32) (x2 : Int32) (x3 : Int32) (x4 : Int32) (x5 : Int32) (th0 : Ty E h0 7), Gd A E 6 (QM A E wI tT) (f_X8_worst_L20 E n  m S h0 x1 x2 x3 x4 x5) S 20 [(0, .ref h0), (1, .int x1), (2, .int x2), (3, .int x3), (4, .int x4), (5, .int x5)] [] := by
  intro m
  induction m with
  | zero => intros; exact gn
  | succ m ih =>
    intro S h0 x1 x2 x3 x4 x5 th0
    unfold f_X8_worst_L20
    refine r_iload C 5 dX8_worst_20 rfl ?_
    refine r_aload_n C 0 dX8_worst_22 rfl ?_
    refine r_getr C fl_X8_27 dX8_worst_23 th0 (fun b1 tb1 => ?_)
    refine r_geti C fl_X8_161 dX8_worst_26 tb1 ?_
    refine r_icmp_ge C 82 dX8_worst_29 (by decide) ?_ ?_
    · refine r_iload_n C 3 dX8_worst_82 rfl ?_
      exact r_ireturn C X dX8_worst_83
    · refine r_aload_n C 0 dX8_worst_32 rfl ?_
      refine r_getr C fl_X8_27 dX8_worst_33 th0 (fun b2 tb2 => ?_)
      refine r_iload C 5 dX8_worst_36 rfl ?_
      refine r_iload_n C 1 dX8_worst_38 rfl ?_
      refine r_iload_n C 2 dX8_worst_39 rfl ?_
      refine r_callV (As := [.int x5, .int x1, .int x2]) (rest := []) C (c_X3_hasStep _ E n b2 x5 x1 x2 tb2) dX8_worst_40 ml_X8_174 mv_X3_hasStep ⟨TX3, _, rfl⟩ (by decide) tb2 rfl rfl ⟨by decide, by decide⟩ (Nat.le_of_ble_eq_true rfl) (fun v4 S3 hv4 => ?_)
      refine r_if_eq C 76 dX8_worst_43 (by decide) ?_ ?_
      · refine r_iinc C 5 (fun y5 => [(5, .int y5), (0, .ref h0), (1, .int x1), (2, .int x2), (3, .int x3), (4, .int x4)]) dX8_worst_76 rfl (v := (1 : Int32)) (by decide) (by decide) (fun _ => rfl) (fun y5 => ?_)
        refine r_goto C 20 dX8_worst_79 (by decide) ?_
        refine r_sub [1, 2, 3, 4, 5, 0] [(0, .ref h0), (1, .int x1), (2, .int x2), (3, .int x3), (4, .int x4), (5, .int y5)] rfl ?_
        exact ih S3 h0 x1 x2 x3 x4 y5 th0
      · refine r_aload_n C 0 dX8_worst_46 rfl ?_
        refine r_getr C fl_X8_27 dX8_worst_47 th0 (fun b6 tb6 => ?_)
        refine r_iload C 5 dX8_worst_50 rfl ?_
        refine r_iload_n C 2 dX8_worst_52 rfl ?_
        refine r_callV (As := [.int x5, .int x2]) (rest := []) C (c_X3_fallOf _ E n b6 x5 x2 tb6) dX8_worst_53 ml_X8_210 mv_X3_fallOf ⟨TX3, _, rfl⟩ (by decide) tb6 rfl rfl ⟨by decide, by decide⟩ (Nat.le_of_ble_eq_true rfl) (fun v8 S7 hv8 => ?_)
        refine r_iload C 4 dX8_worst_56 rfl ?_
        refine r_icmp_le C 76 dX8_worst_58 (by decide) ?_ ?_
        · refine r_iinc C 5 (fun y9 => [(5, .int y9), (0, .ref h0), (1, .int x1), (2, .int x2), (3, .int x3), (4, .int x4)]) dX8_worst_76 rfl (v := (1 : Int32)) (by decide) (by decide) (fun _ => rfl) (fun y9 => ?_)
          refine r_goto C 20 dX8_worst_79 (by decide) ?_
          refine r_sub [1, 2, 3, 4, 5, 0] [(0, .ref h0), (1, .int x1), (2, .int x2), (3, .int x3), (4, .int x4), (5, .int y9)] rfl ?_
          exact ih S7 h0 x1 x2 x3 x4 y9 th0
        · refine r_iload C 5 dX8_worst_61 rfl ?_
          refine r_istore_n C [(3, .int x5), (0, .ref h0), (1, .int x1), (2, .int x2), (4, .int x4), (5, .int x5)] dX8_worst_63 (by decide) rfl ?_
          refine r_aload_n C 1 dX8_worst_64 rfl ?_
          refine r_getr C fl_X8_27 dX8_worst_65 th0 (fun b10 tb10 => ?_)
          refine r_iload C 5 dX8_worst_68 rfl ?_
          refine r_iload_n C 3 dX8_worst_70 rfl ?_
          refine r_callV (As := [.int x5, .int x2]) (rest := []) C (c_X3_fallOf _ E n b10 x5 x2 tb10) dX8_worst_71 ml_X8_210 mv_X3_fallOf ⟨TX3, _, rfl⟩ (by decide) tb10 rfl rfl ⟨by decide, by decide⟩ (Nat.le_of_ble_eq_true rfl) (fun v12 S11 hv12 => ?_)
          refine r_istore C [(4, .int v12), (3, .int x5), (0, .ref h0), (1, .int x1), (2, .int x2), (5, .int x5)] dX8_worst_74 (by decide) rfl ?_
          refine r_iinc C 5 (fun y13 => [(5, .int y13), (4, .int v12), (3, .int x5), (0, .ref h0), (1, .int x1), (2, .int x2)]) dX8_worst_76 rfl (v := (1 : Int32)) (by decide) (by decide) (fun _ => rfl) (fun y13 => ?_)
          refine r_goto C 20 dX8_worst_79 (by decide) ?_
          refine r_sub [3, 4, 5, 2, 1, 0] [(0, .ref h0), (1, .int x1), (2, .int x2), (3, .int x5), (4, .int v12), (5, .int y13)] rfl ?_
          exact ih S11 h0 x1 x2 x5 v12 y13 th0
set_option maxRecDepth 100000 in
set_option maxHeartbeats 4000000 in
theorem c_X8_worst (l : Launch) (E : EN) (n : Nat) (h0 : Nat) (x1 : Int32) (x2 : Int32) (th0 : Ty E h0 7) : CT l E yX8_worst cX8_worst 6 (some .int) 3 69 wI tT [.ref h0, .int x1, .int x2] (fun S => f_X8_worst E n S h0 x1 x2) := by
  refine ct_of RX8 (by decide +kernel) rfl [(0, .ref h0), (1, .int x1), (2, .int x2)] rfl (Nat.le_of_ble_eq_true rfl) (fun A S hA C X => ?_)
  subst hA
  show Gd A E 6 (QM A E wI tT) (f_X8_worst E n S h0 x1 x2) S 0 [(0, .ref h0), (1, .int x1), (2, .int x2)] []
  unfold f_X8_worst
  refine r_aload_n C 0 dX8_worst_0 rfl ?_
  refine r_iload_n C 1 dX8_worst_1 rfl ?_
  refine r_iload_n C 2 dX8_worst_2 rfl ?_
  refine r_callV (As := [.int x1, .int x2]) (rest := []) C (c_X8_knowsPath _ E n h0 x1 x2 th0) dX8_worst_3 ml_X8_167 mv_X8_knowsPath ⟨TX8, _, rfl⟩ (by decide) th0 rfl rfl ⟨by decide, by decide⟩ (Nat.le_of_ble_eq_true rfl) (fun v2 S1 hv2 => ?_)
  refine r_if_ne C 12 dX8_worst_6 (by decide) ?_ ?_
  · refine r_iconst C (-1 : Int32) dX8_worst_12 (by decide) ?_
    refine r_istore_n C [(3, .int (-1 : Int32)), (0, .ref h0), (1, .int x1), (2, .int x2)] dX8_worst_13 (by decide) rfl ?_
    refine r_iconst C (-1 : Int32) dX8_worst_14 (by decide) ?_
    refine r_istore C [(4, .int (-1 : Int32)), (3, .int (-1 : Int32)), (0, .ref h0), (1, .int x1), (2, .int x2)] dX8_worst_15 (by decide) rfl ?_
    refine r_iconst C (0 : Int32) dX8_worst_17 (by decide) ?_
    refine r_istore C [(5, .int (0 : Int32)), (4, .int (-1 : Int32)), (3, .int (-1 : Int32)), (0, .ref h0), (1, .int x1), (2, .int x2)] dX8_worst_18 (by decide) rfl ?_
    refine r_sub [3, 4, 5, 2, 1, 0] [(0, .ref h0), (1, .int x1), (2, .int x2), (3, .int (-1 : Int32)), (4, .int (-1 : Int32)), (5, .int (0 : Int32))] rfl ?_
    exact p_X8_worst_L20 C X  n S1 h0 x1 x2 (-1 : Int32) (-1 : Int32) (0 : Int32) th0
  · refine r_bipush C (-2 : Int32) dX8_worst_9 (by decide) ?_
    exact r_ireturn C X dX8_worst_11
set_option maxRecDepth 100000 in
set_option maxHeartbeats 4000000 in
theorem p_X8_dry_L23 {A : AM} {E : EN} {n : Nat} (C : Cx A E cX8_dry 8 RX8 4 96) (X : Ex A E (some .int))  : ∀ (m : Nat) (S : WS) (h0 : Nat) (x1 : Int32) (x2 : Int32) (x3 : Int64) (x5 : Int32) (th0 : Ty E h0 7), Gd A E 8 (QM A E wI tT) (f_X8_dry_L23 E n  m S h0 x1 x2 x3 x5) S 23 [(0, .ref h0), (1, .int x1), (2, .int x2), (3, .long x3), (5, .int x5)] [] := by
  intro m
  induction m with
  | zero => intros; exact gn
  | succ m ih =>
    intro S h0 x1 x2 x3 x5 th0
    unfold f_X8_dry_L23
    refine r_iload C 4 dX8_dry_23 rfl ?_
    refine r_aload_n C 0 dX8_dry_25 rfl ?_
    refine r_getr C fl_X8_27 dX8_dry_26 th0 (fun b1 tb1 => ?_)
    refine r_geti C fl_X8_182 dX8_dry_29 tb1 ?_
    refine r_icmp_ge C 69 dX8_dry_32 (by decide) ?_ ?_
    · refine r_iload_n C 2 dX8_dry_69 rfl ?_
      exact r_ireturn C X dX8_dry_70
    · refine r_aload_n C 0 dX8_dry_35 rfl ?_
      refine r_getr C fl_X8_27 dX8_dry_36 th0 (fun b2 tb2 => ?_)
      refine r_ldc2 C (100000000000000 : Int64) (mG 838 (by decide +kernel) rfl) dX8_dry_39 ?_
      refine r_iload_n C 1 dX8_dry_42 rfl ?_
      refine r_iload C 4 dX8_dry_43 rfl ?_
      refine r_callV (As := [.long (100000000000000 : Int64), .int x1, .int x5]) (rest := []) C (c_X3_safeAlong _ E n b2 (100000000000000 : Int64) x1 x5 tb2) dX8_dry_45 ml_X8_192 mv_X3_safeAlong ⟨TX3, _, rfl⟩ (by decide) tb2 rfl rfl ⟨by decide, by decide⟩ (Nat.le_of_ble_eq_true rfl) (fun v4 S3 hv4 => ?_)
      refine r_lstore C [(6, .long v4), (0, .ref h0), (1, .int x1), (2, .int x2), (3, .long x3), (5, .int x5)] dX8_dry_48 (by decide) rfl ?_
      refine r_lload C 0 dX8_dry_50 rfl ?_
      refine r_lload_n C 4 dX8_dry_52 rfl ?_
      refine r_lcmp C dX8_dry_53 ?_
      refine r_if_le C 63 dX8_dry_54 (by decide) ?_ ?_
      · refine r_iinc C 5 (fun y5 => [(5, .int y5), (6, .long v4), (0, .ref h0), (1, .int x1), (2, .int x2), (3, .long x3)]) dX8_dry_63 rfl (v := (1 : Int32)) (by decide) (by decide) (fun _ => rfl) (fun y5 => ?_)
        refine r_goto C 23 dX8_dry_66 (by decide) ?_
        refine r_sub [2, 3, 4, 5, 0] [(0, .ref h0), (1, .int x1), (2, .int x2), (3, .long x3), (5, .int y5)] rfl ?_
        exact ih S3 h0 x1 x2 x3 y5 th0
      · refine r_lload C 0 dX8_dry_57 rfl ?_
        refine r_lstore_n C [(3, .long v4), (6, .long v4), (0, .ref h0), (1, .int x1), (2, .int x2), (5, .int x5)] dX8_dry_59 (by decide) rfl ?_
        refine r_iload C 5 dX8_dry_60 rfl ?_
        refine r_istore_n C [(2, .int x5), (3, .long v4), (6, .long v4), (0, .ref h0), (1, .int x1), (5, .int x5)] dX8_dry_62 (by decide) rfl ?_
        refine r_iinc C 5 (fun y6 => [(5, .int y6), (2, .int x5), (3, .long v4), (6, .long v4), (0, .ref h0), (1, .int x1)]) dX8_dry_63 rfl (v := (1 : Int32)) (by decide) (by decide) (fun _ => rfl) (fun y6 => ?_)
        refine r_goto C 23 dX8_dry_66 (by decide) ?_
        refine r_sub [4, 5, 1, 2, 0] [(0, .ref h0), (1, .int x1), (2, .int x5), (3, .long v4), (5, .int y6)] rfl ?_
        exact ih S3 h0 x1 x5 v4 y6 th0
set_option maxRecDepth 100000 in
set_option maxHeartbeats 4000000 in
theorem c_X8_dry (l : Launch) (E : EN) (n : Nat) (h0 : Nat) (x1 : Int32) (th0 : Ty E h0 7) : CT l E yX8_dry cX8_dry 8 (some .int) 4 96 wI tT [.ref h0, .int x1] (fun S => f_X8_dry E n S h0 x1) := by
  refine ct_of RX8 (by decide +kernel) rfl [(0, .ref h0), (1, .int x1)] rfl (Nat.le_of_ble_eq_true rfl) (fun A S hA C X => ?_)
  subst hA
  show Gd A E 8 (QM A E wI tT) (f_X8_dry E n S h0 x1) S 0 [(0, .ref h0), (1, .int x1)] []
  unfold f_X8_dry
  refine r_aload_n C 0 dX8_dry_0 rfl ?_
  refine r_getr C fl_X8_27 dX8_dry_1 th0 (fun b1 tb1 => ?_)
  refine r_iload_n C 1 dX8_dry_4 rfl ?_
  refine r_callV (As := [.int x1]) (rest := []) C (c_X3_hasPath _ E n b1 x1 tb1) dX8_dry_5 ml_X8_104 mv_X3_hasPath ⟨TX3, _, rfl⟩ (by decide) tb1 rfl rfl ⟨by decide, by decide⟩ (Nat.le_of_ble_eq_true rfl) (fun v3 S2 hv3 => ?_)
  refine r_if_ne C 14 dX8_dry_8 (by decide) ?_ ?_
  · refine r_iconst C (0 : Int32) dX8_dry_14 (by decide) ?_
    refine r_istore_n C [(2, .int (0 : Int32)), (0, .ref h0), (1, .int x1)] dX8_dry_15 (by decide) rfl ?_
    refine r_ldc2 C (-1 : Int64) (mG 874 (by decide +kernel) rfl) dX8_dry_16 ?_
    refine r_lstore_n C [(3, .long (-1 : Int64)), (2, .int (0 : Int32)), (0, .ref h0), (1, .int x1)] dX8_dry_19 (by decide) rfl ?_
    refine r_iconst C (0 : Int32) dX8_dry_20 (by decide) ?_
    refine r_istore C [(5, .int (0 : Int32)), (3, .long (-1 : Int64)), (2, .int (0 : Int32)), (0, .ref h0), (1, .int x1)] dX8_dry_21 (by decide) rfl ?_
    refine r_sub [3, 4, 2, 1, 0] [(0, .ref h0), (1, .int x1), (2, .int (0 : Int32)), (3, .long (-1 : Int64)), (5, .int (0 : Int32))] rfl ?_
    exact p_X8_dry_L23 C X  n S2 h0 x1 (0 : Int32) (-1 : Int64) (0 : Int32) th0
  · refine r_bipush C (-2 : Int32) dX8_dry_11 (by decide) ?_
    exact r_ireturn C X dX8_dry_13
set_option maxRecDepth 100000 in
set_option maxHeartbeats 4000000 in
theorem p_X8_commonDivisor_L9 {A : AM} {E : EN} {n : Nat} (C : Cx A E cX8_commonDivisor 11 RX8 0 0) (X : Ex A E (some .long))  : ∀ (m : Nat) (S : WS) (x4 : Int64) (x6 : Int64) (x8 : Int32), Gd A E 11 (QM A E wJ tT) (f_X8_commonDivisor_L9 E n  m S x4 x6 x8) S 9 [(4, .long x4), (6, .long x6), (8, .int x8)] [] := by
  intro m
  induction m with
  | zero => intros; exact gn
  | succ m ih =>
    intro S x4 x6 x8
    unfold f_X8_commonDivisor_L9
    refine r_iload C 2 dX8_commonDivisor_9 rfl ?_
    refine r_sipush C (200 : Int32) dX8_commonDivisor_11 (by decide) ?_
    refine r_icmp_ge C 45 dX8_commonDivisor_14 (by decide) ?_ ?_
    · refine r_lload C 0 dX8_commonDivisor_45 rfl ?_
      exact r_lreturn C X dX8_commonDivisor_47
    · refine r_lload C 1 dX8_commonDivisor_17 rfl ?_
      refine r_lconst C (0 : Int64) dX8_commonDivisor_19 (by decide) ?_
      refine r_lcmp C dX8_commonDivisor_20 ?_
      refine r_if_eq C 45 dX8_commonDivisor_21 (by decide) ?_ ?_
      · refine r_lload C 0 dX8_commonDivisor_45 rfl ?_
        exact r_lreturn C X dX8_commonDivisor_47
      · refine r_lload C 0 dX8_commonDivisor_24 rfl ?_
        refine r_lload C 1 dX8_commonDivisor_26 rfl ?_
        refine r_lrem C dX8_commonDivisor_28 ?_
        refine r_topl (fun y1 => ?_)
        refine r_lstore C [(9, .long y1), (4, .long x4), (6, .long x6), (8, .int x8)] dX8_commonDivisor_29 (by decide) rfl ?_
        refine r_lload C 2 dX8_commonDivisor_31 rfl ?_
        refine r_lstore C [(4, .long x6), (9, .long y1), (6, .long x6), (8, .int x8)] dX8_commonDivisor_33 (by decide) rfl ?_
        refine r_lload C 1 dX8_commonDivisor_35 rfl ?_
        refine r_lstore C [(6, .long y1), (4, .long x6), (9, .long y1), (8, .int x8)] dX8_commonDivisor_37 (by decide) rfl ?_
        refine r_iinc C 3 (fun y2 => [(8, .int y2), (6, .long y1), (4, .long x6), (9, .long y1)]) dX8_commonDivisor_39 rfl (v := (1 : Int32)) (by decide) (by decide) (fun _ => rfl) (fun y2 => ?_)
        refine r_goto C 9 dX8_commonDivisor_42 (by decide) ?_
        refine r_sub [2, 1, 0] [(4, .long x6), (6, .long y1), (8, .int y2)] rfl ?_
        exact ih S x6 y1 y2 
set_option maxRecDepth 100000 in
set_option maxHeartbeats 4000000 in
theorem c_X8_commonDivisor (l : Launch) (E : EN) (n : Nat) (x0 : Int64) (x2 : Int64) : CT l E yX8_commonDivisor cX8_commonDivisor 11 (some .long) 0 0 wJ tT [.long x0, .long x2] (fun S => f_X8_commonDivisor E n S x0 x2) := by
  refine ct_of RX8 (by decide +kernel) rfl [(0, .long x0), (2, .long x2)] rfl (Nat.le_of_ble_eq_true rfl) (fun A S hA C X => ?_)
  subst hA
  show Gd A E 11 (QM A E wJ tT) (f_X8_commonDivisor E n S x0 x2) S 0 [(0, .long x0), (2, .long x2)] []
  unfold f_X8_commonDivisor
  refine r_lload_n C 0 dX8_commonDivisor_0 rfl ?_
  refine r_lstore C [(4, .long x0), (0, .long x0), (2, .long x2)] dX8_commonDivisor_1 (by decide) rfl ?_
  refine r_lload_n C 2 dX8_commonDivisor_3 rfl ?_
  refine r_lstore C [(6, .long x2), (4, .long x0), (0, .long x0), (2, .long x2)] dX8_commonDivisor_4 (by decide) rfl ?_
  refine r_iconst C (0 : Int32) dX8_commonDivisor_6 (by decide) ?_
  refine r_istore C [(8, .int (0 : Int32)), (6, .long x2), (4, .long x0), (0, .long x0), (2, .long x2)] dX8_commonDivisor_7 (by decide) rfl ?_
  refine r_sub [2, 1, 0] [(4, .long x0), (6, .long x2), (8, .int (0 : Int32))] rfl ?_
  exact p_X8_commonDivisor_L9 C X  n S x0 x2 (0 : Int32) 
set_option maxRecDepth 100000 in
set_option maxHeartbeats 4000000 in
theorem c_X8_knowsWay (l : Launch) (E : EN) (n : Nat) (h0 : Nat) (x1 : Int32) (x2 : Int32) (x3 : Int32) (th0 : Ty E h0 7) : CT l E yX8_knowsWay cX8_knowsWay 4 (some .boolean) 1 21 wI tT [.ref h0, .int x1, .int x2, .int x3] (fun S => f_X8_knowsWay E n S h0 x1 x2 x3) := by
  refine ct_of RX8 (by decide +kernel) rfl [(0, .ref h0), (1, .int x1), (2, .int x2), (3, .int x3)] rfl (Nat.le_of_ble_eq_true rfl) (fun A S hA C X => ?_)
  subst hA
  show Gd A E 4 (QM A E wI tT) (f_X8_knowsWay E n S h0 x1 x2 x3) S 0 [(0, .ref h0), (1, .int x1), (2, .int x2), (3, .int x3)] []
  unfold f_X8_knowsWay
  refine r_aload_n C 0 dX8_knowsWay_0 rfl ?_
  refine r_getr C fl_X8_27 dX8_knowsWay_1 th0 (fun b1 tb1 => ?_)
  refine r_iload_n C 1 dX8_knowsWay_4 rfl ?_
  refine r_callV (As := [.int x1]) (rest := []) C (c_X3_hasWalker _ E n b1 x1 tb1) dX8_knowsWay_5 ml_X8_219 mv_X3_hasWalker ⟨TX3, _, rfl⟩ (by decide) tb1 rfl rfl ⟨by decide, by decide⟩ (Nat.le_of_ble_eq_true rfl) (fun v3 S2 hv3 => ?_)
  refine r_if_eq C 37 dX8_knowsWay_8 (by decide) ?_ ?_
  · refine r_iconst C (0 : Int32) dX8_knowsWay_37 (by decide) ?_
    exact r_zreturn C X rfl dX8_knowsWay_38
  · refine r_aload_n C 0 dX8_knowsWay_11 rfl ?_
    refine r_getr C fl_X8_27 dX8_knowsWay_12 th0 (fun b4 tb4 => ?_)
    refine r_iload_n C 2 dX8_knowsWay_15 rfl ?_
    refine r_callV (As := [.int x2]) (rest := []) C (c_X3_hasPlace _ E n b4 x2 tb4) dX8_knowsWay_16 ml_X8_222 mv_X3_hasPlace ⟨TX3, _, rfl⟩ (by decide) tb4 rfl rfl ⟨by decide, by decide⟩ (Nat.le_of_ble_eq_true rfl) (fun v6 S5 hv6 => ?_)
    refine r_if_eq C 37 dX8_knowsWay_19 (by decide) ?_ ?_
    · refine r_iconst C (0 : Int32) dX8_knowsWay_37 (by decide) ?_
      exact r_zreturn C X rfl dX8_knowsWay_38
    · refine r_aload_n C 0 dX8_knowsWay_22 rfl ?_
      refine r_getr C fl_X8_27 dX8_knowsWay_23 th0 (fun b7 tb7 => ?_)
      refine r_iload_n C 3 dX8_knowsWay_26 rfl ?_
      refine r_callV (As := [.int x3]) (rest := []) C (c_X3_hasYear _ E n b7 x3 tb7) dX8_knowsWay_27 ml_X8_164 mv_X3_hasYear ⟨TX3, _, rfl⟩ (by decide) tb7 rfl rfl ⟨by decide, by decide⟩ (Nat.le_of_ble_eq_true rfl) (fun v9 S8 hv9 => ?_)
      refine r_if_eq C 37 dX8_knowsWay_30 (by decide) ?_ ?_
      · refine r_iconst C (0 : Int32) dX8_knowsWay_37 (by decide) ?_
        exact r_zreturn C X rfl dX8_knowsWay_38
      · refine r_iconst C (1 : Int32) dX8_knowsWay_33 (by decide) ?_
        refine r_goto C 38 dX8_knowsWay_34 (by decide) ?_
        exact r_zreturn C X rfl dX8_knowsWay_38
set_option maxRecDepth 100000 in
set_option maxHeartbeats 4000000 in
theorem c_X8_passPrice (l : Launch) (E : EN) (n : Nat) (h0 : Nat) (x1 : Int32) (x2 : Int32) (x3 : Int32) (x4 : Int32) (th0 : Ty E h0 7) : CT l E yX8_passPrice cX8_passPrice 6 none 1 21 wV tT [.ref h0, .int x1, .int x2, .int x3, .int x4] (fun S => f_X8_passPrice E n S h0 x1 x2 x3 x4) := by
  refine ct_of RX8 (by decide +kernel) rfl [(0, .ref h0), (1, .int x1), (2, .int x2), (3, .int x3), (4, .int x4)] rfl (Nat.le_of_ble_eq_true rfl) (fun A S hA C X => ?_)
  subst hA
  show Gd A E 6 (QM A E wV tT) (f_X8_passPrice E n S h0 x1 x2 x3 x4) S 0 [(0, .ref h0), (1, .int x1), (2, .int x2), (3, .int x3), (4, .int x4)] []
  unfold f_X8_passPrice
  refine r_iload C 4 dX8_passPrice_0 rfl ?_
  refine r_if_eq C 16 dX8_passPrice_2 (by decide) ?_ ?_
  · refine r_aload_n C 0 dX8_passPrice_16 rfl ?_
    refine r_getr C fl_X8_80 dX8_passPrice_17 th0 (fun b1 tb1 => ?_)
    refine r_iload_n C 1 dX8_passPrice_20 rfl ?_
    refine r_iald C dX8_passPrice_21 tb1 ?_
    refine r_iload_n C 3 dX8_passPrice_22 rfl ?_
    refine r_mmax C (mG 958 (by decide +kernel) rfl) mmax_w ⟨by decide, by decide⟩ (Nat.le_of_ble_eq_true rfl) dX8_passPrice_23 ?_
    refine r_topi (fun y2 => ?_)
    refine r_istore C [(5, .int y2), (0, .ref h0), (1, .int x1), (2, .int x2), (3, .int x3), (4, .int x4)] dX8_passPrice_26 (by decide) rfl ?_
    refine r_aload_n C 1 dX8_passPrice_28 rfl ?_
    refine r_getr C fl_X8_80 dX8_passPrice_29 th0 (fun b3 tb3 => ?_)
    refine r_iload_n C 3 dX8_passPrice_32 rfl ?_
    refine r_aload_n C 1 dX8_passPrice_33 rfl ?_
    refine r_getr C fl_X8_80 dX8_passPrice_34 th0 (fun b4 tb4 => ?_)
    refine r_iload_n C 3 dX8_passPrice_37 rfl ?_
    refine r_iald C dX8_passPrice_38 tb4 ?_
    refine r_iload C 0 dX8_passPrice_39 rfl ?_
    refine r_mmin C (mG 924 (by decide +kernel) rfl) mmin_w ⟨by decide, by decide⟩ (Nat.le_of_ble_eq_true rfl) dX8_passPrice_41 ?_
    refine r_iast C dX8_passPrice_44 tb3 (fun S5 => ?_)
    exact r_return C X dX8_passPrice_45
  · refine r_aload_n C 0 dX8_passPrice_5 rfl ?_
    refine r_getr C fl_X8_80 dX8_passPrice_6 th0 (fun b6 tb6 => ?_)
    refine r_iload_n C 1 dX8_passPrice_9 rfl ?_
    refine r_iald C dX8_passPrice_10 tb6 ?_
    refine r_iload_n C 3 dX8_passPrice_11 rfl ?_
    refine r_iadd C dX8_passPrice_12 ?_
    refine r_goto C 26 dX8_passPrice_13 (by decide) ?_
    refine r_topi (fun y7 => ?_)
    refine r_istore C [(5, .int y7), (0, .ref h0), (1, .int x1), (2, .int x2), (3, .int x3), (4, .int x4)] dX8_passPrice_26 (by decide) rfl ?_
    refine r_aload_n C 1 dX8_passPrice_28 rfl ?_
    refine r_getr C fl_X8_80 dX8_passPrice_29 th0 (fun b8 tb8 => ?_)
    refine r_iload_n C 3 dX8_passPrice_32 rfl ?_
    refine r_aload_n C 1 dX8_passPrice_33 rfl ?_
    refine r_getr C fl_X8_80 dX8_passPrice_34 th0 (fun b9 tb9 => ?_)
    refine r_iload_n C 3 dX8_passPrice_37 rfl ?_
    refine r_iald C dX8_passPrice_38 tb9 ?_
    refine r_iload C 0 dX8_passPrice_39 rfl ?_
    refine r_mmin C (mG 924 (by decide +kernel) rfl) mmin_w ⟨by decide, by decide⟩ (Nat.le_of_ble_eq_true rfl) dX8_passPrice_41 ?_
    refine r_iast C dX8_passPrice_44 tb8 (fun S10 => ?_)
    exact r_return C X dX8_passPrice_45
set_option maxRecDepth 100000 in
set_option maxHeartbeats 4000000 in
theorem c_X8_slotAt (l : Launch) (E : EN) (n : Nat) (h0 : Nat) (x1 : Int32) (th0 : Ty E h0 7) : CT l E yX8_slotAt cX8_slotAt 2 (some (.object "DowrySteps$Slot")) 0 0 wR (tR E 5) [.ref h0, .int x1] (fun S => f_X8_slotAt E n S h0 x1) := by
  refine ct_of RX8 (by decide +kernel) rfl [(0, .ref h0), (1, .int x1)] rfl (Nat.le_of_ble_eq_true rfl) (fun A S hA C X => ?_)
  subst hA
  show Gd A E 2 (QM A E wR (tR E 5)) (f_X8_slotAt E n S h0 x1) S 0 [(0, .ref h0), (1, .int x1)] []
  unfold f_X8_slotAt
  refine r_iload_n C 1 dX8_slotAt_0 rfl ?_
  refine r_if_lt C 18 dX8_slotAt_1 (by decide) ?_ ?_
  · refine r_null C dX8_slotAt_18 ?_
    exact r_areturn (r := none) C X rfl (fun _ h => by cases h) dX8_slotAt_19
  · refine r_iload_n C 1 dX8_slotAt_4 rfl ?_
    refine r_iconst C (4 : Int32) dX8_slotAt_5 (by decide) ?_
    refine r_icmp_ge C 18 dX8_slotAt_6 (by decide) ?_ ?_
    · refine r_null C dX8_slotAt_18 ?_
      exact r_areturn (r := none) C X rfl (fun _ h => by cases h) dX8_slotAt_19
    · refine r_aload_n C 0 dX8_slotAt_9 rfl ?_
      refine r_getr C fl_X8_44 dX8_slotAt_10 th0 (fun b1 tb1 => ?_)
      refine r_iload_n C 1 dX8_slotAt_13 rfl ?_
      refine r_ralS C dX8_slotAt_14 tb1 ?_ (fun b2 tb2 => ?_)
      · refine r_goto C 19 dX8_slotAt_15 (by decide) ?_
        exact r_areturn (r := none) C X rfl (fun _ h => by cases h) dX8_slotAt_19
      · refine r_goto C 19 dX8_slotAt_15 (by decide) ?_
        exact r_areturn (r := some b2) C X rfl (fun _ h => by cases h; exact tb2) dX8_slotAt_19
set_option maxRecDepth 100000 in
set_option maxHeartbeats 4000000 in
theorem c_X8_refusalOf (l : Launch) (E : EN) (n : Nat) (h0 : Nat) (h1 : Nat) (th0 : Ty E h0 7) (th1 : Ty E h1 5) : CT l E yX8_refusalOf cX8_refusalOf 2 (some .int) 2 47 wI tT [.ref h0, .ref h1] (fun S => f_X8_refusalOf E n S h0 h1) := by
  refine ct_of RX8 (by decide +kernel) rfl [(0, .ref h0), (1, .ref h1)] rfl (Nat.le_of_ble_eq_true rfl) (fun A S hA C X => ?_)
  subst hA
  show Gd A E 2 (QM A E wI tT) (f_X8_refusalOf E n S h0 h1) S 0 [(0, .ref h0), (1, .ref h1)] []
  unfold f_X8_refusalOf
  refine r_aload_n C 1 dX8_refusalOf_0 rfl ?_
  refine r_ifnull C dX8_refusalOf_1 ?_
  refine r_aload_n C 0 dX8_refusalOf_4 rfl ?_
  refine r_getr C fl_X8_27 dX8_refusalOf_5 th0 (fun b1 tb1 => ?_)
  refine r_callV (As := []) (rest := []) C (c_X3_isTold _ E n b1 tb1) dX8_refusalOf_8 ml_X8_157 mv_X3_isTold ⟨TX3, _, rfl⟩ (by decide) tb1 rfl rfl ⟨by decide, by decide⟩ (Nat.le_of_ble_eq_true rfl) (fun v3 S2 hv3 => ?_)
  refine r_if_ne C 17 dX8_refusalOf_11 (by decide) ?_ ?_
  · refine r_aload_n C 1 dX8_refusalOf_17 rfl ?_
    refine r_geti C fl_X8_326 dX8_refusalOf_18 th1 ?_
    refine r_iconst C (-1 : Int32) dX8_refusalOf_21 (by decide) ?_
    refine r_icmp_ne C 28 dX8_refusalOf_22 (by decide) ?_ ?_
    · refine r_aload_n C 1 dX8_refusalOf_28 rfl ?_
      refine r_aload_n C 0 dX8_refusalOf_29 rfl ?_
      refine r_getr C fl_X8_27 dX8_refusalOf_30 th0 (fun b4 tb4 => ?_)
      refine r_callV (As := [.ref b4]) (rest := []) C (c_X6_isMeasured _ E n h1 b4 th1 tb4) dX8_refusalOf_33 ml_X8_329 mv_X6_isMeasured ⟨TX6, _, rfl⟩ (by decide) th1 rfl rfl ⟨by decide, by decide⟩ (Nat.le_of_ble_eq_true rfl) (fun v6 S5 hv6 => ?_)
      refine r_if_eq C 43 dX8_refusalOf_36 (by decide) ?_ ?_
      · refine r_bipush C (-2 : Int32) dX8_refusalOf_43 (by decide) ?_
        exact r_ireturn C X dX8_refusalOf_45
      · refine r_iconst C (0 : Int32) dX8_refusalOf_39 (by decide) ?_
        refine r_goto C 45 dX8_refusalOf_40 (by decide) ?_
        exact r_ireturn C X dX8_refusalOf_45
    · refine r_bipush C (-6 : Int32) dX8_refusalOf_25 (by decide) ?_
      exact r_ireturn C X dX8_refusalOf_27
  · refine r_bipush C (-2 : Int32) dX8_refusalOf_14 (by decide) ?_
    exact r_ireturn C X dX8_refusalOf_16
set_option maxRecDepth 100000 in
set_option maxHeartbeats 4000000 in
theorem p_X8_endOfWalk_L73 {A : AM} {E : EN} {n : Nat} (C : Cx A E cX8_endOfWalk 11 RX8 3 69) (X : Ex A E (some .int)) {k19 : WS → Nat → Int32 → Int64 → Int32 → Option (Int32 × WS)} (hk19 : ∀ (S : WS) (h0 : Nat) (x3 : Int32) (x4 : Int64) (x6 : Int32) (_ : Ty E h0 7), Gd A E 11 (QM A E wI tT) (k19 S h0 x3 x4 x6) S 19 [(0, .ref h0), (3, .int x3), (4, .long x4), (6, .int x6)] []) : ∀ (m : Nat) (S : WS) (h0 : Nat) (x3 : Int32) (x4 : Int64) (x6 : Int32) (x7 : Int32) (x8 : Int32) (x9 : Int32) (x10 : Int32) (th0 : Ty E h0 7), Gd A E 11 (QM A E wI tT) (f_X8_endOfWalk_L73 E n k19 m S h0 x3 x4 x6 x7 x8 x9 x10) S 73 [(0, .ref h0), (3, .int x3), (4, .long x4), (6, .int x6), (7, .int x7), (8, .int x8), (9, .int x9), (10, .int x10)] [] := by
  intro m
  induction m with
  | zero => intros; exact gn
  | succ m ih =>
    intro S h0 x3 x4 x6 x7 x8 x9 x10 th0
    unfold f_X8_endOfWalk_L73
    refine r_iload C 7 dX8_endOfWalk_73 rfl ?_
    refine r_aload_n C 0 dX8_endOfWalk_75 rfl ?_
    refine r_getr C fl_X8_27 dX8_endOfWalk_76 th0 (fun b1 tb1 => ?_)
    refine r_geti C fl_X8_161 dX8_endOfWalk_79 tb1 ?_
    refine r_icmp_ge C 178 dX8_endOfWalk_82 (by decide) ?_ ?_
    · refine r_iinc C 3 (fun y2 => [(6, .int y2), (0, .ref h0), (3, .int x3), (4, .long x4), (7, .int x7), (8, .int x8), (9, .int x9), (10, .int x10)]) dX8_endOfWalk_178 rfl (v := (1 : Int32)) (by decide) (by decide) (fun _ => rfl) (fun y2 => ?_)
      refine r_goto C 19 dX8_endOfWalk_181 (by decide) ?_
      refine r_sub [1, 2, 3, 0] [(0, .ref h0), (3, .int x3), (4, .long x4), (6, .int y2)] rfl ?_
      exact hk19 S h0 x3 x4 y2 th0
    · refine r_aload_n C 0 dX8_endOfWalk_85 rfl ?_
      refine r_getr C fl_X8_27 dX8_endOfWalk_86 th0 (fun b3 tb3 => ?_)
      refine r_iload C 7 dX8_endOfWalk_89 rfl ?_
      refine r_iload C 6 dX8_endOfWalk_91 rfl ?_
      refine r_iload_n C 1 dX8_endOfWalk_93 rfl ?_
      refine r_callV (As := [.int x10, .int x9, .int x3]) (rest := []) C (c_X3_hasStep _ E n b3 x10 x9 x3 tb3) dX8_endOfWalk_94 ml_X8_174 mv_X3_hasStep ⟨TX3, _, rfl⟩ (by decide) tb3 rfl rfl ⟨by decide, by decide⟩ (Nat.le_of_ble_eq_true rfl) (fun v5 S4 hv5 => ?_)
      refine r_if_eq C 172 dX8_endOfWalk_97 (by decide) ?_ ?_
      · refine r_iinc C 7 (fun y6 => [(10, .int y6), (0, .ref h0), (3, .int x3), (4, .long x4), (6, .int x6), (7, .int x7), (8, .int x8), (9, .int x9)]) dX8_endOfWalk_172 rfl (v := (1 : Int32)) (by decide) (by decide) (fun _ => rfl) (fun y6 => ?_)
        refine r_goto C 73 dX8_endOfWalk_175 (by decide) ?_
        refine r_sub [1, 2, 3, 4, 5, 6, 7, 0] [(0, .ref h0), (3, .int x3), (4, .long x4), (6, .int x6), (7, .int x7), (8, .int x8), (9, .int x9), (10, .int y6)] rfl ?_
        exact ih S4 h0 x3 x4 x6 x7 x8 x9 y6 th0
      · refine r_ldc2 C (1103515245 : Int64) (mG 1199 (by decide +kernel) rfl) dX8_endOfWalk_100 ?_
        refine r_lload C 2 dX8_endOfWalk_103 rfl ?_
        refine r_lmul C dX8_endOfWalk_105 ?_
        refine r_ldc2 C (12345 : Int64) (mG 1200 (by decide +kernel) rfl) dX8_endOfWalk_106 ?_
        refine r_ladd C dX8_endOfWalk_109 ?_
        refine r_ldc2 C (2147483648 : Int64) (mG 1201 (by decide +kernel) rfl) dX8_endOfWalk_110 ?_
        refine r_lrem C dX8_endOfWalk_113 ?_
        refine r_topl (fun y7 => ?_)
        refine r_lstore C [(4, .long y7), (0, .ref h0), (3, .int x3), (6, .int x6), (7, .int x7), (8, .int x8), (9, .int x9), (10, .int x10)] dX8_endOfWalk_114 (by decide) rfl ?_
        refine r_lload C 0 dX8_endOfWalk_116 rfl ?_
        refine r_ldc2 C (65536 : Int64) (mG 1202 (by decide +kernel) rfl) dX8_endOfWalk_118 ?_
        refine r_ldiv C dX8_endOfWalk_121 ?_
        refine r_ldc2 C (100 : Int64) (mG 1203 (by decide +kernel) rfl) dX8_endOfWalk_122 ?_
        refine r_lrem C dX8_endOfWalk_125 ?_
        refine r_aload_n C 1 dX8_endOfWalk_126 rfl ?_
        refine r_getr C fl_X8_27 dX8_endOfWalk_127 th0 (fun b8 tb8 => ?_)
        refine r_iload C 7 dX8_endOfWalk_130 rfl ?_
        refine r_iload_n C 2 dX8_endOfWalk_132 rfl ?_
        refine r_callV (As := [.int x10, .int x3]) (rest := [.long ((y7 / (65536 : Int64)) - (y7 / (65536 : Int64)) / (100 : Int64) * (100 : Int64))]) C (c_X3_fallOf _ E n b8 x10 x3 tb8) dX8_endOfWalk_133 ml_X8_210 mv_X3_fallOf ⟨TX3, _, rfl⟩ (by decide) tb8 rfl rfl ⟨by decide, by decide⟩ (Nat.le_of_ble_eq_true rfl) (fun v10 S9 hv10 => ?_)
        refine r_i2l C dX8_endOfWalk_136 ?_
        refine r_lcmp C dX8_endOfWalk_137 ?_
        refine r_if_ge C 172 dX8_endOfWalk_138 (by decide) ?_ ?_
        · refine r_iinc C 7 (fun y11 => [(10, .int y11), (4, .long y7), (0, .ref h0), (3, .int x3), (6, .int x6), (7, .int x7), (8, .int x8), (9, .int x9)]) dX8_endOfWalk_172 rfl (v := (1 : Int32)) (by decide) (by decide) (fun _ => rfl) (fun y11 => ?_)
          refine r_goto C 73 dX8_endOfWalk_175 (by decide) ?_
          refine r_sub [2, 3, 1, 4, 5, 6, 7, 0] [(0, .ref h0), (3, .int x3), (4, .long y7), (6, .int x6), (7, .int x7), (8, .int x8), (9, .int x9), (10, .int y11)] rfl ?_
          exact ih S9 h0 x3 y7 x6 x7 x8 x9 y11 th0
        · refine r_aload_n C 1 dX8_endOfWalk_141 rfl ?_
          refine r_getr C fl_X8_27 dX8_endOfWalk_142 th0 (fun b12 tb12 => ?_)
          refine r_getr C fl_X8_257 dX8_endOfWalk_145 tb12 (fun b13 tb13 => ?_)
          refine r_iload C 5 dX8_endOfWalk_148 rfl ?_
          refine r_iald C dX8_endOfWalk_150 tb13 ?_
          refine r_aload_n C 1 dX8_endOfWalk_151 rfl ?_
          refine r_getr C fl_X8_27 dX8_endOfWalk_152 th0 (fun b14 tb14 => ?_)
          refine r_getr C fl_X8_257 dX8_endOfWalk_155 tb14 (fun b15 tb15 => ?_)
          refine r_iload C 4 dX8_endOfWalk_158 rfl ?_
          refine r_iald C dX8_endOfWalk_160 tb15 ?_
          refine r_icmp_ge C 169 dX8_endOfWalk_161 (by decide) ?_ ?_
          · refine r_iload C 4 dX8_endOfWalk_169 rfl ?_
            exact r_ireturn C X dX8_endOfWalk_171
          · refine r_iload C 5 dX8_endOfWalk_164 rfl ?_
            refine r_goto C 171 dX8_endOfWalk_166 (by decide) ?_
            exact r_ireturn C X dX8_endOfWalk_171
set_option maxRecDepth 100000 in
set_option maxHeartbeats 4000000 in
theorem p_X8_endOfWalk_L19 {A : AM} {E : EN} {n : Nat} (C : Cx A E cX8_endOfWalk 11 RX8 3 69) (X : Ex A E (some .int))  : ∀ (m : Nat) (S : WS) (h0 : Nat) (x3 : Int32) (x4 : Int64) (x6 : Int32) (th0 : Ty E h0 7), Gd A E 11 (QM A E wI tT) (f_X8_endOfWalk_L19 E n  m S h0 x3 x4 x6) S 19 [(0, .ref h0), (3, .int x3), (4, .long x4), (6, .int x6)] [] := by
  intro m
  induction m with
  | zero => intros; exact gn
  | succ m ih =>
    intro S h0 x3 x4 x6 th0
    unfold f_X8_endOfWalk_L19
    refine r_iload C 3 dX8_endOfWalk_19 rfl ?_
    refine r_aload_n C 0 dX8_endOfWalk_21 rfl ?_
    refine r_getr C fl_X8_51 dX8_endOfWalk_22 th0 (fun b1 tb1 => ?_)
    refine r_geti C fl_X8_241 dX8_endOfWalk_25 tb1 ?_
    refine r_icmp_ge C 184 dX8_endOfWalk_28 (by decide) ?_ ?_
    · refine r_aload_n C 0 dX8_endOfWalk_184 rfl ?_
      refine r_getr C fl_X8_51 dX8_endOfWalk_185 th0 (fun b2 tb2 => ?_)
      refine r_getr C fl_X8_248 dX8_endOfWalk_188 tb2 (fun b3 tb3 => ?_)
      refine r_aload_n C 0 dX8_endOfWalk_191 rfl ?_
      refine r_getr C fl_X8_51 dX8_endOfWalk_192 th0 (fun b4 tb4 => ?_)
      refine r_geti C fl_X8_241 dX8_endOfWalk_195 tb4 ?_
      refine r_iconst C (1 : Int32) dX8_endOfWalk_198 (by decide) ?_
      refine r_isub C dX8_endOfWalk_199 ?_
      refine r_iald C dX8_endOfWalk_200 tb3 ?_
      exact r_ireturn C X dX8_endOfWalk_201
    · refine r_aload_n C 0 dX8_endOfWalk_31 rfl ?_
      refine r_getr C fl_X8_51 dX8_endOfWalk_32 th0 (fun b5 tb5 => ?_)
      refine r_getr C fl_X8_248 dX8_endOfWalk_35 tb5 (fun b6 tb6 => ?_)
      refine r_iload C 3 dX8_endOfWalk_38 rfl ?_
      refine r_iconst C (1 : Int32) dX8_endOfWalk_40 (by decide) ?_
      refine r_isub C dX8_endOfWalk_41 ?_
      refine r_iald C dX8_endOfWalk_42 tb6 ?_
      refine r_topi (fun y7 => ?_)
      refine r_istore C [(7, .int y7), (0, .ref h0), (3, .int x3), (4, .long x4), (6, .int x6)] dX8_endOfWalk_43 (by decide) rfl ?_
      refine r_aload_n C 1 dX8_endOfWalk_45 rfl ?_
      refine r_getr C fl_X8_51 dX8_endOfWalk_46 th0 (fun b8 tb8 => ?_)
      refine r_getr C fl_X8_248 dX8_endOfWalk_49 tb8 (fun b9 tb9 => ?_)
      refine r_iload C 4 dX8_endOfWalk_52 rfl ?_
      refine r_iald C dX8_endOfWalk_54 tb9 ?_
      refine r_topi (fun y10 => ?_)
      refine r_istore C [(8, .int y10), (7, .int y7), (0, .ref h0), (3, .int x3), (4, .long x4), (6, .int x6)] dX8_endOfWalk_55 (by decide) rfl ?_
      refine r_aload_n C 2 dX8_endOfWalk_57 rfl ?_
      refine r_getr C fl_X8_27 dX8_endOfWalk_58 th0 (fun b11 tb11 => ?_)
      refine r_iload C 1 dX8_endOfWalk_61 rfl ?_
      refine r_iload C 0 dX8_endOfWalk_63 rfl ?_
      refine r_callV (As := [.int y7, .int y10]) (rest := []) C (c_X3_pathBetween _ E n b11 y7 y10 tb11) dX8_endOfWalk_65 ml_X8_384 mv_X3_pathBetween ⟨TX3, _, rfl⟩ (by decide) tb11 rfl rfl ⟨by decide, by decide⟩ (Nat.le_of_ble_eq_true rfl) (fun v13 S12 hv13 => ?_)
      refine r_istore C [(9, .int v13), (8, .int y10), (7, .int y7), (0, .ref h0), (3, .int x3), (4, .long x4), (6, .int x6)] dX8_endOfWalk_68 (by decide) rfl ?_
      refine r_iconst C (0 : Int32) dX8_endOfWalk_70 (by decide) ?_
      refine r_istore C [(10, .int (0 : Int32)), (9, .int v13), (8, .int y10), (7, .int y7), (0, .ref h0), (3, .int x3), (4, .long x4), (6, .int x6)] dX8_endOfWalk_71 (by decide) rfl ?_
      refine r_sub [4, 5, 6, 7, 3, 2, 1, 0] [(0, .ref h0), (3, .int x3), (4, .long x4), (6, .int x6), (7, .int y7), (8, .int y10), (9, .int v13), (10, .int (0 : Int32))] rfl ?_
      exact p_X8_endOfWalk_L73 C X ih n S12 h0 x3 x4 x6 y7 y10 v13 (0 : Int32) th0
set_option maxRecDepth 100000 in
set_option maxHeartbeats 4000000 in
theorem c_X8_endOfWalk (l : Launch) (E : EN) (n : Nat) (h0 : Nat) (x1 : Int64) (x3 : Int32) (th0 : Ty E h0 7) : CT l E yX8_endOfWalk cX8_endOfWalk 11 (some .int) 3 69 wI tT [.ref h0, .long x1, .int x3] (fun S => f_X8_endOfWalk E n S h0 x1 x3) := by
  refine ct_of RX8 (by decide +kernel) rfl [(0, .ref h0), (1, .long x1), (3, .int x3)] rfl (Nat.le_of_ble_eq_true rfl) (fun A S hA C X => ?_)
  subst hA
  show Gd A E 11 (QM A E wI tT) (f_X8_endOfWalk E n S h0 x1 x3) S 0 [(0, .ref h0), (1, .long x1), (3, .int x3)] []
  unfold f_X8_endOfWalk
  refine r_aload_n C 0 dX8_endOfWalk_0 rfl ?_
  refine r_getr C fl_X8_51 dX8_endOfWalk_1 th0 (fun b1 tb1 => ?_)
  refine r_geti C fl_X8_241 dX8_endOfWalk_4 tb1 ?_
  refine r_iconst C (-1 : Int32) dX8_endOfWalk_7 (by decide) ?_
  refine r_icmp_ne C 13 dX8_endOfWalk_8 (by decide) ?_ ?_
  · refine r_lload_n C 1 dX8_endOfWalk_13 rfl ?_
    refine r_lstore C [(4, .long x1), (0, .ref h0), (1, .long x1), (3, .int x3)] dX8_endOfWalk_14 (by decide) rfl ?_
    refine r_iconst C (1 : Int32) dX8_endOfWalk_16 (by decide) ?_
    refine r_istore C [(6, .int (1 : Int32)), (4, .long x1), (0, .ref h0), (1, .long x1), (3, .int x3)] dX8_endOfWalk_17 (by decide) rfl ?_
    refine r_sub [2, 4, 1, 0] [(0, .ref h0), (3, .int x3), (4, .long x1), (6, .int (1 : Int32))] rfl ?_
    exact p_X8_endOfWalk_L19 C X  n S h0 x3 x1 (1 : Int32) th0
  · refine r_iconst C (-1 : Int32) dX8_endOfWalk_11 (by decide) ?_
    exact r_ireturn C X dX8_endOfWalk_12
set_option maxRecDepth 100000 in
set_option maxHeartbeats 4000000 in
theorem p_X8_courtersAsBits_L4 {A : AM} {E : EN} {n : Nat} (C : Cx A E cX8_courtersAsBits 3 RX8 0 0) (X : Ex A E (some .int))  : ∀ (m : Nat) (S : WS) (h0 : Nat) (x1 : Int32) (x2 : Int32) (th0 : Ty E h0 7), Gd A E 3 (QM A E wI tT) (f_X8_courtersAsBits_L4 E n  m S h0 x1 x2) S 4 [(0, .ref h0), (1, .int x1), (2, .int x2)] [] := by
  intro m
  induction m with
  | zero => intros; exact gn
  | succ m ih =>
    intro S h0 x1 x2 th0
    unfold f_X8_courtersAsBits_L4
    refine r_iload_n C 2 dX8_courtersAsBits_4 rfl ?_
    refine r_aload_n C 0 dX8_courtersAsBits_5 rfl ?_
    refine r_getr C fl_X8_27 dX8_courtersAsBits_6 th0 (fun b1 tb1 => ?_)
    refine r_geti C fl_X8_161 dX8_courtersAsBits_9 tb1 ?_
    refine r_icmp_ge C 40 dX8_courtersAsBits_12 (by decide) ?_ ?_
    · refine r_iload_n C 1 dX8_courtersAsBits_40 rfl ?_
      exact r_ireturn C X dX8_courtersAsBits_41
    · refine r_aload_n C 0 dX8_courtersAsBits_15 rfl ?_
      refine r_getr C fl_X8_27 dX8_courtersAsBits_16 th0 (fun b2 tb2 => ?_)
      refine r_getr C fl_X8_125 dX8_courtersAsBits_19 tb2 (fun b3 tb3 => ?_)
      refine r_iload_n C 2 dX8_courtersAsBits_22 rfl ?_
      refine r_iald C dX8_courtersAsBits_23 tb3 ?_
      refine r_iconst C (-1 : Int32) dX8_courtersAsBits_24 (by decide) ?_
      refine r_icmp_eq C 34 dX8_courtersAsBits_25 (by decide) ?_ ?_
      · refine r_iinc C 2 (fun y4 => [(2, .int y4), (0, .ref h0), (1, .int x1)]) dX8_courtersAsBits_34 rfl (v := (1 : Int32)) (by decide) (by decide) (fun _ => rfl) (fun y4 => ?_)
        refine r_goto C 4 dX8_courtersAsBits_37 (by decide) ?_
        refine r_sub [1, 2, 0] [(0, .ref h0), (1, .int x1), (2, .int y4)] rfl ?_
        exact ih S h0 x1 y4 th0
      · refine r_iload_n C 1 dX8_courtersAsBits_28 rfl ?_
        refine r_iconst C (1 : Int32) dX8_courtersAsBits_29 (by decide) ?_
        refine r_iload_n C 2 dX8_courtersAsBits_30 rfl ?_
        refine r_ishl C dX8_courtersAsBits_31 ?_
        refine r_ior C dX8_courtersAsBits_32 ?_
        refine r_topi (fun y5 => ?_)
        refine r_istore_n C [(1, .int y5), (0, .ref h0), (2, .int x2)] dX8_courtersAsBits_33 (by decide) rfl ?_
        refine r_iinc C 2 (fun y6 => [(2, .int y6), (1, .int y5), (0, .ref h0)]) dX8_courtersAsBits_34 rfl (v := (1 : Int32)) (by decide) (by decide) (fun _ => rfl) (fun y6 => ?_)
        refine r_goto C 4 dX8_courtersAsBits_37 (by decide) ?_
        refine r_sub [2, 1, 0] [(0, .ref h0), (1, .int y5), (2, .int y6)] rfl ?_
        exact ih S h0 y5 y6 th0
set_option maxRecDepth 100000 in
set_option maxHeartbeats 4000000 in
theorem c_X8_courtersAsBits (l : Launch) (E : EN) (n : Nat) (h0 : Nat) (th0 : Ty E h0 7) : CT l E yX8_courtersAsBits cX8_courtersAsBits 3 (some .int) 0 0 wI tT [.ref h0] (fun S => f_X8_courtersAsBits E n S h0) := by
  refine ct_of RX8 (by decide +kernel) rfl [(0, .ref h0)] rfl (Nat.le_of_ble_eq_true rfl) (fun A S hA C X => ?_)
  subst hA
  show Gd A E 3 (QM A E wI tT) (f_X8_courtersAsBits E n S h0) S 0 [(0, .ref h0)] []
  unfold f_X8_courtersAsBits
  refine r_iconst C (0 : Int32) dX8_courtersAsBits_0 (by decide) ?_
  refine r_istore_n C [(1, .int (0 : Int32)), (0, .ref h0)] dX8_courtersAsBits_1 (by decide) rfl ?_
  refine r_iconst C (0 : Int32) dX8_courtersAsBits_2 (by decide) ?_
  refine r_istore_n C [(2, .int (0 : Int32)), (1, .int (0 : Int32)), (0, .ref h0)] dX8_courtersAsBits_3 (by decide) rfl ?_
  refine r_sub [2, 1, 0] [(0, .ref h0), (1, .int (0 : Int32)), (2, .int (0 : Int32))] rfl ?_
  exact p_X8_courtersAsBits_L4 C X  n S h0 (0 : Int32) (0 : Int32) th0
set_option maxRecDepth 100000 in
set_option maxHeartbeats 4000000 in
theorem p_X8_slotsWithRows_L4 {A : AM} {E : EN} {n : Nat} (C : Cx A E cX8_slotsWithRows 4 RX8 1 21) (X : Ex A E (some .int))  : ∀ (m : Nat) (S : WS) (h0 : Nat) (x1 : Int32) (x2 : Int32) (th0 : Ty E h0 7), Gd A E 4 (QM A E wI tT) (f_X8_slotsWithRows_L4 E n  m S h0 x1 x2) S 4 [(0, .ref h0), (1, .int x1), (2, .int x2)] [] := by
  intro m
  induction m with
  | zero => intros; exact gn
  | succ m ih =>
    intro S h0 x1 x2 th0
    unfold f_X8_slotsWithRows_L4
    refine r_iload_n C 2 dX8_slotsWithRows_4 rfl ?_
    refine r_iconst C (4 : Int32) dX8_slotsWithRows_5 (by decide) ?_
    refine r_icmp_ge C 36 dX8_slotsWithRows_6 (by decide) ?_ ?_
    · refine r_iload_n C 1 dX8_slotsWithRows_36 rfl ?_
      exact r_ireturn C X dX8_slotsWithRows_37
    · refine r_aload_n C 0 dX8_slotsWithRows_9 rfl ?_
      refine r_iload_n C 2 dX8_slotsWithRows_10 rfl ?_
      refine r_callV (As := [.int x2]) (rest := []) C (c_X8_slotAt _ E n h0 x2 th0) dX8_slotsWithRows_11 ml_X8_333 mv_X8_slotAt ⟨TX8, _, rfl⟩ (by decide) th0 rfl rfl ⟨by decide, by decide⟩ (Nat.le_of_ble_eq_true rfl) (fun v2 S1 hv2 => ?_)
      refine r_opt hv2 ?_ (fun b3 tb3 => ?_)
      · refine r_astore_nN C [(3, .null), (0, .ref h0), (1, .int x1), (2, .int x2)] dX8_slotsWithRows_14 (by decide) rfl ?_
        refine r_aload_nN C 0 dX8_slotsWithRows_15 rfl ?_
        refine r_ifnullN C 30 dX8_slotsWithRows_16 (by decide) ?_
        refine r_iinc C 3 (fun y4 => [(2, .int y4), (3, .null), (0, .ref h0), (1, .int x1)]) dX8_slotsWithRows_30 rfl (v := (1 : Int32)) (by decide) (by decide) (fun _ => rfl) (fun y4 => ?_)
        refine r_goto C 4 dX8_slotsWithRows_33 (by decide) ?_
        refine r_sub [2, 3, 0] [(0, .ref h0), (1, .int x1), (2, .int y4)] rfl ?_
        exact ih S1 h0 x1 y4 th0
      · refine r_astore_n C [(3, .ref b3), (0, .ref h0), (1, .int x1), (2, .int x2)] dX8_slotsWithRows_14 (by decide) rfl ?_
        refine r_aload_n C 0 dX8_slotsWithRows_15 rfl ?_
        refine r_ifnull C dX8_slotsWithRows_16 ?_
        refine r_aload_n C 0 dX8_slotsWithRows_19 rfl ?_
        refine r_geti C fl_X8_326 dX8_slotsWithRows_20 tb3 ?_
        refine r_iconst C (-1 : Int32) dX8_slotsWithRows_23 (by decide) ?_
        refine r_icmp_eq C 30 dX8_slotsWithRows_24 (by decide) ?_ ?_
        · refine r_iinc C 3 (fun y5 => [(2, .int y5), (3, .ref b3), (0, .ref h0), (1, .int x1)]) dX8_slotsWithRows_30 rfl (v := (1 : Int32)) (by decide) (by decide) (fun _ => rfl) (fun y5 => ?_)
          refine r_goto C 4 dX8_slotsWithRows_33 (by decide) ?_
          refine r_sub [2, 3, 0] [(0, .ref h0), (1, .int x1), (2, .int y5)] rfl ?_
          exact ih S1 h0 x1 y5 th0
        · refine r_iinc C 2 (fun y6 => [(1, .int y6), (3, .ref b3), (0, .ref h0), (2, .int x2)]) dX8_slotsWithRows_27 rfl (v := (1 : Int32)) (by decide) (by decide) (fun _ => rfl) (fun y6 => ?_)
          refine r_iinc C 3 (fun y7 => [(2, .int y7), (1, .int y6), (3, .ref b3), (0, .ref h0)]) dX8_slotsWithRows_30 rfl (v := (1 : Int32)) (by decide) (by decide) (fun _ => rfl) (fun y7 => ?_)
          refine r_goto C 4 dX8_slotsWithRows_33 (by decide) ?_
          refine r_sub [3, 1, 0] [(0, .ref h0), (1, .int y6), (2, .int y7)] rfl ?_
          exact ih S1 h0 y6 y7 th0
set_option maxRecDepth 100000 in
set_option maxHeartbeats 4000000 in
theorem c_X8_slotsWithRows (l : Launch) (E : EN) (n : Nat) (h0 : Nat) (th0 : Ty E h0 7) : CT l E yX8_slotsWithRows cX8_slotsWithRows 4 (some .int) 1 21 wI tT [.ref h0] (fun S => f_X8_slotsWithRows E n S h0) := by
  refine ct_of RX8 (by decide +kernel) rfl [(0, .ref h0)] rfl (Nat.le_of_ble_eq_true rfl) (fun A S hA C X => ?_)
  subst hA
  show Gd A E 4 (QM A E wI tT) (f_X8_slotsWithRows E n S h0) S 0 [(0, .ref h0)] []
  unfold f_X8_slotsWithRows
  refine r_iconst C (0 : Int32) dX8_slotsWithRows_0 (by decide) ?_
  refine r_istore_n C [(1, .int (0 : Int32)), (0, .ref h0)] dX8_slotsWithRows_1 (by decide) rfl ?_
  refine r_iconst C (0 : Int32) dX8_slotsWithRows_2 (by decide) ?_
  refine r_istore_n C [(2, .int (0 : Int32)), (1, .int (0 : Int32)), (0, .ref h0)] dX8_slotsWithRows_3 (by decide) rfl ?_
  refine r_sub [2, 1, 0] [(0, .ref h0), (1, .int (0 : Int32)), (2, .int (0 : Int32))] rfl ?_
  exact p_X8_slotsWithRows_L4 C X  n S h0 (0 : Int32) (0 : Int32) th0
set_option maxRecDepth 100000 in
set_option maxHeartbeats 4000000 in
theorem c_X8_cutToWidth (l : Launch) (E : EN) (n : Nat) (x0 : Int64) (x2 : Int32) : CT l E yX8_cutToWidth cX8_cutToWidth 3 (some .long) 0 0 wJ tT [.long x0, .int x2] (fun S => f_X8_cutToWidth E n S x0 x2) := by
  refine ct_of RX8 (by decide +kernel) rfl [(0, .long x0), (2, .int x2)] rfl (Nat.le_of_ble_eq_true rfl) (fun A S hA C X => ?_)
  subst hA
  show Gd A E 3 (QM A E wJ tT) (f_X8_cutToWidth E n S x0 x2) S 0 [(0, .long x0), (2, .int x2)] []
  unfold f_X8_cutToWidth
  refine r_iload_n C 1 dX8_cutToWidth_0 rfl ?_
  refine r_ite (fun hs0 => ?_) (fun hs0 => ?_)
  · refine r_swIn C 0 28 dX8_cutToWidth_1 (by rw [hs0]; rfl) (by decide) (by decide) rfl (by decide) ?_
    refine r_lload_n C 0 dX8_cutToWidth_28 rfl ?_
    refine r_l2i C dX8_cutToWidth_29 ?_
    refine r_i2b C dX8_cutToWidth_30 ?_
    refine r_i2l C dX8_cutToWidth_31 ?_
    exact r_lreturn C X dX8_cutToWidth_32
  refine r_ite (fun hs1 => ?_) (fun hs1 => ?_)
  · refine r_swIn C 1 33 dX8_cutToWidth_1 (by rw [hs1]; rfl) (by decide) (by decide) rfl (by decide) ?_
    refine r_lload_n C 0 dX8_cutToWidth_33 rfl ?_
    refine r_l2i C dX8_cutToWidth_34 ?_
    refine r_i2s C dX8_cutToWidth_35 ?_
    refine r_i2l C dX8_cutToWidth_36 ?_
    exact r_lreturn C X dX8_cutToWidth_37
  refine r_ite (fun hs2 => ?_) (fun hs2 => ?_)
  · refine r_swIn C 2 38 dX8_cutToWidth_1 (by rw [hs2]; rfl) (by decide) (by decide) rfl (by decide) ?_
    refine r_lload_n C 0 dX8_cutToWidth_38 rfl ?_
    refine r_l2i C dX8_cutToWidth_39 ?_
    refine r_i2l C dX8_cutToWidth_40 ?_
    exact r_lreturn C X dX8_cutToWidth_41
  refine r_swOut C 42 dX8_cutToWidth_1 (by have z0 := lv_neT hs0 (a := 0) rfl; have z1 := lv_neT hs1 (a := 1) rfl; have z2 := lv_neT hs2 (a := 2) rfl;  omega) (by decide) ?_
  refine r_lload_n C 0 dX8_cutToWidth_42 rfl ?_
  exact r_lreturn C X dX8_cutToWidth_43
set_option maxRecDepth 100000 in
set_option maxHeartbeats 4000000 in
theorem c_X8_paste (l : Launch) (E : EN) (n : Nat) (h0 : Nat) (x1 : Int32) (x2 : Int32) (x3 : Int32) (x4 : Int32) (x5 : Int32) (th0 : Ty E h0 7) : CT l E yX8_paste cX8_paste 8 (some .int) 1 30 wI tT [.ref h0, .int x1, .int x2, .int x3, .int x4, .int x5] (fun S => f_X8_paste E n S h0 x1 x2 x3 x4 x5) := by
  refine ct_of RX8 (by decide +kernel) rfl [(0, .ref h0), (1, .int x1), (2, .int x2), (3, .int x3), (4, .int x4), (5, .int x5)] rfl (Nat.le_of_ble_eq_true rfl) (fun A S hA C X => ?_)
  subst hA
  show Gd A E 8 (QM A E wI tT) (f_X8_paste E n S h0 x1 x2 x3 x4 x5) S 0 [(0, .ref h0), (1, .int x1), (2, .int x2), (3, .int x3), (4, .int x4), (5, .int x5)] []
  unfold f_X8_paste
  refine r_aload_n C 0 dX8_paste_0 rfl ?_
  refine r_iload_n C 1 dX8_paste_1 rfl ?_
  refine r_callV (As := [.int x1]) (rest := []) C (c_X8_slotAt _ E n h0 x1 th0) dX8_paste_2 ml_X8_333 mv_X8_slotAt ⟨TX8, _, rfl⟩ (by decide) th0 rfl rfl ⟨by decide, by decide⟩ (Nat.le_of_ble_eq_true rfl) (fun v2 S1 hv2 => ?_)
  refine r_opt hv2 ?_ (fun b3 tb3 => ?_)
  · refine r_astoreN C [(6, .null), (0, .ref h0), (1, .int x1), (2, .int x2), (3, .int x3), (4, .int x4), (5, .int x5)] dX8_paste_5 (by decide) rfl ?_
    refine r_aload_n C 1 dX8_paste_7 rfl ?_
    refine r_iload_n C 4 dX8_paste_8 rfl ?_
    refine r_callV (As := [.int x3]) (rest := []) C (c_X8_slotAt _ E n h0 x3 th0) dX8_paste_9 ml_X8_333 mv_X8_slotAt ⟨TX8, _, rfl⟩ (by decide) th0 rfl rfl ⟨by decide, by decide⟩ (Nat.le_of_ble_eq_true rfl) (fun v5 S4 hv5 => ?_)
    refine r_opt hv5 ?_ (fun b6 tb6 => ?_)
    · refine r_astoreN C [(7, .null), (6, .null), (0, .ref h0), (1, .int x1), (2, .int x2), (3, .int x3), (4, .int x4), (5, .int x5)] dX8_paste_12 (by decide) rfl ?_
      refine r_aloadN C 1 dX8_paste_14 rfl ?_
      refine r_ifnullN C 24 dX8_paste_16 (by decide) ?_
      refine r_bipush C (-2 : Int32) dX8_paste_24 (by decide) ?_
      exact r_ireturn C X dX8_paste_26
    · refine r_astore C [(7, .ref b6), (6, .null), (0, .ref h0), (1, .int x1), (2, .int x2), (3, .int x3), (4, .int x4), (5, .int x5)] dX8_paste_12 (by decide) rfl ?_
      refine r_aloadN C 1 dX8_paste_14 rfl ?_
      refine r_ifnullN C 24 dX8_paste_16 (by decide) ?_
      refine r_bipush C (-2 : Int32) dX8_paste_24 (by decide) ?_
      exact r_ireturn C X dX8_paste_26
  · refine r_astore C [(6, .ref b3), (0, .ref h0), (1, .int x1), (2, .int x2), (3, .int x3), (4, .int x4), (5, .int x5)] dX8_paste_5 (by decide) rfl ?_
    refine r_aload_n C 1 dX8_paste_7 rfl ?_
    refine r_iload_n C 4 dX8_paste_8 rfl ?_
    refine r_callV (As := [.int x3]) (rest := []) C (c_X8_slotAt _ E n h0 x3 th0) dX8_paste_9 ml_X8_333 mv_X8_slotAt ⟨TX8, _, rfl⟩ (by decide) th0 rfl rfl ⟨by decide, by decide⟩ (Nat.le_of_ble_eq_true rfl) (fun v8 S7 hv8 => ?_)
    refine r_opt hv8 ?_ (fun b9 tb9 => ?_)
    · refine r_astoreN C [(7, .null), (6, .ref b3), (0, .ref h0), (1, .int x1), (2, .int x2), (3, .int x3), (4, .int x4), (5, .int x5)] dX8_paste_12 (by decide) rfl ?_
      refine r_aload C 1 dX8_paste_14 rfl ?_
      refine r_ifnull C dX8_paste_16 ?_
      refine r_aloadN C 0 dX8_paste_19 rfl ?_
      refine r_ifnonnullN C dX8_paste_21 ?_
      refine r_bipush C (-2 : Int32) dX8_paste_24 (by decide) ?_
      exact r_ireturn C X dX8_paste_26
    · refine r_astore C [(7, .ref b9), (6, .ref b3), (0, .ref h0), (1, .int x1), (2, .int x2), (3, .int x3), (4, .int x4), (5, .int x5)] dX8_paste_12 (by decide) rfl ?_
      refine r_aload C 1 dX8_paste_14 rfl ?_
      refine r_ifnull C dX8_paste_16 ?_
      refine r_aload C 0 dX8_paste_19 rfl ?_
      refine r_ifnonnull C 27 dX8_paste_21 (by decide) ?_
      refine r_aload C 1 dX8_paste_27 rfl ?_
      refine r_geti C fl_X8_326 dX8_paste_29 tb3 ?_
      refine r_iconst C (-1 : Int32) dX8_paste_32 (by decide) ?_
      refine r_icmp_eq C 45 dX8_paste_33 (by decide) ?_ ?_
      · refine r_bipush C (-6 : Int32) dX8_paste_45 (by decide) ?_
        exact r_ireturn C X dX8_paste_47
      · refine r_aload C 0 dX8_paste_36 rfl ?_
        refine r_geti C fl_X8_326 dX8_paste_38 tb9 ?_
        refine r_iconst C (-1 : Int32) dX8_paste_41 (by decide) ?_
        refine r_icmp_ne C 48 dX8_paste_42 (by decide) ?_ ?_
        · refine r_aload C 1 dX8_paste_48 rfl ?_
          refine r_geti C fl_X8_407 dX8_paste_50 tb3 ?_
          refine r_aload C 0 dX8_paste_53 rfl ?_
          refine r_geti C fl_X8_407 dX8_paste_55 tb9 ?_
          refine r_icmp_eq C 64 dX8_paste_58 (by decide) ?_ ?_
          · refine r_aload C 1 dX8_paste_64 rfl ?_
            refine r_iload_n C 4 dX8_paste_66 rfl ?_
            refine r_iload C 7 dX8_paste_67 rfl ?_
            refine r_callV (As := [.int x2, .int x5]) (rest := []) C (c_X6_holds _ E n b3 x2 x5 tb3) dX8_paste_69 ml_X8_420 mv_X6_holds ⟨TX6, _, rfl⟩ (by decide) tb3 rfl rfl ⟨by decide, by decide⟩ (Nat.le_of_ble_eq_true rfl) (fun v11 S10 hv11 => ?_)
            refine r_if_eq C 87 dX8_paste_72 (by decide) ?_ ?_
            · refine r_bipush C (-7 : Int32) dX8_paste_87 (by decide) ?_
              exact r_ireturn C X dX8_paste_89
            · refine r_aload C 0 dX8_paste_75 rfl ?_
              refine r_iload C 6 dX8_paste_77 rfl ?_
              refine r_iload C 7 dX8_paste_79 rfl ?_
              refine r_callV (As := [.int x4, .int x5]) (rest := []) C (c_X6_holds _ E n b9 x4 x5 tb9) dX8_paste_81 ml_X8_420 mv_X6_holds ⟨TX6, _, rfl⟩ (by decide) tb9 rfl rfl ⟨by decide, by decide⟩ (Nat.le_of_ble_eq_true rfl) (fun v13 S12 hv13 => ?_)
              refine r_if_ne C 90 dX8_paste_84 (by decide) ?_ ?_
              · refine r_aload C 1 dX8_paste_90 rfl ?_
                refine r_getr C fl_X8_410 dX8_paste_92 tb3 (fun b14 tb14 => ?_)
                refine r_iload_n C 4 dX8_paste_95 rfl ?_
                refine r_aload C 0 dX8_paste_96 rfl ?_
                refine r_getr C fl_X8_410 dX8_paste_98 tb9 (fun b15 tb15 => ?_)
                refine r_iload C 6 dX8_paste_101 rfl ?_
                refine r_iload C 7 dX8_paste_103 rfl ?_
                refine r_copyl C (mG 925 (by decide +kernel) rfl) mcopy_w ⟨by decide, by decide⟩ (Nat.le_of_ble_eq_true rfl) tb14 tb15 dX8_paste_105 (fun S16 => ?_)
                refine r_iconst C (0 : Int32) dX8_paste_108 (by decide) ?_
                exact r_ireturn C X dX8_paste_109
              · refine r_bipush C (-7 : Int32) dX8_paste_87 (by decide) ?_
                exact r_ireturn C X dX8_paste_89
          · refine r_bipush C (-8 : Int32) dX8_paste_61 (by decide) ?_
            exact r_ireturn C X dX8_paste_63
        · refine r_bipush C (-6 : Int32) dX8_paste_45 (by decide) ?_
          exact r_ireturn C X dX8_paste_47
set_option maxRecDepth 100000 in
set_option maxHeartbeats 4000000 in
theorem c_X8_copyRow (l : Launch) (E : EN) (n : Nat) (h0 : Nat) (h1 : Nat) (th0 : Ty E h0 10) (th1 : Ty E h1 10) : CT l E yX8_copyRow cX8_copyRow 2 none 1 30 wV tT [.ref h0, .ref h1] (fun S => f_X8_copyRow E n S h0 h1) := by
  refine ct_of RX8 (by decide +kernel) rfl [(0, .ref h0), (1, .ref h1)] rfl (Nat.le_of_ble_eq_true rfl) (fun A S hA C X => ?_)
  subst hA
  show Gd A E 2 (QM A E wV tT) (f_X8_copyRow E n S h0 h1) S 0 [(0, .ref h0), (1, .ref h1)] []
  unfold f_X8_copyRow
  refine r_aload_n C 0 dX8_copyRow_0 rfl ?_
  refine r_iconst C (0 : Int32) dX8_copyRow_1 (by decide) ?_
  refine r_aload_n C 1 dX8_copyRow_2 rfl ?_
  refine r_iconst C (0 : Int32) dX8_copyRow_3 (by decide) ?_
  refine r_aload_n C 0 dX8_copyRow_4 rfl ?_
  refine r_alen C (k := 10) rfl (by decide) dX8_copyRow_5 th0 ?_
  refine r_aload_n C 1 dX8_copyRow_6 rfl ?_
  refine r_alen C (k := 10) rfl (by decide) dX8_copyRow_7 th1 ?_
  refine r_mmin C (mG 924 (by decide +kernel) rfl) mmin_w ⟨by decide, by decide⟩ (Nat.le_of_ble_eq_true rfl) dX8_copyRow_8 ?_
  refine r_copyi C (mG 925 (by decide +kernel) rfl) mcopy_w ⟨by decide, by decide⟩ (Nat.le_of_ble_eq_true rfl) th0 th1 dX8_copyRow_11 (fun S1 => ?_)
  exact r_return C X dX8_copyRow_14
set_option maxRecDepth 100000 in
set_option maxHeartbeats 4000000 in
theorem c_X8_roundedUp (l : Launch) (E : EN) (n : Nat) (x0 : Int32) (x1 : Int32) : CT l E yX8_roundedUp cX8_roundedUp 2 (some .int) 0 0 wI tT [.int x0, .int x1] (fun S => f_X8_roundedUp E n S x0 x1) := by
  refine ct_of RX8 (by decide +kernel) rfl [(0, .int x0), (1, .int x1)] rfl (Nat.le_of_ble_eq_true rfl) (fun A S hA C X => ?_)
  subst hA
  show Gd A E 2 (QM A E wI tT) (f_X8_roundedUp E n S x0 x1) S 0 [(0, .int x0), (1, .int x1)] []
  unfold f_X8_roundedUp
  refine r_iload_n C 1 dX8_roundedUp_0 rfl ?_
  refine r_if_le C 14 dX8_roundedUp_1 (by decide) ?_ ?_
  · refine r_iconst C (0 : Int32) dX8_roundedUp_14 (by decide) ?_
    exact r_ireturn C X dX8_roundedUp_15
  · refine r_iload_n C 0 dX8_roundedUp_4 rfl ?_
    refine r_iload_n C 1 dX8_roundedUp_5 rfl ?_
    refine r_iadd C dX8_roundedUp_6 ?_
    refine r_iconst C (1 : Int32) dX8_roundedUp_7 (by decide) ?_
    refine r_isub C dX8_roundedUp_8 ?_
    refine r_iload_n C 1 dX8_roundedUp_9 rfl ?_
    refine r_idiv C dX8_roundedUp_10 ?_
    refine r_goto C 15 dX8_roundedUp_11 (by decide) ?_
    exact r_ireturn C X dX8_roundedUp_15
set_option maxRecDepth 100000 in
set_option maxHeartbeats 4000000 in
theorem c_X8_lacking (l : Launch) (E : EN) (n : Nat) (x0 : Int32) (x1 : Int32) (x2 : Int32) : CT l E yX8_lacking cX8_lacking 3 (some .int) 1 21 wI tT [.int x0, .int x1, .int x2] (fun S => f_X8_lacking E n S x0 x1 x2) := by
  refine ct_of RX8 (by decide +kernel) rfl [(0, .int x0), (1, .int x1), (2, .int x2)] rfl (Nat.le_of_ble_eq_true rfl) (fun A S hA C X => ?_)
  subst hA
  show Gd A E 3 (QM A E wI tT) (f_X8_lacking E n S x0 x1 x2) S 0 [(0, .int x0), (1, .int x1), (2, .int x2)] []
  unfold f_X8_lacking
  refine r_iload_n C 0 dX8_lacking_0 rfl ?_
  refine r_iload_n C 2 dX8_lacking_1 rfl ?_
  refine r_iload_n C 1 dX8_lacking_2 rfl ?_
  refine r_iconst C (1 : Int32) dX8_lacking_3 (by decide) ?_
  refine r_iadd C dX8_lacking_4 ?_
  refine r_imul C dX8_lacking_5 ?_
  refine r_icmp_gt C 11 dX8_lacking_6 (by decide) ?_ ?_
  · refine r_iload_n C 2 dX8_lacking_11 rfl ?_
    refine r_if_ne C 19 dX8_lacking_12 (by decide) ?_ ?_
    · refine r_iload_n C 0 dX8_lacking_19 rfl ?_
      refine r_iload_n C 2 dX8_lacking_20 rfl ?_
      refine r_callS (As := [.int x0, .int x2]) (rest := []) C (c_X8_roundedUp _ E n x0 x2 ) dX8_lacking_21 ml_X8_429 mv_X8_roundedUp rfl rfl ⟨by decide, by decide⟩ (Nat.le_of_ble_eq_true rfl) (fun v2 S1 hv2 => ?_)
      refine r_iconst C (1 : Int32) dX8_lacking_24 (by decide) ?_
      refine r_isub C dX8_lacking_25 ?_
      refine r_iload_n C 1 dX8_lacking_26 rfl ?_
      refine r_isub C dX8_lacking_27 ?_
      exact r_ireturn C X dX8_lacking_28
    · refine r_iconst C (-1 : Int32) dX8_lacking_15 (by decide) ?_
      refine r_goto C 28 dX8_lacking_16 (by decide) ?_
      exact r_ireturn C X dX8_lacking_28
  · refine r_iconst C (0 : Int32) dX8_lacking_9 (by decide) ?_
    exact r_ireturn C X dX8_lacking_10
set_option maxRecDepth 100000 in
set_option maxHeartbeats 4000000 in
theorem c_X9_in (l : Launch) (E : EN) (n : Nat) (x0 : Int64) (x2 : Int64) (x4 : Int64) : CT l E yX9_in cX9_in 6 (some .boolean) 0 0 wI tT [.long x0, .long x2, .long x4] (fun S => f_X9_in E n S x0 x2 x4) := by
  refine ct_of RX9 (by decide +kernel) rfl [(0, .long x0), (2, .long x2), (4, .long x4)] rfl (Nat.le_of_ble_eq_true rfl) (fun A S hA C X => ?_)
  subst hA
  show Gd A E 6 (QM A E wI tT) (f_X9_in E n S x0 x2 x4) S 0 [(0, .long x0), (2, .long x2), (4, .long x4)] []
  unfold f_X9_in
  refine r_lload_n C 0 dX9_in_0 rfl ?_
  refine r_lload_n C 1 dX9_in_1 rfl ?_
  refine r_lcmp C dX9_in_2 ?_
  refine r_if_lt C 17 dX9_in_3 (by decide) ?_ ?_
  · refine r_iconst C (0 : Int32) dX9_in_17 (by decide) ?_
    exact r_zreturn C X rfl dX9_in_18
  · refine r_lload_n C 0 dX9_in_6 rfl ?_
    refine r_lload C 2 dX9_in_7 rfl ?_
    refine r_lcmp C dX9_in_9 ?_
    refine r_if_gt C 17 dX9_in_10 (by decide) ?_ ?_
    · refine r_iconst C (0 : Int32) dX9_in_17 (by decide) ?_
      exact r_zreturn C X rfl dX9_in_18
    · refine r_iconst C (1 : Int32) dX9_in_13 (by decide) ?_
      refine r_goto C 18 dX9_in_14 (by decide) ?_
      exact r_zreturn C X rfl dX9_in_18
set_option maxRecDepth 100000 in
set_option maxHeartbeats 4000000 in
theorem p_X9_image_L17 {A : AM} {E : EN} {n : Nat} (C : Cx A E cX9_image 3 RX9 1 25) (X : Ex A E (some .int))  : ∀ (m : Nat) (S : WS) (h0 : Nat) (x1 : Int32) (x2 : Int32) (th0 : Ty E h0 8), Gd A E 3 (QM A E wI tT) (f_X9_image_L17 E n  m S h0 x1 x2) S 17 [(0, .ref h0), (1, .int x1), (2, .int x2)] [] := by
  intro m
  induction m with
  | zero => intros; exact gn
  | succ m ih =>
    intro S h0 x1 x2 th0
    unfold f_X9_image_L17
    refine r_iload_n C 2 dX9_image_17 rfl ?_
    refine r_bipush C (109 : Int32) dX9_image_18 (by decide) ?_
    refine r_icmp_ge C 46 dX9_image_20 (by decide) ?_ ?_
    · refine r_aload_n C 0 dX9_image_46 rfl ?_
      refine r_getr C fl_X9_16 dX9_image_47 th0 (fun b1 tb1 => ?_)
      refine r_iload_n C 1 dX9_image_50 rfl ?_
      refine r_iconst C (1 : Int32) dX9_image_51 (by decide) ?_
      refine r_zast C dX9_image_52 tb1 (fun S2 => ?_)
      refine r_iconst C (0 : Int32) dX9_image_53 (by decide) ?_
      exact r_ireturn C X dX9_image_54
    · refine r_aload_n C 0 dX9_image_23 rfl ?_
      refine r_getr C fl_X9_13 dX9_image_24 th0 (fun b3 tb3 => ?_)
      refine r_bipush C (109 : Int32) dX9_image_27 (by decide) ?_
      refine r_iload_n C 1 dX9_image_29 rfl ?_
      refine r_imul C dX9_image_30 ?_
      refine r_iload_n C 2 dX9_image_31 rfl ?_
      refine r_iadd C dX9_image_32 ?_
      refine r_aload_n C 0 dX9_image_33 rfl ?_
      refine r_getr C fl_X9_9 dX9_image_34 th0 (fun b4 tb4 => ?_)
      refine r_iload_n C 2 dX9_image_37 rfl ?_
      refine r_iald C dX9_image_38 tb4 ?_
      refine r_iast C dX9_image_39 tb3 (fun S5 => ?_)
      refine r_iinc C 2 (fun y6 => [(2, .int y6), (0, .ref h0), (1, .int x1)]) dX9_image_40 rfl (v := (1 : Int32)) (by decide) (by decide) (fun _ => rfl) (fun y6 => ?_)
      refine r_goto C 17 dX9_image_43 (by decide) ?_
      refine r_sub [1, 2, 0] [(0, .ref h0), (1, .int x1), (2, .int y6)] rfl ?_
      exact ih S5 h0 x1 y6 th0
set_option maxRecDepth 100000 in
set_option maxHeartbeats 4000000 in
theorem c_X9_image (l : Launch) (E : EN) (n : Nat) (h0 : Nat) (x1 : Int32) (th0 : Ty E h0 8) : CT l E yX9_image cX9_image 3 (some .int) 1 25 wI tT [.ref h0, .int x1] (fun S => f_X9_image E n S h0 x1) := by
  refine ct_of RX9 (by decide +kernel) rfl [(0, .ref h0), (1, .int x1)] rfl (Nat.le_of_ble_eq_true rfl) (fun A S hA C X => ?_)
  subst hA
  show Gd A E 3 (QM A E wI tT) (f_X9_image E n S h0 x1) S 0 [(0, .ref h0), (1, .int x1)] []
  unfold f_X9_image
  refine r_iload_n C 1 dX9_image_0 rfl ?_
  refine r_i2l C dX9_image_1 ?_
  refine r_lconst C (0 : Int64) dX9_image_2 (by decide) ?_
  refine r_ldc2 C (2 : Int64) (mG 1379 (by decide +kernel) rfl) dX9_image_3 ?_
  refine r_callS (As := [.long (x1.toInt64), .long (0 : Int64), .long (2 : Int64)]) (rest := []) C (c_X9_in _ E n (x1.toInt64) (0 : Int64) (2 : Int64) ) dX9_image_6 ml_X9_82 mv_X9_in rfl rfl ⟨by decide, by decide⟩ (Nat.le_of_ble_eq_true rfl) (fun v2 S1 hv2 => ?_)
  refine r_if_ne C 15 dX9_image_9 (by decide) ?_ ?_
  · refine r_iconst C (0 : Int32) dX9_image_15 (by decide) ?_
    refine r_istore_n C [(2, .int (0 : Int32)), (0, .ref h0), (1, .int x1)] dX9_image_16 (by decide) rfl ?_
    refine r_sub [1, 2, 0] [(0, .ref h0), (1, .int x1), (2, .int (0 : Int32))] rfl ?_
    exact p_X9_image_L17 C X  n S1 h0 x1 (0 : Int32) th0
  · refine r_bipush C (-2 : Int32) dX9_image_12 (by decide) ?_
    exact r_ireturn C X dX9_image_14
