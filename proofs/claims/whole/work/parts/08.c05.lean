/-! THE CONTRACTS, by program -/
set_option maxRecDepth 100000 in
set_option maxHeartbeats 4000000 in
theorem p_X9_whose_L18 {A : AM} {E : EN} {n : Nat} (C : Cx A E cX9_whose 6 RX9 3 69) (X : Ex A E (some .int))  : ∀ (m : Nat) (S : WS) (h0 : Nat) (x1 : Int32) (x2 : Int32) (x3 : Int32) (x4 : Int32) (x5 : Int32) (th0 : Ty E h0 8), Gd A E 6 (QM A E wI tT) (f_X9_whose_L18 E n  m S h0 x1 x2 x3 x4 x5) S 18 [(0, .ref h0), (1, .int x1), (2, .int x2), (3, .int x3), (4, .int x4), (5, .int x5)] [] := by
  intro m
  induction m with
  | zero => intros; exact gn
  | succ m ih =>
    intro S h0 x1 x2 x3 x4 x5 th0
    unfold f_X9_whose_L18
    refine r_iload C 5 dX9_whose_18 rfl ?_
    refine r_aload_n C 0 dX9_whose_20 rfl ?_
    refine r_getr C fl_X9_9 dX9_whose_21 th0 (fun b1 tb1 => ?_)
    refine r_iconst C (4 : Int32) dX9_whose_24 (by decide) ?_
    refine r_iald C dX9_whose_25 tb1 ?_
    refine r_icmp_ge C 61 dX9_whose_26 (by decide) ?_ ?_
    · refine r_iconst C (-1 : Int32) dX9_whose_61 (by decide) ?_
      exact r_ireturn C X dX9_whose_62
    · refine r_aload_n C 0 dX9_whose_29 rfl ?_
      refine r_iload C 5 dX9_whose_30 rfl ?_
      refine r_iload_n C 1 dX9_whose_32 rfl ?_
      refine r_iload_n C 2 dX9_whose_33 rfl ?_
      refine r_callV (As := [.int x5, .int x1, .int x2]) (rest := []) C (c_X9_hasStep _ E n h0 x5 x1 x2 th0) dX9_whose_34 ml_X9_253 mv_X9_hasStep ⟨TX9, _, rfl⟩ (by decide) th0 rfl rfl ⟨by decide, by decide⟩ (Nat.le_of_ble_eq_true rfl) (fun v3 S2 hv3 => ?_)
      refine r_if_ne C 43 dX9_whose_37 (by decide) ?_ ?_
      · refine r_iload C 4 dX9_whose_43 rfl ?_
        refine r_iload_n C 3 dX9_whose_45 rfl ?_
        refine r_icmp_ne C 52 dX9_whose_46 (by decide) ?_ ?_
        · refine r_iinc C 4 (fun y4 => [(4, .int y4), (0, .ref h0), (1, .int x1), (2, .int x2), (3, .int x3), (5, .int x5)]) dX9_whose_52 rfl (v := (1 : Int32)) (by decide) (by decide) (fun _ => rfl) (fun y4 => ?_)
          refine r_iinc C 5 (fun y5 => [(5, .int y5), (4, .int y4), (0, .ref h0), (1, .int x1), (2, .int x2), (3, .int x3)]) dX9_whose_55 rfl (v := (1 : Int32)) (by decide) (by decide) (fun _ => rfl) (fun y5 => ?_)
          refine r_goto C 18 dX9_whose_58 (by decide) ?_
          refine r_sub [2, 3, 4, 5, 1, 0] [(0, .ref h0), (1, .int x1), (2, .int x2), (3, .int x3), (4, .int y4), (5, .int y5)] rfl ?_
          exact ih S2 h0 x1 x2 x3 y4 y5 th0
        · refine r_iload C 5 dX9_whose_49 rfl ?_
          exact r_ireturn C X dX9_whose_51
      · refine r_goto C 55 dX9_whose_40 (by decide) ?_
        refine r_iinc C 5 (fun y6 => [(5, .int y6), (0, .ref h0), (1, .int x1), (2, .int x2), (3, .int x3), (4, .int x4)]) dX9_whose_55 rfl (v := (1 : Int32)) (by decide) (by decide) (fun _ => rfl) (fun y6 => ?_)
        refine r_goto C 18 dX9_whose_58 (by decide) ?_
        refine r_sub [1, 2, 3, 4, 5, 0] [(0, .ref h0), (1, .int x1), (2, .int x2), (3, .int x3), (4, .int x4), (5, .int y6)] rfl ?_
        exact ih S2 h0 x1 x2 x3 x4 y6 th0
set_option maxRecDepth 100000 in
set_option maxHeartbeats 4000000 in
theorem c_X9_whose (l : Launch) (E : EN) (n : Nat) (h0 : Nat) (x1 : Int32) (x2 : Int32) (x3 : Int32) (th0 : Ty E h0 8) : CT l E yX9_whose cX9_whose 6 (some .int) 3 69 wI tT [.ref h0, .int x1, .int x2, .int x3] (fun S => f_X9_whose E n S h0 x1 x2 x3) := by
  refine ct_of RX9 (by decide +kernel) rfl [(0, .ref h0), (1, .int x1), (2, .int x2), (3, .int x3)] rfl (Nat.le_of_ble_eq_true rfl) (fun A S hA C X => ?_)
  subst hA
  show Gd A E 6 (QM A E wI tT) (f_X9_whose E n S h0 x1 x2 x3) S 0 [(0, .ref h0), (1, .int x1), (2, .int x2), (3, .int x3)] []
  unfold f_X9_whose
  refine r_aload_n C 0 dX9_whose_0 rfl ?_
  refine r_iload_n C 1 dX9_whose_1 rfl ?_
  refine r_iload_n C 2 dX9_whose_2 rfl ?_
  refine r_callV (As := [.int x1, .int x2]) (rest := []) C (c_X9_areSo _ E n h0 x1 x2 th0) dX9_whose_3 ml_X9_295 mv_X9_areSo ⟨TX9, _, rfl⟩ (by decide) th0 rfl rfl ⟨by decide, by decide⟩ (Nat.le_of_ble_eq_true rfl) (fun v2 S1 hv2 => ?_)
  refine r_if_ne C 12 dX9_whose_6 (by decide) ?_ ?_
  · refine r_iconst C (0 : Int32) dX9_whose_12 (by decide) ?_
    refine r_istore C [(4, .int (0 : Int32)), (0, .ref h0), (1, .int x1), (2, .int x2), (3, .int x3)] dX9_whose_13 (by decide) rfl ?_
    refine r_iconst C (0 : Int32) dX9_whose_15 (by decide) ?_
    refine r_istore C [(5, .int (0 : Int32)), (4, .int (0 : Int32)), (0, .ref h0), (1, .int x1), (2, .int x2), (3, .int x3)] dX9_whose_16 (by decide) rfl ?_
    refine r_sub [2, 3, 4, 5, 1, 0] [(0, .ref h0), (1, .int x1), (2, .int x2), (3, .int x3), (4, .int (0 : Int32)), (5, .int (0 : Int32))] rfl ?_
    exact p_X9_whose_L18 C X  n S1 h0 x1 x2 x3 (0 : Int32) (0 : Int32) th0
  · refine r_bipush C (-2 : Int32) dX9_whose_9 (by decide) ?_
    exact r_ireturn C X dX9_whose_11
set_option maxRecDepth 100000 in
set_option maxHeartbeats 4000000 in
theorem c_X9_leap (l : Launch) (E : EN) (n : Nat) (h0 : Nat) (x1 : Int32) (x2 : Int32) (th0 : Ty E h0 8) : CT l E yX9_leap cX9_leap 3 (some .int) 4 95 wI tT [.ref h0, .int x1, .int x2] (fun S => f_X9_leap E n S h0 x1 x2) := by
  refine ct_of RX9 (by decide +kernel) rfl [(0, .ref h0), (1, .int x1), (2, .int x2)] rfl (Nat.le_of_ble_eq_true rfl) (fun A S hA C X => ?_)
  subst hA
  show Gd A E 3 (QM A E wI tT) (f_X9_leap E n S h0 x1 x2) S 0 [(0, .ref h0), (1, .int x1), (2, .int x2)] []
  unfold f_X9_leap
  refine r_aload_n C 0 dX9_leap_0 rfl ?_
  refine r_iload_n C 1 dX9_leap_1 rfl ?_
  refine r_iload_n C 2 dX9_leap_2 rfl ?_
  refine r_callV (As := [.int x1, .int x2]) (rest := []) C (c_X9_areSo _ E n h0 x1 x2 th0) dX9_leap_3 ml_X9_295 mv_X9_areSo ⟨TX9, _, rfl⟩ (by decide) th0 rfl rfl ⟨by decide, by decide⟩ (Nat.le_of_ble_eq_true rfl) (fun v2 S1 hv2 => ?_)
  refine r_if_eq C 18 dX9_leap_6 (by decide) ?_ ?_
  · refine r_bipush C (-2 : Int32) dX9_leap_18 (by decide) ?_
    exact r_ireturn C X dX9_leap_20
  · refine r_aload_n C 0 dX9_leap_9 rfl ?_
    refine r_iload_n C 1 dX9_leap_10 rfl ?_
    refine r_iload_n C 2 dX9_leap_11 rfl ?_
    refine r_callV (As := [.int x1, .int x2]) (rest := []) C (c_X9_leapNow _ E n h0 x1 x2 th0) dX9_leap_12 ml_X9_298 mv_X9_leapNow ⟨TX9, _, rfl⟩ (by decide) th0 rfl rfl ⟨by decide, by decide⟩ (Nat.le_of_ble_eq_true rfl) (fun v4 S3 hv4 => ?_)
    refine r_goto C 20 dX9_leap_15 (by decide) ?_
    exact r_ireturn C X dX9_leap_20
set_option maxRecDepth 100000 in
set_option maxHeartbeats 4000000 in
theorem p_X9_rots_L16 {A : AM} {E : EN} {n : Nat} (C : Cx A E cX9_rots 4 RX9 3 73) (X : Ex A E (some .int))  : ∀ (m : Nat) (S : WS) (h0 : Nat) (x1 : Int32) (x2 : Int32) (x3 : Int32) (th0 : Ty E h0 8), Gd A E 4 (QM A E wI tT) (f_X9_rots_L16 E n  m S h0 x1 x2 x3) S 16 [(0, .ref h0), (1, .int x1), (2, .int x2), (3, .int x3)] [] := by
  intro m
  induction m with
  | zero => intros; exact gn
  | succ m ih =>
    intro S h0 x1 x2 x3 th0
    unfold f_X9_rots_L16
    refine r_iload_n C 3 dX9_rots_16 rfl ?_
    refine r_aload_n C 0 dX9_rots_17 rfl ?_
    refine r_getr C fl_X9_9 dX9_rots_18 th0 (fun b1 tb1 => ?_)
    refine r_iconst C (1 : Int32) dX9_rots_21 (by decide) ?_
    refine r_iald C dX9_rots_22 tb1 ?_
    refine r_icmp_ge C 47 dX9_rots_23 (by decide) ?_ ?_
    · refine r_iload_n C 2 dX9_rots_47 rfl ?_
      refine r_iconst C (-1 : Int32) dX9_rots_48 (by decide) ?_
      refine r_icmp_eq C 64 dX9_rots_49 (by decide) ?_ ?_
      · refine r_iconst C (-1 : Int32) dX9_rots_64 (by decide) ?_
        exact r_ireturn C X dX9_rots_65
      · refine r_iload_n C 2 dX9_rots_52 rfl ?_
        refine r_aload_n C 0 dX9_rots_53 rfl ?_
        refine r_getr C fl_X9_9 dX9_rots_54 th0 (fun b2 tb2 => ?_)
        refine r_iconst C (1 : Int32) dX9_rots_57 (by decide) ?_
        refine r_iald C dX9_rots_58 tb2 ?_
        refine r_iconst C (1 : Int32) dX9_rots_59 (by decide) ?_
        refine r_isub C dX9_rots_60 ?_
        refine r_icmp_ne C 66 dX9_rots_61 (by decide) ?_ ?_
        · refine r_iload_n C 2 dX9_rots_66 rfl ?_
          refine r_iconst C (1 : Int32) dX9_rots_67 (by decide) ?_
          refine r_iadd C dX9_rots_68 ?_
          exact r_ireturn C X dX9_rots_69
        · refine r_iconst C (-1 : Int32) dX9_rots_64 (by decide) ?_
          exact r_ireturn C X dX9_rots_65
    · refine r_aload_n C 0 dX9_rots_26 rfl ?_
      refine r_iload_n C 1 dX9_rots_27 rfl ?_
      refine r_iload_n C 3 dX9_rots_28 rfl ?_
      refine r_callV (As := [.int x1, .int x3]) (rest := []) C (c_X9_stepsOf _ E n h0 x1 x3 th0) dX9_rots_29 ml_X9_260 mv_X9_stepsOf ⟨TX9, _, rfl⟩ (by decide) th0 rfl rfl ⟨by decide, by decide⟩ (Nat.le_of_ble_eq_true rfl) (fun v4 S3 hv4 => ?_)
      refine r_if_le C 39 dX9_rots_32 (by decide) ?_ ?_
      · refine r_iload_n C 2 dX9_rots_39 rfl ?_
        refine r_istore_n C [(2, .int x2), (0, .ref h0), (1, .int x1), (3, .int x3)] dX9_rots_40 (by decide) rfl ?_
        refine r_iinc C 3 (fun y5 => [(3, .int y5), (2, .int x2), (0, .ref h0), (1, .int x1)]) dX9_rots_41 rfl (v := (1 : Int32)) (by decide) (by decide) (fun _ => rfl) (fun y5 => ?_)
        refine r_goto C 16 dX9_rots_44 (by decide) ?_
        refine r_sub [2, 3, 1, 0] [(0, .ref h0), (1, .int x1), (2, .int x2), (3, .int y5)] rfl ?_
        exact ih S3 h0 x1 x2 y5 th0
      · refine r_iload_n C 3 dX9_rots_35 rfl ?_
        refine r_goto C 40 dX9_rots_36 (by decide) ?_
        refine r_istore_n C [(2, .int x3), (0, .ref h0), (1, .int x1), (3, .int x3)] dX9_rots_40 (by decide) rfl ?_
        refine r_iinc C 3 (fun y6 => [(3, .int y6), (2, .int x3), (0, .ref h0), (1, .int x1)]) dX9_rots_41 rfl (v := (1 : Int32)) (by decide) (by decide) (fun _ => rfl) (fun y6 => ?_)
        refine r_goto C 16 dX9_rots_44 (by decide) ?_
        refine r_sub [2, 3, 1, 0] [(0, .ref h0), (1, .int x1), (2, .int x3), (3, .int y6)] rfl ?_
        exact ih S3 h0 x1 x3 y6 th0
set_option maxRecDepth 100000 in
set_option maxHeartbeats 4000000 in
theorem c_X9_rots (l : Launch) (E : EN) (n : Nat) (h0 : Nat) (x1 : Int32) (th0 : Ty E h0 8) : CT l E yX9_rots cX9_rots 4 (some .int) 3 73 wI tT [.ref h0, .int x1] (fun S => f_X9_rots E n S h0 x1) := by
  refine ct_of RX9 (by decide +kernel) rfl [(0, .ref h0), (1, .int x1)] rfl (Nat.le_of_ble_eq_true rfl) (fun A S hA C X => ?_)
  subst hA
  show Gd A E 4 (QM A E wI tT) (f_X9_rots E n S h0 x1) S 0 [(0, .ref h0), (1, .int x1)] []
  unfold f_X9_rots
  refine r_aload_n C 0 dX9_rots_0 rfl ?_
  refine r_iload_n C 1 dX9_rots_1 rfl ?_
  refine r_i2l C dX9_rots_2 ?_
  refine r_callV (As := [.long (x1.toInt64)]) (rest := []) C (c_X9_isPath _ E n h0 (x1.toInt64) th0) dX9_rots_3 ml_X9_266 mv_X9_isPath ⟨TX9, _, rfl⟩ (by decide) th0 rfl rfl ⟨by decide, by decide⟩ (Nat.le_of_ble_eq_true rfl) (fun v2 S1 hv2 => ?_)
  refine r_if_ne C 12 dX9_rots_6 (by decide) ?_ ?_
  · refine r_iconst C (-1 : Int32) dX9_rots_12 (by decide) ?_
    refine r_istore_n C [(2, .int (-1 : Int32)), (0, .ref h0), (1, .int x1)] dX9_rots_13 (by decide) rfl ?_
    refine r_iconst C (0 : Int32) dX9_rots_14 (by decide) ?_
    refine r_istore_n C [(3, .int (0 : Int32)), (2, .int (-1 : Int32)), (0, .ref h0), (1, .int x1)] dX9_rots_15 (by decide) rfl ?_
    refine r_sub [2, 3, 1, 0] [(0, .ref h0), (1, .int x1), (2, .int (-1 : Int32)), (3, .int (0 : Int32))] rfl ?_
    exact p_X9_rots_L16 C X  n S1 h0 x1 (-1 : Int32) (0 : Int32) th0
  · refine r_bipush C (-2 : Int32) dX9_rots_9 (by decide) ?_
    exact r_ireturn C X dX9_rots_11
set_option maxRecDepth 100000 in
set_option maxHeartbeats 4000000 in
theorem p_X9_lacksOf_L23 {A : AM} {E : EN} {n : Nat} (C : Cx A E cX9_lacksOf 6 RX9 3 73) (X : Ex A E (some .int))  : ∀ (m : Nat) (S : WS) (h0 : Nat) (x1 : Int32) (x2 : Int32) (x3 : Int32) (x4 : Int32) (x5 : Int32) (th0 : Ty E h0 8), Gd A E 6 (QM A E wI tT) (f_X9_lacksOf_L23 E n  m S h0 x1 x2 x3 x4 x5) S 23 [(0, .ref h0), (1, .int x1), (2, .int x2), (3, .int x3), (4, .int x4), (5, .int x5)] [] := by
  intro m
  induction m with
  | zero => intros; exact gn
  | succ m ih =>
    intro S h0 x1 x2 x3 x4 x5 th0
    unfold f_X9_lacksOf_L23
    refine r_iload C 4 dX9_lacksOf_23 rfl ?_
    refine r_aload_n C 0 dX9_lacksOf_25 rfl ?_
    refine r_iload_n C 1 dX9_lacksOf_26 rfl ?_
    refine r_iload_n C 2 dX9_lacksOf_27 rfl ?_
    refine r_callV (As := [.int x1, .int x2]) (rest := [.int x4]) C (c_X9_stepsOf _ E n h0 x1 x2 th0) dX9_lacksOf_28 ml_X9_260 mv_X9_stepsOf ⟨TX9, _, rfl⟩ (by decide) th0 rfl rfl ⟨by decide, by decide⟩ (Nat.le_of_ble_eq_true rfl) (fun v2 S1 hv2 => ?_)
    refine r_iload C 5 dX9_lacksOf_31 rfl ?_
    refine r_iadd C dX9_lacksOf_33 ?_
    refine r_callS (As := [.int x4, .int (v2 + x5)]) (rest := []) C (c_X9_leapBy _ E n x4 (v2 + x5) ) dX9_lacksOf_34 ml_X9_263 mv_X9_leapBy rfl rfl ⟨by decide, by decide⟩ (Nat.le_of_ble_eq_true rfl) (fun v4 S3 hv4 => ?_)
    refine r_iload_n C 3 dX9_lacksOf_37 rfl ?_
    refine r_icmp_le C 47 dX9_lacksOf_38 (by decide) ?_ ?_
    · refine r_iload C 5 dX9_lacksOf_47 rfl ?_
      exact r_ireturn C X dX9_lacksOf_49
    · refine r_iinc C 5 (fun y5 => [(5, .int y5), (0, .ref h0), (1, .int x1), (2, .int x2), (3, .int x3), (4, .int x4)]) dX9_lacksOf_41 rfl (v := (1 : Int32)) (by decide) (by decide) (fun _ => rfl) (fun y5 => ?_)
      refine r_goto C 23 dX9_lacksOf_44 (by decide) ?_
      refine r_sub [1, 2, 3, 4, 5, 0] [(0, .ref h0), (1, .int x1), (2, .int x2), (3, .int x3), (4, .int x4), (5, .int y5)] rfl ?_
      exact ih S3 h0 x1 x2 x3 x4 y5 th0
set_option maxRecDepth 100000 in
set_option maxHeartbeats 4000000 in
theorem c_X9_lacksOf (l : Launch) (E : EN) (n : Nat) (h0 : Nat) (x1 : Int32) (x2 : Int32) (x3 : Int32) (th0 : Ty E h0 8) : CT l E yX9_lacksOf cX9_lacksOf 6 (some .int) 3 73 wI tT [.ref h0, .int x1, .int x2, .int x3] (fun S => f_X9_lacksOf E n S h0 x1 x2 x3) := by
  refine ct_of RX9 (by decide +kernel) rfl [(0, .ref h0), (1, .int x1), (2, .int x2), (3, .int x3)] rfl (Nat.le_of_ble_eq_true rfl) (fun A S hA C X => ?_)
  subst hA
  show Gd A E 6 (QM A E wI tT) (f_X9_lacksOf E n S h0 x1 x2 x3) S 0 [(0, .ref h0), (1, .int x1), (2, .int x2), (3, .int x3)] []
  unfold f_X9_lacksOf
  refine r_aload_n C 0 dX9_lacksOf_0 rfl ?_
  refine r_iload_n C 1 dX9_lacksOf_1 rfl ?_
  refine r_callV (As := [.int x1]) (rest := []) C (c_X9_dropOf _ E n h0 x1 th0) dX9_lacksOf_2 ml_X9_257 mv_X9_dropOf ⟨TX9, _, rfl⟩ (by decide) th0 rfl rfl ⟨by decide, by decide⟩ (Nat.le_of_ble_eq_true rfl) (fun v2 S1 hv2 => ?_)
  refine r_istore C [(4, .int v2), (0, .ref h0), (1, .int x1), (2, .int x2), (3, .int x3)] dX9_lacksOf_5 (by decide) rfl ?_
  refine r_iload_n C 4 dX9_lacksOf_7 rfl ?_
  refine r_if_ne C 20 dX9_lacksOf_8 (by decide) ?_ ?_
  · refine r_iconst C (0 : Int32) dX9_lacksOf_20 (by decide) ?_
    refine r_istore C [(5, .int (0 : Int32)), (4, .int v2), (0, .ref h0), (1, .int x1), (2, .int x2), (3, .int x3)] dX9_lacksOf_21 (by decide) rfl ?_
    refine r_sub [2, 3, 4, 5, 1, 0] [(0, .ref h0), (1, .int x1), (2, .int x2), (3, .int x3), (4, .int v2), (5, .int (0 : Int32))] rfl ?_
    exact p_X9_lacksOf_L23 C X  n S1 h0 x1 x2 x3 v2 (0 : Int32) th0
  · refine r_iload C 0 dX9_lacksOf_11 rfl ?_
    refine r_if_le C 20 dX9_lacksOf_13 (by decide) ?_ ?_
    · refine r_iconst C (0 : Int32) dX9_lacksOf_20 (by decide) ?_
      refine r_istore C [(5, .int (0 : Int32)), (4, .int v2), (0, .ref h0), (1, .int x1), (2, .int x2), (3, .int x3)] dX9_lacksOf_21 (by decide) rfl ?_
      refine r_sub [2, 3, 4, 5, 1, 0] [(0, .ref h0), (1, .int x1), (2, .int x2), (3, .int x3), (4, .int v2), (5, .int (0 : Int32))] rfl ?_
      exact p_X9_lacksOf_L23 C X  n S1 h0 x1 x2 x3 v2 (0 : Int32) th0
    · refine r_ldc_w C (1000000 : Int32) (mG 1632 (by decide +kernel) rfl) dX9_lacksOf_16 ?_
      exact r_ireturn C X dX9_lacksOf_19
set_option maxRecDepth 100000 in
set_option maxHeartbeats 4000000 in
theorem c_X9_lacks (l : Launch) (E : EN) (n : Nat) (h0 : Nat) (x1 : Int32) (x2 : Int32) (x3 : Int32) (th0 : Ty E h0 8) : CT l E yX9_lacks cX9_lacks 5 (some .int) 4 98 wI tT [.ref h0, .int x1, .int x2, .int x3] (fun S => f_X9_lacks E n S h0 x1 x2 x3) := by
  refine ct_of RX9 (by decide +kernel) rfl [(0, .ref h0), (1, .int x1), (2, .int x2), (3, .int x3)] rfl (Nat.le_of_ble_eq_true rfl) (fun A S hA C X => ?_)
  subst hA
  show Gd A E 5 (QM A E wI tT) (f_X9_lacks E n S h0 x1 x2 x3) S 0 [(0, .ref h0), (1, .int x1), (2, .int x2), (3, .int x3)] []
  unfold f_X9_lacks
  refine r_aload_n C 0 dX9_lacks_0 rfl ?_
  refine r_iload_n C 1 dX9_lacks_1 rfl ?_
  refine r_iload_n C 2 dX9_lacks_2 rfl ?_
  refine r_callV (As := [.int x1, .int x2]) (rest := []) C (c_X9_areSo _ E n h0 x1 x2 th0) dX9_lacks_3 ml_X9_295 mv_X9_areSo ⟨TX9, _, rfl⟩ (by decide) th0 rfl rfl ⟨by decide, by decide⟩ (Nat.le_of_ble_eq_true rfl) (fun v2 S1 hv2 => ?_)
  refine r_if_eq C 21 dX9_lacks_6 (by decide) ?_ ?_
  · refine r_bipush C (-2 : Int32) dX9_lacks_21 (by decide) ?_
    exact r_ireturn C X dX9_lacks_23
  · refine r_iload_n C 3 dX9_lacks_9 rfl ?_
    refine r_i2l C dX9_lacks_10 ?_
    refine r_lconst C (0 : Int64) dX9_lacks_11 (by decide) ?_
    refine r_ldc2 C (99 : Int64) (mG 1627 (by decide +kernel) rfl) dX9_lacks_12 ?_
    refine r_callS (As := [.long (x3.toInt64), .long (0 : Int64), .long (99 : Int64)]) (rest := []) C (c_X9_in _ E n (x3.toInt64) (0 : Int64) (99 : Int64) ) dX9_lacks_15 ml_X9_82 mv_X9_in rfl rfl ⟨by decide, by decide⟩ (Nat.le_of_ble_eq_true rfl) (fun v4 S3 hv4 => ?_)
    refine r_if_ne C 24 dX9_lacks_18 (by decide) ?_ ?_
    · refine r_aload_n C 0 dX9_lacks_24 rfl ?_
      refine r_iload_n C 1 dX9_lacks_25 rfl ?_
      refine r_iload_n C 2 dX9_lacks_26 rfl ?_
      refine r_iload_n C 3 dX9_lacks_27 rfl ?_
      refine r_callV (As := [.int x1, .int x2, .int x3]) (rest := []) C (c_X9_lacksOf _ E n h0 x1 x2 x3 th0) dX9_lacks_28 ml_X9_304 mv_X9_lacksOf ⟨TX9, _, rfl⟩ (by decide) th0 rfl rfl ⟨by decide, by decide⟩ (Nat.le_of_ble_eq_true rfl) (fun v6 S5 hv6 => ?_)
      refine r_istore C [(4, .int v6), (0, .ref h0), (1, .int x1), (2, .int x2), (3, .int x3)] dX9_lacks_31 (by decide) rfl ?_
      refine r_iload C 0 dX9_lacks_33 rfl ?_
      refine r_ldc_w C (1000000 : Int32) (mG 1632 (by decide +kernel) rfl) dX9_lacks_35 ?_
      refine r_icmp_ne C 45 dX9_lacks_38 (by decide) ?_ ?_
      · refine r_iload C 0 dX9_lacks_45 rfl ?_
        exact r_ireturn C X dX9_lacks_47
      · refine r_iconst C (-1 : Int32) dX9_lacks_41 (by decide) ?_
        refine r_goto C 47 dX9_lacks_42 (by decide) ?_
        exact r_ireturn C X dX9_lacks_47
    · refine r_bipush C (-2 : Int32) dX9_lacks_21 (by decide) ?_
      exact r_ireturn C X dX9_lacks_23
set_option maxRecDepth 100000 in
set_option maxHeartbeats 4000000 in
theorem c_X9_fallOf (l : Launch) (E : EN) (n : Nat) (h0 : Nat) (x1 : Int32) (x2 : Int32) (th0 : Ty E h0 8) : CT l E yX9_fallOf cX9_fallOf 3 (some .int) 3 65 wI tT [.ref h0, .int x1, .int x2] (fun S => f_X9_fallOf E n S h0 x1 x2) := by
  refine ct_of RX9 (by decide +kernel) rfl [(0, .ref h0), (1, .int x1), (2, .int x2)] rfl (Nat.le_of_ble_eq_true rfl) (fun A S hA C X => ?_)
  subst hA
  show Gd A E 3 (QM A E wI tT) (f_X9_fallOf E n S h0 x1 x2) S 0 [(0, .ref h0), (1, .int x1), (2, .int x2)] []
  unfold f_X9_fallOf
  refine r_bipush C (100 : Int32) dX9_fallOf_0 (by decide) ?_
  refine r_aload_n C 0 dX9_fallOf_2 rfl ?_
  refine r_getr C fl_X9_9 dX9_fallOf_3 th0 (fun b1 tb1 => ?_)
  refine r_bipush C (15 : Int32) dX9_fallOf_6 (by decide) ?_
  refine r_iload_n C 2 dX9_fallOf_8 rfl ?_
  refine r_iadd C dX9_fallOf_9 ?_
  refine r_iald C dX9_fallOf_10 tb1 ?_
  refine r_aload_n C 0 dX9_fallOf_11 rfl ?_
  refine r_iload_n C 1 dX9_fallOf_12 rfl ?_
  refine r_callV (As := [.int x1]) (rest := [.int (ai S b1 ((15 : Int32) + x2).toNatClampNeg), .int (100 : Int32)]) C (c_X9_isRefused _ E n h0 x1 th0) dX9_fallOf_13 ml_X9_243 mv_X9_isRefused ⟨TX9, _, rfl⟩ (by decide) th0 rfl rfl ⟨by decide, by decide⟩ (Nat.le_of_ble_eq_true rfl) (fun v3 S2 hv3 => ?_)
  refine r_if_eq C 27 dX9_fallOf_16 (by decide) ?_ ?_
  · refine r_iconst C (0 : Int32) dX9_fallOf_27 (by decide) ?_
    refine r_iadd C dX9_fallOf_28 ?_
    refine r_mmin C (mG 1416 (by decide +kernel) rfl) mmin_w ⟨by decide, by decide⟩ (Nat.le_of_ble_eq_true rfl) dX9_fallOf_29 ?_
    exact r_ireturn C X dX9_fallOf_32
  · refine r_aload_n C 0 dX9_fallOf_19 rfl ?_
    refine r_iload_n C 1 dX9_fallOf_20 rfl ?_
    refine r_callV (As := [.int x1]) (rest := [.int (ai S b1 ((15 : Int32) + x2).toNatClampNeg), .int (100 : Int32)]) C (c_X9_spiteOf _ E n h0 x1 th0) dX9_fallOf_21 ml_X9_283 mv_X9_spiteOf ⟨TX9, _, rfl⟩ (by decide) th0 rfl rfl ⟨by decide, by decide⟩ (Nat.le_of_ble_eq_true rfl) (fun v5 S4 hv5 => ?_)
    refine r_goto C 28 dX9_fallOf_24 (by decide) ?_
    refine r_iadd C dX9_fallOf_28 ?_
    refine r_mmin C (mG 1416 (by decide +kernel) rfl) mmin_w ⟨by decide, by decide⟩ (Nat.le_of_ble_eq_true rfl) dX9_fallOf_29 ?_
    exact r_ireturn C X dX9_fallOf_32
set_option maxRecDepth 100000 in
set_option maxHeartbeats 4000000 in
theorem p_X9_safeBy_L6 {A : AM} {E : EN} {n : Nat} (C : Cx A E cX9_safeBy 8 RX9 4 87) (X : Ex A E (some .long))  : ∀ (m : Nat) (S : WS) (h0 : Nat) (x3 : Int32) (x4 : Int32) (x5 : Int64) (x7 : Int32) (th0 : Ty E h0 8), Gd A E 8 (QM A E wJ tT) (f_X9_safeBy_L6 E n  m S h0 x3 x4 x5 x7) S 6 [(0, .ref h0), (3, .int x3), (4, .int x4), (5, .long x5), (7, .int x7)] [] := by
  intro m
  induction m with
  | zero => intros; exact gn
  | succ m ih =>
    intro S h0 x3 x4 x5 x7 th0
    unfold f_X9_safeBy_L6
    refine r_iload C 4 dX9_safeBy_6 rfl ?_
    refine r_aload_n C 0 dX9_safeBy_8 rfl ?_
    refine r_getr C fl_X9_9 dX9_safeBy_9 th0 (fun b1 tb1 => ?_)
    refine r_iconst C (4 : Int32) dX9_safeBy_12 (by decide) ?_
    refine r_iald C dX9_safeBy_13 tb1 ?_
    refine r_icmp_ge C 56 dX9_safeBy_14 (by decide) ?_ ?_
    · refine r_lload C 3 dX9_safeBy_56 rfl ?_
      exact r_lreturn C X dX9_safeBy_58
    · refine r_aload_n C 0 dX9_safeBy_17 rfl ?_
      refine r_iload C 4 dX9_safeBy_18 rfl ?_
      refine r_iload_n C 1 dX9_safeBy_20 rfl ?_
      refine r_iload C 2 dX9_safeBy_21 rfl ?_
      refine r_callV (As := [.int x7, .int x3, .int x4]) (rest := []) C (c_X9_hasStep _ E n h0 x7 x3 x4 th0) dX9_safeBy_23 ml_X9_253 mv_X9_hasStep ⟨TX9, _, rfl⟩ (by decide) th0 rfl rfl ⟨by decide, by decide⟩ (Nat.le_of_ble_eq_true rfl) (fun v3 S2 hv3 => ?_)
      refine r_if_eq C 50 dX9_safeBy_26 (by decide) ?_ ?_
      · refine r_iinc C 4 (fun y4 => [(7, .int y4), (0, .ref h0), (3, .int x3), (4, .int x4), (5, .long x5)]) dX9_safeBy_50 rfl (v := (1 : Int32)) (by decide) (by decide) (fun _ => rfl) (fun y4 => ?_)
        refine r_goto C 6 dX9_safeBy_53 (by decide) ?_
        refine r_sub [1, 2, 3, 4, 0] [(0, .ref h0), (3, .int x3), (4, .int x4), (5, .long x5), (7, .int y4)] rfl ?_
        exact ih S2 h0 x3 x4 x5 y4 th0
      · refine r_lload C 3 dX9_safeBy_29 rfl ?_
        refine r_ldc2 C (100 : Int64) (mG 1642 (by decide +kernel) rfl) dX9_safeBy_31 ?_
        refine r_ldiv C dX9_safeBy_34 ?_
        refine r_bipush C (100 : Int32) dX9_safeBy_35 (by decide) ?_
        refine r_aload_n C 0 dX9_safeBy_37 rfl ?_
        refine r_iload C 4 dX9_safeBy_38 rfl ?_
        refine r_iload C 2 dX9_safeBy_40 rfl ?_
        refine r_callV (As := [.int x7, .int x4]) (rest := [.int (100 : Int32), .long (x5 / (100 : Int64))]) C (c_X9_fallOf _ E n h0 x7 x4 th0) dX9_safeBy_42 ml_X9_310 mv_X9_fallOf ⟨TX9, _, rfl⟩ (by decide) th0 rfl rfl ⟨by decide, by decide⟩ (Nat.le_of_ble_eq_true rfl) (fun v6 S5 hv6 => ?_)
        refine r_isub C dX9_safeBy_45 ?_
        refine r_i2l C dX9_safeBy_46 ?_
        refine r_lmul C dX9_safeBy_47 ?_
        refine r_topl (fun y7 => ?_)
        refine r_lstore C [(5, .long y7), (0, .ref h0), (3, .int x3), (4, .int x4), (7, .int x7)] dX9_safeBy_48 (by decide) rfl ?_
        refine r_iinc C 4 (fun y8 => [(7, .int y8), (5, .long y7), (0, .ref h0), (3, .int x3), (4, .int x4)]) dX9_safeBy_50 rfl (v := (1 : Int32)) (by decide) (by decide) (fun _ => rfl) (fun y8 => ?_)
        refine r_goto C 6 dX9_safeBy_53 (by decide) ?_
        refine r_sub [2, 3, 4, 1, 0] [(0, .ref h0), (3, .int x3), (4, .int x4), (5, .long y7), (7, .int y8)] rfl ?_
        exact ih S5 h0 x3 x4 y7 y8 th0
set_option maxRecDepth 100000 in
set_option maxHeartbeats 4000000 in
theorem c_X9_safeBy (l : Launch) (E : EN) (n : Nat) (h0 : Nat) (x1 : Int64) (x3 : Int32) (x4 : Int32) (th0 : Ty E h0 8) : CT l E yX9_safeBy cX9_safeBy 8 (some .long) 4 87 wJ tT [.ref h0, .long x1, .int x3, .int x4] (fun S => f_X9_safeBy E n S h0 x1 x3 x4) := by
  refine ct_of RX9 (by decide +kernel) rfl [(0, .ref h0), (1, .long x1), (3, .int x3), (4, .int x4)] rfl (Nat.le_of_ble_eq_true rfl) (fun A S hA C X => ?_)
  subst hA
  show Gd A E 8 (QM A E wJ tT) (f_X9_safeBy E n S h0 x1 x3 x4) S 0 [(0, .ref h0), (1, .long x1), (3, .int x3), (4, .int x4)] []
  unfold f_X9_safeBy
  refine r_lload_n C 1 dX9_safeBy_0 rfl ?_
  refine r_lstore C [(5, .long x1), (0, .ref h0), (1, .long x1), (3, .int x3), (4, .int x4)] dX9_safeBy_1 (by decide) rfl ?_
  refine r_iconst C (0 : Int32) dX9_safeBy_3 (by decide) ?_
  refine r_istore C [(7, .int (0 : Int32)), (5, .long x1), (0, .ref h0), (1, .long x1), (3, .int x3), (4, .int x4)] dX9_safeBy_4 (by decide) rfl ?_
  refine r_sub [2, 4, 5, 1, 0] [(0, .ref h0), (3, .int x3), (4, .int x4), (5, .long x1), (7, .int (0 : Int32))] rfl ?_
  exact p_X9_safeBy_L6 C X  n S h0 x3 x4 x1 (0 : Int32) th0
set_option maxRecDepth 100000 in
set_option maxHeartbeats 4000000 in
theorem p_X9_divisor_L6 {A : AM} {E : EN} {n : Nat} (C : Cx A E cX9_divisor 10 RX9 0 0) (X : Ex A E (some .long))  : ∀ (m : Nat) (S : WS) (x4 : Int64) (x6 : Int64), Gd A E 10 (QM A E wJ tT) (f_X9_divisor_L6 E n  m S x4 x6) S 6 [(4, .long x4), (6, .long x6)] [] := by
  intro m
  induction m with
  | zero => intros; exact gn
  | succ m ih =>
    intro S x4 x6
    unfold f_X9_divisor_L6
    refine r_lload C 1 dX9_divisor_6 rfl ?_
    refine r_lconst C (0 : Int64) dX9_divisor_8 (by decide) ?_
    refine r_lcmp C dX9_divisor_9 ?_
    refine r_if_eq C 31 dX9_divisor_10 (by decide) ?_ ?_
    · refine r_lload C 0 dX9_divisor_31 rfl ?_
      exact r_lreturn C X dX9_divisor_33
    · refine r_lload C 0 dX9_divisor_13 rfl ?_
      refine r_lload C 1 dX9_divisor_15 rfl ?_
      refine r_lrem C dX9_divisor_17 ?_
      refine r_topl (fun y1 => ?_)
      refine r_lstore C [(8, .long y1), (4, .long x4), (6, .long x6)] dX9_divisor_18 (by decide) rfl ?_
      refine r_lload C 2 dX9_divisor_20 rfl ?_
      refine r_lstore C [(4, .long x6), (8, .long y1), (6, .long x6)] dX9_divisor_22 (by decide) rfl ?_
      refine r_lload C 1 dX9_divisor_24 rfl ?_
      refine r_lstore C [(6, .long y1), (4, .long x6), (8, .long y1)] dX9_divisor_26 (by decide) rfl ?_
      refine r_goto C 6 dX9_divisor_28 (by decide) ?_
      refine r_sub [1, 0] [(4, .long x6), (6, .long y1)] rfl ?_
      exact ih S x6 y1 
set_option maxRecDepth 100000 in
set_option maxHeartbeats 4000000 in
theorem c_X9_divisor (l : Launch) (E : EN) (n : Nat) (x0 : Int64) (x2 : Int64) : CT l E yX9_divisor cX9_divisor 10 (some .long) 0 0 wJ tT [.long x0, .long x2] (fun S => f_X9_divisor E n S x0 x2) := by
  refine ct_of RX9 (by decide +kernel) rfl [(0, .long x0), (2, .long x2)] rfl (Nat.le_of_ble_eq_true rfl) (fun A S hA C X => ?_)
  subst hA
  show Gd A E 10 (QM A E wJ tT) (f_X9_divisor E n S x0 x2) S 0 [(0, .long x0), (2, .long x2)] []
  unfold f_X9_divisor
  refine r_lload_n C 0 dX9_divisor_0 rfl ?_
  refine r_lstore C [(4, .long x0), (0, .long x0), (2, .long x2)] dX9_divisor_1 (by decide) rfl ?_
  refine r_lload_n C 2 dX9_divisor_3 rfl ?_
  refine r_lstore C [(6, .long x2), (4, .long x0), (0, .long x0), (2, .long x2)] dX9_divisor_4 (by decide) rfl ?_
  refine r_sub [1, 0] [(4, .long x0), (6, .long x2)] rfl ?_
  exact p_X9_divisor_L6 C X  n S x0 x2 
set_option maxRecDepth 100000 in
set_option maxHeartbeats 4000000 in
theorem c_X9_part (l : Launch) (E : EN) (n : Nat) (x0 : Int64) (x2 : Int32) : CT l E yX9_part cX9_part 3 (some .long) 1 29 wJ tT [.long x0, .int x2] (fun S => f_X9_part E n S x0 x2) := by
  refine ct_of RX9 (by decide +kernel) rfl [(0, .long x0), (2, .int x2)] rfl (Nat.le_of_ble_eq_true rfl) (fun A S hA C X => ?_)
  subst hA
  show Gd A E 3 (QM A E wJ tT) (f_X9_part E n S x0 x2) S 0 [(0, .long x0), (2, .int x2)] []
  unfold f_X9_part
  refine r_iload_n C 1 dX9_part_0 rfl ?_
  refine r_if_ne C 8 dX9_part_1 (by decide) ?_ ?_
  · refine r_ldc2 C (100000000000000 : Int64) (mG 1637 (by decide +kernel) rfl) dX9_part_8 ?_
    refine r_lload_n C 0 dX9_part_11 rfl ?_
    refine r_ldc2 C (100000000000000 : Int64) (mG 1637 (by decide +kernel) rfl) dX9_part_12 ?_
    refine r_callS (As := [.long x0, .long (100000000000000 : Int64)]) (rest := [.long (100000000000000 : Int64)]) C (c_X9_divisor _ E n x0 (100000000000000 : Int64) ) dX9_part_15 ml_X9_315 mv_X9_divisor rfl rfl ⟨by decide, by decide⟩ (Nat.le_of_ble_eq_true rfl) (fun v2 S1 hv2 => ?_)
    refine r_ldiv C dX9_part_18 ?_
    exact r_lreturn C X dX9_part_19
  · refine r_lload_n C 0 dX9_part_4 rfl ?_
    refine r_goto C 11 dX9_part_5 (by decide) ?_
    refine r_lload_n C 0 dX9_part_11 rfl ?_
    refine r_ldc2 C (100000000000000 : Int64) (mG 1637 (by decide +kernel) rfl) dX9_part_12 ?_
    refine r_callS (As := [.long x0, .long (100000000000000 : Int64)]) (rest := [.long x0]) C (c_X9_divisor _ E n x0 (100000000000000 : Int64) ) dX9_part_15 ml_X9_315 mv_X9_divisor rfl rfl ⟨by decide, by decide⟩ (Nat.le_of_ble_eq_true rfl) (fun v4 S3 hv4 => ?_)
    refine r_ldiv C dX9_part_18 ?_
    exact r_lreturn C X dX9_part_19
set_option maxRecDepth 100000 in
set_option maxHeartbeats 4000000 in
theorem c_X9_safe (l : Launch) (E : EN) (n : Nat) (h0 : Nat) (x1 : Int32) (x2 : Int32) (x3 : Int32) (th0 : Ty E h0 8) : CT l E yX9_safe cX9_safe 4 (some .long) 5 114 wJ tT [.ref h0, .int x1, .int x2, .int x3] (fun S => f_X9_safe E n S h0 x1 x2 x3) := by
  refine ct_of RX9 (by decide +kernel) rfl [(0, .ref h0), (1, .int x1), (2, .int x2), (3, .int x3)] rfl (Nat.le_of_ble_eq_true rfl) (fun A S hA C X => ?_)
  subst hA
  show Gd A E 4 (QM A E wJ tT) (f_X9_safe E n S h0 x1 x2 x3) S 0 [(0, .ref h0), (1, .int x1), (2, .int x2), (3, .int x3)] []
  unfold f_X9_safe
  refine r_aload_n C 0 dX9_safe_0 rfl ?_
  refine r_iload_n C 1 dX9_safe_1 rfl ?_
  refine r_iload_n C 2 dX9_safe_2 rfl ?_
  refine r_callV (As := [.int x1, .int x2]) (rest := []) C (c_X9_areSo _ E n h0 x1 x2 th0) dX9_safe_3 ml_X9_295 mv_X9_areSo ⟨TX9, _, rfl⟩ (by decide) th0 rfl rfl ⟨by decide, by decide⟩ (Nat.le_of_ble_eq_true rfl) (fun v2 S1 hv2 => ?_)
  refine r_if_eq C 35 dX9_safe_6 (by decide) ?_ ?_
  · refine r_ldc2 C (-2 : Int64) (mG 1653 (by decide +kernel) rfl) dX9_safe_35 ?_
    exact r_lreturn C X dX9_safe_38
  · refine r_iload_n C 3 dX9_safe_9 rfl ?_
    refine r_i2l C dX9_safe_10 ?_
    refine r_lconst C (0 : Int64) dX9_safe_11 (by decide) ?_
    refine r_lconst C (1 : Int64) dX9_safe_12 (by decide) ?_
    refine r_callS (As := [.long (x3.toInt64), .long (0 : Int64), .long (1 : Int64)]) (rest := []) C (c_X9_in _ E n (x3.toInt64) (0 : Int64) (1 : Int64) ) dX9_safe_13 ml_X9_82 mv_X9_in rfl rfl ⟨by decide, by decide⟩ (Nat.le_of_ble_eq_true rfl) (fun v4 S3 hv4 => ?_)
    refine r_if_eq C 35 dX9_safe_16 (by decide) ?_ ?_
    · refine r_ldc2 C (-2 : Int64) (mG 1653 (by decide +kernel) rfl) dX9_safe_35 ?_
      exact r_lreturn C X dX9_safe_38
    · refine r_aload_n C 0 dX9_safe_19 rfl ?_
      refine r_ldc2 C (100000000000000 : Int64) (mG 1637 (by decide +kernel) rfl) dX9_safe_20 ?_
      refine r_iload_n C 1 dX9_safe_23 rfl ?_
      refine r_iload_n C 2 dX9_safe_24 rfl ?_
      refine r_callV (As := [.long (100000000000000 : Int64), .int x1, .int x2]) (rest := []) C (c_X9_safeBy _ E n h0 (100000000000000 : Int64) x1 x2 th0) dX9_safe_25 ml_X9_319 mv_X9_safeBy ⟨TX9, _, rfl⟩ (by decide) th0 rfl rfl ⟨by decide, by decide⟩ (Nat.le_of_ble_eq_true rfl) (fun v6 S5 hv6 => ?_)
      refine r_iload_n C 3 dX9_safe_28 rfl ?_
      refine r_callS (As := [.long v6, .int x3]) (rest := []) C (c_X9_part _ E n v6 x3 ) dX9_safe_29 ml_X9_323 mv_X9_part rfl rfl ⟨by decide, by decide⟩ (Nat.le_of_ble_eq_true rfl) (fun v8 S7 hv8 => ?_)
      refine r_goto C 38 dX9_safe_32 (by decide) ?_
      exact r_lreturn C X dX9_safe_38
set_option maxRecDepth 100000 in
set_option maxHeartbeats 4000000 in
theorem p_X9_pathBetween_J32 {A : AM} {E : EN} {n : Nat} (C : Cx A E cX9_pathBetween 4 RX9 1 22) (X : Ex A E (some .int)) {k2 : WS → Nat → Int32 → Int32 → Int32 → Option (Int32 × WS)} (hk2 : ∀ (S : WS) (h0 : Nat) (x1 : Int32) (x2 : Int32) (x3 : Int32) (_ : Ty E h0 8), Gd A E 4 (QM A E wI tT) (k2 S h0 x1 x2 x3) S 2 [(0, .ref h0), (1, .int x1), (2, .int x2), (3, .int x3)] []) (S : WS) (h0 : Nat) (x1 : Int32) (x2 : Int32) (x3 : Int32) (th0 : Ty E h0 8) : Gd A E 4 (QM A E wI tT) (f_X9_pathBetween_J32 E n k2 S h0 x1 x2 x3) S 32 [(0, .ref h0), (1, .int x1), (2, .int x2), (3, .int x3)] [] := by
  unfold f_X9_pathBetween_J32
  refine r_aload_n C 0 dX9_pathBetween_32 rfl ?_
  refine r_iload_n C 3 dX9_pathBetween_33 rfl ?_
  refine r_iconst C (0 : Int32) dX9_pathBetween_34 (by decide) ?_
  refine r_callV (As := [.int x3, .int (0 : Int32)]) (rest := []) C (c_X9_endOf _ E n h0 x3 (0 : Int32) th0) dX9_pathBetween_35 ml_X9_90 mv_X9_endOf ⟨TX9, _, rfl⟩ (by decide) th0 rfl rfl ⟨by decide, by decide⟩ (Nat.le_of_ble_eq_true rfl) (fun v2 S1 hv2 => ?_)
  refine r_iload_n C 2 dX9_pathBetween_38 rfl ?_
  refine r_icmp_ne C 54 dX9_pathBetween_39 (by decide) ?_ ?_
  · refine r_iinc C 3 (fun y3 => [(3, .int y3), (0, .ref h0), (1, .int x1), (2, .int x2)]) dX9_pathBetween_54 rfl (v := (1 : Int32)) (by decide) (by decide) (fun _ => rfl) (fun y3 => ?_)
    refine r_goto C 2 dX9_pathBetween_57 (by decide) ?_
    refine r_sub [1, 2, 3, 0] [(0, .ref h0), (1, .int x1), (2, .int x2), (3, .int y3)] rfl ?_
    exact hk2 S1 h0 x1 x2 y3 th0
  · refine r_aload_n C 0 dX9_pathBetween_42 rfl ?_
    refine r_iload_n C 3 dX9_pathBetween_43 rfl ?_
    refine r_iconst C (1 : Int32) dX9_pathBetween_44 (by decide) ?_
    refine r_callV (As := [.int x3, .int (1 : Int32)]) (rest := []) C (c_X9_endOf _ E n h0 x3 (1 : Int32) th0) dX9_pathBetween_45 ml_X9_90 mv_X9_endOf ⟨TX9, _, rfl⟩ (by decide) th0 rfl rfl ⟨by decide, by decide⟩ (Nat.le_of_ble_eq_true rfl) (fun v5 S4 hv5 => ?_)
    refine r_iload_n C 1 dX9_pathBetween_48 rfl ?_
    refine r_icmp_ne C 54 dX9_pathBetween_49 (by decide) ?_ ?_
    · refine r_iinc C 3 (fun y6 => [(3, .int y6), (0, .ref h0), (1, .int x1), (2, .int x2)]) dX9_pathBetween_54 rfl (v := (1 : Int32)) (by decide) (by decide) (fun _ => rfl) (fun y6 => ?_)
      refine r_goto C 2 dX9_pathBetween_57 (by decide) ?_
      refine r_sub [1, 2, 3, 0] [(0, .ref h0), (1, .int x1), (2, .int x2), (3, .int y6)] rfl ?_
      exact hk2 S4 h0 x1 x2 y6 th0
    · refine r_iload_n C 3 dX9_pathBetween_52 rfl ?_
      exact r_ireturn C X dX9_pathBetween_53
set_option maxRecDepth 100000 in
set_option maxHeartbeats 4000000 in
theorem p_X9_pathBetween_L2 {A : AM} {E : EN} {n : Nat} (C : Cx A E cX9_pathBetween 4 RX9 1 22) (X : Ex A E (some .int))  : ∀ (m : Nat) (S : WS) (h0 : Nat) (x1 : Int32) (x2 : Int32) (x3 : Int32) (th0 : Ty E h0 8), Gd A E 4 (QM A E wI tT) (f_X9_pathBetween_L2 E n  m S h0 x1 x2 x3) S 2 [(0, .ref h0), (1, .int x1), (2, .int x2), (3, .int x3)] [] := by
  intro m
  induction m with
  | zero => intros; exact gn
  | succ m ih =>
    intro S h0 x1 x2 x3 th0
    unfold f_X9_pathBetween_L2
    refine r_iload_n C 3 dX9_pathBetween_2 rfl ?_
    refine r_aload_n C 0 dX9_pathBetween_3 rfl ?_
    refine r_getr C fl_X9_9 dX9_pathBetween_4 th0 (fun b1 tb1 => ?_)
    refine r_iconst C (2 : Int32) dX9_pathBetween_7 (by decide) ?_
    refine r_iald C dX9_pathBetween_8 tb1 ?_
    refine r_icmp_ge C 60 dX9_pathBetween_9 (by decide) ?_ ?_
    · refine r_iconst C (-1 : Int32) dX9_pathBetween_60 (by decide) ?_
      exact r_ireturn C X dX9_pathBetween_61
    · refine r_aload_n C 0 dX9_pathBetween_12 rfl ?_
      refine r_iload_n C 3 dX9_pathBetween_13 rfl ?_
      refine r_iconst C (0 : Int32) dX9_pathBetween_14 (by decide) ?_
      refine r_callV (As := [.int x3, .int (0 : Int32)]) (rest := []) C (c_X9_endOf _ E n h0 x3 (0 : Int32) th0) dX9_pathBetween_15 ml_X9_90 mv_X9_endOf ⟨TX9, _, rfl⟩ (by decide) th0 rfl rfl ⟨by decide, by decide⟩ (Nat.le_of_ble_eq_true rfl) (fun v3 S2 hv3 => ?_)
      refine r_iload_n C 1 dX9_pathBetween_18 rfl ?_
      refine r_icmp_ne C 32 dX9_pathBetween_19 (by decide) ?_ ?_
      · exact p_X9_pathBetween_J32 C X ih S2 h0 x1 x2 x3 th0
      · refine r_aload_n C 0 dX9_pathBetween_22 rfl ?_
        refine r_iload_n C 3 dX9_pathBetween_23 rfl ?_
        refine r_iconst C (1 : Int32) dX9_pathBetween_24 (by decide) ?_
        refine r_callV (As := [.int x3, .int (1 : Int32)]) (rest := []) C (c_X9_endOf _ E n h0 x3 (1 : Int32) th0) dX9_pathBetween_25 ml_X9_90 mv_X9_endOf ⟨TX9, _, rfl⟩ (by decide) th0 rfl rfl ⟨by decide, by decide⟩ (Nat.le_of_ble_eq_true rfl) (fun v5 S4 hv5 => ?_)
        refine r_iload_n C 2 dX9_pathBetween_28 rfl ?_
        refine r_icmp_eq C 52 dX9_pathBetween_29 (by decide) ?_ ?_
        · refine r_iload_n C 3 dX9_pathBetween_52 rfl ?_
          exact r_ireturn C X dX9_pathBetween_53
        · exact p_X9_pathBetween_J32 C X ih S4 h0 x1 x2 x3 th0
set_option maxRecDepth 100000 in
set_option maxHeartbeats 4000000 in
theorem c_X9_pathBetween (l : Launch) (E : EN) (n : Nat) (h0 : Nat) (x1 : Int32) (x2 : Int32) (th0 : Ty E h0 8) : CT l E yX9_pathBetween cX9_pathBetween 4 (some .int) 1 22 wI tT [.ref h0, .int x1, .int x2] (fun S => f_X9_pathBetween E n S h0 x1 x2) := by
  refine ct_of RX9 (by decide +kernel) rfl [(0, .ref h0), (1, .int x1), (2, .int x2)] rfl (Nat.le_of_ble_eq_true rfl) (fun A S hA C X => ?_)
  subst hA
  show Gd A E 4 (QM A E wI tT) (f_X9_pathBetween E n S h0 x1 x2) S 0 [(0, .ref h0), (1, .int x1), (2, .int x2)] []
  unfold f_X9_pathBetween
  refine r_iconst C (0 : Int32) dX9_pathBetween_0 (by decide) ?_
  refine r_istore_n C [(3, .int (0 : Int32)), (0, .ref h0), (1, .int x1), (2, .int x2)] dX9_pathBetween_1 (by decide) rfl ?_
  refine r_sub [1, 2, 3, 0] [(0, .ref h0), (1, .int x1), (2, .int x2), (3, .int (0 : Int32))] rfl ?_
  exact p_X9_pathBetween_L2 C X  n S h0 x1 x2 (0 : Int32) th0
set_option maxRecDepth 100000 in
set_option maxHeartbeats 4000000 in
theorem p_X9_opens_L7 {A : AM} {E : EN} {n : Nat} (C : Cx A E cX9_opens 4 RX9 4 95) (X : Ex A E none)  : ∀ (m : Nat) (S : WS) (h0 : Nat) (x1 : Int32) (x2 : Int32) (x3 : Int32) (th0 : Ty E h0 8), Gd A E 4 (QM A E wV tT) (f_X9_opens_L7 E n  m S h0 x1 x2 x3) S 7 [(0, .ref h0), (1, .int x1), (2, .int x2), (3, .int x3)] [] := by
  intro m
  induction m with
  | zero => intros; exact gn
  | succ m ih =>
    intro S h0 x1 x2 x3 th0
    unfold f_X9_opens_L7
    refine r_iload_n C 3 dX9_opens_7 rfl ?_
    refine r_aload_n C 0 dX9_opens_8 rfl ?_
    refine r_getr C fl_X9_9 dX9_opens_9 th0 (fun b1 tb1 => ?_)
    refine r_iconst C (2 : Int32) dX9_opens_12 (by decide) ?_
    refine r_iald C dX9_opens_13 tb1 ?_
    refine r_icmp_ge C 49 dX9_opens_14 (by decide) ?_ ?_
    · exact r_return C X dX9_opens_49
    · refine r_aload_n C 0 dX9_opens_17 rfl ?_
      refine r_dup C dX9_opens_18 rfl ?_
      refine r_geti C fl_X9_329 dX9_opens_19 th0 ?_
      refine r_aload_n C 0 dX9_opens_22 rfl ?_
      refine r_iload_n C 3 dX9_opens_23 rfl ?_
      refine r_iload_n C 2 dX9_opens_24 rfl ?_
      refine r_callV (As := [.int x3, .int x2]) (rest := [.int (gi S 528 h0), .ref h0]) C (c_X9_leapNow _ E n h0 x3 x2 th0) dX9_opens_25 ml_X9_298 mv_X9_leapNow ⟨TX9, _, rfl⟩ (by decide) th0 rfl rfl ⟨by decide, by decide⟩ (Nat.le_of_ble_eq_true rfl) (fun v3 S2 hv3 => ?_)
      refine r_iload_n C 1 dX9_opens_28 rfl ?_
      refine r_icmp_gt C 38 dX9_opens_29 (by decide) ?_ ?_
      · refine r_iconst C (0 : Int32) dX9_opens_38 (by decide) ?_
        refine r_ior C dX9_opens_39 ?_
        refine r_puti C fl_X9_329 dX9_opens_40 th0 (fun S4 => ?_)
        refine r_iinc C 3 (fun y5 => [(3, .int y5), (0, .ref h0), (1, .int x1), (2, .int x2)]) dX9_opens_43 rfl (v := (1 : Int32)) (by decide) (by decide) (fun _ => rfl) (fun y5 => ?_)
        refine r_goto C 7 dX9_opens_46 (by decide) ?_
        refine r_sub [1, 2, 3, 0] [(0, .ref h0), (1, .int x1), (2, .int x2), (3, .int y5)] rfl ?_
        exact ih S4 h0 x1 x2 y5 th0
      · refine r_iconst C (1 : Int32) dX9_opens_32 (by decide) ?_
        refine r_iload_n C 3 dX9_opens_33 rfl ?_
        refine r_ishl C dX9_opens_34 ?_
        refine r_goto C 39 dX9_opens_35 (by decide) ?_
        refine r_ior C dX9_opens_39 ?_
        refine r_puti C fl_X9_329 dX9_opens_40 th0 (fun S6 => ?_)
        refine r_iinc C 3 (fun y7 => [(3, .int y7), (0, .ref h0), (1, .int x1), (2, .int x2)]) dX9_opens_43 rfl (v := (1 : Int32)) (by decide) (by decide) (fun _ => rfl) (fun y7 => ?_)
        refine r_goto C 7 dX9_opens_46 (by decide) ?_
        refine r_sub [1, 2, 3, 0] [(0, .ref h0), (1, .int x1), (2, .int x2), (3, .int y7)] rfl ?_
        exact ih S6 h0 x1 x2 y7 th0
set_option maxRecDepth 100000 in
set_option maxHeartbeats 4000000 in
theorem c_X9_opens (l : Launch) (E : EN) (n : Nat) (h0 : Nat) (x1 : Int32) (x2 : Int32) (th0 : Ty E h0 8) : CT l E yX9_opens cX9_opens 4 none 4 95 wV tT [.ref h0, .int x1, .int x2] (fun S => f_X9_opens E n S h0 x1 x2) := by
  refine ct_of RX9 (by decide +kernel) rfl [(0, .ref h0), (1, .int x1), (2, .int x2)] rfl (Nat.le_of_ble_eq_true rfl) (fun A S hA C X => ?_)
  subst hA
  show Gd A E 4 (QM A E wV tT) (f_X9_opens E n S h0 x1 x2) S 0 [(0, .ref h0), (1, .int x1), (2, .int x2)] []
  unfold f_X9_opens
  refine r_aload_n C 0 dX9_opens_0 rfl ?_
  refine r_iconst C (0 : Int32) dX9_opens_1 (by decide) ?_
  refine r_puti C fl_X9_329 dX9_opens_2 th0 (fun S1 => ?_)
  refine r_iconst C (0 : Int32) dX9_opens_5 (by decide) ?_
  refine r_istore_n C [(3, .int (0 : Int32)), (0, .ref h0), (1, .int x1), (2, .int x2)] dX9_opens_6 (by decide) rfl ?_
  refine r_sub [1, 2, 3, 0] [(0, .ref h0), (1, .int x1), (2, .int x2), (3, .int (0 : Int32))] rfl ?_
  exact p_X9_opens_L7 C X  n S1 h0 x1 x2 (0 : Int32) th0
set_option maxRecDepth 100000 in
set_option maxHeartbeats 4000000 in
theorem p_X9_reachFrom_L16 {A : AM} {E : EN} {n : Nat} (C : Cx A E cX9_reachFrom 6 RX9 1 22) (X : Ex A E (some .int)) {k6 : WS → Nat → Int32 → Int32 → Option (Int32 × WS)} (hk6 : ∀ (S : WS) (h0 : Nat) (x2 : Int32) (x3 : Int32) (_ : Ty E h0 8), Gd A E 6 (QM A E wI tT) (k6 S h0 x2 x3) S 6 [(0, .ref h0), (2, .int x2), (3, .int x3)] []) : ∀ (m : Nat) (S : WS) (h0 : Nat) (x2 : Int32) (x3 : Int32) (x4 : Int32) (th0 : Ty E h0 8), Gd A E 6 (QM A E wI tT) (f_X9_reachFrom_L16 E n k6 m S h0 x2 x3 x4) S 16 [(0, .ref h0), (2, .int x2), (3, .int x3), (4, .int x4)] [] := by
  intro m
  induction m with
  | zero => intros; exact gn
  | succ m ih =>
    intro S h0 x2 x3 x4 th0
    unfold f_X9_reachFrom_L16
    refine r_iload C 3 dX9_reachFrom_16 rfl ?_
    refine r_aload_n C 0 dX9_reachFrom_18 rfl ?_
    refine r_getr C fl_X9_9 dX9_reachFrom_19 th0 (fun b1 tb1 => ?_)
    refine r_iconst C (2 : Int32) dX9_reachFrom_22 (by decide) ?_
    refine r_iald C dX9_reachFrom_23 tb1 ?_
    refine r_icmp_ge C 79 dX9_reachFrom_24 (by decide) ?_ ?_
    · refine r_goto C 6 dX9_reachFrom_79 (by decide) ?_
      refine r_sub [0, 1, 2] [(0, .ref h0), (2, .int x2), (3, .int x3)] rfl ?_
      exact hk6 S h0 x2 x3 th0
    · refine r_iconst C (1 : Int32) dX9_reachFrom_27 (by decide) ?_
      refine r_aload_n C 0 dX9_reachFrom_28 rfl ?_
      refine r_iload C 3 dX9_reachFrom_29 rfl ?_
      refine r_iconst C (0 : Int32) dX9_reachFrom_31 (by decide) ?_
      refine r_callV (As := [.int x4, .int (0 : Int32)]) (rest := [.int (1 : Int32)]) C (c_X9_endOf _ E n h0 x4 (0 : Int32) th0) dX9_reachFrom_32 ml_X9_90 mv_X9_endOf ⟨TX9, _, rfl⟩ (by decide) th0 rfl rfl ⟨by decide, by decide⟩ (Nat.le_of_ble_eq_true rfl) (fun v3 S2 hv3 => ?_)
      refine r_ishl C dX9_reachFrom_35 ?_
      refine r_iconst C (1 : Int32) dX9_reachFrom_36 (by decide) ?_
      refine r_aload_n C 0 dX9_reachFrom_37 rfl ?_
      refine r_iload C 3 dX9_reachFrom_38 rfl ?_
      refine r_iconst C (1 : Int32) dX9_reachFrom_40 (by decide) ?_
      refine r_callV (As := [.int x4, .int (1 : Int32)]) (rest := [.int (1 : Int32), .int ((1 : Int32) <<< (v3 &&& 31))]) C (c_X9_endOf _ E n h0 x4 (1 : Int32) th0) dX9_reachFrom_41 ml_X9_90 mv_X9_endOf ⟨TX9, _, rfl⟩ (by decide) th0 rfl rfl ⟨by decide, by decide⟩ (Nat.le_of_ble_eq_true rfl) (fun v5 S4 hv5 => ?_)
      refine r_ishl C dX9_reachFrom_44 ?_
      refine r_ior C dX9_reachFrom_45 ?_
      refine r_topi (fun y6 => ?_)
      refine r_istore C [(5, .int y6), (0, .ref h0), (2, .int x2), (3, .int x3), (4, .int x4)] dX9_reachFrom_46 (by decide) rfl ?_
      refine r_aload_n C 1 dX9_reachFrom_48 rfl ?_
      refine r_geti C fl_X9_329 dX9_reachFrom_49 th0 ?_
      refine r_iload C 4 dX9_reachFrom_52 rfl ?_
      refine r_ishr C dX9_reachFrom_54 ?_
      refine r_iconst C (1 : Int32) dX9_reachFrom_55 (by decide) ?_
      refine r_iand C dX9_reachFrom_56 ?_
      refine r_iconst C (1 : Int32) dX9_reachFrom_57 (by decide) ?_
      refine r_icmp_ne C 73 dX9_reachFrom_58 (by decide) ?_ ?_
      · refine r_iinc C 4 (fun y7 => [(4, .int y7), (5, .int y6), (0, .ref h0), (2, .int x2), (3, .int x3)]) dX9_reachFrom_73 rfl (v := (1 : Int32)) (by decide) (by decide) (fun _ => rfl) (fun y7 => ?_)
        refine r_goto C 16 dX9_reachFrom_76 (by decide) ?_
        refine r_sub [2, 3, 4, 0] [(0, .ref h0), (2, .int x2), (3, .int x3), (4, .int y7)] rfl ?_
        exact ih S4 h0 x2 x3 y7 th0
      · refine r_iload_n C 2 dX9_reachFrom_61 rfl ?_
        refine r_iload C 0 dX9_reachFrom_62 rfl ?_
        refine r_iand C dX9_reachFrom_64 ?_
        refine r_if_eq C 73 dX9_reachFrom_65 (by decide) ?_ ?_
        · refine r_iinc C 4 (fun y8 => [(4, .int y8), (5, .int y6), (0, .ref h0), (2, .int x2), (3, .int x3)]) dX9_reachFrom_73 rfl (v := (1 : Int32)) (by decide) (by decide) (fun _ => rfl) (fun y8 => ?_)
          refine r_goto C 16 dX9_reachFrom_76 (by decide) ?_
          refine r_sub [2, 3, 4, 0] [(0, .ref h0), (2, .int x2), (3, .int x3), (4, .int y8)] rfl ?_
          exact ih S4 h0 x2 x3 y8 th0
        · refine r_iload_n C 2 dX9_reachFrom_68 rfl ?_
          refine r_iload C 0 dX9_reachFrom_69 rfl ?_
          refine r_ior C dX9_reachFrom_71 ?_
          refine r_topi (fun y9 => ?_)
          refine r_istore_n C [(2, .int y9), (5, .int y6), (0, .ref h0), (3, .int x3), (4, .int x4)] dX9_reachFrom_72 (by decide) rfl ?_
          refine r_iinc C 4 (fun y10 => [(4, .int y10), (2, .int y9), (5, .int y6), (0, .ref h0), (3, .int x3)]) dX9_reachFrom_73 rfl (v := (1 : Int32)) (by decide) (by decide) (fun _ => rfl) (fun y10 => ?_)
          refine r_goto C 16 dX9_reachFrom_76 (by decide) ?_
          refine r_sub [3, 1, 4, 0] [(0, .ref h0), (2, .int y9), (3, .int x3), (4, .int y10)] rfl ?_
          exact ih S4 h0 y9 x3 y10 th0
set_option maxRecDepth 100000 in
set_option maxHeartbeats 4000000 in
theorem p_X9_reachFrom_L6 {A : AM} {E : EN} {n : Nat} (C : Cx A E cX9_reachFrom 6 RX9 1 22) (X : Ex A E (some .int))  : ∀ (m : Nat) (S : WS) (h0 : Nat) (x2 : Int32) (x3 : Int32) (th0 : Ty E h0 8), Gd A E 6 (QM A E wI tT) (f_X9_reachFrom_L6 E n  m S h0 x2 x3) S 6 [(0, .ref h0), (2, .int x2), (3, .int x3)] [] := by
  intro m
  induction m with
  | zero => intros; exact gn
  | succ m ih =>
    intro S h0 x2 x3 th0
    unfold f_X9_reachFrom_L6
    refine r_iload_n C 2 dX9_reachFrom_6 rfl ?_
    refine r_iload_n C 1 dX9_reachFrom_7 rfl ?_
    refine r_icmp_eq C 82 dX9_reachFrom_8 (by decide) ?_ ?_
    · refine r_iload_n C 1 dX9_reachFrom_82 rfl ?_
      exact r_ireturn C X dX9_reachFrom_83
    · refine r_iload_n C 1 dX9_reachFrom_11 rfl ?_
      refine r_istore_n C [(3, .int x2), (0, .ref h0), (2, .int x2)] dX9_reachFrom_12 (by decide) rfl ?_
      refine r_iconst C (0 : Int32) dX9_reachFrom_13 (by decide) ?_
      refine r_istore C [(4, .int (0 : Int32)), (3, .int x2), (0, .ref h0), (2, .int x2)] dX9_reachFrom_14 (by decide) rfl ?_
      refine r_sub [2, 3, 1, 0] [(0, .ref h0), (2, .int x2), (3, .int x2), (4, .int (0 : Int32))] rfl ?_
      exact p_X9_reachFrom_L16 C X ih n S h0 x2 x2 (0 : Int32) th0
set_option maxRecDepth 100000 in
set_option maxHeartbeats 4000000 in
theorem c_X9_reachFrom (l : Launch) (E : EN) (n : Nat) (h0 : Nat) (x1 : Int32) (th0 : Ty E h0 8) : CT l E yX9_reachFrom cX9_reachFrom 6 (some .int) 1 22 wI tT [.ref h0, .int x1] (fun S => f_X9_reachFrom E n S h0 x1) := by
  refine ct_of RX9 (by decide +kernel) rfl [(0, .ref h0), (1, .int x1)] rfl (Nat.le_of_ble_eq_true rfl) (fun A S hA C X => ?_)
  subst hA
  show Gd A E 6 (QM A E wI tT) (f_X9_reachFrom E n S h0 x1) S 0 [(0, .ref h0), (1, .int x1)] []
  unfold f_X9_reachFrom
  refine r_iconst C (1 : Int32) dX9_reachFrom_0 (by decide) ?_
  refine r_iload_n C 1 dX9_reachFrom_1 rfl ?_
  refine r_ishl C dX9_reachFrom_2 ?_
  refine r_topi (fun y1 => ?_)
  refine r_istore_n C [(2, .int y1), (0, .ref h0), (1, .int x1)] dX9_reachFrom_3 (by decide) rfl ?_
  refine r_iconst C (0 : Int32) dX9_reachFrom_4 (by decide) ?_
  refine r_istore_n C [(3, .int (0 : Int32)), (2, .int y1), (0, .ref h0), (1, .int x1)] dX9_reachFrom_5 (by decide) rfl ?_
  refine r_sub [2, 1, 0] [(0, .ref h0), (2, .int y1), (3, .int (0 : Int32))] rfl ?_
  exact p_X9_reachFrom_L6 C X  n S h0 y1 (0 : Int32) th0
set_option maxRecDepth 100000 in
set_option maxHeartbeats 4000000 in
theorem c_X9_canCome (l : Launch) (E : EN) (n : Nat) (h0 : Nat) (x1 : Int32) (x2 : Int32) (x3 : Int32) (th0 : Ty E h0 8) : CT l E yX9_canCome cX9_canCome 4 (some .boolean) 5 118 wI tT [.ref h0, .int x1, .int x2, .int x3] (fun S => f_X9_canCome E n S h0 x1 x2 x3) := by
  refine ct_of RX9 (by decide +kernel) rfl [(0, .ref h0), (1, .int x1), (2, .int x2), (3, .int x3)] rfl (Nat.le_of_ble_eq_true rfl) (fun A S hA C X => ?_)
  subst hA
  show Gd A E 4 (QM A E wI tT) (f_X9_canCome E n S h0 x1 x2 x3) S 0 [(0, .ref h0), (1, .int x1), (2, .int x2), (3, .int x3)] []
  unfold f_X9_canCome
  refine r_aload_n C 0 dX9_canCome_0 rfl ?_
  refine r_aload_n C 0 dX9_canCome_1 rfl ?_
  refine r_iload_n C 1 dX9_canCome_2 rfl ?_
  refine r_callV (As := [.int x1]) (rest := [.ref h0]) C (c_X9_leapOf _ E n h0 x1 th0) dX9_canCome_3 ml_X9_332 mv_X9_leapOf ⟨TX9, _, rfl⟩ (by decide) th0 rfl rfl ⟨by decide, by decide⟩ (Nat.le_of_ble_eq_true rfl) (fun v2 S1 hv2 => ?_)
  refine r_iload_n C 3 dX9_canCome_6 rfl ?_
  refine r_callV (As := [.int v2, .int x3]) (rest := []) C (c_X9_opens _ E n h0 v2 x3 th0) dX9_canCome_7 ml_X9_335 mv_X9_opens ⟨TX9, _, rfl⟩ (by decide) th0 rfl rfl ⟨by decide, by decide⟩ (Nat.le_of_ble_eq_true rfl) (fun v4 S3 hv4 => ?_)
  refine r_aload_n C 0 dX9_canCome_10 rfl ?_
  refine r_aload_n C 0 dX9_canCome_11 rfl ?_
  refine r_iload_n C 1 dX9_canCome_12 rfl ?_
  refine r_callV (As := [.int x1]) (rest := [.ref h0]) C (c_X9_homeOf _ E n h0 x1 th0) dX9_canCome_13 ml_X9_339 mv_X9_homeOf ⟨TX9, _, rfl⟩ (by decide) th0 rfl rfl ⟨by decide, by decide⟩ (Nat.le_of_ble_eq_true rfl) (fun v6 S5 hv6 => ?_)
  refine r_callV (As := [.int v6]) (rest := []) C (c_X9_reachFrom _ E n h0 v6 th0) dX9_canCome_16 ml_X9_342 mv_X9_reachFrom ⟨TX9, _, rfl⟩ (by decide) th0 rfl rfl ⟨by decide, by decide⟩ (Nat.le_of_ble_eq_true rfl) (fun v8 S7 hv8 => ?_)
  refine r_iload_n C 2 dX9_canCome_19 rfl ?_
  refine r_ishr C dX9_canCome_20 ?_
  refine r_iconst C (1 : Int32) dX9_canCome_21 (by decide) ?_
  refine r_iand C dX9_canCome_22 ?_
  refine r_iconst C (1 : Int32) dX9_canCome_23 (by decide) ?_
  refine r_icmp_ne C 31 dX9_canCome_24 (by decide) ?_ ?_
  · refine r_iconst C (0 : Int32) dX9_canCome_31 (by decide) ?_
    exact r_zreturn C X rfl dX9_canCome_32
  · refine r_iconst C (1 : Int32) dX9_canCome_27 (by decide) ?_
    refine r_goto C 32 dX9_canCome_28 (by decide) ?_
    exact r_zreturn C X rfl dX9_canCome_32
set_option maxRecDepth 100000 in
set_option maxHeartbeats 4000000 in
theorem p_X9_found_L105 {A : AM} {E : EN} {n : Nat} (C : Cx A E cX9_found 3 RX9 0 0) (X : Ex A E none)  : ∀ (m : Nat) (S : WS) (h0 : Nat) (x1 : Int32) (x2 : Int32) (th0 : Ty E h0 8), Gd A E 3 (QM A E wV tT) (f_X9_found_L105 E n  m S h0 x1 x2) S 105 [(0, .ref h0), (1, .int x1), (2, .int x2)] [] := by
  intro m
  induction m with
  | zero => intros; exact gn
  | succ m ih =>
    intro S h0 x1 x2 th0
    unfold f_X9_found_L105
    refine r_iload_n C 2 dX9_found_105 rfl ?_
    refine r_iload_n C 1 dX9_found_106 rfl ?_
    refine r_icmp_ge C 128 dX9_found_107 (by decide) ?_ ?_
    · refine r_aload_n C 0 dX9_found_128 rfl ?_
      refine r_iload_n C 1 dX9_found_129 rfl ?_
      refine r_puti C fl_X9_351 dX9_found_130 th0 (fun S1 => ?_)
      refine r_aload_n C 0 dX9_found_133 rfl ?_
      refine r_aload_n C 0 dX9_found_134 rfl ?_
      refine r_getr C fl_X9_43 dX9_found_135 th0 (fun b2 tb2 => ?_)
      refine r_iload_n C 1 dX9_found_138 rfl ?_
      refine r_iconst C (1 : Int32) dX9_found_139 (by decide) ?_
      refine r_isub C dX9_found_140 ?_
      refine r_lald C dX9_found_141 tb2 ?_
      refine r_putj C fl_X9_354 dX9_found_142 th0 (fun S3 => ?_)
      exact r_return C X dX9_found_145
    · refine r_aload_n C 0 dX9_found_110 rfl ?_
      refine r_getr C fl_X9_50 dX9_found_111 th0 (fun b4 tb4 => ?_)
      refine r_iload_n C 2 dX9_found_114 rfl ?_
      refine r_aload_n C 0 dX9_found_115 rfl ?_
      refine r_getr C fl_X9_37 dX9_found_116 th0 (fun b5 tb5 => ?_)
      refine r_iload_n C 2 dX9_found_119 rfl ?_
      refine r_iald C dX9_found_120 tb5 ?_
      refine r_iast C dX9_found_121 tb4 (fun S6 => ?_)
      refine r_iinc C 2 (fun y7 => [(2, .int y7), (0, .ref h0), (1, .int x1)]) dX9_found_122 rfl (v := (1 : Int32)) (by decide) (by decide) (fun _ => rfl) (fun y7 => ?_)
      refine r_goto C 105 dX9_found_125 (by decide) ?_
      refine r_sub [1, 2, 0] [(0, .ref h0), (1, .int x1), (2, .int y7)] rfl ?_
      exact ih S6 h0 x1 y7 th0
set_option maxRecDepth 100000 in
set_option maxHeartbeats 4000000 in
theorem p_X9_found_J55 {A : AM} {E : EN} {n : Nat} (C : Cx A E cX9_found 3 RX9 0 0) (X : Ex A E none)  (S : WS) (h0 : Nat) (x1 : Int32) (th0 : Ty E h0 8) : Gd A E 3 (QM A E wV tT) (f_X9_found_J55 E n  S h0 x1) S 55 [(0, .ref h0), (1, .int x1)] [] := by
  unfold f_X9_found_J55
  refine r_aload_n C 0 dX9_found_55 rfl ?_
  refine r_geti C fl_X9_351 dX9_found_56 th0 ?_
  refine r_if_le C 103 dX9_found_59 (by decide) ?_ ?_
  · refine r_iconst C (0 : Int32) dX9_found_103 (by decide) ?_
    refine r_istore_n C [(2, .int (0 : Int32)), (0, .ref h0), (1, .int x1)] dX9_found_104 (by decide) rfl ?_
    refine r_sub [1, 2, 0] [(0, .ref h0), (1, .int x1), (2, .int (0 : Int32))] rfl ?_
    exact p_X9_found_L105 C X  n S h0 x1 (0 : Int32) th0
  · refine r_aload_n C 0 dX9_found_62 rfl ?_
    refine r_getr C fl_X9_43 dX9_found_63 th0 (fun b1 tb1 => ?_)
    refine r_iload_n C 1 dX9_found_66 rfl ?_
    refine r_iconst C (1 : Int32) dX9_found_67 (by decide) ?_
    refine r_isub C dX9_found_68 ?_
    refine r_lald C dX9_found_69 tb1 ?_
    refine r_aload_n C 0 dX9_found_70 rfl ?_
    refine r_getj C fl_X9_354 dX9_found_71 th0 ?_
    refine r_lcmp C dX9_found_74 ?_
    refine r_if_lt C 102 dX9_found_75 (by decide) ?_ ?_
    · exact r_return C X dX9_found_102
    · refine r_aload_n C 0 dX9_found_78 rfl ?_
      refine r_getr C fl_X9_43 dX9_found_79 th0 (fun b2 tb2 => ?_)
      refine r_iload_n C 1 dX9_found_82 rfl ?_
      refine r_iconst C (1 : Int32) dX9_found_83 (by decide) ?_
      refine r_isub C dX9_found_84 ?_
      refine r_lald C dX9_found_85 tb2 ?_
      refine r_aload_n C 0 dX9_found_86 rfl ?_
      refine r_getj C fl_X9_354 dX9_found_87 th0 ?_
      refine r_lcmp C dX9_found_90 ?_
      refine r_if_ne C 103 dX9_found_91 (by decide) ?_ ?_
      · refine r_iconst C (0 : Int32) dX9_found_103 (by decide) ?_
        refine r_istore_n C [(2, .int (0 : Int32)), (0, .ref h0), (1, .int x1)] dX9_found_104 (by decide) rfl ?_
        refine r_sub [1, 2, 0] [(0, .ref h0), (1, .int x1), (2, .int (0 : Int32))] rfl ?_
        exact p_X9_found_L105 C X  n S h0 x1 (0 : Int32) th0
      · refine r_iload_n C 1 dX9_found_94 rfl ?_
        refine r_aload_n C 0 dX9_found_95 rfl ?_
        refine r_geti C fl_X9_351 dX9_found_96 th0 ?_
        refine r_icmp_lt C 103 dX9_found_99 (by decide) ?_ ?_
        · refine r_iconst C (0 : Int32) dX9_found_103 (by decide) ?_
          refine r_istore_n C [(2, .int (0 : Int32)), (0, .ref h0), (1, .int x1)] dX9_found_104 (by decide) rfl ?_
          refine r_sub [1, 2, 0] [(0, .ref h0), (1, .int x1), (2, .int (0 : Int32))] rfl ?_
          exact p_X9_found_L105 C X  n S h0 x1 (0 : Int32) th0
        · exact r_return C X dX9_found_102
set_option maxRecDepth 100000 in
set_option maxHeartbeats 4000000 in
theorem p_X9_found_L27 {A : AM} {E : EN} {n : Nat} (C : Cx A E cX9_found 3 RX9 0 0) (X : Ex A E none)  : ∀ (m : Nat) (S : WS) (h0 : Nat) (x1 : Int32) (x2 : Int32) (th0 : Ty E h0 8), Gd A E 3 (QM A E wV tT) (f_X9_found_L27 E n  m S h0 x1 x2) S 27 [(0, .ref h0), (1, .int x1), (2, .int x2)] [] := by
  intro m
  induction m with
  | zero => intros; exact gn
  | succ m ih =>
    intro S h0 x1 x2 th0
    unfold f_X9_found_L27
    refine r_iload_n C 2 dX9_found_27 rfl ?_
    refine r_iload_n C 1 dX9_found_28 rfl ?_
    refine r_icmp_ge C 50 dX9_found_29 (by decide) ?_ ?_
    · refine r_aload_n C 0 dX9_found_50 rfl ?_
      refine r_iload_n C 1 dX9_found_51 rfl ?_
      refine r_puti C fl_X9_348 dX9_found_52 th0 (fun S1 => ?_)
      refine r_sub [0, 1] [(0, .ref h0), (1, .int x1)] rfl ?_
      exact p_X9_found_J55 C X  S1 h0 x1 th0
    · refine r_aload_n C 0 dX9_found_32 rfl ?_
      refine r_getr C fl_X9_47 dX9_found_33 th0 (fun b2 tb2 => ?_)
      refine r_iload_n C 2 dX9_found_36 rfl ?_
      refine r_aload_n C 0 dX9_found_37 rfl ?_
      refine r_getr C fl_X9_37 dX9_found_38 th0 (fun b3 tb3 => ?_)
      refine r_iload_n C 2 dX9_found_41 rfl ?_
      refine r_iald C dX9_found_42 tb3 ?_
      refine r_iast C dX9_found_43 tb2 (fun S4 => ?_)
      refine r_iinc C 2 (fun y5 => [(2, .int y5), (0, .ref h0), (1, .int x1)]) dX9_found_44 rfl (v := (1 : Int32)) (by decide) (by decide) (fun _ => rfl) (fun y5 => ?_)
      refine r_goto C 27 dX9_found_47 (by decide) ?_
      refine r_sub [1, 2, 0] [(0, .ref h0), (1, .int x1), (2, .int y5)] rfl ?_
      exact ih S4 h0 x1 y5 th0
set_option maxRecDepth 100000 in
set_option maxHeartbeats 4000000 in
theorem c_X9_found (l : Launch) (E : EN) (n : Nat) (h0 : Nat) (x1 : Int32) (th0 : Ty E h0 8) : CT l E yX9_found cX9_found 3 none 0 0 wV tT [.ref h0, .int x1] (fun S => f_X9_found E n S h0 x1) := by
  refine ct_of RX9 (by decide +kernel) rfl [(0, .ref h0), (1, .int x1)] rfl (Nat.le_of_ble_eq_true rfl) (fun A S hA C X => ?_)
  subst hA
  show Gd A E 3 (QM A E wV tT) (f_X9_found E n S h0 x1) S 0 [(0, .ref h0), (1, .int x1)] []
  unfold f_X9_found
  refine r_aload_n C 0 dX9_found_0 rfl ?_
  refine r_dup C dX9_found_1 rfl ?_
  refine r_geti C fl_X9_345 dX9_found_2 th0 ?_
  refine r_iconst C (1 : Int32) dX9_found_5 (by decide) ?_
  refine r_iadd C dX9_found_6 ?_
  refine r_puti C fl_X9_345 dX9_found_7 th0 (fun S1 => ?_)
  refine r_aload_n C 0 dX9_found_10 rfl ?_
  refine r_geti C fl_X9_348 dX9_found_11 th0 ?_
  refine r_if_eq C 25 dX9_found_14 (by decide) ?_ ?_
  · refine r_iconst C (0 : Int32) dX9_found_25 (by decide) ?_
    refine r_istore_n C [(2, .int (0 : Int32)), (0, .ref h0), (1, .int x1)] dX9_found_26 (by decide) rfl ?_
    refine r_sub [1, 2, 0] [(0, .ref h0), (1, .int x1), (2, .int (0 : Int32))] rfl ?_
    exact p_X9_found_L27 C X  n S1 h0 x1 (0 : Int32) th0
  · refine r_iload_n C 1 dX9_found_17 rfl ?_
    refine r_aload_n C 0 dX9_found_18 rfl ?_
    refine r_geti C fl_X9_348 dX9_found_19 th0 ?_
    refine r_icmp_ge C 55 dX9_found_22 (by decide) ?_ ?_
    · exact p_X9_found_J55 C X  S1 h0 x1 th0
    · refine r_iconst C (0 : Int32) dX9_found_25 (by decide) ?_
      refine r_istore_n C [(2, .int (0 : Int32)), (0, .ref h0), (1, .int x1)] dX9_found_26 (by decide) rfl ?_
      refine r_sub [1, 2, 0] [(0, .ref h0), (1, .int x1), (2, .int (0 : Int32))] rfl ?_
      exact p_X9_found_L27 C X  n S1 h0 x1 (0 : Int32) th0
set_option maxRecDepth 100000 in
set_option maxHeartbeats 4000000 in
theorem p_X9_isNew_L2 {A : AM} {E : EN} {n : Nat} (C : Cx A E cX9_isNew 4 RX9 0 0) (X : Ex A E (some .boolean))  : ∀ (m : Nat) (S : WS) (h0 : Nat) (x1 : Int32) (x2 : Int32) (x3 : Int32) (th0 : Ty E h0 8), Gd A E 4 (QM A E wI tT) (f_X9_isNew_L2 E n  m S h0 x1 x2 x3) S 2 [(0, .ref h0), (1, .int x1), (2, .int x2), (3, .int x3)] [] := by
  intro m
  induction m with
  | zero => intros; exact gn
  | succ m ih =>
    intro S h0 x1 x2 x3 th0
    unfold f_X9_isNew_L2
    refine r_iload_n C 3 dX9_isNew_2 rfl ?_
    refine r_iload_n C 2 dX9_isNew_3 rfl ?_
    refine r_icmp_ge C 25 dX9_isNew_4 (by decide) ?_ ?_
    · refine r_iconst C (1 : Int32) dX9_isNew_25 (by decide) ?_
      exact r_zreturn C X rfl dX9_isNew_26
    · refine r_aload_n C 0 dX9_isNew_7 rfl ?_
      refine r_getr C fl_X9_37 dX9_isNew_8 th0 (fun b1 tb1 => ?_)
      refine r_iload_n C 3 dX9_isNew_11 rfl ?_
      refine r_iald C dX9_isNew_12 tb1 ?_
      refine r_iload_n C 1 dX9_isNew_13 rfl ?_
      refine r_icmp_ne C 19 dX9_isNew_14 (by decide) ?_ ?_
      · refine r_iinc C 3 (fun y2 => [(3, .int y2), (0, .ref h0), (1, .int x1), (2, .int x2)]) dX9_isNew_19 rfl (v := (1 : Int32)) (by decide) (by decide) (fun _ => rfl) (fun y2 => ?_)
        refine r_goto C 2 dX9_isNew_22 (by decide) ?_
        refine r_sub [1, 2, 3, 0] [(0, .ref h0), (1, .int x1), (2, .int x2), (3, .int y2)] rfl ?_
        exact ih S h0 x1 x2 y2 th0
      · refine r_iconst C (0 : Int32) dX9_isNew_17 (by decide) ?_
        exact r_zreturn C X rfl dX9_isNew_18
set_option maxRecDepth 100000 in
set_option maxHeartbeats 4000000 in
theorem c_X9_isNew (l : Launch) (E : EN) (n : Nat) (h0 : Nat) (x1 : Int32) (x2 : Int32) (th0 : Ty E h0 8) : CT l E yX9_isNew cX9_isNew 4 (some .boolean) 0 0 wI tT [.ref h0, .int x1, .int x2] (fun S => f_X9_isNew E n S h0 x1 x2) := by
  refine ct_of RX9 (by decide +kernel) rfl [(0, .ref h0), (1, .int x1), (2, .int x2)] rfl (Nat.le_of_ble_eq_true rfl) (fun A S hA C X => ?_)
  subst hA
  show Gd A E 4 (QM A E wI tT) (f_X9_isNew E n S h0 x1 x2) S 0 [(0, .ref h0), (1, .int x1), (2, .int x2)] []
  unfold f_X9_isNew
  refine r_iconst C (0 : Int32) dX9_isNew_0 (by decide) ?_
  refine r_istore_n C [(3, .int (0 : Int32)), (0, .ref h0), (1, .int x1), (2, .int x2)] dX9_isNew_1 (by decide) rfl ?_
  refine r_sub [1, 2, 3, 0] [(0, .ref h0), (1, .int x1), (2, .int x2), (3, .int (0 : Int32))] rfl ?_
  exact p_X9_isNew_L2 C X  n S h0 x1 x2 (0 : Int32) th0
set_option maxRecDepth 100000 in
set_option maxHeartbeats 4000000 in
theorem p_X9_allWays_L55 {A : AM} {E : EN} {n : Nat} (C : Cx A E cX9_allWays 8 RX9 5 118) (X : Ex A E none)  : ∀ (m : Nat) (S : WS) (h0 : Nat) (x2 : Int32) (x3 : Int32) (x4 : Int32) (th0 : Ty E h0 8), Gd A E 8 (QM A E wV tT) (f_X9_allWays_L55 E n  m S h0 x2 x3 x4) S 55 [(0, .ref h0), (2, .int x2), (3, .int x3), (4, .int x4)] [] := by
  intro m
  induction m with
  | zero => intros; exact gn
  | succ m ih =>
    intro S h0 x2 x3 x4 th0
    unfold f_X9_allWays_L55
    refine r_iload C 3 dX9_allWays_55 rfl ?_
    refine r_if_le C 216 dX9_allWays_57 (by decide) ?_ ?_
    · exact r_return C X dX9_allWays_216
    · refine r_aload_n C 0 dX9_allWays_60 rfl ?_
      refine r_getr C fl_X9_37 dX9_allWays_61 th0 (fun b1 tb1 => ?_)
      refine r_iload C 3 dX9_allWays_64 rfl ?_
      refine r_iconst C (1 : Int32) dX9_allWays_66 (by decide) ?_
      refine r_isub C dX9_allWays_67 ?_
      refine r_iald C dX9_allWays_68 tb1 ?_
      refine r_topi (fun y2 => ?_)
      refine r_istore C [(5, .int y2), (0, .ref h0), (2, .int x2), (3, .int x3), (4, .int x4)] dX9_allWays_69 (by decide) rfl ?_
      refine r_iload C 0 dX9_allWays_71 rfl ?_
      refine r_iload_n C 2 dX9_allWays_73 rfl ?_
      refine r_icmp_ne C 89 dX9_allWays_74 (by decide) ?_ ?_
      · refine r_aload_n C 1 dX9_allWays_89 rfl ?_
        refine r_getr C fl_X9_40 dX9_allWays_90 th0 (fun b3 tb3 => ?_)
        refine r_iload C 4 dX9_allWays_93 rfl ?_
        refine r_iconst C (1 : Int32) dX9_allWays_95 (by decide) ?_
        refine r_isub C dX9_allWays_96 ?_
        refine r_topi (fun y4 => ?_)
        refine r_dup2 C dX9_allWays_97 rfl rfl ?_
        refine r_iald C dX9_allWays_98 tb3 ?_
        refine r_iconst C (1 : Int32) dX9_allWays_99 (by decide) ?_
        refine r_iadd C dX9_allWays_100 ?_
        refine r_iast C dX9_allWays_101 tb3 (fun S5 => ?_)
        refine r_aload_n C 1 dX9_allWays_102 rfl ?_
        refine r_getr C fl_X9_40 dX9_allWays_103 th0 (fun b6 tb6 => ?_)
        refine r_iload C 4 dX9_allWays_106 rfl ?_
        refine r_iconst C (1 : Int32) dX9_allWays_108 (by decide) ?_
        refine r_isub C dX9_allWays_109 ?_
        refine r_iald C dX9_allWays_110 tb6 ?_
        refine r_topi (fun y7 => ?_)
        refine r_istore C [(6, .int y7), (5, .int y2), (0, .ref h0), (2, .int x2), (3, .int x3), (4, .int x4)] dX9_allWays_111 (by decide) rfl ?_
        refine r_iload C 0 dX9_allWays_113 rfl ?_
        refine r_aload_n C 2 dX9_allWays_115 rfl ?_
        refine r_callV (As := []) (rest := [.int y7]) C (c_X9_places _ E n h0 th0) dX9_allWays_116 ml_X9_86 mv_X9_places ⟨TX9, _, rfl⟩ (by decide) th0 rfl rfl ⟨by decide, by decide⟩ (Nat.le_of_ble_eq_true rfl) (fun v9 S8 hv9 => ?_)
        refine r_icmp_lt C 128 dX9_allWays_119 (by decide) ?_ ?_
        · refine r_aload_n C 2 dX9_allWays_128 rfl ?_
          refine r_iload C 1 dX9_allWays_129 rfl ?_
          refine r_iload C 0 dX9_allWays_131 rfl ?_
          refine r_callV (As := [.int y2, .int y7]) (rest := []) C (c_X9_pathBetween _ E n h0 y2 y7 th0) dX9_allWays_133 ml_X9_361 mv_X9_pathBetween ⟨TX9, _, rfl⟩ (by decide) th0 rfl rfl ⟨by decide, by decide⟩ (Nat.le_of_ble_eq_true rfl) (fun v11 S10 hv11 => ?_)
          refine r_istore C [(7, .int v11), (6, .int y7), (5, .int y2), (0, .ref h0), (2, .int x2), (3, .int x3), (4, .int x4)] dX9_allWays_136 (by decide) rfl ?_
          refine r_iload C 0 dX9_allWays_138 rfl ?_
          refine r_iconst C (-1 : Int32) dX9_allWays_140 (by decide) ?_
          refine r_icmp_eq C 55 dX9_allWays_141 (by decide) ?_ ?_
          · refine r_sub [3, 4, 5, 6] [(0, .ref h0), (2, .int x2), (3, .int x3), (4, .int x4)] rfl ?_
            exact ih S10 h0 x2 x3 x4 th0
          · refine r_aload_n C 3 dX9_allWays_144 rfl ?_
            refine r_geti C fl_X9_329 dX9_allWays_145 th0 ?_
            refine r_iload C 0 dX9_allWays_148 rfl ?_
            refine r_ishr C dX9_allWays_150 ?_
            refine r_iconst C (1 : Int32) dX9_allWays_151 (by decide) ?_
            refine r_iand C dX9_allWays_152 ?_
            refine r_if_eq C 55 dX9_allWays_153 (by decide) ?_ ?_
            · refine r_sub [3, 4, 5, 6] [(0, .ref h0), (2, .int x2), (3, .int x3), (4, .int x4)] rfl ?_
              exact ih S10 h0 x2 x3 x4 th0
            · refine r_aload_n C 3 dX9_allWays_156 rfl ?_
              refine r_iload C 1 dX9_allWays_157 rfl ?_
              refine r_iload C 6 dX9_allWays_159 rfl ?_
              refine r_callV (As := [.int y7, .int x4]) (rest := []) C (c_X9_isNew _ E n h0 y7 x4 th0) dX9_allWays_161 ml_X9_364 mv_X9_isNew ⟨TX9, _, rfl⟩ (by decide) th0 rfl rfl ⟨by decide, by decide⟩ (Nat.le_of_ble_eq_true rfl) (fun v13 S12 hv13 => ?_)
              refine r_if_ne C 170 dX9_allWays_164 (by decide) ?_ ?_
              · refine r_aload_n C 3 dX9_allWays_170 rfl ?_
                refine r_getr C fl_X9_37 dX9_allWays_171 th0 (fun b14 tb14 => ?_)
                refine r_iload C 6 dX9_allWays_174 rfl ?_
                refine r_iload C 1 dX9_allWays_176 rfl ?_
                refine r_iast C dX9_allWays_178 tb14 (fun S15 => ?_)
                refine r_aload_n C 3 dX9_allWays_179 rfl ?_
                refine r_getr C fl_X9_43 dX9_allWays_180 th0 (fun b16 tb16 => ?_)
                refine r_iload C 6 dX9_allWays_183 rfl ?_
                refine r_aload_n C 3 dX9_allWays_185 rfl ?_
                refine r_aload_n C 3 dX9_allWays_186 rfl ?_
                refine r_getr C fl_X9_43 dX9_allWays_187 th0 (fun b17 tb17 => ?_)
                refine r_iload C 6 dX9_allWays_190 rfl ?_
                refine r_iconst C (1 : Int32) dX9_allWays_192 (by decide) ?_
                refine r_isub C dX9_allWays_193 ?_
                refine r_lald C dX9_allWays_194 tb17 ?_
                refine r_iload C 0 dX9_allWays_195 rfl ?_
                refine r_iload_n C 5 dX9_allWays_197 rfl ?_
                refine r_callV (As := [.long (aj S15 b17 (x4 - (1 : Int32)).toNatClampNeg), .int v11, .int x3]) (rest := [.int x4, .ref b16]) C (c_X9_safeBy _ E n h0 (aj S15 b17 (x4 - (1 : Int32)).toNatClampNeg) v11 x3 th0) dX9_allWays_198 ml_X9_319 mv_X9_safeBy ⟨TX9, _, rfl⟩ (by decide) th0 rfl rfl ⟨by decide, by decide⟩ (Nat.le_of_ble_eq_true rfl) (fun v19 S18 hv19 => ?_)
                refine r_last C dX9_allWays_201 tb16 (fun S20 => ?_)
                refine r_aload_n C 3 dX9_allWays_202 rfl ?_
                refine r_getr C fl_X9_40 dX9_allWays_203 th0 (fun b21 tb21 => ?_)
                refine r_iload C 6 dX9_allWays_206 rfl ?_
                refine r_iconst C (-1 : Int32) dX9_allWays_208 (by decide) ?_
                refine r_iast C dX9_allWays_209 tb21 (fun S22 => ?_)
                refine r_iinc C 6 (fun y23 => [(4, .int y23), (7, .int v11), (6, .int y7), (5, .int y2), (0, .ref h0), (2, .int x2), (3, .int x3)]) dX9_allWays_210 rfl (v := (1 : Int32)) (by decide) (by decide) (fun _ => rfl) (fun y23 => ?_)
                refine r_goto C 55 dX9_allWays_213 (by decide) ?_
                refine r_sub [4, 5, 6, 0] [(0, .ref h0), (2, .int x2), (3, .int x3), (4, .int y23)] rfl ?_
                exact ih S22 h0 x2 x3 y23 th0
              · refine r_goto C 55 dX9_allWays_167 (by decide) ?_
                refine r_sub [3, 4, 5, 6] [(0, .ref h0), (2, .int x2), (3, .int x3), (4, .int x4)] rfl ?_
                exact ih S12 h0 x2 x3 x4 th0
        · refine r_iinc C 5 (fun y24 => [(4, .int y24), (6, .int y7), (5, .int y2), (0, .ref h0), (2, .int x2), (3, .int x3)]) dX9_allWays_122 rfl (v := (-1 : Int32)) (by decide) (by decide) (fun _ => rfl) (fun y24 => ?_)
          refine r_goto C 55 dX9_allWays_125 (by decide) ?_
          refine r_sub [3, 4, 5, 0] [(0, .ref h0), (2, .int x2), (3, .int x3), (4, .int y24)] rfl ?_
          exact ih S8 h0 x2 x3 y24 th0
      · refine r_aload_n C 1 dX9_allWays_77 rfl ?_
        refine r_iload C 4 dX9_allWays_78 rfl ?_
        refine r_callV (As := [.int x4]) (rest := []) C (c_X9_found _ E n h0 x4 th0) dX9_allWays_80 ml_X9_358 mv_X9_found ⟨TX9, _, rfl⟩ (by decide) th0 rfl rfl ⟨by decide, by decide⟩ (Nat.le_of_ble_eq_true rfl) (fun v26 S25 hv26 => ?_)
        refine r_iinc C 4 (fun y27 => [(4, .int y27), (5, .int y2), (0, .ref h0), (2, .int x2), (3, .int x3)]) dX9_allWays_83 rfl (v := (-1 : Int32)) (by decide) (by decide) (fun _ => rfl) (fun y27 => ?_)
        refine r_goto C 55 dX9_allWays_86 (by decide) ?_
        refine r_sub [2, 3, 4, 0] [(0, .ref h0), (2, .int x2), (3, .int x3), (4, .int y27)] rfl ?_
        exact ih S25 h0 x2 x3 y27 th0
set_option maxRecDepth 100000 in
set_option maxHeartbeats 4000000 in
theorem c_X9_allWays (l : Launch) (E : EN) (n : Nat) (h0 : Nat) (x1 : Int32) (x2 : Int32) (x3 : Int32) (th0 : Ty E h0 8) : CT l E yX9_allWays cX9_allWays 8 none 5 118 wV tT [.ref h0, .int x1, .int x2, .int x3] (fun S => f_X9_allWays E n S h0 x1 x2 x3) := by
  refine ct_of RX9 (by decide +kernel) rfl [(0, .ref h0), (1, .int x1), (2, .int x2), (3, .int x3)] rfl (Nat.le_of_ble_eq_true rfl) (fun A S hA C X => ?_)
  subst hA
  show Gd A E 8 (QM A E wV tT) (f_X9_allWays E n S h0 x1 x2 x3) S 0 [(0, .ref h0), (1, .int x1), (2, .int x2), (3, .int x3)] []
  unfold f_X9_allWays
  refine r_aload_n C 0 dX9_allWays_0 rfl ?_
  refine r_aload_n C 0 dX9_allWays_1 rfl ?_
  refine r_iload_n C 1 dX9_allWays_2 rfl ?_
  refine r_callV (As := [.int x1]) (rest := [.ref h0]) C (c_X9_leapOf _ E n h0 x1 th0) dX9_allWays_3 ml_X9_332 mv_X9_leapOf ⟨TX9, _, rfl⟩ (by decide) th0 rfl rfl ⟨by decide, by decide⟩ (Nat.le_of_ble_eq_true rfl) (fun v2 S1 hv2 => ?_)
  refine r_iload_n C 3 dX9_allWays_6 rfl ?_
  refine r_callV (As := [.int v2, .int x3]) (rest := []) C (c_X9_opens _ E n h0 v2 x3 th0) dX9_allWays_7 ml_X9_335 mv_X9_opens ⟨TX9, _, rfl⟩ (by decide) th0 rfl rfl ⟨by decide, by decide⟩ (Nat.le_of_ble_eq_true rfl) (fun v4 S3 hv4 => ?_)
  refine r_aload_n C 0 dX9_allWays_10 rfl ?_
  refine r_iconst C (0 : Int32) dX9_allWays_11 (by decide) ?_
  refine r_puti C fl_X9_345 dX9_allWays_12 th0 (fun S5 => ?_)
  refine r_aload_n C 0 dX9_allWays_15 rfl ?_
  refine r_iconst C (0 : Int32) dX9_allWays_16 (by decide) ?_
  refine r_puti C fl_X9_348 dX9_allWays_17 th0 (fun S6 => ?_)
  refine r_aload_n C 0 dX9_allWays_20 rfl ?_
  refine r_iconst C (0 : Int32) dX9_allWays_21 (by decide) ?_
  refine r_puti C fl_X9_351 dX9_allWays_22 th0 (fun S7 => ?_)
  refine r_aload_n C 0 dX9_allWays_25 rfl ?_
  refine r_getr C fl_X9_37 dX9_allWays_26 th0 (fun b8 tb8 => ?_)
  refine r_iconst C (0 : Int32) dX9_allWays_29 (by decide) ?_
  refine r_aload_n C 0 dX9_allWays_30 rfl ?_
  refine r_iload_n C 1 dX9_allWays_31 rfl ?_
  refine r_callV (As := [.int x1]) (rest := [.int (0 : Int32), .ref b8]) C (c_X9_homeOf _ E n h0 x1 th0) dX9_allWays_32 ml_X9_339 mv_X9_homeOf ⟨TX9, _, rfl⟩ (by decide) th0 rfl rfl ⟨by decide, by decide⟩ (Nat.le_of_ble_eq_true rfl) (fun v10 S9 hv10 => ?_)
  refine r_iast C dX9_allWays_35 tb8 (fun S11 => ?_)
  refine r_aload_n C 0 dX9_allWays_36 rfl ?_
  refine r_getr C fl_X9_43 dX9_allWays_37 th0 (fun b12 tb12 => ?_)
  refine r_iconst C (0 : Int32) dX9_allWays_40 (by decide) ?_
  refine r_ldc2 C (100000000000000 : Int64) (mG 1637 (by decide +kernel) rfl) dX9_allWays_41 ?_
  refine r_last C dX9_allWays_44 tb12 (fun S13 => ?_)
  refine r_aload_n C 0 dX9_allWays_45 rfl ?_
  refine r_getr C fl_X9_40 dX9_allWays_46 th0 (fun b14 tb14 => ?_)
  refine r_iconst C (0 : Int32) dX9_allWays_49 (by decide) ?_
  refine r_iconst C (-1 : Int32) dX9_allWays_50 (by decide) ?_
  refine r_iast C dX9_allWays_51 tb14 (fun S15 => ?_)
  refine r_iconst C (1 : Int32) dX9_allWays_52 (by decide) ?_
  refine r_istore C [(4, .int (1 : Int32)), (0, .ref h0), (1, .int x1), (2, .int x2), (3, .int x3)] dX9_allWays_53 (by decide) rfl ?_
  refine r_sub [1, 3, 4, 0] [(0, .ref h0), (2, .int x2), (3, .int x3), (4, .int (1 : Int32))] rfl ?_
  exact p_X9_allWays_L55 C X  n S15 h0 x2 x3 (1 : Int32) th0
set_option maxRecDepth 100000 in
set_option maxHeartbeats 4000000 in
theorem c_X9_isAsked (l : Launch) (E : EN) (n : Nat) (h0 : Nat) (x1 : Int32) (x2 : Int32) (x3 : Int32) (th0 : Ty E h0 8) : CT l E yX9_isAsked cX9_isAsked 4 (some .boolean) 2 47 wI tT [.ref h0, .int x1, .int x2, .int x3] (fun S => f_X9_isAsked E n S h0 x1 x2 x3) := by
  refine ct_of RX9 (by decide +kernel) rfl [(0, .ref h0), (1, .int x1), (2, .int x2), (3, .int x3)] rfl (Nat.le_of_ble_eq_true rfl) (fun A S hA C X => ?_)
  subst hA
  show Gd A E 4 (QM A E wI tT) (f_X9_isAsked E n S h0 x1 x2 x3) S 0 [(0, .ref h0), (1, .int x1), (2, .int x2), (3, .int x3)] []
  unfold f_X9_isAsked
  refine r_aload_n C 0 dX9_isAsked_0 rfl ?_
  refine r_iload_n C 1 dX9_isAsked_1 rfl ?_
  refine r_callV (As := [.int x1]) (rest := []) C (c_X9_isWalker _ E n h0 x1 th0) dX9_isAsked_2 ml_X9_367 mv_X9_isWalker ⟨TX9, _, rfl⟩ (by decide) th0 rfl rfl ⟨by decide, by decide⟩ (Nat.le_of_ble_eq_true rfl) (fun v2 S1 hv2 => ?_)
  refine r_if_eq C 29 dX9_isAsked_5 (by decide) ?_ ?_
  · refine r_iconst C (0 : Int32) dX9_isAsked_29 (by decide) ?_
    exact r_zreturn C X rfl dX9_isAsked_30
  · refine r_aload_n C 0 dX9_isAsked_8 rfl ?_
    refine r_iload_n C 2 dX9_isAsked_9 rfl ?_
    refine r_callV (As := [.int x2]) (rest := []) C (c_X9_isPlace _ E n h0 x2 th0) dX9_isAsked_10 ml_X9_370 mv_X9_isPlace ⟨TX9, _, rfl⟩ (by decide) th0 rfl rfl ⟨by decide, by decide⟩ (Nat.le_of_ble_eq_true rfl) (fun v4 S3 hv4 => ?_)
    refine r_if_eq C 29 dX9_isAsked_13 (by decide) ?_ ?_
    · refine r_iconst C (0 : Int32) dX9_isAsked_29 (by decide) ?_
      exact r_zreturn C X rfl dX9_isAsked_30
    · refine r_aload_n C 0 dX9_isAsked_16 rfl ?_
      refine r_iload_n C 3 dX9_isAsked_17 rfl ?_
      refine r_i2l C dX9_isAsked_18 ?_
      refine r_callV (As := [.long (x3.toInt64)]) (rest := []) C (c_X9_isYear _ E n h0 (x3.toInt64) th0) dX9_isAsked_19 ml_X9_292 mv_X9_isYear ⟨TX9, _, rfl⟩ (by decide) th0 rfl rfl ⟨by decide, by decide⟩ (Nat.le_of_ble_eq_true rfl) (fun v6 S5 hv6 => ?_)
      refine r_if_eq C 29 dX9_isAsked_22 (by decide) ?_ ?_
      · refine r_iconst C (0 : Int32) dX9_isAsked_29 (by decide) ?_
        exact r_zreturn C X rfl dX9_isAsked_30
      · refine r_iconst C (1 : Int32) dX9_isAsked_25 (by decide) ?_
        refine r_goto C 30 dX9_isAsked_26 (by decide) ?_
        exact r_zreturn C X rfl dX9_isAsked_30
set_option maxRecDepth 100000 in
set_option maxHeartbeats 4000000 in
theorem c_X9_reach (l : Launch) (E : EN) (n : Nat) (h0 : Nat) (x1 : Int32) (x2 : Int32) (th0 : Ty E h0 8) : CT l E yX9_reach cX9_reach 3 (some .int) 5 118 wI tT [.ref h0, .int x1, .int x2] (fun S => f_X9_reach E n S h0 x1 x2) := by
  refine ct_of RX9 (by decide +kernel) rfl [(0, .ref h0), (1, .int x1), (2, .int x2)] rfl (Nat.le_of_ble_eq_true rfl) (fun A S hA C X => ?_)
  subst hA
  show Gd A E 3 (QM A E wI tT) (f_X9_reach E n S h0 x1 x2) S 0 [(0, .ref h0), (1, .int x1), (2, .int x2)] []
  unfold f_X9_reach
  refine r_aload_n C 0 dX9_reach_0 rfl ?_
  refine r_iload_n C 1 dX9_reach_1 rfl ?_
  refine r_callV (As := [.int x1]) (rest := []) C (c_X9_isWalker _ E n h0 x1 th0) dX9_reach_2 ml_X9_367 mv_X9_isWalker ⟨TX9, _, rfl⟩ (by decide) th0 rfl rfl ⟨by decide, by decide⟩ (Nat.le_of_ble_eq_true rfl) (fun v2 S1 hv2 => ?_)
  refine r_if_eq C 17 dX9_reach_5 (by decide) ?_ ?_
  · refine r_bipush C (-2 : Int32) dX9_reach_17 (by decide) ?_
    exact r_ireturn C X dX9_reach_19
  · refine r_aload_n C 0 dX9_reach_8 rfl ?_
    refine r_iload_n C 2 dX9_reach_9 rfl ?_
    refine r_i2l C dX9_reach_10 ?_
    refine r_callV (As := [.long (x2.toInt64)]) (rest := []) C (c_X9_isYear _ E n h0 (x2.toInt64) th0) dX9_reach_11 ml_X9_292 mv_X9_isYear ⟨TX9, _, rfl⟩ (by decide) th0 rfl rfl ⟨by decide, by decide⟩ (Nat.le_of_ble_eq_true rfl) (fun v4 S3 hv4 => ?_)
    refine r_if_ne C 20 dX9_reach_14 (by decide) ?_ ?_
    · refine r_aload_n C 0 dX9_reach_20 rfl ?_
      refine r_aload_n C 0 dX9_reach_21 rfl ?_
      refine r_iload_n C 1 dX9_reach_22 rfl ?_
      refine r_callV (As := [.int x1]) (rest := [.ref h0]) C (c_X9_leapOf _ E n h0 x1 th0) dX9_reach_23 ml_X9_332 mv_X9_leapOf ⟨TX9, _, rfl⟩ (by decide) th0 rfl rfl ⟨by decide, by decide⟩ (Nat.le_of_ble_eq_true rfl) (fun v6 S5 hv6 => ?_)
      refine r_iload_n C 2 dX9_reach_26 rfl ?_
      refine r_callV (As := [.int v6, .int x2]) (rest := []) C (c_X9_opens _ E n h0 v6 x2 th0) dX9_reach_27 ml_X9_335 mv_X9_opens ⟨TX9, _, rfl⟩ (by decide) th0 rfl rfl ⟨by decide, by decide⟩ (Nat.le_of_ble_eq_true rfl) (fun v8 S7 hv8 => ?_)
      refine r_aload_n C 0 dX9_reach_30 rfl ?_
      refine r_aload_n C 0 dX9_reach_31 rfl ?_
      refine r_iload_n C 1 dX9_reach_32 rfl ?_
      refine r_callV (As := [.int x1]) (rest := [.ref h0]) C (c_X9_homeOf _ E n h0 x1 th0) dX9_reach_33 ml_X9_339 mv_X9_homeOf ⟨TX9, _, rfl⟩ (by decide) th0 rfl rfl ⟨by decide, by decide⟩ (Nat.le_of_ble_eq_true rfl) (fun v10 S9 hv10 => ?_)
      refine r_callV (As := [.int v10]) (rest := []) C (c_X9_reachFrom _ E n h0 v10 th0) dX9_reach_36 ml_X9_342 mv_X9_reachFrom ⟨TX9, _, rfl⟩ (by decide) th0 rfl rfl ⟨by decide, by decide⟩ (Nat.le_of_ble_eq_true rfl) (fun v12 S11 hv12 => ?_)
      exact r_ireturn C X dX9_reach_39
    · refine r_bipush C (-2 : Int32) dX9_reach_17 (by decide) ?_
      exact r_ireturn C X dX9_reach_19
set_option maxRecDepth 100000 in
set_option maxHeartbeats 4000000 in
theorem c_X9_shortest (l : Launch) (E : EN) (n : Nat) (h0 : Nat) (x1 : Int32) (x2 : Int32) (x3 : Int32) (th0 : Ty E h0 8) : CT l E yX9_shortest cX9_shortest 4 (some .int) 6 145 wI tT [.ref h0, .int x1, .int x2, .int x3] (fun S => f_X9_shortest E n S h0 x1 x2 x3) := by
  refine ct_of RX9 (by decide +kernel) rfl [(0, .ref h0), (1, .int x1), (2, .int x2), (3, .int x3)] rfl (Nat.le_of_ble_eq_true rfl) (fun A S hA C X => ?_)
  subst hA
  show Gd A E 4 (QM A E wI tT) (f_X9_shortest E n S h0 x1 x2 x3) S 0 [(0, .ref h0), (1, .int x1), (2, .int x2), (3, .int x3)] []
  unfold f_X9_shortest
  refine r_aload_n C 0 dX9_shortest_0 rfl ?_
  refine r_iload_n C 1 dX9_shortest_1 rfl ?_
  refine r_iload_n C 2 dX9_shortest_2 rfl ?_
  refine r_iload_n C 3 dX9_shortest_3 rfl ?_
  refine r_callV (As := [.int x1, .int x2, .int x3]) (rest := []) C (c_X9_isAsked _ E n h0 x1 x2 x3 th0) dX9_shortest_4 ml_X9_373 mv_X9_isAsked ⟨TX9, _, rfl⟩ (by decide) th0 rfl rfl ⟨by decide, by decide⟩ (Nat.le_of_ble_eq_true rfl) (fun v2 S1 hv2 => ?_)
  refine r_if_ne C 13 dX9_shortest_7 (by decide) ?_ ?_
  · refine r_aload_n C 0 dX9_shortest_13 rfl ?_
    refine r_iload_n C 1 dX9_shortest_14 rfl ?_
    refine r_iload_n C 2 dX9_shortest_15 rfl ?_
    refine r_iload_n C 3 dX9_shortest_16 rfl ?_
    refine r_callV (As := [.int x1, .int x2, .int x3]) (rest := []) C (c_X9_allWays _ E n h0 x1 x2 x3 th0) dX9_shortest_17 ml_X9_376 mv_X9_allWays ⟨TX9, _, rfl⟩ (by decide) th0 rfl rfl ⟨by decide, by decide⟩ (Nat.le_of_ble_eq_true rfl) (fun v4 S3 hv4 => ?_)
    refine r_aload_n C 0 dX9_shortest_20 rfl ?_
    refine r_geti C fl_X9_348 dX9_shortest_21 th0 ?_
    refine r_if_ne C 31 dX9_shortest_24 (by decide) ?_ ?_
    · refine r_aload_n C 0 dX9_shortest_31 rfl ?_
      refine r_geti C fl_X9_348 dX9_shortest_32 th0 ?_
      exact r_ireturn C X dX9_shortest_35
    · refine r_iconst C (-1 : Int32) dX9_shortest_27 (by decide) ?_
      refine r_goto C 35 dX9_shortest_28 (by decide) ?_
      exact r_ireturn C X dX9_shortest_35
  · refine r_bipush C (-2 : Int32) dX9_shortest_10 (by decide) ?_
    exact r_ireturn C X dX9_shortest_12
set_option maxRecDepth 100000 in
set_option maxHeartbeats 4000000 in
theorem c_X9_goes (l : Launch) (E : EN) (n : Nat) (h0 : Nat) (x1 : Int32) (x2 : Int32) (x3 : Int32) (x4 : Int32) (th0 : Ty E h0 8) : CT l E yX9_goes cX9_goes 5 (some .int) 6 145 wI tT [.ref h0, .int x1, .int x2, .int x3, .int x4] (fun S => f_X9_goes E n S h0 x1 x2 x3 x4) := by
  refine ct_of RX9 (by decide +kernel) rfl [(0, .ref h0), (1, .int x1), (2, .int x2), (3, .int x3), (4, .int x4)] rfl (Nat.le_of_ble_eq_true rfl) (fun A S hA C X => ?_)
  subst hA
  show Gd A E 5 (QM A E wI tT) (f_X9_goes E n S h0 x1 x2 x3 x4) S 0 [(0, .ref h0), (1, .int x1), (2, .int x2), (3, .int x3), (4, .int x4)] []
  unfold f_X9_goes
  refine r_aload_n C 0 dX9_goes_0 rfl ?_
  refine r_iload_n C 1 dX9_goes_1 rfl ?_
  refine r_iload_n C 2 dX9_goes_2 rfl ?_
  refine r_iload_n C 3 dX9_goes_3 rfl ?_
  refine r_callV (As := [.int x1, .int x2, .int x3]) (rest := []) C (c_X9_isAsked _ E n h0 x1 x2 x3 th0) dX9_goes_4 ml_X9_373 mv_X9_isAsked ⟨TX9, _, rfl⟩ (by decide) th0 rfl rfl ⟨by decide, by decide⟩ (Nat.le_of_ble_eq_true rfl) (fun v2 S1 hv2 => ?_)
  refine r_if_ne C 13 dX9_goes_7 (by decide) ?_ ?_
  · refine r_aload_n C 0 dX9_goes_13 rfl ?_
    refine r_iload_n C 1 dX9_goes_14 rfl ?_
    refine r_iload_n C 2 dX9_goes_15 rfl ?_
    refine r_iload_n C 3 dX9_goes_16 rfl ?_
    refine r_callV (As := [.int x1, .int x2, .int x3]) (rest := []) C (c_X9_allWays _ E n h0 x1 x2 x3 th0) dX9_goes_17 ml_X9_376 mv_X9_allWays ⟨TX9, _, rfl⟩ (by decide) th0 rfl rfl ⟨by decide, by decide⟩ (Nat.le_of_ble_eq_true rfl) (fun v4 S3 hv4 => ?_)
    refine r_iload C 4 dX9_goes_20 rfl ?_
    refine r_i2l C dX9_goes_22 ?_
    refine r_lconst C (0 : Int64) dX9_goes_23 (by decide) ?_
    refine r_aload_n C 0 dX9_goes_24 rfl ?_
    refine r_geti C fl_X9_348 dX9_goes_25 th0 ?_
    refine r_iconst C (1 : Int32) dX9_goes_28 (by decide) ?_
    refine r_isub C dX9_goes_29 ?_
    refine r_i2l C dX9_goes_30 ?_
    refine r_callS (As := [.long (x4.toInt64), .long (0 : Int64), .long (((gi S3 534 h0) - (1 : Int32)).toInt64)]) (rest := []) C (c_X9_in _ E n (x4.toInt64) (0 : Int64) (((gi S3 534 h0) - (1 : Int32)).toInt64) ) dX9_goes_31 ml_X9_82 mv_X9_in rfl rfl ⟨by decide, by decide⟩ (Nat.le_of_ble_eq_true rfl) (fun v6 S5 hv6 => ?_)
    refine r_if_eq C 47 dX9_goes_34 (by decide) ?_ ?_
    · refine r_iconst C (-1 : Int32) dX9_goes_47 (by decide) ?_
      exact r_ireturn C X dX9_goes_48
    · refine r_aload_n C 0 dX9_goes_37 rfl ?_
      refine r_getr C fl_X9_47 dX9_goes_38 th0 (fun b7 tb7 => ?_)
      refine r_iload C 4 dX9_goes_41 rfl ?_
      refine r_iald C dX9_goes_43 tb7 ?_
      refine r_goto C 48 dX9_goes_44 (by decide) ?_
      exact r_ireturn C X dX9_goes_48
  · refine r_bipush C (-2 : Int32) dX9_goes_10 (by decide) ?_
    exact r_ireturn C X dX9_goes_12
set_option maxRecDepth 100000 in
set_option maxHeartbeats 4000000 in
theorem c_X9_safest (l : Launch) (E : EN) (n : Nat) (h0 : Nat) (x1 : Int32) (x2 : Int32) (x3 : Int32) (x4 : Int32) (th0 : Ty E h0 8) : CT l E yX9_safest cX9_safest 5 (some .long) 6 145 wJ tT [.ref h0, .int x1, .int x2, .int x3, .int x4] (fun S => f_X9_safest E n S h0 x1 x2 x3 x4) := by
  refine ct_of RX9 (by decide +kernel) rfl [(0, .ref h0), (1, .int x1), (2, .int x2), (3, .int x3), (4, .int x4)] rfl (Nat.le_of_ble_eq_true rfl) (fun A S hA C X => ?_)
  subst hA
  show Gd A E 5 (QM A E wJ tT) (f_X9_safest E n S h0 x1 x2 x3 x4) S 0 [(0, .ref h0), (1, .int x1), (2, .int x2), (3, .int x3), (4, .int x4)] []
  unfold f_X9_safest
  refine r_aload_n C 0 dX9_safest_0 rfl ?_
  refine r_iload_n C 1 dX9_safest_1 rfl ?_
  refine r_iload_n C 2 dX9_safest_2 rfl ?_
  refine r_iload_n C 3 dX9_safest_3 rfl ?_
  refine r_callV (As := [.int x1, .int x2, .int x3]) (rest := []) C (c_X9_isAsked _ E n h0 x1 x2 x3 th0) dX9_safest_4 ml_X9_373 mv_X9_isAsked ⟨TX9, _, rfl⟩ (by decide) th0 rfl rfl ⟨by decide, by decide⟩ (Nat.le_of_ble_eq_true rfl) (fun v2 S1 hv2 => ?_)
  refine r_if_eq C 23 dX9_safest_7 (by decide) ?_ ?_
  · refine r_ldc2 C (-2 : Int64) (mG 1653 (by decide +kernel) rfl) dX9_safest_23 ?_
    exact r_lreturn C X dX9_safest_26
  · refine r_iload C 4 dX9_safest_10 rfl ?_
    refine r_i2l C dX9_safest_12 ?_
    refine r_lconst C (0 : Int64) dX9_safest_13 (by decide) ?_
    refine r_ldc2 C (2 : Int64) (mG 1379 (by decide +kernel) rfl) dX9_safest_14 ?_
    refine r_callS (As := [.long (x4.toInt64), .long (0 : Int64), .long (2 : Int64)]) (rest := []) C (c_X9_in _ E n (x4.toInt64) (0 : Int64) (2 : Int64) ) dX9_safest_17 ml_X9_82 mv_X9_in rfl rfl ⟨by decide, by decide⟩ (Nat.le_of_ble_eq_true rfl) (fun v4 S3 hv4 => ?_)
    refine r_if_ne C 27 dX9_safest_20 (by decide) ?_ ?_
    · refine r_aload_n C 0 dX9_safest_27 rfl ?_
      refine r_iload_n C 1 dX9_safest_28 rfl ?_
      refine r_iload_n C 2 dX9_safest_29 rfl ?_
      refine r_iload_n C 3 dX9_safest_30 rfl ?_
      refine r_callV (As := [.int x1, .int x2, .int x3]) (rest := []) C (c_X9_allWays _ E n h0 x1 x2 x3 th0) dX9_safest_31 ml_X9_376 mv_X9_allWays ⟨TX9, _, rfl⟩ (by decide) th0 rfl rfl ⟨by decide, by decide⟩ (Nat.le_of_ble_eq_true rfl) (fun v6 S5 hv6 => ?_)
      refine r_aload_n C 0 dX9_safest_34 rfl ?_
      refine r_geti C fl_X9_351 dX9_safest_35 th0 ?_
      refine r_if_ne C 47 dX9_safest_38 (by decide) ?_ ?_
      · refine r_iload C 4 dX9_safest_47 rfl ?_
        refine r_iconst C (2 : Int32) dX9_safest_49 (by decide) ?_
        refine r_icmp_ne C 61 dX9_safest_50 (by decide) ?_ ?_
        · refine r_aload_n C 0 dX9_safest_61 rfl ?_
          refine r_getj C fl_X9_354 dX9_safest_62 th0 ?_
          refine r_iload C 4 dX9_safest_65 rfl ?_
          refine r_callS (As := [.long (gj S5 537 h0), .int x4]) (rest := []) C (c_X9_part _ E n (gj S5 537 h0) x4 ) dX9_safest_67 ml_X9_323 mv_X9_part rfl rfl ⟨by decide, by decide⟩ (Nat.le_of_ble_eq_true rfl) (fun v8 S7 hv8 => ?_)
          exact r_lreturn C X dX9_safest_70
        · refine r_aload_n C 0 dX9_safest_53 rfl ?_
          refine r_geti C fl_X9_351 dX9_safest_54 th0 ?_
          refine r_i2l C dX9_safest_57 ?_
          refine r_goto C 70 dX9_safest_58 (by decide) ?_
          exact r_lreturn C X dX9_safest_70
      · refine r_ldc2 C (-1 : Int64) (mG 1718 (by decide +kernel) rfl) dX9_safest_41 ?_
        refine r_goto C 70 dX9_safest_44 (by decide) ?_
        exact r_lreturn C X dX9_safest_70
    · refine r_ldc2 C (-2 : Int64) (mG 1653 (by decide +kernel) rfl) dX9_safest_23 ?_
      exact r_lreturn C X dX9_safest_26
set_option maxRecDepth 100000 in
set_option maxHeartbeats 4000000 in
theorem c_X9_place (l : Launch) (E : EN) (n : Nat) (h0 : Nat) (x1 : Int32) (x2 : Int32) (x3 : Int32) (x4 : Int32) (th0 : Ty E h0 8) : CT l E yX9_place cX9_place 5 (some .int) 6 145 wI tT [.ref h0, .int x1, .int x2, .int x3, .int x4] (fun S => f_X9_place E n S h0 x1 x2 x3 x4) := by
  refine ct_of RX9 (by decide +kernel) rfl [(0, .ref h0), (1, .int x1), (2, .int x2), (3, .int x3), (4, .int x4)] rfl (Nat.le_of_ble_eq_true rfl) (fun A S hA C X => ?_)
  subst hA
  show Gd A E 5 (QM A E wI tT) (f_X9_place E n S h0 x1 x2 x3 x4) S 0 [(0, .ref h0), (1, .int x1), (2, .int x2), (3, .int x3), (4, .int x4)] []
  unfold f_X9_place
  refine r_aload_n C 0 dX9_place_0 rfl ?_
  refine r_iload_n C 1 dX9_place_1 rfl ?_
  refine r_iload_n C 2 dX9_place_2 rfl ?_
  refine r_iload_n C 3 dX9_place_3 rfl ?_
  refine r_callV (As := [.int x1, .int x2, .int x3]) (rest := []) C (c_X9_isAsked _ E n h0 x1 x2 x3 th0) dX9_place_4 ml_X9_373 mv_X9_isAsked ⟨TX9, _, rfl⟩ (by decide) th0 rfl rfl ⟨by decide, by decide⟩ (Nat.le_of_ble_eq_true rfl) (fun v2 S1 hv2 => ?_)
  refine r_if_ne C 13 dX9_place_7 (by decide) ?_ ?_
  · refine r_aload_n C 0 dX9_place_13 rfl ?_
    refine r_iload_n C 1 dX9_place_14 rfl ?_
    refine r_iload_n C 2 dX9_place_15 rfl ?_
    refine r_iload_n C 3 dX9_place_16 rfl ?_
    refine r_callV (As := [.int x1, .int x2, .int x3]) (rest := []) C (c_X9_allWays _ E n h0 x1 x2 x3 th0) dX9_place_17 ml_X9_376 mv_X9_allWays ⟨TX9, _, rfl⟩ (by decide) th0 rfl rfl ⟨by decide, by decide⟩ (Nat.le_of_ble_eq_true rfl) (fun v4 S3 hv4 => ?_)
    refine r_iload C 4 dX9_place_20 rfl ?_
    refine r_i2l C dX9_place_22 ?_
    refine r_lconst C (0 : Int64) dX9_place_23 (by decide) ?_
    refine r_aload_n C 0 dX9_place_24 rfl ?_
    refine r_geti C fl_X9_351 dX9_place_25 th0 ?_
    refine r_iconst C (1 : Int32) dX9_place_28 (by decide) ?_
    refine r_isub C dX9_place_29 ?_
    refine r_i2l C dX9_place_30 ?_
    refine r_callS (As := [.long (x4.toInt64), .long (0 : Int64), .long (((gi S3 536 h0) - (1 : Int32)).toInt64)]) (rest := []) C (c_X9_in _ E n (x4.toInt64) (0 : Int64) (((gi S3 536 h0) - (1 : Int32)).toInt64) ) dX9_place_31 ml_X9_82 mv_X9_in rfl rfl ⟨by decide, by decide⟩ (Nat.le_of_ble_eq_true rfl) (fun v6 S5 hv6 => ?_)
    refine r_if_eq C 47 dX9_place_34 (by decide) ?_ ?_
    · refine r_iconst C (-1 : Int32) dX9_place_47 (by decide) ?_
      exact r_ireturn C X dX9_place_48
    · refine r_aload_n C 0 dX9_place_37 rfl ?_
      refine r_getr C fl_X9_50 dX9_place_38 th0 (fun b7 tb7 => ?_)
      refine r_iload C 4 dX9_place_41 rfl ?_
      refine r_iald C dX9_place_43 tb7 ?_
      refine r_goto C 48 dX9_place_44 (by decide) ?_
      exact r_ireturn C X dX9_place_48
  · refine r_bipush C (-2 : Int32) dX9_place_10 (by decide) ?_
    exact r_ireturn C X dX9_place_12
set_option maxRecDepth 100000 in
set_option maxHeartbeats 4000000 in
theorem c_X9_ways (l : Launch) (E : EN) (n : Nat) (h0 : Nat) (x1 : Int32) (x2 : Int32) (x3 : Int32) (th0 : Ty E h0 8) : CT l E yX9_ways cX9_ways 4 (some .int) 6 145 wI tT [.ref h0, .int x1, .int x2, .int x3] (fun S => f_X9_ways E n S h0 x1 x2 x3) := by
  refine ct_of RX9 (by decide +kernel) rfl [(0, .ref h0), (1, .int x1), (2, .int x2), (3, .int x3)] rfl (Nat.le_of_ble_eq_true rfl) (fun A S hA C X => ?_)
  subst hA
  show Gd A E 4 (QM A E wI tT) (f_X9_ways E n S h0 x1 x2 x3) S 0 [(0, .ref h0), (1, .int x1), (2, .int x2), (3, .int x3)] []
  unfold f_X9_ways
  refine r_aload_n C 0 dX9_ways_0 rfl ?_
  refine r_iload_n C 1 dX9_ways_1 rfl ?_
  refine r_iload_n C 2 dX9_ways_2 rfl ?_
  refine r_iload_n C 3 dX9_ways_3 rfl ?_
  refine r_callV (As := [.int x1, .int x2, .int x3]) (rest := []) C (c_X9_isAsked _ E n h0 x1 x2 x3 th0) dX9_ways_4 ml_X9_373 mv_X9_isAsked ⟨TX9, _, rfl⟩ (by decide) th0 rfl rfl ⟨by decide, by decide⟩ (Nat.le_of_ble_eq_true rfl) (fun v2 S1 hv2 => ?_)
  refine r_if_ne C 13 dX9_ways_7 (by decide) ?_ ?_
  · refine r_aload_n C 0 dX9_ways_13 rfl ?_
    refine r_iload_n C 1 dX9_ways_14 rfl ?_
    refine r_iload_n C 2 dX9_ways_15 rfl ?_
    refine r_iload_n C 3 dX9_ways_16 rfl ?_
    refine r_callV (As := [.int x1, .int x2, .int x3]) (rest := []) C (c_X9_allWays _ E n h0 x1 x2 x3 th0) dX9_ways_17 ml_X9_376 mv_X9_allWays ⟨TX9, _, rfl⟩ (by decide) th0 rfl rfl ⟨by decide, by decide⟩ (Nat.le_of_ble_eq_true rfl) (fun v4 S3 hv4 => ?_)
    refine r_aload_n C 0 dX9_ways_20 rfl ?_
    refine r_geti C fl_X9_345 dX9_ways_21 th0 ?_
    exact r_ireturn C X dX9_ways_24
  · refine r_bipush C (-2 : Int32) dX9_ways_10 (by decide) ?_
    exact r_ireturn C X dX9_ways_12
set_option maxRecDepth 100000 in
set_option maxHeartbeats 4000000 in
theorem p_X9_when_L43 {A : AM} {E : EN} {n : Nat} (C : Cx A E cX9_when 8 RX9 6 141) (X : Ex A E (some .int))  : ∀ (m : Nat) (S : WS) (h0 : Nat) (x1 : Int32) (x2 : Int32) (x3 : Int32) (x4 : Int32) (x5 : Int32) (x6 : Int32) (x7 : Int32) (th0 : Ty E h0 8), Gd A E 8 (QM A E wI tT) (f_X9_when_L43 E n  m S h0 x1 x2 x3 x4 x5 x6 x7) S 43 [(0, .ref h0), (1, .int x1), (2, .int x2), (3, .int x3), (4, .int x4), (5, .int x5), (6, .int x6), (7, .int x7)] [] := by
  intro m
  induction m with
  | zero => intros; exact gn
  | succ m ih =>
    intro S h0 x1 x2 x3 x4 x5 x6 x7 th0
    unfold f_X9_when_L43
    refine r_iload C 7 dX9_when_43 rfl ?_
    refine r_aload_n C 0 dX9_when_45 rfl ?_
    refine r_getr C fl_X9_9 dX9_when_46 th0 (fun b1 tb1 => ?_)
    refine r_iconst C (1 : Int32) dX9_when_49 (by decide) ?_
    refine r_iald C dX9_when_50 tb1 ?_
    refine r_icmp_ge C 96 dX9_when_51 (by decide) ?_ ?_
    · refine r_iload_n C 3 dX9_when_96 rfl ?_
      refine r_if_ne C 105 dX9_when_97 (by decide) ?_ ?_
      · refine r_iload_n C 3 dX9_when_105 rfl ?_
        refine r_iconst C (1 : Int32) dX9_when_106 (by decide) ?_
        refine r_icmp_ne C 115 dX9_when_107 (by decide) ?_ ?_
        · refine r_iload C 6 dX9_when_115 rfl ?_
          exact r_ireturn C X dX9_when_117
        · refine r_iload C 5 dX9_when_110 rfl ?_
          refine r_goto C 117 dX9_when_112 (by decide) ?_
          exact r_ireturn C X dX9_when_117
      · refine r_iload C 4 dX9_when_100 rfl ?_
        refine r_goto C 117 dX9_when_102 (by decide) ?_
        exact r_ireturn C X dX9_when_117
    · refine r_aload_n C 0 dX9_when_54 rfl ?_
      refine r_iload_n C 1 dX9_when_55 rfl ?_
      refine r_iload_n C 2 dX9_when_56 rfl ?_
      refine r_iload C 7 dX9_when_57 rfl ?_
      refine r_callV (As := [.int x1, .int x2, .int x7]) (rest := []) C (c_X9_canCome _ E n h0 x1 x2 x7 th0) dX9_when_59 ml_X9_382 mv_X9_canCome ⟨TX9, _, rfl⟩ (by decide) th0 rfl rfl ⟨by decide, by decide⟩ (Nat.le_of_ble_eq_true rfl) (fun v3 S2 hv3 => ?_)
      refine r_if_ne C 68 dX9_when_62 (by decide) ?_ ?_
      · refine r_iload C 4 dX9_when_68 rfl ?_
        refine r_iconst C (-1 : Int32) dX9_when_70 (by decide) ?_
        refine r_icmp_ne C 79 dX9_when_71 (by decide) ?_ ?_
        · refine r_iload C 4 dX9_when_79 rfl ?_
          refine r_istore C [(4, .int x4), (0, .ref h0), (1, .int x1), (2, .int x2), (3, .int x3), (5, .int x5), (6, .int x6), (7, .int x7)] dX9_when_81 (by decide) rfl ?_
          refine r_iload C 7 dX9_when_83 rfl ?_
          refine r_istore C [(5, .int x7), (4, .int x4), (0, .ref h0), (1, .int x1), (2, .int x2), (3, .int x3), (6, .int x6), (7, .int x7)] dX9_when_85 (by decide) rfl ?_
          refine r_iinc C 6 (fun y4 => [(6, .int y4), (5, .int x7), (4, .int x4), (0, .ref h0), (1, .int x1), (2, .int x2), (3, .int x3), (7, .int x7)]) dX9_when_87 rfl (v := (1 : Int32)) (by decide) (by decide) (fun _ => rfl) (fun y4 => ?_)
          refine r_iinc C 7 (fun y5 => [(7, .int y5), (6, .int y4), (5, .int x7), (4, .int x4), (0, .ref h0), (1, .int x1), (2, .int x2), (3, .int x3)]) dX9_when_90 rfl (v := (1 : Int32)) (by decide) (by decide) (fun _ => rfl) (fun y5 => ?_)
          refine r_goto C 43 dX9_when_93 (by decide) ?_
          refine r_sub [4, 5, 6, 7, 3, 2, 1, 0] [(0, .ref h0), (1, .int x1), (2, .int x2), (3, .int x3), (4, .int x4), (5, .int x7), (6, .int y4), (7, .int y5)] rfl ?_
          exact ih S2 h0 x1 x2 x3 x4 x7 y4 y5 th0
        · refine r_iload C 7 dX9_when_74 rfl ?_
          refine r_goto C 81 dX9_when_76 (by decide) ?_
          refine r_istore C [(4, .int x7), (0, .ref h0), (1, .int x1), (2, .int x2), (3, .int x3), (5, .int x5), (6, .int x6), (7, .int x7)] dX9_when_81 (by decide) rfl ?_
          refine r_iload C 7 dX9_when_83 rfl ?_
          refine r_istore C [(5, .int x7), (4, .int x7), (0, .ref h0), (1, .int x1), (2, .int x2), (3, .int x3), (6, .int x6), (7, .int x7)] dX9_when_85 (by decide) rfl ?_
          refine r_iinc C 6 (fun y6 => [(6, .int y6), (5, .int x7), (4, .int x7), (0, .ref h0), (1, .int x1), (2, .int x2), (3, .int x3), (7, .int x7)]) dX9_when_87 rfl (v := (1 : Int32)) (by decide) (by decide) (fun _ => rfl) (fun y6 => ?_)
          refine r_iinc C 7 (fun y7 => [(7, .int y7), (6, .int y6), (5, .int x7), (4, .int x7), (0, .ref h0), (1, .int x1), (2, .int x2), (3, .int x3)]) dX9_when_90 rfl (v := (1 : Int32)) (by decide) (by decide) (fun _ => rfl) (fun y7 => ?_)
          refine r_goto C 43 dX9_when_93 (by decide) ?_
          refine r_sub [4, 5, 6, 7, 3, 2, 1, 0] [(0, .ref h0), (1, .int x1), (2, .int x2), (3, .int x3), (4, .int x7), (5, .int x7), (6, .int y6), (7, .int y7)] rfl ?_
          exact ih S2 h0 x1 x2 x3 x7 x7 y6 y7 th0
      · refine r_goto C 90 dX9_when_65 (by decide) ?_
        refine r_iinc C 7 (fun y8 => [(7, .int y8), (0, .ref h0), (1, .int x1), (2, .int x2), (3, .int x3), (4, .int x4), (5, .int x5), (6, .int x6)]) dX9_when_90 rfl (v := (1 : Int32)) (by decide) (by decide) (fun _ => rfl) (fun y8 => ?_)
        refine r_goto C 43 dX9_when_93 (by decide) ?_
        refine r_sub [1, 2, 3, 4, 5, 6, 7, 0] [(0, .ref h0), (1, .int x1), (2, .int x2), (3, .int x3), (4, .int x4), (5, .int x5), (6, .int x6), (7, .int y8)] rfl ?_
        exact ih S2 h0 x1 x2 x3 x4 x5 x6 y8 th0
set_option maxRecDepth 100000 in
set_option maxHeartbeats 4000000 in
theorem c_X9_when (l : Launch) (E : EN) (n : Nat) (h0 : Nat) (x1 : Int32) (x2 : Int32) (x3 : Int32) (th0 : Ty E h0 8) : CT l E yX9_when cX9_when 8 (some .int) 6 141 wI tT [.ref h0, .int x1, .int x2, .int x3] (fun S => f_X9_when E n S h0 x1 x2 x3) := by
  refine ct_of RX9 (by decide +kernel) rfl [(0, .ref h0), (1, .int x1), (2, .int x2), (3, .int x3)] rfl (Nat.le_of_ble_eq_true rfl) (fun A S hA C X => ?_)
  subst hA
  show Gd A E 8 (QM A E wI tT) (f_X9_when E n S h0 x1 x2 x3) S 0 [(0, .ref h0), (1, .int x1), (2, .int x2), (3, .int x3)] []
  unfold f_X9_when
  refine r_aload_n C 0 dX9_when_0 rfl ?_
  refine r_iload_n C 1 dX9_when_1 rfl ?_
  refine r_callV (As := [.int x1]) (rest := []) C (c_X9_isWalker _ E n h0 x1 th0) dX9_when_2 ml_X9_367 mv_X9_isWalker ⟨TX9, _, rfl⟩ (by decide) th0 rfl rfl ⟨by decide, by decide⟩ (Nat.le_of_ble_eq_true rfl) (fun v2 S1 hv2 => ?_)
  refine r_if_eq C 28 dX9_when_5 (by decide) ?_ ?_
  · refine r_bipush C (-2 : Int32) dX9_when_28 (by decide) ?_
    exact r_ireturn C X dX9_when_30
  · refine r_aload_n C 0 dX9_when_8 rfl ?_
    refine r_iload_n C 2 dX9_when_9 rfl ?_
    refine r_callV (As := [.int x2]) (rest := []) C (c_X9_isPlace _ E n h0 x2 th0) dX9_when_10 ml_X9_370 mv_X9_isPlace ⟨TX9, _, rfl⟩ (by decide) th0 rfl rfl ⟨by decide, by decide⟩ (Nat.le_of_ble_eq_true rfl) (fun v4 S3 hv4 => ?_)
    refine r_if_eq C 28 dX9_when_13 (by decide) ?_ ?_
    · refine r_bipush C (-2 : Int32) dX9_when_28 (by decide) ?_
      exact r_ireturn C X dX9_when_30
    · refine r_iload_n C 3 dX9_when_16 rfl ?_
      refine r_i2l C dX9_when_17 ?_
      refine r_lconst C (0 : Int64) dX9_when_18 (by decide) ?_
      refine r_ldc2 C (2 : Int64) (mG 1379 (by decide +kernel) rfl) dX9_when_19 ?_
      refine r_callS (As := [.long (x3.toInt64), .long (0 : Int64), .long (2 : Int64)]) (rest := []) C (c_X9_in _ E n (x3.toInt64) (0 : Int64) (2 : Int64) ) dX9_when_22 ml_X9_82 mv_X9_in rfl rfl ⟨by decide, by decide⟩ (Nat.le_of_ble_eq_true rfl) (fun v6 S5 hv6 => ?_)
      refine r_if_ne C 31 dX9_when_25 (by decide) ?_ ?_
      · refine r_iconst C (-1 : Int32) dX9_when_31 (by decide) ?_
        refine r_istore C [(4, .int (-1 : Int32)), (0, .ref h0), (1, .int x1), (2, .int x2), (3, .int x3)] dX9_when_32 (by decide) rfl ?_
        refine r_iconst C (-1 : Int32) dX9_when_34 (by decide) ?_
        refine r_istore C [(5, .int (-1 : Int32)), (4, .int (-1 : Int32)), (0, .ref h0), (1, .int x1), (2, .int x2), (3, .int x3)] dX9_when_35 (by decide) rfl ?_
        refine r_iconst C (0 : Int32) dX9_when_37 (by decide) ?_
        refine r_istore C [(6, .int (0 : Int32)), (5, .int (-1 : Int32)), (4, .int (-1 : Int32)), (0, .ref h0), (1, .int x1), (2, .int x2), (3, .int x3)] dX9_when_38 (by decide) rfl ?_
        refine r_iconst C (0 : Int32) dX9_when_40 (by decide) ?_
        refine r_istore C [(7, .int (0 : Int32)), (6, .int (0 : Int32)), (5, .int (-1 : Int32)), (4, .int (-1 : Int32)), (0, .ref h0), (1, .int x1), (2, .int x2), (3, .int x3)] dX9_when_41 (by decide) rfl ?_
        refine r_sub [4, 5, 6, 7, 3, 2, 1, 0] [(0, .ref h0), (1, .int x1), (2, .int x2), (3, .int x3), (4, .int (-1 : Int32)), (5, .int (-1 : Int32)), (6, .int (0 : Int32)), (7, .int (0 : Int32))] rfl ?_
        exact p_X9_when_L43 C X  n S5 h0 x1 x2 x3 (-1 : Int32) (-1 : Int32) (0 : Int32) (0 : Int32) th0
      · refine r_bipush C (-2 : Int32) dX9_when_28 (by decide) ?_
        exact r_ireturn C X dX9_when_30
set_option maxRecDepth 100000 in
set_option maxHeartbeats 4000000 in
theorem p_X9_need_L31 {A : AM} {E : EN} {n : Nat} (C : Cx A E cX9_need 5 RX9 5 118) (X : Ex A E (some .int))  : ∀ (m : Nat) (S : WS) (h0 : Nat) (x1 : Int32) (x2 : Int32) (x3 : Int32) (x4 : Int32) (th0 : Ty E h0 8), Gd A E 5 (QM A E wI tT) (f_X9_need_L31 E n  m S h0 x1 x2 x3 x4) S 31 [(0, .ref h0), (1, .int x1), (2, .int x2), (3, .int x3), (4, .int x4)] [] := by
  intro m
  induction m with
  | zero => intros; exact gn
  | succ m ih =>
    intro S h0 x1 x2 x3 x4 th0
    unfold f_X9_need_L31
    refine r_iload C 4 dX9_need_31 rfl ?_
    refine r_bipush C (100 : Int32) dX9_need_33 (by decide) ?_
    refine r_icmp_ge C 67 dX9_need_35 (by decide) ?_ ?_
    · refine r_iconst C (-1 : Int32) dX9_need_67 (by decide) ?_
      exact r_ireturn C X dX9_need_68
    · refine r_aload_n C 0 dX9_need_38 rfl ?_
      refine r_iload C 4 dX9_need_39 rfl ?_
      refine r_iload_n C 3 dX9_need_41 rfl ?_
      refine r_callV (As := [.int x4, .int x3]) (rest := []) C (c_X9_opens _ E n h0 x4 x3 th0) dX9_need_42 ml_X9_335 mv_X9_opens ⟨TX9, _, rfl⟩ (by decide) th0 rfl rfl ⟨by decide, by decide⟩ (Nat.le_of_ble_eq_true rfl) (fun v2 S1 hv2 => ?_)
      refine r_aload_n C 0 dX9_need_45 rfl ?_
      refine r_iload_n C 1 dX9_need_46 rfl ?_
      refine r_callV (As := [.int x1]) (rest := []) C (c_X9_reachFrom _ E n h0 x1 th0) dX9_need_47 ml_X9_342 mv_X9_reachFrom ⟨TX9, _, rfl⟩ (by decide) th0 rfl rfl ⟨by decide, by decide⟩ (Nat.le_of_ble_eq_true rfl) (fun v4 S3 hv4 => ?_)
      refine r_iload_n C 2 dX9_need_50 rfl ?_
      refine r_ishr C dX9_need_51 ?_
      refine r_iconst C (1 : Int32) dX9_need_52 (by decide) ?_
      refine r_iand C dX9_need_53 ?_
      refine r_iconst C (1 : Int32) dX9_need_54 (by decide) ?_
      refine r_icmp_ne C 61 dX9_need_55 (by decide) ?_ ?_
      · refine r_iinc C 4 (fun y5 => [(4, .int y5), (0, .ref h0), (1, .int x1), (2, .int x2), (3, .int x3)]) dX9_need_61 rfl (v := (1 : Int32)) (by decide) (by decide) (fun _ => rfl) (fun y5 => ?_)
        refine r_goto C 31 dX9_need_64 (by decide) ?_
        refine r_sub [1, 2, 3, 4, 0] [(0, .ref h0), (1, .int x1), (2, .int x2), (3, .int x3), (4, .int y5)] rfl ?_
        exact ih S3 h0 x1 x2 x3 y5 th0
      · refine r_iload C 4 dX9_need_58 rfl ?_
        exact r_ireturn C X dX9_need_60
set_option maxRecDepth 100000 in
set_option maxHeartbeats 4000000 in
theorem c_X9_need (l : Launch) (E : EN) (n : Nat) (h0 : Nat) (x1 : Int32) (x2 : Int32) (x3 : Int32) (th0 : Ty E h0 8) : CT l E yX9_need cX9_need 5 (some .int) 5 118 wI tT [.ref h0, .int x1, .int x2, .int x3] (fun S => f_X9_need E n S h0 x1 x2 x3) := by
  refine ct_of RX9 (by decide +kernel) rfl [(0, .ref h0), (1, .int x1), (2, .int x2), (3, .int x3)] rfl (Nat.le_of_ble_eq_true rfl) (fun A S hA C X => ?_)
  subst hA
  show Gd A E 5 (QM A E wI tT) (f_X9_need E n S h0 x1 x2 x3) S 0 [(0, .ref h0), (1, .int x1), (2, .int x2), (3, .int x3)] []
  unfold f_X9_need
  refine r_aload_n C 0 dX9_need_0 rfl ?_
  refine r_iload_n C 1 dX9_need_1 rfl ?_
  refine r_callV (As := [.int x1]) (rest := []) C (c_X9_isPlace _ E n h0 x1 th0) dX9_need_2 ml_X9_370 mv_X9_isPlace ⟨TX9, _, rfl⟩ (by decide) th0 rfl rfl ⟨by decide, by decide⟩ (Nat.le_of_ble_eq_true rfl) (fun v2 S1 hv2 => ?_)
  refine r_if_eq C 25 dX9_need_5 (by decide) ?_ ?_
  · refine r_bipush C (-2 : Int32) dX9_need_25 (by decide) ?_
    exact r_ireturn C X dX9_need_27
  · refine r_aload_n C 0 dX9_need_8 rfl ?_
    refine r_iload_n C 2 dX9_need_9 rfl ?_
    refine r_callV (As := [.int x2]) (rest := []) C (c_X9_isPlace _ E n h0 x2 th0) dX9_need_10 ml_X9_370 mv_X9_isPlace ⟨TX9, _, rfl⟩ (by decide) th0 rfl rfl ⟨by decide, by decide⟩ (Nat.le_of_ble_eq_true rfl) (fun v4 S3 hv4 => ?_)
    refine r_if_eq C 25 dX9_need_13 (by decide) ?_ ?_
    · refine r_bipush C (-2 : Int32) dX9_need_25 (by decide) ?_
      exact r_ireturn C X dX9_need_27
    · refine r_aload_n C 0 dX9_need_16 rfl ?_
      refine r_iload_n C 3 dX9_need_17 rfl ?_
      refine r_i2l C dX9_need_18 ?_
      refine r_callV (As := [.long (x3.toInt64)]) (rest := []) C (c_X9_isYear _ E n h0 (x3.toInt64) th0) dX9_need_19 ml_X9_292 mv_X9_isYear ⟨TX9, _, rfl⟩ (by decide) th0 rfl rfl ⟨by decide, by decide⟩ (Nat.le_of_ble_eq_true rfl) (fun v6 S5 hv6 => ?_)
      refine r_if_ne C 28 dX9_need_22 (by decide) ?_ ?_
      · refine r_iconst C (0 : Int32) dX9_need_28 (by decide) ?_
        refine r_istore C [(4, .int (0 : Int32)), (0, .ref h0), (1, .int x1), (2, .int x2), (3, .int x3)] dX9_need_29 (by decide) rfl ?_
        refine r_sub [1, 2, 3, 4, 0] [(0, .ref h0), (1, .int x1), (2, .int x2), (3, .int x3), (4, .int (0 : Int32))] rfl ?_
        exact p_X9_need_L31 C X  n S5 h0 x1 x2 x3 (0 : Int32) th0
      · refine r_bipush C (-2 : Int32) dX9_need_25 (by decide) ?_
        exact r_ireturn C X dX9_need_27
set_option maxRecDepth 100000 in
set_option maxHeartbeats 4000000 in
theorem p_X9_beginsCourtings_L2 {A : AM} {E : EN} {n : Nat} (C : Cx A E cX9_beginsCourtings 2 RX9 1 21) (X : Ex A E none)  : ∀ (m : Nat) (S : WS) (h0 : Nat) (x1 : Int32) (th0 : Ty E h0 8), Gd A E 2 (QM A E wV tT) (f_X9_beginsCourtings_L2 E n  m S h0 x1) S 2 [(0, .ref h0), (1, .int x1)] [] := by
  intro m
  induction m with
  | zero => intros; exact gn
  | succ m ih =>
    intro S h0 x1 th0
    unfold f_X9_beginsCourtings_L2
    refine r_iload_n C 1 dX9_beginsCourtings_2 rfl ?_
    refine r_aload_n C 0 dX9_beginsCourtings_3 rfl ?_
    refine r_getr C fl_X9_9 dX9_beginsCourtings_4 th0 (fun b1 tb1 => ?_)
    refine r_iconst C (4 : Int32) dX9_beginsCourtings_7 (by decide) ?_
    refine r_iald C dX9_beginsCourtings_8 tb1 ?_
    refine r_icmp_ge C 39 dX9_beginsCourtings_9 (by decide) ?_ ?_
    · exact r_return C X dX9_beginsCourtings_39
    · refine r_aload_n C 0 dX9_beginsCourtings_12 rfl ?_
      refine r_getr C fl_X9_53 dX9_beginsCourtings_13 th0 (fun b2 tb2 => ?_)
      refine r_iload_n C 1 dX9_beginsCourtings_16 rfl ?_
      refine r_aload_n C 0 dX9_beginsCourtings_17 rfl ?_
      refine r_iload_n C 1 dX9_beginsCourtings_18 rfl ?_
      refine r_callV (As := [.int x1]) (rest := [.int x1, .ref b2]) C (c_X9_courts _ E n h0 x1 th0) dX9_beginsCourtings_19 ml_X9_234 mv_X9_courts ⟨TX9, _, rfl⟩ (by decide) th0 rfl rfl ⟨by decide, by decide⟩ (Nat.le_of_ble_eq_true rfl) (fun v4 S3 hv4 => ?_)
      refine r_iast C dX9_beginsCourtings_22 tb2 (fun S5 => ?_)
      refine r_aload_n C 0 dX9_beginsCourtings_23 rfl ?_
      refine r_getr C fl_X9_9 dX9_beginsCourtings_24 th0 (fun b6 tb6 => ?_)
      refine r_bipush C (102 : Int32) dX9_beginsCourtings_27 (by decide) ?_
      refine r_iload_n C 1 dX9_beginsCourtings_29 rfl ?_
      refine r_iadd C dX9_beginsCourtings_30 ?_
      refine r_iconst C (-1 : Int32) dX9_beginsCourtings_31 (by decide) ?_
      refine r_iast C dX9_beginsCourtings_32 tb6 (fun S7 => ?_)
      refine r_iinc C 1 (fun y8 => [(1, .int y8), (0, .ref h0)]) dX9_beginsCourtings_33 rfl (v := (1 : Int32)) (by decide) (by decide) (fun _ => rfl) (fun y8 => ?_)
      refine r_goto C 2 dX9_beginsCourtings_36 (by decide) ?_
      refine r_sub [1, 0] [(0, .ref h0), (1, .int y8)] rfl ?_
      exact ih S7 h0 y8 th0
set_option maxRecDepth 100000 in
set_option maxHeartbeats 4000000 in
theorem c_X9_beginsCourtings (l : Launch) (E : EN) (n : Nat) (h0 : Nat) (th0 : Ty E h0 8) : CT l E yX9_beginsCourtings cX9_beginsCourtings 2 none 1 21 wV tT [.ref h0] (fun S => f_X9_beginsCourtings E n S h0) := by
  refine ct_of RX9 (by decide +kernel) rfl [(0, .ref h0)] rfl (Nat.le_of_ble_eq_true rfl) (fun A S hA C X => ?_)
  subst hA
  show Gd A E 2 (QM A E wV tT) (f_X9_beginsCourtings E n S h0) S 0 [(0, .ref h0)] []
  unfold f_X9_beginsCourtings
  refine r_iconst C (0 : Int32) dX9_beginsCourtings_0 (by decide) ?_
  refine r_istore_n C [(1, .int (0 : Int32)), (0, .ref h0)] dX9_beginsCourtings_1 (by decide) rfl ?_
  refine r_sub [1, 0] [(0, .ref h0), (1, .int (0 : Int32))] rfl ?_
  exact p_X9_beginsCourtings_L2 C X  n S h0 (0 : Int32) th0
set_option maxRecDepth 100000 in
set_option maxHeartbeats 4000000 in
theorem p_X9_endsCourtings_L2 {A : AM} {E : EN} {n : Nat} (C : Cx A E cX9_endsCourtings 2 RX9 0 0) (X : Ex A E none)  : ∀ (m : Nat) (S : WS) (h0 : Nat) (x1 : Int32) (th0 : Ty E h0 8), Gd A E 2 (QM A E wV tT) (f_X9_endsCourtings_L2 E n  m S h0 x1) S 2 [(0, .ref h0), (1, .int x1)] [] := by
  intro m
  induction m with
  | zero => intros; exact gn
  | succ m ih =>
    intro S h0 x1 th0
    unfold f_X9_endsCourtings_L2
    refine r_iload_n C 1 dX9_endsCourtings_2 rfl ?_
    refine r_aload_n C 0 dX9_endsCourtings_3 rfl ?_
    refine r_getr C fl_X9_9 dX9_endsCourtings_4 th0 (fun b1 tb1 => ?_)
    refine r_iconst C (4 : Int32) dX9_endsCourtings_7 (by decide) ?_
    refine r_iald C dX9_endsCourtings_8 tb1 ?_
    refine r_icmp_ge C 33 dX9_endsCourtings_9 (by decide) ?_ ?_
    · exact r_return C X dX9_endsCourtings_33
    · refine r_aload_n C 0 dX9_endsCourtings_12 rfl ?_
      refine r_getr C fl_X9_9 dX9_endsCourtings_13 th0 (fun b2 tb2 => ?_)
      refine r_bipush C (102 : Int32) dX9_endsCourtings_16 (by decide) ?_
      refine r_iload_n C 1 dX9_endsCourtings_18 rfl ?_
      refine r_iadd C dX9_endsCourtings_19 ?_
      refine r_aload_n C 0 dX9_endsCourtings_20 rfl ?_
      refine r_getr C fl_X9_53 dX9_endsCourtings_21 th0 (fun b3 tb3 => ?_)
      refine r_iload_n C 1 dX9_endsCourtings_24 rfl ?_
      refine r_iald C dX9_endsCourtings_25 tb3 ?_
      refine r_iast C dX9_endsCourtings_26 tb2 (fun S4 => ?_)
      refine r_iinc C 1 (fun y5 => [(1, .int y5), (0, .ref h0)]) dX9_endsCourtings_27 rfl (v := (1 : Int32)) (by decide) (by decide) (fun _ => rfl) (fun y5 => ?_)
      refine r_goto C 2 dX9_endsCourtings_30 (by decide) ?_
      refine r_sub [1, 0] [(0, .ref h0), (1, .int y5)] rfl ?_
      exact ih S4 h0 y5 th0
set_option maxRecDepth 100000 in
set_option maxHeartbeats 4000000 in
theorem c_X9_endsCourtings (l : Launch) (E : EN) (n : Nat) (h0 : Nat) (th0 : Ty E h0 8) : CT l E yX9_endsCourtings cX9_endsCourtings 2 none 0 0 wV tT [.ref h0] (fun S => f_X9_endsCourtings E n S h0) := by
  refine ct_of RX9 (by decide +kernel) rfl [(0, .ref h0)] rfl (Nat.le_of_ble_eq_true rfl) (fun A S hA C X => ?_)
  subst hA
  show Gd A E 2 (QM A E wV tT) (f_X9_endsCourtings E n S h0) S 0 [(0, .ref h0)] []
  unfold f_X9_endsCourtings
  refine r_iconst C (0 : Int32) dX9_endsCourtings_0 (by decide) ?_
  refine r_istore_n C [(1, .int (0 : Int32)), (0, .ref h0)] dX9_endsCourtings_1 (by decide) rfl ?_
  refine r_sub [1, 0] [(0, .ref h0), (1, .int (0 : Int32))] rfl ?_
  exact p_X9_endsCourtings_L2 C X  n S h0 (0 : Int32) th0
set_option maxRecDepth 100000 in
set_option maxHeartbeats 4000000 in
theorem p_X9_nextCourting_J46 {A : AM} {E : EN} {n : Nat} (C : Cx A E cX9_nextCourting 3 RX9 1 22) (X : Ex A E (some .boolean)) {k9 : WS → Nat → Int32 → Option (Int32 × WS)} (hk9 : ∀ (S : WS) (h0 : Nat) (x1 : Int32) (_ : Ty E h0 8), Gd A E 3 (QM A E wI tT) (k9 S h0 x1) S 9 [(0, .ref h0), (1, .int x1)] []) (S : WS) (h0 : Nat) (x1 : Int32) (x2 : Int32) (th0 : Ty E h0 8) : Gd A E 3 (QM A E wI tT) (f_X9_nextCourting_J46 E n k9 S h0 x1 x2) S 46 [(0, .ref h0), (1, .int x1), (2, .int x2)] [] := by
  unfold f_X9_nextCourting_J46
  refine r_iload_n C 2 dX9_nextCourting_46 rfl ?_
  refine r_aload_n C 0 dX9_nextCourting_47 rfl ?_
  refine r_getr C fl_X9_9 dX9_nextCourting_48 th0 (fun b1 tb1 => ?_)
  refine r_iconst C (3 : Int32) dX9_nextCourting_51 (by decide) ?_
  refine r_iald C dX9_nextCourting_52 tb1 ?_
  refine r_icmp_ge C 68 dX9_nextCourting_53 (by decide) ?_ ?_
  · refine r_aload_n C 0 dX9_nextCourting_68 rfl ?_
    refine r_getr C fl_X9_9 dX9_nextCourting_69 th0 (fun b2 tb2 => ?_)
    refine r_bipush C (102 : Int32) dX9_nextCourting_72 (by decide) ?_
    refine r_iload_n C 1 dX9_nextCourting_74 rfl ?_
    refine r_iadd C dX9_nextCourting_75 ?_
    refine r_iconst C (-1 : Int32) dX9_nextCourting_76 (by decide) ?_
    refine r_iast C dX9_nextCourting_77 tb2 (fun S3 => ?_)
    refine r_iinc C 1 (fun y4 => [(1, .int y4), (0, .ref h0), (2, .int x2)]) dX9_nextCourting_78 rfl (v := (-1 : Int32)) (by decide) (by decide) (fun _ => rfl) (fun y4 => ?_)
    refine r_goto C 9 dX9_nextCourting_81 (by decide) ?_
    refine r_sub [1, 0] [(0, .ref h0), (1, .int y4)] rfl ?_
    exact hk9 S3 h0 y4 th0
  · refine r_aload_n C 0 dX9_nextCourting_56 rfl ?_
    refine r_getr C fl_X9_9 dX9_nextCourting_57 th0 (fun b5 tb5 => ?_)
    refine r_bipush C (102 : Int32) dX9_nextCourting_60 (by decide) ?_
    refine r_iload_n C 1 dX9_nextCourting_62 rfl ?_
    refine r_iadd C dX9_nextCourting_63 ?_
    refine r_iload_n C 2 dX9_nextCourting_64 rfl ?_
    refine r_iast C dX9_nextCourting_65 tb5 (fun S6 => ?_)
    refine r_iconst C (1 : Int32) dX9_nextCourting_66 (by decide) ?_
    exact r_zreturn C X rfl dX9_nextCourting_67
