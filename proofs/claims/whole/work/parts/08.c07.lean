/-! THE CONTRACTS, by program -/
set_option maxRecDepth 100000 in
set_option maxHeartbeats 4000000 in
theorem c_X9_more (l : Launch) (E : EN) (n : Nat) (h0 : Nat) (x1 : Int32) (x2 : Int32) (x3 : Int32) (x4 : Int32) (th0 : Ty E h0 8) : CT l E yX9_more cX9_more 7 (some .int) 6 141 wI tT [.ref h0, .int x1, .int x2, .int x3, .int x4] (fun S => f_X9_more E n S h0 x1 x2 x3 x4) := by
  refine ct_of RX9 (by decide +kernel) rfl [(0, .ref h0), (1, .int x1), (2, .int x2), (3, .int x3), (4, .int x4)] rfl (Nat.le_of_ble_eq_true rfl) (fun A S hA C X => ?_)
  subst hA
  show Gd A E 7 (QM A E wI tT) (f_X9_more E n S h0 x1 x2 x3 x4) S 0 [(0, .ref h0), (1, .int x1), (2, .int x2), (3, .int x3), (4, .int x4)] []
  unfold f_X9_more
  refine r_aload_n C 0 dX9_more_0 rfl ?_
  refine r_iload_n C 1 dX9_more_1 rfl ?_
  refine r_iload_n C 2 dX9_more_2 rfl ?_
  refine r_iload_n C 3 dX9_more_3 rfl ?_
  refine r_callV (As := [.int x1, .int x2, .int x3]) (rest := []) C (c_X9_isAsked _ E n h0 x1 x2 x3 th0) dX9_more_4 ml_X9_373 mv_X9_isAsked ⟨TX9, _, rfl⟩ (by decide) th0 rfl rfl ⟨by decide, by decide⟩ (Nat.le_of_ble_eq_true rfl) (fun v2 S1 hv2 => ?_)
  refine r_if_eq C 23 dX9_more_7 (by decide) ?_ ?_
  · refine r_bipush C (-2 : Int32) dX9_more_23 (by decide) ?_
    exact r_ireturn C X dX9_more_25
  · refine r_iload C 4 dX9_more_10 rfl ?_
    refine r_i2l C dX9_more_12 ?_
    refine r_lconst C (1 : Int64) dX9_more_13 (by decide) ?_
    refine r_ldc2 C (9 : Int64) (mG 1828 (by decide +kernel) rfl) dX9_more_14 ?_
    refine r_callS (As := [.long (x4.toInt64), .long (1 : Int64), .long (9 : Int64)]) (rest := []) C (c_X9_in _ E n (x4.toInt64) (1 : Int64) (9 : Int64) ) dX9_more_17 ml_X9_82 mv_X9_in rfl rfl ⟨by decide, by decide⟩ (Nat.le_of_ble_eq_true rfl) (fun v4 S3 hv4 => ?_)
    refine r_if_ne C 26 dX9_more_20 (by decide) ?_ ?_
    · refine r_aload_n C 0 dX9_more_26 rfl ?_
      refine r_iload_n C 1 dX9_more_27 rfl ?_
      refine r_iload_n C 2 dX9_more_28 rfl ?_
      refine r_iload_n C 3 dX9_more_29 rfl ?_
      refine r_callV (As := [.int x1, .int x2, .int x3]) (rest := []) C (c_X9_canCome _ E n h0 x1 x2 x3 th0) dX9_more_30 ml_X9_382 mv_X9_canCome ⟨TX9, _, rfl⟩ (by decide) th0 rfl rfl ⟨by decide, by decide⟩ (Nat.le_of_ble_eq_true rfl) (fun v6 S5 hv6 => ?_)
      refine r_if_eq C 38 dX9_more_33 (by decide) ?_ ?_
      · refine r_aload_n C 0 dX9_more_38 rfl ?_
        refine r_geti C fl_X9_329 dX9_more_39 th0 ?_
        refine r_topi (fun y7 => ?_)
        refine r_istore C [(5, .int y7), (0, .ref h0), (1, .int x1), (2, .int x2), (3, .int x3), (4, .int x4)] dX9_more_42 (by decide) rfl ?_
        refine r_iconst C (0 : Int32) dX9_more_44 (by decide) ?_
        refine r_istore C [(6, .int (0 : Int32)), (5, .int y7), (0, .ref h0), (1, .int x1), (2, .int x2), (3, .int x3), (4, .int x4)] dX9_more_45 (by decide) rfl ?_
        refine r_sub [2, 3, 4, 5, 6, 1, 0] [(0, .ref h0), (1, .int x1), (2, .int x2), (3, .int x3), (4, .int x4), (5, .int y7), (6, .int (0 : Int32))] rfl ?_
        exact p_X9_more_L47 C X  n S5 h0 x1 x2 x3 x4 y7 (0 : Int32) th0
      · refine r_iconst C (-1 : Int32) dX9_more_36 (by decide) ?_
        exact r_ireturn C X dX9_more_37
    · refine r_bipush C (-2 : Int32) dX9_more_23 (by decide) ?_
      exact r_ireturn C X dX9_more_25
set_option maxRecDepth 100000 in
set_option maxHeartbeats 4000000 in
theorem c_X9_numberAt (l : Launch) (E : EN) (n : Nat) (h0 : Nat) (x1 : Int32) (x2 : Int32) (th0 : Ty E h0 8) : CT l E yX9_numberAt cX9_numberAt 3 (some .long) 0 0 wJ tT [.ref h0, .int x1, .int x2] (fun S => f_X9_numberAt E n S h0 x1 x2) := by
  refine ct_of RX9 (by decide +kernel) rfl [(0, .ref h0), (1, .int x1), (2, .int x2)] rfl (Nat.le_of_ble_eq_true rfl) (fun A S hA C X => ?_)
  subst hA
  show Gd A E 3 (QM A E wJ tT) (f_X9_numberAt E n S h0 x1 x2) S 0 [(0, .ref h0), (1, .int x1), (2, .int x2)] []
  unfold f_X9_numberAt
  refine r_aload_n C 0 dX9_numberAt_0 rfl ?_
  refine r_getr C fl_X9_71 dX9_numberAt_1 th0 (fun b1 tb1 => ?_)
  refine r_bipush C (60 : Int32) dX9_numberAt_4 (by decide) ?_
  refine r_iload_n C 1 dX9_numberAt_6 rfl ?_
  refine r_imul C dX9_numberAt_7 ?_
  refine r_iload_n C 2 dX9_numberAt_8 rfl ?_
  refine r_iadd C dX9_numberAt_9 ?_
  refine r_lald C dX9_numberAt_10 tb1 ?_
  exact r_lreturn C X dX9_numberAt_11
set_option maxRecDepth 100000 in
set_option maxHeartbeats 4000000 in
theorem c_X9_isSo (l : Launch) (E : EN) (n : Nat) (h0 : Nat) (x1 : Int32) (x2 : Int32) (th0 : Ty E h0 8) : CT l E yX9_isSo cX9_isSo 3 (some .boolean) 4 95 wI tT [.ref h0, .int x1, .int x2] (fun S => f_X9_isSo E n S h0 x1 x2) := by
  refine ct_of RX9 (by decide +kernel) rfl [(0, .ref h0), (1, .int x1), (2, .int x2)] rfl (Nat.le_of_ble_eq_true rfl) (fun A S hA C X => ?_)
  subst hA
  show Gd A E 3 (QM A E wI tT) (f_X9_isSo E n S h0 x1 x2) S 0 [(0, .ref h0), (1, .int x1), (2, .int x2)] []
  unfold f_X9_isSo
  refine r_aload_n C 0 dX9_isSo_0 rfl ?_
  refine r_aload_n C 0 dX9_isSo_1 rfl ?_
  refine r_iload_n C 1 dX9_isSo_2 rfl ?_
  refine r_iload_n C 2 dX9_isSo_3 rfl ?_
  refine r_callV (As := [.int x1, .int x2]) (rest := [.ref h0]) C (c_X9_numberAt _ E n h0 x1 x2 th0) dX9_isSo_4 ml_X9_423 mv_X9_numberAt ⟨TX9, _, rfl⟩ (by decide) th0 rfl rfl ⟨by decide, by decide⟩ (Nat.le_of_ble_eq_true rfl) (fun v2 S1 hv2 => ?_)
  refine r_l2i C dX9_isSo_7 ?_
  refine r_aload_n C 0 dX9_isSo_8 rfl ?_
  refine r_iload_n C 1 dX9_isSo_9 rfl ?_
  refine r_iload_n C 2 dX9_isSo_10 rfl ?_
  refine r_iconst C (1 : Int32) dX9_isSo_11 (by decide) ?_
  refine r_iadd C dX9_isSo_12 ?_
  refine r_callV (As := [.int x1, .int (x2 + (1 : Int32))]) (rest := [.int (v2.toInt32), .ref h0]) C (c_X9_numberAt _ E n h0 x1 (x2 + (1 : Int32)) th0) dX9_isSo_13 ml_X9_423 mv_X9_numberAt ⟨TX9, _, rfl⟩ (by decide) th0 rfl rfl ⟨by decide, by decide⟩ (Nat.le_of_ble_eq_true rfl) (fun v4 S3 hv4 => ?_)
  refine r_l2i C dX9_isSo_16 ?_
  refine r_callV (As := [.int (v2.toInt32), .int (v4.toInt32)]) (rest := []) C (c_X9_leapNow _ E n h0 (v2.toInt32) (v4.toInt32) th0) dX9_isSo_17 ml_X9_298 mv_X9_leapNow ⟨TX9, _, rfl⟩ (by decide) th0 rfl rfl ⟨by decide, by decide⟩ (Nat.le_of_ble_eq_true rfl) (fun v6 S5 hv6 => ?_)
  refine r_i2l C dX9_isSo_20 ?_
  refine r_aload_n C 0 dX9_isSo_21 rfl ?_
  refine r_iload_n C 1 dX9_isSo_22 rfl ?_
  refine r_iload_n C 2 dX9_isSo_23 rfl ?_
  refine r_iconst C (2 : Int32) dX9_isSo_24 (by decide) ?_
  refine r_iadd C dX9_isSo_25 ?_
  refine r_callV (As := [.int x1, .int (x2 + (2 : Int32))]) (rest := [.long (v6.toInt64)]) C (c_X9_numberAt _ E n h0 x1 (x2 + (2 : Int32)) th0) dX9_isSo_26 ml_X9_423 mv_X9_numberAt ⟨TX9, _, rfl⟩ (by decide) th0 rfl rfl ⟨by decide, by decide⟩ (Nat.le_of_ble_eq_true rfl) (fun v8 S7 hv8 => ?_)
  refine r_lcmp C dX9_isSo_29 ?_
  refine r_if_ne C 37 dX9_isSo_30 (by decide) ?_ ?_
  · refine r_iconst C (0 : Int32) dX9_isSo_37 (by decide) ?_
    exact r_zreturn C X rfl dX9_isSo_38
  · refine r_iconst C (1 : Int32) dX9_isSo_33 (by decide) ?_
    refine r_goto C 38 dX9_isSo_34 (by decide) ?_
    exact r_zreturn C X rfl dX9_isSo_38
set_option maxRecDepth 100000 in
set_option maxHeartbeats 4000000 in
theorem p_X9_agrees_L2 {A : AM} {E : EN} {n : Nat} (C : Cx A E cX9_agrees 3 RX9 5 117) (X : Ex A E (some .boolean))  : ∀ (m : Nat) (S : WS) (h0 : Nat) (x1 : Int32) (x2 : Int32) (th0 : Ty E h0 8), Gd A E 3 (QM A E wI tT) (f_X9_agrees_L2 E n  m S h0 x1 x2) S 2 [(0, .ref h0), (1, .int x1), (2, .int x2)] [] := by
  intro m
  induction m with
  | zero => intros; exact gn
  | succ m ih =>
    intro S h0 x1 x2 th0
    unfold f_X9_agrees_L2
    refine r_iload_n C 2 dX9_agrees_2 rfl ?_
    refine r_aload_n C 0 dX9_agrees_3 rfl ?_
    refine r_getr C fl_X9_65 dX9_agrees_4 th0 (fun b1 tb1 => ?_)
    refine r_iload_n C 1 dX9_agrees_7 rfl ?_
    refine r_iald C dX9_agrees_8 tb1 ?_
    refine r_icmp_ge C 29 dX9_agrees_9 (by decide) ?_ ?_
    · refine r_iconst C (1 : Int32) dX9_agrees_29 (by decide) ?_
      exact r_zreturn C X rfl dX9_agrees_30
    · refine r_aload_n C 0 dX9_agrees_12 rfl ?_
      refine r_iload_n C 1 dX9_agrees_13 rfl ?_
      refine r_iload_n C 2 dX9_agrees_14 rfl ?_
      refine r_callV (As := [.int x1, .int x2]) (rest := []) C (c_X9_isSo _ E n h0 x1 x2 th0) dX9_agrees_15 ml_X9_427 mv_X9_isSo ⟨TX9, _, rfl⟩ (by decide) th0 rfl rfl ⟨by decide, by decide⟩ (Nat.le_of_ble_eq_true rfl) (fun v3 S2 hv3 => ?_)
      refine r_if_ne C 23 dX9_agrees_18 (by decide) ?_ ?_
      · refine r_iinc C 2 (fun y4 => [(2, .int y4), (0, .ref h0), (1, .int x1)]) dX9_agrees_23 rfl (v := (3 : Int32)) (by decide) (by decide) (fun _ => rfl) (fun y4 => ?_)
        refine r_goto C 2 dX9_agrees_26 (by decide) ?_
        refine r_sub [1, 2, 0] [(0, .ref h0), (1, .int x1), (2, .int y4)] rfl ?_
        exact ih S2 h0 x1 y4 th0
      · refine r_iconst C (0 : Int32) dX9_agrees_21 (by decide) ?_
        exact r_zreturn C X rfl dX9_agrees_22
set_option maxRecDepth 100000 in
set_option maxHeartbeats 4000000 in
theorem c_X9_agrees (l : Launch) (E : EN) (n : Nat) (h0 : Nat) (x1 : Int32) (th0 : Ty E h0 8) : CT l E yX9_agrees cX9_agrees 3 (some .boolean) 5 117 wI tT [.ref h0, .int x1] (fun S => f_X9_agrees E n S h0 x1) := by
  refine ct_of RX9 (by decide +kernel) rfl [(0, .ref h0), (1, .int x1)] rfl (Nat.le_of_ble_eq_true rfl) (fun A S hA C X => ?_)
  subst hA
  show Gd A E 3 (QM A E wI tT) (f_X9_agrees E n S h0 x1) S 0 [(0, .ref h0), (1, .int x1)] []
  unfold f_X9_agrees
  refine r_iconst C (0 : Int32) dX9_agrees_0 (by decide) ?_
  refine r_istore_n C [(2, .int (0 : Int32)), (0, .ref h0), (1, .int x1)] dX9_agrees_1 (by decide) rfl ?_
  refine r_sub [1, 2, 0] [(0, .ref h0), (1, .int x1), (2, .int (0 : Int32))] rfl ?_
  exact p_X9_agrees_L2 C X  n S h0 x1 (0 : Int32) th0
set_option maxRecDepth 100000 in
set_option maxHeartbeats 4000000 in
theorem p_X9_courtingsBy_L9 {A : AM} {E : EN} {n : Nat} (C : Cx A E cX9_courtingsBy 2 RX9 6 139) (X : Ex A E none)  : ∀ (m : Nat) (S : WS) (h0 : Nat) (x1 : Int32) (th0 : Ty E h0 8), Gd A E 2 (QM A E wV tT) (f_X9_courtingsBy_L9 E n  m S h0 x1) S 9 [(0, .ref h0), (1, .int x1)] [] := by
  intro m
  induction m with
  | zero => intros; exact gn
  | succ m ih =>
    intro S h0 x1 th0
    unfold f_X9_courtingsBy_L9
    refine r_aload_n C 0 dX9_courtingsBy_9 rfl ?_
    refine r_iload_n C 1 dX9_courtingsBy_10 rfl ?_
    refine r_callV (As := [.int x1]) (rest := []) C (c_X9_agrees _ E n h0 x1 th0) dX9_courtingsBy_11 ml_X9_430 mv_X9_agrees ⟨TX9, _, rfl⟩ (by decide) th0 rfl rfl ⟨by decide, by decide⟩ (Nat.le_of_ble_eq_true rfl) (fun v2 S1 hv2 => ?_)
    refine r_if_eq C 21 dX9_courtingsBy_14 (by decide) ?_ ?_
    · refine r_aload_n C 0 dX9_courtingsBy_21 rfl ?_
      refine r_callV (As := []) (rest := []) C (c_X9_nextCourting _ E n h0 th0) dX9_courtingsBy_22 ml_X9_403 mv_X9_nextCourting ⟨TX9, _, rfl⟩ (by decide) th0 rfl rfl ⟨by decide, by decide⟩ (Nat.le_of_ble_eq_true rfl) (fun v4 S3 hv4 => ?_)
      refine r_if_ne C 9 dX9_courtingsBy_25 (by decide) ?_ ?_
      · exact ih S3 h0 x1 th0
      · refine r_aload_n C 0 dX9_courtingsBy_28 rfl ?_
        refine r_callV (As := []) (rest := []) C (c_X9_endsCourtings _ E n h0 th0) dX9_courtingsBy_29 ml_X9_406 mv_X9_endsCourtings ⟨TX9, _, rfl⟩ (by decide) th0 rfl rfl ⟨by decide, by decide⟩ (Nat.le_of_ble_eq_true rfl) (fun v6 S5 hv6 => ?_)
        exact r_return C X dX9_courtingsBy_32
    · refine r_aload_n C 0 dX9_courtingsBy_17 rfl ?_
      refine r_callV (As := []) (rest := []) C (c_X9_meets _ E n h0 th0) dX9_courtingsBy_18 ml_X9_400 mv_X9_meets ⟨TX9, _, rfl⟩ (by decide) th0 rfl rfl ⟨by decide, by decide⟩ (Nat.le_of_ble_eq_true rfl) (fun v8 S7 hv8 => ?_)
      refine r_aload_n C 0 dX9_courtingsBy_21 rfl ?_
      refine r_callV (As := []) (rest := []) C (c_X9_nextCourting _ E n h0 th0) dX9_courtingsBy_22 ml_X9_403 mv_X9_nextCourting ⟨TX9, _, rfl⟩ (by decide) th0 rfl rfl ⟨by decide, by decide⟩ (Nat.le_of_ble_eq_true rfl) (fun v10 S9 hv10 => ?_)
      refine r_if_ne C 9 dX9_courtingsBy_25 (by decide) ?_ ?_
      · exact ih S9 h0 x1 th0
      · refine r_aload_n C 0 dX9_courtingsBy_28 rfl ?_
        refine r_callV (As := []) (rest := []) C (c_X9_endsCourtings _ E n h0 th0) dX9_courtingsBy_29 ml_X9_406 mv_X9_endsCourtings ⟨TX9, _, rfl⟩ (by decide) th0 rfl rfl ⟨by decide, by decide⟩ (Nat.le_of_ble_eq_true rfl) (fun v12 S11 hv12 => ?_)
        exact r_return C X dX9_courtingsBy_32
set_option maxRecDepth 100000 in
set_option maxHeartbeats 4000000 in
theorem c_X9_courtingsBy (l : Launch) (E : EN) (n : Nat) (h0 : Nat) (x1 : Int32) (th0 : Ty E h0 8) : CT l E yX9_courtingsBy cX9_courtingsBy 2 none 6 139 wV tT [.ref h0, .int x1] (fun S => f_X9_courtingsBy E n S h0 x1) := by
  refine ct_of RX9 (by decide +kernel) rfl [(0, .ref h0), (1, .int x1)] rfl (Nat.le_of_ble_eq_true rfl) (fun A S hA C X => ?_)
  subst hA
  show Gd A E 2 (QM A E wV tT) (f_X9_courtingsBy E n S h0 x1) S 0 [(0, .ref h0), (1, .int x1)] []
  unfold f_X9_courtingsBy
  refine r_aload_n C 0 dX9_courtingsBy_0 rfl ?_
  refine r_iconst C (0 : Int32) dX9_courtingsBy_1 (by decide) ?_
  refine r_puti C fl_X9_385 dX9_courtingsBy_2 th0 (fun S1 => ?_)
  refine r_aload_n C 0 dX9_courtingsBy_5 rfl ?_
  refine r_callV (As := []) (rest := []) C (c_X9_beginsCourtings _ E n h0 th0) dX9_courtingsBy_6 ml_X9_394 mv_X9_beginsCourtings ⟨TX9, _, rfl⟩ (by decide) th0 rfl rfl ⟨by decide, by decide⟩ (Nat.le_of_ble_eq_true rfl) (fun v3 S2 hv3 => ?_)
  exact p_X9_courtingsBy_L9 C X  n S2 h0 x1 th0
set_option maxRecDepth 100000 in
set_option maxHeartbeats 4000000 in
theorem p_X9_hopeOf_L21 {A : AM} {E : EN} {n : Nat} (C : Cx A E cX9_hopeOf 5 RX9 3 65) (X : Ex A E (some .int))  : ∀ (m : Nat) (S : WS) (h0 : Nat) (x1 : Int32) (x2 : Int32) (x3 : Int32) (x4 : Int32) (th0 : Ty E h0 8), Gd A E 5 (QM A E wI tT) (f_X9_hopeOf_L21 E n  m S h0 x1 x2 x3 x4) S 21 [(0, .ref h0), (1, .int x1), (2, .int x2), (3, .int x3), (4, .int x4)] [] := by
  intro m
  induction m with
  | zero => intros; exact gn
  | succ m ih =>
    intro S h0 x1 x2 x3 x4 th0
    unfold f_X9_hopeOf_L21
    refine r_iload C 4 dX9_hopeOf_21 rfl ?_
    refine r_aload_n C 0 dX9_hopeOf_23 rfl ?_
    refine r_getr C fl_X9_9 dX9_hopeOf_24 th0 (fun b1 tb1 => ?_)
    refine r_iconst C (3 : Int32) dX9_hopeOf_27 (by decide) ?_
    refine r_iald C dX9_hopeOf_28 tb1 ?_
    refine r_icmp_ge C 90 dX9_hopeOf_29 (by decide) ?_ ?_
    · refine r_aload_n C 0 dX9_hopeOf_90 rfl ?_
      refine r_getr C fl_X9_9 dX9_hopeOf_91 th0 (fun b2 tb2 => ?_)
      refine r_bipush C (102 : Int32) dX9_hopeOf_94 (by decide) ?_
      refine r_iload_n C 1 dX9_hopeOf_96 rfl ?_
      refine r_iadd C dX9_hopeOf_97 ?_
      refine r_iload_n C 2 dX9_hopeOf_98 rfl ?_
      refine r_iast C dX9_hopeOf_99 tb2 (fun S3 => ?_)
      refine r_iload_n C 3 dX9_hopeOf_100 rfl ?_
      exact r_ireturn C X dX9_hopeOf_101
    · refine r_iload_n C 3 dX9_hopeOf_32 rfl ?_
      refine r_iconst C (-1 : Int32) dX9_hopeOf_33 (by decide) ?_
      refine r_icmp_ne C 90 dX9_hopeOf_34 (by decide) ?_ ?_
      · refine r_aload_n C 0 dX9_hopeOf_90 rfl ?_
        refine r_getr C fl_X9_9 dX9_hopeOf_91 th0 (fun b4 tb4 => ?_)
        refine r_bipush C (102 : Int32) dX9_hopeOf_94 (by decide) ?_
        refine r_iload_n C 1 dX9_hopeOf_96 rfl ?_
        refine r_iadd C dX9_hopeOf_97 ?_
        refine r_iload_n C 2 dX9_hopeOf_98 rfl ?_
        refine r_iast C dX9_hopeOf_99 tb4 (fun S5 => ?_)
        refine r_iload_n C 3 dX9_hopeOf_100 rfl ?_
        exact r_ireturn C X dX9_hopeOf_101
      · refine r_iload C 4 dX9_hopeOf_37 rfl ?_
        refine r_iload_n C 2 dX9_hopeOf_39 rfl ?_
        refine r_icmp_eq C 84 dX9_hopeOf_40 (by decide) ?_ ?_
        · refine r_iinc C 4 (fun y6 => [(4, .int y6), (0, .ref h0), (1, .int x1), (2, .int x2), (3, .int x3)]) dX9_hopeOf_84 rfl (v := (1 : Int32)) (by decide) (by decide) (fun _ => rfl) (fun y6 => ?_)
          refine r_goto C 21 dX9_hopeOf_87 (by decide) ?_
          refine r_sub [1, 2, 3, 4, 0] [(0, .ref h0), (1, .int x1), (2, .int x2), (3, .int x3), (4, .int y6)] rfl ?_
          exact ih S h0 x1 x2 x3 y6 th0
        · refine r_aload_n C 0 dX9_hopeOf_43 rfl ?_
          refine r_iload_n C 1 dX9_hopeOf_44 rfl ?_
          refine r_iload C 4 dX9_hopeOf_45 rfl ?_
          refine r_callV (As := [.int x1, .int x4]) (rest := []) C (c_X9_isFor _ E n h0 x1 x4 th0) dX9_hopeOf_47 ml_X9_276 mv_X9_isFor ⟨TX9, _, rfl⟩ (by decide) th0 rfl rfl ⟨by decide, by decide⟩ (Nat.le_of_ble_eq_true rfl) (fun v8 S7 hv8 => ?_)
          refine r_if_ne C 56 dX9_hopeOf_50 (by decide) ?_ ?_
          · refine r_aload_n C 0 dX9_hopeOf_56 rfl ?_
            refine r_getr C fl_X9_9 dX9_hopeOf_57 th0 (fun b9 tb9 => ?_)
            refine r_bipush C (102 : Int32) dX9_hopeOf_60 (by decide) ?_
            refine r_iload_n C 1 dX9_hopeOf_62 rfl ?_
            refine r_iadd C dX9_hopeOf_63 ?_
            refine r_iload C 4 dX9_hopeOf_64 rfl ?_
            refine r_iast C dX9_hopeOf_66 tb9 (fun S10 => ?_)
            refine r_aload_n C 0 dX9_hopeOf_67 rfl ?_
            refine r_iload C 4 dX9_hopeOf_68 rfl ?_
            refine r_callV (As := [.int x4]) (rest := []) C (c_X9_takenBy _ E n h0 x4 th0) dX9_hopeOf_70 ml_X9_240 mv_X9_takenBy ⟨TX9, _, rfl⟩ (by decide) th0 rfl rfl ⟨by decide, by decide⟩ (Nat.le_of_ble_eq_true rfl) (fun v12 S11 hv12 => ?_)
            refine r_iload_n C 1 dX9_hopeOf_73 rfl ?_
            refine r_icmp_ne C 82 dX9_hopeOf_74 (by decide) ?_ ?_
            · refine r_iconst C (-1 : Int32) dX9_hopeOf_82 (by decide) ?_
              refine r_istore_n C [(3, .int (-1 : Int32)), (0, .ref h0), (1, .int x1), (2, .int x2), (4, .int x4)] dX9_hopeOf_83 (by decide) rfl ?_
              refine r_iinc C 4 (fun y13 => [(4, .int y13), (3, .int (-1 : Int32)), (0, .ref h0), (1, .int x1), (2, .int x2)]) dX9_hopeOf_84 rfl (v := (1 : Int32)) (by decide) (by decide) (fun _ => rfl) (fun y13 => ?_)
              refine r_goto C 21 dX9_hopeOf_87 (by decide) ?_
              refine r_sub [2, 3, 4, 1, 0] [(0, .ref h0), (1, .int x1), (2, .int x2), (3, .int (-1 : Int32)), (4, .int y13)] rfl ?_
              exact ih S11 h0 x1 x2 (-1 : Int32) y13 th0
            · refine r_iload C 4 dX9_hopeOf_77 rfl ?_
              refine r_goto C 83 dX9_hopeOf_79 (by decide) ?_
              refine r_istore_n C [(3, .int x4), (0, .ref h0), (1, .int x1), (2, .int x2), (4, .int x4)] dX9_hopeOf_83 (by decide) rfl ?_
              refine r_iinc C 4 (fun y14 => [(4, .int y14), (3, .int x4), (0, .ref h0), (1, .int x1), (2, .int x2)]) dX9_hopeOf_84 rfl (v := (1 : Int32)) (by decide) (by decide) (fun _ => rfl) (fun y14 => ?_)
              refine r_goto C 21 dX9_hopeOf_87 (by decide) ?_
              refine r_sub [2, 3, 4, 1, 0] [(0, .ref h0), (1, .int x1), (2, .int x2), (3, .int x4), (4, .int y14)] rfl ?_
              exact ih S11 h0 x1 x2 x4 y14 th0
          · refine r_goto C 84 dX9_hopeOf_53 (by decide) ?_
            refine r_iinc C 4 (fun y15 => [(4, .int y15), (0, .ref h0), (1, .int x1), (2, .int x2), (3, .int x3)]) dX9_hopeOf_84 rfl (v := (1 : Int32)) (by decide) (by decide) (fun _ => rfl) (fun y15 => ?_)
            refine r_goto C 21 dX9_hopeOf_87 (by decide) ?_
            refine r_sub [1, 2, 3, 4, 0] [(0, .ref h0), (1, .int x1), (2, .int x2), (3, .int x3), (4, .int y15)] rfl ?_
            exact ih S7 h0 x1 x2 x3 y15 th0
set_option maxRecDepth 100000 in
set_option maxHeartbeats 4000000 in
theorem c_X9_hopeOf (l : Launch) (E : EN) (n : Nat) (h0 : Nat) (x1 : Int32) (th0 : Ty E h0 8) : CT l E yX9_hopeOf cX9_hopeOf 5 (some .int) 3 65 wI tT [.ref h0, .int x1] (fun S => f_X9_hopeOf E n S h0 x1) := by
  refine ct_of RX9 (by decide +kernel) rfl [(0, .ref h0), (1, .int x1)] rfl (Nat.le_of_ble_eq_true rfl) (fun A S hA C X => ?_)
  subst hA
  show Gd A E 5 (QM A E wI tT) (f_X9_hopeOf E n S h0 x1) S 0 [(0, .ref h0), (1, .int x1)] []
  unfold f_X9_hopeOf
  refine r_aload_n C 0 dX9_hopeOf_0 rfl ?_
  refine r_iload_n C 1 dX9_hopeOf_1 rfl ?_
  refine r_callV (As := [.int x1]) (rest := []) C (c_X9_isRefused _ E n h0 x1 th0) dX9_hopeOf_2 ml_X9_243 mv_X9_isRefused ⟨TX9, _, rfl⟩ (by decide) th0 rfl rfl ⟨by decide, by decide⟩ (Nat.le_of_ble_eq_true rfl) (fun v2 S1 hv2 => ?_)
  refine r_if_ne C 10 dX9_hopeOf_5 (by decide) ?_ ?_
  · refine r_aload_n C 0 dX9_hopeOf_10 rfl ?_
    refine r_iload_n C 1 dX9_hopeOf_11 rfl ?_
    refine r_callV (As := [.int x1]) (rest := []) C (c_X9_courts _ E n h0 x1 th0) dX9_hopeOf_12 ml_X9_234 mv_X9_courts ⟨TX9, _, rfl⟩ (by decide) th0 rfl rfl ⟨by decide, by decide⟩ (Nat.le_of_ble_eq_true rfl) (fun v4 S3 hv4 => ?_)
    refine r_istore_n C [(2, .int v4), (0, .ref h0), (1, .int x1)] dX9_hopeOf_15 (by decide) rfl ?_
    refine r_iconst C (-1 : Int32) dX9_hopeOf_16 (by decide) ?_
    refine r_istore_n C [(3, .int (-1 : Int32)), (2, .int v4), (0, .ref h0), (1, .int x1)] dX9_hopeOf_17 (by decide) rfl ?_
    refine r_iconst C (0 : Int32) dX9_hopeOf_18 (by decide) ?_
    refine r_istore C [(4, .int (0 : Int32)), (3, .int (-1 : Int32)), (2, .int v4), (0, .ref h0), (1, .int x1)] dX9_hopeOf_19 (by decide) rfl ?_
    refine r_sub [3, 4, 2, 1, 0] [(0, .ref h0), (1, .int x1), (2, .int v4), (3, .int (-1 : Int32)), (4, .int (0 : Int32))] rfl ?_
    exact p_X9_hopeOf_L21 C X  n S3 h0 x1 v4 (-1 : Int32) (0 : Int32) th0
  · refine r_iconst C (-1 : Int32) dX9_hopeOf_8 (by decide) ?_
    exact r_ireturn C X dX9_hopeOf_9
set_option maxRecDepth 100000 in
set_option maxHeartbeats 4000000 in
theorem p_X9_restless_L2 {A : AM} {E : EN} {n : Nat} (C : Cx A E cX9_restless 2 RX9 4 89) (X : Ex A E (some .int))  : ∀ (m : Nat) (S : WS) (h0 : Nat) (x1 : Int32) (th0 : Ty E h0 8), Gd A E 2 (QM A E wI tT) (f_X9_restless_L2 E n  m S h0 x1) S 2 [(0, .ref h0), (1, .int x1)] [] := by
  intro m
  induction m with
  | zero => intros; exact gn
  | succ m ih =>
    intro S h0 x1 th0
    unfold f_X9_restless_L2
    refine r_iload_n C 1 dX9_restless_2 rfl ?_
    refine r_aload_n C 0 dX9_restless_3 rfl ?_
    refine r_getr C fl_X9_9 dX9_restless_4 th0 (fun b1 tb1 => ?_)
    refine r_iconst C (4 : Int32) dX9_restless_7 (by decide) ?_
    refine r_iald C dX9_restless_8 tb1 ?_
    refine r_icmp_ge C 29 dX9_restless_9 (by decide) ?_ ?_
    · refine r_iconst C (-1 : Int32) dX9_restless_29 (by decide) ?_
      exact r_ireturn C X dX9_restless_30
    · refine r_aload_n C 0 dX9_restless_12 rfl ?_
      refine r_iload_n C 1 dX9_restless_13 rfl ?_
      refine r_callV (As := [.int x1]) (rest := []) C (c_X9_hopeOf _ E n h0 x1 th0) dX9_restless_14 ml_X9_440 mv_X9_hopeOf ⟨TX9, _, rfl⟩ (by decide) th0 rfl rfl ⟨by decide, by decide⟩ (Nat.le_of_ble_eq_true rfl) (fun v3 S2 hv3 => ?_)
      refine r_iconst C (-1 : Int32) dX9_restless_17 (by decide) ?_
      refine r_icmp_eq C 23 dX9_restless_18 (by decide) ?_ ?_
      · refine r_iinc C 1 (fun y4 => [(1, .int y4), (0, .ref h0)]) dX9_restless_23 rfl (v := (1 : Int32)) (by decide) (by decide) (fun _ => rfl) (fun y4 => ?_)
        refine r_goto C 2 dX9_restless_26 (by decide) ?_
        refine r_sub [1, 0] [(0, .ref h0), (1, .int y4)] rfl ?_
        exact ih S2 h0 y4 th0
      · refine r_iload_n C 1 dX9_restless_21 rfl ?_
        exact r_ireturn C X dX9_restless_22
set_option maxRecDepth 100000 in
set_option maxHeartbeats 4000000 in
theorem c_X9_restless (l : Launch) (E : EN) (n : Nat) (h0 : Nat) (th0 : Ty E h0 8) : CT l E yX9_restless cX9_restless 2 (some .int) 4 89 wI tT [.ref h0] (fun S => f_X9_restless E n S h0) := by
  refine ct_of RX9 (by decide +kernel) rfl [(0, .ref h0)] rfl (Nat.le_of_ble_eq_true rfl) (fun A S hA C X => ?_)
  subst hA
  show Gd A E 2 (QM A E wI tT) (f_X9_restless E n S h0) S 0 [(0, .ref h0)] []
  unfold f_X9_restless
  refine r_iconst C (0 : Int32) dX9_restless_0 (by decide) ?_
  refine r_istore_n C [(1, .int (0 : Int32)), (0, .ref h0)] dX9_restless_1 (by decide) rfl ?_
  refine r_sub [1, 0] [(0, .ref h0), (1, .int (0 : Int32))] rfl ?_
  exact p_X9_restless_L2 C X  n S h0 (0 : Int32) th0
set_option maxRecDepth 100000 in
set_option maxHeartbeats 4000000 in
theorem c_X9_hopes (l : Launch) (E : EN) (n : Nat) (h0 : Nat) (x1 : Int32) (th0 : Ty E h0 8) : CT l E yX9_hopes cX9_hopes 2 (some .int) 4 89 wI tT [.ref h0, .int x1] (fun S => f_X9_hopes E n S h0 x1) := by
  refine ct_of RX9 (by decide +kernel) rfl [(0, .ref h0), (1, .int x1)] rfl (Nat.le_of_ble_eq_true rfl) (fun A S hA C X => ?_)
  subst hA
  show Gd A E 2 (QM A E wI tT) (f_X9_hopes E n S h0 x1) S 0 [(0, .ref h0), (1, .int x1)] []
  unfold f_X9_hopes
  refine r_aload_n C 0 dX9_hopes_0 rfl ?_
  refine r_iload_n C 1 dX9_hopes_1 rfl ?_
  refine r_callV (As := [.int x1]) (rest := []) C (c_X9_isSuitor _ E n h0 x1 th0) dX9_hopes_2 ml_X9_270 mv_X9_isSuitor ⟨TX9, _, rfl⟩ (by decide) th0 rfl rfl ⟨by decide, by decide⟩ (Nat.le_of_ble_eq_true rfl) (fun v2 S1 hv2 => ?_)
  refine r_if_eq C 16 dX9_hopes_5 (by decide) ?_ ?_
  · refine r_bipush C (-2 : Int32) dX9_hopes_16 (by decide) ?_
    exact r_ireturn C X dX9_hopes_18
  · refine r_aload_n C 0 dX9_hopes_8 rfl ?_
    refine r_iload_n C 1 dX9_hopes_9 rfl ?_
    refine r_callV (As := [.int x1]) (rest := []) C (c_X9_hopeOf _ E n h0 x1 th0) dX9_hopes_10 ml_X9_440 mv_X9_hopeOf ⟨TX9, _, rfl⟩ (by decide) th0 rfl rfl ⟨by decide, by decide⟩ (Nat.le_of_ble_eq_true rfl) (fun v4 S3 hv4 => ?_)
    refine r_goto C 18 dX9_hopes_13 (by decide) ?_
    exact r_ireturn C X dX9_hopes_18
set_option maxRecDepth 100000 in
set_option maxHeartbeats 4000000 in
theorem c_X9_peace (l : Launch) (E : EN) (n : Nat) (h0 : Nat) (th0 : Ty E h0 8) : CT l E yX9_peace cX9_peace 1 (some .int) 5 110 wI tT [.ref h0] (fun S => f_X9_peace E n S h0) := by
  refine ct_of RX9 (by decide +kernel) rfl [(0, .ref h0)] rfl (Nat.le_of_ble_eq_true rfl) (fun A S hA C X => ?_)
  subst hA
  show Gd A E 1 (QM A E wI tT) (f_X9_peace E n S h0) S 0 [(0, .ref h0)] []
  unfold f_X9_peace
  refine r_aload_n C 0 dX9_peace_0 rfl ?_
  refine r_callV (As := []) (rest := []) C (c_X9_isMountain _ E n h0 th0) dX9_peace_1 ml_X9_286 mv_X9_isMountain ⟨TX9, _, rfl⟩ (by decide) th0 rfl rfl ⟨by decide, by decide⟩ (Nat.le_of_ble_eq_true rfl) (fun v2 S1 hv2 => ?_)
  refine r_if_eq C 23 dX9_peace_4 (by decide) ?_ ?_
  · refine r_bipush C (-2 : Int32) dX9_peace_23 (by decide) ?_
    exact r_ireturn C X dX9_peace_25
  · refine r_aload_n C 0 dX9_peace_7 rfl ?_
    refine r_callV (As := []) (rest := []) C (c_X9_restless _ E n h0 th0) dX9_peace_8 ml_X9_443 mv_X9_restless ⟨TX9, _, rfl⟩ (by decide) th0 rfl rfl ⟨by decide, by decide⟩ (Nat.le_of_ble_eq_true rfl) (fun v4 S3 hv4 => ?_)
    refine r_iconst C (-1 : Int32) dX9_peace_11 (by decide) ?_
    refine r_icmp_ne C 19 dX9_peace_12 (by decide) ?_ ?_
    · refine r_iconst C (0 : Int32) dX9_peace_19 (by decide) ?_
      refine r_goto C 25 dX9_peace_20 (by decide) ?_
      exact r_ireturn C X dX9_peace_25
    · refine r_iconst C (1 : Int32) dX9_peace_15 (by decide) ?_
      refine r_goto C 25 dX9_peace_16 (by decide) ?_
      exact r_ireturn C X dX9_peace_25
set_option maxRecDepth 100000 in
set_option maxHeartbeats 4000000 in
theorem p_X9_settles_L7 {A : AM} {E : EN} {n : Nat} (C : Cx A E cX9_settles 4 RX9 5 110) (X : Ex A E (some .int))  : ∀ (m : Nat) (S : WS) (h0 : Nat) (x1 : Int32) (x2 : Int32) (x3 : Int32) (th0 : Ty E h0 8), Gd A E 4 (QM A E wI tT) (f_X9_settles_L7 E n  m S h0 x1 x2 x3) S 7 [(0, .ref h0), (1, .int x1), (2, .int x2), (3, .int x3)] [] := by
  intro m
  induction m with
  | zero => intros; exact gn
  | succ m ih =>
    intro S h0 x1 x2 x3 th0
    unfold f_X9_settles_L7
    refine r_iload_n C 3 dX9_settles_7 rfl ?_
    refine r_iconst C (-1 : Int32) dX9_settles_8 (by decide) ?_
    refine r_icmp_eq C 42 dX9_settles_9 (by decide) ?_ ?_
    · refine r_iload_n C 3 dX9_settles_42 rfl ?_
      refine r_iconst C (-1 : Int32) dX9_settles_43 (by decide) ?_
      refine r_icmp_ne C 51 dX9_settles_44 (by decide) ?_ ?_
      · refine r_iconst C (-1 : Int32) dX9_settles_51 (by decide) ?_
        exact r_ireturn C X dX9_settles_52
      · refine r_iload_n C 2 dX9_settles_47 rfl ?_
        refine r_goto C 52 dX9_settles_48 (by decide) ?_
        exact r_ireturn C X dX9_settles_52
    · refine r_iload_n C 2 dX9_settles_12 rfl ?_
      refine r_iload_n C 1 dX9_settles_13 rfl ?_
      refine r_icmp_ge C 42 dX9_settles_14 (by decide) ?_ ?_
      · refine r_iload_n C 3 dX9_settles_42 rfl ?_
        refine r_iconst C (-1 : Int32) dX9_settles_43 (by decide) ?_
        refine r_icmp_ne C 51 dX9_settles_44 (by decide) ?_ ?_
        · refine r_iconst C (-1 : Int32) dX9_settles_51 (by decide) ?_
          exact r_ireturn C X dX9_settles_52
        · refine r_iload_n C 2 dX9_settles_47 rfl ?_
          refine r_goto C 52 dX9_settles_48 (by decide) ?_
          exact r_ireturn C X dX9_settles_52
      · refine r_aload_n C 0 dX9_settles_17 rfl ?_
        refine r_getr C fl_X9_9 dX9_settles_18 th0 (fun b1 tb1 => ?_)
        refine r_bipush C (102 : Int32) dX9_settles_21 (by decide) ?_
        refine r_iload_n C 3 dX9_settles_23 rfl ?_
        refine r_iadd C dX9_settles_24 ?_
        refine r_aload_n C 0 dX9_settles_25 rfl ?_
        refine r_iload_n C 3 dX9_settles_26 rfl ?_
        refine r_callV (As := [.int x3]) (rest := [.int ((102 : Int32) + x3), .ref b1]) C (c_X9_hopeOf _ E n h0 x3 th0) dX9_settles_27 ml_X9_440 mv_X9_hopeOf ⟨TX9, _, rfl⟩ (by decide) th0 rfl rfl ⟨by decide, by decide⟩ (Nat.le_of_ble_eq_true rfl) (fun v3 S2 hv3 => ?_)
        refine r_iast C dX9_settles_30 tb1 (fun S4 => ?_)
        refine r_iinc C 2 (fun y5 => [(2, .int y5), (0, .ref h0), (1, .int x1), (3, .int x3)]) dX9_settles_31 rfl (v := (1 : Int32)) (by decide) (by decide) (fun _ => rfl) (fun y5 => ?_)
        refine r_aload_n C 1 dX9_settles_34 rfl ?_
        refine r_callV (As := []) (rest := []) C (c_X9_restless _ E n h0 th0) dX9_settles_35 ml_X9_443 mv_X9_restless ⟨TX9, _, rfl⟩ (by decide) th0 rfl rfl ⟨by decide, by decide⟩ (Nat.le_of_ble_eq_true rfl) (fun v7 S6 hv7 => ?_)
        refine r_istore_n C [(3, .int v7), (2, .int y5), (0, .ref h0), (1, .int x1)] dX9_settles_38 (by decide) rfl ?_
        refine r_goto C 7 dX9_settles_39 (by decide) ?_
        refine r_sub [2, 3, 1, 0] [(0, .ref h0), (1, .int x1), (2, .int y5), (3, .int v7)] rfl ?_
        exact ih S6 h0 x1 y5 v7 th0
set_option maxRecDepth 100000 in
set_option maxHeartbeats 4000000 in
theorem c_X9_settles (l : Launch) (E : EN) (n : Nat) (h0 : Nat) (x1 : Int32) (th0 : Ty E h0 8) : CT l E yX9_settles cX9_settles 4 (some .int) 5 110 wI tT [.ref h0, .int x1] (fun S => f_X9_settles E n S h0 x1) := by
  refine ct_of RX9 (by decide +kernel) rfl [(0, .ref h0), (1, .int x1)] rfl (Nat.le_of_ble_eq_true rfl) (fun A S hA C X => ?_)
  subst hA
  show Gd A E 4 (QM A E wI tT) (f_X9_settles E n S h0 x1) S 0 [(0, .ref h0), (1, .int x1)] []
  unfold f_X9_settles
  refine r_iconst C (0 : Int32) dX9_settles_0 (by decide) ?_
  refine r_istore_n C [(2, .int (0 : Int32)), (0, .ref h0), (1, .int x1)] dX9_settles_1 (by decide) rfl ?_
  refine r_aload_n C 1 dX9_settles_2 rfl ?_
  refine r_callV (As := []) (rest := []) C (c_X9_restless _ E n h0 th0) dX9_settles_3 ml_X9_443 mv_X9_restless ⟨TX9, _, rfl⟩ (by decide) th0 rfl rfl ⟨by decide, by decide⟩ (Nat.le_of_ble_eq_true rfl) (fun v2 S1 hv2 => ?_)
  refine r_istore_n C [(3, .int v2), (2, .int (0 : Int32)), (0, .ref h0), (1, .int x1)] dX9_settles_6 (by decide) rfl ?_
  refine r_sub [2, 3, 1, 0] [(0, .ref h0), (1, .int x1), (2, .int (0 : Int32)), (3, .int v2)] rfl ?_
  exact p_X9_settles_L7 C X  n S1 h0 x1 (0 : Int32) v2 th0
set_option maxRecDepth 100000 in
set_option maxHeartbeats 4000000 in
theorem p_X9_keeps_L2 {A : AM} {E : EN} {n : Nat} (C : Cx A E cX9_keeps 2 RX9 1 21) (X : Ex A E none)  : ∀ (m : Nat) (S : WS) (h0 : Nat) (x1 : Int32) (th0 : Ty E h0 8), Gd A E 2 (QM A E wV tT) (f_X9_keeps_L2 E n  m S h0 x1) S 2 [(0, .ref h0), (1, .int x1)] [] := by
  intro m
  induction m with
  | zero => intros; exact gn
  | succ m ih =>
    intro S h0 x1 th0
    unfold f_X9_keeps_L2
    refine r_iload_n C 1 dX9_keeps_2 rfl ?_
    refine r_aload_n C 0 dX9_keeps_3 rfl ?_
    refine r_getr C fl_X9_9 dX9_keeps_4 th0 (fun b1 tb1 => ?_)
    refine r_iconst C (4 : Int32) dX9_keeps_7 (by decide) ?_
    refine r_iald C dX9_keeps_8 tb1 ?_
    refine r_icmp_ge C 29 dX9_keeps_9 (by decide) ?_ ?_
    · exact r_return C X dX9_keeps_29
    · refine r_aload_n C 0 dX9_keeps_12 rfl ?_
      refine r_getr C fl_X9_53 dX9_keeps_13 th0 (fun b2 tb2 => ?_)
      refine r_iload_n C 1 dX9_keeps_16 rfl ?_
      refine r_aload_n C 0 dX9_keeps_17 rfl ?_
      refine r_iload_n C 1 dX9_keeps_18 rfl ?_
      refine r_callV (As := [.int x1]) (rest := [.int x1, .ref b2]) C (c_X9_courts _ E n h0 x1 th0) dX9_keeps_19 ml_X9_234 mv_X9_courts ⟨TX9, _, rfl⟩ (by decide) th0 rfl rfl ⟨by decide, by decide⟩ (Nat.le_of_ble_eq_true rfl) (fun v4 S3 hv4 => ?_)
      refine r_iast C dX9_keeps_22 tb2 (fun S5 => ?_)
      refine r_iinc C 1 (fun y6 => [(1, .int y6), (0, .ref h0)]) dX9_keeps_23 rfl (v := (1 : Int32)) (by decide) (by decide) (fun _ => rfl) (fun y6 => ?_)
      refine r_goto C 2 dX9_keeps_26 (by decide) ?_
      refine r_sub [1, 0] [(0, .ref h0), (1, .int y6)] rfl ?_
      exact ih S5 h0 y6 th0
set_option maxRecDepth 100000 in
set_option maxHeartbeats 4000000 in
theorem c_X9_keeps (l : Launch) (E : EN) (n : Nat) (h0 : Nat) (th0 : Ty E h0 8) : CT l E yX9_keeps cX9_keeps 2 none 1 21 wV tT [.ref h0] (fun S => f_X9_keeps E n S h0) := by
  refine ct_of RX9 (by decide +kernel) rfl [(0, .ref h0)] rfl (Nat.le_of_ble_eq_true rfl) (fun A S hA C X => ?_)
  subst hA
  show Gd A E 2 (QM A E wV tT) (f_X9_keeps E n S h0) S 0 [(0, .ref h0)] []
  unfold f_X9_keeps
  refine r_iconst C (0 : Int32) dX9_keeps_0 (by decide) ?_
  refine r_istore_n C [(1, .int (0 : Int32)), (0, .ref h0)] dX9_keeps_1 (by decide) rfl ?_
  refine r_sub [1, 0] [(0, .ref h0), (1, .int (0 : Int32))] rfl ?_
  exact p_X9_keeps_L2 C X  n S h0 (0 : Int32) th0
set_option maxRecDepth 100000 in
set_option maxHeartbeats 4000000 in
theorem c_X9_peaces (l : Launch) (E : EN) (n : Nat) (h0 : Nat) (x1 : Int32) (th0 : Ty E h0 8) : CT l E yX9_peaces cX9_peaces 3 (some .int) 6 133 wI tT [.ref h0, .int x1] (fun S => f_X9_peaces E n S h0 x1) := by
  refine ct_of RX9 (by decide +kernel) rfl [(0, .ref h0), (1, .int x1)] rfl (Nat.le_of_ble_eq_true rfl) (fun A S hA C X => ?_)
  subst hA
  show Gd A E 3 (QM A E wI tT) (f_X9_peaces E n S h0 x1) S 0 [(0, .ref h0), (1, .int x1)] []
  unfold f_X9_peaces
  refine r_aload_n C 0 dX9_peaces_0 rfl ?_
  refine r_callV (As := []) (rest := []) C (c_X9_isMountain _ E n h0 th0) dX9_peaces_1 ml_X9_286 mv_X9_isMountain ⟨TX9, _, rfl⟩ (by decide) th0 rfl rfl ⟨by decide, by decide⟩ (Nat.le_of_ble_eq_true rfl) (fun v2 S1 hv2 => ?_)
  refine r_if_eq C 19 dX9_peaces_4 (by decide) ?_ ?_
  · refine r_bipush C (-2 : Int32) dX9_peaces_19 (by decide) ?_
    exact r_ireturn C X dX9_peaces_21
  · refine r_iload_n C 1 dX9_peaces_7 rfl ?_
    refine r_i2l C dX9_peaces_8 ?_
    refine r_lconst C (0 : Int64) dX9_peaces_9 (by decide) ?_
    refine r_ldc2 C (40 : Int64) (mG 1888 (by decide +kernel) rfl) dX9_peaces_10 ?_
    refine r_callS (As := [.long (x1.toInt64), .long (0 : Int64), .long (40 : Int64)]) (rest := []) C (c_X9_in _ E n (x1.toInt64) (0 : Int64) (40 : Int64) ) dX9_peaces_13 ml_X9_82 mv_X9_in rfl rfl ⟨by decide, by decide⟩ (Nat.le_of_ble_eq_true rfl) (fun v4 S3 hv4 => ?_)
    refine r_if_ne C 22 dX9_peaces_16 (by decide) ?_ ?_
    · refine r_aload_n C 0 dX9_peaces_22 rfl ?_
      refine r_callV (As := []) (rest := []) C (c_X9_keeps _ E n h0 th0) dX9_peaces_23 ml_X9_448 mv_X9_keeps ⟨TX9, _, rfl⟩ (by decide) th0 rfl rfl ⟨by decide, by decide⟩ (Nat.le_of_ble_eq_true rfl) (fun v6 S5 hv6 => ?_)
      refine r_aload_n C 0 dX9_peaces_26 rfl ?_
      refine r_iload_n C 1 dX9_peaces_27 rfl ?_
      refine r_callV (As := [.int x1]) (rest := []) C (c_X9_settles _ E n h0 x1 th0) dX9_peaces_28 ml_X9_451 mv_X9_settles ⟨TX9, _, rfl⟩ (by decide) th0 rfl rfl ⟨by decide, by decide⟩ (Nat.le_of_ble_eq_true rfl) (fun v8 S7 hv8 => ?_)
      refine r_istore_n C [(2, .int v8), (0, .ref h0), (1, .int x1)] dX9_peaces_31 (by decide) rfl ?_
      refine r_aload_n C 1 dX9_peaces_32 rfl ?_
      refine r_callV (As := []) (rest := []) C (c_X9_endsCourtings _ E n h0 th0) dX9_peaces_33 ml_X9_406 mv_X9_endsCourtings ⟨TX9, _, rfl⟩ (by decide) th0 rfl rfl ⟨by decide, by decide⟩ (Nat.le_of_ble_eq_true rfl) (fun v10 S9 hv10 => ?_)
      refine r_iload_n C 0 dX9_peaces_36 rfl ?_
      exact r_ireturn C X dX9_peaces_37
    · refine r_bipush C (-2 : Int32) dX9_peaces_19 (by decide) ?_
      exact r_ireturn C X dX9_peaces_21
set_option maxRecDepth 100000 in
set_option maxHeartbeats 4000000 in
theorem c_X9_then (l : Launch) (E : EN) (n : Nat) (h0 : Nat) (x1 : Int32) (x2 : Int32) (th0 : Ty E h0 8) : CT l E yX9_then cX9_then 4 (some .int) 6 133 wI tT [.ref h0, .int x1, .int x2] (fun S => f_X9_then E n S h0 x1 x2) := by
  refine ct_of RX9 (by decide +kernel) rfl [(0, .ref h0), (1, .int x1), (2, .int x2)] rfl (Nat.le_of_ble_eq_true rfl) (fun A S hA C X => ?_)
  subst hA
  show Gd A E 4 (QM A E wI tT) (f_X9_then E n S h0 x1 x2) S 0 [(0, .ref h0), (1, .int x1), (2, .int x2)] []
  unfold f_X9_then
  refine r_aload_n C 0 dX9_then_0 rfl ?_
  refine r_iload_n C 1 dX9_then_1 rfl ?_
  refine r_callV (As := [.int x1]) (rest := []) C (c_X9_isSuitor _ E n h0 x1 th0) dX9_then_2 ml_X9_270 mv_X9_isSuitor ⟨TX9, _, rfl⟩ (by decide) th0 rfl rfl ⟨by decide, by decide⟩ (Nat.le_of_ble_eq_true rfl) (fun v2 S1 hv2 => ?_)
  refine r_if_eq C 20 dX9_then_5 (by decide) ?_ ?_
  · refine r_bipush C (-2 : Int32) dX9_then_20 (by decide) ?_
    exact r_ireturn C X dX9_then_22
  · refine r_iload_n C 2 dX9_then_8 rfl ?_
    refine r_i2l C dX9_then_9 ?_
    refine r_lconst C (0 : Int64) dX9_then_10 (by decide) ?_
    refine r_ldc2 C (40 : Int64) (mG 1888 (by decide +kernel) rfl) dX9_then_11 ?_
    refine r_callS (As := [.long (x2.toInt64), .long (0 : Int64), .long (40 : Int64)]) (rest := []) C (c_X9_in _ E n (x2.toInt64) (0 : Int64) (40 : Int64) ) dX9_then_14 ml_X9_82 mv_X9_in rfl rfl ⟨by decide, by decide⟩ (Nat.le_of_ble_eq_true rfl) (fun v4 S3 hv4 => ?_)
    refine r_if_ne C 23 dX9_then_17 (by decide) ?_ ?_
    · refine r_aload_n C 0 dX9_then_23 rfl ?_
      refine r_callV (As := []) (rest := []) C (c_X9_keeps _ E n h0 th0) dX9_then_24 ml_X9_448 mv_X9_keeps ⟨TX9, _, rfl⟩ (by decide) th0 rfl rfl ⟨by decide, by decide⟩ (Nat.le_of_ble_eq_true rfl) (fun v6 S5 hv6 => ?_)
      refine r_aload_n C 0 dX9_then_27 rfl ?_
      refine r_iload_n C 2 dX9_then_28 rfl ?_
      refine r_callV (As := [.int x2]) (rest := []) C (c_X9_settles _ E n h0 x2 th0) dX9_then_29 ml_X9_451 mv_X9_settles ⟨TX9, _, rfl⟩ (by decide) th0 rfl rfl ⟨by decide, by decide⟩ (Nat.le_of_ble_eq_true rfl) (fun v8 S7 hv8 => ?_)
      refine r_pop C dX9_then_32 rfl ?_
      refine r_aload_n C 0 dX9_then_33 rfl ?_
      refine r_iload_n C 1 dX9_then_34 rfl ?_
      refine r_callV (As := [.int x1]) (rest := []) C (c_X9_courts _ E n h0 x1 th0) dX9_then_35 ml_X9_234 mv_X9_courts ⟨TX9, _, rfl⟩ (by decide) th0 rfl rfl ⟨by decide, by decide⟩ (Nat.le_of_ble_eq_true rfl) (fun v10 S9 hv10 => ?_)
      refine r_istore_n C [(3, .int v10), (0, .ref h0), (1, .int x1), (2, .int x2)] dX9_then_38 (by decide) rfl ?_
      refine r_aload_n C 1 dX9_then_39 rfl ?_
      refine r_callV (As := []) (rest := []) C (c_X9_endsCourtings _ E n h0 th0) dX9_then_40 ml_X9_406 mv_X9_endsCourtings ⟨TX9, _, rfl⟩ (by decide) th0 rfl rfl ⟨by decide, by decide⟩ (Nat.le_of_ble_eq_true rfl) (fun v12 S11 hv12 => ?_)
      refine r_iload_n C 0 dX9_then_43 rfl ?_
      exact r_ireturn C X dX9_then_44
    · refine r_bipush C (-2 : Int32) dX9_then_20 (by decide) ?_
      exact r_ireturn C X dX9_then_22
set_option maxRecDepth 100000 in
set_option maxHeartbeats 4000000 in
theorem c_X9_draw (l : Launch) (E : EN) (n : Nat) (h0 : Nat) (th0 : Ty E h0 8) : CT l E yX9_draw cX9_draw 1 (some .int) 0 0 wI tT [.ref h0] (fun S => f_X9_draw E n S h0) := by
  refine ct_of RX9 (by decide +kernel) rfl [(0, .ref h0)] rfl (Nat.le_of_ble_eq_true rfl) (fun A S hA C X => ?_)
  subst hA
  show Gd A E 1 (QM A E wI tT) (f_X9_draw E n S h0) S 0 [(0, .ref h0)] []
  unfold f_X9_draw
  refine r_aload_n C 0 dX9_draw_0 rfl ?_
  refine r_ldc2 C (1103515245 : Int64) (mG 1921 (by decide +kernel) rfl) dX9_draw_1 ?_
  refine r_aload_n C 0 dX9_draw_4 rfl ?_
  refine r_getj C fl_X9_456 dX9_draw_5 th0 ?_
  refine r_lmul C dX9_draw_8 ?_
  refine r_ldc2 C (12345 : Int64) (mG 1922 (by decide +kernel) rfl) dX9_draw_9 ?_
  refine r_ladd C dX9_draw_12 ?_
  refine r_ldc2 C (2147483648 : Int64) (mG 1923 (by decide +kernel) rfl) dX9_draw_13 ?_
  refine r_lrem C dX9_draw_16 ?_
  refine r_putj C fl_X9_456 dX9_draw_17 th0 (fun S1 => ?_)
  refine r_aload_n C 0 dX9_draw_20 rfl ?_
  refine r_getj C fl_X9_456 dX9_draw_21 th0 ?_
  refine r_ldc2 C (65536 : Int64) (mG 1924 (by decide +kernel) rfl) dX9_draw_24 ?_
  refine r_ldiv C dX9_draw_27 ?_
  refine r_ldc2 C (100 : Int64) (mG 1642 (by decide +kernel) rfl) dX9_draw_28 ?_
  refine r_lrem C dX9_draw_31 ?_
  refine r_l2i C dX9_draw_32 ?_
  exact r_ireturn C X dX9_draw_33
set_option maxRecDepth 100000 in
set_option maxHeartbeats 4000000 in
theorem p_X9_misses_L2 {A : AM} {E : EN} {n : Nat} (C : Cx A E cX9_misses 4 RX9 4 87) (X : Ex A E (some .boolean))  : ∀ (m : Nat) (S : WS) (h0 : Nat) (x1 : Int32) (x2 : Int32) (x3 : Int32) (th0 : Ty E h0 8), Gd A E 4 (QM A E wI tT) (f_X9_misses_L2 E n  m S h0 x1 x2 x3) S 2 [(0, .ref h0), (1, .int x1), (2, .int x2), (3, .int x3)] [] := by
  intro m
  induction m with
  | zero => intros; exact gn
  | succ m ih =>
    intro S h0 x1 x2 x3 th0
    unfold f_X9_misses_L2
    refine r_iload_n C 3 dX9_misses_2 rfl ?_
    refine r_aload_n C 0 dX9_misses_3 rfl ?_
    refine r_getr C fl_X9_9 dX9_misses_4 th0 (fun b1 tb1 => ?_)
    refine r_iconst C (4 : Int32) dX9_misses_7 (by decide) ?_
    refine r_iald C dX9_misses_8 tb1 ?_
    refine r_icmp_ge C 43 dX9_misses_9 (by decide) ?_ ?_
    · refine r_iconst C (0 : Int32) dX9_misses_43 (by decide) ?_
      exact r_zreturn C X rfl dX9_misses_44
    · refine r_aload_n C 0 dX9_misses_12 rfl ?_
      refine r_iload_n C 3 dX9_misses_13 rfl ?_
      refine r_iload_n C 1 dX9_misses_14 rfl ?_
      refine r_iload_n C 2 dX9_misses_15 rfl ?_
      refine r_callV (As := [.int x3, .int x1, .int x2]) (rest := []) C (c_X9_hasStep _ E n h0 x3 x1 x2 th0) dX9_misses_16 ml_X9_253 mv_X9_hasStep ⟨TX9, _, rfl⟩ (by decide) th0 rfl rfl ⟨by decide, by decide⟩ (Nat.le_of_ble_eq_true rfl) (fun v3 S2 hv3 => ?_)
      refine r_if_eq C 37 dX9_misses_19 (by decide) ?_ ?_
      · refine r_iinc C 3 (fun y4 => [(3, .int y4), (0, .ref h0), (1, .int x1), (2, .int x2)]) dX9_misses_37 rfl (v := (1 : Int32)) (by decide) (by decide) (fun _ => rfl) (fun y4 => ?_)
        refine r_goto C 2 dX9_misses_40 (by decide) ?_
        refine r_sub [1, 2, 3, 0] [(0, .ref h0), (1, .int x1), (2, .int x2), (3, .int y4)] rfl ?_
        exact ih S2 h0 x1 x2 y4 th0
      · refine r_aload_n C 0 dX9_misses_22 rfl ?_
        refine r_callV (As := []) (rest := []) C (c_X9_draw _ E n h0 th0) dX9_misses_23 ml_X9_465 mv_X9_draw ⟨TX9, _, rfl⟩ (by decide) th0 rfl rfl ⟨by decide, by decide⟩ (Nat.le_of_ble_eq_true rfl) (fun v6 S5 hv6 => ?_)
        refine r_aload_n C 0 dX9_misses_26 rfl ?_
        refine r_iload_n C 3 dX9_misses_27 rfl ?_
        refine r_iload_n C 2 dX9_misses_28 rfl ?_
        refine r_callV (As := [.int x3, .int x2]) (rest := [.int v6]) C (c_X9_fallOf _ E n h0 x3 x2 th0) dX9_misses_29 ml_X9_310 mv_X9_fallOf ⟨TX9, _, rfl⟩ (by decide) th0 rfl rfl ⟨by decide, by decide⟩ (Nat.le_of_ble_eq_true rfl) (fun v8 S7 hv8 => ?_)
        refine r_icmp_ge C 37 dX9_misses_32 (by decide) ?_ ?_
        · refine r_iinc C 3 (fun y9 => [(3, .int y9), (0, .ref h0), (1, .int x1), (2, .int x2)]) dX9_misses_37 rfl (v := (1 : Int32)) (by decide) (by decide) (fun _ => rfl) (fun y9 => ?_)
          refine r_goto C 2 dX9_misses_40 (by decide) ?_
          refine r_sub [1, 2, 3, 0] [(0, .ref h0), (1, .int x1), (2, .int x2), (3, .int y9)] rfl ?_
          exact ih S7 h0 x1 x2 y9 th0
        · refine r_iconst C (1 : Int32) dX9_misses_35 (by decide) ?_
          exact r_zreturn C X rfl dX9_misses_36
set_option maxRecDepth 100000 in
set_option maxHeartbeats 4000000 in
theorem c_X9_misses (l : Launch) (E : EN) (n : Nat) (h0 : Nat) (x1 : Int32) (x2 : Int32) (th0 : Ty E h0 8) : CT l E yX9_misses cX9_misses 4 (some .boolean) 4 87 wI tT [.ref h0, .int x1, .int x2] (fun S => f_X9_misses E n S h0 x1 x2) := by
  refine ct_of RX9 (by decide +kernel) rfl [(0, .ref h0), (1, .int x1), (2, .int x2)] rfl (Nat.le_of_ble_eq_true rfl) (fun A S hA C X => ?_)
  subst hA
  show Gd A E 4 (QM A E wI tT) (f_X9_misses E n S h0 x1 x2) S 0 [(0, .ref h0), (1, .int x1), (2, .int x2)] []
  unfold f_X9_misses
  refine r_iconst C (0 : Int32) dX9_misses_0 (by decide) ?_
  refine r_istore_n C [(3, .int (0 : Int32)), (0, .ref h0), (1, .int x1), (2, .int x2)] dX9_misses_1 (by decide) rfl ?_
  refine r_sub [1, 2, 3, 0] [(0, .ref h0), (1, .int x1), (2, .int x2), (3, .int (0 : Int32))] rfl ?_
  exact p_X9_misses_L2 C X  n S h0 x1 x2 (0 : Int32) th0
set_option maxRecDepth 100000 in
set_option maxHeartbeats 4000000 in
theorem p_X9_walks_L8 {A : AM} {E : EN} {n : Nat} (C : Cx A E cX9_walks 7 RX9 5 110) (X : Ex A E (some .int))  : ∀ (m : Nat) (S : WS) (h0 : Nat) (x3 : Int32) (x4 : Int32) (th0 : Ty E h0 8), Gd A E 7 (QM A E wI tT) (f_X9_walks_L8 E n  m S h0 x3 x4) S 8 [(0, .ref h0), (3, .int x3), (4, .int x4)] [] := by
  intro m
  induction m with
  | zero => intros; exact gn
  | succ m ih =>
    intro S h0 x3 x4 th0
    unfold f_X9_walks_L8
    refine r_iload C 2 dX9_walks_8 rfl ?_
    refine r_aload_n C 0 dX9_walks_10 rfl ?_
    refine r_geti C fl_X9_351 dX9_walks_11 th0 ?_
    refine r_icmp_ge C 90 dX9_walks_14 (by decide) ?_ ?_
    · refine r_aload_n C 0 dX9_walks_90 rfl ?_
      refine r_getr C fl_X9_50 dX9_walks_91 th0 (fun b1 tb1 => ?_)
      refine r_aload_n C 0 dX9_walks_94 rfl ?_
      refine r_geti C fl_X9_351 dX9_walks_95 th0 ?_
      refine r_iconst C (1 : Int32) dX9_walks_98 (by decide) ?_
      refine r_isub C dX9_walks_99 ?_
      refine r_iald C dX9_walks_100 tb1 ?_
      exact r_ireturn C X dX9_walks_101
    · refine r_aload_n C 0 dX9_walks_17 rfl ?_
      refine r_getr C fl_X9_50 dX9_walks_18 th0 (fun b2 tb2 => ?_)
      refine r_iload C 2 dX9_walks_21 rfl ?_
      refine r_iconst C (1 : Int32) dX9_walks_23 (by decide) ?_
      refine r_isub C dX9_walks_24 ?_
      refine r_iald C dX9_walks_25 tb2 ?_
      refine r_topi (fun y3 => ?_)
      refine r_istore C [(5, .int y3), (0, .ref h0), (3, .int x3), (4, .int x4)] dX9_walks_26 (by decide) rfl ?_
      refine r_aload_n C 1 dX9_walks_28 rfl ?_
      refine r_getr C fl_X9_50 dX9_walks_29 th0 (fun b4 tb4 => ?_)
      refine r_iload C 3 dX9_walks_32 rfl ?_
      refine r_iald C dX9_walks_34 tb4 ?_
      refine r_topi (fun y5 => ?_)
      refine r_istore C [(6, .int y5), (5, .int y3), (0, .ref h0), (3, .int x3), (4, .int x4)] dX9_walks_35 (by decide) rfl ?_
      refine r_aload_n C 2 dX9_walks_37 rfl ?_
      refine r_aload_n C 2 dX9_walks_38 rfl ?_
      refine r_iload C 1 dX9_walks_39 rfl ?_
      refine r_iload C 0 dX9_walks_41 rfl ?_
      refine r_callV (As := [.int y3, .int y5]) (rest := [.ref h0]) C (c_X9_pathBetween _ E n h0 y3 y5 th0) dX9_walks_43 ml_X9_361 mv_X9_pathBetween ⟨TX9, _, rfl⟩ (by decide) th0 rfl rfl ⟨by decide, by decide⟩ (Nat.le_of_ble_eq_true rfl) (fun v7 S6 hv7 => ?_)
      refine r_iload_n C 3 dX9_walks_46 rfl ?_
      refine r_callV (As := [.int v7, .int x3]) (rest := []) C (c_X9_misses _ E n h0 v7 x3 th0) dX9_walks_47 ml_X9_468 mv_X9_misses ⟨TX9, _, rfl⟩ (by decide) th0 rfl rfl ⟨by decide, by decide⟩ (Nat.le_of_ble_eq_true rfl) (fun v9 S8 hv9 => ?_)
      refine r_if_eq C 84 dX9_walks_50 (by decide) ?_ ?_
      · refine r_iinc C 4 (fun y10 => [(4, .int y10), (6, .int y5), (5, .int y3), (0, .ref h0), (3, .int x3)]) dX9_walks_84 rfl (v := (1 : Int32)) (by decide) (by decide) (fun _ => rfl) (fun y10 => ?_)
        refine r_goto C 8 dX9_walks_87 (by decide) ?_
        refine r_sub [3, 4, 0] [(0, .ref h0), (3, .int x3), (4, .int y10)] rfl ?_
        exact ih S8 h0 x3 y10 th0
      · refine r_aload_n C 2 dX9_walks_53 rfl ?_
        refine r_getr C fl_X9_9 dX9_walks_54 th0 (fun b11 tb11 => ?_)
        refine r_bipush C (7 : Int32) dX9_walks_57 (by decide) ?_
        refine r_iload C 0 dX9_walks_59 rfl ?_
        refine r_iadd C dX9_walks_61 ?_
        refine r_iald C dX9_walks_62 tb11 ?_
        refine r_aload_n C 2 dX9_walks_63 rfl ?_
        refine r_getr C fl_X9_9 dX9_walks_64 th0 (fun b12 tb12 => ?_)
        refine r_bipush C (7 : Int32) dX9_walks_67 (by decide) ?_
        refine r_iload C 1 dX9_walks_69 rfl ?_
        refine r_iadd C dX9_walks_71 ?_
        refine r_iald C dX9_walks_72 tb12 ?_
        refine r_icmp_ge C 81 dX9_walks_73 (by decide) ?_ ?_
        · refine r_iload C 1 dX9_walks_81 rfl ?_
          exact r_ireturn C X dX9_walks_83
        · refine r_iload C 0 dX9_walks_76 rfl ?_
          refine r_goto C 83 dX9_walks_78 (by decide) ?_
          exact r_ireturn C X dX9_walks_83
set_option maxRecDepth 100000 in
set_option maxHeartbeats 4000000 in
theorem c_X9_walks (l : Launch) (E : EN) (n : Nat) (h0 : Nat) (x1 : Int64) (x3 : Int32) (th0 : Ty E h0 8) : CT l E yX9_walks cX9_walks 7 (some .int) 5 110 wI tT [.ref h0, .long x1, .int x3] (fun S => f_X9_walks E n S h0 x1 x3) := by
  refine ct_of RX9 (by decide +kernel) rfl [(0, .ref h0), (1, .long x1), (3, .int x3)] rfl (Nat.le_of_ble_eq_true rfl) (fun A S hA C X => ?_)
  subst hA
  show Gd A E 7 (QM A E wI tT) (f_X9_walks E n S h0 x1 x3) S 0 [(0, .ref h0), (1, .long x1), (3, .int x3)] []
  unfold f_X9_walks
  refine r_aload_n C 0 dX9_walks_0 rfl ?_
  refine r_lload_n C 1 dX9_walks_1 rfl ?_
  refine r_putj C fl_X9_456 dX9_walks_2 th0 (fun S1 => ?_)
  refine r_iconst C (1 : Int32) dX9_walks_5 (by decide) ?_
  refine r_istore C [(4, .int (1 : Int32)), (0, .ref h0), (1, .long x1), (3, .int x3)] dX9_walks_6 (by decide) rfl ?_
  refine r_sub [1, 3, 0] [(0, .ref h0), (3, .int x3), (4, .int (1 : Int32))] rfl ?_
  exact p_X9_walks_L8 C X  n S1 h0 x3 (1 : Int32) th0
set_option maxRecDepth 100000 in
set_option maxHeartbeats 4000000 in
theorem c_X9_isSeed (l : Launch) (E : EN) (n : Nat) (x0 : Int32) : CT l E yX9_isSeed cX9_isSeed 1 (some .boolean) 1 25 wI tT [.int x0] (fun S => f_X9_isSeed E n S x0) := by
  refine ct_of RX9 (by decide +kernel) rfl [(0, .int x0)] rfl (Nat.le_of_ble_eq_true rfl) (fun A S hA C X => ?_)
  subst hA
  show Gd A E 1 (QM A E wI tT) (f_X9_isSeed E n S x0) S 0 [(0, .int x0)] []
  unfold f_X9_isSeed
  refine r_iload_n C 0 dX9_isSeed_0 rfl ?_
  refine r_i2l C dX9_isSeed_1 ?_
  refine r_lconst C (0 : Int64) dX9_isSeed_2 (by decide) ?_
  refine r_ldc2 C (2000000000 : Int64) (mG 1908 (by decide +kernel) rfl) dX9_isSeed_3 ?_
  refine r_callS (As := [.long (x0.toInt64), .long (0 : Int64), .long (2000000000 : Int64)]) (rest := []) C (c_X9_in _ E n (x0.toInt64) (0 : Int64) (2000000000 : Int64) ) dX9_isSeed_6 ml_X9_82 mv_X9_in rfl rfl ⟨by decide, by decide⟩ (Nat.le_of_ble_eq_true rfl) (fun v2 S1 hv2 => ?_)
  exact r_zreturnc C X dX9_isSeed_9
set_option maxRecDepth 100000 in
set_option maxHeartbeats 4000000 in
theorem c_X9_walk (l : Launch) (E : EN) (n : Nat) (h0 : Nat) (x1 : Int32) (x2 : Int32) (x3 : Int32) (x4 : Int32) (th0 : Ty E h0 8) : CT l E yX9_walk cX9_walk 5 (some .int) 6 145 wI tT [.ref h0, .int x1, .int x2, .int x3, .int x4] (fun S => f_X9_walk E n S h0 x1 x2 x3 x4) := by
  refine ct_of RX9 (by decide +kernel) rfl [(0, .ref h0), (1, .int x1), (2, .int x2), (3, .int x3), (4, .int x4)] rfl (Nat.le_of_ble_eq_true rfl) (fun A S hA C X => ?_)
  subst hA
  show Gd A E 5 (QM A E wI tT) (f_X9_walk E n S h0 x1 x2 x3 x4) S 0 [(0, .ref h0), (1, .int x1), (2, .int x2), (3, .int x3), (4, .int x4)] []
  unfold f_X9_walk
  refine r_iload_n C 1 dX9_walk_0 rfl ?_
  refine r_callS (As := [.int x1]) (rest := []) C (c_X9_isSeed _ E n x1 ) dX9_walk_1 ml_X9_473 mv_X9_isSeed rfl rfl ⟨by decide, by decide⟩ (Nat.le_of_ble_eq_true rfl) (fun v2 S1 hv2 => ?_)
  refine r_if_eq C 18 dX9_walk_4 (by decide) ?_ ?_
  · refine r_bipush C (-2 : Int32) dX9_walk_18 (by decide) ?_
    exact r_ireturn C X dX9_walk_20
  · refine r_aload_n C 0 dX9_walk_7 rfl ?_
    refine r_iload_n C 2 dX9_walk_8 rfl ?_
    refine r_iload_n C 3 dX9_walk_9 rfl ?_
    refine r_iload C 4 dX9_walk_10 rfl ?_
    refine r_callV (As := [.int x2, .int x3, .int x4]) (rest := []) C (c_X9_isAsked _ E n h0 x2 x3 x4 th0) dX9_walk_12 ml_X9_373 mv_X9_isAsked ⟨TX9, _, rfl⟩ (by decide) th0 rfl rfl ⟨by decide, by decide⟩ (Nat.le_of_ble_eq_true rfl) (fun v4 S3 hv4 => ?_)
    refine r_if_ne C 21 dX9_walk_15 (by decide) ?_ ?_
    · refine r_aload_n C 0 dX9_walk_21 rfl ?_
      refine r_iload_n C 2 dX9_walk_22 rfl ?_
      refine r_iload_n C 3 dX9_walk_23 rfl ?_
      refine r_iload C 4 dX9_walk_24 rfl ?_
      refine r_callV (As := [.int x2, .int x3, .int x4]) (rest := []) C (c_X9_allWays _ E n h0 x2 x3 x4 th0) dX9_walk_26 ml_X9_376 mv_X9_allWays ⟨TX9, _, rfl⟩ (by decide) th0 rfl rfl ⟨by decide, by decide⟩ (Nat.le_of_ble_eq_true rfl) (fun v6 S5 hv6 => ?_)
      refine r_aload_n C 0 dX9_walk_29 rfl ?_
      refine r_geti C fl_X9_351 dX9_walk_30 th0 ?_
      refine r_if_ne C 40 dX9_walk_33 (by decide) ?_ ?_
      · refine r_aload_n C 0 dX9_walk_40 rfl ?_
        refine r_iload_n C 1 dX9_walk_41 rfl ?_
        refine r_i2l C dX9_walk_42 ?_
        refine r_iload C 4 dX9_walk_43 rfl ?_
        refine r_callV (As := [.long (x1.toInt64), .int x4]) (rest := []) C (c_X9_walks _ E n h0 (x1.toInt64) x4 th0) dX9_walk_45 ml_X9_476 mv_X9_walks ⟨TX9, _, rfl⟩ (by decide) th0 rfl rfl ⟨by decide, by decide⟩ (Nat.le_of_ble_eq_true rfl) (fun v8 S7 hv8 => ?_)
        exact r_ireturn C X dX9_walk_48
      · refine r_iconst C (-1 : Int32) dX9_walk_36 (by decide) ?_
        refine r_goto C 48 dX9_walk_37 (by decide) ?_
        exact r_ireturn C X dX9_walk_48
    · refine r_bipush C (-2 : Int32) dX9_walk_18 (by decide) ?_
      exact r_ireturn C X dX9_walk_20
set_option maxRecDepth 100000 in
set_option maxHeartbeats 4000000 in
theorem p_X9_walks__L58 {A : AM} {E : EN} {n : Nat} (C : Cx A E cX9_walks_ 8 RX9 6 145) (X : Ex A E (some .int))  : ∀ (m : Nat) (S : WS) (h0 : Nat) (x1 : Int32) (x2 : Int32) (x4 : Int32) (x5 : Int32) (x6 : Int32) (x7 : Int32) (th0 : Ty E h0 8), Gd A E 8 (QM A E wI tT) (f_X9_walks__L58 E n  m S h0 x1 x2 x4 x5 x6 x7) S 58 [(0, .ref h0), (1, .int x1), (2, .int x2), (4, .int x4), (5, .int x5), (6, .int x6), (7, .int x7)] [] := by
  intro m
  induction m with
  | zero => intros; exact gn
  | succ m ih =>
    intro S h0 x1 x2 x4 x5 x6 x7 th0
    unfold f_X9_walks__L58
    refine r_iload C 6 dX9_walks__58 rfl ?_
    refine r_iload_n C 2 dX9_walks__60 rfl ?_
    refine r_icmp_ge C 97 dX9_walks__61 (by decide) ?_ ?_
    · refine r_iload C 5 dX9_walks__97 rfl ?_
      exact r_ireturn C X dX9_walks__99
    · refine r_iload C 5 dX9_walks__64 rfl ?_
      refine r_aload_n C 0 dX9_walks__66 rfl ?_
      refine r_iload_n C 1 dX9_walks__67 rfl ?_
      refine r_i2l C dX9_walks__68 ?_
      refine r_iload C 6 dX9_walks__69 rfl ?_
      refine r_i2l C dX9_walks__71 ?_
      refine r_ladd C dX9_walks__72 ?_
      refine r_iload C 4 dX9_walks__73 rfl ?_
      refine r_callV (As := [.long ((x1.toInt64) + (x7.toInt64)), .int x5]) (rest := [.int x6]) C (c_X9_walks _ E n h0 ((x1.toInt64) + (x7.toInt64)) x5 th0) dX9_walks__75 ml_X9_476 mv_X9_walks ⟨TX9, _, rfl⟩ (by decide) th0 rfl rfl ⟨by decide, by decide⟩ (Nat.le_of_ble_eq_true rfl) (fun v2 S1 hv2 => ?_)
      refine r_iload C 3 dX9_walks__78 rfl ?_
      refine r_icmp_ne C 87 dX9_walks__80 (by decide) ?_ ?_
      · refine r_iconst C (0 : Int32) dX9_walks__87 (by decide) ?_
        refine r_iadd C dX9_walks__88 ?_
        refine r_topi (fun y3 => ?_)
        refine r_istore C [(6, .int y3), (0, .ref h0), (1, .int x1), (2, .int x2), (4, .int x4), (5, .int x5), (7, .int x7)] dX9_walks__89 (by decide) rfl ?_
        refine r_iinc C 6 (fun y4 => [(7, .int y4), (6, .int y3), (0, .ref h0), (1, .int x1), (2, .int x2), (4, .int x4), (5, .int x5)]) dX9_walks__91 rfl (v := (1 : Int32)) (by decide) (by decide) (fun _ => rfl) (fun y4 => ?_)
        refine r_goto C 58 dX9_walks__94 (by decide) ?_
        refine r_sub [2, 3, 4, 5, 6, 1, 0] [(0, .ref h0), (1, .int x1), (2, .int x2), (4, .int x4), (5, .int x5), (6, .int y3), (7, .int y4)] rfl ?_
        exact ih S1 h0 x1 x2 x4 x5 y3 y4 th0
      · refine r_iconst C (1 : Int32) dX9_walks__83 (by decide) ?_
        refine r_goto C 88 dX9_walks__84 (by decide) ?_
        refine r_iadd C dX9_walks__88 ?_
        refine r_topi (fun y5 => ?_)
        refine r_istore C [(6, .int y5), (0, .ref h0), (1, .int x1), (2, .int x2), (4, .int x4), (5, .int x5), (7, .int x7)] dX9_walks__89 (by decide) rfl ?_
        refine r_iinc C 6 (fun y6 => [(7, .int y6), (6, .int y5), (0, .ref h0), (1, .int x1), (2, .int x2), (4, .int x4), (5, .int x5)]) dX9_walks__91 rfl (v := (1 : Int32)) (by decide) (by decide) (fun _ => rfl) (fun y6 => ?_)
        refine r_goto C 58 dX9_walks__94 (by decide) ?_
        refine r_sub [2, 3, 4, 5, 6, 1, 0] [(0, .ref h0), (1, .int x1), (2, .int x2), (4, .int x4), (5, .int x5), (6, .int y5), (7, .int y6)] rfl ?_
        exact ih S1 h0 x1 x2 x4 x5 y5 y6 th0
set_option maxRecDepth 100000 in
set_option maxHeartbeats 4000000 in
theorem c_X9_walks_ (l : Launch) (E : EN) (n : Nat) (h0 : Nat) (x1 : Int32) (x2 : Int32) (x3 : Int32) (x4 : Int32) (x5 : Int32) (th0 : Ty E h0 8) : CT l E yX9_walks_ cX9_walks_ 8 (some .int) 6 145 wI tT [.ref h0, .int x1, .int x2, .int x3, .int x4, .int x5] (fun S => f_X9_walks_ E n S h0 x1 x2 x3 x4 x5) := by
  refine ct_of RX9 (by decide +kernel) rfl [(0, .ref h0), (1, .int x1), (2, .int x2), (3, .int x3), (4, .int x4), (5, .int x5)] rfl (Nat.le_of_ble_eq_true rfl) (fun A S hA C X => ?_)
  subst hA
  show Gd A E 8 (QM A E wI tT) (f_X9_walks_ E n S h0 x1 x2 x3 x4 x5) S 0 [(0, .ref h0), (1, .int x1), (2, .int x2), (3, .int x3), (4, .int x4), (5, .int x5)] []
  unfold f_X9_walks_
  refine r_iload_n C 1 dX9_walks__0 rfl ?_
  refine r_callS (As := [.int x1]) (rest := []) C (c_X9_isSeed _ E n x1 ) dX9_walks__1 ml_X9_473 mv_X9_isSeed rfl rfl ⟨by decide, by decide⟩ (Nat.le_of_ble_eq_true rfl) (fun v2 S1 hv2 => ?_)
  refine r_if_eq C 31 dX9_walks__4 (by decide) ?_ ?_
  · refine r_bipush C (-2 : Int32) dX9_walks__31 (by decide) ?_
    exact r_ireturn C X dX9_walks__33
  · refine r_iload_n C 2 dX9_walks__7 rfl ?_
    refine r_i2l C dX9_walks__8 ?_
    refine r_lconst C (1 : Int64) dX9_walks__9 (by decide) ?_
    refine r_ldc2 C (20 : Int64) (mG 1929 (by decide +kernel) rfl) dX9_walks__10 ?_
    refine r_callS (As := [.long (x2.toInt64), .long (1 : Int64), .long (20 : Int64)]) (rest := []) C (c_X9_in _ E n (x2.toInt64) (1 : Int64) (20 : Int64) ) dX9_walks__13 ml_X9_82 mv_X9_in rfl rfl ⟨by decide, by decide⟩ (Nat.le_of_ble_eq_true rfl) (fun v4 S3 hv4 => ?_)
    refine r_if_eq C 31 dX9_walks__16 (by decide) ?_ ?_
    · refine r_bipush C (-2 : Int32) dX9_walks__31 (by decide) ?_
      exact r_ireturn C X dX9_walks__33
    · refine r_aload_n C 0 dX9_walks__19 rfl ?_
      refine r_iload_n C 3 dX9_walks__20 rfl ?_
      refine r_iload C 4 dX9_walks__21 rfl ?_
      refine r_iload C 5 dX9_walks__23 rfl ?_
      refine r_callV (As := [.int x3, .int x4, .int x5]) (rest := []) C (c_X9_isAsked _ E n h0 x3 x4 x5 th0) dX9_walks__25 ml_X9_373 mv_X9_isAsked ⟨TX9, _, rfl⟩ (by decide) th0 rfl rfl ⟨by decide, by decide⟩ (Nat.le_of_ble_eq_true rfl) (fun v6 S5 hv6 => ?_)
      refine r_if_ne C 34 dX9_walks__28 (by decide) ?_ ?_
      · refine r_aload_n C 0 dX9_walks__34 rfl ?_
        refine r_iload_n C 3 dX9_walks__35 rfl ?_
        refine r_iload C 4 dX9_walks__36 rfl ?_
        refine r_iload C 5 dX9_walks__38 rfl ?_
        refine r_callV (As := [.int x3, .int x4, .int x5]) (rest := []) C (c_X9_allWays _ E n h0 x3 x4 x5 th0) dX9_walks__40 ml_X9_376 mv_X9_allWays ⟨TX9, _, rfl⟩ (by decide) th0 rfl rfl ⟨by decide, by decide⟩ (Nat.le_of_ble_eq_true rfl) (fun v8 S7 hv8 => ?_)
        refine r_aload_n C 0 dX9_walks__43 rfl ?_
        refine r_geti C fl_X9_351 dX9_walks__44 th0 ?_
        refine r_if_ne C 52 dX9_walks__47 (by decide) ?_ ?_
        · refine r_iconst C (0 : Int32) dX9_walks__52 (by decide) ?_
          refine r_istore C [(6, .int (0 : Int32)), (0, .ref h0), (1, .int x1), (2, .int x2), (3, .int x3), (4, .int x4), (5, .int x5)] dX9_walks__53 (by decide) rfl ?_
          refine r_iconst C (0 : Int32) dX9_walks__55 (by decide) ?_
          refine r_istore C [(7, .int (0 : Int32)), (6, .int (0 : Int32)), (0, .ref h0), (1, .int x1), (2, .int x2), (3, .int x3), (4, .int x4), (5, .int x5)] dX9_walks__56 (by decide) rfl ?_
          refine r_sub [2, 3, 4, 6, 7, 1, 0] [(0, .ref h0), (1, .int x1), (2, .int x2), (4, .int x4), (5, .int x5), (6, .int (0 : Int32)), (7, .int (0 : Int32))] rfl ?_
          exact p_X9_walks__L58 C X  n S7 h0 x1 x2 x4 x5 (0 : Int32) (0 : Int32) th0
        · refine r_iconst C (-1 : Int32) dX9_walks__50 (by decide) ?_
          exact r_ireturn C X dX9_walks__51
      · refine r_bipush C (-2 : Int32) dX9_walks__31 (by decide) ?_
        exact r_ireturn C X dX9_walks__33
set_option maxRecDepth 100000 in
set_option maxHeartbeats 4000000 in
theorem p_X9_count_L150 {A : AM} {E : EN} {n : Nat} (C : Cx A E cX9_count 4 RX9 1 21) (X : Ex A E (some .int))  : ∀ (m : Nat) (S : WS) (h0 : Nat) (x2 : Int32) (x3 : Int32) (th0 : Ty E h0 8), Gd A E 4 (QM A E wI tT) (f_X9_count_L150 E n  m S h0 x2 x3) S 150 [(0, .ref h0), (2, .int x2), (3, .int x3)] [] := by
  intro m
  induction m with
  | zero => intros; exact gn
  | succ m ih =>
    intro S h0 x2 x3 th0
    unfold f_X9_count_L150
    refine r_iload_n C 2 dX9_count_150 rfl ?_
    refine r_iconst C (4 : Int32) dX9_count_151 (by decide) ?_
    refine r_icmp_ge C 179 dX9_count_152 (by decide) ?_ ?_
    · refine r_iload_n C 1 dX9_count_179 rfl ?_
      exact r_ireturn C X dX9_count_180
    · refine r_iload_n C 1 dX9_count_155 rfl ?_
      refine r_aload_n C 0 dX9_count_156 rfl ?_
      refine r_getr C fl_X9_65 dX9_count_157 th0 (fun b1 tb1 => ?_)
      refine r_iload_n C 2 dX9_count_160 rfl ?_
      refine r_iald C dX9_count_161 tb1 ?_
      refine r_iconst C (-1 : Int32) dX9_count_162 (by decide) ?_
      refine r_icmp_ne C 170 dX9_count_163 (by decide) ?_ ?_
      · refine r_iconst C (1 : Int32) dX9_count_170 (by decide) ?_
        refine r_iadd C dX9_count_171 ?_
        refine r_topi (fun y2 => ?_)
        refine r_istore_n C [(2, .int y2), (0, .ref h0), (3, .int x3)] dX9_count_172 (by decide) rfl ?_
        refine r_iinc C 2 (fun y3 => [(3, .int y3), (2, .int y2), (0, .ref h0)]) dX9_count_173 rfl (v := (1 : Int32)) (by decide) (by decide) (fun _ => rfl) (fun y3 => ?_)
        refine r_goto C 150 dX9_count_176 (by decide) ?_
        refine r_sub [2, 1, 0] [(0, .ref h0), (2, .int y2), (3, .int y3)] rfl ?_
        exact ih S h0 y2 y3 th0
      · refine r_iconst C (0 : Int32) dX9_count_166 (by decide) ?_
        refine r_goto C 171 dX9_count_167 (by decide) ?_
        refine r_iadd C dX9_count_171 ?_
        refine r_topi (fun y4 => ?_)
        refine r_istore_n C [(2, .int y4), (0, .ref h0), (3, .int x3)] dX9_count_172 (by decide) rfl ?_
        refine r_iinc C 2 (fun y5 => [(3, .int y5), (2, .int y4), (0, .ref h0)]) dX9_count_173 rfl (v := (1 : Int32)) (by decide) (by decide) (fun _ => rfl) (fun y5 => ?_)
        refine r_goto C 150 dX9_count_176 (by decide) ?_
        refine r_sub [2, 1, 0] [(0, .ref h0), (2, .int y4), (3, .int y5)] rfl ?_
        exact ih S h0 y4 y5 th0
set_option maxRecDepth 100000 in
set_option maxHeartbeats 4000000 in
theorem p_X9_count_L111 {A : AM} {E : EN} {n : Nat} (C : Cx A E cX9_count 4 RX9 1 21) (X : Ex A E (some .int))  : ∀ (m : Nat) (S : WS) (h0 : Nat) (x2 : Int32) (x3 : Int32) (th0 : Ty E h0 8), Gd A E 4 (QM A E wI tT) (f_X9_count_L111 E n  m S h0 x2 x3) S 111 [(0, .ref h0), (2, .int x2), (3, .int x3)] [] := by
  intro m
  induction m with
  | zero => intros; exact gn
  | succ m ih =>
    intro S h0 x2 x3 th0
    unfold f_X9_count_L111
    refine r_iload_n C 2 dX9_count_111 rfl ?_
    refine r_aload_n C 0 dX9_count_112 rfl ?_
    refine r_getr C fl_X9_9 dX9_count_113 th0 (fun b1 tb1 => ?_)
    refine r_iconst C (4 : Int32) dX9_count_116 (by decide) ?_
    refine r_iald C dX9_count_117 tb1 ?_
    refine r_icmp_ge C 146 dX9_count_118 (by decide) ?_ ?_
    · refine r_iload_n C 1 dX9_count_146 rfl ?_
      exact r_ireturn C X dX9_count_147
    · refine r_iload_n C 1 dX9_count_121 rfl ?_
      refine r_aload_n C 0 dX9_count_122 rfl ?_
      refine r_iload_n C 2 dX9_count_123 rfl ?_
      refine r_callV (As := [.int x3]) (rest := [.int x2]) C (c_X9_courts _ E n h0 x3 th0) dX9_count_124 ml_X9_234 mv_X9_courts ⟨TX9, _, rfl⟩ (by decide) th0 rfl rfl ⟨by decide, by decide⟩ (Nat.le_of_ble_eq_true rfl) (fun v3 S2 hv3 => ?_)
      refine r_iconst C (-1 : Int32) dX9_count_127 (by decide) ?_
      refine r_icmp_ne C 135 dX9_count_128 (by decide) ?_ ?_
      · refine r_iconst C (1 : Int32) dX9_count_135 (by decide) ?_
        refine r_iload_n C 2 dX9_count_136 rfl ?_
        refine r_ishl C dX9_count_137 ?_
        refine r_ior C dX9_count_138 ?_
        refine r_topi (fun y4 => ?_)
        refine r_istore_n C [(2, .int y4), (0, .ref h0), (3, .int x3)] dX9_count_139 (by decide) rfl ?_
        refine r_iinc C 2 (fun y5 => [(3, .int y5), (2, .int y4), (0, .ref h0)]) dX9_count_140 rfl (v := (1 : Int32)) (by decide) (by decide) (fun _ => rfl) (fun y5 => ?_)
        refine r_goto C 111 dX9_count_143 (by decide) ?_
        refine r_sub [2, 1, 0] [(0, .ref h0), (2, .int y4), (3, .int y5)] rfl ?_
        exact ih S2 h0 y4 y5 th0
      · refine r_iconst C (0 : Int32) dX9_count_131 (by decide) ?_
        refine r_goto C 138 dX9_count_132 (by decide) ?_
        refine r_ior C dX9_count_138 ?_
        refine r_topi (fun y6 => ?_)
        refine r_istore_n C [(2, .int y6), (0, .ref h0), (3, .int x3)] dX9_count_139 (by decide) rfl ?_
        refine r_iinc C 2 (fun y7 => [(3, .int y7), (2, .int y6), (0, .ref h0)]) dX9_count_140 rfl (v := (1 : Int32)) (by decide) (by decide) (fun _ => rfl) (fun y7 => ?_)
        refine r_goto C 111 dX9_count_143 (by decide) ?_
        refine r_sub [2, 1, 0] [(0, .ref h0), (2, .int y6), (3, .int y7)] rfl ?_
        exact ih S2 h0 y6 y7 th0
set_option maxRecDepth 100000 in
set_option maxHeartbeats 4000000 in
theorem c_X9_count (l : Launch) (E : EN) (n : Nat) (h0 : Nat) (x1 : Int32) (th0 : Ty E h0 8) : CT l E yX9_count cX9_count 4 (some .int) 1 21 wI tT [.ref h0, .int x1] (fun S => f_X9_count E n S h0 x1) := by
  refine ct_of RX9 (by decide +kernel) rfl [(0, .ref h0), (1, .int x1)] rfl (Nat.le_of_ble_eq_true rfl) (fun A S hA C X => ?_)
  subst hA
  show Gd A E 4 (QM A E wI tT) (f_X9_count E n S h0 x1) S 0 [(0, .ref h0), (1, .int x1)] []
  unfold f_X9_count
  refine r_iconst C (0 : Int32) dX9_count_0 (by decide) ?_
  refine r_istore_n C [(2, .int (0 : Int32)), (0, .ref h0), (1, .int x1)] dX9_count_1 (by decide) rfl ?_
  refine r_iload_n C 2 dX9_count_2 rfl ?_
  refine r_ite (fun hs0 => ?_) (fun hs0 => ?_)
  · refine r_swIn C 0 56 dX9_count_3 (by rw [hs0]; rfl) (by decide) (by decide) rfl (by decide) ?_
    refine r_aload_n C 1 dX9_count_56 rfl ?_
    refine r_callV (As := []) (rest := []) C (c_X9_places _ E n h0 th0) dX9_count_57 ml_X9_86 mv_X9_places ⟨TX9, _, rfl⟩ (by decide) th0 rfl rfl ⟨by decide, by decide⟩ (Nat.le_of_ble_eq_true rfl) (fun v2 S1 hv2 => ?_)
    exact r_ireturn C X dX9_count_60
  refine r_ite (fun hs1 => ?_) (fun hs1 => ?_)
  · refine r_swIn C 1 61 dX9_count_3 (by rw [hs1]; rfl) (by decide) (by decide) rfl (by decide) ?_
    refine r_aload_n C 1 dX9_count_61 rfl ?_
    refine r_getr C fl_X9_9 dX9_count_62 th0 (fun b3 tb3 => ?_)
    refine r_iconst C (1 : Int32) dX9_count_65 (by decide) ?_
    refine r_iald C dX9_count_66 tb3 ?_
    exact r_ireturn C X dX9_count_67
  refine r_ite (fun hs2 => ?_) (fun hs2 => ?_)
  · refine r_swIn C 2 68 dX9_count_3 (by rw [hs2]; rfl) (by decide) (by decide) rfl (by decide) ?_
    refine r_aload_n C 1 dX9_count_68 rfl ?_
    refine r_getr C fl_X9_9 dX9_count_69 th0 (fun b4 tb4 => ?_)
    refine r_iconst C (2 : Int32) dX9_count_72 (by decide) ?_
    refine r_iald C dX9_count_73 tb4 ?_
    exact r_ireturn C X dX9_count_74
  refine r_ite (fun hs3 => ?_) (fun hs3 => ?_)
  · refine r_swIn C 3 75 dX9_count_3 (by rw [hs3]; rfl) (by decide) (by decide) rfl (by decide) ?_
    refine r_aload_n C 1 dX9_count_75 rfl ?_
    refine r_getr C fl_X9_9 dX9_count_76 th0 (fun b5 tb5 => ?_)
    refine r_iconst C (3 : Int32) dX9_count_79 (by decide) ?_
    refine r_iald C dX9_count_80 tb5 ?_
    exact r_ireturn C X dX9_count_81
  refine r_ite (fun hs4 => ?_) (fun hs4 => ?_)
  · refine r_swIn C 4 82 dX9_count_3 (by rw [hs4]; rfl) (by decide) (by decide) rfl (by decide) ?_
    refine r_aload_n C 1 dX9_count_82 rfl ?_
    refine r_getr C fl_X9_9 dX9_count_83 th0 (fun b6 tb6 => ?_)
    refine r_iconst C (4 : Int32) dX9_count_86 (by decide) ?_
    refine r_iald C dX9_count_87 tb6 ?_
    exact r_ireturn C X dX9_count_88
  refine r_ite (fun hs5 => ?_) (fun hs5 => ?_)
  · refine r_swIn C 5 89 dX9_count_3 (by rw [hs5]; rfl) (by decide) (by decide) rfl (by decide) ?_
    refine r_aload_n C 1 dX9_count_89 rfl ?_
    refine r_getr C fl_X9_9 dX9_count_90 th0 (fun b7 tb7 => ?_)
    refine r_iconst C (5 : Int32) dX9_count_93 (by decide) ?_
    refine r_iald C dX9_count_94 tb7 ?_
    exact r_ireturn C X dX9_count_95
  refine r_ite (fun hs6 => ?_) (fun hs6 => ?_)
  · refine r_swIn C 6 96 dX9_count_3 (by rw [hs6]; rfl) (by decide) (by decide) rfl (by decide) ?_
    refine r_aload_n C 1 dX9_count_96 rfl ?_
    refine r_getr C fl_X9_9 dX9_count_97 th0 (fun b8 tb8 => ?_)
    refine r_bipush C (6 : Int32) dX9_count_100 (by decide) ?_
    refine r_iald C dX9_count_102 tb8 ?_
    exact r_ireturn C X dX9_count_103
  refine r_ite (fun hs7 => ?_) (fun hs7 => ?_)
  · refine r_swIn C 7 104 dX9_count_3 (by rw [hs7]; rfl) (by decide) (by decide) rfl (by decide) ?_
    refine r_aload_n C 1 dX9_count_104 rfl ?_
    refine r_geti C fl_X9_100 dX9_count_105 th0 ?_
    exact r_ireturn C X dX9_count_108
  refine r_ite (fun hs8 => ?_) (fun hs8 => ?_)
  · refine r_swIn C 8 109 dX9_count_3 (by rw [hs8]; rfl) (by decide) (by decide) rfl (by decide) ?_
    refine r_iconst C (0 : Int32) dX9_count_109 (by decide) ?_
    refine r_istore_n C [(3, .int (0 : Int32)), (2, .int (0 : Int32)), (0, .ref h0), (1, .int x1)] dX9_count_110 (by decide) rfl ?_
    refine r_sub [2, 1, 0] [(0, .ref h0), (2, .int (0 : Int32)), (3, .int (0 : Int32))] rfl ?_
    exact p_X9_count_L111 C X  n S h0 (0 : Int32) (0 : Int32) th0
  refine r_ite (fun hs9 => ?_) (fun hs9 => ?_)
  · refine r_swIn C 9 148 dX9_count_3 (by rw [hs9]; rfl) (by decide) (by decide) rfl (by decide) ?_
    refine r_iconst C (0 : Int32) dX9_count_148 (by decide) ?_
    refine r_istore_n C [(3, .int (0 : Int32)), (2, .int (0 : Int32)), (0, .ref h0), (1, .int x1)] dX9_count_149 (by decide) rfl ?_
    refine r_sub [2, 1, 0] [(0, .ref h0), (2, .int (0 : Int32)), (3, .int (0 : Int32))] rfl ?_
    exact p_X9_count_L150 C X  n S h0 (0 : Int32) (0 : Int32) th0
  refine r_swOut C 181 dX9_count_3 (by have z0 := lv_neT hs0 (a := 0) rfl; have z1 := lv_neT hs1 (a := 1) rfl; have z2 := lv_neT hs2 (a := 2) rfl; have z3 := lv_neT hs3 (a := 3) rfl; have z4 := lv_neT hs4 (a := 4) rfl; have z5 := lv_neT hs5 (a := 5) rfl; have z6 := lv_neT hs6 (a := 6) rfl; have z7 := lv_neT hs7 (a := 7) rfl; have z8 := lv_neT hs8 (a := 8) rfl; have z9 := lv_neT hs9 (a := 9) rfl;  omega) (by decide) ?_
  refine r_iconst C (-1 : Int32) dX9_count_181 (by decide) ?_
  exact r_ireturn C X dX9_count_182
set_option maxRecDepth 100000 in
set_option maxHeartbeats 4000000 in
theorem c_X9_isSlot (l : Launch) (E : EN) (n : Nat) (x0 : Int32) : CT l E yX9_isSlot cX9_isSlot 1 (some .boolean) 1 25 wI tT [.int x0] (fun S => f_X9_isSlot E n S x0) := by
  refine ct_of RX9 (by decide +kernel) rfl [(0, .int x0)] rfl (Nat.le_of_ble_eq_true rfl) (fun A S hA C X => ?_)
  subst hA
  show Gd A E 1 (QM A E wI tT) (f_X9_isSlot E n S x0) S 0 [(0, .int x0)] []
  unfold f_X9_isSlot
  refine r_iload_n C 0 dX9_isSlot_0 rfl ?_
  refine r_i2l C dX9_isSlot_1 ?_
  refine r_lconst C (0 : Int64) dX9_isSlot_2 (by decide) ?_
  refine r_ldc2 C (3 : Int64) (mG 1542 (by decide +kernel) rfl) dX9_isSlot_3 ?_
  refine r_callS (As := [.long (x0.toInt64), .long (0 : Int64), .long (3 : Int64)]) (rest := []) C (c_X9_in _ E n (x0.toInt64) (0 : Int64) (3 : Int64) ) dX9_isSlot_6 ml_X9_82 mv_X9_in rfl rfl ⟨by decide, by decide⟩ (Nat.le_of_ble_eq_true rfl) (fun v2 S1 hv2 => ?_)
  exact r_zreturnc C X dX9_isSlot_9
set_option maxRecDepth 100000 in
set_option maxHeartbeats 4000000 in
theorem c_X9_cut (l : Launch) (E : EN) (n : Nat) (x0 : Int64) (x2 : Int32) : CT l E yX9_cut cX9_cut 4 (some .long) 0 0 wJ tT [.long x0, .int x2] (fun S => f_X9_cut E n S x0 x2) := by
  refine ct_of RX9 (by decide +kernel) rfl [(0, .long x0), (2, .int x2)] rfl (Nat.le_of_ble_eq_true rfl) (fun A S hA C X => ?_)
  subst hA
  show Gd A E 4 (QM A E wJ tT) (f_X9_cut E n S x0 x2) S 0 [(0, .long x0), (2, .int x2)] []
  unfold f_X9_cut
  refine r_bipush C (64 : Int32) dX9_cut_0 (by decide) ?_
  refine r_bipush C (8 : Int32) dX9_cut_2 (by decide) ?_
  refine r_iload_n C 1 dX9_cut_4 rfl ?_
  refine r_ishl C dX9_cut_5 ?_
  refine r_isub C dX9_cut_6 ?_
  refine r_topi (fun y1 => ?_)
  refine r_istore_n C [(3, .int y1), (0, .long x0), (2, .int x2)] dX9_cut_7 (by decide) rfl ?_
  refine r_lload_n C 1 dX9_cut_8 rfl ?_
  refine r_iload_n C 0 dX9_cut_9 rfl ?_
  refine r_lshl C dX9_cut_10 ?_
  refine r_iload_n C 0 dX9_cut_11 rfl ?_
  refine r_lshr C dX9_cut_12 ?_
  exact r_lreturn C X dX9_cut_13
set_option maxRecDepth 100000 in
set_option maxHeartbeats 4000000 in
theorem p_X9_row_L52 {A : AM} {E : EN} {n : Nat} (C : Cx A E cX9_row 5 RX9 2 45) (X : Ex A E (some .int))  : ∀ (m : Nat) (S : WS) (h0 : Nat) (x1 : Int32) (x4 : Int32) (th0 : Ty E h0 8), Gd A E 5 (QM A E wI tT) (f_X9_row_L52 E n  m S h0 x1 x4) S 52 [(0, .ref h0), (1, .int x1), (4, .int x4)] [] := by
  intro m
  induction m with
  | zero => intros; exact gn
  | succ m ih =>
    intro S h0 x1 x4 th0
    unfold f_X9_row_L52
    refine r_iload C 2 dX9_row_52 rfl ?_
    refine r_bipush C (60 : Int32) dX9_row_54 (by decide) ?_
    refine r_icmp_ge C 78 dX9_row_56 (by decide) ?_ ?_
    · refine r_iconst C (0 : Int32) dX9_row_78 (by decide) ?_
      exact r_ireturn C X dX9_row_79
    · refine r_aload_n C 0 dX9_row_59 rfl ?_
      refine r_getr C fl_X9_71 dX9_row_60 th0 (fun b1 tb1 => ?_)
      refine r_bipush C (60 : Int32) dX9_row_63 (by decide) ?_
      refine r_iload_n C 1 dX9_row_65 rfl ?_
      refine r_imul C dX9_row_66 ?_
      refine r_iload C 2 dX9_row_67 rfl ?_
      refine r_iadd C dX9_row_69 ?_
      refine r_lconst C (0 : Int64) dX9_row_70 (by decide) ?_
      refine r_last C dX9_row_71 tb1 (fun S2 => ?_)
      refine r_iinc C 2 (fun y3 => [(4, .int y3), (0, .ref h0), (1, .int x1)]) dX9_row_72 rfl (v := (1 : Int32)) (by decide) (by decide) (fun _ => rfl) (fun y3 => ?_)
      refine r_goto C 52 dX9_row_75 (by decide) ?_
      refine r_sub [1, 2, 0] [(0, .ref h0), (1, .int x1), (4, .int y3)] rfl ?_
      exact ih S2 h0 x1 y3 th0
set_option maxRecDepth 100000 in
set_option maxHeartbeats 4000000 in
theorem c_X9_row (l : Launch) (E : EN) (n : Nat) (h0 : Nat) (x1 : Int32) (x2 : Int32) (x3 : Int32) (th0 : Ty E h0 8) : CT l E yX9_row cX9_row 5 (some .int) 2 45 wI tT [.ref h0, .int x1, .int x2, .int x3] (fun S => f_X9_row E n S h0 x1 x2 x3) := by
  refine ct_of RX9 (by decide +kernel) rfl [(0, .ref h0), (1, .int x1), (2, .int x2), (3, .int x3)] rfl (Nat.le_of_ble_eq_true rfl) (fun A S hA C X => ?_)
  subst hA
  show Gd A E 5 (QM A E wI tT) (f_X9_row E n S h0 x1 x2 x3) S 0 [(0, .ref h0), (1, .int x1), (2, .int x2), (3, .int x3)] []
  unfold f_X9_row
  refine r_iload_n C 1 dX9_row_0 rfl ?_
  refine r_callS (As := [.int x1]) (rest := []) C (c_X9_isSlot _ E n x1 ) dX9_row_1 ml_X9_420 mv_X9_isSlot rfl rfl ⟨by decide, by decide⟩ (Nat.le_of_ble_eq_true rfl) (fun v2 S1 hv2 => ?_)
  refine r_if_eq C 25 dX9_row_4 (by decide) ?_ ?_
  · refine r_bipush C (-2 : Int32) dX9_row_25 (by decide) ?_
    exact r_ireturn C X dX9_row_27
  · refine r_iload_n C 2 dX9_row_7 rfl ?_
    refine r_i2l C dX9_row_8 ?_
    refine r_lconst C (0 : Int64) dX9_row_9 (by decide) ?_
    refine r_ldc2 C (3 : Int64) (mG 1542 (by decide +kernel) rfl) dX9_row_10 ?_
    refine r_callS (As := [.long (x2.toInt64), .long (0 : Int64), .long (3 : Int64)]) (rest := []) C (c_X9_in _ E n (x2.toInt64) (0 : Int64) (3 : Int64) ) dX9_row_13 ml_X9_82 mv_X9_in rfl rfl ⟨by decide, by decide⟩ (Nat.le_of_ble_eq_true rfl) (fun v4 S3 hv4 => ?_)
    refine r_if_eq C 25 dX9_row_16 (by decide) ?_ ?_
    · refine r_bipush C (-2 : Int32) dX9_row_25 (by decide) ?_
      exact r_ireturn C X dX9_row_27
    · refine r_iload_n C 3 dX9_row_19 rfl ?_
      refine r_bipush C (60 : Int32) dX9_row_20 (by decide) ?_
      refine r_icmp_le C 28 dX9_row_22 (by decide) ?_ ?_
      · refine r_iload_n C 3 dX9_row_28 rfl ?_
        refine r_if_ge C 35 dX9_row_29 (by decide) ?_ ?_
        · refine r_aload_n C 0 dX9_row_35 rfl ?_
          refine r_getr C fl_X9_65 dX9_row_36 th0 (fun b5 tb5 => ?_)
          refine r_iload_n C 1 dX9_row_39 rfl ?_
          refine r_iload_n C 3 dX9_row_40 rfl ?_
          refine r_iast C dX9_row_41 tb5 (fun S6 => ?_)
          refine r_aload_n C 0 dX9_row_42 rfl ?_
          refine r_getr C fl_X9_68 dX9_row_43 th0 (fun b7 tb7 => ?_)
          refine r_iload_n C 1 dX9_row_46 rfl ?_
          refine r_iload_n C 2 dX9_row_47 rfl ?_
          refine r_iast C dX9_row_48 tb7 (fun S8 => ?_)
          refine r_iconst C (0 : Int32) dX9_row_49 (by decide) ?_
          refine r_istore C [(4, .int (0 : Int32)), (0, .ref h0), (1, .int x1), (2, .int x2), (3, .int x3)] dX9_row_50 (by decide) rfl ?_
          refine r_sub [1, 2, 0] [(0, .ref h0), (1, .int x1), (4, .int (0 : Int32))] rfl ?_
          exact p_X9_row_L52 C X  n S8 h0 x1 (0 : Int32) th0
        · refine r_bipush C (-3 : Int32) dX9_row_32 (by decide) ?_
          exact r_ireturn C X dX9_row_34
      · refine r_bipush C (-2 : Int32) dX9_row_25 (by decide) ?_
        exact r_ireturn C X dX9_row_27
set_option maxRecDepth 100000 in
set_option maxHeartbeats 4000000 in
theorem c_X9_write (l : Launch) (E : EN) (n : Nat) (h0 : Nat) (x1 : Int32) (x2 : Int32) (x3 : Int64) (th0 : Ty E h0 8) : CT l E yX9_write cX9_write 5 (some .int) 2 45 wI tT [.ref h0, .int x1, .int x2, .long x3] (fun S => f_X9_write E n S h0 x1 x2 x3) := by
  refine ct_of RX9 (by decide +kernel) rfl [(0, .ref h0), (1, .int x1), (2, .int x2), (3, .long x3)] rfl (Nat.le_of_ble_eq_true rfl) (fun A S hA C X => ?_)
  subst hA
  show Gd A E 5 (QM A E wI tT) (f_X9_write E n S h0 x1 x2 x3) S 0 [(0, .ref h0), (1, .int x1), (2, .int x2), (3, .long x3)] []
  unfold f_X9_write
  refine r_iload_n C 1 dX9_write_0 rfl ?_
  refine r_callS (As := [.int x1]) (rest := []) C (c_X9_isSlot _ E n x1 ) dX9_write_1 ml_X9_420 mv_X9_isSlot rfl rfl ⟨by decide, by decide⟩ (Nat.le_of_ble_eq_true rfl) (fun v2 S1 hv2 => ?_)
  refine r_if_ne C 10 dX9_write_4 (by decide) ?_ ?_
  · refine r_aload_n C 0 dX9_write_10 rfl ?_
    refine r_getr C fl_X9_65 dX9_write_11 th0 (fun b3 tb3 => ?_)
    refine r_iload_n C 1 dX9_write_14 rfl ?_
    refine r_iald C dX9_write_15 tb3 ?_
    refine r_iconst C (-1 : Int32) dX9_write_16 (by decide) ?_
    refine r_icmp_ne C 23 dX9_write_17 (by decide) ?_ ?_
    · refine r_iload_n C 2 dX9_write_23 rfl ?_
      refine r_i2l C dX9_write_24 ?_
      refine r_lconst C (0 : Int64) dX9_write_25 (by decide) ?_
      refine r_aload_n C 0 dX9_write_26 rfl ?_
      refine r_getr C fl_X9_65 dX9_write_27 th0 (fun b4 tb4 => ?_)
      refine r_iload_n C 1 dX9_write_30 rfl ?_
      refine r_iald C dX9_write_31 tb4 ?_
      refine r_iconst C (1 : Int32) dX9_write_32 (by decide) ?_
      refine r_isub C dX9_write_33 ?_
      refine r_i2l C dX9_write_34 ?_
      refine r_callS (As := [.long (x2.toInt64), .long (0 : Int64), .long (((ai S1 b4 x1.toNatClampNeg) - (1 : Int32)).toInt64)]) (rest := []) C (c_X9_in _ E n (x2.toInt64) (0 : Int64) (((ai S1 b4 x1.toNatClampNeg) - (1 : Int32)).toInt64) ) dX9_write_35 ml_X9_82 mv_X9_in rfl rfl ⟨by decide, by decide⟩ (Nat.le_of_ble_eq_true rfl) (fun v6 S5 hv6 => ?_)
      refine r_if_ne C 44 dX9_write_38 (by decide) ?_ ?_
      · refine r_aload_n C 0 dX9_write_44 rfl ?_
        refine r_getr C fl_X9_71 dX9_write_45 th0 (fun b7 tb7 => ?_)
        refine r_bipush C (60 : Int32) dX9_write_48 (by decide) ?_
        refine r_iload_n C 1 dX9_write_50 rfl ?_
        refine r_imul C dX9_write_51 ?_
        refine r_iload_n C 2 dX9_write_52 rfl ?_
        refine r_iadd C dX9_write_53 ?_
        refine r_lload_n C 3 dX9_write_54 rfl ?_
        refine r_aload_n C 0 dX9_write_55 rfl ?_
        refine r_getr C fl_X9_68 dX9_write_56 th0 (fun b8 tb8 => ?_)
        refine r_iload_n C 1 dX9_write_59 rfl ?_
        refine r_iald C dX9_write_60 tb8 ?_
        refine r_callS (As := [.long x3, .int (ai S5 b8 x1.toNatClampNeg)]) (rest := [.int (((60 : Int32) * x1) + x2), .ref b7]) C (c_X9_cut _ E n x3 (ai S5 b8 x1.toNatClampNeg) ) dX9_write_61 ml_X9_482 mv_X9_cut rfl rfl ⟨by decide, by decide⟩ (Nat.le_of_ble_eq_true rfl) (fun v10 S9 hv10 => ?_)
        refine r_last C dX9_write_64 tb7 (fun S11 => ?_)
        refine r_iconst C (0 : Int32) dX9_write_65 (by decide) ?_
        exact r_ireturn C X dX9_write_66
      · refine r_bipush C (-7 : Int32) dX9_write_41 (by decide) ?_
        exact r_ireturn C X dX9_write_43
    · refine r_bipush C (-6 : Int32) dX9_write_20 (by decide) ?_
      exact r_ireturn C X dX9_write_22
  · refine r_bipush C (-2 : Int32) dX9_write_7 (by decide) ?_
    exact r_ireturn C X dX9_write_9
set_option maxRecDepth 100000 in
set_option maxHeartbeats 4000000 in
theorem p_X9_paste_L150 {A : AM} {E : EN} {n : Nat} (C : Cx A E cX9_paste 7 RX9 2 45) (X : Ex A E (some .int))  : ∀ (m : Nat) (S : WS) (h0 : Nat) (x3 : Int32) (x4 : Int32) (x5 : Int32) (x6 : Int32) (th0 : Ty E h0 8), Gd A E 7 (QM A E wI tT) (f_X9_paste_L150 E n  m S h0 x3 x4 x5 x6) S 150 [(0, .ref h0), (3, .int x3), (4, .int x4), (5, .int x5), (6, .int x6)] [] := by
  intro m
  induction m with
  | zero => intros; exact gn
  | succ m ih =>
    intro S h0 x3 x4 x5 x6 th0
    unfold f_X9_paste_L150
    refine r_iload C 4 dX9_paste_150 rfl ?_
    refine r_iload C 3 dX9_paste_152 rfl ?_
    refine r_icmp_ge C 185 dX9_paste_154 (by decide) ?_ ?_
    · refine r_iconst C (0 : Int32) dX9_paste_185 (by decide) ?_
      exact r_ireturn C X dX9_paste_186
    · refine r_aload_n C 0 dX9_paste_157 rfl ?_
      refine r_getr C fl_X9_71 dX9_paste_158 th0 (fun b1 tb1 => ?_)
      refine r_bipush C (60 : Int32) dX9_paste_161 (by decide) ?_
      refine r_iload_n C 1 dX9_paste_163 rfl ?_
      refine r_imul C dX9_paste_164 ?_
      refine r_iload C 2 dX9_paste_165 rfl ?_
      refine r_iadd C dX9_paste_167 ?_
      refine r_iload C 4 dX9_paste_168 rfl ?_
      refine r_iadd C dX9_paste_170 ?_
      refine r_aload_n C 0 dX9_paste_171 rfl ?_
      refine r_getr C fl_X9_74 dX9_paste_172 th0 (fun b2 tb2 => ?_)
      refine r_iload C 4 dX9_paste_175 rfl ?_
      refine r_lald C dX9_paste_177 tb2 ?_
      refine r_last C dX9_paste_178 tb1 (fun S3 => ?_)
      refine r_iinc C 4 (fun y4 => [(6, .int y4), (0, .ref h0), (3, .int x3), (4, .int x4), (5, .int x5)]) dX9_paste_179 rfl (v := (1 : Int32)) (by decide) (by decide) (fun _ => rfl) (fun y4 => ?_)
      refine r_goto C 150 dX9_paste_182 (by decide) ?_
      refine r_sub [1, 2, 3, 4, 0] [(0, .ref h0), (3, .int x3), (4, .int x4), (5, .int x5), (6, .int y4)] rfl ?_
      exact ih S3 h0 x3 x4 x5 y4 th0
set_option maxRecDepth 100000 in
set_option maxHeartbeats 4000000 in
theorem p_X9_paste_L113 {A : AM} {E : EN} {n : Nat} (C : Cx A E cX9_paste 7 RX9 2 45) (X : Ex A E (some .int))  : ∀ (m : Nat) (S : WS) (h0 : Nat) (x1 : Int32) (x2 : Int32) (x3 : Int32) (x4 : Int32) (x5 : Int32) (x6 : Int32) (th0 : Ty E h0 8), Gd A E 7 (QM A E wI tT) (f_X9_paste_L113 E n  m S h0 x1 x2 x3 x4 x5 x6) S 113 [(0, .ref h0), (1, .int x1), (2, .int x2), (3, .int x3), (4, .int x4), (5, .int x5), (6, .int x6)] [] := by
  intro m
  induction m with
  | zero => intros; exact gn
  | succ m ih =>
    intro S h0 x1 x2 x3 x4 x5 x6 th0
    unfold f_X9_paste_L113
    refine r_iload C 6 dX9_paste_113 rfl ?_
    refine r_iload C 5 dX9_paste_115 rfl ?_
    refine r_icmp_ge C 147 dX9_paste_117 (by decide) ?_ ?_
    · refine r_iconst C (0 : Int32) dX9_paste_147 (by decide) ?_
      refine r_istore C [(6, .int (0 : Int32)), (0, .ref h0), (1, .int x1), (2, .int x2), (3, .int x3), (4, .int x4), (5, .int x5)] dX9_paste_148 (by decide) rfl ?_
      refine r_sub [1, 4, 5, 6, 0] [(0, .ref h0), (3, .int x3), (4, .int x4), (5, .int x5), (6, .int (0 : Int32))] rfl ?_
      exact p_X9_paste_L150 C X  n S h0 x3 x4 x5 (0 : Int32) th0
    · refine r_aload_n C 0 dX9_paste_120 rfl ?_
      refine r_getr C fl_X9_74 dX9_paste_121 th0 (fun b1 tb1 => ?_)
      refine r_iload C 6 dX9_paste_124 rfl ?_
      refine r_aload_n C 0 dX9_paste_126 rfl ?_
      refine r_getr C fl_X9_71 dX9_paste_127 th0 (fun b2 tb2 => ?_)
      refine r_bipush C (60 : Int32) dX9_paste_130 (by decide) ?_
      refine r_iload_n C 1 dX9_paste_132 rfl ?_
      refine r_imul C dX9_paste_133 ?_
      refine r_iload_n C 2 dX9_paste_134 rfl ?_
      refine r_iadd C dX9_paste_135 ?_
      refine r_iload C 6 dX9_paste_136 rfl ?_
      refine r_iadd C dX9_paste_138 ?_
      refine r_lald C dX9_paste_139 tb2 ?_
      refine r_last C dX9_paste_140 tb1 (fun S3 => ?_)
      refine r_iinc C 6 (fun y4 => [(6, .int y4), (0, .ref h0), (1, .int x1), (2, .int x2), (3, .int x3), (4, .int x4), (5, .int x5)]) dX9_paste_141 rfl (v := (1 : Int32)) (by decide) (by decide) (fun _ => rfl) (fun y4 => ?_)
      refine r_goto C 113 dX9_paste_144 (by decide) ?_
      refine r_sub [1, 2, 3, 4, 5, 6, 0] [(0, .ref h0), (1, .int x1), (2, .int x2), (3, .int x3), (4, .int x4), (5, .int x5), (6, .int y4)] rfl ?_
      exact ih S3 h0 x1 x2 x3 x4 x5 y4 th0
set_option maxRecDepth 100000 in
set_option maxHeartbeats 4000000 in
theorem c_X9_paste (l : Launch) (E : EN) (n : Nat) (h0 : Nat) (x1 : Int32) (x2 : Int32) (x3 : Int32) (x4 : Int32) (x5 : Int32) (th0 : Ty E h0 8) : CT l E yX9_paste cX9_paste 7 (some .int) 2 45 wI tT [.ref h0, .int x1, .int x2, .int x3, .int x4, .int x5] (fun S => f_X9_paste E n S h0 x1 x2 x3 x4 x5) := by
  refine ct_of RX9 (by decide +kernel) rfl [(0, .ref h0), (1, .int x1), (2, .int x2), (3, .int x3), (4, .int x4), (5, .int x5)] rfl (Nat.le_of_ble_eq_true rfl) (fun A S hA C X => ?_)
  subst hA
  show Gd A E 7 (QM A E wI tT) (f_X9_paste E n S h0 x1 x2 x3 x4 x5) S 0 [(0, .ref h0), (1, .int x1), (2, .int x2), (3, .int x3), (4, .int x4), (5, .int x5)] []
  unfold f_X9_paste
  refine r_iload_n C 1 dX9_paste_0 rfl ?_
  refine r_callS (As := [.int x1]) (rest := []) C (c_X9_isSlot _ E n x1 ) dX9_paste_1 ml_X9_420 mv_X9_isSlot rfl rfl ⟨by decide, by decide⟩ (Nat.le_of_ble_eq_true rfl) (fun v2 S1 hv2 => ?_)
  refine r_if_eq C 14 dX9_paste_4 (by decide) ?_ ?_
  · refine r_bipush C (-2 : Int32) dX9_paste_14 (by decide) ?_
    exact r_ireturn C X dX9_paste_16
  · refine r_iload_n C 3 dX9_paste_7 rfl ?_
    refine r_callS (As := [.int x3]) (rest := []) C (c_X9_isSlot _ E n x3 ) dX9_paste_8 ml_X9_420 mv_X9_isSlot rfl rfl ⟨by decide, by decide⟩ (Nat.le_of_ble_eq_true rfl) (fun v4 S3 hv4 => ?_)
    refine r_if_ne C 17 dX9_paste_11 (by decide) ?_ ?_
    · refine r_aload_n C 0 dX9_paste_17 rfl ?_
      refine r_getr C fl_X9_65 dX9_paste_18 th0 (fun b5 tb5 => ?_)
      refine r_iload_n C 1 dX9_paste_21 rfl ?_
      refine r_iald C dX9_paste_22 tb5 ?_
      refine r_iconst C (-1 : Int32) dX9_paste_23 (by decide) ?_
      refine r_icmp_eq C 37 dX9_paste_24 (by decide) ?_ ?_
      · refine r_bipush C (-6 : Int32) dX9_paste_37 (by decide) ?_
        exact r_ireturn C X dX9_paste_39
      · refine r_aload_n C 0 dX9_paste_27 rfl ?_
        refine r_getr C fl_X9_65 dX9_paste_28 th0 (fun b6 tb6 => ?_)
        refine r_iload_n C 3 dX9_paste_31 rfl ?_
        refine r_iald C dX9_paste_32 tb6 ?_
        refine r_iconst C (-1 : Int32) dX9_paste_33 (by decide) ?_
        refine r_icmp_ne C 40 dX9_paste_34 (by decide) ?_ ?_
        · refine r_aload_n C 0 dX9_paste_40 rfl ?_
          refine r_getr C fl_X9_68 dX9_paste_41 th0 (fun b7 tb7 => ?_)
          refine r_iload_n C 1 dX9_paste_44 rfl ?_
          refine r_iald C dX9_paste_45 tb7 ?_
          refine r_aload_n C 0 dX9_paste_46 rfl ?_
          refine r_getr C fl_X9_68 dX9_paste_47 th0 (fun b8 tb8 => ?_)
          refine r_iload_n C 3 dX9_paste_50 rfl ?_
          refine r_iald C dX9_paste_51 tb8 ?_
          refine r_icmp_eq C 58 dX9_paste_52 (by decide) ?_ ?_
          · refine r_iload_n C 2 dX9_paste_58 rfl ?_
            refine r_if_lt C 107 dX9_paste_59 (by decide) ?_ ?_
            · refine r_bipush C (-7 : Int32) dX9_paste_107 (by decide) ?_
              exact r_ireturn C X dX9_paste_109
            · refine r_iload C 4 dX9_paste_62 rfl ?_
              refine r_if_lt C 107 dX9_paste_64 (by decide) ?_ ?_
              · refine r_bipush C (-7 : Int32) dX9_paste_107 (by decide) ?_
                exact r_ireturn C X dX9_paste_109
              · refine r_iload C 5 dX9_paste_67 rfl ?_
                refine r_if_lt C 107 dX9_paste_69 (by decide) ?_ ?_
                · refine r_bipush C (-7 : Int32) dX9_paste_107 (by decide) ?_
                  exact r_ireturn C X dX9_paste_109
                · refine r_iload_n C 2 dX9_paste_72 rfl ?_
                  refine r_i2l C dX9_paste_73 ?_
                  refine r_iload C 5 dX9_paste_74 rfl ?_
                  refine r_i2l C dX9_paste_76 ?_
                  refine r_ladd C dX9_paste_77 ?_
                  refine r_aload_n C 0 dX9_paste_78 rfl ?_
                  refine r_getr C fl_X9_65 dX9_paste_79 th0 (fun b9 tb9 => ?_)
                  refine r_iload_n C 1 dX9_paste_82 rfl ?_
                  refine r_iald C dX9_paste_83 tb9 ?_
                  refine r_i2l C dX9_paste_84 ?_
                  refine r_lcmp C dX9_paste_85 ?_
                  refine r_if_gt C 107 dX9_paste_86 (by decide) ?_ ?_
                  · refine r_bipush C (-7 : Int32) dX9_paste_107 (by decide) ?_
                    exact r_ireturn C X dX9_paste_109
                  · refine r_iload C 4 dX9_paste_89 rfl ?_
                    refine r_i2l C dX9_paste_91 ?_
                    refine r_iload C 5 dX9_paste_92 rfl ?_
                    refine r_i2l C dX9_paste_94 ?_
                    refine r_ladd C dX9_paste_95 ?_
                    refine r_aload_n C 0 dX9_paste_96 rfl ?_
                    refine r_getr C fl_X9_65 dX9_paste_97 th0 (fun b10 tb10 => ?_)
                    refine r_iload_n C 3 dX9_paste_100 rfl ?_
                    refine r_iald C dX9_paste_101 tb10 ?_
                    refine r_i2l C dX9_paste_102 ?_
                    refine r_lcmp C dX9_paste_103 ?_
                    refine r_if_le C 110 dX9_paste_104 (by decide) ?_ ?_
                    · refine r_iconst C (0 : Int32) dX9_paste_110 (by decide) ?_
                      refine r_istore C [(6, .int (0 : Int32)), (0, .ref h0), (1, .int x1), (2, .int x2), (3, .int x3), (4, .int x4), (5, .int x5)] dX9_paste_111 (by decide) rfl ?_
                      refine r_sub [1, 2, 3, 4, 5, 6, 0] [(0, .ref h0), (1, .int x1), (2, .int x2), (3, .int x3), (4, .int x4), (5, .int x5), (6, .int (0 : Int32))] rfl ?_
                      exact p_X9_paste_L113 C X  n S3 h0 x1 x2 x3 x4 x5 (0 : Int32) th0
                    · refine r_bipush C (-7 : Int32) dX9_paste_107 (by decide) ?_
                      exact r_ireturn C X dX9_paste_109
          · refine r_bipush C (-8 : Int32) dX9_paste_55 (by decide) ?_
            exact r_ireturn C X dX9_paste_57
        · refine r_bipush C (-6 : Int32) dX9_paste_37 (by decide) ?_
          exact r_ireturn C X dX9_paste_39
    · refine r_bipush C (-2 : Int32) dX9_paste_14 (by decide) ?_
      exact r_ireturn C X dX9_paste_16
set_option maxRecDepth 100000 in
set_option maxHeartbeats 4000000 in
theorem c_J6_bitCount_0f7a4 (l : Launch) (E : EN) (n : Nat) (x0 : Int32) : CT l E yJ6_bitCount_0f7a4 cJ6_bitCount_0f7a4 1 (some .int) 0 0 wI tT [.int x0] (fun S => f_J6_bitCount_0f7a4 E n S x0) := by
  refine ct_of RJ6 (by decide +kernel) rfl [(0, .int x0)] rfl (Nat.le_of_ble_eq_true rfl) (fun A S hA C X => ?_)
  subst hA
  show Gd A E 1 (QM A E wI tT) (f_J6_bitCount_0f7a4 E n S x0) S 0 [(0, .int x0)] []
  unfold f_J6_bitCount_0f7a4
  refine r_iload_n C 0 dJ6_bitCount_0f7a4_0 rfl ?_
  refine r_iload_n C 0 dJ6_bitCount_0f7a4_1 rfl ?_
  refine r_iconst C (1 : Int32) dJ6_bitCount_0f7a4_2 (by decide) ?_
  refine r_iushr C dJ6_bitCount_0f7a4_3 ?_
  refine r_ldc_w C (1431655765 : Int32) (mG 1041 (by decide +kernel) rfl) dJ6_bitCount_0f7a4_4 ?_
  refine r_iand C dJ6_bitCount_0f7a4_7 ?_
  refine r_isub C dJ6_bitCount_0f7a4_8 ?_
  refine r_topi (fun y1 => ?_)
  refine r_istore_n C [(0, .int y1)] dJ6_bitCount_0f7a4_9 (by decide) rfl ?_
  refine r_iload_n C 0 dJ6_bitCount_0f7a4_10 rfl ?_
  refine r_ldc_w C (858993459 : Int32) (mG 1042 (by decide +kernel) rfl) dJ6_bitCount_0f7a4_11 ?_
  refine r_iand C dJ6_bitCount_0f7a4_14 ?_
  refine r_iload_n C 0 dJ6_bitCount_0f7a4_15 rfl ?_
  refine r_iconst C (2 : Int32) dJ6_bitCount_0f7a4_16 (by decide) ?_
  refine r_iushr C dJ6_bitCount_0f7a4_17 ?_
  refine r_ldc_w C (858993459 : Int32) (mG 1042 (by decide +kernel) rfl) dJ6_bitCount_0f7a4_18 ?_
  refine r_iand C dJ6_bitCount_0f7a4_21 ?_
  refine r_iadd C dJ6_bitCount_0f7a4_22 ?_
  refine r_topi (fun y2 => ?_)
  refine r_istore_n C [(0, .int y2)] dJ6_bitCount_0f7a4_23 (by decide) rfl ?_
  refine r_iload_n C 0 dJ6_bitCount_0f7a4_24 rfl ?_
  refine r_iload_n C 0 dJ6_bitCount_0f7a4_25 rfl ?_
  refine r_iconst C (4 : Int32) dJ6_bitCount_0f7a4_26 (by decide) ?_
  refine r_iushr C dJ6_bitCount_0f7a4_27 ?_
  refine r_iadd C dJ6_bitCount_0f7a4_28 ?_
  refine r_ldc_w C (252645135 : Int32) (mG 1043 (by decide +kernel) rfl) dJ6_bitCount_0f7a4_29 ?_
  refine r_iand C dJ6_bitCount_0f7a4_32 ?_
  refine r_topi (fun y3 => ?_)
  refine r_istore_n C [(0, .int y3)] dJ6_bitCount_0f7a4_33 (by decide) rfl ?_
  refine r_iload_n C 0 dJ6_bitCount_0f7a4_34 rfl ?_
  refine r_iload_n C 0 dJ6_bitCount_0f7a4_35 rfl ?_
  refine r_bipush C (8 : Int32) dJ6_bitCount_0f7a4_36 (by decide) ?_
  refine r_iushr C dJ6_bitCount_0f7a4_38 ?_
  refine r_iadd C dJ6_bitCount_0f7a4_39 ?_
  refine r_topi (fun y4 => ?_)
  refine r_istore_n C [(0, .int y4)] dJ6_bitCount_0f7a4_40 (by decide) rfl ?_
  refine r_iload_n C 0 dJ6_bitCount_0f7a4_41 rfl ?_
  refine r_iload_n C 0 dJ6_bitCount_0f7a4_42 rfl ?_
  refine r_bipush C (16 : Int32) dJ6_bitCount_0f7a4_43 (by decide) ?_
  refine r_iushr C dJ6_bitCount_0f7a4_45 ?_
  refine r_iadd C dJ6_bitCount_0f7a4_46 ?_
  refine r_topi (fun y5 => ?_)
  refine r_istore_n C [(0, .int y5)] dJ6_bitCount_0f7a4_47 (by decide) rfl ?_
  refine r_iload_n C 0 dJ6_bitCount_0f7a4_48 rfl ?_
  refine r_bipush C (63 : Int32) dJ6_bitCount_0f7a4_49 (by decide) ?_
  refine r_iand C dJ6_bitCount_0f7a4_51 ?_
  exact r_ireturn C X dJ6_bitCount_0f7a4_52
set_option maxRecDepth 100000 in
set_option maxHeartbeats 4000000 in
theorem p_J7_fill_d0a16_L6 {A : AM} {E : EN} {n : Nat} (C : Cx A E cJ7_fill_d0a16 5 RJ7 0 0) (X : Ex A E none)  : ∀ (m : Nat) (S : WS) (h0 : Nat) (x1 : Int64) (x3 : Int32) (x4 : Int32) (th0 : Ty E h0 11), Gd A E 5 (QM A E wV tT) (f_J7_fill_d0a16_L6 E n  m S h0 x1 x3 x4) S 6 [(0, .ref h0), (1, .long x1), (3, .int x3), (4, .int x4)] [] := by
  intro m
  induction m with
  | zero => intros; exact gn
  | succ m ih =>
    intro S h0 x1 x3 x4 th0
    unfold f_J7_fill_d0a16_L6
    refine r_iload_n C 2 dJ7_fill_d0a16_6 rfl ?_
    refine r_iload C 3 dJ7_fill_d0a16_7 rfl ?_
    refine r_icmp_ge C 22 dJ7_fill_d0a16_9 (by decide) ?_ ?_
    · exact r_return C X dJ7_fill_d0a16_22
    · refine r_aload_n C 0 dJ7_fill_d0a16_12 rfl ?_
      refine r_iload_n C 2 dJ7_fill_d0a16_13 rfl ?_
      refine r_lload_n C 1 dJ7_fill_d0a16_14 rfl ?_
      refine r_last C dJ7_fill_d0a16_15 th0 (fun S1 => ?_)
      refine r_iinc C 2 (fun y2 => [(3, .int y2), (0, .ref h0), (1, .long x1), (4, .int x4)]) dJ7_fill_d0a16_16 rfl (v := (1 : Int32)) (by decide) (by decide) (fun _ => rfl) (fun y2 => ?_)
      refine r_goto C 6 dJ7_fill_d0a16_19 (by decide) ?_
      refine r_sub [1, 2, 0, 3] [(0, .ref h0), (1, .long x1), (3, .int y2), (4, .int x4)] rfl ?_
      exact ih S1 h0 x1 y2 x4 th0
set_option maxRecDepth 100000 in
set_option maxHeartbeats 4000000 in
theorem c_J7_fill_d0a16 (l : Launch) (E : EN) (n : Nat) (h0 : Nat) (x1 : Int64) (th0 : Ty E h0 11) : CT l E yJ7_fill_d0a16 cJ7_fill_d0a16 5 none 0 0 wV tT [.ref h0, .long x1] (fun S => f_J7_fill_d0a16 E n S h0 x1) := by
  refine ct_of RJ7 (by decide +kernel) rfl [(0, .ref h0), (1, .long x1)] rfl (Nat.le_of_ble_eq_true rfl) (fun A S hA C X => ?_)
  subst hA
  show Gd A E 5 (QM A E wV tT) (f_J7_fill_d0a16 E n S h0 x1) S 0 [(0, .ref h0), (1, .long x1)] []
  unfold f_J7_fill_d0a16
  refine r_iconst C (0 : Int32) dJ7_fill_d0a16_0 (by decide) ?_
  refine r_istore_n C [(3, .int (0 : Int32)), (0, .ref h0), (1, .long x1)] dJ7_fill_d0a16_1 (by decide) rfl ?_
  refine r_aload_n C 1 dJ7_fill_d0a16_2 rfl ?_
  refine r_alen C (k := 11) rfl (by decide) dJ7_fill_d0a16_3 th0 ?_
  refine r_topi (fun y1 => ?_)
  refine r_istore C [(4, .int y1), (3, .int (0 : Int32)), (0, .ref h0), (1, .long x1)] dJ7_fill_d0a16_4 (by decide) rfl ?_
  refine r_sub [2, 3, 1, 0] [(0, .ref h0), (1, .long x1), (3, .int (0 : Int32)), (4, .int y1)] rfl ?_
  exact p_J7_fill_d0a16_L6 C X  n S h0 x1 (0 : Int32) y1 th0
set_option maxRecDepth 100000 in
set_option maxHeartbeats 4000000 in
theorem p_J7_fill_53178_L5 {A : AM} {E : EN} {n : Nat} (C : Cx A E cJ7_fill_53178 4 RJ7 0 0) (X : Ex A E none)  : ∀ (m : Nat) (S : WS) (h0 : Nat) (x1 : Int32) (x2 : Int32) (x3 : Int32) (th0 : Ty E h0 10), Gd A E 4 (QM A E wV tT) (f_J7_fill_53178_L5 E n  m S h0 x1 x2 x3) S 5 [(0, .ref h0), (1, .int x1), (2, .int x2), (3, .int x3)] [] := by
  intro m
  induction m with
  | zero => intros; exact gn
  | succ m ih =>
    intro S h0 x1 x2 x3 th0
    unfold f_J7_fill_53178_L5
    refine r_iload_n C 2 dJ7_fill_53178_5 rfl ?_
    refine r_iload_n C 3 dJ7_fill_53178_6 rfl ?_
    refine r_icmp_ge C 20 dJ7_fill_53178_7 (by decide) ?_ ?_
    · exact r_return C X dJ7_fill_53178_20
    · refine r_aload_n C 0 dJ7_fill_53178_10 rfl ?_
      refine r_iload_n C 2 dJ7_fill_53178_11 rfl ?_
      refine r_iload_n C 1 dJ7_fill_53178_12 rfl ?_
      refine r_iast C dJ7_fill_53178_13 th0 (fun S1 => ?_)
      refine r_iinc C 2 (fun y2 => [(2, .int y2), (0, .ref h0), (1, .int x1), (3, .int x3)]) dJ7_fill_53178_14 rfl (v := (1 : Int32)) (by decide) (by decide) (fun _ => rfl) (fun y2 => ?_)
      refine r_goto C 5 dJ7_fill_53178_17 (by decide) ?_
      refine r_sub [1, 2, 0, 3] [(0, .ref h0), (1, .int x1), (2, .int y2), (3, .int x3)] rfl ?_
      exact ih S1 h0 x1 y2 x3 th0
set_option maxRecDepth 100000 in
set_option maxHeartbeats 4000000 in
theorem c_J7_fill_53178 (l : Launch) (E : EN) (n : Nat) (h0 : Nat) (x1 : Int32) (th0 : Ty E h0 10) : CT l E yJ7_fill_53178 cJ7_fill_53178 4 none 0 0 wV tT [.ref h0, .int x1] (fun S => f_J7_fill_53178 E n S h0 x1) := by
  refine ct_of RJ7 (by decide +kernel) rfl [(0, .ref h0), (1, .int x1)] rfl (Nat.le_of_ble_eq_true rfl) (fun A S hA C X => ?_)
  subst hA
  show Gd A E 4 (QM A E wV tT) (f_J7_fill_53178 E n S h0 x1) S 0 [(0, .ref h0), (1, .int x1)] []
  unfold f_J7_fill_53178
  refine r_iconst C (0 : Int32) dJ7_fill_53178_0 (by decide) ?_
  refine r_istore_n C [(2, .int (0 : Int32)), (0, .ref h0), (1, .int x1)] dJ7_fill_53178_1 (by decide) rfl ?_
  refine r_aload_n C 1 dJ7_fill_53178_2 rfl ?_
  refine r_alen C (k := 10) rfl (by decide) dJ7_fill_53178_3 th0 ?_
  refine r_topi (fun y1 => ?_)
  refine r_istore_n C [(3, .int y1), (2, .int (0 : Int32)), (0, .ref h0), (1, .int x1)] dJ7_fill_53178_4 (by decide) rfl ?_
  refine r_sub [2, 3, 1, 0] [(0, .ref h0), (1, .int x1), (2, .int (0 : Int32)), (3, .int y1)] rfl ?_
  exact p_J7_fill_53178_L5 C X  n S h0 x1 (0 : Int32) y1 th0
set_option maxRecDepth 100000 in
set_option maxHeartbeats 4000000 in
theorem p_J7_fill_031fb_L5 {A : AM} {E : EN} {n : Nat} (C : Cx A E cJ7_fill_031fb 4 RJ7 0 0) (X : Ex A E none)  : ∀ (m : Nat) (S : WS) (h0 : Nat) (x1 : Int32) (x2 : Int32) (x3 : Int32) (th0 : Ty E h0 9), Gd A E 4 (QM A E wV tT) (f_J7_fill_031fb_L5 E n  m S h0 x1 x2 x3) S 5 [(0, .ref h0), (1, .int x1), (2, .int x2), (3, .int x3)] [] := by
  intro m
  induction m with
  | zero => intros; exact gn
  | succ m ih =>
    intro S h0 x1 x2 x3 th0
    unfold f_J7_fill_031fb_L5
    refine r_iload_n C 2 dJ7_fill_031fb_5 rfl ?_
    refine r_iload_n C 3 dJ7_fill_031fb_6 rfl ?_
    refine r_icmp_ge C 20 dJ7_fill_031fb_7 (by decide) ?_ ?_
    · exact r_return C X dJ7_fill_031fb_20
    · refine r_aload_n C 0 dJ7_fill_031fb_10 rfl ?_
      refine r_iload_n C 2 dJ7_fill_031fb_11 rfl ?_
      refine r_iload_n C 1 dJ7_fill_031fb_12 rfl ?_
      refine r_bast C dJ7_fill_031fb_13 th0 (fun S1 => ?_)
      refine r_iinc C 2 (fun y2 => [(2, .int y2), (0, .ref h0), (1, .int x1), (3, .int x3)]) dJ7_fill_031fb_14 rfl (v := (1 : Int32)) (by decide) (by decide) (fun _ => rfl) (fun y2 => ?_)
      refine r_goto C 5 dJ7_fill_031fb_17 (by decide) ?_
      refine r_sub [1, 2, 0, 3] [(0, .ref h0), (1, .int x1), (2, .int y2), (3, .int x3)] rfl ?_
      exact ih S1 h0 x1 y2 x3 th0
set_option maxRecDepth 100000 in
set_option maxHeartbeats 4000000 in
theorem c_J7_fill_031fb (l : Launch) (E : EN) (n : Nat) (h0 : Nat) (x1 : Int32) (th0 : Ty E h0 9) : CT l E yJ7_fill_031fb cJ7_fill_031fb 4 none 0 0 wV tT [.ref h0, .int x1] (fun S => f_J7_fill_031fb E n S h0 x1) := by
  refine ct_of RJ7 (by decide +kernel) rfl [(0, .ref h0), (1, .int x1)] rfl (Nat.le_of_ble_eq_true rfl) (fun A S hA C X => ?_)
  subst hA
  show Gd A E 4 (QM A E wV tT) (f_J7_fill_031fb E n S h0 x1) S 0 [(0, .ref h0), (1, .int x1)] []
  unfold f_J7_fill_031fb
  refine r_iconst C (0 : Int32) dJ7_fill_031fb_0 (by decide) ?_
  refine r_istore_n C [(2, .int (0 : Int32)), (0, .ref h0), (1, .int x1)] dJ7_fill_031fb_1 (by decide) rfl ?_
  refine r_aload_n C 1 dJ7_fill_031fb_2 rfl ?_
  refine r_alen C (k := 9) rfl (by decide) dJ7_fill_031fb_3 th0 ?_
  refine r_topi (fun y1 => ?_)
  refine r_istore_n C [(3, .int y1), (2, .int (0 : Int32)), (0, .ref h0), (1, .int x1)] dJ7_fill_031fb_4 (by decide) rfl ?_
  refine r_sub [2, 3, 1, 0] [(0, .ref h0), (1, .int x1), (2, .int (0 : Int32)), (3, .int y1)] rfl ?_
  exact p_J7_fill_031fb_L5 C X  n S h0 x1 (0 : Int32) y1 th0
set_option maxRecDepth 100000 in
set_option maxHeartbeats 4000000 in
theorem p_X0_aimAt_L47 {A : AM} {E : EN} {n : Nat} (C : Cx A E cX0_aimAt 9 RX0 2 43) (X : Ex A E none) {k38 : WS → Nat → Int32 → Int32 → Option (Unit × WS)} (hk38 : ∀ (S : WS) (h0 : Nat) (x3 : Int32) (x6 : Int32) (_ : Ty E h0 0), Gd A E 9 (QM A E wV tT) (k38 S h0 x3 x6) S 38 [(0, .ref h0), (3, .int x3), (6, .int x6)] []) : ∀ (m : Nat) (S : WS) (h0 : Nat) (x3 : Int32) (x6 : Int32) (x7 : Int32) (th0 : Ty E h0 0), Gd A E 9 (QM A E wV tT) (f_X0_aimAt_L47 E n k38 m S h0 x3 x6 x7) S 47 [(0, .ref h0), (3, .int x3), (6, .int x6), (7, .int x7)] [] := by
  intro m
  induction m with
  | zero => intros; exact gn
  | succ m ih =>
    intro S h0 x3 x6 x7 th0
    unfold f_X0_aimAt_L47
    refine r_iload C 3 dX0_aimAt_47 rfl ?_
    refine r_aload_n C 0 dX0_aimAt_49 rfl ?_
    refine r_getr C fl_X0_12 dX0_aimAt_50 th0 (fun b1 tb1 => ?_)
    refine r_geti C fl_X0_45 dX0_aimAt_53 tb1 ?_
    refine r_icmp_ge C 116 dX0_aimAt_56 (by decide) ?_ ?_
    · refine r_iinc C 2 (fun y2 => [(6, .int y2), (0, .ref h0), (3, .int x3), (7, .int x7)]) dX0_aimAt_116 rfl (v := (1 : Int32)) (by decide) (by decide) (fun _ => rfl) (fun y2 => ?_)
      refine r_goto C 38 dX0_aimAt_119 (by decide) ?_
      refine r_sub [1, 2, 0] [(0, .ref h0), (3, .int x3), (6, .int y2)] rfl ?_
      exact hk38 S h0 x3 y2 th0
    · refine r_aload_n C 0 dX0_aimAt_59 rfl ?_
      refine r_getr C fl_X0_12 dX0_aimAt_60 th0 (fun b3 tb3 => ?_)
      refine r_iload C 3 dX0_aimAt_63 rfl ?_
      refine r_callV (As := [.int x7]) (rest := []) C (c_X3_dropOf _ E n b3 x7 tb3) dX0_aimAt_65 ml_X0_48 mv_X3_dropOf ⟨TX3, _, rfl⟩ (by decide) tb3 rfl rfl ⟨by decide, by decide⟩ (Nat.le_of_ble_eq_true rfl) (fun v5 S4 hv5 => ?_)
      refine r_iconst C (0 : Int32) dX0_aimAt_68 (by decide) ?_
      refine r_aload_n C 0 dX0_aimAt_69 rfl ?_
      refine r_getr C fl_X0_12 dX0_aimAt_70 th0 (fun b6 tb6 => ?_)
      refine r_getr C fl_X0_52 dX0_aimAt_73 tb6 (fun b7 tb7 => ?_)
      refine r_iload C 2 dX0_aimAt_76 rfl ?_
      refine r_iald C dX0_aimAt_78 tb7 ?_
      refine r_callS (As := [.int v5, .int (0 : Int32), .int (ai S4 b7 x6.toNatClampNeg)]) (rest := []) C (c_X8_lacking _ E n v5 (0 : Int32) (ai S4 b7 x6.toNatClampNeg) ) dX0_aimAt_79 ml_X0_55 mv_X8_lacking rfl rfl ⟨by decide, by decide⟩ (Nat.le_of_ble_eq_true rfl) (fun v9 S8 hv9 => ?_)
      refine r_istore C [(8, .int v9), (0, .ref h0), (3, .int x3), (6, .int x6), (7, .int x7)] dX0_aimAt_82 (by decide) rfl ?_
      refine r_aload_n C 1 dX0_aimAt_84 rfl ?_
      refine r_getr C fl_X0_18 dX0_aimAt_85 th0 (fun b10 tb10 => ?_)
      refine r_iload C 3 dX0_aimAt_88 rfl ?_
      refine r_bipush C (10 : Int32) dX0_aimAt_90 (by decide) ?_
      refine r_imul C dX0_aimAt_92 ?_
      refine r_iload C 4 dX0_aimAt_93 rfl ?_
      refine r_iadd C dX0_aimAt_95 ?_
      refine r_iload C 0 dX0_aimAt_96 rfl ?_
      refine r_iconst C (-1 : Int32) dX0_aimAt_98 (by decide) ?_
      refine r_icmp_ne C 107 dX0_aimAt_99 (by decide) ?_ ?_
      · refine r_iload C 0 dX0_aimAt_107 rfl ?_
        refine r_iast C dX0_aimAt_109 tb10 (fun S11 => ?_)
        refine r_iinc C 4 (fun y12 => [(7, .int y12), (8, .int v9), (0, .ref h0), (3, .int x3), (6, .int x6)]) dX0_aimAt_110 rfl (v := (1 : Int32)) (by decide) (by decide) (fun _ => rfl) (fun y12 => ?_)
        refine r_goto C 47 dX0_aimAt_113 (by decide) ?_
        refine r_sub [2, 3, 4, 0] [(0, .ref h0), (3, .int x3), (6, .int x6), (7, .int y12)] rfl ?_
        exact ih S11 h0 x3 x6 y12 th0
      · refine r_ldc C (1000000 : Int32) (mG 1016 (by decide +kernel) rfl) dX0_aimAt_102 ?_
        refine r_goto C 109 dX0_aimAt_104 (by decide) ?_
        refine r_iast C dX0_aimAt_109 tb10 (fun S13 => ?_)
        refine r_iinc C 4 (fun y14 => [(7, .int y14), (8, .int v9), (0, .ref h0), (3, .int x3), (6, .int x6)]) dX0_aimAt_110 rfl (v := (1 : Int32)) (by decide) (by decide) (fun _ => rfl) (fun y14 => ?_)
        refine r_goto C 47 dX0_aimAt_113 (by decide) ?_
        refine r_sub [2, 3, 4, 0] [(0, .ref h0), (3, .int x3), (6, .int x6), (7, .int y14)] rfl ?_
        exact ih S13 h0 x3 x6 y14 th0
set_option maxRecDepth 100000 in
set_option maxHeartbeats 4000000 in
theorem p_X0_aimAt_L38 {A : AM} {E : EN} {n : Nat} (C : Cx A E cX0_aimAt 9 RX0 2 43) (X : Ex A E none)  : ∀ (m : Nat) (S : WS) (h0 : Nat) (x3 : Int32) (x6 : Int32) (th0 : Ty E h0 0), Gd A E 9 (QM A E wV tT) (f_X0_aimAt_L38 E n  m S h0 x3 x6) S 38 [(0, .ref h0), (3, .int x3), (6, .int x6)] [] := by
  intro m
  induction m with
  | zero => intros; exact gn
  | succ m ih =>
    intro S h0 x3 x6 th0
    unfold f_X0_aimAt_L38
    refine r_iload C 2 dX0_aimAt_38 rfl ?_
    refine r_iload_n C 1 dX0_aimAt_40 rfl ?_
    refine r_icmp_ge C 122 dX0_aimAt_41 (by decide) ?_ ?_
    · exact r_return C X dX0_aimAt_122
    · refine r_iconst C (0 : Int32) dX0_aimAt_44 (by decide) ?_
      refine r_istore C [(7, .int (0 : Int32)), (0, .ref h0), (3, .int x3), (6, .int x6)] dX0_aimAt_45 (by decide) rfl ?_
      refine r_sub [1, 2, 3, 0] [(0, .ref h0), (3, .int x3), (6, .int x6), (7, .int (0 : Int32))] rfl ?_
      exact p_X0_aimAt_L47 C X ih n S h0 x3 x6 (0 : Int32) th0
