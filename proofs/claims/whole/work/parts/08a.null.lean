/-! refusalOf OVER NULL; odd with it -/
def f_X8_refusalOf_0 (E : EN) (n : Nat) (S : WS) (h0 : Nat) : Option (Int32 × WS) := some ((-2 : Int32), S)
theorem c_X8_refusalOf_0 (l : Launch) (E : EN) (n : Nat) (h0 : Nat) (th0 : Ty E h0 7) : CT l E yX8_refusalOf cX8_refusalOf 2 (some .int) 2 47 wI tT [.ref h0, .null] (fun S => f_X8_refusalOf_0 E n S h0) := by
  refine ct_of RX8 (by decide +kernel) rfl [(0, .ref h0), (1, .null)] rfl (Nat.le_of_ble_eq_true rfl) (fun A S hA C X => ?_)
  subst hA
  show Gd A E 2 (QM A E wI tT) (f_X8_refusalOf_0 E n S h0) S 0 [(0, .ref h0), (1, .null)] []
  unfold f_X8_refusalOf_0
  refine r_aload_nN C 1 dX8_refusalOf_0 rfl ?_
  refine r_ifnullN C 14 dX8_refusalOf_1 (by decide) ?_
  refine r_bipush C (-2 : Int32) dX8_refusalOf_14 (by decide) ?_
  exact r_ireturn C X dX8_refusalOf_16
def f_X8_odd0_L25 (E : EN) (n : Nat)  : Nat → WS → Nat → Nat → Int32 → Option (Int32 × WS)
  | 0 => fun _ _ _ _ => none
  | m + 1 => fun S h0 h2 x4 =>
    bd (f_X6_measures E n S h2) fun v2 S1 =>
    if v2 ≤ x4 then
      some ((-1 : Int32), S1)
    else
      (gr S1 451 h0).bind fun b3 =>
      bd (f_X6_pathOf E n S1 h2 x4) fun v5 S4 =>
      bd (f_X6_yearOf E n S4 h2 x4) fun v7 S6 =>
      bd (f_X3_leapOf E n S6 b3 v5 v7) fun v9 S8 =>
      bd (f_X6_leapTold E n S8 h2 x4) fun v11 S10 =>
      if (lg_cmp (v9.toInt64) v11) = 0 then
        lt (x4 + (1 : Int32)) fun y12 =>
        f_X8_odd0_L25 E n  m S10 h0 h2 y12
      else
        some (x4, S10)
def f_X8_odd0 (E : EN) (n : Nat) (S : WS) (h0 : Nat) (x1 : Int32) : Option (Int32 × WS) :=
  bd (f_X8_slotAt E n S h0 x1) fun v2 S1 =>
  v2.elim (bd (f_X8_refusalOf_0 E n S1 h0) fun v5 S4 =>
  if v5 = 0 then
    some (v5, S4)
  else
    some (v5, S4)) (fun b3 => bd (f_X8_refusalOf E n S1 h0 b3) fun v7 S6 =>
  if v7 = 0 then
    f_X8_odd0_L25 E n  n S6 h0 b3 (0 : Int32)
  else
    some (v7, S6))
set_option maxRecDepth 100000 in
set_option maxHeartbeats 4000000 in
theorem p_X8_odd0_L25 {A : AM} {E : EN} {n : Nat} (C : Cx A E cX8_odd 5 RX8 4 94) (X : Ex A E (some .int))  : ∀ (m : Nat) (S : WS) (h0 : Nat) (h2 : Nat) (x4 : Int32) (th0 : Ty E h0 7) (th2 : Ty E h2 5), Gd A E 5 (QM A E wI tT) (f_X8_odd0_L25 E n  m S h0 h2 x4) S 25 [(0, .ref h0), (2, .ref h2), (4, .int x4)] [] := by
  intro m
  induction m with
  | zero => intros; exact gn
  | succ m ih =>
    intro S h0 h2 x4 th0 th2
    unfold f_X8_odd0_L25
    refine r_iload C 2 dX8_odd_25 rfl ?_
    refine r_aload_n C 1 dX8_odd_27 rfl ?_
    refine r_callV (As := []) (rest := [.int x4]) C (c_X6_measures _ E n h2 th2) dX8_odd_28 ml_X8_351 mv_X6_measures ⟨TX6, _, rfl⟩ (by decide) th2 rfl rfl ⟨by decide, by decide⟩ (Nat.le_of_ble_eq_true rfl) (fun v2 S1 hv2 => ?_)
    refine r_icmp_ge C 73 dX8_odd_31 (by decide) ?_ ?_
    · refine r_iconst C (-1 : Int32) dX8_odd_73 (by decide) ?_
      exact r_ireturn C X dX8_odd_74
    · refine r_aload_n C 0 dX8_odd_34 rfl ?_
      refine r_getr C fl_X8_27 dX8_odd_35 th0 (fun b3 tb3 => ?_)
      refine r_aload_n C 1 dX8_odd_38 rfl ?_
      refine r_iload C 2 dX8_odd_39 rfl ?_
      refine r_callV (As := [.int x4]) (rest := [.ref b3]) C (c_X6_pathOf _ E n h2 x4 th2) dX8_odd_41 ml_X8_355 mv_X6_pathOf ⟨TX6, _, rfl⟩ (by decide) th2 rfl rfl ⟨by decide, by decide⟩ (Nat.le_of_ble_eq_true rfl) (fun v5 S4 hv5 => ?_)
      refine r_aload_n C 1 dX8_odd_44 rfl ?_
      refine r_iload C 2 dX8_odd_45 rfl ?_
      refine r_callV (As := [.int x4]) (rest := [.int v5, .ref b3]) C (c_X6_yearOf _ E n h2 x4 th2) dX8_odd_47 ml_X8_358 mv_X6_yearOf ⟨TX6, _, rfl⟩ (by decide) th2 rfl rfl ⟨by decide, by decide⟩ (Nat.le_of_ble_eq_true rfl) (fun v7 S6 hv7 => ?_)
      refine r_callV (As := [.int v5, .int v7]) (rest := []) C (c_X3_leapOf _ E n b3 v5 v7 tb3) dX8_odd_50 ml_X8_178 mv_X3_leapOf ⟨TX3, _, rfl⟩ (by decide) tb3 rfl rfl ⟨by decide, by decide⟩ (Nat.le_of_ble_eq_true rfl) (fun v9 S8 hv9 => ?_)
      refine r_i2l C dX8_odd_53 ?_
      refine r_aload_n C 1 dX8_odd_54 rfl ?_
      refine r_iload C 2 dX8_odd_55 rfl ?_
      refine r_callV (As := [.int x4]) (rest := [.long (v9.toInt64)]) C (c_X6_leapTold _ E n h2 x4 th2) dX8_odd_57 ml_X8_361 mv_X6_leapTold ⟨TX6, _, rfl⟩ (by decide) th2 rfl rfl ⟨by decide, by decide⟩ (Nat.le_of_ble_eq_true rfl) (fun v11 S10 hv11 => ?_)
      refine r_lcmp C dX8_odd_60 ?_
      refine r_if_eq C 67 dX8_odd_61 (by decide) ?_ ?_
      · refine r_iinc C 2 (fun y12 => [(4, .int y12), (0, .ref h0), (2, .ref h2)]) dX8_odd_67 rfl (v := (1 : Int32)) (by decide) (by decide) (fun _ => rfl) (fun y12 => ?_)
        refine r_goto C 25 dX8_odd_70 (by decide) ?_
        refine r_sub [1, 2, 0] [(0, .ref h0), (2, .ref h2), (4, .int y12)] rfl ?_
        exact ih S10 h0 h2 y12 th0 th2
      · refine r_iload C 2 dX8_odd_64 rfl ?_
        exact r_ireturn C X dX8_odd_66
set_option maxRecDepth 100000 in
set_option maxHeartbeats 4000000 in
theorem c_X8_odd0 (l : Launch) (E : EN) (n : Nat) (h0 : Nat) (x1 : Int32) (th0 : Ty E h0 7) : CT l E yX8_odd cX8_odd 5 (some .int) 4 94 wI tT [.ref h0, .int x1] (fun S => f_X8_odd0 E n S h0 x1) := by
  refine ct_of RX8 (by decide +kernel) rfl [(0, .ref h0), (1, .int x1)] rfl (Nat.le_of_ble_eq_true rfl) (fun A S hA C X => ?_)
  subst hA
  show Gd A E 5 (QM A E wI tT) (f_X8_odd0 E n S h0 x1) S 0 [(0, .ref h0), (1, .int x1)] []
  unfold f_X8_odd0
  refine r_aload_n C 0 dX8_odd_0 rfl ?_
  refine r_iload_n C 1 dX8_odd_1 rfl ?_
  refine r_callV (As := [.int x1]) (rest := []) C (c_X8_slotAt _ E n h0 x1 th0) dX8_odd_2 ml_X8_333 mv_X8_slotAt ⟨TX8, _, rfl⟩ (by decide) th0 rfl rfl ⟨by decide, by decide⟩ (Nat.le_of_ble_eq_true rfl) (fun v2 S1 hv2 => ?_)
  refine r_opt hv2 ?_ (fun b3 tb3 => ?_)
  · refine r_astore_nN C [(2, .null), (0, .ref h0), (1, .int x1)] dX8_odd_5 (by decide) rfl ?_
    refine r_aload_n C 1 dX8_odd_6 rfl ?_
    refine r_aload_nN C 0 dX8_odd_7 rfl ?_
    refine r_callV (As := [.null]) (rest := []) C (c_X8_refusalOf_0 _ E n h0 th0) dX8_odd_8 ml_X8_337 mv_X8_refusalOf ⟨TX8, _, rfl⟩ (by decide) th0 rfl rfl ⟨by decide, by decide⟩ (Nat.le_of_ble_eq_true rfl) (fun v5 S4 hv5 => ?_)
    refine r_istore_n C [(3, .int v5), (2, .null), (0, .ref h0), (1, .int x1)] dX8_odd_11 (by decide) rfl ?_
    refine r_iload_n C 0 dX8_odd_12 rfl ?_
    refine r_if_ne C 20 dX8_odd_13 (by decide) ?_ ?_
    · refine r_iload_n C 0 dX8_odd_20 rfl ?_
      exact r_ireturn C X dX8_odd_21
    · refine r_aload_nN C 1 dX8_odd_16 rfl ?_
      refine r_ifnonnullN C dX8_odd_17 ?_
      refine r_iload_n C 0 dX8_odd_20 rfl ?_
      exact r_ireturn C X dX8_odd_21
  · refine r_astore_n C [(2, .ref b3), (0, .ref h0), (1, .int x1)] dX8_odd_5 (by decide) rfl ?_
    refine r_aload_n C 1 dX8_odd_6 rfl ?_
    refine r_aload_n C 0 dX8_odd_7 rfl ?_
    refine r_callV (As := [.ref b3]) (rest := []) C (c_X8_refusalOf _ E n h0 b3 th0 tb3) dX8_odd_8 ml_X8_337 mv_X8_refusalOf ⟨TX8, _, rfl⟩ (by decide) th0 rfl rfl ⟨by decide, by decide⟩ (Nat.le_of_ble_eq_true rfl) (fun v7 S6 hv7 => ?_)
    refine r_istore_n C [(3, .int v7), (2, .ref b3), (0, .ref h0), (1, .int x1)] dX8_odd_11 (by decide) rfl ?_
    refine r_iload_n C 0 dX8_odd_12 rfl ?_
    refine r_if_ne C 20 dX8_odd_13 (by decide) ?_ ?_
    · refine r_iload_n C 0 dX8_odd_20 rfl ?_
      exact r_ireturn C X dX8_odd_21
    · refine r_aload_n C 1 dX8_odd_16 rfl ?_
      refine r_ifnonnull C 22 dX8_odd_17 (by decide) ?_
      refine r_iconst C (0 : Int32) dX8_odd_22 (by decide) ?_
      refine r_istore C [(4, .int (0 : Int32)), (3, .int v7), (2, .ref b3), (0, .ref h0), (1, .int x1)] dX8_odd_23 (by decide) rfl ?_
      refine r_sub [3, 2, 0] [(0, .ref h0), (2, .ref b3), (4, .int (0 : Int32))] rfl ?_
      exact p_X8_odd0_L25 C X  n S6 h0 b3 (0 : Int32) th0 tb3
