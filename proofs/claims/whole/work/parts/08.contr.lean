/-! THE CONTRACTS, by program -/
set_option maxRecDepth 100000 in
set_option maxHeartbeats 4000000 in
theorem c_X3_isTold (l : Launch) (E : EN) (n : Nat) (h0 : Nat) (th0 : Ty E h0 2) : CT l E yX3_isTold cX3_isTold 1 (some .boolean) 0 0 wI tT [.ref h0] (fun S => f_X3_isTold E n S h0) := by
  refine ct_of RX3 (by decide +kernel) rfl [(0, .ref h0)] rfl (Nat.le_of_ble_eq_true rfl) (fun A S hA C X => ?_)
  subst hA
  show Gd A E 1 (QM A E wI tT) (f_X3_isTold E n S h0) S 0 [(0, .ref h0)] []
  unfold f_X3_isTold
  refine r_aload_n C 0 dX3_isTold_0 rfl ?_
  refine r_geti C fl_X3_52 dX3_isTold_1 th0 ?_
  refine r_if_le C 11 dX3_isTold_4 (by decide) ?_ ?_
  · refine r_iconst C (0 : Int32) dX3_isTold_11 (by decide) ?_
    exact r_zreturn C X rfl dX3_isTold_12
  · refine r_iconst C (1 : Int32) dX3_isTold_7 (by decide) ?_
    refine r_goto C 12 dX3_isTold_8 (by decide) ?_
    exact r_zreturn C X rfl dX3_isTold_12
set_option maxRecDepth 100000 in
set_option maxHeartbeats 4000000 in
theorem c_X3_hasPlace (l : Launch) (E : EN) (n : Nat) (h0 : Nat) (x1 : Int32) (th0 : Ty E h0 2) : CT l E yX3_hasPlace cX3_hasPlace 2 (some .boolean) 0 0 wI tT [.ref h0, .int x1] (fun S => f_X3_hasPlace E n S h0 x1) := by
  refine ct_of RX3 (by decide +kernel) rfl [(0, .ref h0), (1, .int x1)] rfl (Nat.le_of_ble_eq_true rfl) (fun A S hA C X => ?_)
  subst hA
  show Gd A E 2 (QM A E wI tT) (f_X3_hasPlace E n S h0 x1) S 0 [(0, .ref h0), (1, .int x1)] []
  unfold f_X3_hasPlace
  refine r_iload_n C 1 dX3_hasPlace_0 rfl ?_
  refine r_if_lt C 16 dX3_hasPlace_1 (by decide) ?_ ?_
  · refine r_iconst C (0 : Int32) dX3_hasPlace_16 (by decide) ?_
    exact r_zreturn C X rfl dX3_hasPlace_17
  · refine r_iload_n C 1 dX3_hasPlace_4 rfl ?_
    refine r_aload_n C 0 dX3_hasPlace_5 rfl ?_
    refine r_geti C fl_X3_52 dX3_hasPlace_6 th0 ?_
    refine r_icmp_ge C 16 dX3_hasPlace_9 (by decide) ?_ ?_
    · refine r_iconst C (0 : Int32) dX3_hasPlace_16 (by decide) ?_
      exact r_zreturn C X rfl dX3_hasPlace_17
    · refine r_iconst C (1 : Int32) dX3_hasPlace_12 (by decide) ?_
      refine r_goto C 17 dX3_hasPlace_13 (by decide) ?_
      exact r_zreturn C X rfl dX3_hasPlace_17
set_option maxRecDepth 100000 in
set_option maxHeartbeats 4000000 in
theorem c_X3_hasYear (l : Launch) (E : EN) (n : Nat) (h0 : Nat) (x1 : Int32) (th0 : Ty E h0 2) : CT l E yX3_hasYear cX3_hasYear 2 (some .boolean) 0 0 wI tT [.ref h0, .int x1] (fun S => f_X3_hasYear E n S h0 x1) := by
  refine ct_of RX3 (by decide +kernel) rfl [(0, .ref h0), (1, .int x1)] rfl (Nat.le_of_ble_eq_true rfl) (fun A S hA C X => ?_)
  subst hA
  show Gd A E 2 (QM A E wI tT) (f_X3_hasYear E n S h0 x1) S 0 [(0, .ref h0), (1, .int x1)] []
  unfold f_X3_hasYear
  refine r_iload_n C 1 dX3_hasYear_0 rfl ?_
  refine r_if_lt C 16 dX3_hasYear_1 (by decide) ?_ ?_
  · refine r_iconst C (0 : Int32) dX3_hasYear_16 (by decide) ?_
    exact r_zreturn C X rfl dX3_hasYear_17
  · refine r_iload_n C 1 dX3_hasYear_4 rfl ?_
    refine r_aload_n C 0 dX3_hasYear_5 rfl ?_
    refine r_geti C fl_X3_55 dX3_hasYear_6 th0 ?_
    refine r_icmp_ge C 16 dX3_hasYear_9 (by decide) ?_ ?_
    · refine r_iconst C (0 : Int32) dX3_hasYear_16 (by decide) ?_
      exact r_zreturn C X rfl dX3_hasYear_17
    · refine r_iconst C (1 : Int32) dX3_hasYear_12 (by decide) ?_
      refine r_goto C 17 dX3_hasYear_13 (by decide) ?_
      exact r_zreturn C X rfl dX3_hasYear_17
set_option maxRecDepth 100000 in
set_option maxHeartbeats 4000000 in
theorem c_X3_hasPath (l : Launch) (E : EN) (n : Nat) (h0 : Nat) (x1 : Int32) (th0 : Ty E h0 2) : CT l E yX3_hasPath cX3_hasPath 2 (some .boolean) 0 0 wI tT [.ref h0, .int x1] (fun S => f_X3_hasPath E n S h0 x1) := by
  refine ct_of RX3 (by decide +kernel) rfl [(0, .ref h0), (1, .int x1)] rfl (Nat.le_of_ble_eq_true rfl) (fun A S hA C X => ?_)
  subst hA
  show Gd A E 2 (QM A E wI tT) (f_X3_hasPath E n S h0 x1) S 0 [(0, .ref h0), (1, .int x1)] []
  unfold f_X3_hasPath
  refine r_iload_n C 1 dX3_hasPath_0 rfl ?_
  refine r_if_lt C 16 dX3_hasPath_1 (by decide) ?_ ?_
  · refine r_iconst C (0 : Int32) dX3_hasPath_16 (by decide) ?_
    exact r_zreturn C X rfl dX3_hasPath_17
  · refine r_iload_n C 1 dX3_hasPath_4 rfl ?_
    refine r_aload_n C 0 dX3_hasPath_5 rfl ?_
    refine r_geti C fl_X3_58 dX3_hasPath_6 th0 ?_
    refine r_icmp_ge C 16 dX3_hasPath_9 (by decide) ?_ ?_
    · refine r_iconst C (0 : Int32) dX3_hasPath_16 (by decide) ?_
      exact r_zreturn C X rfl dX3_hasPath_17
    · refine r_iconst C (1 : Int32) dX3_hasPath_12 (by decide) ?_
      refine r_goto C 17 dX3_hasPath_13 (by decide) ?_
      exact r_zreturn C X rfl dX3_hasPath_17
set_option maxRecDepth 100000 in
set_option maxHeartbeats 4000000 in
theorem c_X3_hasBride (l : Launch) (E : EN) (n : Nat) (h0 : Nat) (x1 : Int32) (th0 : Ty E h0 2) : CT l E yX3_hasBride cX3_hasBride 2 (some .boolean) 0 0 wI tT [.ref h0, .int x1] (fun S => f_X3_hasBride E n S h0 x1) := by
  refine ct_of RX3 (by decide +kernel) rfl [(0, .ref h0), (1, .int x1)] rfl (Nat.le_of_ble_eq_true rfl) (fun A S hA C X => ?_)
  subst hA
  show Gd A E 2 (QM A E wI tT) (f_X3_hasBride E n S h0 x1) S 0 [(0, .ref h0), (1, .int x1)] []
  unfold f_X3_hasBride
  refine r_iload_n C 1 dX3_hasBride_0 rfl ?_
  refine r_if_lt C 16 dX3_hasBride_1 (by decide) ?_ ?_
  · refine r_iconst C (0 : Int32) dX3_hasBride_16 (by decide) ?_
    exact r_zreturn C X rfl dX3_hasBride_17
  · refine r_iload_n C 1 dX3_hasBride_4 rfl ?_
    refine r_aload_n C 0 dX3_hasBride_5 rfl ?_
    refine r_geti C fl_X3_61 dX3_hasBride_6 th0 ?_
    refine r_icmp_ge C 16 dX3_hasBride_9 (by decide) ?_ ?_
    · refine r_iconst C (0 : Int32) dX3_hasBride_16 (by decide) ?_
      exact r_zreturn C X rfl dX3_hasBride_17
    · refine r_iconst C (1 : Int32) dX3_hasBride_12 (by decide) ?_
      refine r_goto C 17 dX3_hasBride_13 (by decide) ?_
      exact r_zreturn C X rfl dX3_hasBride_17
set_option maxRecDepth 100000 in
set_option maxHeartbeats 4000000 in
theorem c_X3_hasSuitor (l : Launch) (E : EN) (n : Nat) (h0 : Nat) (x1 : Int32) (th0 : Ty E h0 2) : CT l E yX3_hasSuitor cX3_hasSuitor 2 (some .boolean) 0 0 wI tT [.ref h0, .int x1] (fun S => f_X3_hasSuitor E n S h0 x1) := by
  refine ct_of RX3 (by decide +kernel) rfl [(0, .ref h0), (1, .int x1)] rfl (Nat.le_of_ble_eq_true rfl) (fun A S hA C X => ?_)
  subst hA
  show Gd A E 2 (QM A E wI tT) (f_X3_hasSuitor E n S h0 x1) S 0 [(0, .ref h0), (1, .int x1)] []
  unfold f_X3_hasSuitor
  refine r_iload_n C 1 dX3_hasSuitor_0 rfl ?_
  refine r_if_lt C 16 dX3_hasSuitor_1 (by decide) ?_ ?_
  · refine r_iconst C (0 : Int32) dX3_hasSuitor_16 (by decide) ?_
    exact r_zreturn C X rfl dX3_hasSuitor_17
  · refine r_iload_n C 1 dX3_hasSuitor_4 rfl ?_
    refine r_aload_n C 0 dX3_hasSuitor_5 rfl ?_
    refine r_geti C fl_X3_64 dX3_hasSuitor_6 th0 ?_
    refine r_icmp_ge C 16 dX3_hasSuitor_9 (by decide) ?_ ?_
    · refine r_iconst C (0 : Int32) dX3_hasSuitor_16 (by decide) ?_
      exact r_zreturn C X rfl dX3_hasSuitor_17
    · refine r_iconst C (1 : Int32) dX3_hasSuitor_12 (by decide) ?_
      refine r_goto C 17 dX3_hasSuitor_13 (by decide) ?_
      exact r_zreturn C X rfl dX3_hasSuitor_17
set_option maxRecDepth 100000 in
set_option maxHeartbeats 4000000 in
theorem c_X3_hasWalker (l : Launch) (E : EN) (n : Nat) (h0 : Nat) (x1 : Int32) (th0 : Ty E h0 2) : CT l E yX3_hasWalker cX3_hasWalker 2 (some .boolean) 0 0 wI tT [.ref h0, .int x1] (fun S => f_X3_hasWalker E n S h0 x1) := by
  refine ct_of RX3 (by decide +kernel) rfl [(0, .ref h0), (1, .int x1)] rfl (Nat.le_of_ble_eq_true rfl) (fun A S hA C X => ?_)
  subst hA
  show Gd A E 2 (QM A E wI tT) (f_X3_hasWalker E n S h0 x1) S 0 [(0, .ref h0), (1, .int x1)] []
  unfold f_X3_hasWalker
  refine r_iload_n C 1 dX3_hasWalker_0 rfl ?_
  refine r_if_lt C 16 dX3_hasWalker_1 (by decide) ?_ ?_
  · refine r_iconst C (0 : Int32) dX3_hasWalker_16 (by decide) ?_
    exact r_zreturn C X rfl dX3_hasWalker_17
  · refine r_iload_n C 1 dX3_hasWalker_4 rfl ?_
    refine r_aload_n C 0 dX3_hasWalker_5 rfl ?_
    refine r_geti C fl_X3_67 dX3_hasWalker_6 th0 ?_
    refine r_icmp_ge C 16 dX3_hasWalker_9 (by decide) ?_ ?_
    · refine r_iconst C (0 : Int32) dX3_hasWalker_16 (by decide) ?_
      exact r_zreturn C X rfl dX3_hasWalker_17
    · refine r_iconst C (1 : Int32) dX3_hasWalker_12 (by decide) ?_
      refine r_goto C 17 dX3_hasWalker_13 (by decide) ?_
      exact r_zreturn C X rfl dX3_hasWalker_17
set_option maxRecDepth 100000 in
set_option maxHeartbeats 4000000 in
theorem c_X3_isFor (l : Launch) (E : EN) (n : Nat) (h0 : Nat) (x1 : Int32) (x2 : Int32) (th0 : Ty E h0 2) : CT l E yX3_isFor cX3_isFor 3 (some .boolean) 1 21 wI tT [.ref h0, .int x1, .int x2] (fun S => f_X3_isFor E n S h0 x1 x2) := by
  refine ct_of RX3 (by decide +kernel) rfl [(0, .ref h0), (1, .int x1), (2, .int x2)] rfl (Nat.le_of_ble_eq_true rfl) (fun A S hA C X => ?_)
  subst hA
  show Gd A E 3 (QM A E wI tT) (f_X3_isFor E n S h0 x1 x2) S 0 [(0, .ref h0), (1, .int x1), (2, .int x2)] []
  unfold f_X3_isFor
  refine r_aload_n C 0 dX3_isFor_0 rfl ?_
  refine r_iload_n C 1 dX3_isFor_1 rfl ?_
  refine r_callV (As := [.int x1]) (rest := []) C (c_X3_hasSuitor _ E n h0 x1 th0) dX3_isFor_2 ml_X3_80 mv_X3_hasSuitor ⟨TX3, _, rfl⟩ (by decide) th0 rfl rfl ⟨by decide, by decide⟩ (Nat.le_of_ble_eq_true rfl) (fun v2 S1 hv2 => ?_)
  refine r_if_eq C 34 dX3_isFor_5 (by decide) ?_ ?_
  · refine r_iconst C (0 : Int32) dX3_isFor_34 (by decide) ?_
    exact r_zreturn C X rfl dX3_isFor_35
  · refine r_aload_n C 0 dX3_isFor_8 rfl ?_
    refine r_iload_n C 2 dX3_isFor_9 rfl ?_
    refine r_callV (As := [.int x2]) (rest := []) C (c_X3_hasBride _ E n h0 x2 th0) dX3_isFor_10 ml_X3_84 mv_X3_hasBride ⟨TX3, _, rfl⟩ (by decide) th0 rfl rfl ⟨by decide, by decide⟩ (Nat.le_of_ble_eq_true rfl) (fun v4 S3 hv4 => ?_)
    refine r_if_eq C 34 dX3_isFor_13 (by decide) ?_ ?_
    · refine r_iconst C (0 : Int32) dX3_isFor_34 (by decide) ?_
      exact r_zreturn C X rfl dX3_isFor_35
    · refine r_aload_n C 0 dX3_isFor_16 rfl ?_
      refine r_getr C fl_X3_33 dX3_isFor_17 th0 (fun b5 tb5 => ?_)
      refine r_iload_n C 1 dX3_isFor_20 rfl ?_
      refine r_iald C dX3_isFor_21 tb5 ?_
      refine r_iload_n C 2 dX3_isFor_22 rfl ?_
      refine r_ishr C dX3_isFor_23 ?_
      refine r_iconst C (1 : Int32) dX3_isFor_24 (by decide) ?_
      refine r_iand C dX3_isFor_25 ?_
      refine r_iconst C (1 : Int32) dX3_isFor_26 (by decide) ?_
      refine r_icmp_ne C 34 dX3_isFor_27 (by decide) ?_ ?_
      · refine r_iconst C (0 : Int32) dX3_isFor_34 (by decide) ?_
        exact r_zreturn C X rfl dX3_isFor_35
      · refine r_iconst C (1 : Int32) dX3_isFor_30 (by decide) ?_
        refine r_goto C 35 dX3_isFor_31 (by decide) ?_
        exact r_zreturn C X rfl dX3_isFor_35
set_option maxRecDepth 100000 in
set_option maxHeartbeats 4000000 in
theorem p_X3_pathBetween_J30 {A : AM} {E : EN} {n : Nat} (C : Cx A E cX3_pathBetween 4 RX3 0 0) (X : Ex A E (some .int)) {k2 : WS → Nat → Int32 → Int32 → Int32 → Option (Int32 × WS)} (hk2 : ∀ (S : WS) (h0 : Nat) (x1 : Int32) (x2 : Int32) (x3 : Int32) (_ : Ty E h0 2), Gd A E 4 (QM A E wI tT) (k2 S h0 x1 x2 x3) S 2 [(0, .ref h0), (1, .int x1), (2, .int x2), (3, .int x3)] []) (S : WS) (h0 : Nat) (x1 : Int32) (x2 : Int32) (x3 : Int32) (th0 : Ty E h0 2) : Gd A E 4 (QM A E wI tT) (f_X3_pathBetween_J30 E n k2 S h0 x1 x2 x3) S 30 [(0, .ref h0), (1, .int x1), (2, .int x2), (3, .int x3)] [] := by
  unfold f_X3_pathBetween_J30
  refine r_aload_n C 0 dX3_pathBetween_30 rfl ?_
  refine r_getr C fl_X3_15 dX3_pathBetween_31 th0 (fun b1 tb1 => ?_)
  refine r_iload_n C 3 dX3_pathBetween_34 rfl ?_
  refine r_iald C dX3_pathBetween_35 tb1 ?_
  refine r_iload_n C 2 dX3_pathBetween_36 rfl ?_
  refine r_icmp_ne C 52 dX3_pathBetween_37 (by decide) ?_ ?_
  · refine r_iinc C 3 (fun y2 => [(3, .int y2), (0, .ref h0), (1, .int x1), (2, .int x2)]) dX3_pathBetween_52 rfl (v := (1 : Int32)) (by decide) (by decide) (fun _ => rfl) (fun y2 => ?_)
    refine r_goto C 2 dX3_pathBetween_55 (by decide) ?_
    refine r_sub [1, 2, 3, 0] [(0, .ref h0), (1, .int x1), (2, .int x2), (3, .int y2)] rfl ?_
    exact hk2 S h0 x1 x2 y2 th0
  · refine r_aload_n C 0 dX3_pathBetween_40 rfl ?_
    refine r_getr C fl_X3_18 dX3_pathBetween_41 th0 (fun b3 tb3 => ?_)
    refine r_iload_n C 3 dX3_pathBetween_44 rfl ?_
    refine r_iald C dX3_pathBetween_45 tb3 ?_
    refine r_iload_n C 1 dX3_pathBetween_46 rfl ?_
    refine r_icmp_ne C 52 dX3_pathBetween_47 (by decide) ?_ ?_
    · refine r_iinc C 3 (fun y4 => [(3, .int y4), (0, .ref h0), (1, .int x1), (2, .int x2)]) dX3_pathBetween_52 rfl (v := (1 : Int32)) (by decide) (by decide) (fun _ => rfl) (fun y4 => ?_)
      refine r_goto C 2 dX3_pathBetween_55 (by decide) ?_
      refine r_sub [1, 2, 3, 0] [(0, .ref h0), (1, .int x1), (2, .int x2), (3, .int y4)] rfl ?_
      exact hk2 S h0 x1 x2 y4 th0
    · refine r_iload_n C 3 dX3_pathBetween_50 rfl ?_
      exact r_ireturn C X dX3_pathBetween_51
set_option maxRecDepth 100000 in
set_option maxHeartbeats 4000000 in
theorem p_X3_pathBetween_L2 {A : AM} {E : EN} {n : Nat} (C : Cx A E cX3_pathBetween 4 RX3 0 0) (X : Ex A E (some .int))  : ∀ (m : Nat) (S : WS) (h0 : Nat) (x1 : Int32) (x2 : Int32) (x3 : Int32) (th0 : Ty E h0 2), Gd A E 4 (QM A E wI tT) (f_X3_pathBetween_L2 E n  m S h0 x1 x2 x3) S 2 [(0, .ref h0), (1, .int x1), (2, .int x2), (3, .int x3)] [] := by
  intro m
  induction m with
  | zero => intros; exact gn
  | succ m ih =>
    intro S h0 x1 x2 x3 th0
    unfold f_X3_pathBetween_L2
    refine r_iload_n C 3 dX3_pathBetween_2 rfl ?_
    refine r_aload_n C 0 dX3_pathBetween_3 rfl ?_
    refine r_geti C fl_X3_58 dX3_pathBetween_4 th0 ?_
    refine r_icmp_ge C 58 dX3_pathBetween_7 (by decide) ?_ ?_
    · refine r_iconst C (-1 : Int32) dX3_pathBetween_58 (by decide) ?_
      exact r_ireturn C X dX3_pathBetween_59
    · refine r_aload_n C 0 dX3_pathBetween_10 rfl ?_
      refine r_getr C fl_X3_15 dX3_pathBetween_11 th0 (fun b1 tb1 => ?_)
      refine r_iload_n C 3 dX3_pathBetween_14 rfl ?_
      refine r_iald C dX3_pathBetween_15 tb1 ?_
      refine r_iload_n C 1 dX3_pathBetween_16 rfl ?_
      refine r_icmp_ne C 30 dX3_pathBetween_17 (by decide) ?_ ?_
      · exact p_X3_pathBetween_J30 C X ih S h0 x1 x2 x3 th0
      · refine r_aload_n C 0 dX3_pathBetween_20 rfl ?_
        refine r_getr C fl_X3_18 dX3_pathBetween_21 th0 (fun b2 tb2 => ?_)
        refine r_iload_n C 3 dX3_pathBetween_24 rfl ?_
        refine r_iald C dX3_pathBetween_25 tb2 ?_
        refine r_iload_n C 2 dX3_pathBetween_26 rfl ?_
        refine r_icmp_eq C 50 dX3_pathBetween_27 (by decide) ?_ ?_
        · refine r_iload_n C 3 dX3_pathBetween_50 rfl ?_
          exact r_ireturn C X dX3_pathBetween_51
        · exact p_X3_pathBetween_J30 C X ih S h0 x1 x2 x3 th0
set_option maxRecDepth 100000 in
set_option maxHeartbeats 4000000 in
theorem c_X3_pathBetween (l : Launch) (E : EN) (n : Nat) (h0 : Nat) (x1 : Int32) (x2 : Int32) (th0 : Ty E h0 2) : CT l E yX3_pathBetween cX3_pathBetween 4 (some .int) 0 0 wI tT [.ref h0, .int x1, .int x2] (fun S => f_X3_pathBetween E n S h0 x1 x2) := by
  refine ct_of RX3 (by decide +kernel) rfl [(0, .ref h0), (1, .int x1), (2, .int x2)] rfl (Nat.le_of_ble_eq_true rfl) (fun A S hA C X => ?_)
  subst hA
  show Gd A E 4 (QM A E wI tT) (f_X3_pathBetween E n S h0 x1 x2) S 0 [(0, .ref h0), (1, .int x1), (2, .int x2)] []
  unfold f_X3_pathBetween
  refine r_iconst C (0 : Int32) dX3_pathBetween_0 (by decide) ?_
  refine r_istore_n C [(3, .int (0 : Int32)), (0, .ref h0), (1, .int x1), (2, .int x2)] dX3_pathBetween_1 (by decide) rfl ?_
  refine r_sub [1, 2, 3, 0] [(0, .ref h0), (1, .int x1), (2, .int x2), (3, .int (0 : Int32))] rfl ?_
  exact p_X3_pathBetween_L2 C X  n S h0 x1 x2 (0 : Int32) th0
set_option maxRecDepth 100000 in
set_option maxHeartbeats 4000000 in
theorem c_X3_dropOf (l : Launch) (E : EN) (n : Nat) (h0 : Nat) (x1 : Int32) (th0 : Ty E h0 2) : CT l E yX3_dropOf cX3_dropOf 2 (some .int) 1 21 wI tT [.ref h0, .int x1] (fun S => f_X3_dropOf E n S h0 x1) := by
  refine ct_of RX3 (by decide +kernel) rfl [(0, .ref h0), (1, .int x1)] rfl (Nat.le_of_ble_eq_true rfl) (fun A S hA C X => ?_)
  subst hA
  show Gd A E 2 (QM A E wI tT) (f_X3_dropOf E n S h0 x1) S 0 [(0, .ref h0), (1, .int x1)] []
  unfold f_X3_dropOf
  refine r_aload_n C 0 dX3_dropOf_0 rfl ?_
  refine r_getr C fl_X3_9 dX3_dropOf_1 th0 (fun b1 tb1 => ?_)
  refine r_aload_n C 0 dX3_dropOf_4 rfl ?_
  refine r_getr C fl_X3_15 dX3_dropOf_5 th0 (fun b2 tb2 => ?_)
  refine r_iload_n C 1 dX3_dropOf_8 rfl ?_
  refine r_iald C dX3_dropOf_9 tb2 ?_
  refine r_iald C dX3_dropOf_10 tb1 ?_
  refine r_aload_n C 0 dX3_dropOf_11 rfl ?_
  refine r_getr C fl_X3_9 dX3_dropOf_12 th0 (fun b3 tb3 => ?_)
  refine r_aload_n C 0 dX3_dropOf_15 rfl ?_
  refine r_getr C fl_X3_18 dX3_dropOf_16 th0 (fun b4 tb4 => ?_)
  refine r_iload_n C 1 dX3_dropOf_19 rfl ?_
  refine r_iald C dX3_dropOf_20 tb4 ?_
  refine r_iald C dX3_dropOf_21 tb3 ?_
  refine r_isub C dX3_dropOf_22 ?_
  refine r_mabs C (mG 736 (by decide +kernel) rfl) mabs_w ⟨by decide, by decide⟩ (Nat.le_of_ble_eq_true rfl) dX3_dropOf_23 ?_
  exact r_ireturn C X dX3_dropOf_26
set_option maxRecDepth 100000 in
set_option maxHeartbeats 4000000 in
theorem p_X3_courtersOf_L5 {A : AM} {E : EN} {n : Nat} (C : Cx A E cX3_courtersOf 5 RX3 0 0) (X : Ex A E (some .int))  : ∀ (m : Nat) (S : WS) (h0 : Nat) (h1 : Nat) (x2 : Int32) (x3 : Int32) (x4 : Int32) (th0 : Ty E h0 2) (th1 : Ty E h1 10), Gd A E 5 (QM A E wI tT) (f_X3_courtersOf_L5 E n  m S h0 h1 x2 x3 x4) S 5 [(0, .ref h0), (1, .ref h1), (2, .int x2), (3, .int x3), (4, .int x4)] [] := by
  intro m
  induction m with
  | zero => intros; exact gn
  | succ m ih =>
    intro S h0 h1 x2 x3 x4 th0 th1
    unfold f_X3_courtersOf_L5
    refine r_iload C 4 dX3_courtersOf_5 rfl ?_
    refine r_aload_n C 0 dX3_courtersOf_7 rfl ?_
    refine r_geti C fl_X3_64 dX3_courtersOf_8 th0 ?_
    refine r_icmp_ge C 31 dX3_courtersOf_11 (by decide) ?_ ?_
    · refine r_iload_n C 3 dX3_courtersOf_31 rfl ?_
      exact r_ireturn C X dX3_courtersOf_32
    · refine r_aload_n C 1 dX3_courtersOf_14 rfl ?_
      refine r_iload C 4 dX3_courtersOf_15 rfl ?_
      refine r_iald C dX3_courtersOf_17 th1 ?_
      refine r_iload_n C 2 dX3_courtersOf_18 rfl ?_
      refine r_icmp_ne C 25 dX3_courtersOf_19 (by decide) ?_ ?_
      · refine r_iinc C 4 (fun y1 => [(4, .int y1), (0, .ref h0), (1, .ref h1), (2, .int x2), (3, .int x3)]) dX3_courtersOf_25 rfl (v := (1 : Int32)) (by decide) (by decide) (fun _ => rfl) (fun y1 => ?_)
        refine r_goto C 5 dX3_courtersOf_28 (by decide) ?_
        refine r_sub [1, 2, 3, 4, 0] [(0, .ref h0), (1, .ref h1), (2, .int x2), (3, .int x3), (4, .int y1)] rfl ?_
        exact ih S h0 h1 x2 x3 y1 th0 th1
      · refine r_iinc C 3 (fun y2 => [(3, .int y2), (0, .ref h0), (1, .ref h1), (2, .int x2), (4, .int x4)]) dX3_courtersOf_22 rfl (v := (1 : Int32)) (by decide) (by decide) (fun _ => rfl) (fun y2 => ?_)
        refine r_iinc C 4 (fun y3 => [(4, .int y3), (3, .int y2), (0, .ref h0), (1, .ref h1), (2, .int x2)]) dX3_courtersOf_25 rfl (v := (1 : Int32)) (by decide) (by decide) (fun _ => rfl) (fun y3 => ?_)
        refine r_goto C 5 dX3_courtersOf_28 (by decide) ?_
        refine r_sub [2, 3, 4, 1, 0] [(0, .ref h0), (1, .ref h1), (2, .int x2), (3, .int y2), (4, .int y3)] rfl ?_
        exact ih S h0 h1 x2 y2 y3 th0 th1
set_option maxRecDepth 100000 in
set_option maxHeartbeats 4000000 in
theorem c_X3_courtersOf (l : Launch) (E : EN) (n : Nat) (h0 : Nat) (h1 : Nat) (x2 : Int32) (th0 : Ty E h0 2) (th1 : Ty E h1 10) : CT l E yX3_courtersOf cX3_courtersOf 5 (some .int) 0 0 wI tT [.ref h0, .ref h1, .int x2] (fun S => f_X3_courtersOf E n S h0 h1 x2) := by
  refine ct_of RX3 (by decide +kernel) rfl [(0, .ref h0), (1, .ref h1), (2, .int x2)] rfl (Nat.le_of_ble_eq_true rfl) (fun A S hA C X => ?_)
  subst hA
  show Gd A E 5 (QM A E wI tT) (f_X3_courtersOf E n S h0 h1 x2) S 0 [(0, .ref h0), (1, .ref h1), (2, .int x2)] []
  unfold f_X3_courtersOf
  refine r_iconst C (0 : Int32) dX3_courtersOf_0 (by decide) ?_
  refine r_istore_n C [(3, .int (0 : Int32)), (0, .ref h0), (1, .ref h1), (2, .int x2)] dX3_courtersOf_1 (by decide) rfl ?_
  refine r_iconst C (0 : Int32) dX3_courtersOf_2 (by decide) ?_
  refine r_istore C [(4, .int (0 : Int32)), (3, .int (0 : Int32)), (0, .ref h0), (1, .ref h1), (2, .int x2)] dX3_courtersOf_3 (by decide) rfl ?_
  refine r_sub [2, 3, 4, 1, 0] [(0, .ref h0), (1, .ref h1), (2, .int x2), (3, .int (0 : Int32)), (4, .int (0 : Int32))] rfl ?_
  exact p_X3_courtersOf_L5 C X  n S h0 h1 x2 (0 : Int32) (0 : Int32) th0 th1
set_option maxRecDepth 100000 in
set_option maxHeartbeats 4000000 in
theorem p_X3_takenBy_L5 {A : AM} {E : EN} {n : Nat} (C : Cx A E cX3_takenBy 5 RX3 0 0) (X : Ex A E (some .int))  : ∀ (m : Nat) (S : WS) (h0 : Nat) (h1 : Nat) (x2 : Int32) (x3 : Int32) (x4 : Int32) (th0 : Ty E h0 2) (th1 : Ty E h1 10), Gd A E 5 (QM A E wI tT) (f_X3_takenBy_L5 E n  m S h0 h1 x2 x3 x4) S 5 [(0, .ref h0), (1, .ref h1), (2, .int x2), (3, .int x3), (4, .int x4)] [] := by
  intro m
  induction m with
  | zero => intros; exact gn
  | succ m ih =>
    intro S h0 h1 x2 x3 x4 th0 th1
    unfold f_X3_takenBy_L5
    refine r_iload C 4 dX3_takenBy_5 rfl ?_
    refine r_aload_n C 0 dX3_takenBy_7 rfl ?_
    refine r_geti C fl_X3_64 dX3_takenBy_8 th0 ?_
    refine r_icmp_ge C 52 dX3_takenBy_11 (by decide) ?_ ?_
    · refine r_iload_n C 3 dX3_takenBy_52 rfl ?_
      exact r_ireturn C X dX3_takenBy_53
    · refine r_aload_n C 1 dX3_takenBy_14 rfl ?_
      refine r_iload C 4 dX3_takenBy_15 rfl ?_
      refine r_iald C dX3_takenBy_17 th1 ?_
      refine r_iload_n C 2 dX3_takenBy_18 rfl ?_
      refine r_icmp_ne C 46 dX3_takenBy_19 (by decide) ?_ ?_
      · refine r_iinc C 4 (fun y1 => [(4, .int y1), (0, .ref h0), (1, .ref h1), (2, .int x2), (3, .int x3)]) dX3_takenBy_46 rfl (v := (1 : Int32)) (by decide) (by decide) (fun _ => rfl) (fun y1 => ?_)
        refine r_goto C 5 dX3_takenBy_49 (by decide) ?_
        refine r_sub [1, 2, 3, 4, 0] [(0, .ref h0), (1, .ref h1), (2, .int x2), (3, .int x3), (4, .int y1)] rfl ?_
        exact ih S h0 h1 x2 x3 y1 th0 th1
      · refine r_iload_n C 3 dX3_takenBy_22 rfl ?_
        refine r_iconst C (-1 : Int32) dX3_takenBy_23 (by decide) ?_
        refine r_icmp_eq C 43 dX3_takenBy_24 (by decide) ?_ ?_
        · refine r_iload C 4 dX3_takenBy_43 rfl ?_
          refine r_istore_n C [(3, .int x4), (0, .ref h0), (1, .ref h1), (2, .int x2), (4, .int x4)] dX3_takenBy_45 (by decide) rfl ?_
          refine r_iinc C 4 (fun y2 => [(4, .int y2), (3, .int x4), (0, .ref h0), (1, .ref h1), (2, .int x2)]) dX3_takenBy_46 rfl (v := (1 : Int32)) (by decide) (by decide) (fun _ => rfl) (fun y2 => ?_)
          refine r_goto C 5 dX3_takenBy_49 (by decide) ?_
          refine r_sub [2, 3, 4, 1, 0] [(0, .ref h0), (1, .ref h1), (2, .int x2), (3, .int x4), (4, .int y2)] rfl ?_
          exact ih S h0 h1 x2 x4 y2 th0 th1
        · refine r_aload_n C 0 dX3_takenBy_27 rfl ?_
          refine r_getr C fl_X3_27 dX3_takenBy_28 th0 (fun b3 tb3 => ?_)
          refine r_iload C 4 dX3_takenBy_31 rfl ?_
          refine r_iald C dX3_takenBy_33 tb3 ?_
          refine r_aload_n C 0 dX3_takenBy_34 rfl ?_
          refine r_getr C fl_X3_27 dX3_takenBy_35 th0 (fun b4 tb4 => ?_)
          refine r_iload_n C 3 dX3_takenBy_38 rfl ?_
          refine r_iald C dX3_takenBy_39 tb4 ?_
          refine r_icmp_le C 46 dX3_takenBy_40 (by decide) ?_ ?_
          · refine r_iinc C 4 (fun y5 => [(4, .int y5), (0, .ref h0), (1, .ref h1), (2, .int x2), (3, .int x3)]) dX3_takenBy_46 rfl (v := (1 : Int32)) (by decide) (by decide) (fun _ => rfl) (fun y5 => ?_)
            refine r_goto C 5 dX3_takenBy_49 (by decide) ?_
            refine r_sub [1, 2, 3, 4, 0] [(0, .ref h0), (1, .ref h1), (2, .int x2), (3, .int x3), (4, .int y5)] rfl ?_
            exact ih S h0 h1 x2 x3 y5 th0 th1
          · refine r_iload C 4 dX3_takenBy_43 rfl ?_
            refine r_istore_n C [(3, .int x4), (0, .ref h0), (1, .ref h1), (2, .int x2), (4, .int x4)] dX3_takenBy_45 (by decide) rfl ?_
            refine r_iinc C 4 (fun y6 => [(4, .int y6), (3, .int x4), (0, .ref h0), (1, .ref h1), (2, .int x2)]) dX3_takenBy_46 rfl (v := (1 : Int32)) (by decide) (by decide) (fun _ => rfl) (fun y6 => ?_)
            refine r_goto C 5 dX3_takenBy_49 (by decide) ?_
            refine r_sub [2, 3, 4, 1, 0] [(0, .ref h0), (1, .ref h1), (2, .int x2), (3, .int x4), (4, .int y6)] rfl ?_
            exact ih S h0 h1 x2 x4 y6 th0 th1
set_option maxRecDepth 100000 in
set_option maxHeartbeats 4000000 in
theorem c_X3_takenBy (l : Launch) (E : EN) (n : Nat) (h0 : Nat) (h1 : Nat) (x2 : Int32) (th0 : Ty E h0 2) (th1 : Ty E h1 10) : CT l E yX3_takenBy cX3_takenBy 5 (some .int) 0 0 wI tT [.ref h0, .ref h1, .int x2] (fun S => f_X3_takenBy E n S h0 h1 x2) := by
  refine ct_of RX3 (by decide +kernel) rfl [(0, .ref h0), (1, .ref h1), (2, .int x2)] rfl (Nat.le_of_ble_eq_true rfl) (fun A S hA C X => ?_)
  subst hA
  show Gd A E 5 (QM A E wI tT) (f_X3_takenBy E n S h0 h1 x2) S 0 [(0, .ref h0), (1, .ref h1), (2, .int x2)] []
  unfold f_X3_takenBy
  refine r_iconst C (-1 : Int32) dX3_takenBy_0 (by decide) ?_
  refine r_istore_n C [(3, .int (-1 : Int32)), (0, .ref h0), (1, .ref h1), (2, .int x2)] dX3_takenBy_1 (by decide) rfl ?_
  refine r_iconst C (0 : Int32) dX3_takenBy_2 (by decide) ?_
  refine r_istore C [(4, .int (0 : Int32)), (3, .int (-1 : Int32)), (0, .ref h0), (1, .ref h1), (2, .int x2)] dX3_takenBy_3 (by decide) rfl ?_
  refine r_sub [2, 3, 4, 1, 0] [(0, .ref h0), (1, .ref h1), (2, .int x2), (3, .int (-1 : Int32)), (4, .int (0 : Int32))] rfl ?_
  exact p_X3_takenBy_L5 C X  n S h0 h1 x2 (-1 : Int32) (0 : Int32) th0 th1
set_option maxRecDepth 100000 in
set_option maxHeartbeats 4000000 in
theorem c_X3_isRefused (l : Launch) (E : EN) (n : Nat) (h0 : Nat) (h1 : Nat) (x2 : Int32) (th0 : Ty E h0 2) (th1 : Ty E h1 10) : CT l E yX3_isRefused cX3_isRefused 3 (some .boolean) 1 24 wI tT [.ref h0, .ref h1, .int x2] (fun S => f_X3_isRefused E n S h0 h1 x2) := by
  refine ct_of RX3 (by decide +kernel) rfl [(0, .ref h0), (1, .ref h1), (2, .int x2)] rfl (Nat.le_of_ble_eq_true rfl) (fun A S hA C X => ?_)
  subst hA
  show Gd A E 3 (QM A E wI tT) (f_X3_isRefused E n S h0 h1 x2) S 0 [(0, .ref h0), (1, .ref h1), (2, .int x2)] []
  unfold f_X3_isRefused
  refine r_aload_n C 1 dX3_isRefused_0 rfl ?_
  refine r_iload_n C 2 dX3_isRefused_1 rfl ?_
  refine r_iald C dX3_isRefused_2 th1 ?_
  refine r_iconst C (-1 : Int32) dX3_isRefused_3 (by decide) ?_
  refine r_icmp_eq C 23 dX3_isRefused_4 (by decide) ?_ ?_
  · refine r_iconst C (0 : Int32) dX3_isRefused_23 (by decide) ?_
    exact r_zreturn C X rfl dX3_isRefused_24
  · refine r_aload_n C 0 dX3_isRefused_7 rfl ?_
    refine r_aload_n C 1 dX3_isRefused_8 rfl ?_
    refine r_aload_n C 1 dX3_isRefused_9 rfl ?_
    refine r_iload_n C 2 dX3_isRefused_10 rfl ?_
    refine r_iald C dX3_isRefused_11 th1 ?_
    refine r_callV (As := [.ref h1, .int (ai S h1 x2.toNatClampNeg)]) (rest := []) C (c_X3_takenBy _ E n h0 h1 (ai S h1 x2.toNatClampNeg) th0 th1) dX3_isRefused_12 ml_X3_93 mv_X3_takenBy ⟨TX3, _, rfl⟩ (by decide) th0 rfl rfl ⟨by decide, by decide⟩ (Nat.le_of_ble_eq_true rfl) (fun v2 S1 hv2 => ?_)
    refine r_iload_n C 2 dX3_isRefused_15 rfl ?_
    refine r_icmp_eq C 23 dX3_isRefused_16 (by decide) ?_ ?_
    · refine r_iconst C (0 : Int32) dX3_isRefused_23 (by decide) ?_
      exact r_zreturn C X rfl dX3_isRefused_24
    · refine r_iconst C (1 : Int32) dX3_isRefused_19 (by decide) ?_
      refine r_goto C 24 dX3_isRefused_20 (by decide) ?_
      exact r_zreturn C X rfl dX3_isRefused_24
set_option maxRecDepth 100000 in
set_option maxHeartbeats 4000000 in
theorem c_X3_wouldBeTaken (l : Launch) (E : EN) (n : Nat) (h0 : Nat) (h1 : Nat) (x2 : Int32) (x3 : Int32) (th0 : Ty E h0 2) (th1 : Ty E h1 10) : CT l E yX3_wouldBeTaken cX3_wouldBeTaken 5 (some .boolean) 1 24 wI tT [.ref h0, .ref h1, .int x2, .int x3] (fun S => f_X3_wouldBeTaken E n S h0 h1 x2 x3) := by
  refine ct_of RX3 (by decide +kernel) rfl [(0, .ref h0), (1, .ref h1), (2, .int x2), (3, .int x3)] rfl (Nat.le_of_ble_eq_true rfl) (fun A S hA C X => ?_)
  subst hA
  show Gd A E 5 (QM A E wI tT) (f_X3_wouldBeTaken E n S h0 h1 x2 x3) S 0 [(0, .ref h0), (1, .ref h1), (2, .int x2), (3, .int x3)] []
  unfold f_X3_wouldBeTaken
  refine r_aload_n C 0 dX3_wouldBeTaken_0 rfl ?_
  refine r_aload_n C 1 dX3_wouldBeTaken_1 rfl ?_
  refine r_iload_n C 3 dX3_wouldBeTaken_2 rfl ?_
  refine r_callV (As := [.ref h1, .int x3]) (rest := []) C (c_X3_takenBy _ E n h0 h1 x3 th0 th1) dX3_wouldBeTaken_3 ml_X3_93 mv_X3_takenBy ⟨TX3, _, rfl⟩ (by decide) th0 rfl rfl ⟨by decide, by decide⟩ (Nat.le_of_ble_eq_true rfl) (fun v2 S1 hv2 => ?_)
  refine r_istore C [(4, .int v2), (0, .ref h0), (1, .ref h1), (2, .int x2), (3, .int x3)] dX3_wouldBeTaken_6 (by decide) rfl ?_
  refine r_iload C 0 dX3_wouldBeTaken_8 rfl ?_
  refine r_iconst C (-1 : Int32) dX3_wouldBeTaken_10 (by decide) ?_
  refine r_icmp_eq C 52 dX3_wouldBeTaken_11 (by decide) ?_ ?_
  · refine r_iconst C (1 : Int32) dX3_wouldBeTaken_52 (by decide) ?_
    refine r_goto C 57 dX3_wouldBeTaken_53 (by decide) ?_
    exact r_zreturn C X rfl dX3_wouldBeTaken_57
  · refine r_aload_n C 1 dX3_wouldBeTaken_14 rfl ?_
    refine r_getr C fl_X3_27 dX3_wouldBeTaken_15 th0 (fun b3 tb3 => ?_)
    refine r_iload_n C 3 dX3_wouldBeTaken_18 rfl ?_
    refine r_iald C dX3_wouldBeTaken_19 tb3 ?_
    refine r_aload_n C 1 dX3_wouldBeTaken_20 rfl ?_
    refine r_getr C fl_X3_27 dX3_wouldBeTaken_21 th0 (fun b4 tb4 => ?_)
    refine r_iload C 0 dX3_wouldBeTaken_24 rfl ?_
    refine r_iald C dX3_wouldBeTaken_26 tb4 ?_
    refine r_icmp_gt C 52 dX3_wouldBeTaken_27 (by decide) ?_ ?_
    · refine r_iconst C (1 : Int32) dX3_wouldBeTaken_52 (by decide) ?_
      refine r_goto C 57 dX3_wouldBeTaken_53 (by decide) ?_
      exact r_zreturn C X rfl dX3_wouldBeTaken_57
    · refine r_aload_n C 1 dX3_wouldBeTaken_30 rfl ?_
      refine r_getr C fl_X3_27 dX3_wouldBeTaken_31 th0 (fun b5 tb5 => ?_)
      refine r_iload_n C 3 dX3_wouldBeTaken_34 rfl ?_
      refine r_iald C dX3_wouldBeTaken_35 tb5 ?_
      refine r_aload_n C 1 dX3_wouldBeTaken_36 rfl ?_
      refine r_getr C fl_X3_27 dX3_wouldBeTaken_37 th0 (fun b6 tb6 => ?_)
      refine r_iload C 0 dX3_wouldBeTaken_40 rfl ?_
      refine r_iald C dX3_wouldBeTaken_42 tb6 ?_
      refine r_icmp_ne C 56 dX3_wouldBeTaken_43 (by decide) ?_ ?_
      · refine r_iconst C (0 : Int32) dX3_wouldBeTaken_56 (by decide) ?_
        exact r_zreturn C X rfl dX3_wouldBeTaken_57
      · refine r_iload_n C 3 dX3_wouldBeTaken_46 rfl ?_
        refine r_iload C 0 dX3_wouldBeTaken_47 rfl ?_
        refine r_icmp_ge C 56 dX3_wouldBeTaken_49 (by decide) ?_ ?_
        · refine r_iconst C (0 : Int32) dX3_wouldBeTaken_56 (by decide) ?_
          exact r_zreturn C X rfl dX3_wouldBeTaken_57
        · refine r_iconst C (1 : Int32) dX3_wouldBeTaken_52 (by decide) ?_
          refine r_goto C 57 dX3_wouldBeTaken_53 (by decide) ?_
          exact r_zreturn C X rfl dX3_wouldBeTaken_57
set_option maxRecDepth 100000 in
set_option maxHeartbeats 4000000 in
theorem c_X3_wouldStep (l : Launch) (E : EN) (n : Nat) (h0 : Nat) (x1 : Int32) (x2 : Int32) (x3 : Int32) (x4 : Int32) (th0 : Ty E h0 2) : CT l E yX3_wouldStep cX3_wouldStep 5 (some .boolean) 0 0 wI tT [.ref h0, .int x1, .int x2, .int x3, .int x4] (fun S => f_X3_wouldStep E n S h0 x1 x2 x3 x4) := by
  refine ct_of RX3 (by decide +kernel) rfl [(0, .ref h0), (1, .int x1), (2, .int x2), (3, .int x3), (4, .int x4)] rfl (Nat.le_of_ble_eq_true rfl) (fun A S hA C X => ?_)
  subst hA
  show Gd A E 5 (QM A E wI tT) (f_X3_wouldStep E n S h0 x1 x2 x3 x4) S 0 [(0, .ref h0), (1, .int x1), (2, .int x2), (3, .int x3), (4, .int x4)] []
  unfold f_X3_wouldStep
  refine r_iload_n C 2 dX3_wouldStep_0 rfl ?_
  refine r_if_lt C 55 dX3_wouldStep_1 (by decide) ?_ ?_
  · refine r_iconst C (0 : Int32) dX3_wouldStep_55 (by decide) ?_
    exact r_zreturn C X rfl dX3_wouldStep_56
  · refine r_iload_n C 2 dX3_wouldStep_4 rfl ?_
    refine r_aload_n C 0 dX3_wouldStep_5 rfl ?_
    refine r_geti C fl_X3_61 dX3_wouldStep_6 th0 ?_
    refine r_icmp_ge C 55 dX3_wouldStep_9 (by decide) ?_ ?_
    · refine r_iconst C (0 : Int32) dX3_wouldStep_55 (by decide) ?_
      exact r_zreturn C X rfl dX3_wouldStep_56
    · refine r_aload_n C 0 dX3_wouldStep_12 rfl ?_
      refine r_getr C fl_X3_21 dX3_wouldStep_13 th0 (fun b1 tb1 => ?_)
      refine r_iload_n C 2 dX3_wouldStep_16 rfl ?_
      refine r_iald C dX3_wouldStep_17 tb1 ?_
      refine r_iload_n C 3 dX3_wouldStep_18 rfl ?_
      refine r_icmp_ne C 55 dX3_wouldStep_19 (by decide) ?_ ?_
      · refine r_iconst C (0 : Int32) dX3_wouldStep_55 (by decide) ?_
        exact r_zreturn C X rfl dX3_wouldStep_56
      · refine r_iload C 4 dX3_wouldStep_22 rfl ?_
        refine r_aload_n C 0 dX3_wouldStep_24 rfl ?_
        refine r_getr C fl_X3_24 dX3_wouldStep_25 th0 (fun b2 tb2 => ?_)
        refine r_iload_n C 2 dX3_wouldStep_28 rfl ?_
        refine r_iald C dX3_wouldStep_29 tb2 ?_
        refine r_icmp_lt C 55 dX3_wouldStep_30 (by decide) ?_ ?_
        · refine r_iconst C (0 : Int32) dX3_wouldStep_55 (by decide) ?_
          exact r_zreturn C X rfl dX3_wouldStep_56
        · refine r_iload C 4 dX3_wouldStep_33 rfl ?_
          refine r_aload_n C 0 dX3_wouldStep_35 rfl ?_
          refine r_getr C fl_X3_24 dX3_wouldStep_36 th0 (fun b3 tb3 => ?_)
          refine r_iload_n C 2 dX3_wouldStep_39 rfl ?_
          refine r_iald C dX3_wouldStep_40 tb3 ?_
          refine r_aload_n C 0 dX3_wouldStep_41 rfl ?_
          refine r_getr C fl_X3_27 dX3_wouldStep_42 th0 (fun b4 tb4 => ?_)
          refine r_iload_n C 1 dX3_wouldStep_45 rfl ?_
          refine r_iald C dX3_wouldStep_46 tb4 ?_
          refine r_iadd C dX3_wouldStep_47 ?_
          refine r_icmp_gt C 55 dX3_wouldStep_48 (by decide) ?_ ?_
          · refine r_iconst C (0 : Int32) dX3_wouldStep_55 (by decide) ?_
            exact r_zreturn C X rfl dX3_wouldStep_56
          · refine r_iconst C (1 : Int32) dX3_wouldStep_51 (by decide) ?_
            refine r_goto C 56 dX3_wouldStep_52 (by decide) ?_
            exact r_zreturn C X rfl dX3_wouldStep_56
set_option maxRecDepth 100000 in
set_option maxHeartbeats 4000000 in
theorem c_X3_hasStep (l : Launch) (E : EN) (n : Nat) (h0 : Nat) (x1 : Int32) (x2 : Int32) (x3 : Int32) (th0 : Ty E h0 2) : CT l E yX3_hasStep cX3_hasStep 4 (some .boolean) 1 24 wI tT [.ref h0, .int x1, .int x2, .int x3] (fun S => f_X3_hasStep E n S h0 x1 x2 x3) := by
  refine ct_of RX3 (by decide +kernel) rfl [(0, .ref h0), (1, .int x1), (2, .int x2), (3, .int x3)] rfl (Nat.le_of_ble_eq_true rfl) (fun A S hA C X => ?_)
  subst hA
  show Gd A E 4 (QM A E wI tT) (f_X3_hasStep E n S h0 x1 x2 x3) S 0 [(0, .ref h0), (1, .int x1), (2, .int x2), (3, .int x3)] []
  unfold f_X3_hasStep
  refine r_aload_n C 0 dX3_hasStep_0 rfl ?_
  refine r_iload_n C 1 dX3_hasStep_1 rfl ?_
  refine r_aload_n C 0 dX3_hasStep_2 rfl ?_
  refine r_getr C fl_X3_36 dX3_hasStep_3 th0 (fun b1 tb1 => ?_)
  refine r_iload_n C 1 dX3_hasStep_6 rfl ?_
  refine r_iald C dX3_hasStep_7 tb1 ?_
  refine r_iload_n C 2 dX3_hasStep_8 rfl ?_
  refine r_iload_n C 3 dX3_hasStep_9 rfl ?_
  refine r_callV (As := [.int x1, .int (ai S b1 x1.toNatClampNeg), .int x2, .int x3]) (rest := []) C (c_X3_wouldStep _ E n h0 x1 (ai S b1 x1.toNatClampNeg) x2 x3 th0) dX3_hasStep_10 ml_X3_112 mv_X3_wouldStep ⟨TX3, _, rfl⟩ (by decide) th0 rfl rfl ⟨by decide, by decide⟩ (Nat.le_of_ble_eq_true rfl) (fun v3 S2 hv3 => ?_)
  exact r_zreturnc C X dX3_hasStep_13
set_option maxRecDepth 100000 in
set_option maxHeartbeats 4000000 in
theorem p_X3_stepsOn_L6 {A : AM} {E : EN} {n : Nat} (C : Cx A E cX3_stepsOn 6 RX3 2 47) (X : Ex A E (some .int))  : ∀ (m : Nat) (S : WS) (h0 : Nat) (x1 : Int32) (x2 : Int32) (x3 : Int32) (x4 : Int32) (x5 : Int32) (th0 : Ty E h0 2), Gd A E 6 (QM A E wI tT) (f_X3_stepsOn_L6 E n  m S h0 x1 x2 x3 x4 x5) S 6 [(0, .ref h0), (1, .int x1), (2, .int x2), (3, .int x3), (4, .int x4), (5, .int x5)] [] := by
  intro m
  induction m with
  | zero => intros; exact gn
  | succ m ih =>
    intro S h0 x1 x2 x3 x4 x5 th0
    unfold f_X3_stepsOn_L6
    refine r_iload C 5 dX3_stepsOn_6 rfl ?_
    refine r_aload_n C 0 dX3_stepsOn_8 rfl ?_
    refine r_geti C fl_X3_64 dX3_stepsOn_9 th0 ?_
    refine r_icmp_ge C 41 dX3_stepsOn_12 (by decide) ?_ ?_
    · refine r_iload C 4 dX3_stepsOn_41 rfl ?_
      exact r_ireturn C X dX3_stepsOn_43
    · refine r_iload C 5 dX3_stepsOn_15 rfl ?_
      refine r_iload_n C 3 dX3_stepsOn_17 rfl ?_
      refine r_icmp_eq C 35 dX3_stepsOn_18 (by decide) ?_ ?_
      · refine r_iinc C 5 (fun y1 => [(5, .int y1), (0, .ref h0), (1, .int x1), (2, .int x2), (3, .int x3), (4, .int x4)]) dX3_stepsOn_35 rfl (v := (1 : Int32)) (by decide) (by decide) (fun _ => rfl) (fun y1 => ?_)
        refine r_goto C 6 dX3_stepsOn_38 (by decide) ?_
        refine r_sub [1, 2, 3, 4, 5, 0] [(0, .ref h0), (1, .int x1), (2, .int x2), (3, .int x3), (4, .int x4), (5, .int y1)] rfl ?_
        exact ih S h0 x1 x2 x3 x4 y1 th0
      · refine r_aload_n C 0 dX3_stepsOn_21 rfl ?_
        refine r_iload C 5 dX3_stepsOn_22 rfl ?_
        refine r_iload_n C 1 dX3_stepsOn_24 rfl ?_
        refine r_iload_n C 2 dX3_stepsOn_25 rfl ?_
        refine r_callV (As := [.int x5, .int x1, .int x2]) (rest := []) C (c_X3_hasStep _ E n h0 x5 x1 x2 th0) dX3_stepsOn_26 ml_X3_116 mv_X3_hasStep ⟨TX3, _, rfl⟩ (by decide) th0 rfl rfl ⟨by decide, by decide⟩ (Nat.le_of_ble_eq_true rfl) (fun v3 S2 hv3 => ?_)
        refine r_if_eq C 35 dX3_stepsOn_29 (by decide) ?_ ?_
        · refine r_iinc C 5 (fun y4 => [(5, .int y4), (0, .ref h0), (1, .int x1), (2, .int x2), (3, .int x3), (4, .int x4)]) dX3_stepsOn_35 rfl (v := (1 : Int32)) (by decide) (by decide) (fun _ => rfl) (fun y4 => ?_)
          refine r_goto C 6 dX3_stepsOn_38 (by decide) ?_
          refine r_sub [1, 2, 3, 4, 5, 0] [(0, .ref h0), (1, .int x1), (2, .int x2), (3, .int x3), (4, .int x4), (5, .int y4)] rfl ?_
          exact ih S2 h0 x1 x2 x3 x4 y4 th0
        · refine r_iinc C 4 (fun y5 => [(4, .int y5), (0, .ref h0), (1, .int x1), (2, .int x2), (3, .int x3), (5, .int x5)]) dX3_stepsOn_32 rfl (v := (1 : Int32)) (by decide) (by decide) (fun _ => rfl) (fun y5 => ?_)
          refine r_iinc C 5 (fun y6 => [(5, .int y6), (4, .int y5), (0, .ref h0), (1, .int x1), (2, .int x2), (3, .int x3)]) dX3_stepsOn_35 rfl (v := (1 : Int32)) (by decide) (by decide) (fun _ => rfl) (fun y6 => ?_)
          refine r_goto C 6 dX3_stepsOn_38 (by decide) ?_
          refine r_sub [2, 3, 4, 5, 1, 0] [(0, .ref h0), (1, .int x1), (2, .int x2), (3, .int x3), (4, .int y5), (5, .int y6)] rfl ?_
          exact ih S2 h0 x1 x2 x3 y5 y6 th0
set_option maxRecDepth 100000 in
set_option maxHeartbeats 4000000 in
theorem c_X3_stepsOn (l : Launch) (E : EN) (n : Nat) (h0 : Nat) (x1 : Int32) (x2 : Int32) (x3 : Int32) (th0 : Ty E h0 2) : CT l E yX3_stepsOn cX3_stepsOn 6 (some .int) 2 47 wI tT [.ref h0, .int x1, .int x2, .int x3] (fun S => f_X3_stepsOn E n S h0 x1 x2 x3) := by
  refine ct_of RX3 (by decide +kernel) rfl [(0, .ref h0), (1, .int x1), (2, .int x2), (3, .int x3)] rfl (Nat.le_of_ble_eq_true rfl) (fun A S hA C X => ?_)
  subst hA
  show Gd A E 6 (QM A E wI tT) (f_X3_stepsOn E n S h0 x1 x2 x3) S 0 [(0, .ref h0), (1, .int x1), (2, .int x2), (3, .int x3)] []
  unfold f_X3_stepsOn
  refine r_iconst C (0 : Int32) dX3_stepsOn_0 (by decide) ?_
  refine r_istore C [(4, .int (0 : Int32)), (0, .ref h0), (1, .int x1), (2, .int x2), (3, .int x3)] dX3_stepsOn_1 (by decide) rfl ?_
  refine r_iconst C (0 : Int32) dX3_stepsOn_3 (by decide) ?_
  refine r_istore C [(5, .int (0 : Int32)), (4, .int (0 : Int32)), (0, .ref h0), (1, .int x1), (2, .int x2), (3, .int x3)] dX3_stepsOn_4 (by decide) rfl ?_
  refine r_sub [2, 3, 4, 5, 1, 0] [(0, .ref h0), (1, .int x1), (2, .int x2), (3, .int x3), (4, .int (0 : Int32)), (5, .int (0 : Int32))] rfl ?_
  exact p_X3_stepsOn_L6 C X  n S h0 x1 x2 x3 (0 : Int32) (0 : Int32) th0
set_option maxRecDepth 100000 in
set_option maxHeartbeats 4000000 in
theorem c_X3_fallOf (l : Launch) (E : EN) (n : Nat) (h0 : Nat) (x1 : Int32) (x2 : Int32) (th0 : Ty E h0 2) : CT l E yX3_fallOf cX3_fallOf 4 (some .int) 2 46 wI tT [.ref h0, .int x1, .int x2] (fun S => f_X3_fallOf E n S h0 x1 x2) := by
  refine ct_of RX3 (by decide +kernel) rfl [(0, .ref h0), (1, .int x1), (2, .int x2)] rfl (Nat.le_of_ble_eq_true rfl) (fun A S hA C X => ?_)
  subst hA
  show Gd A E 4 (QM A E wI tT) (f_X3_fallOf E n S h0 x1 x2) S 0 [(0, .ref h0), (1, .int x1), (2, .int x2)] []
  unfold f_X3_fallOf
  refine r_aload_n C 0 dX3_fallOf_0 rfl ?_
  refine r_getr C fl_X3_39 dX3_fallOf_1 th0 (fun b1 tb1 => ?_)
  refine r_iload_n C 2 dX3_fallOf_4 rfl ?_
  refine r_iald C dX3_fallOf_5 tb1 ?_
  refine r_aload_n C 0 dX3_fallOf_6 rfl ?_
  refine r_aload_n C 0 dX3_fallOf_7 rfl ?_
  refine r_getr C fl_X3_36 dX3_fallOf_8 th0 (fun b2 tb2 => ?_)
  refine r_iload_n C 1 dX3_fallOf_11 rfl ?_
  refine r_callV (As := [.ref b2, .int x1]) (rest := [.int (ai S b1 x2.toNatClampNeg)]) C (c_X3_isRefused _ E n h0 b2 x1 th0 tb2) dX3_fallOf_12 ml_X3_97 mv_X3_isRefused ⟨TX3, _, rfl⟩ (by decide) th0 rfl rfl ⟨by decide, by decide⟩ (Nat.le_of_ble_eq_true rfl) (fun v4 S3 hv4 => ?_)
  refine r_if_eq C 27 dX3_fallOf_15 (by decide) ?_ ?_
  · refine r_iconst C (0 : Int32) dX3_fallOf_27 (by decide) ?_
    refine r_iadd C dX3_fallOf_28 ?_
    refine r_topi (fun y5 => ?_)
    refine r_istore_n C [(3, .int y5), (0, .ref h0), (1, .int x1), (2, .int x2)] dX3_fallOf_29 (by decide) rfl ?_
    refine r_iload_n C 0 dX3_fallOf_30 rfl ?_
    refine r_bipush C (100 : Int32) dX3_fallOf_31 (by decide) ?_
    refine r_mmin C (mG 849 (by decide +kernel) rfl) mmin_w ⟨by decide, by decide⟩ (Nat.le_of_ble_eq_true rfl) dX3_fallOf_33 ?_
    exact r_ireturn C X dX3_fallOf_36
  · refine r_aload_n C 0 dX3_fallOf_18 rfl ?_
    refine r_getr C fl_X3_30 dX3_fallOf_19 th0 (fun b6 tb6 => ?_)
    refine r_iload_n C 1 dX3_fallOf_22 rfl ?_
    refine r_iald C dX3_fallOf_23 tb6 ?_
    refine r_goto C 28 dX3_fallOf_24 (by decide) ?_
    refine r_iadd C dX3_fallOf_28 ?_
    refine r_topi (fun y7 => ?_)
    refine r_istore_n C [(3, .int y7), (0, .ref h0), (1, .int x1), (2, .int x2)] dX3_fallOf_29 (by decide) rfl ?_
    refine r_iload_n C 0 dX3_fallOf_30 rfl ?_
    refine r_bipush C (100 : Int32) dX3_fallOf_31 (by decide) ?_
    refine r_mmin C (mG 849 (by decide +kernel) rfl) mmin_w ⟨by decide, by decide⟩ (Nat.le_of_ble_eq_true rfl) dX3_fallOf_33 ?_
    exact r_ireturn C X dX3_fallOf_36
set_option maxRecDepth 100000 in
set_option maxHeartbeats 4000000 in
theorem p_X3_safeAlong_L6 {A : AM} {E : EN} {n : Nat} (C : Cx A E cX3_safeAlong 8 RX3 3 69) (X : Ex A E (some .long))  : ∀ (m : Nat) (S : WS) (h0 : Nat) (x3 : Int32) (x4 : Int32) (x5 : Int64) (x7 : Int32) (th0 : Ty E h0 2), Gd A E 8 (QM A E wJ tT) (f_X3_safeAlong_L6 E n  m S h0 x3 x4 x5 x7) S 6 [(0, .ref h0), (3, .int x3), (4, .int x4), (5, .long x5), (7, .int x7)] [] := by
  intro m
  induction m with
  | zero => intros; exact gn
  | succ m ih =>
    intro S h0 x3 x4 x5 x7 th0
    unfold f_X3_safeAlong_L6
    refine r_iload C 4 dX3_safeAlong_6 rfl ?_
    refine r_aload_n C 0 dX3_safeAlong_8 rfl ?_
    refine r_geti C fl_X3_64 dX3_safeAlong_9 th0 ?_
    refine r_icmp_ge C 54 dX3_safeAlong_12 (by decide) ?_ ?_
    · refine r_lload C 3 dX3_safeAlong_54 rfl ?_
      exact r_lreturn C X dX3_safeAlong_56
    · refine r_aload_n C 0 dX3_safeAlong_15 rfl ?_
      refine r_iload C 4 dX3_safeAlong_16 rfl ?_
      refine r_iload_n C 1 dX3_safeAlong_18 rfl ?_
      refine r_iload C 2 dX3_safeAlong_19 rfl ?_
      refine r_callV (As := [.int x7, .int x3, .int x4]) (rest := []) C (c_X3_hasStep _ E n h0 x7 x3 x4 th0) dX3_safeAlong_21 ml_X3_116 mv_X3_hasStep ⟨TX3, _, rfl⟩ (by decide) th0 rfl rfl ⟨by decide, by decide⟩ (Nat.le_of_ble_eq_true rfl) (fun v2 S1 hv2 => ?_)
      refine r_if_eq C 48 dX3_safeAlong_24 (by decide) ?_ ?_
      · refine r_iinc C 4 (fun y3 => [(7, .int y3), (0, .ref h0), (3, .int x3), (4, .int x4), (5, .long x5)]) dX3_safeAlong_48 rfl (v := (1 : Int32)) (by decide) (by decide) (fun _ => rfl) (fun y3 => ?_)
        refine r_goto C 6 dX3_safeAlong_51 (by decide) ?_
        refine r_sub [1, 2, 3, 4, 0] [(0, .ref h0), (3, .int x3), (4, .int x4), (5, .long x5), (7, .int y3)] rfl ?_
        exact ih S1 h0 x3 x4 x5 y3 th0
      · refine r_lload C 3 dX3_safeAlong_27 rfl ?_
        refine r_ldc2 C (100 : Int64) (mG 843 (by decide +kernel) rfl) dX3_safeAlong_29 ?_
        refine r_ldiv C dX3_safeAlong_32 ?_
        refine r_bipush C (100 : Int32) dX3_safeAlong_33 (by decide) ?_
        refine r_aload_n C 0 dX3_safeAlong_35 rfl ?_
        refine r_iload C 4 dX3_safeAlong_36 rfl ?_
        refine r_iload C 2 dX3_safeAlong_38 rfl ?_
        refine r_callV (As := [.int x7, .int x4]) (rest := [.int (100 : Int32), .long (x5 / (100 : Int64))]) C (c_X3_fallOf _ E n h0 x7 x4 th0) dX3_safeAlong_40 ml_X3_139 mv_X3_fallOf ⟨TX3, _, rfl⟩ (by decide) th0 rfl rfl ⟨by decide, by decide⟩ (Nat.le_of_ble_eq_true rfl) (fun v5 S4 hv5 => ?_)
        refine r_isub C dX3_safeAlong_43 ?_
        refine r_i2l C dX3_safeAlong_44 ?_
        refine r_lmul C dX3_safeAlong_45 ?_
        refine r_topl (fun y6 => ?_)
        refine r_lstore C [(5, .long y6), (0, .ref h0), (3, .int x3), (4, .int x4), (7, .int x7)] dX3_safeAlong_46 (by decide) rfl ?_
        refine r_iinc C 4 (fun y7 => [(7, .int y7), (5, .long y6), (0, .ref h0), (3, .int x3), (4, .int x4)]) dX3_safeAlong_48 rfl (v := (1 : Int32)) (by decide) (by decide) (fun _ => rfl) (fun y7 => ?_)
        refine r_goto C 6 dX3_safeAlong_51 (by decide) ?_
        refine r_sub [2, 3, 4, 1, 0] [(0, .ref h0), (3, .int x3), (4, .int x4), (5, .long y6), (7, .int y7)] rfl ?_
        exact ih S4 h0 x3 x4 y6 y7 th0
set_option maxRecDepth 100000 in
set_option maxHeartbeats 4000000 in
theorem c_X3_safeAlong (l : Launch) (E : EN) (n : Nat) (h0 : Nat) (x1 : Int64) (x3 : Int32) (x4 : Int32) (th0 : Ty E h0 2) : CT l E yX3_safeAlong cX3_safeAlong 8 (some .long) 3 69 wJ tT [.ref h0, .long x1, .int x3, .int x4] (fun S => f_X3_safeAlong E n S h0 x1 x3 x4) := by
  refine ct_of RX3 (by decide +kernel) rfl [(0, .ref h0), (1, .long x1), (3, .int x3), (4, .int x4)] rfl (Nat.le_of_ble_eq_true rfl) (fun A S hA C X => ?_)
  subst hA
  show Gd A E 8 (QM A E wJ tT) (f_X3_safeAlong E n S h0 x1 x3 x4) S 0 [(0, .ref h0), (1, .long x1), (3, .int x3), (4, .int x4)] []
  unfold f_X3_safeAlong
  refine r_lload_n C 1 dX3_safeAlong_0 rfl ?_
  refine r_lstore C [(5, .long x1), (0, .ref h0), (1, .long x1), (3, .int x3), (4, .int x4)] dX3_safeAlong_1 (by decide) rfl ?_
  refine r_iconst C (0 : Int32) dX3_safeAlong_3 (by decide) ?_
  refine r_istore C [(7, .int (0 : Int32)), (5, .long x1), (0, .ref h0), (1, .long x1), (3, .int x3), (4, .int x4)] dX3_safeAlong_4 (by decide) rfl ?_
  refine r_sub [2, 4, 5, 1, 0] [(0, .ref h0), (3, .int x3), (4, .int x4), (5, .long x1), (7, .int (0 : Int32))] rfl ?_
  exact p_X3_safeAlong_L6 C X  n S h0 x3 x4 x1 (0 : Int32) th0
set_option maxRecDepth 100000 in
set_option maxHeartbeats 4000000 in
theorem p_X3_placesFrom_L22 {A : AM} {E : EN} {n : Nat} (C : Cx A E cX3_placesFrom 8 RX3 0 0) (X : Ex A E (some .int)) {k7 : WS → Nat → Int32 → Int32 → Int32 → Option (Int32 × WS)} (hk7 : ∀ (S : WS) (h0 : Nat) (x2 : Int32) (x3 : Int32) (x4 : Int32) (_ : Ty E h0 2), Gd A E 8 (QM A E wI tT) (k7 S h0 x2 x3 x4) S 7 [(0, .ref h0), (2, .int x2), (3, .int x3), (4, .int x4)] []) : ∀ (m : Nat) (S : WS) (h0 : Nat) (x2 : Int32) (x3 : Int32) (x4 : Int32) (x5 : Int32) (x6 : Int32) (th0 : Ty E h0 2), Gd A E 8 (QM A E wI tT) (f_X3_placesFrom_L22 E n k7 m S h0 x2 x3 x4 x5 x6) S 22 [(0, .ref h0), (2, .int x2), (3, .int x3), (4, .int x4), (5, .int x5), (6, .int x6)] [] := by
  intro m
  induction m with
  | zero => intros; exact gn
  | succ m ih =>
    intro S h0 x2 x3 x4 x5 x6 th0
    unfold f_X3_placesFrom_L22
    refine r_iload C 5 dX3_placesFrom_22 rfl ?_
    refine r_aload_n C 0 dX3_placesFrom_24 rfl ?_
    refine r_geti C fl_X3_58 dX3_placesFrom_25 th0 ?_
    refine r_icmp_ge C 80 dX3_placesFrom_28 (by decide) ?_ ?_
    · refine r_iload_n C 2 dX3_placesFrom_80 rfl ?_
      refine r_iload C 4 dX3_placesFrom_81 rfl ?_
      refine r_icmp_ne C 89 dX3_placesFrom_83 (by decide) ?_ ?_
      · refine r_iinc C 3 (fun y1 => [(4, .int y1), (0, .ref h0), (2, .int x2), (3, .int x3), (5, .int x5), (6, .int x6)]) dX3_placesFrom_89 rfl (v := (1 : Int32)) (by decide) (by decide) (fun _ => rfl) (fun y1 => ?_)
        refine r_goto C 7 dX3_placesFrom_92 (by decide) ?_
        refine r_sub [1, 2, 3, 0] [(0, .ref h0), (2, .int x2), (3, .int x3), (4, .int y1)] rfl ?_
        exact hk7 S h0 x2 x3 y1 th0
      · refine r_goto C 95 dX3_placesFrom_86 (by decide) ?_
        refine r_iload_n C 2 dX3_placesFrom_95 rfl ?_
        exact r_ireturn C X dX3_placesFrom_96
    · refine r_iconst C (1 : Int32) dX3_placesFrom_31 (by decide) ?_
      refine r_aload_n C 0 dX3_placesFrom_32 rfl ?_
      refine r_getr C fl_X3_15 dX3_placesFrom_33 th0 (fun b2 tb2 => ?_)
      refine r_iload C 5 dX3_placesFrom_36 rfl ?_
      refine r_iald C dX3_placesFrom_38 tb2 ?_
      refine r_ishl C dX3_placesFrom_39 ?_
      refine r_iconst C (1 : Int32) dX3_placesFrom_40 (by decide) ?_
      refine r_aload_n C 0 dX3_placesFrom_41 rfl ?_
      refine r_getr C fl_X3_18 dX3_placesFrom_42 th0 (fun b3 tb3 => ?_)
      refine r_iload C 5 dX3_placesFrom_45 rfl ?_
      refine r_iald C dX3_placesFrom_47 tb3 ?_
      refine r_ishl C dX3_placesFrom_48 ?_
      refine r_ior C dX3_placesFrom_49 ?_
      refine r_topi (fun y4 => ?_)
      refine r_istore C [(7, .int y4), (0, .ref h0), (2, .int x2), (3, .int x3), (4, .int x4), (5, .int x5), (6, .int x6)] dX3_placesFrom_50 (by decide) rfl ?_
      refine r_iload_n C 2 dX3_placesFrom_52 rfl ?_
      refine r_iload C 6 dX3_placesFrom_53 rfl ?_
      refine r_ishr C dX3_placesFrom_55 ?_
      refine r_iconst C (1 : Int32) dX3_placesFrom_56 (by decide) ?_
      refine r_iand C dX3_placesFrom_57 ?_
      refine r_iconst C (1 : Int32) dX3_placesFrom_58 (by decide) ?_
      refine r_icmp_ne C 74 dX3_placesFrom_59 (by decide) ?_ ?_
      · refine r_iinc C 6 (fun y5 => [(6, .int y5), (7, .int y4), (0, .ref h0), (2, .int x2), (3, .int x3), (4, .int x4), (5, .int x5)]) dX3_placesFrom_74 rfl (v := (1 : Int32)) (by decide) (by decide) (fun _ => rfl) (fun y5 => ?_)
        refine r_goto C 22 dX3_placesFrom_77 (by decide) ?_
        refine r_sub [2, 3, 4, 5, 6, 0] [(0, .ref h0), (2, .int x2), (3, .int x3), (4, .int x4), (5, .int x5), (6, .int y5)] rfl ?_
        exact ih S h0 x2 x3 x4 x5 y5 th0
      · refine r_iload_n C 3 dX3_placesFrom_62 rfl ?_
        refine r_iload C 0 dX3_placesFrom_63 rfl ?_
        refine r_iand C dX3_placesFrom_65 ?_
        refine r_if_eq C 74 dX3_placesFrom_66 (by decide) ?_ ?_
        · refine r_iinc C 6 (fun y6 => [(6, .int y6), (7, .int y4), (0, .ref h0), (2, .int x2), (3, .int x3), (4, .int x4), (5, .int x5)]) dX3_placesFrom_74 rfl (v := (1 : Int32)) (by decide) (by decide) (fun _ => rfl) (fun y6 => ?_)
          refine r_goto C 22 dX3_placesFrom_77 (by decide) ?_
          refine r_sub [2, 3, 4, 5, 6, 0] [(0, .ref h0), (2, .int x2), (3, .int x3), (4, .int x4), (5, .int x5), (6, .int y6)] rfl ?_
          exact ih S h0 x2 x3 x4 x5 y6 th0
        · refine r_iload_n C 3 dX3_placesFrom_69 rfl ?_
          refine r_iload C 0 dX3_placesFrom_70 rfl ?_
          refine r_ior C dX3_placesFrom_72 ?_
          refine r_topi (fun y7 => ?_)
          refine r_istore_n C [(3, .int y7), (7, .int y4), (0, .ref h0), (2, .int x2), (4, .int x4), (5, .int x5), (6, .int x6)] dX3_placesFrom_73 (by decide) rfl ?_
          refine r_iinc C 6 (fun y8 => [(6, .int y8), (3, .int y7), (7, .int y4), (0, .ref h0), (2, .int x2), (4, .int x4), (5, .int x5)]) dX3_placesFrom_74 rfl (v := (1 : Int32)) (by decide) (by decide) (fun _ => rfl) (fun y8 => ?_)
          refine r_goto C 22 dX3_placesFrom_77 (by decide) ?_
          refine r_sub [3, 4, 1, 5, 6, 0] [(0, .ref h0), (2, .int x2), (3, .int y7), (4, .int x4), (5, .int x5), (6, .int y8)] rfl ?_
          exact ih S h0 x2 y7 x4 x5 y8 th0
set_option maxRecDepth 100000 in
set_option maxHeartbeats 4000000 in
theorem p_X3_placesFrom_L7 {A : AM} {E : EN} {n : Nat} (C : Cx A E cX3_placesFrom 8 RX3 0 0) (X : Ex A E (some .int))  : ∀ (m : Nat) (S : WS) (h0 : Nat) (x2 : Int32) (x3 : Int32) (x4 : Int32) (th0 : Ty E h0 2), Gd A E 8 (QM A E wI tT) (f_X3_placesFrom_L7 E n  m S h0 x2 x3 x4) S 7 [(0, .ref h0), (2, .int x2), (3, .int x3), (4, .int x4)] [] := by
  intro m
  induction m with
  | zero => intros; exact gn
  | succ m ih =>
    intro S h0 x2 x3 x4 th0
    unfold f_X3_placesFrom_L7
    refine r_iload C 3 dX3_placesFrom_7 rfl ?_
    refine r_aload_n C 0 dX3_placesFrom_9 rfl ?_
    refine r_geti C fl_X3_52 dX3_placesFrom_10 th0 ?_
    refine r_icmp_ge C 95 dX3_placesFrom_13 (by decide) ?_ ?_
    · refine r_iload_n C 2 dX3_placesFrom_95 rfl ?_
      exact r_ireturn C X dX3_placesFrom_96
    · refine r_iload_n C 2 dX3_placesFrom_16 rfl ?_
      refine r_istore C [(5, .int x3), (0, .ref h0), (2, .int x2), (3, .int x3), (4, .int x4)] dX3_placesFrom_17 (by decide) rfl ?_
      refine r_iconst C (0 : Int32) dX3_placesFrom_19 (by decide) ?_
      refine r_istore C [(6, .int (0 : Int32)), (5, .int x3), (0, .ref h0), (2, .int x2), (3, .int x3), (4, .int x4)] dX3_placesFrom_20 (by decide) rfl ?_
      refine r_sub [2, 3, 4, 5, 1, 0] [(0, .ref h0), (2, .int x2), (3, .int x3), (4, .int x4), (5, .int x3), (6, .int (0 : Int32))] rfl ?_
      exact p_X3_placesFrom_L22 C X ih n S h0 x2 x3 x4 x3 (0 : Int32) th0
set_option maxRecDepth 100000 in
set_option maxHeartbeats 4000000 in
theorem c_X3_placesFrom (l : Launch) (E : EN) (n : Nat) (h0 : Nat) (x1 : Int32) (x2 : Int32) (th0 : Ty E h0 2) : CT l E yX3_placesFrom cX3_placesFrom 8 (some .int) 0 0 wI tT [.ref h0, .int x1, .int x2] (fun S => f_X3_placesFrom E n S h0 x1 x2) := by
  refine ct_of RX3 (by decide +kernel) rfl [(0, .ref h0), (1, .int x1), (2, .int x2)] rfl (Nat.le_of_ble_eq_true rfl) (fun A S hA C X => ?_)
  subst hA
  show Gd A E 8 (QM A E wI tT) (f_X3_placesFrom E n S h0 x1 x2) S 0 [(0, .ref h0), (1, .int x1), (2, .int x2)] []
  unfold f_X3_placesFrom
  refine r_iconst C (1 : Int32) dX3_placesFrom_0 (by decide) ?_
  refine r_iload_n C 1 dX3_placesFrom_1 rfl ?_
  refine r_ishl C dX3_placesFrom_2 ?_
  refine r_topi (fun y1 => ?_)
  refine r_istore_n C [(3, .int y1), (0, .ref h0), (1, .int x1), (2, .int x2)] dX3_placesFrom_3 (by decide) rfl ?_
  refine r_iconst C (0 : Int32) dX3_placesFrom_4 (by decide) ?_
  refine r_istore C [(4, .int (0 : Int32)), (3, .int y1), (0, .ref h0), (1, .int x1), (2, .int x2)] dX3_placesFrom_5 (by decide) rfl ?_
  refine r_sub [2, 4, 1, 0] [(0, .ref h0), (2, .int x2), (3, .int y1), (4, .int (0 : Int32))] rfl ?_
  exact p_X3_placesFrom_L7 C X  n S h0 x2 y1 (0 : Int32) th0
set_option maxRecDepth 100000 in
set_option maxHeartbeats 4000000 in
theorem c_X8_copyRow (l : Launch) (E : EN) (n : Nat) (h0 : Nat) (h1 : Nat) (th0 : Ty E h0 10) (th1 : Ty E h1 10) : CT l E yX8_copyRow cX8_copyRow 2 none 1 30 wV tT [.ref h0, .ref h1] (fun S => f_X8_copyRow E n S h0 h1) := by
  refine ct_of RX8 (by decide +kernel) rfl [(0, .ref h0), (1, .ref h1)] rfl (Nat.le_of_ble_eq_true rfl) (fun A S hA C X => ?_)
  subst hA
  show Gd A E 2 (QM A E wV tT) (f_X8_copyRow E n S h0 h1) S 0 [(0, .ref h0), (1, .ref h1)] []
  unfold f_X8_copyRow
  refine r_aload_n C 0 dX8_copyRow_0 rfl ?_
  refine r_iconst C (0 : Int32) dX8_copyRow_1 (by decide) ?_
  refine r_aload_n C 1 dX8_copyRow_2 rfl ?_
  refine r_iconst C (0 : Int32) dX8_copyRow_3 (by decide) ?_
  refine r_aload_n C 0 dX8_copyRow_4 rfl ?_
  refine r_alen C (k := 10) rfl (by decide) dX8_copyRow_5 th0 ?_
  refine r_aload_n C 1 dX8_copyRow_6 rfl ?_
  refine r_alen C (k := 10) rfl (by decide) dX8_copyRow_7 th1 ?_
  refine r_mmin C (mG 924 (by decide +kernel) rfl) mmin_w ⟨by decide, by decide⟩ (Nat.le_of_ble_eq_true rfl) dX8_copyRow_8 ?_
  refine r_copyi C (mG 925 (by decide +kernel) rfl) mcopy_w ⟨by decide, by decide⟩ (Nat.le_of_ble_eq_true rfl) th0 th1 dX8_copyRow_11 (fun S1 => ?_)
  exact r_return C X dX8_copyRow_14
set_option maxRecDepth 100000 in
set_option maxHeartbeats 4000000 in
theorem c_X8_roundedUp (l : Launch) (E : EN) (n : Nat) (x0 : Int32) (x1 : Int32) : CT l E yX8_roundedUp cX8_roundedUp 2 (some .int) 0 0 wI tT [.int x0, .int x1] (fun S => f_X8_roundedUp E n S x0 x1) := by
  refine ct_of RX8 (by decide +kernel) rfl [(0, .int x0), (1, .int x1)] rfl (Nat.le_of_ble_eq_true rfl) (fun A S hA C X => ?_)
  subst hA
  show Gd A E 2 (QM A E wI tT) (f_X8_roundedUp E n S x0 x1) S 0 [(0, .int x0), (1, .int x1)] []
  unfold f_X8_roundedUp
  refine r_iload_n C 1 dX8_roundedUp_0 rfl ?_
  refine r_if_le C 14 dX8_roundedUp_1 (by decide) ?_ ?_
  · refine r_iconst C (0 : Int32) dX8_roundedUp_14 (by decide) ?_
    exact r_ireturn C X dX8_roundedUp_15
  · refine r_iload_n C 0 dX8_roundedUp_4 rfl ?_
    refine r_iload_n C 1 dX8_roundedUp_5 rfl ?_
    refine r_iadd C dX8_roundedUp_6 ?_
    refine r_iconst C (1 : Int32) dX8_roundedUp_7 (by decide) ?_
    refine r_isub C dX8_roundedUp_8 ?_
    refine r_iload_n C 1 dX8_roundedUp_9 rfl ?_
    refine r_idiv C dX8_roundedUp_10 ?_
    refine r_goto C 15 dX8_roundedUp_11 (by decide) ?_
    exact r_ireturn C X dX8_roundedUp_15
set_option maxRecDepth 100000 in
set_option maxHeartbeats 4000000 in
theorem c_X8_lacking (l : Launch) (E : EN) (n : Nat) (x0 : Int32) (x1 : Int32) (x2 : Int32) : CT l E yX8_lacking cX8_lacking 3 (some .int) 1 21 wI tT [.int x0, .int x1, .int x2] (fun S => f_X8_lacking E n S x0 x1 x2) := by
  refine ct_of RX8 (by decide +kernel) rfl [(0, .int x0), (1, .int x1), (2, .int x2)] rfl (Nat.le_of_ble_eq_true rfl) (fun A S hA C X => ?_)
  subst hA
  show Gd A E 3 (QM A E wI tT) (f_X8_lacking E n S x0 x1 x2) S 0 [(0, .int x0), (1, .int x1), (2, .int x2)] []
  unfold f_X8_lacking
  refine r_iload_n C 0 dX8_lacking_0 rfl ?_
  refine r_iload_n C 2 dX8_lacking_1 rfl ?_
  refine r_iload_n C 1 dX8_lacking_2 rfl ?_
  refine r_iconst C (1 : Int32) dX8_lacking_3 (by decide) ?_
  refine r_iadd C dX8_lacking_4 ?_
  refine r_imul C dX8_lacking_5 ?_
  refine r_icmp_gt C 11 dX8_lacking_6 (by decide) ?_ ?_
  · refine r_iload_n C 2 dX8_lacking_11 rfl ?_
    refine r_if_ne C 19 dX8_lacking_12 (by decide) ?_ ?_
    · refine r_iload_n C 0 dX8_lacking_19 rfl ?_
      refine r_iload_n C 2 dX8_lacking_20 rfl ?_
      refine r_callS (As := [.int x0, .int x2]) (rest := []) C (c_X8_roundedUp _ E n x0 x2 ) dX8_lacking_21 ml_X8_429 mv_X8_roundedUp rfl rfl ⟨by decide, by decide⟩ (Nat.le_of_ble_eq_true rfl) (fun v2 S1 hv2 => ?_)
      refine r_iconst C (1 : Int32) dX8_lacking_24 (by decide) ?_
      refine r_isub C dX8_lacking_25 ?_
      refine r_iload_n C 1 dX8_lacking_26 rfl ?_
      refine r_isub C dX8_lacking_27 ?_
      exact r_ireturn C X dX8_lacking_28
    · refine r_iconst C (-1 : Int32) dX8_lacking_15 (by decide) ?_
      refine r_goto C 28 dX8_lacking_16 (by decide) ?_
      exact r_ireturn C X dX8_lacking_28
  · refine r_iconst C (0 : Int32) dX8_lacking_9 (by decide) ?_
    exact r_ireturn C X dX8_lacking_10
set_option maxRecDepth 100000 in
set_option maxHeartbeats 4000000 in
theorem p_J7_fill_d0a16_L6 {A : AM} {E : EN} {n : Nat} (C : Cx A E cJ7_fill_d0a16 5 RJ7 0 0) (X : Ex A E none)  : ∀ (m : Nat) (S : WS) (h0 : Nat) (x1 : Int64) (x3 : Int32) (x4 : Int32) (th0 : Ty E h0 11), Gd A E 5 (QM A E wV tT) (f_J7_fill_d0a16_L6 E n  m S h0 x1 x3 x4) S 6 [(0, .ref h0), (1, .long x1), (3, .int x3), (4, .int x4)] [] := by
  intro m
  induction m with
  | zero => intros; exact gn
  | succ m ih =>
    intro S h0 x1 x3 x4 th0
    unfold f_J7_fill_d0a16_L6
    refine r_iload_n C 2 dJ7_fill_d0a16_6 rfl ?_
    refine r_iload C 3 dJ7_fill_d0a16_7 rfl ?_
    refine r_icmp_ge C 22 dJ7_fill_d0a16_9 (by decide) ?_ ?_
    · exact r_return C X dJ7_fill_d0a16_22
    · refine r_aload_n C 0 dJ7_fill_d0a16_12 rfl ?_
      refine r_iload_n C 2 dJ7_fill_d0a16_13 rfl ?_
      refine r_lload_n C 1 dJ7_fill_d0a16_14 rfl ?_
      refine r_last C dJ7_fill_d0a16_15 th0 (fun S1 => ?_)
      refine r_iinc C 2 (fun y2 => [(3, .int y2), (0, .ref h0), (1, .long x1), (4, .int x4)]) dJ7_fill_d0a16_16 rfl (v := (1 : Int32)) (by decide) (by decide) (fun _ => rfl) (fun y2 => ?_)
      refine r_goto C 6 dJ7_fill_d0a16_19 (by decide) ?_
      refine r_sub [1, 2, 0, 3] [(0, .ref h0), (1, .long x1), (3, .int y2), (4, .int x4)] rfl ?_
      exact ih S1 h0 x1 y2 x4 th0
set_option maxRecDepth 100000 in
set_option maxHeartbeats 4000000 in
theorem c_J7_fill_d0a16 (l : Launch) (E : EN) (n : Nat) (h0 : Nat) (x1 : Int64) (th0 : Ty E h0 11) : CT l E yJ7_fill_d0a16 cJ7_fill_d0a16 5 none 0 0 wV tT [.ref h0, .long x1] (fun S => f_J7_fill_d0a16 E n S h0 x1) := by
  refine ct_of RJ7 (by decide +kernel) rfl [(0, .ref h0), (1, .long x1)] rfl (Nat.le_of_ble_eq_true rfl) (fun A S hA C X => ?_)
  subst hA
  show Gd A E 5 (QM A E wV tT) (f_J7_fill_d0a16 E n S h0 x1) S 0 [(0, .ref h0), (1, .long x1)] []
  unfold f_J7_fill_d0a16
  refine r_iconst C (0 : Int32) dJ7_fill_d0a16_0 (by decide) ?_
  refine r_istore_n C [(3, .int (0 : Int32)), (0, .ref h0), (1, .long x1)] dJ7_fill_d0a16_1 (by decide) rfl ?_
  refine r_aload_n C 1 dJ7_fill_d0a16_2 rfl ?_
  refine r_alen C (k := 11) rfl (by decide) dJ7_fill_d0a16_3 th0 ?_
  refine r_topi (fun y1 => ?_)
  refine r_istore C [(4, .int y1), (3, .int (0 : Int32)), (0, .ref h0), (1, .long x1)] dJ7_fill_d0a16_4 (by decide) rfl ?_
  refine r_sub [2, 3, 1, 0] [(0, .ref h0), (1, .long x1), (3, .int (0 : Int32)), (4, .int y1)] rfl ?_
  exact p_J7_fill_d0a16_L6 C X  n S h0 x1 (0 : Int32) y1 th0
set_option maxRecDepth 100000 in
set_option maxHeartbeats 4000000 in
theorem p_J7_fill_53178_L5 {A : AM} {E : EN} {n : Nat} (C : Cx A E cJ7_fill_53178 4 RJ7 0 0) (X : Ex A E none)  : ∀ (m : Nat) (S : WS) (h0 : Nat) (x1 : Int32) (x2 : Int32) (x3 : Int32) (th0 : Ty E h0 10), Gd A E 4 (QM A E wV tT) (f_J7_fill_53178_L5 E n  m S h0 x1 x2 x3) S 5 [(0, .ref h0), (1, .int x1), (2, .int x2), (3, .int x3)] [] := by
  intro m
  induction m with
  | zero => intros; exact gn
  | succ m ih =>
    intro S h0 x1 x2 x3 th0
    unfold f_J7_fill_53178_L5
    refine r_iload_n C 2 dJ7_fill_53178_5 rfl ?_
    refine r_iload_n C 3 dJ7_fill_53178_6 rfl ?_
    refine r_icmp_ge C 20 dJ7_fill_53178_7 (by decide) ?_ ?_
    · exact r_return C X dJ7_fill_53178_20
    · refine r_aload_n C 0 dJ7_fill_53178_10 rfl ?_
      refine r_iload_n C 2 dJ7_fill_53178_11 rfl ?_
      refine r_iload_n C 1 dJ7_fill_53178_12 rfl ?_
      refine r_iast C dJ7_fill_53178_13 th0 (fun S1 => ?_)
      refine r_iinc C 2 (fun y2 => [(2, .int y2), (0, .ref h0), (1, .int x1), (3, .int x3)]) dJ7_fill_53178_14 rfl (v := (1 : Int32)) (by decide) (by decide) (fun _ => rfl) (fun y2 => ?_)
      refine r_goto C 5 dJ7_fill_53178_17 (by decide) ?_
      refine r_sub [1, 2, 0, 3] [(0, .ref h0), (1, .int x1), (2, .int y2), (3, .int x3)] rfl ?_
      exact ih S1 h0 x1 y2 x3 th0
set_option maxRecDepth 100000 in
set_option maxHeartbeats 4000000 in
theorem c_J7_fill_53178 (l : Launch) (E : EN) (n : Nat) (h0 : Nat) (x1 : Int32) (th0 : Ty E h0 10) : CT l E yJ7_fill_53178 cJ7_fill_53178 4 none 0 0 wV tT [.ref h0, .int x1] (fun S => f_J7_fill_53178 E n S h0 x1) := by
  refine ct_of RJ7 (by decide +kernel) rfl [(0, .ref h0), (1, .int x1)] rfl (Nat.le_of_ble_eq_true rfl) (fun A S hA C X => ?_)
  subst hA
  show Gd A E 4 (QM A E wV tT) (f_J7_fill_53178 E n S h0 x1) S 0 [(0, .ref h0), (1, .int x1)] []
  unfold f_J7_fill_53178
  refine r_iconst C (0 : Int32) dJ7_fill_53178_0 (by decide) ?_
  refine r_istore_n C [(2, .int (0 : Int32)), (0, .ref h0), (1, .int x1)] dJ7_fill_53178_1 (by decide) rfl ?_
  refine r_aload_n C 1 dJ7_fill_53178_2 rfl ?_
  refine r_alen C (k := 10) rfl (by decide) dJ7_fill_53178_3 th0 ?_
  refine r_topi (fun y1 => ?_)
  refine r_istore_n C [(3, .int y1), (2, .int (0 : Int32)), (0, .ref h0), (1, .int x1)] dJ7_fill_53178_4 (by decide) rfl ?_
  refine r_sub [2, 3, 1, 0] [(0, .ref h0), (1, .int x1), (2, .int (0 : Int32)), (3, .int y1)] rfl ?_
  exact p_J7_fill_53178_L5 C X  n S h0 x1 (0 : Int32) y1 th0
set_option maxRecDepth 100000 in
set_option maxHeartbeats 4000000 in
theorem p_J7_fill_031fb_L5 {A : AM} {E : EN} {n : Nat} (C : Cx A E cJ7_fill_031fb 4 RJ7 0 0) (X : Ex A E none)  : ∀ (m : Nat) (S : WS) (h0 : Nat) (x1 : Int32) (x2 : Int32) (x3 : Int32) (th0 : Ty E h0 9), Gd A E 4 (QM A E wV tT) (f_J7_fill_031fb_L5 E n  m S h0 x1 x2 x3) S 5 [(0, .ref h0), (1, .int x1), (2, .int x2), (3, .int x3)] [] := by
  intro m
  induction m with
  | zero => intros; exact gn
  | succ m ih =>
    intro S h0 x1 x2 x3 th0
    unfold f_J7_fill_031fb_L5
    refine r_iload_n C 2 dJ7_fill_031fb_5 rfl ?_
    refine r_iload_n C 3 dJ7_fill_031fb_6 rfl ?_
    refine r_icmp_ge C 20 dJ7_fill_031fb_7 (by decide) ?_ ?_
    · exact r_return C X dJ7_fill_031fb_20
    · refine r_aload_n C 0 dJ7_fill_031fb_10 rfl ?_
      refine r_iload_n C 2 dJ7_fill_031fb_11 rfl ?_
      refine r_iload_n C 1 dJ7_fill_031fb_12 rfl ?_
      refine r_bast C dJ7_fill_031fb_13 th0 (fun S1 => ?_)
      refine r_iinc C 2 (fun y2 => [(2, .int y2), (0, .ref h0), (1, .int x1), (3, .int x3)]) dJ7_fill_031fb_14 rfl (v := (1 : Int32)) (by decide) (by decide) (fun _ => rfl) (fun y2 => ?_)
      refine r_goto C 5 dJ7_fill_031fb_17 (by decide) ?_
      refine r_sub [1, 2, 0, 3] [(0, .ref h0), (1, .int x1), (2, .int y2), (3, .int x3)] rfl ?_
      exact ih S1 h0 x1 y2 x3 th0
set_option maxRecDepth 100000 in
set_option maxHeartbeats 4000000 in
theorem c_J7_fill_031fb (l : Launch) (E : EN) (n : Nat) (h0 : Nat) (x1 : Int32) (th0 : Ty E h0 9) : CT l E yJ7_fill_031fb cJ7_fill_031fb 4 none 0 0 wV tT [.ref h0, .int x1] (fun S => f_J7_fill_031fb E n S h0 x1) := by
  refine ct_of RJ7 (by decide +kernel) rfl [(0, .ref h0), (1, .int x1)] rfl (Nat.le_of_ble_eq_true rfl) (fun A S hA C X => ?_)
  subst hA
  show Gd A E 4 (QM A E wV tT) (f_J7_fill_031fb E n S h0 x1) S 0 [(0, .ref h0), (1, .int x1)] []
  unfold f_J7_fill_031fb
  refine r_iconst C (0 : Int32) dJ7_fill_031fb_0 (by decide) ?_
  refine r_istore_n C [(2, .int (0 : Int32)), (0, .ref h0), (1, .int x1)] dJ7_fill_031fb_1 (by decide) rfl ?_
  refine r_aload_n C 1 dJ7_fill_031fb_2 rfl ?_
  refine r_alen C (k := 9) rfl (by decide) dJ7_fill_031fb_3 th0 ?_
  refine r_topi (fun y1 => ?_)
  refine r_istore_n C [(3, .int y1), (2, .int (0 : Int32)), (0, .ref h0), (1, .int x1)] dJ7_fill_031fb_4 (by decide) rfl ?_
  refine r_sub [2, 3, 1, 0] [(0, .ref h0), (1, .int x1), (2, .int (0 : Int32)), (3, .int y1)] rfl ?_
  exact p_J7_fill_031fb_L5 C X  n S h0 x1 (0 : Int32) y1 th0
set_option maxRecDepth 100000 in
set_option maxHeartbeats 4000000 in
theorem c_X3_clearAll (l : Launch) (E : EN) (n : Nat) (h0 : Nat) (th0 : Ty E h0 2) : CT l E yX3_clearAll cX3_clearAll 1 none 1 23 wV tT [.ref h0] (fun S => f_X3_clearAll E n S h0) := by
  refine ct_of RX3 (by decide +kernel) rfl [(0, .ref h0)] rfl (Nat.le_of_ble_eq_true rfl) (fun A S hA C X => ?_)
  subst hA
  show Gd A E 1 (QM A E wV tT) (f_X3_clearAll E n S h0) S 0 [(0, .ref h0)] []
  unfold f_X3_clearAll
  refine r_aload_n C 0 dX3_clearAll_0 rfl ?_
  refine r_iconst C (0 : Int32) dX3_clearAll_1 (by decide) ?_
  refine r_puti C fl_X3_48 dX3_clearAll_2 th0 (fun S1 => ?_)
  refine r_aload_n C 0 dX3_clearAll_5 rfl ?_
  refine r_iconst C (0 : Int32) dX3_clearAll_6 (by decide) ?_
  refine r_puti C fl_X3_52 dX3_clearAll_7 th0 (fun S2 => ?_)
  refine r_aload_n C 0 dX3_clearAll_10 rfl ?_
  refine r_iconst C (0 : Int32) dX3_clearAll_11 (by decide) ?_
  refine r_puti C fl_X3_55 dX3_clearAll_12 th0 (fun S3 => ?_)
  refine r_aload_n C 0 dX3_clearAll_15 rfl ?_
  refine r_iconst C (0 : Int32) dX3_clearAll_16 (by decide) ?_
  refine r_puti C fl_X3_58 dX3_clearAll_17 th0 (fun S4 => ?_)
  refine r_aload_n C 0 dX3_clearAll_20 rfl ?_
  refine r_iconst C (0 : Int32) dX3_clearAll_21 (by decide) ?_
  refine r_puti C fl_X3_61 dX3_clearAll_22 th0 (fun S5 => ?_)
  refine r_aload_n C 0 dX3_clearAll_25 rfl ?_
  refine r_iconst C (0 : Int32) dX3_clearAll_26 (by decide) ?_
  refine r_puti C fl_X3_64 dX3_clearAll_27 th0 (fun S6 => ?_)
  refine r_aload_n C 0 dX3_clearAll_30 rfl ?_
  refine r_iconst C (0 : Int32) dX3_clearAll_31 (by decide) ?_
  refine r_puti C fl_X3_67 dX3_clearAll_32 th0 (fun S7 => ?_)
  refine r_aload_n C 0 dX3_clearAll_35 rfl ?_
  refine r_getr C fl_X3_9 dX3_clearAll_36 th0 (fun b8 tb8 => ?_)
  refine r_iconst C (0 : Int32) dX3_clearAll_39 (by decide) ?_
  refine r_callS (As := [.ref b8, .int (0 : Int32)]) (rest := []) C (c_J7_fill_53178 _ E n b8 (0 : Int32) tb8) dX3_clearAll_40 ml_X3_70 mv_J7_fill_53178 rfl rfl ⟨by decide, by decide⟩ (Nat.le_of_ble_eq_true rfl) (fun v10 S9 hv10 => ?_)
  refine r_aload_n C 0 dX3_clearAll_43 rfl ?_
  refine r_getr C fl_X3_39 dX3_clearAll_44 th0 (fun b11 tb11 => ?_)
  refine r_iconst C (0 : Int32) dX3_clearAll_47 (by decide) ?_
  refine r_callS (As := [.ref b11, .int (0 : Int32)]) (rest := []) C (c_J7_fill_53178 _ E n b11 (0 : Int32) tb11) dX3_clearAll_48 ml_X3_70 mv_J7_fill_53178 rfl rfl ⟨by decide, by decide⟩ (Nat.le_of_ble_eq_true rfl) (fun v13 S12 hv13 => ?_)
  refine r_aload_n C 0 dX3_clearAll_51 rfl ?_
  refine r_getr C fl_X3_36 dX3_clearAll_52 th0 (fun b14 tb14 => ?_)
  refine r_iconst C (-1 : Int32) dX3_clearAll_55 (by decide) ?_
  refine r_callS (As := [.ref b14, .int (-1 : Int32)]) (rest := []) C (c_J7_fill_53178 _ E n b14 (-1 : Int32) tb14) dX3_clearAll_56 ml_X3_70 mv_J7_fill_53178 rfl rfl ⟨by decide, by decide⟩ (Nat.le_of_ble_eq_true rfl) (fun v16 S15 hv16 => ?_)
  exact r_return C X dX3_clearAll_59
set_option maxRecDepth 100000 in
set_option maxHeartbeats 4000000 in
theorem c_X3_takeFrom (l : Launch) (E : EN) (n : Nat) (h0 : Nat) (h1 : Nat) (th0 : Ty E h0 2) (th1 : Ty E h1 2) : CT l E yX3_takeFrom cX3_takeFrom 2 none 2 51 wV tT [.ref h0, .ref h1] (fun S => f_X3_takeFrom E n S h0 h1) := by
  refine ct_of RX3 (by decide +kernel) rfl [(0, .ref h0), (1, .ref h1)] rfl (Nat.le_of_ble_eq_true rfl) (fun A S hA C X => ?_)
  subst hA
  show Gd A E 2 (QM A E wV tT) (f_X3_takeFrom E n S h0 h1) S 0 [(0, .ref h0), (1, .ref h1)] []
  unfold f_X3_takeFrom
  refine r_aload_n C 0 dX3_takeFrom_0 rfl ?_
  refine r_aload_n C 1 dX3_takeFrom_1 rfl ?_
  refine r_geti C fl_X3_48 dX3_takeFrom_2 th1 ?_
  refine r_puti C fl_X3_48 dX3_takeFrom_5 th0 (fun S1 => ?_)
  refine r_aload_n C 0 dX3_takeFrom_8 rfl ?_
  refine r_aload_n C 1 dX3_takeFrom_9 rfl ?_
  refine r_geti C fl_X3_52 dX3_takeFrom_10 th1 ?_
  refine r_puti C fl_X3_52 dX3_takeFrom_13 th0 (fun S2 => ?_)
  refine r_aload_n C 0 dX3_takeFrom_16 rfl ?_
  refine r_aload_n C 1 dX3_takeFrom_17 rfl ?_
  refine r_geti C fl_X3_55 dX3_takeFrom_18 th1 ?_
  refine r_puti C fl_X3_55 dX3_takeFrom_21 th0 (fun S3 => ?_)
  refine r_aload_n C 0 dX3_takeFrom_24 rfl ?_
  refine r_aload_n C 1 dX3_takeFrom_25 rfl ?_
  refine r_geti C fl_X3_58 dX3_takeFrom_26 th1 ?_
  refine r_puti C fl_X3_58 dX3_takeFrom_29 th0 (fun S4 => ?_)
  refine r_aload_n C 0 dX3_takeFrom_32 rfl ?_
  refine r_aload_n C 1 dX3_takeFrom_33 rfl ?_
  refine r_geti C fl_X3_61 dX3_takeFrom_34 th1 ?_
  refine r_puti C fl_X3_61 dX3_takeFrom_37 th0 (fun S5 => ?_)
  refine r_aload_n C 0 dX3_takeFrom_40 rfl ?_
  refine r_aload_n C 1 dX3_takeFrom_41 rfl ?_
  refine r_geti C fl_X3_64 dX3_takeFrom_42 th1 ?_
  refine r_puti C fl_X3_64 dX3_takeFrom_45 th0 (fun S6 => ?_)
  refine r_aload_n C 0 dX3_takeFrom_48 rfl ?_
  refine r_aload_n C 1 dX3_takeFrom_49 rfl ?_
  refine r_geti C fl_X3_67 dX3_takeFrom_50 th1 ?_
  refine r_puti C fl_X3_67 dX3_takeFrom_53 th0 (fun S7 => ?_)
  refine r_aload_n C 1 dX3_takeFrom_56 rfl ?_
  refine r_getr C fl_X3_9 dX3_takeFrom_57 th1 (fun b8 tb8 => ?_)
  refine r_aload_n C 0 dX3_takeFrom_60 rfl ?_
  refine r_getr C fl_X3_9 dX3_takeFrom_61 th0 (fun b9 tb9 => ?_)
  refine r_callS (As := [.ref b8, .ref b9]) (rest := []) C (c_X8_copyRow _ E n b8 b9 tb8 tb9) dX3_takeFrom_64 ml_X3_76 mv_X8_copyRow rfl rfl ⟨by decide, by decide⟩ (Nat.le_of_ble_eq_true rfl) (fun v11 S10 hv11 => ?_)
  refine r_aload_n C 1 dX3_takeFrom_67 rfl ?_
  refine r_getr C fl_X3_15 dX3_takeFrom_68 th1 (fun b12 tb12 => ?_)
  refine r_aload_n C 0 dX3_takeFrom_71 rfl ?_
  refine r_getr C fl_X3_15 dX3_takeFrom_72 th0 (fun b13 tb13 => ?_)
  refine r_callS (As := [.ref b12, .ref b13]) (rest := []) C (c_X8_copyRow _ E n b12 b13 tb12 tb13) dX3_takeFrom_75 ml_X3_76 mv_X8_copyRow rfl rfl ⟨by decide, by decide⟩ (Nat.le_of_ble_eq_true rfl) (fun v15 S14 hv15 => ?_)
  refine r_aload_n C 1 dX3_takeFrom_78 rfl ?_
  refine r_getr C fl_X3_18 dX3_takeFrom_79 th1 (fun b16 tb16 => ?_)
  refine r_aload_n C 0 dX3_takeFrom_82 rfl ?_
  refine r_getr C fl_X3_18 dX3_takeFrom_83 th0 (fun b17 tb17 => ?_)
  refine r_callS (As := [.ref b16, .ref b17]) (rest := []) C (c_X8_copyRow _ E n b16 b17 tb16 tb17) dX3_takeFrom_86 ml_X3_76 mv_X8_copyRow rfl rfl ⟨by decide, by decide⟩ (Nat.le_of_ble_eq_true rfl) (fun v19 S18 hv19 => ?_)
  refine r_aload_n C 1 dX3_takeFrom_89 rfl ?_
  refine r_getr C fl_X3_21 dX3_takeFrom_90 th1 (fun b20 tb20 => ?_)
  refine r_aload_n C 0 dX3_takeFrom_93 rfl ?_
  refine r_getr C fl_X3_21 dX3_takeFrom_94 th0 (fun b21 tb21 => ?_)
  refine r_callS (As := [.ref b20, .ref b21]) (rest := []) C (c_X8_copyRow _ E n b20 b21 tb20 tb21) dX3_takeFrom_97 ml_X3_76 mv_X8_copyRow rfl rfl ⟨by decide, by decide⟩ (Nat.le_of_ble_eq_true rfl) (fun v23 S22 hv23 => ?_)
  refine r_aload_n C 1 dX3_takeFrom_100 rfl ?_
  refine r_getr C fl_X3_24 dX3_takeFrom_101 th1 (fun b24 tb24 => ?_)
  refine r_aload_n C 0 dX3_takeFrom_104 rfl ?_
  refine r_getr C fl_X3_24 dX3_takeFrom_105 th0 (fun b25 tb25 => ?_)
  refine r_callS (As := [.ref b24, .ref b25]) (rest := []) C (c_X8_copyRow _ E n b24 b25 tb24 tb25) dX3_takeFrom_108 ml_X3_76 mv_X8_copyRow rfl rfl ⟨by decide, by decide⟩ (Nat.le_of_ble_eq_true rfl) (fun v27 S26 hv27 => ?_)
  refine r_aload_n C 1 dX3_takeFrom_111 rfl ?_
  refine r_getr C fl_X3_27 dX3_takeFrom_112 th1 (fun b28 tb28 => ?_)
  refine r_aload_n C 0 dX3_takeFrom_115 rfl ?_
  refine r_getr C fl_X3_27 dX3_takeFrom_116 th0 (fun b29 tb29 => ?_)
  refine r_callS (As := [.ref b28, .ref b29]) (rest := []) C (c_X8_copyRow _ E n b28 b29 tb28 tb29) dX3_takeFrom_119 ml_X3_76 mv_X8_copyRow rfl rfl ⟨by decide, by decide⟩ (Nat.le_of_ble_eq_true rfl) (fun v31 S30 hv31 => ?_)
  refine r_aload_n C 1 dX3_takeFrom_122 rfl ?_
  refine r_getr C fl_X3_30 dX3_takeFrom_123 th1 (fun b32 tb32 => ?_)
  refine r_aload_n C 0 dX3_takeFrom_126 rfl ?_
  refine r_getr C fl_X3_30 dX3_takeFrom_127 th0 (fun b33 tb33 => ?_)
  refine r_callS (As := [.ref b32, .ref b33]) (rest := []) C (c_X8_copyRow _ E n b32 b33 tb32 tb33) dX3_takeFrom_130 ml_X3_76 mv_X8_copyRow rfl rfl ⟨by decide, by decide⟩ (Nat.le_of_ble_eq_true rfl) (fun v35 S34 hv35 => ?_)
  refine r_aload_n C 1 dX3_takeFrom_133 rfl ?_
  refine r_getr C fl_X3_33 dX3_takeFrom_134 th1 (fun b36 tb36 => ?_)
  refine r_aload_n C 0 dX3_takeFrom_137 rfl ?_
  refine r_getr C fl_X3_33 dX3_takeFrom_138 th0 (fun b37 tb37 => ?_)
  refine r_callS (As := [.ref b36, .ref b37]) (rest := []) C (c_X8_copyRow _ E n b36 b37 tb36 tb37) dX3_takeFrom_141 ml_X3_76 mv_X8_copyRow rfl rfl ⟨by decide, by decide⟩ (Nat.le_of_ble_eq_true rfl) (fun v39 S38 hv39 => ?_)
  refine r_aload_n C 1 dX3_takeFrom_144 rfl ?_
  refine r_getr C fl_X3_36 dX3_takeFrom_145 th1 (fun b40 tb40 => ?_)
  refine r_aload_n C 0 dX3_takeFrom_148 rfl ?_
  refine r_getr C fl_X3_36 dX3_takeFrom_149 th0 (fun b41 tb41 => ?_)
  refine r_callS (As := [.ref b40, .ref b41]) (rest := []) C (c_X8_copyRow _ E n b40 b41 tb40 tb41) dX3_takeFrom_152 ml_X3_76 mv_X8_copyRow rfl rfl ⟨by decide, by decide⟩ (Nat.le_of_ble_eq_true rfl) (fun v43 S42 hv43 => ?_)
  refine r_aload_n C 1 dX3_takeFrom_155 rfl ?_
  refine r_getr C fl_X3_39 dX3_takeFrom_156 th1 (fun b44 tb44 => ?_)
  refine r_aload_n C 0 dX3_takeFrom_159 rfl ?_
  refine r_getr C fl_X3_39 dX3_takeFrom_160 th0 (fun b45 tb45 => ?_)
  refine r_callS (As := [.ref b44, .ref b45]) (rest := []) C (c_X8_copyRow _ E n b44 b45 tb44 tb45) dX3_takeFrom_163 ml_X3_76 mv_X8_copyRow rfl rfl ⟨by decide, by decide⟩ (Nat.le_of_ble_eq_true rfl) (fun v47 S46 hv47 => ?_)
  refine r_aload_n C 1 dX3_takeFrom_166 rfl ?_
  refine r_getr C fl_X3_42 dX3_takeFrom_167 th1 (fun b48 tb48 => ?_)
  refine r_aload_n C 0 dX3_takeFrom_170 rfl ?_
  refine r_getr C fl_X3_42 dX3_takeFrom_171 th0 (fun b49 tb49 => ?_)
  refine r_callS (As := [.ref b48, .ref b49]) (rest := []) C (c_X8_copyRow _ E n b48 b49 tb48 tb49) dX3_takeFrom_174 ml_X3_76 mv_X8_copyRow rfl rfl ⟨by decide, by decide⟩ (Nat.le_of_ble_eq_true rfl) (fun v51 S50 hv51 => ?_)
  refine r_aload_n C 1 dX3_takeFrom_177 rfl ?_
  refine r_getr C fl_X3_45 dX3_takeFrom_178 th1 (fun b52 tb52 => ?_)
  refine r_aload_n C 0 dX3_takeFrom_181 rfl ?_
  refine r_getr C fl_X3_45 dX3_takeFrom_182 th0 (fun b53 tb53 => ?_)
  refine r_callS (As := [.ref b52, .ref b53]) (rest := []) C (c_X8_copyRow _ E n b52 b53 tb52 tb53) dX3_takeFrom_185 ml_X3_76 mv_X8_copyRow rfl rfl ⟨by decide, by decide⟩ (Nat.le_of_ble_eq_true rfl) (fun v55 S54 hv55 => ?_)
  exact r_return C X dX3_takeFrom_188
set_option maxRecDepth 100000 in
set_option maxHeartbeats 4000000 in
theorem p_X3_hopeOf_L13 {A : AM} {E : EN} {n : Nat} (C : Cx A E cX3_hopeOf 4 RX3 2 48) (X : Ex A E (some .int))  : ∀ (m : Nat) (S : WS) (h0 : Nat) (h1 : Nat) (x2 : Int32) (x3 : Int32) (th0 : Ty E h0 2) (th1 : Ty E h1 10), Gd A E 4 (QM A E wI tT) (f_X3_hopeOf_L13 E n  m S h0 h1 x2 x3) S 13 [(0, .ref h0), (1, .ref h1), (2, .int x2), (3, .int x3)] [] := by
  intro m
  induction m with
  | zero => intros; exact gn
  | succ m ih =>
    intro S h0 h1 x2 x3 th0 th1
    unfold f_X3_hopeOf_L13
    refine r_iload_n C 3 dX3_hopeOf_13 rfl ?_
    refine r_aload_n C 0 dX3_hopeOf_14 rfl ?_
    refine r_geti C fl_X3_61 dX3_hopeOf_15 th0 ?_
    refine r_icmp_ge C 55 dX3_hopeOf_18 (by decide) ?_ ?_
    · refine r_iconst C (-1 : Int32) dX3_hopeOf_55 (by decide) ?_
      exact r_ireturn C X dX3_hopeOf_56
    · refine r_iload_n C 3 dX3_hopeOf_21 rfl ?_
      refine r_aload_n C 1 dX3_hopeOf_22 rfl ?_
      refine r_iload_n C 2 dX3_hopeOf_23 rfl ?_
      refine r_iald C dX3_hopeOf_24 th1 ?_
      refine r_icmp_eq C 49 dX3_hopeOf_25 (by decide) ?_ ?_
      · refine r_iinc C 3 (fun y1 => [(3, .int y1), (0, .ref h0), (1, .ref h1), (2, .int x2)]) dX3_hopeOf_49 rfl (v := (1 : Int32)) (by decide) (by decide) (fun _ => rfl) (fun y1 => ?_)
        refine r_goto C 13 dX3_hopeOf_52 (by decide) ?_
        refine r_sub [1, 2, 3, 0] [(0, .ref h0), (1, .ref h1), (2, .int x2), (3, .int y1)] rfl ?_
        exact ih S h0 h1 x2 y1 th0 th1
      · refine r_aload_n C 0 dX3_hopeOf_28 rfl ?_
        refine r_iload_n C 2 dX3_hopeOf_29 rfl ?_
        refine r_iload_n C 3 dX3_hopeOf_30 rfl ?_
        refine r_callV (As := [.int x2, .int x3]) (rest := []) C (c_X3_isFor _ E n h0 x2 x3 th0) dX3_hopeOf_31 ml_X3_101 mv_X3_isFor ⟨TX3, _, rfl⟩ (by decide) th0 rfl rfl ⟨by decide, by decide⟩ (Nat.le_of_ble_eq_true rfl) (fun v3 S2 hv3 => ?_)
        refine r_if_eq C 49 dX3_hopeOf_34 (by decide) ?_ ?_
        · refine r_iinc C 3 (fun y4 => [(3, .int y4), (0, .ref h0), (1, .ref h1), (2, .int x2)]) dX3_hopeOf_49 rfl (v := (1 : Int32)) (by decide) (by decide) (fun _ => rfl) (fun y4 => ?_)
          refine r_goto C 13 dX3_hopeOf_52 (by decide) ?_
          refine r_sub [1, 2, 3, 0] [(0, .ref h0), (1, .ref h1), (2, .int x2), (3, .int y4)] rfl ?_
          exact ih S2 h0 h1 x2 y4 th0 th1
        · refine r_aload_n C 0 dX3_hopeOf_37 rfl ?_
          refine r_aload_n C 1 dX3_hopeOf_38 rfl ?_
          refine r_iload_n C 2 dX3_hopeOf_39 rfl ?_
          refine r_iload_n C 3 dX3_hopeOf_40 rfl ?_
          refine r_callV (As := [.ref h1, .int x2, .int x3]) (rest := []) C (c_X3_wouldBeTaken _ E n h0 h1 x2 x3 th0 th1) dX3_hopeOf_41 ml_X3_105 mv_X3_wouldBeTaken ⟨TX3, _, rfl⟩ (by decide) th0 rfl rfl ⟨by decide, by decide⟩ (Nat.le_of_ble_eq_true rfl) (fun v6 S5 hv6 => ?_)
          refine r_if_eq C 49 dX3_hopeOf_44 (by decide) ?_ ?_
          · refine r_iinc C 3 (fun y7 => [(3, .int y7), (0, .ref h0), (1, .ref h1), (2, .int x2)]) dX3_hopeOf_49 rfl (v := (1 : Int32)) (by decide) (by decide) (fun _ => rfl) (fun y7 => ?_)
            refine r_goto C 13 dX3_hopeOf_52 (by decide) ?_
            refine r_sub [1, 2, 3, 0] [(0, .ref h0), (1, .ref h1), (2, .int x2), (3, .int y7)] rfl ?_
            exact ih S5 h0 h1 x2 y7 th0 th1
          · refine r_iload_n C 3 dX3_hopeOf_47 rfl ?_
            exact r_ireturn C X dX3_hopeOf_48
set_option maxRecDepth 100000 in
set_option maxHeartbeats 4000000 in
theorem c_X3_hopeOf (l : Launch) (E : EN) (n : Nat) (h0 : Nat) (h1 : Nat) (x2 : Int32) (th0 : Ty E h0 2) (th1 : Ty E h1 10) : CT l E yX3_hopeOf cX3_hopeOf 4 (some .int) 2 48 wI tT [.ref h0, .ref h1, .int x2] (fun S => f_X3_hopeOf E n S h0 h1 x2) := by
  refine ct_of RX3 (by decide +kernel) rfl [(0, .ref h0), (1, .ref h1), (2, .int x2)] rfl (Nat.le_of_ble_eq_true rfl) (fun A S hA C X => ?_)
  subst hA
  show Gd A E 4 (QM A E wI tT) (f_X3_hopeOf E n S h0 h1 x2) S 0 [(0, .ref h0), (1, .ref h1), (2, .int x2)] []
  unfold f_X3_hopeOf
  refine r_aload_n C 0 dX3_hopeOf_0 rfl ?_
  refine r_aload_n C 1 dX3_hopeOf_1 rfl ?_
  refine r_iload_n C 2 dX3_hopeOf_2 rfl ?_
  refine r_callV (As := [.ref h1, .int x2]) (rest := []) C (c_X3_isRefused _ E n h0 h1 x2 th0 th1) dX3_hopeOf_3 ml_X3_97 mv_X3_isRefused ⟨TX3, _, rfl⟩ (by decide) th0 rfl rfl ⟨by decide, by decide⟩ (Nat.le_of_ble_eq_true rfl) (fun v2 S1 hv2 => ?_)
  refine r_if_ne C 11 dX3_hopeOf_6 (by decide) ?_ ?_
  · refine r_iconst C (0 : Int32) dX3_hopeOf_11 (by decide) ?_
    refine r_istore_n C [(3, .int (0 : Int32)), (0, .ref h0), (1, .ref h1), (2, .int x2)] dX3_hopeOf_12 (by decide) rfl ?_
    refine r_sub [1, 2, 3, 0] [(0, .ref h0), (1, .ref h1), (2, .int x2), (3, .int (0 : Int32))] rfl ?_
    exact p_X3_hopeOf_L13 C X  n S1 h0 h1 x2 (0 : Int32) th0 th1
  · refine r_iconst C (-1 : Int32) dX3_hopeOf_9 (by decide) ?_
    exact r_ireturn C X dX3_hopeOf_10
set_option maxRecDepth 100000 in
set_option maxHeartbeats 4000000 in
theorem p_X3_firstHoping_L2 {A : AM} {E : EN} {n : Nat} (C : Cx A E cX3_firstHoping 3 RX3 3 71) (X : Ex A E (some .int))  : ∀ (m : Nat) (S : WS) (h0 : Nat) (h1 : Nat) (x2 : Int32) (th0 : Ty E h0 2) (th1 : Ty E h1 10), Gd A E 3 (QM A E wI tT) (f_X3_firstHoping_L2 E n  m S h0 h1 x2) S 2 [(0, .ref h0), (1, .ref h1), (2, .int x2)] [] := by
  intro m
  induction m with
  | zero => intros; exact gn
  | succ m ih =>
    intro S h0 h1 x2 th0 th1
    unfold f_X3_firstHoping_L2
    refine r_iload_n C 2 dX3_firstHoping_2 rfl ?_
    refine r_aload_n C 0 dX3_firstHoping_3 rfl ?_
    refine r_geti C fl_X3_64 dX3_firstHoping_4 th0 ?_
    refine r_icmp_ge C 28 dX3_firstHoping_7 (by decide) ?_ ?_
    · refine r_iconst C (-1 : Int32) dX3_firstHoping_28 (by decide) ?_
      exact r_ireturn C X dX3_firstHoping_29
    · refine r_aload_n C 0 dX3_firstHoping_10 rfl ?_
      refine r_aload_n C 1 dX3_firstHoping_11 rfl ?_
      refine r_iload_n C 2 dX3_firstHoping_12 rfl ?_
      refine r_callV (As := [.ref h1, .int x2]) (rest := []) C (c_X3_hopeOf _ E n h0 h1 x2 th0 th1) dX3_firstHoping_13 ml_X3_109 mv_X3_hopeOf ⟨TX3, _, rfl⟩ (by decide) th0 rfl rfl ⟨by decide, by decide⟩ (Nat.le_of_ble_eq_true rfl) (fun v2 S1 hv2 => ?_)
      refine r_iconst C (-1 : Int32) dX3_firstHoping_16 (by decide) ?_
      refine r_icmp_eq C 22 dX3_firstHoping_17 (by decide) ?_ ?_
      · refine r_iinc C 2 (fun y3 => [(2, .int y3), (0, .ref h0), (1, .ref h1)]) dX3_firstHoping_22 rfl (v := (1 : Int32)) (by decide) (by decide) (fun _ => rfl) (fun y3 => ?_)
        refine r_goto C 2 dX3_firstHoping_25 (by decide) ?_
        refine r_sub [1, 2, 0] [(0, .ref h0), (1, .ref h1), (2, .int y3)] rfl ?_
        exact ih S1 h0 h1 y3 th0 th1
      · refine r_iload_n C 2 dX3_firstHoping_20 rfl ?_
        exact r_ireturn C X dX3_firstHoping_21
set_option maxRecDepth 100000 in
set_option maxHeartbeats 4000000 in
theorem c_X3_firstHoping (l : Launch) (E : EN) (n : Nat) (h0 : Nat) (h1 : Nat) (th0 : Ty E h0 2) (th1 : Ty E h1 10) : CT l E yX3_firstHoping cX3_firstHoping 3 (some .int) 3 71 wI tT [.ref h0, .ref h1] (fun S => f_X3_firstHoping E n S h0 h1) := by
  refine ct_of RX3 (by decide +kernel) rfl [(0, .ref h0), (1, .ref h1)] rfl (Nat.le_of_ble_eq_true rfl) (fun A S hA C X => ?_)
  subst hA
  show Gd A E 3 (QM A E wI tT) (f_X3_firstHoping E n S h0 h1) S 0 [(0, .ref h0), (1, .ref h1)] []
  unfold f_X3_firstHoping
  refine r_iconst C (0 : Int32) dX3_firstHoping_0 (by decide) ?_
  refine r_istore_n C [(2, .int (0 : Int32)), (0, .ref h0), (1, .ref h1)] dX3_firstHoping_1 (by decide) rfl ?_
  refine r_sub [1, 2, 0] [(0, .ref h0), (1, .ref h1), (2, .int (0 : Int32))] rfl ?_
  exact p_X3_firstHoping_L2 C X  n S h0 h1 (0 : Int32) th0 th1
set_option maxRecDepth 100000 in
set_option maxHeartbeats 4000000 in
theorem c_X3_leapOf (l : Launch) (E : EN) (n : Nat) (h0 : Nat) (x1 : Int32) (x2 : Int32) (th0 : Ty E h0 2) : CT l E yX3_leapOf cX3_leapOf 3 (some .int) 3 72 wI tT [.ref h0, .int x1, .int x2] (fun S => f_X3_leapOf E n S h0 x1 x2) := by
  refine ct_of RX3 (by decide +kernel) rfl [(0, .ref h0), (1, .int x1), (2, .int x2)] rfl (Nat.le_of_ble_eq_true rfl) (fun A S hA C X => ?_)
  subst hA
  show Gd A E 3 (QM A E wI tT) (f_X3_leapOf E n S h0 x1 x2) S 0 [(0, .ref h0), (1, .int x1), (2, .int x2)] []
  unfold f_X3_leapOf
  refine r_aload_n C 0 dX3_leapOf_0 rfl ?_
  refine r_iload_n C 1 dX3_leapOf_1 rfl ?_
  refine r_callV (As := [.int x1]) (rest := []) C (c_X3_dropOf _ E n h0 x1 th0) dX3_leapOf_2 ml_X3_120 mv_X3_dropOf ⟨TX3, _, rfl⟩ (by decide) th0 rfl rfl ⟨by decide, by decide⟩ (Nat.le_of_ble_eq_true rfl) (fun v2 S1 hv2 => ?_)
  refine r_aload_n C 0 dX3_leapOf_5 rfl ?_
  refine r_iload_n C 1 dX3_leapOf_6 rfl ?_
  refine r_iload_n C 2 dX3_leapOf_7 rfl ?_
  refine r_iconst C (-1 : Int32) dX3_leapOf_8 (by decide) ?_
  refine r_callV (As := [.int x1, .int x2, .int (-1 : Int32)]) (rest := [.int v2]) C (c_X3_stepsOn _ E n h0 x1 x2 (-1 : Int32) th0) dX3_leapOf_9 ml_X3_123 mv_X3_stepsOn ⟨TX3, _, rfl⟩ (by decide) th0 rfl rfl ⟨by decide, by decide⟩ (Nat.le_of_ble_eq_true rfl) (fun v4 S3 hv4 => ?_)
  refine r_iconst C (1 : Int32) dX3_leapOf_12 (by decide) ?_
  refine r_iadd C dX3_leapOf_13 ?_
  refine r_callS (As := [.int v2, .int (v4 + (1 : Int32))]) (rest := []) C (c_X8_roundedUp _ E n v2 (v4 + (1 : Int32)) ) dX3_leapOf_14 ml_X3_127 mv_X8_roundedUp rfl rfl ⟨by decide, by decide⟩ (Nat.le_of_ble_eq_true rfl) (fun v6 S5 hv6 => ?_)
  exact r_ireturn C X dX3_leapOf_17
set_option maxRecDepth 100000 in
set_option maxHeartbeats 4000000 in
theorem c_X3_lackingOn (l : Launch) (E : EN) (n : Nat) (h0 : Nat) (x1 : Int32) (x2 : Int32) (x3 : Int32) (th0 : Ty E h0 2) : CT l E yX3_lackingOn cX3_lackingOn 4 (some .int) 3 72 wI tT [.ref h0, .int x1, .int x2, .int x3] (fun S => f_X3_lackingOn E n S h0 x1 x2 x3) := by
  refine ct_of RX3 (by decide +kernel) rfl [(0, .ref h0), (1, .int x1), (2, .int x2), (3, .int x3)] rfl (Nat.le_of_ble_eq_true rfl) (fun A S hA C X => ?_)
  subst hA
  show Gd A E 4 (QM A E wI tT) (f_X3_lackingOn E n S h0 x1 x2 x3) S 0 [(0, .ref h0), (1, .int x1), (2, .int x2), (3, .int x3)] []
  unfold f_X3_lackingOn
  refine r_aload_n C 0 dX3_lackingOn_0 rfl ?_
  refine r_iload_n C 1 dX3_lackingOn_1 rfl ?_
  refine r_callV (As := [.int x1]) (rest := []) C (c_X3_dropOf _ E n h0 x1 th0) dX3_lackingOn_2 ml_X3_120 mv_X3_dropOf ⟨TX3, _, rfl⟩ (by decide) th0 rfl rfl ⟨by decide, by decide⟩ (Nat.le_of_ble_eq_true rfl) (fun v2 S1 hv2 => ?_)
  refine r_aload_n C 0 dX3_lackingOn_5 rfl ?_
  refine r_iload_n C 1 dX3_lackingOn_6 rfl ?_
  refine r_iload_n C 2 dX3_lackingOn_7 rfl ?_
  refine r_iconst C (-1 : Int32) dX3_lackingOn_8 (by decide) ?_
  refine r_callV (As := [.int x1, .int x2, .int (-1 : Int32)]) (rest := [.int v2]) C (c_X3_stepsOn _ E n h0 x1 x2 (-1 : Int32) th0) dX3_lackingOn_9 ml_X3_123 mv_X3_stepsOn ⟨TX3, _, rfl⟩ (by decide) th0 rfl rfl ⟨by decide, by decide⟩ (Nat.le_of_ble_eq_true rfl) (fun v4 S3 hv4 => ?_)
  refine r_iload_n C 3 dX3_lackingOn_12 rfl ?_
  refine r_callS (As := [.int v2, .int v4, .int x3]) (rest := []) C (c_X8_lacking _ E n v2 v4 x3 ) dX3_lackingOn_13 ml_X3_131 mv_X8_lacking rfl rfl ⟨by decide, by decide⟩ (Nat.le_of_ble_eq_true rfl) (fun v6 S5 hv6 => ?_)
  exact r_ireturn C X dX3_lackingOn_16
set_option maxRecDepth 100000 in
set_option maxHeartbeats 4000000 in
theorem p_X3_openPaths_L6 {A : AM} {E : EN} {n : Nat} (C : Cx A E cX3_openPaths 6 RX3 3 72) (X : Ex A E (some .int))  : ∀ (m : Nat) (S : WS) (h0 : Nat) (x1 : Int32) (x2 : Int32) (x3 : Int32) (x4 : Int32) (x5 : Int32) (th0 : Ty E h0 2), Gd A E 6 (QM A E wI tT) (f_X3_openPaths_L6 E n  m S h0 x1 x2 x3 x4 x5) S 6 [(0, .ref h0), (1, .int x1), (2, .int x2), (3, .int x3), (4, .int x4), (5, .int x5)] [] := by
  intro m
  induction m with
  | zero => intros; exact gn
  | succ m ih =>
    intro S h0 x1 x2 x3 x4 x5 th0
    unfold f_X3_openPaths_L6
    refine r_iload C 5 dX3_openPaths_6 rfl ?_
    refine r_aload_n C 0 dX3_openPaths_8 rfl ?_
    refine r_geti C fl_X3_58 dX3_openPaths_9 th0 ?_
    refine r_icmp_ge C 53 dX3_openPaths_12 (by decide) ?_ ?_
    · refine r_iload C 4 dX3_openPaths_53 rfl ?_
      exact r_ireturn C X dX3_openPaths_55
    · refine r_aload_n C 0 dX3_openPaths_15 rfl ?_
      refine r_iload C 5 dX3_openPaths_16 rfl ?_
      refine r_callV (As := [.int x5]) (rest := []) C (c_X3_dropOf _ E n h0 x5 th0) dX3_openPaths_18 ml_X3_120 mv_X3_dropOf ⟨TX3, _, rfl⟩ (by decide) th0 rfl rfl ⟨by decide, by decide⟩ (Nat.le_of_ble_eq_true rfl) (fun v2 S1 hv2 => ?_)
      refine r_aload_n C 0 dX3_openPaths_21 rfl ?_
      refine r_iload C 5 dX3_openPaths_22 rfl ?_
      refine r_iload_n C 2 dX3_openPaths_24 rfl ?_
      refine r_iload_n C 3 dX3_openPaths_25 rfl ?_
      refine r_callV (As := [.int x5, .int x2, .int x3]) (rest := [.int v2]) C (c_X3_stepsOn _ E n h0 x5 x2 x3 th0) dX3_openPaths_26 ml_X3_123 mv_X3_stepsOn ⟨TX3, _, rfl⟩ (by decide) th0 rfl rfl ⟨by decide, by decide⟩ (Nat.le_of_ble_eq_true rfl) (fun v4 S3 hv4 => ?_)
      refine r_iconst C (1 : Int32) dX3_openPaths_29 (by decide) ?_
      refine r_iadd C dX3_openPaths_30 ?_
      refine r_callS (As := [.int v2, .int (v4 + (1 : Int32))]) (rest := []) C (c_X8_roundedUp _ E n v2 (v4 + (1 : Int32)) ) dX3_openPaths_31 ml_X3_127 mv_X8_roundedUp rfl rfl ⟨by decide, by decide⟩ (Nat.le_of_ble_eq_true rfl) (fun v6 S5 hv6 => ?_)
      refine r_iload_n C 1 dX3_openPaths_34 rfl ?_
      refine r_icmp_gt C 47 dX3_openPaths_35 (by decide) ?_ ?_
      · refine r_iinc C 5 (fun y7 => [(5, .int y7), (0, .ref h0), (1, .int x1), (2, .int x2), (3, .int x3), (4, .int x4)]) dX3_openPaths_47 rfl (v := (1 : Int32)) (by decide) (by decide) (fun _ => rfl) (fun y7 => ?_)
        refine r_goto C 6 dX3_openPaths_50 (by decide) ?_
        refine r_sub [1, 2, 3, 4, 5, 0] [(0, .ref h0), (1, .int x1), (2, .int x2), (3, .int x3), (4, .int x4), (5, .int y7)] rfl ?_
        exact ih S5 h0 x1 x2 x3 x4 y7 th0
      · refine r_iload C 4 dX3_openPaths_38 rfl ?_
        refine r_iconst C (1 : Int32) dX3_openPaths_40 (by decide) ?_
        refine r_iload C 5 dX3_openPaths_41 rfl ?_
        refine r_ishl C dX3_openPaths_43 ?_
        refine r_ior C dX3_openPaths_44 ?_
        refine r_topi (fun y8 => ?_)
        refine r_istore C [(4, .int y8), (0, .ref h0), (1, .int x1), (2, .int x2), (3, .int x3), (5, .int x5)] dX3_openPaths_45 (by decide) rfl ?_
        refine r_iinc C 5 (fun y9 => [(5, .int y9), (4, .int y8), (0, .ref h0), (1, .int x1), (2, .int x2), (3, .int x3)]) dX3_openPaths_47 rfl (v := (1 : Int32)) (by decide) (by decide) (fun _ => rfl) (fun y9 => ?_)
        refine r_goto C 6 dX3_openPaths_50 (by decide) ?_
        refine r_sub [2, 3, 4, 5, 1, 0] [(0, .ref h0), (1, .int x1), (2, .int x2), (3, .int x3), (4, .int y8), (5, .int y9)] rfl ?_
        exact ih S5 h0 x1 x2 x3 y8 y9 th0
set_option maxRecDepth 100000 in
set_option maxHeartbeats 4000000 in
theorem c_X3_openPaths (l : Launch) (E : EN) (n : Nat) (h0 : Nat) (x1 : Int32) (x2 : Int32) (x3 : Int32) (th0 : Ty E h0 2) : CT l E yX3_openPaths cX3_openPaths 6 (some .int) 3 72 wI tT [.ref h0, .int x1, .int x2, .int x3] (fun S => f_X3_openPaths E n S h0 x1 x2 x3) := by
  refine ct_of RX3 (by decide +kernel) rfl [(0, .ref h0), (1, .int x1), (2, .int x2), (3, .int x3)] rfl (Nat.le_of_ble_eq_true rfl) (fun A S hA C X => ?_)
  subst hA
  show Gd A E 6 (QM A E wI tT) (f_X3_openPaths E n S h0 x1 x2 x3) S 0 [(0, .ref h0), (1, .int x1), (2, .int x2), (3, .int x3)] []
  unfold f_X3_openPaths
  refine r_iconst C (0 : Int32) dX3_openPaths_0 (by decide) ?_
  refine r_istore C [(4, .int (0 : Int32)), (0, .ref h0), (1, .int x1), (2, .int x2), (3, .int x3)] dX3_openPaths_1 (by decide) rfl ?_
  refine r_iconst C (0 : Int32) dX3_openPaths_3 (by decide) ?_
  refine r_istore C [(5, .int (0 : Int32)), (4, .int (0 : Int32)), (0, .ref h0), (1, .int x1), (2, .int x2), (3, .int x3)] dX3_openPaths_4 (by decide) rfl ?_
  refine r_sub [2, 3, 4, 5, 1, 0] [(0, .ref h0), (1, .int x1), (2, .int x2), (3, .int x3), (4, .int (0 : Int32)), (5, .int (0 : Int32))] rfl ?_
  exact p_X3_openPaths_L6 C X  n S h0 x1 x2 x3 (0 : Int32) (0 : Int32) th0
set_option maxRecDepth 100000 in
set_option maxHeartbeats 4000000 in
theorem c_X3_reachOf (l : Launch) (E : EN) (n : Nat) (h0 : Nat) (x1 : Int32) (x2 : Int32) (x3 : Int32) (th0 : Ty E h0 2) : CT l E yX3_reachOf cX3_reachOf 4 (some .int) 4 97 wI tT [.ref h0, .int x1, .int x2, .int x3] (fun S => f_X3_reachOf E n S h0 x1 x2 x3) := by
  refine ct_of RX3 (by decide +kernel) rfl [(0, .ref h0), (1, .int x1), (2, .int x2), (3, .int x3)] rfl (Nat.le_of_ble_eq_true rfl) (fun A S hA C X => ?_)
  subst hA
  show Gd A E 4 (QM A E wI tT) (f_X3_reachOf E n S h0 x1 x2 x3) S 0 [(0, .ref h0), (1, .int x1), (2, .int x2), (3, .int x3)] []
  unfold f_X3_reachOf
  refine r_aload_n C 0 dX3_reachOf_0 rfl ?_
  refine r_aload_n C 0 dX3_reachOf_1 rfl ?_
  refine r_getr C fl_X3_45 dX3_reachOf_2 th0 (fun b1 tb1 => ?_)
  refine r_iload_n C 1 dX3_reachOf_5 rfl ?_
  refine r_iald C dX3_reachOf_6 tb1 ?_
  refine r_aload_n C 0 dX3_reachOf_7 rfl ?_
  refine r_aload_n C 0 dX3_reachOf_8 rfl ?_
  refine r_getr C fl_X3_42 dX3_reachOf_9 th0 (fun b2 tb2 => ?_)
  refine r_iload_n C 1 dX3_reachOf_12 rfl ?_
  refine r_iald C dX3_reachOf_13 tb2 ?_
  refine r_iload_n C 2 dX3_reachOf_14 rfl ?_
  refine r_iload_n C 3 dX3_reachOf_15 rfl ?_
  refine r_callV (As := [.int (ai S b2 x1.toNatClampNeg), .int x2, .int x3]) (rest := [.int (ai S b1 x1.toNatClampNeg), .ref h0]) C (c_X3_openPaths _ E n h0 (ai S b2 x1.toNatClampNeg) x2 x3 th0) dX3_reachOf_16 ml_X3_142 mv_X3_openPaths ⟨TX3, _, rfl⟩ (by decide) th0 rfl rfl ⟨by decide, by decide⟩ (Nat.le_of_ble_eq_true rfl) (fun v4 S3 hv4 => ?_)
  refine r_callV (As := [.int (ai S b1 x1.toNatClampNeg), .int v4]) (rest := []) C (c_X3_placesFrom _ E n h0 (ai S b1 x1.toNatClampNeg) v4 th0) dX3_reachOf_19 ml_X3_145 mv_X3_placesFrom ⟨TX3, _, rfl⟩ (by decide) th0 rfl rfl ⟨by decide, by decide⟩ (Nat.le_of_ble_eq_true rfl) (fun v6 S5 hv6 => ?_)
  exact r_ireturn C X dX3_reachOf_22
