/-! THE CONTRACTS, by program -/
set_option maxRecDepth 100000 in
set_option maxHeartbeats 4000000 in
theorem c_X8_sold (l : Launch) (E : EN) (n : Nat) (h0 : Nat) (x1 : Int32) (x2 : Int32) (x3 : Int32) (th0 : Ty E h0 7) : CT l E yX8_sold cX8_sold 5 (some .int) 4 95 wI tT [.ref h0, .int x1, .int x2, .int x3] (fun S => f_X8_sold E n S h0 x1 x2 x3) := by
  refine ct_of RX8 (by decide +kernel) rfl [(0, .ref h0), (1, .int x1), (2, .int x2), (3, .int x3)] rfl (Nat.le_of_ble_eq_true rfl) (fun A S hA C X => ?_)
  subst hA
  show Gd A E 5 (QM A E wI tT) (f_X8_sold E n S h0 x1 x2 x3) S 0 [(0, .ref h0), (1, .int x1), (2, .int x2), (3, .int x3)] []
  unfold f_X8_sold
  refine r_aload_n C 0 dX8_sold_0 rfl ?_
  refine r_iload_n C 1 dX8_sold_1 rfl ?_
  refine r_iload_n C 2 dX8_sold_2 rfl ?_
  refine r_iload_n C 3 dX8_sold_3 rfl ?_
  refine r_callV (As := [.int x1, .int x2, .int x3]) (rest := []) C (c_X8_knowsWay _ E n h0 x1 x2 x3 th0) dX8_sold_4 ml_X8_228 mv_X8_knowsWay ⟨TX8, _, rfl⟩ (by decide) th0 rfl rfl ⟨by decide, by decide⟩ (Nat.le_of_ble_eq_true rfl) (fun v2 S1 hv2 => ?_)
  refine r_if_ne C 13 dX8_sold_7 (by decide) ?_ ?_
  · refine r_iconst C (0 : Int32) dX8_sold_13 (by decide) ?_
    refine r_istore C [(4, .int (0 : Int32)), (0, .ref h0), (1, .int x1), (2, .int x2), (3, .int x3)] dX8_sold_14 (by decide) rfl ?_
    refine r_sub [1, 2, 3, 4, 0] [(0, .ref h0), (1, .int x1), (2, .int x2), (3, .int x3), (4, .int (0 : Int32))] rfl ?_
    exact p_X8_sold_L16 C X  n S1 h0 x1 x2 x3 (0 : Int32) th0
  · refine r_bipush C (-2 : Int32) dX8_sold_10 (by decide) ?_
    exact r_ireturn C X dX8_sold_12
set_option maxRecDepth 100000 in
set_option maxHeartbeats 4000000 in
theorem c_X8_peaces (l : Launch) (E : EN) (n : Nat) (h0 : Nat) (x1 : Int32) (th0 : Ty E h0 7) : CT l E yX8_peaces cX8_peaces 2 (some .int) 5 116 wI tT [.ref h0, .int x1] (fun S => f_X8_peaces E n S h0 x1) := by
  refine ct_of RX8 (by decide +kernel) rfl [(0, .ref h0), (1, .int x1)] rfl (Nat.le_of_ble_eq_true rfl) (fun A S hA C X => ?_)
  subst hA
  show Gd A E 2 (QM A E wI tT) (f_X8_peaces E n S h0 x1) S 0 [(0, .ref h0), (1, .int x1)] []
  unfold f_X8_peaces
  refine r_aload_n C 0 dX8_peaces_0 rfl ?_
  refine r_getr C fl_X8_27 dX8_peaces_1 th0 (fun b1 tb1 => ?_)
  refine r_callV (As := []) (rest := []) C (c_X3_isTold _ E n b1 tb1) dX8_peaces_4 ml_X8_157 mv_X3_isTold ⟨TX3, _, rfl⟩ (by decide) tb1 rfl rfl ⟨by decide, by decide⟩ (Nat.le_of_ble_eq_true rfl) (fun v3 S2 hv3 => ?_)
  refine r_if_eq C 20 dX8_peaces_7 (by decide) ?_ ?_
  · refine r_bipush C (-2 : Int32) dX8_peaces_20 (by decide) ?_
    exact r_ireturn C X dX8_peaces_22
  · refine r_iload_n C 1 dX8_peaces_10 rfl ?_
    refine r_if_lt C 20 dX8_peaces_11 (by decide) ?_ ?_
    · refine r_bipush C (-2 : Int32) dX8_peaces_20 (by decide) ?_
      exact r_ireturn C X dX8_peaces_22
    · refine r_iload_n C 1 dX8_peaces_14 rfl ?_
      refine r_bipush C (40 : Int32) dX8_peaces_15 (by decide) ?_
      refine r_icmp_le C 23 dX8_peaces_17 (by decide) ?_ ?_
      · refine r_aload_n C 0 dX8_peaces_23 rfl ?_
        refine r_iload_n C 1 dX8_peaces_24 rfl ?_
        refine r_callV (As := [.int x1]) (rest := []) C (c_X8_calmInThought _ E n h0 x1 th0) dX8_peaces_25 ml_X8_372 mv_X8_calmInThought ⟨TX8, _, rfl⟩ (by decide) th0 rfl rfl ⟨by decide, by decide⟩ (Nat.le_of_ble_eq_true rfl) (fun v5 S4 hv5 => ?_)
        exact r_ireturn C X dX8_peaces_28
      · refine r_bipush C (-2 : Int32) dX8_peaces_20 (by decide) ?_
        exact r_ireturn C X dX8_peaces_22
set_option maxRecDepth 100000 in
set_option maxHeartbeats 4000000 in
theorem c_X8_then (l : Launch) (E : EN) (n : Nat) (h0 : Nat) (x1 : Int32) (x2 : Int32) (th0 : Ty E h0 7) : CT l E yX8_then cX8_then 3 (some .int) 5 116 wI tT [.ref h0, .int x1, .int x2] (fun S => f_X8_then E n S h0 x1 x2) := by
  refine ct_of RX8 (by decide +kernel) rfl [(0, .ref h0), (1, .int x1), (2, .int x2)] rfl (Nat.le_of_ble_eq_true rfl) (fun A S hA C X => ?_)
  subst hA
  show Gd A E 3 (QM A E wI tT) (f_X8_then E n S h0 x1 x2) S 0 [(0, .ref h0), (1, .int x1), (2, .int x2)] []
  unfold f_X8_then
  refine r_aload_n C 0 dX8_then_0 rfl ?_
  refine r_getr C fl_X8_27 dX8_then_1 th0 (fun b1 tb1 => ?_)
  refine r_iload_n C 1 dX8_then_4 rfl ?_
  refine r_callV (As := [.int x1]) (rest := []) C (c_X3_hasSuitor _ E n b1 x1 tb1) dX8_then_5 ml_X8_118 mv_X3_hasSuitor ⟨TX3, _, rfl⟩ (by decide) tb1 rfl rfl ⟨by decide, by decide⟩ (Nat.le_of_ble_eq_true rfl) (fun v3 S2 hv3 => ?_)
  refine r_if_eq C 21 dX8_then_8 (by decide) ?_ ?_
  · refine r_bipush C (-2 : Int32) dX8_then_21 (by decide) ?_
    exact r_ireturn C X dX8_then_23
  · refine r_iload_n C 2 dX8_then_11 rfl ?_
    refine r_if_lt C 21 dX8_then_12 (by decide) ?_ ?_
    · refine r_bipush C (-2 : Int32) dX8_then_21 (by decide) ?_
      exact r_ireturn C X dX8_then_23
    · refine r_iload_n C 2 dX8_then_15 rfl ?_
      refine r_bipush C (40 : Int32) dX8_then_16 (by decide) ?_
      refine r_icmp_le C 24 dX8_then_18 (by decide) ?_ ?_
      · refine r_aload_n C 0 dX8_then_24 rfl ?_
        refine r_iload_n C 2 dX8_then_25 rfl ?_
        refine r_callV (As := [.int x2]) (rest := []) C (c_X8_calmInThought _ E n h0 x2 th0) dX8_then_26 ml_X8_372 mv_X8_calmInThought ⟨TX8, _, rfl⟩ (by decide) th0 rfl rfl ⟨by decide, by decide⟩ (Nat.le_of_ble_eq_true rfl) (fun v5 S4 hv5 => ?_)
        refine r_pop C dX8_then_29 rfl ?_
        refine r_aload_n C 0 dX8_then_30 rfl ?_
        refine r_getr C fl_X8_76 dX8_then_31 th0 (fun b6 tb6 => ?_)
        refine r_iload_n C 1 dX8_then_34 rfl ?_
        refine r_iald C dX8_then_35 tb6 ?_
        exact r_ireturn C X dX8_then_36
      · refine r_bipush C (-2 : Int32) dX8_then_21 (by decide) ?_
        exact r_ireturn C X dX8_then_23
set_option maxRecDepth 100000 in
set_option maxHeartbeats 4000000 in
theorem p_X4_readWhole_L41 {A : AM} {E : EN} {n : Nat} (C : Cx A E cX4_readWhole 5 RX4 8 173) (X : Ex A E (some .boolean))  : ∀ (m : Nat) (S : WS) (h0 : Nat) (h3 : Nat) (x4 : Int32) (th0 : Ty E h0 3) (th3 : Ty E h3 2), Gd A E 5 (QM A E wI tT) (f_X4_readWhole_L41 E n  m S h0 h3 x4) S 41 [(0, .ref h0), (3, .ref h3), (4, .int x4)] [] := by
  intro m
  induction m with
  | zero => intros; exact gn
  | succ m ih =>
    intro S h0 h3 x4 th0 th3
    unfold f_X4_readWhole_L41
    refine r_iload C 2 dX4_readWhole_41 rfl ?_
    refine r_sipush C (1400 : Int32) dX4_readWhole_43 (by decide) ?_
    refine r_icmp_ge C 89 dX4_readWhole_46 (by decide) ?_ ?_
    · refine r_iconst C (1 : Int32) dX4_readWhole_89 (by decide) ?_
      exact r_zreturn C X rfl dX4_readWhole_90
    · refine r_aload_n C 0 dX4_readWhole_49 rfl ?_
      refine r_geti C fl_X4_22 dX4_readWhole_50 th0 ?_
      refine r_if_eq C 89 dX4_readWhole_53 (by decide) ?_ ?_
      · refine r_iconst C (1 : Int32) dX4_readWhole_89 (by decide) ?_
        exact r_zreturn C X rfl dX4_readWhole_90
      · refine r_aload_n C 0 dX4_readWhole_56 rfl ?_
        refine r_aload_n C 1 dX4_readWhole_57 rfl ?_
        refine r_callV (As := [.ref h3]) (rest := []) C (c_X4_readLine _ E n h0 h3 th0 th3) dX4_readWhole_58 ml_X4_51 mv_X4_readLine ⟨TX4, _, rfl⟩ (by decide) th0 rfl rfl ⟨by decide, by decide⟩ (Nat.le_of_ble_eq_true rfl) (fun v2 S1 hv2 => ?_)
        refine r_if_eq C 71 dX4_readWhole_61 (by decide) ?_ ?_
        · refine r_iconst C (0 : Int32) dX4_readWhole_71 (by decide) ?_
          exact r_zreturn C X rfl dX4_readWhole_72
        · refine r_aload_n C 0 dX4_readWhole_64 rfl ?_
          refine r_callV (As := []) (rest := []) C (c_X4_takeSemicolon _ E n h0 th0) dX4_readWhole_65 ml_X4_55 mv_X4_takeSemicolon ⟨TX4, _, rfl⟩ (by decide) th0 rfl rfl ⟨by decide, by decide⟩ (Nat.le_of_ble_eq_true rfl) (fun v4 S3 hv4 => ?_)
          refine r_if_ne C 73 dX4_readWhole_68 (by decide) ?_ ?_
          · refine r_aload_n C 1 dX4_readWhole_73 rfl ?_
            refine r_dup C dX4_readWhole_74 rfl ?_
            refine r_geti C fl_X4_59 dX4_readWhole_75 th3 ?_
            refine r_iconst C (1 : Int32) dX4_readWhole_78 (by decide) ?_
            refine r_iadd C dX4_readWhole_79 ?_
            refine r_puti C fl_X4_59 dX4_readWhole_80 th3 (fun S5 => ?_)
            refine r_iinc C 2 (fun y6 => [(4, .int y6), (0, .ref h0), (3, .ref h3)]) dX4_readWhole_83 rfl (v := (1 : Int32)) (by decide) (by decide) (fun _ => rfl) (fun y6 => ?_)
            refine r_goto C 41 dX4_readWhole_86 (by decide) ?_
            refine r_sub [1, 2, 0] [(0, .ref h0), (3, .ref h3), (4, .int y6)] rfl ?_
            exact ih S5 h0 h3 y6 th0 th3
          · refine r_iconst C (0 : Int32) dX4_readWhole_71 (by decide) ?_
            exact r_zreturn C X rfl dX4_readWhole_72
set_option maxRecDepth 100000 in
set_option maxHeartbeats 4000000 in
theorem c_X4_readWhole (l : Launch) (E : EN) (n : Nat) (h0 : Nat) (h1 : Nat) (x2 : Int32) (h3 : Nat) (th0 : Ty E h0 3) (th1 : Ty E h1 9) (th3 : Ty E h3 2) : CT l E yX4_readWhole cX4_readWhole 5 (some .boolean) 8 173 wI tT [.ref h0, .ref h1, .int x2, .ref h3] (fun S => f_X4_readWhole E n S h0 h1 x2 h3) := by
  refine ct_of RX4 (by decide +kernel) rfl [(0, .ref h0), (1, .ref h1), (2, .int x2), (3, .ref h3)] rfl (Nat.le_of_ble_eq_true rfl) (fun A S hA C X => ?_)
  subst hA
  show Gd A E 5 (QM A E wI tT) (f_X4_readWhole E n S h0 h1 x2 h3) S 0 [(0, .ref h0), (1, .ref h1), (2, .int x2), (3, .ref h3)] []
  unfold f_X4_readWhole
  refine r_aload_n C 0 dX4_readWhole_0 rfl ?_
  refine r_aload_n C 1 dX4_readWhole_1 rfl ?_
  refine r_putr C fl_X4_9 dX4_readWhole_2 th0 th1 rfl rfl (fun S1 => ?_)
  refine r_aload_n C 0 dX4_readWhole_5 rfl ?_
  refine r_iload_n C 2 dX4_readWhole_6 rfl ?_
  refine r_aload_n C 1 dX4_readWhole_7 rfl ?_
  refine r_alen C (k := 9) rfl (by decide) dX4_readWhole_8 th1 ?_
  refine r_mmin C (mG 560 (by decide +kernel) rfl) mmin_w ⟨by decide, by decide⟩ (Nat.le_of_ble_eq_true rfl) dX4_readWhole_9 ?_
  refine r_puti C fl_X4_15 dX4_readWhole_12 th0 (fun S2 => ?_)
  refine r_aload_n C 0 dX4_readWhole_15 rfl ?_
  refine r_iconst C (0 : Int32) dX4_readWhole_16 (by decide) ?_
  refine r_puti C fl_X4_19 dX4_readWhole_17 th0 (fun S3 => ?_)
  refine r_aload_n C 0 dX4_readWhole_20 rfl ?_
  refine r_iconst C (0 : Int32) dX4_readWhole_21 (by decide) ?_
  refine r_puti C fl_X4_31 dX4_readWhole_22 th0 (fun S4 => ?_)
  refine r_aload_n C 0 dX4_readWhole_25 rfl ?_
  refine r_iconst C (-1 : Int32) dX4_readWhole_26 (by decide) ?_
  refine r_puti C fl_X4_34 dX4_readWhole_27 th0 (fun S5 => ?_)
  refine r_aload_n C 3 dX4_readWhole_30 rfl ?_
  refine r_callV (As := []) (rest := []) C (c_X3_clearAll _ E n h3 th3) dX4_readWhole_31 ml_X4_43 mv_X3_clearAll ⟨TX3, _, rfl⟩ (by decide) th3 rfl rfl ⟨by decide, by decide⟩ (Nat.le_of_ble_eq_true rfl) (fun v7 S6 hv7 => ?_)
  refine r_aload_n C 0 dX4_readWhole_34 rfl ?_
  refine r_callV (As := []) (rest := []) C (c_X4_nextToken _ E n h0 th0) dX4_readWhole_35 ml_X4_48 mv_X4_nextToken ⟨TX4, _, rfl⟩ (by decide) th0 rfl rfl ⟨by decide, by decide⟩ (Nat.le_of_ble_eq_true rfl) (fun v9 S8 hv9 => ?_)
  refine r_iconst C (0 : Int32) dX4_readWhole_38 (by decide) ?_
  refine r_istore C [(4, .int (0 : Int32)), (0, .ref h0), (1, .ref h1), (2, .int x2), (3, .ref h3)] dX4_readWhole_39 (by decide) rfl ?_
  refine r_sub [1, 4, 0] [(0, .ref h0), (3, .ref h3), (4, .int (0 : Int32))] rfl ?_
  exact p_X4_readWhole_L41 C X  n S8 h0 h3 (0 : Int32) th0 th3
set_option maxRecDepth 100000 in
set_option maxHeartbeats 4000000 in
theorem c_X7_findAll (l : Launch) (E : EN) (n : Nat) (h0 : Nat) (h1 : Nat) (x2 : Int32) (x3 : Int32) (x4 : Int32) (th0 : Ty E h0 6) (th1 : Ty E h1 2) : CT l E yX7_findAll cX7_findAll 5 none 18 664 wV tT [.ref h0, .ref h1, .int x2, .int x3, .int x4] (fun S => f_X7_findAll E n S h0 h1 x2 x3 x4) := by
  refine ct_of RX7 (by decide +kernel) rfl [(0, .ref h0), (1, .ref h1), (2, .int x2), (3, .int x3), (4, .int x4)] rfl (Nat.le_of_ble_eq_true rfl) (fun A S hA C X => ?_)
  subst hA
  show Gd A E 5 (QM A E wV tT) (f_X7_findAll E n S h0 h1 x2 x3 x4) S 0 [(0, .ref h0), (1, .ref h1), (2, .int x2), (3, .int x3), (4, .int x4)] []
  unfold f_X7_findAll
  refine r_aload_n C 0 dX7_findAll_0 rfl ?_
  refine r_aload_n C 1 dX7_findAll_1 rfl ?_
  refine r_putr C fl_X7_12 dX7_findAll_2 th0 th1 rfl rfl (fun S1 => ?_)
  refine r_aload_n C 0 dX7_findAll_5 rfl ?_
  refine r_iload_n C 3 dX7_findAll_6 rfl ?_
  refine r_puti C fl_X7_28 dX7_findAll_7 th0 (fun S2 => ?_)
  refine r_aload_n C 0 dX7_findAll_10 rfl ?_
  refine r_iload C 4 dX7_findAll_11 rfl ?_
  refine r_puti C fl_X7_32 dX7_findAll_13 th0 (fun S3 => ?_)
  refine r_aload_n C 0 dX7_findAll_16 rfl ?_
  refine r_aload_n C 0 dX7_findAll_17 rfl ?_
  refine r_getr C fl_X7_12 dX7_findAll_18 th0 (fun b4 tb4 => ?_)
  refine r_aload_n C 0 dX7_findAll_21 rfl ?_
  refine r_getr C fl_X7_12 dX7_findAll_22 th0 (fun b5 tb5 => ?_)
  refine r_getr C fl_X7_35 dX7_findAll_25 tb5 (fun b6 tb6 => ?_)
  refine r_iload_n C 2 dX7_findAll_28 rfl ?_
  refine r_iald C dX7_findAll_29 tb6 ?_
  refine r_aload_n C 0 dX7_findAll_30 rfl ?_
  refine r_geti C fl_X7_32 dX7_findAll_31 th0 ?_
  refine r_iconst C (-1 : Int32) dX7_findAll_34 (by decide) ?_
  refine r_callV (As := [.int (ai S3 b6 x2.toNatClampNeg), .int (gi S3 386 h0), .int (-1 : Int32)]) (rest := [.ref h0]) C (c_X3_openPaths _ E n b4 (ai S3 b6 x2.toNatClampNeg) (gi S3 386 h0) (-1 : Int32) tb4) dX7_findAll_35 ml_X7_38 mv_X3_openPaths ⟨TX3, _, rfl⟩ (by decide) tb4 rfl rfl ⟨by decide, by decide⟩ (Nat.le_of_ble_eq_true rfl) (fun v8 S7 hv8 => ?_)
  refine r_puti C fl_X7_42 dX7_findAll_38 th0 (fun S9 => ?_)
  refine r_aload_n C 0 dX7_findAll_41 rfl ?_
  refine r_iconst C (0 : Int32) dX7_findAll_42 (by decide) ?_
  refine r_puti C fl_X7_45 dX7_findAll_43 th0 (fun S10 => ?_)
  refine r_aload_n C 0 dX7_findAll_46 rfl ?_
  refine r_iconst C (-1 : Int32) dX7_findAll_47 (by decide) ?_
  refine r_puti C fl_X7_48 dX7_findAll_48 th0 (fun S11 => ?_)
  refine r_aload_n C 0 dX7_findAll_51 rfl ?_
  refine r_iconst C (-1 : Int32) dX7_findAll_52 (by decide) ?_
  refine r_puti C fl_X7_51 dX7_findAll_53 th0 (fun S12 => ?_)
  refine r_aload_n C 0 dX7_findAll_56 rfl ?_
  refine r_ldc2 C (-1 : Int64) (mG 912 (by decide +kernel) rfl) dX7_findAll_57 ?_
  refine r_putj C fl_X7_56 dX7_findAll_60 th0 (fun S13 => ?_)
  refine r_aload_n C 0 dX7_findAll_63 rfl ?_
  refine r_iconst C (0 : Int32) dX7_findAll_64 (by decide) ?_
  refine r_aload_n C 0 dX7_findAll_65 rfl ?_
  refine r_getr C fl_X7_12 dX7_findAll_66 th0 (fun b14 tb14 => ?_)
  refine r_getr C fl_X7_60 dX7_findAll_69 tb14 (fun b15 tb15 => ?_)
  refine r_iload_n C 2 dX7_findAll_72 rfl ?_
  refine r_iald C dX7_findAll_73 tb15 ?_
  refine r_iconst C (0 : Int32) dX7_findAll_74 (by decide) ?_
  refine r_ldc2 C (100000000000000 : Int64) (mG 913 (by decide +kernel) rfl) dX7_findAll_75 ?_
  refine r_callS (As := [.ref h0, .int (0 : Int32), .int (ai S13 b15 x2.toNatClampNeg), .int (0 : Int32), .long (100000000000000 : Int64)]) (rest := []) C (c_X7_goOn _ E n 12 h0 (0 : Int32) (ai S13 b15 x2.toNatClampNeg) (0 : Int32) (100000000000000 : Int64) th0) dX7_findAll_78 ml_X7_65 mv_X7_goOn rfl rfl ⟨by decide, by decide⟩ (Nat.le_of_ble_eq_true rfl) (fun v17 S16 hv17 => ?_)
  exact r_return C X dX7_findAll_81
set_option maxRecDepth 100000 in
set_option maxHeartbeats 4000000 in
theorem c_X8_mountain (l : Launch) (E : EN) (n : Nat) (h0 : Nat) (th0 : Ty E h0 7) : CT l E yX8_mountain cX8_mountain 3 (some .int) 9 197 wI tT [.ref h0] (fun S => f_X8_mountain E n S h0) := by
  refine ct_of RX8 (by decide +kernel) rfl [(0, .ref h0)] rfl (Nat.le_of_ble_eq_true rfl) (fun A S hA C X => ?_)
  subst hA
  show Gd A E 3 (QM A E wI tT) (f_X8_mountain E n S h0) S 0 [(0, .ref h0)] []
  unfold f_X8_mountain
  refine r_aload_n C 0 dX8_mountain_0 rfl ?_
  refine r_geti C fl_X8_13 dX8_mountain_1 th0 ?_
  refine r_topi (fun y1 => ?_)
  refine r_istore_n C [(1, .int y1), (0, .ref h0)] dX8_mountain_4 (by decide) rfl ?_
  refine r_aload_n C 1 dX8_mountain_5 rfl ?_
  refine r_iconst C (0 : Int32) dX8_mountain_6 (by decide) ?_
  refine r_puti C fl_X8_13 dX8_mountain_7 th0 (fun S2 => ?_)
  refine r_aload_n C 1 dX8_mountain_10 rfl ?_
  refine r_getr C fl_X8_20 dX8_mountain_11 th0 (fun b3 tb3 => ?_)
  refine r_aload_n C 1 dX8_mountain_14 rfl ?_
  refine r_getr C fl_X8_9 dX8_mountain_15 th0 (fun b4 tb4 => ?_)
  refine r_iload_n C 0 dX8_mountain_18 rfl ?_
  refine r_aload_n C 1 dX8_mountain_19 rfl ?_
  refine r_getr C fl_X8_31 dX8_mountain_20 th0 (fun b5 tb5 => ?_)
  refine r_callV (As := [.ref b4, .int y1, .ref b5]) (rest := []) C (c_X4_readWhole _ E n b3 b4 y1 b5 tb3 tb4 tb5) dX8_mountain_23 ml_X8_91 mv_X4_readWhole ⟨TX4, _, rfl⟩ (by decide) tb3 rfl rfl ⟨by decide, by decide⟩ (Nat.le_of_ble_eq_true rfl) (fun v7 S6 hv7 => ?_)
  refine r_if_ne C 32 dX8_mountain_26 (by decide) ?_ ?_
  · refine r_aload_n C 1 dX8_mountain_32 rfl ?_
    refine r_getr C fl_X8_27 dX8_mountain_33 th0 (fun b8 tb8 => ?_)
    refine r_astore_n C [(2, .ref b8), (1, .int y1), (0, .ref h0)] dX8_mountain_36 (by decide) rfl ?_
    refine r_aload_n C 2 dX8_mountain_37 rfl ?_
    refine r_aload_n C 2 dX8_mountain_38 rfl ?_
    refine r_getr C fl_X8_31 dX8_mountain_39 th0 (fun b9 tb9 => ?_)
    refine r_putr C fl_X8_27 dX8_mountain_42 th0 tb9 rfl rfl (fun S10 => ?_)
    refine r_aload_n C 2 dX8_mountain_45 rfl ?_
    refine r_aload_n C 0 dX8_mountain_46 rfl ?_
    refine r_putr C fl_X8_31 dX8_mountain_47 th0 tb8 rfl rfl (fun S11 => ?_)
    refine r_aload_n C 2 dX8_mountain_50 rfl ?_
    refine r_getr C fl_X8_27 dX8_mountain_51 th0 (fun b12 tb12 => ?_)
    refine r_geti C fl_X8_95 dX8_mountain_54 tb12 ?_
    exact r_ireturn C X dX8_mountain_57
  · refine r_bipush C (-4 : Int32) dX8_mountain_29 (by decide) ?_
    exact r_ireturn C X dX8_mountain_31
set_option maxRecDepth 100000 in
set_option maxHeartbeats 4000000 in
theorem c_X8_shortest (l : Launch) (E : EN) (n : Nat) (h0 : Nat) (x1 : Int32) (x2 : Int32) (x3 : Int32) (th0 : Ty E h0 7) : CT l E yX8_shortest cX8_shortest 4 (some .int) 19 688 wI tT [.ref h0, .int x1, .int x2, .int x3] (fun S => f_X8_shortest E n S h0 x1 x2 x3) := by
  refine ct_of RX8 (by decide +kernel) rfl [(0, .ref h0), (1, .int x1), (2, .int x2), (3, .int x3)] rfl (Nat.le_of_ble_eq_true rfl) (fun A S hA C X => ?_)
  subst hA
  show Gd A E 4 (QM A E wI tT) (f_X8_shortest E n S h0 x1 x2 x3) S 0 [(0, .ref h0), (1, .int x1), (2, .int x2), (3, .int x3)] []
  unfold f_X8_shortest
  refine r_aload_n C 0 dX8_shortest_0 rfl ?_
  refine r_iload_n C 1 dX8_shortest_1 rfl ?_
  refine r_iload_n C 2 dX8_shortest_2 rfl ?_
  refine r_iload_n C 3 dX8_shortest_3 rfl ?_
  refine r_callV (As := [.int x1, .int x2, .int x3]) (rest := []) C (c_X8_knowsWay _ E n h0 x1 x2 x3 th0) dX8_shortest_4 ml_X8_228 mv_X8_knowsWay ⟨TX8, _, rfl⟩ (by decide) th0 rfl rfl ⟨by decide, by decide⟩ (Nat.le_of_ble_eq_true rfl) (fun v2 S1 hv2 => ?_)
  refine r_if_ne C 13 dX8_shortest_7 (by decide) ?_ ?_
  · refine r_aload_n C 0 dX8_shortest_13 rfl ?_
    refine r_getr C fl_X8_51 dX8_shortest_14 th0 (fun b3 tb3 => ?_)
    refine r_aload_n C 0 dX8_shortest_17 rfl ?_
    refine r_getr C fl_X8_27 dX8_shortest_18 th0 (fun b4 tb4 => ?_)
    refine r_iload_n C 1 dX8_shortest_21 rfl ?_
    refine r_iload_n C 2 dX8_shortest_22 rfl ?_
    refine r_iload_n C 3 dX8_shortest_23 rfl ?_
    refine r_callV (As := [.ref b4, .int x1, .int x2, .int x3]) (rest := []) C (c_X7_findAll _ E n b3 b4 x1 x2 x3 tb3 tb4) dX8_shortest_24 ml_X8_231 mv_X7_findAll ⟨TX7, _, rfl⟩ (by decide) tb3 rfl rfl ⟨by decide, by decide⟩ (Nat.le_of_ble_eq_true rfl) (fun v6 S5 hv6 => ?_)
    refine r_aload_n C 0 dX8_shortest_27 rfl ?_
    refine r_getr C fl_X8_51 dX8_shortest_28 th0 (fun b7 tb7 => ?_)
    refine r_geti C fl_X8_235 dX8_shortest_31 tb7 ?_
    exact r_ireturn C X dX8_shortest_34
  · refine r_bipush C (-2 : Int32) dX8_shortest_10 (by decide) ?_
    exact r_ireturn C X dX8_shortest_12
set_option maxRecDepth 100000 in
set_option maxHeartbeats 4000000 in
theorem c_X8_goes (l : Launch) (E : EN) (n : Nat) (h0 : Nat) (x1 : Int32) (x2 : Int32) (x3 : Int32) (x4 : Int32) (th0 : Ty E h0 7) : CT l E yX8_goes cX8_goes 5 (some .int) 19 688 wI tT [.ref h0, .int x1, .int x2, .int x3, .int x4] (fun S => f_X8_goes E n S h0 x1 x2 x3 x4) := by
  refine ct_of RX8 (by decide +kernel) rfl [(0, .ref h0), (1, .int x1), (2, .int x2), (3, .int x3), (4, .int x4)] rfl (Nat.le_of_ble_eq_true rfl) (fun A S hA C X => ?_)
  subst hA
  show Gd A E 5 (QM A E wI tT) (f_X8_goes E n S h0 x1 x2 x3 x4) S 0 [(0, .ref h0), (1, .int x1), (2, .int x2), (3, .int x3), (4, .int x4)] []
  unfold f_X8_goes
  refine r_aload_n C 0 dX8_goes_0 rfl ?_
  refine r_iload_n C 1 dX8_goes_1 rfl ?_
  refine r_iload_n C 2 dX8_goes_2 rfl ?_
  refine r_iload_n C 3 dX8_goes_3 rfl ?_
  refine r_callV (As := [.int x1, .int x2, .int x3]) (rest := []) C (c_X8_knowsWay _ E n h0 x1 x2 x3 th0) dX8_goes_4 ml_X8_228 mv_X8_knowsWay ⟨TX8, _, rfl⟩ (by decide) th0 rfl rfl ⟨by decide, by decide⟩ (Nat.le_of_ble_eq_true rfl) (fun v2 S1 hv2 => ?_)
  refine r_if_ne C 13 dX8_goes_7 (by decide) ?_ ?_
  · refine r_aload_n C 0 dX8_goes_13 rfl ?_
    refine r_getr C fl_X8_51 dX8_goes_14 th0 (fun b3 tb3 => ?_)
    refine r_aload_n C 0 dX8_goes_17 rfl ?_
    refine r_getr C fl_X8_27 dX8_goes_18 th0 (fun b4 tb4 => ?_)
    refine r_iload_n C 1 dX8_goes_21 rfl ?_
    refine r_iload_n C 2 dX8_goes_22 rfl ?_
    refine r_iload_n C 3 dX8_goes_23 rfl ?_
    refine r_callV (As := [.ref b4, .int x1, .int x2, .int x3]) (rest := []) C (c_X7_findAll _ E n b3 b4 x1 x2 x3 tb3 tb4) dX8_goes_24 ml_X8_231 mv_X7_findAll ⟨TX7, _, rfl⟩ (by decide) tb3 rfl rfl ⟨by decide, by decide⟩ (Nat.le_of_ble_eq_true rfl) (fun v6 S5 hv6 => ?_)
    refine r_iload C 4 dX8_goes_27 rfl ?_
    refine r_if_lt C 57 dX8_goes_29 (by decide) ?_ ?_
    · refine r_iconst C (-1 : Int32) dX8_goes_57 (by decide) ?_
      exact r_ireturn C X dX8_goes_58
    · refine r_iload C 4 dX8_goes_32 rfl ?_
      refine r_aload_n C 0 dX8_goes_34 rfl ?_
      refine r_getr C fl_X8_51 dX8_goes_35 th0 (fun b7 tb7 => ?_)
      refine r_geti C fl_X8_235 dX8_goes_38 tb7 ?_
      refine r_icmp_ge C 57 dX8_goes_41 (by decide) ?_ ?_
      · refine r_iconst C (-1 : Int32) dX8_goes_57 (by decide) ?_
        exact r_ireturn C X dX8_goes_58
      · refine r_aload_n C 0 dX8_goes_44 rfl ?_
        refine r_getr C fl_X8_51 dX8_goes_45 th0 (fun b8 tb8 => ?_)
        refine r_getr C fl_X8_238 dX8_goes_48 tb8 (fun b9 tb9 => ?_)
        refine r_iload C 4 dX8_goes_51 rfl ?_
        refine r_iald C dX8_goes_53 tb9 ?_
        refine r_goto C 58 dX8_goes_54 (by decide) ?_
        exact r_ireturn C X dX8_goes_58
  · refine r_bipush C (-2 : Int32) dX8_goes_10 (by decide) ?_
    exact r_ireturn C X dX8_goes_12
set_option maxRecDepth 100000 in
set_option maxHeartbeats 4000000 in
theorem c_X8_safest (l : Launch) (E : EN) (n : Nat) (h0 : Nat) (x1 : Int32) (x2 : Int32) (x3 : Int32) (x4 : Int32) (th0 : Ty E h0 7) : CT l E yX8_safest cX8_safest 5 (some .long) 19 688 wJ tT [.ref h0, .int x1, .int x2, .int x3, .int x4] (fun S => f_X8_safest E n S h0 x1 x2 x3 x4) := by
  refine ct_of RX8 (by decide +kernel) rfl [(0, .ref h0), (1, .int x1), (2, .int x2), (3, .int x3), (4, .int x4)] rfl (Nat.le_of_ble_eq_true rfl) (fun A S hA C X => ?_)
  subst hA
  show Gd A E 5 (QM A E wJ tT) (f_X8_safest E n S h0 x1 x2 x3 x4) S 0 [(0, .ref h0), (1, .int x1), (2, .int x2), (3, .int x3), (4, .int x4)] []
  unfold f_X8_safest
  refine r_aload_n C 0 dX8_safest_0 rfl ?_
  refine r_iload_n C 1 dX8_safest_1 rfl ?_
  refine r_iload_n C 2 dX8_safest_2 rfl ?_
  refine r_iload_n C 3 dX8_safest_3 rfl ?_
  refine r_callV (As := [.int x1, .int x2, .int x3]) (rest := []) C (c_X8_knowsWay _ E n h0 x1 x2 x3 th0) dX8_safest_4 ml_X8_228 mv_X8_knowsWay ⟨TX8, _, rfl⟩ (by decide) th0 rfl rfl ⟨by decide, by decide⟩ (Nat.le_of_ble_eq_true rfl) (fun v2 S1 hv2 => ?_)
  refine r_if_eq C 21 dX8_safest_7 (by decide) ?_ ?_
  · refine r_ldc2 C (-2 : Int64) (mG 837 (by decide +kernel) rfl) dX8_safest_21 ?_
    exact r_lreturn C X dX8_safest_24
  · refine r_iload C 4 dX8_safest_10 rfl ?_
    refine r_if_lt C 21 dX8_safest_12 (by decide) ?_ ?_
    · refine r_ldc2 C (-2 : Int64) (mG 837 (by decide +kernel) rfl) dX8_safest_21 ?_
      exact r_lreturn C X dX8_safest_24
    · refine r_iload C 4 dX8_safest_15 rfl ?_
      refine r_iconst C (2 : Int32) dX8_safest_17 (by decide) ?_
      refine r_icmp_le C 25 dX8_safest_18 (by decide) ?_ ?_
      · refine r_aload_n C 0 dX8_safest_25 rfl ?_
        refine r_getr C fl_X8_51 dX8_safest_26 th0 (fun b3 tb3 => ?_)
        refine r_aload_n C 0 dX8_safest_29 rfl ?_
        refine r_getr C fl_X8_27 dX8_safest_30 th0 (fun b4 tb4 => ?_)
        refine r_iload_n C 1 dX8_safest_33 rfl ?_
        refine r_iload_n C 2 dX8_safest_34 rfl ?_
        refine r_iload_n C 3 dX8_safest_35 rfl ?_
        refine r_callV (As := [.ref b4, .int x1, .int x2, .int x3]) (rest := []) C (c_X7_findAll _ E n b3 b4 x1 x2 x3 tb3 tb4) dX8_safest_36 ml_X8_231 mv_X7_findAll ⟨TX7, _, rfl⟩ (by decide) tb3 rfl rfl ⟨by decide, by decide⟩ (Nat.le_of_ble_eq_true rfl) (fun v6 S5 hv6 => ?_)
        refine r_aload_n C 0 dX8_safest_39 rfl ?_
        refine r_getr C fl_X8_51 dX8_safest_40 th0 (fun b7 tb7 => ?_)
        refine r_geti C fl_X8_241 dX8_safest_43 tb7 ?_
        refine r_iconst C (-1 : Int32) dX8_safest_46 (by decide) ?_
        refine r_icmp_ne C 54 dX8_safest_47 (by decide) ?_ ?_
        · refine r_iload C 4 dX8_safest_54 rfl ?_
          refine r_iconst C (2 : Int32) dX8_safest_56 (by decide) ?_
          refine r_icmp_ne C 71 dX8_safest_57 (by decide) ?_ ?_
          · refine r_aload_n C 0 dX8_safest_71 rfl ?_
            refine r_getr C fl_X8_51 dX8_safest_72 th0 (fun b8 tb8 => ?_)
            refine r_getj C fl_X8_244 dX8_safest_75 tb8 ?_
            refine r_iload C 4 dX8_safest_78 rfl ?_
            refine r_callS (As := [.long (gj S5 393 b8), .int x4]) (rest := []) C (c_X8_lowestTerm _ E n (gj S5 393 b8) x4 ) dX8_safest_80 ml_X8_196 mv_X8_lowestTerm rfl rfl ⟨by decide, by decide⟩ (Nat.le_of_ble_eq_true rfl) (fun v10 S9 hv10 => ?_)
            exact r_lreturn C X dX8_safest_83
          · refine r_aload_n C 0 dX8_safest_60 rfl ?_
            refine r_getr C fl_X8_51 dX8_safest_61 th0 (fun b11 tb11 => ?_)
            refine r_geti C fl_X8_241 dX8_safest_64 tb11 ?_
            refine r_i2l C dX8_safest_67 ?_
            refine r_goto C 83 dX8_safest_68 (by decide) ?_
            exact r_lreturn C X dX8_safest_83
        · refine r_ldc2 C (-1 : Int64) (mG 874 (by decide +kernel) rfl) dX8_safest_50 ?_
          exact r_lreturn C X dX8_safest_53
      · refine r_ldc2 C (-2 : Int64) (mG 837 (by decide +kernel) rfl) dX8_safest_21 ?_
        exact r_lreturn C X dX8_safest_24
set_option maxRecDepth 100000 in
set_option maxHeartbeats 4000000 in
theorem c_X8_place (l : Launch) (E : EN) (n : Nat) (h0 : Nat) (x1 : Int32) (x2 : Int32) (x3 : Int32) (x4 : Int32) (th0 : Ty E h0 7) : CT l E yX8_place cX8_place 5 (some .int) 19 688 wI tT [.ref h0, .int x1, .int x2, .int x3, .int x4] (fun S => f_X8_place E n S h0 x1 x2 x3 x4) := by
  refine ct_of RX8 (by decide +kernel) rfl [(0, .ref h0), (1, .int x1), (2, .int x2), (3, .int x3), (4, .int x4)] rfl (Nat.le_of_ble_eq_true rfl) (fun A S hA C X => ?_)
  subst hA
  show Gd A E 5 (QM A E wI tT) (f_X8_place E n S h0 x1 x2 x3 x4) S 0 [(0, .ref h0), (1, .int x1), (2, .int x2), (3, .int x3), (4, .int x4)] []
  unfold f_X8_place
  refine r_aload_n C 0 dX8_place_0 rfl ?_
  refine r_iload_n C 1 dX8_place_1 rfl ?_
  refine r_iload_n C 2 dX8_place_2 rfl ?_
  refine r_iload_n C 3 dX8_place_3 rfl ?_
  refine r_callV (As := [.int x1, .int x2, .int x3]) (rest := []) C (c_X8_knowsWay _ E n h0 x1 x2 x3 th0) dX8_place_4 ml_X8_228 mv_X8_knowsWay ⟨TX8, _, rfl⟩ (by decide) th0 rfl rfl ⟨by decide, by decide⟩ (Nat.le_of_ble_eq_true rfl) (fun v2 S1 hv2 => ?_)
  refine r_if_ne C 13 dX8_place_7 (by decide) ?_ ?_
  · refine r_aload_n C 0 dX8_place_13 rfl ?_
    refine r_getr C fl_X8_51 dX8_place_14 th0 (fun b3 tb3 => ?_)
    refine r_aload_n C 0 dX8_place_17 rfl ?_
    refine r_getr C fl_X8_27 dX8_place_18 th0 (fun b4 tb4 => ?_)
    refine r_iload_n C 1 dX8_place_21 rfl ?_
    refine r_iload_n C 2 dX8_place_22 rfl ?_
    refine r_iload_n C 3 dX8_place_23 rfl ?_
    refine r_callV (As := [.ref b4, .int x1, .int x2, .int x3]) (rest := []) C (c_X7_findAll _ E n b3 b4 x1 x2 x3 tb3 tb4) dX8_place_24 ml_X8_231 mv_X7_findAll ⟨TX7, _, rfl⟩ (by decide) tb3 rfl rfl ⟨by decide, by decide⟩ (Nat.le_of_ble_eq_true rfl) (fun v6 S5 hv6 => ?_)
    refine r_iload C 4 dX8_place_27 rfl ?_
    refine r_if_lt C 57 dX8_place_29 (by decide) ?_ ?_
    · refine r_iconst C (-1 : Int32) dX8_place_57 (by decide) ?_
      exact r_ireturn C X dX8_place_58
    · refine r_iload C 4 dX8_place_32 rfl ?_
      refine r_aload_n C 0 dX8_place_34 rfl ?_
      refine r_getr C fl_X8_51 dX8_place_35 th0 (fun b7 tb7 => ?_)
      refine r_geti C fl_X8_241 dX8_place_38 tb7 ?_
      refine r_icmp_ge C 57 dX8_place_41 (by decide) ?_ ?_
      · refine r_iconst C (-1 : Int32) dX8_place_57 (by decide) ?_
        exact r_ireturn C X dX8_place_58
      · refine r_aload_n C 0 dX8_place_44 rfl ?_
        refine r_getr C fl_X8_51 dX8_place_45 th0 (fun b8 tb8 => ?_)
        refine r_getr C fl_X8_248 dX8_place_48 tb8 (fun b9 tb9 => ?_)
        refine r_iload C 4 dX8_place_51 rfl ?_
        refine r_iald C dX8_place_53 tb9 ?_
        refine r_goto C 58 dX8_place_54 (by decide) ?_
        exact r_ireturn C X dX8_place_58
  · refine r_bipush C (-2 : Int32) dX8_place_10 (by decide) ?_
    exact r_ireturn C X dX8_place_12
set_option maxRecDepth 100000 in
set_option maxHeartbeats 4000000 in
theorem c_X8_ways (l : Launch) (E : EN) (n : Nat) (h0 : Nat) (x1 : Int32) (x2 : Int32) (x3 : Int32) (th0 : Ty E h0 7) : CT l E yX8_ways cX8_ways 4 (some .int) 19 688 wI tT [.ref h0, .int x1, .int x2, .int x3] (fun S => f_X8_ways E n S h0 x1 x2 x3) := by
  refine ct_of RX8 (by decide +kernel) rfl [(0, .ref h0), (1, .int x1), (2, .int x2), (3, .int x3)] rfl (Nat.le_of_ble_eq_true rfl) (fun A S hA C X => ?_)
  subst hA
  show Gd A E 4 (QM A E wI tT) (f_X8_ways E n S h0 x1 x2 x3) S 0 [(0, .ref h0), (1, .int x1), (2, .int x2), (3, .int x3)] []
  unfold f_X8_ways
  refine r_aload_n C 0 dX8_ways_0 rfl ?_
  refine r_iload_n C 1 dX8_ways_1 rfl ?_
  refine r_iload_n C 2 dX8_ways_2 rfl ?_
  refine r_iload_n C 3 dX8_ways_3 rfl ?_
  refine r_callV (As := [.int x1, .int x2, .int x3]) (rest := []) C (c_X8_knowsWay _ E n h0 x1 x2 x3 th0) dX8_ways_4 ml_X8_228 mv_X8_knowsWay ⟨TX8, _, rfl⟩ (by decide) th0 rfl rfl ⟨by decide, by decide⟩ (Nat.le_of_ble_eq_true rfl) (fun v2 S1 hv2 => ?_)
  refine r_if_ne C 13 dX8_ways_7 (by decide) ?_ ?_
  · refine r_aload_n C 0 dX8_ways_13 rfl ?_
    refine r_getr C fl_X8_51 dX8_ways_14 th0 (fun b3 tb3 => ?_)
    refine r_aload_n C 0 dX8_ways_17 rfl ?_
    refine r_getr C fl_X8_27 dX8_ways_18 th0 (fun b4 tb4 => ?_)
    refine r_iload_n C 1 dX8_ways_21 rfl ?_
    refine r_iload_n C 2 dX8_ways_22 rfl ?_
    refine r_iload_n C 3 dX8_ways_23 rfl ?_
    refine r_callV (As := [.ref b4, .int x1, .int x2, .int x3]) (rest := []) C (c_X7_findAll _ E n b3 b4 x1 x2 x3 tb3 tb4) dX8_ways_24 ml_X8_231 mv_X7_findAll ⟨TX7, _, rfl⟩ (by decide) tb3 rfl rfl ⟨by decide, by decide⟩ (Nat.le_of_ble_eq_true rfl) (fun v6 S5 hv6 => ?_)
    refine r_aload_n C 0 dX8_ways_27 rfl ?_
    refine r_getr C fl_X8_51 dX8_ways_28 th0 (fun b7 tb7 => ?_)
    refine r_geti C fl_X8_251 dX8_ways_31 tb7 ?_
    exact r_ireturn C X dX8_ways_34
  · refine r_bipush C (-2 : Int32) dX8_ways_10 (by decide) ?_
    exact r_ireturn C X dX8_ways_12
set_option maxRecDepth 100000 in
set_option maxHeartbeats 4000000 in
theorem p_X8_climbs_L57 {A : AM} {E : EN} {n : Nat} (C : Cx A E cX8_climbs 8 RX8 19 688) (X : Ex A E (some .int))  : ∀ (m : Nat) (S : WS) (h0 : Nat) (x4 : Int32) (x5 : Int32) (x6 : Int32) (th0 : Ty E h0 7), Gd A E 8 (QM A E wI tT) (f_X8_climbs_L57 E n  m S h0 x4 x5 x6) S 57 [(0, .ref h0), (4, .int x4), (5, .int x5), (6, .int x6)] [] := by
  intro m
  induction m with
  | zero => intros; exact gn
  | succ m ih =>
    intro S h0 x4 x5 x6 th0
    unfold f_X8_climbs_L57
    refine r_iload C 3 dX8_climbs_57 rfl ?_
    refine r_aload_n C 0 dX8_climbs_59 rfl ?_
    refine r_getr C fl_X8_51 dX8_climbs_60 th0 (fun b1 tb1 => ?_)
    refine r_geti C fl_X8_235 dX8_climbs_63 tb1 ?_
    refine r_icmp_ge C 138 dX8_climbs_66 (by decide) ?_ ?_
    · refine r_iload C 2 dX8_climbs_138 rfl ?_
      exact r_ireturn C X dX8_climbs_140
    · refine r_aload_n C 0 dX8_climbs_69 rfl ?_
      refine r_getr C fl_X8_27 dX8_climbs_70 th0 (fun b2 tb2 => ?_)
      refine r_getr C fl_X8_257 dX8_climbs_73 tb2 (fun b3 tb3 => ?_)
      refine r_aload_n C 0 dX8_climbs_76 rfl ?_
      refine r_getr C fl_X8_51 dX8_climbs_77 th0 (fun b4 tb4 => ?_)
      refine r_getr C fl_X8_238 dX8_climbs_80 tb4 (fun b5 tb5 => ?_)
      refine r_iload C 3 dX8_climbs_83 rfl ?_
      refine r_iald C dX8_climbs_85 tb5 ?_
      refine r_iald C dX8_climbs_86 tb3 ?_
      refine r_aload_n C 0 dX8_climbs_87 rfl ?_
      refine r_getr C fl_X8_27 dX8_climbs_88 th0 (fun b6 tb6 => ?_)
      refine r_getr C fl_X8_257 dX8_climbs_91 tb6 (fun b7 tb7 => ?_)
      refine r_aload_n C 0 dX8_climbs_94 rfl ?_
      refine r_getr C fl_X8_51 dX8_climbs_95 th0 (fun b8 tb8 => ?_)
      refine r_getr C fl_X8_238 dX8_climbs_98 tb8 (fun b9 tb9 => ?_)
      refine r_iload C 3 dX8_climbs_101 rfl ?_
      refine r_iconst C (1 : Int32) dX8_climbs_103 (by decide) ?_
      refine r_isub C dX8_climbs_104 ?_
      refine r_iald C dX8_climbs_105 tb9 ?_
      refine r_iald C dX8_climbs_106 tb7 ?_
      refine r_isub C dX8_climbs_107 ?_
      refine r_topi (fun y10 => ?_)
      refine r_istore C [(7, .int y10), (0, .ref h0), (4, .int x4), (5, .int x5), (6, .int x6)] dX8_climbs_108 (by decide) rfl ?_
      refine r_iload C 3 dX8_climbs_110 rfl ?_
      refine r_iload C 2 dX8_climbs_112 rfl ?_
      refine r_if_ne C 122 dX8_climbs_114 (by decide) ?_ ?_
      · refine r_iload C 0 dX8_climbs_122 rfl ?_
        refine r_ineg C dX8_climbs_124 ?_
        refine r_iconst C (0 : Int32) dX8_climbs_125 (by decide) ?_
        refine r_mmax C (mG 958 (by decide +kernel) rfl) mmax_w ⟨by decide, by decide⟩ (Nat.le_of_ble_eq_true rfl) dX8_climbs_126 ?_
        refine r_iadd C dX8_climbs_129 ?_
        refine r_topi (fun y11 => ?_)
        refine r_istore C [(5, .int y11), (7, .int y10), (0, .ref h0), (4, .int x4), (6, .int x6)] dX8_climbs_130 (by decide) rfl ?_
        refine r_iinc C 4 (fun y12 => [(6, .int y12), (5, .int y11), (7, .int y10), (0, .ref h0), (4, .int x4)]) dX8_climbs_132 rfl (v := (1 : Int32)) (by decide) (by decide) (fun _ => rfl) (fun y12 => ?_)
        refine r_goto C 57 dX8_climbs_135 (by decide) ?_
        refine r_sub [3, 4, 1, 0] [(0, .ref h0), (4, .int x4), (5, .int y11), (6, .int y12)] rfl ?_
        exact ih S h0 x4 y11 y12 th0
      · refine r_iload C 0 dX8_climbs_117 rfl ?_
        refine r_goto C 125 dX8_climbs_119 (by decide) ?_
        refine r_iconst C (0 : Int32) dX8_climbs_125 (by decide) ?_
        refine r_mmax C (mG 958 (by decide +kernel) rfl) mmax_w ⟨by decide, by decide⟩ (Nat.le_of_ble_eq_true rfl) dX8_climbs_126 ?_
        refine r_iadd C dX8_climbs_129 ?_
        refine r_topi (fun y13 => ?_)
        refine r_istore C [(5, .int y13), (7, .int y10), (0, .ref h0), (4, .int x4), (6, .int x6)] dX8_climbs_130 (by decide) rfl ?_
        refine r_iinc C 4 (fun y14 => [(6, .int y14), (5, .int y13), (7, .int y10), (0, .ref h0), (4, .int x4)]) dX8_climbs_132 rfl (v := (1 : Int32)) (by decide) (by decide) (fun _ => rfl) (fun y14 => ?_)
        refine r_goto C 57 dX8_climbs_135 (by decide) ?_
        refine r_sub [3, 4, 1, 0] [(0, .ref h0), (4, .int x4), (5, .int y13), (6, .int y14)] rfl ?_
        exact ih S h0 x4 y13 y14 th0
set_option maxRecDepth 100000 in
set_option maxHeartbeats 4000000 in
theorem c_X8_climbs (l : Launch) (E : EN) (n : Nat) (h0 : Nat) (x1 : Int32) (x2 : Int32) (x3 : Int32) (x4 : Int32) (th0 : Ty E h0 7) : CT l E yX8_climbs cX8_climbs 8 (some .int) 19 688 wI tT [.ref h0, .int x1, .int x2, .int x3, .int x4] (fun S => f_X8_climbs E n S h0 x1 x2 x3 x4) := by
  refine ct_of RX8 (by decide +kernel) rfl [(0, .ref h0), (1, .int x1), (2, .int x2), (3, .int x3), (4, .int x4)] rfl (Nat.le_of_ble_eq_true rfl) (fun A S hA C X => ?_)
  subst hA
  show Gd A E 8 (QM A E wI tT) (f_X8_climbs E n S h0 x1 x2 x3 x4) S 0 [(0, .ref h0), (1, .int x1), (2, .int x2), (3, .int x3), (4, .int x4)] []
  unfold f_X8_climbs
  refine r_aload_n C 0 dX8_climbs_0 rfl ?_
  refine r_iload_n C 1 dX8_climbs_1 rfl ?_
  refine r_iload_n C 2 dX8_climbs_2 rfl ?_
  refine r_iload_n C 3 dX8_climbs_3 rfl ?_
  refine r_callV (As := [.int x1, .int x2, .int x3]) (rest := []) C (c_X8_knowsWay _ E n h0 x1 x2 x3 th0) dX8_climbs_4 ml_X8_228 mv_X8_knowsWay ⟨TX8, _, rfl⟩ (by decide) th0 rfl rfl ⟨by decide, by decide⟩ (Nat.le_of_ble_eq_true rfl) (fun v2 S1 hv2 => ?_)
  refine r_if_eq C 21 dX8_climbs_7 (by decide) ?_ ?_
  · refine r_bipush C (-2 : Int32) dX8_climbs_21 (by decide) ?_
    exact r_ireturn C X dX8_climbs_23
  · refine r_iload C 4 dX8_climbs_10 rfl ?_
    refine r_if_lt C 21 dX8_climbs_12 (by decide) ?_ ?_
    · refine r_bipush C (-2 : Int32) dX8_climbs_21 (by decide) ?_
      exact r_ireturn C X dX8_climbs_23
    · refine r_iload C 4 dX8_climbs_15 rfl ?_
      refine r_iconst C (1 : Int32) dX8_climbs_17 (by decide) ?_
      refine r_icmp_le C 24 dX8_climbs_18 (by decide) ?_ ?_
      · refine r_aload_n C 0 dX8_climbs_24 rfl ?_
        refine r_getr C fl_X8_51 dX8_climbs_25 th0 (fun b3 tb3 => ?_)
        refine r_aload_n C 0 dX8_climbs_28 rfl ?_
        refine r_getr C fl_X8_27 dX8_climbs_29 th0 (fun b4 tb4 => ?_)
        refine r_iload_n C 1 dX8_climbs_32 rfl ?_
        refine r_iload_n C 2 dX8_climbs_33 rfl ?_
        refine r_iload_n C 3 dX8_climbs_34 rfl ?_
        refine r_callV (As := [.ref b4, .int x1, .int x2, .int x3]) (rest := []) C (c_X7_findAll _ E n b3 b4 x1 x2 x3 tb3 tb4) dX8_climbs_35 ml_X8_231 mv_X7_findAll ⟨TX7, _, rfl⟩ (by decide) tb3 rfl rfl ⟨by decide, by decide⟩ (Nat.le_of_ble_eq_true rfl) (fun v6 S5 hv6 => ?_)
        refine r_aload_n C 0 dX8_climbs_38 rfl ?_
        refine r_getr C fl_X8_51 dX8_climbs_39 th0 (fun b7 tb7 => ?_)
        refine r_geti C fl_X8_235 dX8_climbs_42 tb7 ?_
        refine r_iconst C (-1 : Int32) dX8_climbs_45 (by decide) ?_
        refine r_icmp_ne C 51 dX8_climbs_46 (by decide) ?_ ?_
        · refine r_iconst C (0 : Int32) dX8_climbs_51 (by decide) ?_
          refine r_istore C [(5, .int (0 : Int32)), (0, .ref h0), (1, .int x1), (2, .int x2), (3, .int x3), (4, .int x4)] dX8_climbs_52 (by decide) rfl ?_
          refine r_iconst C (1 : Int32) dX8_climbs_54 (by decide) ?_
          refine r_istore C [(6, .int (1 : Int32)), (5, .int (0 : Int32)), (0, .ref h0), (1, .int x1), (2, .int x2), (3, .int x3), (4, .int x4)] dX8_climbs_55 (by decide) rfl ?_
          refine r_sub [2, 6, 1, 0] [(0, .ref h0), (4, .int x4), (5, .int (0 : Int32)), (6, .int (1 : Int32))] rfl ?_
          exact p_X8_climbs_L57 C X  n S5 h0 x4 (0 : Int32) (1 : Int32) th0
        · refine r_iconst C (-1 : Int32) dX8_climbs_49 (by decide) ?_
          exact r_ireturn C X dX8_climbs_50
      · refine r_bipush C (-2 : Int32) dX8_climbs_21 (by decide) ?_
        exact r_ireturn C X dX8_climbs_23
set_option maxRecDepth 100000 in
set_option maxHeartbeats 4000000 in
theorem c_X8_walk (l : Launch) (E : EN) (n : Nat) (h0 : Nat) (x1 : Int32) (x2 : Int32) (x3 : Int32) (x4 : Int32) (th0 : Ty E h0 7) : CT l E yX8_walk cX8_walk 5 (some .int) 19 688 wI tT [.ref h0, .int x1, .int x2, .int x3, .int x4] (fun S => f_X8_walk E n S h0 x1 x2 x3 x4) := by
  refine ct_of RX8 (by decide +kernel) rfl [(0, .ref h0), (1, .int x1), (2, .int x2), (3, .int x3), (4, .int x4)] rfl (Nat.le_of_ble_eq_true rfl) (fun A S hA C X => ?_)
  subst hA
  show Gd A E 5 (QM A E wI tT) (f_X8_walk E n S h0 x1 x2 x3 x4) S 0 [(0, .ref h0), (1, .int x1), (2, .int x2), (3, .int x3), (4, .int x4)] []
  unfold f_X8_walk
  refine r_aload_n C 0 dX8_walk_0 rfl ?_
  refine r_iload_n C 2 dX8_walk_1 rfl ?_
  refine r_iload_n C 3 dX8_walk_2 rfl ?_
  refine r_iload C 4 dX8_walk_3 rfl ?_
  refine r_callV (As := [.int x2, .int x3, .int x4]) (rest := []) C (c_X8_knowsWay _ E n h0 x2 x3 x4 th0) dX8_walk_5 ml_X8_228 mv_X8_knowsWay ⟨TX8, _, rfl⟩ (by decide) th0 rfl rfl ⟨by decide, by decide⟩ (Nat.le_of_ble_eq_true rfl) (fun v2 S1 hv2 => ?_)
  refine r_if_eq C 22 dX8_walk_8 (by decide) ?_ ?_
  · refine r_bipush C (-2 : Int32) dX8_walk_22 (by decide) ?_
    exact r_ireturn C X dX8_walk_24
  · refine r_iload_n C 1 dX8_walk_11 rfl ?_
    refine r_if_lt C 22 dX8_walk_12 (by decide) ?_ ?_
    · refine r_bipush C (-2 : Int32) dX8_walk_22 (by decide) ?_
      exact r_ireturn C X dX8_walk_24
    · refine r_iload_n C 1 dX8_walk_15 rfl ?_
      refine r_ldc_w C (2000000000 : Int32) (mG 1193 (by decide +kernel) rfl) dX8_walk_16 ?_
      refine r_icmp_le C 25 dX8_walk_19 (by decide) ?_ ?_
      · refine r_aload_n C 0 dX8_walk_25 rfl ?_
        refine r_getr C fl_X8_51 dX8_walk_26 th0 (fun b3 tb3 => ?_)
        refine r_aload_n C 0 dX8_walk_29 rfl ?_
        refine r_getr C fl_X8_27 dX8_walk_30 th0 (fun b4 tb4 => ?_)
        refine r_iload_n C 2 dX8_walk_33 rfl ?_
        refine r_iload_n C 3 dX8_walk_34 rfl ?_
        refine r_iload C 4 dX8_walk_35 rfl ?_
        refine r_callV (As := [.ref b4, .int x2, .int x3, .int x4]) (rest := []) C (c_X7_findAll _ E n b3 b4 x2 x3 x4 tb3 tb4) dX8_walk_37 ml_X8_231 mv_X7_findAll ⟨TX7, _, rfl⟩ (by decide) tb3 rfl rfl ⟨by decide, by decide⟩ (Nat.le_of_ble_eq_true rfl) (fun v6 S5 hv6 => ?_)
        refine r_aload_n C 0 dX8_walk_40 rfl ?_
        refine r_iload_n C 1 dX8_walk_41 rfl ?_
        refine r_i2l C dX8_walk_42 ?_
        refine r_iload C 4 dX8_walk_43 rfl ?_
        refine r_callV (As := [.long (x1.toInt64), .int x4]) (rest := []) C (c_X8_endOfWalk _ E n h0 (x1.toInt64) x4 th0) dX8_walk_45 ml_X8_380 mv_X8_endOfWalk ⟨TX8, _, rfl⟩ (by decide) th0 rfl rfl ⟨by decide, by decide⟩ (Nat.le_of_ble_eq_true rfl) (fun v8 S7 hv8 => ?_)
        exact r_ireturn C X dX8_walk_48
      · refine r_bipush C (-2 : Int32) dX8_walk_22 (by decide) ?_
        exact r_ireturn C X dX8_walk_24
set_option maxRecDepth 100000 in
set_option maxHeartbeats 4000000 in
theorem p_X8_walks_L72 {A : AM} {E : EN} {n : Nat} (C : Cx A E cX8_walks 8 RX8 19 688) (X : Ex A E (some .int))  : ∀ (m : Nat) (S : WS) (h0 : Nat) (x1 : Int32) (x2 : Int32) (x4 : Int32) (x5 : Int32) (x6 : Int32) (x7 : Int32) (th0 : Ty E h0 7), Gd A E 8 (QM A E wI tT) (f_X8_walks_L72 E n  m S h0 x1 x2 x4 x5 x6 x7) S 72 [(0, .ref h0), (1, .int x1), (2, .int x2), (4, .int x4), (5, .int x5), (6, .int x6), (7, .int x7)] [] := by
  intro m
  induction m with
  | zero => intros; exact gn
  | succ m ih =>
    intro S h0 x1 x2 x4 x5 x6 x7 th0
    unfold f_X8_walks_L72
    refine r_iload C 6 dX8_walks_72 rfl ?_
    refine r_iload_n C 2 dX8_walks_74 rfl ?_
    refine r_icmp_ge C 104 dX8_walks_75 (by decide) ?_ ?_
    · refine r_iload C 5 dX8_walks_104 rfl ?_
      exact r_ireturn C X dX8_walks_106
    · refine r_aload_n C 0 dX8_walks_78 rfl ?_
      refine r_iload_n C 1 dX8_walks_79 rfl ?_
      refine r_i2l C dX8_walks_80 ?_
      refine r_iload C 6 dX8_walks_81 rfl ?_
      refine r_i2l C dX8_walks_83 ?_
      refine r_ladd C dX8_walks_84 ?_
      refine r_iload C 4 dX8_walks_85 rfl ?_
      refine r_callV (As := [.long ((x1.toInt64) + (x7.toInt64)), .int x5]) (rest := []) C (c_X8_endOfWalk _ E n h0 ((x1.toInt64) + (x7.toInt64)) x5 th0) dX8_walks_87 ml_X8_380 mv_X8_endOfWalk ⟨TX8, _, rfl⟩ (by decide) th0 rfl rfl ⟨by decide, by decide⟩ (Nat.le_of_ble_eq_true rfl) (fun v2 S1 hv2 => ?_)
      refine r_iload C 3 dX8_walks_90 rfl ?_
      refine r_icmp_ne C 98 dX8_walks_92 (by decide) ?_ ?_
      · refine r_iinc C 6 (fun y3 => [(7, .int y3), (0, .ref h0), (1, .int x1), (2, .int x2), (4, .int x4), (5, .int x5), (6, .int x6)]) dX8_walks_98 rfl (v := (1 : Int32)) (by decide) (by decide) (fun _ => rfl) (fun y3 => ?_)
        refine r_goto C 72 dX8_walks_101 (by decide) ?_
        refine r_sub [1, 2, 3, 4, 5, 6, 0] [(0, .ref h0), (1, .int x1), (2, .int x2), (4, .int x4), (5, .int x5), (6, .int x6), (7, .int y3)] rfl ?_
        exact ih S1 h0 x1 x2 x4 x5 x6 y3 th0
      · refine r_iinc C 5 (fun y4 => [(6, .int y4), (0, .ref h0), (1, .int x1), (2, .int x2), (4, .int x4), (5, .int x5), (7, .int x7)]) dX8_walks_95 rfl (v := (1 : Int32)) (by decide) (by decide) (fun _ => rfl) (fun y4 => ?_)
        refine r_iinc C 6 (fun y5 => [(7, .int y5), (6, .int y4), (0, .ref h0), (1, .int x1), (2, .int x2), (4, .int x4), (5, .int x5)]) dX8_walks_98 rfl (v := (1 : Int32)) (by decide) (by decide) (fun _ => rfl) (fun y5 => ?_)
        refine r_goto C 72 dX8_walks_101 (by decide) ?_
        refine r_sub [2, 3, 4, 5, 6, 1, 0] [(0, .ref h0), (1, .int x1), (2, .int x2), (4, .int x4), (5, .int x5), (6, .int y4), (7, .int y5)] rfl ?_
        exact ih S1 h0 x1 x2 x4 x5 y4 y5 th0
set_option maxRecDepth 100000 in
set_option maxHeartbeats 4000000 in
theorem c_X8_walks (l : Launch) (E : EN) (n : Nat) (h0 : Nat) (x1 : Int32) (x2 : Int32) (x3 : Int32) (x4 : Int32) (x5 : Int32) (th0 : Ty E h0 7) : CT l E yX8_walks cX8_walks 8 (some .int) 19 688 wI tT [.ref h0, .int x1, .int x2, .int x3, .int x4, .int x5] (fun S => f_X8_walks E n S h0 x1 x2 x3 x4 x5) := by
  refine ct_of RX8 (by decide +kernel) rfl [(0, .ref h0), (1, .int x1), (2, .int x2), (3, .int x3), (4, .int x4), (5, .int x5)] rfl (Nat.le_of_ble_eq_true rfl) (fun A S hA C X => ?_)
  subst hA
  show Gd A E 8 (QM A E wI tT) (f_X8_walks E n S h0 x1 x2 x3 x4 x5) S 0 [(0, .ref h0), (1, .int x1), (2, .int x2), (3, .int x3), (4, .int x4), (5, .int x5)] []
  unfold f_X8_walks
  refine r_aload_n C 0 dX8_walks_0 rfl ?_
  refine r_iload_n C 3 dX8_walks_1 rfl ?_
  refine r_iload C 4 dX8_walks_2 rfl ?_
  refine r_iload C 5 dX8_walks_4 rfl ?_
  refine r_callV (As := [.int x3, .int x4, .int x5]) (rest := []) C (c_X8_knowsWay _ E n h0 x3 x4 x5 th0) dX8_walks_6 ml_X8_228 mv_X8_knowsWay ⟨TX8, _, rfl⟩ (by decide) th0 rfl rfl ⟨by decide, by decide⟩ (Nat.le_of_ble_eq_true rfl) (fun v2 S1 hv2 => ?_)
  refine r_if_eq C 34 dX8_walks_9 (by decide) ?_ ?_
  · refine r_bipush C (-2 : Int32) dX8_walks_34 (by decide) ?_
    exact r_ireturn C X dX8_walks_36
  · refine r_iload_n C 1 dX8_walks_12 rfl ?_
    refine r_if_lt C 34 dX8_walks_13 (by decide) ?_ ?_
    · refine r_bipush C (-2 : Int32) dX8_walks_34 (by decide) ?_
      exact r_ireturn C X dX8_walks_36
    · refine r_iload_n C 1 dX8_walks_16 rfl ?_
      refine r_ldc_w C (2000000000 : Int32) (mG 1193 (by decide +kernel) rfl) dX8_walks_17 ?_
      refine r_icmp_gt C 34 dX8_walks_20 (by decide) ?_ ?_
      · refine r_bipush C (-2 : Int32) dX8_walks_34 (by decide) ?_
        exact r_ireturn C X dX8_walks_36
      · refine r_iload_n C 2 dX8_walks_23 rfl ?_
        refine r_iconst C (1 : Int32) dX8_walks_24 (by decide) ?_
        refine r_icmp_lt C 34 dX8_walks_25 (by decide) ?_ ?_
        · refine r_bipush C (-2 : Int32) dX8_walks_34 (by decide) ?_
          exact r_ireturn C X dX8_walks_36
        · refine r_iload_n C 2 dX8_walks_28 rfl ?_
          refine r_bipush C (20 : Int32) dX8_walks_29 (by decide) ?_
          refine r_icmp_le C 37 dX8_walks_31 (by decide) ?_ ?_
          · refine r_aload_n C 0 dX8_walks_37 rfl ?_
            refine r_getr C fl_X8_51 dX8_walks_38 th0 (fun b3 tb3 => ?_)
            refine r_aload_n C 0 dX8_walks_41 rfl ?_
            refine r_getr C fl_X8_27 dX8_walks_42 th0 (fun b4 tb4 => ?_)
            refine r_iload_n C 3 dX8_walks_45 rfl ?_
            refine r_iload C 4 dX8_walks_46 rfl ?_
            refine r_iload C 5 dX8_walks_48 rfl ?_
            refine r_callV (As := [.ref b4, .int x3, .int x4, .int x5]) (rest := []) C (c_X7_findAll _ E n b3 b4 x3 x4 x5 tb3 tb4) dX8_walks_50 ml_X8_231 mv_X7_findAll ⟨TX7, _, rfl⟩ (by decide) tb3 rfl rfl ⟨by decide, by decide⟩ (Nat.le_of_ble_eq_true rfl) (fun v6 S5 hv6 => ?_)
            refine r_aload_n C 0 dX8_walks_53 rfl ?_
            refine r_getr C fl_X8_51 dX8_walks_54 th0 (fun b7 tb7 => ?_)
            refine r_geti C fl_X8_241 dX8_walks_57 tb7 ?_
            refine r_iconst C (-1 : Int32) dX8_walks_60 (by decide) ?_
            refine r_icmp_ne C 66 dX8_walks_61 (by decide) ?_ ?_
            · refine r_iconst C (0 : Int32) dX8_walks_66 (by decide) ?_
              refine r_istore C [(6, .int (0 : Int32)), (0, .ref h0), (1, .int x1), (2, .int x2), (3, .int x3), (4, .int x4), (5, .int x5)] dX8_walks_67 (by decide) rfl ?_
              refine r_iconst C (0 : Int32) dX8_walks_69 (by decide) ?_
              refine r_istore C [(7, .int (0 : Int32)), (6, .int (0 : Int32)), (0, .ref h0), (1, .int x1), (2, .int x2), (3, .int x3), (4, .int x4), (5, .int x5)] dX8_walks_70 (by decide) rfl ?_
              refine r_sub [2, 3, 4, 6, 7, 1, 0] [(0, .ref h0), (1, .int x1), (2, .int x2), (4, .int x4), (5, .int x5), (6, .int (0 : Int32)), (7, .int (0 : Int32))] rfl ?_
              exact p_X8_walks_L72 C X  n S5 h0 x1 x2 x4 x5 (0 : Int32) (0 : Int32) th0
            · refine r_iconst C (-1 : Int32) dX8_walks_64 (by decide) ?_
              exact r_ireturn C X dX8_walks_65
          · refine r_bipush C (-2 : Int32) dX8_walks_34 (by decide) ?_
            exact r_ireturn C X dX8_walks_36
