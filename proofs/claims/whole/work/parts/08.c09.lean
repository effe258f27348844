/-! THE CONTRACTS, by program -/
set_option maxRecDepth 100000 in
set_option maxHeartbeats 4000000 in
theorem c_X8_parts (l : Launch) (E : EN) (n : Nat) (h0 : Nat) (x1 : Int32) (x2 : Int32) (th0 : Ty E h0 7) : CT l E yX8_parts cX8_parts 7 (some .int) 4 97 wI tT [.ref h0, .int x1, .int x2] (fun S => f_X8_parts E n S h0 x1 x2) := by
  refine ct_of RX8 (by decide +kernel) rfl [(0, .ref h0), (1, .int x1), (2, .int x2)] rfl (Nat.le_of_ble_eq_true rfl) (fun A S hA C X => ?_)
  subst hA
  show Gd A E 7 (QM A E wI tT) (f_X8_parts E n S h0 x1 x2) S 0 [(0, .ref h0), (1, .int x1), (2, .int x2)] []
  unfold f_X8_parts
  refine r_aload_n C 0 dX8_parts_0 rfl ?_
  refine r_getr C fl_X8_27 dX8_parts_1 th0 (fun b1 tb1 => ?_)
  refine r_iload_n C 1 dX8_parts_4 rfl ?_
  refine r_callV (As := [.int x1]) (rest := []) C (c_X3_hasYear _ E n b1 x1 tb1) dX8_parts_5 ml_X8_164 mv_X3_hasYear ⟨TX3, _, rfl⟩ (by decide) tb1 rfl rfl ⟨by decide, by decide⟩ (Nat.le_of_ble_eq_true rfl) (fun v3 S2 hv3 => ?_)
  refine r_if_eq C 21 dX8_parts_8 (by decide) ?_ ?_
  · refine r_bipush C (-2 : Int32) dX8_parts_21 (by decide) ?_
    exact r_ireturn C X dX8_parts_23
  · refine r_iload_n C 2 dX8_parts_11 rfl ?_
    refine r_if_lt C 21 dX8_parts_12 (by decide) ?_ ?_
    · refine r_bipush C (-2 : Int32) dX8_parts_21 (by decide) ?_
      exact r_ireturn C X dX8_parts_23
    · refine r_iload_n C 2 dX8_parts_15 rfl ?_
      refine r_bipush C (99 : Int32) dX8_parts_16 (by decide) ?_
      refine r_icmp_le C 24 dX8_parts_18 (by decide) ?_ ?_
      · refine r_aload_n C 0 dX8_parts_24 rfl ?_
        refine r_getr C fl_X8_27 dX8_parts_25 th0 (fun b4 tb4 => ?_)
        refine r_iload_n C 2 dX8_parts_28 rfl ?_
        refine r_iload_n C 1 dX8_parts_29 rfl ?_
        refine r_iconst C (-1 : Int32) dX8_parts_30 (by decide) ?_
        refine r_callV (As := [.int x2, .int x1, .int (-1 : Int32)]) (rest := []) C (c_X3_openPaths _ E n b4 x2 x1 (-1 : Int32) tb4) dX8_parts_31 ml_X8_271 mv_X3_openPaths ⟨TX3, _, rfl⟩ (by decide) tb4 rfl rfl ⟨by decide, by decide⟩ (Nat.le_of_ble_eq_true rfl) (fun v6 S5 hv6 => ?_)
        refine r_istore_n C [(3, .int v6), (0, .ref h0), (1, .int x1), (2, .int x2)] dX8_parts_34 (by decide) rfl ?_
        refine r_iconst C (0 : Int32) dX8_parts_35 (by decide) ?_
        refine r_istore C [(4, .int (0 : Int32)), (3, .int v6), (0, .ref h0), (1, .int x1), (2, .int x2)] dX8_parts_36 (by decide) rfl ?_
        refine r_iconst C (0 : Int32) dX8_parts_38 (by decide) ?_
        refine r_istore C [(5, .int (0 : Int32)), (4, .int (0 : Int32)), (3, .int v6), (0, .ref h0), (1, .int x1), (2, .int x2)] dX8_parts_39 (by decide) rfl ?_
        refine r_iconst C (0 : Int32) dX8_parts_41 (by decide) ?_
        refine r_istore C [(6, .int (0 : Int32)), (5, .int (0 : Int32)), (4, .int (0 : Int32)), (3, .int v6), (0, .ref h0), (1, .int x1), (2, .int x2)] dX8_parts_42 (by decide) rfl ?_
        refine r_sub [4, 3, 2, 1, 0] [(0, .ref h0), (3, .int v6), (4, .int (0 : Int32)), (5, .int (0 : Int32)), (6, .int (0 : Int32))] rfl ?_
        exact p_X8_parts_L44 C X  n S5 h0 v6 (0 : Int32) (0 : Int32) (0 : Int32) th0
      · refine r_bipush C (-2 : Int32) dX8_parts_21 (by decide) ?_
        exact r_ireturn C X dX8_parts_23
set_option maxRecDepth 100000 in
set_option maxHeartbeats 4000000 in
theorem p_X8_cuts_L51 {A : AM} {E : EN} {n : Nat} (C : Cx A E cX8_cuts 8 RX8 6 143) (X : Ex A E (some .int))  : ∀ (m : Nat) (S : WS) (h0 : Nat) (x1 : Int32) (x2 : Int32) (x4 : Int32) (x5 : Int32) (x6 : Int32) (th0 : Ty E h0 7), Gd A E 8 (QM A E wI tT) (f_X8_cuts_L51 E n  m S h0 x1 x2 x4 x5 x6) S 51 [(0, .ref h0), (1, .int x1), (2, .int x2), (4, .int x4), (5, .int x5), (6, .int x6)] [] := by
  intro m
  induction m with
  | zero => intros; exact gn
  | succ m ih =>
    intro S h0 x1 x2 x4 x5 x6 th0
    unfold f_X8_cuts_L51
    refine r_iload C 5 dX8_cuts_51 rfl ?_
    refine r_aload_n C 0 dX8_cuts_53 rfl ?_
    refine r_getr C fl_X8_27 dX8_cuts_54 th0 (fun b1 tb1 => ?_)
    refine r_geti C fl_X8_280 dX8_cuts_57 tb1 ?_
    refine r_icmp_ge C 114 dX8_cuts_60 (by decide) ?_ ?_
    · refine r_iload C 4 dX8_cuts_114 rfl ?_
      exact r_ireturn C X dX8_cuts_116
    · refine r_aload_n C 0 dX8_cuts_63 rfl ?_
      refine r_getr C fl_X8_27 dX8_cuts_64 th0 (fun b2 tb2 => ?_)
      refine r_aload_n C 0 dX8_cuts_67 rfl ?_
      refine r_getr C fl_X8_27 dX8_cuts_68 th0 (fun b3 tb3 => ?_)
      refine r_getr C fl_X8_265 dX8_cuts_71 tb3 (fun b4 tb4 => ?_)
      refine r_iload_n C 1 dX8_cuts_74 rfl ?_
      refine r_iald C dX8_cuts_75 tb4 ?_
      refine r_iload C 3 dX8_cuts_76 rfl ?_
      refine r_iconst C (1 : Int32) dX8_cuts_78 (by decide) ?_
      refine r_iload C 5 dX8_cuts_79 rfl ?_
      refine r_ishl C dX8_cuts_81 ?_
      refine r_iconst C (-1 : Int32) dX8_cuts_82 (by decide) ?_
      refine r_ixor C dX8_cuts_83 ?_
      refine r_iand C dX8_cuts_84 ?_
      refine r_callV (As := [.int (ai S b4 x1.toNatClampNeg), .int (x4 &&& (((1 : Int32) <<< (x6 &&& 31)) ^^^ (-1 : Int32)))]) (rest := []) C (c_X3_placesFrom _ E n b2 (ai S b4 x1.toNatClampNeg) (x4 &&& (((1 : Int32) <<< (x6 &&& 31)) ^^^ (-1 : Int32))) tb2) dX8_cuts_85 ml_X8_274 mv_X3_placesFrom ⟨TX3, _, rfl⟩ (by decide) tb2 rfl rfl ⟨by decide, by decide⟩ (Nat.le_of_ble_eq_true rfl) (fun v6 S5 hv6 => ?_)
      refine r_istore C [(7, .int v6), (0, .ref h0), (1, .int x1), (2, .int x2), (4, .int x4), (5, .int x5), (6, .int x6)] dX8_cuts_88 (by decide) rfl ?_
      refine r_iload C 0 dX8_cuts_90 rfl ?_
      refine r_iload_n C 3 dX8_cuts_92 rfl ?_
      refine r_ishr C dX8_cuts_93 ?_
      refine r_iconst C (1 : Int32) dX8_cuts_94 (by decide) ?_
      refine r_iand C dX8_cuts_95 ?_
      refine r_if_ne C 108 dX8_cuts_96 (by decide) ?_ ?_
      · refine r_iinc C 6 (fun y7 => [(6, .int y7), (7, .int v6), (0, .ref h0), (1, .int x1), (2, .int x2), (4, .int x4), (5, .int x5)]) dX8_cuts_108 rfl (v := (1 : Int32)) (by decide) (by decide) (fun _ => rfl) (fun y7 => ?_)
        refine r_goto C 51 dX8_cuts_111 (by decide) ?_
        refine r_sub [2, 3, 4, 5, 6, 0] [(0, .ref h0), (1, .int x1), (2, .int x2), (4, .int x4), (5, .int x5), (6, .int y7)] rfl ?_
        exact ih S5 h0 x1 x2 x4 x5 y7 th0
      · refine r_iload C 5 dX8_cuts_99 rfl ?_
        refine r_iconst C (1 : Int32) dX8_cuts_101 (by decide) ?_
        refine r_iload C 6 dX8_cuts_102 rfl ?_
        refine r_ishl C dX8_cuts_104 ?_
        refine r_ior C dX8_cuts_105 ?_
        refine r_topi (fun y8 => ?_)
        refine r_istore C [(5, .int y8), (7, .int v6), (0, .ref h0), (1, .int x1), (2, .int x2), (4, .int x4), (6, .int x6)] dX8_cuts_106 (by decide) rfl ?_
        refine r_iinc C 6 (fun y9 => [(6, .int y9), (5, .int y8), (7, .int v6), (0, .ref h0), (1, .int x1), (2, .int x2), (4, .int x4)]) dX8_cuts_108 rfl (v := (1 : Int32)) (by decide) (by decide) (fun _ => rfl) (fun y9 => ?_)
        refine r_goto C 51 dX8_cuts_111 (by decide) ?_
        refine r_sub [3, 4, 5, 6, 1, 0] [(0, .ref h0), (1, .int x1), (2, .int x2), (4, .int x4), (5, .int y8), (6, .int y9)] rfl ?_
        exact ih S5 h0 x1 x2 x4 y8 y9 th0
set_option maxRecDepth 100000 in
set_option maxHeartbeats 4000000 in
theorem c_X8_cuts (l : Launch) (E : EN) (n : Nat) (h0 : Nat) (x1 : Int32) (x2 : Int32) (x3 : Int32) (th0 : Ty E h0 7) : CT l E yX8_cuts cX8_cuts 8 (some .int) 6 143 wI tT [.ref h0, .int x1, .int x2, .int x3] (fun S => f_X8_cuts E n S h0 x1 x2 x3) := by
  refine ct_of RX8 (by decide +kernel) rfl [(0, .ref h0), (1, .int x1), (2, .int x2), (3, .int x3)] rfl (Nat.le_of_ble_eq_true rfl) (fun A S hA C X => ?_)
  subst hA
  show Gd A E 8 (QM A E wI tT) (f_X8_cuts E n S h0 x1 x2 x3) S 0 [(0, .ref h0), (1, .int x1), (2, .int x2), (3, .int x3)] []
  unfold f_X8_cuts
  refine r_aload_n C 0 dX8_cuts_0 rfl ?_
  refine r_iload_n C 1 dX8_cuts_1 rfl ?_
  refine r_iload_n C 2 dX8_cuts_2 rfl ?_
  refine r_iload_n C 3 dX8_cuts_3 rfl ?_
  refine r_callV (As := [.int x1, .int x2, .int x3]) (rest := []) C (c_X8_knowsWay _ E n h0 x1 x2 x3 th0) dX8_cuts_4 ml_X8_228 mv_X8_knowsWay ⟨TX8, _, rfl⟩ (by decide) th0 rfl rfl ⟨by decide, by decide⟩ (Nat.le_of_ble_eq_true rfl) (fun v2 S1 hv2 => ?_)
  refine r_if_ne C 13 dX8_cuts_7 (by decide) ?_ ?_
  · refine r_aload_n C 0 dX8_cuts_13 rfl ?_
    refine r_iload_n C 1 dX8_cuts_14 rfl ?_
    refine r_iload_n C 2 dX8_cuts_15 rfl ?_
    refine r_iload_n C 3 dX8_cuts_16 rfl ?_
    refine r_callV (As := [.int x1, .int x2, .int x3]) (rest := []) C (c_X8_canCome _ E n h0 x1 x2 x3 th0) dX8_cuts_17 ml_X8_254 mv_X8_canCome ⟨TX8, _, rfl⟩ (by decide) th0 rfl rfl ⟨by decide, by decide⟩ (Nat.le_of_ble_eq_true rfl) (fun v4 S3 hv4 => ?_)
    refine r_if_ne C 25 dX8_cuts_20 (by decide) ?_ ?_
    · refine r_aload_n C 0 dX8_cuts_25 rfl ?_
      refine r_getr C fl_X8_27 dX8_cuts_26 th0 (fun b5 tb5 => ?_)
      refine r_aload_n C 0 dX8_cuts_29 rfl ?_
      refine r_getr C fl_X8_27 dX8_cuts_30 th0 (fun b6 tb6 => ?_)
      refine r_getr C fl_X8_277 dX8_cuts_33 tb6 (fun b7 tb7 => ?_)
      refine r_iload_n C 1 dX8_cuts_36 rfl ?_
      refine r_iald C dX8_cuts_37 tb7 ?_
      refine r_iload_n C 3 dX8_cuts_38 rfl ?_
      refine r_iconst C (-1 : Int32) dX8_cuts_39 (by decide) ?_
      refine r_callV (As := [.int (ai S3 b7 x1.toNatClampNeg), .int x3, .int (-1 : Int32)]) (rest := []) C (c_X3_openPaths _ E n b5 (ai S3 b7 x1.toNatClampNeg) x3 (-1 : Int32) tb5) dX8_cuts_40 ml_X8_271 mv_X3_openPaths ⟨TX3, _, rfl⟩ (by decide) tb5 rfl rfl ⟨by decide, by decide⟩ (Nat.le_of_ble_eq_true rfl) (fun v9 S8 hv9 => ?_)
      refine r_istore C [(4, .int v9), (0, .ref h0), (1, .int x1), (2, .int x2), (3, .int x3)] dX8_cuts_43 (by decide) rfl ?_
      refine r_iconst C (0 : Int32) dX8_cuts_45 (by decide) ?_
      refine r_istore C [(5, .int (0 : Int32)), (4, .int v9), (0, .ref h0), (1, .int x1), (2, .int x2), (3, .int x3)] dX8_cuts_46 (by decide) rfl ?_
      refine r_iconst C (0 : Int32) dX8_cuts_48 (by decide) ?_
      refine r_istore C [(6, .int (0 : Int32)), (5, .int (0 : Int32)), (4, .int v9), (0, .ref h0), (1, .int x1), (2, .int x2), (3, .int x3)] dX8_cuts_49 (by decide) rfl ?_
      refine r_sub [3, 4, 5, 2, 1, 0] [(0, .ref h0), (1, .int x1), (2, .int x2), (4, .int v9), (5, .int (0 : Int32)), (6, .int (0 : Int32))] rfl ?_
      exact p_X8_cuts_L51 C X  n S8 h0 x1 x2 v9 (0 : Int32) (0 : Int32) th0
    · refine r_iconst C (-1 : Int32) dX8_cuts_23 (by decide) ?_
      exact r_ireturn C X dX8_cuts_24
  · refine r_bipush C (-2 : Int32) dX8_cuts_10 (by decide) ?_
    exact r_ireturn C X dX8_cuts_12
set_option maxRecDepth 100000 in
set_option maxHeartbeats 4000000 in
theorem p_X8_vain_L44 {A : AM} {E : EN} {n : Nat} (C : Cx A E cX8_vain 4 RX8 5 120) (X : Ex A E (some .int)) {k31 : WS → Nat → Int32 → Int32 → Option (Int32 × WS)} (hk31 : ∀ (S : WS) (h0 : Nat) (x1 : Int32) (x2 : Int32) (_ : Ty E h0 7), Gd A E 4 (QM A E wI tT) (k31 S h0 x1 x2) S 31 [(0, .ref h0), (1, .int x1), (2, .int x2)] []) : ∀ (m : Nat) (S : WS) (h0 : Nat) (x1 : Int32) (x2 : Int32) (x3 : Int32) (th0 : Ty E h0 7), Gd A E 4 (QM A E wI tT) (f_X8_vain_L44 E n k31 m S h0 x1 x2 x3) S 44 [(0, .ref h0), (1, .int x1), (2, .int x2), (3, .int x3)] [] := by
  intro m
  induction m with
  | zero => intros; exact gn
  | succ m ih =>
    intro S h0 x1 x2 x3 th0
    unfold f_X8_vain_L44
    refine r_iload_n C 3 dX8_vain_44 rfl ?_
    refine r_aload_n C 0 dX8_vain_45 rfl ?_
    refine r_getr C fl_X8_27 dX8_vain_46 th0 (fun b1 tb1 => ?_)
    refine r_geti C fl_X8_182 dX8_vain_49 tb1 ?_
    refine r_icmp_ge C 86 dX8_vain_52 (by decide) ?_ ?_
    · refine r_iinc C 2 (fun y2 => [(2, .int y2), (0, .ref h0), (1, .int x1), (3, .int x3)]) dX8_vain_86 rfl (v := (1 : Int32)) (by decide) (by decide) (fun _ => rfl) (fun y2 => ?_)
      refine r_goto C 31 dX8_vain_89 (by decide) ?_
      refine r_sub [1, 2, 0] [(0, .ref h0), (1, .int x1), (2, .int y2)] rfl ?_
      exact hk31 S h0 x1 y2 th0
    · refine r_aload_n C 0 dX8_vain_55 rfl ?_
      refine r_getr C fl_X8_27 dX8_vain_56 th0 (fun b3 tb3 => ?_)
      refine r_iload_n C 2 dX8_vain_59 rfl ?_
      refine r_iload_n C 3 dX8_vain_60 rfl ?_
      refine r_iconst C (-1 : Int32) dX8_vain_61 (by decide) ?_
      refine r_callV (As := [.int x2, .int x3, .int (-1 : Int32)]) (rest := []) C (c_X3_reachOf _ E n b3 x2 x3 (-1 : Int32) tb3) dX8_vain_62 ml_X8_225 mv_X3_reachOf ⟨TX3, _, rfl⟩ (by decide) tb3 rfl rfl ⟨by decide, by decide⟩ (Nat.le_of_ble_eq_true rfl) (fun v5 S4 hv5 => ?_)
      refine r_aload_n C 0 dX8_vain_65 rfl ?_
      refine r_getr C fl_X8_27 dX8_vain_66 th0 (fun b6 tb6 => ?_)
      refine r_iload_n C 2 dX8_vain_69 rfl ?_
      refine r_iload_n C 3 dX8_vain_70 rfl ?_
      refine r_iload_n C 1 dX8_vain_71 rfl ?_
      refine r_callV (As := [.int x2, .int x3, .int x1]) (rest := [.int v5]) C (c_X3_reachOf _ E n b6 x2 x3 x1 tb6) dX8_vain_72 ml_X8_225 mv_X3_reachOf ⟨TX3, _, rfl⟩ (by decide) tb6 rfl rfl ⟨by decide, by decide⟩ (Nat.le_of_ble_eq_true rfl) (fun v8 S7 hv8 => ?_)
      refine r_icmp_eq C 80 dX8_vain_75 (by decide) ?_ ?_
      · refine r_iinc C 3 (fun y9 => [(3, .int y9), (0, .ref h0), (1, .int x1), (2, .int x2)]) dX8_vain_80 rfl (v := (1 : Int32)) (by decide) (by decide) (fun _ => rfl) (fun y9 => ?_)
        refine r_goto C 44 dX8_vain_83 (by decide) ?_
        refine r_sub [1, 2, 3, 0] [(0, .ref h0), (1, .int x1), (2, .int x2), (3, .int y9)] rfl ?_
        exact ih S7 h0 x1 x2 y9 th0
      · refine r_iconst C (0 : Int32) dX8_vain_78 (by decide) ?_
        exact r_ireturn C X dX8_vain_79
set_option maxRecDepth 100000 in
set_option maxHeartbeats 4000000 in
theorem p_X8_vain_L31 {A : AM} {E : EN} {n : Nat} (C : Cx A E cX8_vain 4 RX8 5 120) (X : Ex A E (some .int))  : ∀ (m : Nat) (S : WS) (h0 : Nat) (x1 : Int32) (x2 : Int32) (th0 : Ty E h0 7), Gd A E 4 (QM A E wI tT) (f_X8_vain_L31 E n  m S h0 x1 x2) S 31 [(0, .ref h0), (1, .int x1), (2, .int x2)] [] := by
  intro m
  induction m with
  | zero => intros; exact gn
  | succ m ih =>
    intro S h0 x1 x2 th0
    unfold f_X8_vain_L31
    refine r_iload_n C 2 dX8_vain_31 rfl ?_
    refine r_aload_n C 0 dX8_vain_32 rfl ?_
    refine r_getr C fl_X8_27 dX8_vain_33 th0 (fun b1 tb1 => ?_)
    refine r_geti C fl_X8_283 dX8_vain_36 tb1 ?_
    refine r_icmp_ge C 92 dX8_vain_39 (by decide) ?_ ?_
    · refine r_iconst C (1 : Int32) dX8_vain_92 (by decide) ?_
      exact r_ireturn C X dX8_vain_93
    · refine r_iconst C (0 : Int32) dX8_vain_42 (by decide) ?_
      refine r_istore_n C [(3, .int (0 : Int32)), (0, .ref h0), (1, .int x1), (2, .int x2)] dX8_vain_43 (by decide) rfl ?_
      refine r_sub [1, 2, 3, 0] [(0, .ref h0), (1, .int x1), (2, .int x2), (3, .int (0 : Int32))] rfl ?_
      exact p_X8_vain_L44 C X ih n S h0 x1 x2 (0 : Int32) th0
set_option maxRecDepth 100000 in
set_option maxHeartbeats 4000000 in
theorem c_X8_vain (l : Launch) (E : EN) (n : Nat) (h0 : Nat) (x1 : Int32) (th0 : Ty E h0 7) : CT l E yX8_vain cX8_vain 4 (some .int) 5 120 wI tT [.ref h0, .int x1] (fun S => f_X8_vain E n S h0 x1) := by
  refine ct_of RX8 (by decide +kernel) rfl [(0, .ref h0), (1, .int x1)] rfl (Nat.le_of_ble_eq_true rfl) (fun A S hA C X => ?_)
  subst hA
  show Gd A E 4 (QM A E wI tT) (f_X8_vain E n S h0 x1) S 0 [(0, .ref h0), (1, .int x1)] []
  unfold f_X8_vain
  refine r_aload_n C 0 dX8_vain_0 rfl ?_
  refine r_getr C fl_X8_27 dX8_vain_1 th0 (fun b1 tb1 => ?_)
  refine r_iload_n C 1 dX8_vain_4 rfl ?_
  refine r_callV (As := [.int x1]) (rest := []) C (c_X3_hasSuitor _ E n b1 x1 tb1) dX8_vain_5 ml_X8_118 mv_X3_hasSuitor ⟨TX3, _, rfl⟩ (by decide) tb1 rfl rfl ⟨by decide, by decide⟩ (Nat.le_of_ble_eq_true rfl) (fun v3 S2 hv3 => ?_)
  refine r_if_ne C 14 dX8_vain_8 (by decide) ?_ ?_
  · refine r_aload_n C 0 dX8_vain_14 rfl ?_
    refine r_getr C fl_X8_27 dX8_vain_15 th0 (fun b4 tb4 => ?_)
    refine r_getr C fl_X8_125 dX8_vain_18 tb4 (fun b5 tb5 => ?_)
    refine r_iload_n C 1 dX8_vain_21 rfl ?_
    refine r_iald C dX8_vain_22 tb5 ?_
    refine r_iconst C (-1 : Int32) dX8_vain_23 (by decide) ?_
    refine r_icmp_ne C 29 dX8_vain_24 (by decide) ?_ ?_
    · refine r_iconst C (0 : Int32) dX8_vain_29 (by decide) ?_
      refine r_istore_n C [(2, .int (0 : Int32)), (0, .ref h0), (1, .int x1)] dX8_vain_30 (by decide) rfl ?_
      refine r_sub [1, 2, 0] [(0, .ref h0), (1, .int x1), (2, .int (0 : Int32))] rfl ?_
      exact p_X8_vain_L31 C X  n S2 h0 x1 (0 : Int32) th0
    · refine r_iconst C (-1 : Int32) dX8_vain_27 (by decide) ?_
      exact r_ireturn C X dX8_vain_28
  · refine r_bipush C (-2 : Int32) dX8_vain_11 (by decide) ?_
    exact r_ireturn C X dX8_vain_13
set_option maxRecDepth 100000 in
set_option maxHeartbeats 4000000 in
theorem p_X8_cheapest_L35 {A : AM} {E : EN} {n : Nat} (C : Cx A E cX8_cheapest 6 RX8 2 46) (X : Ex A E (some .int)) {k20 : WS → Nat → Int32 → Int32 → Int32 → Option (Int32 × WS)} (hk20 : ∀ (S : WS) (h0 : Nat) (x2 : Int32) (x3 : Int32) (x4 : Int32) (_ : Ty E h0 7), Gd A E 6 (QM A E wI tT) (k20 S h0 x2 x3 x4) S 20 [(0, .ref h0), (2, .int x2), (3, .int x3), (4, .int x4)] []) : ∀ (m : Nat) (S : WS) (h0 : Nat) (x2 : Int32) (x3 : Int32) (x4 : Int32) (x5 : Int32) (th0 : Ty E h0 7), Gd A E 6 (QM A E wI tT) (f_X8_cheapest_L35 E n k20 m S h0 x2 x3 x4 x5) S 35 [(0, .ref h0), (2, .int x2), (3, .int x3), (4, .int x4), (5, .int x5)] [] := by
  intro m
  induction m with
  | zero => intros; exact gn
  | succ m ih =>
    intro S h0 x2 x3 x4 x5 th0
    unfold f_X8_cheapest_L35
    refine r_iload C 4 dX8_cheapest_35 rfl ?_
    refine r_aload_n C 0 dX8_cheapest_37 rfl ?_
    refine r_getr C fl_X8_27 dX8_cheapest_38 th0 (fun b1 tb1 => ?_)
    refine r_geti C fl_X8_280 dX8_cheapest_41 tb1 ?_
    refine r_icmp_ge C 128 dX8_cheapest_44 (by decide) ?_ ?_
    · refine r_iinc C 3 (fun y2 => [(4, .int y2), (0, .ref h0), (2, .int x2), (3, .int x3), (5, .int x5)]) dX8_cheapest_128 rfl (v := (1 : Int32)) (by decide) (by decide) (fun _ => rfl) (fun y2 => ?_)
      refine r_goto C 20 dX8_cheapest_131 (by decide) ?_
      refine r_sub [1, 2, 3, 0] [(0, .ref h0), (2, .int x2), (3, .int x3), (4, .int y2)] rfl ?_
      exact hk20 S h0 x2 x3 y2 th0
    · refine r_aload_n C 0 dX8_cheapest_47 rfl ?_
      refine r_getr C fl_X8_83 dX8_cheapest_48 th0 (fun b3 tb3 => ?_)
      refine r_iload C 4 dX8_cheapest_51 rfl ?_
      refine r_iald C dX8_cheapest_53 tb3 ?_
      refine r_iconst C (-1 : Int32) dX8_cheapest_54 (by decide) ?_
      refine r_icmp_eq C 122 dX8_cheapest_55 (by decide) ?_ ?_
      · refine r_iinc C 4 (fun y4 => [(5, .int y4), (0, .ref h0), (2, .int x2), (3, .int x3), (4, .int x4)]) dX8_cheapest_122 rfl (v := (1 : Int32)) (by decide) (by decide) (fun _ => rfl) (fun y4 => ?_)
        refine r_goto C 35 dX8_cheapest_125 (by decide) ?_
        refine r_sub [1, 2, 3, 4, 0] [(0, .ref h0), (2, .int x2), (3, .int x3), (4, .int x4), (5, .int y4)] rfl ?_
        exact ih S h0 x2 x3 x4 y4 th0
      · refine r_aload_n C 0 dX8_cheapest_58 rfl ?_
        refine r_aload_n C 0 dX8_cheapest_59 rfl ?_
        refine r_getr C fl_X8_27 dX8_cheapest_60 th0 (fun b5 tb5 => ?_)
        refine r_getr C fl_X8_108 dX8_cheapest_63 tb5 (fun b6 tb6 => ?_)
        refine r_iload C 4 dX8_cheapest_66 rfl ?_
        refine r_iald C dX8_cheapest_68 tb6 ?_
        refine r_aload_n C 0 dX8_cheapest_69 rfl ?_
        refine r_getr C fl_X8_27 dX8_cheapest_70 th0 (fun b7 tb7 => ?_)
        refine r_getr C fl_X8_111 dX8_cheapest_73 tb7 (fun b8 tb8 => ?_)
        refine r_iload C 4 dX8_cheapest_76 rfl ?_
        refine r_iald C dX8_cheapest_78 tb8 ?_
        refine r_aload_n C 0 dX8_cheapest_79 rfl ?_
        refine r_getr C fl_X8_83 dX8_cheapest_80 th0 (fun b9 tb9 => ?_)
        refine r_iload C 4 dX8_cheapest_83 rfl ?_
        refine r_iald C dX8_cheapest_85 tb9 ?_
        refine r_iload_n C 2 dX8_cheapest_86 rfl ?_
        refine r_callV (As := [.int (ai S b6 x5.toNatClampNeg), .int (ai S b8 x5.toNatClampNeg), .int (ai S b9 x5.toNatClampNeg), .int x3]) (rest := []) C (c_X8_passPrice _ E n h0 (ai S b6 x5.toNatClampNeg) (ai S b8 x5.toNatClampNeg) (ai S b9 x5.toNatClampNeg) x3 th0) dX8_cheapest_87 ml_X8_297 mv_X8_passPrice ⟨TX8, _, rfl⟩ (by decide) th0 rfl rfl ⟨by decide, by decide⟩ (Nat.le_of_ble_eq_true rfl) (fun v11 S10 hv11 => ?_)
        refine r_aload_n C 0 dX8_cheapest_90 rfl ?_
        refine r_aload_n C 0 dX8_cheapest_91 rfl ?_
        refine r_getr C fl_X8_27 dX8_cheapest_92 th0 (fun b12 tb12 => ?_)
        refine r_getr C fl_X8_111 dX8_cheapest_95 tb12 (fun b13 tb13 => ?_)
        refine r_iload C 4 dX8_cheapest_98 rfl ?_
        refine r_iald C dX8_cheapest_100 tb13 ?_
        refine r_aload_n C 0 dX8_cheapest_101 rfl ?_
        refine r_getr C fl_X8_27 dX8_cheapest_102 th0 (fun b14 tb14 => ?_)
        refine r_getr C fl_X8_108 dX8_cheapest_105 tb14 (fun b15 tb15 => ?_)
        refine r_iload C 4 dX8_cheapest_108 rfl ?_
        refine r_iald C dX8_cheapest_110 tb15 ?_
        refine r_aload_n C 0 dX8_cheapest_111 rfl ?_
        refine r_getr C fl_X8_83 dX8_cheapest_112 th0 (fun b16 tb16 => ?_)
        refine r_iload C 4 dX8_cheapest_115 rfl ?_
        refine r_iald C dX8_cheapest_117 tb16 ?_
        refine r_iload_n C 2 dX8_cheapest_118 rfl ?_
        refine r_callV (As := [.int (ai S10 b13 x5.toNatClampNeg), .int (ai S10 b15 x5.toNatClampNeg), .int (ai S10 b16 x5.toNatClampNeg), .int x3]) (rest := []) C (c_X8_passPrice _ E n h0 (ai S10 b13 x5.toNatClampNeg) (ai S10 b15 x5.toNatClampNeg) (ai S10 b16 x5.toNatClampNeg) x3 th0) dX8_cheapest_119 ml_X8_297 mv_X8_passPrice ⟨TX8, _, rfl⟩ (by decide) th0 rfl rfl ⟨by decide, by decide⟩ (Nat.le_of_ble_eq_true rfl) (fun v18 S17 hv18 => ?_)
        refine r_iinc C 4 (fun y19 => [(5, .int y19), (0, .ref h0), (2, .int x2), (3, .int x3), (4, .int x4)]) dX8_cheapest_122 rfl (v := (1 : Int32)) (by decide) (by decide) (fun _ => rfl) (fun y19 => ?_)
        refine r_goto C 35 dX8_cheapest_125 (by decide) ?_
        refine r_sub [1, 2, 3, 4, 0] [(0, .ref h0), (2, .int x2), (3, .int x3), (4, .int x4), (5, .int y19)] rfl ?_
        exact ih S17 h0 x2 x3 x4 y19 th0
set_option maxRecDepth 100000 in
set_option maxHeartbeats 4000000 in
theorem p_X8_cheapest_L20 {A : AM} {E : EN} {n : Nat} (C : Cx A E cX8_cheapest 6 RX8 2 46) (X : Ex A E (some .int))  : ∀ (m : Nat) (S : WS) (h0 : Nat) (x2 : Int32) (x3 : Int32) (x4 : Int32) (th0 : Ty E h0 7), Gd A E 6 (QM A E wI tT) (f_X8_cheapest_L20 E n  m S h0 x2 x3 x4) S 20 [(0, .ref h0), (2, .int x2), (3, .int x3), (4, .int x4)] [] := by
  intro m
  induction m with
  | zero => intros; exact gn
  | succ m ih =>
    intro S h0 x2 x3 x4 th0
    unfold f_X8_cheapest_L20
    refine r_iload C 3 dX8_cheapest_20 rfl ?_
    refine r_aload_n C 0 dX8_cheapest_22 rfl ?_
    refine r_getr C fl_X8_27 dX8_cheapest_23 th0 (fun b1 tb1 => ?_)
    refine r_geti C fl_X8_268 dX8_cheapest_26 tb1 ?_
    refine r_icmp_ge C 134 dX8_cheapest_29 (by decide) ?_ ?_
    · refine r_aload_n C 0 dX8_cheapest_134 rfl ?_
      refine r_getr C fl_X8_80 dX8_cheapest_135 th0 (fun b2 tb2 => ?_)
      refine r_iload_n C 1 dX8_cheapest_138 rfl ?_
      refine r_iald C dX8_cheapest_139 tb2 ?_
      refine r_ldc_w C (1000000 : Int32) (mG 985 (by decide +kernel) rfl) dX8_cheapest_140 ?_
      refine r_icmp_ge C 155 dX8_cheapest_143 (by decide) ?_ ?_
      · refine r_iconst C (-1 : Int32) dX8_cheapest_155 (by decide) ?_
        exact r_ireturn C X dX8_cheapest_156
      · refine r_aload_n C 0 dX8_cheapest_146 rfl ?_
        refine r_getr C fl_X8_80 dX8_cheapest_147 th0 (fun b3 tb3 => ?_)
        refine r_iload_n C 1 dX8_cheapest_150 rfl ?_
        refine r_iald C dX8_cheapest_151 tb3 ?_
        refine r_goto C 156 dX8_cheapest_152 (by decide) ?_
        exact r_ireturn C X dX8_cheapest_156
    · refine r_iconst C (0 : Int32) dX8_cheapest_32 (by decide) ?_
      refine r_istore C [(5, .int (0 : Int32)), (0, .ref h0), (2, .int x2), (3, .int x3), (4, .int x4)] dX8_cheapest_33 (by decide) rfl ?_
      refine r_sub [1, 2, 3, 4, 0] [(0, .ref h0), (2, .int x2), (3, .int x3), (4, .int x4), (5, .int (0 : Int32))] rfl ?_
      exact p_X8_cheapest_L35 C X ih n S h0 x2 x3 x4 (0 : Int32) th0
set_option maxRecDepth 100000 in
set_option maxHeartbeats 4000000 in
theorem c_X8_cheapest (l : Launch) (E : EN) (n : Nat) (h0 : Nat) (x1 : Int32) (x2 : Int32) (x3 : Int32) (th0 : Ty E h0 7) : CT l E yX8_cheapest cX8_cheapest 6 (some .int) 2 46 wI tT [.ref h0, .int x1, .int x2, .int x3] (fun S => f_X8_cheapest E n S h0 x1 x2 x3) := by
  refine ct_of RX8 (by decide +kernel) rfl [(0, .ref h0), (1, .int x1), (2, .int x2), (3, .int x3)] rfl (Nat.le_of_ble_eq_true rfl) (fun A S hA C X => ?_)
  subst hA
  show Gd A E 6 (QM A E wI tT) (f_X8_cheapest E n S h0 x1 x2 x3) S 0 [(0, .ref h0), (1, .int x1), (2, .int x2), (3, .int x3)] []
  unfold f_X8_cheapest
  refine r_aload_n C 0 dX8_cheapest_0 rfl ?_
  refine r_getr C fl_X8_80 dX8_cheapest_1 th0 (fun b1 tb1 => ?_)
  refine r_ldc_w C (1000000 : Int32) (mG 985 (by decide +kernel) rfl) dX8_cheapest_4 ?_
  refine r_callS (As := [.ref b1, .int (1000000 : Int32)]) (rest := []) C (c_J7_fill_53178 _ E n b1 (1000000 : Int32) tb1) dX8_cheapest_7 ml_X8_291 mv_J7_fill_53178 rfl rfl ⟨by decide, by decide⟩ (Nat.le_of_ble_eq_true rfl) (fun v3 S2 hv3 => ?_)
  refine r_aload_n C 0 dX8_cheapest_10 rfl ?_
  refine r_getr C fl_X8_80 dX8_cheapest_11 th0 (fun b4 tb4 => ?_)
  refine r_iload_n C 1 dX8_cheapest_14 rfl ?_
  refine r_iconst C (0 : Int32) dX8_cheapest_15 (by decide) ?_
  refine r_iast C dX8_cheapest_16 tb4 (fun S5 => ?_)
  refine r_iconst C (0 : Int32) dX8_cheapest_17 (by decide) ?_
  refine r_istore C [(4, .int (0 : Int32)), (0, .ref h0), (1, .int x1), (2, .int x2), (3, .int x3)] dX8_cheapest_18 (by decide) rfl ?_
  refine r_sub [1, 3, 4, 0] [(0, .ref h0), (2, .int x2), (3, .int x3), (4, .int (0 : Int32))] rfl ?_
  exact p_X8_cheapest_L20 C X  n S5 h0 x2 x3 (0 : Int32) th0
set_option maxRecDepth 100000 in
set_option maxHeartbeats 4000000 in
theorem p_X8_more_L61 {A : AM} {E : EN} {n : Nat} (C : Cx A E cX8_more 9 RX8 6 143) (X : Ex A E (some .int))  : ∀ (m : Nat) (S : WS) (h0 : Nat) (x1 : Int32) (x2 : Int32) (x3 : Int32) (x4 : Int32) (x5 : Int32) (x6 : Int32) (th0 : Ty E h0 7), Gd A E 9 (QM A E wI tT) (f_X8_more_L61 E n  m S h0 x1 x2 x3 x4 x5 x6) S 61 [(0, .ref h0), (1, .int x1), (2, .int x2), (3, .int x3), (4, .int x4), (5, .int x5), (6, .int x6)] [] := by
  intro m
  induction m with
  | zero => intros; exact gn
  | succ m ih =>
    intro S h0 x1 x2 x3 x4 x5 x6 th0
    unfold f_X8_more_L61
    refine r_iload C 6 dX8_more_61 rfl ?_
    refine r_aload_n C 0 dX8_more_63 rfl ?_
    refine r_getr C fl_X8_27 dX8_more_64 th0 (fun b1 tb1 => ?_)
    refine r_geti C fl_X8_280 dX8_more_67 tb1 ?_
    refine r_icmp_ge C 151 dX8_more_70 (by decide) ?_ ?_
    · refine r_iconst C (-1 : Int32) dX8_more_151 (by decide) ?_
      exact r_ireturn C X dX8_more_152
    · refine r_aload_n C 0 dX8_more_73 rfl ?_
      refine r_getr C fl_X8_27 dX8_more_74 th0 (fun b2 tb2 => ?_)
      refine r_iload C 6 dX8_more_77 rfl ?_
      refine r_iload_n C 3 dX8_more_79 rfl ?_
      refine r_aload_n C 0 dX8_more_80 rfl ?_
      refine r_getr C fl_X8_27 dX8_more_81 th0 (fun b3 tb3 => ?_)
      refine r_getr C fl_X8_277 dX8_more_84 tb3 (fun b4 tb4 => ?_)
      refine r_iload_n C 1 dX8_more_87 rfl ?_
      refine r_iald C dX8_more_88 tb4 ?_
      refine r_callV (As := [.int x6, .int x3, .int (ai S b4 x1.toNatClampNeg)]) (rest := []) C (c_X3_lackingOn _ E n b2 x6 x3 (ai S b4 x1.toNatClampNeg) tb2) dX8_more_89 ml_X8_185 mv_X3_lackingOn ⟨TX3, _, rfl⟩ (by decide) tb2 rfl rfl ⟨by decide, by decide⟩ (Nat.le_of_ble_eq_true rfl) (fun v6 S5 hv6 => ?_)
      refine r_istore C [(7, .int v6), (0, .ref h0), (1, .int x1), (2, .int x2), (3, .int x3), (4, .int x4), (5, .int x5), (6, .int x6)] dX8_more_92 (by decide) rfl ?_
      refine r_iload C 0 dX8_more_94 rfl ?_
      refine r_iconst C (-1 : Int32) dX8_more_96 (by decide) ?_
      refine r_icmp_eq C 145 dX8_more_97 (by decide) ?_ ?_
      · refine r_iinc C 7 (fun y7 => [(6, .int y7), (7, .int v6), (0, .ref h0), (1, .int x1), (2, .int x2), (3, .int x3), (4, .int x4), (5, .int x5)]) dX8_more_145 rfl (v := (1 : Int32)) (by decide) (by decide) (fun _ => rfl) (fun y7 => ?_)
        refine r_goto C 61 dX8_more_148 (by decide) ?_
        refine r_sub [2, 3, 4, 5, 6, 7, 0] [(0, .ref h0), (1, .int x1), (2, .int x2), (3, .int x3), (4, .int x4), (5, .int x5), (6, .int y7)] rfl ?_
        exact ih S5 h0 x1 x2 x3 x4 x5 y7 th0
      · refine r_iload C 0 dX8_more_100 rfl ?_
        refine r_iload C 5 dX8_more_102 rfl ?_
        refine r_icmp_gt C 145 dX8_more_104 (by decide) ?_ ?_
        · refine r_iinc C 7 (fun y8 => [(6, .int y8), (7, .int v6), (0, .ref h0), (1, .int x1), (2, .int x2), (3, .int x3), (4, .int x4), (5, .int x5)]) dX8_more_145 rfl (v := (1 : Int32)) (by decide) (by decide) (fun _ => rfl) (fun y8 => ?_)
          refine r_goto C 61 dX8_more_148 (by decide) ?_
          refine r_sub [2, 3, 4, 5, 6, 7, 0] [(0, .ref h0), (1, .int x1), (2, .int x2), (3, .int x3), (4, .int x4), (5, .int x5), (6, .int y8)] rfl ?_
          exact ih S5 h0 x1 x2 x3 x4 x5 y8 th0
        · refine r_aload_n C 1 dX8_more_107 rfl ?_
          refine r_getr C fl_X8_27 dX8_more_108 th0 (fun b9 tb9 => ?_)
          refine r_aload_n C 1 dX8_more_111 rfl ?_
          refine r_getr C fl_X8_27 dX8_more_112 th0 (fun b10 tb10 => ?_)
          refine r_getr C fl_X8_265 dX8_more_115 tb10 (fun b11 tb11 => ?_)
          refine r_iload_n C 2 dX8_more_118 rfl ?_
          refine r_iald C dX8_more_119 tb11 ?_
          refine r_iload C 6 dX8_more_120 rfl ?_
          refine r_iconst C (1 : Int32) dX8_more_122 (by decide) ?_
          refine r_iload C 7 dX8_more_123 rfl ?_
          refine r_ishl C dX8_more_125 ?_
          refine r_ior C dX8_more_126 ?_
          refine r_callV (As := [.int (ai S5 b11 x1.toNatClampNeg), .int (x5 ||| ((1 : Int32) <<< (x6 &&& 31)))]) (rest := []) C (c_X3_placesFrom _ E n b9 (ai S5 b11 x1.toNatClampNeg) (x5 ||| ((1 : Int32) <<< (x6 &&& 31))) tb9) dX8_more_127 ml_X8_274 mv_X3_placesFrom ⟨TX3, _, rfl⟩ (by decide) tb9 rfl rfl ⟨by decide, by decide⟩ (Nat.le_of_ble_eq_true rfl) (fun v13 S12 hv13 => ?_)
          refine r_istore C [(8, .int v13), (7, .int v6), (0, .ref h0), (1, .int x1), (2, .int x2), (3, .int x3), (4, .int x4), (5, .int x5), (6, .int x6)] dX8_more_130 (by decide) rfl ?_
          refine r_iload C 0 dX8_more_132 rfl ?_
          refine r_iload_n C 4 dX8_more_134 rfl ?_
          refine r_ishr C dX8_more_135 ?_
          refine r_iconst C (1 : Int32) dX8_more_136 (by decide) ?_
          refine r_iand C dX8_more_137 ?_
          refine r_iconst C (1 : Int32) dX8_more_138 (by decide) ?_
          refine r_icmp_ne C 145 dX8_more_139 (by decide) ?_ ?_
          · refine r_iinc C 8 (fun y14 => [(6, .int y14), (8, .int v13), (7, .int v6), (0, .ref h0), (1, .int x1), (2, .int x2), (3, .int x3), (4, .int x4), (5, .int x5)]) dX8_more_145 rfl (v := (1 : Int32)) (by decide) (by decide) (fun _ => rfl) (fun y14 => ?_)
            refine r_goto C 61 dX8_more_148 (by decide) ?_
            refine r_sub [3, 4, 5, 6, 7, 8, 0] [(0, .ref h0), (1, .int x1), (2, .int x2), (3, .int x3), (4, .int x4), (5, .int x5), (6, .int y14)] rfl ?_
            exact ih S12 h0 x1 x2 x3 x4 x5 y14 th0
          · refine r_iload C 8 dX8_more_142 rfl ?_
            exact r_ireturn C X dX8_more_144
set_option maxRecDepth 100000 in
set_option maxHeartbeats 4000000 in
theorem c_X8_more (l : Launch) (E : EN) (n : Nat) (h0 : Nat) (x1 : Int32) (x2 : Int32) (x3 : Int32) (x4 : Int32) (th0 : Ty E h0 7) : CT l E yX8_more cX8_more 9 (some .int) 6 143 wI tT [.ref h0, .int x1, .int x2, .int x3, .int x4] (fun S => f_X8_more E n S h0 x1 x2 x3 x4) := by
  refine ct_of RX8 (by decide +kernel) rfl [(0, .ref h0), (1, .int x1), (2, .int x2), (3, .int x3), (4, .int x4)] rfl (Nat.le_of_ble_eq_true rfl) (fun A S hA C X => ?_)
  subst hA
  show Gd A E 9 (QM A E wI tT) (f_X8_more E n S h0 x1 x2 x3 x4) S 0 [(0, .ref h0), (1, .int x1), (2, .int x2), (3, .int x3), (4, .int x4)] []
  unfold f_X8_more
  refine r_aload_n C 0 dX8_more_0 rfl ?_
  refine r_iload_n C 1 dX8_more_1 rfl ?_
  refine r_iload_n C 2 dX8_more_2 rfl ?_
  refine r_iload_n C 3 dX8_more_3 rfl ?_
  refine r_callV (As := [.int x1, .int x2, .int x3]) (rest := []) C (c_X8_knowsWay _ E n h0 x1 x2 x3 th0) dX8_more_4 ml_X8_228 mv_X8_knowsWay ⟨TX8, _, rfl⟩ (by decide) th0 rfl rfl ⟨by decide, by decide⟩ (Nat.le_of_ble_eq_true rfl) (fun v2 S1 hv2 => ?_)
  refine r_if_eq C 23 dX8_more_7 (by decide) ?_ ?_
  · refine r_bipush C (-2 : Int32) dX8_more_23 (by decide) ?_
    exact r_ireturn C X dX8_more_25
  · refine r_iload C 4 dX8_more_10 rfl ?_
    refine r_iconst C (1 : Int32) dX8_more_12 (by decide) ?_
    refine r_icmp_lt C 23 dX8_more_13 (by decide) ?_ ?_
    · refine r_bipush C (-2 : Int32) dX8_more_23 (by decide) ?_
      exact r_ireturn C X dX8_more_25
    · refine r_iload C 4 dX8_more_16 rfl ?_
      refine r_bipush C (9 : Int32) dX8_more_18 (by decide) ?_
      refine r_icmp_le C 26 dX8_more_20 (by decide) ?_ ?_
      · refine r_aload_n C 0 dX8_more_26 rfl ?_
        refine r_iload_n C 1 dX8_more_27 rfl ?_
        refine r_iload_n C 2 dX8_more_28 rfl ?_
        refine r_iload_n C 3 dX8_more_29 rfl ?_
        refine r_callV (As := [.int x1, .int x2, .int x3]) (rest := []) C (c_X8_canCome _ E n h0 x1 x2 x3 th0) dX8_more_30 ml_X8_254 mv_X8_canCome ⟨TX8, _, rfl⟩ (by decide) th0 rfl rfl ⟨by decide, by decide⟩ (Nat.le_of_ble_eq_true rfl) (fun v4 S3 hv4 => ?_)
        refine r_if_eq C 38 dX8_more_33 (by decide) ?_ ?_
        · refine r_aload_n C 0 dX8_more_38 rfl ?_
          refine r_getr C fl_X8_27 dX8_more_39 th0 (fun b5 tb5 => ?_)
          refine r_aload_n C 0 dX8_more_42 rfl ?_
          refine r_getr C fl_X8_27 dX8_more_43 th0 (fun b6 tb6 => ?_)
          refine r_getr C fl_X8_277 dX8_more_46 tb6 (fun b7 tb7 => ?_)
          refine r_iload_n C 1 dX8_more_49 rfl ?_
          refine r_iald C dX8_more_50 tb7 ?_
          refine r_iload_n C 3 dX8_more_51 rfl ?_
          refine r_iconst C (-1 : Int32) dX8_more_52 (by decide) ?_
          refine r_callV (As := [.int (ai S3 b7 x1.toNatClampNeg), .int x3, .int (-1 : Int32)]) (rest := []) C (c_X3_openPaths _ E n b5 (ai S3 b7 x1.toNatClampNeg) x3 (-1 : Int32) tb5) dX8_more_53 ml_X8_271 mv_X3_openPaths ⟨TX3, _, rfl⟩ (by decide) tb5 rfl rfl ⟨by decide, by decide⟩ (Nat.le_of_ble_eq_true rfl) (fun v9 S8 hv9 => ?_)
          refine r_istore C [(5, .int v9), (0, .ref h0), (1, .int x1), (2, .int x2), (3, .int x3), (4, .int x4)] dX8_more_56 (by decide) rfl ?_
          refine r_iconst C (0 : Int32) dX8_more_58 (by decide) ?_
          refine r_istore C [(6, .int (0 : Int32)), (5, .int v9), (0, .ref h0), (1, .int x1), (2, .int x2), (3, .int x3), (4, .int x4)] dX8_more_59 (by decide) rfl ?_
          refine r_sub [2, 3, 4, 5, 6, 1, 0] [(0, .ref h0), (1, .int x1), (2, .int x2), (3, .int x3), (4, .int x4), (5, .int v9), (6, .int (0 : Int32))] rfl ?_
          exact p_X8_more_L61 C X  n S8 h0 x1 x2 x3 x4 v9 (0 : Int32) th0
        · refine r_iconst C (-1 : Int32) dX8_more_36 (by decide) ?_
          exact r_ireturn C X dX8_more_37
      · refine r_bipush C (-2 : Int32) dX8_more_23 (by decide) ?_
        exact r_ireturn C X dX8_more_25
set_option maxRecDepth 100000 in
set_option maxHeartbeats 4000000 in
theorem p_X8_odd_L25 {A : AM} {E : EN} {n : Nat} (C : Cx A E cX8_odd 5 RX8 4 94) (X : Ex A E (some .int))  : ∀ (m : Nat) (S : WS) (h0 : Nat) (h2 : Nat) (x4 : Int32) (th0 : Ty E h0 7) (th2 : Ty E h2 5), Gd A E 5 (QM A E wI tT) (f_X8_odd_L25 E n  m S h0 h2 x4) S 25 [(0, .ref h0), (2, .ref h2), (4, .int x4)] [] := by
  intro m
  induction m with
  | zero => intros; exact gn
  | succ m ih =>
    intro S h0 h2 x4 th0 th2
    unfold f_X8_odd_L25
    refine r_iload C 2 dX8_odd_25 rfl ?_
    refine r_aload_n C 1 dX8_odd_27 rfl ?_
    refine r_callV (As := []) (rest := [.int x4]) C (c_X6_measures _ E n h2 th2) dX8_odd_28 ml_X8_351 mv_X6_measures ⟨TX6, _, rfl⟩ (by decide) th2 rfl rfl ⟨by decide, by decide⟩ (Nat.le_of_ble_eq_true rfl) (fun v2 S1 hv2 => ?_)
    refine r_icmp_ge C 73 dX8_odd_31 (by decide) ?_ ?_
    · refine r_iconst C (-1 : Int32) dX8_odd_73 (by decide) ?_
      exact r_ireturn C X dX8_odd_74
    · refine r_aload_n C 0 dX8_odd_34 rfl ?_
      refine r_getr C fl_X8_27 dX8_odd_35 th0 (fun b3 tb3 => ?_)
      refine r_aload_n C 1 dX8_odd_38 rfl ?_
      refine r_iload C 2 dX8_odd_39 rfl ?_
      refine r_callV (As := [.int x4]) (rest := [.ref b3]) C (c_X6_pathOf _ E n h2 x4 th2) dX8_odd_41 ml_X8_355 mv_X6_pathOf ⟨TX6, _, rfl⟩ (by decide) th2 rfl rfl ⟨by decide, by decide⟩ (Nat.le_of_ble_eq_true rfl) (fun v5 S4 hv5 => ?_)
      refine r_aload_n C 1 dX8_odd_44 rfl ?_
      refine r_iload C 2 dX8_odd_45 rfl ?_
      refine r_callV (As := [.int x4]) (rest := [.int v5, .ref b3]) C (c_X6_yearOf _ E n h2 x4 th2) dX8_odd_47 ml_X8_358 mv_X6_yearOf ⟨TX6, _, rfl⟩ (by decide) th2 rfl rfl ⟨by decide, by decide⟩ (Nat.le_of_ble_eq_true rfl) (fun v7 S6 hv7 => ?_)
      refine r_callV (As := [.int v5, .int v7]) (rest := []) C (c_X3_leapOf _ E n b3 v5 v7 tb3) dX8_odd_50 ml_X8_178 mv_X3_leapOf ⟨TX3, _, rfl⟩ (by decide) tb3 rfl rfl ⟨by decide, by decide⟩ (Nat.le_of_ble_eq_true rfl) (fun v9 S8 hv9 => ?_)
      refine r_i2l C dX8_odd_53 ?_
      refine r_aload_n C 1 dX8_odd_54 rfl ?_
      refine r_iload C 2 dX8_odd_55 rfl ?_
      refine r_callV (As := [.int x4]) (rest := [.long (v9.toInt64)]) C (c_X6_leapTold _ E n h2 x4 th2) dX8_odd_57 ml_X8_361 mv_X6_leapTold ⟨TX6, _, rfl⟩ (by decide) th2 rfl rfl ⟨by decide, by decide⟩ (Nat.le_of_ble_eq_true rfl) (fun v11 S10 hv11 => ?_)
      refine r_lcmp C dX8_odd_60 ?_
      refine r_if_eq C 67 dX8_odd_61 (by decide) ?_ ?_
      · refine r_iinc C 2 (fun y12 => [(4, .int y12), (0, .ref h0), (2, .ref h2)]) dX8_odd_67 rfl (v := (1 : Int32)) (by decide) (by decide) (fun _ => rfl) (fun y12 => ?_)
        refine r_goto C 25 dX8_odd_70 (by decide) ?_
        refine r_sub [1, 2, 0] [(0, .ref h0), (2, .ref h2), (4, .int y12)] rfl ?_
        exact ih S10 h0 h2 y12 th0 th2
      · refine r_iload C 2 dX8_odd_64 rfl ?_
        exact r_ireturn C X dX8_odd_66
set_option maxRecDepth 100000 in
set_option maxHeartbeats 4000000 in
theorem c_X8_odd (l : Launch) (E : EN) (n : Nat) (h0 : Nat) (x1 : Int32) (th0 : Ty E h0 7) : CT l E yX8_odd cX8_odd 5 (some .int) 4 94 wI tT [.ref h0, .int x1] (fun S => f_X8_odd E n S h0 x1) := by
  refine ct_of RX8 (by decide +kernel) rfl [(0, .ref h0), (1, .int x1)] rfl (Nat.le_of_ble_eq_true rfl) (fun A S hA C X => ?_)
  subst hA
  show Gd A E 5 (QM A E wI tT) (f_X8_odd E n S h0 x1) S 0 [(0, .ref h0), (1, .int x1)] []
  unfold f_X8_odd
  refine r_aload_n C 0 dX8_odd_0 rfl ?_
  refine r_iload_n C 1 dX8_odd_1 rfl ?_
  refine r_callV (As := [.int x1]) (rest := []) C (c_X8_slotAt _ E n h0 x1 th0) dX8_odd_2 ml_X8_333 mv_X8_slotAt ⟨TX8, _, rfl⟩ (by decide) th0 rfl rfl ⟨by decide, by decide⟩ (Nat.le_of_ble_eq_true rfl) (fun v2 S1 hv2 => ?_)
  refine r_opt hv2 ?_ (fun b3 tb3 => ?_)
  · refine r_astore_nN C [(2, .null), (0, .ref h0), (1, .int x1)] dX8_odd_5 (by decide) rfl ?_
    refine r_aload_n C 1 dX8_odd_6 rfl ?_
    refine r_aload_nN C 0 dX8_odd_7 rfl ?_
    exact gn
  · refine r_astore_n C [(2, .ref b3), (0, .ref h0), (1, .int x1)] dX8_odd_5 (by decide) rfl ?_
    refine r_aload_n C 1 dX8_odd_6 rfl ?_
    refine r_aload_n C 0 dX8_odd_7 rfl ?_
    refine r_callV (As := [.ref b3]) (rest := []) C (c_X8_refusalOf _ E n h0 b3 th0 tb3) dX8_odd_8 ml_X8_337 mv_X8_refusalOf ⟨TX8, _, rfl⟩ (by decide) th0 rfl rfl ⟨by decide, by decide⟩ (Nat.le_of_ble_eq_true rfl) (fun v5 S4 hv5 => ?_)
    refine r_istore_n C [(3, .int v5), (2, .ref b3), (0, .ref h0), (1, .int x1)] dX8_odd_11 (by decide) rfl ?_
    refine r_iload_n C 0 dX8_odd_12 rfl ?_
    refine r_if_ne C 20 dX8_odd_13 (by decide) ?_ ?_
    · refine r_iload_n C 0 dX8_odd_20 rfl ?_
      exact r_ireturn C X dX8_odd_21
    · refine r_aload_n C 1 dX8_odd_16 rfl ?_
      refine r_ifnonnull C 22 dX8_odd_17 (by decide) ?_
      refine r_iconst C (0 : Int32) dX8_odd_22 (by decide) ?_
      refine r_istore C [(4, .int (0 : Int32)), (3, .int v5), (2, .ref b3), (0, .ref h0), (1, .int x1)] dX8_odd_23 (by decide) rfl ?_
      refine r_sub [3, 2, 0] [(0, .ref h0), (2, .ref b3), (4, .int (0 : Int32))] rfl ?_
      exact p_X8_odd_L25 C X  n S4 h0 b3 (0 : Int32) th0 tb3
set_option maxRecDepth 100000 in
set_option maxHeartbeats 4000000 in
theorem c_X8_hopes (l : Launch) (E : EN) (n : Nat) (h0 : Nat) (x1 : Int32) (th0 : Ty E h0 7) : CT l E yX8_hopes cX8_hopes 2 (some .int) 3 71 wI tT [.ref h0, .int x1] (fun S => f_X8_hopes E n S h0 x1) := by
  refine ct_of RX8 (by decide +kernel) rfl [(0, .ref h0), (1, .int x1)] rfl (Nat.le_of_ble_eq_true rfl) (fun A S hA C X => ?_)
  subst hA
  show Gd A E 2 (QM A E wI tT) (f_X8_hopes E n S h0 x1) S 0 [(0, .ref h0), (1, .int x1)] []
  unfold f_X8_hopes
  refine r_aload_n C 0 dX8_hopes_0 rfl ?_
  refine r_getr C fl_X8_27 dX8_hopes_1 th0 (fun b1 tb1 => ?_)
  refine r_iload_n C 1 dX8_hopes_4 rfl ?_
  refine r_callV (As := [.int x1]) (rest := []) C (c_X3_hasSuitor _ E n b1 x1 tb1) dX8_hopes_5 ml_X8_118 mv_X3_hasSuitor ⟨TX3, _, rfl⟩ (by decide) tb1 rfl rfl ⟨by decide, by decide⟩ (Nat.le_of_ble_eq_true rfl) (fun v3 S2 hv3 => ?_)
  refine r_if_eq C 29 dX8_hopes_8 (by decide) ?_ ?_
  · refine r_bipush C (-2 : Int32) dX8_hopes_29 (by decide) ?_
    exact r_ireturn C X dX8_hopes_31
  · refine r_aload_n C 0 dX8_hopes_11 rfl ?_
    refine r_getr C fl_X8_27 dX8_hopes_12 th0 (fun b4 tb4 => ?_)
    refine r_aload_n C 0 dX8_hopes_15 rfl ?_
    refine r_getr C fl_X8_27 dX8_hopes_16 th0 (fun b5 tb5 => ?_)
    refine r_getr C fl_X8_125 dX8_hopes_19 tb5 (fun b6 tb6 => ?_)
    refine r_iload_n C 1 dX8_hopes_22 rfl ?_
    refine r_callV (As := [.ref b6, .int x1]) (rest := []) C (c_X3_hopeOf _ E n b4 b6 x1 tb4 tb6) dX8_hopes_23 ml_X8_365 mv_X3_hopeOf ⟨TX3, _, rfl⟩ (by decide) tb4 rfl rfl ⟨by decide, by decide⟩ (Nat.le_of_ble_eq_true rfl) (fun v8 S7 hv8 => ?_)
    refine r_goto C 31 dX8_hopes_26 (by decide) ?_
    exact r_ireturn C X dX8_hopes_31
set_option maxRecDepth 100000 in
set_option maxHeartbeats 4000000 in
theorem c_X8_peace (l : Launch) (E : EN) (n : Nat) (h0 : Nat) (th0 : Ty E h0 7) : CT l E yX8_peace cX8_peace 1 (some .int) 4 93 wI tT [.ref h0] (fun S => f_X8_peace E n S h0) := by
  refine ct_of RX8 (by decide +kernel) rfl [(0, .ref h0)] rfl (Nat.le_of_ble_eq_true rfl) (fun A S hA C X => ?_)
  subst hA
  show Gd A E 1 (QM A E wI tT) (f_X8_peace E n S h0) S 0 [(0, .ref h0)] []
  unfold f_X8_peace
  refine r_aload_n C 0 dX8_peace_0 rfl ?_
  refine r_getr C fl_X8_27 dX8_peace_1 th0 (fun b1 tb1 => ?_)
  refine r_callV (As := []) (rest := []) C (c_X3_isTold _ E n b1 tb1) dX8_peace_4 ml_X8_157 mv_X3_isTold ⟨TX3, _, rfl⟩ (by decide) tb1 rfl rfl ⟨by decide, by decide⟩ (Nat.le_of_ble_eq_true rfl) (fun v3 S2 hv3 => ?_)
  refine r_if_ne C 13 dX8_peace_7 (by decide) ?_ ?_
  · refine r_aload_n C 0 dX8_peace_13 rfl ?_
    refine r_getr C fl_X8_27 dX8_peace_14 th0 (fun b4 tb4 => ?_)
    refine r_aload_n C 0 dX8_peace_17 rfl ?_
    refine r_getr C fl_X8_27 dX8_peace_18 th0 (fun b5 tb5 => ?_)
    refine r_getr C fl_X8_125 dX8_peace_21 tb5 (fun b6 tb6 => ?_)
    refine r_callV (As := [.ref b6]) (rest := []) C (c_X3_firstHoping _ E n b4 b6 tb4 tb6) dX8_peace_24 ml_X8_368 mv_X3_firstHoping ⟨TX3, _, rfl⟩ (by decide) tb4 rfl rfl ⟨by decide, by decide⟩ (Nat.le_of_ble_eq_true rfl) (fun v8 S7 hv8 => ?_)
    refine r_iconst C (-1 : Int32) dX8_peace_27 (by decide) ?_
    refine r_icmp_ne C 35 dX8_peace_28 (by decide) ?_ ?_
    · refine r_iconst C (0 : Int32) dX8_peace_35 (by decide) ?_
      exact r_ireturn C X dX8_peace_36
    · refine r_iconst C (1 : Int32) dX8_peace_31 (by decide) ?_
      refine r_goto C 36 dX8_peace_32 (by decide) ?_
      exact r_ireturn C X dX8_peace_36
  · refine r_bipush C (-2 : Int32) dX8_peace_10 (by decide) ?_
    exact r_ireturn C X dX8_peace_12
set_option maxRecDepth 100000 in
set_option maxHeartbeats 4000000 in
theorem p_X8_calmInThought_L16 {A : AM} {E : EN} {n : Nat} (C : Cx A E cX8_calmInThought 4 RX8 4 93) (X : Ex A E (some .int))  : ∀ (m : Nat) (S : WS) (h0 : Nat) (x1 : Int32) (x2 : Int32) (th0 : Ty E h0 7), Gd A E 4 (QM A E wI tT) (f_X8_calmInThought_L16 E n  m S h0 x1 x2) S 16 [(0, .ref h0), (1, .int x1), (2, .int x2)] [] := by
  intro m
  induction m with
  | zero => intros; exact gn
  | succ m ih =>
    intro S h0 x1 x2 th0
    unfold f_X8_calmInThought_L16
    refine r_iload_n C 2 dX8_calmInThought_16 rfl ?_
    refine r_iload_n C 1 dX8_calmInThought_17 rfl ?_
    refine r_icmp_gt C 69 dX8_calmInThought_18 (by decide) ?_ ?_
    · refine r_iconst C (-1 : Int32) dX8_calmInThought_69 (by decide) ?_
      exact r_ireturn C X dX8_calmInThought_70
    · refine r_aload_n C 0 dX8_calmInThought_21 rfl ?_
      refine r_getr C fl_X8_27 dX8_calmInThought_22 th0 (fun b1 tb1 => ?_)
      refine r_aload_n C 0 dX8_calmInThought_25 rfl ?_
      refine r_getr C fl_X8_76 dX8_calmInThought_26 th0 (fun b2 tb2 => ?_)
      refine r_callV (As := [.ref b2]) (rest := []) C (c_X3_firstHoping _ E n b1 b2 tb1 tb2) dX8_calmInThought_29 ml_X8_368 mv_X3_firstHoping ⟨TX3, _, rfl⟩ (by decide) tb1 rfl rfl ⟨by decide, by decide⟩ (Nat.le_of_ble_eq_true rfl) (fun v4 S3 hv4 => ?_)
      refine r_istore_n C [(3, .int v4), (0, .ref h0), (1, .int x1), (2, .int x2)] dX8_calmInThought_32 (by decide) rfl ?_
      refine r_iload_n C 0 dX8_calmInThought_33 rfl ?_
      refine r_iconst C (-1 : Int32) dX8_calmInThought_34 (by decide) ?_
      refine r_icmp_ne C 40 dX8_calmInThought_35 (by decide) ?_ ?_
      · refine r_iload_n C 3 dX8_calmInThought_40 rfl ?_
        refine r_iload_n C 2 dX8_calmInThought_41 rfl ?_
        refine r_icmp_ge C 63 dX8_calmInThought_42 (by decide) ?_ ?_
        · refine r_iinc C 3 (fun y5 => [(2, .int y5), (3, .int v4), (0, .ref h0), (1, .int x1)]) dX8_calmInThought_63 rfl (v := (1 : Int32)) (by decide) (by decide) (fun _ => rfl) (fun y5 => ?_)
          refine r_goto C 16 dX8_calmInThought_66 (by decide) ?_
          refine r_sub [2, 3, 0] [(0, .ref h0), (1, .int x1), (2, .int y5)] rfl ?_
          exact ih S3 h0 x1 y5 th0
        · refine r_aload_n C 1 dX8_calmInThought_45 rfl ?_
          refine r_getr C fl_X8_76 dX8_calmInThought_46 th0 (fun b6 tb6 => ?_)
          refine r_iload_n C 0 dX8_calmInThought_49 rfl ?_
          refine r_aload_n C 1 dX8_calmInThought_50 rfl ?_
          refine r_getr C fl_X8_27 dX8_calmInThought_51 th0 (fun b7 tb7 => ?_)
          refine r_aload_n C 1 dX8_calmInThought_54 rfl ?_
          refine r_getr C fl_X8_76 dX8_calmInThought_55 th0 (fun b8 tb8 => ?_)
          refine r_iload_n C 0 dX8_calmInThought_58 rfl ?_
          refine r_callV (As := [.ref b8, .int v4]) (rest := [.int v4, .ref b6]) C (c_X3_hopeOf _ E n b7 b8 v4 tb7 tb8) dX8_calmInThought_59 ml_X8_365 mv_X3_hopeOf ⟨TX3, _, rfl⟩ (by decide) tb7 rfl rfl ⟨by decide, by decide⟩ (Nat.le_of_ble_eq_true rfl) (fun v10 S9 hv10 => ?_)
          refine r_iast C dX8_calmInThought_62 tb6 (fun S11 => ?_)
          refine r_iinc C 3 (fun y12 => [(2, .int y12), (3, .int v4), (0, .ref h0), (1, .int x1)]) dX8_calmInThought_63 rfl (v := (1 : Int32)) (by decide) (by decide) (fun _ => rfl) (fun y12 => ?_)
          refine r_goto C 16 dX8_calmInThought_66 (by decide) ?_
          refine r_sub [2, 3, 0] [(0, .ref h0), (1, .int x1), (2, .int y12)] rfl ?_
          exact ih S11 h0 x1 y12 th0
      · refine r_iload_n C 3 dX8_calmInThought_38 rfl ?_
        exact r_ireturn C X dX8_calmInThought_39
set_option maxRecDepth 100000 in
set_option maxHeartbeats 4000000 in
theorem c_X8_calmInThought (l : Launch) (E : EN) (n : Nat) (h0 : Nat) (x1 : Int32) (th0 : Ty E h0 7) : CT l E yX8_calmInThought cX8_calmInThought 4 (some .int) 4 93 wI tT [.ref h0, .int x1] (fun S => f_X8_calmInThought E n S h0 x1) := by
  refine ct_of RX8 (by decide +kernel) rfl [(0, .ref h0), (1, .int x1)] rfl (Nat.le_of_ble_eq_true rfl) (fun A S hA C X => ?_)
  subst hA
  show Gd A E 4 (QM A E wI tT) (f_X8_calmInThought E n S h0 x1) S 0 [(0, .ref h0), (1, .int x1)] []
  unfold f_X8_calmInThought
  refine r_aload_n C 0 dX8_calmInThought_0 rfl ?_
  refine r_getr C fl_X8_27 dX8_calmInThought_1 th0 (fun b1 tb1 => ?_)
  refine r_getr C fl_X8_125 dX8_calmInThought_4 tb1 (fun b2 tb2 => ?_)
  refine r_aload_n C 0 dX8_calmInThought_7 rfl ?_
  refine r_getr C fl_X8_76 dX8_calmInThought_8 th0 (fun b3 tb3 => ?_)
  refine r_callS (As := [.ref b2, .ref b3]) (rest := []) C (c_X8_copyRow _ E n b2 b3 tb2 tb3) dX8_calmInThought_11 ml_X8_375 mv_X8_copyRow rfl rfl ⟨by decide, by decide⟩ (Nat.le_of_ble_eq_true rfl) (fun v5 S4 hv5 => ?_)
  refine r_iconst C (0 : Int32) dX8_calmInThought_14 (by decide) ?_
  refine r_istore_n C [(2, .int (0 : Int32)), (0, .ref h0), (1, .int x1)] dX8_calmInThought_15 (by decide) rfl ?_
  refine r_sub [1, 2, 0] [(0, .ref h0), (1, .int x1), (2, .int (0 : Int32))] rfl ?_
  exact p_X8_calmInThought_L16 C X  n S4 h0 x1 (0 : Int32) th0
set_option maxRecDepth 100000 in
set_option maxHeartbeats 4000000 in
theorem c_X8_count (l : Launch) (E : EN) (n : Nat) (h0 : Nat) (x1 : Int32) (th0 : Ty E h0 7) : CT l E yX8_count cX8_count 2 (some .int) 2 44 wI tT [.ref h0, .int x1] (fun S => f_X8_count E n S h0 x1) := by
  refine ct_of RX8 (by decide +kernel) rfl [(0, .ref h0), (1, .int x1)] rfl (Nat.le_of_ble_eq_true rfl) (fun A S hA C X => ?_)
  subst hA
  show Gd A E 2 (QM A E wI tT) (f_X8_count E n S h0 x1) S 0 [(0, .ref h0), (1, .int x1)] []
  unfold f_X8_count
  refine r_iload_n C 1 dX8_count_0 rfl ?_
  refine r_ite (fun hs0 => ?_) (fun hs0 => ?_)
  · refine r_swIn C 0 56 dX8_count_1 (by rw [hs0]; rfl) (by decide) (by decide) rfl (by decide) ?_
    refine r_aload_n C 0 dX8_count_56 rfl ?_
    refine r_getr C fl_X8_27 dX8_count_57 th0 (fun b1 tb1 => ?_)
    refine r_geti C fl_X8_268 dX8_count_60 tb1 ?_
    exact r_ireturn C X dX8_count_63
  refine r_ite (fun hs1 => ?_) (fun hs1 => ?_)
  · refine r_swIn C 1 64 dX8_count_1 (by rw [hs1]; rfl) (by decide) (by decide) rfl (by decide) ?_
    refine r_aload_n C 0 dX8_count_64 rfl ?_
    refine r_getr C fl_X8_27 dX8_count_65 th0 (fun b2 tb2 => ?_)
    refine r_geti C fl_X8_182 dX8_count_68 tb2 ?_
    exact r_ireturn C X dX8_count_71
  refine r_ite (fun hs2 => ?_) (fun hs2 => ?_)
  · refine r_swIn C 2 72 dX8_count_1 (by rw [hs2]; rfl) (by decide) (by decide) rfl (by decide) ?_
    refine r_aload_n C 0 dX8_count_72 rfl ?_
    refine r_getr C fl_X8_27 dX8_count_73 th0 (fun b3 tb3 => ?_)
    refine r_geti C fl_X8_280 dX8_count_76 tb3 ?_
    exact r_ireturn C X dX8_count_79
  refine r_ite (fun hs3 => ?_) (fun hs3 => ?_)
  · refine r_swIn C 3 80 dX8_count_1 (by rw [hs3]; rfl) (by decide) (by decide) rfl (by decide) ?_
    refine r_aload_n C 0 dX8_count_80 rfl ?_
    refine r_getr C fl_X8_27 dX8_count_81 th0 (fun b4 tb4 => ?_)
    refine r_geti C fl_X8_203 dX8_count_84 tb4 ?_
    exact r_ireturn C X dX8_count_87
  refine r_ite (fun hs4 => ?_) (fun hs4 => ?_)
  · refine r_swIn C 4 88 dX8_count_1 (by rw [hs4]; rfl) (by decide) (by decide) rfl (by decide) ?_
    refine r_aload_n C 0 dX8_count_88 rfl ?_
    refine r_getr C fl_X8_27 dX8_count_89 th0 (fun b5 tb5 => ?_)
    refine r_geti C fl_X8_161 dX8_count_92 tb5 ?_
    exact r_ireturn C X dX8_count_95
  refine r_ite (fun hs5 => ?_) (fun hs5 => ?_)
  · refine r_swIn C 5 96 dX8_count_1 (by rw [hs5]; rfl) (by decide) (by decide) rfl (by decide) ?_
    refine r_aload_n C 0 dX8_count_96 rfl ?_
    refine r_getr C fl_X8_27 dX8_count_97 th0 (fun b6 tb6 => ?_)
    refine r_geti C fl_X8_283 dX8_count_100 tb6 ?_
    exact r_ireturn C X dX8_count_103
  refine r_ite (fun hs6 => ?_) (fun hs6 => ?_)
  · refine r_swIn C 6 104 dX8_count_1 (by rw [hs6]; rfl) (by decide) (by decide) rfl (by decide) ?_
    refine r_aload_n C 0 dX8_count_104 rfl ?_
    refine r_getr C fl_X8_27 dX8_count_105 th0 (fun b7 tb7 => ?_)
    refine r_geti C fl_X8_95 dX8_count_108 tb7 ?_
    exact r_ireturn C X dX8_count_111
  refine r_ite (fun hs7 => ?_) (fun hs7 => ?_)
  · refine r_swIn C 7 112 dX8_count_1 (by rw [hs7]; rfl) (by decide) (by decide) rfl (by decide) ?_
    refine r_aload_n C 0 dX8_count_112 rfl ?_
    refine r_geti C fl_X8_13 dX8_count_113 th0 ?_
    exact r_ireturn C X dX8_count_116
  refine r_ite (fun hs8 => ?_) (fun hs8 => ?_)
  · refine r_swIn C 8 117 dX8_count_1 (by rw [hs8]; rfl) (by decide) (by decide) rfl (by decide) ?_
    refine r_aload_n C 0 dX8_count_117 rfl ?_
    refine r_callV (As := []) (rest := []) C (c_X8_courtersAsBits _ E n h0 th0) dX8_count_118 ml_X8_397 mv_X8_courtersAsBits ⟨TX8, _, rfl⟩ (by decide) th0 rfl rfl ⟨by decide, by decide⟩ (Nat.le_of_ble_eq_true rfl) (fun v9 S8 hv9 => ?_)
    exact r_ireturn C X dX8_count_121
  refine r_ite (fun hs9 => ?_) (fun hs9 => ?_)
  · refine r_swIn C 9 122 dX8_count_1 (by rw [hs9]; rfl) (by decide) (by decide) rfl (by decide) ?_
    refine r_aload_n C 0 dX8_count_122 rfl ?_
    refine r_callV (As := []) (rest := []) C (c_X8_slotsWithRows _ E n h0 th0) dX8_count_123 ml_X8_400 mv_X8_slotsWithRows ⟨TX8, _, rfl⟩ (by decide) th0 rfl rfl ⟨by decide, by decide⟩ (Nat.le_of_ble_eq_true rfl) (fun v11 S10 hv11 => ?_)
    exact r_ireturn C X dX8_count_126
  refine r_swOut C 127 dX8_count_1 (by have z0 := lv_neT hs0 (a := 0) rfl; have z1 := lv_neT hs1 (a := 1) rfl; have z2 := lv_neT hs2 (a := 2) rfl; have z3 := lv_neT hs3 (a := 3) rfl; have z4 := lv_neT hs4 (a := 4) rfl; have z5 := lv_neT hs5 (a := 5) rfl; have z6 := lv_neT hs6 (a := 6) rfl; have z7 := lv_neT hs7 (a := 7) rfl; have z8 := lv_neT hs8 (a := 8) rfl; have z9 := lv_neT hs9 (a := 9) rfl;  omega) (by decide) ?_
  refine r_iconst C (-1 : Int32) dX8_count_127 (by decide) ?_
  exact r_ireturn C X dX8_count_128
set_option maxRecDepth 100000 in
set_option maxHeartbeats 4000000 in
theorem c_X8_image (l : Launch) (E : EN) (n : Nat) (h0 : Nat) (x1 : Int32) (th0 : Ty E h0 7) : CT l E yX8_image cX8_image 2 (some .int) 3 72 wI tT [.ref h0, .int x1] (fun S => f_X8_image E n S h0 x1) := by
  refine ct_of RX8 (by decide +kernel) rfl [(0, .ref h0), (1, .int x1)] rfl (Nat.le_of_ble_eq_true rfl) (fun A S hA C X => ?_)
  subst hA
  show Gd A E 2 (QM A E wI tT) (f_X8_image E n S h0 x1) S 0 [(0, .ref h0), (1, .int x1)] []
  unfold f_X8_image
  refine r_iload_n C 1 dX8_image_0 rfl ?_
  refine r_if_lt C 18 dX8_image_1 (by decide) ?_ ?_
  · refine r_bipush C (-2 : Int32) dX8_image_18 (by decide) ?_
    exact r_ireturn C X dX8_image_20
  · refine r_iload_n C 1 dX8_image_4 rfl ?_
    refine r_iconst C (3 : Int32) dX8_image_5 (by decide) ?_
    refine r_icmp_ge C 18 dX8_image_6 (by decide) ?_ ?_
    · refine r_bipush C (-2 : Int32) dX8_image_18 (by decide) ?_
      exact r_ireturn C X dX8_image_20
    · refine r_aload_n C 0 dX8_image_9 rfl ?_
      refine r_getr C fl_X8_34 dX8_image_10 th0 (fun b1 tb1 => ?_)
      refine r_iload_n C 1 dX8_image_13 rfl ?_
      refine r_ralM C dX8_image_14 tb1 ?_ (fun b2 tb2 => ?_)
      · refine r_ifnonnullN C dX8_image_15 ?_
        refine r_bipush C (-2 : Int32) dX8_image_18 (by decide) ?_
        exact r_ireturn C X dX8_image_20
      · refine r_ifnonnull C 21 dX8_image_15 (by decide) ?_
        refine r_aload_n C 0 dX8_image_21 rfl ?_
        refine r_getr C fl_X8_34 dX8_image_22 th0 (fun b3 tb3 => ?_)
        refine r_iload_n C 1 dX8_image_25 rfl ?_
        refine r_ralM C dX8_image_26 tb3 ?_ (fun b4 tb4 => ?_)
        · refine r_aload_n C 0 dX8_image_27 rfl ?_
          refine r_getr C fl_X8_27 dX8_image_28 th0 (fun b5 tb5 => ?_)
          exact gn
        · refine r_aload_n C 0 dX8_image_27 rfl ?_
          refine r_getr C fl_X8_27 dX8_image_28 th0 (fun b6 tb6 => ?_)
          refine r_callV (As := [.ref b6]) (rest := []) C (c_X3_takeFrom _ E n b4 b6 tb4 tb6) dX8_image_31 ml_X8_403 mv_X3_takeFrom ⟨TX3, _, rfl⟩ (by decide) tb4 rfl rfl ⟨by decide, by decide⟩ (Nat.le_of_ble_eq_true rfl) (fun v8 S7 hv8 => ?_)
          refine r_aload_n C 0 dX8_image_34 rfl ?_
          refine r_getr C fl_X8_38 dX8_image_35 th0 (fun b9 tb9 => ?_)
          refine r_iload_n C 1 dX8_image_38 rfl ?_
          refine r_iconst C (1 : Int32) dX8_image_39 (by decide) ?_
          refine r_zast C dX8_image_40 tb9 (fun S10 => ?_)
          refine r_iconst C (0 : Int32) dX8_image_41 (by decide) ?_
          exact r_ireturn C X dX8_image_42
set_option maxRecDepth 100000 in
set_option maxHeartbeats 4000000 in
theorem c_X8_back (l : Launch) (E : EN) (n : Nat) (h0 : Nat) (x1 : Int32) (th0 : Ty E h0 7) : CT l E yX8_back cX8_back 2 (some .int) 3 72 wI tT [.ref h0, .int x1] (fun S => f_X8_back E n S h0 x1) := by
  refine ct_of RX8 (by decide +kernel) rfl [(0, .ref h0), (1, .int x1)] rfl (Nat.le_of_ble_eq_true rfl) (fun A S hA C X => ?_)
  subst hA
  show Gd A E 2 (QM A E wI tT) (f_X8_back E n S h0 x1) S 0 [(0, .ref h0), (1, .int x1)] []
  unfold f_X8_back
  refine r_iload_n C 1 dX8_back_0 rfl ?_
  refine r_if_lt C 18 dX8_back_1 (by decide) ?_ ?_
  · refine r_bipush C (-2 : Int32) dX8_back_18 (by decide) ?_
    exact r_ireturn C X dX8_back_20
  · refine r_iload_n C 1 dX8_back_4 rfl ?_
    refine r_iconst C (3 : Int32) dX8_back_5 (by decide) ?_
    refine r_icmp_ge C 18 dX8_back_6 (by decide) ?_ ?_
    · refine r_bipush C (-2 : Int32) dX8_back_18 (by decide) ?_
      exact r_ireturn C X dX8_back_20
    · refine r_aload_n C 0 dX8_back_9 rfl ?_
      refine r_getr C fl_X8_34 dX8_back_10 th0 (fun b1 tb1 => ?_)
      refine r_iload_n C 1 dX8_back_13 rfl ?_
      refine r_ralM C dX8_back_14 tb1 ?_ (fun b2 tb2 => ?_)
      · refine r_ifnonnullN C dX8_back_15 ?_
        refine r_bipush C (-2 : Int32) dX8_back_18 (by decide) ?_
        exact r_ireturn C X dX8_back_20
      · refine r_ifnonnull C 21 dX8_back_15 (by decide) ?_
        refine r_aload_n C 0 dX8_back_21 rfl ?_
        refine r_getr C fl_X8_38 dX8_back_22 th0 (fun b3 tb3 => ?_)
        refine r_iload_n C 1 dX8_back_25 rfl ?_
        refine r_zald C dX8_back_26 tb3 ?_
        refine r_if_ne C 33 dX8_back_27 (by decide) ?_ ?_
        · refine r_aload_n C 0 dX8_back_33 rfl ?_
          refine r_getr C fl_X8_27 dX8_back_34 th0 (fun b4 tb4 => ?_)
          refine r_aload_n C 0 dX8_back_37 rfl ?_
          refine r_getr C fl_X8_34 dX8_back_38 th0 (fun b5 tb5 => ?_)
          refine r_iload_n C 1 dX8_back_41 rfl ?_
          refine r_ralM C dX8_back_42 tb5 ?_ (fun b6 tb6 => ?_)
          · exact gn
          · refine r_callV (As := [.ref b6]) (rest := []) C (c_X3_takeFrom _ E n b4 b6 tb4 tb6) dX8_back_43 ml_X8_403 mv_X3_takeFrom ⟨TX3, _, rfl⟩ (by decide) tb4 rfl rfl ⟨by decide, by decide⟩ (Nat.le_of_ble_eq_true rfl) (fun v8 S7 hv8 => ?_)
            refine r_iconst C (0 : Int32) dX8_back_46 (by decide) ?_
            exact r_ireturn C X dX8_back_47
        · refine r_bipush C (-6 : Int32) dX8_back_30 (by decide) ?_
          exact r_ireturn C X dX8_back_32
set_option maxRecDepth 100000 in
set_option maxHeartbeats 4000000 in
theorem c_X8_row (l : Launch) (E : EN) (n : Nat) (h0 : Nat) (x1 : Int32) (x2 : Int32) (x3 : Int32) (th0 : Ty E h0 7) : CT l E yX8_row cX8_row 5 (some .int) 1 24 wI tT [.ref h0, .int x1, .int x2, .int x3] (fun S => f_X8_row E n S h0 x1 x2 x3) := by
  refine ct_of RX8 (by decide +kernel) rfl [(0, .ref h0), (1, .int x1), (2, .int x2), (3, .int x3)] rfl (Nat.le_of_ble_eq_true rfl) (fun A S hA C X => ?_)
  subst hA
  show Gd A E 5 (QM A E wI tT) (f_X8_row E n S h0 x1 x2 x3) S 0 [(0, .ref h0), (1, .int x1), (2, .int x2), (3, .int x3)] []
  unfold f_X8_row
  refine r_aload_n C 0 dX8_row_0 rfl ?_
  refine r_iload_n C 1 dX8_row_1 rfl ?_
  refine r_callV (As := [.int x1]) (rest := []) C (c_X8_slotAt _ E n h0 x1 th0) dX8_row_2 ml_X8_333 mv_X8_slotAt ⟨TX8, _, rfl⟩ (by decide) th0 rfl rfl ⟨by decide, by decide⟩ (Nat.le_of_ble_eq_true rfl) (fun v2 S1 hv2 => ?_)
  refine r_opt hv2 ?_ (fun b3 tb3 => ?_)
  · refine r_astoreN C [(4, .null), (0, .ref h0), (1, .int x1), (2, .int x2), (3, .int x3)] dX8_row_5 (by decide) rfl ?_
    refine r_aloadN C 0 dX8_row_7 rfl ?_
    refine r_ifnullN C 27 dX8_row_9 (by decide) ?_
    refine r_bipush C (-2 : Int32) dX8_row_27 (by decide) ?_
    exact r_ireturn C X dX8_row_29
  · refine r_astore C [(4, .ref b3), (0, .ref h0), (1, .int x1), (2, .int x2), (3, .int x3)] dX8_row_5 (by decide) rfl ?_
    refine r_aload C 0 dX8_row_7 rfl ?_
    refine r_ifnull C dX8_row_9 ?_
    refine r_iload_n C 3 dX8_row_12 rfl ?_
    refine r_if_lt C 27 dX8_row_13 (by decide) ?_ ?_
    · refine r_bipush C (-2 : Int32) dX8_row_27 (by decide) ?_
      exact r_ireturn C X dX8_row_29
    · refine r_iload_n C 3 dX8_row_16 rfl ?_
      refine r_iconst C (4 : Int32) dX8_row_17 (by decide) ?_
      refine r_icmp_ge C 27 dX8_row_18 (by decide) ?_ ?_
      · refine r_bipush C (-2 : Int32) dX8_row_27 (by decide) ?_
        exact r_ireturn C X dX8_row_29
      · refine r_iload_n C 4 dX8_row_21 rfl ?_
        refine r_bipush C (60 : Int32) dX8_row_22 (by decide) ?_
        refine r_icmp_le C 30 dX8_row_24 (by decide) ?_ ?_
        · refine r_iload_n C 4 dX8_row_30 rfl ?_
          refine r_if_ge C 37 dX8_row_31 (by decide) ?_ ?_
          · refine r_aload C 0 dX8_row_37 rfl ?_
            refine r_iload_n C 3 dX8_row_39 rfl ?_
            refine r_puti C fl_X8_407 dX8_row_40 tb3 (fun S4 => ?_)
            refine r_aload C 0 dX8_row_43 rfl ?_
            refine r_iload_n C 4 dX8_row_45 rfl ?_
            refine r_puti C fl_X8_326 dX8_row_46 tb3 (fun S5 => ?_)
            refine r_aload C 0 dX8_row_49 rfl ?_
            refine r_getr C fl_X8_410 dX8_row_51 tb3 (fun b6 tb6 => ?_)
            refine r_lconst C (0 : Int64) dX8_row_54 (by decide) ?_
            refine r_callS (As := [.ref b6, .long (0 : Int64)]) (rest := []) C (c_J7_fill_d0a16 _ E n b6 (0 : Int64) tb6) dX8_row_55 ml_X8_414 mv_J7_fill_d0a16 rfl rfl ⟨by decide, by decide⟩ (Nat.le_of_ble_eq_true rfl) (fun v8 S7 hv8 => ?_)
            refine r_iconst C (0 : Int32) dX8_row_58 (by decide) ?_
            exact r_ireturn C X dX8_row_59
          · refine r_bipush C (-3 : Int32) dX8_row_34 (by decide) ?_
            exact r_ireturn C X dX8_row_36
        · refine r_bipush C (-2 : Int32) dX8_row_27 (by decide) ?_
          exact r_ireturn C X dX8_row_29
set_option maxRecDepth 100000 in
set_option maxHeartbeats 4000000 in
theorem c_X8_write (l : Launch) (E : EN) (n : Nat) (h0 : Nat) (x1 : Int32) (x2 : Int32) (x3 : Int64) (th0 : Ty E h0 7) : CT l E yX8_write cX8_write 6 (some .int) 1 22 wI tT [.ref h0, .int x1, .int x2, .long x3] (fun S => f_X8_write E n S h0 x1 x2 x3) := by
  refine ct_of RX8 (by decide +kernel) rfl [(0, .ref h0), (1, .int x1), (2, .int x2), (3, .long x3)] rfl (Nat.le_of_ble_eq_true rfl) (fun A S hA C X => ?_)
  subst hA
  show Gd A E 6 (QM A E wI tT) (f_X8_write E n S h0 x1 x2 x3) S 0 [(0, .ref h0), (1, .int x1), (2, .int x2), (3, .long x3)] []
  unfold f_X8_write
  refine r_aload_n C 0 dX8_write_0 rfl ?_
  refine r_iload_n C 1 dX8_write_1 rfl ?_
  refine r_callV (As := [.int x1]) (rest := []) C (c_X8_slotAt _ E n h0 x1 th0) dX8_write_2 ml_X8_333 mv_X8_slotAt ⟨TX8, _, rfl⟩ (by decide) th0 rfl rfl ⟨by decide, by decide⟩ (Nat.le_of_ble_eq_true rfl) (fun v2 S1 hv2 => ?_)
  refine r_opt hv2 ?_ (fun b3 tb3 => ?_)
  · refine r_astoreN C [(5, .null), (0, .ref h0), (1, .int x1), (2, .int x2), (3, .long x3)] dX8_write_5 (by decide) rfl ?_
    refine r_aloadN C 0 dX8_write_7 rfl ?_
    refine r_ifnonnullN C dX8_write_9 ?_
    refine r_bipush C (-2 : Int32) dX8_write_12 (by decide) ?_
    exact r_ireturn C X dX8_write_14
  · refine r_astore C [(5, .ref b3), (0, .ref h0), (1, .int x1), (2, .int x2), (3, .long x3)] dX8_write_5 (by decide) rfl ?_
    refine r_aload C 0 dX8_write_7 rfl ?_
    refine r_ifnonnull C 15 dX8_write_9 (by decide) ?_
    refine r_aload C 0 dX8_write_15 rfl ?_
    refine r_geti C fl_X8_326 dX8_write_17 tb3 ?_
    refine r_iconst C (-1 : Int32) dX8_write_20 (by decide) ?_
    refine r_icmp_ne C 27 dX8_write_21 (by decide) ?_ ?_
    · refine r_iload_n C 3 dX8_write_27 rfl ?_
      refine r_if_lt C 40 dX8_write_28 (by decide) ?_ ?_
      · refine r_bipush C (-7 : Int32) dX8_write_40 (by decide) ?_
        exact r_ireturn C X dX8_write_42
      · refine r_iload_n C 3 dX8_write_31 rfl ?_
        refine r_aload C 0 dX8_write_32 rfl ?_
        refine r_geti C fl_X8_326 dX8_write_34 tb3 ?_
        refine r_icmp_lt C 43 dX8_write_37 (by decide) ?_ ?_
        · refine r_aload C 0 dX8_write_43 rfl ?_
          refine r_getr C fl_X8_410 dX8_write_45 tb3 (fun b4 tb4 => ?_)
          refine r_iload_n C 3 dX8_write_48 rfl ?_
          refine r_lload_n C 4 dX8_write_49 rfl ?_
          refine r_aload C 0 dX8_write_50 rfl ?_
          refine r_geti C fl_X8_407 dX8_write_52 tb3 ?_
          refine r_callS (As := [.long x3, .int (gi S1 320 b3)]) (rest := [.int x2, .ref b4]) C (c_X8_cutToWidth _ E n x3 (gi S1 320 b3) ) dX8_write_55 ml_X8_417 mv_X8_cutToWidth rfl rfl ⟨by decide, by decide⟩ (Nat.le_of_ble_eq_true rfl) (fun v6 S5 hv6 => ?_)
          refine r_last C dX8_write_58 tb4 (fun S7 => ?_)
          refine r_iconst C (0 : Int32) dX8_write_59 (by decide) ?_
          exact r_ireturn C X dX8_write_60
        · refine r_bipush C (-7 : Int32) dX8_write_40 (by decide) ?_
          exact r_ireturn C X dX8_write_42
    · refine r_bipush C (-6 : Int32) dX8_write_24 (by decide) ?_
      exact r_ireturn C X dX8_write_26
set_option maxRecDepth 100000 in
set_option maxHeartbeats 4000000 in
theorem p_X9_asksMeasured_L43 {A : AM} {E : EN} {n : Nat} (C : Cx A E cX9_asksMeasured 4 RX9 2 47) (X : Ex A E (some .int))  : ∀ (m : Nat) (S : WS) (h0 : Nat) (x1 : Int32) (x3 : Int32) (th0 : Ty E h0 8), Gd A E 4 (QM A E wI tT) (f_X9_asksMeasured_L43 E n  m S h0 x1 x3) S 43 [(0, .ref h0), (1, .int x1), (3, .int x3)] [] := by
  intro m
  induction m with
  | zero => intros; exact gn
  | succ m ih =>
    intro S h0 x1 x3 th0
    unfold f_X9_asksMeasured_L43
    refine r_iload_n C 2 dX9_asksMeasured_43 rfl ?_
    refine r_aload_n C 0 dX9_asksMeasured_44 rfl ?_
    refine r_getr C fl_X9_65 dX9_asksMeasured_45 th0 (fun b1 tb1 => ?_)
    refine r_iload_n C 1 dX9_asksMeasured_48 rfl ?_
    refine r_iald C dX9_asksMeasured_49 tb1 ?_
    refine r_icmp_ge C 90 dX9_asksMeasured_50 (by decide) ?_ ?_
    · refine r_iconst C (0 : Int32) dX9_asksMeasured_90 (by decide) ?_
      exact r_ireturn C X dX9_asksMeasured_91
    · refine r_aload_n C 0 dX9_asksMeasured_53 rfl ?_
      refine r_aload_n C 0 dX9_asksMeasured_54 rfl ?_
      refine r_iload_n C 1 dX9_asksMeasured_55 rfl ?_
      refine r_iload_n C 2 dX9_asksMeasured_56 rfl ?_
      refine r_callV (As := [.int x1, .int x3]) (rest := [.ref h0]) C (c_X9_numberAt _ E n h0 x1 x3 th0) dX9_asksMeasured_57 ml_X9_423 mv_X9_numberAt ⟨TX9, _, rfl⟩ (by decide) th0 rfl rfl ⟨by decide, by decide⟩ (Nat.le_of_ble_eq_true rfl) (fun v3 S2 hv3 => ?_)
      refine r_callV (As := [.long v3]) (rest := []) C (c_X9_isPath _ E n h0 v3 th0) dX9_asksMeasured_60 ml_X9_266 mv_X9_isPath ⟨TX9, _, rfl⟩ (by decide) th0 rfl rfl ⟨by decide, by decide⟩ (Nat.le_of_ble_eq_true rfl) (fun v5 S4 hv5 => ?_)
      refine r_if_eq C 81 dX9_asksMeasured_63 (by decide) ?_ ?_
      · refine r_bipush C (-2 : Int32) dX9_asksMeasured_81 (by decide) ?_
        exact r_ireturn C X dX9_asksMeasured_83
      · refine r_aload_n C 0 dX9_asksMeasured_66 rfl ?_
        refine r_aload_n C 0 dX9_asksMeasured_67 rfl ?_
        refine r_iload_n C 1 dX9_asksMeasured_68 rfl ?_
        refine r_iload_n C 2 dX9_asksMeasured_69 rfl ?_
        refine r_iconst C (1 : Int32) dX9_asksMeasured_70 (by decide) ?_
        refine r_iadd C dX9_asksMeasured_71 ?_
        refine r_callV (As := [.int x1, .int (x3 + (1 : Int32))]) (rest := [.ref h0]) C (c_X9_numberAt _ E n h0 x1 (x3 + (1 : Int32)) th0) dX9_asksMeasured_72 ml_X9_423 mv_X9_numberAt ⟨TX9, _, rfl⟩ (by decide) th0 rfl rfl ⟨by decide, by decide⟩ (Nat.le_of_ble_eq_true rfl) (fun v7 S6 hv7 => ?_)
        refine r_callV (As := [.long v7]) (rest := []) C (c_X9_isYear _ E n h0 v7 th0) dX9_asksMeasured_75 ml_X9_292 mv_X9_isYear ⟨TX9, _, rfl⟩ (by decide) th0 rfl rfl ⟨by decide, by decide⟩ (Nat.le_of_ble_eq_true rfl) (fun v9 S8 hv9 => ?_)
        refine r_if_ne C 84 dX9_asksMeasured_78 (by decide) ?_ ?_
        · refine r_iinc C 2 (fun y10 => [(3, .int y10), (0, .ref h0), (1, .int x1)]) dX9_asksMeasured_84 rfl (v := (3 : Int32)) (by decide) (by decide) (fun _ => rfl) (fun y10 => ?_)
          refine r_goto C 43 dX9_asksMeasured_87 (by decide) ?_
          refine r_sub [1, 2, 0] [(0, .ref h0), (1, .int x1), (3, .int y10)] rfl ?_
          exact ih S8 h0 x1 y10 th0
        · refine r_bipush C (-2 : Int32) dX9_asksMeasured_81 (by decide) ?_
          exact r_ireturn C X dX9_asksMeasured_83
set_option maxRecDepth 100000 in
set_option maxHeartbeats 4000000 in
theorem c_X9_asksMeasured (l : Launch) (E : EN) (n : Nat) (h0 : Nat) (x1 : Int32) (x2 : Int32) (th0 : Ty E h0 8) : CT l E yX9_asksMeasured cX9_asksMeasured 4 (some .int) 2 47 wI tT [.ref h0, .int x1, .int x2] (fun S => f_X9_asksMeasured E n S h0 x1 x2) := by
  refine ct_of RX9 (by decide +kernel) rfl [(0, .ref h0), (1, .int x1), (2, .int x2)] rfl (Nat.le_of_ble_eq_true rfl) (fun A S hA C X => ?_)
  subst hA
  show Gd A E 4 (QM A E wI tT) (f_X9_asksMeasured E n S h0 x1 x2) S 0 [(0, .ref h0), (1, .int x1), (2, .int x2)] []
  unfold f_X9_asksMeasured
  refine r_iload_n C 1 dX9_asksMeasured_0 rfl ?_
  refine r_callS (As := [.int x1]) (rest := []) C (c_X9_isSlot _ E n x1 ) dX9_asksMeasured_1 ml_X9_420 mv_X9_isSlot rfl rfl ⟨by decide, by decide⟩ (Nat.le_of_ble_eq_true rfl) (fun v2 S1 hv2 => ?_)
  refine r_if_eq C 11 dX9_asksMeasured_4 (by decide) ?_ ?_
  · refine r_bipush C (-2 : Int32) dX9_asksMeasured_11 (by decide) ?_
    exact r_ireturn C X dX9_asksMeasured_13
  · refine r_iload_n C 2 dX9_asksMeasured_7 rfl ?_
    refine r_if_ne C 14 dX9_asksMeasured_8 (by decide) ?_ ?_
    · refine r_aload_n C 0 dX9_asksMeasured_14 rfl ?_
      refine r_getr C fl_X9_65 dX9_asksMeasured_15 th0 (fun b3 tb3 => ?_)
      refine r_iload_n C 1 dX9_asksMeasured_18 rfl ?_
      refine r_iald C dX9_asksMeasured_19 tb3 ?_
      refine r_iconst C (-1 : Int32) dX9_asksMeasured_20 (by decide) ?_
      refine r_icmp_ne C 27 dX9_asksMeasured_21 (by decide) ?_ ?_
      · refine r_aload_n C 0 dX9_asksMeasured_27 rfl ?_
        refine r_getr C fl_X9_65 dX9_asksMeasured_28 th0 (fun b4 tb4 => ?_)
        refine r_iload_n C 1 dX9_asksMeasured_31 rfl ?_
        refine r_iald C dX9_asksMeasured_32 tb4 ?_
        refine r_iconst C (3 : Int32) dX9_asksMeasured_33 (by decide) ?_
        refine r_irem C dX9_asksMeasured_34 ?_
        refine r_if_eq C 41 dX9_asksMeasured_35 (by decide) ?_ ?_
        · refine r_iconst C (0 : Int32) dX9_asksMeasured_41 (by decide) ?_
          refine r_istore_n C [(3, .int (0 : Int32)), (0, .ref h0), (1, .int x1), (2, .int x2)] dX9_asksMeasured_42 (by decide) rfl ?_
          refine r_sub [1, 2, 0] [(0, .ref h0), (1, .int x1), (3, .int (0 : Int32))] rfl ?_
          exact p_X9_asksMeasured_L43 C X  n S1 h0 x1 (0 : Int32) th0
        · refine r_bipush C (-2 : Int32) dX9_asksMeasured_38 (by decide) ?_
          exact r_ireturn C X dX9_asksMeasured_40
      · refine r_bipush C (-6 : Int32) dX9_asksMeasured_24 (by decide) ?_
        exact r_ireturn C X dX9_asksMeasured_26
    · refine r_bipush C (-2 : Int32) dX9_asksMeasured_11 (by decide) ?_
      exact r_ireturn C X dX9_asksMeasured_13
set_option maxRecDepth 100000 in
set_option maxHeartbeats 4000000 in
theorem c_X9_agree (l : Launch) (E : EN) (n : Nat) (h0 : Nat) (x1 : Int32) (th0 : Ty E h0 8) : CT l E yX9_agree cX9_agree 3 (some .int) 7 160 wI tT [.ref h0, .int x1] (fun S => f_X9_agree E n S h0 x1) := by
  refine ct_of RX9 (by decide +kernel) rfl [(0, .ref h0), (1, .int x1)] rfl (Nat.le_of_ble_eq_true rfl) (fun A S hA C X => ?_)
  subst hA
  show Gd A E 3 (QM A E wI tT) (f_X9_agree E n S h0 x1) S 0 [(0, .ref h0), (1, .int x1)] []
  unfold f_X9_agree
  refine r_aload_n C 0 dX9_agree_0 rfl ?_
  refine r_iload_n C 1 dX9_agree_1 rfl ?_
  refine r_aload_n C 0 dX9_agree_2 rfl ?_
  refine r_callV (As := []) (rest := [.int x1, .ref h0]) C (c_X9_isMountain _ E n h0 th0) dX9_agree_3 ml_X9_286 mv_X9_isMountain ⟨TX9, _, rfl⟩ (by decide) th0 rfl rfl ⟨by decide, by decide⟩ (Nat.le_of_ble_eq_true rfl) (fun v2 S1 hv2 => ?_)
  refine r_callV (As := [.int x1, .int v2]) (rest := []) C (c_X9_asksMeasured _ E n h0 x1 v2 th0) dX9_agree_6 ml_X9_433 mv_X9_asksMeasured ⟨TX9, _, rfl⟩ (by decide) th0 rfl rfl ⟨by decide, by decide⟩ (Nat.le_of_ble_eq_true rfl) (fun v4 S3 hv4 => ?_)
  refine r_istore_n C [(2, .int v4), (0, .ref h0), (1, .int x1)] dX9_agree_9 (by decide) rfl ?_
  refine r_iload_n C 0 dX9_agree_10 rfl ?_
  refine r_if_ge C 16 dX9_agree_11 (by decide) ?_ ?_
  · refine r_aload_n C 1 dX9_agree_16 rfl ?_
    refine r_iload_n C 2 dX9_agree_17 rfl ?_
    refine r_callV (As := [.int x1]) (rest := []) C (c_X9_courtingsBy _ E n h0 x1 th0) dX9_agree_18 ml_X9_437 mv_X9_courtingsBy ⟨TX9, _, rfl⟩ (by decide) th0 rfl rfl ⟨by decide, by decide⟩ (Nat.le_of_ble_eq_true rfl) (fun v6 S5 hv6 => ?_)
    refine r_aload_n C 1 dX9_agree_21 rfl ?_
    refine r_geti C fl_X9_385 dX9_agree_22 th0 ?_
    exact r_ireturn C X dX9_agree_25
  · refine r_iload_n C 0 dX9_agree_14 rfl ?_
    exact r_ireturn C X dX9_agree_15
set_option maxRecDepth 100000 in
set_option maxHeartbeats 4000000 in
theorem c_X9_sure (l : Launch) (E : EN) (n : Nat) (h0 : Nat) (x1 : Int32) (x2 : Int32) (th0 : Ty E h0 8) : CT l E yX9_sure cX9_sure 4 (some .int) 7 160 wI tT [.ref h0, .int x1, .int x2] (fun S => f_X9_sure E n S h0 x1 x2) := by
  refine ct_of RX9 (by decide +kernel) rfl [(0, .ref h0), (1, .int x1), (2, .int x2)] rfl (Nat.le_of_ble_eq_true rfl) (fun A S hA C X => ?_)
  subst hA
  show Gd A E 4 (QM A E wI tT) (f_X9_sure E n S h0 x1 x2) S 0 [(0, .ref h0), (1, .int x1), (2, .int x2)] []
  unfold f_X9_sure
  refine r_aload_n C 0 dX9_sure_0 rfl ?_
  refine r_iload_n C 1 dX9_sure_1 rfl ?_
  refine r_aload_n C 0 dX9_sure_2 rfl ?_
  refine r_iload_n C 2 dX9_sure_3 rfl ?_
  refine r_callV (As := [.int x2]) (rest := [.int x1, .ref h0]) C (c_X9_isSuitor _ E n h0 x2 th0) dX9_sure_4 ml_X9_270 mv_X9_isSuitor ⟨TX9, _, rfl⟩ (by decide) th0 rfl rfl ⟨by decide, by decide⟩ (Nat.le_of_ble_eq_true rfl) (fun v2 S1 hv2 => ?_)
  refine r_callV (As := [.int x1, .int v2]) (rest := []) C (c_X9_asksMeasured _ E n h0 x1 v2 th0) dX9_sure_7 ml_X9_433 mv_X9_asksMeasured ⟨TX9, _, rfl⟩ (by decide) th0 rfl rfl ⟨by decide, by decide⟩ (Nat.le_of_ble_eq_true rfl) (fun v4 S3 hv4 => ?_)
  refine r_istore_n C [(3, .int v4), (0, .ref h0), (1, .int x1), (2, .int x2)] dX9_sure_10 (by decide) rfl ?_
  refine r_iload_n C 0 dX9_sure_11 rfl ?_
  refine r_if_ge C 17 dX9_sure_12 (by decide) ?_ ?_
  · refine r_aload_n C 1 dX9_sure_17 rfl ?_
    refine r_iload_n C 2 dX9_sure_18 rfl ?_
    refine r_callV (As := [.int x1]) (rest := []) C (c_X9_courtingsBy _ E n h0 x1 th0) dX9_sure_19 ml_X9_437 mv_X9_courtingsBy ⟨TX9, _, rfl⟩ (by decide) th0 rfl rfl ⟨by decide, by decide⟩ (Nat.le_of_ble_eq_true rfl) (fun v6 S5 hv6 => ?_)
    refine r_aload_n C 1 dX9_sure_22 rfl ?_
    refine r_geti C fl_X9_385 dX9_sure_23 th0 ?_
    refine r_if_eq C 40 dX9_sure_26 (by decide) ?_ ?_
    · refine r_iconst C (-1 : Int32) dX9_sure_40 (by decide) ?_
      exact r_ireturn C X dX9_sure_41
    · refine r_aload_n C 1 dX9_sure_29 rfl ?_
      refine r_getr C fl_X9_59 dX9_sure_30 th0 (fun b7 tb7 => ?_)
      refine r_iload_n C 3 dX9_sure_33 rfl ?_
      refine r_iald C dX9_sure_34 tb7 ?_
      refine r_bipush C (-2 : Int32) dX9_sure_35 (by decide) ?_
      refine r_icmp_ne C 42 dX9_sure_37 (by decide) ?_ ?_
      · refine r_aload_n C 1 dX9_sure_42 rfl ?_
        refine r_getr C fl_X9_59 dX9_sure_43 th0 (fun b8 tb8 => ?_)
        refine r_iload_n C 3 dX9_sure_46 rfl ?_
        refine r_iald C dX9_sure_47 tb8 ?_
        refine r_iconst C (-1 : Int32) dX9_sure_48 (by decide) ?_
        refine r_icmp_ne C 57 dX9_sure_49 (by decide) ?_ ?_
        · refine r_aload_n C 1 dX9_sure_57 rfl ?_
          refine r_getr C fl_X9_59 dX9_sure_58 th0 (fun b9 tb9 => ?_)
          refine r_iload_n C 3 dX9_sure_61 rfl ?_
          refine r_iald C dX9_sure_62 tb9 ?_
          exact r_ireturn C X dX9_sure_63
        · refine r_bipush C (9 : Int32) dX9_sure_52 (by decide) ?_
          refine r_goto C 63 dX9_sure_54 (by decide) ?_
          exact r_ireturn C X dX9_sure_63
      · refine r_iconst C (-1 : Int32) dX9_sure_40 (by decide) ?_
        exact r_ireturn C X dX9_sure_41
  · refine r_iload_n C 0 dX9_sure_15 rfl ?_
    exact r_ireturn C X dX9_sure_16
set_option maxRecDepth 100000 in
set_option maxHeartbeats 4000000 in
theorem c_X9_kindly (l : Launch) (E : EN) (n : Nat) (h0 : Nat) (x1 : Int32) (th0 : Ty E h0 8) : CT l E yX9_kindly cX9_kindly 3 (some .int) 7 160 wI tT [.ref h0, .int x1] (fun S => f_X9_kindly E n S h0 x1) := by
  refine ct_of RX9 (by decide +kernel) rfl [(0, .ref h0), (1, .int x1)] rfl (Nat.le_of_ble_eq_true rfl) (fun A S hA C X => ?_)
  subst hA
  show Gd A E 3 (QM A E wI tT) (f_X9_kindly E n S h0 x1) S 0 [(0, .ref h0), (1, .int x1)] []
  unfold f_X9_kindly
  refine r_aload_n C 0 dX9_kindly_0 rfl ?_
  refine r_iload_n C 1 dX9_kindly_1 rfl ?_
  refine r_aload_n C 0 dX9_kindly_2 rfl ?_
  refine r_callV (As := []) (rest := [.int x1, .ref h0]) C (c_X9_isMountain _ E n h0 th0) dX9_kindly_3 ml_X9_286 mv_X9_isMountain ⟨TX9, _, rfl⟩ (by decide) th0 rfl rfl ⟨by decide, by decide⟩ (Nat.le_of_ble_eq_true rfl) (fun v2 S1 hv2 => ?_)
  refine r_callV (As := [.int x1, .int v2]) (rest := []) C (c_X9_asksMeasured _ E n h0 x1 v2 th0) dX9_kindly_6 ml_X9_433 mv_X9_asksMeasured ⟨TX9, _, rfl⟩ (by decide) th0 rfl rfl ⟨by decide, by decide⟩ (Nat.le_of_ble_eq_true rfl) (fun v4 S3 hv4 => ?_)
  refine r_istore_n C [(2, .int v4), (0, .ref h0), (1, .int x1)] dX9_kindly_9 (by decide) rfl ?_
  refine r_iload_n C 0 dX9_kindly_10 rfl ?_
  refine r_if_ge C 16 dX9_kindly_11 (by decide) ?_ ?_
  · refine r_aload_n C 1 dX9_kindly_16 rfl ?_
    refine r_iload_n C 2 dX9_kindly_17 rfl ?_
    refine r_callV (As := [.int x1]) (rest := []) C (c_X9_courtingsBy _ E n h0 x1 th0) dX9_kindly_18 ml_X9_437 mv_X9_courtingsBy ⟨TX9, _, rfl⟩ (by decide) th0 rfl rfl ⟨by decide, by decide⟩ (Nat.le_of_ble_eq_true rfl) (fun v6 S5 hv6 => ?_)
    refine r_aload_n C 1 dX9_kindly_21 rfl ?_
    refine r_geti C fl_X9_385 dX9_kindly_22 th0 ?_
    refine r_if_ne C 32 dX9_kindly_25 (by decide) ?_ ?_
    · refine r_aload_n C 1 dX9_kindly_32 rfl ?_
      refine r_geti C fl_X9_388 dX9_kindly_33 th0 ?_
      exact r_ireturn C X dX9_kindly_36
    · refine r_iconst C (-1 : Int32) dX9_kindly_28 (by decide) ?_
      refine r_goto C 36 dX9_kindly_29 (by decide) ?_
      exact r_ireturn C X dX9_kindly_36
  · refine r_iload_n C 0 dX9_kindly_14 rfl ?_
    exact r_ireturn C X dX9_kindly_15
set_option maxRecDepth 100000 in
set_option maxHeartbeats 4000000 in
theorem p_X9_odd_L18 {A : AM} {E : EN} {n : Nat} (C : Cx A E cX9_odd 4 RX9 5 117) (X : Ex A E (some .int))  : ∀ (m : Nat) (S : WS) (h0 : Nat) (x1 : Int32) (x3 : Int32) (th0 : Ty E h0 8), Gd A E 4 (QM A E wI tT) (f_X9_odd_L18 E n  m S h0 x1 x3) S 18 [(0, .ref h0), (1, .int x1), (3, .int x3)] [] := by
  intro m
  induction m with
  | zero => intros; exact gn
  | succ m ih =>
    intro S h0 x1 x3 th0
    unfold f_X9_odd_L18
    refine r_iconst C (3 : Int32) dX9_odd_18 (by decide) ?_
    refine r_iload_n C 2 dX9_odd_19 rfl ?_
    refine r_imul C dX9_odd_20 ?_
    refine r_aload_n C 0 dX9_odd_21 rfl ?_
    refine r_getr C fl_X9_65 dX9_odd_22 th0 (fun b1 tb1 => ?_)
    refine r_iload_n C 1 dX9_odd_25 rfl ?_
    refine r_iald C dX9_odd_26 tb1 ?_
    refine r_icmp_ge C 49 dX9_odd_27 (by decide) ?_ ?_
    · refine r_iconst C (-1 : Int32) dX9_odd_49 (by decide) ?_
      exact r_ireturn C X dX9_odd_50
    · refine r_aload_n C 0 dX9_odd_30 rfl ?_
      refine r_iload_n C 1 dX9_odd_31 rfl ?_
      refine r_iconst C (3 : Int32) dX9_odd_32 (by decide) ?_
      refine r_iload_n C 2 dX9_odd_33 rfl ?_
      refine r_imul C dX9_odd_34 ?_
      refine r_callV (As := [.int x1, .int ((3 : Int32) * x3)]) (rest := []) C (c_X9_isSo _ E n h0 x1 ((3 : Int32) * x3) th0) dX9_odd_35 ml_X9_427 mv_X9_isSo ⟨TX9, _, rfl⟩ (by decide) th0 rfl rfl ⟨by decide, by decide⟩ (Nat.le_of_ble_eq_true rfl) (fun v3 S2 hv3 => ?_)
      refine r_if_ne C 43 dX9_odd_38 (by decide) ?_ ?_
      · refine r_iinc C 2 (fun y4 => [(3, .int y4), (0, .ref h0), (1, .int x1)]) dX9_odd_43 rfl (v := (1 : Int32)) (by decide) (by decide) (fun _ => rfl) (fun y4 => ?_)
        refine r_goto C 18 dX9_odd_46 (by decide) ?_
        refine r_sub [1, 2, 0] [(0, .ref h0), (1, .int x1), (3, .int y4)] rfl ?_
        exact ih S2 h0 x1 y4 th0
      · refine r_iload_n C 2 dX9_odd_41 rfl ?_
        exact r_ireturn C X dX9_odd_42
set_option maxRecDepth 100000 in
set_option maxHeartbeats 4000000 in
theorem c_X9_odd (l : Launch) (E : EN) (n : Nat) (h0 : Nat) (x1 : Int32) (th0 : Ty E h0 8) : CT l E yX9_odd cX9_odd 4 (some .int) 5 117 wI tT [.ref h0, .int x1] (fun S => f_X9_odd E n S h0 x1) := by
  refine ct_of RX9 (by decide +kernel) rfl [(0, .ref h0), (1, .int x1)] rfl (Nat.le_of_ble_eq_true rfl) (fun A S hA C X => ?_)
  subst hA
  show Gd A E 4 (QM A E wI tT) (f_X9_odd E n S h0 x1) S 0 [(0, .ref h0), (1, .int x1)] []
  unfold f_X9_odd
  refine r_aload_n C 0 dX9_odd_0 rfl ?_
  refine r_iload_n C 1 dX9_odd_1 rfl ?_
  refine r_aload_n C 0 dX9_odd_2 rfl ?_
  refine r_callV (As := []) (rest := [.int x1, .ref h0]) C (c_X9_isMountain _ E n h0 th0) dX9_odd_3 ml_X9_286 mv_X9_isMountain ⟨TX9, _, rfl⟩ (by decide) th0 rfl rfl ⟨by decide, by decide⟩ (Nat.le_of_ble_eq_true rfl) (fun v2 S1 hv2 => ?_)
  refine r_callV (As := [.int x1, .int v2]) (rest := []) C (c_X9_asksMeasured _ E n h0 x1 v2 th0) dX9_odd_6 ml_X9_433 mv_X9_asksMeasured ⟨TX9, _, rfl⟩ (by decide) th0 rfl rfl ⟨by decide, by decide⟩ (Nat.le_of_ble_eq_true rfl) (fun v4 S3 hv4 => ?_)
  refine r_istore_n C [(2, .int v4), (0, .ref h0), (1, .int x1)] dX9_odd_9 (by decide) rfl ?_
  refine r_iload_n C 0 dX9_odd_10 rfl ?_
  refine r_if_ge C 16 dX9_odd_11 (by decide) ?_ ?_
  · refine r_iconst C (0 : Int32) dX9_odd_16 (by decide) ?_
    refine r_istore_n C [(3, .int (0 : Int32)), (2, .int v4), (0, .ref h0), (1, .int x1)] dX9_odd_17 (by decide) rfl ?_
    refine r_sub [2, 3, 0] [(0, .ref h0), (1, .int x1), (3, .int (0 : Int32))] rfl ?_
    exact p_X9_odd_L18 C X  n S3 h0 x1 (0 : Int32) th0
  · refine r_iload_n C 0 dX9_odd_14 rfl ?_
    exact r_ireturn C X dX9_odd_15
set_option maxRecDepth 100000 in
set_option maxHeartbeats 4000000 in
theorem c_X0_judge (l : Launch) (E : EN) (n : Nat) (h0 : Nat) (x1 : Int64) (x3 : Int64) (th0 : Ty E h0 0) : CT l E yX0_judge cX0_judge 5 (some .int) 2 53 wI tT [.ref h0, .long x1, .long x3] (fun S => f_X0_judge E n S h0 x1 x3) := by
  refine ct_of RX0 (by decide +kernel) rfl [(0, .ref h0), (1, .long x1), (3, .long x3)] rfl (Nat.le_of_ble_eq_true rfl) (fun A S hA C X => ?_)
  subst hA
  show Gd A E 5 (QM A E wI tT) (f_X0_judge E n S h0 x1 x3) S 0 [(0, .ref h0), (1, .long x1), (3, .long x3)] []
  unfold f_X0_judge
  refine r_aload_n C 0 dX0_judge_0 rfl ?_
  refine r_lload_n C 1 dX0_judge_1 rfl ?_
  refine r_callV (As := [.long x1]) (rest := []) C (c_X0_allCome _ E n h0 x1 th0) dX0_judge_2 ml_X0_67 mv_X0_allCome ⟨TX0, _, rfl⟩ (by decide) th0 rfl rfl ⟨by decide, by decide⟩ (Nat.le_of_ble_eq_true rfl) (fun v2 S1 hv2 => ?_)
  refine r_if_eq C 10 dX0_judge_5 (by decide) ?_ ?_
  · refine r_aload_n C 0 dX0_judge_10 rfl ?_
    refine r_lload_n C 2 dX0_judge_11 rfl ?_
    refine r_callV (As := [.long x3]) (rest := []) C (c_X0_allCome _ E n h0 x3 th0) dX0_judge_12 ml_X0_67 mv_X0_allCome ⟨TX0, _, rfl⟩ (by decide) th0 rfl rfl ⟨by decide, by decide⟩ (Nat.le_of_ble_eq_true rfl) (fun v4 S3 hv4 => ?_)
    refine r_if_eq C 22 dX0_judge_15 (by decide) ?_ ?_
    · refine r_iconst C (0 : Int32) dX0_judge_22 (by decide) ?_
      exact r_ireturn C X dX0_judge_23
    · refine r_iconst C (2 : Int32) dX0_judge_18 (by decide) ?_
      refine r_goto C 23 dX0_judge_19 (by decide) ?_
      exact r_ireturn C X dX0_judge_23
  · refine r_iconst C (1 : Int32) dX0_judge_8 (by decide) ?_
    exact r_ireturn C X dX0_judge_9
set_option maxRecDepth 100000 in
set_option maxHeartbeats 4000000 in
theorem c_X4_readLine (l : Launch) (E : EN) (n : Nat) (h0 : Nat) (h1 : Nat) (th0 : Ty E h0 3) (th1 : Ty E h1 2) : CT l E yX4_readLine cX4_readLine 2 (some .boolean) 7 152 wI tT [.ref h0, .ref h1] (fun S => f_X4_readLine E n S h0 h1) := by
  refine ct_of RX4 (by decide +kernel) rfl [(0, .ref h0), (1, .ref h1)] rfl (Nat.le_of_ble_eq_true rfl) (fun A S hA C X => ?_)
  subst hA
  show Gd A E 2 (QM A E wI tT) (f_X4_readLine E n S h0 h1) S 0 [(0, .ref h0), (1, .ref h1)] []
  unfold f_X4_readLine
  refine r_aload_n C 0 dX4_readLine_0 rfl ?_
  refine r_ldcS C (tx := "mountain") 0 (List.mem_of_getElem? (i := 0) rfl) dX4_readLine_1 ?_
  refine r_callV (As := [.ref (eSK E 0)]) (rest := []) C (c_X4_isWord _ E n h0 0 th0 (by decide)) dX4_readLine_3 ml_X4_79 mv_X4_isWord ⟨TX4, _, rfl⟩ (by decide) th0 rfl rfl ⟨by decide, by decide⟩ (Nat.le_of_ble_eq_true rfl) (fun v2 S1 hv2 => ?_)
  refine r_if_eq C 30 dX4_readLine_6 (by decide) ?_ ?_
  · refine r_aload_n C 1 dX4_readLine_30 rfl ?_
    refine r_geti C fl_X4_59 dX4_readLine_31 th1 ?_
    refine r_if_ne C 43 dX4_readLine_34 (by decide) ?_ ?_
    · refine r_aload_n C 0 dX4_readLine_43 rfl ?_
      refine r_ldcS C (tx := "height") 3 (List.mem_of_getElem? (i := 3) rfl) dX4_readLine_44 ?_
      refine r_callV (As := [.ref (eSK E 3)]) (rest := []) C (c_X4_isWord _ E n h0 3 th0 (by decide)) dX4_readLine_46 ml_X4_79 mv_X4_isWord ⟨TX4, _, rfl⟩ (by decide) th0 rfl rfl ⟨by decide, by decide⟩ (Nat.le_of_ble_eq_true rfl) (fun v4 S3 hv4 => ?_)
      refine r_if_eq C 58 dX4_readLine_49 (by decide) ?_ ?_
      · refine r_aload_n C 0 dX4_readLine_58 rfl ?_
        refine r_ldcS C (tx := "path") 4 (List.mem_of_getElem? (i := 4) rfl) dX4_readLine_59 ?_
        refine r_callV (As := [.ref (eSK E 4)]) (rest := []) C (c_X4_isWord _ E n h0 4 th0 (by decide)) dX4_readLine_61 ml_X4_79 mv_X4_isWord ⟨TX4, _, rfl⟩ (by decide) th0 rfl rfl ⟨by decide, by decide⟩ (Nat.le_of_ble_eq_true rfl) (fun v6 S5 hv6 => ?_)
        refine r_if_eq C 90 dX4_readLine_64 (by decide) ?_ ?_
        · refine r_aload_n C 0 dX4_readLine_90 rfl ?_
          refine r_ldcS C (tx := "bride") 6 (List.mem_of_getElem? (i := 6) rfl) dX4_readLine_91 ?_
          refine r_callV (As := [.ref (eSK E 6)]) (rest := []) C (c_X4_isWord _ E n h0 6 th0 (by decide)) dX4_readLine_93 ml_X4_79 mv_X4_isWord ⟨TX4, _, rfl⟩ (by decide) th0 rfl rfl ⟨by decide, by decide⟩ (Nat.le_of_ble_eq_true rfl) (fun v8 S7 hv8 => ?_)
          refine r_if_eq C 121 dX4_readLine_96 (by decide) ?_ ?_
          · refine r_aload_n C 0 dX4_readLine_121 rfl ?_
            refine r_ldcS C (tx := "suitor") 8 (List.mem_of_getElem? (i := 8) rfl) dX4_readLine_122 ?_
            refine r_callV (As := [.ref (eSK E 8)]) (rest := []) C (c_X4_isWord _ E n h0 8 th0 (by decide)) dX4_readLine_124 ml_X4_79 mv_X4_isWord ⟨TX4, _, rfl⟩ (by decide) th0 rfl rfl ⟨by decide, by decide⟩ (Nat.le_of_ble_eq_true rfl) (fun v10 S9 hv10 => ?_)
            refine r_if_eq C 153 dX4_readLine_127 (by decide) ?_ ?_
            · refine r_aload_n C 0 dX4_readLine_153 rfl ?_
              refine r_ldcS C (tx := "rain") 12 (List.mem_of_getElem? (i := 12) rfl) dX4_readLine_154 ?_
              refine r_callV (As := [.ref (eSK E 12)]) (rest := []) C (c_X4_isWord _ E n h0 12 th0 (by decide)) dX4_readLine_156 ml_X4_79 mv_X4_isWord ⟨TX4, _, rfl⟩ (by decide) th0 rfl rfl ⟨by decide, by decide⟩ (Nat.le_of_ble_eq_true rfl) (fun v12 S11 hv12 => ?_)
              refine r_if_eq C 168 dX4_readLine_159 (by decide) ?_ ?_
              · refine r_aload_n C 0 dX4_readLine_168 rfl ?_
                refine r_ldcS C (tx := "walker") 14 (List.mem_of_getElem? (i := 14) rfl) dX4_readLine_169 ?_
                refine r_callV (As := [.ref (eSK E 14)]) (rest := []) C (c_X4_isWord _ E n h0 14 th0 (by decide)) dX4_readLine_171 ml_X4_79 mv_X4_isWord ⟨TX4, _, rfl⟩ (by decide) th0 rfl rfl ⟨by decide, by decide⟩ (Nat.le_of_ble_eq_true rfl) (fun v14 S13 hv14 => ?_)
                refine r_if_eq C 199 dX4_readLine_174 (by decide) ?_ ?_
                · refine r_aload_n C 0 dX4_readLine_199 rfl ?_
                  refine r_ldcS C (tx := "court") 17 (List.mem_of_getElem? (i := 17) rfl) dX4_readLine_200 ?_
                  refine r_callV (As := [.ref (eSK E 17)]) (rest := []) C (c_X4_isWord _ E n h0 17 th0 (by decide)) dX4_readLine_202 ml_X4_79 mv_X4_isWord ⟨TX4, _, rfl⟩ (by decide) th0 rfl rfl ⟨by decide, by decide⟩ (Nat.le_of_ble_eq_true rfl) (fun v16 S15 hv16 => ?_)
                  refine r_if_eq C 216 dX4_readLine_205 (by decide) ?_ ?_
                  · refine r_aload_n C 0 dX4_readLine_216 rfl ?_
                    refine r_iconst C (1 : Int32) dX4_readLine_217 (by decide) ?_
                    refine r_callV (As := [.int (1 : Int32)]) (rest := []) C (c_X4_failHere _ E n h0 (1 : Int32) th0) dX4_readLine_218 ml_X4_75 mv_X4_failHere ⟨TX4, _, rfl⟩ (by decide) th0 rfl rfl ⟨by decide, by decide⟩ (Nat.le_of_ble_eq_true rfl) (fun v18 S17 hv18 => ?_)
                    exact r_zreturnc C X dX4_readLine_221
                  · refine r_aload_n C 0 dX4_readLine_208 rfl ?_
                    refine r_aload_n C 1 dX4_readLine_209 rfl ?_
                    refine r_callV (As := [.ref h1]) (rest := []) C (c_X4_readCourt _ E n h0 h1 th0 th1) dX4_readLine_210 ml_X4_132 mv_X4_readCourt ⟨TX4, _, rfl⟩ (by decide) th0 rfl rfl ⟨by decide, by decide⟩ (Nat.le_of_ble_eq_true rfl) (fun v20 S19 hv20 => ?_)
                    refine r_goto C 221 dX4_readLine_213 (by decide) ?_
                    exact r_zreturnc C X dX4_readLine_221
                · refine r_aload_n C 1 dX4_readLine_177 rfl ?_
                  refine r_geti C fl_X4_124 dX4_readLine_178 th1 ?_
                  refine r_iconst C (4 : Int32) dX4_readLine_181 (by decide) ?_
                  refine r_icmp_ge C 193 dX4_readLine_182 (by decide) ?_ ?_
                  · refine r_aload_n C 0 dX4_readLine_193 rfl ?_
                    refine r_iconst C (3 : Int32) dX4_readLine_194 (by decide) ?_
                    refine r_callV (As := [.int (3 : Int32)]) (rest := []) C (c_X4_failHere _ E n h0 (3 : Int32) th0) dX4_readLine_195 ml_X4_75 mv_X4_failHere ⟨TX4, _, rfl⟩ (by decide) th0 rfl rfl ⟨by decide, by decide⟩ (Nat.le_of_ble_eq_true rfl) (fun v22 S21 hv22 => ?_)
                    exact r_zreturnc C X dX4_readLine_198
                  · refine r_aload_n C 0 dX4_readLine_185 rfl ?_
                    refine r_aload_n C 1 dX4_readLine_186 rfl ?_
                    refine r_callV (As := [.ref h1]) (rest := []) C (c_X4_readWalker _ E n h0 h1 th0 th1) dX4_readLine_187 ml_X4_127 mv_X4_readWalker ⟨TX4, _, rfl⟩ (by decide) th0 rfl rfl ⟨by decide, by decide⟩ (Nat.le_of_ble_eq_true rfl) (fun v24 S23 hv24 => ?_)
                    refine r_goto C 198 dX4_readLine_190 (by decide) ?_
                    exact r_zreturnc C X dX4_readLine_198
              · refine r_aload_n C 0 dX4_readLine_162 rfl ?_
                refine r_aload_n C 1 dX4_readLine_163 rfl ?_
                refine r_callV (As := [.ref h1]) (rest := []) C (c_X4_readRain _ E n h0 h1 th0 th1) dX4_readLine_164 ml_X4_119 mv_X4_readRain ⟨TX4, _, rfl⟩ (by decide) th0 rfl rfl ⟨by decide, by decide⟩ (Nat.le_of_ble_eq_true rfl) (fun v26 S25 hv26 => ?_)
                exact r_zreturnc C X dX4_readLine_167
            · refine r_aload_n C 1 dX4_readLine_130 rfl ?_
              refine r_geti C fl_X4_111 dX4_readLine_131 th1 ?_
              refine r_bipush C (7 : Int32) dX4_readLine_134 (by decide) ?_
              refine r_icmp_ge C 147 dX4_readLine_136 (by decide) ?_ ?_
              · refine r_aload_n C 0 dX4_readLine_147 rfl ?_
                refine r_iconst C (3 : Int32) dX4_readLine_148 (by decide) ?_
                refine r_callV (As := [.int (3 : Int32)]) (rest := []) C (c_X4_failHere _ E n h0 (3 : Int32) th0) dX4_readLine_149 ml_X4_75 mv_X4_failHere ⟨TX4, _, rfl⟩ (by decide) th0 rfl rfl ⟨by decide, by decide⟩ (Nat.le_of_ble_eq_true rfl) (fun v28 S27 hv28 => ?_)
                exact r_zreturnc C X dX4_readLine_152
              · refine r_aload_n C 0 dX4_readLine_139 rfl ?_
                refine r_aload_n C 1 dX4_readLine_140 rfl ?_
                refine r_callV (As := [.ref h1]) (rest := []) C (c_X4_readSuitor _ E n h0 h1 th0 th1) dX4_readLine_141 ml_X4_114 mv_X4_readSuitor ⟨TX4, _, rfl⟩ (by decide) th0 rfl rfl ⟨by decide, by decide⟩ (Nat.le_of_ble_eq_true rfl) (fun v30 S29 hv30 => ?_)
                refine r_goto C 152 dX4_readLine_144 (by decide) ?_
                exact r_zreturnc C X dX4_readLine_152
          · refine r_aload_n C 1 dX4_readLine_99 rfl ?_
            refine r_geti C fl_X4_103 dX4_readLine_100 th1 ?_
            refine r_iconst C (4 : Int32) dX4_readLine_103 (by decide) ?_
            refine r_icmp_ge C 115 dX4_readLine_104 (by decide) ?_ ?_
            · refine r_aload_n C 0 dX4_readLine_115 rfl ?_
              refine r_iconst C (3 : Int32) dX4_readLine_116 (by decide) ?_
              refine r_callV (As := [.int (3 : Int32)]) (rest := []) C (c_X4_failHere _ E n h0 (3 : Int32) th0) dX4_readLine_117 ml_X4_75 mv_X4_failHere ⟨TX4, _, rfl⟩ (by decide) th0 rfl rfl ⟨by decide, by decide⟩ (Nat.le_of_ble_eq_true rfl) (fun v32 S31 hv32 => ?_)
              exact r_zreturnc C X dX4_readLine_120
            · refine r_aload_n C 0 dX4_readLine_107 rfl ?_
              refine r_aload_n C 1 dX4_readLine_108 rfl ?_
              refine r_callV (As := [.ref h1]) (rest := []) C (c_X4_readBride _ E n h0 h1 th0 th1) dX4_readLine_109 ml_X4_106 mv_X4_readBride ⟨TX4, _, rfl⟩ (by decide) th0 rfl rfl ⟨by decide, by decide⟩ (Nat.le_of_ble_eq_true rfl) (fun v34 S33 hv34 => ?_)
              refine r_goto C 120 dX4_readLine_112 (by decide) ?_
              exact r_zreturnc C X dX4_readLine_120
        · refine r_aload_n C 1 dX4_readLine_67 rfl ?_
          refine r_geti C fl_X4_95 dX4_readLine_68 th1 ?_
          refine r_bipush C (10 : Int32) dX4_readLine_71 (by decide) ?_
          refine r_icmp_ge C 84 dX4_readLine_73 (by decide) ?_ ?_
          · refine r_aload_n C 0 dX4_readLine_84 rfl ?_
            refine r_iconst C (3 : Int32) dX4_readLine_85 (by decide) ?_
            refine r_callV (As := [.int (3 : Int32)]) (rest := []) C (c_X4_failHere _ E n h0 (3 : Int32) th0) dX4_readLine_86 ml_X4_75 mv_X4_failHere ⟨TX4, _, rfl⟩ (by decide) th0 rfl rfl ⟨by decide, by decide⟩ (Nat.le_of_ble_eq_true rfl) (fun v36 S35 hv36 => ?_)
            exact r_zreturnc C X dX4_readLine_89
          · refine r_aload_n C 0 dX4_readLine_76 rfl ?_
            refine r_aload_n C 1 dX4_readLine_77 rfl ?_
            refine r_callV (As := [.ref h1]) (rest := []) C (c_X4_readPath _ E n h0 h1 th0 th1) dX4_readLine_78 ml_X4_98 mv_X4_readPath ⟨TX4, _, rfl⟩ (by decide) th0 rfl rfl ⟨by decide, by decide⟩ (Nat.le_of_ble_eq_true rfl) (fun v38 S37 hv38 => ?_)
            refine r_goto C 89 dX4_readLine_81 (by decide) ?_
            exact r_zreturnc C X dX4_readLine_89
      · refine r_aload_n C 0 dX4_readLine_52 rfl ?_
        refine r_aload_n C 1 dX4_readLine_53 rfl ?_
        refine r_callV (As := [.ref h1]) (rest := []) C (c_X4_readHeight _ E n h0 h1 th0 th1) dX4_readLine_54 ml_X4_90 mv_X4_readHeight ⟨TX4, _, rfl⟩ (by decide) th0 rfl rfl ⟨by decide, by decide⟩ (Nat.le_of_ble_eq_true rfl) (fun v40 S39 hv40 => ?_)
        exact r_zreturnc C X dX4_readLine_57
    · refine r_aload_n C 0 dX4_readLine_37 rfl ?_
      refine r_iconst C (1 : Int32) dX4_readLine_38 (by decide) ?_
      refine r_callV (As := [.int (1 : Int32)]) (rest := []) C (c_X4_failHere _ E n h0 (1 : Int32) th0) dX4_readLine_39 ml_X4_75 mv_X4_failHere ⟨TX4, _, rfl⟩ (by decide) th0 rfl rfl ⟨by decide, by decide⟩ (Nat.le_of_ble_eq_true rfl) (fun v42 S41 hv42 => ?_)
      exact r_zreturnc C X dX4_readLine_42
  · refine r_aload_n C 1 dX4_readLine_9 rfl ?_
    refine r_geti C fl_X4_59 dX4_readLine_10 th1 ?_
    refine r_if_ne C 24 dX4_readLine_13 (by decide) ?_ ?_
    · refine r_aload_n C 0 dX4_readLine_24 rfl ?_
      refine r_iconst C (1 : Int32) dX4_readLine_25 (by decide) ?_
      refine r_callV (As := [.int (1 : Int32)]) (rest := []) C (c_X4_failHere _ E n h0 (1 : Int32) th0) dX4_readLine_26 ml_X4_75 mv_X4_failHere ⟨TX4, _, rfl⟩ (by decide) th0 rfl rfl ⟨by decide, by decide⟩ (Nat.le_of_ble_eq_true rfl) (fun v44 S43 hv44 => ?_)
      exact r_zreturnc C X dX4_readLine_29
    · refine r_aload_n C 0 dX4_readLine_16 rfl ?_
      refine r_aload_n C 1 dX4_readLine_17 rfl ?_
      refine r_callV (As := [.ref h1]) (rest := []) C (c_X4_readMountain _ E n h0 h1 th0 th1) dX4_readLine_18 ml_X4_85 mv_X4_readMountain ⟨TX4, _, rfl⟩ (by decide) th0 rfl rfl ⟨by decide, by decide⟩ (Nat.le_of_ble_eq_true rfl) (fun v46 S45 hv46 => ?_)
      refine r_goto C 29 dX4_readLine_21 (by decide) ?_
      exact r_zreturnc C X dX4_readLine_29
set_option maxRecDepth 100000 in
set_option maxHeartbeats 4000000 in
theorem p_X7_goOn_L42 {A : AM} {E : EN} {n : Nat} {d : Nat} (C : Cx A E cX7_goOn 9 RX7 (d + 1 + 5) (40 * (d + 1) + 156)) (X : Ex A E none) (rc : WS → Nat → Int32 → Int32 → Int32 → Int64 → Option (Unit × WS)) (hrc : ∀ (h0 : Nat) (x1 : Int32) (x2 : Int32) (x3 : Int32) (x4 : Int64) (_ : Ty E h0 6), CT (aml A) E yX7_goOn cX7_goOn 9 none (d + 5) (40 * d + 156) wV tT [.ref h0, .int x1, .int x2, .int x3, .long x4] (fun S => rc S h0 x1 x2 x3 x4))  : ∀ (m : Nat) (S : WS) (h0 : Nat) (x1 : Int32) (x2 : Int32) (x4 : Int64) (x6 : Int32) (x7 : Int32) (th0 : Ty E h0 6), Gd A E 9 (QM A E wV tT) (f_X7_goOn_L42 E n rc  m S h0 x1 x2 x4 x6 x7) S 42 [(0, .ref h0), (1, .int x1), (2, .int x2), (4, .long x4), (6, .int x6), (7, .int x7)] [] := by
  intro m
  induction m with
  | zero => intros; exact gn
  | succ m ih =>
    intro S h0 x1 x2 x4 x6 x7 th0
    unfold f_X7_goOn_L42
    refine r_iload C 5 dX7_goOn_42 rfl ?_
    refine r_aload_n C 0 dX7_goOn_44 rfl ?_
    refine r_getr C fl_X7_12 dX7_goOn_45 th0 (fun b1 tb1 => ?_)
    refine r_geti C fl_X7_73 dX7_goOn_48 tb1 ?_
    refine r_icmp_ge C 127 dX7_goOn_51 (by decide) ?_ ?_
    · exact r_return C X dX7_goOn_127
    · refine r_iload C 4 dX7_goOn_54 rfl ?_
      refine r_iload C 5 dX7_goOn_56 rfl ?_
      refine r_ishr C dX7_goOn_58 ?_
      refine r_iconst C (1 : Int32) dX7_goOn_59 (by decide) ?_
      refine r_iand C dX7_goOn_60 ?_
      refine r_if_ne C 121 dX7_goOn_61 (by decide) ?_ ?_
      · refine r_iinc C 5 (fun y2 => [(7, .int y2), (0, .ref h0), (1, .int x1), (2, .int x2), (4, .long x4), (6, .int x6)]) dX7_goOn_121 rfl (v := (1 : Int32)) (by decide) (by decide) (fun _ => rfl) (fun y2 => ?_)
        refine r_goto C 42 dX7_goOn_124 (by decide) ?_
        refine r_sub [1, 2, 3, 4, 5, 0] [(0, .ref h0), (1, .int x1), (2, .int x2), (4, .long x4), (6, .int x6), (7, .int y2)] rfl ?_
        exact ih S h0 x1 x2 x4 x6 y2 th0
      · refine r_aload_n C 0 dX7_goOn_64 rfl ?_
        refine r_getr C fl_X7_12 dX7_goOn_65 th0 (fun b3 tb3 => ?_)
        refine r_iload_n C 2 dX7_goOn_68 rfl ?_
        refine r_iload C 5 dX7_goOn_69 rfl ?_
        refine r_callV (As := [.int x2, .int x7]) (rest := []) C (c_X3_pathBetween _ E n b3 x2 x7 tb3) dX7_goOn_71 ml_X7_76 mv_X3_pathBetween ⟨TX3, _, rfl⟩ (by decide) tb3 rfl rfl ⟨by omega, by omega⟩ (Nat.le_of_ble_eq_true rfl) (fun v5 S4 hv5 => ?_)
        refine r_istore C [(8, .int v5), (0, .ref h0), (1, .int x1), (2, .int x2), (4, .long x4), (6, .int x6), (7, .int x7)] dX7_goOn_74 (by decide) rfl ?_
        refine r_iload C 0 dX7_goOn_76 rfl ?_
        refine r_iconst C (-1 : Int32) dX7_goOn_78 (by decide) ?_
        refine r_icmp_eq C 121 dX7_goOn_79 (by decide) ?_ ?_
        · refine r_iinc C 6 (fun y6 => [(7, .int y6), (8, .int v5), (0, .ref h0), (1, .int x1), (2, .int x2), (4, .long x4), (6, .int x6)]) dX7_goOn_121 rfl (v := (1 : Int32)) (by decide) (by decide) (fun _ => rfl) (fun y6 => ?_)
          refine r_goto C 42 dX7_goOn_124 (by decide) ?_
          refine r_sub [2, 3, 4, 5, 6, 0] [(0, .ref h0), (1, .int x1), (2, .int x2), (4, .long x4), (6, .int x6), (7, .int y6)] rfl ?_
          exact ih S4 h0 x1 x2 x4 x6 y6 th0
        · refine r_aload_n C 1 dX7_goOn_82 rfl ?_
          refine r_geti C fl_X7_42 dX7_goOn_83 th0 ?_
          refine r_iload C 0 dX7_goOn_86 rfl ?_
          refine r_ishr C dX7_goOn_88 ?_
          refine r_iconst C (1 : Int32) dX7_goOn_89 (by decide) ?_
          refine r_iand C dX7_goOn_90 ?_
          refine r_iconst C (1 : Int32) dX7_goOn_91 (by decide) ?_
          refine r_icmp_ne C 121 dX7_goOn_92 (by decide) ?_ ?_
          · refine r_iinc C 6 (fun y7 => [(7, .int y7), (8, .int v5), (0, .ref h0), (1, .int x1), (2, .int x2), (4, .long x4), (6, .int x6)]) dX7_goOn_121 rfl (v := (1 : Int32)) (by decide) (by decide) (fun _ => rfl) (fun y7 => ?_)
            refine r_goto C 42 dX7_goOn_124 (by decide) ?_
            refine r_sub [2, 3, 4, 5, 6, 0] [(0, .ref h0), (1, .int x1), (2, .int x2), (4, .long x4), (6, .int x6), (7, .int y7)] rfl ?_
            exact ih S4 h0 x1 x2 x4 x6 y7 th0
          · refine r_aload_n C 1 dX7_goOn_95 rfl ?_
            refine r_iload_n C 2 dX7_goOn_96 rfl ?_
            refine r_iconst C (1 : Int32) dX7_goOn_97 (by decide) ?_
            refine r_iadd C dX7_goOn_98 ?_
            refine r_iload C 6 dX7_goOn_99 rfl ?_
            refine r_iload C 5 dX7_goOn_101 rfl ?_
            refine r_aload_n C 1 dX7_goOn_103 rfl ?_
            refine r_getr C fl_X7_12 dX7_goOn_104 th0 (fun b8 tb8 => ?_)
            refine r_lload C 4 dX7_goOn_107 rfl ?_
            refine r_iload C 0 dX7_goOn_109 rfl ?_
            refine r_aload_n C 1 dX7_goOn_111 rfl ?_
            refine r_geti C fl_X7_32 dX7_goOn_112 th0 ?_
            refine r_callV (As := [.long x4, .int v5, .int (gi S4 386 h0)]) (rest := [.int x6, .int x7, .int (x1 + (1 : Int32)), .ref h0]) C (c_X3_safeAlong _ E n b8 x4 v5 (gi S4 386 h0) tb8) dX7_goOn_115 ml_X7_80 mv_X3_safeAlong ⟨TX3, _, rfl⟩ (by decide) tb8 rfl rfl ⟨by omega, by omega⟩ (Nat.le_of_ble_eq_true rfl) (fun v10 S9 hv10 => ?_)
            refine r_callS (As := [.ref h0, .int (x1 + (1 : Int32)), .int x7, .int x6, .long v10]) (rest := []) C (hrc h0 (x1 + (1 : Int32)) x7 x6 v10 th0) dX7_goOn_118 ml_X7_65 mv_X7_goOn rfl rfl ⟨by omega, by omega⟩ (Nat.le_of_ble_eq_true rfl) (fun v12 S11 hv12 => ?_)
            refine r_iinc C 6 (fun y13 => [(7, .int y13), (8, .int v5), (0, .ref h0), (1, .int x1), (2, .int x2), (4, .long x4), (6, .int x6)]) dX7_goOn_121 rfl (v := (1 : Int32)) (by decide) (by decide) (fun _ => rfl) (fun y13 => ?_)
            refine r_goto C 42 dX7_goOn_124 (by decide) ?_
            refine r_sub [2, 3, 4, 5, 6, 0] [(0, .ref h0), (1, .int x1), (2, .int x2), (4, .long x4), (6, .int x6), (7, .int y13)] rfl ?_
            exact ih S11 h0 x1 x2 x4 x6 y13 th0
set_option maxRecDepth 100000 in
set_option maxHeartbeats 4000000 in
theorem c_X7_goOn (l : Launch) (E : EN) (n : Nat) : ∀ (d : Nat) (h0 : Nat) (x1 : Int32) (x2 : Int32) (x3 : Int32) (x4 : Int64) (th0 : Ty E h0 6), CT l E yX7_goOn cX7_goOn 9 none (d + 5) (40 * d + 156) wV tT [.ref h0, .int x1, .int x2, .int x3, .long x4] (fun S => f_X7_goOn E n d S h0 x1 x2 x3 x4) := by
  intro d
  induction d with
  | zero => intros; intro S x hx; cases hx
  | succ d ih =>
    intro h0 x1 x2 x3 x4 th0
    refine ct_of RX7 (by decide +kernel) rfl [(0, .ref h0), (1, .int x1), (2, .int x2), (3, .int x3), (4, .long x4)] rfl (Nat.le_of_ble_eq_true rfl) (fun A S hA C X => ?_)
    subst hA
    show Gd A E 9 (QM A E wV tT) (f_X7_goOn E n (d + 1) S h0 x1 x2 x3 x4) S 0 [(0, .ref h0), (1, .int x1), (2, .int x2), (3, .int x3), (4, .long x4)] []
    unfold f_X7_goOn
    refine r_iload_n C 1 dX7_goOn_0 rfl ?_
    refine r_bipush C (8 : Int32) dX7_goOn_1 (by decide) ?_
    refine r_icmp_lt C 7 dX7_goOn_3 (by decide) ?_ ?_
    · refine r_aload_n C 0 dX7_goOn_7 rfl ?_
      refine r_getr C fl_X7_18 dX7_goOn_8 th0 (fun b1 tb1 => ?_)
      refine r_iload_n C 1 dX7_goOn_11 rfl ?_
      refine r_iload_n C 2 dX7_goOn_12 rfl ?_
      refine r_iast C dX7_goOn_13 tb1 (fun S2 => ?_)
      refine r_iload_n C 2 dX7_goOn_14 rfl ?_
      refine r_aload_n C 0 dX7_goOn_15 rfl ?_
      refine r_geti C fl_X7_28 dX7_goOn_16 th0 ?_
      refine r_icmp_ne C 32 dX7_goOn_19 (by decide) ?_ ?_
      · refine r_iload_n C 3 dX7_goOn_32 rfl ?_
        refine r_iconst C (1 : Int32) dX7_goOn_33 (by decide) ?_
        refine r_iload_n C 2 dX7_goOn_34 rfl ?_
        refine r_ishl C dX7_goOn_35 ?_
        refine r_ior C dX7_goOn_36 ?_
        refine r_topi (fun y3 => ?_)
        refine r_istore C [(6, .int y3), (0, .ref h0), (1, .int x1), (2, .int x2), (3, .int x3), (4, .long x4)] dX7_goOn_37 (by decide) rfl ?_
        refine r_iconst C (0 : Int32) dX7_goOn_39 (by decide) ?_
        refine r_istore C [(7, .int (0 : Int32)), (6, .int y3), (0, .ref h0), (1, .int x1), (2, .int x2), (3, .int x3), (4, .long x4)] dX7_goOn_40 (by decide) rfl ?_
        refine r_sub [2, 3, 4, 6, 1, 0] [(0, .ref h0), (1, .int x1), (2, .int x2), (4, .long x4), (6, .int y3), (7, .int (0 : Int32))] rfl ?_
        exact p_X7_goOn_L42 C X (f_X7_goOn E n d) ih  n S2 h0 x1 x2 x4 y3 (0 : Int32) th0
      · refine r_aload_n C 0 dX7_goOn_22 rfl ?_
        refine r_iload_n C 1 dX7_goOn_23 rfl ?_
        refine r_iconst C (1 : Int32) dX7_goOn_24 (by decide) ?_
        refine r_iadd C dX7_goOn_25 ?_
        refine r_lload C 4 dX7_goOn_26 rfl ?_
        refine r_callV (As := [.int (x1 + (1 : Int32)), .long x4]) (rest := []) C (c_X7_noteWay _ E n h0 (x1 + (1 : Int32)) x4 th0) dX7_goOn_28 ml_X7_69 mv_X7_noteWay ⟨TX7, _, rfl⟩ (by decide) th0 rfl rfl ⟨by omega, by omega⟩ (Nat.le_of_ble_eq_true rfl) (fun v5 S4 hv5 => ?_)
        exact r_return C X dX7_goOn_31
    · exact r_return C X dX7_goOn_6
set_option maxRecDepth 100000 in
set_option maxHeartbeats 4000000 in
theorem c_X8_safe (l : Launch) (E : EN) (n : Nat) (h0 : Nat) (x1 : Int32) (x2 : Int32) (x3 : Int32) (th0 : Ty E h0 7) : CT l E yX8_safe cX8_safe 4 (some .long) 4 96 wJ tT [.ref h0, .int x1, .int x2, .int x3] (fun S => f_X8_safe E n S h0 x1 x2 x3) := by
  refine ct_of RX8 (by decide +kernel) rfl [(0, .ref h0), (1, .int x1), (2, .int x2), (3, .int x3)] rfl (Nat.le_of_ble_eq_true rfl) (fun A S hA C X => ?_)
  subst hA
  show Gd A E 4 (QM A E wJ tT) (f_X8_safe E n S h0 x1 x2 x3) S 0 [(0, .ref h0), (1, .int x1), (2, .int x2), (3, .int x3)] []
  unfold f_X8_safe
  refine r_aload_n C 0 dX8_safe_0 rfl ?_
  refine r_iload_n C 1 dX8_safe_1 rfl ?_
  refine r_iload_n C 2 dX8_safe_2 rfl ?_
  refine r_callV (As := [.int x1, .int x2]) (rest := []) C (c_X8_knowsPath _ E n h0 x1 x2 th0) dX8_safe_3 ml_X8_167 mv_X8_knowsPath ⟨TX8, _, rfl⟩ (by decide) th0 rfl rfl ⟨by decide, by decide⟩ (Nat.le_of_ble_eq_true rfl) (fun v2 S1 hv2 => ?_)
  refine r_if_eq C 18 dX8_safe_6 (by decide) ?_ ?_
  · refine r_ldc2 C (-2 : Int64) (mG 837 (by decide +kernel) rfl) dX8_safe_18 ?_
    exact r_lreturn C X dX8_safe_21
  · refine r_iload_n C 3 dX8_safe_9 rfl ?_
    refine r_if_lt C 18 dX8_safe_10 (by decide) ?_ ?_
    · refine r_ldc2 C (-2 : Int64) (mG 837 (by decide +kernel) rfl) dX8_safe_18 ?_
      exact r_lreturn C X dX8_safe_21
    · refine r_iload_n C 3 dX8_safe_13 rfl ?_
      refine r_iconst C (1 : Int32) dX8_safe_14 (by decide) ?_
      refine r_icmp_le C 22 dX8_safe_15 (by decide) ?_ ?_
      · refine r_aload_n C 0 dX8_safe_22 rfl ?_
        refine r_getr C fl_X8_27 dX8_safe_23 th0 (fun b3 tb3 => ?_)
        refine r_ldc2 C (100000000000000 : Int64) (mG 838 (by decide +kernel) rfl) dX8_safe_26 ?_
        refine r_iload_n C 1 dX8_safe_29 rfl ?_
        refine r_iload_n C 2 dX8_safe_30 rfl ?_
        refine r_callV (As := [.long (100000000000000 : Int64), .int x1, .int x2]) (rest := []) C (c_X3_safeAlong _ E n b3 (100000000000000 : Int64) x1 x2 tb3) dX8_safe_31 ml_X8_192 mv_X3_safeAlong ⟨TX3, _, rfl⟩ (by decide) tb3 rfl rfl ⟨by decide, by decide⟩ (Nat.le_of_ble_eq_true rfl) (fun v5 S4 hv5 => ?_)
        refine r_iload_n C 3 dX8_safe_34 rfl ?_
        refine r_callS (As := [.long v5, .int x3]) (rest := []) C (c_X8_lowestTerm _ E n v5 x3 ) dX8_safe_35 ml_X8_196 mv_X8_lowestTerm rfl rfl ⟨by decide, by decide⟩ (Nat.le_of_ble_eq_true rfl) (fun v7 S6 hv7 => ?_)
        exact r_lreturn C X dX8_safe_38
      · refine r_ldc2 C (-2 : Int64) (mG 837 (by decide +kernel) rfl) dX8_safe_18 ?_
        exact r_lreturn C X dX8_safe_21
set_option maxRecDepth 100000 in
set_option maxHeartbeats 4000000 in
theorem p_X8_need_L39 {A : AM} {E : EN} {n : Nat} (C : Cx A E cX8_need 5 RX8 4 94) (X : Ex A E (some .int))  : ∀ (m : Nat) (S : WS) (h0 : Nat) (x1 : Int32) (x2 : Int32) (x3 : Int32) (x4 : Int32) (th0 : Ty E h0 7), Gd A E 5 (QM A E wI tT) (f_X8_need_L39 E n  m S h0 x1 x2 x3 x4) S 39 [(0, .ref h0), (1, .int x1), (2, .int x2), (3, .int x3), (4, .int x4)] [] := by
  intro m
  induction m with
  | zero => intros; exact gn
  | succ m ih =>
    intro S h0 x1 x2 x3 x4 th0
    unfold f_X8_need_L39
    refine r_iload C 4 dX8_need_39 rfl ?_
    refine r_aload_n C 0 dX8_need_41 rfl ?_
    refine r_getr C fl_X8_27 dX8_need_42 th0 (fun b1 tb1 => ?_)
    refine r_geti C fl_X8_280 dX8_need_45 tb1 ?_
    refine r_icmp_ge C 74 dX8_need_48 (by decide) ?_ ?_
    · refine r_aload_n C 0 dX8_need_74 rfl ?_
      refine r_iload_n C 1 dX8_need_75 rfl ?_
      refine r_iload_n C 2 dX8_need_76 rfl ?_
      refine r_iconst C (0 : Int32) dX8_need_77 (by decide) ?_
      refine r_callV (As := [.int x1, .int x2, .int (0 : Int32)]) (rest := []) C (c_X8_cheapest _ E n h0 x1 x2 (0 : Int32) th0) dX8_need_78 ml_X8_286 mv_X8_cheapest ⟨TX8, _, rfl⟩ (by decide) th0 rfl rfl ⟨by decide, by decide⟩ (Nat.le_of_ble_eq_true rfl) (fun v3 S2 hv3 => ?_)
      exact r_ireturn C X dX8_need_81
    · refine r_aload_n C 0 dX8_need_51 rfl ?_
      refine r_getr C fl_X8_83 dX8_need_52 th0 (fun b4 tb4 => ?_)
      refine r_iload C 4 dX8_need_55 rfl ?_
      refine r_aload_n C 0 dX8_need_57 rfl ?_
      refine r_getr C fl_X8_27 dX8_need_58 th0 (fun b5 tb5 => ?_)
      refine r_iload C 4 dX8_need_61 rfl ?_
      refine r_iload_n C 3 dX8_need_63 rfl ?_
      refine r_callV (As := [.int x4, .int x3]) (rest := [.int x4, .ref b4]) C (c_X3_leapOf _ E n b5 x4 x3 tb5) dX8_need_64 ml_X8_178 mv_X3_leapOf ⟨TX3, _, rfl⟩ (by decide) tb5 rfl rfl ⟨by decide, by decide⟩ (Nat.le_of_ble_eq_true rfl) (fun v7 S6 hv7 => ?_)
      refine r_iast C dX8_need_67 tb4 (fun S8 => ?_)
      refine r_iinc C 4 (fun y9 => [(4, .int y9), (0, .ref h0), (1, .int x1), (2, .int x2), (3, .int x3)]) dX8_need_68 rfl (v := (1 : Int32)) (by decide) (by decide) (fun _ => rfl) (fun y9 => ?_)
      refine r_goto C 39 dX8_need_71 (by decide) ?_
      refine r_sub [1, 2, 3, 4, 0] [(0, .ref h0), (1, .int x1), (2, .int x2), (3, .int x3), (4, .int y9)] rfl ?_
      exact ih S8 h0 x1 x2 x3 y9 th0
set_option maxRecDepth 100000 in
set_option maxHeartbeats 4000000 in
theorem c_X8_need (l : Launch) (E : EN) (n : Nat) (h0 : Nat) (x1 : Int32) (x2 : Int32) (x3 : Int32) (th0 : Ty E h0 7) : CT l E yX8_need cX8_need 5 (some .int) 4 94 wI tT [.ref h0, .int x1, .int x2, .int x3] (fun S => f_X8_need E n S h0 x1 x2 x3) := by
  refine ct_of RX8 (by decide +kernel) rfl [(0, .ref h0), (1, .int x1), (2, .int x2), (3, .int x3)] rfl (Nat.le_of_ble_eq_true rfl) (fun A S hA C X => ?_)
  subst hA
  show Gd A E 5 (QM A E wI tT) (f_X8_need E n S h0 x1 x2 x3) S 0 [(0, .ref h0), (1, .int x1), (2, .int x2), (3, .int x3)] []
  unfold f_X8_need
  refine r_aload_n C 0 dX8_need_0 rfl ?_
  refine r_getr C fl_X8_27 dX8_need_1 th0 (fun b1 tb1 => ?_)
  refine r_iload_n C 1 dX8_need_4 rfl ?_
  refine r_callV (As := [.int x1]) (rest := []) C (c_X3_hasPlace _ E n b1 x1 tb1) dX8_need_5 ml_X8_222 mv_X3_hasPlace ⟨TX3, _, rfl⟩ (by decide) tb1 rfl rfl ⟨by decide, by decide⟩ (Nat.le_of_ble_eq_true rfl) (fun v3 S2 hv3 => ?_)
  refine r_if_eq C 33 dX8_need_8 (by decide) ?_ ?_
  · refine r_bipush C (-2 : Int32) dX8_need_33 (by decide) ?_
    exact r_ireturn C X dX8_need_35
  · refine r_aload_n C 0 dX8_need_11 rfl ?_
    refine r_getr C fl_X8_27 dX8_need_12 th0 (fun b4 tb4 => ?_)
    refine r_iload_n C 2 dX8_need_15 rfl ?_
    refine r_callV (As := [.int x2]) (rest := []) C (c_X3_hasPlace _ E n b4 x2 tb4) dX8_need_16 ml_X8_222 mv_X3_hasPlace ⟨TX3, _, rfl⟩ (by decide) tb4 rfl rfl ⟨by decide, by decide⟩ (Nat.le_of_ble_eq_true rfl) (fun v6 S5 hv6 => ?_)
    refine r_if_eq C 33 dX8_need_19 (by decide) ?_ ?_
    · refine r_bipush C (-2 : Int32) dX8_need_33 (by decide) ?_
      exact r_ireturn C X dX8_need_35
    · refine r_aload_n C 0 dX8_need_22 rfl ?_
      refine r_getr C fl_X8_27 dX8_need_23 th0 (fun b7 tb7 => ?_)
      refine r_iload_n C 3 dX8_need_26 rfl ?_
      refine r_callV (As := [.int x3]) (rest := []) C (c_X3_hasYear _ E n b7 x3 tb7) dX8_need_27 ml_X8_164 mv_X3_hasYear ⟨TX3, _, rfl⟩ (by decide) tb7 rfl rfl ⟨by decide, by decide⟩ (Nat.le_of_ble_eq_true rfl) (fun v9 S8 hv9 => ?_)
      refine r_if_ne C 36 dX8_need_30 (by decide) ?_ ?_
      · refine r_iconst C (0 : Int32) dX8_need_36 (by decide) ?_
        refine r_istore C [(4, .int (0 : Int32)), (0, .ref h0), (1, .int x1), (2, .int x2), (3, .int x3)] dX8_need_37 (by decide) rfl ?_
        refine r_sub [1, 2, 3, 4, 0] [(0, .ref h0), (1, .int x1), (2, .int x2), (3, .int x3), (4, .int (0 : Int32))] rfl ?_
        exact p_X8_need_L39 C X  n S8 h0 x1 x2 x3 (0 : Int32) th0
      · refine r_bipush C (-2 : Int32) dX8_need_33 (by decide) ?_
        exact r_ireturn C X dX8_need_35
set_option maxRecDepth 100000 in
set_option maxHeartbeats 4000000 in
theorem p_X8_sold_L16 {A : AM} {E : EN} {n : Nat} (C : Cx A E cX8_sold 5 RX8 4 95) (X : Ex A E (some .int))  : ∀ (m : Nat) (S : WS) (h0 : Nat) (x1 : Int32) (x2 : Int32) (x3 : Int32) (x4 : Int32) (th0 : Ty E h0 7), Gd A E 5 (QM A E wI tT) (f_X8_sold_L16 E n  m S h0 x1 x2 x3 x4) S 16 [(0, .ref h0), (1, .int x1), (2, .int x2), (3, .int x3), (4, .int x4)] [] := by
  intro m
  induction m with
  | zero => intros; exact gn
  | succ m ih =>
    intro S h0 x1 x2 x3 x4 th0
    unfold f_X8_sold_L16
    refine r_iload C 4 dX8_sold_16 rfl ?_
    refine r_aload_n C 0 dX8_sold_18 rfl ?_
    refine r_getr C fl_X8_27 dX8_sold_19 th0 (fun b1 tb1 => ?_)
    refine r_geti C fl_X8_280 dX8_sold_22 tb1 ?_
    refine r_icmp_ge C 60 dX8_sold_25 (by decide) ?_ ?_
    · refine r_aload_n C 0 dX8_sold_60 rfl ?_
      refine r_aload_n C 0 dX8_sold_61 rfl ?_
      refine r_getr C fl_X8_27 dX8_sold_62 th0 (fun b2 tb2 => ?_)
      refine r_getr C fl_X8_265 dX8_sold_65 tb2 (fun b3 tb3 => ?_)
      refine r_iload_n C 1 dX8_sold_68 rfl ?_
      refine r_iald C dX8_sold_69 tb3 ?_
      refine r_iload_n C 2 dX8_sold_70 rfl ?_
      refine r_iconst C (1 : Int32) dX8_sold_71 (by decide) ?_
      refine r_callV (As := [.int (ai S b3 x1.toNatClampNeg), .int x2, .int (1 : Int32)]) (rest := []) C (c_X8_cheapest _ E n h0 (ai S b3 x1.toNatClampNeg) x2 (1 : Int32) th0) dX8_sold_72 ml_X8_286 mv_X8_cheapest ⟨TX8, _, rfl⟩ (by decide) th0 rfl rfl ⟨by decide, by decide⟩ (Nat.le_of_ble_eq_true rfl) (fun v5 S4 hv5 => ?_)
      exact r_ireturn C X dX8_sold_75
    · refine r_aload_n C 0 dX8_sold_28 rfl ?_
      refine r_getr C fl_X8_83 dX8_sold_29 th0 (fun b6 tb6 => ?_)
      refine r_iload C 4 dX8_sold_32 rfl ?_
      refine r_aload_n C 0 dX8_sold_34 rfl ?_
      refine r_getr C fl_X8_27 dX8_sold_35 th0 (fun b7 tb7 => ?_)
      refine r_iload C 4 dX8_sold_38 rfl ?_
      refine r_iload_n C 3 dX8_sold_40 rfl ?_
      refine r_aload_n C 0 dX8_sold_41 rfl ?_
      refine r_getr C fl_X8_27 dX8_sold_42 th0 (fun b8 tb8 => ?_)
      refine r_getr C fl_X8_277 dX8_sold_45 tb8 (fun b9 tb9 => ?_)
      refine r_iload_n C 1 dX8_sold_48 rfl ?_
      refine r_iald C dX8_sold_49 tb9 ?_
      refine r_callV (As := [.int x4, .int x3, .int (ai S b9 x1.toNatClampNeg)]) (rest := [.int x4, .ref b6]) C (c_X3_lackingOn _ E n b7 x4 x3 (ai S b9 x1.toNatClampNeg) tb7) dX8_sold_50 ml_X8_185 mv_X3_lackingOn ⟨TX3, _, rfl⟩ (by decide) tb7 rfl rfl ⟨by decide, by decide⟩ (Nat.le_of_ble_eq_true rfl) (fun v11 S10 hv11 => ?_)
      refine r_iast C dX8_sold_53 tb6 (fun S12 => ?_)
      refine r_iinc C 4 (fun y13 => [(4, .int y13), (0, .ref h0), (1, .int x1), (2, .int x2), (3, .int x3)]) dX8_sold_54 rfl (v := (1 : Int32)) (by decide) (by decide) (fun _ => rfl) (fun y13 => ?_)
      refine r_goto C 16 dX8_sold_57 (by decide) ?_
      refine r_sub [1, 2, 3, 4, 0] [(0, .ref h0), (1, .int x1), (2, .int x2), (3, .int x3), (4, .int y13)] rfl ?_
      exact ih S12 h0 x1 x2 x3 y13 th0
