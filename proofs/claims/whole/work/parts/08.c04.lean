/-! THE CONTRACTS, by program -/
set_option maxRecDepth 100000 in
set_option maxHeartbeats 4000000 in
theorem c_X9_isFreshPath (l : Launch) (E : EN) (n : Nat) (h0 : Nat) (x1 : Int32) (x2 : Int32) (th0 : Ty E h0 8) : CT l E yX9_isFreshPath cX9_isFreshPath 5 (some .boolean) 0 0 wI tT [.ref h0, .int x1, .int x2] (fun S => f_X9_isFreshPath E n S h0 x1 x2) := by
  refine ct_of RX9 (by decide +kernel) rfl [(0, .ref h0), (1, .int x1), (2, .int x2)] rfl (Nat.le_of_ble_eq_true rfl) (fun A S hA C X => ?_)
  subst hA
  show Gd A E 5 (QM A E wI tT) (f_X9_isFreshPath E n S h0 x1 x2) S 0 [(0, .ref h0), (1, .int x1), (2, .int x2)] []
  unfold f_X9_isFreshPath
  refine r_iconst C (0 : Int32) dX9_isFreshPath_0 (by decide) ?_
  refine r_istore_n C [(3, .int (0 : Int32)), (0, .ref h0), (1, .int x1), (2, .int x2)] dX9_isFreshPath_1 (by decide) rfl ?_
  refine r_sub [1, 2, 3, 0] [(0, .ref h0), (1, .int x1), (2, .int x2), (3, .int (0 : Int32))] rfl ?_
  exact p_X9_isFreshPath_L2 C X  n S h0 x1 x2 (0 : Int32) th0
set_option maxRecDepth 100000 in
set_option maxHeartbeats 4000000 in
theorem p_X9_readPath_J63 {A : AM} {E : EN} {n : Nat} (C : Cx A E cX9_readPath 4 RX9 7 151) (X : Ex A E none)  (S : WS) (h0 : Nat) (x1 : Int32) (x2 : Int32) (th0 : Ty E h0 8) : Gd A E 4 (QM A E wV tT) (f_X9_readPath_J63 E n  S h0 x1 x2) S 63 [(0, .ref h0), (1, .int x1), (2, .int x2)] [] := by
  unfold f_X9_readPath_J63
  refine r_aload_n C 0 dX9_readPath_63 rfl ?_
  refine r_callV (As := []) (rest := []) C (c_X9_freshPlace _ E n h0 th0) dX9_readPath_64 ml_X9_170 mv_X9_freshPlace ⟨TX9, _, rfl⟩ (by decide) th0 rfl rfl ⟨by decide, by decide⟩ (Nat.le_of_ble_eq_true rfl) (fun v2 S1 hv2 => ?_)
  refine r_istore_n C [(3, .int v2), (0, .ref h0), (1, .int x1), (2, .int x2)] dX9_readPath_67 (by decide) rfl ?_
  refine r_aload_n C 1 dX9_readPath_68 rfl ?_
  refine r_callV (As := []) (rest := []) C (c_X9_good _ E n h0 th0) dX9_readPath_69 ml_X9_136 mv_X9_good ⟨TX9, _, rfl⟩ (by decide) th0 rfl rfl ⟨by decide, by decide⟩ (Nat.le_of_ble_eq_true rfl) (fun v4 S3 hv4 => ?_)
  refine r_if_ne C 76 dX9_readPath_72 (by decide) ?_ ?_
  · refine r_aload_n C 1 dX9_readPath_76 rfl ?_
    refine r_getr C fl_X9_31 dX9_readPath_77 th0 (fun b5 tb5 => ?_)
    refine r_iload_n C 2 dX9_readPath_80 rfl ?_
    refine r_iload_n C 3 dX9_readPath_81 rfl ?_
    refine r_iast C dX9_readPath_82 tb5 (fun S6 => ?_)
    refine r_aload_n C 1 dX9_readPath_83 rfl ?_
    refine r_getr C fl_X9_31 dX9_readPath_84 th0 (fun b7 tb7 => ?_)
    refine r_iload_n C 2 dX9_readPath_87 rfl ?_
    refine r_iconst C (1 : Int32) dX9_readPath_88 (by decide) ?_
    refine r_iadd C dX9_readPath_89 ?_
    refine r_iload_n C 0 dX9_readPath_90 rfl ?_
    refine r_iast C dX9_readPath_91 tb7 (fun S8 => ?_)
    refine r_aload_n C 1 dX9_readPath_92 rfl ?_
    refine r_getr C fl_X9_31 dX9_readPath_93 th0 (fun b9 tb9 => ?_)
    refine r_iconst C (2 : Int32) dX9_readPath_96 (by decide) ?_
    refine r_dup2 C dX9_readPath_97 rfl rfl ?_
    refine r_iald C dX9_readPath_98 tb9 ?_
    refine r_iconst C (1 : Int32) dX9_readPath_99 (by decide) ?_
    refine r_iadd C dX9_readPath_100 ?_
    refine r_iast C dX9_readPath_101 tb9 (fun S10 => ?_)
    exact r_return C X dX9_readPath_102
  · exact r_return C X dX9_readPath_75
set_option maxRecDepth 100000 in
set_option maxHeartbeats 4000000 in
theorem c_X9_readPath (l : Launch) (E : EN) (n : Nat) (h0 : Nat) (th0 : Ty E h0 8) : CT l E yX9_readPath cX9_readPath 4 none 7 151 wV tT [.ref h0] (fun S => f_X9_readPath E n S h0) := by
  refine ct_of RX9 (by decide +kernel) rfl [(0, .ref h0)] rfl (Nat.le_of_ble_eq_true rfl) (fun A S hA C X => ?_)
  subst hA
  show Gd A E 4 (QM A E wV tT) (f_X9_readPath E n S h0) S 0 [(0, .ref h0)] []
  unfold f_X9_readPath
  refine r_bipush C (45 : Int32) dX9_readPath_0 (by decide) ?_
  refine r_iconst C (2 : Int32) dX9_readPath_2 (by decide) ?_
  refine r_aload_n C 0 dX9_readPath_3 rfl ?_
  refine r_getr C fl_X9_31 dX9_readPath_4 th0 (fun b1 tb1 => ?_)
  refine r_iconst C (2 : Int32) dX9_readPath_7 (by decide) ?_
  refine r_iald C dX9_readPath_8 tb1 ?_
  refine r_imul C dX9_readPath_9 ?_
  refine r_iadd C dX9_readPath_10 ?_
  refine r_topi (fun y2 => ?_)
  refine r_istore_n C [(1, .int y2), (0, .ref h0)] dX9_readPath_11 (by decide) rfl ?_
  refine r_aload_n C 1 dX9_readPath_12 rfl ?_
  refine r_callV (As := []) (rest := []) C (c_X9_freshPlace _ E n h0 th0) dX9_readPath_13 ml_X9_170 mv_X9_freshPlace ⟨TX9, _, rfl⟩ (by decide) th0 rfl rfl ⟨by decide, by decide⟩ (Nat.le_of_ble_eq_true rfl) (fun v4 S3 hv4 => ?_)
  refine r_istore_n C [(2, .int v4), (1, .int y2), (0, .ref h0)] dX9_readPath_16 (by decide) rfl ?_
  refine r_aload_n C 2 dX9_readPath_17 rfl ?_
  refine r_ldcS C (tx := "to") 5 (List.mem_of_getElem? (i := 28) rfl) dX9_readPath_18 ?_
  refine r_callV (As := [.ref (eSK E 5)]) (rest := []) C (c_X9_needs _ E n h0 5 th0 (by decide)) dX9_readPath_20 ml_X9_163 mv_X9_needs ⟨TX9, _, rfl⟩ (by decide) th0 rfl rfl ⟨by decide, by decide⟩ (Nat.le_of_ble_eq_true rfl) (fun v6 S5 hv6 => ?_)
  refine r_aload_n C 2 dX9_readPath_23 rfl ?_
  refine r_callV (As := []) (rest := []) C (c_X9_good _ E n h0 th0) dX9_readPath_24 ml_X9_136 mv_X9_good ⟨TX9, _, rfl⟩ (by decide) th0 rfl rfl ⟨by decide, by decide⟩ (Nat.le_of_ble_eq_true rfl) (fun v8 S7 hv8 => ?_)
  refine r_if_eq C 63 dX9_readPath_27 (by decide) ?_ ?_
  · refine r_sub [2, 1, 0] [(0, .ref h0), (1, .int y2), (2, .int v4)] rfl ?_
    exact p_X9_readPath_J63 C X  S7 h0 y2 v4 th0
  · refine r_aload_n C 2 dX9_readPath_30 rfl ?_
    refine r_geti C fl_X9_115 dX9_readPath_31 th0 ?_
    refine r_iconst C (2 : Int32) dX9_readPath_34 (by decide) ?_
    refine r_icmp_ne C 63 dX9_readPath_35 (by decide) ?_ ?_
    · refine r_sub [2, 1, 0] [(0, .ref h0), (1, .int y2), (2, .int v4)] rfl ?_
      exact p_X9_readPath_J63 C X  S7 h0 y2 v4 th0
    · refine r_aload_n C 2 dX9_readPath_38 rfl ?_
      refine r_geti C fl_X9_126 dX9_readPath_39 th0 ?_
      refine r_iload_n C 0 dX9_readPath_42 rfl ?_
      refine r_icmp_eq C 58 dX9_readPath_43 (by decide) ?_ ?_
      · refine r_aload_n C 2 dX9_readPath_58 rfl ?_
        refine r_iconst C (2 : Int32) dX9_readPath_59 (by decide) ?_
        refine r_callV (As := [.int (2 : Int32)]) (rest := []) C (c_X9_errs _ E n h0 (2 : Int32) th0) dX9_readPath_60 ml_X9_159 mv_X9_errs ⟨TX9, _, rfl⟩ (by decide) th0 rfl rfl ⟨by decide, by decide⟩ (Nat.le_of_ble_eq_true rfl) (fun v10 S9 hv10 => ?_)
        refine r_sub [2, 1, 0] [(0, .ref h0), (1, .int y2), (2, .int v4)] rfl ?_
        exact p_X9_readPath_J63 C X  S9 h0 y2 v4 th0
      · refine r_aload_n C 2 dX9_readPath_46 rfl ?_
        refine r_iload_n C 0 dX9_readPath_47 rfl ?_
        refine r_aload_n C 2 dX9_readPath_48 rfl ?_
        refine r_geti C fl_X9_126 dX9_readPath_49 th0 ?_
        refine r_callV (As := [.int v4, .int (gi S7 523 h0)]) (rest := []) C (c_X9_isFreshPath _ E n h0 v4 (gi S7 523 h0) th0) dX9_readPath_52 ml_X9_175 mv_X9_isFreshPath ⟨TX9, _, rfl⟩ (by decide) th0 rfl rfl ⟨by decide, by decide⟩ (Nat.le_of_ble_eq_true rfl) (fun v12 S11 hv12 => ?_)
        refine r_if_eq C 63 dX9_readPath_55 (by decide) ?_ ?_
        · refine r_sub [2, 1, 0] [(0, .ref h0), (1, .int y2), (2, .int v4)] rfl ?_
          exact p_X9_readPath_J63 C X  S11 h0 y2 v4 th0
        · refine r_aload_n C 2 dX9_readPath_58 rfl ?_
          refine r_iconst C (2 : Int32) dX9_readPath_59 (by decide) ?_
          refine r_callV (As := [.int (2 : Int32)]) (rest := []) C (c_X9_errs _ E n h0 (2 : Int32) th0) dX9_readPath_60 ml_X9_159 mv_X9_errs ⟨TX9, _, rfl⟩ (by decide) th0 rfl rfl ⟨by decide, by decide⟩ (Nat.le_of_ble_eq_true rfl) (fun v14 S13 hv14 => ?_)
          refine r_sub [2, 1, 0] [(0, .ref h0), (1, .int y2), (2, .int v4)] rfl ?_
          exact p_X9_readPath_J63 C X  S13 h0 y2 v4 th0
set_option maxRecDepth 100000 in
set_option maxHeartbeats 4000000 in
theorem c_X9_readBride (l : Launch) (E : EN) (n : Nat) (h0 : Nat) (th0 : Ty E h0 8) : CT l E yX9_readBride cX9_readBride 2 none 8 174 wV tT [.ref h0] (fun S => f_X9_readBride E n S h0) := by
  refine ct_of RX9 (by decide +kernel) rfl [(0, .ref h0)] rfl (Nat.le_of_ble_eq_true rfl) (fun A S hA C X => ?_)
  subst hA
  show Gd A E 2 (QM A E wV tT) (f_X9_readBride E n S h0) S 0 [(0, .ref h0)] []
  unfold f_X9_readBride
  refine r_bipush C (65 : Int32) dX9_readBride_0 (by decide) ?_
  refine r_iconst C (2 : Int32) dX9_readBride_2 (by decide) ?_
  refine r_aload_n C 0 dX9_readBride_3 rfl ?_
  refine r_getr C fl_X9_31 dX9_readBride_4 th0 (fun b1 tb1 => ?_)
  refine r_iconst C (3 : Int32) dX9_readBride_7 (by decide) ?_
  refine r_iald C dX9_readBride_8 tb1 ?_
  refine r_imul C dX9_readBride_9 ?_
  refine r_iadd C dX9_readBride_10 ?_
  refine r_topi (fun y2 => ?_)
  refine r_istore_n C [(1, .int y2), (0, .ref h0)] dX9_readBride_11 (by decide) rfl ?_
  refine r_aload_n C 1 dX9_readBride_12 rfl ?_
  refine r_getr C fl_X9_31 dX9_readBride_13 th0 (fun b3 tb3 => ?_)
  refine r_iload_n C 0 dX9_readBride_16 rfl ?_
  refine r_aload_n C 1 dX9_readBride_17 rfl ?_
  refine r_ldcS C (tx := "path") 4 (List.mem_of_getElem? (i := 22) rfl) dX9_readBride_18 ?_
  refine r_iconst C (0 : Int32) dX9_readBride_20 (by decide) ?_
  refine r_aload_n C 1 dX9_readBride_21 rfl ?_
  refine r_getr C fl_X9_31 dX9_readBride_22 th0 (fun b4 tb4 => ?_)
  refine r_iconst C (2 : Int32) dX9_readBride_25 (by decide) ?_
  refine r_iald C dX9_readBride_26 tb4 ?_
  refine r_iconst C (1 : Int32) dX9_readBride_27 (by decide) ?_
  refine r_isub C dX9_readBride_28 ?_
  refine r_callV (As := [.ref (eSK E 4), .int (0 : Int32), .int ((ai S b4 (2 : Int32).toNatClampNeg) - (1 : Int32))]) (rest := [.int y2, .ref b3]) C (c_X9_told _ E n h0 4 (0 : Int32) ((ai S b4 (2 : Int32).toNatClampNeg) - (1 : Int32)) th0 (by decide)) dX9_readBride_29 ml_X9_181 mv_X9_told ⟨TX9, _, rfl⟩ (by decide) th0 rfl rfl ⟨by decide, by decide⟩ (Nat.le_of_ble_eq_true rfl) (fun v6 S5 hv6 => ?_)
  refine r_iast C dX9_readBride_32 tb3 (fun S7 => ?_)
  refine r_aload_n C 1 dX9_readBride_33 rfl ?_
  refine r_getr C fl_X9_31 dX9_readBride_34 th0 (fun b8 tb8 => ?_)
  refine r_iload_n C 0 dX9_readBride_37 rfl ?_
  refine r_iconst C (1 : Int32) dX9_readBride_38 (by decide) ?_
  refine r_iadd C dX9_readBride_39 ?_
  refine r_aload_n C 1 dX9_readBride_40 rfl ?_
  refine r_ldcS C (tx := "in") 7 (List.mem_of_getElem? (i := 29) rfl) dX9_readBride_41 ?_
  refine r_iconst C (0 : Int32) dX9_readBride_43 (by decide) ?_
  refine r_aload_n C 1 dX9_readBride_44 rfl ?_
  refine r_getr C fl_X9_31 dX9_readBride_45 th0 (fun b9 tb9 => ?_)
  refine r_iconst C (1 : Int32) dX9_readBride_48 (by decide) ?_
  refine r_iald C dX9_readBride_49 tb9 ?_
  refine r_iconst C (1 : Int32) dX9_readBride_50 (by decide) ?_
  refine r_isub C dX9_readBride_51 ?_
  refine r_callV (As := [.ref (eSK E 7), .int (0 : Int32), .int ((ai S7 b9 (1 : Int32).toNatClampNeg) - (1 : Int32))]) (rest := [.int (y2 + (1 : Int32)), .ref b8]) C (c_X9_told _ E n h0 7 (0 : Int32) ((ai S7 b9 (1 : Int32).toNatClampNeg) - (1 : Int32)) th0 (by decide)) dX9_readBride_52 ml_X9_181 mv_X9_told ⟨TX9, _, rfl⟩ (by decide) th0 rfl rfl ⟨by decide, by decide⟩ (Nat.le_of_ble_eq_true rfl) (fun v11 S10 hv11 => ?_)
  refine r_iast C dX9_readBride_55 tb8 (fun S12 => ?_)
  refine r_aload_n C 1 dX9_readBride_56 rfl ?_
  refine r_getr C fl_X9_31 dX9_readBride_57 th0 (fun b13 tb13 => ?_)
  refine r_iconst C (3 : Int32) dX9_readBride_60 (by decide) ?_
  refine r_dup2 C dX9_readBride_61 rfl rfl ?_
  refine r_iald C dX9_readBride_62 tb13 ?_
  refine r_iconst C (1 : Int32) dX9_readBride_63 (by decide) ?_
  refine r_iadd C dX9_readBride_64 ?_
  refine r_iast C dX9_readBride_65 tb13 (fun S14 => ?_)
  exact r_return C X dX9_readBride_66
set_option maxRecDepth 100000 in
set_option maxHeartbeats 4000000 in
theorem p_X9_readSuitor_J138 {A : AM} {E : EN} {n : Nat} (C : Cx A E cX9_readSuitor 3 RX9 8 174) (X : Ex A E none)  (S : WS) (h0 : Nat) (x1 : Int32) (x2 : Int32) (th0 : Ty E h0 8) : Gd A E 3 (QM A E wV tT) (f_X9_readSuitor_J138 E n  S h0 x1 x2) S 138 [(0, .ref h0), (1, .int x1), (2, .int x2)] [] := by
  unfold f_X9_readSuitor_J138
  refine r_aload_n C 0 dX9_readSuitor_138 rfl ?_
  refine r_getr C fl_X9_31 dX9_readSuitor_139 th0 (fun b1 tb1 => ?_)
  refine r_iload_n C 1 dX9_readSuitor_142 rfl ?_
  refine r_iconst C (2 : Int32) dX9_readSuitor_143 (by decide) ?_
  refine r_iadd C dX9_readSuitor_144 ?_
  refine r_iload_n C 2 dX9_readSuitor_145 rfl ?_
  refine r_iast C dX9_readSuitor_146 tb1 (fun S2 => ?_)
  refine r_aload_n C 0 dX9_readSuitor_147 rfl ?_
  refine r_getr C fl_X9_31 dX9_readSuitor_148 th0 (fun b3 tb3 => ?_)
  refine r_iconst C (4 : Int32) dX9_readSuitor_151 (by decide) ?_
  refine r_dup2 C dX9_readSuitor_152 rfl rfl ?_
  refine r_iald C dX9_readSuitor_153 tb3 ?_
  refine r_iconst C (1 : Int32) dX9_readSuitor_154 (by decide) ?_
  refine r_iadd C dX9_readSuitor_155 ?_
  refine r_iast C dX9_readSuitor_156 tb3 (fun S4 => ?_)
  exact r_return C X dX9_readSuitor_157
set_option maxRecDepth 100000 in
set_option maxHeartbeats 4000000 in
theorem p_X9_readSuitor_J105 {A : AM} {E : EN} {n : Nat} (C : Cx A E cX9_readSuitor 3 RX9 8 174) (X : Ex A E none) {k52 : WS → Nat → Int32 → Int32 → Option (Unit × WS)} (hk52 : ∀ (S : WS) (h0 : Nat) (x1 : Int32) (x2 : Int32) (_ : Ty E h0 8), Gd A E 3 (QM A E wV tT) (k52 S h0 x1 x2) S 52 [(0, .ref h0), (1, .int x1), (2, .int x2)] []) (S : WS) (h0 : Nat) (x1 : Int32) (x2 : Int32) (th0 : Ty E h0 8) : Gd A E 3 (QM A E wV tT) (f_X9_readSuitor_J105 E n k52 S h0 x1 x2) S 105 [(0, .ref h0), (1, .int x1), (2, .int x2)] [] := by
  unfold f_X9_readSuitor_J105
  refine r_iload_n C 2 dX9_readSuitor_105 rfl ?_
  refine r_iconst C (1 : Int32) dX9_readSuitor_106 (by decide) ?_
  refine r_aload_n C 0 dX9_readSuitor_107 rfl ?_
  refine r_iconst C (0 : Int32) dX9_readSuitor_108 (by decide) ?_
  refine r_aload_n C 0 dX9_readSuitor_109 rfl ?_
  refine r_getr C fl_X9_31 dX9_readSuitor_110 th0 (fun b1 tb1 => ?_)
  refine r_iconst C (3 : Int32) dX9_readSuitor_113 (by decide) ?_
  refine r_iald C dX9_readSuitor_114 tb1 ?_
  refine r_iconst C (1 : Int32) dX9_readSuitor_115 (by decide) ?_
  refine r_isub C dX9_readSuitor_116 ?_
  refine r_callV (As := [.int (0 : Int32), .int ((ai S b1 (3 : Int32).toNatClampNeg) - (1 : Int32))]) (rest := [.int (1 : Int32), .int x2]) C (c_X9_number _ E n h0 (0 : Int32) ((ai S b1 (3 : Int32).toNatClampNeg) - (1 : Int32)) th0) dX9_readSuitor_117 ml_X9_167 mv_X9_number ⟨TX9, _, rfl⟩ (by decide) th0 rfl rfl ⟨by decide, by decide⟩ (Nat.le_of_ble_eq_true rfl) (fun v3 S2 hv3 => ?_)
  refine r_ishl C dX9_readSuitor_120 ?_
  refine r_ior C dX9_readSuitor_121 ?_
  refine r_topi (fun y4 => ?_)
  refine r_istore_n C [(2, .int y4), (0, .ref h0), (1, .int x1)] dX9_readSuitor_122 (by decide) rfl ?_
  refine r_aload_n C 1 dX9_readSuitor_123 rfl ?_
  refine r_callV (As := []) (rest := []) C (c_X9_good _ E n h0 th0) dX9_readSuitor_124 ml_X9_136 mv_X9_good ⟨TX9, _, rfl⟩ (by decide) th0 rfl rfl ⟨by decide, by decide⟩ (Nat.le_of_ble_eq_true rfl) (fun v6 S5 hv6 => ?_)
  refine r_if_eq C 138 dX9_readSuitor_127 (by decide) ?_ ?_
  · refine r_sub [1, 2, 0] [(0, .ref h0), (1, .int x1), (2, .int y4)] rfl ?_
    exact p_X9_readSuitor_J138 C X  S5 h0 x1 y4 th0
  · refine r_aload_n C 1 dX9_readSuitor_130 rfl ?_
    refine r_geti C fl_X9_115 dX9_readSuitor_131 th0 ?_
    refine r_iconst C (2 : Int32) dX9_readSuitor_134 (by decide) ?_
    refine r_icmp_eq C 52 dX9_readSuitor_135 (by decide) ?_ ?_
    · refine r_sub [1, 2, 0] [(0, .ref h0), (1, .int x1), (2, .int y4)] rfl ?_
      exact hk52 S5 h0 x1 y4 th0
    · refine r_sub [1, 2, 0] [(0, .ref h0), (1, .int x1), (2, .int y4)] rfl ?_
      exact p_X9_readSuitor_J138 C X  S5 h0 x1 y4 th0
set_option maxRecDepth 100000 in
set_option maxHeartbeats 4000000 in
theorem p_X9_readSuitor_L52 {A : AM} {E : EN} {n : Nat} (C : Cx A E cX9_readSuitor 3 RX9 8 174) (X : Ex A E none)  : ∀ (m : Nat) (S : WS) (h0 : Nat) (x1 : Int32) (x2 : Int32) (th0 : Ty E h0 8), Gd A E 3 (QM A E wV tT) (f_X9_readSuitor_L52 E n  m S h0 x1 x2) S 52 [(0, .ref h0), (1, .int x1), (2, .int x2)] [] := by
  intro m
  induction m with
  | zero => intros; exact gn
  | succ m ih =>
    intro S h0 x1 x2 th0
    unfold f_X9_readSuitor_L52
    refine r_aload_n C 0 dX9_readSuitor_52 rfl ?_
    refine r_callV (As := []) (rest := []) C (c_X9_good _ E n h0 th0) dX9_readSuitor_53 ml_X9_136 mv_X9_good ⟨TX9, _, rfl⟩ (by decide) th0 rfl rfl ⟨by decide, by decide⟩ (Nat.le_of_ble_eq_true rfl) (fun v2 S1 hv2 => ?_)
    refine r_if_eq C 105 dX9_readSuitor_56 (by decide) ?_ ?_
    · exact p_X9_readSuitor_J105 C X ih S1 h0 x1 x2 th0
    · refine r_aload_n C 0 dX9_readSuitor_59 rfl ?_
      refine r_geti C fl_X9_115 dX9_readSuitor_60 th0 ?_
      refine r_iconst C (2 : Int32) dX9_readSuitor_63 (by decide) ?_
      refine r_icmp_ne C 105 dX9_readSuitor_64 (by decide) ?_ ?_
      · exact p_X9_readSuitor_J105 C X ih S1 h0 x1 x2 th0
      · refine r_aload_n C 0 dX9_readSuitor_67 rfl ?_
        refine r_geti C fl_X9_126 dX9_readSuitor_68 th0 ?_
        refine r_i2l C dX9_readSuitor_71 ?_
        refine r_lconst C (0 : Int64) dX9_readSuitor_72 (by decide) ?_
        refine r_aload_n C 0 dX9_readSuitor_73 rfl ?_
        refine r_getr C fl_X9_31 dX9_readSuitor_74 th0 (fun b3 tb3 => ?_)
        refine r_iconst C (3 : Int32) dX9_readSuitor_77 (by decide) ?_
        refine r_iald C dX9_readSuitor_78 tb3 ?_
        refine r_iconst C (1 : Int32) dX9_readSuitor_79 (by decide) ?_
        refine r_isub C dX9_readSuitor_80 ?_
        refine r_i2l C dX9_readSuitor_81 ?_
        refine r_callS (As := [.long ((gi S1 523 h0).toInt64), .long (0 : Int64), .long (((ai S1 b3 (3 : Int32).toNatClampNeg) - (1 : Int32)).toInt64)]) (rest := []) C (c_X9_in _ E n ((gi S1 523 h0).toInt64) (0 : Int64) (((ai S1 b3 (3 : Int32).toNatClampNeg) - (1 : Int32)).toInt64) ) dX9_readSuitor_82 ml_X9_82 mv_X9_in rfl rfl ⟨by decide, by decide⟩ (Nat.le_of_ble_eq_true rfl) (fun v5 S4 hv5 => ?_)
        refine r_if_eq C 105 dX9_readSuitor_85 (by decide) ?_ ?_
        · exact p_X9_readSuitor_J105 C X ih S4 h0 x1 x2 th0
        · refine r_iload_n C 2 dX9_readSuitor_88 rfl ?_
          refine r_aload_n C 0 dX9_readSuitor_89 rfl ?_
          refine r_geti C fl_X9_126 dX9_readSuitor_90 th0 ?_
          refine r_ishr C dX9_readSuitor_93 ?_
          refine r_iconst C (1 : Int32) dX9_readSuitor_94 (by decide) ?_
          refine r_iand C dX9_readSuitor_95 ?_
          refine r_iconst C (1 : Int32) dX9_readSuitor_96 (by decide) ?_
          refine r_icmp_ne C 105 dX9_readSuitor_97 (by decide) ?_ ?_
          · exact p_X9_readSuitor_J105 C X ih S4 h0 x1 x2 th0
          · refine r_aload_n C 0 dX9_readSuitor_100 rfl ?_
            refine r_iconst C (2 : Int32) dX9_readSuitor_101 (by decide) ?_
            refine r_callV (As := [.int (2 : Int32)]) (rest := []) C (c_X9_errs _ E n h0 (2 : Int32) th0) dX9_readSuitor_102 ml_X9_159 mv_X9_errs ⟨TX9, _, rfl⟩ (by decide) th0 rfl rfl ⟨by decide, by decide⟩ (Nat.le_of_ble_eq_true rfl) (fun v7 S6 hv7 => ?_)
            exact p_X9_readSuitor_J105 C X ih S6 h0 x1 x2 th0
set_option maxRecDepth 100000 in
set_option maxHeartbeats 4000000 in
theorem c_X9_readSuitor (l : Launch) (E : EN) (n : Nat) (h0 : Nat) (th0 : Ty E h0 8) : CT l E yX9_readSuitor cX9_readSuitor 3 none 8 174 wV tT [.ref h0] (fun S => f_X9_readSuitor E n S h0) := by
  refine ct_of RX9 (by decide +kernel) rfl [(0, .ref h0)] rfl (Nat.le_of_ble_eq_true rfl) (fun A S hA C X => ?_)
  subst hA
  show Gd A E 3 (QM A E wV tT) (f_X9_readSuitor E n S h0) S 0 [(0, .ref h0)] []
  unfold f_X9_readSuitor
  refine r_bipush C (73 : Int32) dX9_readSuitor_0 (by decide) ?_
  refine r_iconst C (3 : Int32) dX9_readSuitor_2 (by decide) ?_
  refine r_aload_n C 0 dX9_readSuitor_3 rfl ?_
  refine r_getr C fl_X9_31 dX9_readSuitor_4 th0 (fun b1 tb1 => ?_)
  refine r_iconst C (4 : Int32) dX9_readSuitor_7 (by decide) ?_
  refine r_iald C dX9_readSuitor_8 tb1 ?_
  refine r_imul C dX9_readSuitor_9 ?_
  refine r_iadd C dX9_readSuitor_10 ?_
  refine r_topi (fun y2 => ?_)
  refine r_istore_n C [(1, .int y2), (0, .ref h0)] dX9_readSuitor_11 (by decide) rfl ?_
  refine r_aload_n C 1 dX9_readSuitor_12 rfl ?_
  refine r_getr C fl_X9_31 dX9_readSuitor_13 th0 (fun b3 tb3 => ?_)
  refine r_iload_n C 0 dX9_readSuitor_16 rfl ?_
  refine r_aload_n C 1 dX9_readSuitor_17 rfl ?_
  refine r_ldcS C (tx := "skill") 9 (List.mem_of_getElem? (i := 30) rfl) dX9_readSuitor_18 ?_
  refine r_iconst C (0 : Int32) dX9_readSuitor_20 (by decide) ?_
  refine r_bipush C (30 : Int32) dX9_readSuitor_21 (by decide) ?_
  refine r_callV (As := [.ref (eSK E 9), .int (0 : Int32), .int (30 : Int32)]) (rest := [.int y2, .ref b3]) C (c_X9_told _ E n h0 9 (0 : Int32) (30 : Int32) th0 (by decide)) dX9_readSuitor_23 ml_X9_181 mv_X9_told ⟨TX9, _, rfl⟩ (by decide) th0 rfl rfl ⟨by decide, by decide⟩ (Nat.le_of_ble_eq_true rfl) (fun v5 S4 hv5 => ?_)
  refine r_iast C dX9_readSuitor_26 tb3 (fun S6 => ?_)
  refine r_aload_n C 1 dX9_readSuitor_27 rfl ?_
  refine r_getr C fl_X9_31 dX9_readSuitor_28 th0 (fun b7 tb7 => ?_)
  refine r_iload_n C 0 dX9_readSuitor_31 rfl ?_
  refine r_iconst C (1 : Int32) dX9_readSuitor_32 (by decide) ?_
  refine r_iadd C dX9_readSuitor_33 ?_
  refine r_aload_n C 1 dX9_readSuitor_34 rfl ?_
  refine r_ldcS C (tx := "spite") 10 (List.mem_of_getElem? (i := 31) rfl) dX9_readSuitor_35 ?_
  refine r_iconst C (0 : Int32) dX9_readSuitor_37 (by decide) ?_
  refine r_bipush C (100 : Int32) dX9_readSuitor_38 (by decide) ?_
  refine r_callV (As := [.ref (eSK E 10), .int (0 : Int32), .int (100 : Int32)]) (rest := [.int (y2 + (1 : Int32)), .ref b7]) C (c_X9_told _ E n h0 10 (0 : Int32) (100 : Int32) th0 (by decide)) dX9_readSuitor_40 ml_X9_181 mv_X9_told ⟨TX9, _, rfl⟩ (by decide) th0 rfl rfl ⟨by decide, by decide⟩ (Nat.le_of_ble_eq_true rfl) (fun v9 S8 hv9 => ?_)
  refine r_iast C dX9_readSuitor_43 tb7 (fun S10 => ?_)
  refine r_aload_n C 1 dX9_readSuitor_44 rfl ?_
  refine r_ldcS C (tx := "for") 11 (List.mem_of_getElem? (i := 32) rfl) dX9_readSuitor_45 ?_
  refine r_callV (As := [.ref (eSK E 11)]) (rest := []) C (c_X9_needs _ E n h0 11 th0 (by decide)) dX9_readSuitor_47 ml_X9_163 mv_X9_needs ⟨TX9, _, rfl⟩ (by decide) th0 rfl rfl ⟨by decide, by decide⟩ (Nat.le_of_ble_eq_true rfl) (fun v12 S11 hv12 => ?_)
  refine r_iconst C (0 : Int32) dX9_readSuitor_50 (by decide) ?_
  refine r_istore_n C [(2, .int (0 : Int32)), (1, .int y2), (0, .ref h0)] dX9_readSuitor_51 (by decide) rfl ?_
  refine r_sub [2, 1, 0] [(0, .ref h0), (1, .int y2), (2, .int (0 : Int32))] rfl ?_
  exact p_X9_readSuitor_L52 C X  n S11 h0 y2 (0 : Int32) th0
set_option maxRecDepth 100000 in
set_option maxHeartbeats 4000000 in
theorem p_X9_readCourt_J78 {A : AM} {E : EN} {n : Nat} (C : Cx A E cX9_readCourt 3 RX9 3 69) (X : Ex A E none)  (S : WS) (h0 : Nat) (x1 : Int32) (th0 : Ty E h0 8) : Gd A E 3 (QM A E wV tT) (f_X9_readCourt_J78 E n  S h0 x1) S 78 [(0, .ref h0), (1, .int x1)] [] := by
  unfold f_X9_readCourt_J78
  refine r_aload_n C 0 dX9_readCourt_78 rfl ?_
  refine r_iconst C (0 : Int32) dX9_readCourt_79 (by decide) ?_
  refine r_aload_n C 0 dX9_readCourt_80 rfl ?_
  refine r_getr C fl_X9_31 dX9_readCourt_81 th0 (fun b1 tb1 => ?_)
  refine r_iconst C (3 : Int32) dX9_readCourt_84 (by decide) ?_
  refine r_iald C dX9_readCourt_85 tb1 ?_
  refine r_iconst C (1 : Int32) dX9_readCourt_86 (by decide) ?_
  refine r_isub C dX9_readCourt_87 ?_
  refine r_callV (As := [.int (0 : Int32), .int ((ai S b1 (3 : Int32).toNatClampNeg) - (1 : Int32))]) (rest := []) C (c_X9_number _ E n h0 (0 : Int32) ((ai S b1 (3 : Int32).toNatClampNeg) - (1 : Int32)) th0) dX9_readCourt_88 ml_X9_167 mv_X9_number ⟨TX9, _, rfl⟩ (by decide) th0 rfl rfl ⟨by decide, by decide⟩ (Nat.le_of_ble_eq_true rfl) (fun v3 S2 hv3 => ?_)
  refine r_istore_n C [(2, .int v3), (0, .ref h0), (1, .int x1)] dX9_readCourt_91 (by decide) rfl ?_
  refine r_aload_n C 1 dX9_readCourt_92 rfl ?_
  refine r_callV (As := []) (rest := []) C (c_X9_good _ E n h0 th0) dX9_readCourt_93 ml_X9_136 mv_X9_good ⟨TX9, _, rfl⟩ (by decide) th0 rfl rfl ⟨by decide, by decide⟩ (Nat.le_of_ble_eq_true rfl) (fun v5 S4 hv5 => ?_)
  refine r_if_eq C 109 dX9_readCourt_96 (by decide) ?_ ?_
  · exact r_return C X dX9_readCourt_109
  · refine r_aload_n C 1 dX9_readCourt_99 rfl ?_
    refine r_getr C fl_X9_31 dX9_readCourt_100 th0 (fun b6 tb6 => ?_)
    refine r_bipush C (102 : Int32) dX9_readCourt_103 (by decide) ?_
    refine r_iload_n C 2 dX9_readCourt_105 rfl ?_
    refine r_iadd C dX9_readCourt_106 ?_
    refine r_iload_n C 0 dX9_readCourt_107 rfl ?_
    refine r_iast C dX9_readCourt_108 tb6 (fun S7 => ?_)
    exact r_return C X dX9_readCourt_109
set_option maxRecDepth 100000 in
set_option maxHeartbeats 4000000 in
theorem c_X9_readCourt (l : Launch) (E : EN) (n : Nat) (h0 : Nat) (th0 : Ty E h0 8) : CT l E yX9_readCourt cX9_readCourt 3 none 3 69 wV tT [.ref h0] (fun S => f_X9_readCourt E n S h0) := by
  refine ct_of RX9 (by decide +kernel) rfl [(0, .ref h0)] rfl (Nat.le_of_ble_eq_true rfl) (fun A S hA C X => ?_)
  subst hA
  show Gd A E 3 (QM A E wV tT) (f_X9_readCourt E n S h0) S 0 [(0, .ref h0)] []
  unfold f_X9_readCourt
  refine r_aload_n C 0 dX9_readCourt_0 rfl ?_
  refine r_iconst C (0 : Int32) dX9_readCourt_1 (by decide) ?_
  refine r_aload_n C 0 dX9_readCourt_2 rfl ?_
  refine r_getr C fl_X9_31 dX9_readCourt_3 th0 (fun b1 tb1 => ?_)
  refine r_iconst C (4 : Int32) dX9_readCourt_6 (by decide) ?_
  refine r_iald C dX9_readCourt_7 tb1 ?_
  refine r_iconst C (1 : Int32) dX9_readCourt_8 (by decide) ?_
  refine r_isub C dX9_readCourt_9 ?_
  refine r_callV (As := [.int (0 : Int32), .int ((ai S b1 (4 : Int32).toNatClampNeg) - (1 : Int32))]) (rest := []) C (c_X9_number _ E n h0 (0 : Int32) ((ai S b1 (4 : Int32).toNatClampNeg) - (1 : Int32)) th0) dX9_readCourt_10 ml_X9_167 mv_X9_number ⟨TX9, _, rfl⟩ (by decide) th0 rfl rfl ⟨by decide, by decide⟩ (Nat.le_of_ble_eq_true rfl) (fun v3 S2 hv3 => ?_)
  refine r_istore_n C [(1, .int v3), (0, .ref h0)] dX9_readCourt_13 (by decide) rfl ?_
  refine r_aload_n C 1 dX9_readCourt_14 rfl ?_
  refine r_callV (As := []) (rest := []) C (c_X9_good _ E n h0 th0) dX9_readCourt_15 ml_X9_136 mv_X9_good ⟨TX9, _, rfl⟩ (by decide) th0 rfl rfl ⟨by decide, by decide⟩ (Nat.le_of_ble_eq_true rfl) (fun v5 S4 hv5 => ?_)
  refine r_if_eq C 78 dX9_readCourt_18 (by decide) ?_ ?_
  · refine r_sub [1, 0] [(0, .ref h0), (1, .int v3)] rfl ?_
    exact p_X9_readCourt_J78 C X  S4 h0 v3 th0
  · refine r_aload_n C 1 dX9_readCourt_21 rfl ?_
    refine r_geti C fl_X9_115 dX9_readCourt_22 th0 ?_
    refine r_iconst C (2 : Int32) dX9_readCourt_25 (by decide) ?_
    refine r_icmp_ne C 78 dX9_readCourt_26 (by decide) ?_ ?_
    · refine r_sub [1, 0] [(0, .ref h0), (1, .int v3)] rfl ?_
      exact p_X9_readCourt_J78 C X  S4 h0 v3 th0
    · refine r_aload_n C 1 dX9_readCourt_29 rfl ?_
      refine r_geti C fl_X9_126 dX9_readCourt_30 th0 ?_
      refine r_i2l C dX9_readCourt_33 ?_
      refine r_lconst C (0 : Int64) dX9_readCourt_34 (by decide) ?_
      refine r_aload_n C 1 dX9_readCourt_35 rfl ?_
      refine r_getr C fl_X9_31 dX9_readCourt_36 th0 (fun b6 tb6 => ?_)
      refine r_iconst C (3 : Int32) dX9_readCourt_39 (by decide) ?_
      refine r_iald C dX9_readCourt_40 tb6 ?_
      refine r_iconst C (1 : Int32) dX9_readCourt_41 (by decide) ?_
      refine r_isub C dX9_readCourt_42 ?_
      refine r_i2l C dX9_readCourt_43 ?_
      refine r_callS (As := [.long ((gi S4 523 h0).toInt64), .long (0 : Int64), .long (((ai S4 b6 (3 : Int32).toNatClampNeg) - (1 : Int32)).toInt64)]) (rest := []) C (c_X9_in _ E n ((gi S4 523 h0).toInt64) (0 : Int64) (((ai S4 b6 (3 : Int32).toNatClampNeg) - (1 : Int32)).toInt64) ) dX9_readCourt_44 ml_X9_82 mv_X9_in rfl rfl ⟨by decide, by decide⟩ (Nat.le_of_ble_eq_true rfl) (fun v8 S7 hv8 => ?_)
      refine r_if_eq C 78 dX9_readCourt_47 (by decide) ?_ ?_
      · refine r_sub [1, 0] [(0, .ref h0), (1, .int v3)] rfl ?_
        exact p_X9_readCourt_J78 C X  S7 h0 v3 th0
      · refine r_aload_n C 1 dX9_readCourt_50 rfl ?_
        refine r_getr C fl_X9_31 dX9_readCourt_51 th0 (fun b9 tb9 => ?_)
        refine r_bipush C (73 : Int32) dX9_readCourt_54 (by decide) ?_
        refine r_iconst C (3 : Int32) dX9_readCourt_56 (by decide) ?_
        refine r_iload_n C 0 dX9_readCourt_57 rfl ?_
        refine r_imul C dX9_readCourt_58 ?_
        refine r_iadd C dX9_readCourt_59 ?_
        refine r_iconst C (2 : Int32) dX9_readCourt_60 (by decide) ?_
        refine r_iadd C dX9_readCourt_61 ?_
        refine r_iald C dX9_readCourt_62 tb9 ?_
        refine r_aload_n C 1 dX9_readCourt_63 rfl ?_
        refine r_geti C fl_X9_126 dX9_readCourt_64 th0 ?_
        refine r_ishr C dX9_readCourt_67 ?_
        refine r_iconst C (1 : Int32) dX9_readCourt_68 (by decide) ?_
        refine r_iand C dX9_readCourt_69 ?_
        refine r_if_ne C 78 dX9_readCourt_70 (by decide) ?_ ?_
        · refine r_sub [1, 0] [(0, .ref h0), (1, .int v3)] rfl ?_
          exact p_X9_readCourt_J78 C X  S7 h0 v3 th0
        · refine r_aload_n C 1 dX9_readCourt_73 rfl ?_
          refine r_iconst C (2 : Int32) dX9_readCourt_74 (by decide) ?_
          refine r_callV (As := [.int (2 : Int32)]) (rest := []) C (c_X9_errs _ E n h0 (2 : Int32) th0) dX9_readCourt_75 ml_X9_159 mv_X9_errs ⟨TX9, _, rfl⟩ (by decide) th0 rfl rfl ⟨by decide, by decide⟩ (Nat.le_of_ble_eq_true rfl) (fun v11 S10 hv11 => ?_)
          refine r_sub [1, 0] [(0, .ref h0), (1, .int v3)] rfl ?_
          exact p_X9_readCourt_J78 C X  S10 h0 v3 th0
set_option maxRecDepth 100000 in
set_option maxHeartbeats 4000000 in
theorem p_X9_readNext_J161 {A : AM} {E : EN} {n : Nat} (C : Cx A E cX9_readNext 4 RX9 9 196) (X : Ex A E none)  (S : WS) (h0 : Nat) (th0 : Ty E h0 8) : Gd A E 4 (QM A E wV tT) (f_X9_readNext_J161 E n  S h0) S 161 [(0, .ref h0)] [] := by
  unfold f_X9_readNext_J161
  refine r_aload_n C 0 dX9_readNext_161 rfl ?_
  refine r_callV (As := []) (rest := []) C (c_X9_good _ E n h0 th0) dX9_readNext_162 ml_X9_136 mv_X9_good ⟨TX9, _, rfl⟩ (by decide) th0 rfl rfl ⟨by decide, by decide⟩ (Nat.le_of_ble_eq_true rfl) (fun v2 S1 hv2 => ?_)
  refine r_if_ne C 169 dX9_readNext_165 (by decide) ?_ ?_
  · refine r_aload_n C 0 dX9_readNext_169 rfl ?_
    refine r_ldcS C (tx := "height") 3 (List.mem_of_getElem? (i := 21) rfl) dX9_readNext_170 ?_
    refine r_callV (As := [.ref (eSK E 3)]) (rest := []) C (c_X9_takes _ E n h0 3 th0 (by decide)) dX9_readNext_172 ml_X9_156 mv_X9_takes ⟨TX9, _, rfl⟩ (by decide) th0 rfl rfl ⟨by decide, by decide⟩ (Nat.le_of_ble_eq_true rfl) (fun v4 S3 hv4 => ?_)
    refine r_if_eq C 211 dX9_readNext_175 (by decide) ?_ ?_
    · refine r_aload_n C 0 dX9_readNext_211 rfl ?_
      refine r_ldcS C (tx := "path") 4 (List.mem_of_getElem? (i := 22) rfl) dX9_readNext_212 ?_
      refine r_callV (As := [.ref (eSK E 4)]) (rest := []) C (c_X9_takes _ E n h0 4 th0 (by decide)) dX9_readNext_214 ml_X9_156 mv_X9_takes ⟨TX9, _, rfl⟩ (by decide) th0 rfl rfl ⟨by decide, by decide⟩ (Nat.le_of_ble_eq_true rfl) (fun v6 S5 hv6 => ?_)
      refine r_if_eq C 227 dX9_readNext_217 (by decide) ?_ ?_
      · refine r_aload_n C 0 dX9_readNext_227 rfl ?_
        refine r_ldcS C (tx := "bride") 6 (List.mem_of_getElem? (i := 23) rfl) dX9_readNext_228 ?_
        refine r_callV (As := [.ref (eSK E 6)]) (rest := []) C (c_X9_takes _ E n h0 6 th0 (by decide)) dX9_readNext_230 ml_X9_156 mv_X9_takes ⟨TX9, _, rfl⟩ (by decide) th0 rfl rfl ⟨by decide, by decide⟩ (Nat.le_of_ble_eq_true rfl) (fun v8 S7 hv8 => ?_)
        refine r_if_eq C 243 dX9_readNext_233 (by decide) ?_ ?_
        · refine r_aload_n C 0 dX9_readNext_243 rfl ?_
          refine r_ldcS C (tx := "suitor") 8 (List.mem_of_getElem? (i := 24) rfl) dX9_readNext_244 ?_
          refine r_callV (As := [.ref (eSK E 8)]) (rest := []) C (c_X9_takes _ E n h0 8 th0 (by decide)) dX9_readNext_246 ml_X9_156 mv_X9_takes ⟨TX9, _, rfl⟩ (by decide) th0 rfl rfl ⟨by decide, by decide⟩ (Nat.le_of_ble_eq_true rfl) (fun v10 S9 hv10 => ?_)
          refine r_if_eq C 259 dX9_readNext_249 (by decide) ?_ ?_
          · refine r_aload_n C 0 dX9_readNext_259 rfl ?_
            refine r_ldcS C (tx := "rain") 12 (List.mem_of_getElem? (i := 25) rfl) dX9_readNext_260 ?_
            refine r_callV (As := [.ref (eSK E 12)]) (rest := []) C (c_X9_takes _ E n h0 12 th0 (by decide)) dX9_readNext_262 ml_X9_156 mv_X9_takes ⟨TX9, _, rfl⟩ (by decide) th0 rfl rfl ⟨by decide, by decide⟩ (Nat.le_of_ble_eq_true rfl) (fun v12 S11 hv12 => ?_)
            refine r_if_eq C 303 dX9_readNext_265 (by decide) ?_ ?_
            · refine r_aload_n C 0 dX9_readNext_303 rfl ?_
              refine r_ldcS C (tx := "walker") 14 (List.mem_of_getElem? (i := 26) rfl) dX9_readNext_304 ?_
              refine r_callV (As := [.ref (eSK E 14)]) (rest := []) C (c_X9_takes _ E n h0 14 th0 (by decide)) dX9_readNext_306 ml_X9_156 mv_X9_takes ⟨TX9, _, rfl⟩ (by decide) th0 rfl rfl ⟨by decide, by decide⟩ (Nat.le_of_ble_eq_true rfl) (fun v14 S13 hv14 => ?_)
              refine r_if_eq C 375 dX9_readNext_309 (by decide) ?_ ?_
              · refine r_aload_n C 0 dX9_readNext_375 rfl ?_
                refine r_callV (As := []) (rest := []) C (c_X9_advance _ E n h0 th0) dX9_readNext_376 ml_X9_153 mv_X9_advance ⟨TX9, _, rfl⟩ (by decide) th0 rfl rfl ⟨by decide, by decide⟩ (Nat.le_of_ble_eq_true rfl) (fun v16 S15 hv16 => ?_)
                refine r_aload_n C 0 dX9_readNext_379 rfl ?_
                refine r_callV (As := []) (rest := []) C (c_X9_readCourt _ E n h0 th0) dX9_readNext_380 ml_X9_220 mv_X9_readCourt ⟨TX9, _, rfl⟩ (by decide) th0 rfl rfl ⟨by decide, by decide⟩ (Nat.le_of_ble_eq_true rfl) (fun v18 S17 hv18 => ?_)
                exact r_return C X dX9_readNext_383
              · refine r_bipush C (94 : Int32) dX9_readNext_312 (by decide) ?_
                refine r_iconst C (2 : Int32) dX9_readNext_314 (by decide) ?_
                refine r_aload_n C 0 dX9_readNext_315 rfl ?_
                refine r_getr C fl_X9_31 dX9_readNext_316 th0 (fun b19 tb19 => ?_)
                refine r_iconst C (5 : Int32) dX9_readNext_319 (by decide) ?_
                refine r_iald C dX9_readNext_320 tb19 ?_
                refine r_imul C dX9_readNext_321 ?_
                refine r_iadd C dX9_readNext_322 ?_
                refine r_topi (fun y20 => ?_)
                refine r_istore_n C [(2, .int y20), (0, .ref h0)] dX9_readNext_323 (by decide) rfl ?_
                refine r_aload_n C 1 dX9_readNext_324 rfl ?_
                refine r_getr C fl_X9_31 dX9_readNext_325 th0 (fun b21 tb21 => ?_)
                refine r_iload_n C 0 dX9_readNext_328 rfl ?_
                refine r_aload_n C 1 dX9_readNext_329 rfl ?_
                refine r_ldcS C (tx := "leap") 15 (List.mem_of_getElem? (i := 34) rfl) dX9_readNext_330 ?_
                refine r_iconst C (0 : Int32) dX9_readNext_332 (by decide) ?_
                refine r_bipush C (99 : Int32) dX9_readNext_333 (by decide) ?_
                refine r_callV (As := [.ref (eSK E 15), .int (0 : Int32), .int (99 : Int32)]) (rest := [.int y20, .ref b21]) C (c_X9_told _ E n h0 15 (0 : Int32) (99 : Int32) th0 (by decide)) dX9_readNext_335 ml_X9_181 mv_X9_told ⟨TX9, _, rfl⟩ (by decide) th0 rfl rfl ⟨by decide, by decide⟩ (Nat.le_of_ble_eq_true rfl) (fun v23 S22 hv23 => ?_)
                refine r_iast C dX9_readNext_338 tb21 (fun S24 => ?_)
                refine r_aload_n C 1 dX9_readNext_339 rfl ?_
                refine r_getr C fl_X9_31 dX9_readNext_340 th0 (fun b25 tb25 => ?_)
                refine r_iload_n C 0 dX9_readNext_343 rfl ?_
                refine r_iconst C (1 : Int32) dX9_readNext_344 (by decide) ?_
                refine r_iadd C dX9_readNext_345 ?_
                refine r_aload_n C 1 dX9_readNext_346 rfl ?_
                refine r_ldcS C (tx := "at") 16 (List.mem_of_getElem? (i := 35) rfl) dX9_readNext_347 ?_
                refine r_iconst C (0 : Int32) dX9_readNext_349 (by decide) ?_
                refine r_aload_n C 1 dX9_readNext_350 rfl ?_
                refine r_getr C fl_X9_31 dX9_readNext_351 th0 (fun b26 tb26 => ?_)
                refine r_iconst C (0 : Int32) dX9_readNext_354 (by decide) ?_
                refine r_iald C dX9_readNext_355 tb26 ?_
                refine r_iconst C (1 : Int32) dX9_readNext_356 (by decide) ?_
                refine r_isub C dX9_readNext_357 ?_
                refine r_callV (As := [.ref (eSK E 16), .int (0 : Int32), .int ((ai S24 b26 (0 : Int32).toNatClampNeg) - (1 : Int32))]) (rest := [.int (y20 + (1 : Int32)), .ref b25]) C (c_X9_told _ E n h0 16 (0 : Int32) ((ai S24 b26 (0 : Int32).toNatClampNeg) - (1 : Int32)) th0 (by decide)) dX9_readNext_358 ml_X9_181 mv_X9_told ⟨TX9, _, rfl⟩ (by decide) th0 rfl rfl ⟨by decide, by decide⟩ (Nat.le_of_ble_eq_true rfl) (fun v28 S27 hv28 => ?_)
                refine r_iast C dX9_readNext_361 tb25 (fun S29 => ?_)
                refine r_aload_n C 1 dX9_readNext_362 rfl ?_
                refine r_getr C fl_X9_31 dX9_readNext_363 th0 (fun b30 tb30 => ?_)
                refine r_iconst C (5 : Int32) dX9_readNext_366 (by decide) ?_
                refine r_dup2 C dX9_readNext_367 rfl rfl ?_
                refine r_iald C dX9_readNext_368 tb30 ?_
                refine r_iconst C (1 : Int32) dX9_readNext_369 (by decide) ?_
                refine r_iadd C dX9_readNext_370 ?_
                refine r_iast C dX9_readNext_371 tb30 (fun S31 => ?_)
                refine r_goto C 383 dX9_readNext_372 (by decide) ?_
                exact r_return C X dX9_readNext_383
            · refine r_aload_n C 0 dX9_readNext_268 rfl ?_
              refine r_callV (As := []) (rest := []) C (c_X9_freshYear _ E n h0 th0) dX9_readNext_269 ml_X9_213 mv_X9_freshYear ⟨TX9, _, rfl⟩ (by decide) th0 rfl rfl ⟨by decide, by decide⟩ (Nat.le_of_ble_eq_true rfl) (fun v33 S32 hv33 => ?_)
              refine r_istore_n C [(2, .int v33), (0, .ref h0)] dX9_readNext_272 (by decide) rfl ?_
              refine r_aload_n C 1 dX9_readNext_273 rfl ?_
              refine r_ldcS C (tx := "is") 13 (List.mem_of_getElem? (i := 33) rfl) dX9_readNext_274 ?_
              refine r_iconst C (0 : Int32) dX9_readNext_276 (by decide) ?_
              refine r_bipush C (100 : Int32) dX9_readNext_277 (by decide) ?_
              refine r_callV (As := [.ref (eSK E 13), .int (0 : Int32), .int (100 : Int32)]) (rest := []) C (c_X9_told _ E n h0 13 (0 : Int32) (100 : Int32) th0 (by decide)) dX9_readNext_279 ml_X9_181 mv_X9_told ⟨TX9, _, rfl⟩ (by decide) th0 rfl rfl ⟨by decide, by decide⟩ (Nat.le_of_ble_eq_true rfl) (fun v35 S34 hv35 => ?_)
              refine r_istore_n C [(3, .int v35), (2, .int v33), (0, .ref h0)] dX9_readNext_282 (by decide) rfl ?_
              refine r_aload_n C 2 dX9_readNext_283 rfl ?_
              refine r_callV (As := []) (rest := []) C (c_X9_good _ E n h0 th0) dX9_readNext_284 ml_X9_136 mv_X9_good ⟨TX9, _, rfl⟩ (by decide) th0 rfl rfl ⟨by decide, by decide⟩ (Nat.le_of_ble_eq_true rfl) (fun v37 S36 hv37 => ?_)
              refine r_if_eq C 300 dX9_readNext_287 (by decide) ?_ ?_
              · refine r_goto C 383 dX9_readNext_300 (by decide) ?_
                exact r_return C X dX9_readNext_383
              · refine r_aload_n C 2 dX9_readNext_290 rfl ?_
                refine r_getr C fl_X9_31 dX9_readNext_291 th0 (fun b38 tb38 => ?_)
                refine r_bipush C (15 : Int32) dX9_readNext_294 (by decide) ?_
                refine r_iload_n C 1 dX9_readNext_296 rfl ?_
                refine r_iadd C dX9_readNext_297 ?_
                refine r_iload_n C 0 dX9_readNext_298 rfl ?_
                refine r_iast C dX9_readNext_299 tb38 (fun S39 => ?_)
                refine r_goto C 383 dX9_readNext_300 (by decide) ?_
                exact r_return C X dX9_readNext_383
          · refine r_aload_n C 0 dX9_readNext_252 rfl ?_
            refine r_callV (As := []) (rest := []) C (c_X9_readSuitor _ E n h0 th0) dX9_readNext_253 ml_X9_210 mv_X9_readSuitor ⟨TX9, _, rfl⟩ (by decide) th0 rfl rfl ⟨by decide, by decide⟩ (Nat.le_of_ble_eq_true rfl) (fun v41 S40 hv41 => ?_)
            refine r_goto C 383 dX9_readNext_256 (by decide) ?_
            exact r_return C X dX9_readNext_383
        · refine r_aload_n C 0 dX9_readNext_236 rfl ?_
          refine r_callV (As := []) (rest := []) C (c_X9_readBride _ E n h0 th0) dX9_readNext_237 ml_X9_207 mv_X9_readBride ⟨TX9, _, rfl⟩ (by decide) th0 rfl rfl ⟨by decide, by decide⟩ (Nat.le_of_ble_eq_true rfl) (fun v43 S42 hv43 => ?_)
          refine r_goto C 383 dX9_readNext_240 (by decide) ?_
          exact r_return C X dX9_readNext_383
      · refine r_aload_n C 0 dX9_readNext_220 rfl ?_
        refine r_callV (As := []) (rest := []) C (c_X9_readPath _ E n h0 th0) dX9_readNext_221 ml_X9_204 mv_X9_readPath ⟨TX9, _, rfl⟩ (by decide) th0 rfl rfl ⟨by decide, by decide⟩ (Nat.le_of_ble_eq_true rfl) (fun v45 S44 hv45 => ?_)
        refine r_goto C 383 dX9_readNext_224 (by decide) ?_
        exact r_return C X dX9_readNext_383
    · refine r_aload_n C 0 dX9_readNext_178 rfl ?_
      refine r_callV (As := []) (rest := []) C (c_X9_freshPlace _ E n h0 th0) dX9_readNext_179 ml_X9_170 mv_X9_freshPlace ⟨TX9, _, rfl⟩ (by decide) th0 rfl rfl ⟨by decide, by decide⟩ (Nat.le_of_ble_eq_true rfl) (fun v47 S46 hv47 => ?_)
      refine r_istore_n C [(2, .int v47), (0, .ref h0)] dX9_readNext_182 (by decide) rfl ?_
      refine r_aload_n C 1 dX9_readNext_183 rfl ?_
      refine r_iconst C (0 : Int32) dX9_readNext_184 (by decide) ?_
      refine r_bipush C (99 : Int32) dX9_readNext_185 (by decide) ?_
      refine r_callV (As := [.int (0 : Int32), .int (99 : Int32)]) (rest := []) C (c_X9_number _ E n h0 (0 : Int32) (99 : Int32) th0) dX9_readNext_187 ml_X9_167 mv_X9_number ⟨TX9, _, rfl⟩ (by decide) th0 rfl rfl ⟨by decide, by decide⟩ (Nat.le_of_ble_eq_true rfl) (fun v49 S48 hv49 => ?_)
      refine r_istore_n C [(3, .int v49), (2, .int v47), (0, .ref h0)] dX9_readNext_190 (by decide) rfl ?_
      refine r_aload_n C 2 dX9_readNext_191 rfl ?_
      refine r_callV (As := []) (rest := []) C (c_X9_good _ E n h0 th0) dX9_readNext_192 ml_X9_136 mv_X9_good ⟨TX9, _, rfl⟩ (by decide) th0 rfl rfl ⟨by decide, by decide⟩ (Nat.le_of_ble_eq_true rfl) (fun v51 S50 hv51 => ?_)
      refine r_if_eq C 208 dX9_readNext_195 (by decide) ?_ ?_
      · refine r_goto C 383 dX9_readNext_208 (by decide) ?_
        exact r_return C X dX9_readNext_383
      · refine r_aload_n C 2 dX9_readNext_198 rfl ?_
        refine r_getr C fl_X9_31 dX9_readNext_199 th0 (fun b52 tb52 => ?_)
        refine r_bipush C (7 : Int32) dX9_readNext_202 (by decide) ?_
        refine r_iload_n C 1 dX9_readNext_204 rfl ?_
        refine r_iadd C dX9_readNext_205 ?_
        refine r_iload_n C 0 dX9_readNext_206 rfl ?_
        refine r_iast C dX9_readNext_207 tb52 (fun S53 => ?_)
        refine r_goto C 383 dX9_readNext_208 (by decide) ?_
        exact r_return C X dX9_readNext_383
  · exact r_return C X dX9_readNext_168
set_option maxRecDepth 100000 in
set_option maxHeartbeats 4000000 in
theorem p_X9_readNext_J137 {A : AM} {E : EN} {n : Nat} (C : Cx A E cX9_readNext 4 RX9 9 196) (X : Ex A E none)  (S : WS) (h0 : Nat) (th0 : Ty E h0 8) : Gd A E 4 (QM A E wV tT) (f_X9_readNext_J137 E n  S h0) S 137 [(0, .ref h0)] [] := by
  unfold f_X9_readNext_J137
  refine r_aload_n C 0 dX9_readNext_137 rfl ?_
  refine r_ldcS C (tx := "walker") 14 (List.mem_of_getElem? (i := 26) rfl) dX9_readNext_138 ?_
  refine r_callV (As := [.ref (eSK E 14)]) (rest := []) C (c_X9_is _ E n h0 14 th0 (by decide)) dX9_readNext_140 ml_X9_149 mv_X9_is ⟨TX9, _, rfl⟩ (by decide) th0 rfl rfl ⟨by decide, by decide⟩ (Nat.le_of_ble_eq_true rfl) (fun v2 S1 hv2 => ?_)
  refine r_if_eq C 161 dX9_readNext_143 (by decide) ?_ ?_
  · exact p_X9_readNext_J161 C X  S1 h0 th0
  · refine r_aload_n C 0 dX9_readNext_146 rfl ?_
    refine r_getr C fl_X9_31 dX9_readNext_147 th0 (fun b3 tb3 => ?_)
    refine r_iconst C (5 : Int32) dX9_readNext_150 (by decide) ?_
    refine r_iald C dX9_readNext_151 tb3 ?_
    refine r_iconst C (4 : Int32) dX9_readNext_152 (by decide) ?_
    refine r_icmp_ne C 161 dX9_readNext_153 (by decide) ?_ ?_
    · exact p_X9_readNext_J161 C X  S1 h0 th0
    · refine r_aload_n C 0 dX9_readNext_156 rfl ?_
      refine r_iconst C (3 : Int32) dX9_readNext_157 (by decide) ?_
      refine r_callV (As := [.int (3 : Int32)]) (rest := []) C (c_X9_errs _ E n h0 (3 : Int32) th0) dX9_readNext_158 ml_X9_159 mv_X9_errs ⟨TX9, _, rfl⟩ (by decide) th0 rfl rfl ⟨by decide, by decide⟩ (Nat.le_of_ble_eq_true rfl) (fun v5 S4 hv5 => ?_)
      exact p_X9_readNext_J161 C X  S4 h0 th0
set_option maxRecDepth 100000 in
set_option maxHeartbeats 4000000 in
theorem p_X9_readNext_J117 {A : AM} {E : EN} {n : Nat} (C : Cx A E cX9_readNext 4 RX9 9 196) (X : Ex A E none)  (S : WS) (h0 : Nat) (th0 : Ty E h0 8) : Gd A E 4 (QM A E wV tT) (f_X9_readNext_J117 E n  S h0) S 117 [(0, .ref h0)] [] := by
  unfold f_X9_readNext_J117
  refine r_aload_n C 0 dX9_readNext_117 rfl ?_
  refine r_ldcS C (tx := "suitor") 8 (List.mem_of_getElem? (i := 24) rfl) dX9_readNext_118 ?_
  refine r_callV (As := [.ref (eSK E 8)]) (rest := []) C (c_X9_is _ E n h0 8 th0 (by decide)) dX9_readNext_120 ml_X9_149 mv_X9_is ⟨TX9, _, rfl⟩ (by decide) th0 rfl rfl ⟨by decide, by decide⟩ (Nat.le_of_ble_eq_true rfl) (fun v2 S1 hv2 => ?_)
  refine r_if_eq C 137 dX9_readNext_123 (by decide) ?_ ?_
  · exact p_X9_readNext_J137 C X  S1 h0 th0
  · refine r_aload_n C 0 dX9_readNext_126 rfl ?_
    refine r_getr C fl_X9_31 dX9_readNext_127 th0 (fun b3 tb3 => ?_)
    refine r_iconst C (4 : Int32) dX9_readNext_130 (by decide) ?_
    refine r_iald C dX9_readNext_131 tb3 ?_
    refine r_bipush C (7 : Int32) dX9_readNext_132 (by decide) ?_
    refine r_icmp_eq C 156 dX9_readNext_134 (by decide) ?_ ?_
    · refine r_aload_n C 0 dX9_readNext_156 rfl ?_
      refine r_iconst C (3 : Int32) dX9_readNext_157 (by decide) ?_
      refine r_callV (As := [.int (3 : Int32)]) (rest := []) C (c_X9_errs _ E n h0 (3 : Int32) th0) dX9_readNext_158 ml_X9_159 mv_X9_errs ⟨TX9, _, rfl⟩ (by decide) th0 rfl rfl ⟨by decide, by decide⟩ (Nat.le_of_ble_eq_true rfl) (fun v5 S4 hv5 => ?_)
      exact p_X9_readNext_J161 C X  S4 h0 th0
    · exact p_X9_readNext_J137 C X  S1 h0 th0
set_option maxRecDepth 100000 in
set_option maxHeartbeats 4000000 in
theorem p_X9_readNext_J98 {A : AM} {E : EN} {n : Nat} (C : Cx A E cX9_readNext 4 RX9 9 196) (X : Ex A E none)  (S : WS) (h0 : Nat) (th0 : Ty E h0 8) : Gd A E 4 (QM A E wV tT) (f_X9_readNext_J98 E n  S h0) S 98 [(0, .ref h0)] [] := by
  unfold f_X9_readNext_J98
  refine r_aload_n C 0 dX9_readNext_98 rfl ?_
  refine r_ldcS C (tx := "bride") 6 (List.mem_of_getElem? (i := 23) rfl) dX9_readNext_99 ?_
  refine r_callV (As := [.ref (eSK E 6)]) (rest := []) C (c_X9_is _ E n h0 6 th0 (by decide)) dX9_readNext_101 ml_X9_149 mv_X9_is ⟨TX9, _, rfl⟩ (by decide) th0 rfl rfl ⟨by decide, by decide⟩ (Nat.le_of_ble_eq_true rfl) (fun v2 S1 hv2 => ?_)
  refine r_if_eq C 117 dX9_readNext_104 (by decide) ?_ ?_
  · exact p_X9_readNext_J117 C X  S1 h0 th0
  · refine r_aload_n C 0 dX9_readNext_107 rfl ?_
    refine r_getr C fl_X9_31 dX9_readNext_108 th0 (fun b3 tb3 => ?_)
    refine r_iconst C (3 : Int32) dX9_readNext_111 (by decide) ?_
    refine r_iald C dX9_readNext_112 tb3 ?_
    refine r_iconst C (4 : Int32) dX9_readNext_113 (by decide) ?_
    refine r_icmp_eq C 156 dX9_readNext_114 (by decide) ?_ ?_
    · refine r_aload_n C 0 dX9_readNext_156 rfl ?_
      refine r_iconst C (3 : Int32) dX9_readNext_157 (by decide) ?_
      refine r_callV (As := [.int (3 : Int32)]) (rest := []) C (c_X9_errs _ E n h0 (3 : Int32) th0) dX9_readNext_158 ml_X9_159 mv_X9_errs ⟨TX9, _, rfl⟩ (by decide) th0 rfl rfl ⟨by decide, by decide⟩ (Nat.le_of_ble_eq_true rfl) (fun v5 S4 hv5 => ?_)
      exact p_X9_readNext_J161 C X  S4 h0 th0
    · exact p_X9_readNext_J117 C X  S1 h0 th0
set_option maxRecDepth 100000 in
set_option maxHeartbeats 4000000 in
theorem p_X9_readNext_J78 {A : AM} {E : EN} {n : Nat} (C : Cx A E cX9_readNext 4 RX9 9 196) (X : Ex A E none)  (S : WS) (h0 : Nat) (th0 : Ty E h0 8) : Gd A E 4 (QM A E wV tT) (f_X9_readNext_J78 E n  S h0) S 78 [(0, .ref h0)] [] := by
  unfold f_X9_readNext_J78
  refine r_aload_n C 0 dX9_readNext_78 rfl ?_
  refine r_ldcS C (tx := "path") 4 (List.mem_of_getElem? (i := 22) rfl) dX9_readNext_79 ?_
  refine r_callV (As := [.ref (eSK E 4)]) (rest := []) C (c_X9_is _ E n h0 4 th0 (by decide)) dX9_readNext_81 ml_X9_149 mv_X9_is ⟨TX9, _, rfl⟩ (by decide) th0 rfl rfl ⟨by decide, by decide⟩ (Nat.le_of_ble_eq_true rfl) (fun v2 S1 hv2 => ?_)
  refine r_if_eq C 98 dX9_readNext_84 (by decide) ?_ ?_
  · exact p_X9_readNext_J98 C X  S1 h0 th0
  · refine r_aload_n C 0 dX9_readNext_87 rfl ?_
    refine r_getr C fl_X9_31 dX9_readNext_88 th0 (fun b3 tb3 => ?_)
    refine r_iconst C (2 : Int32) dX9_readNext_91 (by decide) ?_
    refine r_iald C dX9_readNext_92 tb3 ?_
    refine r_bipush C (10 : Int32) dX9_readNext_93 (by decide) ?_
    refine r_icmp_eq C 156 dX9_readNext_95 (by decide) ?_ ?_
    · refine r_aload_n C 0 dX9_readNext_156 rfl ?_
      refine r_iconst C (3 : Int32) dX9_readNext_157 (by decide) ?_
      refine r_callV (As := [.int (3 : Int32)]) (rest := []) C (c_X9_errs _ E n h0 (3 : Int32) th0) dX9_readNext_158 ml_X9_159 mv_X9_errs ⟨TX9, _, rfl⟩ (by decide) th0 rfl rfl ⟨by decide, by decide⟩ (Nat.le_of_ble_eq_true rfl) (fun v5 S4 hv5 => ?_)
      exact p_X9_readNext_J161 C X  S4 h0 th0
    · exact p_X9_readNext_J98 C X  S1 h0 th0
set_option maxRecDepth 100000 in
set_option maxHeartbeats 4000000 in
theorem c_X9_readNext (l : Launch) (E : EN) (n : Nat) (h0 : Nat) (th0 : Ty E h0 8) : CT l E yX9_readNext cX9_readNext 4 none 9 196 wV tT [.ref h0] (fun S => f_X9_readNext E n S h0) := by
  refine ct_of RX9 (by decide +kernel) rfl [(0, .ref h0)] rfl (Nat.le_of_ble_eq_true rfl) (fun A S hA C X => ?_)
  subst hA
  show Gd A E 4 (QM A E wV tT) (f_X9_readNext E n S h0) S 0 [(0, .ref h0)] []
  unfold f_X9_readNext
  refine r_aload_n C 0 dX9_readNext_0 rfl ?_
  refine r_ldcS C (tx := "height") 3 (List.mem_of_getElem? (i := 21) rfl) dX9_readNext_1 ?_
  refine r_callV (As := [.ref (eSK E 3)]) (rest := []) C (c_X9_is _ E n h0 3 th0 (by decide)) dX9_readNext_3 ml_X9_149 mv_X9_is ⟨TX9, _, rfl⟩ (by decide) th0 rfl rfl ⟨by decide, by decide⟩ (Nat.le_of_ble_eq_true rfl) (fun v2 S1 hv2 => ?_)
  refine r_if_ne C 63 dX9_readNext_6 (by decide) ?_ ?_
  · refine r_iconst C (1 : Int32) dX9_readNext_63 (by decide) ?_
    refine r_goto C 68 dX9_readNext_64 (by decide) ?_
    refine r_istore_n C [(1, .int (1 : Int32)), (0, .ref h0)] dX9_readNext_68 (by decide) rfl ?_
    refine r_iload_n C 0 dX9_readNext_69 rfl ?_
    refine r_if_neT C 78 dX9_readNext_70 (by decide) (by decide) ?_
    refine r_sub [1] [(0, .ref h0)] rfl ?_
    exact p_X9_readNext_J78 C X  S1 h0 th0
  · refine r_aload_n C 0 dX9_readNext_9 rfl ?_
    refine r_ldcS C (tx := "path") 4 (List.mem_of_getElem? (i := 22) rfl) dX9_readNext_10 ?_
    refine r_callV (As := [.ref (eSK E 4)]) (rest := []) C (c_X9_is _ E n h0 4 th0 (by decide)) dX9_readNext_12 ml_X9_149 mv_X9_is ⟨TX9, _, rfl⟩ (by decide) th0 rfl rfl ⟨by decide, by decide⟩ (Nat.le_of_ble_eq_true rfl) (fun v4 S3 hv4 => ?_)
    refine r_if_ne C 63 dX9_readNext_15 (by decide) ?_ ?_
    · refine r_iconst C (1 : Int32) dX9_readNext_63 (by decide) ?_
      refine r_goto C 68 dX9_readNext_64 (by decide) ?_
      refine r_istore_n C [(1, .int (1 : Int32)), (0, .ref h0)] dX9_readNext_68 (by decide) rfl ?_
      refine r_iload_n C 0 dX9_readNext_69 rfl ?_
      refine r_if_neT C 78 dX9_readNext_70 (by decide) (by decide) ?_
      refine r_sub [1] [(0, .ref h0)] rfl ?_
      exact p_X9_readNext_J78 C X  S3 h0 th0
    · refine r_aload_n C 0 dX9_readNext_18 rfl ?_
      refine r_ldcS C (tx := "bride") 6 (List.mem_of_getElem? (i := 23) rfl) dX9_readNext_19 ?_
      refine r_callV (As := [.ref (eSK E 6)]) (rest := []) C (c_X9_is _ E n h0 6 th0 (by decide)) dX9_readNext_21 ml_X9_149 mv_X9_is ⟨TX9, _, rfl⟩ (by decide) th0 rfl rfl ⟨by decide, by decide⟩ (Nat.le_of_ble_eq_true rfl) (fun v6 S5 hv6 => ?_)
      refine r_if_ne C 63 dX9_readNext_24 (by decide) ?_ ?_
      · refine r_iconst C (1 : Int32) dX9_readNext_63 (by decide) ?_
        refine r_goto C 68 dX9_readNext_64 (by decide) ?_
        refine r_istore_n C [(1, .int (1 : Int32)), (0, .ref h0)] dX9_readNext_68 (by decide) rfl ?_
        refine r_iload_n C 0 dX9_readNext_69 rfl ?_
        refine r_if_neT C 78 dX9_readNext_70 (by decide) (by decide) ?_
        refine r_sub [1] [(0, .ref h0)] rfl ?_
        exact p_X9_readNext_J78 C X  S5 h0 th0
      · refine r_aload_n C 0 dX9_readNext_27 rfl ?_
        refine r_ldcS C (tx := "suitor") 8 (List.mem_of_getElem? (i := 24) rfl) dX9_readNext_28 ?_
        refine r_callV (As := [.ref (eSK E 8)]) (rest := []) C (c_X9_is _ E n h0 8 th0 (by decide)) dX9_readNext_30 ml_X9_149 mv_X9_is ⟨TX9, _, rfl⟩ (by decide) th0 rfl rfl ⟨by decide, by decide⟩ (Nat.le_of_ble_eq_true rfl) (fun v8 S7 hv8 => ?_)
        refine r_if_ne C 63 dX9_readNext_33 (by decide) ?_ ?_
        · refine r_iconst C (1 : Int32) dX9_readNext_63 (by decide) ?_
          refine r_goto C 68 dX9_readNext_64 (by decide) ?_
          refine r_istore_n C [(1, .int (1 : Int32)), (0, .ref h0)] dX9_readNext_68 (by decide) rfl ?_
          refine r_iload_n C 0 dX9_readNext_69 rfl ?_
          refine r_if_neT C 78 dX9_readNext_70 (by decide) (by decide) ?_
          refine r_sub [1] [(0, .ref h0)] rfl ?_
          exact p_X9_readNext_J78 C X  S7 h0 th0
        · refine r_aload_n C 0 dX9_readNext_36 rfl ?_
          refine r_ldcS C (tx := "rain") 12 (List.mem_of_getElem? (i := 25) rfl) dX9_readNext_37 ?_
          refine r_callV (As := [.ref (eSK E 12)]) (rest := []) C (c_X9_is _ E n h0 12 th0 (by decide)) dX9_readNext_39 ml_X9_149 mv_X9_is ⟨TX9, _, rfl⟩ (by decide) th0 rfl rfl ⟨by decide, by decide⟩ (Nat.le_of_ble_eq_true rfl) (fun v10 S9 hv10 => ?_)
          refine r_if_ne C 63 dX9_readNext_42 (by decide) ?_ ?_
          · refine r_iconst C (1 : Int32) dX9_readNext_63 (by decide) ?_
            refine r_goto C 68 dX9_readNext_64 (by decide) ?_
            refine r_istore_n C [(1, .int (1 : Int32)), (0, .ref h0)] dX9_readNext_68 (by decide) rfl ?_
            refine r_iload_n C 0 dX9_readNext_69 rfl ?_
            refine r_if_neT C 78 dX9_readNext_70 (by decide) (by decide) ?_
            refine r_sub [1] [(0, .ref h0)] rfl ?_
            exact p_X9_readNext_J78 C X  S9 h0 th0
          · refine r_aload_n C 0 dX9_readNext_45 rfl ?_
            refine r_ldcS C (tx := "walker") 14 (List.mem_of_getElem? (i := 26) rfl) dX9_readNext_46 ?_
            refine r_callV (As := [.ref (eSK E 14)]) (rest := []) C (c_X9_is _ E n h0 14 th0 (by decide)) dX9_readNext_48 ml_X9_149 mv_X9_is ⟨TX9, _, rfl⟩ (by decide) th0 rfl rfl ⟨by decide, by decide⟩ (Nat.le_of_ble_eq_true rfl) (fun v12 S11 hv12 => ?_)
            refine r_if_ne C 63 dX9_readNext_51 (by decide) ?_ ?_
            · refine r_iconst C (1 : Int32) dX9_readNext_63 (by decide) ?_
              refine r_goto C 68 dX9_readNext_64 (by decide) ?_
              refine r_istore_n C [(1, .int (1 : Int32)), (0, .ref h0)] dX9_readNext_68 (by decide) rfl ?_
              refine r_iload_n C 0 dX9_readNext_69 rfl ?_
              refine r_if_neT C 78 dX9_readNext_70 (by decide) (by decide) ?_
              refine r_sub [1] [(0, .ref h0)] rfl ?_
              exact p_X9_readNext_J78 C X  S11 h0 th0
            · refine r_aload_n C 0 dX9_readNext_54 rfl ?_
              refine r_ldcS C (tx := "court") 17 (List.mem_of_getElem? (i := 27) rfl) dX9_readNext_55 ?_
              refine r_callV (As := [.ref (eSK E 17)]) (rest := []) C (c_X9_is _ E n h0 17 th0 (by decide)) dX9_readNext_57 ml_X9_149 mv_X9_is ⟨TX9, _, rfl⟩ (by decide) th0 rfl rfl ⟨by decide, by decide⟩ (Nat.le_of_ble_eq_true rfl) (fun v14 S13 hv14 => ?_)
              refine r_if_eq C 67 dX9_readNext_60 (by decide) ?_ ?_
              · refine r_iconst C (0 : Int32) dX9_readNext_67 (by decide) ?_
                refine r_istore_n C [(1, .int (0 : Int32)), (0, .ref h0)] dX9_readNext_68 (by decide) rfl ?_
                refine r_iload_n C 0 dX9_readNext_69 rfl ?_
                refine r_if_neF C 78 dX9_readNext_70 (by decide) (by decide) ?_
                refine r_aload_n C 1 dX9_readNext_73 rfl ?_
                refine r_iconst C (1 : Int32) dX9_readNext_74 (by decide) ?_
                refine r_callV (As := [.int (1 : Int32)]) (rest := []) C (c_X9_errs _ E n h0 (1 : Int32) th0) dX9_readNext_75 ml_X9_159 mv_X9_errs ⟨TX9, _, rfl⟩ (by decide) th0 rfl rfl ⟨by decide, by decide⟩ (Nat.le_of_ble_eq_true rfl) (fun v16 S15 hv16 => ?_)
                refine r_sub [1] [(0, .ref h0)] rfl ?_
                exact p_X9_readNext_J78 C X  S15 h0 th0
              · refine r_iconst C (1 : Int32) dX9_readNext_63 (by decide) ?_
                refine r_goto C 68 dX9_readNext_64 (by decide) ?_
                refine r_istore_n C [(1, .int (1 : Int32)), (0, .ref h0)] dX9_readNext_68 (by decide) rfl ?_
                refine r_iload_n C 0 dX9_readNext_69 rfl ?_
                refine r_if_neT C 78 dX9_readNext_70 (by decide) (by decide) ?_
                refine r_sub [1] [(0, .ref h0)] rfl ?_
                exact p_X9_readNext_J78 C X  S13 h0 th0
set_option maxRecDepth 100000 in
set_option maxHeartbeats 4000000 in
theorem p_X9_readLine_J73 {A : AM} {E : EN} {n : Nat} (C : Cx A E cX9_readLine 1 RX9 10 219) (X : Ex A E none)  (S : WS) (h0 : Nat) (th0 : Ty E h0 8) : Gd A E 1 (QM A E wV tT) (f_X9_readLine_J73 E n  S h0) S 73 [(0, .ref h0)] [] := by
  unfold f_X9_readLine_J73
  refine r_aload_n C 0 dX9_readLine_73 rfl ?_
  refine r_callV (As := []) (rest := []) C (c_X9_good _ E n h0 th0) dX9_readLine_74 ml_X9_136 mv_X9_good ⟨TX9, _, rfl⟩ (by decide) th0 rfl rfl ⟨by decide, by decide⟩ (Nat.le_of_ble_eq_true rfl) (fun v2 S1 hv2 => ?_)
  refine r_if_eq C 84 dX9_readLine_77 (by decide) ?_ ?_
  · refine r_aload_n C 0 dX9_readLine_84 rfl ?_
    refine r_getr C fl_X9_31 dX9_readLine_85 th0 (fun b3 tb3 => ?_)
    refine r_bipush C (6 : Int32) dX9_readLine_88 (by decide) ?_
    refine r_dup2 C dX9_readLine_90 rfl rfl ?_
    refine r_iald C dX9_readLine_91 tb3 ?_
    refine r_iconst C (1 : Int32) dX9_readLine_92 (by decide) ?_
    refine r_iadd C dX9_readLine_93 ?_
    refine r_iast C dX9_readLine_94 tb3 (fun S4 => ?_)
    exact r_return C X dX9_readLine_95
  · refine r_aload_n C 0 dX9_readLine_80 rfl ?_
    refine r_callV (As := []) (rest := []) C (c_X9_advance _ E n h0 th0) dX9_readLine_81 ml_X9_153 mv_X9_advance ⟨TX9, _, rfl⟩ (by decide) th0 rfl rfl ⟨by decide, by decide⟩ (Nat.le_of_ble_eq_true rfl) (fun v6 S5 hv6 => ?_)
    refine r_aload_n C 0 dX9_readLine_84 rfl ?_
    refine r_getr C fl_X9_31 dX9_readLine_85 th0 (fun b7 tb7 => ?_)
    refine r_bipush C (6 : Int32) dX9_readLine_88 (by decide) ?_
    refine r_dup2 C dX9_readLine_90 rfl rfl ?_
    refine r_iald C dX9_readLine_91 tb7 ?_
    refine r_iconst C (1 : Int32) dX9_readLine_92 (by decide) ?_
    refine r_iadd C dX9_readLine_93 ?_
    refine r_iast C dX9_readLine_94 tb7 (fun S8 => ?_)
    exact r_return C X dX9_readLine_95
set_option maxRecDepth 100000 in
set_option maxHeartbeats 4000000 in
theorem c_X9_readLine (l : Launch) (E : EN) (n : Nat) (h0 : Nat) (th0 : Ty E h0 8) : CT l E yX9_readLine cX9_readLine 1 none 10 219 wV tT [.ref h0] (fun S => f_X9_readLine E n S h0) := by
  refine ct_of RX9 (by decide +kernel) rfl [(0, .ref h0)] rfl (Nat.le_of_ble_eq_true rfl) (fun A S hA C X => ?_)
  subst hA
  show Gd A E 1 (QM A E wV tT) (f_X9_readLine E n S h0) S 0 [(0, .ref h0)] []
  unfold f_X9_readLine
  refine r_aload_n C 0 dX9_readLine_0 rfl ?_
  refine r_getr C fl_X9_31 dX9_readLine_1 th0 (fun b1 tb1 => ?_)
  refine r_bipush C (6 : Int32) dX9_readLine_4 (by decide) ?_
  refine r_iald C dX9_readLine_6 tb1 ?_
  refine r_if_ne C 49 dX9_readLine_7 (by decide) ?_ ?_
  · refine r_aload_n C 0 dX9_readLine_49 rfl ?_
    refine r_callV (As := []) (rest := []) C (c_X9_readNext _ E n h0 th0) dX9_readLine_50 ml_X9_228 mv_X9_readNext ⟨TX9, _, rfl⟩ (by decide) th0 rfl rfl ⟨by decide, by decide⟩ (Nat.le_of_ble_eq_true rfl) (fun v3 S2 hv3 => ?_)
    refine r_aload_n C 0 dX9_readLine_53 rfl ?_
    refine r_callV (As := []) (rest := []) C (c_X9_good _ E n h0 th0) dX9_readLine_54 ml_X9_136 mv_X9_good ⟨TX9, _, rfl⟩ (by decide) th0 rfl rfl ⟨by decide, by decide⟩ (Nat.le_of_ble_eq_true rfl) (fun v5 S4 hv5 => ?_)
    refine r_if_eq C 73 dX9_readLine_57 (by decide) ?_ ?_
    · exact p_X9_readLine_J73 C X  S4 h0 th0
    · refine r_aload_n C 0 dX9_readLine_60 rfl ?_
      refine r_geti C fl_X9_115 dX9_readLine_61 th0 ?_
      refine r_iconst C (3 : Int32) dX9_readLine_64 (by decide) ?_
      refine r_icmp_eq C 73 dX9_readLine_65 (by decide) ?_ ?_
      · exact p_X9_readLine_J73 C X  S4 h0 th0
      · refine r_aload_n C 0 dX9_readLine_68 rfl ?_
        refine r_iconst C (1 : Int32) dX9_readLine_69 (by decide) ?_
        refine r_callV (As := [.int (1 : Int32)]) (rest := []) C (c_X9_errs _ E n h0 (1 : Int32) th0) dX9_readLine_70 ml_X9_159 mv_X9_errs ⟨TX9, _, rfl⟩ (by decide) th0 rfl rfl ⟨by decide, by decide⟩ (Nat.le_of_ble_eq_true rfl) (fun v7 S6 hv7 => ?_)
        exact p_X9_readLine_J73 C X  S6 h0 th0
  · refine r_aload_n C 0 dX9_readLine_10 rfl ?_
    refine r_ldcS C (tx := "mountain") 0 (List.mem_of_getElem? (i := 18) rfl) dX9_readLine_11 ?_
    refine r_callV (As := [.ref (eSK E 0)]) (rest := []) C (c_X9_needs _ E n h0 0 th0 (by decide)) dX9_readLine_13 ml_X9_163 mv_X9_needs ⟨TX9, _, rfl⟩ (by decide) th0 rfl rfl ⟨by decide, by decide⟩ (Nat.le_of_ble_eq_true rfl) (fun v9 S8 hv9 => ?_)
    refine r_aload_n C 0 dX9_readLine_16 rfl ?_
    refine r_getr C fl_X9_31 dX9_readLine_17 th0 (fun b10 tb10 => ?_)
    refine r_iconst C (0 : Int32) dX9_readLine_20 (by decide) ?_
    refine r_aload_n C 0 dX9_readLine_21 rfl ?_
    refine r_ldcS C (tx := "places") 1 (List.mem_of_getElem? (i := 19) rfl) dX9_readLine_22 ?_
    refine r_iconst C (2 : Int32) dX9_readLine_24 (by decide) ?_
    refine r_bipush C (8 : Int32) dX9_readLine_25 (by decide) ?_
    refine r_callV (As := [.ref (eSK E 1), .int (2 : Int32), .int (8 : Int32)]) (rest := [.int (0 : Int32), .ref b10]) C (c_X9_told _ E n h0 1 (2 : Int32) (8 : Int32) th0 (by decide)) dX9_readLine_27 ml_X9_181 mv_X9_told ⟨TX9, _, rfl⟩ (by decide) th0 rfl rfl ⟨by decide, by decide⟩ (Nat.le_of_ble_eq_true rfl) (fun v12 S11 hv12 => ?_)
    refine r_iast C dX9_readLine_30 tb10 (fun S13 => ?_)
    refine r_aload_n C 0 dX9_readLine_31 rfl ?_
    refine r_getr C fl_X9_31 dX9_readLine_32 th0 (fun b14 tb14 => ?_)
    refine r_iconst C (1 : Int32) dX9_readLine_35 (by decide) ?_
    refine r_aload_n C 0 dX9_readLine_36 rfl ?_
    refine r_ldcS C (tx := "years") 2 (List.mem_of_getElem? (i := 20) rfl) dX9_readLine_37 ?_
    refine r_iconst C (1 : Int32) dX9_readLine_39 (by decide) ?_
    refine r_bipush C (30 : Int32) dX9_readLine_40 (by decide) ?_
    refine r_callV (As := [.ref (eSK E 2), .int (1 : Int32), .int (30 : Int32)]) (rest := [.int (1 : Int32), .ref b14]) C (c_X9_told _ E n h0 2 (1 : Int32) (30 : Int32) th0 (by decide)) dX9_readLine_42 ml_X9_181 mv_X9_told ⟨TX9, _, rfl⟩ (by decide) th0 rfl rfl ⟨by decide, by decide⟩ (Nat.le_of_ble_eq_true rfl) (fun v16 S15 hv16 => ?_)
    refine r_iast C dX9_readLine_45 tb14 (fun S17 => ?_)
    refine r_goto C 53 dX9_readLine_46 (by decide) ?_
    refine r_aload_n C 0 dX9_readLine_53 rfl ?_
    refine r_callV (As := []) (rest := []) C (c_X9_good _ E n h0 th0) dX9_readLine_54 ml_X9_136 mv_X9_good ⟨TX9, _, rfl⟩ (by decide) th0 rfl rfl ⟨by decide, by decide⟩ (Nat.le_of_ble_eq_true rfl) (fun v19 S18 hv19 => ?_)
    refine r_if_eq C 73 dX9_readLine_57 (by decide) ?_ ?_
    · exact p_X9_readLine_J73 C X  S18 h0 th0
    · refine r_aload_n C 0 dX9_readLine_60 rfl ?_
      refine r_geti C fl_X9_115 dX9_readLine_61 th0 ?_
      refine r_iconst C (3 : Int32) dX9_readLine_64 (by decide) ?_
      refine r_icmp_eq C 73 dX9_readLine_65 (by decide) ?_ ?_
      · exact p_X9_readLine_J73 C X  S18 h0 th0
      · refine r_aload_n C 0 dX9_readLine_68 rfl ?_
        refine r_iconst C (1 : Int32) dX9_readLine_69 (by decide) ?_
        refine r_callV (As := [.int (1 : Int32)]) (rest := []) C (c_X9_errs _ E n h0 (1 : Int32) th0) dX9_readLine_70 ml_X9_159 mv_X9_errs ⟨TX9, _, rfl⟩ (by decide) th0 rfl rfl ⟨by decide, by decide⟩ (Nat.le_of_ble_eq_true rfl) (fun v21 S20 hv21 => ?_)
        exact p_X9_readLine_J73 C X  S20 h0 th0
set_option maxRecDepth 100000 in
set_option maxHeartbeats 4000000 in
theorem p_X9_mountain_L96 {A : AM} {E : EN} {n : Nat} (C : Cx A E cX9_mountain 2 RX9 11 239) (X : Ex A E (some .int))  : ∀ (m : Nat) (S : WS) (h0 : Nat) (x1 : Int32) (th0 : Ty E h0 8), Gd A E 2 (QM A E wI tT) (f_X9_mountain_L96 E n  m S h0 x1) S 96 [(0, .ref h0), (1, .int x1)] [] := by
  intro m
  induction m with
  | zero => intros; exact gn
  | succ m ih =>
    intro S h0 x1 th0
    unfold f_X9_mountain_L96
    refine r_iload_n C 1 dX9_mountain_96 rfl ?_
    refine r_bipush C (109 : Int32) dX9_mountain_97 (by decide) ?_
    refine r_icmp_ge C 120 dX9_mountain_99 (by decide) ?_ ?_
    · refine r_aload_n C 0 dX9_mountain_120 rfl ?_
      refine r_getr C fl_X9_9 dX9_mountain_121 th0 (fun b1 tb1 => ?_)
      refine r_bipush C (6 : Int32) dX9_mountain_124 (by decide) ?_
      refine r_iald C dX9_mountain_126 tb1 ?_
      exact r_ireturn C X dX9_mountain_127
    · refine r_aload_n C 0 dX9_mountain_102 rfl ?_
      refine r_getr C fl_X9_9 dX9_mountain_103 th0 (fun b2 tb2 => ?_)
      refine r_iload_n C 1 dX9_mountain_106 rfl ?_
      refine r_aload_n C 0 dX9_mountain_107 rfl ?_
      refine r_getr C fl_X9_31 dX9_mountain_108 th0 (fun b3 tb3 => ?_)
      refine r_iload_n C 1 dX9_mountain_111 rfl ?_
      refine r_iald C dX9_mountain_112 tb3 ?_
      refine r_iast C dX9_mountain_113 tb2 (fun S4 => ?_)
      refine r_iinc C 1 (fun y5 => [(1, .int y5), (0, .ref h0)]) dX9_mountain_114 rfl (v := (1 : Int32)) (by decide) (by decide) (fun _ => rfl) (fun y5 => ?_)
      refine r_goto C 96 dX9_mountain_117 (by decide) ?_
      refine r_sub [1, 0] [(0, .ref h0), (1, .int y5)] rfl ?_
      exact ih S4 h0 y5 th0
set_option maxRecDepth 100000 in
set_option maxHeartbeats 4000000 in
theorem p_X9_mountain_L63 {A : AM} {E : EN} {n : Nat} (C : Cx A E cX9_mountain 2 RX9 11 239) (X : Ex A E (some .int))  : ∀ (m : Nat) (S : WS) (h0 : Nat) (th0 : Ty E h0 8), Gd A E 2 (QM A E wI tT) (f_X9_mountain_L63 E n  m S h0) S 63 [(0, .ref h0)] [] := by
  intro m
  induction m with
  | zero => intros; exact gn
  | succ m ih =>
    intro S h0 th0
    unfold f_X9_mountain_L63
    refine r_aload_n C 0 dX9_mountain_63 rfl ?_
    refine r_callV (As := []) (rest := []) C (c_X9_good _ E n h0 th0) dX9_mountain_64 ml_X9_136 mv_X9_good ⟨TX9, _, rfl⟩ (by decide) th0 rfl rfl ⟨by decide, by decide⟩ (Nat.le_of_ble_eq_true rfl) (fun v2 S1 hv2 => ?_)
    refine r_if_eq C 84 dX9_mountain_67 (by decide) ?_ ?_
    · refine r_aload_n C 0 dX9_mountain_84 rfl ?_
      refine r_callV (As := []) (rest := []) C (c_X9_good _ E n h0 th0) dX9_mountain_85 ml_X9_136 mv_X9_good ⟨TX9, _, rfl⟩ (by decide) th0 rfl rfl ⟨by decide, by decide⟩ (Nat.le_of_ble_eq_true rfl) (fun v4 S3 hv4 => ?_)
      refine r_if_ne C 94 dX9_mountain_88 (by decide) ?_ ?_
      · refine r_iconst C (0 : Int32) dX9_mountain_94 (by decide) ?_
        refine r_istore_n C [(1, .int (0 : Int32)), (0, .ref h0)] dX9_mountain_95 (by decide) rfl ?_
        refine r_sub [1, 0] [(0, .ref h0), (1, .int (0 : Int32))] rfl ?_
        exact p_X9_mountain_L96 C X  n S3 h0 (0 : Int32) th0
      · refine r_bipush C (-4 : Int32) dX9_mountain_91 (by decide) ?_
        exact r_ireturn C X dX9_mountain_93
    · refine r_aload_n C 0 dX9_mountain_70 rfl ?_
      refine r_geti C fl_X9_115 dX9_mountain_71 th0 ?_
      refine r_if_eq C 84 dX9_mountain_74 (by decide) ?_ ?_
      · refine r_aload_n C 0 dX9_mountain_84 rfl ?_
        refine r_callV (As := []) (rest := []) C (c_X9_good _ E n h0 th0) dX9_mountain_85 ml_X9_136 mv_X9_good ⟨TX9, _, rfl⟩ (by decide) th0 rfl rfl ⟨by decide, by decide⟩ (Nat.le_of_ble_eq_true rfl) (fun v6 S5 hv6 => ?_)
        refine r_if_ne C 94 dX9_mountain_88 (by decide) ?_ ?_
        · refine r_iconst C (0 : Int32) dX9_mountain_94 (by decide) ?_
          refine r_istore_n C [(1, .int (0 : Int32)), (0, .ref h0)] dX9_mountain_95 (by decide) rfl ?_
          refine r_sub [1, 0] [(0, .ref h0), (1, .int (0 : Int32))] rfl ?_
          exact p_X9_mountain_L96 C X  n S5 h0 (0 : Int32) th0
        · refine r_bipush C (-4 : Int32) dX9_mountain_91 (by decide) ?_
          exact r_ireturn C X dX9_mountain_93
      · refine r_aload_n C 0 dX9_mountain_77 rfl ?_
        refine r_callV (As := []) (rest := []) C (c_X9_readLine _ E n h0 th0) dX9_mountain_78 ml_X9_231 mv_X9_readLine ⟨TX9, _, rfl⟩ (by decide) th0 rfl rfl ⟨by decide, by decide⟩ (Nat.le_of_ble_eq_true rfl) (fun v8 S7 hv8 => ?_)
        refine r_goto C 63 dX9_mountain_81 (by decide) ?_
        exact ih S7 h0 th0
set_option maxRecDepth 100000 in
set_option maxHeartbeats 4000000 in
theorem p_X9_mountain_L30 {A : AM} {E : EN} {n : Nat} (C : Cx A E cX9_mountain 2 RX9 11 239) (X : Ex A E (some .int))  : ∀ (m : Nat) (S : WS) (h0 : Nat) (x1 : Int32) (th0 : Ty E h0 8), Gd A E 2 (QM A E wI tT) (f_X9_mountain_L30 E n  m S h0 x1) S 30 [(0, .ref h0), (1, .int x1)] [] := by
  intro m
  induction m with
  | zero => intros; exact gn
  | succ m ih =>
    intro S h0 x1 th0
    unfold f_X9_mountain_L30
    refine r_iload_n C 1 dX9_mountain_30 rfl ?_
    refine r_bipush C (109 : Int32) dX9_mountain_31 (by decide) ?_
    refine r_icmp_ge C 59 dX9_mountain_33 (by decide) ?_ ?_
    · refine r_aload_n C 0 dX9_mountain_59 rfl ?_
      refine r_callV (As := []) (rest := []) C (c_X9_advance _ E n h0 th0) dX9_mountain_60 ml_X9_153 mv_X9_advance ⟨TX9, _, rfl⟩ (by decide) th0 rfl rfl ⟨by decide, by decide⟩ (Nat.le_of_ble_eq_true rfl) (fun v2 S1 hv2 => ?_)
      refine r_sub [0] [(0, .ref h0)] rfl ?_
      exact p_X9_mountain_L63 C X  n S1 h0 th0
    · refine r_aload_n C 0 dX9_mountain_36 rfl ?_
      refine r_getr C fl_X9_31 dX9_mountain_37 th0 (fun b3 tb3 => ?_)
      refine r_iload_n C 1 dX9_mountain_40 rfl ?_
      refine r_iload_n C 1 dX9_mountain_41 rfl ?_
      refine r_bipush C (102 : Int32) dX9_mountain_42 (by decide) ?_
      refine r_icmp_lt C 51 dX9_mountain_44 (by decide) ?_ ?_
      · refine r_iconst C (0 : Int32) dX9_mountain_51 (by decide) ?_
        refine r_iast C dX9_mountain_52 tb3 (fun S4 => ?_)
        refine r_iinc C 1 (fun y5 => [(1, .int y5), (0, .ref h0)]) dX9_mountain_53 rfl (v := (1 : Int32)) (by decide) (by decide) (fun _ => rfl) (fun y5 => ?_)
        refine r_goto C 30 dX9_mountain_56 (by decide) ?_
        refine r_sub [1, 0] [(0, .ref h0), (1, .int y5)] rfl ?_
        exact ih S4 h0 y5 th0
      · refine r_iconst C (-1 : Int32) dX9_mountain_47 (by decide) ?_
        refine r_goto C 52 dX9_mountain_48 (by decide) ?_
        refine r_iast C dX9_mountain_52 tb3 (fun S6 => ?_)
        refine r_iinc C 1 (fun y7 => [(1, .int y7), (0, .ref h0)]) dX9_mountain_53 rfl (v := (1 : Int32)) (by decide) (by decide) (fun _ => rfl) (fun y7 => ?_)
        refine r_goto C 30 dX9_mountain_56 (by decide) ?_
        refine r_sub [1, 0] [(0, .ref h0), (1, .int y7)] rfl ?_
        exact ih S6 h0 y7 th0
set_option maxRecDepth 100000 in
set_option maxHeartbeats 4000000 in
theorem c_X9_mountain (l : Launch) (E : EN) (n : Nat) (h0 : Nat) (th0 : Ty E h0 8) : CT l E yX9_mountain cX9_mountain 2 (some .int) 11 239 wI tT [.ref h0] (fun S => f_X9_mountain E n S h0) := by
  refine ct_of RX9 (by decide +kernel) rfl [(0, .ref h0)] rfl (Nat.le_of_ble_eq_true rfl) (fun A S hA C X => ?_)
  subst hA
  show Gd A E 2 (QM A E wI tT) (f_X9_mountain E n S h0) S 0 [(0, .ref h0)] []
  unfold f_X9_mountain
  refine r_aload_n C 0 dX9_mountain_0 rfl ?_
  refine r_aload_n C 0 dX9_mountain_1 rfl ?_
  refine r_geti C fl_X9_100 dX9_mountain_2 th0 ?_
  refine r_puti C fl_X9_103 dX9_mountain_5 th0 (fun S1 => ?_)
  refine r_aload_n C 0 dX9_mountain_8 rfl ?_
  refine r_iconst C (0 : Int32) dX9_mountain_9 (by decide) ?_
  refine r_puti C fl_X9_100 dX9_mountain_10 th0 (fun S2 => ?_)
  refine r_aload_n C 0 dX9_mountain_13 rfl ?_
  refine r_iconst C (0 : Int32) dX9_mountain_14 (by decide) ?_
  refine r_puti C fl_X9_106 dX9_mountain_15 th0 (fun S3 => ?_)
  refine r_aload_n C 0 dX9_mountain_18 rfl ?_
  refine r_iconst C (0 : Int32) dX9_mountain_19 (by decide) ?_
  refine r_puti C fl_X9_133 dX9_mountain_20 th0 (fun S4 => ?_)
  refine r_aload_n C 0 dX9_mountain_23 rfl ?_
  refine r_iconst C (-1 : Int32) dX9_mountain_24 (by decide) ?_
  refine r_puti C fl_X9_27 dX9_mountain_25 th0 (fun S5 => ?_)
  refine r_iconst C (0 : Int32) dX9_mountain_28 (by decide) ?_
  refine r_istore_n C [(1, .int (0 : Int32)), (0, .ref h0)] dX9_mountain_29 (by decide) rfl ?_
  refine r_sub [1, 0] [(0, .ref h0), (1, .int (0 : Int32))] rfl ?_
  exact p_X9_mountain_L30 C X  n S5 h0 (0 : Int32) th0
set_option maxRecDepth 100000 in
set_option maxHeartbeats 4000000 in
theorem p_X9_takenBy_L4 {A : AM} {E : EN} {n : Nat} (C : Cx A E cX9_takenBy 4 RX9 1 21) (X : Ex A E (some .int))  : ∀ (m : Nat) (S : WS) (h0 : Nat) (x1 : Int32) (x2 : Int32) (x3 : Int32) (th0 : Ty E h0 8), Gd A E 4 (QM A E wI tT) (f_X9_takenBy_L4 E n  m S h0 x1 x2 x3) S 4 [(0, .ref h0), (1, .int x1), (2, .int x2), (3, .int x3)] [] := by
  intro m
  induction m with
  | zero => intros; exact gn
  | succ m ih =>
    intro S h0 x1 x2 x3 th0
    unfold f_X9_takenBy_L4
    refine r_iload_n C 3 dX9_takenBy_4 rfl ?_
    refine r_aload_n C 0 dX9_takenBy_5 rfl ?_
    refine r_getr C fl_X9_9 dX9_takenBy_6 th0 (fun b1 tb1 => ?_)
    refine r_iconst C (4 : Int32) dX9_takenBy_9 (by decide) ?_
    refine r_iald C dX9_takenBy_10 tb1 ?_
    refine r_icmp_ge C 49 dX9_takenBy_11 (by decide) ?_ ?_
    · refine r_iload_n C 2 dX9_takenBy_49 rfl ?_
      exact r_ireturn C X dX9_takenBy_50
    · refine r_aload_n C 0 dX9_takenBy_14 rfl ?_
      refine r_iload_n C 3 dX9_takenBy_15 rfl ?_
      refine r_callV (As := [.int x3]) (rest := []) C (c_X9_courts _ E n h0 x3 th0) dX9_takenBy_16 ml_X9_234 mv_X9_courts ⟨TX9, _, rfl⟩ (by decide) th0 rfl rfl ⟨by decide, by decide⟩ (Nat.le_of_ble_eq_true rfl) (fun v3 S2 hv3 => ?_)
      refine r_iload_n C 1 dX9_takenBy_19 rfl ?_
      refine r_icmp_ne C 43 dX9_takenBy_20 (by decide) ?_ ?_
      · refine r_iinc C 3 (fun y4 => [(3, .int y4), (0, .ref h0), (1, .int x1), (2, .int x2)]) dX9_takenBy_43 rfl (v := (1 : Int32)) (by decide) (by decide) (fun _ => rfl) (fun y4 => ?_)
        refine r_goto C 4 dX9_takenBy_46 (by decide) ?_
        refine r_sub [1, 2, 3, 0] [(0, .ref h0), (1, .int x1), (2, .int x2), (3, .int y4)] rfl ?_
        exact ih S2 h0 x1 x2 y4 th0
      · refine r_iload_n C 2 dX9_takenBy_23 rfl ?_
        refine r_iconst C (-1 : Int32) dX9_takenBy_24 (by decide) ?_
        refine r_icmp_eq C 41 dX9_takenBy_25 (by decide) ?_ ?_
        · refine r_iload_n C 3 dX9_takenBy_41 rfl ?_
          refine r_istore_n C [(2, .int x3), (0, .ref h0), (1, .int x1), (3, .int x3)] dX9_takenBy_42 (by decide) rfl ?_
          refine r_iinc C 3 (fun y5 => [(3, .int y5), (2, .int x3), (0, .ref h0), (1, .int x1)]) dX9_takenBy_43 rfl (v := (1 : Int32)) (by decide) (by decide) (fun _ => rfl) (fun y5 => ?_)
          refine r_goto C 4 dX9_takenBy_46 (by decide) ?_
          refine r_sub [2, 3, 1, 0] [(0, .ref h0), (1, .int x1), (2, .int x3), (3, .int y5)] rfl ?_
          exact ih S2 h0 x1 x3 y5 th0
        · refine r_aload_n C 0 dX9_takenBy_28 rfl ?_
          refine r_iload_n C 3 dX9_takenBy_29 rfl ?_
          refine r_callV (As := [.int x3]) (rest := []) C (c_X9_skillOf _ E n h0 x3 th0) dX9_takenBy_30 ml_X9_237 mv_X9_skillOf ⟨TX9, _, rfl⟩ (by decide) th0 rfl rfl ⟨by decide, by decide⟩ (Nat.le_of_ble_eq_true rfl) (fun v7 S6 hv7 => ?_)
          refine r_aload_n C 0 dX9_takenBy_33 rfl ?_
          refine r_iload_n C 2 dX9_takenBy_34 rfl ?_
          refine r_callV (As := [.int x2]) (rest := [.int v7]) C (c_X9_skillOf _ E n h0 x2 th0) dX9_takenBy_35 ml_X9_237 mv_X9_skillOf ⟨TX9, _, rfl⟩ (by decide) th0 rfl rfl ⟨by decide, by decide⟩ (Nat.le_of_ble_eq_true rfl) (fun v9 S8 hv9 => ?_)
          refine r_icmp_le C 43 dX9_takenBy_38 (by decide) ?_ ?_
          · refine r_iinc C 3 (fun y10 => [(3, .int y10), (0, .ref h0), (1, .int x1), (2, .int x2)]) dX9_takenBy_43 rfl (v := (1 : Int32)) (by decide) (by decide) (fun _ => rfl) (fun y10 => ?_)
            refine r_goto C 4 dX9_takenBy_46 (by decide) ?_
            refine r_sub [1, 2, 3, 0] [(0, .ref h0), (1, .int x1), (2, .int x2), (3, .int y10)] rfl ?_
            exact ih S8 h0 x1 x2 y10 th0
          · refine r_iload_n C 3 dX9_takenBy_41 rfl ?_
            refine r_istore_n C [(2, .int x3), (0, .ref h0), (1, .int x1), (3, .int x3)] dX9_takenBy_42 (by decide) rfl ?_
            refine r_iinc C 3 (fun y11 => [(3, .int y11), (2, .int x3), (0, .ref h0), (1, .int x1)]) dX9_takenBy_43 rfl (v := (1 : Int32)) (by decide) (by decide) (fun _ => rfl) (fun y11 => ?_)
            refine r_goto C 4 dX9_takenBy_46 (by decide) ?_
            refine r_sub [2, 3, 1, 0] [(0, .ref h0), (1, .int x1), (2, .int x3), (3, .int y11)] rfl ?_
            exact ih S8 h0 x1 x3 y11 th0
set_option maxRecDepth 100000 in
set_option maxHeartbeats 4000000 in
theorem c_X9_takenBy (l : Launch) (E : EN) (n : Nat) (h0 : Nat) (x1 : Int32) (th0 : Ty E h0 8) : CT l E yX9_takenBy cX9_takenBy 4 (some .int) 1 21 wI tT [.ref h0, .int x1] (fun S => f_X9_takenBy E n S h0 x1) := by
  refine ct_of RX9 (by decide +kernel) rfl [(0, .ref h0), (1, .int x1)] rfl (Nat.le_of_ble_eq_true rfl) (fun A S hA C X => ?_)
  subst hA
  show Gd A E 4 (QM A E wI tT) (f_X9_takenBy E n S h0 x1) S 0 [(0, .ref h0), (1, .int x1)] []
  unfold f_X9_takenBy
  refine r_iconst C (-1 : Int32) dX9_takenBy_0 (by decide) ?_
  refine r_istore_n C [(2, .int (-1 : Int32)), (0, .ref h0), (1, .int x1)] dX9_takenBy_1 (by decide) rfl ?_
  refine r_iconst C (0 : Int32) dX9_takenBy_2 (by decide) ?_
  refine r_istore_n C [(3, .int (0 : Int32)), (2, .int (-1 : Int32)), (0, .ref h0), (1, .int x1)] dX9_takenBy_3 (by decide) rfl ?_
  refine r_sub [2, 3, 1, 0] [(0, .ref h0), (1, .int x1), (2, .int (-1 : Int32)), (3, .int (0 : Int32))] rfl ?_
  exact p_X9_takenBy_L4 C X  n S h0 x1 (-1 : Int32) (0 : Int32) th0
set_option maxRecDepth 100000 in
set_option maxHeartbeats 4000000 in
theorem c_X9_isRefused (l : Launch) (E : EN) (n : Nat) (h0 : Nat) (x1 : Int32) (th0 : Ty E h0 8) : CT l E yX9_isRefused cX9_isRefused 2 (some .boolean) 2 44 wI tT [.ref h0, .int x1] (fun S => f_X9_isRefused E n S h0 x1) := by
  refine ct_of RX9 (by decide +kernel) rfl [(0, .ref h0), (1, .int x1)] rfl (Nat.le_of_ble_eq_true rfl) (fun A S hA C X => ?_)
  subst hA
  show Gd A E 2 (QM A E wI tT) (f_X9_isRefused E n S h0 x1) S 0 [(0, .ref h0), (1, .int x1)] []
  unfold f_X9_isRefused
  refine r_aload_n C 0 dX9_isRefused_0 rfl ?_
  refine r_iload_n C 1 dX9_isRefused_1 rfl ?_
  refine r_callV (As := [.int x1]) (rest := []) C (c_X9_courts _ E n h0 x1 th0) dX9_isRefused_2 ml_X9_234 mv_X9_courts ⟨TX9, _, rfl⟩ (by decide) th0 rfl rfl ⟨by decide, by decide⟩ (Nat.le_of_ble_eq_true rfl) (fun v2 S1 hv2 => ?_)
  refine r_iconst C (-1 : Int32) dX9_isRefused_5 (by decide) ?_
  refine r_icmp_eq C 26 dX9_isRefused_6 (by decide) ?_ ?_
  · refine r_iconst C (0 : Int32) dX9_isRefused_26 (by decide) ?_
    exact r_zreturn C X rfl dX9_isRefused_27
  · refine r_aload_n C 0 dX9_isRefused_9 rfl ?_
    refine r_aload_n C 0 dX9_isRefused_10 rfl ?_
    refine r_iload_n C 1 dX9_isRefused_11 rfl ?_
    refine r_callV (As := [.int x1]) (rest := [.ref h0]) C (c_X9_courts _ E n h0 x1 th0) dX9_isRefused_12 ml_X9_234 mv_X9_courts ⟨TX9, _, rfl⟩ (by decide) th0 rfl rfl ⟨by decide, by decide⟩ (Nat.le_of_ble_eq_true rfl) (fun v4 S3 hv4 => ?_)
    refine r_callV (As := [.int v4]) (rest := []) C (c_X9_takenBy _ E n h0 v4 th0) dX9_isRefused_15 ml_X9_240 mv_X9_takenBy ⟨TX9, _, rfl⟩ (by decide) th0 rfl rfl ⟨by decide, by decide⟩ (Nat.le_of_ble_eq_true rfl) (fun v6 S5 hv6 => ?_)
    refine r_iload_n C 1 dX9_isRefused_18 rfl ?_
    refine r_icmp_eq C 26 dX9_isRefused_19 (by decide) ?_ ?_
    · refine r_iconst C (0 : Int32) dX9_isRefused_26 (by decide) ?_
      exact r_zreturn C X rfl dX9_isRefused_27
    · refine r_iconst C (1 : Int32) dX9_isRefused_22 (by decide) ?_
      refine r_goto C 27 dX9_isRefused_23 (by decide) ?_
      exact r_zreturn C X rfl dX9_isRefused_27
set_option maxRecDepth 100000 in
set_option maxHeartbeats 4000000 in
theorem p_X9_heartsNow_L4 {A : AM} {E : EN} {n : Nat} (C : Cx A E cX9_heartsNow 3 RX9 3 65) (X : Ex A E (some .int))  : ∀ (m : Nat) (S : WS) (h0 : Nat) (x1 : Int32) (x2 : Int32) (th0 : Ty E h0 8), Gd A E 3 (QM A E wI tT) (f_X9_heartsNow_L4 E n  m S h0 x1 x2) S 4 [(0, .ref h0), (1, .int x1), (2, .int x2)] [] := by
  intro m
  induction m with
  | zero => intros; exact gn
  | succ m ih =>
    intro S h0 x1 x2 th0
    unfold f_X9_heartsNow_L4
    refine r_iload_n C 2 dX9_heartsNow_4 rfl ?_
    refine r_aload_n C 0 dX9_heartsNow_5 rfl ?_
    refine r_getr C fl_X9_9 dX9_heartsNow_6 th0 (fun b1 tb1 => ?_)
    refine r_iconst C (4 : Int32) dX9_heartsNow_9 (by decide) ?_
    refine r_iald C dX9_heartsNow_10 tb1 ?_
    refine r_icmp_ge C 36 dX9_heartsNow_11 (by decide) ?_ ?_
    · refine r_iload_n C 1 dX9_heartsNow_36 rfl ?_
      exact r_ireturn C X dX9_heartsNow_37
    · refine r_iload_n C 1 dX9_heartsNow_14 rfl ?_
      refine r_aload_n C 0 dX9_heartsNow_15 rfl ?_
      refine r_iload_n C 2 dX9_heartsNow_16 rfl ?_
      refine r_callV (As := [.int x2]) (rest := [.int x1]) C (c_X9_isRefused _ E n h0 x2 th0) dX9_heartsNow_17 ml_X9_243 mv_X9_isRefused ⟨TX9, _, rfl⟩ (by decide) th0 rfl rfl ⟨by decide, by decide⟩ (Nat.le_of_ble_eq_true rfl) (fun v3 S2 hv3 => ?_)
      refine r_if_eq C 27 dX9_heartsNow_20 (by decide) ?_ ?_
      · refine r_iconst C (0 : Int32) dX9_heartsNow_27 (by decide) ?_
        refine r_iadd C dX9_heartsNow_28 ?_
        refine r_topi (fun y4 => ?_)
        refine r_istore_n C [(1, .int y4), (0, .ref h0), (2, .int x2)] dX9_heartsNow_29 (by decide) rfl ?_
        refine r_iinc C 2 (fun y5 => [(2, .int y5), (1, .int y4), (0, .ref h0)]) dX9_heartsNow_30 rfl (v := (1 : Int32)) (by decide) (by decide) (fun _ => rfl) (fun y5 => ?_)
        refine r_goto C 4 dX9_heartsNow_33 (by decide) ?_
        refine r_sub [2, 1, 0] [(0, .ref h0), (1, .int y4), (2, .int y5)] rfl ?_
        exact ih S2 h0 y4 y5 th0
      · refine r_iconst C (1 : Int32) dX9_heartsNow_23 (by decide) ?_
        refine r_goto C 28 dX9_heartsNow_24 (by decide) ?_
        refine r_iadd C dX9_heartsNow_28 ?_
        refine r_topi (fun y6 => ?_)
        refine r_istore_n C [(1, .int y6), (0, .ref h0), (2, .int x2)] dX9_heartsNow_29 (by decide) rfl ?_
        refine r_iinc C 2 (fun y7 => [(2, .int y7), (1, .int y6), (0, .ref h0)]) dX9_heartsNow_30 rfl (v := (1 : Int32)) (by decide) (by decide) (fun _ => rfl) (fun y7 => ?_)
        refine r_goto C 4 dX9_heartsNow_33 (by decide) ?_
        refine r_sub [2, 1, 0] [(0, .ref h0), (1, .int y6), (2, .int y7)] rfl ?_
        exact ih S2 h0 y6 y7 th0
set_option maxRecDepth 100000 in
set_option maxHeartbeats 4000000 in
theorem c_X9_heartsNow (l : Launch) (E : EN) (n : Nat) (h0 : Nat) (th0 : Ty E h0 8) : CT l E yX9_heartsNow cX9_heartsNow 3 (some .int) 3 65 wI tT [.ref h0] (fun S => f_X9_heartsNow E n S h0) := by
  refine ct_of RX9 (by decide +kernel) rfl [(0, .ref h0)] rfl (Nat.le_of_ble_eq_true rfl) (fun A S hA C X => ?_)
  subst hA
  show Gd A E 3 (QM A E wI tT) (f_X9_heartsNow E n S h0) S 0 [(0, .ref h0)] []
  unfold f_X9_heartsNow
  refine r_iconst C (0 : Int32) dX9_heartsNow_0 (by decide) ?_
  refine r_istore_n C [(1, .int (0 : Int32)), (0, .ref h0)] dX9_heartsNow_1 (by decide) rfl ?_
  refine r_iconst C (0 : Int32) dX9_heartsNow_2 (by decide) ?_
  refine r_istore_n C [(2, .int (0 : Int32)), (1, .int (0 : Int32)), (0, .ref h0)] dX9_heartsNow_3 (by decide) rfl ?_
  refine r_sub [2, 1, 0] [(0, .ref h0), (1, .int (0 : Int32)), (2, .int (0 : Int32))] rfl ?_
  exact p_X9_heartsNow_L4 C X  n S h0 (0 : Int32) (0 : Int32) th0
set_option maxRecDepth 100000 in
set_option maxHeartbeats 4000000 in
theorem c_X9_hasStep (l : Launch) (E : EN) (n : Nat) (h0 : Nat) (x1 : Int32) (x2 : Int32) (x3 : Int32) (th0 : Ty E h0 8) : CT l E yX9_hasStep cX9_hasStep 5 (some .boolean) 1 25 wI tT [.ref h0, .int x1, .int x2, .int x3] (fun S => f_X9_hasStep E n S h0 x1 x2 x3) := by
  refine ct_of RX9 (by decide +kernel) rfl [(0, .ref h0), (1, .int x1), (2, .int x2), (3, .int x3)] rfl (Nat.le_of_ble_eq_true rfl) (fun A S hA C X => ?_)
  subst hA
  show Gd A E 5 (QM A E wI tT) (f_X9_hasStep E n S h0 x1 x2 x3) S 0 [(0, .ref h0), (1, .int x1), (2, .int x2), (3, .int x3)] []
  unfold f_X9_hasStep
  refine r_aload_n C 0 dX9_hasStep_0 rfl ?_
  refine r_iload_n C 1 dX9_hasStep_1 rfl ?_
  refine r_callV (As := [.int x1]) (rest := []) C (c_X9_courts _ E n h0 x1 th0) dX9_hasStep_2 ml_X9_234 mv_X9_courts ⟨TX9, _, rfl⟩ (by decide) th0 rfl rfl ⟨by decide, by decide⟩ (Nat.le_of_ble_eq_true rfl) (fun v2 S1 hv2 => ?_)
  refine r_istore C [(4, .int v2), (0, .ref h0), (1, .int x1), (2, .int x2), (3, .int x3)] dX9_hasStep_5 (by decide) rfl ?_
  refine r_iload C 0 dX9_hasStep_7 rfl ?_
  refine r_iconst C (-1 : Int32) dX9_hasStep_9 (by decide) ?_
  refine r_icmp_eq C 63 dX9_hasStep_10 (by decide) ?_ ?_
  · refine r_iconst C (0 : Int32) dX9_hasStep_63 (by decide) ?_
    exact r_zreturn C X rfl dX9_hasStep_64
  · refine r_iload_n C 2 dX9_hasStep_13 rfl ?_
    refine r_aload_n C 1 dX9_hasStep_14 rfl ?_
    refine r_geti C fl_X9_34 dX9_hasStep_15 th0 ?_
    refine r_icmp_eq C 63 dX9_hasStep_18 (by decide) ?_ ?_
    · refine r_iconst C (0 : Int32) dX9_hasStep_63 (by decide) ?_
      exact r_zreturn C X rfl dX9_hasStep_64
    · refine r_aload_n C 1 dX9_hasStep_21 rfl ?_
      refine r_iload C 0 dX9_hasStep_22 rfl ?_
      refine r_callV (As := [.int v2]) (rest := []) C (c_X9_pathOf _ E n h0 v2 th0) dX9_hasStep_24 ml_X9_247 mv_X9_pathOf ⟨TX9, _, rfl⟩ (by decide) th0 rfl rfl ⟨by decide, by decide⟩ (Nat.le_of_ble_eq_true rfl) (fun v4 S3 hv4 => ?_)
      refine r_iload_n C 3 dX9_hasStep_27 rfl ?_
      refine r_icmp_ne C 63 dX9_hasStep_28 (by decide) ?_ ?_
      · refine r_iconst C (0 : Int32) dX9_hasStep_63 (by decide) ?_
        exact r_zreturn C X rfl dX9_hasStep_64
      · refine r_iload_n C 4 dX9_hasStep_31 rfl ?_
        refine r_i2l C dX9_hasStep_32 ?_
        refine r_aload_n C 1 dX9_hasStep_33 rfl ?_
        refine r_iload C 0 dX9_hasStep_34 rfl ?_
        refine r_callV (As := [.int v2]) (rest := [.long (x3.toInt64)]) C (c_X9_yearOf _ E n h0 v2 th0) dX9_hasStep_36 ml_X9_250 mv_X9_yearOf ⟨TX9, _, rfl⟩ (by decide) th0 rfl rfl ⟨by decide, by decide⟩ (Nat.le_of_ble_eq_true rfl) (fun v6 S5 hv6 => ?_)
        refine r_i2l C dX9_hasStep_39 ?_
        refine r_aload_n C 1 dX9_hasStep_40 rfl ?_
        refine r_iload C 0 dX9_hasStep_41 rfl ?_
        refine r_callV (As := [.int v2]) (rest := [.long (v6.toInt64), .long (x3.toInt64)]) C (c_X9_yearOf _ E n h0 v2 th0) dX9_hasStep_43 ml_X9_250 mv_X9_yearOf ⟨TX9, _, rfl⟩ (by decide) th0 rfl rfl ⟨by decide, by decide⟩ (Nat.le_of_ble_eq_true rfl) (fun v8 S7 hv8 => ?_)
        refine r_aload_n C 1 dX9_hasStep_46 rfl ?_
        refine r_iload_n C 2 dX9_hasStep_47 rfl ?_
        refine r_callV (As := [.int x1]) (rest := [.int v8, .long (v6.toInt64), .long (x3.toInt64)]) C (c_X9_skillOf _ E n h0 x1 th0) dX9_hasStep_48 ml_X9_237 mv_X9_skillOf ⟨TX9, _, rfl⟩ (by decide) th0 rfl rfl ⟨by decide, by decide⟩ (Nat.le_of_ble_eq_true rfl) (fun v10 S9 hv10 => ?_)
        refine r_iadd C dX9_hasStep_51 ?_
        refine r_i2l C dX9_hasStep_52 ?_
        refine r_callS (As := [.long (x3.toInt64), .long (v6.toInt64), .long ((v8 + v10).toInt64)]) (rest := []) C (c_X9_in _ E n (x3.toInt64) (v6.toInt64) ((v8 + v10).toInt64) ) dX9_hasStep_53 ml_X9_82 mv_X9_in rfl rfl ⟨by decide, by decide⟩ (Nat.le_of_ble_eq_true rfl) (fun v12 S11 hv12 => ?_)
        refine r_if_eq C 63 dX9_hasStep_56 (by decide) ?_ ?_
        · refine r_iconst C (0 : Int32) dX9_hasStep_63 (by decide) ?_
          exact r_zreturn C X rfl dX9_hasStep_64
        · refine r_iconst C (1 : Int32) dX9_hasStep_59 (by decide) ?_
          refine r_goto C 64 dX9_hasStep_60 (by decide) ?_
          exact r_zreturn C X rfl dX9_hasStep_64
set_option maxRecDepth 100000 in
set_option maxHeartbeats 4000000 in
theorem p_X9_stepsOf_L5 {A : AM} {E : EN} {n : Nat} (C : Cx A E cX9_stepsOf 5 RX9 2 49) (X : Ex A E (some .int))  : ∀ (m : Nat) (S : WS) (h0 : Nat) (x1 : Int32) (x2 : Int32) (x3 : Int32) (x4 : Int32) (th0 : Ty E h0 8), Gd A E 5 (QM A E wI tT) (f_X9_stepsOf_L5 E n  m S h0 x1 x2 x3 x4) S 5 [(0, .ref h0), (1, .int x1), (2, .int x2), (3, .int x3), (4, .int x4)] [] := by
  intro m
  induction m with
  | zero => intros; exact gn
  | succ m ih =>
    intro S h0 x1 x2 x3 x4 th0
    unfold f_X9_stepsOf_L5
    refine r_iload C 4 dX9_stepsOf_5 rfl ?_
    refine r_aload_n C 0 dX9_stepsOf_7 rfl ?_
    refine r_getr C fl_X9_9 dX9_stepsOf_8 th0 (fun b1 tb1 => ?_)
    refine r_iconst C (4 : Int32) dX9_stepsOf_11 (by decide) ?_
    refine r_iald C dX9_stepsOf_12 tb1 ?_
    refine r_icmp_ge C 41 dX9_stepsOf_13 (by decide) ?_ ?_
    · refine r_iload_n C 3 dX9_stepsOf_41 rfl ?_
      exact r_ireturn C X dX9_stepsOf_42
    · refine r_iload_n C 3 dX9_stepsOf_16 rfl ?_
      refine r_aload_n C 0 dX9_stepsOf_17 rfl ?_
      refine r_iload C 4 dX9_stepsOf_18 rfl ?_
      refine r_iload_n C 1 dX9_stepsOf_20 rfl ?_
      refine r_iload_n C 2 dX9_stepsOf_21 rfl ?_
      refine r_callV (As := [.int x4, .int x1, .int x2]) (rest := [.int x3]) C (c_X9_hasStep _ E n h0 x4 x1 x2 th0) dX9_stepsOf_22 ml_X9_253 mv_X9_hasStep ⟨TX9, _, rfl⟩ (by decide) th0 rfl rfl ⟨by decide, by decide⟩ (Nat.le_of_ble_eq_true rfl) (fun v3 S2 hv3 => ?_)
      refine r_if_eq C 32 dX9_stepsOf_25 (by decide) ?_ ?_
      · refine r_iconst C (0 : Int32) dX9_stepsOf_32 (by decide) ?_
        refine r_iadd C dX9_stepsOf_33 ?_
        refine r_topi (fun y4 => ?_)
        refine r_istore_n C [(3, .int y4), (0, .ref h0), (1, .int x1), (2, .int x2), (4, .int x4)] dX9_stepsOf_34 (by decide) rfl ?_
        refine r_iinc C 4 (fun y5 => [(4, .int y5), (3, .int y4), (0, .ref h0), (1, .int x1), (2, .int x2)]) dX9_stepsOf_35 rfl (v := (1 : Int32)) (by decide) (by decide) (fun _ => rfl) (fun y5 => ?_)
        refine r_goto C 5 dX9_stepsOf_38 (by decide) ?_
        refine r_sub [2, 3, 4, 1, 0] [(0, .ref h0), (1, .int x1), (2, .int x2), (3, .int y4), (4, .int y5)] rfl ?_
        exact ih S2 h0 x1 x2 y4 y5 th0
      · refine r_iconst C (1 : Int32) dX9_stepsOf_28 (by decide) ?_
        refine r_goto C 33 dX9_stepsOf_29 (by decide) ?_
        refine r_iadd C dX9_stepsOf_33 ?_
        refine r_topi (fun y6 => ?_)
        refine r_istore_n C [(3, .int y6), (0, .ref h0), (1, .int x1), (2, .int x2), (4, .int x4)] dX9_stepsOf_34 (by decide) rfl ?_
        refine r_iinc C 4 (fun y7 => [(4, .int y7), (3, .int y6), (0, .ref h0), (1, .int x1), (2, .int x2)]) dX9_stepsOf_35 rfl (v := (1 : Int32)) (by decide) (by decide) (fun _ => rfl) (fun y7 => ?_)
        refine r_goto C 5 dX9_stepsOf_38 (by decide) ?_
        refine r_sub [2, 3, 4, 1, 0] [(0, .ref h0), (1, .int x1), (2, .int x2), (3, .int y6), (4, .int y7)] rfl ?_
        exact ih S2 h0 x1 x2 y6 y7 th0
set_option maxRecDepth 100000 in
set_option maxHeartbeats 4000000 in
theorem c_X9_stepsOf (l : Launch) (E : EN) (n : Nat) (h0 : Nat) (x1 : Int32) (x2 : Int32) (th0 : Ty E h0 8) : CT l E yX9_stepsOf cX9_stepsOf 5 (some .int) 2 49 wI tT [.ref h0, .int x1, .int x2] (fun S => f_X9_stepsOf E n S h0 x1 x2) := by
  refine ct_of RX9 (by decide +kernel) rfl [(0, .ref h0), (1, .int x1), (2, .int x2)] rfl (Nat.le_of_ble_eq_true rfl) (fun A S hA C X => ?_)
  subst hA
  show Gd A E 5 (QM A E wI tT) (f_X9_stepsOf E n S h0 x1 x2) S 0 [(0, .ref h0), (1, .int x1), (2, .int x2)] []
  unfold f_X9_stepsOf
  refine r_iconst C (0 : Int32) dX9_stepsOf_0 (by decide) ?_
  refine r_istore_n C [(3, .int (0 : Int32)), (0, .ref h0), (1, .int x1), (2, .int x2)] dX9_stepsOf_1 (by decide) rfl ?_
  refine r_iconst C (0 : Int32) dX9_stepsOf_2 (by decide) ?_
  refine r_istore C [(4, .int (0 : Int32)), (3, .int (0 : Int32)), (0, .ref h0), (1, .int x1), (2, .int x2)] dX9_stepsOf_3 (by decide) rfl ?_
  refine r_sub [2, 3, 4, 1, 0] [(0, .ref h0), (1, .int x1), (2, .int x2), (3, .int (0 : Int32)), (4, .int (0 : Int32))] rfl ?_
  exact p_X9_stepsOf_L5 C X  n S h0 x1 x2 (0 : Int32) (0 : Int32) th0
set_option maxRecDepth 100000 in
set_option maxHeartbeats 4000000 in
theorem c_X9_leapBy (l : Launch) (E : EN) (n : Nat) (x0 : Int32) (x1 : Int32) : CT l E yX9_leapBy cX9_leapBy 2 (some .int) 0 0 wI tT [.int x0, .int x1] (fun S => f_X9_leapBy E n S x0 x1) := by
  refine ct_of RX9 (by decide +kernel) rfl [(0, .int x0), (1, .int x1)] rfl (Nat.le_of_ble_eq_true rfl) (fun A S hA C X => ?_)
  subst hA
  show Gd A E 2 (QM A E wI tT) (f_X9_leapBy E n S x0 x1) S 0 [(0, .int x0), (1, .int x1)] []
  unfold f_X9_leapBy
  refine r_iload_n C 0 dX9_leapBy_0 rfl ?_
  refine r_iload_n C 1 dX9_leapBy_1 rfl ?_
  refine r_iadd C dX9_leapBy_2 ?_
  refine r_iload_n C 1 dX9_leapBy_3 rfl ?_
  refine r_iconst C (1 : Int32) dX9_leapBy_4 (by decide) ?_
  refine r_iadd C dX9_leapBy_5 ?_
  refine r_idiv C dX9_leapBy_6 ?_
  exact r_ireturn C X dX9_leapBy_7
set_option maxRecDepth 100000 in
set_option maxHeartbeats 4000000 in
theorem c_X9_leapNow (l : Launch) (E : EN) (n : Nat) (h0 : Nat) (x1 : Int32) (x2 : Int32) (th0 : Ty E h0 8) : CT l E yX9_leapNow cX9_leapNow 3 (some .int) 3 73 wI tT [.ref h0, .int x1, .int x2] (fun S => f_X9_leapNow E n S h0 x1 x2) := by
  refine ct_of RX9 (by decide +kernel) rfl [(0, .ref h0), (1, .int x1), (2, .int x2)] rfl (Nat.le_of_ble_eq_true rfl) (fun A S hA C X => ?_)
  subst hA
  show Gd A E 3 (QM A E wI tT) (f_X9_leapNow E n S h0 x1 x2) S 0 [(0, .ref h0), (1, .int x1), (2, .int x2)] []
  unfold f_X9_leapNow
  refine r_aload_n C 0 dX9_leapNow_0 rfl ?_
  refine r_iload_n C 1 dX9_leapNow_1 rfl ?_
  refine r_callV (As := [.int x1]) (rest := []) C (c_X9_dropOf _ E n h0 x1 th0) dX9_leapNow_2 ml_X9_257 mv_X9_dropOf ⟨TX9, _, rfl⟩ (by decide) th0 rfl rfl ⟨by decide, by decide⟩ (Nat.le_of_ble_eq_true rfl) (fun v2 S1 hv2 => ?_)
  refine r_aload_n C 0 dX9_leapNow_5 rfl ?_
  refine r_iload_n C 1 dX9_leapNow_6 rfl ?_
  refine r_iload_n C 2 dX9_leapNow_7 rfl ?_
  refine r_callV (As := [.int x1, .int x2]) (rest := [.int v2]) C (c_X9_stepsOf _ E n h0 x1 x2 th0) dX9_leapNow_8 ml_X9_260 mv_X9_stepsOf ⟨TX9, _, rfl⟩ (by decide) th0 rfl rfl ⟨by decide, by decide⟩ (Nat.le_of_ble_eq_true rfl) (fun v4 S3 hv4 => ?_)
  refine r_callS (As := [.int v2, .int v4]) (rest := []) C (c_X9_leapBy _ E n v2 v4 ) dX9_leapNow_11 ml_X9_263 mv_X9_leapBy rfl rfl ⟨by decide, by decide⟩ (Nat.le_of_ble_eq_true rfl) (fun v6 S5 hv6 => ?_)
  exact r_ireturn C X dX9_leapNow_14
set_option maxRecDepth 100000 in
set_option maxHeartbeats 4000000 in
theorem c_X9_path (l : Launch) (E : EN) (n : Nat) (h0 : Nat) (x1 : Int32) (x2 : Int32) (th0 : Ty E h0 8) : CT l E yX9_path cX9_path 3 (some .int) 2 47 wI tT [.ref h0, .int x1, .int x2] (fun S => f_X9_path E n S h0 x1 x2) := by
  refine ct_of RX9 (by decide +kernel) rfl [(0, .ref h0), (1, .int x1), (2, .int x2)] rfl (Nat.le_of_ble_eq_true rfl) (fun A S hA C X => ?_)
  subst hA
  show Gd A E 3 (QM A E wI tT) (f_X9_path E n S h0 x1 x2) S 0 [(0, .ref h0), (1, .int x1), (2, .int x2)] []
  unfold f_X9_path
  refine r_aload_n C 0 dX9_path_0 rfl ?_
  refine r_iload_n C 1 dX9_path_1 rfl ?_
  refine r_i2l C dX9_path_2 ?_
  refine r_callV (As := [.long (x1.toInt64)]) (rest := []) C (c_X9_isPath _ E n h0 (x1.toInt64) th0) dX9_path_3 ml_X9_266 mv_X9_isPath ⟨TX9, _, rfl⟩ (by decide) th0 rfl rfl ⟨by decide, by decide⟩ (Nat.le_of_ble_eq_true rfl) (fun v2 S1 hv2 => ?_)
  refine r_if_eq C 21 dX9_path_6 (by decide) ?_ ?_
  · refine r_bipush C (-2 : Int32) dX9_path_21 (by decide) ?_
    exact r_ireturn C X dX9_path_23
  · refine r_iload_n C 2 dX9_path_9 rfl ?_
    refine r_i2l C dX9_path_10 ?_
    refine r_lconst C (0 : Int64) dX9_path_11 (by decide) ?_
    refine r_ldc2 C (2 : Int64) (mG 1379 (by decide +kernel) rfl) dX9_path_12 ?_
    refine r_callS (As := [.long (x2.toInt64), .long (0 : Int64), .long (2 : Int64)]) (rest := []) C (c_X9_in _ E n (x2.toInt64) (0 : Int64) (2 : Int64) ) dX9_path_15 ml_X9_82 mv_X9_in rfl rfl ⟨by decide, by decide⟩ (Nat.le_of_ble_eq_true rfl) (fun v4 S3 hv4 => ?_)
    refine r_if_ne C 24 dX9_path_18 (by decide) ?_ ?_
    · refine r_iload_n C 2 dX9_path_24 rfl ?_
      refine r_iconst C (2 : Int32) dX9_path_25 (by decide) ?_
      refine r_icmp_ne C 37 dX9_path_26 (by decide) ?_ ?_
      · refine r_aload_n C 0 dX9_path_37 rfl ?_
        refine r_iload_n C 1 dX9_path_38 rfl ?_
        refine r_iload_n C 2 dX9_path_39 rfl ?_
        refine r_callV (As := [.int x1, .int x2]) (rest := []) C (c_X9_endOf _ E n h0 x1 x2 th0) dX9_path_40 ml_X9_90 mv_X9_endOf ⟨TX9, _, rfl⟩ (by decide) th0 rfl rfl ⟨by decide, by decide⟩ (Nat.le_of_ble_eq_true rfl) (fun v6 S5 hv6 => ?_)
        exact r_ireturn C X dX9_path_43
      · refine r_aload_n C 0 dX9_path_29 rfl ?_
        refine r_iload_n C 1 dX9_path_30 rfl ?_
        refine r_callV (As := [.int x1]) (rest := []) C (c_X9_dropOf _ E n h0 x1 th0) dX9_path_31 ml_X9_257 mv_X9_dropOf ⟨TX9, _, rfl⟩ (by decide) th0 rfl rfl ⟨by decide, by decide⟩ (Nat.le_of_ble_eq_true rfl) (fun v8 S7 hv8 => ?_)
        refine r_goto C 43 dX9_path_34 (by decide) ?_
        exact r_ireturn C X dX9_path_43
    · refine r_bipush C (-2 : Int32) dX9_path_21 (by decide) ?_
      exact r_ireturn C X dX9_path_23
set_option maxRecDepth 100000 in
set_option maxHeartbeats 4000000 in
theorem c_X9_court (l : Launch) (E : EN) (n : Nat) (h0 : Nat) (x1 : Int32) (x2 : Int32) (th0 : Ty E h0 8) : CT l E yX9_court cX9_court 4 (some .int) 2 46 wI tT [.ref h0, .int x1, .int x2] (fun S => f_X9_court E n S h0 x1 x2) := by
  refine ct_of RX9 (by decide +kernel) rfl [(0, .ref h0), (1, .int x1), (2, .int x2)] rfl (Nat.le_of_ble_eq_true rfl) (fun A S hA C X => ?_)
  subst hA
  show Gd A E 4 (QM A E wI tT) (f_X9_court E n S h0 x1 x2) S 0 [(0, .ref h0), (1, .int x1), (2, .int x2)] []
  unfold f_X9_court
  refine r_aload_n C 0 dX9_court_0 rfl ?_
  refine r_iload_n C 1 dX9_court_1 rfl ?_
  refine r_callV (As := [.int x1]) (rest := []) C (c_X9_isSuitor _ E n h0 x1 th0) dX9_court_2 ml_X9_270 mv_X9_isSuitor ⟨TX9, _, rfl⟩ (by decide) th0 rfl rfl ⟨by decide, by decide⟩ (Nat.le_of_ble_eq_true rfl) (fun v2 S1 hv2 => ?_)
  refine r_if_eq C 30 dX9_court_5 (by decide) ?_ ?_
  · refine r_bipush C (-2 : Int32) dX9_court_30 (by decide) ?_
    exact r_ireturn C X dX9_court_32
  · refine r_iload_n C 2 dX9_court_8 rfl ?_
    refine r_iconst C (-1 : Int32) dX9_court_9 (by decide) ?_
    refine r_icmp_eq C 33 dX9_court_10 (by decide) ?_ ?_
    · refine r_aload_n C 0 dX9_court_33 rfl ?_
      refine r_iload_n C 1 dX9_court_34 rfl ?_
      refine r_callV (As := [.int x1]) (rest := []) C (c_X9_courts _ E n h0 x1 th0) dX9_court_35 ml_X9_234 mv_X9_courts ⟨TX9, _, rfl⟩ (by decide) th0 rfl rfl ⟨by decide, by decide⟩ (Nat.le_of_ble_eq_true rfl) (fun v4 S3 hv4 => ?_)
      refine r_istore_n C [(3, .int v4), (0, .ref h0), (1, .int x1), (2, .int x2)] dX9_court_38 (by decide) rfl ?_
      refine r_aload_n C 1 dX9_court_39 rfl ?_
      refine r_getr C fl_X9_9 dX9_court_40 th0 (fun b5 tb5 => ?_)
      refine r_bipush C (102 : Int32) dX9_court_43 (by decide) ?_
      refine r_iload_n C 2 dX9_court_45 rfl ?_
      refine r_iadd C dX9_court_46 ?_
      refine r_iload_n C 3 dX9_court_47 rfl ?_
      refine r_iast C dX9_court_48 tb5 (fun S6 => ?_)
      refine r_iload_n C 0 dX9_court_49 rfl ?_
      exact r_ireturn C X dX9_court_50
    · refine r_aload_n C 0 dX9_court_13 rfl ?_
      refine r_iload_n C 2 dX9_court_14 rfl ?_
      refine r_callV (As := [.int x2]) (rest := []) C (c_X9_isBride _ E n h0 x2 th0) dX9_court_15 ml_X9_273 mv_X9_isBride ⟨TX9, _, rfl⟩ (by decide) th0 rfl rfl ⟨by decide, by decide⟩ (Nat.le_of_ble_eq_true rfl) (fun v8 S7 hv8 => ?_)
      refine r_if_eq C 30 dX9_court_18 (by decide) ?_ ?_
      · refine r_bipush C (-2 : Int32) dX9_court_30 (by decide) ?_
        exact r_ireturn C X dX9_court_32
      · refine r_aload_n C 0 dX9_court_21 rfl ?_
        refine r_iload_n C 1 dX9_court_22 rfl ?_
        refine r_iload_n C 2 dX9_court_23 rfl ?_
        refine r_callV (As := [.int x1, .int x2]) (rest := []) C (c_X9_isFor _ E n h0 x1 x2 th0) dX9_court_24 ml_X9_276 mv_X9_isFor ⟨TX9, _, rfl⟩ (by decide) th0 rfl rfl ⟨by decide, by decide⟩ (Nat.le_of_ble_eq_true rfl) (fun v10 S9 hv10 => ?_)
        refine r_if_ne C 33 dX9_court_27 (by decide) ?_ ?_
        · refine r_aload_n C 0 dX9_court_33 rfl ?_
          refine r_iload_n C 1 dX9_court_34 rfl ?_
          refine r_callV (As := [.int x1]) (rest := []) C (c_X9_courts _ E n h0 x1 th0) dX9_court_35 ml_X9_234 mv_X9_courts ⟨TX9, _, rfl⟩ (by decide) th0 rfl rfl ⟨by decide, by decide⟩ (Nat.le_of_ble_eq_true rfl) (fun v12 S11 hv12 => ?_)
          refine r_istore_n C [(3, .int v12), (0, .ref h0), (1, .int x1), (2, .int x2)] dX9_court_38 (by decide) rfl ?_
          refine r_aload_n C 1 dX9_court_39 rfl ?_
          refine r_getr C fl_X9_9 dX9_court_40 th0 (fun b13 tb13 => ?_)
          refine r_bipush C (102 : Int32) dX9_court_43 (by decide) ?_
          refine r_iload_n C 2 dX9_court_45 rfl ?_
          refine r_iadd C dX9_court_46 ?_
          refine r_iload_n C 3 dX9_court_47 rfl ?_
          refine r_iast C dX9_court_48 tb13 (fun S14 => ?_)
          refine r_iload_n C 0 dX9_court_49 rfl ?_
          exact r_ireturn C X dX9_court_50
        · refine r_bipush C (-2 : Int32) dX9_court_30 (by decide) ?_
          exact r_ireturn C X dX9_court_32
set_option maxRecDepth 100000 in
set_option maxHeartbeats 4000000 in
theorem p_X9_bride_L28 {A : AM} {E : EN} {n : Nat} (C : Cx A E cX9_bride 5 RX9 2 46) (X : Ex A E (some .int))  : ∀ (m : Nat) (S : WS) (h0 : Nat) (x1 : Int32) (x2 : Int32) (x3 : Int32) (x4 : Int32) (th0 : Ty E h0 8), Gd A E 5 (QM A E wI tT) (f_X9_bride_L28 E n  m S h0 x1 x2 x3 x4) S 28 [(0, .ref h0), (1, .int x1), (2, .int x2), (3, .int x3), (4, .int x4)] [] := by
  intro m
  induction m with
  | zero => intros; exact gn
  | succ m ih =>
    intro S h0 x1 x2 x3 x4 th0
    unfold f_X9_bride_L28
    refine r_iload C 4 dX9_bride_28 rfl ?_
    refine r_aload_n C 0 dX9_bride_30 rfl ?_
    refine r_getr C fl_X9_9 dX9_bride_31 th0 (fun b1 tb1 => ?_)
    refine r_iconst C (4 : Int32) dX9_bride_34 (by decide) ?_
    refine r_iald C dX9_bride_35 tb1 ?_
    refine r_icmp_ge C 63 dX9_bride_36 (by decide) ?_ ?_
    · refine r_iload_n C 2 dX9_bride_63 rfl ?_
      refine r_if_ne C 75 dX9_bride_64 (by decide) ?_ ?_
      · refine r_iload_n C 2 dX9_bride_75 rfl ?_
        refine r_iconst C (1 : Int32) dX9_bride_76 (by decide) ?_
        refine r_icmp_ne C 88 dX9_bride_77 (by decide) ?_ ?_
        · refine r_iload_n C 2 dX9_bride_88 rfl ?_
          refine r_iconst C (2 : Int32) dX9_bride_89 (by decide) ?_
          refine r_icmp_ne C 97 dX9_bride_90 (by decide) ?_ ?_
          · refine r_aload_n C 0 dX9_bride_97 rfl ?_
            refine r_iload_n C 1 dX9_bride_98 rfl ?_
            refine r_callV (As := [.int x1]) (rest := []) C (c_X9_takenBy _ E n h0 x1 th0) dX9_bride_99 ml_X9_240 mv_X9_takenBy ⟨TX9, _, rfl⟩ (by decide) th0 rfl rfl ⟨by decide, by decide⟩ (Nat.le_of_ble_eq_true rfl) (fun v3 S2 hv3 => ?_)
            exact r_ireturn C X dX9_bride_102
          · refine r_iload_n C 3 dX9_bride_93 rfl ?_
            refine r_goto C 102 dX9_bride_94 (by decide) ?_
            exact r_ireturn C X dX9_bride_102
        · refine r_aload_n C 0 dX9_bride_80 rfl ?_
          refine r_iload_n C 1 dX9_bride_81 rfl ?_
          refine r_callV (As := [.int x1]) (rest := []) C (c_X9_yearOf _ E n h0 x1 th0) dX9_bride_82 ml_X9_250 mv_X9_yearOf ⟨TX9, _, rfl⟩ (by decide) th0 rfl rfl ⟨by decide, by decide⟩ (Nat.le_of_ble_eq_true rfl) (fun v5 S4 hv5 => ?_)
          refine r_goto C 102 dX9_bride_85 (by decide) ?_
          exact r_ireturn C X dX9_bride_102
      · refine r_aload_n C 0 dX9_bride_67 rfl ?_
        refine r_iload_n C 1 dX9_bride_68 rfl ?_
        refine r_callV (As := [.int x1]) (rest := []) C (c_X9_pathOf _ E n h0 x1 th0) dX9_bride_69 ml_X9_247 mv_X9_pathOf ⟨TX9, _, rfl⟩ (by decide) th0 rfl rfl ⟨by decide, by decide⟩ (Nat.le_of_ble_eq_true rfl) (fun v7 S6 hv7 => ?_)
        refine r_goto C 102 dX9_bride_72 (by decide) ?_
        exact r_ireturn C X dX9_bride_102
    · refine r_iload_n C 3 dX9_bride_39 rfl ?_
      refine r_aload_n C 0 dX9_bride_40 rfl ?_
      refine r_iload C 4 dX9_bride_41 rfl ?_
      refine r_callV (As := [.int x4]) (rest := [.int x3]) C (c_X9_courts _ E n h0 x4 th0) dX9_bride_43 ml_X9_234 mv_X9_courts ⟨TX9, _, rfl⟩ (by decide) th0 rfl rfl ⟨by decide, by decide⟩ (Nat.le_of_ble_eq_true rfl) (fun v9 S8 hv9 => ?_)
      refine r_iload_n C 1 dX9_bride_46 rfl ?_
      refine r_icmp_ne C 54 dX9_bride_47 (by decide) ?_ ?_
      · refine r_iconst C (0 : Int32) dX9_bride_54 (by decide) ?_
        refine r_iadd C dX9_bride_55 ?_
        refine r_topi (fun y10 => ?_)
        refine r_istore_n C [(3, .int y10), (0, .ref h0), (1, .int x1), (2, .int x2), (4, .int x4)] dX9_bride_56 (by decide) rfl ?_
        refine r_iinc C 4 (fun y11 => [(4, .int y11), (3, .int y10), (0, .ref h0), (1, .int x1), (2, .int x2)]) dX9_bride_57 rfl (v := (1 : Int32)) (by decide) (by decide) (fun _ => rfl) (fun y11 => ?_)
        refine r_goto C 28 dX9_bride_60 (by decide) ?_
        refine r_sub [2, 3, 4, 1, 0] [(0, .ref h0), (1, .int x1), (2, .int x2), (3, .int y10), (4, .int y11)] rfl ?_
        exact ih S8 h0 x1 x2 y10 y11 th0
      · refine r_iconst C (1 : Int32) dX9_bride_50 (by decide) ?_
        refine r_goto C 55 dX9_bride_51 (by decide) ?_
        refine r_iadd C dX9_bride_55 ?_
        refine r_topi (fun y12 => ?_)
        refine r_istore_n C [(3, .int y12), (0, .ref h0), (1, .int x1), (2, .int x2), (4, .int x4)] dX9_bride_56 (by decide) rfl ?_
        refine r_iinc C 4 (fun y13 => [(4, .int y13), (3, .int y12), (0, .ref h0), (1, .int x1), (2, .int x2)]) dX9_bride_57 rfl (v := (1 : Int32)) (by decide) (by decide) (fun _ => rfl) (fun y13 => ?_)
        refine r_goto C 28 dX9_bride_60 (by decide) ?_
        refine r_sub [2, 3, 4, 1, 0] [(0, .ref h0), (1, .int x1), (2, .int x2), (3, .int y12), (4, .int y13)] rfl ?_
        exact ih S8 h0 x1 x2 y12 y13 th0
set_option maxRecDepth 100000 in
set_option maxHeartbeats 4000000 in
theorem c_X9_bride (l : Launch) (E : EN) (n : Nat) (h0 : Nat) (x1 : Int32) (x2 : Int32) (th0 : Ty E h0 8) : CT l E yX9_bride cX9_bride 5 (some .int) 2 46 wI tT [.ref h0, .int x1, .int x2] (fun S => f_X9_bride E n S h0 x1 x2) := by
  refine ct_of RX9 (by decide +kernel) rfl [(0, .ref h0), (1, .int x1), (2, .int x2)] rfl (Nat.le_of_ble_eq_true rfl) (fun A S hA C X => ?_)
  subst hA
  show Gd A E 5 (QM A E wI tT) (f_X9_bride E n S h0 x1 x2) S 0 [(0, .ref h0), (1, .int x1), (2, .int x2)] []
  unfold f_X9_bride
  refine r_aload_n C 0 dX9_bride_0 rfl ?_
  refine r_iload_n C 1 dX9_bride_1 rfl ?_
  refine r_callV (As := [.int x1]) (rest := []) C (c_X9_isBride _ E n h0 x1 th0) dX9_bride_2 ml_X9_273 mv_X9_isBride ⟨TX9, _, rfl⟩ (by decide) th0 rfl rfl ⟨by decide, by decide⟩ (Nat.le_of_ble_eq_true rfl) (fun v2 S1 hv2 => ?_)
  refine r_if_eq C 20 dX9_bride_5 (by decide) ?_ ?_
  · refine r_bipush C (-2 : Int32) dX9_bride_20 (by decide) ?_
    exact r_ireturn C X dX9_bride_22
  · refine r_iload_n C 2 dX9_bride_8 rfl ?_
    refine r_i2l C dX9_bride_9 ?_
    refine r_lconst C (0 : Int64) dX9_bride_10 (by decide) ?_
    refine r_ldc2 C (3 : Int64) (mG 1542 (by decide +kernel) rfl) dX9_bride_11 ?_
    refine r_callS (As := [.long (x2.toInt64), .long (0 : Int64), .long (3 : Int64)]) (rest := []) C (c_X9_in _ E n (x2.toInt64) (0 : Int64) (3 : Int64) ) dX9_bride_14 ml_X9_82 mv_X9_in rfl rfl ⟨by decide, by decide⟩ (Nat.le_of_ble_eq_true rfl) (fun v4 S3 hv4 => ?_)
    refine r_if_ne C 23 dX9_bride_17 (by decide) ?_ ?_
    · refine r_iconst C (0 : Int32) dX9_bride_23 (by decide) ?_
      refine r_istore_n C [(3, .int (0 : Int32)), (0, .ref h0), (1, .int x1), (2, .int x2)] dX9_bride_24 (by decide) rfl ?_
      refine r_iconst C (0 : Int32) dX9_bride_25 (by decide) ?_
      refine r_istore C [(4, .int (0 : Int32)), (3, .int (0 : Int32)), (0, .ref h0), (1, .int x1), (2, .int x2)] dX9_bride_26 (by decide) rfl ?_
      refine r_sub [2, 3, 4, 1, 0] [(0, .ref h0), (1, .int x1), (2, .int x2), (3, .int (0 : Int32)), (4, .int (0 : Int32))] rfl ?_
      exact p_X9_bride_L28 C X  n S3 h0 x1 x2 (0 : Int32) (0 : Int32) th0
    · refine r_bipush C (-2 : Int32) dX9_bride_20 (by decide) ?_
      exact r_ireturn C X dX9_bride_22
set_option maxRecDepth 100000 in
set_option maxHeartbeats 4000000 in
theorem c_X9_suitor (l : Launch) (E : EN) (n : Nat) (h0 : Nat) (x1 : Int32) (x2 : Int32) (th0 : Ty E h0 8) : CT l E yX9_suitor cX9_suitor 3 (some .int) 3 65 wI tT [.ref h0, .int x1, .int x2] (fun S => f_X9_suitor E n S h0 x1 x2) := by
  refine ct_of RX9 (by decide +kernel) rfl [(0, .ref h0), (1, .int x1), (2, .int x2)] rfl (Nat.le_of_ble_eq_true rfl) (fun A S hA C X => ?_)
  subst hA
  show Gd A E 3 (QM A E wI tT) (f_X9_suitor E n S h0 x1 x2) S 0 [(0, .ref h0), (1, .int x1), (2, .int x2)] []
  unfold f_X9_suitor
  refine r_aload_n C 0 dX9_suitor_0 rfl ?_
  refine r_iload_n C 1 dX9_suitor_1 rfl ?_
  refine r_callV (As := [.int x1]) (rest := []) C (c_X9_isSuitor _ E n h0 x1 th0) dX9_suitor_2 ml_X9_270 mv_X9_isSuitor ⟨TX9, _, rfl⟩ (by decide) th0 rfl rfl ⟨by decide, by decide⟩ (Nat.le_of_ble_eq_true rfl) (fun v2 S1 hv2 => ?_)
  refine r_if_eq C 20 dX9_suitor_5 (by decide) ?_ ?_
  · refine r_bipush C (-2 : Int32) dX9_suitor_20 (by decide) ?_
    exact r_ireturn C X dX9_suitor_22
  · refine r_iload_n C 2 dX9_suitor_8 rfl ?_
    refine r_i2l C dX9_suitor_9 ?_
    refine r_lconst C (0 : Int64) dX9_suitor_10 (by decide) ?_
    refine r_ldc2 C (4 : Int64) (mG 1563 (by decide +kernel) rfl) dX9_suitor_11 ?_
    refine r_callS (As := [.long (x2.toInt64), .long (0 : Int64), .long (4 : Int64)]) (rest := []) C (c_X9_in _ E n (x2.toInt64) (0 : Int64) (4 : Int64) ) dX9_suitor_14 ml_X9_82 mv_X9_in rfl rfl ⟨by decide, by decide⟩ (Nat.le_of_ble_eq_true rfl) (fun v4 S3 hv4 => ?_)
    refine r_if_ne C 23 dX9_suitor_17 (by decide) ?_ ?_
    · refine r_iload_n C 2 dX9_suitor_23 rfl ?_
      refine r_if_ne C 35 dX9_suitor_24 (by decide) ?_ ?_
      · refine r_iload_n C 2 dX9_suitor_35 rfl ?_
        refine r_iconst C (1 : Int32) dX9_suitor_36 (by decide) ?_
        refine r_icmp_ne C 48 dX9_suitor_37 (by decide) ?_ ?_
        · refine r_iload_n C 2 dX9_suitor_48 rfl ?_
          refine r_iconst C (2 : Int32) dX9_suitor_49 (by decide) ?_
          refine r_icmp_ne C 69 dX9_suitor_50 (by decide) ?_ ?_
          · refine r_iload_n C 2 dX9_suitor_69 rfl ?_
            refine r_iconst C (3 : Int32) dX9_suitor_70 (by decide) ?_
            refine r_icmp_ne C 82 dX9_suitor_71 (by decide) ?_ ?_
            · refine r_aload_n C 0 dX9_suitor_82 rfl ?_
              refine r_iload_n C 1 dX9_suitor_83 rfl ?_
              refine r_callV (As := [.int x1]) (rest := []) C (c_X9_isRefused _ E n h0 x1 th0) dX9_suitor_84 ml_X9_243 mv_X9_isRefused ⟨TX9, _, rfl⟩ (by decide) th0 rfl rfl ⟨by decide, by decide⟩ (Nat.le_of_ble_eq_true rfl) (fun v6 S5 hv6 => ?_)
              refine r_if_eq C 94 dX9_suitor_87 (by decide) ?_ ?_
              · refine r_iconst C (0 : Int32) dX9_suitor_94 (by decide) ?_
                exact r_ireturn C X dX9_suitor_95
              · refine r_iconst C (1 : Int32) dX9_suitor_90 (by decide) ?_
                refine r_goto C 95 dX9_suitor_91 (by decide) ?_
                exact r_ireturn C X dX9_suitor_95
            · refine r_aload_n C 0 dX9_suitor_74 rfl ?_
              refine r_iload_n C 1 dX9_suitor_75 rfl ?_
              refine r_callV (As := [.int x1]) (rest := []) C (c_X9_courts _ E n h0 x1 th0) dX9_suitor_76 ml_X9_234 mv_X9_courts ⟨TX9, _, rfl⟩ (by decide) th0 rfl rfl ⟨by decide, by decide⟩ (Nat.le_of_ble_eq_true rfl) (fun v8 S7 hv8 => ?_)
              refine r_goto C 95 dX9_suitor_79 (by decide) ?_
              exact r_ireturn C X dX9_suitor_95
          · refine r_aload_n C 0 dX9_suitor_53 rfl ?_
            refine r_getr C fl_X9_9 dX9_suitor_54 th0 (fun b9 tb9 => ?_)
            refine r_bipush C (73 : Int32) dX9_suitor_57 (by decide) ?_
            refine r_iconst C (3 : Int32) dX9_suitor_59 (by decide) ?_
            refine r_iload_n C 1 dX9_suitor_60 rfl ?_
            refine r_imul C dX9_suitor_61 ?_
            refine r_iadd C dX9_suitor_62 ?_
            refine r_iconst C (2 : Int32) dX9_suitor_63 (by decide) ?_
            refine r_iadd C dX9_suitor_64 ?_
            refine r_iald C dX9_suitor_65 tb9 ?_
            refine r_goto C 95 dX9_suitor_66 (by decide) ?_
            exact r_ireturn C X dX9_suitor_95
        · refine r_aload_n C 0 dX9_suitor_40 rfl ?_
          refine r_iload_n C 1 dX9_suitor_41 rfl ?_
          refine r_callV (As := [.int x1]) (rest := []) C (c_X9_spiteOf _ E n h0 x1 th0) dX9_suitor_42 ml_X9_283 mv_X9_spiteOf ⟨TX9, _, rfl⟩ (by decide) th0 rfl rfl ⟨by decide, by decide⟩ (Nat.le_of_ble_eq_true rfl) (fun v11 S10 hv11 => ?_)
          refine r_goto C 95 dX9_suitor_45 (by decide) ?_
          exact r_ireturn C X dX9_suitor_95
      · refine r_aload_n C 0 dX9_suitor_27 rfl ?_
        refine r_iload_n C 1 dX9_suitor_28 rfl ?_
        refine r_callV (As := [.int x1]) (rest := []) C (c_X9_skillOf _ E n h0 x1 th0) dX9_suitor_29 ml_X9_237 mv_X9_skillOf ⟨TX9, _, rfl⟩ (by decide) th0 rfl rfl ⟨by decide, by decide⟩ (Nat.le_of_ble_eq_true rfl) (fun v13 S12 hv13 => ?_)
        refine r_goto C 95 dX9_suitor_32 (by decide) ?_
        exact r_ireturn C X dX9_suitor_95
    · refine r_bipush C (-2 : Int32) dX9_suitor_20 (by decide) ?_
      exact r_ireturn C X dX9_suitor_22
set_option maxRecDepth 100000 in
set_option maxHeartbeats 4000000 in
theorem c_X9_hearts (l : Launch) (E : EN) (n : Nat) (h0 : Nat) (th0 : Ty E h0 8) : CT l E yX9_hearts cX9_hearts 1 (some .int) 4 87 wI tT [.ref h0] (fun S => f_X9_hearts E n S h0) := by
  refine ct_of RX9 (by decide +kernel) rfl [(0, .ref h0)] rfl (Nat.le_of_ble_eq_true rfl) (fun A S hA C X => ?_)
  subst hA
  show Gd A E 1 (QM A E wI tT) (f_X9_hearts E n S h0) S 0 [(0, .ref h0)] []
  unfold f_X9_hearts
  refine r_aload_n C 0 dX9_hearts_0 rfl ?_
  refine r_callV (As := []) (rest := []) C (c_X9_isMountain _ E n h0 th0) dX9_hearts_1 ml_X9_286 mv_X9_isMountain ⟨TX9, _, rfl⟩ (by decide) th0 rfl rfl ⟨by decide, by decide⟩ (Nat.le_of_ble_eq_true rfl) (fun v2 S1 hv2 => ?_)
  refine r_if_eq C 14 dX9_hearts_4 (by decide) ?_ ?_
  · refine r_bipush C (-2 : Int32) dX9_hearts_14 (by decide) ?_
    exact r_ireturn C X dX9_hearts_16
  · refine r_aload_n C 0 dX9_hearts_7 rfl ?_
    refine r_callV (As := []) (rest := []) C (c_X9_heartsNow _ E n h0 th0) dX9_hearts_8 ml_X9_289 mv_X9_heartsNow ⟨TX9, _, rfl⟩ (by decide) th0 rfl rfl ⟨by decide, by decide⟩ (Nat.le_of_ble_eq_true rfl) (fun v4 S3 hv4 => ?_)
    refine r_goto C 16 dX9_hearts_11 (by decide) ?_
    exact r_ireturn C X dX9_hearts_16
set_option maxRecDepth 100000 in
set_option maxHeartbeats 4000000 in
theorem c_X9_areSo (l : Launch) (E : EN) (n : Nat) (h0 : Nat) (x1 : Int32) (x2 : Int32) (th0 : Ty E h0 8) : CT l E yX9_areSo cX9_areSo 3 (some .boolean) 2 47 wI tT [.ref h0, .int x1, .int x2] (fun S => f_X9_areSo E n S h0 x1 x2) := by
  refine ct_of RX9 (by decide +kernel) rfl [(0, .ref h0), (1, .int x1), (2, .int x2)] rfl (Nat.le_of_ble_eq_true rfl) (fun A S hA C X => ?_)
  subst hA
  show Gd A E 3 (QM A E wI tT) (f_X9_areSo E n S h0 x1 x2) S 0 [(0, .ref h0), (1, .int x1), (2, .int x2)] []
  unfold f_X9_areSo
  refine r_aload_n C 0 dX9_areSo_0 rfl ?_
  refine r_iload_n C 1 dX9_areSo_1 rfl ?_
  refine r_i2l C dX9_areSo_2 ?_
  refine r_callV (As := [.long (x1.toInt64)]) (rest := []) C (c_X9_isPath _ E n h0 (x1.toInt64) th0) dX9_areSo_3 ml_X9_266 mv_X9_isPath ⟨TX9, _, rfl⟩ (by decide) th0 rfl rfl ⟨by decide, by decide⟩ (Nat.le_of_ble_eq_true rfl) (fun v2 S1 hv2 => ?_)
  refine r_if_eq C 22 dX9_areSo_6 (by decide) ?_ ?_
  · refine r_iconst C (0 : Int32) dX9_areSo_22 (by decide) ?_
    exact r_zreturn C X rfl dX9_areSo_23
  · refine r_aload_n C 0 dX9_areSo_9 rfl ?_
    refine r_iload_n C 2 dX9_areSo_10 rfl ?_
    refine r_i2l C dX9_areSo_11 ?_
    refine r_callV (As := [.long (x2.toInt64)]) (rest := []) C (c_X9_isYear _ E n h0 (x2.toInt64) th0) dX9_areSo_12 ml_X9_292 mv_X9_isYear ⟨TX9, _, rfl⟩ (by decide) th0 rfl rfl ⟨by decide, by decide⟩ (Nat.le_of_ble_eq_true rfl) (fun v4 S3 hv4 => ?_)
    refine r_if_eq C 22 dX9_areSo_15 (by decide) ?_ ?_
    · refine r_iconst C (0 : Int32) dX9_areSo_22 (by decide) ?_
      exact r_zreturn C X rfl dX9_areSo_23
    · refine r_iconst C (1 : Int32) dX9_areSo_18 (by decide) ?_
      refine r_goto C 23 dX9_areSo_19 (by decide) ?_
      exact r_zreturn C X rfl dX9_areSo_23
set_option maxRecDepth 100000 in
set_option maxHeartbeats 4000000 in
theorem c_X9_steps (l : Launch) (E : EN) (n : Nat) (h0 : Nat) (x1 : Int32) (x2 : Int32) (th0 : Ty E h0 8) : CT l E yX9_steps cX9_steps 3 (some .int) 3 73 wI tT [.ref h0, .int x1, .int x2] (fun S => f_X9_steps E n S h0 x1 x2) := by
  refine ct_of RX9 (by decide +kernel) rfl [(0, .ref h0), (1, .int x1), (2, .int x2)] rfl (Nat.le_of_ble_eq_true rfl) (fun A S hA C X => ?_)
  subst hA
  show Gd A E 3 (QM A E wI tT) (f_X9_steps E n S h0 x1 x2) S 0 [(0, .ref h0), (1, .int x1), (2, .int x2)] []
  unfold f_X9_steps
  refine r_aload_n C 0 dX9_steps_0 rfl ?_
  refine r_iload_n C 1 dX9_steps_1 rfl ?_
  refine r_iload_n C 2 dX9_steps_2 rfl ?_
  refine r_callV (As := [.int x1, .int x2]) (rest := []) C (c_X9_areSo _ E n h0 x1 x2 th0) dX9_steps_3 ml_X9_295 mv_X9_areSo ⟨TX9, _, rfl⟩ (by decide) th0 rfl rfl ⟨by decide, by decide⟩ (Nat.le_of_ble_eq_true rfl) (fun v2 S1 hv2 => ?_)
  refine r_if_eq C 18 dX9_steps_6 (by decide) ?_ ?_
  · refine r_bipush C (-2 : Int32) dX9_steps_18 (by decide) ?_
    exact r_ireturn C X dX9_steps_20
  · refine r_aload_n C 0 dX9_steps_9 rfl ?_
    refine r_iload_n C 1 dX9_steps_10 rfl ?_
    refine r_iload_n C 2 dX9_steps_11 rfl ?_
    refine r_callV (As := [.int x1, .int x2]) (rest := []) C (c_X9_stepsOf _ E n h0 x1 x2 th0) dX9_steps_12 ml_X9_260 mv_X9_stepsOf ⟨TX9, _, rfl⟩ (by decide) th0 rfl rfl ⟨by decide, by decide⟩ (Nat.le_of_ble_eq_true rfl) (fun v4 S3 hv4 => ?_)
    refine r_goto C 20 dX9_steps_15 (by decide) ?_
    exact r_ireturn C X dX9_steps_20
