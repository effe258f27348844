/-! THE CONTRACTS, by program -/
set_option maxRecDepth 100000 in
set_option maxHeartbeats 4000000 in
theorem c_X4_readBride (l : Launch) (E : EN) (n : Nat) (h0 : Nat) (h1 : Nat) (th0 : Ty E h0 3) (th1 : Ty E h1 2) : CT l E yX4_readBride cX4_readBride 4 (some .boolean) 6 128 wI tT [.ref h0, .ref h1] (fun S => f_X4_readBride E n S h0 h1) := by
  refine ct_of RX4 (by decide +kernel) rfl [(0, .ref h0), (1, .ref h1)] rfl (Nat.le_of_ble_eq_true rfl) (fun A S hA C X => ?_)
  subst hA
  show Gd A E 4 (QM A E wI tT) (f_X4_readBride E n S h0 h1) S 0 [(0, .ref h0), (1, .ref h1)] []
  unfold f_X4_readBride
  refine r_aload_n C 0 dX4_readBride_0 rfl ?_
  refine r_callV (As := []) (rest := []) C (c_X4_nextToken _ E n h0 th0) dX4_readBride_1 ml_X4_48 mv_X4_nextToken ⟨TX4, _, rfl⟩ (by decide) th0 rfl rfl ⟨by decide, by decide⟩ (Nat.le_of_ble_eq_true rfl) (fun v2 S1 hv2 => ?_)
  refine r_aload_n C 0 dX4_readBride_4 rfl ?_
  refine r_ldcS C (tx := "path") 4 (List.mem_of_getElem? (i := 4) rfl) dX4_readBride_5 ?_
  refine r_callV (As := [.ref (eSK E 4)]) (rest := []) C (c_X4_takeWord _ E n h0 4 th0 (by decide)) dX4_readBride_7 ml_X4_137 mv_X4_takeWord ⟨TX4, _, rfl⟩ (by decide) th0 rfl rfl ⟨by decide, by decide⟩ (Nat.le_of_ble_eq_true rfl) (fun v4 S3 hv4 => ?_)
  refine r_if_eq C 27 dX4_readBride_10 (by decide) ?_ ?_
  · refine r_iconst C (-1 : Int32) dX4_readBride_27 (by decide) ?_
    exact p_X4_readBride_J28 C X  S3 h0 h1 (-1 : Int32) th0 th1
  · refine r_aload_n C 0 dX4_readBride_13 rfl ?_
    refine r_iconst C (0 : Int32) dX4_readBride_14 (by decide) ?_
    refine r_aload_n C 1 dX4_readBride_15 rfl ?_
    refine r_geti C fl_X4_95 dX4_readBride_16 th1 ?_
    refine r_iconst C (1 : Int32) dX4_readBride_19 (by decide) ?_
    refine r_isub C dX4_readBride_20 ?_
    refine r_callV (As := [.int (0 : Int32), .int ((gi S3 131 h1) - (1 : Int32))]) (rest := []) C (c_X4_takeNumber _ E n h0 (0 : Int32) ((gi S3 131 h1) - (1 : Int32)) th0) dX4_readBride_21 ml_X4_140 mv_X4_takeNumber ⟨TX4, _, rfl⟩ (by decide) th0 rfl rfl ⟨by decide, by decide⟩ (Nat.le_of_ble_eq_true rfl) (fun v6 S5 hv6 => ?_)
    refine r_goto C 28 dX4_readBride_24 (by decide) ?_
    exact p_X4_readBride_J28 C X  S5 h0 h1 v6 th0 th1
set_option maxRecDepth 100000 in
set_option maxHeartbeats 4000000 in
theorem p_X4_takeBrides_J59 {A : AM} {E : EN} {n : Nat} (C : Cx A E cX4_takeBrides 5 RX4 3 64) (X : Ex A E (some .int)) {k4 : WS → Nat → Nat → Int32 → Int32 → Option (Int32 × WS)} (hk4 : ∀ (S : WS) (h0 : Nat) (h1 : Nat) (x2 : Int32) (x3 : Int32) (_ : Ty E h0 3) (_ : Ty E h1 2), Gd A E 5 (QM A E wI tT) (k4 S h0 h1 x2 x3) S 4 [(0, .ref h0), (1, .ref h1), (2, .int x2), (3, .int x3)] []) (S : WS) (h0 : Nat) (h1 : Nat) (x2 : Int32) (x3 : Int32) (th0 : Ty E h0 3) (th1 : Ty E h1 2) : Gd A E 5 (QM A E wI tT) (f_X4_takeBrides_J59 E n k4 S h0 h1 x2 x3) S 59 [(0, .ref h0), (1, .ref h1), (2, .int x2), (3, .int x3)] [] := by
  unfold f_X4_takeBrides_J59
  refine r_aload_n C 0 dX4_takeBrides_59 rfl ?_
  refine r_iconst C (0 : Int32) dX4_takeBrides_60 (by decide) ?_
  refine r_aload_n C 1 dX4_takeBrides_61 rfl ?_
  refine r_geti C fl_X4_103 dX4_takeBrides_62 th1 ?_
  refine r_iconst C (1 : Int32) dX4_takeBrides_65 (by decide) ?_
  refine r_isub C dX4_takeBrides_66 ?_
  refine r_callV (As := [.int (0 : Int32), .int ((gi S 132 h1) - (1 : Int32))]) (rest := []) C (c_X4_takeNumber _ E n h0 (0 : Int32) ((gi S 132 h1) - (1 : Int32)) th0) dX4_takeBrides_67 ml_X4_140 mv_X4_takeNumber ⟨TX4, _, rfl⟩ (by decide) th0 rfl rfl ⟨by decide, by decide⟩ (Nat.le_of_ble_eq_true rfl) (fun v2 S1 hv2 => ?_)
  refine r_istore C [(4, .int v2), (0, .ref h0), (1, .ref h1), (2, .int x2), (3, .int x3)] dX4_takeBrides_70 (by decide) rfl ?_
  refine r_iload C 0 dX4_takeBrides_72 rfl ?_
  refine r_iconst C (-1 : Int32) dX4_takeBrides_74 (by decide) ?_
  refine r_icmp_ne C 80 dX4_takeBrides_75 (by decide) ?_ ?_
  · refine r_iload_n C 3 dX4_takeBrides_80 rfl ?_
    refine r_iconst C (1 : Int32) dX4_takeBrides_81 (by decide) ?_
    refine r_iload C 0 dX4_takeBrides_82 rfl ?_
    refine r_ishl C dX4_takeBrides_84 ?_
    refine r_ior C dX4_takeBrides_85 ?_
    refine r_topi (fun y3 => ?_)
    refine r_istore_n C [(2, .int y3), (4, .int v2), (0, .ref h0), (1, .ref h1), (3, .int x3)] dX4_takeBrides_86 (by decide) rfl ?_
    refine r_iinc C 4 (fun y4 => [(3, .int y4), (2, .int y3), (4, .int v2), (0, .ref h0), (1, .ref h1)]) dX4_takeBrides_87 rfl (v := (1 : Int32)) (by decide) (by decide) (fun _ => rfl) (fun y4 => ?_)
    refine r_goto C 4 dX4_takeBrides_90 (by decide) ?_
    refine r_sub [3, 4, 1, 0] [(0, .ref h0), (1, .ref h1), (2, .int y3), (3, .int y4)] rfl ?_
    exact hk4 S1 h0 h1 y3 y4 th0 th1
  · refine r_iconst C (-1 : Int32) dX4_takeBrides_78 (by decide) ?_
    exact r_ireturn C X dX4_takeBrides_79
set_option maxRecDepth 100000 in
set_option maxHeartbeats 4000000 in
theorem p_X4_takeBrides_J23 {A : AM} {E : EN} {n : Nat} (C : Cx A E cX4_takeBrides 5 RX4 3 64) (X : Ex A E (some .int)) {k4 : WS → Nat → Nat → Int32 → Int32 → Option (Int32 × WS)} (hk4 : ∀ (S : WS) (h0 : Nat) (h1 : Nat) (x2 : Int32) (x3 : Int32) (_ : Ty E h0 3) (_ : Ty E h1 2), Gd A E 5 (QM A E wI tT) (k4 S h0 h1 x2 x3) S 4 [(0, .ref h0), (1, .ref h1), (2, .int x2), (3, .int x3)] []) (S : WS) (h0 : Nat) (h1 : Nat) (x2 : Int32) (x3 : Int32) (th0 : Ty E h0 3) (th1 : Ty E h1 2) : Gd A E 5 (QM A E wI tT) (f_X4_takeBrides_J23 E n k4 S h0 h1 x2 x3) S 23 [(0, .ref h0), (1, .ref h1), (2, .int x2), (3, .int x3)] [] := by
  unfold f_X4_takeBrides_J23
  refine r_aload_n C 0 dX4_takeBrides_23 rfl ?_
  refine r_geti C fl_X4_22 dX4_takeBrides_24 th0 ?_
  refine r_iconst C (2 : Int32) dX4_takeBrides_27 (by decide) ?_
  refine r_icmp_ne C 59 dX4_takeBrides_28 (by decide) ?_ ?_
  · exact p_X4_takeBrides_J59 C X hk4 S h0 h1 x2 x3 th0 th1
  · refine r_aload_n C 0 dX4_takeBrides_31 rfl ?_
    refine r_geti C fl_X4_28 dX4_takeBrides_32 th0 ?_
    refine r_iconst C (4 : Int32) dX4_takeBrides_35 (by decide) ?_
    refine r_icmp_ge C 59 dX4_takeBrides_36 (by decide) ?_ ?_
    · exact p_X4_takeBrides_J59 C X hk4 S h0 h1 x2 x3 th0 th1
    · refine r_iload_n C 2 dX4_takeBrides_39 rfl ?_
      refine r_aload_n C 0 dX4_takeBrides_40 rfl ?_
      refine r_geti C fl_X4_28 dX4_takeBrides_41 th0 ?_
      refine r_ishr C dX4_takeBrides_44 ?_
      refine r_iconst C (1 : Int32) dX4_takeBrides_45 (by decide) ?_
      refine r_iand C dX4_takeBrides_46 ?_
      refine r_iconst C (1 : Int32) dX4_takeBrides_47 (by decide) ?_
      refine r_icmp_ne C 59 dX4_takeBrides_48 (by decide) ?_ ?_
      · exact p_X4_takeBrides_J59 C X hk4 S h0 h1 x2 x3 th0 th1
      · refine r_aload_n C 0 dX4_takeBrides_51 rfl ?_
        refine r_iconst C (2 : Int32) dX4_takeBrides_52 (by decide) ?_
        refine r_callV (As := [.int (2 : Int32)]) (rest := []) C (c_X4_failHere _ E n h0 (2 : Int32) th0) dX4_takeBrides_53 ml_X4_75 mv_X4_failHere ⟨TX4, _, rfl⟩ (by decide) th0 rfl rfl ⟨by decide, by decide⟩ (Nat.le_of_ble_eq_true rfl) (fun v2 S1 hv2 => ?_)
        refine r_pop C dX4_takeBrides_56 rfl ?_
        refine r_iconst C (-1 : Int32) dX4_takeBrides_57 (by decide) ?_
        exact r_ireturn C X dX4_takeBrides_58
set_option maxRecDepth 100000 in
set_option maxHeartbeats 4000000 in
theorem p_X4_takeBrides_L4 {A : AM} {E : EN} {n : Nat} (C : Cx A E cX4_takeBrides 5 RX4 3 64) (X : Ex A E (some .int))  : ∀ (m : Nat) (S : WS) (h0 : Nat) (h1 : Nat) (x2 : Int32) (x3 : Int32) (th0 : Ty E h0 3) (th1 : Ty E h1 2), Gd A E 5 (QM A E wI tT) (f_X4_takeBrides_L4 E n  m S h0 h1 x2 x3) S 4 [(0, .ref h0), (1, .ref h1), (2, .int x2), (3, .int x3)] [] := by
  intro m
  induction m with
  | zero => intros; exact gn
  | succ m ih =>
    intro S h0 h1 x2 x3 th0 th1
    unfold f_X4_takeBrides_L4
    refine r_iload_n C 3 dX4_takeBrides_4 rfl ?_
    refine r_iconst C (4 : Int32) dX4_takeBrides_5 (by decide) ?_
    refine r_icmp_gt C 93 dX4_takeBrides_6 (by decide) ?_ ?_
    · refine r_iload_n C 2 dX4_takeBrides_93 rfl ?_
      exact r_ireturn C X dX4_takeBrides_94
    · refine r_iload_n C 3 dX4_takeBrides_9 rfl ?_
      refine r_if_le C 23 dX4_takeBrides_10 (by decide) ?_ ?_
      · exact p_X4_takeBrides_J23 C X ih S h0 h1 x2 x3 th0 th1
      · refine r_aload_n C 0 dX4_takeBrides_13 rfl ?_
        refine r_geti C fl_X4_22 dX4_takeBrides_14 th0 ?_
        refine r_iconst C (2 : Int32) dX4_takeBrides_17 (by decide) ?_
        refine r_icmp_eq C 23 dX4_takeBrides_18 (by decide) ?_ ?_
        · exact p_X4_takeBrides_J23 C X ih S h0 h1 x2 x3 th0 th1
        · refine r_iload_n C 2 dX4_takeBrides_21 rfl ?_
          exact r_ireturn C X dX4_takeBrides_22
set_option maxRecDepth 100000 in
set_option maxHeartbeats 4000000 in
theorem c_X4_takeBrides (l : Launch) (E : EN) (n : Nat) (h0 : Nat) (h1 : Nat) (th0 : Ty E h0 3) (th1 : Ty E h1 2) : CT l E yX4_takeBrides cX4_takeBrides 5 (some .int) 3 64 wI tT [.ref h0, .ref h1] (fun S => f_X4_takeBrides E n S h0 h1) := by
  refine ct_of RX4 (by decide +kernel) rfl [(0, .ref h0), (1, .ref h1)] rfl (Nat.le_of_ble_eq_true rfl) (fun A S hA C X => ?_)
  subst hA
  show Gd A E 5 (QM A E wI tT) (f_X4_takeBrides E n S h0 h1) S 0 [(0, .ref h0), (1, .ref h1)] []
  unfold f_X4_takeBrides
  refine r_iconst C (0 : Int32) dX4_takeBrides_0 (by decide) ?_
  refine r_istore_n C [(2, .int (0 : Int32)), (0, .ref h0), (1, .ref h1)] dX4_takeBrides_1 (by decide) rfl ?_
  refine r_iconst C (0 : Int32) dX4_takeBrides_2 (by decide) ?_
  refine r_istore_n C [(3, .int (0 : Int32)), (2, .int (0 : Int32)), (0, .ref h0), (1, .ref h1)] dX4_takeBrides_3 (by decide) rfl ?_
  refine r_sub [2, 3, 1, 0] [(0, .ref h0), (1, .ref h1), (2, .int (0 : Int32)), (3, .int (0 : Int32))] rfl ?_
  exact p_X4_takeBrides_L4 C X  n S h0 h1 (0 : Int32) (0 : Int32) th0 th1
set_option maxRecDepth 100000 in
set_option maxHeartbeats 4000000 in
theorem c_X4_readRain (l : Launch) (E : EN) (n : Nat) (h0 : Nat) (h1 : Nat) (th0 : Ty E h0 3) (th1 : Ty E h1 2) : CT l E yX4_readRain cX4_readRain 4 (some .boolean) 6 128 wI tT [.ref h0, .ref h1] (fun S => f_X4_readRain E n S h0 h1) := by
  refine ct_of RX4 (by decide +kernel) rfl [(0, .ref h0), (1, .ref h1)] rfl (Nat.le_of_ble_eq_true rfl) (fun A S hA C X => ?_)
  subst hA
  show Gd A E 4 (QM A E wI tT) (f_X4_readRain E n S h0 h1) S 0 [(0, .ref h0), (1, .ref h1)] []
  unfold f_X4_readRain
  refine r_aload_n C 0 dX4_readRain_0 rfl ?_
  refine r_callV (As := []) (rest := []) C (c_X4_nextToken _ E n h0 th0) dX4_readRain_1 ml_X4_48 mv_X4_nextToken ⟨TX4, _, rfl⟩ (by decide) th0 rfl rfl ⟨by decide, by decide⟩ (Nat.le_of_ble_eq_true rfl) (fun v2 S1 hv2 => ?_)
  refine r_aload_n C 0 dX4_readRain_4 rfl ?_
  refine r_iconst C (0 : Int32) dX4_readRain_5 (by decide) ?_
  refine r_aload_n C 1 dX4_readRain_6 rfl ?_
  refine r_geti C fl_X4_147 dX4_readRain_7 th1 ?_
  refine r_iconst C (1 : Int32) dX4_readRain_10 (by decide) ?_
  refine r_isub C dX4_readRain_11 ?_
  refine r_callV (As := [.int (0 : Int32), .int ((gi S1 130 h1) - (1 : Int32))]) (rest := []) C (c_X4_takeNumber _ E n h0 (0 : Int32) ((gi S1 130 h1) - (1 : Int32)) th0) dX4_readRain_12 ml_X4_140 mv_X4_takeNumber ⟨TX4, _, rfl⟩ (by decide) th0 rfl rfl ⟨by decide, by decide⟩ (Nat.le_of_ble_eq_true rfl) (fun v4 S3 hv4 => ?_)
  refine r_istore_n C [(2, .int v4), (0, .ref h0), (1, .ref h1)] dX4_readRain_15 (by decide) rfl ?_
  refine r_iload_n C 0 dX4_readRain_16 rfl ?_
  refine r_iconst C (-1 : Int32) dX4_readRain_17 (by decide) ?_
  refine r_icmp_ne C 23 dX4_readRain_18 (by decide) ?_ ?_
  · refine r_aload_n C 1 dX4_readRain_23 rfl ?_
    refine r_ldcS C (tx := "is") 13 (List.mem_of_getElem? (i := 13) rfl) dX4_readRain_24 ?_
    refine r_callV (As := [.ref (eSK E 13)]) (rest := []) C (c_X4_takeWord _ E n h0 13 th0 (by decide)) dX4_readRain_26 ml_X4_137 mv_X4_takeWord ⟨TX4, _, rfl⟩ (by decide) th0 rfl rfl ⟨by decide, by decide⟩ (Nat.le_of_ble_eq_true rfl) (fun v6 S5 hv6 => ?_)
    refine r_if_eq C 42 dX4_readRain_29 (by decide) ?_ ?_
    · refine r_iconst C (-1 : Int32) dX4_readRain_42 (by decide) ?_
      refine r_istore_n C [(3, .int (-1 : Int32)), (2, .int v4), (0, .ref h0), (1, .ref h1)] dX4_readRain_43 (by decide) rfl ?_
      refine r_iload_n C 0 dX4_readRain_44 rfl ?_
      refine r_iconst C (-1 : Int32) dX4_readRain_45 (by decide) ?_
      refine r_icmp_neF C 51 dX4_readRain_46 (by decide) (by decide) ?_
      refine r_iconst C (0 : Int32) dX4_readRain_49 (by decide) ?_
      exact r_zreturn C X rfl dX4_readRain_50
    · refine r_aload_n C 1 dX4_readRain_32 rfl ?_
      refine r_iconst C (0 : Int32) dX4_readRain_33 (by decide) ?_
      refine r_bipush C (100 : Int32) dX4_readRain_34 (by decide) ?_
      refine r_callV (As := [.int (0 : Int32), .int (100 : Int32)]) (rest := []) C (c_X4_takeNumber _ E n h0 (0 : Int32) (100 : Int32) th0) dX4_readRain_36 ml_X4_140 mv_X4_takeNumber ⟨TX4, _, rfl⟩ (by decide) th0 rfl rfl ⟨by decide, by decide⟩ (Nat.le_of_ble_eq_true rfl) (fun v8 S7 hv8 => ?_)
      refine r_goto C 43 dX4_readRain_39 (by decide) ?_
      refine r_istore_n C [(3, .int v8), (2, .int v4), (0, .ref h0), (1, .ref h1)] dX4_readRain_43 (by decide) rfl ?_
      refine r_iload_n C 0 dX4_readRain_44 rfl ?_
      refine r_iconst C (-1 : Int32) dX4_readRain_45 (by decide) ?_
      refine r_icmp_ne C 51 dX4_readRain_46 (by decide) ?_ ?_
      · refine r_aload_n C 3 dX4_readRain_51 rfl ?_
        refine r_getr C fl_X4_191 dX4_readRain_52 th1 (fun b9 tb9 => ?_)
        refine r_iload_n C 1 dX4_readRain_55 rfl ?_
        refine r_iload_n C 0 dX4_readRain_56 rfl ?_
        refine r_iast C dX4_readRain_57 tb9 (fun S10 => ?_)
        refine r_iconst C (1 : Int32) dX4_readRain_58 (by decide) ?_
        exact r_zreturn C X rfl dX4_readRain_59
      · refine r_iconst C (0 : Int32) dX4_readRain_49 (by decide) ?_
        exact r_zreturn C X rfl dX4_readRain_50
  · refine r_iconst C (0 : Int32) dX4_readRain_21 (by decide) ?_
    exact r_zreturn C X rfl dX4_readRain_22
set_option maxRecDepth 100000 in
set_option maxHeartbeats 4000000 in
theorem p_X4_readWalker_J56 {A : AM} {E : EN} {n : Nat} (C : Cx A E cX4_readWalker 4 RX4 6 128) (X : Ex A E (some .boolean))  (S : WS) (h1 : Nat) (x2 : Int32) (s0 : Int32) (th1 : Ty E h1 2) : Gd A E 4 (QM A E wI tT) (f_X4_readWalker_J56 E n  S h1 x2 s0) S 56 [(1, .ref h1), (2, .int x2)] [.int s0] := by
  unfold f_X4_readWalker_J56
  refine r_istore_n C [(3, .int s0), (1, .ref h1), (2, .int x2)] dX4_readWalker_56 (by decide) rfl ?_
  refine r_iload_n C 0 dX4_readWalker_57 rfl ?_
  refine r_iconst C (-1 : Int32) dX4_readWalker_58 (by decide) ?_
  refine r_icmp_ne C 64 dX4_readWalker_59 (by decide) ?_ ?_
  · refine r_aload_n C 1 dX4_readWalker_64 rfl ?_
    refine r_getr C fl_X4_197 dX4_readWalker_65 th1 (fun b1 tb1 => ?_)
    refine r_aload_n C 1 dX4_readWalker_68 rfl ?_
    refine r_geti C fl_X4_124 dX4_readWalker_69 th1 ?_
    refine r_iload_n C 2 dX4_readWalker_72 rfl ?_
    refine r_iast C dX4_readWalker_73 tb1 (fun S2 => ?_)
    refine r_aload_n C 1 dX4_readWalker_74 rfl ?_
    refine r_getr C fl_X4_200 dX4_readWalker_75 th1 (fun b3 tb3 => ?_)
    refine r_aload_n C 1 dX4_readWalker_78 rfl ?_
    refine r_geti C fl_X4_124 dX4_readWalker_79 th1 ?_
    refine r_iload_n C 0 dX4_readWalker_82 rfl ?_
    refine r_iast C dX4_readWalker_83 tb3 (fun S4 => ?_)
    refine r_aload_n C 1 dX4_readWalker_84 rfl ?_
    refine r_dup C dX4_readWalker_85 rfl ?_
    refine r_geti C fl_X4_124 dX4_readWalker_86 th1 ?_
    refine r_iconst C (1 : Int32) dX4_readWalker_89 (by decide) ?_
    refine r_iadd C dX4_readWalker_90 ?_
    refine r_puti C fl_X4_124 dX4_readWalker_91 th1 (fun S5 => ?_)
    refine r_iconst C (1 : Int32) dX4_readWalker_94 (by decide) ?_
    exact r_zreturn C X rfl dX4_readWalker_95
  · refine r_iconst C (0 : Int32) dX4_readWalker_62 (by decide) ?_
    exact r_zreturn C X rfl dX4_readWalker_63
set_option maxRecDepth 100000 in
set_option maxHeartbeats 4000000 in
theorem p_X4_readWalker_J24 {A : AM} {E : EN} {n : Nat} (C : Cx A E cX4_readWalker 4 RX4 6 128) (X : Ex A E (some .boolean))  (S : WS) (h0 : Nat) (h1 : Nat) (s0 : Int32) (th0 : Ty E h0 3) (th1 : Ty E h1 2) : Gd A E 4 (QM A E wI tT) (f_X4_readWalker_J24 E n  S h0 h1 s0) S 24 [(0, .ref h0), (1, .ref h1)] [.int s0] := by
  unfold f_X4_readWalker_J24
  refine r_istore_n C [(2, .int s0), (0, .ref h0), (1, .ref h1)] dX4_readWalker_24 (by decide) rfl ?_
  refine r_iload_n C 0 dX4_readWalker_25 rfl ?_
  refine r_iconst C (-1 : Int32) dX4_readWalker_26 (by decide) ?_
  refine r_icmp_ne C 32 dX4_readWalker_27 (by decide) ?_ ?_
  · refine r_aload_n C 1 dX4_readWalker_32 rfl ?_
    refine r_ldcS C (tx := "at") 16 (List.mem_of_getElem? (i := 16) rfl) dX4_readWalker_33 ?_
    refine r_callV (As := [.ref (eSK E 16)]) (rest := []) C (c_X4_takeWord _ E n h0 16 th0 (by decide)) dX4_readWalker_35 ml_X4_137 mv_X4_takeWord ⟨TX4, _, rfl⟩ (by decide) th0 rfl rfl ⟨by decide, by decide⟩ (Nat.le_of_ble_eq_true rfl) (fun v2 S1 hv2 => ?_)
    refine r_if_eq C 55 dX4_readWalker_38 (by decide) ?_ ?_
    · refine r_iconst C (-1 : Int32) dX4_readWalker_55 (by decide) ?_
      refine r_sub [2, 0] [(1, .ref h1), (2, .int s0)] rfl ?_
      exact p_X4_readWalker_J56 C X  S1 h1 s0 (-1 : Int32) th1
    · refine r_aload_n C 1 dX4_readWalker_41 rfl ?_
      refine r_iconst C (0 : Int32) dX4_readWalker_42 (by decide) ?_
      refine r_aload_n C 2 dX4_readWalker_43 rfl ?_
      refine r_geti C fl_X4_145 dX4_readWalker_44 th1 ?_
      refine r_iconst C (1 : Int32) dX4_readWalker_47 (by decide) ?_
      refine r_isub C dX4_readWalker_48 ?_
      refine r_callV (As := [.int (0 : Int32), .int ((gi S1 129 h1) - (1 : Int32))]) (rest := []) C (c_X4_takeNumber _ E n h0 (0 : Int32) ((gi S1 129 h1) - (1 : Int32)) th0) dX4_readWalker_49 ml_X4_140 mv_X4_takeNumber ⟨TX4, _, rfl⟩ (by decide) th0 rfl rfl ⟨by decide, by decide⟩ (Nat.le_of_ble_eq_true rfl) (fun v4 S3 hv4 => ?_)
      refine r_goto C 56 dX4_readWalker_52 (by decide) ?_
      refine r_sub [2, 0] [(1, .ref h1), (2, .int s0)] rfl ?_
      exact p_X4_readWalker_J56 C X  S3 h1 s0 v4 th1
  · refine r_iconst C (0 : Int32) dX4_readWalker_30 (by decide) ?_
    exact r_zreturn C X rfl dX4_readWalker_31
set_option maxRecDepth 100000 in
set_option maxHeartbeats 4000000 in
theorem c_X4_readWalker (l : Launch) (E : EN) (n : Nat) (h0 : Nat) (h1 : Nat) (th0 : Ty E h0 3) (th1 : Ty E h1 2) : CT l E yX4_readWalker cX4_readWalker 4 (some .boolean) 6 128 wI tT [.ref h0, .ref h1] (fun S => f_X4_readWalker E n S h0 h1) := by
  refine ct_of RX4 (by decide +kernel) rfl [(0, .ref h0), (1, .ref h1)] rfl (Nat.le_of_ble_eq_true rfl) (fun A S hA C X => ?_)
  subst hA
  show Gd A E 4 (QM A E wI tT) (f_X4_readWalker E n S h0 h1) S 0 [(0, .ref h0), (1, .ref h1)] []
  unfold f_X4_readWalker
  refine r_aload_n C 0 dX4_readWalker_0 rfl ?_
  refine r_callV (As := []) (rest := []) C (c_X4_nextToken _ E n h0 th0) dX4_readWalker_1 ml_X4_48 mv_X4_nextToken ⟨TX4, _, rfl⟩ (by decide) th0 rfl rfl ⟨by decide, by decide⟩ (Nat.le_of_ble_eq_true rfl) (fun v2 S1 hv2 => ?_)
  refine r_aload_n C 0 dX4_readWalker_4 rfl ?_
  refine r_ldcS C (tx := "leap") 15 (List.mem_of_getElem? (i := 15) rfl) dX4_readWalker_5 ?_
  refine r_callV (As := [.ref (eSK E 15)]) (rest := []) C (c_X4_takeWord _ E n h0 15 th0 (by decide)) dX4_readWalker_7 ml_X4_137 mv_X4_takeWord ⟨TX4, _, rfl⟩ (by decide) th0 rfl rfl ⟨by decide, by decide⟩ (Nat.le_of_ble_eq_true rfl) (fun v4 S3 hv4 => ?_)
  refine r_if_eq C 23 dX4_readWalker_10 (by decide) ?_ ?_
  · refine r_iconst C (-1 : Int32) dX4_readWalker_23 (by decide) ?_
    exact p_X4_readWalker_J24 C X  S3 h0 h1 (-1 : Int32) th0 th1
  · refine r_aload_n C 0 dX4_readWalker_13 rfl ?_
    refine r_iconst C (0 : Int32) dX4_readWalker_14 (by decide) ?_
    refine r_bipush C (99 : Int32) dX4_readWalker_15 (by decide) ?_
    refine r_callV (As := [.int (0 : Int32), .int (99 : Int32)]) (rest := []) C (c_X4_takeNumber _ E n h0 (0 : Int32) (99 : Int32) th0) dX4_readWalker_17 ml_X4_140 mv_X4_takeNumber ⟨TX4, _, rfl⟩ (by decide) th0 rfl rfl ⟨by decide, by decide⟩ (Nat.le_of_ble_eq_true rfl) (fun v6 S5 hv6 => ?_)
    refine r_goto C 24 dX4_readWalker_20 (by decide) ?_
    exact p_X4_readWalker_J24 C X  S5 h0 h1 v6 th0 th1
set_option maxRecDepth 100000 in
set_option maxHeartbeats 4000000 in
theorem p_X4_readCourt_J49 {A : AM} {E : EN} {n : Nat} (C : Cx A E cX4_readCourt 4 RX4 3 64) (X : Ex A E (some .boolean))  (S : WS) (h0 : Nat) (h1 : Nat) (x2 : Int32) (th0 : Ty E h0 3) (th1 : Ty E h1 2) : Gd A E 4 (QM A E wI tT) (f_X4_readCourt_J49 E n  S h0 h1 x2) S 49 [(0, .ref h0), (1, .ref h1), (2, .int x2)] [] := by
  unfold f_X4_readCourt_J49
  refine r_aload_n C 0 dX4_readCourt_49 rfl ?_
  refine r_iconst C (0 : Int32) dX4_readCourt_50 (by decide) ?_
  refine r_aload_n C 1 dX4_readCourt_51 rfl ?_
  refine r_geti C fl_X4_103 dX4_readCourt_52 th1 ?_
  refine r_iconst C (1 : Int32) dX4_readCourt_55 (by decide) ?_
  refine r_isub C dX4_readCourt_56 ?_
  refine r_callV (As := [.int (0 : Int32), .int ((gi S 132 h1) - (1 : Int32))]) (rest := []) C (c_X4_takeNumber _ E n h0 (0 : Int32) ((gi S 132 h1) - (1 : Int32)) th0) dX4_readCourt_57 ml_X4_140 mv_X4_takeNumber ⟨TX4, _, rfl⟩ (by decide) th0 rfl rfl ⟨by decide, by decide⟩ (Nat.le_of_ble_eq_true rfl) (fun v2 S1 hv2 => ?_)
  refine r_istore_n C [(3, .int v2), (0, .ref h0), (1, .ref h1), (2, .int x2)] dX4_readCourt_60 (by decide) rfl ?_
  refine r_iload_n C 0 dX4_readCourt_61 rfl ?_
  refine r_iconst C (-1 : Int32) dX4_readCourt_62 (by decide) ?_
  refine r_icmp_ne C 68 dX4_readCourt_63 (by decide) ?_ ?_
  · refine r_aload_n C 2 dX4_readCourt_68 rfl ?_
    refine r_getr C fl_X4_207 dX4_readCourt_69 th1 (fun b3 tb3 => ?_)
    refine r_iload_n C 3 dX4_readCourt_72 rfl ?_
    refine r_iload_n C 0 dX4_readCourt_73 rfl ?_
    refine r_iast C dX4_readCourt_74 tb3 (fun S4 => ?_)
    refine r_iconst C (1 : Int32) dX4_readCourt_75 (by decide) ?_
    exact r_zreturn C X rfl dX4_readCourt_76
  · refine r_iconst C (0 : Int32) dX4_readCourt_66 (by decide) ?_
    exact r_zreturn C X rfl dX4_readCourt_67
set_option maxRecDepth 100000 in
set_option maxHeartbeats 4000000 in
theorem c_X4_readCourt (l : Launch) (E : EN) (n : Nat) (h0 : Nat) (h1 : Nat) (th0 : Ty E h0 3) (th1 : Ty E h1 2) : CT l E yX4_readCourt cX4_readCourt 4 (some .boolean) 3 64 wI tT [.ref h0, .ref h1] (fun S => f_X4_readCourt E n S h0 h1) := by
  refine ct_of RX4 (by decide +kernel) rfl [(0, .ref h0), (1, .ref h1)] rfl (Nat.le_of_ble_eq_true rfl) (fun A S hA C X => ?_)
  subst hA
  show Gd A E 4 (QM A E wI tT) (f_X4_readCourt E n S h0 h1) S 0 [(0, .ref h0), (1, .ref h1)] []
  unfold f_X4_readCourt
  refine r_aload_n C 0 dX4_readCourt_0 rfl ?_
  refine r_callV (As := []) (rest := []) C (c_X4_nextToken _ E n h0 th0) dX4_readCourt_1 ml_X4_48 mv_X4_nextToken ⟨TX4, _, rfl⟩ (by decide) th0 rfl rfl ⟨by decide, by decide⟩ (Nat.le_of_ble_eq_true rfl) (fun v2 S1 hv2 => ?_)
  refine r_aload_n C 0 dX4_readCourt_4 rfl ?_
  refine r_iconst C (0 : Int32) dX4_readCourt_5 (by decide) ?_
  refine r_aload_n C 1 dX4_readCourt_6 rfl ?_
  refine r_geti C fl_X4_111 dX4_readCourt_7 th1 ?_
  refine r_iconst C (1 : Int32) dX4_readCourt_10 (by decide) ?_
  refine r_isub C dX4_readCourt_11 ?_
  refine r_callV (As := [.int (0 : Int32), .int ((gi S1 133 h1) - (1 : Int32))]) (rest := []) C (c_X4_takeNumber _ E n h0 (0 : Int32) ((gi S1 133 h1) - (1 : Int32)) th0) dX4_readCourt_12 ml_X4_140 mv_X4_takeNumber ⟨TX4, _, rfl⟩ (by decide) th0 rfl rfl ⟨by decide, by decide⟩ (Nat.le_of_ble_eq_true rfl) (fun v4 S3 hv4 => ?_)
  refine r_istore_n C [(2, .int v4), (0, .ref h0), (1, .ref h1)] dX4_readCourt_15 (by decide) rfl ?_
  refine r_iload_n C 0 dX4_readCourt_16 rfl ?_
  refine r_iconst C (-1 : Int32) dX4_readCourt_17 (by decide) ?_
  refine r_icmp_ne C 23 dX4_readCourt_18 (by decide) ?_ ?_
  · refine r_aload_n C 1 dX4_readCourt_23 rfl ?_
    refine r_geti C fl_X4_22 dX4_readCourt_24 th0 ?_
    refine r_iconst C (2 : Int32) dX4_readCourt_27 (by decide) ?_
    refine r_icmp_ne C 49 dX4_readCourt_28 (by decide) ?_ ?_
    · refine r_sub [1, 2, 0] [(0, .ref h0), (1, .ref h1), (2, .int v4)] rfl ?_
      exact p_X4_readCourt_J49 C X  S3 h0 h1 v4 th0 th1
    · refine r_aload_n C 2 dX4_readCourt_31 rfl ?_
      refine r_iload_n C 0 dX4_readCourt_32 rfl ?_
      refine r_aload_n C 1 dX4_readCourt_33 rfl ?_
      refine r_geti C fl_X4_28 dX4_readCourt_34 th0 ?_
      refine r_callV (As := [.int v4, .int (gi S3 197 h0)]) (rest := []) C (c_X3_isFor _ E n h1 v4 (gi S3 197 h0) th1) dX4_readCourt_37 ml_X4_203 mv_X3_isFor ⟨TX3, _, rfl⟩ (by decide) th1 rfl rfl ⟨by decide, by decide⟩ (Nat.le_of_ble_eq_true rfl) (fun v6 S5 hv6 => ?_)
      refine r_if_ne C 49 dX4_readCourt_40 (by decide) ?_ ?_
      · refine r_sub [1, 2, 0] [(0, .ref h0), (1, .ref h1), (2, .int v4)] rfl ?_
        exact p_X4_readCourt_J49 C X  S5 h0 h1 v4 th0 th1
      · refine r_aload_n C 1 dX4_readCourt_43 rfl ?_
        refine r_iconst C (2 : Int32) dX4_readCourt_44 (by decide) ?_
        refine r_callV (As := [.int (2 : Int32)]) (rest := []) C (c_X4_failHere _ E n h0 (2 : Int32) th0) dX4_readCourt_45 ml_X4_75 mv_X4_failHere ⟨TX4, _, rfl⟩ (by decide) th0 rfl rfl ⟨by decide, by decide⟩ (Nat.le_of_ble_eq_true rfl) (fun v8 S7 hv8 => ?_)
        exact r_zreturnc C X dX4_readCourt_48
  · refine r_iconst C (0 : Int32) dX4_readCourt_21 (by decide) ?_
    exact r_zreturn C X rfl dX4_readCourt_22
set_option maxRecDepth 100000 in
set_option maxHeartbeats 4000000 in
theorem p_X5_sameByAll_L2 {A : AM} {E : EN} {n : Nat} (C : Cx A E cX5_sameByAll 3 RX5 0 0) (X : Ex A E (some .int))  : ∀ (m : Nat) (S : WS) (h0 : Nat) (x1 : Int32) (x2 : Int32) (th0 : Ty E h0 4), Gd A E 3 (QM A E wI tT) (f_X5_sameByAll_L2 E n  m S h0 x1 x2) S 2 [(0, .ref h0), (1, .int x1), (2, .int x2)] [] := by
  intro m
  induction m with
  | zero => intros; exact gn
  | succ m ih =>
    intro S h0 x1 x2 th0
    unfold f_X5_sameByAll_L2
    refine r_iload_n C 2 dX5_sameByAll_2 rfl ?_
    refine r_iconst C (5 : Int32) dX5_sameByAll_3 (by decide) ?_
    refine r_icmp_ge C 38 dX5_sameByAll_4 (by decide) ?_ ?_
    · refine r_iconst C (-1 : Int32) dX5_sameByAll_38 (by decide) ?_
      exact r_ireturn C X dX5_sameByAll_39
    · refine r_aload_n C 0 dX5_sameByAll_7 rfl ?_
      refine r_getr C fl_X5_31 dX5_sameByAll_8 th0 (fun b1 tb1 => ?_)
      refine r_iload_n C 1 dX5_sameByAll_11 rfl ?_
      refine r_iald C dX5_sameByAll_12 tb1 ?_
      refine r_iconst C (1 : Int32) dX5_sameByAll_13 (by decide) ?_
      refine r_iload_n C 2 dX5_sameByAll_14 rfl ?_
      refine r_ishl C dX5_sameByAll_15 ?_
      refine r_icmp_ne C 32 dX5_sameByAll_16 (by decide) ?_ ?_
      · refine r_iinc C 2 (fun y2 => [(2, .int y2), (0, .ref h0), (1, .int x1)]) dX5_sameByAll_32 rfl (v := (1 : Int32)) (by decide) (by decide) (fun _ => rfl) (fun y2 => ?_)
        refine r_goto C 2 dX5_sameByAll_35 (by decide) ?_
        refine r_sub [1, 2, 0] [(0, .ref h0), (1, .int x1), (2, .int y2)] rfl ?_
        exact ih S h0 x1 y2 th0
      · refine r_iload_n C 2 dX5_sameByAll_19 rfl ?_
        refine r_if_ne C 28 dX5_sameByAll_20 (by decide) ?_ ?_
        · refine r_iload_n C 2 dX5_sameByAll_28 rfl ?_
          refine r_iconst C (1 : Int32) dX5_sameByAll_29 (by decide) ?_
          refine r_isub C dX5_sameByAll_30 ?_
          exact r_ireturn C X dX5_sameByAll_31
        · refine r_bipush C (9 : Int32) dX5_sameByAll_23 (by decide) ?_
          refine r_goto C 31 dX5_sameByAll_25 (by decide) ?_
          exact r_ireturn C X dX5_sameByAll_31
set_option maxRecDepth 100000 in
set_option maxHeartbeats 4000000 in
theorem c_X5_sameByAll (l : Launch) (E : EN) (n : Nat) (h0 : Nat) (x1 : Int32) (th0 : Ty E h0 4) : CT l E yX5_sameByAll cX5_sameByAll 3 (some .int) 0 0 wI tT [.ref h0, .int x1] (fun S => f_X5_sameByAll E n S h0 x1) := by
  refine ct_of RX5 (by decide +kernel) rfl [(0, .ref h0), (1, .int x1)] rfl (Nat.le_of_ble_eq_true rfl) (fun A S hA C X => ?_)
  subst hA
  show Gd A E 3 (QM A E wI tT) (f_X5_sameByAll E n S h0 x1) S 0 [(0, .ref h0), (1, .int x1)] []
  unfold f_X5_sameByAll
  refine r_iconst C (0 : Int32) dX5_sameByAll_0 (by decide) ?_
  refine r_istore_n C [(2, .int (0 : Int32)), (0, .ref h0), (1, .int x1)] dX5_sameByAll_1 (by decide) rfl ?_
  refine r_sub [1, 2, 0] [(0, .ref h0), (1, .int x1), (2, .int (0 : Int32))] rfl ?_
  exact p_X5_sameByAll_L2 C X  n S h0 x1 (0 : Int32) th0
set_option maxRecDepth 100000 in
set_option maxHeartbeats 4000000 in
theorem c_X6_holds (l : Launch) (E : EN) (n : Nat) (h0 : Nat) (x1 : Int32) (x2 : Int32) (th0 : Ty E h0 5) : CT l E yX6_holds cX6_holds 3 (some .boolean) 0 0 wI tT [.ref h0, .int x1, .int x2] (fun S => f_X6_holds E n S h0 x1 x2) := by
  refine ct_of RX6 (by decide +kernel) rfl [(0, .ref h0), (1, .int x1), (2, .int x2)] rfl (Nat.le_of_ble_eq_true rfl) (fun A S hA C X => ?_)
  subst hA
  show Gd A E 3 (QM A E wI tT) (f_X6_holds E n S h0 x1 x2) S 0 [(0, .ref h0), (1, .int x1), (2, .int x2)] []
  unfold f_X6_holds
  refine r_iload_n C 1 dX6_holds_0 rfl ?_
  refine r_if_lt C 26 dX6_holds_1 (by decide) ?_ ?_
  · refine r_iconst C (0 : Int32) dX6_holds_26 (by decide) ?_
    exact r_zreturn C X rfl dX6_holds_27
  · refine r_iload_n C 2 dX6_holds_4 rfl ?_
    refine r_if_lt C 26 dX6_holds_5 (by decide) ?_ ?_
    · refine r_iconst C (0 : Int32) dX6_holds_26 (by decide) ?_
      exact r_zreturn C X rfl dX6_holds_27
    · refine r_iload_n C 1 dX6_holds_8 rfl ?_
      refine r_i2l C dX6_holds_9 ?_
      refine r_iload_n C 2 dX6_holds_10 rfl ?_
      refine r_i2l C dX6_holds_11 ?_
      refine r_ladd C dX6_holds_12 ?_
      refine r_aload_n C 0 dX6_holds_13 rfl ?_
      refine r_geti C fl_X6_15 dX6_holds_14 th0 ?_
      refine r_i2l C dX6_holds_17 ?_
      refine r_lcmp C dX6_holds_18 ?_
      refine r_if_gt C 26 dX6_holds_19 (by decide) ?_ ?_
      · refine r_iconst C (0 : Int32) dX6_holds_26 (by decide) ?_
        exact r_zreturn C X rfl dX6_holds_27
      · refine r_iconst C (1 : Int32) dX6_holds_22 (by decide) ?_
        refine r_goto C 27 dX6_holds_23 (by decide) ?_
        exact r_zreturn C X rfl dX6_holds_27
set_option maxRecDepth 100000 in
set_option maxHeartbeats 4000000 in
theorem c_X6_measures (l : Launch) (E : EN) (n : Nat) (h0 : Nat) (th0 : Ty E h0 5) : CT l E yX6_measures cX6_measures 1 (some .int) 0 0 wI tT [.ref h0] (fun S => f_X6_measures E n S h0) := by
  refine ct_of RX6 (by decide +kernel) rfl [(0, .ref h0)] rfl (Nat.le_of_ble_eq_true rfl) (fun A S hA C X => ?_)
  subst hA
  show Gd A E 1 (QM A E wI tT) (f_X6_measures E n S h0) S 0 [(0, .ref h0)] []
  unfold f_X6_measures
  refine r_aload_n C 0 dX6_measures_0 rfl ?_
  refine r_geti C fl_X6_15 dX6_measures_1 th0 ?_
  refine r_iconst C (3 : Int32) dX6_measures_4 (by decide) ?_
  refine r_idiv C dX6_measures_5 ?_
  exact r_ireturn C X dX6_measures_6
set_option maxRecDepth 100000 in
set_option maxHeartbeats 4000000 in
theorem c_X6_numberAt (l : Launch) (E : EN) (n : Nat) (h0 : Nat) (x1 : Int32) (th0 : Ty E h0 5) : CT l E yX6_numberAt cX6_numberAt 2 (some .long) 0 0 wJ tT [.ref h0, .int x1] (fun S => f_X6_numberAt E n S h0 x1) := by
  refine ct_of RX6 (by decide +kernel) rfl [(0, .ref h0), (1, .int x1)] rfl (Nat.le_of_ble_eq_true rfl) (fun A S hA C X => ?_)
  subst hA
  show Gd A E 2 (QM A E wJ tT) (f_X6_numberAt E n S h0 x1) S 0 [(0, .ref h0), (1, .int x1)] []
  unfold f_X6_numberAt
  refine r_iload_n C 1 dX6_numberAt_0 rfl ?_
  refine r_if_lt C 22 dX6_numberAt_1 (by decide) ?_ ?_
  · refine r_ldc2 C (-1 : Int64) (mG 1112 (by decide +kernel) rfl) dX6_numberAt_22 ?_
    exact r_lreturn C X dX6_numberAt_25
  · refine r_iload_n C 1 dX6_numberAt_4 rfl ?_
    refine r_aload_n C 0 dX6_numberAt_5 rfl ?_
    refine r_getr C fl_X6_18 dX6_numberAt_6 th0 (fun b1 tb1 => ?_)
    refine r_alen C (k := 11) rfl (by decide) dX6_numberAt_9 tb1 ?_
    refine r_icmp_ge C 22 dX6_numberAt_10 (by decide) ?_ ?_
    · refine r_ldc2 C (-1 : Int64) (mG 1112 (by decide +kernel) rfl) dX6_numberAt_22 ?_
      exact r_lreturn C X dX6_numberAt_25
    · refine r_aload_n C 0 dX6_numberAt_13 rfl ?_
      refine r_getr C fl_X6_18 dX6_numberAt_14 th0 (fun b2 tb2 => ?_)
      refine r_iload_n C 1 dX6_numberAt_17 rfl ?_
      refine r_lald C dX6_numberAt_18 tb2 ?_
      refine r_goto C 25 dX6_numberAt_19 (by decide) ?_
      exact r_lreturn C X dX6_numberAt_25
set_option maxRecDepth 100000 in
set_option maxHeartbeats 4000000 in
theorem c_X6_pathOf (l : Launch) (E : EN) (n : Nat) (h0 : Nat) (x1 : Int32) (th0 : Ty E h0 5) : CT l E yX6_pathOf cX6_pathOf 2 (some .int) 1 21 wI tT [.ref h0, .int x1] (fun S => f_X6_pathOf E n S h0 x1) := by
  refine ct_of RX6 (by decide +kernel) rfl [(0, .ref h0), (1, .int x1)] rfl (Nat.le_of_ble_eq_true rfl) (fun A S hA C X => ?_)
  subst hA
  show Gd A E 2 (QM A E wI tT) (f_X6_pathOf E n S h0 x1) S 0 [(0, .ref h0), (1, .int x1)] []
  unfold f_X6_pathOf
  refine r_aload_n C 0 dX6_pathOf_0 rfl ?_
  refine r_iload_n C 1 dX6_pathOf_1 rfl ?_
  refine r_iconst C (3 : Int32) dX6_pathOf_2 (by decide) ?_
  refine r_imul C dX6_pathOf_3 ?_
  refine r_callV (As := [.int (x1 * (3 : Int32))]) (rest := []) C (c_X6_numberAt _ E n h0 (x1 * (3 : Int32)) th0) dX6_pathOf_4 ml_X6_24 mv_X6_numberAt ⟨TX6, _, rfl⟩ (by decide) th0 rfl rfl ⟨by decide, by decide⟩ (Nat.le_of_ble_eq_true rfl) (fun v2 S1 hv2 => ?_)
  refine r_l2i C dX6_pathOf_7 ?_
  exact r_ireturn C X dX6_pathOf_8
set_option maxRecDepth 100000 in
set_option maxHeartbeats 4000000 in
theorem c_X6_yearOf (l : Launch) (E : EN) (n : Nat) (h0 : Nat) (x1 : Int32) (th0 : Ty E h0 5) : CT l E yX6_yearOf cX6_yearOf 2 (some .int) 1 21 wI tT [.ref h0, .int x1] (fun S => f_X6_yearOf E n S h0 x1) := by
  refine ct_of RX6 (by decide +kernel) rfl [(0, .ref h0), (1, .int x1)] rfl (Nat.le_of_ble_eq_true rfl) (fun A S hA C X => ?_)
  subst hA
  show Gd A E 2 (QM A E wI tT) (f_X6_yearOf E n S h0 x1) S 0 [(0, .ref h0), (1, .int x1)] []
  unfold f_X6_yearOf
  refine r_aload_n C 0 dX6_yearOf_0 rfl ?_
  refine r_iload_n C 1 dX6_yearOf_1 rfl ?_
  refine r_iconst C (3 : Int32) dX6_yearOf_2 (by decide) ?_
  refine r_imul C dX6_yearOf_3 ?_
  refine r_iconst C (1 : Int32) dX6_yearOf_4 (by decide) ?_
  refine r_iadd C dX6_yearOf_5 ?_
  refine r_callV (As := [.int ((x1 * (3 : Int32)) + (1 : Int32))]) (rest := []) C (c_X6_numberAt _ E n h0 ((x1 * (3 : Int32)) + (1 : Int32)) th0) dX6_yearOf_6 ml_X6_24 mv_X6_numberAt ⟨TX6, _, rfl⟩ (by decide) th0 rfl rfl ⟨by decide, by decide⟩ (Nat.le_of_ble_eq_true rfl) (fun v2 S1 hv2 => ?_)
  refine r_l2i C dX6_yearOf_9 ?_
  exact r_ireturn C X dX6_yearOf_10
set_option maxRecDepth 100000 in
set_option maxHeartbeats 4000000 in
theorem c_X6_leapTold (l : Launch) (E : EN) (n : Nat) (h0 : Nat) (x1 : Int32) (th0 : Ty E h0 5) : CT l E yX6_leapTold cX6_leapTold 2 (some .long) 1 21 wJ tT [.ref h0, .int x1] (fun S => f_X6_leapTold E n S h0 x1) := by
  refine ct_of RX6 (by decide +kernel) rfl [(0, .ref h0), (1, .int x1)] rfl (Nat.le_of_ble_eq_true rfl) (fun A S hA C X => ?_)
  subst hA
  show Gd A E 2 (QM A E wJ tT) (f_X6_leapTold E n S h0 x1) S 0 [(0, .ref h0), (1, .int x1)] []
  unfold f_X6_leapTold
  refine r_aload_n C 0 dX6_leapTold_0 rfl ?_
  refine r_iload_n C 1 dX6_leapTold_1 rfl ?_
  refine r_iconst C (3 : Int32) dX6_leapTold_2 (by decide) ?_
  refine r_imul C dX6_leapTold_3 ?_
  refine r_iconst C (2 : Int32) dX6_leapTold_4 (by decide) ?_
  refine r_iadd C dX6_leapTold_5 ?_
  refine r_callV (As := [.int ((x1 * (3 : Int32)) + (2 : Int32))]) (rest := []) C (c_X6_numberAt _ E n h0 ((x1 * (3 : Int32)) + (2 : Int32)) th0) dX6_leapTold_6 ml_X6_24 mv_X6_numberAt ⟨TX6, _, rfl⟩ (by decide) th0 rfl rfl ⟨by decide, by decide⟩ (Nat.le_of_ble_eq_true rfl) (fun v2 S1 hv2 => ?_)
  exact r_lreturn C X dX6_leapTold_9
set_option maxRecDepth 100000 in
set_option maxHeartbeats 4000000 in
theorem p_X6_isMeasured_L13 {A : AM} {E : EN} {n : Nat} (C : Cx A E cX6_isMeasured 7 RX6 1 21) (X : Ex A E (some .boolean))  : ∀ (m : Nat) (S : WS) (h0 : Nat) (h1 : Nat) (x2 : Int32) (th0 : Ty E h0 5) (th1 : Ty E h1 2), Gd A E 7 (QM A E wI tT) (f_X6_isMeasured_L13 E n  m S h0 h1 x2) S 13 [(0, .ref h0), (1, .ref h1), (2, .int x2)] [] := by
  intro m
  induction m with
  | zero => intros; exact gn
  | succ m ih =>
    intro S h0 h1 x2 th0 th1
    unfold f_X6_isMeasured_L13
    refine r_iload_n C 2 dX6_isMeasured_13 rfl ?_
    refine r_aload_n C 0 dX6_isMeasured_14 rfl ?_
    refine r_callV (As := []) (rest := [.int x2]) C (c_X6_measures _ E n h0 th0) dX6_isMeasured_15 ml_X6_28 mv_X6_measures ⟨TX6, _, rfl⟩ (by decide) th0 rfl rfl ⟨by decide, by decide⟩ (Nat.le_of_ble_eq_true rfl) (fun v2 S1 hv2 => ?_)
    refine r_icmp_ge C 82 dX6_isMeasured_18 (by decide) ?_ ?_
    · refine r_iconst C (1 : Int32) dX6_isMeasured_82 (by decide) ?_
      exact r_zreturn C X rfl dX6_isMeasured_83
    · refine r_aload_n C 0 dX6_isMeasured_21 rfl ?_
      refine r_iload_n C 2 dX6_isMeasured_22 rfl ?_
      refine r_iconst C (3 : Int32) dX6_isMeasured_23 (by decide) ?_
      refine r_imul C dX6_isMeasured_24 ?_
      refine r_callV (As := [.int (x2 * (3 : Int32))]) (rest := []) C (c_X6_numberAt _ E n h0 (x2 * (3 : Int32)) th0) dX6_isMeasured_25 ml_X6_24 mv_X6_numberAt ⟨TX6, _, rfl⟩ (by decide) th0 rfl rfl ⟨by decide, by decide⟩ (Nat.le_of_ble_eq_true rfl) (fun v4 S3 hv4 => ?_)
      refine r_lstore_n C [(3, .long v4), (0, .ref h0), (1, .ref h1), (2, .int x2)] dX6_isMeasured_28 (by decide) rfl ?_
      refine r_aload_n C 1 dX6_isMeasured_29 rfl ?_
      refine r_iload_n C 3 dX6_isMeasured_30 rfl ?_
      refine r_iconst C (3 : Int32) dX6_isMeasured_31 (by decide) ?_
      refine r_imul C dX6_isMeasured_32 ?_
      refine r_iconst C (1 : Int32) dX6_isMeasured_33 (by decide) ?_
      refine r_iadd C dX6_isMeasured_34 ?_
      refine r_callV (As := [.int ((x2 * (3 : Int32)) + (1 : Int32))]) (rest := []) C (c_X6_numberAt _ E n h0 ((x2 * (3 : Int32)) + (1 : Int32)) th0) dX6_isMeasured_35 ml_X6_24 mv_X6_numberAt ⟨TX6, _, rfl⟩ (by decide) th0 rfl rfl ⟨by decide, by decide⟩ (Nat.le_of_ble_eq_true rfl) (fun v6 S5 hv6 => ?_)
      refine r_lstore C [(5, .long v6), (3, .long v4), (0, .ref h0), (1, .ref h1), (2, .int x2)] dX6_isMeasured_38 (by decide) rfl ?_
      refine r_lload_n C 1 dX6_isMeasured_40 rfl ?_
      refine r_lconst C (0 : Int64) dX6_isMeasured_41 (by decide) ?_
      refine r_lcmp C dX6_isMeasured_42 ?_
      refine r_if_lt C 74 dX6_isMeasured_43 (by decide) ?_ ?_
      · refine r_iconst C (0 : Int32) dX6_isMeasured_74 (by decide) ?_
        exact r_zreturn C X rfl dX6_isMeasured_75
      · refine r_lload_n C 1 dX6_isMeasured_46 rfl ?_
        refine r_aload_n C 3 dX6_isMeasured_47 rfl ?_
        refine r_geti C fl_X6_32 dX6_isMeasured_48 th1 ?_
        refine r_i2l C dX6_isMeasured_51 ?_
        refine r_lcmp C dX6_isMeasured_52 ?_
        refine r_if_ge C 74 dX6_isMeasured_53 (by decide) ?_ ?_
        · refine r_iconst C (0 : Int32) dX6_isMeasured_74 (by decide) ?_
          exact r_zreturn C X rfl dX6_isMeasured_75
        · refine r_lload C 0 dX6_isMeasured_56 rfl ?_
          refine r_lconst C (0 : Int64) dX6_isMeasured_58 (by decide) ?_
          refine r_lcmp C dX6_isMeasured_59 ?_
          refine r_if_lt C 74 dX6_isMeasured_60 (by decide) ?_ ?_
          · refine r_iconst C (0 : Int32) dX6_isMeasured_74 (by decide) ?_
            exact r_zreturn C X rfl dX6_isMeasured_75
          · refine r_lload C 0 dX6_isMeasured_63 rfl ?_
            refine r_aload_n C 3 dX6_isMeasured_65 rfl ?_
            refine r_geti C fl_X6_37 dX6_isMeasured_66 th1 ?_
            refine r_i2l C dX6_isMeasured_69 ?_
            refine r_lcmp C dX6_isMeasured_70 ?_
            refine r_if_lt C 76 dX6_isMeasured_71 (by decide) ?_ ?_
            · refine r_iinc C 4 (fun y7 => [(2, .int y7), (5, .long v6), (3, .long v4), (0, .ref h0), (1, .ref h1)]) dX6_isMeasured_76 rfl (v := (1 : Int32)) (by decide) (by decide) (fun _ => rfl) (fun y7 => ?_)
              refine r_goto C 13 dX6_isMeasured_79 (by decide) ?_
              refine r_sub [3, 4, 0] [(0, .ref h0), (1, .ref h1), (2, .int y7)] rfl ?_
              exact ih S5 h0 h1 y7 th0 th1
            · refine r_iconst C (0 : Int32) dX6_isMeasured_74 (by decide) ?_
              exact r_zreturn C X rfl dX6_isMeasured_75
set_option maxRecDepth 100000 in
set_option maxHeartbeats 4000000 in
theorem c_X6_isMeasured (l : Launch) (E : EN) (n : Nat) (h0 : Nat) (h1 : Nat) (th0 : Ty E h0 5) (th1 : Ty E h1 2) : CT l E yX6_isMeasured cX6_isMeasured 7 (some .boolean) 1 21 wI tT [.ref h0, .ref h1] (fun S => f_X6_isMeasured E n S h0 h1) := by
  refine ct_of RX6 (by decide +kernel) rfl [(0, .ref h0), (1, .ref h1)] rfl (Nat.le_of_ble_eq_true rfl) (fun A S hA C X => ?_)
  subst hA
  show Gd A E 7 (QM A E wI tT) (f_X6_isMeasured E n S h0 h1) S 0 [(0, .ref h0), (1, .ref h1)] []
  unfold f_X6_isMeasured
  refine r_aload_n C 0 dX6_isMeasured_0 rfl ?_
  refine r_geti C fl_X6_15 dX6_isMeasured_1 th0 ?_
  refine r_iconst C (3 : Int32) dX6_isMeasured_4 (by decide) ?_
  refine r_irem C dX6_isMeasured_5 ?_
  refine r_if_eq C 11 dX6_isMeasured_6 (by decide) ?_ ?_
  · refine r_iconst C (0 : Int32) dX6_isMeasured_11 (by decide) ?_
    refine r_istore_n C [(2, .int (0 : Int32)), (0, .ref h0), (1, .ref h1)] dX6_isMeasured_12 (by decide) rfl ?_
    refine r_sub [1, 2, 0] [(0, .ref h0), (1, .ref h1), (2, .int (0 : Int32))] rfl ?_
    exact p_X6_isMeasured_L13 C X  n S h0 h1 (0 : Int32) th0 th1
  · refine r_iconst C (0 : Int32) dX6_isMeasured_9 (by decide) ?_
    exact r_zreturn C X rfl dX6_isMeasured_10
set_option maxRecDepth 100000 in
set_option maxHeartbeats 4000000 in
theorem p_X8_putNumber_L3 {A : AM} {E : EN} {n : Nat} (C : Cx A E cX8_putNumber 3 RX8 0 0) (X : Ex A E none)  : ∀ (m : Nat) (S : WS) (h0 : Nat) (x1 : Int32) (x2 : Int32) (th0 : Ty E h0 7), Gd A E 3 (QM A E wV tT) (f_X8_putNumber_L3 E n  m S h0 x1 x2) S 3 [(0, .ref h0), (1, .int x1), (2, .int x2)] [] := by
  intro m
  induction m with
  | zero => intros; exact gn
  | succ m ih =>
    intro S h0 x1 x2 th0
    unfold f_X8_putNumber_L3
    refine r_iload_n C 2 dX8_putNumber_3 rfl ?_
    refine r_if_lt C 55 dX8_putNumber_4 (by decide) ?_ ?_
    · exact r_return C X dX8_putNumber_55
    · refine r_aload_n C 0 dX8_putNumber_7 rfl ?_
      refine r_geti C fl_X8_13 dX8_putNumber_8 th0 ?_
      refine r_if_lt C 49 dX8_putNumber_11 (by decide) ?_ ?_
      · refine r_iinc C 2 (fun y1 => [(2, .int y1), (0, .ref h0), (1, .int x1)]) dX8_putNumber_49 rfl (v := (-8 : Int32)) (by decide) (by decide) (fun _ => rfl) (fun y1 => ?_)
        refine r_goto C 3 dX8_putNumber_52 (by decide) ?_
        refine r_sub [1, 2, 0] [(0, .ref h0), (1, .int x1), (2, .int y1)] rfl ?_
        exact ih S h0 x1 y1 th0
      · refine r_aload_n C 0 dX8_putNumber_14 rfl ?_
        refine r_geti C fl_X8_13 dX8_putNumber_15 th0 ?_
        refine r_aload_n C 0 dX8_putNumber_18 rfl ?_
        refine r_getr C fl_X8_9 dX8_putNumber_19 th0 (fun b2 tb2 => ?_)
        refine r_alen C (k := 9) rfl (by decide) dX8_putNumber_22 tb2 ?_
        refine r_icmp_ge C 49 dX8_putNumber_23 (by decide) ?_ ?_
        · refine r_iinc C 2 (fun y3 => [(2, .int y3), (0, .ref h0), (1, .int x1)]) dX8_putNumber_49 rfl (v := (-8 : Int32)) (by decide) (by decide) (fun _ => rfl) (fun y3 => ?_)
          refine r_goto C 3 dX8_putNumber_52 (by decide) ?_
          refine r_sub [1, 2, 0] [(0, .ref h0), (1, .int x1), (2, .int y3)] rfl ?_
          exact ih S h0 x1 y3 th0
        · refine r_aload_n C 0 dX8_putNumber_26 rfl ?_
          refine r_getr C fl_X8_9 dX8_putNumber_27 th0 (fun b4 tb4 => ?_)
          refine r_aload_n C 0 dX8_putNumber_30 rfl ?_
          refine r_geti C fl_X8_13 dX8_putNumber_31 th0 ?_
          refine r_iload_n C 1 dX8_putNumber_34 rfl ?_
          refine r_iload_n C 2 dX8_putNumber_35 rfl ?_
          refine r_iushr C dX8_putNumber_36 ?_
          refine r_i2b C dX8_putNumber_37 ?_
          refine r_bast C dX8_putNumber_38 tb4 (fun S5 => ?_)
          refine r_aload_n C 0 dX8_putNumber_39 rfl ?_
          refine r_dup C dX8_putNumber_40 rfl ?_
          refine r_geti C fl_X8_13 dX8_putNumber_41 th0 ?_
          refine r_iconst C (1 : Int32) dX8_putNumber_44 (by decide) ?_
          refine r_iadd C dX8_putNumber_45 ?_
          refine r_puti C fl_X8_13 dX8_putNumber_46 th0 (fun S6 => ?_)
          refine r_iinc C 2 (fun y7 => [(2, .int y7), (0, .ref h0), (1, .int x1)]) dX8_putNumber_49 rfl (v := (-8 : Int32)) (by decide) (by decide) (fun _ => rfl) (fun y7 => ?_)
          refine r_goto C 3 dX8_putNumber_52 (by decide) ?_
          refine r_sub [1, 2, 0] [(0, .ref h0), (1, .int x1), (2, .int y7)] rfl ?_
          exact ih S6 h0 x1 y7 th0
set_option maxRecDepth 100000 in
set_option maxHeartbeats 4000000 in
theorem c_X8_putNumber (l : Launch) (E : EN) (n : Nat) (h0 : Nat) (x1 : Int32) (th0 : Ty E h0 7) : CT l E yX8_putNumber cX8_putNumber 3 none 0 0 wV tT [.ref h0, .int x1] (fun S => f_X8_putNumber E n S h0 x1) := by
  refine ct_of RX8 (by decide +kernel) rfl [(0, .ref h0), (1, .int x1)] rfl (Nat.le_of_ble_eq_true rfl) (fun A S hA C X => ?_)
  subst hA
  show Gd A E 3 (QM A E wV tT) (f_X8_putNumber E n S h0 x1) S 0 [(0, .ref h0), (1, .int x1)] []
  unfold f_X8_putNumber
  refine r_bipush C (24 : Int32) dX8_putNumber_0 (by decide) ?_
  refine r_istore_n C [(2, .int (24 : Int32)), (0, .ref h0), (1, .int x1)] dX8_putNumber_2 (by decide) rfl ?_
  refine r_sub [1, 2, 0] [(0, .ref h0), (1, .int x1), (2, .int (24 : Int32))] rfl ?_
  exact p_X8_putNumber_L3 C X  n S h0 x1 (24 : Int32) th0
set_option maxRecDepth 100000 in
set_option maxHeartbeats 4000000 in
theorem c_X8_end (l : Launch) (E : EN) (n : Nat) (h0 : Nat) (x1 : Int32) (th0 : Ty E h0 7) : CT l E yX8_end cX8_end 2 (some .int) 0 0 wI tT [.ref h0, .int x1] (fun S => f_X8_end E n S h0 x1) := by
  refine ct_of RX8 (by decide +kernel) rfl [(0, .ref h0), (1, .int x1)] rfl (Nat.le_of_ble_eq_true rfl) (fun A S hA C X => ?_)
  subst hA
  show Gd A E 2 (QM A E wI tT) (f_X8_end E n S h0 x1) S 0 [(0, .ref h0), (1, .int x1)] []
  unfold f_X8_end
  refine r_iload_n C 1 dX8_end_0 rfl ?_
  refine r_if_lt C 12 dX8_end_1 (by decide) ?_ ?_
  · refine r_iconst C (-1 : Int32) dX8_end_12 (by decide) ?_
    exact r_ireturn C X dX8_end_13
  · refine r_iload_n C 1 dX8_end_4 rfl ?_
    refine r_aload_n C 0 dX8_end_5 rfl ?_
    refine r_geti C fl_X8_13 dX8_end_6 th0 ?_
    refine r_icmp_le C 14 dX8_end_9 (by decide) ?_ ?_
    · refine r_aload_n C 0 dX8_end_14 rfl ?_
      refine r_iload_n C 1 dX8_end_15 rfl ?_
      refine r_puti C fl_X8_13 dX8_end_16 th0 (fun S1 => ?_)
      refine r_iload_n C 1 dX8_end_19 rfl ?_
      exact r_ireturn C X dX8_end_20
    · refine r_iconst C (-1 : Int32) dX8_end_12 (by decide) ?_
      exact r_ireturn C X dX8_end_13
set_option maxRecDepth 100000 in
set_option maxHeartbeats 4000000 in
theorem c_X8_fault (l : Launch) (E : EN) (n : Nat) (h0 : Nat) (x1 : Int32) (th0 : Ty E h0 7) : CT l E yX8_fault cX8_fault 2 (some .int) 0 0 wI tT [.ref h0, .int x1] (fun S => f_X8_fault E n S h0 x1) := by
  refine ct_of RX8 (by decide +kernel) rfl [(0, .ref h0), (1, .int x1)] rfl (Nat.le_of_ble_eq_true rfl) (fun A S hA C X => ?_)
  subst hA
  show Gd A E 2 (QM A E wI tT) (f_X8_fault E n S h0 x1) S 0 [(0, .ref h0), (1, .int x1)] []
  unfold f_X8_fault
  refine r_iload_n C 1 dX8_fault_0 rfl ?_
  refine r_if_ne C 12 dX8_fault_1 (by decide) ?_ ?_
  · refine r_iload_n C 1 dX8_fault_12 rfl ?_
    refine r_iconst C (1 : Int32) dX8_fault_13 (by decide) ?_
    refine r_icmp_ne C 27 dX8_fault_14 (by decide) ?_ ?_
    · refine r_iconst C (-1 : Int32) dX8_fault_27 (by decide) ?_
      exact r_ireturn C X dX8_fault_28
    · refine r_aload_n C 0 dX8_fault_17 rfl ?_
      refine r_getr C fl_X8_20 dX8_fault_18 th0 (fun b1 tb1 => ?_)
      refine r_geti C fl_X8_101 dX8_fault_21 tb1 ?_
      refine r_goto C 28 dX8_fault_24 (by decide) ?_
      exact r_ireturn C X dX8_fault_28
  · refine r_aload_n C 0 dX8_fault_4 rfl ?_
    refine r_getr C fl_X8_20 dX8_fault_5 th0 (fun b2 tb2 => ?_)
    refine r_geti C fl_X8_98 dX8_fault_8 tb2 ?_
    exact r_ireturn C X dX8_fault_11
set_option maxRecDepth 100000 in
set_option maxHeartbeats 4000000 in
theorem c_X8_path (l : Launch) (E : EN) (n : Nat) (h0 : Nat) (x1 : Int32) (x2 : Int32) (th0 : Ty E h0 7) : CT l E yX8_path cX8_path 3 (some .int) 2 42 wI tT [.ref h0, .int x1, .int x2] (fun S => f_X8_path E n S h0 x1 x2) := by
  refine ct_of RX8 (by decide +kernel) rfl [(0, .ref h0), (1, .int x1), (2, .int x2)] rfl (Nat.le_of_ble_eq_true rfl) (fun A S hA C X => ?_)
  subst hA
  show Gd A E 3 (QM A E wI tT) (f_X8_path E n S h0 x1 x2) S 0 [(0, .ref h0), (1, .int x1), (2, .int x2)] []
  unfold f_X8_path
  refine r_aload_n C 0 dX8_path_0 rfl ?_
  refine r_getr C fl_X8_27 dX8_path_1 th0 (fun b1 tb1 => ?_)
  refine r_iload_n C 1 dX8_path_4 rfl ?_
  refine r_callV (As := [.int x1]) (rest := []) C (c_X3_hasPath _ E n b1 x1 tb1) dX8_path_5 ml_X8_104 mv_X3_hasPath ⟨TX3, _, rfl⟩ (by decide) tb1 rfl rfl ⟨by decide, by decide⟩ (Nat.le_of_ble_eq_true rfl) (fun v3 S2 hv3 => ?_)
  refine r_if_ne C 14 dX8_path_8 (by decide) ?_ ?_
  · refine r_iload_n C 2 dX8_path_14 rfl ?_
    refine r_ite (fun hs0 => ?_) (fun hs0 => ?_)
    · refine r_swIn C 0 40 dX8_path_15 (by rw [hs0]; rfl) (by decide) (by decide) rfl (by decide) ?_
      refine r_aload_n C 0 dX8_path_40 rfl ?_
      refine r_getr C fl_X8_27 dX8_path_41 th0 (fun b4 tb4 => ?_)
      refine r_getr C fl_X8_108 dX8_path_44 tb4 (fun b5 tb5 => ?_)
      refine r_iload_n C 1 dX8_path_47 rfl ?_
      refine r_iald C dX8_path_48 tb5 ?_
      exact r_ireturn C X dX8_path_49
    refine r_ite (fun hs1 => ?_) (fun hs1 => ?_)
    · refine r_swIn C 1 50 dX8_path_15 (by rw [hs1]; rfl) (by decide) (by decide) rfl (by decide) ?_
      refine r_aload_n C 0 dX8_path_50 rfl ?_
      refine r_getr C fl_X8_27 dX8_path_51 th0 (fun b6 tb6 => ?_)
      refine r_getr C fl_X8_111 dX8_path_54 tb6 (fun b7 tb7 => ?_)
      refine r_iload_n C 1 dX8_path_57 rfl ?_
      refine r_iald C dX8_path_58 tb7 ?_
      exact r_ireturn C X dX8_path_59
    refine r_ite (fun hs2 => ?_) (fun hs2 => ?_)
    · refine r_swIn C 2 60 dX8_path_15 (by rw [hs2]; rfl) (by decide) (by decide) rfl (by decide) ?_
      refine r_aload_n C 0 dX8_path_60 rfl ?_
      refine r_getr C fl_X8_27 dX8_path_61 th0 (fun b8 tb8 => ?_)
      refine r_iload_n C 1 dX8_path_64 rfl ?_
      refine r_callV (As := [.int x1]) (rest := []) C (c_X3_dropOf _ E n b8 x1 tb8) dX8_path_65 ml_X8_114 mv_X3_dropOf ⟨TX3, _, rfl⟩ (by decide) tb8 rfl rfl ⟨by decide, by decide⟩ (Nat.le_of_ble_eq_true rfl) (fun v10 S9 hv10 => ?_)
      exact r_ireturn C X dX8_path_68
    refine r_swOut C 69 dX8_path_15 (by have z0 := lv_neT hs0 (a := 0) rfl; have z1 := lv_neT hs1 (a := 1) rfl; have z2 := lv_neT hs2 (a := 2) rfl;  omega) (by decide) ?_
    refine r_bipush C (-2 : Int32) dX8_path_69 (by decide) ?_
    exact r_ireturn C X dX8_path_71
  · refine r_bipush C (-2 : Int32) dX8_path_11 (by decide) ?_
    exact r_ireturn C X dX8_path_13
set_option maxRecDepth 100000 in
set_option maxHeartbeats 4000000 in
theorem c_X8_court (l : Launch) (E : EN) (n : Nat) (h0 : Nat) (x1 : Int32) (x2 : Int32) (th0 : Ty E h0 7) : CT l E yX8_court cX8_court 4 (some .int) 2 43 wI tT [.ref h0, .int x1, .int x2] (fun S => f_X8_court E n S h0 x1 x2) := by
  refine ct_of RX8 (by decide +kernel) rfl [(0, .ref h0), (1, .int x1), (2, .int x2)] rfl (Nat.le_of_ble_eq_true rfl) (fun A S hA C X => ?_)
  subst hA
  show Gd A E 4 (QM A E wI tT) (f_X8_court E n S h0 x1 x2) S 0 [(0, .ref h0), (1, .int x1), (2, .int x2)] []
  unfold f_X8_court
  refine r_aload_n C 0 dX8_court_0 rfl ?_
  refine r_getr C fl_X8_27 dX8_court_1 th0 (fun b1 tb1 => ?_)
  refine r_iload_n C 1 dX8_court_4 rfl ?_
  refine r_callV (As := [.int x1]) (rest := []) C (c_X3_hasSuitor _ E n b1 x1 tb1) dX8_court_5 ml_X8_118 mv_X3_hasSuitor ⟨TX3, _, rfl⟩ (by decide) tb1 rfl rfl ⟨by decide, by decide⟩ (Nat.le_of_ble_eq_true rfl) (fun v3 S2 hv3 => ?_)
  refine r_if_eq C 28 dX8_court_8 (by decide) ?_ ?_
  · refine r_bipush C (-2 : Int32) dX8_court_28 (by decide) ?_
    exact r_ireturn C X dX8_court_30
  · refine r_iload_n C 2 dX8_court_11 rfl ?_
    refine r_iconst C (-1 : Int32) dX8_court_12 (by decide) ?_
    refine r_icmp_eq C 31 dX8_court_13 (by decide) ?_ ?_
    · refine r_aload_n C 0 dX8_court_31 rfl ?_
      refine r_getr C fl_X8_27 dX8_court_32 th0 (fun b4 tb4 => ?_)
      refine r_getr C fl_X8_125 dX8_court_35 tb4 (fun b5 tb5 => ?_)
      refine r_iload_n C 1 dX8_court_38 rfl ?_
      refine r_iald C dX8_court_39 tb5 ?_
      refine r_topi (fun y6 => ?_)
      refine r_istore_n C [(3, .int y6), (0, .ref h0), (1, .int x1), (2, .int x2)] dX8_court_40 (by decide) rfl ?_
      refine r_aload_n C 1 dX8_court_41 rfl ?_
      refine r_getr C fl_X8_27 dX8_court_42 th0 (fun b7 tb7 => ?_)
      refine r_getr C fl_X8_125 dX8_court_45 tb7 (fun b8 tb8 => ?_)
      refine r_iload_n C 2 dX8_court_48 rfl ?_
      refine r_iload_n C 3 dX8_court_49 rfl ?_
      refine r_iast C dX8_court_50 tb8 (fun S9 => ?_)
      refine r_iload_n C 0 dX8_court_51 rfl ?_
      exact r_ireturn C X dX8_court_52
    · refine r_aload_n C 0 dX8_court_16 rfl ?_
      refine r_getr C fl_X8_27 dX8_court_17 th0 (fun b10 tb10 => ?_)
      refine r_iload_n C 1 dX8_court_20 rfl ?_
      refine r_iload_n C 2 dX8_court_21 rfl ?_
      refine r_callV (As := [.int x1, .int x2]) (rest := []) C (c_X3_isFor _ E n b10 x1 x2 tb10) dX8_court_22 ml_X8_121 mv_X3_isFor ⟨TX3, _, rfl⟩ (by decide) tb10 rfl rfl ⟨by decide, by decide⟩ (Nat.le_of_ble_eq_true rfl) (fun v12 S11 hv12 => ?_)
      refine r_if_ne C 31 dX8_court_25 (by decide) ?_ ?_
      · refine r_aload_n C 0 dX8_court_31 rfl ?_
        refine r_getr C fl_X8_27 dX8_court_32 th0 (fun b13 tb13 => ?_)
        refine r_getr C fl_X8_125 dX8_court_35 tb13 (fun b14 tb14 => ?_)
        refine r_iload_n C 1 dX8_court_38 rfl ?_
        refine r_iald C dX8_court_39 tb14 ?_
        refine r_topi (fun y15 => ?_)
        refine r_istore_n C [(3, .int y15), (0, .ref h0), (1, .int x1), (2, .int x2)] dX8_court_40 (by decide) rfl ?_
        refine r_aload_n C 1 dX8_court_41 rfl ?_
        refine r_getr C fl_X8_27 dX8_court_42 th0 (fun b16 tb16 => ?_)
        refine r_getr C fl_X8_125 dX8_court_45 tb16 (fun b17 tb17 => ?_)
        refine r_iload_n C 2 dX8_court_48 rfl ?_
        refine r_iload_n C 3 dX8_court_49 rfl ?_
        refine r_iast C dX8_court_50 tb17 (fun S18 => ?_)
        refine r_iload_n C 0 dX8_court_51 rfl ?_
        exact r_ireturn C X dX8_court_52
      · refine r_bipush C (-2 : Int32) dX8_court_28 (by decide) ?_
        exact r_ireturn C X dX8_court_30
set_option maxRecDepth 100000 in
set_option maxHeartbeats 4000000 in
theorem c_X8_bride (l : Launch) (E : EN) (n : Nat) (h0 : Nat) (x1 : Int32) (x2 : Int32) (th0 : Ty E h0 7) : CT l E yX8_bride cX8_bride 3 (some .int) 1 24 wI tT [.ref h0, .int x1, .int x2] (fun S => f_X8_bride E n S h0 x1 x2) := by
  refine ct_of RX8 (by decide +kernel) rfl [(0, .ref h0), (1, .int x1), (2, .int x2)] rfl (Nat.le_of_ble_eq_true rfl) (fun A S hA C X => ?_)
  subst hA
  show Gd A E 3 (QM A E wI tT) (f_X8_bride E n S h0 x1 x2) S 0 [(0, .ref h0), (1, .int x1), (2, .int x2)] []
  unfold f_X8_bride
  refine r_aload_n C 0 dX8_bride_0 rfl ?_
  refine r_getr C fl_X8_27 dX8_bride_1 th0 (fun b1 tb1 => ?_)
  refine r_iload_n C 1 dX8_bride_4 rfl ?_
  refine r_callV (As := [.int x1]) (rest := []) C (c_X3_hasBride _ E n b1 x1 tb1) dX8_bride_5 ml_X8_128 mv_X3_hasBride ⟨TX3, _, rfl⟩ (by decide) tb1 rfl rfl ⟨by decide, by decide⟩ (Nat.le_of_ble_eq_true rfl) (fun v3 S2 hv3 => ?_)
  refine r_if_ne C 14 dX8_bride_8 (by decide) ?_ ?_
  · refine r_iload_n C 2 dX8_bride_14 rfl ?_
    refine r_ite (fun hs0 => ?_) (fun hs0 => ?_)
    · refine r_swIn C 0 44 dX8_bride_15 (by rw [hs0]; rfl) (by decide) (by decide) rfl (by decide) ?_
      refine r_aload_n C 0 dX8_bride_44 rfl ?_
      refine r_getr C fl_X8_27 dX8_bride_45 th0 (fun b4 tb4 => ?_)
      refine r_getr C fl_X8_131 dX8_bride_48 tb4 (fun b5 tb5 => ?_)
      refine r_iload_n C 1 dX8_bride_51 rfl ?_
      refine r_iald C dX8_bride_52 tb5 ?_
      exact r_ireturn C X dX8_bride_53
    refine r_ite (fun hs1 => ?_) (fun hs1 => ?_)
    · refine r_swIn C 1 54 dX8_bride_15 (by rw [hs1]; rfl) (by decide) (by decide) rfl (by decide) ?_
      refine r_aload_n C 0 dX8_bride_54 rfl ?_
      refine r_getr C fl_X8_27 dX8_bride_55 th0 (fun b6 tb6 => ?_)
      refine r_getr C fl_X8_134 dX8_bride_58 tb6 (fun b7 tb7 => ?_)
      refine r_iload_n C 1 dX8_bride_61 rfl ?_
      refine r_iald C dX8_bride_62 tb7 ?_
      exact r_ireturn C X dX8_bride_63
    refine r_ite (fun hs2 => ?_) (fun hs2 => ?_)
    · refine r_swIn C 2 64 dX8_bride_15 (by rw [hs2]; rfl) (by decide) (by decide) rfl (by decide) ?_
      refine r_aload_n C 0 dX8_bride_64 rfl ?_
      refine r_getr C fl_X8_27 dX8_bride_65 th0 (fun b8 tb8 => ?_)
      refine r_aload_n C 0 dX8_bride_68 rfl ?_
      refine r_getr C fl_X8_27 dX8_bride_69 th0 (fun b9 tb9 => ?_)
      refine r_getr C fl_X8_125 dX8_bride_72 tb9 (fun b10 tb10 => ?_)
      refine r_iload_n C 1 dX8_bride_75 rfl ?_
      refine r_callV (As := [.ref b10, .int x1]) (rest := []) C (c_X3_courtersOf _ E n b8 b10 x1 tb8 tb10) dX8_bride_76 ml_X8_137 mv_X3_courtersOf ⟨TX3, _, rfl⟩ (by decide) tb8 rfl rfl ⟨by decide, by decide⟩ (Nat.le_of_ble_eq_true rfl) (fun v12 S11 hv12 => ?_)
      exact r_ireturn C X dX8_bride_79
    refine r_ite (fun hs3 => ?_) (fun hs3 => ?_)
    · refine r_swIn C 3 80 dX8_bride_15 (by rw [hs3]; rfl) (by decide) (by decide) rfl (by decide) ?_
      refine r_aload_n C 0 dX8_bride_80 rfl ?_
      refine r_getr C fl_X8_27 dX8_bride_81 th0 (fun b13 tb13 => ?_)
      refine r_aload_n C 0 dX8_bride_84 rfl ?_
      refine r_getr C fl_X8_27 dX8_bride_85 th0 (fun b14 tb14 => ?_)
      refine r_getr C fl_X8_125 dX8_bride_88 tb14 (fun b15 tb15 => ?_)
      refine r_iload_n C 1 dX8_bride_91 rfl ?_
      refine r_callV (As := [.ref b15, .int x1]) (rest := []) C (c_X3_takenBy _ E n b13 b15 x1 tb13 tb15) dX8_bride_92 ml_X8_141 mv_X3_takenBy ⟨TX3, _, rfl⟩ (by decide) tb13 rfl rfl ⟨by decide, by decide⟩ (Nat.le_of_ble_eq_true rfl) (fun v17 S16 hv17 => ?_)
      exact r_ireturn C X dX8_bride_95
    refine r_swOut C 96 dX8_bride_15 (by have z0 := lv_neT hs0 (a := 0) rfl; have z1 := lv_neT hs1 (a := 1) rfl; have z2 := lv_neT hs2 (a := 2) rfl; have z3 := lv_neT hs3 (a := 3) rfl;  omega) (by decide) ?_
    refine r_bipush C (-2 : Int32) dX8_bride_96 (by decide) ?_
    exact r_ireturn C X dX8_bride_98
  · refine r_bipush C (-2 : Int32) dX8_bride_11 (by decide) ?_
    exact r_ireturn C X dX8_bride_13
set_option maxRecDepth 100000 in
set_option maxHeartbeats 4000000 in
theorem c_X8_suitor (l : Launch) (E : EN) (n : Nat) (h0 : Nat) (x1 : Int32) (x2 : Int32) (th0 : Ty E h0 7) : CT l E yX8_suitor cX8_suitor 3 (some .int) 2 46 wI tT [.ref h0, .int x1, .int x2] (fun S => f_X8_suitor E n S h0 x1 x2) := by
  refine ct_of RX8 (by decide +kernel) rfl [(0, .ref h0), (1, .int x1), (2, .int x2)] rfl (Nat.le_of_ble_eq_true rfl) (fun A S hA C X => ?_)
  subst hA
  show Gd A E 3 (QM A E wI tT) (f_X8_suitor E n S h0 x1 x2) S 0 [(0, .ref h0), (1, .int x1), (2, .int x2)] []
  unfold f_X8_suitor
  refine r_aload_n C 0 dX8_suitor_0 rfl ?_
  refine r_getr C fl_X8_27 dX8_suitor_1 th0 (fun b1 tb1 => ?_)
  refine r_iload_n C 1 dX8_suitor_4 rfl ?_
  refine r_callV (As := [.int x1]) (rest := []) C (c_X3_hasSuitor _ E n b1 x1 tb1) dX8_suitor_5 ml_X8_118 mv_X3_hasSuitor ⟨TX3, _, rfl⟩ (by decide) tb1 rfl rfl ⟨by decide, by decide⟩ (Nat.le_of_ble_eq_true rfl) (fun v3 S2 hv3 => ?_)
  refine r_if_ne C 14 dX8_suitor_8 (by decide) ?_ ?_
  · refine r_iload_n C 2 dX8_suitor_14 rfl ?_
    refine r_ite (fun hs0 => ?_) (fun hs0 => ?_)
    · refine r_swIn C 0 48 dX8_suitor_15 (by rw [hs0]; rfl) (by decide) (by decide) rfl (by decide) ?_
      refine r_aload_n C 0 dX8_suitor_48 rfl ?_
      refine r_getr C fl_X8_27 dX8_suitor_49 th0 (fun b4 tb4 => ?_)
      refine r_getr C fl_X8_144 dX8_suitor_52 tb4 (fun b5 tb5 => ?_)
      refine r_iload_n C 1 dX8_suitor_55 rfl ?_
      refine r_iald C dX8_suitor_56 tb5 ?_
      exact r_ireturn C X dX8_suitor_57
    refine r_ite (fun hs1 => ?_) (fun hs1 => ?_)
    · refine r_swIn C 1 58 dX8_suitor_15 (by rw [hs1]; rfl) (by decide) (by decide) rfl (by decide) ?_
      refine r_aload_n C 0 dX8_suitor_58 rfl ?_
      refine r_getr C fl_X8_27 dX8_suitor_59 th0 (fun b6 tb6 => ?_)
      refine r_getr C fl_X8_147 dX8_suitor_62 tb6 (fun b7 tb7 => ?_)
      refine r_iload_n C 1 dX8_suitor_65 rfl ?_
      refine r_iald C dX8_suitor_66 tb7 ?_
      exact r_ireturn C X dX8_suitor_67
    refine r_ite (fun hs2 => ?_) (fun hs2 => ?_)
    · refine r_swIn C 2 68 dX8_suitor_15 (by rw [hs2]; rfl) (by decide) (by decide) rfl (by decide) ?_
      refine r_aload_n C 0 dX8_suitor_68 rfl ?_
      refine r_getr C fl_X8_27 dX8_suitor_69 th0 (fun b8 tb8 => ?_)
      refine r_getr C fl_X8_150 dX8_suitor_72 tb8 (fun b9 tb9 => ?_)
      refine r_iload_n C 1 dX8_suitor_75 rfl ?_
      refine r_iald C dX8_suitor_76 tb9 ?_
      exact r_ireturn C X dX8_suitor_77
    refine r_ite (fun hs3 => ?_) (fun hs3 => ?_)
    · refine r_swIn C 3 78 dX8_suitor_15 (by rw [hs3]; rfl) (by decide) (by decide) rfl (by decide) ?_
      refine r_aload_n C 0 dX8_suitor_78 rfl ?_
      refine r_getr C fl_X8_27 dX8_suitor_79 th0 (fun b10 tb10 => ?_)
      refine r_getr C fl_X8_125 dX8_suitor_82 tb10 (fun b11 tb11 => ?_)
      refine r_iload_n C 1 dX8_suitor_85 rfl ?_
      refine r_iald C dX8_suitor_86 tb11 ?_
      exact r_ireturn C X dX8_suitor_87
    refine r_ite (fun hs4 => ?_) (fun hs4 => ?_)
    · refine r_swIn C 4 88 dX8_suitor_15 (by rw [hs4]; rfl) (by decide) (by decide) rfl (by decide) ?_
      refine r_aload_n C 0 dX8_suitor_88 rfl ?_
      refine r_getr C fl_X8_27 dX8_suitor_89 th0 (fun b12 tb12 => ?_)
      refine r_aload_n C 0 dX8_suitor_92 rfl ?_
      refine r_getr C fl_X8_27 dX8_suitor_93 th0 (fun b13 tb13 => ?_)
      refine r_getr C fl_X8_125 dX8_suitor_96 tb13 (fun b14 tb14 => ?_)
      refine r_iload_n C 1 dX8_suitor_99 rfl ?_
      refine r_callV (As := [.ref b14, .int x1]) (rest := []) C (c_X3_isRefused _ E n b12 b14 x1 tb12 tb14) dX8_suitor_100 ml_X8_153 mv_X3_isRefused ⟨TX3, _, rfl⟩ (by decide) tb12 rfl rfl ⟨by decide, by decide⟩ (Nat.le_of_ble_eq_true rfl) (fun v16 S15 hv16 => ?_)
      refine r_if_eq C 110 dX8_suitor_103 (by decide) ?_ ?_
      · refine r_iconst C (0 : Int32) dX8_suitor_110 (by decide) ?_
        exact r_ireturn C X dX8_suitor_111
      · refine r_iconst C (1 : Int32) dX8_suitor_106 (by decide) ?_
        refine r_goto C 111 dX8_suitor_107 (by decide) ?_
        exact r_ireturn C X dX8_suitor_111
    refine r_swOut C 112 dX8_suitor_15 (by have z0 := lv_neT hs0 (a := 0) rfl; have z1 := lv_neT hs1 (a := 1) rfl; have z2 := lv_neT hs2 (a := 2) rfl; have z3 := lv_neT hs3 (a := 3) rfl; have z4 := lv_neT hs4 (a := 4) rfl;  omega) (by decide) ?_
    refine r_bipush C (-2 : Int32) dX8_suitor_112 (by decide) ?_
    exact r_ireturn C X dX8_suitor_114
  · refine r_bipush C (-2 : Int32) dX8_suitor_11 (by decide) ?_
    exact r_ireturn C X dX8_suitor_13
set_option maxRecDepth 100000 in
set_option maxHeartbeats 4000000 in
theorem p_X8_hearts_L17 {A : AM} {E : EN} {n : Nat} (C : Cx A E cX8_hearts 3 RX8 2 46) (X : Ex A E (some .int))  : ∀ (m : Nat) (S : WS) (h0 : Nat) (x1 : Int32) (x2 : Int32) (th0 : Ty E h0 7), Gd A E 3 (QM A E wI tT) (f_X8_hearts_L17 E n  m S h0 x1 x2) S 17 [(0, .ref h0), (1, .int x1), (2, .int x2)] [] := by
  intro m
  induction m with
  | zero => intros; exact gn
  | succ m ih =>
    intro S h0 x1 x2 th0
    unfold f_X8_hearts_L17
    refine r_iload_n C 2 dX8_hearts_17 rfl ?_
    refine r_aload_n C 0 dX8_hearts_18 rfl ?_
    refine r_getr C fl_X8_27 dX8_hearts_19 th0 (fun b1 tb1 => ?_)
    refine r_geti C fl_X8_161 dX8_hearts_22 tb1 ?_
    refine r_icmp_ge C 55 dX8_hearts_25 (by decide) ?_ ?_
    · refine r_iload_n C 1 dX8_hearts_55 rfl ?_
      exact r_ireturn C X dX8_hearts_56
    · refine r_aload_n C 0 dX8_hearts_28 rfl ?_
      refine r_getr C fl_X8_27 dX8_hearts_29 th0 (fun b2 tb2 => ?_)
      refine r_aload_n C 0 dX8_hearts_32 rfl ?_
      refine r_getr C fl_X8_27 dX8_hearts_33 th0 (fun b3 tb3 => ?_)
      refine r_getr C fl_X8_125 dX8_hearts_36 tb3 (fun b4 tb4 => ?_)
      refine r_iload_n C 2 dX8_hearts_39 rfl ?_
      refine r_callV (As := [.ref b4, .int x2]) (rest := []) C (c_X3_isRefused _ E n b2 b4 x2 tb2 tb4) dX8_hearts_40 ml_X8_153 mv_X3_isRefused ⟨TX3, _, rfl⟩ (by decide) tb2 rfl rfl ⟨by decide, by decide⟩ (Nat.le_of_ble_eq_true rfl) (fun v6 S5 hv6 => ?_)
      refine r_if_eq C 49 dX8_hearts_43 (by decide) ?_ ?_
      · refine r_iinc C 2 (fun y7 => [(2, .int y7), (0, .ref h0), (1, .int x1)]) dX8_hearts_49 rfl (v := (1 : Int32)) (by decide) (by decide) (fun _ => rfl) (fun y7 => ?_)
        refine r_goto C 17 dX8_hearts_52 (by decide) ?_
        refine r_sub [1, 2, 0] [(0, .ref h0), (1, .int x1), (2, .int y7)] rfl ?_
        exact ih S5 h0 x1 y7 th0
      · refine r_iinc C 1 (fun y8 => [(1, .int y8), (0, .ref h0), (2, .int x2)]) dX8_hearts_46 rfl (v := (1 : Int32)) (by decide) (by decide) (fun _ => rfl) (fun y8 => ?_)
        refine r_iinc C 2 (fun y9 => [(2, .int y9), (1, .int y8), (0, .ref h0)]) dX8_hearts_49 rfl (v := (1 : Int32)) (by decide) (by decide) (fun _ => rfl) (fun y9 => ?_)
        refine r_goto C 17 dX8_hearts_52 (by decide) ?_
        refine r_sub [2, 1, 0] [(0, .ref h0), (1, .int y8), (2, .int y9)] rfl ?_
        exact ih S5 h0 y8 y9 th0
set_option maxRecDepth 100000 in
set_option maxHeartbeats 4000000 in
theorem c_X8_hearts (l : Launch) (E : EN) (n : Nat) (h0 : Nat) (th0 : Ty E h0 7) : CT l E yX8_hearts cX8_hearts 3 (some .int) 2 46 wI tT [.ref h0] (fun S => f_X8_hearts E n S h0) := by
  refine ct_of RX8 (by decide +kernel) rfl [(0, .ref h0)] rfl (Nat.le_of_ble_eq_true rfl) (fun A S hA C X => ?_)
  subst hA
  show Gd A E 3 (QM A E wI tT) (f_X8_hearts E n S h0) S 0 [(0, .ref h0)] []
  unfold f_X8_hearts
  refine r_aload_n C 0 dX8_hearts_0 rfl ?_
  refine r_getr C fl_X8_27 dX8_hearts_1 th0 (fun b1 tb1 => ?_)
  refine r_callV (As := []) (rest := []) C (c_X3_isTold _ E n b1 tb1) dX8_hearts_4 ml_X8_157 mv_X3_isTold ⟨TX3, _, rfl⟩ (by decide) tb1 rfl rfl ⟨by decide, by decide⟩ (Nat.le_of_ble_eq_true rfl) (fun v3 S2 hv3 => ?_)
  refine r_if_ne C 13 dX8_hearts_7 (by decide) ?_ ?_
  · refine r_iconst C (0 : Int32) dX8_hearts_13 (by decide) ?_
    refine r_istore_n C [(1, .int (0 : Int32)), (0, .ref h0)] dX8_hearts_14 (by decide) rfl ?_
    refine r_iconst C (0 : Int32) dX8_hearts_15 (by decide) ?_
    refine r_istore_n C [(2, .int (0 : Int32)), (1, .int (0 : Int32)), (0, .ref h0)] dX8_hearts_16 (by decide) rfl ?_
    refine r_sub [2, 1, 0] [(0, .ref h0), (1, .int (0 : Int32)), (2, .int (0 : Int32))] rfl ?_
    exact p_X8_hearts_L17 C X  n S2 h0 (0 : Int32) (0 : Int32) th0
  · refine r_bipush C (-2 : Int32) dX8_hearts_10 (by decide) ?_
    exact r_ireturn C X dX8_hearts_12
set_option maxRecDepth 100000 in
set_option maxHeartbeats 4000000 in
theorem c_X8_knowsPath (l : Launch) (E : EN) (n : Nat) (h0 : Nat) (x1 : Int32) (x2 : Int32) (th0 : Ty E h0 7) : CT l E yX8_knowsPath cX8_knowsPath 3 (some .boolean) 1 21 wI tT [.ref h0, .int x1, .int x2] (fun S => f_X8_knowsPath E n S h0 x1 x2) := by
  refine ct_of RX8 (by decide +kernel) rfl [(0, .ref h0), (1, .int x1), (2, .int x2)] rfl (Nat.le_of_ble_eq_true rfl) (fun A S hA C X => ?_)
  subst hA
  show Gd A E 3 (QM A E wI tT) (f_X8_knowsPath E n S h0 x1 x2) S 0 [(0, .ref h0), (1, .int x1), (2, .int x2)] []
  unfold f_X8_knowsPath
  refine r_aload_n C 0 dX8_knowsPath_0 rfl ?_
  refine r_getr C fl_X8_27 dX8_knowsPath_1 th0 (fun b1 tb1 => ?_)
  refine r_iload_n C 1 dX8_knowsPath_4 rfl ?_
  refine r_callV (As := [.int x1]) (rest := []) C (c_X3_hasPath _ E n b1 x1 tb1) dX8_knowsPath_5 ml_X8_104 mv_X3_hasPath ⟨TX3, _, rfl⟩ (by decide) tb1 rfl rfl ⟨by decide, by decide⟩ (Nat.le_of_ble_eq_true rfl) (fun v3 S2 hv3 => ?_)
  refine r_if_eq C 26 dX8_knowsPath_8 (by decide) ?_ ?_
  · refine r_iconst C (0 : Int32) dX8_knowsPath_26 (by decide) ?_
    exact r_zreturn C X rfl dX8_knowsPath_27
  · refine r_aload_n C 0 dX8_knowsPath_11 rfl ?_
    refine r_getr C fl_X8_27 dX8_knowsPath_12 th0 (fun b4 tb4 => ?_)
    refine r_iload_n C 2 dX8_knowsPath_15 rfl ?_
    refine r_callV (As := [.int x2]) (rest := []) C (c_X3_hasYear _ E n b4 x2 tb4) dX8_knowsPath_16 ml_X8_164 mv_X3_hasYear ⟨TX3, _, rfl⟩ (by decide) tb4 rfl rfl ⟨by decide, by decide⟩ (Nat.le_of_ble_eq_true rfl) (fun v6 S5 hv6 => ?_)
    refine r_if_eq C 26 dX8_knowsPath_19 (by decide) ?_ ?_
    · refine r_iconst C (0 : Int32) dX8_knowsPath_26 (by decide) ?_
      exact r_zreturn C X rfl dX8_knowsPath_27
    · refine r_iconst C (1 : Int32) dX8_knowsPath_22 (by decide) ?_
      refine r_goto C 27 dX8_knowsPath_23 (by decide) ?_
      exact r_zreturn C X rfl dX8_knowsPath_27
set_option maxRecDepth 100000 in
set_option maxHeartbeats 4000000 in
theorem c_X8_steps (l : Launch) (E : EN) (n : Nat) (h0 : Nat) (x1 : Int32) (x2 : Int32) (th0 : Ty E h0 7) : CT l E yX8_steps cX8_steps 3 (some .int) 3 72 wI tT [.ref h0, .int x1, .int x2] (fun S => f_X8_steps E n S h0 x1 x2) := by
  refine ct_of RX8 (by decide +kernel) rfl [(0, .ref h0), (1, .int x1), (2, .int x2)] rfl (Nat.le_of_ble_eq_true rfl) (fun A S hA C X => ?_)
  subst hA
  show Gd A E 3 (QM A E wI tT) (f_X8_steps E n S h0 x1 x2) S 0 [(0, .ref h0), (1, .int x1), (2, .int x2)] []
  unfold f_X8_steps
  refine r_aload_n C 0 dX8_steps_0 rfl ?_
  refine r_iload_n C 1 dX8_steps_1 rfl ?_
  refine r_iload_n C 2 dX8_steps_2 rfl ?_
  refine r_callV (As := [.int x1, .int x2]) (rest := []) C (c_X8_knowsPath _ E n h0 x1 x2 th0) dX8_steps_3 ml_X8_167 mv_X8_knowsPath ⟨TX8, _, rfl⟩ (by decide) th0 rfl rfl ⟨by decide, by decide⟩ (Nat.le_of_ble_eq_true rfl) (fun v2 S1 hv2 => ?_)
  refine r_if_eq C 22 dX8_steps_6 (by decide) ?_ ?_
  · refine r_bipush C (-2 : Int32) dX8_steps_22 (by decide) ?_
    exact r_ireturn C X dX8_steps_24
  · refine r_aload_n C 0 dX8_steps_9 rfl ?_
    refine r_getr C fl_X8_27 dX8_steps_10 th0 (fun b3 tb3 => ?_)
    refine r_iload_n C 1 dX8_steps_13 rfl ?_
    refine r_iload_n C 2 dX8_steps_14 rfl ?_
    refine r_iconst C (-1 : Int32) dX8_steps_15 (by decide) ?_
    refine r_callV (As := [.int x1, .int x2, .int (-1 : Int32)]) (rest := []) C (c_X3_stepsOn _ E n b3 x1 x2 (-1 : Int32) tb3) dX8_steps_16 ml_X8_170 mv_X3_stepsOn ⟨TX3, _, rfl⟩ (by decide) tb3 rfl rfl ⟨by decide, by decide⟩ (Nat.le_of_ble_eq_true rfl) (fun v5 S4 hv5 => ?_)
    refine r_goto C 24 dX8_steps_19 (by decide) ?_
    exact r_ireturn C X dX8_steps_24
set_option maxRecDepth 100000 in
set_option maxHeartbeats 4000000 in
theorem p_X8_whose_L18 {A : AM} {E : EN} {n : Nat} (C : Cx A E cX8_whose 6 RX8 2 47) (X : Ex A E (some .int))  : ∀ (m : Nat) (S : WS) (h0 : Nat) (x1 : Int32) (x2 : Int32) (x3 : Int32) (x4 : Int32) (x5 : Int32) (th0 : Ty E h0 7), Gd A E 6 (QM A E wI tT) (f_X8_whose_L18 E n  m S h0 x1 x2 x3 x4 x5) S 18 [(0, .ref h0), (1, .int x1), (2, .int x2), (3, .int x3), (4, .int x4), (5, .int x5)] [] := by
  intro m
  induction m with
  | zero => intros; exact gn
  | succ m ih =>
    intro S h0 x1 x2 x3 x4 x5 th0
    unfold f_X8_whose_L18
    refine r_iload C 5 dX8_whose_18 rfl ?_
    refine r_aload_n C 0 dX8_whose_20 rfl ?_
    refine r_getr C fl_X8_27 dX8_whose_21 th0 (fun b1 tb1 => ?_)
    refine r_geti C fl_X8_161 dX8_whose_24 tb1 ?_
    refine r_icmp_ge C 62 dX8_whose_27 (by decide) ?_ ?_
    · refine r_iconst C (-1 : Int32) dX8_whose_62 (by decide) ?_
      exact r_ireturn C X dX8_whose_63
    · refine r_aload_n C 0 dX8_whose_30 rfl ?_
      refine r_getr C fl_X8_27 dX8_whose_31 th0 (fun b2 tb2 => ?_)
      refine r_iload C 5 dX8_whose_34 rfl ?_
      refine r_iload_n C 1 dX8_whose_36 rfl ?_
      refine r_iload_n C 2 dX8_whose_37 rfl ?_
      refine r_callV (As := [.int x5, .int x1, .int x2]) (rest := []) C (c_X3_hasStep _ E n b2 x5 x1 x2 tb2) dX8_whose_38 ml_X8_174 mv_X3_hasStep ⟨TX3, _, rfl⟩ (by decide) tb2 rfl rfl ⟨by decide, by decide⟩ (Nat.le_of_ble_eq_true rfl) (fun v4 S3 hv4 => ?_)
      refine r_if_eq C 56 dX8_whose_41 (by decide) ?_ ?_
      · refine r_iinc C 5 (fun y5 => [(5, .int y5), (0, .ref h0), (1, .int x1), (2, .int x2), (3, .int x3), (4, .int x4)]) dX8_whose_56 rfl (v := (1 : Int32)) (by decide) (by decide) (fun _ => rfl) (fun y5 => ?_)
        refine r_goto C 18 dX8_whose_59 (by decide) ?_
        refine r_sub [1, 2, 3, 4, 5, 0] [(0, .ref h0), (1, .int x1), (2, .int x2), (3, .int x3), (4, .int x4), (5, .int y5)] rfl ?_
        exact ih S3 h0 x1 x2 x3 x4 y5 th0
      · refine r_iload C 4 dX8_whose_44 rfl ?_
        refine r_iload_n C 3 dX8_whose_46 rfl ?_
        refine r_icmp_ne C 53 dX8_whose_47 (by decide) ?_ ?_
        · refine r_iinc C 4 (fun y6 => [(4, .int y6), (0, .ref h0), (1, .int x1), (2, .int x2), (3, .int x3), (5, .int x5)]) dX8_whose_53 rfl (v := (1 : Int32)) (by decide) (by decide) (fun _ => rfl) (fun y6 => ?_)
          refine r_iinc C 5 (fun y7 => [(5, .int y7), (4, .int y6), (0, .ref h0), (1, .int x1), (2, .int x2), (3, .int x3)]) dX8_whose_56 rfl (v := (1 : Int32)) (by decide) (by decide) (fun _ => rfl) (fun y7 => ?_)
          refine r_goto C 18 dX8_whose_59 (by decide) ?_
          refine r_sub [2, 3, 4, 5, 1, 0] [(0, .ref h0), (1, .int x1), (2, .int x2), (3, .int x3), (4, .int y6), (5, .int y7)] rfl ?_
          exact ih S3 h0 x1 x2 x3 y6 y7 th0
        · refine r_iload C 5 dX8_whose_50 rfl ?_
          exact r_ireturn C X dX8_whose_52
set_option maxRecDepth 100000 in
set_option maxHeartbeats 4000000 in
theorem c_X8_whose (l : Launch) (E : EN) (n : Nat) (h0 : Nat) (x1 : Int32) (x2 : Int32) (x3 : Int32) (th0 : Ty E h0 7) : CT l E yX8_whose cX8_whose 6 (some .int) 2 47 wI tT [.ref h0, .int x1, .int x2, .int x3] (fun S => f_X8_whose E n S h0 x1 x2 x3) := by
  refine ct_of RX8 (by decide +kernel) rfl [(0, .ref h0), (1, .int x1), (2, .int x2), (3, .int x3)] rfl (Nat.le_of_ble_eq_true rfl) (fun A S hA C X => ?_)
  subst hA
  show Gd A E 6 (QM A E wI tT) (f_X8_whose E n S h0 x1 x2 x3) S 0 [(0, .ref h0), (1, .int x1), (2, .int x2), (3, .int x3)] []
  unfold f_X8_whose
  refine r_aload_n C 0 dX8_whose_0 rfl ?_
  refine r_iload_n C 1 dX8_whose_1 rfl ?_
  refine r_iload_n C 2 dX8_whose_2 rfl ?_
  refine r_callV (As := [.int x1, .int x2]) (rest := []) C (c_X8_knowsPath _ E n h0 x1 x2 th0) dX8_whose_3 ml_X8_167 mv_X8_knowsPath ⟨TX8, _, rfl⟩ (by decide) th0 rfl rfl ⟨by decide, by decide⟩ (Nat.le_of_ble_eq_true rfl) (fun v2 S1 hv2 => ?_)
  refine r_if_ne C 12 dX8_whose_6 (by decide) ?_ ?_
  · refine r_iconst C (0 : Int32) dX8_whose_12 (by decide) ?_
    refine r_istore C [(4, .int (0 : Int32)), (0, .ref h0), (1, .int x1), (2, .int x2), (3, .int x3)] dX8_whose_13 (by decide) rfl ?_
    refine r_iconst C (0 : Int32) dX8_whose_15 (by decide) ?_
    refine r_istore C [(5, .int (0 : Int32)), (4, .int (0 : Int32)), (0, .ref h0), (1, .int x1), (2, .int x2), (3, .int x3)] dX8_whose_16 (by decide) rfl ?_
    refine r_sub [2, 3, 4, 5, 1, 0] [(0, .ref h0), (1, .int x1), (2, .int x2), (3, .int x3), (4, .int (0 : Int32)), (5, .int (0 : Int32))] rfl ?_
    exact p_X8_whose_L18 C X  n S1 h0 x1 x2 x3 (0 : Int32) (0 : Int32) th0
  · refine r_bipush C (-2 : Int32) dX8_whose_9 (by decide) ?_
    exact r_ireturn C X dX8_whose_11
set_option maxRecDepth 100000 in
set_option maxHeartbeats 4000000 in
theorem p_X8_rots_L24 {A : AM} {E : EN} {n : Nat} (C : Cx A E cX8_rots 3 RX8 3 72) (X : Ex A E (some .int))  : ∀ (m : Nat) (S : WS) (h0 : Nat) (x1 : Int32) (x2 : Int32) (th0 : Ty E h0 7), Gd A E 3 (QM A E wI tT) (f_X8_rots_L24 E n  m S h0 x1 x2) S 24 [(0, .ref h0), (1, .int x1), (2, .int x2)] [] := by
  intro m
  induction m with
  | zero => intros; exact gn
  | succ m ih =>
    intro S h0 x1 x2 th0
    unfold f_X8_rots_L24
    refine r_iload_n C 2 dX8_rots_24 rfl ?_
    refine r_if_lt C 68 dX8_rots_25 (by decide) ?_ ?_
    · refine r_iconst C (-1 : Int32) dX8_rots_68 (by decide) ?_
      exact r_ireturn C X dX8_rots_69
    · refine r_aload_n C 0 dX8_rots_28 rfl ?_
      refine r_getr C fl_X8_27 dX8_rots_29 th0 (fun b1 tb1 => ?_)
      refine r_iload_n C 1 dX8_rots_32 rfl ?_
      refine r_iload_n C 2 dX8_rots_33 rfl ?_
      refine r_iconst C (-1 : Int32) dX8_rots_34 (by decide) ?_
      refine r_callV (As := [.int x1, .int x2, .int (-1 : Int32)]) (rest := []) C (c_X3_stepsOn _ E n b1 x1 x2 (-1 : Int32) tb1) dX8_rots_35 ml_X8_170 mv_X3_stepsOn ⟨TX3, _, rfl⟩ (by decide) tb1 rfl rfl ⟨by decide, by decide⟩ (Nat.le_of_ble_eq_true rfl) (fun v3 S2 hv3 => ?_)
      refine r_if_le C 62 dX8_rots_38 (by decide) ?_ ?_
      · refine r_iinc C 2 (fun y4 => [(2, .int y4), (0, .ref h0), (1, .int x1)]) dX8_rots_62 rfl (v := (-1 : Int32)) (by decide) (by decide) (fun _ => rfl) (fun y4 => ?_)
        refine r_goto C 24 dX8_rots_65 (by decide) ?_
        refine r_sub [1, 2, 0] [(0, .ref h0), (1, .int x1), (2, .int y4)] rfl ?_
        exact ih S2 h0 x1 y4 th0
      · refine r_iload_n C 2 dX8_rots_41 rfl ?_
        refine r_aload_n C 0 dX8_rots_42 rfl ?_
        refine r_getr C fl_X8_27 dX8_rots_43 th0 (fun b5 tb5 => ?_)
        refine r_geti C fl_X8_182 dX8_rots_46 tb5 ?_
        refine r_iconst C (1 : Int32) dX8_rots_49 (by decide) ?_
        refine r_isub C dX8_rots_50 ?_
        refine r_icmp_ne C 58 dX8_rots_51 (by decide) ?_ ?_
        · refine r_iload_n C 2 dX8_rots_58 rfl ?_
          refine r_iconst C (1 : Int32) dX8_rots_59 (by decide) ?_
          refine r_iadd C dX8_rots_60 ?_
          exact r_ireturn C X dX8_rots_61
        · refine r_iconst C (-1 : Int32) dX8_rots_54 (by decide) ?_
          refine r_goto C 61 dX8_rots_55 (by decide) ?_
          exact r_ireturn C X dX8_rots_61
set_option maxRecDepth 100000 in
set_option maxHeartbeats 4000000 in
theorem c_X8_rots (l : Launch) (E : EN) (n : Nat) (h0 : Nat) (x1 : Int32) (th0 : Ty E h0 7) : CT l E yX8_rots cX8_rots 3 (some .int) 3 72 wI tT [.ref h0, .int x1] (fun S => f_X8_rots E n S h0 x1) := by
  refine ct_of RX8 (by decide +kernel) rfl [(0, .ref h0), (1, .int x1)] rfl (Nat.le_of_ble_eq_true rfl) (fun A S hA C X => ?_)
  subst hA
  show Gd A E 3 (QM A E wI tT) (f_X8_rots E n S h0 x1) S 0 [(0, .ref h0), (1, .int x1)] []
  unfold f_X8_rots
  refine r_aload_n C 0 dX8_rots_0 rfl ?_
  refine r_getr C fl_X8_27 dX8_rots_1 th0 (fun b1 tb1 => ?_)
  refine r_iload_n C 1 dX8_rots_4 rfl ?_
  refine r_callV (As := [.int x1]) (rest := []) C (c_X3_hasPath _ E n b1 x1 tb1) dX8_rots_5 ml_X8_104 mv_X3_hasPath ⟨TX3, _, rfl⟩ (by decide) tb1 rfl rfl ⟨by decide, by decide⟩ (Nat.le_of_ble_eq_true rfl) (fun v3 S2 hv3 => ?_)
  refine r_if_ne C 14 dX8_rots_8 (by decide) ?_ ?_
  · refine r_aload_n C 0 dX8_rots_14 rfl ?_
    refine r_getr C fl_X8_27 dX8_rots_15 th0 (fun b4 tb4 => ?_)
    refine r_geti C fl_X8_182 dX8_rots_18 tb4 ?_
    refine r_iconst C (1 : Int32) dX8_rots_21 (by decide) ?_
    refine r_isub C dX8_rots_22 ?_
    refine r_topi (fun y5 => ?_)
    refine r_istore_n C [(2, .int y5), (0, .ref h0), (1, .int x1)] dX8_rots_23 (by decide) rfl ?_
    refine r_sub [1, 2, 0] [(0, .ref h0), (1, .int x1), (2, .int y5)] rfl ?_
    exact p_X8_rots_L24 C X  n S2 h0 x1 y5 th0
  · refine r_bipush C (-2 : Int32) dX8_rots_11 (by decide) ?_
    exact r_ireturn C X dX8_rots_13
set_option maxRecDepth 100000 in
set_option maxHeartbeats 4000000 in
theorem p_X8_couldStep_L3 {A : AM} {E : EN} {n : Nat} (C : Cx A E cX8_couldStep 5 RX8 2 43) (X : Ex A E (some .boolean))  : ∀ (m : Nat) (S : WS) (h0 : Nat) (x1 : Int32) (x2 : Int32) (x3 : Int32) (x4 : Int32) (th0 : Ty E h0 7), Gd A E 5 (QM A E wI tT) (f_X8_couldStep_L3 E n  m S h0 x1 x2 x3 x4) S 3 [(0, .ref h0), (1, .int x1), (2, .int x2), (3, .int x3), (4, .int x4)] [] := by
  intro m
  induction m with
  | zero => intros; exact gn
  | succ m ih =>
    intro S h0 x1 x2 x3 x4 th0
    unfold f_X8_couldStep_L3
    refine r_iload C 4 dX8_couldStep_3 rfl ?_
    refine r_aload_n C 0 dX8_couldStep_5 rfl ?_
    refine r_getr C fl_X8_27 dX8_couldStep_6 th0 (fun b1 tb1 => ?_)
    refine r_geti C fl_X8_203 dX8_couldStep_9 tb1 ?_
    refine r_icmp_ge C 51 dX8_couldStep_12 (by decide) ?_ ?_
    · refine r_iconst C (0 : Int32) dX8_couldStep_51 (by decide) ?_
      exact r_zreturn C X rfl dX8_couldStep_52
    · refine r_aload_n C 0 dX8_couldStep_15 rfl ?_
      refine r_getr C fl_X8_27 dX8_couldStep_16 th0 (fun b2 tb2 => ?_)
      refine r_iload_n C 1 dX8_couldStep_19 rfl ?_
      refine r_iload C 4 dX8_couldStep_20 rfl ?_
      refine r_callV (As := [.int x1, .int x4]) (rest := []) C (c_X3_isFor _ E n b2 x1 x4 tb2) dX8_couldStep_22 ml_X8_121 mv_X3_isFor ⟨TX3, _, rfl⟩ (by decide) tb2 rfl rfl ⟨by decide, by decide⟩ (Nat.le_of_ble_eq_true rfl) (fun v4 S3 hv4 => ?_)
      refine r_if_eq C 45 dX8_couldStep_25 (by decide) ?_ ?_
      · refine r_iinc C 4 (fun y5 => [(4, .int y5), (0, .ref h0), (1, .int x1), (2, .int x2), (3, .int x3)]) dX8_couldStep_45 rfl (v := (1 : Int32)) (by decide) (by decide) (fun _ => rfl) (fun y5 => ?_)
        refine r_goto C 3 dX8_couldStep_48 (by decide) ?_
        refine r_sub [1, 2, 3, 4, 0] [(0, .ref h0), (1, .int x1), (2, .int x2), (3, .int x3), (4, .int y5)] rfl ?_
        exact ih S3 h0 x1 x2 x3 y5 th0
      · refine r_aload_n C 0 dX8_couldStep_28 rfl ?_
        refine r_getr C fl_X8_27 dX8_couldStep_29 th0 (fun b6 tb6 => ?_)
        refine r_iload_n C 1 dX8_couldStep_32 rfl ?_
        refine r_iload C 4 dX8_couldStep_33 rfl ?_
        refine r_iload_n C 2 dX8_couldStep_35 rfl ?_
        refine r_iload_n C 3 dX8_couldStep_36 rfl ?_
        refine r_callV (As := [.int x1, .int x4, .int x2, .int x3]) (rest := []) C (c_X3_wouldStep _ E n b6 x1 x4 x2 x3 tb6) dX8_couldStep_37 ml_X8_206 mv_X3_wouldStep ⟨TX3, _, rfl⟩ (by decide) tb6 rfl rfl ⟨by decide, by decide⟩ (Nat.le_of_ble_eq_true rfl) (fun v8 S7 hv8 => ?_)
        refine r_if_eq C 45 dX8_couldStep_40 (by decide) ?_ ?_
        · refine r_iinc C 4 (fun y9 => [(4, .int y9), (0, .ref h0), (1, .int x1), (2, .int x2), (3, .int x3)]) dX8_couldStep_45 rfl (v := (1 : Int32)) (by decide) (by decide) (fun _ => rfl) (fun y9 => ?_)
          refine r_goto C 3 dX8_couldStep_48 (by decide) ?_
          refine r_sub [1, 2, 3, 4, 0] [(0, .ref h0), (1, .int x1), (2, .int x2), (3, .int x3), (4, .int y9)] rfl ?_
          exact ih S7 h0 x1 x2 x3 y9 th0
        · refine r_iconst C (1 : Int32) dX8_couldStep_43 (by decide) ?_
          exact r_zreturn C X rfl dX8_couldStep_44
set_option maxRecDepth 100000 in
set_option maxHeartbeats 4000000 in
theorem c_X8_couldStep (l : Launch) (E : EN) (n : Nat) (h0 : Nat) (x1 : Int32) (x2 : Int32) (x3 : Int32) (th0 : Ty E h0 7) : CT l E yX8_couldStep cX8_couldStep 5 (some .boolean) 2 43 wI tT [.ref h0, .int x1, .int x2, .int x3] (fun S => f_X8_couldStep E n S h0 x1 x2 x3) := by
  refine ct_of RX8 (by decide +kernel) rfl [(0, .ref h0), (1, .int x1), (2, .int x2), (3, .int x3)] rfl (Nat.le_of_ble_eq_true rfl) (fun A S hA C X => ?_)
  subst hA
  show Gd A E 5 (QM A E wI tT) (f_X8_couldStep E n S h0 x1 x2 x3) S 0 [(0, .ref h0), (1, .int x1), (2, .int x2), (3, .int x3)] []
  unfold f_X8_couldStep
  refine r_iconst C (0 : Int32) dX8_couldStep_0 (by decide) ?_
  refine r_istore C [(4, .int (0 : Int32)), (0, .ref h0), (1, .int x1), (2, .int x2), (3, .int x3)] dX8_couldStep_1 (by decide) rfl ?_
  refine r_sub [1, 2, 3, 4, 0] [(0, .ref h0), (1, .int x1), (2, .int x2), (3, .int x3), (4, .int (0 : Int32))] rfl ?_
  exact p_X8_couldStep_L3 C X  n S h0 x1 x2 x3 (0 : Int32) th0
set_option maxRecDepth 100000 in
set_option maxHeartbeats 4000000 in
theorem p_X8_worst_L20 {A : AM} {E : EN} {n : Nat} (C : Cx A E cX8_worst 6 RX8 3 69) (X : Ex A E (some .int))  : ∀ (m : Nat) (S : WS) (h0 : Nat) (x1 : Int32) (x2 : Int32) (x3 : Int32) (x4 : Int32) (x5 : Int32) (th0 : Ty E h0 7), Gd A E 6 (QM A E wI tT) (f_X8_worst_L20 E n  m S h0 x1 x2 x3 x4 x5) S 20 [(0, .ref h0), (1, .int x1), (2, .int x2), (3, .int x3), (4, .int x4), (5, .int x5)] [] := by
  intro m
  induction m with
  | zero => intros; exact gn
  | succ m ih =>
    intro S h0 x1 x2 x3 x4 x5 th0
    unfold f_X8_worst_L20
    refine r_iload C 5 dX8_worst_20 rfl ?_
    refine r_aload_n C 0 dX8_worst_22 rfl ?_
    refine r_getr C fl_X8_27 dX8_worst_23 th0 (fun b1 tb1 => ?_)
    refine r_geti C fl_X8_161 dX8_worst_26 tb1 ?_
    refine r_icmp_ge C 82 dX8_worst_29 (by decide) ?_ ?_
    · refine r_iload_n C 3 dX8_worst_82 rfl ?_
      exact r_ireturn C X dX8_worst_83
    · refine r_aload_n C 0 dX8_worst_32 rfl ?_
      refine r_getr C fl_X8_27 dX8_worst_33 th0 (fun b2 tb2 => ?_)
      refine r_iload C 5 dX8_worst_36 rfl ?_
      refine r_iload_n C 1 dX8_worst_38 rfl ?_
      refine r_iload_n C 2 dX8_worst_39 rfl ?_
      refine r_callV (As := [.int x5, .int x1, .int x2]) (rest := []) C (c_X3_hasStep _ E n b2 x5 x1 x2 tb2) dX8_worst_40 ml_X8_174 mv_X3_hasStep ⟨TX3, _, rfl⟩ (by decide) tb2 rfl rfl ⟨by decide, by decide⟩ (Nat.le_of_ble_eq_true rfl) (fun v4 S3 hv4 => ?_)
      refine r_if_eq C 76 dX8_worst_43 (by decide) ?_ ?_
      · refine r_iinc C 5 (fun y5 => [(5, .int y5), (0, .ref h0), (1, .int x1), (2, .int x2), (3, .int x3), (4, .int x4)]) dX8_worst_76 rfl (v := (1 : Int32)) (by decide) (by decide) (fun _ => rfl) (fun y5 => ?_)
        refine r_goto C 20 dX8_worst_79 (by decide) ?_
        refine r_sub [1, 2, 3, 4, 5, 0] [(0, .ref h0), (1, .int x1), (2, .int x2), (3, .int x3), (4, .int x4), (5, .int y5)] rfl ?_
        exact ih S3 h0 x1 x2 x3 x4 y5 th0
      · refine r_aload_n C 0 dX8_worst_46 rfl ?_
        refine r_getr C fl_X8_27 dX8_worst_47 th0 (fun b6 tb6 => ?_)
        refine r_iload C 5 dX8_worst_50 rfl ?_
        refine r_iload_n C 2 dX8_worst_52 rfl ?_
        refine r_callV (As := [.int x5, .int x2]) (rest := []) C (c_X3_fallOf _ E n b6 x5 x2 tb6) dX8_worst_53 ml_X8_210 mv_X3_fallOf ⟨TX3, _, rfl⟩ (by decide) tb6 rfl rfl ⟨by decide, by decide⟩ (Nat.le_of_ble_eq_true rfl) (fun v8 S7 hv8 => ?_)
        refine r_iload C 4 dX8_worst_56 rfl ?_
        refine r_icmp_le C 76 dX8_worst_58 (by decide) ?_ ?_
        · refine r_iinc C 5 (fun y9 => [(5, .int y9), (0, .ref h0), (1, .int x1), (2, .int x2), (3, .int x3), (4, .int x4)]) dX8_worst_76 rfl (v := (1 : Int32)) (by decide) (by decide) (fun _ => rfl) (fun y9 => ?_)
          refine r_goto C 20 dX8_worst_79 (by decide) ?_
          refine r_sub [1, 2, 3, 4, 5, 0] [(0, .ref h0), (1, .int x1), (2, .int x2), (3, .int x3), (4, .int x4), (5, .int y9)] rfl ?_
          exact ih S7 h0 x1 x2 x3 x4 y9 th0
        · refine r_iload C 5 dX8_worst_61 rfl ?_
          refine r_istore_n C [(3, .int x5), (0, .ref h0), (1, .int x1), (2, .int x2), (4, .int x4), (5, .int x5)] dX8_worst_63 (by decide) rfl ?_
          refine r_aload_n C 1 dX8_worst_64 rfl ?_
          refine r_getr C fl_X8_27 dX8_worst_65 th0 (fun b10 tb10 => ?_)
          refine r_iload C 5 dX8_worst_68 rfl ?_
          refine r_iload_n C 3 dX8_worst_70 rfl ?_
          refine r_callV (As := [.int x5, .int x2]) (rest := []) C (c_X3_fallOf _ E n b10 x5 x2 tb10) dX8_worst_71 ml_X8_210 mv_X3_fallOf ⟨TX3, _, rfl⟩ (by decide) tb10 rfl rfl ⟨by decide, by decide⟩ (Nat.le_of_ble_eq_true rfl) (fun v12 S11 hv12 => ?_)
          refine r_istore C [(4, .int v12), (3, .int x5), (0, .ref h0), (1, .int x1), (2, .int x2), (5, .int x5)] dX8_worst_74 (by decide) rfl ?_
          refine r_iinc C 5 (fun y13 => [(5, .int y13), (4, .int v12), (3, .int x5), (0, .ref h0), (1, .int x1), (2, .int x2)]) dX8_worst_76 rfl (v := (1 : Int32)) (by decide) (by decide) (fun _ => rfl) (fun y13 => ?_)
          refine r_goto C 20 dX8_worst_79 (by decide) ?_
          refine r_sub [3, 4, 5, 2, 1, 0] [(0, .ref h0), (1, .int x1), (2, .int x2), (3, .int x5), (4, .int v12), (5, .int y13)] rfl ?_
          exact ih S11 h0 x1 x2 x5 v12 y13 th0
set_option maxRecDepth 100000 in
set_option maxHeartbeats 4000000 in
theorem c_X8_worst (l : Launch) (E : EN) (n : Nat) (h0 : Nat) (x1 : Int32) (x2 : Int32) (th0 : Ty E h0 7) : CT l E yX8_worst cX8_worst 6 (some .int) 3 69 wI tT [.ref h0, .int x1, .int x2] (fun S => f_X8_worst E n S h0 x1 x2) := by
  refine ct_of RX8 (by decide +kernel) rfl [(0, .ref h0), (1, .int x1), (2, .int x2)] rfl (Nat.le_of_ble_eq_true rfl) (fun A S hA C X => ?_)
  subst hA
  show Gd A E 6 (QM A E wI tT) (f_X8_worst E n S h0 x1 x2) S 0 [(0, .ref h0), (1, .int x1), (2, .int x2)] []
  unfold f_X8_worst
  refine r_aload_n C 0 dX8_worst_0 rfl ?_
  refine r_iload_n C 1 dX8_worst_1 rfl ?_
  refine r_iload_n C 2 dX8_worst_2 rfl ?_
  refine r_callV (As := [.int x1, .int x2]) (rest := []) C (c_X8_knowsPath _ E n h0 x1 x2 th0) dX8_worst_3 ml_X8_167 mv_X8_knowsPath ⟨TX8, _, rfl⟩ (by decide) th0 rfl rfl ⟨by decide, by decide⟩ (Nat.le_of_ble_eq_true rfl) (fun v2 S1 hv2 => ?_)
  refine r_if_ne C 12 dX8_worst_6 (by decide) ?_ ?_
  · refine r_iconst C (-1 : Int32) dX8_worst_12 (by decide) ?_
    refine r_istore_n C [(3, .int (-1 : Int32)), (0, .ref h0), (1, .int x1), (2, .int x2)] dX8_worst_13 (by decide) rfl ?_
    refine r_iconst C (-1 : Int32) dX8_worst_14 (by decide) ?_
    refine r_istore C [(4, .int (-1 : Int32)), (3, .int (-1 : Int32)), (0, .ref h0), (1, .int x1), (2, .int x2)] dX8_worst_15 (by decide) rfl ?_
    refine r_iconst C (0 : Int32) dX8_worst_17 (by decide) ?_
    refine r_istore C [(5, .int (0 : Int32)), (4, .int (-1 : Int32)), (3, .int (-1 : Int32)), (0, .ref h0), (1, .int x1), (2, .int x2)] dX8_worst_18 (by decide) rfl ?_
    refine r_sub [3, 4, 5, 2, 1, 0] [(0, .ref h0), (1, .int x1), (2, .int x2), (3, .int (-1 : Int32)), (4, .int (-1 : Int32)), (5, .int (0 : Int32))] rfl ?_
    exact p_X8_worst_L20 C X  n S1 h0 x1 x2 (-1 : Int32) (-1 : Int32) (0 : Int32) th0
  · refine r_bipush C (-2 : Int32) dX8_worst_9 (by decide) ?_
    exact r_ireturn C X dX8_worst_11
set_option maxRecDepth 100000 in
set_option maxHeartbeats 4000000 in
theorem p_X8_dry_L23 {A : AM} {E : EN} {n : Nat} (C : Cx A E cX8_dry 8 RX8 4 96) (X : Ex A E (some .int))  : ∀ (m : Nat) (S : WS) (h0 : Nat) (x1 : Int32) (x2 : Int32) (x3 : Int64) (x5 : Int32) (th0 : Ty E h0 7), Gd A E 8 (QM A E wI tT) (f_X8_dry_L23 E n  m S h0 x1 x2 x3 x5) S 23 [(0, .ref h0), (1, .int x1), (2, .int x2), (3, .long x3), (5, .int x5)] [] := by
  intro m
  induction m with
  | zero => intros; exact gn
  | succ m ih =>
    intro S h0 x1 x2 x3 x5 th0
    unfold f_X8_dry_L23
    refine r_iload C 4 dX8_dry_23 rfl ?_
    refine r_aload_n C 0 dX8_dry_25 rfl ?_
    refine r_getr C fl_X8_27 dX8_dry_26 th0 (fun b1 tb1 => ?_)
    refine r_geti C fl_X8_182 dX8_dry_29 tb1 ?_
    refine r_icmp_ge C 69 dX8_dry_32 (by decide) ?_ ?_
    · refine r_iload_n C 2 dX8_dry_69 rfl ?_
      exact r_ireturn C X dX8_dry_70
    · refine r_aload_n C 0 dX8_dry_35 rfl ?_
      refine r_getr C fl_X8_27 dX8_dry_36 th0 (fun b2 tb2 => ?_)
      refine r_ldc2 C (100000000000000 : Int64) (mG 838 (by decide +kernel) rfl) dX8_dry_39 ?_
      refine r_iload_n C 1 dX8_dry_42 rfl ?_
      refine r_iload C 4 dX8_dry_43 rfl ?_
      refine r_callV (As := [.long (100000000000000 : Int64), .int x1, .int x5]) (rest := []) C (c_X3_safeAlong _ E n b2 (100000000000000 : Int64) x1 x5 tb2) dX8_dry_45 ml_X8_192 mv_X3_safeAlong ⟨TX3, _, rfl⟩ (by decide) tb2 rfl rfl ⟨by decide, by decide⟩ (Nat.le_of_ble_eq_true rfl) (fun v4 S3 hv4 => ?_)
      refine r_lstore C [(6, .long v4), (0, .ref h0), (1, .int x1), (2, .int x2), (3, .long x3), (5, .int x5)] dX8_dry_48 (by decide) rfl ?_
      refine r_lload C 0 dX8_dry_50 rfl ?_
      refine r_lload_n C 4 dX8_dry_52 rfl ?_
      refine r_lcmp C dX8_dry_53 ?_
      refine r_if_le C 63 dX8_dry_54 (by decide) ?_ ?_
      · refine r_iinc C 5 (fun y5 => [(5, .int y5), (6, .long v4), (0, .ref h0), (1, .int x1), (2, .int x2), (3, .long x3)]) dX8_dry_63 rfl (v := (1 : Int32)) (by decide) (by decide) (fun _ => rfl) (fun y5 => ?_)
        refine r_goto C 23 dX8_dry_66 (by decide) ?_
        refine r_sub [2, 3, 4, 5, 0] [(0, .ref h0), (1, .int x1), (2, .int x2), (3, .long x3), (5, .int y5)] rfl ?_
        exact ih S3 h0 x1 x2 x3 y5 th0
      · refine r_lload C 0 dX8_dry_57 rfl ?_
        refine r_lstore_n C [(3, .long v4), (6, .long v4), (0, .ref h0), (1, .int x1), (2, .int x2), (5, .int x5)] dX8_dry_59 (by decide) rfl ?_
        refine r_iload C 5 dX8_dry_60 rfl ?_
        refine r_istore_n C [(2, .int x5), (3, .long v4), (6, .long v4), (0, .ref h0), (1, .int x1), (5, .int x5)] dX8_dry_62 (by decide) rfl ?_
        refine r_iinc C 5 (fun y6 => [(5, .int y6), (2, .int x5), (3, .long v4), (6, .long v4), (0, .ref h0), (1, .int x1)]) dX8_dry_63 rfl (v := (1 : Int32)) (by decide) (by decide) (fun _ => rfl) (fun y6 => ?_)
        refine r_goto C 23 dX8_dry_66 (by decide) ?_
        refine r_sub [4, 5, 1, 2, 0] [(0, .ref h0), (1, .int x1), (2, .int x5), (3, .long v4), (5, .int y6)] rfl ?_
        exact ih S3 h0 x1 x5 v4 y6 th0
set_option maxRecDepth 100000 in
set_option maxHeartbeats 4000000 in
theorem c_X8_dry (l : Launch) (E : EN) (n : Nat) (h0 : Nat) (x1 : Int32) (th0 : Ty E h0 7) : CT l E yX8_dry cX8_dry 8 (some .int) 4 96 wI tT [.ref h0, .int x1] (fun S => f_X8_dry E n S h0 x1) := by
  refine ct_of RX8 (by decide +kernel) rfl [(0, .ref h0), (1, .int x1)] rfl (Nat.le_of_ble_eq_true rfl) (fun A S hA C X => ?_)
  subst hA
  show Gd A E 8 (QM A E wI tT) (f_X8_dry E n S h0 x1) S 0 [(0, .ref h0), (1, .int x1)] []
  unfold f_X8_dry
  refine r_aload_n C 0 dX8_dry_0 rfl ?_
  refine r_getr C fl_X8_27 dX8_dry_1 th0 (fun b1 tb1 => ?_)
  refine r_iload_n C 1 dX8_dry_4 rfl ?_
  refine r_callV (As := [.int x1]) (rest := []) C (c_X3_hasPath _ E n b1 x1 tb1) dX8_dry_5 ml_X8_104 mv_X3_hasPath ⟨TX3, _, rfl⟩ (by decide) tb1 rfl rfl ⟨by decide, by decide⟩ (Nat.le_of_ble_eq_true rfl) (fun v3 S2 hv3 => ?_)
  refine r_if_ne C 14 dX8_dry_8 (by decide) ?_ ?_
  · refine r_iconst C (0 : Int32) dX8_dry_14 (by decide) ?_
    refine r_istore_n C [(2, .int (0 : Int32)), (0, .ref h0), (1, .int x1)] dX8_dry_15 (by decide) rfl ?_
    refine r_ldc2 C (-1 : Int64) (mG 874 (by decide +kernel) rfl) dX8_dry_16 ?_
    refine r_lstore_n C [(3, .long (-1 : Int64)), (2, .int (0 : Int32)), (0, .ref h0), (1, .int x1)] dX8_dry_19 (by decide) rfl ?_
    refine r_iconst C (0 : Int32) dX8_dry_20 (by decide) ?_
    refine r_istore C [(5, .int (0 : Int32)), (3, .long (-1 : Int64)), (2, .int (0 : Int32)), (0, .ref h0), (1, .int x1)] dX8_dry_21 (by decide) rfl ?_
    refine r_sub [3, 4, 2, 1, 0] [(0, .ref h0), (1, .int x1), (2, .int (0 : Int32)), (3, .long (-1 : Int64)), (5, .int (0 : Int32))] rfl ?_
    exact p_X8_dry_L23 C X  n S2 h0 x1 (0 : Int32) (-1 : Int64) (0 : Int32) th0
  · refine r_bipush C (-2 : Int32) dX8_dry_11 (by decide) ?_
    exact r_ireturn C X dX8_dry_13
set_option maxRecDepth 100000 in
set_option maxHeartbeats 4000000 in
theorem p_X8_commonDivisor_L9 {A : AM} {E : EN} {n : Nat} (C : Cx A E cX8_commonDivisor 11 RX8 0 0) (X : Ex A E (some .long))  : ∀ (m : Nat) (S : WS) (x4 : Int64) (x6 : Int64) (x8 : Int32), Gd A E 11 (QM A E wJ tT) (f_X8_commonDivisor_L9 E n  m S x4 x6 x8) S 9 [(4, .long x4), (6, .long x6), (8, .int x8)] [] := by
  intro m
  induction m with
  | zero => intros; exact gn
  | succ m ih =>
    intro S x4 x6 x8
    unfold f_X8_commonDivisor_L9
    refine r_iload C 2 dX8_commonDivisor_9 rfl ?_
    refine r_sipush C (200 : Int32) dX8_commonDivisor_11 (by decide) ?_
    refine r_icmp_ge C 45 dX8_commonDivisor_14 (by decide) ?_ ?_
    · refine r_lload C 0 dX8_commonDivisor_45 rfl ?_
      exact r_lreturn C X dX8_commonDivisor_47
    · refine r_lload C 1 dX8_commonDivisor_17 rfl ?_
      refine r_lconst C (0 : Int64) dX8_commonDivisor_19 (by decide) ?_
      refine r_lcmp C dX8_commonDivisor_20 ?_
      refine r_if_eq C 45 dX8_commonDivisor_21 (by decide) ?_ ?_
      · refine r_lload C 0 dX8_commonDivisor_45 rfl ?_
        exact r_lreturn C X dX8_commonDivisor_47
      · refine r_lload C 0 dX8_commonDivisor_24 rfl ?_
        refine r_lload C 1 dX8_commonDivisor_26 rfl ?_
        refine r_lrem C dX8_commonDivisor_28 ?_
        refine r_topl (fun y1 => ?_)
        refine r_lstore C [(9, .long y1), (4, .long x4), (6, .long x6), (8, .int x8)] dX8_commonDivisor_29 (by decide) rfl ?_
        refine r_lload C 2 dX8_commonDivisor_31 rfl ?_
        refine r_lstore C [(4, .long x6), (9, .long y1), (6, .long x6), (8, .int x8)] dX8_commonDivisor_33 (by decide) rfl ?_
        refine r_lload C 1 dX8_commonDivisor_35 rfl ?_
        refine r_lstore C [(6, .long y1), (4, .long x6), (9, .long y1), (8, .int x8)] dX8_commonDivisor_37 (by decide) rfl ?_
        refine r_iinc C 3 (fun y2 => [(8, .int y2), (6, .long y1), (4, .long x6), (9, .long y1)]) dX8_commonDivisor_39 rfl (v := (1 : Int32)) (by decide) (by decide) (fun _ => rfl) (fun y2 => ?_)
        refine r_goto C 9 dX8_commonDivisor_42 (by decide) ?_
        refine r_sub [2, 1, 0] [(4, .long x6), (6, .long y1), (8, .int y2)] rfl ?_
        exact ih S x6 y1 y2 
set_option maxRecDepth 100000 in
set_option maxHeartbeats 4000000 in
theorem c_X8_commonDivisor (l : Launch) (E : EN) (n : Nat) (x0 : Int64) (x2 : Int64) : CT l E yX8_commonDivisor cX8_commonDivisor 11 (some .long) 0 0 wJ tT [.long x0, .long x2] (fun S => f_X8_commonDivisor E n S x0 x2) := by
  refine ct_of RX8 (by decide +kernel) rfl [(0, .long x0), (2, .long x2)] rfl (Nat.le_of_ble_eq_true rfl) (fun A S hA C X => ?_)
  subst hA
  show Gd A E 11 (QM A E wJ tT) (f_X8_commonDivisor E n S x0 x2) S 0 [(0, .long x0), (2, .long x2)] []
  unfold f_X8_commonDivisor
  refine r_lload_n C 0 dX8_commonDivisor_0 rfl ?_
  refine r_lstore C [(4, .long x0), (0, .long x0), (2, .long x2)] dX8_commonDivisor_1 (by decide) rfl ?_
  refine r_lload_n C 2 dX8_commonDivisor_3 rfl ?_
  refine r_lstore C [(6, .long x2), (4, .long x0), (0, .long x0), (2, .long x2)] dX8_commonDivisor_4 (by decide) rfl ?_
  refine r_iconst C (0 : Int32) dX8_commonDivisor_6 (by decide) ?_
  refine r_istore C [(8, .int (0 : Int32)), (6, .long x2), (4, .long x0), (0, .long x0), (2, .long x2)] dX8_commonDivisor_7 (by decide) rfl ?_
  refine r_sub [2, 1, 0] [(4, .long x0), (6, .long x2), (8, .int (0 : Int32))] rfl ?_
  exact p_X8_commonDivisor_L9 C X  n S x0 x2 (0 : Int32) 
set_option maxRecDepth 100000 in
set_option maxHeartbeats 4000000 in
theorem c_X8_knowsWay (l : Launch) (E : EN) (n : Nat) (h0 : Nat) (x1 : Int32) (x2 : Int32) (x3 : Int32) (th0 : Ty E h0 7) : CT l E yX8_knowsWay cX8_knowsWay 4 (some .boolean) 1 21 wI tT [.ref h0, .int x1, .int x2, .int x3] (fun S => f_X8_knowsWay E n S h0 x1 x2 x3) := by
  refine ct_of RX8 (by decide +kernel) rfl [(0, .ref h0), (1, .int x1), (2, .int x2), (3, .int x3)] rfl (Nat.le_of_ble_eq_true rfl) (fun A S hA C X => ?_)
  subst hA
  show Gd A E 4 (QM A E wI tT) (f_X8_knowsWay E n S h0 x1 x2 x3) S 0 [(0, .ref h0), (1, .int x1), (2, .int x2), (3, .int x3)] []
  unfold f_X8_knowsWay
  refine r_aload_n C 0 dX8_knowsWay_0 rfl ?_
  refine r_getr C fl_X8_27 dX8_knowsWay_1 th0 (fun b1 tb1 => ?_)
  refine r_iload_n C 1 dX8_knowsWay_4 rfl ?_
  refine r_callV (As := [.int x1]) (rest := []) C (c_X3_hasWalker _ E n b1 x1 tb1) dX8_knowsWay_5 ml_X8_219 mv_X3_hasWalker ⟨TX3, _, rfl⟩ (by decide) tb1 rfl rfl ⟨by decide, by decide⟩ (Nat.le_of_ble_eq_true rfl) (fun v3 S2 hv3 => ?_)
  refine r_if_eq C 37 dX8_knowsWay_8 (by decide) ?_ ?_
  · refine r_iconst C (0 : Int32) dX8_knowsWay_37 (by decide) ?_
    exact r_zreturn C X rfl dX8_knowsWay_38
  · refine r_aload_n C 0 dX8_knowsWay_11 rfl ?_
    refine r_getr C fl_X8_27 dX8_knowsWay_12 th0 (fun b4 tb4 => ?_)
    refine r_iload_n C 2 dX8_knowsWay_15 rfl ?_
    refine r_callV (As := [.int x2]) (rest := []) C (c_X3_hasPlace _ E n b4 x2 tb4) dX8_knowsWay_16 ml_X8_222 mv_X3_hasPlace ⟨TX3, _, rfl⟩ (by decide) tb4 rfl rfl ⟨by decide, by decide⟩ (Nat.le_of_ble_eq_true rfl) (fun v6 S5 hv6 => ?_)
    refine r_if_eq C 37 dX8_knowsWay_19 (by decide) ?_ ?_
    · refine r_iconst C (0 : Int32) dX8_knowsWay_37 (by decide) ?_
      exact r_zreturn C X rfl dX8_knowsWay_38
    · refine r_aload_n C 0 dX8_knowsWay_22 rfl ?_
      refine r_getr C fl_X8_27 dX8_knowsWay_23 th0 (fun b7 tb7 => ?_)
      refine r_iload_n C 3 dX8_knowsWay_26 rfl ?_
      refine r_callV (As := [.int x3]) (rest := []) C (c_X3_hasYear _ E n b7 x3 tb7) dX8_knowsWay_27 ml_X8_164 mv_X3_hasYear ⟨TX3, _, rfl⟩ (by decide) tb7 rfl rfl ⟨by decide, by decide⟩ (Nat.le_of_ble_eq_true rfl) (fun v9 S8 hv9 => ?_)
      refine r_if_eq C 37 dX8_knowsWay_30 (by decide) ?_ ?_
      · refine r_iconst C (0 : Int32) dX8_knowsWay_37 (by decide) ?_
        exact r_zreturn C X rfl dX8_knowsWay_38
      · refine r_iconst C (1 : Int32) dX8_knowsWay_33 (by decide) ?_
        refine r_goto C 38 dX8_knowsWay_34 (by decide) ?_
        exact r_zreturn C X rfl dX8_knowsWay_38
set_option maxRecDepth 100000 in
set_option maxHeartbeats 4000000 in
theorem c_X8_passPrice (l : Launch) (E : EN) (n : Nat) (h0 : Nat) (x1 : Int32) (x2 : Int32) (x3 : Int32) (x4 : Int32) (th0 : Ty E h0 7) : CT l E yX8_passPrice cX8_passPrice 6 none 1 21 wV tT [.ref h0, .int x1, .int x2, .int x3, .int x4] (fun S => f_X8_passPrice E n S h0 x1 x2 x3 x4) := by
  refine ct_of RX8 (by decide +kernel) rfl [(0, .ref h0), (1, .int x1), (2, .int x2), (3, .int x3), (4, .int x4)] rfl (Nat.le_of_ble_eq_true rfl) (fun A S hA C X => ?_)
  subst hA
  show Gd A E 6 (QM A E wV tT) (f_X8_passPrice E n S h0 x1 x2 x3 x4) S 0 [(0, .ref h0), (1, .int x1), (2, .int x2), (3, .int x3), (4, .int x4)] []
  unfold f_X8_passPrice
  refine r_iload C 4 dX8_passPrice_0 rfl ?_
  refine r_if_eq C 16 dX8_passPrice_2 (by decide) ?_ ?_
  · refine r_aload_n C 0 dX8_passPrice_16 rfl ?_
    refine r_getr C fl_X8_80 dX8_passPrice_17 th0 (fun b1 tb1 => ?_)
    refine r_iload_n C 1 dX8_passPrice_20 rfl ?_
    refine r_iald C dX8_passPrice_21 tb1 ?_
    refine r_iload_n C 3 dX8_passPrice_22 rfl ?_
    refine r_mmax C (mG 958 (by decide +kernel) rfl) mmax_w ⟨by decide, by decide⟩ (Nat.le_of_ble_eq_true rfl) dX8_passPrice_23 ?_
    refine r_topi (fun y2 => ?_)
    refine r_istore C [(5, .int y2), (0, .ref h0), (1, .int x1), (2, .int x2), (3, .int x3), (4, .int x4)] dX8_passPrice_26 (by decide) rfl ?_
    refine r_aload_n C 1 dX8_passPrice_28 rfl ?_
    refine r_getr C fl_X8_80 dX8_passPrice_29 th0 (fun b3 tb3 => ?_)
    refine r_iload_n C 3 dX8_passPrice_32 rfl ?_
    refine r_aload_n C 1 dX8_passPrice_33 rfl ?_
    refine r_getr C fl_X8_80 dX8_passPrice_34 th0 (fun b4 tb4 => ?_)
    refine r_iload_n C 3 dX8_passPrice_37 rfl ?_
    refine r_iald C dX8_passPrice_38 tb4 ?_
    refine r_iload C 0 dX8_passPrice_39 rfl ?_
    refine r_mmin C (mG 924 (by decide +kernel) rfl) mmin_w ⟨by decide, by decide⟩ (Nat.le_of_ble_eq_true rfl) dX8_passPrice_41 ?_
    refine r_iast C dX8_passPrice_44 tb3 (fun S5 => ?_)
    exact r_return C X dX8_passPrice_45
  · refine r_aload_n C 0 dX8_passPrice_5 rfl ?_
    refine r_getr C fl_X8_80 dX8_passPrice_6 th0 (fun b6 tb6 => ?_)
    refine r_iload_n C 1 dX8_passPrice_9 rfl ?_
    refine r_iald C dX8_passPrice_10 tb6 ?_
    refine r_iload_n C 3 dX8_passPrice_11 rfl ?_
    refine r_iadd C dX8_passPrice_12 ?_
    refine r_goto C 26 dX8_passPrice_13 (by decide) ?_
    refine r_topi (fun y7 => ?_)
    refine r_istore C [(5, .int y7), (0, .ref h0), (1, .int x1), (2, .int x2), (3, .int x3), (4, .int x4)] dX8_passPrice_26 (by decide) rfl ?_
    refine r_aload_n C 1 dX8_passPrice_28 rfl ?_
    refine r_getr C fl_X8_80 dX8_passPrice_29 th0 (fun b8 tb8 => ?_)
    refine r_iload_n C 3 dX8_passPrice_32 rfl ?_
    refine r_aload_n C 1 dX8_passPrice_33 rfl ?_
    refine r_getr C fl_X8_80 dX8_passPrice_34 th0 (fun b9 tb9 => ?_)
    refine r_iload_n C 3 dX8_passPrice_37 rfl ?_
    refine r_iald C dX8_passPrice_38 tb9 ?_
    refine r_iload C 0 dX8_passPrice_39 rfl ?_
    refine r_mmin C (mG 924 (by decide +kernel) rfl) mmin_w ⟨by decide, by decide⟩ (Nat.le_of_ble_eq_true rfl) dX8_passPrice_41 ?_
    refine r_iast C dX8_passPrice_44 tb8 (fun S10 => ?_)
    exact r_return C X dX8_passPrice_45
set_option maxRecDepth 100000 in
set_option maxHeartbeats 4000000 in
theorem c_X8_slotAt (l : Launch) (E : EN) (n : Nat) (h0 : Nat) (x1 : Int32) (th0 : Ty E h0 7) : CT l E yX8_slotAt cX8_slotAt 2 (some (.object "DowrySteps$Slot")) 0 0 wR (tR E 5) [.ref h0, .int x1] (fun S => f_X8_slotAt E n S h0 x1) := by
  refine ct_of RX8 (by decide +kernel) rfl [(0, .ref h0), (1, .int x1)] rfl (Nat.le_of_ble_eq_true rfl) (fun A S hA C X => ?_)
  subst hA
  show Gd A E 2 (QM A E wR (tR E 5)) (f_X8_slotAt E n S h0 x1) S 0 [(0, .ref h0), (1, .int x1)] []
  unfold f_X8_slotAt
  refine r_iload_n C 1 dX8_slotAt_0 rfl ?_
  refine r_if_lt C 18 dX8_slotAt_1 (by decide) ?_ ?_
  · refine r_null C dX8_slotAt_18 ?_
    exact r_areturn (r := none) C X rfl (fun _ h => by cases h) dX8_slotAt_19
  · refine r_iload_n C 1 dX8_slotAt_4 rfl ?_
    refine r_iconst C (4 : Int32) dX8_slotAt_5 (by decide) ?_
    refine r_icmp_ge C 18 dX8_slotAt_6 (by decide) ?_ ?_
    · refine r_null C dX8_slotAt_18 ?_
      exact r_areturn (r := none) C X rfl (fun _ h => by cases h) dX8_slotAt_19
    · refine r_aload_n C 0 dX8_slotAt_9 rfl ?_
      refine r_getr C fl_X8_44 dX8_slotAt_10 th0 (fun b1 tb1 => ?_)
      refine r_iload_n C 1 dX8_slotAt_13 rfl ?_
      refine r_ralS C dX8_slotAt_14 tb1 ?_ (fun b2 tb2 => ?_)
      · refine r_goto C 19 dX8_slotAt_15 (by decide) ?_
        exact r_areturn (r := none) C X rfl (fun _ h => by cases h) dX8_slotAt_19
      · refine r_goto C 19 dX8_slotAt_15 (by decide) ?_
        exact r_areturn (r := some b2) C X rfl (fun _ h => by cases h; exact tb2) dX8_slotAt_19
set_option maxRecDepth 100000 in
set_option maxHeartbeats 4000000 in
theorem c_X8_refusalOf (l : Launch) (E : EN) (n : Nat) (h0 : Nat) (h1 : Nat) (th0 : Ty E h0 7) (th1 : Ty E h1 5) : CT l E yX8_refusalOf cX8_refusalOf 2 (some .int) 2 47 wI tT [.ref h0, .ref h1] (fun S => f_X8_refusalOf E n S h0 h1) := by
  refine ct_of RX8 (by decide +kernel) rfl [(0, .ref h0), (1, .ref h1)] rfl (Nat.le_of_ble_eq_true rfl) (fun A S hA C X => ?_)
  subst hA
  show Gd A E 2 (QM A E wI tT) (f_X8_refusalOf E n S h0 h1) S 0 [(0, .ref h0), (1, .ref h1)] []
  unfold f_X8_refusalOf
  refine r_aload_n C 1 dX8_refusalOf_0 rfl ?_
  refine r_ifnull C dX8_refusalOf_1 ?_
  refine r_aload_n C 0 dX8_refusalOf_4 rfl ?_
  refine r_getr C fl_X8_27 dX8_refusalOf_5 th0 (fun b1 tb1 => ?_)
  refine r_callV (As := []) (rest := []) C (c_X3_isTold _ E n b1 tb1) dX8_refusalOf_8 ml_X8_157 mv_X3_isTold ⟨TX3, _, rfl⟩ (by decide) tb1 rfl rfl ⟨by decide, by decide⟩ (Nat.le_of_ble_eq_true rfl) (fun v3 S2 hv3 => ?_)
  refine r_if_ne C 17 dX8_refusalOf_11 (by decide) ?_ ?_
  · refine r_aload_n C 1 dX8_refusalOf_17 rfl ?_
    refine r_geti C fl_X8_326 dX8_refusalOf_18 th1 ?_
    refine r_iconst C (-1 : Int32) dX8_refusalOf_21 (by decide) ?_
    refine r_icmp_ne C 28 dX8_refusalOf_22 (by decide) ?_ ?_
    · refine r_aload_n C 1 dX8_refusalOf_28 rfl ?_
      refine r_aload_n C 0 dX8_refusalOf_29 rfl ?_
      refine r_getr C fl_X8_27 dX8_refusalOf_30 th0 (fun b4 tb4 => ?_)
      refine r_callV (As := [.ref b4]) (rest := []) C (c_X6_isMeasured _ E n h1 b4 th1 tb4) dX8_refusalOf_33 ml_X8_329 mv_X6_isMeasured ⟨TX6, _, rfl⟩ (by decide) th1 rfl rfl ⟨by decide, by decide⟩ (Nat.le_of_ble_eq_true rfl) (fun v6 S5 hv6 => ?_)
      refine r_if_eq C 43 dX8_refusalOf_36 (by decide) ?_ ?_
      · refine r_bipush C (-2 : Int32) dX8_refusalOf_43 (by decide) ?_
        exact r_ireturn C X dX8_refusalOf_45
      · refine r_iconst C (0 : Int32) dX8_refusalOf_39 (by decide) ?_
        refine r_goto C 45 dX8_refusalOf_40 (by decide) ?_
        exact r_ireturn C X dX8_refusalOf_45
    · refine r_bipush C (-6 : Int32) dX8_refusalOf_25 (by decide) ?_
      exact r_ireturn C X dX8_refusalOf_27
  · refine r_bipush C (-2 : Int32) dX8_refusalOf_14 (by decide) ?_
    exact r_ireturn C X dX8_refusalOf_16
set_option maxRecDepth 100000 in
set_option maxHeartbeats 4000000 in
theorem p_X8_endOfWalk_L73 {A : AM} {E : EN} {n : Nat} (C : Cx A E cX8_endOfWalk 11 RX8 3 69) (X : Ex A E (some .int)) {k19 : WS → Nat → Int32 → Int64 → Int32 → Option (Int32 × WS)} (hk19 : ∀ (S : WS) (h0 : Nat) (x3 : Int32) (x4 : Int64) (x6 : Int32) (_ : Ty E h0 7), Gd A E 11 (QM A E wI tT) (k19 S h0 x3 x4 x6) S 19 [(0, .ref h0), (3, .int x3), (4, .long x4), (6, .int x6)] []) : ∀ (m : Nat) (S : WS) (h0 : Nat) (x3 : Int32) (x4 : Int64) (x6 : Int32) (x7 : Int32) (x8 : Int32) (x9 : Int32) (x10 : Int32) (th0 : Ty E h0 7), Gd A E 11 (QM A E wI tT) (f_X8_endOfWalk_L73 E n k19 m S h0 x3 x4 x6 x7 x8 x9 x10) S 73 [(0, .ref h0), (3, .int x3), (4, .long x4), (6, .int x6), (7, .int x7), (8, .int x8), (9, .int x9), (10, .int x10)] [] := by
  intro m
  induction m with
  | zero => intros; exact gn
  | succ m ih =>
    intro S h0 x3 x4 x6 x7 x8 x9 x10 th0
    unfold f_X8_endOfWalk_L73
    refine r_iload C 7 dX8_endOfWalk_73 rfl ?_
    refine r_aload_n C 0 dX8_endOfWalk_75 rfl ?_
    refine r_getr C fl_X8_27 dX8_endOfWalk_76 th0 (fun b1 tb1 => ?_)
    refine r_geti C fl_X8_161 dX8_endOfWalk_79 tb1 ?_
    refine r_icmp_ge C 178 dX8_endOfWalk_82 (by decide) ?_ ?_
    · refine r_iinc C 3 (fun y2 => [(6, .int y2), (0, .ref h0), (3, .int x3), (4, .long x4), (7, .int x7), (8, .int x8), (9, .int x9), (10, .int x10)]) dX8_endOfWalk_178 rfl (v := (1 : Int32)) (by decide) (by decide) (fun _ => rfl) (fun y2 => ?_)
      refine r_goto C 19 dX8_endOfWalk_181 (by decide) ?_
      refine r_sub [1, 2, 3, 0] [(0, .ref h0), (3, .int x3), (4, .long x4), (6, .int y2)] rfl ?_
      exact hk19 S h0 x3 x4 y2 th0
    · refine r_aload_n C 0 dX8_endOfWalk_85 rfl ?_
      refine r_getr C fl_X8_27 dX8_endOfWalk_86 th0 (fun b3 tb3 => ?_)
      refine r_iload C 7 dX8_endOfWalk_89 rfl ?_
      refine r_iload C 6 dX8_endOfWalk_91 rfl ?_
      refine r_iload_n C 1 dX8_endOfWalk_93 rfl ?_
      refine r_callV (As := [.int x10, .int x9, .int x3]) (rest := []) C (c_X3_hasStep _ E n b3 x10 x9 x3 tb3) dX8_endOfWalk_94 ml_X8_174 mv_X3_hasStep ⟨TX3, _, rfl⟩ (by decide) tb3 rfl rfl ⟨by decide, by decide⟩ (Nat.le_of_ble_eq_true rfl) (fun v5 S4 hv5 => ?_)
      refine r_if_eq C 172 dX8_endOfWalk_97 (by decide) ?_ ?_
      · refine r_iinc C 7 (fun y6 => [(10, .int y6), (0, .ref h0), (3, .int x3), (4, .long x4), (6, .int x6), (7, .int x7), (8, .int x8), (9, .int x9)]) dX8_endOfWalk_172 rfl (v := (1 : Int32)) (by decide) (by decide) (fun _ => rfl) (fun y6 => ?_)
        refine r_goto C 73 dX8_endOfWalk_175 (by decide) ?_
        refine r_sub [1, 2, 3, 4, 5, 6, 7, 0] [(0, .ref h0), (3, .int x3), (4, .long x4), (6, .int x6), (7, .int x7), (8, .int x8), (9, .int x9), (10, .int y6)] rfl ?_
        exact ih S4 h0 x3 x4 x6 x7 x8 x9 y6 th0
      · refine r_ldc2 C (1103515245 : Int64) (mG 1199 (by decide +kernel) rfl) dX8_endOfWalk_100 ?_
        refine r_lload C 2 dX8_endOfWalk_103 rfl ?_
        refine r_lmul C dX8_endOfWalk_105 ?_
        refine r_ldc2 C (12345 : Int64) (mG 1200 (by decide +kernel) rfl) dX8_endOfWalk_106 ?_
        refine r_ladd C dX8_endOfWalk_109 ?_
        refine r_ldc2 C (2147483648 : Int64) (mG 1201 (by decide +kernel) rfl) dX8_endOfWalk_110 ?_
        refine r_lrem C dX8_endOfWalk_113 ?_
        refine r_topl (fun y7 => ?_)
        refine r_lstore C [(4, .long y7), (0, .ref h0), (3, .int x3), (6, .int x6), (7, .int x7), (8, .int x8), (9, .int x9), (10, .int x10)] dX8_endOfWalk_114 (by decide) rfl ?_
        refine r_lload C 0 dX8_endOfWalk_116 rfl ?_
        refine r_ldc2 C (65536 : Int64) (mG 1202 (by decide +kernel) rfl) dX8_endOfWalk_118 ?_
        refine r_ldiv C dX8_endOfWalk_121 ?_
        refine r_ldc2 C (100 : Int64) (mG 1203 (by decide +kernel) rfl) dX8_endOfWalk_122 ?_
        refine r_lrem C dX8_endOfWalk_125 ?_
        refine r_aload_n C 1 dX8_endOfWalk_126 rfl ?_
        refine r_getr C fl_X8_27 dX8_endOfWalk_127 th0 (fun b8 tb8 => ?_)
        refine r_iload C 7 dX8_endOfWalk_130 rfl ?_
        refine r_iload_n C 2 dX8_endOfWalk_132 rfl ?_
        refine r_callV (As := [.int x10, .int x3]) (rest := [.long ((y7 / (65536 : Int64)) - (y7 / (65536 : Int64)) / (100 : Int64) * (100 : Int64))]) C (c_X3_fallOf _ E n b8 x10 x3 tb8) dX8_endOfWalk_133 ml_X8_210 mv_X3_fallOf ⟨TX3, _, rfl⟩ (by decide) tb8 rfl rfl ⟨by decide, by decide⟩ (Nat.le_of_ble_eq_true rfl) (fun v10 S9 hv10 => ?_)
        refine r_i2l C dX8_endOfWalk_136 ?_
        refine r_lcmp C dX8_endOfWalk_137 ?_
        refine r_if_ge C 172 dX8_endOfWalk_138 (by decide) ?_ ?_
        · refine r_iinc C 7 (fun y11 => [(10, .int y11), (4, .long y7), (0, .ref h0), (3, .int x3), (6, .int x6), (7, .int x7), (8, .int x8), (9, .int x9)]) dX8_endOfWalk_172 rfl (v := (1 : Int32)) (by decide) (by decide) (fun _ => rfl) (fun y11 => ?_)
          refine r_goto C 73 dX8_endOfWalk_175 (by decide) ?_
          refine r_sub [2, 3, 1, 4, 5, 6, 7, 0] [(0, .ref h0), (3, .int x3), (4, .long y7), (6, .int x6), (7, .int x7), (8, .int x8), (9, .int x9), (10, .int y11)] rfl ?_
          exact ih S9 h0 x3 y7 x6 x7 x8 x9 y11 th0
        · refine r_aload_n C 1 dX8_endOfWalk_141 rfl ?_
          refine r_getr C fl_X8_27 dX8_endOfWalk_142 th0 (fun b12 tb12 => ?_)
          refine r_getr C fl_X8_257 dX8_endOfWalk_145 tb12 (fun b13 tb13 => ?_)
          refine r_iload C 5 dX8_endOfWalk_148 rfl ?_
          refine r_iald C dX8_endOfWalk_150 tb13 ?_
          refine r_aload_n C 1 dX8_endOfWalk_151 rfl ?_
          refine r_getr C fl_X8_27 dX8_endOfWalk_152 th0 (fun b14 tb14 => ?_)
          refine r_getr C fl_X8_257 dX8_endOfWalk_155 tb14 (fun b15 tb15 => ?_)
          refine r_iload C 4 dX8_endOfWalk_158 rfl ?_
          refine r_iald C dX8_endOfWalk_160 tb15 ?_
          refine r_icmp_ge C 169 dX8_endOfWalk_161 (by decide) ?_ ?_
          · refine r_iload C 4 dX8_endOfWalk_169 rfl ?_
            exact r_ireturn C X dX8_endOfWalk_171
          · refine r_iload C 5 dX8_endOfWalk_164 rfl ?_
            refine r_goto C 171 dX8_endOfWalk_166 (by decide) ?_
            exact r_ireturn C X dX8_endOfWalk_171
