/-! THE CONTRACTS, by program -/
set_option maxRecDepth 100000 in
set_option maxHeartbeats 4000000 in
theorem p_X8_endOfWalk_L19 {A : AM} {E : EN} {n : Nat} (C : Cx A E cX8_endOfWalk 11 RX8 3 69) (X : Ex A E (some .int))  : ∀ (m : Nat) (S : WS) (h0 : Nat) (x3 : Int32) (x4 : Int64) (x6 : Int32) (th0 : Ty E h0 7), Gd A E 11 (QM A E wI tT) (f_X8_endOfWalk_L19 E n  m S h0 x3 x4 x6) S 19 [(0, .ref h0), (3, .int x3), (4, .long x4), (6, .int x6)] [] := by
  intro m
  induction m with
  | zero => intros; exact gn
  | succ m ih =>
    intro S h0 x3 x4 x6 th0
    unfold f_X8_endOfWalk_L19
    refine r_iload C 3 dX8_endOfWalk_19 rfl ?_
    refine r_aload_n C 0 dX8_endOfWalk_21 rfl ?_
    refine r_getr C fl_X8_51 dX8_endOfWalk_22 th0 (fun b1 tb1 => ?_)
    refine r_geti C fl_X8_241 dX8_endOfWalk_25 tb1 ?_
    refine r_icmp_ge C 184 dX8_endOfWalk_28 (by decide) ?_ ?_
    · refine r_aload_n C 0 dX8_endOfWalk_184 rfl ?_
      refine r_getr C fl_X8_51 dX8_endOfWalk_185 th0 (fun b2 tb2 => ?_)
      refine r_getr C fl_X8_248 dX8_endOfWalk_188 tb2 (fun b3 tb3 => ?_)
      refine r_aload_n C 0 dX8_endOfWalk_191 rfl ?_
      refine r_getr C fl_X8_51 dX8_endOfWalk_192 th0 (fun b4 tb4 => ?_)
      refine r_geti C fl_X8_241 dX8_endOfWalk_195 tb4 ?_
      refine r_iconst C (1 : Int32) dX8_endOfWalk_198 (by decide) ?_
      refine r_isub C dX8_endOfWalk_199 ?_
      refine r_iald C dX8_endOfWalk_200 tb3 ?_
      exact r_ireturn C X dX8_endOfWalk_201
    · refine r_aload_n C 0 dX8_endOfWalk_31 rfl ?_
      refine r_getr C fl_X8_51 dX8_endOfWalk_32 th0 (fun b5 tb5 => ?_)
      refine r_getr C fl_X8_248 dX8_endOfWalk_35 tb5 (fun b6 tb6 => ?_)
      refine r_iload C 3 dX8_endOfWalk_38 rfl ?_
      refine r_iconst C (1 : Int32) dX8_endOfWalk_40 (by decide) ?_
      refine r_isub C dX8_endOfWalk_41 ?_
      refine r_iald C dX8_endOfWalk_42 tb6 ?_
      refine r_topi (fun y7 => ?_)
      refine r_istore C [(7, .int y7), (0, .ref h0), (3, .int x3), (4, .long x4), (6, .int x6)] dX8_endOfWalk_43 (by decide) rfl ?_
      refine r_aload_n C 1 dX8_endOfWalk_45 rfl ?_
      refine r_getr C fl_X8_51 dX8_endOfWalk_46 th0 (fun b8 tb8 => ?_)
      refine r_getr C fl_X8_248 dX8_endOfWalk_49 tb8 (fun b9 tb9 => ?_)
      refine r_iload C 4 dX8_endOfWalk_52 rfl ?_
      refine r_iald C dX8_endOfWalk_54 tb9 ?_
      refine r_topi (fun y10 => ?_)
      refine r_istore C [(8, .int y10), (7, .int y7), (0, .ref h0), (3, .int x3), (4, .long x4), (6, .int x6)] dX8_endOfWalk_55 (by decide) rfl ?_
      refine r_aload_n C 2 dX8_endOfWalk_57 rfl ?_
      refine r_getr C fl_X8_27 dX8_endOfWalk_58 th0 (fun b11 tb11 => ?_)
      refine r_iload C 1 dX8_endOfWalk_61 rfl ?_
      refine r_iload C 0 dX8_endOfWalk_63 rfl ?_
      refine r_callV (As := [.int y7, .int y10]) (rest := []) C (c_X3_pathBetween _ E n b11 y7 y10 tb11) dX8_endOfWalk_65 ml_X8_384 mv_X3_pathBetween ⟨TX3, _, rfl⟩ (by decide) tb11 rfl rfl ⟨by decide, by decide⟩ (Nat.le_of_ble_eq_true rfl) (fun v13 S12 hv13 => ?_)
      refine r_istore C [(9, .int v13), (8, .int y10), (7, .int y7), (0, .ref h0), (3, .int x3), (4, .long x4), (6, .int x6)] dX8_endOfWalk_68 (by decide) rfl ?_
      refine r_iconst C (0 : Int32) dX8_endOfWalk_70 (by decide) ?_
      refine r_istore C [(10, .int (0 : Int32)), (9, .int v13), (8, .int y10), (7, .int y7), (0, .ref h0), (3, .int x3), (4, .long x4), (6, .int x6)] dX8_endOfWalk_71 (by decide) rfl ?_
      refine r_sub [4, 5, 6, 7, 3, 2, 1, 0] [(0, .ref h0), (3, .int x3), (4, .long x4), (6, .int x6), (7, .int y7), (8, .int y10), (9, .int v13), (10, .int (0 : Int32))] rfl ?_
      exact p_X8_endOfWalk_L73 C X ih n S12 h0 x3 x4 x6 y7 y10 v13 (0 : Int32) th0
set_option maxRecDepth 100000 in
set_option maxHeartbeats 4000000 in
theorem c_X8_endOfWalk (l : Launch) (E : EN) (n : Nat) (h0 : Nat) (x1 : Int64) (x3 : Int32) (th0 : Ty E h0 7) : CT l E yX8_endOfWalk cX8_endOfWalk 11 (some .int) 3 69 wI tT [.ref h0, .long x1, .int x3] (fun S => f_X8_endOfWalk E n S h0 x1 x3) := by
  refine ct_of RX8 (by decide +kernel) rfl [(0, .ref h0), (1, .long x1), (3, .int x3)] rfl (Nat.le_of_ble_eq_true rfl) (fun A S hA C X => ?_)
  subst hA
  show Gd A E 11 (QM A E wI tT) (f_X8_endOfWalk E n S h0 x1 x3) S 0 [(0, .ref h0), (1, .long x1), (3, .int x3)] []
  unfold f_X8_endOfWalk
  refine r_aload_n C 0 dX8_endOfWalk_0 rfl ?_
  refine r_getr C fl_X8_51 dX8_endOfWalk_1 th0 (fun b1 tb1 => ?_)
  refine r_geti C fl_X8_241 dX8_endOfWalk_4 tb1 ?_
  refine r_iconst C (-1 : Int32) dX8_endOfWalk_7 (by decide) ?_
  refine r_icmp_ne C 13 dX8_endOfWalk_8 (by decide) ?_ ?_
  · refine r_lload_n C 1 dX8_endOfWalk_13 rfl ?_
    refine r_lstore C [(4, .long x1), (0, .ref h0), (1, .long x1), (3, .int x3)] dX8_endOfWalk_14 (by decide) rfl ?_
    refine r_iconst C (1 : Int32) dX8_endOfWalk_16 (by decide) ?_
    refine r_istore C [(6, .int (1 : Int32)), (4, .long x1), (0, .ref h0), (1, .long x1), (3, .int x3)] dX8_endOfWalk_17 (by decide) rfl ?_
    refine r_sub [2, 4, 1, 0] [(0, .ref h0), (3, .int x3), (4, .long x1), (6, .int (1 : Int32))] rfl ?_
    exact p_X8_endOfWalk_L19 C X  n S h0 x3 x1 (1 : Int32) th0
  · refine r_iconst C (-1 : Int32) dX8_endOfWalk_11 (by decide) ?_
    exact r_ireturn C X dX8_endOfWalk_12
set_option maxRecDepth 100000 in
set_option maxHeartbeats 4000000 in
theorem p_X8_courtersAsBits_L4 {A : AM} {E : EN} {n : Nat} (C : Cx A E cX8_courtersAsBits 3 RX8 0 0) (X : Ex A E (some .int))  : ∀ (m : Nat) (S : WS) (h0 : Nat) (x1 : Int32) (x2 : Int32) (th0 : Ty E h0 7), Gd A E 3 (QM A E wI tT) (f_X8_courtersAsBits_L4 E n  m S h0 x1 x2) S 4 [(0, .ref h0), (1, .int x1), (2, .int x2)] [] := by
  intro m
  induction m with
  | zero => intros; exact gn
  | succ m ih =>
    intro S h0 x1 x2 th0
    unfold f_X8_courtersAsBits_L4
    refine r_iload_n C 2 dX8_courtersAsBits_4 rfl ?_
    refine r_aload_n C 0 dX8_courtersAsBits_5 rfl ?_
    refine r_getr C fl_X8_27 dX8_courtersAsBits_6 th0 (fun b1 tb1 => ?_)
    refine r_geti C fl_X8_161 dX8_courtersAsBits_9 tb1 ?_
    refine r_icmp_ge C 40 dX8_courtersAsBits_12 (by decide) ?_ ?_
    · refine r_iload_n C 1 dX8_courtersAsBits_40 rfl ?_
      exact r_ireturn C X dX8_courtersAsBits_41
    · refine r_aload_n C 0 dX8_courtersAsBits_15 rfl ?_
      refine r_getr C fl_X8_27 dX8_courtersAsBits_16 th0 (fun b2 tb2 => ?_)
      refine r_getr C fl_X8_125 dX8_courtersAsBits_19 tb2 (fun b3 tb3 => ?_)
      refine r_iload_n C 2 dX8_courtersAsBits_22 rfl ?_
      refine r_iald C dX8_courtersAsBits_23 tb3 ?_
      refine r_iconst C (-1 : Int32) dX8_courtersAsBits_24 (by decide) ?_
      refine r_icmp_eq C 34 dX8_courtersAsBits_25 (by decide) ?_ ?_
      · refine r_iinc C 2 (fun y4 => [(2, .int y4), (0, .ref h0), (1, .int x1)]) dX8_courtersAsBits_34 rfl (v := (1 : Int32)) (by decide) (by decide) (fun _ => rfl) (fun y4 => ?_)
        refine r_goto C 4 dX8_courtersAsBits_37 (by decide) ?_
        refine r_sub [1, 2, 0] [(0, .ref h0), (1, .int x1), (2, .int y4)] rfl ?_
        exact ih S h0 x1 y4 th0
      · refine r_iload_n C 1 dX8_courtersAsBits_28 rfl ?_
        refine r_iconst C (1 : Int32) dX8_courtersAsBits_29 (by decide) ?_
        refine r_iload_n C 2 dX8_courtersAsBits_30 rfl ?_
        refine r_ishl C dX8_courtersAsBits_31 ?_
        refine r_ior C dX8_courtersAsBits_32 ?_
        refine r_topi (fun y5 => ?_)
        refine r_istore_n C [(1, .int y5), (0, .ref h0), (2, .int x2)] dX8_courtersAsBits_33 (by decide) rfl ?_
        refine r_iinc C 2 (fun y6 => [(2, .int y6), (1, .int y5), (0, .ref h0)]) dX8_courtersAsBits_34 rfl (v := (1 : Int32)) (by decide) (by decide) (fun _ => rfl) (fun y6 => ?_)
        refine r_goto C 4 dX8_courtersAsBits_37 (by decide) ?_
        refine r_sub [2, 1, 0] [(0, .ref h0), (1, .int y5), (2, .int y6)] rfl ?_
        exact ih S h0 y5 y6 th0
set_option maxRecDepth 100000 in
set_option maxHeartbeats 4000000 in
theorem c_X8_courtersAsBits (l : Launch) (E : EN) (n : Nat) (h0 : Nat) (th0 : Ty E h0 7) : CT l E yX8_courtersAsBits cX8_courtersAsBits 3 (some .int) 0 0 wI tT [.ref h0] (fun S => f_X8_courtersAsBits E n S h0) := by
  refine ct_of RX8 (by decide +kernel) rfl [(0, .ref h0)] rfl (Nat.le_of_ble_eq_true rfl) (fun A S hA C X => ?_)
  subst hA
  show Gd A E 3 (QM A E wI tT) (f_X8_courtersAsBits E n S h0) S 0 [(0, .ref h0)] []
  unfold f_X8_courtersAsBits
  refine r_iconst C (0 : Int32) dX8_courtersAsBits_0 (by decide) ?_
  refine r_istore_n C [(1, .int (0 : Int32)), (0, .ref h0)] dX8_courtersAsBits_1 (by decide) rfl ?_
  refine r_iconst C (0 : Int32) dX8_courtersAsBits_2 (by decide) ?_
  refine r_istore_n C [(2, .int (0 : Int32)), (1, .int (0 : Int32)), (0, .ref h0)] dX8_courtersAsBits_3 (by decide) rfl ?_
  refine r_sub [2, 1, 0] [(0, .ref h0), (1, .int (0 : Int32)), (2, .int (0 : Int32))] rfl ?_
  exact p_X8_courtersAsBits_L4 C X  n S h0 (0 : Int32) (0 : Int32) th0
set_option maxRecDepth 100000 in
set_option maxHeartbeats 4000000 in
theorem p_X8_slotsWithRows_L4 {A : AM} {E : EN} {n : Nat} (C : Cx A E cX8_slotsWithRows 4 RX8 1 21) (X : Ex A E (some .int))  : ∀ (m : Nat) (S : WS) (h0 : Nat) (x1 : Int32) (x2 : Int32) (th0 : Ty E h0 7), Gd A E 4 (QM A E wI tT) (f_X8_slotsWithRows_L4 E n  m S h0 x1 x2) S 4 [(0, .ref h0), (1, .int x1), (2, .int x2)] [] := by
  intro m
  induction m with
  | zero => intros; exact gn
  | succ m ih =>
    intro S h0 x1 x2 th0
    unfold f_X8_slotsWithRows_L4
    refine r_iload_n C 2 dX8_slotsWithRows_4 rfl ?_
    refine r_iconst C (4 : Int32) dX8_slotsWithRows_5 (by decide) ?_
    refine r_icmp_ge C 36 dX8_slotsWithRows_6 (by decide) ?_ ?_
    · refine r_iload_n C 1 dX8_slotsWithRows_36 rfl ?_
      exact r_ireturn C X dX8_slotsWithRows_37
    · refine r_aload_n C 0 dX8_slotsWithRows_9 rfl ?_
      refine r_iload_n C 2 dX8_slotsWithRows_10 rfl ?_
      refine r_callV (As := [.int x2]) (rest := []) C (c_X8_slotAt _ E n h0 x2 th0) dX8_slotsWithRows_11 ml_X8_333 mv_X8_slotAt ⟨TX8, _, rfl⟩ (by decide) th0 rfl rfl ⟨by decide, by decide⟩ (Nat.le_of_ble_eq_true rfl) (fun v2 S1 hv2 => ?_)
      refine r_opt hv2 ?_ (fun b3 tb3 => ?_)
      · refine r_astore_nN C [(3, .null), (0, .ref h0), (1, .int x1), (2, .int x2)] dX8_slotsWithRows_14 (by decide) rfl ?_
        refine r_aload_nN C 0 dX8_slotsWithRows_15 rfl ?_
        refine r_ifnullN C 30 dX8_slotsWithRows_16 (by decide) ?_
        refine r_iinc C 3 (fun y4 => [(2, .int y4), (3, .null), (0, .ref h0), (1, .int x1)]) dX8_slotsWithRows_30 rfl (v := (1 : Int32)) (by decide) (by decide) (fun _ => rfl) (fun y4 => ?_)
        refine r_goto C 4 dX8_slotsWithRows_33 (by decide) ?_
        refine r_sub [2, 3, 0] [(0, .ref h0), (1, .int x1), (2, .int y4)] rfl ?_
        exact ih S1 h0 x1 y4 th0
      · refine r_astore_n C [(3, .ref b3), (0, .ref h0), (1, .int x1), (2, .int x2)] dX8_slotsWithRows_14 (by decide) rfl ?_
        refine r_aload_n C 0 dX8_slotsWithRows_15 rfl ?_
        refine r_ifnull C dX8_slotsWithRows_16 ?_
        refine r_aload_n C 0 dX8_slotsWithRows_19 rfl ?_
        refine r_geti C fl_X8_326 dX8_slotsWithRows_20 tb3 ?_
        refine r_iconst C (-1 : Int32) dX8_slotsWithRows_23 (by decide) ?_
        refine r_icmp_eq C 30 dX8_slotsWithRows_24 (by decide) ?_ ?_
        · refine r_iinc C 3 (fun y5 => [(2, .int y5), (3, .ref b3), (0, .ref h0), (1, .int x1)]) dX8_slotsWithRows_30 rfl (v := (1 : Int32)) (by decide) (by decide) (fun _ => rfl) (fun y5 => ?_)
          refine r_goto C 4 dX8_slotsWithRows_33 (by decide) ?_
          refine r_sub [2, 3, 0] [(0, .ref h0), (1, .int x1), (2, .int y5)] rfl ?_
          exact ih S1 h0 x1 y5 th0
        · refine r_iinc C 2 (fun y6 => [(1, .int y6), (3, .ref b3), (0, .ref h0), (2, .int x2)]) dX8_slotsWithRows_27 rfl (v := (1 : Int32)) (by decide) (by decide) (fun _ => rfl) (fun y6 => ?_)
          refine r_iinc C 3 (fun y7 => [(2, .int y7), (1, .int y6), (3, .ref b3), (0, .ref h0)]) dX8_slotsWithRows_30 rfl (v := (1 : Int32)) (by decide) (by decide) (fun _ => rfl) (fun y7 => ?_)
          refine r_goto C 4 dX8_slotsWithRows_33 (by decide) ?_
          refine r_sub [3, 1, 0] [(0, .ref h0), (1, .int y6), (2, .int y7)] rfl ?_
          exact ih S1 h0 y6 y7 th0
set_option maxRecDepth 100000 in
set_option maxHeartbeats 4000000 in
theorem c_X8_slotsWithRows (l : Launch) (E : EN) (n : Nat) (h0 : Nat) (th0 : Ty E h0 7) : CT l E yX8_slotsWithRows cX8_slotsWithRows 4 (some .int) 1 21 wI tT [.ref h0] (fun S => f_X8_slotsWithRows E n S h0) := by
  refine ct_of RX8 (by decide +kernel) rfl [(0, .ref h0)] rfl (Nat.le_of_ble_eq_true rfl) (fun A S hA C X => ?_)
  subst hA
  show Gd A E 4 (QM A E wI tT) (f_X8_slotsWithRows E n S h0) S 0 [(0, .ref h0)] []
  unfold f_X8_slotsWithRows
  refine r_iconst C (0 : Int32) dX8_slotsWithRows_0 (by decide) ?_
  refine r_istore_n C [(1, .int (0 : Int32)), (0, .ref h0)] dX8_slotsWithRows_1 (by decide) rfl ?_
  refine r_iconst C (0 : Int32) dX8_slotsWithRows_2 (by decide) ?_
  refine r_istore_n C [(2, .int (0 : Int32)), (1, .int (0 : Int32)), (0, .ref h0)] dX8_slotsWithRows_3 (by decide) rfl ?_
  refine r_sub [2, 1, 0] [(0, .ref h0), (1, .int (0 : Int32)), (2, .int (0 : Int32))] rfl ?_
  exact p_X8_slotsWithRows_L4 C X  n S h0 (0 : Int32) (0 : Int32) th0
set_option maxRecDepth 100000 in
set_option maxHeartbeats 4000000 in
theorem c_X8_cutToWidth (l : Launch) (E : EN) (n : Nat) (x0 : Int64) (x2 : Int32) : CT l E yX8_cutToWidth cX8_cutToWidth 3 (some .long) 0 0 wJ tT [.long x0, .int x2] (fun S => f_X8_cutToWidth E n S x0 x2) := by
  refine ct_of RX8 (by decide +kernel) rfl [(0, .long x0), (2, .int x2)] rfl (Nat.le_of_ble_eq_true rfl) (fun A S hA C X => ?_)
  subst hA
  show Gd A E 3 (QM A E wJ tT) (f_X8_cutToWidth E n S x0 x2) S 0 [(0, .long x0), (2, .int x2)] []
  unfold f_X8_cutToWidth
  refine r_iload_n C 1 dX8_cutToWidth_0 rfl ?_
  refine r_ite (fun hs0 => ?_) (fun hs0 => ?_)
  · refine r_swIn C 0 28 dX8_cutToWidth_1 (by rw [hs0]; rfl) (by decide) (by decide) rfl (by decide) ?_
    refine r_lload_n C 0 dX8_cutToWidth_28 rfl ?_
    refine r_l2i C dX8_cutToWidth_29 ?_
    refine r_i2b C dX8_cutToWidth_30 ?_
    refine r_i2l C dX8_cutToWidth_31 ?_
    exact r_lreturn C X dX8_cutToWidth_32
  refine r_ite (fun hs1 => ?_) (fun hs1 => ?_)
  · refine r_swIn C 1 33 dX8_cutToWidth_1 (by rw [hs1]; rfl) (by decide) (by decide) rfl (by decide) ?_
    refine r_lload_n C 0 dX8_cutToWidth_33 rfl ?_
    refine r_l2i C dX8_cutToWidth_34 ?_
    refine r_i2s C dX8_cutToWidth_35 ?_
    refine r_i2l C dX8_cutToWidth_36 ?_
    exact r_lreturn C X dX8_cutToWidth_37
  refine r_ite (fun hs2 => ?_) (fun hs2 => ?_)
  · refine r_swIn C 2 38 dX8_cutToWidth_1 (by rw [hs2]; rfl) (by decide) (by decide) rfl (by decide) ?_
    refine r_lload_n C 0 dX8_cutToWidth_38 rfl ?_
    refine r_l2i C dX8_cutToWidth_39 ?_
    refine r_i2l C dX8_cutToWidth_40 ?_
    exact r_lreturn C X dX8_cutToWidth_41
  refine r_swOut C 42 dX8_cutToWidth_1 (by have z0 := lv_neT hs0 (a := 0) rfl; have z1 := lv_neT hs1 (a := 1) rfl; have z2 := lv_neT hs2 (a := 2) rfl;  omega) (by decide) ?_
  refine r_lload_n C 0 dX8_cutToWidth_42 rfl ?_
  exact r_lreturn C X dX8_cutToWidth_43
set_option maxRecDepth 100000 in
set_option maxHeartbeats 4000000 in
theorem c_X8_paste (l : Launch) (E : EN) (n : Nat) (h0 : Nat) (x1 : Int32) (x2 : Int32) (x3 : Int32) (x4 : Int32) (x5 : Int32) (th0 : Ty E h0 7) : CT l E yX8_paste cX8_paste 8 (some .int) 1 30 wI tT [.ref h0, .int x1, .int x2, .int x3, .int x4, .int x5] (fun S => f_X8_paste E n S h0 x1 x2 x3 x4 x5) := by
  refine ct_of RX8 (by decide +kernel) rfl [(0, .ref h0), (1, .int x1), (2, .int x2), (3, .int x3), (4, .int x4), (5, .int x5)] rfl (Nat.le_of_ble_eq_true rfl) (fun A S hA C X => ?_)
  subst hA
  show Gd A E 8 (QM A E wI tT) (f_X8_paste E n S h0 x1 x2 x3 x4 x5) S 0 [(0, .ref h0), (1, .int x1), (2, .int x2), (3, .int x3), (4, .int x4), (5, .int x5)] []
  unfold f_X8_paste
  refine r_aload_n C 0 dX8_paste_0 rfl ?_
  refine r_iload_n C 1 dX8_paste_1 rfl ?_
  refine r_callV (As := [.int x1]) (rest := []) C (c_X8_slotAt _ E n h0 x1 th0) dX8_paste_2 ml_X8_333 mv_X8_slotAt ⟨TX8, _, rfl⟩ (by decide) th0 rfl rfl ⟨by decide, by decide⟩ (Nat.le_of_ble_eq_true rfl) (fun v2 S1 hv2 => ?_)
  refine r_opt hv2 ?_ (fun b3 tb3 => ?_)
  · refine r_astoreN C [(6, .null), (0, .ref h0), (1, .int x1), (2, .int x2), (3, .int x3), (4, .int x4), (5, .int x5)] dX8_paste_5 (by decide) rfl ?_
    refine r_aload_n C 1 dX8_paste_7 rfl ?_
    refine r_iload_n C 4 dX8_paste_8 rfl ?_
    refine r_callV (As := [.int x3]) (rest := []) C (c_X8_slotAt _ E n h0 x3 th0) dX8_paste_9 ml_X8_333 mv_X8_slotAt ⟨TX8, _, rfl⟩ (by decide) th0 rfl rfl ⟨by decide, by decide⟩ (Nat.le_of_ble_eq_true rfl) (fun v5 S4 hv5 => ?_)
    refine r_opt hv5 ?_ (fun b6 tb6 => ?_)
    · refine r_astoreN C [(7, .null), (6, .null), (0, .ref h0), (1, .int x1), (2, .int x2), (3, .int x3), (4, .int x4), (5, .int x5)] dX8_paste_12 (by decide) rfl ?_
      refine r_aloadN C 1 dX8_paste_14 rfl ?_
      refine r_ifnullN C 24 dX8_paste_16 (by decide) ?_
      refine r_bipush C (-2 : Int32) dX8_paste_24 (by decide) ?_
      exact r_ireturn C X dX8_paste_26
    · refine r_astore C [(7, .ref b6), (6, .null), (0, .ref h0), (1, .int x1), (2, .int x2), (3, .int x3), (4, .int x4), (5, .int x5)] dX8_paste_12 (by decide) rfl ?_
      refine r_aloadN C 1 dX8_paste_14 rfl ?_
      refine r_ifnullN C 24 dX8_paste_16 (by decide) ?_
      refine r_bipush C (-2 : Int32) dX8_paste_24 (by decide) ?_
      exact r_ireturn C X dX8_paste_26
  · refine r_astore C [(6, .ref b3), (0, .ref h0), (1, .int x1), (2, .int x2), (3, .int x3), (4, .int x4), (5, .int x5)] dX8_paste_5 (by decide) rfl ?_
    refine r_aload_n C 1 dX8_paste_7 rfl ?_
    refine r_iload_n C 4 dX8_paste_8 rfl ?_
    refine r_callV (As := [.int x3]) (rest := []) C (c_X8_slotAt _ E n h0 x3 th0) dX8_paste_9 ml_X8_333 mv_X8_slotAt ⟨TX8, _, rfl⟩ (by decide) th0 rfl rfl ⟨by decide, by decide⟩ (Nat.le_of_ble_eq_true rfl) (fun v8 S7 hv8 => ?_)
    refine r_opt hv8 ?_ (fun b9 tb9 => ?_)
    · refine r_astoreN C [(7, .null), (6, .ref b3), (0, .ref h0), (1, .int x1), (2, .int x2), (3, .int x3), (4, .int x4), (5, .int x5)] dX8_paste_12 (by decide) rfl ?_
      refine r_aload C 1 dX8_paste_14 rfl ?_
      refine r_ifnull C dX8_paste_16 ?_
      refine r_aloadN C 0 dX8_paste_19 rfl ?_
      refine r_ifnonnullN C dX8_paste_21 ?_
      refine r_bipush C (-2 : Int32) dX8_paste_24 (by decide) ?_
      exact r_ireturn C X dX8_paste_26
    · refine r_astore C [(7, .ref b9), (6, .ref b3), (0, .ref h0), (1, .int x1), (2, .int x2), (3, .int x3), (4, .int x4), (5, .int x5)] dX8_paste_12 (by decide) rfl ?_
      refine r_aload C 1 dX8_paste_14 rfl ?_
      refine r_ifnull C dX8_paste_16 ?_
      refine r_aload C 0 dX8_paste_19 rfl ?_
      refine r_ifnonnull C 27 dX8_paste_21 (by decide) ?_
      refine r_aload C 1 dX8_paste_27 rfl ?_
      refine r_geti C fl_X8_326 dX8_paste_29 tb3 ?_
      refine r_iconst C (-1 : Int32) dX8_paste_32 (by decide) ?_
      refine r_icmp_eq C 45 dX8_paste_33 (by decide) ?_ ?_
      · refine r_bipush C (-6 : Int32) dX8_paste_45 (by decide) ?_
        exact r_ireturn C X dX8_paste_47
      · refine r_aload C 0 dX8_paste_36 rfl ?_
        refine r_geti C fl_X8_326 dX8_paste_38 tb9 ?_
        refine r_iconst C (-1 : Int32) dX8_paste_41 (by decide) ?_
        refine r_icmp_ne C 48 dX8_paste_42 (by decide) ?_ ?_
        · refine r_aload C 1 dX8_paste_48 rfl ?_
          refine r_geti C fl_X8_407 dX8_paste_50 tb3 ?_
          refine r_aload C 0 dX8_paste_53 rfl ?_
          refine r_geti C fl_X8_407 dX8_paste_55 tb9 ?_
          refine r_icmp_eq C 64 dX8_paste_58 (by decide) ?_ ?_
          · refine r_aload C 1 dX8_paste_64 rfl ?_
            refine r_iload_n C 4 dX8_paste_66 rfl ?_
            refine r_iload C 7 dX8_paste_67 rfl ?_
            refine r_callV (As := [.int x2, .int x5]) (rest := []) C (c_X6_holds _ E n b3 x2 x5 tb3) dX8_paste_69 ml_X8_420 mv_X6_holds ⟨TX6, _, rfl⟩ (by decide) tb3 rfl rfl ⟨by decide, by decide⟩ (Nat.le_of_ble_eq_true rfl) (fun v11 S10 hv11 => ?_)
            refine r_if_eq C 87 dX8_paste_72 (by decide) ?_ ?_
            · refine r_bipush C (-7 : Int32) dX8_paste_87 (by decide) ?_
              exact r_ireturn C X dX8_paste_89
            · refine r_aload C 0 dX8_paste_75 rfl ?_
              refine r_iload C 6 dX8_paste_77 rfl ?_
              refine r_iload C 7 dX8_paste_79 rfl ?_
              refine r_callV (As := [.int x4, .int x5]) (rest := []) C (c_X6_holds _ E n b9 x4 x5 tb9) dX8_paste_81 ml_X8_420 mv_X6_holds ⟨TX6, _, rfl⟩ (by decide) tb9 rfl rfl ⟨by decide, by decide⟩ (Nat.le_of_ble_eq_true rfl) (fun v13 S12 hv13 => ?_)
              refine r_if_ne C 90 dX8_paste_84 (by decide) ?_ ?_
              · refine r_aload C 1 dX8_paste_90 rfl ?_
                refine r_getr C fl_X8_410 dX8_paste_92 tb3 (fun b14 tb14 => ?_)
                refine r_iload_n C 4 dX8_paste_95 rfl ?_
                refine r_aload C 0 dX8_paste_96 rfl ?_
                refine r_getr C fl_X8_410 dX8_paste_98 tb9 (fun b15 tb15 => ?_)
                refine r_iload C 6 dX8_paste_101 rfl ?_
                refine r_iload C 7 dX8_paste_103 rfl ?_
                refine r_copyl C (mG 925 (by decide +kernel) rfl) mcopy_w ⟨by decide, by decide⟩ (Nat.le_of_ble_eq_true rfl) tb14 tb15 dX8_paste_105 (fun S16 => ?_)
                refine r_iconst C (0 : Int32) dX8_paste_108 (by decide) ?_
                exact r_ireturn C X dX8_paste_109
              · refine r_bipush C (-7 : Int32) dX8_paste_87 (by decide) ?_
                exact r_ireturn C X dX8_paste_89
          · refine r_bipush C (-8 : Int32) dX8_paste_61 (by decide) ?_
            exact r_ireturn C X dX8_paste_63
        · refine r_bipush C (-6 : Int32) dX8_paste_45 (by decide) ?_
          exact r_ireturn C X dX8_paste_47
set_option maxRecDepth 100000 in
set_option maxHeartbeats 4000000 in
theorem c_X8_copyRow (l : Launch) (E : EN) (n : Nat) (h0 : Nat) (h1 : Nat) (th0 : Ty E h0 10) (th1 : Ty E h1 10) : CT l E yX8_copyRow cX8_copyRow 2 none 1 30 wV tT [.ref h0, .ref h1] (fun S => f_X8_copyRow E n S h0 h1) := by
  refine ct_of RX8 (by decide +kernel) rfl [(0, .ref h0), (1, .ref h1)] rfl (Nat.le_of_ble_eq_true rfl) (fun A S hA C X => ?_)
  subst hA
  show Gd A E 2 (QM A E wV tT) (f_X8_copyRow E n S h0 h1) S 0 [(0, .ref h0), (1, .ref h1)] []
  unfold f_X8_copyRow
  refine r_aload_n C 0 dX8_copyRow_0 rfl ?_
  refine r_iconst C (0 : Int32) dX8_copyRow_1 (by decide) ?_
  refine r_aload_n C 1 dX8_copyRow_2 rfl ?_
  refine r_iconst C (0 : Int32) dX8_copyRow_3 (by decide) ?_
  refine r_aload_n C 0 dX8_copyRow_4 rfl ?_
  refine r_alen C (k := 10) rfl (by decide) dX8_copyRow_5 th0 ?_
  refine r_aload_n C 1 dX8_copyRow_6 rfl ?_
  refine r_alen C (k := 10) rfl (by decide) dX8_copyRow_7 th1 ?_
  refine r_mmin C (mG 924 (by decide +kernel) rfl) mmin_w ⟨by decide, by decide⟩ (Nat.le_of_ble_eq_true rfl) dX8_copyRow_8 ?_
  refine r_copyi C (mG 925 (by decide +kernel) rfl) mcopy_w ⟨by decide, by decide⟩ (Nat.le_of_ble_eq_true rfl) th0 th1 dX8_copyRow_11 (fun S1 => ?_)
  exact r_return C X dX8_copyRow_14
set_option maxRecDepth 100000 in
set_option maxHeartbeats 4000000 in
theorem c_X8_roundedUp (l : Launch) (E : EN) (n : Nat) (x0 : Int32) (x1 : Int32) : CT l E yX8_roundedUp cX8_roundedUp 2 (some .int) 0 0 wI tT [.int x0, .int x1] (fun S => f_X8_roundedUp E n S x0 x1) := by
  refine ct_of RX8 (by decide +kernel) rfl [(0, .int x0), (1, .int x1)] rfl (Nat.le_of_ble_eq_true rfl) (fun A S hA C X => ?_)
  subst hA
  show Gd A E 2 (QM A E wI tT) (f_X8_roundedUp E n S x0 x1) S 0 [(0, .int x0), (1, .int x1)] []
  unfold f_X8_roundedUp
  refine r_iload_n C 1 dX8_roundedUp_0 rfl ?_
  refine r_if_le C 14 dX8_roundedUp_1 (by decide) ?_ ?_
  · refine r_iconst C (0 : Int32) dX8_roundedUp_14 (by decide) ?_
    exact r_ireturn C X dX8_roundedUp_15
  · refine r_iload_n C 0 dX8_roundedUp_4 rfl ?_
    refine r_iload_n C 1 dX8_roundedUp_5 rfl ?_
    refine r_iadd C dX8_roundedUp_6 ?_
    refine r_iconst C (1 : Int32) dX8_roundedUp_7 (by decide) ?_
    refine r_isub C dX8_roundedUp_8 ?_
    refine r_iload_n C 1 dX8_roundedUp_9 rfl ?_
    refine r_idiv C dX8_roundedUp_10 ?_
    refine r_goto C 15 dX8_roundedUp_11 (by decide) ?_
    exact r_ireturn C X dX8_roundedUp_15
set_option maxRecDepth 100000 in
set_option maxHeartbeats 4000000 in
theorem c_X8_lacking (l : Launch) (E : EN) (n : Nat) (x0 : Int32) (x1 : Int32) (x2 : Int32) : CT l E yX8_lacking cX8_lacking 3 (some .int) 1 21 wI tT [.int x0, .int x1, .int x2] (fun S => f_X8_lacking E n S x0 x1 x2) := by
  refine ct_of RX8 (by decide +kernel) rfl [(0, .int x0), (1, .int x1), (2, .int x2)] rfl (Nat.le_of_ble_eq_true rfl) (fun A S hA C X => ?_)
  subst hA
  show Gd A E 3 (QM A E wI tT) (f_X8_lacking E n S x0 x1 x2) S 0 [(0, .int x0), (1, .int x1), (2, .int x2)] []
  unfold f_X8_lacking
  refine r_iload_n C 0 dX8_lacking_0 rfl ?_
  refine r_iload_n C 2 dX8_lacking_1 rfl ?_
  refine r_iload_n C 1 dX8_lacking_2 rfl ?_
  refine r_iconst C (1 : Int32) dX8_lacking_3 (by decide) ?_
  refine r_iadd C dX8_lacking_4 ?_
  refine r_imul C dX8_lacking_5 ?_
  refine r_icmp_gt C 11 dX8_lacking_6 (by decide) ?_ ?_
  · refine r_iload_n C 2 dX8_lacking_11 rfl ?_
    refine r_if_ne C 19 dX8_lacking_12 (by decide) ?_ ?_
    · refine r_iload_n C 0 dX8_lacking_19 rfl ?_
      refine r_iload_n C 2 dX8_lacking_20 rfl ?_
      refine r_callS (As := [.int x0, .int x2]) (rest := []) C (c_X8_roundedUp _ E n x0 x2 ) dX8_lacking_21 ml_X8_429 mv_X8_roundedUp rfl rfl ⟨by decide, by decide⟩ (Nat.le_of_ble_eq_true rfl) (fun v2 S1 hv2 => ?_)
      refine r_iconst C (1 : Int32) dX8_lacking_24 (by decide) ?_
      refine r_isub C dX8_lacking_25 ?_
      refine r_iload_n C 1 dX8_lacking_26 rfl ?_
      refine r_isub C dX8_lacking_27 ?_
      exact r_ireturn C X dX8_lacking_28
    · refine r_iconst C (-1 : Int32) dX8_lacking_15 (by decide) ?_
      refine r_goto C 28 dX8_lacking_16 (by decide) ?_
      exact r_ireturn C X dX8_lacking_28
  · refine r_iconst C (0 : Int32) dX8_lacking_9 (by decide) ?_
    exact r_ireturn C X dX8_lacking_10
set_option maxRecDepth 100000 in
set_option maxHeartbeats 4000000 in
theorem c_X9_in (l : Launch) (E : EN) (n : Nat) (x0 : Int64) (x2 : Int64) (x4 : Int64) : CT l E yX9_in cX9_in 6 (some .boolean) 0 0 wI tT [.long x0, .long x2, .long x4] (fun S => f_X9_in E n S x0 x2 x4) := by
  refine ct_of RX9 (by decide +kernel) rfl [(0, .long x0), (2, .long x2), (4, .long x4)] rfl (Nat.le_of_ble_eq_true rfl) (fun A S hA C X => ?_)
  subst hA
  show Gd A E 6 (QM A E wI tT) (f_X9_in E n S x0 x2 x4) S 0 [(0, .long x0), (2, .long x2), (4, .long x4)] []
  unfold f_X9_in
  refine r_lload_n C 0 dX9_in_0 rfl ?_
  refine r_lload_n C 1 dX9_in_1 rfl ?_
  refine r_lcmp C dX9_in_2 ?_
  refine r_if_lt C 17 dX9_in_3 (by decide) ?_ ?_
  · refine r_iconst C (0 : Int32) dX9_in_17 (by decide) ?_
    exact r_zreturn C X rfl dX9_in_18
  · refine r_lload_n C 0 dX9_in_6 rfl ?_
    refine r_lload C 2 dX9_in_7 rfl ?_
    refine r_lcmp C dX9_in_9 ?_
    refine r_if_gt C 17 dX9_in_10 (by decide) ?_ ?_
    · refine r_iconst C (0 : Int32) dX9_in_17 (by decide) ?_
      exact r_zreturn C X rfl dX9_in_18
    · refine r_iconst C (1 : Int32) dX9_in_13 (by decide) ?_
      refine r_goto C 18 dX9_in_14 (by decide) ?_
      exact r_zreturn C X rfl dX9_in_18
set_option maxRecDepth 100000 in
set_option maxHeartbeats 4000000 in
theorem p_X9_image_L17 {A : AM} {E : EN} {n : Nat} (C : Cx A E cX9_image 3 RX9 1 25) (X : Ex A E (some .int))  : ∀ (m : Nat) (S : WS) (h0 : Nat) (x1 : Int32) (x2 : Int32) (th0 : Ty E h0 8), Gd A E 3 (QM A E wI tT) (f_X9_image_L17 E n  m S h0 x1 x2) S 17 [(0, .ref h0), (1, .int x1), (2, .int x2)] [] := by
  intro m
  induction m with
  | zero => intros; exact gn
  | succ m ih =>
    intro S h0 x1 x2 th0
    unfold f_X9_image_L17
    refine r_iload_n C 2 dX9_image_17 rfl ?_
    refine r_bipush C (109 : Int32) dX9_image_18 (by decide) ?_
    refine r_icmp_ge C 46 dX9_image_20 (by decide) ?_ ?_
    · refine r_aload_n C 0 dX9_image_46 rfl ?_
      refine r_getr C fl_X9_16 dX9_image_47 th0 (fun b1 tb1 => ?_)
      refine r_iload_n C 1 dX9_image_50 rfl ?_
      refine r_iconst C (1 : Int32) dX9_image_51 (by decide) ?_
      refine r_zast C dX9_image_52 tb1 (fun S2 => ?_)
      refine r_iconst C (0 : Int32) dX9_image_53 (by decide) ?_
      exact r_ireturn C X dX9_image_54
    · refine r_aload_n C 0 dX9_image_23 rfl ?_
      refine r_getr C fl_X9_13 dX9_image_24 th0 (fun b3 tb3 => ?_)
      refine r_bipush C (109 : Int32) dX9_image_27 (by decide) ?_
      refine r_iload_n C 1 dX9_image_29 rfl ?_
      refine r_imul C dX9_image_30 ?_
      refine r_iload_n C 2 dX9_image_31 rfl ?_
      refine r_iadd C dX9_image_32 ?_
      refine r_aload_n C 0 dX9_image_33 rfl ?_
      refine r_getr C fl_X9_9 dX9_image_34 th0 (fun b4 tb4 => ?_)
      refine r_iload_n C 2 dX9_image_37 rfl ?_
      refine r_iald C dX9_image_38 tb4 ?_
      refine r_iast C dX9_image_39 tb3 (fun S5 => ?_)
      refine r_iinc C 2 (fun y6 => [(2, .int y6), (0, .ref h0), (1, .int x1)]) dX9_image_40 rfl (v := (1 : Int32)) (by decide) (by decide) (fun _ => rfl) (fun y6 => ?_)
      refine r_goto C 17 dX9_image_43 (by decide) ?_
      refine r_sub [1, 2, 0] [(0, .ref h0), (1, .int x1), (2, .int y6)] rfl ?_
      exact ih S5 h0 x1 y6 th0
set_option maxRecDepth 100000 in
set_option maxHeartbeats 4000000 in
theorem c_X9_image (l : Launch) (E : EN) (n : Nat) (h0 : Nat) (x1 : Int32) (th0 : Ty E h0 8) : CT l E yX9_image cX9_image 3 (some .int) 1 25 wI tT [.ref h0, .int x1] (fun S => f_X9_image E n S h0 x1) := by
  refine ct_of RX9 (by decide +kernel) rfl [(0, .ref h0), (1, .int x1)] rfl (Nat.le_of_ble_eq_true rfl) (fun A S hA C X => ?_)
  subst hA
  show Gd A E 3 (QM A E wI tT) (f_X9_image E n S h0 x1) S 0 [(0, .ref h0), (1, .int x1)] []
  unfold f_X9_image
  refine r_iload_n C 1 dX9_image_0 rfl ?_
  refine r_i2l C dX9_image_1 ?_
  refine r_lconst C (0 : Int64) dX9_image_2 (by decide) ?_
  refine r_ldc2 C (2 : Int64) (mG 1379 (by decide +kernel) rfl) dX9_image_3 ?_
  refine r_callS (As := [.long (x1.toInt64), .long (0 : Int64), .long (2 : Int64)]) (rest := []) C (c_X9_in _ E n (x1.toInt64) (0 : Int64) (2 : Int64) ) dX9_image_6 ml_X9_82 mv_X9_in rfl rfl ⟨by decide, by decide⟩ (Nat.le_of_ble_eq_true rfl) (fun v2 S1 hv2 => ?_)
  refine r_if_ne C 15 dX9_image_9 (by decide) ?_ ?_
  · refine r_iconst C (0 : Int32) dX9_image_15 (by decide) ?_
    refine r_istore_n C [(2, .int (0 : Int32)), (0, .ref h0), (1, .int x1)] dX9_image_16 (by decide) rfl ?_
    refine r_sub [1, 2, 0] [(0, .ref h0), (1, .int x1), (2, .int (0 : Int32))] rfl ?_
    exact p_X9_image_L17 C X  n S1 h0 x1 (0 : Int32) th0
  · refine r_bipush C (-2 : Int32) dX9_image_12 (by decide) ?_
    exact r_ireturn C X dX9_image_14
set_option maxRecDepth 100000 in
set_option maxHeartbeats 4000000 in
theorem p_X9_back_L29 {A : AM} {E : EN} {n : Nat} (C : Cx A E cX9_back 3 RX9 1 25) (X : Ex A E (some .int))  : ∀ (m : Nat) (S : WS) (h0 : Nat) (x1 : Int32) (x2 : Int32) (th0 : Ty E h0 8), Gd A E 3 (QM A E wI tT) (f_X9_back_L29 E n  m S h0 x1 x2) S 29 [(0, .ref h0), (1, .int x1), (2, .int x2)] [] := by
  intro m
  induction m with
  | zero => intros; exact gn
  | succ m ih =>
    intro S h0 x1 x2 th0
    unfold f_X9_back_L29
    refine r_iload_n C 2 dX9_back_29 rfl ?_
    refine r_bipush C (109 : Int32) dX9_back_30 (by decide) ?_
    refine r_icmp_ge C 58 dX9_back_32 (by decide) ?_ ?_
    · refine r_iconst C (0 : Int32) dX9_back_58 (by decide) ?_
      exact r_ireturn C X dX9_back_59
    · refine r_aload_n C 0 dX9_back_35 rfl ?_
      refine r_getr C fl_X9_9 dX9_back_36 th0 (fun b1 tb1 => ?_)
      refine r_iload_n C 2 dX9_back_39 rfl ?_
      refine r_aload_n C 0 dX9_back_40 rfl ?_
      refine r_getr C fl_X9_13 dX9_back_41 th0 (fun b2 tb2 => ?_)
      refine r_bipush C (109 : Int32) dX9_back_44 (by decide) ?_
      refine r_iload_n C 1 dX9_back_46 rfl ?_
      refine r_imul C dX9_back_47 ?_
      refine r_iload_n C 2 dX9_back_48 rfl ?_
      refine r_iadd C dX9_back_49 ?_
      refine r_iald C dX9_back_50 tb2 ?_
      refine r_iast C dX9_back_51 tb1 (fun S3 => ?_)
      refine r_iinc C 2 (fun y4 => [(2, .int y4), (0, .ref h0), (1, .int x1)]) dX9_back_52 rfl (v := (1 : Int32)) (by decide) (by decide) (fun _ => rfl) (fun y4 => ?_)
      refine r_goto C 29 dX9_back_55 (by decide) ?_
      refine r_sub [1, 2, 0] [(0, .ref h0), (1, .int x1), (2, .int y4)] rfl ?_
      exact ih S3 h0 x1 y4 th0
set_option maxRecDepth 100000 in
set_option maxHeartbeats 4000000 in
theorem c_X9_back (l : Launch) (E : EN) (n : Nat) (h0 : Nat) (x1 : Int32) (th0 : Ty E h0 8) : CT l E yX9_back cX9_back 3 (some .int) 1 25 wI tT [.ref h0, .int x1] (fun S => f_X9_back E n S h0 x1) := by
  refine ct_of RX9 (by decide +kernel) rfl [(0, .ref h0), (1, .int x1)] rfl (Nat.le_of_ble_eq_true rfl) (fun A S hA C X => ?_)
  subst hA
  show Gd A E 3 (QM A E wI tT) (f_X9_back E n S h0 x1) S 0 [(0, .ref h0), (1, .int x1)] []
  unfold f_X9_back
  refine r_iload_n C 1 dX9_back_0 rfl ?_
  refine r_i2l C dX9_back_1 ?_
  refine r_lconst C (0 : Int64) dX9_back_2 (by decide) ?_
  refine r_ldc2 C (2 : Int64) (mG 1379 (by decide +kernel) rfl) dX9_back_3 ?_
  refine r_callS (As := [.long (x1.toInt64), .long (0 : Int64), .long (2 : Int64)]) (rest := []) C (c_X9_in _ E n (x1.toInt64) (0 : Int64) (2 : Int64) ) dX9_back_6 ml_X9_82 mv_X9_in rfl rfl ⟨by decide, by decide⟩ (Nat.le_of_ble_eq_true rfl) (fun v2 S1 hv2 => ?_)
  refine r_if_ne C 15 dX9_back_9 (by decide) ?_ ?_
  · refine r_aload_n C 0 dX9_back_15 rfl ?_
    refine r_getr C fl_X9_16 dX9_back_16 th0 (fun b3 tb3 => ?_)
    refine r_iload_n C 1 dX9_back_19 rfl ?_
    refine r_zald C dX9_back_20 tb3 ?_
    refine r_if_ne C 27 dX9_back_21 (by decide) ?_ ?_
    · refine r_iconst C (0 : Int32) dX9_back_27 (by decide) ?_
      refine r_istore_n C [(2, .int (0 : Int32)), (0, .ref h0), (1, .int x1)] dX9_back_28 (by decide) rfl ?_
      refine r_sub [1, 2, 0] [(0, .ref h0), (1, .int x1), (2, .int (0 : Int32))] rfl ?_
      exact p_X9_back_L29 C X  n S1 h0 x1 (0 : Int32) th0
    · refine r_bipush C (-6 : Int32) dX9_back_24 (by decide) ?_
      exact r_ireturn C X dX9_back_26
  · refine r_bipush C (-2 : Int32) dX9_back_12 (by decide) ?_
    exact r_ireturn C X dX9_back_14
set_option maxRecDepth 100000 in
set_option maxHeartbeats 4000000 in
theorem c_X9_isMountain (l : Launch) (E : EN) (n : Nat) (h0 : Nat) (th0 : Ty E h0 8) : CT l E yX9_isMountain cX9_isMountain 1 (some .boolean) 0 0 wI tT [.ref h0] (fun S => f_X9_isMountain E n S h0) := by
  refine ct_of RX9 (by decide +kernel) rfl [(0, .ref h0)] rfl (Nat.le_of_ble_eq_true rfl) (fun A S hA C X => ?_)
  subst hA
  show Gd A E 1 (QM A E wI tT) (f_X9_isMountain E n S h0) S 0 [(0, .ref h0)] []
  unfold f_X9_isMountain
  refine r_aload_n C 0 dX9_isMountain_0 rfl ?_
  refine r_getr C fl_X9_9 dX9_isMountain_1 th0 (fun b1 tb1 => ?_)
  refine r_iconst C (0 : Int32) dX9_isMountain_4 (by decide) ?_
  refine r_iald C dX9_isMountain_5 tb1 ?_
  refine r_if_le C 13 dX9_isMountain_6 (by decide) ?_ ?_
  · refine r_iconst C (0 : Int32) dX9_isMountain_13 (by decide) ?_
    exact r_zreturn C X rfl dX9_isMountain_14
  · refine r_iconst C (1 : Int32) dX9_isMountain_9 (by decide) ?_
    refine r_goto C 14 dX9_isMountain_10 (by decide) ?_
    exact r_zreturn C X rfl dX9_isMountain_14
set_option maxRecDepth 100000 in
set_option maxHeartbeats 4000000 in
theorem c_X9_places (l : Launch) (E : EN) (n : Nat) (h0 : Nat) (th0 : Ty E h0 8) : CT l E yX9_places cX9_places 1 (some .int) 0 0 wI tT [.ref h0] (fun S => f_X9_places E n S h0) := by
  refine ct_of RX9 (by decide +kernel) rfl [(0, .ref h0)] rfl (Nat.le_of_ble_eq_true rfl) (fun A S hA C X => ?_)
  subst hA
  show Gd A E 1 (QM A E wI tT) (f_X9_places E n S h0) S 0 [(0, .ref h0)] []
  unfold f_X9_places
  refine r_aload_n C 0 dX9_places_0 rfl ?_
  refine r_getr C fl_X9_9 dX9_places_1 th0 (fun b1 tb1 => ?_)
  refine r_iconst C (0 : Int32) dX9_places_4 (by decide) ?_
  refine r_iald C dX9_places_5 tb1 ?_
  exact r_ireturn C X dX9_places_6
set_option maxRecDepth 100000 in
set_option maxHeartbeats 4000000 in
theorem c_X9_isPlace (l : Launch) (E : EN) (n : Nat) (h0 : Nat) (x1 : Int32) (th0 : Ty E h0 8) : CT l E yX9_isPlace cX9_isPlace 2 (some .boolean) 1 25 wI tT [.ref h0, .int x1] (fun S => f_X9_isPlace E n S h0 x1) := by
  refine ct_of RX9 (by decide +kernel) rfl [(0, .ref h0), (1, .int x1)] rfl (Nat.le_of_ble_eq_true rfl) (fun A S hA C X => ?_)
  subst hA
  show Gd A E 2 (QM A E wI tT) (f_X9_isPlace E n S h0 x1) S 0 [(0, .ref h0), (1, .int x1)] []
  unfold f_X9_isPlace
  refine r_iload_n C 1 dX9_isPlace_0 rfl ?_
  refine r_i2l C dX9_isPlace_1 ?_
  refine r_lconst C (0 : Int64) dX9_isPlace_2 (by decide) ?_
  refine r_aload_n C 0 dX9_isPlace_3 rfl ?_
  refine r_callV (As := []) (rest := [.long (0 : Int64), .long (x1.toInt64)]) C (c_X9_places _ E n h0 th0) dX9_isPlace_4 ml_X9_86 mv_X9_places ⟨TX9, _, rfl⟩ (by decide) th0 rfl rfl ⟨by decide, by decide⟩ (Nat.le_of_ble_eq_true rfl) (fun v2 S1 hv2 => ?_)
  refine r_iconst C (1 : Int32) dX9_isPlace_7 (by decide) ?_
  refine r_isub C dX9_isPlace_8 ?_
  refine r_i2l C dX9_isPlace_9 ?_
  refine r_callS (As := [.long (x1.toInt64), .long (0 : Int64), .long ((v2 - (1 : Int32)).toInt64)]) (rest := []) C (c_X9_in _ E n (x1.toInt64) (0 : Int64) ((v2 - (1 : Int32)).toInt64) ) dX9_isPlace_10 ml_X9_82 mv_X9_in rfl rfl ⟨by decide, by decide⟩ (Nat.le_of_ble_eq_true rfl) (fun v4 S3 hv4 => ?_)
  exact r_zreturnc C X dX9_isPlace_13
set_option maxRecDepth 100000 in
set_option maxHeartbeats 4000000 in
theorem c_X9_isYear (l : Launch) (E : EN) (n : Nat) (h0 : Nat) (x1 : Int64) (th0 : Ty E h0 8) : CT l E yX9_isYear cX9_isYear 3 (some .boolean) 1 25 wI tT [.ref h0, .long x1] (fun S => f_X9_isYear E n S h0 x1) := by
  refine ct_of RX9 (by decide +kernel) rfl [(0, .ref h0), (1, .long x1)] rfl (Nat.le_of_ble_eq_true rfl) (fun A S hA C X => ?_)
  subst hA
  show Gd A E 3 (QM A E wI tT) (f_X9_isYear E n S h0 x1) S 0 [(0, .ref h0), (1, .long x1)] []
  unfold f_X9_isYear
  refine r_lload_n C 1 dX9_isYear_0 rfl ?_
  refine r_lconst C (0 : Int64) dX9_isYear_1 (by decide) ?_
  refine r_aload_n C 0 dX9_isYear_2 rfl ?_
  refine r_getr C fl_X9_9 dX9_isYear_3 th0 (fun b1 tb1 => ?_)
  refine r_iconst C (1 : Int32) dX9_isYear_6 (by decide) ?_
  refine r_iald C dX9_isYear_7 tb1 ?_
  refine r_iconst C (1 : Int32) dX9_isYear_8 (by decide) ?_
  refine r_isub C dX9_isYear_9 ?_
  refine r_i2l C dX9_isYear_10 ?_
  refine r_callS (As := [.long x1, .long (0 : Int64), .long (((ai S b1 (1 : Int32).toNatClampNeg) - (1 : Int32)).toInt64)]) (rest := []) C (c_X9_in _ E n x1 (0 : Int64) (((ai S b1 (1 : Int32).toNatClampNeg) - (1 : Int32)).toInt64) ) dX9_isYear_11 ml_X9_82 mv_X9_in rfl rfl ⟨by decide, by decide⟩ (Nat.le_of_ble_eq_true rfl) (fun v3 S2 hv3 => ?_)
  exact r_zreturnc C X dX9_isYear_14
set_option maxRecDepth 100000 in
set_option maxHeartbeats 4000000 in
theorem c_X9_isPath (l : Launch) (E : EN) (n : Nat) (h0 : Nat) (x1 : Int64) (th0 : Ty E h0 8) : CT l E yX9_isPath cX9_isPath 3 (some .boolean) 1 25 wI tT [.ref h0, .long x1] (fun S => f_X9_isPath E n S h0 x1) := by
  refine ct_of RX9 (by decide +kernel) rfl [(0, .ref h0), (1, .long x1)] rfl (Nat.le_of_ble_eq_true rfl) (fun A S hA C X => ?_)
  subst hA
  show Gd A E 3 (QM A E wI tT) (f_X9_isPath E n S h0 x1) S 0 [(0, .ref h0), (1, .long x1)] []
  unfold f_X9_isPath
  refine r_lload_n C 1 dX9_isPath_0 rfl ?_
  refine r_lconst C (0 : Int64) dX9_isPath_1 (by decide) ?_
  refine r_aload_n C 0 dX9_isPath_2 rfl ?_
  refine r_getr C fl_X9_9 dX9_isPath_3 th0 (fun b1 tb1 => ?_)
  refine r_iconst C (2 : Int32) dX9_isPath_6 (by decide) ?_
  refine r_iald C dX9_isPath_7 tb1 ?_
  refine r_iconst C (1 : Int32) dX9_isPath_8 (by decide) ?_
  refine r_isub C dX9_isPath_9 ?_
  refine r_i2l C dX9_isPath_10 ?_
  refine r_callS (As := [.long x1, .long (0 : Int64), .long (((ai S b1 (2 : Int32).toNatClampNeg) - (1 : Int32)).toInt64)]) (rest := []) C (c_X9_in _ E n x1 (0 : Int64) (((ai S b1 (2 : Int32).toNatClampNeg) - (1 : Int32)).toInt64) ) dX9_isPath_11 ml_X9_82 mv_X9_in rfl rfl ⟨by decide, by decide⟩ (Nat.le_of_ble_eq_true rfl) (fun v3 S2 hv3 => ?_)
  exact r_zreturnc C X dX9_isPath_14
set_option maxRecDepth 100000 in
set_option maxHeartbeats 4000000 in
theorem c_X9_isBride (l : Launch) (E : EN) (n : Nat) (h0 : Nat) (x1 : Int32) (th0 : Ty E h0 8) : CT l E yX9_isBride cX9_isBride 2 (some .boolean) 1 25 wI tT [.ref h0, .int x1] (fun S => f_X9_isBride E n S h0 x1) := by
  refine ct_of RX9 (by decide +kernel) rfl [(0, .ref h0), (1, .int x1)] rfl (Nat.le_of_ble_eq_true rfl) (fun A S hA C X => ?_)
  subst hA
  show Gd A E 2 (QM A E wI tT) (f_X9_isBride E n S h0 x1) S 0 [(0, .ref h0), (1, .int x1)] []
  unfold f_X9_isBride
  refine r_iload_n C 1 dX9_isBride_0 rfl ?_
  refine r_i2l C dX9_isBride_1 ?_
  refine r_lconst C (0 : Int64) dX9_isBride_2 (by decide) ?_
  refine r_aload_n C 0 dX9_isBride_3 rfl ?_
  refine r_getr C fl_X9_9 dX9_isBride_4 th0 (fun b1 tb1 => ?_)
  refine r_iconst C (3 : Int32) dX9_isBride_7 (by decide) ?_
  refine r_iald C dX9_isBride_8 tb1 ?_
  refine r_iconst C (1 : Int32) dX9_isBride_9 (by decide) ?_
  refine r_isub C dX9_isBride_10 ?_
  refine r_i2l C dX9_isBride_11 ?_
  refine r_callS (As := [.long (x1.toInt64), .long (0 : Int64), .long (((ai S b1 (3 : Int32).toNatClampNeg) - (1 : Int32)).toInt64)]) (rest := []) C (c_X9_in _ E n (x1.toInt64) (0 : Int64) (((ai S b1 (3 : Int32).toNatClampNeg) - (1 : Int32)).toInt64) ) dX9_isBride_12 ml_X9_82 mv_X9_in rfl rfl ⟨by decide, by decide⟩ (Nat.le_of_ble_eq_true rfl) (fun v3 S2 hv3 => ?_)
  exact r_zreturnc C X dX9_isBride_15
set_option maxRecDepth 100000 in
set_option maxHeartbeats 4000000 in
theorem c_X9_isSuitor (l : Launch) (E : EN) (n : Nat) (h0 : Nat) (x1 : Int32) (th0 : Ty E h0 8) : CT l E yX9_isSuitor cX9_isSuitor 2 (some .boolean) 1 25 wI tT [.ref h0, .int x1] (fun S => f_X9_isSuitor E n S h0 x1) := by
  refine ct_of RX9 (by decide +kernel) rfl [(0, .ref h0), (1, .int x1)] rfl (Nat.le_of_ble_eq_true rfl) (fun A S hA C X => ?_)
  subst hA
  show Gd A E 2 (QM A E wI tT) (f_X9_isSuitor E n S h0 x1) S 0 [(0, .ref h0), (1, .int x1)] []
  unfold f_X9_isSuitor
  refine r_iload_n C 1 dX9_isSuitor_0 rfl ?_
  refine r_i2l C dX9_isSuitor_1 ?_
  refine r_lconst C (0 : Int64) dX9_isSuitor_2 (by decide) ?_
  refine r_aload_n C 0 dX9_isSuitor_3 rfl ?_
  refine r_getr C fl_X9_9 dX9_isSuitor_4 th0 (fun b1 tb1 => ?_)
  refine r_iconst C (4 : Int32) dX9_isSuitor_7 (by decide) ?_
  refine r_iald C dX9_isSuitor_8 tb1 ?_
  refine r_iconst C (1 : Int32) dX9_isSuitor_9 (by decide) ?_
  refine r_isub C dX9_isSuitor_10 ?_
  refine r_i2l C dX9_isSuitor_11 ?_
  refine r_callS (As := [.long (x1.toInt64), .long (0 : Int64), .long (((ai S b1 (4 : Int32).toNatClampNeg) - (1 : Int32)).toInt64)]) (rest := []) C (c_X9_in _ E n (x1.toInt64) (0 : Int64) (((ai S b1 (4 : Int32).toNatClampNeg) - (1 : Int32)).toInt64) ) dX9_isSuitor_12 ml_X9_82 mv_X9_in rfl rfl ⟨by decide, by decide⟩ (Nat.le_of_ble_eq_true rfl) (fun v3 S2 hv3 => ?_)
  exact r_zreturnc C X dX9_isSuitor_15
set_option maxRecDepth 100000 in
set_option maxHeartbeats 4000000 in
theorem c_X9_isWalker (l : Launch) (E : EN) (n : Nat) (h0 : Nat) (x1 : Int32) (th0 : Ty E h0 8) : CT l E yX9_isWalker cX9_isWalker 2 (some .boolean) 1 25 wI tT [.ref h0, .int x1] (fun S => f_X9_isWalker E n S h0 x1) := by
  refine ct_of RX9 (by decide +kernel) rfl [(0, .ref h0), (1, .int x1)] rfl (Nat.le_of_ble_eq_true rfl) (fun A S hA C X => ?_)
  subst hA
  show Gd A E 2 (QM A E wI tT) (f_X9_isWalker E n S h0 x1) S 0 [(0, .ref h0), (1, .int x1)] []
  unfold f_X9_isWalker
  refine r_iload_n C 1 dX9_isWalker_0 rfl ?_
  refine r_i2l C dX9_isWalker_1 ?_
  refine r_lconst C (0 : Int64) dX9_isWalker_2 (by decide) ?_
  refine r_aload_n C 0 dX9_isWalker_3 rfl ?_
  refine r_getr C fl_X9_9 dX9_isWalker_4 th0 (fun b1 tb1 => ?_)
  refine r_iconst C (5 : Int32) dX9_isWalker_7 (by decide) ?_
  refine r_iald C dX9_isWalker_8 tb1 ?_
  refine r_iconst C (1 : Int32) dX9_isWalker_9 (by decide) ?_
  refine r_isub C dX9_isWalker_10 ?_
  refine r_i2l C dX9_isWalker_11 ?_
  refine r_callS (As := [.long (x1.toInt64), .long (0 : Int64), .long (((ai S b1 (5 : Int32).toNatClampNeg) - (1 : Int32)).toInt64)]) (rest := []) C (c_X9_in _ E n (x1.toInt64) (0 : Int64) (((ai S b1 (5 : Int32).toNatClampNeg) - (1 : Int32)).toInt64) ) dX9_isWalker_12 ml_X9_82 mv_X9_in rfl rfl ⟨by decide, by decide⟩ (Nat.le_of_ble_eq_true rfl) (fun v3 S2 hv3 => ?_)
  exact r_zreturnc C X dX9_isWalker_15
set_option maxRecDepth 100000 in
set_option maxHeartbeats 4000000 in
theorem c_X9_endOf (l : Launch) (E : EN) (n : Nat) (h0 : Nat) (x1 : Int32) (x2 : Int32) (th0 : Ty E h0 8) : CT l E yX9_endOf cX9_endOf 3 (some .int) 0 0 wI tT [.ref h0, .int x1, .int x2] (fun S => f_X9_endOf E n S h0 x1 x2) := by
  refine ct_of RX9 (by decide +kernel) rfl [(0, .ref h0), (1, .int x1), (2, .int x2)] rfl (Nat.le_of_ble_eq_true rfl) (fun A S hA C X => ?_)
  subst hA
  show Gd A E 3 (QM A E wI tT) (f_X9_endOf E n S h0 x1 x2) S 0 [(0, .ref h0), (1, .int x1), (2, .int x2)] []
  unfold f_X9_endOf
  refine r_aload_n C 0 dX9_endOf_0 rfl ?_
  refine r_getr C fl_X9_9 dX9_endOf_1 th0 (fun b1 tb1 => ?_)
  refine r_bipush C (45 : Int32) dX9_endOf_4 (by decide) ?_
  refine r_iconst C (2 : Int32) dX9_endOf_6 (by decide) ?_
  refine r_iload_n C 1 dX9_endOf_7 rfl ?_
  refine r_imul C dX9_endOf_8 ?_
  refine r_iadd C dX9_endOf_9 ?_
  refine r_iload_n C 2 dX9_endOf_10 rfl ?_
  refine r_iadd C dX9_endOf_11 ?_
  refine r_iald C dX9_endOf_12 tb1 ?_
  exact r_ireturn C X dX9_endOf_13
set_option maxRecDepth 100000 in
set_option maxHeartbeats 4000000 in
theorem c_X9_dropOf (l : Launch) (E : EN) (n : Nat) (h0 : Nat) (x1 : Int32) (th0 : Ty E h0 8) : CT l E yX9_dropOf cX9_dropOf 2 (some .int) 1 22 wI tT [.ref h0, .int x1] (fun S => f_X9_dropOf E n S h0 x1) := by
  refine ct_of RX9 (by decide +kernel) rfl [(0, .ref h0), (1, .int x1)] rfl (Nat.le_of_ble_eq_true rfl) (fun A S hA C X => ?_)
  subst hA
  show Gd A E 2 (QM A E wI tT) (f_X9_dropOf E n S h0 x1) S 0 [(0, .ref h0), (1, .int x1)] []
  unfold f_X9_dropOf
  refine r_aload_n C 0 dX9_dropOf_0 rfl ?_
  refine r_getr C fl_X9_9 dX9_dropOf_1 th0 (fun b1 tb1 => ?_)
  refine r_bipush C (7 : Int32) dX9_dropOf_4 (by decide) ?_
  refine r_aload_n C 0 dX9_dropOf_6 rfl ?_
  refine r_iload_n C 1 dX9_dropOf_7 rfl ?_
  refine r_iconst C (0 : Int32) dX9_dropOf_8 (by decide) ?_
  refine r_callV (As := [.int x1, .int (0 : Int32)]) (rest := [.int (7 : Int32), .ref b1]) C (c_X9_endOf _ E n h0 x1 (0 : Int32) th0) dX9_dropOf_9 ml_X9_90 mv_X9_endOf ⟨TX9, _, rfl⟩ (by decide) th0 rfl rfl ⟨by decide, by decide⟩ (Nat.le_of_ble_eq_true rfl) (fun v3 S2 hv3 => ?_)
  refine r_iadd C dX9_dropOf_12 ?_
  refine r_iald C dX9_dropOf_13 tb1 ?_
  refine r_aload_n C 0 dX9_dropOf_14 rfl ?_
  refine r_getr C fl_X9_9 dX9_dropOf_15 th0 (fun b4 tb4 => ?_)
  refine r_bipush C (7 : Int32) dX9_dropOf_18 (by decide) ?_
  refine r_aload_n C 0 dX9_dropOf_20 rfl ?_
  refine r_iload_n C 1 dX9_dropOf_21 rfl ?_
  refine r_iconst C (1 : Int32) dX9_dropOf_22 (by decide) ?_
  refine r_callV (As := [.int x1, .int (1 : Int32)]) (rest := [.int (7 : Int32), .ref b4, .int (ai S2 b1 ((7 : Int32) + v3).toNatClampNeg)]) C (c_X9_endOf _ E n h0 x1 (1 : Int32) th0) dX9_dropOf_23 ml_X9_90 mv_X9_endOf ⟨TX9, _, rfl⟩ (by decide) th0 rfl rfl ⟨by decide, by decide⟩ (Nat.le_of_ble_eq_true rfl) (fun v6 S5 hv6 => ?_)
  refine r_iadd C dX9_dropOf_26 ?_
  refine r_iald C dX9_dropOf_27 tb4 ?_
  refine r_isub C dX9_dropOf_28 ?_
  refine r_mabs C (mG 1517 (by decide +kernel) rfl) mabs_w ⟨by decide, by decide⟩ (Nat.le_of_ble_eq_true rfl) dX9_dropOf_29 ?_
  exact r_ireturn C X dX9_dropOf_32
set_option maxRecDepth 100000 in
set_option maxHeartbeats 4000000 in
theorem c_X9_pathOf (l : Launch) (E : EN) (n : Nat) (h0 : Nat) (x1 : Int32) (th0 : Ty E h0 8) : CT l E yX9_pathOf cX9_pathOf 2 (some .int) 0 0 wI tT [.ref h0, .int x1] (fun S => f_X9_pathOf E n S h0 x1) := by
  refine ct_of RX9 (by decide +kernel) rfl [(0, .ref h0), (1, .int x1)] rfl (Nat.le_of_ble_eq_true rfl) (fun A S hA C X => ?_)
  subst hA
  show Gd A E 2 (QM A E wI tT) (f_X9_pathOf E n S h0 x1) S 0 [(0, .ref h0), (1, .int x1)] []
  unfold f_X9_pathOf
  refine r_aload_n C 0 dX9_pathOf_0 rfl ?_
  refine r_getr C fl_X9_9 dX9_pathOf_1 th0 (fun b1 tb1 => ?_)
  refine r_bipush C (65 : Int32) dX9_pathOf_4 (by decide) ?_
  refine r_iconst C (2 : Int32) dX9_pathOf_6 (by decide) ?_
  refine r_iload_n C 1 dX9_pathOf_7 rfl ?_
  refine r_imul C dX9_pathOf_8 ?_
  refine r_iadd C dX9_pathOf_9 ?_
  refine r_iald C dX9_pathOf_10 tb1 ?_
  exact r_ireturn C X dX9_pathOf_11
set_option maxRecDepth 100000 in
set_option maxHeartbeats 4000000 in
theorem c_X9_yearOf (l : Launch) (E : EN) (n : Nat) (h0 : Nat) (x1 : Int32) (th0 : Ty E h0 8) : CT l E yX9_yearOf cX9_yearOf 2 (some .int) 0 0 wI tT [.ref h0, .int x1] (fun S => f_X9_yearOf E n S h0 x1) := by
  refine ct_of RX9 (by decide +kernel) rfl [(0, .ref h0), (1, .int x1)] rfl (Nat.le_of_ble_eq_true rfl) (fun A S hA C X => ?_)
  subst hA
  show Gd A E 2 (QM A E wI tT) (f_X9_yearOf E n S h0 x1) S 0 [(0, .ref h0), (1, .int x1)] []
  unfold f_X9_yearOf
  refine r_aload_n C 0 dX9_yearOf_0 rfl ?_
  refine r_getr C fl_X9_9 dX9_yearOf_1 th0 (fun b1 tb1 => ?_)
  refine r_bipush C (65 : Int32) dX9_yearOf_4 (by decide) ?_
  refine r_iconst C (2 : Int32) dX9_yearOf_6 (by decide) ?_
  refine r_iload_n C 1 dX9_yearOf_7 rfl ?_
  refine r_imul C dX9_yearOf_8 ?_
  refine r_iadd C dX9_yearOf_9 ?_
  refine r_iconst C (1 : Int32) dX9_yearOf_10 (by decide) ?_
  refine r_iadd C dX9_yearOf_11 ?_
  refine r_iald C dX9_yearOf_12 tb1 ?_
  exact r_ireturn C X dX9_yearOf_13
set_option maxRecDepth 100000 in
set_option maxHeartbeats 4000000 in
theorem c_X9_skillOf (l : Launch) (E : EN) (n : Nat) (h0 : Nat) (x1 : Int32) (th0 : Ty E h0 8) : CT l E yX9_skillOf cX9_skillOf 2 (some .int) 0 0 wI tT [.ref h0, .int x1] (fun S => f_X9_skillOf E n S h0 x1) := by
  refine ct_of RX9 (by decide +kernel) rfl [(0, .ref h0), (1, .int x1)] rfl (Nat.le_of_ble_eq_true rfl) (fun A S hA C X => ?_)
  subst hA
  show Gd A E 2 (QM A E wI tT) (f_X9_skillOf E n S h0 x1) S 0 [(0, .ref h0), (1, .int x1)] []
  unfold f_X9_skillOf
  refine r_aload_n C 0 dX9_skillOf_0 rfl ?_
  refine r_getr C fl_X9_9 dX9_skillOf_1 th0 (fun b1 tb1 => ?_)
  refine r_bipush C (73 : Int32) dX9_skillOf_4 (by decide) ?_
  refine r_iconst C (3 : Int32) dX9_skillOf_6 (by decide) ?_
  refine r_iload_n C 1 dX9_skillOf_7 rfl ?_
  refine r_imul C dX9_skillOf_8 ?_
  refine r_iadd C dX9_skillOf_9 ?_
  refine r_iald C dX9_skillOf_10 tb1 ?_
  exact r_ireturn C X dX9_skillOf_11
set_option maxRecDepth 100000 in
set_option maxHeartbeats 4000000 in
theorem c_X9_spiteOf (l : Launch) (E : EN) (n : Nat) (h0 : Nat) (x1 : Int32) (th0 : Ty E h0 8) : CT l E yX9_spiteOf cX9_spiteOf 2 (some .int) 0 0 wI tT [.ref h0, .int x1] (fun S => f_X9_spiteOf E n S h0 x1) := by
  refine ct_of RX9 (by decide +kernel) rfl [(0, .ref h0), (1, .int x1)] rfl (Nat.le_of_ble_eq_true rfl) (fun A S hA C X => ?_)
  subst hA
  show Gd A E 2 (QM A E wI tT) (f_X9_spiteOf E n S h0 x1) S 0 [(0, .ref h0), (1, .int x1)] []
  unfold f_X9_spiteOf
  refine r_aload_n C 0 dX9_spiteOf_0 rfl ?_
  refine r_getr C fl_X9_9 dX9_spiteOf_1 th0 (fun b1 tb1 => ?_)
  refine r_bipush C (73 : Int32) dX9_spiteOf_4 (by decide) ?_
  refine r_iconst C (3 : Int32) dX9_spiteOf_6 (by decide) ?_
  refine r_iload_n C 1 dX9_spiteOf_7 rfl ?_
  refine r_imul C dX9_spiteOf_8 ?_
  refine r_iadd C dX9_spiteOf_9 ?_
  refine r_iconst C (1 : Int32) dX9_spiteOf_10 (by decide) ?_
  refine r_iadd C dX9_spiteOf_11 ?_
  refine r_iald C dX9_spiteOf_12 tb1 ?_
  exact r_ireturn C X dX9_spiteOf_13
set_option maxRecDepth 100000 in
set_option maxHeartbeats 4000000 in
theorem c_X9_isFor (l : Launch) (E : EN) (n : Nat) (h0 : Nat) (x1 : Int32) (x2 : Int32) (th0 : Ty E h0 8) : CT l E yX9_isFor cX9_isFor 3 (some .boolean) 0 0 wI tT [.ref h0, .int x1, .int x2] (fun S => f_X9_isFor E n S h0 x1 x2) := by
  refine ct_of RX9 (by decide +kernel) rfl [(0, .ref h0), (1, .int x1), (2, .int x2)] rfl (Nat.le_of_ble_eq_true rfl) (fun A S hA C X => ?_)
  subst hA
  show Gd A E 3 (QM A E wI tT) (f_X9_isFor E n S h0 x1 x2) S 0 [(0, .ref h0), (1, .int x1), (2, .int x2)] []
  unfold f_X9_isFor
  refine r_aload_n C 0 dX9_isFor_0 rfl ?_
  refine r_getr C fl_X9_9 dX9_isFor_1 th0 (fun b1 tb1 => ?_)
  refine r_bipush C (73 : Int32) dX9_isFor_4 (by decide) ?_
  refine r_iconst C (3 : Int32) dX9_isFor_6 (by decide) ?_
  refine r_iload_n C 1 dX9_isFor_7 rfl ?_
  refine r_imul C dX9_isFor_8 ?_
  refine r_iadd C dX9_isFor_9 ?_
  refine r_iconst C (2 : Int32) dX9_isFor_10 (by decide) ?_
  refine r_iadd C dX9_isFor_11 ?_
  refine r_iald C dX9_isFor_12 tb1 ?_
  refine r_iload_n C 2 dX9_isFor_13 rfl ?_
  refine r_ishr C dX9_isFor_14 ?_
  refine r_iconst C (1 : Int32) dX9_isFor_15 (by decide) ?_
  refine r_iand C dX9_isFor_16 ?_
  refine r_iconst C (1 : Int32) dX9_isFor_17 (by decide) ?_
  refine r_icmp_ne C 25 dX9_isFor_18 (by decide) ?_ ?_
  · refine r_iconst C (0 : Int32) dX9_isFor_25 (by decide) ?_
    exact r_zreturn C X rfl dX9_isFor_26
  · refine r_iconst C (1 : Int32) dX9_isFor_21 (by decide) ?_
    refine r_goto C 26 dX9_isFor_22 (by decide) ?_
    exact r_zreturn C X rfl dX9_isFor_26
set_option maxRecDepth 100000 in
set_option maxHeartbeats 4000000 in
theorem c_X9_leapOf (l : Launch) (E : EN) (n : Nat) (h0 : Nat) (x1 : Int32) (th0 : Ty E h0 8) : CT l E yX9_leapOf cX9_leapOf 2 (some .int) 0 0 wI tT [.ref h0, .int x1] (fun S => f_X9_leapOf E n S h0 x1) := by
  refine ct_of RX9 (by decide +kernel) rfl [(0, .ref h0), (1, .int x1)] rfl (Nat.le_of_ble_eq_true rfl) (fun A S hA C X => ?_)
  subst hA
  show Gd A E 2 (QM A E wI tT) (f_X9_leapOf E n S h0 x1) S 0 [(0, .ref h0), (1, .int x1)] []
  unfold f_X9_leapOf
  refine r_aload_n C 0 dX9_leapOf_0 rfl ?_
  refine r_getr C fl_X9_9 dX9_leapOf_1 th0 (fun b1 tb1 => ?_)
  refine r_bipush C (94 : Int32) dX9_leapOf_4 (by decide) ?_
  refine r_iconst C (2 : Int32) dX9_leapOf_6 (by decide) ?_
  refine r_iload_n C 1 dX9_leapOf_7 rfl ?_
  refine r_imul C dX9_leapOf_8 ?_
  refine r_iadd C dX9_leapOf_9 ?_
  refine r_iald C dX9_leapOf_10 tb1 ?_
  exact r_ireturn C X dX9_leapOf_11
set_option maxRecDepth 100000 in
set_option maxHeartbeats 4000000 in
theorem c_X9_homeOf (l : Launch) (E : EN) (n : Nat) (h0 : Nat) (x1 : Int32) (th0 : Ty E h0 8) : CT l E yX9_homeOf cX9_homeOf 2 (some .int) 0 0 wI tT [.ref h0, .int x1] (fun S => f_X9_homeOf E n S h0 x1) := by
  refine ct_of RX9 (by decide +kernel) rfl [(0, .ref h0), (1, .int x1)] rfl (Nat.le_of_ble_eq_true rfl) (fun A S hA C X => ?_)
  subst hA
  show Gd A E 2 (QM A E wI tT) (f_X9_homeOf E n S h0 x1) S 0 [(0, .ref h0), (1, .int x1)] []
  unfold f_X9_homeOf
  refine r_aload_n C 0 dX9_homeOf_0 rfl ?_
  refine r_getr C fl_X9_9 dX9_homeOf_1 th0 (fun b1 tb1 => ?_)
  refine r_bipush C (94 : Int32) dX9_homeOf_4 (by decide) ?_
  refine r_iconst C (2 : Int32) dX9_homeOf_6 (by decide) ?_
  refine r_iload_n C 1 dX9_homeOf_7 rfl ?_
  refine r_imul C dX9_homeOf_8 ?_
  refine r_iadd C dX9_homeOf_9 ?_
  refine r_iconst C (1 : Int32) dX9_homeOf_10 (by decide) ?_
  refine r_iadd C dX9_homeOf_11 ?_
  refine r_iald C dX9_homeOf_12 tb1 ?_
  exact r_ireturn C X dX9_homeOf_13
set_option maxRecDepth 100000 in
set_option maxHeartbeats 4000000 in
theorem c_X9_courts (l : Launch) (E : EN) (n : Nat) (h0 : Nat) (x1 : Int32) (th0 : Ty E h0 8) : CT l E yX9_courts cX9_courts 2 (some .int) 0 0 wI tT [.ref h0, .int x1] (fun S => f_X9_courts E n S h0 x1) := by
  refine ct_of RX9 (by decide +kernel) rfl [(0, .ref h0), (1, .int x1)] rfl (Nat.le_of_ble_eq_true rfl) (fun A S hA C X => ?_)
  subst hA
  show Gd A E 2 (QM A E wI tT) (f_X9_courts E n S h0 x1) S 0 [(0, .ref h0), (1, .int x1)] []
  unfold f_X9_courts
  refine r_aload_n C 0 dX9_courts_0 rfl ?_
  refine r_getr C fl_X9_9 dX9_courts_1 th0 (fun b1 tb1 => ?_)
  refine r_bipush C (102 : Int32) dX9_courts_4 (by decide) ?_
  refine r_iload_n C 1 dX9_courts_6 rfl ?_
  refine r_iadd C dX9_courts_7 ?_
  refine r_iald C dX9_courts_8 tb1 ?_
  exact r_ireturn C X dX9_courts_9
set_option maxRecDepth 100000 in
set_option maxHeartbeats 4000000 in
theorem p_X9_feed_L55 {A : AM} {E : EN} {n : Nat} (C : Cx A E cX9_feed 7 RX9 0 0) (X : Ex A E (some .int))  : ∀ (m : Nat) (S : WS) (h0 : Nat) (x6 : Int32) (th0 : Ty E h0 8), Gd A E 7 (QM A E wI tT) (f_X9_feed_L55 E n  m S h0 x6) S 55 [(0, .ref h0), (6, .int x6)] [] := by
  intro m
  induction m with
  | zero => intros; exact gn
  | succ m ih =>
    intro S h0 x6 th0
    unfold f_X9_feed_L55
    refine r_iload C 1 dX9_feed_55 rfl ?_
    refine r_bipush C (20 : Int32) dX9_feed_57 (by decide) ?_
    refine r_icmp_ge C 101 dX9_feed_59 (by decide) ?_ ?_
    · refine r_aload_n C 0 dX9_feed_101 rfl ?_
      refine r_dup C dX9_feed_102 rfl ?_
      refine r_geti C fl_X9_100 dX9_feed_103 th0 ?_
      refine r_bipush C (20 : Int32) dX9_feed_106 (by decide) ?_
      refine r_iadd C dX9_feed_108 ?_
      refine r_puti C fl_X9_100 dX9_feed_109 th0 (fun S1 => ?_)
      refine r_aload_n C 0 dX9_feed_112 rfl ?_
      refine r_geti C fl_X9_100 dX9_feed_113 th0 ?_
      exact r_ireturn C X dX9_feed_116
    · refine r_aload_n C 0 dX9_feed_62 rfl ?_
      refine r_getr C fl_X9_20 dX9_feed_63 th0 (fun b2 tb2 => ?_)
      refine r_aload_n C 0 dX9_feed_66 rfl ?_
      refine r_geti C fl_X9_100 dX9_feed_67 th0 ?_
      refine r_iload C 1 dX9_feed_70 rfl ?_
      refine r_iadd C dX9_feed_72 ?_
      refine r_aload_n C 0 dX9_feed_73 rfl ?_
      refine r_getr C fl_X9_24 dX9_feed_74 th0 (fun b3 tb3 => ?_)
      refine r_iload C 1 dX9_feed_77 rfl ?_
      refine r_iconst C (4 : Int32) dX9_feed_79 (by decide) ?_
      refine r_idiv C dX9_feed_80 ?_
      refine r_iald C dX9_feed_81 tb3 ?_
      refine r_bipush C (24 : Int32) dX9_feed_82 (by decide) ?_
      refine r_bipush C (8 : Int32) dX9_feed_84 (by decide) ?_
      refine r_iload C 1 dX9_feed_86 rfl ?_
      refine r_iconst C (4 : Int32) dX9_feed_88 (by decide) ?_
      refine r_irem C dX9_feed_89 ?_
      refine r_imul C dX9_feed_90 ?_
      refine r_isub C dX9_feed_91 ?_
      refine r_ishr C dX9_feed_92 ?_
      refine r_i2b C dX9_feed_93 ?_
      refine r_bast C dX9_feed_94 tb2 (fun S4 => ?_)
      refine r_iinc C 1 (fun y5 => [(6, .int y5), (0, .ref h0)]) dX9_feed_95 rfl (v := (1 : Int32)) (by decide) (by decide) (fun _ => rfl) (fun y5 => ?_)
      refine r_goto C 55 dX9_feed_98 (by decide) ?_
      refine r_sub [1, 0] [(0, .ref h0), (6, .int y5)] rfl ?_
      exact ih S4 h0 y5 th0
set_option maxRecDepth 100000 in
set_option maxHeartbeats 4000000 in
theorem c_X9_feed (l : Launch) (E : EN) (n : Nat) (h0 : Nat) (x1 : Int32) (x2 : Int32) (x3 : Int32) (x4 : Int32) (x5 : Int32) (th0 : Ty E h0 8) : CT l E yX9_feed cX9_feed 7 (some .int) 0 0 wI tT [.ref h0, .int x1, .int x2, .int x3, .int x4, .int x5] (fun S => f_X9_feed E n S h0 x1 x2 x3 x4 x5) := by
  refine ct_of RX9 (by decide +kernel) rfl [(0, .ref h0), (1, .int x1), (2, .int x2), (3, .int x3), (4, .int x4), (5, .int x5)] rfl (Nat.le_of_ble_eq_true rfl) (fun A S hA C X => ?_)
  subst hA
  show Gd A E 7 (QM A E wI tT) (f_X9_feed E n S h0 x1 x2 x3 x4 x5) S 0 [(0, .ref h0), (1, .int x1), (2, .int x2), (3, .int x3), (4, .int x4), (5, .int x5)] []
  unfold f_X9_feed
  refine r_aload_n C 0 dX9_feed_0 rfl ?_
  refine r_geti C fl_X9_100 dX9_feed_1 th0 ?_
  refine r_bipush C (20 : Int32) dX9_feed_4 (by decide) ?_
  refine r_iadd C dX9_feed_6 ?_
  refine r_sipush C (1400 : Int32) dX9_feed_7 (by decide) ?_
  refine r_icmp_le C 15 dX9_feed_10 (by decide) ?_ ?_
  · refine r_aload_n C 0 dX9_feed_15 rfl ?_
    refine r_getr C fl_X9_24 dX9_feed_16 th0 (fun b1 tb1 => ?_)
    refine r_iconst C (0 : Int32) dX9_feed_19 (by decide) ?_
    refine r_iload_n C 1 dX9_feed_20 rfl ?_
    refine r_iast C dX9_feed_21 tb1 (fun S2 => ?_)
    refine r_aload_n C 0 dX9_feed_22 rfl ?_
    refine r_getr C fl_X9_24 dX9_feed_23 th0 (fun b3 tb3 => ?_)
    refine r_iconst C (1 : Int32) dX9_feed_26 (by decide) ?_
    refine r_iload_n C 2 dX9_feed_27 rfl ?_
    refine r_iast C dX9_feed_28 tb3 (fun S4 => ?_)
    refine r_aload_n C 0 dX9_feed_29 rfl ?_
    refine r_getr C fl_X9_24 dX9_feed_30 th0 (fun b5 tb5 => ?_)
    refine r_iconst C (2 : Int32) dX9_feed_33 (by decide) ?_
    refine r_iload_n C 3 dX9_feed_34 rfl ?_
    refine r_iast C dX9_feed_35 tb5 (fun S6 => ?_)
    refine r_aload_n C 0 dX9_feed_36 rfl ?_
    refine r_getr C fl_X9_24 dX9_feed_37 th0 (fun b7 tb7 => ?_)
    refine r_iconst C (3 : Int32) dX9_feed_40 (by decide) ?_
    refine r_iload C 4 dX9_feed_41 rfl ?_
    refine r_iast C dX9_feed_43 tb7 (fun S8 => ?_)
    refine r_aload_n C 0 dX9_feed_44 rfl ?_
    refine r_getr C fl_X9_24 dX9_feed_45 th0 (fun b9 tb9 => ?_)
    refine r_iconst C (4 : Int32) dX9_feed_48 (by decide) ?_
    refine r_iload C 5 dX9_feed_49 rfl ?_
    refine r_iast C dX9_feed_51 tb9 (fun S10 => ?_)
    refine r_iconst C (0 : Int32) dX9_feed_52 (by decide) ?_
    refine r_istore C [(6, .int (0 : Int32)), (0, .ref h0), (1, .int x1), (2, .int x2), (3, .int x3), (4, .int x4), (5, .int x5)] dX9_feed_53 (by decide) rfl ?_
    refine r_sub [1, 0] [(0, .ref h0), (6, .int (0 : Int32))] rfl ?_
    exact p_X9_feed_L55 C X  n S10 h0 (0 : Int32) th0
  · refine r_iconst C (-1 : Int32) dX9_feed_13 (by decide) ?_
    exact r_ireturn C X dX9_feed_14
set_option maxRecDepth 100000 in
set_option maxHeartbeats 4000000 in
theorem c_X9_end (l : Launch) (E : EN) (n : Nat) (h0 : Nat) (x1 : Int32) (th0 : Ty E h0 8) : CT l E yX9_end cX9_end 2 (some .int) 1 25 wI tT [.ref h0, .int x1] (fun S => f_X9_end E n S h0 x1) := by
  refine ct_of RX9 (by decide +kernel) rfl [(0, .ref h0), (1, .int x1)] rfl (Nat.le_of_ble_eq_true rfl) (fun A S hA C X => ?_)
  subst hA
  show Gd A E 2 (QM A E wI tT) (f_X9_end E n S h0 x1) S 0 [(0, .ref h0), (1, .int x1)] []
  unfold f_X9_end
  refine r_iload_n C 1 dX9_end_0 rfl ?_
  refine r_i2l C dX9_end_1 ?_
  refine r_lconst C (0 : Int64) dX9_end_2 (by decide) ?_
  refine r_aload_n C 0 dX9_end_3 rfl ?_
  refine r_geti C fl_X9_100 dX9_end_4 th0 ?_
  refine r_i2l C dX9_end_7 ?_
  refine r_callS (As := [.long (x1.toInt64), .long (0 : Int64), .long ((gi S 517 h0).toInt64)]) (rest := []) C (c_X9_in _ E n (x1.toInt64) (0 : Int64) ((gi S 517 h0).toInt64) ) dX9_end_8 ml_X9_82 mv_X9_in rfl rfl ⟨by decide, by decide⟩ (Nat.le_of_ble_eq_true rfl) (fun v2 S1 hv2 => ?_)
  refine r_if_ne C 16 dX9_end_11 (by decide) ?_ ?_
  · refine r_aload_n C 0 dX9_end_16 rfl ?_
    refine r_iload_n C 1 dX9_end_17 rfl ?_
    refine r_puti C fl_X9_100 dX9_end_18 th0 (fun S3 => ?_)
    refine r_iload_n C 1 dX9_end_21 rfl ?_
    exact r_ireturn C X dX9_end_22
  · refine r_iconst C (-1 : Int32) dX9_end_14 (by decide) ?_
    exact r_ireturn C X dX9_end_15
set_option maxRecDepth 100000 in
set_option maxHeartbeats 4000000 in
theorem c_X9_see (l : Launch) (E : EN) (n : Nat) (h0 : Nat) (x1 : Int32) (th0 : Ty E h0 8) : CT l E yX9_see cX9_see 2 (some .int) 0 0 wI tT [.ref h0, .int x1] (fun S => f_X9_see E n S h0 x1) := by
  refine ct_of RX9 (by decide +kernel) rfl [(0, .ref h0), (1, .int x1)] rfl (Nat.le_of_ble_eq_true rfl) (fun A S hA C X => ?_)
  subst hA
  show Gd A E 2 (QM A E wI tT) (f_X9_see E n S h0 x1) S 0 [(0, .ref h0), (1, .int x1)] []
  unfold f_X9_see
  refine r_iload_n C 1 dX9_see_0 rfl ?_
  refine r_aload_n C 0 dX9_see_1 rfl ?_
  refine r_geti C fl_X9_103 dX9_see_2 th0 ?_
  refine r_icmp_ge C 21 dX9_see_5 (by decide) ?_ ?_
  · refine r_iconst C (-1 : Int32) dX9_see_21 (by decide) ?_
    exact r_ireturn C X dX9_see_22
  · refine r_aload_n C 0 dX9_see_8 rfl ?_
    refine r_getr C fl_X9_20 dX9_see_9 th0 (fun b1 tb1 => ?_)
    refine r_iload_n C 1 dX9_see_12 rfl ?_
    refine r_bald C dX9_see_13 tb1 ?_
    refine r_sipush C (255 : Int32) dX9_see_14 (by decide) ?_
    refine r_iand C dX9_see_17 ?_
    refine r_goto C 22 dX9_see_18 (by decide) ?_
    exact r_ireturn C X dX9_see_22
set_option maxRecDepth 100000 in
set_option maxHeartbeats 4000000 in
theorem p_X9_advance_L144 {A : AM} {E : EN} {n : Nat} (C : Cx A E cX9_advance 2 RX9 1 25) (X : Ex A E none)  : ∀ (m : Nat) (S : WS) (h0 : Nat) (th0 : Ty E h0 8), Gd A E 2 (QM A E wV tT) (f_X9_advance_L144 E n  m S h0) S 144 [(0, .ref h0)] [] := by
  intro m
  induction m with
  | zero => intros; exact gn
  | succ m ih =>
    intro S h0 th0
    unfold f_X9_advance_L144
    refine r_aload_n C 0 dX9_advance_144 rfl ?_
    refine r_aload_n C 0 dX9_advance_145 rfl ?_
    refine r_geti C fl_X9_106 dX9_advance_146 th0 ?_
    refine r_callV (As := [.int (gi S 520 h0)]) (rest := []) C (c_X9_see _ E n h0 (gi S 520 h0) th0) dX9_advance_149 ml_X9_109 mv_X9_see ⟨TX9, _, rfl⟩ (by decide) th0 rfl rfl ⟨by decide, by decide⟩ (Nat.le_of_ble_eq_true rfl) (fun v2 S1 hv2 => ?_)
    refine r_i2l C dX9_advance_152 ?_
    refine r_ldc2 C (48 : Int64) (mG 1413 (by decide +kernel) rfl) dX9_advance_153 ?_
    refine r_ldc2 C (57 : Int64) (mG 1414 (by decide +kernel) rfl) dX9_advance_156 ?_
    refine r_callS (As := [.long (v2.toInt64), .long (48 : Int64), .long (57 : Int64)]) (rest := []) C (c_X9_in _ E n (v2.toInt64) (48 : Int64) (57 : Int64) ) dX9_advance_159 ml_X9_82 mv_X9_in rfl rfl ⟨by decide, by decide⟩ (Nat.le_of_ble_eq_true rfl) (fun v4 S3 hv4 => ?_)
    refine r_if_eq C 206 dX9_advance_162 (by decide) ?_ ?_
    · refine r_aload_n C 0 dX9_advance_206 rfl ?_
      refine r_iconst C (2 : Int32) dX9_advance_207 (by decide) ?_
      refine r_puti C fl_X9_115 dX9_advance_208 th0 (fun S5 => ?_)
      refine r_goto C 239 dX9_advance_211 (by decide) ?_
      exact r_return C X dX9_advance_239
    · refine r_aload_n C 0 dX9_advance_165 rfl ?_
      refine r_ldc C (99999 : Int32) (mG 1415 (by decide +kernel) rfl) dX9_advance_166 ?_
      refine r_bipush C (10 : Int32) dX9_advance_168 (by decide) ?_
      refine r_aload_n C 0 dX9_advance_170 rfl ?_
      refine r_geti C fl_X9_126 dX9_advance_171 th0 ?_
      refine r_imul C dX9_advance_174 ?_
      refine r_aload_n C 0 dX9_advance_175 rfl ?_
      refine r_aload_n C 0 dX9_advance_176 rfl ?_
      refine r_geti C fl_X9_106 dX9_advance_177 th0 ?_
      refine r_callV (As := [.int (gi S3 520 h0)]) (rest := [.int ((10 : Int32) * (gi S3 523 h0)), .int (99999 : Int32), .ref h0]) C (c_X9_see _ E n h0 (gi S3 520 h0) th0) dX9_advance_180 ml_X9_109 mv_X9_see ⟨TX9, _, rfl⟩ (by decide) th0 rfl rfl ⟨by decide, by decide⟩ (Nat.le_of_ble_eq_true rfl) (fun v7 S6 hv7 => ?_)
      refine r_iadd C dX9_advance_183 ?_
      refine r_bipush C (48 : Int32) dX9_advance_184 (by decide) ?_
      refine r_isub C dX9_advance_186 ?_
      refine r_mmin C (mG 1416 (by decide +kernel) rfl) mmin_w ⟨by decide, by decide⟩ (Nat.le_of_ble_eq_true rfl) dX9_advance_187 ?_
      refine r_puti C fl_X9_126 dX9_advance_190 th0 (fun S8 => ?_)
      refine r_aload_n C 0 dX9_advance_193 rfl ?_
      refine r_dup C dX9_advance_194 rfl ?_
      refine r_geti C fl_X9_106 dX9_advance_195 th0 ?_
      refine r_iconst C (1 : Int32) dX9_advance_198 (by decide) ?_
      refine r_iadd C dX9_advance_199 ?_
      refine r_puti C fl_X9_106 dX9_advance_200 th0 (fun S9 => ?_)
      refine r_goto C 144 dX9_advance_203 (by decide) ?_
      exact ih S9 h0 th0
set_option maxRecDepth 100000 in
set_option maxHeartbeats 4000000 in
theorem p_X9_advance_L83 {A : AM} {E : EN} {n : Nat} (C : Cx A E cX9_advance 2 RX9 1 25) (X : Ex A E none)  : ∀ (m : Nat) (S : WS) (h0 : Nat) (th0 : Ty E h0 8), Gd A E 2 (QM A E wV tT) (f_X9_advance_L83 E n  m S h0) S 83 [(0, .ref h0)] [] := by
  intro m
  induction m with
  | zero => intros; exact gn
  | succ m ih =>
    intro S h0 th0
    unfold f_X9_advance_L83
    refine r_aload_n C 0 dX9_advance_83 rfl ?_
    refine r_aload_n C 0 dX9_advance_84 rfl ?_
    refine r_geti C fl_X9_106 dX9_advance_85 th0 ?_
    refine r_callV (As := [.int (gi S 520 h0)]) (rest := []) C (c_X9_see _ E n h0 (gi S 520 h0) th0) dX9_advance_88 ml_X9_109 mv_X9_see ⟨TX9, _, rfl⟩ (by decide) th0 rfl rfl ⟨by decide, by decide⟩ (Nat.le_of_ble_eq_true rfl) (fun v2 S1 hv2 => ?_)
    refine r_i2l C dX9_advance_91 ?_
    refine r_ldc2 C (97 : Int64) (mG 1411 (by decide +kernel) rfl) dX9_advance_92 ?_
    refine r_ldc2 C (122 : Int64) (mG 1412 (by decide +kernel) rfl) dX9_advance_95 ?_
    refine r_callS (As := [.long (v2.toInt64), .long (97 : Int64), .long (122 : Int64)]) (rest := []) C (c_X9_in _ E n (v2.toInt64) (97 : Int64) (122 : Int64) ) dX9_advance_98 ml_X9_82 mv_X9_in rfl rfl ⟨by decide, by decide⟩ (Nat.le_of_ble_eq_true rfl) (fun v4 S3 hv4 => ?_)
    refine r_if_eq C 117 dX9_advance_101 (by decide) ?_ ?_
    · refine r_aload_n C 0 dX9_advance_117 rfl ?_
      refine r_iconst C (1 : Int32) dX9_advance_118 (by decide) ?_
      refine r_puti C fl_X9_115 dX9_advance_119 th0 (fun S5 => ?_)
      refine r_goto C 239 dX9_advance_122 (by decide) ?_
      exact r_return C X dX9_advance_239
    · refine r_aload_n C 0 dX9_advance_104 rfl ?_
      refine r_dup C dX9_advance_105 rfl ?_
      refine r_geti C fl_X9_106 dX9_advance_106 th0 ?_
      refine r_iconst C (1 : Int32) dX9_advance_109 (by decide) ?_
      refine r_iadd C dX9_advance_110 ?_
      refine r_puti C fl_X9_106 dX9_advance_111 th0 (fun S6 => ?_)
      refine r_goto C 83 dX9_advance_114 (by decide) ?_
      exact ih S6 h0 th0
set_option maxRecDepth 100000 in
set_option maxHeartbeats 4000000 in
theorem p_X9_advance_L0 {A : AM} {E : EN} {n : Nat} (C : Cx A E cX9_advance 2 RX9 1 25) (X : Ex A E none)  : ∀ (m : Nat) (S : WS) (h0 : Nat) (th0 : Ty E h0 8), Gd A E 2 (QM A E wV tT) (f_X9_advance_L0 E n  m S h0) S 0 [(0, .ref h0)] [] := by
  intro m
  induction m with
  | zero => intros; exact gn
  | succ m ih =>
    intro S h0 th0
    unfold f_X9_advance_L0
    refine r_aload_n C 0 dX9_advance_0 rfl ?_
    refine r_aload_n C 0 dX9_advance_1 rfl ?_
    refine r_geti C fl_X9_106 dX9_advance_2 th0 ?_
    refine r_callV (As := [.int (gi S 520 h0)]) (rest := []) C (c_X9_see _ E n h0 (gi S 520 h0) th0) dX9_advance_5 ml_X9_109 mv_X9_see ⟨TX9, _, rfl⟩ (by decide) th0 rfl rfl ⟨by decide, by decide⟩ (Nat.le_of_ble_eq_true rfl) (fun v2 S1 hv2 => ?_)
    refine r_bipush C (32 : Int32) dX9_advance_8 (by decide) ?_
    refine r_icmp_eq C 26 dX9_advance_10 (by decide) ?_ ?_
    · refine r_aload_n C 0 dX9_advance_26 rfl ?_
      refine r_dup C dX9_advance_27 rfl ?_
      refine r_geti C fl_X9_106 dX9_advance_28 th0 ?_
      refine r_iconst C (1 : Int32) dX9_advance_31 (by decide) ?_
      refine r_iadd C dX9_advance_32 ?_
      refine r_puti C fl_X9_106 dX9_advance_33 th0 (fun S3 => ?_)
      refine r_goto C 0 dX9_advance_36 (by decide) ?_
      exact ih S3 h0 th0
    · refine r_aload_n C 0 dX9_advance_13 rfl ?_
      refine r_aload_n C 0 dX9_advance_14 rfl ?_
      refine r_geti C fl_X9_106 dX9_advance_15 th0 ?_
      refine r_callV (As := [.int (gi S1 520 h0)]) (rest := []) C (c_X9_see _ E n h0 (gi S1 520 h0) th0) dX9_advance_18 ml_X9_109 mv_X9_see ⟨TX9, _, rfl⟩ (by decide) th0 rfl rfl ⟨by decide, by decide⟩ (Nat.le_of_ble_eq_true rfl) (fun v5 S4 hv5 => ?_)
      refine r_bipush C (10 : Int32) dX9_advance_21 (by decide) ?_
      refine r_icmp_ne C 39 dX9_advance_23 (by decide) ?_ ?_
      · refine r_aload_n C 0 dX9_advance_39 rfl ?_
        refine r_aload_n C 0 dX9_advance_40 rfl ?_
        refine r_geti C fl_X9_106 dX9_advance_41 th0 ?_
        refine r_puti C fl_X9_112 dX9_advance_44 th0 (fun S6 => ?_)
        refine r_aload_n C 0 dX9_advance_47 rfl ?_
        refine r_aload_n C 0 dX9_advance_48 rfl ?_
        refine r_geti C fl_X9_106 dX9_advance_49 th0 ?_
        refine r_callV (As := [.int (gi S6 520 h0)]) (rest := []) C (c_X9_see _ E n h0 (gi S6 520 h0) th0) dX9_advance_52 ml_X9_109 mv_X9_see ⟨TX9, _, rfl⟩ (by decide) th0 rfl rfl ⟨by decide, by decide⟩ (Nat.le_of_ble_eq_true rfl) (fun v8 S7 hv8 => ?_)
        refine r_istore_n C [(1, .int v8), (0, .ref h0)] dX9_advance_55 (by decide) rfl ?_
        refine r_iload_n C 0 dX9_advance_56 rfl ?_
        refine r_iconst C (-1 : Int32) dX9_advance_57 (by decide) ?_
        refine r_icmp_ne C 69 dX9_advance_58 (by decide) ?_ ?_
        · refine r_iload_n C 0 dX9_advance_69 rfl ?_
          refine r_i2l C dX9_advance_70 ?_
          refine r_ldc2 C (97 : Int64) (mG 1411 (by decide +kernel) rfl) dX9_advance_71 ?_
          refine r_ldc2 C (122 : Int64) (mG 1412 (by decide +kernel) rfl) dX9_advance_74 ?_
          refine r_callS (As := [.long (v8.toInt64), .long (97 : Int64), .long (122 : Int64)]) (rest := []) C (c_X9_in _ E n (v8.toInt64) (97 : Int64) (122 : Int64) ) dX9_advance_77 ml_X9_82 mv_X9_in rfl rfl ⟨by decide, by decide⟩ (Nat.le_of_ble_eq_true rfl) (fun v10 S9 hv10 => ?_)
          refine r_if_eq C 125 dX9_advance_80 (by decide) ?_ ?_
          · refine r_iload_n C 0 dX9_advance_125 rfl ?_
            refine r_i2l C dX9_advance_126 ?_
            refine r_ldc2 C (48 : Int64) (mG 1413 (by decide +kernel) rfl) dX9_advance_127 ?_
            refine r_ldc2 C (57 : Int64) (mG 1414 (by decide +kernel) rfl) dX9_advance_130 ?_
            refine r_callS (As := [.long (v8.toInt64), .long (48 : Int64), .long (57 : Int64)]) (rest := []) C (c_X9_in _ E n (v8.toInt64) (48 : Int64) (57 : Int64) ) dX9_advance_133 ml_X9_82 mv_X9_in rfl rfl ⟨by decide, by decide⟩ (Nat.le_of_ble_eq_true rfl) (fun v12 S11 hv12 => ?_)
            refine r_if_eq C 214 dX9_advance_136 (by decide) ?_ ?_
            · refine r_aload_n C 1 dX9_advance_214 rfl ?_
              refine r_iload_n C 0 dX9_advance_215 rfl ?_
              refine r_bipush C (59 : Int32) dX9_advance_216 (by decide) ?_
              refine r_icmp_ne C 225 dX9_advance_218 (by decide) ?_ ?_
              · refine r_iconst C (4 : Int32) dX9_advance_225 (by decide) ?_
                refine r_puti C fl_X9_115 dX9_advance_226 th0 (fun S13 => ?_)
                refine r_aload_n C 1 dX9_advance_229 rfl ?_
                refine r_dup C dX9_advance_230 rfl ?_
                refine r_geti C fl_X9_106 dX9_advance_231 th0 ?_
                refine r_iconst C (1 : Int32) dX9_advance_234 (by decide) ?_
                refine r_iadd C dX9_advance_235 ?_
                refine r_puti C fl_X9_106 dX9_advance_236 th0 (fun S14 => ?_)
                exact r_return C X dX9_advance_239
              · refine r_iconst C (3 : Int32) dX9_advance_221 (by decide) ?_
                refine r_goto C 226 dX9_advance_222 (by decide) ?_
                refine r_puti C fl_X9_115 dX9_advance_226 th0 (fun S15 => ?_)
                refine r_aload_n C 1 dX9_advance_229 rfl ?_
                refine r_dup C dX9_advance_230 rfl ?_
                refine r_geti C fl_X9_106 dX9_advance_231 th0 ?_
                refine r_iconst C (1 : Int32) dX9_advance_234 (by decide) ?_
                refine r_iadd C dX9_advance_235 ?_
                refine r_puti C fl_X9_106 dX9_advance_236 th0 (fun S16 => ?_)
                exact r_return C X dX9_advance_239
            · refine r_aload_n C 1 dX9_advance_139 rfl ?_
              refine r_iconst C (0 : Int32) dX9_advance_140 (by decide) ?_
              refine r_puti C fl_X9_126 dX9_advance_141 th0 (fun S17 => ?_)
              refine r_sub [1] [(0, .ref h0)] rfl ?_
              exact p_X9_advance_L144 C X  n S17 h0 th0
          · refine r_sub [1] [(0, .ref h0)] rfl ?_
            exact p_X9_advance_L83 C X  n S9 h0 th0
        · refine r_aload_n C 1 dX9_advance_61 rfl ?_
          refine r_iconst C (0 : Int32) dX9_advance_62 (by decide) ?_
          refine r_puti C fl_X9_115 dX9_advance_63 th0 (fun S18 => ?_)
          refine r_goto C 239 dX9_advance_66 (by decide) ?_
          exact r_return C X dX9_advance_239
      · refine r_aload_n C 0 dX9_advance_26 rfl ?_
        refine r_dup C dX9_advance_27 rfl ?_
        refine r_geti C fl_X9_106 dX9_advance_28 th0 ?_
        refine r_iconst C (1 : Int32) dX9_advance_31 (by decide) ?_
        refine r_iadd C dX9_advance_32 ?_
        refine r_puti C fl_X9_106 dX9_advance_33 th0 (fun S19 => ?_)
        refine r_goto C 0 dX9_advance_36 (by decide) ?_
        exact ih S19 h0 th0
set_option maxRecDepth 100000 in
set_option maxHeartbeats 4000000 in
theorem c_X9_advance (l : Launch) (E : EN) (n : Nat) (h0 : Nat) (th0 : Ty E h0 8) : CT l E yX9_advance cX9_advance 2 none 1 25 wV tT [.ref h0] (fun S => f_X9_advance E n S h0) := by
  refine ct_of RX9 (by decide +kernel) rfl [(0, .ref h0)] rfl (Nat.le_of_ble_eq_true rfl) (fun A S hA C X => ?_)
  subst hA
  show Gd A E 2 (QM A E wV tT) (f_X9_advance E n S h0) S 0 [(0, .ref h0)] []
  unfold f_X9_advance
  exact p_X9_advance_L0 C X  n S h0 th0
set_option maxRecDepth 100000 in
set_option maxHeartbeats 4000000 in
theorem c_X9_good (l : Launch) (E : EN) (n : Nat) (h0 : Nat) (th0 : Ty E h0 8) : CT l E yX9_good cX9_good 1 (some .boolean) 0 0 wI tT [.ref h0] (fun S => f_X9_good E n S h0) := by
  refine ct_of RX9 (by decide +kernel) rfl [(0, .ref h0)] rfl (Nat.le_of_ble_eq_true rfl) (fun A S hA C X => ?_)
  subst hA
  show Gd A E 1 (QM A E wI tT) (f_X9_good E n S h0) S 0 [(0, .ref h0)] []
  unfold f_X9_good
  refine r_aload_n C 0 dX9_good_0 rfl ?_
  refine r_geti C fl_X9_133 dX9_good_1 th0 ?_
  refine r_if_ne C 11 dX9_good_4 (by decide) ?_ ?_
  · refine r_iconst C (0 : Int32) dX9_good_11 (by decide) ?_
    exact r_zreturn C X rfl dX9_good_12
  · refine r_iconst C (1 : Int32) dX9_good_7 (by decide) ?_
    refine r_goto C 12 dX9_good_8 (by decide) ?_
    exact r_zreturn C X rfl dX9_good_12
set_option maxRecDepth 100000 in
set_option maxHeartbeats 4000000 in
theorem c_X9_errs (l : Launch) (E : EN) (n : Nat) (h0 : Nat) (x1 : Int32) (th0 : Ty E h0 8) : CT l E yX9_errs cX9_errs 2 none 1 20 wV tT [.ref h0, .int x1] (fun S => f_X9_errs E n S h0 x1) := by
  refine ct_of RX9 (by decide +kernel) rfl [(0, .ref h0), (1, .int x1)] rfl (Nat.le_of_ble_eq_true rfl) (fun A S hA C X => ?_)
  subst hA
  show Gd A E 2 (QM A E wV tT) (f_X9_errs E n S h0 x1) S 0 [(0, .ref h0), (1, .int x1)] []
  unfold f_X9_errs
  refine r_aload_n C 0 dX9_errs_0 rfl ?_
  refine r_callV (As := []) (rest := []) C (c_X9_good _ E n h0 th0) dX9_errs_1 ml_X9_136 mv_X9_good ⟨TX9, _, rfl⟩ (by decide) th0 rfl rfl ⟨by decide, by decide⟩ (Nat.le_of_ble_eq_true rfl) (fun v2 S1 hv2 => ?_)
  refine r_if_ne C 8 dX9_errs_4 (by decide) ?_ ?_
  · refine r_aload_n C 0 dX9_errs_8 rfl ?_
    refine r_iload_n C 1 dX9_errs_9 rfl ?_
    refine r_puti C fl_X9_133 dX9_errs_10 th0 (fun S3 => ?_)
    refine r_aload_n C 0 dX9_errs_13 rfl ?_
    refine r_aload_n C 0 dX9_errs_14 rfl ?_
    refine r_geti C fl_X9_112 dX9_errs_15 th0 ?_
    refine r_puti C fl_X9_27 dX9_errs_18 th0 (fun S4 => ?_)
    exact r_return C X dX9_errs_21
  · exact r_return C X dX9_errs_7
set_option maxRecDepth 100000 in
set_option maxHeartbeats 4000000 in
theorem p_X9_is_L39 {A : AM} {E : EN} {n : Nat} (C : Cx A E cX9_is 4 RX9 4 85) (X : Ex A E (some .boolean))  : ∀ (m : Nat) (S : WS) (h0 : Nat) (w1 : Nat) (x2 : Int32) (x3 : Int32) (th0 : Ty E h0 8) (tw1 : w1 < sNum), Gd A E 4 (QM A E wI tT) (f_X9_is_L39 E n  m S h0 w1 x2 x3) S 39 [(0, .ref h0), (1, .ref (eSK E w1)), (2, .int x2), (3, .int x3)] [] := by
  intro m
  induction m with
  | zero => intros; exact gn
  | succ m ih =>
    intro S h0 w1 x2 x3 th0 tw1
    unfold f_X9_is_L39
    refine r_iload_n C 3 dX9_is_39 rfl ?_
    refine r_aload_n C 1 dX9_is_40 rfl ?_
    refine r_callT (As := []) (rest := [.int x3]) C X (c_length _ E w1 tw1) dX9_is_41 (mG 1438 (by decide +kernel) rfl) mv_J0_length_8abf5 rfl tw1 rfl rfl ⟨by decide, by decide⟩ (Nat.le_of_ble_eq_true rfl) (fun v2 S1 hv2 => ?_)
    refine r_icmp_ge C 82 dX9_is_44 (by decide) ?_ ?_
    · refine r_iload_n C 2 dX9_is_82 rfl ?_
      exact r_zreturnc C X dX9_is_83
    · refine r_iload_n C 2 dX9_is_47 rfl ?_
      refine r_if_eq C 82 dX9_is_48 (by decide) ?_ ?_
      · refine r_iload_n C 2 dX9_is_82 rfl ?_
        exact r_zreturnc C X dX9_is_83
      · refine r_aload_n C 0 dX9_is_51 rfl ?_
        refine r_getr C fl_X9_20 dX9_is_52 th0 (fun b3 tb3 => ?_)
        refine r_aload_n C 0 dX9_is_55 rfl ?_
        refine r_geti C fl_X9_112 dX9_is_56 th0 ?_
        refine r_iload_n C 3 dX9_is_59 rfl ?_
        refine r_iadd C dX9_is_60 ?_
        refine r_bald C dX9_is_61 tb3 ?_
        refine r_aload_n C 1 dX9_is_62 rfl ?_
        refine r_iload_n C 3 dX9_is_63 rfl ?_
        refine r_callT (As := [.int x3]) (rest := [.int (ai S1 b3 ((gi S1 521 h0) + x3).toNatClampNeg)]) C X (c_charAt _ E w1 tw1 x3) dX9_is_64 (mG 1439 (by decide +kernel) rfl) mv_J0_charAt_5068e rfl tw1 rfl rfl ⟨by decide, by decide⟩ (Nat.le_of_ble_eq_true rfl) (fun v5 S4 hv5 => ?_)
        refine r_icmp_ne C 74 dX9_is_67 (by decide) ?_ ?_
        · refine r_iconst C (0 : Int32) dX9_is_74 (by decide) ?_
          refine r_istore_n C [(2, .int (0 : Int32)), (0, .ref h0), (1, .ref (eSK E w1)), (3, .int x3)] dX9_is_75 (by decide) rfl ?_
          refine r_iinc C 3 (fun y6 => [(3, .int y6), (2, .int (0 : Int32)), (0, .ref h0), (1, .ref (eSK E w1))]) dX9_is_76 rfl (v := (1 : Int32)) (by decide) (by decide) (fun _ => rfl) (fun y6 => ?_)
          refine r_goto C 39 dX9_is_79 (by decide) ?_
          refine r_sub [2, 3, 1, 0] [(0, .ref h0), (1, .ref (eSK E w1)), (2, .int (0 : Int32)), (3, .int y6)] rfl ?_
          exact ih S4 h0 w1 (0 : Int32) y6 th0 tw1
        · refine r_iconst C (1 : Int32) dX9_is_70 (by decide) ?_
          refine r_goto C 75 dX9_is_71 (by decide) ?_
          refine r_istore_n C [(2, .int (1 : Int32)), (0, .ref h0), (1, .ref (eSK E w1)), (3, .int x3)] dX9_is_75 (by decide) rfl ?_
          refine r_iinc C 3 (fun y7 => [(3, .int y7), (2, .int (1 : Int32)), (0, .ref h0), (1, .ref (eSK E w1))]) dX9_is_76 rfl (v := (1 : Int32)) (by decide) (by decide) (fun _ => rfl) (fun y7 => ?_)
          refine r_goto C 39 dX9_is_79 (by decide) ?_
          refine r_sub [2, 3, 1, 0] [(0, .ref h0), (1, .ref (eSK E w1)), (2, .int (1 : Int32)), (3, .int y7)] rfl ?_
          exact ih S4 h0 w1 (1 : Int32) y7 th0 tw1
set_option maxRecDepth 100000 in
set_option maxHeartbeats 4000000 in
theorem c_X9_is (l : Launch) (E : EN) (n : Nat) (h0 : Nat) (w1 : Nat) (th0 : Ty E h0 8) (tw1 : w1 < sNum) : CT l E yX9_is cX9_is 4 (some .boolean) 4 85 wI tT [.ref h0, .ref (eSK E w1)] (fun S => f_X9_is E n S h0 w1) := by
  refine ct_of RX9 (by decide +kernel) rfl [(0, .ref h0), (1, .ref (eSK E w1))] rfl (Nat.le_of_ble_eq_true rfl) (fun A S hA C X => ?_)
  subst hA
  show Gd A E 4 (QM A E wI tT) (f_X9_is E n S h0 w1) S 0 [(0, .ref h0), (1, .ref (eSK E w1))] []
  unfold f_X9_is
  refine r_aload_n C 0 dX9_is_0 rfl ?_
  refine r_callV (As := []) (rest := []) C (c_X9_good _ E n h0 th0) dX9_is_1 ml_X9_136 mv_X9_good ⟨TX9, _, rfl⟩ (by decide) th0 rfl rfl ⟨by decide, by decide⟩ (Nat.le_of_ble_eq_true rfl) (fun v2 S1 hv2 => ?_)
  refine r_if_eq C 35 dX9_is_4 (by decide) ?_ ?_
  · refine r_iconst C (0 : Int32) dX9_is_35 (by decide) ?_
    refine r_istore_n C [(2, .int (0 : Int32)), (0, .ref h0), (1, .ref (eSK E w1))] dX9_is_36 (by decide) rfl ?_
    refine r_iconst C (0 : Int32) dX9_is_37 (by decide) ?_
    refine r_istore_n C [(3, .int (0 : Int32)), (2, .int (0 : Int32)), (0, .ref h0), (1, .ref (eSK E w1))] dX9_is_38 (by decide) rfl ?_
    refine r_sub [2, 3, 1, 0] [(0, .ref h0), (1, .ref (eSK E w1)), (2, .int (0 : Int32)), (3, .int (0 : Int32))] rfl ?_
    exact p_X9_is_L39 C X  n S1 h0 w1 (0 : Int32) (0 : Int32) th0 tw1
  · refine r_aload_n C 0 dX9_is_7 rfl ?_
    refine r_geti C fl_X9_115 dX9_is_8 th0 ?_
    refine r_iconst C (1 : Int32) dX9_is_11 (by decide) ?_
    refine r_icmp_ne C 35 dX9_is_12 (by decide) ?_ ?_
    · refine r_iconst C (0 : Int32) dX9_is_35 (by decide) ?_
      refine r_istore_n C [(2, .int (0 : Int32)), (0, .ref h0), (1, .ref (eSK E w1))] dX9_is_36 (by decide) rfl ?_
      refine r_iconst C (0 : Int32) dX9_is_37 (by decide) ?_
      refine r_istore_n C [(3, .int (0 : Int32)), (2, .int (0 : Int32)), (0, .ref h0), (1, .ref (eSK E w1))] dX9_is_38 (by decide) rfl ?_
      refine r_sub [2, 3, 1, 0] [(0, .ref h0), (1, .ref (eSK E w1)), (2, .int (0 : Int32)), (3, .int (0 : Int32))] rfl ?_
      exact p_X9_is_L39 C X  n S1 h0 w1 (0 : Int32) (0 : Int32) th0 tw1
    · refine r_aload_n C 0 dX9_is_15 rfl ?_
      refine r_geti C fl_X9_106 dX9_is_16 th0 ?_
      refine r_aload_n C 0 dX9_is_19 rfl ?_
      refine r_geti C fl_X9_112 dX9_is_20 th0 ?_
      refine r_isub C dX9_is_23 ?_
      refine r_aload_n C 1 dX9_is_24 rfl ?_
      refine r_callT (As := []) (rest := [.int ((gi S1 520 h0) - (gi S1 521 h0))]) C X (c_length _ E w1 tw1) dX9_is_25 (mG 1438 (by decide +kernel) rfl) mv_J0_length_8abf5 rfl tw1 rfl rfl ⟨by decide, by decide⟩ (Nat.le_of_ble_eq_true rfl) (fun v4 S3 hv4 => ?_)
      refine r_icmp_ne C 35 dX9_is_28 (by decide) ?_ ?_
      · refine r_iconst C (0 : Int32) dX9_is_35 (by decide) ?_
        refine r_istore_n C [(2, .int (0 : Int32)), (0, .ref h0), (1, .ref (eSK E w1))] dX9_is_36 (by decide) rfl ?_
        refine r_iconst C (0 : Int32) dX9_is_37 (by decide) ?_
        refine r_istore_n C [(3, .int (0 : Int32)), (2, .int (0 : Int32)), (0, .ref h0), (1, .ref (eSK E w1))] dX9_is_38 (by decide) rfl ?_
        refine r_sub [2, 3, 1, 0] [(0, .ref h0), (1, .ref (eSK E w1)), (2, .int (0 : Int32)), (3, .int (0 : Int32))] rfl ?_
        exact p_X9_is_L39 C X  n S3 h0 w1 (0 : Int32) (0 : Int32) th0 tw1
      · refine r_iconst C (1 : Int32) dX9_is_31 (by decide) ?_
        refine r_goto C 36 dX9_is_32 (by decide) ?_
        refine r_istore_n C [(2, .int (1 : Int32)), (0, .ref h0), (1, .ref (eSK E w1))] dX9_is_36 (by decide) rfl ?_
        refine r_iconst C (0 : Int32) dX9_is_37 (by decide) ?_
        refine r_istore_n C [(3, .int (0 : Int32)), (2, .int (1 : Int32)), (0, .ref h0), (1, .ref (eSK E w1))] dX9_is_38 (by decide) rfl ?_
        refine r_sub [2, 3, 1, 0] [(0, .ref h0), (1, .ref (eSK E w1)), (2, .int (1 : Int32)), (3, .int (0 : Int32))] rfl ?_
        exact p_X9_is_L39 C X  n S3 h0 w1 (1 : Int32) (0 : Int32) th0 tw1
set_option maxRecDepth 100000 in
set_option maxHeartbeats 4000000 in
theorem c_X9_takes (l : Launch) (E : EN) (n : Nat) (h0 : Nat) (w1 : Nat) (th0 : Ty E h0 8) (tw1 : w1 < sNum) : CT l E yX9_takes cX9_takes 3 (some .boolean) 5 108 wI tT [.ref h0, .ref (eSK E w1)] (fun S => f_X9_takes E n S h0 w1) := by
  refine ct_of RX9 (by decide +kernel) rfl [(0, .ref h0), (1, .ref (eSK E w1))] rfl (Nat.le_of_ble_eq_true rfl) (fun A S hA C X => ?_)
  subst hA
  show Gd A E 3 (QM A E wI tT) (f_X9_takes E n S h0 w1) S 0 [(0, .ref h0), (1, .ref (eSK E w1))] []
  unfold f_X9_takes
  refine r_aload_n C 0 dX9_takes_0 rfl ?_
  refine r_aload_n C 1 dX9_takes_1 rfl ?_
  refine r_callV (As := [.ref (eSK E w1)]) (rest := []) C (c_X9_is _ E n h0 w1 th0 tw1) dX9_takes_2 ml_X9_149 mv_X9_is ⟨TX9, _, rfl⟩ (by decide) th0 rfl rfl ⟨by decide, by decide⟩ (Nat.le_of_ble_eq_true rfl) (fun v2 S1 hv2 => ?_)
  refine r_istore_n C [(2, .int v2), (0, .ref h0), (1, .ref (eSK E w1))] dX9_takes_5 (by decide) rfl ?_
  refine r_iload_n C 0 dX9_takes_6 rfl ?_
  refine r_if_eq C 14 dX9_takes_7 (by decide) ?_ ?_
  · refine r_iload_n C 0 dX9_takes_14 rfl ?_
    exact r_zreturnc C X dX9_takes_15
  · refine r_aload_n C 1 dX9_takes_10 rfl ?_
    refine r_callV (As := []) (rest := []) C (c_X9_advance _ E n h0 th0) dX9_takes_11 ml_X9_153 mv_X9_advance ⟨TX9, _, rfl⟩ (by decide) th0 rfl rfl ⟨by decide, by decide⟩ (Nat.le_of_ble_eq_true rfl) (fun v4 S3 hv4 => ?_)
    refine r_iload_n C 0 dX9_takes_14 rfl ?_
    exact r_zreturnc C X dX9_takes_15
set_option maxRecDepth 100000 in
set_option maxHeartbeats 4000000 in
theorem c_X9_needs (l : Launch) (E : EN) (n : Nat) (h0 : Nat) (w1 : Nat) (th0 : Ty E h0 8) (tw1 : w1 < sNum) : CT l E yX9_needs cX9_needs 2 none 6 130 wV tT [.ref h0, .ref (eSK E w1)] (fun S => f_X9_needs E n S h0 w1) := by
  refine ct_of RX9 (by decide +kernel) rfl [(0, .ref h0), (1, .ref (eSK E w1))] rfl (Nat.le_of_ble_eq_true rfl) (fun A S hA C X => ?_)
  subst hA
  show Gd A E 2 (QM A E wV tT) (f_X9_needs E n S h0 w1) S 0 [(0, .ref h0), (1, .ref (eSK E w1))] []
  unfold f_X9_needs
  refine r_aload_n C 0 dX9_needs_0 rfl ?_
  refine r_aload_n C 1 dX9_needs_1 rfl ?_
  refine r_callV (As := [.ref (eSK E w1)]) (rest := []) C (c_X9_takes _ E n h0 w1 th0 tw1) dX9_needs_2 ml_X9_156 mv_X9_takes ⟨TX9, _, rfl⟩ (by decide) th0 rfl rfl ⟨by decide, by decide⟩ (Nat.le_of_ble_eq_true rfl) (fun v2 S1 hv2 => ?_)
  refine r_if_ne C 13 dX9_needs_5 (by decide) ?_ ?_
  · exact r_return C X dX9_needs_13
  · refine r_aload_n C 0 dX9_needs_8 rfl ?_
    refine r_iconst C (1 : Int32) dX9_needs_9 (by decide) ?_
    refine r_callV (As := [.int (1 : Int32)]) (rest := []) C (c_X9_errs _ E n h0 (1 : Int32) th0) dX9_needs_10 ml_X9_159 mv_X9_errs ⟨TX9, _, rfl⟩ (by decide) th0 rfl rfl ⟨by decide, by decide⟩ (Nat.le_of_ble_eq_true rfl) (fun v4 S3 hv4 => ?_)
    exact r_return C X dX9_needs_13
set_option maxRecDepth 100000 in
set_option maxHeartbeats 4000000 in
theorem p_X9_number_J20 {A : AM} {E : EN} {n : Nat} (C : Cx A E cX9_number 4 RX9 2 46) (X : Ex A E (some .int))  (S : WS) (h0 : Nat) (x1 : Int32) (x2 : Int32) (th0 : Ty E h0 8) : Gd A E 4 (QM A E wI tT) (f_X9_number_J20 E n  S h0 x1 x2) S 20 [(0, .ref h0), (1, .int x1), (2, .int x2)] [] := by
  unfold f_X9_number_J20
  refine r_aload_n C 0 dX9_number_20 rfl ?_
  refine r_callV (As := []) (rest := []) C (c_X9_good _ E n h0 th0) dX9_number_21 ml_X9_136 mv_X9_good ⟨TX9, _, rfl⟩ (by decide) th0 rfl rfl ⟨by decide, by decide⟩ (Nat.le_of_ble_eq_true rfl) (fun v2 S1 hv2 => ?_)
  refine r_if_eq C 47 dX9_number_24 (by decide) ?_ ?_
  · refine r_aload_n C 0 dX9_number_47 rfl ?_
    refine r_callV (As := []) (rest := []) C (c_X9_good _ E n h0 th0) dX9_number_48 ml_X9_136 mv_X9_good ⟨TX9, _, rfl⟩ (by decide) th0 rfl rfl ⟨by decide, by decide⟩ (Nat.le_of_ble_eq_true rfl) (fun v4 S3 hv4 => ?_)
    refine r_if_ne C 56 dX9_number_51 (by decide) ?_ ?_
    · refine r_aload_n C 0 dX9_number_56 rfl ?_
      refine r_geti C fl_X9_126 dX9_number_57 th0 ?_
      refine r_topi (fun y5 => ?_)
      refine r_istore_n C [(3, .int y5), (0, .ref h0), (1, .int x1), (2, .int x2)] dX9_number_60 (by decide) rfl ?_
      refine r_aload_n C 1 dX9_number_61 rfl ?_
      refine r_callV (As := []) (rest := []) C (c_X9_advance _ E n h0 th0) dX9_number_62 ml_X9_153 mv_X9_advance ⟨TX9, _, rfl⟩ (by decide) th0 rfl rfl ⟨by decide, by decide⟩ (Nat.le_of_ble_eq_true rfl) (fun v7 S6 hv7 => ?_)
      refine r_iload_n C 0 dX9_number_65 rfl ?_
      exact r_ireturn C X dX9_number_66
    · refine r_iconst C (0 : Int32) dX9_number_54 (by decide) ?_
      exact r_ireturn C X dX9_number_55
  · refine r_aload_n C 0 dX9_number_27 rfl ?_
    refine r_geti C fl_X9_126 dX9_number_28 th0 ?_
    refine r_i2l C dX9_number_31 ?_
    refine r_iload_n C 1 dX9_number_32 rfl ?_
    refine r_i2l C dX9_number_33 ?_
    refine r_iload_n C 2 dX9_number_34 rfl ?_
    refine r_i2l C dX9_number_35 ?_
    refine r_callS (As := [.long ((gi S1 523 h0).toInt64), .long (x1.toInt64), .long (x2.toInt64)]) (rest := []) C (c_X9_in _ E n ((gi S1 523 h0).toInt64) (x1.toInt64) (x2.toInt64) ) dX9_number_36 ml_X9_82 mv_X9_in rfl rfl ⟨by decide, by decide⟩ (Nat.le_of_ble_eq_true rfl) (fun v9 S8 hv9 => ?_)
    refine r_if_ne C 47 dX9_number_39 (by decide) ?_ ?_
    · refine r_aload_n C 0 dX9_number_47 rfl ?_
      refine r_callV (As := []) (rest := []) C (c_X9_good _ E n h0 th0) dX9_number_48 ml_X9_136 mv_X9_good ⟨TX9, _, rfl⟩ (by decide) th0 rfl rfl ⟨by decide, by decide⟩ (Nat.le_of_ble_eq_true rfl) (fun v11 S10 hv11 => ?_)
      refine r_if_ne C 56 dX9_number_51 (by decide) ?_ ?_
      · refine r_aload_n C 0 dX9_number_56 rfl ?_
        refine r_geti C fl_X9_126 dX9_number_57 th0 ?_
        refine r_topi (fun y12 => ?_)
        refine r_istore_n C [(3, .int y12), (0, .ref h0), (1, .int x1), (2, .int x2)] dX9_number_60 (by decide) rfl ?_
        refine r_aload_n C 1 dX9_number_61 rfl ?_
        refine r_callV (As := []) (rest := []) C (c_X9_advance _ E n h0 th0) dX9_number_62 ml_X9_153 mv_X9_advance ⟨TX9, _, rfl⟩ (by decide) th0 rfl rfl ⟨by decide, by decide⟩ (Nat.le_of_ble_eq_true rfl) (fun v14 S13 hv14 => ?_)
        refine r_iload_n C 0 dX9_number_65 rfl ?_
        exact r_ireturn C X dX9_number_66
      · refine r_iconst C (0 : Int32) dX9_number_54 (by decide) ?_
        exact r_ireturn C X dX9_number_55
    · refine r_aload_n C 0 dX9_number_42 rfl ?_
      refine r_iconst C (2 : Int32) dX9_number_43 (by decide) ?_
      refine r_callV (As := [.int (2 : Int32)]) (rest := []) C (c_X9_errs _ E n h0 (2 : Int32) th0) dX9_number_44 ml_X9_159 mv_X9_errs ⟨TX9, _, rfl⟩ (by decide) th0 rfl rfl ⟨by decide, by decide⟩ (Nat.le_of_ble_eq_true rfl) (fun v16 S15 hv16 => ?_)
      refine r_aload_n C 0 dX9_number_47 rfl ?_
      refine r_callV (As := []) (rest := []) C (c_X9_good _ E n h0 th0) dX9_number_48 ml_X9_136 mv_X9_good ⟨TX9, _, rfl⟩ (by decide) th0 rfl rfl ⟨by decide, by decide⟩ (Nat.le_of_ble_eq_true rfl) (fun v18 S17 hv18 => ?_)
      refine r_if_ne C 56 dX9_number_51 (by decide) ?_ ?_
      · refine r_aload_n C 0 dX9_number_56 rfl ?_
        refine r_geti C fl_X9_126 dX9_number_57 th0 ?_
        refine r_topi (fun y19 => ?_)
        refine r_istore_n C [(3, .int y19), (0, .ref h0), (1, .int x1), (2, .int x2)] dX9_number_60 (by decide) rfl ?_
        refine r_aload_n C 1 dX9_number_61 rfl ?_
        refine r_callV (As := []) (rest := []) C (c_X9_advance _ E n h0 th0) dX9_number_62 ml_X9_153 mv_X9_advance ⟨TX9, _, rfl⟩ (by decide) th0 rfl rfl ⟨by decide, by decide⟩ (Nat.le_of_ble_eq_true rfl) (fun v21 S20 hv21 => ?_)
        refine r_iload_n C 0 dX9_number_65 rfl ?_
        exact r_ireturn C X dX9_number_66
      · refine r_iconst C (0 : Int32) dX9_number_54 (by decide) ?_
        exact r_ireturn C X dX9_number_55
set_option maxRecDepth 100000 in
set_option maxHeartbeats 4000000 in
theorem c_X9_number (l : Launch) (E : EN) (n : Nat) (h0 : Nat) (x1 : Int32) (x2 : Int32) (th0 : Ty E h0 8) : CT l E yX9_number cX9_number 4 (some .int) 2 46 wI tT [.ref h0, .int x1, .int x2] (fun S => f_X9_number E n S h0 x1 x2) := by
  refine ct_of RX9 (by decide +kernel) rfl [(0, .ref h0), (1, .int x1), (2, .int x2)] rfl (Nat.le_of_ble_eq_true rfl) (fun A S hA C X => ?_)
  subst hA
  show Gd A E 4 (QM A E wI tT) (f_X9_number E n S h0 x1 x2) S 0 [(0, .ref h0), (1, .int x1), (2, .int x2)] []
  unfold f_X9_number
  refine r_aload_n C 0 dX9_number_0 rfl ?_
  refine r_callV (As := []) (rest := []) C (c_X9_good _ E n h0 th0) dX9_number_1 ml_X9_136 mv_X9_good ⟨TX9, _, rfl⟩ (by decide) th0 rfl rfl ⟨by decide, by decide⟩ (Nat.le_of_ble_eq_true rfl) (fun v2 S1 hv2 => ?_)
  refine r_if_eq C 20 dX9_number_4 (by decide) ?_ ?_
  · exact p_X9_number_J20 C X  S1 h0 x1 x2 th0
  · refine r_aload_n C 0 dX9_number_7 rfl ?_
    refine r_geti C fl_X9_115 dX9_number_8 th0 ?_
    refine r_iconst C (2 : Int32) dX9_number_11 (by decide) ?_
    refine r_icmp_eq C 20 dX9_number_12 (by decide) ?_ ?_
    · exact p_X9_number_J20 C X  S1 h0 x1 x2 th0
    · refine r_aload_n C 0 dX9_number_15 rfl ?_
      refine r_iconst C (1 : Int32) dX9_number_16 (by decide) ?_
      refine r_callV (As := [.int (1 : Int32)]) (rest := []) C (c_X9_errs _ E n h0 (1 : Int32) th0) dX9_number_17 ml_X9_159 mv_X9_errs ⟨TX9, _, rfl⟩ (by decide) th0 rfl rfl ⟨by decide, by decide⟩ (Nat.le_of_ble_eq_true rfl) (fun v4 S3 hv4 => ?_)
      exact p_X9_number_J20 C X  S3 h0 x1 x2 th0
set_option maxRecDepth 100000 in
set_option maxHeartbeats 4000000 in
theorem c_X9_told (l : Launch) (E : EN) (n : Nat) (h0 : Nat) (w1 : Nat) (x2 : Int32) (x3 : Int32) (th0 : Ty E h0 8) (tw1 : w1 < sNum) : CT l E yX9_told cX9_told 4 (some .int) 7 151 wI tT [.ref h0, .ref (eSK E w1), .int x2, .int x3] (fun S => f_X9_told E n S h0 w1 x2 x3) := by
  refine ct_of RX9 (by decide +kernel) rfl [(0, .ref h0), (1, .ref (eSK E w1)), (2, .int x2), (3, .int x3)] rfl (Nat.le_of_ble_eq_true rfl) (fun A S hA C X => ?_)
  subst hA
  show Gd A E 4 (QM A E wI tT) (f_X9_told E n S h0 w1 x2 x3) S 0 [(0, .ref h0), (1, .ref (eSK E w1)), (2, .int x2), (3, .int x3)] []
  unfold f_X9_told
  refine r_aload_n C 0 dX9_told_0 rfl ?_
  refine r_aload_n C 1 dX9_told_1 rfl ?_
  refine r_callV (As := [.ref (eSK E w1)]) (rest := []) C (c_X9_needs _ E n h0 w1 th0 tw1) dX9_told_2 ml_X9_163 mv_X9_needs ⟨TX9, _, rfl⟩ (by decide) th0 rfl rfl ⟨by decide, by decide⟩ (Nat.le_of_ble_eq_true rfl) (fun v2 S1 hv2 => ?_)
  refine r_aload_n C 0 dX9_told_5 rfl ?_
  refine r_iload_n C 2 dX9_told_6 rfl ?_
  refine r_iload_n C 3 dX9_told_7 rfl ?_
  refine r_callV (As := [.int x2, .int x3]) (rest := []) C (c_X9_number _ E n h0 x2 x3 th0) dX9_told_8 ml_X9_167 mv_X9_number ⟨TX9, _, rfl⟩ (by decide) th0 rfl rfl ⟨by decide, by decide⟩ (Nat.le_of_ble_eq_true rfl) (fun v4 S3 hv4 => ?_)
  exact r_ireturn C X dX9_told_11
set_option maxRecDepth 100000 in
set_option maxHeartbeats 4000000 in
theorem c_X9_fault (l : Launch) (E : EN) (n : Nat) (h0 : Nat) (x1 : Int32) (th0 : Ty E h0 8) : CT l E yX9_fault cX9_fault 2 (some .int) 0 0 wI tT [.ref h0, .int x1] (fun S => f_X9_fault E n S h0 x1) := by
  refine ct_of RX9 (by decide +kernel) rfl [(0, .ref h0), (1, .int x1)] rfl (Nat.le_of_ble_eq_true rfl) (fun A S hA C X => ?_)
  subst hA
  show Gd A E 2 (QM A E wI tT) (f_X9_fault E n S h0 x1) S 0 [(0, .ref h0), (1, .int x1)] []
  unfold f_X9_fault
  refine r_iload_n C 1 dX9_fault_0 rfl ?_
  refine r_if_ne C 11 dX9_fault_1 (by decide) ?_ ?_
  · refine r_iload_n C 1 dX9_fault_11 rfl ?_
    refine r_iconst C (1 : Int32) dX9_fault_12 (by decide) ?_
    refine r_icmp_ne C 23 dX9_fault_13 (by decide) ?_ ?_
    · refine r_iconst C (-1 : Int32) dX9_fault_23 (by decide) ?_
      exact r_ireturn C X dX9_fault_24
    · refine r_aload_n C 0 dX9_fault_16 rfl ?_
      refine r_geti C fl_X9_27 dX9_fault_17 th0 ?_
      refine r_goto C 24 dX9_fault_20 (by decide) ?_
      exact r_ireturn C X dX9_fault_24
  · refine r_aload_n C 0 dX9_fault_4 rfl ?_
    refine r_geti C fl_X9_133 dX9_fault_5 th0 ?_
    refine r_goto C 24 dX9_fault_8 (by decide) ?_
    exact r_ireturn C X dX9_fault_24
set_option maxRecDepth 100000 in
set_option maxHeartbeats 4000000 in
theorem c_X9_freshPlace (l : Launch) (E : EN) (n : Nat) (h0 : Nat) (th0 : Ty E h0 8) : CT l E yX9_freshPlace cX9_freshPlace 1 (some .int) 3 69 wI tT [.ref h0] (fun S => f_X9_freshPlace E n S h0) := by
  refine ct_of RX9 (by decide +kernel) rfl [(0, .ref h0)] rfl (Nat.le_of_ble_eq_true rfl) (fun A S hA C X => ?_)
  subst hA
  show Gd A E 1 (QM A E wI tT) (f_X9_freshPlace E n S h0) S 0 [(0, .ref h0)] []
  unfold f_X9_freshPlace
  refine r_aload_n C 0 dX9_freshPlace_0 rfl ?_
  refine r_iconst C (0 : Int32) dX9_freshPlace_1 (by decide) ?_
  refine r_aload_n C 0 dX9_freshPlace_2 rfl ?_
  refine r_getr C fl_X9_31 dX9_freshPlace_3 th0 (fun b1 tb1 => ?_)
  refine r_iconst C (0 : Int32) dX9_freshPlace_6 (by decide) ?_
  refine r_iald C dX9_freshPlace_7 tb1 ?_
  refine r_iconst C (1 : Int32) dX9_freshPlace_8 (by decide) ?_
  refine r_isub C dX9_freshPlace_9 ?_
  refine r_callV (As := [.int (0 : Int32), .int ((ai S b1 (0 : Int32).toNatClampNeg) - (1 : Int32))]) (rest := []) C (c_X9_number _ E n h0 (0 : Int32) ((ai S b1 (0 : Int32).toNatClampNeg) - (1 : Int32)) th0) dX9_freshPlace_10 ml_X9_167 mv_X9_number ⟨TX9, _, rfl⟩ (by decide) th0 rfl rfl ⟨by decide, by decide⟩ (Nat.le_of_ble_eq_true rfl) (fun v3 S2 hv3 => ?_)
  exact r_ireturn C X dX9_freshPlace_13
set_option maxRecDepth 100000 in
set_option maxHeartbeats 4000000 in
theorem c_X9_freshYear (l : Launch) (E : EN) (n : Nat) (h0 : Nat) (th0 : Ty E h0 8) : CT l E yX9_freshYear cX9_freshYear 1 (some .int) 3 69 wI tT [.ref h0] (fun S => f_X9_freshYear E n S h0) := by
  refine ct_of RX9 (by decide +kernel) rfl [(0, .ref h0)] rfl (Nat.le_of_ble_eq_true rfl) (fun A S hA C X => ?_)
  subst hA
  show Gd A E 1 (QM A E wI tT) (f_X9_freshYear E n S h0) S 0 [(0, .ref h0)] []
  unfold f_X9_freshYear
  refine r_aload_n C 0 dX9_freshYear_0 rfl ?_
  refine r_iconst C (0 : Int32) dX9_freshYear_1 (by decide) ?_
  refine r_aload_n C 0 dX9_freshYear_2 rfl ?_
  refine r_getr C fl_X9_31 dX9_freshYear_3 th0 (fun b1 tb1 => ?_)
  refine r_iconst C (1 : Int32) dX9_freshYear_6 (by decide) ?_
  refine r_iald C dX9_freshYear_7 tb1 ?_
  refine r_iconst C (1 : Int32) dX9_freshYear_8 (by decide) ?_
  refine r_isub C dX9_freshYear_9 ?_
  refine r_callV (As := [.int (0 : Int32), .int ((ai S b1 (1 : Int32).toNatClampNeg) - (1 : Int32))]) (rest := []) C (c_X9_number _ E n h0 (0 : Int32) ((ai S b1 (1 : Int32).toNatClampNeg) - (1 : Int32)) th0) dX9_freshYear_10 ml_X9_167 mv_X9_number ⟨TX9, _, rfl⟩ (by decide) th0 rfl rfl ⟨by decide, by decide⟩ (Nat.le_of_ble_eq_true rfl) (fun v3 S2 hv3 => ?_)
  exact r_ireturn C X dX9_freshYear_13
set_option maxRecDepth 100000 in
set_option maxHeartbeats 4000000 in
theorem p_X9_isFreshPath_J44 {A : AM} {E : EN} {n : Nat} (C : Cx A E cX9_isFreshPath 5 RX9 0 0) (X : Ex A E (some .boolean)) {k2 : WS → Nat → Int32 → Int32 → Int32 → Option (Int32 × WS)} (hk2 : ∀ (S : WS) (h0 : Nat) (x1 : Int32) (x2 : Int32) (x3 : Int32) (_ : Ty E h0 8), Gd A E 5 (QM A E wI tT) (k2 S h0 x1 x2 x3) S 2 [(0, .ref h0), (1, .int x1), (2, .int x2), (3, .int x3)] []) (S : WS) (h0 : Nat) (x1 : Int32) (x2 : Int32) (x3 : Int32) (x4 : Int32) (th0 : Ty E h0 8) : Gd A E 5 (QM A E wI tT) (f_X9_isFreshPath_J44 E n k2 S h0 x1 x2 x3 x4) S 44 [(0, .ref h0), (1, .int x1), (2, .int x2), (3, .int x3), (4, .int x4)] [] := by
  unfold f_X9_isFreshPath_J44
  refine r_aload_n C 0 dX9_isFreshPath_44 rfl ?_
  refine r_getr C fl_X9_31 dX9_isFreshPath_45 th0 (fun b1 tb1 => ?_)
  refine r_iload C 4 dX9_isFreshPath_48 rfl ?_
  refine r_iald C dX9_isFreshPath_50 tb1 ?_
  refine r_iload_n C 2 dX9_isFreshPath_51 rfl ?_
  refine r_icmp_ne C 70 dX9_isFreshPath_52 (by decide) ?_ ?_
  · refine r_iinc C 3 (fun y2 => [(3, .int y2), (0, .ref h0), (1, .int x1), (2, .int x2), (4, .int x4)]) dX9_isFreshPath_70 rfl (v := (1 : Int32)) (by decide) (by decide) (fun _ => rfl) (fun y2 => ?_)
    refine r_goto C 2 dX9_isFreshPath_73 (by decide) ?_
    refine r_sub [1, 2, 3, 0] [(0, .ref h0), (1, .int x1), (2, .int x2), (3, .int y2)] rfl ?_
    exact hk2 S h0 x1 x2 y2 th0
  · refine r_aload_n C 0 dX9_isFreshPath_55 rfl ?_
    refine r_getr C fl_X9_31 dX9_isFreshPath_56 th0 (fun b3 tb3 => ?_)
    refine r_iload C 4 dX9_isFreshPath_59 rfl ?_
    refine r_iconst C (1 : Int32) dX9_isFreshPath_61 (by decide) ?_
    refine r_iadd C dX9_isFreshPath_62 ?_
    refine r_iald C dX9_isFreshPath_63 tb3 ?_
    refine r_iload_n C 1 dX9_isFreshPath_64 rfl ?_
    refine r_icmp_ne C 70 dX9_isFreshPath_65 (by decide) ?_ ?_
    · refine r_iinc C 3 (fun y4 => [(3, .int y4), (0, .ref h0), (1, .int x1), (2, .int x2), (4, .int x4)]) dX9_isFreshPath_70 rfl (v := (1 : Int32)) (by decide) (by decide) (fun _ => rfl) (fun y4 => ?_)
      refine r_goto C 2 dX9_isFreshPath_73 (by decide) ?_
      refine r_sub [1, 2, 3, 0] [(0, .ref h0), (1, .int x1), (2, .int x2), (3, .int y4)] rfl ?_
      exact hk2 S h0 x1 x2 y4 th0
    · refine r_iconst C (1 : Int32) dX9_isFreshPath_68 (by decide) ?_
      exact r_zreturn C X rfl dX9_isFreshPath_69
set_option maxRecDepth 100000 in
set_option maxHeartbeats 4000000 in
theorem p_X9_isFreshPath_L2 {A : AM} {E : EN} {n : Nat} (C : Cx A E cX9_isFreshPath 5 RX9 0 0) (X : Ex A E (some .boolean))  : ∀ (m : Nat) (S : WS) (h0 : Nat) (x1 : Int32) (x2 : Int32) (x3 : Int32) (th0 : Ty E h0 8), Gd A E 5 (QM A E wI tT) (f_X9_isFreshPath_L2 E n  m S h0 x1 x2 x3) S 2 [(0, .ref h0), (1, .int x1), (2, .int x2), (3, .int x3)] [] := by
  intro m
  induction m with
  | zero => intros; exact gn
  | succ m ih =>
    intro S h0 x1 x2 x3 th0
    unfold f_X9_isFreshPath_L2
    refine r_iload_n C 3 dX9_isFreshPath_2 rfl ?_
    refine r_aload_n C 0 dX9_isFreshPath_3 rfl ?_
    refine r_getr C fl_X9_31 dX9_isFreshPath_4 th0 (fun b1 tb1 => ?_)
    refine r_iconst C (2 : Int32) dX9_isFreshPath_7 (by decide) ?_
    refine r_iald C dX9_isFreshPath_8 tb1 ?_
    refine r_icmp_ge C 76 dX9_isFreshPath_9 (by decide) ?_ ?_
    · refine r_iconst C (0 : Int32) dX9_isFreshPath_76 (by decide) ?_
      exact r_zreturn C X rfl dX9_isFreshPath_77
    · refine r_bipush C (45 : Int32) dX9_isFreshPath_12 (by decide) ?_
      refine r_iconst C (2 : Int32) dX9_isFreshPath_14 (by decide) ?_
      refine r_iload_n C 3 dX9_isFreshPath_15 rfl ?_
      refine r_imul C dX9_isFreshPath_16 ?_
      refine r_iadd C dX9_isFreshPath_17 ?_
      refine r_topi (fun y2 => ?_)
      refine r_istore C [(4, .int y2), (0, .ref h0), (1, .int x1), (2, .int x2), (3, .int x3)] dX9_isFreshPath_18 (by decide) rfl ?_
      refine r_aload_n C 1 dX9_isFreshPath_20 rfl ?_
      refine r_getr C fl_X9_31 dX9_isFreshPath_21 th0 (fun b3 tb3 => ?_)
      refine r_iload C 0 dX9_isFreshPath_24 rfl ?_
      refine r_iald C dX9_isFreshPath_26 tb3 ?_
      refine r_iload_n C 2 dX9_isFreshPath_27 rfl ?_
      refine r_icmp_ne C 44 dX9_isFreshPath_28 (by decide) ?_ ?_
      · refine r_sub [1, 2, 3, 4, 0] [(0, .ref h0), (1, .int x1), (2, .int x2), (3, .int x3), (4, .int y2)] rfl ?_
        exact p_X9_isFreshPath_J44 C X ih S h0 x1 x2 x3 y2 th0
      · refine r_aload_n C 1 dX9_isFreshPath_31 rfl ?_
        refine r_getr C fl_X9_31 dX9_isFreshPath_32 th0 (fun b4 tb4 => ?_)
        refine r_iload C 0 dX9_isFreshPath_35 rfl ?_
        refine r_iconst C (1 : Int32) dX9_isFreshPath_37 (by decide) ?_
        refine r_iadd C dX9_isFreshPath_38 ?_
        refine r_iald C dX9_isFreshPath_39 tb4 ?_
        refine r_iload_n C 3 dX9_isFreshPath_40 rfl ?_
        refine r_icmp_eq C 68 dX9_isFreshPath_41 (by decide) ?_ ?_
        · refine r_iconst C (1 : Int32) dX9_isFreshPath_68 (by decide) ?_
          exact r_zreturn C X rfl dX9_isFreshPath_69
        · refine r_sub [1, 2, 3, 4, 0] [(0, .ref h0), (1, .int x1), (2, .int x2), (3, .int x3), (4, .int y2)] rfl ?_
          exact p_X9_isFreshPath_J44 C X ih S h0 x1 x2 x3 y2 th0
