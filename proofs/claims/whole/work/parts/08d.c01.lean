/-! THE CONTRACTS, by program -/
set_option maxRecDepth 100000 in
set_option maxHeartbeats 4000000 in
theorem p_X5_addsOf_L15 {A : AM} {E : EN} {n : Nat} (C : Cx A E cX5_addsOf 9 RX5 2 50) (X : Ex A E (some .long))  : ∀ (m : Nat) (S : WS) (h0 : Nat) (h1 : Nat) (h2 : Nat) (x3 : Int32) (x4 : Int64) (x6 : Int32) (th0 : Ty E h0 4) (th1 : Ty E h1 2) (th2 : TyC E h2), Gd A E 9 (QM A E wJ tT) (f_X5_addsOf_L15 E n  m S h0 h1 h2 x3 x4 x6) S 15 [(0, .ref h0), (1, .ref h1), (2, .ref h2), (3, .int x3), (4, .long x4), (6, .int x6)] [] := by
  intro m
  induction m with
  | zero => intros; exact gn
  | succ m ih =>
    intro S h0 h1 h2 x3 x4 x6 th0 th1 th2
    unfold f_X5_addsOf_L15
    refine r_iload C 5 dX5_addsOf_15 rfl ?_
    refine r_aload_n C 1 dX5_addsOf_17 rfl ?_
    refine r_geti C fl_X5_73 dX5_addsOf_18 th1 ?_
    refine r_icmp_ge C 72 dX5_addsOf_21 (by decide) ?_ ?_
    · refine r_lload C 4 dX5_addsOf_72 rfl ?_
      exact r_lreturn C X dX5_addsOf_74
    · refine r_aload_n C 1 dX5_addsOf_24 rfl ?_
      refine r_iload_n C 3 dX5_addsOf_25 rfl ?_
      refine r_iload C 5 dX5_addsOf_26 rfl ?_
      refine r_callV (As := [.int x3, .int x6]) (rest := []) C (c_X3_isFor _ E n h1 x3 x6 th1) dX5_addsOf_28 ml_X5_76 mv_X3_isFor ⟨TX3, _, rfl⟩ (by decide) th1 rfl rfl ⟨by decide, by decide⟩ (Nat.le_of_ble_eq_true rfl) (fun v2 S1 hv2 => ?_)
      refine r_if_eq C 66 dX5_addsOf_31 (by decide) ?_ ?_
      · refine r_iinc C 5 (fun y3 => [(6, .int y3), (0, .ref h0), (1, .ref h1), (2, .ref h2), (3, .int x3), (4, .long x4)]) dX5_addsOf_66 rfl (v := (1 : Int32)) (by decide) (by decide) (fun _ => rfl) (fun y3 => ?_)
        refine r_goto C 15 dX5_addsOf_69 (by decide) ?_
        refine r_sub [1, 2, 3, 4, 5, 0] [(0, .ref h0), (1, .ref h1), (2, .ref h2), (3, .int x3), (4, .long x4), (6, .int y3)] rfl ?_
        exact ih S1 h0 h1 h2 x3 x4 y3 th0 th1 th2
      · refine r_aload_n C 2 dX5_addsOf_34 rfl ?_
        refine r_aload_n C 1 dX5_addsOf_35 rfl ?_
        refine r_iload_n C 3 dX5_addsOf_36 rfl ?_
        refine r_iload C 5 dX5_addsOf_37 rfl ?_
        refine r_A_addedBy (own := RX5) (rest := []) C dX5_addsOf_39 ma_X5_80_0 ma_X5_80_1 h2 h1 x3 x6 th2 th1 ⟨by decide, by decide⟩ ⟨by decide, by decide⟩ (Nat.le_of_ble_eq_true rfl) (fun v5 S4 hv5 => ?_)
        refine r_lstore C [(7, .long v5), (0, .ref h0), (1, .ref h1), (2, .ref h2), (3, .int x3), (4, .long x4), (6, .int x6)] dX5_addsOf_42 (by decide) rfl ?_
        refine r_aload_n C 1 dX5_addsOf_44 rfl ?_
        refine r_getr C fl_X5_15 dX5_addsOf_45 th0 (fun b6 tb6 => ?_)
        refine r_iload_n C 4 dX5_addsOf_48 rfl ?_
        refine r_iconst C (5 : Int32) dX5_addsOf_49 (by decide) ?_
        refine r_imul C dX5_addsOf_50 ?_
        refine r_iload C 6 dX5_addsOf_51 rfl ?_
        refine r_iadd C dX5_addsOf_53 ?_
        refine r_iconst C (1 : Int32) dX5_addsOf_54 (by decide) ?_
        refine r_iadd C dX5_addsOf_55 ?_
        refine r_lload C 0 dX5_addsOf_56 rfl ?_
        refine r_last C dX5_addsOf_58 tb6 (fun S7 => ?_)
        refine r_lload C 5 dX5_addsOf_59 rfl ?_
        refine r_lload C 0 dX5_addsOf_61 rfl ?_
        refine r_lor C dX5_addsOf_63 ?_
        refine r_topl (fun y8 => ?_)
        refine r_lstore C [(4, .long y8), (7, .long v5), (0, .ref h0), (1, .ref h1), (2, .ref h2), (3, .int x3), (6, .int x6)] dX5_addsOf_64 (by decide) rfl ?_
        refine r_iinc C 6 (fun y9 => [(6, .int y9), (4, .long y8), (7, .long v5), (0, .ref h0), (1, .ref h1), (2, .ref h2), (3, .int x3)]) dX5_addsOf_66 rfl (v := (1 : Int32)) (by decide) (by decide) (fun _ => rfl) (fun y9 => ?_)
        refine r_goto C 15 dX5_addsOf_69 (by decide) ?_
        refine r_sub [3, 4, 5, 6, 1, 0] [(0, .ref h0), (1, .ref h1), (2, .ref h2), (3, .int x3), (4, .long y8), (6, .int y9)] rfl ?_
        exact ih S7 h0 h1 h2 x3 y8 y9 th0 th1 th2
set_option maxRecDepth 100000 in
set_option maxHeartbeats 4000000 in
theorem c_X5_addsOf (l : Launch) (E : EN) (n : Nat) (h0 : Nat) (h1 : Nat) (h2 : Nat) (x3 : Int32) (th0 : Ty E h0 4) (th1 : Ty E h1 2) (th2 : TyC E h2) : CT l E yX5_addsOf cX5_addsOf 9 (some .long) 2 50 wJ tT [.ref h0, .ref h1, .ref h2, .int x3] (fun S => f_X5_addsOf E n S h0 h1 h2 x3) := by
  refine ct_of RX5 (by decide +kernel) rfl [(0, .ref h0), (1, .ref h1), (2, .ref h2), (3, .int x3)] rfl (Nat.le_of_ble_eq_true rfl) (fun A S hA C X => ?_)
  subst hA
  show Gd A E 9 (QM A E wJ tT) (f_X5_addsOf E n S h0 h1 h2 x3) S 0 [(0, .ref h0), (1, .ref h1), (2, .ref h2), (3, .int x3)] []
  unfold f_X5_addsOf
  refine r_lconst C (0 : Int64) dX5_addsOf_0 (by decide) ?_
  refine r_lstore C [(4, .long (0 : Int64)), (0, .ref h0), (1, .ref h1), (2, .ref h2), (3, .int x3)] dX5_addsOf_1 (by decide) rfl ?_
  refine r_aload_n C 1 dX5_addsOf_3 rfl ?_
  refine r_getr C fl_X5_15 dX5_addsOf_4 th0 (fun b1 tb1 => ?_)
  refine r_iload_n C 4 dX5_addsOf_7 rfl ?_
  refine r_iconst C (5 : Int32) dX5_addsOf_8 (by decide) ?_
  refine r_imul C dX5_addsOf_9 ?_
  refine r_lconst C (0 : Int64) dX5_addsOf_10 (by decide) ?_
  refine r_last C dX5_addsOf_11 tb1 (fun S2 => ?_)
  refine r_iconst C (0 : Int32) dX5_addsOf_12 (by decide) ?_
  refine r_istore C [(6, .int (0 : Int32)), (4, .long (0 : Int64)), (0, .ref h0), (1, .ref h1), (2, .ref h2), (3, .int x3)] dX5_addsOf_13 (by decide) rfl ?_
  refine r_sub [2, 3, 4, 5, 1, 0] [(0, .ref h0), (1, .ref h1), (2, .ref h2), (3, .int x3), (4, .long (0 : Int64)), (6, .int (0 : Int32))] rfl ?_
  exact p_X5_addsOf_L15 C X  n S2 h0 h1 h2 x3 (0 : Int64) (0 : Int32) th0 th1 th2
set_option maxRecDepth 100000 in
set_option maxHeartbeats 4000000 in
theorem p_X5_chooseOn_L57 {A : AM} {E : EN} {n : Nat} {d : Nat} (C : Cx A E cX5_chooseOn 11 RX5 (d + 1 + 4) (40 * (d + 1) + 137)) (X : Ex A E none) (rc : WS → Nat → Nat → Int32 → Int64 → Int32 → Int32 → Option (Unit × WS)) (hrc : ∀ (h0 : Nat) (h1 : Nat) (x2 : Int32) (x3 : Int64) (x5 : Int32) (x6 : Int32) (_ : Ty E h0 4) (_ : TyC E h1), CT (aml A) E yX5_chooseOn cX5_chooseOn 11 none (d + 4) (40 * d + 137) wV tT [.ref h0, .ref h1, .int x2, .long x3, .int x5, .int x6] (fun S => rc S h0 h1 x2 x3 x5 x6))  : ∀ (m : Nat) (S : WS) (h0 : Nat) (h1 : Nat) (x2 : Int32) (x3 : Int64) (x5 : Int32) (x6 : Int32) (x8 : Int32) (th0 : Ty E h0 4) (th1 : TyC E h1), Gd A E 11 (QM A E wV tT) (f_X5_chooseOn_L57 E n rc  m S h0 h1 x2 x3 x5 x6 x8) S 57 [(0, .ref h0), (1, .ref h1), (2, .int x2), (3, .long x3), (5, .int x5), (6, .int x6), (8, .int x8)] [] := by
  intro m
  induction m with
  | zero => intros; exact gn
  | succ m ih =>
    intro S h0 h1 x2 x3 x5 x6 x8 th0 th1
    unfold f_X5_chooseOn_L57
    refine r_iload C 6 dX5_chooseOn_57 rfl ?_
    refine r_iconst C (5 : Int32) dX5_chooseOn_59 (by decide) ?_
    refine r_icmp_ge C 150 dX5_chooseOn_60 (by decide) ?_ ?_
    · exact r_return C X dX5_chooseOn_150
    · refine r_aload_n C 0 dX5_chooseOn_63 rfl ?_
      refine r_getr C fl_X5_9 dX5_chooseOn_64 th0 (fun b1 tb1 => ?_)
      refine r_iload_n C 2 dX5_chooseOn_67 rfl ?_
      refine r_iald C dX5_chooseOn_68 tb1 ?_
      refine r_iload C 6 dX5_chooseOn_69 rfl ?_
      refine r_ishr C dX5_chooseOn_71 ?_
      refine r_iconst C (1 : Int32) dX5_chooseOn_72 (by decide) ?_
      refine r_iand C dX5_chooseOn_73 ?_
      refine r_iconst C (1 : Int32) dX5_chooseOn_74 (by decide) ?_
      refine r_icmp_ne C 144 dX5_chooseOn_75 (by decide) ?_ ?_
      · refine r_iinc C 6 (fun y2 => [(8, .int y2), (0, .ref h0), (1, .ref h1), (2, .int x2), (3, .long x3), (5, .int x5), (6, .int x6)]) dX5_chooseOn_144 rfl (v := (1 : Int32)) (by decide) (by decide) (fun _ => rfl) (fun y2 => ?_)
        refine r_goto C 57 dX5_chooseOn_147 (by decide) ?_
        refine r_sub [1, 2, 3, 4, 5, 6, 0] [(0, .ref h0), (1, .ref h1), (2, .int x2), (3, .long x3), (5, .int x5), (6, .int x6), (8, .int y2)] rfl ?_
        exact ih S h0 h1 x2 x3 x5 x6 y2 th0 th1
      · refine r_aload_n C 0 dX5_chooseOn_78 rfl ?_
        refine r_getr C fl_X5_25 dX5_chooseOn_79 th0 (fun b3 tb3 => ?_)
        refine r_iload_n C 2 dX5_chooseOn_82 rfl ?_
        refine r_iload C 6 dX5_chooseOn_83 rfl ?_
        refine r_iast C dX5_chooseOn_85 tb3 (fun S4 => ?_)
        refine r_lload_n C 3 dX5_chooseOn_86 rfl ?_
        refine r_aload_n C 0 dX5_chooseOn_87 rfl ?_
        refine r_getr C fl_X5_15 dX5_chooseOn_88 th0 (fun b5 tb5 => ?_)
        refine r_iload_n C 2 dX5_chooseOn_91 rfl ?_
        refine r_iconst C (5 : Int32) dX5_chooseOn_92 (by decide) ?_
        refine r_imul C dX5_chooseOn_93 ?_
        refine r_iload C 6 dX5_chooseOn_94 rfl ?_
        refine r_iadd C dX5_chooseOn_96 ?_
        refine r_lald C dX5_chooseOn_97 tb5 ?_
        refine r_ladd C dX5_chooseOn_98 ?_
        refine r_topl (fun y6 => ?_)
        refine r_lstore C [(9, .long y6), (0, .ref h0), (1, .ref h1), (2, .int x2), (3, .long x3), (5, .int x5), (6, .int x6), (8, .int x8)] dX5_chooseOn_99 (by decide) rfl ?_
        refine r_iload C 7 dX5_chooseOn_101 rfl ?_
        refine r_if_ne C 123 dX5_chooseOn_103 (by decide) ?_ ?_
        · refine r_aload_n C 1 dX5_chooseOn_123 rfl ?_
          refine r_aload_n C 2 dX5_chooseOn_124 rfl ?_
          refine r_iload_n C 3 dX5_chooseOn_125 rfl ?_
          refine r_iconst C (1 : Int32) dX5_chooseOn_126 (by decide) ?_
          refine r_iadd C dX5_chooseOn_127 ?_
          refine r_lload C 0 dX5_chooseOn_128 rfl ?_
          refine r_iload C 5 dX5_chooseOn_130 rfl ?_
          refine r_iconst C (1 : Int32) dX5_chooseOn_132 (by decide) ?_
          refine r_iload C 7 dX5_chooseOn_133 rfl ?_
          refine r_ishl C dX5_chooseOn_135 ?_
          refine r_ior C dX5_chooseOn_136 ?_
          refine r_iload C 6 dX5_chooseOn_137 rfl ?_
          refine r_iconst C (1 : Int32) dX5_chooseOn_139 (by decide) ?_
          refine r_iadd C dX5_chooseOn_140 ?_
          refine r_callS (As := [.ref h0, .ref h1, .int (x2 + (1 : Int32)), .long y6, .int (x5 ||| ((1 : Int32) <<< (x8 &&& 31))), .int (x6 + (1 : Int32))]) (rest := []) C (hrc h0 h1 (x2 + (1 : Int32)) y6 (x5 ||| ((1 : Int32) <<< (x8 &&& 31))) (x6 + (1 : Int32)) th0 th1) dX5_chooseOn_141 ml_X5_69 mv_X5_chooseOn rfl rfl ⟨by omega, by omega⟩ (Nat.le_of_ble_eq_true rfl) (fun v8 S7 hv8 => ?_)
          refine r_iinc C 7 (fun y9 => [(8, .int y9), (9, .long y6), (0, .ref h0), (1, .ref h1), (2, .int x2), (3, .long x3), (5, .int x5), (6, .int x6)]) dX5_chooseOn_144 rfl (v := (1 : Int32)) (by decide) (by decide) (fun _ => rfl) (fun y9 => ?_)
          refine r_goto C 57 dX5_chooseOn_147 (by decide) ?_
          refine r_sub [2, 3, 4, 5, 6, 7, 0] [(0, .ref h0), (1, .ref h1), (2, .int x2), (3, .long x3), (5, .int x5), (6, .int x6), (8, .int y9)] rfl ?_
          exact ih S7 h0 h1 x2 x3 x5 x6 y9 th0 th1
        · refine r_aload_n C 1 dX5_chooseOn_106 rfl ?_
          refine r_aload_n C 2 dX5_chooseOn_107 rfl ?_
          refine r_iload_n C 3 dX5_chooseOn_108 rfl ?_
          refine r_iconst C (1 : Int32) dX5_chooseOn_109 (by decide) ?_
          refine r_iadd C dX5_chooseOn_110 ?_
          refine r_lload C 0 dX5_chooseOn_111 rfl ?_
          refine r_iload C 5 dX5_chooseOn_113 rfl ?_
          refine r_iload C 6 dX5_chooseOn_115 rfl ?_
          refine r_callS (As := [.ref h0, .ref h1, .int (x2 + (1 : Int32)), .long y6, .int x5, .int x6]) (rest := []) C (hrc h0 h1 (x2 + (1 : Int32)) y6 x5 x6 th0 th1) dX5_chooseOn_117 ml_X5_69 mv_X5_chooseOn rfl rfl ⟨by omega, by omega⟩ (Nat.le_of_ble_eq_true rfl) (fun v11 S10 hv11 => ?_)
          refine r_goto C 144 dX5_chooseOn_120 (by decide) ?_
          refine r_iinc C 7 (fun y12 => [(8, .int y12), (9, .long y6), (0, .ref h0), (1, .ref h1), (2, .int x2), (3, .long x3), (5, .int x5), (6, .int x6)]) dX5_chooseOn_144 rfl (v := (1 : Int32)) (by decide) (by decide) (fun _ => rfl) (fun y12 => ?_)
          refine r_goto C 57 dX5_chooseOn_147 (by decide) ?_
          refine r_sub [2, 3, 4, 5, 6, 7, 0] [(0, .ref h0), (1, .ref h1), (2, .int x2), (3, .long x3), (5, .int x5), (6, .int x6), (8, .int y12)] rfl ?_
          exact ih S10 h0 h1 x2 x3 x5 x6 y12 th0 th1
set_option maxRecDepth 100000 in
set_option maxHeartbeats 4000000 in
theorem c_X5_chooseOn (l : Launch) (E : EN) (n : Nat) : ∀ (d : Nat) (h0 : Nat) (h1 : Nat) (x2 : Int32) (x3 : Int64) (x5 : Int32) (x6 : Int32) (th0 : Ty E h0 4) (th1 : TyC E h1), CT l E yX5_chooseOn cX5_chooseOn 11 none (d + 4) (40 * d + 137) wV tT [.ref h0, .ref h1, .int x2, .long x3, .int x5, .int x6] (fun S => f_X5_chooseOn E n d S h0 h1 x2 x3 x5 x6) := by
  intro d
  induction d with
  | zero => intros; intro S x hx; cases hx
  | succ d ih =>
    intro h0 h1 x2 x3 x5 x6 th0 th1
    refine ct_of RX5 (by decide +kernel) rfl [(0, .ref h0), (1, .ref h1), (2, .int x2), (3, .long x3), (5, .int x5), (6, .int x6)] rfl (Nat.le_of_ble_eq_true rfl) (fun A S hA C X => ?_)
    subst hA
    show Gd A E 11 (QM A E wV tT) (f_X5_chooseOn E n (d + 1) S h0 h1 x2 x3 x5 x6) S 0 [(0, .ref h0), (1, .ref h1), (2, .int x2), (3, .long x3), (5, .int x5), (6, .int x6)] []
    unfold f_X5_chooseOn
    refine r_iload_n C 2 dX5_chooseOn_0 rfl ?_
    refine r_aload_n C 0 dX5_chooseOn_1 rfl ?_
    refine r_geti C fl_X5_40 dX5_chooseOn_2 th0 ?_
    refine r_icmp_le C 9 dX5_chooseOn_5 (by decide) ?_ ?_
    · refine r_aload_n C 1 dX5_chooseOn_9 rfl ?_
      refine r_lload_n C 3 dX5_chooseOn_10 rfl ?_
      refine r_lload_n C 3 dX5_chooseOn_11 rfl ?_
      refine r_aload_n C 0 dX5_chooseOn_12 rfl ?_
      refine r_getr C fl_X5_19 dX5_chooseOn_13 th0 (fun b1 tb1 => ?_)
      refine r_iload_n C 2 dX5_chooseOn_16 rfl ?_
      refine r_lald C dX5_chooseOn_17 tb1 ?_
      refine r_ladd C dX5_chooseOn_18 ?_
      refine r_A_judge (own := RX5) (rest := []) C dX5_chooseOn_19 ma_X5_86_0 ma_X5_86_1 h1 x3 (x3 + (aj S b1 x2.toNatClampNeg)) th1 ⟨by omega, by omega⟩ ⟨by omega, by omega⟩ (Nat.le_of_ble_eq_true rfl) (fun v3 S2 hv3 => ?_)
      refine r_istore C [(7, .int v3), (0, .ref h0), (1, .ref h1), (2, .int x2), (3, .long x3), (5, .int x5), (6, .int x6)] dX5_chooseOn_22 (by decide) rfl ?_
      refine r_iload C 0 dX5_chooseOn_24 rfl ?_
      refine r_iconst C (1 : Int32) dX5_chooseOn_26 (by decide) ?_
      refine r_icmp_ne C 39 dX5_chooseOn_27 (by decide) ?_ ?_
      · refine r_iload C 0 dX5_chooseOn_39 rfl ?_
        refine r_iconst C (2 : Int32) dX5_chooseOn_41 (by decide) ?_
        refine r_icmp_ne C 53 dX5_chooseOn_42 (by decide) ?_ ?_
        · exact r_return C X dX5_chooseOn_53
        · refine r_iload_n C 3 dX5_chooseOn_45 rfl ?_
          refine r_aload_n C 1 dX5_chooseOn_46 rfl ?_
          refine r_geti C fl_X5_40 dX5_chooseOn_47 th0 ?_
          refine r_icmp_ne C 54 dX5_chooseOn_50 (by decide) ?_ ?_
          · refine r_iconst C (0 : Int32) dX5_chooseOn_54 (by decide) ?_
            refine r_istore C [(8, .int (0 : Int32)), (7, .int v3), (0, .ref h0), (1, .ref h1), (2, .int x2), (3, .long x3), (5, .int x5), (6, .int x6)] dX5_chooseOn_55 (by decide) rfl ?_
            refine r_sub [2, 3, 4, 5, 6, 7, 0] [(0, .ref h0), (1, .ref h1), (2, .int x2), (3, .long x3), (5, .int x5), (6, .int x6), (8, .int (0 : Int32))] rfl ?_
            exact p_X5_chooseOn_L57 C X (f_X5_chooseOn E n d) ih  n S2 h0 h1 x2 x3 x5 x6 (0 : Int32) th0 th1
          · exact r_return C X dX5_chooseOn_53
      · refine r_aload_n C 1 dX5_chooseOn_30 rfl ?_
        refine r_iload_n C 3 dX5_chooseOn_31 rfl ?_
        refine r_iload C 5 dX5_chooseOn_32 rfl ?_
        refine r_iload C 6 dX5_chooseOn_34 rfl ?_
        refine r_callV (As := [.int x2, .int x5, .int x6]) (rest := []) C (c_X5_noteAll _ E n h0 x2 x5 x6 th0) dX5_chooseOn_36 ml_X5_90 mv_X5_noteAll ⟨TX5, _, rfl⟩ (by decide) th0 rfl rfl ⟨by omega, by omega⟩ (Nat.le_of_ble_eq_true rfl) (fun v5 S4 hv5 => ?_)
        refine r_iload C 0 dX5_chooseOn_39 rfl ?_
        refine r_iconst C (2 : Int32) dX5_chooseOn_41 (by decide) ?_
        refine r_icmp_ne C 53 dX5_chooseOn_42 (by decide) ?_ ?_
        · exact r_return C X dX5_chooseOn_53
        · refine r_iload_n C 3 dX5_chooseOn_45 rfl ?_
          refine r_aload_n C 1 dX5_chooseOn_46 rfl ?_
          refine r_geti C fl_X5_40 dX5_chooseOn_47 th0 ?_
          refine r_icmp_ne C 54 dX5_chooseOn_50 (by decide) ?_ ?_
          · refine r_iconst C (0 : Int32) dX5_chooseOn_54 (by decide) ?_
            refine r_istore C [(8, .int (0 : Int32)), (7, .int v3), (0, .ref h0), (1, .ref h1), (2, .int x2), (3, .long x3), (5, .int x5), (6, .int x6)] dX5_chooseOn_55 (by decide) rfl ?_
            refine r_sub [2, 3, 4, 5, 6, 7, 0] [(0, .ref h0), (1, .ref h1), (2, .int x2), (3, .long x3), (5, .int x5), (6, .int x6), (8, .int (0 : Int32))] rfl ?_
            exact p_X5_chooseOn_L57 C X (f_X5_chooseOn E n d) ih  n S4 h0 h1 x2 x3 x5 x6 (0 : Int32) th0 th1
          · exact r_return C X dX5_chooseOn_53
    · exact r_return C X dX5_chooseOn_8
set_option maxRecDepth 100000 in
set_option maxHeartbeats 4000000 in
theorem p_X5_seek_L66 {A : AM} {E : EN} {n : Nat} (C : Cx A E cX5_seek 4 RX5 17 647) (X : Ex A E none)  : ∀ (m : Nat) (S : WS) (h0 : Nat) (h1 : Nat) (h2 : Nat) (x3 : Int32) (th0 : Ty E h0 4) (th1 : Ty E h1 2) (th2 : TyC E h2), Gd A E 4 (QM A E wV tT) (f_X5_seek_L66 E n  m S h0 h1 h2 x3) S 66 [(0, .ref h0), (1, .ref h1), (2, .ref h2), (3, .int x3)] [] := by
  intro m
  induction m with
  | zero => intros; exact gn
  | succ m ih =>
    intro S h0 h1 h2 x3 th0 th1 th2
    unfold f_X5_seek_L66
    refine r_iload_n C 3 dX5_seek_66 rfl ?_
    refine r_if_lt C 138 dX5_seek_67 (by decide) ?_ ?_
    · refine r_aload_n C 0 dX5_seek_138 rfl ?_
      refine r_aload_n C 2 dX5_seek_139 rfl ?_
      refine r_iconst C (0 : Int32) dX5_seek_140 (by decide) ?_
      refine r_lconst C (0 : Int64) dX5_seek_141 (by decide) ?_
      refine r_iconst C (0 : Int32) dX5_seek_142 (by decide) ?_
      refine r_iconst C (0 : Int32) dX5_seek_143 (by decide) ?_
      refine r_callS (As := [.ref h0, .ref h2, .int (0 : Int32), .long (0 : Int64), .int (0 : Int32), .int (0 : Int32)]) (rest := []) C (c_X5_chooseOn _ E n 12 h0 h2 (0 : Int32) (0 : Int64) (0 : Int32) (0 : Int32) th0 th2) dX5_seek_144 ml_X5_69 mv_X5_chooseOn rfl rfl ⟨by decide, by decide⟩ (Nat.le_of_ble_eq_true rfl) (fun v2 S1 hv2 => ?_)
      exact r_return C X dX5_seek_147
    · refine r_aload_n C 0 dX5_seek_70 rfl ?_
      refine r_getr C fl_X5_9 dX5_seek_71 th0 (fun b3 tb3 => ?_)
      refine r_iload_n C 3 dX5_seek_74 rfl ?_
      refine r_aload_n C 1 dX5_seek_75 rfl ?_
      refine r_getr C fl_X5_56 dX5_seek_76 th1 (fun b4 tb4 => ?_)
      refine r_iload_n C 3 dX5_seek_79 rfl ?_
      refine r_iald C dX5_seek_80 tb4 ?_
      refine r_iconst C (1 : Int32) dX5_seek_81 (by decide) ?_
      refine r_ishl C dX5_seek_82 ?_
      refine r_iconst C (1 : Int32) dX5_seek_83 (by decide) ?_
      refine r_ior C dX5_seek_84 ?_
      refine r_iast C dX5_seek_85 tb3 (fun S5 => ?_)
      refine r_aload_n C 0 dX5_seek_86 rfl ?_
      refine r_getr C fl_X5_19 dX5_seek_87 th0 (fun b6 tb6 => ?_)
      refine r_iload_n C 3 dX5_seek_90 rfl ?_
      refine r_aload_n C 0 dX5_seek_91 rfl ?_
      refine r_getr C fl_X5_19 dX5_seek_92 th0 (fun b7 tb7 => ?_)
      refine r_iload_n C 3 dX5_seek_95 rfl ?_
      refine r_iconst C (1 : Int32) dX5_seek_96 (by decide) ?_
      refine r_iadd C dX5_seek_97 ?_
      refine r_lald C dX5_seek_98 tb7 ?_
      refine r_aload_n C 0 dX5_seek_99 rfl ?_
      refine r_aload_n C 1 dX5_seek_100 rfl ?_
      refine r_aload_n C 2 dX5_seek_101 rfl ?_
      refine r_iload_n C 3 dX5_seek_102 rfl ?_
      refine r_callV (As := [.ref h1, .ref h2, .int x3]) (rest := [.long (aj S5 b7 (x3 + (1 : Int32)).toNatClampNeg), .int x3, .ref b6]) C (c_X5_addsOf _ E n h0 h1 h2 x3 th0 th1 th2) dX5_seek_103 ml_X5_59 mv_X5_addsOf ⟨TX5, _, rfl⟩ (by decide) th0 rfl rfl ⟨by decide, by decide⟩ (Nat.le_of_ble_eq_true rfl) (fun v9 S8 hv9 => ?_)
      refine r_ladd C dX5_seek_106 ?_
      refine r_last C dX5_seek_107 tb6 (fun S10 => ?_)
      refine r_aload_n C 0 dX5_seek_108 rfl ?_
      refine r_getr C fl_X5_22 dX5_seek_109 th0 (fun b11 tb11 => ?_)
      refine r_iload_n C 3 dX5_seek_112 rfl ?_
      refine r_aload_n C 0 dX5_seek_113 rfl ?_
      refine r_getr C fl_X5_22 dX5_seek_114 th0 (fun b12 tb12 => ?_)
      refine r_iload_n C 3 dX5_seek_117 rfl ?_
      refine r_iconst C (1 : Int32) dX5_seek_118 (by decide) ?_
      refine r_iadd C dX5_seek_119 ?_
      refine r_iald C dX5_seek_120 tb12 ?_
      refine r_aload_n C 0 dX5_seek_121 rfl ?_
      refine r_getr C fl_X5_9 dX5_seek_122 th0 (fun b13 tb13 => ?_)
      refine r_iload_n C 3 dX5_seek_125 rfl ?_
      refine r_iald C dX5_seek_126 tb13 ?_
      refine r_callS (As := [.int (ai S10 b13 x3.toNatClampNeg)]) (rest := [.int (ai S10 b12 (x3 + (1 : Int32)).toNatClampNeg), .int x3, .ref b11]) C (c_J6_bitCount_0f7a4 _ E n (ai S10 b13 x3.toNatClampNeg) ) dX5_seek_127 ml_X5_63 mv_J6_bitCount_0f7a4 rfl rfl ⟨by decide, by decide⟩ (Nat.le_of_ble_eq_true rfl) (fun v15 S14 hv15 => ?_)
      refine r_imul C dX5_seek_130 ?_
      refine r_iast C dX5_seek_131 tb11 (fun S16 => ?_)
      refine r_iinc C 3 (fun y17 => [(3, .int y17), (0, .ref h0), (1, .ref h1), (2, .ref h2)]) dX5_seek_132 rfl (v := (-1 : Int32)) (by decide) (by decide) (fun _ => rfl) (fun y17 => ?_)
      refine r_goto C 66 dX5_seek_135 (by decide) ?_
      refine r_sub [1, 2, 3, 0] [(0, .ref h0), (1, .ref h1), (2, .ref h2), (3, .int y17)] rfl ?_
      exact ih S16 h0 h1 h2 y17 th0 th1 th2
set_option maxRecDepth 100000 in
set_option maxHeartbeats 4000000 in
theorem c_X5_seek (l : Launch) (E : EN) (n : Nat) (h0 : Nat) (h1 : Nat) (h2 : Nat) (th0 : Ty E h0 4) (th1 : Ty E h1 2) (th2 : TyC E h2) : CT l E yX5_seek cX5_seek 4 none 17 647 wV tT [.ref h0, .ref h1, .ref h2] (fun S => f_X5_seek E n S h0 h1 h2) := by
  refine ct_of RX5 (by decide +kernel) rfl [(0, .ref h0), (1, .ref h1), (2, .ref h2)] rfl (Nat.le_of_ble_eq_true rfl) (fun A S hA C X => ?_)
  subst hA
  show Gd A E 4 (QM A E wV tT) (f_X5_seek E n S h0 h1 h2) S 0 [(0, .ref h0), (1, .ref h1), (2, .ref h2)] []
  unfold f_X5_seek
  refine r_aload_n C 0 dX5_seek_0 rfl ?_
  refine r_aload_n C 1 dX5_seek_1 rfl ?_
  refine r_geti C fl_X5_34 dX5_seek_2 th1 ?_
  refine r_puti C fl_X5_40 dX5_seek_5 th0 (fun S1 => ?_)
  refine r_aload_n C 0 dX5_seek_8 rfl ?_
  refine r_iconst C (0 : Int32) dX5_seek_9 (by decide) ?_
  refine r_puti C fl_X5_41 dX5_seek_10 th0 (fun S2 => ?_)
  refine r_aload_n C 0 dX5_seek_13 rfl ?_
  refine r_iconst C (-1 : Int32) dX5_seek_14 (by decide) ?_
  refine r_puti C fl_X5_44 dX5_seek_15 th0 (fun S3 => ?_)
  refine r_aload_n C 0 dX5_seek_18 rfl ?_
  refine r_iconst C (-1 : Int32) dX5_seek_19 (by decide) ?_
  refine r_puti C fl_X5_47 dX5_seek_20 th0 (fun S4 => ?_)
  refine r_aload_n C 0 dX5_seek_23 rfl ?_
  refine r_getr C fl_X5_28 dX5_seek_24 th0 (fun b5 tb5 => ?_)
  refine r_iconst C (-1 : Int32) dX5_seek_27 (by decide) ?_
  refine r_callS (As := [.ref b5, .int (-1 : Int32)]) (rest := []) C (c_J7_fill_53178 _ E n b5 (-1 : Int32) tb5) dX5_seek_28 ml_X5_50 mv_J7_fill_53178 rfl rfl ⟨by decide, by decide⟩ (Nat.le_of_ble_eq_true rfl) (fun v7 S6 hv7 => ?_)
  refine r_aload_n C 0 dX5_seek_31 rfl ?_
  refine r_getr C fl_X5_31 dX5_seek_32 th0 (fun b8 tb8 => ?_)
  refine r_iconst C (0 : Int32) dX5_seek_35 (by decide) ?_
  refine r_callS (As := [.ref b8, .int (0 : Int32)]) (rest := []) C (c_J7_fill_53178 _ E n b8 (0 : Int32) tb8) dX5_seek_36 ml_X5_50 mv_J7_fill_53178 rfl rfl ⟨by decide, by decide⟩ (Nat.le_of_ble_eq_true rfl) (fun v10 S9 hv10 => ?_)
  refine r_aload_n C 0 dX5_seek_39 rfl ?_
  refine r_getr C fl_X5_19 dX5_seek_40 th0 (fun b11 tb11 => ?_)
  refine r_aload_n C 0 dX5_seek_43 rfl ?_
  refine r_geti C fl_X5_40 dX5_seek_44 th0 ?_
  refine r_lconst C (0 : Int64) dX5_seek_47 (by decide) ?_
  refine r_last C dX5_seek_48 tb11 (fun S12 => ?_)
  refine r_aload_n C 0 dX5_seek_49 rfl ?_
  refine r_getr C fl_X5_22 dX5_seek_50 th0 (fun b13 tb13 => ?_)
  refine r_aload_n C 0 dX5_seek_53 rfl ?_
  refine r_geti C fl_X5_40 dX5_seek_54 th0 ?_
  refine r_iconst C (1 : Int32) dX5_seek_57 (by decide) ?_
  refine r_iast C dX5_seek_58 tb13 (fun S14 => ?_)
  refine r_aload_n C 0 dX5_seek_59 rfl ?_
  refine r_geti C fl_X5_40 dX5_seek_60 th0 ?_
  refine r_iconst C (1 : Int32) dX5_seek_63 (by decide) ?_
  refine r_isub C dX5_seek_64 ?_
  refine r_topi (fun y15 => ?_)
  refine r_istore_n C [(3, .int y15), (0, .ref h0), (1, .ref h1), (2, .ref h2)] dX5_seek_65 (by decide) rfl ?_
  refine r_sub [1, 2, 3, 0] [(0, .ref h0), (1, .ref h1), (2, .ref h2), (3, .int y15)] rfl ?_
  exact p_X5_seek_L66 C X  n S14 h0 h1 h2 y15 th0 th1 th2
set_option maxRecDepth 100000 in
set_option maxHeartbeats 4000000 in
theorem c_X8_searchComing (l : Launch) (E : EN) (n : Nat) (h0 : Nat) (x1 : Int32) (x2 : Int32) (x3 : Int32) (x4 : Int32) (th0 : Ty E h0 7) : CT l E yX8_searchComing cX8_searchComing 5 none 18 670 wV tT [.ref h0, .int x1, .int x2, .int x3, .int x4] (fun S => f_X8_searchComing E n S h0 x1 x2 x3 x4) := by
  refine ct_of RX8 (by decide +kernel) rfl [(0, .ref h0), (1, .int x1), (2, .int x2), (3, .int x3), (4, .int x4)] rfl (Nat.le_of_ble_eq_true rfl) (fun A S hA C X => ?_)
  subst hA
  show Gd A E 5 (QM A E wV tT) (f_X8_searchComing E n S h0 x1 x2 x3 x4) S 0 [(0, .ref h0), (1, .int x1), (2, .int x2), (3, .int x3), (4, .int x4)] []
  unfold f_X8_searchComing
  refine r_aload_n C 0 dX8_searchComing_0 rfl ?_
  refine r_getr C fl_X8_65 dX8_searchComing_1 th0 (fun b1 tb1 => ?_)
  refine r_aload_n C 0 dX8_searchComing_4 rfl ?_
  refine r_getr C fl_X8_27 dX8_searchComing_5 th0 (fun b2 tb2 => ?_)
  refine r_iload_n C 1 dX8_searchComing_8 rfl ?_
  refine r_iload_n C 2 dX8_searchComing_9 rfl ?_
  refine r_iload_n C 3 dX8_searchComing_10 rfl ?_
  refine r_iload C 4 dX8_searchComing_11 rfl ?_
  refine r_callV (As := [.ref b2, .int x1, .int x2, .int x3, .int x4]) (rest := []) C (c_X0_aimAt _ E n b1 b2 x1 x2 x3 x4 tb1 tb2) dX8_searchComing_13 ml_X8_304 mv_X0_aimAt ⟨TX0, _, rfl⟩ (by decide) tb1 rfl rfl ⟨by decide, by decide⟩ (Nat.le_of_ble_eq_true rfl) (fun v4 S3 hv4 => ?_)
  refine r_aload_n C 0 dX8_searchComing_16 rfl ?_
  refine r_getr C fl_X8_58 dX8_searchComing_17 th0 (fun b5 tb5 => ?_)
  refine r_aload_n C 0 dX8_searchComing_20 rfl ?_
  refine r_getr C fl_X8_27 dX8_searchComing_21 th0 (fun b6 tb6 => ?_)
  refine r_aload_n C 0 dX8_searchComing_24 rfl ?_
  refine r_getr C fl_X8_65 dX8_searchComing_25 th0 (fun b7 tb7 => ?_)
  refine r_callV (As := [.ref b6, .ref b7]) (rest := []) C (c_X5_seek _ E n b5 b6 b7 tb5 tb6 (Or.inl tb7)) dX8_searchComing_28 ml_X8_308 mv_X5_seek ⟨TX5, _, rfl⟩ (by decide) tb5 rfl rfl ⟨by decide, by decide⟩ (Nat.le_of_ble_eq_true rfl) (fun v9 S8 hv9 => ?_)
  exact r_return C X dX8_searchComing_31
set_option maxRecDepth 100000 in
set_option maxHeartbeats 4000000 in
theorem c_X8_fewest (l : Launch) (E : EN) (n : Nat) (h0 : Nat) (x1 : Int32) (x2 : Int32) (x3 : Int32) (th0 : Ty E h0 7) : CT l E yX8_fewest cX8_fewest 4 (some .int) 19 694 wI tT [.ref h0, .int x1, .int x2, .int x3] (fun S => f_X8_fewest E n S h0 x1 x2 x3) := by
  refine ct_of RX8 (by decide +kernel) rfl [(0, .ref h0), (1, .int x1), (2, .int x2), (3, .int x3)] rfl (Nat.le_of_ble_eq_true rfl) (fun A S hA C X => ?_)
  subst hA
  show Gd A E 4 (QM A E wI tT) (f_X8_fewest E n S h0 x1 x2 x3) S 0 [(0, .ref h0), (1, .int x1), (2, .int x2), (3, .int x3)] []
  unfold f_X8_fewest
  refine r_aload_n C 0 dX8_fewest_0 rfl ?_
  refine r_iload_n C 1 dX8_fewest_1 rfl ?_
  refine r_iload_n C 2 dX8_fewest_2 rfl ?_
  refine r_iload_n C 3 dX8_fewest_3 rfl ?_
  refine r_callV (As := [.int x1, .int x2, .int x3]) (rest := []) C (c_X8_knowsWay _ E n h0 x1 x2 x3 th0) dX8_fewest_4 ml_X8_228 mv_X8_knowsWay ⟨TX8, _, rfl⟩ (by decide) th0 rfl rfl ⟨by decide, by decide⟩ (Nat.le_of_ble_eq_true rfl) (fun v2 S1 hv2 => ?_)
  refine r_if_ne C 13 dX8_fewest_7 (by decide) ?_ ?_
  · refine r_aload_n C 0 dX8_fewest_13 rfl ?_
    refine r_iload_n C 1 dX8_fewest_14 rfl ?_
    refine r_iload_n C 1 dX8_fewest_15 rfl ?_
    refine r_iconst C (1 : Int32) dX8_fewest_16 (by decide) ?_
    refine r_iadd C dX8_fewest_17 ?_
    refine r_iload_n C 2 dX8_fewest_18 rfl ?_
    refine r_iload_n C 3 dX8_fewest_19 rfl ?_
    refine r_callV (As := [.int x1, .int (x1 + (1 : Int32)), .int x2, .int x3]) (rest := []) C (c_X8_searchComing _ E n h0 x1 (x1 + (1 : Int32)) x2 x3 th0) dX8_fewest_20 ml_X8_312 mv_X8_searchComing ⟨TX8, _, rfl⟩ (by decide) th0 rfl rfl ⟨by decide, by decide⟩ (Nat.le_of_ble_eq_true rfl) (fun v4 S3 hv4 => ?_)
    refine r_aload_n C 0 dX8_fewest_23 rfl ?_
    refine r_getr C fl_X8_58 dX8_fewest_24 th0 (fun b5 tb5 => ?_)
    refine r_geti C fl_X8_316 dX8_fewest_27 tb5 ?_
    exact r_ireturn C X dX8_fewest_30
  · refine r_bipush C (-2 : Int32) dX8_fewest_10 (by decide) ?_
    exact r_ireturn C X dX8_fewest_12
set_option maxRecDepth 100000 in
set_option maxHeartbeats 4000000 in
theorem c_X8_whom (l : Launch) (E : EN) (n : Nat) (h0 : Nat) (x1 : Int32) (x2 : Int32) (x3 : Int32) (x4 : Int32) (th0 : Ty E h0 7) : CT l E yX8_whom cX8_whom 5 (some .int) 19 694 wI tT [.ref h0, .int x1, .int x2, .int x3, .int x4] (fun S => f_X8_whom E n S h0 x1 x2 x3 x4) := by
  refine ct_of RX8 (by decide +kernel) rfl [(0, .ref h0), (1, .int x1), (2, .int x2), (3, .int x3), (4, .int x4)] rfl (Nat.le_of_ble_eq_true rfl) (fun A S hA C X => ?_)
  subst hA
  show Gd A E 5 (QM A E wI tT) (f_X8_whom E n S h0 x1 x2 x3 x4) S 0 [(0, .ref h0), (1, .int x1), (2, .int x2), (3, .int x3), (4, .int x4)] []
  unfold f_X8_whom
  refine r_aload_n C 0 dX8_whom_0 rfl ?_
  refine r_iload_n C 1 dX8_whom_1 rfl ?_
  refine r_iload_n C 2 dX8_whom_2 rfl ?_
  refine r_iload_n C 3 dX8_whom_3 rfl ?_
  refine r_callV (As := [.int x1, .int x2, .int x3]) (rest := []) C (c_X8_knowsWay _ E n h0 x1 x2 x3 th0) dX8_whom_4 ml_X8_228 mv_X8_knowsWay ⟨TX8, _, rfl⟩ (by decide) th0 rfl rfl ⟨by decide, by decide⟩ (Nat.le_of_ble_eq_true rfl) (fun v2 S1 hv2 => ?_)
  refine r_if_eq C 22 dX8_whom_7 (by decide) ?_ ?_
  · refine r_bipush C (-2 : Int32) dX8_whom_22 (by decide) ?_
    exact r_ireturn C X dX8_whom_24
  · refine r_aload_n C 0 dX8_whom_10 rfl ?_
    refine r_getr C fl_X8_27 dX8_whom_11 th0 (fun b3 tb3 => ?_)
    refine r_iload C 4 dX8_whom_14 rfl ?_
    refine r_callV (As := [.int x4]) (rest := []) C (c_X3_hasSuitor _ E n b3 x4 tb3) dX8_whom_16 ml_X8_118 mv_X3_hasSuitor ⟨TX3, _, rfl⟩ (by decide) tb3 rfl rfl ⟨by decide, by decide⟩ (Nat.le_of_ble_eq_true rfl) (fun v5 S4 hv5 => ?_)
    refine r_if_ne C 25 dX8_whom_19 (by decide) ?_ ?_
    · refine r_aload_n C 0 dX8_whom_25 rfl ?_
      refine r_iload_n C 1 dX8_whom_26 rfl ?_
      refine r_iload_n C 1 dX8_whom_27 rfl ?_
      refine r_iconst C (1 : Int32) dX8_whom_28 (by decide) ?_
      refine r_iadd C dX8_whom_29 ?_
      refine r_iload_n C 2 dX8_whom_30 rfl ?_
      refine r_iload_n C 3 dX8_whom_31 rfl ?_
      refine r_callV (As := [.int x1, .int (x1 + (1 : Int32)), .int x2, .int x3]) (rest := []) C (c_X8_searchComing _ E n h0 x1 (x1 + (1 : Int32)) x2 x3 th0) dX8_whom_32 ml_X8_312 mv_X8_searchComing ⟨TX8, _, rfl⟩ (by decide) th0 rfl rfl ⟨by decide, by decide⟩ (Nat.le_of_ble_eq_true rfl) (fun v7 S6 hv7 => ?_)
      refine r_aload_n C 0 dX8_whom_35 rfl ?_
      refine r_getr C fl_X8_58 dX8_whom_36 th0 (fun b8 tb8 => ?_)
      refine r_getr C fl_X8_319 dX8_whom_39 tb8 (fun b9 tb9 => ?_)
      refine r_iload C 4 dX8_whom_42 rfl ?_
      refine r_iald C dX8_whom_44 tb9 ?_
      exact r_ireturn C X dX8_whom_45
    · refine r_bipush C (-2 : Int32) dX8_whom_22 (by decide) ?_
      exact r_ireturn C X dX8_whom_24
set_option maxRecDepth 100000 in
set_option maxHeartbeats 4000000 in
theorem c_X8_all (l : Launch) (E : EN) (n : Nat) (h0 : Nat) (x1 : Int32) (x2 : Int32) (th0 : Ty E h0 7) : CT l E yX8_all cX8_all 3 (some .int) 19 694 wI tT [.ref h0, .int x1, .int x2] (fun S => f_X8_all E n S h0 x1 x2) := by
  refine ct_of RX8 (by decide +kernel) rfl [(0, .ref h0), (1, .int x1), (2, .int x2)] rfl (Nat.le_of_ble_eq_true rfl) (fun A S hA C X => ?_)
  subst hA
  show Gd A E 3 (QM A E wI tT) (f_X8_all E n S h0 x1 x2) S 0 [(0, .ref h0), (1, .int x1), (2, .int x2)] []
  unfold f_X8_all
  refine r_aload_n C 0 dX8_all_0 rfl ?_
  refine r_getr C fl_X8_27 dX8_all_1 th0 (fun b1 tb1 => ?_)
  refine r_iload_n C 1 dX8_all_4 rfl ?_
  refine r_callV (As := [.int x1]) (rest := []) C (c_X3_hasPlace _ E n b1 x1 tb1) dX8_all_5 ml_X8_222 mv_X3_hasPlace ⟨TX3, _, rfl⟩ (by decide) tb1 rfl rfl ⟨by decide, by decide⟩ (Nat.le_of_ble_eq_true rfl) (fun v3 S2 hv3 => ?_)
  refine r_if_eq C 22 dX8_all_8 (by decide) ?_ ?_
  · refine r_bipush C (-2 : Int32) dX8_all_22 (by decide) ?_
    exact r_ireturn C X dX8_all_24
  · refine r_aload_n C 0 dX8_all_11 rfl ?_
    refine r_getr C fl_X8_27 dX8_all_12 th0 (fun b4 tb4 => ?_)
    refine r_iload_n C 2 dX8_all_15 rfl ?_
    refine r_callV (As := [.int x2]) (rest := []) C (c_X3_hasYear _ E n b4 x2 tb4) dX8_all_16 ml_X8_164 mv_X3_hasYear ⟨TX3, _, rfl⟩ (by decide) tb4 rfl rfl ⟨by decide, by decide⟩ (Nat.le_of_ble_eq_true rfl) (fun v6 S5 hv6 => ?_)
    refine r_if_ne C 25 dX8_all_19 (by decide) ?_ ?_
    · refine r_aload_n C 0 dX8_all_25 rfl ?_
      refine r_iconst C (0 : Int32) dX8_all_26 (by decide) ?_
      refine r_aload_n C 0 dX8_all_27 rfl ?_
      refine r_getr C fl_X8_27 dX8_all_28 th0 (fun b7 tb7 => ?_)
      refine r_geti C fl_X8_283 dX8_all_31 tb7 ?_
      refine r_iload_n C 1 dX8_all_34 rfl ?_
      refine r_iload_n C 2 dX8_all_35 rfl ?_
      refine r_callV (As := [.int (0 : Int32), .int (gi S5 134 b7), .int x1, .int x2]) (rest := []) C (c_X8_searchComing _ E n h0 (0 : Int32) (gi S5 134 b7) x1 x2 th0) dX8_all_36 ml_X8_312 mv_X8_searchComing ⟨TX8, _, rfl⟩ (by decide) th0 rfl rfl ⟨by decide, by decide⟩ (Nat.le_of_ble_eq_true rfl) (fun v9 S8 hv9 => ?_)
      refine r_aload_n C 0 dX8_all_39 rfl ?_
      refine r_getr C fl_X8_58 dX8_all_40 th0 (fun b10 tb10 => ?_)
      refine r_geti C fl_X8_316 dX8_all_43 tb10 ?_
      exact r_ireturn C X dX8_all_46
    · refine r_bipush C (-2 : Int32) dX8_all_22 (by decide) ?_
      exact r_ireturn C X dX8_all_24
set_option maxRecDepth 100000 in
set_option maxHeartbeats 4000000 in
theorem c_X8_courtings (l : Launch) (E : EN) (n : Nat) (h0 : Nat) (x1 : Int32) (x2 : Int32) (x3 : Int32) (th0 : Ty E h0 7) : CT l E yX8_courtings cX8_courtings 4 (some .int) 19 694 wI tT [.ref h0, .int x1, .int x2, .int x3] (fun S => f_X8_courtings E n S h0 x1 x2 x3) := by
  refine ct_of RX8 (by decide +kernel) rfl [(0, .ref h0), (1, .int x1), (2, .int x2), (3, .int x3)] rfl (Nat.le_of_ble_eq_true rfl) (fun A S hA C X => ?_)
  subst hA
  show Gd A E 4 (QM A E wI tT) (f_X8_courtings E n S h0 x1 x2 x3) S 0 [(0, .ref h0), (1, .int x1), (2, .int x2), (3, .int x3)] []
  unfold f_X8_courtings
  refine r_aload_n C 0 dX8_courtings_0 rfl ?_
  refine r_iload_n C 1 dX8_courtings_1 rfl ?_
  refine r_iload_n C 2 dX8_courtings_2 rfl ?_
  refine r_iload_n C 3 dX8_courtings_3 rfl ?_
  refine r_callV (As := [.int x1, .int x2, .int x3]) (rest := []) C (c_X8_knowsWay _ E n h0 x1 x2 x3 th0) dX8_courtings_4 ml_X8_228 mv_X8_knowsWay ⟨TX8, _, rfl⟩ (by decide) th0 rfl rfl ⟨by decide, by decide⟩ (Nat.le_of_ble_eq_true rfl) (fun v2 S1 hv2 => ?_)
  refine r_if_ne C 13 dX8_courtings_7 (by decide) ?_ ?_
  · refine r_aload_n C 0 dX8_courtings_13 rfl ?_
    refine r_iload_n C 1 dX8_courtings_14 rfl ?_
    refine r_iload_n C 1 dX8_courtings_15 rfl ?_
    refine r_iconst C (1 : Int32) dX8_courtings_16 (by decide) ?_
    refine r_iadd C dX8_courtings_17 ?_
    refine r_iload_n C 2 dX8_courtings_18 rfl ?_
    refine r_iload_n C 3 dX8_courtings_19 rfl ?_
    refine r_callV (As := [.int x1, .int (x1 + (1 : Int32)), .int x2, .int x3]) (rest := []) C (c_X8_searchComing _ E n h0 x1 (x1 + (1 : Int32)) x2 x3 th0) dX8_courtings_20 ml_X8_312 mv_X8_searchComing ⟨TX8, _, rfl⟩ (by decide) th0 rfl rfl ⟨by decide, by decide⟩ (Nat.le_of_ble_eq_true rfl) (fun v4 S3 hv4 => ?_)
    refine r_aload_n C 0 dX8_courtings_23 rfl ?_
    refine r_getr C fl_X8_58 dX8_courtings_24 th0 (fun b5 tb5 => ?_)
    refine r_geti C fl_X8_322 dX8_courtings_27 tb5 ?_
    exact r_ireturn C X dX8_courtings_30
  · refine r_bipush C (-2 : Int32) dX8_courtings_10 (by decide) ?_
    exact r_ireturn C X dX8_courtings_12
set_option maxRecDepth 100000 in
set_option maxHeartbeats 4000000 in
theorem c_X8_busy (l : Launch) (E : EN) (n : Nat) (h0 : Nat) (x1 : Int32) (x2 : Int32) (x3 : Int32) (th0 : Ty E h0 7) : CT l E yX8_busy cX8_busy 4 (some .int) 19 694 wI tT [.ref h0, .int x1, .int x2, .int x3] (fun S => f_X8_busy E n S h0 x1 x2 x3) := by
  refine ct_of RX8 (by decide +kernel) rfl [(0, .ref h0), (1, .int x1), (2, .int x2), (3, .int x3)] rfl (Nat.le_of_ble_eq_true rfl) (fun A S hA C X => ?_)
  subst hA
  show Gd A E 4 (QM A E wI tT) (f_X8_busy E n S h0 x1 x2 x3) S 0 [(0, .ref h0), (1, .int x1), (2, .int x2), (3, .int x3)] []
  unfold f_X8_busy
  refine r_aload_n C 0 dX8_busy_0 rfl ?_
  refine r_iload_n C 1 dX8_busy_1 rfl ?_
  refine r_iload_n C 2 dX8_busy_2 rfl ?_
  refine r_iload_n C 3 dX8_busy_3 rfl ?_
  refine r_callV (As := [.int x1, .int x2, .int x3]) (rest := []) C (c_X8_knowsWay _ E n h0 x1 x2 x3 th0) dX8_busy_4 ml_X8_228 mv_X8_knowsWay ⟨TX8, _, rfl⟩ (by decide) th0 rfl rfl ⟨by decide, by decide⟩ (Nat.le_of_ble_eq_true rfl) (fun v2 S1 hv2 => ?_)
  refine r_if_ne C 13 dX8_busy_7 (by decide) ?_ ?_
  · refine r_aload_n C 0 dX8_busy_13 rfl ?_
    refine r_iload_n C 1 dX8_busy_14 rfl ?_
    refine r_iload_n C 1 dX8_busy_15 rfl ?_
    refine r_iconst C (1 : Int32) dX8_busy_16 (by decide) ?_
    refine r_iadd C dX8_busy_17 ?_
    refine r_iload_n C 2 dX8_busy_18 rfl ?_
    refine r_iload_n C 3 dX8_busy_19 rfl ?_
    refine r_callV (As := [.int x1, .int (x1 + (1 : Int32)), .int x2, .int x3]) (rest := []) C (c_X8_searchComing _ E n h0 x1 (x1 + (1 : Int32)) x2 x3 th0) dX8_busy_20 ml_X8_312 mv_X8_searchComing ⟨TX8, _, rfl⟩ (by decide) th0 rfl rfl ⟨by decide, by decide⟩ (Nat.le_of_ble_eq_true rfl) (fun v4 S3 hv4 => ?_)
    refine r_aload_n C 0 dX8_busy_23 rfl ?_
    refine r_getr C fl_X8_58 dX8_busy_24 th0 (fun b5 tb5 => ?_)
    refine r_geti C fl_X8_323 dX8_busy_27 tb5 ?_
    exact r_ireturn C X dX8_busy_30
  · refine r_bipush C (-2 : Int32) dX8_busy_10 (by decide) ?_
    exact r_ireturn C X dX8_busy_12
set_option maxRecDepth 100000 in
set_option maxHeartbeats 4000000 in
theorem c_X8_searchAgreeing (l : Launch) (E : EN) (n : Nat) (h0 : Nat) (x1 : Int32) (th0 : Ty E h0 7) : CT l E yX8_searchAgreeing cX8_searchAgreeing 4 (some .int) 18 670 wI tT [.ref h0, .int x1] (fun S => f_X8_searchAgreeing E n S h0 x1) := by
  refine ct_of RX8 (by decide +kernel) rfl [(0, .ref h0), (1, .int x1)] rfl (Nat.le_of_ble_eq_true rfl) (fun A S hA C X => ?_)
  subst hA
  show Gd A E 4 (QM A E wI tT) (f_X8_searchAgreeing E n S h0 x1) S 0 [(0, .ref h0), (1, .int x1)] []
  unfold f_X8_searchAgreeing
  refine r_aload_n C 0 dX8_searchAgreeing_0 rfl ?_
  refine r_iload_n C 1 dX8_searchAgreeing_1 rfl ?_
  refine r_callV (As := [.int x1]) (rest := []) C (c_X8_slotAt _ E n h0 x1 th0) dX8_searchAgreeing_2 ml_X8_333 mv_X8_slotAt ⟨TX8, _, rfl⟩ (by decide) th0 rfl rfl ⟨by decide, by decide⟩ (Nat.le_of_ble_eq_true rfl) (fun v2 S1 hv2 => ?_)
  refine r_opt hv2 ?_ (fun b3 tb3 => ?_)
  · refine r_astore_nN C [(2, .null), (0, .ref h0), (1, .int x1)] dX8_searchAgreeing_5 (by decide) rfl ?_
    refine r_aload_n C 1 dX8_searchAgreeing_6 rfl ?_
    refine r_aload_nN C 0 dX8_searchAgreeing_7 rfl ?_
    refine r_callV (As := [.null]) (rest := []) C (c_X8_refusalOf_0 _ E n h0 th0) dX8_searchAgreeing_8 ml_X8_337 mv_X8_refusalOf ⟨TX8, _, rfl⟩ (by decide) th0 rfl rfl ⟨by decide, by decide⟩ (Nat.le_of_ble_eq_true rfl) (fun v5 S4 hv5 => ?_)
    refine r_istore_n C [(3, .int v5), (2, .null), (0, .ref h0), (1, .int x1)] dX8_searchAgreeing_11 (by decide) rfl ?_
    refine r_iload_n C 0 dX8_searchAgreeing_12 rfl ?_
    refine r_if_ne C 47 dX8_searchAgreeing_13 (by decide) ?_ ?_
    · refine r_iload_n C 0 dX8_searchAgreeing_47 rfl ?_
      exact r_ireturn C X dX8_searchAgreeing_48
    · refine r_aload_nN C 1 dX8_searchAgreeing_16 rfl ?_
      refine r_ifnullN C 47 dX8_searchAgreeing_17 (by decide) ?_
      refine r_iload_n C 0 dX8_searchAgreeing_47 rfl ?_
      exact r_ireturn C X dX8_searchAgreeing_48
  · refine r_astore_n C [(2, .ref b3), (0, .ref h0), (1, .int x1)] dX8_searchAgreeing_5 (by decide) rfl ?_
    refine r_aload_n C 1 dX8_searchAgreeing_6 rfl ?_
    refine r_aload_n C 0 dX8_searchAgreeing_7 rfl ?_
    refine r_callV (As := [.ref b3]) (rest := []) C (c_X8_refusalOf _ E n h0 b3 th0 tb3) dX8_searchAgreeing_8 ml_X8_337 mv_X8_refusalOf ⟨TX8, _, rfl⟩ (by decide) th0 rfl rfl ⟨by decide, by decide⟩ (Nat.le_of_ble_eq_true rfl) (fun v7 S6 hv7 => ?_)
    refine r_istore_n C [(3, .int v7), (2, .ref b3), (0, .ref h0), (1, .int x1)] dX8_searchAgreeing_11 (by decide) rfl ?_
    refine r_iload_n C 0 dX8_searchAgreeing_12 rfl ?_
    refine r_if_ne C 47 dX8_searchAgreeing_13 (by decide) ?_ ?_
    · refine r_iload_n C 0 dX8_searchAgreeing_47 rfl ?_
      exact r_ireturn C X dX8_searchAgreeing_48
    · refine r_aload_n C 1 dX8_searchAgreeing_16 rfl ?_
      refine r_ifnull C dX8_searchAgreeing_17 ?_
      refine r_aload_n C 2 dX8_searchAgreeing_20 rfl ?_
      refine r_getr C fl_X8_72 dX8_searchAgreeing_21 th0 (fun b8 tb8 => ?_)
      refine r_aload_n C 2 dX8_searchAgreeing_24 rfl ?_
      refine r_getr C fl_X8_27 dX8_searchAgreeing_25 th0 (fun b9 tb9 => ?_)
      refine r_aload_n C 1 dX8_searchAgreeing_28 rfl ?_
      refine r_callV (As := [.ref b9, .ref b3]) (rest := []) C (c_X2_takeOver _ E n b8 b9 b3 tb8 tb9 tb3) dX8_searchAgreeing_29 ml_X8_341 mv_X2_takeOver ⟨TX2, _, rfl⟩ (by decide) tb8 rfl rfl ⟨by decide, by decide⟩ (Nat.le_of_ble_eq_true rfl) (fun v11 S10 hv11 => ?_)
      refine r_aload_n C 2 dX8_searchAgreeing_32 rfl ?_
      refine r_getr C fl_X8_58 dX8_searchAgreeing_33 th0 (fun b12 tb12 => ?_)
      refine r_aload_n C 2 dX8_searchAgreeing_36 rfl ?_
      refine r_getr C fl_X8_27 dX8_searchAgreeing_37 th0 (fun b13 tb13 => ?_)
      refine r_aload_n C 2 dX8_searchAgreeing_40 rfl ?_
      refine r_getr C fl_X8_72 dX8_searchAgreeing_41 th0 (fun b14 tb14 => ?_)
      refine r_callV (As := [.ref b13, .ref b14]) (rest := []) C (c_X5_seek _ E n b12 b13 b14 tb12 tb13 (Or.inr tb14)) dX8_searchAgreeing_44 ml_X8_308 mv_X5_seek ⟨TX5, _, rfl⟩ (by decide) tb12 rfl rfl ⟨by decide, by decide⟩ (Nat.le_of_ble_eq_true rfl) (fun v16 S15 hv16 => ?_)
      refine r_iload_n C 0 dX8_searchAgreeing_47 rfl ?_
      exact r_ireturn C X dX8_searchAgreeing_48
set_option maxRecDepth 100000 in
set_option maxHeartbeats 4000000 in
theorem c_X8_agree (l : Launch) (E : EN) (n : Nat) (h0 : Nat) (x1 : Int32) (th0 : Ty E h0 7) : CT l E yX8_agree cX8_agree 3 (some .int) 19 693 wI tT [.ref h0, .int x1] (fun S => f_X8_agree E n S h0 x1) := by
  refine ct_of RX8 (by decide +kernel) rfl [(0, .ref h0), (1, .int x1)] rfl (Nat.le_of_ble_eq_true rfl) (fun A S hA C X => ?_)
  subst hA
  show Gd A E 3 (QM A E wI tT) (f_X8_agree E n S h0 x1) S 0 [(0, .ref h0), (1, .int x1)] []
  unfold f_X8_agree
  refine r_aload_n C 0 dX8_agree_0 rfl ?_
  refine r_iload_n C 1 dX8_agree_1 rfl ?_
  refine r_callV (As := [.int x1]) (rest := []) C (c_X8_searchAgreeing _ E n h0 x1 th0) dX8_agree_2 ml_X8_345 mv_X8_searchAgreeing ⟨TX8, _, rfl⟩ (by decide) th0 rfl rfl ⟨by decide, by decide⟩ (Nat.le_of_ble_eq_true rfl) (fun v2 S1 hv2 => ?_)
  refine r_istore_n C [(2, .int v2), (0, .ref h0), (1, .int x1)] dX8_agree_5 (by decide) rfl ?_
  refine r_iload_n C 0 dX8_agree_6 rfl ?_
  refine r_if_eq C 14 dX8_agree_7 (by decide) ?_ ?_
  · refine r_aload_n C 1 dX8_agree_14 rfl ?_
    refine r_getr C fl_X8_58 dX8_agree_15 th0 (fun b3 tb3 => ?_)
    refine r_geti C fl_X8_322 dX8_agree_18 tb3 ?_
    exact r_ireturn C X dX8_agree_21
  · refine r_iload_n C 0 dX8_agree_10 rfl ?_
    refine r_goto C 21 dX8_agree_11 (by decide) ?_
    exact r_ireturn C X dX8_agree_21
set_option maxRecDepth 100000 in
set_option maxHeartbeats 4000000 in
theorem c_X8_sure (l : Launch) (E : EN) (n : Nat) (h0 : Nat) (x1 : Int32) (x2 : Int32) (th0 : Ty E h0 7) : CT l E yX8_sure cX8_sure 4 (some .int) 19 693 wI tT [.ref h0, .int x1, .int x2] (fun S => f_X8_sure E n S h0 x1 x2) := by
  refine ct_of RX8 (by decide +kernel) rfl [(0, .ref h0), (1, .int x1), (2, .int x2)] rfl (Nat.le_of_ble_eq_true rfl) (fun A S hA C X => ?_)
  subst hA
  show Gd A E 4 (QM A E wI tT) (f_X8_sure E n S h0 x1 x2) S 0 [(0, .ref h0), (1, .int x1), (2, .int x2)] []
  unfold f_X8_sure
  refine r_aload_n C 0 dX8_sure_0 rfl ?_
  refine r_getr C fl_X8_27 dX8_sure_1 th0 (fun b1 tb1 => ?_)
  refine r_iload_n C 2 dX8_sure_4 rfl ?_
  refine r_callV (As := [.int x2]) (rest := []) C (c_X3_hasSuitor _ E n b1 x2 tb1) dX8_sure_5 ml_X8_118 mv_X3_hasSuitor ⟨TX3, _, rfl⟩ (by decide) tb1 rfl rfl ⟨by decide, by decide⟩ (Nat.le_of_ble_eq_true rfl) (fun v3 S2 hv3 => ?_)
  refine r_if_ne C 14 dX8_sure_8 (by decide) ?_ ?_
  · refine r_aload_n C 0 dX8_sure_14 rfl ?_
    refine r_iload_n C 1 dX8_sure_15 rfl ?_
    refine r_callV (As := [.int x1]) (rest := []) C (c_X8_searchAgreeing _ E n h0 x1 th0) dX8_sure_16 ml_X8_345 mv_X8_searchAgreeing ⟨TX8, _, rfl⟩ (by decide) th0 rfl rfl ⟨by decide, by decide⟩ (Nat.le_of_ble_eq_true rfl) (fun v5 S4 hv5 => ?_)
    refine r_istore_n C [(3, .int v5), (0, .ref h0), (1, .int x1), (2, .int x2)] dX8_sure_19 (by decide) rfl ?_
    refine r_iload_n C 0 dX8_sure_20 rfl ?_
    refine r_if_eq C 28 dX8_sure_21 (by decide) ?_ ?_
    · refine r_aload_n C 1 dX8_sure_28 rfl ?_
      refine r_getr C fl_X8_58 dX8_sure_29 th0 (fun b6 tb6 => ?_)
      refine r_iload_n C 3 dX8_sure_32 rfl ?_
      refine r_callV (As := [.int x2]) (rest := []) C (c_X5_sameByAll _ E n b6 x2 tb6) dX8_sure_33 ml_X8_348 mv_X5_sameByAll ⟨TX5, _, rfl⟩ (by decide) tb6 rfl rfl ⟨by decide, by decide⟩ (Nat.le_of_ble_eq_true rfl) (fun v8 S7 hv8 => ?_)
      exact r_ireturn C X dX8_sure_36
    · refine r_iload_n C 0 dX8_sure_24 rfl ?_
      refine r_goto C 36 dX8_sure_25 (by decide) ?_
      exact r_ireturn C X dX8_sure_36
  · refine r_bipush C (-2 : Int32) dX8_sure_11 (by decide) ?_
    exact r_ireturn C X dX8_sure_13
set_option maxRecDepth 100000 in
set_option maxHeartbeats 4000000 in
theorem c_X8_kindly (l : Launch) (E : EN) (n : Nat) (h0 : Nat) (x1 : Int32) (th0 : Ty E h0 7) : CT l E yX8_kindly cX8_kindly 3 (some .int) 19 693 wI tT [.ref h0, .int x1] (fun S => f_X8_kindly E n S h0 x1) := by
  refine ct_of RX8 (by decide +kernel) rfl [(0, .ref h0), (1, .int x1)] rfl (Nat.le_of_ble_eq_true rfl) (fun A S hA C X => ?_)
  subst hA
  show Gd A E 3 (QM A E wI tT) (f_X8_kindly E n S h0 x1) S 0 [(0, .ref h0), (1, .int x1)] []
  unfold f_X8_kindly
  refine r_aload_n C 0 dX8_kindly_0 rfl ?_
  refine r_iload_n C 1 dX8_kindly_1 rfl ?_
  refine r_callV (As := [.int x1]) (rest := []) C (c_X8_searchAgreeing _ E n h0 x1 th0) dX8_kindly_2 ml_X8_345 mv_X8_searchAgreeing ⟨TX8, _, rfl⟩ (by decide) th0 rfl rfl ⟨by decide, by decide⟩ (Nat.le_of_ble_eq_true rfl) (fun v2 S1 hv2 => ?_)
  refine r_istore_n C [(2, .int v2), (0, .ref h0), (1, .int x1)] dX8_kindly_5 (by decide) rfl ?_
  refine r_iload_n C 0 dX8_kindly_6 rfl ?_
  refine r_if_eq C 14 dX8_kindly_7 (by decide) ?_ ?_
  · refine r_aload_n C 1 dX8_kindly_14 rfl ?_
    refine r_getr C fl_X8_58 dX8_kindly_15 th0 (fun b3 tb3 => ?_)
    refine r_geti C fl_X8_316 dX8_kindly_18 tb3 ?_
    exact r_ireturn C X dX8_kindly_21
  · refine r_iload_n C 0 dX8_kindly_10 rfl ?_
    refine r_goto C 21 dX8_kindly_11 (by decide) ?_
    exact r_ireturn C X dX8_kindly_21
