/-! TEXT CONSTANTS: String.length and String.charAt over them (made by wip/whole/gen_str.py) -/
section SROWS
variable {A : AM} {E : EN} {nL : Nat} {ρ : Type} {Qf : ρ × WS → State → Prop} {o : Option (ρ × WS)} {S : WS} {pc : Nat} {ls : List (Nat × Value)} {st : List Value} {cc : ByteArray} {own : String} {fr lo : Nat} {ret : Option FieldType}
abbrev cSx (C : Cx A E cc nL own fr lo) : Sx E (ams A) := C.2.2.2.2.2.2.2.2.2.2.2.2.2.1
theorem r_i2c (C : Cx A E cc nL own fr lo) {x : Int32} (d : decode cc pc = .ok (.i2c, 1)) (g : Gd A E nL Qf o S (pc + 1) ls (.int (x.toUInt32 % 65536).toInt32 :: st)) : Gd A E nL Qf o S pc ls (.int x :: st) := fun H locs la a b c => lv_i2c C.1 C.2.1 d rfl (g H locs la a b c)
theorem r_nreturn (C : Cx A E cc nL own fr lo) {ty : FieldType} (X : Ex A E (some ty)) {v : Int32} (hn : narrow ty (.int v) = .int v) (d : decode cc pc = .ok (.ireturn, 1)) : Gd A E nL (QM A E wI tT) (some (v, S)) S pc ls [.int v] := by
  intro H locs la hW hS hl
  obtain ⟨h1, h2, h3⟩ := X
  refine W.wk (W.zret (Qc := Qe E wI tT (v, S)) (free := amF A) C.1 C.2.1 h1 hn (fun t ht _ => ⟨rfl, trivial, by rw [ht]; exact hW, ?_⟩) hS.2.2 d h2) (fun t h x hx => by cases hx; exact h)
  rw [h3] at hS
  exact hS.F ht
theorem r_getZ (C : Cx A E cc nL own fr lo) (X : Ex A E ret) {idx : Nat} (hl : Cond.fieldLink own idx "java/lang/String" "COMPACT_STRINGS" "Z" ∈ G0) (d : decode cc pc = .ok (.getstatic idx, 3)) (g : Gd A E nL Qf o S (pc + 3) ls (.int 1 :: st)) : Gd A E nL Qf o S pc ls st := by
  intro H locs la hW hS hl0
  have hS' := hS
  rw [X.2.2] at hS'
  exact va_gets C.1 C.2.1 (cSx C).2.2.1 hS' C.2.2.2.1 (C.2.2.2.2.1 _ hl) (fun _ h => h) d (g H locs la hW hS hl0)
theorem r_getF (C : Cx A E cc nL own fr lo) (X : Ex A E ret) {idx : Nat} (hl : Cond.fieldLink own idx "jdk/internal/util/Preconditions" "SIOOBE_FORMATTER" "Ljava/util/function/BiFunction;" ∈ G0) (d : decode cc pc = .ok (.getstatic idx, 3)) (g : ∀ r, Gd A E nL Qf o S (pc + 3) ls (va_rf r :: st)) : Gd A E nL Qf o S pc ls st := by
  intro H locs la hW hS hl0
  have hS' := hS
  rw [X.2.2] at hS'
  rcases (cSx C).2.2.2 with ht | ⟨t, ht⟩
  · exact va_gets C.1 C.2.1 ht hS' C.2.2.2.1 (C.2.2.2.2.1 _ hl) (fun _ h => h) d (g none H locs la hW hS hl0)
  · exact va_gets C.1 C.2.1 ht hS' C.2.2.2.1 (C.2.2.2.2.1 _ hl) (fun _ h => h) d (g (some t) H locs la hW hS hl0)
theorem r_scoder (C : Cx A E cc nL own fr lo) (X : Ex A E ret) {idx w : Nat} (hw : w < sNum) (hl : Cond.fieldLink own idx "java/lang/String" "coder" "B" ∈ G0) (d : decode cc pc = .ok (.getfield idx, 3)) (g : Gd A E nL Qf o S (pc + 3) ls (.int 0 :: st)) : Gd A E nL Qf o S pc ls (.ref (eSK E w) :: st) := by
  intro H locs la hW hS hl0
  have hS' := hS
  rw [X.2.2] at hS'
  exact vk_getf C.1 C.2.1 ((cSx C).1.1 w hw).2.1 hS' C.2.2.2.1 (C.2.2.2.2.1 _ hl) (fun _ h => h) d (g H locs la hW hS hl0)
theorem r_sval (C : Cx A E cc nL own fr lo) (X : Ex A E ret) {idx w : Nat} (hw : w < sNum) (hl : Cond.fieldLink own idx "java/lang/String" "value" "[B" ∈ G0) (d : decode cc pc = .ok (.getfield idx, 3)) (g : Gd A E nL Qf o S (pc + 3) ls (.ref (eSV E w) :: st)) : Gd A E nL Qf o S pc ls (.ref (eSK E w) :: st) := by
  intro H locs la hW hS hl0
  have hS' := hS
  rw [X.2.2] at hS'
  exact vk_getf C.1 C.2.1 ((cSx C).1.1 w hw).2.2.1 hS' C.2.2.2.1 (C.2.2.2.2.1 _ hl) (fun _ h => h) d (g H locs la hW hS hl0)
theorem r_salen (C : Cx A E cc nL own fr lo) (X : Ex A E ret) {w : Nat} (hw : w < sNum) (d : decode cc pc = .ok (.arraylength, 1)) (g : Gd A E nL Qf o S (pc + 1) ls (.int (Int32.ofNat (sLen.getD w 0)) :: st)) : Gd A E nL Qf o S pc ls (.ref (eSV E w) :: st) := by
  intro H locs la hW hS hl0
  have hS' := hS
  rw [X.2.2] at hS'
  exact va_tlen C.1 C.2.1 ((cSx C).1.1 w hw).2.2.2 hS' rfl d (g H locs la hW hS hl0)
theorem r_sbald (C : Cx A E cc nL own fr lo) (X : Ex A E ret) {w : Nat} {i : Int32} (hw : w < sNum) (d : decode cc pc = .ok (.baload, 1)) (hi : ¬ (i < 0 ∨ sLen.getD w 0 ≤ i.toNatClampNeg)) (g : Gd A E nL Qf o S (pc + 1) ls (.int ((sByt.getD w []).getD i.toNatClampNeg 0) :: st)) : Gd A E nL Qf o S pc ls (.int i :: .ref (eSV E w) :: st) := by
  intro H locs la hW hS hl0
  have hS' := hS
  rw [X.2.2] at hS'
  exact va_tb C.1 C.2.1 ((cSx C).1.1 w hw).2.2.2 hS' hi rfl d (g H locs la hW hS hl0)
theorem r_ldcS (C : Cx A E cc nL own fr lo) {idx : Nat} {tx : String} (i : Nat) (h : (own, idx, tx, i) ∈ sTab) (d : decode cc pc = .ok (.ldc idx, 2)) (g : Gd A E nL Qf o S (pc + 2) ls (.ref (eSK E i) :: st)) : Gd A E nL Qf o S pc ls st := fun H locs la a b c => va_ldcS C.1 C.2.1 C.2.2.2.1 ((cSx C).2.1 _ _ _ _ h) d (g H locs la a b c)
theorem r_callT {ρ' : Type} {w' : ρ' → Option Value} {T' : ρ' → Prop} {o' : WS → Option (ρ' × WS)} {k : ρ' → WS → Option (ρ × WS)} {y : MethodName} {bytes : ByteArray} {maxL idx n fr' lo' w : Nat} {rt : Option FieldType} {As rest st0 : List Value} (C : Cx A E cc nL own fr lo) (X : Ex A E ret) (hM : CT (aml A) E y bytes maxL rt fr' lo' w' T' (.ref (eSK E w) :: As) o') (d : decode cc pc = .ok (.invokevirtual idx, 3)) (ml : Cond.methodLink own idx y ∈ G0) (mv : MV y bytes maxL rt n) (hy : y.cls = "java/lang/String") (hw : w < sNum) (hn : As.length = n) (hs : As.reverse ++ .ref (eSK E w) :: rest = st0) (hR : fr' + 1 ≤ fr ∧ 8 + (maxL + 11) + lo' ≤ lo) (hr : (rest.map fun v => v.category).sum ≤ 8)
    (g : ∀ v S', T' v → Gd A E nL Qf (k v S') S' (pc + 3) ls ((w' v).toList ++ rest)) : Gd A E nL Qf (bd (o' S) k) S pc ls st0 := by
  intro H locs la hW hS hl
  cases hx : o' S with
  | none => exact gn (Qf := Qf) H locs la hW hS hl
  | some x =>
    subst hs
    obtain ⟨hin, hse, hini, hcode, hd⟩ := mv
    have hts := C.2.2.2.2.1
    have hRR : fr' + 1 ≤ (amR A).frames ∧ 8 + (maxL + 11) + lo' ≤ (amR A).locals := ⟨Nat.le_trans hR.1 C.2.2.2.2.2.2.2.2.2.1, Nat.le_trans hR.2 C.2.2.2.2.2.2.2.2.2.2.1⟩
    have hS' := hS
    rw [X.2.2] at hS'
    have hrecv := vk_recv (cSx C).1 hw hS'
    rw [← hy] at hrecv
    have hpre : PreV (ams A) H y.cls (eSK E w) (va_Pc (.ref (eSK E w) :: As) (Bg E S)) As := ⟨Bg.blind, hrecv, fun U hU hw => Bg.at C hS hW hU hw⟩
    exact g_call C (va_runV (callFix C) (hM S x hx) ⟨callB_of n hts (G0_code hcode) rfl rfl rfl (hts _ hini) (hts _ ml) hd hRR, hts _ hin, hts _ hse⟩ hpre rfl hn hl.1 rfl (lv_room hr) d ⟨C.2.2.2.2.2.2.2.2.2.2.2.1, C.2.2.2.2.2.2.2.2.2.2.2.2.1⟩) hS hl (g x.1 x.2)
end SROWS
theorem mv_J0_length_8abf5 : MV yJ0_length_8abf5 cJ0_length_8abf5 1 (some .int) 0 := ⟨mG 588 (by decide +kernel) rfl, mG 589 (by decide +kernel) rfl, mG 162 (by decide +kernel) rfl, mG 590 (by decide +kernel) rfl, by decide +kernel⟩
theorem mv_J0_charAt_5068e : MV yJ0_charAt_5068e cJ0_charAt_5068e 2 (some .char) 1 := ⟨mG 598 (by decide +kernel) rfl, mG 599 (by decide +kernel) rfl, mG 162 (by decide +kernel) rfl, mG 600 (by decide +kernel) rfl, by decide +kernel⟩
theorem mv_J0_coder_7d493 : MV yJ0_coder_7d493 cJ0_coder_7d493 1 (some .byte) 0 := ⟨mG 592 (by decide +kernel) rfl, mG 593 (by decide +kernel) rfl, mG 162 (by decide +kernel) rfl, mG 594 (by decide +kernel) rfl, by decide +kernel⟩
theorem mv_J0_isLatin1_aae02 : MV yJ0_isLatin1_aae02 cJ0_isLatin1_aae02 1 (some .boolean) 0 := ⟨mG 602 (by decide +kernel) rfl, mG 603 (by decide +kernel) rfl, mG 162 (by decide +kernel) rfl, mG 604 (by decide +kernel) rfl, by decide +kernel⟩
theorem mv_J0_checkIndex_df160 : MS yJ0_checkIndex_df160 cJ0_checkIndex_df160 2 none 2 := ⟨mG 609 (by decide +kernel) rfl, mG 162 (by decide +kernel) rfl, mG 610 (by decide +kernel) rfl, by decide +kernel⟩
theorem mv_J1_charAt_3b067 : MS yJ1_charAt_3b067 cJ1_charAt_3b067 2 (some .char) 2 := ⟨mG 606 (by decide +kernel) rfl, mG 163 (by decide +kernel) rfl, mG 607 (by decide +kernel) rfl, by decide +kernel⟩
theorem mv_J3_checkIndex_8e157 : MS yJ3_checkIndex_8e157 cJ3_checkIndex_8e157 3 (some .int) 3 := ⟨mG 614 (by decide +kernel) rfl, mG 164 (by decide +kernel) rfl, mG 615 (by decide +kernel) rfl, by decide +kernel⟩
set_option maxRecDepth 100000 in
set_option maxHeartbeats 4000000 in
theorem c_J0_coder (l : Launch) (E : EN) (w : Nat) (hw : w < sNum) : CT l E yJ0_coder_7d493 cJ0_coder_7d493 1 (some .byte) 0 0 wI tT [.ref (eSK E w)] (fun S => some (0, S)) := by
  refine ct_of RJ0 (by decide +kernel) rfl [(0, .ref (eSK E w))] rfl (Nat.le_of_ble_eq_true rfl) (fun A S hA C X => ?_)
  refine r_getZ C X (mG 595 (by decide +kernel) rfl) dJ0_coder_7d493_0 ?_
  refine r_if_eqF C 13 dJ0_coder_7d493_3 (by decide) (by decide) ?_
  refine r_aload_n C 0 dJ0_coder_7d493_6 rfl ?_
  refine r_scoder C X hw (mG 1951 (by decide +kernel) rfl) dJ0_coder_7d493_7 ?_
  refine r_goto C 14 dJ0_coder_7d493_10 (by decide) ?_
  exact r_nreturn C X rfl dJ0_coder_7d493_14
set_option maxRecDepth 100000 in
set_option maxHeartbeats 4000000 in
theorem c_J0_isLatin1 (l : Launch) (E : EN) (w : Nat) (hw : w < sNum) : CT l E yJ0_isLatin1_aae02 cJ0_isLatin1_aae02 1 (some .boolean) 0 0 wI tT [.ref (eSK E w)] (fun S => some (1, S)) := by
  refine ct_of RJ0 (by decide +kernel) rfl [(0, .ref (eSK E w))] rfl (Nat.le_of_ble_eq_true rfl) (fun A S hA C X => ?_)
  refine r_getZ C X (mG 595 (by decide +kernel) rfl) dJ0_isLatin1_aae02_0 ?_
  refine r_if_eqF C 17 dJ0_isLatin1_aae02_3 (by decide) (by decide) ?_
  refine r_aload_n C 0 dJ0_isLatin1_aae02_6 rfl ?_
  refine r_scoder C X hw (mG 1951 (by decide +kernel) rfl) dJ0_isLatin1_aae02_7 ?_
  refine r_if_neF C 17 dJ0_isLatin1_aae02_10 (by decide) (by decide) ?_
  refine r_iconst C (1 : Int32) dJ0_isLatin1_aae02_13 (by decide) ?_
  refine r_goto C 18 dJ0_isLatin1_aae02_14 (by decide) ?_
  exact r_nreturn C X rfl dJ0_isLatin1_aae02_18
set_option maxRecDepth 100000 in
set_option maxHeartbeats 4000000 in
theorem c_J0_length (l : Launch) (E : EN) (w : Nat) (hw : w < sNum) : CT l E yJ0_length_8abf5 cJ0_length_8abf5 1 (some .int) 1 20 wI tT [.ref (eSK E w)] (fun S => some (Int32.ofNat (sLen.getD w 0) >>> ((0 : Int32) &&& 31), S)) := by
  refine ct_of RJ0 (by decide +kernel) rfl [(0, .ref (eSK E w))] rfl (Nat.le_of_ble_eq_true rfl) (fun A S hA C X => ?_)
  refine r_aload_n C 0 dJ0_length_8abf5_0 rfl ?_
  refine r_sval C X hw (mG 1950 (by decide +kernel) rfl) dJ0_length_8abf5_1 ?_
  refine r_salen C X hw dJ0_length_8abf5_4 ?_
  refine r_aload_n C 0 dJ0_length_8abf5_5 rfl ?_
  refine r_callT (As := []) (rest := [.int (Int32.ofNat (sLen.getD w 0))]) (k := fun v S' => some (Int32.ofNat (sLen.getD w 0) >>> (v &&& 31), S')) (o' := fun S => some (0, S)) C X (c_J0_coder _ E w hw) dJ0_length_8abf5_6 (mG 591 (by decide +kernel) rfl) mv_J0_coder_7d493 rfl hw rfl rfl ⟨by decide, by decide⟩ (Nat.le_of_ble_eq_true rfl) (fun v S' hv => ?_)
  refine r_ishr C dJ0_length_8abf5_9 ?_
  exact r_ireturn C X dJ0_length_8abf5_10
set_option maxRecDepth 100000 in
set_option maxHeartbeats 4000000 in
theorem c_J3_checkIndex (l : Launch) (E : EN) (x0 x1 : Int32) (r : Option Nat) : CT l E yJ3_checkIndex_8e157 cJ3_checkIndex_8e157 3 (some .int) 0 0 wI tT [.int x0, .int x1, va_rf r] (fun S => if x0 < 0 then none else if x0 < x1 then some (x0, S) else none) := by
  refine ct_of RJ3 (by decide +kernel) rfl [(0, .int x0), (1, .int x1), (2, va_rf r)] rfl (by cases r <;> exact Nat.le_of_ble_eq_true rfl) (fun A S hA C X => ?_)
  refine r_iload_n C 0 dJ3_checkIndex_8e157_0 rfl ?_
  refine r_if_lt C 9 dJ3_checkIndex_8e157_1 (by decide) gn ?_
  refine r_iload_n C 0 dJ3_checkIndex_8e157_4 rfl ?_
  refine r_iload_n C 1 dJ3_checkIndex_8e157_5 rfl ?_
  refine r_icmp_lt C 16 dJ3_checkIndex_8e157_6 (by decide) ?_ gn
  refine r_iload_n C 0 dJ3_checkIndex_8e157_16 rfl ?_
  exact r_ireturn C X dJ3_checkIndex_8e157_17
set_option maxRecDepth 100000 in
set_option maxHeartbeats 4000000 in
theorem c_J0_checkIndex (l : Launch) (E : EN) (x0 x1 : Int32) : CT l E yJ0_checkIndex_df160 cJ0_checkIndex_df160 2 none 1 22 wV tT [.int x0, .int x1] (fun S => bd (if x0 < 0 then none else if x0 < x1 then some (x0, S) else none) fun _ S' => some ((), S')) := by
  refine ct_of RJ0 (by decide +kernel) rfl [(0, .int x0), (1, .int x1)] rfl (Nat.le_of_ble_eq_true rfl) (fun A S hA C X => ?_)
  refine r_iload_n C 0 dJ0_checkIndex_df160_0 rfl ?_
  refine r_iload_n C 1 dJ0_checkIndex_df160_1 rfl ?_
  refine r_getF C X (mG 611 (by decide +kernel) rfl) dJ0_checkIndex_df160_2 (fun r => ?_)
  refine r_callS (As := [.int x0, .int x1, va_rf r]) (rest := []) (o' := fun S => if x0 < 0 then none else if x0 < x1 then some (x0, S) else none) C (c_J3_checkIndex _ E x0 x1 r) dJ0_checkIndex_df160_5 (Or.inl (mG 613 (by decide +kernel) rfl)) mv_J3_checkIndex_8e157 rfl rfl ⟨by decide, by decide⟩ (Nat.le_of_ble_eq_true rfl) (fun v S' hv => ?_)
  refine r_pop C dJ0_checkIndex_df160_8 rfl ?_
  exact r_return C X dJ0_checkIndex_df160_9
def schr (w : Nat) (k : Int32) : Int32 := (((sByt.getD w []).getD k.toNatClampNeg 0 &&& (255 : Int32)).toUInt32 % 65536).toInt32
theorem schr_nar (w : Nat) (k : Int32) : narrow .char (.int (schr w k)) = .int (schr w k) := pk_nc _
theorem s_in {w : Nat} {k : Int32} (h : ¬ k < 0) (h2 : k < Int32.ofNat (sLen.getD w 0)) (hw : w < sNum) : ¬ (k < 0 ∨ sLen.getD w 0 ≤ k.toNatClampNeg) := by
  have h3 : sLen.getD w 0 < 2 ^ 31 := by
    have : ∀ w, w < sNum → sLen.getD w 0 < 2 ^ 31 := by decide +kernel
    exact this w hw
  rintro (h4 | h4)
  · exact h h4
  · obtain ⟨j, hj, rfl⟩ := nI_of h
    rw [nI_clamp hj] at h4
    exact nI_nlt h4 hj h2
set_option maxRecDepth 100000 in
set_option maxHeartbeats 4000000 in
theorem c_J1_charAt (l : Launch) (E : EN) (w : Nat) (hw : w < sNum) (x1 : Int32) : CT l E yJ1_charAt_3b067 cJ1_charAt_3b067 2 (some .char) 2 43 wI tT [.ref (eSV E w), .int x1] (fun S => bd (bd (if x1 < 0 then none else if x1 < Int32.ofNat (sLen.getD w 0) then some (x1, S) else none) fun _ S' => some ((), S')) fun _ S' => if x1 < 0 ∨ sLen.getD w 0 ≤ x1.toNatClampNeg then none else some (schr w x1, S')) := by
  refine ct_of RJ1 (by decide +kernel) rfl [(0, .ref (eSV E w)), (1, .int x1)] rfl (Nat.le_of_ble_eq_true rfl) (fun A S hA C X => ?_)
  refine r_iload_n C 1 dJ1_charAt_3b067_0 rfl ?_
  refine r_aload_n C 0 dJ1_charAt_3b067_1 rfl ?_
  refine r_salen C X hw dJ1_charAt_3b067_2 ?_
  refine r_callS (As := [.int x1, .int (Int32.ofNat (sLen.getD w 0))]) (rest := []) (o' := fun S => bd (if x1 < 0 then none else if x1 < Int32.ofNat (sLen.getD w 0) then some (x1, S) else none) fun _ S' => some ((), S')) C (c_J0_checkIndex _ E x1 (Int32.ofNat (sLen.getD w 0))) dJ1_charAt_3b067_3 (Or.inl (mG 608 (by decide +kernel) rfl)) mv_J0_checkIndex_df160 rfl rfl ⟨by decide, by decide⟩ (Nat.le_of_ble_eq_true rfl) (fun v S' hv => ?_)
  refine r_ite (fun _ => gn) (fun hi => ?_)
  refine r_aload_n C 0 dJ1_charAt_3b067_6 rfl ?_
  refine r_iload_n C 1 dJ1_charAt_3b067_7 rfl ?_
  refine r_sbald C X hw dJ1_charAt_3b067_8 hi ?_
  refine r_sipush C (255 : Int32) dJ1_charAt_3b067_9 (by decide) ?_
  refine r_iand C dJ1_charAt_3b067_12 ?_
  refine r_i2c C dJ1_charAt_3b067_13 ?_
  exact r_nreturn C X (schr_nar w x1) dJ1_charAt_3b067_14
set_option maxRecDepth 100000 in
set_option maxHeartbeats 4000000 in
theorem c_J0_charAt0 (l : Launch) (E : EN) (w : Nat) (hw : w < sNum) (x1 : Int32) : CT l E yJ0_charAt_5068e cJ0_charAt_5068e 2 (some .char) 3 64 wI tT [.ref (eSK E w), .int x1] (fun S => bd (some ((1 : Int32), S)) fun v S' => if v = 0 then none else bd (bd (bd (if x1 < 0 then none else if x1 < Int32.ofNat (sLen.getD w 0) then some (x1, S') else none) fun _ S' => some ((), S')) fun _ S' => if x1 < 0 ∨ sLen.getD w 0 ≤ x1.toNatClampNeg then none else some (schr w x1, S')) fun v S' => if narrow .char (.int v) = .int v then some (v, S') else none) := by
  refine ct_of RJ0 (by decide +kernel) rfl [(0, .ref (eSK E w)), (1, .int x1)] rfl (Nat.le_of_ble_eq_true rfl) (fun A S hA C X => ?_)
  refine r_aload_n C 0 dJ0_charAt_5068e_0 rfl ?_
  refine r_callT (As := []) (rest := []) (o' := fun S => some ((1 : Int32), S)) C X (c_J0_isLatin1 _ E w hw) dJ0_charAt_5068e_1 (mG 601 (by decide +kernel) rfl) mv_J0_isLatin1_aae02 rfl hw rfl rfl ⟨by decide, by decide⟩ (Nat.le_of_ble_eq_true rfl) (fun v S' hv => ?_)
  refine r_if_eq C 16 dJ0_charAt_5068e_4 (by decide) gn ?_
  refine r_aload_n C 0 dJ0_charAt_5068e_7 rfl ?_
  refine r_sval C X hw (mG 1950 (by decide +kernel) rfl) dJ0_charAt_5068e_8 ?_
  refine r_iload_n C 1 dJ0_charAt_5068e_11 rfl ?_
  refine r_callS (As := [.ref (eSV E w), .int x1]) (rest := []) C (c_J1_charAt _ E w hw x1) dJ0_charAt_5068e_12 (Or.inl (mG 605 (by decide +kernel) rfl)) mv_J1_charAt_3b067 rfl rfl ⟨by decide, by decide⟩ (Nat.le_of_ble_eq_true rfl) (fun v S' hv => ?_)
  exact r_ite (fun h => r_nreturn C X h dJ0_charAt_5068e_15) (fun _ => gn)
/-- what length and charAt of a text constant answer -/
def f_length (w : Nat) (S : WS) : Option (Int32 × WS) := some (Int32.ofNat (sLen.getD w 0), S)
def f_charAt (w : Nat) (S : WS) (k : Int32) : Option (Int32 × WS) := if k < 0 ∨ sLen.getD w 0 ≤ k.toNatClampNeg then none else some (schr w k, S)
theorem c_length (l : Launch) (E : EN) (w : Nat) (hw : w < sNum) : CT l E yJ0_length_8abf5 cJ0_length_8abf5 1 (some .int) 1 20 wI tT [.ref (eSK E w)] (fun S => f_length w S) := by
  intro S x hx
  refine c_J0_length l E w hw S x ?_
  show some (Int32.ofNat (sLen.getD w 0) >>> ((0 : Int32) &&& 31), S) = some x
  have h3 : ∀ w, w < sNum → Int32.ofNat (sLen.getD w 0) >>> ((0 : Int32) &&& 31) = Int32.ofNat (sLen.getD w 0) := by decide +kernel
  rw [h3 w hw]
  exact hx
theorem c_charAt (l : Launch) (E : EN) (w : Nat) (hw : w < sNum) (x1 : Int32) : CT l E yJ0_charAt_5068e cJ0_charAt_5068e 2 (some .char) 3 64 wI tT [.ref (eSK E w), .int x1] (fun S => f_charAt w S x1) := by
  intro S x hx
  refine c_J0_charAt0 l E w hw x1 S x ?_
  have hx' : (if x1 < 0 ∨ sLen.getD w 0 ≤ x1.toNatClampNeg then none else some (schr w x1, S)) = some x := hx
  by_cases h : x1 < 0 ∨ sLen.getD w 0 ≤ x1.toNatClampNeg
  · rw [if_pos h] at hx'; cases hx'
  · rw [if_neg h] at hx'
    have h1 : ¬ x1 < 0 := fun z => h (Or.inl z)
    have h2 : x1 < Int32.ofNat (sLen.getD w 0) := by
      obtain ⟨j, hj, rfl⟩ := nI_of h1
      have h3 : ∀ w, w < sNum → sLen.getD w 0 < 2 ^ 31 := by decide +kernel
      have h4 : j < sLen.getD w 0 := by
        rw [nI_clamp hj] at h
        omega
      exact nI_lt h4 (h3 w hw)
    simp only [bd, if_neg h1, if_pos h2, if_neg h, if_neg (show ¬ (1 : Int32) = 0 by decide), schr_nar, if_true]
    exact hx' 
