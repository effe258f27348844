/-! THE START: what the claim gives at its entry, in the words of the worlds -/
def kS : List Nat := [83, 135, 143, 88, 93, 153, 101, 164, 109, 172, 174, 176, 117, 189, 122, 193, 195, 130]
abbrev tmS (i : Nat) : Term := Term.string "DowrySteps$Reader" (kS.getD i 0)
theorem st_ex : ∀ i, i < sNum → Cond.exactly (tmS i) "java/lang/String" ∈ flatC (Jvm.Cond.and given_1 narrow_1) := by decide +kernel
theorem st_co : ∀ i, i < sNum → Cond.eq (.field (tmS i) "java/lang/String" "coder" "B") (.int 0) ∈ flatC (Jvm.Cond.and given_1 narrow_1) := by decide +kernel
theorem st_ar : ∀ i, i < sNum → Cond.arrayOf (.field (tmS i) "java/lang/String" "value" "[B") .byte ∈ flatC (Jvm.Cond.and given_1 narrow_1) := by decide +kernel
theorem st_le : ∀ i, i < sNum → Cond.eq (.length (.field (tmS i) "java/lang/String" "value" "[B")) (.int (Int32.ofNat (sLen.getD i 0))) ∈ flatC (Jvm.Cond.and given_1 narrow_1) := by decide +kernel
theorem st_el : ∀ i, i < sNum → ∀ j, j < sLen.getD i 0 → Cond.eq (.elem (.field (tmS i) "java/lang/String" "value" "[B") (.int (Int32.ofNat j))) (.int ((sByt.getD i []).getD j 0)) ∈ flatC (Jvm.Cond.and given_1 narrow_1) := by decide +kernel
theorem s_lenlt : ∀ i, i < sNum → sLen.getD i 0 < 2 ^ 31 := by decide +kernel
theorem s_diff : ∀ i, i < sNum → ∀ j, j < sNum → i ≠ j → sLen.getD i 0 ≠ sLen.getD j 0 ∨ ∃ k, k < sLen.getD i 0 ∧ (sByt.getD i []).getD k 0 ≠ (sByt.getD j []).getD k 0 := by decide +kernel
theorem vf_same {U : State} {H : Heap} {A : Nat → Prop} {a : Nat} {o n d : String} {v w : Value} (h1 : va_OF o n d v a A U H) (h2 : va_OF o n d w a A U H) : v = w := by
  obtain ⟨cf, k, fi, f, cell, g1, -, g3, -, g5, -⟩ := h1
  obtain ⟨cf', k', fi', f', cell', e1, -, e3, -, e5, -⟩ := h2
  have q1 := g1.symm.trans e1
  have q2 := g3.symm.trans e3
  cases q2
  simp only [Option.some.injEq, Prod.mk.injEq] at q1
  obtain ⟨-, -, -, rfl⟩ := q1
  exact Option.some.inj (g5.symm.trans e5)
theorem vt_same {U : State} {H : Heap} {A : Nat → Prop} {t N M : Nat} {ty : FieldType} {f g : Nat → Value} (hN : N < 2 ^ 31) (hM : M < 2 ^ 31) (h1 : va_T ty t N f A U H) (h2 : va_T ty t M g A U H) : N = M ∧ ∀ j, j < N → f j = g j := by
  obtain ⟨cell, g1, -, -, -, g5, g6, -⟩ := h1
  obtain ⟨cell', e1, -, -, -, e5, e6, -⟩ := h2
  cases g1.symm.trans e1
  have hNM : N = M := by
    have q : nI N = nI M := g5.symm.trans e5
    exact (nI_eq hN hM).mp q
  subst hNM
  exact ⟨rfl, fun j hj => Option.some.inj ((g6 j hj).symm.trans (e6 j hj))⟩
theorem st_S {args : Array Value} {s : State} (hgv : (Jvm.Cond.and given_1 narrow_1).before args s = true) : ∃ adK adV : Nat → Nat, vk_S sNum sLen sByt adK adV (fun q => s.heap.size ≤ q) s s.heap ∧ ∀ i : Nat, i < sNum → (tmS i).eval args s none [] s = some (.ref (adK i)) := by
  have hs := flat_of_before _ hgv
  have hA : ∀ a : Nat, a < s.heap.size → ¬ (fun q => s.heap.size ≤ q) a := fun a h => Nat.not_le.mpr h
  have h0 : ∀ i : Nat, ∃ q : Nat × Nat, i < sNum → (tmS i).eval args s none [] s = some (.ref q.1) ∧ va_O "java/lang/String" q.1 (fun q => s.heap.size ≤ q) s s.heap ∧ va_OF "java/lang/String" "coder" "B" (.int 0) q.1 (fun q => s.heap.size ≤ q) s s.heap ∧ va_OF "java/lang/String" "value" "[B" (.ref q.2) q.1 (fun q => s.heap.size ≤ q) s s.heap ∧ va_T .byte q.2 (sLen.getD i 0) (fun j => .int ((sByt.getD i []).getD j 0)) (fun q => s.heap.size ≤ q) s s.heap := by
    intro i
    by_cases hi : i < sNum
    · obtain ⟨a, c, cA, kA, q1, q2, q3, q4, q5, q6, -⟩ := Cond.exactly_spec (args := args) (first := s) (o := none) (s := s) (idx := []) (t := tmS i) (cls := "java/lang/String") (hs _ (st_ex i hi))
      obtain ⟨t, ht, hT⟩ := va_Tof (f := fun j => .int ((sByt.getD i []).getD j 0)) (A := fun q => s.heap.size ≤ q) (s_lenlt i hi) (hs _ (st_ar i hi)) (va_eqt (hs _ (st_le i hi))) (fun j hj => va_eqt (hs _ (st_el i hi j hj))) hA
      exact ⟨(a, t), fun _ => ⟨q1, ⟨cA, q3, q5, by rw [q6]; exact q2, hA a (Array.getElem?_eq_some_iff.mp q3).1⟩, vk_OFof q1 (va_eqt (hs _ (st_co i hi))) hA, vk_OFof q1 ht hA, hT⟩⟩
    · exact ⟨(0, 0), fun h => absurd h hi⟩
  obtain ⟨ad, had⟩ := Classical.axiomOfChoice h0
  refine ⟨fun i => (ad i).1, fun i => (ad i).2, ⟨fun i hi => (had i hi).2, fun i j hi hj e => ?_⟩, fun i hi => (had i hi).1⟩
  by_cases hij : i = j
  · exact hij
  · exfalso
    obtain ⟨-, -, -, hv, hT⟩ := had i hi
    obtain ⟨-, -, -, hv', hT'⟩ := had j hj
    have e : (ad i).1 = (ad j).1 := e
    rw [← e] at hv'
    have h1 := vf_same hv hv'
    cases hq : (ad i).2 with
    | _ => 
      have h2 : (ad i).2 = (ad j).2 := by injection h1
      rw [← h2] at hT'
      obtain ⟨g1, g2⟩ := vt_same (s_lenlt i hi) (s_lenlt j hj) hT hT'
      rcases s_diff i hi j hj hij with g | ⟨k, hk, g⟩
      · exact g g1
      · have := g2 k hk
        injection this with this
        exact g this
theorem st_R {args : Array Value} {s : State} {adK : Nat → Nat} (hts : ∀ w ∈ lw_tbl, w.before args s = true) (hgv : (Jvm.Cond.and given_1 narrow_1).before args s = true) (hK : ∀ i : Nat, i < sNum → (tmS i).eval args s none [] s = some (.ref (adK i))) : ∀ (own : String) (k : Nat) (tx : String) (i : Nat), (own, k, tx, i) ∈ sTab → vk_R own k tx (adK i) s := by
  have hs := flat_of_before _ hgv
  intro own k tx i h
  unfold sTab at h
  simp only [List.mem_cons, Prod.mk.injEq, List.not_mem_nil, or_false] at h
  rcases h with ⟨rfl, rfl, rfl, rfl⟩ | ⟨rfl, rfl, rfl, rfl⟩ | ⟨rfl, rfl, rfl, rfl⟩ | ⟨rfl, rfl, rfl, rfl⟩ | ⟨rfl, rfl, rfl, rfl⟩ | ⟨rfl, rfl, rfl, rfl⟩ | ⟨rfl, rfl, rfl, rfl⟩ | ⟨rfl, rfl, rfl, rfl⟩ | ⟨rfl, rfl, rfl, rfl⟩ | ⟨rfl, rfl, rfl, rfl⟩ | ⟨rfl, rfl, rfl, rfl⟩ | ⟨rfl, rfl, rfl, rfl⟩ | ⟨rfl, rfl, rfl, rfl⟩ | ⟨rfl, rfl, rfl, rfl⟩ | ⟨rfl, rfl, rfl, rfl⟩ | ⟨rfl, rfl, rfl, rfl⟩ | ⟨rfl, rfl, rfl, rfl⟩ | ⟨rfl, rfl, rfl, rfl⟩ | ⟨rfl, rfl, rfl, rfl⟩ | ⟨rfl, rfl, rfl, rfl⟩ | ⟨rfl, rfl, rfl, rfl⟩ | ⟨rfl, rfl, rfl, rfl⟩ | ⟨rfl, rfl, rfl, rfl⟩ | ⟨rfl, rfl, rfl, rfl⟩ | ⟨rfl, rfl, rfl, rfl⟩ | ⟨rfl, rfl, rfl, rfl⟩ | ⟨rfl, rfl, rfl, rfl⟩ | ⟨rfl, rfl, rfl, rfl⟩ | ⟨rfl, rfl, rfl, rfl⟩ | ⟨rfl, rfl, rfl, rfl⟩ | ⟨rfl, rfl, rfl, rfl⟩ | ⟨rfl, rfl, rfl, rfl⟩ | ⟨rfl, rfl, rfl, rfl⟩ | ⟨rfl, rfl, rfl, rfl⟩ | ⟨rfl, rfl, rfl, rfl⟩ | ⟨rfl, rfl, rfl, rfl⟩
  · exact vk_R.of (A := args) (hts _ (List.mem_of_getElem? (i := 582) (by decide +kernel))) (hK 0 (by decide))
  · exact vk_R.of (A := args) (hts _ (List.mem_of_getElem? (i := 639) (by decide +kernel))) (hK 1 (by decide))
  · exact vk_R.of (A := args) (hts _ (List.mem_of_getElem? (i := 652) (by decide +kernel))) (hK 2 (by decide))
  · exact vk_R.of (A := args) (hts _ (List.mem_of_getElem? (i := 653) (by decide +kernel))) (hK 3 (by decide))
  · exact vk_R.of (A := args) (hts _ (List.mem_of_getElem? (i := 658) (by decide +kernel))) (hK 4 (by decide))
  · exact vk_R.of (A := args) (hts _ (List.mem_of_getElem? (i := 663) (by decide +kernel))) (hK 5 (by decide))
  · exact vk_R.of (A := args) (hts _ (List.mem_of_getElem? (i := 668) (by decide +kernel))) (hK 6 (by decide))
  · exact vk_R.of (A := args) (hts _ (List.mem_of_getElem? (i := 673) (by decide +kernel))) (hK 7 (by decide))
  · exact vk_R.of (A := args) (hts _ (List.mem_of_getElem? (i := 674) (by decide +kernel))) (hK 8 (by decide))
  · exact vk_R.of (A := args) (hts _ (List.mem_of_getElem? (i := 679) (by decide +kernel))) (hK 9 (by decide))
  · exact vk_R.of (A := args) (hts _ (List.mem_of_getElem? (i := 680) (by decide +kernel))) (hK 10 (by decide))
  · exact vk_R.of (A := args) (hts _ (List.mem_of_getElem? (i := 681) (by decide +kernel))) (hK 11 (by decide))
  · exact vk_R.of (A := args) (hts _ (List.mem_of_getElem? (i := 686) (by decide +kernel))) (hK 12 (by decide))
  · exact vk_R.of (A := args) (hts _ (List.mem_of_getElem? (i := 691) (by decide +kernel))) (hK 13 (by decide))
  · exact vk_R.of (A := args) (hts _ (List.mem_of_getElem? (i := 692) (by decide +kernel))) (hK 14 (by decide))
  · exact vk_R.of (A := args) (hts _ (List.mem_of_getElem? (i := 697) (by decide +kernel))) (hK 15 (by decide))
  · exact vk_R.of (A := args) (hts _ (List.mem_of_getElem? (i := 698) (by decide +kernel))) (hK 16 (by decide))
  · exact vk_R.of (A := args) (hts _ (List.mem_of_getElem? (i := 699) (by decide +kernel))) (hK 17 (by decide))
  · exact vk_R.of (A := args) (hts _ (List.mem_of_getElem? (i := 1425) (by decide +kernel))) (va_eqR (hs (Cond.eq (tmS 0) (Term.string "DowryStepsModel" 223)) (by decide +kernel)) (hK 0 (by decide)))
  · exact vk_R.of (A := args) (hts _ (List.mem_of_getElem? (i := 1444) (by decide +kernel))) (va_eqR (hs (Cond.eq (tmS 1) (Term.string "DowryStepsModel" 225)) (by decide +kernel)) (hK 1 (by decide)))
  · exact vk_R.of (A := args) (hts _ (List.mem_of_getElem? (i := 1453) (by decide +kernel))) (va_eqR (hs (Cond.eq (tmS 2) (Term.string "DowryStepsModel" 226)) (by decide +kernel)) (hK 2 (by decide)))
  · exact vk_R.of (A := args) (hts _ (List.mem_of_getElem? (i := 1458) (by decide +kernel))) (va_eqR (hs (Cond.eq (tmS 3) (Term.string "DowryStepsModel" 192)) (by decide +kernel)) (hK 3 (by decide)))
  · exact vk_R.of (A := args) (hts _ (List.mem_of_getElem? (i := 1459) (by decide +kernel))) (va_eqR (hs (Cond.eq (tmS 4) (Term.string "DowryStepsModel" 179)) (by decide +kernel)) (hK 4 (by decide)))
  · exact vk_R.of (A := args) (hts _ (List.mem_of_getElem? (i := 1460) (by decide +kernel))) (va_eqR (hs (Cond.eq (tmS 6) (Term.string "DowryStepsModel" 194)) (by decide +kernel)) (hK 6 (by decide)))
  · exact vk_R.of (A := args) (hts _ (List.mem_of_getElem? (i := 1461) (by decide +kernel))) (va_eqR (hs (Cond.eq (tmS 8) (Term.string "DowryStepsModel" 196)) (by decide +kernel)) (hK 8 (by decide)))
  · exact vk_R.of (A := args) (hts _ (List.mem_of_getElem? (i := 1462) (by decide +kernel))) (va_eqR (hs (Cond.eq (tmS 12) (Term.string "DowryStepsModel" 198)) (by decide +kernel)) (hK 12 (by decide)))
  · exact vk_R.of (A := args) (hts _ (List.mem_of_getElem? (i := 1463) (by decide +kernel))) (va_eqR (hs (Cond.eq (tmS 14) (Term.string "DowryStepsModel" 200)) (by decide +kernel)) (hK 14 (by decide)))
  · exact vk_R.of (A := args) (hts _ (List.mem_of_getElem? (i := 1464) (by decide +kernel))) (va_eqR (hs (Cond.eq (tmS 17) (Term.string "DowryStepsModel" 202)) (by decide +kernel)) (hK 17 (by decide)))
  · exact vk_R.of (A := args) (hts _ (List.mem_of_getElem? (i := 1473) (by decide +kernel))) (va_eqR (hs (Cond.eq (tmS 5) (Term.string "DowryStepsModel" 173)) (by decide +kernel)) (hK 5 (by decide)))
  · exact vk_R.of (A := args) (hts _ (List.mem_of_getElem? (i := 1482) (by decide +kernel))) (va_eqR (hs (Cond.eq (tmS 7) (Term.string "DowryStepsModel" 185)) (by decide +kernel)) (hK 7 (by decide)))
  · exact vk_R.of (A := args) (hts _ (List.mem_of_getElem? (i := 1487) (by decide +kernel))) (va_eqR (hs (Cond.eq (tmS 9) (Term.string "DowryStepsModel" 186)) (by decide +kernel)) (hK 9 (by decide)))
  · exact vk_R.of (A := args) (hts _ (List.mem_of_getElem? (i := 1488) (by decide +kernel))) (va_eqR (hs (Cond.eq (tmS 10) (Term.string "DowryStepsModel" 188)) (by decide +kernel)) (hK 10 (by decide)))
  · exact vk_R.of (A := args) (hts _ (List.mem_of_getElem? (i := 1489) (by decide +kernel))) (va_eqR (hs (Cond.eq (tmS 11) (Term.string "DowryStepsModel" 190)) (by decide +kernel)) (hK 11 (by decide)))
  · exact vk_R.of (A := args) (hts _ (List.mem_of_getElem? (i := 1494) (by decide +kernel))) (va_eqR (hs (Cond.eq (tmS 13) (Term.string "DowryStepsModel" 216)) (by decide +kernel)) (hK 13 (by decide)))
  · exact vk_R.of (A := args) (hts _ (List.mem_of_getElem? (i := 1495) (by decide +kernel))) (va_eqR (hs (Cond.eq (tmS 15) (Term.string "DowryStepsModel" 217)) (by decide +kernel)) (hK 15 (by decide)))
  · exact vk_R.of (A := args) (hts _ (List.mem_of_getElem? (i := 1496) (by decide +kernel))) (va_eqR (hs (Cond.eq (tmS 16) (Term.string "DowryStepsModel" 219)) (by decide +kernel)) (hK 16 (by decide)))
theorem st_Nw {args : Array Value} {s : State} (hts : ∀ w ∈ lw_tbl, w.before args s = true) : Nw s := by
  intro w hw
  obtain ⟨h1, h2⟩ := List.mem_filter.mp hw
  have h3 := hts w h1
  refine va_Nw.of ?_ h3
  cases w <;> first | rfl | cases h2
theorem st_K {args : Array Value} {s : State} (hts : ∀ w ∈ lw_tbl, w.before args s = true) : ∃ (D : va_G) (cy : Nat → ClassId), ∀ E : EN, eD E = D → eC E = cy → va_K (eD E) vwCl (tys E) s := by
  have hG : ∀ w ∈ G0, w.before args s = true := fun w hw => hts w (List.mem_filter.mp hw).1
  obtain ⟨c0, i0, k0⟩ := u_known hG inGX0 (hG (Cond.instantiable RX0 7) (mG 422 (by decide +kernel) rfl))
  obtain ⟨c1, i1, k1⟩ := u_known hG inGX2 (hG (Cond.instantiable RX2 5) (mG 455 (by decide +kernel) rfl))
  obtain ⟨c2, i2, k2⟩ := u_known hG inGX3 (hG (Cond.instantiable RX3 19) (mG 211 (by decide +kernel) rfl))
  obtain ⟨c3, i3, k3⟩ := u_known hG inGX4 (hG (Cond.instantiable RX4 8) (mG 177 (by decide +kernel) rfl))
  obtain ⟨c4, i4, k4⟩ := u_known hG inGX5 (hG (Cond.instantiable RX5 11) (mG 377 (by decide +kernel) rfl))
  obtain ⟨c5, i5, k5⟩ := u_known hG inGX6 (hG (Cond.instantiable RX6 3) (mG 476 (by decide +kernel) rfl))
  obtain ⟨c6, i6, k6⟩ := u_known hG inGX7 (hG (Cond.instantiable RX7 11) (mG 328 (by decide +kernel) rfl))
  obtain ⟨c7, i7, k7⟩ := u_known hG inGX8 (hG (Cond.instantiable RX8 15) (mG 169 (by decide +kernel) rfl))
  obtain ⟨c8, i8, k8⟩ := u_known hG inGX9 (hG (Cond.instantiable RX9 38) (mG 1256 (by decide +kernel) rfl))
  obtain ⟨a9, ka9, ca9, f9, g9, e9⟩ := Cond.arrayClass_spec (hG (Cond.arrayClass .byte) (mG 209 (by decide +kernel) rfl))
  obtain ⟨a10, ka10, ca10, f10, g10, e10⟩ := Cond.arrayClass_spec (hG (Cond.arrayClass .int) (mG 323 (by decide +kernel) rfl))
  obtain ⟨a11, ka11, ca11, f11, g11, e11⟩ := Cond.arrayClass_spec (hG (Cond.arrayClass .long) (mG 420 (by decide +kernel) rfl))
  obtain ⟨a12, ka12, ca12, f12, g12, e12⟩ := Cond.arrayClass_spec (hG (Cond.arrayClass .boolean) (mG 375 (by decide +kernel) rfl))
  obtain ⟨co13, a13, ka13, f13, -, g13, e13, n13⟩ := Cond.arrayOver_spec (hts (Cond.arrayOver (.object "DowrySteps$Mountain")) (List.mem_of_getElem? (i := 324) (by decide +kernel)))
  obtain ⟨co14, a14, ka14, f14, -, g14, e14, n14⟩ := Cond.arrayOver_spec (hts (Cond.arrayOver (.object "DowrySteps$Slot")) (List.mem_of_getElem? (i := 326) (by decide +kernel)))
  refine ⟨((fun k => match k with | 0 => c0 | 1 => c1 | 2 => c2 | 3 => c3 | 4 => c4 | 5 => c5 | 6 => c6 | 7 => c7 | _ => c8), (fun k => match k with | 0 => i0 | 1 => i1 | 2 => i2 | 3 => i3 | 4 => i4 | 5 => i5 | 6 => i6 | 7 => i7 | _ => i8)), (fun k => match k with | 9 => a9 | 10 => a10 | 11 => a11 | 12 => a12 | 13 => a13 | _ => a14), fun E hD hC => ?_⟩
  unfold tys
  rw [hD, hC]
  refine ⟨fun c q hq => ?_, fun k q hq => ?_⟩
  · match c, hq with
    | 0, hq => cases hq; exact k0
    | 1, hq => cases hq; exact k1
    | 2, hq => cases hq; exact k2
    | 3, hq => cases hq; exact k3
    | 4, hq => cases hq; exact k4
    | 5, hq => cases hq; exact k5
    | 6, hq => cases hq; exact k6
    | 7, hq => cases hq; exact k7
    | 8, hq => cases hq; exact k8
    | n + 9, hq => cases hq
  · match k, hq with
    | 0, hq => cases hq; exact ⟨fun n z => ⟨fun k h => (by cases h), ka9, g9, ca9, e9⟩, f9⟩
    | 1, hq => cases hq; exact ⟨fun n z => ⟨fun k h => (by cases h), ka10, g10, ca10, e10⟩, f10⟩
    | 2, hq => cases hq; exact ⟨fun n z => ⟨fun k h => (by cases h), ka11, g11, ca11, e11⟩, f11⟩
    | 3, hq => cases hq; exact ⟨fun n z => ⟨fun k h => (by cases h), ka12, g12, ca12, e12⟩, f12⟩
    | 4, hq => cases hq; exact ⟨fun n z => ⟨fun k h => (by cases h), ka13, g13, co13, e13⟩, ka13, co13, g13, e13, f13, n13⟩
    | 5, hq => cases hq; exact ⟨fun n z => ⟨fun k h => (by cases h), ka14, g14, co14, e14⟩, ka14, co14, g14, e14, f14, n14⟩
    | n + 6, hq => cases hq
theorem st_Z {args : Array Value} {s : State} (hts : ∀ w ∈ lw_tbl, w.before args s = true) (hgv : (Jvm.Cond.and given_1 narrow_1).before args s = true) : va_Z "java/lang/String" "COMPACT_STRINGS" "Z" (.int 1) (fun q => s.heap.size ≤ q) s s.heap ∧ va_Zq "jdk/internal/util/Preconditions" "SIOOBE_FORMATTER" "Ljava/util/function/BiFunction;" (fun q => s.heap.size ≤ q) s s.heap := by
  have hs := flat_of_before _ hgv
  have hA : ∀ a : Nat, a < s.heap.size → ¬ (fun q => s.heap.size ≤ q) a := fun a h => Nat.not_le.mpr h
  refine ⟨va_Zof (hts (Cond.laysStatic "java/lang/String" "COMPACT_STRINGS" "Z") (List.mem_of_getElem? (i := 596) (by decide +kernel))) (hts (Cond.initialized "java/lang/String") (List.mem_of_getElem? (i := 162) (by decide +kernel))) (va_eqi (hs _ (by decide +kernel))) hA, ?_⟩
  have h1 : (Cond.isRef (.static "jdk/internal/util/Preconditions" "SIOOBE_FORMATTER" "Ljava/util/function/BiFunction;")).before args s = true := hs _ (by decide +kernel)
  exact va_Zqof (hts (Cond.laysStatic "jdk/internal/util/Preconditions" "SIOOBE_FORMATTER" "Ljava/util/function/BiFunction;") (List.mem_of_getElem? (i := 612) (by decide +kernel))) (hts (Cond.initialized "jdk/internal/util/Preconditions") (List.mem_of_getElem? (i := 164) (by decide +kernel))) h1 hA
