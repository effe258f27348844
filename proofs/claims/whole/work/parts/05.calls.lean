/-! CONTRACTS, ENDS AND CALLS -/
def Qe {ρ : Type} (E : EN) (w : ρ → Option Value) (x : ρ × WS) : Array Value → State → Outcome → State → Prop := fun _ st oc t => oc = .returned (w x.1) ∧ Wd E x.2 t.heap ∧ va_F (fun q => q ∈ eL E) st t
/-- the contract of method y: what o computes, it answers, and the world is as o leaves it; it makes no cells -/
def CT {ρ : Type} (l : Launch) (E : EN) (y : MethodName) (cc : ByteArray) (nL : Nat) (ret : Option FieldType) (fr lo : Nat) (w : ρ → Option Value) (as : List Value) (o : WS → Option (ρ × WS)) : Prop :=
  ∀ (S : WS) (x : ρ × WS), o S = some x → Met l y (Cond.code y cc nL ret :: G0) { frames := fr, cells := 0, slots := 0, locals := lo } (va_Pc as (Bg E S)) (Qe E w x) 0 0 (fun q => q ∈ eL E)
abbrev Ex (A : AM) (E : EN) (ret : Option FieldType) : Prop := (amt A).sig.returnType = ret ∧ (amt A).locks = false ∧ amF A = fun q => q ∈ eL E
abbrev QM {ρ : Type} (A : AM) (E : EN) (w : ρ → Option Value) : ρ × WS → State → Prop := fun x => MQ (amb A) (Qe E w x) (ama A) (ams A) (amk A) (amn A) (amF A)
abbrev wI : Int32 → Option Value := fun v => some (.int v)
abbrev wJ : Int64 → Option Value := fun v => some (.long v)
abbrev wV : Unit → Option Value := fun _ => none
abbrev wR : Option Nat → Option Value := fun r => some (va_rf r)
theorem W.wk {p : Program} {l : Launch} {e : Env} {R : Room} {s : State} {m : MethodId} {args : Array Value} {below : List Frame} {meth : Method} {c : Code} {H : Heap} {locs : List Loc} {cells slots : Nat} {Q Q' : State → Prop} {g : JFrame} (h : W p l e R s m args below meth c H locs cells slots Q g) (hq : ∀ t, Q t → Q' t) : W p l e R s m args below meth c H locs cells slots Q' g := by
  intro T hT X
  obtain ⟨t, a, b⟩ := h T hT X
  exact ⟨t, a, hq t b⟩
theorem ct_of {ρ : Type} {l : Launch} {E : EN} {y : MethodName} {cc : ByteArray} {nL : Nat} {ret : Option FieldType} {fr lo : Nat} {w : ρ → Option Value} {as : List Value} {o : WS → Option (ρ × WS)} (own : String) (hy : plainName y.cls = true) (ho : y.cls = own) (ls : List (Nat × Value)) (hls : lv_args 0 as = ls) (hn : (lg_sl as).length ≤ nL)
    (body : ∀ (A : AM) (S : WS), aml A = l → Cx A E cc nL own fr lo → Ex A E ret → Gd A E nL (QM A E w) (o S) S 0 ls []) : CT l E y cc nL ret fr lo w as o := by
  intro S x hx
  refine Met.ofW (cc := cc) (maxL := nL) (ret := ret) hy rfl ?_
  intro p e s m args below meth c s₁ B hml hv
  obtain ⟨rfl, hB⟩ := hv
  have hts0 := atoms_spec (ws := Cond.code y cc nL ret :: G0) B.pre
  have hown : s.vm.findClass own = some m.cls := by rw [← ho]; exact findClass_of_methodNamed B.named
  rw [lg_entry_eq]
  have key := body (p, l, e, { frames := fr, cells := 0, slots := 0, locals := lo }, s, m, as.toArray, below, meth, c, (fun q => q ∈ eL E), 0, 0) S rfl ⟨B.exec, B.bytes, hml, hown, fun w hw => hts0 w (List.mem_cons_of_mem _ hw), hB.2.1, hB.2.2.1, hB.2.2.2, fun _ h => h, Nat.le_refl _, Nat.le_refl _, Nat.le_refl _, Nat.le_refl _⟩ ⟨B.returns, B.notSynchronized, rfl⟩
  exact W.wk (key s.heap [] _ hB.1 va_S.rf (hls ▸ lv_entry as hn)) (fun t h => h x hx)
section CROWS
variable {A : AM} {E : EN} {nL : Nat} {ρ : Type} {Qf : ρ × WS → State → Prop} {o : Option (ρ × WS)} {S : WS} {pc : Nat} {ls : List (Nat × Value)} {st : List Value} {cc : ByteArray} {own : String} {fr lo : Nat}
theorem r_ireturn (C : Cx A E cc nL own fr lo) (X : Ex A E (some .int)) {v : Int32} (d : decode cc pc = .ok (.ireturn, 1)) : Gd A E nL (QM A E wI) (some (v, S)) S pc ls [.int v] := by
  intro H locs la hW hS hl
  obtain ⟨h1, h2, h3⟩ := X
  refine W.wk (W.iret (Qc := Qe E wI (v, S)) (free := amF A) C.1 C.2.1 h1 (fun t ht _ => ⟨rfl, by rw [ht]; exact hW, ?_⟩) hS.2.2 d h2) (fun t h x hx => by cases hx; exact h)
  rw [h3] at hS
  exact hS.F ht
theorem r_zreturn (C : Cx A E cc nL own fr lo) (X : Ex A E (some .boolean)) {v : Int32} (hn : narrow .boolean (.int v) = .int v) (d : decode cc pc = .ok (.ireturn, 1)) : Gd A E nL (QM A E wI) (some (v, S)) S pc ls [.int v] := by
  intro H locs la hW hS hl
  obtain ⟨h1, h2, h3⟩ := X
  refine W.wk (W.zret (Qc := Qe E wI (v, S)) (free := amF A) C.1 C.2.1 h1 hn (fun t ht _ => ⟨rfl, by rw [ht]; exact hW, ?_⟩) hS.2.2 d h2) (fun t h x hx => by cases hx; exact h)
  rw [h3] at hS
  exact hS.F ht
def zc (v : Int32) (S : WS) : Option (Int32 × WS) := if v = 0 ∨ v = 1 then some (v, S) else none
theorem r_zreturnc (C : Cx A E cc nL own fr lo) (X : Ex A E (some .boolean)) {v : Int32} (d : decode cc pc = .ok (.ireturn, 1)) : Gd A E nL (QM A E wI) (zc v S) S pc ls [.int v] := by
  unfold zc
  by_cases h : v = 0 ∨ v = 1
  · rw [if_pos h]
    refine r_zreturn C X ?_ d
    rcases h with rfl | rfl <;> rfl
  · rw [if_neg h]; exact gn
theorem r_lreturn (C : Cx A E cc nL own fr lo) (X : Ex A E (some .long)) {v : Int64} (d : decode cc pc = .ok (.lreturn, 1)) : Gd A E nL (QM A E wJ) (some (v, S)) S pc ls [.long v] := by
  intro H locs la hW hS hl
  obtain ⟨h1, h2, h3⟩ := X
  refine W.wk (W.lret (Qc := Qe E wJ (v, S)) (free := amF A) C.1 C.2.1 h1 (fun t ht _ => ⟨rfl, by rw [ht]; exact hW, ?_⟩) hS.2.2 d h2) (fun t h x hx => by cases hx; exact h)
  rw [h3] at hS
  exact hS.F ht
theorem r_return (C : Cx A E cc nL own fr lo) (X : Ex A E none) (d : decode cc pc = .ok (.return_, 1)) : Gd A E nL (QM A E wV) (some ((), S)) S pc ls [] := by
  intro H locs la hW hS hl
  obtain ⟨h1, h2, h3⟩ := X
  refine W.wk (W.vret (Qc := Qe E wV ((), S)) (free := amF A) C.1 C.2.1 h1 (fun t ht _ => ⟨rfl, by rw [ht]; exact hW, ?_⟩) hS.2.2 d h2) (fun t h x hx => by cases hx; exact h)
  rw [h3] at hS
  exact hS.F ht
theorem r_areturn (C : Cx A E cc nL own fr lo) {n : String} (X : Ex A E (some (.object n))) {r : Option Nat} {v : Value} (hv : va_rf r = v) (d : decode cc pc = .ok (.areturn, 1)) : Gd A E nL (QM A E wR) (some (r, S)) S pc ls [v] := by
  subst hv
  intro H locs la hW hS hl
  obtain ⟨h1, h2, h3⟩ := X
  refine W.wk (W.aret (Qc := Qe E wR (r, S)) (free := amF A) C.1 C.2.1 h1 (Or.inl ⟨n, rfl⟩) (by cases r; exact Or.inl rfl; exact Or.inr ⟨_, rfl⟩) (fun t ht _ => ⟨rfl, by rw [ht]; exact hW, ?_⟩) hS.2.2 d h2) (fun t h x hx => by cases hx; exact h)
  rw [h3] at hS
  exact hS.F ht
/-- what the tables say of a method -/
def MV (y : MethodName) (cc : ByteArray) (nL : Nat) (ret : Option FieldType) (n : Nat) : Prop := Cond.instanceMethod y ∈ G0 ∧ Cond.selects y.cls y y ∈ G0 ∧ Cond.initialized y.cls ∈ G0 ∧ Cond.code y cc nL ret ∈ G0 ∧ (y.cls ≠ "java/lang/invoke/MethodHandle" ∧ y.cls ≠ "java/lang/invoke/VarHandle" ∧ (parseMethodDescriptor y.desc).map (fun d => d.parameters.length) = some n)
def MS (y : MethodName) (cc : ByteArray) (nL : Nat) (ret : Option FieldType) (n : Nat) : Prop := Cond.static y ∈ G0 ∧ Cond.initialized y.cls ∈ G0 ∧ Cond.code y cc nL ret ∈ G0 ∧ (y.cls ≠ "java/lang/invoke/MethodHandle" ∧ y.cls ≠ "java/lang/invoke/VarHandle" ∧ (parseMethodDescriptor y.desc).map (fun d => d.parameters.length) = some n)
def ML (own : String) (idx : Nat) (y : MethodName) : Prop := Cond.methodLink own idx y ∈ G0 ∨ ∃ host, Cond.methodLinkNest own idx y host ∈ N0
theorem Bg.blind {E : EN} {S : WS} {as : List Value} : FrameBlind (va_Pc as (Bg E S)) := fun a U g mk h => ⟨h.1, h.2.1, va_K.moved (u := U) (U := U.calling g mk a) (Vm.Alike.refl U.vm) h.2.2.1, Nw.same (u := U) (U := U.calling g mk a) rfl h.2.2.2.1, h.2.2.2.2⟩
theorem Bg.at (C : Cx A E cc nL own fr lo) {H : Heap} (hW : Wd E S H) {as : List Value} {U : State} (hU : U.heap = H) (hw : (ams A).WarmedH U.vm) : va_Pc as (Bg E S) as.toArray U := ⟨rfl, by rw [hU]; exact hW, va_K.moved hw.alike C.2.2.2.2.2.1, Nw.warm hw C.2.2.2.2.2.2.1, C.2.2.2.2.2.2.2.1⟩
theorem g_call {ρ' : Type} {w' : ρ' → Option Value} {x : ρ' × WS} {st0 rest : List Value} {as : Array Value} {H : Heap} {locs : List Loc} {la : Array Slot} (C : Cx A E cc nL own fr lo)
    (hr : va_Run (amp A) (aml A) (ame A) (amR A) (ams A) (amm A) (ama A) (amb A) (amt A) (amc A) H locs (amk A) (amn A) 0 0 (F0 (amm A) pc la st0) rest (Qe E w' x as) (fun q => q ∈ eL E)) (hS : va_S (amF A) (ams A).heap H locs) (hl : lv_has la nL ls) (g : Gd A E nL Qf o x.2 (pc + 3) ls ((w' x.1).toList ++ rest)) :
    W (amp A) (aml A) (ame A) (amR A) (ams A) (amm A) (ama A) (amb A) (amt A) (amc A) H locs (amk A) (amn A) (fun t => ∀ x, o = some x → Qf x t) (F0 (amm A) pc la st0) := by
  intro T hT X
  obtain ⟨v, st₀, t, T', L, h0, X', hL, e1, e2, ⟨hv, hb, hz, hk⟩, hst⟩ := hr T hT X
  cases hv
  rw [h0] at hz hk
  have hA := C.2.2.2.2.2.2.2.2.1
  obtain ⟨t2, a1, b1⟩ := g T'.heap (locs ++ L) la (by rw [e1]; exact hb) ⟨Nat.le_trans hS.1 (by rw [e1]; exact hz), fun q h1 h2 => by rw [e1, hk q (Nat.lt_of_lt_of_le h1 hS.1) (fun z => h2 (hA q z))]; exact hS.2.1 q h1 h2, fun q hq => by
      rcases List.mem_append.mp hq with h | h
      · exact hS.2.2 q h
      · exact hA _ (hL q h)⟩ hl T' rfl X'
  exact ⟨t2, hst t2 a1, b1⟩
theorem callFix (C : Cx A E cc nL own fr lo) : CallFix (amp A) (amm A) (amc A) cc nL (ams A) (ama A) G0 own := ⟨C.1, C.2.1, C.2.2.1, C.2.2.2.1, C.2.2.2.2.1⟩
theorem G0_code {y : MethodName} {bytes : ByteArray} {maxL : Nat} {ret : Option FieldType} (h : Cond.code y bytes maxL ret ∈ G0) : GoodIn G0 (Cond.code y bytes maxL ret :: G0) := fun w hw => by
  rcases List.mem_cons.mp hw with rfl | hw
  · exact G0_good _ h
  · exact G0_good _ hw
theorem r_callV {ρ' : Type} {w' : ρ' → Option Value} {o' : WS → Option (ρ' × WS)} {k : ρ' → WS → Option (ρ × WS)} {y : MethodName} {bytes : ByteArray} {maxL idx n fr' lo' b ci : Nat} {ret : Option FieldType} {As rest st0 : List Value} (C : Cx A E cc nL own fr lo) (hM : CT (aml A) E y bytes maxL ret fr' lo' w' (.ref b :: As) o') (d : decode cc pc = .ok (.invokevirtual idx, 3)) (ml : ML own idx y) (mv : MV y bytes maxL ret n) (hci : ∃ T N, vwCl[ci]? = some (y.cls, T, N)) (h9 : ci < 9) (tb : Ty E b ci) (hn : As.length = n) (hs : As.reverse ++ .ref b :: rest = st0) (hR : fr' + 1 ≤ fr ∧ 8 + (maxL + 11) + lo' ≤ lo) (hr : (rest.map fun v => v.category).sum ≤ 8)
    (g : ∀ v S', Gd A E nL Qf (k v S') S' (pc + 3) ls ((w' v).toList ++ rest)) : Gd A E nL Qf (bd (o' S) k) S pc ls st0 := by
  intro H locs la hW hS hl
  cases hx : o' S with
  | none => exact gn (Qf := Qf) H locs la hW hS hl
  | some x =>
    subst hs
    obtain ⟨hin, hse, hini, hcode, hd⟩ := mv
    have hts := C.2.2.2.2.1
    have hRR : fr' + 1 ≤ (amR A).frames ∧ 8 + (maxL + 11) + lo' ≤ (amR A).locals := ⟨Nat.le_trans hR.1 C.2.2.2.2.2.2.2.2.2.1, Nat.le_trans hR.2 C.2.2.2.2.2.2.2.2.2.2.1⟩
    obtain ⟨T, N, hcl⟩ := hci
    obtain ⟨q, hq⟩ := w_get (S := S) tb.1
    rw [ce_obj tb h9] at hq
    have hrecv := va_recv (D := eD E) (cl := vwCl) (tys := tys E) C.2.2.2.2.2.1 hW.1 hcl hq
    have hpre : PreV (ams A) H y.cls b (va_Pc (.ref b :: As) (Bg E S)) As := ⟨Bg.blind, hrecv, fun U hU hw => Bg.at C hW hU hw⟩
    rcases ml with ml | ⟨host, ml⟩
    · exact g_call C (va_runV (callFix C) (hM S x hx) ⟨callB_of n hts (G0_code hcode) rfl rfl rfl (hts _ hini) (hts _ ml) hd hRR, hts _ hin, hts _ hse⟩ hpre rfl hn hl.1 rfl (lv_room hr) d ⟨C.2.2.2.2.2.2.2.2.2.2.2.1, C.2.2.2.2.2.2.2.2.2.2.2.2⟩) hS hl (g x.1 x.2)
    · exact g_call C (va_runVN (callFix C) (hM S x hx) ⟨va_cnB n hts (G0_code hcode) rfl rfl rfl (C.2.2.2.2.2.2.1 _ ml) (hts _ hini) hd hRR, hts _ hin, hts _ hse⟩ hpre rfl hn hl.1 rfl (lv_room hr) d ⟨C.2.2.2.2.2.2.2.2.2.2.2.1, C.2.2.2.2.2.2.2.2.2.2.2.2⟩) hS hl (g x.1 x.2)
theorem r_callS {ρ' : Type} {w' : ρ' → Option Value} {o' : WS → Option (ρ' × WS)} {k : ρ' → WS → Option (ρ × WS)} {y : MethodName} {bytes : ByteArray} {maxL idx n fr' lo' : Nat} {ret : Option FieldType} {As rest st0 : List Value} (C : Cx A E cc nL own fr lo) (hM : CT (aml A) E y bytes maxL ret fr' lo' w' As o') (d : decode cc pc = .ok (.invokestatic idx, 3)) (ml : ML own idx y) (ms : MS y bytes maxL ret n) (hn : As.length = n) (hs : As.reverse ++ rest = st0) (hR : fr' + 1 ≤ fr ∧ 8 + (maxL + 11) + lo' ≤ lo) (hr : (rest.map fun v => v.category).sum ≤ 8)
    (g : ∀ v S', Gd A E nL Qf (k v S') S' (pc + 3) ls ((w' v).toList ++ rest)) : Gd A E nL Qf (bd (o' S) k) S pc ls st0 := by
  intro H locs la hW hS hl
  cases hx : o' S with
  | none => exact gn (Qf := Qf) H locs la hW hS hl
  | some x =>
    subst hs
    obtain ⟨hsta, hini, hcode, hd⟩ := ms
    have hts := C.2.2.2.2.1
    have hRR : fr' + 1 ≤ (amR A).frames ∧ 8 + (maxL + 11) + lo' ≤ (amR A).locals := ⟨Nat.le_trans hR.1 C.2.2.2.2.2.2.2.2.2.1, Nat.le_trans hR.2 C.2.2.2.2.2.2.2.2.2.2.1⟩
    have hpre : PreS (ams A) H (va_Pc As (Bg E S)) As := ⟨Bg.blind, fun U hU hw => Bg.at C hW hU hw⟩
    rcases ml with ml | ⟨host, ml⟩
    · exact g_call C (va_runS (callFix C) (hM S x hx) ⟨callB_of n hts (G0_code hcode) rfl rfl rfl (hts _ hini) (hts _ ml) hd hRR, hts _ hsta⟩ hpre rfl hn hl.1 rfl (lv_room hr) d ⟨C.2.2.2.2.2.2.2.2.2.2.2.1, C.2.2.2.2.2.2.2.2.2.2.2.2⟩) hS hl (g x.1 x.2)
    · exact g_call C (va_runSN (callFix C) (hM S x hx) ⟨va_cnB n hts (G0_code hcode) rfl rfl rfl (C.2.2.2.2.2.2.1 _ ml) (hts _ hini) hd hRR, hts _ hsta, trivial⟩ hpre rfl hn hl.1 rfl (lv_room hr) d ⟨C.2.2.2.2.2.2.2.2.2.2.2.1, C.2.2.2.2.2.2.2.2.2.2.2.2⟩) hS hl (g x.1 x.2)
end CROWS
