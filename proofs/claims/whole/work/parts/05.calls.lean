/-! CONTRACTS, ENDS AND CALLS -/
def Qe {ρ : Type} (E : EN) (w : ρ → Option Value) (T : ρ → Prop) (x : ρ × WS) : Array Value → State → Outcome → State → Prop := fun _ st oc t => oc = .returned (w x.1) ∧ T x.1 ∧ Wd E x.2 t.heap ∧ va_F (fun q => eW E ≤ q) st t
/-- the contract of method y: what o computes, it answers, and the world is as o leaves it; it makes no cells -/
def CT {ρ : Type} (l : Launch) (E : EN) (y : MethodName) (cc : ByteArray) (nL : Nat) (ret : Option FieldType) (fr lo : Nat) (w : ρ → Option Value) (T : ρ → Prop) (as : List Value) (o : WS → Option (ρ × WS)) : Prop :=
  ∀ (S : WS) (x : ρ × WS), o S = some x → Met l y (Cond.code y cc nL ret :: G0) { frames := fr, cells := 0, slots := 0, locals := lo } (va_Pc as (Bg E S)) (Qe E w T x) 0 0 (fun q => eW E ≤ q)
abbrev Ex (A : AM) (E : EN) (ret : Option FieldType) : Prop := (amt A).sig.returnType = ret ∧ (amt A).locks = false ∧ amF A = fun q => eW E ≤ q
abbrev QM {ρ : Type} (A : AM) (E : EN) (w : ρ → Option Value) (T : ρ → Prop) : ρ × WS → State → Prop := fun x => MQ (amb A) (Qe E w T x) (ama A) (ams A) (amk A) (amn A) (amF A)
abbrev wI : Int32 → Option Value := fun v => some (.int v)
abbrev wJ : Int64 → Option Value := fun v => some (.long v)
abbrev wV : Unit → Option Value := fun _ => none
abbrev wR : Option Nat → Option Value := fun r => some (va_rf r)
def TyC (E : EN) (a : Nat) : Prop := Ty E a 0 ∨ Ty E a 1
abbrev tT {α : Type} : α → Prop := fun _ => True
abbrev tR (E : EN) (k : Nat) : Option Nat → Prop := fun r => ∀ b, r = some b → Ty E b k
theorem W.wk {p : Program} {l : Launch} {e : Env} {R : Room} {s : State} {m : MethodId} {args : Array Value} {below : List Frame} {meth : Method} {c : Code} {H : Heap} {locs : List Loc} {cells slots : Nat} {Q Q' : State → Prop} {g : JFrame} (h : W p l e R s m args below meth c H locs cells slots Q g) (hq : ∀ t, Q t → Q' t) : W p l e R s m args below meth c H locs cells slots Q' g := by
  intro T hT X
  obtain ⟨t, a, b⟩ := h T hT X
  exact ⟨t, a, hq t b⟩
theorem ct_of {ρ : Type} {l : Launch} {E : EN} {y : MethodName} {cc : ByteArray} {nL : Nat} {ret : Option FieldType} {fr lo : Nat} {w : ρ → Option Value} {T : ρ → Prop} {as : List Value} {o : WS → Option (ρ × WS)} (own : String) (hy : plainName y.cls = true) (ho : y.cls = own) (ls : List (Nat × Value)) (hls : lv_args 0 as = ls) (hn : (lg_sl as).length ≤ nL)
    (body : ∀ (A : AM) (S : WS), aml A = l → Cx A E cc nL own fr lo → Ex A E ret → Gd A E nL (QM A E w T) (o S) S 0 ls []) : CT l E y cc nL ret fr lo w T as o := by
  intro S x hx
  refine Met.ofW (cc := cc) (maxL := nL) (ret := ret) hy rfl ?_
  intro p e s m args below meth c s₁ B hml hv
  obtain ⟨rfl, hB⟩ := hv
  have hts0 := atoms_spec (ws := Cond.code y cc nL ret :: G0) B.pre
  have hown : s.vm.findClass own = some m.cls := by rw [← ho]; exact findClass_of_methodNamed B.named
  rw [lg_entry_eq]
  have key := body (p, l, e, { frames := fr, cells := 0, slots := 0, locals := lo }, s, m, as.toArray, below, meth, c, (fun q => eW E ≤ q), 0, 0) S rfl ⟨B.exec, B.bytes, hml, hown, fun w hw => hts0 w (List.mem_cons_of_mem _ hw), hB.2.1, hB.2.2.1, hB.2.2.2.1, hB.2.2.2.2.2.1, Nat.le_refl _, Nat.le_refl _, Nat.le_refl _, Nat.le_refl _, hB.2.2.2.2.1, rfl, hB.2.2.2.2.2.1, hB.2.2.2.2.2.2⟩ ⟨B.returns, B.notSynchronized, rfl⟩
  exact W.wk (key s.heap [] _ hB.1 va_S.rf (hls ▸ lv_entry as hn)) (fun t h => h x hx)

theorem nfw_ok {lo L a : Nat} (h : lo ≤ L) (h2 : 30 ≤ lo) (h3 : a ≤ 8) : a + (nativeFrameWords "java/lang/System" "arraycopy" 5 + 11) ≤ L := by
  have e : nativeFrameWords "java/lang/System" "arraycopy" 5 = 7 := by decide +kernel
  rw [e]; omega
section CROWS
variable {A : AM} {E : EN} {nL : Nat} {ρ : Type} {Qf : ρ × WS → State → Prop} {o : Option (ρ × WS)} {S : WS} {pc : Nat} {ls : List (Nat × Value)} {st : List Value} {cc : ByteArray} {own : String} {fr lo : Nat}
theorem r_ireturn (C : Cx A E cc nL own fr lo) (X : Ex A E (some .int)) {v : Int32} (d : decode cc pc = .ok (.ireturn, 1)) : Gd A E nL (QM A E wI tT) (some (v, S)) S pc ls [.int v] := by
  intro H locs la hW hS hl
  obtain ⟨h1, h2, h3⟩ := X
  refine W.wk (W.iret (Qc := Qe E wI tT (v, S)) (free := amF A) C.1 C.2.1 h1 (fun t ht _ => ⟨rfl, trivial, by rw [ht]; exact hW, ?_⟩) hS.2.2 d h2) (fun t h x hx => by cases hx; exact h)
  rw [h3] at hS
  exact hS.F ht
theorem r_zreturn (C : Cx A E cc nL own fr lo) (X : Ex A E (some .boolean)) {v : Int32} (hn : narrow .boolean (.int v) = .int v) (d : decode cc pc = .ok (.ireturn, 1)) : Gd A E nL (QM A E wI tT) (some (v, S)) S pc ls [.int v] := by
  intro H locs la hW hS hl
  obtain ⟨h1, h2, h3⟩ := X
  refine W.wk (W.zret (Qc := Qe E wI tT (v, S)) (free := amF A) C.1 C.2.1 h1 hn (fun t ht _ => ⟨rfl, trivial, by rw [ht]; exact hW, ?_⟩) hS.2.2 d h2) (fun t h x hx => by cases hx; exact h)
  rw [h3] at hS
  exact hS.F ht
def zc (v : Int32) (S : WS) : Option (Int32 × WS) := if v = 0 ∨ v = 1 then some (v, S) else none
theorem r_zreturnc (C : Cx A E cc nL own fr lo) (X : Ex A E (some .boolean)) {v : Int32} (d : decode cc pc = .ok (.ireturn, 1)) : Gd A E nL (QM A E wI tT) (zc v S) S pc ls [.int v] := by
  unfold zc
  by_cases h : v = 0 ∨ v = 1
  · rw [if_pos h]
    refine r_zreturn C X ?_ d
    rcases h with rfl | rfl <;> rfl
  · rw [if_neg h]; exact gn
theorem r_lreturn (C : Cx A E cc nL own fr lo) (X : Ex A E (some .long)) {v : Int64} (d : decode cc pc = .ok (.lreturn, 1)) : Gd A E nL (QM A E wJ tT) (some (v, S)) S pc ls [.long v] := by
  intro H locs la hW hS hl
  obtain ⟨h1, h2, h3⟩ := X
  refine W.wk (W.lret (Qc := Qe E wJ tT (v, S)) (free := amF A) C.1 C.2.1 h1 (fun t ht _ => ⟨rfl, trivial, by rw [ht]; exact hW, ?_⟩) hS.2.2 d h2) (fun t h x hx => by cases hx; exact h)
  rw [h3] at hS
  exact hS.F ht
theorem r_return (C : Cx A E cc nL own fr lo) (X : Ex A E none) (d : decode cc pc = .ok (.return_, 1)) : Gd A E nL (QM A E wV tT) (some ((), S)) S pc ls [] := by
  intro H locs la hW hS hl
  obtain ⟨h1, h2, h3⟩ := X
  refine W.wk (W.vret (Qc := Qe E wV tT ((), S)) (free := amF A) C.1 C.2.1 h1 (fun t ht _ => ⟨rfl, trivial, by rw [ht]; exact hW, ?_⟩) hS.2.2 d h2) (fun t h x hx => by cases hx; exact h)
  rw [h3] at hS
  exact hS.F ht
theorem r_areturn (C : Cx A E cc nL own fr lo) {n : String} (X : Ex A E (some (.object n))) {kk : Nat} {r : Option Nat} {v : Value} (hv : va_rf r = v) (ht0 : tR E kk r) (d : decode cc pc = .ok (.areturn, 1)) : Gd A E nL (QM A E wR (tR E kk)) (some (r, S)) S pc ls [v] := by
  subst hv
  intro H locs la hW hS hl
  obtain ⟨h1, h2, h3⟩ := X
  refine W.wk (W.aret (Qc := Qe E wR (tR E kk) (r, S)) (free := amF A) C.1 C.2.1 h1 (Or.inl ⟨n, rfl⟩) (by cases r; exact Or.inl rfl; exact Or.inr ⟨_, rfl⟩) (fun t ht _ => ⟨rfl, ht0, by rw [ht]; exact hW, ?_⟩) hS.2.2 d h2) (fun t h x hx => by cases hx; exact h)
  rw [h3] at hS
  exact hS.F ht
/-- what the tables say of a method -/
def MV (y : MethodName) (cc : ByteArray) (nL : Nat) (ret : Option FieldType) (n : Nat) : Prop := Cond.instanceMethod y ∈ G0 ∧ Cond.selects y.cls y y ∈ G0 ∧ Cond.initialized y.cls ∈ G0 ∧ Cond.code y cc nL ret ∈ G0 ∧ (y.cls ≠ "java/lang/invoke/MethodHandle" ∧ y.cls ≠ "java/lang/invoke/VarHandle" ∧ (parseMethodDescriptor y.desc).map (fun d => d.parameters.length) = some n)
def MS (y : MethodName) (cc : ByteArray) (nL : Nat) (ret : Option FieldType) (n : Nat) : Prop := Cond.static y ∈ G0 ∧ Cond.initialized y.cls ∈ G0 ∧ Cond.code y cc nL ret ∈ G0 ∧ (y.cls ≠ "java/lang/invoke/MethodHandle" ∧ y.cls ≠ "java/lang/invoke/VarHandle" ∧ (parseMethodDescriptor y.desc).map (fun d => d.parameters.length) = some n)
def ML (own : String) (idx : Nat) (y : MethodName) : Prop := Cond.methodLink own idx y ∈ G0 ∨ ∃ host, Cond.methodLinkNest own idx y host ∈ N0
theorem Sx.same {E : EN} {u U : State} (hv : u.vm = U.vm) (hh : u.heap = U.heap) (h : Sx E u) : Sx E U := by
  have hvm : u.vm.Alike U.vm := by rw [hv]; exact Vm.Alike.refl U.vm
  obtain ⟨h1, h2, h3, h4⟩ := h
  rw [hh] at h1 h3 h4
  exact ⟨vk_S.moved hvm h1, fun own k tx i hi => vk_R.same hv.symm (h2 own k tx i hi), va_Z.moved hvm h3, va_Zq.moved hvm h4⟩
theorem Sx.warm {E : EN} {s U : State} (hw : s.WarmedH U.vm) (hq : ∀ a : Nat, a < s.heap.size → ¬ eW E ≤ a → U.heap[a]? = s.heap[a]?) (h : Sx E s) : Sx E U := by
  obtain ⟨h1, h2, h3, h4⟩ := h
  exact ⟨vk_S.kept (vk_S.moved hw.alike h1) hq, fun own k tx i hi => vk_R.warm hw (h2 own k tx i hi), va_Z.kept (va_Z.moved hw.alike h3) hq, va_Zq.kept (va_Zq.moved hw.alike h4) hq⟩
theorem Bg.blind {E : EN} {S : WS} {as : List Value} : FrameBlind (va_Pc as (Bg E S)) := fun a U g mk h => ⟨h.1, h.2.1, va_K.moved (u := U) (U := U.calling g mk a) (Vm.Alike.refl U.vm) h.2.2.1, Nw.same (u := U) (U := U.calling g mk a) rfl h.2.2.2.1, h.2.2.2.2.1, Sx.same (u := U) (U := U.calling g mk a) rfl rfl h.2.2.2.2.2.1, h.2.2.2.2.2.2.1, h.2.2.2.2.2.2.2⟩
theorem Bg.at (C : Cx A E cc nL own fr lo) {H : Heap} {locs : List Loc} (hS : va_S (amF A) (ams A).heap H locs) (hW : Wd E S H) {as : List Value} {U : State} (hU : U.heap = H) (hw : (ams A).WarmedH U.vm) : va_Pc as (Bg E S) as.toArray U := ⟨rfl, by rw [hU]; exact hW, va_K.moved hw.alike C.2.2.2.2.2.1, Nw.warm hw C.2.2.2.2.2.2.1, C.2.2.2.2.2.2.2.1, Sx.warm hw (fun a h1 h2 => by rw [hU]; exact hS.2.1 a h1 (fun z => h2 (by rw [C.2.2.2.2.2.2.2.2.2.2.2.2.2.2.1] at z; exact z))) C.2.2.2.2.2.2.2.2.2.2.2.2.2.1, C.2.2.2.2.2.2.2.2.2.2.2.2.2.2.2.1, Nat.le_trans C.2.2.2.2.2.2.2.2.2.2.2.2.2.2.2.2 (by rw [hU]; exact hS.1)⟩
theorem g_call {ρ' : Type} {w' : ρ' → Option Value} {T' : ρ' → Prop} {x : ρ' × WS} {st0 rest : List Value} {as : Array Value} {H : Heap} {locs : List Loc} {la : Array Slot} (C : Cx A E cc nL own fr lo)
    (hr : va_Run (amp A) (aml A) (ame A) (amR A) (ams A) (amm A) (ama A) (amb A) (amt A) (amc A) H locs (amk A) (amn A) 0 0 (F0 (amm A) pc la st0) rest (Qe E w' T' x as) (fun q => eW E ≤ q)) (hS : va_S (amF A) (ams A).heap H locs) (hl : lv_has la nL ls) (g : T' x.1 → Gd A E nL Qf o x.2 (pc + 3) ls ((w' x.1).toList ++ rest)) :
    W (amp A) (aml A) (ame A) (amR A) (ams A) (amm A) (ama A) (amb A) (amt A) (amc A) H locs (amk A) (amn A) (fun t => ∀ x, o = some x → Qf x t) (F0 (amm A) pc la st0) := by
  intro T hT X
  obtain ⟨v, st₀, t, T', L, h0, X', hL, e1, e2, ⟨hv, hT', hb, hz, hk⟩, hst⟩ := hr T hT X
  cases hv
  rw [h0] at hz hk
  have hA : ∀ q, eW E ≤ q → amF A q := fun q h => by rw [C.2.2.2.2.2.2.2.2.2.2.2.2.2.2.1]; exact h
  obtain ⟨t2, a1, b1⟩ := g hT' T'.heap (locs ++ L) la (by rw [e1]; exact hb) ⟨Nat.le_trans hS.1 (by rw [e1]; exact hz), fun q h1 h2 => by rw [e1, hk q (Nat.lt_of_lt_of_le h1 hS.1) (fun z => h2 (hA q z))]; exact hS.2.1 q h1 h2, fun q hq => by
      rcases List.mem_append.mp hq with h | h
      · exact hS.2.2 q h
      · exact hA _ (hL q h)⟩ hl T' rfl X'
  exact ⟨t2, hst t2 a1, b1⟩
theorem callFix (C : Cx A E cc nL own fr lo) : CallFix (amp A) (amm A) (amc A) cc nL (ams A) (ama A) G0 own := ⟨C.1, C.2.1, C.2.2.1, C.2.2.2.1, C.2.2.2.2.1⟩
theorem G0_code {y : MethodName} {bytes : ByteArray} {maxL : Nat} {ret : Option FieldType} (h : Cond.code y bytes maxL ret ∈ G0) : GoodIn G0 (Cond.code y bytes maxL ret :: G0) := fun w hw => by
  rcases List.mem_cons.mp hw with rfl | hw
  · exact G0_good _ h
  · exact G0_good _ hw
theorem r_callV {ρ' : Type} {w' : ρ' → Option Value} {T' : ρ' → Prop} {o' : WS → Option (ρ' × WS)} {k : ρ' → WS → Option (ρ × WS)} {y : MethodName} {bytes : ByteArray} {maxL idx n fr' lo' b ci : Nat} {ret : Option FieldType} {As rest st0 : List Value} (C : Cx A E cc nL own fr lo) (hM : CT (aml A) E y bytes maxL ret fr' lo' w' T' (.ref b :: As) o') (d : decode cc pc = .ok (.invokevirtual idx, 3)) (ml : ML own idx y) (mv : MV y bytes maxL ret n) (hci : ∃ T N, vwCl[ci]? = some (y.cls, T, N)) (h9 : ci < 9) (tb : Ty E b ci) (hn : As.length = n) (hs : As.reverse ++ .ref b :: rest = st0) (hR : fr' + 1 ≤ fr ∧ 8 + (maxL + 11) + lo' ≤ lo) (hr : (rest.map fun v => v.category).sum ≤ 8)
    (g : ∀ v S', T' v → Gd A E nL Qf (k v S') S' (pc + 3) ls ((w' v).toList ++ rest)) : Gd A E nL Qf (bd (o' S) k) S pc ls st0 := by
  intro H locs la hW hS hl
  cases hx : o' S with
  | none => exact gn (Qf := Qf) H locs la hW hS hl
  | some x =>
    subst hs
    obtain ⟨hin, hse, hini, hcode, hd⟩ := mv
    have hts := C.2.2.2.2.1
    have hRR : fr' + 1 ≤ (amR A).frames ∧ 8 + (maxL + 11) + lo' ≤ (amR A).locals := ⟨Nat.le_trans hR.1 C.2.2.2.2.2.2.2.2.2.1, Nat.le_trans hR.2 C.2.2.2.2.2.2.2.2.2.2.1⟩
    obtain ⟨T, N, hcl⟩ := hci
    obtain ⟨q, hq⟩ := w_get (S := S) tb.1
    rw [ce_obj tb h9] at hq
    have hrecv := va_recv (D := eD E) (cl := vwCl) (tys := tys E) C.2.2.2.2.2.1 hW.1 hcl hq
    have hpre : PreV (ams A) H y.cls b (va_Pc (.ref b :: As) (Bg E S)) As := ⟨Bg.blind, hrecv, fun U hU hw => Bg.at C hS hW hU hw⟩
    rcases ml with ml | ⟨host, ml⟩
    · exact g_call C (va_runV (callFix C) (hM S x hx) ⟨callB_of n hts (G0_code hcode) rfl rfl rfl (hts _ hini) (hts _ ml) hd hRR, hts _ hin, hts _ hse⟩ hpre rfl hn hl.1 rfl (lv_room hr) d ⟨C.2.2.2.2.2.2.2.2.2.2.2.1, C.2.2.2.2.2.2.2.2.2.2.2.2.1⟩) hS hl (g x.1 x.2)
    · exact g_call C (va_runVN (callFix C) (hM S x hx) ⟨va_cnB n hts (G0_code hcode) rfl rfl rfl (C.2.2.2.2.2.2.1 _ ml) (hts _ hini) hd hRR, hts _ hin, hts _ hse⟩ hpre rfl hn hl.1 rfl (lv_room hr) d ⟨C.2.2.2.2.2.2.2.2.2.2.2.1, C.2.2.2.2.2.2.2.2.2.2.2.2.1⟩) hS hl (g x.1 x.2)
theorem r_callS {ρ' : Type} {w' : ρ' → Option Value} {T' : ρ' → Prop} {o' : WS → Option (ρ' × WS)} {k : ρ' → WS → Option (ρ × WS)} {y : MethodName} {bytes : ByteArray} {maxL idx n fr' lo' : Nat} {ret : Option FieldType} {As rest st0 : List Value} (C : Cx A E cc nL own fr lo) (hM : CT (aml A) E y bytes maxL ret fr' lo' w' T' As o') (d : decode cc pc = .ok (.invokestatic idx, 3)) (ml : ML own idx y) (ms : MS y bytes maxL ret n) (hn : As.length = n) (hs : As.reverse ++ rest = st0) (hR : fr' + 1 ≤ fr ∧ 8 + (maxL + 11) + lo' ≤ lo) (hr : (rest.map fun v => v.category).sum ≤ 8)
    (g : ∀ v S', T' v → Gd A E nL Qf (k v S') S' (pc + 3) ls ((w' v).toList ++ rest)) : Gd A E nL Qf (bd (o' S) k) S pc ls st0 := by
  intro H locs la hW hS hl
  cases hx : o' S with
  | none => exact gn (Qf := Qf) H locs la hW hS hl
  | some x =>
    subst hs
    obtain ⟨hsta, hini, hcode, hd⟩ := ms
    have hts := C.2.2.2.2.1
    have hRR : fr' + 1 ≤ (amR A).frames ∧ 8 + (maxL + 11) + lo' ≤ (amR A).locals := ⟨Nat.le_trans hR.1 C.2.2.2.2.2.2.2.2.2.1, Nat.le_trans hR.2 C.2.2.2.2.2.2.2.2.2.2.1⟩
    have hpre : PreS (ams A) H (va_Pc As (Bg E S)) As := ⟨Bg.blind, fun U hU hw => Bg.at C hS hW hU hw⟩
    rcases ml with ml | ⟨host, ml⟩
    · exact g_call C (va_runS (callFix C) (hM S x hx) ⟨callB_of n hts (G0_code hcode) rfl rfl rfl (hts _ hini) (hts _ ml) hd hRR, hts _ hsta⟩ hpre rfl hn hl.1 rfl (lv_room hr) d ⟨C.2.2.2.2.2.2.2.2.2.2.2.1, C.2.2.2.2.2.2.2.2.2.2.2.2.1⟩) hS hl (g x.1 x.2)
    · exact g_call C (va_runSN (callFix C) (hM S x hx) ⟨va_cnB n hts (G0_code hcode) rfl rfl rfl (C.2.2.2.2.2.2.1 _ ml) (hts _ hini) hd hRR, hts _ hsta, trivial⟩ hpre rfl hn hl.1 rfl (lv_room hr) d ⟨C.2.2.2.2.2.2.2.2.2.2.2.1, C.2.2.2.2.2.2.2.2.2.2.2.2.1⟩) hS hl (g x.1 x.2)
/-- a call whose named method is abstract -/
def MA (own : String) (idx : Nat) (Cn owner : String) (x y : MethodName) (bytes : ByteArray) (maxL : Nat) (ret : Option FieldType) (n : Nat) : Prop := Cond.methodLink own idx x ∈ G0 ∧ Cond.sameMethod x.cls owner x.name x.desc ∈ G0 ∧ Cond.selects Cn x y ∈ G0 ∧ Cond.instanceMethod y ∈ G0 ∧ Cond.initialized y.cls ∈ G0 ∧ Cond.code y bytes maxL ret ∈ G0 ∧ Cond.declares ⟨owner, x.name, x.desc⟩ ∈ N0 ∧ (owner ≠ "java/lang/invoke/MethodHandle" ∧ owner ≠ "java/lang/invoke/VarHandle" ∧ (parseMethodDescriptor x.desc).map (fun d => d.parameters.length) = some n)
theorem r_callA {ρ' : Type} {w' : ρ' → Option Value} {T' : ρ' → Prop} {o' : WS → Option (ρ' × WS)} {k : ρ' → WS → Option (ρ × WS)} {x y : MethodName} {Cn owner : String} {bytes : ByteArray} {maxL idx n fr' lo' b ci : Nat} {ret : Option FieldType} {As rest st0 : List Value} (C : Cx A E cc nL own fr lo) (hM : CT (aml A) E y bytes maxL ret fr' lo' w' T' (.ref b :: As) o') (d : decode cc pc = .ok (.invokevirtual idx, 3)) (ma : MA own idx Cn owner x y bytes maxL ret n) (hci : ∃ T N, vwCl[ci]? = some (Cn, T, N)) (h9 : ci < 9) (tb : Ty E b ci) (hn : As.length = n) (hs : As.reverse ++ .ref b :: rest = st0) (hR : fr' + 1 ≤ fr ∧ 8 + (maxL + 11) + lo' ≤ lo) (hr : (rest.map fun v => v.category).sum ≤ 8)
    (g : ∀ v S', T' v → Gd A E nL Qf (k v S') S' (pc + 3) ls ((w' v).toList ++ rest)) : Gd A E nL Qf (bd (o' S) k) S pc ls st0 := by
  intro H locs la hW hS hl
  cases hx : o' S with
  | none => exact gn (Qf := Qf) H locs la hW hS hl
  | some z =>
    subst hs
    obtain ⟨a1, a2, a3, a4, a5, a6, a7, hd⟩ := ma
    have hts := C.2.2.2.2.1
    have hRR : fr' + 1 ≤ (amR A).frames ∧ 8 + (maxL + 11) + lo' ≤ (amR A).locals := ⟨Nat.le_trans hR.1 C.2.2.2.2.2.2.2.2.2.1, Nat.le_trans hR.2 C.2.2.2.2.2.2.2.2.2.2.1⟩
    obtain ⟨T, N, hcl⟩ := hci
    obtain ⟨q, hq⟩ := w_get (S := S) tb.1
    rw [ce_obj tb h9] at hq
    have hrecv := va_recv (D := eD E) (cl := vwCl) (tys := tys E) C.2.2.2.2.2.1 hW.1 hcl hq
    have hpre : PreV (ams A) H Cn b (va_Pc (.ref b :: As) (Bg E S)) As := ⟨Bg.blind, hrecv, fun U hU hw => Bg.at C hS hW hU hw⟩
    have hGG : GoodIn G0 (va_wsU own idx Cn owner x y (Cond.code y bytes maxL ret :: G0)) := by
      intro w hw
      unfold va_wsU at hw
      rcases List.mem_append.mp hw with hw | hw
      · simp only [List.mem_cons, List.not_mem_nil, or_false] at hw
        rcases hw with rfl | rfl | rfl | rfl | rfl
        · exact G0_good _ a1
        · exact G0_good _ a2
        · exact G0_good _ a3
        · exact G0_good _ a4
        · exact G0_good _ a5
      · exact G0_code a6 w hw
    exact g_call C (va_runU (callFix C) (hM S z hx) (va_cwA n hts hGG rfl rfl rfl (C.2.2.2.2.2.2.1 _ a7) hd hRR) hpre rfl hn hl.1 rfl (lv_room hr) d ⟨C.2.2.2.2.2.2.2.2.2.2.2.1, C.2.2.2.2.2.2.2.2.2.2.2.2.1⟩) hS hl (g z.1 z.2)
theorem r_sub (ks : List Nat) (l' : List (Nat × Value)) (hl : lv_pick ls ks = l') (g : Gd A E nL Qf o S pc l' st) : Gd A E nL Qf o S pc ls st := fun H locs la a b c => g H locs la a b (lv_sub c ks hl)
theorem r_ite {p : Prop} [Decidable p] {o2 : Option (ρ × WS)} (gt : p → Gd A E nL Qf o S pc ls st) (gf : ¬ p → Gd A E nL Qf o2 S pc ls st) : Gd A E nL Qf (if p then o else o2) S pc ls st := by
  by_cases h : p
  · rw [if_pos h]; exact gt h
  · rw [if_neg h]; exact gf h
theorem r_opt {r : Option Nat} {kk : Nat} {oN : Option (ρ × WS)} {k : Nat → Option (ρ × WS)} (hr : tR E kk r) (gN : Gd A E nL Qf oN S pc ls (.null :: st)) (g : ∀ b, Ty E b kk → Gd A E nL Qf (k b) S pc ls (.ref b :: st)) : Gd A E nL Qf (r.elim oN k) S pc ls (va_rf r :: st) := by
  cases r with
  | none => exact gN
  | some b => exact g b (hr b rfl)
def imax (x y : Int32) : Int32 := if x < y then y else x
def imin (x y : Int32) : Int32 := if y < x then y else x
def iabs (x : Int32) : Int32 := if 0 ≤ x then x else 0 - x
theorem r_mmax (C : Cx A E cc nL own fr lo) {idx : Nat} {x y : Int32} (hl : Cond.methodLink own idx Lib.Math.max.name ∈ G0) (hw : Cond.static Lib.Math.max.name ∈ G0 ∧ Cond.initialized "java/lang/Math" ∈ G0 ∧ Cond.code Lib.Math.max.name Lib.Math.max.code 2 (some .int) ∈ G0) (hR : 1 ≤ fr ∧ 21 ≤ lo) (hr : (st.map fun v => v.category).sum ≤ 8) (d : decode cc pc = .ok (.invokestatic idx, 3)) (g : Gd A E nL Qf o S (pc + 3) ls (.int (imax x y) :: st)) : Gd A E nL Qf o S pc ls (.int y :: .int x :: st) := fun H locs la a b c => va_mmax C.1 C.2.1 (C.2.2.1.trans c.1.symm) C.2.2.2.1 (C.2.2.2.2.1 _ hl) (C.2.2.2.2.1 _ hw.1) (C.2.2.2.2.1 _ hw.2.1) (C.2.2.2.2.1 _ hw.2.2) (Nat.le_trans hR.1 C.2.2.2.2.2.2.2.2.2.1) (by have := C.2.2.2.2.2.2.2.2.2.2.1; omega) C.2.2.2.2.2.2.2.2.2.2.2.1 C.2.2.2.2.2.2.2.2.2.2.2.2.1 d (g H locs la a b c)
theorem r_mmin (C : Cx A E cc nL own fr lo) {idx : Nat} {x y : Int32} (hl : Cond.methodLink own idx Lib.Math.min.name ∈ G0) (hw : Cond.static Lib.Math.min.name ∈ G0 ∧ Cond.initialized "java/lang/Math" ∈ G0 ∧ Cond.code Lib.Math.min.name Lib.Math.min.code 2 (some .int) ∈ G0) (hR : 1 ≤ fr ∧ 21 ≤ lo) (hr : (st.map fun v => v.category).sum ≤ 8) (d : decode cc pc = .ok (.invokestatic idx, 3)) (g : Gd A E nL Qf o S (pc + 3) ls (.int (imin x y) :: st)) : Gd A E nL Qf o S pc ls (.int y :: .int x :: st) := fun H locs la a b c => va_mmin C.1 C.2.1 (C.2.2.1.trans c.1.symm) C.2.2.2.1 (C.2.2.2.2.1 _ hl) (C.2.2.2.2.1 _ hw.1) (C.2.2.2.2.1 _ hw.2.1) (C.2.2.2.2.1 _ hw.2.2) (Nat.le_trans hR.1 C.2.2.2.2.2.2.2.2.2.1) (by have := C.2.2.2.2.2.2.2.2.2.2.1; omega) C.2.2.2.2.2.2.2.2.2.2.2.1 C.2.2.2.2.2.2.2.2.2.2.2.2.1 d (g H locs la a b c)
theorem r_mabs (C : Cx A E cc nL own fr lo) {idx : Nat} {x : Int32} (hl : Cond.methodLink own idx Lib.Math.abs.name ∈ G0) (hw : Cond.static Lib.Math.abs.name ∈ G0 ∧ Cond.initialized "java/lang/Math" ∈ G0 ∧ Cond.code Lib.Math.abs.name Lib.Math.abs.code 1 (some .int) ∈ G0) (hR : 1 ≤ fr ∧ 21 ≤ lo) (hr : (st.map fun v => v.category).sum ≤ 8) (d : decode cc pc = .ok (.invokestatic idx, 3)) (g : Gd A E nL Qf o S (pc + 3) ls (.int (iabs x) :: st)) : Gd A E nL Qf o S pc ls (.int x :: st) := fun H locs la a b c => va_mabs C.1 C.2.1 (C.2.2.1.trans c.1.symm) C.2.2.2.1 (C.2.2.2.2.1 _ hl) (C.2.2.2.2.1 _ hw.1) (C.2.2.2.2.1 _ hw.2.1) (C.2.2.2.2.1 _ hw.2.2) (Nat.le_trans hR.1 C.2.2.2.2.2.2.2.2.2.1) (by have := C.2.2.2.2.2.2.2.2.2.2.1; omega) C.2.2.2.2.2.2.2.2.2.2.2.1 C.2.2.2.2.2.2.2.2.2.2.2.2.1 d (g H locs la a b c)
/-- System.arraycopy over ints and longs -/
theorem r_copyi (C : Cx A E cc nL own fr lo) {idx a0 a : Nat} {sp dp n : Int32} {k : WS → Option (ρ × WS)} (hl : Cond.methodLink own idx arraycopyName ∈ G0) (hw : Cond.native arraycopyName ∈ G0 ∧ Cond.static arraycopyName ∈ G0 ∧ Cond.initialized "java/lang/System" ∈ G0) (hR : 1 ≤ fr ∧ 30 ≤ lo) (hr : (st.map fun v => v.category).sum ≤ 8) (t0 : Ty E a0 10) (ta : Ty E a 10) (d : decode cc pc = .ok (.invokestatic idx, 3))
    (g : ∀ S', Gd A E nL Qf (k S') S' (pc + 3) ls st) : Gd A E nL Qf (if sp < 0 ∨ dp < 0 ∨ n < 0 ∨ eN E a0 < sp.toNatClampNeg + n.toNatClampNeg ∨ eN E a < dp.toNatClampNeg + n.toNatClampNeg then none else lt (wi S a (va_cpy (ai S a0) (ai S a) sp.toNatClampNeg dp.toNatClampNeg n.toNatClampNeg)) k) S pc ls (.int n :: .int dp :: .ref a :: .int sp :: .ref a0 :: st) := by
  intro H locs la hW hS hl0
  by_cases h : sp < 0 ∨ dp < 0 ∨ n < 0 ∨ eN E a0 < sp.toNatClampNeg + n.toNatClampNeg ∨ eN E a < dp.toNatClampNeg + n.toNatClampNeg
  · rw [if_pos h]; exact gn (Qf := Qf) H locs la hW hS hl0
  rw [if_neg h]
  simp only [not_or] at h
  obtain ⟨q0, hq0⟩ := w_get (S := S) t0.1
  obtain ⟨q, hq⟩ := w_get (S := S) ta.1
  have hq1 := hq
  rw [ce_arr t0 (by decide), ct_i (by rw [t0.2]; decide) (by rw [t0.2]; decide)] at hq0
  rw [ce_arr ta (by decide), ct_i (by rw [ta.2]; decide) (by rw [ta.2]; decide)] at hq
  refine va_copyi (D := eD E) (cl := vwCl) (tys := tys E) C.1 C.2.1 (C.2.2.1.trans hl0.1.symm) C.2.2.2.1 (C.2.2.2.2.1 _ hl) (C.2.2.2.2.1 _ hw.1) (C.2.2.2.2.1 _ hw.2.1) (C.2.2.2.2.1 _ hw.2.2) C.2.2.2.2.2.1 hW.1 (pl_D C.2.2.2.2.2.2.2.1 C.2.2.2.2.2.2.2.2.1) hS q0 q 1 1 hq0 hq rfl rfl rfl h.1 h.2.1 h.2.2.1 (by omega) (by omega) (fun _ _ => rfl) (Nat.le_trans hR.1 C.2.2.2.2.2.2.2.2.2.1) (nfw_ok C.2.2.2.2.2.2.2.2.2.2.1 hR.2 hr) d (fun H1 locs1 h1 _ h3 => ?_)
  rw [wd_wi C.2.2.2.2.2.2.2.1 ta (by decide) (by decide) (by decide) hq1] at h1
  exact g _ H1 locs1 la ⟨h1, hW.2⟩ h3 hl0
theorem r_copyl (C : Cx A E cc nL own fr lo) {idx a0 a : Nat} {sp dp n : Int32} {k : WS → Option (ρ × WS)} (hl : Cond.methodLink own idx arraycopyName ∈ G0) (hw : Cond.native arraycopyName ∈ G0 ∧ Cond.static arraycopyName ∈ G0 ∧ Cond.initialized "java/lang/System" ∈ G0) (hR : 1 ≤ fr ∧ 30 ≤ lo) (hr : (st.map fun v => v.category).sum ≤ 8) (t0 : Ty E a0 11) (ta : Ty E a 11) (d : decode cc pc = .ok (.invokestatic idx, 3))
    (g : ∀ S', Gd A E nL Qf (k S') S' (pc + 3) ls st) : Gd A E nL Qf (if sp < 0 ∨ dp < 0 ∨ n < 0 ∨ eN E a0 < sp.toNatClampNeg + n.toNatClampNeg ∨ eN E a < dp.toNatClampNeg + n.toNatClampNeg then none else lt (wj S a (va_cpy (aj S a0) (aj S a) sp.toNatClampNeg dp.toNatClampNeg n.toNatClampNeg)) k) S pc ls (.int n :: .int dp :: .ref a :: .int sp :: .ref a0 :: st) := by
  intro H locs la hW hS hl0
  by_cases h : sp < 0 ∨ dp < 0 ∨ n < 0 ∨ eN E a0 < sp.toNatClampNeg + n.toNatClampNeg ∨ eN E a < dp.toNatClampNeg + n.toNatClampNeg
  · rw [if_pos h]; exact gn (Qf := Qf) H locs la hW hS hl0
  rw [if_neg h]
  simp only [not_or] at h
  obtain ⟨q0, hq0⟩ := w_get (S := S) t0.1
  obtain ⟨q, hq⟩ := w_get (S := S) ta.1
  have hq1 := hq
  rw [ce_arr t0 (by decide), ct_j t0.2] at hq0
  rw [ce_arr ta (by decide), ct_j ta.2] at hq
  refine va_copyl (D := eD E) (cl := vwCl) (tys := tys E) C.1 C.2.1 (C.2.2.1.trans hl0.1.symm) C.2.2.2.1 (C.2.2.2.2.1 _ hl) (C.2.2.2.2.1 _ hw.1) (C.2.2.2.2.1 _ hw.2.1) (C.2.2.2.2.1 _ hw.2.2) C.2.2.2.2.2.1 hW.1 (pl_D C.2.2.2.2.2.2.2.1 C.2.2.2.2.2.2.2.2.1) hS q0 q 2 2 hq0 hq rfl rfl rfl h.1 h.2.1 h.2.2.1 (by omega) (by omega) (fun _ _ => rfl) (Nat.le_trans hR.1 C.2.2.2.2.2.2.2.2.2.1) (nfw_ok C.2.2.2.2.2.2.2.2.2.2.1 hR.2 hr) d (fun H1 locs1 h1 _ h3 => ?_)
  rw [wd_wj C.2.2.2.2.2.2.2.1 ta hq1] at h1
  exact g _ H1 locs1 la ⟨h1, hW.2⟩ h3 hl0
/-- switches -/
theorem r_swIn (C : Cx A E cc nL own fr lo) {dflt lw hi : Int} {offs : Array Int} {len : Nat} {x : Int32} {off : Int} (v : Int) (tgt : Nat) (d : decode cc pc = .ok (.tableswitch dflt lw hi offs, len)) (hx : x.toInt = v) (h1 : ¬ v < lw) (h2 : ¬ hi < v) (ho : offs[(v - lw).toNat]? = some off) (ht : (pc : Int) + off = (tgt : Int)) (g : Gd A E nL Qf o S tgt ls st) : Gd A E nL Qf o S pc ls (.int x :: st) := fun H locs la a b c => lv_tableIn C.1 C.2.1 d (by rw [hx]; exact h1) (by rw [hx]; exact h2) (by rw [hx]; exact ho) ht (g H locs la a b c)
theorem r_swOut (C : Cx A E cc nL own fr lo) {dflt lw hi : Int} {offs : Array Int} {len : Nat} {x : Int32} (tgt : Nat) (d : decode cc pc = .ok (.tableswitch dflt lw hi offs, len)) (h : x.toInt < lw ∨ hi < x.toInt) (ht : (pc : Int) + dflt = (tgt : Int)) (g : Gd A E nL Qf o S tgt ls st) : Gd A E nL Qf o S pc ls (.int x :: st) := fun H locs la a b c => lv_tableOut C.1 C.2.1 d h ht (g H locs la a b c)
theorem r_if_eqT (C : Cx A E cc nL own fr lo) {x : Int32} {off : Int} (tgt : Nat) (d : decode cc pc = .ok (.ifCond .eq off, 3)) (ht : (pc : Int) + off = (tgt : Int)) (h : x = 0) (g : Gd A E nL Qf o S tgt ls st) : Gd A E nL Qf o S pc ls (.int x :: st) := by
  have h1 := r_if_eq (x := x) (o2 := none) C tgt d ht g gn
  rw [if_pos h] at h1
  exact h1
theorem r_if_eqF (C : Cx A E cc nL own fr lo) {x : Int32} {off : Int} (tgt : Nat) (d : decode cc pc = .ok (.ifCond .eq off, 3)) (ht : (pc : Int) + off = (tgt : Int)) (h : ¬ x = 0) (g : Gd A E nL Qf o S (pc + 3) ls st) : Gd A E nL Qf o S pc ls (.int x :: st) := by
  have h1 := r_if_eq (x := x) (o := none) (o2 := o) C tgt d ht gn g
  rw [if_neg h] at h1
  exact h1
theorem r_icmp_eqT (C : Cx A E cc nL own fr lo) {x y : Int32} {off : Int} (tgt : Nat) (d : decode cc pc = .ok (.if_icmp .eq off, 3)) (ht : (pc : Int) + off = (tgt : Int)) (h : x = y) (g : Gd A E nL Qf o S tgt ls st) : Gd A E nL Qf o S pc ls (.int y :: .int x :: st) := by
  have h1 := r_icmp_eq (x := x) (y := y) (o2 := none) C tgt d ht g gn
  rw [if_pos h] at h1
  exact h1
theorem r_icmp_eqF (C : Cx A E cc nL own fr lo) {x y : Int32} {off : Int} (tgt : Nat) (d : decode cc pc = .ok (.if_icmp .eq off, 3)) (ht : (pc : Int) + off = (tgt : Int)) (h : ¬ x = y) (g : Gd A E nL Qf o S (pc + 3) ls st) : Gd A E nL Qf o S pc ls (.int y :: .int x :: st) := by
  have h1 := r_icmp_eq (x := x) (y := y) (o := none) (o2 := o) C tgt d ht gn g
  rw [if_neg h] at h1
  exact h1
theorem r_if_neT (C : Cx A E cc nL own fr lo) {x : Int32} {off : Int} (tgt : Nat) (d : decode cc pc = .ok (.ifCond .ne off, 3)) (ht : (pc : Int) + off = (tgt : Int)) (h : ¬ x = 0) (g : Gd A E nL Qf o S tgt ls st) : Gd A E nL Qf o S pc ls (.int x :: st) := by
  have h1 := r_if_ne (x := x) (o2 := none) C tgt d ht g gn
  rw [if_neg h] at h1
  exact h1
theorem r_if_neF (C : Cx A E cc nL own fr lo) {x : Int32} {off : Int} (tgt : Nat) (d : decode cc pc = .ok (.ifCond .ne off, 3)) (ht : (pc : Int) + off = (tgt : Int)) (h : x = 0) (g : Gd A E nL Qf o S (pc + 3) ls st) : Gd A E nL Qf o S pc ls (.int x :: st) := by
  have h1 := r_if_ne (x := x) (o := none) (o2 := o) C tgt d ht gn g
  rw [if_pos h] at h1
  exact h1
theorem r_icmp_neT (C : Cx A E cc nL own fr lo) {x y : Int32} {off : Int} (tgt : Nat) (d : decode cc pc = .ok (.if_icmp .ne off, 3)) (ht : (pc : Int) + off = (tgt : Int)) (h : ¬ x = y) (g : Gd A E nL Qf o S tgt ls st) : Gd A E nL Qf o S pc ls (.int y :: .int x :: st) := by
  have h1 := r_icmp_ne (x := x) (y := y) (o2 := none) C tgt d ht g gn
  rw [if_neg h] at h1
  exact h1
theorem r_icmp_neF (C : Cx A E cc nL own fr lo) {x y : Int32} {off : Int} (tgt : Nat) (d : decode cc pc = .ok (.if_icmp .ne off, 3)) (ht : (pc : Int) + off = (tgt : Int)) (h : x = y) (g : Gd A E nL Qf o S (pc + 3) ls st) : Gd A E nL Qf o S pc ls (.int y :: .int x :: st) := by
  have h1 := r_icmp_ne (x := x) (y := y) (o := none) (o2 := o) C tgt d ht gn g
  rw [if_pos h] at h1
  exact h1
theorem r_if_ltT (C : Cx A E cc nL own fr lo) {x : Int32} {off : Int} (tgt : Nat) (d : decode cc pc = .ok (.ifCond .lt off, 3)) (ht : (pc : Int) + off = (tgt : Int)) (h : x < 0) (g : Gd A E nL Qf o S tgt ls st) : Gd A E nL Qf o S pc ls (.int x :: st) := by
  have h1 := r_if_lt (x := x) (o2 := none) C tgt d ht g gn
  rw [if_pos h] at h1
  exact h1
theorem r_if_ltF (C : Cx A E cc nL own fr lo) {x : Int32} {off : Int} (tgt : Nat) (d : decode cc pc = .ok (.ifCond .lt off, 3)) (ht : (pc : Int) + off = (tgt : Int)) (h : ¬ x < 0) (g : Gd A E nL Qf o S (pc + 3) ls st) : Gd A E nL Qf o S pc ls (.int x :: st) := by
  have h1 := r_if_lt (x := x) (o := none) (o2 := o) C tgt d ht gn g
  rw [if_neg h] at h1
  exact h1
theorem r_icmp_ltT (C : Cx A E cc nL own fr lo) {x y : Int32} {off : Int} (tgt : Nat) (d : decode cc pc = .ok (.if_icmp .lt off, 3)) (ht : (pc : Int) + off = (tgt : Int)) (h : x < y) (g : Gd A E nL Qf o S tgt ls st) : Gd A E nL Qf o S pc ls (.int y :: .int x :: st) := by
  have h1 := r_icmp_lt (x := x) (y := y) (o2 := none) C tgt d ht g gn
  rw [if_pos h] at h1
  exact h1
theorem r_icmp_ltF (C : Cx A E cc nL own fr lo) {x y : Int32} {off : Int} (tgt : Nat) (d : decode cc pc = .ok (.if_icmp .lt off, 3)) (ht : (pc : Int) + off = (tgt : Int)) (h : ¬ x < y) (g : Gd A E nL Qf o S (pc + 3) ls st) : Gd A E nL Qf o S pc ls (.int y :: .int x :: st) := by
  have h1 := r_icmp_lt (x := x) (y := y) (o := none) (o2 := o) C tgt d ht gn g
  rw [if_neg h] at h1
  exact h1
theorem r_if_geT (C : Cx A E cc nL own fr lo) {x : Int32} {off : Int} (tgt : Nat) (d : decode cc pc = .ok (.ifCond .ge off, 3)) (ht : (pc : Int) + off = (tgt : Int)) (h : 0 ≤ x) (g : Gd A E nL Qf o S tgt ls st) : Gd A E nL Qf o S pc ls (.int x :: st) := by
  have h1 := r_if_ge (x := x) (o2 := none) C tgt d ht g gn
  rw [if_pos h] at h1
  exact h1
theorem r_if_geF (C : Cx A E cc nL own fr lo) {x : Int32} {off : Int} (tgt : Nat) (d : decode cc pc = .ok (.ifCond .ge off, 3)) (ht : (pc : Int) + off = (tgt : Int)) (h : ¬ 0 ≤ x) (g : Gd A E nL Qf o S (pc + 3) ls st) : Gd A E nL Qf o S pc ls (.int x :: st) := by
  have h1 := r_if_ge (x := x) (o := none) (o2 := o) C tgt d ht gn g
  rw [if_neg h] at h1
  exact h1
theorem r_icmp_geT (C : Cx A E cc nL own fr lo) {x y : Int32} {off : Int} (tgt : Nat) (d : decode cc pc = .ok (.if_icmp .ge off, 3)) (ht : (pc : Int) + off = (tgt : Int)) (h : y ≤ x) (g : Gd A E nL Qf o S tgt ls st) : Gd A E nL Qf o S pc ls (.int y :: .int x :: st) := by
  have h1 := r_icmp_ge (x := x) (y := y) (o2 := none) C tgt d ht g gn
  rw [if_pos h] at h1
  exact h1
theorem r_icmp_geF (C : Cx A E cc nL own fr lo) {x y : Int32} {off : Int} (tgt : Nat) (d : decode cc pc = .ok (.if_icmp .ge off, 3)) (ht : (pc : Int) + off = (tgt : Int)) (h : ¬ y ≤ x) (g : Gd A E nL Qf o S (pc + 3) ls st) : Gd A E nL Qf o S pc ls (.int y :: .int x :: st) := by
  have h1 := r_icmp_ge (x := x) (y := y) (o := none) (o2 := o) C tgt d ht gn g
  rw [if_neg h] at h1
  exact h1
theorem r_if_gtT (C : Cx A E cc nL own fr lo) {x : Int32} {off : Int} (tgt : Nat) (d : decode cc pc = .ok (.ifCond .gt off, 3)) (ht : (pc : Int) + off = (tgt : Int)) (h : 0 < x) (g : Gd A E nL Qf o S tgt ls st) : Gd A E nL Qf o S pc ls (.int x :: st) := by
  have h1 := r_if_gt (x := x) (o2 := none) C tgt d ht g gn
  rw [if_pos h] at h1
  exact h1
theorem r_if_gtF (C : Cx A E cc nL own fr lo) {x : Int32} {off : Int} (tgt : Nat) (d : decode cc pc = .ok (.ifCond .gt off, 3)) (ht : (pc : Int) + off = (tgt : Int)) (h : ¬ 0 < x) (g : Gd A E nL Qf o S (pc + 3) ls st) : Gd A E nL Qf o S pc ls (.int x :: st) := by
  have h1 := r_if_gt (x := x) (o := none) (o2 := o) C tgt d ht gn g
  rw [if_neg h] at h1
  exact h1
theorem r_icmp_gtT (C : Cx A E cc nL own fr lo) {x y : Int32} {off : Int} (tgt : Nat) (d : decode cc pc = .ok (.if_icmp .gt off, 3)) (ht : (pc : Int) + off = (tgt : Int)) (h : y < x) (g : Gd A E nL Qf o S tgt ls st) : Gd A E nL Qf o S pc ls (.int y :: .int x :: st) := by
  have h1 := r_icmp_gt (x := x) (y := y) (o2 := none) C tgt d ht g gn
  rw [if_pos h] at h1
  exact h1
theorem r_icmp_gtF (C : Cx A E cc nL own fr lo) {x y : Int32} {off : Int} (tgt : Nat) (d : decode cc pc = .ok (.if_icmp .gt off, 3)) (ht : (pc : Int) + off = (tgt : Int)) (h : ¬ y < x) (g : Gd A E nL Qf o S (pc + 3) ls st) : Gd A E nL Qf o S pc ls (.int y :: .int x :: st) := by
  have h1 := r_icmp_gt (x := x) (y := y) (o := none) (o2 := o) C tgt d ht gn g
  rw [if_neg h] at h1
  exact h1
theorem r_if_leT (C : Cx A E cc nL own fr lo) {x : Int32} {off : Int} (tgt : Nat) (d : decode cc pc = .ok (.ifCond .le off, 3)) (ht : (pc : Int) + off = (tgt : Int)) (h : x ≤ 0) (g : Gd A E nL Qf o S tgt ls st) : Gd A E nL Qf o S pc ls (.int x :: st) := by
  have h1 := r_if_le (x := x) (o2 := none) C tgt d ht g gn
  rw [if_pos h] at h1
  exact h1
theorem r_if_leF (C : Cx A E cc nL own fr lo) {x : Int32} {off : Int} (tgt : Nat) (d : decode cc pc = .ok (.ifCond .le off, 3)) (ht : (pc : Int) + off = (tgt : Int)) (h : ¬ x ≤ 0) (g : Gd A E nL Qf o S (pc + 3) ls st) : Gd A E nL Qf o S pc ls (.int x :: st) := by
  have h1 := r_if_le (x := x) (o := none) (o2 := o) C tgt d ht gn g
  rw [if_neg h] at h1
  exact h1
theorem r_icmp_leT (C : Cx A E cc nL own fr lo) {x y : Int32} {off : Int} (tgt : Nat) (d : decode cc pc = .ok (.if_icmp .le off, 3)) (ht : (pc : Int) + off = (tgt : Int)) (h : x ≤ y) (g : Gd A E nL Qf o S tgt ls st) : Gd A E nL Qf o S pc ls (.int y :: .int x :: st) := by
  have h1 := r_icmp_le (x := x) (y := y) (o2 := none) C tgt d ht g gn
  rw [if_pos h] at h1
  exact h1
theorem r_icmp_leF (C : Cx A E cc nL own fr lo) {x y : Int32} {off : Int} (tgt : Nat) (d : decode cc pc = .ok (.if_icmp .le off, 3)) (ht : (pc : Int) + off = (tgt : Int)) (h : ¬ x ≤ y) (g : Gd A E nL Qf o S (pc + 3) ls st) : Gd A E nL Qf o S pc ls (.int y :: .int x :: st) := by
  have h1 := r_icmp_le (x := x) (y := y) (o := none) (o2 := o) C tgt d ht gn g
  rw [if_neg h] at h1
  exact h1
end CROWS
