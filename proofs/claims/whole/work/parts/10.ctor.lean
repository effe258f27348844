/-! CONSTRUCTORS: worlds that grow. EE E n: the first n cells of the world, one behind another from eW E on; Kt: kind and length of each -/
def Kt : List (Nat × Nat) := [(7, 0), (9, 1400), (3, 0), (9, 0), (2, 0), (10, 8), (10, 10), (10, 10), (10, 4), (10, 4), (10, 7), (10, 7), (10, 7), (10, 7), (10, 30), (10, 4), (10, 4), (2, 0), (10, 8), (10, 10), (10, 10), (10, 4), (10, 4), (10, 7), (10, 7), (10, 7), (10, 7), (10, 30), (10, 4), (10, 4), (13, 3), (12, 3), (14, 4), (6, 0), (2, 0), (10, 8), (10, 10), (10, 10), (10, 4), (10, 4), (10, 7), (10, 7), (10, 7), (10, 7), (10, 30), (10, 4), (10, 4), (10, 8), (10, 8), (10, 8), (4, 0), (10, 7), (11, 35), (11, 8), (10, 8), (10, 7), (10, 7), (10, 7), (0, 0), (2, 0), (10, 8), (10, 10), (10, 10), (10, 4), (10, 4), (10, 7), (10, 7), (10, 7), (10, 7), (10, 30), (10, 4), (10, 4), (10, 40), (9, 4096), (1, 0), (10, 20), (10, 20), (10, 20), (10, 20), (10, 7), (10, 8), (10, 10), (2, 0), (10, 8), (10, 10), (10, 10), (10, 4), (10, 4), (10, 7), (10, 7), (10, 7), (10, 7), (10, 30), (10, 4), (10, 4), (2, 0), (10, 8), (10, 10), (10, 10), (10, 4), (10, 4), (10, 7), (10, 7), (10, 7), (10, 7), (10, 30), (10, 4), (10, 4), (2, 0), (10, 8), (10, 10), (10, 10), (10, 4), (10, 4), (10, 7), (10, 7), (10, 7), (10, 7), (10, 30), (10, 4), (10, 4), (5, 0), (11, 60), (5, 0), (11, 60), (5, 0), (11, 60), (5, 0), (11, 60), (8, 0), (10, 109), (10, 327), (12, 3), (9, 1400), (10, 5), (10, 109), (10, 8), (10, 8), (11, 8), (10, 8), (10, 8), (10, 7), (10, 7), (10, 7), (10, 8), (10, 4), (10, 4), (11, 240), (11, 60)]
def EE (E : EN) (n : Nat) : EN := (eD E, eC E, (List.range n).map (fun i => eW E + i), (fun a => (Kt.getD (a - eW E) (99, 0)).1), (fun a => (Kt.getD (a - eW E) (99, 0)).2), eSK E, eSV E, eW E)
theorem kEE {E : EN} {n i : Nat} : eK (EE E n) (eW E + i) = (Kt.getD i (99, 0)).1 := by
  show (Kt.getD (eW E + i - eW E) (99, 0)).1 = _
  rw [Nat.add_sub_cancel_left]
theorem nEE {E : EN} {n i : Nat} : eN (EE E n) (eW E + i) = (Kt.getD i (99, 0)).2 := by
  show (Kt.getD (eW E + i - eW E) (99, 0)).2 = _
  rw [Nat.add_sub_cancel_left]
theorem mEE {E : EN} {n a : Nat} : a ∈ eL (EE E n) ↔ eW E ≤ a ∧ a < eW E + n := by
  show a ∈ (List.range n).map (fun i => eW E + i) ↔ _
  rw [List.mem_map]
  constructor
  · rintro ⟨i, hi, rfl⟩
    have := List.mem_range.mp hi
    omega
  · rintro ⟨h1, h2⟩
    exact ⟨a - eW E, List.mem_range.mpr (by omega), by omega⟩
theorem ndEE {E : EN} {n : Nat} : (eL (EE E n)).Nodup := by
  show ((List.range n).map (fun i => eW E + i)).Nodup
  refine List.pairwise_iff_getElem.mpr (fun i j hi hj h => ?_)
  simp only [List.getElem_map, List.getElem_range]
  omega
theorem tEE {E : EN} {n i k : Nat} (h : i < n) (hk : (Kt.getD i (99, 0)).1 = k) : Ty (EE E n) (eW E + i) k := ⟨mEE.mpr ⟨by omega, by omega⟩, by rw [kEE]; exact hk⟩
/-- a cell that comes: all of it 0 -/
def zA (S : WS) (a : Nat) : WS := ((fun f b => if b = a then 0 else S.1 f b), (fun f b => if b = a then 0 else S.2.1 f b), (fun f b => if b = a then none else S.2.2.1 f b), (fun b => if b = a then (fun _ => 0) else S.2.2.2.1 b), (fun b => if b = a then (fun _ => 0) else S.2.2.2.2.1 b), (fun b => if b = a then (fun _ => none) else S.2.2.2.2.2 b))
theorem fv_zA {S : WS} {a b t f : Nat} (h : b ≠ a) : fv (zA S a) t f b = fv S t f b := by
  unfold fv gi gj gr zA
  simp only [if_neg h]
theorem fv_zA0 {S : WS} {a t f : Nat} : fv (zA S a) t f a = if t = 0 then .int 0 else if t = 1 then .long 0 else .null := by
  unfold fv gi gj gr zA
  simp [va_rf]
theorem ct_zA {E : EN} {S : WS} {a b : Nat} (h : b ≠ a) : ct E (zA S a) b = ct E S b := by
  unfold ct ai aj ar zA
  simp only [if_neg h]
theorem ce_zA {E : EN} {S : WS} {a b : Nat} (h : b ≠ a) : ce E (zA S a) b = ce E S b := by
  unfold ce
  rw [ct_zA h, ob_off (S' := zA S a) (S := S) (fun t' f => fv_zA h)]
theorem ce_EE {E : EN} {S : WS} {n m b : Nat} : ce (EE E n) S b = ce (EE E m) S b := rfl
theorem pl_P {D : va_G} {cl : List vw_C} {L : List Nat} {f : Nat → va_E} {H : Heap} : va_P D cl (va_pl L f) H ↔ ∀ a ∈ L, va_at D cl (a, f a) H := by
  constructor
  · intro h a ha
    obtain ⟨k, hk⟩ := va_pl_get (X := []) (f := f) ha
    exact h k _ hk
  · intro h k q hk
    unfold va_pl at hk
    rw [List.getElem?_map] at hk
    cases h1 : L[k]? with
    | none => rw [h1] at hk; cases hk
    | some x =>
      rw [h1] at hk
      cases hk
      exact h x (List.mem_of_getElem? h1)
theorem wz_push {E : EN} {n : Nat} {S : WS} {H H1 : Heap} (hW : Wd (EE E n) S H) (hs : H.size = eW E + n) (hz : H1.size = eW E + n + 1) (ho : ∀ q, q < eW E + n → H1[q]? = H[q]?) (hn : va_at (eD E) vwCl (eW E + n, ce (EE E (n + 1)) (zA S (eW E + n)) (eW E + n)) H1) : Wd (EE E (n + 1)) (zA S (eW E + n)) H1 := by
  refine ⟨pl_P.mpr (fun a ha => ?_), ?_⟩
  · by_cases h : a = eW E + n
    · subst h; exact hn
    · have h1 := mEE.mp ha
      have h2 : a ∈ eL (EE E n) := mEE.mpr ⟨h1.1, by omega⟩
      have h3 := pl_P.mp hW.1 a h2
      rw [ce_zA h]
      exact h3.kept (ho a (by omega))
  · have up : ∀ b k, Ty (EE E n) b k → Ty (EE E (n + 1)) b k := fun b k h => ⟨mEE.mpr ⟨(mEE.mp h.1).1, by have := (mEE.mp h.1).2; omega⟩, h.2⟩
    have dn : ∀ a, a ∈ eL (EE E (n + 1)) → a ≠ eW E + n → a ∈ eL (EE E n) := fun a ha h => mEE.mpr ⟨(mEE.mp ha).1, by have := (mEE.mp ha).2; omega⟩
    refine ⟨fun f a b ha hk hg => ?_, fun a i b ha hk hg => ?_, fun a i b ha hk hg => ?_⟩
    · by_cases h : a = eW E + n
      · subst h; simp [gr, zA] at hg
      · simp only [gr, zA, if_neg h] at hg
        exact up _ _ (hW.2.1 f a b (dn a ha h) hk hg)
    · by_cases h : a = eW E + n
      · subst h; simp [ar, zA] at hg
      · simp only [ar, zA, if_neg h] at hg
        exact up _ _ (hW.2.2.1 a i b (dn a ha h) hk hg)
    · by_cases h : a = eW E + n
      · subst h; simp [ar, zA] at hg
      · simp only [ar, zA, if_neg h] at hg
        exact up _ _ (hW.2.2.2 a i b (dn a ha h) hk hg)
theorem wz_set {E : EN} {n a : Nat} {S S' : WS} {H H1 : Heap} (hW : Wd (EE E n) S H) (ho : ∀ q, q ≠ a → H1[q]? = H[q]?) (hn : va_at (eD E) vwCl (a, ce (EE E n) S' a) H1) (hc : ∀ b, b ≠ a → ce (EE E n) S' b = ce (EE E n) S b) (hWT : WT (EE E n) S → WT (EE E n) S') : Wd (EE E n) S' H1 := by
  refine ⟨pl_P.mpr (fun b hb => ?_), hWT hW.2⟩
  by_cases h : b = a
  · subst h; exact hn
  · rw [hc b h]
    exact (pl_P.mp hW.1 b hb).kept (ho b h)
def Bz (E : EN) (n : Nat) (S : WS) (U : State) : Prop := Wd (EE E n) S U.heap ∧ U.heap.size = eW E + n ∧ va_K (eD E) vwCl (tys E) U ∧ Nw U ∧ Sx E U ∧ va_AO "DowrySteps$Mountain" U ∧ va_AO "DowrySteps$Slot" U
def Qz (E : EN) (n : Nat) (S : WS) : Array Value → State → Outcome → State → Prop := fun _ st oc t => oc = .returned none ∧ Wd (EE E n) S t.heap ∧ t.heap.size = eW E + n ∧ va_F (fun q => eW E ≤ q) st t
def CI (l : Launch) (E : EN) (y : MethodName) (cc : ByteArray) (nL fr lo mc ms : Nat) (as : List Value) (n n' : Nat) (S S' : WS) : Prop :=
  Met l y (Cond.code y cc nL none :: G0) { frames := fr, cells := mc, slots := ms, locals := lo } (va_Pc as (Bz E n S)) (Qz E n' S') mc ms (fun q => eW E ≤ q)
def Gz (A : AM) (E : EN) (n kc ks nL : Nat) (Q : State → Prop) (S : WS) (pc : Nat) (ls : List (Nat × Value)) (st : List Value) : Prop :=
  ∀ (H : Heap) (locs : List Loc) (la : Array Slot), Wd (EE E n) S H → H.size = eW E + n → va_S (fun q => eW E ≤ q) (ams A).heap H locs → lv_has la nL ls →
    W (amp A) (aml A) (ame A) (amR A) (ams A) (amm A) (ama A) (amb A) (amt A) (amc A) H locs kc ks Q (F0 (amm A) pc la st)
abbrev Cz (A : AM) (E : EN) (cc : ByteArray) (nL : Nat) (own : String) (fr lo mc ms : Nat) : Prop :=
  (amp A).tables.exec = Jvm.exec ∧ (amc A).code = cc ∧ (amc A).maxLocals = nL ∧ (ams A).vm.findClass own = some (amm A).cls ∧ (∀ w ∈ G0, w.before (ama A) (ams A) = true) ∧ va_K (eD E) vwCl (tys E) (ams A) ∧ Nw (ams A) ∧ Sx E (ams A) ∧ fr ≤ (amR A).frames ∧ lo ≤ (amR A).locals ∧ mc ≤ (amR A).cells ∧ ms ≤ (amR A).slots ∧ eW E ≤ (ams A).heap.size ∧ va_AO "DowrySteps$Mountain" (ams A) ∧ va_AO "DowrySteps$Slot" (ams A)
theorem ci_of {l : Launch} {E : EN} {y : MethodName} {cc : ByteArray} {nL fr lo mc ms n n' : Nat} {as : List Value} {S S' : WS} (own : String) (hy : plainName y.cls = true) (ho : y.cls = own) (hi : y.name = "<init>") (ls : List (Nat × Value)) (hls : lv_args 0 as = ls) (hn : (lg_sl as).length ≤ nL)
    (body : ∀ (A : AM), aml A = l → Cz A E cc nL own fr lo mc ms → (amt A).sig.returnType = none → (amt A).locks = false → (amt A).name = "<init>" → Gz A E n 0 0 nL (MQ (amb A) (Qz E n' S') (ama A) (ams A) mc ms (fun q => eW E ≤ q)) S 0 ls []) : CI l E y cc nL fr lo mc ms as n n' S S' := by
  refine Met.ofW (cc := cc) (maxL := nL) (ret := none) hy rfl ?_
  intro p e s m args below meth c s₁ B hml hv
  obtain ⟨rfl, hB⟩ := hv
  have hts0 := atoms_spec (ws := Cond.code y cc nL none :: G0) B.pre
  have hown : s.vm.findClass own = some m.cls := by rw [← ho]; exact findClass_of_methodNamed B.named
  have hin : meth.name = "<init>" := by rw [← hi]; exact (name_of_methodNamed B.named B.method).1
  rw [lg_entry_eq]
  exact body (p, l, e, { frames := fr, cells := mc, slots := ms, locals := lo }, s, m, as.toArray, below, meth, c, (fun q => eW E ≤ q), 0, 0) rfl ⟨B.exec, B.bytes, hml, hown, fun w hw => hts0 w (List.mem_cons_of_mem _ hw), hB.2.2.1, hB.2.2.2.1, hB.2.2.2.2.1, Nat.le_refl _, Nat.le_refl _, Nat.le_refl _, Nat.le_refl _, by rw [hB.2.1]; omega, hB.2.2.2.2.2.1, hB.2.2.2.2.2.2⟩ B.returns B.notSynchronized hin s.heap [] _ hB.1 hB.2.1 va_S.rf (hls ▸ lv_entry as hn)
/-- a field of the own class, as the tables know it -/
def FLo (own : String) (idx f t ci : Nat) (ty : FieldType) (fin : Bool) : Prop := ∃ (T : u_T) (N k : Nat) (tys0 : Nat → FieldType), vwCl[ci]? = some (own, T, N) ∧ (∀ w ∈ u_ws own T N, w ∈ G0) ∧ (∀ k, k < N → parseFieldDescriptor (T k).2.2.1 = some (tys0 k)) ∧ (∀ a, a < N → ∀ b, b < N → a ≠ b → (T a).2.1 ≠ (T b).2.1) ∧ k < N ∧ f = 64 * ci + k ∧ (tg ci)[k]? = some t ∧ tys0 k = ty ∧ (T k).1 = own ∧ (T k).2.2.2 = fin ∧ ci < 9 ∧ Cond.fieldLink own idx own (T k).2.1 (T k).2.2.1 ∈ G0
/-- a new object's fields -/
def zl (ci : Nat) : List Value := (tg ci).map (fun t => if t = 0 then .int 0 else if t = 1 then .long 0 else .null)
section ZROWS
variable {A : AM} {E : EN} {n kc ks nL : Nat} {Q : State → Prop} {S : WS} {pc : Nat} {ls : List (Nat × Value)} {st : List Value} {cc : ByteArray} {own : String} {fr lo mc ms : Nat}
theorem z_iconst (C : Cz A E cc nL own fr lo mc ms) {k : Int} (v : Int32) (d : decode cc pc = .ok (.iconst k, 1)) (hv : Int32.ofInt k = v) (g : Gz A E n kc ks nL Q S (pc + 1) ls (.int v :: st)) : Gz A E n kc ks nL Q S pc ls st := fun H locs la a z b c => lv_iconst C.1 C.2.1 d hv (g H locs la a z b c)
theorem z_bipush (C : Cz A E cc nL own fr lo mc ms) {k : Int} (v : Int32) (d : decode cc pc = .ok (.bipush k, 2)) (hv : (Int8.ofInt k).toInt32 = v) (g : Gz A E n kc ks nL Q S (pc + 2) ls (.int v :: st)) : Gz A E n kc ks nL Q S pc ls st := fun H locs la a z b c => lv_bipush C.1 C.2.1 d hv (g H locs la a z b c)
theorem z_sipush (C : Cz A E cc nL own fr lo mc ms) {k : Int} (v : Int32) (d : decode cc pc = .ok (.sipush k, 3)) (hv : (Int16.ofInt k).toInt32 = v) (g : Gz A E n kc ks nL Q S (pc + 3) ls (.int v :: st)) : Gz A E n kc ks nL Q S pc ls st := fun H locs la a z b c => lv_sipush C.1 C.2.1 d hv (g H locs la a z b c)
theorem z_aload_n (C : Cz A E cc nL own fr lo mc ms) {k : Fin 4} {x : Nat} (q : Nat) (d : decode cc pc = .ok (.aload_n k, 1)) (hq : ls[q]? = some ((k : Nat), .ref x)) (g : Gz A E n kc ks nL Q S (pc + 1) ls (.ref x :: st)) : Gz A E n kc ks nL Q S pc ls st := fun H locs la a z b c => lv_aload_n C.1 C.2.1 d rfl (lv_at c q hq) (g H locs la a z b c)
theorem z_iload_n (C : Cz A E cc nL own fr lo mc ms) {k : Fin 4} {x : Int32} (q : Nat) (d : decode cc pc = .ok (.iload_n k, 1)) (hq : ls[q]? = some ((k : Nat), .int x)) (g : Gz A E n kc ks nL Q S (pc + 1) ls (.int x :: st)) : Gz A E n kc ks nL Q S pc ls st := fun H locs la a z b c => lv_iload_n C.1 C.2.1 d rfl (lv_at c q hq) (g H locs la a z b c)
theorem z_istore_n (C : Cz A E cc nL own fr lo mc ms) {k : Fin 4} {x : Int32} (l' : List (Nat × Value)) (d : decode cc pc = .ok (.istore_n k, 1)) (hn : (k : Nat) < nL) (hl : lS1 k (.int x) ls = l') (g : Gz A E n kc ks nL Q S (pc + 1) l' st) : Gz A E n kc ks nL Q S pc ls (.int x :: st) := fun H locs la a z b c => lv_istore_n C.1 C.2.1 d rfl c hn hl (fun la' c' => g H locs la' a z b c')
theorem z_astore_n (C : Cz A E cc nL own fr lo mc ms) {k : Fin 4} {x : Nat} (l' : List (Nat × Value)) (d : decode cc pc = .ok (.astore_n k, 1)) (hn : (k : Nat) < nL) (hl : lS1 k (.ref x) ls = l') (g : Gz A E n kc ks nL Q S (pc + 1) l' st) : Gz A E n kc ks nL Q S pc ls (.ref x :: st) := fun H locs la a z b c => lv_astore_n C.1 C.2.1 d rfl c hn hl (fun la' c' => g H locs la' a z b c')
theorem z_iinc (C : Cz A E cc nL own fr lo mc ms) {i : Nat} {k : Int} {x v : Int32} (q : Nat) (l' : List (Nat × Value)) (d : decode cc pc = .ok (.iinc i k, 3)) (hq : ls[q]? = some (i, .int x)) (hv : x + Int32.ofInt k = v) (hn : i < nL) (hl : lS1 i (.int v) ls = l') (g : Gz A E n kc ks nL Q S (pc + 3) l' st) : Gz A E n kc ks nL Q S pc ls st := fun H locs la a z b c => lv_iinc C.1 C.2.1 d c hq hv hn hl (fun la' c' => g H locs la' a z b c')
theorem z_dup (C : Cz A E cc nL own fr lo mc ms) {v : Value} (d : decode cc pc = .ok (.dup, 1)) (hv : v.category = 1) (g : Gz A E n kc ks nL Q S (pc + 1) ls (v :: v :: st)) : Gz A E n kc ks nL Q S pc ls (v :: st) := fun H locs la a z b c => lv_dup C.1 C.2.1 d hv (g H locs la a z b c)
theorem z_goto (C : Cz A E cc nL own fr lo mc ms) {off : Int} (tgt : Nat) (d : decode cc pc = .ok (.goto off, 3)) (ht : (pc : Int) + off = (tgt : Int)) (g : Gz A E n kc ks nL Q S tgt ls st) : Gz A E n kc ks nL Q S pc ls st := fun H locs la a z b c => lv_goto C.1 C.2.1 d ht (g H locs la a z b c)
theorem z_icmp_geT (C : Cz A E cc nL own fr lo mc ms) {x y : Int32} {off : Int} (tgt : Nat) (d : decode cc pc = .ok (.if_icmp .ge off, 3)) (ht : (pc : Int) + off = (tgt : Int)) (h : y ≤ x) (g : Gz A E n kc ks nL Q S tgt ls st) : Gz A E n kc ks nL Q S pc ls (.int y :: .int x :: st) := fun H locs la a z b c => lv_icmp_ge C.1 C.2.1 d ht (fun _ => g H locs la a z b c) (fun q => absurd h q)
theorem z_icmp_geF (C : Cz A E cc nL own fr lo mc ms) {x y : Int32} {off : Int} (tgt : Nat) (d : decode cc pc = .ok (.if_icmp .ge off, 3)) (ht : (pc : Int) + off = (tgt : Int)) (h : ¬ y ≤ x) (g : Gz A E n kc ks nL Q S (pc + 3) ls st) : Gz A E n kc ks nL Q S pc ls (.int y :: .int x :: st) := fun H locs la a z b c => lv_icmp_ge C.1 C.2.1 d ht (fun q => absurd q h) (fun _ => g H locs la a z b c)
theorem z_objInit (C : Cz A E cc nL own fr lo mc ms) {idx a : Nat} (hl : Cond.methodLink own idx Lib.objectInit ∈ G0) (hw : Cond.instanceMethod Lib.objectInit ∈ G0 ∧ Cond.code Lib.objectInit ⟨#[0xb1]⟩ 1 none ∈ G0) (hR : 1 ≤ fr ∧ 20 ≤ lo) (hr : (st.map fun v => v.category).sum ≤ 8) (d : decode cc pc = .ok (.invokespecial idx, 3)) (g : Gz A E n kc ks nL Q S (pc + 3) ls st) : Gz A E n kc ks nL Q S pc ls (.ref a :: st) := fun H locs la aa z b c => W.objInit C.1 C.2.1 C.2.2.2.1 (C.2.2.2.2.1 _ hl) (C.2.2.2.2.1 _ hw.1) (C.2.2.2.2.1 _ hw.2) rfl (c.1.trans C.2.2.1.symm) rfl d (Nat.le_trans hR.1 C.2.2.2.2.2.2.2.2.1) (by
    have h1 := C.2.2.2.2.2.2.2.2.2.1
    have h2 : 2 * (F0 (amm A) pc la (.ref a :: st)).monitorRoom + (st.map fun v => v.category).sum ≤ 8 := lv_room hr
    omega) (g H locs la aa z b c)
theorem z_return (C : Cz A E cc nL own fr lo mc ms) (hr : (amt A).sig.returnType = none) (hlocks : (amt A).locks = false) (d : decode cc pc = .ok (.return_, 1)) (hk : kc ≤ mc) (hs : ks ≤ ms) : Gz A E n kc ks nL (MQ (amb A) (Qz E n S) (ama A) (ams A) mc ms (fun q => eW E ≤ q)) S pc ls [] := by
  intro H locs la hW hz hS hl
  refine W.widen (k := mc) (n := ms) hk hs ?_
  exact W.vret (Qc := Qz E n S) (free := fun q => eW E ≤ q) C.1 C.2.1 hr (fun t ht _ => ⟨rfl, by rw [ht]; exact hW, by rw [ht]; exact hz, hS.F ht⟩) hS.2.2 d hlocks
/-- a field of the constructor's own object -/
theorem z_put0 (C : Cz A E cc nL own fr lo mc ms) {idx f t ci a : Nat} {ty : FieldType} {fin : Bool} {v : Value} {S' : WS} (F : FLo own idx f t ci ty fin) (hfin : (amt A).name = "<init>") (d : decode cc pc = .ok (.putfield idx, 3)) (ta : Ty (EE E n) a ci) (hn : narrow ty v = v) (hfit : fits ty v = true)
    (hs : fv S' t f a = v) (ho : ∀ g t', g ≠ f → fv S' t' g a = fv S t' g a) (hb : ∀ b t' f, b ≠ a → fv S' t' f b = fv S t' f b) (hr : ∀ b, ct (EE E n) S' b = ct (EE E n) S b) (hWT : WT (EE E n) S → WT (EE E n) S') (g : Gz A E n kc ks nL Q S' (pc + 3) ls st) : Gz A E n kc ks nL Q S pc ls (v :: .ref a :: st) := by
  obtain ⟨T, N, k, ty0, hcl, hin, hty, hnm, hk, hf, htg, hte, hT1, hfin0, hci, hl⟩ := F
  intro H locs la hW hz hS hl0
  have hts := C.2.2.2.2.1
  have hKK := C.2.2.2.2.2.1
  have hown := C.2.2.2.1
  have hap := va_apart (own := own) hts hin ty0 hty hnm hKK hcl
  have hat := pl_P.mp hW.1 a ta.1
  rw [ce_obj ta hci] at hat
  obtain ⟨r, h1, cell, q1, q2, q3, q4⟩ := hat
  have hr0 : r = (own, T, N) := Option.some.inj (h1.symm.trans hcl)
  subst hr0
  obtain ⟨hSl, hfc, kC, hkC, hkind⟩ := hKK.1 ci _ hcl
  obtain ⟨cf, kf, fi, fd, hi, hsl⟩ := hSl k hk
  have hlay := hts _ (hin _ (u_in_lay hk))
  unfold u_lay at hlay
  have hst := (u_facts hfc hkC (u_lays hts hin hk) hi).1
  have hd' : parseFieldDescriptor (T k).2.2.1 = some ty := by rw [hty k hk, hte]
  have hi' : (ams A).fieldFound? own (T k).2.1 (T k).2.2.1 = some (cf, kf, fi, fd) := by rw [hT1] at hi; exact hi
  subst hf
  have hlen : k < (ob S ci a).length := (List.getElem?_eq_some_iff.mp (ob_get (S := S) (a := a) htg)).1
  have key : ∀ H' : Heap, H'[a]? = some (cell.setSlot fd.slot v) → H'.size = H.size → (∀ q, q ≠ a → H'[q]? = H[q]?) → W (amp A) (aml A) (ame A) (amR A) (ams A) (amm A) (ama A) (amb A) (amt A) (amc A) H' (locs ++ [⟨a, fd.slot⟩]) kc ks Q (F0 (amm A) (pc + 3) la st) := by
    intro H' e1 e2 e3
    rw [hsl] at e1 ⊢
    refine g H' _ la (wz_set hW e3 ?_ ?_ hWT) (e2.trans hz) (hS.put e2 e3 (mEE.mp ta.1).1) hl0
    · rw [ce_obj ta hci, ← ob_set htg hs (fun j t' hj => ho _ t' (by omega))]
      exact ⟨_, hcl, t_OB.to (V := updV (vp_V (ob S ci a)) k v) ⟨_, e1, q2, q3, t_set q4 hap hk v⟩ (fun j _ => vp_updV_set hlen v j)⟩
    · intro b hb'
      unfold ce
      rw [hr b, ob_off (S' := S') (S := S) (fun t' f => hb b t' f hb')]
  cases fin with
  | true =>
    rw [if_pos hfin0] at hlay
    have hcf : (amm A).cls = cf := by
      obtain ⟨_, _, c', _, _, _, -, -, hf', -, -, -, hown2, -⟩ := Cond.laysFinal_spec hlay
      have e1 : c' = cf := by have := hi.symm.trans hf'; simp at this; exact this.1.symm
      rw [hT1] at hown2
      rw [← e1]; exact Option.some.inj (hown.symm.trans hown2)
    have h6 := u_fits hfc hkC hkind (Or.inr hlay) hi hd' hn hfit
    exact W.putFinK C.1 C.2.1 hown (hts _ hl) hi' hst hcf hfin (by rw [q2]; exact h6) q1 q3 (by rw [hsl]; exact k2_hasslot (q4 k hk)) rfl rfl d key
  | false =>
    rw [if_neg (by rw [hfin0]; decide)] at hlay
    have h6 := u_store hfc hkC hkind hlay hi hd' hn hfit
    exact W.putK C.1 C.2.1 (f := fd) ⟨hown, hts _ hl, ⟨_, _, _, hi'⟩, hst⟩ (by rw [q2]; exact h6) q1 q3 (by rw [hsl]; exact k2_hasslot (q4 k hk)) rfl rfl d key
theorem z_puti (C : Cz A E cc nL own fr lo mc ms) {idx f ci a : Nat} {fin : Bool} {v : Int32} (F : FLo own idx f 0 ci .int fin) (hfin : (amt A).name = "<init>") (d : decode cc pc = .ok (.putfield idx, 3)) (ta : Ty (EE E n) a ci) (g : Gz A E n kc ks nL Q (si S f a v) (pc + 3) ls st) : Gz A E n kc ks nL Q S pc ls (.int v :: .ref a :: st) := by
  refine z_put0 (S' := si S f a v) C F hfin d ta rfl rfl ?_ ?_ ?_ (fun _ => rfl) (fun h => h) g
  · show Value.int (u2 S.1 f a v f a) = _; rw [u2_same]
  · intro g t' hg
    unfold fv
    show (if t' = 0 then Value.int (u2 S.1 f a v g a) else _) = _
    rw [u2_off (Or.inl hg)]; rfl
  · intro b t' f' hb
    unfold fv
    show (if t' = 0 then Value.int (u2 S.1 f a v f' b) else _) = _
    rw [u2_off (Or.inr hb)]; rfl
theorem z_putr (C : Cz A E cc nL own fr lo mc ms) {idx f ci a b : Nat} {ty : FieldType} {fin : Bool} (F : FLo own idx f 2 ci ty fin) (hfin : (amt A).name = "<init>") (d : decode cc pc = .ok (.putfield idx, 3)) (ta : Ty (EE E n) a ci) (tb : Ty (EE E n) b (rk f)) (hn : narrow ty (.ref b) = .ref b) (hfit : fits ty (.ref b) = true) (g : Gz A E n kc ks nL Q (sr S f a (some b)) (pc + 3) ls st) : Gz A E n kc ks nL Q S pc ls (.ref b :: .ref a :: st) := by
  refine z_put0 (S' := sr S f a (some b)) C F hfin d ta hn hfit ?_ ?_ ?_ (fun _ => rfl) (fun h => ?_) g
  · show va_rf (u2 S.2.2.1 f a (some b) f a) = _; rw [u2_same]; rfl
  · intro g t' hg
    unfold fv
    show (if t' = 0 then _ else if t' = 1 then _ else va_rf (u2 S.2.2.1 f a (some b) g a)) = _
    rw [u2_off (Or.inl hg)]; rfl
  · intro b' t' f' hb
    unfold fv
    show (if t' = 0 then _ else if t' = 1 then _ else va_rf (u2 S.2.2.1 f a (some b) f' b')) = _
    rw [u2_off (Or.inr hb)]; rfl
  · refine ⟨fun f' a' b' h1 h2 h3 => ?_, h.2.1, h.2.2⟩
    by_cases h4 : f' = f ∧ a' = a
    · obtain ⟨rfl, rfl⟩ := h4
      have h5 : u2 S.2.2.1 f' a' (some b) f' a' = some b' := h3
      rw [u2_same] at h5
      cases h5
      exact tb
    · have h5 : u2 S.2.2.1 f a (some b) f' a' = some b' := h3
      rw [u2_off (by by_cases q : f' = f; exact Or.inr (fun z => h4 ⟨q, z⟩); exact Or.inl q)] at h5
      exact h.1 f' a' b' h1 h2 h5
theorem ob_zA {S : WS} {ci a : Nat} : ob (zA S a) ci a = zl ci := by
  unfold ob zl
  apply List.ext_getElem?
  intro j
  rw [List.getElem?_mapIdx, List.getElem?_map]
  cases (tg ci)[j]? with
  | none => rfl
  | some t => exact congrArg some fv_zA0
theorem z_new (C : Cz A E cc nL own fr lo mc ms) {idx ci N : Nat} {Cn : String} {T : u_T} (ty0 : Nat → FieldType) (hcl : vwCl[ci]? = some (Cn, T, N)) (hin : ∀ w ∈ u_ws Cn T N, w ∈ G0) (hty : ∀ k, k < N → parseFieldDescriptor (T k).2.2.1 = some (ty0 k)) (hc : Cond.classLink own idx Cn ∈ G0) (hi : Cond.instantiable Cn N ∈ G0) (hini : Cond.initialized Cn ∈ G0) (hKt : (Kt.getD n (99, 0)).1 = ci) (hci : ci < 9) (hdef : ∀ j, j < N → defaultValue (ty0 j) = vp_V (zl ci) j) (hcells : kc + 1 ≤ mc) (hslots : ks + N ≤ ms) (d : decode cc pc = .ok (.new idx, 3))
    (g : Gz A E (n + 1) (kc + 1) (ks + N) nL Q (zA S (eW E + n)) (pc + 3) ls (.ref (eW E + n) :: st)) : Gz A E n kc ks nL Q S pc ls st := by
  intro H locs la hW hz hS hl0
  have hts := C.2.2.2.2.1
  have hKn := C.2.2.2.2.2.1.1 ci _ hcl
  refine W.newcK C.1 C.2.1 C.2.2.2.1 (hts _ hc) (hts _ hi) (hts _ hini) rfl d (Nat.le_trans hcells C.2.2.2.2.2.2.2.2.2.2.1) (Nat.le_trans hslots C.2.2.2.2.2.2.2.2.2.2.2.1) hKn.2.1 hz fun H1 kC hkC e1 z1 o1 => ?_
  have ta : Ty (EE E (n + 1)) (eW E + n) ci := tEE (by omega) hKt
  refine g H1 locs la (wz_push hW hz z1 o1 ?_) (by rw [z1]; omega) ⟨by rw [z1]; have := hS.1; omega, fun q h1 h2 => (o1 q (by have := hS.1; omega)).trans (hS.2.1 q h1 h2), hS.2.2⟩ hl0
  rw [ce_obj ta hci, ob_zA]
  exact ⟨_, hcl, (u_born ty0 hts hin hKn hkC e1 hty).to hdef⟩
theorem ai_zA {S : WS} {a : Nat} : ai (zA S a) a = fun _ => 0 := by
  show (if a = a then _ else _) = _
  rw [if_pos rfl]
theorem aj_zA {S : WS} {a : Nat} : aj (zA S a) a = fun _ => 0 := by
  show (if a = a then _ else _) = _
  rw [if_pos rfl]
theorem ar_zA {S : WS} {a : Nat} : ar (zA S a) a = fun _ => none := by
  show (if a = a then _ else _) = _
  rw [if_pos rfl]
theorem z_newa (C : Cz A E cc nL own fr lo mc ms) {atype : ArrayType} {ty : FieldType} {x : Int32} (k N : Nat) (hty : newarray.typeOf atype = ty) (harr : Cond.arrayClass ty ∈ G0) (hk : (tys E)[k - 9]? = some (eC E k, ty)) (h9 : 9 ≤ k) (hra : ∀ (U : State) (cA : ClassId), va_RA U cA ty → U.vm.findClass ("[" ++ ty.toString) = some cA) (hx0 : ¬ x < 0) (hx : x.toNatClampNeg = N) (hKt : Kt.getD n (99, 0) = (k, N)) (hb : N * componentBytes ty ≤ 536870912)
    (hcell : ∀ cA : ClassId, vp_cell cA (N, ct (EE E (n + 1)) (zA S (eW E + n)) (eW E + n)) = arrV cA N (fun _ => defaultValue ty)) (hcells : kc + 1 ≤ mc) (hslots : ks + N ≤ ms) (d : decode cc pc = .ok (.newarray atype, 2))
    (g : Gz A E (n + 1) (kc + 1) (ks + N) nL Q (zA S (eW E + n)) (pc + 2) ls (.ref (eW E + n) :: st)) : Gz A E n kc ks nL Q S pc ls (.int x :: st) := by
  intro H locs la hW hz hS hl0
  subst hty
  have hts := C.2.2.2.2.1
  refine va_newaK C.1 C.2.1 (hts _ harr) rfl d rfl hx0 hx hb (Nat.le_trans hcells C.2.2.2.2.2.2.2.2.2.2.1) (Nat.le_trans hslots C.2.2.2.2.2.2.2.2.2.2.2.1) hz fun H1 cA e1 z1 o1 hAr hNm => ?_
  have ta : Ty (EE E (n + 1)) (eW E + n) k := tEE (by omega) (by rw [hKt])
  have hcA : cA = eC E k := Option.some.inj (hNm.symm.trans (hra _ _ (C.2.2.2.2.2.1.2 (k - 9) _ hk).2))
  subst hcA
  refine g H1 locs la (wz_push hW hz z1 o1 ?_) (by rw [z1]; omega) ⟨by rw [z1]; have := hS.1; omega, fun q h1 h2 => (o1 q (by have := hS.1; omega)).trans (hS.2.1 q h1 h2), hS.2.2⟩ hl0
  rw [ce_arr ta h9, nEE, hKt]
  show H1[eW E + n]? = some (vp_cell _ _)
  rw [show eC (EE E (n + 1)) k = eC E k from rfl, hcell]
  exact e1
theorem z_anew (C : Cz A E cc nL own fr lo mc ms) {Cn : String} {idx : Nat} {x : Int32} (k N : Nat) (hc : Cond.classLink own idx Cn ∈ G0) (hover : va_AO Cn (ams A)) (hk : (tys E)[k - 9]? = some (eC E k, .object Cn)) (h9 : 13 ≤ k) (hx0 : ¬ x < 0) (hx : x.toNatClampNeg = N) (hKt : Kt.getD n (99, 0) = (k, N)) (hb : N * 4 ≤ 536870912) (hcells : kc + 1 ≤ mc) (hslots : ks + N ≤ ms) (d : decode cc pc = .ok (.anewarray idx, 3))
    (g : Gz A E (n + 1) (kc + 1) (ks + N) nL Q (zA S (eW E + n)) (pc + 3) ls (.ref (eW E + n) :: st)) : Gz A E n kc ks nL Q S pc ls (.int x :: st) := by
  intro H locs la hW hz hS hl0
  subst hx
  have hts := C.2.2.2.2.1
  refine W.anew C.1 C.2.1 C.2.2.2.1 (hts _ hc) (va_AO.use hover) rfl d rfl hx0 hb (Nat.le_trans hcells C.2.2.2.2.2.2.2.2.2.2.1) (Nat.le_trans hslots C.2.2.2.2.2.2.2.2.2.2.2.1) fun cA kA comp f1 f2 f3 f4 => ?_
  generalize hH1 : H.push ({ cls := cA, slots := Array.replicate x.toNatClampNeg .null, vm := .none } : Cell) = H1
  have z1 : H1.size = eW E + n + 1 := by rw [← hH1, Array.size_push, hz]
  have e1 : H1[eW E + n]? = some (arrV cA x.toNatClampNeg (fun _ => .null)) := by rw [← hH1, ← hz, Array.getElem?_push_size, ← arrV_new]
  have o1 : ∀ q : Nat, q < eW E + n → H1[q]? = H[q]? := fun q hq => by rw [← hH1, Array.getElem?_push, if_neg (by omega)]
  have ta : Ty (EE E (n + 1)) (eW E + n) k := tEE (by omega) (by rw [hKt])
  obtain ⟨kA', comp', -, -, -, hNm⟩ := (C.2.2.2.2.2.1.2 (k - 9) _ hk).2
  have hcA : cA = eC E k := Option.some.inj (f1.symm.trans hNm)
  subst hcA
  rw [hz]
  refine g H1 locs la (wz_push hW hz z1 o1 ?_) (by rw [z1]; omega) ⟨by rw [z1]; have := hS.1; omega, fun q h1 h2 => (o1 q (by have := hS.1; omega)).trans (hS.2.1 q h1 h2), hS.2.2⟩ hl0
  rw [ce_arr ta (by omega), nEE, hKt, ct_r (by rw [ta.2]; omega), ar_zA]
  show H1[eW E + n]? = some (vp_cell _ _)
  rw [vp_cell_q]
  exact e1
theorem z_getr (C : Cz A E cc nL own fr lo mc ms) {idx f ci a b : Nat} {ty : FieldType} {fin : Bool} (F : FLo own idx f 2 ci ty fin) (d : decode cc pc = .ok (.getfield idx, 3)) (ta : Ty (EE E n) a ci) (hb : gr S f a = some b) (g : Gz A E n kc ks nL Q S (pc + 3) ls (.ref b :: st)) : Gz A E n kc ks nL Q S pc ls (.ref a :: st) := by
  obtain ⟨T, N, k, ty0, hcl, hin, hty, hnm, hk, hf, htg, hte, hT1, hfin0, hci, hl⟩ := F
  intro H locs la hW hz hS hl0
  obtain ⟨q, hq⟩ := w_get (S := S) ta.1
  rw [ce_obj ta hci] at hq
  subst hf
  have hg := ob_get (S := S) (a := a) htg
  rw [show fv S 2 (64 * ci + k) a = va_rf (gr S (64 * ci + k) a) from rfl, hb] at hg
  exact va_get (D := eD E) (cl := vwCl) (tys := tys E) C.1 C.2.1 C.2.2.2.2.1 hin C.2.2.2.1 C.2.2.2.2.2.1 hW.1 q hq hcl k hk (C.2.2.2.2.1 _ hl) (fun x h => by rw [hT1] at h; exact h) hg d (g H locs la hW hz hS hl0)
theorem z_aast (C : Cz A E cc nL own fr lo mc ms) {a b : Nat} {i : Int32} {r : vw_C} (k ci : Nat) (hk : (tys E)[k - 9]? = some (eC E k, .object r.1)) (h9 : 13 ≤ k) (hc : vwCl[ci]? = some r) (hci : ci < 9) (d : decode cc pc = .ok (.aastore, 1)) (ta : Ty (EE E n) a k) (tb : Ty (EE E n) b ci) (hkc : (k = 13 ∧ ci = 2) ∨ (k = 14 ∧ ci = 5)) (hi : ¬ (i < 0 ∨ eN (EE E n) a ≤ i.toNatClampNeg)) (g : Gz A E n kc ks nL Q (wr S a (va_up (ar S a) i.toNatClampNeg (some b))) (pc + 1) ls st) : Gz A E n kc ks nL Q S pc ls (.ref b :: .int i :: .ref a :: st) := by
  intro H locs la hW hz hS hl0
  have hKK := C.2.2.2.2.2.1
  have hlt : i.toNatClampNeg < eN (EE E n) a := Nat.not_le.mp fun q => hi (Or.inr q)
  have h0 : ¬ i < 0 := fun q => hi (Or.inl q)
  have hab : va_at (eD E) vwCl (b, ce (EE E n) S b) H := pl_P.mp hW.1 b tb.1
  rw [ce_obj tb hci] at hab
  obtain ⟨r', hr', cellV, g1, g2, g3, -⟩ := hab
  have haa : va_at (eD E) vwCl (a, ce (EE E n) S a) H := pl_P.mp hW.1 a ta.1
  rw [ce_arr ta (by omega), ct_r (by rw [ta.2]; omega)] at haa
  have hcls := (hKK.1 ci r hc).2
  obtain ⟨kA, comp, k1, k2, k3, -⟩ := (hKK.2 (k - 9) _ hk).2
  have hcomp : comp = (eD E).1 ci := Option.some.inj (k3.symm.trans hcls.1)
  subst hcomp
  obtain ⟨kC, hkC, -⟩ := hcls.2
  refine W.aast C.1 C.2.1 haa (fun q h => by cases h) (fun h => by cases h) k1 k2 rfl hkC ⟨h0, by show _ < (arrV _ _ _).slots.size; rw [arrV_size]; exact hlt⟩ g1 (fun q h => by rw [g3] at h; cases h) (by rw [g2]; exact hkC) (by rw [g2]; exact va_assign hcls) rfl rfl d fun H1 e z oq => ?_
  refine g H1 _ la (wz_set hW oq ?_ (fun b' hb' => ?_) (fun h => ⟨h.1, fun a' i' b' h1 h2 h3 => ?_, fun a' i' b' h1 h2 h3 => ?_⟩)) (z.trans hz) (hS.put z oq (mEE.mp ta.1).1) hl0
  · rw [ce_arr ta (by omega), ct_r (by rw [ta.2]; omega)]
    show H1[a]? = some (vp_cell _ _)
    rw [e, vp_cell_q, vp_cell_q, arrV_store]
    congr 2
    funext q
    have e1 : ar (wr S a (va_up (ar S a) i.toNatClampNeg (some b))) a = va_up (ar S a) i.toNatClampNeg (some b) := by
      show u1 _ _ _ _ = _
      simp [u1]
    rw [e1]
    by_cases hq : q = i.toNatClampNeg
    · subst hq
      simp [updV, va_up, va_rf]
    · simp [updV, va_up, hq]
  · unfold ce ct
    have e1 : ar (wr S a (va_up (ar S a) i.toNatClampNeg (some b))) b' = ar S b' := by
      show u1 S.2.2.2.2.2 _ _ _ = _
      unfold u1
      rw [if_neg hb']; rfl
    rw [e1]; rfl
  · by_cases q : a' = a
    · subst q
      have e1 : va_up (ar S a') i.toNatClampNeg (some b) i' = some b' := by
        have e2 : ar (wr S a' (va_up (ar S a') i.toNatClampNeg (some b))) a' = va_up (ar S a') i.toNatClampNeg (some b) := by
          show u1 _ _ _ _ = _
          simp [u1]
        rw [e2] at h3; exact h3
      by_cases q2 : i' = i.toNatClampNeg
      · rw [q2, va_up_self] at e1
        cases e1
        rcases hkc with ⟨-, e3⟩ | ⟨e4, -⟩
        · rw [← e3]; exact tb
        · rw [ta.2, e4] at h2; cases h2
      · rw [va_up_ne _ _ q2] at e1
        exact h.2.1 a' i' b' h1 h2 e1
    · have e2 : ar (wr S a (va_up (ar S a) i.toNatClampNeg (some b))) a' = ar S a' := by
        show u1 S.2.2.2.2.2 _ _ _ = _
        unfold u1
        rw [if_neg q]; rfl
      rw [e2] at h3
      exact h.2.1 a' i' b' h1 h2 h3
  · by_cases q : a' = a
    · subst q
      have e1 : va_up (ar S a') i.toNatClampNeg (some b) i' = some b' := by
        have e2 : ar (wr S a' (va_up (ar S a') i.toNatClampNeg (some b))) a' = va_up (ar S a') i.toNatClampNeg (some b) := by
          show u1 _ _ _ _ = _
          simp [u1]
        rw [e2] at h3; exact h3
      by_cases q2 : i' = i.toNatClampNeg
      · rw [q2, va_up_self] at e1
        cases e1
        rcases hkc with ⟨e4, -⟩ | ⟨-, e3⟩
        · rw [ta.2, e4] at h2; cases h2
        · rw [← e3]; exact tb
      · rw [va_up_ne _ _ q2] at e1
        exact h.2.2 a' i' b' h1 h2 e1
    · have e2 : ar (wr S a (va_up (ar S a) i.toNatClampNeg (some b))) a' = ar S a' := by
        show u1 S.2.2.2.2.2 _ _ _ = _
        unfold u1
        rw [if_neg q]; rfl
      rw [e2] at h3
      exact h.2.2 a' i' b' h1 h2 h3
theorem z_iast (C : Cz A E cc nL own fr lo mc ms) {a : Nat} {i v : Int32} (d : decode cc pc = .ok (.iastore, 1)) (ta : Ty (EE E n) a 10) (hi : ¬ (i < 0 ∨ eN (EE E n) a ≤ i.toNatClampNeg)) (g : Gz A E n kc ks nL Q (wi S a (upd (ai S a) i.toNatClampNeg v)) (pc + 1) ls st) : Gz A E n kc ks nL Q S pc ls (.int v :: .int i :: .ref a :: st) := by
  intro H locs la hW hz hS hl0
  have haa : va_at (eD E) vwCl (a, ce (EE E n) S a) H := pl_P.mp hW.1 a ta.1
  rw [ce_arr ta (by decide), ct_i (by rw [ta.2]; decide) (by rw [ta.2]; decide)] at haa
  refine W.iast C.1 C.2.1 haa ((C.2.2.2.2.2.1.2 1 _ rfl).1 _ (fun j => .int (ai S a j))) (fun q => by cases q) (by show ¬ (i < 0 ∨ (arrV _ _ _).slots.size ≤ _); rw [arrV_size]; exact hi) rfl rfl d fun H1 e z oq => ?_
  refine g H1 _ la (wz_set hW oq ?_ (fun b' hb' => ?_) (fun h => h)) (z.trans hz) (hS.put z oq (mEE.mp ta.1).1) hl0
  · rw [ce_arr ta (by decide), ct_i (by rw [ta.2]; decide) (by rw [ta.2]; decide), ai_wi]
    show H1[a]? = some (vp_cell _ _)
    rw [e, vp_cell_i, vp_cell_i, arrV_store]
    congr 2
    funext q
    by_cases hq : q = i.toNatClampNeg
    · subst hq
      simp [updV, upd]
    · simp [updV, upd, hq]
  · unfold ce
    rw [ct_wi hb']; rfl
/-- a constructor is called -/
theorem Bz.blind {E : EN} {n : Nat} {S : WS} {as : List Value} : FrameBlind (va_Pc as (Bz E n S)) := fun a U g mk h => ⟨h.1, h.2.1, h.2.2.1, va_K.moved (u := U) (U := U.calling g mk a) (Vm.Alike.refl U.vm) h.2.2.2.1, Nw.same (u := U) (U := U.calling g mk a) rfl h.2.2.2.2.1, Sx.same (u := U) (U := U.calling g mk a) rfl rfl h.2.2.2.2.2.1, va_AO.moved (u := U) (U := U.calling g mk a) (Vm.Alike.refl U.vm) h.2.2.2.2.2.2.1, va_AO.moved (u := U) (U := U.calling g mk a) (Vm.Alike.refl U.vm) h.2.2.2.2.2.2.2⟩
theorem z_callI (C : Cz A E cc nL own fr lo mc ms) {y : MethodName} {bytes : ByteArray} {maxL idx np fr' lo' mc' ms' b n' : Nat} {As rest st0 : List Value} {S' : WS} (hM : CI (aml A) E y bytes maxL fr' lo' mc' ms' (.ref b :: As) n n' S S') (d : decode cc pc = .ok (.invokespecial idx, 3)) (ml : ML own idx y) (hy : y.name = "<init>") (hinst : Cond.instanceMethod y ∈ G0) (hini : Cond.initialized y.cls ∈ G0) (hcode : Cond.code y bytes maxL none ∈ G0) (hd : y.cls ≠ "java/lang/invoke/MethodHandle" ∧ y.cls ≠ "java/lang/invoke/VarHandle" ∧ (parseMethodDescriptor y.desc).map (fun d => d.parameters.length) = some np) (hn : As.length = np) (hs : As.reverse ++ .ref b :: rest = st0) (hR : fr' + 1 ≤ fr ∧ 8 + (maxL + 11) + lo' ≤ lo) (hr : (rest.map fun v => v.category).sum ≤ 8) (hk : kc + mc' ≤ mc) (hks : ks + ms' ≤ ms)
    (g : Gz A E n' (kc + mc') (ks + ms') nL Q S' (pc + 3) ls rest) : Gz A E n kc ks nL Q S pc ls st0 := by
  subst hs
  intro H locs la hW hz hS hl
  have hts := C.2.2.2.2.1
  have hRR : fr' + 1 ≤ (amR A).frames ∧ 8 + (maxL + 11) + lo' ≤ (amR A).locals := ⟨Nat.le_trans hR.1 C.2.2.2.2.2.2.2.2.1, Nat.le_trans hR.2 C.2.2.2.2.2.2.2.2.2.1⟩
  have hpre : PreS (ams A) H (va_Pc (.ref b :: As) (Bz E n S)) (.ref b :: As) := ⟨Bz.blind, fun U hU hw => ⟨rfl, by rw [hU]; exact hW, by rw [hU]; exact hz, va_K.moved hw.alike C.2.2.2.2.2.1, Nw.warm hw C.2.2.2.2.2.2.1, Sx.warm hw (fun a h1 h2 => by rw [hU]; exact hS.2.1 a h1 h2) C.2.2.2.2.2.2.2.1, va_AO.moved hw.alike C.2.2.2.2.2.2.2.2.2.2.2.2.2.1, va_AO.moved hw.alike C.2.2.2.2.2.2.2.2.2.2.2.2.2.2⟩⟩
  have hfit : kc + mc' ≤ (amR A).cells ∧ ks + ms' ≤ (amR A).slots := ⟨Nat.le_trans hk C.2.2.2.2.2.2.2.2.2.2.1, Nat.le_trans hks C.2.2.2.2.2.2.2.2.2.2.2.1⟩
  have key : va_Run (amp A) (aml A) (ame A) (amR A) (ams A) (amm A) (ama A) (amb A) (amt A) (amc A) H locs kc ks mc' ms' (F0 (amm A) pc la (As.reverse ++ .ref b :: rest)) rest (Qz E n' S' (Value.ref b :: As).toArray) (fun q => eW E ≤ q) := by
    have hcf : CallFix (amp A) (amm A) (amc A) cc nL (ams A) (ama A) G0 own := ⟨C.1, C.2.1, C.2.2.1, C.2.2.2.1, C.2.2.2.2.1⟩
    rcases ml with ml | ⟨host, ml⟩
    · exact va_runI hcf hM ⟨callB_of np hts (G0_code hcode) rfl rfl rfl (hts _ hini) (hts _ ml) hd hRR, hy, hts _ hinst⟩ hpre rfl hn hl.1 rfl (lv_room hr) d hfit
    · exact va_runIN hcf hM ⟨va_cnB np hts (G0_code hcode) rfl rfl rfl (C.2.2.2.2.2.2.1 _ ml) (hts _ hini) hd hRR, hy, hts _ hinst⟩ hpre rfl hn hl.1 rfl (lv_room hr) d hfit
  intro T hT X
  obtain ⟨v, st₀, t, T', L, h0, X', hL, e1, e2, ⟨hv, hb, hsz, hzf, hkf⟩, hst⟩ := key T hT X
  cases hv
  rw [h0] at hzf hkf
  obtain ⟨t2, a1, b1⟩ := g T'.heap (locs ++ L) la (by rw [e1]; exact hb) (by rw [e1]; exact hsz) ⟨Nat.le_trans hS.1 (by rw [e1]; exact hzf), fun q h1 h2 => by rw [e1, hkf q (Nat.lt_of_lt_of_le h1 hS.1) h2]; exact hS.2.1 q h1 h2, fun q hq => by
      rcases List.mem_append.mp hq with h | h
      · exact hS.2.2 q h
      · exact hL q h⟩ hl T' rfl X'
  exact ⟨t2, hst t2 a1, b1⟩
end ZROWS
theorem gr_sr_eq {S : WS} {f a : Nat} {v : Option Nat} : gr (sr S f a v) f a = v := u2_same
theorem gr_sr_f {S : WS} {f a g b : Nat} {v : Option Nat} (h : g ≠ f) : gr (sr S f a v) g b = gr S g b := u2_off (Or.inl h)
theorem gr_sr_a {S : WS} {f a g b : Nat} {v : Option Nat} (h : b ≠ a) : gr (sr S f a v) g b = gr S g b := u2_off (Or.inr h)
theorem gi_si_eq {S : WS} {f a : Nat} {v : Int32} : gi (si S f a v) f a = v := u2_same
theorem gi_si_f {S : WS} {f a g b : Nat} {v : Int32} (h : g ≠ f) : gi (si S f a v) g b = gi S g b := u2_off (Or.inl h)
theorem gi_si_a {S : WS} {f a g b : Nat} {v : Int32} (h : b ≠ a) : gi (si S f a v) g b = gi S g b := u2_off (Or.inr h)
theorem gr_zA {S : WS} {a f b : Nat} (h : b ≠ a) : gr (zA S a) f b = gr S f b := if_neg h
theorem gi_zA {S : WS} {a f b : Nat} (h : b ≠ a) : gi (zA S a) f b = gi S f b := if_neg h
theorem gj_zA {S : WS} {a f b : Nat} (h : b ≠ a) : gj (zA S a) f b = gj S f b := if_neg h
theorem ai_zA_a {S : WS} {a b : Nat} (h : b ≠ a) : ai (zA S a) b = ai S b := if_neg h
theorem aj_zA_a {S : WS} {a b : Nat} (h : b ≠ a) : aj (zA S a) b = aj S b := if_neg h
theorem ar_zA_a {S : WS} {a b : Nat} (h : b ≠ a) : ar (zA S a) b = ar S b := if_neg h
theorem ai_wi_a {S : WS} {a b : Nat} {g : Nat → Int32} (h : b ≠ a) : ai (wi S a g) b = ai S b := if_neg h
theorem ar_wr_a {S : WS} {a b : Nat} {g : Nat → Option Nat} (h : b ≠ a) : ar (wr S a g) b = ar S b := if_neg h
theorem aj_wj_a {S : WS} {a b : Nat} {g : Nat → Int64} (h : b ≠ a) : aj (wj S a g) b = aj S b := if_neg h
theorem ar_wr_eq {S : WS} {a : Nat} {g : Nat → Option Nat} : ar (wr S a g) a = g := if_pos rfl
theorem gj_sj_eq {S : WS} {f a : Nat} {v : Int64} : gj (sj S f a v) f a = v := u2_same
theorem gj_sj_f {S : WS} {f a g b : Nat} {v : Int64} (h : g ≠ f) : gj (sj S f a v) g b = gj S g b := u2_off (Or.inl h)
theorem gj_sj_a {S : WS} {f a g b : Nat} {v : Int64} (h : b ≠ a) : gj (sj S f a v) g b = gj S g b := u2_off (Or.inr h)
theorem gi_sj {S : WS} {g a : Nat} {v : Int64} {f b : Nat} : gi (sj S g a v) f b = gi S f b := rfl
theorem gi_sr {S : WS} {g a : Nat} {v : Option Nat} {f b : Nat} : gi (sr S g a v) f b = gi S f b := rfl
theorem gi_wi {S : WS} {a : Nat} {v : Nat → Int32} {f b : Nat} : gi (wi S a v) f b = gi S f b := rfl
theorem gi_wj {S : WS} {a : Nat} {v : Nat → Int64} {f b : Nat} : gi (wj S a v) f b = gi S f b := rfl
theorem gi_wr {S : WS} {a : Nat} {v : Nat → Option Nat} {f b : Nat} : gi (wr S a v) f b = gi S f b := rfl
theorem gj_si {S : WS} {g a : Nat} {v : Int32} {f b : Nat} : gj (si S g a v) f b = gj S f b := rfl
theorem gj_sr {S : WS} {g a : Nat} {v : Option Nat} {f b : Nat} : gj (sr S g a v) f b = gj S f b := rfl
theorem gj_wi {S : WS} {a : Nat} {v : Nat → Int32} {f b : Nat} : gj (wi S a v) f b = gj S f b := rfl
theorem gj_wj {S : WS} {a : Nat} {v : Nat → Int64} {f b : Nat} : gj (wj S a v) f b = gj S f b := rfl
theorem gj_wr {S : WS} {a : Nat} {v : Nat → Option Nat} {f b : Nat} : gj (wr S a v) f b = gj S f b := rfl
theorem gr_si {S : WS} {g a : Nat} {v : Int32} {f b : Nat} : gr (si S g a v) f b = gr S f b := rfl
theorem gr_sj {S : WS} {g a : Nat} {v : Int64} {f b : Nat} : gr (sj S g a v) f b = gr S f b := rfl
theorem gr_wi {S : WS} {a : Nat} {v : Nat → Int32} {f b : Nat} : gr (wi S a v) f b = gr S f b := rfl
theorem gr_wj {S : WS} {a : Nat} {v : Nat → Int64} {f b : Nat} : gr (wj S a v) f b = gr S f b := rfl
theorem gr_wr {S : WS} {a : Nat} {v : Nat → Option Nat} {f b : Nat} : gr (wr S a v) f b = gr S f b := rfl
theorem ai_si {S : WS} {g a : Nat} {v : Int32} {b : Nat} : ai (si S g a v)  b = ai S  b := rfl
theorem ai_sj {S : WS} {g a : Nat} {v : Int64} {b : Nat} : ai (sj S g a v)  b = ai S  b := rfl
theorem ai_sr {S : WS} {g a : Nat} {v : Option Nat} {b : Nat} : ai (sr S g a v)  b = ai S  b := rfl
theorem ai_wj {S : WS} {a : Nat} {v : Nat → Int64} {b : Nat} : ai (wj S a v)  b = ai S  b := rfl
theorem ai_wr {S : WS} {a : Nat} {v : Nat → Option Nat} {b : Nat} : ai (wr S a v)  b = ai S  b := rfl
theorem aj_si {S : WS} {g a : Nat} {v : Int32} {b : Nat} : aj (si S g a v)  b = aj S  b := rfl
theorem aj_sj {S : WS} {g a : Nat} {v : Int64} {b : Nat} : aj (sj S g a v)  b = aj S  b := rfl
theorem aj_sr {S : WS} {g a : Nat} {v : Option Nat} {b : Nat} : aj (sr S g a v)  b = aj S  b := rfl
theorem aj_wi {S : WS} {a : Nat} {v : Nat → Int32} {b : Nat} : aj (wi S a v)  b = aj S  b := rfl
theorem aj_wr {S : WS} {a : Nat} {v : Nat → Option Nat} {b : Nat} : aj (wr S a v)  b = aj S  b := rfl
theorem ar_si {S : WS} {g a : Nat} {v : Int32} {b : Nat} : ar (si S g a v)  b = ar S  b := rfl
theorem ar_sj {S : WS} {g a : Nat} {v : Int64} {b : Nat} : ar (sj S g a v)  b = ar S  b := rfl
theorem ar_sr {S : WS} {g a : Nat} {v : Option Nat} {b : Nat} : ar (sr S g a v)  b = ar S  b := rfl
theorem ar_wi {S : WS} {a : Nat} {v : Nat → Int32} {b : Nat} : ar (wi S a v)  b = ar S  b := rfl
theorem ar_wj {S : WS} {a : Nat} {v : Nat → Int64} {b : Nat} : ar (wj S a v)  b = ar S  b := rfl
theorem zdef_X0 : ∀ j, j < 7 → defaultValue (tyX0 j) = vp_V (zl 0) j := by
  intro j hj
  rcases (show j = 0 ∨ j = 1 ∨ j = 2 ∨ j = 3 ∨ j = 4 ∨ j = 5 ∨ j = 6 by omega) with rfl | rfl | rfl | rfl | rfl | rfl | rfl <;> rfl
theorem zdef_X2 : ∀ j, j < 5 → defaultValue (tyX2 j) = vp_V (zl 1) j := by
  intro j hj
  rcases (show j = 0 ∨ j = 1 ∨ j = 2 ∨ j = 3 ∨ j = 4 by omega) with rfl | rfl | rfl | rfl | rfl <;> rfl
theorem zdef_X3 : ∀ j, j < 19 → defaultValue (tyX3 j) = vp_V (zl 2) j := by
  intro j hj
  rcases (show j = 0 ∨ j = 1 ∨ j = 2 ∨ j = 3 ∨ j = 4 ∨ j = 5 ∨ j = 6 ∨ j = 7 ∨ j = 8 ∨ j = 9 ∨ j = 10 ∨ j = 11 ∨ j = 12 ∨ j = 13 ∨ j = 14 ∨ j = 15 ∨ j = 16 ∨ j = 17 ∨ j = 18 by omega) with rfl | rfl | rfl | rfl | rfl | rfl | rfl | rfl | rfl | rfl | rfl | rfl | rfl | rfl | rfl | rfl | rfl | rfl | rfl <;> rfl
theorem zdef_X4 : ∀ j, j < 8 → defaultValue (tyX4 j) = vp_V (zl 3) j := by
  intro j hj
  rcases (show j = 0 ∨ j = 1 ∨ j = 2 ∨ j = 3 ∨ j = 4 ∨ j = 5 ∨ j = 6 ∨ j = 7 by omega) with rfl | rfl | rfl | rfl | rfl | rfl | rfl | rfl <;> rfl
theorem zdef_X5 : ∀ j, j < 11 → defaultValue (tyX5 j) = vp_V (zl 4) j := by
  intro j hj
  rcases (show j = 0 ∨ j = 1 ∨ j = 2 ∨ j = 3 ∨ j = 4 ∨ j = 5 ∨ j = 6 ∨ j = 7 ∨ j = 8 ∨ j = 9 ∨ j = 10 by omega) with rfl | rfl | rfl | rfl | rfl | rfl | rfl | rfl | rfl | rfl | rfl <;> rfl
theorem zdef_X6 : ∀ j, j < 3 → defaultValue (tyX6 j) = vp_V (zl 5) j := by
  intro j hj
  rcases (show j = 0 ∨ j = 1 ∨ j = 2 by omega) with rfl | rfl | rfl <;> rfl
theorem zdef_X7 : ∀ j, j < 11 → defaultValue (tyX7 j) = vp_V (zl 6) j := by
  intro j hj
  rcases (show j = 0 ∨ j = 1 ∨ j = 2 ∨ j = 3 ∨ j = 4 ∨ j = 5 ∨ j = 6 ∨ j = 7 ∨ j = 8 ∨ j = 9 ∨ j = 10 by omega) with rfl | rfl | rfl | rfl | rfl | rfl | rfl | rfl | rfl | rfl | rfl <;> rfl
theorem zdef_X8 : ∀ j, j < 15 → defaultValue (tyX8 j) = vp_V (zl 7) j := by
  intro j hj
  rcases (show j = 0 ∨ j = 1 ∨ j = 2 ∨ j = 3 ∨ j = 4 ∨ j = 5 ∨ j = 6 ∨ j = 7 ∨ j = 8 ∨ j = 9 ∨ j = 10 ∨ j = 11 ∨ j = 12 ∨ j = 13 ∨ j = 14 by omega) with rfl | rfl | rfl | rfl | rfl | rfl | rfl | rfl | rfl | rfl | rfl | rfl | rfl | rfl | rfl <;> rfl
theorem zdef_X9 : ∀ j, j < 38 → defaultValue (tyX9 j) = vp_V (zl 8) j := by
  intro j hj
  rcases (show j = 0 ∨ j = 1 ∨ j = 2 ∨ j = 3 ∨ j = 4 ∨ j = 5 ∨ j = 6 ∨ j = 7 ∨ j = 8 ∨ j = 9 ∨ j = 10 ∨ j = 11 ∨ j = 12 ∨ j = 13 ∨ j = 14 ∨ j = 15 ∨ j = 16 ∨ j = 17 ∨ j = 18 ∨ j = 19 ∨ j = 20 ∨ j = 21 ∨ j = 22 ∨ j = 23 ∨ j = 24 ∨ j = 25 ∨ j = 26 ∨ j = 27 ∨ j = 28 ∨ j = 29 ∨ j = 30 ∨ j = 31 ∨ j = 32 ∨ j = 33 ∨ j = 34 ∨ j = 35 ∨ j = 36 ∨ j = 37 by omega) with rfl | rfl | rfl | rfl | rfl | rfl | rfl | rfl | rfl | rfl | rfl | rfl | rfl | rfl | rfl | rfl | rfl | rfl | rfl | rfl | rfl | rfl | rfl | rfl | rfl | rfl | rfl | rfl | rfl | rfl | rfl | rfl | rfl | rfl | rfl | rfl | rfl | rfl <;> rfl
theorem zobj_w : Cond.instanceMethod Lib.objectInit ∈ G0 ∧ Cond.code Lib.objectInit ⟨#[0xb1]⟩ 1 none ∈ G0 := ⟨(mG 174 (by decide +kernel) rfl), (mG 175 (by decide +kernel) rfl)⟩
theorem flo_X0_12 : FLo RX0 12 0 2 0 (.object "DowrySteps$Mountain") false := ⟨TX0, 7, 0, tyX0, rfl, inGX0, tyX0_ok, nmX0, by decide, rfl, rfl, rfl, rfl, rfl, by decide, mG 432 (by decide +kernel) rfl⟩
theorem flo_X0_18 : FLo RX0 18 5 2 0 (.array .int) true := ⟨TX0, 7, 5, tyX0, rfl, inGX0, tyX0_ok, nmX0, by decide, rfl, rfl, rfl, rfl, rfl, by decide, mG 437 (by decide +kernel) rfl⟩
theorem flo_X0_22 : FLo RX0 22 6 2 0 (.array .byte) true := ⟨TX0, 7, 6, tyX0, rfl, inGX0, tyX0_ok, nmX0, by decide, rfl, rfl, rfl, rfl, rfl, by decide, mG 438 (by decide +kernel) rfl⟩
theorem flo_X2_11 : FLo RX2 11 65 2 1 (.array .int) true := ⟨TX2, 5, 1, tyX2, rfl, inGX2, tyX2_ok, nmX2, by decide, rfl, rfl, rfl, rfl, rfl, by decide, mG 461 (by decide +kernel) rfl⟩
theorem flo_X2_15 : FLo RX2 15 66 2 1 (.array .int) true := ⟨TX2, 5, 2, tyX2, rfl, inGX2, tyX2_ok, nmX2, by decide, rfl, rfl, rfl, rfl, rfl, by decide, mG 462 (by decide +kernel) rfl⟩
theorem flo_X2_18 : FLo RX2 18 67 2 1 (.array .int) true := ⟨TX2, 5, 3, tyX2, rfl, inGX2, tyX2_ok, nmX2, by decide, rfl, rfl, rfl, rfl, rfl, by decide, mG 463 (by decide +kernel) rfl⟩
theorem flo_X2_21 : FLo RX2 21 68 2 1 (.array .int) true := ⟨TX2, 5, 4, tyX2, rfl, inGX2, tyX2_ok, nmX2, by decide, rfl, rfl, rfl, rfl, rfl, by decide, mG 464 (by decide +kernel) rfl⟩
theorem flo_X3_15 : FLo RX3 15 136 2 2 (.array .int) true := ⟨TX3, 19, 8, tyX3, rfl, inGX3, tyX3_ok, nmX3, by decide, rfl, rfl, rfl, rfl, rfl, by decide, mG 246 (by decide +kernel) rfl⟩
theorem flo_X3_18 : FLo RX3 18 137 2 2 (.array .int) true := ⟨TX3, 19, 9, tyX3, rfl, inGX3, tyX3_ok, nmX3, by decide, rfl, rfl, rfl, rfl, rfl, by decide, mG 249 (by decide +kernel) rfl⟩
theorem flo_X3_21 : FLo RX3 21 138 2 2 (.array .int) true := ⟨TX3, 19, 10, tyX3, rfl, inGX3, tyX3_ok, nmX3, by decide, rfl, rfl, rfl, rfl, rfl, by decide, mG 252 (by decide +kernel) rfl⟩
theorem flo_X3_24 : FLo RX3 24 139 2 2 (.array .int) true := ⟨TX3, 19, 11, tyX3, rfl, inGX3, tyX3_ok, nmX3, by decide, rfl, rfl, rfl, rfl, rfl, by decide, mG 256 (by decide +kernel) rfl⟩
theorem flo_X3_27 : FLo RX3 27 140 2 2 (.array .int) true := ⟨TX3, 19, 12, tyX3, rfl, inGX3, tyX3_ok, nmX3, by decide, rfl, rfl, rfl, rfl, rfl, by decide, mG 259 (by decide +kernel) rfl⟩
theorem flo_X3_30 : FLo RX3 30 141 2 2 (.array .int) true := ⟨TX3, 19, 13, tyX3, rfl, inGX3, tyX3_ok, nmX3, by decide, rfl, rfl, rfl, rfl, rfl, by decide, mG 262 (by decide +kernel) rfl⟩
theorem flo_X3_33 : FLo RX3 33 142 2 2 (.array .int) true := ⟨TX3, 19, 14, tyX3, rfl, inGX3, tyX3_ok, nmX3, by decide, rfl, rfl, rfl, rfl, rfl, by decide, mG 265 (by decide +kernel) rfl⟩
theorem flo_X3_36 : FLo RX3 36 143 2 2 (.array .int) true := ⟨TX3, 19, 15, tyX3, rfl, inGX3, tyX3_ok, nmX3, by decide, rfl, rfl, rfl, rfl, rfl, by decide, mG 269 (by decide +kernel) rfl⟩
theorem flo_X3_39 : FLo RX3 39 144 2 2 (.array .int) true := ⟨TX3, 19, 16, tyX3, rfl, inGX3, tyX3_ok, nmX3, by decide, rfl, rfl, rfl, rfl, rfl, by decide, mG 272 (by decide +kernel) rfl⟩
theorem flo_X3_42 : FLo RX3 42 145 2 2 (.array .int) true := ⟨TX3, 19, 17, tyX3, rfl, inGX3, tyX3_ok, nmX3, by decide, rfl, rfl, rfl, rfl, rfl, by decide, mG 274 (by decide +kernel) rfl⟩
theorem flo_X3_45 : FLo RX3 45 146 2 2 (.array .int) true := ⟨TX3, 19, 18, tyX3, rfl, inGX3, tyX3_ok, nmX3, by decide, rfl, rfl, rfl, rfl, rfl, by decide, mG 279 (by decide +kernel) rfl⟩
theorem flo_X3_9 : FLo RX3 9 135 2 2 (.array .int) true := ⟨TX3, 19, 7, tyX3, rfl, inGX3, tyX3_ok, nmX3, by decide, rfl, rfl, rfl, rfl, rfl, by decide, mG 243 (by decide +kernel) rfl⟩
theorem flo_X4_15 : FLo RX4 15 193 0 3 .int false := ⟨TX4, 8, 1, tyX4, rfl, inGX4, tyX4_ok, nmX4, by decide, rfl, rfl, rfl, rfl, rfl, by decide, mG 183 (by decide +kernel) rfl⟩
theorem flo_X4_19 : FLo RX4 19 194 0 3 .int false := ⟨TX4, 8, 2, tyX4, rfl, inGX4, tyX4_ok, nmX4, by decide, rfl, rfl, rfl, rfl, rfl, by decide, mG 184 (by decide +kernel) rfl⟩
theorem flo_X4_22 : FLo RX4 22 195 0 3 .int false := ⟨TX4, 8, 3, tyX4, rfl, inGX4, tyX4_ok, nmX4, by decide, rfl, rfl, rfl, rfl, rfl, by decide, mG 185 (by decide +kernel) rfl⟩
theorem flo_X4_25 : FLo RX4 25 196 0 3 .int false := ⟨TX4, 8, 4, tyX4, rfl, inGX4, tyX4_ok, nmX4, by decide, rfl, rfl, rfl, rfl, rfl, by decide, mG 186 (by decide +kernel) rfl⟩
theorem flo_X4_28 : FLo RX4 28 197 0 3 .int false := ⟨TX4, 8, 5, tyX4, rfl, inGX4, tyX4_ok, nmX4, by decide, rfl, rfl, rfl, rfl, rfl, by decide, mG 187 (by decide +kernel) rfl⟩
theorem flo_X4_31 : FLo RX4 31 198 0 3 .int false := ⟨TX4, 8, 6, tyX4, rfl, inGX4, tyX4_ok, nmX4, by decide, rfl, rfl, rfl, rfl, rfl, by decide, mG 188 (by decide +kernel) rfl⟩
theorem flo_X4_34 : FLo RX4 34 199 0 3 .int false := ⟨TX4, 8, 7, tyX4, rfl, inGX4, tyX4_ok, nmX4, by decide, rfl, rfl, rfl, rfl, rfl, by decide, mG 190 (by decide +kernel) rfl⟩
theorem flo_X4_9 : FLo RX4 9 192 2 3 (.array .byte) false := ⟨TX4, 8, 0, tyX4, rfl, inGX4, tyX4_ok, nmX4, by decide, rfl, rfl, rfl, rfl, rfl, by decide, mG 182 (by decide +kernel) rfl⟩
theorem flo_X5_15 : FLo RX5 15 258 2 4 (.array .long) true := ⟨TX5, 11, 2, tyX5, rfl, inGX5, tyX5_ok, nmX5, by decide, rfl, rfl, rfl, rfl, rfl, by decide, mG 384 (by decide +kernel) rfl⟩
theorem flo_X5_19 : FLo RX5 19 259 2 4 (.array .long) true := ⟨TX5, 11, 3, tyX5, rfl, inGX5, tyX5_ok, nmX5, by decide, rfl, rfl, rfl, rfl, rfl, by decide, mG 385 (by decide +kernel) rfl⟩
theorem flo_X5_22 : FLo RX5 22 260 2 4 (.array .int) true := ⟨TX5, 11, 4, tyX5, rfl, inGX5, tyX5_ok, nmX5, by decide, rfl, rfl, rfl, rfl, rfl, by decide, mG 386 (by decide +kernel) rfl⟩
theorem flo_X5_25 : FLo RX5 25 261 2 4 (.array .int) true := ⟨TX5, 11, 5, tyX5, rfl, inGX5, tyX5_ok, nmX5, by decide, rfl, rfl, rfl, rfl, rfl, by decide, mG 387 (by decide +kernel) rfl⟩
theorem flo_X5_28 : FLo RX5 28 265 2 4 (.array .int) true := ⟨TX5, 11, 9, tyX5, rfl, inGX5, tyX5_ok, nmX5, by decide, rfl, rfl, rfl, rfl, rfl, by decide, mG 394 (by decide +kernel) rfl⟩
theorem flo_X5_31 : FLo RX5 31 266 2 4 (.array .int) true := ⟨TX5, 11, 10, tyX5, rfl, inGX5, tyX5_ok, nmX5, by decide, rfl, rfl, rfl, rfl, rfl, by decide, mG 396 (by decide +kernel) rfl⟩
theorem flo_X5_9 : FLo RX5 9 257 2 4 (.array .int) true := ⟨TX5, 11, 1, tyX5, rfl, inGX5, tyX5_ok, nmX5, by decide, rfl, rfl, rfl, rfl, rfl, by decide, mG 383 (by decide +kernel) rfl⟩
theorem flo_X6_15 : FLo RX6 15 321 0 5 .int false := ⟨TX6, 3, 1, tyX6, rfl, inGX6, tyX6_ok, nmX6, by decide, rfl, rfl, rfl, rfl, rfl, by decide, mG 483 (by decide +kernel) rfl⟩
theorem flo_X6_18 : FLo RX6 18 322 2 5 (.array .long) true := ⟨TX6, 3, 2, tyX6, rfl, inGX6, tyX6_ok, nmX6, by decide, rfl, rfl, rfl, rfl, rfl, by decide, mG 485 (by decide +kernel) rfl⟩
theorem flo_X6_9 : FLo RX6 9 320 0 5 .int false := ⟨TX6, 3, 0, tyX6, rfl, inGX6, tyX6_ok, nmX6, by decide, rfl, rfl, rfl, rfl, rfl, by decide, mG 481 (by decide +kernel) rfl⟩
theorem flo_X7_12 : FLo RX7 12 384 2 6 (.object "DowrySteps$Mountain") false := ⟨TX7, 11, 0, tyX7, rfl, inGX7, tyX7_ok, nmX7, by decide, rfl, rfl, rfl, rfl, rfl, by decide, mG 335 (by decide +kernel) rfl⟩
theorem flo_X7_18 : FLo RX7 18 388 2 6 (.array .int) true := ⟨TX7, 11, 4, tyX7, rfl, inGX7, tyX7_ok, nmX7, by decide, rfl, rfl, rfl, rfl, rfl, by decide, mG 339 (by decide +kernel) rfl⟩
theorem flo_X7_22 : FLo RX7 22 391 2 6 (.array .int) true := ⟨TX7, 11, 7, tyX7, rfl, inGX7, tyX7_ok, nmX7, by decide, rfl, rfl, rfl, rfl, rfl, by decide, mG 344 (by decide +kernel) rfl⟩
theorem flo_X7_25 : FLo RX7 25 394 2 6 (.array .int) true := ⟨TX7, 11, 10, tyX7, rfl, inGX7, tyX7_ok, nmX7, by decide, rfl, rfl, rfl, rfl, rfl, by decide, mG 350 (by decide +kernel) rfl⟩
theorem flo_X8_13 : FLo RX8 13 449 0 7 .int false := ⟨TX8, 15, 1, tyX8, rfl, inGX8, tyX8_ok, nmX8, by decide, rfl, rfl, rfl, rfl, rfl, by decide, mG 495 (by decide +kernel) rfl⟩
theorem flo_X8_20 : FLo RX8 20 450 2 7 (.object "DowrySteps$Reader") true := ⟨TX8, 15, 2, tyX8, rfl, inGX8, tyX8_ok, nmX8, by decide, rfl, rfl, rfl, rfl, rfl, by decide, mG 496 (by decide +kernel) rfl⟩
theorem flo_X8_27 : FLo RX8 27 451 2 7 (.object "DowrySteps$Mountain") false := ⟨TX8, 15, 3, tyX8, rfl, inGX8, tyX8_ok, nmX8, by decide, rfl, rfl, rfl, rfl, rfl, by decide, mG 497 (by decide +kernel) rfl⟩
theorem flo_X8_31 : FLo RX8 31 452 2 7 (.object "DowrySteps$Mountain") false := ⟨TX8, 15, 4, tyX8, rfl, inGX8, tyX8_ok, nmX8, by decide, rfl, rfl, rfl, rfl, rfl, by decide, mG 498 (by decide +kernel) rfl⟩
theorem flo_X8_34 : FLo RX8 34 453 2 7 (.array (.object "DowrySteps$Mountain")) true := ⟨TX8, 15, 5, tyX8, rfl, inGX8, tyX8_ok, nmX8, by decide, rfl, rfl, rfl, rfl, rfl, by decide, mG 499 (by decide +kernel) rfl⟩
theorem flo_X8_38 : FLo RX8 38 454 2 7 (.array .boolean) true := ⟨TX8, 15, 6, tyX8, rfl, inGX8, tyX8_ok, nmX8, by decide, rfl, rfl, rfl, rfl, rfl, by decide, mG 500 (by decide +kernel) rfl⟩
theorem flo_X8_44 : FLo RX8 44 455 2 7 (.array (.object "DowrySteps$Slot")) true := ⟨TX8, 15, 7, tyX8, rfl, inGX8, tyX8_ok, nmX8, by decide, rfl, rfl, rfl, rfl, rfl, by decide, mG 501 (by decide +kernel) rfl⟩
theorem flo_X8_51 : FLo RX8 51 456 2 7 (.object "DowrySteps$Ways") true := ⟨TX8, 15, 8, tyX8, rfl, inGX8, tyX8_ok, nmX8, by decide, rfl, rfl, rfl, rfl, rfl, by decide, mG 502 (by decide +kernel) rfl⟩
theorem flo_X8_58 : FLo RX8 58 457 2 7 (.object "DowrySteps$Search") true := ⟨TX8, 15, 9, tyX8, rfl, inGX8, tyX8_ok, nmX8, by decide, rfl, rfl, rfl, rfl, rfl, by decide, mG 503 (by decide +kernel) rfl⟩
theorem flo_X8_65 : FLo RX8 65 458 2 7 (.object "DowrySteps$Coming") true := ⟨TX8, 15, 10, tyX8, rfl, inGX8, tyX8_ok, nmX8, by decide, rfl, rfl, rfl, rfl, rfl, by decide, mG 504 (by decide +kernel) rfl⟩
theorem flo_X8_72 : FLo RX8 72 459 2 7 (.object "DowrySteps$Measuring") true := ⟨TX8, 15, 11, tyX8, rfl, inGX8, tyX8_ok, nmX8, by decide, rfl, rfl, rfl, rfl, rfl, by decide, mG 505 (by decide +kernel) rfl⟩
theorem flo_X8_76 : FLo RX8 76 460 2 7 (.array .int) true := ⟨TX8, 15, 12, tyX8, rfl, inGX8, tyX8_ok, nmX8, by decide, rfl, rfl, rfl, rfl, rfl, by decide, mG 506 (by decide +kernel) rfl⟩
theorem flo_X8_80 : FLo RX8 80 461 2 7 (.array .int) true := ⟨TX8, 15, 13, tyX8, rfl, inGX8, tyX8_ok, nmX8, by decide, rfl, rfl, rfl, rfl, rfl, by decide, mG 507 (by decide +kernel) rfl⟩
theorem flo_X8_83 : FLo RX8 83 462 2 7 (.array .int) true := ⟨TX8, 15, 14, tyX8, rfl, inGX8, tyX8_ok, nmX8, by decide, rfl, rfl, rfl, rfl, rfl, by decide, mG 508 (by decide +kernel) rfl⟩
theorem flo_X8_9 : FLo RX8 9 448 2 7 (.array .byte) true := ⟨TX8, 15, 0, tyX8, rfl, inGX8, tyX8_ok, nmX8, by decide, rfl, rfl, rfl, rfl, rfl, by decide, mG 494 (by decide +kernel) rfl⟩
theorem flo_X9_13 : FLo RX9 13 514 2 8 (.array .int) true := ⟨TX9, 38, 2, tyX9, rfl, inGX9, tyX9_ok, nmX9, by decide, rfl, rfl, rfl, rfl, rfl, by decide, mG 1262 (by decide +kernel) rfl⟩
theorem flo_X9_16 : FLo RX9 16 515 2 8 (.array .boolean) true := ⟨TX9, 38, 3, tyX9, rfl, inGX9, tyX9_ok, nmX9, by decide, rfl, rfl, rfl, rfl, rfl, by decide, mG 1263 (by decide +kernel) rfl⟩
theorem flo_X9_20 : FLo RX9 20 516 2 8 (.array .byte) true := ⟨TX9, 38, 4, tyX9, rfl, inGX9, tyX9_ok, nmX9, by decide, rfl, rfl, rfl, rfl, rfl, by decide, mG 1264 (by decide +kernel) rfl⟩
theorem flo_X9_24 : FLo RX9 24 518 2 8 (.array .int) true := ⟨TX9, 38, 6, tyX9, rfl, inGX9, tyX9_ok, nmX9, by decide, rfl, rfl, rfl, rfl, rfl, by decide, mG 1266 (by decide +kernel) rfl⟩
theorem flo_X9_27 : FLo RX9 27 525 0 8 .int false := ⟨TX9, 38, 13, tyX9, rfl, inGX9, tyX9_ok, nmX9, by decide, rfl, rfl, rfl, rfl, rfl, by decide, mG 1273 (by decide +kernel) rfl⟩
theorem flo_X9_31 : FLo RX9 31 526 2 8 (.array .int) true := ⟨TX9, 38, 14, tyX9, rfl, inGX9, tyX9_ok, nmX9, by decide, rfl, rfl, rfl, rfl, rfl, by decide, mG 1274 (by decide +kernel) rfl⟩
theorem flo_X9_34 : FLo RX9 34 527 0 8 .int false := ⟨TX9, 38, 15, tyX9, rfl, inGX9, tyX9_ok, nmX9, by decide, rfl, rfl, rfl, rfl, rfl, by decide, mG 1275 (by decide +kernel) rfl⟩
theorem flo_X9_37 : FLo RX9 37 529 2 8 (.array .int) true := ⟨TX9, 38, 17, tyX9, rfl, inGX9, tyX9_ok, nmX9, by decide, rfl, rfl, rfl, rfl, rfl, by decide, mG 1277 (by decide +kernel) rfl⟩
theorem flo_X9_40 : FLo RX9 40 530 2 8 (.array .int) true := ⟨TX9, 38, 18, tyX9, rfl, inGX9, tyX9_ok, nmX9, by decide, rfl, rfl, rfl, rfl, rfl, by decide, mG 1278 (by decide +kernel) rfl⟩
theorem flo_X9_43 : FLo RX9 43 531 2 8 (.array .long) true := ⟨TX9, 38, 19, tyX9, rfl, inGX9, tyX9_ok, nmX9, by decide, rfl, rfl, rfl, rfl, rfl, by decide, mG 1279 (by decide +kernel) rfl⟩
theorem flo_X9_47 : FLo RX9 47 533 2 8 (.array .int) true := ⟨TX9, 38, 21, tyX9, rfl, inGX9, tyX9_ok, nmX9, by decide, rfl, rfl, rfl, rfl, rfl, by decide, mG 1281 (by decide +kernel) rfl⟩
theorem flo_X9_50 : FLo RX9 50 535 2 8 (.array .int) true := ⟨TX9, 38, 23, tyX9, rfl, inGX9, tyX9_ok, nmX9, by decide, rfl, rfl, rfl, rfl, rfl, by decide, mG 1283 (by decide +kernel) rfl⟩
theorem flo_X9_53 : FLo RX9 53 538 2 8 (.array .int) true := ⟨TX9, 38, 26, tyX9, rfl, inGX9, tyX9_ok, nmX9, by decide, rfl, rfl, rfl, rfl, rfl, by decide, mG 1286 (by decide +kernel) rfl⟩
theorem flo_X9_56 : FLo RX9 56 542 2 8 (.array .int) true := ⟨TX9, 38, 30, tyX9, rfl, inGX9, tyX9_ok, nmX9, by decide, rfl, rfl, rfl, rfl, rfl, by decide, mG 1290 (by decide +kernel) rfl⟩
theorem flo_X9_59 : FLo RX9 59 543 2 8 (.array .int) true := ⟨TX9, 38, 31, tyX9, rfl, inGX9, tyX9_ok, nmX9, by decide, rfl, rfl, rfl, rfl, rfl, by decide, mG 1291 (by decide +kernel) rfl⟩
theorem flo_X9_62 : FLo RX9 62 544 2 8 (.array .int) true := ⟨TX9, 38, 32, tyX9, rfl, inGX9, tyX9_ok, nmX9, by decide, rfl, rfl, rfl, rfl, rfl, by decide, mG 1292 (by decide +kernel) rfl⟩
theorem flo_X9_65 : FLo RX9 65 546 2 8 (.array .int) true := ⟨TX9, 38, 34, tyX9, rfl, inGX9, tyX9_ok, nmX9, by decide, rfl, rfl, rfl, rfl, rfl, by decide, mG 1294 (by decide +kernel) rfl⟩
theorem flo_X9_68 : FLo RX9 68 547 2 8 (.array .int) true := ⟨TX9, 38, 35, tyX9, rfl, inGX9, tyX9_ok, nmX9, by decide, rfl, rfl, rfl, rfl, rfl, by decide, mG 1295 (by decide +kernel) rfl⟩
theorem flo_X9_71 : FLo RX9 71 548 2 8 (.array .long) true := ⟨TX9, 38, 36, tyX9, rfl, inGX9, tyX9_ok, nmX9, by decide, rfl, rfl, rfl, rfl, rfl, by decide, mG 1296 (by decide +kernel) rfl⟩
theorem flo_X9_74 : FLo RX9 74 549 2 8 (.array .long) true := ⟨TX9, 38, 37, tyX9, rfl, inGX9, tyX9_ok, nmX9, by decide, rfl, rfl, rfl, rfl, rfl, by decide, mG 1297 (by decide +kernel) rfl⟩
theorem flo_X9_9 : FLo RX9 9 513 2 8 (.array .int) true := ⟨TX9, 38, 1, tyX9, rfl, inGX9, tyX9_ok, nmX9, by decide, rfl, rfl, rfl, rfl, rfl, by decide, mG 1261 (by decide +kernel) rfl⟩
