/-! THE MACHINE IN ONE JUDGEMENT: the world as six tables of numbers; Gd: what is left to compute, against what the machine is left to do -/
abbrev WS : Type := (Nat → Nat → Int32) × (Nat → Nat → Int64) × (Nat → Nat → Option Nat) × (Nat → Nat → Int32) × (Nat → Nat → Int64) × (Nat → Nat → Option Nat)
def gi (S : WS) (f a : Nat) : Int32 := S.1 f a
def gj (S : WS) (f a : Nat) : Int64 := S.2.1 f a
def gr (S : WS) (f a : Nat) : Option Nat := S.2.2.1 f a
def ai (S : WS) (a : Nat) : Nat → Int32 := S.2.2.2.1 a
def aj (S : WS) (a : Nat) : Nat → Int64 := S.2.2.2.2.1 a
def ar (S : WS) (a : Nat) : Nat → Option Nat := S.2.2.2.2.2 a
def u2 {α : Type} (m : Nat → Nat → α) (f a : Nat) (v : α) : Nat → Nat → α := fun g b => if g = f ∧ b = a then v else m g b
def u1 {α : Type} (m : Nat → α) (a : Nat) (v : α) : Nat → α := fun b => if b = a then v else m b
def si (S : WS) (f a : Nat) (v : Int32) : WS := (u2 S.1 f a v, S.2)
def sj (S : WS) (f a : Nat) (v : Int64) : WS := (S.1, u2 S.2.1 f a v, S.2.2)
def sr (S : WS) (f a : Nat) (v : Option Nat) : WS := (S.1, S.2.1, u2 S.2.2.1 f a v, S.2.2.2)
def wi (S : WS) (a : Nat) (g : Nat → Int32) : WS := (S.1, S.2.1, S.2.2.1, u1 S.2.2.2.1 a g, S.2.2.2.2)
def wj (S : WS) (a : Nat) (g : Nat → Int64) : WS := (S.1, S.2.1, S.2.2.1, S.2.2.2.1, u1 S.2.2.2.2.1 a g, S.2.2.2.2.2)
def wr (S : WS) (a : Nat) (g : Nat → Option Nat) : WS := (S.1, S.2.1, S.2.2.1, S.2.2.2.1, S.2.2.2.2.1, u1 S.2.2.2.2.2 a g)
/-- the kinds of the fields of a class: 0 int, 1 long, 2 a reference; field k of class ci has the number 64 * ci + k -/
def tg : Nat → List Nat
  | 0 => [2, 0, 0, 0, 0, 2, 2]
  | 1 => [0, 2, 2, 2, 2]
  | 2 => [0, 0, 0, 0, 0, 0, 0, 2, 2, 2, 2, 2, 2, 2, 2, 2, 2, 2, 2]
  | 3 => [2, 0, 0, 0, 0, 0, 0, 0]
  | 4 => [0, 2, 2, 2, 2, 2, 0, 0, 0, 2, 2]
  | 5 => [0, 0, 2]
  | 6 => [2, 0, 0, 0, 2, 0, 0, 2, 0, 1, 2]
  | 7 => [2, 0, 2, 2, 2, 2, 2, 2, 2, 2, 2, 2, 2, 2, 2]
  | 8 => [0, 2, 2, 2, 2, 0, 2, 0, 0, 0, 0, 0, 0, 0, 2, 0, 0, 2, 2, 2, 0, 2, 0, 2, 0, 1, 2, 0, 0, 0, 2, 2, 2, 1, 2, 2, 2, 2]
  | _ => []
/-- of what kind is the cell that a field refers to -/
def rk : Nat → Nat
  | 0 => 2 | 5 => 10 | 6 => 9
  | 65 => 10 | 66 => 10 | 67 => 10 | 68 => 10
  | 135 => 10 | 136 => 10 | 137 => 10 | 138 => 10 | 139 => 10 | 140 => 10 | 141 => 10 | 142 => 10 | 143 => 10 | 144 => 10 | 145 => 10 | 146 => 10
  | 192 => 9
  | 257 => 10 | 258 => 11 | 259 => 11 | 260 => 10 | 261 => 10 | 265 => 10 | 266 => 10
  | 322 => 11
  | 384 => 2 | 388 => 10 | 391 => 10 | 394 => 10
  | 448 => 9 | 450 => 3 | 451 => 2 | 452 => 2 | 453 => 13 | 454 => 12 | 455 => 14 | 456 => 6 | 457 => 4 | 458 => 0 | 459 => 1 | 460 => 10 | 461 => 10 | 462 => 10
  | 513 => 10 | 514 => 10 | 515 => 12 | 516 => 9 | 518 => 10 | 526 => 10 | 529 => 10 | 530 => 10 | 531 => 11 | 533 => 10 | 535 => 10 | 538 => 10 | 542 => 10 | 543 => 10 | 544 => 10 | 546 => 10 | 547 => 10 | 548 => 11 | 549 => 11
  | _ => 99
def fv (S : WS) (t f a : Nat) : Value := if t = 0 then .int (gi S f a) else if t = 1 then .long (gj S f a) else va_rf (gr S f a)
def ob (S : WS) (ci a : Nat) : List Value := (tg ci).mapIdx (fun k t => fv S t (64 * ci + k) a)
abbrev EN : Type := va_G × (Nat → ClassId) × List Nat × (Nat → Nat) × (Nat → Nat) × (Nat → Nat) × (Nat → Nat) × Nat
abbrev eD (E : EN) : va_G := E.1
abbrev eC (E : EN) : Nat → ClassId := E.2.1
abbrev eL (E : EN) : List Nat := E.2.2.1
def eK (E : EN) : Nat → Nat := E.2.2.2.1
def eN (E : EN) : Nat → Nat := E.2.2.2.2.1
abbrev eSK (E : EN) : Nat → Nat := E.2.2.2.2.2.1
abbrev eSV (E : EN) : Nat → Nat := E.2.2.2.2.2.2.1
/-- where the world begins: all below is the start's -/
abbrev eW (E : EN) : Nat := E.2.2.2.2.2.2.2
def Ty (E : EN) (a k : Nat) : Prop := a ∈ eL E ∧ eK E a = k
def ct (E : EN) (S : WS) (a : Nat) : (Nat → Int32) ⊕ (Nat → Int64) ⊕ (Nat → UInt32) ⊕ (Nat → UInt64) ⊕ (Nat → Option Nat) :=
  if eK E a = 11 then .inr (.inl (aj S a)) else if eK E a < 13 then .inl (ai S a) else .inr (.inr (.inr (.inr (ar S a))))
def ce (E : EN) (S : WS) (a : Nat) : va_E := if eK E a < 9 then .inr (eK E a, ob S (eK E a) a) else .inl (eC E (eK E a), eN E a, ct E S a)
def WT (E : EN) (S : WS) : Prop :=
  (∀ f a b : Nat, a ∈ eL E → eK E a = f / 64 → gr S f a = some b → Ty E b (rk f)) ∧ (∀ a i b : Nat, a ∈ eL E → eK E a = 13 → ar S a i = some b → Ty E b 2) ∧ (∀ a i b : Nat, a ∈ eL E → eK E a = 14 → ar S a i = some b → Ty E b 5)
def Wd (E : EN) (S : WS) (H : Heap) : Prop := va_P (eD E) vwCl (va_pl (eL E) (ce E S)) H ∧ WT E S
def tys (E : EN) : List (ClassId × FieldType) := [(eC E 9, .byte), (eC E 10, .int), (eC E 11, .long), (eC E 12, .boolean), (eC E 13, .object "DowrySteps$Mountain"), (eC E 14, .object "DowrySteps$Slot")]
/-- the words: those that every world keeps, and those of the nest -/
def isNest : Cond → Bool
  | .fieldLinkNest _ _ _ _ _ _ => true
  | .methodLinkNest _ _ _ _ => true
  | .declares _ => true
  | _ => false
def G0 : List Cond := lw_tbl.filter goodWord
def N0 : List Cond := lw_tbl.filter isNest
theorem mG {w : Cond} (i : Nat) (h : lw_tbl[i]? = some w) (hg : goodWord w = true) : w ∈ G0 := List.mem_filter.mpr ⟨List.mem_of_getElem? h, hg⟩
theorem mN {w : Cond} (i : Nat) (h : lw_tbl[i]? = some w) (hg : isNest w = true) : w ∈ N0 := List.mem_filter.mpr ⟨List.mem_of_getElem? h, hg⟩
theorem G0_good : GoodIn G0 G0 := fun _ hw => ⟨hw, good_of_word (List.mem_filter.mp hw).2⟩
def Nw (U : State) : Prop := ∀ w ∈ N0, va_Nw w U
theorem Nw.warm {s U : State} (hW : s.WarmedH U.vm) (h : Nw s) : Nw U := by
  intro w hw
  have h1 := h w hw
  have h2 := (List.mem_filter.mp hw).2
  cases w <;> first | exact va_Nw.warmF hW h1 | exact va_Nw.warmM hW h1 | exact va_Nw.warmD hW h1 | cases h2
theorem Nw.same {u U : State} (hv : u.vm = U.vm) (h : Nw u) : Nw U := by
  intro w hw
  have h1 := h w hw
  have h2 := (List.mem_filter.mp hw).2
  refine va_Nw.same ?_ hv h1
  cases w <;> first | rfl | cases h2
/-! the text constants -/
def sNum : Nat := 18
def sLen : List Nat := [8, 6, 5, 6, 4, 2, 5, 2, 6, 5, 5, 3, 4, 2, 6, 4, 2, 5]
def sByt : List (List Int32) := [[109, 111, 117, 110, 116, 97, 105, 110], [112, 108, 97, 99, 101, 115], [121, 101, 97, 114, 115], [104, 101, 105, 103, 104, 116], [112, 97, 116, 104], [116, 111], [98, 114, 105, 100, 101], [105, 110], [115, 117, 105, 116, 111, 114], [115, 107, 105, 108, 108], [115, 112, 105, 116, 101], [102, 111, 114], [114, 97, 105, 110], [105, 115], [119, 97, 108, 107, 101, 114], [108, 101, 97, 112], [97, 116], [99, 111, 117, 114, 116]]
def sTab : List (String × Nat × String × Nat) := [("DowrySteps$Reader", 83, "mountain", 0), ("DowrySteps$Reader", 135, "places", 1), ("DowrySteps$Reader", 143, "years", 2), ("DowrySteps$Reader", 88, "height", 3), ("DowrySteps$Reader", 93, "path", 4), ("DowrySteps$Reader", 153, "to", 5), ("DowrySteps$Reader", 101, "bride", 6), ("DowrySteps$Reader", 164, "in", 7), ("DowrySteps$Reader", 109, "suitor", 8), ("DowrySteps$Reader", 172, "skill", 9), ("DowrySteps$Reader", 174, "spite", 10), ("DowrySteps$Reader", 176, "for", 11), ("DowrySteps$Reader", 117, "rain", 12), ("DowrySteps$Reader", 189, "is", 13), ("DowrySteps$Reader", 122, "walker", 14), ("DowrySteps$Reader", 193, "leap", 15), ("DowrySteps$Reader", 195, "at", 16), ("DowrySteps$Reader", 130, "court", 17), ("DowryStepsModel", 223, "mountain", 0), ("DowryStepsModel", 225, "places", 1), ("DowryStepsModel", 226, "years", 2), ("DowryStepsModel", 192, "height", 3), ("DowryStepsModel", 179, "path", 4), ("DowryStepsModel", 194, "bride", 6), ("DowryStepsModel", 196, "suitor", 8), ("DowryStepsModel", 198, "rain", 12), ("DowryStepsModel", 200, "walker", 14), ("DowryStepsModel", 202, "court", 17), ("DowryStepsModel", 173, "to", 5), ("DowryStepsModel", 185, "in", 7), ("DowryStepsModel", 186, "skill", 9), ("DowryStepsModel", 188, "spite", 10), ("DowryStepsModel", 190, "for", 11), ("DowryStepsModel", 216, "is", 13), ("DowryStepsModel", 217, "leap", 15), ("DowryStepsModel", 219, "at", 16)]
/-- the text constants: strings that lie outside the world; which constant of which pool is which -/
def Sx (E : EN) (U : State) : Prop := vk_S sNum sLen sByt (eSK E) (eSV E) (fun q => eW E ≤ q) U U.heap ∧ (∀ (own : String) (k : Nat) (tx : String) (i : Nat), (own, k, tx, i) ∈ sTab → vk_R own k tx (eSK E i) U) ∧ va_Z "java/lang/String" "COMPACT_STRINGS" "Z" (.int 1) (fun q => eW E ≤ q) U U.heap ∧ va_Zq "jdk/internal/util/Preconditions" "SIOOBE_FORMATTER" "Ljava/util/function/BiFunction;" (fun q => eW E ≤ q) U U.heap
def Bg (E : EN) (S : WS) (U : State) : Prop := Wd E S U.heap ∧ va_K (eD E) vwCl (tys E) U ∧ Nw U ∧ (eL E).Nodup ∧ Sx E U ∧ (∀ q ∈ eL E, eW E ≤ q) ∧ eW E ≤ U.heap.size
abbrev AM : Type := Program × Launch × Env × Room × State × MethodId × Array Value × List Frame × Method × Code × (Nat → Prop) × Nat × Nat
abbrev amp (A : AM) : Program := A.1
abbrev aml (A : AM) : Launch := A.2.1
abbrev ame (A : AM) : Env := A.2.2.1
abbrev amR (A : AM) : Room := A.2.2.2.1
abbrev ams (A : AM) : State := A.2.2.2.2.1
abbrev amm (A : AM) : MethodId := A.2.2.2.2.2.1
abbrev ama (A : AM) : Array Value := A.2.2.2.2.2.2.1
abbrev amb (A : AM) : List Frame := A.2.2.2.2.2.2.2.1
abbrev amt (A : AM) : Method := A.2.2.2.2.2.2.2.2.1
abbrev amc (A : AM) : Code := A.2.2.2.2.2.2.2.2.2.1
abbrev amF (A : AM) : Nat → Prop := A.2.2.2.2.2.2.2.2.2.2.1
abbrev amk (A : AM) : Nat := A.2.2.2.2.2.2.2.2.2.2.2.1
abbrev amn (A : AM) : Nat := A.2.2.2.2.2.2.2.2.2.2.2.2
def Gd {ρ : Type} (A : AM) (E : EN) (nL : Nat) (Qf : ρ × WS → State → Prop) (o : Option (ρ × WS)) (S : WS) (pc : Nat) (ls : List (Nat × Value)) (st : List Value) : Prop :=
  ∀ (H : Heap) (locs : List Loc) (la : Array Slot), Wd E S H → va_S (amF A) (ams A).heap H locs → lv_has la nL ls →
    W (amp A) (aml A) (ame A) (amR A) (ams A) (amm A) (ama A) (amb A) (amt A) (amc A) H locs (amk A) (amn A) (fun t => ∀ x, o = some x → Qf x t) (F0 (amm A) pc la st)
/-- what stands throughout a method's walk -/
abbrev Cx (A : AM) (E : EN) (cc : ByteArray) (nL : Nat) (own : String) (fr lo : Nat) : Prop :=
  (amp A).tables.exec = Jvm.exec ∧ (amc A).code = cc ∧ (amc A).maxLocals = nL ∧ (ams A).vm.findClass own = some (amm A).cls ∧ (∀ w ∈ G0, w.before (ama A) (ams A) = true) ∧ va_K (eD E) vwCl (tys E) (ams A) ∧ Nw (ams A) ∧ (eL E).Nodup ∧ (∀ q ∈ eL E, amF A q) ∧ fr ≤ (amR A).frames ∧ lo ≤ (amR A).locals ∧ amk A ≤ (amR A).cells ∧ amn A ≤ (amR A).slots ∧ Sx E (ams A) ∧ (amF A = fun q => eW E ≤ q) ∧ (∀ q ∈ eL E, eW E ≤ q) ∧ eW E ≤ (ams A).heap.size
def lt {α β : Type} (v : α) (k : α → β) : β := k v
def bd {ρ β : Type} (o : Option (ρ × WS)) (k : ρ → WS → Option β) : Option β := match o with
  | none => none
  | some x => k x.1 x.2
section ROWS
variable {A : AM} {E : EN} {nL : Nat} {ρ : Type} {Qf : ρ × WS → State → Prop} {o : Option (ρ × WS)} {S : WS} {pc : Nat} {ls : List (Nat × Value)} {st : List Value} {cc : ByteArray} {own : String} {fr lo : Nat}
theorem gn : Gd A E nL Qf none S pc ls st := by
  intro H locs la _ _ _ T _ _
  exact ⟨_, Steps.refl _, fun x h => by cases h⟩
theorem r_nm {β : Type} {v : β} {k : β → Option (ρ × WS)} (g : ∀ x, Gd A E nL Qf (k x) S pc ls st) : Gd A E nL Qf (lt v k) S pc ls st := g v
theorem r_topi {v : Int32} {k : Int32 → Option (ρ × WS)} (g : ∀ x, Gd A E nL Qf (k x) S pc ls (.int x :: st)) : Gd A E nL Qf (lt v k) S pc ls (.int v :: st) := g v
theorem r_topl {v : Int64} {k : Int64 → Option (ρ × WS)} (g : ∀ x, Gd A E nL Qf (k x) S pc ls (.long x :: st)) : Gd A E nL Qf (lt v k) S pc ls (.long v :: st) := g v
theorem r_iconst (C : Cx A E cc nL own fr lo) {n : Int} (v : Int32) (d : decode cc pc = .ok (.iconst n, 1)) (hv : Int32.ofInt n = v) (g : Gd A E nL Qf o S (pc + 1) ls (.int v :: st)) : Gd A E nL Qf o S pc ls st := fun H locs la a b c => lv_iconst C.1 C.2.1 d hv (g H locs la a b c)
theorem r_bipush (C : Cx A E cc nL own fr lo) {n : Int} (v : Int32) (d : decode cc pc = .ok (.bipush n, 2)) (hv : (Int8.ofInt n).toInt32 = v) (g : Gd A E nL Qf o S (pc + 2) ls (.int v :: st)) : Gd A E nL Qf o S pc ls st := fun H locs la a b c => lv_bipush C.1 C.2.1 d hv (g H locs la a b c)
theorem r_sipush (C : Cx A E cc nL own fr lo) {n : Int} (v : Int32) (d : decode cc pc = .ok (.sipush n, 3)) (hv : (Int16.ofInt n).toInt32 = v) (g : Gd A E nL Qf o S (pc + 3) ls (.int v :: st)) : Gd A E nL Qf o S pc ls st := fun H locs la a b c => lv_sipush C.1 C.2.1 d hv (g H locs la a b c)
theorem r_lconst (C : Cx A E cc nL own fr lo) {n : Fin 2} (v : Int64) (d : decode cc pc = .ok (.lconst n, 1)) (hv : Int64.ofNat (n : Nat) = v) (g : Gd A E nL Qf o S (pc + 1) ls (.long v :: st)) : Gd A E nL Qf o S pc ls st := fun H locs la a b c => lv_lconst C.1 C.2.1 d hv (g H locs la a b c)
theorem r_iload_n (C : Cx A E cc nL own fr lo) {k : Fin 4} {x : Int32} (q : Nat) (d : decode cc pc = .ok (.iload_n k, 1)) (hq : ls[q]? = some ((k : Nat), .int x)) (g : Gd A E nL Qf o S (pc + 1) ls (.int x :: st)) : Gd A E nL Qf o S pc ls st := fun H locs la a b c => lv_iload_n C.1 C.2.1 d rfl (lv_at c q hq) (g H locs la a b c)
theorem r_iload (C : Cx A E cc nL own fr lo) {i : Nat} {x : Int32} (q : Nat) (d : decode cc pc = .ok (.iload i, 2)) (hq : ls[q]? = some (i, .int x)) (g : Gd A E nL Qf o S (pc + 2) ls (.int x :: st)) : Gd A E nL Qf o S pc ls st := fun H locs la a b c => lv_iload C.1 C.2.1 d (lv_at c q hq) (g H locs la a b c)
theorem r_lload_n (C : Cx A E cc nL own fr lo) {k : Fin 4} {x : Int64} (q : Nat) (d : decode cc pc = .ok (.lload_n k, 1)) (hq : ls[q]? = some ((k : Nat), .long x)) (g : Gd A E nL Qf o S (pc + 1) ls (.long x :: st)) : Gd A E nL Qf o S pc ls st := fun H locs la a b c => lv_lload_n C.1 C.2.1 d rfl (lv_at c q hq) (g H locs la a b c)
theorem r_lload (C : Cx A E cc nL own fr lo) {i : Nat} {x : Int64} (q : Nat) (d : decode cc pc = .ok (.lload i, 2)) (hq : ls[q]? = some (i, .long x)) (g : Gd A E nL Qf o S (pc + 2) ls (.long x :: st)) : Gd A E nL Qf o S pc ls st := fun H locs la a b c => lv_lload C.1 C.2.1 d (lv_at c q hq) (g H locs la a b c)
theorem r_aload_n (C : Cx A E cc nL own fr lo) {k : Fin 4} {x : Nat} (q : Nat) (d : decode cc pc = .ok (.aload_n k, 1)) (hq : ls[q]? = some ((k : Nat), .ref x)) (g : Gd A E nL Qf o S (pc + 1) ls (.ref x :: st)) : Gd A E nL Qf o S pc ls st := fun H locs la a b c => lv_aload_n C.1 C.2.1 d rfl (lv_at c q hq) (g H locs la a b c)
theorem r_aload (C : Cx A E cc nL own fr lo) {i : Nat} {x : Nat} (q : Nat) (d : decode cc pc = .ok (.aload i, 2)) (hq : ls[q]? = some (i, .ref x)) (g : Gd A E nL Qf o S (pc + 2) ls (.ref x :: st)) : Gd A E nL Qf o S pc ls st := fun H locs la a b c => lv_aload C.1 C.2.1 d (lv_at c q hq) (g H locs la a b c)
abbrev lS1 (i : Nat) (v : Value) (ls : List (Nat × Value)) : List (Nat × Value) := (i, v) :: ls.filter (fun q => !(q.1 == i) && !(q.1 + 1 == i && q.2.category == 2))
abbrev lS2 (i : Nat) (v : Value) (ls : List (Nat × Value)) : List (Nat × Value) := (i, v) :: ls.filter (fun q => !(q.1 == i) && (!(q.1 == i + 1) && !(q.1 + 1 == i && q.2.category == 2)))
theorem r_istore_n (C : Cx A E cc nL own fr lo) {k : Fin 4} {x : Int32} (l' : List (Nat × Value)) (d : decode cc pc = .ok (.istore_n k, 1)) (hn : (k : Nat) < nL) (hl : lS1 k (.int x) ls = l') (g : Gd A E nL Qf o S (pc + 1) l' st) : Gd A E nL Qf o S pc ls (.int x :: st) := fun H locs la a b c => lv_istore_n C.1 C.2.1 d rfl c hn hl (fun la' c' => g H locs la' a b c')
theorem r_istore (C : Cx A E cc nL own fr lo) {i : Nat} {x : Int32} (l' : List (Nat × Value)) (d : decode cc pc = .ok (.istore i, 2)) (hn : i < nL) (hl : lS1 i (.int x) ls = l') (g : Gd A E nL Qf o S (pc + 2) l' st) : Gd A E nL Qf o S pc ls (.int x :: st) := fun H locs la a b c => lv_istore C.1 C.2.1 d c hn hl (fun la' c' => g H locs la' a b c')
theorem r_lstore_n (C : Cx A E cc nL own fr lo) {k : Fin 4} {x : Int64} (l' : List (Nat × Value)) (d : decode cc pc = .ok (.lstore_n k, 1)) (hn : (k : Nat) + 1 < nL) (hl : lS2 k (.long x) ls = l') (g : Gd A E nL Qf o S (pc + 1) l' st) : Gd A E nL Qf o S pc ls (.long x :: st) := fun H locs la a b c => lv_lstore_n C.1 C.2.1 d rfl c hn hl (fun la' c' => g H locs la' a b c')
theorem r_lstore (C : Cx A E cc nL own fr lo) {i : Nat} {x : Int64} (l' : List (Nat × Value)) (d : decode cc pc = .ok (.lstore i, 2)) (hn : i + 1 < nL) (hl : lS2 i (.long x) ls = l') (g : Gd A E nL Qf o S (pc + 2) l' st) : Gd A E nL Qf o S pc ls (.long x :: st) := fun H locs la a b c => lv_lstore C.1 C.2.1 d c hn hl (fun la' c' => g H locs la' a b c')
theorem r_astore_n (C : Cx A E cc nL own fr lo) {k : Fin 4} {x : Nat} (l' : List (Nat × Value)) (d : decode cc pc = .ok (.astore_n k, 1)) (hn : (k : Nat) < nL) (hl : lS1 k (.ref x) ls = l') (g : Gd A E nL Qf o S (pc + 1) l' st) : Gd A E nL Qf o S pc ls (.ref x :: st) := fun H locs la a b c => lv_astore_n C.1 C.2.1 d rfl c hn hl (fun la' c' => g H locs la' a b c')
theorem r_astore (C : Cx A E cc nL own fr lo) {i : Nat} {x : Nat} (l' : List (Nat × Value)) (d : decode cc pc = .ok (.astore i, 2)) (hn : i < nL) (hl : lS1 i (.ref x) ls = l') (g : Gd A E nL Qf o S (pc + 2) l' st) : Gd A E nL Qf o S pc ls (.ref x :: st) := fun H locs la a b c => lv_astore C.1 C.2.1 d c hn hl (fun la' c' => g H locs la' a b c')
theorem r_astore_nN (C : Cx A E cc nL own fr lo) {k : Fin 4} (l' : List (Nat × Value)) (d : decode cc pc = .ok (.astore_n k, 1)) (hn : (k : Nat) < nL) (hl : lS1 k .null ls = l') (g : Gd A E nL Qf o S (pc + 1) l' st) : Gd A E nL Qf o S pc ls (.null :: st) := fun H locs la a b c => lv_astore_nN C.1 C.2.1 d rfl c hn hl (fun la' c' => g H locs la' a b c')
theorem r_astoreN (C : Cx A E cc nL own fr lo) {i : Nat} (l' : List (Nat × Value)) (d : decode cc pc = .ok (.astore i, 2)) (hn : i < nL) (hl : lS1 i .null ls = l') (g : Gd A E nL Qf o S (pc + 2) l' st) : Gd A E nL Qf o S pc ls (.null :: st) := fun H locs la a b c => lv_astoreN C.1 C.2.1 d c hn hl (fun la' c' => g H locs la' a b c')
theorem r_aload_nN (C : Cx A E cc nL own fr lo) {k : Fin 4} (q : Nat) (d : decode cc pc = .ok (.aload_n k, 1)) (hq : ls[q]? = some ((k : Nat), .null)) (g : Gd A E nL Qf o S (pc + 1) ls (.null :: st)) : Gd A E nL Qf o S pc ls st := fun H locs la a b c => lv_aload_nN C.1 C.2.1 d rfl (lv_at c q hq) (g H locs la a b c)
theorem r_aloadN (C : Cx A E cc nL own fr lo) {i : Nat} (q : Nat) (d : decode cc pc = .ok (.aload i, 2)) (hq : ls[q]? = some (i, .null)) (g : Gd A E nL Qf o S (pc + 2) ls (.null :: st)) : Gd A E nL Qf o S pc ls st := fun H locs la a b c => lv_aloadN C.1 C.2.1 d (lv_at c q hq) (g H locs la a b c)
theorem r_iinc (C : Cx A E cc nL own fr lo) {i : Nat} {n : Int} {x v : Int32} {k : Int32 → Option (ρ × WS)} (q : Nat) (l' : Int32 → List (Nat × Value)) (d : decode cc pc = .ok (.iinc i n, 3)) (hq : ls[q]? = some (i, .int x)) (hv : Int32.ofInt n = v) (hn : i < nL) (hl : ∀ y, lS1 i (.int y) ls = l' y) (g : ∀ y, Gd A E nL Qf (k y) S (pc + 3) (l' y) st) : Gd A E nL Qf (lt (x + v) k) S pc ls st := fun H locs la a b c => lv_iinc C.1 C.2.1 d c hq (by rw [hv]) hn (hl _) (fun la' c' => g (x + v) H locs la' a b c')
theorem r_iadd (C : Cx A E cc nL own fr lo) {x y : Int32} (d : decode cc pc = .ok (.iadd, 1)) (g : Gd A E nL Qf o S (pc + 1) ls (.int (x + y) :: st)) : Gd A E nL Qf o S pc ls (.int y :: .int x :: st) := fun H locs la a b c => lv_iadd C.1 C.2.1 d (g H locs la a b c)
theorem r_isub (C : Cx A E cc nL own fr lo) {x y : Int32} (d : decode cc pc = .ok (.isub, 1)) (g : Gd A E nL Qf o S (pc + 1) ls (.int (x - y) :: st)) : Gd A E nL Qf o S pc ls (.int y :: .int x :: st) := fun H locs la a b c => lv_isub C.1 C.2.1 d (g H locs la a b c)
theorem r_imul (C : Cx A E cc nL own fr lo) {x y : Int32} (d : decode cc pc = .ok (.imul, 1)) (g : Gd A E nL Qf o S (pc + 1) ls (.int (x * y) :: st)) : Gd A E nL Qf o S pc ls (.int y :: .int x :: st) := fun H locs la a b c => lv_imul C.1 C.2.1 d (g H locs la a b c)
theorem r_iand (C : Cx A E cc nL own fr lo) {x y : Int32} (d : decode cc pc = .ok (.iand, 1)) (g : Gd A E nL Qf o S (pc + 1) ls (.int (x &&& y) :: st)) : Gd A E nL Qf o S pc ls (.int y :: .int x :: st) := fun H locs la a b c => lv_iand C.1 C.2.1 d (g H locs la a b c)
theorem r_ior (C : Cx A E cc nL own fr lo) {x y : Int32} (d : decode cc pc = .ok (.ior, 1)) (g : Gd A E nL Qf o S (pc + 1) ls (.int (x ||| y) :: st)) : Gd A E nL Qf o S pc ls (.int y :: .int x :: st) := fun H locs la a b c => lv_ior C.1 C.2.1 d (g H locs la a b c)
theorem r_ixor (C : Cx A E cc nL own fr lo) {x y : Int32} (d : decode cc pc = .ok (.ixor, 1)) (g : Gd A E nL Qf o S (pc + 1) ls (.int (x ^^^ y) :: st)) : Gd A E nL Qf o S pc ls (.int y :: .int x :: st) := fun H locs la a b c => lv_ixor C.1 C.2.1 d (g H locs la a b c)
theorem r_ishl (C : Cx A E cc nL own fr lo) {x y : Int32} (d : decode cc pc = .ok (.ishl, 1)) (g : Gd A E nL Qf o S (pc + 1) ls (.int (x <<< (y &&& 31)) :: st)) : Gd A E nL Qf o S pc ls (.int y :: .int x :: st) := fun H locs la a b c => lv_ishl C.1 C.2.1 d (g H locs la a b c)
theorem r_ishr (C : Cx A E cc nL own fr lo) {x y : Int32} (d : decode cc pc = .ok (.ishr, 1)) (g : Gd A E nL Qf o S (pc + 1) ls (.int (x >>> (y &&& 31)) :: st)) : Gd A E nL Qf o S pc ls (.int y :: .int x :: st) := fun H locs la a b c => lv_ishr C.1 C.2.1 d (g H locs la a b c)
theorem r_iushr (C : Cx A E cc nL own fr lo) {x y : Int32} (d : decode cc pc = .ok (.iushr, 1)) (g : Gd A E nL Qf o S (pc + 1) ls (.int ((x.toUInt32 >>> (y.toUInt32 &&& Int32.toUInt32 31)).toInt32) :: st)) : Gd A E nL Qf o S pc ls (.int y :: .int x :: st) := fun H locs la a b c => lv_iushr C.1 C.2.1 d rfl (g H locs la a b c)
theorem r_ineg (C : Cx A E cc nL own fr lo) {x : Int32} (d : decode cc pc = .ok (.ineg, 1)) (g : Gd A E nL Qf o S (pc + 1) ls (.int (-x) :: st)) : Gd A E nL Qf o S pc ls (.int x :: st) := fun H locs la a b c => lv_ineg C.1 C.2.1 d (g H locs la a b c)
theorem r_idiv (C : Cx A E cc nL own fr lo) {x y : Int32} (d : decode cc pc = .ok (.idiv, 1)) (g : Gd A E nL Qf o S (pc + 1) ls (.int (x / y) :: st)) : Gd A E nL Qf (if y = 0 then none else o) S pc ls (.int y :: .int x :: st) := by
  by_cases h : y = 0
  · rw [if_pos h]; exact gn
  · rw [if_neg h]; exact fun H locs la a b c => lv_idiv C.1 C.2.1 d h (g H locs la a b c)
theorem r_irem (C : Cx A E cc nL own fr lo) {x y : Int32} (d : decode cc pc = .ok (.irem, 1)) (g : Gd A E nL Qf o S (pc + 1) ls (.int (x - x / y * y) :: st)) : Gd A E nL Qf (if y = 0 then none else o) S pc ls (.int y :: .int x :: st) := by
  by_cases h : y = 0
  · rw [if_pos h]; exact gn
  · rw [if_neg h]; exact fun H locs la a b c => lv_irem C.1 C.2.1 d h (g H locs la a b c)
theorem r_ladd (C : Cx A E cc nL own fr lo) {x y : Int64} (d : decode cc pc = .ok (.ladd, 1)) (g : Gd A E nL Qf o S (pc + 1) ls (.long (x + y) :: st)) : Gd A E nL Qf o S pc ls (.long y :: .long x :: st) := fun H locs la a b c => lv_ladd C.1 C.2.1 d (g H locs la a b c)
theorem r_lmul (C : Cx A E cc nL own fr lo) {x y : Int64} (d : decode cc pc = .ok (.lmul, 1)) (g : Gd A E nL Qf o S (pc + 1) ls (.long (x * y) :: st)) : Gd A E nL Qf o S pc ls (.long y :: .long x :: st) := fun H locs la a b c => lv_lmul C.1 C.2.1 d (g H locs la a b c)
theorem r_land (C : Cx A E cc nL own fr lo) {x y : Int64} (d : decode cc pc = .ok (.land, 1)) (g : Gd A E nL Qf o S (pc + 1) ls (.long (x &&& y) :: st)) : Gd A E nL Qf o S pc ls (.long y :: .long x :: st) := fun H locs la a b c => lv_land C.1 C.2.1 d (g H locs la a b c)
theorem r_lor (C : Cx A E cc nL own fr lo) {x y : Int64} (d : decode cc pc = .ok (.lor, 1)) (g : Gd A E nL Qf o S (pc + 1) ls (.long (x ||| y) :: st)) : Gd A E nL Qf o S pc ls (.long y :: .long x :: st) := fun H locs la a b c => lv_lor C.1 C.2.1 d (g H locs la a b c)
theorem r_ldiv (C : Cx A E cc nL own fr lo) {x y : Int64} (d : decode cc pc = .ok (.ldiv, 1)) (g : Gd A E nL Qf o S (pc + 1) ls (.long (x / y) :: st)) : Gd A E nL Qf (if y = 0 then none else o) S pc ls (.long y :: .long x :: st) := by
  by_cases h : y = 0
  · rw [if_pos h]; exact gn
  · rw [if_neg h]; exact fun H locs la a b c => lv_ldiv C.1 C.2.1 d h (g H locs la a b c)
theorem r_lrem (C : Cx A E cc nL own fr lo) {x y : Int64} (d : decode cc pc = .ok (.lrem, 1)) (g : Gd A E nL Qf o S (pc + 1) ls (.long (x - x / y * y) :: st)) : Gd A E nL Qf (if y = 0 then none else o) S pc ls (.long y :: .long x :: st) := by
  by_cases h : y = 0
  · rw [if_pos h]; exact gn
  · rw [if_neg h]; exact fun H locs la a b c => lv_lrem C.1 C.2.1 d h (g H locs la a b c)
theorem r_lshl (C : Cx A E cc nL own fr lo) {x : Int64} {y : Int32} (d : decode cc pc = .ok (.lshl, 1)) (g : Gd A E nL Qf o S (pc + 1) ls (.long (x <<< (y.toInt64 &&& 63)) :: st)) : Gd A E nL Qf o S pc ls (.int y :: .long x :: st) := fun H locs la a b c => lv_lshl C.1 C.2.1 d rfl (g H locs la a b c)
theorem r_lshr (C : Cx A E cc nL own fr lo) {x : Int64} {y : Int32} (d : decode cc pc = .ok (.lshr, 1)) (g : Gd A E nL Qf o S (pc + 1) ls (.long (x >>> (y.toInt64 &&& 63)) :: st)) : Gd A E nL Qf o S pc ls (.int y :: .long x :: st) := fun H locs la a b c => lv_lshr C.1 C.2.1 d rfl (g H locs la a b c)
theorem r_i2l (C : Cx A E cc nL own fr lo) {x : Int32} (d : decode cc pc = .ok (.i2l, 1)) (g : Gd A E nL Qf o S (pc + 1) ls (.long x.toInt64 :: st)) : Gd A E nL Qf o S pc ls (.int x :: st) := fun H locs la a b c => lv_i2l C.1 C.2.1 d rfl (g H locs la a b c)
theorem r_l2i (C : Cx A E cc nL own fr lo) {x : Int64} (d : decode cc pc = .ok (.l2i, 1)) (g : Gd A E nL Qf o S (pc + 1) ls (.int x.toInt32 :: st)) : Gd A E nL Qf o S pc ls (.long x :: st) := fun H locs la a b c => lv_l2i C.1 C.2.1 d rfl (g H locs la a b c)
theorem r_i2b (C : Cx A E cc nL own fr lo) {x : Int32} (d : decode cc pc = .ok (.i2b, 1)) (g : Gd A E nL Qf o S (pc + 1) ls (.int x.toInt8.toInt32 :: st)) : Gd A E nL Qf o S pc ls (.int x :: st) := fun H locs la a b c => lv_i2b C.1 C.2.1 d rfl (g H locs la a b c)
theorem r_i2s (C : Cx A E cc nL own fr lo) {x : Int32} (d : decode cc pc = .ok (.i2s, 1)) (g : Gd A E nL Qf o S (pc + 1) ls (.int x.toInt16.toInt32 :: st)) : Gd A E nL Qf o S pc ls (.int x :: st) := fun H locs la a b c => lv_i2s C.1 C.2.1 d rfl (g H locs la a b c)
theorem r_lcmp (C : Cx A E cc nL own fr lo) {x y : Int64} (d : decode cc pc = .ok (.lcmp, 1)) (g : Gd A E nL Qf o S (pc + 1) ls (.int (lg_cmp x y) :: st)) : Gd A E nL Qf o S pc ls (.long y :: .long x :: st) := fun H locs la a b c => W.lcmp C.1 C.2.1 d (g H locs la a b c)
theorem r_dup (C : Cx A E cc nL own fr lo) {v : Value} (d : decode cc pc = .ok (.dup, 1)) (hv : v.category = 1) (g : Gd A E nL Qf o S (pc + 1) ls (v :: v :: st)) : Gd A E nL Qf o S pc ls (v :: st) := fun H locs la a b c => lv_dup C.1 C.2.1 d hv (g H locs la a b c)
theorem r_dup2 (C : Cx A E cc nL own fr lo) {v u : Value} (d : decode cc pc = .ok (.dup2, 1)) (hv : v.category = 1) (hu : u.category = 1) (g : Gd A E nL Qf o S (pc + 1) ls (v :: u :: v :: u :: st)) : Gd A E nL Qf o S pc ls (v :: u :: st) := fun H locs la a b c => lv_dup2_11 C.1 C.2.1 d hv hu (g H locs la a b c)
theorem r_pop (C : Cx A E cc nL own fr lo) {v : Value} (d : decode cc pc = .ok (.pop, 1)) (hv : v.category = 1) (g : Gd A E nL Qf o S (pc + 1) ls st) : Gd A E nL Qf o S pc ls (v :: st) := fun H locs la a b c => lv_pop C.1 C.2.1 d hv (g H locs la a b c)
theorem r_goto (C : Cx A E cc nL own fr lo) {off : Int} (tgt : Nat) (d : decode cc pc = .ok (.goto off, 3)) (ht : (pc : Int) + off = (tgt : Int)) (g : Gd A E nL Qf o S tgt ls st) : Gd A E nL Qf o S pc ls st := fun H locs la a b c => lv_goto C.1 C.2.1 d ht (g H locs la a b c)
theorem r_null (C : Cx A E cc nL own fr lo) (d : decode cc pc = .ok (.aconst_null, 1)) (g : Gd A E nL Qf o S (pc + 1) ls (.null :: st)) : Gd A E nL Qf o S pc ls st := fun H locs la a b c => lv_null C.1 C.2.1 d (g H locs la a b c)
theorem r_ifnull (C : Cx A E cc nL own fr lo) {x : Nat} {off : Int} (d : decode cc pc = .ok (.ifnull off, 3)) (g : Gd A E nL Qf o S (pc + 3) ls st) : Gd A E nL Qf o S pc ls (.ref x :: st) := fun H locs la a b c => lv_ifnull C.1 C.2.1 d (g H locs la a b c)
theorem r_ifnullN (C : Cx A E cc nL own fr lo) {off : Int} (tgt : Nat) (d : decode cc pc = .ok (.ifnull off, 3)) (ht : (pc : Int) + off = (tgt : Int)) (g : Gd A E nL Qf o S tgt ls st) : Gd A E nL Qf o S pc ls (.null :: st) := fun H locs la a b c => lv_ifnullN C.1 C.2.1 d ht (g H locs la a b c)
theorem r_ifnonnull (C : Cx A E cc nL own fr lo) {x : Nat} {off : Int} (tgt : Nat) (d : decode cc pc = .ok (.ifnonnull off, 3)) (ht : (pc : Int) + off = (tgt : Int)) (g : Gd A E nL Qf o S tgt ls st) : Gd A E nL Qf o S pc ls (.ref x :: st) := fun H locs la a b c => lv_ifnonnull C.1 C.2.1 d ht (g H locs la a b c)
theorem r_ifnonnullN (C : Cx A E cc nL own fr lo) {off : Int} (d : decode cc pc = .ok (.ifnonnull off, 3)) (g : Gd A E nL Qf o S (pc + 3) ls st) : Gd A E nL Qf o S pc ls (.null :: st) := fun H locs la a b c => lv_ifnonnullN C.1 C.2.1 d (g H locs la a b c)
theorem r_if_eq (C : Cx A E cc nL own fr lo) {x : Int32} {off : Int} {o2 : Option (ρ × WS)} (tgt : Nat) (d : decode cc pc = .ok (.ifCond .eq off, 3)) (ht : (pc : Int) + off = (tgt : Int)) (gt : Gd A E nL Qf o S tgt ls st) (gf : Gd A E nL Qf o2 S (pc + 3) ls st) : Gd A E nL Qf (if x = 0 then o else o2) S pc ls (.int x :: st) := fun H locs la a b c => lv_if_eq C.1 C.2.1 d ht (fun h => by rw [if_pos h]; exact gt H locs la a b c) (fun h => by rw [if_neg h]; exact gf H locs la a b c)
theorem r_icmp_eq (C : Cx A E cc nL own fr lo) {x y : Int32} {off : Int} {o2 : Option (ρ × WS)} (tgt : Nat) (d : decode cc pc = .ok (.if_icmp .eq off, 3)) (ht : (pc : Int) + off = (tgt : Int)) (gt : Gd A E nL Qf o S tgt ls st) (gf : Gd A E nL Qf o2 S (pc + 3) ls st) : Gd A E nL Qf (if x = y then o else o2) S pc ls (.int y :: .int x :: st) := fun H locs la a b c => lv_icmp_eq C.1 C.2.1 d ht (fun h => by rw [if_pos h]; exact gt H locs la a b c) (fun h => by rw [if_neg h]; exact gf H locs la a b c)
theorem r_if_ne (C : Cx A E cc nL own fr lo) {x : Int32} {off : Int} {o2 : Option (ρ × WS)} (tgt : Nat) (d : decode cc pc = .ok (.ifCond .ne off, 3)) (ht : (pc : Int) + off = (tgt : Int)) (gt : Gd A E nL Qf o S tgt ls st) (gf : Gd A E nL Qf o2 S (pc + 3) ls st) : Gd A E nL Qf (if x = 0 then o2 else o) S pc ls (.int x :: st) := fun H locs la a b c => lv_if_ne C.1 C.2.1 d ht (fun h => by rw [if_neg h]; exact gt H locs la a b c) (fun h => by rw [if_pos h]; exact gf H locs la a b c)
theorem r_icmp_ne (C : Cx A E cc nL own fr lo) {x y : Int32} {off : Int} {o2 : Option (ρ × WS)} (tgt : Nat) (d : decode cc pc = .ok (.if_icmp .ne off, 3)) (ht : (pc : Int) + off = (tgt : Int)) (gt : Gd A E nL Qf o S tgt ls st) (gf : Gd A E nL Qf o2 S (pc + 3) ls st) : Gd A E nL Qf (if x = y then o2 else o) S pc ls (.int y :: .int x :: st) := fun H locs la a b c => lv_icmp_ne C.1 C.2.1 d ht (fun h => by rw [if_neg h]; exact gt H locs la a b c) (fun h => by rw [if_pos h]; exact gf H locs la a b c)
theorem r_if_lt (C : Cx A E cc nL own fr lo) {x : Int32} {off : Int} {o2 : Option (ρ × WS)} (tgt : Nat) (d : decode cc pc = .ok (.ifCond .lt off, 3)) (ht : (pc : Int) + off = (tgt : Int)) (gt : Gd A E nL Qf o S tgt ls st) (gf : Gd A E nL Qf o2 S (pc + 3) ls st) : Gd A E nL Qf (if x < 0 then o else o2) S pc ls (.int x :: st) := fun H locs la a b c => lv_if_lt C.1 C.2.1 d ht (fun h => by rw [if_pos h]; exact gt H locs la a b c) (fun h => by rw [if_neg h]; exact gf H locs la a b c)
theorem r_icmp_lt (C : Cx A E cc nL own fr lo) {x y : Int32} {off : Int} {o2 : Option (ρ × WS)} (tgt : Nat) (d : decode cc pc = .ok (.if_icmp .lt off, 3)) (ht : (pc : Int) + off = (tgt : Int)) (gt : Gd A E nL Qf o S tgt ls st) (gf : Gd A E nL Qf o2 S (pc + 3) ls st) : Gd A E nL Qf (if x < y then o else o2) S pc ls (.int y :: .int x :: st) := fun H locs la a b c => lv_icmp_lt C.1 C.2.1 d ht (fun h => by rw [if_pos h]; exact gt H locs la a b c) (fun h => by rw [if_neg h]; exact gf H locs la a b c)
theorem r_if_ge (C : Cx A E cc nL own fr lo) {x : Int32} {off : Int} {o2 : Option (ρ × WS)} (tgt : Nat) (d : decode cc pc = .ok (.ifCond .ge off, 3)) (ht : (pc : Int) + off = (tgt : Int)) (gt : Gd A E nL Qf o S tgt ls st) (gf : Gd A E nL Qf o2 S (pc + 3) ls st) : Gd A E nL Qf (if 0 ≤ x then o else o2) S pc ls (.int x :: st) := fun H locs la a b c => lv_if_ge C.1 C.2.1 d ht (fun h => by rw [if_pos h]; exact gt H locs la a b c) (fun h => by rw [if_neg h]; exact gf H locs la a b c)
theorem r_icmp_ge (C : Cx A E cc nL own fr lo) {x y : Int32} {off : Int} {o2 : Option (ρ × WS)} (tgt : Nat) (d : decode cc pc = .ok (.if_icmp .ge off, 3)) (ht : (pc : Int) + off = (tgt : Int)) (gt : Gd A E nL Qf o S tgt ls st) (gf : Gd A E nL Qf o2 S (pc + 3) ls st) : Gd A E nL Qf (if y ≤ x then o else o2) S pc ls (.int y :: .int x :: st) := fun H locs la a b c => lv_icmp_ge C.1 C.2.1 d ht (fun h => by rw [if_pos h]; exact gt H locs la a b c) (fun h => by rw [if_neg h]; exact gf H locs la a b c)
theorem r_if_gt (C : Cx A E cc nL own fr lo) {x : Int32} {off : Int} {o2 : Option (ρ × WS)} (tgt : Nat) (d : decode cc pc = .ok (.ifCond .gt off, 3)) (ht : (pc : Int) + off = (tgt : Int)) (gt : Gd A E nL Qf o S tgt ls st) (gf : Gd A E nL Qf o2 S (pc + 3) ls st) : Gd A E nL Qf (if 0 < x then o else o2) S pc ls (.int x :: st) := fun H locs la a b c => lv_if_gt C.1 C.2.1 d ht (fun h => by rw [if_pos h]; exact gt H locs la a b c) (fun h => by rw [if_neg h]; exact gf H locs la a b c)
theorem r_icmp_gt (C : Cx A E cc nL own fr lo) {x y : Int32} {off : Int} {o2 : Option (ρ × WS)} (tgt : Nat) (d : decode cc pc = .ok (.if_icmp .gt off, 3)) (ht : (pc : Int) + off = (tgt : Int)) (gt : Gd A E nL Qf o S tgt ls st) (gf : Gd A E nL Qf o2 S (pc + 3) ls st) : Gd A E nL Qf (if y < x then o else o2) S pc ls (.int y :: .int x :: st) := fun H locs la a b c => lv_icmp_gt C.1 C.2.1 d ht (fun h => by rw [if_pos h]; exact gt H locs la a b c) (fun h => by rw [if_neg h]; exact gf H locs la a b c)
theorem r_if_le (C : Cx A E cc nL own fr lo) {x : Int32} {off : Int} {o2 : Option (ρ × WS)} (tgt : Nat) (d : decode cc pc = .ok (.ifCond .le off, 3)) (ht : (pc : Int) + off = (tgt : Int)) (gt : Gd A E nL Qf o S tgt ls st) (gf : Gd A E nL Qf o2 S (pc + 3) ls st) : Gd A E nL Qf (if x ≤ 0 then o else o2) S pc ls (.int x :: st) := fun H locs la a b c => lv_if_le C.1 C.2.1 d ht (fun h => by rw [if_pos h]; exact gt H locs la a b c) (fun h => by rw [if_neg h]; exact gf H locs la a b c)
theorem r_icmp_le (C : Cx A E cc nL own fr lo) {x y : Int32} {off : Int} {o2 : Option (ρ × WS)} (tgt : Nat) (d : decode cc pc = .ok (.if_icmp .le off, 3)) (ht : (pc : Int) + off = (tgt : Int)) (gt : Gd A E nL Qf o S tgt ls st) (gf : Gd A E nL Qf o2 S (pc + 3) ls st) : Gd A E nL Qf (if x ≤ y then o else o2) S pc ls (.int y :: .int x :: st) := fun H locs la a b c => lv_icmp_le C.1 C.2.1 d ht (fun h => by rw [if_pos h]; exact gt H locs la a b c) (fun h => by rw [if_neg h]; exact gf H locs la a b c)
end ROWS
