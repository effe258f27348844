/-! THE LAW: its loop, as a function of the script (L ints xs at the cell b) -/
abbrev LX (A : AM) (b L : Nat) (xs : Nat → Int32) : Prop := va_X b L xs (ams A) (ams A).heap ∧ b < (ams A).heap.size ∧ ¬ (amF A) b ∧ (amt A).sig.returnType = ret ∧ (amt A).locks = false ∧ amR A = room_1 ∧ ama A = #[Value.ref b] ∧ amk A ≤ 600000 ∧ amn A ≤ 7302250 ∧ ∀ q, amF A q → (ams A).heap.size ≤ q
abbrev QL (A : AM) (b : Nat) : Int32 × WS → State → Prop := fun x t => x.1 = 1 → lw_Z (amb A) #[Value.ref b] (ams A) t
section LROWS
variable {A : AM} {E : EN} {nL : Nat} {o : Option (Int32 × WS)} {S : WS} {pc : Nat} {ls : List (Nat × Value)} {st : List Value} {own : String} {fr lo b L : Nat} {xs : Nat → Int32}
theorem r_sld (C : Cx A E code nL own fr lo) (X : LX A b L xs) {i : Int32} (d : decode code pc = .ok (.iaload, 1)) (g : Gd A E nL (QL A b) o S (pc + 1) ls (.int (xs i.toNatClampNeg) :: st)) : Gd A E nL (QL A b) (if i < 0 ∨ L ≤ i.toNatClampNeg then none else o) S pc ls (.int i :: .ref b :: st) := by
  intro H locs la hW hS hl0
  by_cases h : i < 0 ∨ L ≤ i.toNatClampNeg
  · rw [if_pos h]; exact gn (Qf := QL A b) H locs la hW hS hl0
  rw [if_neg h]
  exact va_sld C.1 C.2.1 X.1 X.2.1 X.2.2.1 hS h d (g H locs la hW hS hl0)
theorem r_slenq (C : Cx A E code nL own fr lo) (X : LX A b L xs) (d : decode code pc = .ok (.arraylength, 1)) (g : Gd A E nL (QL A b) o S (pc + 1) ls (.int (Int32.ofNat L) :: st)) : Gd A E nL (QL A b) o S pc ls (.ref b :: st) := fun H locs la hW hS hl0 => va_slen C.1 C.2.1 X.1 X.2.1 X.2.2.1 hS d (g H locs la hW hS hl0)
theorem r_lawF (C : Cx A E code nL own fr lo) (X : LX A b L xs) (d : decode code pc = .ok (.ireturn, 1)) : Gd A E nL (QL A b) (some ((0 : Int32), S)) S pc ls st := by
  intro H locs la _ _ _ T _ _
  refine ⟨_, Steps.refl _, fun x h => ?_⟩
  cases h
  intro h1
  exact absurd (show (0 : Int32) = 1 from h1) (by decide)
theorem r_lawT (C : Cx A E code nL own fr lo) (X : LX A b L xs) (d : decode code pc = .ok (.ireturn, 1)) : Gd A E nL (QL A b) (some ((1 : Int32), S)) S pc ls [.int 1] := by
  intro H locs la hW hS hl0
  refine W.wk (Q := lw_Z (amb A) #[Value.ref b] (ams A)) ?_ (fun t h x hx => by cases hx; exact fun _ => h)
  refine va_forget (fun q hq => X.2.2.2.2.2.2.2.2.2 _ (hS.2.2 q hq)) ?_
  refine W.widen (k := 600000) (n := 7302250) X.2.2.2.2.2.2.2.1 X.2.2.2.2.2.2.2.2.1 ?_
  rw [X.2.2.2.2.2.2.1, X.2.2.2.2.2.1]
  exact lw_ret C.1 C.2.1 X.2.2.2.1 X.2.2.2.2.1 d
end LROWS
