/-! A CONDITION, by its class (Coming: kind 0, Measuring: kind 1) -/
def f_A_addedBy (E : EN) (n : Nat) (S : WS) (h0 : Nat) (h1 : Nat) (x2 : Int32) (x3 : Int32) : Option (Int64 × WS) := if eK E h0 = 0 then f_X0_addedBy E n S h0 h1 x2 x3 else f_X2_addedBy E n S h0 h1 x2 x3
theorem r_A_addedBy {A : AM} {E : EN} {nL : Nat} {ρ : Type} {Qf : ρ × WS → State → Prop} {S : WS} {pc : Nat} {ls : List (Nat × Value)} {cc : ByteArray} {own : String} {fr lo idx n : Nat} {rest : List Value} {k : Int64 → WS → Option (ρ × WS)} (C : Cx A E cc nL own fr lo) (d : decode cc pc = .ok (.invokevirtual idx, 3)) (m0 : MA own idx RX0 RX1 yX1_addedBy yX0_addedBy cX0_addedBy 5 (some .long) 3) (m1 : MA own idx RX2 RX1 yX1_addedBy yX2_addedBy cX2_addedBy 7 (some .long) 3) (h0 : Nat) (h1 : Nat) (x2 : Int32) (x3 : Int32) (th0 : TyC E h0) (th1 : Ty E h1 2) (hR0 : 1 + 1 ≤ fr ∧ 8 + (5 + 11) + 24 ≤ lo) (hR1 : 1 + 1 ≤ fr ∧ 8 + (7 + 11) + 24 ≤ lo) (hr : (rest.map fun v => v.category).sum ≤ 8)
    (g : ∀ v S', tT v → Gd A E nL Qf (k v S') S' (pc + 3) ls (.long v :: rest)) : Gd A E nL Qf (bd (f_A_addedBy E n S h0 h1 x2 x3) k) S pc ls (.int x3 :: .int x2 :: .ref h1 :: .ref h0 :: rest) := by
  unfold f_A_addedBy
  rcases th0 with th0 | th0
  · rw [if_pos th0.2]
    exact r_callA (As := [.ref h1, .int x2, .int x3]) (rest := rest) C (c_X0_addedBy _ E n h0 h1 x2 x3 th0 th1) d m0 ⟨TX0, _, rfl⟩ (by decide) th0 rfl rfl hR0 hr g
  · rw [if_neg (by rw [th0.2]; decide)]
    exact r_callA (As := [.ref h1, .int x2, .int x3]) (rest := rest) C (c_X2_addedBy _ E n h0 h1 x2 x3 th0 th1) d m1 ⟨TX2, _, rfl⟩ (by decide) th0 rfl rfl hR1 hr g
def f_A_judge (E : EN) (n : Nat) (S : WS) (h0 : Nat) (x1 : Int64) (x3 : Int64) : Option (Int32 × WS) := if eK E h0 = 0 then f_X0_judge E n S h0 x1 x3 else f_X2_judge E n S h0 x1 x3
theorem r_A_judge {A : AM} {E : EN} {nL : Nat} {ρ : Type} {Qf : ρ × WS → State → Prop} {S : WS} {pc : Nat} {ls : List (Nat × Value)} {cc : ByteArray} {own : String} {fr lo idx n : Nat} {rest : List Value} {k : Int32 → WS → Option (ρ × WS)} (C : Cx A E cc nL own fr lo) (d : decode cc pc = .ok (.invokevirtual idx, 3)) (m0 : MA own idx RX0 RX1 yX1_judge yX0_judge cX0_judge 5 (some .int) 2) (m1 : MA own idx RX2 RX1 yX1_judge yX2_judge cX2_judge 9 (some .int) 2) (h0 : Nat) (x1 : Int64) (x3 : Int64) (th0 : TyC E h0)  (hR0 : 2 + 1 ≤ fr ∧ 8 + (5 + 11) + 53 ≤ lo) (hR1 : 0 + 1 ≤ fr ∧ 8 + (9 + 11) + 0 ≤ lo) (hr : (rest.map fun v => v.category).sum ≤ 8)
    (g : ∀ v S', tT v → Gd A E nL Qf (k v S') S' (pc + 3) ls (.int v :: rest)) : Gd A E nL Qf (bd (f_A_judge E n S h0 x1 x3) k) S pc ls (.long x3 :: .long x1 :: .ref h0 :: rest) := by
  unfold f_A_judge
  rcases th0 with th0 | th0
  · rw [if_pos th0.2]
    exact r_callA (As := [.long x1, .long x3]) (rest := rest) C (c_X0_judge _ E n h0 x1 x3 th0 ) d m0 ⟨TX0, _, rfl⟩ (by decide) th0 rfl rfl hR0 hr g
  · rw [if_neg (by rw [th0.2]; decide)]
    exact r_callA (As := [.long x1, .long x3]) (rest := rest) C (c_X2_judge _ E n h0 x1 x3 th0 ) d m1 ⟨TX2, _, rfl⟩ (by decide) th0 rfl rfl hR1 hr g
