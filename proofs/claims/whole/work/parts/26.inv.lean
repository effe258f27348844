/-! What holds between calls: shapes, and what scratch work keeps. Class's object at c, model's at c + 129 -/
/-- the final references: (field, cell, whither), all counted from c -/
def shl : List (Nat × Nat × Nat) := [(448, 0, 1), (450, 0, 2), (453, 0, 30), (454, 0, 31), (455, 0, 32), (456, 0, 33), (457, 0, 50), (458, 0, 58), (459, 0, 74), (460, 0, 79), (461, 0, 80), (462, 0, 81), (388, 33, 47), (391, 33, 48), (394, 33, 49), (257, 50, 51), (258, 50, 52), (259, 50, 53), (260, 50, 54), (261, 50, 55), (265, 50, 56), (266, 50, 57), (5, 58, 72), (6, 58, 73), (65, 74, 75), (66, 74, 76), (67, 74, 77), (68, 74, 78), (322, 121, 122), (322, 123, 124), (322, 125, 126), (322, 127, 128), (513, 129, 130), (514, 129, 131), (515, 129, 132), (516, 129, 133), (518, 129, 134), (526, 129, 135), (529, 129, 136), (530, 129, 137), (531, 129, 138), (533, 129, 139), (535, 129, 140), (538, 129, 141), (542, 129, 142), (543, 129, 143), (544, 129, 144), (546, 129, 145), (547, 129, 146), (548, 129, 147), (549, 129, 148)]
def mtl : List Nat := [4, 17, 82, 95, 108]
def SH (S : WS) (c : Nat) : Prop := (∀ t, t ∈ shl → gr S t.1 (c + t.2.1) = some (c + t.2.2)) ∧ (∀ x, x ∈ mtl → ∀ k, k < 12 → gr S (135 + k) (c + x) = some (c + x + 1 + k)) ∧ (∀ k, k < 3 → ar S (c + 30) k = some (c + 82 + 13 * k)) ∧ (∀ k, k < 4 → ar S (c + 32) k = some (c + 121 + 2 * k))
def LE (E : EN) (c : Nat) : Prop := ∀ i, i < 149 → eN E (c + i) = (Kt.getD i (99, 0)).2
theorem SH.g {S : WS} {c : Nat} (h : SH S c) (f a b : Nat) (hm : (f, a, b) ∈ shl) : gr S f (c + a) = some (c + b) := h.1 (f, a, b) hm
/-- what scratch work keeps -/
def kf (f : Nat) : Prop := (128 ≤ f ∧ f ≤ 134) ∨ (192 ≤ f ∧ f ≤ 199) ∨ (320 ≤ f ∧ f ≤ 321) ∨ f = 449 ∨ (512 ≤ f ∧ f ≤ 527)
def ka (c a : Nat) : Prop := (a < c + 47 ∨ c + 81 < a) ∧ (a < c + 134 ∨ c + 144 < a)
def KP (c : Nat) (S S' : WS) : Prop := (∀ f a, f ≠ 384 → f ≠ 0 → gr S' f a = gr S f a) ∧ (∀ a, ar S' a = ar S a) ∧ (∀ f a, kf f → gi S' f a = gi S f a) ∧ (∀ a, ka c a → ai S' a = ai S a) ∧ (∀ a, ka c a → a ≠ c + 148 → aj S' a = aj S a)
theorem KP.rf {c : Nat} {S : WS} : KP c S S := ⟨fun _ _ _ _ => rfl, fun _ => rfl, fun _ _ _ => rfl, fun _ _ => rfl, fun _ _ _ => rfl⟩
theorem KP.tr {c : Nat} {S S1 S2 : WS} (h : KP c S S1) (h2 : KP c S1 S2) : KP c S S2 := ⟨fun f a p q => (h2.1 f a p q).trans (h.1 f a p q), fun a => (h2.2.1 a).trans (h.2.1 a), fun f a p => (h2.2.2.1 f a p).trans (h.2.2.1 f a p), fun a p => (h2.2.2.2.1 a p).trans (h.2.2.2.1 a p), fun a p q => (h2.2.2.2.2 a p q).trans (h.2.2.2.2 a p q)⟩
theorem KP.si {c : Nat} {S : WS} {f a : Nat} {v : Int32} (h : ¬ kf f) : KP c S (si S f a v) := ⟨fun _ _ _ _ => rfl, fun _ => rfl, fun g b p => gi_si_f (fun q => h (q ▸ p)), fun _ _ => rfl, fun _ _ _ => rfl⟩
theorem KP.sj {c : Nat} {S : WS} {f a : Nat} {v : Int64} : KP c S (sj S f a v) := ⟨fun _ _ _ _ => rfl, fun _ => rfl, fun _ _ _ => rfl, fun _ _ => rfl, fun _ _ _ => rfl⟩
theorem KP.sr {c : Nat} {S : WS} {f a : Nat} {v : Option Nat} (h : f = 384 ∨ f = 0) : KP c S (sr S f a v) := ⟨fun g b p q => gr_sr_f (fun e => by omega), fun _ => rfl, fun _ _ _ => rfl, fun _ _ => rfl, fun _ _ _ => rfl⟩
theorem KP.wi {c : Nat} {S : WS} {a : Nat} {g : Nat → Int32} (h : ¬ ka c a) : KP c S (wi S a g) := ⟨fun _ _ _ _ => rfl, fun _ => rfl, fun _ _ _ => rfl, fun b p => ai_wi_a (fun q => h (q ▸ p)), fun _ _ _ => rfl⟩
theorem KP.wj {c : Nat} {S : WS} {a : Nat} {g : Nat → Int64} (h : ¬ ka c a ∨ a = c + 148) : KP c S (wj S a g) := ⟨fun _ _ _ _ => rfl, fun _ => rfl, fun _ _ _ => rfl, fun _ _ => rfl, fun b p q => aj_wj_a (fun e => by subst e; rcases h with h | h; exact h p; exact q h)⟩
theorem shl_f : ∀ t, t ∈ shl → t.1 ≠ 384 ∧ t.1 ≠ 0 := by decide
theorem SH.kp {c : Nat} {S S' : WS} (h : SH S c) (k : KP c S S') : SH S' c := ⟨fun t ht => (k.1 t.1 (c + t.2.1) (shl_f t ht).1 (shl_f t ht).2).trans (h.1 t ht), fun x hx j hj => (k.1 _ _ (by omega) (by omega)).trans (h.2.1 x hx j hj), fun j hj => by rw [k.2.1]; exact h.2.2.1 j hj, fun j hj => by rw [k.2.1]; exact h.2.2.2 j hj⟩
/-- an object Mountain of ours: its place -/
def mok (x : Nat) : Prop := x = 4 ∨ x = 17 ∨ x = 82 ∨ x = 95 ∨ x = 108
theorem RMt.kp {c x : Nat} {E : EN} {S S' : WS} {M : Nat → Int32} (hx : mok x) (h : RMt E S (c + x) M) (k : KP c S S') : RMt E S' (c + x) M := by
  have ea : ∀ j, 1 ≤ j → j ≤ 12 → ai S' (c + x + j) = ai S (c + x + j) := fun j h1 h2 => k.2.2.2.1 _ (by unfold ka; unfold mok at hx; omega)
  have ef : ∀ f, 128 ≤ f → f ≤ 134 → gi S' f (c + x) = gi S f (c + x) := fun f h1 h2 => k.2.2.1 f _ (Or.inl ⟨h1, h2⟩)
  obtain ⟨⟨g, l⟩, ⟨i1, i2, i3, i4, i5, i6, i7⟩, a1, a2, a3, a4, a5, a6, a7⟩ := h
  refine ⟨⟨fun j hj => (k.1 _ _ (by omega) (by omega)).trans (g j hj), l⟩, ⟨?_, ?_, ?_, ?_, ?_, ?_, ?_⟩, ?_, ?_, ?_, ?_, ?_, ?_, ?_⟩
  · rw [ef 128 (by omega) (by omega)]; exact i1
  · rw [ef 129 (by omega) (by omega)]; exact i2
  · rw [ef 130 (by omega) (by omega)]; exact i3
  · rw [ef 131 (by omega) (by omega)]; exact i4
  · rw [ef 132 (by omega) (by omega)]; exact i5
  · rw [ef 133 (by omega) (by omega)]; exact i6
  · rw [ef 134 (by omega) (by omega)]; exact i7
  · rw [ea 1 (by omega) (by omega)]; exact a1
  · rw [ea 2 (by omega) (by omega), ea 3 (by omega) (by omega)]; exact a2
  · rw [ea 4 (by omega) (by omega), ea 5 (by omega) (by omega)]; exact a3
  · rw [ea 6 (by omega) (by omega), ea 7 (by omega) (by omega), ea 8 (by omega) (by omega)]; exact a4
  · rw [ea 9 (by omega) (by omega)]; exact a5
  · rw [ea 10 (by omega) (by omega)]; exact a6
  · rw [ea 11 (by omega) (by omega), ea 12 (by omega) (by omega)]; exact a7
theorem RWl.kp {c : Nat} {E : EN} {S S' : WS} {M : Nat → Int32} {lo : Int32} (h : RWl E S (c + 129) M lo) (k : KP c S S') : RWl E S' (c + 129) M lo := ⟨(k.1 513 (c + 129) (by omega) (by omega)).trans h.1, h.2.1, fun i hi => by rw [k.2.2.2.1 (c + 129 + 1) (by unfold ka; omega)]; exact h.2.2.1 i hi, (k.2.2.1 527 (c + 129) (by unfold kf; omega)).trans h.2.2.2⟩
/-- a byte on the tape -/
def byt (x : Int32) : Prop := x = x.toInt8.toInt32
/-- the images, the slots -/
def IMG (E : EN) (c : Nat) (S : WS) (k : Nat) : Prop := ai S (c + 31) k = ai S (c + 132) k ∧ (ai S (c + 31) k = 0 ∨ ai S (c + 31) k = 1) ∧ (ai S (c + 31) k ≠ 0 → ∃ M, WF M ∧ RMt E S (c + (82 + 13 * k)) M ∧ ∀ i, i < 109 → ai S (c + 131) (109 * k + i) = M i)
def SLT (c : Nat) (S : WS) (k : Nat) : Prop := gi S 320 (c + (121 + 2 * k)) = ai S (c + 146) k ∧ gi S 321 (c + (121 + 2 * k)) = ai S (c + 145) k ∧ (∃ w : Nat, w < 4 ∧ ai S (c + 146) k = nI w) ∧ (ai S (c + 145) k = -1 ∨ ∃ l : Nat, l ≤ 60 ∧ ai S (c + 145) k = nI l) ∧ ∀ i, i < 60 → aj S (c + (122 + 2 * k)) i = aj S (c + 147) (60 * k + i)
def TAP (c : Nat) (S : WS) : Prop := (∃ t : Nat, t ≤ 1400 ∧ gi S 449 (c + 0) = nI t ∧ gi S 517 (c + 129) = nI t) ∧ (∀ i, i < 1400 → ai S (c + 1) i = ai S (c + 133) i ∧ byt (ai S (c + 1) i))
def FLT (c : Nat) (S : WS) : Prop := gi S 198 (c + 2) = gi S 524 (c + 129) ∧ gi S 199 (c + 2) = gi S 525 (c + 129)
/-- the object now, the object spare -/
def NOW (c : Nat) (S : WS) (x : Nat) : Prop := (x = 4 ∨ x = 17) ∧ gr S 451 (c + 0) = some (c + x) ∧ gr S 452 (c + 0) = some (c + (21 - x))
def Inv (E : EN) (c : Nat) (S : WS) (x : Nat) (M : Nat → Int32) : Prop := LE E c ∧ SH S c ∧ NOW c S x ∧ WF M ∧ RMt E S (c + x) M ∧ RWl E S (c + 129) M (-1) ∧ TAP c S ∧ FLT c S ∧ (∀ k, k < 3 → IMG E c S k) ∧ (∀ k, k < 4 → SLT c S k)
theorem Inv.kp {E : EN} {c : Nat} {S S' : WS} {x : Nat} {M : Nat → Int32} (h : Inv E c S x M) (k : KP c S S') : Inv E c S' x M := by
  obtain ⟨h1, h2, ⟨h3, h4, h5⟩, h6, h7, h8, ⟨⟨t, h9, h10, h11⟩, h12⟩, ⟨h13, h14⟩, h15, h16⟩ := h
  refine ⟨h1, h2.kp k, ⟨h3, (k.1 451 _ (by omega) (by omega)).trans h4, (k.1 452 _ (by omega) (by omega)).trans h5⟩, h6, RMt.kp (by unfold mok; omega) h7 k, h8.kp k, ⟨⟨t, h9, (k.2.2.1 449 _ (by unfold kf; omega)).trans h10, (k.2.2.1 517 _ (by unfold kf; omega)).trans h11⟩, ?_⟩, ?_, ?_, ?_⟩
  · rw [k.2.2.2.1 (c + 1) (by unfold ka; omega), k.2.2.2.1 (c + 133) (by unfold ka; omega)]; exact h12
  · unfold FLT
    rw [k.2.2.1 198 _ (by unfold kf; omega), k.2.2.1 199 _ (by unfold kf; omega), k.2.2.1 524 _ (by unfold kf; omega), k.2.2.1 525 _ (by unfold kf; omega)]
    exact ⟨h13, h14⟩
  · intro j hj
    have q := h15 j hj
    unfold IMG at q ⊢
    rw [k.2.2.2.1 (c + 31) (by unfold ka; omega), k.2.2.2.1 (c + 132) (by unfold ka; omega), k.2.2.2.1 (c + 131) (by unfold ka; omega)]
    refine ⟨q.1, q.2.1, fun q2 => ?_⟩
    obtain ⟨N, a, b, d⟩ := q.2.2 q2
    exact ⟨N, a, RMt.kp (by unfold mok; omega) b k, d⟩
  · intro j hj
    have q := h16 j hj
    unfold SLT at q ⊢
    rw [k.2.2.1 320 _ (by unfold kf; omega), k.2.2.1 321 _ (by unfold kf; omega), k.2.2.2.1 (c + 146) (by unfold ka; omega), k.2.2.2.1 (c + 145) (by unfold ka; omega), k.2.2.2.2 (c + (122 + 2 * j)) (by unfold ka; omega) (by omega), k.2.2.2.2 (c + 147) (by unfold ka; omega) (by omega)]
    exact q
/-- a call that both answer alike -/
def OK {α : Type} (E : EN) (c : Nat) (f : Option (α × WS)) (g : WS → Option (α × WS)) : Prop := ∃ v S1 S2 x M, f = some (v, S1) ∧ g S1 = some (v, S2) ∧ Inv E c S2 x M
