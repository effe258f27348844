/-! The model's search: all courtings, one after the other -/
def lpF (f : Nat → BW → BW) : Nat → Nat → BW → BW
  | _, 0, B => B
  | v, j + 1, B => lpF f (v + 1) j (f v B)
theorem lpS_F {f : Nat → BW → BW} {B : BW} : lpS f 5 B = lpF f 1 4 (f 0 B) := rfl
theorem MB.fr {c : Nat} {M : Nat → Int32} {B : BW} {S S' : WS} (h : MB c M B S) (g : ∀ f, 539 ≤ f → f ≤ 541 → gi S' f (c + 129) = gi S f (c + 129)) (a : ∀ q, q = c + 129 + 13 ∨ q = c + 129 + 14 → ai S' q = ai S q) : MB c M B S' := by
  obtain ⟨b1, b2, b3⟩ := h
  refine ⟨(g 539 (by omega) (by omega)).trans b1, fun z => ?_, b3⟩
  obtain ⟨c1, c2, c3⟩ := b2 z
  refine ⟨(g 540 (by omega) (by omega)).trans c1, (g 541 (by omega) (by omega)).trans c2, fun s hs => ?_⟩
  rw [a _ (Or.inl rfl), a _ (Or.inr rfl)]
  exact c3 s hs
def TSo (c : Nat) (S0 : WS) (M : Nat → Int32) (C : (Nat → Nat) → Prop) (TS : WS → Option (Int32 × WS)) : Prop := ∀ S c0, MI c S0 M c0 S → alc M c0 → ∃ S1, TS S = some (b2i (C c0), S1) ∧ KP c S S1 ∧ (∀ q, ai S1 q = ai S q) ∧ ∀ f q, f ≠ 528 → gi S1 f q = gi S f q
def CTo (E : EN) (n c : Nat) (LP : Nat → WS → Option (Unit × WS)) (m : Nat) (S : WS) : Option (Unit × WS) :=
  bd (f_X9_nextCourting E n S (c + 129)) fun v S3 => if v = 0 then bd (f_X9_endsCourtings E n S3 (c + 129)) fun _ S5 => some ((), S5) else LP m S3
section TRE
variable {E : EN} {n c : Nat} {S0 S : WS} {x : Nat} {M : Nat → Int32} {c0 : Nat → Nat} {B : BW} {C : (Nat → Nat) → Prop} {TS : WS → Option (Int32 × WS)} {LP : Nat → WS → Option (Unit × WS)}
theorem mod_tree (h0 : Inv E c S0 x M) (hn : 8 ≤ n) (hL : ∀ m S, LP (m + 1) S = bd (TS S) fun v S1 => if v = 0 then CTo E n c LP m S1 else bd (f_X9_meets E n S1 (c + 129)) fun _ S2 => CTo E n c LP m S2) (hT : TSo c S0 M C TS) : ∀ k d, d + k = cS M → ∀ S c0 B, MI c S0 M c0 S → alc M c0 → (∀ s, d ≤ s → c0 s = 0) → MB c M B S → BOK B → bT B + 5 ^ k ≤ 1000000 → ∃ s S' cl, s ≤ 5 ^ k ∧ (∀ m, LP (s + m) S = CTo E n c LP m S') ∧ MI c S0 M cl S' ∧ alc M cl ∧ MB c M (enm M C k d c0 B) S' ∧ nxc M (cS M) cl = nxc M d c0 := by
  have hS := h0.w.lS
  intro k
  induction k with
  | zero =>
    intro d hd S c0 B hI hc hz hB ok hb
    have hd : d = cS M := by omega
    subst hd
    obtain ⟨S1, t1, t2, t3, t4⟩ := hT S c0 hI hc
    have i1 := hI.kp t2 (t3 _)
    have b1 : MB c M B S1 := hB.fr (fun f q1 q2 => t4 f _ (by omega)) (fun q _ => t3 q)
    by_cases q : C c0
    · obtain ⟨S2, m1, m2, m3⟩ := e_X9_meets h0 hn i1 hc b1 ok (by rw [Nat.pow_zero] at hb; exact hb)
      refine ⟨1, S2, c0, Nat.le_refl _, fun m => ?_, m2, hc, ?_, rfl⟩
      · rw [Nat.add_comm, hL, t1, bds, ifb1 q, m1, bds]
      · rw [enm, if_pos q]; exact m3
    · refine ⟨1, S1, c0, Nat.le_refl _, fun m => ?_, i1, hc, ?_, rfl⟩
      · rw [Nat.add_comm, hL, t1, bds, ifb0 q]
      · rw [enm, if_neg q]; exact b1
  | succ k ih =>
    intro d hd S c0 B hI hc hz hB ok hb
    have hdS : d < cS M := by omega
    have p5 : 5 ^ (k + 1) = 5 * 5 ^ k := by rw [Nat.pow_succ, Nat.mul_comm]
    obtain ⟨f, hf⟩ : ∃ f : Nat → BW → BW, f = fun v B => if alw M d v then enm M C k (d + 1) (scd c0 d v) B else B := ⟨_, rfl⟩
    have sd : scd c0 d 0 = c0 := scd_0 (hz d (Nat.le_refl _))
    have ss : ∀ v w, scd (scd c0 d v) d w = scd c0 d w := by
      intro v w
      funext s
      by_cases e : s = d
      · subst e; rw [scd_at, scd_at]
      · rw [scd_un e, scd_un e, scd_un e]
    have nxs : ∀ v, nxc M (d + 1) (scd c0 d v) = match faw M d (5 - (v + 1)) (v + 1) with
        | some v' => (true, scd c0 d v')
        | none => nxc M d c0 := by
      intro v
      rw [nxc, scd_at]
      cases faw M d (5 - (v + 1)) (v + 1) with
      | some v' => show (true, scd (scd c0 d v) d v') = _; rw [ss]
      | none => show nxc M d (scd (scd c0 d v) d 0) = _; rw [ss, sd]
    have R : ∀ j v, v + j = 5 → ∀ S B cl, MI c S0 M cl S → alc M cl → MB c M B S → BOK B → bT B + j * 5 ^ k ≤ 1000000 → (nxc M (cS M) cl = match faw M d j v with
        | some v' => (true, scd c0 d v')
        | none => nxc M d c0) → ∃ s S' cl', s ≤ j * 5 ^ k ∧ (∀ m, CTo E n c LP (s + m) S = CTo E n c LP m S') ∧ MI c S0 M cl' S' ∧ alc M cl' ∧ MB c M (lpF f v j B) S' ∧ nxc M (cS M) cl' = nxc M d c0 := by
      intro j
      induction j with
      | zero =>
        intro v hv S B cl hI hcl hB ok hb hx
        exact ⟨0, S, cl, Nat.zero_le _, fun m => by rw [Nat.zero_add], hI, hcl, hB, hx⟩
      | succ j ihj =>
        intro v hv S B cl hI hcl hB ok hb hx
        have pj : (j + 1) * 5 ^ k = j * 5 ^ k + 5 ^ k := by rw [Nat.add_mul, Nat.one_mul]
        rw [faw] at hx
        by_cases a : alw M d v
        · rw [if_pos a] at hx
          have hx : nxc M (cS M) cl = (true, scd c0 d v) := hx
          obtain ⟨S3, n1, n2, n3, n4⟩ := e_X9_next h0 hn hI hcl
          rw [hx] at n1 n2
          have b3 : MB c M B S3 := hB.fr (fun f q1 q2 => n3 f _) (fun q hq => n4 q (by omega))
          have fv : f v B = enm M C k (d + 1) (scd c0 d v) B := by rw [hf]; exact if_pos a
          have av := alc_scd hc a
          obtain ⟨s1, S4, cl4, r1, r2, r3, r4, r5, r6⟩ := ih (d + 1) (by omega) S3 (scd c0 d v) B n2 av (fun s hs => by rw [scd_un (by omega)]; exact hz s (by omega)) b3 ok (by omega)
          have tot := enm_tot (M := M) (C := C) k (d + 1) (scd c0 d v) B
          have ok4 := enm_ok (M := M) (C := C) k (d + 1) (scd c0 d v) B (by omega) ok
          rw [nxs v, show 5 - (v + 1) = j by omega] at r6
          obtain ⟨s2, S5, cl5, u1, u2, u3, u4, u5, u6⟩ := ihj (v + 1) (by omega) S4 (enm M C k (d + 1) (scd c0 d v) B) cl4 r3 r4 r5 ok4 (by omega) r6
          refine ⟨s1 + s2, S5, cl5, by omega, fun m => ?_, u3, u4, ?_, u6⟩
          · rw [← u2 m, ← r2 (s2 + m), Nat.add_assoc]
            unfold CTo
            rw [n1, bds]
            rfl
          · rw [lpF, fv]; exact u5
        · rw [if_neg a] at hx
          have fv : f v B = B := by rw [hf]; exact if_neg a
          obtain ⟨s2, S5, cl5, u1, u2, u3, u4, u5, u6⟩ := ihj (v + 1) (by omega) S B cl hI hcl hB ok (by omega) hx
          exact ⟨s2, S5, cl5, by omega, u2, u3, u4, by rw [lpF, fv]; exact u5, u6⟩
    obtain ⟨s1, S4, cl4, r1, r2, r3, r4, r5, r6⟩ := ih (d + 1) (by omega) S c0 B hI hc (fun s hs => hz s (by omega)) hB ok (by omega)
    have tot := enm_tot (M := M) (C := C) k (d + 1) c0 B
    have ok4 := enm_ok (M := M) (C := C) k (d + 1) c0 B (by omega) ok
    have n0 := nxs 0
    rw [sd] at n0
    obtain ⟨s2, S5, cl5, u1, u2, u3, u4, u5, u6⟩ := R 4 1 (by omega) S4 (enm M C k (d + 1) c0 B) cl4 r3 r4 r5 ok4 (by omega) (r6.trans n0)
    refine ⟨s1 + s2, S5, cl5, by omega, fun m => ?_, u3, u4, ?_, u6⟩
    · rw [← u2 m, ← r2 (s2 + m), Nat.add_assoc]
    · rw [enm, lpS_F, if_pos alw_0, sd, ← hf]; exact u5
theorem mod_search (h0 : Inv E c S0 x M) (hn : 8 ≤ n) (hL : ∀ m S, LP (m + 1) S = bd (TS S) fun v S1 => if v = 0 then CTo E n c LP m S1 else bd (f_X9_meets E n S1 (c + 129)) fun _ S2 => CTo E n c LP m S2) (hT : TSo c S0 M C TS) (hI : MI c S0 M (fun _ => 0) S) (hB : gi S 539 (c + 129) = 0) {m : Nat} (hm : 100000 ≤ m) : ∃ S', LP m S = some ((), S') ∧ KP c S0 S' ∧ MB c M (enm M C (cS M) 0 (fun _ => 0) B00) S' := by
  have hS := h0.w.lS
  have p7 : 5 ^ (cS M) ≤ 5 ^ 7 := Nat.pow_le_pow_right (by decide) hS
  have e7 : (5 : Nat) ^ 7 = 78125 := by decide
  obtain ⟨s, S1, cl, r1, r2, r3, r4, r5, r6⟩ := mod_tree h0 hn hL hT (cS M) 0 (by omega) S (fun _ => 0) B00 hI (fun s _ => alw_0) (fun _ _ => rfl) ⟨hB, fun z => absurd rfl z, fun _ _ _ => rfl⟩ (fun z => absurd rfl z) (by show 0 + _ ≤ _; omega)
  obtain ⟨S3, n1, n2, n3, n4⟩ := e_X9_next h0 hn r3 r4
  rw [r6] at n1 n2
  obtain ⟨S4, b1, b2, b3, b4⟩ := n2.back h0 (fun s _ => alw_0) hn
  refine ⟨S4, ?_, b2, r5.fr (fun f q1 q2 => (b3 f _).trans (n3 f _)) (fun q hq => (b4 q (by omega)).trans (n4 q (by omega)))⟩
  have e := r2 (m - s)
  rw [show s + (m - s) = m by omega] at e
  rw [e]
  unfold CTo
  rw [n1, bds, if_pos, b1, bds]
  rfl
end TRE
