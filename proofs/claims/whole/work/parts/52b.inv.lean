/-! What holds between calls holds at the start -/
def zW : WS := ((fun _ _ => 0), (fun _ _ => 0), (fun _ _ => none), (fun _ _ => 0), (fun _ _ => 0), (fun _ _ => none))
def jS : WS := j_X9_init_129 (zA (j_X8_init_0 (zA zW 0)) 129)
theorem Rl.zW {w : Nat} : Rl w zW zW := ⟨fun _ _ => rfl, fun _ _ => rfl, fun _ _ => rfl, fun _ => rfl, fun _ _ => rfl, fun _ => rfl⟩
theorem Rl.S {E : EN} : Rl (eW E) (S_init E) jS := by
  unfold S_init jS
  refine r_X9_init_129 ?_
  refine Rl.z ?_
  refine r_X8_init_0 ?_
  refine Rl.z ?_
  exact Rl.zW
theorem jS_1 : ∀ t, t ∈ shl → gr jS t.1 t.2.1 = some t.2.2 := by decide +kernel
theorem jS_2 : ∀ x, x ∈ mtl → ∀ k, k < 12 → gr jS (135 + k) x = some (x + 1 + k) := by decide +kernel
theorem jS_3 : ∀ k, k < 3 → ar jS 30 k = some (82 + 13 * k) := by decide +kernel
theorem jS_4 : ∀ k, k < 4 → ar jS 32 k = some (121 + 2 * k) := by decide +kernel
theorem jS_5 : gr jS 451 0 = some 4 ∧ gr jS 452 0 = some 17 := by decide +kernel
theorem jS_6 : ∀ k, k < 7 → gi jS (128 + k) 4 = 0 := by decide +kernel
theorem jS_7 : gi jS 527 129 = -1 ∧ gi jS 449 0 = 0 ∧ gi jS 517 129 = 0 ∧ gi jS 198 2 = 0 ∧ gi jS 524 129 = 0 ∧ gi jS 199 2 = -1 ∧ gi jS 525 129 = -1 := by decide +kernel
theorem jS_8 : ∀ k, k < 4 → gi jS 320 (121 + 2 * k) = 0 ∧ gi jS 321 (121 + 2 * k) = -1 ∧ ai jS 145 k = -1 := by decide +kernel
def M0 : Nat → Int32 := fun _ => 0
theorem M0_0 : (0 : Int32) = nI 0 := rfl
theorem cM0 : cP M0 = 0 ∧ cY M0 = 0 ∧ cA M0 = 0 ∧ cB M0 = 0 ∧ cS M0 = 0 ∧ cW M0 = 0 := by decide
theorem WF_M0 : WF M0 := by
  obtain ⟨e0, e1, e2, e3, e4, e5⟩ := cM0
  unfold WF
  rw [e0, e1, e2, e3, e4, e5]
  exact ⟨⟨rfl, rfl, rfl, rfl, rfl, rfl⟩, ⟨by omega, by omega, by omega, by omega, by omega, by omega⟩, fun _ => ⟨rfl, rfl, rfl, rfl, rfl, rfl⟩, fun h => absurd h (by omega), fun p _ => ⟨0, by omega, rfl⟩, fun p _ => ⟨0, by omega, rfl⟩, fun p h => absurd h (by omega), fun p q h _ _ => absurd h (by omega), fun b h => absurd h (by omega), fun s h => absurd h (by omega), fun w h => absurd h (by omega), fun s _ => Or.inl rfl, ⟨0, by omega, rfl⟩⟩
theorem LE_init {E : EN} : LE (EE E 149) (eW E) := fun i _ => nEE
theorem SH_init {E : EN} : SH (S_init E) (eW E) := by
  obtain ⟨h1, h2, h3, h4, h5, h6⟩ := Rl.S (E := E)
  refine ⟨fun t ht => ?_, fun x hx k hk => ?_, fun k hk => ?_, fun k hk => ?_⟩
  · rw [h2, jS_1 t ht]; rfl
  · rw [h2, jS_2 x hx k hk]
    show some (eW E + (x + 1 + k)) = _
    rw [show eW E + (x + 1 + k) = eW E + x + 1 + k by omega]
  · rw [h3, jS_3 k hk]
    show some (eW E + (82 + 13 * k)) = _
    rw [show eW E + (82 + 13 * k) = eW E + 82 + 13 * k by omega]
  · rw [h3, jS_4 k hk]
    show some (eW E + (121 + 2 * k)) = _
    rw [show eW E + (121 + 2 * k) = eW E + 121 + 2 * k by omega]
theorem nE {E : EN} (i : Nat) {q : Nat} (h : (Kt.getD i (99, 0)).2 = q) : eN (EE E 149) (eW E + i) = q := nEE.trans h
theorem RMt_init {E : EN} : RMt (EE E 149) (S_init E) (eW E + 4) M0 := by
  have hs := SH_init (E := E)
  obtain ⟨h1, h2, h3, h4, h5, h6⟩ := Rl.S (E := E)
  have z : ∀ a p, a ≠ 145 → ai (S_init E) (eW E + a) p = 0 := fun a p ha => by rw [h5 a ha]
  refine ⟨⟨fun k hk => hs.2.1 4 (by decide) k hk, nE 5 rfl, nE 6 rfl, nE 7 rfl, nE 8 rfl, nE 9 rfl, nE 10 rfl, nE 11 rfl, nE 12 rfl, nE 13 rfl, nE 14 rfl, nE 15 rfl, nE 16 rfl⟩, ⟨?_, ?_, ?_, ?_, ?_, ?_, ?_⟩, fun p _ => z 5 p (by decide), fun p _ => ⟨z 6 p (by decide), z 7 p (by decide)⟩, fun p _ => ⟨z 8 p (by decide), z 9 p (by decide)⟩, fun p _ => ⟨z 10 p (by decide), z 11 p (by decide), z 12 p (by decide)⟩, fun p _ => z 13 p (by decide), fun p _ => z 14 p (by decide), fun p _ => ⟨z 15 p (by decide), z 16 p (by decide)⟩⟩
  · rw [h1]; exact jS_6 0 (by decide)
  · rw [h1]; exact jS_6 1 (by decide)
  · rw [h1]; exact jS_6 2 (by decide)
  · rw [h1]; exact jS_6 3 (by decide)
  · rw [h1]; exact jS_6 4 (by decide)
  · rw [h1]; exact jS_6 5 (by decide)
  · rw [h1]; exact jS_6 6 (by decide)
theorem Inv_init {E : EN} : Inv (EE E 149) (eW E) (S_init E) 4 M0 := by
  have hs := SH_init (E := E)
  have hm := RMt_init (E := E)
  obtain ⟨h1, h2, h3, h4, h5, h6⟩ := Rl.S (E := E)
  obtain ⟨d1, d2, d3, d4, d5, d6, d7⟩ := jS_7
  have z : ∀ a p, a ≠ 145 → ai (S_init E) (eW E + a) p = 0 := fun a p ha => by rw [h5 a ha]
  refine ⟨LE_init, hs, ⟨Or.inl rfl, ?_, ?_⟩, WF_M0, hm, ⟨hs.g 513 129 130 (by decide), nE 130 rfl, fun i _ => z 130 i (by decide), ?_⟩, ⟨⟨0, by omega, ?_, ?_⟩, fun i _ => ⟨?_, ?_⟩⟩, ⟨?_, ?_⟩, fun k hk => ⟨?_, ?_, ?_⟩, fun k hk => ⟨?_, ?_, ⟨0, by omega, ?_⟩, Or.inl ?_, fun i _ => ?_⟩⟩
  · rw [h2, jS_5.1]; rfl
  · rw [h2, jS_5.2]; rfl
  · rw [h1]; exact d1
  · rw [h1]; exact d2
  · rw [h1]; exact d3
  · rw [z 1 i (by decide), z 133 i (by decide)]
  · rw [z 1 i (by decide)]; show (0 : Int32) = (0 : Int32).toInt8.toInt32; rfl
  · rw [h1, h1, d4, d5]
  · rw [h1, h1, d6, d7]
  · rw [z 31 k (by decide), z 132 k (by decide)]
  · exact Or.inl (z 31 k (by decide))
  · exact fun q => absurd (z 31 k (by decide)) q
  · rw [h1, (jS_8 k hk).1, z 146 k (by decide)]
  · rw [h1, (jS_8 k hk).2.1, h4, (jS_8 k hk).2.2]
  · exact z 146 k (by decide)
  · rw [h4]; exact (jS_8 k hk).2.2
  · rw [h6, h6]
