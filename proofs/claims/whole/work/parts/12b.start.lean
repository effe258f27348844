/-! THE CLAIM'S START, but for the pure statement hlaw -/
def S_init (E : EN) : WS := i_X9_init_129 E (zA (i_X8_init_0 E (zA ((fun _ _ => 0), (fun _ _ => 0), (fun _ _ => none), (fun _ _ => 0), (fun _ _ => 0), (fun _ _ => none)) (eW E + 0))) (eW E + 129))
set_option maxRecDepth 100000 in
set_option maxHeartbeats 40000000 in
theorem whole_start_open (hlaw : ∀ (E : EN) (L : Nat) (xs : Nat → Int32), L ≤ 3072 → ∃ (n : Nat) (S' : WS), f_L_law_L18 (EE E 149) n L xs n (S_init E) (eW E + 0) (eW E + 129) 0 = some ((1 : Int32), S')) {p : Program} {e : Env} {s : State} {m : MethodId} {below : List Frame} {meth : Method} {c : Code} (l : Launch) (hflags : l.flags = flags0) {b L : Nat} {xs : Nat → Int32} (hL : L ≤ 3072) (C0 : lw_At p s m meth c b L xs) : W p l e room_1 s m #[Value.ref b] below meth c s.heap [] 0 0 (lw_Z below #[Value.ref b] s) (entryFrame m ([Value.ref b] : List Value).toArray 4) := by
  obtain ⟨hx, hb, hr, hml, hown, hts, hX, hbl, hlocks, hgv⟩ := C0
  have hG : ∀ w ∈ G0, w.before #[Value.ref b] s = true := fun w hw => hts w (List.mem_filter.mp hw).1
  obtain ⟨D, cy, hK⟩ := st_K hts
  obtain ⟨SK, SV, hSS, hSK⟩ := st_S hgv
  obtain ⟨hZ1, hZ2⟩ := st_Z hts hgv
  obtain ⟨E, hE⟩ : ∃ E : EN, E = (D, cy, [], (fun _ => 0), (fun _ => 0), SK, SV, s.heap.size) := ⟨_, rfl⟩
  have hKE : va_K (eD E) vwCl (tys E) s := hK E (by rw [hE]) (by rw [hE])
  have hWE : eW E = s.heap.size := by rw [hE]
  have hSx : Sx E s := by
    rw [hE]
    exact ⟨hSS, st_R hts hgv hSK, hZ1, hZ2⟩
  have hNw : Nw s := st_Nw hts
  have hFr : (fun q => s.heap.size ≤ q) = fun q => eW E ≤ q := by rw [hWE]
  obtain ⟨A, hA⟩ : ∃ A : AM, A = (p, l, e, room_1, s, m, #[Value.ref b], below, meth, c, (fun q => s.heap.size ≤ q), 149, 9278) := ⟨_, rfl⟩
  have C : Cz A E code 4 RL 20 718 149 9278 := by
    rw [hA]
    exact ⟨hx, hb, hml, hown, hG, hKE, hNw, hSx, Nat.le_of_ble_eq_true rfl, Nat.le_of_ble_eq_true rfl, Nat.le_of_ble_eq_true rfl, Nat.le_of_ble_eq_true rfl, by rw [hWE]; exact Nat.le_refl _, va_AO.of (hts (Cond.arrayOver (.object "DowrySteps$Mountain")) (List.mem_of_getElem? (i := 324) (by decide +kernel))), va_AO.of (hts (Cond.arrayOver (.object "DowrySteps$Slot")) (List.mem_of_getElem? (i := 326) (by decide +kernel)))⟩
  have key : Gz A E 0 0 0 4 (lw_Z below #[Value.ref b] s) ((fun _ _ => 0), (fun _ _ => 0), (fun _ _ => none), (fun _ _ => 0), (fun _ _ => 0), (fun _ _ => none)) 0 [(0, .ref b)] [] := by
    refine z_new C (T := TX8) tyX8 rfl inGX8 tyX8_ok (mG 168 (by decide +kernel) rfl) (mG 169 (by decide +kernel) rfl) (mG 150 (by decide +kernel) rfl) rfl (by decide) zdef_X8 (by decide) (by decide) dL_law_0 ?_
    refine z_dup C dL_law_3 rfl ?_
    refine z_callI (As := []) (rest := [.ref (eW E + 0)]) C (c_i_X8_init_0 _ E _) dL_law_4 (Or.inl (mG 170 (by decide +kernel) rfl)) rfl (mG 171 (by decide +kernel) rfl) (mG 150 (by decide +kernel) rfl) (mG 172 (by decide +kernel) rfl) (by decide +kernel) rfl rfl ⟨by decide, by decide⟩ (Nat.le_of_ble_eq_true rfl) (by decide) (by decide) ?_
    refine z_astore_n C [(1, .ref (eW E + 0)), (0, .ref b)] dL_law_7 (by decide) rfl ?_
    refine z_new C (T := TX9) tyX9 rfl inGX9 tyX9_ok (mG 1255 (by decide +kernel) rfl) (mG 1256 (by decide +kernel) rfl) (mG 159 (by decide +kernel) rfl) rfl (by decide) zdef_X9 (by decide) (by decide) dL_law_8 ?_
    refine z_dup C dL_law_11 rfl ?_
    refine z_callI (As := []) (rest := [.ref (eW E + 129)]) C (c_i_X9_init_129 _ E _) dL_law_12 (Or.inl (mG 1257 (by decide +kernel) rfl)) rfl (mG 1258 (by decide +kernel) rfl) (mG 159 (by decide +kernel) rfl) (mG 1259 (by decide +kernel) rfl) (by decide +kernel) rfl rfl ⟨by decide, by decide⟩ (Nat.le_of_ble_eq_true rfl) (by decide) (by decide) ?_
    refine z_astore_n C [(2, .ref (eW E + 129)), (1, .ref (eW E + 0)), (0, .ref b)] dL_law_15 (by decide) rfl ?_
    refine z_iconst C (0 : Int32) dL_law_16 (by decide) ?_
    refine z_istore_n C [(3, .int 0), (2, .ref (eW E + 129)), (1, .ref (eW E + 0)), (0, .ref b)] dL_law_17 (by decide) rfl ?_
    intro H locs la hW hz hS hl
    obtain ⟨n, S', hrun⟩ := hlaw E L xs hL
    have C' : Cx A (EE E 149) code 4 RL 20 718 := by
      rw [hA]
      exact ⟨hx, hb, hml, hown, hG, hKE, hNw, ndEE, fun q hq => by have := (mEE.mp hq).1; rw [hWE] at this; exact this, Nat.le_of_ble_eq_true rfl, Nat.le_of_ble_eq_true rfl, Nat.le_of_ble_eq_true rfl, Nat.le_of_ble_eq_true rfl, hSx, hFr, fun q hq => (mEE.mp hq).1, by rw [show eW (EE E 149) = eW E from rfl, hWE]; exact Nat.le_refl _⟩
    have X : LX A b L xs := by
      rw [hA]
      exact ⟨hX, hbl, Nat.not_le.mpr hbl, hr, hlocks, rfl, rfl, Nat.le_of_ble_eq_true rfl, Nat.le_of_ble_eq_true rfl, fun q h => h⟩
    have hl' : lv_has la 4 [(0, .ref b), (1, .ref (eW E + 0)), (2, .ref (eW E + 129)), (3, .int 0)] := lv_sub hl [3, 2, 1, 0] rfl
    have run := p_L_law_L18 (n := n) C' X n (S_init E) (eW E + 0) (eW E + 129) 0 (tEE (by decide) rfl) (tEE (by decide) rfl) H locs la hW (by rw [hA] at hS ⊢; rw [← hFr] at hS; exact hS) hl'
    have run2 := W.wk run (fun t h => h _ hrun rfl)
    rw [hA] at run2 ⊢
    exact run2
  have h0 : W p l e room_1 s m #[Value.ref b] below meth c s.heap [] 0 0 (lw_Z below #[Value.ref b] s) (F0 m 0 ((lg_sl [Value.ref b] ++ List.replicate (4 - (lg_sl [Value.ref b]).length) Slot.unset).toArray) []) := by
    have k1 := key s.heap [] _ ⟨pl_P.mpr (fun a ha => by have := mEE.mp ha; omega), ⟨fun f a b ha => by have := mEE.mp ha; omega, fun a i b ha => by have := mEE.mp ha; omega, fun a i b ha => by have := mEE.mp ha; omega⟩⟩ (by rw [hWE]; rfl) (by rw [hA]; exact va_S.rf) (lv_entry [Value.ref b] (n := 4) (Nat.le_of_ble_eq_true rfl))
    rw [hA] at k1
    exact k1
  rw [lg_entry_eq]
  exact h0
