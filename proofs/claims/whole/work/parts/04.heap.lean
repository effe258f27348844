/-! THE HEAP'S ROWS: fields, arrays, constants, ends -/
/-- a field as the tables know it: own's pool entry idx is the field numbered f, of kind t (0 int, 1 long, 2 a reference), of class ci, of type ty; w: it may be written -/
def FL (own : String) (idx f t ci : Nat) (ty : FieldType) (fin : Bool) : Prop := ∃ (C : String) (T : u_T) (N k : Nat) (tys0 : Nat → FieldType), vwCl[ci]? = some (C, T, N) ∧ (∀ w ∈ u_ws C T N, w ∈ G0) ∧ (∀ k, k < N → parseFieldDescriptor (T k).2.2.1 = some (tys0 k)) ∧ (∀ a, a < N → ∀ b, b < N → a ≠ b → (T a).2.1 ≠ (T b).2.1) ∧ k < N ∧ f = 64 * ci + k ∧ (tg ci)[k]? = some t ∧ tys0 k = ty ∧ (T k).1 = C ∧ (T k).2.2.2 = fin ∧ ci < 9 ∧ k < 64 ∧
  ((Cond.fieldLink own idx C (T k).2.1 (T k).2.2.1 ∈ G0) ∨ ∃ host, Cond.fieldLinkNest own idx C (T k).2.1 (T k).2.2.1 host ∈ N0)
theorem ob_get {S : WS} {ci k t a : Nat} (h : (tg ci)[k]? = some t) : (ob S ci a)[k]? = some (fv S t (64 * ci + k) a) := by
  unfold ob
  rw [List.getElem?_mapIdx, h]; rfl
theorem ce_obj {E : EN} {S : WS} {a ci : Nat} (h : Ty E a ci) (hc : ci < 9) : ce E S a = .inr (ci, ob S ci a) := by
  unfold ce; rw [h.2, if_pos hc]
theorem w_get {E : EN} {S : WS} {a : Nat} (h : a ∈ eL E) : ∃ k : Nat, (va_pl (eL E) (ce E S))[k]? = some (a, ce E S a) := va_pl_get (X := []) (f := ce E S) h
theorem pl_D {L : List Nat} {f : Nat → va_E} {A : Nat → Prop} (hn : L.Nodup) (hA : ∀ q ∈ L, A q) : va_D A (va_pl L f) := by
  refine ⟨fun i j p q hp hq e => ?_, fun k q hk => ?_⟩
  · unfold va_pl at hp hq
    rw [List.getElem?_map] at hp hq
    cases h1 : L[i]? with
    | none => rw [h1] at hp; cases hp
    | some x =>
      cases h2 : L[j]? with
      | none => rw [h2] at hq; cases hq
      | some y =>
        rw [h1] at hp; rw [h2] at hq
        cases hp; cases hq
        have e' : x = y := e
        subst e'
        obtain ⟨hi, hx⟩ := List.getElem?_eq_some_iff.mp h1
        obtain ⟨hj, hy⟩ := List.getElem?_eq_some_iff.mp h2
        have hp := List.pairwise_iff_getElem.mp hn
        rcases Nat.lt_trichotomy i j with z | z | z
        · exact absurd (hx.trans hy.symm) (hp i j hi hj z)
        · exact z
        · exact absurd (hy.trans hx.symm) (hp j i hj hi z)
  · unfold va_pl at hk
    rw [List.getElem?_map] at hk
    cases h1 : L[k]? with
    | none => rw [h1] at hk; cases hk
    | some x => rw [h1] at hk; cases hk; exact hA x (List.mem_of_getElem? h1)
theorem pl_set {L : List Nat} {f g : Nat → va_E} {a k : Nat} {e : va_E} (hn : L.Nodup) (h : a ∈ L) (hk : (va_pl L f)[k]? = some (a, f a)) (he : ∀ b, va_up f a e b = g b) : (va_pl L f).set k (a, e) = va_pl L g := by
  have := va_pl_set (X := []) (A := fun _ => True) (f := f) (a := a) (k := k) (e := e) (pl_D hn (fun _ _ => trivial)) h hk
  rw [List.nil_append, List.nil_append] at this
  rw [this]
  exact va_pl_congr he
/-- a field is set -/
theorem ob_set {S S' : WS} {ci k t a : Nat} {v : Value} (h : (tg ci)[k]? = some t) (hs : fv S' t (64 * ci + k) a = v) (ho : ∀ j t', j ≠ k → fv S' t' (64 * ci + j) a = fv S t' (64 * ci + j) a) : (ob S ci a).set k v = ob S' ci a := by
  apply List.ext_getElem?
  intro j
  by_cases hj : j = k
  · subst hj
    have hl : j < (ob S ci a).length := (List.getElem?_eq_some_iff.mp (ob_get (S := S) (a := a) h)).1
    rw [List.getElem?_set_self hl, ob_get h, hs]
  · rw [List.getElem?_set_ne (Ne.symm hj)]
    unfold ob
    rw [List.getElem?_mapIdx, List.getElem?_mapIdx]
    cases h2 : (tg ci)[j]? with
    | none => rfl
    | some t' => exact congrArg some (ho j t' hj).symm
theorem ob_off {S S' : WS} {ci b : Nat} (ho : ∀ t' f, fv S' t' f b = fv S t' f b) : ob S' ci b = ob S ci b := by
  unfold ob
  congr 1
  funext k t
  exact ho t _
theorem ce_set {E : EN} {S S' : WS} {ci k t a : Nat} {v : Value} (ta : Ty E a ci) (hc : ci < 9) (h : (tg ci)[k]? = some t) (hs : fv S' t (64 * ci + k) a = v) (ho : ∀ j t', j ≠ k → fv S' t' (64 * ci + j) a = fv S t' (64 * ci + j) a) (hb : ∀ b t' f, b ≠ a → fv S' t' f b = fv S t' f b) (hr : ∀ b, ct E S' b = ct E S b) : ∀ b, va_up (ce E S) a (.inr (ci, (ob S ci a).set k v)) b = ce E S' b := by
  intro b
  by_cases h1 : b = a
  · subst h1
    rw [va_up_self, ce_obj ta hc, ob_set h hs ho]
  · rw [va_up_ne _ _ h1]
    unfold ce
    rw [hr b, ob_off (S' := S') (S := S) (fun t' f => hb b t' f h1)]
theorem ce_arr {E : EN} {S : WS} {a k : Nat} (h : Ty E a k) (hk : 9 ≤ k) : ce E S a = .inl (eC E k, eN E a, ct E S a) := by
  unfold ce; rw [h.2, if_neg (by omega)]
theorem ce_wr {E : EN} {S S' : WS} {k a : Nat} (ta : Ty E a k) (hk : 9 ≤ k) (hf : ∀ b t' f, fv S' t' f b = fv S t' f b) (hr : ∀ b, b ≠ a → ct E S' b = ct E S b) : ∀ b, va_up (ce E S) a (.inl (eC E k, eN E a, ct E S' a)) b = ce E S' b := by
  intro b
  by_cases h1 : b = a
  · subst h1
    rw [va_up_self, ce_arr ta hk]
  · rw [va_up_ne _ _ h1]
    unfold ce
    rw [hr b h1, ob_off (S' := S') (S := S) (fun t' f => hf b t' f)]
theorem ct_i {E : EN} {S : WS} {a : Nat} (h : eK E a < 13) (h2 : eK E a ≠ 11) : ct E S a = .inl (ai S a) := by
  unfold ct; rw [if_neg h2, if_pos h]
theorem ct_j {E : EN} {S : WS} {a : Nat} (h : eK E a = 11) : ct E S a = .inr (.inl (aj S a)) := by
  unfold ct; rw [if_pos h]
theorem ct_r {E : EN} {S : WS} {a : Nat} (h : ¬ eK E a < 13) : ct E S a = .inr (.inr (.inr (.inr (ar S a)))) := by
  unfold ct; rw [if_neg (by omega), if_neg h]
theorem u2_same {α : Type} {m : Nat → Nat → α} {f a : Nat} {v : α} : u2 m f a v f a = v := by simp [u2]
theorem u2_off {α : Type} {m : Nat → Nat → α} {f a g b : Nat} {v : α} (h : g ≠ f ∨ b ≠ a) : u2 m f a v g b = m g b := by
  unfold u2; rw [if_neg]; rintro ⟨h1, h2⟩; rcases h with h | h <;> contradiction
section HROWS
variable {A : AM} {E : EN} {nL : Nat} {ρ : Type} {Qf : ρ × WS → State → Prop} {o : Option (ρ × WS)} {S : WS} {pc : Nat} {ls : List (Nat × Value)} {st : List Value} {cc : ByteArray} {own : String} {fr lo : Nat}
/-- reading a field, whatever its kind -/
theorem r_get0 (C : Cx A E cc nL own fr lo) {idx f t ci a : Nat} {ty : FieldType} {fin : Bool} {v : Value} (F : FL own idx f t ci ty fin) (d : decode cc pc = .ok (.getfield idx, 3)) (ta : Ty E a ci) (hv : fv S t f a = v) (g : Gd A E nL Qf o S (pc + 3) ls (v :: st)) : Gd A E nL Qf o S pc ls (.ref a :: st) := by
  obtain ⟨Cn, T, N, k, ty0, hcl, hin, hty, hnm, hk, hf, htg, -, hT1, -, hci, -, hl⟩ := F
  intro H locs la hW hS hl0
  obtain ⟨q, hq⟩ := w_get (S := S) ta.1
  rw [ce_obj ta hci] at hq
  subst hf
  have hg := ob_get (S := S) (a := a) htg
  rw [hv] at hg
  rcases hl with hl | ⟨host, hl⟩
  · exact va_get (D := eD E) (cl := vwCl) (tys := tys E) C.1 C.2.1 C.2.2.2.2.1 hin C.2.2.2.1 C.2.2.2.2.2.1 hW.1 q hq hcl k hk (C.2.2.2.2.1 _ hl) (fun x h => by rw [hT1] at h; exact h) hg d (g H locs la hW hS hl0)
  · exact va_getN (D := eD E) (cl := vwCl) (tys := tys E) C.1 C.2.1 C.2.2.2.2.1 hin C.2.2.2.1 C.2.2.2.2.2.1 hW.1 q hq hcl k hk (va_Nw.use rfl (C.2.2.2.2.2.2.1 _ hl)) (fun x h => by rw [hT1] at h; exact h) hg d (g H locs la hW hS hl0)
theorem r_geti (C : Cx A E cc nL own fr lo) {idx f ci a : Nat} {ty : FieldType} {fin : Bool} (F : FL own idx f 0 ci ty fin) (d : decode cc pc = .ok (.getfield idx, 3)) (ta : Ty E a ci) (g : Gd A E nL Qf o S (pc + 3) ls (.int (gi S f a) :: st)) : Gd A E nL Qf o S pc ls (.ref a :: st) := r_get0 C F d ta rfl g
theorem r_getj (C : Cx A E cc nL own fr lo) {idx f ci a : Nat} {ty : FieldType} {fin : Bool} (F : FL own idx f 1 ci ty fin) (d : decode cc pc = .ok (.getfield idx, 3)) (ta : Ty E a ci) (g : Gd A E nL Qf o S (pc + 3) ls (.long (gj S f a) :: st)) : Gd A E nL Qf o S pc ls (.ref a :: st) := r_get0 C F d ta rfl g
theorem r_getr (C : Cx A E cc nL own fr lo) {idx f ci a : Nat} {ty : FieldType} {fin : Bool} {k : Nat → Option (ρ × WS)} (F : FL own idx f 2 ci ty fin) (d : decode cc pc = .ok (.getfield idx, 3)) (ta : Ty E a ci) (g : ∀ b, Ty E b (rk f) → Gd A E nL Qf (k b) S (pc + 3) ls (.ref b :: st)) : Gd A E nL Qf ((gr S f a).bind k) S pc ls (.ref a :: st) := by
  intro H locs la hW hS hl
  cases h : gr S f a with
  | none => exact gn (Qf := Qf) H locs la hW hS hl
  | some b =>
    obtain ⟨Cn, T, N, kk, ty0, hcl, hin, hty, hnm, hk, hf, htg, h1, hT1, h2, hci, hk64, hl2⟩ := F
    have tb : Ty E b (rk f) := hW.2.1 f a b ta.1 (by rw [ta.2, hf]; omega) h
    exact r_get0 (v := .ref b) C ⟨Cn, T, N, kk, ty0, hcl, hin, hty, hnm, hk, hf, htg, h1, hT1, h2, hci, hk64, hl2⟩ d ta (by show va_rf (gr S f a) = _; rw [h]; rfl) (g b tb) H locs la hW hS hl
/-- writing a field, whatever its kind -/
theorem r_put0 (C : Cx A E cc nL own fr lo) {idx f t ci a : Nat} {ty : FieldType} {v : Value} {S' : WS} (F : FL own idx f t ci ty false) (d : decode cc pc = .ok (.putfield idx, 3)) (ta : Ty E a ci) (hn : narrow ty v = v) (hfit : fits ty v = true)
    (hs : fv S' t f a = v) (ho : ∀ g t', g ≠ f → fv S' t' g a = fv S t' g a) (hb : ∀ b t' f, b ≠ a → fv S' t' f b = fv S t' f b) (hr : ∀ b, ct E S' b = ct E S b) (hWT : WT E S → WT E S') (g : Gd A E nL Qf o S' (pc + 3) ls st) : Gd A E nL Qf o S pc ls (v :: .ref a :: st) := by
  obtain ⟨Cn, T, N, k, ty0, hcl, hin, hty, hnm, hk, hf, htg, hte, hT1, hfin, hci, -, hl⟩ := F
  intro H locs la hW hS hl0
  obtain ⟨q, hq⟩ := w_get (S := S) ta.1
  have hq0 := hq
  rw [ce_obj ta hci] at hq
  subst hf
  have hlen : k < (ob S ci a).length := (List.getElem?_eq_some_iff.mp (ob_get (S := S) (a := a) htg)).1
  have hnd := C.2.2.2.2.2.2.2.1
  have hDD : va_D (amF A) (va_pl (eL E) (ce E S)) := pl_D hnd C.2.2.2.2.2.2.2.2.1
  have hset : (va_pl (eL E) (ce E S)).set q (a, .inr (ci, (ob S ci a).set k v)) = va_pl (eL E) (ce E S') :=
    pl_set hnd ta.1 hq0 (ce_set ta hci htg hs (fun j t' hj => ho _ t' (by omega)) hb hr)
  have fin : ∀ (H1 : Heap) (locs1 : List Loc), va_P (eD E) vwCl ((va_pl (eL E) (ce E S)).set q (a, .inr (ci, (ob S ci a).set k v))) H1 → va_D (amF A) ((va_pl (eL E) (ce E S)).set q (a, .inr (ci, (ob S ci a).set k v))) → va_S (amF A) (ams A).heap H1 locs1 → W (amp A) (aml A) (ame A) (amR A) (ams A) (amm A) (ama A) (amb A) (amt A) (amc A) H1 locs1 (amk A) (amn A) (fun t => ∀ x, o = some x → Qf x t) (F0 (amm A) (pc + 3) la st) := by
    intro H1 locs1 h1 _ h3
    rw [hset] at h1
    exact g H1 locs1 la ⟨h1, hWT hW.2⟩ h3 hl0
  have hd : parseFieldDescriptor (T k).2.2.1 = some ty := by rw [hty k hk, hte]
  rcases hl with hl | ⟨host, hl⟩
  · exact va_put (D := eD E) (cl := vwCl) (tys := tys E) C.1 C.2.1 C.2.2.2.2.1 hin ty0 hty hnm C.2.2.2.1 C.2.2.2.2.2.1 hW.1 hDD hS q hq hcl k hk (C.2.2.2.2.1 _ hl) (fun x h => by rw [hT1] at h; exact h) hfin hd hn hfit hlen d fin
  · exact va_putN (D := eD E) (cl := vwCl) (tys := tys E) C.1 C.2.1 C.2.2.2.2.1 hin ty0 hty hnm C.2.2.2.1 C.2.2.2.2.2.1 hW.1 hDD hS q hq hcl k hk (va_Nw.use rfl (C.2.2.2.2.2.2.1 _ hl)) (fun x h => by rw [hT1] at h; exact h) hfin hd hn hfit hlen d fin
theorem r_puti (C : Cx A E cc nL own fr lo) {idx f ci a : Nat} {v : Int32} {k : WS → Option (ρ × WS)} (F : FL own idx f 0 ci .int false) (d : decode cc pc = .ok (.putfield idx, 3)) (ta : Ty E a ci) (g : ∀ S', Gd A E nL Qf (k S') S' (pc + 3) ls st) : Gd A E nL Qf (lt (si S f a v) k) S pc ls (.int v :: .ref a :: st) := by
  refine r_put0 (S' := si S f a v) C F d ta rfl rfl ?_ ?_ ?_ (fun _ => rfl) (fun h => h) (g _)
  · show Value.int (u2 S.1 f a v f a) = _; rw [u2_same]
  · intro g t' hg
    unfold fv
    show (if t' = 0 then Value.int (u2 S.1 f a v g a) else _) = _
    rw [u2_off (Or.inl hg)]; rfl
  · intro b t' f' hb
    unfold fv
    show (if t' = 0 then Value.int (u2 S.1 f a v f' b) else _) = _
    rw [u2_off (Or.inr hb)]; rfl
theorem r_putj (C : Cx A E cc nL own fr lo) {idx f ci a : Nat} {v : Int64} {k : WS → Option (ρ × WS)} (F : FL own idx f 1 ci .long false) (d : decode cc pc = .ok (.putfield idx, 3)) (ta : Ty E a ci) (g : ∀ S', Gd A E nL Qf (k S') S' (pc + 3) ls st) : Gd A E nL Qf (lt (sj S f a v) k) S pc ls (.long v :: .ref a :: st) := by
  refine r_put0 (S' := sj S f a v) C F d ta rfl rfl ?_ ?_ ?_ (fun _ => rfl) (fun h => h) (g _)
  · show Value.long (u2 S.2.1 f a v f a) = _; rw [u2_same]
  · intro g t' hg
    unfold fv
    show (if t' = 0 then _ else if t' = 1 then Value.long (u2 S.2.1 f a v g a) else _) = _
    rw [u2_off (Or.inl hg)]; rfl
  · intro b t' f' hb
    unfold fv
    show (if t' = 0 then _ else if t' = 1 then Value.long (u2 S.2.1 f a v f' b) else _) = _
    rw [u2_off (Or.inr hb)]; rfl
theorem r_putr (C : Cx A E cc nL own fr lo) {idx f ci a b : Nat} {ty : FieldType} {k : WS → Option (ρ × WS)} (F : FL own idx f 2 ci ty false) (d : decode cc pc = .ok (.putfield idx, 3)) (ta : Ty E a ci) (tb : Ty E b (rk f)) (hn : narrow ty (.ref b) = .ref b) (hfit : fits ty (.ref b) = true) (g : ∀ S', Gd A E nL Qf (k S') S' (pc + 3) ls st) : Gd A E nL Qf (lt (sr S f a (some b)) k) S pc ls (.ref b :: .ref a :: st) := by
  refine r_put0 (S' := sr S f a (some b)) C F d ta hn hfit ?_ ?_ ?_ (fun _ => rfl) (fun h => ?_) (g _)
  · show va_rf (u2 S.2.2.1 f a (some b) f a) = _; rw [u2_same]; rfl
  · intro g t' hg
    unfold fv
    show (if t' = 0 then _ else if t' = 1 then _ else va_rf (u2 S.2.2.1 f a (some b) g a)) = _
    rw [u2_off (Or.inl hg)]; rfl
  · intro b' t' f' hb
    unfold fv
    show (if t' = 0 then _ else if t' = 1 then _ else va_rf (u2 S.2.2.1 f a (some b) f' b')) = _
    rw [u2_off (Or.inr hb)]; rfl
  · refine ⟨fun f' a' b' h1 h2 h3 => ?_, h.2.1, h.2.2⟩
    by_cases h4 : f' = f ∧ a' = a
    · obtain ⟨rfl, rfl⟩ := h4
      have h5 : u2 S.2.2.1 f' a' (some b) f' a' = some b' := h3
      rw [u2_same] at h5
      cases h5
      exact tb
    · have h5 : u2 S.2.2.1 f a (some b) f' a' = some b' := h3
      rw [u2_off (by by_cases q : f' = f; exact Or.inr (fun z => h4 ⟨q, z⟩); exact Or.inl q)] at h5
      exact h.1 f' a' b' h1 h2 h5
/-- an array's length -/
theorem r_alen (C : Cx A E cc nL own fr lo) {a k : Nat} {ty : FieldType} (hk : (tys E)[k - 9]? = some (eC E k, ty)) (h9 : 9 ≤ k) (d : decode cc pc = .ok (.arraylength, 1)) (ta : Ty E a k) (g : Gd A E nL Qf o S (pc + 1) ls (.int (Int32.ofNat (eN E a)) :: st)) : Gd A E nL Qf o S pc ls (.ref a :: st) := by
  intro H locs la hW hS hl0
  obtain ⟨q, hq⟩ := w_get (S := S) ta.1
  rw [ce_arr ta h9] at hq
  exact va_alen (D := eD E) (cl := vwCl) (tys := tys E) C.1 C.2.1 C.2.2.2.2.2.1 hW.1 q (k - 9) hq hk rfl d (g H locs la hW hS hl0)
theorem r_iald (C : Cx A E cc nL own fr lo) {a : Nat} {i : Int32} (d : decode cc pc = .ok (.iaload, 1)) (ta : Ty E a 10) (g : Gd A E nL Qf o S (pc + 1) ls (.int (ai S a i.toNatClampNeg) :: st)) : Gd A E nL Qf (if i < 0 ∨ eN E a ≤ i.toNatClampNeg then none else o) S pc ls (.int i :: .ref a :: st) := by
  intro H locs la hW hS hl0
  by_cases h : i < 0 ∨ eN E a ≤ i.toNatClampNeg
  · rw [if_pos h]; exact gn (Qf := Qf) H locs la hW hS hl0
  rw [if_neg h]
  obtain ⟨q, hq⟩ := w_get (S := S) ta.1
  rw [ce_arr ta (by decide), ct_i (by rw [ta.2]; decide) (by rw [ta.2]; decide)] at hq
  exact va_iald (D := eD E) (cl := vwCl) (tys := tys E) C.1 C.2.1 C.2.2.2.2.2.1 hW.1 q 1 hq rfl h d (g H locs la hW hS hl0)
theorem r_bald (C : Cx A E cc nL own fr lo) {a : Nat} {i : Int32} (d : decode cc pc = .ok (.baload, 1)) (ta : Ty E a 9) (g : Gd A E nL Qf o S (pc + 1) ls (.int (ai S a i.toNatClampNeg) :: st)) : Gd A E nL Qf (if i < 0 ∨ eN E a ≤ i.toNatClampNeg then none else o) S pc ls (.int i :: .ref a :: st) := by
  intro H locs la hW hS hl0
  by_cases h : i < 0 ∨ eN E a ≤ i.toNatClampNeg
  · rw [if_pos h]; exact gn (Qf := Qf) H locs la hW hS hl0
  rw [if_neg h]
  obtain ⟨q, hq⟩ := w_get (S := S) ta.1
  rw [ce_arr ta (by decide), ct_i (by rw [ta.2]; decide) (by rw [ta.2]; decide)] at hq
  exact va_bald (D := eD E) (cl := vwCl) (tys := tys E) C.1 C.2.1 C.2.2.2.2.2.1 hW.1 q 0 hq rfl h d (g H locs la hW hS hl0)
theorem r_zald (C : Cx A E cc nL own fr lo) {a : Nat} {i : Int32} (d : decode cc pc = .ok (.baload, 1)) (ta : Ty E a 12) (g : Gd A E nL Qf o S (pc + 1) ls (.int (ai S a i.toNatClampNeg) :: st)) : Gd A E nL Qf (if i < 0 ∨ eN E a ≤ i.toNatClampNeg then none else o) S pc ls (.int i :: .ref a :: st) := by
  intro H locs la hW hS hl0
  by_cases h : i < 0 ∨ eN E a ≤ i.toNatClampNeg
  · rw [if_pos h]; exact gn (Qf := Qf) H locs la hW hS hl0
  rw [if_neg h]
  obtain ⟨q, hq⟩ := w_get (S := S) ta.1
  rw [ce_arr ta (by decide), ct_i (by rw [ta.2]; decide) (by rw [ta.2]; decide)] at hq
  exact va_zald (D := eD E) (cl := vwCl) (tys := tys E) C.1 C.2.1 C.2.2.2.2.2.1 hW.1 q 3 hq rfl h d (g H locs la hW hS hl0)
theorem r_lald (C : Cx A E cc nL own fr lo) {a : Nat} {i : Int32} (d : decode cc pc = .ok (.laload, 1)) (ta : Ty E a 11) (g : Gd A E nL Qf o S (pc + 1) ls (.long (aj S a i.toNatClampNeg) :: st)) : Gd A E nL Qf (if i < 0 ∨ eN E a ≤ i.toNatClampNeg then none else o) S pc ls (.int i :: .ref a :: st) := by
  intro H locs la hW hS hl0
  by_cases h : i < 0 ∨ eN E a ≤ i.toNatClampNeg
  · rw [if_pos h]; exact gn (Qf := Qf) H locs la hW hS hl0
  rw [if_neg h]
  obtain ⟨q, hq⟩ := w_get (S := S) ta.1
  rw [ce_arr ta (by decide), ct_j ta.2] at hq
  exact va_lald (D := eD E) (cl := vwCl) (tys := tys E) C.1 C.2.1 C.2.2.2.2.2.1 hW.1 q 2 hq rfl h d (g H locs la hW hS hl0)
theorem r_ralM (C : Cx A E cc nL own fr lo) {a : Nat} {i : Int32} {oN : Option (ρ × WS)} {k : Nat → Option (ρ × WS)} (d : decode cc pc = .ok (.aaload, 1)) (ta : Ty E a 13) (gN : Gd A E nL Qf oN S (pc + 1) ls (.null :: st)) (g : ∀ b, Ty E b 2 → Gd A E nL Qf (k b) S (pc + 1) ls (.ref b :: st)) : Gd A E nL Qf (if i < 0 ∨ eN E a ≤ i.toNatClampNeg then none else (ar S a i.toNatClampNeg).elim oN k) S pc ls (.int i :: .ref a :: st) := by
  intro H locs la hW hS hl0
  by_cases h : i < 0 ∨ eN E a ≤ i.toNatClampNeg
  · rw [if_pos h]; exact gn (Qf := Qf) H locs la hW hS hl0
  rw [if_neg h]
  obtain ⟨q, hq⟩ := w_get (S := S) ta.1
  rw [ce_arr ta (by decide), ct_r (by rw [ta.2]; decide)] at hq
  refine va_aldq (D := eD E) (cl := vwCl) (tys := tys E) C.1 C.2.1 C.2.2.2.2.2.1 hW.1 q 4 hq rfl h d ?_
  cases hx : ar S a i.toNatClampNeg with
  | none => exact gN H locs la hW hS hl0
  | some b => exact g b (hW.2.2.1 a _ b ta.1 ta.2 hx) H locs la hW hS hl0
theorem r_ralS (C : Cx A E cc nL own fr lo) {a : Nat} {i : Int32} {oN : Option (ρ × WS)} {k : Nat → Option (ρ × WS)} (d : decode cc pc = .ok (.aaload, 1)) (ta : Ty E a 14) (gN : Gd A E nL Qf oN S (pc + 1) ls (.null :: st)) (g : ∀ b, Ty E b 5 → Gd A E nL Qf (k b) S (pc + 1) ls (.ref b :: st)) : Gd A E nL Qf (if i < 0 ∨ eN E a ≤ i.toNatClampNeg then none else (ar S a i.toNatClampNeg).elim oN k) S pc ls (.int i :: .ref a :: st) := by
  intro H locs la hW hS hl0
  by_cases h : i < 0 ∨ eN E a ≤ i.toNatClampNeg
  · rw [if_pos h]; exact gn (Qf := Qf) H locs la hW hS hl0
  rw [if_neg h]
  obtain ⟨q, hq⟩ := w_get (S := S) ta.1
  rw [ce_arr ta (by decide), ct_r (by rw [ta.2]; decide)] at hq
  refine va_aldq (D := eD E) (cl := vwCl) (tys := tys E) C.1 C.2.1 C.2.2.2.2.2.1 hW.1 q 5 hq rfl h d ?_
  cases hx : ar S a i.toNatClampNeg with
  | none => exact gN H locs la hW hS hl0
  | some b => exact g b (hW.2.2.2 a _ b ta.1 ta.2 hx) H locs la hW hS hl0
theorem ct_wi {E : EN} {S : WS} {a b : Nat} {g : Nat → Int32} (h : b ≠ a) : ct E (wi S a g) b = ct E S b := by
  have h1 : ai (wi S a g) b = ai S b := by
    show u1 S.2.2.2.1 a g b = _
    unfold u1
    rw [if_neg h]; rfl
  unfold ct
  rw [h1]; rfl
theorem ct_wj {E : EN} {S : WS} {a b : Nat} {g : Nat → Int64} (h : b ≠ a) : ct E (wj S a g) b = ct E S b := by
  have h1 : aj (wj S a g) b = aj S b := by
    show u1 S.2.2.2.2.1 a g b = _
    unfold u1
    rw [if_neg h]; rfl
  unfold ct
  rw [h1]; rfl
theorem ai_wi {S : WS} {a : Nat} {g : Nat → Int32} : ai (wi S a g) a = g := by show u1 _ _ _ _ = _; simp [u1]
theorem aj_wj {S : WS} {a : Nat} {g : Nat → Int64} : aj (wj S a g) a = g := by show u1 _ _ _ _ = _; simp [u1]
/-- the world behind a whole row of ints written anew -/
theorem wd_wi {E : EN} {S : WS} {a k q : Nat} {g : Nat → Int32} (hnd : (eL E).Nodup) (ta : Ty E a k) (h9 : 9 ≤ k) (h13 : k < 13) (h11 : k ≠ 11) (hq : (va_pl (eL E) (ce E S))[q]? = some (a, ce E S a)) : (va_pl (eL E) (ce E S)).set q (a, .inl (eC E k, eN E a, .inl g)) = va_pl (eL E) (ce E (wi S a g)) := by
  refine pl_set hnd ta.1 hq ?_
  have h1 : ct E (wi S a g) a = .inl g := by rw [ct_i (by rw [ta.2]; exact h13) (by rw [ta.2]; exact h11), ai_wi]
  rw [← h1]
  exact ce_wr ta h9 (fun _ _ _ => rfl) (fun b hb => ct_wi hb)
theorem wd_wj {E : EN} {S : WS} {a q : Nat} {g : Nat → Int64} (hnd : (eL E).Nodup) (ta : Ty E a 11) (hq : (va_pl (eL E) (ce E S))[q]? = some (a, ce E S a)) : (va_pl (eL E) (ce E S)).set q (a, .inl (eC E 11, eN E a, .inr (.inl g))) = va_pl (eL E) (ce E (wj S a g)) := by
  refine pl_set hnd ta.1 hq ?_
  have h1 : ct E (wj S a g) a = .inr (.inl g) := by rw [ct_j ta.2, aj_wj]
  rw [← h1]
  exact ce_wr ta (by decide) (fun _ _ _ => rfl) (fun b hb => ct_wj hb)
theorem r_iast (C : Cx A E cc nL own fr lo) {a : Nat} {i v : Int32} {k : WS → Option (ρ × WS)} (d : decode cc pc = .ok (.iastore, 1)) (ta : Ty E a 10) (g : ∀ S', Gd A E nL Qf (k S') S' (pc + 1) ls st) : Gd A E nL Qf (if i < 0 ∨ eN E a ≤ i.toNatClampNeg then none else lt (wi S a (upd (ai S a) i.toNatClampNeg v)) k) S pc ls (.int v :: .int i :: .ref a :: st) := by
  intro H locs la hW hS hl0
  by_cases h : i < 0 ∨ eN E a ≤ i.toNatClampNeg
  · rw [if_pos h]; exact gn (Qf := Qf) H locs la hW hS hl0
  rw [if_neg h]
  obtain ⟨q, hq⟩ := w_get (S := S) ta.1
  have hq0 := hq
  rw [ce_arr ta (by decide), ct_i (by rw [ta.2]; decide) (by rw [ta.2]; decide)] at hq
  refine va_iast (D := eD E) (cl := vwCl) (tys := tys E) C.1 C.2.1 C.2.2.2.2.2.1 hW.1 (pl_D C.2.2.2.2.2.2.2.1 C.2.2.2.2.2.2.2.2.1) hS q 1 hq rfl h d (fun H1 locs1 h1 _ h3 => ?_)
  rw [wd_wi C.2.2.2.2.2.2.2.1 ta (by decide) (by decide) (by decide) hq0] at h1
  exact g _ H1 locs1 la ⟨h1, hW.2⟩ h3 hl0
theorem r_bast (C : Cx A E cc nL own fr lo) {a : Nat} {i v : Int32} {k : WS → Option (ρ × WS)} (d : decode cc pc = .ok (.bastore, 1)) (ta : Ty E a 9) (g : ∀ S', Gd A E nL Qf (k S') S' (pc + 1) ls st) : Gd A E nL Qf (if i < 0 ∨ eN E a ≤ i.toNatClampNeg then none else lt (wi S a (upd (ai S a) i.toNatClampNeg (vp_nar .byte v))) k) S pc ls (.int v :: .int i :: .ref a :: st) := by
  intro H locs la hW hS hl0
  by_cases h : i < 0 ∨ eN E a ≤ i.toNatClampNeg
  · rw [if_pos h]; exact gn (Qf := Qf) H locs la hW hS hl0
  rw [if_neg h]
  obtain ⟨q, hq⟩ := w_get (S := S) ta.1
  have hq0 := hq
  rw [ce_arr ta (by decide), ct_i (by rw [ta.2]; decide) (by rw [ta.2]; decide)] at hq
  refine va_bast (D := eD E) (cl := vwCl) (tys := tys E) C.1 C.2.1 C.2.2.2.2.2.1 hW.1 (pl_D C.2.2.2.2.2.2.2.1 C.2.2.2.2.2.2.2.2.1) hS q 0 hq rfl h d (fun H1 locs1 h1 _ h3 => ?_)
  rw [wd_wi C.2.2.2.2.2.2.2.1 ta (by decide) (by decide) (by decide) hq0] at h1
  exact g _ H1 locs1 la ⟨h1, hW.2⟩ h3 hl0
theorem r_zast (C : Cx A E cc nL own fr lo) {a : Nat} {i v : Int32} {k : WS → Option (ρ × WS)} (d : decode cc pc = .ok (.bastore, 1)) (ta : Ty E a 12) (g : ∀ S', Gd A E nL Qf (k S') S' (pc + 1) ls st) : Gd A E nL Qf (if i < 0 ∨ eN E a ≤ i.toNatClampNeg then none else lt (wi S a (upd (ai S a) i.toNatClampNeg (vp_nar .boolean v))) k) S pc ls (.int v :: .int i :: .ref a :: st) := by
  intro H locs la hW hS hl0
  by_cases h : i < 0 ∨ eN E a ≤ i.toNatClampNeg
  · rw [if_pos h]; exact gn (Qf := Qf) H locs la hW hS hl0
  rw [if_neg h]
  obtain ⟨q, hq⟩ := w_get (S := S) ta.1
  have hq0 := hq
  rw [ce_arr ta (by decide), ct_i (by rw [ta.2]; decide) (by rw [ta.2]; decide)] at hq
  refine va_zast (D := eD E) (cl := vwCl) (tys := tys E) C.1 C.2.1 C.2.2.2.2.2.1 hW.1 (pl_D C.2.2.2.2.2.2.2.1 C.2.2.2.2.2.2.2.2.1) hS q 3 hq rfl h d (fun H1 locs1 h1 _ h3 => ?_)
  rw [wd_wi C.2.2.2.2.2.2.2.1 ta (by decide) (by decide) (by decide) hq0] at h1
  exact g _ H1 locs1 la ⟨h1, hW.2⟩ h3 hl0
theorem r_last (C : Cx A E cc nL own fr lo) {a : Nat} {i : Int32} {v : Int64} {k : WS → Option (ρ × WS)} (d : decode cc pc = .ok (.lastore, 1)) (ta : Ty E a 11) (g : ∀ S', Gd A E nL Qf (k S') S' (pc + 1) ls st) : Gd A E nL Qf (if i < 0 ∨ eN E a ≤ i.toNatClampNeg then none else lt (wj S a (vp_updL (aj S a) i.toNatClampNeg v)) k) S pc ls (.long v :: .int i :: .ref a :: st) := by
  intro H locs la hW hS hl0
  by_cases h : i < 0 ∨ eN E a ≤ i.toNatClampNeg
  · rw [if_pos h]; exact gn (Qf := Qf) H locs la hW hS hl0
  rw [if_neg h]
  obtain ⟨q, hq⟩ := w_get (S := S) ta.1
  have hq0 := hq
  rw [ce_arr ta (by decide), ct_j ta.2] at hq
  refine va_last (D := eD E) (cl := vwCl) (tys := tys E) C.1 C.2.1 C.2.2.2.2.2.1 hW.1 (pl_D C.2.2.2.2.2.2.2.1 C.2.2.2.2.2.2.2.2.1) hS q 2 hq rfl h d (fun H1 locs1 h1 _ h3 => ?_)
  rw [wd_wj C.2.2.2.2.2.2.2.1 ta hq0] at h1
  exact g _ H1 locs1 la ⟨h1, hW.2⟩ h3 hl0
/-- constants of the pool -/
theorem r_ldc (C : Cx A E cc nL own fr lo) {idx : Nat} (v : Int32) (hc : Cond.constant own idx v ∈ G0) (d : decode cc pc = .ok (.ldc idx, 2)) (g : Gd A E nL Qf o S (pc + 2) ls (.int v :: st)) : Gd A E nL Qf o S pc ls st := fun H locs la a b c => lv_ldc C.1 C.2.1 C.2.2.2.1 (C.2.2.2.2.1 _ hc) d (g H locs la a b c)
theorem r_ldc_w (C : Cx A E cc nL own fr lo) {idx : Nat} (v : Int32) (hc : Cond.constant own idx v ∈ G0) (d : decode cc pc = .ok (.ldc_w idx, 3)) (g : Gd A E nL Qf o S (pc + 3) ls (.int v :: st)) : Gd A E nL Qf o S pc ls st := fun H locs la a b c => lv_ldcw C.1 C.2.1 C.2.2.2.1 (C.2.2.2.2.1 _ hc) d (g H locs la a b c)
theorem r_ldc2 (C : Cx A E cc nL own fr lo) {idx : Nat} (v : Int64) (hc : Cond.constantLong own idx v ∈ G0) (d : decode cc pc = .ok (.ldc2_w idx, 3)) (g : Gd A E nL Qf o S (pc + 3) ls (.long v :: st)) : Gd A E nL Qf o S pc ls st := fun H locs la a b c => lv_ldc2 C.1 C.2.1 C.2.2.2.1 (C.2.2.2.2.1 _ hc) d (g H locs la a b c)
end HROWS
