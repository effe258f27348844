/-! THE LAW'S LOOP: every call is answered alike, so the law comes to its end with 1 -/
def yes (o : Option (Int32 × WS)) : Prop := ∃ S' : WS, o = some ((1 : Int32), S')
theorem yes_if {p : Prop} [d : Decidable p] {A B : Option (Int32 × WS)} (ha : p → yes A) (hb : ¬ p → yes B) : yes (if p then A else B) := by
  by_cases h : p
  · rw [if_pos h]; exact ha h
  · rw [if_neg h]; exact hb h
theorem yes_gd {p : Prop} [d : Decidable p] {A : Option (Int32 × WS)} (hp : ¬ p) (ha : yes A) : yes (if p then none else A) := by
  rw [if_neg hp]; exact ha
theorem bde {ρ β : Type} {o : Option (ρ × WS)} {v : ρ} {S : WS} {K : ρ → WS → Option β} (e : o = some (v, S)) : bd o K = K v S := by rw [e]; rfl
theorem yes_op {α : Type} {E : EN} {c : Nat} {f : Option (α × WS)} {g : WS → Option (α × WS)} {G : α → WS → Option (Int32 × WS)} {Q : WS → Option (Int32 × WS)} (h : OK E c f g) (hG : ∀ v S1 S2, g S1 = some (v, S2) → G v S1 = Q S2) (hR : ∀ S2 x M, Inv E c S2 x M → yes (Q S2)) : yes (bd f G) := by
  obtain ⟨v, S1, S2, x, M, hf, hg, hi⟩ := h
  obtain ⟨S', e⟩ := hR S2 x M hi
  exact ⟨S', by rw [bde hf, hG v S1 S2 hg]; exact e⟩
theorem lcm_rf {x : Int64} : lg_cmp x x = 0 := lcm_eq.mpr rfl
theorem law_end {L s : Nat} (hL : L ≤ 3072) (hs : s ≤ L + 6) : ((Int32.ofNat L) - (6 : Int32)) < nI s ↔ L < s + 6 := by
  show nI L - nI 6 < nI s ↔ _
  rw [Int32.lt_iff_toInt_lt, pk_sub_toInt (by omega) (by omega), nI_toInt (by omega)]
  omega
theorem law_gd {L s : Nat} (i : Nat) (hL : L ≤ 3072) (hs : s + 6 ≤ L) (hi : i < 6) : ¬ (nI s + nI i < 0 ∨ L ≤ (nI s + nI i).toNatClampNeg) := by
  rw [nI_add]; exact nI_in (by omega) (by omega)
set_option maxRecDepth 100000 in
set_option maxHeartbeats 4000000 in
theorem law_step {E : EN} {c n L : Nat} {xs : Nat → Int32} (hL : L ≤ 3072) (hn : 30000000 ≤ n) (h58 : eK E (c + 58) = 0) (h74 : eK E (c + 74) ≠ 0) {s m : Nat} (hs : s + 6 ≤ L) {S : WS} {x : Nat} {M : Nat → Int32} (hi : Inv E c S x M) (hR : ∀ (S2 : WS) (x : Nat) (M : Nat → Int32), Inv E c S2 x M → yes (f_L_law_L18 E n L xs m S2 c (c + 129) (nI s + (6 : Int32)))) : yes (f_L_law_L18 E n L xs (m + 1) S c (c + 129) (nI s)) := by
  have g0 : ¬ (nI s < 0 ∨ L ≤ (nI s).toNatClampNeg) := nI_in (by omega) (by omega)
  have g1 : ¬ (nI s + (1 : Int32) < 0 ∨ L ≤ (nI s + (1 : Int32)).toNatClampNeg) := law_gd 1 hL hs (by omega)
  have g2 : ¬ (nI s + (2 : Int32) < 0 ∨ L ≤ (nI s + (2 : Int32)).toNatClampNeg) := law_gd 2 hL hs (by omega)
  have g3 : ¬ (nI s + (3 : Int32) < 0 ∨ L ≤ (nI s + (3 : Int32)).toNatClampNeg) := law_gd 3 hL hs (by omega)
  have g4 : ¬ (nI s + (4 : Int32) < 0 ∨ L ≤ (nI s + (4 : Int32)).toNatClampNeg) := law_gd 4 hL hs (by omega)
  have g5 : ¬ (nI s + (5 : Int32) < 0 ∨ L ≤ (nI s + (5 : Int32)).toNatClampNeg) := law_gd 5 hL hs (by omega)
  unfold f_L_law_L18
  refine yes_if (fun _ => ⟨S, rfl⟩) (fun _ => ?_)
  refine yes_gd g0 ?_
  refine yes_if (fun _ => ?_) (fun _ => ?_)
  · refine yes_gd g1 ?_
    refine yes_gd g2 ?_
    refine yes_gd g3 ?_
    refine yes_gd g4 ?_
    refine yes_gd g5 ?_
    exact yes_op (Q := fun S2 => f_L_law_L18 E n L xs m S2 c (c + 129) (nI s + (6 : Int32))) (op_feed hi (by omega) _ _ _ _ _) (fun v S1 S2 e => (if_neg g1).trans ((if_neg g2).trans ((if_neg g3).trans ((if_neg g4).trans ((if_neg g5).trans ((bde e).trans (if_pos rfl))))))) hR
  refine yes_if (fun _ => ?_) (fun _ => ?_)
  · refine yes_gd g1 ?_
    exact yes_op (Q := fun S2 => f_L_law_L18 E n L xs m S2 c (c + 129) (nI s + (6 : Int32))) (op_end hi _) (fun v S1 S2 e => (if_neg g1).trans ((bde e).trans (if_pos rfl))) hR
  refine yes_if (fun _ => ?_) (fun _ => ?_)
  · exact yes_op (Q := fun S2 => f_L_law_L18 E n L xs m S2 c (c + 129) (nI s + (6 : Int32))) (op_mountain hi (by omega)) (fun v S1 S2 e => (bde e).trans (if_pos rfl)) hR
  refine yes_if (fun _ => ?_) (fun _ => ?_)
  · refine yes_gd g1 ?_
    exact yes_op (Q := fun S2 => f_L_law_L18 E n L xs m S2 c (c + 129) (nI s + (6 : Int32))) (op_fault hi _) (fun v S1 S2 e => (if_neg g1).trans ((bde e).trans (if_pos rfl))) hR
  refine yes_if (fun _ => ?_) (fun _ => ?_)
  · refine yes_gd g1 ?_
    refine yes_gd g2 ?_
    exact yes_op (Q := fun S2 => f_L_law_L18 E n L xs m S2 c (c + 129) (nI s + (6 : Int32))) (op_path hi _ _) (fun v S1 S2 e => (if_neg g1).trans ((if_neg g2).trans ((bde e).trans (if_pos rfl)))) hR
  refine yes_if (fun _ => ?_) (fun _ => ?_)
  · refine yes_gd g1 ?_
    refine yes_gd g2 ?_
    exact yes_op (Q := fun S2 => f_L_law_L18 E n L xs m S2 c (c + 129) (nI s + (6 : Int32))) (op_court hi _ _) (fun v S1 S2 e => (if_neg g1).trans ((if_neg g2).trans ((bde e).trans (if_pos rfl)))) hR
  refine yes_if (fun _ => ?_) (fun _ => ?_)
  · refine yes_gd g1 ?_
    refine yes_gd g2 ?_
    exact yes_op (Q := fun S2 => f_L_law_L18 E n L xs m S2 c (c + 129) (nI s + (6 : Int32))) (op_bride hi (by omega) _ _) (fun v S1 S2 e => (if_neg g1).trans ((if_neg g2).trans ((bde e).trans (if_pos rfl)))) hR
  refine yes_if (fun _ => ?_) (fun _ => ?_)
  · refine yes_gd g1 ?_
    refine yes_gd g2 ?_
    exact yes_op (Q := fun S2 => f_L_law_L18 E n L xs m S2 c (c + 129) (nI s + (6 : Int32))) (op_suitor hi (by omega) _ _) (fun v S1 S2 e => (if_neg g1).trans ((if_neg g2).trans ((bde e).trans (if_pos rfl)))) hR
  refine yes_if (fun _ => ?_) (fun _ => ?_)
  · exact yes_op (Q := fun S2 => f_L_law_L18 E n L xs m S2 c (c + 129) (nI s + (6 : Int32))) (op_hearts hi (by omega)) (fun v S1 S2 e => (bde e).trans (if_pos rfl)) hR
  refine yes_if (fun _ => ?_) (fun _ => ?_)
  · refine yes_gd g1 ?_
    refine yes_gd g2 ?_
    exact yes_op (Q := fun S2 => f_L_law_L18 E n L xs m S2 c (c + 129) (nI s + (6 : Int32))) (op_steps hi (by omega) _ _) (fun v S1 S2 e => (if_neg g1).trans ((if_neg g2).trans ((bde e).trans (if_pos rfl)))) hR
  refine yes_if (fun _ => ?_) (fun _ => ?_)
  · refine yes_gd g1 ?_
    refine yes_gd g2 ?_
    refine yes_gd g3 ?_
    exact yes_op (Q := fun S2 => f_L_law_L18 E n L xs m S2 c (c + 129) (nI s + (6 : Int32))) (op_whose hi (by omega) _ _ _) (fun v S1 S2 e => (if_neg g1).trans ((if_neg g2).trans ((if_neg g3).trans ((bde e).trans (if_pos rfl))))) hR
  refine yes_if (fun _ => ?_) (fun _ => ?_)
  · refine yes_gd g1 ?_
    refine yes_gd g2 ?_
    exact yes_op (Q := fun S2 => f_L_law_L18 E n L xs m S2 c (c + 129) (nI s + (6 : Int32))) (op_leap hi (by omega) _ _) (fun v S1 S2 e => (if_neg g1).trans ((if_neg g2).trans ((bde e).trans (if_pos rfl)))) hR
  refine yes_if (fun _ => ?_) (fun _ => ?_)
  · refine yes_gd g1 ?_
    exact yes_op (Q := fun S2 => f_L_law_L18 E n L xs m S2 c (c + 129) (nI s + (6 : Int32))) (op_rots hi (by omega) _) (fun v S1 S2 e => (if_neg g1).trans ((bde e).trans (if_pos rfl))) hR
  refine yes_if (fun _ => ?_) (fun _ => ?_)
  · refine yes_gd g1 ?_
    refine yes_gd g2 ?_
    refine yes_gd g3 ?_
    exact yes_op (Q := fun S2 => f_L_law_L18 E n L xs m S2 c (c + 129) (nI s + (6 : Int32))) (op_lacks hi (by omega) _ _ _) (fun v S1 S2 e => (if_neg g1).trans ((if_neg g2).trans ((if_neg g3).trans ((bde e).trans (if_pos rfl))))) hR
  refine yes_if (fun _ => ?_) (fun _ => ?_)
  · refine yes_gd g1 ?_
    refine yes_gd g2 ?_
    refine yes_gd g3 ?_
    exact yes_op (Q := fun S2 => f_L_law_L18 E n L xs m S2 c (c + 129) (nI s + (6 : Int32))) (op_safe hi (by omega) _ _ _) (fun v S1 S2 e => (if_neg g1).trans ((if_neg g2).trans ((if_neg g3).trans ((bde e).trans (if_pos lcm_rf))))) hR
  refine yes_if (fun _ => ?_) (fun _ => ?_)
  · refine yes_gd g1 ?_
    refine yes_gd g2 ?_
    exact yes_op (Q := fun S2 => f_L_law_L18 E n L xs m S2 c (c + 129) (nI s + (6 : Int32))) (op_reach hi (by omega) _ _) (fun v S1 S2 e => (if_neg g1).trans ((if_neg g2).trans ((bde e).trans (if_pos rfl)))) hR
  refine yes_if (fun _ => ?_) (fun _ => ?_)
  · refine yes_gd g1 ?_
    refine yes_gd g2 ?_
    refine yes_gd g3 ?_
    exact yes_op (Q := fun S2 => f_L_law_L18 E n L xs m S2 c (c + 129) (nI s + (6 : Int32))) (op_shortest hi (by omega) _ _ _) (fun v S1 S2 e => (if_neg g1).trans ((if_neg g2).trans ((if_neg g3).trans ((bde e).trans (if_pos rfl))))) hR
  refine yes_if (fun _ => ?_) (fun _ => ?_)
  · refine yes_gd g1 ?_
    refine yes_gd g2 ?_
    refine yes_gd g3 ?_
    refine yes_gd g4 ?_
    exact yes_op (Q := fun S2 => f_L_law_L18 E n L xs m S2 c (c + 129) (nI s + (6 : Int32))) (op_goes hi (by omega) _ _ _ _) (fun v S1 S2 e => (if_neg g1).trans ((if_neg g2).trans ((if_neg g3).trans ((if_neg g4).trans ((bde e).trans (if_pos rfl)))))) hR
  refine yes_if (fun _ => ?_) (fun _ => ?_)
  · refine yes_gd g1 ?_
    refine yes_gd g2 ?_
    refine yes_gd g3 ?_
    refine yes_gd g4 ?_
    exact yes_op (Q := fun S2 => f_L_law_L18 E n L xs m S2 c (c + 129) (nI s + (6 : Int32))) (op_safest hi (by omega) _ _ _ _) (fun v S1 S2 e => (if_neg g1).trans ((if_neg g2).trans ((if_neg g3).trans ((if_neg g4).trans ((bde e).trans (if_pos lcm_rf)))))) hR
  refine yes_if (fun _ => ?_) (fun _ => ?_)
  · refine yes_gd g1 ?_
    refine yes_gd g2 ?_
    refine yes_gd g3 ?_
    refine yes_gd g4 ?_
    exact yes_op (Q := fun S2 => f_L_law_L18 E n L xs m S2 c (c + 129) (nI s + (6 : Int32))) (op_place hi (by omega) _ _ _ _) (fun v S1 S2 e => (if_neg g1).trans ((if_neg g2).trans ((if_neg g3).trans ((if_neg g4).trans ((bde e).trans (if_pos rfl)))))) hR
  refine yes_if (fun _ => ?_) (fun _ => ?_)
  · refine yes_gd g1 ?_
    refine yes_gd g2 ?_
    refine yes_gd g3 ?_
    exact yes_op (Q := fun S2 => f_L_law_L18 E n L xs m S2 c (c + 129) (nI s + (6 : Int32))) (op_ways hi (by omega) _ _ _) (fun v S1 S2 e => (if_neg g1).trans ((if_neg g2).trans ((if_neg g3).trans ((bde e).trans (if_pos rfl))))) hR
  refine yes_if (fun _ => ?_) (fun _ => ?_)
  · refine yes_gd g1 ?_
    refine yes_gd g2 ?_
    refine yes_gd g3 ?_
    exact yes_op (Q := fun S2 => f_L_law_L18 E n L xs m S2 c (c + 129) (nI s + (6 : Int32))) (op_when hi (by omega) _ _ _) (fun v S1 S2 e => (if_neg g1).trans ((if_neg g2).trans ((if_neg g3).trans ((bde e).trans (if_pos rfl))))) hR
  refine yes_if (fun _ => ?_) (fun _ => ?_)
  · refine yes_gd g1 ?_
    refine yes_gd g2 ?_
    refine yes_gd g3 ?_
    exact yes_op (Q := fun S2 => f_L_law_L18 E n L xs m S2 c (c + 129) (nI s + (6 : Int32))) (op_need hi (by omega) _ _ _) (fun v S1 S2 e => (if_neg g1).trans ((if_neg g2).trans ((if_neg g3).trans ((bde e).trans (if_pos rfl))))) hR
  refine yes_if (fun _ => ?_) (fun _ => ?_)
  · refine yes_gd g1 ?_
    refine yes_gd g2 ?_
    refine yes_gd g3 ?_
    exact yes_op (Q := fun S2 => f_L_law_L18 E n L xs m S2 c (c + 129) (nI s + (6 : Int32))) (op_fewest hi (by omega) h58 _ _ _) (fun v S1 S2 e => (if_neg g1).trans ((if_neg g2).trans ((if_neg g3).trans ((bde e).trans (if_pos rfl))))) hR
  refine yes_if (fun _ => ?_) (fun _ => ?_)
  · refine yes_gd g1 ?_
    refine yes_gd g2 ?_
    refine yes_gd g3 ?_
    refine yes_gd g4 ?_
    exact yes_op (Q := fun S2 => f_L_law_L18 E n L xs m S2 c (c + 129) (nI s + (6 : Int32))) (op_whom hi (by omega) h58 _ _ _ _) (fun v S1 S2 e => (if_neg g1).trans ((if_neg g2).trans ((if_neg g3).trans ((if_neg g4).trans ((bde e).trans (if_pos rfl)))))) hR
  refine yes_if (fun _ => ?_) (fun _ => ?_)
  · refine yes_gd g1 ?_
    refine yes_gd g2 ?_
    exact yes_op (Q := fun S2 => f_L_law_L18 E n L xs m S2 c (c + 129) (nI s + (6 : Int32))) (op_all hi (by omega) h58 _ _) (fun v S1 S2 e => (if_neg g1).trans ((if_neg g2).trans ((bde e).trans (if_pos rfl)))) hR
  refine yes_if (fun _ => ?_) (fun _ => ?_)
  · refine yes_gd g1 ?_
    refine yes_gd g2 ?_
    refine yes_gd g3 ?_
    exact yes_op (Q := fun S2 => f_L_law_L18 E n L xs m S2 c (c + 129) (nI s + (6 : Int32))) (op_courtings hi (by omega) h58 _ _ _) (fun v S1 S2 e => (if_neg g1).trans ((if_neg g2).trans ((if_neg g3).trans ((bde e).trans (if_pos rfl))))) hR
  refine yes_if (fun _ => ?_) (fun _ => ?_)
  · refine yes_gd g1 ?_
    refine yes_gd g2 ?_
    refine yes_gd g3 ?_
    exact yes_op (Q := fun S2 => f_L_law_L18 E n L xs m S2 c (c + 129) (nI s + (6 : Int32))) (op_busy hi (by omega) h58 _ _ _) (fun v S1 S2 e => (if_neg g1).trans ((if_neg g2).trans ((if_neg g3).trans ((bde e).trans (if_pos rfl))))) hR
  refine yes_if (fun _ => ?_) (fun _ => ?_)
  · refine yes_gd g1 ?_
    refine yes_gd g2 ?_
    exact yes_op (Q := fun S2 => f_L_law_L18 E n L xs m S2 c (c + 129) (nI s + (6 : Int32))) (op_most hi (by omega) _ _) (fun v S1 S2 e => (if_neg g1).trans ((if_neg g2).trans ((bde e).trans (if_pos rfl)))) hR
  refine yes_if (fun _ => ?_) (fun _ => ?_)
  · refine yes_gd g1 ?_
    refine yes_gd g2 ?_
    exact yes_op (Q := fun S2 => f_L_law_L18 E n L xs m S2 c (c + 129) (nI s + (6 : Int32))) (op_worst hi (by omega) _ _) (fun v S1 S2 e => (if_neg g1).trans ((if_neg g2).trans ((bde e).trans (if_pos rfl)))) hR
  refine yes_if (fun _ => ?_) (fun _ => ?_)
  · refine yes_gd g1 ?_
    exact yes_op (Q := fun S2 => f_L_law_L18 E n L xs m S2 c (c + 129) (nI s + (6 : Int32))) (op_dry hi (by omega) _) (fun v S1 S2 e => (if_neg g1).trans ((bde e).trans (if_pos rfl))) hR
  refine yes_if (fun _ => ?_) (fun _ => ?_)
  · refine yes_gd g1 ?_
    refine yes_gd g2 ?_
    refine yes_gd g3 ?_
    refine yes_gd g4 ?_
    exact yes_op (Q := fun S2 => f_L_law_L18 E n L xs m S2 c (c + 129) (nI s + (6 : Int32))) (op_climbs hi (by omega) _ _ _ _) (fun v S1 S2 e => (if_neg g1).trans ((if_neg g2).trans ((if_neg g3).trans ((if_neg g4).trans ((bde e).trans (if_pos rfl)))))) hR
  refine yes_if (fun _ => ?_) (fun _ => ?_)
  · refine yes_gd g1 ?_
    refine yes_gd g2 ?_
    exact yes_op (Q := fun S2 => f_L_law_L18 E n L xs m S2 c (c + 129) (nI s + (6 : Int32))) (op_high hi (by omega) _ _) (fun v S1 S2 e => (if_neg g1).trans ((if_neg g2).trans ((bde e).trans (if_pos rfl)))) hR
  refine yes_if (fun _ => ?_) (fun _ => ?_)
  · refine yes_gd g1 ?_
    refine yes_gd g2 ?_
    exact yes_op (Q := fun S2 => f_L_law_L18 E n L xs m S2 c (c + 129) (nI s + (6 : Int32))) (op_parts hi (by omega) _ _) (fun v S1 S2 e => (if_neg g1).trans ((if_neg g2).trans ((bde e).trans (if_pos rfl)))) hR
  refine yes_if (fun _ => ?_) (fun _ => ?_)
  · refine yes_gd g1 ?_
    refine yes_gd g2 ?_
    refine yes_gd g3 ?_
    exact yes_op (Q := fun S2 => f_L_law_L18 E n L xs m S2 c (c + 129) (nI s + (6 : Int32))) (op_cuts hi (by omega) _ _ _) (fun v S1 S2 e => (if_neg g1).trans ((if_neg g2).trans ((if_neg g3).trans ((bde e).trans (if_pos rfl))))) hR
  refine yes_if (fun _ => ?_) (fun _ => ?_)
  · refine yes_gd g1 ?_
    exact yes_op (Q := fun S2 => f_L_law_L18 E n L xs m S2 c (c + 129) (nI s + (6 : Int32))) (op_vain hi (by omega) _) (fun v S1 S2 e => (if_neg g1).trans ((bde e).trans (if_pos rfl))) hR
  refine yes_if (fun _ => ?_) (fun _ => ?_)
  · refine yes_gd g1 ?_
    refine yes_gd g2 ?_
    refine yes_gd g3 ?_
    exact yes_op (Q := fun S2 => f_L_law_L18 E n L xs m S2 c (c + 129) (nI s + (6 : Int32))) (op_sold hi (by omega) _ _ _) (fun v S1 S2 e => (if_neg g1).trans ((if_neg g2).trans ((if_neg g3).trans ((bde e).trans (if_pos rfl))))) hR
  refine yes_if (fun _ => ?_) (fun _ => ?_)
  · refine yes_gd g1 ?_
    refine yes_gd g2 ?_
    refine yes_gd g3 ?_
    refine yes_gd g4 ?_
    exact yes_op (Q := fun S2 => f_L_law_L18 E n L xs m S2 c (c + 129) (nI s + (6 : Int32))) (op_more hi (by omega) _ _ _ _) (fun v S1 S2 e => (if_neg g1).trans ((if_neg g2).trans ((if_neg g3).trans ((if_neg g4).trans ((bde e).trans (if_pos rfl)))))) hR
  refine yes_if (fun _ => ?_) (fun _ => ?_)
  · refine yes_gd g1 ?_
    exact yes_op (Q := fun S2 => f_L_law_L18 E n L xs m S2 c (c + 129) (nI s + (6 : Int32))) (op_agree hi (by omega) h74 _) (fun v S1 S2 e => (if_neg g1).trans ((bde e).trans (if_pos rfl))) hR
  refine yes_if (fun _ => ?_) (fun _ => ?_)
  · refine yes_gd g1 ?_
    refine yes_gd g2 ?_
    exact yes_op (Q := fun S2 => f_L_law_L18 E n L xs m S2 c (c + 129) (nI s + (6 : Int32))) (op_sure hi (by omega) h74 _ _) (fun v S1 S2 e => (if_neg g1).trans ((if_neg g2).trans ((bde e).trans (if_pos rfl)))) hR
  refine yes_if (fun _ => ?_) (fun _ => ?_)
  · refine yes_gd g1 ?_
    exact yes_op (Q := fun S2 => f_L_law_L18 E n L xs m S2 c (c + 129) (nI s + (6 : Int32))) (op_kindly hi (by omega) h74 _) (fun v S1 S2 e => (if_neg g1).trans ((bde e).trans (if_pos rfl))) hR
  refine yes_if (fun _ => ?_) (fun _ => ?_)
  · refine yes_gd g1 ?_
    exact yes_op (Q := fun S2 => f_L_law_L18 E n L xs m S2 c (c + 129) (nI s + (6 : Int32))) (op_odd hi (by omega) _) (fun v S1 S2 e => (if_neg g1).trans ((bde e).trans (if_pos rfl))) hR
  refine yes_if (fun _ => ?_) (fun _ => ?_)
  · refine yes_gd g1 ?_
    exact yes_op (Q := fun S2 => f_L_law_L18 E n L xs m S2 c (c + 129) (nI s + (6 : Int32))) (op_hopes hi (by omega) _) (fun v S1 S2 e => (if_neg g1).trans ((bde e).trans (if_pos rfl))) hR
  refine yes_if (fun _ => ?_) (fun _ => ?_)
  · exact yes_op (Q := fun S2 => f_L_law_L18 E n L xs m S2 c (c + 129) (nI s + (6 : Int32))) (op_peace hi (by omega)) (fun v S1 S2 e => (bde e).trans (if_pos rfl)) hR
  refine yes_if (fun _ => ?_) (fun _ => ?_)
  · refine yes_gd g1 ?_
    exact yes_op (Q := fun S2 => f_L_law_L18 E n L xs m S2 c (c + 129) (nI s + (6 : Int32))) (op_peaces hi (by omega) _) (fun v S1 S2 e => (if_neg g1).trans ((bde e).trans (if_pos rfl))) hR
  refine yes_if (fun _ => ?_) (fun _ => ?_)
  · refine yes_gd g1 ?_
    refine yes_gd g2 ?_
    exact yes_op (Q := fun S2 => f_L_law_L18 E n L xs m S2 c (c + 129) (nI s + (6 : Int32))) (op_then hi (by omega) _ _) (fun v S1 S2 e => (if_neg g1).trans ((if_neg g2).trans ((bde e).trans (if_pos rfl)))) hR
  refine yes_if (fun _ => ?_) (fun _ => ?_)
  · refine yes_gd g1 ?_
    refine yes_gd g2 ?_
    refine yes_gd g3 ?_
    refine yes_gd g4 ?_
    exact yes_op (Q := fun S2 => f_L_law_L18 E n L xs m S2 c (c + 129) (nI s + (6 : Int32))) (op_walk hi (by omega) _ _ _ _) (fun v S1 S2 e => (if_neg g1).trans ((if_neg g2).trans ((if_neg g3).trans ((if_neg g4).trans ((bde e).trans (if_pos rfl)))))) hR
  refine yes_if (fun _ => ?_) (fun _ => ?_)
  · refine yes_gd g1 ?_
    refine yes_gd g2 ?_
    refine yes_gd g3 ?_
    refine yes_gd g4 ?_
    refine yes_gd g5 ?_
    exact yes_op (Q := fun S2 => f_L_law_L18 E n L xs m S2 c (c + 129) (nI s + (6 : Int32))) (op_walks hi (by omega) _ _ _ _ _) (fun v S1 S2 e => (if_neg g1).trans ((if_neg g2).trans ((if_neg g3).trans ((if_neg g4).trans ((if_neg g5).trans ((bde e).trans (if_pos rfl))))))) hR
  refine yes_if (fun _ => ?_) (fun _ => ?_)
  · refine yes_gd g1 ?_
    exact yes_op (Q := fun S2 => f_L_law_L18 E n L xs m S2 c (c + 129) (nI s + (6 : Int32))) (op_count hi (by omega) _) (fun v S1 S2 e => (if_neg g1).trans ((bde e).trans (if_pos rfl))) hR
  refine yes_if (fun _ => ?_) (fun _ => ?_)
  · refine yes_gd g1 ?_
    exact yes_op (Q := fun S2 => f_L_law_L18 E n L xs m S2 c (c + 129) (nI s + (6 : Int32))) (op_image hi (by omega) _) (fun v S1 S2 e => (if_neg g1).trans ((bde e).trans (if_pos rfl))) hR
  refine yes_if (fun _ => ?_) (fun _ => ?_)
  · refine yes_gd g1 ?_
    exact yes_op (Q := fun S2 => f_L_law_L18 E n L xs m S2 c (c + 129) (nI s + (6 : Int32))) (op_back hi (by omega) _) (fun v S1 S2 e => (if_neg g1).trans ((bde e).trans (if_pos rfl))) hR
  refine yes_if (fun _ => ?_) (fun _ => ?_)
  · refine yes_gd g1 ?_
    refine yes_gd g2 ?_
    refine yes_gd g3 ?_
    exact yes_op (Q := fun S2 => f_L_law_L18 E n L xs m S2 c (c + 129) (nI s + (6 : Int32))) (op_row hi (by omega) _ _ _) (fun v S1 S2 e => (if_neg g1).trans ((if_neg g2).trans ((if_neg g3).trans ((bde e).trans (if_pos rfl))))) hR
  refine yes_if (fun _ => ?_) (fun _ => ?_)
  · refine yes_gd g1 ?_
    refine yes_gd g2 ?_
    refine yes_gd g3 ?_
    refine yes_gd g4 ?_
    exact yes_op (Q := fun S2 => f_L_law_L18 E n L xs m S2 c (c + 129) (nI s + (6 : Int32))) (op_write hi _ _ _) (fun v S1 S2 e => (if_neg g1).trans ((if_neg g2).trans ((if_neg g3).trans ((if_neg g4).trans ((bde e).trans (if_pos rfl)))))) hR
  refine yes_if (fun _ => ?_) (fun _ => ?_)
  · refine yes_gd g1 ?_
    refine yes_gd g2 ?_
    refine yes_gd g3 ?_
    refine yes_gd g4 ?_
    refine yes_gd g5 ?_
    exact yes_op (Q := fun S2 => f_L_law_L18 E n L xs m S2 c (c + 129) (nI s + (6 : Int32))) (op_paste hi (by omega) _ _ _ _ _) (fun v S1 S2 e => (if_neg g1).trans ((if_neg g2).trans ((if_neg g3).trans ((if_neg g4).trans ((if_neg g5).trans ((bde e).trans (if_pos rfl))))))) hR
  exact hR S x M hi
set_option maxRecDepth 100000 in
set_option maxHeartbeats 4000000 in
theorem law_one {E : EN} {c n L : Nat} {xs : Nat → Int32} {s m : Nat} {S : WS} (h : ((Int32.ofNat L) - (6 : Int32)) < nI s) : yes (f_L_law_L18 E n L xs (m + 1) S c (c + 129) (nI s)) := by
  unfold f_L_law_L18
  rw [if_pos h]
  exact ⟨S, rfl⟩
theorem law_go {E : EN} {c n L : Nat} {xs : Nat → Int32} (hL : L ≤ 3072) (hn : 30000000 ≤ n) (h58 : eK E (c + 58) = 0) (h74 : eK E (c + 74) ≠ 0) : ∀ (k s m : Nat) (S : WS) (x : Nat) (M : Nat → Int32), L ≤ s + 6 * k → s ≤ L + 6 → k < m → Inv E c S x M → yes (f_L_law_L18 E n L xs m S c (c + 129) (nI s)) := by
  intro k
  induction k with
  | zero =>
    intro s m S x M h1 h2 hm hi
    obtain ⟨m, rfl⟩ : ∃ q, m = q + 1 := ⟨m - 1, by omega⟩
    exact law_one ((law_end hL h2).mpr (by omega))
  | succ k ih =>
    intro s m S x M h1 h2 hm hi
    obtain ⟨m, rfl⟩ : ∃ q, m = q + 1 := ⟨m - 1, by omega⟩
    by_cases c1 : s + 6 ≤ L
    · refine law_step hL hn h58 h74 c1 hi (fun S2 x M hi => ?_)
      rw [show nI s + (6 : Int32) = nI (s + 6) from nI_add s 6]
      exact ih (s + 6) m S2 x M (by omega) (by omega) (by omega) hi
    · exact law_one ((law_end hL h2).mpr (by omega))
theorem hlaw_all (E : EN) (L : Nat) (xs : Nat → Int32) (hL : L ≤ 3072) : ∃ (n : Nat) (S' : WS), f_L_law_L18 (EE E 149) n L xs n (S_init E) (eW E + 0) (eW E + 129) 0 = some ((1 : Int32), S') := by
  obtain ⟨n, hn⟩ : ∃ n : Nat, n = 40000000 := ⟨_, rfl⟩
  obtain ⟨S', e⟩ := law_go (E := EE E 149) (c := eW E) (n := n) (xs := xs) hL (by omega) (kEE.trans rfl) (fun q => absurd (kEE.symm.trans q) (by decide)) 600 0 n (S_init E) 4 M0 (by omega) (by omega) (by omega) Inv_init
  exact ⟨n, S', e⟩
