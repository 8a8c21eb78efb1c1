/-! StandingLine's own small functions, Border's reads -/
section B1
variable {n b : Nat} {σ : mj_W} {K : Option mj_V → mj_W → Prop} {x y p w : Int}
theorem c_S_isLand (h1 : 0 ≤ x → x ≤ 40 → 0 ≤ y → y ≤ 40 → K (some (iV 1)) σ) (h0 : ¬ (0 ≤ x ∧ x ≤ 40 ∧ 0 ≤ y ∧ y ≤ 40) → K (some (iV 0)) σ) : mj_Ok (n + 1) i_S_isLand [iV x, iV y] σ K := by
  refine mj_enter (by decide) (Nat.le_of_ble_eq_true rfl) (fun hg => ?_)
  refine r_S_isLand [] 600 ?_
  repeat' (first | (refine mj_ite (fun h => ?_) (fun h => ?_) <;> first | (exfalso; omega) | skip) | refine mj_vci (by first | omega | (simp (disch := omega) only [up_ne, up_at, q_up_at, q_up_ne, cp_ne]; omega)) ?_)
  all_goals first | exact h1 (by omega) (by omega) (by omega) (by omega) | exact h0 (by omega)
theorem c_S_isPerson (h1 : 0 ≤ p → p ≤ 7 → K (some (iV 1)) σ) (h0 : ¬ (0 ≤ p ∧ p ≤ 7) → K (some (iV 0)) σ) : mj_Ok (n + 1) i_S_isPerson [iV p] σ K := by
  refine mj_enter (by decide) (Nat.le_of_ble_eq_true rfl) (fun hg => ?_)
  refine r_S_isPerson [] 600 ?_
  repeat' (first | (refine mj_ite (fun h => ?_) (fun h => ?_) <;> first | (exfalso; omega) | skip) | refine mj_vci (by first | omega | (simp (disch := omega) only [up_ne, up_at, q_up_at, q_up_ne, cp_ne]; omega)) ?_)
  all_goals first | exact h1 (by omega) (by omega) | exact h0 (by omega)
theorem c_S_isSide (h1 : 0 ≤ p → p ≤ 2 → K (some (iV 1)) σ) (h0 : ¬ (0 ≤ p ∧ p ≤ 2) → K (some (iV 0)) σ) : mj_Ok (n + 1) i_S_isSide [iV p] σ K := by
  refine mj_enter (by decide) (Nat.le_of_ble_eq_true rfl) (fun hg => ?_)
  refine r_S_isSide [] 600 ?_
  repeat' (first | (refine mj_ite (fun h => ?_) (fun h => ?_) <;> first | (exfalso; omega) | skip) | refine mj_vci (by first | omega | (simp (disch := omega) only [up_ne, up_at, q_up_at, q_up_ne, cp_ne]; omega)) ?_)
  all_goals first | exact h1 (by omega) (by omega) | exact h0 (by omega)
theorem c_S_pointCode (hx : 0 ≤ x ∧ x ≤ 40) (hy : 0 ≤ y ∧ y ≤ 40) (hK : K (some (iV (50 * x + y))) σ) : mj_Ok (n + 1) i_S_pointCode [iV x, iV y] σ K := by
  refine mj_enter (by decide) (Nat.le_of_ble_eq_true rfl) (fun hg => ?_)
  refine r_S_pointCode [] 600 ?_
  repeat' (first | (refine mj_ite (fun h => ?_) (fun h => ?_) <;> first | (exfalso; omega) | skip) | refine mj_vci (by first | omega | (simp (disch := omega) only [up_ne, up_at, q_up_at, q_up_ne, cp_ne]; omega)) ?_)
  exact hK
theorem l_Border_placeOf (hc : 0 ≤ σ b 4 ∧ σ b 4 ≤ 8) : ∀ (k : Nat) (i : Int), 0 ≤ i → i + k = σ b 4 → K (some (iV (q_fndF (σ (b + 4)) p i k))) σ → mj_Wm i_Border_placeOf (n + 1) K 2 [some (rV 1 0 b), some (iV p), some (iV i)] [] σ := by
  intro k
  induction k with
  | zero =>
    intro i h0 h1 hK
    refine r_Border_placeOf [(2, [true, true, true])] 600 ?_
    repeat' (first | (refine mj_ite (fun h => ?_) (fun h => ?_) <;> first | (exfalso; omega) | skip) | refine mj_vci (by first | omega | (simp (disch := omega) only [up_ne, up_at, q_up_at, q_up_ne, cp_ne]; omega)) ?_)
    exact hK
  | succ k ih =>
    intro i h0 h1 hK
    refine r_Border_placeOf [(2, [true, true, true])] 600 ?_
    unfold q_fndF at hK
    repeat' (first | (refine mj_ite (fun h => ?_) (fun h => ?_) <;> first | (exfalso; omega) | skip) | refine mj_vci (by first | omega | (simp (disch := omega) only [up_ne, up_at, q_up_at, q_up_ne, cp_ne]; omega)) ?_)
    · rw [if_pos (by assumption)] at hK
      exact hK
    · rw [if_neg (by assumption)] at hK
      exact ih (i + 1) (by omega) (by omega) hK
theorem c_Border_placeOf (hc : 0 ≤ σ b 4 ∧ σ b 4 ≤ 8) (hK : K (some (iV (q_fnd (σ (b + 4)) (σ b 4) p))) σ) : mj_Ok (n + 1) i_Border_placeOf [rV 1 0 b, iV p] σ K := by
  refine mj_enter (by decide) (Nat.le_of_ble_eq_true rfl) (fun hg => ?_)
  refine r_Border_placeOf [(2, [true, true, true])] 600 ?_
  repeat' (first | (refine mj_ite (fun h => ?_) (fun h => ?_) <;> first | (exfalso; omega) | skip) | refine mj_vci (by first | omega | (simp (disch := omega) only [up_ne, up_at, q_up_at, q_up_ne, cp_ne]; omega)) ?_)
  exact l_Border_placeOf hc (σ b 4).toNat 0 (by omega) (by omega) hK
theorem c_Border_holds (hc : 0 ≤ σ b 4 ∧ σ b 4 ≤ 8) (h1 : 0 ≤ q_fnd (σ (b + 4)) (σ b 4) p → q_fnd (σ (b + 4)) (σ b 4) p < σ b 4 → σ (b + 4) (q_fnd (σ (b + 4)) (σ b 4) p) = p → K (some (iV 1)) σ) (h0 : q_fnd (σ (b + 4)) (σ b 4) p = -6 → (∀ j, 0 ≤ j → j < σ b 4 → σ (b + 4) j ≠ p) → K (some (iV 0)) σ) : mj_Ok (n + 2) i_Border_holds [rV 1 0 b, iV p] σ K := by
  refine mj_enter (by decide) (Nat.le_of_ble_eq_true rfl) (fun hg => ?_)
  refine r_Border_holds [] 600 ?_
  refine c_Border_placeOf hc ?_
  repeat' (first | (refine mj_ite (fun h => ?_) (fun h => ?_) <;> first | (exfalso; omega) | skip) | refine mj_vci (by first | omega | (simp (disch := omega) only [up_ne, up_at, q_up_at, q_up_ne, cp_ne]; omega)) ?_)
  · rcases q_fnd_or (σ (b + 4)) hc.1 p with ⟨g1, g2⟩ | ⟨g1, g2, g3⟩
    · exact h0 g1 g2
    · omega
  · rcases q_fnd_or (σ (b + 4)) hc.1 p with ⟨g1, g2⟩ | ⟨g1, g2, g3⟩
    · omega
    · exact h1 g1 g2 g3
theorem c_Border_whoInPlace (hc : 0 ≤ σ b 4 ∧ σ b 4 ≤ 8) (h1 : 0 ≤ p → p < σ b 4 → K (some (iV (σ (b + 4) p))) σ) (h0 : ¬ (0 ≤ p ∧ p < σ b 4) → K (some (iV (-6))) σ) : mj_Ok (n + 1) i_Border_whoInPlace [rV 1 0 b, iV p] σ K := by
  refine mj_enter (by decide) (Nat.le_of_ble_eq_true rfl) (fun hg => ?_)
  refine r_Border_whoInPlace [] 600 ?_
  repeat' (first | (refine mj_ite (fun h => ?_) (fun h => ?_) <;> first | (exfalso; omega) | skip) | refine mj_vci (by first | omega | (simp (disch := omega) only [up_ne, up_at, q_up_at, q_up_ne, cp_ne]; omega)) ?_)
  all_goals first | exact h1 (by omega) (by omega) | exact h0 (by omega)
theorem c_Border_measure (hK : K (some (iV (if w = 0 then σ b 5 else if w = 1 then σ b 6 else σ b 7))) σ) : mj_Ok (n + 1) i_Border_measure [rV 1 0 b, iV w] σ K := by
  refine mj_enter (by decide) (Nat.le_of_ble_eq_true rfl) (fun hg => ?_)
  refine r_Border_measure [] 600 ?_
  repeat' (first | (refine mj_ite (fun h => ?_) (fun h => ?_) <;> first | (exfalso; omega) | skip) | refine mj_vci (by first | omega | (simp (disch := omega) only [up_ne, up_at, q_up_at, q_up_ne, cp_ne]; omega)) ?_)
  · rw [if_pos (by assumption)] at hK; exact hK
  · rw [if_neg (by assumption), if_pos (by assumption)] at hK; exact hK
  · rw [if_neg (by assumption), if_neg (by assumption)] at hK; exact hK
theorem c_Border_factOf (hp : 0 ≤ p ∧ p ≤ 7) (hK : K (some (iV (if w = 0 then σ (b + 1) p else if w = 1 then σ (b + 2) p else σ (b + 3) p))) σ) : mj_Ok (n + 1) i_Border_factOf [rV 1 0 b, iV p, iV w] σ K := by
  refine mj_enter (by decide) (Nat.le_of_ble_eq_true rfl) (fun hg => ?_)
  refine r_Border_factOf [] 600 ?_
  repeat' (first | (refine mj_ite (fun h => ?_) (fun h => ?_) <;> first | (exfalso; omega) | skip) | refine mj_vci (by first | omega | (simp (disch := omega) only [up_ne, up_at, q_up_at, q_up_ne, cp_ne]; omega)) ?_)
  · rw [if_pos (by assumption)] at hK; exact hK
  · rw [if_neg (by assumption), if_pos (by assumption)] at hK; exact hK
  · rw [if_neg (by assumption), if_neg (by assumption)] at hK; exact hK
theorem c_Border_pieces (hc : 0 ≤ σ b 4 ∧ σ b 4 ≤ 8) (hK : K (some (iV (σ b 4 + 1))) σ) : mj_Ok (n + 1) i_Border_pieces [rV 1 0 b] σ K := by
  refine mj_enter (by decide) (Nat.le_of_ble_eq_true rfl) (fun hg => ?_)
  refine r_Border_pieces [] 600 ?_
  repeat' (first | (refine mj_ite (fun h => ?_) (fun h => ?_) <;> first | (exfalso; omega) | skip) | refine mj_vci (by first | omega | (simp (disch := omega) only [up_ne, up_at, q_up_at, q_up_ne, cp_ne]; omega)) ?_)
  exact hK
theorem l_Border_isTaken {ex : Int} (hc : 0 ≤ σ b 4 ∧ σ b 4 ≤ 8) (hr : ∀ i, 0 ≤ σ (b + 4) i ∧ σ (b + 4) i ≤ 7)
    (h1 : ∀ j, 0 ≤ j → j < σ b 4 → σ (b + 4) j ≠ ex → σ (b + 1) (σ (b + 4) j) = x → σ (b + 2) (σ (b + 4) j) = y → K (some (iV 1)) σ) (h0 : (∀ j, 0 ≤ j → j < σ b 4 → σ (b + 4) j ≠ ex → σ (b + 1) (σ (b + 4) j) = x → σ (b + 2) (σ (b + 4) j) ≠ y) → K (some (iV 0)) σ) :
    ∀ (k : Nat) (i : Int), 0 ≤ i → i + k = σ b 4 → (∀ j, 0 ≤ j → j < i → σ (b + 4) j ≠ ex → σ (b + 1) (σ (b + 4) j) = x → σ (b + 2) (σ (b + 4) j) ≠ y) → mj_Wm i_Border_isTaken (n + 1) K 3 [some (rV 1 0 b), some (iV x), some (iV y), some (iV ex), some (iV i), none] [] σ := by
  intro k
  induction k with
  | zero =>
    intro i g0 g1 hK
    refine r_Border_isTaken [(3, [true, true, true, true, true, false])] 600 ?_
    repeat' (first | (refine mj_ite (fun h => ?_) (fun h => ?_) <;> first | (exfalso; omega) | skip) | refine mj_vci (by first | omega | (simp (disch := omega) only [up_ne, up_at, q_up_at, q_up_ne, cp_ne]; omega)) ?_)
    exact h0 (fun j a1 a2 => hK j a1 (by omega))
  | succ k ih =>
    intro i g0 g1 hK
    have hri := hr i
    have step : (σ (b + 4) i ≠ ex → σ (b + 1) (σ (b + 4) i) = x → σ (b + 2) (σ (b + 4) i) ≠ y) → mj_Wm i_Border_isTaken (n + 1) K 3 [some (rV 1 0 b), some (iV x), some (iV y), some (iV ex), some (iV (i + 1)), none] [] σ := by
      intro hs
      refine ih (i + 1) (by omega) (by omega) (fun j a1 a2 => ?_)
      by_cases e : j = i
      · rw [e]; exact hs
      · exact hK j a1 (by omega)
    refine r_Border_isTaken [(3, [true, true, true, true, true, false])] 600 ?_
    repeat' (first | (refine mj_ite (fun h => ?_) (fun h => ?_) <;> first | (exfalso; omega) | skip) | refine mj_vci (by first | omega | (simp (disch := omega) only [up_ne, up_at, q_up_at, q_up_ne, cp_ne]; omega)) ?_)
    · exact step (fun q => absurd (by assumption) q)
    · exact h1 i g0 (by omega) (by assumption) (by assumption) (by assumption)
    · exact step (fun _ _ => by assumption)
    · exact step (fun _ q => absurd q (by assumption))
theorem c_Border_isTaken {ex : Int} (hc : 0 ≤ σ b 4 ∧ σ b 4 ≤ 8) (hr : ∀ i, 0 ≤ σ (b + 4) i ∧ σ (b + 4) i ≤ 7)
    (h1 : ∀ j, 0 ≤ j → j < σ b 4 → σ (b + 4) j ≠ ex → σ (b + 1) (σ (b + 4) j) = x → σ (b + 2) (σ (b + 4) j) = y → K (some (iV 1)) σ) (h0 : (∀ j, 0 ≤ j → j < σ b 4 → σ (b + 4) j ≠ ex → σ (b + 1) (σ (b + 4) j) = x → σ (b + 2) (σ (b + 4) j) ≠ y) → K (some (iV 0)) σ) : mj_Ok (n + 1) i_Border_isTaken [rV 1 0 b, iV x, iV y, iV ex] σ K := by
  refine mj_enter (by decide) (Nat.le_of_ble_eq_true rfl) (fun hg => ?_)
  refine r_Border_isTaken [(3, [true, true, true, true, true, false])] 600 ?_
  repeat' (first | (refine mj_ite (fun h => ?_) (fun h => ?_) <;> first | (exfalso; omega) | skip) | refine mj_vci (by first | omega | (simp (disch := omega) only [up_ne, up_at, q_up_at, q_up_ne, cp_ne]; omega)) ?_)
  exact l_Border_isTaken hc hr h1 h0 (σ b 4).toNat 0 (by omega) (by omega) (fun j a1 a2 => by omega)
theorem c_Border_cornerX (hc : 0 ≤ σ b 4 ∧ σ b 4 ≤ 8) (hr : ∀ i, 0 ≤ σ (b + 4) i ∧ σ (b + 4) i ≤ 7) (hK : K (some (iV (q_cx (σ b 4) (σ (b + 4)) (σ (b + 1)) p))) σ) : mj_Ok (n + 1) i_Border_cornerX [rV 1 0 b, iV p] σ K := by
  refine mj_enter (by decide) (Nat.le_of_ble_eq_true rfl) (fun hg => ?_)
  have hr1 := hr (p - 1)
  unfold q_cx at hK
  refine r_Border_cornerX [] 600 ?_
  repeat' (first | (refine mj_ite (fun h => ?_) (fun h => ?_) <;> first | (exfalso; omega) | skip) | refine mj_vci (by first | omega | (simp (disch := omega) only [up_ne, up_at, q_up_at, q_up_ne, cp_ne]; omega)) ?_)
  · rw [if_neg (by omega), if_pos (by omega)] at hK; exact hK
  · rw [if_neg (by omega), if_neg (by omega)] at hK; exact hK
  · rw [if_pos (by omega)] at hK; exact hK
theorem c_Border_cornerY (hc : 0 ≤ σ b 4 ∧ σ b 4 ≤ 8) (hr : ∀ i, 0 ≤ σ (b + 4) i ∧ σ (b + 4) i ≤ 7) (hK : K (some (iV (q_cy (σ b 4) (σ b 5) (σ b 6) (σ (b + 4)) (σ (b + 2)) p))) σ) : mj_Ok (n + 1) i_Border_cornerY [rV 1 0 b, iV p] σ K := by
  refine mj_enter (by decide) (Nat.le_of_ble_eq_true rfl) (fun hg => ?_)
  have hr1 := hr (p - 1)
  unfold q_cy at hK
  refine r_Border_cornerY [] 600 ?_
  repeat' (first | (refine mj_ite (fun h => ?_) (fun h => ?_) <;> first | (exfalso; omega) | skip) | refine mj_vci (by first | omega | (simp (disch := omega) only [up_ne, up_at, q_up_at, q_up_ne, cp_ne]; omega)) ?_)
  · rw [if_neg (by omega), if_pos (by omega)] at hK; exact hK
  · rw [if_neg (by omega), if_neg (by omega)] at hK; exact hK
  · rw [if_pos (by omega)] at hK; exact hK
theorem c_Border_put (hp : 0 ≤ p ∧ p ≤ 7) (hK : K none (mj_up (mj_up σ (b + 1) p x) (b + 2) p y)) : mj_Ok (n + 1) i_Border_put [rV 1 0 b, iV p, iV x, iV y] σ K := by
  refine mj_enter (by decide) (Nat.le_of_ble_eq_true rfl) (fun hg => ?_)
  refine r_Border_put [] 600 ?_
  repeat' (first | (refine mj_ite (fun h => ?_) (fun h => ?_) <;> first | (exfalso; omega) | skip) | refine mj_vci (by first | omega | (simp (disch := omega) only [up_ne, up_at, q_up_at, q_up_ne, cp_ne]; omega)) ?_)
  exact hK
end B1
