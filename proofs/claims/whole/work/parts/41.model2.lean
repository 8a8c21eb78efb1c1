/-! geometry of the model: the line laid in g + 16, g + 17; pieces in field 28 -/
def q_gL (σ : mj_W) (g : Nat) : Prop := (0 ≤ σ g 28 ∧ σ g 28 ≤ 9) ∧ (∀ c, 0 ≤ c → c ≤ σ g 28 → -1 ≤ σ (g + 16) c ∧ σ (g + 16) c ≤ 41) ∧ (∀ c, 0 ≤ c → c ≤ σ g 28 → 0 ≤ σ (g + 17) c ∧ σ (g + 17) c ≤ 40)
section M2
variable {n g : Nat} {σ : mj_W} {K : Option mj_V → mj_W → Prop} {x y p w i j c d k lo hi : Int}
theorem c_M_turnOf (hL : q_gL σ g) (hk : 0 ≤ k ∧ k < σ g 28) (h5 : -1 ≤ x ∧ x ≤ 41) (h6 : 0 ≤ y ∧ y ≤ 40) (hK : ∀ r, r = q_turn (σ (g + 16) k) (σ (g + 17) k) (σ (g + 16) (k + 1)) (σ (g + 17) (k + 1)) x y → (-4000 ≤ r ∧ r ≤ 4000) → K (some (iV r)) σ) : mj_Ok (n + 2) i_M_turnOf [rV 12 0 g, iV k, iV x, iV y] σ K := by
  obtain ⟨hc, hx, hy⟩ := hL
  refine mj_enter (by decide) (Nat.le_of_ble_eq_true rfl) (fun hg => ?_)
  refine r_M_turnOf [] 600 ?_
  repeat' (first | (refine mj_ite (fun h => ?_) (fun h => ?_) <;> first | (exfalso; omega) | skip) | refine mj_vci (by first | omega | (simp (disch := omega) only [up_ne, up_at, q_up_at, q_up_ne, cp_ne]; omega)) ?_)
  exact c_M_turn (hx k (by omega) (by omega)) (hy k (by omega) (by omega)) (hx (k + 1) (by omega) (by omega)) (hy (k + 1) (by omega) (by omega)) h5 h6 hK
theorem c_M_isOn (hL : q_gL σ g) (hk : 0 ≤ k ∧ k < σ g 28) (h5 : -1 ≤ x ∧ x ≤ 41) (h6 : 0 ≤ y ∧ y ≤ 40) (h1 : q_pc (σ (g + 16) k) (σ (g + 17) k) (σ (g + 16) (k + 1)) (σ (g + 17) (k + 1)) x y = 2 → K (some (iV 1)) σ) (h0 : q_pc (σ (g + 16) k) (σ (g + 17) k) (σ (g + 16) (k + 1)) (σ (g + 17) (k + 1)) x y ≠ 2 → K (some (iV 0)) σ) : mj_Ok (n + 3) i_M_isOn [rV 12 0 g, iV k, iV x, iV y] σ K := by
  have hc := hL.1
  have no : ¬ (min (σ (g + 16) k) (σ (g + 16) (k + 1)) ≤ x ∧ x ≤ max (σ (g + 16) k) (σ (g + 16) (k + 1)) ∧ min (σ (g + 17) k) (σ (g + 17) (k + 1)) ≤ y ∧ y ≤ max (σ (g + 17) k) (σ (g + 17) (k + 1)) ∧ q_turn (σ (g + 16) k) (σ (g + 17) k) (σ (g + 16) (k + 1)) (σ (g + 17) (k + 1)) x y = 0) → K (some (iV 0)) σ := by
    intro q
    refine h0 ?_
    unfold q_pc
    rw [if_neg q]
    split <;> omega
  have yes : (min (σ (g + 16) k) (σ (g + 16) (k + 1)) ≤ x ∧ x ≤ max (σ (g + 16) k) (σ (g + 16) (k + 1)) ∧ min (σ (g + 17) k) (σ (g + 17) (k + 1)) ≤ y ∧ y ≤ max (σ (g + 17) k) (σ (g + 17) (k + 1)) ∧ q_turn (σ (g + 16) k) (σ (g + 17) k) (σ (g + 16) (k + 1)) (σ (g + 17) (k + 1)) x y = 0) → K (some (iV 1)) σ := by
    intro q
    refine h1 ?_
    unfold q_pc
    rw [if_pos q]
  refine mj_enter (by decide) (Nat.le_of_ble_eq_true rfl) (fun hg => ?_)
  refine r_M_isOn [] 600 ?_
  repeat' (first | (refine mj_ite (fun h => ?_) (fun h => ?_) <;> first | (exfalso; omega) | skip) | refine mj_vci (by first | omega | (simp (disch := omega) only [up_ne, up_at, q_up_at, q_up_ne, cp_ne]; omega)) ?_)
  refine c_M_isBetween (fun a1 => ?_) (fun a1 => ?_)
  · unfold q_btw at a1
    repeat' (first | (refine mj_ite (fun h => ?_) (fun h => ?_) <;> first | (exfalso; omega) | skip) | refine mj_vci (by first | omega | (simp (disch := omega) only [up_ne, up_at, q_up_at, q_up_ne, cp_ne]; omega)) ?_)
    refine c_M_isBetween (fun a2 => ?_) (fun a2 => ?_)
    · unfold q_btw at a2
      repeat' (first | (refine mj_ite (fun h => ?_) (fun h => ?_) <;> first | (exfalso; omega) | skip) | refine mj_vci (by first | omega | (simp (disch := omega) only [up_ne, up_at, q_up_at, q_up_ne, cp_ne]; omega)) ?_)
      refine c_M_turnOf hL hk h5 h6 (fun r hr hb => ?_)
      rw [← hr] at yes no
      repeat' (first | (refine mj_ite (fun h => ?_) (fun h => ?_) <;> first | (exfalso; omega) | skip) | refine mj_vci (by first | omega | (simp (disch := omega) only [up_ne, up_at, q_up_at, q_up_ne, cp_ne]; omega)) ?_)
      · exact yes (by omega)
      · exact no (by omega)
    · unfold q_btw at a2
      repeat' (first | (refine mj_ite (fun h => ?_) (fun h => ?_) <;> first | (exfalso; omega) | skip) | refine mj_vci (by first | omega | (simp (disch := omega) only [up_ne, up_at, q_up_at, q_up_ne, cp_ne]; omega)) ?_)
      exact no (by omega)
  · unfold q_btw at a1
    repeat' (first | (refine mj_ite (fun h => ?_) (fun h => ?_) <;> first | (exfalso; omega) | skip) | refine mj_vci (by first | omega | (simp (disch := omega) only [up_ne, up_at, q_up_at, q_up_ne, cp_ne]; omega)) ?_)
    exact no (by omega)
theorem c_M_isNorthOf (hL : q_gL σ g) (hk : 0 ≤ k ∧ k < σ g 28) (h5 : -1 ≤ x ∧ x ≤ 41) (h6 : 0 ≤ y ∧ y ≤ 40) (hne : q_pc (σ (g + 16) k) (σ (g + 17) k) (σ (g + 16) (k + 1)) (σ (g + 17) (k + 1)) x y ≠ 2) (h1 : q_pc (σ (g + 16) k) (σ (g + 17) k) (σ (g + 16) (k + 1)) (σ (g + 17) (k + 1)) x y = 1 → K (some (iV 1)) σ) (h0 : q_pc (σ (g + 16) k) (σ (g + 17) k) (σ (g + 16) (k + 1)) (σ (g + 17) (k + 1)) x y = 0 → K (some (iV 0)) σ) : mj_Ok (n + 3) i_M_isNorthOf [rV 12 0 g, iV k, iV x, iV y] σ K := by
  have hc := hL.1
  unfold q_pc at hne h1 h0
  have e : ¬ (min (σ (g + 16) k) (σ (g + 16) (k + 1)) ≤ x ∧ x ≤ max (σ (g + 16) k) (σ (g + 16) (k + 1)) ∧ min (σ (g + 17) k) (σ (g + 17) (k + 1)) ≤ y ∧ y ≤ max (σ (g + 17) k) (σ (g + 17) (k + 1)) ∧ q_turn (σ (g + 16) k) (σ (g + 17) k) (σ (g + 16) (k + 1)) (σ (g + 17) (k + 1)) x y = 0) := by
    intro q
    rw [if_pos q] at hne
    exact hne rfl
  rw [if_neg e] at h1 h0
  refine mj_enter (by decide) (Nat.le_of_ble_eq_true rfl) (fun hg => ?_)
  refine r_M_isNorthOf [] 600 ?_
  repeat' (first | (refine mj_ite (fun h => ?_) (fun h => ?_) <;> first | (exfalso; omega) | skip) | refine mj_vci (by first | omega | (simp (disch := omega) only [up_ne, up_at, q_up_at, q_up_ne, cp_ne]; omega)) ?_)
  all_goals
    refine c_M_turnOf hL hk h5 h6 (fun r hr hb => ?_)
    rw [← hr] at h1 h0
    repeat' (first | (refine mj_ite (fun h => ?_) (fun h => ?_) <;> first | (exfalso; omega) | skip) | refine mj_vci (by first | omega | (simp (disch := omega) only [up_ne, up_at, q_up_at, q_up_ne, cp_ne]; omega)) ?_)
  all_goals first
    | (rw [if_pos (by omega)] at h1; exact h1 rfl)
    | (rw [if_neg (by omega)] at h0; exact h0 rfl)
theorem l_M_sideOf (hL : q_gL σ g) (h5 : -1 ≤ x ∧ x ≤ 41) (h6 : 0 ≤ y ∧ y ≤ 40) : ∀ (k : Nat) (i c : Int), 0 ≤ i → i + k = σ g 28 → (0 ≤ c ∧ c ≤ i) → (∀ r, r = q_sideF (σ (g + 16)) (σ (g + 17)) x y i k (c % 2) → K (some (iV r)) σ) → mj_Wm i_M_sideOf (n + 4) K 5 [some (rV 12 0 g), some (iV x), some (iV y), some (iV c), some (iV i)] [] σ := by
  have hc := hL.1
  intro k
  induction k with
  | zero =>
    intro i c h0 h1 hcc hK
    refine r_M_sideOf [(5, [true, true, true, true, true])] 600 ?_
    repeat' (first | (refine mj_ite (fun h => ?_) (fun h => ?_) <;> first | (exfalso; omega) | skip) | refine mj_vci (by first | omega | (simp (disch := omega) only [up_ne, up_at, q_up_at, q_up_ne, cp_ne]; omega)) ?_)
    exact hK _ rfl
  | succ k ih =>
    intro i c h0 h1 hcc hK
    unfold q_sideF at hK
    refine r_M_sideOf [(5, [true, true, true, true, true])] 600 ?_
    repeat' (first | (refine mj_ite (fun h => ?_) (fun h => ?_) <;> first | (exfalso; omega) | skip) | refine mj_vci (by first | omega | (simp (disch := omega) only [up_ne, up_at, q_up_at, q_up_ne, cp_ne]; omega)) ?_)
    refine c_M_isOn hL (by omega) h5 h6 (fun e => ?_) (fun e => ?_)
    · rw [if_pos e] at hK
      repeat' (first | (refine mj_ite (fun h => ?_) (fun h => ?_) <;> first | (exfalso; omega) | skip) | refine mj_vci (by first | omega | (simp (disch := omega) only [up_ne, up_at, q_up_at, q_up_ne, cp_ne]; omega)) ?_)
      exact hK _ rfl
    · rw [if_neg e] at hK
      repeat' (first | (refine mj_ite (fun h => ?_) (fun h => ?_) <;> first | (exfalso; omega) | skip) | refine mj_vci (by first | omega | (simp (disch := omega) only [up_ne, up_at, q_up_at, q_up_ne, cp_ne]; omega)) ?_)
      refine c_M_isNorthOf hL (by omega) h5 h6 e (fun e2 => ?_) (fun e2 => ?_)
      · rw [e2] at hK
        repeat' (first | (refine mj_ite (fun h => ?_) (fun h => ?_) <;> first | (exfalso; omega) | skip) | refine mj_vci (by first | omega | (simp (disch := omega) only [up_ne, up_at, q_up_at, q_up_ne, cp_ne]; omega)) ?_)
        refine ih (i + 1) (c + 1) (by omega) (by omega) (by omega) ?_
        rw [show (c + 1) % 2 = (c % 2 + 1) % 2 by omega]
        exact hK
      · rw [e2] at hK
        repeat' (first | (refine mj_ite (fun h => ?_) (fun h => ?_) <;> first | (exfalso; omega) | skip) | refine mj_vci (by first | omega | (simp (disch := omega) only [up_ne, up_at, q_up_at, q_up_ne, cp_ne]; omega)) ?_)
        refine ih (i + 1) (c + 0) (by omega) (by omega) (by omega) ?_
        rw [show (c + 0) % 2 = (c % 2 + 0) % 2 by omega]
        exact hK
theorem c_M_sideOf (hL : q_gL σ g) (h5 : -1 ≤ x ∧ x ≤ 41) (h6 : 0 ≤ y ∧ y ≤ 40) (hK : ∀ r, r = q_side (σ (g + 16)) (σ (g + 17)) (σ g 28) x y → K (some (iV r)) σ) : mj_Ok (n + 4) i_M_sideOf [rV 12 0 g, iV x, iV y] σ K := by
  have hc := hL.1
  refine mj_enter (by decide) (Nat.le_of_ble_eq_true rfl) (fun hg => ?_)
  refine r_M_sideOf [(5, [true, true, true, true, true])] 600 ?_
  exact l_M_sideOf hL h5 h6 (σ g 28).toNat 0 0 (by omega) (by omega) (by omega) hK
theorem l_M_southOf (hL : q_gL σ g) : ∀ (k : Nat) (i a : Int), 0 ≤ i → i + k = σ g 28 → (-4000 * i ≤ a ∧ a ≤ 4000 * i) → (∀ r, r = q_southF (σ (g + 16)) (σ (g + 17)) i k a → K (some (iV r)) σ) → mj_Wm i_M_southOf (n + 1) K 4 [some (rV 12 0 g), some (iV a), some (iV i)] [] σ := by
  obtain ⟨hc, hx, hy⟩ := hL
  intro k
  induction k with
  | zero =>
    intro i a h0 h1 ha hK
    refine r_M_southOf [(4, [true, true, true])] 600 ?_
    repeat' (first | (refine mj_ite (fun h => ?_) (fun h => ?_) <;> first | (exfalso; omega) | skip) | refine mj_vci (by first | omega | (simp (disch := omega) only [up_ne, up_at, q_up_at, q_up_ne, cp_ne]; omega)) ?_)
    exact hK _ rfl
  | succ k ih =>
    intro i a h0 h1 ha hK
    unfold q_southF at hK
    have x0 := hx i (by omega) (by omega)
    have x1 := hx (i + 1) (by omega) (by omega)
    have y0 := hy i (by omega) (by omega)
    have y1 := hy (i + 1) (by omega) (by omega)
    have m1 := q_mulb (a := σ (g + 16) (i + 1) - σ (g + 16) i) (b := σ (g + 17) i + σ (g + 17) (i + 1)) (A := 42) (B := 80) (by omega) (by omega)
    refine r_M_southOf [(4, [true, true, true])] 600 ?_
    repeat' (first | (refine mj_ite (fun h => ?_) (fun h => ?_) <;> first | (exfalso; omega) | skip) | refine mj_vci (by first | omega | (simp (disch := omega) only [up_ne, up_at, q_up_at, q_up_ne, cp_ne]; omega)) ?_)
    exact ih (i + 1) _ (by omega) (by omega) (by omega) hK
theorem c_M_southOf (hL : q_gL σ g) (hK : ∀ r, r = q_south (σ (g + 16)) (σ (g + 17)) (σ g 28) → K (some (iV r)) σ) : mj_Ok (n + 1) i_M_southOf [rV 12 0 g] σ K := by
  have hc := hL.1
  refine mj_enter (by decide) (Nat.le_of_ble_eq_true rfl) (fun hg => ?_)
  refine r_M_southOf [(4, [true, true, true])] 600 ?_
  exact l_M_southOf hL (σ g 28).toNat 0 0 (by omega) (by omega) (by omega) hK
theorem c_M_goesBack (hL : q_gL σ g) (hk : 0 ≤ k ∧ k + 1 < σ g 28) (h1 : q_fb (σ (g + 16)) (σ (g + 17)) k = true → K (some (iV 1)) σ) (h0 : q_fb (σ (g + 16)) (σ (g + 17)) k = false → K (some (iV 0)) σ) : mj_Ok (n + 1) i_M_goesBack [rV 12 0 g, iV k] σ K := by
  obtain ⟨hc, hx, hy⟩ := hL
  have x0 := hx k (by omega) (by omega)
  have x1 := hx (k + 1) (by omega) (by omega)
  have x2 := hx (k + 2) (by omega) (by omega)
  have y0 := hy k (by omega) (by omega)
  have y1 := hy (k + 1) (by omega) (by omega)
  have y2 := hy (k + 2) (by omega) (by omega)
  have m1 := q_mulb (a := σ (g + 16) k - σ (g + 16) (k + 1)) (b := σ (g + 17) (k + 2) - σ (g + 17) (k + 1)) (A := 42) (B := 40) (by omega) (by omega)
  have m2 := q_mulb (a := σ (g + 17) k - σ (g + 17) (k + 1)) (b := σ (g + 16) (k + 2) - σ (g + 16) (k + 1)) (A := 40) (B := 42) (by omega) (by omega)
  have m3 := q_mulb (a := σ (g + 16) k - σ (g + 16) (k + 1)) (b := σ (g + 16) (k + 2) - σ (g + 16) (k + 1)) (A := 42) (B := 42) (by omega) (by omega)
  have m4 := q_mulb (a := σ (g + 17) k - σ (g + 17) (k + 1)) (b := σ (g + 17) (k + 2) - σ (g + 17) (k + 1)) (A := 40) (B := 40) (by omega) (by omega)
  unfold q_fb at h1 h0
  refine mj_enter (by decide) (Nat.le_of_ble_eq_true rfl) (fun hg => ?_)
  refine r_M_goesBack [] 600 ?_
  repeat' (first | (refine mj_ite (fun h => ?_) (fun h => ?_) <;> first | (exfalso; omega) | skip) | refine mj_vci (by first | omega | (simp (disch := omega) only [up_ne, up_at, q_up_at, q_up_ne, cp_ne]; omega)) ?_)
  all_goals first
    | exact h1 (decide_eq_true ⟨by omega, by omega⟩)
    | exact h0 (decide_eq_false (by omega))
end M2
