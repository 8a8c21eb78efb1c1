/-! the model: base g; g + 1 row, + 2 xs, + 3 ys, + 4 walked, + 16 lineX, + 17 lineY; fields 0 many, 28 pieces -/
section M1
variable {n g : Nat} {σ : mj_W} {K : Option mj_V → mj_W → Prop} {x y p w i j c d lo hi : Int}
theorem c_M_in (h1 : lo ≤ x → x ≤ hi → K (some (iV 1)) σ) (h0 : ¬ (lo ≤ x ∧ x ≤ hi) → K (some (iV 0)) σ) : mj_Ok (n + 1) i_M_in [jV x, jV lo, jV hi] σ K := by
  refine mj_enter (by decide) (Nat.le_of_ble_eq_true rfl) (fun hg => ?_)
  refine r_M_in [] 600 ?_
  repeat' (first | (refine mj_ite (fun h => ?_) (fun h => ?_) <;> first | (exfalso; omega) | skip) | refine mj_vci (by first | omega | (simp (disch := omega) only [up_ne, up_at, q_up_at, q_up_ne, cp_ne]; omega)) ?_)
  all_goals first | exact h1 (by omega) (by omega) | exact h0 (by omega)
theorem c_M_isLand (h1 : 0 ≤ x → x ≤ 40 → 0 ≤ y → y ≤ 40 → K (some (iV 1)) σ) (h0 : ¬ (0 ≤ x ∧ x ≤ 40 ∧ 0 ≤ y ∧ y ≤ 40) → K (some (iV 0)) σ) : mj_Ok (n + 2) i_M_isLand [iV x, iV y] σ K := by
  refine mj_enter (by decide) (Nat.le_of_ble_eq_true rfl) (fun hg => ?_)
  refine r_M_isLand [] 600 ?_
  refine c_M_in (fun a1 a2 => ?_) (fun a0 => ?_)
  · repeat' (first | (refine mj_ite (fun h => ?_) (fun h => ?_) <;> first | (exfalso; omega) | skip) | refine mj_vci (by first | omega | (simp (disch := omega) only [up_ne, up_at, q_up_at, q_up_ne, cp_ne]; omega)) ?_)
    refine c_M_in (fun b1 b2 => ?_) (fun b0 => ?_)
    · repeat' (first | (refine mj_ite (fun h => ?_) (fun h => ?_) <;> first | (exfalso; omega) | skip) | refine mj_vci (by first | omega | (simp (disch := omega) only [up_ne, up_at, q_up_at, q_up_ne, cp_ne]; omega)) ?_)
      exact h1 a1 a2 b1 b2
    · repeat' (first | (refine mj_ite (fun h => ?_) (fun h => ?_) <;> first | (exfalso; omega) | skip) | refine mj_vci (by first | omega | (simp (disch := omega) only [up_ne, up_at, q_up_at, q_up_ne, cp_ne]; omega)) ?_)
      exact h0 (by omega)
  · repeat' (first | (refine mj_ite (fun h => ?_) (fun h => ?_) <;> first | (exfalso; omega) | skip) | refine mj_vci (by first | omega | (simp (disch := omega) only [up_ne, up_at, q_up_at, q_up_ne, cp_ne]; omega)) ?_)
    exact h0 (by omega)
theorem c_M_isNumber (h1 : 0 ≤ p → p ≤ 7 → K (some (iV 1)) σ) (h0 : ¬ (0 ≤ p ∧ p ≤ 7) → K (some (iV 0)) σ) : mj_Ok (n + 2) i_M_isNumber [iV p] σ K := by
  refine mj_enter (by decide) (Nat.le_of_ble_eq_true rfl) (fun hg => ?_)
  refine r_M_isNumber [] 600 ?_
  refine c_M_in (fun a1 a2 => ?_) (fun a0 => ?_)
  · repeat' (first | (refine mj_ite (fun h => ?_) (fun h => ?_) <;> first | (exfalso; omega) | skip) | refine mj_vci (by first | omega | (simp (disch := omega) only [up_ne, up_at, q_up_at, q_up_ne, cp_ne]; omega)) ?_)
    exact h1 a1 a2
  · repeat' (first | (refine mj_ite (fun h => ?_) (fun h => ?_) <;> first | (exfalso; omega) | skip) | refine mj_vci (by first | omega | (simp (disch := omega) only [up_ne, up_at, q_up_at, q_up_ne, cp_ne]; omega)) ?_)
    exact h0 a0
theorem c_M_size (hx : -2147483648 < x) (hK : K (some (iV (if x < 0 then -x else x))) σ) : mj_Ok (n + 1) i_M_size [iV x] σ K := by
  refine mj_enter (by decide) (Nat.le_of_ble_eq_true rfl) (fun hg => ?_)
  refine r_M_size [] 600 ?_
  repeat' (first | (refine mj_ite (fun h => ?_) (fun h => ?_) <;> first | (exfalso; omega) | skip) | refine mj_vci (by first | omega | (simp (disch := omega) only [up_ne, up_at, q_up_at, q_up_ne, cp_ne]; omega)) ?_)
  · rw [if_pos h] at hK; exact hK
  · rw [if_neg h] at hK; exact hK
theorem c_M_signOf (hK : ∀ r, r = q_sg x → K (some (iV r)) σ) : mj_Ok (n + 1) i_M_signOf [iV x] σ K := by
  unfold q_sg at hK
  refine mj_enter (by decide) (Nat.le_of_ble_eq_true rfl) (fun hg => ?_)
  refine r_M_signOf [] 600 ?_
  repeat' (first | (refine mj_ite (fun h => ?_) (fun h => ?_) <;> first | (exfalso; omega) | skip) | refine mj_vci (by first | omega | (simp (disch := omega) only [up_ne, up_at, q_up_at, q_up_ne, cp_ne]; omega)) ?_)
  all_goals (refine hK _ ?_; (repeat' split) <;> omega)
theorem c_M_eastBy (hK : K (some (iV (mj_east d))) σ) : mj_Ok (n + 1) i_M_eastBy [iV d] σ K := by
  unfold mj_east at hK
  refine mj_enter (by decide) (Nat.le_of_ble_eq_true rfl) (fun hg => ?_)
  refine r_M_eastBy [] 600 ?_
  repeat' (first | (refine mj_ite (fun h => ?_) (fun h => ?_) <;> first | (exfalso; omega) | skip) | refine mj_vci (by first | omega | (simp (disch := omega) only [up_ne, up_at, q_up_at, q_up_ne, cp_ne]; omega)) ?_)
  · rw [if_pos h] at hK; exact hK
  · rename_i h9; rw [if_neg h9, if_pos h] at hK; exact hK
  · rename_i h9; rw [if_neg h9, if_neg h] at hK; exact hK
theorem c_M_northBy (hK : K (some (iV (mj_north d))) σ) : mj_Ok (n + 1) i_M_northBy [iV d] σ K := by
  unfold mj_north at hK
  refine mj_enter (by decide) (Nat.le_of_ble_eq_true rfl) (fun hg => ?_)
  refine r_M_northBy [] 600 ?_
  repeat' (first | (refine mj_ite (fun h => ?_) (fun h => ?_) <;> first | (exfalso; omega) | skip) | refine mj_vci (by first | omega | (simp (disch := omega) only [up_ne, up_at, q_up_at, q_up_ne, cp_ne]; omega)) ?_)
  · rw [if_pos h] at hK; exact hK
  · rename_i h9; rw [if_neg h9, if_pos h] at hK; exact hK
  · rename_i h9; rw [if_neg h9, if_neg h] at hK; exact hK
theorem l_M_placeOf (hc : 0 ≤ σ g 0 ∧ σ g 0 ≤ 8) (hd : q_dist (σ (g + 1)) (σ g 0)) (hK : ∀ r, r = q_fnd (σ (g + 1)) (σ g 0) p → K (some (iV r)) σ) : ∀ (k : Nat) (i f : Int), 0 ≤ i → i + k = σ g 0 → ((f = -6 ∧ ∀ j, 0 ≤ j → j < i → σ (g + 1) j ≠ p) ∨ (0 ≤ f ∧ f < i ∧ σ (g + 1) f = p)) → mj_Wm i_M_placeOf (n + 1) K 5 [some (rV 12 0 g), some (iV p), some (iV f), some (iV i)] [] σ := by
  intro k
  induction k with
  | zero =>
    intro i f h0 h1 hf
    refine r_M_placeOf [(5, [true, true, true, true])] 600 ?_
    repeat' (first | (refine mj_ite (fun h => ?_) (fun h => ?_) <;> first | (exfalso; omega) | skip) | refine mj_vci (by first | omega | (simp (disch := omega) only [up_ne, up_at, q_up_at, q_up_ne, cp_ne]; omega)) ?_)
    refine hK _ ?_
    rcases hf with ⟨e, hf⟩ | ⟨f1, f2, f3⟩
    · rw [e]; exact (q_fnd_no hc.1 (fun j a1 a2 => hf j a1 (by omega))).symm
    · rw [← f3]; exact (q_fnd_of hd f1 (by omega)).symm
  | succ k ih =>
    intro i f h0 h1 hf
    refine r_M_placeOf [(5, [true, true, true, true])] 600 ?_
    repeat' (first | (refine mj_ite (fun h => ?_) (fun h => ?_) <;> first | (exfalso; omega) | skip) | refine mj_vci (by first | omega | (simp (disch := omega) only [up_ne, up_at, q_up_at, q_up_ne, cp_ne]; omega)) ?_)
    · exact ih (i + 1) i (by omega) (by omega) (Or.inr ⟨h0, by omega, by assumption⟩)
    · refine ih (i + 1) f (by omega) (by omega) ?_
      rcases hf with ⟨e, hf⟩ | ⟨f1, f2, f3⟩
      · refine Or.inl ⟨e, fun j a1 a2 => ?_⟩
        by_cases ej : j = i
        · rw [ej]; assumption
        · exact hf j a1 (by omega)
      · exact Or.inr ⟨f1, by omega, f3⟩
theorem c_M_placeOf (hc : 0 ≤ σ g 0 ∧ σ g 0 ≤ 8) (hd : q_dist (σ (g + 1)) (σ g 0)) (hK : ∀ r, r = q_fnd (σ (g + 1)) (σ g 0) p → K (some (iV r)) σ) : mj_Ok (n + 1) i_M_placeOf [rV 12 0 g, iV p] σ K := by
  refine mj_enter (by decide) (Nat.le_of_ble_eq_true rfl) (fun hg => ?_)
  refine r_M_placeOf [(5, [true, true, true, true])] 600 ?_
  exact l_M_placeOf hc hd hK (σ g 0).toNat 0 (-6) (by omega) (by omega) (Or.inl ⟨rfl, fun j a1 a2 => by omega⟩)
theorem l_M_persons (hc : 0 ≤ σ g 0 ∧ σ g 0 ≤ 8) : ∀ (k : Nat) (i a : Int), 0 ≤ i → i + k = σ g 0 → K (some (iV (q_bitsF (σ (g + 1)) a i k))) σ → mj_Wm i_M_persons (n + 1) K 4 [some (rV 12 0 g), some (iV a), some (iV i)] [] σ := by
  intro k
  induction k with
  | zero =>
    intro i a h0 h1 hK
    refine r_M_persons [(4, [true, true, true])] 600 ?_
    repeat' (first | (refine mj_ite (fun h => ?_) (fun h => ?_) <;> first | (exfalso; omega) | skip) | refine mj_vci (by first | omega | (simp (disch := omega) only [up_ne, up_at, q_up_at, q_up_ne, cp_ne]; omega)) ?_)
    exact hK
  | succ k ih =>
    intro i a h0 h1 hK
    unfold q_bitsF at hK
    refine r_M_persons [(4, [true, true, true])] 600 ?_
    repeat' (first | (refine mj_ite (fun h => ?_) (fun h => ?_) <;> first | (exfalso; omega) | skip) | refine mj_vci (by first | omega | (simp (disch := omega) only [up_ne, up_at, q_up_at, q_up_ne, cp_ne]; omega)) ?_)
    exact ih (i + 1) _ (by omega) (by omega) hK
theorem c_M_persons (hc : 0 ≤ σ g 0 ∧ σ g 0 ≤ 8) (hK : K (some (iV (q_bits (σ (g + 1)) (σ g 0)))) σ) : mj_Ok (n + 1) i_M_persons [rV 12 0 g] σ K := by
  refine mj_enter (by decide) (Nat.le_of_ble_eq_true rfl) (fun hg => ?_)
  refine r_M_persons [(4, [true, true, true])] 600 ?_
  exact l_M_persons hc (σ g 0).toNat 0 0 (by omega) (by omega) hK
theorem l_M_whoAt (hc : 0 ≤ σ g 0 ∧ σ g 0 ≤ 8) (hr : ∀ i, 0 ≤ σ (g + 1) i ∧ σ (g + 1) i ≤ 7) (h0 : (∀ j, 0 ≤ j → j < σ g 0 → σ (g + 2) (σ (g + 1) j) = x → σ (g + 3) (σ (g + 1) j) ≠ y) → K (some (iV (-6))) σ) (h1 : ∀ j, 0 ≤ j → j < σ g 0 → σ (g + 2) (σ (g + 1) j) = x → σ (g + 3) (σ (g + 1) j) = y → K (some (iV (σ (g + 1) j))) σ) :
    ∀ (k : Nat) (i f : Int), 0 ≤ i → i + k = σ g 0 → ((f = -6 ∧ ∀ j, 0 ≤ j → j < i → σ (g + 2) (σ (g + 1) j) = x → σ (g + 3) (σ (g + 1) j) ≠ y) ∨ (∃ j, 0 ≤ j ∧ j < i ∧ σ (g + 2) (σ (g + 1) j) = x ∧ σ (g + 3) (σ (g + 1) j) = y ∧ f = σ (g + 1) j)) → mj_Wm i_M_whoAt (n + 1) K 6 [some (rV 12 0 g), some (iV x), some (iV y), some (iV f), some (iV i)] [] σ := by
  intro k
  induction k with
  | zero =>
    intro i f g0 g1 hf
    refine r_M_whoAt [(6, [true, true, true, true, true])] 600 ?_
    repeat' (first | (refine mj_ite (fun h => ?_) (fun h => ?_) <;> first | (exfalso; omega) | skip) | refine mj_vci (by first | omega | (simp (disch := omega) only [up_ne, up_at, q_up_at, q_up_ne, cp_ne]; omega)) ?_)
    rcases hf with ⟨e, hf⟩ | ⟨j, f1, f2, f3, f4, f5⟩
    · rw [e]; exact h0 (fun j a1 a2 => hf j a1 (by omega))
    · rw [f5]; exact h1 j f1 (by omega) f3 f4
  | succ k ih =>
    intro i f g0 g1 hf
    have hri := hr i
    have skip : (σ (g + 2) (σ (g + 1) i) = x → σ (g + 3) (σ (g + 1) i) ≠ y) → mj_Wm i_M_whoAt (n + 1) K 6 [some (rV 12 0 g), some (iV x), some (iV y), some (iV f), some (iV (i + 1))] [] σ := by
      intro hs
      refine ih (i + 1) f (by omega) (by omega) ?_
      rcases hf with ⟨e, hf⟩ | ⟨j, f1, f2, f3, f4, f5⟩
      · refine Or.inl ⟨e, fun j a1 a2 => ?_⟩
        by_cases ej : j = i
        · rw [ej]; exact hs
        · exact hf j a1 (by omega)
      · exact Or.inr ⟨j, f1, by omega, f3, f4, f5⟩
    refine r_M_whoAt [(6, [true, true, true, true, true])] 600 ?_
    repeat' (first | (refine mj_ite (fun h => ?_) (fun h => ?_) <;> first | (exfalso; omega) | skip) | refine mj_vci (by first | omega | (simp (disch := omega) only [up_ne, up_at, q_up_at, q_up_ne, cp_ne]; omega)) ?_)
    · exact ih (i + 1) _ (by omega) (by omega) (Or.inr ⟨i, g0, by omega, by assumption, by assumption, rfl⟩)
    · exact skip (fun _ => by assumption)
    · exact skip (fun q => absurd q (by assumption))
theorem c_M_whoAt (hc : 0 ≤ σ g 0 ∧ σ g 0 ≤ 8) (hr : ∀ i, 0 ≤ σ (g + 1) i ∧ σ (g + 1) i ≤ 7) (h0 : (∀ j, 0 ≤ j → j < σ g 0 → σ (g + 2) (σ (g + 1) j) = x → σ (g + 3) (σ (g + 1) j) ≠ y) → K (some (iV (-6))) σ) (h1 : ∀ j, 0 ≤ j → j < σ g 0 → σ (g + 2) (σ (g + 1) j) = x → σ (g + 3) (σ (g + 1) j) = y → K (some (iV (σ (g + 1) j))) σ) : mj_Ok (n + 1) i_M_whoAt [rV 12 0 g, iV x, iV y] σ K := by
  refine mj_enter (by decide) (Nat.le_of_ble_eq_true rfl) (fun hg => ?_)
  refine r_M_whoAt [(6, [true, true, true, true, true])] 600 ?_
  exact l_M_whoAt hc hr h0 h1 (σ g 0).toNat 0 (-6) (by omega) (by omega) (Or.inl ⟨rfl, fun j a1 a2 => by omega⟩)
theorem l_M_drop (hc : 1 ≤ σ g 0 ∧ σ g 0 ≤ 8) (hp : 0 ≤ w ∧ w < σ g 0) (hK : ∀ σ' : mj_W, σ' g = q_up (σ g) 0 (σ g 0 - 1) → σ' (g + 1) = q_del (σ (g + 1)) w (σ g 0) → (∀ o, o ≠ g → o ≠ g + 1 → σ' o = σ o) → K none σ') :
    ∀ (k : Nat) (i : Int) (τ : mj_W), w ≤ i → i + k = σ g 0 - 1 → τ g = q_up (σ g) 0 (σ g 0 - 1) → τ (g + 1) = (fun j => if w ≤ j ∧ j < i then σ (g + 1) (j + 1) else σ (g + 1) j) → (∀ o, o ≠ g → o ≠ g + 1 → τ o = σ o) → mj_Wm i_M_drop (n + 1) K 12 [some (rV 12 0 g), some (iV w), some (iV i)] [] τ := by
  intro k
  induction k with
  | zero =>
    intro i τ h0 h1 t1 t2 t3
    have f4 : τ g 0 = σ g 0 - 1 := by rw [t1, q_up_at]
    refine r_M_drop [(12, [true, true, true])] 600 ?_
    repeat' (first | (refine mj_ite (fun h => ?_) (fun h => ?_) <;> first | (exfalso; omega) | skip) | refine mj_vci (by first | omega | (simp (disch := omega) only [up_ne, up_at, q_up_at, q_up_ne, cp_ne]; omega)) ?_)
    refine hK τ t1 ?_ t3
    rw [t2]
    funext j
    unfold q_del
    rw [show i = σ g 0 - 1 by omega]
  | succ k ih =>
    intro i τ h0 h1 t1 t2 t3
    have f4 : τ g 0 = σ g 0 - 1 := by rw [t1, q_up_at]
    refine r_M_drop [(12, [true, true, true])] 600 ?_
    repeat' (first | (refine mj_ite (fun h => ?_) (fun h => ?_) <;> first | (exfalso; omega) | skip) | refine mj_vci (by first | omega | (simp (disch := omega) only [up_ne, up_at, q_up_at, q_up_ne, cp_ne]; omega)) ?_)
    refine ih (i + 1) _ (by omega) (by omega) ?_ ?_ ?_
    · rw [up_ne _ _ _ (by omega)]; exact t1
    · rw [up_at, t2]
      funext j
      simp only [q_up]
      grind
    · intro o ho1 ho2
      rw [up_ne _ _ _ ho2]
      exact t3 o ho1 ho2
theorem c_M_drop (hc : 1 ≤ σ g 0 ∧ σ g 0 ≤ 8) (hp : 0 ≤ w ∧ w < σ g 0) (hK : ∀ σ' : mj_W, σ' g = q_up (σ g) 0 (σ g 0 - 1) → σ' (g + 1) = q_del (σ (g + 1)) w (σ g 0) → (∀ o, o ≠ g → o ≠ g + 1 → σ' o = σ o) → K none σ') : mj_Ok (n + 1) i_M_drop [rV 12 0 g, iV w] σ K := by
  refine mj_enter (by decide) (Nat.le_of_ble_eq_true rfl) (fun hg => ?_)
  refine r_M_drop [(12, [true, true, true])] 600 ?_
  repeat' (first | (refine mj_ite (fun h => ?_) (fun h => ?_) <;> first | (exfalso; omega) | skip) | refine mj_vci (by first | omega | (simp (disch := omega) only [up_ne, up_at, q_up_at, q_up_ne, cp_ne]; omega)) ?_)
  refine l_M_drop hc hp hK (σ g 0 - 1 - w).toNat w _ (by omega) (by omega) (up_at _ _ _ _) ?_ ?_
  · rw [up_ne _ _ _ (by omega)]
    funext j
    rw [if_neg (by omega)]
  · intro o ho1 ho2
    rw [up_ne _ _ _ ho1]
theorem c_M_put (hp : 0 ≤ p ∧ p ≤ 7) (hK : K none (mj_up (mj_up σ (g + 2) p x) (g + 3) p y)) : mj_Ok (n + 1) i_M_put [rV 12 0 g, iV p, iV x, iV y] σ K := by
  refine mj_enter (by decide) (Nat.le_of_ble_eq_true rfl) (fun hg => ?_)
  refine r_M_put [] 600 ?_
  repeat' (first | (refine mj_ite (fun h => ?_) (fun h => ?_) <;> first | (exfalso; omega) | skip) | refine mj_vci (by first | omega | (simp (disch := omega) only [up_ne, up_at, q_up_at, q_up_ne, cp_ne]; omega)) ?_)
  exact hK
theorem c_M_addPoint (hp : 0 ≤ i ∧ i ≤ 9) (hK : K none (mj_up (mj_up σ (g + 16) i x) (g + 17) i y)) : mj_Ok (n + 1) i_M_addPoint [rV 12 0 g, iV i, iV x, iV y] σ K := by
  refine mj_enter (by decide) (Nat.le_of_ble_eq_true rfl) (fun hg => ?_)
  refine r_M_addPoint [] 600 ?_
  repeat' (first | (refine mj_ite (fun h => ?_) (fun h => ?_) <;> first | (exfalso; omega) | skip) | refine mj_vci (by first | omega | (simp (disch := omega) only [up_ne, up_at, q_up_at, q_up_ne, cp_ne]; omega)) ?_)
  exact hK
theorem c_M_turn {ax ay bx by' : Int} (h1 : -1 ≤ ax ∧ ax ≤ 41) (h2 : 0 ≤ ay ∧ ay ≤ 40) (h3 : -1 ≤ bx ∧ bx ≤ 41) (h4 : 0 ≤ by' ∧ by' ≤ 40) (h5 : -1 ≤ x ∧ x ≤ 41) (h6 : 0 ≤ y ∧ y ≤ 40) (hK : ∀ r, r = q_turn ax ay bx by' x y → (-4000 ≤ r ∧ r ≤ 4000) → K (some (iV r)) σ) : mj_Ok (n + 1) i_M_turn [iV ax, iV ay, iV bx, iV by', iV x, iV y] σ K := by
  have m1 := q_mulb (a := bx - ax) (b := y - ay) (A := 42) (B := 40) (by omega) (by omega)
  have m2 := q_mulb (a := by' - ay) (b := x - ax) (A := 40) (B := 42) (by omega) (by omega)
  refine mj_enter (by decide) (Nat.le_of_ble_eq_true rfl) (fun hg => ?_)
  refine r_M_turn [] 600 ?_
  repeat' (first | (refine mj_ite (fun h => ?_) (fun h => ?_) <;> first | (exfalso; omega) | skip) | refine mj_vci (by first | omega | (simp (disch := omega) only [up_ne, up_at, q_up_at, q_up_ne, cp_ne]; omega)) ?_)
  exact hK _ rfl (by omega)
theorem c_M_isBetween (h1 : q_btw x lo hi → K (some (iV 1)) σ) (h0 : ¬ q_btw x lo hi → K (some (iV 0)) σ) : mj_Ok (n + 1) i_M_isBetween [iV x, iV lo, iV hi] σ K := by
  unfold q_btw at h1 h0
  refine mj_enter (by decide) (Nat.le_of_ble_eq_true rfl) (fun hg => ?_)
  refine r_M_isBetween [] 600 ?_
  repeat' (first | (refine mj_ite (fun h => ?_) (fun h => ?_) <;> first | (exfalso; omega) | skip) | refine mj_vci (by first | omega | (simp (disch := omega) only [up_ne, up_at, q_up_at, q_up_ne, cp_ne]; omega)) ?_)
  all_goals first | exact h1 (by omega) | exact h0 (by omega)
end M1
