/-! may one walk; copies; bits of persons -/
abbrev q_land (x y : Int) : Prop := 0 ≤ x ∧ x ≤ 40 ∧ 0 ≤ y ∧ y ≤ 40
def q_free (n : Int) (row xs ys : Int → Int) (ex x y : Int) : Prop := ∀ j, 0 ≤ j → j < n → row j ≠ ex → xs (row j) = x → ys (row j) ≠ y
noncomputable def q_why (n reach : Int) (row xs ys wk : Int → Int) (p d w : Int) : Int :=
  if q_fnd row n p = -6 then 1 else if ¬ q_land (xs p + w * mj_east d) (ys p + w * mj_north d) then 2 else
  @ite Int (q_free n row xs ys p (xs p + w * mj_east d) (ys p + w * mj_north d)) (Classical.propDecidable _) (if reach < wk p + w then 4 else 0) 3
def q_can (n : Int) (row xs ys : Int → Int) (p d : Int) : Prop := q_fnd row n p ≠ -6 ∧ q_land (xs p + mj_east d) (ys p + mj_north d) ∧ q_free n row xs ys p (xs p + mj_east d) (ys p + mj_north d)
def q_bitsF (row : Int → Int) : Int → Int → Nat → Int
  | a, _, 0 => a
  | a, i, k + 1 => q_bitsF row (mj_or a (mj_shl 1 (row i))) (i + 1) k
def q_bits (row : Int → Int) (n : Int) : Int := q_bitsF row 0 0 n.toNat
section B6
variable {n b : Nat} {σ : mj_W} {K : Option mj_V → mj_W → Prop} {x y p w i j c d : Int}
theorem c_Border_whyNoWalk (hc : 0 ≤ σ b 4 ∧ σ b 4 ≤ 8) (hr : ∀ i, 0 ≤ σ (b + 4) i ∧ σ (b + 4) i ≤ 7) (hxs : ∀ i, 0 ≤ σ (b + 1) i ∧ σ (b + 1) i ≤ 40) (hys : ∀ i, 0 ≤ σ (b + 2) i ∧ σ (b + 2) i ≤ 40) (hz : ∀ i, 0 ≤ σ (b + 3) i ∧ σ (b + 3) i ≤ 200) (hd : 0 ≤ d ∧ d ≤ 3) (hw : 0 ≤ w ∧ w ≤ 9) (hK : ∀ r, r = q_why (σ b 4) (σ b 7) (σ (b + 4)) (σ (b + 1)) (σ (b + 2)) (σ (b + 3)) p d w → K (some (iV r)) σ) : mj_Ok (n + 2) i_Border_whyNoWalk [rV 1 0 b, iV p, iV d, iV w] σ K := by
  have hf := q_fnd_or (σ (b + 4)) hc.1 p
  have hrf := hr (q_fnd (σ (b + 4)) (σ b 4) p)
  have x0 := hxs p
  have y0 := hys p
  have z0 := hz p
  have m1 := q_mulb (a := w) (b := mj_east d) (A := 9) (B := 1) (by omega) (q_east_in d)
  have m2 := q_mulb (a := w) (b := mj_north d) (A := 9) (B := 1) (by omega) (q_north_in d)
  unfold q_why at hK
  refine mj_enter (by decide) (Nat.le_of_ble_eq_true rfl) (fun hg => ?_)
  refine r_Border_whyNoWalk [] 600 ?_
  refine c_Border_placeOf hc ?_
  by_cases hp : q_fnd (σ (b + 4)) (σ b 4) p = -6
  · rw [hp]
    rw [if_pos hp] at hK
    repeat' (first | (refine mj_ite (fun h => ?_) (fun h => ?_) <;> first | (exfalso; omega) | skip) | refine mj_vci (by first | omega | (simp (disch := omega) only [up_ne, up_at, q_up_at, q_up_ne, cp_ne]; omega)) ?_)
    exact hK _ rfl
  rw [if_neg hp] at hK
  have hp7 : 0 ≤ p ∧ p ≤ 7 := by
    rcases hf with hf | hf
    · exact absurd hf.1 hp
    · rw [hf.2.2] at hrf; exact hrf
  refine mj_ite (fun h => absurd h hp) (fun h => ?_)
  repeat' (first | (refine mj_ite (fun h => ?_) (fun h => ?_) <;> first | (exfalso; omega) | skip) | refine mj_vci (by first | omega | (simp (disch := omega) only [up_ne, up_at, q_up_at, q_up_ne, cp_ne]; omega)) ?_)
  refine c_S_isLand (fun a1 a2 a3 a4 => ?_) (fun a0 => ?_)
  · rw [if_neg (fun q => q ⟨a1, a2, a3, a4⟩)] at hK
    repeat' (first | (refine mj_ite (fun h => ?_) (fun h => ?_) <;> first | (exfalso; omega) | skip) | refine mj_vci (by first | omega | (simp (disch := omega) only [up_ne, up_at, q_up_at, q_up_ne, cp_ne]; omega)) ?_)
    refine c_Border_isTaken hc hr (fun j b1 b2 b3 b4 b5 => ?_) (fun b0 => ?_)
    · rw [if_neg (fun q => q j b1 b2 b3 b4 b5)] at hK
      repeat' (first | (refine mj_ite (fun h => ?_) (fun h => ?_) <;> first | (exfalso; omega) | skip) | refine mj_vci (by first | omega | (simp (disch := omega) only [up_ne, up_at, q_up_at, q_up_ne, cp_ne]; omega)) ?_)
      exact hK _ rfl
    · have b0 : q_free (σ b 4) (σ (b + 4)) (σ (b + 1)) (σ (b + 2)) p (σ (b + 1) p + w * mj_east d) (σ (b + 2) p + w * mj_north d) := b0
      rw [if_pos b0] at hK
      repeat' (first | (refine mj_ite (fun h => ?_) (fun h => ?_) <;> first | (exfalso; omega) | skip) | refine mj_vci (by first | omega | (simp (disch := omega) only [up_ne, up_at, q_up_at, q_up_ne, cp_ne]; omega)) ?_)
      · rw [if_pos (by assumption)] at hK; exact hK _ rfl
      · rw [if_neg (by assumption)] at hK; exact hK _ rfl
  · rw [if_pos a0] at hK
    repeat' (first | (refine mj_ite (fun h => ?_) (fun h => ?_) <;> first | (exfalso; omega) | skip) | refine mj_vci (by first | omega | (simp (disch := omega) only [up_ne, up_at, q_up_at, q_up_ne, cp_ne]; omega)) ?_)
    exact hK _ rfl
theorem c_Border_canStep (hc : 0 ≤ σ b 4 ∧ σ b 4 ≤ 8) (hr : ∀ i, 0 ≤ σ (b + 4) i ∧ σ (b + 4) i ≤ 7) (hxs : ∀ i, 0 ≤ σ (b + 1) i ∧ σ (b + 1) i ≤ 40) (hys : ∀ i, 0 ≤ σ (b + 2) i ∧ σ (b + 2) i ≤ 40) (hz : ∀ i, 0 ≤ σ (b + 3) i ∧ σ (b + 3) i ≤ 200) (hd : 0 ≤ d ∧ d ≤ 3) (h1 : q_can (σ b 4) (σ (b + 4)) (σ (b + 1)) (σ (b + 2)) p d → K (some (iV 1)) σ) (h0 : ¬ q_can (σ b 4) (σ (b + 4)) (σ (b + 1)) (σ (b + 2)) p d → K (some (iV 0)) σ) : mj_Ok (n + 3) i_Border_canStep [rV 1 0 b, iV p, iV d] σ K := by
  refine mj_enter (by decide) (Nat.le_of_ble_eq_true rfl) (fun hg => ?_)
  refine r_Border_canStep [] 600 ?_
  refine c_Border_whyNoWalk hc hr hxs hys hz hd (by omega) (fun r hr9 => ?_)
  unfold q_why at hr9
  rw [Int.one_mul, Int.one_mul] at hr9
  unfold q_can at h1 h0
  by_cases e1 : q_fnd (σ (b + 4)) (σ b 4) p = -6
  · rw [if_pos e1] at hr9
    subst hr9
    repeat' (first | (refine mj_ite (fun h => ?_) (fun h => ?_) <;> first | (exfalso; omega) | skip) | refine mj_vci (by first | omega | (simp (disch := omega) only [up_ne, up_at, q_up_at, q_up_ne, cp_ne]; omega)) ?_)
    exact h0 (fun q => q.1 e1)
  rw [if_neg e1] at hr9
  by_cases e2 : q_land (σ (b + 1) p + mj_east d) (σ (b + 2) p + mj_north d)
  · rw [if_neg (fun q => q e2)] at hr9
    by_cases e3 : q_free (σ b 4) (σ (b + 4)) (σ (b + 1)) (σ (b + 2)) p (σ (b + 1) p + mj_east d) (σ (b + 2) p + mj_north d)
    · rw [if_pos e3] at hr9
      have h19 := h1 ⟨e1, e2, e3⟩
      by_cases e4 : σ b 7 < σ (b + 3) p + 1
      · rw [if_pos e4] at hr9
        subst hr9
        repeat' (first | (refine mj_ite (fun h => ?_) (fun h => ?_) <;> first | (exfalso; omega) | skip) | refine mj_vci (by first | omega | (simp (disch := omega) only [up_ne, up_at, q_up_at, q_up_ne, cp_ne]; omega)) ?_)
        exact h19
      · rw [if_neg e4] at hr9
        subst hr9
        repeat' (first | (refine mj_ite (fun h => ?_) (fun h => ?_) <;> first | (exfalso; omega) | skip) | refine mj_vci (by first | omega | (simp (disch := omega) only [up_ne, up_at, q_up_at, q_up_ne, cp_ne]; omega)) ?_)
        exact h19
    · rw [if_neg e3] at hr9
      subst hr9
      repeat' (first | (refine mj_ite (fun h => ?_) (fun h => ?_) <;> first | (exfalso; omega) | skip) | refine mj_vci (by first | omega | (simp (disch := omega) only [up_ne, up_at, q_up_at, q_up_ne, cp_ne]; omega)) ?_)
      exact h0 (fun q => e3 q.2.2)
  · rw [if_pos e2] at hr9
    subst hr9
    repeat' (first | (refine mj_ite (fun h => ?_) (fun h => ?_) <;> first | (exfalso; omega) | skip) | refine mj_vci (by first | omega | (simp (disch := omega) only [up_ne, up_at, q_up_at, q_up_ne, cp_ne]; omega)) ?_)
    exact h0 (fun q => e2 q.2.1)
theorem c_Border_copyFrom {o : Nat} (hbo : b + 5 ≤ o ∨ o + 5 ≤ b) (hl : mj_ln (b + 1) = 8 ∧ mj_ln (b + 2) = 8 ∧ mj_ln (b + 3) = 8 ∧ mj_ln (b + 4) = 8) (hl' : mj_ln (o + 1) = 8 ∧ mj_ln (o + 2) = 8 ∧ mj_ln (o + 3) = 8 ∧ mj_ln (o + 4) = 8)
    (hK : ∀ σ' : mj_W, σ' b 4 = σ o 4 → σ' b 5 = σ o 5 → σ' b 6 = σ o 6 → σ' b 7 = σ o 7 → σ' (b + 1) = σ (o + 1) → σ' (b + 2) = σ (o + 2) → σ' (b + 3) = σ (o + 3) → σ' (b + 4) = σ (o + 4) → (∀ a, a ≠ b → a ≠ b + 1 → a ≠ b + 2 → a ≠ b + 3 → a ≠ b + 4 → σ' a = σ a) → K none σ') : mj_Ok (n + 1) i_Border_copyFrom [rV 1 0 b, rV 1 0 o] σ K := by
  refine mj_enter (by decide) (Nat.le_of_ble_eq_true rfl) (fun hg => ?_)
  have k1 : mj_cp σ (o + 1) (b + 1) 8 (b + 1) = σ (o + 1) := cp_at hg (by omega) (by omega)
  have k2 : mj_cp σ (o + 2) (b + 2) 8 (b + 2) = σ (o + 2) := cp_at hg (by omega) (by omega)
  have k3 : mj_cp σ (o + 3) (b + 3) 8 (b + 3) = σ (o + 3) := cp_at hg (by omega) (by omega)
  have k4 : mj_cp σ (o + 4) (b + 4) 8 (b + 4) = σ (o + 4) := cp_at hg (by omega) (by omega)
  have cc : ∀ (τ : mj_W) (a c : Nat), τ a = σ a → τ c = σ c → mj_cp τ a c 8 c = mj_cp σ a c 8 c := by
    intro τ a c h1 h2
    funext j
    unfold mj_cp
    rw [h1, h2]
  refine r_Border_copyFrom [] 600 ?_
  repeat' (first | (refine mj_ite (fun h => ?_) (fun h => ?_) <;> first | (exfalso; omega) | skip) | refine mj_vci (by first | omega | (simp (disch := omega) only [up_ne, up_at, q_up_at, q_up_ne, cp_ne]; omega)) ?_)
  refine hK _ ?_ ?_ ?_ ?_ ?_ ?_ ?_ ?_ ?_
  · simp (disch := omega) only [up_ne, up_at, q_up_at, q_up_ne, cp_ne]
  · simp (disch := omega) only [up_ne, up_at, q_up_at, q_up_ne, cp_ne]
  · simp (disch := omega) only [up_ne, up_at, q_up_at, q_up_ne, cp_ne]
  · simp (disch := omega) only [up_ne, up_at, q_up_at, q_up_ne, cp_ne]
  · simp (disch := omega) only [up_ne, cp_ne]; exact k1
  · simp (disch := omega) only [up_ne, cp_ne]; rw [cc _ _ _ (by simp (disch := omega) only [cp_ne]) (by simp (disch := omega) only [cp_ne])]; exact k2
  · simp (disch := omega) only [up_ne, cp_ne]; rw [cc _ _ _ (by simp (disch := omega) only [cp_ne]) (by simp (disch := omega) only [cp_ne])]; exact k3
  · simp (disch := omega) only [up_ne, cp_ne]; rw [cc _ _ _ (by simp (disch := omega) only [cp_ne]) (by simp (disch := omega) only [cp_ne])]; exact k4
  · intro a g1 g2 g3 g4 g5
    simp (disch := omega) only [up_ne, cp_ne]
theorem l_Border_bits (hc : 0 ≤ σ b 4 ∧ σ b 4 ≤ 8) : ∀ (k : Nat) (i a : Int), 0 ≤ i → i + k = σ b 4 → K (some (iV (q_bitsF (σ (b + 4)) a i k))) σ → mj_Wm i_Border_bitsOfPersons (n + 1) K 4 [some (rV 1 0 b), some (iV a), some (iV i)] [] σ := by
  intro k
  induction k with
  | zero =>
    intro i a h0 h1 hK
    refine r_Border_bitsOfPersons [(4, [true, true, true])] 600 ?_
    repeat' (first | (refine mj_ite (fun h => ?_) (fun h => ?_) <;> first | (exfalso; omega) | skip) | refine mj_vci (by first | omega | (simp (disch := omega) only [up_ne, up_at, q_up_at, q_up_ne, cp_ne]; omega)) ?_)
    exact hK
  | succ k ih =>
    intro i a h0 h1 hK
    unfold q_bitsF at hK
    refine r_Border_bitsOfPersons [(4, [true, true, true])] 600 ?_
    repeat' (first | (refine mj_ite (fun h => ?_) (fun h => ?_) <;> first | (exfalso; omega) | skip) | refine mj_vci (by first | omega | (simp (disch := omega) only [up_ne, up_at, q_up_at, q_up_ne, cp_ne]; omega)) ?_)
    exact ih (i + 1) _ (by omega) (by omega) hK
theorem c_Border_bitsOfPersons (hc : 0 ≤ σ b 4 ∧ σ b 4 ≤ 8) (hK : K (some (iV (q_bits (σ (b + 4)) (σ b 4)))) σ) : mj_Ok (n + 1) i_Border_bitsOfPersons [rV 1 0 b] σ K := by
  refine mj_enter (by decide) (Nat.le_of_ble_eq_true rfl) (fun hg => ?_)
  refine r_Border_bitsOfPersons [(4, [true, true, true])] 600 ?_
  exact l_Border_bits hc (σ b 4).toNat 0 0 (by omega) (by omega) hK
theorem c_Border_unfairness (hB : q_gB σ b) (hs : -40000 ≤ q_south (q_X σ b) (q_Y σ b) (σ b 4 + 1) ∧ q_south (q_X σ b) (q_Y σ b) (σ b 4 + 1) ≤ 40000) (hK : ∀ r, r = (if 3360 - 2 * q_south (q_X σ b) (q_Y σ b) (σ b 4 + 1) < 0 then -(3360 - 2 * q_south (q_X σ b) (q_Y σ b) (σ b 4 + 1)) else 3360 - 2 * q_south (q_X σ b) (q_Y σ b) (σ b 4 + 1)) → K (some (iV r)) σ) : mj_Ok (n + 3) i_Border_unfairness [rV 1 0 b] σ K := by
  refine mj_enter (by decide) (Nat.le_of_ble_eq_true rfl) (fun hg => ?_)
  refine r_Border_unfairness [] 600 ?_
  refine c_Border_twiceSouth hB ?_
  generalize q_south (q_X σ b) (q_Y σ b) (σ b 4 + 1) = s at hs hK
  repeat' (first | (refine mj_ite (fun h => ?_) (fun h => ?_) <;> first | (exfalso; omega) | skip) | refine mj_vci (by first | omega | (simp (disch := omega) only [up_ne, up_at, q_up_at, q_up_ne, cp_ne]; omega)) ?_)
  exact hK _ rfl
end B6
