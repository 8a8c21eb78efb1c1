/-! the model's walk -/
section M10
variable {n g : Nat} {σ : mj_W} {K : Option mj_V → mj_W → Prop} {x y p w i j c d he k : Int}
theorem c_M_walk (hp : 0 ≤ p ∧ p ≤ 7) (hd : 0 ≤ d ∧ d ≤ 3) (hw : -9 ≤ w ∧ w ≤ 9) (hx : -100 ≤ σ (g + 2) p ∧ σ (g + 2) p ≤ 100) (hy : -100 ≤ σ (g + 3) p ∧ σ (g + 3) p ≤ 100) (hz : -200 ≤ σ (g + 4) p ∧ σ (g + 4) p ≤ 200) (hs : -10000 ≤ σ g 22 ∧ σ g 22 ≤ 10000) (hK : ∀ σ' : mj_W, σ' (g + 2) = q_up (σ (g + 2)) p (σ (g + 2) p + w * mj_east d) → σ' (g + 3) = q_up (σ (g + 3)) p (σ (g + 3) p + w * mj_north d) → σ' (g + 4) = q_up (σ (g + 4)) p (σ (g + 4) p + w) → σ' g = q_up (σ g) 22 (σ g 22 + w) → (∀ o, o ≠ g → o ≠ g + 2 → o ≠ g + 3 → o ≠ g + 4 → σ' o = σ o) → K none σ') : mj_Ok (n + 2) i_M_walk [rV 12 0 g, iV p, iV d, iV w] σ K := by
  have m1 := q_mulb (a := w) (b := mj_east d) (A := 9) (B := 1) (by omega) (q_east_in d)
  have m2 := q_mulb (a := w) (b := mj_north d) (A := 9) (B := 1) (by omega) (q_north_in d)
  have u3 : mj_up σ (g + 2) p (σ (g + 2) p + w * mj_east d) (g + 3) p = σ (g + 3) p := by rw [up_ne _ _ _ (by omega)]
  have u4 : mj_up (mj_up σ (g + 2) p (σ (g + 2) p + w * mj_east d)) (g + 3) p (σ (g + 3) p + w * mj_north d) (g + 4) p = σ (g + 4) p := by rw [up_ne _ _ _ (by omega), up_ne _ _ _ (by omega)]
  have u5 : mj_up (mj_up (mj_up σ (g + 2) p (σ (g + 2) p + w * mj_east d)) (g + 3) p (σ (g + 3) p + w * mj_north d)) (g + 4) p (σ (g + 4) p + w) g 22 = σ g 22 := by rw [up_ne _ _ _ (by omega), up_ne _ _ _ (by omega), up_ne _ _ _ (by omega)]
  refine mj_enter (by decide) (Nat.le_of_ble_eq_true rfl) (fun hg => ?_)
  refine r_M_walk [] 600 ?_
  repeat' (first | (refine mj_ite (fun h => ?_) (fun h => ?_) <;> first | (exfalso; omega) | skip) | refine mj_vci (by first | omega | (simp (disch := omega) only [up_ne, up_at, q_up_at, q_up_ne, cp_ne]; omega)) ?_)
  refine c_M_eastBy ?_
  repeat' (first | (refine mj_ite (fun h => ?_) (fun h => ?_) <;> first | (exfalso; omega) | skip) | refine mj_vci (by first | omega | (simp (disch := omega) only [up_ne, up_at, q_up_at, q_up_ne, cp_ne]; omega)) ?_)
  refine c_M_northBy ?_
  simp only [u3]
  repeat' (first | (refine mj_ite (fun h => ?_) (fun h => ?_) <;> first | (exfalso; omega) | skip) | refine mj_vci (by first | omega | (simp (disch := omega) only [up_ne, up_at, q_up_at, q_up_ne, cp_ne]; omega)) ?_)
  simp only [u4]
  repeat' (first | (refine mj_ite (fun h => ?_) (fun h => ?_) <;> first | (exfalso; omega) | skip) | refine mj_vci (by first | omega | (simp (disch := omega) only [up_ne, up_at, q_up_at, q_up_ne, cp_ne]; omega)) ?_)
  simp only [u5]
  repeat' (first | (refine mj_ite (fun h => ?_) (fun h => ?_) <;> first | (exfalso; omega) | skip) | refine mj_vci (by first | omega | (simp (disch := omega) only [up_ne, up_at, q_up_at, q_up_ne, cp_ne]; omega)) ?_)
  refine hK _ ?_ ?_ ?_ ?_ ?_
  · simp (disch := omega) only [up_ne, up_at]
  · simp (disch := omega) only [up_ne, up_at]
  · simp (disch := omega) only [up_ne, up_at]
  · simp (disch := omega) only [up_ne, up_at]
  · intro o o1 o2 o3 o4
    simp (disch := omega) only [up_ne]
end M10
