/-! the model reads the pad: close -/
section M13
variable {n g : Nat} {σ : mj_W} {K : Option mj_V → mj_W → Prop} {x y z p w i j c d he k : Int}
theorem c_M_close (ha : 0 ≤ σ g 21 ∧ σ g 21 ≤ 59) (hK : ∀ σ' : mj_W, σ' (g + 11) = q_up (σ (g + 11)) (σ g 21) x → σ' (g + 13) = q_up (σ (g + 13)) (σ g 21) y → σ' (g + 14) = q_up (σ (g + 14)) (σ g 21) z → σ' g = q_up (σ g) 21 (σ g 21 + 1) → (∀ o, o ≠ g → o ≠ g + 11 → o ≠ g + 13 → o ≠ g + 14 → σ' o = σ o) → K (some (iV 0)) σ') : mj_Ok (n + 1) i_M_close [rV 12 0 g, iV x, iV y, iV z] σ K := by
  have e1 : mj_up σ (g + 11) (σ g 21) x g = σ g := up_ne _ _ _ (by omega)
  have e2 : mj_up (mj_up σ (g + 11) (σ g 21) x) (g + 13) (σ g 21) y g = σ g := by rw [up_ne _ _ _ (by omega), e1]
  have e3 : mj_up (mj_up (mj_up σ (g + 11) (σ g 21) x) (g + 13) (σ g 21) y) (g + 14) (σ g 21) z g = σ g := by rw [up_ne _ _ _ (by omega), e2]
  refine mj_enter (by decide) (Nat.le_of_ble_eq_true rfl) (fun hg => ?_)
  refine r_M_close [] 600 ?_
  repeat' (first | (refine mj_ite (fun h => ?_) (fun h => ?_) <;> first | (exfalso; omega) | skip) | refine mj_vci (by first | omega | (simp (disch := omega) only [up_ne, up_at, q_up_at, q_up_ne, cp_ne]; omega)) ?_)
  simp only [e1]
  repeat' (first | (refine mj_ite (fun h => ?_) (fun h => ?_) <;> first | (exfalso; omega) | skip) | refine mj_vci (by first | omega | (simp (disch := omega) only [up_ne, up_at, q_up_at, q_up_ne, cp_ne]; omega)) ?_)
  simp only [e2]
  repeat' (first | (refine mj_ite (fun h => ?_) (fun h => ?_) <;> first | (exfalso; omega) | skip) | refine mj_vci (by first | omega | (simp (disch := omega) only [up_ne, up_at, q_up_at, q_up_ne, cp_ne]; omega)) ?_)
  simp only [e3]
  repeat' (first | (refine mj_ite (fun h => ?_) (fun h => ?_) <;> first | (exfalso; omega) | skip) | refine mj_vci (by first | omega | (simp (disch := omega) only [up_ne, up_at, q_up_at, q_up_ne, cp_ne]; omega)) ?_)
  refine hK _ ?_ ?_ ?_ ?_ ?_
  · simp (disch := omega) only [up_ne, up_at]
  · simp (disch := omega) only [up_ne, up_at]
  · simp (disch := omega) only [up_ne, up_at]
  · rw [up_at, e3]
  · intro o o1 o2 o3 o4
    simp (disch := omega) only [up_ne]
end M13
