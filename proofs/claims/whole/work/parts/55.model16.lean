/-! the model: behind's person -/
section M16
variable {n g : Nat} {σ : mj_W} {K : Option mj_V → mj_W → Prop} {x y z p w i j c d he k : Int}
theorem c_M_ofPerson (hc : 0 ≤ σ g 0 ∧ σ g 0 ≤ 8) (hdi : q_dist (σ (g + 1)) (σ g 0)) (hp : 0 ≤ p ∧ p ≤ 7) (hw : 0 ≤ w ∧ w ≤ 3) (hK : ∀ r, r = (if w = 0 then σ (g + 2) p else if w = 1 then σ (g + 3) p else if w = 2 then σ (g + 4) p else q_fnd (σ (g + 1)) (σ g 0) p) → K (some (iV r)) σ) : mj_Ok (n + 2) i_M_ofPerson [rV 12 0 g, iV p, iV w] σ K := by
  have hk : w = 0 ∨ w = 1 ∨ w = 2 ∨ w = 3 := by omega
  refine mj_enter (by decide) (Nat.le_of_ble_eq_true rfl) (fun hg => ?_)
  rcases hk with e | e | e | e <;> subst e
  · refine r_M_ofPerson [] 600 ?_
    repeat' (first | (refine mj_ite (fun h => ?_) (fun h => ?_) <;> first | (exfalso; omega) | skip) | refine mj_vci (by first | omega | (simp (disch := omega) only [up_ne, up_at, q_up_at, q_up_ne, cp_ne]; omega)) ?_)
    exact hK _ rfl
  · refine r_M_ofPerson [] 600 ?_
    repeat' (first | (refine mj_ite (fun h => ?_) (fun h => ?_) <;> first | (exfalso; omega) | skip) | refine mj_vci (by first | omega | (simp (disch := omega) only [up_ne, up_at, q_up_at, q_up_ne, cp_ne]; omega)) ?_)
    exact hK _ rfl
  · refine r_M_ofPerson [] 600 ?_
    repeat' (first | (refine mj_ite (fun h => ?_) (fun h => ?_) <;> first | (exfalso; omega) | skip) | refine mj_vci (by first | omega | (simp (disch := omega) only [up_ne, up_at, q_up_at, q_up_ne, cp_ne]; omega)) ?_)
    exact hK _ rfl
  · refine r_M_ofPerson [] 600 ?_
    repeat' (first | (refine mj_ite (fun h => ?_) (fun h => ?_) <;> first | (exfalso; omega) | skip) | refine mj_vci (by first | omega | (simp (disch := omega) only [up_ne, up_at, q_up_at, q_up_ne, cp_ne]; omega)) ?_)
    refine c_M_placeOf hc hdi (fun r hr => ?_)
    repeat' (first | (refine mj_ite (fun h => ?_) (fun h => ?_) <;> first | (exfalso; omega) | skip) | refine mj_vci (by first | omega | (simp (disch := omega) only [up_ne, up_at, q_up_at, q_up_ne, cp_ne]; omega)) ?_)
    exact hK _ hr
end M16
