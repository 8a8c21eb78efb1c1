/-! the model's southNow, close -/
section M12
variable {n g : Nat} {σ : mj_W} {K : Option mj_V → mj_W → Prop} {x y p w i j c d he k : Int}
theorem c_M_southNow (hc : 0 ≤ σ g 0 ∧ σ g 0 ≤ 8) (hr : ∀ i, 0 ≤ σ (g + 1) i ∧ σ (g + 1) i ≤ 7) (hx : ∀ i, 0 ≤ σ (g + 2) i ∧ σ (g + 2) i ≤ 40) (hy : ∀ i, 0 ≤ σ (g + 3) i ∧ σ (g + 3) i ≤ 40) (hw : 0 ≤ σ g 5 ∧ σ g 5 ≤ 40) (he : 0 ≤ σ g 6 ∧ σ g 6 ≤ 40) (hK : ∀ σ' r, q_laid σ σ' g (σ g 0, σ (g + 1)) → r = q_south (σ' (g + 16)) (σ' (g + 17)) (σ' g 28) → K (some (iV r)) σ') : mj_Ok (n + 4) i_M_southNow [rV 12 0 g] σ K := by
  refine mj_enter (by decide) (Nat.le_of_ble_eq_true rfl) (fun hg => ?_)
  refine r_M_southNow [] 600 ?_
  refine c_M_layLine hc hr (fun σ' s => ?_)
  repeat' (first | (refine mj_ite (fun h => ?_) (fun h => ?_) <;> first | (exfalso; omega) | skip) | refine mj_vci (by first | omega | (simp (disch := omega) only [up_ne, up_at, q_up_at, q_up_ne, cp_ne]; omega)) ?_)
  exact c_M_southOf (q_laid_gL s hc hx hy hw he) (fun r e => hK σ' r s e)
end M12
