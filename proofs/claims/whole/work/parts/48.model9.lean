/-! the model's acts, done -/
section M9
variable {n g : Nat} {σ : mj_W} {K : Option mj_V → mj_W → Prop} {x y p w i j c d he k : Int}
theorem c_M_inherit (hc : 0 ≤ σ g 0 ∧ σ g 0 ≤ 8) (hdi : q_dist (σ (g + 1)) (σ g 0)) (hp : 0 ≤ p ∧ p ≤ 7) (hh : 0 ≤ he ∧ he ≤ 7) (hf : q_fnd (σ (g + 1)) (σ g 0) p ≠ -6) (hK : ∀ σ' : mj_W, σ' (g + 1) = q_up (σ (g + 1)) (q_fnd (σ (g + 1)) (σ g 0) p) he → σ' (g + 2) = q_up (σ (g + 2)) he (σ (g + 2) p) → σ' (g + 3) = q_up (σ (g + 3)) he (σ (g + 3) p) → σ' (g + 4) = q_up (σ (g + 4)) he (σ (g + 4) p) → (∀ o, o ≠ g + 1 → o ≠ g + 2 → o ≠ g + 3 → o ≠ g + 4 → σ' o = σ o) → K none σ') : mj_Ok (n + 2) i_M_inherit [rV 12 0 g, iV p, iV he] σ K := by
  have hf2 := q_fnd_or (σ (g + 1)) hc.1 p
  refine mj_enter (by decide) (Nat.le_of_ble_eq_true rfl) (fun hg => ?_)
  refine r_M_inherit [] 600 ?_
  refine c_M_placeOf hc hdi (fun r hr => ?_)
  rw [← hr] at hf hf2 hK
  repeat' (first | (refine mj_ite (fun h => ?_) (fun h => ?_) <;> first | (exfalso; omega) | skip) | refine mj_vci (by first | omega | (simp (disch := omega) only [up_ne, up_at, q_up_at, q_up_ne, cp_ne]; omega)) ?_)
  refine hK _ ?_ ?_ ?_ ?_ ?_
  · simp (disch := omega) only [up_ne, up_at]
  · simp (disch := omega) only [up_ne, up_at]
  · simp (disch := omega) only [up_ne, up_at]
  · simp (disch := omega) only [up_ne, up_at]
  · intro o o1 o2 o3 o4
    simp (disch := omega) only [up_ne]
theorem c_M_whyNot (hc : 0 ≤ σ g 0 ∧ σ g 0 ≤ 8) (hdi : q_dist (σ (g + 1)) (σ g 0)) (hr : ∀ i, 0 ≤ σ (g + 1) i ∧ σ (g + 1) i ≤ 7) (hxs : ∀ i, 0 ≤ σ (g + 2) i ∧ σ (g + 2) i ≤ 40) (hys : ∀ i, 0 ≤ σ (g + 3) i ∧ σ (g + 3) i ≤ 40) (hz : ∀ i, 0 ≤ σ (g + 4) i ∧ σ (g + 4) i ≤ 200) (ha : q_aok (k, p, d, w)) (hK : ∀ r, r = q_aw (σ g 7) (σ g 0, σ (g + 1), σ (g + 2), σ (g + 3), σ (g + 4)) (k, p, d, w) → K (some (iV r)) σ) : mj_Ok (n + 4) i_M_whyNot [rV 12 0 g, iV k, iV p, iV d, iV w] σ K := by
  have fr := q_fnd_or (σ (g + 1)) hc.1 p
  have fr2 := q_fnd_or (σ (g + 1)) hc.1 d
  unfold q_aok at ha
  unfold q_aw at hK
  simp only at ha hK
  refine mj_enter (by decide) (Nat.le_of_ble_eq_true rfl) (fun hg => ?_)
  refine r_M_whyNot [] 600 ?_
  by_cases e3 : k = 3
  · rw [if_pos e3] at hK
    subst e3
    repeat' (first | (refine mj_ite (fun h => ?_) (fun h => ?_) <;> first | (exfalso; omega) | skip) | refine mj_vci (by first | omega | (simp (disch := omega) only [up_ne, up_at, q_up_at, q_up_ne, cp_ne]; omega)) ?_)
    exact hK _ rfl
  rw [if_neg e3] at hK
  repeat' (first | (refine mj_ite (fun h => ?_) (fun h => ?_) <;> first | (exfalso; omega) | skip) | refine mj_vci (by first | omega | (simp (disch := omega) only [up_ne, up_at, q_up_at, q_up_ne, cp_ne]; omega)) ?_)
  refine c_M_placeOf hc hdi (fun r hr9 => ?_)
  repeat' (first | (refine mj_ite (fun h => ?_) (fun h => ?_) <;> first | (exfalso; omega) | skip) | refine mj_vci (by first | omega | (simp (disch := omega) only [up_ne, up_at, q_up_at, q_up_ne, cp_ne]; omega)) ?_)
  · rw [if_pos (by omega)] at hK; exact hK _ rfl
  all_goals rw [if_neg (by omega)] at hK
  · have e0 : k = 0 := by omega
    rw [if_pos e0] at hK
    exact c_M_whyNotWalk hc hr hxs hys hz (by omega) (by omega) (by omega) (by omega) hK
  all_goals rw [if_neg (by omega)] at hK
  · refine c_M_placeOf hc hdi (fun r2 hr2 => ?_)
    repeat' (first | (refine mj_ite (fun h => ?_) (fun h => ?_) <;> first | (exfalso; omega) | skip) | refine mj_vci (by first | omega | (simp (disch := omega) only [up_ne, up_at, q_up_at, q_up_ne, cp_ne]; omega)) ?_)
    · rw [if_neg (by omega)] at hK; exact hK _ rfl
    · rw [if_pos (by omega)] at hK; exact hK _ rfl
  · rw [if_neg (by omega)] at hK
    repeat' (first | (refine mj_ite (fun h => ?_) (fun h => ?_) <;> first | (exfalso; omega) | skip) | refine mj_vci (by first | omega | (simp (disch := omega) only [up_ne, up_at, q_up_at, q_up_ne, cp_ne]; omega)) ?_)
    exact hK _ rfl
end M9
