/-! the model reads the pad: begin -/
section M14
variable {n g : Nat} {σ : mj_W} {K : Option mj_V → mj_W → Prop} {x y z p w i j c d he k : Int}
theorem c_M_begin (ha : 0 ≤ σ g 21 ∧ σ g 21 ≤ 59) (h1 : 65 ≤ x → x ≤ 72 → ∀ σ' : mj_W, σ' (g + 12) = q_up (σ (g + 12)) (σ g 21) (x - 65) → (∀ o, o ≠ g + 12 → σ' o = σ o) → K (some (iV 1)) σ') (h2 : x = 46 → ∀ σ' : mj_W, σ' (g + 12) = q_up (σ (g + 12)) (σ g 21) 0 → σ' (g + 11) = q_up (σ (g + 11)) (σ g 21) 3 → σ' (g + 13) = q_up (σ (g + 13)) (σ g 21) 0 → σ' (g + 14) = q_up (σ (g + 14)) (σ g 21) 0 → σ' g = q_up (σ g) 21 (σ g 21 + 1) → (∀ o, o ≠ g → o ≠ g + 11 → o ≠ g + 12 → o ≠ g + 13 → o ≠ g + 14 → σ' o = σ o) → K (some (iV 0)) σ') (h3 : ¬ (65 ≤ x ∧ x ≤ 72) → x ≠ 46 → ∀ σ' : mj_W, (∀ o, o ≠ g + 12 → σ' o = σ o) → K (some (iV (-6))) σ') : mj_Ok (n + 3) i_M_begin [rV 12 0 g, iV x] σ K := by
  have e1 : mj_up σ (g + 12) (σ g 21) 0 g = σ g := up_ne _ _ _ (by omega)
  refine mj_enter (by decide) (Nat.le_of_ble_eq_true rfl) (fun hg => ?_)
  refine r_M_begin [] 600 ?_
  refine c_M_isLetter (fun a1 a2 => ?_) (fun a0 => ?_)
  · repeat' (first | (refine mj_ite (fun h => ?_) (fun h => ?_) <;> first | (exfalso; omega) | skip) | refine mj_vci (by first | omega | (simp (disch := omega) only [up_ne, up_at, q_up_at, q_up_ne, cp_ne]; omega)) ?_)
    refine c_M_isLetter (fun b1 b2 => ?_) (fun b0 => absurd ⟨a1, a2⟩ b0)
    repeat' (first | (refine mj_ite (fun h => ?_) (fun h => ?_) <;> first | (exfalso; omega) | skip) | refine mj_vci (by first | omega | (simp (disch := omega) only [up_ne, up_at, q_up_at, q_up_ne, cp_ne]; omega)) ?_)
    exact h1 a1 a2 _ (up_at _ _ _ _) (fun o ho => up_ne _ _ _ ho)
  · repeat' (first | (refine mj_ite (fun h => ?_) (fun h => ?_) <;> first | (exfalso; omega) | skip) | refine mj_vci (by first | omega | (simp (disch := omega) only [up_ne, up_at, q_up_at, q_up_ne, cp_ne]; omega)) ?_)
    refine c_M_isLetter (fun b1 b2 => absurd ⟨b1, b2⟩ a0) (fun b0 => ?_)
    by_cases e : x = 46
    · repeat' (first | (refine mj_ite (fun h => ?_) (fun h => ?_) <;> first | (exfalso; omega) | skip) | refine mj_vci (by first | omega | (simp (disch := omega) only [up_ne, up_at, q_up_at, q_up_ne, cp_ne]; omega)) ?_)
      refine c_M_close (by rw [e1]; exact ha) (fun σ' s1 s2 s3 s4 s5 => ?_)
      rw [e1] at s1 s2 s3 s4
      rw [up_ne _ _ _ (by omega)] at s1 s2 s3
      repeat' (first | (refine mj_ite (fun h => ?_) (fun h => ?_) <;> first | (exfalso; omega) | skip) | refine mj_vci (by first | omega | (simp (disch := omega) only [up_ne, up_at, q_up_at, q_up_ne, cp_ne]; omega)) ?_)
      refine h2 e σ' ?_ s1 s2 s3 s4 ?_
      · rw [s5 (g + 12) (by omega) (by omega) (by omega) (by omega), up_at]
      · intro o o1 o2 o3 o4 o5
        rw [s5 o o1 o2 o4 o5, up_ne _ _ _ o3]
    · repeat' (first | (refine mj_ite (fun h => ?_) (fun h => ?_) <;> first | (exfalso; omega) | skip) | refine mj_vci (by first | omega | (simp (disch := omega) only [up_ne, up_at, q_up_at, q_up_ne, cp_ne]; omega)) ?_)
      exact h3 a0 e _ (fun o ho => up_ne _ _ _ ho)
end M14
