/-! the model reads the pad: deed -/
section M15
variable {n g : Nat} {σ : mj_W} {K : Option mj_V → mj_W → Prop} {x y z p w i j c d he k : Int}
theorem c_M_deed (ha : 0 ≤ σ g 21 ∧ σ g 21 ≤ 59) (h1 : ∀ r, (x = 110 ∧ r = 0) ∨ (x = 101 ∧ r = 1) ∨ (x = 115 ∧ r = 2) ∨ (x = 119 ∧ r = 3) → ∀ σ' : mj_W, σ' (g + 13) = q_up (σ (g + 13)) (σ g 21) r → (∀ o, o ≠ g + 13 → σ' o = σ o) → K (some (iV 2)) σ') (h2 : x = 62 → ∀ σ' : mj_W, σ' (g + 13) = q_up (σ (g + 13)) (σ g 21) (-6) → (∀ o, o ≠ g + 13 → σ' o = σ o) → K (some (iV 3)) σ') (h3 : x = 120 → ∀ σ' : mj_W, σ' (g + 11) = q_up (σ (g + 11)) (σ g 21) 1 → σ' (g + 13) = q_up (σ (g + 13)) (σ g 21) 0 → σ' (g + 14) = q_up (σ (g + 14)) (σ g 21) 0 → σ' g = q_up (σ g) 21 (σ g 21 + 1) → (∀ o, o ≠ g → o ≠ g + 11 → o ≠ g + 13 → o ≠ g + 14 → σ' o = σ o) → K (some (iV 0)) σ') (h4 : x ≠ 110 → x ≠ 101 → x ≠ 115 → x ≠ 119 → x ≠ 62 → x ≠ 120 → ∀ σ' : mj_W, (∀ o, o ≠ g + 13 → σ' o = σ o) → K (some (iV (-6))) σ') : mj_Ok (n + 2) i_M_deed [rV 12 0 g, iV x] σ K := by
  have e1 : mj_up σ (g + 13) (σ g 21) (-6) g = σ g := up_ne _ _ _ (by omega)
  refine mj_enter (by decide) (Nat.le_of_ble_eq_true rfl) (fun hg => ?_)
  refine r_M_deed [] 600 ?_
  by_cases c1 : x = 110
  · subst c1
    repeat' (first | (refine mj_ite (fun h => ?_) (fun h => ?_) <;> first | (exfalso; omega) | (exfalso; simp only [Nat.zero_add, Nat.reduceAdd] at *; omega) | skip) | refine mj_vci (by first | omega | (simp only [Nat.zero_add, Nat.reduceAdd] at *; omega) | (simp (disch := omega) only [up_ne, up_at, q_up_at, q_up_ne, cp_ne]; omega)) ?_)
    exact h1 0 (by omega) _ (up_at _ _ _ _) (fun o ho => up_ne _ _ _ ho)
  by_cases c2 : x = 101
  · subst c2
    repeat' (first | (refine mj_ite (fun h => ?_) (fun h => ?_) <;> first | (exfalso; omega) | (exfalso; simp only [Nat.zero_add, Nat.reduceAdd] at *; omega) | skip) | refine mj_vci (by first | omega | (simp only [Nat.zero_add, Nat.reduceAdd] at *; omega) | (simp (disch := omega) only [up_ne, up_at, q_up_at, q_up_ne, cp_ne]; omega)) ?_)
    exact h1 1 (by omega) _ (up_at _ _ _ _) (fun o ho => up_ne _ _ _ ho)
  by_cases c3 : x = 115
  · subst c3
    repeat' (first | (refine mj_ite (fun h => ?_) (fun h => ?_) <;> first | (exfalso; omega) | (exfalso; simp only [Nat.zero_add, Nat.reduceAdd] at *; omega) | skip) | refine mj_vci (by first | omega | (simp only [Nat.zero_add, Nat.reduceAdd] at *; omega) | (simp (disch := omega) only [up_ne, up_at, q_up_at, q_up_ne, cp_ne]; omega)) ?_)
    exact h1 2 (by omega) _ (up_at _ _ _ _) (fun o ho => up_ne _ _ _ ho)
  by_cases c4 : x = 119
  · subst c4
    repeat' (first | (refine mj_ite (fun h => ?_) (fun h => ?_) <;> first | (exfalso; omega) | (exfalso; simp only [Nat.zero_add, Nat.reduceAdd] at *; omega) | skip) | refine mj_vci (by first | omega | (simp only [Nat.zero_add, Nat.reduceAdd] at *; omega) | (simp (disch := omega) only [up_ne, up_at, q_up_at, q_up_ne, cp_ne]; omega)) ?_)
    exact h1 3 (by omega) _ (up_at _ _ _ _) (fun o ho => up_ne _ _ _ ho)
  by_cases c5 : x = 62
  · subst c5
    repeat' (first | (refine mj_ite (fun h => ?_) (fun h => ?_) <;> first | (exfalso; omega) | (exfalso; simp only [Nat.zero_add, Nat.reduceAdd] at *; omega) | skip) | refine mj_vci (by first | omega | (simp only [Nat.zero_add, Nat.reduceAdd] at *; omega) | (simp (disch := omega) only [up_ne, up_at, q_up_at, q_up_ne, cp_ne]; omega)) ?_)
    exact h2 rfl _ (up_at _ _ _ _) (fun o ho => up_ne _ _ _ ho)
  by_cases c6 : x = 120
  · subst c6
    repeat' (first | (refine mj_ite (fun h => ?_) (fun h => ?_) <;> first | (exfalso; omega) | (exfalso; simp only [Nat.zero_add, Nat.reduceAdd] at *; omega) | skip) | refine mj_vci (by first | omega | (simp only [Nat.zero_add, Nat.reduceAdd] at *; omega) | (simp (disch := omega) only [up_ne, up_at, q_up_at, q_up_ne, cp_ne]; omega)) ?_)
    refine c_M_close (by rw [e1]; exact ha) (fun σ' s1 s2 s3 s4 s5 => ?_)
    rw [e1] at s1 s2 s3 s4
    rw [up_ne _ _ _ (by omega)] at s1 s3
    repeat' (first | (refine mj_ite (fun h => ?_) (fun h => ?_) <;> first | (exfalso; omega) | (exfalso; simp only [Nat.zero_add, Nat.reduceAdd] at *; omega) | skip) | refine mj_vci (by first | omega | (simp only [Nat.zero_add, Nat.reduceAdd] at *; omega) | (simp (disch := omega) only [up_ne, up_at, q_up_at, q_up_ne, cp_ne]; omega)) ?_)
    refine h3 rfl σ' s1 ?_ s3 s4 ?_
    · rw [s2, up_at]; funext j; simp only [q_up]; grind
    · intro o o1 o2 o3 o4
      rw [s5 o o1 o2 o3 o4, up_ne _ _ _ o3]
  repeat' (first | (refine mj_ite (fun h => ?_) (fun h => ?_) <;> first | (exfalso; omega) | (exfalso; simp only [Nat.zero_add, Nat.reduceAdd] at *; omega) | skip) | refine mj_vci (by first | omega | (simp only [Nat.zero_add, Nat.reduceAdd] at *; omega) | (simp (disch := omega) only [up_ne, up_at, q_up_at, q_up_ne, cp_ne]; omega)) ?_)
  exact h4 c1 c2 c3 c4 c5 c6 _ (fun o ho => up_ne _ _ _ ho)
end M15
