/-! the model: an act happens -/
def q_BM (σ : mj_W) (g : Nat) : q_B := (σ g 0, σ (g + 1), σ (g + 2), σ (g + 3), σ (g + 4))
def q_hap (σ σ' : mj_W) (g : Nat) (a : q_A) : Prop := q_BM σ' g = q_ad (q_BM σ g) a ∧ σ' g 22 = σ g 22 + q_as a ∧ (∀ f, f ≠ 0 → f ≠ 22 → σ' g f = σ g f) ∧ (∀ o, o ≠ g → o ≠ g + 1 → o ≠ g + 2 → o ≠ g + 3 → o ≠ g + 4 → σ' o = σ o)
section M11
variable {n g : Nat} {σ : mj_W} {K : Option mj_V → mj_W → Prop} {x y p w i j c d he k : Int}
theorem l_M_happen (hg : mj_rg σ) (hl : mj_ln (g + 4) = 8) (hK : ∀ σ' : mj_W, σ' (g + 4) = (fun _ => 0) → (∀ o, o ≠ g + 4 → σ' o = σ o) → K none σ') :
    ∀ (m : Nat) (i : Int) (τ : mj_W), 0 ≤ i → i + m = 8 → τ (g + 4) = (fun j => if 0 ≤ j ∧ j < i then 0 else σ (g + 4) j) → (∀ o, o ≠ g + 4 → τ o = σ o) → mj_Wm i_M_happen (n + 3) K 63 [some (rV 12 0 g), none, none, none, none, some (iV i)] [] τ := by
  have m84 : ∀ τ : mj_W, τ (g + 4) = (fun j => if 0 ≤ j ∧ j < 8 then 0 else σ (g + 4) j) → (∀ o, o ≠ g + 4 → τ o = σ o) → K none τ := by
    intro τ t1 t2
    refine hK τ ?_ t2
    rw [t1]
    funext j
    by_cases e : 0 ≤ j ∧ j < 8
    · rw [if_pos e]
    · rw [if_neg e]
      exact (hg (g + 4) j).2 (by rw [hl]; omega)
  intro m
  induction m with
  | zero =>
    intro i τ h0 h1 t1 t2
    have : i = 8 := by omega
    subst this
    refine r_M_happen [(63, [true, false, false, false, false, true])] 600 ?_
    repeat' (first | (refine mj_ite (fun h => ?_) (fun h => ?_) <;> first | (exfalso; omega) | skip) | refine mj_vci (by first | omega | (simp (disch := omega) only [up_ne, up_at, q_up_at, q_up_ne, cp_ne]; omega)) ?_)
    exact m84 τ t1 t2
  | succ m ih =>
    intro i τ h0 h1 t1 t2
    refine r_M_happen [(63, [true, false, false, false, false, true])] 600 ?_
    repeat' (first | (refine mj_ite (fun h => ?_) (fun h => ?_) <;> first | (exfalso; omega) | skip) | refine mj_vci (by first | omega | (simp (disch := omega) only [up_ne, up_at, q_up_at, q_up_ne, cp_ne]; omega)) ?_)
    refine ih (i + 1) _ (by omega) (by omega) ?_ ?_
    · rw [up_at, t1]
      funext j
      simp only [q_up]
      grind
    · intro o ho
      rw [up_ne _ _ _ ho]
      exact t2 o ho
end M11
