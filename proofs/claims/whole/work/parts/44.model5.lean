/-! the model's stand and set -/
section M5
variable {n g : Nat} {σ : mj_W} {K : Option mj_V → mj_W → Prop} {x y p w i j c d pl : Int}
def q_stoodM (σ σ' : mj_W) (g : Nat) (p x y pl : Int) : Prop := σ' g = q_up (σ g) 0 (σ g 0 + 1) ∧ σ' (g + 1) = q_ins (σ (g + 1)) pl p (σ g 0) ∧ σ' (g + 2) = q_up (σ (g + 2)) p x ∧ σ' (g + 3) = q_up (σ (g + 3)) p y ∧ σ' (g + 4) = q_up (σ (g + 4)) p 0 ∧ (∀ o, o ≠ g → o ≠ g + 1 → o ≠ g + 2 → o ≠ g + 3 → o ≠ g + 4 → σ' o = σ o)
theorem l_M_stand (hc : 0 ≤ σ g 0 ∧ σ g 0 ≤ 7) (hp : 0 ≤ p ∧ p ≤ 7) (hpl : 0 ≤ pl ∧ pl ≤ σ g 0) (hK : ∀ σ' : mj_W, q_stoodM σ σ' g p x y pl → K (some (iV (σ' g 0))) σ') :
    ∀ (k : Nat) (i : Int) (τ : mj_W), i ≤ σ g 0 → i = pl + k → τ (g + 1) = (fun j => if i < j ∧ j ≤ σ g 0 then σ (g + 1) (j - 1) else σ (g + 1) j) → (∀ o, o ≠ g + 1 → τ o = σ o) → mj_Wm i_M_stand (n + 3) K 61 [some (rV 12 0 g), some (iV p), some (iV x), some (iV y), some (iV pl), some (iV i)] [] τ := by
  intro k
  induction k with
  | zero =>
    intro i τ h0 h1 t2 t3
    have tb := t3 g (by omega)
    have f4 : τ g 0 = σ g 0 := by rw [tb]
    have u0 : mj_up τ (g + 1) pl p g = σ g := by rw [up_ne _ _ _ (by omega), tb]
    refine r_M_stand [(61, [true, true, true, true, true, true])] 600 ?_
    repeat' (first | (refine mj_ite (fun h => ?_) (fun h => ?_) <;> first | (exfalso; omega) | skip) | refine mj_vci (by first | omega | (simp (disch := omega) only [up_ne, up_at, q_up_at, q_up_ne, cp_ne]; omega)) ?_)
    simp only [u0]
    repeat' (first | (refine mj_ite (fun h => ?_) (fun h => ?_) <;> first | (exfalso; omega) | skip) | refine mj_vci (by first | omega | (simp (disch := omega) only [up_ne, up_at, q_up_at, q_up_ne, cp_ne]; omega)) ?_)
    refine hK _ ⟨?_, ?_, ?_, ?_, ?_, ?_⟩
    · simp (disch := omega) only [up_ne, up_at, tb]
    · simp (disch := omega) only [up_ne, up_at, t2]
      funext j
      simp only [q_up, q_ins]
      grind
    · simp (disch := omega) only [up_ne, up_at, t3]
    · simp (disch := omega) only [up_ne, up_at, t3]
    · simp (disch := omega) only [up_ne, up_at, t3]
    · intro o g1 g2 g3 g4 g5
      simp (disch := omega) only [up_ne, t3]
  | succ k ih =>
    intro i τ h0 h1 t2 t3
    have tb := t3 g (by omega)
    have f4 : τ g 0 = σ g 0 := by rw [tb]
    refine r_M_stand [(61, [true, true, true, true, true, true])] 600 ?_
    repeat' (first | (refine mj_ite (fun h => ?_) (fun h => ?_) <;> first | (exfalso; omega) | skip) | refine mj_vci (by first | omega | (simp (disch := omega) only [up_ne, up_at, q_up_at, q_up_ne, cp_ne]; omega)) ?_)
    refine ih _ _ ?_ ?_ ?_ ?_
    · omega
    · omega
    · rw [up_at, t2]
      funext j
      simp only [q_up]
      grind
    · intro o ho2
      rw [up_ne _ _ _ ho2]
      exact t3 o ho2
theorem c_M_stand (hc : 0 ≤ σ g 0 ∧ σ g 0 ≤ 8) (hr : ∀ i, 0 ≤ σ (g + 1) i ∧ σ (g + 1) i ≤ 7) (hd : q_dist (σ (g + 1)) (σ g 0)) (h1 : ¬ (0 ≤ p ∧ p ≤ 7) → K (some (iV (-1))) σ) (h2 : 0 ≤ p ∧ p ≤ 7 → ¬ (q_land x y ∧ 0 ≤ pl ∧ pl ≤ σ g 0) → K (some (iV (-2))) σ) (h3 : 0 ≤ p ∧ p ≤ 7 → (q_land x y ∧ 0 ≤ pl ∧ pl ≤ σ g 0) → (q_fnd (σ (g + 1)) (σ g 0) p ≠ -6 ∨ ¬ q_free (σ g 0) (σ (g + 1)) (σ (g + 2)) (σ (g + 3)) p x y) → K (some (iV (-3))) σ) (h4 : 0 ≤ p ∧ p ≤ 7 → (q_land x y ∧ 0 ≤ pl ∧ pl ≤ σ g 0) → q_fnd (σ (g + 1)) (σ g 0) p = -6 → q_free (σ g 0) (σ (g + 1)) (σ (g + 2)) (σ (g + 3)) p x y → σ g 0 ≤ 7 → ∀ σ', q_stoodM σ σ' g p x y pl → K (some (iV (σ g 0 + 1))) σ') : mj_Ok (n + 3) i_M_stand [rV 12 0 g, iV p, iV x, iV y, iV pl] σ K := by
  have fr := q_fnd_or (σ (g + 1)) hc.1 p
  refine mj_enter (by decide) (Nat.le_of_ble_eq_true rfl) (fun hg => ?_)
  refine r_M_stand [(61, [true, true, true, true, true, true])] 600 ?_
  refine c_M_isNumber (fun a1 a2 => ?_) (fun a0 => ?_)
  · repeat' (first | (refine mj_ite (fun h => ?_) (fun h => ?_) <;> first | (exfalso; omega) | skip) | refine mj_vci (by first | omega | (simp (disch := omega) only [up_ne, up_at, q_up_at, q_up_ne, cp_ne]; omega)) ?_)
    refine c_M_isLand (fun b1 b2 b3 b4 => ?_) (fun b0 => ?_)
    · repeat' (first | (refine mj_ite (fun h => ?_) (fun h => ?_) <;> first | (exfalso; omega) | skip) | refine mj_vci (by first | omega | (simp (disch := omega) only [up_ne, up_at, q_up_at, q_up_ne, cp_ne]; omega)) ?_)
      refine c_M_in (fun c1 c2 => ?_) (fun c0 => ?_)
      · have hin : q_land x y ∧ 0 ≤ pl ∧ pl ≤ σ g 0 := ⟨⟨b1, b2, b3, b4⟩, c1, c2⟩
        repeat' (first | (refine mj_ite (fun h => ?_) (fun h => ?_) <;> first | (exfalso; omega) | skip) | refine mj_vci (by first | omega | (simp (disch := omega) only [up_ne, up_at, q_up_at, q_up_ne, cp_ne]; omega)) ?_)
        refine c_M_placeOf hc hd (fun r e1 => ?_)
        repeat' (first | (refine mj_ite (fun h => ?_) (fun h => ?_) <;> first | (exfalso; omega) | skip) | refine mj_vci (by first | omega | (simp (disch := omega) only [up_ne, up_at, q_up_at, q_up_ne, cp_ne]; omega)) ?_)
        · have hno : ∀ j, 0 ≤ j → j < σ g 0 → σ (g + 1) j ≠ p := by
            rcases fr with q | q
            · exact q.2
            · omega
          refine c_M_whoAt hc hr (fun w0 => ?_) (fun j w1 w2 w3 w4 => ?_)
          · have h7 := q_full hc.2 hr hd ⟨a1, a2⟩ hno
            repeat' (first | (refine mj_ite (fun h => ?_) (fun h => ?_) <;> first | (exfalso; omega) | skip) | refine mj_vci (by first | omega | (simp (disch := omega) only [up_ne, up_at, q_up_at, q_up_ne, cp_ne]; omega)) ?_)
            refine l_M_stand ⟨hc.1, h7⟩ ⟨a1, a2⟩ ⟨c1, c2⟩ (fun σ' s => ?_) (σ g 0 - pl).toNat (σ g 0) σ (by omega) (by omega) ?_ (fun _ _ => rfl)
            · rw [s.1, q_up_at]
              exact h4 ⟨a1, a2⟩ hin (by omega) (fun j j1 j2 j3 => w0 j j1 j2) h7 σ' s
            · funext j
              rw [if_neg (by omega)]
          · have := hr j
            repeat' (first | (refine mj_ite (fun h => ?_) (fun h => ?_) <;> first | (exfalso; omega) | skip) | refine mj_vci (by first | omega | (simp (disch := omega) only [up_ne, up_at, q_up_at, q_up_ne, cp_ne]; omega)) ?_)
            exact h3 ⟨a1, a2⟩ hin (Or.inr (fun q => q j w1 w2 (hno j w1 w2) w3 w4))
        · exact h3 ⟨a1, a2⟩ hin (Or.inl (by omega))
      · repeat' (first | (refine mj_ite (fun h => ?_) (fun h => ?_) <;> first | (exfalso; omega) | skip) | refine mj_vci (by first | omega | (simp (disch := omega) only [up_ne, up_at, q_up_at, q_up_ne, cp_ne]; omega)) ?_)
        exact h2 ⟨a1, a2⟩ (fun q => c0 q.2)
    · repeat' (first | (refine mj_ite (fun h => ?_) (fun h => ?_) <;> first | (exfalso; omega) | skip) | refine mj_vci (by first | omega | (simp (disch := omega) only [up_ne, up_at, q_up_at, q_up_ne, cp_ne]; omega)) ?_)
      exact h2 ⟨a1, a2⟩ (fun q => b0 q.1)
  · repeat' (first | (refine mj_ite (fun h => ?_) (fun h => ?_) <;> first | (exfalso; omega) | skip) | refine mj_vci (by first | omega | (simp (disch := omega) only [up_ne, up_at, q_up_at, q_up_ne, cp_ne]; omega)) ?_)
    exact h1 a0
theorem c_M_set (h1 : ¬ (0 ≤ w ∧ w ≤ 2 ∧ 0 ≤ x ∧ x ≤ (if w = 2 then 99 else 40)) → K (some (iV (-2))) σ) (h2 : (0 ≤ w ∧ w ≤ 2 ∧ 0 ≤ x ∧ x ≤ (if w = 2 then 99 else 40)) → ∀ σ' : mj_W, σ' g = q_up (σ g) (5 + w) x → (∀ o, o ≠ g → σ' o = σ o) → K (some (iV (σ g (5 + w)))) σ') : mj_Ok (n + 2) i_M_set [rV 12 0 g, iV w, iV x] σ K := by
  refine mj_enter (by decide) (Nat.le_of_ble_eq_true rfl) (fun hg => ?_)
  refine r_M_set [] 600 ?_
  refine c_M_in (fun a1 a2 => ?_) (fun a0 => ?_)
  · by_cases e0 : w = 0
    · subst e0
      repeat' (first | (refine mj_ite (fun h => ?_) (fun h => ?_) <;> first | (exfalso; omega) | skip) | refine mj_vci (by first | omega | (simp (disch := omega) only [up_ne, up_at, q_up_at, q_up_ne, cp_ne]; omega)) ?_)
      refine c_M_in (fun b1 b2 => ?_) (fun b0 => ?_)
      · repeat' (first | (refine mj_ite (fun h => ?_) (fun h => ?_) <;> first | (exfalso; omega) | skip) | refine mj_vci (by first | omega | (simp (disch := omega) only [up_ne, up_at, q_up_at, q_up_ne, cp_ne]; omega)) ?_)
        refine h2 (by omega) _ ?_ ?_
        · simp only [up_at]; funext j; simp only [q_up]; grind
        · intro o ho; rw [up_ne _ _ _ ho, up_ne _ _ _ ho, up_ne _ _ _ ho]
      · repeat' (first | (refine mj_ite (fun h => ?_) (fun h => ?_) <;> first | (exfalso; omega) | skip) | refine mj_vci (by first | omega | (simp (disch := omega) only [up_ne, up_at, q_up_at, q_up_ne, cp_ne]; omega)) ?_)
        exact h1 (by omega)
    by_cases e1 : w = 1
    · subst e1
      repeat' (first | (refine mj_ite (fun h => ?_) (fun h => ?_) <;> first | (exfalso; omega) | skip) | refine mj_vci (by first | omega | (simp (disch := omega) only [up_ne, up_at, q_up_at, q_up_ne, cp_ne]; omega)) ?_)
      refine c_M_in (fun b1 b2 => ?_) (fun b0 => ?_)
      · repeat' (first | (refine mj_ite (fun h => ?_) (fun h => ?_) <;> first | (exfalso; omega) | skip) | refine mj_vci (by first | omega | (simp (disch := omega) only [up_ne, up_at, q_up_at, q_up_ne, cp_ne]; omega)) ?_)
        refine h2 (by omega) _ ?_ ?_
        · simp only [up_at]; funext j; simp only [q_up]; grind
        · intro o ho; rw [up_ne _ _ _ ho, up_ne _ _ _ ho, up_ne _ _ _ ho]
      · repeat' (first | (refine mj_ite (fun h => ?_) (fun h => ?_) <;> first | (exfalso; omega) | skip) | refine mj_vci (by first | omega | (simp (disch := omega) only [up_ne, up_at, q_up_at, q_up_ne, cp_ne]; omega)) ?_)
        exact h1 (by omega)
    have e2 : w = 2 := by omega
    subst e2
    repeat' (first | (refine mj_ite (fun h => ?_) (fun h => ?_) <;> first | (exfalso; omega) | skip) | refine mj_vci (by first | omega | (simp (disch := omega) only [up_ne, up_at, q_up_at, q_up_ne, cp_ne]; omega)) ?_)
    refine c_M_in (fun b1 b2 => ?_) (fun b0 => ?_)
    · repeat' (first | (refine mj_ite (fun h => ?_) (fun h => ?_) <;> first | (exfalso; omega) | skip) | refine mj_vci (by first | omega | (simp (disch := omega) only [up_ne, up_at, q_up_at, q_up_ne, cp_ne]; omega)) ?_)
      refine h2 (by omega) _ ?_ ?_
      · simp only [up_at]; funext j; simp only [q_up]; grind
      · intro o ho; rw [up_ne _ _ _ ho, up_ne _ _ _ ho, up_ne _ _ _ ho]
    · repeat' (first | (refine mj_ite (fun h => ?_) (fun h => ?_) <;> first | (exfalso; omega) | skip) | refine mj_vci (by first | omega | (simp (disch := omega) only [up_ne, up_at, q_up_at, q_up_ne, cp_ne]; omega)) ?_)
      exact h1 (by omega)
  · repeat' (first | (refine mj_ite (fun h => ?_) (fun h => ?_) <;> first | (exfalso; omega) | skip) | refine mj_vci (by first | omega | (simp (disch := omega) only [up_ne, up_at, q_up_at, q_up_ne, cp_ne]; omega)) ?_)
    exact h1 (by omega)
end M5
