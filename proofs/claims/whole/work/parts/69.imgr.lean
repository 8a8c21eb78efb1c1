/-! the model's images, read back -/
def q_rk (f : Int) : Int := if f = 0 then 0 else if f = 5 then 1 else if f = 6 then 2 else if f = 7 then 3 else if f = 8 then 4 else if f = 14 then 5 else 100
def q_rr (σ τ : mj_W) (g : Nat) (a c : Int) (r : Nat) : Prop := (∀ f, τ g f = if f = 41 then a + c + 8 * (r : Int) else if q_rk f < c then σ (g + 23) (a + q_rk f) else σ g f) ∧ (∀ q, q ≠ g → ¬ (g + 1 ≤ q ∧ q ≤ g + r) → τ q = σ q) ∧ (∀ q : Nat, g + 1 ≤ q → q ≤ g + r → (∀ j, 0 ≤ j → j < 8 → τ q j = σ (g + 23) (a + 6 + 8 * ((q : Int) - g - 1) + j)) ∧ (∀ j, ¬ (0 ≤ j ∧ j < 8) → τ q j = 0))
section M26
variable {n g : Nat} {σ τ σ1 : mj_W} {K : Option mj_V → mj_W → Prop} {x y z p w i j c d k s m a v f : Int}
theorem q_rr_s (h : q_rr σ τ g a c 0) (hc : 0 ≤ c ∧ c ≤ 5) (s1 : σ1 g = q_up (τ g) 41 (a + c + 1)) (s2 : ∀ q, q ≠ g → σ1 q = τ q) (hf : f ≠ 41) (hk : q_rk f = c) (hu : ∀ f', q_rk f' = c → f' = f) : q_rr σ (mj_up σ1 g f (τ (g + 23) (a + c))) g a (c + 1) 0 := by
  obtain ⟨h1, h2, h3⟩ := h
  have k23 : τ (g + 23) = σ (g + 23) := h2 (g + 23) (by omega) (by omega)
  refine ⟨fun f' => ?_, fun q q1 q2 => ?_, fun q q1 q2 => by omega⟩
  · rw [up_at, s1, k23]
    by_cases e1 : f' = f
    · subst e1
      rw [q_up_at, if_neg hf, if_pos (by omega), hk]
    · rw [q_up_ne _ _ e1]
      by_cases e2 : f' = 41
      · subst e2
        rw [q_up_at, if_pos rfl]
        show a + c + 1 = a + (c + 1) + 8 * ((0 : Nat) : Int)
        omega
      · rw [q_up_ne _ _ e2, h1 f', if_neg e2, if_neg e2]
        have ne : q_rk f' ≠ c := fun q => e1 (hu f' q)
        by_cases e3 : q_rk f' < c
        · rw [if_pos e3, if_pos (by omega)]
        · rw [if_neg e3, if_neg (by omega)]
  · rw [up_ne _ _ _ q1, s2 q q1]; exact h2 q q1 q2
theorem q_rr_r {r : Nat} (h : q_rr σ τ g a 6 r) (hr : r ≤ 8) (s1 : ∀ j, 0 ≤ j → j < 8 → σ1 (g + 1 + r) j = τ (g + 23) (a + (6 + 8 * (r : Int)) + j)) (s2 : ∀ j, ¬ (0 ≤ j ∧ j < 8) → σ1 (g + 1 + r) j = 0) (s3 : σ1 g = q_up (τ g) 41 (a + (6 + 8 * (r : Int)) + 8)) (s4 : ∀ q, q ≠ g → q ≠ g + 1 + r → σ1 q = τ q) : q_rr σ σ1 g a 6 (r + 1) := by
  obtain ⟨h1, h2, h3⟩ := h
  have k23 : τ (g + 23) = σ (g + 23) := h2 (g + 23) (by omega) (by omega)
  refine ⟨fun f' => ?_, fun q q1 q2 => ?_, fun q q1 q2 => ?_⟩
  · rw [s3]
    by_cases e2 : f' = 41
    · subst e2
      rw [q_up_at, if_pos rfl]
      omega
    · rw [q_up_ne _ _ e2, h1 f', if_neg e2, if_neg e2]
  · rw [s4 q q1 (by omega)]; exact h2 q q1 (by omega)
  · by_cases e : q = g + 1 + r
    · subst e
      refine ⟨fun j j0 j1 => ?_, s2⟩
      rw [s1 j j0 j1, k23]
      congr 1
      omega
    · rw [s4 q (by omega) e]
      exact h3 q q1 (by omega)

theorem c_M_passAllR (hG : g = 58) (hw : σ g 42 = 0) (ha : σ g 41 = a) (hab : 0 ≤ a ∧ a + 78 ≤ 180) (hK : ∀ σ', q_rr σ σ' g a 6 9 → K none σ') : mj_Ok (n + 3) i_M_passAll [rV 12 0 g] σ K := by
  have f42 : ∀ (c : Int) (r : Nat) (τ : mj_W), c ≤ 6 → q_rr σ τ g a c r → τ g 42 = 0 := by
    intro c r τ hc h
    rw [h.1 42, if_neg (by omega), if_neg (by show ¬ (100 : Int) < c; omega)]; exact hw
  have f41 : ∀ (c : Int) (r : Nat) (τ : mj_W), q_rr σ τ g a c r → τ g 41 = a + c + 8 * (r : Int) := by
    intro c r τ h
    rw [h.1 41, if_pos rfl]
  have R9 : ∀ τ, q_rr σ τ g a 6 9 → mj_Wm i_M_passAll (n + 3) K 144 [some (rV 12 0 g)] [] τ := by
    intro τ h
    refine r_M_passAll [] 600 ?_
    exact hK τ h
  have R8 : ∀ τ, q_rr σ τ g a 6 8 → mj_Wm i_M_passAll (n + 3) K 136 [some (rV 12 0 g)] [] τ := by
    intro τ h
    have hl : mj_ln (g + 1 + 8) = 8 := by subst hG; decide +kernel
    refine r_M_passAll [(144, [true])] 600 ?_
    refine c_M_passRowR (o := g + 1 + 8) (a := a + (6 + 8 * ((8 : Nat) : Int))) hl (f42 6 8 τ (by omega) h) (by rw [f41 6 8 τ h]; omega) (by omega) (by omega) (fun σ1 s1 s2 s3 s4 => ?_)
    exact R9 σ1 (q_rr_r (r := 8) h (by omega) s1 s2 s3 s4)
  have R7 : ∀ τ, q_rr σ τ g a 6 7 → mj_Wm i_M_passAll (n + 3) K 128 [some (rV 12 0 g)] [] τ := by
    intro τ h
    have hl : mj_ln (g + 1 + 7) = 8 := by subst hG; decide +kernel
    refine r_M_passAll [(136, [true])] 600 ?_
    refine c_M_passRowR (o := g + 1 + 7) (a := a + (6 + 8 * ((7 : Nat) : Int))) hl (f42 6 7 τ (by omega) h) (by rw [f41 6 7 τ h]; omega) (by omega) (by omega) (fun σ1 s1 s2 s3 s4 => ?_)
    exact R8 σ1 (q_rr_r (r := 7) h (by omega) s1 s2 s3 s4)
  have R6 : ∀ τ, q_rr σ τ g a 6 6 → mj_Wm i_M_passAll (n + 3) K 120 [some (rV 12 0 g)] [] τ := by
    intro τ h
    have hl : mj_ln (g + 1 + 6) = 8 := by subst hG; decide +kernel
    refine r_M_passAll [(128, [true])] 600 ?_
    refine c_M_passRowR (o := g + 1 + 6) (a := a + (6 + 8 * ((6 : Nat) : Int))) hl (f42 6 6 τ (by omega) h) (by rw [f41 6 6 τ h]; omega) (by omega) (by omega) (fun σ1 s1 s2 s3 s4 => ?_)
    exact R7 σ1 (q_rr_r (r := 6) h (by omega) s1 s2 s3 s4)
  have R5 : ∀ τ, q_rr σ τ g a 6 5 → mj_Wm i_M_passAll (n + 3) K 112 [some (rV 12 0 g)] [] τ := by
    intro τ h
    have hl : mj_ln (g + 1 + 5) = 8 := by subst hG; decide +kernel
    refine r_M_passAll [(120, [true])] 600 ?_
    refine c_M_passRowR (o := g + 1 + 5) (a := a + (6 + 8 * ((5 : Nat) : Int))) hl (f42 6 5 τ (by omega) h) (by rw [f41 6 5 τ h]; omega) (by omega) (by omega) (fun σ1 s1 s2 s3 s4 => ?_)
    exact R6 σ1 (q_rr_r (r := 5) h (by omega) s1 s2 s3 s4)
  have R4 : ∀ τ, q_rr σ τ g a 6 4 → mj_Wm i_M_passAll (n + 3) K 104 [some (rV 12 0 g)] [] τ := by
    intro τ h
    have hl : mj_ln (g + 1 + 4) = 8 := by subst hG; decide +kernel
    refine r_M_passAll [(112, [true])] 600 ?_
    refine c_M_passRowR (o := g + 1 + 4) (a := a + (6 + 8 * ((4 : Nat) : Int))) hl (f42 6 4 τ (by omega) h) (by rw [f41 6 4 τ h]; omega) (by omega) (by omega) (fun σ1 s1 s2 s3 s4 => ?_)
    exact R5 σ1 (q_rr_r (r := 4) h (by omega) s1 s2 s3 s4)
  have R3 : ∀ τ, q_rr σ τ g a 6 3 → mj_Wm i_M_passAll (n + 3) K 96 [some (rV 12 0 g)] [] τ := by
    intro τ h
    have hl : mj_ln (g + 1 + 3) = 8 := by subst hG; decide +kernel
    refine r_M_passAll [(104, [true])] 600 ?_
    refine c_M_passRowR (o := g + 1 + 3) (a := a + (6 + 8 * ((3 : Nat) : Int))) hl (f42 6 3 τ (by omega) h) (by rw [f41 6 3 τ h]; omega) (by omega) (by omega) (fun σ1 s1 s2 s3 s4 => ?_)
    exact R4 σ1 (q_rr_r (r := 3) h (by omega) s1 s2 s3 s4)
  have R2 : ∀ τ, q_rr σ τ g a 6 2 → mj_Wm i_M_passAll (n + 3) K 88 [some (rV 12 0 g)] [] τ := by
    intro τ h
    have hl : mj_ln (g + 1 + 2) = 8 := by subst hG; decide +kernel
    refine r_M_passAll [(96, [true])] 600 ?_
    refine c_M_passRowR (o := g + 1 + 2) (a := a + (6 + 8 * ((2 : Nat) : Int))) hl (f42 6 2 τ (by omega) h) (by rw [f41 6 2 τ h]; omega) (by omega) (by omega) (fun σ1 s1 s2 s3 s4 => ?_)
    exact R3 σ1 (q_rr_r (r := 2) h (by omega) s1 s2 s3 s4)
  have R1 : ∀ τ, q_rr σ τ g a 6 1 → mj_Wm i_M_passAll (n + 3) K 80 [some (rV 12 0 g)] [] τ := by
    intro τ h
    have hl : mj_ln (g + 1 + 1) = 8 := by subst hG; decide +kernel
    refine r_M_passAll [(88, [true])] 600 ?_
    refine c_M_passRowR (o := g + 1 + 1) (a := a + (6 + 8 * ((1 : Nat) : Int))) hl (f42 6 1 τ (by omega) h) (by rw [f41 6 1 τ h]; omega) (by omega) (by omega) (fun σ1 s1 s2 s3 s4 => ?_)
    exact R2 σ1 (q_rr_r (r := 1) h (by omega) s1 s2 s3 s4)
  have R0 : ∀ τ, q_rr σ τ g a 6 0 → mj_Wm i_M_passAll (n + 3) K 72 [some (rV 12 0 g)] [] τ := by
    intro τ h
    have hl : mj_ln (g + 1 + 0) = 8 := by subst hG; decide +kernel
    refine r_M_passAll [(80, [true])] 600 ?_
    refine c_M_passRowR (o := g + 1 + 0) (a := a + (6 + 8 * ((0 : Nat) : Int))) hl (f42 6 0 τ (by omega) h) (by rw [f41 6 0 τ h]; omega) (by omega) (by omega) (fun σ1 s1 s2 s3 s4 => ?_)
    exact R1 σ1 (q_rr_r (r := 0) h (by omega) s1 s2 s3 s4)
  have S5 : ∀ τ, q_rr σ τ g a 5 0 → mj_Wm i_M_passAll (n + 3) K 60 [some (rV 12 0 g)] [] τ := by
    intro τ h
    refine r_M_passAll [(72, [true])] 600 ?_
    refine c_M_passR (a := a + 5) (f42 5 0 τ (by omega) h) (by rw [f41 5 0 τ h]; omega) (by omega) (fun σ1 s1 s2 => ?_)
    exact R0 _ (q_rr_s (f := 14) (c := 5) h (by omega) s1 s2 (by omega) rfl (fun f' q => by unfold q_rk at q; (repeat' split at q) <;> omega))
  have S4 : ∀ τ, q_rr σ τ g a 4 0 → mj_Wm i_M_passAll (n + 3) K 48 [some (rV 12 0 g)] [] τ := by
    intro τ h
    refine r_M_passAll [(60, [true])] 600 ?_
    refine c_M_passR (a := a + 4) (f42 4 0 τ (by omega) h) (by rw [f41 4 0 τ h]; omega) (by omega) (fun σ1 s1 s2 => ?_)
    exact S5 _ (q_rr_s (f := 8) (c := 4) h (by omega) s1 s2 (by omega) rfl (fun f' q => by unfold q_rk at q; (repeat' split at q) <;> omega))
  have S3 : ∀ τ, q_rr σ τ g a 3 0 → mj_Wm i_M_passAll (n + 3) K 36 [some (rV 12 0 g)] [] τ := by
    intro τ h
    refine r_M_passAll [(48, [true])] 600 ?_
    refine c_M_passR (a := a + 3) (f42 3 0 τ (by omega) h) (by rw [f41 3 0 τ h]; omega) (by omega) (fun σ1 s1 s2 => ?_)
    exact S4 _ (q_rr_s (f := 7) (c := 3) h (by omega) s1 s2 (by omega) rfl (fun f' q => by unfold q_rk at q; (repeat' split at q) <;> omega))
  have S2 : ∀ τ, q_rr σ τ g a 2 0 → mj_Wm i_M_passAll (n + 3) K 24 [some (rV 12 0 g)] [] τ := by
    intro τ h
    refine r_M_passAll [(36, [true])] 600 ?_
    refine c_M_passR (a := a + 2) (f42 2 0 τ (by omega) h) (by rw [f41 2 0 τ h]; omega) (by omega) (fun σ1 s1 s2 => ?_)
    exact S3 _ (q_rr_s (f := 6) (c := 2) h (by omega) s1 s2 (by omega) rfl (fun f' q => by unfold q_rk at q; (repeat' split at q) <;> omega))
  have S1 : ∀ τ, q_rr σ τ g a 1 0 → mj_Wm i_M_passAll (n + 3) K 12 [some (rV 12 0 g)] [] τ := by
    intro τ h
    refine r_M_passAll [(24, [true])] 600 ?_
    refine c_M_passR (a := a + 1) (f42 1 0 τ (by omega) h) (by rw [f41 1 0 τ h]; omega) (by omega) (fun σ1 s1 s2 => ?_)
    exact S2 _ (q_rr_s (f := 5) (c := 1) h (by omega) s1 s2 (by omega) rfl (fun f' q => by unfold q_rk at q; (repeat' split at q) <;> omega))
  have S0 : ∀ τ, q_rr σ τ g a 0 0 → mj_Wm i_M_passAll (n + 3) K 0 [some (rV 12 0 g)] [] τ := by
    intro τ h
    refine r_M_passAll [(12, [true])] 600 ?_
    refine c_M_passR (a := a + 0) (f42 0 0 τ (by omega) h) (by rw [f41 0 0 τ h]; omega) (by omega) (fun σ1 s1 s2 => ?_)
    exact S1 _ (q_rr_s (f := 0) (c := 0) h (by omega) s1 s2 (by omega) rfl (fun f' q => by unfold q_rk at q; (repeat' split at q) <;> omega))
  refine mj_enter (by decide) (Nat.le_of_ble_eq_true rfl) (fun hg => ?_)
  have fin := S0 σ ⟨fun f => by
    by_cases e : f = 41
    · rw [if_pos e, e, ha]
      show a = a + 0 + 8 * ((0 : Nat) : Int)
      omega
    · rw [if_neg e, if_neg]
      unfold q_rk
      (repeat' split) <;> omega, fun _ _ _ => rfl, fun q q1 q2 => by omega⟩
  exact fin
theorem c_M_image (h1 : ¬ (0 ≤ i ∧ i ≤ 1) → K (some (iV (-2))) σ) (h2 : 0 ≤ i ∧ i ≤ 1 → ∀ σ', (∀ j, 0 ≤ j → j < 78 → σ' (g + 23) (90 * i + j) = q_cnt σ g j) → (∀ j, ¬ (90 * i ≤ j ∧ j < 90 * i + 78) → σ' (g + 23) j = σ (g + 23) j) → σ' (g + 24) = q_up (σ (g + 24)) i 1 → (∀ f, f ≠ 41 → f ≠ 42 → σ' g f = σ g f) → (∀ q, q ≠ g → q ≠ g + 23 → q ≠ g + 24 → σ' q = σ q) → K (some (iV 1)) σ') : mj_Ok (n + 4) i_M_image [rV 12 0 g, iV i] σ K := by
  refine mj_enter (by decide) (Nat.le_of_ble_eq_true rfl) (fun hg => ?_)
  refine r_M_image [] 600 ?_
  refine c_M_in (fun a1 a2 => ?_) (fun a0 => ?_)
  · repeat' (first | (refine mj_ite (fun h => ?_) (fun h => ?_) <;> first | (exfalso; omega) | skip) | refine mj_vci (by first | omega | (simp (disch := omega) only [up_ne, up_at, q_up_at, q_up_ne, cp_ne]; omega)) ?_)
    have w0 : mj_up (mj_up σ g 41 (90 * i)) g 42 1 g 42 = 1 := by rw [up_at, q_up_at]
    have w1 : mj_up (mj_up σ g 41 (90 * i)) g 42 1 g 41 = 90 * i := by rw [up_at, q_up_ne _ _ (by omega), up_at, q_up_at]
    have wf : ∀ f, f ≠ 41 → f ≠ 42 → mj_up (mj_up σ g 41 (90 * i)) g 42 1 g f = σ g f := fun f f1 f2 => by rw [up_at, q_up_ne _ _ f2, up_at, q_up_ne _ _ f1]
    have wo : ∀ q, q ≠ g → mj_up (mj_up σ g 41 (90 * i)) g 42 1 q = σ q := fun q hq => by rw [up_ne _ _ _ hq, up_ne _ _ _ hq]
    refine c_M_passAllW w0 w1 (by omega) (fun σ1 hq => ?_)
    generalize mj_up (mj_up σ g 41 (90 * i)) g 42 1 = τ at *
    obtain ⟨q1, q2, q3, q4⟩ := hq
    repeat' (first | (refine mj_ite (fun h => ?_) (fun h => ?_) <;> first | (exfalso; omega) | skip) | refine mj_vci (by first | omega | (simp (disch := omega) only [up_ne, up_at, q_up_at, q_up_ne, cp_ne]; omega)) ?_)
    refine h2 ⟨a1, a2⟩ _ (fun j j0 j1 => ?_) (fun j hj => ?_) ?_ (fun f f1 f2 => ?_) (fun q u1 u2 u3 => ?_)
    · rw [up_ne _ _ _ (by omega), q4 j j0 j1]
      unfold q_cnt
      rw [wf 0 (by omega) (by omega), wf 5 (by omega) (by omega), wf 6 (by omega) (by omega), wf 7 (by omega) (by omega), wf 8 (by omega) (by omega), wf 14 (by omega) (by omega), wo _ (by omega)]
    · rw [up_ne _ _ _ (by omega), q3 j hj, wo _ (by omega)]
    · rw [up_at, q2 (g + 24) (by omega) (by omega), wo _ (by omega)]
    · rw [up_ne _ _ _ (by omega), q1, q_up_ne _ _ f1]; exact wf f f1 f2
    · rw [up_ne _ _ _ u3, q2 q u1 u2]; exact wo q u1
  · repeat' (first | (refine mj_ite (fun h => ?_) (fun h => ?_) <;> first | (exfalso; omega) | skip) | refine mj_vci (by first | omega | (simp (disch := omega) only [up_ne, up_at, q_up_at, q_up_ne, cp_ne]; omega)) ?_)
    exact h1 a0
theorem c_M_restore (hG : g = 58) (h1 : ¬ (0 ≤ i ∧ i ≤ 1) → K (some (iV (-2))) σ) (h2 : 0 ≤ i ∧ i ≤ 1 → σ (g + 24) i = 0 → K (some (iV (-3))) σ) (h3 : 0 ≤ i ∧ i ≤ 1 → σ (g + 24) i ≠ 0 → ∀ σ', (∀ f, f ≠ 41 → f ≠ 42 → σ' g f = if q_rk f < 6 then σ (g + 23) (90 * i + q_rk f) else σ g f) → (∀ q, q ≠ g → ¬ (g + 1 ≤ q ∧ q ≤ g + 9) → σ' q = σ q) → (∀ q : Nat, g + 1 ≤ q → q ≤ g + 9 → (∀ j, 0 ≤ j → j < 8 → σ' q j = σ (g + 23) (90 * i + 6 + 8 * ((q : Int) - g - 1) + j)) ∧ (∀ j, ¬ (0 ≤ j ∧ j < 8) → σ' q j = 0)) → K (some (iV 1)) σ') : mj_Ok (n + 4) i_M_restore [rV 12 0 g, iV i] σ K := by
  refine mj_enter (by decide) (Nat.le_of_ble_eq_true rfl) (fun hg => ?_)
  refine r_M_restore [] 600 ?_
  refine c_M_in (fun a1 a2 => ?_) (fun a0 => ?_)
  · repeat' (first | (refine mj_ite (fun h => ?_) (fun h => ?_) <;> first | (exfalso; omega) | skip) | refine mj_vci (by first | omega | (simp (disch := omega) only [up_ne, up_at, q_up_at, q_up_ne, cp_ne]; omega)) ?_)
    · exact h2 ⟨a1, a2⟩ (by assumption)
    · have w0 : mj_up (mj_up σ g 41 (90 * i)) g 42 0 g 42 = 0 := by rw [up_at, q_up_at]
      have w1 : mj_up (mj_up σ g 41 (90 * i)) g 42 0 g 41 = 90 * i := by rw [up_at, q_up_ne _ _ (by omega), up_at, q_up_at]
      have wf : ∀ f, f ≠ 41 → f ≠ 42 → mj_up (mj_up σ g 41 (90 * i)) g 42 0 g f = σ g f := fun f f1 f2 => by rw [up_at, q_up_ne _ _ f2, up_at, q_up_ne _ _ f1]
      have wo : ∀ q, q ≠ g → mj_up (mj_up σ g 41 (90 * i)) g 42 0 q = σ q := fun q hq => by rw [up_ne _ _ _ hq, up_ne _ _ _ hq]
      have fin := h3 ⟨a1, a2⟩ (by assumption)
      refine c_M_passAllR hG w0 w1 (by omega) (fun σ1 hq => ?_)
      generalize mj_up (mj_up σ g 41 (90 * i)) g 42 0 = τ at *
      obtain ⟨q1, q2, q3⟩ := hq
      repeat' (first | (refine mj_ite (fun h => ?_) (fun h => ?_) <;> first | (exfalso; omega) | skip) | refine mj_vci (by first | omega | (simp (disch := omega) only [up_ne, up_at, q_up_at, q_up_ne, cp_ne]; omega)) ?_)
      refine fin σ1 (fun f f1 f2 => ?_) (fun q u1 u2 => ?_) (fun q u1 u2 => ?_)
      · rw [q1 f, if_neg f1, wo (g + 23) (by omega), wf f f1 f2]
      · rw [q2 q u1 u2]; exact wo q u1
      · have := q3 q u1 u2
        rw [wo (g + 23) (by omega)] at this
        exact this
  · repeat' (first | (refine mj_ite (fun h => ?_) (fun h => ?_) <;> first | (exfalso; omega) | skip) | refine mj_vci (by first | omega | (simp (disch := omega) only [up_ne, up_at, q_up_at, q_up_ne, cp_ne]; omega)) ?_)
    exact h1 a0
end M26
