/-! where the line meets itself, of the model -/
section M3
variable {n g : Nat} {σ : mj_W} {K : Option mj_V → mj_W → Prop} {x y p w i j c d lo hi a b : Int}
theorem c_M_haveCommon (hL : q_gL σ g) (ha : 0 ≤ a ∧ a < σ g 28) (hb : 0 ≤ b ∧ b < σ g 28) (h1 : q_cm (σ (g + 16)) (σ (g + 17)) a b = true → K (some (iV 1)) σ) (h0 : q_cm (σ (g + 16)) (σ (g + 17)) a b = false → K (some (iV 0)) σ) : mj_Ok (n + 4) i_M_haveCommon [rV 12 0 g, iV a, iV b] σ K := by
  have hc := hL.1
  obtain ⟨-, hx, hy⟩ := id hL
  have xa := hx a (by omega) (by omega)
  have xa1 := hx (a + 1) (by omega) (by omega)
  have xb := hx b (by omega) (by omega)
  have xb1 := hx (b + 1) (by omega) (by omega)
  have ya := hy a (by omega) (by omega)
  have ya1 := hy (a + 1) (by omega) (by omega)
  have yb := hy b (by omega) (by omega)
  have yb1 := hy (b + 1) (by omega) (by omega)
  unfold q_cm at h1 h0
  have C : ∀ cr tc : Int, ((cr = 1 ∧ (q_pt (σ (g + 16)) (σ (g + 17)) a b && q_pt (σ (g + 16)) (σ (g + 17)) b a) = true) ∨ (cr = 0 ∧ (q_pt (σ (g + 16)) (σ (g + 17)) a b && q_pt (σ (g + 16)) (σ (g + 17)) b a) = false)) → ((tc = 1 ∧ (q_on (σ (g + 16)) (σ (g + 17)) a b || q_on (σ (g + 16)) (σ (g + 17)) a (b + 1)) = true) ∨ (tc = 0 ∧ (q_on (σ (g + 16)) (σ (g + 17)) a b || q_on (σ (g + 16)) (σ (g + 17)) a (b + 1)) = false)) → mj_Wm i_M_haveCommon (n + 4) K 168 [some (rV 12 0 g), some (iV a), some (iV b), none, none, none, none, some (iV cr), some (iV tc)] [] σ := by
    intro cr tc hcr htc
    rcases hcr with ⟨e1, e2⟩ | ⟨e1, e2⟩
    · subst e1
      refine r_M_haveCommon [] 600 ?_
      repeat' (first | (refine mj_ite (fun h => ?_) (fun h => ?_) <;> first | (exfalso; omega) | skip) | refine mj_vci (by first | omega | (simp (disch := omega) only [up_ne, up_at, q_up_at, q_up_ne, cp_ne]; omega)) ?_)
      exact h1 (by rw [e2]; simp)
    · subst e1
      rw [e2] at h1 h0
      rcases htc with ⟨e3, e4⟩ | ⟨e3, e4⟩
      · subst e3
        refine r_M_haveCommon [] 600 ?_
        repeat' (first | (refine mj_ite (fun h => ?_) (fun h => ?_) <;> first | (exfalso; omega) | skip) | refine mj_vci (by first | omega | (simp (disch := omega) only [up_ne, up_at, q_up_at, q_up_ne, cp_ne]; omega)) ?_)
        refine h1 ?_
        rw [← Bool.or_assoc, e4]; simp
      · subst e3
        rw [← Bool.or_assoc, e4] at h1 h0
        refine r_M_haveCommon [] 600 ?_
        repeat' (first | (refine mj_ite (fun h => ?_) (fun h => ?_) <;> first | (exfalso; omega) | skip) | refine mj_vci (by first | omega | (simp (disch := omega) only [up_ne, up_at, q_up_at, q_up_ne, cp_ne]; omega)) ?_)
        refine c_M_isOn hL hb xa ya (fun e5 => ?_) (fun e5 => ?_)
        · have e5 : q_on (σ (g + 16)) (σ (g + 17)) b a = true := decide_eq_true e5
          repeat' (first | (refine mj_ite (fun h => ?_) (fun h => ?_) <;> first | (exfalso; omega) | skip) | refine mj_vci (by first | omega | (simp (disch := omega) only [up_ne, up_at, q_up_at, q_up_ne, cp_ne]; omega)) ?_)
          exact h1 (by simp [e5])
        · have e5 : q_on (σ (g + 16)) (σ (g + 17)) b a = false := decide_eq_false e5
          repeat' (first | (refine mj_ite (fun h => ?_) (fun h => ?_) <;> first | (exfalso; omega) | skip) | refine mj_vci (by first | omega | (simp (disch := omega) only [up_ne, up_at, q_up_at, q_up_ne, cp_ne]; omega)) ?_)
          refine c_M_isOn hL hb xa1 ya1 (fun e6 => ?_) (fun e6 => ?_)
          · have e6 : q_on (σ (g + 16)) (σ (g + 17)) b (a + 1) = true := decide_eq_true e6
            repeat' (first | (refine mj_ite (fun h => ?_) (fun h => ?_) <;> first | (exfalso; omega) | skip) | refine mj_vci (by first | omega | (simp (disch := omega) only [up_ne, up_at, q_up_at, q_up_ne, cp_ne]; omega)) ?_)
            exact h1 (by simp [e6])
          · have e6 : q_on (σ (g + 16)) (σ (g + 17)) b (a + 1) = false := decide_eq_false e6
            repeat' (first | (refine mj_ite (fun h => ?_) (fun h => ?_) <;> first | (exfalso; omega) | skip) | refine mj_vci (by first | omega | (simp (disch := omega) only [up_ne, up_at, q_up_at, q_up_ne, cp_ne]; omega)) ?_)
            exact h0 (by simp [e5, e6])
  have B : ∀ cr : Int, ((cr = 1 ∧ (q_pt (σ (g + 16)) (σ (g + 17)) a b && q_pt (σ (g + 16)) (σ (g + 17)) b a) = true) ∨ (cr = 0 ∧ (q_pt (σ (g + 16)) (σ (g + 17)) a b && q_pt (σ (g + 16)) (σ (g + 17)) b a) = false)) → mj_Wm i_M_haveCommon (n + 4) K 117 [some (rV 12 0 g), some (iV a), some (iV b), none, none, none, none, some (iV cr), none] [] σ := by
    intro cr hcr
    refine r_M_haveCommon [(168, [true, true, true, false, false, false, false, true, true])] 600 ?_
    repeat' (first | (refine mj_ite (fun h => ?_) (fun h => ?_) <;> first | (exfalso; omega) | skip) | refine mj_vci (by first | omega | (simp (disch := omega) only [up_ne, up_at, q_up_at, q_up_ne, cp_ne]; omega)) ?_)
    refine c_M_isOn hL ha xb yb (fun e5 => ?_) (fun e5 => ?_)
    · have e5 : q_on (σ (g + 16)) (σ (g + 17)) a b = true := decide_eq_true e5
      repeat' (first | (refine mj_ite (fun h => ?_) (fun h => ?_) <;> first | (exfalso; omega) | skip) | refine mj_vci (by first | omega | (simp (disch := omega) only [up_ne, up_at, q_up_at, q_up_ne, cp_ne]; omega)) ?_)
      exact C cr 1 hcr (Or.inl ⟨rfl, by simp [e5]⟩)
    · have e5 : q_on (σ (g + 16)) (σ (g + 17)) a b = false := decide_eq_false e5
      repeat' (first | (refine mj_ite (fun h => ?_) (fun h => ?_) <;> first | (exfalso; omega) | skip) | refine mj_vci (by first | omega | (simp (disch := omega) only [up_ne, up_at, q_up_at, q_up_ne, cp_ne]; omega)) ?_)
      refine c_M_isOn hL ha xb1 yb1 (fun e6 => ?_) (fun e6 => ?_)
      · have e6 : q_on (σ (g + 16)) (σ (g + 17)) a (b + 1) = true := decide_eq_true e6
        repeat' (first | (refine mj_ite (fun h => ?_) (fun h => ?_) <;> first | (exfalso; omega) | skip) | refine mj_vci (by first | omega | (simp (disch := omega) only [up_ne, up_at, q_up_at, q_up_ne, cp_ne]; omega)) ?_)
        exact C cr 1 hcr (Or.inl ⟨rfl, by simp [e6]⟩)
      · have e6 : q_on (σ (g + 16)) (σ (g + 17)) a (b + 1) = false := decide_eq_false e6
        repeat' (first | (refine mj_ite (fun h => ?_) (fun h => ?_) <;> first | (exfalso; omega) | skip) | refine mj_vci (by first | omega | (simp (disch := omega) only [up_ne, up_at, q_up_at, q_up_ne, cp_ne]; omega)) ?_)
        exact C cr 0 hcr (Or.inr ⟨rfl, by simp [e5, e6]⟩)
  refine mj_enter (by decide) (Nat.le_of_ble_eq_true rfl) (fun hg => ?_)
  refine r_M_haveCommon [(117, [true, true, true, false, false, false, false, true, true, false])] 600 ?_
  repeat' (first | (refine mj_ite (fun h => ?_) (fun h => ?_) <;> first | (exfalso; omega) | skip) | refine mj_vci (by first | omega | (simp (disch := omega) only [up_ne, up_at, q_up_at, q_up_ne, cp_ne]; omega)) ?_)
  refine c_M_turnOf hL ha xb yb (fun t1 u1 _ => ?_)
  refine c_M_signOf (fun s1 v1 => ?_)
  repeat' (first | (refine mj_ite (fun h => ?_) (fun h => ?_) <;> first | (exfalso; omega) | skip) | refine mj_vci (by first | omega | (simp (disch := omega) only [up_ne, up_at, q_up_at, q_up_ne, cp_ne]; omega)) ?_)
  refine c_M_turnOf hL ha xb1 yb1 (fun t2 u2 _ => ?_)
  refine c_M_signOf (fun s2 v2 => ?_)
  repeat' (first | (refine mj_ite (fun h => ?_) (fun h => ?_) <;> first | (exfalso; omega) | skip) | refine mj_vci (by first | omega | (simp (disch := omega) only [up_ne, up_at, q_up_at, q_up_ne, cp_ne]; omega)) ?_)
  refine c_M_turnOf hL hb xa ya (fun t3 u3 _ => ?_)
  refine c_M_signOf (fun s3 v3 => ?_)
  repeat' (first | (refine mj_ite (fun h => ?_) (fun h => ?_) <;> first | (exfalso; omega) | skip) | refine mj_vci (by first | omega | (simp (disch := omega) only [up_ne, up_at, q_up_at, q_up_ne, cp_ne]; omega)) ?_)
  refine c_M_turnOf hL hb xa1 ya1 (fun t4 u4 _ => ?_)
  refine c_M_signOf (fun s4 v4 => ?_)
  have r1 := q_sg_in t1
  have r2 := q_sg_in t2
  have r3 := q_sg_in t3
  have r4 := q_sg_in t4
  rw [← v1] at r1
  rw [← v2] at r2
  rw [← v3] at r3
  rw [← v4] at r4
  have m1 := q_mulb (a := s1) (b := s2) (A := 1) (B := 1) (by omega) (by omega)
  have m2 := q_mulb (a := s3) (b := s4) (A := 1) (B := 1) (by omega) (by omega)
  have p1 : q_pt (σ (g + 16)) (σ (g + 17)) a b = decide (s1 * s2 < 0) := by
    rw [v1, v2, u1, u2]; rfl
  have p2 : q_pt (σ (g + 16)) (σ (g + 17)) b a = decide (s3 * s4 < 0) := by
    rw [v3, v4, u3, u4]; rfl
  rw [p1, p2] at B
  clear p1 p2 v1 v2 v3 v4 u1 u2 u3 u4
  repeat' (first | (refine mj_ite (fun h => ?_) (fun h => ?_) <;> first | (exfalso; omega) | skip) | refine mj_vci (by first | omega | (simp (disch := omega) only [up_ne, up_at, q_up_at, q_up_ne, cp_ne]; omega)) ?_)
  · exact B 1 (Or.inl ⟨rfl, by simp [*]⟩)
  · exact B 0 (Or.inr ⟨rfl, by simp [*]⟩)
  · exact B 0 (Or.inr ⟨rfl, by simp [*]⟩)
theorem l_M_pinI (hL : q_gL σ g) (hi : 0 ≤ i ∧ i < σ g 28) (hno : (-6 = q_pinI (σ (g + 16)) (σ (g + 17)) i (i + 1) (σ g 28 - (i + 1)).toNat) → mj_Wm i_M_pinched (n + 5) K 2 [some (rV 12 0 g), some (iV (i + 1)), none, none] [] σ) :
    ∀ (k : Nat) (j : Int), i + 1 ≤ j → j + k = σ g 28 → q_pinI (σ (g + 16)) (σ (g + 17)) i j k = q_pinI (σ (g + 16)) (σ (g + 17)) i (i + 1) (σ g 28 - (i + 1)).toNat → (∀ r, r ≠ -6 → r = q_pinI (σ (g + 16)) (σ (g + 17)) i (i + 1) (σ g 28 - (i + 1)).toNat → K (some (iV r)) σ) → mj_Wm i_M_pinched (n + 5) K 14 [some (rV 12 0 g), some (iV i), some (iV j), none] [] σ := by
  have hc := hL.1
  intro k
  induction k with
  | zero =>
    intro j h0 h1 he hK
    refine r_M_pinched [(14, [true, true, true, false]), (2, [true, true, false, false])] 600 ?_
    repeat' (first | (refine mj_ite (fun h => ?_) (fun h => ?_) <;> first | (exfalso; omega) | skip) | refine mj_vci (by first | omega | (simp (disch := omega) only [up_ne, up_at, q_up_at, q_up_ne, cp_ne]; omega)) ?_)
    exact hno he
  | succ k ih =>
    intro j h0 h1 he hK
    rw [q_pinI_succ] at he
    unfold q_mt at he
    refine r_M_pinched [(14, [true, true, true, false]), (2, [true, true, false, false])] 600 ?_
    repeat' (first | (refine mj_ite (fun h => ?_) (fun h => ?_) <;> first | (exfalso; omega) | skip) | refine mj_vci (by first | omega | (simp (disch := omega) only [up_ne, up_at, q_up_at, q_up_ne, cp_ne]; omega)) ?_)
    · rw [if_pos h] at he
      refine c_M_goesBack hL (by omega) (fun e1 => ?_) (fun e1 => ?_)
      · repeat' (first | (refine mj_ite (fun h => ?_) (fun h => ?_) <;> first | (exfalso; omega) | skip) | refine mj_vci (by first | omega | (simp (disch := omega) only [up_ne, up_at, q_up_at, q_up_ne, cp_ne]; omega)) ?_)
        rw [if_pos e1] at he
        exact hK _ (by omega) he
      · repeat' (first | (refine mj_ite (fun h => ?_) (fun h => ?_) <;> first | (exfalso; omega) | skip) | refine mj_vci (by first | omega | (simp (disch := omega) only [up_ne, up_at, q_up_at, q_up_ne, cp_ne]; omega)) ?_)
        rw [if_neg (by rw [e1]; decide)] at he
        exact ih (j + 1) (by omega) (by omega) he hK
    · rw [if_neg h] at he
      refine c_M_haveCommon hL (by omega) (by omega) (fun e1 => ?_) (fun e1 => ?_)
      · repeat' (first | (refine mj_ite (fun h => ?_) (fun h => ?_) <;> first | (exfalso; omega) | skip) | refine mj_vci (by first | omega | (simp (disch := omega) only [up_ne, up_at, q_up_at, q_up_ne, cp_ne]; omega)) ?_)
        rw [if_pos e1] at he
        exact hK _ (by omega) he
      · repeat' (first | (refine mj_ite (fun h => ?_) (fun h => ?_) <;> first | (exfalso; omega) | skip) | refine mj_vci (by first | omega | (simp (disch := omega) only [up_ne, up_at, q_up_at, q_up_ne, cp_ne]; omega)) ?_)
        rw [if_neg (by rw [e1]; decide)] at he
        exact ih (j + 1) (by omega) (by omega) he hK
theorem l_M_pinO (hL : q_gL σ g) : ∀ (k : Nat) (i : Int), 0 ≤ i → i + k + 1 = σ g 28 → (∀ r, r = q_pinO (σ (g + 16)) (σ (g + 17)) (σ g 28) i k → K (some (iV r)) σ) → mj_Wm i_M_pinched (n + 5) K 2 [some (rV 12 0 g), some (iV i), none, none] [] σ := by
  have hc := hL.1
  intro k
  induction k with
  | zero =>
    intro i h0 h1 hK
    have m14 : mj_Wm i_M_pinched (n + 5) K 61 [some (rV 12 0 g), some (iV i), none, none] [] σ := by
      refine r_M_pinched [] 600 ?_
      repeat' (first | (refine mj_ite (fun h => ?_) (fun h => ?_) <;> first | (exfalso; omega) | skip) | refine mj_vci (by first | omega | (simp (disch := omega) only [up_ne, up_at, q_up_at, q_up_ne, cp_ne]; omega)) ?_)
      exact hK _ rfl
    refine r_M_pinched [(61, [true, true, false, false])] 600 ?_
    repeat' (first | (refine mj_ite (fun h => ?_) (fun h => ?_) <;> first | (exfalso; omega) | skip) | refine mj_vci (by first | omega | (simp (disch := omega) only [up_ne, up_at, q_up_at, q_up_ne, cp_ne]; omega)) ?_)
    exact m14
  | succ k ih =>
    intro i h0 h1 hK
    unfold q_pinO at hK
    refine r_M_pinched [(14, [true, true, true, false]), (2, [true, true, false, false])] 600 ?_
    repeat' (first | (refine mj_ite (fun h => ?_) (fun h => ?_) <;> first | (exfalso; omega) | skip) | refine mj_vci (by first | omega | (simp (disch := omega) only [up_ne, up_at, q_up_at, q_up_ne, cp_ne]; omega)) ?_)
    refine l_M_pinI hL (by omega) (fun h6 => ih (i + 1) (by omega) (by omega) (fun r hr => hK r ?_)) (σ g 28 - (i + 1)).toNat (i + 1) (by omega) (by omega) rfl (fun r h6 hr => hK r ?_)
    · rw [← h6, if_pos rfl]; exact hr
    · rw [← hr, if_neg h6]
theorem c_M_pinched (hL : q_gL σ g) (hm : 1 ≤ σ g 28) (hK : ∀ r, r = q_pinch (σ (g + 16)) (σ (g + 17)) (σ g 28) → K (some (iV r)) σ) : mj_Ok (n + 5) i_M_pinched [rV 12 0 g] σ K := by
  have hc := hL.1
  refine mj_enter (by decide) (Nat.le_of_ble_eq_true rfl) (fun hg => ?_)
  refine r_M_pinched [(14, [true, true, true, false]), (2, [true, true, false, false])] 600 ?_
  exact l_M_pinO hL (σ g 28 - 1).toNat 0 (by omega) (by omega) hK
end M3
