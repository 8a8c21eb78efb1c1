/-! where the line meets itself, of the class -/
section B4
variable {n b : Nat} {σ : mj_W} {K : Option mj_V → mj_W → Prop} {x y p w i j c : Int}
theorem c_Border_turnTo (hB : q_gB σ b) (hi : 0 ≤ i ∧ i ≤ 50) (hK : ∀ r, r = q_tn (q_X σ b) (q_Y σ b) i c → K (some (iV r)) σ) : mj_Ok (n + 2) i_Border_turnTo [rV 1 0 b, iV i, iV c] σ K := by
  have x0 := hB.X i
  have x1 := hB.X (i + 1)
  have x2 := hB.X c
  have y0 := hB.Y i
  have y1 := hB.Y (i + 1)
  have y2 := hB.Y c
  have m1 := q_mulb (a := (q_cx (σ b 4) (σ (b + 4)) (σ (b + 1)) (i + 1)) - (q_cx (σ b 4) (σ (b + 4)) (σ (b + 1)) (i))) (b := (q_cy (σ b 4) (σ b 5) (σ b 6) (σ (b + 4)) (σ (b + 2)) (c)) - (q_cy (σ b 4) (σ b 5) (σ b 6) (σ (b + 4)) (σ (b + 2)) (i))) (A := 42) (B := 40) (by omega) (by omega)
  have m2 := q_mulb (a := (q_cy (σ b 4) (σ b 5) (σ b 6) (σ (b + 4)) (σ (b + 2)) (i + 1)) - (q_cy (σ b 4) (σ b 5) (σ b 6) (σ (b + 4)) (σ (b + 2)) (i))) (b := (q_cx (σ b 4) (σ (b + 4)) (σ (b + 1)) (c)) - (q_cx (σ b 4) (σ (b + 4)) (σ (b + 1)) (i))) (A := 40) (B := 42) (by omega) (by omega)
  refine mj_enter (by decide) (Nat.le_of_ble_eq_true rfl) (fun hg => ?_)
  refine r_Border_turnTo [] 600 ?_
  refine c_Border_cornerX hB.1 hB.2.1 ?_
  refine c_Border_cornerY hB.1 hB.2.1 ?_
  repeat' (first | (refine mj_ite (fun h => ?_) (fun h => ?_) <;> first | (exfalso; omega) | skip) | refine mj_vci (by first | omega | (simp (disch := omega) only [up_ne, up_at, q_up_at, q_up_ne, cp_ne]; omega)) ?_)
  refine c_Border_cornerX hB.1 hB.2.1 ?_
  repeat' (first | (refine mj_ite (fun h => ?_) (fun h => ?_) <;> first | (exfalso; omega) | skip) | refine mj_vci (by first | omega | (simp (disch := omega) only [up_ne, up_at, q_up_at, q_up_ne, cp_ne]; omega)) ?_)
  refine c_Border_cornerY hB.1 hB.2.1 ?_
  repeat' (first | (refine mj_ite (fun h => ?_) (fun h => ?_) <;> first | (exfalso; omega) | skip) | refine mj_vci (by first | omega | (simp (disch := omega) only [up_ne, up_at, q_up_at, q_up_ne, cp_ne]; omega)) ?_)
  refine c_Border_cornerY hB.1 hB.2.1 ?_
  repeat' (first | (refine mj_ite (fun h => ?_) (fun h => ?_) <;> first | (exfalso; omega) | skip) | refine mj_vci (by first | omega | (simp (disch := omega) only [up_ne, up_at, q_up_at, q_up_ne, cp_ne]; omega)) ?_)
  refine c_Border_cornerX hB.1 hB.2.1 ?_
  repeat' (first | (refine mj_ite (fun h => ?_) (fun h => ?_) <;> first | (exfalso; omega) | skip) | refine mj_vci (by first | omega | (simp (disch := omega) only [up_ne, up_at, q_up_at, q_up_ne, cp_ne]; omega)) ?_)
  exact c_J_signum (by omega) hK
theorem c_Border_parts (hB : q_gB σ b) (hi : 0 ≤ i ∧ i ≤ 50) (hj : 0 ≤ j ∧ j ≤ 50) (h1 : q_pt (q_X σ b) (q_Y σ b) i j = true → K (some (iV 1)) σ) (h0 : q_pt (q_X σ b) (q_Y σ b) i j = false → K (some (iV 0)) σ) : mj_Ok (n + 3) i_Border_parts [rV 1 0 b, iV i, iV j] σ K := by
  refine mj_enter (by decide) (Nat.le_of_ble_eq_true rfl) (fun hg => ?_)
  refine r_Border_parts [] 600 ?_
  refine c_Border_turnTo hB hi (fun r1 e1 => ?_)
  repeat' (first | (refine mj_ite (fun h => ?_) (fun h => ?_) <;> first | (exfalso; omega) | skip) | refine mj_vci (by first | omega | (simp (disch := omega) only [up_ne, up_at, q_up_at, q_up_ne, cp_ne]; omega)) ?_)
  refine c_Border_turnTo hB hi (fun r2 e2 => ?_)
  have s1 := q_sg_in (q_turn (q_X σ b i) (q_Y σ b i) (q_X σ b (i + 1)) (q_Y σ b (i + 1)) (q_X σ b j) (q_Y σ b j))
  have s2 := q_sg_in (q_turn (q_X σ b i) (q_Y σ b i) (q_X σ b (i + 1)) (q_Y σ b (i + 1)) (q_X σ b (j + 1)) (q_Y σ b (j + 1)))
  have s1 : -1 ≤ r1 ∧ r1 ≤ 1 := by rw [e1]; exact s1
  have s2 : -1 ≤ r2 ∧ r2 ≤ 1 := by rw [e2]; exact s2
  have m1 := q_mulb (a := r1) (b := r2) (A := 1) (B := 1) (by omega) (by omega)
  unfold q_pt at h1 h0
  rw [← e1, ← e2] at h1 h0
  repeat' (first | (refine mj_ite (fun h => ?_) (fun h => ?_) <;> first | (exfalso; omega) | skip) | refine mj_vci (by first | omega | (simp (disch := omega) only [up_ne, up_at, q_up_at, q_up_ne, cp_ne]; omega)) ?_)
  · exact h1 (decide_eq_true (by assumption))
  · exact h0 (decide_eq_false (by assumption))
theorem c_Border_isCornerOn (hB : q_gB σ b) (hi : 0 ≤ i ∧ i ≤ 50) (h1 : q_on (q_X σ b) (q_Y σ b) i c = true → K (some (iV 1)) σ) (h0 : q_on (q_X σ b) (q_Y σ b) i c = false → K (some (iV 0)) σ) : mj_Ok (n + 3) i_Border_isCornerOn [rV 1 0 b, iV i, iV c] σ K := by
  refine mj_enter (by decide) (Nat.le_of_ble_eq_true rfl) (fun hg => ?_)
  refine r_Border_isCornerOn [] 600 ?_
  refine c_Border_cornerX hB.1 hB.2.1 ?_
  refine c_Border_cornerY hB.1 hB.2.1 ?_
  repeat' (first | (refine mj_ite (fun h => ?_) (fun h => ?_) <;> first | (exfalso; omega) | skip) | refine mj_vci (by first | omega | (simp (disch := omega) only [up_ne, up_at, q_up_at, q_up_ne, cp_ne]; omega)) ?_)
  refine c_Border_sideAmong hB (hB.X c) (hB.Y c) (by omega) (by omega) ?_
  have e : (i + 1 - i).toNat = 1 := by omega
  rw [e]
  unfold q_sideF q_sideF
  unfold q_on at h1 h0
  have hp := q_pc_in (q_cx (σ b 4) (σ (b + 4)) (σ (b + 1)) (i)) (q_cy (σ b 4) (σ b 5) (σ b 6) (σ (b + 4)) (σ (b + 2)) (i)) (q_cx (σ b 4) (σ (b + 4)) (σ (b + 1)) (i + 1)) (q_cy (σ b 4) (σ b 5) (σ b 6) (σ (b + 4)) (σ (b + 2)) (i + 1)) (q_cx (σ b 4) (σ (b + 4)) (σ (b + 1)) (c)) (q_cy (σ b 4) (σ b 5) (σ b 6) (σ (b + 4)) (σ (b + 2)) (c))
  generalize hq : q_pc (q_cx (σ b 4) (σ (b + 4)) (σ (b + 1)) (i)) (q_cy (σ b 4) (σ b 5) (σ b 6) (σ (b + 4)) (σ (b + 2)) (i)) (q_cx (σ b 4) (σ (b + 4)) (σ (b + 1)) (i + 1)) (q_cy (σ b 4) (σ b 5) (σ b 6) (σ (b + 4)) (σ (b + 2)) (i + 1)) (q_cx (σ b 4) (σ (b + 4)) (σ (b + 1)) (c)) (q_cy (σ b 4) (σ b 5) (σ b 6) (σ (b + 4)) (σ (b + 2)) (c)) = r at hp ⊢
  have hq' : q_pc (q_X σ b i) (q_Y σ b i) (q_X σ b (i + 1)) (q_Y σ b (i + 1)) (q_X σ b c) (q_Y σ b c) = r := hq
  rw [hq'] at h1 h0
  by_cases h2 : r = 2
  · rw [if_pos h2]
    repeat' (first | (refine mj_ite (fun h => ?_) (fun h => ?_) <;> first | (exfalso; omega) | skip) | refine mj_vci (by first | omega | (simp (disch := omega) only [up_ne, up_at, q_up_at, q_up_ne, cp_ne]; omega)) ?_)
    exact h1 (decide_eq_true h2)
  · rw [if_neg h2]
    repeat' (first | (refine mj_ite (fun h => ?_) (fun h => ?_) <;> first | (exfalso; omega) | skip) | refine mj_vci (by first | omega | (simp (disch := omega) only [up_ne, up_at, q_up_at, q_up_ne, cp_ne]; omega)) ?_)
    exact h0 (decide_eq_false h2)
theorem c_Border_meet (hB : q_gB σ b) (hi : 0 ≤ i ∧ i ≤ 50) (hj : 0 ≤ j ∧ j ≤ 50) (h1 : q_cm (q_X σ b) (q_Y σ b) i j = true → K (some (iV 1)) σ) (h0 : q_cm (q_X σ b) (q_Y σ b) i j = false → K (some (iV 0)) σ) : mj_Ok (n + 4) i_Border_meet [rV 1 0 b, iV i, iV j] σ K := by
  unfold q_cm at h1 h0
  refine mj_enter (by decide) (Nat.le_of_ble_eq_true rfl) (fun hg => ?_)
  refine r_Border_meet [] 600 ?_
  refine c_Border_isCornerOn hB hi (fun e1 => ?_) (fun e1 => ?_)
  · repeat' (first | (refine mj_ite (fun h => ?_) (fun h => ?_) <;> first | (exfalso; omega) | skip) | refine mj_vci (by first | omega | (simp (disch := omega) only [up_ne, up_at, q_up_at, q_up_ne, cp_ne]; omega)) ?_)
    exact h1 (by simp [e1])
  repeat' (first | (refine mj_ite (fun h => ?_) (fun h => ?_) <;> first | (exfalso; omega) | skip) | refine mj_vci (by first | omega | (simp (disch := omega) only [up_ne, up_at, q_up_at, q_up_ne, cp_ne]; omega)) ?_)
  refine c_Border_isCornerOn hB hi (fun e2 => ?_) (fun e2 => ?_)
  · repeat' (first | (refine mj_ite (fun h => ?_) (fun h => ?_) <;> first | (exfalso; omega) | skip) | refine mj_vci (by first | omega | (simp (disch := omega) only [up_ne, up_at, q_up_at, q_up_ne, cp_ne]; omega)) ?_)
    exact h1 (by simp [e2])
  repeat' (first | (refine mj_ite (fun h => ?_) (fun h => ?_) <;> first | (exfalso; omega) | skip) | refine mj_vci (by first | omega | (simp (disch := omega) only [up_ne, up_at, q_up_at, q_up_ne, cp_ne]; omega)) ?_)
  refine c_Border_isCornerOn hB hj (fun e3 => ?_) (fun e3 => ?_)
  · repeat' (first | (refine mj_ite (fun h => ?_) (fun h => ?_) <;> first | (exfalso; omega) | skip) | refine mj_vci (by first | omega | (simp (disch := omega) only [up_ne, up_at, q_up_at, q_up_ne, cp_ne]; omega)) ?_)
    exact h1 (by simp [e3])
  repeat' (first | (refine mj_ite (fun h => ?_) (fun h => ?_) <;> first | (exfalso; omega) | skip) | refine mj_vci (by first | omega | (simp (disch := omega) only [up_ne, up_at, q_up_at, q_up_ne, cp_ne]; omega)) ?_)
  refine c_Border_isCornerOn hB hj (fun e4 => ?_) (fun e4 => ?_)
  · repeat' (first | (refine mj_ite (fun h => ?_) (fun h => ?_) <;> first | (exfalso; omega) | skip) | refine mj_vci (by first | omega | (simp (disch := omega) only [up_ne, up_at, q_up_at, q_up_ne, cp_ne]; omega)) ?_)
    exact h1 (by simp [e4])
  repeat' (first | (refine mj_ite (fun h => ?_) (fun h => ?_) <;> first | (exfalso; omega) | skip) | refine mj_vci (by first | omega | (simp (disch := omega) only [up_ne, up_at, q_up_at, q_up_ne, cp_ne]; omega)) ?_)
  refine c_Border_parts hB hi hj (fun e5 => ?_) (fun e5 => ?_)
  · repeat' (first | (refine mj_ite (fun h => ?_) (fun h => ?_) <;> first | (exfalso; omega) | skip) | refine mj_vci (by first | omega | (simp (disch := omega) only [up_ne, up_at, q_up_at, q_up_ne, cp_ne]; omega)) ?_)
    refine c_Border_parts hB hj hi (fun e6 => ?_) (fun e6 => ?_)
    · repeat' (first | (refine mj_ite (fun h => ?_) (fun h => ?_) <;> first | (exfalso; omega) | skip) | refine mj_vci (by first | omega | (simp (disch := omega) only [up_ne, up_at, q_up_at, q_up_ne, cp_ne]; omega)) ?_)
      exact h1 (by simp [e5, e6])
    · repeat' (first | (refine mj_ite (fun h => ?_) (fun h => ?_) <;> first | (exfalso; omega) | skip) | refine mj_vci (by first | omega | (simp (disch := omega) only [up_ne, up_at, q_up_at, q_up_ne, cp_ne]; omega)) ?_)
      exact h0 (by simp [e1, e2, e3, e4, e6])
  · repeat' (first | (refine mj_ite (fun h => ?_) (fun h => ?_) <;> first | (exfalso; omega) | skip) | refine mj_vci (by first | omega | (simp (disch := omega) only [up_ne, up_at, q_up_at, q_up_ne, cp_ne]; omega)) ?_)
    exact h0 (by simp [e1, e2, e3, e4, e5])
theorem c_Border_foldsBack (hB : q_gB σ b) (hi : 0 ≤ i ∧ i ≤ 50) (h1 : q_fb (q_X σ b) (q_Y σ b) i = true → K (some (iV 1)) σ) (h0 : q_fb (q_X σ b) (q_Y σ b) i = false → K (some (iV 0)) σ) : mj_Ok (n + 2) i_Border_foldsBack [rV 1 0 b, iV (i + 1)] σ K := by
  have e1 : i + 1 - 1 = i := by omega
  have e2 : i + 1 + 1 = i + 2 := by omega
  have x0 := hB.X i
  have x1 := hB.X (i + 1)
  have x2 := hB.X (i + 2)
  have y0 := hB.Y i
  have y1 := hB.Y (i + 1)
  have y2 := hB.Y (i + 2)
  have m1 := q_mulb (a := (q_cx (σ b 4) (σ (b + 4)) (σ (b + 1)) (i)) - (q_cx (σ b 4) (σ (b + 4)) (σ (b + 1)) (i + 1))) (b := (q_cy (σ b 4) (σ b 5) (σ b 6) (σ (b + 4)) (σ (b + 2)) (i + 2)) - (q_cy (σ b 4) (σ b 5) (σ b 6) (σ (b + 4)) (σ (b + 2)) (i + 1))) (A := 42) (B := 40) (by omega) (by omega)
  have m2 := q_mulb (a := (q_cy (σ b 4) (σ b 5) (σ b 6) (σ (b + 4)) (σ (b + 2)) (i)) - (q_cy (σ b 4) (σ b 5) (σ b 6) (σ (b + 4)) (σ (b + 2)) (i + 1))) (b := (q_cx (σ b 4) (σ (b + 4)) (σ (b + 1)) (i + 2)) - (q_cx (σ b 4) (σ (b + 4)) (σ (b + 1)) (i + 1))) (A := 40) (B := 42) (by omega) (by omega)
  have m3 := q_mulb (a := (q_cx (σ b 4) (σ (b + 4)) (σ (b + 1)) (i)) - (q_cx (σ b 4) (σ (b + 4)) (σ (b + 1)) (i + 1))) (b := (q_cx (σ b 4) (σ (b + 4)) (σ (b + 1)) (i + 2)) - (q_cx (σ b 4) (σ (b + 4)) (σ (b + 1)) (i + 1))) (A := 42) (B := 42) (by omega) (by omega)
  have m4 := q_mulb (a := (q_cy (σ b 4) (σ b 5) (σ b 6) (σ (b + 4)) (σ (b + 2)) (i)) - (q_cy (σ b 4) (σ b 5) (σ b 6) (σ (b + 4)) (σ (b + 2)) (i + 1))) (b := (q_cy (σ b 4) (σ b 5) (σ b 6) (σ (b + 4)) (σ (b + 2)) (i + 2)) - (q_cy (σ b 4) (σ b 5) (σ b 6) (σ (b + 4)) (σ (b + 2)) (i + 1))) (A := 40) (B := 40) (by omega) (by omega)
  unfold q_fb at h1 h0
  refine mj_enter (by decide) (Nat.le_of_ble_eq_true rfl) (fun hg => ?_)
  refine r_Border_foldsBack [] 600 ?_
  repeat' (first | (refine mj_ite (fun h => ?_) (fun h => ?_) <;> first | (exfalso; omega) | skip) | refine mj_vci (by first | omega | (simp (disch := omega) only [up_ne, up_at, q_up_at, q_up_ne, cp_ne]; omega)) ?_)
  refine c_Border_cornerX hB.1 hB.2.1 ?_
  rw [e1]
  refine c_Border_cornerX hB.1 hB.2.1 ?_
  repeat' (first | (refine mj_ite (fun h => ?_) (fun h => ?_) <;> first | (exfalso; omega) | skip) | refine mj_vci (by first | omega | (simp (disch := omega) only [up_ne, up_at, q_up_at, q_up_ne, cp_ne]; omega)) ?_)
  refine c_Border_cornerY hB.1 hB.2.1 ?_
  rw [e1]
  refine c_Border_cornerY hB.1 hB.2.1 ?_
  repeat' (first | (refine mj_ite (fun h => ?_) (fun h => ?_) <;> first | (exfalso; omega) | skip) | refine mj_vci (by first | omega | (simp (disch := omega) only [up_ne, up_at, q_up_at, q_up_ne, cp_ne]; omega)) ?_)
  refine c_Border_cornerX hB.1 hB.2.1 ?_
  rw [e2]
  refine c_Border_cornerX hB.1 hB.2.1 ?_
  repeat' (first | (refine mj_ite (fun h => ?_) (fun h => ?_) <;> first | (exfalso; omega) | skip) | refine mj_vci (by first | omega | (simp (disch := omega) only [up_ne, up_at, q_up_at, q_up_ne, cp_ne]; omega)) ?_)
  refine c_Border_cornerY hB.1 hB.2.1 ?_
  rw [e2]
  refine c_Border_cornerY hB.1 hB.2.1 ?_
  repeat' (first | (refine mj_ite (fun h => ?_) (fun h => ?_) <;> first | (exfalso; omega) | skip) | refine mj_vci (by first | omega | (simp (disch := omega) only [up_ne, up_at, q_up_at, q_up_ne, cp_ne]; omega)) ?_)
  · exact h1 (decide_eq_true ⟨by assumption, by assumption⟩)
  · exact h0 (decide_eq_false (fun q => absurd q.2 (by assumption)))
  · exact h0 (decide_eq_false (fun q => absurd q.1 (by assumption)))
theorem q_pinI_succ (X Y : Int → Int) (a b9 : Int) (k : Nat) : q_pinI X Y a b9 (k + 1) = if q_mt X Y a b9 = true then 10 * a + b9 else q_pinI X Y a (b9 + 1) k := rfl
theorem l_Border_pinI (hB : q_gB σ b) (hi : 0 ≤ i ∧ i < σ b 4) (hno : (-6 = q_pinI (q_X σ b) (q_Y σ b) i (i + 1) (σ b 4 + 1 - (i + 1)).toNat) → mj_Wm i_Border_firstPinch (n + 5) K 2 [some (rV 1 0 b), some (iV (i + 1)), none] [] σ) :
    ∀ (k : Nat) (j : Int), i + 2 ≤ j → j + k = σ b 4 + 1 → q_pinI (q_X σ b) (q_Y σ b) i j k = q_pinI (q_X σ b) (q_Y σ b) i (i + 1) (σ b 4 + 1 - (i + 1)).toNat → (∀ r, r ≠ -6 → r = q_pinI (q_X σ b) (q_Y σ b) i (i + 1) (σ b 4 + 1 - (i + 1)).toNat → K (some (iV r)) σ) → mj_Wm i_Border_firstPinch (n + 5) K 33 [some (rV 1 0 b), some (iV i), some (iV j)] [] σ := by
  have hc := hB.1
  intro k
  induction k with
  | zero =>
    intro j h0 h1 he hK
    refine r_Border_firstPinch [(33, [true, true, true]), (2, [true, true, false])] 600 ?_
    repeat' (first | (refine mj_ite (fun h => ?_) (fun h => ?_) <;> first | (exfalso; omega) | skip) | refine mj_vci (by first | omega | (simp (disch := omega) only [up_ne, up_at, q_up_at, q_up_ne, cp_ne]; omega)) ?_)
    exact hno he
  | succ k ih =>
    intro j h0 h1 he hK
    rw [q_pinI_succ] at he
    have e9 : q_mt (q_X σ b) (q_Y σ b) i j = q_cm (q_X σ b) (q_Y σ b) i j := by unfold q_mt; rw [if_neg (by omega)]
    rw [e9] at he
    refine r_Border_firstPinch [(33, [true, true, true]), (2, [true, true, false])] 600 ?_
    repeat' (first | (refine mj_ite (fun h => ?_) (fun h => ?_) <;> first | (exfalso; omega) | skip) | refine mj_vci (by first | omega | (simp (disch := omega) only [up_ne, up_at, q_up_at, q_up_ne, cp_ne]; omega)) ?_)
    refine c_Border_meet hB (by omega) (by omega) (fun e1 => ?_) (fun e1 => ?_)
    · repeat' (first | (refine mj_ite (fun h => ?_) (fun h => ?_) <;> first | (exfalso; omega) | skip) | refine mj_vci (by first | omega | (simp (disch := omega) only [up_ne, up_at, q_up_at, q_up_ne, cp_ne]; omega)) ?_)
      rw [if_pos e1] at he
      exact hK _ (by omega) he
    · repeat' (first | (refine mj_ite (fun h => ?_) (fun h => ?_) <;> first | (exfalso; omega) | skip) | refine mj_vci (by first | omega | (simp (disch := omega) only [up_ne, up_at, q_up_at, q_up_ne, cp_ne]; omega)) ?_)
      rw [if_neg (by rw [e1]; decide)] at he
      exact ih (j + 1) (by omega) (by omega) he hK
theorem l_Border_pinO (hB : q_gB σ b) :
    ∀ (k : Nat) (i : Int), 0 ≤ i → i + k = σ b 4 → (∀ r, r = q_pinO (q_X σ b) (q_Y σ b) (σ b 4 + 1) i k → K (some (iV r)) σ) → mj_Wm i_Border_firstPinch (n + 5) K 2 [some (rV 1 0 b), some (iV i), none] [] σ := by
  have hc := hB.1
  intro k
  induction k with
  | zero =>
    intro i h0 h1 hK
    refine r_Border_firstPinch [(33, [true, true, true]), (2, [true, true, false])] 600 ?_
    repeat' (first | (refine mj_ite (fun h => ?_) (fun h => ?_) <;> first | (exfalso; omega) | skip) | refine mj_vci (by first | omega | (simp (disch := omega) only [up_ne, up_at, q_up_at, q_up_ne, cp_ne]; omega)) ?_)
    exact hK _ rfl
  | succ k ih =>
    intro i h0 h1 hK
    unfold q_pinO at hK
    obtain ⟨k9, hk9⟩ : ∃ k9 : Nat, (σ b 4 + 1 - (i + 1)).toNat = k9 + 1 := ⟨(σ b 4 - i - 1).toNat, by omega⟩
    have eI : q_pinI (q_X σ b) (q_Y σ b) i (i + 1) (σ b 4 + 1 - (i + 1)).toNat = if q_fb (q_X σ b) (q_Y σ b) i = true then 10 * i + (i + 1) else q_pinI (q_X σ b) (q_Y σ b) i (i + 2) k9 := by
      rw [hk9]
      conv => lhs; unfold q_pinI
      have e9 : q_mt (q_X σ b) (q_Y σ b) i (i + 1) = q_fb (q_X σ b) (q_Y σ b) i := by unfold q_mt; rw [if_pos rfl]
      rw [e9, show i + 1 + 1 = i + 2 by omega]
    refine r_Border_firstPinch [(33, [true, true, true]), (2, [true, true, false])] 600 ?_
    repeat' (first | (refine mj_ite (fun h => ?_) (fun h => ?_) <;> first | (exfalso; omega) | skip) | refine mj_vci (by first | omega | (simp (disch := omega) only [up_ne, up_at, q_up_at, q_up_ne, cp_ne]; omega)) ?_)
    refine c_Border_foldsBack hB (by omega) (fun e1 => ?_) (fun e1 => ?_)
    · repeat' (first | (refine mj_ite (fun h => ?_) (fun h => ?_) <;> first | (exfalso; omega) | skip) | refine mj_vci (by first | omega | (simp (disch := omega) only [up_ne, up_at, q_up_at, q_up_ne, cp_ne]; omega)) ?_)
      rw [if_pos e1] at eI
      refine hK _ ?_
      rw [eI, if_neg (by omega)]
      omega
    · repeat' (first | (refine mj_ite (fun h => ?_) (fun h => ?_) <;> first | (exfalso; omega) | skip) | refine mj_vci (by first | omega | (simp (disch := omega) only [up_ne, up_at, q_up_at, q_up_ne, cp_ne]; omega)) ?_)
      rw [if_neg (by rw [e1]; decide)] at eI
      refine l_Border_pinI hB (by omega) (fun h6 => ih (i + 1) (by omega) (by omega) (fun r hr => hK r ?_)) k9 (i + 2) (by omega) (by omega) eI.symm (fun r h6 hr => hK r ?_)
      · rw [← h6, if_pos rfl]; exact hr
      · rw [← hr, if_neg h6]
theorem c_Border_firstPinch (hB : q_gB σ b) (hK : ∀ r, r = q_pinch (q_X σ b) (q_Y σ b) (σ b 4 + 1) → K (some (iV r)) σ) : mj_Ok (n + 5) i_Border_firstPinch [rV 1 0 b] σ K := by
  have hc := hB.1
  refine mj_enter (by decide) (Nat.le_of_ble_eq_true rfl) (fun hg => ?_)
  refine r_Border_firstPinch [(33, [true, true, true]), (2, [true, true, false])] 600 ?_
  refine l_Border_pinO hB (σ b 4).toNat 0 (by omega) (by omega) (fun r hr => hK r ?_)
  rw [hr]
  unfold q_pinch
  rw [show σ b 4 + 1 - 1 = σ b 4 by omega]
end B4
