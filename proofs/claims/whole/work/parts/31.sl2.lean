/-! pigeons: eight persons in a row are all there are -/
theorem q_pig : ∀ (m : Nat) (f : Nat → Nat), (∀ i j, i < m + 1 → j < m + 1 → f i = f j → i = j) → (∀ i, i < m + 1 → f i < m) → False
  | 0, f, _, h => absurd (h 0 (by omega)) (by omega)
  | m + 1, f, hi, h => by
    refine q_pig m (fun i => if f i = m then f (m + 1) else f i) ?_ ?_
    · intro i j h1 h2 e
      try dsimp only at e
      by_cases a : f i = m
      · rw [if_pos a] at e
        by_cases b : f j = m
        · exact hi i j (by omega) (by omega) (by omega)
        · rw [if_neg b] at e
          have := hi (m + 1) j (by omega) (by omega) e
          omega
      · rw [if_neg a] at e
        by_cases b : f j = m
        · rw [if_pos b] at e
          have := hi i (m + 1) (by omega) (by omega) e
          omega
        · rw [if_neg b] at e
          exact hi i j (by omega) (by omega) e
    · intro i h1
      try dsimp only
      have k1 := h i (by omega)
      have k2 := h (m + 1) (by omega)
      by_cases a : f i = m
      · rw [if_pos a]
        have : f (m + 1) ≠ m := fun q => by
          have := hi i (m + 1) (by omega) (by omega) (by omega)
          omega
        omega
      · rw [if_neg a]; omega
theorem q_full {row : Int → Int} {n : Int} (hn : n ≤ 8) (hr : ∀ i, 0 ≤ row i ∧ row i ≤ 7) (hd : q_dist row n) {p : Int} (hp : 0 ≤ p ∧ p ≤ 7) (h : ∀ j, 0 ≤ j → j < n → row j ≠ p) : n ≤ 7 := by
  refine Int.not_lt.mp (fun q => ?_)
  have e : n = 8 := by omega
  subst e
  refine q_pig 7 (fun i => if row (i : Int) < p then (row (i : Int)).toNat else (row (i : Int)).toNat - 1) ?_ ?_
  · intro i j h1 h2 e
    try dsimp only at e
    have k1 := hr (i : Int)
    have k2 := hr (j : Int)
    have k3 := h (i : Int) (by omega) (by omega)
    have k4 := h (j : Int) (by omega) (by omega)
    have : row (i : Int) = row (j : Int) := by
      split at e <;> split at e <;> omega
    have := hd _ _ (by omega) (by omega) (by omega) (by omega) this
    omega
  · intro i h1
    try dsimp only
    have k1 := hr (i : Int)
    have k3 := h (i : Int) (by omega) (by omega)
    split <;> omega
section S2
variable {n : Nat} {σ : mj_W} {K : Option mj_V → mj_W → Prop} {x y p w i j c d pl : Int} {l : List q_A}
def q_stood (σ σ' : mj_W) (b : Nat) (p x y pl : Int) : Prop := σ' b = q_up (σ b) 4 (σ b 4 + 1) ∧ σ' (b + 4) = q_ins (σ (b + 4)) pl p (σ b 4) ∧ σ' (b + 1) = q_up (σ (b + 1)) p x ∧ σ' (b + 2) = q_up (σ (b + 2)) p y ∧ σ' (b + 3) = q_up (σ (b + 3)) p 0 ∧ (∀ o, o ≠ b → o ≠ b + 1 → o ≠ b + 2 → o ≠ b + 3 → o ≠ b + 4 → σ' o = σ o)
theorem c_S_stand (hC : q_C σ) (h1 : ¬ (0 ≤ p ∧ p ≤ 7) → K (some (iV (-1))) σ) (h2 : 0 ≤ p ∧ p ≤ 7 → ¬ (q_land x y ∧ 0 ≤ pl ∧ pl ≤ σ 2 4) → K (some (iV (-2))) σ) (h3 : 0 ≤ p ∧ p ≤ 7 → (q_land x y ∧ 0 ≤ pl ∧ pl ≤ σ 2 4) → (q_fnd (σ 6) (σ 2 4) p ≠ -6 ∨ ¬ q_free (σ 2 4) (σ 6) (σ 3) (σ 4) p x y) → K (some (iV (-3))) σ) (h4 : 0 ≤ p ∧ p ≤ 7 → (q_land x y ∧ 0 ≤ pl ∧ pl ≤ σ 2 4) → q_fnd (σ 6) (σ 2 4) p = -6 → q_free (σ 2 4) (σ 6) (σ 3) (σ 4) p x y → σ 2 4 ≤ 7 → ∀ σ', q_stood σ σ' 2 p x y pl → K (some (iV (σ 2 4 + 1))) σ') : mj_Ok (n + 4) i_S_stand [rV 11 0 0, iV p, iV x, iV y, iV pl] σ K := by
  obtain ⟨⟨hW, -⟩, -⟩ := hC
  have hc := hW.1
  have hcc : 0 ≤ σ 2 4 ∧ σ 2 4 ≤ 8 := hW.1
  refine mj_enter (by decide) (Nat.le_of_ble_eq_true rfl) (fun hg => ?_)
  refine r_S_stand [] 600 ?_
  refine c_S_isPerson (fun a1 a2 => ?_) (fun a0 => ?_)
  · repeat' (first | (refine mj_ite (fun h => ?_) (fun h => ?_) <;> first | (exfalso; omega) | skip) | refine mj_vci (by first | omega | (simp (disch := omega) only [up_ne, up_at, q_up_at, q_up_ne, cp_ne]; omega)) ?_)
    refine c_S_isLand (fun b1 b2 b3 b4 => ?_) (fun b0 => ?_)
    · by_cases e1 : 0 ≤ pl ∧ pl ≤ σ 2 4
      · have hin : q_land x y ∧ 0 ≤ pl ∧ pl ≤ σ 2 4 := ⟨⟨b1, b2, b3, b4⟩, e1⟩
        repeat' (first | (refine mj_ite (fun h => ?_) (fun h => ?_) <;> first | (exfalso; omega) | (exfalso; simp only [Nat.zero_add, Nat.reduceAdd] at *; omega) | skip) | refine mj_vci (by first | omega | (simp only [Nat.zero_add, Nat.reduceAdd] at *; omega) | (simp (disch := omega) only [up_ne, up_at, q_up_at, q_up_ne, cp_ne]; omega)) ?_)
        refine c_Border_holds (b := 2) hcc (fun c1 c2 c3 => ?_) (fun c1 c2 => ?_)
        · repeat' (first | (refine mj_ite (fun h => ?_) (fun h => ?_) <;> first | (exfalso; omega) | skip) | refine mj_vci (by first | omega | (simp (disch := omega) only [up_ne, up_at, q_up_at, q_up_ne, cp_ne]; omega)) ?_)
          exact h3 ⟨a1, a2⟩ hin (Or.inl (by show q_fnd (σ (2 + 4)) (σ 2 4) p ≠ -6; omega))
        · repeat' (first | (refine mj_ite (fun h => ?_) (fun h => ?_) <;> first | (exfalso; omega) | skip) | refine mj_vci (by first | omega | (simp (disch := omega) only [up_ne, up_at, q_up_at, q_up_ne, cp_ne]; omega)) ?_)
          refine c_Border_isTaken (b := 2) hcc hW.2.1 (fun j d1 d2 d3 d4 d5 => ?_) (fun d0 => ?_)
          · repeat' (first | (refine mj_ite (fun h => ?_) (fun h => ?_) <;> first | (exfalso; omega) | skip) | refine mj_vci (by first | omega | (simp (disch := omega) only [up_ne, up_at, q_up_at, q_up_ne, cp_ne]; omega)) ?_)
            exact h3 ⟨a1, a2⟩ hin (Or.inr (fun q => q j d1 d2 d3 d4 d5))
          · have hn7 := q_full hcc.2 hW.2.1 hW.2.2.2.2.2.1 ⟨a1, a2⟩ c2
            have hn7 : σ 2 4 ≤ 7 := hn7
            repeat' (first | (refine mj_ite (fun h => ?_) (fun h => ?_) <;> first | (exfalso; omega) | skip) | refine mj_vci (by first | omega | (simp (disch := omega) only [up_ne, up_at, q_up_at, q_up_ne, cp_ne]; omega)) ?_)
            refine c_Border_enter (b := 2) ⟨hcc.1, hn7⟩ ⟨a1, a2⟩ e1 (fun σ' s1 s2 s3 s4 s5 s6 => ?_)
            have key := h4 ⟨a1, a2⟩ hin c1 d0 hn7 σ' ⟨s1, s2, s3, s4, s5, s6⟩
            have : σ' 2 4 = σ 2 4 + 1 := by rw [s1, q_up_at]
            rw [← this] at key
            exact key
      · repeat' (first | (refine mj_ite (fun h => ?_) (fun h => ?_) <;> first | (exfalso; omega) | (exfalso; simp only [Nat.zero_add, Nat.reduceAdd] at *; omega) | skip) | refine mj_vci (by first | omega | (simp only [Nat.zero_add, Nat.reduceAdd] at *; omega) | (simp (disch := omega) only [up_ne, up_at, q_up_at, q_up_ne, cp_ne]; omega)) ?_)
        all_goals exact h2 ⟨a1, a2⟩ (fun q => e1 q.2)
    · repeat' (first | (refine mj_ite (fun h => ?_) (fun h => ?_) <;> first | (exfalso; omega) | skip) | refine mj_vci (by first | omega | (simp (disch := omega) only [up_ne, up_at, q_up_at, q_up_ne, cp_ne]; omega)) ?_)
      exact h2 ⟨a1, a2⟩ (fun q => b0 q.1)
  · repeat' (first | (refine mj_ite (fun h => ?_) (fun h => ?_) <;> first | (exfalso; omega) | skip) | refine mj_vci (by first | omega | (simp (disch := omega) only [up_ne, up_at, q_up_at, q_up_ne, cp_ne]; omega)) ?_)
    exact h1 a0
theorem c_S_leave (hC : q_C σ) (h1 : q_fnd (σ 6) (σ 2 4) p = -6 → K (some (iV (-1))) σ) (h2 : q_fnd (σ 6) (σ 2 4) p ≠ -6 → ∀ σ', σ' 2 = q_up (σ 2) 4 (σ 2 4 - 1) → σ' 6 = q_del (σ 6) (q_fnd (σ 6) (σ 2 4) p) (σ 2 4) → (∀ o, o ≠ 2 → o ≠ 6 → σ' o = σ o) → K (some (iV (σ 2 4 - 1))) σ') : mj_Ok (n + 4) i_S_leave [rV 11 0 0, iV p] σ K := by
  obtain ⟨⟨hW, -⟩, -⟩ := hC
  have hcc : 0 ≤ σ 2 4 ∧ σ 2 4 ≤ 8 := hW.1
  refine mj_enter (by decide) (Nat.le_of_ble_eq_true rfl) (fun hg => ?_)
  refine r_S_leave [] 600 ?_
  refine c_Border_holds (b := 2) hcc (fun c1 c2 c3 => ?_) (fun c1 c2 => ?_)
  · repeat' (first | (refine mj_ite (fun h => ?_) (fun h => ?_) <;> first | (exfalso; omega) | skip) | refine mj_vci (by first | omega | (simp (disch := omega) only [up_ne, up_at, q_up_at, q_up_ne, cp_ne]; omega)) ?_)
    refine c_Border_drop (b := 2) hcc (fun q => by omega) (fun q σ' s1 s2 s3 => ?_)
    have key := h2 q σ' s1 s2 s3
    have : σ' 2 4 = σ 2 4 - 1 := by rw [s1, q_up_at]
    rw [← this] at key
    exact key
  · repeat' (first | (refine mj_ite (fun h => ?_) (fun h => ?_) <;> first | (exfalso; omega) | skip) | refine mj_vci (by first | omega | (simp (disch := omega) only [up_ne, up_at, q_up_at, q_up_ne, cp_ne]; omega)) ?_)
    exact h1 c1
theorem c_S_set (h1 : ¬ (0 ≤ w ∧ w ≤ 2 ∧ 0 ≤ x ∧ x ≤ (if w = 2 then 99 else 40)) → K (some (iV (-2))) σ) (h2 : (0 ≤ w ∧ w ≤ 2 ∧ 0 ≤ x ∧ x ≤ (if w = 2 then 99 else 40)) → ∀ σ', σ' 2 = q_up (σ 2) (5 + w) x → (∀ o, o ≠ 2 → σ' o = σ o) → K (some (iV (σ 2 (5 + w)))) σ') : mj_Ok (n + 2) i_S_set [rV 11 0 0, iV w, iV x] σ K := by
  refine mj_enter (by decide) (Nat.le_of_ble_eq_true rfl) (fun hg => ?_)
  refine r_S_set [] 600 ?_
  by_cases e0 : w = 0
  · subst e0
    repeat' (first | (refine mj_ite (fun h => ?_) (fun h => ?_) <;> first | (exfalso; omega) | skip) | refine mj_vci (by first | omega | (simp (disch := omega) only [up_ne, up_at, q_up_at, q_up_ne, cp_ne]; omega)) ?_)
    all_goals first
      | exact h1 (by omega)
      | (refine c_Border_measure (b := 2) ?_
         repeat' (first | (refine mj_ite (fun h => ?_) (fun h => ?_) <;> first | (exfalso; omega) | skip) | refine mj_vci (by first | omega | (simp (disch := omega) only [up_ne, up_at, q_up_at, q_up_ne, cp_ne]; omega)) ?_)
         exact h2 (by omega) _ (up_at _ _ _ _) (fun o ho => up_ne _ _ _ ho))
  by_cases e1 : w = 1
  · subst e1
    repeat' (first | (refine mj_ite (fun h => ?_) (fun h => ?_) <;> first | (exfalso; omega) | skip) | refine mj_vci (by first | omega | (simp (disch := omega) only [up_ne, up_at, q_up_at, q_up_ne, cp_ne]; omega)) ?_)
    all_goals first
      | exact h1 (by omega)
      | (refine c_Border_measure (b := 2) ?_
         repeat' (first | (refine mj_ite (fun h => ?_) (fun h => ?_) <;> first | (exfalso; omega) | skip) | refine mj_vci (by first | omega | (simp (disch := omega) only [up_ne, up_at, q_up_at, q_up_ne, cp_ne]; omega)) ?_)
         exact h2 (by omega) _ (up_at _ _ _ _) (fun o ho => up_ne _ _ _ ho))
  by_cases e2 : w = 2
  · subst e2
    repeat' (first | (refine mj_ite (fun h => ?_) (fun h => ?_) <;> first | (exfalso; omega) | skip) | refine mj_vci (by first | omega | (simp (disch := omega) only [up_ne, up_at, q_up_at, q_up_ne, cp_ne]; omega)) ?_)
    all_goals first
      | exact h1 (by omega)
      | (refine c_Border_measure (b := 2) ?_
         repeat' (first | (refine mj_ite (fun h => ?_) (fun h => ?_) <;> first | (exfalso; omega) | skip) | refine mj_vci (by first | omega | (simp (disch := omega) only [up_ne, up_at, q_up_at, q_up_ne, cp_ne]; omega)) ?_)
         exact h2 (by omega) _ (up_at _ _ _ _) (fun o ho => up_ne _ _ _ ho))
  repeat' (first | (refine mj_ite (fun h => ?_) (fun h => ?_) <;> first | (exfalso; omega) | skip) | refine mj_vci (by first | omega | (simp (disch := omega) only [up_ne, up_at, q_up_at, q_up_ne, cp_ne]; omega)) ?_)
  all_goals exact h1 (by omega)
theorem c_S_village (hC : q_C σ) (h1 : ¬ (0 ≤ i ∧ i ≤ 7) → K (some (iV (-1))) σ) (h2 : 0 ≤ i ∧ i ≤ 7 → ¬ q_land x y → K (some (iV (-2))) σ) (h3 : 0 ≤ i ∧ i ≤ 7 → q_land x y → ∀ σ', σ' 7 = q_up (σ 7) 2 (mj_or (σ 7 2) (mj_shl 1 i)) → σ' 8 = q_up (σ 8) i x → σ' 9 = q_up (σ 9) i y → (∀ o, o ≠ 7 → o ≠ 8 → o ≠ 9 → σ' o = σ o) → K (some (iV (q_pop (mj_or (σ 7 2) (mj_shl 1 i))))) σ') : mj_Ok (n + 2) i_S_village [rV 11 0 0, iV i, iV x, iV y] σ K := by
  obtain ⟨-, hV, -⟩ := hC
  refine mj_enter (by decide) (Nat.le_of_ble_eq_true rfl) (fun hg => ?_)
  refine r_S_village [] 600 ?_
  by_cases hi : 0 ≤ i ∧ i ≤ 7
  · have hb := (q_tbs hV.1 hi).2.2.1
    repeat' (first | (refine mj_ite (fun h => ?_) (fun h => ?_) <;> first | (exfalso; omega) | skip) | refine mj_vci (by first | omega | (simp (disch := omega) only [up_ne, up_at, q_up_at, q_up_ne, cp_ne]; omega)) ?_)
    refine c_S_isLand (fun b1 b2 b3 b4 => ?_) (fun b0 => ?_)
    · repeat' (first | (refine mj_ite (fun h => ?_) (fun h => ?_) <;> first | (exfalso; omega) | skip) | refine mj_vci (by first | omega | (simp (disch := omega) only [up_ne, up_at, q_up_at, q_up_ne, cp_ne]; omega)) ?_)
      refine c_Villages_put (v := 7) hi (fun σ' s1 s2 s3 s4 => ?_)
      have key := h3 hi ⟨b1, b2, b3, b4⟩ σ' s3 s1 s2 s4
      have e : σ' 7 2 = mj_or (σ 7 2) (mj_shl 1 i) := by rw [s3, q_up_at]
      rw [← e] at key hb
      exact c_J_bitCount hb.1 hb.2 key
    · repeat' (first | (refine mj_ite (fun h => ?_) (fun h => ?_) <;> first | (exfalso; omega) | skip) | refine mj_vci (by first | omega | (simp (disch := omega) only [up_ne, up_at, q_up_at, q_up_ne, cp_ne]; omega)) ?_)
      exact h2 hi b0
  · repeat' (first | (refine mj_ite (fun h => ?_) (fun h => ?_) <;> first | (exfalso; omega) | skip) | refine mj_vci (by first | omega | (simp (disch := omega) only [up_ne, up_at, q_up_at, q_up_ne, cp_ne]; omega)) ?_)
    all_goals exact h1 hi
theorem c_S_raze (hC : q_C σ) (h1 : ¬ (0 ≤ i ∧ i ≤ 7 ∧ q_tb (σ 7 2) i = true) → K (some (iV (-1))) σ) (h2 : 0 ≤ i ∧ i ≤ 7 → q_tb (σ 7 2) i = true → ∀ σ', σ' 7 = q_up (σ 7) 2 (mj_and (σ 7 2) (mj_xor (mj_shl 1 i) (-1))) → (∀ o, o ≠ 7 → σ' o = σ o) → K (some (iV (q_pop (mj_and (σ 7 2) (mj_xor (mj_shl 1 i) (-1)))))) σ') : mj_Ok (n + 2) i_S_raze [rV 11 0 0, iV i] σ K := by
  obtain ⟨-, hV, -⟩ := hC
  refine mj_enter (by decide) (Nat.le_of_ble_eq_true rfl) (fun hg => ?_)
  refine r_S_raze [] 600 ?_
  refine c_Villages_holds (v := 7) hV.1 (fun a1 a2 a3 => ?_) (fun a0 => ?_)
  · have hb := (q_tbs hV.1 ⟨a1, a2⟩).2.2.2
    repeat' (first | (refine mj_ite (fun h => ?_) (fun h => ?_) <;> first | (exfalso; omega) | skip) | refine mj_vci (by first | omega | (simp (disch := omega) only [up_ne, up_at, q_up_at, q_up_ne, cp_ne]; omega)) ?_)
    have key := h2 ⟨a1, a2⟩ a3 (mj_up σ 7 2 (mj_and (σ 7 2) (mj_xor (mj_shl 1 i) (-1)))) (up_at _ _ _ _) (fun o ho => up_ne _ _ _ ho)
    have e : mj_up σ 7 2 (mj_and (σ 7 2) (mj_xor (mj_shl 1 i) (-1))) 7 2 = mj_and (σ 7 2) (mj_xor (mj_shl 1 i) (-1)) := by rw [up_at, q_up_at]
    refine c_J_bitCount (x := mj_up σ 7 2 (mj_and (σ 7 2) (mj_xor (mj_shl 1 i) (-1))) 7 2) (by rw [e]; exact hb.1) (by rw [e]; exact hb.2) ?_
    rw [e]
    exact key
  · repeat' (first | (refine mj_ite (fun h => ?_) (fun h => ?_) <;> first | (exfalso; omega) | skip) | refine mj_vci (by first | omega | (simp (disch := omega) only [up_ne, up_at, q_up_at, q_up_ne, cp_ne]; omega)) ?_)
    exact h1 a0
theorem c_S_say (hC : q_C σ) (h1 : ¬ (33 ≤ x ∧ x ≤ 126) → K (some (iV (-2))) σ) (h2 : 33 ≤ x ∧ x ≤ 126 → σ 41 1 = 60 → K (some (iV (-4))) σ) (h3 : 33 ≤ x ∧ x ≤ 126 → σ 41 1 ≤ 59 → ∀ σ', σ' 42 = q_up (σ 42) (σ 41 1) x → σ' 41 = q_up (σ 41) 1 (σ 41 1 + 1) → (∀ o, o ≠ 41 → o ≠ 42 → σ' o = σ o) → K (some (iV (σ 41 1 + 1))) σ') : mj_Ok (n + 2) i_S_say [rV 11 0 0, iV x] σ K := by
  obtain ⟨-, -, -, hP, -⟩ := hC
  refine mj_enter (by decide) (Nat.le_of_ble_eq_true rfl) (fun hg => ?_)
  refine r_S_say [] 600 ?_
  by_cases hx : 33 ≤ x ∧ x ≤ 126
  · by_cases h60 : σ 41 1 = 60
    · repeat' (first | (refine mj_ite (fun h => ?_) (fun h => ?_) <;> first | (exfalso; omega) | (exfalso; simp only [Nat.zero_add, Nat.reduceAdd] at *; omega) | skip) | refine mj_vci (by first | omega | (simp only [Nat.zero_add, Nat.reduceAdd] at *; omega) | (simp (disch := omega) only [up_ne, up_at, q_up_at, q_up_ne, cp_ne]; omega)) ?_)
      exact h2 hx h60
    · repeat' (first | (refine mj_ite (fun h => ?_) (fun h => ?_) <;> first | (exfalso; omega) | (exfalso; simp only [Nat.zero_add, Nat.reduceAdd] at *; omega) | skip) | refine mj_vci (by first | omega | (simp only [Nat.zero_add, Nat.reduceAdd] at *; omega) | (simp (disch := omega) only [up_ne, up_at, q_up_at, q_up_ne, cp_ne]; omega)) ?_)
      refine c_Pad_add (v := 41) (by omega) (fun σ' s1 s2 s3 => ?_)
      have key := h3 hx (by omega) σ' s1 s2 s3
      have e : σ' 41 1 = σ 41 1 + 1 := by rw [s2, q_up_at]
      rw [← e] at key
      exact key
  · repeat' (first | (refine mj_ite (fun h => ?_) (fun h => ?_) <;> first | (exfalso; omega) | skip) | refine mj_vci (by first | omega | (simp (disch := omega) only [up_ne, up_at, q_up_at, q_up_ne, cp_ne]; omega)) ?_)
    all_goals exact h1 hx
theorem c_S_wipe (hK : ∀ σ', σ' 41 = q_up (σ 41) 1 0 → (∀ o, o ≠ 41 → σ' o = σ o) → K (some (iV (σ 41 1))) σ') : mj_Ok (n + 1) i_S_wipe [rV 11 0 0] σ K := by
  refine mj_enter (by decide) (Nat.le_of_ble_eq_true rfl) (fun hg => ?_)
  refine r_S_wipe [] 600 ?_
  exact hK _ (up_at _ _ _ _) (fun o ho => up_ne _ _ _ ho)
theorem c_S_fault (hC : q_C σ) (hK : ∀ r, r = q_fault (σ 42) (σ 41 1) → K (some (iV r)) σ) : mj_Ok (n + 5) i_S_fault [rV 11 0 0] σ K := by
  obtain ⟨-, -, -, hP, hS⟩ := hC
  refine mj_enter (by decide) (Nat.le_of_ble_eq_true rfl) (fun hg => ?_)
  refine r_S_fault [] 600 ?_
  exact c_Pad_firstFault (v := 41) hP hS hK
theorem c_S_seen (hC : q_C σ) (h1 : ¬ (q_land x y ∧ 0 ≤ w ∧ w ≤ 2) → K (some (iV (-2))) σ) (h2 : (q_land x y ∧ 0 ≤ w ∧ w ≤ 2) → σ 10 3 = 8 → K (some (iV (-4))) σ) (h3 : (q_land x y ∧ 0 ≤ w ∧ w ≤ 2) → σ 10 3 ≤ 7 → ∀ σ', σ' 11 = q_up (σ 11) (σ 10 3) x → σ' 12 = q_up (σ 12) (σ 10 3) y → σ' 13 = q_up (σ 13) (σ 10 3) w → σ' 10 = q_up (σ 10) 3 (σ 10 3 + 1) → (∀ o, o ≠ 10 → o ≠ 11 → o ≠ 12 → o ≠ 13 → σ' o = σ o) → K (some (iV (σ 10 3 + 1))) σ') : mj_Ok (n + 2) i_S_seen [rV 11 0 0, iV x, iV y, iV w] σ K := by
  obtain ⟨-, -, hS, -⟩ := hC
  have hs := hS.1
  refine mj_enter (by decide) (Nat.le_of_ble_eq_true rfl) (fun hg => ?_)
  refine r_S_seen [] 600 ?_
  refine c_S_isLand (fun b1 b2 b3 b4 => ?_) (fun b0 => ?_)
  · repeat' (first | (refine mj_ite (fun h => ?_) (fun h => ?_) <;> first | (exfalso; omega) | skip) | refine mj_vci (by first | omega | (simp (disch := omega) only [up_ne, up_at, q_up_at, q_up_ne, cp_ne]; omega)) ?_)
    refine c_S_isSide (fun a1 a2 => ?_) (fun a0 => ?_)
    · have hin : q_land x y ∧ 0 ≤ w ∧ w ≤ 2 := ⟨⟨b1, b2, b3, b4⟩, a1, a2⟩
      by_cases h8 : σ 10 3 = 8
      · repeat' (first | (refine mj_ite (fun h => ?_) (fun h => ?_) <;> first | (exfalso; omega) | (exfalso; simp only [Nat.zero_add, Nat.reduceAdd] at *; omega) | skip) | refine mj_vci (by first | omega | (simp only [Nat.zero_add, Nat.reduceAdd] at *; omega) | (simp (disch := omega) only [up_ne, up_at, q_up_at, q_up_ne, cp_ne]; omega)) ?_)
        exact h2 hin h8
      · repeat' (first | (refine mj_ite (fun h => ?_) (fun h => ?_) <;> first | (exfalso; omega) | (exfalso; simp only [Nat.zero_add, Nat.reduceAdd] at *; omega) | skip) | refine mj_vci (by first | omega | (simp only [Nat.zero_add, Nat.reduceAdd] at *; omega) | (simp (disch := omega) only [up_ne, up_at, q_up_at, q_up_ne, cp_ne]; omega)) ?_)
        refine c_Sights_add (v := 10) (by omega) (fun σ' s1 s2 s3 s4 s5 => ?_)
        have key := h3 hin (by omega) σ' s1 s2 s3 s4 s5
        have e : σ' 10 3 = σ 10 3 + 1 := by rw [s4, q_up_at]
        rw [← e] at key
        exact key
    · repeat' (first | (refine mj_ite (fun h => ?_) (fun h => ?_) <;> first | (exfalso; omega) | skip) | refine mj_vci (by first | omega | (simp (disch := omega) only [up_ne, up_at, q_up_at, q_up_ne, cp_ne]; omega)) ?_)
      exact h1 (fun q => a0 q.2)
  · repeat' (first | (refine mj_ite (fun h => ?_) (fun h => ?_) <;> first | (exfalso; omega) | skip) | refine mj_vci (by first | omega | (simp (disch := omega) only [up_ne, up_at, q_up_at, q_up_ne, cp_ne]; omega)) ?_)
    exact h1 (fun q => b0 q.1)
theorem c_S_forget (hK : ∀ σ', σ' 10 = q_up (σ 10) 3 0 → (∀ o, o ≠ 10 → σ' o = σ o) → K (some (iV (σ 10 3))) σ') : mj_Ok (n + 1) i_S_forget [rV 11 0 0] σ K := by
  refine mj_enter (by decide) (Nat.le_of_ble_eq_true rfl) (fun hg => ?_)
  refine r_S_forget [] 600 ?_
  exact hK _ (up_at _ _ _ _) (fun o ho => up_ne _ _ _ ho)
end S2
