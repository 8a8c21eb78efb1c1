/-! the model's small calls: leave set say wipe forget seen ones village raze ofPerson -/
section M4
variable {n g : Nat} {σ : mj_W} {K : Option mj_V → mj_W → Prop} {x y p w i j c d lo hi : Int}
theorem c_M_leave (hc : 0 ≤ σ g 0 ∧ σ g 0 ≤ 8) (hd : q_dist (σ (g + 1)) (σ g 0)) (h1 : q_fnd (σ (g + 1)) (σ g 0) p = -6 → K (some (iV (-1))) σ) (h2 : q_fnd (σ (g + 1)) (σ g 0) p ≠ -6 → ∀ σ' : mj_W, σ' g = q_up (σ g) 0 (σ g 0 - 1) → σ' (g + 1) = q_del (σ (g + 1)) (q_fnd (σ (g + 1)) (σ g 0) p) (σ g 0) → (∀ o, o ≠ g → o ≠ g + 1 → σ' o = σ o) → K (some (iV (σ g 0 - 1))) σ') : mj_Ok (n + 2) i_M_leave [rV 12 0 g, iV p] σ K := by
  have fr := q_fnd_or (σ (g + 1)) hc.1 p
  refine mj_enter (by decide) (Nat.le_of_ble_eq_true rfl) (fun hg => ?_)
  refine r_M_leave [] 600 ?_
  refine c_M_placeOf hc hd (fun r hr => ?_)
  repeat' (first | (refine mj_ite (fun h => ?_) (fun h => ?_) <;> first | (exfalso; omega) | skip) | refine mj_vci (by first | omega | (simp (disch := omega) only [up_ne, up_at, q_up_at, q_up_ne, cp_ne]; omega)) ?_)
  · exact h1 (by omega)
  · refine c_M_placeOf hc hd (fun r2 hr2 => ?_)
    repeat' (first | (refine mj_ite (fun h => ?_) (fun h => ?_) <;> first | (exfalso; omega) | skip) | refine mj_vci (by first | omega | (simp (disch := omega) only [up_ne, up_at, q_up_at, q_up_ne, cp_ne]; omega)) ?_)
    refine c_M_drop (by omega) (by omega) (fun σ' s1 s2 s3 => ?_)
    have key := h2 (by omega) σ' s1 (by rw [s2, hr2]) s3
    have : σ' g 0 = σ g 0 - 1 := by rw [s1, q_up_at]
    rw [← this] at key
    repeat' (first | (refine mj_ite (fun h => ?_) (fun h => ?_) <;> first | (exfalso; omega) | skip) | refine mj_vci (by first | omega | (simp (disch := omega) only [up_ne, up_at, q_up_at, q_up_ne, cp_ne]; omega)) ?_)
    exact key
theorem c_M_wipe (hK : ∀ σ' : mj_W, σ' g = q_up (σ g) 16 0 → (∀ o, o ≠ g → σ' o = σ o) → K (some (iV (σ g 16))) σ') : mj_Ok (n + 1) i_M_wipe [rV 12 0 g] σ K := by
  refine mj_enter (by decide) (Nat.le_of_ble_eq_true rfl) (fun hg => ?_)
  refine r_M_wipe [] 600 ?_
  exact hK _ (up_at _ _ _ _) (fun o ho => up_ne _ _ _ ho)
theorem c_M_forget (hK : ∀ σ' : mj_W, σ' g = q_up (σ g) 14 0 → (∀ o, o ≠ g → σ' o = σ o) → K (some (iV (σ g 14))) σ') : mj_Ok (n + 1) i_M_forget [rV 12 0 g] σ K := by
  refine mj_enter (by decide) (Nat.le_of_ble_eq_true rfl) (fun hg => ?_)
  refine r_M_forget [] 600 ?_
  exact hK _ (up_at _ _ _ _) (fun o ho => up_ne _ _ _ ho)
theorem c_M_say (hP : 0 ≤ σ g 16 ∧ σ g 16 ≤ 60) (h1 : ¬ (33 ≤ x ∧ x ≤ 126) → K (some (iV (-2))) σ) (h2 : 33 ≤ x ∧ x ≤ 126 → σ g 16 = 60 → K (some (iV (-4))) σ) (h3 : 33 ≤ x ∧ x ≤ 126 → σ g 16 ≤ 59 → ∀ σ' : mj_W, σ' (g + 10) = q_up (σ (g + 10)) (σ g 16) x → σ' g = q_up (σ g) 16 (σ g 16 + 1) → (∀ o, o ≠ g → o ≠ g + 10 → σ' o = σ o) → K (some (iV (σ g 16 + 1))) σ') : mj_Ok (n + 2) i_M_say [rV 12 0 g, iV x] σ K := by
  refine mj_enter (by decide) (Nat.le_of_ble_eq_true rfl) (fun hg => ?_)
  refine r_M_say [] 600 ?_
  refine c_M_in (fun a1 a2 => ?_) (fun a0 => ?_)
  · by_cases h60 : σ g 16 = 60
    · repeat' (first | (refine mj_ite (fun h => ?_) (fun h => ?_) <;> first | (exfalso; omega) | (exfalso; simp only [Nat.zero_add, Nat.reduceAdd] at *; omega) | skip) | refine mj_vci (by first | omega | (simp only [Nat.zero_add, Nat.reduceAdd] at *; omega) | (simp (disch := omega) only [up_ne, up_at, q_up_at, q_up_ne, cp_ne]; omega)) ?_)
      exact h2 ⟨a1, a2⟩ h60
    · have e0 : mj_up σ (g + 10) (σ g 16) x g = σ g := up_ne _ _ _ (by omega)
      have key := h3 ⟨a1, a2⟩ (by omega) (mj_up (mj_up σ (g + 10) (σ g 16) x) g 16 (σ g 16 + 1)) (by rw [up_ne _ _ _ (by omega), up_at]) (by rw [up_at, e0]) (fun o o1 o2 => by rw [up_ne _ _ _ o1, up_ne _ _ _ o2])
      have e : (mj_up (mj_up σ (g + 10) (σ g 16) x) g 16 (σ g 16 + 1)) g 16 = σ g 16 + 1 := by rw [up_at, q_up_at]
      have key2 : K (some (iV ((mj_up (mj_up σ (g + 10) (σ g 16) x) g 16 (σ g 16 + 1)) g 16))) (mj_up (mj_up σ (g + 10) (σ g 16) x) g 16 (σ g 16 + 1)) := by
        rw [e]; exact key
      repeat' (first | (refine mj_ite (fun h => ?_) (fun h => ?_) <;> first | (exfalso; omega) | (exfalso; simp only [Nat.zero_add, Nat.reduceAdd] at *; omega) | skip) | refine mj_vci (by first | omega | (simp only [Nat.zero_add, Nat.reduceAdd] at *; omega) | (simp (disch := omega) only [up_ne, up_at, q_up_at, q_up_ne, cp_ne]; omega)) ?_)
      simp only [e0]
      repeat' (first | (refine mj_ite (fun h => ?_) (fun h => ?_) <;> first | (exfalso; omega) | (exfalso; simp only [Nat.zero_add, Nat.reduceAdd] at *; omega) | skip) | refine mj_vci (by first | omega | (simp only [Nat.zero_add, Nat.reduceAdd] at *; omega) | (simp (disch := omega) only [up_ne, up_at, q_up_at, q_up_ne, cp_ne]; omega)) ?_)
      exact key2
  · repeat' (first | (refine mj_ite (fun h => ?_) (fun h => ?_) <;> first | (exfalso; omega) | skip) | refine mj_vci (by first | omega | (simp (disch := omega) only [up_ne, up_at, q_up_at, q_up_ne, cp_ne]; omega)) ?_)
    exact h1 a0
theorem q_pop0 : ∀ k : Fin 256, k.val ≠ 0 → 0 ≤ mj_and (k.val : Int) ((k.val : Int) - 1) ∧ mj_and (k.val : Int) ((k.val : Int) - 1) < (k.val : Int) ∧ q_pop (k.val : Int) = q_pop (mj_and (k.val : Int) ((k.val : Int) - 1)) + 1 := by decide +kernel
theorem q_pops (h : 0 < x ∧ x ≤ 255) : 0 ≤ mj_and x (x - 1) ∧ mj_and x (x - 1) < x ∧ q_pop x = q_pop (mj_and x (x - 1)) + 1 := by
  have := q_pop0 ⟨x.toNat, by omega⟩ (by show x.toNat ≠ 0; omega)
  have e : ((x.toNat : Nat) : Int) = x := by omega
  simp only [e] at this
  exact this
theorem l_M_ones (hK : K (some (iV (q_pop w))) σ) : ∀ (k : Nat) (x c : Int), x.toNat ≤ k → 0 ≤ x ∧ x ≤ 255 → 0 ≤ c ∧ c ≤ 255 - x → c + q_pop x = q_pop w → mj_Wm i_M_ones (n + 1) K 4 [some (iV w), some (iV c), some (iV x)] [] σ := by
  intro k
  induction k with
  | zero =>
    intro x c h0 h1 h2 h3
    have : x = 0 := by omega
    subst this
    have e : q_pop 0 = 0 := by decide
    refine r_M_ones [(4, [true, true, true])] 600 ?_
    repeat' (first | (refine mj_ite (fun h => ?_) (fun h => ?_) <;> first | (exfalso; omega) | skip) | refine mj_vci (by first | omega | (simp (disch := omega) only [up_ne, up_at, q_up_at, q_up_ne, cp_ne]; omega)) ?_)
    rw [← h3, e, Int.add_zero] at hK
    exact hK
  | succ k ih =>
    intro x c h0 h1 h2 h3
    refine r_M_ones [(4, [true, true, true])] 600 ?_
    repeat' (first | (refine mj_ite (fun h => ?_) (fun h => ?_) <;> first | (exfalso; omega) | skip) | refine mj_vci (by first | omega | (simp (disch := omega) only [up_ne, up_at, q_up_at, q_up_ne, cp_ne]; omega)) ?_)
    · subst h
      have e : q_pop 0 = 0 := by decide
      rw [← h3, e, Int.add_zero] at hK
      exact hK
    · obtain ⟨p1, p2, p3⟩ := q_pops (x := x) (by omega)
      exact ih _ _ (by omega) (by omega) (by omega) (by omega)
theorem c_M_ones (hw : 0 ≤ w ∧ w ≤ 255) (hK : K (some (iV (q_pop w))) σ) : mj_Ok (n + 1) i_M_ones [iV w] σ K := by
  refine mj_enter (by decide) (Nat.le_of_ble_eq_true rfl) (fun hg => ?_)
  refine r_M_ones [(4, [true, true, true])] 600 ?_
  exact l_M_ones hK w.toNat w 0 (by omega) (by omega) (by omega) (by omega)
theorem c_M_village (hb : 0 ≤ σ g 8 ∧ σ g 8 ≤ 255) (h1 : ¬ (0 ≤ i ∧ i ≤ 7) → K (some (iV (-1))) σ) (h2 : 0 ≤ i ∧ i ≤ 7 → ¬ q_land x y → K (some (iV (-2))) σ) (h3 : 0 ≤ i ∧ i ≤ 7 → q_land x y → ∀ σ' : mj_W, σ' g = q_up (σ g) 8 (mj_or (σ g 8) (mj_shl 1 i)) → σ' (g + 5) = q_up (σ (g + 5)) i x → σ' (g + 6) = q_up (σ (g + 6)) i y → (∀ o, o ≠ g → o ≠ g + 5 → o ≠ g + 6 → σ' o = σ o) → K (some (iV (q_pop (mj_or (σ g 8) (mj_shl 1 i))))) σ') : mj_Ok (n + 3) i_M_village [rV 12 0 g, iV i, iV x, iV y] σ K := by
  refine mj_enter (by decide) (Nat.le_of_ble_eq_true rfl) (fun hg => ?_)
  refine r_M_village [] 600 ?_
  refine c_M_in (fun a1 a2 => ?_) (fun a0 => ?_)
  · repeat' (first | (refine mj_ite (fun h => ?_) (fun h => ?_) <;> first | (exfalso; omega) | skip) | refine mj_vci (by first | omega | (simp (disch := omega) only [up_ne, up_at, q_up_at, q_up_ne, cp_ne]; omega)) ?_)
    refine c_M_isLand (fun b1 b2 b3 b4 => ?_) (fun b0 => ?_)
    · have hv := (q_tbs hb ⟨a1, a2⟩).2.2.1
      repeat' (first | (refine mj_ite (fun h => ?_) (fun h => ?_) <;> first | (exfalso; omega) | skip) | refine mj_vci (by first | omega | (simp (disch := omega) only [up_ne, up_at, q_up_at, q_up_ne, cp_ne]; omega)) ?_)
      refine c_M_ones ?_ ?_
      · rw [up_ne _ _ _ (by omega), up_ne _ _ _ (by omega), up_at, q_up_at]; exact hv
      · rw [up_ne _ _ _ (by omega), up_ne _ _ _ (by omega), up_at, q_up_at]
        refine h3 ⟨a1, a2⟩ ⟨b1, b2, b3, b4⟩ _ ?_ ?_ ?_ ?_
        · rw [up_ne _ _ _ (by omega), up_ne _ _ _ (by omega), up_at]
        · rw [up_ne _ _ _ (by omega), up_at, up_ne _ _ _ (by omega)]
        · rw [up_at, up_ne _ _ _ (by omega), up_ne _ _ _ (by omega)]
        · intro o o1 o2 o3
          rw [up_ne _ _ _ o3, up_ne _ _ _ o2, up_ne _ _ _ o1]
    · repeat' (first | (refine mj_ite (fun h => ?_) (fun h => ?_) <;> first | (exfalso; omega) | skip) | refine mj_vci (by first | omega | (simp (disch := omega) only [up_ne, up_at, q_up_at, q_up_ne, cp_ne]; omega)) ?_)
      exact h2 ⟨a1, a2⟩ b0
  · repeat' (first | (refine mj_ite (fun h => ?_) (fun h => ?_) <;> first | (exfalso; omega) | skip) | refine mj_vci (by first | omega | (simp (disch := omega) only [up_ne, up_at, q_up_at, q_up_ne, cp_ne]; omega)) ?_)
    exact h1 a0
theorem c_M_raze (hb : 0 ≤ σ g 8 ∧ σ g 8 ≤ 255) (h1 : ¬ (0 ≤ i ∧ i ≤ 7 ∧ q_tb (σ g 8) i = true) → K (some (iV (-1))) σ) (h2 : 0 ≤ i ∧ i ≤ 7 → q_tb (σ g 8) i = true → ∀ σ' : mj_W, σ' g = q_up (σ g) 8 (mj_and (σ g 8) (mj_xor (mj_shl 1 i) (-1))) → (∀ o, o ≠ g → σ' o = σ o) → K (some (iV (q_pop (mj_and (σ g 8) (mj_xor (mj_shl 1 i) (-1)))))) σ') : mj_Ok (n + 2) i_M_raze [rV 12 0 g, iV i] σ K := by
  refine mj_enter (by decide) (Nat.le_of_ble_eq_true rfl) (fun hg => ?_)
  refine r_M_raze [] 600 ?_
  refine c_M_in (fun a1 a2 => ?_) (fun a0 => ?_)
  · obtain ⟨-, hs, -, hv⟩ := q_tbs hb ⟨a1, a2⟩
    by_cases ht : q_tb (σ g 8) i = true
    · rw [if_pos ht] at hs
      repeat' (first | (refine mj_ite (fun h => ?_) (fun h => ?_) <;> first | (exfalso; omega) | skip) | refine mj_vci (by first | omega | (simp (disch := omega) only [up_ne, up_at, q_up_at, q_up_ne, cp_ne]; omega)) ?_)
      refine c_M_ones ?_ ?_
      · rw [up_at, q_up_at]; exact hv
      · rw [up_at, q_up_at]
        exact h2 ⟨a1, a2⟩ ht _ (up_at _ _ _ _) (fun o ho => up_ne _ _ _ ho)
    · rw [if_neg ht] at hs
      repeat' (first | (refine mj_ite (fun h => ?_) (fun h => ?_) <;> first | (exfalso; omega) | skip) | refine mj_vci (by first | omega | (simp (disch := omega) only [up_ne, up_at, q_up_at, q_up_ne, cp_ne]; omega)) ?_)
      exact h1 (fun q => ht q.2.2)
  · repeat' (first | (refine mj_ite (fun h => ?_) (fun h => ?_) <;> first | (exfalso; omega) | skip) | refine mj_vci (by first | omega | (simp (disch := omega) only [up_ne, up_at, q_up_at, q_up_ne, cp_ne]; omega)) ?_)
    exact h1 (fun q => a0 ⟨q.1, q.2.1⟩)
theorem c_M_seen (hS : 0 ≤ σ g 14 ∧ σ g 14 ≤ 8) (h1 : ¬ (q_land x y ∧ 0 ≤ w ∧ w ≤ 2) → K (some (iV (-2))) σ) (h2 : (q_land x y ∧ 0 ≤ w ∧ w ≤ 2) → σ g 14 = 8 → K (some (iV (-4))) σ) (h3 : (q_land x y ∧ 0 ≤ w ∧ w ≤ 2) → σ g 14 ≤ 7 → ∀ σ' : mj_W, σ' (g + 7) = q_up (σ (g + 7)) (σ g 14) x → σ' (g + 8) = q_up (σ (g + 8)) (σ g 14) y → σ' (g + 9) = q_up (σ (g + 9)) (σ g 14) w → σ' g = q_up (σ g) 14 (σ g 14 + 1) → (∀ o, o ≠ g → o ≠ g + 7 → o ≠ g + 8 → o ≠ g + 9 → σ' o = σ o) → K (some (iV (σ g 14 + 1))) σ') : mj_Ok (n + 3) i_M_seen [rV 12 0 g, iV x, iV y, iV w] σ K := by
  refine mj_enter (by decide) (Nat.le_of_ble_eq_true rfl) (fun hg => ?_)
  refine r_M_seen [] 600 ?_
  refine c_M_isLand (fun b1 b2 b3 b4 => ?_) (fun b0 => ?_)
  · repeat' (first | (refine mj_ite (fun h => ?_) (fun h => ?_) <;> first | (exfalso; omega) | skip) | refine mj_vci (by first | omega | (simp (disch := omega) only [up_ne, up_at, q_up_at, q_up_ne, cp_ne]; omega)) ?_)
    refine c_M_in (fun a1 a2 => ?_) (fun a0 => ?_)
    · by_cases h8 : σ g 14 = 8
      · repeat' (first | (refine mj_ite (fun h => ?_) (fun h => ?_) <;> first | (exfalso; omega) | (exfalso; simp only [Nat.zero_add, Nat.reduceAdd] at *; omega) | skip) | refine mj_vci (by first | omega | (simp only [Nat.zero_add, Nat.reduceAdd] at *; omega) | (simp (disch := omega) only [up_ne, up_at, q_up_at, q_up_ne, cp_ne]; omega)) ?_)
        exact h2 ⟨⟨b1, b2, b3, b4⟩, a1, a2⟩ h8
      · have e1 : mj_up σ (g + 7) (σ g 14) x g = σ g := up_ne _ _ _ (by omega)
        have e2 : mj_up (mj_up σ (g + 7) (σ g 14) x) (g + 8) (σ g 14) y g = σ g := by rw [up_ne _ _ _ (by omega), e1]
        have e3 : mj_up (mj_up (mj_up σ (g + 7) (σ g 14) x) (g + 8) (σ g 14) y) (g + 9) (σ g 14) w g = σ g := by rw [up_ne _ _ _ (by omega), e2]
        repeat' (first | (refine mj_ite (fun h => ?_) (fun h => ?_) <;> first | (exfalso; omega) | (exfalso; simp only [Nat.zero_add, Nat.reduceAdd] at *; omega) | skip) | refine mj_vci (by first | omega | (simp only [Nat.zero_add, Nat.reduceAdd] at *; omega) | (simp (disch := omega) only [up_ne, up_at, q_up_at, q_up_ne, cp_ne]; omega)) ?_)
        simp only [e1]
        repeat' (first | (refine mj_ite (fun h => ?_) (fun h => ?_) <;> first | (exfalso; omega) | (exfalso; simp only [Nat.zero_add, Nat.reduceAdd] at *; omega) | skip) | refine mj_vci (by first | omega | (simp only [Nat.zero_add, Nat.reduceAdd] at *; omega) | (simp (disch := omega) only [up_ne, up_at, q_up_at, q_up_ne, cp_ne]; omega)) ?_)
        simp only [e2]
        repeat' (first | (refine mj_ite (fun h => ?_) (fun h => ?_) <;> first | (exfalso; omega) | (exfalso; simp only [Nat.zero_add, Nat.reduceAdd] at *; omega) | skip) | refine mj_vci (by first | omega | (simp only [Nat.zero_add, Nat.reduceAdd] at *; omega) | (simp (disch := omega) only [up_ne, up_at, q_up_at, q_up_ne, cp_ne]; omega)) ?_)
        simp only [e3]
        repeat' (first | (refine mj_ite (fun h => ?_) (fun h => ?_) <;> first | (exfalso; omega) | (exfalso; simp only [Nat.zero_add, Nat.reduceAdd] at *; omega) | skip) | refine mj_vci (by first | omega | (simp only [Nat.zero_add, Nat.reduceAdd] at *; omega) | (simp (disch := omega) only [up_ne, up_at, q_up_at, q_up_ne, cp_ne]; omega)) ?_)
        have e : (mj_up (mj_up (mj_up (mj_up σ (g + 7) (σ g 14) x) (g + 8) (σ g 14) y) (g + 9) (σ g 14) w) g 14 (σ g 14 + 1)) g 14 = σ g 14 + 1 := by rw [up_at, q_up_at]
        suffices key : K (some (iV (σ g 14 + 1))) (mj_up (mj_up (mj_up (mj_up σ (g + 7) (σ g 14) x) (g + 8) (σ g 14) y) (g + 9) (σ g 14) w) g 14 (σ g 14 + 1)) by
          have key2 : K (some (iV ((mj_up (mj_up (mj_up (mj_up σ (g + 7) (σ g 14) x) (g + 8) (σ g 14) y) (g + 9) (σ g 14) w) g 14 (σ g 14 + 1)) g 14))) (mj_up (mj_up (mj_up (mj_up σ (g + 7) (σ g 14) x) (g + 8) (σ g 14) y) (g + 9) (σ g 14) w) g 14 (σ g 14 + 1)) := by
            rw [e]; exact key
          exact key2
        refine h3 ⟨⟨b1, b2, b3, b4⟩, a1, a2⟩ (by omega) _ ?_ ?_ ?_ ?_ ?_
        · rw [up_ne _ _ _ (by omega), up_ne _ _ _ (by omega), up_ne _ _ _ (by omega), up_at]
        · rw [up_ne _ _ _ (by omega), up_ne _ _ _ (by omega), up_at, up_ne _ _ _ (by omega)]
        · rw [up_ne _ _ _ (by omega), up_at, up_ne _ _ _ (by omega), up_ne _ _ _ (by omega)]
        · rw [up_at, e3]
        · intro o o1 o2 o3 o4
          rw [up_ne _ _ _ o1, up_ne _ _ _ o4, up_ne _ _ _ o3, up_ne _ _ _ o2]
    · repeat' (first | (refine mj_ite (fun h => ?_) (fun h => ?_) <;> first | (exfalso; omega) | skip) | refine mj_vci (by first | omega | (simp (disch := omega) only [up_ne, up_at, q_up_at, q_up_ne, cp_ne]; omega)) ?_)
      exact h1 (fun q => a0 q.2)
  · repeat' (first | (refine mj_ite (fun h => ?_) (fun h => ?_) <;> first | (exfalso; omega) | skip) | refine mj_vci (by first | omega | (simp (disch := omega) only [up_ne, up_at, q_up_at, q_up_ne, cp_ne]; omega)) ?_)
    exact h1 (fun q => b0 q.1)
end M4
