/-! done, told, cedes, images of the class -/
theorem q_southF_b {X Y : Int → Int} (hX : ∀ c, -1 ≤ X c ∧ X c ≤ 41) (hY : ∀ c, 0 ≤ Y c ∧ Y c ≤ 40) : ∀ (k : Nat) (i a A : Int), -A ≤ a ∧ a ≤ A → -(A + 4000 * k) ≤ q_southF X Y i k a ∧ q_southF X Y i k a ≤ A + 4000 * k
  | 0, i, a, A, h => by unfold q_southF; omega
  | k + 1, i, a, A, h => by
    unfold q_southF
    have x0 := hX i
    have x1 := hX (i + 1)
    have y0 := hY i
    have y1 := hY (i + 1)
    have m1 := q_mulb (a := X (i + 1) - X i) (b := Y i + Y (i + 1)) (A := 42) (B := 80) (by omega) (by omega)
    have := q_southF_b hX hY k (i + 1) (a + (X (i + 1) - X i) * (Y i + Y (i + 1))) (A + 4000) (by omega)
    omega
theorem q_south_b {X Y : Int → Int} (hX : ∀ c, -1 ≤ X c ∧ X c ≤ 41) (hY : ∀ c, 0 ≤ Y c ∧ Y c ≤ 40) {m : Int} (hm : m ≤ 9) : -36000 ≤ q_south X Y m ∧ q_south X Y m ≤ 36000 := by
  have := q_southF_b hX hY m.toNat 0 0 0 (by omega)
  unfold q_south
  omega
section S3
variable {n b v : Nat} {σ : mj_W} {K : Option mj_V → mj_W → Prop} {x y p w i j c d pl : Int} {l : List q_A}
theorem c_Villages_copyFrom {o : Nat} (hbo : v + 3 ≤ o ∨ o + 3 ≤ v) (hl : mj_ln (v + 1) = 8 ∧ mj_ln (v + 2) = 8) (hl' : mj_ln (o + 1) = 8 ∧ mj_ln (o + 2) = 8)
    (hK : ∀ σ' : mj_W, σ' v 2 = σ o 2 → σ' (v + 1) = σ (o + 1) → σ' (v + 2) = σ (o + 2) → (∀ a, a ≠ v → a ≠ v + 1 → a ≠ v + 2 → σ' a = σ a) → K none σ') : mj_Ok (n + 1) i_Villages_copyFrom [rV 9 0 v, rV 9 0 o] σ K := by
  refine mj_enter (by decide) (Nat.le_of_ble_eq_true rfl) (fun hg => ?_)
  have k1 : mj_cp σ (o + 1) (v + 1) 8 (v + 1) = σ (o + 1) := cp_at hg (by omega) (by omega)
  have k2 : mj_cp σ (o + 2) (v + 2) 8 (v + 2) = σ (o + 2) := cp_at hg (by omega) (by omega)
  have cc : ∀ (τ : mj_W) (a c : Nat), τ a = σ a → τ c = σ c → mj_cp τ a c 8 c = mj_cp σ a c 8 c := by
    intro τ a c h1 h2
    funext j
    unfold mj_cp
    rw [h1, h2]
  refine r_Villages_copyFrom [] 600 ?_
  repeat' (first | (refine mj_ite (fun h => ?_) (fun h => ?_) <;> first | (exfalso; omega) | skip) | refine mj_vci (by first | omega | (simp (disch := omega) only [up_ne, up_at, q_up_at, q_up_ne, cp_ne]; omega)) ?_)
  refine hK _ ?_ ?_ ?_ ?_
  · simp (disch := omega) only [up_ne, up_at, q_up_at, q_up_ne, cp_ne]
  · simp (disch := omega) only [up_ne, cp_ne]; exact k1
  · simp (disch := omega) only [up_ne, cp_ne]; rw [cc _ _ _ (by simp (disch := omega) only [cp_ne]) (by simp (disch := omega) only [cp_ne])]; exact k2
  · intro a g1 g2 g3
    simp (disch := omega) only [up_ne, cp_ne]
theorem c_Sights_copyFrom {o : Nat} (hbo : v + 4 ≤ o ∨ o + 4 ≤ v) (hl : mj_ln (v + 1) = 8 ∧ mj_ln (v + 2) = 8 ∧ mj_ln (v + 3) = 8) (hl' : mj_ln (o + 1) = 8 ∧ mj_ln (o + 2) = 8 ∧ mj_ln (o + 3) = 8)
    (hK : ∀ σ' : mj_W, σ' v 3 = σ o 3 → σ' (v + 1) = σ (o + 1) → σ' (v + 2) = σ (o + 2) → σ' (v + 3) = σ (o + 3) → (∀ a, a ≠ v → a ≠ v + 1 → a ≠ v + 2 → a ≠ v + 3 → σ' a = σ a) → K none σ') : mj_Ok (n + 1) i_Sights_copyFrom [rV 6 0 v, rV 6 0 o] σ K := by
  refine mj_enter (by decide) (Nat.le_of_ble_eq_true rfl) (fun hg => ?_)
  have k1 : mj_cp σ (o + 1) (v + 1) 8 (v + 1) = σ (o + 1) := cp_at hg (by omega) (by omega)
  have k2 : mj_cp σ (o + 2) (v + 2) 8 (v + 2) = σ (o + 2) := cp_at hg (by omega) (by omega)
  have k3 : mj_cp σ (o + 3) (v + 3) 8 (v + 3) = σ (o + 3) := cp_at hg (by omega) (by omega)
  have cc : ∀ (τ : mj_W) (a c : Nat), τ a = σ a → τ c = σ c → mj_cp τ a c 8 c = mj_cp σ a c 8 c := by
    intro τ a c h1 h2
    funext j
    unfold mj_cp
    rw [h1, h2]
  refine r_Sights_copyFrom [] 600 ?_
  repeat' (first | (refine mj_ite (fun h => ?_) (fun h => ?_) <;> first | (exfalso; omega) | skip) | refine mj_vci (by first | omega | (simp (disch := omega) only [up_ne, up_at, q_up_at, q_up_ne, cp_ne]; omega)) ?_)
  refine hK _ ?_ ?_ ?_ ?_ ?_
  · simp (disch := omega) only [up_ne, up_at, q_up_at, q_up_ne, cp_ne]
  · simp (disch := omega) only [up_ne, cp_ne]; exact k1
  · simp (disch := omega) only [up_ne, cp_ne]; rw [cc _ _ _ (by simp (disch := omega) only [cp_ne]) (by simp (disch := omega) only [cp_ne])]; exact k2
  · simp (disch := omega) only [up_ne, cp_ne]; rw [cc _ _ _ (by simp (disch := omega) only [cp_ne]) (by simp (disch := omega) only [cp_ne])]; exact k3
  · intro a g1 g2 g3 g4
    simp (disch := omega) only [up_ne, cp_ne]
/-- a book (13 cells from b on) as numbers: what an image keeps -/
def q_same (σ' : mj_W) (b : Nat) (σ : mj_W) (o : Nat) : Prop := (σ' (b + 1) 4 = σ (o + 1) 4 ∧ σ' (b + 1) 5 = σ (o + 1) 5 ∧ σ' (b + 1) 6 = σ (o + 1) 6 ∧ σ' (b + 1) 7 = σ (o + 1) 7) ∧ (σ' (b + 2) = σ (o + 2) ∧ σ' (b + 3) = σ (o + 3) ∧ σ' (b + 4) = σ (o + 4) ∧ σ' (b + 5) = σ (o + 5)) ∧ (σ' (b + 6) 2 = σ (o + 6) 2 ∧ σ' (b + 7) = σ (o + 7) ∧ σ' (b + 8) = σ (o + 8)) ∧ (σ' (b + 9) 3 = σ (o + 9) 3 ∧ σ' (b + 10) = σ (o + 10) ∧ σ' (b + 11) = σ (o + 11) ∧ σ' (b + 12) = σ (o + 12))
theorem c_Book_copyFrom {o : Nat} (hbo : b + 13 ≤ o ∨ o + 13 ≤ b) (hl : ∀ k, k ∈ [2, 3, 4, 5, 7, 8, 10, 11, 12] → mj_ln (b + k) = 8 ∧ mj_ln (o + k) = 8)
    (hK : ∀ σ' : mj_W, q_same σ' b σ o → (∀ a, (a ≤ b ∨ b + 13 ≤ a) → σ' a = σ a) → K none σ') : mj_Ok (n + 2) i_Book_copyFrom [rV 0 0 b, rV 0 0 o] σ K := by
  have l2 := hl 2 (by decide)
  have l3 := hl 3 (by decide)
  have l4 := hl 4 (by decide)
  have l5 := hl 5 (by decide)
  have l7 := hl 7 (by decide)
  have l8 := hl 8 (by decide)
  have l10 := hl 10 (by decide)
  have l11 := hl 11 (by decide)
  have l12 := hl 12 (by decide)
  refine mj_enter (by decide) (Nat.le_of_ble_eq_true rfl) (fun hg => ?_)
  refine r_Book_copyFrom [] 600 ?_
  refine c_Border_copyFrom (b := b + 1) (o := o + 1) (by omega) ⟨l2.1, l3.1, l4.1, l5.1⟩ ⟨l2.2, l3.2, l4.2, l5.2⟩ (fun σ1 s1 s2 s3 s4 s5 s6 s7 s8 s9 => ?_)
  refine c_Villages_copyFrom (v := b + 6) (o := o + 6) (by omega) ⟨l7.1, l8.1⟩ ⟨l7.2, l8.2⟩ (fun σ2 t1 t2 t3 t4 => ?_)
  refine c_Sights_copyFrom (v := b + 9) (o := o + 9) (by omega) ⟨l10.1, l11.1, l12.1⟩ ⟨l10.2, l11.2, l12.2⟩ (fun σ3 u1 u2 u3 u4 u5 => ?_)
  have f1 : ∀ a, a ≠ b + 1 → a ≠ b + 2 → a ≠ b + 3 → a ≠ b + 4 → a ≠ b + 5 → σ1 a = σ a := s9
  have f2 : ∀ a, a ≠ b + 6 → a ≠ b + 7 → a ≠ b + 8 → σ2 a = σ1 a := t4
  have f3 : ∀ a, a ≠ b + 9 → a ≠ b + 10 → a ≠ b + 11 → a ≠ b + 12 → σ3 a = σ2 a := u5
  refine hK σ3 ⟨⟨?_, ?_, ?_, ?_⟩, ⟨?_, ?_, ?_, ?_⟩, ⟨?_, ?_, ?_⟩, ⟨?_, ?_, ?_, ?_⟩⟩ ?_
  · rw [f3 (b + 1) (by omega) (by omega) (by omega) (by omega), f2 (b + 1) (by omega) (by omega) (by omega)]; exact s1
  · rw [f3 (b + 1) (by omega) (by omega) (by omega) (by omega), f2 (b + 1) (by omega) (by omega) (by omega)]; exact s2
  · rw [f3 (b + 1) (by omega) (by omega) (by omega) (by omega), f2 (b + 1) (by omega) (by omega) (by omega)]; exact s3
  · rw [f3 (b + 1) (by omega) (by omega) (by omega) (by omega), f2 (b + 1) (by omega) (by omega) (by omega)]; exact s4
  · rw [f3 (b + 2) (by omega) (by omega) (by omega) (by omega), f2 (b + 2) (by omega) (by omega) (by omega)]; exact s5
  · rw [f3 (b + 3) (by omega) (by omega) (by omega) (by omega), f2 (b + 3) (by omega) (by omega) (by omega)]; exact s6
  · rw [f3 (b + 4) (by omega) (by omega) (by omega) (by omega), f2 (b + 4) (by omega) (by omega) (by omega)]; exact s7
  · rw [f3 (b + 5) (by omega) (by omega) (by omega) (by omega), f2 (b + 5) (by omega) (by omega) (by omega)]; exact s8
  · rw [f3 (b + 6) (by omega) (by omega) (by omega) (by omega), t1, f1 (o + 6) (by omega) (by omega) (by omega) (by omega) (by omega)]
  · rw [f3 (b + 7) (by omega) (by omega) (by omega) (by omega)]; exact t2.trans (f1 (o + 7) (by omega) (by omega) (by omega) (by omega) (by omega))
  · rw [f3 (b + 8) (by omega) (by omega) (by omega) (by omega)]; exact t3.trans (f1 (o + 8) (by omega) (by omega) (by omega) (by omega) (by omega))
  · rw [u1, f2 (o + 9) (by omega) (by omega) (by omega), f1 (o + 9) (by omega) (by omega) (by omega) (by omega) (by omega)]
  · exact u2.trans ((f2 (o + 10) (by omega) (by omega) (by omega)).trans (f1 (o + 10) (by omega) (by omega) (by omega) (by omega) (by omega)))
  · exact u3.trans ((f2 (o + 11) (by omega) (by omega) (by omega)).trans (f1 (o + 11) (by omega) (by omega) (by omega) (by omega) (by omega)))
  · exact u4.trans ((f2 (o + 12) (by omega) (by omega) (by omega)).trans (f1 (o + 12) (by omega) (by omega) (by omega) (by omega) (by omega)))
  · intro a ha
    rw [f3 a (by omega) (by omega) (by omega) (by omega), f2 a (by omega) (by omega) (by omega), f1 a (by omega) (by omega) (by omega) (by omega) (by omega)]
theorem c_S_image (h1 : ¬ (0 ≤ i ∧ i ≤ 1) → K (some (iV (-2))) σ) (h2 : 0 ≤ i ∧ i ≤ 1 → ∀ σ' : mj_W, (i = 0 → q_same σ' 15 σ 1 ∧ σ' 15 3 = 1 ∧ (∀ a, (a < 15 ∨ 28 ≤ a) → σ' a = σ a)) → (i = 1 → q_same σ' 28 σ 1 ∧ σ' 28 3 = 1 ∧ (∀ a, (a < 28 ∨ 41 ≤ a) → σ' a = σ a)) → K (some (iV 1)) σ') : mj_Ok (n + 3) i_S_image [rV 11 0 0, iV i] σ K := by
  refine mj_enter (by decide) (Nat.le_of_ble_eq_true rfl) (fun hg => ?_)
  refine r_S_image [] 600 ?_
  by_cases e0 : i = 0
  · subst e0
    repeat' (first | (refine mj_ite (fun h => ?_) (fun h => ?_) <;> first | (exfalso; omega) | skip) | refine mj_vci (by first | omega | (simp (disch := omega) only [up_ne, up_at, q_up_at, q_up_ne, cp_ne]; omega)) ?_)
    refine c_Book_copyFrom (b := 15) (o := 1) (by omega) (by decide +kernel) (fun σ' s1 s2 => ?_)
    repeat' (first | (refine mj_ite (fun h => ?_) (fun h => ?_) <;> first | (exfalso; omega) | skip) | refine mj_vci (by first | omega | (simp (disch := omega) only [up_ne, up_at, q_up_at, q_up_ne, cp_ne]; omega)) ?_)
    refine h2 (by omega) _ (fun _ => ⟨?_, ?_, ?_⟩) (fun q => by omega)
    · exact s1
    · show mj_up σ' 15 3 1 15 3 = 1
      rw [up_at, q_up_at]
    · intro a ha
      show mj_up σ' 15 3 1 a = σ a
      rw [up_ne _ _ _ (by omega), s2 a (by omega)]
  · by_cases e1 : i = 1
    · subst e1
      repeat' (first | (refine mj_ite (fun h => ?_) (fun h => ?_) <;> first | (exfalso; omega) | skip) | refine mj_vci (by first | omega | (simp (disch := omega) only [up_ne, up_at, q_up_at, q_up_ne, cp_ne]; omega)) ?_)
      refine c_Book_copyFrom (b := 28) (o := 1) (by omega) (by decide +kernel) (fun σ' s1 s2 => ?_)
      repeat' (first | (refine mj_ite (fun h => ?_) (fun h => ?_) <;> first | (exfalso; omega) | skip) | refine mj_vci (by first | omega | (simp (disch := omega) only [up_ne, up_at, q_up_at, q_up_ne, cp_ne]; omega)) ?_)
      refine h2 (by omega) _ (fun q => by omega) (fun _ => ⟨?_, ?_, ?_⟩)
      · exact s1
      · show mj_up σ' 28 3 1 28 3 = 1
        rw [up_at, q_up_at]
      · intro a ha
        show mj_up σ' 28 3 1 a = σ a
        rw [up_ne _ _ _ (by omega), s2 a (by omega)]
    · repeat' (first | (refine mj_ite (fun h => ?_) (fun h => ?_) <;> first | (exfalso; omega) | skip) | refine mj_vci (by first | omega | (simp (disch := omega) only [up_ne, up_at, q_up_at, q_up_ne, cp_ne]; omega)) ?_)
      all_goals exact h1 (by omega)
theorem c_S_restore (h1 : ¬ (0 ≤ i ∧ i ≤ 1) → K (some (iV (-2))) σ) (h2 : 0 ≤ i ∧ i ≤ 1 → (i = 0 → σ 15 3 = 0) → (i = 1 → σ 28 3 = 0) → K (some (iV (-3))) σ) (h3 : 0 ≤ i ∧ i ≤ 1 → (i = 0 → σ 15 3 ≠ 0) → (i = 1 → σ 28 3 ≠ 0) → ∀ σ' : mj_W, (i = 0 → q_same σ' 1 σ 15) → (i = 1 → q_same σ' 1 σ 28) → (∀ a, (a ≤ 1 ∨ 14 ≤ a) → σ' a = σ a) → K (some (iV 1)) σ') : mj_Ok (n + 3) i_S_restore [rV 11 0 0, iV i] σ K := by
  refine mj_enter (by decide) (Nat.le_of_ble_eq_true rfl) (fun hg => ?_)
  refine r_S_restore [] 600 ?_
  by_cases e0 : i = 0
  · subst e0
    repeat' (first | (refine mj_ite (fun h => ?_) (fun h => ?_) <;> first | (exfalso; omega) | skip) | refine mj_vci (by first | omega | (simp (disch := omega) only [up_ne, up_at, q_up_at, q_up_ne, cp_ne]; omega)) ?_)
    · exact h2 (by omega) (fun _ => h) (fun q => by omega)
    · refine c_Book_copyFrom (b := 1) (o := 15) (by omega) (by decide +kernel) (fun σ' s1 s2 => ?_)
      exact h3 (by omega) (fun _ => by simp only [Nat.zero_add, Nat.reduceAdd] at *; assumption) (fun q => by omega) σ' (fun _ => s1) (fun q => by omega) s2
  · by_cases e1 : i = 1
    · subst e1
      repeat' (first | (refine mj_ite (fun h => ?_) (fun h => ?_) <;> first | (exfalso; omega) | skip) | refine mj_vci (by first | omega | (simp (disch := omega) only [up_ne, up_at, q_up_at, q_up_ne, cp_ne]; omega)) ?_)
      · exact h2 (by omega) (fun q => by omega) (fun _ => h)
      · refine c_Book_copyFrom (b := 1) (o := 28) (by omega) (by decide +kernel) (fun σ' s1 s2 => ?_)
        exact h3 (by omega) (fun q => by omega) (fun _ => by simp only [Nat.zero_add, Nat.reduceAdd] at *; assumption) σ' (fun q => by omega) (fun _ => s1) s2
    · repeat' (first | (refine mj_ite (fun h => ?_) (fun h => ?_) <;> first | (exfalso; omega) | skip) | refine mj_vci (by first | omega | (simp (disch := omega) only [up_ne, up_at, q_up_at, q_up_ne, cp_ne]; omega)) ?_)
      all_goals exact h1 (by omega)
theorem c_S_done (hC : q_C σ) (hl : q_fault (σ (41 + 1)) (σ 41 1) = -6 → q_rep (σ (41 + 1)) (σ 41 1) 0 l) (h1 : q_fault (σ (41 + 1)) (σ 41 1) ≠ -6 → K (some (iV (-5))) σ) (h2 : q_fault (σ (41 + 1)) (σ 41 1) = -6 → (q_R σ l).1 ≠ -6 → ∀ σ', q_Fc σ σ' → K (some (iV (-3))) σ') (h3 : q_fault (σ (41 + 1)) (σ 41 1) = -6 → (q_R σ l).1 = -6 → ∀ σ', q_BC σ' 2 = (q_R σ l).2.2.2.2 → σ' 2 5 = σ 2 5 → σ' 2 6 = σ 2 6 → σ' 2 7 = σ 2 7 → σ' 41 = q_up (σ 41) 1 0 → (∀ o, o ≠ 2 → o ≠ 3 → o ≠ 4 → o ≠ 5 → o ≠ 6 → o ≠ 41 → (o < 43 ∨ 57 < o) → σ' o = σ o) → K (some (iV (q_R σ l).2.2.2.1)) σ') : mj_Ok (n + 7) i_S_done [rV 11 0 0] σ K := by
  refine mj_enter (by decide) (Nat.le_of_ble_eq_true rfl) (fun hg => ?_)
  refine r_S_done [] 600 ?_
  refine c_S_tryDays (l := l) hC hl (fun e => ?_) (fun e σ1 ht r hr => ?_)
  · repeat' (first | (refine mj_ite (fun h => ?_) (fun h => ?_) <;> first | (exfalso; omega) | skip) | refine mj_vci (by first | omega | (simp (disch := omega) only [up_ne, up_at, q_up_at, q_up_ne, cp_ne]; omega)) ?_)
    exact h1 e
  · obtain ⟨f1, f2, f3, f4, f5, f6, f7, f8, f9, f10, f11⟩ := ht
    by_cases e2 : (q_R σ l).1 = -6
    · rw [if_pos e2] at hr
      subst hr
      repeat' (first | (refine mj_ite (fun h => ?_) (fun h => ?_) <;> first | (exfalso; omega) | skip) | refine mj_vci (by first | omega | (simp (disch := omega) only [up_ne, up_at, q_up_at, q_up_ne, cp_ne]; omega)) ?_)
      refine c_Border_copyFrom (b := 2) (o := 44) (by omega) (by decide +kernel) (by decide +kernel) (fun σ2 s1 s2 s3 s4 s5 s6 s7 s8 s9 => ?_)
      have key := h3 e e2 (mj_up σ2 41 1 0) ?_ ?_ ?_ ?_ ?_ ?_
      · have ea : mj_up σ2 41 1 0 43 0 = (q_R σ l).2.2.2.1 := by
          rw [up_ne _ _ _ (by omega), s9 43 (by omega) (by omega) (by omega) (by omega) (by omega)]
          exact f9
        rw [← ea] at key
        exact key
      · rw [← f2]
        show (mj_up σ2 41 1 0 2 4, mj_up σ2 41 1 0 6, mj_up σ2 41 1 0 3, mj_up σ2 41 1 0 4, mj_up σ2 41 1 0 5) = (_, _, _, _, _)
        simp (disch := omega) only [up_ne]
        rw [s1, ← s5, ← s6, ← s7, ← s8]
      · rw [up_ne _ _ _ (by omega), s2, f3]
      · rw [up_ne _ _ _ (by omega), s3, f4]
      · rw [up_ne _ _ _ (by omega), s4, f5]
      · rw [up_at, s9 41 (by omega) (by omega) (by omega) (by omega) (by omega), f1 41 (by omega)]
      · intro o o1 o2 o3 o4 o5 o6 o7
        rw [up_ne _ _ _ o6, s9 o o1 o2 o3 o4 o5, f1 o o7]
    · rw [if_neg e2] at hr
      subst hr
      repeat' (first | (refine mj_ite (fun h => ?_) (fun h => ?_) <;> first | (exfalso; omega) | skip) | refine mj_vci (by first | omega | (simp (disch := omega) only [up_ne, up_at, q_up_at, q_up_ne, cp_ne]; omega)) ?_)
      exact h2 e e2 σ1 f1
theorem c_S_cedes (hC : q_C σ) (h1 : q_fnd (σ 6) (σ 2 4) p = -6 → K (some (iV (-1))) σ) (h2 : q_fnd (σ 6) (σ 2 4) p ≠ -6 → ∀ r σ', q_Fc σ σ' → r = q_south (q_cx (σ 2 4 - 1) (q_del (σ 6) (q_fnd (σ 6) (σ 2 4) p) (σ 2 4)) (σ 3)) (q_cy (σ 2 4 - 1) (σ 2 5) (σ 2 6) (q_del (σ 6) (q_fnd (σ 6) (σ 2 4) p) (σ 2 4)) (σ 4)) (σ 2 4 - 1 + 1) - q_south (q_X σ 2) (q_Y σ 2) (σ 2 4 + 1) + 10000 → K (some (iV r)) σ') : mj_Ok (n + 4) i_S_cedes [rV 11 0 0, iV p] σ K := by
  obtain ⟨h0, -⟩ := hC
  have hcc : 0 ≤ σ 2 4 ∧ σ 2 4 ≤ 8 := h0.1.1
  have hWd := @q_wB_die (q_BC σ 2) h0.1 0 p 0 0
  refine mj_enter (by decide) (Nat.le_of_ble_eq_true rfl) (fun hg => ?_)
  refine r_S_cedes [] 600 ?_
  refine c_Border_holds (b := 2) hcc (fun c1 c2 c3 => ?_) (fun c1 c2 => ?_)
  · have c0 : q_fnd (σ 6) (σ 2 4) p ≠ -6 := by show q_fnd (σ (2 + 4)) (σ 2 4) p ≠ -6; omega
    have hWd := hWd (by show (if q_fnd (σ 6) (σ 2 4) p = -6 then 1 else 0) = (0 : Int); rw [if_neg c0])
    have hWd : q_wB (σ 2 4 - 1, q_del (σ 6) (q_fnd (σ 6) (σ 2 4) p) (σ 2 4), σ 3, σ 4, σ 5) := hWd
    repeat' (first | (refine mj_ite (fun h => ?_) (fun h => ?_) <;> first | (exfalso; omega) | skip) | refine mj_vci (by first | omega | (simp (disch := omega) only [up_ne, up_at, q_up_at, q_up_ne, cp_ne]; omega)) ?_)
    refine c_Border_copyFrom (b := 44) (o := 2) (by omega) (by decide +kernel) (by decide +kernel) (fun σ1 s1 s2 s3 s4 s5 s6 s7 s8 s9 => ?_)
    have s5 : σ1 45 = σ 3 := s5
    have s6 : σ1 46 = σ 4 := s6
    have s7 : σ1 47 = σ 5 := s7
    have s8 : σ1 48 = σ 6 := s8
    refine c_Border_drop (b := 44) (by rw [s1]; exact hcc) (fun q => absurd (by rw [show (44 + 4 : Nat) = 48 from rfl, s8, s1] at q; exact q) c0) (fun q σ2 t1 t2 t3 => ?_)
    have t2 : σ2 48 = q_del (σ 6) (q_fnd (σ 6) (σ 2 4) p) (σ 2 4) := by
      have := t2
      rw [show (44 + 4 : Nat) = 48 from rfl, s8, s1] at this
      exact this
    have b4 : σ2 44 4 = σ 2 4 - 1 := by rw [t1, q_up_at, s1]
    have b5 : σ2 44 5 = σ 2 5 := by rw [t1, q_up_ne _ _ (by omega), s2]
    have b6 : σ2 44 6 = σ 2 6 := by rw [t1, q_up_ne _ _ (by omega), s3]
    have x1 : σ2 45 = σ 3 := (t3 45 (by omega) (by omega)).trans s5
    have x2 : σ2 46 = σ 4 := (t3 46 (by omega) (by omega)).trans s6
    have hf : q_Fc σ σ2 := fun o ho => (t3 o (by omega) (by omega)).trans (s9 o (by omega) (by omega) (by omega) (by omega) (by omega))
    have g44 : q_gB σ2 44 := by
      refine ⟨by rw [b4]; exact hWd.1, ?_, ?_, ?_, by rw [b5]; exact h0.2.1, by rw [b6]; exact h0.2.2.1⟩
      · show ∀ i, 0 ≤ σ2 48 i ∧ σ2 48 i ≤ 7
        rw [t2]; exact hWd.2.1
      · show ∀ i, 0 ≤ σ2 45 i ∧ σ2 45 i ≤ 40
        rw [x1]; exact hWd.2.2.1
      · show ∀ i, 0 ≤ σ2 46 i ∧ σ2 46 i ≤ 40
        rw [x2]; exact hWd.2.2.2.1
    have g2 : q_gB σ2 2 := by
      have := h0.g
      unfold q_gB at this ⊢
      rw [hf 2 (by omega), hf (2 + 4) (by omega), hf (2 + 1) (by omega), hf (2 + 2) (by omega)]
      exact this
    have e44 : q_south (q_X σ2 44) (q_Y σ2 44) (σ2 44 4 + 1) = q_south (q_cx (σ 2 4 - 1) (q_del (σ 6) (q_fnd (σ 6) (σ 2 4) p) (σ 2 4)) (σ 3)) (q_cy (σ 2 4 - 1) (σ 2 5) (σ 2 6) (q_del (σ 6) (q_fnd (σ 6) (σ 2 4) p) (σ 2 4)) (σ 4)) (σ 2 4 - 1 + 1) := by
      show q_south (q_cx (σ2 44 4) (σ2 48) (σ2 45)) (q_cy (σ2 44 4) (σ2 44 5) (σ2 44 6) (σ2 48) (σ2 46)) (σ2 44 4 + 1) = _
      rw [b4, b5, b6, t2, x1, x2]
    have e2 : q_south (q_X σ2 2) (q_Y σ2 2) (σ2 2 4 + 1) = q_south (q_X σ 2) (q_Y σ 2) (σ 2 4 + 1) := by
      unfold q_X q_Y
      rw [hf 2 (by omega), hf (2 + 4) (by omega), hf (2 + 1) (by omega), hf (2 + 2) (by omega)]
    have bd1 := q_south_b (m := σ2 44 4 + 1) g44.X g44.Y (by omega)
    have bd2 := q_south_b (m := σ2 2 4 + 1) g2.X g2.Y (by have := g2.1; omega)
    have key := h2 c0 _ σ2 hf rfl
    rw [← e44, ← e2] at key
    refine c_Border_twiceSouth (b := 44) g44 ?_
    refine c_Border_twiceSouth (b := 2) g2 ?_
    have bd1 : -36000 ≤ q_south (q_X σ2 44) (q_Y σ2 44) (σ2 44 4 + 1) ∧ q_south (q_X σ2 44) (q_Y σ2 44) (σ2 44 4 + 1) ≤ 36000 := bd1
    have bd2 : -36000 ≤ q_south (q_X σ2 2) (q_Y σ2 2) (σ2 2 4 + 1) ∧ q_south (q_X σ2 2) (q_Y σ2 2) (σ2 2 4 + 1) ≤ 36000 := bd2
    generalize q_south (q_X σ2 44) (q_Y σ2 44) (σ2 44 4 + 1) = u1 at bd1 key
    generalize q_south (q_X σ2 2) (q_Y σ2 2) (σ2 2 4 + 1) = u2 at bd2 key
    repeat' (first | (refine mj_ite (fun h => ?_) (fun h => ?_) <;> first | (exfalso; omega) | skip) | refine mj_vci (by first | omega | (simp (disch := omega) only [up_ne, up_at, q_up_at, q_up_ne, cp_ne]; omega)) ?_)
    exact key
  · repeat' (first | (refine mj_ite (fun h => ?_) (fun h => ?_) <;> first | (exfalso; omega) | skip) | refine mj_vci (by first | omega | (simp (disch := omega) only [up_ne, up_at, q_up_at, q_up_ne, cp_ne]; omega)) ?_)
    exact h1 c1
/-- what told(w) tells -/
def q_told (bits5 pad sights n west east reach : Int) (row xs ys wk vx vy : Int → Int) (w : Int) : Int :=
  if w = 0 then pad else if w = 1 then q_bits row n else if w = 2 then west else if w = 3 then east else if w = 4 then reach else if w = 5 then bits5 else if w = 6 then sights
  else if 10 ≤ w ∧ w ≤ 17 then (if w - 10 < n then row (w - 10) else -6)
  else if 20 ≤ w ∧ w ≤ 99 then (if 2 < w % 10 ∨ q_fnd row n (w / 10 - 2) = -6 then -2 else if w % 10 = 0 then xs (w / 10 - 2) else if w % 10 = 1 then ys (w / 10 - 2) else wk (w / 10 - 2))
  else if 100 ≤ w ∧ w ≤ 107 then (if q_tb bits5 (w - 100) = true then 50 * vx (w - 100) + vy (w - 100) else -2) else -2
theorem c_S_tellPerson (hC : q_C σ) (hp : 0 ≤ p ∧ p ≤ 7) (hw : 0 ≤ w ∧ w ≤ 9) (hK : ∀ r, r = (if 2 < w ∨ q_fnd (σ 6) (σ 2 4) p = -6 then -2 else if w = 0 then σ 3 p else if w = 1 then σ 4 p else σ 5 p) → K (some (iV r)) σ) : mj_Ok (n + 3) i_S_tellPerson [rV 11 0 0, iV p, iV w] σ K := by
  obtain ⟨⟨hW, -⟩, -⟩ := hC
  have hcc : 0 ≤ σ 2 4 ∧ σ 2 4 ≤ 8 := hW.1
  refine mj_enter (by decide) (Nat.le_of_ble_eq_true rfl) (fun hg => ?_)
  refine r_S_tellPerson [] 600 ?_
  by_cases e : 2 < w
  · rw [if_pos (Or.inl e)] at hK
    repeat' (first | (refine mj_ite (fun h => ?_) (fun h => ?_) <;> first | (exfalso; omega) | skip) | refine mj_vci (by first | omega | (simp (disch := omega) only [up_ne, up_at, q_up_at, q_up_ne, cp_ne]; omega)) ?_)
    exact hK _ rfl
  · repeat' (first | (refine mj_ite (fun h => ?_) (fun h => ?_) <;> first | (exfalso; omega) | skip) | refine mj_vci (by first | omega | (simp (disch := omega) only [up_ne, up_at, q_up_at, q_up_ne, cp_ne]; omega)) ?_)
    refine c_Border_holds (b := 2) hcc (fun c1 c2 c3 => ?_) (fun c1 c2 => ?_)
    · have c0 : q_fnd (σ 6) (σ 2 4) p ≠ -6 := by show q_fnd (σ (2 + 4)) (σ 2 4) p ≠ -6; omega
      rw [if_neg (fun q => q.elim e c0)] at hK
      repeat' (first | (refine mj_ite (fun h => ?_) (fun h => ?_) <;> first | (exfalso; omega) | skip) | refine mj_vci (by first | omega | (simp (disch := omega) only [up_ne, up_at, q_up_at, q_up_ne, cp_ne]; omega)) ?_)
      exact c_Border_factOf (b := 2) hp (hK _ rfl)
    · rw [if_pos (Or.inr c1)] at hK
      repeat' (first | (refine mj_ite (fun h => ?_) (fun h => ?_) <;> first | (exfalso; omega) | skip) | refine mj_vci (by first | omega | (simp (disch := omega) only [up_ne, up_at, q_up_at, q_up_ne, cp_ne]; omega)) ?_)
      exact hK _ rfl
theorem c_S_tellVillage (hC : q_C σ) (hi : 0 ≤ i ∧ i ≤ 7) (hK : ∀ r, r = (if q_tb (σ 7 2) i = true then 50 * σ 8 i + σ 9 i else -2) → K (some (iV r)) σ) : mj_Ok (n + 2) i_S_tellVillage [rV 11 0 0, iV i] σ K := by
  obtain ⟨-, hV, -⟩ := hC
  have hx : 0 ≤ σ 8 i ∧ σ 8 i ≤ 40 := hV.2.1 i
  have hy : 0 ≤ σ 9 i ∧ σ 9 i ≤ 40 := hV.2.2 i
  refine mj_enter (by decide) (Nat.le_of_ble_eq_true rfl) (fun hg => ?_)
  refine r_S_tellVillage [] 600 ?_
  refine c_Villages_holds (v := 7) hV.1 (fun a1 a2 a3 => ?_) (fun a0 => ?_)
  · rw [if_pos a3] at hK
    repeat' (first | (refine mj_ite (fun h => ?_) (fun h => ?_) <;> first | (exfalso; omega) | skip) | refine mj_vci (by first | omega | (simp (disch := omega) only [up_ne, up_at, q_up_at, q_up_ne, cp_ne]; omega)) ?_)
    exact c_S_pointCode hx hy (hK _ rfl)
  · rw [if_neg (fun q => a0 ⟨hi.1, hi.2, q⟩)] at hK
    repeat' (first | (refine mj_ite (fun h => ?_) (fun h => ?_) <;> first | (exfalso; omega) | skip) | refine mj_vci (by first | omega | (simp (disch := omega) only [up_ne, up_at, q_up_at, q_up_ne, cp_ne]; omega)) ?_)
    exact hK _ rfl
theorem c_S_told (hC : q_C σ) (hK : ∀ r, r = q_told (σ 7 2) (σ 41 1) (σ 10 3) (σ 2 4) (σ 2 5) (σ 2 6) (σ 2 7) (σ 6) (σ 3) (σ 4) (σ 5) (σ 8) (σ 9) w → K (some (iV r)) σ) : mj_Ok (n + 4) i_S_told [rV 11 0 0, iV w] σ K := by
  have hcc : 0 ≤ σ 2 4 ∧ σ 2 4 ≤ 8 := hC.1.1.1
  unfold q_told at hK
  refine mj_enter (by decide) (Nat.le_of_ble_eq_true rfl) (fun hg => ?_)
  refine r_S_told [] 600 ?_
  by_cases e0 : w = 0
  · rw [if_pos e0] at hK; subst e0
    repeat' (first | (refine mj_ite (fun h => ?_) (fun h => ?_) <;> first | (exfalso; omega) | skip) | refine mj_vci (by first | omega | (simp (disch := omega) only [up_ne, up_at, q_up_at, q_up_ne, cp_ne]; omega)) ?_)
    exact hK _ rfl
  rw [if_neg e0] at hK
  by_cases e1 : w = 1
  · rw [if_pos e1] at hK; subst e1
    repeat' (first | (refine mj_ite (fun h => ?_) (fun h => ?_) <;> first | (exfalso; omega) | skip) | refine mj_vci (by first | omega | (simp (disch := omega) only [up_ne, up_at, q_up_at, q_up_ne, cp_ne]; omega)) ?_)
    exact c_Border_bitsOfPersons (b := 2) hcc (hK _ rfl)
  rw [if_neg e1] at hK
  by_cases e2 : w = 2
  · rw [if_pos e2] at hK; subst e2
    repeat' (first | (refine mj_ite (fun h => ?_) (fun h => ?_) <;> first | (exfalso; omega) | skip) | refine mj_vci (by first | omega | (simp (disch := omega) only [up_ne, up_at, q_up_at, q_up_ne, cp_ne]; omega)) ?_)
    exact c_Border_measure (b := 2) (hK _ rfl)
  rw [if_neg e2] at hK
  by_cases e3 : w = 3
  · rw [if_pos e3] at hK; subst e3
    repeat' (first | (refine mj_ite (fun h => ?_) (fun h => ?_) <;> first | (exfalso; omega) | skip) | refine mj_vci (by first | omega | (simp (disch := omega) only [up_ne, up_at, q_up_at, q_up_ne, cp_ne]; omega)) ?_)
    exact c_Border_measure (b := 2) (hK _ rfl)
  rw [if_neg e3] at hK
  by_cases e4 : w = 4
  · rw [if_pos e4] at hK; subst e4
    repeat' (first | (refine mj_ite (fun h => ?_) (fun h => ?_) <;> first | (exfalso; omega) | skip) | refine mj_vci (by first | omega | (simp (disch := omega) only [up_ne, up_at, q_up_at, q_up_ne, cp_ne]; omega)) ?_)
    exact c_Border_measure (b := 2) (hK _ rfl)
  rw [if_neg e4] at hK
  by_cases e5 : w = 5
  · rw [if_pos e5] at hK; subst e5
    repeat' (first | (refine mj_ite (fun h => ?_) (fun h => ?_) <;> first | (exfalso; omega) | skip) | refine mj_vci (by first | omega | (simp (disch := omega) only [up_ne, up_at, q_up_at, q_up_ne, cp_ne]; omega)) ?_)
    exact hK _ rfl
  rw [if_neg e5] at hK
  by_cases e6 : w = 6
  · rw [if_pos e6] at hK; subst e6
    repeat' (first | (refine mj_ite (fun h => ?_) (fun h => ?_) <;> first | (exfalso; omega) | skip) | refine mj_vci (by first | omega | (simp (disch := omega) only [up_ne, up_at, q_up_at, q_up_ne, cp_ne]; omega)) ?_)
    exact hK _ rfl
  rw [if_neg e6] at hK
  by_cases e7 : 10 ≤ w ∧ w ≤ 17
  · rw [if_pos e7] at hK
    repeat' (first | (refine mj_ite (fun h => ?_) (fun h => ?_) <;> first | (exfalso; omega) | skip) | refine mj_vci (by first | omega | (simp (disch := omega) only [up_ne, up_at, q_up_at, q_up_ne, cp_ne]; omega)) ?_)
    refine c_Border_whoInPlace (b := 2) hcc (fun a1 a2 => ?_) (fun a0 => ?_)
    · rw [if_pos a2] at hK; exact hK _ rfl
    · rw [if_neg (fun q => a0 ⟨by omega, q⟩)] at hK; exact hK _ rfl
  rw [if_neg e7] at hK
  by_cases e8 : 20 ≤ w ∧ w ≤ 99
  · rw [if_pos e8] at hK
    repeat' (first | (refine mj_ite (fun h => ?_) (fun h => ?_) <;> first | (exfalso; omega) | skip) | refine mj_vci (by first | omega | (simp (disch := omega) only [up_ne, up_at, q_up_at, q_up_ne, cp_ne]; omega)) ?_)
    exact c_S_tellPerson hC (by omega) (by omega) hK
  rw [if_neg e8] at hK
  by_cases e9 : 100 ≤ w ∧ w ≤ 107
  · rw [if_pos e9] at hK
    repeat' (first | (refine mj_ite (fun h => ?_) (fun h => ?_) <;> first | (exfalso; omega) | skip) | refine mj_vci (by first | omega | (simp (disch := omega) only [up_ne, up_at, q_up_at, q_up_ne, cp_ne]; omega)) ?_)
    exact c_S_tellVillage hC (by omega) hK
  rw [if_neg e9] at hK
  repeat' (first | (refine mj_ite (fun h => ?_) (fun h => ?_) <;> first | (exfalso; omega) | skip) | refine mj_vci (by first | omega | (simp (disch := omega) only [up_ne, up_at, q_up_at, q_up_ne, cp_ne]; omega)) ?_)
  all_goals exact hK _ rfl
end S3
