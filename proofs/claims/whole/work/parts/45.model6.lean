/-! the model lays its line: of the persons in a set S (bits), in the row's order -/
def q_flt (row : Int → Int) (S : Int) : Int → Nat → Int × (Int → Int) → Int × (Int → Int)
  | _, 0, a => a
  | i, k + 1, a => q_flt row S (i + 1) k (if q_tb S (row i) = true then (a.1 + 1, q_up a.2 a.1 (row i)) else a)
def q_laid (σ σ' : mj_W) (g : Nat) (F : Int × (Int → Int)) : Prop := (∀ c, 0 ≤ c → c ≤ F.1 + 1 → σ' (g + 16) c = q_cx F.1 F.2 (σ (g + 2)) c) ∧ (∀ c, 0 ≤ c → c ≤ F.1 + 1 → σ' (g + 17) c = q_cy F.1 (σ g 5) (σ g 6) F.2 (σ (g + 3)) c) ∧ σ' g = q_up (σ g) 28 (F.1 + 1) ∧ (∀ o, o ≠ g → o ≠ g + 16 → o ≠ g + 17 → σ' o = σ o)
section M6
variable {n g : Nat} {σ : mj_W} {K : Option mj_V → mj_W → Prop} {x y p w i j c d S : Int}
theorem l_M_layLineOf (hc : 0 ≤ σ g 0 ∧ σ g 0 ≤ 8) (hr : ∀ i, 0 ≤ σ (g + 1) i ∧ σ (g + 1) i ≤ 7) (hS : 0 ≤ S ∧ S ≤ 255) :
    ∀ (m : Nat) (i : Int) (a : Int × (Int → Int)) (τ : mj_W), 0 ≤ i → i + m = σ g 0 → 0 ≤ a.1 → a.1 ≤ i → τ (g + 16) 0 = -1 → τ (g + 17) 0 = σ g 5 → (∀ c, 1 ≤ c → c ≤ a.1 → τ (g + 16) c = σ (g + 2) (a.2 (c - 1)) ∧ τ (g + 17) c = σ (g + 3) (a.2 (c - 1))) → (∀ o, o ≠ g + 16 → o ≠ g + 17 → τ o = σ o) → (∀ σ', q_laid σ σ' g (q_flt (σ (g + 1)) S i m a) → K none σ') → mj_Wm i_M_layLineOf (n + 2) K 14 [some (rV 12 0 g), some (iV S), some (iV a.1), some (iV i)] [] τ := by
  intro m
  induction m with
  | zero =>
    intro i a τ h0 h1 h2 h3 t1 t2 t3 t4 hK
    have tg := t4 g (by omega) (by omega)
    have f0 : τ g 0 = σ g 0 := by rw [tg]
    have u1 : mj_up τ g 28 (a.1 + 1) g 28 = a.1 + 1 := by rw [up_at, q_up_at]
    have u2 : mj_up τ g 28 (a.1 + 1) g 6 = σ g 6 := by rw [up_at, q_up_ne _ _ (by omega), tg]
    refine r_M_layLineOf [(14, [true, true, true, true])] 600 ?_
    repeat' (first | (refine mj_ite (fun h => ?_) (fun h => ?_) <;> first | (exfalso; omega) | skip) | refine mj_vci (by first | omega | (simp (disch := omega) only [up_ne, up_at, q_up_at, q_up_ne, cp_ne]; omega)) ?_)
    simp only [u1, u2]
    refine c_M_addPoint (by omega) ?_
    repeat' (first | (refine mj_ite (fun h => ?_) (fun h => ?_) <;> first | (exfalso; omega) | skip) | refine mj_vci (by first | omega | (simp (disch := omega) only [up_ne, up_at, q_up_at, q_up_ne, cp_ne]; omega)) ?_)
    refine hK _ ⟨?_, ?_, ?_, ?_⟩
    · intro c c0 c1
      unfold q_flt at c1 ⊢
      simp only [u1, u2]
      simp (disch := omega) only [up_ne, up_at]
      unfold q_up q_cx
      by_cases k1 : c = 0
      · subst k1; rw [if_neg (by omega), if_pos (by omega)]; exact t1
      by_cases k2 : c = a.1 + 1
      · rw [if_pos k2, if_neg (by omega), if_pos (by omega)]
      · rw [if_neg k2, if_neg (by omega), if_neg (by omega)]; exact (t3 c (by omega) (by omega)).1
    · intro c c0 c1
      unfold q_flt at c1 ⊢
      simp only [u1, u2]
      simp (disch := omega) only [up_ne, up_at]
      unfold q_up q_cy
      by_cases k1 : c = 0
      · subst k1; rw [if_neg (by omega), if_pos (by omega)]; exact t2
      by_cases k2 : c = a.1 + 1
      · rw [if_pos k2, if_neg (by omega), if_pos (by omega)]
      · rw [if_neg k2, if_neg (by omega), if_neg (by omega)]; exact (t3 c (by omega) (by omega)).2
    · unfold q_flt
      simp (disch := omega) only [up_ne, up_at, tg]
    · intro o o1 o2 o3
      simp (disch := omega) only [up_ne]
      exact t4 o o2 o3
  | succ m ih =>
    intro i a τ h0 h1 h2 h3 t1 t2 t3 t4 hK
    have tg := t4 g (by omega) (by omega)
    have tr := t4 (g + 1) (by omega) (by omega)
    have tx := t4 (g + 2) (by omega) (by omega)
    have ty := t4 (g + 3) (by omega) (by omega)
    have f0 : τ g 0 = σ g 0 := by rw [tg]
    have hri := hr i
    have hs := (q_tbs hS (hr i)).2.1
    unfold q_flt at hK
    rw [← tr] at hri hs
    have trj : τ (g + 1) i = σ (g + 1) i := by rw [tr]
    by_cases ht : q_tb S (σ (g + 1) i) = true
    · rw [if_pos ht] at hK
      rw [tr, if_pos ht, ← tr] at hs
      refine r_M_layLineOf [(14, [true, true, true, true])] 600 ?_
      repeat' (first | (refine mj_ite (fun h => ?_) (fun h => ?_) <;> first | (exfalso; omega) | skip) | refine mj_vci (by first | omega | (simp (disch := omega) only [up_ne, up_at, q_up_at, q_up_ne, cp_ne]; omega)) ?_)
      refine c_M_addPoint (by omega) ?_
      repeat' (first | (refine mj_ite (fun h => ?_) (fun h => ?_) <;> first | (exfalso; omega) | skip) | refine mj_vci (by first | omega | (simp (disch := omega) only [up_ne, up_at, q_up_at, q_up_ne, cp_ne]; omega)) ?_)
      refine ih (i + 1) (a.1 + 1, q_up a.2 a.1 (σ (g + 1) i)) _ (by omega) (by omega) (by show 0 ≤ a.1 + 1; omega) (by show a.1 + 1 ≤ i + 1; omega) ?_ ?_ ?_ ?_ hK
      · simp (disch := omega) only [up_ne, up_at]
        rw [q_up_ne _ _ (by omega)]; exact t1
      · simp (disch := omega) only [up_ne, up_at]
        rw [q_up_ne _ _ (by omega)]; exact t2
      · intro c c0 c1
        have c1 : c ≤ a.1 + 1 := c1
        simp (disch := omega) only [up_ne, up_at]
        rw [tr, tx, ty]
        unfold q_up
        by_cases k2 : c = a.1 + 1
        · rw [if_pos k2, if_pos k2, if_pos (by omega)]; exact ⟨rfl, rfl⟩
        · rw [if_neg k2, if_neg k2, if_neg (by omega)]; exact t3 c c0 (by omega)
      · intro o o1 o2
        simp (disch := omega) only [up_ne]
        exact t4 o o1 o2
    · rw [if_neg ht] at hK
      rw [tr, if_neg ht, ← tr] at hs
      refine r_M_layLineOf [(14, [true, true, true, true])] 600 ?_
      repeat' (first | (refine mj_ite (fun h => ?_) (fun h => ?_) <;> first | (exfalso; omega) | skip) | refine mj_vci (by first | omega | (simp (disch := omega) only [up_ne, up_at, q_up_at, q_up_ne, cp_ne]; omega)) ?_)
      exact ih (i + 1) a τ (by omega) (by omega) h2 (by omega) t1 t2 t3 t4 hK
theorem c_M_layLineOf (hc : 0 ≤ σ g 0 ∧ σ g 0 ≤ 8) (hr : ∀ i, 0 ≤ σ (g + 1) i ∧ σ (g + 1) i ≤ 7) (hS : 0 ≤ S ∧ S ≤ 255) (hK : ∀ σ', q_laid σ σ' g (q_flt (σ (g + 1)) S 0 (σ g 0).toNat (0, fun _ => 0)) → K none σ') : mj_Ok (n + 2) i_M_layLineOf [rV 12 0 g, iV S] σ K := by
  refine mj_enter (by decide) (Nat.le_of_ble_eq_true rfl) (fun hg => ?_)
  refine r_M_layLineOf [(14, [true, true, true, true])] 600 ?_
  refine c_M_addPoint (by omega) ?_
  repeat' (first | (refine mj_ite (fun h => ?_) (fun h => ?_) <;> first | (exfalso; omega) | skip) | refine mj_vci (by first | omega | (simp (disch := omega) only [up_ne, up_at, q_up_at, q_up_ne, cp_ne]; omega)) ?_)
  refine l_M_layLineOf hc hr hS (σ g 0).toNat 0 (0, fun _ => 0) _ (by omega) (by omega) (by show (0 : Int) ≤ 0; omega) (by show (0 : Int) ≤ 0; omega) ?_ ?_ ?_ ?_ hK
  · simp (disch := omega) only [up_ne, up_at, q_up_at]
  · simp (disch := omega) only [up_ne, up_at, q_up_at]
  · intro c c0 c1
    have c1 : c ≤ 0 := c1
    omega
  · intro o o1 o2
    simp (disch := omega) only [up_ne]
end M6
