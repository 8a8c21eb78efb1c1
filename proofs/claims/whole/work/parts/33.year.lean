/-! a year -/
noncomputable def q_yrF (reach : Int) : Nat → Int → q_B → Int → q_B × Int
  | 0, _, B, s => (B, s)
  | k + 1, x, B, s => if ((75 * x + 74) % 65537) % 5 = 0 then q_yrF reach k ((75 * x + 74) % 65537) (q_ad B (3, 0, 0, 0)) s
    else if q_aw reach B (0, (75 * x + 74) % 65537 % 8, (75 * x + 74) % 65537 / 8 % 4, 1 + (75 * x + 74) % 65537 / 32 % 3) = 0 then q_yrF reach k ((75 * x + 74) % 65537) (q_ad B (0, (75 * x + 74) % 65537 % 8, (75 * x + 74) % 65537 / 8 % 4, 1 + (75 * x + 74) % 65537 / 32 % 3)) (s + (1 + (75 * x + 74) % 65537 / 32 % 3))
    else q_yrF reach k ((75 * x + 74) % 65537) B s
theorem q_wB_yr {reach : Int} (hr : reach ≤ 99) : ∀ (k : Nat) (x : Int) (B : q_B) (s : Int), q_wB B → q_wB (q_yrF reach k x B s).1
  | 0, x, B, s, h => h
  | k + 1, x, B, s, h => by
    unfold q_yrF
    split
    · exact q_wB_yr hr k _ _ _ (q_wB_night h)
    · split
      · rename_i e
        exact q_wB_yr hr k _ _ _ (q_wB_walk h hr (by omega) e)
      · exact q_wB_yr hr k _ _ _ h
section S4
variable {n b yy : Nat} {σ : mj_W} {K : Option mj_V → mj_W → Prop} {x y p w i j c d m : Int} {l : List q_A}
theorem c_Year_walkIfPossible (hW : q_wB (q_BC σ b)) (hp : 0 ≤ p ∧ p ≤ 7) (hd : 0 ≤ d ∧ d ≤ 3) (hw : 1 ≤ w ∧ w ≤ 9) (hs : -100000 ≤ σ yy 0 ∧ σ yy 0 ≤ 100000) (hyb : yy < b ∨ b + 4 < yy) (hno : q_aw (σ b 7) (q_BC σ b) (0, p, d, w) ≠ 0 → K none σ) (hyes : q_aw (σ b 7) (q_BC σ b) (0, p, d, w) = 0 → ∀ σ', q_BC σ' b = q_ad (q_BC σ b) (0, p, d, w) → (∀ i, i ≠ 4 → σ' b i = σ b i) → σ' yy = q_up (σ yy) 0 (σ yy 0 + w) → (∀ o, o ≠ b → o ≠ b + 1 → o ≠ b + 2 → o ≠ b + 3 → o ≠ b + 4 → o ≠ yy → σ' o = σ o) → K none σ') : mj_Ok (n + 3) i_Year_walkIfPossible [rV 10 0 yy, rV 1 0 b, iV p, iV d, iV w] σ K := by
  obtain ⟨hc, hr, hx, hy, hz, -⟩ := hW
  have x0 := hx p
  have y0 := hy p
  have z0 := hz p
  have hz' : ∀ i, 0 ≤ σ (b + 3) i ∧ σ (b + 3) i ≤ 200 := fun i => by have := hz i; dsimp only at this; omega
  have e0 : q_aw (σ b 7) (q_BC σ b) (0, p, d, w) = if q_fnd (σ (b + 4)) (σ b 4) p = -6 then 1 else q_why (σ b 4) (σ b 7) (σ (b + 4)) (σ (b + 1)) (σ (b + 2)) (σ (b + 3)) p d w := rfl
  have e1 : q_aw (σ b 7) (q_BC σ b) (0, p, d, w) = q_why (σ b 4) (σ b 7) (σ (b + 4)) (σ (b + 1)) (σ (b + 2)) (σ (b + 3)) p d w := by
    rw [e0]
    by_cases q : q_fnd (σ (b + 4)) (σ b 4) p = -6
    · rw [if_pos q]; unfold q_why; rw [if_pos q]
    · rw [if_neg q]
  rw [e1] at hno hyes
  refine mj_enter (by decide) (Nat.le_of_ble_eq_true rfl) (fun hg => ?_)
  refine r_Year_walkIfPossible [] 600 ?_
  refine c_Border_whyNoWalk hc hr hx hy hz' hd (by omega) (fun r hr9 => ?_)
  by_cases hr0 : r = 0
  · subst hr0
    repeat' (first | (refine mj_ite (fun h => ?_) (fun h => ?_) <;> first | (exfalso; omega) | skip) | refine mj_vci (by first | omega | (simp (disch := omega) only [up_ne, up_at, q_up_at, q_up_ne, cp_ne]; omega)) ?_)
    dsimp only at x0 y0 z0
    refine c_Border_walk hp hd (by omega) (by omega) (by omega) (by omega) (fun σ' s1 s2 s3 s4 => ?_)
    have sd := s4 yy (by omega) (by omega) (by omega)
    have f1 : σ' yy 0 = σ yy 0 := by rw [sd]
    repeat' (first | (refine mj_ite (fun h => ?_) (fun h => ?_) <;> first | (exfalso; omega) | skip) | refine mj_vci (by first | omega | (simp (disch := omega) only [up_ne, up_at, q_up_at, q_up_ne, cp_ne]; omega)) ?_)
    refine hyes hr9.symm _ ?_ ?_ ?_ ?_
    · show (mj_up σ' yy 0 (σ' yy 0 + w) b 4, mj_up σ' yy 0 (σ' yy 0 + w) (b + 4), mj_up σ' yy 0 (σ' yy 0 + w) (b + 1), mj_up σ' yy 0 (σ' yy 0 + w) (b + 2), mj_up σ' yy 0 (σ' yy 0 + w) (b + 3)) = (σ b 4, σ (b + 4), q_up (σ (b + 1)) p (σ (b + 1) p + w * mj_east d), q_up (σ (b + 2)) p (σ (b + 2) p + w * mj_north d), q_up (σ (b + 3)) p (σ (b + 3) p + w))
      simp (disch := omega) only [up_ne, s1, s2, s3, s4]
    · intro i hi
      simp (disch := omega) only [up_ne, s4]
    · rw [up_at, sd]
    · intro o g1 g2 g3 g4 g5 g6
      simp (disch := omega) only [up_ne, s4]
  · refine mj_ite (fun h => absurd h hr0) (fun h => ?_)
    exact hno (by rw [← hr9]; exact hr0)
theorem l_Year_pass (hl : mj_ln (b + 3) = 8) (hrch : σ b 7 ≤ 99) (hyb : yy < b ∨ b + 4 < yy) (hm : m ≤ 99) {R : q_B × Int} {seed : Int} (hK : ∀ σ', q_BC σ' b = R.1 → (∀ i, i ≠ 4 → σ' b i = σ b i) → σ' yy 0 = R.2 → (∀ o, o ≠ b → o ≠ b + 1 → o ≠ b + 2 → o ≠ b + 3 → o ≠ b + 4 → o ≠ yy → σ' o = σ o) → K none σ') :
    ∀ (k : Nat) (i x : Int) (τ : mj_W), 0 ≤ i → i + k = m → (0 ≤ x ∧ x ≤ 65536) → q_wB (q_BC τ b) → (∀ j, j ≠ 4 → τ b j = σ b j) → (0 ≤ τ yy 0 ∧ τ yy 0 ≤ 3 * i) → (∀ o, o ≠ b → o ≠ b + 1 → o ≠ b + 2 → o ≠ b + 3 → o ≠ b + 4 → o ≠ yy → τ o = σ o) → q_yrF (σ b 7) k x (q_BC τ b) (τ yy 0) = R → mj_Wm i_Year_pass (n + 4) K 11 [some (rV 10 0 yy), some (rV 1 0 b), some (iV seed), some (iV m), some (iV x), some (iV i)] [] τ := by
  intro k
  induction k with
  | zero =>
    intro i x τ h0 h1 hx hW hf hy0 hfr hR
    refine r_Year_pass [(11, [true, true, true, true, true, true])] 600 ?_
    repeat' (first | (refine mj_ite (fun h => ?_) (fun h => ?_) <;> first | (exfalso; omega) | skip) | refine mj_vci (by first | omega | (simp (disch := omega) only [up_ne, up_at, q_up_at, q_up_ne, cp_ne]; omega)) ?_)
    exact hK τ (by rw [← hR]; rfl) hf (by rw [← hR]; rfl) hfr
  | succ k ih =>
    intro i x τ h0 h1 hx hW hf hy0 hfr hR
    unfold q_yrF at hR
    have t7 : τ b 7 = σ b 7 := hf 7 (by omega)
    refine r_Year_pass [(11, [true, true, true, true, true, true])] 600 ?_
    repeat' (first | (refine mj_ite (fun h => ?_) (fun h => ?_) <;> first | (exfalso; omega) | skip) | refine mj_vci (by first | omega | (simp (disch := omega) only [up_ne, up_at, q_up_at, q_up_ne, cp_ne]; omega)) ?_)
    · rw [if_pos h] at hR
      refine c_Border_endDay hl (fun σ' s1 s2 => ?_)
      repeat' (first | (refine mj_ite (fun h => ?_) (fun h => ?_) <;> first | (exfalso; omega) | skip) | refine mj_vci (by first | omega | (simp (disch := omega) only [up_ne, up_at, q_up_at, q_up_ne, cp_ne]; omega)) ?_)
      have eB : q_BC σ' b = q_ad (q_BC τ b) (3, 0, 0, 0) := by
        show (_, _, _, _, _) = (_, _, _, _, _)
        rw [s1, s2 b (by omega), s2 (b + 1) (by omega), s2 (b + 2) (by omega), s2 (b + 4) (by omega)]
      have ey : σ' yy = τ yy := s2 yy (by omega)
      refine ih (i + 1) _ σ' (by omega) (by omega) (by omega) (by rw [eB]; exact q_wB_night hW) (fun j hj => by rw [s2 b (by omega)]; exact hf j hj) (by rw [ey]; omega) (fun o o1 o2 o3 o4 o5 o6 => by rw [s2 o o4]; exact hfr o o1 o2 o3 o4 o5 o6) (by rw [eB, ey]; exact hR)
    · rw [if_neg h] at hR
      generalize hx' : (75 * x + 74) % 65537 = x' at *
      have hxb : 0 ≤ x' ∧ x' ≤ 65536 := by omega
      refine c_Year_walkIfPossible hW (by omega) (by omega) (by omega) (by omega) hyb (fun q => ?_) (fun q σ' s1 s2 s3 s4 => ?_)
      · rw [t7] at q
        rw [if_neg q] at hR
        repeat' (first | (refine mj_ite (fun h => ?_) (fun h => ?_) <;> first | (exfalso; omega) | skip) | refine mj_vci (by first | omega | (simp (disch := omega) only [up_ne, up_at, q_up_at, q_up_ne, cp_ne]; omega)) ?_)
        exact ih (i + 1) _ τ (by omega) (by omega) (by omega) hW hf (by omega) hfr hR
      · rw [t7] at q
        rw [if_pos q] at hR
        have ey : σ' yy 0 = τ yy 0 + (1 + x' / 32 % 3) := by rw [s3, q_up_at]
        repeat' (first | (refine mj_ite (fun h => ?_) (fun h => ?_) <;> first | (exfalso; omega) | skip) | refine mj_vci (by first | omega | (simp (disch := omega) only [up_ne, up_at, q_up_at, q_up_ne, cp_ne]; omega)) ?_)
        exact ih (i + 1) _ σ' (by omega) (by omega) (by omega) (by rw [s1]; exact q_wB_walk hW hrch (by omega) q) (fun j hj => by rw [s2 j hj]; exact hf j hj) (by omega) (fun o o1 o2 o3 o4 o5 o6 => by rw [s4 o o1 o2 o3 o4 o5 o6]; exact hfr o o1 o2 o3 o4 o5 o6) (by rw [s1, ey]; exact hR)
theorem c_Year_pass {seed : Int} (hl : mj_ln (b + 3) = 8) (hW : q_wB (q_BC σ b)) (hrch : σ b 7 ≤ 99) (hyb : yy < b ∨ b + 4 < yy) (hsd : 0 ≤ seed ∧ seed ≤ 9999) (hm : 1 ≤ m ∧ m ≤ 99) (hK : ∀ σ', q_BC σ' b = (q_yrF (σ b 7) m.toNat seed (q_BC σ b) 0).1 → (∀ i, i ≠ 4 → σ' b i = σ b i) → σ' yy 0 = (q_yrF (σ b 7) m.toNat seed (q_BC σ b) 0).2 → (∀ o, o ≠ b → o ≠ b + 1 → o ≠ b + 2 → o ≠ b + 3 → o ≠ b + 4 → o ≠ yy → σ' o = σ o) → K none σ') : mj_Ok (n + 4) i_Year_pass [rV 10 0 yy, rV 1 0 b, iV seed, iV m] σ K := by
  refine mj_enter (by decide) (Nat.le_of_ble_eq_true rfl) (fun hg => ?_)
  refine r_Year_pass [(11, [true, true, true, true, true, true])] 600 ?_
  have eB : q_BC (mj_up σ yy 0 0) b = q_BC σ b := by
    show (_, _, _, _, _) = (_, _, _, _, _)
    simp (disch := omega) only [up_ne]
  refine l_Year_pass hl hrch hyb hm.2 hK m.toNat 0 seed _ (by omega) (by omega) (by omega) (by rw [eB]; exact hW) (fun j hj => by rw [up_ne _ _ _ (by omega)]) (by rw [up_at, q_up_at]; omega) (fun o o1 o2 o3 o4 o5 o6 => by rw [up_ne _ _ _ o6]) (by rw [eB, up_at, q_up_at])
noncomputable abbrev q_Y1 (σ : mj_W) (seed m : Int) : q_B × Int := q_yrF (σ 2 7) m.toNat seed (q_BC σ 2) 0
theorem c_S_year {seed : Int} (hC : q_C σ) (h1 : ¬ (0 ≤ seed ∧ seed ≤ 9999 ∧ 1 ≤ m ∧ m ≤ 99 ∧ 0 ≤ w ∧ w ≤ 2) → K (some (iV (-2))) σ) (h2 : (0 ≤ seed ∧ seed ≤ 9999 ∧ 1 ≤ m ∧ m ≤ 99 ∧ 0 ≤ w ∧ w ≤ 2) → ∀ r σ', q_Fc σ σ' → r = (if w = 0 then q_south (q_cx (q_Y1 σ seed m).1.1 (q_Y1 σ seed m).1.2.1 (q_Y1 σ seed m).1.2.2.1) (q_cy (q_Y1 σ seed m).1.1 (σ 2 5) (σ 2 6) (q_Y1 σ seed m).1.2.1 (q_Y1 σ seed m).1.2.2.2.1) ((q_Y1 σ seed m).1.1 + 1) else if w = 1 then (q_Y1 σ seed m).2 else if q_pinch (q_cx (q_Y1 σ seed m).1.1 (q_Y1 σ seed m).1.2.1 (q_Y1 σ seed m).1.2.2.1) (q_cy (q_Y1 σ seed m).1.1 (σ 2 5) (σ 2 6) (q_Y1 σ seed m).1.2.1 (q_Y1 σ seed m).1.2.2.2.1) ((q_Y1 σ seed m).1.1 + 1) = -6 then 0 else 1) → K (some (iV r)) σ') : mj_Ok (n + 6) i_S_year [rV 11 0 0, iV seed, iV m, iV w] σ K := by
  obtain ⟨h0, -⟩ := hC
  by_cases hin : 0 ≤ seed ∧ seed ≤ 9999 ∧ 1 ≤ m ∧ m ≤ 99 ∧ 0 ≤ w ∧ w ≤ 2
  · refine mj_enter (by decide) (Nat.le_of_ble_eq_true rfl) (fun hg => ?_)
    refine r_S_year [] 600 ?_
    repeat' (first | (refine mj_ite (fun h => ?_) (fun h => ?_) <;> first | (exfalso; omega) | skip) | refine mj_vci (by first | omega | (simp (disch := omega) only [up_ne, up_at, q_up_at, q_up_ne, cp_ne]; omega)) ?_)
    refine c_Border_copyFrom (b := 44) (o := 2) (by omega) (by decide +kernel) (by decide +kernel) (fun σ1 s1 s2 s3 s4 s5 s6 s7 s8 s9 => ?_)
    have eB : q_BC σ1 44 = q_BC σ 2 := by
      show (_, _, _, _, _) = (_, _, _, _, _)
      rw [s1, s5, s6, s7, s8]
    refine c_Year_pass (b := 44) (yy := 57) (by decide +kernel) (by rw [eB]; exact h0.1) (by rw [s4]; exact h0.2.2.2.2) (by omega) (by omega) (by omega) (fun σ2 t1 t2 t3 t4 => ?_)
    rw [eB, s4] at t1 t3
    have t1 : q_BC σ2 44 = (q_Y1 σ seed m).1 := t1
    have t3 : σ2 57 0 = (q_Y1 σ seed m).2 := t3
    have hW : q_wB (q_Y1 σ seed m).1 := q_wB_yr h0.2.2.2.2 _ _ _ _ h0.1
    have b5 : σ2 44 5 = σ 2 5 := by rw [t2 5 (by omega), s2]
    have b6 : σ2 44 6 = σ 2 6 := by rw [t2 6 (by omega), s3]
    have hf : q_Fc σ σ2 := fun o ho => (t4 o (by omega) (by omega) (by omega) (by omega) (by omega) (by omega)).trans (s9 o (by omega) (by omega) (by omega) (by omega) (by omega))
    have g44 : q_gB σ2 44 := q_gB_of (by rw [t1]; exact hW) (by rw [b5]; exact h0.2.1) (by rw [b6]; exact h0.2.2.1)
    have key := fun r => h2 hin r σ2 hf
    rw [← t1, ← t3, ← b5, ← b6] at key
    repeat' (first | (refine mj_ite (fun h => ?_) (fun h => ?_) <;> first | (exfalso; omega) | skip) | refine mj_vci (by first | omega | (simp (disch := omega) only [up_ne, up_at, q_up_at, q_up_ne, cp_ne]; omega)) ?_)
    · rw [if_pos h] at key
      exact c_Border_twiceSouth (b := 44) g44 (key _ rfl)
    · rename_i h9
      rw [if_neg h9, if_pos h] at key
      exact key _ rfl
    · rename_i h9
      rw [if_neg h9, if_neg h] at key
      refine c_Border_firstPinch (b := 44) g44 (fun r hr => ?_)
      have hr : r = q_pinch (q_cx (q_BC σ2 44).1 (q_BC σ2 44).2.1 (q_BC σ2 44).2.2.1) (q_cy (q_BC σ2 44).1 (σ2 44 5) (σ2 44 6) (q_BC σ2 44).2.1 (q_BC σ2 44).2.2.2.1) ((q_BC σ2 44).1 + 1) := hr
      rw [← hr] at key
      repeat' (first | (refine mj_ite (fun h => ?_) (fun h => ?_) <;> first | (exfalso; omega) | skip) | refine mj_vci (by first | omega | (simp (disch := omega) only [up_ne, up_at, q_up_at, q_up_ne, cp_ne]; omega)) ?_)
      · rw [if_pos (by assumption)] at key; exact key _ rfl
      · rw [if_neg (by assumption)] at key; exact key _ rfl
  · refine mj_enter (by decide) (Nat.le_of_ble_eq_true rfl) (fun hg => ?_)
    refine r_S_year [] 600 ?_
    repeat' (first | (refine mj_ite (fun h => ?_) (fun h => ?_) <;> first | (exfalso; omega) | skip) | refine mj_vci (by first | omega | (simp (disch := omega) only [up_ne, up_at, q_up_at, q_up_ne, cp_ne]; omega)) ?_)
    all_goals exact h1 hin
end S4
