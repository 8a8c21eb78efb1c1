/-! who moved where: the class, gathered -/
theorem q_askF_in {bits : Int} {L : Int → Int} : ∀ (k : Nat) (i a : Int), 0 ≤ i → (a = -6 ∨ 0 ≤ a) → q_askF bits L k i a = -6 ∨ 0 ≤ q_askF bits L k i a := by
  intro k
  induction k with
  | zero => intro i a h0 h; exact h
  | succ k ih =>
    intro i a h0 h
    unfold q_askF
    refine ih (i + 1) _ (by omega) ?_
    split <;> omega
section S8
variable {n b mm v bk : Nat} {σ : mj_W} {K : Option mj_V → mj_W → Prop} {x y p w i j c d s pl m N : Int} {E : q_E} {t : q_mv}
theorem l_gatherA (hW : q_wB (q_BC σ b)) (h5 : 0 ≤ σ b 5 ∧ σ b 5 ≤ 40) (h6 : 0 ≤ σ b 6 ∧ σ b 6 ≤ 40) (hV : q_vo σ (bk + 6)) (hS : q_so σ (bk + 9)) (hd1 : bk + 12 < b) (hd2 : b + 4 < mm) {R : q_mv} (hK : ∀ σ', (∀ o, o ≠ mm → o ≠ mm + 1 → σ' o = σ o) → q_mvC σ' mm (σ (bk + 6) 2) R → q_mvb R 800 → K none σ') :
    ∀ (k : Nat) (p : Int) (τ : mj_W) (t : q_mv), 0 ≤ p → p + k = 8 → (∀ o, o ≠ mm → o ≠ mm + 1 → τ o = σ o) → q_mvC τ mm (σ (bk + 6) 2) t → q_mvb t (1 + 49 * p) → q_mvA (q_EC σ bk b) (q_BC σ b) k p t = R → mj_Wm i_Moves_gather (n + 7) K 62 [some (rV 4 0 mm), some (rV 0 0 bk), some (rV 1 0 b), some (iV p)] [] τ := by
  intro k
  induction k with
  | zero =>
    intro p τ t h0 h1 hf hm hb hR
    have hR : t = R := hR
    subst hR
    refine r_Moves_gather [(62, [true, true, true, true])] 600 ?_
    repeat' (first | (refine mj_ite (fun h => ?_) (fun h => ?_) <;> first | (exfalso; omega) | skip) | refine mj_vci (by first | omega | (simp (disch := omega) only [up_ne, up_at, q_up_at, q_up_ne, cp_ne]; omega)) ?_)
    exact hK τ hf hm (q_mvb_up hb (by omega))
  | succ k ih =>
    intro p τ t h0 h1 hf hm hb hR
    unfold q_mvA at hR
    have tb : τ b = σ b := hf b (by omega) (by omega)
    have tb1 : τ (b + 1) = σ (b + 1) := hf (b + 1) (by omega) (by omega)
    have tb2 : τ (b + 2) = σ (b + 2) := hf (b + 2) (by omega) (by omega)
    have tb3 : τ (b + 3) = σ (b + 3) := hf (b + 3) (by omega) (by omega)
    have tb4 : τ (b + 4) = σ (b + 4) := hf (b + 4) (by omega) (by omega)
    have tv : τ (bk + 6) = σ (bk + 6) := hf (bk + 6) (by omega) (by omega)
    have eB : q_BC τ b = q_BC σ b := by
      show (_, _, _, _, _) = (_, _, _, _, _)
      rw [tb, tb1, tb2, tb3, tb4]
    have eE : q_EC τ bk b = q_EC σ bk b := by
      unfold q_EC
      rw [tb, hf (bk + 6 + 1) (by omega) (by omega), hf (bk + 6 + 2) (by omega) (by omega), hf (bk + 9) (by omega) (by omega), hf (bk + 9 + 1) (by omega) (by omega), hf (bk + 9 + 2) (by omega) (by omega), hf (bk + 9 + 3) (by omega) (by omega)]
    have tV : q_vo τ (bk + 6) := by
      unfold q_vo
      rw [tv, hf (bk + 6 + 1) (by omega) (by omega), hf (bk + 6 + 2) (by omega) (by omega)]
      exact hV
    have tS : q_so τ (bk + 9) := by
      unfold q_so
      rw [hf (bk + 9) (by omega) (by omega), hf (bk + 9 + 1) (by omega) (by omega), hf (bk + 9 + 2) (by omega) (by omega), hf (bk + 9 + 3) (by omega) (by omega)]
      exact hS
    have hc4 : 0 ≤ τ b 4 ∧ τ b 4 ≤ 8 := by rw [tb]; exact hW.1
    have hR : q_mvA (q_EC σ bk b) (q_BC σ b) k (p + 1) (if q_fnd (σ (b + 4)) (σ b 4) p = -6 then t else q_mvP (q_EC σ bk b) (q_BC σ b) p 49 0 t) = R := hR
    rw [← tb4, ← tb] at hR
    rw [tb] at hR
    have hfe : q_fnd (τ (b + 4)) (τ b 4) p = q_fnd (τ (b + 4)) (σ b 4) p := by rw [tb]
    refine r_Moves_gather [(62, [true, true, true, true])] 600 ?_
    repeat' (first | (refine mj_ite (fun h => ?_) (fun h => ?_) <;> first | (exfalso; omega) | skip) | refine mj_vci (by first | omega | (simp (disch := omega) only [up_ne, up_at, q_up_at, q_up_ne, cp_ne]; omega)) ?_)
    refine c_Border_holds hc4 (fun a1 a2 a3 => ?_) (fun a1 a2 => ?_)
    · rw [if_neg (by omega)] at hR
      repeat' (first | (refine mj_ite (fun h => ?_) (fun h => ?_) <;> first | (exfalso; omega) | skip) | refine mj_vci (by first | omega | (simp (disch := omega) only [up_ne, up_at, q_up_at, q_up_ne, cp_ne]; omega)) ?_)
      refine c_Moves_gatherOf (N := 1 + 49 * p) (by rw [eB]; exact hW) (by rw [tb]; exact h5) (by rw [tb]; exact h6) tV tS hd1 hd2 (by omega) (by omega) (by rw [tv]; exact hm) hb (fun σ1 s1 s2 => ?_)
      rw [tv, eE, eB] at s2
      repeat' (first | (refine mj_ite (fun h => ?_) (fun h => ?_) <;> first | (exfalso; omega) | skip) | refine mj_vci (by first | omega | (simp (disch := omega) only [up_ne, up_at, q_up_at, q_up_ne, cp_ne]; omega)) ?_)
      exact ih (p + 1) σ1 _ (by omega) (by omega) (fun o o1 o2 => (s1 o o1 o2).trans (hf o o1 o2)) s2 (q_mvb_up (q_mvP_b 49 0 t _ hb) (by omega)) hR
    · rw [if_pos (by omega)] at hR
      repeat' (first | (refine mj_ite (fun h => ?_) (fun h => ?_) <;> first | (exfalso; omega) | skip) | refine mj_vci (by first | omega | (simp (disch := omega) only [up_ne, up_at, q_up_at, q_up_ne, cp_ne]; omega)) ?_)
      exact ih (p + 1) τ t (by omega) (by omega) hf hm (q_mvb_up hb (by omega)) hR
theorem l_gatherZ (hK : ∀ τ, (∀ o, o ≠ mm + 1 → τ o = σ o) → (∀ j, 0 ≤ j → j < 24 → τ (mm + 1) j = 0) → mj_Wm i_Moves_gather (n + 7) K 31 [some (rV 4 0 mm), some (rV 0 0 bk), some (rV 1 0 b), none] [] τ) :
    ∀ (k : Nat) (i : Int) (τ : mj_W), 0 ≤ i → i + k = 24 → (∀ o, o ≠ mm + 1 → τ o = σ o) → (∀ j, 0 ≤ j → j < i → τ (mm + 1) j = 0) → mj_Wm i_Moves_gather (n + 7) K 12 [some (rV 4 0 mm), some (rV 0 0 bk), some (rV 1 0 b), some (iV i)] [] τ := by
  intro k
  induction k with
  | zero =>
    intro i τ h0 h1 hf ht
    refine r_Moves_gather [(12, [true, true, true, true]), (31, [true, true, true, false])] 600 ?_
    repeat' (first | (refine mj_ite (fun h => ?_) (fun h => ?_) <;> first | (exfalso; omega) | skip) | refine mj_vci (by first | omega | (simp (disch := omega) only [up_ne, up_at, q_up_at, q_up_ne, cp_ne]; omega)) ?_)
    exact hK τ hf (fun j j0 j1 => ht j j0 (by omega))
  | succ k ih =>
    intro i τ h0 h1 hf ht
    refine r_Moves_gather [(12, [true, true, true, true]), (31, [true, true, true, false])] 600 ?_
    repeat' (first | (refine mj_ite (fun h => ?_) (fun h => ?_) <;> first | (exfalso; omega) | skip) | refine mj_vci (by first | omega | (simp (disch := omega) only [up_ne, up_at, q_up_at, q_up_ne, cp_ne]; omega)) ?_)
    refine ih (i + 1) _ (by omega) (by omega) (fun o ho => by rw [up_ne _ _ _ ho]; exact hf o ho) (fun j j0 j1 => ?_)
    rw [up_at]
    by_cases e : j = i
    · rw [e, q_up_at]
    · rw [q_up_ne _ _ e]; exact ht j j0 (by omega)
theorem c_Moves_gather (hl : mj_ln (b + 1) = 8 ∧ mj_ln (b + 2) = 8 ∧ mj_ln (b + 3) = 8 ∧ mj_ln (b + 4) = 8) (hl' : mj_ln (bk + 1 + 1) = 8 ∧ mj_ln (bk + 1 + 2) = 8 ∧ mj_ln (bk + 1 + 3) = 8 ∧ mj_ln (bk + 1 + 4) = 8) (hL : q_lo σ (bk + 1)) (hV : q_vo σ (bk + 6)) (hS : q_so σ (bk + 9)) (hd1 : bk + 12 < b) (hd2 : b + 4 < mm) (hK : ∀ σ' R, R = q_mvs ((σ (bk + 1) 5, σ (bk + 1) 6), σ (bk + 6 + 1), σ (bk + 6 + 2), σ (bk + 9) 3, σ (bk + 9 + 1), σ (bk + 9 + 2), σ (bk + 9 + 3)) (q_BC σ (bk + 1)) → (∀ o, (o < b ∨ b + 4 < o) → o ≠ mm → o ≠ mm + 1 → σ' o = σ o) → q_mvC σ' mm (σ (bk + 6) 2) R → q_mvb R 800 → K none σ') : mj_Ok (n + 7) i_Moves_gather [rV 4 0 mm, rV 0 0 bk, rV 1 0 b] σ K := by
  refine mj_enter (by decide) (Nat.le_of_ble_eq_true rfl) (fun hg => ?_)
  refine r_Moves_gather [(12, [true, true, true, true]), (31, [true, true, true, false])] 600 ?_
  refine l_gatherZ (fun τ t1 t2 => ?_) 24 0 _ (by omega) (by omega) (fun _ _ => rfl) (fun j j0 j1 => by omega)
  have hof : ∀ o, o ≠ mm → o ≠ mm + 1 → τ o = σ o := by
    intro o o1 o2
    rw [t1 o o2, up_ne _ _ _ o1, up_ne _ _ _ o1]
  have z1 : τ mm 1 = 0 := by rw [t1 mm (by omega), up_at, q_up_ne _ _ (by omega), up_at, q_up_at]
  have z2 : τ mm 2 = 0 := by rw [t1 mm (by omega), up_at, q_up_at]
  have o1 := hof (bk + 1) (by omega) (by omega)
  refine r_Moves_gather [(62, [true, true, true, true])] 600 ?_
  refine c_Border_copyFrom (b := b) (o := bk + 1) (by omega) hl hl' (fun σ1 s1 s2 s3 s4 s5 s6 s7 s8 s9 => ?_)
  have eB : q_BC σ1 b = q_BC σ (bk + 1) := by
    show (_, _, _, _, _) = (_, _, _, _, _)
    rw [s1, s5, s6, s7, s8, o1, hof (bk + 1 + 1) (by omega) (by omega), hof (bk + 1 + 2) (by omega) (by omega), hof (bk + 1 + 3) (by omega) (by omega), hof (bk + 1 + 4) (by omega) (by omega)]
  have e5 : σ1 b 5 = σ (bk + 1) 5 := by rw [s2, o1]
  have e6 : σ1 b 6 = σ (bk + 1) 6 := by rw [s3, o1]
  have fr : ∀ o, (o < b ∨ b + 4 < o) → o ≠ mm → o ≠ mm + 1 → σ1 o = σ o := fun o p1 p2 p3 => (s9 o (by omega) (by omega) (by omega) (by omega) (by omega)).trans (hof o p2 p3)
  have uv := fr (bk + 6) (by omega) (by omega) (by omega)
  have V1 : q_vo σ1 (bk + 6) := by
    unfold q_vo
    rw [uv, fr (bk + 6 + 1) (by omega) (by omega) (by omega), fr (bk + 6 + 2) (by omega) (by omega) (by omega)]
    exact hV
  have S1 : q_so σ1 (bk + 9) := by
    unfold q_so
    rw [fr (bk + 9) (by omega) (by omega) (by omega), fr (bk + 9 + 1) (by omega) (by omega) (by omega), fr (bk + 9 + 2) (by omega) (by omega) (by omega), fr (bk + 9 + 3) (by omega) (by omega) (by omega)]
    exact hS
  have hW : q_wB (q_BC σ1 b) := by rw [eB]; exact hL.1
  have h5 : 0 ≤ σ1 b 5 ∧ σ1 b 5 ≤ 40 := by rw [e5]; exact hL.2.1
  have h6 : 0 ≤ σ1 b 6 ∧ σ1 b 6 ≤ 40 := by rw [e6]; exact hL.2.2.1
  have gB : q_gB σ1 b := q_gB_of hW h5 h6
  have eE : q_EC σ1 bk b = ((σ (bk + 1) 5, σ (bk + 1) 6), σ (bk + 6 + 1), σ (bk + 6 + 2), σ (bk + 9) 3, σ (bk + 9 + 1), σ (bk + 9 + 2), σ (bk + 9 + 3)) := by
    unfold q_EC
    rw [e5, e6, fr (bk + 6 + 1) (by omega) (by omega) (by omega), fr (bk + 6 + 2) (by omega) (by omega) (by omega), fr (bk + 9) (by omega) (by omega) (by omega), fr (bk + 9 + 1) (by omega) (by omega) (by omega), fr (bk + 9 + 2) (by omega) (by omega) (by omega), fr (bk + 9 + 3) (by omega) (by omega) (by omega)]
  have m0 : q_mvC σ1 mm (σ1 (bk + 6) 2) (0, 0, fun _ => 0) := by
    refine ⟨?_, ?_, fun j j0 j1 _ => ?_⟩
    · rw [s9 mm (by omega) (by omega) (by omega) (by omega) (by omega)]; exact z1
    · rw [s9 mm (by omega) (by omega) (by omega) (by omega) (by omega)]; exact z2
    · rw [s9 (mm + 1) (by omega) (by omega) (by omega) (by omega) (by omega)]; exact t2 j j0 j1
  have b0 : q_mvb (0, 0, fun _ => 0) 0 := ⟨⟨Int.le_refl 0, Int.le_refl 0⟩, fun _ => ⟨Int.le_refl 0, Int.le_refl 0⟩⟩
  have hRd : q_mvs ((σ (bk + 1) 5, σ (bk + 1) 6), σ (bk + 6 + 1), σ (bk + 6 + 2), σ (bk + 9) 3, σ (bk + 9 + 1), σ (bk + 9 + 2), σ (bk + 9 + 3)) (q_BC σ (bk + 1)) = q_mvA (q_EC σ1 bk b) (q_BC σ1 b) 8 0 (q_lk (q_EC σ1 bk b) (q_BC σ1 b) 0 (0, 0, fun _ => 0)) := by
    rw [eE, eB]; rfl
  have go : ∀ (τ1 : mj_W), (∀ o, o ≠ mm → o ≠ mm + 1 → τ1 o = σ1 o) → q_mvC τ1 mm (σ1 (bk + 6) 2) (q_lk (q_EC σ1 bk b) (q_BC σ1 b) 0 (0, 0, fun _ => 0)) → mj_Wm i_Moves_gather (n + 7) K 62 [some (rV 4 0 mm), some (rV 0 0 bk), some (rV 1 0 b), some (iV 0)] [] τ1 := by
    intro τ1 p1 p2
    refine l_gatherA hW h5 h6 V1 S1 hd1 hd2 (fun σ' q1 q2 q3 => hK σ' _ rfl (fun o r1 r2 r3 => (q1 o r2 r3).trans (fr o r1 r2 r3)) ?_ ?_) 8 0 τ1 _ (by omega) (by omega) p1 p2 (q_mvb_up (q_mvb_lk b0) (by omega)) hRd.symm
    · rw [← uv]; exact q2
    · exact q3
  unfold q_lk at go
  refine c_fitE gB S1 (fun q => ?_) (fun q => ?_)
  · rw [if_pos q] at go
    repeat' (first | (refine mj_ite (fun h => ?_) (fun h => ?_) <;> first | (exfalso; omega) | skip) | refine mj_vci (by first | omega | (simp (disch := omega) only [up_ne, up_at, q_up_at, q_up_ne, cp_ne]; omega)) ?_)
    refine c_Moves_take (E := q_EC σ1 bk b) (N := 0) gB V1 (by omega) (by omega) ⟨rfl, rfl, rfl⟩ m0 b0 (by omega) (fun σ2 x1 x2 => ?_)
    repeat' (first | (refine mj_ite (fun h => ?_) (fun h => ?_) <;> first | (exfalso; omega) | skip) | refine mj_vci (by first | omega | (simp (disch := omega) only [up_ne, up_at, q_up_at, q_up_ne, cp_ne]; omega)) ?_)
    exact go σ2 x1 x2
  · rw [if_neg q] at go
    repeat' (first | (refine mj_ite (fun h => ?_) (fun h => ?_) <;> first | (exfalso; omega) | skip) | refine mj_vci (by first | omega | (simp (disch := omega) only [up_ne, up_at, q_up_at, q_up_ne, cp_ne]; omega)) ?_)
    exact go σ1 (fun _ _ _ => rfl) m0
theorem c_S_moved (hC : q_C σ) (hK : ∀ r σ', q_Fc σ σ' → r = (if ¬ (0 ≤ w ∧ w ≤ 1) then -2 else if w = 0 then (q_mvs ((σ 2 5, σ 2 6), σ 8, σ 9, σ 10 3, σ 11, σ 12, σ 13) (q_BC σ 2)).1 else (q_mvs ((σ 2 5, σ 2 6), σ 8, σ 9, σ 10 3, σ 11, σ 12, σ 13) (q_BC σ 2)).2.1) → K (some (iV r)) σ') : mj_Ok (n + 8) i_S_moved [rV 11 0 0, iV w] σ K := by
  obtain ⟨hL, hV, hS, -⟩ := hC
  refine mj_enter (by decide) (Nat.le_of_ble_eq_true rfl) (fun hg => ?_)
  refine r_S_moved [] 600 ?_
  by_cases hw : 0 ≤ w ∧ w ≤ 1
  · rw [if_neg (fun q => q hw)] at hK
    repeat' (first | (refine mj_ite (fun h => ?_) (fun h => ?_) <;> first | (exfalso; omega) | skip) | refine mj_vci (by first | omega | (simp (disch := omega) only [up_ne, up_at, q_up_at, q_up_ne, cp_ne]; omega)) ?_)
    refine c_Moves_gather (mm := 52) (bk := 1) (b := 44) (by decide +kernel) (by decide +kernel) hL hV hS (by omega) (by omega) (fun σ1 R hR s1 s2 s3 => ?_)
    have hF : q_Fc σ σ1 := fun o ho => s1 o (by omega) (by omega) (by omega)
    have key := fun r => hK r σ1 hF
    have hR : R = q_mvs ((σ 2 5, σ 2 6), σ 8, σ 9, σ 10 3, σ 11, σ 12, σ 13) (q_BC σ 2) := hR
    rw [← hR] at key
    obtain ⟨m1, m2, -⟩ := s2
    repeat' (first | (refine mj_ite (fun h => ?_) (fun h => ?_) <;> first | (exfalso; omega) | skip) | refine mj_vci (by first | omega | (simp (disch := omega) only [up_ne, up_at, q_up_at, q_up_ne, cp_ne]; omega)) ?_)
    · rw [if_pos h] at key; exact key _ m1
    · rw [if_neg h] at key; exact key _ m2
  · rw [if_pos hw] at hK
    repeat' (first | (refine mj_ite (fun h => ?_) (fun h => ?_) <;> first | (exfalso; omega) | skip) | refine mj_vci (by first | omega | (simp (disch := omega) only [up_ne, up_at, q_up_at, q_up_ne, cp_ne]; omega)) ?_)
    all_goals exact hK _ σ (fun _ _ => rfl) rfl
theorem c_Moves_mostLeft {L : Int → Int} {bits : Int} (hw : 0 ≤ w ∧ w ≤ 7) (ht : q_tb bits w = true) (hL : ∀ j, 0 ≤ j → j < 24 → q_tb bits (j / 3) = true → σ (mm + 1) j = L j) (hK : ∀ r, r = q_ml L w → K (some (iV r)) σ) : mj_Ok (n + 1) i_Moves_mostLeft [rV 4 0 mm, iV w] σ K := by
  unfold q_ml at hK
  rw [← hL (3 * w) (by omega) (by omega) (by rw [show 3 * w / 3 = w by omega]; exact ht), ← hL (3 * w + 1) (by omega) (by omega) (by rw [show (3 * w + 1) / 3 = w by omega]; exact ht), ← hL (3 * w + 2) (by omega) (by omega) (by rw [show (3 * w + 2) / 3 = w by omega]; exact ht)] at hK
  refine mj_enter (by decide) (Nat.le_of_ble_eq_true rfl) (fun hg => ?_)
  refine r_Moves_mostLeft [] 600 ?_
  repeat' (first | (refine mj_ite (fun h => ?_) (fun h => ?_) <;> first | (exfalso; omega) | skip) | refine mj_vci (by first | omega | (simp (disch := omega) only [up_ne, up_at, q_up_at, q_up_ne, cp_ne]; omega)) ?_)
  exact hK _ rfl
theorem l_Moves_bestToAsk (hV : q_vo σ v) {t : q_mv} (hm : q_mvC σ mm (σ v 2) t) {R : Int} (hK : (R = -6 ∨ (0 ≤ R ∧ R ≤ 7 ∧ q_tb (σ v 2) R = true)) → K (some (iV R)) σ) : ∀ (k : Nat) (i a : Int), 0 ≤ i → i + k = 8 → (a = -6 ∨ (0 ≤ a ∧ a < i ∧ q_tb (σ v 2) a = true)) → q_askF (σ v 2) t.2.2 k i a = R → mj_Wm i_Moves_bestToAsk (n + 2) K 14 [some (rV 4 0 mm), some (rV 9 0 v), some (iV a), some (iV i)] [] σ := by
  obtain ⟨m1, m2, m3⟩ := hm
  intro k
  induction k with
  | zero =>
    intro i a h0 h1 ha hR
    have hR : a = R := hR
    subst hR
    refine r_Moves_bestToAsk [(14, [true, true, true, true])] 600 ?_
    repeat' (first | (refine mj_ite (fun h => ?_) (fun h => ?_) <;> first | (exfalso; omega) | skip) | refine mj_vci (by first | omega | (simp (disch := omega) only [up_ne, up_at, q_up_at, q_up_ne, cp_ne]; omega)) ?_)
    refine hK ?_
    rcases ha with q | q
    · exact Or.inl q
    · exact Or.inr ⟨q.1, by omega, q.2.2⟩
  | succ k ih =>
    intro i a h0 h1 ha hR
    unfold q_askF at hR
    refine r_Moves_bestToAsk [(14, [true, true, true, true])] 600 ?_
    repeat' (first | (refine mj_ite (fun h => ?_) (fun h => ?_) <;> first | (exfalso; omega) | skip) | refine mj_vci (by first | omega | (simp (disch := omega) only [up_ne, up_at, q_up_at, q_up_ne, cp_ne]; omega)) ?_)
    refine c_Villages_holds hV.1 (fun a1 a2 a3 => ?_) (fun a0 => ?_)
    · rcases ha with ha | ha
      · rw [if_pos ⟨a3, Or.inl (by omega)⟩] at hR
        repeat' (first | (refine mj_ite (fun h => ?_) (fun h => ?_) <;> first | (exfalso; omega) | skip) | refine mj_vci (by first | omega | (simp (disch := omega) only [up_ne, up_at, q_up_at, q_up_ne, cp_ne]; omega)) ?_)
        exact ih (i + 1) i (by omega) (by omega) (Or.inr ⟨by omega, by omega, a3⟩) hR
      · repeat' (first | (refine mj_ite (fun h => ?_) (fun h => ?_) <;> first | (exfalso; omega) | skip) | refine mj_vci (by first | omega | (simp (disch := omega) only [up_ne, up_at, q_up_at, q_up_ne, cp_ne]; omega)) ?_)
        refine c_Moves_mostLeft (by omega) a3 m3 (fun r1 hr1 => ?_)
        repeat' (first | (refine mj_ite (fun h => ?_) (fun h => ?_) <;> first | (exfalso; omega) | skip) | refine mj_vci (by first | omega | (simp (disch := omega) only [up_ne, up_at, q_up_at, q_up_ne, cp_ne]; omega)) ?_)
        refine c_Moves_mostLeft (by omega) ha.2.2 m3 (fun r2 hr2 => ?_)
        rw [← hr1, ← hr2] at hR
        by_cases e : r1 < r2
        · rw [if_pos ⟨a3, Or.inr e⟩] at hR
          repeat' (first | (refine mj_ite (fun h => ?_) (fun h => ?_) <;> first | (exfalso; omega) | skip) | refine mj_vci (by first | omega | (simp (disch := omega) only [up_ne, up_at, q_up_at, q_up_ne, cp_ne]; omega)) ?_)
          exact ih (i + 1) i (by omega) (by omega) (Or.inr ⟨by omega, by omega, a3⟩) hR
        · rw [if_neg (fun q => by omega)] at hR
          repeat' (first | (refine mj_ite (fun h => ?_) (fun h => ?_) <;> first | (exfalso; omega) | skip) | refine mj_vci (by first | omega | (simp (disch := omega) only [up_ne, up_at, q_up_at, q_up_ne, cp_ne]; omega)) ?_)
          exact ih (i + 1) a (by omega) (by omega) (Or.inr ⟨by omega, by omega, ha.2.2⟩) hR
    · rw [if_neg (fun q => a0 ⟨by omega, by omega, q.1⟩)] at hR
      repeat' (first | (refine mj_ite (fun h => ?_) (fun h => ?_) <;> first | (exfalso; omega) | skip) | refine mj_vci (by first | omega | (simp (disch := omega) only [up_ne, up_at, q_up_at, q_up_ne, cp_ne]; omega)) ?_)
      refine ih (i + 1) a (by omega) (by omega) ?_ hR
      rcases ha with q | q
      · exact Or.inl q
      · exact Or.inr ⟨q.1, by omega, q.2.2⟩
theorem c_Moves_bestToAsk (hV : q_vo σ v) {t : q_mv} (hm : q_mvC σ mm (σ v 2) t) {R : Int} (hR : R = if t.1 = 0 then -6 else q_askF (σ v 2) t.2.2 8 0 (-6)) (hK : (R = -6 ∨ (0 ≤ R ∧ R ≤ 7 ∧ q_tb (σ v 2) R = true)) → K (some (iV R)) σ) : mj_Ok (n + 2) i_Moves_bestToAsk [rV 4 0 mm, rV 9 0 v] σ K := by
  have m1 := hm.1
  refine mj_enter (by decide) (Nat.le_of_ble_eq_true rfl) (fun hg => ?_)
  refine r_Moves_bestToAsk [(14, [true, true, true, true])] 600 ?_
  repeat' (first | (refine mj_ite (fun h => ?_) (fun h => ?_) <;> first | (exfalso; omega) | skip) | refine mj_vci (by first | omega | (simp (disch := omega) only [up_ne, up_at, q_up_at, q_up_ne, cp_ne]; omega)) ?_)
  · rw [if_pos (by omega)] at hR
    have := hK (Or.inl hR)
    rw [hR] at this
    exact this
  · rw [if_neg (by omega)] at hR
    exact l_Moves_bestToAsk hV hm hK 8 0 (-6) (by omega) (by omega) (Or.inl rfl) hR.symm
theorem c_S_ask (hC : q_C σ) (hK : ∀ r σ', q_Fc σ σ' → r = (if ¬ (0 ≤ w ∧ w ≤ 1) then -2 else if q_askR ((σ 2 5, σ 2 6), σ 8, σ 9, σ 10 3, σ 11, σ 12, σ 13) (q_BC σ 2) (σ 7 2) < 0 then q_askR ((σ 2 5, σ 2 6), σ 8, σ 9, σ 10 3, σ 11, σ 12, σ 13) (q_BC σ 2) (σ 7 2) else if w = 0 then q_askR ((σ 2 5, σ 2 6), σ 8, σ 9, σ 10 3, σ 11, σ 12, σ 13) (q_BC σ 2) (σ 7 2) else q_ml (q_mvs ((σ 2 5, σ 2 6), σ 8, σ 9, σ 10 3, σ 11, σ 12, σ 13) (q_BC σ 2)).2.2 (q_askR ((σ 2 5, σ 2 6), σ 8, σ 9, σ 10 3, σ 11, σ 12, σ 13) (q_BC σ 2) (σ 7 2))) → K (some (iV r)) σ') : mj_Ok (n + 8) i_S_ask [rV 11 0 0, iV w] σ K := by
  obtain ⟨hL, hV, hS, -⟩ := hC
  have hRd : q_askR ((σ 2 5, σ 2 6), σ 8, σ 9, σ 10 3, σ 11, σ 12, σ 13) (q_BC σ 2) (σ 7 2) = if (q_mvs ((σ 2 5, σ 2 6), σ 8, σ 9, σ 10 3, σ 11, σ 12, σ 13) (q_BC σ 2)).1 = 0 then -6 else q_askF (σ 7 2) (q_mvs ((σ 2 5, σ 2 6), σ 8, σ 9, σ 10 3, σ 11, σ 12, σ 13) (q_BC σ 2)).2.2 8 0 (-6) := rfl
  generalize q_askR ((σ 2 5, σ 2 6), σ 8, σ 9, σ 10 3, σ 11, σ 12, σ 13) (q_BC σ 2) (σ 7 2) = R at hK hRd
  refine mj_enter (by decide) (Nat.le_of_ble_eq_true rfl) (fun hg => ?_)
  refine r_S_ask [] 600 ?_
  by_cases hw : 0 ≤ w ∧ w ≤ 1
  · rw [if_neg (fun q => q hw)] at hK
    repeat' (first | (refine mj_ite (fun h => ?_) (fun h => ?_) <;> first | (exfalso; omega) | skip) | refine mj_vci (by first | omega | (simp (disch := omega) only [up_ne, up_at, q_up_at, q_up_ne, cp_ne]; omega)) ?_)
    refine c_Moves_gather (mm := 52) (bk := 1) (b := 44) (by decide +kernel) (by decide +kernel) hL hV hS (by omega) (by omega) (fun σ1 t ht s1 s2 s3 => ?_)
    have hF : q_Fc σ σ1 := fun o ho => s1 o (by omega) (by omega) (by omega)
    have key := fun r => hK r σ1 hF
    have ht : t = q_mvs ((σ 2 5, σ 2 6), σ 8, σ 9, σ 10 3, σ 11, σ 12, σ 13) (q_BC σ 2) := ht
    rw [← ht] at key hRd
    have v0 : σ1 7 = σ 7 := hF 7 (by omega)
    have V1 : q_vo σ1 7 := by
      unfold q_vo
      rw [v0, hF (7 + 1) (by omega), hF (7 + 2) (by omega)]
      exact hV
    have s2 : q_mvC σ1 52 (σ 7 2) t := s2
    rw [← v0] at hRd s2
    refine c_Moves_bestToAsk (v := 7) (mm := 52) V1 s2 hRd (fun hi => ?_)
    rcases hi with hi | hi
    · rw [if_pos (by omega)] at key
      repeat' (first | (refine mj_ite (fun h => ?_) (fun h => ?_) <;> first | (exfalso; omega) | skip) | refine mj_vci (by first | omega | (simp (disch := omega) only [up_ne, up_at, q_up_at, q_up_ne, cp_ne]; omega)) ?_)
      have := key _ rfl
      rw [hi] at this
      exact this
    · rw [if_neg (by omega)] at key
      repeat' (first | (refine mj_ite (fun h => ?_) (fun h => ?_) <;> first | (exfalso; omega) | skip) | refine mj_vci (by first | omega | (simp (disch := omega) only [up_ne, up_at, q_up_at, q_up_ne, cp_ne]; omega)) ?_)
      · rw [if_pos h] at key; exact key _ rfl
      · rw [if_neg h] at key
        refine c_Moves_mostLeft (mm := 52) (bits := σ1 7 2) (L := t.2.2) ⟨hi.1, hi.2.1⟩ hi.2.2 s2.2.2 (fun r hr => ?_)
        exact key _ hr
  · rw [if_pos hw] at hK
    repeat' (first | (refine mj_ite (fun h => ?_) (fun h => ?_) <;> first | (exfalso; omega) | skip) | refine mj_vci (by first | omega | (simp (disch := omega) only [up_ne, up_at, q_up_at, q_up_ne, cp_ne]; omega)) ?_)
    all_goals exact hK _ σ (fun _ _ => rfl) rfl
end S8
