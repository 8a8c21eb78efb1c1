/-! the model: behind, side, south, lies, done -/
section M19b
variable {n g : Nat} {σ : mj_W} {K : Option mj_V → mj_W → Prop} {x y z p w i j c d e k s : Int} {B : q_B} {l : List q_A}
theorem c_M_behind (hG : g = 58) (hM : q_mB σ g) (hP : q_pM σ g) (hl : q_fault (σ (g + 10)) (σ g 16) = -6 → q_rep (σ (g + 10)) (σ g 16) 0 l) (hK : ∀ r σ', q_Fm σ σ' g → r = (if ¬ (0 ≤ w ∧ w ≤ 3) then -2 else if q_fault (σ (g + 10)) (σ g 16) ≠ -6 then -5 else if (q_RM σ g l).1 ≠ -6 then -3 else if q_fnd (q_RM σ g l).2.2.2.2.2.1 (q_RM σ g l).2.2.2.2.1 p = -6 then -1 else if w = 3 then q_fnd (q_RM σ g l).2.2.2.2.2.1 (q_RM σ g l).2.2.2.2.1 p else if w = 0 then (q_RM σ g l).2.2.2.2.2.2.1 p else if w = 1 then (q_RM σ g l).2.2.2.2.2.2.2.1 p else (q_RM σ g l).2.2.2.2.2.2.2.2 p) → K (some (iV r)) σ') : mj_Ok (n + 7) i_M_behind [rV 12 0 g, iV p, iV w] σ K := by
  refine mj_enter (by decide) (Nat.le_of_ble_eq_true rfl) (fun hg => ?_)
  have hz := q_BM_z hg hG
  refine r_M_behind [] 600 ?_
  refine c_M_in (fun a1 a2 => ?_) (fun a0 => ?_)
  · repeat' (first | (refine mj_ite (fun h => ?_) (fun h => ?_) <;> first | (exfalso; omega) | skip) | refine mj_vci (by first | omega | (simp (disch := omega) only [up_ne, up_at, q_up_at, q_up_ne, cp_ne]; omega)) ?_)
    refine c_M_refusal2 (l := l) hG hM hP hl (fun r σ1 s1 s2 s3 s4 => ?_)
    have fin : ∀ (v : Int) (K' : Option mj_V → mj_W → Prop), (∀ σ2, q_Fm σ σ2 g → K' (some (iV v)) σ2) → mj_Ok (n + 6) i_M_back [rV 12 0 g, iV v] σ1 K' := fun v K' hv => c_M_back hG s1 hz (fun σ2 b1 b2 b3 => hv σ2 (q_back_Fm s2 b1 b2 b3))
    have key := hK
    rw [if_neg (fun q => q ⟨a1, a2⟩)] at key
    rcases s4 with ⟨e1, e2⟩ | ⟨e1, e2, e3, e4, e5, e6, e7⟩
    · rw [if_pos e2] at key
      subst e1
      repeat' (first | (refine mj_ite (fun h => ?_) (fun h => ?_) <;> first | (exfalso; omega) | skip) | refine mj_vci (by first | omega | (simp (disch := omega) only [up_ne, up_at, q_up_at, q_up_ne, cp_ne]; omega)) ?_)
      exact fin _ _ (fun σ2 h2 => key _ σ2 h2 rfl)
    · rw [if_neg (fun q => q e1)] at key
      rcases e7 with ⟨e7, e8⟩ | ⟨e7, e8⟩ <;> subst e7
      · rw [if_neg (fun q => q e8), ← e2] at key
        have hc1 : 0 ≤ σ1 g 0 ∧ σ1 g 0 ≤ 8 := s3.1.1
        have hr1 : ∀ i, 0 ≤ σ1 (g + 1) i ∧ σ1 (g + 1) i ≤ 7 := s3.1.2.1
        have key : ∀ (r : Int) (σ' : mj_W), q_Fm σ σ' g → r = (if q_fnd (σ1 (g + 1)) (σ1 g 0) p = -6 then -1 else if w = 3 then q_fnd (σ1 (g + 1)) (σ1 g 0) p else if w = 0 then σ1 (g + 2) p else if w = 1 then σ1 (g + 3) p else σ1 (g + 4) p) → K (some (iV r)) σ' := key
        have hf := q_fnd_or (σ1 (g + 1)) hc1.1 p
        have hr7 := hr1 (q_fnd (σ1 (g + 1)) (σ1 g 0) p)
        repeat' (first | (refine mj_ite (fun h => ?_) (fun h => ?_) <;> first | (exfalso; omega) | skip) | refine mj_vci (by first | omega | (simp (disch := omega) only [up_ne, up_at, q_up_at, q_up_ne, cp_ne]; omega)) ?_)
        refine c_M_isNumber (fun b1 b2 => ?_) (fun b0 => ?_)
        · repeat' (first | (refine mj_ite (fun h => ?_) (fun h => ?_) <;> first | (exfalso; omega) | skip) | refine mj_vci (by first | omega | (simp (disch := omega) only [up_ne, up_at, q_up_at, q_up_ne, cp_ne]; omega)) ?_)
          refine c_M_placeOf hc1 s3.1.2.2.2.2.2.1 (fun r hr => ?_)
          repeat' (first | (refine mj_ite (fun h => ?_) (fun h => ?_) <;> first | (exfalso; omega) | skip) | refine mj_vci (by first | omega | (simp (disch := omega) only [up_ne, up_at, q_up_at, q_up_ne, cp_ne]; omega)) ?_)
          · rw [if_pos (by omega)] at key
            exact fin _ _ (fun σ2 h2 => key _ σ2 h2 rfl)
          · rw [if_neg (by omega)] at key
            refine c_M_ofPerson hc1 s3.1.2.2.2.2.2.1 ⟨b1, b2⟩ ⟨a1, a2⟩ (fun v hv => ?_)
            repeat' (first | (refine mj_ite (fun h => ?_) (fun h => ?_) <;> first | (exfalso; omega) | skip) | refine mj_vci (by first | omega | (simp (disch := omega) only [up_ne, up_at, q_up_at, q_up_ne, cp_ne]; omega)) ?_)
            refine fin _ _ (fun σ2 h2 => key _ σ2 h2 ?_)
            rw [hv]
            (repeat' split) <;> first | rfl | omega
        · have hn : q_fnd (σ1 (g + 1)) (σ1 g 0) p = -6 := by
            rcases hf with q | q
            · exact q.1
            · rw [q.2.2] at hr7; exact absurd hr7 b0
          rw [if_pos hn] at key
          repeat' (first | (refine mj_ite (fun h => ?_) (fun h => ?_) <;> first | (exfalso; omega) | skip) | refine mj_vci (by first | omega | (simp (disch := omega) only [up_ne, up_at, q_up_at, q_up_ne, cp_ne]; omega)) ?_)
          exact fin _ _ (fun σ2 h2 => key _ σ2 h2 rfl)
      · rw [if_pos e8] at key
        repeat' (first | (refine mj_ite (fun h => ?_) (fun h => ?_) <;> first | (exfalso; omega) | skip) | refine mj_vci (by first | omega | (simp (disch := omega) only [up_ne, up_at, q_up_at, q_up_ne, cp_ne]; omega)) ?_)
        exact fin _ _ (fun σ2 h2 => key _ σ2 h2 rfl)
  · repeat' (first | (refine mj_ite (fun h => ?_) (fun h => ?_) <;> first | (exfalso; omega) | skip) | refine mj_vci (by first | omega | (simp (disch := omega) only [up_ne, up_at, q_up_at, q_up_ne, cp_ne]; omega)) ?_)
    exact hK _ σ (q_Fm_rfl σ g) (by rw [if_pos a0])
theorem l_M_villagesOn (hL : q_ld σ g w e B) (hb : q_bB w e B) (hV : q_vM σ g) : ∀ (k : Nat) (i a : Int), 0 ≤ i → i + k = 8 → (0 ≤ a ∧ a ≤ 255) → (∀ r, r = q_vonF (σ g 8) (σ (g + 5)) (σ (g + 6)) (q_cx B.1 B.2.1 B.2.2.1) (q_cy B.1 w e B.2.1 B.2.2.2.1) (B.1 + 1) s a i k → K (some (iV r)) σ) → mj_Wm i_M_villagesOn (n + 5) K 4 [some (rV 12 0 g), some (iV s), some (iV a), some (iV i), none] [] σ := by
  intro k
  induction k with
  | zero =>
    intro i a h0 h1 ha hK
    refine r_M_villagesOn [(4, [true, true, true, true, false])] 600 ?_
    repeat' (first | (refine mj_ite (fun h => ?_) (fun h => ?_) <;> first | (exfalso; omega) | skip) | refine mj_vci (by first | omega | (simp (disch := omega) only [up_ne, up_at, q_up_at, q_up_ne, cp_ne]; omega)) ?_)
    exact hK _ rfl
  | succ k ih =>
    intro i a h0 h1 ha hK
    unfold q_vonF at hK
    have x0 := hV.2.1 i
    have y0 := hV.2.2 i
    have ht := (q_tbs hV.1 (v := i) (by omega)).2.1
    have ho := (q_tbs ha (v := i) (by omega)).2.2.1
    have o0 := q_or0 (a := a) (by omega)
    refine r_M_villagesOn [(4, [true, true, true, true, false])] 600 ?_
    by_cases tb : q_tb (σ g 8) i = true
    · rw [if_pos tb] at ht
      repeat' (first | (refine mj_ite (fun h => ?_) (fun h => ?_) <;> first | (exfalso; omega) | skip) | refine mj_vci (by first | omega | (simp (disch := omega) only [up_ne, up_at, q_up_at, q_up_ne, cp_ne]; omega)) ?_)
      refine c_M_sideB hL hb (by omega) (by omega) (fun r hr => ?_)
      have hr : r = q_side (q_cx B.1 B.2.1 B.2.2.1) (q_cy B.1 w e B.2.1 B.2.2.2.1) (B.1 + 1) (σ (g + 5) i) (σ (g + 6) i) := hr
      rw [← hr] at hK
      repeat' (first | (refine mj_ite (fun h => ?_) (fun h => ?_) <;> first | (exfalso; omega) | skip) | refine mj_vci (by first | omega | (simp (disch := omega) only [up_ne, up_at, q_up_at, q_up_ne, cp_ne]; omega)) ?_)
      · rw [if_pos ⟨tb, by assumption⟩] at hK
        exact ih (i + 1) _ (by omega) (by omega) ho hK
      · rw [if_neg (fun q => absurd q.2 (by assumption))] at hK
        rw [o0]
        exact ih (i + 1) _ (by omega) (by omega) ha hK
    · rw [if_neg tb] at ht
      rw [if_neg (fun q => tb q.1)] at hK
      repeat' (first | (refine mj_ite (fun h => ?_) (fun h => ?_) <;> first | (exfalso; omega) | skip) | refine mj_vci (by first | omega | (simp (disch := omega) only [up_ne, up_at, q_up_at, q_up_ne, cp_ne]; omega)) ?_)
      rw [o0]
      exact ih (i + 1) _ (by omega) (by omega) ha hK
theorem c_M_villagesOn (hL : q_ld σ g w e B) (hb : q_bB w e B) (hV : q_vM σ g) (hK : ∀ r, r = q_vonB w e B (σ g 8) (σ (g + 5)) (σ (g + 6)) s → K (some (iV r)) σ) : mj_Ok (n + 5) i_M_villagesOn [rV 12 0 g, iV s] σ K := by
  refine mj_enter (by decide) (Nat.le_of_ble_eq_true rfl) (fun hg => ?_)
  refine r_M_villagesOn [(4, [true, true, true, true, false])] 600 ?_
  exact l_M_villagesOn hL hb hV 8 0 0 (by omega) (by omega) (by omega) hK
theorem c_M_side (hG : g = 58) (hM : q_mB σ g) (hP : q_pM σ g) (hl : q_fault (σ (g + 10)) (σ g 16) = -6 → q_rep (σ (g + 10)) (σ g 16) 0 l) (hK : ∀ r σ', q_Fm σ σ' g → r = (if ¬ q_land x y then -2 else if q_fault (σ (g + 10)) (σ g 16) ≠ -6 then -5 else if (q_RM σ g l).1 ≠ -6 then -3 else q_sideB (σ g 5) (σ g 6) (q_RM σ g l).2.2.2.2 x y) → K (some (iV r)) σ') : mj_Ok (n + 7) i_M_side [rV 12 0 g, iV x, iV y] σ K := by
  refine mj_enter (by decide) (Nat.le_of_ble_eq_true rfl) (fun hg => ?_)
  have hz := q_BM_z hg hG
  refine r_M_side [] 600 ?_
  refine c_M_isLand (fun a1 a2 a3 a4 => ?_) (fun a0 => ?_)
  · repeat' (first | (refine mj_ite (fun h => ?_) (fun h => ?_) <;> first | (exfalso; omega) | skip) | refine mj_vci (by first | omega | (simp (disch := omega) only [up_ne, up_at, q_up_at, q_up_ne, cp_ne]; omega)) ?_)
    refine c_M_refusal2 (l := l) hG hM hP hl (fun r σ1 s1 s2 s3 s4 => ?_)
    repeat' (first | (refine mj_ite (fun h => ?_) (fun h => ?_) <;> first | (exfalso; omega) | skip) | refine mj_vci (by first | omega | (simp (disch := omega) only [up_ne, up_at, q_up_at, q_up_ne, cp_ne]; omega)) ?_)
    refine c_M_layB s3 (fun σ2 t1 t2 => ?_)
    have hH2 : q_had σ2 g (q_BM σ g) := by
      unfold q_had
      rw [t2.2 (g + 15) (by omega) (by omega) (by omega)]
      exact s1
    have hF2 : q_Fs σ σ2 g := q_Fs_tr s2 (q_lf_Fm t2).1
    have fin : ∀ (v : Int) (K' : Option mj_V → mj_W → Prop), (∀ σ3, q_Fm σ σ3 g → K' (some (iV v)) σ3) → mj_Ok (n + 6) i_M_back [rV 12 0 g, iV v] σ2 K' := fun v K' hv => c_M_back hG hH2 hz (fun σ3 b1 b2 b3 => hv σ3 (q_back_Fm hF2 b1 b2 b3))
    have key := hK
    rw [if_neg (fun q => q ⟨a1, a2, a3, a4⟩)] at key
    rcases s4 with ⟨e1, e2⟩ | ⟨e1, e2, e3, e4, e5, e6, e7⟩
    · rw [if_pos e2] at key
      subst e1
      repeat' (first | (refine mj_ite (fun h => ?_) (fun h => ?_) <;> first | (exfalso; omega) | skip) | refine mj_vci (by first | omega | (simp (disch := omega) only [up_ne, up_at, q_up_at, q_up_ne, cp_ne]; omega)) ?_)
      exact fin _ _ (fun σ3 h3 => key _ σ3 h3 rfl)
    · rw [if_neg (fun q => q e1)] at key
      rcases e7 with ⟨e7, e8⟩ | ⟨e7, e8⟩ <;> subst e7
      · rw [if_neg (fun q => q e8), ← e2, ← s2.2 5 (by omega) (by omega), ← s2.2 6 (by omega) (by omega)] at key
        repeat' (first | (refine mj_ite (fun h => ?_) (fun h => ?_) <;> first | (exfalso; omega) | skip) | refine mj_vci (by first | omega | (simp (disch := omega) only [up_ne, up_at, q_up_at, q_up_ne, cp_ne]; omega)) ?_)
        refine c_M_sideB t1 (q_mB_b s3) (by omega) (by omega) (fun v hv => ?_)
        repeat' (first | (refine mj_ite (fun h => ?_) (fun h => ?_) <;> first | (exfalso; omega) | skip) | refine mj_vci (by first | omega | (simp (disch := omega) only [up_ne, up_at, q_up_at, q_up_ne, cp_ne]; omega)) ?_)
        exact fin _ _ (fun σ3 h3 => key _ σ3 h3 hv)
      · rw [if_pos e8] at key
        repeat' (first | (refine mj_ite (fun h => ?_) (fun h => ?_) <;> first | (exfalso; omega) | skip) | refine mj_vci (by first | omega | (simp (disch := omega) only [up_ne, up_at, q_up_at, q_up_ne, cp_ne]; omega)) ?_)
        exact fin _ _ (fun σ3 h3 => key _ σ3 h3 rfl)
  · repeat' (first | (refine mj_ite (fun h => ?_) (fun h => ?_) <;> first | (exfalso; omega) | skip) | refine mj_vci (by first | omega | (simp (disch := omega) only [up_ne, up_at, q_up_at, q_up_ne, cp_ne]; omega)) ?_)
    exact hK _ σ (q_Fm_rfl σ g) (by rw [if_pos a0])
theorem c_M_south (hG : g = 58) (hM : q_mB σ g) (hP : q_pM σ g) (hl : q_fault (σ (g + 10)) (σ g 16) = -6 → q_rep (σ (g + 10)) (σ g 16) 0 l) (hK : ∀ r σ', q_Fm σ σ' g → r = (if ¬ (0 ≤ w ∧ w ≤ 1) then -2 else if q_fault (σ (g + 10)) (σ g 16) ≠ -6 then -5 else if (q_RM σ g l).1 ≠ -6 then -3 else if w = 0 then q_SB (σ g 5) (σ g 6) (q_RM σ g l).2.2.2.2 else q_pinB (σ g 5) (σ g 6) (q_RM σ g l).2.2.2.2) → K (some (iV r)) σ') : mj_Ok (n + 7) i_M_south [rV 12 0 g, iV w] σ K := by
  refine mj_enter (by decide) (Nat.le_of_ble_eq_true rfl) (fun hg => ?_)
  have hz := q_BM_z hg hG
  refine r_M_south [] 600 ?_
  refine c_M_in (fun a1 a2 => ?_) (fun a0 => ?_)
  · repeat' (first | (refine mj_ite (fun h => ?_) (fun h => ?_) <;> first | (exfalso; omega) | skip) | refine mj_vci (by first | omega | (simp (disch := omega) only [up_ne, up_at, q_up_at, q_up_ne, cp_ne]; omega)) ?_)
    refine c_M_refusal2 (l := l) hG hM hP hl (fun r σ1 s1 s2 s3 s4 => ?_)
    repeat' (first | (refine mj_ite (fun h => ?_) (fun h => ?_) <;> first | (exfalso; omega) | skip) | refine mj_vci (by first | omega | (simp (disch := omega) only [up_ne, up_at, q_up_at, q_up_ne, cp_ne]; omega)) ?_)
    refine c_M_layB s3 (fun σ2 t1 t2 => ?_)
    have hH2 : q_had σ2 g (q_BM σ g) := by
      unfold q_had
      rw [t2.2 (g + 15) (by omega) (by omega) (by omega)]
      exact s1
    have hF2 : q_Fs σ σ2 g := q_Fs_tr s2 (q_lf_Fm t2).1
    have fin : ∀ (v : Int) (K' : Option mj_V → mj_W → Prop), (∀ σ3, q_Fm σ σ3 g → K' (some (iV v)) σ3) → mj_Ok (n + 6) i_M_back [rV 12 0 g, iV v] σ2 K' := fun v K' hv => c_M_back hG hH2 hz (fun σ3 b1 b2 b3 => hv σ3 (q_back_Fm hF2 b1 b2 b3))
    have key := hK
    rw [if_neg (fun q => q ⟨a1, a2⟩)] at key
    rcases s4 with ⟨e1, e2⟩ | ⟨e1, e2, e3, e4, e5, e6, e7⟩
    · rw [if_pos e2] at key
      subst e1
      repeat' (first | (refine mj_ite (fun h => ?_) (fun h => ?_) <;> first | (exfalso; omega) | skip) | refine mj_vci (by first | omega | (simp (disch := omega) only [up_ne, up_at, q_up_at, q_up_ne, cp_ne]; omega)) ?_)
      exact fin _ _ (fun σ3 h3 => key _ σ3 h3 rfl)
    · rw [if_neg (fun q => q e1)] at key
      rcases e7 with ⟨e7, e8⟩ | ⟨e7, e8⟩ <;> subst e7
      · rw [if_neg (fun q => q e8), ← e2, ← s2.2 5 (by omega) (by omega), ← s2.2 6 (by omega) (by omega)] at key
        repeat' (first | (refine mj_ite (fun h => ?_) (fun h => ?_) <;> first | (exfalso; omega) | skip) | refine mj_vci (by first | omega | (simp (disch := omega) only [up_ne, up_at, q_up_at, q_up_ne, cp_ne]; omega)) ?_)
        · rw [if_pos (by assumption)] at key
          refine c_M_southB t1 (q_mB_b s3) (fun v hv => ?_)
          repeat' (first | (refine mj_ite (fun h => ?_) (fun h => ?_) <;> first | (exfalso; omega) | skip) | refine mj_vci (by first | omega | (simp (disch := omega) only [up_ne, up_at, q_up_at, q_up_ne, cp_ne]; omega)) ?_)
          exact fin _ _ (fun σ3 h3 => key _ σ3 h3 hv)
        · rw [if_neg (by assumption)] at key
          refine c_M_pinB t1 (q_mB_b s3) (fun v hv => ?_)
          repeat' (first | (refine mj_ite (fun h => ?_) (fun h => ?_) <;> first | (exfalso; omega) | skip) | refine mj_vci (by first | omega | (simp (disch := omega) only [up_ne, up_at, q_up_at, q_up_ne, cp_ne]; omega)) ?_)
          exact fin _ _ (fun σ3 h3 => key _ σ3 h3 hv)
      · rw [if_pos e8] at key
        repeat' (first | (refine mj_ite (fun h => ?_) (fun h => ?_) <;> first | (exfalso; omega) | skip) | refine mj_vci (by first | omega | (simp (disch := omega) only [up_ne, up_at, q_up_at, q_up_ne, cp_ne]; omega)) ?_)
        exact fin _ _ (fun σ3 h3 => key _ σ3 h3 rfl)
  · repeat' (first | (refine mj_ite (fun h => ?_) (fun h => ?_) <;> first | (exfalso; omega) | skip) | refine mj_vci (by first | omega | (simp (disch := omega) only [up_ne, up_at, q_up_at, q_up_ne, cp_ne]; omega)) ?_)
    exact hK _ σ (q_Fm_rfl σ g) (by rw [if_pos a0])
theorem c_M_lies (hG : g = 58) (hM : q_mB σ g) (hP : q_pM σ g) (hV : q_vM σ g) (hl : q_fault (σ (g + 10)) (σ g 16) = -6 → q_rep (σ (g + 10)) (σ g 16) 0 l) (hK : ∀ r σ', q_Fm σ σ' g → r = (if ¬ (0 ≤ w ∧ w ≤ 2) then -2 else if q_fault (σ (g + 10)) (σ g 16) ≠ -6 then -5 else if (q_RM σ g l).1 ≠ -6 then -3 else q_vonB (σ g 5) (σ g 6) (q_RM σ g l).2.2.2.2 (σ g 8) (σ (g + 5)) (σ (g + 6)) w) → K (some (iV r)) σ') : mj_Ok (n + 7) i_M_lies [rV 12 0 g, iV w] σ K := by
  refine mj_enter (by decide) (Nat.le_of_ble_eq_true rfl) (fun hg => ?_)
  have hz := q_BM_z hg hG
  refine r_M_lies [] 600 ?_
  refine c_M_in (fun a1 a2 => ?_) (fun a0 => ?_)
  · repeat' (first | (refine mj_ite (fun h => ?_) (fun h => ?_) <;> first | (exfalso; omega) | skip) | refine mj_vci (by first | omega | (simp (disch := omega) only [up_ne, up_at, q_up_at, q_up_ne, cp_ne]; omega)) ?_)
    refine c_M_refusal2 (l := l) hG hM hP hl (fun r σ1 s1 s2 s3 s4 => ?_)
    repeat' (first | (refine mj_ite (fun h => ?_) (fun h => ?_) <;> first | (exfalso; omega) | skip) | refine mj_vci (by first | omega | (simp (disch := omega) only [up_ne, up_at, q_up_at, q_up_ne, cp_ne]; omega)) ?_)
    refine c_M_layB s3 (fun σ2 t1 t2 => ?_)
    have hH2 : q_had σ2 g (q_BM σ g) := by
      unfold q_had
      rw [t2.2 (g + 15) (by omega) (by omega) (by omega)]
      exact s1
    have hF2 : q_Fs σ σ2 g := q_Fs_tr s2 (q_lf_Fm t2).1
    have fin : ∀ (v : Int) (K' : Option mj_V → mj_W → Prop), (∀ σ3, q_Fm σ σ3 g → K' (some (iV v)) σ3) → mj_Ok (n + 6) i_M_back [rV 12 0 g, iV v] σ2 K' := fun v K' hv => c_M_back hG hH2 hz (fun σ3 b1 b2 b3 => hv σ3 (q_back_Fm hF2 b1 b2 b3))
    have key := hK
    rw [if_neg (fun q => q ⟨a1, a2⟩)] at key
    rcases s4 with ⟨e1, e2⟩ | ⟨e1, e2, e3, e4, e5, e6, e7⟩
    · rw [if_pos e2] at key
      subst e1
      repeat' (first | (refine mj_ite (fun h => ?_) (fun h => ?_) <;> first | (exfalso; omega) | skip) | refine mj_vci (by first | omega | (simp (disch := omega) only [up_ne, up_at, q_up_at, q_up_ne, cp_ne]; omega)) ?_)
      exact fin _ _ (fun σ3 h3 => key _ σ3 h3 rfl)
    · rw [if_neg (fun q => q e1)] at key
      rcases e7 with ⟨e7, e8⟩ | ⟨e7, e8⟩ <;> subst e7
      · rw [if_neg (fun q => q e8), ← e2, ← s2.2 5 (by omega) (by omega), ← s2.2 6 (by omega) (by omega), ← hF2.2 8 (by omega) (by omega), ← hF2.1 (g + 5) (by omega), ← hF2.1 (g + 6) (by omega)] at key
        repeat' (first | (refine mj_ite (fun h => ?_) (fun h => ?_) <;> first | (exfalso; omega) | skip) | refine mj_vci (by first | omega | (simp (disch := omega) only [up_ne, up_at, q_up_at, q_up_ne, cp_ne]; omega)) ?_)
        refine c_M_villagesOn t1 (q_mB_b s3) (q_Fs_vM hF2 hV) (fun v hv => ?_)
        repeat' (first | (refine mj_ite (fun h => ?_) (fun h => ?_) <;> first | (exfalso; omega) | skip) | refine mj_vci (by first | omega | (simp (disch := omega) only [up_ne, up_at, q_up_at, q_up_ne, cp_ne]; omega)) ?_)
        exact fin _ _ (fun σ3 h3 => key _ σ3 h3 hv)
      · rw [if_pos e8] at key
        repeat' (first | (refine mj_ite (fun h => ?_) (fun h => ?_) <;> first | (exfalso; omega) | skip) | refine mj_vci (by first | omega | (simp (disch := omega) only [up_ne, up_at, q_up_at, q_up_ne, cp_ne]; omega)) ?_)
        exact fin _ _ (fun σ3 h3 => key _ σ3 h3 rfl)
  · repeat' (first | (refine mj_ite (fun h => ?_) (fun h => ?_) <;> first | (exfalso; omega) | skip) | refine mj_vci (by first | omega | (simp (disch := omega) only [up_ne, up_at, q_up_at, q_up_ne, cp_ne]; omega)) ?_)
    exact hK _ σ (q_Fm_rfl σ g) (by rw [if_pos a0])
theorem c_M_done (hG : g = 58) (hM : q_mB σ g) (hP : q_pM σ g) (hl : q_fault (σ (g + 10)) (σ g 16) = -6 → q_rep (σ (g + 10)) (σ g 16) 0 l) (h1 : q_fault (σ (g + 10)) (σ g 16) ≠ -6 → ∀ σ', q_Fm σ σ' g → K (some (iV (-5))) σ') (h2 : q_fault (σ (g + 10)) (σ g 16) = -6 → (q_RM σ g l).1 ≠ -6 → ∀ σ', q_Fm σ σ' g → K (some (iV (-3))) σ') (h3 : q_fault (σ (g + 10)) (σ g 16) = -6 → (q_RM σ g l).1 = -6 → ∀ r σ', r = (q_RM σ g l).2.2.2.1 → q_BM σ' g = (q_RM σ g l).2.2.2.2 → σ' g 16 = 0 → (∀ f, 5 ≤ f → f ≤ 15 → σ' g f = σ g f) → (∀ o, (o < g ∨ g + 22 < o ∨ (g + 4 < o ∧ o < g + 11)) → σ' o = σ o) → K (some (iV r)) σ') : mj_Ok (n + 7) i_M_done [rV 12 0 g] σ K := by
  refine mj_enter (by decide) (Nat.le_of_ble_eq_true rfl) (fun hg => ?_)
  have hz := q_BM_z hg hG
  refine r_M_done [] 600 ?_
  refine c_M_refusal2 (l := l) hG hM hP hl (fun r σ1 s1 s2 s3 s4 => ?_)
  have fin : ∀ (v : Int) (K' : Option mj_V → mj_W → Prop), (∀ σ2, q_Fm σ σ2 g → K' (some (iV v)) σ2) → mj_Ok (n + 6) i_M_back [rV 12 0 g, iV v] σ1 K' := fun v K' hv => c_M_back hG s1 hz (fun σ2 b1 b2 b3 => hv σ2 (q_back_Fm s2 b1 b2 b3))
  rcases s4 with ⟨e1, e2⟩ | ⟨e1, e2, e3, e4, e5, e6, e7⟩
  · subst e1
    repeat' (first | (refine mj_ite (fun h => ?_) (fun h => ?_) <;> first | (exfalso; omega) | skip) | refine mj_vci (by first | omega | (simp (disch := omega) only [up_ne, up_at, q_up_at, q_up_ne, cp_ne]; omega)) ?_)
    exact fin _ _ (fun σ2 q => h1 e2 σ2 q)
  · rcases e7 with ⟨e7, e8⟩ | ⟨e7, e8⟩ <;> subst e7
    · repeat' (first | (refine mj_ite (fun h => ?_) (fun h => ?_) <;> first | (exfalso; omega) | skip) | refine mj_vci (by first | omega | (simp (disch := omega) only [up_ne, up_at, q_up_at, q_up_ne, cp_ne]; omega)) ?_)
      have el := q_go_len l (q_BM σ g) 0 0 (by omega) e8
      have ea : mj_up σ1 g 16 0 g 21 = (q_RM σ g l).2.2.2.1 := by rw [up_at, q_up_ne _ _ (by omega), e6]; rw [el]; omega
      refine h3 e1 e8 _ _ ea ?_ ?_ ?_ ?_
      · rw [← e2]
        refine q_B_ext ?_ ?_ ?_ ?_ ?_
        · rw [up_at, q_up_ne _ _ (by omega)]; rfl
        · rw [up_ne _ _ _ (by omega)]; rfl
        · rw [up_ne _ _ _ (by omega)]; rfl
        · rw [up_ne _ _ _ (by omega)]; rfl
        · rw [up_ne _ _ _ (by omega)]; rfl
      · rw [up_at, q_up_at]
      · intro f f1 f2; rw [up_at, q_up_ne _ _ (by omega)]; exact s2.2 f f1 (by omega)
      · intro o ho; rw [up_ne _ _ _ (by omega)]; exact s2.1 o ho
    · repeat' (first | (refine mj_ite (fun h => ?_) (fun h => ?_) <;> first | (exfalso; omega) | skip) | refine mj_vci (by first | omega | (simp (disch := omega) only [up_ne, up_at, q_up_at, q_up_ne, cp_ne]; omega)) ?_)
      exact fin _ _ (fun σ2 q => h2 e1 e8 σ2 q)
end M19b
