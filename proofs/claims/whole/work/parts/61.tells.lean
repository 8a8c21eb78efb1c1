/-! the model: told, year -/
section M21
variable {n g : Nat} {σ : mj_W} {K : Option mj_V → mj_W → Prop} {x y z p w i j c d e k s m : Int} {B : q_B} {l : List q_A}
theorem c_M_toldOf (hM : q_mB σ g) (hp : 0 ≤ p ∧ p ≤ 7) (hw : 0 ≤ w ∧ w ≤ 9) (hK : ∀ r, r = (if 2 < w ∨ q_fnd (σ (g + 1)) (σ g 0) p = -6 then -2 else if w = 0 then σ (g + 2) p else if w = 1 then σ (g + 3) p else σ (g + 4) p) → K (some (iV r)) σ) : mj_Ok (n + 3) i_M_toldOf [rV 12 0 g, iV p, iV w] σ K := by
  have hc : 0 ≤ σ g 0 ∧ σ g 0 ≤ 8 := hM.1.1
  have fr := q_fnd_or (σ (g + 1)) hc.1 p
  refine mj_enter (by decide) (Nat.le_of_ble_eq_true rfl) (fun hg => ?_)
  refine r_M_toldOf [] 600 ?_
  refine c_M_placeOf hc hM.1.2.2.2.2.2.1 (fun r hr => ?_)
  by_cases e1 : q_fnd (σ (g + 1)) (σ g 0) p = -6
  · rw [if_pos (Or.inr e1)] at hK
    repeat' (first | (refine mj_ite (fun h => ?_) (fun h => ?_) <;> first | (exfalso; omega) | skip) | refine mj_vci (by first | omega | (simp (disch := omega) only [up_ne, up_at, q_up_at, q_up_ne, cp_ne]; omega)) ?_)
    exact hK _ rfl
  · by_cases e2 : 2 < w
    · rw [if_pos (Or.inl e2)] at hK
      repeat' (first | (refine mj_ite (fun h => ?_) (fun h => ?_) <;> first | (exfalso; omega) | skip) | refine mj_vci (by first | omega | (simp (disch := omega) only [up_ne, up_at, q_up_at, q_up_ne, cp_ne]; omega)) ?_)
      exact hK _ rfl
    · rw [if_neg (fun q => q.elim e2 e1)] at hK
      repeat' (first | (refine mj_ite (fun h => ?_) (fun h => ?_) <;> first | (exfalso; omega) | skip) | refine mj_vci (by first | omega | (simp (disch := omega) only [up_ne, up_at, q_up_at, q_up_ne, cp_ne]; omega)) ?_)
      refine c_M_ofPerson hc hM.1.2.2.2.2.2.1 hp (by omega) (fun v hv => ?_)
      repeat' (first | (refine mj_ite (fun h => ?_) (fun h => ?_) <;> first | (exfalso; omega) | skip) | refine mj_vci (by first | omega | (simp (disch := omega) only [up_ne, up_at, q_up_at, q_up_ne, cp_ne]; omega)) ?_)
      refine hK _ ?_
      rw [hv]
      (repeat' split) <;> first | rfl | omega
theorem c_M_told (hM : q_mB σ g) (hV : q_vM σ g) (hK : ∀ r, r = q_told (σ g 8) (σ g 16) (σ g 14) (σ g 0) (σ g 5) (σ g 6) (σ g 7) (σ (g + 1)) (σ (g + 2)) (σ (g + 3)) (σ (g + 4)) (σ (g + 5)) (σ (g + 6)) w → K (some (iV r)) σ) : mj_Ok (n + 4) i_M_told [rV 12 0 g, iV w] σ K := by
  have hc : 0 ≤ σ g 0 ∧ σ g 0 ≤ 8 := hM.1.1
  unfold q_told at hK
  refine mj_enter (by decide) (Nat.le_of_ble_eq_true rfl) (fun hg => ?_)
  refine r_M_told [] 600 ?_
  refine c_M_in (fun a1 a2 => ?_) (fun a0 => ?_)
  · rw [if_neg (by omega), if_neg (by omega), if_neg (by omega), if_neg (by omega), if_neg (by omega), if_neg (by omega), if_neg (by omega), if_neg (by omega), if_neg (by omega), if_pos (by omega)] at hK
    have ht := (q_tbs hV.1 (v := w - 100) (by omega)).2.1
    have x0 := hV.2.1 (w - 100)
    have y0 := hV.2.2 (w - 100)
    by_cases tb : q_tb (σ g 8) (w - 100) = true
    · rw [if_pos tb] at ht hK
      repeat' (first | (refine mj_ite (fun h => ?_) (fun h => ?_) <;> first | (exfalso; omega) | skip) | refine mj_vci (by first | omega | (simp (disch := omega) only [up_ne, up_at, q_up_at, q_up_ne, cp_ne]; omega)) ?_)
      exact hK _ rfl
    · rw [if_neg tb] at ht hK
      repeat' (first | (refine mj_ite (fun h => ?_) (fun h => ?_) <;> first | (exfalso; omega) | skip) | refine mj_vci (by first | omega | (simp (disch := omega) only [up_ne, up_at, q_up_at, q_up_ne, cp_ne]; omega)) ?_)
      exact hK _ rfl
  · repeat' (first | (refine mj_ite (fun h => ?_) (fun h => ?_) <;> first | (exfalso; omega) | skip) | refine mj_vci (by first | omega | (simp (disch := omega) only [up_ne, up_at, q_up_at, q_up_ne, cp_ne]; omega)) ?_)
    refine c_M_in (fun b1 b2 => ?_) (fun b0 => ?_)
    · rw [if_neg (by omega), if_neg (by omega), if_neg (by omega), if_neg (by omega), if_neg (by omega), if_neg (by omega), if_neg (by omega), if_neg (by omega), if_pos (by omega)] at hK
      repeat' (first | (refine mj_ite (fun h => ?_) (fun h => ?_) <;> first | (exfalso; omega) | skip) | refine mj_vci (by first | omega | (simp (disch := omega) only [up_ne, up_at, q_up_at, q_up_ne, cp_ne]; omega)) ?_)
      refine c_M_toldOf hM (by omega) (by omega) (fun r hr => ?_)
      repeat' (first | (refine mj_ite (fun h => ?_) (fun h => ?_) <;> first | (exfalso; omega) | skip) | refine mj_vci (by first | omega | (simp (disch := omega) only [up_ne, up_at, q_up_at, q_up_ne, cp_ne]; omega)) ?_)
      exact hK _ hr
    · repeat' (first | (refine mj_ite (fun h => ?_) (fun h => ?_) <;> first | (exfalso; omega) | skip) | refine mj_vci (by first | omega | (simp (disch := omega) only [up_ne, up_at, q_up_at, q_up_ne, cp_ne]; omega)) ?_)
      refine c_M_in (fun c1 c2 => ?_) (fun c0 => ?_)
      · rw [if_neg (by omega), if_neg (by omega), if_neg (by omega), if_neg (by omega), if_neg (by omega), if_neg (by omega), if_neg (by omega), if_pos (by omega)] at hK
        repeat' (first | (refine mj_ite (fun h => ?_) (fun h => ?_) <;> first | (exfalso; omega) | skip) | refine mj_vci (by first | omega | (simp (disch := omega) only [up_ne, up_at, q_up_at, q_up_ne, cp_ne]; omega)) ?_)
        · rw [if_pos (by omega)] at hK; exact hK _ rfl
        · rw [if_neg (by omega)] at hK; exact hK _ rfl
      · repeat' (first | (refine mj_ite (fun h => ?_) (fun h => ?_) <;> first | (exfalso; omega) | skip) | refine mj_vci (by first | omega | (simp (disch := omega) only [up_ne, up_at, q_up_at, q_up_ne, cp_ne]; omega)) ?_)
        · rw [if_pos h] at hK; exact hK _ rfl
        · rw [if_neg (by omega), if_pos h] at hK
          refine c_M_persons hc ?_
          repeat' (first | (refine mj_ite (fun h => ?_) (fun h => ?_) <;> first | (exfalso; omega) | skip) | refine mj_vci (by first | omega | (simp (disch := omega) only [up_ne, up_at, q_up_at, q_up_ne, cp_ne]; omega)) ?_)
          exact hK _ rfl
        · rw [if_neg (by omega), if_neg (by omega), if_pos h] at hK; exact hK _ rfl
        · rw [if_neg (by omega), if_neg (by omega), if_neg (by omega), if_pos h] at hK; exact hK _ rfl
        · rw [if_neg (by omega), if_neg (by omega), if_neg (by omega), if_neg (by omega), if_pos h] at hK; exact hK _ rfl
        · rw [if_neg (by omega), if_neg (by omega), if_neg (by omega), if_neg (by omega), if_neg (by omega), if_pos h] at hK; exact hK _ rfl
        · rw [if_neg (by omega), if_neg (by omega), if_neg (by omega), if_neg (by omega), if_neg (by omega), if_neg (by omega), if_pos h] at hK; exact hK _ rfl
        · rw [if_neg (by omega), if_neg (by omega), if_neg (by omega), if_neg (by omega), if_neg (by omega), if_neg (by omega), if_neg (by omega), if_neg (by omega), if_neg (by omega), if_neg (by omega)] at hK; exact hK _ rfl
/-- a year passed: only the border and field 22 -/
def q_yf (σ σ' : mj_W) (g : Nat) : Prop := (∀ f, f ≠ 0 → f ≠ 22 → σ' g f = σ g f) ∧ (∀ o, o ≠ g → o ≠ g + 1 → o ≠ g + 2 → o ≠ g + 3 → o ≠ g + 4 → σ' o = σ o)
theorem l_M_year {seed : Int} (hG : g = 58) (hr7 : 0 ≤ σ g 7 ∧ σ g 7 ≤ 99) (hm : m ≤ 99) {R : q_B × Int} (hK : ∀ τ, q_BM τ g = R.1 → τ g 22 = R.2 → q_yf σ τ g → mj_Wm i_M_year (n + 6) K 152 [some (rV 12 0 g), some (iV seed), some (iV m), some (iV w), none, none, none, none, none, none] [] τ) :
    ∀ (k : Nat) (i x : Int) (τ : mj_W), 0 ≤ i → i + k = m → (0 ≤ x ∧ x ≤ 65536) → q_wB (q_BM τ g) → q_yf σ τ g → (0 ≤ τ g 22 ∧ τ g 22 ≤ 3 * i) → q_yrF (σ g 7) k x (q_BM τ g) (τ g 22) = R → mj_Wm i_M_year (n + 6) K 54 [some (rV 12 0 g), some (iV seed), some (iV m), some (iV w), some (iV x), some (iV i), none, none, none, none] [] τ := by
  have hl4 : mj_ln (g + 4) = 8 := by subst hG; decide +kernel
  intro k
  induction k with
  | zero =>
    intro i x τ h0 h1 hx hW hf h22 hR
    subst hR
    refine r_M_year [(54, [true, true, true, true, true, true, false, false, false, false]), (152, [true, true, true, true, false, false, false, false, false, false])] 600 ?_
    repeat' (first | (refine mj_ite (fun h => ?_) (fun h => ?_) <;> first | (exfalso; omega) | skip) | refine mj_vci (by first | omega | (simp (disch := omega) only [up_ne, up_at, q_up_at, q_up_ne, cp_ne]; omega)) ?_)
    exact hK τ rfl rfl hf
  | succ k ih =>
    intro i x τ h0 h1 hx hW hf h22 hR
    unfold q_yrF at hR
    have f7 : τ g 7 = σ g 7 := hf.1 7 (by omega) (by omega)
    have hz : ∀ j, 0 ≤ τ (g + 4) j ∧ τ (g + 4) j ≤ 200 := fun j => by have := hW.2.2.2.2.1 j; have t : 0 ≤ τ (g + 4) j ∧ τ (g + 4) j ≤ 99 := this; omega
    have hx9 : 0 ≤ (75 * x + 74) % 65537 ∧ (75 * x + 74) % 65537 ≤ 65536 := by omega
    refine r_M_year [(54, [true, true, true, true, true, true, false, false, false, false]), (152, [true, true, true, true, false, false, false, false, false, false])] 600 ?_
    by_cases h5 : ((75 * x + 74) % 65537) % 5 = 0
    · rw [if_pos h5] at hR
      repeat' (first | (refine mj_ite (fun h => ?_) (fun h => ?_) <;> first | (exfalso; omega) | skip) | refine mj_vci (by first | omega | (simp (disch := omega) only [up_ne, up_at, q_up_at, q_up_ne, cp_ne]; omega)) ?_)
      refine c_M_whyNot hW.1 hW.2.2.2.2.2.1 hW.2.1 hW.2.2.1 hW.2.2.2.1 hz (Or.inl rfl) (fun r hr => ?_)
      have hr : r = 0 := hr
      subst hr
      repeat' (first | (refine mj_ite (fun h => ?_) (fun h => ?_) <;> first | (exfalso; omega) | skip) | refine mj_vci (by first | omega | (simp (disch := omega) only [up_ne, up_at, q_up_at, q_up_ne, cp_ne]; omega)) ?_)
      refine c_M_happen hl4 hW.1 hW.2.2.2.2.2.1 hW.2.2.1 hW.2.2.2.1 hz (by omega) (Or.inl rfl) (Or.inl rfl) (fun σ1 s => ?_)
      obtain ⟨s1, s2, s3, s4⟩ := s
      have s1 : q_BM σ1 g = q_ad (q_BM τ g) (3, 0, 0, 0) := s1
      have s2 : σ1 g 22 = τ g 22 + 0 := s2
      repeat' (first | (refine mj_ite (fun h => ?_) (fun h => ?_) <;> first | (exfalso; omega) | skip) | refine mj_vci (by first | omega | (simp (disch := omega) only [up_ne, up_at, q_up_at, q_up_ne, cp_ne]; omega)) ?_)
      refine ih (i + 1) ((75 * x + 74) % 65537) σ1 (by omega) (by omega) (by omega) (by rw [s1]; exact q_wB_night hW) ⟨fun f f0 f1 => (s3 f f0 f1).trans (hf.1 f f0 f1), fun o o1 o2 o3 o4 o5 => (s4 o o1 o2 o3 o4 o5).trans (hf.2 o o1 o2 o3 o4 o5)⟩ (by omega) ?_
      rw [s1, s2, Int.add_zero]
      exact hR
    · rw [if_neg h5] at hR
      have hok : q_aok (0, ((75 * x + 74) % 65537) % 8, ((75 * x + 74) % 65537) / 8 % 4, 1 + ((75 * x + 74) % 65537) / 32 % 3) := Or.inr ⟨by show 0 ≤ ((75 * x + 74) % 65537) % 8 ∧ ((75 * x + 74) % 65537) % 8 ≤ 7; omega, Or.inr (Or.inr ⟨rfl, by show 0 ≤ ((75 * x + 74) % 65537) / 8 % 4 ∧ ((75 * x + 74) % 65537) / 8 % 4 ≤ 3; omega, by show 1 ≤ 1 + ((75 * x + 74) % 65537) / 32 % 3 ∧ 1 + ((75 * x + 74) % 65537) / 32 % 3 ≤ 9; omega⟩)⟩
      repeat' (first | (refine mj_ite (fun h => ?_) (fun h => ?_) <;> first | (exfalso; omega) | skip) | refine mj_vci (by first | omega | (simp (disch := omega) only [up_ne, up_at, q_up_at, q_up_ne, cp_ne]; omega)) ?_)
      refine c_M_whyNot hW.1 hW.2.2.2.2.2.1 hW.2.1 hW.2.2.1 hW.2.2.2.1 hz hok (fun r hr => ?_)
      rw [f7] at hr
      have hr : r = q_aw (σ g 7) (q_BM τ g) (0, ((75 * x + 74) % 65537) % 8, ((75 * x + 74) % 65537) / 8 % 4, 1 + ((75 * x + 74) % 65537) / 32 % 3) := hr
      by_cases hr0 : r = 0
      · rw [if_pos (by rw [← hr]; exact hr0)] at hR
        subst hr0
        have hfn := (q_aw_walk hr.symm).1
        repeat' (first | (refine mj_ite (fun h => ?_) (fun h => ?_) <;> first | (exfalso; omega) | skip) | refine mj_vci (by first | omega | (simp (disch := omega) only [up_ne, up_at, q_up_at, q_up_ne, cp_ne]; omega)) ?_)
        refine c_M_happen hl4 hW.1 hW.2.2.2.2.2.1 hW.2.2.1 hW.2.2.2.1 hz (by omega) hok (Or.inr hfn) (fun σ1 s => ?_)
        obtain ⟨s1, s2, s3, s4⟩ := s
        have s2 : σ1 g 22 = τ g 22 + (1 + ((75 * x + 74) % 65537) / 32 % 3) := s2
        repeat' (first | (refine mj_ite (fun h => ?_) (fun h => ?_) <;> first | (exfalso; omega) | skip) | refine mj_vci (by first | omega | (simp (disch := omega) only [up_ne, up_at, q_up_at, q_up_ne, cp_ne]; omega)) ?_)
        refine ih (i + 1) ((75 * x + 74) % 65537) σ1 (by omega) (by omega) (by omega) (by rw [s1]; exact q_wB_walk hW hr7.2 (by omega) hr.symm) ⟨fun f f0 f1 => (s3 f f0 f1).trans (hf.1 f f0 f1), fun o o1 o2 o3 o4 o5 => (s4 o o1 o2 o3 o4 o5).trans (hf.2 o o1 o2 o3 o4 o5)⟩ (by omega) ?_
        rw [s1, s2]
        exact hR
      · rw [if_neg (by rw [← hr]; exact hr0)] at hR
        refine mj_ite (fun q => absurd q hr0) (fun _ => ?_)
        repeat' (first | (refine mj_ite (fun h => ?_) (fun h => ?_) <;> first | (exfalso; omega) | skip) | refine mj_vci (by first | omega | (simp (disch := omega) only [up_ne, up_at, q_up_at, q_up_ne, cp_ne]; omega)) ?_)
        exact ih (i + 1) ((75 * x + 74) % 65537) τ (by omega) (by omega) (by omega) hW hf (by omega) hR
noncomputable abbrev q_YM (σ : mj_W) (g : Nat) (seed m : Int) : q_B × Int := q_yrF (σ g 7) m.toNat seed (q_BM σ g) 0
theorem c_M_year {seed : Int} (hG : g = 58) (hM : q_mB σ g) (h1 : ¬ (0 ≤ seed ∧ seed ≤ 9999 ∧ 1 ≤ m ∧ m ≤ 99 ∧ 0 ≤ w ∧ w ≤ 2) → K (some (iV (-2))) σ) (h2 : (0 ≤ seed ∧ seed ≤ 9999 ∧ 1 ≤ m ∧ m ≤ 99 ∧ 0 ≤ w ∧ w ≤ 2) → ∀ r σ', q_Fm σ σ' g → r = (if w = 0 then q_SB (σ g 5) (σ g 6) (q_YM σ g seed m).1 else if w = 1 then (q_YM σ g seed m).2 else if q_pinB (σ g 5) (σ g 6) (q_YM σ g seed m).1 = -6 then 0 else 1) → K (some (iV r)) σ') : mj_Ok (n + 6) i_M_year [rV 12 0 g, iV seed, iV m, iV w] σ K := by
  refine mj_enter (by decide) (Nat.le_of_ble_eq_true rfl) (fun hg => ?_)
  have hz := q_BM_z hg hG
  refine r_M_year [(54, [true, true, true, true, true, true, false, false, false, false]), (152, [true, true, true, true, false, false, false, false, false, false])] 600 ?_
  refine c_M_in (fun a1 a2 => ?_) (fun a0 => ?_)
  · repeat' (first | (refine mj_ite (fun h => ?_) (fun h => ?_) <;> first | (exfalso; omega) | skip) | refine mj_vci (by first | omega | (simp (disch := omega) only [up_ne, up_at, q_up_at, q_up_ne, cp_ne]; omega)) ?_)
    refine c_M_in (fun b1 b2 => ?_) (fun b0 => ?_)
    · repeat' (first | (refine mj_ite (fun h => ?_) (fun h => ?_) <;> first | (exfalso; omega) | skip) | refine mj_vci (by first | omega | (simp (disch := omega) only [up_ne, up_at, q_up_at, q_up_ne, cp_ne]; omega)) ?_)
      refine c_M_in (fun c1 c2 => ?_) (fun c0 => ?_)
      · have key := h2 ⟨a1, a2, b1, b2, c1, c2⟩
        repeat' (first | (refine mj_ite (fun h => ?_) (fun h => ?_) <;> first | (exfalso; omega) | skip) | refine mj_vci (by first | omega | (simp (disch := omega) only [up_ne, up_at, q_up_at, q_up_ne, cp_ne]; omega)) ?_)
        refine c_M_keepNow (fun σ1 s1 s2 => ?_)
        have e0 := s2 g (by omega)
        have eB : q_BM (mj_up σ1 g 22 0) g = q_BM σ g := by
          refine q_B_ext ?_ ?_ ?_ ?_ ?_
          · rw [up_at, q_up_ne _ _ (by omega), e0]; rfl
          · rw [up_ne _ _ _ (by omega), s2 (g + 1) (by omega)]; rfl
          · rw [up_ne _ _ _ (by omega), s2 (g + 2) (by omega)]; rfl
          · rw [up_ne _ _ _ (by omega), s2 (g + 3) (by omega)]; rfl
          · rw [up_ne _ _ _ (by omega), s2 (g + 4) (by omega)]; rfl
        have e7 : mj_up σ1 g 22 0 g 7 = σ g 7 := by rw [up_at, q_up_ne _ _ (by omega), e0]
        refine l_M_year (σ := mj_up σ1 g 22 0) (R := q_YM σ g seed m) hG (by rw [e7]; exact hM.2.2.2) b2 (fun τ t1 t2 t3 => ?_) m.toNat 0 seed _ (by omega) (by omega) (by omega) (by rw [eB]; exact hM.1) ⟨fun _ _ _ => rfl, fun _ _ _ _ _ _ => rfl⟩ (by rw [up_at, q_up_at]; omega) (by rw [e7, eB, up_at, q_up_at])
        have hF : q_Fs σ τ g := by
          refine ⟨fun o ho => ?_, fun f f1 f2 => ?_⟩
          · rw [t3.2 o (by omega) (by omega) (by omega) (by omega) (by omega), up_ne _ _ _ (by omega)]
            exact s2 o (by omega)
          · rw [t3.1 f (by omega) (by omega), up_at, q_up_ne _ _ (by omega), e0]
        have hH : q_had τ g (q_BM σ g) := by
          unfold q_had
          rw [t3.2 (g + 15) (by omega) (by omega) (by omega) (by omega) (by omega), up_ne _ _ _ (by omega)]
          exact s1
        have hMt : q_mB τ g := q_Fs_mB hF (by rw [t1]; exact q_wB_yr hM.2.2.2.2 _ _ _ _ hM.1) hM
        rw [← t1, ← t2, ← hF.2 5 (by omega) (by omega), ← hF.2 6 (by omega) (by omega)] at key
        refine r_M_year [] 600 ?_
        refine c_M_southNowB hMt (fun r σ2 hr u1 u2 => ?_)
        rw [← hr] at key
        have f22 : σ2 g 22 = τ g 22 := u2.1 22 (by omega)
        rw [← f22] at key
        have hH2 : q_had σ2 g (q_BM σ g) := by
          unfold q_had
          rw [u2.2 (g + 15) (by omega) (by omega) (by omega)]
          exact hH
        have hF2 : q_Fs σ σ2 g := q_Fs_tr hF (q_lf_Fm u2).1
        have fin : ∀ (v : Int) (K' : Option mj_V → mj_W → Prop), (∀ σ3, q_Fm σ σ3 g → K' (some (iV v)) σ3) → mj_Ok (n + 5) i_M_back [rV 12 0 g, iV v] σ2 K' := fun v K' hv => c_M_back hG hH2 hz (fun σ3 b1 b2 b3 => hv σ3 (q_back_Fm hF2 b1 b2 b3))
        repeat' (first | (refine mj_ite (fun h => ?_) (fun h => ?_) <;> first | (exfalso; omega) | skip) | refine mj_vci (by first | omega | (simp (disch := omega) only [up_ne, up_at, q_up_at, q_up_ne, cp_ne]; omega)) ?_)
        refine c_M_pinB u1 (q_mB_b hMt) (fun v hv => ?_)
        rw [← hv] at key
        have hvi := q_pinch_in (q_cx (q_BM τ g).1 (q_BM τ g).2.1 (q_BM τ g).2.2.1) (q_cy (q_BM τ g).1 (τ g 5) (τ g 6) (q_BM τ g).2.1 (q_BM τ g).2.2.2.1) ((q_BM τ g).1 + 1)
        have hvi : v = -6 ∨ 0 ≤ v := by rw [hv]; exact hvi
        have hw : w = 0 ∨ w = 1 ∨ w = 2 := by omega
        rcases hw with hw | hw | hw <;> subst hw
        · rw [if_pos rfl] at key
          repeat' (first | (refine mj_ite (fun h => ?_) (fun h => ?_) <;> first | (exfalso; omega) | skip) | refine mj_vci (by first | omega | (simp (disch := omega) only [up_ne, up_at, q_up_at, q_up_ne, cp_ne]; omega)) ?_)
          all_goals exact fin _ _ (fun σ3 q => key _ σ3 q rfl)
        · rw [if_neg (by decide), if_pos rfl] at key
          repeat' (first | (refine mj_ite (fun h => ?_) (fun h => ?_) <;> first | (exfalso; omega) | skip) | refine mj_vci (by first | omega | (simp (disch := omega) only [up_ne, up_at, q_up_at, q_up_ne, cp_ne]; omega)) ?_)
          all_goals exact fin _ _ (fun σ3 q => key _ σ3 q rfl)
        · rw [if_neg (by decide), if_neg (by decide)] at key
          by_cases ev : v = -6
          · rw [if_pos ev] at key
            repeat' (first | (refine mj_ite (fun h => ?_) (fun h => ?_) <;> first | (exfalso; omega) | skip) | refine mj_vci (by first | omega | (simp (disch := omega) only [up_ne, up_at, q_up_at, q_up_ne, cp_ne]; omega)) ?_)
            exact fin _ _ (fun σ3 q => key _ σ3 q rfl)
          · rw [if_neg ev] at key
            repeat' (first | (refine mj_ite (fun h => ?_) (fun h => ?_) <;> first | (exfalso; omega) | skip) | refine mj_vci (by first | omega | (simp (disch := omega) only [up_ne, up_at, q_up_at, q_up_ne, cp_ne]; omega)) ?_)
            exact fin _ _ (fun σ3 q => key _ σ3 q rfl)
      · repeat' (first | (refine mj_ite (fun h => ?_) (fun h => ?_) <;> first | (exfalso; omega) | skip) | refine mj_vci (by first | omega | (simp (disch := omega) only [up_ne, up_at, q_up_at, q_up_ne, cp_ne]; omega)) ?_)
        exact h1 (by omega)
    · repeat' (first | (refine mj_ite (fun h => ?_) (fun h => ?_) <;> first | (exfalso; omega) | skip) | refine mj_vci (by first | omega | (simp (disch := omega) only [up_ne, up_at, q_up_at, q_up_ne, cp_ne]; omega)) ?_)
      exact h1 (by omega)
  · repeat' (first | (refine mj_ite (fun h => ?_) (fun h => ?_) <;> first | (exfalso; omega) | skip) | refine mj_vci (by first | omega | (simp (disch := omega) only [up_ne, up_at, q_up_at, q_up_ne, cp_ne]; omega)) ?_)
    exact h1 (by omega)
end M21
