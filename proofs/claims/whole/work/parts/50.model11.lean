/-! the model: an act happens -/
def q_BM (σ : mj_W) (g : Nat) : q_B := (σ g 0, σ (g + 1), σ (g + 2), σ (g + 3), σ (g + 4))
def q_hap (σ σ' : mj_W) (g : Nat) (a : q_A) : Prop := q_BM σ' g = q_ad (q_BM σ g) a ∧ σ' g 22 = σ g 22 + q_as a ∧ (∀ f, f ≠ 0 → f ≠ 22 → σ' g f = σ g f) ∧ (∀ o, o ≠ g → o ≠ g + 1 → o ≠ g + 2 → o ≠ g + 3 → o ≠ g + 4 → σ' o = σ o)
section M11
variable {n g : Nat} {σ : mj_W} {K : Option mj_V → mj_W → Prop} {x y p w i j c d he k : Int}
theorem l_M_happen (hg : mj_rg σ) (hl : mj_ln (g + 4) = 8) (hK : ∀ σ' : mj_W, σ' (g + 4) = (fun _ => 0) → (∀ o, o ≠ g + 4 → σ' o = σ o) → K none σ') :
    ∀ (m : Nat) (i : Int) (τ : mj_W), 0 ≤ i → i + m = 8 → τ (g + 4) = (fun j => if 0 ≤ j ∧ j < i then 0 else σ (g + 4) j) → (∀ o, o ≠ g + 4 → τ o = σ o) → mj_Wm i_M_happen (n + 3) K 63 [some (rV 12 0 g), none, none, none, none, some (iV i)] [] τ := by
  have m84 : ∀ τ : mj_W, τ (g + 4) = (fun j => if 0 ≤ j ∧ j < 8 then 0 else σ (g + 4) j) → (∀ o, o ≠ g + 4 → τ o = σ o) → K none τ := by
    intro τ t1 t2
    refine hK τ ?_ t2
    rw [t1]
    funext j
    by_cases e : 0 ≤ j ∧ j < 8
    · rw [if_pos e]
    · rw [if_neg e]
      exact (hg (g + 4) j).2 (by rw [hl]; omega)
  intro m
  induction m with
  | zero =>
    intro i τ h0 h1 t1 t2
    have : i = 8 := by omega
    subst this
    refine r_M_happen [(63, [true, false, false, false, false, true])] 600 ?_
    repeat' (first | (refine mj_ite (fun h => ?_) (fun h => ?_) <;> first | (exfalso; omega) | skip) | refine mj_vci (by first | omega | (simp (disch := omega) only [up_ne, up_at, q_up_at, q_up_ne, cp_ne]; omega)) ?_)
    exact m84 τ t1 t2
  | succ m ih =>
    intro i τ h0 h1 t1 t2
    refine r_M_happen [(63, [true, false, false, false, false, true])] 600 ?_
    repeat' (first | (refine mj_ite (fun h => ?_) (fun h => ?_) <;> first | (exfalso; omega) | skip) | refine mj_vci (by first | omega | (simp (disch := omega) only [up_ne, up_at, q_up_at, q_up_ne, cp_ne]; omega)) ?_)
    refine ih (i + 1) _ (by omega) (by omega) ?_ ?_
    · rw [up_at, t1]
      funext j
      simp only [q_up]
      grind
    · intro o ho
      rw [up_ne _ _ _ ho]
      exact t2 o ho
theorem c_M_happen (hl : mj_ln (g + 4) = 8) (hc : 0 ≤ σ g 0 ∧ σ g 0 ≤ 8) (hdi : q_dist (σ (g + 1)) (σ g 0)) (hxs : ∀ i, 0 ≤ σ (g + 2) i ∧ σ (g + 2) i ≤ 40) (hys : ∀ i, 0 ≤ σ (g + 3) i ∧ σ (g + 3) i ≤ 40) (hz : ∀ i, 0 ≤ σ (g + 4) i ∧ σ (g + 4) i ≤ 200) (hs : -10000 ≤ σ g 22 ∧ σ g 22 ≤ 10000) (ha : q_aok (k, p, d, w)) (hf : k = 3 ∨ q_fnd (σ (g + 1)) (σ g 0) p ≠ -6) (hK : ∀ σ', q_hap σ σ' g (k, p, d, w) → K none σ') : mj_Ok (n + 3) i_M_happen [rV 12 0 g, iV k, iV p, iV d, iV w] σ K := by
  have fr := q_fnd_or (σ (g + 1)) hc.1 p
  have hxp := hxs p
  have hyp := hys p
  have hzp := hz p
  unfold q_hap q_BM q_ad q_as at hK
  unfold q_aok at ha
  simp only at ha hK
  refine mj_enter (by decide) (Nat.le_of_ble_eq_true rfl) (fun hg => ?_)
  have hk : k = 0 ∨ k = 1 ∨ k = 2 ∨ k = 3 := by omega
  rcases hk with e | e | e | e <;> subst e
  · refine r_M_happen [(63, [true, false, false, false, false, true])] 600 ?_
    repeat' (first | (refine mj_ite (fun h => ?_) (fun h => ?_) <;> first | (exfalso; omega) | skip) | refine mj_vci (by first | omega | (simp (disch := omega) only [up_ne, up_at, q_up_at, q_up_ne, cp_ne]; omega)) ?_)
    refine c_M_walk (by omega) (by omega) (by omega) (by omega) (by omega) (by omega) hs (fun σ' s1 s2 s3 s4 s5 => ?_)
    repeat' (first | (refine mj_ite (fun h => ?_) (fun h => ?_) <;> first | (exfalso; omega) | skip) | refine mj_vci (by first | omega | (simp (disch := omega) only [up_ne, up_at, q_up_at, q_up_ne, cp_ne]; omega)) ?_)
    refine hK σ' ⟨?_, ?_, ?_, ?_⟩
    · rw [if_pos rfl, s1, s2, s3, s4, s5 (g + 1) (by omega) (by omega) (by omega) (by omega), q_up_ne _ _ (by omega)]
    · rw [if_pos rfl, s4, q_up_at]
    · intro f f1 f2; rw [s4, q_up_ne _ _ f2]
    · intro o o1 o2 o3 o4 o5; exact s5 o o1 o3 o4 o5
  · refine r_M_happen [(63, [true, false, false, false, false, true])] 600 ?_
    repeat' (first | (refine mj_ite (fun h => ?_) (fun h => ?_) <;> first | (exfalso; omega) | skip) | refine mj_vci (by first | omega | (simp (disch := omega) only [up_ne, up_at, q_up_at, q_up_ne, cp_ne]; omega)) ?_)
    refine c_M_placeOf hc hdi (fun r hr => ?_)
    repeat' (first | (refine mj_ite (fun h => ?_) (fun h => ?_) <;> first | (exfalso; omega) | skip) | refine mj_vci (by first | omega | (simp (disch := omega) only [up_ne, up_at, q_up_at, q_up_ne, cp_ne]; omega)) ?_)
    refine c_M_drop (by omega) (by omega) (fun σ' s1 s2 s3 => ?_)
    repeat' (first | (refine mj_ite (fun h => ?_) (fun h => ?_) <;> first | (exfalso; omega) | skip) | refine mj_vci (by first | omega | (simp (disch := omega) only [up_ne, up_at, q_up_at, q_up_ne, cp_ne]; omega)) ?_)
    refine hK σ' ⟨?_, ?_, ?_, ?_⟩
    · rw [if_neg (by decide), if_pos rfl, s1, s2, hr, s3 (g + 2) (by omega) (by omega), s3 (g + 3) (by omega) (by omega), s3 (g + 4) (by omega) (by omega), q_up_at]
    · rw [if_neg (by decide), s1, q_up_ne _ _ (by omega)]; omega
    · intro f f1 f2; rw [s1, q_up_ne _ _ f1]
    · intro o o1 o2 o3 o4 o5; exact s3 o o1 o2
  · refine r_M_happen [(63, [true, false, false, false, false, true])] 600 ?_
    repeat' (first | (refine mj_ite (fun h => ?_) (fun h => ?_) <;> first | (exfalso; omega) | skip) | refine mj_vci (by first | omega | (simp (disch := omega) only [up_ne, up_at, q_up_at, q_up_ne, cp_ne]; omega)) ?_)
    refine c_M_inherit hc hdi (by omega) (by omega) (by omega) (fun σ' s1 s2 s3 s4 s5 => ?_)
    have sg := s5 g (by omega) (by omega) (by omega) (by omega)
    repeat' (first | (refine mj_ite (fun h => ?_) (fun h => ?_) <;> first | (exfalso; omega) | skip) | refine mj_vci (by first | omega | (simp (disch := omega) only [up_ne, up_at, q_up_at, q_up_ne, cp_ne]; omega)) ?_)
    refine hK σ' ⟨?_, ?_, ?_, ?_⟩
    · rw [if_neg (by decide), if_neg (by decide), if_pos rfl, s1, s2, s3, s4, sg]
    · rw [if_neg (by decide), sg]; omega
    · intro f f1 f2; rw [sg]
    · intro o o1 o2 o3 o4 o5; exact s5 o o2 o3 o4 o5
  · refine r_M_happen [(63, [true, false, false, false, false, true])] 600 ?_
    repeat' (first | (refine mj_ite (fun h => ?_) (fun h => ?_) <;> first | (exfalso; omega) | skip) | refine mj_vci (by first | omega | (simp (disch := omega) only [up_ne, up_at, q_up_at, q_up_ne, cp_ne]; omega)) ?_)
    refine l_M_happen hg hl (fun σ' s1 s2 => ?_) 8 0 σ (by omega) (by omega) (by funext j; rw [if_neg (by omega)]) (fun _ _ => rfl)
    have sg := s2 g (by omega)
    refine hK σ' ⟨?_, ?_, ?_, ?_⟩
    · rw [if_neg (by decide), if_neg (by decide), if_neg (by decide), s1, sg, s2 (g + 1) (by omega), s2 (g + 2) (by omega), s2 (g + 3) (by omega)]
    · rw [if_neg (by decide), sg]; omega
    · intro f f1 f2; rw [sg]
    · intro o o1 o2 o3 o4 o5; exact s2 o o5
end M11
