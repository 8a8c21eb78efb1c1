/-! the model's acts -/
theorem q_dirs {d : Int} (hd : 0 ≤ d ∧ d ≤ 3) : (mj_east d = 0 ∧ (mj_north d = 1 ∨ mj_north d = -1)) ∨ (mj_north d = 0 ∧ (mj_east d = 1 ∨ mj_east d = -1)) := by
  have : d = 0 ∨ d = 1 ∨ d = 2 ∨ d = 3 := by omega
  rcases this with h | h | h | h <;> subst h <;> decide
theorem q_moves {d w x y : Int} (hd : 0 ≤ d ∧ d ≤ 3) (hw : 1 ≤ w) (h1 : x = x + w * mj_east d) (h2 : y = y + w * mj_north d) : False := by
  rcases q_dirs hd with ⟨-, q | q⟩ | ⟨-, q | q⟩ <;> (first | rw [q] at h2 | rw [q] at h1) <;> omega
section M8
variable {n g : Nat} {σ : mj_W} {K : Option mj_V → mj_W → Prop} {x y p w i j c d he : Int}
theorem c_M_whyNotWalk (hc : 0 ≤ σ g 0 ∧ σ g 0 ≤ 8) (hr : ∀ i, 0 ≤ σ (g + 1) i ∧ σ (g + 1) i ≤ 7) (hxs : ∀ i, 0 ≤ σ (g + 2) i ∧ σ (g + 2) i ≤ 40) (hys : ∀ i, 0 ≤ σ (g + 3) i ∧ σ (g + 3) i ≤ 40) (hz : ∀ i, 0 ≤ σ (g + 4) i ∧ σ (g + 4) i ≤ 200) (hp : 0 ≤ p ∧ p ≤ 7) (hf : q_fnd (σ (g + 1)) (σ g 0) p ≠ -6) (hd : 0 ≤ d ∧ d ≤ 3) (hw : 1 ≤ w ∧ w ≤ 9) (hK : ∀ r, r = q_why (σ g 0) (σ g 7) (σ (g + 1)) (σ (g + 2)) (σ (g + 3)) (σ (g + 4)) p d w → K (some (iV r)) σ) : mj_Ok (n + 3) i_M_whyNotWalk [rV 12 0 g, iV p, iV d, iV w] σ K := by
  have x0 := hxs p
  have y0 := hys p
  have z0 := hz p
  have m1 := q_mulb (a := w) (b := mj_east d) (A := 9) (B := 1) (by omega) (q_east_in d)
  have m2 := q_mulb (a := w) (b := mj_north d) (A := 9) (B := 1) (by omega) (q_north_in d)
  unfold q_why at hK
  rw [if_neg hf] at hK
  refine mj_enter (by decide) (Nat.le_of_ble_eq_true rfl) (fun hg => ?_)
  refine r_M_whyNotWalk [] 600 ?_
  repeat' (first | (refine mj_ite (fun h => ?_) (fun h => ?_) <;> first | (exfalso; omega) | skip) | refine mj_vci (by first | omega | (simp (disch := omega) only [up_ne, up_at, q_up_at, q_up_ne, cp_ne]; omega)) ?_)
  refine c_M_eastBy ?_
  repeat' (first | (refine mj_ite (fun h => ?_) (fun h => ?_) <;> first | (exfalso; omega) | skip) | refine mj_vci (by first | omega | (simp (disch := omega) only [up_ne, up_at, q_up_at, q_up_ne, cp_ne]; omega)) ?_)
  refine c_M_northBy ?_
  repeat' (first | (refine mj_ite (fun h => ?_) (fun h => ?_) <;> first | (exfalso; omega) | skip) | refine mj_vci (by first | omega | (simp (disch := omega) only [up_ne, up_at, q_up_at, q_up_ne, cp_ne]; omega)) ?_)
  refine c_M_isLand (fun a1 a2 a3 a4 => ?_) (fun a0 => ?_)
  · rw [if_neg (fun q => q ⟨a1, a2, a3, a4⟩)] at hK
    repeat' (first | (refine mj_ite (fun h => ?_) (fun h => ?_) <;> first | (exfalso; omega) | skip) | refine mj_vci (by first | omega | (simp (disch := omega) only [up_ne, up_at, q_up_at, q_up_ne, cp_ne]; omega)) ?_)
    refine c_M_whoAt hc hr (fun b0 => ?_) (fun j b1 b2 b3 b4 => ?_)
    · have b0 : q_free (σ g 0) (σ (g + 1)) (σ (g + 2)) (σ (g + 3)) p (σ (g + 2) p + w * mj_east d) (σ (g + 3) p + w * mj_north d) := fun j j1 j2 _ => b0 j j1 j2
      rw [if_pos b0] at hK
      repeat' (first | (refine mj_ite (fun h => ?_) (fun h => ?_) <;> first | (exfalso; omega) | skip) | refine mj_vci (by first | omega | (simp (disch := omega) only [up_ne, up_at, q_up_at, q_up_ne, cp_ne]; omega)) ?_)
      · rw [if_pos (by omega)] at hK; exact hK _ rfl
      · rw [if_neg (by omega)] at hK; exact hK _ rfl
    · have hne : σ (g + 1) j ≠ p := by
        intro q
        rw [q] at b3 b4
        exact q_moves hd hw.1 b3 b4
      have := hr j
      rw [if_neg (fun q => q j b1 b2 hne b3 b4)] at hK
      repeat' (first | (refine mj_ite (fun h => ?_) (fun h => ?_) <;> first | (exfalso; omega) | skip) | refine mj_vci (by first | omega | (simp (disch := omega) only [up_ne, up_at, q_up_at, q_up_ne, cp_ne]; omega)) ?_)
      exact hK _ rfl
  · rw [if_pos a0] at hK
    repeat' (first | (refine mj_ite (fun h => ?_) (fun h => ?_) <;> first | (exfalso; omega) | skip) | refine mj_vci (by first | omega | (simp (disch := omega) only [up_ne, up_at, q_up_at, q_up_ne, cp_ne]; omega)) ?_)
    exact hK _ rfl
theorem c_M_canStep (hc : 0 ≤ σ g 0 ∧ σ g 0 ≤ 8) (hdi : q_dist (σ (g + 1)) (σ g 0)) (hr : ∀ i, 0 ≤ σ (g + 1) i ∧ σ (g + 1) i ≤ 7) (hxs : ∀ i, 0 ≤ σ (g + 2) i ∧ σ (g + 2) i ≤ 40) (hys : ∀ i, 0 ≤ σ (g + 3) i ∧ σ (g + 3) i ≤ 40) (hp : 0 ≤ p ∧ p ≤ 7) (hd : 0 ≤ d ∧ d ≤ 3) (h1 : q_can (σ g 0) (σ (g + 1)) (σ (g + 2)) (σ (g + 3)) p d → K (some (iV 1)) σ) (h0 : ¬ q_can (σ g 0) (σ (g + 1)) (σ (g + 2)) (σ (g + 3)) p d → K (some (iV 0)) σ) : mj_Ok (n + 3) i_M_canStep [rV 12 0 g, iV p, iV d] σ K := by
  have x0 := hxs p
  have y0 := hys p
  have m1 := q_east_in d
  have m2 := q_north_in d
  have fr := q_fnd_or (σ (g + 1)) hc.1 p
  unfold q_can at h1 h0
  refine mj_enter (by decide) (Nat.le_of_ble_eq_true rfl) (fun hg => ?_)
  refine r_M_canStep [] 600 ?_
  repeat' (first | (refine mj_ite (fun h => ?_) (fun h => ?_) <;> first | (exfalso; omega) | skip) | refine mj_vci (by first | omega | (simp (disch := omega) only [up_ne, up_at, q_up_at, q_up_ne, cp_ne]; omega)) ?_)
  refine c_M_eastBy ?_
  repeat' (first | (refine mj_ite (fun h => ?_) (fun h => ?_) <;> first | (exfalso; omega) | skip) | refine mj_vci (by first | omega | (simp (disch := omega) only [up_ne, up_at, q_up_at, q_up_ne, cp_ne]; omega)) ?_)
  refine c_M_northBy ?_
  repeat' (first | (refine mj_ite (fun h => ?_) (fun h => ?_) <;> first | (exfalso; omega) | skip) | refine mj_vci (by first | omega | (simp (disch := omega) only [up_ne, up_at, q_up_at, q_up_ne, cp_ne]; omega)) ?_)
  refine c_M_placeOf hc hdi (fun r hr9 => ?_)
  repeat' (first | (refine mj_ite (fun h => ?_) (fun h => ?_) <;> first | (exfalso; omega) | skip) | refine mj_vci (by first | omega | (simp (disch := omega) only [up_ne, up_at, q_up_at, q_up_ne, cp_ne]; omega)) ?_)
  · exact h0 (fun q => q.1 (by omega))
  · refine c_M_isLand (fun a1 a2 a3 a4 => ?_) (fun a0 => ?_)
    · repeat' (first | (refine mj_ite (fun h => ?_) (fun h => ?_) <;> first | (exfalso; omega) | skip) | refine mj_vci (by first | omega | (simp (disch := omega) only [up_ne, up_at, q_up_at, q_up_ne, cp_ne]; omega)) ?_)
      refine c_M_whoAt hc hr (fun b0 => ?_) (fun j b1 b2 b3 b4 => ?_)
      · repeat' (first | (refine mj_ite (fun h => ?_) (fun h => ?_) <;> first | (exfalso; omega) | skip) | refine mj_vci (by first | omega | (simp (disch := omega) only [up_ne, up_at, q_up_at, q_up_ne, cp_ne]; omega)) ?_)
        exact h1 ⟨by omega, ⟨a1, a2, a3, a4⟩, fun j j1 j2 _ => b0 j j1 j2⟩
      · have hne : σ (g + 1) j ≠ p := by
          intro q
          rw [q] at b3 b4
          exact q_moves (w := 1) hd (by omega) (by rw [Int.one_mul]; exact b3) (by rw [Int.one_mul]; exact b4)
        have := hr j
        repeat' (first | (refine mj_ite (fun h => ?_) (fun h => ?_) <;> first | (exfalso; omega) | skip) | refine mj_vci (by first | omega | (simp (disch := omega) only [up_ne, up_at, q_up_at, q_up_ne, cp_ne]; omega)) ?_)
        exact h0 (fun q => q.2.2 j b1 b2 hne b3 b4)
    · repeat' (first | (refine mj_ite (fun h => ?_) (fun h => ?_) <;> first | (exfalso; omega) | skip) | refine mj_vci (by first | omega | (simp (disch := omega) only [up_ne, up_at, q_up_at, q_up_ne, cp_ne]; omega)) ?_)
      exact h0 (fun q => a0 q.2.1)
theorem c_M_isLetter (h1 : 65 ≤ x → x ≤ 72 → K (some (iV 1)) σ) (h0 : ¬ (65 ≤ x ∧ x ≤ 72) → K (some (iV 0)) σ) : mj_Ok (n + 2) i_M_isLetter [iV x] σ K := by
  refine mj_enter (by decide) (Nat.le_of_ble_eq_true rfl) (fun hg => ?_)
  refine r_M_isLetter [] 600 ?_
  refine c_M_in (fun a1 a2 => ?_) (fun a0 => ?_)
  · repeat' (first | (refine mj_ite (fun h => ?_) (fun h => ?_) <;> first | (exfalso; omega) | skip) | refine mj_vci (by first | omega | (simp (disch := omega) only [up_ne, up_at, q_up_at, q_up_ne, cp_ne]; omega)) ?_)
    exact h1 a1 a2
  · repeat' (first | (refine mj_ite (fun h => ?_) (fun h => ?_) <;> first | (exfalso; omega) | skip) | refine mj_vci (by first | omega | (simp (disch := omega) only [up_ne, up_at, q_up_at, q_up_ne, cp_ne]; omega)) ?_)
    exact h0 a0
end M8
