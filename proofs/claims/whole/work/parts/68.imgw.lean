/-! the model's images, whole -/
def q_cnt (σ : mj_W) (g : Nat) (j : Int) : Int := if j = 0 then σ g 0 else if j = 1 then σ g 5 else if j = 2 then σ g 6 else if j = 3 then σ g 7 else if j = 4 then σ g 8 else if j = 5 then σ g 14 else σ (g + 1 + ((j - 6) / 8).toNat) ((j - 6) % 8)
theorem q_cnt_r (σ : mj_W) (g r : Nat) {j : Int} (h : 0 ≤ j ∧ j < 8) : q_cnt σ g (6 + 8 * (r : Int) + j) = σ (g + 1 + r) j := by
  unfold q_cnt
  rw [if_neg (by omega), if_neg (by omega), if_neg (by omega), if_neg (by omega), if_neg (by omega), if_neg (by omega)]
  rw [show ((6 + 8 * (r : Int) + j - 6) / 8).toNat = r by omega, show (6 + 8 * (r : Int) + j - 6) % 8 = j by omega]
def q_wr (σ τ : mj_W) (g : Nat) (a c : Int) : Prop := τ g = q_up (σ g) 41 (a + c) ∧ (∀ q, q ≠ g → q ≠ g + 23 → τ q = σ q) ∧ (∀ j, ¬ (a ≤ j ∧ j < a + c) → τ (g + 23) j = σ (g + 23) j) ∧ (∀ j, 0 ≤ j → j < c → τ (g + 23) (a + j) = q_cnt σ g j)
section M25
variable {n g : Nat} {σ τ σ1 : mj_W} {K : Option mj_V → mj_W → Prop} {x y z p w i j c d k s m a v f : Int}
theorem q_wr_s (h : q_wr σ τ g a c) (hc : 0 ≤ c) (s1 : σ1 (g + 23) = q_up (τ (g + 23)) (a + c) v) (s2 : σ1 g = q_up (τ g) 41 (a + c + 1)) (s3 : ∀ q, q ≠ g → q ≠ g + 23 → σ1 q = τ q) (hv : v = q_cnt σ g c) : q_wr σ σ1 g a (c + 1) := by
  obtain ⟨h1, h2, h3, h4⟩ := h
  refine ⟨?_, fun q q1 q2 => (s3 q q1 q2).trans (h2 q q1 q2), fun j hj => ?_, fun j j0 j1 => ?_⟩
  · rw [s2, h1, q_upup]; congr 1; omega
  · rw [s1, q_up_ne _ _ (by omega)]; exact h3 j (by omega)
  · rw [s1]
    by_cases e : j = c
    · rw [e, q_up_at]; exact hv
    · rw [q_up_ne _ _ (by omega)]; exact h4 j j0 (by omega)
theorem q_wr_id (s2 : σ1 g = q_up (τ g) 41 (a + c + 1)) (hf : f ≠ 41) : mj_up σ1 g f (τ g f) = σ1 := by
  funext q
  by_cases e : q = g
  · rw [e, up_at]; exact q_up_id _ (by rw [s2, q_up_ne _ _ hf])
  · rw [up_ne _ _ _ e]
theorem q_wr_r {r : Nat} (h : q_wr σ τ g a (6 + 8 * (r : Int))) (hr : r ≤ 8) (s1 : ∀ j, 0 ≤ j → j < 8 → σ1 (g + 23) (a + (6 + 8 * (r : Int)) + j) = τ (g + 1 + r) j) (s2 : ∀ j, ¬ (a + (6 + 8 * (r : Int)) ≤ j ∧ j < a + (6 + 8 * (r : Int)) + 8) → σ1 (g + 23) j = τ (g + 23) j) (s3 : σ1 g = q_up (τ g) 41 (a + (6 + 8 * (r : Int)) + 8)) (s4 : ∀ q, q ≠ g → q ≠ g + 23 → σ1 q = τ q) : q_wr σ σ1 g a (6 + 8 * ((r + 1 : Nat) : Int)) := by
  obtain ⟨h1, h2, h3, h4⟩ := h
  refine ⟨?_, fun q q1 q2 => (s4 q q1 q2).trans (h2 q q1 q2), fun j hj => ?_, fun j j0 j1 => ?_⟩
  · rw [s3, h1, q_upup]; congr 1; omega
  · rw [s2 j (by omega)]; exact h3 j (by omega)
  · by_cases e : j < 6 + 8 * (r : Int)
    · rw [s2 _ (by omega)]; exact h4 j j0 e
    · have := s1 (j - (6 + 8 * (r : Int))) (by omega) (by omega)
      rw [show a + (6 + 8 * (r : Int)) + (j - (6 + 8 * (r : Int))) = a + j by omega, h2 (g + 1 + r) (by omega) (by omega), ← q_cnt_r σ g r (by omega), show 6 + 8 * (r : Int) + (j - (6 + 8 * (r : Int))) = j by omega] at this
      exact this

theorem c_M_passAllW (hw : σ g 42 = 1) (ha : σ g 41 = a) (hab : 0 ≤ a ∧ a + 78 ≤ 180) (hK : ∀ σ', q_wr σ σ' g a 78 → K none σ') : mj_Ok (n + 3) i_M_passAll [rV 12 0 g] σ K := by
  have R9 : ∀ τ, q_wr σ τ g a (6 + 8 * ((9 : Nat) : Int)) → mj_Wm i_M_passAll (n + 3) K 144 [some (rV 12 0 g)] [] τ := by
    intro τ h
    refine r_M_passAll [] 600 ?_
    exact hK τ h
  have R8 : ∀ τ, q_wr σ τ g a (6 + 8 * ((8 : Nat) : Int)) → mj_Wm i_M_passAll (n + 3) K 136 [some (rV 12 0 g)] [] τ := by
    intro τ h
    refine r_M_passAll [(144, [true])] 600 ?_
    refine c_M_passRowW (a := a + (6 + 8 * ((8 : Nat) : Int))) (by rw [h.1, q_up_ne _ _ (by omega)]; exact hw) (by rw [h.1, q_up_at]) (by omega) (by omega) (fun σ1 s1 s2 s3 s4 => ?_)
    exact R9 σ1 (q_wr_r (r := 8) h (by omega) s1 s2 s3 s4)
  have R7 : ∀ τ, q_wr σ τ g a (6 + 8 * ((7 : Nat) : Int)) → mj_Wm i_M_passAll (n + 3) K 128 [some (rV 12 0 g)] [] τ := by
    intro τ h
    refine r_M_passAll [(136, [true])] 600 ?_
    refine c_M_passRowW (a := a + (6 + 8 * ((7 : Nat) : Int))) (by rw [h.1, q_up_ne _ _ (by omega)]; exact hw) (by rw [h.1, q_up_at]) (by omega) (by omega) (fun σ1 s1 s2 s3 s4 => ?_)
    exact R8 σ1 (q_wr_r (r := 7) h (by omega) s1 s2 s3 s4)
  have R6 : ∀ τ, q_wr σ τ g a (6 + 8 * ((6 : Nat) : Int)) → mj_Wm i_M_passAll (n + 3) K 120 [some (rV 12 0 g)] [] τ := by
    intro τ h
    refine r_M_passAll [(128, [true])] 600 ?_
    refine c_M_passRowW (a := a + (6 + 8 * ((6 : Nat) : Int))) (by rw [h.1, q_up_ne _ _ (by omega)]; exact hw) (by rw [h.1, q_up_at]) (by omega) (by omega) (fun σ1 s1 s2 s3 s4 => ?_)
    exact R7 σ1 (q_wr_r (r := 6) h (by omega) s1 s2 s3 s4)
  have R5 : ∀ τ, q_wr σ τ g a (6 + 8 * ((5 : Nat) : Int)) → mj_Wm i_M_passAll (n + 3) K 112 [some (rV 12 0 g)] [] τ := by
    intro τ h
    refine r_M_passAll [(120, [true])] 600 ?_
    refine c_M_passRowW (a := a + (6 + 8 * ((5 : Nat) : Int))) (by rw [h.1, q_up_ne _ _ (by omega)]; exact hw) (by rw [h.1, q_up_at]) (by omega) (by omega) (fun σ1 s1 s2 s3 s4 => ?_)
    exact R6 σ1 (q_wr_r (r := 5) h (by omega) s1 s2 s3 s4)
  have R4 : ∀ τ, q_wr σ τ g a (6 + 8 * ((4 : Nat) : Int)) → mj_Wm i_M_passAll (n + 3) K 104 [some (rV 12 0 g)] [] τ := by
    intro τ h
    refine r_M_passAll [(112, [true])] 600 ?_
    refine c_M_passRowW (a := a + (6 + 8 * ((4 : Nat) : Int))) (by rw [h.1, q_up_ne _ _ (by omega)]; exact hw) (by rw [h.1, q_up_at]) (by omega) (by omega) (fun σ1 s1 s2 s3 s4 => ?_)
    exact R5 σ1 (q_wr_r (r := 4) h (by omega) s1 s2 s3 s4)
  have R3 : ∀ τ, q_wr σ τ g a (6 + 8 * ((3 : Nat) : Int)) → mj_Wm i_M_passAll (n + 3) K 96 [some (rV 12 0 g)] [] τ := by
    intro τ h
    refine r_M_passAll [(104, [true])] 600 ?_
    refine c_M_passRowW (a := a + (6 + 8 * ((3 : Nat) : Int))) (by rw [h.1, q_up_ne _ _ (by omega)]; exact hw) (by rw [h.1, q_up_at]) (by omega) (by omega) (fun σ1 s1 s2 s3 s4 => ?_)
    exact R4 σ1 (q_wr_r (r := 3) h (by omega) s1 s2 s3 s4)
  have R2 : ∀ τ, q_wr σ τ g a (6 + 8 * ((2 : Nat) : Int)) → mj_Wm i_M_passAll (n + 3) K 88 [some (rV 12 0 g)] [] τ := by
    intro τ h
    refine r_M_passAll [(96, [true])] 600 ?_
    refine c_M_passRowW (a := a + (6 + 8 * ((2 : Nat) : Int))) (by rw [h.1, q_up_ne _ _ (by omega)]; exact hw) (by rw [h.1, q_up_at]) (by omega) (by omega) (fun σ1 s1 s2 s3 s4 => ?_)
    exact R3 σ1 (q_wr_r (r := 2) h (by omega) s1 s2 s3 s4)
  have R1 : ∀ τ, q_wr σ τ g a (6 + 8 * ((1 : Nat) : Int)) → mj_Wm i_M_passAll (n + 3) K 80 [some (rV 12 0 g)] [] τ := by
    intro τ h
    refine r_M_passAll [(88, [true])] 600 ?_
    refine c_M_passRowW (a := a + (6 + 8 * ((1 : Nat) : Int))) (by rw [h.1, q_up_ne _ _ (by omega)]; exact hw) (by rw [h.1, q_up_at]) (by omega) (by omega) (fun σ1 s1 s2 s3 s4 => ?_)
    exact R2 σ1 (q_wr_r (r := 1) h (by omega) s1 s2 s3 s4)
  have R0 : ∀ τ, q_wr σ τ g a (6 + 8 * ((0 : Nat) : Int)) → mj_Wm i_M_passAll (n + 3) K 72 [some (rV 12 0 g)] [] τ := by
    intro τ h
    refine r_M_passAll [(80, [true])] 600 ?_
    refine c_M_passRowW (a := a + (6 + 8 * ((0 : Nat) : Int))) (by rw [h.1, q_up_ne _ _ (by omega)]; exact hw) (by rw [h.1, q_up_at]) (by omega) (by omega) (fun σ1 s1 s2 s3 s4 => ?_)
    exact R1 σ1 (q_wr_r (r := 0) h (by omega) s1 s2 s3 s4)
  have S5 : ∀ τ, q_wr σ τ g a 5 → mj_Wm i_M_passAll (n + 3) K 60 [some (rV 12 0 g)] [] τ := by
    intro τ h
    have hv : τ g 14 = q_cnt σ g 5 := by rw [h.1, q_up_ne _ _ (by omega)]; rfl
    refine r_M_passAll [(72, [true])] 600 ?_
    refine c_M_passW (a := a + 5) (by rw [h.1, q_up_ne _ _ (by omega)]; exact hw) (by rw [h.1, q_up_at]) (by omega) (fun σ1 s1 s2 s3 => ?_)
    have e1 : mj_up σ1 g 14 (τ g 14) = σ1 := q_wr_id s2 (by omega)
    have h1 := q_wr_s h (by omega) s1 s2 s3 hv
    have fin := R0 σ1 h1
    rw [← e1] at fin
    exact fin
  have S4 : ∀ τ, q_wr σ τ g a 4 → mj_Wm i_M_passAll (n + 3) K 48 [some (rV 12 0 g)] [] τ := by
    intro τ h
    have hv : τ g 8 = q_cnt σ g 4 := by rw [h.1, q_up_ne _ _ (by omega)]; rfl
    refine r_M_passAll [(60, [true])] 600 ?_
    refine c_M_passW (a := a + 4) (by rw [h.1, q_up_ne _ _ (by omega)]; exact hw) (by rw [h.1, q_up_at]) (by omega) (fun σ1 s1 s2 s3 => ?_)
    have e1 : mj_up σ1 g 8 (τ g 8) = σ1 := q_wr_id s2 (by omega)
    have h1 := q_wr_s h (by omega) s1 s2 s3 hv
    have fin := S5 σ1 h1
    rw [← e1] at fin
    exact fin
  have S3 : ∀ τ, q_wr σ τ g a 3 → mj_Wm i_M_passAll (n + 3) K 36 [some (rV 12 0 g)] [] τ := by
    intro τ h
    have hv : τ g 7 = q_cnt σ g 3 := by rw [h.1, q_up_ne _ _ (by omega)]; rfl
    refine r_M_passAll [(48, [true])] 600 ?_
    refine c_M_passW (a := a + 3) (by rw [h.1, q_up_ne _ _ (by omega)]; exact hw) (by rw [h.1, q_up_at]) (by omega) (fun σ1 s1 s2 s3 => ?_)
    have e1 : mj_up σ1 g 7 (τ g 7) = σ1 := q_wr_id s2 (by omega)
    have h1 := q_wr_s h (by omega) s1 s2 s3 hv
    have fin := S4 σ1 h1
    rw [← e1] at fin
    exact fin
  have S2 : ∀ τ, q_wr σ τ g a 2 → mj_Wm i_M_passAll (n + 3) K 24 [some (rV 12 0 g)] [] τ := by
    intro τ h
    have hv : τ g 6 = q_cnt σ g 2 := by rw [h.1, q_up_ne _ _ (by omega)]; rfl
    refine r_M_passAll [(36, [true])] 600 ?_
    refine c_M_passW (a := a + 2) (by rw [h.1, q_up_ne _ _ (by omega)]; exact hw) (by rw [h.1, q_up_at]) (by omega) (fun σ1 s1 s2 s3 => ?_)
    have e1 : mj_up σ1 g 6 (τ g 6) = σ1 := q_wr_id s2 (by omega)
    have h1 := q_wr_s h (by omega) s1 s2 s3 hv
    have fin := S3 σ1 h1
    rw [← e1] at fin
    exact fin
  have S1 : ∀ τ, q_wr σ τ g a 1 → mj_Wm i_M_passAll (n + 3) K 12 [some (rV 12 0 g)] [] τ := by
    intro τ h
    have hv : τ g 5 = q_cnt σ g 1 := by rw [h.1, q_up_ne _ _ (by omega)]; rfl
    refine r_M_passAll [(24, [true])] 600 ?_
    refine c_M_passW (a := a + 1) (by rw [h.1, q_up_ne _ _ (by omega)]; exact hw) (by rw [h.1, q_up_at]) (by omega) (fun σ1 s1 s2 s3 => ?_)
    have e1 : mj_up σ1 g 5 (τ g 5) = σ1 := q_wr_id s2 (by omega)
    have h1 := q_wr_s h (by omega) s1 s2 s3 hv
    have fin := S2 σ1 h1
    rw [← e1] at fin
    exact fin
  have S0 : ∀ τ, q_wr σ τ g a 0 → mj_Wm i_M_passAll (n + 3) K 0 [some (rV 12 0 g)] [] τ := by
    intro τ h
    have hv : τ g 0 = q_cnt σ g 0 := by rw [h.1, q_up_ne _ _ (by omega)]; rfl
    refine r_M_passAll [(12, [true])] 600 ?_
    refine c_M_passW (a := a + 0) (by rw [h.1, q_up_ne _ _ (by omega)]; exact hw) (by rw [h.1, q_up_at]) (by omega) (fun σ1 s1 s2 s3 => ?_)
    have e1 : mj_up σ1 g 0 (τ g 0) = σ1 := q_wr_id s2 (by omega)
    have h1 := q_wr_s h (by omega) s1 s2 s3 hv
    have fin := S1 σ1 h1
    rw [← e1] at fin
    exact fin
  refine mj_enter (by decide) (Nat.le_of_ble_eq_true rfl) (fun hg => ?_)
  have fin := S0 σ ⟨by rw [show a + 0 = a by omega, ← ha]; exact (q_up_id _ rfl).symm, fun _ _ _ => rfl, fun _ _ => rfl, fun j j0 j1 => by omega⟩
  exact fin
end M25
