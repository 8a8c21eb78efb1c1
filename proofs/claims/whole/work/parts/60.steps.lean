/-! one step in the model: fair, crowns -/
def q_pos (B : q_B) (p x y : Int) : q_B := (B.1, B.2.1, q_up B.2.2.1 p x, q_up B.2.2.2.1 p y, B.2.2.2.2)
theorem q_upup (f : Int → Int) (i a b : Int) : q_up (q_up f i a) i b = q_up f i b := by
  funext j
  unfold q_up
  split <;> rfl
theorem q_up_id (f : Int → Int) {i v : Int} (h : v = f i) : q_up f i v = f := by
  funext j
  unfold q_up
  by_cases e : j = i
  · rw [if_pos e, e, h]
  · rw [if_neg e]
theorem q_pospos (B : q_B) (p x y x' y' : Int) : q_pos (q_pos B p x y) p x' y' = q_pos B p x' y' := by
  unfold q_pos
  simp only [q_upup]
theorem q_pos_id (B : q_B) {p x y : Int} (h1 : x = B.2.2.1 p) (h2 : y = B.2.2.2.1 p) : q_pos B p x y = B := by
  show (_, _, _, _, _) = (B.1, B.2.1, B.2.2.1, B.2.2.2.1, B.2.2.2.2)
  rw [q_up_id _ h1, q_up_id _ h2]
theorem q_wB_pos {B : q_B} (hB : q_wB B) {p x y : Int} (h2 : q_land x y) (h3 : q_free B.1 B.2.1 B.2.2.1 B.2.2.2.1 p x y) : q_wB (q_pos B p x y) := by
  obtain ⟨g1, g2, g3, g4, g5, g6, g7⟩ := hB
  obtain ⟨n, row, xs, ys, wk⟩ := B
  dsimp only at *
  refine ⟨g1, g2, ?_, ?_, g5, g6, ?_⟩
  · intro i; have := g3 i; show 0 ≤ q_up xs p x i ∧ q_up xs p x i ≤ 40; unfold q_up; split <;> omega
  · intro i; have := g4 i; show 0 ≤ q_up ys p y i ∧ q_up ys p y i ≤ 40; unfold q_up; split <;> omega
  · intro i j a1 a2 a3 a4 a5 a6
    have a5 : q_up xs p x (row i) = q_up xs p x (row j) := a5
    have a6 : q_up ys p y (row i) = q_up ys p y (row j) := a6
    have k1 := h3 i a1 a2
    have k2 := h3 j a3 a4
    have k3 := g7 i j a1 a2 a3 a4
    have k4 := g6 i j a1 a2 a3 a4
    unfold q_up at a5 a6
    grind
theorem q_wB_stp {B : q_B} (hB : q_wB B) {p d : Int} (h : q_canB B p d) : q_wB (q_stp B p d) := q_wB_pos hB h.2.1 h.2.2
theorem q_canB_p {B : q_B} (hB : q_wB B) {p d : Int} (h : q_canB B p d) : 0 ≤ p ∧ p ≤ 7 := by
  rcases q_fnd_or B.2.1 hB.1.1 p with q | q
  · exact absurd q.1 h.1
  · have := hB.2.1 (q_fnd B.2.1 B.1 p)
    rw [q.2.2] at this
    exact this
def q_pf (σ σ' : mj_W) (g : Nat) : Prop := ∀ o, o ≠ g + 2 → o ≠ g + 3 → σ' o = σ o
theorem q_pf_Fs {σ σ' : mj_W} {g : Nat} (h : q_pf σ σ' g) : q_Fs σ σ' g := ⟨fun o ho => h o (by omega) (by omega), fun f _ _ => by rw [h g (by omega) (by omega)]⟩
section M20
variable {n g : Nat} {σ : mj_W} {K : Option mj_V → mj_W → Prop} {x y z p w i j c d e k s : Int} {B : q_B} {l : List q_A}
theorem c_M_putB (hp : 0 ≤ p ∧ p ≤ 7) (hK : ∀ σ', q_BM σ' g = q_pos (q_BM σ g) p x y → q_pf σ σ' g → K none σ') : mj_Ok (n + 1) i_M_put [rV 12 0 g, iV p, iV x, iV y] σ K := by
  refine c_M_put hp (hK _ (q_B_ext ?_ ?_ ?_ ?_ ?_) (fun o o1 o2 => ?_))
  · rw [up_ne _ _ _ (by omega), up_ne _ _ _ (by omega)]; rfl
  · rw [up_ne _ _ _ (by omega), up_ne _ _ _ (by omega)]; rfl
  · rw [up_ne _ _ _ (by omega), up_at]; rfl
  · rw [up_at, up_ne _ _ _ (by omega)]; rfl
  · rw [up_ne _ _ _ (by omega), up_ne _ _ _ (by omega)]; rfl
  · rw [up_ne _ _ _ o2, up_ne _ _ _ o1]
theorem c_M_canStepB (hM : q_mB σ g) (hp : 0 ≤ p ∧ p ≤ 7) (hd : 0 ≤ d ∧ d ≤ 3) (h1 : q_canB (q_BM σ g) p d → K (some (iV 1)) σ) (h0 : ¬ q_canB (q_BM σ g) p d → K (some (iV 0)) σ) : mj_Ok (n + 3) i_M_canStep [rV 12 0 g, iV p, iV d] σ K :=
  c_M_canStep hM.1.1 hM.1.2.2.2.2.2.1 hM.1.2.1 hM.1.2.2.1 hM.1.2.2.2.1 hp hd h1 h0
theorem c_M_southBy (hM : q_mB σ g) (hc : q_canB (q_BM σ g) p d) (hd : 0 ≤ d ∧ d ≤ 3) (hK : ∀ r σ', r = q_SB (σ g 5) (σ g 6) (q_stp (q_BM σ g) p d) → (-36000 ≤ r ∧ r ≤ 36000) → q_Fm σ σ' g → K (some (iV r)) σ') : mj_Ok (n + 5) i_M_southBy [rV 12 0 g, iV p, iV d] σ K := by
  have hp := q_canB_p hM.1 hc
  have x0 : 0 ≤ σ (g + 2) p ∧ σ (g + 2) p ≤ 40 := hM.1.2.2.1 p
  have y0 : 0 ≤ σ (g + 3) p ∧ σ (g + 3) p ≤ 40 := hM.1.2.2.2.1 p
  have m1 := q_east_in d
  have m2 := q_north_in d
  refine mj_enter (by decide) (Nat.le_of_ble_eq_true rfl) (fun hg => ?_)
  refine r_M_southBy [] 600 ?_
  repeat' (first | (refine mj_ite (fun h => ?_) (fun h => ?_) <;> first | (exfalso; omega) | skip) | refine mj_vci (by first | omega | (simp (disch := omega) only [up_ne, up_at, q_up_at, q_up_ne, cp_ne]; omega)) ?_)
  refine c_M_eastBy ?_
  repeat' (first | (refine mj_ite (fun h => ?_) (fun h => ?_) <;> first | (exfalso; omega) | skip) | refine mj_vci (by first | omega | (simp (disch := omega) only [up_ne, up_at, q_up_at, q_up_ne, cp_ne]; omega)) ?_)
  refine c_M_northBy ?_
  repeat' (first | (refine mj_ite (fun h => ?_) (fun h => ?_) <;> first | (exfalso; omega) | skip) | refine mj_vci (by first | omega | (simp (disch := omega) only [up_ne, up_at, q_up_at, q_up_ne, cp_ne]; omega)) ?_)
  refine c_M_putB hp (fun σ1 s1 s2 => ?_)
  have eB : q_BM σ1 g = q_stp (q_BM σ g) p d := s1
  have hM1 : q_mB σ1 g := q_Fs_mB (q_pf_Fs s2) (by rw [eB]; exact q_wB_stp hM.1 hc) hM
  repeat' (first | (refine mj_ite (fun h => ?_) (fun h => ?_) <;> first | (exfalso; omega) | skip) | refine mj_vci (by first | omega | (simp (disch := omega) only [up_ne, up_at, q_up_at, q_up_ne, cp_ne]; omega)) ?_)
  refine c_M_southNowB hM1 (fun r σ2 hr t1 t2 => ?_)
  have eB2 : q_BM σ2 g = q_stp (q_BM σ g) p d := (q_lf_B t2).trans eB
  have x2 : σ2 (g + 2) p = σ (g + 2) p + mj_east d := by
    have := congrArg (fun B : q_B => B.2.2.1 p) eB2
    have : σ2 (g + 2) p = q_up (σ (g + 2)) p (σ (g + 2) p + mj_east d) p := this
    rw [this, q_up_at]
  have y2 : σ2 (g + 3) p = σ (g + 3) p + mj_north d := by
    have := congrArg (fun B : q_B => B.2.2.2.1 p) eB2
    have : σ2 (g + 3) p = q_up (σ (g + 3)) p (σ (g + 3) p + mj_north d) p := this
    rw [this, q_up_at]
  repeat' (first | (refine mj_ite (fun h => ?_) (fun h => ?_) <;> first | (exfalso; omega) | skip) | refine mj_vci (by first | omega | (simp (disch := omega) only [up_ne, up_at, q_up_at, q_up_ne, cp_ne]; omega)) ?_)
  refine c_M_eastBy ?_
  repeat' (first | (refine mj_ite (fun h => ?_) (fun h => ?_) <;> first | (exfalso; omega) | skip) | refine mj_vci (by first | omega | (simp (disch := omega) only [up_ne, up_at, q_up_at, q_up_ne, cp_ne]; omega)) ?_)
  refine c_M_northBy ?_
  repeat' (first | (refine mj_ite (fun h => ?_) (fun h => ?_) <;> first | (exfalso; omega) | skip) | refine mj_vci (by first | omega | (simp (disch := omega) only [up_ne, up_at, q_up_at, q_up_ne, cp_ne]; omega)) ?_)
  refine c_M_putB hp (fun σ3 u1 u2 => ?_)
  repeat' (first | (refine mj_ite (fun h => ?_) (fun h => ?_) <;> first | (exfalso; omega) | skip) | refine mj_vci (by first | omega | (simp (disch := omega) only [up_ne, up_at, q_up_at, q_up_ne, cp_ne]; omega)) ?_)
  have hb := q_SB_in (q_mB_b hM1)
  rw [← hr] at hb
  refine hK r σ3 ?_ hb ⟨q_Fs_tr (q_Fs_tr (q_pf_Fs s2) (q_lf_Fm t2).1) (q_pf_Fs u2), ?_⟩
  · rw [hr, eB, s2 g (by omega) (by omega)]
  · rw [u1, eB2]
    show q_pos (q_pos (q_BM σ g) p _ _) p _ _ = _
    rw [q_pospos]
    refine q_pos_id _ ?_ ?_
    · rw [x2]; show _ = σ (g + 2) p; omega
    · rw [y2]; show _ = σ (g + 3) p; omega
theorem c_M_unfair (hx : -100000 ≤ x ∧ x ≤ 100000) (hK : ∀ r, r = q_unf x → K (some (iV r)) σ) : mj_Ok (n + 2) i_M_unfair [iV x] σ K := by
  refine mj_enter (by decide) (Nat.le_of_ble_eq_true rfl) (fun hg => ?_)
  refine r_M_unfair [] 600 ?_
  repeat' (first | (refine mj_ite (fun h => ?_) (fun h => ?_) <;> first | (exfalso; omega) | skip) | refine mj_vci (by first | omega | (simp (disch := omega) only [up_ne, up_at, q_up_at, q_up_ne, cp_ne]; omega)) ?_)
  refine c_M_size (by omega) ?_
  repeat' (first | (refine mj_ite (fun h => ?_) (fun h => ?_) <;> first | (exfalso; omega) | skip) | refine mj_vci (by first | omega | (simp (disch := omega) only [up_ne, up_at, q_up_at, q_up_ne, cp_ne]; omega)) ?_)
  refine hK _ ?_
  unfold q_unf
  (repeat' split) <;> omega
theorem l_M_fair (hM : q_mB σ g) (hw : 0 ≤ w ∧ w ≤ 1) : ∀ (k : Nat) (i a s : Int) (τ : mj_W), 0 ≤ i → i + k = 32 → q_Fm σ τ g → (∀ r σ', q_Fm σ σ' g → r = (if w = 0 then (q_fairF (σ g 5) (σ g 6) (q_BM σ g) k i a s).1 else (q_fairF (σ g 5) (σ g 6) (q_BM σ g) k i a s).2) → K (some (iV r)) σ') → mj_Wm i_M_fair (n + 6) K 27 [some (rV 12 0 g), some (iV w), some (iV a), some (iV s), some (iV i), none] [] τ := by
  intro k
  induction k with
  | zero =>
    intro i a s τ h0 h1 hF hK
    have hK : ∀ r σ', q_Fm σ σ' g → r = (if w = 0 then a else s) → K (some (iV r)) σ' := hK
    refine r_M_fair [(27, [true, true, true, true, true, false])] 600 ?_
    repeat' (first | (refine mj_ite (fun h => ?_) (fun h => ?_) <;> first | (exfalso; omega) | skip) | refine mj_vci (by first | omega | (simp (disch := omega) only [up_ne, up_at, q_up_at, q_up_ne, cp_ne]; omega)) ?_)
    · exact hK _ τ hF (by rw [if_pos h])
    · exact hK _ τ hF (by rw [if_neg h])
  | succ k ih =>
    intro i a s τ h0 h1 hF hK
    unfold q_fairF at hK
    have hMt := q_Fm_mB hF hM
    refine r_M_fair [(27, [true, true, true, true, true, false])] 600 ?_
    repeat' (first | (refine mj_ite (fun h => ?_) (fun h => ?_) <;> first | (exfalso; omega) | skip) | refine mj_vci (by first | omega | (simp (disch := omega) only [up_ne, up_at, q_up_at, q_up_ne, cp_ne]; omega)) ?_)
    refine c_M_canStepB hMt (by omega) (by omega) (fun hc => ?_) (fun hc => ?_)
    · repeat' (first | (refine mj_ite (fun h => ?_) (fun h => ?_) <;> first | (exfalso; omega) | skip) | refine mj_vci (by first | omega | (simp (disch := omega) only [up_ne, up_at, q_up_at, q_up_ne, cp_ne]; omega)) ?_)
      refine c_M_southBy hMt hc (by omega) (fun r σ1 hr hb s1 => ?_)
      rw [hF.2, hF.1.2 5 (by omega) (by omega), hF.1.2 6 (by omega) (by omega)] at hr
      rw [hF.2] at hc
      repeat' (first | (refine mj_ite (fun h => ?_) (fun h => ?_) <;> first | (exfalso; omega) | skip) | refine mj_vci (by first | omega | (simp (disch := omega) only [up_ne, up_at, q_up_at, q_up_ne, cp_ne]; omega)) ?_)
      refine c_M_unfair (by omega) (fun u hu => ?_)
      rw [hr] at hu
      rw [← hu] at hK
      have hF1 := q_Fm_tr hF s1
      by_cases ea : u < a
      · have hx : q_canB (q_BM σ g) (i / 4) (i % 4) ∧ u < a := ⟨hc, ea⟩
        rw [if_pos hx] at hK
        repeat' (first | (refine mj_ite (fun h => ?_) (fun h => ?_) <;> first | (exfalso; omega) | skip) | refine mj_vci (by first | omega | (simp (disch := omega) only [up_ne, up_at, q_up_at, q_up_ne, cp_ne]; omega)) ?_)
        exact ih (i + 1) _ _ σ1 (by omega) (by omega) hF1 hK
      · have hx : ¬ (q_canB (q_BM σ g) (i / 4) (i % 4) ∧ u < a) := fun q => ea q.2
        rw [if_neg hx] at hK
        repeat' (first | (refine mj_ite (fun h => ?_) (fun h => ?_) <;> first | (exfalso; omega) | skip) | refine mj_vci (by first | omega | (simp (disch := omega) only [up_ne, up_at, q_up_at, q_up_ne, cp_ne]; omega)) ?_)
        exact ih (i + 1) _ _ σ1 (by omega) (by omega) hF1 hK
    · rw [hF.2] at hc
      have hx : ¬ (q_canB (q_BM σ g) (i / 4) (i % 4) ∧ q_unf (q_SB (σ g 5) (σ g 6) (q_stp (q_BM σ g) (i / 4) (i % 4))) < a) := fun q => hc q.1
      rw [if_neg hx] at hK
      repeat' (first | (refine mj_ite (fun h => ?_) (fun h => ?_) <;> first | (exfalso; omega) | skip) | refine mj_vci (by first | omega | (simp (disch := omega) only [up_ne, up_at, q_up_at, q_up_ne, cp_ne]; omega)) ?_)
      exact ih (i + 1) _ _ τ (by omega) (by omega) hF hK
theorem c_M_fair (hM : q_mB σ g) (h1 : ¬ (0 ≤ w ∧ w ≤ 1) → K (some (iV (-2))) σ) (h2 : 0 ≤ w ∧ w ≤ 1 → ∀ r σ', q_Fm σ σ' g → r = (if w = 0 then (q_fairF (σ g 5) (σ g 6) (q_BM σ g) 32 0 (q_unf (q_SB (σ g 5) (σ g 6) (q_BM σ g))) 99).1 else (q_fairF (σ g 5) (σ g 6) (q_BM σ g) 32 0 (q_unf (q_SB (σ g 5) (σ g 6) (q_BM σ g))) 99).2) → K (some (iV r)) σ') : mj_Ok (n + 6) i_M_fair [rV 12 0 g, iV w] σ K := by
  refine mj_enter (by decide) (Nat.le_of_ble_eq_true rfl) (fun hg => ?_)
  refine r_M_fair [(27, [true, true, true, true, true, false])] 600 ?_
  refine c_M_in (fun a1 a2 => ?_) (fun a0 => ?_)
  · repeat' (first | (refine mj_ite (fun h => ?_) (fun h => ?_) <;> first | (exfalso; omega) | skip) | refine mj_vci (by first | omega | (simp (disch := omega) only [up_ne, up_at, q_up_at, q_up_ne, cp_ne]; omega)) ?_)
    refine c_M_southNowB hM (fun r σ1 hr t1 t2 => ?_)
    have hb := q_SB_in (q_mB_b hM)
    rw [← hr] at hb
    repeat' (first | (refine mj_ite (fun h => ?_) (fun h => ?_) <;> first | (exfalso; omega) | skip) | refine mj_vci (by first | omega | (simp (disch := omega) only [up_ne, up_at, q_up_at, q_up_ne, cp_ne]; omega)) ?_)
    refine c_M_unfair (by omega) (fun u hu => ?_)
    rw [hr] at hu
    repeat' (first | (refine mj_ite (fun h => ?_) (fun h => ?_) <;> first | (exfalso; omega) | skip) | refine mj_vci (by first | omega | (simp (disch := omega) only [up_ne, up_at, q_up_at, q_up_ne, cp_ne]; omega)) ?_)
    refine l_M_fair hM ⟨a1, a2⟩ 32 0 u 99 σ1 (by omega) (by omega) (q_lf_Fm t2) ?_
    rw [hu]
    exact h2 ⟨a1, a2⟩
  · repeat' (first | (refine mj_ite (fun h => ?_) (fun h => ?_) <;> first | (exfalso; omega) | skip) | refine mj_vci (by first | omega | (simp (disch := omega) only [up_ne, up_at, q_up_at, q_up_ne, cp_ne]; omega)) ?_)
    exact h1 a0
theorem l_M_northsBest (hM : q_mB σ g) : ∀ (k : Nat) (i a : Int) (τ : mj_W), 0 ≤ i → i + k = 32 → q_Fm σ τ g → (∀ r σ', q_Fm σ σ' g → r = q_fold (q_play (σ g 5) (σ g 6) 0 2) 1 (q_BM σ g) k i a → K (some (iV r)) σ') → mj_Wm i_M_northsBest (n + 6) K 7 [some (rV 12 0 g), some (iV a), some (iV i), none] [] τ := by
  intro k
  induction k with
  | zero =>
    intro i a τ h0 h1 hF hK
    refine r_M_northsBest [(7, [true, true, true, false])] 600 ?_
    repeat' (first | (refine mj_ite (fun h => ?_) (fun h => ?_) <;> first | (exfalso; omega) | skip) | refine mj_vci (by first | omega | (simp (disch := omega) only [up_ne, up_at, q_up_at, q_up_ne, cp_ne]; omega)) ?_)
    exact hK _ τ hF rfl
  | succ k ih =>
    intro i a τ h0 h1 hF hK
    unfold q_fold at hK
    have hMt := q_Fm_mB hF hM
    refine r_M_northsBest [(7, [true, true, true, false])] 600 ?_
    repeat' (first | (refine mj_ite (fun h => ?_) (fun h => ?_) <;> first | (exfalso; omega) | skip) | refine mj_vci (by first | omega | (simp (disch := omega) only [up_ne, up_at, q_up_at, q_up_ne, cp_ne]; omega)) ?_)
    refine c_M_canStepB hMt (by omega) (by omega) (fun hc => ?_) (fun hc => ?_)
    · repeat' (first | (refine mj_ite (fun h => ?_) (fun h => ?_) <;> first | (exfalso; omega) | skip) | refine mj_vci (by first | omega | (simp (disch := omega) only [up_ne, up_at, q_up_at, q_up_ne, cp_ne]; omega)) ?_)
      refine c_M_southBy hMt hc (by omega) (fun r σ1 hr hb s1 => ?_)
      rw [hF.2, hF.1.2 5 (by omega) (by omega), hF.1.2 6 (by omega) (by omega)] at hr
      rw [hF.2] at hc
      rw [if_pos hc] at hK
      have hr : r = q_play (σ g 5) (σ g 6) 0 2 (q_stp (q_BM σ g) (i / 4) (i % 4)) := hr
      rw [← hr, if_neg (by decide)] at hK
      have hF1 := q_Fm_tr hF s1
      repeat' (first | (refine mj_ite (fun h => ?_) (fun h => ?_) <;> first | (exfalso; omega) | skip) | refine mj_vci (by first | omega | (simp (disch := omega) only [up_ne, up_at, q_up_at, q_up_ne, cp_ne]; omega)) ?_)
      · rw [show min a r = r by omega] at hK
        exact ih (i + 1) _ σ1 (by omega) (by omega) hF1 hK
      · rw [show min a r = a by omega] at hK
        exact ih (i + 1) _ σ1 (by omega) (by omega) hF1 hK
    · rw [hF.2] at hc
      rw [if_neg hc] at hK
      repeat' (first | (refine mj_ite (fun h => ?_) (fun h => ?_) <;> first | (exfalso; omega) | skip) | refine mj_vci (by first | omega | (simp (disch := omega) only [up_ne, up_at, q_up_at, q_up_ne, cp_ne]; omega)) ?_)
      exact ih (i + 1) _ τ (by omega) (by omega) hF hK
theorem c_M_northsBest (hM : q_mB σ g) (hK : ∀ r σ', q_Fm σ σ' g → r = q_play (σ g 5) (σ g 6) 1 1 (q_BM σ g) → K (some (iV r)) σ') : mj_Ok (n + 6) i_M_northsBest [rV 12 0 g] σ K := by
  refine mj_enter (by decide) (Nat.le_of_ble_eq_true rfl) (fun hg => ?_)
  refine r_M_northsBest [(7, [true, true, true, false])] 600 ?_
  refine c_M_southNowB hM (fun r σ1 hr t1 t2 => ?_)
  repeat' (first | (refine mj_ite (fun h => ?_) (fun h => ?_) <;> first | (exfalso; omega) | skip) | refine mj_vci (by first | omega | (simp (disch := omega) only [up_ne, up_at, q_up_at, q_up_ne, cp_ne]; omega)) ?_)
  refine l_M_northsBest hM 32 0 r σ1 (by omega) (by omega) (q_lf_Fm t2) (fun v σ' a1 a2 => hK v σ' a1 ?_)
  rw [a2, hr]
  rfl
noncomputable def q_ans (w e : Int) (m : Int) (B : q_B) : Int := if m = 2 then q_play w e 1 1 B else q_SB w e B
theorem c_M_answered (hM : q_mB σ g) (hK : ∀ r σ', q_Fm σ σ' g → r = q_ans (σ g 5) (σ g 6) w (q_BM σ g) → K (some (iV r)) σ') : mj_Ok (n + 7) i_M_answered [rV 12 0 g, iV w] σ K := by
  unfold q_ans at hK
  refine mj_enter (by decide) (Nat.le_of_ble_eq_true rfl) (fun hg => ?_)
  refine r_M_answered [] 600 ?_
  repeat' (first | (refine mj_ite (fun h => ?_) (fun h => ?_) <;> first | (exfalso; omega) | skip) | refine mj_vci (by first | omega | (simp (disch := omega) only [up_ne, up_at, q_up_at, q_up_ne, cp_ne]; omega)) ?_)
  · rw [if_pos h] at hK
    refine c_M_northsBest hM (fun r σ' a1 a2 => ?_)
    repeat' (first | (refine mj_ite (fun h => ?_) (fun h => ?_) <;> first | (exfalso; omega) | skip) | refine mj_vci (by first | omega | (simp (disch := omega) only [up_ne, up_at, q_up_at, q_up_ne, cp_ne]; omega)) ?_)
    exact hK r σ' a1 a2
  · rw [if_neg h] at hK
    refine c_M_southNowB hM (fun r σ' a1 a2 a3 => ?_)
    repeat' (first | (refine mj_ite (fun h => ?_) (fun h => ?_) <;> first | (exfalso; omega) | skip) | refine mj_vci (by first | omega | (simp (disch := omega) only [up_ne, up_at, q_up_at, q_up_ne, cp_ne]; omega)) ?_)
    exact hK r σ' (q_lf_Fm a3) a1
theorem l_M_crowns (hM : q_mB σ g) (hw : 1 ≤ w ∧ w ≤ 2) : ∀ (k : Nat) (i a : Int) (τ : mj_W), 0 ≤ i → i + k = 32 → q_Fm σ τ g → (∀ r σ', q_Fm σ σ' g → r = q_fold (q_ans (σ g 5) (σ g 6) w) 0 (q_BM σ g) k i a → K (some (iV r)) σ') → mj_Wm i_M_crowns (n + 8) K 23 [some (rV 12 0 g), some (iV w), some (iV a), some (iV i), none, none, none] [] τ := by
  intro k
  induction k with
  | zero =>
    intro i a τ h0 h1 hF hK
    refine r_M_crowns [(23, [true, true, true, true, false, false, false])] 600 ?_
    repeat' (first | (refine mj_ite (fun h => ?_) (fun h => ?_) <;> first | (exfalso; omega) | skip) | refine mj_vci (by first | omega | (simp (disch := omega) only [up_ne, up_at, q_up_at, q_up_ne, cp_ne]; omega)) ?_)
    exact hK _ τ hF rfl
  | succ k ih =>
    intro i a τ h0 h1 hF hK
    unfold q_fold at hK
    have hMt := q_Fm_mB hF hM
    have m1 := q_east_in (i % 4)
    have m2 := q_north_in (i % 4)
    have x0 : 0 ≤ τ (g + 2) (i / 4) ∧ τ (g + 2) (i / 4) ≤ 40 := hMt.1.2.2.1 (i / 4)
    have y0 : 0 ≤ τ (g + 3) (i / 4) ∧ τ (g + 3) (i / 4) ≤ 40 := hMt.1.2.2.2.1 (i / 4)
    refine r_M_crowns [(23, [true, true, true, true, false, false, false])] 600 ?_
    repeat' (first | (refine mj_ite (fun h => ?_) (fun h => ?_) <;> first | (exfalso; omega) | skip) | refine mj_vci (by first | omega | (simp (disch := omega) only [up_ne, up_at, q_up_at, q_up_ne, cp_ne]; omega)) ?_)
    refine c_M_canStepB hMt (by omega) (by omega) (fun hc => ?_) (fun hc => ?_)
    · repeat' (first | (refine mj_ite (fun h => ?_) (fun h => ?_) <;> first | (exfalso; omega) | skip) | refine mj_vci (by first | omega | (simp (disch := omega) only [up_ne, up_at, q_up_at, q_up_ne, cp_ne]; omega)) ?_)
      refine c_M_eastBy ?_
      repeat' (first | (refine mj_ite (fun h => ?_) (fun h => ?_) <;> first | (exfalso; omega) | skip) | refine mj_vci (by first | omega | (simp (disch := omega) only [up_ne, up_at, q_up_at, q_up_ne, cp_ne]; omega)) ?_)
      refine c_M_northBy ?_
      repeat' (first | (refine mj_ite (fun h => ?_) (fun h => ?_) <;> first | (exfalso; omega) | skip) | refine mj_vci (by first | omega | (simp (disch := omega) only [up_ne, up_at, q_up_at, q_up_ne, cp_ne]; omega)) ?_)
      refine c_M_putB (by omega) (fun σ1 s1 s2 => ?_)
      have eB : q_BM σ1 g = q_stp (q_BM τ g) (i / 4) (i % 4) := s1
      have hM1 : q_mB σ1 g := q_Fs_mB (q_pf_Fs s2) (by rw [eB]; exact q_wB_stp hMt.1 hc) hMt
      repeat' (first | (refine mj_ite (fun h => ?_) (fun h => ?_) <;> first | (exfalso; omega) | skip) | refine mj_vci (by first | omega | (simp (disch := omega) only [up_ne, up_at, q_up_at, q_up_ne, cp_ne]; omega)) ?_)
      refine c_M_answered hM1 (fun r σ2 t1 hr => ?_)
      have eB2 : q_BM σ2 g = q_stp (q_BM τ g) (i / 4) (i % 4) := t1.2.trans eB
      have x2 : σ2 (g + 2) (i / 4) = τ (g + 2) (i / 4) + mj_east (i % 4) := by
        have := congrArg (fun B : q_B => B.2.2.1 (i / 4)) eB2
        have : σ2 (g + 2) (i / 4) = q_up (τ (g + 2)) (i / 4) (τ (g + 2) (i / 4) + mj_east (i % 4)) (i / 4) := this
        rw [this, q_up_at]
      have y2 : σ2 (g + 3) (i / 4) = τ (g + 3) (i / 4) + mj_north (i % 4) := by
        have := congrArg (fun B : q_B => B.2.2.2.1 (i / 4)) eB2
        have : σ2 (g + 3) (i / 4) = q_up (τ (g + 3)) (i / 4) (τ (g + 3) (i / 4) + mj_north (i % 4)) (i / 4) := this
        rw [this, q_up_at]
      rw [eB, s2 g (by omega) (by omega), hF.2, hF.1.2 5 (by omega) (by omega), hF.1.2 6 (by omega) (by omega)] at hr
      rw [hF.2] at hc
      rw [if_pos hc, ← hr, if_pos (by decide)] at hK
      have fin : ∀ (σ3 : mj_W), q_BM σ3 g = q_pos (q_BM σ2 g) (i / 4) (σ2 (g + 2) (i / 4) - mj_east (i % 4)) (σ2 (g + 3) (i / 4) - mj_north (i % 4)) → q_pf σ2 σ3 g → q_Fm σ σ3 g := by
        intro σ3 u1 u2
        refine ⟨q_Fs_tr hF.1 (q_Fs_tr (q_Fs_tr (q_pf_Fs s2) t1.1) (q_pf_Fs u2)), ?_⟩
        rw [u1, eB2, ← hF.2]
        show q_pos (q_pos (q_BM τ g) (i / 4) _ _) (i / 4) _ _ = _
        rw [q_pospos]
        refine q_pos_id _ ?_ ?_
        · rw [x2]; show _ = τ (g + 2) (i / 4); omega
        · rw [y2]; show _ = τ (g + 3) (i / 4); omega
      repeat' (first | (refine mj_ite (fun h => ?_) (fun h => ?_) <;> first | (exfalso; omega) | skip) | refine mj_vci (by first | omega | (simp (disch := omega) only [up_ne, up_at, q_up_at, q_up_ne, cp_ne]; omega)) ?_)
      · refine c_M_eastBy ?_
        repeat' (first | (refine mj_ite (fun h => ?_) (fun h => ?_) <;> first | (exfalso; omega) | skip) | refine mj_vci (by first | omega | (simp (disch := omega) only [up_ne, up_at, q_up_at, q_up_ne, cp_ne]; omega)) ?_)
        refine c_M_northBy ?_
        repeat' (first | (refine mj_ite (fun h => ?_) (fun h => ?_) <;> first | (exfalso; omega) | skip) | refine mj_vci (by first | omega | (simp (disch := omega) only [up_ne, up_at, q_up_at, q_up_ne, cp_ne]; omega)) ?_)
        refine c_M_putB (by omega) (fun σ3 u1 u2 => ?_)
        repeat' (first | (refine mj_ite (fun h => ?_) (fun h => ?_) <;> first | (exfalso; omega) | skip) | refine mj_vci (by first | omega | (simp (disch := omega) only [up_ne, up_at, q_up_at, q_up_ne, cp_ne]; omega)) ?_)
        rw [show max a r = r by omega] at hK
        exact ih (i + 1) _ σ3 (by omega) (by omega) (fin σ3 u1 u2) hK
      · refine c_M_eastBy ?_
        repeat' (first | (refine mj_ite (fun h => ?_) (fun h => ?_) <;> first | (exfalso; omega) | skip) | refine mj_vci (by first | omega | (simp (disch := omega) only [up_ne, up_at, q_up_at, q_up_ne, cp_ne]; omega)) ?_)
        refine c_M_northBy ?_
        repeat' (first | (refine mj_ite (fun h => ?_) (fun h => ?_) <;> first | (exfalso; omega) | skip) | refine mj_vci (by first | omega | (simp (disch := omega) only [up_ne, up_at, q_up_at, q_up_ne, cp_ne]; omega)) ?_)
        refine c_M_putB (by omega) (fun σ3 u1 u2 => ?_)
        repeat' (first | (refine mj_ite (fun h => ?_) (fun h => ?_) <;> first | (exfalso; omega) | skip) | refine mj_vci (by first | omega | (simp (disch := omega) only [up_ne, up_at, q_up_at, q_up_ne, cp_ne]; omega)) ?_)
        rw [show max a r = a by omega] at hK
        exact ih (i + 1) _ σ3 (by omega) (by omega) (fin σ3 u1 u2) hK
    · rw [hF.2] at hc
      rw [if_neg hc] at hK
      repeat' (first | (refine mj_ite (fun h => ?_) (fun h => ?_) <;> first | (exfalso; omega) | skip) | refine mj_vci (by first | omega | (simp (disch := omega) only [up_ne, up_at, q_up_at, q_up_ne, cp_ne]; omega)) ?_)
      exact ih (i + 1) _ τ (by omega) (by omega) hF hK
theorem c_M_crowns (hM : q_mB σ g) (h1 : ¬ (0 ≤ w ∧ w ≤ 2) → K (some (iV (-2))) σ) (h2 : 0 ≤ w ∧ w ≤ 2 → ∀ r σ', q_Fm σ σ' g → r = q_play (σ g 5) (σ g 6) w.toNat 0 (q_BM σ g) → K (some (iV r)) σ') : mj_Ok (n + 8) i_M_crowns [rV 12 0 g, iV w] σ K := by
  refine mj_enter (by decide) (Nat.le_of_ble_eq_true rfl) (fun hg => ?_)
  refine r_M_crowns [(23, [true, true, true, true, false, false, false])] 600 ?_
  refine c_M_in (fun a1 a2 => ?_) (fun a0 => ?_)
  · repeat' (first | (refine mj_ite (fun h => ?_) (fun h => ?_) <;> first | (exfalso; omega) | skip) | refine mj_vci (by first | omega | (simp (disch := omega) only [up_ne, up_at, q_up_at, q_up_ne, cp_ne]; omega)) ?_)
    refine c_M_answered hM (fun r σ1 s1 hr => ?_)
    have key := h2 ⟨a1, a2⟩
    have hw : w = 0 ∨ w = 1 ∨ w = 2 := by omega
    rcases hw with e | e | e
    · subst e
      have m144 : mj_Wm i_M_crowns (n + 8) K 23 [some (rV 12 0 g), some (iV 0), some (iV r), some (iV 0), none, none, none] [] σ1 := by
        refine r_M_crowns [] 600 ?_
        repeat' (first | (refine mj_ite (fun h => ?_) (fun h => ?_) <;> first | (exfalso; omega) | skip) | refine mj_vci (by first | omega | (simp (disch := omega) only [up_ne, up_at, q_up_at, q_up_ne, cp_ne]; omega)) ?_)
        exact key r σ1 s1 hr
      repeat' (first | (refine mj_ite (fun h => ?_) (fun h => ?_) <;> first | (exfalso; omega) | skip) | refine mj_vci (by first | omega | (simp (disch := omega) only [up_ne, up_at, q_up_at, q_up_ne, cp_ne]; omega)) ?_)
      exact m144
    · subst e
      repeat' (first | (refine mj_ite (fun h => ?_) (fun h => ?_) <;> first | (exfalso; omega) | skip) | refine mj_vci (by first | omega | (simp (disch := omega) only [up_ne, up_at, q_up_at, q_up_ne, cp_ne]; omega)) ?_)
      refine l_M_crowns hM (by omega) 32 0 r σ1 (by omega) (by omega) s1 (fun v σ' b1 b2 => key v σ' b1 ?_)
      rw [b2, hr]
      rfl
    · subst e
      repeat' (first | (refine mj_ite (fun h => ?_) (fun h => ?_) <;> first | (exfalso; omega) | skip) | refine mj_vci (by first | omega | (simp (disch := omega) only [up_ne, up_at, q_up_at, q_up_ne, cp_ne]; omega)) ?_)
      refine l_M_crowns hM (by omega) 32 0 r σ1 (by omega) (by omega) s1 (fun v σ' b1 b2 => key v σ' b1 ?_)
      rw [b2, hr]
      rfl
  · repeat' (first | (refine mj_ite (fun h => ?_) (fun h => ?_) <;> first | (exfalso; omega) | skip) | refine mj_vci (by first | omega | (simp (disch := omega) only [up_ne, up_at, q_up_at, q_up_ne, cp_ne]; omega)) ?_)
    exact h1 a0
end M20
