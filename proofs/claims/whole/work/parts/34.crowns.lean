/-! one step: fair, crowns -/
def q_SB (w e : Int) (B : q_B) : Int := q_south (q_cx B.1 B.2.1 B.2.2.1) (q_cy B.1 w e B.2.1 B.2.2.2.1) (B.1 + 1)
def q_canB (B : q_B) (p d : Int) : Prop := q_can B.1 B.2.1 B.2.2.1 B.2.2.2.1 p d
def q_stp (B : q_B) (p d : Int) : q_B := (B.1, B.2.1, q_up B.2.2.1 p (B.2.2.1 p + mj_east d), q_up B.2.2.2.1 p (B.2.2.2.1 p + mj_north d), B.2.2.2.2)
def q_unf (s : Int) : Int := if 3360 - 2 * s < 0 then -(3360 - 2 * s) else 3360 - 2 * s
noncomputable def q_fairF (w e : Int) (B : q_B) : Nat → Int → Int → Int → Int × Int
  | 0, _, a, s => (a, s)
  | k + 1, i, a, s => @ite _ (q_canB B (i / 4) (i % 4) ∧ q_unf (q_SB w e (q_stp B (i / 4) (i % 4))) < a) (Classical.propDecidable _) (q_fairF w e B k (i + 1) (q_unf (q_SB w e (q_stp B (i / 4) (i % 4)))) (10 * (i / 4) + i % 4)) (q_fairF w e B k (i + 1) a s)
noncomputable def q_fold (f : q_B → Int) (t : Int) (B : q_B) : Nat → Int → Int → Int
  | 0, _, a => a
  | k + 1, i, a => q_fold f t B k (i + 1) (@ite _ (q_canB B (i / 4) (i % 4)) (Classical.propDecidable _) (if t % 2 = 0 then max a (f (q_stp B (i / 4) (i % 4))) else min a (f (q_stp B (i / 4) (i % 4)))) a)
noncomputable def q_play (w e : Int) : Nat → Int → q_B → Int
  | 0, _, B => q_SB w e B
  | r + 1, t, B => q_fold (q_play w e r (t + 1)) t B 32 0 (q_play w e r (t + 1) B)
section S5
variable {n b : Nat} {σ : mj_W} {K : Option mj_V → mj_W → Prop} {x y p w i j c d m : Int}
abbrev q_go1 (σ : mj_W) (b : Nat) (p d : Int) : mj_W := mj_up (mj_up σ (b + 1) p (σ (b + 1) p + 1 * mj_east d)) (b + 2) p (σ (b + 2) p + 1 * mj_north d)
theorem q_go1_B (σ : mj_W) (b : Nat) (p d : Int) : q_BC (q_go1 σ b p d) b = q_stp (q_BC σ b) p d := by
  show (_, _, _, _, _) = (_, _, _, _, _)
  simp (disch := omega) only [up_ne, up_at]
  rw [Int.one_mul, Int.one_mul]
theorem q_go1_f (σ : mj_W) {b : Nat} (p d : Int) {o : Nat} (h1 : o ≠ b + 1) (h2 : o ≠ b + 2) : q_go1 σ b p d o = σ o := by
  unfold q_go1
  rw [up_ne _ _ _ h2, up_ne _ _ _ h1]
theorem q_back (σ : mj_W) (b : Nat) (p d : Int) : mj_up (mj_up (q_go1 σ b p d) (b + 1) p (q_go1 σ b p d (b + 1) p + -1 * mj_east d)) (b + 2) p (q_go1 σ b p d (b + 2) p + -1 * mj_north d) = σ := by
  have e1 : q_go1 σ b p d (b + 1) = q_up (σ (b + 1)) p (σ (b + 1) p + 1 * mj_east d) := by unfold q_go1; rw [up_ne _ _ _ (by omega), up_at]
  have e2 : q_go1 σ b p d (b + 2) = q_up (σ (b + 2)) p (σ (b + 2) p + 1 * mj_north d) := by unfold q_go1; rw [up_at, up_ne _ _ _ (by omega)]
  funext o
  by_cases h2 : o = b + 2
  · subst h2
    rw [up_at, up_ne _ _ _ (by omega), e2, q_up_at]
    funext j
    unfold q_up
    by_cases hj : j = p
    · rw [if_pos hj, hj]; omega
    · rw [if_neg hj, if_neg hj]
  · rw [up_ne _ _ _ h2]
    by_cases h1 : o = b + 1
    · subst h1
      rw [up_at, e1, q_up_at]
      funext j
      unfold q_up
      by_cases hj : j = p
      · rw [if_pos hj, hj]; omega
      · rw [if_neg hj, if_neg hj]
    · rw [up_ne _ _ _ h1, q_go1_f σ p d h1 h2]
/-- a border on which steps may be tried -/
def q_tB (σ : mj_W) (b : Nat) : Prop := q_gB σ b ∧ (∀ i, 0 ≤ σ (b + 3) i ∧ σ (b + 3) i ≤ 200)
theorem q_tB_go {σ : mj_W} {b : Nat} (h : q_tB σ b) {p d : Int} (hc : q_canB (q_BC σ b) p d) : q_tB (q_go1 σ b p d) b := by
  obtain ⟨⟨g1, g2, g3, g4, g5, g6⟩, g7⟩ := h
  obtain ⟨c1, c2, c3⟩ := hc
  have c2 : q_land (σ (b + 1) p + mj_east d) (σ (b + 2) p + mj_north d) := c2
  have e0 : q_go1 σ b p d b = σ b := q_go1_f σ p d (by omega) (by omega)
  have e4 : q_go1 σ b p d (b + 4) = σ (b + 4) := q_go1_f σ p d (by omega) (by omega)
  have e3 : q_go1 σ b p d (b + 3) = σ (b + 3) := q_go1_f σ p d (by omega) (by omega)
  have e1 : q_go1 σ b p d (b + 1) = q_up (σ (b + 1)) p (σ (b + 1) p + 1 * mj_east d) := by unfold q_go1; rw [up_ne _ _ _ (by omega), up_at]
  have e2 : q_go1 σ b p d (b + 2) = q_up (σ (b + 2)) p (σ (b + 2) p + 1 * mj_north d) := by unfold q_go1; rw [up_at, up_ne _ _ _ (by omega)]
  refine ⟨⟨by rw [e0]; exact g1, by rw [e4]; exact g2, ?_, ?_, by rw [e0]; exact g5, by rw [e0]; exact g6⟩, by rw [e3]; exact g7⟩
  · rw [e1]; intro j; have := g3 j; unfold q_up; split <;> omega
  · rw [e2]; intro j; have := g4 j; unfold q_up; split <;> omega
theorem q_can_p {σ : mj_W} {b : Nat} (h : q_tB σ b) {p d : Int} (hc : q_canB (q_BC σ b) p d) : 0 ≤ p ∧ p ≤ 7 := by
  obtain ⟨c1, -⟩ := hc
  rcases q_fnd_or (σ (b + 4)) h.1.1.1 p with q | q
  · exact absurd q.1 c1
  · have := h.1.2.1 (q_fnd (σ (b + 4)) (σ b 4) p)
    rw [q.2.2] at this
    exact this
theorem c_step1 (h : q_tB σ b) (hd : 0 ≤ d ∧ d ≤ 3) (hp : 0 ≤ p ∧ p ≤ 7) (hK : K none (q_go1 σ b p d)) : mj_Ok (n + 1) i_Border_shift [rV 1 0 b, iV p, iV d, iV 1] σ K := by
  have x0 := h.1.2.2.1 p
  have y0 := h.1.2.2.2.1 p
  exact c_Border_shift hp hd (by omega) (by omega) (by omega) hK
theorem c_stepB (h : q_tB (q_go1 σ b p d) b) (hd : 0 ≤ d ∧ d ≤ 3) (hp : 0 ≤ p ∧ p ≤ 7) (hK : K none σ) : mj_Ok (n + 1) i_Border_shift [rV 1 0 b, iV p, iV d, iV (-1)] (q_go1 σ b p d) K := by
  have x0 := h.1.2.2.1 p
  have y0 := h.1.2.2.2.1 p
  refine c_Border_shift hp hd (by omega) (by omega) (by omega) ?_
  rw [q_back]
  exact hK
theorem l_S_playTurns {turn turns : Int} {f : q_B → Int} (hB : q_tB σ b) (ht : 0 ≤ turn ∧ turn < turns ∧ turns ≤ 2) (hcall : ∀ (τ : mj_W) (K' : Option mj_V → mj_W → Prop), q_tB τ b → τ b = σ b → K' (some (iV (f (q_BC τ b)))) τ → mj_Ok (n + 4) i_S_playTurns [rV 1 0 b, iV (turn + 1), iV turns] τ K') :
    ∀ (k : Nat) (i p d a : Int), 0 ≤ i → i + k = 32 → (0 ≤ p ∧ 0 ≤ d ∧ d ≤ 3 ∧ i = 4 * p + d) → K (some (iV (q_fold f turn (q_BC σ b) k i a))) σ → 0 < k → mj_Wm i_S_playTurns (n + 5) K 37 [some (rV 1 0 b), some (iV turn), some (iV turns), some (iV a), some (iV p), some (iV d), none] [] σ := by
  intro k
  induction k with
  | zero => intro i p d a h0 h1 hpd hK hk; omega
  | succ k ih =>
    intro i p d a h0 h1 hpd hK hk
    unfold q_fold at hK
    have ei : i / 4 = p := by omega
    have em : i % 4 = d := by omega
    rw [ei, em] at hK
    have next : ∀ a', K (some (iV (q_fold f turn (q_BC σ b) k (i + 1) a'))) σ → mj_Wm i_S_playTurns (n + 5) K 104 [some (rV 1 0 b), some (iV turn), some (iV turns), some (iV a'), some (iV p), some (iV d), none] [] σ := by
      intro a' hK'
      by_cases e3 : d = 3
      · subst e3
        have m110 : mj_Wm i_S_playTurns (n + 5) K 110 [some (rV 1 0 b), some (iV turn), some (iV turns), some (iV a'), some (iV p), some (iV (3 + 1)), none] [] σ := by
          by_cases e7 : p = 7
          · have : k = 0 := by omega
            subst this
            refine r_S_playTurns [(37, [true, true, true, true, true, true, false]), (104, [true, true, true, true, true, true, false])] 600 ?_
            repeat' (first | (refine mj_ite (fun h => ?_) (fun h => ?_) <;> first | (exfalso; omega) | skip) | refine mj_vci (by first | omega | (simp (disch := omega) only [up_ne, up_at, q_up_at, q_up_ne, cp_ne]; omega)) ?_)
            exact hK'
          · refine r_S_playTurns [(37, [true, true, true, true, true, true, false]), (104, [true, true, true, true, true, true, false])] 600 ?_
            repeat' (first | (refine mj_ite (fun h => ?_) (fun h => ?_) <;> first | (exfalso; omega) | skip) | refine mj_vci (by first | omega | (simp (disch := omega) only [up_ne, up_at, q_up_at, q_up_ne, cp_ne]; omega)) ?_)
            exact ih (i + 1) (p + 1) 0 a' (by omega) (by omega) (by omega) hK' (by omega)
        refine r_S_playTurns [(110, [true, true, true, true, true, true, false])] 600 ?_
        repeat' (first | (refine mj_ite (fun h => ?_) (fun h => ?_) <;> first | (exfalso; omega) | skip) | refine mj_vci (by first | omega | (simp (disch := omega) only [up_ne, up_at, q_up_at, q_up_ne, cp_ne]; omega)) ?_)
        exact m110
      · refine r_S_playTurns [(37, [true, true, true, true, true, true, false]), (104, [true, true, true, true, true, true, false])] 600 ?_
        repeat' (first | (refine mj_ite (fun h => ?_) (fun h => ?_) <;> first | (exfalso; omega) | skip) | refine mj_vci (by first | omega | (simp (disch := omega) only [up_ne, up_at, q_up_at, q_up_ne, cp_ne]; omega)) ?_)
        exact ih (i + 1) p (d + 1) a' (by omega) (by omega) (by omega) hK' (by omega)
    refine r_S_playTurns [(37, [true, true, true, true, true, true, false]), (104, [true, true, true, true, true, true, false])] 600 ?_
    repeat' (first | (refine mj_ite (fun h => ?_) (fun h => ?_) <;> first | (exfalso; omega) | skip) | refine mj_vci (by first | omega | (simp (disch := omega) only [up_ne, up_at, q_up_at, q_up_ne, cp_ne]; omega)) ?_)
    refine c_Border_canStep hB.1.1 hB.1.2.1 hB.1.2.2.1 hB.1.2.2.2.1 hB.2 (by omega) (fun hc => ?_) (fun hc => ?_)
    · have hc : q_canB (q_BC σ b) p d := hc
      have hp7 := q_can_p hB hc
      have hB' := q_tB_go hB hc
      rw [if_pos hc] at hK
      repeat' (first | (refine mj_ite (fun h => ?_) (fun h => ?_) <;> first | (exfalso; omega) | skip) | refine mj_vci (by first | omega | (simp (disch := omega) only [up_ne, up_at, q_up_at, q_up_ne, cp_ne]; omega)) ?_)
      refine c_step1 hB (by omega) hp7 ?_
      repeat' (first | (refine mj_ite (fun h => ?_) (fun h => ?_) <;> first | (exfalso; omega) | skip) | refine mj_vci (by first | omega | (simp (disch := omega) only [up_ne, up_at, q_up_at, q_up_ne, cp_ne]; omega)) ?_)
      refine hcall (q_go1 σ b p d) _ hB' (q_go1_f σ p d (by omega) (by omega)) ?_
      rw [q_go1_B]
      generalize f (q_stp (q_BC σ b) p d) = v at hK
      refine c_stepB hB' (by omega) hp7 ?_
      by_cases et : turn % 2 = 0
      · rw [if_pos et] at hK
        repeat' (first | (refine mj_ite (fun h => ?_) (fun h => ?_) <;> first | (exfalso; omega) | skip) | refine mj_vci (by first | omega | (simp (disch := omega) only [up_ne, up_at, q_up_at, q_up_ne, cp_ne]; omega)) ?_)
        exact next _ hK
      · rw [if_neg et] at hK
        repeat' (first | (refine mj_ite (fun h => ?_) (fun h => ?_) <;> first | (exfalso; omega) | skip) | refine mj_vci (by first | omega | (simp (disch := omega) only [up_ne, up_at, q_up_at, q_up_ne, cp_ne]; omega)) ?_)
        exact next _ hK
    · have hc : ¬ q_canB (q_BC σ b) p d := hc
      rw [if_neg hc] at hK
      repeat' (first | (refine mj_ite (fun h => ?_) (fun h => ?_) <;> first | (exfalso; omega) | skip) | refine mj_vci (by first | omega | (simp (disch := omega) only [up_ne, up_at, q_up_at, q_up_ne, cp_ne]; omega)) ?_)
      exact next _ hK
theorem c_S_playTurns {turns : Int} (hts : turns ≤ 2) : ∀ (r : Nat) (turn : Int) (σ : mj_W) (K : Option mj_V → mj_W → Prop), 0 ≤ turn → turn + r = turns → q_tB σ b → K (some (iV (q_play (σ b 5) (σ b 6) r turn (q_BC σ b)))) σ → mj_Ok (n + 4 + r) i_S_playTurns [rV 1 0 b, iV turn, iV turns] σ K
  | 0, turn, σ, K, h0, h1, hB, hK => by
    refine mj_enter (by decide) (Nat.le_of_ble_eq_true rfl) (fun hg => ?_)
    refine r_S_playTurns [(37, [true, true, true, true, true, true, false]), (104, [true, true, true, true, true, true, false])] 600 ?_
    repeat' (first | (refine mj_ite (fun h => ?_) (fun h => ?_) <;> first | (exfalso; omega) | skip) | refine mj_vci (by first | omega | (simp (disch := omega) only [up_ne, up_at, q_up_at, q_up_ne, cp_ne]; omega)) ?_)
    exact c_Border_twiceSouth hB.1 hK
  | r + 1, turn, σ, K, h0, h1, hB, hK => by
    have hcall : ∀ (τ : mj_W) (K' : Option mj_V → mj_W → Prop), q_tB τ b → τ b = σ b → K' (some (iV (q_play (σ b 5) (σ b 6) r (turn + 1) (q_BC τ b)))) τ → mj_Ok (n + r + 4) i_S_playTurns [rV 1 0 b, iV (turn + 1), iV turns] τ K' := by
      intro τ K' hB' hb hK'
      have := c_S_playTurns hts r (turn + 1) τ K' (by omega) (by omega) hB' (by rw [hb]; exact hK')
      rw [show n + r + 4 = n + 4 + r by omega]
      exact this
    have goal : mj_Ok (n + r + 5) i_S_playTurns [rV 1 0 b, iV turn, iV turns] σ K := by
      refine mj_enter (by decide) (Nat.le_of_ble_eq_true rfl) (fun hg => ?_)
      refine r_S_playTurns [(37, [true, true, true, true, true, true, false]), (104, [true, true, true, true, true, true, false])] 600 ?_
      repeat' (first | (refine mj_ite (fun h => ?_) (fun h => ?_) <;> first | (exfalso; omega) | skip) | refine mj_vci (by first | omega | (simp (disch := omega) only [up_ne, up_at, q_up_at, q_up_ne, cp_ne]; omega)) ?_)
      refine hcall σ _ hB rfl ?_
      repeat' (first | (refine mj_ite (fun h => ?_) (fun h => ?_) <;> first | (exfalso; omega) | skip) | refine mj_vci (by first | omega | (simp (disch := omega) only [up_ne, up_at, q_up_at, q_up_ne, cp_ne]; omega)) ?_)
      exact l_S_playTurns (n := n + r) hB (by omega) hcall 32 0 0 0 _ (by omega) (by omega) (by omega) hK (by omega)
    rw [show n + 4 + (r + 1) = n + r + 5 by omega]
    exact goal
theorem c_S_playTurnsN {N r : Nat} {turn turns : Int} (hN : 4 + r ≤ N) (hts : turns ≤ 2) (h0 : 0 ≤ turn) (h1 : turn + r = turns) (hB : q_tB σ b) (hK : K (some (iV (q_play (σ b 5) (σ b 6) r turn (q_BC σ b)))) σ) : mj_Ok N i_S_playTurns [rV 1 0 b, iV turn, iV turns] σ K := by
  have := c_S_playTurns (n := N - (4 + r)) hts r turn σ K h0 h1 hB hK
  rw [show N - (4 + r) + 4 + r = N by omega] at this
  exact this
theorem c_S_crowns (hC : q_C σ) (h1 : ¬ (0 ≤ w ∧ w ≤ 2) → K (some (iV (-2))) σ) (h2 : 0 ≤ w ∧ w ≤ 2 → ∀ σ', q_Fc σ σ' → K (some (iV (q_play (σ 2 5) (σ 2 6) w.toNat 0 (q_BC σ 2)))) σ') : mj_Ok (n + 10) i_S_crowns [rV 11 0 0, iV w] σ K := by
  obtain ⟨h0, -⟩ := hC
  refine mj_enter (by decide) (Nat.le_of_ble_eq_true rfl) (fun hg => ?_)
  refine r_S_crowns [] 600 ?_
  by_cases hw : 0 ≤ w ∧ w ≤ 2
  · repeat' (first | (refine mj_ite (fun h => ?_) (fun h => ?_) <;> first | (exfalso; omega) | skip) | refine mj_vci (by first | omega | (simp (disch := omega) only [up_ne, up_at, q_up_at, q_up_ne, cp_ne]; omega)) ?_)
    refine c_Border_copyFrom (b := 44) (o := 2) (by omega) (by decide +kernel) (by decide +kernel) (fun σ1 s1 s2 s3 s4 s5 s6 s7 s8 s9 => ?_)
    have eB : q_BC σ1 44 = q_BC σ 2 := by
      show (_, _, _, _, _) = (_, _, _, _, _)
      rw [s1, s5, s6, s7, s8]
    have hW : q_wB (q_BC σ1 44) := by rw [eB]; exact h0.1
    have hT : q_tB σ1 44 := ⟨q_gB_of hW (by rw [s2]; exact h0.2.1) (by rw [s3]; exact h0.2.2.1), fun i => by have := hW.2.2.2.2.1 i; dsimp only at this; omega⟩
    have key := h2 hw σ1 (fun o ho => s9 o (by omega) (by omega) (by omega) (by omega) (by omega))
    rw [← eB, ← s2, ← s3] at key
    exact c_S_playTurnsN (b := 44) (r := w.toNat) (by omega) hw.2 (by omega) (by omega) hT key
  · repeat' (first | (refine mj_ite (fun h => ?_) (fun h => ?_) <;> first | (exfalso; omega) | skip) | refine mj_vci (by first | omega | (simp (disch := omega) only [up_ne, up_at, q_up_at, q_up_ne, cp_ne]; omega)) ?_)
    all_goals exact h1 hw
theorem c_unf (hT : q_tB σ b) (hK : ∀ r, r = q_unf (q_SB (σ b 5) (σ b 6) (q_BC σ b)) → K (some (iV r)) σ) : mj_Ok (n + 3) i_Border_unfairness [rV 1 0 b] σ K := by
  have bd := q_south_b (m := σ b 4 + 1) hT.1.X hT.1.Y (by have := hT.1.1; omega)
  exact c_Border_unfairness hT.1 (by have bd : -36000 ≤ q_south (q_X σ b) (q_Y σ b) (σ b 4 + 1) ∧ q_south (q_X σ b) (q_Y σ b) (σ b 4 + 1) ≤ 36000 := bd; omega) hK
theorem l_S_fair (hT : q_tB σ 44) (hw : 0 ≤ w ∧ w ≤ 1) : ∀ (k : Nat) (i p d a s : Int), 0 ≤ i → i + k = 32 → (0 ≤ p ∧ 0 ≤ d ∧ d ≤ 3 ∧ i = 4 * p + d) → K (some (iV (if w = 0 then (q_fairF (σ 44 5) (σ 44 6) (q_BC σ 44) k i a s).1 else (q_fairF (σ 44 5) (σ 44 6) (q_BC σ 44) k i a s).2))) σ → 0 < k → mj_Wm i_S_fair (n + 5) K 50 [some (rV 11 0 0), some (iV w), some (iV a), some (iV s), some (iV p), some (iV d), none] [] σ := by
  intro k
  induction k with
  | zero => intro i p d a s h0 h1 hpd hK hk; omega
  | succ k ih =>
    intro i p d a s h0 h1 hpd hK hk
    unfold q_fairF at hK
    have ei : i / 4 = p := by omega
    have em : i % 4 = d := by omega
    rw [ei, em] at hK
    have next : ∀ a' s', K (some (iV (if w = 0 then (q_fairF (σ 44 5) (σ 44 6) (q_BC σ 44) k (i + 1) a' s').1 else (q_fairF (σ 44 5) (σ 44 6) (q_BC σ 44) k (i + 1) a' s').2))) σ → mj_Wm i_S_fair (n + 5) K 121 [some (rV 11 0 0), some (iV w), some (iV a'), some (iV s'), some (iV p), some (iV d), none] [] σ := by
      intro a' s' hK'
      by_cases e3 : d = 3
      · subst e3
        have m127 : mj_Wm i_S_fair (n + 5) K 127 [some (rV 11 0 0), some (iV w), some (iV a'), some (iV s'), some (iV p), some (iV (3 + 1)), none] [] σ := by
          by_cases e7 : p = 7
          · have : k = 0 := by omega
            subst this
            refine r_S_fair [(50, [true, true, true, true, true, true, false]), (121, [true, true, true, true, true, true, false])] 600 ?_
            repeat' (first | (refine mj_ite (fun h => ?_) (fun h => ?_) <;> first | (exfalso; omega) | skip) | refine mj_vci (by first | omega | (simp (disch := omega) only [up_ne, up_at, q_up_at, q_up_ne, cp_ne]; omega)) ?_)
            · rw [if_pos h] at hK'; exact hK'
            · rw [if_neg h] at hK'; exact hK'
          · refine r_S_fair [(50, [true, true, true, true, true, true, false]), (121, [true, true, true, true, true, true, false])] 600 ?_
            repeat' (first | (refine mj_ite (fun h => ?_) (fun h => ?_) <;> first | (exfalso; omega) | skip) | refine mj_vci (by first | omega | (simp (disch := omega) only [up_ne, up_at, q_up_at, q_up_ne, cp_ne]; omega)) ?_)
            exact ih (i + 1) (p + 1) 0 a' s' (by omega) (by omega) (by omega) hK' (by omega)
        refine r_S_fair [(127, [true, true, true, true, true, true, false])] 600 ?_
        repeat' (first | (refine mj_ite (fun h => ?_) (fun h => ?_) <;> first | (exfalso; omega) | skip) | refine mj_vci (by first | omega | (simp (disch := omega) only [up_ne, up_at, q_up_at, q_up_ne, cp_ne]; omega)) ?_)
        exact m127
      · refine r_S_fair [(50, [true, true, true, true, true, true, false]), (121, [true, true, true, true, true, true, false])] 600 ?_
        repeat' (first | (refine mj_ite (fun h => ?_) (fun h => ?_) <;> first | (exfalso; omega) | skip) | refine mj_vci (by first | omega | (simp (disch := omega) only [up_ne, up_at, q_up_at, q_up_ne, cp_ne]; omega)) ?_)
        exact ih (i + 1) p (d + 1) a' s' (by omega) (by omega) (by omega) hK' (by omega)
    refine r_S_fair [(50, [true, true, true, true, true, true, false]), (121, [true, true, true, true, true, true, false])] 600 ?_
    repeat' (first | (refine mj_ite (fun h => ?_) (fun h => ?_) <;> first | (exfalso; omega) | skip) | refine mj_vci (by first | omega | (simp (disch := omega) only [up_ne, up_at, q_up_at, q_up_ne, cp_ne]; omega)) ?_)
    refine c_Border_canStep (b := 44) hT.1.1 hT.1.2.1 hT.1.2.2.1 hT.1.2.2.2.1 hT.2 (by omega) (fun hc => ?_) (fun hc => ?_)
    · have hc : q_canB (q_BC σ 44) p d := hc
      have hp7 := q_can_p hT hc
      have hT' := q_tB_go hT hc
      repeat' (first | (refine mj_ite (fun h => ?_) (fun h => ?_) <;> first | (exfalso; omega) | skip) | refine mj_vci (by first | omega | (simp (disch := omega) only [up_ne, up_at, q_up_at, q_up_ne, cp_ne]; omega)) ?_)
      refine c_step1 (b := 44) hT (by omega) hp7 ?_
      refine c_unf (b := 44) hT' (fun r hr => ?_)
      have eb : q_go1 σ 44 p d 44 = σ 44 := q_go1_f σ p d (by omega) (by omega)
      rw [q_go1_B, eb] at hr
      rw [← hr] at hK
      repeat' (first | (refine mj_ite (fun h => ?_) (fun h => ?_) <;> first | (exfalso; omega) | skip) | refine mj_vci (by first | omega | (simp (disch := omega) only [up_ne, up_at, q_up_at, q_up_ne, cp_ne]; omega)) ?_)
      refine c_stepB (b := 44) hT' (by omega) hp7 ?_
      by_cases ea : r < a
      · have hx : q_canB (q_BC σ 44) p d ∧ r < a := ⟨hc, ea⟩
        rw [if_pos hx] at hK
        repeat' (first | (refine mj_ite (fun h => ?_) (fun h => ?_) <;> first | (exfalso; omega) | skip) | refine mj_vci (by first | omega | (simp (disch := omega) only [up_ne, up_at, q_up_at, q_up_ne, cp_ne]; omega)) ?_)
        exact next _ _ hK
      · have hx : ¬ (q_canB (q_BC σ 44) p d ∧ r < a) := fun q => ea q.2
        rw [if_neg hx] at hK
        repeat' (first | (refine mj_ite (fun h => ?_) (fun h => ?_) <;> first | (exfalso; omega) | skip) | refine mj_vci (by first | omega | (simp (disch := omega) only [up_ne, up_at, q_up_at, q_up_ne, cp_ne]; omega)) ?_)
        exact next _ _ hK
    · have hc : ¬ q_canB (q_BC σ 44) p d := hc
      have hx : ¬ (q_canB (q_BC σ 44) p d ∧ q_unf (q_SB (σ 44 5) (σ 44 6) (q_stp (q_BC σ 44) p d)) < a) := fun q => hc q.1
      rw [if_neg hx] at hK
      repeat' (first | (refine mj_ite (fun h => ?_) (fun h => ?_) <;> first | (exfalso; omega) | skip) | refine mj_vci (by first | omega | (simp (disch := omega) only [up_ne, up_at, q_up_at, q_up_ne, cp_ne]; omega)) ?_)
      exact next _ _ hK
theorem c_S_fair (hC : q_C σ) (h1 : ¬ (0 ≤ w ∧ w ≤ 1) → K (some (iV (-2))) σ) (h2 : 0 ≤ w ∧ w ≤ 1 → ∀ σ', q_Fc σ σ' → K (some (iV (if w = 0 then (q_fairF (σ 2 5) (σ 2 6) (q_BC σ 2) 32 0 (q_unf (q_SB (σ 2 5) (σ 2 6) (q_BC σ 2))) 99).1 else (q_fairF (σ 2 5) (σ 2 6) (q_BC σ 2) 32 0 (q_unf (q_SB (σ 2 5) (σ 2 6) (q_BC σ 2))) 99).2))) σ') : mj_Ok (n + 5) i_S_fair [rV 11 0 0, iV w] σ K := by
  obtain ⟨h0, -⟩ := hC
  refine mj_enter (by decide) (Nat.le_of_ble_eq_true rfl) (fun hg => ?_)
  by_cases hw : 0 ≤ w ∧ w ≤ 1
  · refine r_S_fair [(50, [true, true, true, true, true, true, false]), (121, [true, true, true, true, true, true, false])] 600 ?_
    repeat' (first | (refine mj_ite (fun h => ?_) (fun h => ?_) <;> first | (exfalso; omega) | skip) | refine mj_vci (by first | omega | (simp (disch := omega) only [up_ne, up_at, q_up_at, q_up_ne, cp_ne]; omega)) ?_)
    refine c_Border_copyFrom (b := 44) (o := 2) (by omega) (by decide +kernel) (by decide +kernel) (fun σ1 s1 s2 s3 s4 s5 s6 s7 s8 s9 => ?_)
    have eB : q_BC σ1 44 = q_BC σ 2 := by
      show (_, _, _, _, _) = (_, _, _, _, _)
      rw [s1, s5, s6, s7, s8]
    have hW : q_wB (q_BC σ1 44) := by rw [eB]; exact h0.1
    have hT : q_tB σ1 44 := ⟨q_gB_of hW (by rw [s2]; exact h0.2.1) (by rw [s3]; exact h0.2.2.1), fun i => by have := hW.2.2.2.2.1 i; dsimp only at this; omega⟩
    have key := h2 hw σ1 (fun o ho => s9 o (by omega) (by omega) (by omega) (by omega) (by omega))
    rw [← eB, ← s2, ← s3] at key
    refine c_unf (b := 44) hT (fun r hr => ?_)
    rw [← hr] at key
    exact l_S_fair hT hw 32 0 0 0 r 99 (by omega) (by omega) (by omega) key (by omega)
  · refine r_S_fair [(50, [true, true, true, true, true, true, false]), (121, [true, true, true, true, true, true, false])] 600 ?_
    repeat' (first | (refine mj_ite (fun h => ?_) (fun h => ?_) <;> first | (exfalso; omega) | skip) | refine mj_vci (by first | omega | (simp (disch := omega) only [up_ne, up_at, q_up_at, q_up_ne, cp_ne]; omega)) ?_)
    all_goals exact h1 hw
end S5
