/-! what changes a border -/
def q_del (row : Int → Int) (pl n : Int) : Int → Int := fun j => if pl ≤ j ∧ j < n - 1 then row (j + 1) else row j
def q_ins (row : Int → Int) (pl p n : Int) : Int → Int := fun j => if j = pl then p else if pl < j ∧ j ≤ n then row (j - 1) else row j
theorem q_east_in (d : Int) : -1 ≤ mj_east d ∧ mj_east d ≤ 1 := by
  unfold mj_east; split; · omega
  · split <;> omega
theorem q_north_in (d : Int) : -1 ≤ mj_north d ∧ mj_north d ≤ 1 := by
  unfold mj_north; split; · omega
  · split <;> omega
section B5
variable {n b : Nat} {σ : mj_W} {K : Option mj_V → mj_W → Prop} {x y p w i j c d : Int}
theorem l_Border_drop (hc : 1 ≤ σ b 4 ∧ σ b 4 ≤ 8) (hp : 0 ≤ w ∧ w < σ b 4) (hK : ∀ σ' : mj_W, σ' b = q_up (σ b) 4 (σ b 4 - 1) → σ' (b + 4) = q_del (σ (b + 4)) w (σ b 4) → (∀ o, o ≠ b → o ≠ b + 4 → σ' o = σ o) → K none σ') :
    ∀ (k : Nat) (i : Int) (τ : mj_W), w ≤ i → i + k = σ b 4 - 1 → τ b = q_up (σ b) 4 (σ b 4 - 1) → τ (b + 4) = (fun j => if w ≤ j ∧ j < i then σ (b + 4) (j + 1) else σ (b + 4) j) → (∀ o, o ≠ b → o ≠ b + 4 → τ o = σ o) → mj_Wm i_Border_drop (n + 2) K 25 [some (rV 1 0 b), some (iV p), some (iV w), some (iV i)] [] τ := by
  intro k
  induction k with
  | zero =>
    intro i τ h0 h1 t1 t2 t3
    have f4 : τ b 4 = σ b 4 - 1 := by rw [t1, q_up_at]
    refine r_Border_drop [(25, [true, true, true, true])] 600 ?_
    repeat' (first | (refine mj_ite (fun h => ?_) (fun h => ?_) <;> first | (exfalso; omega) | skip) | refine mj_vci (by first | omega | (simp (disch := omega) only [up_ne, up_at, q_up_at, q_up_ne, cp_ne]; omega)) ?_)
    refine hK τ t1 ?_ t3
    rw [t2]
    funext j
    unfold q_del
    rw [show i = σ b 4 - 1 by omega]
  | succ k ih =>
    intro i τ h0 h1 t1 t2 t3
    have f4 : τ b 4 = σ b 4 - 1 := by rw [t1, q_up_at]
    refine r_Border_drop [(25, [true, true, true, true])] 600 ?_
    repeat' (first | (refine mj_ite (fun h => ?_) (fun h => ?_) <;> first | (exfalso; omega) | skip) | refine mj_vci (by first | omega | (simp (disch := omega) only [up_ne, up_at, q_up_at, q_up_ne, cp_ne]; omega)) ?_)
    refine ih (i + 1) _ (by omega) (by omega) ?_ ?_ ?_
    · rw [up_ne _ _ _ (by omega)]; exact t1
    · rw [up_at, t2]
      funext j
      simp only [q_up]
      grind
    · intro o ho1 ho2
      rw [up_ne _ _ _ ho2]
      exact t3 o ho1 ho2
theorem c_Border_drop (hc : 0 ≤ σ b 4 ∧ σ b 4 ≤ 8) (h0 : q_fnd (σ (b + 4)) (σ b 4) p = -6 → K none σ) (hK : q_fnd (σ (b + 4)) (σ b 4) p ≠ -6 → ∀ σ' : mj_W, σ' b = q_up (σ b) 4 (σ b 4 - 1) → σ' (b + 4) = q_del (σ (b + 4)) (q_fnd (σ (b + 4)) (σ b 4) p) (σ b 4) → (∀ o, o ≠ b → o ≠ b + 4 → σ' o = σ o) → K none σ') : mj_Ok (n + 2) i_Border_drop [rV 1 0 b, iV p] σ K := by
  have hf := q_fnd_or (σ (b + 4)) hc.1 p
  generalize hw : q_fnd (σ (b + 4)) (σ b 4) p = w at h0 hK hf
  refine mj_enter (by decide) (Nat.le_of_ble_eq_true rfl) (fun hg => ?_)
  refine r_Border_drop [(25, [true, true, true, true])] 600 ?_
  refine c_Border_placeOf hc ?_
  rw [hw]
  repeat' (first | (refine mj_ite (fun h => ?_) (fun h => ?_) <;> first | (exfalso; omega) | skip) | refine mj_vci (by first | omega | (simp (disch := omega) only [up_ne, up_at, q_up_at, q_up_ne, cp_ne]; omega)) ?_)
  · exact h0 (by assumption)
  · refine l_Border_drop (by omega) (by omega) (hK (by omega)) (σ b 4 - 1 - w).toNat w _ (by omega) (by omega) (up_at _ _ _ _) ?_ ?_
    · rw [up_ne _ _ _ (by omega)]
      funext j
      rw [if_neg (by omega)]
    · intro o ho1 ho2
      rw [up_ne _ _ _ ho1]
theorem l_Border_enter {pl : Int} (hc : 0 ≤ σ b 4 ∧ σ b 4 ≤ 7) (hp : 0 ≤ p ∧ p ≤ 7) (hpl : 0 ≤ pl ∧ pl ≤ σ b 4) (hK : ∀ σ' : mj_W, σ' b = q_up (σ b) 4 (σ b 4 + 1) → σ' (b + 4) = q_ins (σ (b + 4)) pl p (σ b 4) → σ' (b + 1) = q_up (σ (b + 1)) p x → σ' (b + 2) = q_up (σ (b + 2)) p y → σ' (b + 3) = q_up (σ (b + 3)) p 0 → (∀ o, o ≠ b → o ≠ b + 1 → o ≠ b + 2 → o ≠ b + 3 → o ≠ b + 4 → σ' o = σ o) → K none σ') :
    ∀ (k : Nat) (i : Int) (τ : mj_W), i ≤ σ b 4 → i = pl + k → τ (b + 4) = (fun j => if i < j ∧ j ≤ σ b 4 then σ (b + 4) (j - 1) else σ (b + 4) j) → (∀ o, o ≠ b + 4 → τ o = σ o) → mj_Wm i_Border_enter (n + 2) K 16 [some (rV 1 0 b), some (iV p), some (iV x), some (iV y), some (iV pl), some (iV i)] [] τ := by
  intro k
  induction k with
  | zero =>
    intro i τ h0 h1 t2 t3
    have tb := t3 b (by omega)
    have f4 : τ b 4 = σ b 4 := by rw [tb]
    refine r_Border_enter [(16, [true, true, true, true, true, true])] 600 ?_
    repeat' (first | (refine mj_ite (fun h => ?_) (fun h => ?_) <;> first | (exfalso; omega) | skip) | refine mj_vci (by first | omega | (simp (disch := omega) only [up_ne, up_at, q_up_at, q_up_ne, cp_ne]; omega)) ?_)
    refine c_Border_put hp ?_
    repeat' (first | (refine mj_ite (fun h => ?_) (fun h => ?_) <;> first | (exfalso; omega) | skip) | refine mj_vci (by first | omega | (simp (disch := omega) only [up_ne, up_at, q_up_at, q_up_ne, cp_ne]; omega)) ?_)
    refine hK _ ?_ ?_ ?_ ?_ ?_ ?_
    · simp (disch := omega) only [up_ne, up_at, tb]
    · simp (disch := omega) only [up_ne, up_at, t2]
      funext j
      simp only [q_up, q_ins]
      grind
    · simp (disch := omega) only [up_ne, up_at, t3]
    · simp (disch := omega) only [up_ne, up_at, t3]
    · simp (disch := omega) only [up_ne, up_at, t3]
    · intro o g1 g2 g3 g4 g5
      simp (disch := omega) only [up_ne, t3]
  | succ k ih =>
    intro i τ h0 h1 t2 t3
    have tb := t3 b (by omega)
    have f4 : τ b 4 = σ b 4 := by rw [tb]
    refine r_Border_enter [(16, [true, true, true, true, true, true])] 600 ?_
    repeat' (first | (refine mj_ite (fun h => ?_) (fun h => ?_) <;> first | (exfalso; omega) | skip) | refine mj_vci (by first | omega | (simp (disch := omega) only [up_ne, up_at, q_up_at, q_up_ne, cp_ne]; omega)) ?_)
    refine ih _ _ ?_ ?_ ?_ ?_
    · omega
    · omega
    · rw [up_at, t2]
      funext j
      simp only [q_up]
      grind
    · intro o ho2
      rw [up_ne _ _ _ ho2]
      exact t3 o ho2
theorem c_Border_enter {pl : Int} (hc : 0 ≤ σ b 4 ∧ σ b 4 ≤ 7) (hp : 0 ≤ p ∧ p ≤ 7) (hpl : 0 ≤ pl ∧ pl ≤ σ b 4) (hK : ∀ σ' : mj_W, σ' b = q_up (σ b) 4 (σ b 4 + 1) → σ' (b + 4) = q_ins (σ (b + 4)) pl p (σ b 4) → σ' (b + 1) = q_up (σ (b + 1)) p x → σ' (b + 2) = q_up (σ (b + 2)) p y → σ' (b + 3) = q_up (σ (b + 3)) p 0 → (∀ o, o ≠ b → o ≠ b + 1 → o ≠ b + 2 → o ≠ b + 3 → o ≠ b + 4 → σ' o = σ o) → K none σ') : mj_Ok (n + 2) i_Border_enter [rV 1 0 b, iV p, iV x, iV y, iV pl] σ K := by
  refine mj_enter (by decide) (Nat.le_of_ble_eq_true rfl) (fun hg => ?_)
  refine r_Border_enter [(16, [true, true, true, true, true, true])] 600 ?_
  repeat' (first | (refine mj_ite (fun h => ?_) (fun h => ?_) <;> first | (exfalso; omega) | skip) | refine mj_vci (by first | omega | (simp (disch := omega) only [up_ne, up_at, q_up_at, q_up_ne, cp_ne]; omega)) ?_)
  refine l_Border_enter hc hp hpl hK (σ b 4 - pl).toNat (σ b 4) σ (by omega) (by omega) ?_ (fun _ _ => rfl)
  funext j
  rw [if_neg (by omega)]
theorem c_Border_inherit {he : Int} (hc : 0 ≤ σ b 4 ∧ σ b 4 ≤ 8) (hp : 0 ≤ p ∧ p ≤ 7) (hh : 0 ≤ he ∧ he ≤ 7) (hf : q_fnd (σ (b + 4)) (σ b 4) p ≠ -6) (hK : ∀ σ' : mj_W, σ' (b + 4) = q_up (σ (b + 4)) (q_fnd (σ (b + 4)) (σ b 4) p) he → σ' (b + 1) = q_up (σ (b + 1)) he (σ (b + 1) p) → σ' (b + 2) = q_up (σ (b + 2)) he (σ (b + 2) p) → σ' (b + 3) = q_up (σ (b + 3)) he (σ (b + 3) p) → (∀ o, o ≠ b + 1 → o ≠ b + 2 → o ≠ b + 3 → o ≠ b + 4 → σ' o = σ o) → K none σ') : mj_Ok (n + 2) i_Border_inherit [rV 1 0 b, iV p, iV he] σ K := by
  have hf2 := q_fnd_or (σ (b + 4)) hc.1 p
  generalize hw : q_fnd (σ (b + 4)) (σ b 4) p = w at hf hK hf2
  refine mj_enter (by decide) (Nat.le_of_ble_eq_true rfl) (fun hg => ?_)
  refine r_Border_inherit [] 600 ?_
  refine c_Border_placeOf hc ?_
  rw [hw]
  repeat' (first | (refine mj_ite (fun h => ?_) (fun h => ?_) <;> first | (exfalso; omega) | skip) | refine mj_vci (by first | omega | (simp (disch := omega) only [up_ne, up_at, q_up_at, q_up_ne, cp_ne]; omega)) ?_)
  refine c_S_isPerson (fun _ _ => ?_) (fun h => absurd hh h)
  repeat' (first | (refine mj_ite (fun h => ?_) (fun h => ?_) <;> first | (exfalso; omega) | skip) | refine mj_vci (by first | omega | (simp (disch := omega) only [up_ne, up_at, q_up_at, q_up_ne, cp_ne]; omega)) ?_)
  refine c_Border_put hh ?_
  repeat' (first | (refine mj_ite (fun h => ?_) (fun h => ?_) <;> first | (exfalso; omega) | skip) | refine mj_vci (by first | omega | (simp (disch := omega) only [up_ne, up_at, q_up_at, q_up_ne, cp_ne]; omega)) ?_)
  refine hK _ ?_ ?_ ?_ ?_ ?_
  · simp (disch := omega) only [up_ne, up_at]
  · simp (disch := omega) only [up_ne, up_at]
  · simp (disch := omega) only [up_ne, up_at]
  · simp (disch := omega) only [up_ne, up_at]
  · intro o g1 g2 g3 g4
    simp (disch := omega) only [up_ne]
theorem l_Border_endDay (hg : mj_rg σ) (hl : mj_ln (b + 3) = 8) (hK : ∀ σ' : mj_W, σ' (b + 3) = (fun _ => 0) → (∀ o, o ≠ b + 3 → σ' o = σ o) → K none σ') :
    ∀ (k : Nat) (i : Int) (τ : mj_W), 0 ≤ i → i + k = 8 → τ (b + 3) = (fun j => if 0 ≤ j ∧ j < i then 0 else σ (b + 3) j) → (∀ o, o ≠ b + 3 → τ o = σ o) → mj_Wm i_Border_endDay (n + 1) K 2 [some (rV 1 0 b), some (iV i)] [] τ := by
  intro k
  induction k with
  | zero =>
    intro i τ h0 h1 t2 t3
    refine r_Border_endDay [(2, [true, true])] 600 ?_
    repeat' (first | (refine mj_ite (fun h => ?_) (fun h => ?_) <;> first | (exfalso; omega) | skip) | refine mj_vci (by first | omega | (simp (disch := omega) only [up_ne, up_at, q_up_at, q_up_ne, cp_ne]; omega)) ?_)
    refine hK _ ?_ t3
    rw [t2]
    funext j
    by_cases e : 0 ≤ j ∧ j < i
    · rw [if_pos e]
    · rw [if_neg e]
      exact mj_rg_z hg _ _ (by rw [hl]; omega)
  | succ k ih =>
    intro i τ h0 h1 t2 t3
    refine r_Border_endDay [(2, [true, true])] 600 ?_
    repeat' (first | (refine mj_ite (fun h => ?_) (fun h => ?_) <;> first | (exfalso; omega) | skip) | refine mj_vci (by first | omega | (simp (disch := omega) only [up_ne, up_at, q_up_at, q_up_ne, cp_ne]; omega)) ?_)
    refine ih (i + 1) _ (by omega) (by omega) ?_ ?_
    · rw [up_at, t2]
      funext j
      simp only [q_up]
      grind
    · intro o ho2
      rw [up_ne _ _ _ ho2]
      exact t3 o ho2
theorem c_Border_endDay (hl : mj_ln (b + 3) = 8) (hK : ∀ σ' : mj_W, σ' (b + 3) = (fun _ => 0) → (∀ o, o ≠ b + 3 → σ' o = σ o) → K none σ') : mj_Ok (n + 1) i_Border_endDay [rV 1 0 b] σ K := by
  refine mj_enter (by decide) (Nat.le_of_ble_eq_true rfl) (fun hg => ?_)
  refine r_Border_endDay [(2, [true, true])] 600 ?_
  refine l_Border_endDay hg hl hK 8 0 σ (by omega) (by omega) ?_ (fun _ _ => rfl)
  funext j
  rw [if_neg (by omega)]
theorem c_Border_shift (hp : 0 ≤ p ∧ p ≤ 7) (hd : 0 ≤ d ∧ d ≤ 3) (hw : -9 ≤ w ∧ w ≤ 9) (hx : -100 ≤ σ (b + 1) p ∧ σ (b + 1) p ≤ 100) (hy : -100 ≤ σ (b + 2) p ∧ σ (b + 2) p ≤ 100) (hK : K none (mj_up (mj_up σ (b + 1) p (σ (b + 1) p + w * mj_east d)) (b + 2) p (σ (b + 2) p + w * mj_north d))) : mj_Ok (n + 1) i_Border_shift [rV 1 0 b, iV p, iV d, iV w] σ K := by
  have m1 := q_mulb (a := w) (b := mj_east d) (A := 9) (B := 1) hw (q_east_in d)
  have m2 := q_mulb (a := w) (b := mj_north d) (A := 9) (B := 1) hw (q_north_in d)
  refine mj_enter (by decide) (Nat.le_of_ble_eq_true rfl) (fun hg => ?_)
  refine r_Border_shift [] 600 ?_
  repeat' (first | (refine mj_ite (fun h => ?_) (fun h => ?_) <;> first | (exfalso; omega) | skip) | refine mj_vci (by first | omega | (simp (disch := omega) only [up_ne, up_at, q_up_at, q_up_ne, cp_ne]; omega)) ?_)
  have e : mj_up σ (b + 1) p (σ (b + 1) p + w * mj_east d) (b + 2) p = σ (b + 2) p := by rw [up_ne _ _ _ (by omega)]
  rw [← e] at hK
  exact hK
theorem c_Border_walk (hp : 0 ≤ p ∧ p ≤ 7) (hd : 0 ≤ d ∧ d ≤ 3) (hw : -9 ≤ w ∧ w ≤ 9) (hx : -100 ≤ σ (b + 1) p ∧ σ (b + 1) p ≤ 100) (hy : -100 ≤ σ (b + 2) p ∧ σ (b + 2) p ≤ 100) (hz : -200 ≤ σ (b + 3) p ∧ σ (b + 3) p ≤ 200) (hK : ∀ σ' : mj_W, σ' (b + 1) = q_up (σ (b + 1)) p (σ (b + 1) p + w * mj_east d) → σ' (b + 2) = q_up (σ (b + 2)) p (σ (b + 2) p + w * mj_north d) → σ' (b + 3) = q_up (σ (b + 3)) p (σ (b + 3) p + w) → (∀ o, o ≠ b + 1 → o ≠ b + 2 → o ≠ b + 3 → σ' o = σ o) → K none σ') : mj_Ok (n + 2) i_Border_walk [rV 1 0 b, iV p, iV d, iV w] σ K := by
  refine mj_enter (by decide) (Nat.le_of_ble_eq_true rfl) (fun hg => ?_)
  refine r_Border_walk [] 600 ?_
  refine c_Border_shift hp hd hw hx hy ?_
  repeat' (first | (refine mj_ite (fun h => ?_) (fun h => ?_) <;> first | (exfalso; omega) | skip) | refine mj_vci (by first | omega | (simp (disch := omega) only [up_ne, up_at, q_up_at, q_up_ne, cp_ne]; omega)) ?_)
  refine hK _ ?_ ?_ ?_ ?_
  · simp (disch := omega) only [up_ne, up_at]
  · simp (disch := omega) only [up_ne, up_at]
  · simp (disch := omega) only [up_ne, up_at]
  · intro o g1 g2 g3
    simp (disch := omega) only [up_ne]
end B5
