/-! the model's images: kept in g + 23, field 41 where, field 42 whether it writes -/
/-- a whole state kept from a on -/
def q_im (κ : Int → Int) (a n w e r vb sn : Int) (f1 f2 f3 f4 f5 f6 f7 f8 f9 : Int → Int) : Prop :=
  (κ a = n ∧ κ (a + 1) = w ∧ κ (a + 2) = e ∧ κ (a + 3) = r ∧ κ (a + 4) = vb ∧ κ (a + 5) = sn) ∧
  (∀ j, 0 ≤ j → j < 8 → κ (a + 6 + j) = f1 j ∧ κ (a + 14 + j) = f2 j ∧ κ (a + 22 + j) = f3 j ∧ κ (a + 30 + j) = f4 j ∧ κ (a + 38 + j) = f5 j ∧ κ (a + 46 + j) = f6 j ∧ κ (a + 54 + j) = f7 j ∧ κ (a + 62 + j) = f8 j ∧ κ (a + 70 + j) = f9 j)
section M24
variable {n g : Nat} {σ : mj_W} {K : Option mj_V → mj_W → Prop} {x y z p w i j c d k s m a v : Int}
/-- writing -/
theorem c_M_passW (hw : σ g 42 = 1) (ha : σ g 41 = a) (hab : 0 ≤ a ∧ a < 180) (hK : ∀ σ' : mj_W, σ' (g + 23) = q_up (σ (g + 23)) a v → σ' g = q_up (σ g) 41 (a + 1) → (∀ o, o ≠ g → o ≠ g + 23 → σ' o = σ o) → K (some (iV v)) σ') : mj_Ok (n + 1) i_M_pass [rV 12 0 g, iV v] σ K := by
  have u0 : mj_up σ (g + 23) (σ g 41) v g = σ g := up_ne _ _ _ (by omega)
  have u1 : mj_up σ (g + 23) (σ g 41) v g 41 = a := by rw [u0, ha]
  have fin := hK (mj_up (mj_up σ (g + 23) (σ g 41) v) g 41 (mj_up σ (g + 23) (σ g 41) v g 41 + 1)) (by rw [up_ne _ _ _ (by omega), up_at, ha]) (by rw [up_at, u1, u0]) (fun o o1 o2 => by rw [up_ne _ _ _ o1, up_ne _ _ _ o2])
  refine mj_enter (by decide) (Nat.le_of_ble_eq_true rfl) (fun hg => ?_)
  refine r_M_pass [] 600 ?_
  repeat' (first | (refine mj_ite (fun h => ?_) (fun h => ?_) <;> first | (exfalso; omega) | skip) | refine mj_vci (by first | omega | (simp (disch := omega) only [up_ne, up_at, q_up_at, q_up_ne, cp_ne]; omega)) ?_)
  exact fin
/-- reading -/
theorem c_M_passR (hw : σ g 42 = 0) (ha : σ g 41 = a) (hab : 0 ≤ a ∧ a < 180) (hK : ∀ σ' : mj_W, σ' g = q_up (σ g) 41 (a + 1) → (∀ o, o ≠ g → σ' o = σ o) → K (some (iV (σ (g + 23) a))) σ') : mj_Ok (n + 1) i_M_pass [rV 12 0 g, iV v] σ K := by
  have u0 : mj_up σ (g + 23) (σ g 41) (σ (g + 23) (σ g 41)) g = σ g := up_ne _ _ _ (by omega)
  have u1 : mj_up σ (g + 23) (σ g 41) (σ (g + 23) (σ g 41)) g 41 = a := by rw [u0, ha]
  have fin := hK (mj_up (mj_up σ (g + 23) (σ g 41) (σ (g + 23) (σ g 41))) g 41 (mj_up σ (g + 23) (σ g 41) (σ (g + 23) (σ g 41)) g 41 + 1)) (by rw [up_at, u1, u0]) (fun o o1 => by
    rw [up_ne _ _ _ o1]
    by_cases e : o = g + 23
    · rw [e, up_at]; exact q_up_id _ rfl
    · rw [up_ne _ _ _ e])
  rw [← ha] at fin
  refine mj_enter (by decide) (Nat.le_of_ble_eq_true rfl) (fun hg => ?_)
  refine r_M_pass [] 600 ?_
  repeat' (first | (refine mj_ite (fun h => ?_) (fun h => ?_) <;> first | (exfalso; omega) | skip) | refine mj_vci (by first | omega | (simp (disch := omega) only [up_ne, up_at, q_up_at, q_up_ne, cp_ne]; omega)) ?_)
  exact fin
theorem l_M_passRowW {o : Nat} (hw : σ g 42 = 1) (ha : σ g 41 = a) (hab : 0 ≤ a ∧ a + 8 ≤ 180) (ho : g < o ∧ o < g + 23) (hK : ∀ σ' : mj_W, (∀ j, 0 ≤ j → j < 8 → σ' (g + 23) (a + j) = σ o j) → (∀ j, ¬ (a ≤ j ∧ j < a + 8) → σ' (g + 23) j = σ (g + 23) j) → σ' g = q_up (σ g) 41 (a + 8) → (∀ q, q ≠ g → q ≠ g + 23 → σ' q = σ q) → K none σ') :
    ∀ (k : Nat) (i : Int) (τ : mj_W), 0 ≤ i → i + k = 8 → (∀ j, 0 ≤ j → j < i → τ (g + 23) (a + j) = σ o j) → (∀ j, ¬ (a ≤ j ∧ j < a + i) → τ (g + 23) j = σ (g + 23) j) → τ g = q_up (σ g) 41 (a + i) → (∀ q, q ≠ g → q ≠ g + 23 → τ q = σ q) → mj_Wm i_M_passRow (n + 2) K 2 [some (rV 12 0 g), some (rV 20 8 o), some (iV i)] [] τ := by
  intro k
  induction k with
  | zero =>
    intro i τ h0 h1 t1 t2 t3 t4
    have : i = 8 := by omega
    subst this
    refine r_M_passRow [(2, [true, true, true])] 600 ?_
    repeat' (first | (refine mj_ite (fun h => ?_) (fun h => ?_) <;> first | (exfalso; omega) | skip) | refine mj_vci (by first | omega | (simp (disch := omega) only [up_ne, up_at, q_up_at, q_up_ne, cp_ne]; omega)) ?_)
    exact hK τ t1 t2 t3 t4
  | succ k ih =>
    intro i τ h0 h1 t1 t2 t3 t4
    have to := t4 o (by omega) (by omega)
    refine r_M_passRow [(2, [true, true, true])] 600 ?_
    repeat' (first | (refine mj_ite (fun h => ?_) (fun h => ?_) <;> first | (exfalso; omega) | skip) | refine mj_vci (by first | omega | (simp (disch := omega) only [up_ne, up_at, q_up_at, q_up_ne, cp_ne]; omega)) ?_)
    refine c_M_passW (a := a + i) (by rw [t3, q_up_ne _ _ (by omega)]; exact hw) (by rw [t3, q_up_at]) (by omega) (fun σ1 s1 s2 s3 => ?_)
    have so : σ1 o = σ o := (s3 o (by omega) (by omega)).trans to
    have eo : mj_up σ1 o i (τ o i) = σ1 := by
      funext q
      by_cases e : q = o
      · rw [e, up_at]; exact q_up_id _ (by rw [so, to])
      · rw [up_ne _ _ _ e]
    have fin : mj_Wm i_M_passRow (n + 2) K 2 [some (rV 12 0 g), some (rV 20 8 o), some (iV (i + 1))] [] (mj_up σ1 o i (τ o i)) := by
      rw [eo]
      refine ih (i + 1) σ1 (by omega) (by omega) (fun j j0 j1 => ?_) (fun j hj => ?_) ?_ (fun q q1 q2 => (s3 q q1 q2).trans (t4 q q1 q2))
      · rw [s1]
        by_cases e : j = i
        · rw [e, q_up_at, to]
        · rw [q_up_ne _ _ (by omega)]; exact t1 j j0 (by omega)
      · rw [s1, q_up_ne _ _ (by omega)]; exact t2 j (by omega)
      · rw [s2, t3, q_upup]
        congr 1
        omega
    repeat' (first | (refine mj_ite (fun h => ?_) (fun h => ?_) <;> first | (exfalso; omega) | skip) | refine mj_vci (by first | omega | (simp (disch := omega) only [up_ne, up_at, q_up_at, q_up_ne, cp_ne]; omega)) ?_)
    exact fin
theorem c_M_passRowW {o : Nat} (hw : σ g 42 = 1) (ha : σ g 41 = a) (hab : 0 ≤ a ∧ a + 8 ≤ 180) (ho : g < o ∧ o < g + 23) (hK : ∀ σ' : mj_W, (∀ j, 0 ≤ j → j < 8 → σ' (g + 23) (a + j) = σ o j) → (∀ j, ¬ (a ≤ j ∧ j < a + 8) → σ' (g + 23) j = σ (g + 23) j) → σ' g = q_up (σ g) 41 (a + 8) → (∀ q, q ≠ g → q ≠ g + 23 → σ' q = σ q) → K none σ') : mj_Ok (n + 2) i_M_passRow [rV 12 0 g, rV 20 8 o] σ K := by
  refine mj_enter (by decide) (Nat.le_of_ble_eq_true rfl) (fun hg => ?_)
  refine r_M_passRow [(2, [true, true, true])] 600 ?_
  exact l_M_passRowW hw ha hab ho hK 8 0 σ (by omega) (by omega) (fun j j0 j1 => by omega) (fun _ _ => rfl) (by rw [show a + 0 = a by omega, ← ha]; exact (q_up_id _ rfl).symm) (fun _ _ _ => rfl)
theorem l_M_passRowR {o : Nat} (hg : mj_rg σ) (hlo : mj_ln o = 8) (hw : σ g 42 = 0) (ha : σ g 41 = a) (hab : 0 ≤ a ∧ a + 8 ≤ 180) (ho : g < o ∧ o < g + 23) (hK : ∀ σ' : mj_W, (∀ j, 0 ≤ j → j < 8 → σ' o j = σ (g + 23) (a + j)) → (∀ j, ¬ (0 ≤ j ∧ j < 8) → σ' o j = 0) → σ' g = q_up (σ g) 41 (a + 8) → (∀ q, q ≠ g → q ≠ o → σ' q = σ q) → K none σ') :
    ∀ (k : Nat) (i : Int) (τ : mj_W), 0 ≤ i → i + k = 8 → (∀ j, 0 ≤ j → j < i → τ o j = σ (g + 23) (a + j)) → (∀ j, ¬ (0 ≤ j ∧ j < 8) → τ o j = 0) → τ g = q_up (σ g) 41 (a + i) → (∀ q, q ≠ g → q ≠ o → τ q = σ q) → mj_Wm i_M_passRow (n + 2) K 2 [some (rV 12 0 g), some (rV 20 8 o), some (iV i)] [] τ := by
  intro k
  induction k with
  | zero =>
    intro i τ h0 h1 t1 t2 t3 t4
    have : i = 8 := by omega
    subst this
    refine r_M_passRow [(2, [true, true, true])] 600 ?_
    repeat' (first | (refine mj_ite (fun h => ?_) (fun h => ?_) <;> first | (exfalso; omega) | skip) | refine mj_vci (by first | omega | (simp (disch := omega) only [up_ne, up_at, q_up_at, q_up_ne, cp_ne]; omega)) ?_)
    exact hK τ t1 t2 t3 t4
  | succ k ih =>
    intro i τ h0 h1 t1 t2 t3 t4
    have tk := t4 (g + 23) (by omega) (by omega)
    refine r_M_passRow [(2, [true, true, true])] 600 ?_
    repeat' (first | (refine mj_ite (fun h => ?_) (fun h => ?_) <;> first | (exfalso; omega) | skip) | refine mj_vci (by first | omega | (simp (disch := omega) only [up_ne, up_at, q_up_at, q_up_ne, cp_ne]; omega)) ?_)
    refine c_M_passR (a := a + i) (by rw [t3, q_up_ne _ _ (by omega)]; exact hw) (by rw [t3, q_up_at]) (by omega) (fun σ1 s1 s2 => ?_)
    rw [tk]
    repeat' (first | (refine mj_ite (fun h => ?_) (fun h => ?_) <;> first | (exfalso; omega) | skip) | refine mj_vci (by first | omega | (simp (disch := omega) only [up_ne, up_at, q_up_at, q_up_ne, cp_ne]; omega)) ?_)
    refine ih (i + 1) _ (by omega) (by omega) (fun j j0 j1 => ?_) (fun j hj => ?_) ?_ (fun q q1 q2 => ?_)
    · rw [up_at, s2 o (by omega)]
      by_cases e : j = i
      · rw [e, q_up_at]
      · rw [q_up_ne _ _ e]; exact t1 j j0 (by omega)
    · rw [up_at, s2 o (by omega), q_up_ne _ _ (by omega)]; exact t2 j hj
    · rw [up_ne _ _ _ (by omega), s1, t3, q_upup]
      congr 1
      omega
    · rw [up_ne _ _ _ q2, s2 q q1]; exact t4 q q1 q2
theorem c_M_passRowR {o : Nat} (hlo : mj_ln o = 8) (hw : σ g 42 = 0) (ha : σ g 41 = a) (hab : 0 ≤ a ∧ a + 8 ≤ 180) (ho : g < o ∧ o < g + 23) (hK : ∀ σ' : mj_W, (∀ j, 0 ≤ j → j < 8 → σ' o j = σ (g + 23) (a + j)) → (∀ j, ¬ (0 ≤ j ∧ j < 8) → σ' o j = 0) → σ' g = q_up (σ g) 41 (a + 8) → (∀ q, q ≠ g → q ≠ o → σ' q = σ q) → K none σ') : mj_Ok (n + 2) i_M_passRow [rV 12 0 g, rV 20 8 o] σ K := by
  refine mj_enter (by decide) (Nat.le_of_ble_eq_true rfl) (fun hg => ?_)
  refine r_M_passRow [(2, [true, true, true])] 600 ?_
  exact l_M_passRowR hg hlo hw ha hab ho hK 8 0 σ (by omega) (by omega) (fun j j0 j1 => by omega) (fun j hj => mj_rg_z hg _ _ (by rw [hlo]; exact hj)) (by rw [show a + 0 = a by omega, ← ha]; exact (q_up_id _ rfl).symm) (fun _ _ _ => rfl)
end M24
