/-! villages, sights, the pad: the class's own -/
def q_tb (bits v : Int) : Bool := bits.toNat.testBit v.toNat
theorem q_tb0 : ∀ (k : Fin 256) (v : Fin 8), (mj_and (k.val : Int) (mj_shl 1 (v.val : Int)) = 0 ↔ q_tb (k.val : Int) (v.val : Int) = false) ∧ (mj_and (mj_shr (k.val : Int) (v.val : Int)) 1 = if q_tb (k.val : Int) (v.val : Int) = true then 1 else 0) ∧ (0 ≤ mj_or (k.val : Int) (mj_shl 1 (v.val : Int)) ∧ mj_or (k.val : Int) (mj_shl 1 (v.val : Int)) ≤ 255) ∧ (0 ≤ mj_and (k.val : Int) (mj_xor (mj_shl 1 (v.val : Int)) (-1)) ∧ mj_and (k.val : Int) (mj_xor (mj_shl 1 (v.val : Int)) (-1)) ≤ 255) := by decide +kernel
theorem q_tbs {k v : Int} (hk : 0 ≤ k ∧ k ≤ 255) (hv : 0 ≤ v ∧ v ≤ 7) : (mj_and k (mj_shl 1 v) = 0 ↔ q_tb k v = false) ∧ (mj_and (mj_shr k v) 1 = if q_tb k v = true then 1 else 0) ∧ (0 ≤ mj_or k (mj_shl 1 v) ∧ mj_or k (mj_shl 1 v) ≤ 255) ∧ (0 ≤ mj_and k (mj_xor (mj_shl 1 v) (-1)) ∧ mj_and k (mj_xor (mj_shl 1 v) (-1)) ≤ 255) := by
  have h := q_tb0 ⟨k.toNat, by omega⟩ ⟨v.toNat, by omega⟩
  have e1 : ((k.toNat : Nat) : Int) = k := by omega
  have e2 : ((v.toNat : Nat) : Int) = v := by omega
  simp only [e1, e2] at h
  exact h
def q_vonF (bits : Int) (vx vy X Y : Int → Int) (m s : Int) : Int → Int → Nat → Int
  | a, _, 0 => a
  | a, i, k + 1 => q_vonF bits vx vy X Y m s (if q_tb bits i = true ∧ q_side X Y m (vx i) (vy i) = s then mj_or a (mj_shl 1 i) else a) (i + 1) k
/-- the villages on side s of the line of m pieces -/
def q_von (bits : Int) (vx vy X Y : Int → Int) (m s : Int) : Int := q_vonF bits vx vy X Y m s 0 0 8
section B7
variable {n b v : Nat} {σ : mj_W} {K : Option mj_V → mj_W → Prop} {x y p w i j c d : Int}
theorem c_Villages_holds (hb : 0 ≤ σ v 2 ∧ σ v 2 ≤ 255) (h1 : 0 ≤ i → i ≤ 7 → q_tb (σ v 2) i = true → K (some (iV 1)) σ) (h0 : ¬ (0 ≤ i ∧ i ≤ 7 ∧ q_tb (σ v 2) i = true) → K (some (iV 0)) σ) : mj_Ok (n + 1) i_Villages_holds [rV 9 0 v, iV i] σ K := by
  refine mj_enter (by decide) (Nat.le_of_ble_eq_true rfl) (fun hg => ?_)
  refine r_Villages_holds [] 600 ?_
  by_cases hi : 0 ≤ i ∧ i ≤ 7
  · have e := (q_tbs hb hi).1
    repeat' (first | (refine mj_ite (fun h => ?_) (fun h => ?_) <;> first | (exfalso; omega) | skip) | refine mj_vci (by first | omega | (simp (disch := omega) only [up_ne, up_at, q_up_at, q_up_ne, cp_ne]; omega)) ?_)
    · exact h0 (fun q => by rw [e.mp (by assumption)] at q; exact absurd q.2.2 (by decide))
    · refine h1 hi.1 hi.2 ?_
      cases hq : q_tb (σ v 2) i with
      | true => rfl
      | false => exact absurd (e.mpr hq) (by assumption)
  · repeat' (first | (refine mj_ite (fun h => ?_) (fun h => ?_) <;> first | (exfalso; omega) | skip) | refine mj_vci (by first | omega | (simp (disch := omega) only [up_ne, up_at, q_up_at, q_up_ne, cp_ne]; omega)) ?_)
    all_goals exact h0 (fun q => hi ⟨q.1, q.2.1⟩)
theorem c_Villages_put (hi : 0 ≤ i ∧ i ≤ 7) (hK : ∀ σ' : mj_W, σ' (v + 1) = q_up (σ (v + 1)) i x → σ' (v + 2) = q_up (σ (v + 2)) i y → σ' v = q_up (σ v) 2 (mj_or (σ v 2) (mj_shl 1 i)) → (∀ o, o ≠ v → o ≠ v + 1 → o ≠ v + 2 → σ' o = σ o) → K none σ') : mj_Ok (n + 1) i_Villages_put [rV 9 0 v, iV i, iV x, iV y] σ K := by
  refine mj_enter (by decide) (Nat.le_of_ble_eq_true rfl) (fun hg => ?_)
  refine r_Villages_put [] 600 ?_
  repeat' (first | (refine mj_ite (fun h => ?_) (fun h => ?_) <;> first | (exfalso; omega) | skip) | refine mj_vci (by first | omega | (simp (disch := omega) only [up_ne, up_at, q_up_at, q_up_ne, cp_ne]; omega)) ?_)
  refine hK _ ?_ ?_ ?_ ?_
  · simp (disch := omega) only [up_ne, up_at]
  · simp (disch := omega) only [up_ne, up_at]
  · simp (disch := omega) only [up_ne, up_at]
  · intro o g1 g2 g3
    simp (disch := omega) only [up_ne]
theorem l_Villages_bitsOn (hB : q_gB σ b) (hb : 0 ≤ σ v 2 ∧ σ v 2 ≤ 255) (hx : ∀ i, 0 ≤ σ (v + 1) i ∧ σ (v + 1) i ≤ 40) (hy : ∀ i, 0 ≤ σ (v + 2) i ∧ σ (v + 2) i ≤ 40) : ∀ (k : Nat) (i a : Int), 0 ≤ i → i + k = 8 → (∀ r, r = q_vonF (σ v 2) (σ (v + 1)) (σ (v + 2)) (q_X σ b) (q_Y σ b) (σ b 4 + 1) w a i k → K (some (iV r)) σ) → mj_Wm i_Villages_bitsOn (n + 4) K 5 [some (rV 9 0 v), some (rV 1 0 b), some (iV w), some (iV a), some (iV i)] [] σ := by
  intro k
  induction k with
  | zero =>
    intro i a h0 h1 hK
    refine r_Villages_bitsOn [(5, [true, true, true, true, true])] 600 ?_
    repeat' (first | (refine mj_ite (fun h => ?_) (fun h => ?_) <;> first | (exfalso; omega) | skip) | refine mj_vci (by first | omega | (simp (disch := omega) only [up_ne, up_at, q_up_at, q_up_ne, cp_ne]; omega)) ?_)
    exact hK _ rfl
  | succ k ih =>
    intro i a h0 h1 hK
    unfold q_vonF at hK
    have x0 := hx i
    have y0 := hy i
    refine r_Villages_bitsOn [(5, [true, true, true, true, true])] 600 ?_
    repeat' (first | (refine mj_ite (fun h => ?_) (fun h => ?_) <;> first | (exfalso; omega) | skip) | refine mj_vci (by first | omega | (simp (disch := omega) only [up_ne, up_at, q_up_at, q_up_ne, cp_ne]; omega)) ?_)
    refine c_Villages_holds hb (fun a1 a2 a3 => ?_) (fun a0 => ?_)
    · repeat' (first | (refine mj_ite (fun h => ?_) (fun h => ?_) <;> first | (exfalso; omega) | skip) | refine mj_vci (by first | omega | (simp (disch := omega) only [up_ne, up_at, q_up_at, q_up_ne, cp_ne]; omega)) ?_)
      refine c_Border_sideOf hB (by omega) (by omega) ?_
      generalize hs : q_side (q_X σ b) (q_Y σ b) (σ b 4 + 1) (σ (v + 1) i) (σ (v + 2) i) = s at hK
      repeat' (first | (refine mj_ite (fun h => ?_) (fun h => ?_) <;> first | (exfalso; omega) | skip) | refine mj_vci (by first | omega | (simp (disch := omega) only [up_ne, up_at, q_up_at, q_up_ne, cp_ne]; omega)) ?_)
      · rw [if_pos ⟨a3, by assumption⟩] at hK
        exact ih (i + 1) _ (by omega) (by omega) hK
      · rw [if_neg (fun q => absurd q.2 (by assumption))] at hK
        exact ih (i + 1) _ (by omega) (by omega) hK
    · rw [if_neg (fun q => a0 ⟨by omega, by omega, q.1⟩)] at hK
      repeat' (first | (refine mj_ite (fun h => ?_) (fun h => ?_) <;> first | (exfalso; omega) | skip) | refine mj_vci (by first | omega | (simp (disch := omega) only [up_ne, up_at, q_up_at, q_up_ne, cp_ne]; omega)) ?_)
      exact ih (i + 1) _ (by omega) (by omega) hK
theorem c_Villages_bitsOn (hB : q_gB σ b) (hb : 0 ≤ σ v 2 ∧ σ v 2 ≤ 255) (hx : ∀ i, 0 ≤ σ (v + 1) i ∧ σ (v + 1) i ≤ 40) (hy : ∀ i, 0 ≤ σ (v + 2) i ∧ σ (v + 2) i ≤ 40) (hK : ∀ r, r = q_von (σ v 2) (σ (v + 1)) (σ (v + 2)) (q_X σ b) (q_Y σ b) (σ b 4 + 1) w → K (some (iV r)) σ) : mj_Ok (n + 4) i_Villages_bitsOn [rV 9 0 v, rV 1 0 b, iV w] σ K := by
  refine mj_enter (by decide) (Nat.le_of_ble_eq_true rfl) (fun hg => ?_)
  refine r_Villages_bitsOn [(5, [true, true, true, true, true])] 600 ?_
  exact l_Villages_bitsOn hB hb hx hy 8 0 0 (by omega) (by omega) hK
theorem c_Sights_add (hc : 0 ≤ σ v 3 ∧ σ v 3 ≤ 7) (hK : ∀ σ' : mj_W, σ' (v + 1) = q_up (σ (v + 1)) (σ v 3) x → σ' (v + 2) = q_up (σ (v + 2)) (σ v 3) y → σ' (v + 3) = q_up (σ (v + 3)) (σ v 3) w → σ' v = q_up (σ v) 3 (σ v 3 + 1) → (∀ o, o ≠ v → o ≠ v + 1 → o ≠ v + 2 → o ≠ v + 3 → σ' o = σ o) → K none σ') : mj_Ok (n + 1) i_Sights_add [rV 6 0 v, iV x, iV y, iV w] σ K := by
  refine mj_enter (by decide) (Nat.le_of_ble_eq_true rfl) (fun hg => ?_)
  refine r_Sights_add [] 600 ?_
  repeat' (first | (refine mj_ite (fun h => ?_) (fun h => ?_) <;> first | (exfalso; omega) | skip) | refine mj_vci (by first | omega | (simp (disch := omega) only [up_ne, up_at, q_up_at, q_up_ne, cp_ne]; omega)) ?_)
  refine hK _ ?_ ?_ ?_ ?_ ?_
  · simp (disch := omega) only [up_ne, up_at]
  · simp (disch := omega) only [up_ne, up_at]
  · simp (disch := omega) only [up_ne, up_at]
  · simp (disch := omega) only [up_ne, up_at]
  · intro o g1 g2 g3 g4
    simp (disch := omega) only [up_ne]
/-- all sights are so -/
def q_seen (k : Int) (sx sy ss X Y : Int → Int) (m : Int) : Prop := ∀ j, 0 ≤ j → j < k → q_side X Y m (sx j) (sy j) = ss j
theorem l_Sights_fit (hB : q_gB σ b) (hc : 0 ≤ σ v 3 ∧ σ v 3 ≤ 8) (hx : ∀ i, 0 ≤ σ (v + 1) i ∧ σ (v + 1) i ≤ 40) (hy : ∀ i, 0 ≤ σ (v + 2) i ∧ σ (v + 2) i ≤ 40) (h1 : q_seen (σ v 3) (σ (v + 1)) (σ (v + 2)) (σ (v + 3)) (q_X σ b) (q_Y σ b) (σ b 4 + 1) → K (some (iV 1)) σ) (h0 : ¬ q_seen (σ v 3) (σ (v + 1)) (σ (v + 2)) (σ (v + 3)) (q_X σ b) (q_Y σ b) (σ b 4 + 1) → K (some (iV 0)) σ) : ∀ (k : Nat) (i : Int), 0 ≤ i → i + k = σ v 3 → (∀ j, 0 ≤ j → j < i → q_side (q_X σ b) (q_Y σ b) (σ b 4 + 1) (σ (v + 1) j) (σ (v + 2) j) = σ (v + 3) j) → mj_Wm i_Sights_fit (n + 4) K 2 [some (rV 6 0 v), some (rV 1 0 b), some (iV i)] [] σ := by
  intro k
  induction k with
  | zero =>
    intro i g0 g1 hi
    refine r_Sights_fit [(2, [true, true, true])] 600 ?_
    repeat' (first | (refine mj_ite (fun h => ?_) (fun h => ?_) <;> first | (exfalso; omega) | skip) | refine mj_vci (by first | omega | (simp (disch := omega) only [up_ne, up_at, q_up_at, q_up_ne, cp_ne]; omega)) ?_)
    exact h1 (fun j a1 a2 => hi j a1 (by omega))
  | succ k ih =>
    intro i g0 g1 hi
    have x0 := hx i
    have y0 := hy i
    have hno : ¬ q_side (q_X σ b) (q_Y σ b) (σ b 4 + 1) (σ (v + 1) i) (σ (v + 2) i) = σ (v + 3) i → K (some (iV 0)) σ := fun q => h0 (fun w9 => q (w9 i g0 (by omega)))
    have hyes : q_side (q_X σ b) (q_Y σ b) (σ b 4 + 1) (σ (v + 1) i) (σ (v + 2) i) = σ (v + 3) i → mj_Wm i_Sights_fit (n + 4) K 2 [some (rV 6 0 v), some (rV 1 0 b), some (iV (i + 1))] [] σ := by
      intro q
      refine ih (i + 1) (by omega) (by omega) (fun j a1 a2 => ?_)
      by_cases e : j = i
      · rw [e]; exact q
      · exact hi j a1 (by omega)
    refine r_Sights_fit [(2, [true, true, true])] 600 ?_
    repeat' (first | (refine mj_ite (fun h => ?_) (fun h => ?_) <;> first | (exfalso; omega) | skip) | refine mj_vci (by first | omega | (simp (disch := omega) only [up_ne, up_at, q_up_at, q_up_ne, cp_ne]; omega)) ?_)
    refine c_Border_sideOf hB (by omega) (by omega) ?_
    generalize q_side (q_X σ b) (q_Y σ b) (σ b 4 + 1) (σ (v + 1) i) (σ (v + 2) i) = s at hno hyes
    repeat' (first | (refine mj_ite (fun h => ?_) (fun h => ?_) <;> first | (exfalso; omega) | skip) | refine mj_vci (by first | omega | (simp (disch := omega) only [up_ne, up_at, q_up_at, q_up_ne, cp_ne]; omega)) ?_)
    · exact hyes (by assumption)
    · exact hno (by assumption)
theorem c_Sights_fit (hB : q_gB σ b) (hc : 0 ≤ σ v 3 ∧ σ v 3 ≤ 8) (hx : ∀ i, 0 ≤ σ (v + 1) i ∧ σ (v + 1) i ≤ 40) (hy : ∀ i, 0 ≤ σ (v + 2) i ∧ σ (v + 2) i ≤ 40) (h1 : q_seen (σ v 3) (σ (v + 1)) (σ (v + 2)) (σ (v + 3)) (q_X σ b) (q_Y σ b) (σ b 4 + 1) → K (some (iV 1)) σ) (h0 : ¬ q_seen (σ v 3) (σ (v + 1)) (σ (v + 2)) (σ (v + 3)) (q_X σ b) (q_Y σ b) (σ b 4 + 1) → K (some (iV 0)) σ) : mj_Ok (n + 4) i_Sights_fit [rV 6 0 v, rV 1 0 b] σ K := by
  refine mj_enter (by decide) (Nat.le_of_ble_eq_true rfl) (fun hg => ?_)
  refine r_Sights_fit [(2, [true, true, true])] 600 ?_
  exact l_Sights_fit hB hc hx hy h1 h0 (σ v 3).toNat 0 (by omega) (by omega) (fun j a1 a2 => by omega)
/-! the pad -/
theorem c_Pad_add (hc : 0 ≤ σ v 1 ∧ σ v 1 ≤ 59) (hK : ∀ σ' : mj_W, σ' (v + 1) = q_up (σ (v + 1)) (σ v 1) x → σ' v = q_up (σ v) 1 (σ v 1 + 1) → (∀ o, o ≠ v → o ≠ v + 1 → σ' o = σ o) → K none σ') : mj_Ok (n + 1) i_Pad_add [rV 5 0 v, iV x] σ K := by
  refine mj_enter (by decide) (Nat.le_of_ble_eq_true rfl) (fun hg => ?_)
  refine r_Pad_add [] 600 ?_
  repeat' (first | (refine mj_ite (fun h => ?_) (fun h => ?_) <;> first | (exfalso; omega) | skip) | refine mj_vci (by first | omega | (simp (disch := omega) only [up_ne, up_at, q_up_at, q_up_ne, cp_ne]; omega)) ?_)
  refine hK _ ?_ ?_ ?_
  · simp (disch := omega) only [up_ne, up_at]
  · simp (disch := omega) only [up_ne, up_at]
  · intro o g1 g2
    simp (disch := omega) only [up_ne]
theorem c_Pad_signAt (hc : 0 ≤ σ v 1 ∧ σ v 1 ≤ 60) (hK : ∀ r, r = (if 0 ≤ i ∧ i < σ v 1 then σ (v + 1) i else 0) → K (some (iV r)) σ) : mj_Ok (n + 1) i_Pad_signAt [rV 5 0 v, iV i] σ K := by
  refine mj_enter (by decide) (Nat.le_of_ble_eq_true rfl) (fun hg => ?_)
  refine r_Pad_signAt [] 600 ?_
  repeat' (first | (refine mj_ite (fun h => ?_) (fun h => ?_) <;> first | (exfalso; omega) | skip) | refine mj_vci (by first | omega | (simp (disch := omega) only [up_ne, up_at, q_up_at, q_up_ne, cp_ne]; omega)) ?_)
  all_goals first
    | (rw [if_pos (by omega)] at hK; exact hK _ rfl)
    | (rw [if_neg (by omega)] at hK; exact hK _ rfl)
abbrev q_let (c : Int) : Prop := 65 ≤ c ∧ c ≤ 72
def q_dir (c : Int) : Int := if c = 101 then 1 else if c = 110 then 0 else if c = 115 then 2 else if c = 119 then 3 else -6
/-- what must come next (0 an act, 1 a deed, 2 a digit, 3 an heir), 4: the sign can not stand there -/
def q_due (d c : Int) : Int :=
  if d = 0 then (if c = 46 then 0 else if q_let c then 1 else 4)
  else if d = 1 then (if c = 120 then 0 else if c = 62 then 3 else if q_dir c ≠ -6 then 2 else 4)
  else if d = 2 then (if 49 ≤ c ∧ c ≤ 57 then 0 else 4) else (if q_let c then 0 else 4)
theorem c_Pad_isLetter (hc : 0 ≤ c ∧ c ≤ 200) (h1 : q_let c → K (some (iV 1)) σ) (h0 : ¬ q_let c → K (some (iV 0)) σ) : mj_Ok (n + 2) i_Pad_isLetter [iV c] σ K := by
  refine mj_enter (by decide) (Nat.le_of_ble_eq_true rfl) (fun hg => ?_)
  refine r_Pad_isLetter [] 600 ?_
  repeat' (first | (refine mj_ite (fun h => ?_) (fun h => ?_) <;> first | (exfalso; omega) | skip) | refine mj_vci (by first | omega | (simp (disch := omega) only [up_ne, up_at, q_up_at, q_up_ne, cp_ne]; omega)) ?_)
  refine c_S_isPerson (fun a1 a2 => ?_) (fun a0 => ?_)
  · repeat' (first | (refine mj_ite (fun h => ?_) (fun h => ?_) <;> first | (exfalso; omega) | skip) | refine mj_vci (by first | omega | (simp (disch := omega) only [up_ne, up_at, q_up_at, q_up_ne, cp_ne]; omega)) ?_)
    exact h1 (by omega)
  · repeat' (first | (refine mj_ite (fun h => ?_) (fun h => ?_) <;> first | (exfalso; omega) | skip) | refine mj_vci (by first | omega | (simp (disch := omega) only [up_ne, up_at, q_up_at, q_up_ne, cp_ne]; omega)) ?_)
    exact h0 (by omega)
theorem c_Pad_directionOf (hK : ∀ r, r = q_dir c → K (some (iV r)) σ) : mj_Ok (n + 1) i_Pad_directionOf [iV c] σ K := by
  unfold q_dir at hK
  refine mj_enter (by decide) (Nat.le_of_ble_eq_true rfl) (fun hg => ?_)
  refine r_Pad_directionOf [] 600 ?_
  repeat' (first | (refine mj_ite (fun h => ?_) (fun h => ?_) <;> first | (exfalso; omega) | skip) | refine mj_vci (by first | omega | (simp (disch := omega) only [up_ne, up_at, q_up_at, q_up_ne, cp_ne]; omega)) ?_)
  all_goals (refine hK _ ?_; simp [*])
theorem c_Pad_dueBehind (hc : 0 ≤ c ∧ c ≤ 200) (hK : ∀ r, r = q_due d c → K (some (iV r)) σ) : mj_Ok (n + 3) i_Pad_dueBehind [iV d, iV c] σ K := by
  unfold q_due at hK
  have fin : ∀ r : Int, (r = if d = 0 then (if c = 46 then 0 else if q_let c then 1 else 4) else if d = 1 then (if c = 120 then 0 else if c = 62 then 3 else if q_dir c ≠ -6 then 2 else 4) else if d = 2 then (if 49 ≤ c ∧ c ≤ 57 then 0 else 4) else (if q_let c then 0 else 4)) → K (some (iV r)) σ := hK
  refine mj_enter (by decide) (Nat.le_of_ble_eq_true rfl) (fun hg => ?_)
  refine r_Pad_dueBehind [] 600 ?_
  repeat' (first | (refine mj_ite (fun h => ?_) (fun h => ?_) <;> first | (exfalso; omega) | skip) | refine mj_vci (by first | omega | (simp (disch := omega) only [up_ne, up_at, q_up_at, q_up_ne, cp_ne]; omega)) ?_)
  · refine fin _ ?_; (repeat' split) <;> omega
  · refine c_Pad_isLetter hc (fun a1 => ?_) (fun a1 => ?_)
    · repeat' (first | (refine mj_ite (fun h => ?_) (fun h => ?_) <;> first | (exfalso; omega) | skip) | refine mj_vci (by first | omega | (simp (disch := omega) only [up_ne, up_at, q_up_at, q_up_ne, cp_ne]; omega)) ?_)
      refine fin _ ?_; (repeat' split) <;> omega
    · repeat' (first | (refine mj_ite (fun h => ?_) (fun h => ?_) <;> first | (exfalso; omega) | skip) | refine mj_vci (by first | omega | (simp (disch := omega) only [up_ne, up_at, q_up_at, q_up_ne, cp_ne]; omega)) ?_)
      refine fin _ ?_; (repeat' split) <;> omega
  · refine fin _ ?_; (repeat' split) <;> omega
  · refine fin _ ?_; (repeat' split) <;> omega
  · refine c_Pad_directionOf (fun r9 e9 => ?_)
    rw [← e9] at fin
    repeat' (first | (refine mj_ite (fun h => ?_) (fun h => ?_) <;> first | (exfalso; omega) | skip) | refine mj_vci (by first | omega | (simp (disch := omega) only [up_ne, up_at, q_up_at, q_up_ne, cp_ne]; omega)) ?_)
    · refine fin _ ?_; (repeat' split) <;> omega
    · refine fin _ ?_; (repeat' split) <;> omega
  · refine fin _ ?_; (repeat' split) <;> omega
  · refine fin _ ?_; (repeat' split) <;> omega
  · refine fin _ ?_; (repeat' split) <;> omega
  · refine c_Pad_isLetter hc (fun a1 => ?_) (fun a1 => ?_)
    · repeat' (first | (refine mj_ite (fun h => ?_) (fun h => ?_) <;> first | (exfalso; omega) | skip) | refine mj_vci (by first | omega | (simp (disch := omega) only [up_ne, up_at, q_up_at, q_up_ne, cp_ne]; omega)) ?_)
      refine fin _ ?_; (repeat' split) <;> omega
    · repeat' (first | (refine mj_ite (fun h => ?_) (fun h => ?_) <;> first | (exfalso; omega) | skip) | refine mj_vci (by first | omega | (simp (disch := omega) only [up_ne, up_at, q_up_at, q_up_ne, cp_ne]; omega)) ?_)
      refine fin _ ?_; (repeat' split) <;> omega
def q_faultF (sg : Int → Int) (L : Int) : Int → Int → Nat → Int
  | d, _, 0 => if d = 0 then -6 else L
  | d, i, k + 1 => if q_due d (sg i) = 4 then i else q_faultF sg L (q_due d (sg i)) (i + 1) k
def q_fault (sg : Int → Int) (L : Int) : Int := q_faultF sg L 0 0 L.toNat
theorem l_Pad_firstFault (hc : 0 ≤ σ v 1 ∧ σ v 1 ≤ 60) (hs : ∀ i, 0 ≤ σ (v + 1) i ∧ σ (v + 1) i ≤ 200) : ∀ (k : Nat) (i d : Int), 0 ≤ i → i + k = σ v 1 → (∀ r, r = q_faultF (σ (v + 1)) (σ v 1) d i k → K (some (iV r)) σ) → mj_Wm i_Pad_firstFault (n + 4) K 4 [some (rV 5 0 v), some (iV d), some (iV i)] [] σ := by
  intro k
  induction k with
  | zero =>
    intro i d h0 h1 hK
    unfold q_faultF at hK
    refine r_Pad_firstFault [(4, [true, true, true])] 600 ?_
    repeat' (first | (refine mj_ite (fun h => ?_) (fun h => ?_) <;> first | (exfalso; omega) | skip) | refine mj_vci (by first | omega | (simp (disch := omega) only [up_ne, up_at, q_up_at, q_up_ne, cp_ne]; omega)) ?_)
    · rw [if_pos (by assumption)] at hK; exact hK _ rfl
    · rw [if_neg (by assumption)] at hK; exact hK _ rfl
  | succ k ih =>
    intro i d h0 h1 hK
    unfold q_faultF at hK
    refine r_Pad_firstFault [(4, [true, true, true])] 600 ?_
    repeat' (first | (refine mj_ite (fun h => ?_) (fun h => ?_) <;> first | (exfalso; omega) | skip) | refine mj_vci (by first | omega | (simp (disch := omega) only [up_ne, up_at, q_up_at, q_up_ne, cp_ne]; omega)) ?_)
    refine c_Pad_dueBehind (hs i) (fun r e => ?_)
    rw [← e] at hK
    repeat' (first | (refine mj_ite (fun h => ?_) (fun h => ?_) <;> first | (exfalso; omega) | skip) | refine mj_vci (by first | omega | (simp (disch := omega) only [up_ne, up_at, q_up_at, q_up_ne, cp_ne]; omega)) ?_)
    · rw [if_pos (by assumption)] at hK; exact hK _ rfl
    · rw [if_neg (by assumption)] at hK; exact ih (i + 1) r (by omega) (by omega) hK
theorem c_Pad_firstFault (hc : 0 ≤ σ v 1 ∧ σ v 1 ≤ 60) (hs : ∀ i, 0 ≤ σ (v + 1) i ∧ σ (v + 1) i ≤ 200) (hK : ∀ r, r = q_fault (σ (v + 1)) (σ v 1) → K (some (iV r)) σ) : mj_Ok (n + 4) i_Pad_firstFault [rV 5 0 v] σ K := by
  refine mj_enter (by decide) (Nat.le_of_ble_eq_true rfl) (fun hg => ?_)
  refine r_Pad_firstFault [(4, [true, true, true])] 600 ?_
  exact l_Pad_firstFault hc hs (σ v 1).toNat 0 0 (by omega) (by omega) hK
end B7
