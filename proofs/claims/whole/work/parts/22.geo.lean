/-! geometry: what is pure -/
def q_sg (v : Int) : Int := if v < 0 then -1 else if v = 0 then 0 else 1
def q_on (X Y : Int → Int) (i c : Int) : Bool := decide (q_pc (X i) (Y i) (X (i + 1)) (Y (i + 1)) (X c) (Y c) = 2)
def q_tn (X Y : Int → Int) (i c : Int) : Int := q_sg (q_turn (X i) (Y i) (X (i + 1)) (Y (i + 1)) (X c) (Y c))
def q_pt (X Y : Int → Int) (i j : Int) : Bool := decide (q_tn X Y i j * q_tn X Y i (j + 1) < 0)
def q_cm (X Y : Int → Int) (i j : Int) : Bool := q_on X Y i j || (q_on X Y i (j + 1) || (q_on X Y j i || (q_on X Y j (i + 1) || (q_pt X Y i j && q_pt X Y j i))))
def q_fb (X Y : Int → Int) (k : Int) : Bool := decide ((X k - X (k + 1)) * (Y (k + 2) - Y (k + 1)) = (Y k - Y (k + 1)) * (X (k + 2) - X (k + 1)) ∧ 0 < (X k - X (k + 1)) * (X (k + 2) - X (k + 1)) + (Y k - Y (k + 1)) * (Y (k + 2) - Y (k + 1)))
def q_mt (X Y : Int → Int) (a b : Int) : Bool := if b = a + 1 then q_fb X Y a else q_cm X Y a b
def q_pinI (X Y : Int → Int) (a : Int) : Int → Nat → Int
  | _, 0 => -6
  | b, k + 1 => if q_mt X Y a b = true then 10 * a + b else q_pinI X Y a (b + 1) k
def q_pinO (X Y : Int → Int) (m : Int) : Int → Nat → Int
  | _, 0 => -6
  | a, k + 1 => if q_pinI X Y a (a + 1) (m - (a + 1)).toNat = -6 then q_pinO X Y m (a + 1) k else q_pinI X Y a (a + 1) (m - (a + 1)).toNat
/-- of m pieces -/
def q_pinch (X Y : Int → Int) (m : Int) : Int := q_pinO X Y m 0 (m - 1).toNat
theorem q_sg_in (v : Int) : -1 ≤ q_sg v ∧ q_sg v ≤ 1 := by
  unfold q_sg; split; · omega
  · split <;> omega
theorem q_xor01 {x y : Int} (hx : x = 0 ∨ x = 1) (hy : y = 0 ∨ y = 1) : mj_xor x y = (x + y) % 2 := by
  rcases hx with rfl | rfl <;> rcases hy with rfl | rfl <;> decide +kernel
abbrev q_X (σ : mj_W) (b : Nat) : Int → Int := q_cx (σ b 4) (σ (b + 4)) (σ (b + 1))
abbrev q_Y (σ : mj_W) (b : Nat) : Int → Int := q_cy (σ b 4) (σ b 5) (σ b 6) (σ (b + 4)) (σ (b + 2))
/-- what the geometry of a border needs -/
def q_gB (σ : mj_W) (b : Nat) : Prop := (0 ≤ σ b 4 ∧ σ b 4 ≤ 8) ∧ (∀ i, 0 ≤ σ (b + 4) i ∧ σ (b + 4) i ≤ 7) ∧ (∀ i, 0 ≤ σ (b + 1) i ∧ σ (b + 1) i ≤ 40) ∧ (∀ i, 0 ≤ σ (b + 2) i ∧ σ (b + 2) i ≤ 40) ∧ (0 ≤ σ b 5 ∧ σ b 5 ≤ 40) ∧ (0 ≤ σ b 6 ∧ σ b 6 ≤ 40)
theorem q_gB.X {σ : mj_W} {b : Nat} (h : q_gB σ b) (c : Int) : -1 ≤ (q_cx (σ b 4) (σ (b + 4)) (σ (b + 1)) (c)) ∧ (q_cx (σ b 4) (σ (b + 4)) (σ (b + 1)) (c)) ≤ 41 := by
  have := h.2.2.1 (σ (b + 4) (c - 1))
  unfold q_cx
  split; · omega
  · split <;> omega
theorem q_gB.Y {σ : mj_W} {b : Nat} (h : q_gB σ b) (c : Int) : 0 ≤ (q_cy (σ b 4) (σ b 5) (σ b 6) (σ (b + 4)) (σ (b + 2)) (c)) ∧ (q_cy (σ b 4) (σ b 5) (σ b 6) (σ (b + 4)) (σ (b + 2)) (c)) ≤ 40 := by
  have := h.2.2.2.1 (σ (b + 4) (c - 1))
  have h5 := h.2.2.2.2.1
  have h6 := h.2.2.2.2.2
  unfold q_cy
  split; · omega
  · split <;> omega
/-! geometry of the class -/
section B2
variable {n b : Nat} {σ : mj_W} {K : Option mj_V → mj_W → Prop} {x y p w : Int}
theorem c_Border_joinSides (ha : x = 0 ∨ x = 1 ∨ x = 2) (hb : y = 0 ∨ y = 1 ∨ y = 2) (hK : K (some (iV (if x = 2 ∨ y = 2 then 2 else (x + y) % 2))) σ) : mj_Ok (n + 1) i_Border_joinSides [iV x, iV y] σ K := by
  refine mj_enter (by decide) (Nat.le_of_ble_eq_true rfl) (fun hg => ?_)
  refine r_Border_joinSides [] 600 ?_
  repeat' (first | (refine mj_ite (fun h => ?_) (fun h => ?_) <;> first | (exfalso; omega) | skip) | refine mj_vci (by first | omega | (simp (disch := omega) only [up_ne, up_at, q_up_at, q_up_ne, cp_ne]; omega)) ?_)
  · rw [if_pos (by omega)] at hK; exact hK
  · rw [if_pos (by omega)] at hK; exact hK
  · rw [if_neg (by omega), ← q_xor01 (by omega) (by omega)] at hK; exact hK
/-- v lies on one side of both a and b: the product of the differences is more than 0 -/
theorem q_bt (v a b : Int) : 0 < (v - a) * (v - b) ↔ (v < a ∧ v < b) ∨ (a < v ∧ b < v) := by
  constructor
  · intro h
    rcases Int.lt_trichotomy v a with h1 | h1 | h1
    · rcases Int.lt_or_le v b with h2 | h2
      · exact Or.inl ⟨h1, h2⟩
      · have := Int.mul_nonneg (a := a - v) (b := v - b) (by omega) (by omega)
        rw [show a - v = -(v - a) by omega, Int.neg_mul] at this
        omega
    · rw [h1, Int.sub_self, Int.zero_mul] at h; omega
    · rcases Int.lt_or_le b v with h2 | h2
      · exact Or.inr ⟨h1, h2⟩
      · have := Int.mul_nonneg (a := v - a) (b := b - v) (by omega) (by omega)
        rw [show b - v = -(v - b) by omega, Int.mul_neg] at this
        omega
  · rintro (⟨h1, h2⟩ | ⟨h1, h2⟩)
    · have := Int.mul_pos (a := a - v) (b := b - v) (by omega) (by omega)
      rw [show a - v = -(v - a) by omega, show b - v = -(v - b) by omega, Int.neg_mul_neg] at this
      exact this
    · exact Int.mul_pos (by omega) (by omega)
theorem c_Border_sideOfPiece {ax ay bx by' : Int} (h1 : -1 ≤ ax ∧ ax ≤ 41) (h2 : 0 ≤ ay ∧ ay ≤ 40) (h3 : -1 ≤ bx ∧ bx ≤ 41) (h4 : 0 ≤ by' ∧ by' ≤ 40) (h5 : -1 ≤ x ∧ x ≤ 41) (h6 : 0 ≤ y ∧ y ≤ 40) (hK0 : ∀ r, r = q_pc ax ay bx by' x y → K (some (iV r)) σ) : mj_Ok (n + 1) i_Border_sideOfPiece [iV ax, iV ay, iV bx, iV by', iV x, iV y] σ K := by
  refine mj_enter (by decide) (Nat.le_of_ble_eq_true rfl) (fun hg => ?_)
  have m1 := q_mulb (a := bx - ax) (b := y - ay) (A := 42) (B := 40) (by omega) (by omega)
  have m2 := q_mulb (a := by' - ay) (b := x - ax) (A := 40) (B := 42) (by omega) (by omega)
  have m3 := q_mulb (a := x - ax) (b := x - bx) (A := 42) (B := 42) (by omega) (by omega)
  have m4 := q_mulb (a := y - ay) (b := y - by') (A := 40) (B := 40) (by omega) (by omega)
  have b3 := q_bt x ax bx
  have b4 := q_bt y ay by'
  have hK := hK0 _ rfl
  unfold q_pc q_turn at hK
  refine r_Border_sideOfPiece [] 600 ?_
  repeat' (first | (refine mj_ite (fun h => ?_) (fun h => ?_) <;> first | (exfalso; omega) | skip) | refine mj_vci (by first | omega | (simp (disch := omega) only [up_ne, up_at, q_up_at, q_up_ne, cp_ne]; omega)) ?_)
  all_goals first
    | (rw [if_pos (by omega)] at hK; exact hK)
    | (rw [if_neg (by omega), if_pos (by omega)] at hK; exact hK)
    | (rw [if_neg (by omega), if_neg (by omega)] at hK; exact hK)
theorem l_Border_sideAmong {fr en : Int} (hB : q_gB σ b) (h5 : -1 ≤ x ∧ x ≤ 41) (h6 : 0 ≤ y ∧ y ≤ 40) (hen : en ≤ 100) :
    ∀ (k : Nat) (i a : Int), 0 ≤ i → (en - i).toNat = k → (a = 0 ∨ a = 1) → K (some (iV (q_sideF (q_X σ b) (q_Y σ b) x y i k a))) σ → mj_Wm i_Border_sideAmong (n + 2) K 20 [some (rV 1 0 b), some (iV x), some (iV y), some (iV fr), some (iV en), some (iV a), some (iV (q_X σ b i)), some (iV (q_Y σ b i)), some (iV i), none, none, none] [] σ := by
  intro k
  induction k with
  | zero =>
    intro i a h0 h1 ha hK
    refine r_Border_sideAmong [(20, [true, true, true, true, true, true, true, true, true, false, false, false])] 600 ?_
    repeat' (first | (refine mj_ite (fun h => ?_) (fun h => ?_) <;> first | (exfalso; omega) | skip) | refine mj_vci (by first | omega | (simp (disch := omega) only [up_ne, up_at, q_up_at, q_up_ne, cp_ne]; omega)) ?_)
    exact hK
  | succ k ih =>
    intro i a h0 h1 ha hK
    unfold q_sideF at hK
    have hp := q_pc_in (q_cx (σ b 4) (σ (b + 4)) (σ (b + 1)) (i)) (q_cy (σ b 4) (σ b 5) (σ b 6) (σ (b + 4)) (σ (b + 2)) (i)) (q_cx (σ b 4) (σ (b + 4)) (σ (b + 1)) (i + 1)) (q_cy (σ b 4) (σ b 5) (σ b 6) (σ (b + 4)) (σ (b + 2)) (i + 1)) x y
    refine r_Border_sideAmong [(20, [true, true, true, true, true, true, true, true, true, false, false, false])] 600 ?_
    repeat' (first | (refine mj_ite (fun h => ?_) (fun h => ?_) <;> first | (exfalso; omega) | skip) | refine mj_vci (by first | omega | (simp (disch := omega) only [up_ne, up_at, q_up_at, q_up_ne, cp_ne]; omega)) ?_)
    refine c_Border_cornerX hB.1 hB.2.1 ?_
    repeat' (first | (refine mj_ite (fun h => ?_) (fun h => ?_) <;> first | (exfalso; omega) | skip) | refine mj_vci (by first | omega | (simp (disch := omega) only [up_ne, up_at, q_up_at, q_up_ne, cp_ne]; omega)) ?_)
    refine c_Border_cornerY hB.1 hB.2.1 ?_
    refine c_Border_sideOfPiece (hB.X i) (hB.Y i) (hB.X (i + 1)) (hB.Y (i + 1)) h5 h6 (fun r hr => ?_)
    rw [← hr] at hp hK
    repeat' (first | (refine mj_ite (fun h => ?_) (fun h => ?_) <;> first | (exfalso; omega) | skip) | refine mj_vci (by first | omega | (simp (disch := omega) only [up_ne, up_at, q_up_at, q_up_ne, cp_ne]; omega)) ?_)
    · rw [if_pos (by assumption)] at hK; exact hK
    · rw [if_neg (by assumption)] at hK
      rw [← q_xor01 ha (by omega)] at hK
      refine ih (i + 1) _ (by omega) (by omega) ?_ hK
      rw [q_xor01 ha (by omega)]
      omega
theorem c_Border_sideAmong {fr en : Int} (hB : q_gB σ b) (h5 : -1 ≤ x ∧ x ≤ 41) (h6 : 0 ≤ y ∧ y ≤ 40) (hfr : 0 ≤ fr) (hen : en ≤ 100) (hK : K (some (iV (q_sideF (q_X σ b) (q_Y σ b) x y fr (en - fr).toNat 0))) σ) : mj_Ok (n + 2) i_Border_sideAmong [rV 1 0 b, iV x, iV y, iV fr, iV en] σ K := by
  refine mj_enter (by decide) (Nat.le_of_ble_eq_true rfl) (fun hg => ?_)
  refine r_Border_sideAmong [(20, [true, true, true, true, true, true, true, true, true, false, false, false])] 600 ?_
  refine c_Border_cornerX hB.1 hB.2.1 ?_
  refine c_Border_cornerY hB.1 hB.2.1 ?_
  exact l_Border_sideAmong hB h5 h6 hen _ fr 0 hfr rfl (by omega) hK
theorem c_Border_sideOf (hB : q_gB σ b) (h5 : -1 ≤ x ∧ x ≤ 41) (h6 : 0 ≤ y ∧ y ≤ 40) (hK : K (some (iV (q_side (q_X σ b) (q_Y σ b) (σ b 4 + 1) x y))) σ) : mj_Ok (n + 3) i_Border_sideOf [rV 1 0 b, iV x, iV y] σ K := by
  have hc := hB.1
  refine mj_enter (by decide) (Nat.le_of_ble_eq_true rfl) (fun hg => ?_)
  refine r_Border_sideOf [] 600 ?_
  refine c_Border_pieces hB.1 ?_
  refine c_Border_sideAmong hB h5 h6 (by omega) (by omega) ?_
  unfold q_side at hK
  rw [show σ b 4 + 1 - 0 = σ b 4 + 1 by omega]
  exact hK
theorem l_Border_twiceSouth (hB : q_gB σ b) :
    ∀ (k : Nat) (i a : Int), 0 ≤ i → i + k = σ b 4 + 1 → (-4000 * i ≤ a ∧ a ≤ 4000 * i) → K (some (iV (q_southF (q_X σ b) (q_Y σ b) i k a))) σ → mj_Wm i_Border_twiceSouth (n + 2) K 4 [some (rV 1 0 b), some (iV a), some (iV i)] [] σ := by
  have hc := hB.1
  intro k
  induction k with
  | zero =>
    intro i a h0 h1 ha hK
    refine r_Border_twiceSouth [(4, [true, true, true])] 600 ?_
    repeat' (first | (refine mj_ite (fun h => ?_) (fun h => ?_) <;> first | (exfalso; omega) | skip) | refine mj_vci (by first | omega | (simp (disch := omega) only [up_ne, up_at, q_up_at, q_up_ne, cp_ne]; omega)) ?_)
    exact hK
  | succ k ih =>
    intro i a h0 h1 ha hK
    unfold q_southF at hK
    have x0 := hB.X i
    have x1 := hB.X (i + 1)
    have y0 := hB.Y i
    have y1 := hB.Y (i + 1)
    have m1 := q_mulb (a := (q_cx (σ b 4) (σ (b + 4)) (σ (b + 1)) (i + 1)) - (q_cx (σ b 4) (σ (b + 4)) (σ (b + 1)) (i))) (b := (q_cy (σ b 4) (σ b 5) (σ b 6) (σ (b + 4)) (σ (b + 2)) (i)) + (q_cy (σ b 4) (σ b 5) (σ b 6) (σ (b + 4)) (σ (b + 2)) (i + 1))) (A := 42) (B := 80) (by omega) (by omega)
    refine r_Border_twiceSouth [(4, [true, true, true])] 600 ?_
    repeat' (first | (refine mj_ite (fun h => ?_) (fun h => ?_) <;> first | (exfalso; omega) | skip) | refine mj_vci (by first | omega | (simp (disch := omega) only [up_ne, up_at, q_up_at, q_up_ne, cp_ne]; omega)) ?_)
    refine c_Border_cornerX hB.1 hB.2.1 ?_
    refine c_Border_cornerX hB.1 hB.2.1 ?_
    repeat' (first | (refine mj_ite (fun h => ?_) (fun h => ?_) <;> first | (exfalso; omega) | skip) | refine mj_vci (by first | omega | (simp (disch := omega) only [up_ne, up_at, q_up_at, q_up_ne, cp_ne]; omega)) ?_)
    refine c_Border_cornerY hB.1 hB.2.1 ?_
    repeat' (first | (refine mj_ite (fun h => ?_) (fun h => ?_) <;> first | (exfalso; omega) | skip) | refine mj_vci (by first | omega | (simp (disch := omega) only [up_ne, up_at, q_up_at, q_up_ne, cp_ne]; omega)) ?_)
    refine c_Border_cornerY hB.1 hB.2.1 ?_
    repeat' (first | (refine mj_ite (fun h => ?_) (fun h => ?_) <;> first | (exfalso; omega) | skip) | refine mj_vci (by first | omega | (simp (disch := omega) only [up_ne, up_at, q_up_at, q_up_ne, cp_ne]; omega)) ?_)
    exact ih (i + 1) _ (by omega) (by omega) (by omega) hK
theorem c_Border_twiceSouth (hB : q_gB σ b) (hK : K (some (iV (q_south (q_X σ b) (q_Y σ b) (σ b 4 + 1)))) σ) : mj_Ok (n + 2) i_Border_twiceSouth [rV 1 0 b] σ K := by
  have hc := hB.1
  refine mj_enter (by decide) (Nat.le_of_ble_eq_true rfl) (fun hg => ?_)
  refine r_Border_twiceSouth [(4, [true, true, true])] 600 ?_
  exact l_Border_twiceSouth hB (σ b 4 + 1).toNat 0 0 (by omega) (by omega) (by omega) hK
end B2
