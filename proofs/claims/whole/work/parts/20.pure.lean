/-! numbers and worlds: what the contracts speak of -/
def q_up (f : Int → Int) (i v : Int) : Int → Int := fun j => if j = i then v else f j
theorem q_up_at (f : Int → Int) (i v : Int) : q_up f i v i = v := if_pos rfl
theorem q_up_ne (f : Int → Int) {i j : Int} (v : Int) (h : j ≠ i) : q_up f i v j = f j := if_neg h
theorem up_at (σ : mj_W) (o : Nat) (i v : Int) : mj_up σ o i v o = q_up (σ o) i v := by
  funext j
  unfold mj_up q_up
  by_cases h : j = i
  · rw [if_pos ⟨rfl, h⟩, if_pos h]
  · rw [if_neg (fun q => h q.2), if_neg h]
theorem up_ne (σ : mj_W) {o o' : Nat} (i v : Int) (h : o' ≠ o) : mj_up σ o i v o' = σ o' := by
  funext j
  unfold mj_up
  rw [if_neg (fun q => h q.1)]
theorem cp_ne (σ : mj_W) (a : Nat) {b o' : Nat} (n : Int) (h : o' ≠ b) : mj_cp σ a b n o' = σ o' := by
  funext j
  unfold mj_cp
  rw [if_neg (fun q => h q.1)]
/-- copying a whole cell of ints -/
theorem cp_at {σ : mj_W} (hg : mj_rg σ) {a b : Nat} {n : Int} (ha : (mj_ln a : Int) ≤ n) (hb : (mj_ln b : Int) ≤ n) : mj_cp σ a b n b = σ a := by
  funext j
  unfold mj_cp
  by_cases h : 0 ≤ j ∧ j < n
  · rw [if_pos ⟨rfl, h⟩]
  · rw [if_neg (fun q => h q.2), mj_rg_z hg b j (by omega), mj_rg_z hg a j (by omega)]
/-! rows -/
def q_fndF (row : Int → Int) (p : Int) : Int → Nat → Int
  | _, 0 => -6
  | i, k + 1 => if row i = p then i else q_fndF row p (i + 1) k
def q_fnd (row : Int → Int) (n p : Int) : Int := q_fndF row p 0 n.toNat
theorem q_fndF_or (row : Int → Int) (p : Int) : ∀ (k : Nat) (i : Int), (q_fndF row p i k = -6 ∧ ∀ j, i ≤ j → j < i + k → row j ≠ p) ∨ (i ≤ q_fndF row p i k ∧ q_fndF row p i k < i + k ∧ row (q_fndF row p i k) = p ∧ ∀ j, i ≤ j → j < q_fndF row p i k → row j ≠ p)
  | 0, i => Or.inl ⟨rfl, fun j h1 h2 => by omega⟩
  | k + 1, i => by
    unfold q_fndF
    by_cases h : row i = p
    · rw [if_pos h]
      exact Or.inr ⟨by omega, by omega, h, fun j h1 h2 => by omega⟩
    · rw [if_neg h]
      rcases q_fndF_or row p k (i + 1) with ⟨h1, h2⟩ | ⟨h1, h2, h3, h4⟩
      · refine Or.inl ⟨h1, fun j g1 g2 => ?_⟩
        by_cases e : j = i
        · rw [e]; exact h
        · exact h2 j (by omega) (by omega)
      · refine Or.inr ⟨by omega, by omega, h3, fun j g1 g2 => ?_⟩
        by_cases e : j = i
        · rw [e]; exact h
        · exact h4 j (by omega) g2
theorem q_fnd_or (row : Int → Int) {n : Int} (hn : 0 ≤ n) (p : Int) : (q_fnd row n p = -6 ∧ ∀ j, 0 ≤ j → j < n → row j ≠ p) ∨ (0 ≤ q_fnd row n p ∧ q_fnd row n p < n ∧ row (q_fnd row n p) = p) := by
  unfold q_fnd
  rcases q_fndF_or row p n.toNat 0 with ⟨h1, h2⟩ | ⟨h1, h2, h3, -⟩
  · exact Or.inl ⟨h1, fun j g1 g2 => h2 j g1 (by omega)⟩
  · exact Or.inr ⟨h1, by omega, h3⟩
def q_dist (row : Int → Int) (n : Int) : Prop := ∀ i j, 0 ≤ i → i < n → 0 ≤ j → j < n → row i = row j → i = j
theorem q_fnd_of {row : Int → Int} {n : Int} (hd : q_dist row n) {i : Int} (h0 : 0 ≤ i) (h1 : i < n) : q_fnd row n (row i) = i := by
  rcases q_fnd_or row (n := n) (by omega) (row i) with ⟨-, h⟩ | ⟨g1, g2, g3⟩
  · exact absurd rfl (h i h0 h1)
  · exact hd _ _ g1 g2 h0 h1 g3
theorem q_fnd_no {row : Int → Int} {n p : Int} (hn : 0 ≤ n) (h : ∀ j, 0 ≤ j → j < n → row j ≠ p) : q_fnd row n p = -6 := by
  rcases q_fnd_or row hn p with ⟨h1, -⟩ | ⟨g1, g2, g3⟩
  · exact h1
  · exact absurd g3 (h _ g1 g2)
/-! corners: the line through a row -/
def q_cx (n : Int) (row xs : Int → Int) (c : Int) : Int := if c ≤ 0 then -1 else if n < c then 41 else xs (row (c - 1))
def q_cy (n w e : Int) (row ys : Int → Int) (c : Int) : Int := if c ≤ 0 then w else if n < c then e else ys (row (c - 1))
def q_southF (X Y : Int → Int) : Int → Nat → Int → Int
  | _, 0, a => a
  | i, k + 1, a => q_southF X Y (i + 1) k (a + (X (i + 1) - X i) * (Y i + Y (i + 1)))
/-- of m pieces -/
def q_south (X Y : Int → Int) (m : Int) : Int := q_southF X Y 0 m.toNat 0
def q_turn (ax ay bx by' x y : Int) : Int := (bx - ax) * (y - ay) - (by' - ay) * (x - ax)
def q_btw (v a b : Int) : Prop := (a ≤ v ∧ v ≤ b) ∨ (b ≤ v ∧ v ≤ a)
/-- a piece and a point: 2 on it, 1 straight to the north, 0 -/
def q_pc (ax ay bx by' x y : Int) : Int :=
  if min ax bx ≤ x ∧ x ≤ max ax bx ∧ min ay by' ≤ y ∧ y ≤ max ay by' ∧ q_turn ax ay bx by' x y = 0 then 2
  else if min ax bx ≤ x ∧ x < max ax bx ∧ ((ax < bx ∧ q_turn ax ay bx by' x y < 0) ∨ (bx < ax ∧ 0 < q_turn ax ay bx by' x y)) then 1 else 0
def q_sideF (X Y : Int → Int) (x y : Int) : Int → Nat → Int → Int
  | _, 0, a => a
  | i, k + 1, a => if q_pc (X i) (Y i) (X (i + 1)) (Y (i + 1)) x y = 2 then 2 else q_sideF X Y x y (i + 1) k ((a + q_pc (X i) (Y i) (X (i + 1)) (Y (i + 1)) x y) % 2)
def q_side (X Y : Int → Int) (m x y : Int) : Int := q_sideF X Y x y 0 m.toNat 0
theorem q_pc_in (ax ay bx by' x y : Int) : q_pc ax ay bx by' x y = 0 ∨ q_pc ax ay bx by' x y = 1 ∨ q_pc ax ay bx by' x y = 2 := by
  unfold q_pc
  split
  · exact Or.inr (Or.inr rfl)
  · split
    · exact Or.inr (Or.inl rfl)
    · exact Or.inl rfl
theorem q_mulb {a b A B : Int} (h1 : -A ≤ a ∧ a ≤ A) (h2 : -B ≤ b ∧ b ≤ B) : -(A * B) ≤ a * b ∧ a * b ≤ A * B := by
  have hA : 0 ≤ A := by omega
  have hB : 0 ≤ B := by omega
  have k1 : 0 ≤ (A - a) * (B + b) := Int.mul_nonneg (by omega) (by omega)
  have k2 : 0 ≤ (A + a) * (B - b) := Int.mul_nonneg (by omega) (by omega)
  have k3 : 0 ≤ (A - a) * (B - b) := Int.mul_nonneg (by omega) (by omega)
  have k4 : 0 ≤ (A + a) * (B + b) := Int.mul_nonneg (by omega) (by omega)
  simp only [Int.sub_mul, Int.add_mul, Int.mul_sub, Int.mul_add] at k1 k2 k3 k4
  omega
