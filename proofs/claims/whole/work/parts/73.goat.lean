/-! the goat: what is pure -/
def q_to (x y e d : Int) : Int := if q_land (x + e / 13 - 6 + mj_east d) (y + e % 13 - 6 + mj_north d) then e + 13 * mj_east d + mj_north d else e
def q_gw (x y v e : Int) : Nat → Int → (Int → Int) → (Int → Int)
  | 0, _, h => h
  | k + 1, d, h => q_gw x y v e k (d + 1) (q_up h (q_to x y e d) (h (q_to x y e d) + v))
def q_gs (x y : Int) (f : Int → Int) : Nat → Int → (Int → Int) → (Int → Int)
  | 0, _, h => h
  | k + 1, e, h => q_gs x y f k (e + 1) (if 0 < f e then q_gw x y (f e) e 4 0 h else h)
def q_st (x y : Int) (f : Int → Int) : Int → Int := q_gs x y f 169 0 (fun _ => 0)
def q_it (x y : Int) : Nat → (Int → Int) → (Int → Int)
  | 0, f => f
  | k + 1, f => q_it x y k (q_st x y f)
def q_g0 : Int → Int := fun e => if e = 84 then 1 else 0
def q_sm (f : Int → Int) : Nat → Int → Int
  | 0, _ => 0
  | k + 1, i => f i + q_sm f k (i + 1)
def q_gt (w e : Int) (B : q_B) (x y s : Int) (f : Int → Int) : Nat → Int → Int → Int
  | 0, _, a => a
  | k + 1, i, a => q_gt w e B x y s f k (i + 1) (a + (if 0 < f i ∧ q_sideB w e B (x + i / 13 - 6) (y + i % 13 - 6) = s then f i else 0))
theorem q_sm_nn {f : Int → Int} (h : ∀ u, 0 ≤ f u) : ∀ (k : Nat) (i : Int), 0 ≤ q_sm f k i
  | 0, _ => Int.le_refl 0
  | k + 1, i => by
    unfold q_sm
    have := h i
    have := q_sm_nn h k (i + 1)
    omega
theorem q_sm_le {f : Int → Int} (h : ∀ u, 0 ≤ f u) : ∀ (k : Nat) (i t : Int), i ≤ t → t < i + k → f t ≤ q_sm f k i
  | 0, i, t, h1, h2 => by omega
  | k + 1, i, t, h1, h2 => by
    unfold q_sm
    by_cases e : t = i
    · have := q_sm_nn h k (i + 1)
      rw [e]; omega
    · have := q_sm_le h k (i + 1) t (by omega) (by omega)
      have := h i
      omega
theorem q_sm_c {f f' : Int → Int} : ∀ (k : Nat) (i : Int), (∀ j, i ≤ j → j < i + k → f j = f' j) → q_sm f k i = q_sm f' k i
  | 0, _, _ => rfl
  | k + 1, i, h => by
    unfold q_sm
    rw [h i (by omega) (by omega), q_sm_c k (i + 1) (fun j j1 j2 => h j (by omega) (by omega))]
theorem q_sm_up {f : Int → Int} {v : Int} : ∀ (k : Nat) (i t : Int), i ≤ t → t < i + k → q_sm (q_up f t (f t + v)) k i = q_sm f k i + v
  | 0, i, t, h1, h2 => by omega
  | k + 1, i, t, h1, h2 => by
    unfold q_sm
    by_cases e : t = i
    · subst e
      rw [q_up_at, q_sm_c k (t + 1) (f' := f) (fun j j1 j2 => q_up_ne _ _ (by omega))]
      omega
    · rw [q_up_ne _ _ (by omega), q_sm_up k (i + 1) t (by omega) (by omega)]
      omega
theorem q_sm_0 : ∀ (k : Nat) (i : Int), q_sm (fun _ => 0) k i = 0
  | 0, _ => rfl
  | k + 1, i => by
    unfold q_sm
    rw [q_sm_0 k (i + 1)]
    rfl
theorem q_sm_skip {f : Int → Int} {k : Nat} : ∀ (c : Nat) (i : Int), (∀ j, i ≤ j → j < i + c → f j = 0) → q_sm f (c + k) i = q_sm f k (i + c)
  | 0, i, _ => by rw [Nat.zero_add, show i + ((0 : Nat) : Int) = i by omega]
  | c + 1, i, h => by
    rw [show c + 1 + k = (c + k) + 1 by omega]
    have e : q_sm f ((c + k) + 1) i = f i + q_sm f (c + k) (i + 1) := rfl
    rw [e, h i (by omega) (by omega), q_sm_skip c (i + 1) (fun j j1 j2 => h j (by omega) (by omega))]
    rw [show i + 1 + (c : Int) = i + ((c + 1 : Nat) : Int) by omega]
    omega
theorem q_gs_skip {x y : Int} {f h : Int → Int} {k : Nat} : ∀ (c : Nat) (i : Int), (∀ j, i ≤ j → j < i + c → ¬ 0 < f j) → q_gs x y f (c + k) i h = q_gs x y f k (i + c) h
  | 0, i, _ => by rw [Nat.zero_add, show i + ((0 : Nat) : Int) = i by omega]
  | c + 1, i, hh => by
    rw [show c + 1 + k = (c + k) + 1 by omega]
    have e : q_gs x y f ((c + k) + 1) i h = q_gs x y f (c + k) (i + 1) (if 0 < f i then q_gw x y (f i) i 4 0 h else h) := rfl
    rw [e, if_neg (hh i (by omega) (by omega)), q_gs_skip c (i + 1) (fun j j1 j2 => hh j (by omega) (by omega))]
    rw [show i + 1 + (c : Int) = i + ((c + 1 : Nat) : Int) by omega]
/-- where the goat may be after s steps -/
def q_sq (s e : Int) : Prop := -s ≤ e / 13 - 6 ∧ e / 13 - 6 ≤ s ∧ -s ≤ e % 13 - 6 ∧ e % 13 - 6 ≤ s
def q_gp (x y s M : Int) (f : Int → Int) : Prop := (∀ u, 0 ≤ f u) ∧ (∀ u, 0 < f u → q_sq s u ∧ q_land (x + u / 13 - 6) (y + u % 13 - 6)) ∧ q_sm f 169 0 = M
theorem q_sq_in {s e : Int} (hs : s ≤ 6) (h : q_sq s e) : 0 ≤ e ∧ e < 169 := by
  unfold q_sq at h
  omega
theorem q_to_ok {x y s e d : Int} (hs : 0 ≤ s ∧ s ≤ 5) (hd : 0 ≤ d ∧ d ≤ 3) (he : q_sq s e) (hl : q_land (x + e / 13 - 6) (y + e % 13 - 6)) : q_sq (s + 1) (q_to x y e d) ∧ q_land (x + (q_to x y e d) / 13 - 6) (y + (q_to x y e d) % 13 - 6) := by
  unfold q_to
  unfold q_sq at he ⊢
  by_cases c : q_land (x + e / 13 - 6 + mj_east d) (y + e % 13 - 6 + mj_north d)
  · rw [if_pos c]
    rcases q_dirs hd with ⟨a, b | b⟩ | ⟨b, a | a⟩ <;> rw [a, b] at c ⊢ <;> omega
  · rw [if_neg c]
    exact ⟨by omega, hl⟩
theorem q_gp_0 {x y : Int} (h : q_land x y) : q_gp x y 0 1 q_g0 := by
  refine ⟨fun u => ?_, fun u hu => ?_, by decide +kernel⟩
  · unfold q_g0; split <;> omega
  · have : u = 84 := by
      unfold q_g0 at hu
      by_cases e : u = 84
      · exact e
      · rw [if_neg e] at hu; omega
    subst this
    unfold q_sq
    omega
/-- in the midst of a step: what was spread, and what is left to spread -/
def q_gi (x y s M : Int) (f h : Int → Int) (e : Int) : Prop := (∀ u, 0 ≤ h u) ∧ (∀ u, 0 < h u → q_sq (s + 1) u ∧ q_land (x + u / 13 - 6) (y + u % 13 - 6)) ∧ q_sm h 169 0 + 4 * q_sm f (169 - e).toNat e = 4 * M
/-- one way of one place -/
theorem q_gi_w {x y s N v e d : Int} {h : Int → Int} (hs : 0 ≤ s ∧ s ≤ 5) (hd : 0 ≤ d ∧ d ≤ 3) (hv : 0 < v) (he : q_sq s e) (hl : q_land (x + e / 13 - 6) (y + e % 13 - 6)) (h1 : ∀ u, 0 ≤ h u) (h2 : ∀ u, 0 < h u → q_sq (s + 1) u ∧ q_land (x + u / 13 - 6) (y + u % 13 - 6)) (h3 : q_sm h 169 0 = N) : (∀ u, 0 ≤ q_up h (q_to x y e d) (h (q_to x y e d) + v) u) ∧ (∀ u, 0 < q_up h (q_to x y e d) (h (q_to x y e d) + v) u → q_sq (s + 1) u ∧ q_land (x + u / 13 - 6) (y + u % 13 - 6)) ∧ q_sm (q_up h (q_to x y e d) (h (q_to x y e d) + v)) 169 0 = N + v ∧ (0 ≤ q_to x y e d ∧ q_to x y e d < 169) ∧ (0 ≤ h (q_to x y e d) ∧ h (q_to x y e d) ≤ N) := by
  obtain ⟨t1, t2⟩ := q_to_ok hs hd he hl
  have ti := q_sq_in (by omega) t1
  refine ⟨fun u => ?_, fun u hu => ?_, by rw [q_sm_up 169 0 _ ti.1 (by omega), h3], ti, h1 _, by rw [← h3]; exact q_sm_le h1 169 0 _ ti.1 (by omega)⟩
  · by_cases c : u = q_to x y e d
    · rw [c, q_up_at]; have := h1 (q_to x y e d); omega
    · rw [q_up_ne _ _ c]; exact h1 u
  · by_cases c : u = q_to x y e d
    · rw [c]; exact ⟨t1, t2⟩
    · rw [q_up_ne _ _ c] at hu; exact h2 u hu
theorem q_gi_end {x y s M : Int} {f h : Int → Int} (hi : q_gi x y s M f h 169) : q_gp x y (s + 1) (4 * M) h := by
  obtain ⟨h1, h2, h3⟩ := hi
  refine ⟨h1, h2, ?_⟩
  have : q_sm f ((169 : Int) - 169).toNat 169 = 0 := rfl
  omega
theorem q_gi_0 {x y s M : Int} {f : Int → Int} (hp : q_gp x y s M f) : q_gi x y s M f (fun _ => 0) 0 := by
  refine ⟨fun _ => Int.le_refl 0, fun u hu => absurd hu (by show ¬ (0 : Int) < 0; omega), ?_⟩
  rw [q_sm_0]
  have : q_sm f ((169 : Int) - 0).toNat 0 = M := hp.2.2
  omega
theorem q_gi_skip {x y s M : Int} {f h : Int → Int} {e : Int} (he : 0 ≤ e ∧ e < 169) (hi : q_gi x y s M f h e) (hf : f e = 0) : q_gi x y s M f h (e + 1) := by
  obtain ⟨h1, h2, h3⟩ := hi
  refine ⟨h1, h2, ?_⟩
  rw [show (169 - e).toNat = (169 - (e + 1)).toNat + 1 by omega] at h3
  have e0 : q_sm f ((169 - (e + 1)).toNat + 1) e = f e + q_sm f (169 - (e + 1)).toNat (e + 1) := rfl
  rw [e0, hf] at h3
  omega
theorem q_gi_skips {x y s M : Int} {f h : Int → Int} : ∀ (c : Nat) (e : Int), 0 ≤ e → e + c ≤ 169 → q_gi x y s M f h e → (∀ j, e ≤ j → j < e + c → f j = 0) → q_gi x y s M f h (e + c)
  | 0, e, h0, h1, hi, _ => by rw [show e + ((0 : Nat) : Int) = e by omega]; exact hi
  | c + 1, e, h0, h1, hi, hf => by
    have := q_gi_skips c (e + 1) (by omega) (by omega) (q_gi_skip (by omega) hi (hf e (by omega) (by omega))) (fun j j1 j2 => hf j (by omega) (by omega))
    rw [show e + ((c + 1 : Nat) : Int) = e + 1 + (c : Int) by omega]
    exact this
/-! lowest terms -/
def q_lowF : Nat → Int → Int → Int × Int
  | 0, u, l => (u, l)
  | k + 1, u, l => if 1 < l ∧ u % 2 = 0 then q_lowF k (u / 2) (l / 2) else (u, l)
def q_lw (k u : Nat) : Bool := decide (q_lowF 13 (u : Int) ((4 ^ k : Nat) : Int) = (((u / Nat.gcd (4 ^ k) u : Nat) : Int), ((4 ^ k / Nat.gcd (4 ^ k) u : Nat) : Int)))
def q_lwa : Nat → Nat → Bool
  | k, 0 => q_lw k 0
  | k, u + 1 => q_lw k (u + 1) && q_lwa k u
theorem q_lwa_of : ∀ (k u v : Nat), q_lwa k u = true → v ≤ u → q_lw k v = true
  | k, 0, v, h, hv => by
    have : v = 0 := by omega
    rw [this]; exact h
  | k, u + 1, v, h, hv => by
    unfold q_lwa at h
    rw [Bool.and_eq_true] at h
    by_cases e : v = u + 1
    · rw [e]; exact h.1
    · exact q_lwa_of k u v h.2 (by omega)
theorem q_lwk : (q_lwa 0 1 = true ∧ q_lwa 1 4 = true ∧ q_lwa 2 16 = true) ∧ q_lwa 3 64 = true ∧ q_lwa 4 256 = true := by decide +kernel
set_option maxRecDepth 100000 in
theorem q_lwk5 : q_lwa 5 1024 = true := by decide +kernel
set_option maxRecDepth 100000 in
theorem q_lwk6 : q_lwa 6 4096 = true := by decide +kernel
theorem q_low {k u : Nat} (hk : k ≤ 6) (hu : u ≤ 4 ^ k) : q_lowF 13 (u : Int) ((4 ^ k : Nat) : Int) = (((u / Nat.gcd (4 ^ k) u : Nat) : Int), ((4 ^ k / Nat.gcd (4 ^ k) u : Nat) : Int)) := by
  have key : q_lw k u = true := by
    have : k = 0 ∨ k = 1 ∨ k = 2 ∨ k = 3 ∨ k = 4 ∨ k = 5 ∨ k = 6 := by omega
    rcases this with h | h | h | h | h | h | h <;> subst h
    · exact q_lwa_of _ _ _ q_lwk.1.1 hu
    · exact q_lwa_of _ _ _ q_lwk.1.2.1 hu
    · exact q_lwa_of _ _ _ q_lwk.1.2.2 hu
    · exact q_lwa_of _ _ _ q_lwk.2.1 hu
    · exact q_lwa_of _ _ _ q_lwk.2.2 hu
    · exact q_lwa_of _ _ _ q_lwk5 hu
    · exact q_lwa_of _ _ _ q_lwk6 hu
  exact of_decide_eq_true key
