/-! lines of a border: they hang on the corners alone; the model's line is the border's -/
theorem q_sideF_c {X Y X' Y' : Int → Int} {x y m : Int} (hX : ∀ c, 0 ≤ c → c ≤ m → X c = X' c) (hY : ∀ c, 0 ≤ c → c ≤ m → Y c = Y' c) : ∀ (k : Nat) (i a : Int), 0 ≤ i → i + k ≤ m → q_sideF X Y x y i k a = q_sideF X' Y' x y i k a := by
  intro k
  induction k with
  | zero => intro i a h0 h1; rfl
  | succ k ih =>
    intro i a h0 h1
    unfold q_sideF
    rw [hX i (by omega) (by omega), hX (i + 1) (by omega) (by omega), hY i (by omega) (by omega), hY (i + 1) (by omega) (by omega), ih (i + 1) _ (by omega) (by omega)]
theorem q_side_c {X Y X' Y' : Int → Int} {x y m : Int} (hX : ∀ c, 0 ≤ c → c ≤ m → X c = X' c) (hY : ∀ c, 0 ≤ c → c ≤ m → Y c = Y' c) (hm : 0 ≤ m) : q_side X Y m x y = q_side X' Y' m x y := q_sideF_c hX hY m.toNat 0 0 (by omega) (by omega)
theorem q_southF_c {X Y X' Y' : Int → Int} {m : Int} (hX : ∀ c, 0 ≤ c → c ≤ m → X c = X' c) (hY : ∀ c, 0 ≤ c → c ≤ m → Y c = Y' c) : ∀ (k : Nat) (i a : Int), 0 ≤ i → i + k ≤ m → q_southF X Y i k a = q_southF X' Y' i k a := by
  intro k
  induction k with
  | zero => intro i a h0 h1; rfl
  | succ k ih =>
    intro i a h0 h1
    unfold q_southF
    rw [hX i (by omega) (by omega), hX (i + 1) (by omega) (by omega), hY i (by omega) (by omega), hY (i + 1) (by omega) (by omega), ih (i + 1) _ (by omega) (by omega)]
theorem q_south_c {X Y X' Y' : Int → Int} {m : Int} (hX : ∀ c, 0 ≤ c → c ≤ m → X c = X' c) (hY : ∀ c, 0 ≤ c → c ≤ m → Y c = Y' c) (hm : 0 ≤ m) : q_south X Y m = q_south X' Y' m := q_southF_c hX hY m.toNat 0 0 (by omega) (by omega)
theorem q_mt_c {X Y X' Y' : Int → Int} {m : Int} (hX : ∀ c, 0 ≤ c → c ≤ m → X c = X' c) (hY : ∀ c, 0 ≤ c → c ≤ m → Y c = Y' c) {a b : Int} (ha : 0 ≤ a) (hab : a < b) (hb : b + 1 ≤ m) : q_mt X Y a b = q_mt X' Y' a b := by
  unfold q_mt
  by_cases e : b = a + 1
  · rw [if_pos e, if_pos e]
    unfold q_fb
    rw [hX a (by omega) (by omega), hX (a + 1) (by omega) (by omega), hX (a + 2) (by omega) (by omega), hY a (by omega) (by omega), hY (a + 1) (by omega) (by omega), hY (a + 2) (by omega) (by omega)]
  · rw [if_neg e, if_neg e]
    unfold q_cm q_pt q_tn q_on
    rw [hX a (by omega) (by omega), hX (a + 1) (by omega) (by omega), hX b (by omega) (by omega), hX (b + 1) (by omega) (by omega), hY a (by omega) (by omega), hY (a + 1) (by omega) (by omega), hY b (by omega) (by omega), hY (b + 1) (by omega) (by omega)]
theorem q_pinI_c {X Y X' Y' : Int → Int} {m : Int} (hX : ∀ c, 0 ≤ c → c ≤ m → X c = X' c) (hY : ∀ c, 0 ≤ c → c ≤ m → Y c = Y' c) {a : Int} (ha : 0 ≤ a) : ∀ (k : Nat) (b : Int), a < b → b + k ≤ m → q_pinI X Y a b k = q_pinI X' Y' a b k := by
  intro k
  induction k with
  | zero => intro b h0 h1; rfl
  | succ k ih =>
    intro b h0 h1
    unfold q_pinI
    rw [q_mt_c hX hY ha h0 (by omega), ih (b + 1) (by omega) (by omega)]
theorem q_pinO_c {X Y X' Y' : Int → Int} {m : Int} (hX : ∀ c, 0 ≤ c → c ≤ m → X c = X' c) (hY : ∀ c, 0 ≤ c → c ≤ m → Y c = Y' c) : ∀ (k : Nat) (a : Int), 0 ≤ a → a + k + 1 ≤ m → q_pinO X Y m a k = q_pinO X' Y' m a k := by
  intro k
  induction k with
  | zero => intro a h0 h1; rfl
  | succ k ih =>
    intro a h0 h1
    unfold q_pinO
    rw [q_pinI_c hX hY h0 _ (a + 1) (by omega) (by omega), ih (a + 1) (by omega) (by omega)]
theorem q_pinch_c {X Y X' Y' : Int → Int} {m : Int} (hX : ∀ c, 0 ≤ c → c ≤ m → X c = X' c) (hY : ∀ c, 0 ≤ c → c ≤ m → Y c = Y' c) (hm : 1 ≤ m) : q_pinch X Y m = q_pinch X' Y' m := q_pinO_c hX hY (m - 1).toNat 0 (by omega) (by omega)
theorem q_pinI_in (X Y : Int → Int) {a : Int} (ha : 0 ≤ a) : ∀ (k : Nat) (b : Int), 0 ≤ b → q_pinI X Y a b k = -6 ∨ 0 ≤ q_pinI X Y a b k := by
  intro k
  induction k with
  | zero => intro b h0; exact Or.inl rfl
  | succ k ih =>
    intro b h0
    unfold q_pinI
    by_cases e : q_mt X Y a b = true
    · rw [if_pos e]; exact Or.inr (by omega)
    · rw [if_neg e]; exact ih (b + 1) (by omega)
theorem q_pinO_in (X Y : Int → Int) (m : Int) : ∀ (k : Nat) (a : Int), 0 ≤ a → q_pinO X Y m a k = -6 ∨ 0 ≤ q_pinO X Y m a k := by
  intro k
  induction k with
  | zero => intro a h0; exact Or.inl rfl
  | succ k ih =>
    intro a h0
    unfold q_pinO
    by_cases e : q_pinI X Y a (a + 1) (m - (a + 1)).toNat = -6
    · rw [if_pos e]; exact ih (a + 1) (by omega)
    · rw [if_neg e]; exact q_pinI_in X Y h0 _ (a + 1) (by omega)
theorem q_pinch_in (X Y : Int → Int) (m : Int) : q_pinch X Y m = -6 ∨ 0 ≤ q_pinch X Y m := q_pinO_in X Y m _ 0 (by omega)
theorem q_sideF_in (X Y : Int → Int) (x y : Int) : ∀ (k : Nat) (i a : Int), (a = 0 ∨ a = 1) → q_sideF X Y x y i k a = 0 ∨ q_sideF X Y x y i k a = 1 ∨ q_sideF X Y x y i k a = 2 := by
  intro k
  induction k with
  | zero => intro i a h; unfold q_sideF; omega
  | succ k ih =>
    intro i a h
    unfold q_sideF
    split
    · exact Or.inr (Or.inr rfl)
    · exact ih _ _ (by omega)
theorem q_side_in (X Y : Int → Int) (m x y : Int) : q_side X Y m x y = 0 ∨ q_side X Y m x y = 1 ∨ q_side X Y m x y = 2 := q_sideF_in X Y x y _ _ _ (Or.inl rfl)
def q_sideB (w e : Int) (B : q_B) (x y : Int) : Int := q_side (q_cx B.1 B.2.1 B.2.2.1) (q_cy B.1 w e B.2.1 B.2.2.2.1) (B.1 + 1) x y
def q_pinB (w e : Int) (B : q_B) : Int := q_pinch (q_cx B.1 B.2.1 B.2.2.1) (q_cy B.1 w e B.2.1 B.2.2.2.1) (B.1 + 1)
theorem q_sideB_in (w e : Int) (B : q_B) (x y : Int) : q_sideB w e B x y = 0 ∨ q_sideB w e B x y = 1 ∨ q_sideB w e B x y = 2 := q_side_in _ _ _ _ _
/-- the line that is laid is that of B -/
def q_ld (σ : mj_W) (g : Nat) (w e : Int) (B : q_B) : Prop := (∀ c, 0 ≤ c → c ≤ B.1 + 1 → σ (g + 16) c = q_cx B.1 B.2.1 B.2.2.1 c) ∧ (∀ c, 0 ≤ c → c ≤ B.1 + 1 → σ (g + 17) c = q_cy B.1 w e B.2.1 B.2.2.2.1 c) ∧ σ g 28 = B.1 + 1
def q_bB (w e : Int) (B : q_B) : Prop := (0 ≤ B.1 ∧ B.1 ≤ 8) ∧ (∀ i, 0 ≤ B.2.2.1 i ∧ B.2.2.1 i ≤ 40) ∧ (∀ i, 0 ≤ B.2.2.2.1 i ∧ B.2.2.2.1 i ≤ 40) ∧ (0 ≤ w ∧ w ≤ 40) ∧ (0 ≤ e ∧ e ≤ 40)
theorem q_bB_X {w e : Int} {B : q_B} (h : q_bB w e B) (c : Int) : -1 ≤ q_cx B.1 B.2.1 B.2.2.1 c ∧ q_cx B.1 B.2.1 B.2.2.1 c ≤ 41 := by
  have := h.2.1 (B.2.1 (c - 1))
  unfold q_cx
  (repeat' split) <;> omega
theorem q_bB_Y {w e : Int} {B : q_B} (h : q_bB w e B) (c : Int) : 0 ≤ q_cy B.1 w e B.2.1 B.2.2.2.1 c ∧ q_cy B.1 w e B.2.1 B.2.2.2.1 c ≤ 40 := by
  have := h.2.2.1 (B.2.1 (c - 1))
  have := h.2.2.2
  unfold q_cy
  (repeat' split) <;> omega
theorem q_SB_in {w e : Int} {B : q_B} (h : q_bB w e B) : -36000 ≤ q_SB w e B ∧ q_SB w e B ≤ 36000 := q_south_b (q_bB_X h) (q_bB_Y h) (by have := h.1; omega)
theorem q_ld_gL {σ : mj_W} {g : Nat} {w e : Int} {B : q_B} (h : q_ld σ g w e B) (hb : q_bB w e B) : q_gL σ g := by
  obtain ⟨h1, h2, h3⟩ := h
  have hc := hb.1
  refine ⟨by omega, fun c c0 c1 => ?_, fun c c0 c1 => ?_⟩
  · rw [h1 c c0 (by omega)]; exact q_bB_X hb c
  · rw [h2 c c0 (by omega)]; exact q_bB_Y hb c
/-- only the line was laid -/
def q_lf (σ σ' : mj_W) (g : Nat) : Prop := (∀ f, f ≠ 28 → σ' g f = σ g f) ∧ (∀ o, o ≠ g → o ≠ g + 16 → o ≠ g + 17 → σ' o = σ o)
/-- what the model's border is, if good -/
def q_mB (σ : mj_W) (g : Nat) : Prop := q_wB (q_BM σ g) ∧ (0 ≤ σ g 5 ∧ σ g 5 ≤ 40) ∧ (0 ≤ σ g 6 ∧ σ g 6 ≤ 40) ∧ (0 ≤ σ g 7 ∧ σ g 7 ≤ 99)
theorem q_mB_b {σ : mj_W} {g : Nat} (h : q_mB σ g) : q_bB (σ g 5) (σ g 6) (q_BM σ g) := ⟨h.1.1, h.1.2.2.1, h.1.2.2.2.1, h.2.1, h.2.2.1⟩
theorem q_lf_B {σ σ' : mj_W} {g : Nat} (h : q_lf σ σ' g) : q_BM σ' g = q_BM σ g := by
  unfold q_BM
  rw [h.1 0 (by omega), h.2 (g + 1) (by omega) (by omega) (by omega), h.2 (g + 2) (by omega) (by omega) (by omega), h.2 (g + 3) (by omega) (by omega) (by omega), h.2 (g + 4) (by omega) (by omega) (by omega)]
section L1
variable {n g : Nat} {σ : mj_W} {K : Option mj_V → mj_W → Prop} {x y w e S : Int} {B : q_B}
theorem c_M_sideB (h : q_ld σ g w e B) (hb : q_bB w e B) (h5 : -1 ≤ x ∧ x ≤ 41) (h6 : 0 ≤ y ∧ y ≤ 40) (hK : ∀ r, r = q_sideB w e B x y → K (some (iV r)) σ) : mj_Ok (n + 4) i_M_sideOf [rV 12 0 g, iV x, iV y] σ K := by
  refine c_M_sideOf (q_ld_gL h hb) h5 h6 (fun r hr => hK r ?_)
  rw [hr, h.2.2]
  exact q_side_c h.1 h.2.1 (by have := hb.1; omega)
theorem c_M_southB (h : q_ld σ g w e B) (hb : q_bB w e B) (hK : ∀ r, r = q_SB w e B → K (some (iV r)) σ) : mj_Ok (n + 1) i_M_southOf [rV 12 0 g] σ K := by
  refine c_M_southOf (q_ld_gL h hb) (fun r hr => hK r ?_)
  rw [hr, h.2.2]
  exact q_south_c h.1 h.2.1 (by have := hb.1; omega)
theorem c_M_pinB (h : q_ld σ g w e B) (hb : q_bB w e B) (hK : ∀ r, r = q_pinB w e B → K (some (iV r)) σ) : mj_Ok (n + 5) i_M_pinched [rV 12 0 g] σ K := by
  refine c_M_pinched (q_ld_gL h hb) (by have := hb.1; have := h.2.2; omega) (fun r hr => hK r ?_)
  rw [hr, h.2.2]
  exact q_pinch_c h.1 h.2.1 (by have := hb.1; omega)
theorem q_laid_ld {σ σ' : mj_W} {F : Int × (Int → Int)} (h : q_laid σ σ' g F) : q_ld σ' g (σ g 5) (σ g 6) (F.1, F.2, σ (g + 2), σ (g + 3), σ (g + 4)) ∧ q_lf σ σ' g := by
  obtain ⟨a, b, c, d⟩ := h
  exact ⟨⟨a, b, by rw [c, q_up_at]⟩, ⟨fun f hf => by rw [c, q_up_ne _ _ hf], d⟩⟩
theorem c_M_layB (hM : q_mB σ g) (hK : ∀ σ', q_ld σ' g (σ g 5) (σ g 6) (q_BM σ g) → q_lf σ σ' g → K none σ') : mj_Ok (n + 3) i_M_layLine [rV 12 0 g] σ K :=
  c_M_layLine hM.1.1 hM.1.2.1 (fun σ' s => hK σ' (q_laid_ld s).1 (q_laid_ld s).2)
theorem c_M_southNowB (hM : q_mB σ g) (hK : ∀ r σ', r = q_SB (σ g 5) (σ g 6) (q_BM σ g) → q_ld σ' g (σ g 5) (σ g 6) (q_BM σ g) → q_lf σ σ' g → K (some (iV r)) σ') : mj_Ok (n + 4) i_M_southNow [rV 12 0 g] σ K := by
  refine mj_enter (by decide) (Nat.le_of_ble_eq_true rfl) (fun hg => ?_)
  refine r_M_southNow [] 600 ?_
  refine c_M_layB hM (fun σ' s1 s2 => ?_)
  repeat' (first | (refine mj_ite (fun h => ?_) (fun h => ?_) <;> first | (exfalso; omega) | skip) | refine mj_vci (by first | omega | (simp (disch := omega) only [up_ne, up_at, q_up_at, q_up_ne, cp_ne]; omega)) ?_)
  exact c_M_southB s1 (q_mB_b hM) (fun r e => hK r σ' e s1 s2)
end L1
