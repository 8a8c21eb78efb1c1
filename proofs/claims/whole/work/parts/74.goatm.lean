/-! the goat of the model: strays in g + 21, straysThen in g + 22 -/
/-- ranges are known within, too -/
theorem mj_rgW {mi n : Nat} {K : Option mj_V → mj_W → Prop} {pc : Nat} {loc : mj_L} {st : List mj_V} {σ : mj_W} (h : mj_rg σ → mj_Wm mi n K pc loc st σ) : mj_Wm mi n K pc loc st σ := by
  intro p l e s m args below meth c D cs A ad sa hC hr hlk H locs ls hP hS hg hL hst
  exact h hg p l e s m args below meth c D cs A ad sa hC hr hlk H locs ls hP hS hg hL hst
section M29
variable {n g : Nat} {σ : mj_W} {K : Option mj_V → mj_W → Prop} {x y z p w i j c d e k s m S M N : Int} {f : Int → Int}
theorem l_M_lowest {u l G : Nat} (hl : 1 ≤ l) (hu : u ≤ 100000) (hlb : l ≤ 100000) (hG : Nat.gcd l u = G) (hK : K (some (jV (if p = 0 then ((u / G : Nat) : Int) else ((l / G : Nat) : Int)))) σ) : ∀ (m b a : Nat), b ≤ m → Nat.gcd a b = G → a ≤ 100000 → b ≤ 100000 → mj_Wm i_M_lowest (n + 1) K 6 [some (jV (u : Int)), none, some (jV (l : Int)), none, some (iV p), some (jV (a : Int)), none, some (jV (b : Int)), none, none, none] [] σ := by
  intro m
  induction m with
  | zero =>
    intro b a h0 h1 h2 h3
    have : b = 0 := by omega
    subst this
    rw [Nat.gcd_zero_right] at h1
    subst h1
    have hpos : 0 < a := by rw [← hG]; exact Nat.gcd_pos_of_pos_left u hl
    have e1 : (u : Int) / (a : Int) = ((u / a : Nat) : Int) := rfl
    have e2 : (l : Int) / (a : Int) = ((l / a : Nat) : Int) := rfl
    rw [← e1, ← e2] at hK
    refine r_M_lowest [(6, [true, false, true, false, true, true, false, true, false, false, false])] 600 ?_
    repeat' (first | (refine mj_ite (fun h => ?_) (fun h => ?_) <;> first | (exfalso; omega) | skip) | refine mj_vci (by first | omega | (simp (disch := omega) only [up_ne, up_at, q_up_at, q_up_ne, cp_ne]; omega)) ?_)
    · rw [if_pos (by assumption)] at hK; exact hK
    · rw [if_neg (by assumption)] at hK; exact hK
  | succ m ih =>
    intro b a h0 h1 h2 h3
    by_cases hb : b = 0
    · exact ih b a (by omega) h1 h2 h3
    · have hlt : a % b < b := Nat.mod_lt _ (by omega)
      have e1 : (a : Int) % (b : Int) = ((a % b : Nat) : Int) := rfl
      have nx := ih (a % b) b (by omega) (by rw [Nat.gcd_comm, ← h1, Nat.gcd_comm a b, ← Nat.gcd_rec]) h3 (by omega)
      rw [← e1] at nx
      refine r_M_lowest [(6, [true, false, true, false, true, true, false, true, false, false, false])] 600 ?_
      repeat' (first | (refine mj_ite (fun h => ?_) (fun h => ?_) <;> first | (exfalso; omega) | skip) | refine mj_vci (by first | omega | (simp (disch := omega) only [up_ne, up_at, q_up_at, q_up_ne, cp_ne]; omega)) ?_)
      exact nx
theorem c_M_lowest {u l : Nat} (hl : 1 ≤ l) (hu : u ≤ 100000) (hlb : l ≤ 100000) (hK : K (some (jV (if p = 0 then ((u / Nat.gcd l u : Nat) : Int) else ((l / Nat.gcd l u : Nat) : Int)))) σ) : mj_Ok (n + 1) i_M_lowest [jV (u : Int), jV (l : Int), iV p] σ K := by
  refine mj_enter (by decide) (Nat.le_of_ble_eq_true rfl) (fun hg => ?_)
  refine r_M_lowest [(6, [true, false, true, false, true, true, false, true, false, false, false])] 600 ?_
  exact l_M_lowest hl hu hlb rfl hK u u l (Nat.le_refl _) rfl hlb hu
theorem l_M_strayZ (hg : mj_rg σ) (hG : g = 58) (hK : ∀ τ, (∀ o, o ≠ g + 22 → τ o = σ o) → τ (g + 22) = (fun _ => 0) → mj_Wm i_M_strayOnce (n + 3) K 22 [some (rV 12 0 g), some (iV x), some (iV y), none, none, none, none, none] [] τ) :
    ∀ (k : Nat) (i : Int) (τ : mj_W), 0 ≤ i → i + k = 169 → (∀ o, o ≠ g + 22 → τ o = σ o) → τ (g + 22) = (fun j => if 0 ≤ j ∧ j < i then 0 else σ (g + 22) j) → mj_Wm i_M_strayOnce (n + 3) K 2 [some (rV 12 0 g), some (iV x), some (iV y), some (iV i), none, none, none, none] [] τ := by
  have hl : mj_ln (g + 22) = 169 := by subst hG; decide +kernel
  intro k
  induction k with
  | zero =>
    intro i τ h0 h1 t1 t2
    refine r_M_strayOnce [(2, [true, true, true, true, false, false, false, false]), (22, [true, true, true, false, false, false, false, false])] 600 ?_
    repeat' (first | (refine mj_ite (fun h => ?_) (fun h => ?_) <;> first | (exfalso; omega) | skip) | refine mj_vci (by first | omega | (simp (disch := omega) only [up_ne, up_at, q_up_at, q_up_ne, cp_ne]; omega)) ?_)
    refine hK τ t1 ?_
    rw [t2]
    funext j
    by_cases e : 0 ≤ j ∧ j < i
    · rw [if_pos e]
    · rw [if_neg e]; exact mj_rg_z hg _ _ (by rw [hl]; omega)
  | succ k ih =>
    intro i τ h0 h1 t1 t2
    refine r_M_strayOnce [(2, [true, true, true, true, false, false, false, false]), (22, [true, true, true, false, false, false, false, false])] 600 ?_
    repeat' (first | (refine mj_ite (fun h => ?_) (fun h => ?_) <;> first | (exfalso; omega) | skip) | refine mj_vci (by first | omega | (simp (disch := omega) only [up_ne, up_at, q_up_at, q_up_ne, cp_ne]; omega)) ?_)
    refine ih (i + 1) _ (by omega) (by omega) (fun o ho => by rw [up_ne _ _ _ ho]; exact t1 o ho) ?_
    rw [up_at, t2]
    funext j
    simp only [q_up]
    grind
theorem l_M_strayC (hg : mj_rg σ) (hG : g = 58) {h : Int → Int} (hz : ∀ j, ¬ (0 ≤ j ∧ j < 169) → h j = 0) (hK : ∀ τ, (∀ o, o ≠ g + 21 → τ o = σ o) → τ (g + 21) = h → K none τ) (hh : σ (g + 22) = h) :
    ∀ (k : Nat) (i : Int) (τ : mj_W), 0 ≤ i → i + k = 169 → (∀ o, o ≠ g + 21 → τ o = σ o) → τ (g + 21) = (fun j => if 0 ≤ j ∧ j < i then h j else σ (g + 21) j) → mj_Wm i_M_strayOnce (n + 3) K 147 [some (rV 12 0 g), some (iV x), some (iV y), some (iV i), none, none, none, none] [] τ := by
  have hl : mj_ln (g + 21) = 169 := by subst hG; decide +kernel
  intro k
  induction k with
  | zero =>
    intro i τ h0 h1 t1 t2
    refine r_M_strayOnce [(147, [true, true, true, true, false, false, false, false])] 600 ?_
    repeat' (first | (refine mj_ite (fun h => ?_) (fun h => ?_) <;> first | (exfalso; omega) | skip) | refine mj_vci (by first | omega | (simp (disch := omega) only [up_ne, up_at, q_up_at, q_up_ne, cp_ne]; omega)) ?_)
    refine hK τ t1 ?_
    rw [t2]
    funext j
    by_cases e : 0 ≤ j ∧ j < i
    · rw [if_pos e]
    · rw [if_neg e, hz j (by omega)]; exact mj_rg_z hg _ _ (by rw [hl]; omega)
  | succ k ih =>
    intro i τ h0 h1 t1 t2
    have t22 : τ (g + 22) = h := (t1 (g + 22) (by omega)).trans hh
    refine r_M_strayOnce [(147, [true, true, true, true, false, false, false, false])] 600 ?_
    repeat' (first | (refine mj_ite (fun h => ?_) (fun h => ?_) <;> first | (exfalso; omega) | skip) | refine mj_vci (by first | omega | (simp (disch := omega) only [up_ne, up_at, q_up_at, q_up_ne, cp_ne]; omega)) ?_)
    refine ih (i + 1) _ (by omega) (by omega) (fun o ho => by rw [up_ne _ _ _ ho]; exact t1 o ho) ?_
    rw [up_at, t2, t22]
    funext j
    simp only [q_up]
    grind
theorem l_M_strayW (hxy : q_land x y) (hs : 0 ≤ s ∧ s ≤ 5) (hfb : 0 < f e ∧ f e ≤ 2000) (he : q_sq s e) (hel : q_land (x + e / 13 - 6) (y + e % 13 - 6)) (hf : σ (g + 21) = f) {R : Int → Int} (hK : ∀ τ, (∀ o, o ≠ g + 22 → τ o = σ o) → τ (g + 22) = R → (∀ u, 0 ≤ R u) → (∀ u, 0 < R u → q_sq (s + 1) u ∧ q_land (x + u / 13 - 6) (y + u % 13 - 6)) → q_sm R 169 0 = N → mj_Wm i_M_strayOnce (n + 3) K 139 [some (rV 12 0 g), some (iV x), some (iV y), some (iV e), none, none, none, none] [] τ) (hN : N ≤ 10000) :
    ∀ (k : Nat) (d : Int) (h : Int → Int) (τ : mj_W), 0 ≤ d → d + k = 4 → (∀ o, o ≠ g + 22 → τ o = σ o) → τ (g + 22) = h → (∀ u, 0 ≤ h u) → (∀ u, 0 < h u → q_sq (s + 1) u ∧ q_land (x + u / 13 - 6) (y + u % 13 - 6)) → q_sm h 169 0 + k * f e = N → q_gw x y (f e) e k d h = R → mj_Wm i_M_strayOnce (n + 3) K 34 [some (rV 12 0 g), some (iV x), some (iV y), some (iV e), some (iV d), none, none, none] [] τ := by
  have hei := q_sq_in (by omega) he
  intro k
  induction k with
  | zero =>
    intro d h τ h0 h1 t1 t2 p1 p2 p3 hR
    have hR : h = R := hR
    subst hR
    refine r_M_strayOnce [(34, [true, true, true, true, true, false, false, false]), (139, [true, true, true, true, false, false, false, false])] 600 ?_
    repeat' (first | (refine mj_ite (fun h => ?_) (fun h => ?_) <;> first | (exfalso; omega) | skip) | refine mj_vci (by first | omega | (simp (disch := omega) only [up_ne, up_at, q_up_at, q_up_ne, cp_ne]; omega)) ?_)
    exact hK τ t1 t2 p1 p2 (by rw [← p3, show ((0 : Nat) : Int) * f e = 0 by rw [show ((0 : Nat) : Int) = 0 from rfl, Int.zero_mul]]; omega)
  | succ k ih =>
    intro d h τ h0 h1 t1 t2 p1 p2 p3 hR
    unfold q_gw at hR
    have em : ((k + 1 : Nat) : Int) * f e = (k : Int) * f e + f e := by rw [show ((k + 1 : Nat) : Int) = (k : Int) + 1 by omega, Int.add_mul, Int.one_mul]
    have kn : 0 ≤ (k : Int) * f e := Int.mul_nonneg (by omega) (by omega)
    obtain ⟨w1, w2, w3, w4, w5⟩ := q_gi_w (N := q_sm h 169 0) (v := f e) hs (d := d) (by omega) hfb.1 he hel p1 p2 rfl
    have t21 : τ (g + 21) = f := (t1 (g + 21) (by omega)).trans hf
    have t21e : τ (g + 21) e = f e := by rw [t21]
    have m1 := q_east_in d
    have m2 := q_north_in d
    have fin : ∀ t, t = q_to x y e d → mj_Wm i_M_strayOnce (n + 3) K 34 [some (rV 12 0 g), some (iV x), some (iV y), some (iV e), some (iV (d + 1)), none, none, none] [] (mj_up τ (g + 22) t (τ (g + 22) t + τ (g + 21) e)) := by
      intro t ht
      rw [← ht] at w1 w2 w3 hR
      rw [t21e, t2]
      refine ih (d + 1) (q_up h t (h t + f e)) _ (by omega) (by omega) (fun o ho => by rw [up_ne _ _ _ ho]; exact t1 o ho) (by rw [up_at, t2]) w1 w2 (by rw [w3, ← p3, em]; omega) hR
    have tb : ∀ t, t = q_to x y e d → (0 ≤ t ∧ t < 169) ∧ (0 ≤ τ (g + 22) t ∧ τ (g + 22) t ≤ 10000) := by
      intro t ht
      rw [ht, t2]
      exact ⟨w4, by omega⟩
    unfold q_to at fin tb
    unfold q_sq at he
    by_cases cl : q_land (x + e / 13 - 6 + mj_east d) (y + e % 13 - 6 + mj_north d)
    · rw [if_pos cl] at fin tb
      obtain ⟨b1, b2⟩ := tb _ rfl
      refine r_M_strayOnce [(34, [true, true, true, true, true, false, false, false]), (139, [true, true, true, true, false, false, false, false])] 600 ?_
      repeat' (first | (refine mj_ite (fun h => ?_) (fun h => ?_) <;> first | (exfalso; omega) | skip) | refine mj_vci (by first | omega | (simp (disch := omega) only [up_ne, up_at, q_up_at, q_up_ne, cp_ne]; omega)) ?_)
      refine c_M_eastBy ?_
      repeat' (first | (refine mj_ite (fun h => ?_) (fun h => ?_) <;> first | (exfalso; omega) | skip) | refine mj_vci (by first | omega | (simp (disch := omega) only [up_ne, up_at, q_up_at, q_up_ne, cp_ne]; omega)) ?_)
      refine c_M_northBy ?_
      repeat' (first | (refine mj_ite (fun h => ?_) (fun h => ?_) <;> first | (exfalso; omega) | skip) | refine mj_vci (by first | omega | (simp (disch := omega) only [up_ne, up_at, q_up_at, q_up_ne, cp_ne]; omega)) ?_)
      refine c_M_isLand (fun a1 a2 a3 a4 => ?_) (fun a0 => absurd cl a0)
      repeat' (first | (refine mj_ite (fun h => ?_) (fun h => ?_) <;> first | (exfalso; omega) | skip) | refine mj_vci (by first | omega | (simp (disch := omega) only [up_ne, up_at, q_up_at, q_up_ne, cp_ne]; omega)) ?_)
      refine c_M_eastBy ?_
      repeat' (first | (refine mj_ite (fun h => ?_) (fun h => ?_) <;> first | (exfalso; omega) | skip) | refine mj_vci (by first | omega | (simp (disch := omega) only [up_ne, up_at, q_up_at, q_up_ne, cp_ne]; omega)) ?_)
      refine c_M_northBy ?_
      repeat' (first | (refine mj_ite (fun h => ?_) (fun h => ?_) <;> first | (exfalso; omega) | skip) | refine mj_vci (by first | omega | (simp (disch := omega) only [up_ne, up_at, q_up_at, q_up_ne, cp_ne]; omega)) ?_)
      exact fin _ rfl
    · rw [if_neg cl] at fin tb
      obtain ⟨b1, b2⟩ := tb _ rfl
      refine r_M_strayOnce [(34, [true, true, true, true, true, false, false, false]), (139, [true, true, true, true, false, false, false, false])] 600 ?_
      repeat' (first | (refine mj_ite (fun h => ?_) (fun h => ?_) <;> first | (exfalso; omega) | skip) | refine mj_vci (by first | omega | (simp (disch := omega) only [up_ne, up_at, q_up_at, q_up_ne, cp_ne]; omega)) ?_)
      refine c_M_eastBy ?_
      repeat' (first | (refine mj_ite (fun h => ?_) (fun h => ?_) <;> first | (exfalso; omega) | skip) | refine mj_vci (by first | omega | (simp (disch := omega) only [up_ne, up_at, q_up_at, q_up_ne, cp_ne]; omega)) ?_)
      refine c_M_northBy ?_
      repeat' (first | (refine mj_ite (fun h => ?_) (fun h => ?_) <;> first | (exfalso; omega) | skip) | refine mj_vci (by first | omega | (simp (disch := omega) only [up_ne, up_at, q_up_at, q_up_ne, cp_ne]; omega)) ?_)
      refine c_M_isLand (fun a1 a2 a3 a4 => absurd ⟨a1, a2, a3, a4⟩ cl) (fun a0 => ?_)
      repeat' (first | (refine mj_ite (fun h => ?_) (fun h => ?_) <;> first | (exfalso; omega) | skip) | refine mj_vci (by first | omega | (simp (disch := omega) only [up_ne, up_at, q_up_at, q_up_ne, cp_ne]; omega)) ?_)
      exact fin _ rfl
theorem l_M_strayS (hxy : q_land x y) (hs : 0 ≤ s ∧ s ≤ 5) (hp : q_gp x y s M f) (hM : 0 ≤ M ∧ M ≤ 1024) (hf : σ (g + 21) = f) {R : Int → Int} (hK : ∀ τ, (∀ o, o ≠ g + 22 → τ o = σ o) → τ (g + 22) = R → q_gp x y (s + 1) (4 * M) R → mj_Wm i_M_strayOnce (n + 3) K 145 [some (rV 12 0 g), some (iV x), some (iV y), none, none, none, none, none] [] τ) :
    ∀ (k : Nat) (e : Int) (h : Int → Int) (τ : mj_W), 0 ≤ e → e + k = 169 → (∀ o, o ≠ g + 22 → τ o = σ o) → τ (g + 22) = h → q_gi x y s M f h e → q_gs x y f k e h = R → mj_Wm i_M_strayOnce (n + 3) K 24 [some (rV 12 0 g), some (iV x), some (iV y), some (iV e), none, none, none, none] [] τ := by
  intro k
  induction k with
  | zero =>
    intro e h τ h0 h1 t1 t2 hi hR
    have hR : h = R := hR
    subst hR
    have : e = 169 := by omega
    subst this
    refine r_M_strayOnce [(24, [true, true, true, true, false, false, false, false]), (145, [true, true, true, false, false, false, false, false])] 600 ?_
    repeat' (first | (refine mj_ite (fun h => ?_) (fun h => ?_) <;> first | (exfalso; omega) | skip) | refine mj_vci (by first | omega | (simp (disch := omega) only [up_ne, up_at, q_up_at, q_up_ne, cp_ne]; omega)) ?_)
    exact hK τ t1 t2 (q_gi_end hi)
  | succ k ih =>
    intro e h τ h0 h1 t1 t2 hi hR
    unfold q_gs at hR
    have fn := hp.1 e
    have t21 : τ (g + 21) = f := (t1 (g + 21) (by omega)).trans hf
    have t21e : τ (g + 21) e = f e := by rw [t21]
    have m139 : ∀ (τ' : mj_W) (h' : Int → Int), (∀ o, o ≠ g + 22 → τ' o = σ o) → τ' (g + 22) = h' → q_gi x y s M f h' (e + 1) → q_gs x y f k (e + 1) h' = R → mj_Wm i_M_strayOnce (n + 3) K 139 [some (rV 12 0 g), some (iV x), some (iV y), some (iV e), none, none, none, none] [] τ' := by
      intro τ' h' n1 n2 n3 n4
      refine r_M_strayOnce [(24, [true, true, true, true, false, false, false, false])] 600 ?_
      repeat' (first | (refine mj_ite (fun h => ?_) (fun h => ?_) <;> first | (exfalso; omega) | skip) | refine mj_vci (by first | omega | (simp (disch := omega) only [up_ne, up_at, q_up_at, q_up_ne, cp_ne]; omega)) ?_)
      exact ih (e + 1) h' τ' (by omega) (by omega) n1 n2 n3 n4
    by_cases pos : 0 < f e
    · rw [if_pos pos] at hR
      obtain ⟨he, hel⟩ := hp.2.1 e pos
      obtain ⟨i1, i2, i3⟩ := hi
      have i3' := i3
      rw [show (169 - e).toNat = (169 - (e + 1)).toNat + 1 by omega] at i3
      have e0 : q_sm f ((169 - (e + 1)).toNat + 1) e = f e + q_sm f (169 - (e + 1)).toNat (e + 1) := rfl
      rw [e0] at i3
      have sn := q_sm_nn hp.1 (169 - (e + 1)).toNat (e + 1)
      have sn2 := q_sm_nn i1 169 0
      have w9 := l_M_strayW (n := n) (K := K) (g := g) (R := q_gw x y (f e) e 4 0 h) (N := q_sm h 169 0 + 4 * f e) (σ := σ) hxy hs ⟨pos, by omega⟩ he hel hf (fun τ' n1 n2 n3 n4 n5 => m139 τ' _ n1 n2 ⟨n3, n4, by rw [n5]; omega⟩ hR) (by omega) 4 0 h τ (by omega) (by omega) t1 t2 i1 i2 rfl rfl
      refine r_M_strayOnce [(24, [true, true, true, true, false, false, false, false]), (34, [true, true, true, true, true, false, false, false]), (145, [true, true, true, false, false, false, false, false])] 600 ?_
      repeat' (first | (refine mj_ite (fun h => ?_) (fun h => ?_) <;> first | (exfalso; omega) | skip) | refine mj_vci (by first | omega | (simp (disch := omega) only [up_ne, up_at, q_up_at, q_up_ne, cp_ne]; omega)) ?_)
      exact w9
    · rw [if_neg pos] at hR
      have w9 := m139 τ h t1 t2 (q_gi_skip (by omega) hi (by omega)) hR
      refine r_M_strayOnce [(139, [true, true, true, true, false, false, false, false]), (145, [true, true, true, false, false, false, false, false])] 600 ?_
      repeat' (first | (refine mj_ite (fun h => ?_) (fun h => ?_) <;> first | (exfalso; omega) | skip) | refine mj_vci (by first | omega | (simp (disch := omega) only [up_ne, up_at, q_up_at, q_up_ne, cp_ne]; omega)) ?_)
      exact w9
theorem c_M_strayOnce (hG : g = 58) (hxy : q_land x y) (hs : 0 ≤ s ∧ s ≤ 5) (hp : q_gp x y s M (σ (g + 21))) (hM : 0 ≤ M ∧ M ≤ 1024) (hK : ∀ τ, (∀ o, o ≠ g + 21 → o ≠ g + 22 → τ o = σ o) → τ (g + 21) = q_st x y (σ (g + 21)) → q_gp x y (s + 1) (4 * M) (q_st x y (σ (g + 21))) → K none τ) : mj_Ok (n + 3) i_M_strayOnce [rV 12 0 g, iV x, iV y] σ K := by
  refine mj_enter (by decide) (Nat.le_of_ble_eq_true rfl) (fun hg => ?_)
  refine r_M_strayOnce [(2, [true, true, true, true, false, false, false, false]), (22, [true, true, true, false, false, false, false, false])] 600 ?_
  refine l_M_strayZ hg hG (fun τ t1 t2 => ?_) 169 0 σ (by omega) (by omega) (fun _ _ => rfl) (by funext j; rw [if_neg (by omega)])
  have hf : τ (g + 21) = σ (g + 21) := t1 (g + 21) (by omega)
  have key := l_M_strayS (n := n) (K := K) (g := g) (σ := τ) (f := σ (g + 21)) (R := q_st x y (σ (g + 21))) hxy hs hp hM hf (fun τ' n1 n2 n3 => by
    have hz : ∀ j, ¬ (0 ≤ j ∧ j < 169) → q_st x y (σ (g + 21)) j = 0 := by
      intro j hj
      by_cases c : 0 < q_st x y (σ (g + 21)) j
      · exact absurd (q_sq_in (by omega) (n3.2.1 j c).1) hj
      · have := n3.1 j; omega
    refine mj_rgW (fun hg' => ?_)
    refine r_M_strayOnce [(147, [true, true, true, true, false, false, false, false])] 600 ?_
    refine l_M_strayC hg' hG hz (fun τ2 u1 u2 => hK τ2 (fun o o1 o2 => ?_) u2 n3) n2 169 0 τ' (by omega) (by omega) (fun _ _ => rfl) (by funext j; rw [if_neg (by omega)])
    rw [u1 o o1, n1 o o2, t1 o o2]) 169 0 (fun _ => 0) τ (by omega) (by omega) (fun _ _ => rfl) t2 (q_gi_0 hp) rfl
  refine r_M_strayOnce [(24, [true, true, true, true, false, false, false, false])] 600 ?_
  exact key
theorem q_4b {j : Nat} (h : j ≤ 6) : 1 ≤ 4 ^ j ∧ 4 ^ j ≤ 4096 := by
  have : j = 0 ∨ j = 1 ∨ j = 2 ∨ j = 3 ∨ j = 4 ∨ j = 5 ∨ j = 6 := by omega
  rcases this with h | h | h | h | h | h | h <;> subst h <;> decide
theorem q_4c {j : Nat} (h : j ≤ 5) : 4 ^ j ≤ 1024 := by
  have : j = 0 ∨ j = 1 ∨ j = 2 ∨ j = 3 ∨ j = 4 ∨ j = 5 := by omega
  rcases this with h | h | h | h | h | h <;> subst h <;> decide
theorem q_4s (j : Nat) : ((4 ^ (j + 1) : Nat) : Int) = ((4 ^ j : Nat) : Int) * 4 := by rw [Nat.pow_succ]; exact Int.natCast_mul _ _
theorem l_M_goatA (hg : mj_rg σ) (hG : g = 58) (hK : ∀ τ, (∀ o, o ≠ g + 21 → τ o = σ o) → τ (g + 21) = q_g0 → mj_Wm i_M_goat (n + 5) K 84 [some (rV 12 0 g), some (iV x), some (iV y), some (iV k), some (iV s), some (iV p), none, none, none, none, none, none] [] τ) :
    ∀ (m : Nat) (i : Int) (τ : mj_W), 0 ≤ i → i + m = 169 → (∀ o, o ≠ g + 21 → τ o = σ o) → τ (g + 21) = (fun j => if 0 ≤ j ∧ j < i then q_g0 j else σ (g + 21) j) → mj_Wm i_M_goat (n + 5) K 51 [some (rV 12 0 g), some (iV x), some (iV y), some (iV k), some (iV s), some (iV p), some (iV i), none, none, none, none, none] [] τ := by
  have hl : mj_ln (g + 21) = 169 := by subst hG; decide +kernel
  intro m
  induction m with
  | zero =>
    intro i τ h0 h1 t1 t2
    refine r_M_goat [(51, [true, true, true, true, true, true, true, false, false, false, false, false]), (84, [true, true, true, true, true, true, false, false, false, false, false, false])] 600 ?_
    repeat' (first | (refine mj_ite (fun h => ?_) (fun h => ?_) <;> first | (exfalso; omega) | skip) | refine mj_vci (by first | omega | (simp (disch := omega) only [up_ne, up_at, q_up_at, q_up_ne, cp_ne]; omega)) ?_)
    refine hK τ t1 ?_
    rw [t2]
    funext j
    by_cases e : 0 ≤ j ∧ j < i
    · rw [if_pos e]
    · rw [if_neg e]
      have : q_g0 j = 0 := by unfold q_g0; rw [if_neg (by omega)]
      rw [this]
      exact mj_rg_z hg _ _ (by rw [hl]; omega)
  | succ m ih =>
    intro i τ h0 h1 t1 t2
    by_cases e84 : i = 84
    · refine r_M_goat [(51, [true, true, true, true, true, true, true, false, false, false, false, false]), (84, [true, true, true, true, true, true, false, false, false, false, false, false])] 600 ?_
      repeat' (first | (refine mj_ite (fun h => ?_) (fun h => ?_) <;> first | (exfalso; omega) | skip) | refine mj_vci (by first | omega | (simp (disch := omega) only [up_ne, up_at, q_up_at, q_up_ne, cp_ne]; omega)) ?_)
      refine ih (i + 1) _ (by omega) (by omega) (fun o ho => by rw [up_ne _ _ _ ho]; exact t1 o ho) ?_
      rw [up_at, t2]
      funext j
      simp only [q_up, q_g0]
      grind
    · refine r_M_goat [(51, [true, true, true, true, true, true, true, false, false, false, false, false]), (84, [true, true, true, true, true, true, false, false, false, false, false, false])] 600 ?_
      repeat' (first | (refine mj_ite (fun h => ?_) (fun h => ?_) <;> first | (exfalso; omega) | skip) | refine mj_vci (by first | omega | (simp (disch := omega) only [up_ne, up_at, q_up_at, q_up_ne, cp_ne]; omega)) ?_)
      refine ih (i + 1) _ (by omega) (by omega) (fun o ho => by rw [up_ne _ _ _ ho]; exact t1 o ho) ?_
      rw [up_at, t2]
      funext j
      simp only [q_up, q_g0]
      grind
theorem l_M_goatB {kk : Nat} (hG : g = 58) (hxy : q_land x y) (hkk : kk ≤ 6) (hk : k = (kk : Int)) {R : Int → Int} (hK : ∀ τ, (∀ o, o ≠ g + 21 → o ≠ g + 22 → τ o = σ o) → τ (g + 21) = R → q_gp x y kk ((4 ^ kk : Nat) : Int) R → mj_Wm i_M_goat (n + 5) K 116 [some (rV 12 0 g), some (iV x), some (iV y), some (iV k), some (iV s), some (iV p), some (jV ((4 ^ kk : Nat) : Int)), none, none, none, none, none] [] τ) :
    ∀ (m j : Nat) (τ : mj_W), j + m = kk → (∀ o, o ≠ g + 21 → o ≠ g + 22 → τ o = σ o) → q_gp x y j ((4 ^ j : Nat) : Int) (τ (g + 21)) → q_it x y m (τ (g + 21)) = R → mj_Wm i_M_goat (n + 5) K 90 [some (rV 12 0 g), some (iV x), some (iV y), some (iV k), some (iV s), some (iV p), some (jV ((4 ^ j : Nat) : Int)), none, some (iV (j : Int)), none, none, none] [] τ := by
  intro m
  induction m with
  | zero =>
    intro j τ h1 hf hp hR
    have : j = kk := by omega
    subst this
    have hR : τ (g + 21) = R := hR
    refine r_M_goat [(90, [true, true, true, true, true, true, true, false, true, false, false, false]), (116, [true, true, true, true, true, true, true, false, false, false, false, false])] 600 ?_
    repeat' (first | (refine mj_ite (fun h => ?_) (fun h => ?_) <;> first | (exfalso; omega) | skip) | refine mj_vci (by first | omega | (simp (disch := omega) only [up_ne, up_at, q_up_at, q_up_ne, cp_ne]; omega)) ?_)
    exact hK τ hf hR (by rw [← hR]; exact hp)
  | succ m ih =>
    intro j τ h1 hf hp hR
    have b1 := q_4b (j := j) (by omega)
    have b2 := q_4c (j := j) (by omega)
    have hR : q_it x y m (q_st x y (τ (g + 21))) = R := hR
    refine r_M_goat [(90, [true, true, true, true, true, true, true, false, true, false, false, false]), (116, [true, true, true, true, true, true, true, false, false, false, false, false])] 600 ?_
    repeat' (first | (refine mj_ite (fun h => ?_) (fun h => ?_) <;> first | (exfalso; omega) | skip) | refine mj_vci (by first | omega | (simp (disch := omega) only [up_ne, up_at, q_up_at, q_up_ne, cp_ne]; omega)) ?_)
    refine c_M_strayOnce (s := (j : Int)) (M := ((4 ^ j : Nat) : Int)) hG hxy (by omega) hp (by omega) (fun τ' n1 n2 n3 => ?_)
    have nx := ih (j + 1) τ' (by omega) (fun o o1 o2 => (n1 o o1 o2).trans (hf o o1 o2)) (by
      rw [n2, q_4s, Int.mul_comm]
      have e : ((j + 1 : Nat) : Int) = (j : Int) + 1 := by omega
      rw [e]
      exact n3) (by rw [n2]; exact hR)
    rw [q_4s, show ((j + 1 : Nat) : Int) = (j : Int) + 1 by omega] at nx
    repeat' (first | (refine mj_ite (fun h => ?_) (fun h => ?_) <;> first | (exfalso; omega) | skip) | refine mj_vci (by first | omega | (simp (disch := omega) only [up_ne, up_at, q_up_at, q_up_ne, cp_ne]; omega)) ?_)
    exact nx
def q_gA (w e : Int) (B : q_B) (x y k s p : Int) : Int := if p = 0 then (((q_gt w e B x y s (q_it x y k.toNat q_g0) 169 0 0).toNat / Nat.gcd (4 ^ k.toNat) (q_gt w e B x y s (q_it x y k.toNat q_g0) 169 0 0).toNat : Nat) : Int) else ((4 ^ k.toNat / Nat.gcd (4 ^ k.toNat) (q_gt w e B x y s (q_it x y k.toNat q_g0) 169 0 0).toNat : Nat) : Int)
theorem q_gt_b {w e : Int} {B : q_B} {x y s : Int} {f : Int → Int} (hf : ∀ u, 0 ≤ f u) : ∀ (k : Nat) (i a : Int), a ≤ q_gt w e B x y s f k i a ∧ q_gt w e B x y s f k i a ≤ a + q_sm f k i := by
  intro k
  induction k with
  | zero => intro i a; exact ⟨Int.le_refl a, by show a ≤ a + 0; omega⟩
  | succ k ih =>
    intro i a
    unfold q_gt q_sm
    have := hf i
    by_cases c : 0 < f i ∧ q_sideB w e B (x + i / 13 - 6) (y + i % 13 - 6) = s
    · rw [if_pos c]
      have := ih (i + 1) (a + f i)
      omega
    · rw [if_neg c]
      have := ih (i + 1) (a + 0)
      omega
theorem l_M_goatC {B : q_B} {w e : Int} {L : Nat} (hL : q_ld σ g w e B) (hb : q_bB w e B) (hp : q_gp x y c M f) (hM : M ≤ 4096) (hf : σ (g + 21) = f) (hLb : 1 ≤ L ∧ L ≤ 4096) (hpp : p = 0 ∨ p = 1) {R : Int} (hK : K (some (jV (if p = 0 then ((R.toNat / Nat.gcd L R.toNat : Nat) : Int) else ((L / Nat.gcd L R.toNat : Nat) : Int)))) σ) :
    ∀ (m : Nat) (i a : Int), 0 ≤ i → i + m = 169 → (0 ≤ a ∧ a + q_sm f m i ≤ M) → q_gt w e B x y s f m i a = R → mj_Wm i_M_goat (n + 5) K 126 [some (rV 12 0 g), some (iV x), some (iV y), some (iV k), some (iV s), some (iV p), some (jV (L : Int)), none, some (jV a), none, some (iV i), none] [] σ := by
  intro m
  induction m with
  | zero =>
    intro i a h0 h1 ha hR
    have hR : a = R := hR
    subst hR
    have sz : q_sm f 0 i = 0 := rfl
    obtain ⟨u, hu⟩ : ∃ u : Nat, a = (u : Int) := ⟨a.toNat, by omega⟩
    subst hu
    have e1 : ((u : Int)).toNat = u := by omega
    rw [e1] at hK
    refine r_M_goat [(126, [true, true, true, true, true, true, true, false, true, false, true, false])] 600 ?_
    repeat' (first | (refine mj_ite (fun h => ?_) (fun h => ?_) <;> first | (exfalso; omega) | skip) | refine mj_vci (by first | omega | (simp (disch := omega) only [up_ne, up_at, q_up_at, q_up_ne, cp_ne]; omega)) ?_)
    refine c_M_lowest (by omega) (by omega) (by omega) ?_
    repeat' (first | (refine mj_ite (fun h => ?_) (fun h => ?_) <;> first | (exfalso; omega) | skip) | refine mj_vci (by first | omega | (simp (disch := omega) only [up_ne, up_at, q_up_at, q_up_ne, cp_ne]; omega)) ?_)
    exact hK
  | succ m ih =>
    intro i a h0 h1 ha hR
    unfold q_gt at hR
    have sn := q_sm_nn hp.1 m (i + 1)
    have es : q_sm f (m + 1) i = f i + q_sm f m (i + 1) := rfl
    have fn := hp.1 i
    have fe : σ (g + 21) i = f i := by rw [hf]
    by_cases pos : 0 < f i
    · obtain ⟨-, hl⟩ := hp.2.1 i pos
      refine r_M_goat [(126, [true, true, true, true, true, true, true, false, true, false, true, false])] 600 ?_
      repeat' (first | (refine mj_ite (fun h => ?_) (fun h => ?_) <;> first | (exfalso; omega) | skip) | refine mj_vci (by first | omega | (simp (disch := omega) only [up_ne, up_at, q_up_at, q_up_ne, cp_ne]; omega)) ?_)
      refine c_M_sideB hL hb (by omega) (by omega) (fun r hr => ?_)
      rw [← hr] at hR
      by_cases er : r = s
      · rw [if_pos ⟨pos, er⟩, ← fe] at hR
        repeat' (first | (refine mj_ite (fun h => ?_) (fun h => ?_) <;> first | (exfalso; omega) | skip) | refine mj_vci (by first | omega | (simp (disch := omega) only [up_ne, up_at, q_up_at, q_up_ne, cp_ne]; omega)) ?_)
        exact ih (i + 1) _ (by omega) (by omega) (by omega) hR
      · rw [if_neg (fun q => er q.2)] at hR
        repeat' (first | (refine mj_ite (fun h => ?_) (fun h => ?_) <;> first | (exfalso; omega) | skip) | refine mj_vci (by first | omega | (simp (disch := omega) only [up_ne, up_at, q_up_at, q_up_ne, cp_ne]; omega)) ?_)
        exact ih (i + 1) _ (by omega) (by omega) (by omega) hR
    · rw [if_neg (fun q => pos q.1)] at hR
      refine r_M_goat [(126, [true, true, true, true, true, true, true, false, true, false, true, false])] 600 ?_
      repeat' (first | (refine mj_ite (fun h => ?_) (fun h => ?_) <;> first | (exfalso; omega) | skip) | refine mj_vci (by first | omega | (simp (disch := omega) only [up_ne, up_at, q_up_at, q_up_ne, cp_ne]; omega)) ?_)
      exact ih (i + 1) _ (by omega) (by omega) (by omega) hR
theorem c_M_goat (hG : g = 58) (hM : q_mB σ g) (h1 : ¬ (q_land x y ∧ (0 ≤ k ∧ k ≤ 6) ∧ (0 ≤ s ∧ s ≤ 2) ∧ 0 ≤ p ∧ p ≤ 1) → K (some (jV (-1000000000000000002))) σ) (h2 : (q_land x y ∧ (0 ≤ k ∧ k ≤ 6) ∧ (0 ≤ s ∧ s ≤ 2) ∧ 0 ≤ p ∧ p ≤ 1) → ∀ r σ', q_Fm σ σ' g → r = q_gA (σ g 5) (σ g 6) (q_BM σ g) x y k s p → K (some (jV r)) σ') : mj_Ok (n + 5) i_M_goat [rV 12 0 g, iV x, iV y, iV k, iV s, iV p] σ K := by
  refine mj_enter (by decide) (Nat.le_of_ble_eq_true rfl) (fun hg => ?_)
  refine r_M_goat [(51, [true, true, true, true, true, true, true, false, false, false, false, false])] 600 ?_
  refine c_M_isLand (fun a1 a2 a3 a4 => ?_) (fun a0 => ?_)
  · repeat' (first | (refine mj_ite (fun h => ?_) (fun h => ?_) <;> first | (exfalso; omega) | skip) | refine mj_vci (by first | omega | (simp (disch := omega) only [up_ne, up_at, q_up_at, q_up_ne, cp_ne]; omega)) ?_)
    refine c_M_in (fun b1 b2 => ?_) (fun b0 => ?_)
    · repeat' (first | (refine mj_ite (fun h => ?_) (fun h => ?_) <;> first | (exfalso; omega) | skip) | refine mj_vci (by first | omega | (simp (disch := omega) only [up_ne, up_at, q_up_at, q_up_ne, cp_ne]; omega)) ?_)
      refine c_M_in (fun c1 c2 => ?_) (fun c0 => ?_)
      · repeat' (first | (refine mj_ite (fun h => ?_) (fun h => ?_) <;> first | (exfalso; omega) | skip) | refine mj_vci (by first | omega | (simp (disch := omega) only [up_ne, up_at, q_up_at, q_up_ne, cp_ne]; omega)) ?_)
        refine c_M_in (fun d1 d2 => ?_) (fun d0 => ?_)
        · have key := h2 ⟨⟨a1, a2, a3, a4⟩, ⟨b1, b2⟩, ⟨c1, c2⟩, d1, d2⟩
          have ek : k = (k.toNat : Int) := by omega
          have kb := q_4b (j := k.toNat) (by omega)
          repeat' (first | (refine mj_ite (fun h => ?_) (fun h => ?_) <;> first | (exfalso; omega) | skip) | refine mj_vci (by first | omega | (simp (disch := omega) only [up_ne, up_at, q_up_at, q_up_ne, cp_ne]; omega)) ?_)
          refine l_M_goatA hg hG (fun τ t1 t2 => ?_) 169 0 σ (by omega) (by omega) (fun _ _ => rfl) (by funext j; rw [if_neg (by omega)])
          have B9 := l_M_goatB (n := n) (K := K) (g := g) (s := s) (p := p) (σ := τ) (R := q_it x y k.toNat q_g0) hG ⟨a1, a2, a3, a4⟩ (by omega) ek (fun τ1 u1 u2 u3 => by
            have fr : ∀ o, o ≠ g + 21 → o ≠ g + 22 → τ1 o = σ o := fun o o1 o2 => (u1 o o1 o2).trans (t1 o o1)
            have hF : q_Fm σ τ1 g := by
              refine ⟨⟨fun o ho => fr o (by omega) (by omega), fun f f1 f2 => by rw [fr g (by omega) (by omega)]⟩, ?_⟩
              unfold q_BM
              rw [fr g (by omega) (by omega), fr (g + 1) (by omega) (by omega), fr (g + 2) (by omega) (by omega), fr (g + 3) (by omega) (by omega), fr (g + 4) (by omega) (by omega)]
            have hM1 := q_Fm_mB hF hM
            refine r_M_goat [(126, [true, true, true, true, true, true, true, false, true, false, true, false])] 600 ?_
            refine c_M_layB hM1 (fun σ2 v1 v2 => ?_)
            have hF2 := q_Fm_tr hF (q_lf_Fm v2)
            have e5 := hF.1.2 5 (by omega) (by omega)
            have e6 := hF.1.2 6 (by omega) (by omega)
            rw [hF.2, e5, e6] at v1
            have s21 : σ2 (g + 21) = q_it x y k.toNat q_g0 := (v2.2 (g + 21) (by omega) (by omega) (by omega)).trans u2
            repeat' (first | (refine mj_ite (fun h => ?_) (fun h => ?_) <;> first | (exfalso; omega) | skip) | refine mj_vci (by first | omega | (simp (disch := omega) only [up_ne, up_at, q_up_at, q_up_ne, cp_ne]; omega)) ?_)
            refine l_M_goatC v1 (q_mB_b hM) u3 (by omega) s21 kb (by omega) ?_ 169 0 0 (by omega) (by omega) ⟨Int.le_refl 0, by rw [u3.2.2]; omega⟩ rfl
            exact key _ σ2 hF2 rfl) k.toNat 0 τ (by omega) (fun _ _ _ => rfl) (by rw [t2]; exact q_gp_0 ⟨a1, a2, a3, a4⟩) (by rw [t2])
          have B9 : mj_Wm i_M_goat (n + 5) K 90 [some (rV 12 0 g), some (iV x), some (iV y), some (iV k), some (iV s), some (iV p), some (jV 1), none, some (iV 0), none, none, none] [] τ := B9
          refine r_M_goat [(90, [true, true, true, true, true, true, true, false, true, false, false, false])] 600 ?_
          exact B9
        · repeat' (first | (refine mj_ite (fun h => ?_) (fun h => ?_) <;> first | (exfalso; omega) | skip) | refine mj_vci (by first | omega | (simp (disch := omega) only [up_ne, up_at, q_up_at, q_up_ne, cp_ne]; omega)) ?_)
          exact h1 (fun q => d0 q.2.2.2)
      · repeat' (first | (refine mj_ite (fun h => ?_) (fun h => ?_) <;> first | (exfalso; omega) | skip) | refine mj_vci (by first | omega | (simp (disch := omega) only [up_ne, up_at, q_up_at, q_up_ne, cp_ne]; omega)) ?_)
        exact h1 (fun q => c0 q.2.2.1)
    · repeat' (first | (refine mj_ite (fun h => ?_) (fun h => ?_) <;> first | (exfalso; omega) | skip) | refine mj_vci (by first | omega | (simp (disch := omega) only [up_ne, up_at, q_up_at, q_up_ne, cp_ne]; omega)) ?_)
      exact h1 (fun q => b0 q.2.1)
  · repeat' (first | (refine mj_ite (fun h => ?_) (fun h => ?_) <;> first | (exfalso; omega) | skip) | refine mj_vci (by first | omega | (simp (disch := omega) only [up_ne, up_at, q_up_at, q_up_ne, cp_ne]; omega)) ?_)
    exact h1 (fun q => a0 q.1)
end M29
