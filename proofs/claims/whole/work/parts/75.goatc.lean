/-! the goat of the class: ways in st + 1, before in st + 2, fields 2 and 3 where it was -/
theorem q_gp_z {x y s M : Int} {f : Int → Int} (hp : q_gp x y s M f) {j : Int} (h : ¬ q_sq s j) : f j = 0 := by
  have := hp.1 j
  by_cases c : 0 < f j
  · exact absurd (hp.2.1 j c).1 h
  · omega
section S10
variable {n b st : Nat} {σ : mj_W} {K : Option mj_V → mj_W → Prop} {x y p w i j c d e s m u v M N k : Int} {f : Int → Int}
theorem c_Stray_at (hu : -7 ≤ u ∧ u ≤ 7) (hv : -7 ≤ v ∧ v ≤ 7) (hK : ∀ r, r = (u + 6) * 13 + v + 6 → K (some (iV r)) σ) : mj_Ok (n + 1) i_Stray_at [iV u, iV v] σ K := by
  refine mj_enter (by decide) (Nat.le_of_ble_eq_true rfl) (fun hg => ?_)
  refine r_Stray_at [] 600 ?_
  repeat' (first | (refine mj_ite (fun h => ?_) (fun h => ?_) <;> first | (exfalso; omega) | skip) | refine mj_vci (by first | omega | (simp (disch := omega) only [up_ne, up_at, q_up_at, q_up_ne, cp_ne]; omega)) ?_)
  exact hK _ rfl
theorem l_Stray_clear (hg : mj_rg σ) (hl : mj_ln (st + 1) = 169) (hK : ∀ σ' : mj_W, σ' (st + 1) = (fun _ => 0) → (∀ o, o ≠ st + 1 → σ' o = σ o) → K none σ') :
    ∀ (k : Nat) (i : Int) (τ : mj_W), 0 ≤ i → i + k = 169 → τ (st + 1) = (fun j => if 0 ≤ j ∧ j < i then 0 else σ (st + 1) j) → (∀ o, o ≠ st + 1 → τ o = σ o) → mj_Wm i_Stray_clearWays (n + 1) K 2 [some (rV 7 0 st), some (iV i)] [] τ := by
  intro k
  induction k with
  | zero =>
    intro i τ h0 h1 t2 t3
    refine r_Stray_clearWays [(2, [true, true])] 600 ?_
    repeat' (first | (refine mj_ite (fun h => ?_) (fun h => ?_) <;> first | (exfalso; omega) | skip) | refine mj_vci (by first | omega | (simp (disch := omega) only [up_ne, up_at, q_up_at, q_up_ne, cp_ne]; omega)) ?_)
    refine hK _ ?_ t3
    rw [t2]
    funext j
    by_cases e : 0 ≤ j ∧ j < i
    · rw [if_pos e]
    · rw [if_neg e]
      exact mj_rg_z hg _ _ (by rw [hl]; omega)
  | succ k ih =>
    intro i τ h0 h1 t2 t3
    refine r_Stray_clearWays [(2, [true, true])] 600 ?_
    repeat' (first | (refine mj_ite (fun h => ?_) (fun h => ?_) <;> first | (exfalso; omega) | skip) | refine mj_vci (by first | omega | (simp (disch := omega) only [up_ne, up_at, q_up_at, q_up_ne, cp_ne]; omega)) ?_)
    refine ih (i + 1) _ (by omega) (by omega) ?_ ?_
    · rw [up_at, t2]
      funext j
      simp only [q_up]
      grind
    · intro o ho2
      rw [up_ne _ _ _ ho2]
      exact t3 o ho2
theorem c_Stray_clear (hl : mj_ln (st + 1) = 169) (hK : ∀ σ' : mj_W, σ' (st + 1) = (fun _ => 0) → (∀ o, o ≠ st + 1 → σ' o = σ o) → K none σ') : mj_Ok (n + 1) i_Stray_clearWays [rV 7 0 st] σ K := by
  refine mj_enter (by decide) (Nat.le_of_ble_eq_true rfl) (fun hg => ?_)
  refine r_Stray_clearWays [(2, [true, true])] 600 ?_
  refine l_Stray_clear hg hl hK 169 0 σ (by omega) (by omega) ?_ (fun _ _ => rfl)
  funext j
  rw [if_neg (by omega)]
theorem l_spreadFrom {hv9 : Int} (hs : 0 ≤ s ∧ s ≤ 5) (hu : -s ≤ u ∧ u ≤ s) (hv : -s ≤ v ∧ v ≤ s) (hx : σ st 2 = x) (hy : σ st 3 = y) (hxy : q_land x y) (hfb : 0 < hv9 ∧ hv9 ≤ 2000) (he : e = (u + 6) * 13 + v + 6) (hel : q_land (x + e / 13 - 6) (y + e % 13 - 6)) {R : Int → Int} (hK : ∀ τ, (∀ o, o ≠ st + 1 → τ o = σ o) → τ (st + 1) = R → (∀ u, 0 ≤ R u) → (∀ u, 0 < R u → q_sq (s + 1) u ∧ q_land (x + u / 13 - 6) (y + u % 13 - 6)) → q_sm R 169 0 = N → K none τ) (hN : N ≤ 10000) :
    ∀ (k : Nat) (d : Int) (h : Int → Int) (τ : mj_W), 0 ≤ d → d + k = 4 → (∀ o, o ≠ st + 1 → τ o = σ o) → τ (st + 1) = h → (∀ u, 0 ≤ h u) → (∀ u, 0 < h u → q_sq (s + 1) u ∧ q_land (x + u / 13 - 6) (y + u % 13 - 6)) → q_sm h 169 0 + k * hv9 = N → q_gw x y hv9 e k d h = R → mj_Wm i_Stray_spreadFrom (n + 2) K 3 [some (rV 7 0 st), some (iV u), some (iV v), some (iV hv9), some (iV d), none, none, none] [] τ := by
  have hsq : q_sq s e := by unfold q_sq; omega
  have eu : e / 13 = u + 6 := by omega
  have ev : e % 13 = v + 6 := by omega
  intro k
  induction k with
  | zero =>
    intro d h τ h0 h1 t1 t2 p1 p2 p3 hR
    have hR : h = R := hR
    subst hR
    refine r_Stray_spreadFrom [(3, [true, true, true, true, true, false, false, false])] 600 ?_
    repeat' (first | (refine mj_ite (fun h => ?_) (fun h => ?_) <;> first | (exfalso; omega) | skip) | refine mj_vci (by first | omega | (simp (disch := omega) only [up_ne, up_at, q_up_at, q_up_ne, cp_ne]; omega)) ?_)
    exact hK τ t1 t2 p1 p2 (by rw [← p3, show ((0 : Nat) : Int) * hv9 = 0 by rw [show ((0 : Nat) : Int) = 0 from rfl, Int.zero_mul]]; omega)
  | succ k ih =>
    intro d h τ h0 h1 t1 t2 p1 p2 p3 hR
    unfold q_gw at hR
    have em : ((k + 1 : Nat) : Int) * hv9 = (k : Int) * hv9 + hv9 := by rw [show ((k + 1 : Nat) : Int) = (k : Int) + 1 by omega, Int.add_mul, Int.one_mul]
    have kn : 0 ≤ (k : Int) * hv9 := Int.mul_nonneg (by omega) (by omega)
    obtain ⟨w1, w2, w3, w4, w5⟩ := q_gi_w (N := q_sm h 169 0) (v := hv9) hs (d := d) (by omega) hfb.1 hsq hel p1 p2 rfl
    have tx : τ st 2 = x := by rw [t1 st (by omega)]; exact hx
    have ty : τ st 3 = y := by rw [t1 st (by omega)]; exact hy
    have m1 := q_east_in d
    have m2 := q_north_in d
    have fin : ∀ t, t = q_to x y e d → mj_Wm i_Stray_spreadFrom (n + 2) K 3 [some (rV 7 0 st), some (iV u), some (iV v), some (iV hv9), some (iV (d + 1)), none, none, none] [] (mj_up τ (st + 1) t (τ (st + 1) t + hv9)) := by
      intro t ht
      rw [← ht] at w1 w2 w3 hR
      rw [t2]
      refine ih (d + 1) (q_up h t (h t + hv9)) _ (by omega) (by omega) (fun o ho => by rw [up_ne _ _ _ ho]; exact t1 o ho) (by rw [up_at, t2]) w1 w2 (by rw [w3, ← p3, em]; omega) hR
    have tb : ∀ t, t = q_to x y e d → (0 ≤ t ∧ t < 169) ∧ (0 ≤ τ (st + 1) t ∧ τ (st + 1) t ≤ 10000) := by
      intro t ht
      rw [ht, t2]
      exact ⟨w4, by omega⟩
    unfold q_to at fin tb
    by_cases cl : q_land (x + e / 13 - 6 + mj_east d) (y + e % 13 - 6 + mj_north d)
    · rw [if_pos cl] at fin tb
      refine r_Stray_spreadFrom [(3, [true, true, true, true, true, false, false, false])] 600 ?_
      repeat' (first | (refine mj_ite (fun h => ?_) (fun h => ?_) <;> first | (exfalso; omega) | skip) | refine mj_vci (by first | omega | (simp (disch := omega) only [up_ne, up_at, q_up_at, q_up_ne, cp_ne]; omega)) ?_)
      refine c_S_isLand (fun a1 a2 a3 a4 => ?_) (fun a0 => absurd (by rw [tx, ty]; omega) a0)
      repeat' (first | (refine mj_ite (fun h => ?_) (fun h => ?_) <;> first | (exfalso; omega) | skip) | refine mj_vci (by first | omega | (simp (disch := omega) only [up_ne, up_at, q_up_at, q_up_ne, cp_ne]; omega)) ?_)
      refine c_Stray_at (by omega) (by omega) (fun r hr => ?_)
      have hr9 : r = e + 13 * mj_east d + mj_north d := by omega
      obtain ⟨b1, b2⟩ := tb _ hr9
      repeat' (first | (refine mj_ite (fun h => ?_) (fun h => ?_) <;> first | (exfalso; omega) | skip) | refine mj_vci (by first | omega | (simp (disch := omega) only [up_ne, up_at, q_up_at, q_up_ne, cp_ne]; omega)) ?_)
      exact fin _ hr9
    · rw [if_neg cl] at fin tb
      refine r_Stray_spreadFrom [(3, [true, true, true, true, true, false, false, false])] 600 ?_
      repeat' (first | (refine mj_ite (fun h => ?_) (fun h => ?_) <;> first | (exfalso; omega) | skip) | refine mj_vci (by first | omega | (simp (disch := omega) only [up_ne, up_at, q_up_at, q_up_ne, cp_ne]; omega)) ?_)
      refine c_S_isLand (fun a1 a2 a3 a4 => absurd (by rw [tx] at a1 a2; rw [ty] at a3 a4; omega) cl) (fun a0 => ?_)
      repeat' (first | (refine mj_ite (fun h => ?_) (fun h => ?_) <;> first | (exfalso; omega) | skip) | refine mj_vci (by first | omega | (simp (disch := omega) only [up_ne, up_at, q_up_at, q_up_ne, cp_ne]; omega)) ?_)
      refine c_Stray_at (by omega) (by omega) (fun r hr => ?_)
      have hr9 : r = e := by omega
      obtain ⟨b1, b2⟩ := tb _ hr9
      repeat' (first | (refine mj_ite (fun h => ?_) (fun h => ?_) <;> first | (exfalso; omega) | skip) | refine mj_vci (by first | omega | (simp (disch := omega) only [up_ne, up_at, q_up_at, q_up_ne, cp_ne]; omega)) ?_)
      exact fin _ hr9
theorem c_spreadFrom {hv9 : Int} {h : Int → Int} (hs : 0 ≤ s ∧ s ≤ 5) (hu : -s ≤ u ∧ u ≤ s) (hv : -s ≤ v ∧ v ≤ s) (hx : σ st 2 = x) (hy : σ st 3 = y) (hxy : q_land x y) (hfb : 0 < hv9 ∧ hv9 ≤ 2000) (he : e = (u + 6) * 13 + v + 6) (hel : q_land (x + e / 13 - 6) (y + e % 13 - 6)) (t2 : σ (st + 1) = h) (p1 : ∀ u, 0 ≤ h u) (p2 : ∀ u, 0 < h u → q_sq (s + 1) u ∧ q_land (x + u / 13 - 6) (y + u % 13 - 6)) (hN : q_sm h 169 0 + 4 * hv9 ≤ 10000) (hK : ∀ τ R, R = q_gw x y hv9 e 4 0 h → (∀ o, o ≠ st + 1 → τ o = σ o) → τ (st + 1) = R → (∀ u, 0 ≤ R u) → (∀ u, 0 < R u → q_sq (s + 1) u ∧ q_land (x + u / 13 - 6) (y + u % 13 - 6)) → q_sm R 169 0 = q_sm h 169 0 + 4 * hv9 → K none τ) : mj_Ok (n + 2) i_Stray_spreadFrom [rV 7 0 st, iV u, iV v, iV hv9] σ K := by
  refine mj_enter (by decide) (Nat.le_of_ble_eq_true rfl) (fun hg => ?_)
  refine r_Stray_spreadFrom [(3, [true, true, true, true, true, false, false, false])] 600 ?_
  exact l_spreadFrom hs hu hv hx hy hxy hfb he hel (fun τ n1 n2 n3 n4 n5 => hK τ _ rfl n1 n2 n3 n4 n5) hN 4 0 h σ (by omega) (by omega) (fun _ _ => rfl) t2 p1 p2 rfl rfl
theorem l_spread_in (hs : 0 ≤ s ∧ s ≤ 5) (hu : -s ≤ u ∧ u ≤ s) (hx : σ st 2 = x) (hy : σ st 3 = y) (hxy : q_land x y) (hp : q_gp x y s M f) (hM : 0 ≤ M ∧ M ≤ 1024) (hf : σ (st + 2) = f) {R : Int → Int} (hnext : ∀ (h : Int → Int) (τ : mj_W), (∀ o, o ≠ st + 1 → τ o = σ o) → τ (st + 1) = h → q_gi x y s M f h ((u + 7) * 13 + 6 - s) → q_gs x y f (169 - ((u + 7) * 13 + 6 - s)).toNat ((u + 7) * 13 + 6 - s) h = R → mj_Wm i_Stray_spread (n + 3) K 47 [some (rV 7 0 st), some (iV s), some (iV u), none, none] [] τ) :
    ∀ (k : Nat) (v : Int) (h : Int → Int) (τ : mj_W), v + k = s + 1 → -s ≤ v → (∀ o, o ≠ st + 1 → τ o = σ o) → τ (st + 1) = h → q_gi x y s M f h ((u + 6) * 13 + v + 6) → q_gs x y f (169 - ((u + 6) * 13 + v + 6)).toNat ((u + 6) * 13 + v + 6) h = R → mj_Wm i_Stray_spread (n + 3) K 11 [some (rV 7 0 st), some (iV s), some (iV u), some (iV v), none] [] τ := by
  intro k
  induction k with
  | zero =>
    intro v h τ h1 hv t1 t2 hi hR
    have hv : v = s + 1 := by omega
    subst hv
    have hz : ∀ j, (u + 6) * 13 + (s + 1) + 6 ≤ j → j < (u + 6) * 13 + (s + 1) + 6 + ((12 - 2 * s).toNat : Int) → f j = 0 := by
      intro j j1 j2
      refine q_gp_z hp (fun q => ?_)
      unfold q_sq at q
      omega
    have g1 := q_gi_skips (12 - 2 * s).toNat _ (by omega) (by omega) hi hz
    have g2 := q_gs_skip (x := x) (y := y) (f := f) (h := h) (k := (169 - ((u + 7) * 13 + 6 - s)).toNat) (12 - 2 * s).toNat ((u + 6) * 13 + (s + 1) + 6) (fun j j1 j2 => by rw [hz j j1 j2]; omega)
    rw [show (u + 6) * 13 + (s + 1) + 6 + ((12 - 2 * s).toNat : Int) = (u + 7) * 13 + 6 - s by omega] at g1 g2
    rw [show (12 - 2 * s).toNat + (169 - ((u + 7) * 13 + 6 - s)).toNat = (169 - ((u + 6) * 13 + (s + 1) + 6)).toNat by omega, hR] at g2
    refine r_Stray_spread [(11, [true, true, true, true, false]), (47, [true, true, true, false, false])] 600 ?_
    repeat' (first | (refine mj_ite (fun h => ?_) (fun h => ?_) <;> first | (exfalso; omega) | skip) | refine mj_vci (by first | omega | (simp (disch := omega) only [up_ne, up_at, q_up_at, q_up_ne, cp_ne]; omega)) ?_)
    exact hnext _ τ t1 t2 g1 g2.symm
  | succ k ih =>
    intro v h τ h1 hv t1 t2 hi hR
    have tf : τ (st + 2) = f := (t1 (st + 2) (by omega)).trans hf
    rw [show (169 - ((u + 6) * 13 + v + 6)).toNat = (169 - ((u + 6) * 13 + (v + 1) + 6)).toNat + 1 by omega] at hR
    unfold q_gs at hR
    rw [show (u + 6) * 13 + v + 6 + 1 = (u + 6) * 13 + (v + 1) + 6 by omega] at hR
    have fn := hp.1 ((u + 6) * 13 + v + 6)
    refine r_Stray_spread [(11, [true, true, true, true, false]), (47, [true, true, true, false, false])] 600 ?_
    repeat' (first | (refine mj_ite (fun h => ?_) (fun h => ?_) <;> first | (exfalso; omega) | skip) | refine mj_vci (by first | omega | (simp (disch := omega) only [up_ne, up_at, q_up_at, q_up_ne, cp_ne]; omega)) ?_)
    refine c_Stray_at (by omega) (by omega) (fun r hr => ?_)
    rw [← hr] at hR fn hi
    have fe : τ (st + 2) r = f r := by rw [tf]
    have hri : 0 ≤ r ∧ r < 169 := by omega
    by_cases pos : 0 < f r
    · rw [if_pos pos] at hR
      obtain ⟨-, hel⟩ := hp.2.1 r pos
      obtain ⟨i1, i2, i3⟩ := hi
      rw [show (169 - r).toNat = (169 - (r + 1)).toNat + 1 by omega] at i3
      have e0 : q_sm f ((169 - (r + 1)).toNat + 1) r = f r + q_sm f (169 - (r + 1)).toNat (r + 1) := rfl
      rw [e0] at i3
      have sn := q_sm_nn hp.1 (169 - (r + 1)).toNat (r + 1)
      have sn2 := q_sm_nn i1 169 0
      repeat' (first | (refine mj_ite (fun h => ?_) (fun h => ?_) <;> first | (exfalso; omega) | skip) | refine mj_vci (by first | omega | (simp (disch := omega) only [up_ne, up_at, q_up_at, q_up_ne, cp_ne]; omega)) ?_)
      refine c_spreadFrom (e := r) (x := x) (y := y) hs hu (by omega) (by rw [t1 st (by omega)]; exact hx) (by rw [t1 st (by omega)]; exact hy) hxy (by rw [fe]; omega) hr hel t2 i1 i2 (by rw [fe]; omega) (fun τ' R' hR' n1 n2 n3 n4 n5 => ?_)
      rw [fe] at hR' n5
      rw [← hR'] at hR
      repeat' (first | (refine mj_ite (fun h => ?_) (fun h => ?_) <;> first | (exfalso; omega) | skip) | refine mj_vci (by first | omega | (simp (disch := omega) only [up_ne, up_at, q_up_at, q_up_ne, cp_ne]; omega)) ?_)
      refine ih (v + 1) R' τ' (by omega) (by omega) (fun o ho => (n1 o ho).trans (t1 o ho)) n2 ⟨n3, n4, ?_⟩ hR
      rw [n5, show (u + 6) * 13 + (v + 1) + 6 = r + 1 by omega]
      omega
    · rw [if_neg pos] at hR
      repeat' (first | (refine mj_ite (fun h => ?_) (fun h => ?_) <;> first | (exfalso; omega) | skip) | refine mj_vci (by first | omega | (simp (disch := omega) only [up_ne, up_at, q_up_at, q_up_ne, cp_ne]; omega)) ?_)
      refine ih (v + 1) _ τ (by omega) (by omega) t1 t2 ?_ hR
      rw [show (u + 6) * 13 + (v + 1) + 6 = r + 1 by omega]
      exact q_gi_skip hri hi (by omega)
theorem l_spread_out (hs : 0 ≤ s ∧ s ≤ 5) (hx : σ st 2 = x) (hy : σ st 3 = y) (hxy : q_land x y) (hp : q_gp x y s M f) (hM : 0 ≤ M ∧ M ≤ 1024) (hf : σ (st + 2) = f) {R : Int → Int} (hK : ∀ τ, (∀ o, o ≠ st + 1 → τ o = σ o) → τ (st + 1) = R → q_gp x y (s + 1) (4 * M) R → K none τ) :
    ∀ (k : Nat) (u : Int) (h : Int → Int) (τ : mj_W), u + k = s + 1 → -s ≤ u → (∀ o, o ≠ st + 1 → τ o = σ o) → τ (st + 1) = h → q_gi x y s M f h ((u + 6) * 13 + 6 - s) → q_gs x y f (169 - ((u + 6) * 13 + 6 - s)).toNat ((u + 6) * 13 + 6 - s) h = R → mj_Wm i_Stray_spread (n + 3) K 3 [some (rV 7 0 st), some (iV s), some (iV u), none, none] [] τ := by
  intro k
  induction k with
  | zero =>
    intro u h τ h1 hu t1 t2 hi hR
    have hu : u = s + 1 := by omega
    subst hu
    have hz : ∀ j, (s + 1 + 6) * 13 + 6 - s ≤ j → j < (s + 1 + 6) * 13 + 6 - s + ((169 - ((s + 1 + 6) * 13 + 6 - s)).toNat : Int) → f j = 0 := by
      intro j j1 j2
      refine q_gp_z hp (fun q => ?_)
      unfold q_sq at q
      omega
    have g1 := q_gi_skips (169 - ((s + 1 + 6) * 13 + 6 - s)).toNat _ (by omega) (by omega) hi hz
    have g2 := q_gs_skip (x := x) (y := y) (f := f) (h := h) (k := 0) (169 - ((s + 1 + 6) * 13 + 6 - s)).toNat ((s + 1 + 6) * 13 + 6 - s) (fun j j1 j2 => by rw [hz j j1 j2]; omega)
    rw [show (s + 1 + 6) * 13 + 6 - s + ((169 - ((s + 1 + 6) * 13 + 6 - s)).toNat : Int) = 169 by omega] at g1
    rw [Nat.add_zero, hR] at g2
    have g2 : R = h := g2
    subst g2
    refine r_Stray_spread [(3, [true, true, true, false, false])] 600 ?_
    repeat' (first | (refine mj_ite (fun h => ?_) (fun h => ?_) <;> first | (exfalso; omega) | skip) | refine mj_vci (by first | omega | (simp (disch := omega) only [up_ne, up_at, q_up_at, q_up_ne, cp_ne]; omega)) ?_)
    exact hK τ t1 t2 (q_gi_end g1)
  | succ k ih =>
    intro u h τ h1 hu t1 t2 hi hR
    have inner := l_spread_in (n := n) (K := K) (R := R) (σ := σ) hs (u := u) (by omega) hx hy hxy hp hM hf (fun h' τ' n1 n2 n3 n4 => by
      refine r_Stray_spread [(3, [true, true, true, false, false])] 600 ?_
      repeat' (first | (refine mj_ite (fun h => ?_) (fun h => ?_) <;> first | (exfalso; omega) | skip) | refine mj_vci (by first | omega | (simp (disch := omega) only [up_ne, up_at, q_up_at, q_up_ne, cp_ne]; omega)) ?_)
      exact ih (u + 1) h' τ' (by omega) (by omega) n1 n2 (by rw [show u + 1 + 6 = u + 7 by omega]; exact n3) (by rw [show u + 1 + 6 = u + 7 by omega]; exact n4)) (2 * s + 1).toNat (-s) h τ (by omega) (by omega) t1 t2 (by rw [show (u + 6) * 13 + -s + 6 = (u + 6) * 13 + 6 - s by omega]; exact hi) (by rw [show (u + 6) * 13 + -s + 6 = (u + 6) * 13 + 6 - s by omega]; exact hR)
    refine r_Stray_spread [(3, [true, true, true, false, false]), (11, [true, true, true, true, false])] 600 ?_
    repeat' (first | (refine mj_ite (fun h => ?_) (fun h => ?_) <;> first | (exfalso; omega) | skip) | refine mj_vci (by first | omega | (simp (disch := omega) only [up_ne, up_at, q_up_at, q_up_ne, cp_ne]; omega)) ?_)
    exact inner
theorem c_Stray_spread (hs : 0 ≤ s ∧ s ≤ 5) (hx : σ st 2 = x) (hy : σ st 3 = y) (hxy : q_land x y) (hp : q_gp x y s M (σ (st + 2))) (hM : 0 ≤ M ∧ M ≤ 1024) (hz : σ (st + 1) = (fun _ => 0)) (hK : ∀ τ, (∀ o, o ≠ st + 1 → τ o = σ o) → τ (st + 1) = q_st x y (σ (st + 2)) → q_gp x y (s + 1) (4 * M) (q_st x y (σ (st + 2))) → K none τ) : mj_Ok (n + 3) i_Stray_spread [rV 7 0 st, iV s] σ K := by
  have hz9 : ∀ j, 0 ≤ j → j < 0 + (((-s + 6) * 13 + 6 - s).toNat : Int) → σ (st + 2) j = 0 := by
    intro j j1 j2
    refine q_gp_z hp (fun q => ?_)
    unfold q_sq at q
    omega
  have g1 := q_gi_skips ((-s + 6) * 13 + 6 - s).toNat _ (by omega) (by omega) (q_gi_0 hp) hz9
  have g2 := q_gs_skip (x := x) (y := y) (f := σ (st + 2)) (h := fun _ => 0) (k := (169 - ((-s + 6) * 13 + 6 - s)).toNat) ((-s + 6) * 13 + 6 - s).toNat 0 (fun j j1 j2 => by rw [hz9 j j1 j2]; omega)
  rw [show (0 : Int) + (((-s + 6) * 13 + 6 - s).toNat : Int) = (-s + 6) * 13 + 6 - s by omega] at g1 g2
  rw [show ((-s + 6) * 13 + 6 - s).toNat + (169 - ((-s + 6) * 13 + 6 - s)).toNat = 169 by omega] at g2
  refine mj_enter (by decide) (Nat.le_of_ble_eq_true rfl) (fun hg => ?_)
  refine r_Stray_spread [(3, [true, true, true, false, false])] 600 ?_
  repeat' (first | (refine mj_ite (fun h => ?_) (fun h => ?_) <;> first | (exfalso; omega) | skip) | refine mj_vci (by first | omega | (simp (disch := omega) only [up_ne, up_at, q_up_at, q_up_ne, cp_ne]; omega)) ?_)
  exact l_spread_out hs hx hy hxy hp hM rfl (fun τ n1 n2 n3 => hK τ n1 n2 n3) (2 * s + 1).toNat (-s) (fun _ => 0) σ (by omega) (by omega) (fun _ _ => rfl) hz g1 g2.symm
theorem l_Stray_walk {kk : Nat} (hl : mj_ln (st + 1) = 169 ∧ mj_ln (st + 2) = 169) (hx : σ st 2 = x) (hy : σ st 3 = y) (hxy : q_land x y) (hkk : kk ≤ 6) (hk : k = (kk : Int)) {R : Int → Int} (hK : ∀ τ, (∀ o, o ≠ st + 1 → o ≠ st + 2 → τ o = σ o) → τ (st + 1) = R → q_gp x y kk ((4 ^ kk : Nat) : Int) R → K none τ) :
    ∀ (m j : Nat) (τ : mj_W), j + m = kk → (∀ o, o ≠ st + 1 → o ≠ st + 2 → τ o = σ o) → q_gp x y j ((4 ^ j : Nat) : Int) (τ (st + 1)) → q_it x y m (τ (st + 1)) = R → mj_Wm i_Stray_walk (n + 4) K 28 [some (rV 7 0 st), some (iV x), some (iV y), some (iV k), some (iV (j : Int))] [] τ := by
  intro m
  induction m with
  | zero =>
    intro j τ h1 hf hp hR
    have : j = kk := by omega
    subst this
    have hR : τ (st + 1) = R := hR
    refine r_Stray_walk [(28, [true, true, true, true, true])] 600 ?_
    repeat' (first | (refine mj_ite (fun h => ?_) (fun h => ?_) <;> first | (exfalso; omega) | skip) | refine mj_vci (by first | omega | (simp (disch := omega) only [up_ne, up_at, q_up_at, q_up_ne, cp_ne]; omega)) ?_)
    exact hK τ hf hR (by rw [← hR]; exact hp)
  | succ m ih =>
    intro j τ h1 hf hp hR
    have b1 := q_4b (j := j) (by omega)
    have b2 := q_4c (j := j) (by omega)
    have hR : q_it x y m (q_st x y (τ (st + 1))) = R := hR
    refine mj_rgW (fun hgt => ?_)
    have k1 : mj_cp τ (st + 1) (st + 2) 169 (st + 2) = τ (st + 1) := cp_at hgt (by omega) (by omega)
    refine r_Stray_walk [(28, [true, true, true, true, true])] 600 ?_
    repeat' (first | (refine mj_ite (fun h => ?_) (fun h => ?_) <;> first | (exfalso; omega) | skip) | refine mj_vci (by first | omega | (simp (disch := omega) only [up_ne, up_at, q_up_at, q_up_ne, cp_ne]; omega)) ?_)
    refine c_Stray_clear hl.1 (fun σ1 s1 s2 => ?_)
    have e2 : σ1 (st + 2) = τ (st + 1) := (s2 (st + 2) (by omega)).trans k1
    have e0 : σ1 st = σ st := by rw [s2 st (by omega), cp_ne _ _ _ (by omega)]; exact hf st (by omega) (by omega)
    refine c_Stray_spread (s := (j : Int)) (x := x) (y := y) (M := ((4 ^ j : Nat) : Int)) (by omega) (by rw [e0]; exact hx) (by rw [e0]; exact hy) hxy (by rw [e2]; exact hp) (by omega) s1 (fun τ' n1 n2 n3 => ?_)
    rw [e2] at n2 n3
    have nx := ih (j + 1) τ' (by omega) (fun o o1 o2 => by rw [n1 o o1, s2 o o1, cp_ne _ _ _ o2]; exact hf o o1 o2) (by
      rw [n2, q_4s, Int.mul_comm]
      have e : ((j + 1 : Nat) : Int) = (j : Int) + 1 := by omega
      rw [e]
      exact n3) (by rw [n2]; exact hR)
    rw [show ((j + 1 : Nat) : Int) = (j : Int) + 1 by omega] at nx
    repeat' (first | (refine mj_ite (fun h => ?_) (fun h => ?_) <;> first | (exfalso; omega) | skip) | refine mj_vci (by first | omega | (simp (disch := omega) only [up_ne, up_at, q_up_at, q_up_ne, cp_ne]; omega)) ?_)
    exact nx
theorem c_Stray_walk (hl : mj_ln (st + 1) = 169 ∧ mj_ln (st + 2) = 169) (hxy : q_land x y) (hk : 0 ≤ k ∧ k ≤ 6) (hK : ∀ τ R, R = q_it x y k.toNat q_g0 → (∀ o, o ≠ st → o ≠ st + 1 → o ≠ st + 2 → τ o = σ o) → τ st 2 = x → τ st 3 = y → τ (st + 1) = R → q_gp x y k.toNat ((4 ^ k.toNat : Nat) : Int) R → K none τ) : mj_Ok (n + 4) i_Stray_walk [rV 7 0 st, iV x, iV y, iV k] σ K := by
  refine mj_enter (by decide) (Nat.le_of_ble_eq_true rfl) (fun hg => ?_)
  refine r_Stray_walk [(28, [true, true, true, true, true])] 600 ?_
  refine c_Stray_clear hl.1 (fun σ1 s1 s2 => ?_)
  repeat' (first | (refine mj_ite (fun h => ?_) (fun h => ?_) <;> first | (exfalso; omega) | skip) | refine mj_vci (by first | omega | (simp (disch := omega) only [up_ne, up_at, q_up_at, q_up_ne, cp_ne]; omega)) ?_)
  refine c_Stray_at (by omega) (by omega) (fun r hr => ?_)
  have hr : r = 84 := by omega
  subst hr
  have g0 : mj_up σ1 (st + 1) 84 1 (st + 1) = q_g0 := by rw [up_at, s1]; rfl
  have f0 : mj_up σ1 (st + 1) 84 1 st = σ1 st := up_ne _ _ _ (by omega)
  have fx : mj_up σ1 (st + 1) 84 1 st 2 = x := by rw [f0, s2 st (by omega), up_at, q_up_ne _ _ (by omega), up_at, q_up_at]
  have fy : mj_up σ1 (st + 1) 84 1 st 3 = y := by rw [f0, s2 st (by omega), up_at, q_up_at]
  repeat' (first | (refine mj_ite (fun h => ?_) (fun h => ?_) <;> first | (exfalso; omega) | skip) | refine mj_vci (by first | omega | (simp (disch := omega) only [up_ne, up_at, q_up_at, q_up_ne, cp_ne]; omega)) ?_)
  refine l_Stray_walk (kk := k.toNat) hl fx fy hxy (by omega) (by omega) (fun τ n1 n2 n3 => hK τ _ rfl (fun o o1 o2 o3 => ?_) ?_ ?_ n2 n3) k.toNat 0 _ (by omega) (fun _ _ _ => rfl) (by rw [g0]; exact q_gp_0 hxy) (by rw [g0])
  · rw [n1 o o2 o3, up_ne _ _ _ o2, s2 o o2, up_ne _ _ _ o1, up_ne _ _ _ o1]
  · rw [n1 st (by omega) (by omega)]; exact fx
  · rw [n1 st (by omega) (by omega)]; exact fy
theorem l_Stray_waysTo (hB : q_gB σ b) (hx : σ st 2 = x) (hy : σ st 3 = y) (hp : q_gp x y c M f) (hM : M ≤ 4096) (hf : σ (st + 1) = f) {R : Int} (hK : K (some (iV R)) σ) :
    ∀ (m : Nat) (i u v a : Int), 0 ≤ i → i + m = 169 → (-6 ≤ u ∧ -6 ≤ v ∧ v ≤ 6 ∧ i = (u + 6) * 13 + v + 6) → (0 ≤ a ∧ a + q_sm f m i ≤ M) → q_gt (σ b 5) (σ b 6) (q_BC σ b) x y s f m i a = R → 0 < m → mj_Wm i_Stray_waysTo (n + 4) K 17 [some (rV 7 0 st), some (rV 1 0 b), some (iV s), some (iV a), some (iV u), some (iV v), none] [] σ := by
  intro m
  induction m with
  | zero => intro i u v a h0 h1 huv ha hR hm; omega
  | succ m ih =>
    intro i u v a h0 h1 huv ha hR hm
    unfold q_gt at hR
    have sn := q_sm_nn hp.1 m (i + 1)
    have es : q_sm f (m + 1) i = f i + q_sm f m (i + 1) := rfl
    have fn := hp.1 i
    have fe : σ (st + 1) i = f i := by rw [hf]
    have eu : i / 13 = u + 6 := by omega
    have ev : i % 13 = v + 6 := by omega
    have next : ∀ a', (0 ≤ a' ∧ a' + q_sm f m (i + 1) ≤ M) → q_gt (σ b 5) (σ b 6) (q_BC σ b) x y s f m (i + 1) a' = R → mj_Wm i_Stray_waysTo (n + 4) K 70 [some (rV 7 0 st), some (rV 1 0 b), some (iV s), some (iV a'), some (iV u), some (iV v), none] [] σ := by
      intro a' n1 n2
      by_cases e3 : v = 6
      · subst e3
        have m76 : mj_Wm i_Stray_waysTo (n + 4) K 76 [some (rV 7 0 st), some (rV 1 0 b), some (iV s), some (iV a'), some (iV u), some (iV (6 + 1)), none] [] σ := by
          by_cases e7 : u = 6
          · have : m = 0 := by omega
            subst this
            have n2 : a' = R := n2
            subst n2
            refine r_Stray_waysTo [(17, [true, true, true, true, true, true, false]), (70, [true, true, true, true, true, true, false])] 600 ?_
            repeat' (first | (refine mj_ite (fun h => ?_) (fun h => ?_) <;> first | (exfalso; omega) | skip) | refine mj_vci (by first | omega | (simp (disch := omega) only [up_ne, up_at, q_up_at, q_up_ne, cp_ne]; omega)) ?_)
            exact hK
          · refine r_Stray_waysTo [(17, [true, true, true, true, true, true, false]), (70, [true, true, true, true, true, true, false])] 600 ?_
            repeat' (first | (refine mj_ite (fun h => ?_) (fun h => ?_) <;> first | (exfalso; omega) | skip) | refine mj_vci (by first | omega | (simp (disch := omega) only [up_ne, up_at, q_up_at, q_up_ne, cp_ne]; omega)) ?_)
            exact ih (i + 1) (u + 1) (-6) a' (by omega) (by omega) (by omega) n1 n2 (by omega)
        refine r_Stray_waysTo [(76, [true, true, true, true, true, true, false])] 600 ?_
        repeat' (first | (refine mj_ite (fun h => ?_) (fun h => ?_) <;> first | (exfalso; omega) | skip) | refine mj_vci (by first | omega | (simp (disch := omega) only [up_ne, up_at, q_up_at, q_up_ne, cp_ne]; omega)) ?_)
        exact m76
      · refine r_Stray_waysTo [(17, [true, true, true, true, true, true, false]), (70, [true, true, true, true, true, true, false])] 600 ?_
        repeat' (first | (refine mj_ite (fun h => ?_) (fun h => ?_) <;> first | (exfalso; omega) | skip) | refine mj_vci (by first | omega | (simp (disch := omega) only [up_ne, up_at, q_up_at, q_up_ne, cp_ne]; omega)) ?_)
        exact ih (i + 1) u (v + 1) a' (by omega) (by omega) (by omega) n1 n2 (by omega)
    refine r_Stray_waysTo [(17, [true, true, true, true, true, true, false]), (70, [true, true, true, true, true, true, false])] 600 ?_
    repeat' (first | (refine mj_ite (fun h => ?_) (fun h => ?_) <;> first | (exfalso; omega) | skip) | refine mj_vci (by first | omega | (simp (disch := omega) only [up_ne, up_at, q_up_at, q_up_ne, cp_ne]; omega)) ?_)
    refine c_Stray_at (by omega) (by omega) (fun r hr => ?_)
    have hr : r = i := by omega
    subst hr
    by_cases pos : 0 < f r
    · obtain ⟨-, hl⟩ := hp.2.1 r pos
      repeat' (first | (refine mj_ite (fun h => ?_) (fun h => ?_) <;> first | (exfalso; omega) | skip) | refine mj_vci (by first | omega | (simp (disch := omega) only [up_ne, up_at, q_up_at, q_up_ne, cp_ne]; omega)) ?_)
      refine c_Border_sideOf hB (by rw [hx]; omega) (by rw [hy]; omega) ?_
      have e9 : q_side (q_X σ b) (q_Y σ b) (σ b 4 + 1) (σ st 2 + u) (σ st 3 + v) = q_sideB (σ b 5) (σ b 6) (q_BC σ b) (x + r / 13 - 6) (y + r % 13 - 6) := by
        rw [eu, ev, hx, hy, show x + (u + 6) - 6 = x + u by omega, show y + (v + 6) - 6 = y + v by omega]
        rfl
      rw [e9]
      generalize q_sideB (σ b 5) (σ b 6) (q_BC σ b) (x + r / 13 - 6) (y + r % 13 - 6) = q at hR
      by_cases er : q = s
      · rw [if_pos ⟨pos, er⟩, ← fe] at hR
        repeat' (first | (refine mj_ite (fun h => ?_) (fun h => ?_) <;> first | (exfalso; omega) | skip) | refine mj_vci (by first | omega | (simp (disch := omega) only [up_ne, up_at, q_up_at, q_up_ne, cp_ne]; omega)) ?_)
        exact next _ (by omega) hR
      · rw [if_neg (fun q => er q.2), Int.add_zero] at hR
        repeat' (first | (refine mj_ite (fun h => ?_) (fun h => ?_) <;> first | (exfalso; omega) | skip) | refine mj_vci (by first | omega | (simp (disch := omega) only [up_ne, up_at, q_up_at, q_up_ne, cp_ne]; omega)) ?_)
        exact next _ (by omega) hR
    · rw [if_neg (fun q => pos q.1), Int.add_zero] at hR
      repeat' (first | (refine mj_ite (fun h => ?_) (fun h => ?_) <;> first | (exfalso; omega) | skip) | refine mj_vci (by first | omega | (simp (disch := omega) only [up_ne, up_at, q_up_at, q_up_ne, cp_ne]; omega)) ?_)
      exact next _ (by omega) hR
theorem c_Stray_waysTo (hB : q_gB σ b) (hx : σ st 2 = x) (hy : σ st 3 = y) (hp : q_gp x y c M (σ (st + 1))) (hM : M ≤ 4096) (hK : ∀ r, r = q_gt (σ b 5) (σ b 6) (q_BC σ b) x y s (σ (st + 1)) 169 0 0 → (0 ≤ r ∧ r ≤ M) → K (some (iV r)) σ) : mj_Ok (n + 4) i_Stray_waysTo [rV 7 0 st, rV 1 0 b, iV s] σ K := by
  have hb := q_gt_b (w := σ b 5) (e := σ b 6) (B := q_BC σ b) (x := x) (y := y) (s := s) hp.1 169 0 0
  have m0 := hp.2.2
  refine mj_enter (by decide) (Nat.le_of_ble_eq_true rfl) (fun hg => ?_)
  refine r_Stray_waysTo [(17, [true, true, true, true, true, true, false])] 600 ?_
  repeat' (first | (refine mj_ite (fun h => ?_) (fun h => ?_) <;> first | (exfalso; omega) | skip) | refine mj_vci (by first | omega | (simp (disch := omega) only [up_ne, up_at, q_up_at, q_up_ne, cp_ne]; omega)) ?_)
  exact l_Stray_waysTo hB hx hy hp hM rfl (hK _ rfl (by omega)) 169 0 (-6) (-6) 0 (by omega) (by omega) (by omega) (by omega) rfl (by omega)
theorem q_shk0 : ∀ j : Fin 7, mj_shl 1 (2 * (j.val : Int)) = ((4 ^ j.val : Nat) : Int) := by decide +kernel
theorem q_shk {k : Int} (h : 0 ≤ k ∧ k ≤ 6) : mj_shl 1 (2 * k) = ((4 ^ k.toNat : Nat) : Int) := by
  have := q_shk0 ⟨k.toNat, by omega⟩
  have e : ((k.toNat : Nat) : Int) = k := by omega
  simp only [e] at this
  exact this
theorem q_shl0 : ∀ j : Fin 13, (1 < mj_shl 1 (j.val : Int) ↔ 0 < j.val) ∧ (0 < j.val → mj_shl 1 (j.val : Int) / 2 = mj_shl 1 ((j.val : Int) + -1)) := by decide +kernel
theorem q_shl {h : Int} (hh : 0 ≤ h ∧ h ≤ 12) : (1 < mj_shl 1 h ↔ 0 < h) ∧ (0 < h → mj_shl 1 h / 2 = mj_shl 1 (h + -1)) := by
  have := q_shl0 ⟨h.toNat, by omega⟩
  have e : ((h.toNat : Nat) : Int) = h := by omega
  simp only [e] at this
  exact ⟨⟨fun q => by have := this.1.1 q; omega, fun q => this.1.2 (by omega)⟩, fun q => this.2 (by omega)⟩
theorem l_S_goat {R : Int × Int} (hp : p = 0 ∨ p = 1) (hK : K (some (jV (if p = 0 then R.1 else R.2))) σ) : ∀ (m : Nat) (u w : Int), 0 ≤ u → (0 ≤ w ∧ w < m ∧ w ≤ 12) → q_lowF m u (mj_shl 1 w) = R → mj_Wm i_S_goat (n + 5) K 74 [some (rV 11 0 0), some (iV x), some (iV y), some (iV k), some (iV s), some (iV p), some (iV u), some (iV w)] [] σ := by
  have fin : ∀ u w : Int, (u, mj_shl 1 w) = R → mj_Wm i_S_goat (n + 5) K 98 [some (rV 11 0 0), some (iV x), some (iV y), some (iV k), some (iV s), some (iV p), some (iV u), some (iV w)] [] σ := by
    intro u w e
    subst e
    refine r_S_goat [] 600 ?_
    repeat' (first | (refine mj_ite (fun h => ?_) (fun h => ?_) <;> first | (exfalso; omega) | skip) | refine mj_vci (by first | omega | (simp (disch := omega) only [up_ne, up_at, q_up_at, q_up_ne, cp_ne]; omega)) ?_)
    · rw [if_pos (by assumption)] at hK; exact hK
    · rw [if_neg (by assumption)] at hK; exact hK
  intro m
  induction m with
  | zero =>
    intro u w hu hl hR
    omega
  | succ m ih =>
    intro u w hu hl hR
    obtain ⟨f1, f2⟩ := q_shl (h := w) (by omega)
    unfold q_lowF at hR
    by_cases c : 0 < w ∧ u % 2 = 0
    · rw [if_pos ⟨f1.2 c.1, c.2⟩, f2 c.1] at hR
      have nx := ih (u / 2) (w + -1) (by omega) (by omega) hR
      refine r_S_goat [(74, [true, true, true, true, true, true, true, true]), (98, [true, true, true, true, true, true, true, true])] 600 ?_
      repeat' (first | (refine mj_ite (fun h => ?_) (fun h => ?_) <;> first | (exfalso; omega) | skip) | refine mj_vci (by first | omega | (simp (disch := omega) only [up_ne, up_at, q_up_at, q_up_ne, cp_ne]; omega)) ?_)
      exact nx
    · rw [if_neg (fun q => c ⟨f1.1 q.1, q.2⟩)] at hR
      refine r_S_goat [(74, [true, true, true, true, true, true, true, true]), (98, [true, true, true, true, true, true, true, true])] 600 ?_
      repeat' (first | (refine mj_ite (fun h => ?_) (fun h => ?_) <;> first | (exfalso; omega) | skip) | refine mj_vci (by first | omega | (simp (disch := omega) only [up_ne, up_at, q_up_at, q_up_ne, cp_ne]; omega)) ?_)
      all_goals exact fin _ _ hR
theorem c_S_goat (hC : q_C σ) (h1 : ¬ (q_land x y ∧ (0 ≤ k ∧ k ≤ 6) ∧ (0 ≤ s ∧ s ≤ 2) ∧ 0 ≤ p ∧ p ≤ 1) → K (some (jV (-1000000000000000002))) σ) (h2 : (q_land x y ∧ (0 ≤ k ∧ k ≤ 6) ∧ (0 ≤ s ∧ s ≤ 2) ∧ 0 ≤ p ∧ p ≤ 1) → ∀ r σ', q_Fc σ σ' → r = q_gA (σ 2 5) (σ 2 6) (q_BC σ 2) x y k s p → K (some (jV r)) σ') : mj_Ok (n + 5) i_S_goat [rV 11 0 0, iV x, iV y, iV k, iV s, iV p] σ K := by
  obtain ⟨hL, -⟩ := hC
  by_cases hin : q_land x y ∧ (0 ≤ k ∧ k ≤ 6) ∧ (0 ≤ s ∧ s ≤ 2) ∧ 0 ≤ p ∧ p ≤ 1
  · have key := h2 hin
    obtain ⟨hxy, hk, hs, hp⟩ := hin
    have ek := q_shk hk
    have kb := q_4b (j := k.toNat) (by omega)
    refine mj_enter (by decide) (Nat.le_of_ble_eq_true rfl) (fun hg => ?_)
    refine r_S_goat [(74, [true, true, true, true, true, true, true, true])] 600 ?_
    refine c_S_isLand (fun a1 a2 a3 a4 => ?_) (fun a0 => absurd hxy a0)
    repeat' (first | (refine mj_ite (fun h => ?_) (fun h => ?_) <;> first | (exfalso; omega) | skip) | refine mj_vci (by first | omega | (simp (disch := omega) only [up_ne, up_at, q_up_at, q_up_ne, cp_ne]; omega)) ?_)
    refine c_S_isSide (fun b1 b2 => ?_) (fun b0 => absurd hs b0)
    repeat' (first | (refine mj_ite (fun h => ?_) (fun h => ?_) <;> first | (exfalso; omega) | skip) | refine mj_vci (by first | omega | (simp (disch := omega) only [up_ne, up_at, q_up_at, q_up_ne, cp_ne]; omega)) ?_)
    refine c_Stray_walk (st := 54) (by decide +kernel) hxy hk (fun τ f hf t1 t2 t3 t4 t5 => ?_)
    have hF : q_Fc σ τ := fun o ho => t1 o (by omega) (by omega) (by omega)
    have e2 : τ 2 = σ 2 := hF 2 (by omega)
    have eB : q_BC τ 2 = q_BC σ 2 := by
      show (_, _, _, _, _) = (_, _, _, _, _)
      rw [e2, hF (2 + 1) (by omega), hF (2 + 2) (by omega), hF (2 + 3) (by omega), hF (2 + 4) (by omega)]
    have gB : q_gB τ 2 := by
      have := hL.g
      unfold q_gB at this ⊢
      rw [e2, hF (2 + 4) (by omega), hF (2 + 1) (by omega), hF (2 + 2) (by omega)]
      exact this
    refine c_Stray_waysTo (st := 54) (b := 2) (x := x) (y := y) (c := (k.toNat : Int)) (M := ((4 ^ k.toNat : Nat) : Int)) gB t2 t3 (by rw [t4]; exact t5) (by omega) (fun r hr hrb => ?_)
    rw [t4, e2, eB, hf] at hr
    obtain ⟨u, hu⟩ : ∃ u : Nat, r = (u : Int) := ⟨r.toNat, by omega⟩
    have hlow := q_low (k := k.toNat) (u := u) (by omega) (by omega)
    have hans : q_gA (σ 2 5) (σ 2 6) (q_BC σ 2) x y k s p = if p = 0 then ((u / Nat.gcd (4 ^ k.toNat) u : Nat) : Int) else ((4 ^ k.toNat / Nat.gcd (4 ^ k.toNat) u : Nat) : Int) := by
      unfold q_gA
      rw [← hr, hu, show ((u : Int)).toNat = u by omega]
    have fin := l_S_goat (n := n) (K := K) (σ := τ) (x := x) (y := y) (k := k) (s := s) (p := p) (R := q_lowF 13 (u : Int) ((4 ^ k.toNat : Nat) : Int)) (by omega) (by rw [hlow]; exact key _ τ hF hans.symm) 13 (u : Int) (2 * k) (by omega) (by omega) (by rw [ek])
    rw [← hu] at fin
    repeat' (first | (refine mj_ite (fun h => ?_) (fun h => ?_) <;> first | (exfalso; omega) | skip) | refine mj_vci (by first | omega | (simp (disch := omega) only [up_ne, up_at, q_up_at, q_up_ne, cp_ne]; omega)) ?_)
    exact fin
  · refine mj_enter (by decide) (Nat.le_of_ble_eq_true rfl) (fun hg => ?_)
    refine r_S_goat [(74, [true, true, true, true, true, true, true, true])] 600 ?_
    refine c_S_isLand (fun a1 a2 a3 a4 => ?_) (fun a0 => ?_)
    · by_cases hk : 0 ≤ k ∧ k ≤ 6
      · repeat' (first | (refine mj_ite (fun h => ?_) (fun h => ?_) <;> first | (exfalso; omega) | skip) | refine mj_vci (by first | omega | (simp (disch := omega) only [up_ne, up_at, q_up_at, q_up_ne, cp_ne]; omega)) ?_)
        refine c_S_isSide (fun b1 b2 => ?_) (fun b0 => ?_)
        · repeat' (first | (refine mj_ite (fun h => ?_) (fun h => ?_) <;> first | (exfalso; omega) | skip) | refine mj_vci (by first | omega | (simp (disch := omega) only [up_ne, up_at, q_up_at, q_up_ne, cp_ne]; omega)) ?_)
          all_goals exact h1 hin
        · repeat' (first | (refine mj_ite (fun h => ?_) (fun h => ?_) <;> first | (exfalso; omega) | skip) | refine mj_vci (by first | omega | (simp (disch := omega) only [up_ne, up_at, q_up_at, q_up_ne, cp_ne]; omega)) ?_)
          exact h1 hin
      · repeat' (first | (refine mj_ite (fun h => ?_) (fun h => ?_) <;> first | (exfalso; omega) | skip) | refine mj_vci (by first | omega | (simp (disch := omega) only [up_ne, up_at, q_up_at, q_up_ne, cp_ne]; omega)) ?_)
        all_goals exact h1 hin
    · repeat' (first | (refine mj_ite (fun h => ?_) (fun h => ?_) <;> first | (exfalso; omega) | skip) | refine mj_vci (by first | omega | (simp (disch := omega) only [up_ne, up_at, q_up_at, q_up_ne, cp_ne]; omega)) ?_)
      exact h1 hin
end S10
