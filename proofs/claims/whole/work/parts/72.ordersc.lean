/-! orders: the class -/
theorem q_vonF_tb {bits : Int} {vx vy X Y : Int → Int} {m s : Int} {u : Int} (hu : 0 ≤ u ∧ u ≤ 7) : ∀ (k : Nat) (i a : Int), 0 ≤ i → i + k = 8 → 0 ≤ a ∧ a ≤ 255 → (q_tb (q_vonF bits vx vy X Y m s a i k) u = true ↔ (q_tb a u = true ∨ (i ≤ u ∧ q_tb bits u = true ∧ q_side X Y m (vx u) (vy u) = s))) := by
  intro k
  induction k with
  | zero =>
    intro i a h0 h1 ha
    show q_tb a u = true ↔ _
    constructor
    · exact fun q => Or.inl q
    · rintro (q | q)
      · exact q
      · omega
  | succ k ih =>
    intro i a h0 h1 ha
    unfold q_vonF
    by_cases c : q_tb bits i = true ∧ q_side X Y m (vx i) (vy i) = s
    · rw [if_pos c, ih (i + 1) _ (by omega) (by omega) (q_tbs ha (v := i) (by omega)).2.2.1, q_tbo ha (v := i) (by omega) hu, Bool.or_eq_true, decide_eq_true_eq]
      constructor
      · rintro ((q | q) | ⟨q1, q2⟩)
        · exact Or.inl q
        · subst q; exact Or.inr ⟨by omega, c⟩
        · exact Or.inr ⟨by omega, q2⟩
      · rintro (q | ⟨q1, q2⟩)
        · exact Or.inl (Or.inl q)
        · by_cases e : u = i
          · exact Or.inl (Or.inr e)
          · exact Or.inr ⟨by omega, q2⟩
    · rw [if_neg c, ih (i + 1) _ (by omega) (by omega) ha]
      constructor
      · rintro (q | ⟨q1, q2⟩)
        · exact Or.inl q
        · exact Or.inr ⟨by omega, q2⟩
      · rintro (q | ⟨q1, q2⟩)
        · exact Or.inl q
        · by_cases e : u = i
          · subst e; exact absurd q2 c
          · exact Or.inr ⟨by omega, q2⟩
theorem q_vonF_c {bits : Int} {vx vy X Y X' Y' : Int → Int} {m m' s : Int} : ∀ (k : Nat) (i a : Int), 0 ≤ i → i + k = 8 → (∀ v, 0 ≤ v → v ≤ 7 → q_tb bits v = true → q_side X' Y' m' (vx v) (vy v) = q_side X Y m (vx v) (vy v)) → q_vonF bits vx vy X' Y' m' s a i k = q_vonF bits vx vy X Y m s a i k := by
  intro k
  induction k with
  | zero => intro i a _ _ _; rfl
  | succ k ih =>
    intro i a h0 h1 h
    unfold q_vonF
    have e : (if q_tb bits i = true ∧ q_side X' Y' m' (vx i) (vy i) = s then mj_or a (mj_shl 1 i) else a) = (if q_tb bits i = true ∧ q_side X Y m (vx i) (vy i) = s then mj_or a (mj_shl 1 i) else a) := by
      by_cases t : q_tb bits i = true
      · rw [h i h0 (by omega) t]
      · rw [if_neg (fun q => t q.1), if_neg (fun q => t q.1)]
    rw [e]
    exact ih (i + 1) _ (by omega) (by omega) h
theorem q_fits {w e : Int} {B B' : q_B} {bits : Int} {vx vy : Int → Int} : (q_vonB w e B' bits vx vy 0 = q_vonB w e B bits vx vy 0 ∧ q_vonB w e B' bits vx vy 1 = q_vonB w e B bits vx vy 1) ↔ ∀ v, 0 ≤ v → v ≤ 7 → q_tb bits v = true → q_sideB w e B' (vx v) (vy v) = q_sideB w e B (vx v) (vy v) := by
  constructor
  · rintro ⟨h0, h1⟩ v v0 v1 vt
    have a0 : q_sideB w e B' (vx v) (vy v) = 0 ↔ q_sideB w e B (vx v) (vy v) = 0 := by
      have t1 := q_vonF_tb (bits := bits) (vx := vx) (vy := vy) (X := q_cx B.1 B.2.1 B.2.2.1) (Y := q_cy B.1 w e B.2.1 B.2.2.2.1) (m := B.1 + 1) (s := 0) (u := v) ⟨v0, v1⟩ 8 0 0 (by omega) (by omega) (by omega)
      have t2 := q_vonF_tb (bits := bits) (vx := vx) (vy := vy) (X := q_cx B'.1 B'.2.1 B'.2.2.1) (Y := q_cy B'.1 w e B'.2.1 B'.2.2.2.1) (m := B'.1 + 1) (s := 0) (u := v) ⟨v0, v1⟩ 8 0 0 (by omega) (by omega) (by omega)
      have z : q_tb 0 v = false := by unfold q_tb; simp
      have h0 : q_vonF bits vx vy (q_cx B'.1 B'.2.1 B'.2.2.1) (q_cy B'.1 w e B'.2.1 B'.2.2.2.1) (B'.1 + 1) 0 0 0 8 = q_vonF bits vx vy (q_cx B.1 B.2.1 B.2.2.1) (q_cy B.1 w e B.2.1 B.2.2.2.1) (B.1 + 1) 0 0 0 8 := h0
      rw [h0] at t2
      have t3 := t2.symm.trans t1
      rw [z] at t3
      constructor
      · intro q
        rcases t3.mp (Or.inr ⟨v0, vt, q⟩) with c | c
        · exact absurd c (by decide)
        · exact c.2.2
      · intro q
        rcases t3.mpr (Or.inr ⟨v0, vt, q⟩) with c | c
        · exact absurd c (by decide)
        · exact c.2.2
    have a1 : q_sideB w e B' (vx v) (vy v) = 1 ↔ q_sideB w e B (vx v) (vy v) = 1 := by
      have t1 := q_vonF_tb (bits := bits) (vx := vx) (vy := vy) (X := q_cx B.1 B.2.1 B.2.2.1) (Y := q_cy B.1 w e B.2.1 B.2.2.2.1) (m := B.1 + 1) (s := 1) (u := v) ⟨v0, v1⟩ 8 0 0 (by omega) (by omega) (by omega)
      have t2 := q_vonF_tb (bits := bits) (vx := vx) (vy := vy) (X := q_cx B'.1 B'.2.1 B'.2.2.1) (Y := q_cy B'.1 w e B'.2.1 B'.2.2.2.1) (m := B'.1 + 1) (s := 1) (u := v) ⟨v0, v1⟩ 8 0 0 (by omega) (by omega) (by omega)
      have z : q_tb 0 v = false := by unfold q_tb; simp
      have h1 : q_vonF bits vx vy (q_cx B'.1 B'.2.1 B'.2.2.1) (q_cy B'.1 w e B'.2.1 B'.2.2.2.1) (B'.1 + 1) 1 0 0 8 = q_vonF bits vx vy (q_cx B.1 B.2.1 B.2.2.1) (q_cy B.1 w e B.2.1 B.2.2.2.1) (B.1 + 1) 1 0 0 8 := h1
      rw [h1] at t2
      have t3 := t2.symm.trans t1
      rw [z] at t3
      constructor
      · intro q
        rcases t3.mp (Or.inr ⟨v0, vt, q⟩) with c | c
        · exact absurd c (by decide)
        · exact c.2.2
      · intro q
        rcases t3.mpr (Or.inr ⟨v0, vt, q⟩) with c | c
        · exact absurd c (by decide)
        · exact c.2.2
    have b0 := q_sideB_in w e B' (vx v) (vy v)
    have b1 := q_sideB_in w e B (vx v) (vy v)
    omega
  · intro h
    exact ⟨q_vonF_c 8 0 0 (by omega) (by omega) h, q_vonF_c 8 0 0 (by omega) (by omega) h⟩
section S9
variable {n b dd v bk fo : Nat} {σ : mj_W} {K : Option mj_V → mj_W → Prop} {x y p w i j c d s pl m N S : Int}
theorem l_Deaths_keepOnly (hS : 0 ≤ S ∧ S ≤ 255) {L : List Int} (hL : ∀ u ∈ L, 0 ≤ u ∧ u ≤ 7) (hK : ∀ σ', q_wB (q_BC σ' b) → q_rl (σ' (b + 4)) (σ' b 4) = L.filter (fun u => q_tb S u) → (∀ f, f ≠ 4 → σ' b f = σ b f) → (∀ o, o ≠ b → o ≠ b + 4 → σ' o = σ o) → K none σ') :
    ∀ (k : Nat) (p : Int) (τ : mj_W), 0 ≤ p → p + k = 8 → q_wB (q_BC τ b) → q_rl (τ (b + 4)) (τ b 4) = L.filter (fun u => decide (p ≤ u) || q_tb S u) → (∀ f, f ≠ 4 → τ b f = σ b f) → (∀ o, o ≠ b → o ≠ b + 4 → τ o = σ o) → mj_Wm i_Deaths_keepOnly (n + 3) K 7 [some (rV 1 0 fo), some (rV 1 0 b), some (iV S), some (iV p)] [] τ := by
  intro k
  induction k with
  | zero =>
    intro p τ h0 h1 hW hl hf ho
    refine r_Deaths_keepOnly [(7, [true, true, true, true])] 600 ?_
    repeat' (first | (refine mj_ite (fun h => ?_) (fun h => ?_) <;> first | (exfalso; omega) | skip) | refine mj_vci (by first | omega | (simp (disch := omega) only [up_ne, up_at, q_up_at, q_up_ne, cp_ne]; omega)) ?_)
    refine hK τ hW ?_ hf ho
    rw [hl]
    refine List.filter_congr (fun u hu => ?_)
    have := hL u hu
    rw [decide_eq_false (by omega), Bool.false_or]
  | succ k ih =>
    intro p τ h0 h1 hW hl hf ho
    have hc : 0 ≤ τ b 4 ∧ τ b 4 ≤ 8 := hW.1
    have ht := (q_tbs hS (v := p) (by omega)).1
    by_cases tb : q_tb S p = true
    · have ht : ¬ mj_and S (mj_shl 1 p) = 0 := fun q => by rw [ht.mp q] at tb; exact absurd tb (by decide)
      refine r_Deaths_keepOnly [(7, [true, true, true, true])] 600 ?_
      repeat' (first | (refine mj_ite (fun h => ?_) (fun h => ?_) <;> first | (exfalso; omega) | skip) | refine mj_vci (by first | omega | (simp (disch := omega) only [up_ne, up_at, q_up_at, q_up_ne, cp_ne]; omega)) ?_)
      refine ih (p + 1) τ (by omega) (by omega) hW ?_ hf ho
      rw [hl]
      refine List.filter_congr (fun u _ => ?_)
      by_cases e : u = p
      · rw [e, tb, Bool.or_true, Bool.or_true]
      · have : decide (p ≤ u) = decide (p + 1 ≤ u) := by rw [decide_eq_decide]; omega
        rw [this]
    · have tbf : q_tb S p = false := by cases hq : q_tb S p with
        | true => exact absurd hq tb
        | false => rfl
      have ht : mj_and S (mj_shl 1 p) = 0 := ht.mpr tbf
      have hdr := q_rl_drop (p := p) hc.1 hW.2.2.2.2.2.1
      have ecomb : (L.filter (fun u => decide (p ≤ u) || q_tb S u)).filter (fun u => decide (u ≠ p)) = L.filter (fun u => decide (p + 1 ≤ u) || q_tb S u) := by
        rw [List.filter_filter]
        refine List.filter_congr (fun u _ => ?_)
        by_cases e : u = p
        · have e9 : decide (p + 1 ≤ p) = false := decide_eq_false (by omega)
          rw [e, tbf, e9]
          simp
        · have : decide (p ≤ u) = decide (p + 1 ≤ u) := by rw [decide_eq_decide]; omega
          rw [this, decide_eq_true e, Bool.true_and]
      refine r_Deaths_keepOnly [(7, [true, true, true, true])] 600 ?_
      repeat' (first | (refine mj_ite (fun h => ?_) (fun h => ?_) <;> first | (exfalso; omega) | skip) | refine mj_vci (by first | omega | (simp (disch := omega) only [up_ne, up_at, q_up_at, q_up_ne, cp_ne]; omega)) ?_)
      refine c_Border_drop hc (fun q => ?_) (fun q σ1 s1 s2 s3 => ?_)
      · repeat' (first | (refine mj_ite (fun h => ?_) (fun h => ?_) <;> first | (exfalso; omega) | skip) | refine mj_vci (by first | omega | (simp (disch := omega) only [up_ne, up_at, q_up_at, q_up_ne, cp_ne]; omega)) ?_)
        refine ih (p + 1) τ (by omega) (by omega) hW ?_ hf ho
        have := hdr.1 q
        have this : q_rl (τ (b + 4)) (τ b 4) = (q_rl (τ (b + 4)) (τ b 4)).filter (fun u => decide (u ≠ p)) := this
        rw [this, hl, ecomb]
      · repeat' (first | (refine mj_ite (fun h => ?_) (fun h => ?_) <;> first | (exfalso; omega) | skip) | refine mj_vci (by first | omega | (simp (disch := omega) only [up_ne, up_at, q_up_at, q_up_ne, cp_ne]; omega)) ?_)
        have n4 : σ1 b 4 = τ b 4 - 1 := by rw [s1, q_up_at]
        refine ih (p + 1) σ1 (by omega) (by omega) ?_ ?_ (fun f hf' => by rw [s1, q_up_ne _ _ hf']; exact hf f hf') (fun o o1 o2 => by rw [s3 o o1 o2]; exact ho o o1 o2)
        · have hd := q_wB_die (reach := 0) (p := p) (d := 0) (w := 0) hW (by show (if q_fnd (τ (b + 4)) (τ b 4) p = -6 then 1 else 0) = (0 : Int); rw [if_neg q])
          have e : q_BC σ1 b = q_ad (q_BC τ b) (1, p, 0, 0) := by
            show (_, _, _, _, _) = (_, _, _, _, _)
            rw [n4, s2, s3 (b + 1) (by omega) (by omega), s3 (b + 2) (by omega) (by omega), s3 (b + 3) (by omega) (by omega)]
          rw [e]; exact hd
        · rw [s2, n4]
          have := hdr.2 q
          have this : q_rl (q_del (τ (b + 4)) (q_fnd (τ (b + 4)) (τ b 4) p) (τ b 4)) (τ b 4 - 1) = (q_rl (τ (b + 4)) (τ b 4)).filter (fun u => decide (u ≠ p)) := this
          rw [this, hl, ecomb]
theorem c_Deaths_keepOnly (hbo : b + 5 ≤ fo ∨ fo + 5 ≤ b) (hl : mj_ln (b + 1) = 8 ∧ mj_ln (b + 2) = 8 ∧ mj_ln (b + 3) = 8 ∧ mj_ln (b + 4) = 8) (hl' : mj_ln (fo + 1) = 8 ∧ mj_ln (fo + 2) = 8 ∧ mj_ln (fo + 3) = 8 ∧ mj_ln (fo + 4) = 8) (hW : q_wB (q_BC σ fo)) (hS : 0 ≤ S ∧ S ≤ 255) (hK : ∀ σ', q_wB (q_BC σ' b) → q_rl (σ' (b + 4)) (σ' b 4) = (q_rl (σ (fo + 4)) (σ fo 4)).filter (fun u => q_tb S u) → σ' (b + 1) = σ (fo + 1) → σ' (b + 2) = σ (fo + 2) → σ' b 5 = σ fo 5 → σ' b 6 = σ fo 6 → (∀ o, (o < b ∨ b + 4 < o) → σ' o = σ o) → K none σ') : mj_Ok (n + 3) i_Deaths_keepOnly [rV 1 0 fo, rV 1 0 b, iV S] σ K := by
  refine mj_enter (by decide) (Nat.le_of_ble_eq_true rfl) (fun hg => ?_)
  refine r_Deaths_keepOnly [(7, [true, true, true, true])] 600 ?_
  refine c_Border_copyFrom hbo hl hl' (fun σ1 s1 s2 s3 s4 s5 s6 s7 s8 s9 => ?_)
  have eB : q_BC σ1 b = q_BC σ fo := by
    show (_, _, _, _, _) = (_, _, _, _, _)
    rw [s1, s5, s6, s7, s8]
  have hm : ∀ u ∈ q_rl (σ (fo + 4)) (σ fo 4), 0 ≤ u ∧ u ≤ 7 := by
    intro u hu
    obtain ⟨j, j1, j2, j3⟩ := q_rlF_mem _ _ hu
    have := hW.2.1 j
    have this : 0 ≤ σ (fo + 4) j ∧ σ (fo + 4) j ≤ 7 := this
    rw [j3] at this
    exact this
  refine l_Deaths_keepOnly hS hm (fun σ2 t1 t2 t3 t4 => ?_) 8 0 σ1 (by omega) (by omega) (by rw [eB]; exact hW) ?_ (fun _ _ => rfl) (fun _ _ _ => rfl)
  · refine hK σ2 t1 t2 ?_ ?_ ?_ ?_ (fun o ho => ?_)
    · rw [t4 (b + 1) (by omega) (by omega)]; exact s5
    · rw [t4 (b + 2) (by omega) (by omega)]; exact s6
    · rw [t3 5 (by omega)]; exact s2
    · rw [t3 6 (by omega)]; exact s3
    · rw [t4 o (by omega) (by omega)]; exact s9 o (by omega) (by omega) (by omega) (by omega) (by omega)
  · rw [s8, s1]
    refine (List.filter_eq_self.mpr (fun u hu => ?_)).symm
    rw [decide_eq_true (hm u hu).1, Bool.true_or]
theorem l_waysBehind {f : Int → Int} {R : Int} (hS : 0 ≤ S ∧ S ≤ 255) (hf : ∀ u, 0 ≤ u → u ≤ 255 → 0 ≤ f u ∧ f u ≤ q_bd u) (hw : ∀ q, 0 ≤ q → q ≤ 7 → q_tb S q = true → σ (dd + 1) (q_wo S q) = f (q_wo S q)) (hK : K (some (iV R)) σ) : ∀ (k : Nat) (p a : Int), 0 ≤ p → p + k = 8 → (0 ≤ a ∧ a ≤ p * 43046721) → q_wsF f S k p a = R → mj_Wm i_Deaths_waysBehindDeath (n + 1) K 4 [some (rV 3 0 dd), some (iV S), some (iV a), some (iV p), none] [] σ := by
  intro k
  induction k with
  | zero =>
    intro p a h0 h1 ha hR
    have hR : a = R := hR
    subst hR
    refine r_Deaths_waysBehindDeath [(4, [true, true, true, true, false])] 600 ?_
    repeat' (first | (refine mj_ite (fun h => ?_) (fun h => ?_) <;> first | (exfalso; omega) | skip) | refine mj_vci (by first | omega | (simp (disch := omega) only [up_ne, up_at, q_up_at, q_up_ne, cp_ne]; omega)) ?_)
    exact hK
  | succ k ih =>
    intro p a h0 h1 ha hR
    unfold q_wsF at hR
    obtain ⟨htb, -, -, hr⟩ := q_tbs hS (v := p) (by omega)
    by_cases tb : q_tb S p = true
    · have htb : ¬ mj_and S (mj_shl 1 p) = 0 := fun q => by rw [htb.mp q] at tb; exact absurd tb (by decide)
      rw [if_pos tb] at hR
      have hwp := hw p (by omega) (by omega) tb
      have hb := hf (q_wo S p) hr.1 hr.2
      have hbd : q_bd (q_wo S p) ≤ 43046721 := (q_bds hr).2
      have hb' : 0 ≤ σ (dd + 1) (mj_and S (mj_xor (mj_shl 1 p) (-1))) ∧ σ (dd + 1) (mj_and S (mj_xor (mj_shl 1 p) (-1))) ≤ 43046721 := by
        have e1 : σ (dd + 1) (mj_and S (mj_xor (mj_shl 1 p) (-1))) = f (q_wo S p) := hwp
        rw [e1]
        omega
      rw [← hwp] at hR
      clear hb hbd
      refine r_Deaths_waysBehindDeath [(4, [true, true, true, true, false])] 600 ?_
      repeat' (first | (refine mj_ite (fun h => ?_) (fun h => ?_) <;> first | (exfalso; omega) | skip) | refine mj_vci (by first | omega | (simp (disch := omega) only [up_ne, up_at, q_up_at, q_up_ne, cp_ne]; omega)) ?_)
      exact ih (p + 1) _ (by omega) (by omega) (by omega) hR
    · have tbf : q_tb S p = false := by cases hq : q_tb S p with
        | true => exact absurd hq tb
        | false => rfl
      have htb : mj_and S (mj_shl 1 p) = 0 := htb.mpr tbf
      rw [if_neg tb, Int.add_zero] at hR
      refine r_Deaths_waysBehindDeath [(4, [true, true, true, true, false])] 600 ?_
      repeat' (first | (refine mj_ite (fun h => ?_) (fun h => ?_) <;> first | (exfalso; omega) | skip) | refine mj_vci (by first | omega | (simp (disch := omega) only [up_ne, up_at, q_up_at, q_up_ne, cp_ne]; omega)) ?_)
      exact ih (p + 1) _ (by omega) (by omega) (by omega) hR
theorem c_waysBehind {f : Int → Int} (hS : 0 ≤ S ∧ S ≤ 255) (hS0 : S ≠ 0) (hf : ∀ u, 0 ≤ u → u ≤ 255 → 0 ≤ f u ∧ f u ≤ q_bd u) (hw : ∀ q, 0 ≤ q → q ≤ 7 → q_tb S q = true → σ (dd + 1) (q_wo S q) = f (q_wo S q)) (hK : ∀ r, r = q_ws f S → K (some (iV r)) σ) : mj_Ok (n + 1) i_Deaths_waysBehindDeath [rV 3 0 dd, iV S] σ K := by
  have hd : q_ws f S = q_wsF f S 8 0 (if S = 0 then 1 else 0) := rfl
  rw [if_neg hS0] at hd
  refine mj_enter (by decide) (Nat.le_of_ble_eq_true rfl) (fun hg => ?_)
  refine r_Deaths_waysBehindDeath [(4, [true, true, true, true, false])] 600 ?_
  exact l_waysBehind hS hf hw (hK _ rfl) 8 0 0 (by omega) (by omega) (by omega) hd.symm
theorem l_firstToDie {R : Int → Int} (ha : 0 ≤ S ∧ S ≤ 255) (hw : q_wok (σ (dd + 1)) R S (S + 1)) : ∀ (k : Nat) (p : Int), 0 ≤ p → p + k = 8 → (∀ r, r = q_fsF R S k p → K (some (iV r)) σ) → mj_Wm i_Deaths_firstToDie (n + 1) K 2 [some (rV 3 0 dd), some (iV S), some (iV p), none] [] σ := by
  intro k
  induction k with
  | zero =>
    intro p h0 h1 hK
    refine r_Deaths_firstToDie [(2, [true, true, true, false])] 600 ?_
    repeat' (first | (refine mj_ite (fun h => ?_) (fun h => ?_) <;> first | (exfalso; omega) | skip) | refine mj_vci (by first | omega | (simp (disch := omega) only [up_ne, up_at, q_up_at, q_up_ne, cp_ne]; omega)) ?_)
    exact hK _ rfl
  | succ k ih =>
    intro p h0 h1 hK
    unfold q_fsF at hK
    obtain ⟨htb, -, -, hr⟩ := q_tbs ha (v := p) (by omega)
    by_cases tb : q_tb S p = true
    · have htb : ¬ mj_and S (mj_shl 1 p) = 0 := fun q => by rw [htb.mp q] at tb; exact absurd tb (by decide)
      have hk : σ (dd + 1) (q_wo S p) = R (q_wo S p) := hw _ hr.1 (by have := (q_bdw ha (v := p) (by omega) tb).2; omega) (q_sub_w (q_subs ha))
      have hk : σ (dd + 1) (mj_and S (mj_xor (mj_shl 1 p) (-1))) = R (q_wo S p) := hk
      by_cases pos : 0 < R (q_wo S p)
      · rw [if_pos ⟨tb, pos⟩] at hK
        refine r_Deaths_firstToDie [(2, [true, true, true, false])] 600 ?_
        repeat' (first | (refine mj_ite (fun h => ?_) (fun h => ?_) <;> first | (exfalso; omega) | skip) | refine mj_vci (by first | omega | (simp (disch := omega) only [up_ne, up_at, q_up_at, q_up_ne, cp_ne]; omega)) ?_)
        exact hK _ rfl
      · rw [if_neg (fun q => pos q.2)] at hK
        refine r_Deaths_firstToDie [(2, [true, true, true, false])] 600 ?_
        repeat' (first | (refine mj_ite (fun h => ?_) (fun h => ?_) <;> first | (exfalso; omega) | skip) | refine mj_vci (by first | omega | (simp (disch := omega) only [up_ne, up_at, q_up_at, q_up_ne, cp_ne]; omega)) ?_)
        exact ih (p + 1) (by omega) (by omega) hK
    · have tbf : q_tb S p = false := by cases hq : q_tb S p with
        | true => exact absurd hq tb
        | false => rfl
      have htb : mj_and S (mj_shl 1 p) = 0 := htb.mpr tbf
      rw [if_neg (fun q => tb q.1)] at hK
      refine r_Deaths_firstToDie [(2, [true, true, true, false])] 600 ?_
      repeat' (first | (refine mj_ite (fun h => ?_) (fun h => ?_) <;> first | (exfalso; omega) | skip) | refine mj_vci (by first | omega | (simp (disch := omega) only [up_ne, up_at, q_up_at, q_up_ne, cp_ne]; omega)) ?_)
      exact ih (p + 1) (by omega) (by omega) hK
theorem c_firstToDie {R : Int → Int} (ha : 0 ≤ S ∧ S ≤ 255) (hw : q_wok (σ (dd + 1)) R S (S + 1)) (hK : ∀ r, r = q_fsF R S 8 0 → K (some (iV r)) σ) : mj_Ok (n + 1) i_Deaths_firstToDie [rV 3 0 dd, iV S] σ K := by
  refine mj_enter (by decide) (Nat.le_of_ble_eq_true rfl) (fun hg => ?_)
  refine r_Deaths_firstToDie [(2, [true, true, true, false])] 600 ?_
  exact l_firstToDie ha hw 8 0 (by omega) (by omega) hK
/-- behind keepOnly the trial border has the line of the set -/
theorem q_keepB {w e : Int} {B B' : q_B} (hW : q_wB B') (h1 : q_rl B'.2.1 B'.1 = (q_rl B.2.1 B.1).filter (fun u => q_tb S u)) (hx : B'.2.2.1 = B.2.2.1) (hy : B'.2.2.2.1 = B.2.2.2.1) (x y : Int) : q_sideB w e B' x y = q_sideB w e (q_BS B S) x y :=
  (q_line_l (B := B') (B' := q_BS B S) hW.1.1 (q_BS_l _ _).1 (by rw [(q_BS_l _ _).2]; exact h1) hx hy).1 x y
theorem l_Deaths_count {all north south : Int} (hl : mj_ln (b + 1) = 8 ∧ mj_ln (b + 2) = 8 ∧ mj_ln (b + 3) = 8 ∧ mj_ln (b + 4) = 8) (hl' : mj_ln (bk + 1 + 1) = 8 ∧ mj_ln (bk + 1 + 2) = 8 ∧ mj_ln (bk + 1 + 3) = 8 ∧ mj_ln (bk + 1 + 4) = 8) (hL : q_lo σ (bk + 1)) (hV : q_vo σ (bk + 6)) (hd1 : bk + 12 < b) (hd2 : b + 4 < dd) (hall : all = q_bits (σ (bk + 1 + 4)) (σ (bk + 1) 4)) (ha : 0 ≤ all ∧ all ≤ 255) (hno : north = q_vonB (σ (bk + 1) 5) (σ (bk + 1) 6) (q_BC σ (bk + 1)) (σ (bk + 6) 2) (σ (bk + 6 + 1)) (σ (bk + 6 + 2)) 0) (hso : south = q_vonB (σ (bk + 1) 5) (σ (bk + 1) 6) (q_BC σ (bk + 1)) (σ (bk + 6) 2) (σ (bk + 6 + 1)) (σ (bk + 6 + 2)) 1) {R : Int → Int} (hK : ∀ σ', (∀ o, (o < b ∨ b + 4 < o) → o ≠ dd → o ≠ dd + 1 → σ' o = σ o) → σ' dd 1 = R all → σ' dd 2 = q_fsF R all 8 0 → K none σ') :
    ∀ (k : Nat) (i : Int) (τ : mj_W) (f : Int → Int), 0 ≤ i → i + k = all + 1 → (∀ o, (o < b ∨ b + 4 < o) → o ≠ dd + 1 → τ o = σ o) → q_wok (τ (dd + 1)) f all i → (∀ u, 0 ≤ u → u ≤ 255 → 0 ≤ f u ∧ f u ≤ q_bd u) → q_wyF (fun S => q_sub all S ∧ q_mayS (σ (bk + 1) 5) (σ (bk + 1) 6) (q_BC σ (bk + 1)) (σ (bk + 6) 2) (σ (bk + 6 + 1)) (σ (bk + 6 + 2)) S) k i f = R → mj_Wm i_Deaths_count (n + 5) K 39 [some (rV 3 0 dd), some (rV 0 0 bk), some (rV 1 0 b), some (iV all), some (iV north), some (iV south), some (iV i), none] [] τ := by
  intro k
  induction k with
  | zero =>
    intro i τ f h0 h1 hf hw hfb hR
    have : i = all + 1 := by omega
    subst this
    have hR : f = R := hR
    subst hR
    have e1 : τ (dd + 1) all = f all := hw all ha.1 (by omega) (q_subs ha)
    refine r_Deaths_count [(39, [true, true, true, true, true, true, true, false])] 600 ?_
    repeat' (first | (refine mj_ite (fun h => ?_) (fun h => ?_) <;> first | (exfalso; omega) | skip) | refine mj_vci (by first | omega | (simp (disch := omega) only [up_ne, up_at, q_up_at, q_up_ne, cp_ne]; omega)) ?_)
    refine c_firstToDie (dd := dd) (R := f) ha ?_ (fun r hr => ?_)
    · rw [up_ne _ _ _ (by omega)]; exact hw
    · repeat' (first | (refine mj_ite (fun h => ?_) (fun h => ?_) <;> first | (exfalso; omega) | skip) | refine mj_vci (by first | omega | (simp (disch := omega) only [up_ne, up_at, q_up_at, q_up_ne, cp_ne]; omega)) ?_)
      refine hK _ (fun o o1 o2 o3 => ?_) ?_ ?_
      · rw [up_ne _ _ _ o2, up_ne _ _ _ o2]; exact hf o o1 o3
      · rw [up_at, q_up_ne _ _ (by omega), up_at, q_up_at]; exact e1
      · rw [up_at, q_up_at]; exact hr
  | succ k ih =>
    intro i τ f h0 h1 hf hw hfb hR
    unfold q_wyF at hR
    have hi : 0 ≤ i ∧ i ≤ 255 := by omega
    have o1 := hf (bk + 1) (by omega) (by omega)
    have o6 := hf (bk + 6) (by omega) (by omega)
    have o61 := hf (bk + 6 + 1) (by omega) (by omega)
    have o62 := hf (bk + 6 + 2) (by omega) (by omega)
    have eB : q_BC τ (bk + 1) = q_BC σ (bk + 1) := by
      show (_, _, _, _, _) = (_, _, _, _, _)
      rw [o1, hf (bk + 1 + 1) (by omega) (by omega), hf (bk + 1 + 2) (by omega) (by omega), hf (bk + 1 + 3) (by omega) (by omega), hf (bk + 1 + 4) (by omega) (by omega)]
    have hws := q_ws_b hi hfb
    have fin : ∀ (τ' : mj_W) (v : Int), (∀ o, (o < b ∨ b + 4 < o) → o ≠ dd + 1 → τ' o = σ o) → τ' (dd + 1) = τ (dd + 1) → (0 ≤ v ∧ v ≤ q_bd i) → q_wyF (fun S => q_sub all S ∧ q_mayS (σ (bk + 1) 5) (σ (bk + 1) 6) (q_BC σ (bk + 1)) (σ (bk + 6) 2) (σ (bk + 6 + 1)) (σ (bk + 6 + 2)) S) k (i + 1) (q_up f i v) = R → mj_Wm i_Deaths_count (n + 5) K 130 [some (rV 3 0 dd), some (rV 0 0 bk), some (rV 1 0 b), some (iV all), some (iV north), some (iV south), some (iV i), none] [] (mj_up τ' (dd + 1) i v) := by
      intro τ' v n1 n2 n3 n4
      refine r_Deaths_count [(39, [true, true, true, true, true, true, true, false])] 600 ?_
      repeat' (first | (refine mj_ite (fun h => ?_) (fun h => ?_) <;> first | (exfalso; omega) | skip) | refine mj_vci (by first | omega | (simp (disch := omega) only [up_ne, up_at, q_up_at, q_up_ne, cp_ne]; omega)) ?_)
      refine ih (i + 1) _ (q_up f i v) (by omega) (by omega) (fun o p1 p2 => ?_) (fun u u0 u1 us => ?_) (fun u u0 u1 => ?_) n4
      · rw [up_ne _ _ _ p2]; exact n1 o p1 p2
      · rw [up_at, n2]
        by_cases e : u = i
        · rw [e, q_up_at, q_up_at]
        · rw [q_up_ne _ _ e, q_up_ne _ _ e]; exact hw u u0 (by omega) us
      · by_cases e : u = i
        · rw [e, q_up_at]; exact n3
        · rw [q_up_ne _ _ e]; exact hfb u u0 u1
    by_cases hs0 : q_sub all i
    · have hs1 : mj_and i (mj_xor all (-1)) = 0 := hs0
      refine r_Deaths_count [(130, [true, true, true, true, true, true, true, false])] 600 ?_
      repeat' (first | (refine mj_ite (fun h => ?_) (fun h => ?_) <;> first | (exfalso; omega) | skip) | refine mj_vci (by first | omega | (simp (disch := omega) only [up_ne, up_at, q_up_at, q_up_ne, cp_ne]; omega)) ?_)
      refine c_Deaths_keepOnly (fo := bk + 1) (b := b) (by omega) hl hl' (by rw [eB]; exact hL.1) hi (fun σ1 s1 s2 s3 s4 s5 s6 s7 => ?_)
      have f1 : ∀ o, (o < b ∨ b + 4 < o) → o ≠ dd + 1 → σ1 o = σ o := fun o p1 p2 => (s7 o p1).trans (hf o p1 p2)
      have w1 : σ1 (dd + 1) = τ (dd + 1) := s7 (dd + 1) (by omega)
      have v1 := f1 (bk + 6) (by omega) (by omega)
      have v2 := f1 (bk + 6 + 1) (by omega) (by omega)
      have v3 := f1 (bk + 6 + 2) (by omega) (by omega)
      have V1 : q_vo σ1 (bk + 6) := by
        unfold q_vo
        rw [v1, v2, v3]
        exact hV
      rw [o1] at s5 s6
      have gB : q_gB σ1 b := q_gB_of s1 (by rw [s5]; exact hL.2.1) (by rw [s6]; exact hL.2.2.1)
      have sd : ∀ x y, q_sideB (σ (bk + 1) 5) (σ (bk + 1) 6) (q_BC σ1 b) x y = q_sideB (σ (bk + 1) 5) (σ (bk + 1) 6) (q_BS (q_BC σ (bk + 1)) i) x y := by
        rw [← eB]
        exact q_keepB (B := q_BC τ (bk + 1)) (B' := q_BC σ1 b) s1 s2 s3 s4
      have hfit := @q_fits (σ (bk + 1) 5) (σ (bk + 1) 6) (q_BC σ (bk + 1)) (q_BC σ1 b) (σ (bk + 6) 2) (σ (bk + 6 + 1)) (σ (bk + 6 + 2))
      rw [← hno, ← hso] at hfit
      have hmay : q_mayS (σ (bk + 1) 5) (σ (bk + 1) 6) (q_BC σ (bk + 1)) (σ (bk + 6) 2) (σ (bk + 6 + 1)) (σ (bk + 6 + 2)) i ↔ (q_vonB (σ (bk + 1) 5) (σ (bk + 1) 6) (q_BC σ1 b) (σ (bk + 6) 2) (σ (bk + 6 + 1)) (σ (bk + 6 + 2)) 0 = north ∧ q_vonB (σ (bk + 1) 5) (σ (bk + 1) 6) (q_BC σ1 b) (σ (bk + 6) 2) (σ (bk + 6 + 1)) (σ (bk + 6 + 2)) 1 = south) := by
        rw [hfit]
        constructor
        · intro q v q0 q1 q2; rw [sd]; exact q v q0 q1 q2
        · intro q v q0 q1 q2; rw [← sd]; exact q v q0 q1 q2
      have no : ¬ q_mayS (σ (bk + 1) 5) (σ (bk + 1) 6) (q_BC σ (bk + 1)) (σ (bk + 6) 2) (σ (bk + 6 + 1)) (σ (bk + 6 + 2)) i → mj_Wm i_Deaths_count (n + 5) K 130 [some (rV 3 0 dd), some (rV 0 0 bk), some (rV 1 0 b), some (iV all), some (iV north), some (iV south), some (iV i), none] [] (mj_up σ1 (dd + 1) i 0) := by
        intro q
        rw [if_neg (fun w9 => q w9.2)] at hR
        exact fin σ1 0 f1 w1 ⟨Int.le_refl 0, by have := q_bds hi; omega⟩ hR
      have yes : q_mayS (σ (bk + 1) 5) (σ (bk + 1) 6) (q_BC σ (bk + 1)) (σ (bk + 6) 2) (σ (bk + 6 + 1)) (σ (bk + 6 + 2)) i → mj_Wm i_Deaths_count (n + 5) K 130 [some (rV 3 0 dd), some (rV 0 0 bk), some (rV 1 0 b), some (iV all), some (iV north), some (iV south), some (iV i), none] [] (mj_up σ1 (dd + 1) i (q_ws f i)) := by
        intro q
        rw [if_pos ⟨hs0, q⟩] at hR
        exact fin σ1 _ f1 w1 hws hR
      have hwq : ∀ q, 0 ≤ q → q ≤ 7 → q_tb i q = true → σ1 (dd + 1) (q_wo i q) = f (q_wo i q) := by
        intro q q0 q1 qt
        rw [w1]
        have hr := (q_tbs hi (v := q) ⟨q0, q1⟩).2.2.2
        exact hw (q_wo i q) hr.1 (q_bdw hi ⟨q0, q1⟩ qt).2 (q_sub_w hs0)
      repeat' (first | (refine mj_ite (fun h => ?_) (fun h => ?_) <;> first | (exfalso; omega) | skip) | refine mj_vci (by first | omega | (simp (disch := omega) only [up_ne, up_at, q_up_at, q_up_ne, cp_ne]; omega)) ?_)
      refine c_Villages_bitsOn (v := bk + 6) (b := b) gB V1.1 V1.2.1 V1.2.2 (fun r0 hr0 => ?_)
      have hr0 : r0 = q_vonB (σ1 b 5) (σ1 b 6) (q_BC σ1 b) (σ1 (bk + 6) 2) (σ1 (bk + 6 + 1)) (σ1 (bk + 6 + 2)) 0 := hr0
      rw [s5, s6, v1, v2, v3] at hr0
      rw [← hr0] at hmay
      by_cases e0 : r0 = north
      · repeat' (first | (refine mj_ite (fun h => ?_) (fun h => ?_) <;> first | (exfalso; omega) | skip) | refine mj_vci (by first | omega | (simp (disch := omega) only [up_ne, up_at, q_up_at, q_up_ne, cp_ne]; omega)) ?_)
        refine c_Villages_bitsOn (v := bk + 6) (b := b) gB V1.1 V1.2.1 V1.2.2 (fun r1 hr1 => ?_)
        have hr1 : r1 = q_vonB (σ1 b 5) (σ1 b 6) (q_BC σ1 b) (σ1 (bk + 6) 2) (σ1 (bk + 6 + 1)) (σ1 (bk + 6 + 2)) 1 := hr1
        rw [s5, s6, v1, v2, v3] at hr1
        rw [← hr1] at hmay
        by_cases e1 : r1 = south
        · have y9 := yes (hmay.mpr ⟨e0, e1⟩)
          by_cases ei : i = 0
          · have z9 : q_ws f i = 1 := by rw [ei]; unfold q_ws; rw [if_pos rfl, q_wsF_0]
            rw [z9] at y9
            repeat' (first | (refine mj_ite (fun h => ?_) (fun h => ?_) <;> first | (exfalso; omega) | skip) | refine mj_vci (by first | omega | (simp (disch := omega) only [up_ne, up_at, q_up_at, q_up_ne, cp_ne]; omega)) ?_)
            exact y9
          · repeat' (first | (refine mj_ite (fun h => ?_) (fun h => ?_) <;> first | (exfalso; omega) | skip) | refine mj_vci (by first | omega | (simp (disch := omega) only [up_ne, up_at, q_up_at, q_up_ne, cp_ne]; omega)) ?_)
            refine c_waysBehind hi ei hfb hwq (fun r hr => ?_)
            rw [← hr] at y9
            repeat' (first | (refine mj_ite (fun h => ?_) (fun h => ?_) <;> first | (exfalso; omega) | skip) | refine mj_vci (by first | omega | (simp (disch := omega) only [up_ne, up_at, q_up_at, q_up_ne, cp_ne]; omega)) ?_)
            exact y9
        · have n9 := no (fun q => e1 (hmay.mp q).2)
          repeat' (first | (refine mj_ite (fun h => ?_) (fun h => ?_) <;> first | (exfalso; omega) | skip) | refine mj_vci (by first | omega | (simp (disch := omega) only [up_ne, up_at, q_up_at, q_up_ne, cp_ne]; omega)) ?_)
          exact n9
      · have n9 := no (fun q => e0 (hmay.mp q).1)
        repeat' (first | (refine mj_ite (fun h => ?_) (fun h => ?_) <;> first | (exfalso; omega) | skip) | refine mj_vci (by first | omega | (simp (disch := omega) only [up_ne, up_at, q_up_at, q_up_ne, cp_ne]; omega)) ?_)
        exact n9
    · have hs1 : ¬ mj_and i (mj_xor all (-1)) = 0 := hs0
      rw [if_neg (fun q => hs0 q.1)] at hR
      have m130 : mj_Wm i_Deaths_count (n + 5) K 130 [some (rV 3 0 dd), some (rV 0 0 bk), some (rV 1 0 b), some (iV all), some (iV north), some (iV south), some (iV i), none] [] τ := by
        refine r_Deaths_count [(39, [true, true, true, true, true, true, true, false])] 600 ?_
        repeat' (first | (refine mj_ite (fun h => ?_) (fun h => ?_) <;> first | (exfalso; omega) | skip) | refine mj_vci (by first | omega | (simp (disch := omega) only [up_ne, up_at, q_up_at, q_up_ne, cp_ne]; omega)) ?_)
        refine ih (i + 1) τ (q_up f i 0) (by omega) (by omega) hf (fun u u0 u1 us => ?_) (fun u u0 u1 => ?_) hR
        · by_cases e : u = i
          · rw [e] at us; exact absurd us hs0
          · rw [q_up_ne _ _ e]; exact hw u u0 (by omega) us
        · by_cases e : u = i
          · rw [e, q_up_at]; exact ⟨Int.le_refl 0, by have := q_bds hi; omega⟩
          · rw [q_up_ne _ _ e]; exact hfb u u0 u1
      refine r_Deaths_count [(130, [true, true, true, true, true, true, true, false])] 600 ?_
      repeat' (first | (refine mj_ite (fun h => ?_) (fun h => ?_) <;> first | (exfalso; omega) | skip) | refine mj_vci (by first | omega | (simp (disch := omega) only [up_ne, up_at, q_up_at, q_up_ne, cp_ne]; omega)) ?_)
      exact m130
theorem c_Deaths_count (hl : mj_ln (b + 1) = 8 ∧ mj_ln (b + 2) = 8 ∧ mj_ln (b + 3) = 8 ∧ mj_ln (b + 4) = 8) (hl' : mj_ln (bk + 1 + 1) = 8 ∧ mj_ln (bk + 1 + 2) = 8 ∧ mj_ln (bk + 1 + 3) = 8 ∧ mj_ln (bk + 1 + 4) = 8) (hL : q_lo σ (bk + 1)) (hV : q_vo σ (bk + 6)) (hd1 : bk + 12 < b) (hd2 : b + 4 < dd) (hK : ∀ σ' R, R = q_wy (σ (bk + 1) 5) (σ (bk + 1) 6) (q_BC σ (bk + 1)) (σ (bk + 6) 2) (σ (bk + 6 + 1)) (σ (bk + 6 + 2)) → (∀ o, (o < b ∨ b + 4 < o) → o ≠ dd → o ≠ dd + 1 → σ' o = σ o) → σ' dd 1 = R (q_bits (σ (bk + 1 + 4)) (σ (bk + 1) 4)) → σ' dd 2 = q_fsF R (q_bits (σ (bk + 1 + 4)) (σ (bk + 1) 4)) 8 0 → K none σ') : mj_Ok (n + 5) i_Deaths_count [rV 3 0 dd, rV 0 0 bk, rV 1 0 b] σ K := by
  have hr : ∀ i, 0 ≤ σ (bk + 1 + 4) i ∧ σ (bk + 1 + 4) i ≤ 7 := hL.1.2.1
  have hall := q_bits_rg hr (σ (bk + 1) 4)
  have hRd : q_wy (σ (bk + 1) 5) (σ (bk + 1) 6) (q_BC σ (bk + 1)) (σ (bk + 6) 2) (σ (bk + 6 + 1)) (σ (bk + 6 + 2)) = q_wyF (fun S => q_sub (q_bits (σ (bk + 1 + 4)) (σ (bk + 1) 4)) S ∧ q_mayS (σ (bk + 1) 5) (σ (bk + 1) 6) (q_BC σ (bk + 1)) (σ (bk + 6) 2) (σ (bk + 6 + 1)) (σ (bk + 6 + 2)) S) (q_bits (σ (bk + 1 + 4)) (σ (bk + 1) 4) + 1).toNat 0 (fun _ => 0) := rfl
  refine mj_enter (by decide) (Nat.le_of_ble_eq_true rfl) (fun hg => ?_)
  refine r_Deaths_count [(39, [true, true, true, true, true, true, true, false])] 600 ?_
  refine c_Border_bitsOfPersons (b := bk + 1) hL.1.1 ?_
  refine c_Villages_bitsOn (v := bk + 6) (b := bk + 1) hL.g hV.1 hV.2.1 hV.2.2 (fun r0 hr0 => ?_)
  refine c_Villages_bitsOn (v := bk + 6) (b := bk + 1) hL.g hV.1 hV.2.1 hV.2.2 (fun r1 hr1 => ?_)
  exact l_Deaths_count hl hl' hL hV hd1 hd2 rfl hall hr0 hr1 (fun σ' q1 q2 q3 => hK σ' _ rfl q1 q2 q3) (q_bits (σ (bk + 1 + 4)) (σ (bk + 1) 4) + 1).toNat 0 σ (fun _ => 0) (by omega) (by omega) (fun _ _ _ => rfl) (fun u u0 u1 => by omega) (fun u u0 u1 => ⟨Int.le_refl 0, by have := q_bds ⟨u0, u1⟩; omega⟩) hRd.symm
theorem c_S_orders (hC : q_C σ) (hK : ∀ r σ', q_Fc σ σ' → r = (if ¬ (0 ≤ w ∧ w ≤ 1) then -2 else q_ordR (σ 2 5) (σ 2 6) (q_BC σ 2) (σ 7 2) (σ 8) (σ 9) w) → K (some (iV r)) σ') : mj_Ok (n + 6) i_S_orders [rV 11 0 0, iV w] σ K := by
  obtain ⟨hL, hV, -⟩ := hC
  have hRo : q_ordR (σ 2 5) (σ 2 6) (q_BC σ 2) (σ 7 2) (σ 8) (σ 9) w = if w = 0 then q_wy (σ 2 5) (σ 2 6) (q_BC σ 2) (σ 7 2) (σ 8) (σ 9) (q_bits (σ 6) (σ 2 4)) else q_fsF (q_wy (σ 2 5) (σ 2 6) (q_BC σ 2) (σ 7 2) (σ 8) (σ 9)) (q_bits (σ 6) (σ 2 4)) 8 0 := rfl
  refine mj_enter (by decide) (Nat.le_of_ble_eq_true rfl) (fun hg => ?_)
  refine r_S_orders [] 600 ?_
  by_cases hw : 0 ≤ w ∧ w ≤ 1
  · rw [if_neg (fun q => q hw), hRo] at hK
    repeat' (first | (refine mj_ite (fun h => ?_) (fun h => ?_) <;> first | (exfalso; omega) | skip) | refine mj_vci (by first | omega | (simp (disch := omega) only [up_ne, up_at, q_up_at, q_up_ne, cp_ne]; omega)) ?_)
    refine c_Deaths_count (dd := 50) (bk := 1) (b := 44) (by decide +kernel) (by decide +kernel) hL hV (by omega) (by omega) (fun σ1 R hR s1 s2 s3 => ?_)
    have hF : q_Fc σ σ1 := fun o ho => s1 o (by omega) (by omega) (by omega)
    have key := fun r => hK r σ1 hF
    have hR : R = q_wy (σ 2 5) (σ 2 6) (q_BC σ 2) (σ 7 2) (σ 8) (σ 9) := hR
    rw [← hR] at key
    repeat' (first | (refine mj_ite (fun h => ?_) (fun h => ?_) <;> first | (exfalso; omega) | skip) | refine mj_vci (by first | omega | (simp (disch := omega) only [up_ne, up_at, q_up_at, q_up_ne, cp_ne]; omega)) ?_)
    · rw [if_pos h] at key; exact key _ s2
    · rw [if_neg h] at key; exact key _ s3
  · rw [if_pos hw] at hK
    repeat' (first | (refine mj_ite (fun h => ?_) (fun h => ?_) <;> first | (exfalso; omega) | skip) | refine mj_vci (by first | omega | (simp (disch := omega) only [up_ne, up_at, q_up_at, q_up_ne, cp_ne]; omega)) ?_)
    all_goals exact hK _ σ (fun _ _ => rfl) rfl
end S9
