/-! who moved where: the class -/
def q_mvC (σ : mj_W) (mm : Nat) (bits : Int) (s : q_mv) : Prop := σ mm 1 = s.1 ∧ σ mm 2 = s.2.1 ∧ (∀ j, 0 ≤ j → j < 24 → q_tb bits (j / 3) = true → σ (mm + 1) j = s.2.2 j)
section S7
variable {n b mm v bk : Nat} {σ : mj_W} {K : Option mj_V → mj_W → Prop} {x y p w i j c d s pl m N : Int} {E : q_E} {t : q_mv}
theorem l_Moves_take (hB : q_gB σ b) (hV : q_vo σ v) (hd1 : mm + 1 < b ∨ b + 4 < mm) (hd2 : mm + 1 < v ∨ v + 2 < mm) (hE : E.1 = (σ b 5, σ b 6) ∧ E.2.1 = σ (v + 1) ∧ E.2.2.1 = σ (v + 2)) {L : Int → Int} (hLb : ∀ j, 0 ≤ L j ∧ L j ≤ 1000) (hK : ∀ σ', (∀ o, o ≠ mm + 1 → σ' o = σ o) → (∀ j, 0 ≤ j → j < 24 → q_tb (σ v 2) (j / 3) = true → σ' (mm + 1) j = L j + q_ind E (q_BC σ b) j) → K none σ') :
    ∀ (k : Nat) (i : Int) (τ : mj_W), 0 ≤ i → i + k = 8 → (∀ o, o ≠ mm + 1 → τ o = σ o) → (∀ j, 0 ≤ j → j < 3 * i → q_tb (σ v 2) (j / 3) = true → τ (mm + 1) j = L j + q_ind E (q_BC σ b) j) → (∀ j, 3 * i ≤ j → j < 24 → q_tb (σ v 2) (j / 3) = true → τ (mm + 1) j = L j) → mj_Wm i_Moves_take (n + 4) K 23 [some (rV 4 0 mm), some (rV 9 0 v), some (rV 1 0 b), some (iV m), some (iV i)] [] τ := by
  intro k
  induction k with
  | zero =>
    intro i τ h0 h1 hf t1 t2
    refine r_Moves_take [(23, [true, true, true, true, true])] 600 ?_
    repeat' (first | (refine mj_ite (fun h => ?_) (fun h => ?_) <;> first | (exfalso; omega) | skip) | refine mj_vci (by first | omega | (simp (disch := omega) only [up_ne, up_at, q_up_at, q_up_ne, cp_ne]; omega)) ?_)
    exact hK τ hf (fun j j0 j1 => t1 j j0 (by omega))
  | succ k ih =>
    intro i τ h0 h1 hf t1 t2
    have x0 := hV.2.1 i
    have y0 := hV.2.2 i
    have u0 := hf v (by omega)
    have u1 := hf (v + 1) (by omega)
    have u2 := hf (v + 2) (by omega)
    have ub := hf b (by omega)
    have hB' : q_gB τ b := by
      unfold q_gB
      rw [ub, hf (b + 4) (by omega), hf (b + 1) (by omega), hf (b + 2) (by omega)]
      exact hB
    have eB : q_BC τ b = q_BC σ b := by
      show (_, _, _, _, _) = (_, _, _, _, _)
      rw [ub, hf (b + 1) (by omega), hf (b + 2) (by omega), hf (b + 3) (by omega), hf (b + 4) (by omega)]
    refine r_Moves_take [(23, [true, true, true, true, true])] 600 ?_
    repeat' (first | (refine mj_ite (fun h => ?_) (fun h => ?_) <;> first | (exfalso; omega) | skip) | refine mj_vci (by first | omega | (simp (disch := omega) only [up_ne, up_at, q_up_at, q_up_ne, cp_ne]; omega)) ?_)
    refine c_Villages_holds (by rw [u0]; exact hV.1) (fun a1 a2 a3 => ?_) (fun a0 => ?_)
    · rw [u0] at a3
      repeat' (first | (refine mj_ite (fun h => ?_) (fun h => ?_) <;> first | (exfalso; omega) | skip) | refine mj_vci (by first | omega | (simp (disch := omega) only [up_ne, up_at, q_up_at, q_up_ne, cp_ne]; omega)) ?_)
      refine c_Border_sideOf hB' (by rw [u1]; omega) (by rw [u2]; omega) ?_
      generalize hr : q_side (q_X τ b) (q_Y τ b) (τ b 4 + 1) (τ (v + 1) i) (τ (v + 2) i) = r
      have hr2 : q_sideB E.1.1 E.1.2 (q_BC σ b) (E.2.1 i) (E.2.2.1 i) = r := by
        rw [hE.1, hE.2.1, hE.2.2, ← hr, ← eB, ← ub, ← u1, ← u2]
        rfl
      have hri := q_sideB_in E.1.1 E.1.2 (q_BC σ b) (E.2.1 i) (E.2.2.1 i)
      rw [hr2] at hri
      have tv := t2 (3 * i + r) (by omega) (by omega) (by rw [show (3 * i + r) / 3 = i by omega]; exact a3)
      have lb := hLb (3 * i + r)
      repeat' (first | (refine mj_ite (fun h => ?_) (fun h => ?_) <;> first | (exfalso; omega) | skip) | refine mj_vci (by first | omega | (simp (disch := omega) only [up_ne, up_at, q_up_at, q_up_ne, cp_ne]; omega)) ?_)
      refine ih (i + 1) _ (by omega) (by omega) (fun o ho => by rw [up_ne _ _ _ ho]; exact hf o ho) (fun j j0 j1 jt => ?_) (fun j j0 j1 jt => ?_)
      · rw [up_at, tv]
        by_cases ej : j < 3 * i
        · rw [q_up_ne _ _ (by omega)]; exact t1 j j0 ej jt
        · have e1 : j / 3 = i := by omega
          have e2 : j % 3 = j - 3 * i := by omega
          have ei : q_ind E (q_BC σ b) j = if r = j - 3 * i then 1 else 0 := by
            unfold q_ind
            rw [e1, e2, hr2]
          rw [ei]
          by_cases e3 : j = 3 * i + r
          · rw [e3, q_up_at, if_pos (by omega)]
          · rw [q_up_ne _ _ e3, if_neg (by omega), t2 j (by omega) (by omega) jt]; omega
      · rw [up_at, q_up_ne _ _ (by omega)]; exact t2 j (by omega) j1 jt
    · rw [u0] at a0
      have hn : ¬ q_tb (σ v 2) i = true := fun q => a0 ⟨by omega, by omega, q⟩
      repeat' (first | (refine mj_ite (fun h => ?_) (fun h => ?_) <;> first | (exfalso; omega) | skip) | refine mj_vci (by first | omega | (simp (disch := omega) only [up_ne, up_at, q_up_at, q_up_ne, cp_ne]; omega)) ?_)
      refine ih (i + 1) τ (by omega) (by omega) hf (fun j j0 j1 jt => ?_) (fun j j0 j1 jt => t2 j (by omega) j1 jt)
      by_cases ej : j < 3 * i
      · exact t1 j j0 ej jt
      · rw [show j / 3 = i by omega] at jt
        exact absurd jt hn
theorem c_Moves_take (hB : q_gB σ b) (hV : q_vo σ v) (hd1 : mm + 1 < b ∨ b + 4 < mm) (hd2 : mm + 1 < v ∨ v + 2 < mm) (hE : E.1 = (σ b 5, σ b 6) ∧ E.2.1 = σ (v + 1) ∧ E.2.2.1 = σ (v + 2)) (hm : q_mvC σ mm (σ v 2) t) (hb : q_mvb t N) (hN : N ≤ 900) (hK : ∀ σ', (∀ o, o ≠ mm → o ≠ mm + 1 → σ' o = σ o) → q_mvC σ' mm (σ v 2) (q_tk E (q_BC σ b) m t) → K none σ') : mj_Ok (n + 5) i_Moves_take [rV 4 0 mm, rV 9 0 v, rV 1 0 b, iV m] σ K := by
  obtain ⟨m1, m2, m3⟩ := hm
  have hb1 := hb.1
  have u2 : mj_up σ mm 1 (σ mm 1 + 1) mm 2 = t.2.1 := by rw [up_at, q_up_ne _ _ (by omega), m2]
  have fin : mj_Wm i_Moves_take (n + 5) K 23 [some (rV 4 0 mm), some (rV 9 0 v), some (rV 1 0 b), some (iV m), some (iV 0)] [] (mj_up (mj_up σ mm 1 (σ mm 1 + 1)) mm 2 (mj_or (mj_up σ mm 1 (σ mm 1 + 1) mm 2) m)) := by
    rw [u2, m1]
    generalize hτ : mj_up (mj_up σ mm 1 (t.1 + 1)) mm 2 (mj_or t.2.1 m) = τ
    have hof : ∀ o, o ≠ mm → τ o = σ o := by intro o ho; rw [← hτ, up_ne _ _ _ ho, up_ne _ _ _ ho]
    have g1 : τ mm 1 = t.1 + 1 := by rw [← hτ, up_at, q_up_ne _ _ (by omega), up_at, q_up_at]
    have g2 : τ mm 2 = mj_or t.2.1 m := by rw [← hτ, up_at, q_up_at]
    have ub := hof b (by omega)
    have uv := hof v (by omega)
    have eB : q_BC τ b = q_BC σ b := by
      show (_, _, _, _, _) = (_, _, _, _, _)
      rw [ub, hof (b + 1) (by omega), hof (b + 2) (by omega), hof (b + 3) (by omega), hof (b + 4) (by omega)]
    refine l_Moves_take (E := E) (L := t.2.2) ?_ ?_ hd1 hd2 ?_ (fun j => by have := hb.2 j; omega) (fun σ2 x1 x2 => ?_) 8 0 τ (by omega) (by omega) (fun _ _ => rfl) (fun j j0 j1 => by omega) (fun j j0 j1 jt => ?_)
    · unfold q_gB
      rw [ub, hof (b + 4) (by omega), hof (b + 1) (by omega), hof (b + 2) (by omega)]
      exact hB
    · unfold q_vo
      rw [uv, hof (v + 1) (by omega), hof (v + 2) (by omega)]
      exact hV
    · rw [ub, hof (v + 1) (by omega), hof (v + 2) (by omega)]
      exact hE
    · rw [eB, uv] at x2
      refine hK σ2 (fun o o1 o2 => by rw [x1 o o2]; exact hof o o1) ⟨?_, ?_, x2⟩
      · rw [x1 mm (by omega), g1]; rfl
      · rw [x1 mm (by omega), g2]; rfl
    · rw [uv] at jt
      rw [hof (mm + 1) (by omega)]
      exact m3 j (by omega) j1 jt
  refine mj_enter (by decide) (Nat.le_of_ble_eq_true rfl) (fun hg => ?_)
  refine r_Moves_take [(23, [true, true, true, true, true])] 600 ?_
  repeat' (first | (refine mj_ite (fun h => ?_) (fun h => ?_) <;> first | (exfalso; omega) | skip) | refine mj_vci (by first | omega | (simp (disch := omega) only [up_ne, up_at, q_up_at, q_up_ne, cp_ne]; omega)) ?_)
  exact fin
/-- the book at bk, the trial border at b, the moves at mm -/
abbrev q_EC (σ : mj_W) (bk b : Nat) : q_E := ((σ b 5, σ b 6), σ (bk + 6 + 1), σ (bk + 6 + 2), σ (bk + 9) 3, σ (bk + 9 + 1), σ (bk + 9 + 2), σ (bk + 9 + 3))
theorem c_fitE (hB : q_gB σ b) (hS : q_so σ (bk + 9)) (h1 : q_seeB (q_EC σ bk b) (q_BC σ b) → K (some (iV 1)) σ) (h0 : ¬ q_seeB (q_EC σ bk b) (q_BC σ b) → K (some (iV 0)) σ) : mj_Ok (n + 4) i_Sights_fit [rV 6 0 (bk + 9), rV 1 0 b] σ K :=
  c_Sights_fit hB hS.1 hS.2.1 hS.2.2.1 (fun q => h1 q) (fun q => h0 q)
/-- a state in which a person of the trial border was put elsewhere, and moves were counted -/
def q_gI (σ τ : mj_W) (bk b mm : Nat) (p : Int) (t : q_mv) : Prop := (∃ a, τ (b + 1) = q_up (σ (b + 1)) p a) ∧ (∃ a, τ (b + 2) = q_up (σ (b + 2)) p a) ∧ (∀ o, o ≠ b + 1 → o ≠ b + 2 → o ≠ mm → o ≠ mm + 1 → τ o = σ o) ∧ q_mvC τ mm (σ (bk + 6) 2) t
theorem l_gatherOf_in {u : Int} (hW : q_wB (q_BC σ b)) (h5 : 0 ≤ σ b 5 ∧ σ b 5 ≤ 40) (h6 : 0 ≤ σ b 6 ∧ σ b 6 ≤ 40) (hV : q_vo σ (bk + 6)) (hS : q_so σ (bk + 9)) (hd1 : bk + 12 < b) (hd2 : b + 4 < mm) (hp : 0 ≤ p ∧ p ≤ 7) (hu : -3 ≤ u ∧ u ≤ 3) (hN : N ≤ 800) {R : q_mv}
    (hnext : ∀ (τ : mj_W) (t : q_mv), q_gI σ τ bk b mm p t → q_mvb t (N + 7 * (u + 4)) → q_mvP (q_EC σ bk b) (q_BC σ b) p (49 - 7 * (u + 4)).toNat (7 * (u + 4)) t = R → mj_Wm i_Moves_gatherOf (n + 6) K 143 [some (rV 4 0 mm), some (rV 0 0 bk), some (rV 1 0 b), some (iV p), some (iV (σ (b + 1) p)), some (iV (σ (b + 2) p)), some (iV u), none, none, none, none, none] [] τ) :
    ∀ (k : Nat) (v : Int) (τ : mj_W) (t : q_mv), v + k = 3 - q_ab u + 1 → -(3 - q_ab u) ≤ v → q_gI σ τ bk b mm p t → q_mvb t (N + (7 * (u + 3) + (v + 3))) → q_mvP (q_EC σ bk b) (q_BC σ b) p (49 - (7 * (u + 3) + (v + 3))).toNat (7 * (u + 3) + (v + 3)) t = R → mj_Wm i_Moves_gatherOf (n + 6) K 40 [some (rV 4 0 mm), some (rV 0 0 bk), some (rV 1 0 b), some (iV p), some (iV (σ (b + 1) p)), some (iV (σ (b + 2) p)), some (iV u), some (iV (3 - q_ab u)), some (iV v), none, none, none] [] τ := by
  have hx0 : 0 ≤ σ (b + 1) p ∧ σ (b + 1) p ≤ 40 := hW.2.2.1 p
  have hy0 : 0 ≤ σ (b + 2) p ∧ σ (b + 2) p ≤ 40 := hW.2.2.2.1 p
  have hc4 : 0 ≤ σ b 4 ∧ σ b 4 ≤ 8 := hW.1
  have hab : 0 ≤ q_ab u ∧ q_ab u ≤ 3 ∧ (q_ab u = u ∨ q_ab u = -u) := by unfold q_ab; split <;> omega
  intro k
  induction k with
  | zero =>
    intro v τ t h1 hv hI hb hR
    have hsk : q_mvP (q_EC σ bk b) (q_BC σ b) p (49 - (7 * (u + 3) + (v + 3))).toNat (7 * (u + 3) + (v + 3)) t = q_mvP (q_EC σ bk b) (q_BC σ b) p (49 - 7 * (u + 4)).toNat (7 * (u + 4)) t := by
      have := q_mvP_skip (E := q_EC σ bk b) (B := q_BC σ b) (p := p) (k := (49 - 7 * (u + 4)).toNat) (s := t) (q_ab u).toNat (7 * (u + 3) + (v + 3)) (fun j j0 j1 q => by
        have e1 : j / 7 - 3 = u := by omega
        have q1 := q.1.2
        rw [e1] at q1
        have : q_ab (j % 7 - 3) = j % 7 - 3 := by unfold q_ab; rw [if_neg (by omega)]
        omega)
      rw [show (q_ab u).toNat + (49 - 7 * (u + 4)).toNat = (49 - (7 * (u + 3) + (v + 3))).toNat by omega, show 7 * (u + 3) + (v + 3) + ((q_ab u).toNat : Int) = 7 * (u + 4) by omega] at this
      exact this
    rw [hsk] at hR
    refine r_Moves_gatherOf [(40, [true, true, true, true, true, true, true, true, true, false, false, false]), (143, [true, true, true, true, true, true, true, false, false, false, false, false])] 600 ?_
    repeat' (first | (refine mj_ite (fun h => ?_) (fun h => ?_) <;> first | (exfalso; omega) | skip) | refine mj_vci (by first | omega | (simp (disch := omega) only [up_ne, up_at, q_up_at, q_up_ne, cp_ne]; omega)) ?_)
    exact hnext τ t hI (q_mvb_up hb (by omega)) hR
  | succ k ih =>
    intro v τ t h1 hv hI hb hR
    rw [show (49 - (7 * (u + 3) + (v + 3))).toNat = (49 - (7 * (u + 3) + (v + 1 + 3))).toNat + 1 by omega] at hR
    unfold q_mvP at hR
    have ei : (7 * (u + 3) + (v + 3)) / 7 - 3 = u := by omega
    have em : (7 * (u + 3) + (v + 3)) % 7 - 3 = v := by omega
    have hmc : q_mvc (q_BC σ b) p (7 * (u + 3) + (v + 3)) ↔ ((1 ≤ q_ab u + q_ab v ∧ q_ab u + q_ab v ≤ 3) ∧ q_land (σ (b + 1) p + u) (σ (b + 2) p + v) ∧ q_fr (q_BC σ b) p (σ (b + 1) p + u) (σ (b + 2) p + v)) := by
      unfold q_mvc
      rw [ei, em]
    rw [ei, em, show 7 * (u + 3) + (v + 3) + 1 = 7 * (u + 3) + (v + 1 + 3) by omega] at hR
    have hR : q_mvP (q_EC σ bk b) (q_BC σ b) p (49 - (7 * (u + 3) + (v + 1 + 3))).toNat (7 * (u + 3) + (v + 1 + 3)) (@ite _ (q_mvc (q_BC σ b) p (7 * (u + 3) + (v + 3))) (Classical.propDecidable _) (q_lk (q_EC σ bk b) (q_pos (q_BC σ b) p (σ (b + 1) p + u) (σ (b + 2) p + v)) (mj_shl 1 p) t) t) = R := hR
    have hav : 0 ≤ q_ab v ∧ q_ab u + q_ab v ≤ 3 ∧ (q_ab v = v ∨ q_ab v = -v) := by unfold q_ab at *; split <;> omega
    have next : ∀ (τ' : mj_W) (t' : q_mv), q_gI σ τ' bk b mm p t' → q_mvb t' (N + (7 * (u + 3) + (v + 3)) + 1) → q_mvP (q_EC σ bk b) (q_BC σ b) p (49 - (7 * (u + 3) + (v + 1 + 3))).toNat (7 * (u + 3) + (v + 1 + 3)) t' = R → mj_Wm i_Moves_gatherOf (n + 6) K 137 [some (rV 4 0 mm), some (rV 0 0 bk), some (rV 1 0 b), some (iV p), some (iV (σ (b + 1) p)), some (iV (σ (b + 2) p)), some (iV u), some (iV (3 - q_ab u)), some (iV v), none, none, none] [] τ' := by
      intro τ' t' n1 n2 n3
      refine r_Moves_gatherOf [(40, [true, true, true, true, true, true, true, true, true, false, false, false]), (143, [true, true, true, true, true, true, true, false, false, false, false, false])] 600 ?_
      repeat' (first | (refine mj_ite (fun h => ?_) (fun h => ?_) <;> first | (exfalso; omega) | skip) | refine mj_vci (by first | omega | (simp (disch := omega) only [up_ne, up_at, q_up_at, q_up_ne, cp_ne]; omega)) ?_)
      exact ih (v + 1) τ' t' (by omega) (by omega) n1 (q_mvb_up n2 (by omega)) n3
    have skip : ¬ q_mvc (q_BC σ b) p (7 * (u + 3) + (v + 3)) → mj_Wm i_Moves_gatherOf (n + 6) K 137 [some (rV 4 0 mm), some (rV 0 0 bk), some (rV 1 0 b), some (iV p), some (iV (σ (b + 1) p)), some (iV (σ (b + 2) p)), some (iV u), some (iV (3 - q_ab u)), some (iV v), none, none, none] [] τ := by
      intro q
      rw [if_neg q] at hR
      exact next τ t hI (q_mvb_up hb (by omega)) hR
    obtain ⟨⟨a1, hX⟩, ⟨a2, hY⟩, hf, hm⟩ := hI
    have tb : τ b = σ b := hf b (by omega) (by omega) (by omega) (by omega)
    have tb4 : τ (b + 4) = σ (b + 4) := hf (b + 4) (by omega) (by omega) (by omega) (by omega)
    have c4 : τ b 4 = σ b 4 := by rw [tb]
    have go : 1 ≤ q_ab u + q_ab v → mj_Wm i_Moves_gatherOf (n + 6) K 83 [some (rV 4 0 mm), some (rV 0 0 bk), some (rV 1 0 b), some (iV p), some (iV (σ (b + 1) p)), some (iV (σ (b + 2) p)), some (iV u), some (iV (3 - q_ab u)), some (iV v), none, some (iV (σ (b + 1) p + u)), some (iV (σ (b + 2) p + v))] [] τ := by
      intro h1s
      refine r_Moves_gatherOf [(137, [true, true, true, true, true, true, true, true, true, false, false, false])] 600 ?_
      refine c_S_isLand (fun b1 b2 b3 b4 => ?_) (fun b0 => ?_)
      · repeat' (first | (refine mj_ite (fun h => ?_) (fun h => ?_) <;> first | (exfalso; omega) | skip) | refine mj_vci (by first | omega | (simp (disch := omega) only [up_ne, up_at, q_up_at, q_up_ne, cp_ne]; omega)) ?_)
        refine c_Border_isTaken (by rw [c4]; exact hc4) (by rw [tb4]; exact hW.2.1) (fun j d1 d2 d3 d4 d5 => ?_) (fun d0 => ?_)
        · rw [tb4] at d3 d4 d5
          rw [hX, q_up_ne _ _ d3] at d4
          rw [hY, q_up_ne _ _ d3] at d5
          rw [c4] at d2
          repeat' (first | (refine mj_ite (fun h => ?_) (fun h => ?_) <;> first | (exfalso; omega) | skip) | refine mj_vci (by first | omega | (simp (disch := omega) only [up_ne, up_at, q_up_at, q_up_ne, cp_ne]; omega)) ?_)
          exact skip (fun q => (hmc.mp q).2.2 j d1 d2 d3 d4 d5)
        · have hfr : q_fr (q_BC σ b) p (σ (b + 1) p + u) (σ (b + 2) p + v) := by
            intro j j1 j2 j3 j4 j5
            have := d0 j j1 (by rw [c4]; exact j2)
            rw [tb4] at this
            refine this j3 ?_ ?_
            · rw [hX, q_up_ne _ _ j3]; exact j4
            · rw [hY, q_up_ne _ _ j3]; exact j5
          rw [if_pos (hmc.mpr ⟨⟨h1s, hav.2.1⟩, ⟨b1, b2, b3, b4⟩, hfr⟩)] at hR
          repeat' (first | (refine mj_ite (fun h => ?_) (fun h => ?_) <;> first | (exfalso; omega) | skip) | refine mj_vci (by first | omega | (simp (disch := omega) only [up_ne, up_at, q_up_at, q_up_ne, cp_ne]; omega)) ?_)
          refine c_Border_put hp ?_
          generalize hτ2 : mj_up (mj_up τ (b + 1) p (σ (b + 1) p + u)) (b + 2) p (σ (b + 2) p + v) = τ2
          have g1 : τ2 b = σ b := by rw [← hτ2, up_ne _ _ _ (by omega), up_ne _ _ _ (by omega)]; exact tb
          have g4 : τ2 (b + 4) = σ (b + 4) := by rw [← hτ2, up_ne _ _ _ (by omega), up_ne _ _ _ (by omega)]; exact tb4
          have gx : τ2 (b + 1) = q_up (σ (b + 1)) p (σ (b + 1) p + u) := by rw [← hτ2, up_ne _ _ _ (by omega), up_at, hX, q_upup]
          have gy : τ2 (b + 2) = q_up (σ (b + 2)) p (σ (b + 2) p + v) := by rw [← hτ2, up_at, up_ne _ _ _ (by omega), hY, q_upup]
          have gf : ∀ o, o ≠ b + 1 → o ≠ b + 2 → o ≠ mm → o ≠ mm + 1 → τ2 o = σ o := by
            intro o o1 o2 o3 o4
            rw [← hτ2, up_ne _ _ _ o2, up_ne _ _ _ o1]
            exact hf o o1 o2 o3 o4
          have gm : q_mvC τ2 mm (σ (bk + 6) 2) t := by
            unfold q_mvC at hm ⊢
            rw [← hτ2]
            simp (disch := omega) only [up_ne]
            exact hm
          have hWp := q_wB_pos hW (p := p) (x := σ (b + 1) p + u) (y := σ (b + 2) p + v) ⟨b1, b2, b3, b4⟩ hfr
          have gB : q_gB τ2 b := by
            unfold q_gB
            rw [g1, g4, gx, gy]
            exact ⟨hW.1, hW.2.1, hWp.2.2.1, hWp.2.2.2.1, h5, h6⟩
          have eB : q_BC τ2 b = q_pos (q_BC σ b) p (σ (b + 1) p + u) (σ (b + 2) p + v) := by
            show (_, _, _, _, _) = (_, _, _, _, _)
            rw [g1, g4, gx, gy, gf (b + 3) (by omega) (by omega) (by omega) (by omega)]
          have eE : q_EC τ2 bk b = q_EC σ bk b := by
            unfold q_EC
            rw [g1, gf (bk + 6 + 1) (by omega) (by omega) (by omega) (by omega), gf (bk + 6 + 2) (by omega) (by omega) (by omega) (by omega), gf (bk + 9) (by omega) (by omega) (by omega) (by omega), gf (bk + 9 + 1) (by omega) (by omega) (by omega) (by omega), gf (bk + 9 + 2) (by omega) (by omega) (by omega) (by omega), gf (bk + 9 + 3) (by omega) (by omega) (by omega) (by omega)]
          have gS : q_so τ2 (bk + 9) := by
            unfold q_so
            rw [gf (bk + 9) (by omega) (by omega) (by omega) (by omega), gf (bk + 9 + 1) (by omega) (by omega) (by omega) (by omega), gf (bk + 9 + 2) (by omega) (by omega) (by omega) (by omega), gf (bk + 9 + 3) (by omega) (by omega) (by omega) (by omega)]
            exact hS
          have gv := gf (bk + 6) (by omega) (by omega) (by omega) (by omega)
          have gV : q_vo τ2 (bk + 6) := by
            unfold q_vo
            rw [gv, gf (bk + 6 + 1) (by omega) (by omega) (by omega) (by omega), gf (bk + 6 + 2) (by omega) (by omega) (by omega) (by omega)]
            exact hV
          unfold q_lk at hR
          refine c_fitE gB gS (fun q => ?_) (fun q => ?_)
          · rw [eE, eB] at q
            rw [if_pos q] at hR
            repeat' (first | (refine mj_ite (fun h => ?_) (fun h => ?_) <;> first | (exfalso; omega) | skip) | refine mj_vci (by first | omega | (simp (disch := omega) only [up_ne, up_at, q_up_at, q_up_ne, cp_ne]; omega)) ?_)
            refine c_Moves_take (E := q_EC σ bk b) (t := t) gB gV (by omega) (by omega) ?_ (by rw [gv]; exact gm) hb (by omega) (fun σ3 x1 x2 => ?_)
            · rw [g1, gf (bk + 6 + 1) (by omega) (by omega) (by omega) (by omega), gf (bk + 6 + 2) (by omega) (by omega) (by omega) (by omega)]
              exact ⟨rfl, rfl, rfl⟩
            · rw [gv, eB] at x2
              repeat' (first | (refine mj_ite (fun h => ?_) (fun h => ?_) <;> first | (exfalso; omega) | skip) | refine mj_vci (by first | omega | (simp (disch := omega) only [up_ne, up_at, q_up_at, q_up_ne, cp_ne]; omega)) ?_)
              refine next σ3 _ ⟨⟨_, by rw [x1 (b + 1) (by omega) (by omega)]; exact gx⟩, ⟨_, by rw [x1 (b + 2) (by omega) (by omega)]; exact gy⟩, fun o o1 o2 o3 o4 => by rw [x1 o o3 o4]; exact gf o o1 o2 o3 o4, x2⟩ (q_mvb_tk hb) hR
          · rw [eE, eB] at q
            rw [if_neg q] at hR
            repeat' (first | (refine mj_ite (fun h => ?_) (fun h => ?_) <;> first | (exfalso; omega) | skip) | refine mj_vci (by first | omega | (simp (disch := omega) only [up_ne, up_at, q_up_at, q_up_ne, cp_ne]; omega)) ?_)
            exact next τ2 t ⟨⟨_, gx⟩, ⟨_, gy⟩, gf, gm⟩ (q_mvb_up hb (by omega)) hR
      · repeat' (first | (refine mj_ite (fun h => ?_) (fun h => ?_) <;> first | (exfalso; omega) | skip) | refine mj_vci (by first | omega | (simp (disch := omega) only [up_ne, up_at, q_up_at, q_up_ne, cp_ne]; omega)) ?_)
        exact skip (fun q => b0 (hmc.mp q).2.1)
    by_cases e0 : u = 0 ∧ v = 0
    · obtain ⟨e1, e2⟩ := e0
      have sk := skip (fun q => by
        have := (hmc.mp q).1.1
        rw [e1, e2] at this
        have z0 : q_ab 0 = 0 := rfl
        omega)
      subst e1
      subst e2
      refine r_Moves_gatherOf [(83, [true, true, true, true, true, true, true, true, true, false, true, true]), (137, [true, true, true, true, true, true, true, true, true, false, false, false])] 600 ?_
      repeat' (first | (refine mj_ite (fun h => ?_) (fun h => ?_) <;> first | (exfalso; omega) | skip) | refine mj_vci (by first | omega | (simp (disch := omega) only [up_ne, up_at, q_up_at, q_up_ne, cp_ne]; omega)) ?_)
      exact sk
    · have g1 := go (by omega)
      refine r_Moves_gatherOf [(83, [true, true, true, true, true, true, true, true, true, false, true, true]), (137, [true, true, true, true, true, true, true, true, true, false, false, false])] 600 ?_
      repeat' (first | (refine mj_ite (fun h => ?_) (fun h => ?_) <;> first | (exfalso; omega) | skip) | refine mj_vci (by first | omega | (simp (disch := omega) only [up_ne, up_at, q_up_at, q_up_ne, cp_ne]; omega)) ?_)
      all_goals exact g1
theorem l_gatherOf_out (hW : q_wB (q_BC σ b)) (h5 : 0 ≤ σ b 5 ∧ σ b 5 ≤ 40) (h6 : 0 ≤ σ b 6 ∧ σ b 6 ≤ 40) (hV : q_vo σ (bk + 6)) (hS : q_so σ (bk + 9)) (hd1 : bk + 12 < b) (hd2 : b + 4 < mm) (hp : 0 ≤ p ∧ p ≤ 7) (hN : N ≤ 800) {R : q_mv} (hK : ∀ σ', (∀ o, o ≠ mm → o ≠ mm + 1 → σ' o = σ o) → q_mvC σ' mm (σ (bk + 6) 2) R → K none σ') :
    ∀ (k : Nat) (u : Int) (τ : mj_W) (t : q_mv), -3 ≤ u → u + k = 4 → q_gI σ τ bk b mm p t → q_mvb t (N + 7 * (u + 3)) → q_mvP (q_EC σ bk b) (q_BC σ b) p (49 - 7 * (u + 3)).toNat (7 * (u + 3)) t = R → mj_Wm i_Moves_gatherOf (n + 6) K 20 [some (rV 4 0 mm), some (rV 0 0 bk), some (rV 1 0 b), some (iV p), some (iV (σ (b + 1) p)), some (iV (σ (b + 2) p)), some (iV u), none, none, none, none, none] [] τ := by
  intro k
  induction k with
  | zero =>
    intro u τ t h0 h1 hI hb hR
    have hu : u = 4 := by omega
    subst hu
    have hR : t = R := hR
    subst hR
    obtain ⟨⟨a1, hX⟩, ⟨a2, hY⟩, hf, hm⟩ := hI
    refine r_Moves_gatherOf [(20, [true, true, true, true, true, true, true, false, false, false, false, false])] 600 ?_
    repeat' (first | (refine mj_ite (fun h => ?_) (fun h => ?_) <;> first | (exfalso; omega) | skip) | refine mj_vci (by first | omega | (simp (disch := omega) only [up_ne, up_at, q_up_at, q_up_ne, cp_ne]; omega)) ?_)
    refine c_Border_put hp ?_
    repeat' (first | (refine mj_ite (fun h => ?_) (fun h => ?_) <;> first | (exfalso; omega) | skip) | refine mj_vci (by first | omega | (simp (disch := omega) only [up_ne, up_at, q_up_at, q_up_ne, cp_ne]; omega)) ?_)
    refine hK _ (fun o o3 o4 => ?_) ?_
    · by_cases o1 : o = b + 1
      · subst o1
        rw [up_ne _ _ _ (by omega), up_at, hX, q_upup]
        exact q_up_id _ rfl
      · by_cases o2 : o = b + 2
        · subst o2
          rw [up_at, up_ne _ _ _ (by omega), hY, q_upup]
          exact q_up_id _ rfl
        · rw [up_ne _ _ _ o2, up_ne _ _ _ o1]
          exact hf o o1 o2 o3 o4
    · unfold q_mvC at hm ⊢
      simp (disch := omega) only [up_ne]
      exact hm
  | succ k ih =>
    intro u τ t h0 h1 hI hb hR
    have hab : 0 ≤ q_ab u ∧ q_ab u ≤ 3 ∧ (q_ab u = u ∨ q_ab u = -u) := by unfold q_ab; split <;> omega
    have hsk : q_mvP (q_EC σ bk b) (q_BC σ b) p (49 - 7 * (u + 3)).toNat (7 * (u + 3)) t = q_mvP (q_EC σ bk b) (q_BC σ b) p (49 - (7 * (u + 3) + (-(3 - q_ab u) + 3))).toNat (7 * (u + 3) + (-(3 - q_ab u) + 3)) t := by
      have := q_mvP_skip (E := q_EC σ bk b) (B := q_BC σ b) (p := p) (k := (49 - (7 * (u + 3) + (-(3 - q_ab u) + 3))).toNat) (s := t) (q_ab u).toNat (7 * (u + 3)) (fun j j0 j1 q => by
        have e1 : j / 7 - 3 = u := by omega
        have q1 := q.1.2
        rw [e1] at q1
        have : q_ab (j % 7 - 3) = -(j % 7 - 3) := by unfold q_ab; rw [if_pos (by omega)]
        omega)
      rw [show (q_ab u).toNat + (49 - (7 * (u + 3) + (-(3 - q_ab u) + 3))).toNat = (49 - 7 * (u + 3)).toNat by omega, show 7 * (u + 3) + ((q_ab u).toNat : Int) = 7 * (u + 3) + (-(3 - q_ab u) + 3) by omega] at this
      exact this
    rw [hsk] at hR
    have inner := l_gatherOf_in (n := n) (K := K) (R := R) (u := u) hW h5 h6 hV hS hd1 hd2 hp (by omega) hN (fun τ' t' n1 n2 n3 => by
      refine r_Moves_gatherOf [(20, [true, true, true, true, true, true, true, false, false, false, false, false])] 600 ?_
      repeat' (first | (refine mj_ite (fun h => ?_) (fun h => ?_) <;> first | (exfalso; omega) | skip) | refine mj_vci (by first | omega | (simp (disch := omega) only [up_ne, up_at, q_up_at, q_up_ne, cp_ne]; omega)) ?_)
      exact ih (u + 1) τ' t' (by omega) (by omega) n1 (q_mvb_up n2 (by omega)) (by rw [show u + 1 + 3 = u + 4 by omega]; exact n3)) (7 - 2 * q_ab u).toNat (-(3 - q_ab u)) τ t (by omega) (by omega) hI (q_mvb_up hb (by omega)) hR
    have ea : (if u < 0 then -u else u) = q_ab u := rfl
    refine r_Moves_gatherOf [(20, [true, true, true, true, true, true, true, false, false, false, false, false]), (40, [true, true, true, true, true, true, true, true, true, false, false, false])] 600 ?_
    repeat' (first | (refine mj_ite (fun h => ?_) (fun h => ?_) <;> first | (exfalso; omega) | skip) | refine mj_vci (by first | omega | (simp (disch := omega) only [up_ne, up_at, q_up_at, q_up_ne, cp_ne]; omega)) ?_)
    exact inner
theorem c_Moves_gatherOf (hW : q_wB (q_BC σ b)) (h5 : 0 ≤ σ b 5 ∧ σ b 5 ≤ 40) (h6 : 0 ≤ σ b 6 ∧ σ b 6 ≤ 40) (hV : q_vo σ (bk + 6)) (hS : q_so σ (bk + 9)) (hd1 : bk + 12 < b) (hd2 : b + 4 < mm) (hp : 0 ≤ p ∧ p ≤ 7) (hN : N ≤ 800) (hm : q_mvC σ mm (σ (bk + 6) 2) t) (hb : q_mvb t N) (hK : ∀ σ', (∀ o, o ≠ mm → o ≠ mm + 1 → σ' o = σ o) → q_mvC σ' mm (σ (bk + 6) 2) (q_mvP (q_EC σ bk b) (q_BC σ b) p 49 0 t) → K none σ') : mj_Ok (n + 6) i_Moves_gatherOf [rV 4 0 mm, rV 0 0 bk, rV 1 0 b, iV p] σ K := by
  refine mj_enter (by decide) (Nat.le_of_ble_eq_true rfl) (fun hg => ?_)
  refine r_Moves_gatherOf [(20, [true, true, true, true, true, true, true, false, false, false, false, false])] 600 ?_
  repeat' (first | (refine mj_ite (fun h => ?_) (fun h => ?_) <;> first | (exfalso; omega) | skip) | refine mj_vci (by first | omega | (simp (disch := omega) only [up_ne, up_at, q_up_at, q_up_ne, cp_ne]; omega)) ?_)
  exact l_gatherOf_out hW h5 h6 hV hS hd1 hd2 hp hN hK 7 (-3) σ t (by omega) (by omega) ⟨⟨_, (q_up_id _ rfl).symm⟩, ⟨_, (q_up_id _ rfl).symm⟩, fun _ _ _ _ _ => rfl, hm⟩ (q_mvb_up hb (by omega)) rfl
end S7
