/-! StandingLine itself: its good states; what asks leaves all but scratch (cells 43 to 57) as it was -/
def q_vo (σ : mj_W) (v : Nat) : Prop := (0 ≤ σ v 2 ∧ σ v 2 ≤ 255) ∧ (∀ i, 0 ≤ σ (v + 1) i ∧ σ (v + 1) i ≤ 40) ∧ (∀ i, 0 ≤ σ (v + 2) i ∧ σ (v + 2) i ≤ 40)
def q_so (σ : mj_W) (v : Nat) : Prop := (0 ≤ σ v 3 ∧ σ v 3 ≤ 8) ∧ (∀ i, 0 ≤ σ (v + 1) i ∧ σ (v + 1) i ≤ 40) ∧ (∀ i, 0 ≤ σ (v + 2) i ∧ σ (v + 2) i ≤ 40) ∧ (∀ i, 0 ≤ σ (v + 3) i ∧ σ (v + 3) i ≤ 2)
def q_lo (σ : mj_W) (b : Nat) : Prop := q_wB (q_BC σ b) ∧ (0 ≤ σ b 5 ∧ σ b 5 ≤ 40) ∧ (0 ≤ σ b 6 ∧ σ b 6 ≤ 40) ∧ (0 ≤ σ b 7 ∧ σ b 7 ≤ 99)
def q_po (σ : mj_W) : Prop := (0 ≤ σ 41 1 ∧ σ 41 1 ≤ 60) ∧ (∀ i, 0 ≤ σ (41 + 1) i ∧ σ (41 + 1) i ≤ 200)
def q_C (σ : mj_W) : Prop := q_lo σ 2 ∧ q_vo σ 7 ∧ q_so σ 10 ∧ q_po σ
abbrev q_Fc (σ σ' : mj_W) : Prop := ∀ o, (o < 43 ∨ 57 < o) → σ' o = σ o
theorem q_lo.g {σ : mj_W} {b : Nat} (h : q_lo σ b) : q_gB σ b := ⟨h.1.1, h.1.2.1, h.1.2.2.1, h.1.2.2.2.1, h.2.1, h.2.2.1⟩
theorem q_gB_of {σ : mj_W} {b : Nat} (h : q_wB (q_BC σ b)) (h5 : 0 ≤ σ b 5 ∧ σ b 5 ≤ 40) (h6 : 0 ≤ σ b 6 ∧ σ b 6 ≤ 40) : q_gB σ b := ⟨h.1, h.2.1, h.2.2.1, h.2.2.2.1, h5, h6⟩
theorem q_wB_go {reach : Int} (hr : reach ≤ 99) : ∀ (l : List q_A) (B : q_B) (k s : Int), q_wB B → (∀ a ∈ l, q_aok a) → q_wB (q_go reach l B k s).2.2.2.2
  | [], B, k, s, h, _ => h
  | a :: l, B, k, s, h, ha => by
    unfold q_go
    by_cases e : q_aw reach B a ≠ 0
    · rw [if_pos e]; exact h
    · rw [if_neg e]
      exact q_wB_go hr l _ _ _ (q_wB_ad h hr (ha a List.mem_cons_self) (Decidable.not_not.mp e)) (fun x hx => ha x (List.mem_cons_of_mem _ hx))
theorem q_rep_ok {sg : Int → Int} {L : Int} : ∀ {l : List q_A} {i : Int}, q_rep sg L i l → ∀ a ∈ l, q_aok a
  | [], _, _, a, ha => absurd ha List.not_mem_nil
  | x :: l, i, h, a, ha => by
    obtain ⟨h1, h2, h3, h4⟩ := h
    rcases List.mem_cons.mp ha with e | e
    · rw [e]; exact h2
    · exact q_rep_ok h4 a e
/-- the days of a state, by its acts -/
noncomputable abbrev q_R (σ : mj_W) (l : List q_A) : Int × Int × Int × Int × q_B := q_go (σ 2 7) l (q_BC σ 2) 0 0
def q_tried (σ σ' : mj_W) (l : List q_A) : Prop := q_Fc σ σ' ∧ q_BC σ' 44 = (q_R σ l).2.2.2.2 ∧ σ' 44 5 = σ 2 5 ∧ σ' 44 6 = σ 2 6 ∧ σ' 44 7 = σ 2 7 ∧ σ' 43 2 = (q_R σ l).1 ∧ σ' 43 3 = (q_R σ l).2.1 ∧ σ' 43 1 = (q_R σ l).2.2.1 ∧ σ' 43 0 = (q_R σ l).2.2.2.1 ∧ q_gB σ' 44 ∧ q_wB (q_BC σ' 44)
section S1
variable {n : Nat} {σ : mj_W} {K : Option mj_V → mj_W → Prop} {x y p w i j c d : Int} {l : List q_A}
theorem c_S_tryDays (hC : q_C σ) (hl : q_fault (σ (41 + 1)) (σ 41 1) = -6 → q_rep (σ (41 + 1)) (σ 41 1) 0 l) (hno : q_fault (σ (41 + 1)) (σ 41 1) ≠ -6 → K (some (iV (-5))) σ) (hyes : q_fault (σ (41 + 1)) (σ 41 1) = -6 → ∀ σ', q_tried σ σ' l → (∀ r, r = (if (q_R σ l).1 = -6 then 0 else -3) → K (some (iV r)) σ')) : mj_Ok (n + 6) i_S_tryDays [rV 11 0 0] σ K := by
  obtain ⟨h1, h2, h3, h4⟩ := hC
  refine mj_enter (by decide) (Nat.le_of_ble_eq_true rfl) (fun hg => ?_)
  refine r_S_tryDays [] 600 ?_
  refine c_Pad_firstFault (v := 41) h4.1 h4.2 (fun r hr => ?_)
  by_cases e : q_fault (σ (41 + 1)) (σ 41 1) = -6
  · rw [e] at hr
    subst hr
    repeat' (first | (refine mj_ite (fun h => ?_) (fun h => ?_) <;> first | (exfalso; omega) | skip) | refine mj_vci (by first | omega | (simp (disch := omega) only [up_ne, up_at, q_up_at, q_up_ne, cp_ne]; omega)) ?_)
    refine c_Border_copyFrom (b := 44) (o := 2) (by omega) (by decide +kernel) (by decide +kernel) (fun σ1 s1 s2 s3 s4 s5 s6 s7 s8 s9 => ?_)
    have eB : q_BC σ1 44 = q_BC σ 2 := by
      show (_, _, _, _, _) = (_, _, _, _, _)
      rw [s1, s5, s6, s7, s8]
    have p1 : σ1 41 = σ 41 := s9 41 (by omega) (by omega) (by omega) (by omega) (by omega)
    have p2 : σ1 (41 + 1) = σ (41 + 1) := s9 (41 + 1) (by omega) (by omega) (by omega) (by omega) (by omega)
    refine c_Days_pass (b := 44) (v := 41) (dd := 43) (l := l) (by decide +kernel) (by rw [eB]; exact h1.1) (by rw [s4]; exact h1.2.2.2.2) (by omega) (by omega) (by omega) (by rw [p1]; exact h4.1) (by rw [p2]; exact h4.2) (by rw [p1, p2]; exact hl e) (fun σ2 hp => ?_)
    rw [eB, s4] at hp
    obtain ⟨q1, q2, q3, q4, q5, q6, q7⟩ := hp
    have hW : q_wB (q_R σ l).2.2.2.2 := q_wB_go h1.2.2.2.2 l _ _ _ h1.1 (q_rep_ok (hl e))
    have t5 : σ2 44 5 = σ 2 5 := by rw [q2 5 (by omega), s2]
    have t6 : σ2 44 6 = σ 2 6 := by rw [q2 6 (by omega), s3]
    have t7 : σ2 44 7 = σ 2 7 := by rw [q2 7 (by omega), s4]
    have key := hyes e σ2 ⟨fun o ho => by rw [q7 o (by omega) (by omega) (by omega) (by omega) (by omega) (by omega), s9 o (by omega) (by omega) (by omega) (by omega) (by omega)], q1, t5, t6, t7, q3, q4, q5, q6, q_gB_of (by rw [q1]; exact hW) (by rw [t5]; exact h1.2.1) (by rw [t6]; exact h1.2.2.1), by rw [q1]; exact hW⟩
    have q3' : σ2 43 2 = (q_R σ l).1 := q3
    rw [← q3'] at key
    repeat' (first | (refine mj_ite (fun h => ?_) (fun h => ?_) <;> first | (exfalso; omega) | skip) | refine mj_vci (by first | omega | (simp (disch := omega) only [up_ne, up_at, q_up_at, q_up_ne, cp_ne]; omega)) ?_)
    · rw [if_pos h] at key; exact key _ rfl
    · rw [if_neg h] at key; exact key _ rfl
  · rw [← hr] at e
    refine mj_ite (fun h => absurd h e) (fun h => ?_)
    exact hno (by rw [← hr]; exact e)
theorem c_S_judge (hC : q_C σ) (hl : q_fault (σ (41 + 1)) (σ 41 1) = -6 → q_rep (σ (41 + 1)) (σ 41 1) 0 l) (hK : ∀ r σ', q_Fc σ σ' → r = (if ¬ (0 ≤ w ∧ w ≤ 2) then -2 else if q_fault (σ (41 + 1)) (σ 41 1) ≠ -6 then -5 else if (q_R σ l).1 ≠ -6 ∧ w = 2 then -3 else if w = 0 then (q_R σ l).1 else if w = 1 then (q_R σ l).2.1 else (q_R σ l).2.2.1) → K (some (iV r)) σ') : mj_Ok (n + 7) i_S_judge [rV 11 0 0, iV w] σ K := by
  refine mj_enter (by decide) (Nat.le_of_ble_eq_true rfl) (fun hg => ?_)
  refine r_S_judge [] 600 ?_
  by_cases hw : 0 ≤ w ∧ w ≤ 2
  · repeat' (first | (refine mj_ite (fun h => ?_) (fun h => ?_) <;> first | (exfalso; omega) | skip) | refine mj_vci (by first | omega | (simp (disch := omega) only [up_ne, up_at, q_up_at, q_up_ne, cp_ne]; omega)) ?_)
    refine c_S_tryDays (l := l) hC hl (fun e => ?_) (fun e σ' ht r hr => ?_)
    · repeat' (first | (refine mj_ite (fun h => ?_) (fun h => ?_) <;> first | (exfalso; omega) | skip) | refine mj_vci (by first | omega | (simp (disch := omega) only [up_ne, up_at, q_up_at, q_up_ne, cp_ne]; omega)) ?_)
      exact hK _ σ (fun _ _ => rfl) (by rw [if_neg (fun q => q hw), if_pos e])
    · obtain ⟨f1, f2, f3, f4, f5, f6, f7, f8, f9, f10⟩ := ht
      have key := fun r => hK r σ' f1
      rw [if_neg (fun q => q hw), if_neg (fun q => q e)] at key
      rw [← f6, ← f7, ← f8] at key
      rw [← f6] at hr
      by_cases e2 : σ' 43 2 = -6
      · rw [if_pos e2] at hr
        subst hr
        repeat' (first | (refine mj_ite (fun h => ?_) (fun h => ?_) <;> first | (exfalso; omega) | skip) | refine mj_vci (by first | omega | (simp (disch := omega) only [up_ne, up_at, q_up_at, q_up_ne, cp_ne]; omega)) ?_)
        all_goals (refine key _ ?_; (try simp only [Nat.zero_add, Nat.reduceAdd] at *); (repeat' split) <;> omega)
      · rw [if_neg e2] at hr
        subst hr
        repeat' (first | (refine mj_ite (fun h => ?_) (fun h => ?_) <;> first | (exfalso; omega) | skip) | refine mj_vci (by first | omega | (simp (disch := omega) only [up_ne, up_at, q_up_at, q_up_ne, cp_ne]; omega)) ?_)
        all_goals (refine key _ ?_; (try simp only [Nat.zero_add, Nat.reduceAdd] at *); (repeat' split) <;> omega)
  · repeat' (first | (refine mj_ite (fun h => ?_) (fun h => ?_) <;> first | (exfalso; omega) | skip) | refine mj_vci (by first | omega | (simp (disch := omega) only [up_ne, up_at, q_up_at, q_up_ne, cp_ne]; omega)) ?_)
    all_goals exact hK _ σ (fun _ _ => rfl) (by rw [if_pos hw])
theorem q_refused {σ' : mj_W} {L : Int} : L = L := rfl
theorem c_S_behind (hC : q_C σ) (hl : q_fault (σ (41 + 1)) (σ 41 1) = -6 → q_rep (σ (41 + 1)) (σ 41 1) 0 l) (hK : ∀ r σ', q_Fc σ σ' → r = (if ¬ (0 ≤ w ∧ w ≤ 3) then -2 else if q_fault (σ (41 + 1)) (σ 41 1) ≠ -6 then -5 else if (q_R σ l).1 ≠ -6 then -3 else if q_fnd (q_R σ l).2.2.2.2.2.1 (q_R σ l).2.2.2.2.1 p = -6 then -1 else if w = 3 then q_fnd (q_R σ l).2.2.2.2.2.1 (q_R σ l).2.2.2.2.1 p else if w = 0 then (q_R σ l).2.2.2.2.2.2.1 p else if w = 1 then (q_R σ l).2.2.2.2.2.2.2.1 p else (q_R σ l).2.2.2.2.2.2.2.2 p) → K (some (iV r)) σ') : mj_Ok (n + 7) i_S_behind [rV 11 0 0, iV p, iV w] σ K := by
  refine mj_enter (by decide) (Nat.le_of_ble_eq_true rfl) (fun hg => ?_)
  refine r_S_behind [] 600 ?_
  by_cases hw : 0 ≤ w ∧ w ≤ 3
  · repeat' (first | (refine mj_ite (fun h => ?_) (fun h => ?_) <;> first | (exfalso; omega) | skip) | refine mj_vci (by first | omega | (simp (disch := omega) only [up_ne, up_at, q_up_at, q_up_ne, cp_ne]; omega)) ?_)
    refine c_S_tryDays (l := l) hC hl (fun e => ?_) (fun e σ' ht r hr => ?_)
    · repeat' (first | (refine mj_ite (fun h => ?_) (fun h => ?_) <;> first | (exfalso; omega) | skip) | refine mj_vci (by first | omega | (simp (disch := omega) only [up_ne, up_at, q_up_at, q_up_ne, cp_ne]; omega)) ?_)
      exact hK _ σ (fun _ _ => rfl) (by rw [if_neg (fun q => q hw), if_pos e])
    · obtain ⟨f1, f2, f3, f4, f5, f6, f7, f8, f9, f10, f11⟩ := ht
      have key := fun r => hK r σ' f1
      rw [if_neg (fun q => q hw), if_neg (fun q => q e), ← f2] at key
      by_cases e2 : (q_R σ l).1 = -6
      · rw [if_pos e2] at hr
        rw [if_neg (fun q => q e2)] at key
        subst hr
        repeat' (first | (refine mj_ite (fun h => ?_) (fun h => ?_) <;> first | (exfalso; omega) | skip) | refine mj_vci (by first | omega | (simp (disch := omega) only [up_ne, up_at, q_up_at, q_up_ne, cp_ne]; omega)) ?_)
        refine c_Border_placeOf (b := 44) f11.1 ?_
        have hf := q_fnd_or (σ' (44 + 4)) f11.1.1 p
        have hr7 := f11.2.1 (q_fnd (σ' (44 + 4)) (σ' 44 4) p)
        dsimp only at key hr7 hf
        generalize hq : q_fnd (σ' (44 + 4)) (σ' 44 4) p = pl at key hf hr7
        by_cases e3 : pl = -6
        · rw [if_pos e3] at key
          subst e3
          repeat' (first | (refine mj_ite (fun h => ?_) (fun h => ?_) <;> first | (exfalso; omega) | skip) | refine mj_vci (by first | omega | (simp (disch := omega) only [up_ne, up_at, q_up_at, q_up_ne, cp_ne]; omega)) ?_)
          exact key _ rfl
        · rw [if_neg e3] at key
          have hp : 0 ≤ p ∧ p ≤ 7 := by
            rcases hf with hf | hf
            · exact absurd hf.1 e3
            · rw [hf.2.2] at hr7; exact hr7
          refine mj_ite (fun h => absurd h e3) (fun h => ?_)
          by_cases e4 : w = 3
          · rw [if_pos e4] at key
            subst e4
            repeat' (first | (refine mj_ite (fun h => ?_) (fun h => ?_) <;> first | (exfalso; omega) | skip) | refine mj_vci (by first | omega | (simp (disch := omega) only [up_ne, up_at, q_up_at, q_up_ne, cp_ne]; omega)) ?_)
            exact key _ rfl
          · rw [if_neg e4] at key
            repeat' (first | (refine mj_ite (fun h => ?_) (fun h => ?_) <;> first | (exfalso; omega) | skip) | refine mj_vci (by first | omega | (simp (disch := omega) only [up_ne, up_at, q_up_at, q_up_ne, cp_ne]; omega)) ?_)
            refine c_Border_factOf (b := 44) hp ?_
            exact key _ rfl
      · rw [if_neg e2] at hr
        rw [if_pos e2] at key
        subst hr
        repeat' (first | (refine mj_ite (fun h => ?_) (fun h => ?_) <;> first | (exfalso; omega) | skip) | refine mj_vci (by first | omega | (simp (disch := omega) only [up_ne, up_at, q_up_at, q_up_ne, cp_ne]; omega)) ?_)
        exact key _ rfl
  · repeat' (first | (refine mj_ite (fun h => ?_) (fun h => ?_) <;> first | (exfalso; omega) | skip) | refine mj_vci (by first | omega | (simp (disch := omega) only [up_ne, up_at, q_up_at, q_up_ne, cp_ne]; omega)) ?_)
    all_goals exact hK _ σ (fun _ _ => rfl) (by rw [if_pos hw])
theorem c_S_side (hC : q_C σ) (hl : q_fault (σ (41 + 1)) (σ 41 1) = -6 → q_rep (σ (41 + 1)) (σ 41 1) 0 l) (hK : ∀ r σ', q_Fc σ σ' → r = (if ¬ q_land x y then -2 else if q_fault (σ (41 + 1)) (σ 41 1) ≠ -6 then -5 else if (q_R σ l).1 ≠ -6 then -3 else q_side (q_cx (q_R σ l).2.2.2.2.1 (q_R σ l).2.2.2.2.2.1 (q_R σ l).2.2.2.2.2.2.1) (q_cy (q_R σ l).2.2.2.2.1 (σ 2 5) (σ 2 6) (q_R σ l).2.2.2.2.2.1 (q_R σ l).2.2.2.2.2.2.2.1) ((q_R σ l).2.2.2.2.1 + 1) x y) → K (some (iV r)) σ') : mj_Ok (n + 7) i_S_side [rV 11 0 0, iV x, iV y] σ K := by
  refine mj_enter (by decide) (Nat.le_of_ble_eq_true rfl) (fun hg => ?_)
  refine r_S_side [] 600 ?_
  refine c_S_isLand (fun a1 a2 a3 a4 => ?_) (fun a0 => ?_)
  · repeat' (first | (refine mj_ite (fun h => ?_) (fun h => ?_) <;> first | (exfalso; omega) | skip) | refine mj_vci (by first | omega | (simp (disch := omega) only [up_ne, up_at, q_up_at, q_up_ne, cp_ne]; omega)) ?_)
    refine c_S_tryDays (l := l) hC hl (fun e => ?_) (fun e σ' ht r hr => ?_)
    · repeat' (first | (refine mj_ite (fun h => ?_) (fun h => ?_) <;> first | (exfalso; omega) | skip) | refine mj_vci (by first | omega | (simp (disch := omega) only [up_ne, up_at, q_up_at, q_up_ne, cp_ne]; omega)) ?_)
      exact hK _ σ (fun _ _ => rfl) (by rw [if_neg (fun q => q ⟨a1, a2, a3, a4⟩), if_pos e])
    · obtain ⟨f1, f2, f3, f4, f5, f6, f7, f8, f9, f10, f11⟩ := ht
      have key := fun r => hK r σ' f1
      rw [if_neg (fun q => q ⟨a1, a2, a3, a4⟩), if_neg (fun q => q e), ← f2, ← f3, ← f4] at key
      by_cases e2 : (q_R σ l).1 = -6
      · rw [if_pos e2] at hr
        rw [if_neg (fun q => q e2)] at key
        subst hr
        repeat' (first | (refine mj_ite (fun h => ?_) (fun h => ?_) <;> first | (exfalso; omega) | skip) | refine mj_vci (by first | omega | (simp (disch := omega) only [up_ne, up_at, q_up_at, q_up_ne, cp_ne]; omega)) ?_)
        refine c_Border_sideOf (b := 44) f10 (by omega) (by omega) ?_
        exact key _ rfl
      · rw [if_neg e2] at hr
        rw [if_pos e2] at key
        subst hr
        repeat' (first | (refine mj_ite (fun h => ?_) (fun h => ?_) <;> first | (exfalso; omega) | skip) | refine mj_vci (by first | omega | (simp (disch := omega) only [up_ne, up_at, q_up_at, q_up_ne, cp_ne]; omega)) ?_)
        exact key _ rfl
  · repeat' (first | (refine mj_ite (fun h => ?_) (fun h => ?_) <;> first | (exfalso; omega) | skip) | refine mj_vci (by first | omega | (simp (disch := omega) only [up_ne, up_at, q_up_at, q_up_ne, cp_ne]; omega)) ?_)
    exact hK _ σ (fun _ _ => rfl) (by rw [if_pos a0])
theorem c_S_south (hC : q_C σ) (hl : q_fault (σ (41 + 1)) (σ 41 1) = -6 → q_rep (σ (41 + 1)) (σ 41 1) 0 l) (hK : ∀ r σ', q_Fc σ σ' → r = (if ¬ (0 ≤ w ∧ w ≤ 1) then -2 else if q_fault (σ (41 + 1)) (σ 41 1) ≠ -6 then -5 else if (q_R σ l).1 ≠ -6 then -3 else if w = 0 then q_south (q_cx (q_R σ l).2.2.2.2.1 (q_R σ l).2.2.2.2.2.1 (q_R σ l).2.2.2.2.2.2.1) (q_cy (q_R σ l).2.2.2.2.1 (σ 2 5) (σ 2 6) (q_R σ l).2.2.2.2.2.1 (q_R σ l).2.2.2.2.2.2.2.1) ((q_R σ l).2.2.2.2.1 + 1) else q_pinch (q_cx (q_R σ l).2.2.2.2.1 (q_R σ l).2.2.2.2.2.1 (q_R σ l).2.2.2.2.2.2.1) (q_cy (q_R σ l).2.2.2.2.1 (σ 2 5) (σ 2 6) (q_R σ l).2.2.2.2.2.1 (q_R σ l).2.2.2.2.2.2.2.1) ((q_R σ l).2.2.2.2.1 + 1)) → K (some (iV r)) σ') : mj_Ok (n + 7) i_S_south [rV 11 0 0, iV w] σ K := by
  refine mj_enter (by decide) (Nat.le_of_ble_eq_true rfl) (fun hg => ?_)
  refine r_S_south [] 600 ?_
  by_cases hw : 0 ≤ w ∧ w ≤ 1
  · repeat' (first | (refine mj_ite (fun h => ?_) (fun h => ?_) <;> first | (exfalso; omega) | skip) | refine mj_vci (by first | omega | (simp (disch := omega) only [up_ne, up_at, q_up_at, q_up_ne, cp_ne]; omega)) ?_)
    refine c_S_tryDays (l := l) hC hl (fun e => ?_) (fun e σ' ht r hr => ?_)
    · repeat' (first | (refine mj_ite (fun h => ?_) (fun h => ?_) <;> first | (exfalso; omega) | skip) | refine mj_vci (by first | omega | (simp (disch := omega) only [up_ne, up_at, q_up_at, q_up_ne, cp_ne]; omega)) ?_)
      exact hK _ σ (fun _ _ => rfl) (by rw [if_neg (fun q => q hw), if_pos e])
    · obtain ⟨f1, f2, f3, f4, f5, f6, f7, f8, f9, f10, f11⟩ := ht
      have key := fun r => hK r σ' f1
      rw [if_neg (fun q => q hw), if_neg (fun q => q e), ← f2, ← f3, ← f4] at key
      by_cases e2 : (q_R σ l).1 = -6
      · rw [if_pos e2] at hr
        rw [if_neg (fun q => q e2)] at key
        subst hr
        repeat' (first | (refine mj_ite (fun h => ?_) (fun h => ?_) <;> first | (exfalso; omega) | skip) | refine mj_vci (by first | omega | (simp (disch := omega) only [up_ne, up_at, q_up_at, q_up_ne, cp_ne]; omega)) ?_)
        · rw [if_pos h] at key
          refine c_Border_twiceSouth (b := 44) f10 ?_
          exact key _ rfl
        · rw [if_neg h] at key
          exact c_Border_firstPinch (b := 44) f10 key
      · rw [if_neg e2] at hr
        rw [if_pos e2] at key
        subst hr
        repeat' (first | (refine mj_ite (fun h => ?_) (fun h => ?_) <;> first | (exfalso; omega) | skip) | refine mj_vci (by first | omega | (simp (disch := omega) only [up_ne, up_at, q_up_at, q_up_ne, cp_ne]; omega)) ?_)
        exact key _ rfl
  · repeat' (first | (refine mj_ite (fun h => ?_) (fun h => ?_) <;> first | (exfalso; omega) | skip) | refine mj_vci (by first | omega | (simp (disch := omega) only [up_ne, up_at, q_up_at, q_up_ne, cp_ne]; omega)) ?_)
    all_goals exact hK _ σ (fun _ _ => rfl) (by rw [if_pos hw])
theorem c_S_lies (hC : q_C σ) (hl : q_fault (σ (41 + 1)) (σ 41 1) = -6 → q_rep (σ (41 + 1)) (σ 41 1) 0 l) (hK : ∀ r σ', q_Fc σ σ' → r = (if ¬ (0 ≤ w ∧ w ≤ 2) then -2 else if q_fault (σ (41 + 1)) (σ 41 1) ≠ -6 then -5 else if (q_R σ l).1 ≠ -6 then -3 else q_von (σ 7 2) (σ (7 + 1)) (σ (7 + 2)) (q_cx (q_R σ l).2.2.2.2.1 (q_R σ l).2.2.2.2.2.1 (q_R σ l).2.2.2.2.2.2.1) (q_cy (q_R σ l).2.2.2.2.1 (σ 2 5) (σ 2 6) (q_R σ l).2.2.2.2.2.1 (q_R σ l).2.2.2.2.2.2.2.1) ((q_R σ l).2.2.2.2.1 + 1) w) → K (some (iV r)) σ') : mj_Ok (n + 7) i_S_lies [rV 11 0 0, iV w] σ K := by
  refine mj_enter (by decide) (Nat.le_of_ble_eq_true rfl) (fun hg => ?_)
  refine r_S_lies [] 600 ?_
  refine c_S_isSide (fun a1 a2 => ?_) (fun a0 => ?_)
  · repeat' (first | (refine mj_ite (fun h => ?_) (fun h => ?_) <;> first | (exfalso; omega) | skip) | refine mj_vci (by first | omega | (simp (disch := omega) only [up_ne, up_at, q_up_at, q_up_ne, cp_ne]; omega)) ?_)
    refine c_S_tryDays (l := l) hC hl (fun e => ?_) (fun e σ' ht r hr => ?_)
    · repeat' (first | (refine mj_ite (fun h => ?_) (fun h => ?_) <;> first | (exfalso; omega) | skip) | refine mj_vci (by first | omega | (simp (disch := omega) only [up_ne, up_at, q_up_at, q_up_ne, cp_ne]; omega)) ?_)
      exact hK _ σ (fun _ _ => rfl) (by rw [if_neg (fun q => q ⟨a1, a2⟩), if_pos e])
    · obtain ⟨f1, f2, f3, f4, f5, f6, f7, f8, f9, f10, f11⟩ := ht
      have key := fun r => hK r σ' f1
      have v0 : σ' 7 = σ 7 := f1 7 (by omega)
      have v1 : σ' (7 + 1) = σ (7 + 1) := f1 (7 + 1) (by omega)
      have v2 : σ' (7 + 2) = σ (7 + 2) := f1 (7 + 2) (by omega)
      rw [if_neg (fun q => q ⟨a1, a2⟩), if_neg (fun q => q e), ← f2, ← f3, ← f4, ← v0, ← v1, ← v2] at key
      by_cases e2 : (q_R σ l).1 = -6
      · rw [if_pos e2] at hr
        rw [if_neg (fun q => q e2)] at key
        subst hr
        repeat' (first | (refine mj_ite (fun h => ?_) (fun h => ?_) <;> first | (exfalso; omega) | skip) | refine mj_vci (by first | omega | (simp (disch := omega) only [up_ne, up_at, q_up_at, q_up_ne, cp_ne]; omega)) ?_)
        exact c_Villages_bitsOn (b := 44) (v := 7) f10 (by rw [v0]; exact hC.2.1.1) (by rw [v1]; exact hC.2.1.2.1) (by rw [v2]; exact hC.2.1.2.2) key
      · rw [if_neg e2] at hr
        rw [if_pos e2] at key
        subst hr
        repeat' (first | (refine mj_ite (fun h => ?_) (fun h => ?_) <;> first | (exfalso; omega) | skip) | refine mj_vci (by first | omega | (simp (disch := omega) only [up_ne, up_at, q_up_at, q_up_ne, cp_ne]; omega)) ?_)
        exact key _ rfl
  · repeat' (first | (refine mj_ite (fun h => ?_) (fun h => ?_) <;> first | (exfalso; omega) | skip) | refine mj_vci (by first | omega | (simp (disch := omega) only [up_ne, up_at, q_up_at, q_up_ne, cp_ne]; omega)) ?_)
    exact hK _ σ (fun _ _ => rfl) (by rw [if_pos a0])
end S1
