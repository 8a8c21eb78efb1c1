/-! who moved where: what is pure, and the model -/
abbrev q_E : Type := (Int × Int) × (Int → Int) × (Int → Int) × Int × (Int → Int) × (Int → Int) × (Int → Int)
abbrev q_mv : Type := Int × Int × (Int → Int)
def q_seeB (E : q_E) (B : q_B) : Prop := q_seen E.2.2.2.1 E.2.2.2.2.1 E.2.2.2.2.2.1 E.2.2.2.2.2.2 (q_cx B.1 B.2.1 B.2.2.1) (q_cy B.1 E.1.1 E.1.2 B.2.1 B.2.2.2.1) (B.1 + 1)
def q_ind (E : q_E) (B : q_B) (j : Int) : Int := if q_sideB E.1.1 E.1.2 B (E.2.1 (j / 3)) (E.2.2.1 (j / 3)) = j % 3 then 1 else 0
def q_tk (E : q_E) (B : q_B) (m : Int) (s : q_mv) : q_mv := (s.1 + 1, mj_or s.2.1 m, fun j => s.2.2 j + q_ind E B j)
noncomputable def q_lk (E : q_E) (B : q_B) (m : Int) (s : q_mv) : q_mv := @ite _ (q_seeB E B) (Classical.propDecidable _) (q_tk E B m s) s
def q_ab (x : Int) : Int := if x < 0 then -x else x
def q_mvc (B : q_B) (p i : Int) : Prop := (1 ≤ q_ab (i / 7 - 3) + q_ab (i % 7 - 3) ∧ q_ab (i / 7 - 3) + q_ab (i % 7 - 3) ≤ 3) ∧ q_land (B.2.2.1 p + (i / 7 - 3)) (B.2.2.2.1 p + (i % 7 - 3)) ∧ q_fr B p (B.2.2.1 p + (i / 7 - 3)) (B.2.2.2.1 p + (i % 7 - 3))
noncomputable def q_mvP (E : q_E) (B : q_B) (p : Int) : Nat → Int → q_mv → q_mv
  | 0, _, s => s
  | k + 1, i, s => q_mvP E B p k (i + 1) (@ite _ (q_mvc B p i) (Classical.propDecidable _) (q_lk E (q_pos B p (B.2.2.1 p + (i / 7 - 3)) (B.2.2.2.1 p + (i % 7 - 3))) (mj_shl 1 p) s) s)
noncomputable def q_mvA (E : q_E) (B : q_B) : Nat → Int → q_mv → q_mv
  | 0, _, s => s
  | k + 1, p, s => q_mvA E B k (p + 1) (if q_fnd B.2.1 B.1 p = -6 then s else q_mvP E B p 49 0 s)
noncomputable def q_mvs (E : q_E) (B : q_B) : q_mv := q_mvA E B 8 0 (q_lk E B 0 (0, 0, fun _ => 0))
def q_mvb (s : q_mv) (N : Int) : Prop := (0 ≤ s.1 ∧ s.1 ≤ N) ∧ (∀ j, 0 ≤ s.2.2 j ∧ s.2.2 j ≤ s.1)
theorem q_ind_in (E : q_E) (B : q_B) (j : Int) : 0 ≤ q_ind E B j ∧ q_ind E B j ≤ 1 := by
  unfold q_ind
  split <;> omega
theorem q_mvb_tk {E : q_E} {B : q_B} {m N : Int} {s : q_mv} (h : q_mvb s N) : q_mvb (q_tk E B m s) (N + 1) := by
  obtain ⟨h1, h2⟩ := h
  refine ⟨⟨?_, ?_⟩, fun j => ?_⟩
  · show 0 ≤ s.1 + 1; omega
  · show s.1 + 1 ≤ N + 1; omega
  · have := h2 j
    have := q_ind_in E B j
    show 0 ≤ s.2.2 j + q_ind E B j ∧ s.2.2 j + q_ind E B j ≤ s.1 + 1
    omega
theorem q_mvb_up {s : q_mv} {N N' : Int} (h : q_mvb s N) (hN : N ≤ N') : q_mvb s N' := ⟨⟨h.1.1, by have := h.1.2; omega⟩, h.2⟩
theorem q_mvb_lk {E : q_E} {B : q_B} {m N : Int} {s : q_mv} (h : q_mvb s N) : q_mvb (q_lk E B m s) (N + 1) := by
  unfold q_lk
  by_cases c : q_seeB E B
  · rw [if_pos c]; exact q_mvb_tk h
  · rw [if_neg c]; exact q_mvb_up h (by omega)
theorem q_mvP_b {E : q_E} {B : q_B} {p : Int} : ∀ (k : Nat) (i : Int) (s : q_mv) (N : Int), q_mvb s N → q_mvb (q_mvP E B p k i s) (N + k) := by
  intro k
  induction k with
  | zero => intro i s N h; exact q_mvb_up h (by omega)
  | succ k ih =>
    intro i s N h
    unfold q_mvP
    by_cases c : q_mvc B p i
    · rw [if_pos c]; exact q_mvb_up (ih (i + 1) _ (N + 1) (q_mvb_lk h)) (by omega)
    · rw [if_neg c]; exact q_mvb_up (ih (i + 1) _ N h) (by omega)
theorem q_mvP_skip {E : q_E} {B : q_B} {p : Int} {k : Nat} {s : q_mv} : ∀ (c : Nat) (i : Int), (∀ j, i ≤ j → j < i + c → ¬ q_mvc B p j) → q_mvP E B p (c + k) i s = q_mvP E B p k (i + c) s := by
  intro c
  induction c with
  | zero => intro i h; rw [Nat.zero_add, show i + ((0 : Nat) : Int) = i by omega]
  | succ c ih =>
    intro i h
    rw [show c + 1 + k = (c + k) + 1 by omega]
    have e0 : q_mvP E B p ((c + k) + 1) i s = q_mvP E B p (c + k) (i + 1) (@ite _ (q_mvc B p i) (Classical.propDecidable _) (q_lk E (q_pos B p (B.2.2.1 p + (i / 7 - 3)) (B.2.2.2.1 p + (i % 7 - 3))) (mj_shl 1 p) s) s) := rfl
    rw [e0, if_neg (h i (by omega) (by omega)), ih (i + 1) (fun j j1 j2 => h j (by omega) (by omega))]
    congr 1
    omega
def q_mvM (σ : mj_W) (g : Nat) (s : q_mv) : Prop := σ g 34 = s.1 ∧ σ g 35 = s.2.1 ∧ (∀ j, 0 ≤ j → j < 24 → σ (g + 20) j = s.2.2 j)
abbrev q_EM (σ : mj_W) (g : Nat) : q_E := ((σ g 5, σ g 6), σ (g + 5), σ (g + 6), σ g 14, σ (g + 7), σ (g + 8), σ (g + 9))
theorem q_Fs_EM {σ σ' : mj_W} {g : Nat} (h : q_Fs σ σ' g) : q_EM σ' g = q_EM σ g := by
  unfold q_EM
  rw [h.2 5 (by omega) (by omega), h.2 6 (by omega) (by omega), h.2 14 (by omega) (by omega), h.1 (g + 5) (by omega), h.1 (g + 6) (by omega), h.1 (g + 7) (by omega), h.1 (g + 8) (by omega), h.1 (g + 9) (by omega)]
section M23
variable {n g : Nat} {σ : mj_W} {K : Option mj_V → mj_W → Prop} {x y z p w i j c d k s m : Int} {B : q_B} {E : q_E} {N : Int} {t : q_mv}
theorem l_M_isAsSeen (hL : q_ld σ g (σ g 5) (σ g 6) B) (hb : q_bB (σ g 5) (σ g 6) B) (hS : q_sM σ g) (h1 : q_seeB (q_EM σ g) B → K (some (iV 1)) σ) (h0 : ¬ q_seeB (q_EM σ g) B → K (some (iV 0)) σ) : ∀ (k : Nat) (i a : Int), 0 ≤ i → i + k = σ g 14 → ((a = 1 ∧ ∀ j, 0 ≤ j → j < i → q_sideB (σ g 5) (σ g 6) B (σ (g + 7) j) (σ (g + 8) j) = σ (g + 9) j) ∨ (a = 0 ∧ ¬ q_seeB (q_EM σ g) B)) → mj_Wm i_M_isAsSeen (n + 5) K 4 [some (rV 12 0 g), some (iV a), some (iV i)] [] σ := by
  have hs := hS.1
  intro k
  induction k with
  | zero =>
    intro i a g0 g1 ha
    refine r_M_isAsSeen [(4, [true, true, true])] 600 ?_
    repeat' (first | (refine mj_ite (fun h => ?_) (fun h => ?_) <;> first | (exfalso; omega) | skip) | refine mj_vci (by first | omega | (simp (disch := omega) only [up_ne, up_at, q_up_at, q_up_ne, cp_ne]; omega)) ?_)
    rcases ha with ⟨e, ha⟩ | ⟨e, ha⟩ <;> subst e
    · repeat' (first | (refine mj_ite (fun h => ?_) (fun h => ?_) <;> first | (exfalso; omega) | skip) | refine mj_vci (by first | omega | (simp (disch := omega) only [up_ne, up_at, q_up_at, q_up_ne, cp_ne]; omega)) ?_)
      exact h1 (fun j j0 j1 => ha j j0 (by have j1 : j < σ g 14 := j1; omega))
    · repeat' (first | (refine mj_ite (fun h => ?_) (fun h => ?_) <;> first | (exfalso; omega) | skip) | refine mj_vci (by first | omega | (simp (disch := omega) only [up_ne, up_at, q_up_at, q_up_ne, cp_ne]; omega)) ?_)
      exact h0 ha
  | succ k ih =>
    intro i a g0 g1 ha
    have x0 := hS.2.1 i
    have y0 := hS.2.2.1 i
    rcases ha with ⟨e, ha⟩ | ⟨e, ha⟩ <;> subst e
    · have hno : ¬ q_sideB (σ g 5) (σ g 6) B (σ (g + 7) i) (σ (g + 8) i) = σ (g + 9) i → ¬ q_seeB (q_EM σ g) B := fun q w9 => q (w9 i g0 (by show i < σ g 14; omega))
      refine r_M_isAsSeen [(4, [true, true, true])] 600 ?_
      repeat' (first | (refine mj_ite (fun h => ?_) (fun h => ?_) <;> first | (exfalso; omega) | skip) | refine mj_vci (by first | omega | (simp (disch := omega) only [up_ne, up_at, q_up_at, q_up_ne, cp_ne]; omega)) ?_)
      refine c_M_sideB hL hb (by omega) (by omega) (fun r hr => ?_)
      rw [← hr] at hno
      repeat' (first | (refine mj_ite (fun h => ?_) (fun h => ?_) <;> first | (exfalso; omega) | skip) | refine mj_vci (by first | omega | (simp (disch := omega) only [up_ne, up_at, q_up_at, q_up_ne, cp_ne]; omega)) ?_)
      · rename_i hq
        refine ih (i + 1) 1 (by omega) (by omega) (Or.inl ⟨rfl, fun j j0 j1 => ?_⟩)
        by_cases ej : j = i
        · rw [ej, ← hr]; assumption
        · exact ha j j0 (by omega)
      · exact ih (i + 1) 0 (by omega) (by omega) (Or.inr ⟨rfl, hno (by assumption)⟩)
    · refine r_M_isAsSeen [(4, [true, true, true])] 600 ?_
      repeat' (first | (refine mj_ite (fun h => ?_) (fun h => ?_) <;> first | (exfalso; omega) | skip) | refine mj_vci (by first | omega | (simp (disch := omega) only [up_ne, up_at, q_up_at, q_up_ne, cp_ne]; omega)) ?_)
      exact ih (i + 1) 0 (by omega) (by omega) (Or.inr ⟨rfl, ha⟩)
theorem c_M_isAsSeen (hL : q_ld σ g (σ g 5) (σ g 6) B) (hb : q_bB (σ g 5) (σ g 6) B) (hS : q_sM σ g) (h1 : q_seeB (q_EM σ g) B → K (some (iV 1)) σ) (h0 : ¬ q_seeB (q_EM σ g) B → K (some (iV 0)) σ) : mj_Ok (n + 5) i_M_isAsSeen [rV 12 0 g] σ K := by
  have hs := hS.1
  refine mj_enter (by decide) (Nat.le_of_ble_eq_true rfl) (fun hg => ?_)
  refine r_M_isAsSeen [(4, [true, true, true])] 600 ?_
  exact l_M_isAsSeen hL hb hS h1 h0 (σ g 14).toNat 0 1 (by omega) (by omega) (Or.inl ⟨rfl, fun j j0 j1 => by omega⟩)
/-- only moves were counted -/
def q_kf (σ σ' : mj_W) (g : Nat) : Prop := (∀ f, f ≠ 34 → f ≠ 35 → σ' g f = σ g f) ∧ (∀ o, o ≠ g → o ≠ g + 20 → σ' o = σ o)
theorem l_M_lookAt (hL : q_ld σ g (σ g 5) (σ g 6) B) (hb : q_bB (σ g 5) (σ g 6) B) (hV : q_vM σ g) {L : Int → Int} (hLb : ∀ j, 0 ≤ L j ∧ L j ≤ 1000) (hK : ∀ σ', (∀ o, o ≠ g + 20 → σ' o = σ o) → (∀ j, 0 ≤ j → j < 24 → σ' (g + 20) j = L j + q_ind (q_EM σ g) B j) → K none σ') :
    ∀ (k : Nat) (i : Int) (τ : mj_W), 0 ≤ i → i + k = 8 → (∀ o, o ≠ g + 20 → τ o = σ o) → (∀ j, 0 ≤ j → j < 3 * i → τ (g + 20) j = L j + q_ind (q_EM σ g) B j) → (∀ j, 3 * i ≤ j → j < 24 → τ (g + 20) j = L j) → mj_Wm i_M_lookAt (n + 5) K 43 [some (rV 12 0 g), some (iV w), some (iV i)] [] τ := by
  intro k
  induction k with
  | zero =>
    intro i τ h0 h1 hf t1 t2
    refine r_M_lookAt [(43, [true, true, true])] 600 ?_
    repeat' (first | (refine mj_ite (fun h => ?_) (fun h => ?_) <;> first | (exfalso; omega) | skip) | refine mj_vci (by first | omega | (simp (disch := omega) only [up_ne, up_at, q_up_at, q_up_ne, cp_ne]; omega)) ?_)
    exact hK τ hf (fun j j0 j1 => t1 j j0 (by omega))
  | succ k ih =>
    intro i τ h0 h1 hf t1 t2
    have x0 := hV.2.1 i
    have y0 := hV.2.2 i
    have u5 := hf (g + 5) (by omega)
    have u6 := hf (g + 6) (by omega)
    have ug := hf g (by omega)
    have hL' : q_ld τ g (σ g 5) (σ g 6) B := by
      unfold q_ld
      rw [ug, hf (g + 16) (by omega), hf (g + 17) (by omega)]
      exact hL
    refine r_M_lookAt [(43, [true, true, true])] 600 ?_
    repeat' (first | (refine mj_ite (fun h => ?_) (fun h => ?_) <;> first | (exfalso; omega) | skip) | refine mj_vci (by first | omega | (simp (disch := omega) only [up_ne, up_at, q_up_at, q_up_ne, cp_ne]; omega)) ?_)
    refine c_M_sideB hL' hb (by rw [u5]; omega) (by rw [u6]; omega) (fun r hr => ?_)
    rw [u5, u6] at hr
    have hri := q_sideB_in (σ g 5) (σ g 6) B (σ (g + 5) i) (σ (g + 6) i)
    rw [← hr] at hri
    have tv := t2 (3 * i + r) (by omega) (by omega)
    have lb := hLb (3 * i + r)
    repeat' (first | (refine mj_ite (fun h => ?_) (fun h => ?_) <;> first | (exfalso; omega) | skip) | refine mj_vci (by first | omega | (simp (disch := omega) only [up_ne, up_at, q_up_at, q_up_ne, cp_ne]; omega)) ?_)
    refine ih (i + 1) _ (by omega) (by omega) (fun o ho => by rw [up_ne _ _ _ ho]; exact hf o ho) (fun j j0 j1 => ?_) (fun j j0 j1 => ?_)
    · rw [up_at, tv]
      by_cases ej : j < 3 * i
      · rw [q_up_ne _ _ (by omega)]; exact t1 j j0 ej
      · have e1 : j / 3 = i := by omega
        have e2 : j % 3 = j - 3 * i := by omega
        have ei : q_ind (q_EM σ g) B j = if r = j - 3 * i then 1 else 0 := by
          unfold q_ind
          rw [e1, e2, hr]
        rw [ei]
        by_cases e3 : j = 3 * i + r
        · rw [e3, q_up_at, if_pos (by omega)]
        · rw [q_up_ne _ _ e3, if_neg (by omega), t2 j (by omega) (by omega)]; omega
    · rw [up_at, q_up_ne _ _ (by omega)]; exact t2 j (by omega) j1
theorem c_M_lookAt (hM : q_mB σ g) (hV : q_vM σ g) (hS : q_sM σ g) (hm : q_mvM σ g t) (hb : q_mvb t N) (hN : N ≤ 900) (hw : w = -6 ∨ (0 ≤ w ∧ w ≤ 7)) (hK : ∀ σ', q_Fm σ σ' g → q_mvM σ' g (q_lk (q_EM σ g) (q_BM σ g) (if w < 0 then 0 else mj_shl 1 w) t) → K none σ') : mj_Ok (n + 6) i_M_lookAt [rV 12 0 g, iV w] σ K := by
  obtain ⟨hm1, hm2, hm3⟩ := hm
  have hb1 := hb.1
  refine mj_enter (by decide) (Nat.le_of_ble_eq_true rfl) (fun hg => ?_)
  refine r_M_lookAt [(43, [true, true, true])] 600 ?_
  refine c_M_layB hM (fun σ1 s1 s2 => ?_)
  have hF1 := q_lf_Fm s2
  have hM1 := q_Fm_mB hF1 hM
  have hS1 := q_Fs_sM hF1.1 hS
  have hV1 := q_Fs_vM hF1.1 hV
  have eE : q_EM σ1 g = q_EM σ g := q_Fs_EM hF1.1
  have e5 := hF1.1.2 5 (by omega) (by omega)
  have e6 := hF1.1.2 6 (by omega) (by omega)
  have s1 : q_ld σ1 g (σ1 g 5) (σ1 g 6) (q_BM σ g) := by rw [e5, e6]; exact s1
  have hbB : q_bB (σ1 g 5) (σ1 g 6) (q_BM σ g) := by rw [e5, e6]; exact q_mB_b hM
  have f34 : σ1 g 34 = t.1 := (s2.1 34 (by omega)).trans hm1
  have f35 : σ1 g 35 = t.2.1 := (s2.1 35 (by omega)).trans hm2
  have f20 : σ1 (g + 20) = σ (g + 20) := s2.2 (g + 20) (by omega) (by omega) (by omega)
  unfold q_lk at hK
  repeat' (first | (refine mj_ite (fun h => ?_) (fun h => ?_) <;> first | (exfalso; omega) | skip) | refine mj_vci (by first | omega | (simp (disch := omega) only [up_ne, up_at, q_up_at, q_up_ne, cp_ne]; omega)) ?_)
  refine c_M_isAsSeen s1 hbB hS1 (fun q => ?_) (fun q => ?_)
  · rw [eE] at q
    rw [if_pos q] at hK
    have fin : ∀ m9, m9 = (if w < 0 then 0 else mj_shl 1 w) → mj_Wm i_M_lookAt (n + 6) K 43 [some (rV 12 0 g), some (iV w), some (iV 0)] [] (mj_up (mj_up σ1 g 34 (t.1 + 1)) g 35 (mj_or t.2.1 m9)) := by
      intro m9 hm9
      have hgf : ∀ f, f ≠ 34 → f ≠ 35 → mj_up (mj_up σ1 g 34 (t.1 + 1)) g 35 (mj_or t.2.1 m9) g f = σ1 g f := by
        intro f f1 f2
        rw [up_at, q_up_ne _ _ f2, up_at, q_up_ne _ _ f1]
      have hof : ∀ o, o ≠ g → mj_up (mj_up σ1 g 34 (t.1 + 1)) g 35 (mj_or t.2.1 m9) o = σ1 o := by
        intro o ho
        rw [up_ne _ _ _ ho, up_ne _ _ _ ho]
      generalize hτ : mj_up (mj_up σ1 g 34 (t.1 + 1)) g 35 (mj_or t.2.1 m9) = τ at hgf hof
      have g34 : τ g 34 = t.1 + 1 := by rw [← hτ, up_at, q_up_ne _ _ (by omega), up_at, q_up_at]
      have g35 : τ g 35 = mj_or t.2.1 m9 := by rw [← hτ, up_at, q_up_at]
      have hFt : q_Fm σ1 τ g := by
        refine ⟨⟨fun o ho => hof o (by omega), fun f f1 f2 => hgf f (by omega) (by omega)⟩, ?_⟩
        unfold q_BM
        rw [hgf 0 (by omega) (by omega), hof (g + 1) (by omega), hof (g + 2) (by omega), hof (g + 3) (by omega), hof (g + 4) (by omega)]
      have hLt : q_ld τ g (τ g 5) (τ g 6) (q_BM σ g) := by
        unfold q_ld
        rw [hgf 5 (by omega) (by omega), hgf 6 (by omega) (by omega), hgf 28 (by omega) (by omega), hof (g + 16) (by omega), hof (g + 17) (by omega)]
        exact s1
      have hbt : q_bB (τ g 5) (τ g 6) (q_BM σ g) := by
        rw [hgf 5 (by omega) (by omega), hgf 6 (by omega) (by omega)]
        exact hbB
      refine l_M_lookAt (L := t.2.2) hLt hbt (q_Fs_vM hFt.1 hV1) (fun j => by have := hb.2 j; omega) (fun σ2 u1 u2 => ?_) 8 0 τ (by omega) (by omega) (fun _ _ => rfl) (fun j j0 j1 => by omega) (fun j j0 j1 => ?_)
      · rw [q_Fs_EM hFt.1, eE] at u2
        refine hK σ2 ⟨⟨fun o ho => ?_, fun f f1 f2 => ?_⟩, ?_⟩ ⟨?_, ?_, u2⟩
        · rw [u1 o (by omega), hof o (by omega)]; exact hF1.1.1 o ho
        · rw [u1 g (by omega), hgf f (by omega) (by omega)]; exact hF1.1.2 f f1 f2
        · rw [← hF1.2, ← hFt.2]
          unfold q_BM
          rw [u1 g (by omega), u1 (g + 1) (by omega), u1 (g + 2) (by omega), u1 (g + 3) (by omega), u1 (g + 4) (by omega)]
        · rw [u1 g (by omega), g34]; rfl
        · rw [u1 g (by omega), g35, hm9]; rfl
      · rw [hof (g + 20) (by omega), f20]; exact hm3 j (by omega) j1
    have u35 : mj_up σ1 g 34 (σ1 g 34 + 1) g 35 = t.2.1 := by rw [up_at, q_up_ne _ _ (by omega), f35]
    have fin2 : ∀ m9, m9 = (if w < 0 then 0 else mj_shl 1 w) → mj_Wm i_M_lookAt (n + 6) K 43 [some (rV 12 0 g), some (iV w), some (iV 0)] [] (mj_up (mj_up σ1 g 34 (σ1 g 34 + 1)) g 35 (mj_or (mj_up σ1 g 34 (σ1 g 34 + 1) g 35) m9)) := by
      intro m9 hm9
      rw [u35, f34]
      exact fin m9 hm9
    rcases hw with hw | hw
    · repeat' (first | (refine mj_ite (fun h => ?_) (fun h => ?_) <;> first | (exfalso; omega) | skip) | refine mj_vci (by first | omega | (simp (disch := omega) only [up_ne, up_at, q_up_at, q_up_ne, cp_ne]; omega)) ?_)
      exact fin2 _ (by rw [if_pos (by omega)])
    · repeat' (first | (refine mj_ite (fun h => ?_) (fun h => ?_) <;> first | (exfalso; omega) | skip) | refine mj_vci (by first | omega | (simp (disch := omega) only [up_ne, up_at, q_up_at, q_up_ne, cp_ne]; omega)) ?_)
      exact fin2 _ (by rw [if_neg (by omega)])
  · rw [eE] at q
    rw [if_neg q] at hK
    repeat' (first | (refine mj_ite (fun h => ?_) (fun h => ?_) <;> first | (exfalso; omega) | skip) | refine mj_vci (by first | omega | (simp (disch := omega) only [up_ne, up_at, q_up_at, q_up_ne, cp_ne]; omega)) ?_)
    refine hK σ1 hF1 ⟨f34, f35, ?_⟩
    rw [f20]
    exact hm3
theorem l_M_tryMoves (hM : q_mB σ g) (hV : q_vM σ g) (hS : q_sM σ g) (hp : 0 ≤ p ∧ p ≤ 7) (hN : N ≤ 800) {R : q_mv} (hK : ∀ σ', q_Fm σ σ' g → q_mvM σ' g R → K none σ') :
    ∀ (k : Nat) (i : Int) (τ : mj_W) (t : q_mv), 0 ≤ i → i + k = 49 → q_Fm σ τ g → q_mvM τ g t → q_mvb t (N + i) → q_mvP (q_EM σ g) (q_BM σ g) p k i t = R → mj_Wm i_M_tryMoves (n + 7) K 17 [some (rV 12 0 g), some (iV p), some (iV (σ (g + 2) p)), some (iV (σ (g + 3) p)), some (iV i), none, none, none] [] τ := by
  have x0 : 0 ≤ σ (g + 2) p ∧ σ (g + 2) p ≤ 40 := hM.1.2.2.1 p
  have y0 : 0 ≤ σ (g + 3) p ∧ σ (g + 3) p ≤ 40 := hM.1.2.2.2.1 p
  intro k
  induction k with
  | zero =>
    intro i τ t h0 h1 hF hm hb hR
    have hR : t = R := hR
    subst hR
    refine r_M_tryMoves [(17, [true, true, true, true, true, false, false, false])] 600 ?_
    repeat' (first | (refine mj_ite (fun h => ?_) (fun h => ?_) <;> first | (exfalso; omega) | skip) | refine mj_vci (by first | omega | (simp (disch := omega) only [up_ne, up_at, q_up_at, q_up_ne, cp_ne]; omega)) ?_)
    exact hK τ hF hm
  | succ k ih =>
    intro i τ t h0 h1 hF hm hb hR
    unfold q_mvP at hR
    have hR : q_mvP (q_EM σ g) (q_BM σ g) p k (i + 1) (@ite _ (q_mvc (q_BM σ g) p i) (Classical.propDecidable _) (q_lk (q_EM σ g) (q_pos (q_BM σ g) p (σ (g + 2) p + (i / 7 - 3)) (σ (g + 3) p + (i % 7 - 3))) (mj_shl 1 p) t) t) = R := hR
    have hmc : q_mvc (q_BM σ g) p i ↔ ((1 ≤ q_ab (i / 7 - 3) + q_ab (i % 7 - 3) ∧ q_ab (i / 7 - 3) + q_ab (i % 7 - 3) ≤ 3) ∧ q_land (σ (g + 2) p + (i / 7 - 3)) (σ (g + 3) p + (i % 7 - 3)) ∧ q_fr (q_BM σ g) p (σ (g + 2) p + (i / 7 - 3)) (σ (g + 3) p + (i % 7 - 3))) := Iff.rfl
    have hMt := q_Fm_mB hF hM
    have next : ∀ (τ' : mj_W) (t' : q_mv), q_Fm σ τ' g → q_mvM τ' g t' → q_mvb t' (N + i + 1) → q_mvP (q_EM σ g) (q_BM σ g) p k (i + 1) t' = R → mj_Wm i_M_tryMoves (n + 7) K 130 [some (rV 12 0 g), some (iV p), some (iV (σ (g + 2) p)), some (iV (σ (g + 3) p)), some (iV i), none, none, none] [] τ' := by
      intro τ' t' n1 n2 n3 n4
      refine r_M_tryMoves [(17, [true, true, true, true, true, false, false, false])] 600 ?_
      repeat' (first | (refine mj_ite (fun h => ?_) (fun h => ?_) <;> first | (exfalso; omega) | skip) | refine mj_vci (by first | omega | (simp (disch := omega) only [up_ne, up_at, q_up_at, q_up_ne, cp_ne]; omega)) ?_)
      exact ih (i + 1) τ' t' (by omega) (by omega) n1 n2 (q_mvb_up n3 (by omega)) n4
    have skip : ¬ q_mvc (q_BM σ g) p i → mj_Wm i_M_tryMoves (n + 7) K 130 [some (rV 12 0 g), some (iV p), some (iV (σ (g + 2) p)), some (iV (σ (g + 3) p)), some (iV i), none, none, none] [] τ := by
      intro q
      rw [if_neg q] at hR
      exact next τ t hF hm (q_mvb_up hb (by omega)) hR
    refine r_M_tryMoves [(130, [true, true, true, true, true, false, false, false])] 600 ?_
    repeat' (first | (refine mj_ite (fun h => ?_) (fun h => ?_) <;> first | (exfalso; omega) | skip) | refine mj_vci (by first | omega | (simp (disch := omega) only [up_ne, up_at, q_up_at, q_up_ne, cp_ne]; omega)) ?_)
    refine c_M_sizeV (by omega) (fun v1 hv1 => ?_)
    repeat' (first | (refine mj_ite (fun h => ?_) (fun h => ?_) <;> first | (exfalso; omega) | skip) | refine mj_vci (by first | omega | (simp (disch := omega) only [up_ne, up_at, q_up_at, q_up_ne, cp_ne]; omega)) ?_)
    refine c_M_sizeV (by omega) (fun v2 hv2 => ?_)
    have hv1 : v1 = q_ab (i / 7 - 3) := hv1
    have hv2 : v2 = q_ab (i % 7 - 3) := hv2
    have hv1b : 0 ≤ v1 ∧ v1 ≤ 3 := by rw [hv1]; unfold q_ab; split <;> omega
    have hv2b : 0 ≤ v2 ∧ v2 ≤ 3 := by rw [hv2]; unfold q_ab; split <;> omega
    rw [← hv1, ← hv2] at hmc
    repeat' (first | (refine mj_ite (fun h => ?_) (fun h => ?_) <;> first | (exfalso; omega) | skip) | refine mj_vci (by first | omega | (simp (disch := omega) only [up_ne, up_at, q_up_at, q_up_ne, cp_ne]; omega)) ?_)
    refine c_M_in (fun a1 a2 => ?_) (fun a0 => ?_)
    · repeat' (first | (refine mj_ite (fun h => ?_) (fun h => ?_) <;> first | (exfalso; omega) | skip) | refine mj_vci (by first | omega | (simp (disch := omega) only [up_ne, up_at, q_up_at, q_up_ne, cp_ne]; omega)) ?_)
      refine c_M_isLand (fun b1 b2 b3 b4 => ?_) (fun b0 => ?_)
      · repeat' (first | (refine mj_ite (fun h => ?_) (fun h => ?_) <;> first | (exfalso; omega) | skip) | refine mj_vci (by first | omega | (simp (disch := omega) only [up_ne, up_at, q_up_at, q_up_ne, cp_ne]; omega)) ?_)
        have hct : 0 ≤ τ g 0 ∧ τ g 0 ≤ 8 := hMt.1.1
        have xt : τ (g + 2) p = σ (g + 2) p := by have := congrArg (fun B : q_B => B.2.2.1 p) hF.2; exact this
        have yt : τ (g + 3) p = σ (g + 3) p := by have := congrArg (fun B : q_B => B.2.2.2.1 p) hF.2; exact this
        have hfree : q_fr (q_BM τ g) p (σ (g + 2) p + (i / 7 - 3)) (σ (g + 3) p + (i % 7 - 3)) ↔ q_fr (q_BM σ g) p (σ (g + 2) p + (i / 7 - 3)) (σ (g + 3) p + (i % 7 - 3)) := by rw [hF.2]
        refine c_M_whoAt hct hMt.1.2.1 (fun w0 => ?_) (fun j w1 w2 w3 w4 => ?_)
        · have hfr := hfree.mp (fun j j1 j2 _ => w0 j j1 j2)
          rw [if_pos (hmc.mpr ⟨⟨a1, a2⟩, ⟨b1, b2, b3, b4⟩, hfr⟩)] at hR
          repeat' (first | (refine mj_ite (fun h => ?_) (fun h => ?_) <;> first | (exfalso; omega) | skip) | refine mj_vci (by first | omega | (simp (disch := omega) only [up_ne, up_at, q_up_at, q_up_ne, cp_ne]; omega)) ?_)
          refine c_M_putB hp (fun σ1 s1 s2 => ?_)
          rw [hF.2] at s1
          have hF1 : q_Fs σ σ1 g := q_Fs_tr hF.1 (q_pf_Fs s2)
          have hM1 : q_mB σ1 g := q_Fs_mB hF1 (by rw [s1]; exact q_wB_pos hM.1 ⟨b1, b2, b3, b4⟩ hfr) hM
          have hm1 : q_mvM σ1 g t := by
            unfold q_mvM at hm ⊢
            rw [s2 g (by omega) (by omega), s2 (g + 20) (by omega) (by omega)]
            exact hm
          repeat' (first | (refine mj_ite (fun h => ?_) (fun h => ?_) <;> first | (exfalso; omega) | skip) | refine mj_vci (by first | omega | (simp (disch := omega) only [up_ne, up_at, q_up_at, q_up_ne, cp_ne]; omega)) ?_)
          refine c_M_lookAt hM1 (q_Fs_vM hF1 hV) (q_Fs_sM hF1 hS) hm1 hb (by omega) (Or.inr hp) (fun σ2 u1 u2 => ?_)
          rw [if_neg (by omega), q_Fs_EM hF1, s1] at u2
          repeat' (first | (refine mj_ite (fun h => ?_) (fun h => ?_) <;> first | (exfalso; omega) | skip) | refine mj_vci (by first | omega | (simp (disch := omega) only [up_ne, up_at, q_up_at, q_up_ne, cp_ne]; omega)) ?_)
          refine c_M_putB hp (fun σ3 x1 x2 => ?_)
          repeat' (first | (refine mj_ite (fun h => ?_) (fun h => ?_) <;> first | (exfalso; omega) | skip) | refine mj_vci (by first | omega | (simp (disch := omega) only [up_ne, up_at, q_up_at, q_up_ne, cp_ne]; omega)) ?_)
          refine next σ3 _ ⟨q_Fs_tr (q_Fs_tr hF1 u1.1) (q_pf_Fs x2), ?_⟩ ?_ (q_mvb_lk hb) hR
          · rw [x1, u1.2, s1, q_pospos]
            exact q_pos_id _ rfl rfl
          · unfold q_mvM at u2 ⊢
            rw [x2 g (by omega) (by omega), x2 (g + 20) (by omega) (by omega)]
            exact u2
        · have hr : 0 ≤ τ (g + 1) j ∧ τ (g + 1) j ≤ 7 := hMt.1.2.1 j
          have hne : τ (g + 1) j ≠ p := by
            intro q
            rw [q, xt] at w3
            rw [q, yt] at w4
            have e1 : i / 7 - 3 = 0 := by omega
            have e2 : i % 7 - 3 = 0 := by omega
            rw [e1] at hv1
            rw [e2] at hv2
            have z0 : q_ab 0 = 0 := rfl
            omega
          have sk := skip (fun q => (hfree.mpr (hmc.mp q).2.2) j w1 w2 hne w3 w4)
          repeat' (first | (refine mj_ite (fun h => ?_) (fun h => ?_) <;> first | (exfalso; omega) | skip) | refine mj_vci (by first | omega | (simp (disch := omega) only [up_ne, up_at, q_up_at, q_up_ne, cp_ne]; omega)) ?_)
          exact sk
      · repeat' (first | (refine mj_ite (fun h => ?_) (fun h => ?_) <;> first | (exfalso; omega) | skip) | refine mj_vci (by first | omega | (simp (disch := omega) only [up_ne, up_at, q_up_at, q_up_ne, cp_ne]; omega)) ?_)
        exact skip (fun q => b0 (hmc.mp q).2.1)
    · repeat' (first | (refine mj_ite (fun h => ?_) (fun h => ?_) <;> first | (exfalso; omega) | skip) | refine mj_vci (by first | omega | (simp (disch := omega) only [up_ne, up_at, q_up_at, q_up_ne, cp_ne]; omega)) ?_)
      exact skip (fun q => a0 (hmc.mp q).1)
theorem c_M_tryMoves (hM : q_mB σ g) (hV : q_vM σ g) (hS : q_sM σ g) (hp : 0 ≤ p ∧ p ≤ 7) (hN : N ≤ 800) (hm : q_mvM σ g t) (hb : q_mvb t N) (hK : ∀ σ', q_Fm σ σ' g → q_mvM σ' g (q_mvP (q_EM σ g) (q_BM σ g) p 49 0 t) → K none σ') : mj_Ok (n + 7) i_M_tryMoves [rV 12 0 g, iV p] σ K := by
  refine mj_enter (by decide) (Nat.le_of_ble_eq_true rfl) (fun hg => ?_)
  refine r_M_tryMoves [(17, [true, true, true, true, true, false, false, false])] 600 ?_
  repeat' (first | (refine mj_ite (fun h => ?_) (fun h => ?_) <;> first | (exfalso; omega) | skip) | refine mj_vci (by first | omega | (simp (disch := omega) only [up_ne, up_at, q_up_at, q_up_ne, cp_ne]; omega)) ?_)
  exact l_M_tryMoves hM hV hS hp hN hK 49 0 σ t (by omega) (by omega) (q_Fm_rfl σ g) hm (q_mvb_up hb (by omega)) rfl
theorem l_M_findA (hM : q_mB σ g) (hV : q_vM σ g) (hS : q_sM σ g) {R : q_mv} (hK : ∀ σ', q_Fm σ σ' g → q_mvM σ' g R → q_mvb R 800 → K none σ') :
    ∀ (k : Nat) (p : Int) (τ : mj_W) (t : q_mv), 0 ≤ p → p + k = 8 → q_Fm σ τ g → q_mvM τ g t → q_mvb t (1 + 49 * p) → q_mvA (q_EM σ g) (q_BM σ g) k p t = R → mj_Wm i_M_findMoves (n + 8) K 39 [some (rV 12 0 g), some (iV p)] [] τ := by
  intro k
  induction k with
  | zero =>
    intro p τ t h0 h1 hF hm hb hR
    have hR : t = R := hR
    subst hR
    refine r_M_findMoves [(39, [true, true])] 600 ?_
    repeat' (first | (refine mj_ite (fun h => ?_) (fun h => ?_) <;> first | (exfalso; omega) | skip) | refine mj_vci (by first | omega | (simp (disch := omega) only [up_ne, up_at, q_up_at, q_up_ne, cp_ne]; omega)) ?_)
    exact hK τ hF hm (q_mvb_up hb (by omega))
  | succ k ih =>
    intro p τ t h0 h1 hF hm hb hR
    unfold q_mvA at hR
    have hMt := q_Fm_mB hF hM
    have hct : 0 ≤ τ g 0 ∧ τ g 0 ≤ 8 := hMt.1.1
    have fr := q_fnd_or (τ (g + 1)) hct.1 p
    have hfe : q_fnd (τ (g + 1)) (τ g 0) p = q_fnd (q_BM σ g).2.1 (q_BM σ g).1 p := by rw [← hF.2]; rfl
    rw [← hfe] at hR
    refine r_M_findMoves [(39, [true, true])] 600 ?_
    repeat' (first | (refine mj_ite (fun h => ?_) (fun h => ?_) <;> first | (exfalso; omega) | skip) | refine mj_vci (by first | omega | (simp (disch := omega) only [up_ne, up_at, q_up_at, q_up_ne, cp_ne]; omega)) ?_)
    refine c_M_placeOf hct hMt.1.2.2.2.2.2.1 (fun v hv => ?_)
    by_cases e1 : v = -6
    · rw [if_pos (by omega)] at hR
      repeat' (first | (refine mj_ite (fun h => ?_) (fun h => ?_) <;> first | (exfalso; omega) | skip) | refine mj_vci (by first | omega | (simp (disch := omega) only [up_ne, up_at, q_up_at, q_up_ne, cp_ne]; omega)) ?_)
      exact ih (p + 1) τ t (by omega) (by omega) hF hm (q_mvb_up hb (by omega)) hR
    · rw [if_neg (by omega)] at hR
      repeat' (first | (refine mj_ite (fun h => ?_) (fun h => ?_) <;> first | (exfalso; omega) | skip) | refine mj_vci (by first | omega | (simp (disch := omega) only [up_ne, up_at, q_up_at, q_up_ne, cp_ne]; omega)) ?_)
      refine c_M_tryMoves (N := 1 + 49 * p) hMt (q_Fs_vM hF.1 hV) (q_Fs_sM hF.1 hS) (by omega) (by omega) hm hb (fun σ1 s1 s2 => ?_)
      rw [q_Fs_EM hF.1, hF.2] at s2
      repeat' (first | (refine mj_ite (fun h => ?_) (fun h => ?_) <;> first | (exfalso; omega) | skip) | refine mj_vci (by first | omega | (simp (disch := omega) only [up_ne, up_at, q_up_at, q_up_ne, cp_ne]; omega)) ?_)
      refine ih (p + 1) σ1 _ (by omega) (by omega) (q_Fm_tr hF s1) s2 (q_mvb_up (q_mvP_b 49 0 t _ hb) (by omega)) hR
theorem l_M_findZ (hK : ∀ τ, (∀ o, o ≠ g + 20 → τ o = σ o) → (∀ j, 0 ≤ j → j < 24 → τ (g + 20) j = 0) → mj_Wm i_M_findMoves (n + 8) K 31 [some (rV 12 0 g), none] [] τ) :
    ∀ (k : Nat) (i : Int) (τ : mj_W), 0 ≤ i → i + k = 24 → (∀ o, o ≠ g + 20 → τ o = σ o) → (∀ j, 0 ≤ j → j < i → τ (g + 20) j = 0) → mj_Wm i_M_findMoves (n + 8) K 12 [some (rV 12 0 g), some (iV i)] [] τ := by
  intro k
  induction k with
  | zero =>
    intro i τ h0 h1 hf ht
    refine r_M_findMoves [(12, [true, true]), (31, [true, false])] 600 ?_
    repeat' (first | (refine mj_ite (fun h => ?_) (fun h => ?_) <;> first | (exfalso; omega) | skip) | refine mj_vci (by first | omega | (simp (disch := omega) only [up_ne, up_at, q_up_at, q_up_ne, cp_ne]; omega)) ?_)
    exact hK τ hf (fun j j0 j1 => ht j j0 (by omega))
  | succ k ih =>
    intro i τ h0 h1 hf ht
    refine r_M_findMoves [(12, [true, true]), (31, [true, false])] 600 ?_
    repeat' (first | (refine mj_ite (fun h => ?_) (fun h => ?_) <;> first | (exfalso; omega) | skip) | refine mj_vci (by first | omega | (simp (disch := omega) only [up_ne, up_at, q_up_at, q_up_ne, cp_ne]; omega)) ?_)
    refine ih (i + 1) _ (by omega) (by omega) (fun o ho => by rw [up_ne _ _ _ ho]; exact hf o ho) (fun j j0 j1 => ?_)
    rw [up_at]
    by_cases e : j = i
    · rw [e, q_up_at]
    · rw [q_up_ne _ _ e]; exact ht j j0 (by omega)
theorem c_M_findMoves (hM : q_mB σ g) (hV : q_vM σ g) (hS : q_sM σ g) (hK : ∀ σ', q_Fm σ σ' g → q_mvM σ' g (q_mvs (q_EM σ g) (q_BM σ g)) → q_mvb (q_mvs (q_EM σ g) (q_BM σ g)) 800 → K none σ') : mj_Ok (n + 8) i_M_findMoves [rV 12 0 g] σ K := by
  refine mj_enter (by decide) (Nat.le_of_ble_eq_true rfl) (fun hg => ?_)
  refine r_M_findMoves [(12, [true, true]), (31, [true, false])] 600 ?_
  refine l_M_findZ (fun τ t1 t2 => ?_) 24 0 _ (by omega) (by omega) (fun _ _ => rfl) (fun j j0 j1 => by omega)
  have hof : ∀ o, o ≠ g → o ≠ g + 20 → τ o = σ o := by
    intro o o1 o2
    rw [t1 o o2, up_ne _ _ _ o1, up_ne _ _ _ o1]
  have hgf : ∀ f, f ≠ 34 → f ≠ 35 → τ g f = σ g f := by
    intro f f1 f2
    rw [t1 g (by omega), up_at, q_up_ne _ _ f2, up_at, q_up_ne _ _ f1]
  have hF : q_Fm σ τ g := by
    refine ⟨⟨fun o ho => hof o (by omega) (by omega), fun f f1 f2 => hgf f (by omega) (by omega)⟩, ?_⟩
    unfold q_BM
    rw [hgf 0 (by omega) (by omega), hof (g + 1) (by omega) (by omega), hof (g + 2) (by omega) (by omega), hof (g + 3) (by omega) (by omega), hof (g + 4) (by omega) (by omega)]
  have hm : q_mvM τ g (0, 0, fun _ => 0) := by
    refine ⟨?_, ?_, t2⟩
    · rw [t1 g (by omega), up_at, q_up_ne _ _ (by omega), up_at, q_up_at]
    · rw [t1 g (by omega), up_at, q_up_at]
  have hb : q_mvb (0, 0, fun _ => 0) 0 := ⟨⟨Int.le_refl 0, Int.le_refl 0⟩, fun _ => ⟨Int.le_refl 0, Int.le_refl 0⟩⟩
  refine r_M_findMoves [(39, [true, true])] 600 ?_
  refine c_M_lookAt (N := 0) (q_Fm_mB hF hM) (q_Fs_vM hF.1 hV) (q_Fs_sM hF.1 hS) hm hb (by omega) (Or.inl rfl) (fun σ1 s1 s2 => ?_)
  rw [if_pos (by decide), q_Fs_EM hF.1, hF.2] at s2
  repeat' (first | (refine mj_ite (fun h => ?_) (fun h => ?_) <;> first | (exfalso; omega) | skip) | refine mj_vci (by first | omega | (simp (disch := omega) only [up_ne, up_at, q_up_at, q_up_ne, cp_ne]; omega)) ?_)
  exact l_M_findA hM hV hS hK 8 0 σ1 _ (by omega) (by omega) (q_Fm_tr hF s1) s2 (q_mvb_up (q_mvb_lk hb) (by omega)) rfl
theorem c_M_moved (hM : q_mB σ g) (hV : q_vM σ g) (hS : q_sM σ g) (hK : ∀ r σ', q_Fm σ σ' g → r = (if ¬ (0 ≤ w ∧ w ≤ 1) then -2 else if w = 0 then (q_mvs (q_EM σ g) (q_BM σ g)).1 else (q_mvs (q_EM σ g) (q_BM σ g)).2.1) → K (some (iV r)) σ') : mj_Ok (n + 9) i_M_moved [rV 12 0 g, iV w] σ K := by
  refine mj_enter (by decide) (Nat.le_of_ble_eq_true rfl) (fun hg => ?_)
  refine r_M_moved [] 600 ?_
  refine c_M_in (fun a1 a2 => ?_) (fun a0 => ?_)
  · rw [if_neg (fun q => q ⟨a1, a2⟩)] at hK
    repeat' (first | (refine mj_ite (fun h => ?_) (fun h => ?_) <;> first | (exfalso; omega) | skip) | refine mj_vci (by first | omega | (simp (disch := omega) only [up_ne, up_at, q_up_at, q_up_ne, cp_ne]; omega)) ?_)
    refine c_M_findMoves hM hV hS (fun σ1 s1 s2 s3 => ?_)
    obtain ⟨m1, m2, m3⟩ := s2
    repeat' (first | (refine mj_ite (fun h => ?_) (fun h => ?_) <;> first | (exfalso; omega) | skip) | refine mj_vci (by first | omega | (simp (disch := omega) only [up_ne, up_at, q_up_at, q_up_ne, cp_ne]; omega)) ?_)
    · rw [if_pos h] at hK; exact hK _ σ1 s1 m1
    · rw [if_neg h] at hK; exact hK _ σ1 s1 m2
  · rw [if_pos a0] at hK
    repeat' (first | (refine mj_ite (fun h => ?_) (fun h => ?_) <;> first | (exfalso; omega) | skip) | refine mj_vci (by first | omega | (simp (disch := omega) only [up_ne, up_at, q_up_at, q_up_ne, cp_ne]; omega)) ?_)
    exact hK _ σ (q_Fm_rfl σ g) rfl
/-- how many moves leave a village on its most frequent side -/
def q_ml (L : Int → Int) (v : Int) : Int := max (L (3 * v)) (max (L (3 * v + 1)) (L (3 * v + 2)))
def q_askF (bits : Int) (L : Int → Int) : Nat → Int → Int → Int
  | 0, _, a => a
  | k + 1, i, a => q_askF bits L k (i + 1) (if q_tb bits i = true ∧ (a < 0 ∨ q_ml L i < q_ml L a) then i else a)
theorem c_M_mostMoves {L : Int → Int} (hw : 0 ≤ w ∧ w ≤ 7) (hL : ∀ j, 0 ≤ j → j < 24 → σ (g + 20) j = L j) (hK : ∀ r, r = q_ml L w → K (some (iV r)) σ) : mj_Ok (n + 1) i_M_mostMoves [rV 12 0 g, iV w] σ K := by
  unfold q_ml at hK
  rw [← hL (3 * w) (by omega) (by omega), ← hL (3 * w + 1) (by omega) (by omega), ← hL (3 * w + 2) (by omega) (by omega)] at hK
  refine mj_enter (by decide) (Nat.le_of_ble_eq_true rfl) (fun hg => ?_)
  refine r_M_mostMoves [] 600 ?_
  repeat' (first | (refine mj_ite (fun h => ?_) (fun h => ?_) <;> first | (exfalso; omega) | skip) | refine mj_vci (by first | omega | (simp (disch := omega) only [up_ne, up_at, q_up_at, q_up_ne, cp_ne]; omega)) ?_)
  all_goals (refine hK _ ?_; omega)
theorem l_M_ask (hV : q_vM σ g) {t : q_mv} (hm : q_mvM σ g t) (ht : 0 < t.1) (hw : 0 ≤ w ∧ w ≤ 1) {R : Int} (hK : K (some (iV (if R < 0 then R else if w = 0 then R else q_ml t.2.2 R))) σ) : ∀ (k : Nat) (i a : Int), 0 ≤ i → i + k = 8 → (a = -6 ∨ (0 ≤ a ∧ a < i)) → q_askF (σ g 8) t.2.2 k i a = R → mj_Wm i_M_ask (n + 2) K 22 [some (rV 12 0 g), some (iV w), some (iV a), some (iV i), none] [] σ := by
  obtain ⟨m1, m2, m3⟩ := hm
  intro k
  induction k with
  | zero =>
    intro i a h0 h1 ha hR
    have hR : a = R := hR
    subst hR
    rcases ha with ha | ha
    · rw [if_pos (by omega)] at hK
      refine r_M_ask [(22, [true, true, true, true, false])] 600 ?_
      repeat' (first | (refine mj_ite (fun h => ?_) (fun h => ?_) <;> first | (exfalso; omega) | skip) | refine mj_vci (by first | omega | (simp (disch := omega) only [up_ne, up_at, q_up_at, q_up_ne, cp_ne]; omega)) ?_)
      exact hK
    · rw [if_neg (by omega)] at hK
      by_cases e : w = 0
      · rw [if_pos e] at hK
        refine r_M_ask [(22, [true, true, true, true, false])] 600 ?_
        repeat' (first | (refine mj_ite (fun h => ?_) (fun h => ?_) <;> first | (exfalso; omega) | skip) | refine mj_vci (by first | omega | (simp (disch := omega) only [up_ne, up_at, q_up_at, q_up_ne, cp_ne]; omega)) ?_)
        exact hK
      · rw [if_neg e] at hK
        refine r_M_ask [(22, [true, true, true, true, false])] 600 ?_
        repeat' (first | (refine mj_ite (fun h => ?_) (fun h => ?_) <;> first | (exfalso; omega) | skip) | refine mj_vci (by first | omega | (simp (disch := omega) only [up_ne, up_at, q_up_at, q_up_ne, cp_ne]; omega)) ?_)
        refine c_M_mostMoves (by omega) m3 (fun r hr => ?_)
        repeat' (first | (refine mj_ite (fun h => ?_) (fun h => ?_) <;> first | (exfalso; omega) | skip) | refine mj_vci (by first | omega | (simp (disch := omega) only [up_ne, up_at, q_up_at, q_up_ne, cp_ne]; omega)) ?_)
        rw [hr]
        exact hK
  | succ k ih =>
    intro i a h0 h1 ha hR
    unfold q_askF at hR
    have htb := (q_tbs hV.1 (v := i) (by omega)).2.1
    by_cases tb : q_tb (σ g 8) i = true
    · rw [if_pos tb] at htb
      rcases ha with ha | ha
      · rw [if_pos ⟨tb, Or.inl (by omega)⟩] at hR
        refine r_M_ask [(22, [true, true, true, true, false])] 600 ?_
        repeat' (first | (refine mj_ite (fun h => ?_) (fun h => ?_) <;> first | (exfalso; omega) | skip) | refine mj_vci (by first | omega | (simp (disch := omega) only [up_ne, up_at, q_up_at, q_up_ne, cp_ne]; omega)) ?_)
        exact ih (i + 1) i (by omega) (by omega) (Or.inr (by omega)) hR
      · refine r_M_ask [(22, [true, true, true, true, false])] 600 ?_
        repeat' (first | (refine mj_ite (fun h => ?_) (fun h => ?_) <;> first | (exfalso; omega) | skip) | refine mj_vci (by first | omega | (simp (disch := omega) only [up_ne, up_at, q_up_at, q_up_ne, cp_ne]; omega)) ?_)
        refine c_M_mostMoves (by omega) m3 (fun r1 hr1 => ?_)
        repeat' (first | (refine mj_ite (fun h => ?_) (fun h => ?_) <;> first | (exfalso; omega) | skip) | refine mj_vci (by first | omega | (simp (disch := omega) only [up_ne, up_at, q_up_at, q_up_ne, cp_ne]; omega)) ?_)
        refine c_M_mostMoves (by omega) m3 (fun r2 hr2 => ?_)
        rw [← hr1, ← hr2] at hR
        by_cases e : r1 < r2
        · rw [if_pos ⟨tb, Or.inr e⟩] at hR
          repeat' (first | (refine mj_ite (fun h => ?_) (fun h => ?_) <;> first | (exfalso; omega) | skip) | refine mj_vci (by first | omega | (simp (disch := omega) only [up_ne, up_at, q_up_at, q_up_ne, cp_ne]; omega)) ?_)
          exact ih (i + 1) i (by omega) (by omega) (Or.inr (by omega)) hR
        · rw [if_neg (fun q => by omega)] at hR
          repeat' (first | (refine mj_ite (fun h => ?_) (fun h => ?_) <;> first | (exfalso; omega) | skip) | refine mj_vci (by first | omega | (simp (disch := omega) only [up_ne, up_at, q_up_at, q_up_ne, cp_ne]; omega)) ?_)
          exact ih (i + 1) a (by omega) (by omega) (Or.inr (by omega)) hR
    · rw [if_neg tb] at htb
      rw [if_neg (fun q => tb q.1)] at hR
      refine r_M_ask [(22, [true, true, true, true, false])] 600 ?_
      repeat' (first | (refine mj_ite (fun h => ?_) (fun h => ?_) <;> first | (exfalso; omega) | skip) | refine mj_vci (by first | omega | (simp (disch := omega) only [up_ne, up_at, q_up_at, q_up_ne, cp_ne]; omega)) ?_)
      exact ih (i + 1) a (by omega) (by omega) (by omega) hR
noncomputable def q_askR (E : q_E) (B : q_B) (bits : Int) : Int := if (q_mvs E B).1 = 0 then -6 else q_askF bits (q_mvs E B).2.2 8 0 (-6)
end M23
