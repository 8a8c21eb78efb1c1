/-! orders: what is pure, and the model -/
def q_mayS (w e : Int) (B : q_B) (bits : Int) (vx vy : Int → Int) (S : Int) : Prop := ∀ v, 0 ≤ v → v ≤ 7 → q_tb bits v = true → q_sideB w e (q_BS B S) (vx v) (vy v) = q_sideB w e B (vx v) (vy v)
abbrev q_wo (S p : Int) : Int := mj_and S (mj_xor (mj_shl 1 p) (-1))
def q_wsF (f : Int → Int) (S : Int) : Nat → Int → Int → Int
  | 0, _, a => a
  | k + 1, p, a => q_wsF f S k (p + 1) (a + (if q_tb S p = true then f (q_wo S p) else 0))
def q_ws (f : Int → Int) (S : Int) : Int := q_wsF f S 8 0 (if S = 0 then 1 else 0)
noncomputable def q_wyF (may : Int → Prop) : Nat → Int → (Int → Int) → (Int → Int)
  | 0, _, f => f
  | k + 1, i, f => q_wyF may k (i + 1) (q_up f i (@ite _ (may i) (Classical.propDecidable _) (q_ws f i) 0))
def q_fsF (f : Int → Int) (S : Int) : Nat → Int → Int
  | 0, _ => -6
  | k + 1, p => if q_tb S p = true ∧ 0 < f (q_wo S p) then p else q_fsF f S k (p + 1)
def q_bd (u : Int) : Int := 9 ^ (q_pop u).toNat
theorem q_bd0 : ∀ k : Fin 256, 1 ≤ q_bd (k.val : Int) ∧ q_bd (k.val : Int) ≤ 43046721 := by decide +kernel
theorem q_bd1 : ∀ (k : Fin 256) (v : Fin 8), q_tb (k.val : Int) (v.val : Int) = true → (9 * q_bd (q_wo (k.val : Int) (v.val : Int)) = q_bd (k.val : Int) ∧ q_wo (k.val : Int) (v.val : Int) < (k.val : Int)) := by decide +kernel
theorem q_bds {k : Int} (hk : 0 ≤ k ∧ k ≤ 255) : 1 ≤ q_bd k ∧ q_bd k ≤ 43046721 := by
  have := q_bd0 ⟨k.toNat, by omega⟩
  have e1 : ((k.toNat : Nat) : Int) = k := by omega
  simp only [e1] at this
  exact this
theorem q_bdw {k v : Int} (hk : 0 ≤ k ∧ k ≤ 255) (hv : 0 ≤ v ∧ v ≤ 7) (h : q_tb k v = true) : 9 * q_bd (q_wo k v) = q_bd k ∧ q_wo k v < k := by
  have := q_bd1 ⟨k.toNat, by omega⟩ ⟨v.toNat, by omega⟩
  have e1 : ((k.toNat : Nat) : Int) = k := by omega
  have e2 : ((v.toNat : Nat) : Int) = v := by omega
  simp only [e1, e2] at this
  exact this h
/-- a set is within all -/
abbrev q_sub (all S : Int) : Prop := mj_and S (mj_xor all (-1)) = 0
theorem q_sub_w {all S p : Int} (h : q_sub all S) : q_sub all (q_wo S p) := by
  unfold q_sub q_wo mj_and at *
  rw [Int32.ofInt_toInt]
  have h0 : Int32.ofInt S &&& Int32.ofInt (mj_xor all (-1)) = 0 := by
    have := congrArg Int32.ofInt h
    rw [Int32.ofInt_toInt] at this
    exact this
  rw [Int32.and_assoc, Int32.and_comm (Int32.ofInt (mj_xor (mj_shl 1 p) (-1))), ← Int32.and_assoc, h0, Int32.zero_and]
  rfl
theorem q_sub0 : ∀ k : Fin 256, q_sub (k.val : Int) (k.val : Int) := by decide +kernel
theorem q_subs {k : Int} (hk : 0 ≤ k ∧ k ≤ 255) : q_sub k k := by
  have := q_sub0 ⟨k.toNat, by omega⟩
  have e1 : ((k.toNat : Nat) : Int) = k := by omega
  simp only [e1] at this
  exact this
theorem q_wsF_c {f f' : Int → Int} {S : Int} (hS : 0 ≤ S ∧ S ≤ 255) : ∀ (k : Nat) (p a : Int), 0 ≤ p → p + k ≤ 8 → (∀ q, p ≤ q → q < p + k → q_tb S q = true → f (q_wo S q) = f' (q_wo S q)) → q_wsF f S k p a = q_wsF f' S k p a := by
  intro k
  induction k with
  | zero => intro p a _ _ _; rfl
  | succ k ih =>
    intro p a h0 h1 h
    unfold q_wsF
    have e : (if q_tb S p = true then f (q_wo S p) else 0) = (if q_tb S p = true then f' (q_wo S p) else 0) := by
      by_cases t : q_tb S p = true
      · rw [if_pos t, if_pos t]; exact h p (by omega) (by omega) t
      · rw [if_neg t, if_neg t]
    rw [e]
    exact ih (p + 1) _ (by omega) (by omega) (fun q q1 q2 => h q (by omega) (by omega))
/-- each sum stays small -/
theorem q_wsF_b {f : Int → Int} {S : Int} (hS : 0 ≤ S ∧ S ≤ 255) (hf : ∀ u, 0 ≤ u → u ≤ 255 → 0 ≤ f u ∧ f u ≤ q_bd u) : ∀ (k : Nat) (p a : Int), 0 ≤ p → p + k = 8 → 0 ≤ a → 9 * a ≤ p * q_bd S → 0 ≤ q_wsF f S k p a ∧ 9 * q_wsF f S k p a ≤ 8 * q_bd S := by
  intro k
  induction k with
  | zero =>
    intro p a h0 h1 h2 h3
    have : p = 8 := by omega
    subst this
    exact ⟨h2, h3⟩
  | succ k ih =>
    intro p a h0 h1 h2 h3
    unfold q_wsF
    have hb := q_bds hS
    have e : (p + 1) * q_bd S = p * q_bd S + q_bd S := by rw [Int.add_mul, Int.one_mul]
    by_cases t : q_tb S p = true
    · rw [if_pos t]
      have hw := q_bdw hS (v := p) (by omega) t
      have hr := (q_tbs hS (v := p) (by omega)).2.2.2
      have hfw := hf (q_wo S p) hr.1 hr.2
      exact ih (p + 1) _ (by omega) (by omega) (by omega) (by omega)
    · rw [if_neg t]
      exact ih (p + 1) _ (by omega) (by omega) (by omega) (by omega)
theorem q_wsF_0 {f : Int → Int} : ∀ (k : Nat) (p a : Int), q_wsF f 0 k p a = a := by
  intro k
  induction k with
  | zero => intro p a; rfl
  | succ k ih =>
    intro p a
    unfold q_wsF
    have e0 : q_tb 0 p = false := by unfold q_tb; simp
    rw [e0, if_neg (by decide), Int.add_zero]
    exact ih (p + 1) a
theorem q_ws_b {f : Int → Int} {S : Int} (hS : 0 ≤ S ∧ S ≤ 255) (hf : ∀ u, 0 ≤ u → u ≤ 255 → 0 ≤ f u ∧ f u ≤ q_bd u) : 0 ≤ q_ws f S ∧ q_ws f S ≤ q_bd S := by
  unfold q_ws
  by_cases e : S = 0
  · subst e
    rw [if_pos rfl, q_wsF_0]
    have := q_bds hS
    omega
  · rw [if_neg e]
    have := q_wsF_b hS hf 8 0 0 (by omega) (by omega) (by omega) (by omega)
    have := q_bds hS
    omega
section M28
variable {n g : Nat} {σ : mj_W} {K : Option mj_V → mj_W → Prop} {x y z p w i j c d k s m S : Int}
theorem l_M_laySides (hL : q_ld σ g (σ g 5) (σ g 6) (q_BM σ g)) (hM : q_mB σ g) (hV : q_vM σ g) (hK : ∀ σ', (∀ o, o ≠ g + 19 → σ' o = σ o) → (∀ v, 0 ≤ v → v ≤ 7 → σ' (g + 19) v = q_sideB (σ g 5) (σ g 6) (q_BM σ g) (σ (g + 5) v) (σ (g + 6) v)) → K none σ') :
    ∀ (k : Nat) (i : Int) (τ : mj_W), 0 ≤ i → i + k = 8 → (∀ o, o ≠ g + 19 → τ o = σ o) → (∀ v, 0 ≤ v → v < i → τ (g + 19) v = q_sideB (σ g 5) (σ g 6) (q_BM σ g) (σ (g + 5) v) (σ (g + 6) v)) → mj_Wm i_M_laySides (n + 5) K 6 [some (rV 12 0 g), some (iV i)] [] τ := by
  intro k
  induction k with
  | zero =>
    intro i τ h0 h1 hf ht
    refine r_M_laySides [(6, [true, true])] 600 ?_
    repeat' (first | (refine mj_ite (fun h => ?_) (fun h => ?_) <;> first | (exfalso; omega) | skip) | refine mj_vci (by first | omega | (simp (disch := omega) only [up_ne, up_at, q_up_at, q_up_ne, cp_ne]; omega)) ?_)
    exact hK τ hf (fun v v0 v1 => ht v v0 (by omega))
  | succ k ih =>
    intro i τ h0 h1 hf ht
    have x0 := hV.2.1 i
    have y0 := hV.2.2 i
    have u5 := hf (g + 5) (by omega)
    have u6 := hf (g + 6) (by omega)
    have hL' : q_ld τ g (σ g 5) (σ g 6) (q_BM σ g) := by
      unfold q_ld
      rw [hf g (by omega), hf (g + 16) (by omega), hf (g + 17) (by omega)]
      exact hL
    refine r_M_laySides [(6, [true, true])] 600 ?_
    repeat' (first | (refine mj_ite (fun h => ?_) (fun h => ?_) <;> first | (exfalso; omega) | skip) | refine mj_vci (by first | omega | (simp (disch := omega) only [up_ne, up_at, q_up_at, q_up_ne, cp_ne]; omega)) ?_)
    refine c_M_sideB hL' (q_mB_b hM) (by rw [u5]; omega) (by rw [u6]; omega) (fun r hr => ?_)
    rw [u5, u6] at hr
    repeat' (first | (refine mj_ite (fun h => ?_) (fun h => ?_) <;> first | (exfalso; omega) | skip) | refine mj_vci (by first | omega | (simp (disch := omega) only [up_ne, up_at, q_up_at, q_up_ne, cp_ne]; omega)) ?_)
    refine ih (i + 1) _ (by omega) (by omega) (fun o ho => by rw [up_ne _ _ _ ho]; exact hf o ho) (fun v v0 v1 => ?_)
    rw [up_at]
    by_cases e : v = i
    · rw [e, q_up_at]; exact hr
    · rw [q_up_ne _ _ e]; exact ht v v0 (by omega)
/-- only the line, the sides and the ways -/
def q_of (σ σ' : mj_W) (g : Nat) : Prop := q_Fm σ σ' g ∧ (∀ v, 0 ≤ v → v ≤ 7 → σ' (g + 19) v = q_sideB (σ g 5) (σ g 6) (q_BM σ g) (σ (g + 5) v) (σ (g + 6) v))
theorem c_M_laySides (hM : q_mB σ g) (hV : q_vM σ g) (hK : ∀ σ', q_of σ σ' g → K none σ') : mj_Ok (n + 6) i_M_laySides [rV 12 0 g] σ K := by
  refine mj_enter (by decide) (Nat.le_of_ble_eq_true rfl) (fun hg => ?_)
  refine r_M_laySides [(6, [true, true])] 600 ?_
  refine c_M_layB hM (fun σ1 s1 s2 => ?_)
  have hF := q_lf_Fm s2
  have e5 := hF.1.2 5 (by omega) (by omega)
  have e6 := hF.1.2 6 (by omega) (by omega)
  repeat' (first | (refine mj_ite (fun h => ?_) (fun h => ?_) <;> first | (exfalso; omega) | skip) | refine mj_vci (by first | omega | (simp (disch := omega) only [up_ne, up_at, q_up_at, q_up_ne, cp_ne]; omega)) ?_)
  refine l_M_laySides (by rw [e5, e6, hF.2]; exact s1) (q_Fm_mB hF hM) (q_Fs_vM hF.1 hV) (fun σ2 t1 t2 => ?_) 8 0 σ1 (by omega) (by omega) (fun _ _ => rfl) (fun v v0 v1 => by omega)
  rw [e5, e6, hF.2, hF.1.1 (g + 5) (by omega), hF.1.1 (g + 6) (by omega)] at t2
  refine hK σ2 ⟨q_Fm_tr hF ⟨⟨fun o ho => t1 o (by omega), fun f f1 f2 => by rw [t1 g (by omega)]⟩, ?_⟩, t2⟩
  unfold q_BM
  rw [t1 g (by omega), t1 (g + 1) (by omega), t1 (g + 2) (by omega), t1 (g + 3) (by omega), t1 (g + 4) (by omega)]
theorem l_M_isSame {B : q_B} {vn : Int → Int} (hL : q_ld σ g (σ g 5) (σ g 6) B) (hb : q_bB (σ g 5) (σ g 6) B) (hV : q_vM σ g) (h1 : (∀ v, 0 ≤ v → v ≤ 7 → q_tb (σ g 8) v = true → q_sideB (σ g 5) (σ g 6) B (σ (g + 5) v) (σ (g + 6) v) = σ (g + 19) v) → K (some (iV 1)) σ) (h0 : ¬ (∀ v, 0 ≤ v → v ≤ 7 → q_tb (σ g 8) v = true → q_sideB (σ g 5) (σ g 6) B (σ (g + 5) v) (σ (g + 6) v) = σ (g + 19) v) → K (some (iV 0)) σ) :
    ∀ (k : Nat) (i a : Int), 0 ≤ i → i + k = 8 → ((a = 1 ∧ ∀ v, 0 ≤ v → v < i → q_tb (σ g 8) v = true → q_sideB (σ g 5) (σ g 6) B (σ (g + 5) v) (σ (g + 6) v) = σ (g + 19) v) ∨ (a = 0 ∧ ¬ (∀ v, 0 ≤ v → v ≤ 7 → q_tb (σ g 8) v = true → q_sideB (σ g 5) (σ g 6) B (σ (g + 5) v) (σ (g + 6) v) = σ (g + 19) v))) → mj_Wm i_M_isSame (n + 5) K 9 [some (rV 12 0 g), some (iV S), some (iV a), some (iV i), none] [] σ := by
  intro k
  induction k with
  | zero =>
    intro i a g0 g1 ha
    refine r_M_isSame [(9, [true, true, true, true, false])] 600 ?_
    repeat' (first | (refine mj_ite (fun h => ?_) (fun h => ?_) <;> first | (exfalso; omega) | skip) | refine mj_vci (by first | omega | (simp (disch := omega) only [up_ne, up_at, q_up_at, q_up_ne, cp_ne]; omega)) ?_)
    rcases ha with ⟨e, ha⟩ | ⟨e, ha⟩ <;> subst e
    · repeat' (first | (refine mj_ite (fun h => ?_) (fun h => ?_) <;> first | (exfalso; omega) | skip) | refine mj_vci (by first | omega | (simp (disch := omega) only [up_ne, up_at, q_up_at, q_up_ne, cp_ne]; omega)) ?_)
      exact h1 (fun v v0 v1 => ha v v0 (by omega))
    · repeat' (first | (refine mj_ite (fun h => ?_) (fun h => ?_) <;> first | (exfalso; omega) | skip) | refine mj_vci (by first | omega | (simp (disch := omega) only [up_ne, up_at, q_up_at, q_up_ne, cp_ne]; omega)) ?_)
      exact h0 ha
  | succ k ih =>
    intro i a g0 g1 ha
    have x0 := hV.2.1 i
    have y0 := hV.2.2 i
    have htb := (q_tbs hV.1 (v := i) (by omega)).2.1
    have good : (q_tb (σ g 8) i = true → q_sideB (σ g 5) (σ g 6) B (σ (g + 5) i) (σ (g + 6) i) = σ (g + 19) i) → mj_Wm i_M_isSame (n + 5) K 9 [some (rV 12 0 g), some (iV S), some (iV a), some (iV (i + 1)), none] [] σ := by
      intro q
      refine ih (i + 1) a (by omega) (by omega) ?_
      rcases ha with ⟨e, ha⟩ | ⟨e, ha⟩
      · refine Or.inl ⟨e, fun v v0 v1 => ?_⟩
        by_cases ev : v = i
        · rw [ev]; exact q
        · exact ha v v0 (by omega)
      · exact Or.inr ⟨e, ha⟩
    have bad : q_tb (σ g 8) i = true → ¬ q_sideB (σ g 5) (σ g 6) B (σ (g + 5) i) (σ (g + 6) i) = σ (g + 19) i → mj_Wm i_M_isSame (n + 5) K 9 [some (rV 12 0 g), some (iV S), some (iV 0), some (iV (i + 1)), none] [] σ := by
      intro q1 q2
      exact ih (i + 1) 0 (by omega) (by omega) (Or.inr ⟨rfl, fun q => q2 (q i g0 (by omega) q1)⟩)
    have ha01 : a = 1 ∨ a = 0 := ha.elim (fun q => Or.inl q.1) (fun q => Or.inr q.1)
    by_cases tb : q_tb (σ g 8) i = true
    · rw [if_pos tb] at htb
      refine r_M_isSame [(9, [true, true, true, true, false])] 600 ?_
      repeat' (first | (refine mj_ite (fun h => ?_) (fun h => ?_) <;> first | (exfalso; omega) | skip) | refine mj_vci (by first | omega | (simp (disch := omega) only [up_ne, up_at, q_up_at, q_up_ne, cp_ne]; omega)) ?_)
      refine c_M_sideB hL hb (by omega) (by omega) (fun r hr => ?_)
      rw [← hr] at good bad
      by_cases er : r = σ (g + 19) i
      · rcases ha01 with e | e <;> subst e
        · repeat' (first | (refine mj_ite (fun h => ?_) (fun h => ?_) <;> first | (exfalso; omega) | skip) | refine mj_vci (by first | omega | (simp (disch := omega) only [up_ne, up_at, q_up_at, q_up_ne, cp_ne]; omega)) ?_)
          exact good (fun _ => er)
        · repeat' (first | (refine mj_ite (fun h => ?_) (fun h => ?_) <;> first | (exfalso; omega) | skip) | refine mj_vci (by first | omega | (simp (disch := omega) only [up_ne, up_at, q_up_at, q_up_ne, cp_ne]; omega)) ?_)
          exact good (fun _ => er)
      · rcases ha01 with e | e <;> subst e
        · repeat' (first | (refine mj_ite (fun h => ?_) (fun h => ?_) <;> first | (exfalso; omega) | skip) | refine mj_vci (by first | omega | (simp (disch := omega) only [up_ne, up_at, q_up_at, q_up_ne, cp_ne]; omega)) ?_)
          exact bad tb er
        · repeat' (first | (refine mj_ite (fun h => ?_) (fun h => ?_) <;> first | (exfalso; omega) | skip) | refine mj_vci (by first | omega | (simp (disch := omega) only [up_ne, up_at, q_up_at, q_up_ne, cp_ne]; omega)) ?_)
          exact bad tb er
    · rw [if_neg tb] at htb
      rcases ha01 with e | e <;> subst e
      · refine r_M_isSame [(9, [true, true, true, true, false])] 600 ?_
        repeat' (first | (refine mj_ite (fun h => ?_) (fun h => ?_) <;> first | (exfalso; omega) | skip) | refine mj_vci (by first | omega | (simp (disch := omega) only [up_ne, up_at, q_up_at, q_up_ne, cp_ne]; omega)) ?_)
        exact good (fun q => absurd q tb)
      · refine r_M_isSame [(9, [true, true, true, true, false])] 600 ?_
        repeat' (first | (refine mj_ite (fun h => ?_) (fun h => ?_) <;> first | (exfalso; omega) | skip) | refine mj_vci (by first | omega | (simp (disch := omega) only [up_ne, up_at, q_up_at, q_up_ne, cp_ne]; omega)) ?_)
        exact good (fun q => absurd q tb)
theorem c_M_isSame (hM : q_mB σ g) (hV : q_vM σ g) (hS : 0 ≤ S ∧ S ≤ 255) (hn : ∀ v, 0 ≤ v → v ≤ 7 → σ (g + 19) v = q_sideB (σ g 5) (σ g 6) (q_BM σ g) (σ (g + 5) v) (σ (g + 6) v)) (h1 : q_mayS (σ g 5) (σ g 6) (q_BM σ g) (σ g 8) (σ (g + 5)) (σ (g + 6)) S → ∀ σ', q_lf σ σ' g → K (some (iV 1)) σ') (h0 : ¬ q_mayS (σ g 5) (σ g 6) (q_BM σ g) (σ g 8) (σ (g + 5)) (σ (g + 6)) S → ∀ σ', q_lf σ σ' g → K (some (iV 0)) σ') : mj_Ok (n + 6) i_M_isSame [rV 12 0 g, iV S] σ K := by
  refine mj_enter (by decide) (Nat.le_of_ble_eq_true rfl) (fun hg => ?_)
  refine r_M_isSame [(9, [true, true, true, true, false])] 600 ?_
  refine c_M_layS hM hS (fun σ1 s1 s2 => ?_)
  have hF := q_lf_Fm s2
  have e5 := hF.1.2 5 (by omega) (by omega)
  have e6 := hF.1.2 6 (by omega) (by omega)
  have e8 := hF.1.2 8 (by omega) (by omega)
  have v5 := hF.1.1 (g + 5) (by omega)
  have v6 := hF.1.1 (g + 6) (by omega)
  have v19 := s2.2 (g + 19) (by omega) (by omega) (by omega)
  have eq : (∀ v, 0 ≤ v → v ≤ 7 → q_tb (σ1 g 8) v = true → q_sideB (σ1 g 5) (σ1 g 6) (q_BS (q_BM σ g) S) (σ1 (g + 5) v) (σ1 (g + 6) v) = σ1 (g + 19) v) ↔ q_mayS (σ g 5) (σ g 6) (q_BM σ g) (σ g 8) (σ (g + 5)) (σ (g + 6)) S := by
    rw [e5, e6, e8, v5, v6, v19]
    constructor
    · intro q v v0 v1 v2; rw [q v v0 v1 v2]; exact hn v v0 v1
    · intro q v v0 v1 v2; rw [hn v v0 v1]; exact q v v0 v1 v2
  repeat' (first | (refine mj_ite (fun h => ?_) (fun h => ?_) <;> first | (exfalso; omega) | skip) | refine mj_vci (by first | omega | (simp (disch := omega) only [up_ne, up_at, q_up_at, q_up_ne, cp_ne]; omega)) ?_)
  exact l_M_isSame (vn := σ (g + 19)) (B := q_BS (q_BM σ g) S) (by rw [e5, e6]; exact s1) (by rw [e5, e6]; exact q_BS_b (q_mB_b hM) S) (q_Fs_vM hF.1 hV) (fun q => h1 (eq.mp q) σ1 s2) (fun q => h0 (fun w => q (eq.mpr w)) σ1 s2) 8 0 1 (by omega) (by omega) (Or.inl ⟨rfl, fun v v0 v1 => by omega⟩)
theorem l_M_waysOf {f : Int → Int} (hS : 0 ≤ S ∧ S ≤ 255) (hf : ∀ u, 0 ≤ u → u ≤ 255 → 0 ≤ f u ∧ f u ≤ q_bd u) (hw : ∀ q, 0 ≤ q → q ≤ 7 → q_tb S q = true → σ (g + 18) (q_wo S q) = f (q_wo S q)) (hK : ∀ r, r = q_ws f S → K (some (iV r)) σ) : ∀ (k : Nat) (p a : Int), 0 ≤ p → p + k = 8 → (0 ≤ a ∧ a ≤ 1 + p * 43046721) → q_wsF f S k p a = q_ws f S → mj_Wm i_M_waysOf (n + 1) K 12 [some (rV 12 0 g), some (iV S), some (iV a), some (iV p)] [] σ := by
  intro k
  induction k with
  | zero =>
    intro p a h0 h1 ha hR
    have hR : a = q_ws f S := hR
    refine r_M_waysOf [(12, [true, true, true, true])] 600 ?_
    repeat' (first | (refine mj_ite (fun h => ?_) (fun h => ?_) <;> first | (exfalso; omega) | skip) | refine mj_vci (by first | omega | (simp (disch := omega) only [up_ne, up_at, q_up_at, q_up_ne, cp_ne]; omega)) ?_)
    exact hK _ hR
  | succ k ih =>
    intro p a h0 h1 ha hR
    unfold q_wsF at hR
    obtain ⟨-, htb, -, hr⟩ := q_tbs hS (v := p) (by omega)
    by_cases tb : q_tb S p = true
    · rw [if_pos tb] at htb hR
      have hwp := hw p (by omega) (by omega) tb
      have hb := hf (q_wo S p) hr.1 hr.2
      have hbd : q_bd (q_wo S p) ≤ 43046721 := (q_bds hr).2
      have hb' : 0 ≤ σ (g + 18) (mj_and S (mj_xor (mj_shl 1 p) (-1))) ∧ σ (g + 18) (mj_and S (mj_xor (mj_shl 1 p) (-1))) ≤ 43046721 := by
        have e1 : σ (g + 18) (mj_and S (mj_xor (mj_shl 1 p) (-1))) = f (q_wo S p) := hwp
        rw [e1]
        omega
      rw [← hwp] at hR
      clear hb hbd
      refine r_M_waysOf [(12, [true, true, true, true])] 600 ?_
      repeat' (first | (refine mj_ite (fun h => ?_) (fun h => ?_) <;> first | (exfalso; omega) | skip) | refine mj_vci (by first | omega | (simp (disch := omega) only [up_ne, up_at, q_up_at, q_up_ne, cp_ne]; omega)) ?_)
      exact ih (p + 1) _ (by omega) (by omega) (by omega) hR
    · rw [if_neg tb] at htb hR
      refine r_M_waysOf [(12, [true, true, true, true])] 600 ?_
      repeat' (first | (refine mj_ite (fun h => ?_) (fun h => ?_) <;> first | (exfalso; omega) | skip) | refine mj_vci (by first | omega | (simp (disch := omega) only [up_ne, up_at, q_up_at, q_up_ne, cp_ne]; omega)) ?_)
      exact ih (p + 1) _ (by omega) (by omega) (by omega) hR
theorem c_M_waysOf {f : Int → Int} (hS : 0 ≤ S ∧ S ≤ 255) (hf : ∀ u, 0 ≤ u → u ≤ 255 → 0 ≤ f u ∧ f u ≤ q_bd u) (hw : ∀ q, 0 ≤ q → q ≤ 7 → q_tb S q = true → σ (g + 18) (q_wo S q) = f (q_wo S q)) (hK : ∀ r, r = q_ws f S → K (some (iV r)) σ) : mj_Ok (n + 1) i_M_waysOf [rV 12 0 g, iV S] σ K := by
  refine mj_enter (by decide) (Nat.le_of_ble_eq_true rfl) (fun hg => ?_)
  refine r_M_waysOf [(12, [true, true, true, true])] 600 ?_
  have hd : q_ws f S = q_wsF f S 8 0 (if S = 0 then 1 else 0) := rfl
  by_cases e : S = 0
  · rw [if_pos e] at hd
    repeat' (first | (refine mj_ite (fun h => ?_) (fun h => ?_) <;> first | (exfalso; omega) | skip) | refine mj_vci (by first | omega | (simp (disch := omega) only [up_ne, up_at, q_up_at, q_up_ne, cp_ne]; omega)) ?_)
    exact l_M_waysOf hS hf hw hK 8 0 1 (by omega) (by omega) (by omega) hd.symm
  · rw [if_neg e] at hd
    repeat' (first | (refine mj_ite (fun h => ?_) (fun h => ?_) <;> first | (exfalso; omega) | skip) | refine mj_vci (by first | omega | (simp (disch := omega) only [up_ne, up_at, q_up_at, q_up_ne, cp_ne]; omega)) ?_)
    exact l_M_waysOf hS hf hw hK 8 0 0 (by omega) (by omega) (by omega) hd.symm
/-- sets below i that lie within all are told right -/
def q_wok (κ f : Int → Int) (all i : Int) : Prop := ∀ u, 0 ≤ u → u < i → q_sub all u → κ u = f u
theorem l_M_ordW {all : Int} (hM : q_mB σ g) (hV : q_vM σ g) (hall : all = q_bits (σ (g + 1)) (σ g 0)) (ha : 0 ≤ all ∧ all ≤ 255) {R : Int → Int} (hK : ∀ τ, q_Fm σ τ g → q_wok (τ (g + 18)) R all (all + 1) → (∀ u, 0 ≤ u → u ≤ 255 → 0 ≤ R u ∧ R u ≤ q_bd u) → mj_Wm i_M_orders (n + 7) K 83 [some (rV 12 0 g), some (iV w), some (iV all), none, none, none] [] τ) :
    ∀ (k : Nat) (i : Int) (τ : mj_W) (f : Int → Int), 0 ≤ i → i + k = all + 1 → q_of σ τ g → q_wok (τ (g + 18)) f all i → (∀ u, 0 ≤ u → u ≤ 255 → 0 ≤ f u ∧ f u ≤ q_bd u) → q_wyF (fun S => q_sub all S ∧ q_mayS (σ g 5) (σ g 6) (q_BM σ g) (σ g 8) (σ (g + 5)) (σ (g + 6)) S) k i f = R → mj_Wm i_M_orders (n + 7) K 24 [some (rV 12 0 g), some (iV w), some (iV all), some (iV i), none, none] [] τ := by
  have hr : ∀ i, 0 ≤ σ (g + 1) i ∧ σ (g + 1) i ≤ 7 := hM.1.2.1
  have hc : 0 ≤ σ g 0 ∧ σ g 0 ≤ 8 := hM.1.1
  have mayall : q_mayS (σ g 5) (σ g 6) (q_BM σ g) (σ g 8) (σ (g + 5)) (σ (g + 6)) all := by
    intro v v0 v1 v2
    refine (q_line_l (B := q_BS (q_BM σ g) all) (B' := q_BM σ g) (q_BS_l _ _).1 hc.1 ?_ rfl rfl).1 _ _
    rw [(q_BS_l _ _).2]
    refine List.filter_eq_self.mpr (fun u hu => ?_)
    obtain ⟨j, j1, j2, j3⟩ := q_rlF_mem _ _ hu
    have hju := hr j
    have j3 : σ (g + 1) j = u := j3
    have j2 : j < 0 + ((σ g 0).toNat : Int) := j2
    rw [j3] at hju
    rw [hall]
    exact (q_bits_tb hr hc.1 hju).2 ⟨j, j1, by omega, j3⟩
  intro k
  induction k with
  | zero =>
    intro i τ f h0 h1 hF hw hf hR
    have : i = all + 1 := by omega
    subst this
    have hR : f = R := hR
    subst hR
    refine r_M_orders [(24, [true, true, true, true, false, false]), (83, [true, true, true, false, false, false])] 600 ?_
    repeat' (first | (refine mj_ite (fun h => ?_) (fun h => ?_) <;> first | (exfalso; omega) | skip) | refine mj_vci (by first | omega | (simp (disch := omega) only [up_ne, up_at, q_up_at, q_up_ne, cp_ne]; omega)) ?_)
    exact hK τ hF.1 hw hf
  | succ k ih =>
    intro i τ f h0 h1 hF hw hf hR
    unfold q_wyF at hR
    have hi : 0 ≤ i ∧ i ≤ 255 := by omega
    have hMt := q_Fm_mB hF.1 hM
    have hwq : ∀ (τ' : mj_W), τ' (g + 18) = τ (g + 18) → q_sub all i → ∀ q, 0 ≤ q → q ≤ 7 → q_tb i q = true → τ' (g + 18) (q_wo i q) = f (q_wo i q) := by
      intro τ' e hs q q0 q1 qt
      rw [e]
      have hr := (q_tbs hi (v := q) ⟨q0, q1⟩).2.2.2
      exact hw (q_wo i q) hr.1 (q_bdw hi ⟨q0, q1⟩ qt).2 (q_sub_w hs)
    have hws := q_ws_b hi hf
    have fin : ∀ (τ' : mj_W) (v : Int), q_of σ τ' g → τ' (g + 18) = τ (g + 18) → (0 ≤ v ∧ v ≤ q_bd i) → q_wyF (fun S => q_sub all S ∧ q_mayS (σ g 5) (σ g 6) (q_BM σ g) (σ g 8) (σ (g + 5)) (σ (g + 6)) S) k (i + 1) (q_up f i v) = R → mj_Wm i_M_orders (n + 7) K 77 [some (rV 12 0 g), some (iV w), some (iV all), some (iV i), none, none] [] (mj_up τ' (g + 18) i v) := by
      intro τ' v n1 n2 n3 n4
      refine r_M_orders [(24, [true, true, true, true, false, false])] 600 ?_
      repeat' (first | (refine mj_ite (fun h => ?_) (fun h => ?_) <;> first | (exfalso; omega) | skip) | refine mj_vci (by first | omega | (simp (disch := omega) only [up_ne, up_at, q_up_at, q_up_ne, cp_ne]; omega)) ?_)
      refine ih (i + 1) _ (q_up f i v) (by omega) (by omega) ⟨⟨⟨fun o ho => ?_, fun f' f1 f2 => ?_⟩, ?_⟩, fun v' v0 v1 => ?_⟩ (fun u u0 u1 us => ?_) (fun u u0 u1 => ?_) n4
      · rw [up_ne _ _ _ (by omega)]; exact n1.1.1.1 o ho
      · rw [up_ne _ _ _ (by omega)]; exact n1.1.1.2 f' f1 f2
      · rw [← n1.1.2]
        unfold q_BM
        simp (disch := omega) only [up_ne]
      · rw [up_ne _ _ _ (by omega)]; exact n1.2 v' v0 v1
      · rw [up_at, n2]
        by_cases e : u = i
        · rw [e, q_up_at, q_up_at]
        · rw [q_up_ne _ _ e, q_up_ne _ _ e]; exact hw u u0 (by omega) us
      · by_cases e : u = i
        · rw [e, q_up_at]; exact n3
        · rw [q_up_ne _ _ e]; exact hf u u0 u1
    have zero : ∀ (τ' : mj_W), q_of σ τ' g → τ' (g + 18) = τ (g + 18) → ¬ (q_sub all i ∧ q_mayS (σ g 5) (σ g 6) (q_BM σ g) (σ g 8) (σ (g + 5)) (σ (g + 6)) i) → mj_Wm i_M_orders (n + 7) K 77 [some (rV 12 0 g), some (iV w), some (iV all), some (iV i), none, none] [] (mj_up τ' (g + 18) i 0) := by
      intro τ' n1 n2 q
      rw [if_neg q] at hR
      exact fin τ' 0 n1 n2 ⟨Int.le_refl 0, by have := q_bds hi; omega⟩ hR
    have ways : ∀ (τ' : mj_W), q_of σ τ' g → τ' (g + 18) = τ (g + 18) → (q_sub all i ∧ q_mayS (σ g 5) (σ g 6) (q_BM σ g) (σ g 8) (σ (g + 5)) (σ (g + 6)) i) → mj_Wm i_M_orders (n + 7) K 77 [some (rV 12 0 g), some (iV w), some (iV all), some (iV i), none, none] [] (mj_up τ' (g + 18) i (q_ws f i)) := by
      intro τ' n1 n2 q
      rw [if_pos q] at hR
      exact fin τ' _ n1 n2 hws hR
    by_cases hs0 : q_sub all i
    · have hs1 : mj_and i (mj_xor all (-1)) = 0 := hs0
      by_cases ea : i = all
      · have w9 := ways τ hF rfl ⟨hs0, by rw [ea]; exact mayall⟩
        refine r_M_orders [(77, [true, true, true, true, false, false])] 600 ?_
        repeat' (first | (refine mj_ite (fun h => ?_) (fun h => ?_) <;> first | (exfalso; omega) | skip) | refine mj_vci (by first | omega | (simp (disch := omega) only [up_ne, up_at, q_up_at, q_up_ne, cp_ne]; omega)) ?_)
        refine c_M_waysOf (f := f) hi hf (hwq τ rfl hs0) (fun r hr => ?_)
        rw [← hr] at w9
        repeat' (first | (refine mj_ite (fun h => ?_) (fun h => ?_) <;> first | (exfalso; omega) | skip) | refine mj_vci (by first | omega | (simp (disch := omega) only [up_ne, up_at, q_up_at, q_up_ne, cp_ne]; omega)) ?_)
        exact w9
      · have em : q_mayS (τ g 5) (τ g 6) (q_BM τ g) (τ g 8) (τ (g + 5)) (τ (g + 6)) i ↔ q_mayS (σ g 5) (σ g 6) (q_BM σ g) (σ g 8) (σ (g + 5)) (σ (g + 6)) i := by
          rw [hF.1.2, hF.1.1.2 5 (by omega) (by omega), hF.1.1.2 6 (by omega) (by omega), hF.1.1.2 8 (by omega) (by omega), hF.1.1.1 (g + 5) (by omega), hF.1.1.1 (g + 6) (by omega)]
        have hn : ∀ v, 0 ≤ v → v ≤ 7 → τ (g + 19) v = q_sideB (τ g 5) (τ g 6) (q_BM τ g) (τ (g + 5) v) (τ (g + 6) v) := by
          rw [hF.1.2, hF.1.1.2 5 (by omega) (by omega), hF.1.1.2 6 (by omega) (by omega), hF.1.1.1 (g + 5) (by omega), hF.1.1.1 (g + 6) (by omega)]
          exact hF.2
        have of1 : ∀ σ1, q_lf τ σ1 g → q_of σ σ1 g ∧ σ1 (g + 18) = τ (g + 18) := by
          intro σ1 s
          refine ⟨⟨q_Fm_tr hF.1 (q_lf_Fm s), ?_⟩, s.2 (g + 18) (by omega) (by omega) (by omega)⟩
          rw [s.2 (g + 19) (by omega) (by omega) (by omega)]
          exact hF.2
        refine r_M_orders [(77, [true, true, true, true, false, false])] 600 ?_
        repeat' (first | (refine mj_ite (fun h => ?_) (fun h => ?_) <;> first | (exfalso; omega) | skip) | refine mj_vci (by first | omega | (simp (disch := omega) only [up_ne, up_at, q_up_at, q_up_ne, cp_ne]; omega)) ?_)
        refine c_M_isSame hMt (q_Fs_vM hF.1.1 hV) hi hn (fun q σ1 s => ?_) (fun q σ1 s => ?_)
        · obtain ⟨o1, o2⟩ := of1 σ1 s
          have w9 := ways σ1 o1 o2 ⟨hs0, em.mp q⟩
          repeat' (first | (refine mj_ite (fun h => ?_) (fun h => ?_) <;> first | (exfalso; omega) | skip) | refine mj_vci (by first | omega | (simp (disch := omega) only [up_ne, up_at, q_up_at, q_up_ne, cp_ne]; omega)) ?_)
          refine c_M_waysOf (f := f) hi hf (hwq σ1 o2 hs0) (fun r hr => ?_)
          rw [← hr] at w9
          repeat' (first | (refine mj_ite (fun h => ?_) (fun h => ?_) <;> first | (exfalso; omega) | skip) | refine mj_vci (by first | omega | (simp (disch := omega) only [up_ne, up_at, q_up_at, q_up_ne, cp_ne]; omega)) ?_)
          exact w9
        · obtain ⟨o1, o2⟩ := of1 σ1 s
          have w9 := zero σ1 o1 o2 (fun w => q (em.mpr w.2))
          repeat' (first | (refine mj_ite (fun h => ?_) (fun h => ?_) <;> first | (exfalso; omega) | skip) | refine mj_vci (by first | omega | (simp (disch := omega) only [up_ne, up_at, q_up_at, q_up_ne, cp_ne]; omega)) ?_)
          exact w9
    · have hs1 : ¬ mj_and i (mj_xor all (-1)) = 0 := hs0
      have w9 := zero τ hF rfl (fun q => hs0 q.1)
      refine r_M_orders [(77, [true, true, true, true, false, false])] 600 ?_
      repeat' (first | (refine mj_ite (fun h => ?_) (fun h => ?_) <;> first | (exfalso; omega) | skip) | refine mj_vci (by first | omega | (simp (disch := omega) only [up_ne, up_at, q_up_at, q_up_ne, cp_ne]; omega)) ?_)
      exact w9
theorem l_M_ordF {all : Int} {R : Int → Int} (ha : 0 ≤ all ∧ all ≤ 255) (hw : q_wok (σ (g + 18)) R all (all + 1)) (hK : ∀ r, r = q_fsF R all 8 0 → K (some (iV r)) σ) : ∀ (k : Nat) (p a : Int), p + 1 = k → p ≤ 7 → a = q_fsF R all (7 - p).toNat (p + 1) → mj_Wm i_M_orders (n + 7) K 101 [some (rV 12 0 g), some (iV w), some (iV all), some (iV a), some (iV p), none] [] σ := by
  intro k
  induction k with
  | zero =>
    intro p a h0 h1 he
    have : p = -1 := by omega
    rw [this] at he
    have he : a = q_fsF R all 8 0 := he
    refine r_M_orders [(101, [true, true, true, true, true, false])] 600 ?_
    repeat' (first | (refine mj_ite (fun h => ?_) (fun h => ?_) <;> first | (exfalso; omega) | skip) | refine mj_vci (by first | omega | (simp (disch := omega) only [up_ne, up_at, q_up_at, q_up_ne, cp_ne]; omega)) ?_)
    exact hK _ he
  | succ k ih =>
    intro p a h0 h1 he
    obtain ⟨-, htb, -, hr⟩ := q_tbs ha (v := p) (by omega)
    have ef : q_fsF R all (7 - (p - 1)).toNat (p - 1 + 1) = if q_tb all p = true ∧ 0 < R (q_wo all p) then p else a := by
      rw [show (7 - (p - 1)).toNat = (7 - p).toNat + 1 by omega, show p - 1 + 1 = p by omega, he]
      rfl
    by_cases tb : q_tb all p = true
    · rw [if_pos tb] at htb
      have hk : σ (g + 18) (q_wo all p) = R (q_wo all p) := hw _ hr.1 (by have := (q_bdw ha (v := p) (by omega) tb).2; omega) (q_sub_w (q_subs ha))
      have hk : σ (g + 18) (mj_and all (mj_xor (mj_shl 1 p) (-1))) = R (q_wo all p) := hk
      by_cases pos : 0 < R (q_wo all p)
      · rw [if_pos ⟨tb, pos⟩] at ef
        refine r_M_orders [(101, [true, true, true, true, true, false])] 600 ?_
        repeat' (first | (refine mj_ite (fun h => ?_) (fun h => ?_) <;> first | (exfalso; omega) | skip) | refine mj_vci (by first | omega | (simp (disch := omega) only [up_ne, up_at, q_up_at, q_up_ne, cp_ne]; omega)) ?_)
        exact ih (p + -1) p (by omega) (by omega) (by rw [show p + -1 = p - 1 by omega]; exact ef.symm)
      · rw [if_neg (fun q => pos q.2)] at ef
        refine r_M_orders [(101, [true, true, true, true, true, false])] 600 ?_
        repeat' (first | (refine mj_ite (fun h => ?_) (fun h => ?_) <;> first | (exfalso; omega) | skip) | refine mj_vci (by first | omega | (simp (disch := omega) only [up_ne, up_at, q_up_at, q_up_ne, cp_ne]; omega)) ?_)
        exact ih (p + -1) a (by omega) (by omega) (by rw [show p + -1 = p - 1 by omega]; exact ef.symm)
    · rw [if_neg tb] at htb
      rw [if_neg (fun q => tb q.1)] at ef
      refine r_M_orders [(101, [true, true, true, true, true, false])] 600 ?_
      repeat' (first | (refine mj_ite (fun h => ?_) (fun h => ?_) <;> first | (exfalso; omega) | skip) | refine mj_vci (by first | omega | (simp (disch := omega) only [up_ne, up_at, q_up_at, q_up_ne, cp_ne]; omega)) ?_)
      exact ih (p + -1) a (by omega) (by omega) (by rw [show p + -1 = p - 1 by omega]; exact ef.symm)
noncomputable def q_wy (w e : Int) (B : q_B) (bits : Int) (vx vy : Int → Int) : Int → Int := q_wyF (fun S => q_sub (q_bits B.2.1 B.1) S ∧ q_mayS w e B bits vx vy S) (q_bits B.2.1 B.1 + 1).toNat 0 (fun _ => 0)
noncomputable def q_ordR (w e : Int) (B : q_B) (bits : Int) (vx vy : Int → Int) (wh : Int) : Int := if wh = 0 then q_wy w e B bits vx vy (q_bits B.2.1 B.1) else q_fsF (q_wy w e B bits vx vy) (q_bits B.2.1 B.1) 8 0
theorem c_M_orders (hM : q_mB σ g) (hV : q_vM σ g) (hK : ∀ r σ', q_Fm σ σ' g → r = (if ¬ (0 ≤ w ∧ w ≤ 1) then -2 else q_ordR (σ g 5) (σ g 6) (q_BM σ g) (σ g 8) (σ (g + 5)) (σ (g + 6)) w) → K (some (iV r)) σ') : mj_Ok (n + 7) i_M_orders [rV 12 0 g, iV w] σ K := by
  have hr : ∀ i, 0 ≤ σ (g + 1) i ∧ σ (g + 1) i ≤ 7 := hM.1.2.1
  have hc : 0 ≤ σ g 0 ∧ σ g 0 ≤ 8 := hM.1.1
  have hall := q_bits_rg hr (σ g 0)
  have hRd : q_wy (σ g 5) (σ g 6) (q_BM σ g) (σ g 8) (σ (g + 5)) (σ (g + 6)) = q_wyF (fun S => q_sub (q_bits (σ (g + 1)) (σ g 0)) S ∧ q_mayS (σ g 5) (σ g 6) (q_BM σ g) (σ g 8) (σ (g + 5)) (σ (g + 6)) S) (q_bits (σ (g + 1)) (σ g 0) + 1).toNat 0 (fun _ => 0) := rfl
  have hRo : q_ordR (σ g 5) (σ g 6) (q_BM σ g) (σ g 8) (σ (g + 5)) (σ (g + 6)) w = if w = 0 then q_wy (σ g 5) (σ g 6) (q_BM σ g) (σ g 8) (σ (g + 5)) (σ (g + 6)) (q_bits (σ (g + 1)) (σ g 0)) else q_fsF (q_wy (σ g 5) (σ g 6) (q_BM σ g) (σ g 8) (σ (g + 5)) (σ (g + 6))) (q_bits (σ (g + 1)) (σ g 0)) 8 0 := rfl
  generalize q_wy (σ g 5) (σ g 6) (q_BM σ g) (σ g 8) (σ (g + 5)) (σ (g + 6)) = R at hRd hRo
  rw [hRo] at hK
  clear hRo
  refine mj_enter (by decide) (Nat.le_of_ble_eq_true rfl) (fun hg => ?_)
  refine r_M_orders [(24, [true, true, true, true, false, false])] 600 ?_
  refine c_M_in (fun a1 a2 => ?_) (fun a0 => ?_)
  · rw [if_neg (fun q => q ⟨a1, a2⟩)] at hK
    repeat' (first | (refine mj_ite (fun h => ?_) (fun h => ?_) <;> first | (exfalso; omega) | skip) | refine mj_vci (by first | omega | (simp (disch := omega) only [up_ne, up_at, q_up_at, q_up_ne, cp_ne]; omega)) ?_)
    refine c_M_persons hc ?_
    generalize hg9 : q_bits (σ (g + 1)) (σ g 0) = all at *
    repeat' (first | (refine mj_ite (fun h => ?_) (fun h => ?_) <;> first | (exfalso; omega) | skip) | refine mj_vci (by first | omega | (simp (disch := omega) only [up_ne, up_at, q_up_at, q_up_ne, cp_ne]; omega)) ?_)
    refine c_M_laySides hM hV (fun σ1 s => ?_)
    repeat' (first | (refine mj_ite (fun h => ?_) (fun h => ?_) <;> first | (exfalso; omega) | skip) | refine mj_vci (by first | omega | (simp (disch := omega) only [up_ne, up_at, q_up_at, q_up_ne, cp_ne]; omega)) ?_)
    refine l_M_ordW hM hV hg9.symm hall (R := R) (fun τ t1 t2 t3 => ?_) (all + 1).toNat 0 σ1 (fun _ => 0) (by omega) (by omega) s (fun u u0 u1 => by omega) (fun u u0 u1 => ⟨Int.le_refl 0, by have := q_bds ⟨u0, u1⟩; omega⟩) hRd.symm
    have key := fun r => hK r τ t1
    refine r_M_orders [(101, [true, true, true, true, true, false])] 600 ?_
    repeat' (first | (refine mj_ite (fun h => ?_) (fun h => ?_) <;> first | (exfalso; omega) | skip) | refine mj_vci (by first | omega | (simp (disch := omega) only [up_ne, up_at, q_up_at, q_up_ne, cp_ne]; omega)) ?_)
    · rw [if_pos h] at key
      exact key _ (t2 all hall.1 (by omega) (q_subs hall))
    · rw [if_neg h] at key
      exact l_M_ordF hall t2 key 8 7 (-6) (by omega) (by omega) rfl
  · rw [if_pos a0] at hK
    repeat' (first | (refine mj_ite (fun h => ?_) (fun h => ?_) <;> first | (exfalso; omega) | skip) | refine mj_vci (by first | omega | (simp (disch := omega) only [up_ne, up_at, q_up_at, q_up_ne, cp_ne]; omega)) ?_)
    exact hK _ σ (q_Fm_rfl σ g) rfl
end M28
