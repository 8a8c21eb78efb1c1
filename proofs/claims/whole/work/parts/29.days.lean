/-! days, of the class: pad v, days dd, border b -/
def q_post (σ σ' : mj_W) (b dd : Nat) (a : q_A) : Prop := q_BC σ' b = q_ad (q_BC σ b) a ∧ (∀ i, i ≠ 4 → σ' b i = σ b i) ∧ σ' dd = q_up (σ dd) 1 (σ dd 1 + q_as a) ∧ (∀ o, o ≠ b → o ≠ b + 1 → o ≠ b + 2 → o ≠ b + 3 → o ≠ b + 4 → o ≠ dd → σ' o = σ o)
theorem q_up_self (f : Int → Int) (i : Int) : q_up f i (f i + 0) = f := by
  funext j
  unfold q_up
  by_cases e : j = i
  · rw [if_pos e, e]; omega
  · rw [if_neg e]
section B8
variable {n b v dd : Nat} {σ : mj_W} {K : Option mj_V → mj_W → Prop} {x y p w i j c d : Int}
theorem c_Days_passDeath (hW : q_wB (q_BC σ b)) (hdb : dd < b ∨ b + 4 < dd) (hno : ∀ r, r = q_aw (σ b 7) (q_BC σ b) (1, p, 0, 0) → r ≠ 0 → K (some (iV r)) σ) (hyes : q_aw (σ b 7) (q_BC σ b) (1, p, 0, 0) = 0 → ∀ σ', q_post σ σ' b dd (1, p, 0, 0) → K (some (iV 0)) σ') : mj_Ok (n + 3) i_Days_passDeath [rV 1 0 b, iV p] σ K := by
  have hc := hW.1
  have e0 : q_aw (σ b 7) (q_BC σ b) (1, p, 0, 0) = if q_fnd (σ (b + 4)) (σ b 4) p = -6 then 1 else 0 := rfl
  refine mj_enter (by decide) (Nat.le_of_ble_eq_true rfl) (fun hg => ?_)
  refine r_Days_passDeath [] 600 ?_
  refine c_Border_holds hc (fun a1 a2 a3 => ?_) (fun a1 a2 => ?_)
  · repeat' (first | (refine mj_ite (fun h => ?_) (fun h => ?_) <;> first | (exfalso; omega) | skip) | refine mj_vci (by first | omega | (simp (disch := omega) only [up_ne, up_at, q_up_at, q_up_ne, cp_ne]; omega)) ?_)
    refine c_Border_drop hc (fun q => by omega) (fun q σ' s1 s2 s3 => ?_)
    rw [if_neg q] at e0
    repeat' (first | (refine mj_ite (fun h => ?_) (fun h => ?_) <;> first | (exfalso; omega) | skip) | refine mj_vci (by first | omega | (simp (disch := omega) only [up_ne, up_at, q_up_at, q_up_ne, cp_ne]; omega)) ?_)
    refine hyes e0 σ' ⟨?_, ?_, ?_, ?_⟩
    · show (σ' b 4, σ' (b + 4), σ' (b + 1), σ' (b + 2), σ' (b + 3)) = (σ b 4 - 1, q_del (σ (b + 4)) (q_fnd (σ (b + 4)) (σ b 4) p) (σ b 4), σ (b + 1), σ (b + 2), σ (b + 3))
      rw [s1, s2, s3 (b + 1) (by omega) (by omega), s3 (b + 2) (by omega) (by omega), s3 (b + 3) (by omega) (by omega), q_up_at]
    · intro i hi; rw [s1, q_up_ne _ _ hi]
    · rw [s3 dd (by omega) (by omega)]
      exact (q_up_self _ _).symm
    · intro o g1 g2 g3 g4 g5 g6
      exact s3 o g1 g5
  · rw [if_pos a1] at e0
    rw [e0] at hno
    repeat' (first | (refine mj_ite (fun h => ?_) (fun h => ?_) <;> first | (exfalso; omega) | skip) | refine mj_vci (by first | omega | (simp (disch := omega) only [up_ne, up_at, q_up_at, q_up_ne, cp_ne]; omega)) ?_)
    exact hno 1 rfl (by omega)
theorem c_Days_passHeir {he : Int} (hW : q_wB (q_BC σ b)) (hp : 0 ≤ p ∧ p ≤ 7) (hh : 0 ≤ he ∧ he ≤ 7) (hdb : dd < b ∨ b + 4 < dd) (hno : ∀ r, r = q_aw (σ b 7) (q_BC σ b) (2, p, he, 0) → r ≠ 0 → K (some (iV r)) σ) (hyes : q_aw (σ b 7) (q_BC σ b) (2, p, he, 0) = 0 → ∀ σ', q_post σ σ' b dd (2, p, he, 0) → K (some (iV 0)) σ') : mj_Ok (n + 3) i_Days_passHeir [rV 1 0 b, iV p, iV he] σ K := by
  have hc := hW.1
  have e0 : q_aw (σ b 7) (q_BC σ b) (2, p, he, 0) = if q_fnd (σ (b + 4)) (σ b 4) p = -6 then 1 else if (2 : Int) = 2 ∧ q_fnd (σ (b + 4)) (σ b 4) he ≠ -6 then 5 else 0 := rfl
  refine mj_enter (by decide) (Nat.le_of_ble_eq_true rfl) (fun hg => ?_)
  refine r_Days_passHeir [] 600 ?_
  refine c_Border_holds hc (fun a1 a2 a3 => ?_) (fun a1 a2 => ?_)
  · rw [if_neg (by omega)] at e0
    repeat' (first | (refine mj_ite (fun h => ?_) (fun h => ?_) <;> first | (exfalso; omega) | skip) | refine mj_vci (by first | omega | (simp (disch := omega) only [up_ne, up_at, q_up_at, q_up_ne, cp_ne]; omega)) ?_)
    refine c_Border_holds hc (fun b1 b2 b3 => ?_) (fun b1 b2 => ?_)
    · rw [if_pos ⟨rfl, by omega⟩] at e0
      rw [e0] at hno
      repeat' (first | (refine mj_ite (fun h => ?_) (fun h => ?_) <;> first | (exfalso; omega) | skip) | refine mj_vci (by first | omega | (simp (disch := omega) only [up_ne, up_at, q_up_at, q_up_ne, cp_ne]; omega)) ?_)
      exact hno 5 rfl (by omega)
    · rw [if_neg (fun q => q.2 b1)] at e0
      repeat' (first | (refine mj_ite (fun h => ?_) (fun h => ?_) <;> first | (exfalso; omega) | skip) | refine mj_vci (by first | omega | (simp (disch := omega) only [up_ne, up_at, q_up_at, q_up_ne, cp_ne]; omega)) ?_)
      refine c_Border_inherit hc hp hh (by omega) (fun σ' s1 s2 s3 s4 s5 => ?_)
      repeat' (first | (refine mj_ite (fun h => ?_) (fun h => ?_) <;> first | (exfalso; omega) | skip) | refine mj_vci (by first | omega | (simp (disch := omega) only [up_ne, up_at, q_up_at, q_up_ne, cp_ne]; omega)) ?_)
      refine hyes e0 σ' ⟨?_, ?_, ?_, ?_⟩
      · show (σ' b 4, σ' (b + 4), σ' (b + 1), σ' (b + 2), σ' (b + 3)) = (σ b 4, q_up (σ (b + 4)) (q_fnd (σ (b + 4)) (σ b 4) p) he, q_up (σ (b + 1)) he (σ (b + 1) p), q_up (σ (b + 2)) he (σ (b + 2) p), q_up (σ (b + 3)) he (σ (b + 3) p))
        rw [s1, s2, s3, s4, s5 b (by omega) (by omega) (by omega) (by omega)]
      · intro i hi; rw [s5 b (by omega) (by omega) (by omega) (by omega)]
      · rw [s5 dd (by omega) (by omega) (by omega) (by omega)]
        exact (q_up_self _ _).symm
      · intro o g1 g2 g3 g4 g5 g6
        exact s5 o g2 g3 g4 g5
  · rw [if_pos a1] at e0
    rw [e0] at hno
    repeat' (first | (refine mj_ite (fun h => ?_) (fun h => ?_) <;> first | (exfalso; omega) | skip) | refine mj_vci (by first | omega | (simp (disch := omega) only [up_ne, up_at, q_up_at, q_up_ne, cp_ne]; omega)) ?_)
    exact hno 1 rfl (by omega)
theorem c_Days_passWalk (hW : q_wB (q_BC σ b)) (hp : 0 ≤ p ∧ p ≤ 7) (hd : 0 ≤ d ∧ d ≤ 3) (hw : 1 ≤ w ∧ w ≤ 9) (hs : -100000 ≤ σ dd 1 ∧ σ dd 1 ≤ 100000) (hdb : dd < b ∨ b + 4 < dd) (hno : ∀ r, r = q_aw (σ b 7) (q_BC σ b) (0, p, d, w) → r ≠ 0 → K (some (iV r)) σ) (hyes : q_aw (σ b 7) (q_BC σ b) (0, p, d, w) = 0 → ∀ σ', q_post σ σ' b dd (0, p, d, w) → K (some (iV 0)) σ') : mj_Ok (n + 3) i_Days_passWalk [rV 2 0 dd, rV 1 0 b, iV p, iV d, iV w] σ K := by
  obtain ⟨hc, hr, hx, hy, hz, -⟩ := hW
  have x0 := hx p
  have y0 := hy p
  have z0 := hz p
  have hz' : ∀ i, 0 ≤ σ (b + 3) i ∧ σ (b + 3) i ≤ 200 := fun i => by have := hz i; dsimp only at this; omega
  have e0 : q_aw (σ b 7) (q_BC σ b) (0, p, d, w) = if q_fnd (σ (b + 4)) (σ b 4) p = -6 then 1 else q_why (σ b 4) (σ b 7) (σ (b + 4)) (σ (b + 1)) (σ (b + 2)) (σ (b + 3)) p d w := rfl
  have e1 : q_aw (σ b 7) (q_BC σ b) (0, p, d, w) = q_why (σ b 4) (σ b 7) (σ (b + 4)) (σ (b + 1)) (σ (b + 2)) (σ (b + 3)) p d w := by
    rw [e0]
    by_cases q : q_fnd (σ (b + 4)) (σ b 4) p = -6
    · rw [if_pos q]; unfold q_why; rw [if_pos q]
    · rw [if_neg q]
  rw [e1] at hno hyes
  refine mj_enter (by decide) (Nat.le_of_ble_eq_true rfl) (fun hg => ?_)
  refine r_Days_passWalk [] 600 ?_
  repeat' (first | (refine mj_ite (fun h => ?_) (fun h => ?_) <;> first | (exfalso; omega) | skip) | refine mj_vci (by first | omega | (simp (disch := omega) only [up_ne, up_at, q_up_at, q_up_ne, cp_ne]; omega)) ?_)
  refine c_Border_whyNoWalk hc hr hx hy hz' hd (by omega) (fun r hr9 => ?_)
  by_cases hr0 : r = 0
  · subst hr0
    repeat' (first | (refine mj_ite (fun h => ?_) (fun h => ?_) <;> first | (exfalso; omega) | skip) | refine mj_vci (by first | omega | (simp (disch := omega) only [up_ne, up_at, q_up_at, q_up_ne, cp_ne]; omega)) ?_)
    dsimp only at x0 y0 z0
    refine c_Border_walk hp hd (by omega) (by omega) (by omega) (by omega) (fun σ' s1 s2 s3 s4 => ?_)
    have sd := s4 dd (by omega) (by omega) (by omega)
    have f1 : σ' dd 1 = σ dd 1 := by rw [sd]
    repeat' (first | (refine mj_ite (fun h => ?_) (fun h => ?_) <;> first | (exfalso; omega) | skip) | refine mj_vci (by first | omega | (simp (disch := omega) only [up_ne, up_at, q_up_at, q_up_ne, cp_ne]; omega)) ?_)
    refine hyes hr9.symm _ ⟨?_, ?_, ?_, ?_⟩
    · show (mj_up σ' dd 1 (σ' dd 1 + w) b 4, mj_up σ' dd 1 (σ' dd 1 + w) (b + 4), mj_up σ' dd 1 (σ' dd 1 + w) (b + 1), mj_up σ' dd 1 (σ' dd 1 + w) (b + 2), mj_up σ' dd 1 (σ' dd 1 + w) (b + 3)) = (σ b 4, σ (b + 4), q_up (σ (b + 1)) p (σ (b + 1) p + w * mj_east d), q_up (σ (b + 2)) p (σ (b + 2) p + w * mj_north d), q_up (σ (b + 3)) p (σ (b + 3) p + w))
      simp (disch := omega) only [up_ne, s1, s2, s3, s4]
    · intro i hi
      simp (disch := omega) only [up_ne, s4]
    · rw [up_at, sd]
      rfl
    · intro o g1 g2 g3 g4 g5 g6
      simp (disch := omega) only [up_ne, s4]
  · refine mj_ite (fun h => absurd h hr0) (fun h => ?_)
    exact hno r hr9 hr0
/-- the act at a place of the pad -/
theorem c_Days_passAct {a : q_A} (hW : q_wB (q_BC σ b)) (hl : mj_ln (b + 3) = 8) (hs : -100000 ≤ σ dd 1 ∧ σ dd 1 ≤ 100000) (hdb : dd < b ∨ b + 4 < dd) (hv : 0 ≤ σ v 1 ∧ σ v 1 ≤ 60) (hsg : ∀ i, 0 ≤ σ (v + 1) i ∧ σ (v + 1) i ≤ 200) (hi : 0 ≤ i) (ha : a = q_actAt (σ (v + 1)) i) (hok : q_aok a) (hlen : i + q_alen a ≤ σ v 1) (hno : ∀ r, r = q_aw (σ b 7) (q_BC σ b) a → r ≠ 0 → K (some (iV r)) σ) (hyes : q_aw (σ b 7) (q_BC σ b) a = 0 → ∀ σ', q_post σ σ' b dd a → K (some (iV 0)) σ') : mj_Ok (n + 4) i_Days_passAct [rV 2 0 dd, rV 5 0 v, iV i, rV 1 0 b] σ K := by
  have g0 := hsg i
  have g1 := hsg (i + 1)
  have g2 := hsg (i + 2)
  unfold q_actAt at ha
  refine mj_enter (by decide) (Nat.le_of_ble_eq_true rfl) (fun hg => ?_)
  refine r_Days_passAct [] 600 ?_
  by_cases e1 : σ (v + 1) i = 46
  · rw [if_pos e1] at ha
    subst ha
    have hl9 : i + 1 ≤ σ v 1 := hlen
    refine c_Pad_signAt hv (fun r hr => ?_)
    rw [if_pos (by omega), e1] at hr
    subst hr
    repeat' (first | (refine mj_ite (fun h => ?_) (fun h => ?_) <;> first | (exfalso; omega) | skip) | refine mj_vci (by first | omega | (simp (disch := omega) only [up_ne, up_at, q_up_at, q_up_ne, cp_ne]; omega)) ?_)
    refine c_Border_endDay hl (fun σ' s1 s2 => ?_)
    repeat' (first | (refine mj_ite (fun h => ?_) (fun h => ?_) <;> first | (exfalso; omega) | skip) | refine mj_vci (by first | omega | (simp (disch := omega) only [up_ne, up_at, q_up_at, q_up_ne, cp_ne]; omega)) ?_)
    refine hyes rfl σ' ⟨?_, ?_, ?_, ?_⟩
    · show (σ' b 4, σ' (b + 4), σ' (b + 1), σ' (b + 2), σ' (b + 3)) = (σ b 4, σ (b + 4), σ (b + 1), σ (b + 2), fun _ => 0)
      rw [s1, s2 b (by omega), s2 (b + 1) (by omega), s2 (b + 2) (by omega), s2 (b + 4) (by omega)]
    · intro j hj; rw [s2 b (by omega)]
    · rw [s2 dd (by omega)]
      exact (q_up_self _ _).symm
    · intro o q1 q2 q3 q4 q5 q6
      exact s2 o q4
  rw [if_neg e1] at ha
  have hl2 : i + 2 ≤ σ v 1 := by
    by_cases e3 : σ (v + 1) (i + 1) = 120
    · rw [if_pos e3] at ha; subst ha; exact hlen
    · rw [if_neg e3] at ha
      by_cases e4 : σ (v + 1) (i + 1) = 62
      · rw [if_pos e4] at ha; subst ha; have : i + 3 ≤ σ v 1 := hlen; omega
      · rw [if_neg e4] at ha; subst ha; have : i + 3 ≤ σ v 1 := hlen; omega
  refine c_Pad_signAt hv (fun r hr => ?_)
  rw [if_pos (by omega)] at hr
  subst hr
  repeat' (first | (refine mj_ite (fun h => ?_) (fun h => ?_) <;> first | (exfalso; omega) | skip) | refine mj_vci (by first | omega | (simp (disch := omega) only [up_ne, up_at, q_up_at, q_up_ne, cp_ne]; omega)) ?_)
  refine c_Pad_signAt hv (fun r hr => ?_)
  rw [if_pos (by omega)] at hr
  subst hr
  repeat' (first | (refine mj_ite (fun h => ?_) (fun h => ?_) <;> first | (exfalso; omega) | skip) | refine mj_vci (by first | omega | (simp (disch := omega) only [up_ne, up_at, q_up_at, q_up_ne, cp_ne]; omega)) ?_)
  refine c_Pad_signAt hv (fun r hr => ?_)
  rw [if_pos (by omega)] at hr
  subst hr
  repeat' (first | (refine mj_ite (fun h => ?_) (fun h => ?_) <;> first | (exfalso; omega) | skip) | refine mj_vci (by first | omega | (simp (disch := omega) only [up_ne, up_at, q_up_at, q_up_ne, cp_ne]; omega)) ?_)
  · rw [if_pos h] at ha
    subst ha
    exact c_Days_passDeath hW hdb hno hyes
  · rename_i e2 e3
    rw [if_neg e3, if_pos h] at ha
    subst ha
    have hl3 : i + 3 ≤ σ v 1 := hlen
    have hok : (2 : Int) = 3 ∨ ((0 ≤ σ (v + 1) i - 65 ∧ σ (v + 1) i - 65 ≤ 7) ∧ ((2 : Int) = 1 ∨ ((2 : Int) = 2 ∧ 0 ≤ σ (v + 1) (i + 2) - 65 ∧ σ (v + 1) (i + 2) - 65 ≤ 7) ∨ ((2 : Int) = 0 ∧ (0 ≤ σ (v + 1) (i + 2) - 65 ∧ σ (v + 1) (i + 2) - 65 ≤ 3) ∧ (1 : Int) ≤ 0 ∧ (0 : Int) ≤ 9))) := hok
    refine c_Pad_signAt hv (fun r hr => ?_)
    rw [if_pos (by omega)] at hr
    subst hr
    repeat' (first | (refine mj_ite (fun h => ?_) (fun h => ?_) <;> first | (exfalso; omega) | skip) | refine mj_vci (by first | omega | (simp (disch := omega) only [up_ne, up_at, q_up_at, q_up_ne, cp_ne]; omega)) ?_)
    exact c_Days_passHeir hW (by omega) (by omega) hdb hno hyes
  · rename_i e2 e3
    rw [if_neg e3, if_neg h] at ha
    subst ha
    have hl3 : i + 3 ≤ σ v 1 := hlen
    have hok : (0 : Int) = 3 ∨ ((0 ≤ σ (v + 1) i - 65 ∧ σ (v + 1) i - 65 ≤ 7) ∧ ((0 : Int) = 1 ∨ ((0 : Int) = 2 ∧ 0 ≤ q_dir (σ (v + 1) (i + 1)) ∧ q_dir (σ (v + 1) (i + 1)) ≤ 7) ∨ ((0 : Int) = 0 ∧ (0 ≤ q_dir (σ (v + 1) (i + 1)) ∧ q_dir (σ (v + 1) (i + 1)) ≤ 3) ∧ 1 ≤ σ (v + 1) (i + 2) - 48 ∧ σ (v + 1) (i + 2) - 48 ≤ 9))) := hok
    refine c_Pad_directionOf (fun r9 hr9 => ?_)
    rw [← hr9] at hok hno hyes
    repeat' (first | (refine mj_ite (fun h => ?_) (fun h => ?_) <;> first | (exfalso; omega) | skip) | refine mj_vci (by first | omega | (simp (disch := omega) only [up_ne, up_at, q_up_at, q_up_ne, cp_ne]; omega)) ?_)
    refine c_Pad_signAt hv (fun r hr => ?_)
    rw [if_pos (by omega)] at hr
    subst hr
    repeat' (first | (refine mj_ite (fun h => ?_) (fun h => ?_) <;> first | (exfalso; omega) | skip) | refine mj_vci (by first | omega | (simp (disch := omega) only [up_ne, up_at, q_up_at, q_up_ne, cp_ne]; omega)) ?_)
    exact c_Days_passWalk hW (by omega) (by omega) (by omega) hs hdb hno hyes
theorem c_Days_signsOfAct {a : q_A} (hv : 0 ≤ σ v 1 ∧ σ v 1 ≤ 60) (hi : 0 ≤ i) (ha : a = q_actAt (σ (v + 1)) i) (hok : q_aok a) (hlen : i + q_alen a ≤ σ v 1) (hK : K (some (iV (q_alen a))) σ) : mj_Ok (n + 2) i_Days_signsOfAct [rV 5 0 v, iV i] σ K := by
  unfold q_actAt at ha
  refine mj_enter (by decide) (Nat.le_of_ble_eq_true rfl) (fun hg => ?_)
  refine r_Days_signsOfAct [] 600 ?_
  by_cases e1 : σ (v + 1) i = 46
  · rw [if_pos e1] at ha
    subst ha
    have hl9 : i + 1 ≤ σ v 1 := hlen
    refine c_Pad_signAt hv (fun r hr => ?_)
    rw [if_pos (by omega), e1] at hr
    subst hr
    repeat' (first | (refine mj_ite (fun h => ?_) (fun h => ?_) <;> first | (exfalso; omega) | skip) | refine mj_vci (by first | omega | (simp (disch := omega) only [up_ne, up_at, q_up_at, q_up_ne, cp_ne]; omega)) ?_)
    exact hK
  rw [if_neg e1] at ha
  have hl2 : i + 2 ≤ σ v 1 := by
    by_cases e3 : σ (v + 1) (i + 1) = 120
    · rw [if_pos e3] at ha; subst ha; exact hlen
    · rw [if_neg e3] at ha
      by_cases e4 : σ (v + 1) (i + 1) = 62
      · rw [if_pos e4] at ha; subst ha; have : i + 3 ≤ σ v 1 := hlen; omega
      · rw [if_neg e4] at ha; subst ha; have : i + 3 ≤ σ v 1 := hlen; omega
  refine c_Pad_signAt hv (fun r hr => ?_)
  rw [if_pos (by omega)] at hr
  subst hr
  repeat' (first | (refine mj_ite (fun h => ?_) (fun h => ?_) <;> first | (exfalso; omega) | skip) | refine mj_vci (by first | omega | (simp (disch := omega) only [up_ne, up_at, q_up_at, q_up_ne, cp_ne]; omega)) ?_)
  refine c_Pad_signAt hv (fun r hr => ?_)
  rw [if_pos (by omega)] at hr
  subst hr
  repeat' (first | (refine mj_ite (fun h => ?_) (fun h => ?_) <;> first | (exfalso; omega) | skip) | refine mj_vci (by first | omega | (simp (disch := omega) only [up_ne, up_at, q_up_at, q_up_ne, cp_ne]; omega)) ?_)
  · rw [if_pos h] at ha
    subst ha
    exact hK
  · rw [if_neg h] at ha
    by_cases e4 : σ (v + 1) (i + 1) = 62
    · rw [if_pos e4] at ha; subst ha; exact hK
    · rw [if_neg e4] at ha; subst ha; exact hK
/-- behind the days: the trial border, and what Days tells -/
def q_dpost (σ σ' : mj_W) (b dd : Nat) (R : Int × Int × Int × Int × q_B) : Prop := q_BC σ' b = R.2.2.2.2 ∧ (∀ i, i ≠ 4 → σ' b i = σ b i) ∧ σ' dd 2 = R.1 ∧ σ' dd 3 = R.2.1 ∧ σ' dd 1 = R.2.2.1 ∧ σ' dd 0 = R.2.2.2.1 ∧ (∀ o, o ≠ b → o ≠ b + 1 → o ≠ b + 2 → o ≠ b + 3 → o ≠ b + 4 → o ≠ dd → σ' o = σ o)
theorem q_alen_in (a : q_A) : 1 ≤ q_alen a ∧ q_alen a ≤ 3 := by
  unfold q_alen; split; · omega
  · split <;> omega
theorem q_as_in {a : q_A} (h : q_aok a) : 0 ≤ q_as a ∧ q_as a ≤ 9 := by
  unfold q_as q_aok at *
  split <;> omega
theorem l_Days_pass (hl : mj_ln (b + 3) = 8) (hrch : σ b 7 ≤ 99) (hdb : dd < b ∨ b + 4 < dd) (hvb : v + 1 < b ∨ b + 4 < v) (hvd : dd ≠ v ∧ dd ≠ v + 1) (hv : 0 ≤ σ v 1 ∧ σ v 1 ≤ 60) (hsg : ∀ i, 0 ≤ σ (v + 1) i ∧ σ (v + 1) i ≤ 200) {R : Int × Int × Int × Int × q_B} (hK : ∀ σ', q_dpost σ σ' b dd R → K none σ') :
    ∀ (l : List q_A) (i : Int) (τ : mj_W), 0 ≤ i → q_rep (σ (v + 1)) (σ v 1) i l → q_wB (q_BC τ b) → (∀ j, j ≠ 4 → τ b j = σ b j) → τ dd 2 = -6 → τ dd 3 = -6 → (0 ≤ τ dd 0 ∧ τ dd 0 ≤ i) → (0 ≤ τ dd 1 ∧ τ dd 1 ≤ 9 * τ dd 0) → (∀ o, o ≠ b → o ≠ b + 1 → o ≠ b + 2 → o ≠ b + 3 → o ≠ b + 4 → o ≠ dd → τ o = σ o) → q_go (σ b 7) l (q_BC τ b) (τ dd 0) (τ dd 1) = R → mj_Wm i_Days_pass (n + 5) K 24 [some (rV 2 0 dd), some (rV 5 0 v), some (rV 1 0 b), some (iV i), none] [] τ := by
  intro l
  induction l with
  | nil =>
    intro i τ h0 hrep hW hf hd2 hd3 hd0 hd1 hfr hR
    have hi : i = σ v 1 := hrep
    have tv : τ v = σ v := hfr v (by omega) (by omega) (by omega) (by omega) (by omega) (by omega)
    have tv1 : τ v 1 = σ v 1 := by rw [tv]
    refine r_Days_pass [(24, [true, true, true, true, false])] 600 ?_
    repeat' (first | (refine mj_ite (fun h => ?_) (fun h => ?_) <;> first | (exfalso; omega) | skip) | refine mj_vci (by first | omega | (simp (disch := omega) only [up_ne, up_at, q_up_at, q_up_ne, cp_ne]; omega)) ?_)
    refine hK τ ⟨?_, hf, ?_, ?_, ?_, ?_, hfr⟩
    · rw [← hR]; rfl
    · rw [← hR]; exact hd2
    · rw [← hR]; exact hd3
    · rw [← hR]; rfl
    · rw [← hR]; rfl
  | cons a l ih =>
    intro i τ h0 hrep hW hf hd2 hd3 hd0 hd1 hfr hR
    obtain ⟨r1, r2, r3, r4⟩ := hrep
    have la := q_alen_in a
    have sa := q_as_in r2
    have tv : τ v = σ v := hfr v (by omega) (by omega) (by omega) (by omega) (by omega) (by omega)
    have tv1 : τ v 1 = σ v 1 := by rw [tv]
    have tw : τ (v + 1) = σ (v + 1) := hfr (v + 1) (by omega) (by omega) (by omega) (by omega) (by omega) (by omega)
    have t7 : τ b 7 = σ b 7 := hf 7 (by omega)
    unfold q_go at hR
    refine r_Days_pass [(24, [true, true, true, true, false])] 600 ?_
    repeat' (first | (refine mj_ite (fun h => ?_) (fun h => ?_) <;> first | (exfalso; omega) | skip) | refine mj_vci (by first | omega | (simp (disch := omega) only [up_ne, up_at, q_up_at, q_up_ne, cp_ne]; omega)) ?_)
    refine c_Days_passAct (a := a) hW hl (by omega) hdb (by omega) (by rw [tw]; exact hsg) h0 (by rw [tw]; exact r1) r2 (by omega) (fun r er hr0 => ?_) (fun er σ1 hp => ?_)
    · rw [t7] at er
      rw [← er, if_pos hr0] at hR
      refine mj_ite (fun h => absurd h hr0) (fun h => ?_)
      refine hK _ ⟨?_, ?_, ?_, ?_, ?_, ?_, ?_⟩
      · rw [← hR]
        show (_, _, _, _, _) = (_, _, _, _, _)
        simp (disch := omega) only [up_ne]
      · intro j hj
        simp (disch := omega) only [up_ne]
        exact hf j hj
      · rw [← hR]; simp (disch := omega) only [up_ne, up_at, q_up_at, q_up_ne]
      · rw [← hR]; simp (disch := omega) only [up_ne, up_at, q_up_at, q_up_ne]
      · rw [← hR]; simp (disch := omega) only [up_ne, up_at, q_up_at, q_up_ne]
      · rw [← hR]; simp (disch := omega) only [up_ne, up_at, q_up_at, q_up_ne]
      · intro o o1 o2 o3 o4 o5 o6
        simp (disch := omega) only [up_ne]
        exact hfr o o1 o2 o3 o4 o5 o6
    · rw [t7] at er
      obtain ⟨p1, p2, p3, p4⟩ := hp
      have f0 : σ1 dd 0 = τ dd 0 := by rw [p3, q_up_ne _ _ (by omega)]
      have f1 : σ1 dd 1 = τ dd 1 + q_as a := by rw [p3, q_up_at]
      have f2 : σ1 dd 2 = τ dd 2 := by rw [p3, q_up_ne _ _ (by omega)]
      have f3 : σ1 dd 3 = τ dd 3 := by rw [p3, q_up_ne _ _ (by omega)]
      have sv : σ1 v = σ v := by rw [p4 v (by omega) (by omega) (by omega) (by omega) (by omega) (by omega)]; exact tv
      have sw : σ1 (v + 1) = σ (v + 1) := by rw [p4 (v + 1) (by omega) (by omega) (by omega) (by omega) (by omega) (by omega)]; exact tw
      have e1 : mj_up σ1 dd 0 (σ1 dd 0 + 1) v = σ v := by rw [up_ne _ _ _ (by omega)]; exact sv
      have e2 : mj_up σ1 dd 0 (σ1 dd 0 + 1) (v + 1) = σ (v + 1) := by rw [up_ne _ _ _ (by omega)]; exact sw
      have e3 : mj_up σ1 dd 0 (σ1 dd 0 + 1) v 1 = σ v 1 := by rw [e1]
      rw [if_neg (by rw [er]; exact fun q => q rfl)] at hR
      repeat' (first | (refine mj_ite (fun h => ?_) (fun h => ?_) <;> first | (exfalso; omega) | skip) | refine mj_vci (by first | omega | (simp (disch := omega) only [up_ne, up_at, q_up_at, q_up_ne, cp_ne]; omega)) ?_)
      refine c_Days_signsOfAct (a := a) (by rw [e3]; exact hv) h0 (by rw [e2]; exact r1) r2 (by rw [e3]; exact r3) ?_
      repeat' (first | (refine mj_ite (fun h => ?_) (fun h => ?_) <;> first | (exfalso; omega) | skip) | refine mj_vci (by first | omega | (simp (disch := omega) only [up_ne, up_at, q_up_at, q_up_ne, cp_ne]; omega)) ?_)
      refine ih (i + q_alen a) _ (by omega) r4 ?_ ?_ ?_ ?_ ?_ ?_ ?_ ?_
      · have : q_BC (mj_up σ1 dd 0 (σ1 dd 0 + 1)) b = q_ad (q_BC τ b) a := by
          rw [← p1]
          show (_, _, _, _, _) = (_, _, _, _, _)
          simp (disch := omega) only [up_ne]
        rw [this]
        exact q_wB_ad hW hrch r2 er
      · intro j hj
        rw [up_ne _ _ _ (by omega), p2 j hj]
        exact hf j hj
      · simp (disch := omega) only [up_at, q_up_ne]; omega
      · simp (disch := omega) only [up_at, q_up_ne]; omega
      · simp (disch := omega) only [up_at, q_up_at]; omega
      · simp (disch := omega) only [up_at, q_up_ne, q_up_at]; omega
      · intro o o1 o2 o3 o4 o5 o6
        rw [up_ne _ _ _ o6, p4 o o1 o2 o3 o4 o5 o6]
        exact hfr o o1 o2 o3 o4 o5 o6
      · rw [← hR]
        have : q_BC (mj_up σ1 dd 0 (σ1 dd 0 + 1)) b = q_ad (q_BC τ b) a := by
          rw [← p1]
          show (_, _, _, _, _) = (_, _, _, _, _)
          simp (disch := omega) only [up_ne]
        rw [this]
        congr 1
        · simp (disch := omega) only [up_at, q_up_at]; omega
        · simp (disch := omega) only [up_at, q_up_ne]; omega
theorem c_Days_pass {l : List q_A} (hl : mj_ln (b + 3) = 8) (hW : q_wB (q_BC σ b)) (hrch : σ b 7 ≤ 99) (hdb : dd < b ∨ b + 4 < dd) (hvb : v + 1 < b ∨ b + 4 < v) (hvd : dd ≠ v ∧ dd ≠ v + 1) (hv : 0 ≤ σ v 1 ∧ σ v 1 ≤ 60) (hsg : ∀ i, 0 ≤ σ (v + 1) i ∧ σ (v + 1) i ≤ 200) (hrep : q_rep (σ (v + 1)) (σ v 1) 0 l) (hK : ∀ σ', q_dpost σ σ' b dd (q_go (σ b 7) l (q_BC σ b) 0 0) → K none σ') : mj_Ok (n + 5) i_Days_pass [rV 2 0 dd, rV 5 0 v, rV 1 0 b] σ K := by
  refine mj_enter (by decide) (Nat.le_of_ble_eq_true rfl) (fun hg => ?_)
  refine r_Days_pass [(24, [true, true, true, true, false])] 600 ?_
  repeat' (first | (refine mj_ite (fun h => ?_) (fun h => ?_) <;> first | (exfalso; omega) | skip) | refine mj_vci (by first | omega | (simp (disch := omega) only [up_ne, up_at, q_up_at, q_up_ne, cp_ne]; omega)) ?_)
  have eB : q_BC (mj_up (mj_up (mj_up (mj_up σ dd 0 0) dd 1 0) dd 2 (-6)) dd 3 (-6)) b = q_BC σ b := by
    show (_, _, _, _, _) = (_, _, _, _, _)
    simp (disch := omega) only [up_ne]
  refine l_Days_pass hl hrch hdb hvb hvd hv hsg hK l 0 _ (by omega) hrep ?_ ?_ ?_ ?_ ?_ ?_ ?_ ?_
  · rw [eB]; exact hW
  · intro j hj; simp (disch := omega) only [up_ne]
  · simp (disch := omega) only [up_at, q_up_at, q_up_ne]
  · simp (disch := omega) only [up_at, q_up_at, q_up_ne]
  · simp (disch := omega) only [up_at, q_up_at, q_up_ne]; omega
  · simp (disch := omega) only [up_at, q_up_at, q_up_ne]; omega
  · intro o o1 o2 o3 o4 o5 o6
    simp (disch := omega) only [up_ne]
  · rw [eB]
    congr 1
    · simp (disch := omega) only [up_at, q_up_at, q_up_ne]
    · simp (disch := omega) only [up_at, q_up_at, q_up_ne]
end B8
