/-! days, of the class: pad v, days dd, border b -/
def q_post (σ σ' : mj_W) (b dd : Nat) (a : q_A) : Prop := q_BC σ' b = q_ad (q_BC σ b) a ∧ (∀ i, i ≠ 4 → σ' b i = σ b i) ∧ σ' dd = q_up (σ dd) 1 (σ dd 1 + q_as a) ∧ (∀ o, o ≠ b → o ≠ b + 1 → o ≠ b + 2 → o ≠ b + 3 → o ≠ b + 4 → o ≠ dd → σ' o = σ o)
theorem q_up_self (f : Int → Int) (i : Int) : q_up f i (f i + 0) = f := by
  funext j
  unfold q_up
  by_cases e : j = i
  · rw [if_pos e, e]; omega
  · rw [if_neg e]
section B8
variable {n b v dd : Nat} {σ : mj_W} {K : Option mj_V → mj_W → Prop} {x y p w i j c d : Int}
theorem c_Days_passDeath (hW : q_wB (q_BC σ b)) (hdb : dd < b ∨ b + 4 < dd) (hno : ∀ r, r = q_aw (σ b 7) (q_BC σ b) (1, p, 0, 0) → r ≠ 0 → K (some (iV r)) σ) (hyes : q_aw (σ b 7) (q_BC σ b) (1, p, 0, 0) = 0 → ∀ σ', q_post σ σ' b dd (1, p, 0, 0) → K (some (iV 0)) σ') : mj_Ok (n + 3) i_Days_passDeath [rV 1 0 b, iV p] σ K := by
  have hc := hW.1
  have e0 : q_aw (σ b 7) (q_BC σ b) (1, p, 0, 0) = if q_fnd (σ (b + 4)) (σ b 4) p = -6 then 1 else 0 := rfl
  refine mj_enter (by decide) (Nat.le_of_ble_eq_true rfl) (fun hg => ?_)
  refine r_Days_passDeath [] 600 ?_
  refine c_Border_holds hc (fun a1 a2 a3 => ?_) (fun a1 a2 => ?_)
  · repeat' (first | (refine mj_ite (fun h => ?_) (fun h => ?_) <;> first | (exfalso; omega) | skip) | refine mj_vci (by first | omega | (simp (disch := omega) only [up_ne, up_at, q_up_at, q_up_ne, cp_ne]; omega)) ?_)
    refine c_Border_drop hc (fun q => by omega) (fun q σ' s1 s2 s3 => ?_)
    rw [if_neg q] at e0
    repeat' (first | (refine mj_ite (fun h => ?_) (fun h => ?_) <;> first | (exfalso; omega) | skip) | refine mj_vci (by first | omega | (simp (disch := omega) only [up_ne, up_at, q_up_at, q_up_ne, cp_ne]; omega)) ?_)
    refine hyes e0 σ' ⟨?_, ?_, ?_, ?_⟩
    · show (σ' b 4, σ' (b + 4), σ' (b + 1), σ' (b + 2), σ' (b + 3)) = (σ b 4 - 1, q_del (σ (b + 4)) (q_fnd (σ (b + 4)) (σ b 4) p) (σ b 4), σ (b + 1), σ (b + 2), σ (b + 3))
      rw [s1, s2, s3 (b + 1) (by omega) (by omega), s3 (b + 2) (by omega) (by omega), s3 (b + 3) (by omega) (by omega), q_up_at]
    · intro i hi; rw [s1, q_up_ne _ _ hi]
    · rw [s3 dd (by omega) (by omega)]
      exact (q_up_self _ _).symm
    · intro o g1 g2 g3 g4 g5 g6
      exact s3 o g1 g5
  · rw [if_pos a1] at e0
    rw [e0] at hno
    repeat' (first | (refine mj_ite (fun h => ?_) (fun h => ?_) <;> first | (exfalso; omega) | skip) | refine mj_vci (by first | omega | (simp (disch := omega) only [up_ne, up_at, q_up_at, q_up_ne, cp_ne]; omega)) ?_)
    exact hno 1 rfl (by omega)
theorem c_Days_passHeir {he : Int} (hW : q_wB (q_BC σ b)) (hp : 0 ≤ p ∧ p ≤ 7) (hh : 0 ≤ he ∧ he ≤ 7) (hdb : dd < b ∨ b + 4 < dd) (hno : ∀ r, r = q_aw (σ b 7) (q_BC σ b) (2, p, he, 0) → r ≠ 0 → K (some (iV r)) σ) (hyes : q_aw (σ b 7) (q_BC σ b) (2, p, he, 0) = 0 → ∀ σ', q_post σ σ' b dd (2, p, he, 0) → K (some (iV 0)) σ') : mj_Ok (n + 3) i_Days_passHeir [rV 1 0 b, iV p, iV he] σ K := by
  have hc := hW.1
  have e0 : q_aw (σ b 7) (q_BC σ b) (2, p, he, 0) = if q_fnd (σ (b + 4)) (σ b 4) p = -6 then 1 else if (2 : Int) = 2 ∧ q_fnd (σ (b + 4)) (σ b 4) he ≠ -6 then 5 else 0 := rfl
  refine mj_enter (by decide) (Nat.le_of_ble_eq_true rfl) (fun hg => ?_)
  refine r_Days_passHeir [] 600 ?_
  refine c_Border_holds hc (fun a1 a2 a3 => ?_) (fun a1 a2 => ?_)
  · rw [if_neg (by omega)] at e0
    repeat' (first | (refine mj_ite (fun h => ?_) (fun h => ?_) <;> first | (exfalso; omega) | skip) | refine mj_vci (by first | omega | (simp (disch := omega) only [up_ne, up_at, q_up_at, q_up_ne, cp_ne]; omega)) ?_)
    refine c_Border_holds hc (fun b1 b2 b3 => ?_) (fun b1 b2 => ?_)
    · rw [if_pos ⟨rfl, by omega⟩] at e0
      rw [e0] at hno
      repeat' (first | (refine mj_ite (fun h => ?_) (fun h => ?_) <;> first | (exfalso; omega) | skip) | refine mj_vci (by first | omega | (simp (disch := omega) only [up_ne, up_at, q_up_at, q_up_ne, cp_ne]; omega)) ?_)
      exact hno 5 rfl (by omega)
    · rw [if_neg (fun q => q.2 b1)] at e0
      repeat' (first | (refine mj_ite (fun h => ?_) (fun h => ?_) <;> first | (exfalso; omega) | skip) | refine mj_vci (by first | omega | (simp (disch := omega) only [up_ne, up_at, q_up_at, q_up_ne, cp_ne]; omega)) ?_)
      refine c_Border_inherit hc hp hh (by omega) (fun σ' s1 s2 s3 s4 s5 => ?_)
      repeat' (first | (refine mj_ite (fun h => ?_) (fun h => ?_) <;> first | (exfalso; omega) | skip) | refine mj_vci (by first | omega | (simp (disch := omega) only [up_ne, up_at, q_up_at, q_up_ne, cp_ne]; omega)) ?_)
      refine hyes e0 σ' ⟨?_, ?_, ?_, ?_⟩
      · show (σ' b 4, σ' (b + 4), σ' (b + 1), σ' (b + 2), σ' (b + 3)) = (σ b 4, q_up (σ (b + 4)) (q_fnd (σ (b + 4)) (σ b 4) p) he, q_up (σ (b + 1)) he (σ (b + 1) p), q_up (σ (b + 2)) he (σ (b + 2) p), q_up (σ (b + 3)) he (σ (b + 3) p))
        rw [s1, s2, s3, s4, s5 b (by omega) (by omega) (by omega) (by omega)]
      · intro i hi; rw [s5 b (by omega) (by omega) (by omega) (by omega)]
      · rw [s5 dd (by omega) (by omega) (by omega) (by omega)]
        exact (q_up_self _ _).symm
      · intro o g1 g2 g3 g4 g5 g6
        exact s5 o g2 g3 g4 g5
  · rw [if_pos a1] at e0
    rw [e0] at hno
    repeat' (first | (refine mj_ite (fun h => ?_) (fun h => ?_) <;> first | (exfalso; omega) | skip) | refine mj_vci (by first | omega | (simp (disch := omega) only [up_ne, up_at, q_up_at, q_up_ne, cp_ne]; omega)) ?_)
    exact hno 1 rfl (by omega)
theorem c_Days_passWalk (hW : q_wB (q_BC σ b)) (hp : 0 ≤ p ∧ p ≤ 7) (hd : 0 ≤ d ∧ d ≤ 3) (hw : 1 ≤ w ∧ w ≤ 9) (hs : -100000 ≤ σ dd 1 ∧ σ dd 1 ≤ 100000) (hdb : dd < b ∨ b + 4 < dd) (hno : ∀ r, r = q_aw (σ b 7) (q_BC σ b) (0, p, d, w) → r ≠ 0 → K (some (iV r)) σ) (hyes : q_aw (σ b 7) (q_BC σ b) (0, p, d, w) = 0 → ∀ σ', q_post σ σ' b dd (0, p, d, w) → K (some (iV 0)) σ') : mj_Ok (n + 3) i_Days_passWalk [rV 2 0 dd, rV 1 0 b, iV p, iV d, iV w] σ K := by
  obtain ⟨hc, hr, hx, hy, hz, -⟩ := hW
  have x0 := hx p
  have y0 := hy p
  have z0 := hz p
  have hz' : ∀ i, 0 ≤ σ (b + 3) i ∧ σ (b + 3) i ≤ 200 := fun i => by have := hz i; dsimp only at this; omega
  have e0 : q_aw (σ b 7) (q_BC σ b) (0, p, d, w) = if q_fnd (σ (b + 4)) (σ b 4) p = -6 then 1 else q_why (σ b 4) (σ b 7) (σ (b + 4)) (σ (b + 1)) (σ (b + 2)) (σ (b + 3)) p d w := rfl
  have e1 : q_aw (σ b 7) (q_BC σ b) (0, p, d, w) = q_why (σ b 4) (σ b 7) (σ (b + 4)) (σ (b + 1)) (σ (b + 2)) (σ (b + 3)) p d w := by
    rw [e0]
    by_cases q : q_fnd (σ (b + 4)) (σ b 4) p = -6
    · rw [if_pos q]; unfold q_why; rw [if_pos q]
    · rw [if_neg q]
  rw [e1] at hno hyes
  refine mj_enter (by decide) (Nat.le_of_ble_eq_true rfl) (fun hg => ?_)
  refine r_Days_passWalk [] 600 ?_
  repeat' (first | (refine mj_ite (fun h => ?_) (fun h => ?_) <;> first | (exfalso; omega) | skip) | refine mj_vci (by first | omega | (simp (disch := omega) only [up_ne, up_at, q_up_at, q_up_ne, cp_ne]; omega)) ?_)
  refine c_Border_whyNoWalk hc hr hx hy hz' hd (by omega) (fun r hr9 => ?_)
  by_cases hr0 : r = 0
  · subst hr0
    repeat' (first | (refine mj_ite (fun h => ?_) (fun h => ?_) <;> first | (exfalso; omega) | skip) | refine mj_vci (by first | omega | (simp (disch := omega) only [up_ne, up_at, q_up_at, q_up_ne, cp_ne]; omega)) ?_)
    dsimp only at x0 y0 z0
    refine c_Border_walk hp hd (by omega) (by omega) (by omega) (by omega) (fun σ' s1 s2 s3 s4 => ?_)
    have sd := s4 dd (by omega) (by omega) (by omega)
    have f1 : σ' dd 1 = σ dd 1 := by rw [sd]
    repeat' (first | (refine mj_ite (fun h => ?_) (fun h => ?_) <;> first | (exfalso; omega) | skip) | refine mj_vci (by first | omega | (simp (disch := omega) only [up_ne, up_at, q_up_at, q_up_ne, cp_ne]; omega)) ?_)
    refine hyes hr9.symm _ ⟨?_, ?_, ?_, ?_⟩
    · show (mj_up σ' dd 1 (σ' dd 1 + w) b 4, mj_up σ' dd 1 (σ' dd 1 + w) (b + 4), mj_up σ' dd 1 (σ' dd 1 + w) (b + 1), mj_up σ' dd 1 (σ' dd 1 + w) (b + 2), mj_up σ' dd 1 (σ' dd 1 + w) (b + 3)) = (σ b 4, σ (b + 4), q_up (σ (b + 1)) p (σ (b + 1) p + w * mj_east d), q_up (σ (b + 2)) p (σ (b + 2) p + w * mj_north d), q_up (σ (b + 3)) p (σ (b + 3) p + w))
      simp (disch := omega) only [up_ne, s1, s2, s3, s4]
    · intro i hi
      simp (disch := omega) only [up_ne, s4]
    · rw [up_at, sd]
      rfl
    · intro o g1 g2 g3 g4 g5 g6
      simp (disch := omega) only [up_ne, s4]
  · refine mj_ite (fun h => absurd h hr0) (fun h => ?_)
    exact hno r hr9 hr0
/-- the act at a place of the pad -/
theorem c_Days_passAct {a : q_A} (hW : q_wB (q_BC σ b)) (hl : mj_ln (b + 3) = 8) (hs : -100000 ≤ σ dd 1 ∧ σ dd 1 ≤ 100000) (hdb : dd < b ∨ b + 4 < dd) (hv : 0 ≤ σ v 1 ∧ σ v 1 ≤ 60) (hsg : ∀ i, 0 ≤ σ (v + 1) i ∧ σ (v + 1) i ≤ 200) (hi : 0 ≤ i) (ha : a = q_actAt (σ (v + 1)) i) (hok : q_aok a) (hlen : i + q_alen a ≤ σ v 1) (hno : ∀ r, r = q_aw (σ b 7) (q_BC σ b) a → r ≠ 0 → K (some (iV r)) σ) (hyes : q_aw (σ b 7) (q_BC σ b) a = 0 → ∀ σ', q_post σ σ' b dd a → K (some (iV 0)) σ') : mj_Ok (n + 4) i_Days_passAct [rV 2 0 dd, rV 5 0 v, iV i, rV 1 0 b] σ K := by
  have g0 := hsg i
  have g1 := hsg (i + 1)
  have g2 := hsg (i + 2)
  unfold q_actAt at ha
  refine mj_enter (by decide) (Nat.le_of_ble_eq_true rfl) (fun hg => ?_)
  refine r_Days_passAct [] 600 ?_
  by_cases e1 : σ (v + 1) i = 46
  · rw [if_pos e1] at ha
    subst ha
    have hl9 : i + 1 ≤ σ v 1 := hlen
    refine c_Pad_signAt hv (fun r hr => ?_)
    rw [if_pos (by omega), e1] at hr
    subst hr
    repeat' (first | (refine mj_ite (fun h => ?_) (fun h => ?_) <;> first | (exfalso; omega) | skip) | refine mj_vci (by first | omega | (simp (disch := omega) only [up_ne, up_at, q_up_at, q_up_ne, cp_ne]; omega)) ?_)
    refine c_Border_endDay hl (fun σ' s1 s2 => ?_)
    repeat' (first | (refine mj_ite (fun h => ?_) (fun h => ?_) <;> first | (exfalso; omega) | skip) | refine mj_vci (by first | omega | (simp (disch := omega) only [up_ne, up_at, q_up_at, q_up_ne, cp_ne]; omega)) ?_)
    refine hyes rfl σ' ⟨?_, ?_, ?_, ?_⟩
    · show (σ' b 4, σ' (b + 4), σ' (b + 1), σ' (b + 2), σ' (b + 3)) = (σ b 4, σ (b + 4), σ (b + 1), σ (b + 2), fun _ => 0)
      rw [s1, s2 b (by omega), s2 (b + 1) (by omega), s2 (b + 2) (by omega), s2 (b + 4) (by omega)]
    · intro j hj; rw [s2 b (by omega)]
    · rw [s2 dd (by omega)]
      exact (q_up_self _ _).symm
    · intro o q1 q2 q3 q4 q5 q6
      exact s2 o q4
  rw [if_neg e1] at ha
  have hl2 : i + 2 ≤ σ v 1 := by
    by_cases e3 : σ (v + 1) (i + 1) = 120
    · rw [if_pos e3] at ha; subst ha; exact hlen
    · rw [if_neg e3] at ha
      by_cases e4 : σ (v + 1) (i + 1) = 62
      · rw [if_pos e4] at ha; subst ha; have : i + 3 ≤ σ v 1 := hlen; omega
      · rw [if_neg e4] at ha; subst ha; have : i + 3 ≤ σ v 1 := hlen; omega
  refine c_Pad_signAt hv (fun r hr => ?_)
  rw [if_pos (by omega)] at hr
  subst hr
  repeat' (first | (refine mj_ite (fun h => ?_) (fun h => ?_) <;> first | (exfalso; omega) | skip) | refine mj_vci (by first | omega | (simp (disch := omega) only [up_ne, up_at, q_up_at, q_up_ne, cp_ne]; omega)) ?_)
  refine c_Pad_signAt hv (fun r hr => ?_)
  rw [if_pos (by omega)] at hr
  subst hr
  repeat' (first | (refine mj_ite (fun h => ?_) (fun h => ?_) <;> first | (exfalso; omega) | skip) | refine mj_vci (by first | omega | (simp (disch := omega) only [up_ne, up_at, q_up_at, q_up_ne, cp_ne]; omega)) ?_)
  refine c_Pad_signAt hv (fun r hr => ?_)
  rw [if_pos (by omega)] at hr
  subst hr
  repeat' (first | (refine mj_ite (fun h => ?_) (fun h => ?_) <;> first | (exfalso; omega) | skip) | refine mj_vci (by first | omega | (simp (disch := omega) only [up_ne, up_at, q_up_at, q_up_ne, cp_ne]; omega)) ?_)
  · rename_i e3
    rw [if_pos e3] at ha
    subst ha
    exact c_Days_passDeath hW hdb hno hyes
  · rename_i e3 e4
    rw [if_neg e3, if_pos e4] at ha
    subst ha
    have hl3 : i + 3 ≤ σ v 1 := hlen
    have hok : (2 : Int) = 3 ∨ ((0 ≤ σ (v + 1) i - 65 ∧ σ (v + 1) i - 65 ≤ 7) ∧ ((2 : Int) = 1 ∨ ((2 : Int) = 2 ∧ 0 ≤ σ (v + 1) (i + 2) - 65 ∧ σ (v + 1) (i + 2) - 65 ≤ 7) ∨ ((2 : Int) = 0 ∧ (0 ≤ σ (v + 1) (i + 2) - 65 ∧ σ (v + 1) (i + 2) - 65 ≤ 3) ∧ (1 : Int) ≤ 0 ∧ (0 : Int) ≤ 9))) := hok
    refine c_Pad_signAt hv (fun r hr => ?_)
    rw [if_pos (by omega)] at hr
    subst hr
    repeat' (first | (refine mj_ite (fun h => ?_) (fun h => ?_) <;> first | (exfalso; omega) | skip) | refine mj_vci (by first | omega | (simp (disch := omega) only [up_ne, up_at, q_up_at, q_up_ne, cp_ne]; omega)) ?_)
    exact c_Days_passHeir hW (by omega) (by omega) hdb hno hyes
  · rename_i e3 e4
    rw [if_neg e3, if_neg e4] at ha
    subst ha
    have hl3 : i + 3 ≤ σ v 1 := hlen
    have hok : (0 : Int) = 3 ∨ ((0 ≤ σ (v + 1) i - 65 ∧ σ (v + 1) i - 65 ≤ 7) ∧ ((0 : Int) = 1 ∨ ((0 : Int) = 2 ∧ 0 ≤ q_dir (σ (v + 1) (i + 1)) ∧ q_dir (σ (v + 1) (i + 1)) ≤ 7) ∨ ((0 : Int) = 0 ∧ (0 ≤ q_dir (σ (v + 1) (i + 1)) ∧ q_dir (σ (v + 1) (i + 1)) ≤ 3) ∧ 1 ≤ σ (v + 1) (i + 2) - 48 ∧ σ (v + 1) (i + 2) - 48 ≤ 9))) := hok
    refine c_Pad_directionOf (fun r9 hr9 => ?_)
    rw [← hr9] at hok hno hyes
    repeat' (first | (refine mj_ite (fun h => ?_) (fun h => ?_) <;> first | (exfalso; omega) | skip) | refine mj_vci (by first | omega | (simp (disch := omega) only [up_ne, up_at, q_up_at, q_up_ne, cp_ne]; omega)) ?_)
    refine c_Pad_signAt hv (fun r hr => ?_)
    rw [if_pos (by omega)] at hr
    subst hr
    repeat' (first | (refine mj_ite (fun h => ?_) (fun h => ?_) <;> first | (exfalso; omega) | skip) | refine mj_vci (by first | omega | (simp (disch := omega) only [up_ne, up_at, q_up_at, q_up_ne, cp_ne]; omega)) ?_)
    exact c_Days_passWalk hW (by omega) (by omega) (by omega) hs hdb hno hyes
end B8
