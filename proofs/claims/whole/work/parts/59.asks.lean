/-! the model: judge, behind, side, south, lies, done -/
theorem q_or0 {a : Int} (h : mj_InR a) : mj_or a 0 = a := by
  unfold mj_or
  rw [mj_z, Int32.or_zero, mj_tI h]
theorem q_Fs_mB {σ σ' : mj_W} {g : Nat} (h : q_Fs σ σ' g) (hW : q_wB (q_BM σ' g)) (hM : q_mB σ g) : q_mB σ' g := by
  refine ⟨hW, ?_, ?_, ?_⟩
  · rw [h.2 5 (by omega) (by omega)]; exact hM.2.1
  · rw [h.2 6 (by omega) (by omega)]; exact hM.2.2.1
  · rw [h.2 7 (by omega) (by omega)]; exact hM.2.2.2
theorem q_back_Fm {σ σ1 σ2 : mj_W} {g : Nat} (hF : q_Fs σ σ1 g) (b1 : q_BM σ2 g = q_BM σ g) (b2 : ∀ f, f ≠ 0 → σ2 g f = σ1 g f) (b3 : ∀ o, o ≠ g → o ≠ g + 1 → o ≠ g + 2 → o ≠ g + 3 → o ≠ g + 4 → σ2 o = σ1 o) : q_Fm σ σ2 g :=
  ⟨⟨fun o ho => (b3 o (by omega) (by omega) (by omega) (by omega) (by omega)).trans (hF.1 o ho), fun f f1 f2 => (b2 f (by omega)).trans (hF.2 f f1 f2)⟩, b1⟩
def q_rs (σ σ' : mj_W) (g : Nat) (l : List q_A) (r : Int) : Prop := (r = -5 ∧ q_fault (σ (g + 10)) (σ g 16) ≠ -6) ∨ (q_fault (σ (g + 10)) (σ g 16) = -6 ∧ q_BM σ' g = (q_RM σ g l).2.2.2.2 ∧ σ' g 24 = (q_RM σ g l).1 ∧ σ' g 25 = (q_RM σ g l).2.1 ∧ σ' g 22 = (q_RM σ g l).2.2.1 ∧ σ' g 21 = l.length ∧ ((r = -6 ∧ (q_RM σ g l).1 = -6) ∨ (r = -3 ∧ (q_RM σ g l).1 ≠ -6)))
def q_vM (σ : mj_W) (g : Nat) : Prop := (0 ≤ σ g 8 ∧ σ g 8 ≤ 255) ∧ (∀ i, 0 ≤ σ (g + 5) i ∧ σ (g + 5) i ≤ 40) ∧ (∀ i, 0 ≤ σ (g + 6) i ∧ σ (g + 6) i ≤ 40)
def q_sM (σ : mj_W) (g : Nat) : Prop := (0 ≤ σ g 14 ∧ σ g 14 ≤ 8) ∧ (∀ i, 0 ≤ σ (g + 7) i ∧ σ (g + 7) i ≤ 40) ∧ (∀ i, 0 ≤ σ (g + 8) i ∧ σ (g + 8) i ≤ 40) ∧ (∀ i, 0 ≤ σ (g + 9) i ∧ σ (g + 9) i ≤ 2)
theorem q_Fs_vM {σ σ' : mj_W} {g : Nat} (h : q_Fs σ σ' g) (hV : q_vM σ g) : q_vM σ' g := by
  unfold q_vM
  rw [h.2 8 (by omega) (by omega), h.1 (g + 5) (by omega), h.1 (g + 6) (by omega)]
  exact hV
theorem q_Fs_sM {σ σ' : mj_W} {g : Nat} (h : q_Fs σ σ' g) (hV : q_sM σ g) : q_sM σ' g := by
  unfold q_sM
  rw [h.2 14 (by omega) (by omega), h.1 (g + 7) (by omega), h.1 (g + 8) (by omega), h.1 (g + 9) (by omega)]
  exact hV
def q_vonB (w e : Int) (B : q_B) (bits : Int) (vx vy : Int → Int) (s : Int) : Int := q_von bits vx vy (q_cx B.1 B.2.1 B.2.2.1) (q_cy B.1 w e B.2.1 B.2.2.2.1) (B.1 + 1) s
section M19
variable {n g : Nat} {σ : mj_W} {K : Option mj_V → mj_W → Prop} {x y z p w i j c d e k s : Int} {B : q_B} {l : List q_A}
theorem c_M_refusal2 (hG : g = 58) (hM : q_mB σ g) (hP : q_pM σ g) (hl : q_fault (σ (g + 10)) (σ g 16) = -6 → q_rep (σ (g + 10)) (σ g 16) 0 l) (hK : ∀ r σ', q_had σ' g (q_BM σ g) → q_Fs σ σ' g → q_mB σ' g → q_rs σ σ' g l r → K (some (iV r)) σ') : mj_Ok (n + 6) i_M_refusal [rV 12 0 g] σ K := by
  refine c_M_refusal (l := l) hG hM hP hl (fun e σ' a1 a2 => ?_) (fun e r σ' a1 a2 a3 a4 a5 a6 a7 a8 => ?_)
  · exact hK _ σ' a1 a2.1 (q_Fm_mB a2 hM) (Or.inl ⟨rfl, e⟩)
  · have hW : q_wB (q_BM σ' g) := by rw [a4]; exact q_wB_go hM.2.2.2.2 l _ _ _ hM.1 (q_rep_ok (hl e))
    refine hK _ σ' a2 a3 (q_Fs_mB a3 hW hM) (Or.inr ⟨e, a4, a5, a6, a7, a8, ?_⟩)
    by_cases q : (q_RM σ g l).1 = -6
    · rw [if_pos q] at a1; exact Or.inl ⟨a1, q⟩
    · rw [if_neg q] at a1; exact Or.inr ⟨a1, q⟩
theorem c_M_judge (hG : g = 58) (hM : q_mB σ g) (hP : q_pM σ g) (hl : q_fault (σ (g + 10)) (σ g 16) = -6 → q_rep (σ (g + 10)) (σ g 16) 0 l) (hK : ∀ r σ', q_Fm σ σ' g → r = (if ¬ (0 ≤ w ∧ w ≤ 2) then -2 else if q_fault (σ (g + 10)) (σ g 16) ≠ -6 then -5 else if (q_RM σ g l).1 ≠ -6 ∧ w = 2 then -3 else if w = 0 then (q_RM σ g l).1 else if w = 1 then (q_RM σ g l).2.1 else (q_RM σ g l).2.2.1) → K (some (iV r)) σ') : mj_Ok (n + 7) i_M_judge [rV 12 0 g, iV w] σ K := by
  refine mj_enter (by decide) (Nat.le_of_ble_eq_true rfl) (fun hg => ?_)
  have hz := q_BM_z hg hG
  refine r_M_judge [] 600 ?_
  refine c_M_in (fun a1 a2 => ?_) (fun a0 => ?_)
  · repeat' (first | (refine mj_ite (fun h => ?_) (fun h => ?_) <;> first | (exfalso; omega) | skip) | refine mj_vci (by first | omega | (simp (disch := omega) only [up_ne, up_at, q_up_at, q_up_ne, cp_ne]; omega)) ?_)
    refine c_M_refusal2 (l := l) hG hM hP hl (fun r σ1 s1 s2 s3 s4 => ?_)
    repeat' (first | (refine mj_ite (fun h => ?_) (fun h => ?_) <;> first | (exfalso; omega) | skip) | refine mj_vci (by first | omega | (simp (disch := omega) only [up_ne, up_at, q_up_at, q_up_ne, cp_ne]; omega)) ?_)
    refine c_M_back hG s1 hz (fun σ2 b1 b2 b3 => ?_)
    have key := fun r => hK r σ2 (q_back_Fm s2 b1 b2 b3)
    rw [if_neg (fun q => q ⟨a1, a2⟩)] at key
    rcases s4 with ⟨e1, e2⟩ | ⟨e1, e2, e3, e4, e5, e6, e7⟩
    · rw [if_pos e2] at key
      subst e1
      repeat' (first | (refine mj_ite (fun h => ?_) (fun h => ?_) <;> first | (exfalso; omega) | skip) | refine mj_vci (by first | omega | (simp (disch := omega) only [up_ne, up_at, q_up_at, q_up_ne, cp_ne]; omega)) ?_)
      exact key _ rfl
    · rw [if_neg (fun q => q e1)] at key
      have c24 : σ2 g 24 = (q_RM σ g l).1 := (b2 24 (by omega)).trans e3
      have c25 : σ2 g 25 = (q_RM σ g l).2.1 := (b2 25 (by omega)).trans e4
      have c22 : σ2 g 22 = (q_RM σ g l).2.2.1 := (b2 22 (by omega)).trans e5
      rw [← c24] at e7
      rw [← c24, ← c25, ← c22] at key
      have hw : w = 0 ∨ w = 1 ∨ w = 2 := by omega
      rcases e7 with ⟨e7, e8⟩ | ⟨e7, e8⟩ <;> subst e7
      · rcases hw with hw | hw | hw <;> subst hw
        · rw [if_neg (fun q => q.1 e8), if_pos rfl] at key
          repeat' (first | (refine mj_ite (fun h => ?_) (fun h => ?_) <;> first | (exfalso; omega) | skip) | refine mj_vci (by first | omega | (simp (disch := omega) only [up_ne, up_at, q_up_at, q_up_ne, cp_ne]; omega)) ?_)
          exact key _ rfl
        · rw [if_neg (fun q => q.1 e8), if_neg (by decide), if_pos rfl] at key
          repeat' (first | (refine mj_ite (fun h => ?_) (fun h => ?_) <;> first | (exfalso; omega) | skip) | refine mj_vci (by first | omega | (simp (disch := omega) only [up_ne, up_at, q_up_at, q_up_ne, cp_ne]; omega)) ?_)
          exact key _ rfl
        · rw [if_neg (fun q => q.1 e8), if_neg (by decide), if_neg (by decide)] at key
          repeat' (first | (refine mj_ite (fun h => ?_) (fun h => ?_) <;> first | (exfalso; omega) | skip) | refine mj_vci (by first | omega | (simp (disch := omega) only [up_ne, up_at, q_up_at, q_up_ne, cp_ne]; omega)) ?_)
          exact key _ rfl
      · rcases hw with hw | hw | hw <;> subst hw
        · rw [if_neg (by omega), if_pos rfl] at key
          repeat' (first | (refine mj_ite (fun h => ?_) (fun h => ?_) <;> first | (exfalso; omega) | skip) | refine mj_vci (by first | omega | (simp (disch := omega) only [up_ne, up_at, q_up_at, q_up_ne, cp_ne]; omega)) ?_)
          exact key _ rfl
        · rw [if_neg (by omega), if_neg (by decide), if_pos rfl] at key
          repeat' (first | (refine mj_ite (fun h => ?_) (fun h => ?_) <;> first | (exfalso; omega) | skip) | refine mj_vci (by first | omega | (simp (disch := omega) only [up_ne, up_at, q_up_at, q_up_ne, cp_ne]; omega)) ?_)
          exact key _ rfl
        · rw [if_pos ⟨e8, rfl⟩] at key
          repeat' (first | (refine mj_ite (fun h => ?_) (fun h => ?_) <;> first | (exfalso; omega) | skip) | refine mj_vci (by first | omega | (simp (disch := omega) only [up_ne, up_at, q_up_at, q_up_ne, cp_ne]; omega)) ?_)
          exact key _ rfl
  · repeat' (first | (refine mj_ite (fun h => ?_) (fun h => ?_) <;> first | (exfalso; omega) | skip) | refine mj_vci (by first | omega | (simp (disch := omega) only [up_ne, up_at, q_up_at, q_up_ne, cp_ne]; omega)) ?_)
    exact hK _ σ (q_Fm_rfl σ g) (by rw [if_pos a0])
end M19
