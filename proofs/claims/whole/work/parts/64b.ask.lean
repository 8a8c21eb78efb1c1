/-! the model's ask -/
section M23b
variable {n g : Nat} {σ : mj_W} {K : Option mj_V → mj_W → Prop} {x y z p w i j c d k s m : Int} {B : q_B} {E : q_E} {N : Int} {t : q_mv}
theorem l_M_ask2 (hV : q_vM σ g) {t : q_mv} (hm : q_mvM σ g t) (ht : 0 ≤ t.1) (hw : 0 ≤ w ∧ w ≤ 1) {R : Int} (hR : R = if t.1 = 0 then -6 else q_askF (σ g 8) t.2.2 8 0 (-6)) (hK : K (some (iV (if R < 0 then R else if w = 0 then R else q_ml t.2.2 R))) σ) : mj_Wm i_M_ask (n + 2) K 22 [some (rV 12 0 g), some (iV w), some (iV (-6)), some (iV 0), none] [] σ := by
  by_cases e : t.1 = 0
  · rw [if_pos e] at hR
    rw [hR, if_pos (by decide)] at hK
    have m1 := hm.1
    have gen : ∀ a i : Int, a = -6 → i = 0 → mj_Wm i_M_ask (n + 2) K 22 [some (rV 12 0 g), some (iV w), some (iV a), some (iV i), none] [] σ := by
      intro a i ha hi
      rw [← ha] at hK
      refine r_M_ask [(22, [true, true, true, true, false])] 600 ?_
      repeat' (first | (refine mj_ite (fun h => ?_) (fun h => ?_) <;> first | (exfalso; omega) | skip) | refine mj_vci (by first | omega | (simp (disch := omega) only [up_ne, up_at, q_up_at, q_up_ne, cp_ne]; omega)) ?_)
      exact hK
    exact gen _ _ rfl rfl
  · rw [if_neg e] at hR
    exact l_M_ask hV hm (by omega) hw hK 8 0 (-6) (by omega) (by omega) (Or.inl rfl) hR.symm
theorem c_M_ask (hM : q_mB σ g) (hV : q_vM σ g) (hS : q_sM σ g) (hK : ∀ r σ', q_Fm σ σ' g → r = (if ¬ (0 ≤ w ∧ w ≤ 1) then -2 else if q_askR (q_EM σ g) (q_BM σ g) (σ g 8) < 0 then q_askR (q_EM σ g) (q_BM σ g) (σ g 8) else if w = 0 then q_askR (q_EM σ g) (q_BM σ g) (σ g 8) else q_ml (q_mvs (q_EM σ g) (q_BM σ g)).2.2 (q_askR (q_EM σ g) (q_BM σ g) (σ g 8))) → K (some (iV r)) σ') : mj_Ok (n + 9) i_M_ask [rV 12 0 g, iV w] σ K := by
  have hRd : q_askR (q_EM σ g) (q_BM σ g) (σ g 8) = if (q_mvs (q_EM σ g) (q_BM σ g)).1 = 0 then -6 else q_askF (σ g 8) (q_mvs (q_EM σ g) (q_BM σ g)).2.2 8 0 (-6) := rfl
  generalize q_askR (q_EM σ g) (q_BM σ g) (σ g 8) = R at hK hRd
  refine mj_enter (by decide) (Nat.le_of_ble_eq_true rfl) (fun hg => ?_)
  refine r_M_ask [(22, [true, true, true, true, false])] 600 ?_
  refine c_M_in (fun a1 a2 => ?_) (fun a0 => ?_)
  · rw [if_neg (fun q => q ⟨a1, a2⟩)] at hK
    repeat' (first | (refine mj_ite (fun h => ?_) (fun h => ?_) <;> first | (exfalso; omega) | skip) | refine mj_vci (by first | omega | (simp (disch := omega) only [up_ne, up_at, q_up_at, q_up_ne, cp_ne]; omega)) ?_)
    refine c_M_findMoves hM hV hS (fun σ1 s1 s2 s3 => ?_)
    have key := fun r => hK r σ1 s1
    generalize q_mvs (q_EM σ g) (q_BM σ g) = t at s2 s3 key hRd
    rw [← s1.1.2 8 (by omega) (by omega)] at hRd
    repeat' (first | (refine mj_ite (fun h => ?_) (fun h => ?_) <;> first | (exfalso; omega) | skip) | refine mj_vci (by first | omega | (simp (disch := omega) only [up_ne, up_at, q_up_at, q_up_ne, cp_ne]; omega)) ?_)
    exact l_M_ask2 (q_Fs_vM s1.1 hV) s2 s3.1.1 ⟨a1, a2⟩ hRd (key _ rfl)
  · rw [if_pos a0] at hK
    repeat' (first | (refine mj_ite (fun h => ?_) (fun h => ?_) <;> first | (exfalso; omega) | skip) | refine mj_vci (by first | omega | (simp (disch := omega) only [up_ne, up_at, q_up_at, q_up_ne, cp_ne]; omega)) ?_)
    exact hK _ σ (q_Fm_rfl σ g) rfl
end M23b
