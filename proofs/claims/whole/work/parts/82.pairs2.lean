/-! calls that change something, in pairs: the rest -/
theorem q_cn_eq {τ σ : mj_W} {g b : Nat} (h0 : τ g 0 = σ (b + 1) 4 ∧ τ g 5 = σ (b + 1) 5 ∧ τ g 6 = σ (b + 1) 6 ∧ τ g 7 = σ (b + 1) 7 ∧ τ g 8 = σ (b + 6) 2 ∧ τ g 14 = σ (b + 9) 3) (h1 : τ (g + 1) = σ (b + 5) ∧ τ (g + 2) = σ (b + 2) ∧ τ (g + 3) = σ (b + 3) ∧ τ (g + 4) = σ (b + 4)) (h2 : τ (g + 5) = σ (b + 7) ∧ τ (g + 6) = σ (b + 8)) (h3 : τ (g + 7) = σ (b + 10) ∧ τ (g + 8) = σ (b + 11) ∧ τ (g + 9) = σ (b + 12)) {j : Int} (hj : 0 ≤ j ∧ j < 78) : q_cnt τ g j = q_cnC σ b j := by
  unfold q_cnt q_cnC
  by_cases e0 : j = 0
  · rw [if_pos e0, if_pos e0]; exact h0.1
  by_cases e1 : j = 1
  · rw [if_neg e0, if_neg e0, if_pos e1, if_pos e1]; exact h0.2.1
  by_cases e2 : j = 2
  · rw [if_neg e0, if_neg e0, if_neg e1, if_neg e1, if_pos e2, if_pos e2]; exact h0.2.2.1
  by_cases e3 : j = 3
  · rw [if_neg e0, if_neg e0, if_neg e1, if_neg e1, if_neg e2, if_neg e2, if_pos e3, if_pos e3]; exact h0.2.2.2.1
  by_cases e4 : j = 4
  · rw [if_neg e0, if_neg e0, if_neg e1, if_neg e1, if_neg e2, if_neg e2, if_neg e3, if_neg e3, if_pos e4, if_pos e4]; exact h0.2.2.2.2.1
  by_cases e5 : j = 5
  · rw [if_neg e0, if_neg e0, if_neg e1, if_neg e1, if_neg e2, if_neg e2, if_neg e3, if_neg e3, if_neg e4, if_neg e4, if_pos e5, if_pos e5]; exact h0.2.2.2.2.2
  rw [if_neg e0, if_neg e0, if_neg e1, if_neg e1, if_neg e2, if_neg e2, if_neg e3, if_neg e3, if_neg e4, if_neg e4, if_neg e5, if_neg e5]
  have hr : (j - 6) / 8 = 0 ∨ (j - 6) / 8 = 1 ∨ (j - 6) / 8 = 2 ∨ (j - 6) / 8 = 3 ∨ (j - 6) / 8 = 4 ∨ (j - 6) / 8 = 5 ∨ (j - 6) / 8 = 6 ∨ (j - 6) / 8 = 7 ∨ (j - 6) / 8 = 8 := by omega
  rcases hr with h | h | h | h | h | h | h | h | h <;> rw [h]
  · exact congrFun h1.1 _
  · exact congrFun h1.2.1 _
  · exact congrFun h1.2.2.1 _
  · exact congrFun h1.2.2.2 _
  · exact congrFun h2.1 _
  · exact congrFun h2.2 _
  · exact congrFun h3.1 _
  · exact congrFun h3.2.1 _
  · exact congrFun h3.2.2 _
section P3
variable {n g : Nat} {σ : mj_W} {K : Option mj_V → mj_W → Prop} {x y p w i j c d s m k pl : Int}
theorem p_set (hR : q_Rel σ g) (hK : ∀ v σ1, q_Two (n + 10) i_M_set g [iV w, iV x] (iV v) σ1 → K (some (iV v)) σ1) : mj_Ok (n + 10) i_S_set [rV 11 0 0, iV w, iV x] σ K := by
  obtain ⟨hG, hC, ⟨xB, ⟨x5, x6, x7⟩, ⟨v1, v2, v3⟩, ⟨s1, s2, s3, s4⟩, x16, x10⟩, h0, h1⟩ := id hR
  refine c_S_set (fun hn => hK _ σ (fun K' hK' => c_M_set (fun _ => hK' σ hR) (fun q => absurd q hn))) (fun hw σ1 a1 a2 => hK _ σ1 (fun K' hK' => ?_))
  refine c_M_set (fun q => absurd hw q) (fun _ σ2 u1 u2 => ?_)
  have t0 := a2 g (by omega)
  have hw3 : w = 0 ∨ w = 1 ∨ w = 2 := by omega
  have ev : σ1 g (5 + w) = σ 2 (5 + w) := by
    rw [t0]
    rcases hw3 with e | e | e <;> subst e
    · exact x5
    · exact x6
    · exact x7
  rw [ev]
  have e2 : σ2 2 = q_up (σ 2) (5 + w) x := by rw [u2 2 (by omega), a1]
  have eg : σ2 g = q_up (σ g) (5 + w) x := by rw [u1, t0]
  have fo : ∀ o, o ≠ 2 → o ≠ g → σ2 o = σ o := fun o o1 o2 => (u2 o o2).trans (a2 o o1)
  have hx : 0 ≤ x ∧ x ≤ (if w = 2 then 99 else 40) := hw.2.2
  have eC : q_BC σ2 2 = q_BC σ 2 := by
    show (_, _, _, _, _) = (_, _, _, _, _)
    rw [e2, q_up_ne _ _ (by omega), fo (2 + 1) (by omega) (by omega), fo (2 + 2) (by omega) (by omega), fo (2 + 3) (by omega) (by omega), fo (2 + 4) (by omega) (by omega)]
  have eM : q_BM σ2 g = q_BM σ g := q_BM_f (by rw [eg, q_up_ne _ _ (by omega)]) (fun o o1 o2 => fo o (by omega) (by omega))
  have q57 : (0 ≤ σ2 2 5 ∧ σ2 2 5 ≤ 40) ∧ (0 ≤ σ2 2 6 ∧ σ2 2 6 ≤ 40) ∧ (0 ≤ σ2 2 7 ∧ σ2 2 7 ≤ 99) ∧ σ2 g 5 = σ2 2 5 ∧ σ2 g 6 = σ2 2 6 ∧ σ2 g 7 = σ2 2 7 := by
    have b5 := hC.1.2.1
    have b6 := hC.1.2.2.1
    have b7 := hC.1.2.2.2
    rw [e2, eg]
    unfold q_up
    rcases hw3 with e | e | e <;> subst e
    · rw [if_neg (by decide)] at hx
      refine ⟨?_, ?_, ?_, ?_, ?_, ?_⟩
      · rw [if_pos (by decide)]; exact hx
      · rw [if_neg (by decide)]; exact b6
      · rw [if_neg (by decide)]; exact b7
      · rw [if_pos (by decide), if_pos (by decide)]
      · rw [if_neg (by decide), if_neg (by decide)]; exact x6
      · rw [if_neg (by decide), if_neg (by decide)]; exact x7
    · rw [if_neg (by decide)] at hx
      refine ⟨?_, ?_, ?_, ?_, ?_, ?_⟩
      · rw [if_neg (by decide)]; exact b5
      · rw [if_pos (by decide)]; exact hx
      · rw [if_neg (by decide)]; exact b7
      · rw [if_neg (by decide), if_neg (by decide)]; exact x5
      · rw [if_pos (by decide), if_pos (by decide)]
      · rw [if_neg (by decide), if_neg (by decide)]; exact x7
    · rw [if_pos (by decide)] at hx
      refine ⟨?_, ?_, ?_, ?_, ?_, ?_⟩
      · rw [if_neg (by decide)]; exact b5
      · rw [if_neg (by decide)]; exact b6
      · rw [if_pos (by decide)]; exact hx
      · rw [if_neg (by decide), if_neg (by decide)]; exact x5
      · rw [if_neg (by decide), if_neg (by decide)]; exact x6
      · rw [if_pos (by decide), if_pos (by decide)]
  obtain ⟨r1, r2, r3, r4, r5, r6⟩ := q57
  refine hK' σ2 ⟨hG, ⟨⟨by rw [eC]; exact hC.1.1, r1, r2, r3⟩, q_vo_f (fun o o1 o2 => fo o (by omega) (by omega)) hC.2.1, q_so_f (fun o o1 o2 => fo o (by omega) (by omega)) hC.2.2.1, q_po_f (fun o o1 o2 => fo o (by omega) (by omega)) hC.2.2.2⟩, ⟨by rw [eM, eC]; exact xB, ⟨r4, r5, r6⟩, ⟨?_, ?_, ?_⟩, ⟨?_, ?_, ?_, ?_⟩, ?_, ?_⟩, q_Ri_f (fun o o1 o2 => fo o (by omega) (by omega)) (fo _ (by omega) (by omega)) (fo _ (by omega) (by omega)) h0, q_Ri_f (fun o o1 o2 => fo o (by omega) (by omega)) (fo _ (by omega) (by omega)) (fo _ (by omega) (by omega)) h1⟩
  · rw [eg, q_up_ne _ _ (by omega), fo 7 (by omega) (by omega)]; exact v1
  · rw [fo (g + 5) (by omega) (by omega), fo 8 (by omega) (by omega)]; exact v2
  · rw [fo (g + 6) (by omega) (by omega), fo 9 (by omega) (by omega)]; exact v3
  · rw [eg, q_up_ne _ _ (by omega), fo 10 (by omega) (by omega)]; exact s1
  · rw [fo (g + 7) (by omega) (by omega), fo 11 (by omega) (by omega)]; exact s2
  · rw [fo (g + 8) (by omega) (by omega), fo 12 (by omega) (by omega)]; exact s3
  · rw [fo (g + 9) (by omega) (by omega), fo 13 (by omega) (by omega)]; exact s4
  · rw [eg, q_up_ne _ _ (by omega), fo 41 (by omega) (by omega)]; exact x16
  · rw [fo (g + 10) (by omega) (by omega), fo (41 + 1) (by omega) (by omega)]; exact x10
theorem p_village (hR : q_Rel σ g) (hK : ∀ v σ1, q_Two (n + 10) i_M_village g [iV i, iV x, iV y] (iV v) σ1 → K (some (iV v)) σ1) : mj_Ok (n + 10) i_S_village [rV 11 0 0, iV i, iV x, iV y] σ K := by
  obtain ⟨hG, hC, ⟨xB, ⟨x5, x6, x7⟩, ⟨v1, v2, v3⟩, ⟨s1, s2, s3, s4⟩, x16, x10⟩, h0, h1⟩ := id hR
  have hV := q_Rel_vM hR
  refine c_S_village hC (fun hn => hK _ σ (fun K' hK' => c_M_village hV.1 (fun _ => hK' σ hR) (fun q => absurd q hn) (fun q => absurd q hn))) (fun hi hn => hK _ σ (fun K' hK' => c_M_village hV.1 (fun q => absurd hi q) (fun _ _ => hK' σ hR) (fun _ q => absurd q hn))) (fun hi hl σ1 a1 a2 a3 a4 => hK _ σ1 (fun K' hK' => ?_))
  have t0 := a4 g (by omega) (by omega) (by omega)
  refine c_M_village (by rw [t0]; exact hV.1) (fun q => absurd hi q) (fun _ q => absurd hl q) (fun _ _ σ2 u1 u2 u3 u4 => ?_)
  have e8 : σ1 g 8 = σ 7 2 := by rw [t0]; exact v1
  rw [e8]
  rw [e8] at u1
  have fo : ∀ o, o ≠ 7 → o ≠ 8 → o ≠ 9 → o ≠ g → o ≠ g + 5 → o ≠ g + 6 → σ2 o = σ o := fun o o1 o2 o3 o4 o5 o6 => (u4 o o4 o5 o6).trans (a4 o o1 o2 o3)
  have c7 : σ2 7 = q_up (σ 7) 2 (mj_or (σ 7 2) (mj_shl 1 i)) := (u4 7 (by omega) (by omega) (by omega)).trans a1
  have c8 : σ2 8 = q_up (σ 8) i x := (u4 8 (by omega) (by omega) (by omega)).trans a2
  have c9 : σ2 9 = q_up (σ 9) i y := (u4 9 (by omega) (by omega) (by omega)).trans a3
  have gf : ∀ f, f ≠ 8 → σ2 g f = σ g f := fun f hf => by rw [u1, q_up_ne _ _ hf, t0]
  have hr := (q_tbs hC.2.1.1 hi).2.2.1
  refine hK' σ2 (q_Rel_o hR (fun o o1 o2 => fo o (by omega) (by omega) (by omega) (by omega) (by omega) (by omega)) (fun o o1 o2 => fo o (by omega) (by omega) (by omega) (by omega) (by omega) (by omega)) ⟨gf 0 (by omega), gf 5 (by omega), gf 6 (by omega), gf 7 (by omega)⟩ (fun o o1 o2 => fo o (by omega) (by omega) (by omega) (by omega) (by omega) (by omega)) (fo _ (by omega) (by omega) (by omega) (by omega) (by omega) (by omega)) (fo _ (by omega) (by omega) (by omega) (by omega) (by omega) (by omega)) ⟨?_, ?_, ?_⟩ (q_so_f (fun o o1 o2 => fo o (by omega) (by omega) (by omega) (by omega) (by omega) (by omega)) hC.2.2.1) (q_po_f (fun o o1 o2 => fo o (by omega) (by omega) (by omega) (by omega) (by omega) (by omega)) hC.2.2.2) ⟨?_, ?_, ?_⟩ ⟨?_, ?_, ?_, ?_⟩ ⟨?_, ?_⟩)
  · rw [c7, q_up_at]; exact hr
  · show ∀ j, 0 ≤ σ2 8 j ∧ σ2 8 j ≤ 40
    rw [c8]; intro j; have t : 0 ≤ σ 8 j ∧ σ 8 j ≤ 40 := hC.2.1.2.1 j; unfold q_up; split <;> omega
  · show ∀ j, 0 ≤ σ2 9 j ∧ σ2 9 j ≤ 40
    rw [c9]; intro j; have t : 0 ≤ σ 9 j ∧ σ 9 j ≤ 40 := hC.2.1.2.2 j; unfold q_up; split <;> omega
  · rw [u1, q_up_at, c7, q_up_at]
  · rw [u2, c8, a4 (g + 5) (by omega) (by omega) (by omega), v2]
  · rw [u3, c9, a4 (g + 6) (by omega) (by omega) (by omega), v3]
  · rw [gf 14 (by omega), fo 10 (by omega) (by omega) (by omega) (by omega) (by omega) (by omega)]; exact s1
  · rw [fo (g + 7) (by omega) (by omega) (by omega) (by omega) (by omega) (by omega), fo 11 (by omega) (by omega) (by omega) (by omega) (by omega) (by omega)]; exact s2
  · rw [fo (g + 8) (by omega) (by omega) (by omega) (by omega) (by omega) (by omega), fo 12 (by omega) (by omega) (by omega) (by omega) (by omega) (by omega)]; exact s3
  · rw [fo (g + 9) (by omega) (by omega) (by omega) (by omega) (by omega) (by omega), fo 13 (by omega) (by omega) (by omega) (by omega) (by omega) (by omega)]; exact s4
  · rw [gf 16 (by omega), fo 41 (by omega) (by omega) (by omega) (by omega) (by omega) (by omega)]; exact x16
  · rw [fo (g + 10) (by omega) (by omega) (by omega) (by omega) (by omega) (by omega), fo (41 + 1) (by omega) (by omega) (by omega) (by omega) (by omega) (by omega)]; exact x10
theorem p_raze (hR : q_Rel σ g) (hK : ∀ v σ1, q_Two (n + 10) i_M_raze g [iV i] (iV v) σ1 → K (some (iV v)) σ1) : mj_Ok (n + 10) i_S_raze [rV 11 0 0, iV i] σ K := by
  obtain ⟨hG, hC, ⟨xB, ⟨x5, x6, x7⟩, ⟨v1, v2, v3⟩, ⟨s1, s2, s3, s4⟩, x16, x10⟩, h0, h1⟩ := id hR
  have hV := q_Rel_vM hR
  refine c_S_raze hC (fun hn => hK _ σ (fun K' hK' => c_M_raze hV.1 (fun _ => hK' σ hR) (fun q1 q2 => absurd ⟨q1.1, q1.2, by rw [v1] at q2; exact q2⟩ hn))) (fun hi ht σ1 a1 a2 => hK _ σ1 (fun K' hK' => ?_))
  have t0 := a2 g (by omega)
  have e8 : σ1 g 8 = σ 7 2 := by rw [t0]; exact v1
  refine c_M_raze (by rw [t0]; exact hV.1) (fun q => absurd ⟨hi.1, hi.2, by rw [e8]; exact ht⟩ q) (fun _ _ σ2 u1 u2 => ?_)
  rw [e8]
  rw [e8] at u1
  have fo : ∀ o, o ≠ 7 → o ≠ g → σ2 o = σ o := fun o o1 o2 => (u2 o o2).trans (a2 o o1)
  have c7 : σ2 7 = q_up (σ 7) 2 (mj_and (σ 7 2) (mj_xor (mj_shl 1 i) (-1))) := (u2 7 (by omega)).trans a1
  have gf : ∀ f, f ≠ 8 → σ2 g f = σ g f := fun f hf => by rw [u1, q_up_ne _ _ hf, t0]
  have hr := (q_tbs hC.2.1.1 hi).2.2.2
  refine hK' σ2 (q_Rel_o hR (fun o o1 o2 => fo o (by omega) (by omega)) (fun o o1 o2 => fo o (by omega) (by omega)) ⟨gf 0 (by omega), gf 5 (by omega), gf 6 (by omega), gf 7 (by omega)⟩ (fun o o1 o2 => fo o (by omega) (by omega)) (fo _ (by omega) (by omega)) (fo _ (by omega) (by omega)) ⟨?_, ?_, ?_⟩ (q_so_f (fun o o1 o2 => fo o (by omega) (by omega)) hC.2.2.1) (q_po_f (fun o o1 o2 => fo o (by omega) (by omega)) hC.2.2.2) ⟨?_, ?_, ?_⟩ ⟨?_, ?_, ?_, ?_⟩ ⟨?_, ?_⟩)
  · rw [c7, q_up_at]; exact hr
  · rw [fo (7 + 1) (by omega) (by omega)]; exact hC.2.1.2.1
  · rw [fo (7 + 2) (by omega) (by omega)]; exact hC.2.1.2.2
  · rw [u1, q_up_at, c7, q_up_at]
  · rw [fo (g + 5) (by omega) (by omega), fo 8 (by omega) (by omega)]; exact v2
  · rw [fo (g + 6) (by omega) (by omega), fo 9 (by omega) (by omega)]; exact v3
  · rw [gf 14 (by omega), fo 10 (by omega) (by omega)]; exact s1
  · rw [fo (g + 7) (by omega) (by omega), fo 11 (by omega) (by omega)]; exact s2
  · rw [fo (g + 8) (by omega) (by omega), fo 12 (by omega) (by omega)]; exact s3
  · rw [fo (g + 9) (by omega) (by omega), fo 13 (by omega) (by omega)]; exact s4
  · rw [gf 16 (by omega), fo 41 (by omega) (by omega)]; exact x16
  · rw [fo (g + 10) (by omega) (by omega), fo (41 + 1) (by omega) (by omega)]; exact x10
theorem p_say (hR : q_Rel σ g) (hK : ∀ v σ1, q_Two (n + 10) i_M_say g [iV x] (iV v) σ1 → K (some (iV v)) σ1) : mj_Ok (n + 10) i_S_say [rV 11 0 0, iV x] σ K := by
  obtain ⟨hG, hC, ⟨xB, ⟨x5, x6, x7⟩, ⟨v1, v2, v3⟩, ⟨s1, s2, s3, s4⟩, x16, x10⟩, h0, h1⟩ := id hR
  have hP := q_Rel_pM hR
  refine c_S_say hC (fun hn => hK _ σ (fun K' hK' => c_M_say hP.1 (fun _ => hK' σ hR) (fun q => absurd q hn) (fun q => absurd q hn))) (fun hx h60 => hK _ σ (fun K' hK' => c_M_say hP.1 (fun q => absurd hx q) (fun _ _ => hK' σ hR) (fun _ q => by rw [x16] at q; omega))) (fun hx h59 σ1 a1 a2 a3 => hK _ σ1 (fun K' hK' => ?_))
  have t0 := a3 g (by omega) (by omega)
  have e16 : σ1 g 16 = σ 41 1 := by rw [t0]; exact x16
  refine c_M_say (by rw [t0]; exact hP.1) (fun q => absurd hx q) (fun _ q => by rw [e16] at q; omega) (fun _ _ σ2 u1 u2 u3 => ?_)
  rw [e16]
  rw [e16] at u1 u2
  have fo : ∀ o, o ≠ 41 → o ≠ 42 → o ≠ g → o ≠ g + 10 → σ2 o = σ o := fun o o1 o2 o3 o4 => (u3 o o3 o4).trans (a3 o o1 o2)
  have c41 : σ2 41 = q_up (σ 41) 1 (σ 41 1 + 1) := (u3 41 (by omega) (by omega)).trans a2
  have c42 : σ2 (41 + 1) = q_up (σ (41 + 1)) (σ 41 1) x := (u3 42 (by omega) (by omega)).trans a1
  have gf : ∀ f, f ≠ 16 → σ2 g f = σ g f := fun f hf => by rw [u2, q_up_ne _ _ hf, t0]
  have hp := hC.2.2.2.1
  refine hK' σ2 (q_Rel_o hR (fun o o1 o2 => fo o (by omega) (by omega) (by omega) (by omega)) (fun o o1 o2 => fo o (by omega) (by omega) (by omega) (by omega)) ⟨gf 0 (by omega), gf 5 (by omega), gf 6 (by omega), gf 7 (by omega)⟩ (fun o o1 o2 => fo o (by omega) (by omega) (by omega) (by omega)) (fo _ (by omega) (by omega) (by omega) (by omega)) (fo _ (by omega) (by omega) (by omega) (by omega)) (q_vo_f (fun o o1 o2 => fo o (by omega) (by omega) (by omega) (by omega)) hC.2.1) (q_so_f (fun o o1 o2 => fo o (by omega) (by omega) (by omega) (by omega)) hC.2.2.1) ⟨?_, ?_⟩ ⟨?_, ?_, ?_⟩ ⟨?_, ?_, ?_, ?_⟩ ⟨?_, ?_⟩)
  · rw [c41, q_up_at]; omega
  · rw [c42]; intro j; have := hC.2.2.2.2 j; unfold q_up; split <;> omega
  · rw [gf 8 (by omega), fo 7 (by omega) (by omega) (by omega) (by omega)]; exact v1
  · rw [fo (g + 5) (by omega) (by omega) (by omega) (by omega), fo 8 (by omega) (by omega) (by omega) (by omega)]; exact v2
  · rw [fo (g + 6) (by omega) (by omega) (by omega) (by omega), fo 9 (by omega) (by omega) (by omega) (by omega)]; exact v3
  · rw [gf 14 (by omega), fo 10 (by omega) (by omega) (by omega) (by omega)]; exact s1
  · rw [fo (g + 7) (by omega) (by omega) (by omega) (by omega), fo 11 (by omega) (by omega) (by omega) (by omega)]; exact s2
  · rw [fo (g + 8) (by omega) (by omega) (by omega) (by omega), fo 12 (by omega) (by omega) (by omega) (by omega)]; exact s3
  · rw [fo (g + 9) (by omega) (by omega) (by omega) (by omega), fo 13 (by omega) (by omega) (by omega) (by omega)]; exact s4
  · rw [u2, q_up_at, c41, q_up_at]
  · rw [u1, c42, a3 (g + 10) (by omega) (by omega), x10]
theorem p_wipe (hR : q_Rel σ g) (hK : ∀ v σ1, q_Two (n + 10) i_M_wipe g [] (iV v) σ1 → K (some (iV v)) σ1) : mj_Ok (n + 10) i_S_wipe [rV 11 0 0] σ K := by
  obtain ⟨hG, hC, ⟨xB, ⟨x5, x6, x7⟩, ⟨v1, v2, v3⟩, ⟨s1, s2, s3, s4⟩, x16, x10⟩, h0, h1⟩ := id hR
  refine c_S_wipe (fun σ1 a1 a2 => hK _ σ1 (fun K' hK' => ?_))
  have t0 := a2 g (by omega)
  refine c_M_wipe (fun σ2 u1 u2 => ?_)
  rw [t0, x16]
  have fo : ∀ o, o ≠ 41 → o ≠ g → σ2 o = σ o := fun o o1 o2 => (u2 o o2).trans (a2 o o1)
  have c41 : σ2 41 = q_up (σ 41) 1 0 := (u2 41 (by omega)).trans a1
  have gf : ∀ f, f ≠ 16 → σ2 g f = σ g f := fun f hf => by rw [u1, q_up_ne _ _ hf, t0]
  refine hK' σ2 (q_Rel_o hR (fun o o1 o2 => fo o (by omega) (by omega)) (fun o o1 o2 => fo o (by omega) (by omega)) ⟨gf 0 (by omega), gf 5 (by omega), gf 6 (by omega), gf 7 (by omega)⟩ (fun o o1 o2 => fo o (by omega) (by omega)) (fo _ (by omega) (by omega)) (fo _ (by omega) (by omega)) (q_vo_f (fun o o1 o2 => fo o (by omega) (by omega)) hC.2.1) (q_so_f (fun o o1 o2 => fo o (by omega) (by omega)) hC.2.2.1) ⟨?_, ?_⟩ ⟨?_, ?_, ?_⟩ ⟨?_, ?_, ?_, ?_⟩ ⟨?_, ?_⟩)
  · rw [c41, q_up_at]; omega
  · rw [fo (41 + 1) (by omega) (by omega)]; exact hC.2.2.2.2
  · rw [gf 8 (by omega), fo 7 (by omega) (by omega)]; exact v1
  · rw [fo (g + 5) (by omega) (by omega), fo 8 (by omega) (by omega)]; exact v2
  · rw [fo (g + 6) (by omega) (by omega), fo 9 (by omega) (by omega)]; exact v3
  · rw [gf 14 (by omega), fo 10 (by omega) (by omega)]; exact s1
  · rw [fo (g + 7) (by omega) (by omega), fo 11 (by omega) (by omega)]; exact s2
  · rw [fo (g + 8) (by omega) (by omega), fo 12 (by omega) (by omega)]; exact s3
  · rw [fo (g + 9) (by omega) (by omega), fo 13 (by omega) (by omega)]; exact s4
  · rw [u1, q_up_at, c41, q_up_at]
  · rw [fo (g + 10) (by omega) (by omega), fo (41 + 1) (by omega) (by omega)]; exact x10
theorem p_seen (hR : q_Rel σ g) (hK : ∀ v σ1, q_Two (n + 10) i_M_seen g [iV x, iV y, iV w] (iV v) σ1 → K (some (iV v)) σ1) : mj_Ok (n + 10) i_S_seen [rV 11 0 0, iV x, iV y, iV w] σ K := by
  obtain ⟨hG, hC, ⟨xB, ⟨x5, x6, x7⟩, ⟨v1, v2, v3⟩, ⟨s1, s2, s3, s4⟩, x16, x10⟩, h0, h1⟩ := id hR
  have hS := q_Rel_sM hR
  refine c_S_seen hC (fun hn => hK _ σ (fun K' hK' => c_M_seen hS.1 (fun _ => hK' σ hR) (fun q => absurd q hn) (fun q => absurd q hn))) (fun hx h8 => hK _ σ (fun K' hK' => c_M_seen hS.1 (fun q => absurd hx q) (fun _ _ => hK' σ hR) (fun _ q => by rw [s1] at q; omega))) (fun hx h7 σ1 a1 a2 a3 a4 a5 => hK _ σ1 (fun K' hK' => ?_))
  have t0 := a5 g (by omega) (by omega) (by omega) (by omega)
  have e14 : σ1 g 14 = σ 10 3 := by rw [t0]; exact s1
  refine c_M_seen (by rw [t0]; exact hS.1) (fun q => absurd hx q) (fun _ q => by rw [e14] at q; omega) (fun _ _ σ2 u1 u2 u3 u4 u5 => ?_)
  rw [e14]
  rw [e14] at u1 u2 u3 u4
  have fo : ∀ o, (o < 10 ∨ 13 < o) → (o < g ∨ g < o) → (o < g + 7 ∨ g + 9 < o) → σ2 o = σ o := fun o o1 o2 o3 => (u5 o (by omega) (by omega) (by omega) (by omega)).trans (a5 o (by omega) (by omega) (by omega) (by omega))
  have uc : ∀ o, o < 58 → σ2 o = σ1 o := fun o o1 => u5 o (by omega) (by omega) (by omega) (by omega)
  have c10 : σ2 10 = q_up (σ 10) 3 (σ 10 3 + 1) := (uc 10 (by omega)).trans a4
  have c11 : σ2 11 = q_up (σ 11) (σ 10 3) x := (uc 11 (by omega)).trans a1
  have c12 : σ2 12 = q_up (σ 12) (σ 10 3) y := (uc 12 (by omega)).trans a2
  have c13 : σ2 13 = q_up (σ 13) (σ 10 3) w := (uc 13 (by omega)).trans a3
  have gf : ∀ f, f ≠ 14 → σ2 g f = σ g f := fun f hf => by rw [u4, q_up_ne _ _ hf, t0]
  have hs := hC.2.2.1.1
  obtain ⟨⟨l1, l2, l3, l4⟩, l5, l6⟩ := hx
  refine hK' σ2 (q_Rel_o hR (fun o o1 o2 => fo o (by omega) (by omega) (by omega)) (fun o o1 o2 => fo o (by omega) (by omega) (by omega)) ⟨gf 0 (by omega), gf 5 (by omega), gf 6 (by omega), gf 7 (by omega)⟩ (fun o o1 o2 => fo o (by omega) (by omega) (by omega)) (fo _ (by omega) (by omega) (by omega)) (fo _ (by omega) (by omega) (by omega)) (q_vo_f (fun o o1 o2 => fo o (by omega) (by omega) (by omega)) hC.2.1) ⟨?_, ?_, ?_, ?_⟩ (q_po_f (fun o o1 o2 => fo o (by omega) (by omega) (by omega)) hC.2.2.2) ⟨?_, ?_, ?_⟩ ⟨?_, ?_, ?_, ?_⟩ ⟨?_, ?_⟩)
  · rw [c10, q_up_at]; omega
  · show ∀ j, 0 ≤ σ2 11 j ∧ σ2 11 j ≤ 40
    rw [c11]; intro j; have t : 0 ≤ σ 11 j ∧ σ 11 j ≤ 40 := hC.2.2.1.2.1 j; unfold q_up; split <;> omega
  · show ∀ j, 0 ≤ σ2 12 j ∧ σ2 12 j ≤ 40
    rw [c12]; intro j; have t : 0 ≤ σ 12 j ∧ σ 12 j ≤ 40 := hC.2.2.1.2.2.1 j; unfold q_up; split <;> omega
  · show ∀ j, 0 ≤ σ2 13 j ∧ σ2 13 j ≤ 2
    rw [c13]; intro j; have t : 0 ≤ σ 13 j ∧ σ 13 j ≤ 2 := hC.2.2.1.2.2.2 j; unfold q_up; split <;> omega
  · rw [gf 8 (by omega), fo 7 (by omega) (by omega) (by omega)]; exact v1
  · rw [fo (g + 5) (by omega) (by omega) (by omega), fo 8 (by omega) (by omega) (by omega)]; exact v2
  · rw [fo (g + 6) (by omega) (by omega) (by omega), fo 9 (by omega) (by omega) (by omega)]; exact v3
  · rw [u4, q_up_at, c10, q_up_at]
  · rw [u1, c11, a5 (g + 7) (by omega) (by omega) (by omega) (by omega), s2]
  · rw [u2, c12, a5 (g + 8) (by omega) (by omega) (by omega) (by omega), s3]
  · rw [u3, c13, a5 (g + 9) (by omega) (by omega) (by omega) (by omega), s4]
  · rw [gf 16 (by omega), fo 41 (by omega) (by omega) (by omega)]; exact x16
  · rw [fo (g + 10) (by omega) (by omega) (by omega), fo (41 + 1) (by omega) (by omega) (by omega)]; exact x10
theorem p_forget (hR : q_Rel σ g) (hK : ∀ v σ1, q_Two (n + 10) i_M_forget g [] (iV v) σ1 → K (some (iV v)) σ1) : mj_Ok (n + 10) i_S_forget [rV 11 0 0] σ K := by
  obtain ⟨hG, hC, ⟨xB, ⟨x5, x6, x7⟩, ⟨v1, v2, v3⟩, ⟨s1, s2, s3, s4⟩, x16, x10⟩, h0, h1⟩ := id hR
  refine c_S_forget (fun σ1 a1 a2 => hK _ σ1 (fun K' hK' => ?_))
  have t0 := a2 g (by omega)
  refine c_M_forget (fun σ2 u1 u2 => ?_)
  rw [t0, s1]
  have fo : ∀ o, o ≠ 10 → o ≠ g → σ2 o = σ o := fun o o1 o2 => (u2 o o2).trans (a2 o o1)
  have c10 : σ2 10 = q_up (σ 10) 3 0 := (u2 10 (by omega)).trans a1
  have gf : ∀ f, f ≠ 14 → σ2 g f = σ g f := fun f hf => by rw [u1, q_up_ne _ _ hf, t0]
  refine hK' σ2 (q_Rel_o hR (fun o o1 o2 => fo o (by omega) (by omega)) (fun o o1 o2 => fo o (by omega) (by omega)) ⟨gf 0 (by omega), gf 5 (by omega), gf 6 (by omega), gf 7 (by omega)⟩ (fun o o1 o2 => fo o (by omega) (by omega)) (fo _ (by omega) (by omega)) (fo _ (by omega) (by omega)) (q_vo_f (fun o o1 o2 => fo o (by omega) (by omega)) hC.2.1) ⟨?_, ?_, ?_, ?_⟩ (q_po_f (fun o o1 o2 => fo o (by omega) (by omega)) hC.2.2.2) ⟨?_, ?_, ?_⟩ ⟨?_, ?_, ?_, ?_⟩ ⟨?_, ?_⟩)
  · rw [c10, q_up_at]; omega
  · rw [fo (10 + 1) (by omega) (by omega)]; exact hC.2.2.1.2.1
  · rw [fo (10 + 2) (by omega) (by omega)]; exact hC.2.2.1.2.2.1
  · rw [fo (10 + 3) (by omega) (by omega)]; exact hC.2.2.1.2.2.2
  · rw [gf 8 (by omega), fo 7 (by omega) (by omega)]; exact v1
  · rw [fo (g + 5) (by omega) (by omega), fo 8 (by omega) (by omega)]; exact v2
  · rw [fo (g + 6) (by omega) (by omega), fo 9 (by omega) (by omega)]; exact v3
  · rw [u1, q_up_at, c10, q_up_at]
  · rw [fo (g + 7) (by omega) (by omega), fo 11 (by omega) (by omega)]; exact s2
  · rw [fo (g + 8) (by omega) (by omega), fo 12 (by omega) (by omega)]; exact s3
  · rw [fo (g + 9) (by omega) (by omega), fo 13 (by omega) (by omega)]; exact s4
  · rw [gf 16 (by omega), fo 41 (by omega) (by omega)]; exact x16
  · rw [fo (g + 10) (by omega) (by omega), fo (41 + 1) (by omega) (by omega)]; exact x10
end P3
