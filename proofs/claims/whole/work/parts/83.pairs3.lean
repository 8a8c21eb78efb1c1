/-! images, in pairs -/
theorem q_cnC_r (σ : mj_W) (b r : Nat) {j : Int} (h : 0 ≤ j ∧ j < 8) : q_cnC σ b (6 + 8 * (r : Int) + j) = σ (b + q_ro (r : Int)) j := by
  unfold q_cnC
  rw [if_neg (by omega), if_neg (by omega), if_neg (by omega), if_neg (by omega), if_neg (by omega), if_neg (by omega)]
  rw [show (6 + 8 * (r : Int) + j - 6) / 8 = (r : Int) by omega, show (6 + 8 * (r : Int) + j - 6) % 8 = j by omega]
section P4
variable {n g : Nat} {σ : mj_W} {K : Option mj_V → mj_W → Prop} {x y p w i j c d s m k pl : Int}
theorem q_Ri_img {σ σ1 σ2 : mj_W} {b : Nat} (hR : q_Rel σ g) (hb : b + 12 < 41) (hs : q_same σ1 b σ 1) (hk : σ1 b 3 = 1) (hm : ∀ o, 41 ≤ o → σ1 o = σ o) (h2 : ∀ o, o < 58 → σ2 o = σ1 o) (hc : ∀ j, 0 ≤ j → j < 78 → σ2 (g + 23) (90 * i + j) = q_cnt σ1 g j) (h24 : σ2 (g + 24) i = 1) : q_Ri σ2 g b i := by
  obtain ⟨hG, hC, ⟨xB, ⟨x5, x6, x7⟩, ⟨v1, v2, v3⟩, ⟨s1, s2, s3, s4⟩, x16, x10⟩, h0, h1⟩ := hR
  obtain ⟨⟨a1, a2, a3, a4⟩, ⟨a5, a6, a7, a8⟩, ⟨a9, a10, a11⟩, ⟨a12, a13, a14, a15⟩⟩ := hs
  have b0 : σ g 0 = σ 2 4 := congrArg (fun B : q_B => B.1) xB
  have b1 : σ (g + 1) = σ 6 := congrArg (fun B : q_B => B.2.1) xB
  have b2 : σ (g + 2) = σ 3 := congrArg (fun B : q_B => B.2.2.1) xB
  have b3 : σ (g + 3) = σ 4 := congrArg (fun B : q_B => B.2.2.2.1) xB
  have b4 : σ (g + 4) = σ 5 := congrArg (fun B : q_B => B.2.2.2.2) xB
  have e1 : σ2 (b + 1) = σ1 (b + 1) := h2 _ (by omega)
  have e6 : σ2 (b + 6) = σ1 (b + 6) := h2 _ (by omega)
  have e9 : σ2 (b + 9) = σ1 (b + 9) := h2 _ (by omega)
  have f2 : σ2 (b + 2) = σ 3 := (h2 _ (by omega)).trans a5
  have f3 : σ2 (b + 3) = σ 4 := (h2 _ (by omega)).trans a6
  have f4 : σ2 (b + 4) = σ 5 := (h2 _ (by omega)).trans a7
  have f5 : σ2 (b + 5) = σ 6 := (h2 _ (by omega)).trans a8
  have f7 : σ2 (b + 7) = σ 8 := (h2 _ (by omega)).trans a10
  have f8 : σ2 (b + 8) = σ 9 := (h2 _ (by omega)).trans a11
  have f10 : σ2 (b + 10) = σ 11 := (h2 _ (by omega)).trans a13
  have f11 : σ2 (b + 11) = σ 12 := (h2 _ (by omega)).trans a14
  have f12 : σ2 (b + 12) = σ 13 := (h2 _ (by omega)).trans a15
  have g4 : σ2 (b + 1) 4 = σ 2 4 := by rw [e1]; exact a1
  have g5 : σ2 (b + 1) 5 = σ 2 5 := by rw [e1]; exact a2
  have g6 : σ2 (b + 1) 6 = σ 2 6 := by rw [e1]; exact a3
  have g7 : σ2 (b + 1) 7 = σ 2 7 := by rw [e1]; exact a4
  have g62 : σ2 (b + 6) 2 = σ 7 2 := by rw [e6]; exact a9
  have g93 : σ2 (b + 9) 3 = σ 10 3 := by rw [e9]; exact a12
  have eC : q_BC σ2 (b + 1) = q_BC σ 2 := by
    show (σ2 (b + 1) 4, σ2 (b + 5), σ2 (b + 2), σ2 (b + 3), σ2 (b + 4)) = (σ 2 4, σ 6, σ 3, σ 4, σ 5)
    rw [g4, f5, f2, f3, f4]
  have kk : σ2 b 3 = 1 := by rw [h2 b (by omega)]; exact hk
  refine ⟨by rw [h24, kk], ⟨by rw [eC]; exact hC.1.1, by rw [g5]; exact hC.1.2.1, by rw [g6]; exact hC.1.2.2.1, by rw [g7]; exact hC.1.2.2.2⟩, ⟨by rw [g62]; exact hC.2.1.1, ?_, ?_⟩, ⟨by rw [g93]; exact hC.2.2.1.1, ?_, ?_, ?_⟩, fun _ j j0 j1 => ?_⟩
  · show ∀ j, 0 ≤ σ2 (b + 7) j ∧ σ2 (b + 7) j ≤ 40
    rw [f7]; exact hC.2.1.2.1
  · show ∀ j, 0 ≤ σ2 (b + 8) j ∧ σ2 (b + 8) j ≤ 40
    rw [f8]; exact hC.2.1.2.2
  · show ∀ j, 0 ≤ σ2 (b + 10) j ∧ σ2 (b + 10) j ≤ 40
    rw [f10]; exact hC.2.2.1.2.1
  · show ∀ j, 0 ≤ σ2 (b + 11) j ∧ σ2 (b + 11) j ≤ 40
    rw [f11]; exact hC.2.2.1.2.2.1
  · show ∀ j, 0 ≤ σ2 (b + 12) j ∧ σ2 (b + 12) j ≤ 2
    rw [f12]; exact hC.2.2.1.2.2.2
  · rw [hc j j0 j1]
    have t0 := hm g (by omega)
    refine q_cn_eq ⟨?_, ?_, ?_, ?_, ?_, ?_⟩ ⟨?_, ?_, ?_, ?_⟩ ⟨?_, ?_⟩ ⟨?_, ?_, ?_⟩ ⟨j0, j1⟩
    · rw [t0, g4]; exact b0
    · rw [t0, g5]; exact x5
    · rw [t0, g6]; exact x6
    · rw [t0, g7]; exact x7
    · rw [t0, g62]; exact v1
    · rw [t0, g93]; exact s1
    · rw [hm (g + 1) (by omega), f5]; exact b1
    · rw [hm (g + 2) (by omega), f2]; exact b2
    · rw [hm (g + 3) (by omega), f3]; exact b3
    · rw [hm (g + 4) (by omega), f4]; exact b4
    · rw [hm (g + 5) (by omega), f7]; exact v2
    · rw [hm (g + 6) (by omega), f8]; exact v3
    · rw [hm (g + 7) (by omega), f10]; exact s2
    · rw [hm (g + 8) (by omega), f11]; exact s3
    · rw [hm (g + 9) (by omega), f12]; exact s4
theorem q_Ri_oth {σ σ2 : mj_W} {b : Nat} {i' : Int} (hi : (i = 0 ∧ i' = 1) ∨ (i = 1 ∧ i' = 0)) (h : q_Ri σ g b i') (ho : ∀ o, b ≤ o → o ≤ b + 12 → σ2 o = σ o) (hk : ∀ j, ¬ (90 * i ≤ j ∧ j < 90 * i + 78) → σ2 (g + 23) j = σ (g + 23) j) (h24 : σ2 (g + 24) i' = σ (g + 24) i') : q_Ri σ2 g b i' := by
  obtain ⟨r1, r2, r3, r4, r5⟩ := h
  refine ⟨by rw [h24, ho b (by omega) (by omega)]; exact r1, q_lo_f (fun o o1 o2 => ho o (by omega) (by omega)) r2, q_vo_f (fun o o1 o2 => ho o (by omega) (by omega)) r3, q_so_f (fun o o1 o2 => ho o (by omega) (by omega)) r4, fun q j j0 j1 => ?_⟩
  rw [ho b (by omega) (by omega)] at q
  rw [hk _ (by omega), r5 q j j0 j1]
  unfold q_cnC
  have := q_ro_in ((j - 6) / 8)
  rw [ho (b + 1) (by omega) (by omega), ho (b + 6) (by omega) (by omega), ho (b + 9) (by omega) (by omega), ho (b + q_ro ((j - 6) / 8)) (by omega) (by omega)]
theorem p_image (hR : q_Rel σ g) (hK : ∀ v σ1, q_Two (n + 10) i_M_image g [iV i] (iV v) σ1 → K (some (iV v)) σ1) : mj_Ok (n + 10) i_S_image [rV 11 0 0, iV i] σ K := by
  obtain ⟨hG, hC, hX, h0, h1⟩ := id hR
  refine c_S_image (fun hn => hK _ σ (fun K' hK' => c_M_image (fun _ => hK' σ hR) (fun q => absurd q hn))) (fun hi σ1 a0 a1 => hK _ σ1 (fun K' hK' => ?_))
  have hm : ∀ o, (o < 15 ∨ 41 ≤ o) → σ1 o = σ o := by
    intro o ho
    by_cases e : i = 0
    · exact (a0 e).2.2 o (by omega)
    · exact (a1 (by omega)).2.2 o (by omega)
  refine c_M_image (fun q => absurd hi q) (fun _ σ2 u1 u2 u3 u4 u5 => ?_)
  have c2 : ∀ o, o < 58 → σ2 o = σ1 o := fun o o1 => u5 o (by omega) (by omega) (by omega)
  have hgf : ∀ f, f ≠ 41 → f ≠ 42 → σ2 g f = σ g f := fun f f1 f2 => by rw [u4 f f1 f2, hm g (by omega)]
  have hmo : ∀ o, g < o → o < g + 23 → σ2 o = σ o := fun o o1 o2 => by rw [u5 o (by omega) (by omega) (by omega), hm o (by omega)]
  have hco : ∀ o, (o < 15 ∨ (41 ≤ o ∧ o < 58)) → σ2 o = σ o := fun o o1 => by rw [c2 o (by omega), hm o (by omega)]
  have hX2 : q_Rx σ2 σ2 g := by
    have hx1 : q_Rx σ2 σ g := q_Rx_m (q_BM_f (hgf 0 (by omega) (by omega)) (fun o o1 o2 => hmo o (by omega) (by omega))) (fun f f1 f2 => hgf f (by omega) (by omega)) (fun o o1 o2 => hmo o (by omega) (by omega)) hX
    obtain ⟨xB, ⟨x5, x6, x7⟩, ⟨v1, v2, v3⟩, ⟨s1, s2, s3, s4⟩, x16, x10⟩ := hx1
    refine ⟨?_, ⟨?_, ?_, ?_⟩, ⟨?_, ?_, ?_⟩, ⟨?_, ?_, ?_, ?_⟩, ?_, ?_⟩
    · rw [q_BC_f (b := 2) (fun o o1 o2 => hco o (by omega))]; exact xB
    · rw [hco 2 (by omega)]; exact x5
    · rw [hco 2 (by omega)]; exact x6
    · rw [hco 2 (by omega)]; exact x7
    · rw [hco 7 (by omega)]; exact v1
    · rw [hco 8 (by omega)]; exact v2
    · rw [hco 9 (by omega)]; exact v3
    · rw [hco 10 (by omega)]; exact s1
    · rw [hco 11 (by omega)]; exact s2
    · rw [hco 12 (by omega)]; exact s3
    · rw [hco 13 (by omega)]; exact s4
    · rw [hco 41 (by omega)]; exact x16
    · rw [hco (41 + 1) (by omega)]; exact x10
  have hC2 : q_C σ2 := ⟨q_lo_f (fun o o1 o2 => hco o (by omega)) hC.1, q_vo_f (fun o o1 o2 => hco o (by omega)) hC.2.1, q_so_f (fun o o1 o2 => hco o (by omega)) hC.2.2.1, q_po_f (fun o o1 o2 => hco o (by omega)) hC.2.2.2⟩
  have h23 : σ1 (g + 23) = σ (g + 23) := hm _ (by omega)
  have h24 : σ1 (g + 24) = σ (g + 24) := hm _ (by omega)
  have w24 : σ2 (g + 24) i = 1 := by rw [u3, q_up_at]
  by_cases e : i = 0
  · obtain ⟨z1, z2, z3⟩ := a0 e
    refine hK' σ2 ⟨hG, hC2, hX2, ?_, q_Ri_oth (i := i) (Or.inl ⟨e, rfl⟩) h1 (fun o o1 o2 => by rw [c2 o (by omega), z3 o (by omega)]) (fun j hj => by rw [u2 j hj, h23]) (by rw [u3, q_up_ne _ _ (by omega), h24])⟩
    have := q_Ri_img (i := i) hR (by omega) z1 z2 (fun o o1 => hm o (by omega)) c2 u1 w24
    rw [e] at this
    exact this
  · have e : i = 1 := by omega
    obtain ⟨z1, z2, z3⟩ := a1 e
    refine hK' σ2 ⟨hG, hC2, hX2, q_Ri_oth (i := i) (Or.inr ⟨e, rfl⟩) h0 (fun o o1 o2 => by rw [c2 o (by omega), z3 o (by omega)]) (fun j hj => by rw [u2 j hj, h23]) (by rw [u3, q_up_ne _ _ (by omega), h24]), ?_⟩
    have := q_Ri_img (i := i) hR (by omega) z1 z2 (fun o o1 => hm o (by omega)) c2 u1 w24
    rw [e] at this
    exact this
theorem q_rst {σ σ1 σ2 : mj_W} {b : Nat} (hg : mj_rg σ) (hR : q_Rel σ g) (hb : b = 15 ∨ b = 28) (hI : q_Ri σ g b i) (hk : σ b 3 ≠ 0) (hs : q_same σ1 1 σ b) (hm : ∀ o, (o ≤ 1 ∨ 14 ≤ o) → σ1 o = σ o)
    (u1 : ∀ f, f ≠ 41 → f ≠ 42 → σ2 g f = if q_rk f < 6 then σ1 (g + 23) (90 * i + q_rk f) else σ1 g f) (u2 : ∀ q, q ≠ g → ¬ (g + 1 ≤ q ∧ q ≤ g + 9) → σ2 q = σ1 q) (u3 : ∀ q : Nat, g + 1 ≤ q → q ≤ g + 9 → (∀ j, 0 ≤ j → j < 8 → σ2 q j = σ1 (g + 23) (90 * i + 6 + 8 * ((q : Int) - g - 1) + j)) ∧ (∀ j, ¬ (0 ≤ j ∧ j < 8) → σ2 q j = 0)) : q_Rel σ2 g := by
  obtain ⟨hG, hC, ⟨xB, ⟨x5, x6, x7⟩, ⟨v1, v2, v3⟩, ⟨s1, s2, s3, s4⟩, x16, x10⟩, h0, h1⟩ := hR
  obtain ⟨⟨a1, a2, a3, a4⟩, ⟨a5, a6, a7, a8⟩, ⟨a9, a10, a11⟩, ⟨a12, a13, a14, a15⟩⟩ := hs
  obtain ⟨r1, r2, r3, r4, r5⟩ := hI
  have kap := r5 hk
  have h23 : σ1 (g + 23) = σ (g + 23) := hm _ (by omega)
  have t0 : σ1 g = σ g := hm _ (by omega)
  have cl : ∀ o, o < 58 → σ2 o = σ1 o := fun o o1 => u2 o (by omega) (by omega)
  have row : ∀ r : Nat, r ≤ 8 → σ2 (g + 1 + r) = σ (b + q_ro (r : Int)) := by
    intro r hr
    obtain ⟨p1, p2⟩ := u3 (g + 1 + r) (by omega) (by omega)
    funext j
    by_cases e : 0 ≤ j ∧ j < 8
    · rw [p1 j e.1 e.2, h23, ← q_cnC_r σ b r e, ← kap (6 + 8 * (r : Int) + j) (by omega) (by omega)]
      congr 1
      omega
    · rw [p2 j e]
      have hl : mj_ln (b + q_ro (r : Int)) = 8 := by
        have : r = 0 ∨ r = 1 ∨ r = 2 ∨ r = 3 ∨ r = 4 ∨ r = 5 ∨ r = 6 ∨ r = 7 ∨ r = 8 := by omega
        rcases hb with hb | hb <;> rcases this with h | h | h | h | h | h | h | h | h <;> subst hb <;> subst h <;> decide +kernel
      exact (mj_rg_z hg _ _ (by rw [hl]; exact e)).symm
  have w1 : σ2 (g + 1) = σ2 6 := (row 0 (by omega)).trans (a8.symm.trans (cl 6 (by omega)).symm)
  have w2 : σ2 (g + 2) = σ2 3 := (row 1 (by omega)).trans (a5.symm.trans (cl 3 (by omega)).symm)
  have w3 : σ2 (g + 3) = σ2 4 := (row 2 (by omega)).trans (a6.symm.trans (cl 4 (by omega)).symm)
  have w4 : σ2 (g + 4) = σ2 5 := (row 3 (by omega)).trans (a7.symm.trans (cl 5 (by omega)).symm)
  have w5 : σ2 (g + 5) = σ2 8 := (row 4 (by omega)).trans (a10.symm.trans (cl 8 (by omega)).symm)
  have w6 : σ2 (g + 6) = σ2 9 := (row 5 (by omega)).trans (a11.symm.trans (cl 9 (by omega)).symm)
  have w7 : σ2 (g + 7) = σ2 11 := (row 6 (by omega)).trans (a13.symm.trans (cl 11 (by omega)).symm)
  have w8 : σ2 (g + 8) = σ2 12 := (row 7 (by omega)).trans (a14.symm.trans (cl 12 (by omega)).symm)
  have w9 : σ2 (g + 9) = σ2 13 := (row 8 (by omega)).trans (a15.symm.trans (cl 13 (by omega)).symm)
  have sc : ∀ (f k : Int), f ≠ 41 → f ≠ 42 → q_rk f = k → 0 ≤ k → k < 6 → σ2 g f = q_cnC σ b k := by
    intro f k f1 f2 hk9 k0 k1
    rw [u1 f f1 f2, hk9, if_pos k1, h23]
    exact kap k k0 (by omega)
  have c0 : σ2 g 0 = σ2 2 4 := (sc 0 0 (by omega) (by omega) rfl (by omega) (by omega)).trans (by rw [cl 2 (by omega)]; exact a1.symm)
  have c5 : σ2 g 5 = σ2 2 5 := (sc 5 1 (by omega) (by omega) rfl (by omega) (by omega)).trans (by rw [cl 2 (by omega)]; exact a2.symm)
  have c6 : σ2 g 6 = σ2 2 6 := (sc 6 2 (by omega) (by omega) rfl (by omega) (by omega)).trans (by rw [cl 2 (by omega)]; exact a3.symm)
  have c7 : σ2 g 7 = σ2 2 7 := (sc 7 3 (by omega) (by omega) rfl (by omega) (by omega)).trans (by rw [cl 2 (by omega)]; exact a4.symm)
  have c8 : σ2 g 8 = σ2 7 2 := (sc 8 4 (by omega) (by omega) rfl (by omega) (by omega)).trans (by rw [cl 7 (by omega)]; exact a9.symm)
  have c14 : σ2 g 14 = σ2 10 3 := (sc 14 5 (by omega) (by omega) rfl (by omega) (by omega)).trans (by rw [cl 10 (by omega)]; exact a12.symm)
  have c16 : σ2 g 16 = σ2 41 1 := by
    rw [u1 16 (by omega) (by omega), if_neg (by decide), t0, cl 41 (by omega), hm 41 (by omega)]; exact x16
  have c10 : σ2 (g + 10) = σ2 (41 + 1) := by
    rw [u2 (g + 10) (by omega) (by omega), hm (g + 10) (by omega), cl (41 + 1) (by omega), hm (41 + 1) (by omega)]; exact x10
  have eC : q_BC σ2 2 = q_BC σ (b + 1) := by
    show (σ2 2 4, σ2 6, σ2 3, σ2 4, σ2 5) = (σ (b + 1) 4, σ (b + 5), σ (b + 2), σ (b + 3), σ (b + 4))
    rw [cl 2 (by omega), cl 6 (by omega), cl 3 (by omega), cl 4 (by omega), cl 5 (by omega)]
    have a1 : σ1 2 4 = σ (b + 1) 4 := a1
    have a5 : σ1 3 = σ (b + 2) := a5
    have a6 : σ1 4 = σ (b + 3) := a6
    have a7 : σ1 5 = σ (b + 4) := a7
    have a8 : σ1 6 = σ (b + 5) := a8
    rw [a1, a5, a6, a7, a8]
  refine ⟨hG, ⟨⟨by rw [eC]; exact r2.1, ?_, ?_, ?_⟩, ⟨?_, ?_, ?_⟩, ⟨?_, ?_, ?_, ?_⟩, q_po_f (fun o o1 o2 => (cl o (by omega)).trans (hm o (by omega))) hC.2.2.2⟩, ⟨q_B_ext c0 w1 w2 w3 w4, ⟨c5, c6, c7⟩, ⟨c8, w5, w6⟩, ⟨c14, w7, w8, w9⟩, c16, c10⟩, q_Ri_f (fun o o1 o2 => (cl o (by omega)).trans (hm o (by omega))) ((u2 _ (by omega) (by omega)).trans (hm _ (by omega))) ((u2 _ (by omega) (by omega)).trans (hm _ (by omega))) h0, q_Ri_f (fun o o1 o2 => (cl o (by omega)).trans (hm o (by omega))) ((u2 _ (by omega) (by omega)).trans (hm _ (by omega))) ((u2 _ (by omega) (by omega)).trans (hm _ (by omega))) h1⟩
  · rw [cl 2 (by omega)]; have a2 : σ1 2 5 = σ (b + 1) 5 := a2; rw [a2]; exact r2.2.1
  · rw [cl 2 (by omega)]; have a3 : σ1 2 6 = σ (b + 1) 6 := a3; rw [a3]; exact r2.2.2.1
  · rw [cl 2 (by omega)]; have a4 : σ1 2 7 = σ (b + 1) 7 := a4; rw [a4]; exact r2.2.2.2
  · rw [cl 7 (by omega)]; have a9 : σ1 7 2 = σ (b + 6) 2 := a9; rw [a9]; exact r3.1
  · rw [cl (7 + 1) (by omega)]; have a10 : σ1 (7 + 1) = σ (b + 7) := a10; rw [a10]; exact r3.2.1
  · rw [cl (7 + 2) (by omega)]; have a11 : σ1 (7 + 2) = σ (b + 8) := a11; rw [a11]; exact r3.2.2
  · rw [cl 10 (by omega)]; have a12 : σ1 10 3 = σ (b + 9) 3 := a12; rw [a12]; exact r4.1
  · rw [cl (10 + 1) (by omega)]; have a13 : σ1 (10 + 1) = σ (b + 10) := a13; rw [a13]; exact r4.2.1
  · rw [cl (10 + 2) (by omega)]; have a14 : σ1 (10 + 2) = σ (b + 11) := a14; rw [a14]; exact r4.2.2.1
  · rw [cl (10 + 3) (by omega)]; have a15 : σ1 (10 + 3) = σ (b + 12) := a15; rw [a15]; exact r4.2.2.2
theorem p_restore (hg : mj_rg σ) (hR : q_Rel σ g) (hK : ∀ v σ1, q_Two (n + 10) i_M_restore g [iV i] (iV v) σ1 → K (some (iV v)) σ1) : mj_Ok (n + 10) i_S_restore [rV 11 0 0, iV i] σ K := by
  obtain ⟨hG, hC, hX, h0, h1⟩ := id hR
  refine c_S_restore (fun hn => hK _ σ (fun K' hK' => c_M_restore hG (fun _ => hK' σ hR) (fun q => absurd q hn) (fun q => absurd q hn))) (fun hi z0 z1 => hK _ σ (fun K' hK' => ?_)) (fun hi z0 z1 σ1 a0 a1 a2 => hK _ σ1 (fun K' hK' => ?_))
  · have e : σ (g + 24) i = 0 := by
      by_cases e : i = 0
      · rw [e, h0.1]; exact z0 e
      · have e : i = 1 := by omega
        rw [e, h1.1]; exact z1 e
    exact c_M_restore hG (fun q => absurd hi q) (fun _ _ => hK' σ hR) (fun _ q => absurd e q)
  · have h24 : σ1 (g + 24) = σ (g + 24) := a2 _ (by omega)
    refine c_M_restore hG (fun q => absurd hi q) (fun _ q => ?_) (fun _ _ σ2 u1 u2 u3 => ?_)
    · rw [h24] at q
      by_cases e : i = 0
      · rw [e, h0.1] at q; exact absurd q (z0 e)
      · have e : i = 1 := by omega
        rw [e, h1.1] at q; exact absurd q (z1 e)
    · by_cases e : i = 0
      · exact hK' σ2 (q_rst (i := i) hg hR (Or.inl rfl) (by rw [e]; exact h0) (z0 e) (a0 e) a2 u1 u2 u3)
      · have e : i = 1 := by omega
        exact hK' σ2 (q_rst (i := i) hg hR (Or.inr rfl) (by rw [e]; exact h1) (z1 e) (a1 e) a2 u1 u2 u3)
end P4
