/-! class and model hold the same -/
def q_ro (r : Int) : Nat := if r = 0 then 5 else if r = 1 then 2 else if r = 2 then 3 else if r = 3 then 4 else if r = 4 then 7 else if r = 5 then 8 else if r = 6 then 10 else if r = 7 then 11 else 12
def q_cnC (σ : mj_W) (b : Nat) (j : Int) : Int := if j = 0 then σ (b + 1) 4 else if j = 1 then σ (b + 1) 5 else if j = 2 then σ (b + 1) 6 else if j = 3 then σ (b + 1) 7 else if j = 4 then σ (b + 6) 2 else if j = 5 then σ (b + 9) 3 else σ (b + q_ro ((j - 6) / 8)) ((j - 6) % 8)
theorem q_ro_in (r : Int) : 2 ≤ q_ro r ∧ q_ro r ≤ 12 := by
  unfold q_ro
  (repeat' split) <;> omega
/-- the model's things in τ are the class's in σ -/
def q_Rx (τ σ : mj_W) (g : Nat) : Prop := q_BM τ g = q_BC σ 2 ∧ (τ g 5 = σ 2 5 ∧ τ g 6 = σ 2 6 ∧ τ g 7 = σ 2 7) ∧ (τ g 8 = σ 7 2 ∧ τ (g + 5) = σ 8 ∧ τ (g + 6) = σ 9) ∧ (τ g 14 = σ 10 3 ∧ τ (g + 7) = σ 11 ∧ τ (g + 8) = σ 12 ∧ τ (g + 9) = σ 13) ∧ (τ g 16 = σ 41 1 ∧ τ (g + 10) = σ (41 + 1))
def q_Ri (σ : mj_W) (g b : Nat) (i : Int) : Prop := σ (g + 24) i = σ b 3 ∧ q_lo σ (b + 1) ∧ q_vo σ (b + 6) ∧ q_so σ (b + 9) ∧ (σ b 3 ≠ 0 → ∀ j, 0 ≤ j → j < 78 → σ (g + 23) (90 * i + j) = q_cnC σ b j)
def q_Rel (σ : mj_W) (g : Nat) : Prop := g = 58 ∧ q_C σ ∧ q_Rx σ σ g ∧ q_Ri σ g 15 0 ∧ q_Ri σ g 28 1
theorem q_BC_f {σ σ' : mj_W} {b : Nat} (h : ∀ o, b ≤ o → o ≤ b + 4 → σ' o = σ o) : q_BC σ' b = q_BC σ b := by
  show (_, _, _, _, _) = (_, _, _, _, _)
  rw [h b (by omega) (by omega), h (b + 1) (by omega) (by omega), h (b + 2) (by omega) (by omega), h (b + 3) (by omega) (by omega), h (b + 4) (by omega) (by omega)]
theorem q_lo_f {σ σ' : mj_W} {b : Nat} (h : ∀ o, b ≤ o → o ≤ b + 4 → σ' o = σ o) (hl : q_lo σ b) : q_lo σ' b := by
  unfold q_lo
  rw [q_BC_f h, h b (by omega) (by omega)]
  exact hl
theorem q_vo_f {σ σ' : mj_W} {b : Nat} (h : ∀ o, b ≤ o → o ≤ b + 2 → σ' o = σ o) (hl : q_vo σ b) : q_vo σ' b := by
  unfold q_vo
  rw [h b (by omega) (by omega), h (b + 1) (by omega) (by omega), h (b + 2) (by omega) (by omega)]
  exact hl
theorem q_so_f {σ σ' : mj_W} {b : Nat} (h : ∀ o, b ≤ o → o ≤ b + 3 → σ' o = σ o) (hl : q_so σ b) : q_so σ' b := by
  unfold q_so
  rw [h b (by omega) (by omega), h (b + 1) (by omega) (by omega), h (b + 2) (by omega) (by omega), h (b + 3) (by omega) (by omega)]
  exact hl
theorem q_po_f {σ σ' : mj_W} (h : ∀ o, 41 ≤ o → o ≤ 42 → σ' o = σ o) (hl : q_po σ) : q_po σ' := by
  unfold q_po
  rw [h 41 (by omega) (by omega), h (41 + 1) (by omega) (by omega)]
  exact hl
theorem q_C_f {σ σ' : mj_W} (h : ∀ o, 2 ≤ o → o ≤ 42 → σ' o = σ o) (hC : q_C σ) : q_C σ' := ⟨q_lo_f (fun o o1 o2 => h o (by omega) (by omega)) hC.1, q_vo_f (fun o o1 o2 => h o (by omega) (by omega)) hC.2.1, q_so_f (fun o o1 o2 => h o (by omega) (by omega)) hC.2.2.1, q_po_f (fun o o1 o2 => h o (by omega) (by omega)) hC.2.2.2⟩
theorem q_Ri_f {σ σ' : mj_W} {g b : Nat} {i : Int} (h : ∀ o, b ≤ o → o ≤ b + 12 → σ' o = σ o) (h23 : σ' (g + 23) = σ (g + 23)) (h24 : σ' (g + 24) = σ (g + 24)) (hR : q_Ri σ g b i) : q_Ri σ' g b i := by
  obtain ⟨r1, r2, r3, r4, r5⟩ := hR
  refine ⟨by rw [h24, h b (by omega) (by omega)]; exact r1, q_lo_f (fun o o1 o2 => h o (by omega) (by omega)) r2, q_vo_f (fun o o1 o2 => h o (by omega) (by omega)) r3, q_so_f (fun o o1 o2 => h o (by omega) (by omega)) r4, fun hk j j0 j1 => ?_⟩
  rw [h b (by omega) (by omega)] at hk
  rw [h23, r5 hk j j0 j1]
  unfold q_cnC
  have := q_ro_in ((j - 6) / 8)
  rw [h (b + 1) (by omega) (by omega), h (b + 6) (by omega) (by omega), h (b + 9) (by omega) (by omega), h (b + q_ro ((j - 6) / 8)) (by omega) (by omega)]
/-- the class's things elsewhere -/
theorem q_Rx_c {τ σ σ' : mj_W} {g : Nat} (h : ∀ o, 2 ≤ o → o ≤ 42 → σ' o = σ o) (hR : q_Rx τ σ g) : q_Rx τ σ' g := by
  unfold q_Rx
  rw [q_BC_f (b := 2) (fun o o1 o2 => h o (by omega) (by omega)), h 2 (by omega) (by omega), h 7 (by omega) (by omega), h 8 (by omega) (by omega), h 9 (by omega) (by omega), h 10 (by omega) (by omega), h 11 (by omega) (by omega), h 12 (by omega) (by omega), h 13 (by omega) (by omega), h 41 (by omega) (by omega), h (41 + 1) (by omega) (by omega)]
  exact hR
/-- the model's things elsewhere -/
theorem q_Rx_m {τ τ' σ : mj_W} {g : Nat} (hB : q_BM τ' g = q_BM τ g) (hf : ∀ f, 5 ≤ f → f ≤ 16 → τ' g f = τ g f) (ho : ∀ o, g + 4 < o → o < g + 11 → τ' o = τ o) (hR : q_Rx τ σ g) : q_Rx τ' σ g := by
  unfold q_Rx
  rw [hB, hf 5 (by omega) (by omega), hf 6 (by omega) (by omega), hf 7 (by omega) (by omega), hf 8 (by omega) (by omega), hf 14 (by omega) (by omega), hf 16 (by omega) (by omega), ho (g + 5) (by omega) (by omega), ho (g + 6) (by omega) (by omega), ho (g + 7) (by omega) (by omega), ho (g + 8) (by omega) (by omega), ho (g + 9) (by omega) (by omega), ho (g + 10) (by omega) (by omega)]
  exact hR
theorem q_BM_f {σ σ' : mj_W} {g : Nat} (h0 : σ' g 0 = σ g 0) (h : ∀ o, g + 1 ≤ o → o ≤ g + 4 → σ' o = σ o) : q_BM σ' g = q_BM σ g := by
  unfold q_BM
  rw [h0, h (g + 1) (by omega) (by omega), h (g + 2) (by omega) (by omega), h (g + 3) (by omega) (by omega), h (g + 4) (by omega) (by omega)]
/-- asking the class keeps it all -/
theorem q_Rel_c {σ σ1 : mj_W} {g : Nat} (h : q_Rel σ g) (hF : q_Fc σ σ1) : q_Rel σ1 g := by
  obtain ⟨hG, hC, hX, h0, h1⟩ := h
  refine ⟨hG, q_C_f (fun o o1 o2 => hF o (by omega)) hC, q_Rx_c (fun o o1 o2 => hF o (by omega)) (q_Rx_m (q_BM_f (by rw [hF g (by omega)]) (fun o o1 o2 => hF o (by omega))) (fun f _ _ => by rw [hF g (by omega)]) (fun o o1 o2 => hF o (by omega)) hX), q_Ri_f (fun o o1 o2 => hF o (by omega)) (hF _ (by omega)) (hF _ (by omega)) h0, q_Ri_f (fun o o1 o2 => hF o (by omega)) (hF _ (by omega)) (hF _ (by omega)) h1⟩
theorem q_Rel_x {σ σ1 : mj_W} {g : Nat} (h : q_Rel σ g) (hF : q_Fc σ σ1) : q_Rx σ1 σ g := by
  obtain ⟨hG, hC, hX, h0, h1⟩ := h
  exact q_Rx_m (q_BM_f (by rw [hF g (by omega)]) (fun o o1 o2 => hF o (by omega))) (fun f _ _ => by rw [hF g (by omega)]) (fun o o1 o2 => hF o (by omega)) hX
/-- asking the model keeps it all -/
theorem q_Rel_m {σ σ1 : mj_W} {g : Nat} (h : q_Rel σ g) (hF : q_Fm σ σ1 g) : q_Rel σ1 g := by
  obtain ⟨hG, hC, hX, h0, h1⟩ := h
  obtain ⟨⟨f1, f2⟩, f3⟩ := hF
  refine ⟨hG, q_C_f (fun o o1 o2 => f1 o (by omega)) hC, q_Rx_c (fun o o1 o2 => f1 o (by omega)) (q_Rx_m f3 f2 (fun o o1 o2 => f1 o (by omega)) hX), q_Ri_f (fun o o1 o2 => f1 o (by omega)) (f1 _ (by omega)) (f1 _ (by omega)) h0, q_Ri_f (fun o o1 o2 => f1 o (by omega)) (f1 _ (by omega)) (f1 _ (by omega)) h1⟩
theorem q_Rel_mB {σ : mj_W} {g : Nat} (h : q_Rel σ g) : q_mB σ g := by
  obtain ⟨hG, hC, ⟨b, ⟨b5, b6, b7⟩, -⟩, -⟩ := h
  unfold q_mB
  rw [b, b5, b6, b7]
  exact hC.1
theorem q_Rel_vM {σ : mj_W} {g : Nat} (h : q_Rel σ g) : q_vM σ g := by
  obtain ⟨hG, hC, ⟨-, -, ⟨v1, v2, v3⟩, -⟩, -⟩ := h
  unfold q_vM
  rw [v1, v2, v3]
  exact hC.2.1
theorem q_Rel_sM {σ : mj_W} {g : Nat} (h : q_Rel σ g) : q_sM σ g := by
  obtain ⟨hG, hC, ⟨-, -, -, ⟨v1, v2, v3, v4⟩, -⟩, -⟩ := h
  unfold q_sM
  rw [v1, v2, v3, v4]
  exact hC.2.2.1
theorem q_Rel_pM {σ : mj_W} {g : Nat} (h : q_Rel σ g) : q_pM σ g := by
  obtain ⟨hG, hC, ⟨-, -, -, -, v1, v2⟩, -⟩ := h
  unfold q_pM
  rw [v1, v2]
  exact hC.2.2.2
theorem q_Rx_E {τ σ : mj_W} {g : Nat} (h : q_Rx τ σ g) : q_EM τ g = ((σ 2 5, σ 2 6), σ 8, σ 9, σ 10 3, σ 11, σ 12, σ 13) := by
  obtain ⟨-, ⟨b5, b6, -⟩, ⟨-, v2, v3⟩, ⟨s1, s2, s3, s4⟩, -⟩ := h
  unfold q_EM
  rw [b5, b6, v2, v3, s1, s2, s3, s4]
/-- days of the pad, as a list -/
theorem q_days (sg : Int → Int) {L : Int} (hL : 0 ≤ L) : ∃ l, q_fault sg L = -6 → q_rep sg L 0 l := by
  by_cases c : q_fault sg L = -6
  · obtain ⟨l, hl⟩ := q_rep_ex sg L L.toNat 0 (by omega) (by omega) c
    exact ⟨l, fun _ => hl⟩
  · exact ⟨[], fun q => absurd q c⟩
/-- how a call of the law goes: the class answers v, then the model answers v too, and all is as before -/
def q_Two (N mi : Nat) (g : Nat) (av : List mj_V) (v : mj_V) (σ1 : mj_W) : Prop := ∀ K' : Option mj_V → mj_W → Prop, (∀ σ2, q_Rel σ2 g → K' (some v) σ2) → mj_Ok N mi (rV 12 0 g :: av) σ1 K'
section P1
variable {n g : Nat} {σ : mj_W} {K : Option mj_V → mj_W → Prop} {x y p w i j c d s m k : Int}
theorem p_judge (hR : q_Rel σ g) (hK : ∀ v σ1, q_Two (n + 10) i_M_judge g [iV w] (iV v) σ1 → K (some (iV v)) σ1) : mj_Ok (n + 10) i_S_judge [rV 11 0 0, iV w] σ K := by
  obtain ⟨l, hl⟩ := q_days (σ (41 + 1)) hR.2.1.2.2.2.1.1
  refine c_S_judge (l := l) hR.2.1 hl (fun r σ1 hF hr => hK r σ1 (fun K' hK' => ?_))
  have hR1 := q_Rel_c hR hF
  obtain ⟨xB, ⟨x5, x6, x7⟩, -, -, x16, x10⟩ := q_Rel_x hR hF
  refine c_M_judge (l := l) hR.1 (q_Rel_mB hR1) (q_Rel_pM hR1) (by rw [x16, x10]; exact hl) (fun r2 σ2 hF2 hr2 => ?_)
  have e : r2 = r := by
    rw [hr2]
    unfold q_RM
    rw [xB, x7, x16, x10]
    exact hr.symm
  rw [e]
  exact hK' σ2 (q_Rel_m hR1 hF2)
theorem p_behind (hR : q_Rel σ g) (hK : ∀ v σ1, q_Two (n + 10) i_M_behind g [iV p, iV w] (iV v) σ1 → K (some (iV v)) σ1) : mj_Ok (n + 10) i_S_behind [rV 11 0 0, iV p, iV w] σ K := by
  obtain ⟨l, hl⟩ := q_days (σ (41 + 1)) hR.2.1.2.2.2.1.1
  refine c_S_behind (l := l) hR.2.1 hl (fun r σ1 hF hr => hK r σ1 (fun K' hK' => ?_))
  have hR1 := q_Rel_c hR hF
  obtain ⟨xB, ⟨x5, x6, x7⟩, -, -, x16, x10⟩ := q_Rel_x hR hF
  refine c_M_behind (l := l) hR.1 (q_Rel_mB hR1) (q_Rel_pM hR1) (by rw [x16, x10]; exact hl) (fun r2 σ2 hF2 hr2 => ?_)
  have e : r2 = r := by
    rw [hr2]
    unfold q_RM
    rw [xB, x7, x16, x10]
    exact hr.symm
  rw [e]
  exact hK' σ2 (q_Rel_m hR1 hF2)
theorem p_side (hR : q_Rel σ g) (hK : ∀ v σ1, q_Two (n + 10) i_M_side g [iV x, iV y] (iV v) σ1 → K (some (iV v)) σ1) : mj_Ok (n + 10) i_S_side [rV 11 0 0, iV x, iV y] σ K := by
  obtain ⟨l, hl⟩ := q_days (σ (41 + 1)) hR.2.1.2.2.2.1.1
  refine c_S_side (l := l) hR.2.1 hl (fun r σ1 hF hr => hK r σ1 (fun K' hK' => ?_))
  have hR1 := q_Rel_c hR hF
  obtain ⟨xB, ⟨x5, x6, x7⟩, -, -, x16, x10⟩ := q_Rel_x hR hF
  refine c_M_side (l := l) hR.1 (q_Rel_mB hR1) (q_Rel_pM hR1) (by rw [x16, x10]; exact hl) (fun r2 σ2 hF2 hr2 => ?_)
  have e : r2 = r := by
    rw [hr2]
    unfold q_RM
    rw [xB, x5, x6, x7, x16, x10]
    exact hr.symm
  rw [e]
  exact hK' σ2 (q_Rel_m hR1 hF2)
theorem p_south (hR : q_Rel σ g) (hK : ∀ v σ1, q_Two (n + 10) i_M_south g [iV w] (iV v) σ1 → K (some (iV v)) σ1) : mj_Ok (n + 10) i_S_south [rV 11 0 0, iV w] σ K := by
  obtain ⟨l, hl⟩ := q_days (σ (41 + 1)) hR.2.1.2.2.2.1.1
  refine c_S_south (l := l) hR.2.1 hl (fun r σ1 hF hr => hK r σ1 (fun K' hK' => ?_))
  have hR1 := q_Rel_c hR hF
  obtain ⟨xB, ⟨x5, x6, x7⟩, -, -, x16, x10⟩ := q_Rel_x hR hF
  refine c_M_south (l := l) hR.1 (q_Rel_mB hR1) (q_Rel_pM hR1) (by rw [x16, x10]; exact hl) (fun r2 σ2 hF2 hr2 => ?_)
  have e : r2 = r := by
    rw [hr2]
    unfold q_RM
    rw [xB, x5, x6, x7, x16, x10]
    exact hr.symm
  rw [e]
  exact hK' σ2 (q_Rel_m hR1 hF2)
theorem p_lies (hR : q_Rel σ g) (hK : ∀ v σ1, q_Two (n + 10) i_M_lies g [iV w] (iV v) σ1 → K (some (iV v)) σ1) : mj_Ok (n + 10) i_S_lies [rV 11 0 0, iV w] σ K := by
  obtain ⟨l, hl⟩ := q_days (σ (41 + 1)) hR.2.1.2.2.2.1.1
  refine c_S_lies (l := l) hR.2.1 hl (fun r σ1 hF hr => hK r σ1 (fun K' hK' => ?_))
  have hR1 := q_Rel_c hR hF
  obtain ⟨xB, ⟨x5, x6, x7⟩, ⟨v1, v2, v3⟩, -, x16, x10⟩ := q_Rel_x hR hF
  refine c_M_lies (l := l) hR.1 (q_Rel_mB hR1) (q_Rel_pM hR1) (q_Rel_vM hR1) (by rw [x16, x10]; exact hl) (fun r2 σ2 hF2 hr2 => ?_)
  have e : r2 = r := by
    rw [hr2]
    unfold q_RM
    rw [xB, x5, x6, x7, x16, x10, v1, v2, v3]
    exact hr.symm
  rw [e]
  exact hK' σ2 (q_Rel_m hR1 hF2)
theorem p_sway (hR : q_Rel σ g) (hK : ∀ v σ1, q_Two (n + 10) i_M_sway g [iV x, iV y, iV s, iV w] (iV v) σ1 → K (some (iV v)) σ1) : mj_Ok (n + 10) i_S_sway [rV 11 0 0, iV x, iV y, iV s, iV w] σ K := by
  refine c_S_sway hR.2.1 (fun r σ1 hF hr => hK r σ1 (fun K' hK' => ?_))
  have hR1 := q_Rel_c hR hF
  obtain ⟨xB, ⟨x5, x6, x7⟩, -⟩ := q_Rel_x hR hF
  refine c_M_sway (q_Rel_mB hR1) (fun r2 σ2 hF2 hr2 => ?_)
  rw [xB, x5, x6, ← hr] at hr2
  rw [hr2]
  exact hK' σ2 (q_Rel_m hR1 hF2)
theorem p_fair (hR : q_Rel σ g) (hK : ∀ v σ1, q_Two (n + 10) i_M_fair g [iV w] (iV v) σ1 → K (some (iV v)) σ1) : mj_Ok (n + 10) i_S_fair [rV 11 0 0, iV w] σ K := by
  refine c_S_fair hR.2.1 (fun hn => hK _ σ (fun K' hK' => c_M_fair (q_Rel_mB hR) (fun _ => hK' σ hR) (fun q => absurd q hn))) (fun hw σ1 hF => hK _ σ1 (fun K' hK' => ?_))
  have hR1 := q_Rel_c hR hF
  obtain ⟨xB, ⟨x5, x6, x7⟩, -⟩ := q_Rel_x hR hF
  refine c_M_fair (q_Rel_mB hR1) (fun q => absurd hw q) (fun _ r2 σ2 hF2 hr2 => ?_)
  rw [xB, x5, x6] at hr2
  rw [hr2]
  exact hK' σ2 (q_Rel_m hR1 hF2)
theorem p_cedes (hR : q_Rel σ g) (hK : ∀ v σ1, q_Two (n + 10) i_M_cedes g [iV p] (iV v) σ1 → K (some (iV v)) σ1) : mj_Ok (n + 10) i_S_cedes [rV 11 0 0, iV p] σ K := by
  have hB := hR.2.2.1.1
  have b0 : σ g 0 = σ 2 4 := congrArg (fun B : q_B => B.1) hB
  have b1 : σ (g + 1) = σ 6 := congrArg (fun B : q_B => B.2.1) hB
  refine c_S_cedes hR.2.1 (fun hn => hK _ σ (fun K' hK' => c_M_cedes (q_Rel_mB hR) (fun _ => hK' σ hR) (fun q => absurd (by rw [b0, b1]; exact hn) q))) (fun hn r σ1 hF hr => hK r σ1 (fun K' hK' => ?_))
  have hR1 := q_Rel_c hR hF
  obtain ⟨xB, ⟨x5, x6, x7⟩, -⟩ := q_Rel_x hR hF
  have c0 : σ1 g 0 = σ 2 4 := congrArg (fun B : q_B => B.1) xB
  have c1 : σ1 (g + 1) = σ 6 := congrArg (fun B : q_B => B.2.1) xB
  have c2 : σ1 (g + 2) = σ 3 := congrArg (fun B : q_B => B.2.2.1) xB
  have c3 : σ1 (g + 3) = σ 4 := congrArg (fun B : q_B => B.2.2.2.1) xB
  have c4 : σ1 (g + 4) = σ 5 := congrArg (fun B : q_B => B.2.2.2.2) xB
  refine c_M_cedes (q_Rel_mB hR1) (fun q => absurd (by rw [c0, c1] at q; exact q) hn) (fun _ r2 σ2 hF2 hr2 => ?_)
  have e : r2 = r := by
    rw [hr2, xB, x5, x6, c0, c1, c2, c3, c4]
    exact hr.symm
  rw [e]
  exact hK' σ2 (q_Rel_m hR1 hF2)
theorem p_orders (hR : q_Rel σ g) (hK : ∀ v σ1, q_Two (n + 10) i_M_orders g [iV w] (iV v) σ1 → K (some (iV v)) σ1) : mj_Ok (n + 10) i_S_orders [rV 11 0 0, iV w] σ K := by
  refine c_S_orders hR.2.1 (fun r σ1 hF hr => hK r σ1 (fun K' hK' => ?_))
  have hR1 := q_Rel_c hR hF
  obtain ⟨xB, ⟨x5, x6, x7⟩, ⟨v1, v2, v3⟩, -⟩ := q_Rel_x hR hF
  refine c_M_orders (q_Rel_mB hR1) (q_Rel_vM hR1) (fun r2 σ2 hF2 hr2 => ?_)
  rw [xB, x5, x6, v1, v2, v3, ← hr] at hr2
  rw [hr2]
  exact hK' σ2 (q_Rel_m hR1 hF2)
theorem p_moved (hR : q_Rel σ g) (hK : ∀ v σ1, q_Two (n + 10) i_M_moved g [iV w] (iV v) σ1 → K (some (iV v)) σ1) : mj_Ok (n + 10) i_S_moved [rV 11 0 0, iV w] σ K := by
  refine c_S_moved hR.2.1 (fun r σ1 hF hr => hK r σ1 (fun K' hK' => ?_))
  have hR1 := q_Rel_c hR hF
  have hX := q_Rel_x hR hF
  refine c_M_moved (q_Rel_mB hR1) (q_Rel_vM hR1) (q_Rel_sM hR1) (fun r2 σ2 hF2 hr2 => ?_)
  rw [hX.1, q_Rx_E hX, ← hr] at hr2
  rw [hr2]
  exact hK' σ2 (q_Rel_m hR1 hF2)
theorem p_ask (hR : q_Rel σ g) (hK : ∀ v σ1, q_Two (n + 10) i_M_ask g [iV w] (iV v) σ1 → K (some (iV v)) σ1) : mj_Ok (n + 10) i_S_ask [rV 11 0 0, iV w] σ K := by
  refine c_S_ask hR.2.1 (fun r σ1 hF hr => hK r σ1 (fun K' hK' => ?_))
  have hR1 := q_Rel_c hR hF
  have hX := q_Rel_x hR hF
  refine c_M_ask (q_Rel_mB hR1) (q_Rel_vM hR1) (q_Rel_sM hR1) (fun r2 σ2 hF2 hr2 => ?_)
  rw [hX.1, q_Rx_E hX, hX.2.2.1.1, ← hr] at hr2
  rw [hr2]
  exact hK' σ2 (q_Rel_m hR1 hF2)
theorem p_crowns (hR : q_Rel σ g) (hK : ∀ v σ1, q_Two (n + 10) i_M_crowns g [iV w] (iV v) σ1 → K (some (iV v)) σ1) : mj_Ok (n + 10) i_S_crowns [rV 11 0 0, iV w] σ K := by
  refine c_S_crowns hR.2.1 (fun hn => hK _ σ (fun K' hK' => c_M_crowns (q_Rel_mB hR) (fun _ => hK' σ hR) (fun q => absurd q hn))) (fun hw σ1 hF => hK _ σ1 (fun K' hK' => ?_))
  have hR1 := q_Rel_c hR hF
  obtain ⟨xB, ⟨x5, x6, x7⟩, -⟩ := q_Rel_x hR hF
  refine c_M_crowns (q_Rel_mB hR1) (fun q => absurd hw q) (fun _ r2 σ2 hF2 hr2 => ?_)
  rw [xB, x5, x6] at hr2
  rw [hr2]
  exact hK' σ2 (q_Rel_m hR1 hF2)
theorem p_goat (hR : q_Rel σ g) (hK : ∀ v σ1, q_Two (n + 10) i_M_goat g [iV x, iV y, iV k, iV s, iV p] (jV v) σ1 → K (some (jV v)) σ1) : mj_Ok (n + 10) i_S_goat [rV 11 0 0, iV x, iV y, iV k, iV s, iV p] σ K := by
  refine c_S_goat hR.2.1 (fun hn => hK _ σ (fun K' hK' => c_M_goat hR.1 (q_Rel_mB hR) (fun _ => hK' σ hR) (fun q => absurd q hn))) (fun hw r σ1 hF hr => hK _ σ1 (fun K' hK' => ?_))
  have hR1 := q_Rel_c hR hF
  obtain ⟨xB, ⟨x5, x6, x7⟩, -⟩ := q_Rel_x hR hF
  refine c_M_goat hR.1 (q_Rel_mB hR1) (fun q => absurd hw q) (fun _ r2 σ2 hF2 hr2 => ?_)
  rw [xB, x5, x6, ← hr] at hr2
  rw [hr2]
  exact hK' σ2 (q_Rel_m hR1 hF2)
theorem p_year {seed : Int} (hR : q_Rel σ g) (hK : ∀ v σ1, q_Two (n + 10) i_M_year g [iV seed, iV m, iV w] (iV v) σ1 → K (some (iV v)) σ1) : mj_Ok (n + 10) i_S_year [rV 11 0 0, iV seed, iV m, iV w] σ K := by
  refine c_S_year hR.2.1 (fun hn => hK _ σ (fun K' hK' => c_M_year hR.1 (q_Rel_mB hR) (fun _ => hK' σ hR) (fun q => absurd q hn))) (fun hw r σ1 hF hr => hK _ σ1 (fun K' hK' => ?_))
  have hR1 := q_Rel_c hR hF
  obtain ⟨xB, ⟨x5, x6, x7⟩, -⟩ := q_Rel_x hR hF
  refine c_M_year hR.1 (q_Rel_mB hR1) (fun q => absurd hw q) (fun _ r2 σ2 hF2 hr2 => ?_)
  have e : r2 = r := by
    rw [hr2]
    unfold q_YM
    rw [xB, x5, x6, x7]
    exact hr.symm
  rw [e]
  exact hK' σ2 (q_Rel_m hR1 hF2)
theorem p_told (hR : q_Rel σ g) (hK : ∀ v σ1, q_Two (n + 10) i_M_told g [iV w] (iV v) σ1 → K (some (iV v)) σ1) : mj_Ok (n + 10) i_S_told [rV 11 0 0, iV w] σ K := by
  refine c_S_told hR.2.1 (fun r hr => hK r σ (fun K' hK' => ?_))
  obtain ⟨xB, ⟨x5, x6, x7⟩, ⟨v1, v2, v3⟩, ⟨s1, -⟩, x16, x10⟩ := hR.2.2.1
  have c0 : σ g 0 = σ 2 4 := congrArg (fun B : q_B => B.1) xB
  have c1 : σ (g + 1) = σ 6 := congrArg (fun B : q_B => B.2.1) xB
  have c2 : σ (g + 2) = σ 3 := congrArg (fun B : q_B => B.2.2.1) xB
  have c3 : σ (g + 3) = σ 4 := congrArg (fun B : q_B => B.2.2.2.1) xB
  have c4 : σ (g + 4) = σ 5 := congrArg (fun B : q_B => B.2.2.2.2) xB
  refine c_M_told (q_Rel_mB hR) (q_Rel_vM hR) (fun r2 hr2 => ?_)
  rw [c0, c1, c2, c3, c4, x5, x6, x7, v1, v2, v3, s1, x16, ← hr] at hr2
  rw [hr2]
  exact hK' σ hR
theorem p_fault (hR : q_Rel σ g) (hK : ∀ v σ1, q_Two (n + 10) i_M_fault g [] (iV v) σ1 → K (some (iV v)) σ1) : mj_Ok (n + 10) i_S_fault [rV 11 0 0] σ K := by
  refine c_S_fault hR.2.1 (fun r hr => hK r σ (fun K' hK' => ?_))
  have hP := q_Rel_pM hR
  obtain ⟨-, -, -, -, x16, x10⟩ := hR.2.2.1
  refine c_M_fault hP.1 hP.2 (fun r2 σ2 hr2 s1 _ => ?_)
  have e : r2 = r := by
    rw [hr2, x16, x10]
    exact hr.symm
  rw [e]
  refine hK' σ2 (q_Rel_m hR ⟨⟨fun o ho => s1.2 o (by omega) (by omega) (by omega) (by omega) (by omega), fun f f1 f2 => s1.1 f (by omega)⟩, q_BM_f (s1.1 0 (by omega)) (fun o o1 o2 => s1.2 o (by omega) (by omega) (by omega) (by omega) (by omega))⟩)
end P1
