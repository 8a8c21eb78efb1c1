/-! calls that change something, in pairs -/
theorem q_Rel_b {σ σ2 : mj_W} {g : Nat} (hR : q_Rel σ g) (hW : q_wB (q_BC σ2 2)) (hB : q_BM σ2 g = q_BC σ2 2) (h2 : ∀ f, f ≠ 4 → σ2 2 f = σ 2 f) (hg : ∀ f, 5 ≤ f → f ≤ 16 → σ2 g f = σ g f) (ho : ∀ o, 7 ≤ o → o ≤ 42 → σ2 o = σ o) (hm : ∀ o, g + 4 < o → o < g + 11 → σ2 o = σ o) (h23 : σ2 (g + 23) = σ (g + 23)) (h24 : σ2 (g + 24) = σ (g + 24)) : q_Rel σ2 g := by
  obtain ⟨hG, hC, ⟨xB, ⟨x5, x6, x7⟩, ⟨v1, v2, v3⟩, ⟨s1, s2, s3, s4⟩, x16, x10⟩, h0, h1⟩ := hR
  refine ⟨hG, ⟨⟨hW, ?_, ?_, ?_⟩, q_vo_f (fun o o1 o2 => ho o (by omega) (by omega)) hC.2.1, q_so_f (fun o o1 o2 => ho o (by omega) (by omega)) hC.2.2.1, q_po_f (fun o o1 o2 => ho o (by omega) (by omega)) hC.2.2.2⟩, ⟨hB, ⟨?_, ?_, ?_⟩, ⟨?_, ?_, ?_⟩, ⟨?_, ?_, ?_, ?_⟩, ?_, ?_⟩, q_Ri_f (fun o o1 o2 => ho o (by omega) (by omega)) h23 h24 h0, q_Ri_f (fun o o1 o2 => ho o (by omega) (by omega)) h23 h24 h1⟩
  · rw [h2 5 (by omega)]; exact hC.1.2.1
  · rw [h2 6 (by omega)]; exact hC.1.2.2.1
  · rw [h2 7 (by omega)]; exact hC.1.2.2.2
  · rw [hg 5 (by omega) (by omega), h2 5 (by omega)]; exact x5
  · rw [hg 6 (by omega) (by omega), h2 6 (by omega)]; exact x6
  · rw [hg 7 (by omega) (by omega), h2 7 (by omega)]; exact x7
  · rw [hg 8 (by omega) (by omega), ho 7 (by omega) (by omega)]; exact v1
  · rw [hm (g + 5) (by omega) (by omega), ho 8 (by omega) (by omega)]; exact v2
  · rw [hm (g + 6) (by omega) (by omega), ho 9 (by omega) (by omega)]; exact v3
  · rw [hg 14 (by omega) (by omega), ho 10 (by omega) (by omega)]; exact s1
  · rw [hm (g + 7) (by omega) (by omega), ho 11 (by omega) (by omega)]; exact s2
  · rw [hm (g + 8) (by omega) (by omega), ho 12 (by omega) (by omega)]; exact s3
  · rw [hm (g + 9) (by omega) (by omega), ho 13 (by omega) (by omega)]; exact s4
  · rw [hg 16 (by omega) (by omega), ho 41 (by omega) (by omega)]; exact x16
  · rw [hm (g + 10) (by omega) (by omega), ho (41 + 1) (by omega) (by omega)]; exact x10
/-- what lies beside the border changed, in class and model alike -/
theorem q_Rel_o {σ σ2 : mj_W} {g : Nat} (hR : q_Rel σ g) (ho : ∀ o, 2 ≤ o → o ≤ 6 → σ2 o = σ o) (hi : ∀ o, 15 ≤ o → o ≤ 40 → σ2 o = σ o) (hgB : σ2 g 0 = σ g 0 ∧ σ2 g 5 = σ g 5 ∧ σ2 g 6 = σ g 6 ∧ σ2 g 7 = σ g 7) (hm : ∀ o, g + 1 ≤ o → o ≤ g + 4 → σ2 o = σ o) (h23 : σ2 (g + 23) = σ (g + 23)) (h24 : σ2 (g + 24) = σ (g + 24)) (hv : q_vo σ2 7) (hs : q_so σ2 10) (hp : q_po σ2) (ev : σ2 g 8 = σ2 7 2 ∧ σ2 (g + 5) = σ2 8 ∧ σ2 (g + 6) = σ2 9) (es : σ2 g 14 = σ2 10 3 ∧ σ2 (g + 7) = σ2 11 ∧ σ2 (g + 8) = σ2 12 ∧ σ2 (g + 9) = σ2 13) (ep : σ2 g 16 = σ2 41 1 ∧ σ2 (g + 10) = σ2 (41 + 1)) : q_Rel σ2 g := by
  obtain ⟨hG, hC, ⟨xB, ⟨x5, x6, x7⟩, -⟩, h0, h1⟩ := hR
  refine ⟨hG, ⟨q_lo_f (fun o o1 o2 => ho o (by omega) (by omega)) hC.1, hv, hs, hp⟩, ⟨?_, ⟨?_, ?_, ?_⟩, ev, es, ep⟩, q_Ri_f (fun o o1 o2 => hi o (by omega) (by omega)) h23 h24 h0, q_Ri_f (fun o o1 o2 => hi o (by omega) (by omega)) h23 h24 h1⟩
  · rw [q_BM_f hgB.1 hm, q_BC_f (b := 2) (fun o o1 o2 => ho o (by omega) (by omega))]; exact xB
  · rw [hgB.2.1, ho 2 (by omega) (by omega)]; exact x5
  · rw [hgB.2.2.1, ho 2 (by omega) (by omega)]; exact x6
  · rw [hgB.2.2.2, ho 2 (by omega) (by omega)]; exact x7
theorem q_wB_ins {B : q_B} {p x y pl : Int} (hB : q_wB B) (hn : B.1 ≤ 7) (hp : 0 ≤ p ∧ p ≤ 7) (hpl : 0 ≤ pl ∧ pl ≤ B.1) (hl : q_land x y) (hno : ∀ j, 0 ≤ j → j < B.1 → B.2.1 j ≠ p) (hfr : q_fr B p x y) : q_wB (B.1 + 1, q_ins B.2.1 pl p B.1, q_up B.2.2.1 p x, q_up B.2.2.2.1 p y, q_up B.2.2.2.2 p 0) := by
  obtain ⟨g1, g2, g3, g4, g5, g6, g7⟩ := hB
  obtain ⟨n, row, xs, ys, wk⟩ := B
  dsimp only at *
  have key : ∀ i, i ≤ n → q_ins row pl p n i = if i = pl then p else row (if pl < i then i - 1 else i) := by
    intro i hi
    unfold q_ins
    by_cases e : i = pl
    · rw [if_pos e, if_pos e]
    · rw [if_neg e, if_neg e]
      by_cases e2 : pl < i
      · rw [if_pos ⟨e2, hi⟩, if_pos e2]
      · rw [if_neg (fun q => e2 q.1), if_neg e2]
  have rng : ∀ i, 0 ≤ i → i ≤ n → i ≠ pl → 0 ≤ ((if pl < i then i - 1 else i) : Int) ∧ ((if pl < i then i - 1 else i) : Int) < n := by
    intro i _ _ _
    split <;> omega
  have inj : ∀ i j, i ≠ pl → j ≠ pl → ((if pl < i then i - 1 else i) : Int) = (if pl < j then j - 1 else j) → i = j := by
    intro i j _ _ e
    split at e <;> split at e <;> omega
  refine ⟨?_, ?_, ?_, ?_, ?_, ?_, ?_⟩
  · show 0 ≤ n + 1 ∧ n + 1 ≤ 8
    omega
  · intro i
    show 0 ≤ q_ins row pl p n i ∧ q_ins row pl p n i ≤ 7
    have := g2 i
    have := g2 (i - 1)
    unfold q_ins
    (repeat' split) <;> omega
  · intro i; have := g3 i; show 0 ≤ q_up xs p x i ∧ q_up xs p x i ≤ 40; unfold q_up; split <;> omega
  · intro i; have := g4 i; show 0 ≤ q_up ys p y i ∧ q_up ys p y i ≤ 40; unfold q_up; split <;> omega
  · intro i; have := g5 i; show 0 ≤ q_up wk p 0 i ∧ q_up wk p 0 i ≤ 99; unfold q_up; split <;> omega
  · intro i j a1 a2 a3 a4 a5
    have a2 : i < n + 1 := a2
    have a4 : j < n + 1 := a4
    have a5 : q_ins row pl p n i = q_ins row pl p n j := a5
    rw [key i (by omega), key j (by omega)] at a5
    by_cases e1 : i = pl
    · by_cases e2 : j = pl
      · omega
      · rw [if_pos e1, if_neg e2] at a5
        exact absurd a5.symm (hno _ (rng j a3 (by omega) e2).1 (rng j a3 (by omega) e2).2)
    · by_cases e2 : j = pl
      · rw [if_neg e1, if_pos e2] at a5
        exact absurd a5 (hno _ (rng i a1 (by omega) e1).1 (rng i a1 (by omega) e1).2)
      · rw [if_neg e1, if_neg e2] at a5
        exact inj i j e1 e2 (g6 _ _ (rng i a1 (by omega) e1).1 (rng i a1 (by omega) e1).2 (rng j a3 (by omega) e2).1 (rng j a3 (by omega) e2).2 a5)
  · intro i j a1 a2 a3 a4 a5 a6
    have a2 : i < n + 1 := a2
    have a4 : j < n + 1 := a4
    have a5 : q_up xs p x (q_ins row pl p n i) = q_up xs p x (q_ins row pl p n j) := a5
    have a6 : q_up ys p y (q_ins row pl p n i) = q_up ys p y (q_ins row pl p n j) := a6
    rw [key i (by omega), key j (by omega)] at a5 a6
    by_cases e1 : i = pl
    · by_cases e2 : j = pl
      · omega
      · have nj := hno _ (rng j a3 (by omega) e2).1 (rng j a3 (by omega) e2).2
        rw [if_pos e1, if_neg e2, q_up_at, q_up_ne _ _ nj] at a5 a6
        exact absurd a6.symm (hfr _ (rng j a3 (by omega) e2).1 (rng j a3 (by omega) e2).2 nj a5.symm)
    · have ni := hno _ (rng i a1 (by omega) e1).1 (rng i a1 (by omega) e1).2
      by_cases e2 : j = pl
      · rw [if_neg e1, if_pos e2, q_up_at, q_up_ne _ _ ni] at a5 a6
        exact absurd a6 (hfr _ (rng i a1 (by omega) e1).1 (rng i a1 (by omega) e1).2 ni a5)
      · have nj := hno _ (rng j a3 (by omega) e2).1 (rng j a3 (by omega) e2).2
        rw [if_neg e1, if_neg e2, q_up_ne _ _ ni, q_up_ne _ _ nj] at a5 a6
        exact inj i j e1 e2 (g7 _ _ (rng i a1 (by omega) e1).1 (rng i a1 (by omega) e1).2 (rng j a3 (by omega) e2).1 (rng j a3 (by omega) e2).2 a5 a6)
section P2
variable {n g : Nat} {σ : mj_W} {K : Option mj_V → mj_W → Prop} {x y p w i j c d s m k pl : Int}
theorem p_leave (hR : q_Rel σ g) (hK : ∀ v σ1, q_Two (n + 10) i_M_leave g [iV p] (iV v) σ1 → K (some (iV v)) σ1) : mj_Ok (n + 10) i_S_leave [rV 11 0 0, iV p] σ K := by
  have hG := hR.1
  have hM := q_Rel_mB hR
  have hB := hR.2.2.1.1
  have b0 : σ g 0 = σ 2 4 := congrArg (fun B : q_B => B.1) hB
  have b1 : σ (g + 1) = σ 6 := congrArg (fun B : q_B => B.2.1) hB
  have b2 : σ (g + 2) = σ 3 := congrArg (fun B : q_B => B.2.2.1) hB
  have b3 : σ (g + 3) = σ 4 := congrArg (fun B : q_B => B.2.2.2.1) hB
  have b4 : σ (g + 4) = σ 5 := congrArg (fun B : q_B => B.2.2.2.2) hB
  refine c_S_leave hR.2.1 (fun hn => hK _ σ (fun K' hK' => c_M_leave hM.1.1 hM.1.2.2.2.2.2.1 (fun _ => hK' σ hR) (fun q => absurd (by rw [b0, b1]; exact hn) q))) (fun hn σ1 s1 s2 s3 => hK _ σ1 (fun K' hK' => ?_))
  have t0 := s3 g (by omega) (by omega)
  have t1 := s3 (g + 1) (by omega) (by omega)
  have hc : 0 ≤ σ1 g 0 ∧ σ1 g 0 ≤ 8 := by rw [t0]; exact hM.1.1
  have hd : q_dist (σ1 (g + 1)) (σ1 g 0) := by rw [t0, t1]; exact hM.1.2.2.2.2.2.1
  have ef : q_fnd (σ1 (g + 1)) (σ1 g 0) p = q_fnd (σ 6) (σ 2 4) p := by rw [t0, t1, b0, b1]
  refine c_M_leave hc hd (fun q => absurd (by rw [← ef]; exact q) hn) (fun _ σ2 u1 u2 u3 => ?_)
  have e0 : σ1 g 0 - 1 = σ 2 4 - 1 := by rw [t0, b0]
  rw [e0]
  have eC : q_BC σ2 2 = (σ 2 4 - 1, q_del (σ 6) (q_fnd (σ 6) (σ 2 4) p) (σ 2 4), σ 3, σ 4, σ 5) := by
    show (σ2 2 4, σ2 6, σ2 3, σ2 4, σ2 5) = _
    rw [u3 2 (by omega) (by omega), u3 6 (by omega) (by omega), u3 3 (by omega) (by omega), u3 4 (by omega) (by omega), u3 5 (by omega) (by omega), s1, s2, q_up_at, s3 3 (by omega) (by omega), s3 4 (by omega) (by omega), s3 5 (by omega) (by omega)]
  have hWd := @q_wB_die (q_BC σ 2) hR.2.1.1.1 0 p 0 0 (by show (if q_fnd (σ 6) (σ 2 4) p = -6 then 1 else 0) = (0 : Int); rw [if_neg hn])
  refine hK' σ2 (q_Rel_b hR (by rw [eC]; exact hWd) ?_ (fun f hf => ?_) (fun f f1 f2 => ?_) (fun o o1 o2 => ?_) (fun o o1 o2 => ?_) ?_ ?_)
  · rw [eC]
    refine q_B_ext ?_ ?_ ?_ ?_ ?_
    · rw [u1, q_up_at, t0, b0]
    · rw [u2, ef, t1, t0, b0, b1]
    · rw [u3 (g + 2) (by omega) (by omega), s3 (g + 2) (by omega) (by omega)]; exact b2
    · rw [u3 (g + 3) (by omega) (by omega), s3 (g + 3) (by omega) (by omega)]; exact b3
    · rw [u3 (g + 4) (by omega) (by omega), s3 (g + 4) (by omega) (by omega)]; exact b4
  · rw [u3 2 (by omega) (by omega), s1, q_up_ne _ _ hf]
  · rw [u1, q_up_ne _ _ (by omega), t0]
  · rw [u3 o (by omega) (by omega), s3 o (by omega) (by omega)]
  · rw [u3 o (by omega) (by omega), s3 o (by omega) (by omega)]
  · rw [u3 (g + 23) (by omega) (by omega), s3 (g + 23) (by omega) (by omega)]
  · rw [u3 (g + 24) (by omega) (by omega), s3 (g + 24) (by omega) (by omega)]
theorem p_stand (hR : q_Rel σ g) (hK : ∀ v σ1, q_Two (n + 10) i_M_stand g [iV p, iV x, iV y, iV pl] (iV v) σ1 → K (some (iV v)) σ1) : mj_Ok (n + 10) i_S_stand [rV 11 0 0, iV p, iV x, iV y, iV pl] σ K := by
  have hG := hR.1
  have hM := q_Rel_mB hR
  have hB := hR.2.2.1.1
  have b0 : σ g 0 = σ 2 4 := congrArg (fun B : q_B => B.1) hB
  have b1 : σ (g + 1) = σ 6 := congrArg (fun B : q_B => B.2.1) hB
  have b2 : σ (g + 2) = σ 3 := congrArg (fun B : q_B => B.2.2.1) hB
  have b3 : σ (g + 3) = σ 4 := congrArg (fun B : q_B => B.2.2.2.1) hB
  have b4 : σ (g + 4) = σ 5 := congrArg (fun B : q_B => B.2.2.2.2) hB
  have hc4 : 0 ≤ σ 2 4 ∧ σ 2 4 ≤ 8 := hR.2.1.1.1.1
  refine c_S_stand hR.2.1 (fun h1 => hK _ σ (fun K' hK' => ?_)) (fun h1 h2 => hK _ σ (fun K' hK' => ?_)) (fun h1 h2 h3 => hK _ σ (fun K' hK' => ?_)) (fun h1 h2 h3 h4 h5 σ1 s => hK _ σ1 (fun K' hK' => ?_))
  · exact c_M_stand hM.1.1 hM.1.2.1 hM.1.2.2.2.2.2.1 (fun _ => hK' σ hR) (fun q => absurd q h1) (fun q => absurd q h1) (fun q => absurd q h1)
  · exact c_M_stand hM.1.1 hM.1.2.1 hM.1.2.2.2.2.2.1 (fun q => absurd h1 q) (fun _ _ => hK' σ hR) (fun _ q => absurd (by rw [b0] at q; exact q) h2) (fun _ q => absurd (by rw [b0] at q; exact q) h2)
  · refine c_M_stand hM.1.1 hM.1.2.1 hM.1.2.2.2.2.2.1 (fun q => absurd h1 q) (fun _ q => absurd (by rw [b0]; exact h2) q) (fun _ _ _ => hK' σ hR) (fun _ _ q1 q2 => ?_)
    rw [b0, b1] at q1
    rw [b0, b1, b2, b3] at q2
    exact absurd h3 (fun q => q.elim (fun w => w q1) (fun w => w q2))
  · obtain ⟨s1, s2, s3, s4, s5, s6⟩ := s
    have fr : ∀ o, 7 ≤ o → σ1 o = σ o := fun o o1 => s6 o (by omega) (by omega) (by omega) (by omega) (by omega)
    have t0 := fr g (by omega)
    have t1 := fr (g + 1) (by omega)
    have t2 := fr (g + 2) (by omega)
    have t3 := fr (g + 3) (by omega)
    have t4 := fr (g + 4) (by omega)
    refine c_M_stand (by rw [t0]; exact hM.1.1) (by rw [t1]; exact hM.1.2.1) (by rw [t0, t1]; exact hM.1.2.2.2.2.2.1) (fun q => absurd h1 q) (fun _ q => absurd (by rw [t0, b0]; exact h2) q) (fun _ _ q => ?_) (fun _ _ _ _ _ σ2 u => ?_)
    · rw [t0, t1, t2, t3, b0, b1, b2, b3] at q
      exact absurd q (fun w => w.elim (fun w => w h3) (fun w => w h4))
    · obtain ⟨u1, u2, u3, u4, u5, u6⟩ := u
      have e0 : σ1 g 0 + 1 = σ 2 4 + 1 := by rw [t0, b0]
      rw [e0]
      have fu : ∀ o, o < g → σ2 o = σ1 o := fun o o1 => u6 o (by omega) (by omega) (by omega) (by omega) (by omega)
      have fw : ∀ o, g + 4 < o → σ2 o = σ o := fun o o1 => (u6 o (by omega) (by omega) (by omega) (by omega) (by omega)).trans (fr o (by omega))
      have eC : q_BC σ2 2 = (σ 2 4 + 1, q_ins (σ 6) pl p (σ 2 4), q_up (σ 3) p x, q_up (σ 4) p y, q_up (σ 5) p 0) := by
        show (σ2 2 4, σ2 6, σ2 3, σ2 4, σ2 5) = _
        have s2 : σ1 6 = q_ins (σ 6) pl p (σ 2 4) := s2
        have s3 : σ1 3 = q_up (σ 3) p x := s3
        have s4 : σ1 4 = q_up (σ 4) p y := s4
        have s5 : σ1 5 = q_up (σ 5) p 0 := s5
        rw [fu 2 (by omega), fu 6 (by omega), fu 3 (by omega), fu 4 (by omega), fu 5 (by omega), s1, s2, s3, s4, s5, q_up_at]
      have hno : ∀ j, 0 ≤ j → j < σ 2 4 → σ 6 j ≠ p := by
        rcases q_fnd_or (σ 6) hc4.1 p with q | q
        · exact q.2
        · omega
      have hWi := q_wB_ins (B := q_BC σ 2) (p := p) (x := x) (y := y) (pl := pl) hR.2.1.1.1 h5 h1 h2.2 h2.1 hno h4
      refine hK' σ2 (q_Rel_b hR (by rw [eC]; exact hWi) ?_ (fun f hf => ?_) (fun f f1 f2 => ?_) (fun o o1 o2 => ?_) (fun o o1 o2 => fw o o1) (fw _ (by omega)) (fw _ (by omega)))
      · rw [eC]
        refine q_B_ext ?_ ?_ ?_ ?_ ?_
        · rw [u1, q_up_at, t0, b0]
        · rw [u2, t1, t0, b0, b1]
        · rw [u3, t2, b2]
        · rw [u4, t3, b3]
        · rw [u5, t4, b4]
      · rw [fu 2 (by omega), s1, q_up_ne _ _ hf]
      · rw [u1, q_up_ne _ _ (by omega), t0]
      · rw [fu o (by omega), fr o (by omega)]
theorem p_done (hR : q_Rel σ g) (hK : ∀ v σ1, q_Two (n + 10) i_M_done g [] (iV v) σ1 → K (some (iV v)) σ1) : mj_Ok (n + 10) i_S_done [rV 11 0 0] σ K := by
  have hG := hR.1
  obtain ⟨l, hl⟩ := q_days (σ (41 + 1)) hR.2.1.2.2.2.1.1
  obtain ⟨xB, ⟨x5, x6, x7⟩, ⟨v1, v2, v3⟩, ⟨s1, s2, s3, s4⟩, x16, x10⟩ := hR.2.2.1
  refine c_S_done (l := l) hR.2.1 hl (fun h1 => hK _ σ (fun K' hK' => ?_)) (fun h1 h2 σ1 hF => hK _ σ1 (fun K' hK' => ?_)) (fun h1 h2 σ1 a1 a2 a3 a4 a5 a6 => hK _ σ1 (fun K' hK' => ?_))
  · exact c_M_done (l := l) hR.1 (q_Rel_mB hR) (q_Rel_pM hR) (by rw [x16, x10]; exact hl) (fun _ σ2 hF2 => hK' σ2 (q_Rel_m hR hF2)) (fun q => absurd (by rw [x16, x10] at q; exact q) h1) (fun q => absurd (by rw [x16, x10] at q; exact q) h1)
  · have hR1 := q_Rel_c hR hF
    obtain ⟨yB, ⟨y5, y6, y7⟩, -, -, y16, y10⟩ := q_Rel_x hR hF
    have eR : q_RM σ1 g l = q_R σ l := by unfold q_RM q_R; rw [yB, y7]
    refine c_M_done (l := l) hR.1 (q_Rel_mB hR1) (q_Rel_pM hR1) (by rw [y16, y10]; exact hl) (fun q => absurd (by rw [y16, y10]; exact h1) q) (fun _ _ σ2 hF2 => hK' σ2 (q_Rel_m hR1 hF2)) (fun _ q => absurd (by rw [eR] at q; exact q) h2)
  · have fr : ∀ o, g ≤ o → σ1 o = σ o := fun o o1 => a6 o (by omega) (by omega) (by omega) (by omega) (by omega) (by omega) (by omega)
    have fc : ∀ o, 7 ≤ o → o ≤ 42 → o ≠ 41 → σ1 o = σ o := fun o o1 o2 o3 => a6 o (by omega) (by omega) (by omega) (by omega) (by omega) (by omega) (by omega)
    have t0 := fr g (by omega)
    have eB : q_BM σ1 g = q_BM σ g := q_BM_f (by rw [t0]) (fun o o1 o2 => fr o (by omega))
    have hM : q_mB σ1 g := by unfold q_mB; rw [eB, t0]; exact q_Rel_mB hR
    have hP : q_pM σ1 g := by unfold q_pM; rw [t0, fr (g + 10) (by omega)]; exact q_Rel_pM hR
    have eR : q_RM σ1 g l = q_R σ l := by unfold q_RM q_R; rw [eB, t0, xB, x7]
    have efl : q_fault (σ1 (g + 10)) (σ1 g 16) = q_fault (σ (41 + 1)) (σ 41 1) := by rw [t0, fr (g + 10) (by omega), x16, x10]
    have hW : q_wB (q_R σ l).2.2.2.2 := q_wB_go hR.2.1.1.2.2.2.2 l _ _ _ hR.2.1.1.1 (q_rep_ok (hl h1))
    refine c_M_done (l := l) hR.1 hM hP (fun q => by rw [t0, fr (g + 10) (by omega), x16, x10]; exact hl h1) (fun q => absurd (efl.trans h1) q) (fun _ q => absurd (by rw [eR]; exact h2) q) (fun _ _ r σ2 hr u1 u2 u3 u4 => ?_)
    rw [eR] at hr u1
    rw [hr]
    have gc : ∀ o, o < 43 → σ2 o = σ1 o := fun o o1 => u4 o (by omega)
    have eC : q_BC σ2 2 = (q_R σ l).2.2.2.2 := by
      rw [q_BC_f (b := 2) (fun o o1 o2 => gc o (by omega))]; exact a1
    refine hK' σ2 ⟨hG, ⟨⟨by rw [eC]; exact hW, ?_, ?_, ?_⟩, ?_, ?_, ?_⟩, ⟨by rw [u1, eC], ⟨?_, ?_, ?_⟩, ⟨?_, ?_, ?_⟩, ⟨?_, ?_, ?_, ?_⟩, ?_, ?_⟩, ?_, ?_⟩
    · rw [gc 2 (by omega), a2]; exact hR.2.1.1.2.1
    · rw [gc 2 (by omega), a3]; exact hR.2.1.1.2.2.1
    · rw [gc 2 (by omega), a4]; exact hR.2.1.1.2.2.2
    · exact q_vo_f (fun o o1 o2 => (gc o (by omega)).trans (fc o (by omega) (by omega) (by omega))) hR.2.1.2.1
    · exact q_so_f (fun o o1 o2 => (gc o (by omega)).trans (fc o (by omega) (by omega) (by omega))) hR.2.1.2.2.1
    · refine ⟨?_, ?_⟩
      · rw [gc 41 (by omega), a5, q_up_at]; omega
      · rw [gc (41 + 1) (by omega), fc (41 + 1) (by omega) (by omega) (by omega)]; exact hR.2.1.2.2.2.2
    · rw [u3 5 (by omega) (by omega), gc 2 (by omega), a2, t0]; exact x5
    · rw [u3 6 (by omega) (by omega), gc 2 (by omega), a3, t0]; exact x6
    · rw [u3 7 (by omega) (by omega), gc 2 (by omega), a4, t0]; exact x7
    · rw [u3 8 (by omega) (by omega), gc 7 (by omega), fc 7 (by omega) (by omega) (by omega), t0]; exact v1
    · rw [u4 (g + 5) (by omega), gc 8 (by omega), fc 8 (by omega) (by omega) (by omega), fr (g + 5) (by omega)]; exact v2
    · rw [u4 (g + 6) (by omega), gc 9 (by omega), fc 9 (by omega) (by omega) (by omega), fr (g + 6) (by omega)]; exact v3
    · rw [u3 14 (by omega) (by omega), gc 10 (by omega), fc 10 (by omega) (by omega) (by omega), t0]; exact s1
    · rw [u4 (g + 7) (by omega), gc 11 (by omega), fc 11 (by omega) (by omega) (by omega), fr (g + 7) (by omega)]; exact s2
    · rw [u4 (g + 8) (by omega), gc 12 (by omega), fc 12 (by omega) (by omega) (by omega), fr (g + 8) (by omega)]; exact s3
    · rw [u4 (g + 9) (by omega), gc 13 (by omega), fc 13 (by omega) (by omega) (by omega), fr (g + 9) (by omega)]; exact s4
    · rw [u2, gc 41 (by omega), a5, q_up_at]
    · rw [u4 (g + 10) (by omega), gc (41 + 1) (by omega), fc (41 + 1) (by omega) (by omega) (by omega), fr (g + 10) (by omega)]; exact x10
    · exact q_Ri_f (fun o o1 o2 => (gc o (by omega)).trans (fc o (by omega) (by omega) (by omega))) ((u4 _ (by omega)).trans (fr _ (by omega))) ((u4 _ (by omega)).trans (fr _ (by omega))) hR.2.2.2.1
    · exact q_Ri_f (fun o o1 o2 => (gc o (by omega)).trans (fc o (by omega) (by omega) (by omega))) ((u4 _ (by omega)).trans (fr _ (by omega))) ((u4 _ (by omega)).trans (fr _ (by omega))) hR.2.2.2.2
end P2
