/-! the least walk: of the class -/
def q_join (a b : Int) : Int := if a = 2 ∨ b = 2 then 2 else (a + b) % 2
theorem q_sideF_j0 (X Y : Int → Int) (x y : Int) : ∀ (k : Nat) (i a : Int), (a = 0 ∨ a = 1) → q_sideF X Y x y i k a = q_join a (q_sideF X Y x y i k 0) := by
  intro k
  induction k with
  | zero => intro i a h; unfold q_sideF q_join; rw [if_neg (by omega)]; omega
  | succ k ih =>
    intro i a h
    unfold q_sideF
    have hp := q_pc_in (X i) (Y i) (X (i + 1)) (Y (i + 1)) x y
    generalize q_pc (X i) (Y i) (X (i + 1)) (Y (i + 1)) x y = pc at hp
    by_cases e : pc = 2
    · rw [if_pos e, if_pos e]; unfold q_join; rw [if_pos (Or.inr rfl)]
    · rw [if_neg e, if_neg e, ih (i + 1) ((a + pc) % 2) (by omega), ih (i + 1) ((0 + pc) % 2) (by omega)]
      have hs := q_sideF_in X Y x y k (i + 1) 0 (Or.inl rfl)
      generalize q_sideF X Y x y (i + 1) k 0 = s9 at hs
      unfold q_join
      by_cases e2 : s9 = 2
      · rw [if_pos (Or.inr e2), if_pos (Or.inr e2), if_pos (Or.inr rfl)]
      · rw [if_neg (by omega), if_neg (by omega), if_neg (by omega)]; omega
theorem q_sideF_sp (X Y : Int → Int) (x y : Int) (k2 : Nat) : ∀ (k1 : Nat) (i a : Int), (a = 0 ∨ a = 1) → q_sideF X Y x y i (k1 + k2) a = q_join (q_sideF X Y x y i k1 a) (q_sideF X Y x y (i + k1) k2 0) := by
  intro k1
  induction k1 with
  | zero =>
    intro i a h
    rw [Nat.zero_add, show i + ((0 : Nat) : Int) = i by omega]
    exact q_sideF_j0 X Y x y k2 i a h
  | succ k1 ih =>
    intro i a h
    rw [show k1 + 1 + k2 = (k1 + k2) + 1 by omega]
    have e0 : q_sideF X Y x y i ((k1 + k2) + 1) a = if q_pc (X i) (Y i) (X (i + 1)) (Y (i + 1)) x y = 2 then 2 else q_sideF X Y x y (i + 1) (k1 + k2) ((a + q_pc (X i) (Y i) (X (i + 1)) (Y (i + 1)) x y) % 2) := rfl
    have e1 : q_sideF X Y x y i (k1 + 1) a = if q_pc (X i) (Y i) (X (i + 1)) (Y (i + 1)) x y = 2 then 2 else q_sideF X Y x y (i + 1) k1 ((a + q_pc (X i) (Y i) (X (i + 1)) (Y (i + 1)) x y) % 2) := rfl
    rw [e0, e1]
    by_cases e : q_pc (X i) (Y i) (X (i + 1)) (Y (i + 1)) x y = 2
    · rw [if_pos e, if_pos e]; unfold q_join; rw [if_pos (Or.inl rfl)]
    · rw [if_neg e, if_neg e, ih (i + 1) _ (by omega), show i + 1 + (k1 : Int) = i + ((k1 + 1 : Nat) : Int) by omega]
theorem q_join_3 {a b c : Int} (ha : a = 0 ∨ a = 1 ∨ a = 2) (hb : b = 0 ∨ b = 1 ∨ b = 2) (hc : c = 0 ∨ c = 1 ∨ c = 2) : q_join a (q_join b c) = q_join (q_join a c) b := by
  unfold q_join
  rcases ha with h | h | h <;> rcases hb with h' | h' | h' <;> rcases hc with h'' | h'' | h'' <;> subst h <;> subst h' <;> subst h'' <;> decide
/-- the side is what the pieces before, the two at the person and those behind give -/
theorem q_sideB_3 {w e : Int} {B : q_B} (hn : 0 ≤ B.1) (hd : q_dist B.2.1 B.1) {pl p x y a b : Int} (hpl : 0 ≤ pl ∧ pl < B.1) (hp : B.2.1 pl = p) :
    q_sideB w e (q_pos B p a b) x y = q_join (q_join (q_sideF (q_cx B.1 B.2.1 B.2.2.1) (q_cy B.1 w e B.2.1 B.2.2.2.1) x y 0 pl.toNat 0) (q_sideF (q_cx B.1 B.2.1 B.2.2.1) (q_cy B.1 w e B.2.1 B.2.2.2.1) x y (pl + 2) (B.1 + 1 - (pl + 2)).toNat 0)) (q_sideF (q_cx B.1 B.2.1 (q_up B.2.2.1 p a)) (q_cy B.1 w e B.2.1 (q_up B.2.2.2.1 p b)) x y pl 2 0) := by
  have eX : ∀ c, c ≠ pl + 1 → q_cx B.1 B.2.1 (q_up B.2.2.1 p a) c = q_cx B.1 B.2.1 B.2.2.1 c := by
    intro c hc
    unfold q_cx
    by_cases c0 : c ≤ 0
    · rw [if_pos c0, if_pos c0]
    by_cases c1 : B.1 < c
    · rw [if_neg c0, if_neg c0, if_pos c1, if_pos c1]
    · rw [if_neg c0, if_neg c0, if_neg c1, if_neg c1, q_up_ne]
      intro q
      have := hd (c - 1) pl (by omega) (by omega) hpl.1 hpl.2 (q.trans hp.symm)
      omega
  have eY : ∀ c, c ≠ pl + 1 → q_cy B.1 w e B.2.1 (q_up B.2.2.2.1 p b) c = q_cy B.1 w e B.2.1 B.2.2.2.1 c := by
    intro c hc
    unfold q_cy
    by_cases c0 : c ≤ 0
    · rw [if_pos c0, if_pos c0]
    by_cases c1 : B.1 < c
    · rw [if_neg c0, if_neg c0, if_pos c1, if_pos c1]
    · rw [if_neg c0, if_neg c0, if_neg c1, if_neg c1, q_up_ne]
      intro q
      have := hd (c - 1) pl (by omega) (by omega) hpl.1 hpl.2 (q.trans hp.symm)
      omega
  have gen : ∀ (X Y X' Y' : Int → Int), (∀ c, c ≠ pl + 1 → X c = X' c) → (∀ c, c ≠ pl + 1 → Y c = Y' c) → ∀ (k : Nat) (i t : Int), (i + k ≤ pl ∨ pl + 1 < i) → q_sideF X Y x y i k t = q_sideF X' Y' x y i k t := by
    intro X Y X' Y' hX hY k
    induction k with
    | zero => intro i t h; rfl
    | succ k ih =>
      intro i t h
      unfold q_sideF
      rw [hX i (by omega), hX (i + 1) (by omega), hY i (by omega), hY (i + 1) (by omega), ih (i + 1) _ (by omega)]
  show q_sideF (q_cx B.1 B.2.1 (q_up B.2.2.1 p a)) (q_cy B.1 w e B.2.1 (q_up B.2.2.2.1 p b)) x y 0 (B.1 + 1).toNat 0 = _
  rw [show (B.1 + 1).toNat = pl.toNat + (2 + (B.1 + 1 - (pl + 2)).toNat) by omega, q_sideF_sp _ _ _ _ _ pl.toNat 0 0 (Or.inl rfl), q_sideF_sp _ _ _ _ _ 2 _ 0 (Or.inl rfl)]
  rw [show (0 : Int) + (pl.toNat : Int) = pl by omega, show pl + ((2 : Nat) : Int) = pl + 2 by omega]
  rw [gen _ _ _ _ eX eY pl.toNat 0 0 (by omega), gen _ _ _ _ eX eY _ (pl + 2) 0 (by omega)]
  exact q_join_3 (q_sideF_in _ _ _ _ _ _ _ (Or.inl rfl)) (q_sideF_in _ _ _ _ _ _ _ (Or.inl rfl)) (q_sideF_in _ _ _ _ _ _ _ (Or.inl rfl))
def q_swC (σ : mj_W) (ss : Nat) (r : Int × Int × Int) : Prop := σ ss 0 = r.1 ∧ (r.1 < 81 → σ ss 1 = r.2.1 ∧ σ ss 2 = r.2.2)
section S6
variable {n b ss : Nat} {σ : mj_W} {K : Option mj_V → mj_W → Prop} {x y p w i j c d s pl : Int}
theorem c_Border_join2 {a a' : Int} (h1 : a = 0 ∨ a = 1 ∨ a = 2) (h2 : a' = 0 ∨ a' = 1 ∨ a' = 2) (hK : ∀ r, r = q_join a a' → K (some (iV r)) σ) : mj_Ok (n + 1) i_Border_joinSides [iV a, iV a'] σ K := by
  unfold q_join at hK
  refine mj_enter (by decide) (Nat.le_of_ble_eq_true rfl) (fun hg => ?_)
  refine r_Border_joinSides [] 600 ?_
  by_cases e1 : a = 2
  · rw [if_pos (Or.inl e1)] at hK
    repeat' (first | (refine mj_ite (fun h => ?_) (fun h => ?_) <;> first | (exfalso; omega) | skip) | refine mj_vci (by first | omega | (simp (disch := omega) only [up_ne, up_at, q_up_at, q_up_ne, cp_ne]; omega)) ?_)
    exact hK _ rfl
  · by_cases e2 : a' = 2
    · rw [if_pos (Or.inr e2)] at hK
      repeat' (first | (refine mj_ite (fun h => ?_) (fun h => ?_) <;> first | (exfalso; omega) | skip) | refine mj_vci (by first | omega | (simp (disch := omega) only [up_ne, up_at, q_up_at, q_up_ne, cp_ne]; omega)) ?_)
      exact hK _ rfl
    · rw [if_neg (by omega), ← q_xor01 (by omega) (by omega)] at hK
      repeat' (first | (refine mj_ite (fun h => ?_) (fun h => ?_) <;> first | (exfalso; omega) | skip) | refine mj_vci (by first | omega | (simp (disch := omega) only [up_ne, up_at, q_up_at, q_up_ne, cp_ne]; omega)) ?_)
      exact hK _ rfl
theorem l_Sway_tryPerson {ot : Int} (hW : q_wB (q_BC σ b)) (h5 : 0 ≤ σ b 5 ∧ σ b 5 ≤ 40) (h6 : 0 ≤ σ b 6 ∧ σ b 6 ≤ 40) (hsb : ss < b ∨ b + 4 < ss) (hxy : q_land x y) (hpl : 0 ≤ pl ∧ pl < σ b 4) (hp : σ (b + 4) pl = p) (hot : ot = q_join (q_sideF (q_X σ b) (q_Y σ b) x y 0 pl.toNat 0) (q_sideF (q_X σ b) (q_Y σ b) x y (pl + 2) (σ b 4 + 1 - (pl + 2)).toNat 0)) {R : Int × Int × Int} (hK : ∀ σ', (∀ o, o ≠ ss → σ' o = σ o) → q_swC σ' ss R → K none σ') :
    ∀ (k : Nat) (i u v : Int) (τ : mj_W) (r : Int × Int × Int), 0 ≤ i → i + k = 1681 → (0 ≤ u ∧ 0 ≤ v ∧ v ≤ 40 ∧ i = 41 * u + v) → (∃ a, τ (b + 1) = q_up (σ (b + 1)) p a) → (∃ a, τ (b + 2) = q_up (σ (b + 2)) p a) → (∀ o, o ≠ b + 1 → o ≠ b + 2 → o ≠ ss → τ o = σ o) → q_swC τ ss r → q_swP (σ b 5) (σ b 6) (q_BC σ b) x y s p k i r = R → 0 < k → mj_Wm i_Sway_tryPerson (n + 3) K 67 [some (rV 8 0 ss), some (rV 1 0 b), some (iV pl), some (iV x), some (iV y), some (iV s), some (iV p), some (iV (σ (b + 1) p)), some (iV (σ (b + 2) p)), some (iV ot), some (iV u), some (iV v), none] [] τ := by
  have hp7 : 0 ≤ p ∧ p ≤ 7 := by have := hW.2.1 pl; have t : 0 ≤ σ (b + 4) pl ∧ σ (b + 4) pl ≤ 7 := this; omega
  have hx0 : 0 ≤ σ (b + 1) p ∧ σ (b + 1) p ≤ 40 := hW.2.2.1 p
  have hy0 : 0 ≤ σ (b + 2) p ∧ σ (b + 2) p ≤ 40 := hW.2.2.2.1 p
  have hc4 : 0 ≤ σ b 4 ∧ σ b 4 ≤ 8 := hW.1
  have hoti : ot = 0 ∨ ot = 1 ∨ ot = 2 := by
    rw [hot]
    have t1 := q_sideF_in (q_X σ b) (q_Y σ b) x y pl.toNat 0 0 (Or.inl rfl)
    have t2 := q_sideF_in (q_X σ b) (q_Y σ b) x y (σ b 4 + 1 - (pl + 2)).toNat (pl + 2) 0 (Or.inl rfl)
    unfold q_join
    split <;> omega
  intro k
  induction k with
  | zero => intro i u v τ r h0 h1 huv hX hY hf hS hR hk; omega
  | succ k ih =>
    intro i u v τ r h0 h1 huv hX hY hf hS hR hk
    unfold q_swP at hR
    have eu : i / 41 = u := by omega
    have ev : i % 41 = v := by omega
    rw [eu, ev] at hR
    have hdd : q_dst u v ((q_BC σ b).2.2.1 p) ((q_BC σ b).2.2.2.1 p) = (if u - σ (b + 1) p < 0 then -(u - σ (b + 1) p) else u - σ (b + 1) p) + (if v - σ (b + 2) p < 0 then -(v - σ (b + 2) p) else v - σ (b + 2) p) := rfl
    have hdi := q_dst_in (a := u) (b := v) (x := σ (b + 1) p) (y := σ (b + 2) p) (by omega) (by omega) hx0 hy0
    have hdi : 0 ≤ q_dst u v ((q_BC σ b).2.2.1 p) ((q_BC σ b).2.2.2.1 p) ∧ q_dst u v ((q_BC σ b).2.2.1 p) ((q_BC σ b).2.2.2.1 p) ≤ 80 := hdi
    have next : ∀ (τ' : mj_W) (r' : Int × Int × Int), (∃ a, τ' (b + 1) = q_up (σ (b + 1)) p a) → (∃ a, τ' (b + 2) = q_up (σ (b + 2)) p a) → (∀ o, o ≠ b + 1 → o ≠ b + 2 → o ≠ ss → τ' o = σ o) → q_swC τ' ss r' → q_swP (σ b 5) (σ b 6) (q_BC σ b) x y s p k (i + 1) r' = R → mj_Wm i_Sway_tryPerson (n + 3) K 169 [some (rV 8 0 ss), some (rV 1 0 b), some (iV pl), some (iV x), some (iV y), some (iV s), some (iV p), some (iV (σ (b + 1) p)), some (iV (σ (b + 2) p)), some (iV ot), some (iV u), some (iV v), none] [] τ' := by
      intro τ' r' n1 n2 n3 n4 n5
      by_cases e3 : v = 40
      · subst e3
        have m175 : mj_Wm i_Sway_tryPerson (n + 3) K 175 [some (rV 8 0 ss), some (rV 1 0 b), some (iV pl), some (iV x), some (iV y), some (iV s), some (iV p), some (iV (σ (b + 1) p)), some (iV (σ (b + 2) p)), some (iV ot), some (iV u), some (iV (40 + 1)), none] [] τ' := by
          by_cases e7 : u = 40
          · have : k = 0 := by omega
            subst this
            have n5 : r' = R := n5
            subst n5
            obtain ⟨a1, n1⟩ := n1
            obtain ⟨a2, n2⟩ := n2
            refine r_Sway_tryPerson [(67, [true, true, true, true, true, true, true, true, true, true, true, true, false]), (169, [true, true, true, true, true, true, true, true, true, true, true, true, false])] 600 ?_
            repeat' (first | (refine mj_ite (fun h => ?_) (fun h => ?_) <;> first | (exfalso; omega) | skip) | refine mj_vci (by first | omega | (simp (disch := omega) only [up_ne, up_at, q_up_at, q_up_ne, cp_ne]; omega)) ?_)
            refine c_Border_put hp7 ?_
            repeat' (first | (refine mj_ite (fun h => ?_) (fun h => ?_) <;> first | (exfalso; omega) | skip) | refine mj_vci (by first | omega | (simp (disch := omega) only [up_ne, up_at, q_up_at, q_up_ne, cp_ne]; omega)) ?_)
            refine hK _ (fun o ho => ?_) ?_
            · by_cases o1 : o = b + 1
              · subst o1
                rw [up_ne _ _ _ (by omega), up_at, n1, q_upup]
                exact q_up_id _ rfl
              · by_cases o2 : o = b + 2
                · subst o2
                  rw [up_at, up_ne _ _ _ (by omega), n2, q_upup]
                  exact q_up_id _ rfl
                · rw [up_ne _ _ _ o2, up_ne _ _ _ o1]
                  exact n3 o o1 o2 ho
            · unfold q_swC at n4 ⊢
              rw [up_ne _ _ _ (by omega), up_ne _ _ _ (by omega)]
              exact n4
          · refine r_Sway_tryPerson [(67, [true, true, true, true, true, true, true, true, true, true, true, true, false]), (169, [true, true, true, true, true, true, true, true, true, true, true, true, false])] 600 ?_
            repeat' (first | (refine mj_ite (fun h => ?_) (fun h => ?_) <;> first | (exfalso; omega) | skip) | refine mj_vci (by first | omega | (simp (disch := omega) only [up_ne, up_at, q_up_at, q_up_ne, cp_ne]; omega)) ?_)
            exact ih (i + 1) (u + 1) 0 τ' r' (by omega) (by omega) (by omega) n1 n2 n3 n4 n5 (by omega)
        refine r_Sway_tryPerson [(175, [true, true, true, true, true, true, true, true, true, true, true, true, false])] 600 ?_
        repeat' (first | (refine mj_ite (fun h => ?_) (fun h => ?_) <;> first | (exfalso; omega) | skip) | refine mj_vci (by first | omega | (simp (disch := omega) only [up_ne, up_at, q_up_at, q_up_ne, cp_ne]; omega)) ?_)
        exact m175
      · refine r_Sway_tryPerson [(67, [true, true, true, true, true, true, true, true, true, true, true, true, false]), (169, [true, true, true, true, true, true, true, true, true, true, true, true, false])] 600 ?_
        repeat' (first | (refine mj_ite (fun h => ?_) (fun h => ?_) <;> first | (exfalso; omega) | skip) | refine mj_vci (by first | omega | (simp (disch := omega) only [up_ne, up_at, q_up_at, q_up_ne, cp_ne]; omega)) ?_)
        exact ih (i + 1) u (v + 1) τ' r' (by omega) (by omega) (by omega) n1 n2 n3 n4 n5 (by omega)
    have s0 : τ ss 0 = r.1 := hS.1
    have tb : τ b = σ b := hf b (by omega) (by omega) (by omega)
    have tb4 : τ (b + 4) = σ (b + 4) := hf (b + 4) (by omega) (by omega) (by omega)
    have c4 : τ b 4 = σ b 4 := by rw [tb]
    obtain ⟨a1, hX⟩ := hX
    obtain ⟨a2, hY⟩ := hY
    rw [hdd] at hR hdi
    generalize hv1 : (if u - σ (b + 1) p < 0 then -(u - σ (b + 1) p) else u - σ (b + 1) p) = v1 at hR hdi
    generalize hv2 : (if v - σ (b + 2) p < 0 then -(v - σ (b + 2) p) else v - σ (b + 2) p) = v2 at hR hdi
    clear hdd
    refine r_Sway_tryPerson [(67, [true, true, true, true, true, true, true, true, true, true, true, true, false]), (169, [true, true, true, true, true, true, true, true, true, true, true, true, false])] 600 ?_
    repeat' (first | (refine mj_ite (fun h => ?_) (fun h => ?_) <;> first | (exfalso; omega) | skip) | refine mj_vci (by first | omega | (simp (disch := omega) only [up_ne, up_at, q_up_at, q_up_ne, cp_ne]; omega)) ?_)
    · simp only [hv1, hv2] at h ⊢
      refine c_Border_isTaken (by rw [c4]; exact hc4) (by rw [tb4]; exact hW.2.1) (fun j b1 b2 b3 b4 b5 => ?_) (fun b0 => ?_)
      · rw [tb4] at b3 b4 b5
        rw [hX, q_up_ne _ _ b3] at b4
        rw [hY, q_up_ne _ _ b3] at b5
        rw [c4] at b2
        have hx : ¬ (q_fr (q_BC σ b) p u v ∧ v1 + v2 < r.1 ∧ q_sideB (σ b 5) (σ b 6) (q_pos (q_BC σ b) p u v) x y = s) := fun q => q.1 j b1 b2 b3 b4 b5
        rw [if_neg hx] at hR
        repeat' (first | (refine mj_ite (fun h => ?_) (fun h => ?_) <;> first | (exfalso; omega) | skip) | refine mj_vci (by first | omega | (simp (disch := omega) only [up_ne, up_at, q_up_at, q_up_ne, cp_ne]; omega)) ?_)
        exact next τ r ⟨a1, hX⟩ ⟨a2, hY⟩ hf hS hR
      · have hfr : q_fr (q_BC σ b) p u v := by
          intro j j1 j2 j3 j4 j5
          have := b0 j j1 (by rw [c4]; exact j2)
          rw [tb4] at this
          refine this j3 ?_ ?_
          · rw [hX, q_up_ne _ _ j3]; exact j4
          · rw [hY, q_up_ne _ _ j3]; exact j5
        repeat' (first | (refine mj_ite (fun h => ?_) (fun h => ?_) <;> first | (exfalso; omega) | skip) | refine mj_vci (by first | omega | (simp (disch := omega) only [up_ne, up_at, q_up_at, q_up_ne, cp_ne]; omega)) ?_)
        refine c_Border_put hp7 ?_
        generalize hτ2 : mj_up (mj_up τ (b + 1) p u) (b + 2) p v = τ2
        have g1 : τ2 b = σ b := by rw [← hτ2, up_ne _ _ _ (by omega), up_ne _ _ _ (by omega)]; exact tb
        have g4 : τ2 (b + 4) = σ (b + 4) := by rw [← hτ2, up_ne _ _ _ (by omega), up_ne _ _ _ (by omega)]; exact tb4
        have gx : τ2 (b + 1) = q_up (σ (b + 1)) p u := by rw [← hτ2, up_ne _ _ _ (by omega), up_at, hX, q_upup]
        have gy : τ2 (b + 2) = q_up (σ (b + 2)) p v := by rw [← hτ2, up_at, up_ne _ _ _ (by omega), hY, q_upup]
        have gf : ∀ o, o ≠ b + 1 → o ≠ b + 2 → o ≠ ss → τ2 o = σ o := by
          intro o o1 o2 o3
          rw [← hτ2, up_ne _ _ _ o2, up_ne _ _ _ o1]
          exact hf o o1 o2 o3
        have gss : τ2 ss = τ ss := by rw [← hτ2, up_ne _ _ _ (by omega), up_ne _ _ _ (by omega)]
        have hWp := q_wB_pos hW (p := p) (x := u) (y := v) (by omega) hfr
        have gB : q_gB τ2 b := by
          unfold q_gB
          rw [g1, g4, gx, gy]
          exact ⟨hW.1, hW.2.1, hWp.2.2.1, hWp.2.2.2.1, h5, h6⟩
        have em : q_sideF (q_X τ2 b) (q_Y τ2 b) x y pl (pl + 2 - pl).toNat 0 = q_sideF (q_cx (σ b 4) (σ (b + 4)) (q_up (σ (b + 1)) p u)) (q_cy (σ b 4) (σ b 5) (σ b 6) (σ (b + 4)) (q_up (σ (b + 2)) p v)) x y pl 2 0 := by
          unfold q_X q_Y
          rw [g1, g4, gx, gy, show (pl + 2 - pl).toNat = 2 by omega]
        have e3 : q_sideB (σ b 5) (σ b 6) (q_pos (q_BC σ b) p u v) x y = q_join ot (q_sideF (q_cx (σ b 4) (σ (b + 4)) (q_up (σ (b + 1)) p u)) (q_cy (σ b 4) (σ b 5) (σ b 6) (σ (b + 4)) (q_up (σ (b + 2)) p v)) x y pl 2 0) := by
          rw [hot]
          exact q_sideB_3 (B := q_BC σ b) hW.1.1 hW.2.2.2.2.2.1 hpl hp
        repeat' (first | (refine mj_ite (fun h => ?_) (fun h => ?_) <;> first | (exfalso; omega) | skip) | refine mj_vci (by first | omega | (simp (disch := omega) only [up_ne, up_at, q_up_at, q_up_ne, cp_ne]; omega)) ?_)
        refine c_Border_sideAmong gB (by omega) (by omega) hpl.1 (by omega) ?_
        rw [em]
        have mi := q_sideF_in (q_cx (σ b 4) (σ (b + 4)) (q_up (σ (b + 1)) p u)) (q_cy (σ b 4) (σ b 5) (σ b 6) (σ (b + 4)) (q_up (σ (b + 2)) p v)) x y 2 pl 0 (Or.inl rfl)
        refine c_Border_join2 hoti mi (fun v9 hv9 => ?_)
        rw [← e3] at hv9
        by_cases hs : v9 = s
        · have hx : q_fr (q_BC σ b) p u v ∧ v1 + v2 < r.1 ∧ q_sideB (σ b 5) (σ b 6) (q_pos (q_BC σ b) p u v) x y = s := ⟨hfr, by omega, by rw [← hv9]; exact hs⟩
          rw [if_pos hx] at hR
          repeat' (first | (refine mj_ite (fun h => ?_) (fun h => ?_) <;> first | (exfalso; omega) | skip) | refine mj_vci (by first | omega | (simp (disch := omega) only [up_ne, up_at, q_up_at, q_up_ne, cp_ne]; omega)) ?_)
          refine c_S_pointCode (by omega) (by omega) ?_
          repeat' (first | (refine mj_ite (fun h => ?_) (fun h => ?_) <;> first | (exfalso; omega) | skip) | refine mj_vci (by first | omega | (simp (disch := omega) only [up_ne, up_at, q_up_at, q_up_ne, cp_ne]; omega)) ?_)
          refine next _ _ ⟨u, ?_⟩ ⟨v, ?_⟩ ?_ ⟨?_, fun _ => ⟨?_, ?_⟩⟩ hR
          · simp (disch := omega) only [up_ne]; exact gx
          · simp (disch := omega) only [up_ne]; exact gy
          · intro o o1 o2 o3
            simp (disch := omega) only [up_ne]
            exact gf o o1 o2 o3
          · simp (disch := omega) only [up_at, q_up_ne, q_up_at]
          · simp (disch := omega) only [up_at, q_up_ne, q_up_at]
          · simp (disch := omega) only [up_at, q_up_at]
        · have hx : ¬ (q_fr (q_BC σ b) p u v ∧ v1 + v2 < r.1 ∧ q_sideB (σ b 5) (σ b 6) (q_pos (q_BC σ b) p u v) x y = s) := fun q => hs (by rw [hv9]; exact q.2.2)
          rw [if_neg hx] at hR
          refine mj_ite (fun q => absurd q hs) (fun _ => ?_)
          refine next τ2 r ⟨u, gx⟩ ⟨v, gy⟩ gf ?_ hR
          unfold q_swC at hS ⊢
          rw [gss]
          exact hS
    · simp only [hv1, hv2] at h
      have hx : ¬ (q_fr (q_BC σ b) p u v ∧ v1 + v2 < r.1 ∧ q_sideB (σ b 5) (σ b 6) (q_pos (q_BC σ b) p u v) x y = s) := fun q => by omega
      rw [if_neg hx] at hR
      exact next τ r ⟨a1, hX⟩ ⟨a2, hY⟩ hf hS hR
theorem c_Sway_tryPerson (hW : q_wB (q_BC σ b)) (h5 : 0 ≤ σ b 5 ∧ σ b 5 ≤ 40) (h6 : 0 ≤ σ b 6 ∧ σ b 6 ≤ 40) (hsb : ss < b ∨ b + 4 < ss) (hxy : q_land x y) (hpl : 0 ≤ pl ∧ pl < σ b 4) (hp : σ (b + 4) pl = p) {r : Int × Int × Int} (hS : q_swC σ ss r) (hK : ∀ σ', (∀ o, o ≠ ss → σ' o = σ o) → q_swC σ' ss (q_swP (σ b 5) (σ b 6) (q_BC σ b) x y s p 1681 0 r) → K none σ') : mj_Ok (n + 3) i_Sway_tryPerson [rV 8 0 ss, rV 1 0 b, iV pl, iV x, iV y, iV s] σ K := by
  have hB : q_gB σ b := q_gB_of hW h5 h6
  have hc4 : 0 ≤ σ b 4 ∧ σ b 4 ≤ 8 := hW.1
  have hp7 : 0 ≤ p ∧ p ≤ 7 := by have := hW.2.1 pl; have t : 0 ≤ σ (b + 4) pl ∧ σ (b + 4) pl ≤ 7 := this; omega
  refine mj_enter (by decide) (Nat.le_of_ble_eq_true rfl) (fun hg => ?_)
  refine r_Sway_tryPerson [(67, [true, true, true, true, true, true, true, true, true, true, true, true, false]), (169, [true, true, true, true, true, true, true, true, true, true, true, true, false])] 600 ?_
  repeat' (first | (refine mj_ite (fun h => ?_) (fun h => ?_) <;> first | (exfalso; omega) | skip) | refine mj_vci (by first | omega | (simp (disch := omega) only [up_ne, up_at, q_up_at, q_up_ne, cp_ne]; omega)) ?_)
  rw [hp]
  repeat' (first | (refine mj_ite (fun h => ?_) (fun h => ?_) <;> first | (exfalso; omega) | skip) | refine mj_vci (by first | omega | (simp (disch := omega) only [up_ne, up_at, q_up_at, q_up_ne, cp_ne]; omega)) ?_)
  refine c_Border_sideAmong hB (by omega) (by omega) (by omega) (by omega) ?_
  repeat' (first | (refine mj_ite (fun h => ?_) (fun h => ?_) <;> first | (exfalso; omega) | skip) | refine mj_vci (by first | omega | (simp (disch := omega) only [up_ne, up_at, q_up_at, q_up_ne, cp_ne]; omega)) ?_)
  refine c_Border_pieces hB.1 ?_
  refine c_Border_sideAmong hB (by omega) (by omega) (by omega) (by omega) ?_
  refine c_Border_join2 (q_sideF_in _ _ _ _ _ _ _ (Or.inl rfl)) (q_sideF_in _ _ _ _ _ _ _ (Or.inl rfl)) (fun ot hot => ?_)
  rw [show pl - 0 = pl by omega] at hot
  repeat' (first | (refine mj_ite (fun h => ?_) (fun h => ?_) <;> first | (exfalso; omega) | skip) | refine mj_vci (by first | omega | (simp (disch := omega) only [up_ne, up_at, q_up_at, q_up_ne, cp_ne]; omega)) ?_)
  refine l_Sway_tryPerson hW h5 h6 hsb hxy hpl hp hot hK 1681 0 0 0 σ r (by omega) (by omega) (by omega) ⟨_, (q_up_id _ rfl).symm⟩ ⟨_, (q_up_id _ rfl).symm⟩ (fun _ _ _ _ => rfl) hS rfl (by omega)
theorem l_Sway_find (hW : q_wB (q_BC σ b)) (h5 : 0 ≤ σ b 5 ∧ σ b 5 ≤ 40) (h6 : 0 ≤ σ b 6 ∧ σ b 6 ≤ 40) (hsb : ss < b ∨ b + 4 < ss) (hxy : q_land x y) {R : Int × Int × Int} (hK : ∀ σ', (∀ o, o ≠ ss → σ' o = σ o) → q_swC σ' ss R → K none σ') :
    ∀ (k : Nat) (p : Int) (τ : mj_W) (r : Int × Int × Int), 0 ≤ p → p + k = 8 → (∀ o, o ≠ ss → τ o = σ o) → q_swC τ ss r → q_swA (σ b 5) (σ b 6) (q_BC σ b) x y s k p r = R → mj_Wm i_Sway_find (n + 4) K 9 [some (rV 8 0 ss), some (rV 1 0 b), some (iV x), some (iV y), some (iV s), some (iV p), none] [] τ := by
  intro k
  induction k with
  | zero =>
    intro p τ r h0 h1 hf hS hR
    have hR : r = R := hR
    subst hR
    refine r_Sway_find [(9, [true, true, true, true, true, true, false])] 600 ?_
    repeat' (first | (refine mj_ite (fun h => ?_) (fun h => ?_) <;> first | (exfalso; omega) | skip) | refine mj_vci (by first | omega | (simp (disch := omega) only [up_ne, up_at, q_up_at, q_up_ne, cp_ne]; omega)) ?_)
    exact hK τ hf hS
  | succ k ih =>
    intro p τ r h0 h1 hf hS hR
    unfold q_swA at hR
    have tb : τ b = σ b := hf b (by omega)
    have tb1 : τ (b + 1) = σ (b + 1) := hf (b + 1) (by omega)
    have tb2 : τ (b + 2) = σ (b + 2) := hf (b + 2) (by omega)
    have tb3 : τ (b + 3) = σ (b + 3) := hf (b + 3) (by omega)
    have tb4 : τ (b + 4) = σ (b + 4) := hf (b + 4) (by omega)
    have eB : q_BC τ b = q_BC σ b := by
      show (_, _, _, _, _) = (_, _, _, _, _)
      rw [tb, tb1, tb2, tb3, tb4]
    have hc4 : 0 ≤ σ b 4 ∧ σ b 4 ≤ 8 := hW.1
    have fr := q_fnd_or (σ (b + 4)) hc4.1 p
    have hR : q_swA (σ b 5) (σ b 6) (q_BC σ b) x y s k (p + 1) (if q_fnd (σ (b + 4)) (σ b 4) p = -6 then r else q_swP (σ b 5) (σ b 6) (q_BC σ b) x y s p 1681 0 r) = R := hR
    refine r_Sway_find [(9, [true, true, true, true, true, true, false])] 600 ?_
    repeat' (first | (refine mj_ite (fun h => ?_) (fun h => ?_) <;> first | (exfalso; omega) | skip) | refine mj_vci (by first | omega | (simp (disch := omega) only [up_ne, up_at, q_up_at, q_up_ne, cp_ne]; omega)) ?_)
    refine c_Border_placeOf (by rw [tb]; exact hc4) ?_
    rw [tb4, tb]
    generalize hq : q_fnd (σ (b + 4)) (σ b 4) p = v at fr hR
    by_cases e1 : v = -6
    · rw [if_pos e1] at hR
      repeat' (first | (refine mj_ite (fun h => ?_) (fun h => ?_) <;> first | (exfalso; omega) | skip) | refine mj_vci (by first | omega | (simp (disch := omega) only [up_ne, up_at, q_up_at, q_up_ne, cp_ne]; omega)) ?_)
      exact ih (p + 1) τ r (by omega) (by omega) hf hS hR
    · rw [if_neg e1] at hR
      repeat' (first | (refine mj_ite (fun h => ?_) (fun h => ?_) <;> first | (exfalso; omega) | skip) | refine mj_vci (by first | omega | (simp (disch := omega) only [up_ne, up_at, q_up_at, q_up_ne, cp_ne]; omega)) ?_)
      refine c_Sway_tryPerson (p := p) (by rw [eB]; exact hW) (by rw [tb]; exact h5) (by rw [tb]; exact h6) hsb hxy (by rw [tb]; omega) (by rw [tb4]; omega) hS (fun σ1 s1 s2 => ?_)
      rw [eB, tb] at s2
      repeat' (first | (refine mj_ite (fun h => ?_) (fun h => ?_) <;> first | (exfalso; omega) | skip) | refine mj_vci (by first | omega | (simp (disch := omega) only [up_ne, up_at, q_up_at, q_up_ne, cp_ne]; omega)) ?_)
      exact ih (p + 1) σ1 _ (by omega) (by omega) (fun o ho => (s1 o ho).trans (hf o ho)) s2 hR
theorem c_Sway_find (hW : q_wB (q_BC σ b)) (h5 : 0 ≤ σ b 5 ∧ σ b 5 ≤ 40) (h6 : 0 ≤ σ b 6 ∧ σ b 6 ≤ 40) (hsb : ss < b ∨ b + 4 < ss) (hxy : q_land x y) (hK : ∀ σ', (∀ o, o ≠ ss → σ' o = σ o) → q_swC σ' ss (q_swA (σ b 5) (σ b 6) (q_BC σ b) x y s 8 0 (81, -6, -6)) → K none σ') : mj_Ok (n + 4) i_Sway_find [rV 8 0 ss, rV 1 0 b, iV x, iV y, iV s] σ K := by
  refine mj_enter (by decide) (Nat.le_of_ble_eq_true rfl) (fun hg => ?_)
  refine r_Sway_find [(9, [true, true, true, true, true, true, false])] 600 ?_
  refine l_Sway_find hW h5 h6 hsb hxy hK 8 0 _ (81, -6, -6) (by omega) (by omega) (fun o ho => up_ne _ _ _ ho) ⟨by rw [up_at, q_up_at], fun q => by exact absurd q (by decide)⟩ rfl
theorem c_Sway_isFound (hK : ∀ r, r = (if σ ss 0 < 81 then 1 else 0) → K (some (iV r)) σ) : mj_Ok (n + 1) i_Sway_isFound [rV 8 0 ss] σ K := by
  refine mj_enter (by decide) (Nat.le_of_ble_eq_true rfl) (fun hg => ?_)
  refine r_Sway_isFound [] 600 ?_
  repeat' (first | (refine mj_ite (fun h => ?_) (fun h => ?_) <;> first | (exfalso; omega) | skip) | refine mj_vci (by first | omega | (simp (disch := omega) only [up_ne, up_at, q_up_at, q_up_ne, cp_ne]; omega)) ?_)
  · rw [if_pos (by assumption)] at hK; exact hK _ rfl
  · rw [if_neg (by assumption)] at hK; exact hK _ rfl
theorem c_S_sway (hC : q_C σ) (hK : ∀ v σ', q_Fc σ σ' → v = (if ¬ (q_land x y ∧ (0 ≤ s ∧ s ≤ 2) ∧ 0 ≤ w ∧ w ≤ 2) then -2 else if (q_swA (σ 2 5) (σ 2 6) (q_BC σ 2) x y s 8 0 (81, -6, -6)).1 < 81 then (if w = 0 then (q_swA (σ 2 5) (σ 2 6) (q_BC σ 2) x y s 8 0 (81, -6, -6)).1 else if w = 1 then (q_swA (σ 2 5) (σ 2 6) (q_BC σ 2) x y s 8 0 (81, -6, -6)).2.1 else (q_swA (σ 2 5) (σ 2 6) (q_BC σ 2) x y s 8 0 (81, -6, -6)).2.2) else -6) → K (some (iV v)) σ') : mj_Ok (n + 5) i_S_sway [rV 11 0 0, iV x, iV y, iV s, iV w] σ K := by
  obtain ⟨h0, -⟩ := hC
  refine mj_enter (by decide) (Nat.le_of_ble_eq_true rfl) (fun hg => ?_)
  refine r_S_sway [] 600 ?_
  refine c_S_isLand (fun a1 a2 a3 a4 => ?_) (fun a0 => ?_)
  · repeat' (first | (refine mj_ite (fun h => ?_) (fun h => ?_) <;> first | (exfalso; omega) | skip) | refine mj_vci (by first | omega | (simp (disch := omega) only [up_ne, up_at, q_up_at, q_up_ne, cp_ne]; omega)) ?_)
    refine c_S_isSide (fun b1 b2 => ?_) (fun b0 => ?_)
    · by_cases hw : 0 ≤ w ∧ w ≤ 2
      · rw [if_neg (fun q => q ⟨⟨a1, a2, a3, a4⟩, ⟨b1, b2⟩, hw⟩)] at hK
        repeat' (first | (refine mj_ite (fun h => ?_) (fun h => ?_) <;> first | (exfalso; omega) | skip) | refine mj_vci (by first | omega | (simp (disch := omega) only [up_ne, up_at, q_up_at, q_up_ne, cp_ne]; omega)) ?_)
        refine c_Border_copyFrom (b := 44) (o := 2) (by omega) (by decide +kernel) (by decide +kernel) (fun σ1 s1 s2 s3 s4 s5 s6 s7 s8 s9 => ?_)
        have eB : q_BC σ1 44 = q_BC σ 2 := by
          show (_, _, _, _, _) = (_, _, _, _, _)
          rw [s1, s5, s6, s7, s8]
        refine c_Sway_find (b := 44) (ss := 49) (s := s) (by rw [eB]; exact h0.1) (by rw [s2]; exact h0.2.1) (by rw [s3]; exact h0.2.2.1) (by omega) ⟨a1, a2, a3, a4⟩ (fun σ2 t1 t2 => ?_)
        rw [eB, s2, s3] at t2
        have hf : q_Fc σ σ2 := fun o ho => (t1 o (by omega)).trans (s9 o (by omega) (by omega) (by omega) (by omega) (by omega))
        have key := fun v => hK v σ2 hf
        generalize q_swA (σ 2 5) (σ 2 6) (q_BC σ 2) x y s 8 0 (81, -6, -6) = R at key t2
        obtain ⟨u1, u2⟩ := t2
        refine c_Sway_isFound (ss := 49) (fun f hf9 => ?_)
        rw [u1] at hf9
        by_cases e : R.1 < 81
        · rw [if_pos e] at hf9 key
          obtain ⟨u3, u4⟩ := u2 e
          subst hf9
          rw [← u1, ← u3, ← u4] at key
          have hw3 : w = 0 ∨ w = 1 ∨ w = 2 := by omega
          rcases hw3 with hw3 | hw3 | hw3 <;> subst hw3
          · repeat' (first | (refine mj_ite (fun h => ?_) (fun h => ?_) <;> first | (exfalso; omega) | skip) | refine mj_vci (by first | omega | (simp (disch := omega) only [up_ne, up_at, q_up_at, q_up_ne, cp_ne]; omega)) ?_)
            exact key _ rfl
          · repeat' (first | (refine mj_ite (fun h => ?_) (fun h => ?_) <;> first | (exfalso; omega) | skip) | refine mj_vci (by first | omega | (simp (disch := omega) only [up_ne, up_at, q_up_at, q_up_ne, cp_ne]; omega)) ?_)
            exact key _ rfl
          · repeat' (first | (refine mj_ite (fun h => ?_) (fun h => ?_) <;> first | (exfalso; omega) | skip) | refine mj_vci (by first | omega | (simp (disch := omega) only [up_ne, up_at, q_up_at, q_up_ne, cp_ne]; omega)) ?_)
            exact key _ rfl
        · rw [if_neg e] at hf9 key
          subst hf9
          repeat' (first | (refine mj_ite (fun h => ?_) (fun h => ?_) <;> first | (exfalso; omega) | skip) | refine mj_vci (by first | omega | (simp (disch := omega) only [up_ne, up_at, q_up_at, q_up_ne, cp_ne]; omega)) ?_)
          exact key _ rfl
      · rw [if_pos (fun q => hw q.2.2)] at hK
        repeat' (first | (refine mj_ite (fun h => ?_) (fun h => ?_) <;> first | (exfalso; omega) | skip) | refine mj_vci (by first | omega | (simp (disch := omega) only [up_ne, up_at, q_up_at, q_up_ne, cp_ne]; omega)) ?_)
        all_goals exact hK _ σ (fun _ _ => rfl) rfl
    · rw [if_pos (fun q => b0 q.2.1)] at hK
      repeat' (first | (refine mj_ite (fun h => ?_) (fun h => ?_) <;> first | (exfalso; omega) | skip) | refine mj_vci (by first | omega | (simp (disch := omega) only [up_ne, up_at, q_up_at, q_up_ne, cp_ne]; omega)) ?_)
      exact hK _ σ (fun _ _ => rfl) rfl
  · rw [if_pos (fun q => a0 q.1)] at hK
    repeat' (first | (refine mj_ite (fun h => ?_) (fun h => ?_) <;> first | (exfalso; omega) | skip) | refine mj_vci (by first | omega | (simp (disch := omega) only [up_ne, up_at, q_up_at, q_up_ne, cp_ne]; omega)) ?_)
    exact hK _ σ (fun _ _ => rfl) rfl
end S6
