/-! the least walk: of both -/
def q_dst (a b x y : Int) : Int := (if a - x < 0 then -(a - x) else a - x) + (if b - y < 0 then -(b - y) else b - y)
theorem q_dst_in {a b x y : Int} (ha : 0 ≤ a ∧ a ≤ 40) (hb : 0 ≤ b ∧ b ≤ 40) (hx : 0 ≤ x ∧ x ≤ 40) (hy : 0 ≤ y ∧ y ≤ 40) : 0 ≤ q_dst a b x y ∧ q_dst a b x y ≤ 80 := by
  unfold q_dst
  (repeat' split) <;> omega
abbrev q_fr (B : q_B) (p x y : Int) : Prop := q_free B.1 B.2.1 B.2.2.1 B.2.2.2.1 p x y
noncomputable def q_swP (w e : Int) (B : q_B) (x y s p : Int) : Nat → Int → Int × Int × Int → Int × Int × Int
  | 0, _, r => r
  | k + 1, i, r => q_swP w e B x y s p k (i + 1) (@ite _ (q_fr B p (i / 41) (i % 41) ∧ q_dst (i / 41) (i % 41) (B.2.2.1 p) (B.2.2.2.1 p) < r.1 ∧ q_sideB w e (q_pos B p (i / 41) (i % 41)) x y = s) (Classical.propDecidable _) (q_dst (i / 41) (i % 41) (B.2.2.1 p) (B.2.2.2.1 p), p, 50 * (i / 41) + i % 41) r)
noncomputable def q_swA (w e : Int) (B : q_B) (x y s : Int) : Nat → Int → Int × Int × Int → Int × Int × Int
  | 0, _, r => r
  | k + 1, p, r => q_swA w e B x y s k (p + 1) (if q_fnd B.2.1 B.1 p = -6 then r else q_swP w e B x y s p 1681 0 r)
def q_swM (σ : mj_W) (g : Nat) (r : Int × Int × Int) : Prop := (r.1 = 81 ∧ σ g 29 = -6 ∧ σ g 30 = -6 ∧ σ g 31 = -6) ∨ ((0 ≤ r.1 ∧ r.1 ≤ 80) ∧ σ g 29 = r.1 ∧ σ g 30 = r.2.1 ∧ σ g 31 = r.2.2)
section M22
variable {n g : Nat} {σ : mj_W} {K : Option mj_V → mj_W → Prop} {x y z p w i j c d e k s m : Int} {B : q_B} {l : List q_A}
theorem c_M_sizeV (hx : -2147483648 < x) (hK : ∀ r, r = (if x < 0 then -x else x) → K (some (iV r)) σ) : mj_Ok (n + 1) i_M_size [iV x] σ K := c_M_size hx (hK _ rfl)
theorem l_M_trySway (hM : q_mB σ g) (hp : 0 ≤ p ∧ p ≤ 7) (hxy : q_land x y) {R : Int × Int × Int} (hK : ∀ σ', q_Fm σ σ' g → q_swM σ' g R → K none σ') :
    ∀ (k : Nat) (i : Int) (τ : mj_W) (r : Int × Int × Int), 0 ≤ i → i + k = 1681 → (∃ a b, q_BM τ g = q_pos (q_BM σ g) p a b) → q_Fs σ τ g → q_swM τ g r → q_swP (σ g 5) (σ g 6) (q_BM σ g) x y s p k i r = R → mj_Wm i_M_trySway (n + 5) K 19 [some (rV 12 0 g), some (iV p), some (iV x), some (iV y), some (iV s), some (iV (σ (g + 2) p)), some (iV (σ (g + 3) p)), some (iV i), none, none, none, none, none] [] τ := by
  have x0 : 0 ≤ σ (g + 2) p ∧ σ (g + 2) p ≤ 40 := hM.1.2.2.1 p
  have y0 : 0 ≤ σ (g + 3) p ∧ σ (g + 3) p ≤ 40 := hM.1.2.2.2.1 p
  intro k
  induction k with
  | zero =>
    intro i τ r h0 h1 hB hF hS hR
    obtain ⟨a, b, hB⟩ := hB
    subst hR
    refine r_M_trySway [(19, [true, true, true, true, true, true, true, true, false, false, false, false, false])] 600 ?_
    repeat' (first | (refine mj_ite (fun h => ?_) (fun h => ?_) <;> first | (exfalso; omega) | skip) | refine mj_vci (by first | omega | (simp (disch := omega) only [up_ne, up_at, q_up_at, q_up_ne, cp_ne]; omega)) ?_)
    refine c_M_putB hp (fun σ1 s1 s2 => ?_)
    repeat' (first | (refine mj_ite (fun h => ?_) (fun h => ?_) <;> first | (exfalso; omega) | skip) | refine mj_vci (by first | omega | (simp (disch := omega) only [up_ne, up_at, q_up_at, q_up_ne, cp_ne]; omega)) ?_)
    refine hK σ1 ⟨q_Fs_tr hF (q_pf_Fs s2), ?_⟩ ?_
    · rw [s1, hB, q_pospos]
      exact q_pos_id _ rfl rfl
    · unfold q_swM at hS ⊢
      rw [s2 g (by omega) (by omega)]
      exact hS
  | succ k ih =>
    intro i τ r h0 h1 hB hF hS hR
    obtain ⟨a, b, hB⟩ := hB
    unfold q_swP at hR
    have hu : 0 ≤ i / 41 ∧ i / 41 ≤ 40 := by omega
    have hv : 0 ≤ i % 41 ∧ i % 41 ≤ 40 := by omega
    have hd := q_dst_in hu hv x0 y0
    have hdd : q_dst (i / 41) (i % 41) (σ (g + 2) p) (σ (g + 3) p) = (if i / 41 - σ (g + 2) p < 0 then -(i / 41 - σ (g + 2) p) else i / 41 - σ (g + 2) p) + (if i % 41 - σ (g + 3) p < 0 then -(i % 41 - σ (g + 3) p) else i % 41 - σ (g + 3) p) := rfl
    have hR : q_swP (σ g 5) (σ g 6) (q_BM σ g) x y s p k (i + 1) (@ite _ (q_fr (q_BM σ g) p (i / 41) (i % 41) ∧ q_dst (i / 41) (i % 41) (σ (g + 2) p) (σ (g + 3) p) < r.1 ∧ q_sideB (σ g 5) (σ g 6) (q_pos (q_BM σ g) p (i / 41) (i % 41)) x y = s) (Classical.propDecidable _) (q_dst (i / 41) (i % 41) (σ (g + 2) p) (σ (g + 3) p), p, 50 * (i / 41) + i % 41) r) = R := hR
    refine r_M_trySway [(90, [true, true, true, true, true, true, true, true, true, true, true, false, false]), (196, [true, true, true, true, true, true, true, true, false, false, false, false, false])] 600 ?_
    repeat' (first | (refine mj_ite (fun h => ?_) (fun h => ?_) <;> first | (exfalso; omega) | skip) | refine mj_vci (by first | omega | (simp (disch := omega) only [up_ne, up_at, q_up_at, q_up_ne, cp_ne]; omega)) ?_)
    refine c_M_sizeV (by omega) (fun v1 hv1 => ?_)
    repeat' (first | (refine mj_ite (fun h => ?_) (fun h => ?_) <;> first | (exfalso; omega) | skip) | refine mj_vci (by first | omega | (simp (disch := omega) only [up_ne, up_at, q_up_at, q_up_ne, cp_ne]; omega)) ?_)
    refine c_M_sizeV (by omega) (fun v2 hv2 => ?_)
    rw [← hv1, ← hv2] at hdd
    rw [hdd] at hR hd
    clear hv1 hv2
    repeat' (first | (refine mj_ite (fun h => ?_) (fun h => ?_) <;> first | (exfalso; omega) | skip) | refine mj_vci (by first | omega | (simp (disch := omega) only [up_ne, up_at, q_up_at, q_up_ne, cp_ne]; omega)) ?_)
    refine c_M_putB hp (fun σ1 s1 s2 => ?_)
    have eB1 : q_BM σ1 g = q_BM σ g := by
      rw [s1, hB, q_pospos]
      exact q_pos_id _ rfl rfl
    have hF1 : q_Fs σ σ1 g := q_Fs_tr hF (q_pf_Fs s2)
    have hM1 : q_mB σ1 g := q_Fm_mB ⟨hF1, eB1⟩ hM
    have hS1 : q_swM σ1 g r := by
      unfold q_swM at hS ⊢
      rw [s2 g (by omega) (by omega)]
      exact hS
    have next : ∀ (τ' : mj_W) (r' : Int × Int × Int), (∃ a b, q_BM τ' g = q_pos (q_BM σ g) p a b) → q_Fs σ τ' g → q_swM τ' g r' → q_swP (σ g 5) (σ g 6) (q_BM σ g) x y s p k (i + 1) r' = R → mj_Wm i_M_trySway (n + 5) K 196 [some (rV 12 0 g), some (iV p), some (iV x), some (iV y), some (iV s), some (iV (σ (g + 2) p)), some (iV (σ (g + 3) p)), some (iV i), none, none, none, none, none] [] τ' := by
      intro τ' r' n1 n2 n3 n4
      refine r_M_trySway [(19, [true, true, true, true, true, true, true, true, false, false, false, false, false])] 600 ?_
      repeat' (first | (refine mj_ite (fun h => ?_) (fun h => ?_) <;> first | (exfalso; omega) | skip) | refine mj_vci (by first | omega | (simp (disch := omega) only [up_ne, up_at, q_up_at, q_up_ne, cp_ne]; omega)) ?_)
      exact ih (i + 1) τ' r' (by omega) (by omega) n1 n2 n3 n4
    have skip : ¬ (q_fr (q_BM σ g) p (i / 41) (i % 41) ∧ v1 + v2 < r.1 ∧ q_sideB (σ g 5) (σ g 6) (q_pos (q_BM σ g) p (i / 41) (i % 41)) x y = s) → mj_Wm i_M_trySway (n + 5) K 196 [some (rV 12 0 g), some (iV p), some (iV x), some (iV y), some (iV s), some (iV (σ (g + 2) p)), some (iV (σ (g + 3) p)), some (iV i), none, none, none, none, none] [] σ1 := by
      intro q
      rw [if_neg q] at hR
      exact next σ1 r ⟨_, _, eB1.trans (q_pos_id (q_BM σ g) rfl rfl).symm⟩ hF1 hS1 hR
    have go : q_fr (q_BM σ g) p (i / 41) (i % 41) → mj_Wm i_M_trySway (n + 5) K 90 [some (rV 12 0 g), some (iV p), some (iV x), some (iV y), some (iV s), some (iV (σ (g + 2) p)), some (iV (σ (g + 3) p)), some (iV i), some (iV (i / 41)), some (iV (i % 41)), some (iV (v1 + v2)), none, none] [] σ1 := by
      intro hfr
      have go2 : v1 + v2 < r.1 → mj_Wm i_M_trySway (n + 5) K 106 [some (rV 12 0 g), some (iV p), some (iV x), some (iV y), some (iV s), some (iV (σ (g + 2) p)), some (iV (σ (g + 3) p)), some (iV i), some (iV (i / 41)), some (iV (i % 41)), some (iV (v1 + v2)), none, none] [] σ1 := by
        intro hlt
        refine r_M_trySway [(196, [true, true, true, true, true, true, true, true, false, false, false, false, false])] 600 ?_
        refine c_M_putB hp (fun σ2 t1 t2 => ?_)
        rw [eB1] at t1
        have hF2 : q_Fs σ σ2 g := q_Fs_tr hF1 (q_pf_Fs t2)
        have hM2 : q_mB σ2 g := q_Fs_mB hF2 (by rw [t1]; exact q_wB_pos hM.1 ⟨hu.1, hu.2, hv.1, hv.2⟩ hfr) hM
        repeat' (first | (refine mj_ite (fun h => ?_) (fun h => ?_) <;> first | (exfalso; omega) | skip) | refine mj_vci (by first | omega | (simp (disch := omega) only [up_ne, up_at, q_up_at, q_up_ne, cp_ne]; omega)) ?_)
        refine c_M_layB hM2 (fun σ3 u1 u2 => ?_)
        have hF3 : q_Fs σ σ3 g := q_Fs_tr hF2 (q_lf_Fm u2).1
        have eB3 : q_BM σ3 g = q_pos (q_BM σ g) p (i / 41) (i % 41) := (q_lf_B u2).trans t1
        have f29 : σ3 g 29 = σ1 g 29 := by rw [u2.1 29 (by omega), t2 g (by omega) (by omega)]
        have f30 : σ3 g 30 = σ1 g 30 := by rw [u2.1 30 (by omega), t2 g (by omega) (by omega)]
        have f31 : σ3 g 31 = σ1 g 31 := by rw [u2.1 31 (by omega), t2 g (by omega) (by omega)]
        repeat' (first | (refine mj_ite (fun h => ?_) (fun h => ?_) <;> first | (exfalso; omega) | skip) | refine mj_vci (by first | omega | (simp (disch := omega) only [up_ne, up_at, q_up_at, q_up_ne, cp_ne]; omega)) ?_)
        refine c_M_sideB u1 (q_mB_b hM2) (by omega) (by omega) (fun v9 hv9 => ?_)
        rw [t1, hF2.2 5 (by omega) (by omega), hF2.2 6 (by omega) (by omega)] at hv9
        have fB : ∀ v1 v2 v3 : Int, q_BM (mj_up (mj_up (mj_up σ3 g 29 v1) g 30 v2) g 31 v3) g = q_pos (q_BM σ g) p (i / 41) (i % 41) := by
          intro v1 v2 v3
          rw [← eB3]
          refine q_B_ext ?_ ?_ ?_ ?_ ?_
          · simp (disch := omega) only [up_at, q_up_ne]; rfl
          · simp (disch := omega) only [up_ne]; rfl
          · simp (disch := omega) only [up_ne]; rfl
          · simp (disch := omega) only [up_ne]; rfl
          · simp (disch := omega) only [up_ne]; rfl
        have fF : ∀ v1 v2 v3 : Int, q_Fs σ (mj_up (mj_up (mj_up σ3 g 29 v1) g 30 v2) g 31 v3) g := by
          intro v1 v2 v3
          refine q_Fs_tr hF3 ⟨fun o ho => ?_, fun f f1 f2 => ?_⟩
          · simp (disch := omega) only [up_ne]
          · simp (disch := omega) only [up_at, q_up_ne]
        by_cases hs : v9 = s
        · have hx : q_fr (q_BM σ g) p (i / 41) (i % 41) ∧ v1 + v2 < r.1 ∧ q_sideB (σ g 5) (σ g 6) (q_pos (q_BM σ g) p (i / 41) (i % 41)) x y = s := ⟨hfr, hlt, by rw [← hv9]; exact hs⟩
          rw [if_pos hx] at hR
          repeat' (first | (refine mj_ite (fun h => ?_) (fun h => ?_) <;> first | (exfalso; omega) | skip) | refine mj_vci (by first | omega | (simp (disch := omega) only [up_ne, up_at, q_up_at, q_up_ne, cp_ne]; omega)) ?_)
          refine next _ _ ⟨_, _, fB _ _ _⟩ (fF _ _ _) (Or.inr ⟨hd, ?_, ?_, ?_⟩) hR
          · simp (disch := omega) only [up_at, q_up_ne, q_up_at]
          · simp (disch := omega) only [up_at, q_up_ne, q_up_at]
          · simp (disch := omega) only [up_at, q_up_at]
        · have hx : ¬ (q_fr (q_BM σ g) p (i / 41) (i % 41) ∧ v1 + v2 < r.1 ∧ q_sideB (σ g 5) (σ g 6) (q_pos (q_BM σ g) p (i / 41) (i % 41)) x y = s) := fun q => hs (by rw [hv9]; exact q.2.2)
          rw [if_neg hx] at hR
          refine mj_ite (fun q => absurd q hs) (fun _ => ?_)
          repeat' (first | (refine mj_ite (fun h => ?_) (fun h => ?_) <;> first | (exfalso; omega) | skip) | refine mj_vci (by first | omega | (simp (disch := omega) only [up_ne, up_at, q_up_at, q_up_ne, cp_ne]; omega)) ?_)
          refine next _ r ⟨_, _, fB _ _ _⟩ (fF _ _ _) ?_ hR
          unfold q_swM at hS1 ⊢
          simp (disch := omega) only [up_at, q_up_ne, q_up_at]
          rw [f29, f30, f31]
          exact hS1
      rcases hS1 with ⟨r1, r2, r3, r4⟩ | ⟨r1, r2, r3, r4⟩
      · refine r_M_trySway [(106, [true, true, true, true, true, true, true, true, true, true, true, false, false]), (196, [true, true, true, true, true, true, true, true, false, false, false, false, false])] 600 ?_
        repeat' (first | (refine mj_ite (fun h => ?_) (fun h => ?_) <;> first | (exfalso; omega) | skip) | refine mj_vci (by first | omega | (simp (disch := omega) only [up_ne, up_at, q_up_at, q_up_ne, cp_ne]; omega)) ?_)
        exact go2 (by omega)
      · refine r_M_trySway [(106, [true, true, true, true, true, true, true, true, true, true, true, false, false]), (196, [true, true, true, true, true, true, true, true, false, false, false, false, false])] 600 ?_
        repeat' (first | (refine mj_ite (fun h => ?_) (fun h => ?_) <;> first | (exfalso; omega) | skip) | refine mj_vci (by first | omega | (simp (disch := omega) only [up_ne, up_at, q_up_at, q_up_ne, cp_ne]; omega)) ?_)
        · exact go2 (by omega)
        · exact skip (fun q => by omega)
    have hc1 : 0 ≤ σ1 g 0 ∧ σ1 g 0 ≤ 8 := hM1.1.1
    have hfree : q_fr (q_BM σ1 g) p (i / 41) (i % 41) ↔ q_fr (q_BM σ g) p (i / 41) (i % 41) := by rw [eB1]
    repeat' (first | (refine mj_ite (fun h => ?_) (fun h => ?_) <;> first | (exfalso; omega) | skip) | refine mj_vci (by first | omega | (simp (disch := omega) only [up_ne, up_at, q_up_at, q_up_ne, cp_ne]; omega)) ?_)
    refine c_M_whoAt hc1 hM1.1.2.1 (fun w0 => ?_) (fun j w1 w2 w3 w4 => ?_)
    · repeat' (first | (refine mj_ite (fun h => ?_) (fun h => ?_) <;> first | (exfalso; omega) | skip) | refine mj_vci (by first | omega | (simp (disch := omega) only [up_ne, up_at, q_up_at, q_up_ne, cp_ne]; omega)) ?_)
      exact go (hfree.mp (fun j j1 j2 _ => w0 j j1 j2))
    · by_cases ep : σ1 (g + 1) j = p
      · rw [ep]
        repeat' (first | (refine mj_ite (fun h => ?_) (fun h => ?_) <;> first | (exfalso; omega) | skip) | refine mj_vci (by first | omega | (simp (disch := omega) only [up_ne, up_at, q_up_at, q_up_ne, cp_ne]; omega)) ?_)
        refine go (hfree.mp (fun j' j1 j2 j3 j4 j5 => ?_))
        have := hM1.1.2.2.2.2.2.2 j' j j1 j2 w1 w2 (j4.trans w3.symm) (j5.trans w4.symm)
        rw [this] at j3
        exact j3 ep
      · have hr := hM1.1.2.1 j
        have hr : 0 ≤ σ1 (g + 1) j ∧ σ1 (g + 1) j ≤ 7 := hr
        have sk := skip (fun q => (hfree.mpr q.1) j w1 w2 ep w3 w4)
        generalize σ1 (g + 1) j = v at ep hr
        repeat' (first | (refine mj_ite (fun h => ?_) (fun h => ?_) <;> first | (exfalso; omega) | skip) | refine mj_vci (by first | omega | (simp (disch := omega) only [up_ne, up_at, q_up_at, q_up_ne, cp_ne]; omega)) ?_)
        exact sk
theorem c_M_trySway (hM : q_mB σ g) (hp : 0 ≤ p ∧ p ≤ 7) (hxy : q_land x y) {r : Int × Int × Int} (hS : q_swM σ g r) (hK : ∀ σ', q_Fm σ σ' g → q_swM σ' g (q_swP (σ g 5) (σ g 6) (q_BM σ g) x y s p 1681 0 r) → K none σ') : mj_Ok (n + 5) i_M_trySway [rV 12 0 g, iV p, iV x, iV y, iV s] σ K := by
  refine mj_enter (by decide) (Nat.le_of_ble_eq_true rfl) (fun hg => ?_)
  refine r_M_trySway [(19, [true, true, true, true, true, true, true, true, false, false, false, false, false])] 600 ?_
  repeat' (first | (refine mj_ite (fun h => ?_) (fun h => ?_) <;> first | (exfalso; omega) | skip) | refine mj_vci (by first | omega | (simp (disch := omega) only [up_ne, up_at, q_up_at, q_up_ne, cp_ne]; omega)) ?_)
  exact l_M_trySway hM hp hxy hK 1681 0 σ r (by omega) (by omega) ⟨_, _, (q_pos_id (q_BM σ g) rfl rfl).symm⟩ (q_Fs_rfl σ g) hS rfl
theorem l_M_sway (hM : q_mB σ g) (hxy : q_land x y) (hw : 0 ≤ w ∧ w ≤ 2) {R : Int × Int × Int} (hK : ∀ v σ', q_Fm σ σ' g → v = (if R.1 < 81 then (if w = 0 then R.1 else if w = 1 then R.2.1 else R.2.2) else -6) → K (some (iV v)) σ') :
    ∀ (k : Nat) (p : Int) (τ : mj_W) (r : Int × Int × Int), 0 ≤ p → p + k = 8 → q_Fm σ τ g → q_swM τ g r → q_swA (σ g 5) (σ g 6) (q_BM σ g) x y s k p r = R → mj_Wm i_M_sway (n + 6) K 57 [some (rV 12 0 g), some (iV x), some (iV y), some (iV s), some (iV w), some (iV p)] [] τ := by
  intro k
  induction k with
  | zero =>
    intro p τ r h0 h1 hF hS hR
    have hR : r = R := hR
    subst hR
    have key := fun v => hK v τ hF
    have fin : ∀ v, v = (if w = 0 then τ g 29 else if w = 1 then τ g 30 else τ g 31) → K (some (iV v)) τ := by
      intro v hv
      refine key v ?_
      rw [hv]
      rcases hS with ⟨r1, r2, r3, r4⟩ | ⟨r1, r2, r3, r4⟩
      · have l9 : ¬ r.1 < 81 := by omega
        rw [if_neg l9, r2, r3, r4]
        (repeat' split) <;> rfl
      · have l9 : r.1 < 81 := by omega
        rw [if_pos l9, r2, r3, r4]
    refine r_M_sway [(57, [true, true, true, true, true, true])] 600 ?_
    repeat' (first | (refine mj_ite (fun h => ?_) (fun h => ?_) <;> first | (exfalso; omega) | skip) | refine mj_vci (by first | omega | (simp (disch := omega) only [up_ne, up_at, q_up_at, q_up_ne, cp_ne]; omega)) ?_)
    · exact fin _ (by rw [if_pos h])
    · rename_i h9
      exact fin _ (by rw [if_neg h9, if_pos h])
    · rename_i h9
      exact fin _ (by rw [if_neg h9, if_neg h])
  | succ k ih =>
    intro p τ r h0 h1 hF hS hR
    unfold q_swA at hR
    have hMt := q_Fm_mB hF hM
    have hct : 0 ≤ τ g 0 ∧ τ g 0 ≤ 8 := hMt.1.1
    have fr := q_fnd_or (τ (g + 1)) hct.1 p
    have hfe : q_fnd (τ (g + 1)) (τ g 0) p = q_fnd (q_BM σ g).2.1 (q_BM σ g).1 p := by rw [← hF.2]; rfl
    rw [← hfe] at hR
    refine r_M_sway [(57, [true, true, true, true, true, true])] 600 ?_
    repeat' (first | (refine mj_ite (fun h => ?_) (fun h => ?_) <;> first | (exfalso; omega) | skip) | refine mj_vci (by first | omega | (simp (disch := omega) only [up_ne, up_at, q_up_at, q_up_ne, cp_ne]; omega)) ?_)
    refine c_M_placeOf hct hMt.1.2.2.2.2.2.1 (fun v hv => ?_)
    by_cases e1 : v = -6
    · rw [if_pos (by omega)] at hR
      repeat' (first | (refine mj_ite (fun h => ?_) (fun h => ?_) <;> first | (exfalso; omega) | skip) | refine mj_vci (by first | omega | (simp (disch := omega) only [up_ne, up_at, q_up_at, q_up_ne, cp_ne]; omega)) ?_)
      exact ih (p + 1) τ r (by omega) (by omega) hF hS hR
    · rw [if_neg (by omega)] at hR
      repeat' (first | (refine mj_ite (fun h => ?_) (fun h => ?_) <;> first | (exfalso; omega) | skip) | refine mj_vci (by first | omega | (simp (disch := omega) only [up_ne, up_at, q_up_at, q_up_ne, cp_ne]; omega)) ?_)
      refine c_M_trySway hMt (by omega) hxy hS (fun σ1 s1 s2 => ?_)
      rw [hF.2, hF.1.2 5 (by omega) (by omega), hF.1.2 6 (by omega) (by omega)] at s2
      repeat' (first | (refine mj_ite (fun h => ?_) (fun h => ?_) <;> first | (exfalso; omega) | skip) | refine mj_vci (by first | omega | (simp (disch := omega) only [up_ne, up_at, q_up_at, q_up_ne, cp_ne]; omega)) ?_)
      exact ih (p + 1) σ1 _ (by omega) (by omega) (q_Fm_tr hF s1) s2 hR
theorem c_M_sway (hM : q_mB σ g) (hK : ∀ v σ', q_Fm σ σ' g → v = (if ¬ (q_land x y ∧ (0 ≤ s ∧ s ≤ 2) ∧ 0 ≤ w ∧ w ≤ 2) then -2 else if (q_swA (σ g 5) (σ g 6) (q_BM σ g) x y s 8 0 (81, -6, -6)).1 < 81 then (if w = 0 then (q_swA (σ g 5) (σ g 6) (q_BM σ g) x y s 8 0 (81, -6, -6)).1 else if w = 1 then (q_swA (σ g 5) (σ g 6) (q_BM σ g) x y s 8 0 (81, -6, -6)).2.1 else (q_swA (σ g 5) (σ g 6) (q_BM σ g) x y s 8 0 (81, -6, -6)).2.2) else -6) → K (some (iV v)) σ') : mj_Ok (n + 6) i_M_sway [rV 12 0 g, iV x, iV y, iV s, iV w] σ K := by
  refine mj_enter (by decide) (Nat.le_of_ble_eq_true rfl) (fun hg => ?_)
  refine r_M_sway [(57, [true, true, true, true, true, true])] 600 ?_
  refine c_M_isLand (fun a1 a2 a3 a4 => ?_) (fun a0 => ?_)
  · repeat' (first | (refine mj_ite (fun h => ?_) (fun h => ?_) <;> first | (exfalso; omega) | skip) | refine mj_vci (by first | omega | (simp (disch := omega) only [up_ne, up_at, q_up_at, q_up_ne, cp_ne]; omega)) ?_)
    refine c_M_in (fun b1 b2 => ?_) (fun b0 => ?_)
    · repeat' (first | (refine mj_ite (fun h => ?_) (fun h => ?_) <;> first | (exfalso; omega) | skip) | refine mj_vci (by first | omega | (simp (disch := omega) only [up_ne, up_at, q_up_at, q_up_ne, cp_ne]; omega)) ?_)
      refine c_M_in (fun c1 c2 => ?_) (fun c0 => ?_)
      · rw [if_neg (fun q => q ⟨⟨a1, a2, a3, a4⟩, ⟨b1, b2⟩, c1, c2⟩)] at hK
        have eB : q_BM (mj_up (mj_up (mj_up σ g 29 (-6)) g 30 (-6)) g 31 (-6)) g = q_BM σ g := by
          refine q_B_ext ?_ ?_ ?_ ?_ ?_
          · simp (disch := omega) only [up_at, q_up_ne]; rfl
          · simp (disch := omega) only [up_ne]; rfl
          · simp (disch := omega) only [up_ne]; rfl
          · simp (disch := omega) only [up_ne]; rfl
          · simp (disch := omega) only [up_ne]; rfl
        have hF : q_Fm σ (mj_up (mj_up (mj_up σ g 29 (-6)) g 30 (-6)) g 31 (-6)) g := by
          refine ⟨⟨fun o ho => ?_, fun f f1 f2 => ?_⟩, eB⟩
          · simp (disch := omega) only [up_ne]
          · simp (disch := omega) only [up_at, q_up_ne]
        repeat' (first | (refine mj_ite (fun h => ?_) (fun h => ?_) <;> first | (exfalso; omega) | skip) | refine mj_vci (by first | omega | (simp (disch := omega) only [up_ne, up_at, q_up_at, q_up_ne, cp_ne]; omega)) ?_)
        refine l_M_sway hM ⟨a1, a2, a3, a4⟩ ⟨c1, c2⟩ hK 8 0 _ (81, -6, -6) (by omega) (by omega) hF (Or.inl ⟨rfl, ?_, ?_, ?_⟩) rfl
        · simp (disch := omega) only [up_at, q_up_ne, q_up_at]
        · simp (disch := omega) only [up_at, q_up_ne, q_up_at]
        · simp (disch := omega) only [up_at, q_up_at]
      · rw [if_pos (fun q => c0 q.2.2)] at hK
        repeat' (first | (refine mj_ite (fun h => ?_) (fun h => ?_) <;> first | (exfalso; omega) | skip) | refine mj_vci (by first | omega | (simp (disch := omega) only [up_ne, up_at, q_up_at, q_up_ne, cp_ne]; omega)) ?_)
        exact hK _ σ (q_Fm_rfl σ g) rfl
    · rw [if_pos (fun q => b0 q.2.1)] at hK
      repeat' (first | (refine mj_ite (fun h => ?_) (fun h => ?_) <;> first | (exfalso; omega) | skip) | refine mj_vci (by first | omega | (simp (disch := omega) only [up_ne, up_at, q_up_at, q_up_ne, cp_ne]; omega)) ?_)
      exact hK _ σ (q_Fm_rfl σ g) rfl
  · rw [if_pos (fun q => a0 q.1)] at hK
    repeat' (first | (refine mj_ite (fun h => ?_) (fun h => ?_) <;> first | (exfalso; omega) | skip) | refine mj_vci (by first | omega | (simp (disch := omega) only [up_ne, up_at, q_up_at, q_up_ne, cp_ne]; omega)) ?_)
    exact hK _ σ (q_Fm_rfl σ g) rfl
end M22
