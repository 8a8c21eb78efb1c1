/-! the model passes its days and takes them back -/
def q_z8 (B : q_B) : Prop := ∀ j, ¬ (0 ≤ j ∧ j < 8) → B.2.1 j = 0 ∧ B.2.2.1 j = 0 ∧ B.2.2.2.1 j = 0 ∧ B.2.2.2.2 j = 0
def q_had (σ : mj_W) (g : Nat) (B : q_B) : Prop := (∀ j, 0 ≤ j → j < 8 → σ (g + 15) j = B.2.1 j ∧ σ (g + 15) (8 + j) = B.2.2.1 j ∧ σ (g + 15) (16 + j) = B.2.2.2.1 j ∧ σ (g + 15) (24 + j) = B.2.2.2.2 j) ∧ σ (g + 15) 32 = B.1
/-- asking changes only what is scratch, and the border perhaps -/
def q_Fs (σ σ' : mj_W) (g : Nat) : Prop := (∀ o, (o < g ∨ g + 22 < o ∨ (g + 4 < o ∧ o < g + 11)) → σ' o = σ o) ∧ (∀ f, 5 ≤ f → f ≤ 16 → σ' g f = σ g f)
def q_Fm (σ σ' : mj_W) (g : Nat) : Prop := q_Fs σ σ' g ∧ q_BM σ' g = q_BM σ g
theorem q_Fs_rfl (σ : mj_W) (g : Nat) : q_Fs σ σ g := ⟨fun _ _ => rfl, fun _ _ _ => rfl⟩
theorem q_Fs_tr {σ1 σ2 σ3 : mj_W} {g : Nat} (h : q_Fs σ1 σ2 g) (h' : q_Fs σ2 σ3 g) : q_Fs σ1 σ3 g := ⟨fun o ho => (h'.1 o ho).trans (h.1 o ho), fun f f1 f2 => (h'.2 f f1 f2).trans (h.2 f f1 f2)⟩
theorem q_Fm_tr {σ1 σ2 σ3 : mj_W} {g : Nat} (h : q_Fm σ1 σ2 g) (h' : q_Fm σ2 σ3 g) : q_Fm σ1 σ3 g := ⟨q_Fs_tr h.1 h'.1, h'.2.trans h.2⟩
theorem q_Fm_rfl (σ : mj_W) (g : Nat) : q_Fm σ σ g := ⟨q_Fs_rfl σ g, rfl⟩
theorem q_lf_Fm {σ σ' : mj_W} {g : Nat} (h : q_lf σ σ' g) : q_Fm σ σ' g := ⟨⟨fun o ho => h.2 o (by omega) (by omega) (by omega), fun f f1 f2 => h.1 f (by omega)⟩, q_lf_B h⟩
theorem q_Fm_mB {σ σ' : mj_W} {g : Nat} (h : q_Fm σ σ' g) (hM : q_mB σ g) : q_mB σ' g := by
  obtain ⟨⟨h1, h2⟩, h3⟩ := h
  unfold q_mB
  rw [h3, h2 5 (by omega) (by omega), h2 6 (by omega) (by omega), h2 7 (by omega) (by omega)]
  exact hM
theorem q_BM_z {σ : mj_W} {g : Nat} (hg : mj_rg σ) (hG : g = 58) : q_z8 (q_BM σ g) := by
  subst hG
  intro j hj
  exact ⟨mj_rg_z hg _ _ hj, mj_rg_z hg _ _ hj, mj_rg_z hg _ _ hj, mj_rg_z hg _ _ hj⟩
theorem q_B_ext {σ : mj_W} {g : Nat} {B : q_B} (h0 : σ g 0 = B.1) (h1 : σ (g + 1) = B.2.1) (h2 : σ (g + 2) = B.2.2.1) (h3 : σ (g + 3) = B.2.2.2.1) (h4 : σ (g + 4) = B.2.2.2.2) : q_BM σ g = B := by
  unfold q_BM
  rw [h0, h1, h2, h3, h4]
section M18
variable {n g : Nat} {σ : mj_W} {K : Option mj_V → mj_W → Prop} {x y z p w i j c d he k : Int} {B : q_B} {l : List q_A}
theorem l_M_keepNow (hK : ∀ σ', q_had σ' g (q_BM σ g) → (∀ o, o ≠ g + 15 → σ' o = σ o) → K none σ') : ∀ (k : Nat) (i : Int) (τ : mj_W), 0 ≤ i → i + k = 8 → (∀ o, o ≠ g + 15 → τ o = σ o) → (∀ j, 0 ≤ j → j < i → τ (g + 15) j = σ (g + 1) j ∧ τ (g + 15) (8 + j) = σ (g + 2) j ∧ τ (g + 15) (16 + j) = σ (g + 3) j ∧ τ (g + 15) (24 + j) = σ (g + 4) j) → mj_Wm i_M_keepNow (n + 1) K 2 [some (rV 12 0 g), some (iV i)] [] τ := by
  intro k
  induction k with
  | zero =>
    intro i τ h0 h1 t1 t2
    refine r_M_keepNow [(2, [true, true])] 600 ?_
    repeat' (first | (refine mj_ite (fun h => ?_) (fun h => ?_) <;> first | (exfalso; omega) | skip) | refine mj_vci (by first | omega | (simp (disch := omega) only [up_ne, up_at, q_up_at, q_up_ne, cp_ne]; omega)) ?_)
    refine hK _ ⟨fun j j0 j1 => ?_, ?_⟩ (fun o ho => by rw [up_ne _ _ _ ho]; exact t1 o ho)
    · rw [up_at, q_up_ne _ _ (by omega), q_up_ne _ _ (by omega), q_up_ne _ _ (by omega), q_up_ne _ _ (by omega)]
      exact t2 j j0 (by omega)
    · rw [up_at, q_up_at, t1 g (by omega)]
      rfl
  | succ k ih =>
    intro i τ h0 h1 t1 t2
    have u1 := t1 (g + 1) (by omega)
    have u2 := t1 (g + 2) (by omega)
    have u3 := t1 (g + 3) (by omega)
    have u4 := t1 (g + 4) (by omega)
    refine r_M_keepNow [(2, [true, true])] 600 ?_
    repeat' (first | (refine mj_ite (fun h => ?_) (fun h => ?_) <;> first | (exfalso; omega) | skip) | refine mj_vci (by first | omega | (simp (disch := omega) only [up_ne, up_at, q_up_at, q_up_ne, cp_ne]; omega)) ?_)
    refine ih (i + 1) _ (by omega) (by omega) (fun o ho => ?_) (fun j j0 j1 => ?_)
    · simp (disch := omega) only [up_ne]
      exact t1 o ho
    · have tj := t2 j j0
      simp (disch := omega) only [up_ne, up_at, u1, u2, u3, u4]
      simp only [q_up]
      by_cases e : j = i
      · subst e
        refine ⟨?_, ?_, ?_, ?_⟩ <;> grind
      · have tj := tj (by omega)
        refine ⟨?_, ?_, ?_, ?_⟩ <;> grind
theorem c_M_keepNow (hK : ∀ σ', q_had σ' g (q_BM σ g) → (∀ o, o ≠ g + 15 → σ' o = σ o) → K none σ') : mj_Ok (n + 1) i_M_keepNow [rV 12 0 g] σ K := by
  refine mj_enter (by decide) (Nat.le_of_ble_eq_true rfl) (fun hg => ?_)
  refine r_M_keepNow [(2, [true, true])] 600 ?_
  exact l_M_keepNow hK 8 0 σ (by omega) (by omega) (fun _ _ => rfl) (fun j j0 j1 => by omega)
theorem l_M_back (hG : g = 58) (hg : mj_rg σ) (hH : q_had σ g B) (hz : q_z8 B) (hK : ∀ σ', q_BM σ' g = B → (∀ f, f ≠ 0 → σ' g f = σ g f) → (∀ o, o ≠ g → o ≠ g + 1 → o ≠ g + 2 → o ≠ g + 3 → o ≠ g + 4 → σ' o = σ o) → K (some (iV x)) σ') : ∀ (k : Nat) (i : Int) (τ : mj_W), 0 ≤ i → i + k = 8 → (∀ o, o ≠ g + 1 → o ≠ g + 2 → o ≠ g + 3 → o ≠ g + 4 → τ o = σ o) → (∀ j, 0 ≤ j → j < i → τ (g + 1) j = B.2.1 j ∧ τ (g + 2) j = B.2.2.1 j ∧ τ (g + 3) j = B.2.2.2.1 j ∧ τ (g + 4) j = B.2.2.2.2 j) → (∀ j, ¬ (0 ≤ j ∧ j < 8) → τ (g + 1) j = 0 ∧ τ (g + 2) j = 0 ∧ τ (g + 3) j = 0 ∧ τ (g + 4) j = 0) → mj_Wm i_M_back (n + 1) K 2 [some (rV 12 0 g), some (iV x), some (iV i)] [] τ := by
  intro k
  induction k with
  | zero =>
    intro i τ h0 h1 t1 t2 t3
    have u0 := t1 g (by omega) (by omega) (by omega) (by omega)
    have u15 := t1 (g + 15) (by omega) (by omega) (by omega) (by omega)
    have key : ∀ j, τ (g + 1) j = B.2.1 j ∧ τ (g + 2) j = B.2.2.1 j ∧ τ (g + 3) j = B.2.2.2.1 j ∧ τ (g + 4) j = B.2.2.2.2 j := by
      intro j
      by_cases e : 0 ≤ j ∧ j < 8
      · exact t2 j e.1 (by omega)
      · obtain ⟨a1, a2, a3, a4⟩ := t3 j e
        obtain ⟨b1, b2, b3, b4⟩ := hz j e
        rw [a1, a2, a3, a4, b1, b2, b3, b4]
        exact ⟨rfl, rfl, rfl, rfl⟩
    refine r_M_back [(2, [true, true, true])] 600 ?_
    repeat' (first | (refine mj_ite (fun h => ?_) (fun h => ?_) <;> first | (exfalso; omega) | skip) | refine mj_vci (by first | omega | (simp (disch := omega) only [up_ne, up_at, q_up_at, q_up_ne, cp_ne]; omega)) ?_)
    refine hK _ (q_B_ext ?_ ?_ ?_ ?_ ?_) ?_ ?_
    · rw [up_at, q_up_at, u15]; exact hH.2
    · rw [up_ne _ _ _ (by omega)]; funext j; exact (key j).1
    · rw [up_ne _ _ _ (by omega)]; funext j; exact (key j).2.1
    · rw [up_ne _ _ _ (by omega)]; funext j; exact (key j).2.2.1
    · rw [up_ne _ _ _ (by omega)]; funext j; exact (key j).2.2.2
    · intro f hf; rw [up_at, q_up_ne _ _ hf, u0]
    · intro o o1 o2 o3 o4 o5
      rw [up_ne _ _ _ o1]; exact t1 o o2 o3 o4 o5
  | succ k ih =>
    intro i τ h0 h1 t1 t2 t3
    have u15 := t1 (g + 15) (by omega) (by omega) (by omega) (by omega)
    obtain ⟨b1, b2, b3, b4⟩ := hH.1 i h0 (by omega)
    refine r_M_back [(2, [true, true, true])] 600 ?_
    repeat' (first | (refine mj_ite (fun h => ?_) (fun h => ?_) <;> first | (exfalso; omega) | skip) | refine mj_vci (by first | omega | (simp (disch := omega) only [up_ne, up_at, q_up_at, q_up_ne, cp_ne]; omega)) ?_)
    refine ih (i + 1) _ (by omega) (by omega) (fun o o1 o2 o3 o4 => ?_) (fun j j0 j1 => ?_) (fun j hj => ?_)
    · simp (disch := omega) only [up_ne]
      exact t1 o o1 o2 o3 o4
    · simp (disch := omega) only [up_ne, up_at, u15]
      rw [b1, b2, b3, b4]
      by_cases e : j = i
      · subst e
        rw [q_up_at, q_up_at, q_up_at, q_up_at]
        exact ⟨rfl, rfl, rfl, rfl⟩
      · rw [q_up_ne _ _ e, q_up_ne _ _ e, q_up_ne _ _ e, q_up_ne _ _ e]
        exact t2 j j0 (by omega)
    · simp (disch := omega) only [up_ne, up_at]
      rw [q_up_ne _ _ (by omega), q_up_ne _ _ (by omega), q_up_ne _ _ (by omega), q_up_ne _ _ (by omega)]
      exact t3 j hj
theorem c_M_back (hG : g = 58) (hH : q_had σ g B) (hz : q_z8 B) (hK : ∀ σ', q_BM σ' g = B → (∀ f, f ≠ 0 → σ' g f = σ g f) → (∀ o, o ≠ g → o ≠ g + 1 → o ≠ g + 2 → o ≠ g + 3 → o ≠ g + 4 → σ' o = σ o) → K (some (iV x)) σ') : mj_Ok (n + 1) i_M_back [rV 12 0 g, iV x] σ K := by
  refine mj_enter (by decide) (Nat.le_of_ble_eq_true rfl) (fun hg => ?_)
  refine r_M_back [(2, [true, true, true])] 600 ?_
  refine l_M_back hG hg hH hz hK 8 0 σ (by omega) (by omega) (fun _ _ _ _ _ => rfl) (fun j j0 j1 => by omega) (fun j hj => ?_)
  have := q_BM_z hg hG j hj
  exact this
theorem q_aw_in (reach : Int) (B : q_B) (a : q_A) : 0 ≤ q_aw reach B a ∧ q_aw reach B a ≤ 5 := by
  unfold q_aw q_why
  (repeat' split) <;> omega
theorem q_go_len {reach : Int} : ∀ (l : List q_A) (B : q_B) (k s : Int), 0 ≤ k → (q_go reach l B k s).1 = -6 → (q_go reach l B k s).2.2.2.1 = k + l.length
  | [], B, k, s, _, _ => by show k = k + ((0 : Nat) : Int); omega
  | a :: l, B, k, s, hk, h => by
    have e : ((a :: l).length : Int) = (l.length : Int) + 1 := by rw [List.length_cons]; omega
    unfold q_go at h ⊢
    by_cases c : q_aw reach B a ≠ 0
    · rw [if_pos c] at h
      have h : k = -6 := h
      omega
    · rw [if_neg c] at h ⊢
      rw [q_go_len l _ _ _ (by omega) h, e]
      omega
theorem q_go_in {reach : Int} : ∀ (l : List q_A) (B : q_B) (k s : Int), 0 ≤ k → (q_go reach l B k s).1 = -6 ∨ 0 ≤ (q_go reach l B k s).1
  | [], B, k, s, _ => Or.inl rfl
  | a :: l, B, k, s, hk => by
    unfold q_go
    by_cases c : q_aw reach B a ≠ 0
    · rw [if_pos c]; exact Or.inr hk
    · rw [if_neg c]; exact q_go_in l _ _ _ (by omega)
theorem q_faultF_in (sg : Int → Int) {L : Int} (hL : 0 ≤ L) : ∀ (k : Nat) (d i : Int), 0 ≤ i → q_faultF sg L d i k = -6 ∨ 0 ≤ q_faultF sg L d i k := by
  intro k
  induction k with
  | zero => intro d i h; unfold q_faultF; split <;> omega
  | succ k ih =>
    intro d i h
    rw [q_faultF_s]
    split
    · exact Or.inr h
    · exact ih _ _ (by omega)
theorem q_fault_in (sg : Int → Int) {L : Int} (hL : 0 ≤ L) (h : q_fault sg L ≠ -6) : 0 ≤ q_fault sg L := (q_faultF_in sg hL L.toNat 0 0 (by omega)).resolve_left h
/-- days passed: only the border, and fields 22, 24, 25 -/
def q_gf (σ σ' : mj_W) (g : Nat) : Prop := (∀ f, f ≠ 0 → f ≠ 22 → f ≠ 24 → f ≠ 25 → σ' g f = σ g f) ∧ (∀ o, o ≠ g → o ≠ g + 1 → o ≠ g + 2 → o ≠ g + 3 → o ≠ g + 4 → σ' o = σ o)
theorem l_M_goDays (hG : g = 58) (hr7 : 0 ≤ σ g 7 ∧ σ g 7 ≤ 99) {R : Int × Int × Int × Int × q_B} (hK : ∀ σ', q_BM σ' g = R.2.2.2.2 → σ' g 24 = R.1 → σ' g 25 = R.2.1 → σ' g 22 = R.2.2.1 → q_gf σ σ' g → K none σ') (ha : 0 ≤ σ g 21 ∧ σ g 21 ≤ 60) :
    ∀ (l : List q_A) (i : Int) (τ : mj_W), 0 ≤ i → i + l.length = σ g 21 → (∀ a ∈ l, q_aok a) → q_held σ g i l → q_wB (q_BM τ g) → q_gf σ τ g → τ g 24 = -6 → τ g 25 = -6 → (0 ≤ τ g 22 ∧ τ g 22 ≤ 9 * i) → q_go (σ g 7) l (q_BM τ g) i (τ g 22) = R → mj_Wm i_M_goDays (n + 5) K 19 [some (rV 12 0 g), some (iV i), none] [] τ := by
  intro l
  induction l with
  | nil =>
    intro i τ h0 h1 hok hh hW hf h24 h25 h22 hR
    have e : ((([] : List q_A).length : Nat) : Int) = 0 := rfl
    have f21 : τ g 21 = σ g 21 := hf.1 21 (by omega) (by omega) (by omega) (by omega)
    subst hR
    refine r_M_goDays [(19, [true, true, false])] 600 ?_
    repeat' (first | (refine mj_ite (fun h => ?_) (fun h => ?_) <;> first | (exfalso; omega) | skip) | refine mj_vci (by first | omega | (simp (disch := omega) only [up_ne, up_at, q_up_at, q_up_ne, cp_ne]; omega)) ?_)
    exact hK τ rfl h24 h25 rfl hf
  | cons a l ih =>
    intro i τ h0 h1 hok hh hW hf h24 h25 h22 hR
    have e : ((a :: l).length : Int) = (l.length : Int) + 1 := by rw [List.length_cons]; omega
    have f21 : τ g 21 = σ g 21 := hf.1 21 (by omega) (by omega) (by omega) (by omega)
    have f7 : τ g 7 = σ g 7 := hf.1 7 (by omega) (by omega) (by omega) (by omega)
    have u11 := hf.2 (g + 11) (by omega) (by omega) (by omega) (by omega) (by omega)
    have u12 := hf.2 (g + 12) (by omega) (by omega) (by omega) (by omega) (by omega)
    have u13 := hf.2 (g + 13) (by omega) (by omega) (by omega) (by omega) (by omega)
    have u14 := hf.2 (g + 14) (by omega) (by omega) (by omega) (by omega) (by omega)
    obtain ⟨hh1, hh2⟩ := hh
    have hoa := hok a List.mem_cons_self
    have hl4 : mj_ln (g + 4) = 8 := by subst hG; decide +kernel
    have eT : a = (τ (g + 11) i, τ (g + 12) i, τ (g + 13) i, τ (g + 14) i) := by rw [hh1, u11, u12, u13, u14]; rfl
    rw [eT] at hoa hR
    have hz : ∀ j, 0 ≤ τ (g + 4) j ∧ τ (g + 4) j ≤ 200 := fun j => by have := hW.2.2.2.2.1 j; have t : 0 ≤ τ (g + 4) j ∧ τ (g + 4) j ≤ 99 := this; omega
    have aw := q_aw_in (σ g 7) (q_BM τ g) (τ (g + 11) i, τ (g + 12) i, τ (g + 13) i, τ (g + 14) i)
    unfold q_go at hR
    refine r_M_goDays [(19, [true, true, false])] 600 ?_
    repeat' (first | (refine mj_ite (fun h => ?_) (fun h => ?_) <;> first | (exfalso; omega) | skip) | refine mj_vci (by first | omega | (simp (disch := omega) only [up_ne, up_at, q_up_at, q_up_ne, cp_ne]; omega)) ?_)
    refine c_M_whyNot hW.1 hW.2.2.2.2.2.1 hW.2.1 hW.2.2.1 hW.2.2.2.1 hz hoa (fun r hr => ?_)
    rw [f7] at hr
    have hr : r = q_aw (σ g 7) (q_BM τ g) (τ (g + 11) i, τ (g + 12) i, τ (g + 13) i, τ (g + 14) i) := hr
    rw [← hr] at hR aw
    by_cases hr0 : r = 0
    · rw [if_neg (fun q => q hr0)] at hR
      subst hr0
      repeat' (first | (refine mj_ite (fun h => ?_) (fun h => ?_) <;> first | (exfalso; omega) | skip) | refine mj_vci (by first | omega | (simp (disch := omega) only [up_ne, up_at, q_up_at, q_up_ne, cp_ne]; omega)) ?_)
      have v0 : mj_up (mj_up τ g 24 (-6)) g 25 (-6) g = τ g := by
        rw [up_at, up_at]
        funext f
        unfold q_up
        by_cases e5 : f = 25
        · rw [if_pos e5, e5, h25]
        · rw [if_neg e5]
          by_cases e4 : f = 24
          · rw [if_pos e4, e4, h24]
          · rw [if_neg e4]
      have v : mj_up (mj_up τ g 24 (-6)) g 25 (-6) = τ := by
        funext o
        by_cases eo : o = g
        · rw [eo]; exact v0
        · rw [up_ne _ _ _ eo, up_ne _ _ _ eo]
      rw [v]
      have hfn : τ (g + 11) i = 3 ∨ q_fnd (τ (g + 1)) (τ g 0) (τ (g + 12) i) ≠ -6 := by
        by_cases e3 : τ (g + 11) i = 3
        · exact Or.inl e3
        · refine Or.inr (fun q => ?_)
          unfold q_aw q_BM at hr
          simp only at hr
          rw [if_neg e3, if_pos q] at hr
          omega
      refine c_M_happen hl4 hW.1 hW.2.2.2.2.2.1 hW.2.2.1 hW.2.2.2.1 hz (by omega) hoa hfn (fun σ1 s => ?_)
      obtain ⟨s1, s2, s3, s4⟩ := s
      have sa := q_as_in hoa
      repeat' (first | (refine mj_ite (fun h => ?_) (fun h => ?_) <;> first | (exfalso; omega) | skip) | refine mj_vci (by first | omega | (simp (disch := omega) only [up_ne, up_at, q_up_at, q_up_ne, cp_ne]; omega)) ?_)
      refine ih (i + 1) σ1 (by omega) (by omega) (fun b hb => hok b (List.mem_cons_of_mem _ hb)) hh2 ?_ ?_ ?_ ?_ ?_ ?_
      · rw [s1]; exact q_wB_ad hW hr7.2 hoa hr.symm
      · exact ⟨fun f f0 f1 f2 f3 => (s3 f f0 f1).trans (hf.1 f f0 f1 f2 f3), fun o o1 o2 o3 o4 o5 => (s4 o o1 o2 o3 o4 o5).trans (hf.2 o o1 o2 o3 o4 o5)⟩
      · rw [s3 24 (by omega) (by omega)]; exact h24
      · rw [s3 25 (by omega) (by omega)]; exact h25
      · rw [s2]; omega
      · rw [s1, s2]; exact hR
    · rw [if_pos hr0] at hR
      have fin : mj_Wm i_M_goDays (n + 5) K 19 [some (rV 12 0 g), some (iV (i + 1)), none] [] (mj_up (mj_up τ g 24 i) g 25 r) := by
        have w24 : mj_up (mj_up τ g 24 i) g 25 r g 24 = i := by rw [up_at, q_up_ne _ _ (by omega), up_at, q_up_at]
        have w21 : mj_up (mj_up τ g 24 i) g 25 r g 21 = σ g 21 := by rw [up_at, q_up_ne _ _ (by omega), up_at, q_up_ne _ _ (by omega), f21]
        have w : K none (mj_up (mj_up τ g 24 i) g 25 r) := by
          subst hR
          refine hK _ ?_ w24 ?_ ?_ ⟨fun f f0 f1 f2 f3 => ?_, fun o o1 o2 o3 o4 o5 => ?_⟩
          · refine q_B_ext ?_ ?_ ?_ ?_ ?_
            · rw [up_at, q_up_ne _ _ (by omega), up_at, q_up_ne _ _ (by omega)]; rfl
            · rw [up_ne _ _ _ (by omega), up_ne _ _ _ (by omega)]; rfl
            · rw [up_ne _ _ _ (by omega), up_ne _ _ _ (by omega)]; rfl
            · rw [up_ne _ _ _ (by omega), up_ne _ _ _ (by omega)]; rfl
            · rw [up_ne _ _ _ (by omega), up_ne _ _ _ (by omega)]; rfl
          · rw [up_at, q_up_at]
          · rw [up_at, q_up_ne _ _ (by omega), up_at, q_up_ne _ _ (by omega)]
          · rw [up_at, q_up_ne _ _ (by omega), up_at, q_up_ne _ _ (by omega)]; exact hf.1 f f0 f1 f2 f3
          · rw [up_ne _ _ _ o1, up_ne _ _ _ o1]; exact hf.2 o o1 o2 o3 o4 o5
        refine r_M_goDays [(19, [true, true, false])] 600 ?_
        repeat' (first | (refine mj_ite (fun h => ?_) (fun h => ?_) <;> first | (exfalso; omega) | skip) | refine mj_vci (by first | omega | (simp (disch := omega) only [up_ne, up_at, q_up_at, q_up_ne, cp_ne]; omega)) ?_)
        all_goals exact w
      repeat' (first | (refine mj_ite (fun h => ?_) (fun h => ?_) <;> first | (exfalso; omega) | skip) | refine mj_vci (by first | omega | (simp (disch := omega) only [up_ne, up_at, q_up_at, q_up_ne, cp_ne]; omega)) ?_)
      exact fin
theorem c_M_goDays (hG : g = 58) (hM : q_mB σ g) (ha : 0 ≤ σ g 21 ∧ σ g 21 ≤ 60) (hlen : σ g 21 = l.length) (hok : ∀ a ∈ l, q_aok a) (hh : q_held σ g 0 l) (hK : ∀ σ', q_BM σ' g = (q_go (σ g 7) l (q_BM σ g) 0 0).2.2.2.2 → σ' g 24 = (q_go (σ g 7) l (q_BM σ g) 0 0).1 → σ' g 25 = (q_go (σ g 7) l (q_BM σ g) 0 0).2.1 → σ' g 22 = (q_go (σ g 7) l (q_BM σ g) 0 0).2.2.1 → q_gf σ σ' g → K none σ') : mj_Ok (n + 5) i_M_goDays [rV 12 0 g] σ K := by
  refine mj_enter (by decide) (Nat.le_of_ble_eq_true rfl) (fun hg => ?_)
  refine r_M_goDays [(19, [true, true, false])] 600 ?_
  have eB : q_BM (mj_up (mj_up (mj_up σ g 24 (-6)) g 25 (-6)) g 22 0) g = q_BM σ g := by
    refine q_B_ext ?_ ?_ ?_ ?_ ?_
    · simp (disch := omega) only [up_at, q_up_ne]; rfl
    · simp (disch := omega) only [up_ne]; rfl
    · simp (disch := omega) only [up_ne]; rfl
    · simp (disch := omega) only [up_ne]; rfl
    · simp (disch := omega) only [up_ne]; rfl
  refine l_M_goDays hG hM.2.2.2 hK ha l 0 _ (by omega) (by omega) hok hh (by rw [eB]; exact hM.1) ⟨fun f f0 f1 f2 f3 => ?_, fun o o1 o2 o3 o4 o5 => ?_⟩ ?_ ?_ ?_ ?_
  · simp (disch := omega) only [up_at, q_up_ne]
  · simp (disch := omega) only [up_ne]
  · simp (disch := omega) only [up_at, q_up_ne, q_up_at]
  · simp (disch := omega) only [up_at, q_up_ne, q_up_at]
  · simp (disch := omega) only [up_at, q_up_ne, q_up_at]; omega
  · rw [eB, up_at, q_up_at]
def q_pM (σ : mj_W) (g : Nat) : Prop := (0 ≤ σ g 16 ∧ σ g 16 ≤ 60) ∧ (∀ i, 0 ≤ σ (g + 10) i ∧ σ (g + 10) i ≤ 200)
noncomputable abbrev q_RM (σ : mj_W) (g : Nat) (l : List q_A) : Int × Int × Int × Int × q_B := q_go (σ g 7) l (q_BM σ g) 0 0
theorem q_rep_len {sg : Int → Int} {L : Int} : ∀ (l : List q_A) (i : Int), q_rep sg L i l → i + l.length ≤ L
  | [], i, h => by
    have h : i = L := h
    show i + ((0 : Nat) : Int) ≤ L
    omega
  | a :: l, i, h => by
    have e : ((a :: l).length : Int) = (l.length : Int) + 1 := by rw [List.length_cons]; omega
    have := q_rep_len l _ h.2.2.2
    have := q_alen_in a
    omega
theorem c_M_refusal (hG : g = 58) (hM : q_mB σ g) (hP : q_pM σ g) (hl : q_fault (σ (g + 10)) (σ g 16) = -6 → q_rep (σ (g + 10)) (σ g 16) 0 l) (h0 : q_fault (σ (g + 10)) (σ g 16) ≠ -6 → ∀ σ', q_had σ' g (q_BM σ g) → q_Fm σ σ' g → K (some (iV (-5))) σ') (h1 : q_fault (σ (g + 10)) (σ g 16) = -6 → ∀ r σ', r = (if (q_RM σ g l).1 = -6 then -6 else -3) → q_had σ' g (q_BM σ g) → q_Fs σ σ' g → q_BM σ' g = (q_RM σ g l).2.2.2.2 → σ' g 24 = (q_RM σ g l).1 → σ' g 25 = (q_RM σ g l).2.1 → σ' g 22 = (q_RM σ g l).2.2.1 → σ' g 21 = l.length → K (some (iV r)) σ') : mj_Ok (n + 6) i_M_refusal [rV 12 0 g] σ K := by
  refine mj_enter (by decide) (Nat.le_of_ble_eq_true rfl) (fun hg => ?_)
  refine r_M_refusal [] 600 ?_
  refine c_M_keepNow (fun σ1 s1 s2 => ?_)
  have a0 := s2 g (by omega)
  have eB1 : q_BM σ1 g = q_BM σ g := by
    unfold q_BM
    rw [a0, s2 (g + 1) (by omega), s2 (g + 2) (by omega), s2 (g + 3) (by omega), s2 (g + 4) (by omega)]
  have a10 := s2 (g + 10) (by omega)
  repeat' (first | (refine mj_ite (fun h => ?_) (fun h => ?_) <;> first | (exfalso; omega) | skip) | refine mj_vci (by first | omega | (simp (disch := omega) only [up_ne, up_at, q_up_at, q_up_ne, cp_ne]; omega)) ?_)
  refine c_M_fault (by rw [a0]; exact hP.1) (by rw [a10]; exact hP.2) (fun r σ2 hr t1 t2 => ?_)
  rw [a0, a10] at hr t2
  have hH2 : q_had σ2 g (q_BM σ g) := by
    unfold q_had
    rw [t1.2 (g + 15) (by omega) (by omega) (by omega) (by omega) (by omega)]
    exact s1
  have eB2 : q_BM σ2 g = q_BM σ g := by
    rw [← eB1]
    unfold q_BM
    rw [t1.1 0 (by omega), t1.2 (g + 1) (by omega) (by omega) (by omega) (by omega) (by omega), t1.2 (g + 2) (by omega) (by omega) (by omega) (by omega) (by omega), t1.2 (g + 3) (by omega) (by omega) (by omega) (by omega) (by omega), t1.2 (g + 4) (by omega) (by omega) (by omega) (by omega) (by omega)]
  have hF2 : q_Fs σ σ2 g := ⟨fun o ho => (t1.2 o (by omega) (by omega) (by omega) (by omega) (by omega)).trans (s2 o (by omega)), fun f f1 f2 => by rw [t1.1 f (by omega), a0]⟩
  have hM2 : q_mB σ2 g := q_Fm_mB ⟨hF2, eB2⟩ hM
  by_cases e : q_fault (σ (g + 10)) (σ g 16) = -6
  · rw [e] at hr
    subst hr
    obtain ⟨l', l1, l2, l3⟩ := t2 rfl
    have el : l' = l := q_rep_u l' l 0 l1 (hl e)
    subst el
    have ll := q_rep_len l' 0 l1
    have hp := hP.1
    repeat' (first | (refine mj_ite (fun h => ?_) (fun h => ?_) <;> first | (exfalso; omega) | skip) | refine mj_vci (by first | omega | (simp (disch := omega) only [up_ne, up_at, q_up_at, q_up_ne, cp_ne]; omega)) ?_)
    refine c_M_goDays hG hM2 (by omega) l3 (q_rep_ok l1) l2 (fun σ3 u1 u2 u3 u4 u5 => ?_)
    rw [eB2, hF2.2 7 (by omega) (by omega)] at u1 u2 u3 u4
    have hH3 : q_had σ3 g (q_BM σ g) := by
      unfold q_had
      rw [u5.2 (g + 15) (by omega) (by omega) (by omega) (by omega) (by omega)]
      exact hH2
    have hF3 : q_Fs σ σ3 g := ⟨fun o ho => (u5.2 o (by omega) (by omega) (by omega) (by omega) (by omega)).trans (hF2.1 o ho), fun f f1 f2 => (u5.1 f (by omega) (by omega) (by omega) (by omega)).trans (hF2.2 f f1 f2)⟩
    have l4 : σ3 g 21 = l'.length := by rw [u5.1 21 (by omega) (by omega) (by omega) (by omega)]; exact l3
    have key := fun r hr => h1 e r σ3 hr hH3 hF3 u1 u2 u3 u4 l4
    have u2 : σ3 g 24 = (q_RM σ g l').1 := u2
    rw [← u2] at key
    have hin : σ3 g 24 = -6 ∨ 0 ≤ σ3 g 24 := by
      rw [u2]
      exact q_go_in l' _ _ _ (by omega)
    repeat' (first | (refine mj_ite (fun h => ?_) (fun h => ?_) <;> first | (exfalso; omega) | skip) | refine mj_vci (by first | omega | (simp (disch := omega) only [up_ne, up_at, q_up_at, q_up_ne, cp_ne]; omega)) ?_)
    · exact key _ (by rw [if_pos (by omega)])
    · exact key _ (by rw [if_neg (by omega)])
  · have rn : 0 ≤ r := by
      rw [hr]
      exact q_fault_in _ hP.1.1 e
    repeat' (first | (refine mj_ite (fun h => ?_) (fun h => ?_) <;> first | (exfalso; omega) | skip) | refine mj_vci (by first | omega | (simp (disch := omega) only [up_ne, up_at, q_up_at, q_up_ne, cp_ne]; omega)) ?_)
    exact h0 e σ2 hH2 ⟨hF2, eB2⟩
end M18
