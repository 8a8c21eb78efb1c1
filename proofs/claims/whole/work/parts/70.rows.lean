/-! rows as lists: who is left when some go -/
def q_rlF (row : Int → Int) : Int → Nat → List Int
  | _, 0 => []
  | i, k + 1 => row i :: q_rlF row (i + 1) k
def q_rl (row : Int → Int) (n : Int) : List Int := q_rlF row 0 n.toNat
theorem q_rlF_len (row : Int → Int) : ∀ (k : Nat) (i : Int), (q_rlF row i k).length = k
  | 0, _ => rfl
  | k + 1, i => by unfold q_rlF; rw [List.length_cons, q_rlF_len row k (i + 1)]
theorem q_rlF_mem {row : Int → Int} {u : Int} : ∀ (k : Nat) (i : Int), u ∈ q_rlF row i k → ∃ j, i ≤ j ∧ j < i + k ∧ row j = u
  | 0, i, h => absurd h List.not_mem_nil
  | k + 1, i, h => by
    rcases List.mem_cons.mp h with e | e
    · exact ⟨i, by omega, by omega, e.symm⟩
    · obtain ⟨j, j1, j2, j3⟩ := q_rlF_mem k (i + 1) e
      exact ⟨j, by omega, by omega, j3⟩
theorem q_rlF_inj {row row' : Int → Int} : ∀ (k : Nat) (i : Int), q_rlF row i k = q_rlF row' i k → ∀ j, i ≤ j → j < i + k → row j = row' j
  | 0, i, _, j, h1, h2 => by omega
  | k + 1, i, h, j, h1, h2 => by
    unfold q_rlF at h
    injection h with e1 e2
    by_cases e : j = i
    · rw [e]; exact e1
    · exact q_rlF_inj k (i + 1) e2 j (by omega) (by omega)
theorem q_rlF_c {row row' : Int → Int} : ∀ (k : Nat) (i : Int), (∀ j, i ≤ j → j < i + k → row j = row' j) → q_rlF row i k = q_rlF row' i k
  | 0, _, _ => rfl
  | k + 1, i, h => by
    unfold q_rlF
    rw [h i (by omega) (by omega), q_rlF_c k (i + 1) (fun j j1 j2 => h j (by omega) (by omega))]
theorem q_rlF_snoc (row : Int → Int) : ∀ (k : Nat) (i : Int), q_rlF row i (k + 1) = q_rlF row i k ++ [row (i + k)]
  | 0, i => by
    show [row i] = [] ++ [row (i + ((0 : Nat) : Int))]
    rw [show i + ((0 : Nat) : Int) = i by omega]; rfl
  | k + 1, i => by
    have e : q_rlF row i (k + 1 + 1) = row i :: q_rlF row (i + 1) (k + 1) := rfl
    have e2 : q_rlF row i (k + 1) = row i :: q_rlF row (i + 1) k := rfl
    rw [e, e2, q_rlF_snoc row k (i + 1), List.cons_append, show i + 1 + (k : Int) = i + ((k + 1 : Nat) : Int) by omega]
theorem q_rl_up {f : Int → Int} {m v : Int} (hm : 0 ≤ m) : q_rl (q_up f m v) (m + 1) = q_rl f m ++ [v] := by
  unfold q_rl
  rw [show (m + 1).toNat = m.toNat + 1 by omega, q_rlF_snoc, show (0 : Int) + (m.toNat : Int) = m by omega, q_up_at, q_rlF_c m.toNat 0 (fun j j1 j2 => q_up_ne _ _ (by omega))]
theorem q_flt_l {row : Int → Int} {S : Int} : ∀ (k : Nat) (i : Int) (a : Int × (Int → Int)), 0 ≤ a.1 → 0 ≤ (q_flt row S i k a).1 ∧ q_rl (q_flt row S i k a).2 (q_flt row S i k a).1 = q_rl a.2 a.1 ++ (q_rlF row i k).filter (fun u => q_tb S u)
  | 0, i, a, h => ⟨h, by show q_rl a.2 a.1 = _ ++ []; rw [List.append_nil]⟩
  | k + 1, i, a, h => by
    unfold q_flt q_rlF
    by_cases e : q_tb S (row i) = true
    · rw [if_pos e, List.filter_cons_of_pos e]
      have := q_flt_l k (i + 1) (a.1 + 1, q_up a.2 a.1 (row i)) (S := S) (row := row) (by show 0 ≤ a.1 + 1; omega)
      refine ⟨this.1, ?_⟩
      rw [this.2]
      show q_rl (q_up a.2 a.1 (row i)) (a.1 + 1) ++ _ = _
      rw [q_rl_up h, List.append_assoc]
      rfl
    · rw [if_neg e, List.filter_cons_of_neg e]
      exact q_flt_l k (i + 1) a h
theorem q_rl_eq {row row' : Int → Int} {n n' : Int} (hn : 0 ≤ n) (hn' : 0 ≤ n') (h : q_rl row n = q_rl row' n') : n = n' ∧ ∀ j, 0 ≤ j → j < n → row j = row' j := by
  have hl := congrArg List.length h
  unfold q_rl at hl h
  rw [q_rlF_len, q_rlF_len] at hl
  have : n = n' := by omega
  subst this
  exact ⟨rfl, fun j j0 j1 => q_rlF_inj _ 0 h j j0 (by omega)⟩
theorem q_cx_l {n : Int} {row row' xs : Int → Int} (h : ∀ j, 0 ≤ j → j < n → row j = row' j) (c : Int) : q_cx n row xs c = q_cx n row' xs c := by
  unfold q_cx
  by_cases c0 : c ≤ 0
  · rw [if_pos c0, if_pos c0]
  by_cases c1 : n < c
  · rw [if_neg c0, if_neg c0, if_pos c1, if_pos c1]
  · rw [if_neg c0, if_neg c0, if_neg c1, if_neg c1, h (c - 1) (by omega) (by omega)]
theorem q_cy_l {n w e : Int} {row row' ys : Int → Int} (h : ∀ j, 0 ≤ j → j < n → row j = row' j) (c : Int) : q_cy n w e row ys c = q_cy n w e row' ys c := by
  unfold q_cy
  by_cases c0 : c ≤ 0
  · rw [if_pos c0, if_pos c0]
  by_cases c1 : n < c
  · rw [if_neg c0, if_neg c0, if_pos c1, if_pos c1]
  · rw [if_neg c0, if_neg c0, if_neg c1, if_neg c1, h (c - 1) (by omega) (by omega)]
/-- two borders with the same list of persons at the same places have the same line -/
theorem q_line_l {B B' : q_B} {w e : Int} (hn : 0 ≤ B.1) (hn' : 0 ≤ B'.1) (h : q_rl B.2.1 B.1 = q_rl B'.2.1 B'.1) (hx : B.2.2.1 = B'.2.2.1) (hy : B.2.2.2.1 = B'.2.2.2.1) : (∀ x y, q_sideB w e B x y = q_sideB w e B' x y) ∧ q_SB w e B = q_SB w e B' := by
  obtain ⟨e1, e2⟩ := q_rl_eq hn hn' h
  have eX : q_cx B.1 B.2.1 B.2.2.1 = q_cx B'.1 B'.2.1 B'.2.2.1 := by
    funext c
    rw [hx, ← e1]
    exact q_cx_l e2 c
  have eY : q_cy B.1 w e B.2.1 B.2.2.2.1 = q_cy B'.1 w e B'.2.1 B'.2.2.2.1 := by
    funext c
    rw [hy, ← e1]
    exact q_cy_l e2 c
  unfold q_sideB q_SB
  rw [eX, eY, e1]
  exact ⟨fun _ _ => rfl, rfl⟩
theorem q_rl_del {row : Int → Int} {n pl : Int} (hd : q_dist row n) (hp : 0 ≤ pl ∧ pl < n) : ∀ (k : Nat) (i : Int), 0 ≤ i → i + k = n - 1 → i ≤ pl → q_rlF (q_del row pl n) i k = (q_rlF row i (k + 1)).filter (fun u => decide (u ≠ row pl)) := by
  have tail : ∀ (k : Nat) (i : Int), pl < i → i + k ≤ n → (q_rlF row i k).filter (fun u => decide (u ≠ row pl)) = q_rlF row i k := by
    intro k i h1 h2
    refine List.filter_eq_self.mpr (fun u hu => ?_)
    obtain ⟨j, j1, j2, j3⟩ := q_rlF_mem k i hu
    refine decide_eq_true (fun q => ?_)
    have := hd j pl (by omega) (by omega) hp.1 hp.2 (j3.trans q)
    omega
  have shift : ∀ (k : Nat) (i : Int), pl ≤ i → i + k ≤ n - 1 → q_rlF (q_del row pl n) i k = q_rlF row (i + 1) k := by
    intro k
    induction k with
    | zero => intro i _ _; rfl
    | succ k ih =>
      intro i h1 h2
      unfold q_rlF
      rw [ih (i + 1) (by omega) (by omega)]
      congr 1
      unfold q_del
      rw [if_pos (by omega)]
  intro k
  induction k with
  | zero =>
    intro i h0 h1 h2
    have : i = pl := by omega
    subst this
    show [] = List.filter _ [row i]
    rw [List.filter_cons_of_neg (by simp)]
    rfl
  | succ k ih =>
    intro i h0 h1 h2
    by_cases e : i = pl
    · subst e
      rw [shift (k + 1) i (by omega) (by omega)]
      have e1 : q_rlF row i (k + 1 + 1) = row i :: q_rlF row (i + 1) (k + 1) := rfl
      rw [e1, List.filter_cons_of_neg (by simp), tail (k + 1) (i + 1) (by omega) (by omega)]
    · have e1 : q_rlF row i (k + 1 + 1) = row i :: q_rlF row (i + 1) (k + 1) := rfl
      have e2 : q_rlF (q_del row pl n) i (k + 1) = q_del row pl n i :: q_rlF (q_del row pl n) (i + 1) k := rfl
      have ne : row i ≠ row pl := fun q => e (hd i pl h0 (by omega) hp.1 hp.2 q)
      have e3 : q_del row pl n i = row i := by unfold q_del; rw [if_neg (by omega)]
      rw [e1, e2, e3, List.filter_cons_of_pos (by simp [ne]), ih (i + 1) (by omega) (by omega) (by omega)]
/-- dropping a person, whether there or not -/
theorem q_rl_drop {row : Int → Int} {n p : Int} (hn : 0 ≤ n) (hd : q_dist row n) : (q_fnd row n p = -6 → q_rl row n = (q_rl row n).filter (fun u => decide (u ≠ p))) ∧ (q_fnd row n p ≠ -6 → q_rl (q_del row (q_fnd row n p) n) (n - 1) = (q_rl row n).filter (fun u => decide (u ≠ p))) := by
  rcases q_fnd_or row hn p with ⟨h1, h2⟩ | ⟨h1, h2, h3⟩
  · refine ⟨fun _ => ?_, fun q => absurd h1 q⟩
    refine (List.filter_eq_self.mpr (fun u hu => ?_)).symm
    obtain ⟨j, j1, j2, j3⟩ := q_rlF_mem _ _ hu
    refine decide_eq_true (fun q => h2 j j1 (by omega) (j3.trans q))
  · refine ⟨fun q => by omega, fun _ => ?_⟩
    have := q_rl_del hd ⟨h1, h2⟩ (n - 1).toNat 0 (by omega) (by omega) h1
    rw [h3] at this
    unfold q_rl
    rw [this, show (n - 1).toNat + 1 = n.toNat by omega]
theorem q_tba0 : ∀ (k : Fin 256) (v u : Fin 8), q_tb (mj_and (k.val : Int) (mj_xor (mj_shl 1 (v.val : Int)) (-1))) (u.val : Int) = (q_tb (k.val : Int) (u.val : Int) && decide (u.val ≠ v.val)) := by decide +kernel
theorem q_tba {k v u : Int} (hk : 0 ≤ k ∧ k ≤ 255) (hv : 0 ≤ v ∧ v ≤ 7) (hu : 0 ≤ u ∧ u ≤ 7) : q_tb (mj_and k (mj_xor (mj_shl 1 v) (-1))) u = (q_tb k u && decide (u ≠ v)) := by
  have := q_tba0 ⟨k.toNat, by omega⟩ ⟨v.toNat, by omega⟩ ⟨u.toNat, by omega⟩
  have e1 : ((k.toNat : Nat) : Int) = k := by omega
  have e2 : ((v.toNat : Nat) : Int) = v := by omega
  have e3 : ((u.toNat : Nat) : Int) = u := by omega
  have e4 : (u.toNat ≠ v.toNat) = (u ≠ v) := propext ⟨fun h => by omega, fun h => by omega⟩
  simp only [e1, e2, e3, e4] at this
  exact this
/-- who of a border is in S -/
def q_BS (B : q_B) (S : Int) : q_B := ((q_flt B.2.1 S 0 B.1.toNat (0, fun _ => 0)).1, (q_flt B.2.1 S 0 B.1.toNat (0, fun _ => 0)).2, B.2.2.1, B.2.2.2.1, B.2.2.2.2)
theorem q_BS_l (B : q_B) (S : Int) : 0 ≤ (q_BS B S).1 ∧ q_rl (q_BS B S).2.1 (q_BS B S).1 = (q_rl B.2.1 B.1).filter (fun u => q_tb S u) := by
  have := q_flt_l (row := B.2.1) (S := S) B.1.toNat 0 (0, fun _ => 0) (Int.le_refl 0)
  refine ⟨this.1, ?_⟩
  have h2 := this.2
  show q_rl (q_flt B.2.1 S 0 B.1.toNat (0, fun _ => 0)).2 (q_flt B.2.1 S 0 B.1.toNat (0, fun _ => 0)).1 = _
  rw [h2]
  rfl
theorem q_BS_b {B : q_B} {w e : Int} (h : q_bB w e B) (S : Int) : q_bB w e (q_BS B S) := by
  obtain ⟨h1, h2, h3, h4, h5⟩ := h
  obtain ⟨l1, l2⟩ := q_BS_l B S
  refine ⟨⟨l1, ?_⟩, h2, h3, h4, h5⟩
  have hl := congrArg List.length l2
  have hf := List.length_filter_le (fun u => q_tb S u) (q_rl B.2.1 B.1)
  unfold q_rl at hl hf
  rw [q_rlF_len] at hl hf
  omega
section M27
variable {n g : Nat} {σ : mj_W} {K : Option mj_V → mj_W → Prop} {x y z p w i j c d k s m S : Int}
theorem c_M_layS (hM : q_mB σ g) (hS : 0 ≤ S ∧ S ≤ 255) (hK : ∀ σ', q_ld σ' g (σ g 5) (σ g 6) (q_BS (q_BM σ g) S) → q_lf σ σ' g → K none σ') : mj_Ok (n + 2) i_M_layLineOf [rV 12 0 g, iV S] σ K :=
  c_M_layLineOf hM.1.1 hM.1.2.1 hS (fun σ' s => hK σ' (q_laid_ld s).1 (q_laid_ld s).2)
theorem c_M_cedes (hM : q_mB σ g) (h1 : q_fnd (σ (g + 1)) (σ g 0) p = -6 → K (some (iV (-1))) σ) (h2 : q_fnd (σ (g + 1)) (σ g 0) p ≠ -6 → ∀ r σ', q_Fm σ σ' g → r = q_SB (σ g 5) (σ g 6) (σ g 0 - 1, q_del (σ (g + 1)) (q_fnd (σ (g + 1)) (σ g 0) p) (σ g 0), σ (g + 2), σ (g + 3), σ (g + 4)) - q_SB (σ g 5) (σ g 6) (q_BM σ g) + 10000 → K (some (iV r)) σ') : mj_Ok (n + 5) i_M_cedes [rV 12 0 g, iV p] σ K := by
  have hc : 0 ≤ σ g 0 ∧ σ g 0 ≤ 8 := hM.1.1
  have hdi : q_dist (σ (g + 1)) (σ g 0) := hM.1.2.2.2.2.2.1
  have hr : ∀ i, 0 ≤ σ (g + 1) i ∧ σ (g + 1) i ≤ 7 := hM.1.2.1
  have fr := q_fnd_or (σ (g + 1)) hc.1 p
  have hrl := q_rl_drop (p := p) hc.1 hdi
  have hrf := hr (q_fnd (σ (g + 1)) (σ g 0) p)
  refine mj_enter (by decide) (Nat.le_of_ble_eq_true rfl) (fun hg => ?_)
  refine r_M_cedes [] 600 ?_
  refine c_M_isNumber (fun a1 a2 => ?_) (fun a0 => ?_)
  · repeat' (first | (refine mj_ite (fun h => ?_) (fun h => ?_) <;> first | (exfalso; omega) | skip) | refine mj_vci (by first | omega | (simp (disch := omega) only [up_ne, up_at, q_up_at, q_up_ne, cp_ne]; omega)) ?_)
    refine c_M_placeOf hc hdi (fun v hv => ?_)
    by_cases e1 : v = -6
    · repeat' (first | (refine mj_ite (fun h => ?_) (fun h => ?_) <;> first | (exfalso; omega) | skip) | refine mj_vci (by first | omega | (simp (disch := omega) only [up_ne, up_at, q_up_at, q_up_ne, cp_ne]; omega)) ?_)
      exact h1 (by omega)
    · have hne : q_fnd (σ (g + 1)) (σ g 0) p ≠ -6 := by omega
      have key := h2 hne
      have hl := hrl.2 hne
      have hb := q_bits_rg hr (σ g 0)
      have hSr := (q_tbs hb ⟨a1, a2⟩).2.2.2
      repeat' (first | (refine mj_ite (fun h => ?_) (fun h => ?_) <;> first | (exfalso; omega) | skip) | refine mj_vci (by first | omega | (simp (disch := omega) only [up_ne, up_at, q_up_at, q_up_ne, cp_ne]; omega)) ?_)
      refine c_M_southNowB hM (fun s0 σ1 hs0 t1 t2 => ?_)
      have hF1 := q_lf_Fm t2
      have hM1 := q_Fm_mB hF1 hM
      have hc1 : 0 ≤ σ1 g 0 ∧ σ1 g 0 ≤ 8 := hM1.1.1
      have r1 : σ1 (g + 1) = σ (g + 1) := t2.2 (g + 1) (by omega) (by omega) (by omega)
      have n1 : σ1 g 0 = σ g 0 := t2.1 0 (by omega)
      repeat' (first | (refine mj_ite (fun h => ?_) (fun h => ?_) <;> first | (exfalso; omega) | skip) | refine mj_vci (by first | omega | (simp (disch := omega) only [up_ne, up_at, q_up_at, q_up_ne, cp_ne]; omega)) ?_)
      refine c_M_persons hc1 ?_
      rw [r1, n1]
      repeat' (first | (refine mj_ite (fun h => ?_) (fun h => ?_) <;> first | (exfalso; omega) | skip) | refine mj_vci (by first | omega | (simp (disch := omega) only [up_ne, up_at, q_up_at, q_up_ne, cp_ne]; omega)) ?_)
      refine c_M_layS hM1 hSr (fun σ2 u1 u2 => ?_)
      have hF2 := q_lf_Fm u2
      have e5 := hF1.1.2 5 (by omega) (by omega)
      have e6 := hF1.1.2 6 (by omega) (by omega)
      rw [hF1.2, e5, e6] at u1
      have eq := (q_line_l (w := σ g 5) (e := σ g 6) (B := q_BS (q_BM σ g) (mj_and (q_bits (σ (g + 1)) (σ g 0)) (mj_xor (mj_shl 1 p) (-1)))) (B' := (σ g 0 - 1, q_del (σ (g + 1)) (q_fnd (σ (g + 1)) (σ g 0) p) (σ g 0), σ (g + 2), σ (g + 3), σ (g + 4))) (q_BS_l _ _).1 (by show 0 ≤ σ g 0 - 1; omega) (by
        rw [(q_BS_l _ _).2]
        show (q_rl (σ (g + 1)) (σ g 0)).filter _ = q_rl (q_del (σ (g + 1)) (q_fnd (σ (g + 1)) (σ g 0) p) (σ g 0)) (σ g 0 - 1)
        rw [hl]
        refine List.filter_congr (fun u hu => ?_)
        obtain ⟨j, j1, j2, j3⟩ := q_rlF_mem _ _ hu
        have hju := hr j
        rw [j3] at hju
        rw [q_tba hb ⟨a1, a2⟩ hju, (q_bits_tb hr hc.1 hju).2 ⟨j, j1, by omega, j3⟩, Bool.true_and]) rfl rfl).2
      have bb := q_BS_b (q_mB_b hM) (mj_and (q_bits (σ (g + 1)) (σ g 0)) (mj_xor (mj_shl 1 p) (-1)))
      repeat' (first | (refine mj_ite (fun h => ?_) (fun h => ?_) <;> first | (exfalso; omega) | skip) | refine mj_vci (by first | omega | (simp (disch := omega) only [up_ne, up_at, q_up_at, q_up_ne, cp_ne]; omega)) ?_)
      refine c_M_southB u1 bb (fun s2 hs2 => ?_)
      have b1 := q_SB_in bb
      have b2 := q_SB_in (q_mB_b hM)
      rw [← hs2] at b1
      rw [← hs0] at b2
      rw [eq] at hs2
      repeat' (first | (refine mj_ite (fun h => ?_) (fun h => ?_) <;> first | (exfalso; omega) | skip) | refine mj_vci (by first | omega | (simp (disch := omega) only [up_ne, up_at, q_up_at, q_up_ne, cp_ne]; omega)) ?_)
      exact key _ σ2 (q_Fm_tr hF1 hF2) (by rw [← hs2, ← hs0])
  · have hn : q_fnd (σ (g + 1)) (σ g 0) p = -6 := by
      rcases fr with q | q
      · exact q.1
      · rw [q.2.2] at hrf; exact absurd hrf a0
    repeat' (first | (refine mj_ite (fun h => ?_) (fun h => ?_) <;> first | (exfalso; omega) | skip) | refine mj_vci (by first | omega | (simp (disch := omega) only [up_ne, up_at, q_up_at, q_up_ne, cp_ne]; omega)) ?_)
    exact h1 hn
end M27
