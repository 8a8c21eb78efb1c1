/-! the whole row's line -/
theorem q_tbo0 : ∀ (k : Fin 256) (v u : Fin 8), q_tb (mj_or (k.val : Int) (mj_shl 1 (v.val : Int))) (u.val : Int) = (q_tb (k.val : Int) (u.val : Int) || decide (u.val = v.val)) := by decide +kernel
theorem q_tbo {k v u : Int} (hk : 0 ≤ k ∧ k ≤ 255) (hv : 0 ≤ v ∧ v ≤ 7) (hu : 0 ≤ u ∧ u ≤ 7) : q_tb (mj_or k (mj_shl 1 v)) u = (q_tb k u || decide (u = v)) := by
  have := q_tbo0 ⟨k.toNat, by omega⟩ ⟨v.toNat, by omega⟩ ⟨u.toNat, by omega⟩
  have e1 : ((k.toNat : Nat) : Int) = k := by omega
  have e2 : ((v.toNat : Nat) : Int) = v := by omega
  have e3 : ((u.toNat : Nat) : Int) = u := by omega
  have e4 : (u.toNat = v.toNat) = (u = v) := propext ⟨fun h => by omega, fun h => by omega⟩
  simp only [e1, e2, e3, e4] at this
  exact this
theorem q_bitsF_rg {row : Int → Int} (hr : ∀ i, 0 ≤ row i ∧ row i ≤ 7) : ∀ (k : Nat) (i a : Int), 0 ≤ a ∧ a ≤ 255 → 0 ≤ q_bitsF row a i k ∧ q_bitsF row a i k ≤ 255 := by
  intro k
  induction k with
  | zero => intro i a h; exact h
  | succ k ih => intro i a h; exact ih (i + 1) _ (q_tbs h (hr i)).2.2.1
theorem q_bitsF_tb {row : Int → Int} (hr : ∀ i, 0 ≤ row i ∧ row i ≤ 7) {u : Int} (hu : 0 ≤ u ∧ u ≤ 7) : ∀ (k : Nat) (i a : Int), 0 ≤ a ∧ a ≤ 255 → (q_tb (q_bitsF row a i k) u = true ↔ (q_tb a u = true ∨ ∃ j, i ≤ j ∧ j < i + k ∧ row j = u)) := by
  intro k
  induction k with
  | zero =>
    intro i a h
    exact ⟨fun q => Or.inl q, fun q => by
      rcases q with q | ⟨j, j1, j2, -⟩
      · exact q
      · omega⟩
  | succ k ih =>
    intro i a h
    show q_tb (q_bitsF row (mj_or a (mj_shl 1 (row i))) (i + 1) k) u = true ↔ _
    rw [ih (i + 1) _ (q_tbs h (hr i)).2.2.1, q_tbo h (hr i) hu, Bool.or_eq_true, decide_eq_true_eq]
    constructor
    · rintro ((q | q) | ⟨j, j1, j2, j3⟩)
      · exact Or.inl q
      · exact Or.inr ⟨i, by omega, by omega, q.symm⟩
      · exact Or.inr ⟨j, by omega, by omega, j3⟩
    · rintro (q | ⟨j, j1, j2, j3⟩)
      · exact Or.inl (Or.inl q)
      · by_cases e : j = i
        · subst e; exact Or.inl (Or.inr j3.symm)
        · exact Or.inr ⟨j, by omega, by omega, j3⟩
theorem q_bits_rg {row : Int → Int} (hr : ∀ i, 0 ≤ row i ∧ row i ≤ 7) (n : Int) : 0 ≤ q_bits row n ∧ q_bits row n ≤ 255 := q_bitsF_rg hr _ _ _ (by omega)
theorem q_bits_tb {row : Int → Int} (hr : ∀ i, 0 ≤ row i ∧ row i ≤ 7) {n u : Int} (hn : 0 ≤ n) (hu : 0 ≤ u ∧ u ≤ 7) : q_tb (q_bits row n) u = true ↔ ∃ j, 0 ≤ j ∧ j < n ∧ row j = u := by
  unfold q_bits
  rw [q_bitsF_tb hr hu _ _ _ (by omega)]
  have e0 : q_tb 0 u = false := by unfold q_tb; simp
  rw [e0]
  constructor
  · rintro (q | ⟨j, j1, j2, j3⟩)
    · exact absurd q (by decide)
    · exact ⟨j, j1, by omega, j3⟩
  · rintro ⟨j, j1, j2, j3⟩
    exact Or.inr ⟨j, j1, by omega, j3⟩
theorem q_flt_all {row : Int → Int} {S : Int} : ∀ (k : Nat) (i : Int) (a : Int × (Int → Int)), (∀ j, i ≤ j → j < i + k → q_tb S (row j) = true) → (q_flt row S i k a).1 = a.1 + k ∧ ∀ j, (j < a.1 → (q_flt row S i k a).2 j = a.2 j) ∧ (a.1 ≤ j → j < a.1 + k → (q_flt row S i k a).2 j = row (i + (j - a.1))) := by
  intro k
  induction k with
  | zero =>
    intro i a h
    refine ⟨by show a.1 = _; omega, fun j => ⟨fun _ => rfl, fun _ _ => by omega⟩⟩
  | succ k ih =>
    intro i a h
    unfold q_flt
    rw [if_pos (h i (by omega) (by omega))]
    obtain ⟨p1, p2⟩ := ih (i + 1) (a.1 + 1, q_up a.2 a.1 (row i)) (fun j j1 j2 => h j (by omega) (by omega))
    simp only at p1 p2
    refine ⟨by omega, fun j => ⟨fun j1 => ?_, fun j1 j2 => ?_⟩⟩
    · rw [(p2 j).1 (by omega), q_up_ne _ _ (by omega)]
    · by_cases e : j = a.1
      · rw [(p2 j).1 (by omega), e, q_up_at]; congr 1; omega
      · rw [(p2 j).2 (by omega) (by omega)]; congr 1; omega
theorem q_laid_eq {σ σ' : mj_W} {g : Nat} {F G : Int × (Int → Int)} (h : q_laid σ σ' g F) (h1 : F.1 = G.1) (h2 : ∀ j, 0 ≤ j → j < F.1 → F.2 j = G.2 j) : q_laid σ σ' g G := by
  obtain ⟨a, b, c, d⟩ := h
  refine ⟨fun k k0 k1 => ?_, fun k k0 k1 => ?_, by rw [← h1]; exact c, d⟩
  · rw [a k k0 (by omega)]
    unfold q_cx
    rw [h1]
    by_cases e : k ≤ 0
    · rw [if_pos e, if_pos e]
    by_cases e2 : G.1 < k
    · rw [if_neg e, if_neg e, if_pos e2, if_pos e2]
    · rw [if_neg e, if_neg e, if_neg e2, if_neg e2, h2 _ (by omega) (by omega)]
  · rw [b k k0 (by omega)]
    unfold q_cy
    rw [h1]
    by_cases e : k ≤ 0
    · rw [if_pos e, if_pos e]
    by_cases e2 : G.1 < k
    · rw [if_neg e, if_neg e, if_pos e2, if_pos e2]
    · rw [if_neg e, if_neg e, if_neg e2, if_neg e2, h2 _ (by omega) (by omega)]
theorem q_laid_gL {σ σ' : mj_W} {g : Nat} {F : Int × (Int → Int)} (h : q_laid σ σ' g F) (hF : 0 ≤ F.1 ∧ F.1 ≤ 8) (hx : ∀ i, 0 ≤ σ (g + 2) i ∧ σ (g + 2) i ≤ 40) (hy : ∀ i, 0 ≤ σ (g + 3) i ∧ σ (g + 3) i ≤ 40) (hw : 0 ≤ σ g 5 ∧ σ g 5 ≤ 40) (he : 0 ≤ σ g 6 ∧ σ g 6 ≤ 40) : q_gL σ' g := by
  obtain ⟨a, b, c, d⟩ := h
  have e : σ' g 28 = F.1 + 1 := by rw [c, q_up_at]
  refine ⟨by omega, fun k k0 k1 => ?_, fun k k0 k1 => ?_⟩
  · rw [a k k0 (by omega)]
    unfold q_cx
    have := hx (F.2 (k - 1))
    (repeat' split) <;> omega
  · rw [b k k0 (by omega)]
    unfold q_cy
    have := hy (F.2 (k - 1))
    (repeat' split) <;> omega
section M7
variable {n g : Nat} {σ : mj_W} {K : Option mj_V → mj_W → Prop}
theorem c_M_layLine (hc : 0 ≤ σ g 0 ∧ σ g 0 ≤ 8) (hr : ∀ i, 0 ≤ σ (g + 1) i ∧ σ (g + 1) i ≤ 7) (hK : ∀ σ', q_laid σ σ' g (σ g 0, σ (g + 1)) → K none σ') : mj_Ok (n + 3) i_M_layLine [rV 12 0 g] σ K := by
  refine mj_enter (by decide) (Nat.le_of_ble_eq_true rfl) (fun hg => ?_)
  refine r_M_layLine [] 600 ?_
  refine c_M_persons hc ?_
  repeat' (first | (refine mj_ite (fun h => ?_) (fun h => ?_) <;> first | (exfalso; omega) | skip) | refine mj_vci (by first | omega | (simp (disch := omega) only [up_ne, up_at, q_up_at, q_up_ne, cp_ne]; omega)) ?_)
  refine c_M_layLineOf hc hr (q_bits_rg hr _) (fun σ' s => ?_)
  repeat' (first | (refine mj_ite (fun h => ?_) (fun h => ?_) <;> first | (exfalso; omega) | skip) | refine mj_vci (by first | omega | (simp (disch := omega) only [up_ne, up_at, q_up_at, q_up_ne, cp_ne]; omega)) ?_)
  refine hK σ' ?_
  obtain ⟨p1, p2⟩ := q_flt_all (row := σ (g + 1)) (S := q_bits (σ (g + 1)) (σ g 0)) (σ g 0).toNat 0 (0, fun _ => 0) (fun j j1 j2 => (q_bits_tb hr hc.1 (hr j)).2 ⟨j, j1, by omega, rfl⟩)
  simp only at p1 p2
  refine q_laid_eq s (by rw [p1]; show _ = σ g 0; omega) (fun j j0 j1 => ?_)
  rw [(p2 j).2 j0 (by omega)]
  show σ (g + 1) _ = σ (g + 1) j
  congr 1; omega
end M7
