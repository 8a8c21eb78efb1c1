/-! bits -/
theorem q_sh31 : ((Int32.ofInt 31 &&& 31).toBitVec.smod 32).toNat = 31 := by decide +kernel
theorem q_shr31 {v : Int} (h : mj_InR v) : mj_shr v 31 = if v < 0 then -1 else 0 := by
  unfold mj_shr
  rw [pk_shr _ _ 31 q_sh31, mj_tI h, Int.shiftRight_eq_div_pow]
  split <;> omega
theorem q_ush31 {v : Int} (h : mj_InR v) : mj_ush v 31 = if v < 0 then 1 else 0 := by
  unfold mj_ush
  have h1 := pk_ushr (Int32.ofInt v) (Int32.ofInt 31) 31 (by decide +kernel)
  have h2 : (Int32.ofInt v).toBitVec.toNat = (v % 4294967296).toNat := by
    show (BitVec.ofInt 32 v).toNat = _
    rw [BitVec.toNat_ofInt]
    rfl
  rw [h2] at h1
  have key : ∀ z : Int32, z.toBitVec.toNat < 2147483648 → z.toInt = (z.toBitVec.toNat : Int) := by
    intro z hz
    show z.toBitVec.toInt = _
    rw [BitVec.toInt_eq_toNat_cond]
    rw [if_pos (by omega)]
  rw [key _ (by rw [h1]; omega), h1]
  split <;> omega
theorem q_sgn {v : Int} (h : mj_InR v) (h2 : mj_InR (-v)) : mj_or (mj_shr v 31) (mj_ush (-v) 31) = q_sg v := by
  rw [q_shr31 h, q_ush31 h2]
  unfold q_sg
  by_cases h0 : v < 0
  · rw [if_pos h0, if_pos h0, if_neg (by omega)]; decide +kernel
  · by_cases h1 : v = 0
    · rw [if_neg h0, if_neg h0, if_neg (by omega), if_pos h1]; decide +kernel
    · rw [if_neg h0, if_neg h0, if_pos (by omega), if_neg h1]; decide +kernel
def q_pop (v : Int) : Int := (((List.range 8).filter (fun j => v.toNat.testBit j)).length : Int)
def q_b1 (v : Int) : Int := v - mj_and (mj_ush v 1) 1431655765
def q_b2 (v : Int) : Int := mj_and v 858993459 + mj_and (mj_ush v 2) 858993459
def q_b3 (v : Int) : Int := v + mj_ush v 4
def q_b4 (v : Int) : Int := v + mj_ush v 8
def q_b5 (v : Int) : Int := v + mj_ush v 16
theorem q_bc0 : ∀ k : Fin 256, mj_InR (q_b1 (k.val : Int)) ∧ mj_InR (q_b2 (q_b1 (k.val : Int))) ∧ mj_InR (q_b3 (q_b2 (q_b1 (k.val : Int)))) ∧ mj_InR (q_b4 (mj_and (q_b3 (q_b2 (q_b1 (k.val : Int)))) 252645135)) ∧ mj_InR (q_b5 (q_b4 (mj_and (q_b3 (q_b2 (q_b1 (k.val : Int)))) 252645135))) ∧ mj_and (q_b5 (q_b4 (mj_and (q_b3 (q_b2 (q_b1 (k.val : Int)))) 252645135))) 63 = q_pop (k.val : Int) := by decide +kernel
theorem q_bc {v : Int} (h0 : 0 ≤ v) (h1 : v ≤ 255) : mj_InR (q_b1 v) ∧ mj_InR (q_b2 (q_b1 v)) ∧ mj_InR (q_b3 (q_b2 (q_b1 v))) ∧ mj_InR (q_b4 (mj_and (q_b3 (q_b2 (q_b1 v))) 252645135)) ∧ mj_InR (q_b5 (q_b4 (mj_and (q_b3 (q_b2 (q_b1 v))) 252645135))) ∧ mj_and (q_b5 (q_b4 (mj_and (q_b3 (q_b2 (q_b1 v))) 252645135))) 63 = q_pop v := by
  have h := q_bc0 ⟨v.toNat, by omega⟩
  have e : ((v.toNat : Nat) : Int) = v := by omega
  simp only [e] at h
  exact h
section B3
variable {n b : Nat} {σ : mj_W} {K : Option mj_V → mj_W → Prop} {x y p w : Int}
theorem c_J_signum (h : -2147483648 < x ∧ x ≤ 2147483647) (hK : ∀ r, r = q_sg x → K (some (iV r)) σ) : mj_Ok (n + 1) i_J_signum [iV x] σ K := by
  refine mj_enter (by decide) (Nat.le_of_ble_eq_true rfl) (fun hg => ?_)
  refine r_J_signum [] 600 ?_
  refine mj_vci (by omega) ?_
  exact hK _ (q_sgn (by omega) (by omega))
theorem c_J_bitCount (h0 : 0 ≤ x) (h1 : x ≤ 255) (hK : K (some (iV (q_pop x))) σ) : mj_Ok (n + 1) i_J_bitCount [iV x] σ K := by
  obtain ⟨v1, v2, v3, v4, v5, v6⟩ := q_bc h0 h1
  rw [← v6] at hK
  refine mj_enter (by decide) (Nat.le_of_ble_eq_true rfl) (fun hg => ?_)
  refine r_J_bitCount [] 600 ?_
  refine mj_vci v1 ?_
  refine mj_vci v2 ?_
  refine mj_vci v3 ?_
  refine mj_vci v4 ?_
  refine mj_vci v5 ?_
  exact hK
end B3
