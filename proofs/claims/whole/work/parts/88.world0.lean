/-! the world behind the two constructors -/
def k_σ : mj_W := fun o i => if (o = 2 ∨ o = 16 ∨ o = 29 ∨ o = 44 ∨ o = 58) ∧ (i = 5 ∨ i = 6 ∨ i = 7) then 20 else 0
theorem k_σ0 {o : Nat} {i : Int} (h : ¬ (o = 2 ∨ o = 16 ∨ o = 29 ∨ o = 44 ∨ o = 58)) : k_σ o i = 0 := if_neg (fun q => h q.1)
theorem k_σ1 {o : Nat} {i : Int} (h : ¬ (i = 5 ∨ i = 6 ∨ i = 7)) : k_σ o i = 0 := if_neg (fun q => h q.2)
theorem k_σb (o : Nat) (i : Int) : 0 ≤ k_σ o i ∧ k_σ o i ≤ 20 := by
  unfold k_σ
  split <;> omega
theorem k_rgσ : mj_rg k_σ := by
  intro o i
  have hb := k_σb o i
  refine ⟨?_, fun hn => ?_⟩
  · split
    · exact ⟨by omega, by omega⟩
    · exact ⟨by omega, by omega⟩
  · by_cases h1 : i = 5 ∨ i = 6 ∨ i = 7
    · by_cases h2 : o = 2 ∨ o = 16 ∨ o = 29 ∨ o = 44 ∨ o = 58
      · exfalso
        apply hn
        rcases h2 with rfl | rfl | rfl | rfl | rfl
        · have e : mj_ln 2 = 8 := rfl
          rw [e]; omega
        · have e : mj_ln 16 = 8 := rfl
          rw [e]; omega
        · have e : mj_ln 29 = 8 := rfl
          rw [e]; omega
        · have e : mj_ln 44 = 8 := rfl
          rw [e]; omega
        · have e : mj_ln 58 = 43 := rfl
          rw [e]; omega
      · exact k_σ0 h2
    · exact k_σ1 h1
theorem k_loσ {b : Nat} (h : b = 2 ∨ b = 16 ∨ b = 29) : q_lo k_σ b := by
  have z : ∀ (d : Nat) (i : Int), 1 ≤ d → d ≤ 4 → k_σ (b + d) i = 0 := fun d i h1 h2 => k_σ0 (by omega)
  have z4 : k_σ b 4 = 0 := k_σ1 (by omega)
  refine ⟨⟨?_, fun i => ?_, fun i => ?_, fun i => ?_, fun i => ?_, ?_, fun i j i0 i1 => ?_⟩, ?_, ?_, ?_⟩
  · show 0 ≤ k_σ b 4 ∧ k_σ b 4 ≤ 8
    omega
  · show 0 ≤ k_σ (b + 4) i ∧ k_σ (b + 4) i ≤ 7
    rw [z 4 i (by omega) (by omega)]; omega
  · show 0 ≤ k_σ (b + 1) i ∧ k_σ (b + 1) i ≤ 40
    rw [z 1 i (by omega) (by omega)]; omega
  · show 0 ≤ k_σ (b + 2) i ∧ k_σ (b + 2) i ≤ 40
    rw [z 2 i (by omega) (by omega)]; omega
  · show 0 ≤ k_σ (b + 3) i ∧ k_σ (b + 3) i ≤ 99
    rw [z 3 i (by omega) (by omega)]; omega
  · intro i j i0 i1
    exfalso
    have : i < k_σ b 4 := by first | exact i1 | exact i1.2 | omega
    omega
  · exfalso
    have : i < k_σ b 4 := i1
    omega
  · have := k_σb b 5
    omega
  · have := k_σb b 6
    omega
  · have := k_σb b 7
    omega
theorem k_voσ {v : Nat} (h : v = 7 ∨ v = 21 ∨ v = 34) : q_vo k_σ v := by
  refine ⟨?_, fun i => ?_, fun i => ?_⟩
  · rw [k_σ0 (by omega)]; omega
  · rw [k_σ0 (by omega)]; omega
  · rw [k_σ0 (by omega)]; omega
theorem k_soσ {v : Nat} (h : v = 10 ∨ v = 24 ∨ v = 37) : q_so k_σ v := by
  refine ⟨?_, fun i => ?_, fun i => ?_, fun i => ?_⟩
  · rw [k_σ0 (by omega)]; omega
  · rw [k_σ0 (by omega)]; omega
  · rw [k_σ0 (by omega)]; omega
  · rw [k_σ0 (by omega)]; omega
theorem k_σe {o o' : Nat} (h : ¬ (o = 2 ∨ o = 16 ∨ o = 29 ∨ o = 44 ∨ o = 58)) (h' : ¬ (o' = 2 ∨ o' = 16 ∨ o' = 29 ∨ o' = 44 ∨ o' = 58)) : k_σ o = k_σ o' := by
  funext i
  rw [k_σ0 h, k_σ0 h']
theorem k_relσ : q_Rel k_σ 58 := by
  refine ⟨rfl, ⟨k_loσ (Or.inl rfl), k_voσ (Or.inl rfl), k_soσ (Or.inl rfl), ?_, fun i => ?_⟩, ⟨?_, ⟨rfl, rfl, rfl⟩, ⟨rfl, ?_, ?_⟩, ⟨rfl, ?_, ?_, ?_⟩, ⟨rfl, ?_⟩⟩, ⟨rfl, k_loσ (Or.inr (Or.inl rfl)), k_voσ (Or.inr (Or.inl rfl)), k_soσ (Or.inr (Or.inl rfl)), fun h => absurd rfl h⟩, ⟨rfl, k_loσ (Or.inr (Or.inr rfl)), k_voσ (Or.inr (Or.inr rfl)), k_soσ (Or.inr (Or.inr rfl)), fun h => absurd rfl h⟩⟩
  · rw [k_σ0 (by omega)]; omega
  · rw [k_σ0 (by omega)]; omega
  · show (k_σ 58 0, k_σ (58 + 1), k_σ (58 + 2), k_σ (58 + 3), k_σ (58 + 4)) = (k_σ 2 4, k_σ (2 + 4), k_σ (2 + 1), k_σ (2 + 2), k_σ (2 + 3))
    rw [k_σe (o := 58 + 1) (o' := 2 + 4) (by omega) (by omega), k_σe (o := 58 + 2) (o' := 2 + 1) (by omega) (by omega), k_σe (o := 58 + 3) (o' := 2 + 2) (by omega) (by omega), k_σe (o := 58 + 4) (o' := 2 + 3) (by omega) (by omega)]
    rfl
  all_goals exact k_σe (by omega) (by omega)
def k_ad (h : Nat) (u : Nat → Nat) (g : Nat) (v : Nat → Nat) : Nat → Nat := fun o => if o = 0 then h else if o < 58 then u o else if o = 58 then g else v (o - 58)
set_option maxHeartbeats 4000000 in
set_option maxRecDepth 100000 in
theorem k_ws (cs : mj_Cs) (h : Nat) (u : Nat → Nat) (g : Nat) (v : Nat → Nat) : ([] ++ k_mk11 cs h u) ++ k_mk12 cs g v = mj_ws cs (k_ad h u g v) k_σ := rfl
theorem k_wsD {cs : mj_Cs} {ad : Nat → Nat} {σ : mj_W} {A : Nat → Prop} (hD : va_D A (mj_ws cs ad σ)) (σ' : mj_W) : va_D A (mj_ws cs ad σ') := by
  have key : ∀ (k : Nat) (q : Nat × va_E), (mj_ws cs ad σ')[k]? = some q → ∃ q0, (mj_ws cs ad σ)[k]? = some q0 ∧ q0.1 = q.1 := by
    intro k q hk
    unfold mj_ws at hk ⊢
    rw [List.getElem?_map] at hk ⊢
    cases hr : (List.range mj_NC)[k]? with
    | none => rw [hr] at hk; cases hk
    | some o =>
      rw [hr] at hk
      cases hk
      exact ⟨_, rfl, rfl⟩
  refine ⟨fun i1 j1 p1 q1 h1 h2 h3 => ?_, fun k q hk => ?_⟩
  · obtain ⟨a1, b1, c1⟩ := key _ _ h1
    obtain ⟨a2, b2, c2⟩ := key _ _ h2
    exact hD.1 _ _ _ _ b1 b2 (by rw [c1, c2]; exact h3)
  · obtain ⟨a1, b1, c1⟩ := key _ _ hk
    rw [← c1]
    exact hD.2 _ _ b1
