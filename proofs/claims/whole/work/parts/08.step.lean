def mj_ws1 (mi : Nat) : List Cond := mj_cd mi :: mj_tb
theorem mj_gws {mi : Nat} (h : mi < mj_NM) : GoodIn mj_tb (mj_ws1 mi) := fun w hw => (List.mem_cons.mp hw).elim (fun e => e ▸ mj_good (mj_hw1 h).1.1) (fun e => mj_good e)
/-- THE CONTRACT of a method in the small machine's words -/
def mj_Ok (n mi : Nat) (av : List mj_V) (σ : mj_W) (K : Option mj_V → mj_W → Prop) : Prop := ∀ (l : Launch) (D : va_G) (cs : mj_Cs) (A : Nat → Prop) (ad : Nat → Nat) (sa : mj_Sa), Met l (mj_hd mi).1 (mj_ws1 mi) (mj_rm n) (mj_Pc D cs A ad sa av σ) (mj_Qc D cs A ad sa K) 0 0 A
section MJ4
variable {p : Program} {l : Launch} {e : Env} {R : Room} {s : State} {m : MethodId} {args : Array Value} {below : List Frame} {meth : Method} {c : Code} {D : va_G} {cs : mj_Cs} {A : Nat → Prop} {ad : Nat → Nat} {sa : mj_Sa} {cu su : Nat} {Q : State → Prop} {own : String} {cc : ByteArray} {nL n : Nat}
variable {pc nx a b : Nat} {im : Int} {ts : List (Int × Nat)} {loc : mj_L} {st : List mj_V} {σ : mj_W}
variable {k k' : Nat → mj_L → List mj_V → mj_W → Prop}
theorem mj_sum2 : ∀ (r : List mj_V), (((r.map (mj_v ad sa)).map fun v => v.category).sum) ≤ mj_sz r
  | [] => Nat.le_refl 0
  | .inl x :: r => by
    have h1 := mj_sum2 r
    have h2 : (mj_v ad sa (.inl x)).category = 1 := rfl
    simp only [List.map_cons, List.sum_cons, mj_sz]
    omega
  | .inr (.inl x) :: r => by
    have h1 := mj_sum2 r
    have h2 : (mj_v ad sa (.inr (.inl x))).category = 2 := rfl
    simp only [List.map_cons, List.sum_cons, mj_sz]
    omega
  | .inr (.inr q) :: r => by
    have h1 := mj_sum2 r
    have h2 : (mj_v ad sa (.inr (.inr q))).category = 1 := rfl
    simp only [List.map_cons, List.sum_cons, mj_sz]
    omega
theorem mj_vcinv {C : Nat → List mj_V → mj_W → (Option mj_V → mj_W → Prop) → Prop} (h : mj_x_vcall k C nx a b ts loc st σ) : ∃ (t n9 o : Nat) (r : List mj_V) (q : Int × Nat), mj_sz (st.drop b) ≤ 8 ∧ b ≤ st.length ∧ (st.take b).reverse = rV t n9 o :: r ∧ ts = [q] ∧ t = q.2 ∧ C a (rV t n9 o :: r) σ (mj_push (k nx) loc (st.drop b)) := by
  unfold mj_x_vcall at h
  split at h
  · rename_i h1 h2 h3
    split at h
    · rename_i h4
      exact ⟨_, _, _, _, _, Nat.le_of_ble_eq_true h1, Nat.le_of_ble_eq_true h2, h3, rfl, Nat.eq_of_beq_eq_true h4, h⟩
    · exact h.elim
  · exact h.elim
theorem mj_cinv {C : Nat → List mj_V → mj_W → (Option mj_V → mj_W → Prop) → Prop} (h : mj_x_call k C nx a b loc st σ) : mj_sz (st.drop b) ≤ 8 ∧ b ≤ st.length ∧ C a (st.take b).reverse σ (mj_push (k nx) loc (st.drop b)) := by
  unfold mj_x_call at h
  split at h
  · rename_i h1 h2
    exact ⟨Nat.le_of_ble_eq_true h1, Nat.le_of_ble_eq_true h2, h⟩
  · exact h.elim
theorem mj_s_vcall {idx : Nat} (hC : mj_Cx p R s m args c D cs A ad sa cu su own cc nL (n + 1)) (hd : decode cc pc = .ok (.invokevirtual idx, 3)) (hn : nx = pc + 3) (ha : a < mj_NM) (hs : (mj_hp a).1 = false) (hb' : b = (mj_hp a).2.1 + 1) (hts' : ts = [((0 : Int), (mj_hp a).2.2.1)]) (hl : Cond.methodLink own idx (mj_hd a).1 ∈ mj_tb)
    (hk : ∀ pc loc st σ, k pc loc st σ → mj_B p l e R s m args below meth c D cs A ad sa cu su Q nL pc loc st σ)
    (h : mj_x_vcall k (mj_Ok n) nx a b ts loc st σ) : mj_B p l e R s m args below meth c D cs A ad sa cu su Q nL pc loc st σ := by
  obtain ⟨t, n9, o, r, q, h1, h2, h3, h4, h5, hM⟩ := mj_vcinv h
  obtain ⟨⟨w1, w2, w3⟩, ⟨w4, w5⟩, w6, w7⟩ := mj_hw1 ha
  obtain ⟨v1, v2, v3⟩ := mj_hw3 ha hs
  have hq : t = (mj_hp a).2.2.1 := by rw [h5]; rw [hts'] at h4; cases h4; rfl
  have hC0 := hC
  obtain ⟨hx, hb, hml, ho, hts, hK, hDD, hSt, hSc, hf1, hf2, hf3, hf4⟩ := hC
  intro H locs ls hP hS hg hL hst
  have htk : st.take b = r.reverse ++ [rV t n9 o] := by
    have := congrArg List.reverse h3
    rw [List.reverse_reverse] at this
    rw [this]
    simp
  have hst2 : st = r.reverse ++ (rV t n9 o :: st.drop b) := by
    conv => lhs; rw [← List.take_append_drop b st]
    rw [htk]
    simp
  have hlen : r.length + 1 = b := by
    have := congrArg List.length htk
    rw [List.length_take] at this
    simp at this
    omega
  have hav : ∀ v ∈ rV t n9 o :: r, mj_ok sa v := by
    intro v hv
    refine hst v ?_
    rw [hst2]
    rcases List.mem_cons.mp hv with e1 | e1
    · rw [e1]; simp
    · simp [e1]
  have hrest : ∀ v ∈ st.drop b, mj_ok sa v := fun v hv => hst v (List.mem_of_mem_drop hv)
  obtain ⟨qc, hqc, hqn⟩ : ∃ qc : vw_C, vwCl[t]? = some qc ∧ qc.1 = (mj_hd a).1.cls := by
    rw [← hq] at v3
    cases hv9 : vwCl[t]? with
    | none => rw [hv9] at v3; cases v3
    | some qc => rw [hv9] at v3; exact ⟨qc, rfl, Option.some.inj v3⟩
  have ht20 : t < 20 := by
    have := (List.getElem?_eq_some_iff.mp hqc).1
    simp [vwCl] at this
    omega
  obtain ⟨ho2, hk2⟩ := mj_okr (hav _ List.mem_cons_self) (by omega)
  have hat := mj_ws_at cs ad σ ho2
  rw [mj_ce_o cs ad σ hk2 ht20] at hat
  have hGI : GoodIn mj_tb (wsV own idx (mj_hd a).1.cls (mj_hd a).1 (mj_ws1 a)) := by
    intro w hw
    rcases List.mem_append.mp hw with e1 | e1
    · simp only [List.mem_cons, List.not_mem_nil, or_false] at e1
      rcases e1 with rfl | rfl | rfl | rfl
      · exact mj_good hl
      · exact mj_good v1
      · exact mj_good v2
      · exact mj_good w2
    · exact mj_gws ha w e1
  rw [hst2]
  have hsum := mj_sum2 (ad := ad) (sa := sa) (st.drop b)
  have hrun := va_runV (p := p) (l := l) (e := e) (R := R) (s := s) (m := m) (args := args) (below := below) (meth := meth) (c := c) (H := H) (locs := locs) (cells := cu) (slots := su) (g := F0 m pc ls ((r.reverse ++ (rV t n9 o :: st.drop b)).map (mj_v ad sa))) (As := r.map (mj_v ad sa)) (rest := (st.drop b).map (mj_v ad sa)) (b := ad o) (C := (mj_hd a).1.cls) ⟨hx, hb, hml, ho, hts⟩ (hM l D cs A ad sa)
    (cwV (mj_hp a).2.1 hts hGI rfl rfl rfl ⟨rfl, w4, w5, w6⟩ ⟨by show n + 1 ≤ R.frames; exact hf1, by show 8 + ((mj_hd a).2.2.1 + 11) + 64 * n ≤ R.locals; omega⟩)
    ⟨mj_blind _ _, by obtain ⟨cell, g1, g2, g3⟩ := va_recv hK hP hqc hat; exact ⟨cell, g1, g2, by rw [← hqn]; exact g3⟩, fun U hU hW => by
      have := mj_pre hC0 hP hS hg hav U hU hW
      rw [List.map_cons, mj_vr (by omega)] at this
      exact this⟩ rfl (by rw [List.length_map]; omega) hL.1 (by
      show ((r.reverse ++ (rV t n9 o :: st.drop b)).map (mj_v ad sa)) = _
      rw [List.map_append, List.map_cons, mj_vr (by omega), List.map_reverse]) (lv_room (by omega)) hd ⟨by omega, by omega⟩
  refine mj_call hrun hS (fun r' σ' H1 locs1 hK' hok' hP1 hg1 hS1 => ?_)
  subst hn
  cases r' with
  | none => exact hk _ _ _ _ hK' H1 locs1 ls hP1 hS1 hg1 hL hrest
  | some v => exact hk _ _ _ _ hK' H1 locs1 ls hP1 hS1 hg1 hL (mj_cons (hok' v rfl) hrest)
theorem mj_s_scall {idx : Nat} (hC : mj_Cx p R s m args c D cs A ad sa cu su own cc nL (n + 1)) (hd : decode cc pc = .ok (.invokestatic idx, 3)) (hn : nx = pc + 3) (ha : a < mj_NM) (hs : (mj_hp a).1 = true) (hb' : b = (mj_hp a).2.1) (hl : Cond.methodLink own idx (mj_hd a).1 ∈ mj_tb ∨ ∃ host, Cond.methodLinkNest own idx (mj_hd a).1 host ∈ lw_tbl)
    (hk : ∀ pc loc st σ, k pc loc st σ → mj_B p l e R s m args below meth c D cs A ad sa cu su Q nL pc loc st σ)
    (h : mj_x_call k (mj_Ok n) nx a b loc st σ) : mj_B p l e R s m args below meth c D cs A ad sa cu su Q nL pc loc st σ := by
  obtain ⟨h1, h2, hM⟩ := mj_cinv h
  obtain ⟨⟨w1, w2, w3⟩, ⟨w4, w5⟩, w6, w7⟩ := mj_hw1 ha
  have v1 := mj_hw2 ha hs
  have hC0 := hC
  obtain ⟨hx, hb, hml, ho, hts, hK, hDD, hSt, hSc, hf1, hf2, hf3, hf4⟩ := hC
  intro H locs ls hP hS hg hL hst
  have hav : ∀ v ∈ (st.take b).reverse, mj_ok sa v := fun v hv => hst v (List.mem_of_mem_take (List.mem_reverse.mp hv))
  have hrest : ∀ v ∈ st.drop b, mj_ok sa v := fun v hv => hst v (List.mem_of_mem_drop hv)
  have hstk : st.map (mj_v ad sa) = ((st.take b).reverse.map (mj_v ad sa)).reverse ++ (st.drop b).map (mj_v ad sa) := by
    rw [← List.map_reverse, List.reverse_reverse, ← List.map_append, List.take_append_drop]
  have hlen : ((st.take b).reverse.map (mj_v ad sa)).length = (mj_hp a).2.1 := by
    rw [List.length_map, List.length_reverse, List.length_take]; omega
  have hsum := mj_sum2 (ad := ad) (sa := sa) (st.drop b)
  have hR : (mj_rm n).frames + 1 ≤ R.frames ∧ 8 + ((mj_hd a).2.2.1 + 11) + (mj_rm n).locals ≤ R.locals := ⟨by show n + 1 ≤ R.frames; exact hf1, by show 8 + ((mj_hd a).2.2.1 + 11) + 64 * n ≤ R.locals; omega⟩
  have hrun : va_Run p l e R s m args below meth c H locs cu su 0 0 (F0 m pc ls (st.map (mj_v ad sa))) ((st.drop b).map (mj_v ad sa)) (mj_Qc D cs A ad sa (mj_push (k nx) loc (st.drop b)) ((st.take b).reverse.map (mj_v ad sa)).toArray) A := by
    rcases hl with hl | ⟨host, hl⟩
    · exact va_runS (g := F0 m pc ls (st.map (mj_v ad sa))) (As := (st.take b).reverse.map (mj_v ad sa)) (rest := (st.drop b).map (mj_v ad sa)) ⟨hx, hb, hml, ho, hts⟩ (hM l D cs A ad sa)
        ⟨callB_of (mj_hp a).2.1 hts (mj_gws ha) rfl rfl rfl (hts _ w2) (hts _ hl) ⟨w4, w5, w6⟩ hR, hts _ v1⟩ ⟨mj_blind _ _, mj_pre hC0 hP hS hg hav⟩ rfl hlen hL.1 hstk (lv_room (by omega)) hd ⟨by omega, by omega⟩
    · exact va_runSN (g := F0 m pc ls (st.map (mj_v ad sa))) (As := (st.take b).reverse.map (mj_v ad sa)) (rest := (st.drop b).map (mj_v ad sa)) ⟨hx, hb, hml, ho, hts⟩ (hM l D cs A ad sa)
        ⟨va_cnB (host := host) (mj_hp a).2.1 hts (mj_gws ha) rfl rfl rfl (hSt.2.2.2.2 _ hl rfl) (hts _ w2) ⟨w4, w5, w6⟩ hR, hts _ v1, trivial⟩ ⟨mj_blind _ _, mj_pre hC0 hP hS hg hav⟩ rfl hlen hL.1 hstk (lv_room (by omega)) hd ⟨by omega, by omega⟩
  refine mj_call hrun hS (fun r' σ' H1 locs1 hK' hok' hP1 hg1 hS1 => ?_)
  subst hn
  cases r' with
  | none => exact hk _ _ _ _ hK' H1 locs1 ls hP1 hS1 hg1 hL hrest
  | some v => exact hk _ _ _ _ hK' H1 locs1 ls hP1 hS1 hg1 hL (mj_cons (hok' v rfl) hrest)
end MJ4
