/-! arrays, statics, calls -/
section MJ3
variable {p : Program} {l : Launch} {e : Env} {R : Room} {s : State} {m : MethodId} {args : Array Value} {below : List Frame} {meth : Method} {c : Code} {D : va_G} {cs : mj_Cs} {A : Nat → Prop} {ad : Nat → Nat} {sa : mj_Sa} {cu su : Nat} {Q : State → Prop} {own : String} {cc : ByteArray} {nL n : Nat}
variable {pc nx a b : Nat} {im : Int} {ts : List (Int × Nat)} {loc : mj_L} {st : List mj_V} {σ : mj_W}
theorem mj_toN {i : Int} (h : 0 ≤ i) (hr : mj_InR i) : (((Int32.ofInt i).toNatClampNeg : Nat) : Int) = i := by
  rw [mj_cl hr]; omega
theorem mj_ofcast {j : Nat} {i : Int} (h : 0 ≤ i) (hr : mj_InR i) : j = (Int32.ofInt i).toNatClampNeg ↔ (j : Int) = i := by
  rw [mj_cl hr]; omega
theorem mj_s_iald {Sx : Option (Int → Int)} (hC : mj_Cx p R s m args c D cs A ad sa cu su own cc nL n) (hSx : ∀ f, Sx = some f → f = sa.2.2.2.2) (hd : decode cc pc = .ok (.iaload, 1)) (hn : nx = pc + 1)
    (h : mj_x_iald (mj_B p l e R s m args below meth c D cs A ad sa cu su Q nL) Sx nx loc st σ) : mj_B p l e R s m args below meth c D cs A ad sa cu su Q nL pc loc st σ := by
  obtain ⟨hx, hb, hml, ho, hts, hK, hDD, hSt, hSc, -⟩ := hC
  unfold mj_x_iald at h
  split at h
  · rename_i i t k9 o r
    intro H locs ls hP hS hg hL hst
    obtain ⟨hi, h1⟩ := mj_c1 hst
    obtain ⟨h1, h2⟩ := mj_c1 h1
    subst hn
    split at h
    · obtain ⟨hin, h⟩ := h
      obtain ⟨ho2, hk2⟩ := mj_okr h1 (by omega)
      have hat := mj_ws_at cs ad σ ho2
      rw [mj_ce_i cs ad σ hk2] at hat
      have h3 := h H locs ls hP hS hg hL (mj_cons (v := iV (σ o i)) (mj_rg_i hg hk2 (by omega) _) h2)
      have h3 : W p l e R s m args below meth c H locs cu su Q (F0 m (pc + 1) ls (.int (Int32.ofInt (σ o i)) :: r.map (mj_v ad sa))) := h3
      refine va_iald (D := D) (cl := vwCl) hx hb hK hP o 0 hat rfl (mj_in hin hi) hd ?_
      show W p l e R s m args below meth c H locs cu su Q (F0 m (pc + 1) ls (.int (Int32.ofInt (σ o (((Int32.ofInt i).toNatClampNeg : Nat) : Int))) :: r.map (mj_v ad sa)))
      rw [mj_toN hin.1 hi]
      exact h3
    · obtain ⟨hin, h⟩ := h
      have hE : mj_InR (mj_east i) := by unfold mj_east; split; · omega
                                         · split <;> omega
      have h3 := h H locs ls hP hS hg hL (mj_cons (v := iV (mj_east i)) hE h2)
      refine va_ti (v := .int (Int32.ofInt (mj_east i))) hx hb hSt.2.1 hS (mj_in (n := 4) hin hi) ?_ hd h3
      show Value.int (Int32.ofInt (mj_east (((Int32.ofInt i).toNatClampNeg : Nat) : Int))) = _
      rw [mj_toN hin.1 hi]
    · obtain ⟨hin, h⟩ := h
      have hE : mj_InR (mj_north i) := by unfold mj_north; split; · omega
                                          · split <;> omega
      have h3 := h H locs ls hP hS hg hL (mj_cons (v := iV (mj_north i)) hE h2)
      refine va_ti (v := .int (Int32.ofInt (mj_north i))) hx hb hSt.2.2.2.1 hS (mj_in (n := 4) hin hi) ?_ hd h3
      show Value.int (Int32.ofInt (mj_north (((Int32.ofInt i).toNatClampNeg : Nat) : Int))) = _
      rw [mj_toN hin.1 hi]
    · split at h
      · rename_i f
        obtain ⟨hin, h⟩ := h
        have hf := hSx f rfl
        have h1' : (27 < 24 ∧ o < mj_NC ∧ mj_kd.getD o (99, 0) = (27, k9)) ∨ (27 = 25 ∧ k9 = 4) ∨ (27 = 26 ∧ k9 = 4) ∨ (27 = 27 ∧ k9 = sa.2.2.2.1) := h1
        have hk9 : k9 = sa.2.2.2.1 := by omega
        have h3 := h H locs ls hP hS hg hL (mj_cons (v := iV (f i)) (by rw [hf]; exact hSc.2.2.2.1 i) h2)
        have h3 : W p l e R s m args below meth c H locs cu su Q (F0 m (pc + 1) ls (.int (Int32.ofInt (f i)) :: r.map (mj_v ad sa))) := h3
        refine va_sld (xs := fun j => Int32.ofInt (sa.2.2.2.2 (j : Int))) hx hb hSc.1 hSc.2.1 hSc.2.2.1 hS (mj_in (by rw [← hk9]; exact hin) hi) hd ?_
        show W p l e R s m args below meth c H locs cu su Q (F0 m (pc + 1) ls (.int (Int32.ofInt (sa.2.2.2.2 (((Int32.ofInt i).toNatClampNeg : Nat) : Int))) :: r.map (mj_v ad sa)))
        rw [mj_toN hin.1 hi, ← hf]
        exact h3
      · exact h.elim
    · exact h.elim
  · exact h.elim
theorem mj_s_iast (hC : mj_Cx p R s m args c D cs A ad sa cu su own cc nL n) (hd : decode cc pc = .ok (.iastore, 1)) (hn : nx = pc + 1)
    (h : mj_x_iast (mj_B p l e R s m args below meth c D cs A ad sa cu su Q nL) nx loc st σ) : mj_B p l e R s m args below meth c D cs A ad sa cu su Q nL pc loc st σ := by
  obtain ⟨hx, hb, hml, ho, hts, hK, hDD, -⟩ := hC
  unfold mj_x_iast at h
  split at h
  · rename_i x i t k9 o r
    intro H locs ls hP hS hg hL hst
    obtain ⟨hxx, h1⟩ := mj_c1 hst
    obtain ⟨hi, h1⟩ := mj_c1 h1
    obtain ⟨h1, h2⟩ := mj_c1 h1
    subst hn
    split at h
    · obtain ⟨hin, h⟩ := h
      obtain ⟨ho2, hk2⟩ := mj_okr h1 (by omega)
      have hat := mj_ws_at cs ad σ ho2
      rw [mj_ce_i cs ad σ hk2] at hat
      have hrg : mj_rg (mj_up σ o i x) := mj_rg_up hg (by rw [mj_ln_a hk2 (by omega)]; exact hin) (by rw [hk2, if_neg (by intro q; cases q)]; exact hxx)
      refine va_iast (D := D) (cl := vwCl) hx hb hK hP (hDD σ) hS o 0 hat rfl (mj_in hin hi) hd (fun H1 locs1 hP1 hD1 hS1 => ?_)
      rw [mj_ws_set cs ad (σ' := mj_up σ o i x) ho2 (fun o' ho' i' => by unfold mj_up; rw [if_neg (fun q => ho' q.1)])] at hP1
      · exact h H1 locs1 ls hP1 hS1 hrg hL h2
      · rw [mj_ce_i cs ad _ hk2]
        congr 3
        apply congrArg
        funext j
        unfold upd mj_up
        by_cases hj : (j : Int) = i
        · rw [if_pos ((mj_ofcast hin.1 hi).mpr hj), if_pos ⟨rfl, hj⟩]
        · rw [if_neg (fun q => hj ((mj_ofcast hin.1 hi).mp q)), if_neg (fun q => hj q.2)]
    · exact h.elim
  · exact h.elim
theorem mj_s_bald (hC : mj_Cx p R s m args c D cs A ad sa cu su own cc nL n) (hd : decode cc pc = .ok (.baload, 1)) (hn : nx = pc + 1)
    (h : mj_x_bald (mj_B p l e R s m args below meth c D cs A ad sa cu su Q nL) nx loc st σ) : mj_B p l e R s m args below meth c D cs A ad sa cu su Q nL pc loc st σ := by
  obtain ⟨hx, hb, hml, ho, hts, hK, -⟩ := hC
  unfold mj_x_bald at h
  split at h
  · rename_i i t k9 o r
    intro H locs ls hP hS hg hL hst
    obtain ⟨hi, h1⟩ := mj_c1 hst
    obtain ⟨h1, h2⟩ := mj_c1 h1
    subst hn
    split at h
    · obtain ⟨hin, h⟩ := h
      obtain ⟨ho2, hk2⟩ := mj_okr h1 (by omega)
      have hat := mj_ws_at cs ad σ ho2
      rw [mj_ce_z cs ad σ hk2] at hat
      have h3 := h H locs ls hP hS hg hL (mj_cons (v := iV (σ o i)) (mj_rg_i hg hk2 (by omega) _) h2)
      have h3 : W p l e R s m args below meth c H locs cu su Q (F0 m (pc + 1) ls (.int (Int32.ofInt (σ o i)) :: r.map (mj_v ad sa))) := h3
      refine va_zald (D := D) (cl := vwCl) hx hb hK hP o 1 hat rfl (mj_in hin hi) hd ?_
      show W p l e R s m args below meth c H locs cu su Q (F0 m (pc + 1) ls (.int (Int32.ofInt (σ o (((Int32.ofInt i).toNatClampNeg : Nat) : Int))) :: r.map (mj_v ad sa)))
      rw [mj_toN hin.1 hi]
      exact h3
    · exact h.elim
  · exact h.elim
theorem mj_s_bast (hC : mj_Cx p R s m args c D cs A ad sa cu su own cc nL n) (hd : decode cc pc = .ok (.bastore, 1)) (hn : nx = pc + 1)
    (h : mj_x_bast (mj_B p l e R s m args below meth c D cs A ad sa cu su Q nL) nx loc st σ) : mj_B p l e R s m args below meth c D cs A ad sa cu su Q nL pc loc st σ := by
  obtain ⟨hx, hb, hml, ho, hts, hK, hDD, -⟩ := hC
  unfold mj_x_bast at h
  split at h
  · rename_i x i t k9 o r
    intro H locs ls hP hS hg hL hst
    obtain ⟨hxx, h1⟩ := mj_c1 hst
    obtain ⟨hi, h1⟩ := mj_c1 h1
    obtain ⟨h1, h2⟩ := mj_c1 h1
    subst hn
    split at h
    · obtain ⟨⟨hin, hz⟩, h⟩ := h
      obtain ⟨-, -, z3⟩ := mj_zf hz
      obtain ⟨ho2, hk2⟩ := mj_okr h1 (by omega)
      have hat := mj_ws_at cs ad σ ho2
      rw [mj_ce_z cs ad σ hk2] at hat
      have hrg : mj_rg (mj_up σ o i x) := mj_rg_up hg (by rw [mj_ln_a hk2 (by omega)]; exact hin) (by rw [hk2, if_neg (by intro q; cases q)]; exact hxx)
      refine va_zast (D := D) (cl := vwCl) hx hb hK hP (hDD σ) hS o 1 hat rfl (mj_in hin hi) hd (fun H1 locs1 hP1 hD1 hS1 => ?_)
      rw [mj_ws_set cs ad (σ' := mj_up σ o i x) ho2 (fun o' ho' i' => by unfold mj_up; rw [if_neg (fun q => ho' q.1)])] at hP1
      · exact h H1 locs1 ls hP1 hS1 hrg hL h2
      · rw [mj_ce_z cs ad _ hk2, z3]
        congr 3
        apply congrArg
        funext j
        unfold upd mj_up
        by_cases hj : (j : Int) = i
        · rw [if_pos ((mj_ofcast hin.1 hi).mpr hj), if_pos ⟨rfl, hj⟩]
        · rw [if_neg (fun q => hj ((mj_ofcast hin.1 hi).mp q)), if_neg (fun q => hj q.2)]
    · exact h.elim
  · exact h.elim
theorem mj_s_jald (hC : mj_Cx p R s m args c D cs A ad sa cu su own cc nL n) (hd : decode cc pc = .ok (.laload, 1)) (hn : nx = pc + 1)
    (h : mj_x_jald (mj_B p l e R s m args below meth c D cs A ad sa cu su Q nL) nx loc st σ) : mj_B p l e R s m args below meth c D cs A ad sa cu su Q nL pc loc st σ := by
  obtain ⟨hx, hb, hml, ho, hts, hK, -⟩ := hC
  unfold mj_x_jald at h
  split at h
  · rename_i i t k9 o r
    intro H locs ls hP hS hg hL hst
    obtain ⟨hi, h1⟩ := mj_c1 hst
    obtain ⟨h1, h2⟩ := mj_c1 h1
    subst hn
    split at h
    · obtain ⟨hin, h⟩ := h
      obtain ⟨ho2, hk2⟩ := mj_okr h1 (by omega)
      have hat := mj_ws_at cs ad σ ho2
      rw [mj_ce_j cs ad σ hk2] at hat
      have h3 := h H locs ls hP hS hg hL (mj_cons (v := jV (σ o i)) (mj_rg_j hg _ _) h2)
      have h3 : W p l e R s m args below meth c H locs cu su Q (F0 m (pc + 1) ls (.long (Int64.ofInt (σ o i)) :: r.map (mj_v ad sa))) := h3
      refine va_lald (D := D) (cl := vwCl) hx hb hK hP o 2 hat rfl (mj_in hin hi) hd ?_
      show W p l e R s m args below meth c H locs cu su Q (F0 m (pc + 1) ls (.long (Int64.ofInt (σ o (((Int32.ofInt i).toNatClampNeg : Nat) : Int))) :: r.map (mj_v ad sa)))
      rw [mj_toN hin.1 hi]
      exact h3
    · exact h.elim
  · exact h.elim
theorem mj_s_jast (hC : mj_Cx p R s m args c D cs A ad sa cu su own cc nL n) (hd : decode cc pc = .ok (.lastore, 1)) (hn : nx = pc + 1)
    (h : mj_x_jast (mj_B p l e R s m args below meth c D cs A ad sa cu su Q nL) nx loc st σ) : mj_B p l e R s m args below meth c D cs A ad sa cu su Q nL pc loc st σ := by
  obtain ⟨hx, hb, hml, ho, hts, hK, hDD, -⟩ := hC
  unfold mj_x_jast at h
  split at h
  · rename_i x i t k9 o r
    intro H locs ls hP hS hg hL hst
    obtain ⟨hxx, h1⟩ := mj_c1 hst
    obtain ⟨hi, h1⟩ := mj_c1 h1
    obtain ⟨h1, h2⟩ := mj_c1 h1
    subst hn
    split at h
    · obtain ⟨hin, h⟩ := h
      obtain ⟨ho2, hk2⟩ := mj_okr h1 (by omega)
      have h169 := mj_lay22 o ho2 (by rw [hk2])
      rw [hk2] at h169
      have h169 : k9 = 169 := h169
      have hat := mj_ws_at cs ad σ ho2
      rw [mj_ce_j cs ad σ hk2] at hat
      have hrg : mj_rg (mj_up σ o i x) := mj_rg_up hg (by rw [mj_ln_a hk2 (by omega)]; exact hin) (by rw [hk2, h169, if_pos rfl]; exact hxx)
      refine va_last (D := D) (cl := vwCl) hx hb hK hP (hDD σ) hS o 2 hat rfl (mj_in hin hi) hd (fun H1 locs1 hP1 hD1 hS1 => ?_)
      rw [mj_ws_set cs ad (σ' := mj_up σ o i x) ho2 (fun o' ho' i' => by unfold mj_up; rw [if_neg (fun q => ho' q.1)])] at hP1
      · exact h H1 locs1 ls hP1 hS1 hrg hL h2
      · rw [mj_ce_j cs ad _ hk2]
        congr 4
        apply congrArg
        funext j
        unfold vp_updL mj_up
        by_cases hj : (j : Int) = i
        · rw [if_pos ((mj_ofcast hin.1 hi).mpr hj), if_pos ⟨rfl, hj⟩]
        · rw [if_neg (fun q => hj ((mj_ofcast hin.1 hi).mp q)), if_neg (fun q => hj q.2)]
    · exact h.elim
  · exact h.elim
theorem mj_s_rald (hC : mj_Cx p R s m args c D cs A ad sa cu su own cc nL n) (hd : decode cc pc = .ok (.aaload, 1)) (hn : nx = pc + 1)
    (h : mj_x_rald (mj_B p l e R s m args below meth c D cs A ad sa cu su Q nL) nx loc st σ) : mj_B p l e R s m args below meth c D cs A ad sa cu su Q nL pc loc st σ := by
  obtain ⟨hx, hb, hml, ho, hts, hK, -⟩ := hC
  unfold mj_x_rald at h
  split at h
  · rename_i i t k9 o r
    intro H locs ls hP hS hg hL hst
    obtain ⟨hi, h1⟩ := mj_c1 hst
    obtain ⟨h1, h2⟩ := mj_c1 h1
    subst hn
    split at h
    · obtain ⟨hin, h⟩ := h
      obtain ⟨ho2, hk2⟩ := mj_okr h1 (by omega)
      have h2' := mj_lay9 o ho2 (by rw [hk2])
      rw [hk2] at h2'
      have h2' : k9 = 2 := h2'
      subst h2'
      obtain ⟨g1, g2, g3⟩ := mj_lay23 o ho2 hk2
      have hat := mj_ws_at cs ad σ ho2
      rw [mj_ce_q cs ad σ hk2] at hat
      refine va_aldq (D := D) (cl := vwCl) hx hb hK hP o 3 hat rfl (mj_in (n := 2) hin hi) hd ?_
      obtain ⟨f1, f2⟩ := mj_ifp h
      show W p l e R s m args below meth c H locs cu su Q (F0 m (pc + 1) ls (va_rf (if (Int32.ofInt i).toNatClampNeg = 0 then some (ad (o + 1)) else some (ad (o + 14))) :: r.map (mj_v ad sa)))
      by_cases hi0 : i = 0
      · have e0 : (Int32.ofInt i).toNatClampNeg = 0 := by rw [mj_cl hi]; omega
        rw [if_pos e0]
        have h3 := f1 hi0 H locs ls hP hS hg hL (mj_cons (v := rV 0 0 (o + 1)) (Or.inl ⟨by omega, by omega, g2⟩) h2)
        have h3 : W p l e R s m args below meth c H locs cu su Q (F0 m (pc + 1) ls (mj_v ad sa (rV 0 0 (o + 1)) :: r.map (mj_v ad sa))) := h3
        rw [mj_vr (by omega)] at h3
        exact h3
      · have e0 : ¬ (Int32.ofInt i).toNatClampNeg = 0 := by rw [mj_cl hi]; omega
        rw [if_neg e0]
        have h3 := f2 hi0 H locs ls hP hS hg hL (mj_cons (v := rV 0 0 (o + 14)) (Or.inl ⟨by omega, by omega, g3⟩) h2)
        have h3 : W p l e R s m args below meth c H locs cu su Q (F0 m (pc + 1) ls (mj_v ad sa (rV 0 0 (o + 14)) :: r.map (mj_v ad sa))) := h3
        rw [mj_vr (by omega)] at h3
        exact h3
    · exact h.elim
  · exact h.elim
theorem mj_s_len (hC : mj_Cx p R s m args c D cs A ad sa cu su own cc nL n) (hd : decode cc pc = .ok (.arraylength, 1)) (hn : nx = pc + 1)
    (h : mj_x_len (mj_B p l e R s m args below meth c D cs A ad sa cu su Q nL) nx loc st σ) : mj_B p l e R s m args below meth c D cs A ad sa cu su Q nL pc loc st σ := by
  obtain ⟨hx, hb, hml, ho, hts, hK, hDD, hSt, hSc, -⟩ := hC
  unfold mj_x_len at h
  split at h
  · rename_i t k9 o r
    split at h
    · intro H locs ls hP hS hg hL hst
      obtain ⟨h1, h2⟩ := mj_c1 hst
      have h1' : (27 < 24 ∧ o < mj_NC ∧ mj_kd.getD o (99, 0) = (27, k9)) ∨ (27 = 25 ∧ k9 = 4) ∨ (27 = 26 ∧ k9 = 4) ∨ (27 = 27 ∧ k9 = sa.2.2.2.1) := h1
      have hk9 : k9 = sa.2.2.2.1 := by omega
      have hsm := hSc.2.2.2.2
      have h3 := h H locs ls hP hS hg hL (mj_cons (v := iV (k9 : Int)) (show mj_InR (k9 : Int) by omega) h2)
      subst hn
      have h3 : W p l e R s m args below meth c H locs cu su Q (F0 m (pc + 1) ls (.int (Int32.ofInt (k9 : Int)) :: r.map (mj_v ad sa))) := h3
      refine va_slen hx hb hSc.1 hSc.2.1 hSc.2.2.1 hS hd ?_
      rw [← hk9]
      exact h3
    · exact h.elim
  · exact h.elim
theorem mj_sum : ∀ (r : List mj_V), (((r.map (mj_v ad sa)).map fun v => v.category).sum) ≤ 2 * r.length
  | [] => Nat.le_refl 0
  | v :: r => by
    have h1 := mj_sum r
    have h2 : (mj_v ad sa v).category ≤ 2 := by rcases lv_cat (mj_v ad sa v) with h | h <;> omega
    simp only [List.map_cons, List.sum_cons, List.length_cons]
    omega
def mj_Qc (D : va_G) (cs : mj_Cs) (A : Nat → Prop) (ad : Nat → Nat) (sa : mj_Sa) (K : Option mj_V → mj_W → Prop) : Array Value → State → Outcome → State → Prop := fun _ st o t =>
  (∃ (r : Option mj_V) (σ' : mj_W), o = .returned (r.map (mj_v ad sa)) ∧ K r σ' ∧ (∀ v, r = some v → mj_ok sa v) ∧ va_P D vwCl (mj_ws cs ad σ') t.heap ∧ mj_rg σ') ∧ va_F A st t
def mj_Pc (D : va_G) (cs : mj_Cs) (A : Nat → Prop) (ad : Nat → Nat) (sa : mj_Sa) (av : List mj_V) (σ : mj_W) : Array Value → State → Prop := fun a U =>
  a = (av.map (mj_v ad sa)).toArray ∧ va_P D vwCl (mj_ws cs ad σ) U.heap ∧ mj_rg σ ∧ (∀ v ∈ av, mj_ok sa v) ∧ va_K D vwCl (mj_ty cs) U ∧ (∀ σ' : mj_W, va_D A (mj_ws cs ad σ')) ∧ mj_St A sa U ∧ mj_Sc A sa U
theorem mj_St.moved {u U : State} {A : Nat → Prop} {sa : mj_Sa} (hvm : u.vm.Alike U.vm) (hq : ∀ q : Nat, q < u.heap.size → ¬ A q → U.heap[q]? = u.heap[q]?) (hN : mj_Ns u → mj_Ns U) (h : mj_St A sa u) : mj_St A sa U :=
  ⟨(h.1.kept hq).moved hvm, (h.2.1.kept hq).moved hvm, (h.2.2.1.kept hq).moved hvm, (h.2.2.2.1.kept hq).moved hvm, hN h.2.2.2.2⟩
theorem mj_isN_tab {w : Cond} (h : mj_isN w = true) : w.onTables = true := by
  unfold mj_isN at h
  split at h
  · rfl
  · rfl
  · cases h
theorem mj_Ns.same {u U : State} (h : u.vm = U.vm) (hN : mj_Ns u) : mj_Ns U := fun w hw hi => va_Nw.same (mj_isN_tab hi) h (hN w hw hi)
theorem mj_Ns.warm {u U : State} (h : u.WarmedH U.vm) (hN : mj_Ns u) : mj_Ns U := by
  intro w hw hi
  have h9 := hN w hw hi
  unfold mj_isN at hi
  split at hi
  · exact va_Nw.warmF h h9
  · exact va_Nw.warmM h h9
  · cases hi
theorem mj_Sc.moved {u U : State} {A : Nat → Prop} {sa : mj_Sa} (hvm : u.vm.Alike U.vm) (hz : u.heap.size ≤ U.heap.size) (hq : ∀ q : Nat, q < u.heap.size → ¬ A q → U.heap[q]? = u.heap[q]?) (h : mj_Sc A sa u) : mj_Sc A sa U :=
  ⟨(h.1.kept (hq _ h.2.1 h.2.2.1)).moved hvm, Nat.lt_of_lt_of_le h.2.1 hz, h.2.2⟩
theorem mj_blind (av : List mj_V) (σ : mj_W) : FrameBlind (mj_Pc D cs A ad sa av σ) := by
  intro a U g mk q
  obtain ⟨q1, q2, q3, q4, q5, q6, q7, q8⟩ := q
  exact ⟨q1, q2, q3, q4, va_K.moved (u := U) (U := U.calling g mk a) (Vm.Alike.refl U.vm) q5, q6, mj_St.moved (u := U) (U := U.calling g mk a) (Vm.Alike.refl U.vm) (fun _ _ _ => rfl) (mj_Ns.same rfl) q7, mj_Sc.moved (u := U) (U := U.calling g mk a) (Vm.Alike.refl U.vm) (Nat.le_refl _) (fun _ _ _ => rfl) q8⟩
theorem mj_call {K' : Option mj_V → mj_W → Prop} {H : Heap} {locs : List Loc} {ls : Array Slot} {st0 rest : List Value} {a0 : Array Value} (hr : va_Run p l e R s m args below meth c H locs cu su 0 0 (F0 m pc ls st0) rest (mj_Qc D cs A ad sa K' a0) A) (hS : va_S A s.heap H locs)
    (kk : ∀ (r : Option mj_V) (σ' : mj_W) (H1 : Heap) (locs1 : List Loc), K' r σ' → (∀ v, r = some v → mj_ok sa v) → va_P D vwCl (mj_ws cs ad σ') H1 → mj_rg σ' → va_S A s.heap H1 locs1 → W p l e R s m args below meth c H1 locs1 cu su Q (F0 m (pc + 3) ls ((r.map (mj_v ad sa)).toList ++ rest))) : W p l e R s m args below meth c H locs cu su Q (F0 m pc ls st0) := by
  intro T hT X
  obtain ⟨v, st₀, t, T', L, h0, X', hL, e1, e2, ⟨⟨r, σ', hv, hk, hok, hp, hg⟩, hz, hkp⟩, st⟩ := hr T hT X
  cases hv
  rw [h0] at hz hkp
  obtain ⟨t2, a1, b1⟩ := kk r σ' T'.heap (locs ++ L) hk hok (by rw [e1]; exact hp) hg
    ⟨Nat.le_trans hS.1 (by rw [e1]; exact hz), fun q h1 h2 => by rw [e1, hkp q (Nat.lt_of_lt_of_le h1 hS.1) h2]; exact hS.2.1 q h1 h2, fun q hq => by
      rcases List.mem_append.mp hq with h | h
      · exact hS.2.2 q h
      · exact hL q h⟩ T' rfl X'
  exact ⟨t2, st t2 a1, b1⟩
theorem mj_pre {H : Heap} {locs : List Loc} {av : List mj_V} (hC : mj_Cx p R s m args c D cs A ad sa cu su own cc nL n) (hP : va_P D vwCl (mj_ws cs ad σ) H) (hS : va_S A s.heap H locs) (hg : mj_rg σ) (hav : ∀ v ∈ av, mj_ok sa v) (U : State) (hU : U.heap = H) (hW : s.WarmedH U.vm) : mj_Pc D cs A ad sa av σ (av.map (mj_v ad sa)).toArray U := by
  obtain ⟨hx, hb, hml, ho, hts, hK, hDD, hSt, hSc, -⟩ := hC
  refine ⟨rfl, by rw [hU]; exact hP, hg, hav, va_K.moved hW.alike hK, hDD, mj_St.moved hW.alike (fun q h1 h2 => by rw [hU]; exact hS.2.1 q h1 h2) (mj_Ns.warm hW) hSt, mj_Sc.moved hW.alike (by rw [hU]; exact hS.1) (fun q h1 h2 => by rw [hU]; exact hS.2.1 q h1 h2) hSc⟩
/-! System.arraycopy of ints, Math.max, min, abs -/
theorem mj_nfw : nativeFrameWords "java/lang/System" "arraycopy" 5 = 7 := by decide +kernel
def mj_Cy (own : String) (idx : Nat) : Prop := Cond.methodLink own idx arraycopyName ∈ mj_tb ∧ Cond.native arraycopyName ∈ mj_tb ∧ Cond.static arraycopyName ∈ mj_tb ∧ Cond.initialized "java/lang/System" ∈ mj_tb
theorem mj_s_copy {idx : Nat} {x dp sp : Int} {td nd d ts ns s0 : Nat} {r : List mj_V} (hC : mj_Cx p R s m args c D cs A ad sa cu su own cc nL (n + 1)) (hd : decode cc pc = .ok (.invokestatic idx, 3)) (hn : nx = pc + 3) (hw : mj_Cy own idx) (e1 : td = 20) (e2 : ts = 20) (hr4 : r.length ≤ 4) (hv : (sp = 0 ∧ dp = 0) ∧ 0 ≤ x ∧ x ≤ (ns : Int) ∧ x ≤ (nd : Int))
    (h : mj_B p l e R s m args below meth c D cs A ad sa cu su Q nL nx loc r (mj_cp σ s0 d x)) : mj_B p l e R s m args below meth c D cs A ad sa cu su Q nL pc loc (iV x :: iV dp :: rV td nd d :: iV sp :: rV ts ns s0 :: r) σ := by
  obtain ⟨hx, hb, hml, ho, hts, hK, hDD, hSt, hSc, hf1, hf2, hf3, hf4⟩ := hC
  obtain ⟨w1, w2, w3, w4⟩ := hw
  intro H locs ls hP hS hg hL hst
  obtain ⟨hxx, h1⟩ := mj_c1 hst
  obtain ⟨hdp, h1⟩ := mj_c1 h1
  obtain ⟨hdd, h1⟩ := mj_c1 h1
  obtain ⟨hsp, h1⟩ := mj_c1 h1
  obtain ⟨hss, h2⟩ := mj_c1 h1
  subst hn
  obtain ⟨⟨rfl, rfl⟩, hx0, hxs, hxd⟩ := hv
  subst e1; subst e2
  obtain ⟨hd2, hkd⟩ := mj_okr hdd (by omega)
  obtain ⟨hs2, hks⟩ := mj_okr hss (by omega)
  have hatd := mj_ws_at cs ad σ hd2
  rw [mj_ce_i cs ad σ hkd] at hatd
  have hats := mj_ws_at cs ad σ hs2
  rw [mj_ce_i cs ad σ hks] at hats
  have e0 : (Int32.ofInt 0).toNatClampNeg = 0 := by decide
  have ex : (Int32.ofInt x).toNatClampNeg = x.toNat := mj_cl hxx
  have hrg : mj_rg (mj_cp σ s0 d x) := by
    intro o' i'
    unfold mj_cp
    by_cases hc : o' = d ∧ 0 ≤ i' ∧ i' < x
    · rw [if_pos hc, hc.1, hkd, if_neg (by intro q; cases q)]
      refine ⟨mj_rg_i hg hks (by omega) _, fun q => absurd ?_ q⟩
      rw [mj_ln_a hkd (by omega)]
      omega
    · rw [if_neg hc]; exact hg o' i'
  show W p l e R s m args below meth c H locs cu su Q (F0 m pc ls (.int (Int32.ofInt x) :: .int (Int32.ofInt 0) :: mj_v ad sa (rV 20 nd d) :: .int (Int32.ofInt 0) :: mj_v ad sa (rV 20 ns s0) :: r.map (mj_v ad sa)))
  rw [mj_vr (by omega), mj_vr (by omega)]
  refine va_copyi (D := D) (cl := vwCl) hx hb (by rw [hml]; exact hL.1.symm) ho (hts _ w1) (hts _ w2) (hts _ w3) (hts _ w4) hK hP (hDD σ) hS s0 d 0 0 (ty := .int) hats hatd rfl rfl rfl (by decide) (by decide) (by rw [← mj_z, mj_ltI hxx (by omega)]; omega) (by rw [e0, ex]; omega) (by rw [e0, ex]; omega) (fun _ _ => rfl) (by omega) (by have := mj_sum (ad := ad) (sa := sa) r; rw [mj_nfw]; omega) hd (fun H1 locs1 hP1 hD1 hS1 => ?_)
  rw [mj_ws_set cs ad (σ' := mj_cp σ s0 d x) hd2 (fun o' ho' i' => by unfold mj_cp; rw [if_neg (fun q => ho' q.1)])] at hP1
  · exact h H1 locs1 ls hP1 hS1 hrg hL h2
  · rw [mj_ce_i cs ad _ hkd]
    congr 3
    apply congrArg
    funext j
    unfold va_cpy mj_cp
    rw [e0, ex]
    by_cases hj : (j : Int) < x
    · rw [if_pos ⟨by omega, by omega⟩, if_pos ⟨rfl, by omega, hj⟩]
      congr 2
      omega
    · rw [if_neg (by omega), if_neg (fun q => hj q.2.2)]
def mj_Mx (own : String) (idx : Nat) : Prop := Cond.methodLink own idx Lib.Math.max.name ∈ mj_tb ∧ Cond.static Lib.Math.max.name ∈ mj_tb ∧ Cond.initialized "java/lang/Math" ∈ mj_tb ∧ Cond.code Lib.Math.max.name Lib.Math.max.code 2 (some .int) ∈ mj_tb
def mj_Mn (own : String) (idx : Nat) : Prop := Cond.methodLink own idx Lib.Math.min.name ∈ mj_tb ∧ Cond.static Lib.Math.min.name ∈ mj_tb ∧ Cond.initialized "java/lang/Math" ∈ mj_tb ∧ Cond.code Lib.Math.min.name Lib.Math.min.code 2 (some .int) ∈ mj_tb
def mj_Mb (own : String) (idx : Nat) : Prop := Cond.methodLink own idx Lib.Math.abs.name ∈ mj_tb ∧ Cond.static Lib.Math.abs.name ∈ mj_tb ∧ Cond.initialized "java/lang/Math" ∈ mj_tb ∧ Cond.code Lib.Math.abs.name Lib.Math.abs.code 1 (some .int) ∈ mj_tb
theorem mj_s_max {idx : Nat} {x y : Int} {r : List mj_V} (hC : mj_Cx p R s m args c D cs A ad sa cu su own cc nL (n + 1)) (hd : decode cc pc = .ok (.invokestatic idx, 3)) (hn : nx = pc + 3) (hw : mj_Mx own idx) (hr4 : r.length ≤ 4)
    (h : mj_B p l e R s m args below meth c D cs A ad sa cu su Q nL nx loc (iV (max x y) :: r) σ) : mj_B p l e R s m args below meth c D cs A ad sa cu su Q nL pc loc (iV y :: iV x :: r) σ := by
  obtain ⟨hx, hb, hml, ho, hts, hK, hDD, hSt, hSc, hf1, hf2, hf3, hf4⟩ := hC
  obtain ⟨w1, w2, w3, w4⟩ := hw
  intro H locs ls hP hS hg hL hst
  obtain ⟨hy, h1⟩ := mj_c1 hst
  obtain ⟨hxx, h2⟩ := mj_c1 h1
  have hy : mj_InR y := hy
  have hxx : mj_InR x := hxx
  subst hn
  have h3 := h H locs ls hP hS hg hL (mj_cons (v := iV (max x y)) (show mj_InR (max x y) by omega) h2)
  have h3 : W p l e R s m args below meth c H locs cu su Q (F0 m (pc + 3) ls (.int (Int32.ofInt (max x y)) :: r.map (mj_v ad sa))) := h3
  refine va_mmax hx hb (by rw [hml]; exact hL.1.symm) ho (hts _ w1) (hts _ w2) (hts _ w3) (hts _ w4) (by omega) (by have := mj_sum (ad := ad) (sa := sa) r; omega) hf3 hf4 hd ?_
  by_cases hc : x < y
  · rw [if_pos ((mj_ltI hxx hy).mpr hc), show y = max x y by omega]; exact h3
  · rw [if_neg (fun q => hc ((mj_ltI hxx hy).mp q)), show Int32.ofInt x = Int32.ofInt (max x y) by congr 1; omega]; exact h3
theorem mj_s_min {idx : Nat} {x y : Int} {r : List mj_V} (hC : mj_Cx p R s m args c D cs A ad sa cu su own cc nL (n + 1)) (hd : decode cc pc = .ok (.invokestatic idx, 3)) (hn : nx = pc + 3) (hw : mj_Mn own idx) (hr4 : r.length ≤ 4)
    (h : mj_B p l e R s m args below meth c D cs A ad sa cu su Q nL nx loc (iV (min x y) :: r) σ) : mj_B p l e R s m args below meth c D cs A ad sa cu su Q nL pc loc (iV y :: iV x :: r) σ := by
  obtain ⟨hx, hb, hml, ho, hts, hK, hDD, hSt, hSc, hf1, hf2, hf3, hf4⟩ := hC
  obtain ⟨w1, w2, w3, w4⟩ := hw
  intro H locs ls hP hS hg hL hst
  obtain ⟨hy, h1⟩ := mj_c1 hst
  obtain ⟨hxx, h2⟩ := mj_c1 h1
  have hy : mj_InR y := hy
  have hxx : mj_InR x := hxx
  subst hn
  have h3 := h H locs ls hP hS hg hL (mj_cons (v := iV (min x y)) (show mj_InR (min x y) by omega) h2)
  have h3 : W p l e R s m args below meth c H locs cu su Q (F0 m (pc + 3) ls (.int (Int32.ofInt (min x y)) :: r.map (mj_v ad sa))) := h3
  refine va_mmin hx hb (by rw [hml]; exact hL.1.symm) ho (hts _ w1) (hts _ w2) (hts _ w3) (hts _ w4) (by omega) (by have := mj_sum (ad := ad) (sa := sa) r; omega) hf3 hf4 hd ?_
  by_cases hc : y < x
  · rw [if_pos ((mj_ltI hy hxx).mpr hc), show Int32.ofInt y = Int32.ofInt (min x y) by congr 1; omega]; exact h3
  · rw [if_neg (fun q => hc ((mj_ltI hy hxx).mp q)), show Int32.ofInt x = Int32.ofInt (min x y) by congr 1; omega]; exact h3
theorem mj_s_abs {idx : Nat} {x : Int} {r : List mj_V} (hC : mj_Cx p R s m args c D cs A ad sa cu su own cc nL (n + 1)) (hd : decode cc pc = .ok (.invokestatic idx, 3)) (hn : nx = pc + 3) (hw : mj_Mb own idx) (hr4 : r.length ≤ 4) (hv : -2147483648 < x)
    (h : mj_B p l e R s m args below meth c D cs A ad sa cu su Q nL nx loc (iV (if x < 0 then -x else x) :: r) σ) : mj_B p l e R s m args below meth c D cs A ad sa cu su Q nL pc loc (iV x :: r) σ := by
  obtain ⟨hx, hb, hml, ho, hts, hK, hDD, hSt, hSc, hf1, hf2, hf3, hf4⟩ := hC
  obtain ⟨w1, w2, w3, w4⟩ := hw
  intro H locs ls hP hS hg hL hst
  obtain ⟨hxx, h2⟩ := mj_c1 hst
  have hxx : mj_InR x := hxx
  subst hn
  have h3 := h H locs ls hP hS hg hL (mj_cons (v := iV (if x < 0 then -x else x)) (show mj_InR (if x < 0 then -x else x) by split <;> omega) h2)
  have h3 : W p l e R s m args below meth c H locs cu su Q (F0 m (pc + 3) ls (.int (Int32.ofInt (if x < 0 then -x else x)) :: r.map (mj_v ad sa))) := h3
  refine va_mabs hx hb (by rw [hml]; exact hL.1.symm) ho (hts _ w1) (hts _ w2) (hts _ w3) (hts _ w4) (by omega) (by have := mj_sum (ad := ad) (sa := sa) r; omega) hf3 hf4 hd ?_
  by_cases hc : x < 0
  · rw [if_pos hc] at h3
    rw [if_neg (by rw [← mj_z, mj_leI (by omega) hxx]; omega), ← mj_z, ← Int32.ofInt_sub, show (0 : Int) - x = -x by omega]
    exact h3
  · rw [if_neg hc] at h3
    rw [if_pos (by rw [← mj_z, mj_leI (by omega) hxx]; omega)]
    exact h3
end MJ3
