/-! locals -/
theorem mj_ld_set (l : mj_L) (i j : Nat) (x : Option mj_V) (w : mj_V) (h : mj_ld (l.set i x) j = some w) : (j = i ∧ x = some w) ∨ (j ≠ i ∧ mj_ld l j = some w) := by
  unfold mj_ld at h ⊢
  rw [List.getElem?_set] at h
  by_cases hc : i = j
  · rw [if_pos hc] at h
    by_cases hl : i < l.length
    · rw [if_pos hl] at h
      exact Or.inl ⟨hc.symm, h⟩
    · rw [if_neg hl] at h
      cases h
  · rw [if_neg hc] at h
    exact Or.inr ⟨fun q => hc q.symm, h⟩
theorem mj_kl_ld (l : mj_L) (i j : Nat) (w : mj_V) (h : mj_ld (mj_kl l i) j = some w) : mj_ld l j = some w ∧ ¬ (j + 1 = i ∧ ∃ x, w = jV x) := by
  unfold mj_kl at h
  split at h
  · exact ⟨h, fun q => by omega⟩
  · rename_i k
    split at h
    · rcases mj_ld_set _ _ _ _ _ h with ⟨_, q⟩ | ⟨hne, hh⟩
      · cases q
      · exact ⟨hh, fun q => hne (by omega)⟩
    · rename_i hno
      refine ⟨h, ?_⟩
      rintro ⟨e1, x, rfl⟩
      have e2 : j = k := by omega
      subst e2
      exact hno x h
theorem mj_sto1_ld (l : mj_L) (i j : Nat) (v w : mj_V) (h : mj_ld (mj_sto1 l i v) j = some w) : (j = i ∧ v = w) ∨ (j ≠ i ∧ mj_ld l j = some w ∧ ¬ (j + 1 = i ∧ ∃ x, w = jV x)) := by
  rcases mj_ld_set _ _ _ _ _ h with ⟨e, q⟩ | ⟨hne, hh⟩
  · exact Or.inl ⟨e, Option.some.inj q⟩
  · obtain ⟨h1, h2⟩ := mj_kl_ld _ _ _ _ hh
    exact Or.inr ⟨hne, h1, h2⟩
theorem mj_sto2_ld (l : mj_L) (i j : Nat) (v w : mj_V) (h : mj_ld (mj_sto2 l i v) j = some w) : (j = i ∧ v = w) ∨ (j ≠ i ∧ j ≠ i + 1 ∧ mj_ld l j = some w ∧ ¬ (j + 1 = i ∧ ∃ x, w = jV x)) := by
  rcases mj_ld_set _ _ _ _ _ h with ⟨e, q⟩ | ⟨hne, hh⟩
  · cases q
  · rcases mj_ld_set _ _ _ _ _ hh with ⟨e, q⟩ | ⟨hne2, hh⟩
    · exact Or.inl ⟨e, Option.some.inj q⟩
    · obtain ⟨h1, h2⟩ := mj_kl_ld _ _ _ _ hh
      exact Or.inr ⟨hne2, hne, h1, h2⟩
def mj_prs (ad : Nat → Nat) (sa : mj_Sa) (l : mj_L) : List (Nat × Value) := (List.range l.length).filterMap (fun i => (mj_ld l i).map (fun v => (i, mj_v ad sa v)))
theorem mj_prs_mem {ad : Nat → Nat} {sa : mj_Sa} {l : mj_L} {q : Nat × Value} (h : q ∈ mj_prs ad sa l) : ∃ v, mj_ld l q.1 = some v ∧ q.2 = mj_v ad sa v := by
  obtain ⟨i, -, hi⟩ := List.mem_filterMap.mp h
  cases hv : mj_ld l i with
  | none => rw [hv] at hi; cases hi
  | some v =>
    rw [hv] at hi
    cases hi
    exact ⟨v, hv, rfl⟩
theorem mj_ld_lt {l : mj_L} {i : Nat} {v : mj_V} (h : mj_ld l i = some v) : i < l.length := by
  unfold mj_ld at h
  split at h
  · rename_i x hx
    exact (List.getElem?_eq_some_iff.mp hx).1
  · cases h
theorem mj_mem_prs {ad : Nat → Nat} {sa : mj_Sa} {l : mj_L} {i : Nat} {v : mj_V} (h : mj_ld l i = some v) : (i, mj_v ad sa v) ∈ mj_prs ad sa l := by
  refine List.mem_filterMap.mpr ⟨i, List.mem_range.mpr (mj_ld_lt h), ?_⟩
  rw [h]
  rfl
theorem mj_Lh.has {ad : Nat → Nat} {sa : mj_Sa} {ls : Array Slot} {nL : Nat} {l : mj_L} (h : mj_Lh ad sa ls nL l) : lv_has ls nL (mj_prs ad sa l) := by
  refine ⟨h.1, h.2.1, fun q hq => ?_⟩
  obtain ⟨v, h1, h2⟩ := mj_prs_mem hq
  rw [h2]
  exact (h.2.2 _ _ h1).1
theorem mj_cat {ad : Nat → Nat} {sa : mj_Sa} (v : mj_V) (h : ¬ ∃ x, v = jV x) : (mj_v ad sa v).category = 1 := by
  match v, h with
  | .inl _, _ => rfl
  | .inr (.inl x), h => exact absurd ⟨x, rfl⟩ h
  | .inr (.inr ((_, _), _)), _ => rfl
theorem mj_Lh.sto1 {ad : Nat → Nat} {sa : mj_Sa} {ls ls' : Array Slot} {nL i : Nat} {l : mj_L} {v : mj_V} (h : mj_Lh ad sa ls nL l) (hv : mj_ok sa v)
    (hh : lv_has ls' nL ((i, mj_v ad sa v) :: (mj_prs ad sa l).filter (fun q => !(q.1 == i) && !(q.1 + 1 == i && q.2.category == 2)))) : mj_Lh ad sa ls' nL (mj_sto1 l i v) := by
  refine ⟨hh.1, hh.2.1, fun j w hw => ?_⟩
  rcases mj_sto1_ld _ _ _ _ _ hw with ⟨rfl, rfl⟩ | ⟨hne, h1, h2⟩
  · exact ⟨hh.2.2 (j, mj_v ad sa v) List.mem_cons_self, hv⟩
  · refine ⟨hh.2.2 (j, mj_v ad sa w) (List.mem_cons_of_mem _ (List.mem_filter.mpr ⟨mj_mem_prs h1, ?_⟩)), (h.2.2 _ _ h1).2⟩
    by_cases hj : j + 1 = i
    · have := mj_cat (ad := ad) (sa := sa) w (fun q => h2 ⟨hj, q⟩)
      simp [hne, this]
    · simp [hne, hj]
theorem mj_Lh.sto2 {ad : Nat → Nat} {sa : mj_Sa} {ls ls' : Array Slot} {nL i : Nat} {l : mj_L} {v : mj_V} (h : mj_Lh ad sa ls nL l) (hv : mj_ok sa v)
    (hh : lv_has ls' nL ((i, mj_v ad sa v) :: (mj_prs ad sa l).filter (fun q => !(q.1 == i) && (!(q.1 == i + 1) && !(q.1 + 1 == i && q.2.category == 2))))) : mj_Lh ad sa ls' nL (mj_sto2 l i v) := by
  refine ⟨hh.1, hh.2.1, fun j w hw => ?_⟩
  rcases mj_sto2_ld _ _ _ _ _ hw with ⟨rfl, rfl⟩ | ⟨hne, hn2, h1, h2⟩
  · exact ⟨hh.2.2 (j, mj_v ad sa v) List.mem_cons_self, hv⟩
  · refine ⟨hh.2.2 (j, mj_v ad sa w) (List.mem_cons_of_mem _ (List.mem_filter.mpr ⟨mj_mem_prs h1, ?_⟩)), (h.2.2 _ _ h1).2⟩
    by_cases hj : j + 1 = i
    · have := mj_cat (ad := ad) (sa := sa) w (fun q => h2 ⟨hj, q⟩)
      simp [hne, hn2, this]
    · simp [hne, hn2, hj]
theorem mj_msk_ld : ∀ (l : mj_L) (ms : List Bool) (i : Nat) (v : mj_V), mj_ld (mj_msk l ms) i = some v → mj_ld l i = some v
  | x :: l, true :: m, 0, v, h => h
  | x :: l, true :: m, i + 1, v, h => mj_msk_ld l m i v h
  | x :: l, false :: m, 0, v, h => by cases h
  | x :: l, false :: m, i + 1, v, h => mj_msk_ld l m i v h
  | l, [], i, v, h => by
    have : mj_msk l [] = l := by cases l <;> rfl
    rw [this] at h
    exact h
  | [], b :: m, i, v, h => by
    have : mj_msk [] (b :: m) = [] := by cases b <;> rfl
    rw [this] at h
    exact h
theorem mj_Lh.msk {ad : Nat → Nat} {sa : mj_Sa} {ls : Array Slot} {nL : Nat} {l : mj_L} (h : mj_Lh ad sa ls nL l) (ms : List Bool) : mj_Lh ad sa ls nL (mj_msk l ms) :=
  ⟨h.1, h.2.1, fun i v hv => h.2.2 i v (mj_msk_ld _ _ _ _ hv)⟩
/-! one instruction -/
section MJ
variable {p : Program} {l : Launch} {e : Env} {R : Room} {s : State} {m : MethodId} {args : Array Value} {below : List Frame} {meth : Method} {c : Code} {D : va_G} {cs : mj_Cs} {A : Nat → Prop} {ad : Nat → Nat} {sa : mj_Sa} {cu su : Nat} {Q : State → Prop} {own : String} {cc : ByteArray} {nL n : Nat}
variable {pc nx a b : Nat} {im : Int} {ts : List (Int × Nat)} {loc : mj_L} {st : List mj_V} {σ : mj_W}
theorem mj_c1 {v : mj_V} {r : List mj_V} (h : ∀ x ∈ v :: r, mj_ok sa x) : mj_ok sa v ∧ ∀ x ∈ r, mj_ok sa x := ⟨h v List.mem_cons_self, fun x hx => h x (List.mem_cons_of_mem _ hx)⟩
theorem mj_cons {v : mj_V} {r : List mj_V} (hv : mj_ok sa v) (h : ∀ x ∈ r, mj_ok sa x) : ∀ x ∈ v :: r, mj_ok sa x := fun x hx => (List.mem_cons.mp hx).elim (fun q => q ▸ hv) (h x)
theorem mj_s_iconst {k : Int} (hC : mj_Cx p R s m args c D cs A ad sa cu su own cc nL n) (hd : decode cc pc = .ok (.iconst k, 1)) (hn : nx = pc + 1) (hi : im = k) (hr : mj_InR im)
    (h : mj_B p l e R s m args below meth c D cs A ad sa cu su Q nL nx loc (iV im :: st) σ) : mj_B p l e R s m args below meth c D cs A ad sa cu su Q nL pc loc st σ := by
  obtain ⟨hx, hb, -⟩ := hC
  intro H locs ls hP hS hg hL hst
  subst hn; subst hi
  exact lv_iconst hx hb hd rfl (h H locs ls hP hS hg hL (mj_cons hr hst))
theorem mj_s_bipush {k : Int} (hC : mj_Cx p R s m args c D cs A ad sa cu su own cc nL n) (hd : decode cc pc = .ok (.bipush k, 2)) (hn : nx = pc + 2) (hi : (Int8.ofInt k).toInt32 = Int32.ofInt im) (hr : mj_InR im)
    (h : mj_B p l e R s m args below meth c D cs A ad sa cu su Q nL nx loc (iV im :: st) σ) : mj_B p l e R s m args below meth c D cs A ad sa cu su Q nL pc loc st σ := by
  obtain ⟨hx, hb, -⟩ := hC
  intro H locs ls hP hS hg hL hst
  subst hn
  exact lv_bipush hx hb hd hi (h H locs ls hP hS hg hL (mj_cons hr hst))
theorem mj_s_sipush {k : Int} (hC : mj_Cx p R s m args c D cs A ad sa cu su own cc nL n) (hd : decode cc pc = .ok (.sipush k, 3)) (hn : nx = pc + 3) (hi : (Int16.ofInt k).toInt32 = Int32.ofInt im) (hr : mj_InR im)
    (h : mj_B p l e R s m args below meth c D cs A ad sa cu su Q nL nx loc (iV im :: st) σ) : mj_B p l e R s m args below meth c D cs A ad sa cu su Q nL pc loc st σ := by
  obtain ⟨hx, hb, -⟩ := hC
  intro H locs ls hP hS hg hL hst
  subst hn
  exact lv_sipush hx hb hd hi (h H locs ls hP hS hg hL (mj_cons hr hst))
theorem mj_s_ldc {k : Nat} (hC : mj_Cx p R s m args c D cs A ad sa cu su own cc nL n) (hd : decode cc pc = .ok (.ldc k, 2)) (hn : nx = pc + 2) (hi : Cond.constant own k (Int32.ofInt im) ∈ mj_tb) (hr : mj_InR im)
    (h : mj_B p l e R s m args below meth c D cs A ad sa cu su Q nL nx loc (iV im :: st) σ) : mj_B p l e R s m args below meth c D cs A ad sa cu su Q nL pc loc st σ := by
  obtain ⟨hx, hb, -, ho, ht, -⟩ := hC
  intro H locs ls hP hS hg hL hst
  subst hn
  exact lv_ldc hx hb ho (ht _ hi) hd (h H locs ls hP hS hg hL (mj_cons hr hst))
theorem mj_s_ldcw {k : Nat} (hC : mj_Cx p R s m args c D cs A ad sa cu su own cc nL n) (hd : decode cc pc = .ok (.ldc_w k, 3)) (hn : nx = pc + 3) (hi : Cond.constant own k (Int32.ofInt im) ∈ mj_tb) (hr : mj_InR im)
    (h : mj_B p l e R s m args below meth c D cs A ad sa cu su Q nL nx loc (iV im :: st) σ) : mj_B p l e R s m args below meth c D cs A ad sa cu su Q nL pc loc st σ := by
  obtain ⟨hx, hb, -, ho, ht, -⟩ := hC
  intro H locs ls hP hS hg hL hst
  subst hn
  exact lv_ldcw hx hb ho (ht _ hi) hd (h H locs ls hP hS hg hL (mj_cons hr hst))
theorem mj_s_ldc2 {k : Nat} (hC : mj_Cx p R s m args c D cs A ad sa cu su own cc nL n) (hd : decode cc pc = .ok (.ldc2_w k, 3)) (hn : nx = pc + 3) (hi : Cond.constantLong own k (Int64.ofInt im) ∈ mj_tb) (hr : mj_InL im)
    (h : mj_B p l e R s m args below meth c D cs A ad sa cu su Q nL nx loc (jV im :: st) σ) : mj_B p l e R s m args below meth c D cs A ad sa cu su Q nL pc loc st σ := by
  obtain ⟨hx, hb, -, ho, ht, -⟩ := hC
  intro H locs ls hP hS hg hL hst
  subst hn
  exact lv_ldc2 hx hb ho (ht _ hi) hd (h H locs ls hP hS hg hL (mj_cons hr hst))
theorem mj_s_lconst {k : Fin 2} (hC : mj_Cx p R s m args c D cs A ad sa cu su own cc nL n) (hd : decode cc pc = .ok (.lconst k, 1)) (hn : nx = pc + 1) (hi : Int64.ofNat (k : Nat) = Int64.ofInt im) (hr : mj_InL im)
    (h : mj_B p l e R s m args below meth c D cs A ad sa cu su Q nL nx loc (jV im :: st) σ) : mj_B p l e R s m args below meth c D cs A ad sa cu su Q nL pc loc st σ := by
  obtain ⟨hx, hb, -⟩ := hC
  intro H locs ls hP hS hg hL hst
  subst hn
  exact lv_lconst hx hb hd hi (h H locs ls hP hS hg hL (mj_cons hr hst))
theorem mj_s_ild {ins : Instr} {ln : Nat} (hC : mj_Cx p R s m args c D cs A ad sa cu su own cc nL n) (hd : decode cc pc = .ok (ins, ln)) (hi : (ins = .iload a ∧ ln = 2) ∨ (∃ k : Fin 4, ins = .iload_n k ∧ (k : Nat) = a ∧ ln = 1)) (hn : nx = pc + ln)
    (h : mj_x_ild (mj_B p l e R s m args below meth c D cs A ad sa cu su Q nL) nx a loc st σ) : mj_B p l e R s m args below meth c D cs A ad sa cu su Q nL pc loc st σ := by
  obtain ⟨hx, hb, -⟩ := hC
  unfold mj_x_ild at h
  split at h
  · rename_i x hx2
    intro H locs ls hP hS hg hL hst
    obtain ⟨h1, h2⟩ := hL.2.2 _ _ hx2
    have h3 := h H locs ls hP hS hg hL (mj_cons h2 hst)
    subst hn
    rcases hi with ⟨rfl, rfl⟩ | ⟨k, rfl, hk, rfl⟩
    · exact lv_iload hx hb hd h1 h3
    · exact lv_iload_n hx hb hd hk h1 h3
  · exact h.elim
theorem mj_s_jld {ins : Instr} {ln : Nat} (hC : mj_Cx p R s m args c D cs A ad sa cu su own cc nL n) (hd : decode cc pc = .ok (ins, ln)) (hi : (ins = .lload a ∧ ln = 2) ∨ (∃ k : Fin 4, ins = .lload_n k ∧ (k : Nat) = a ∧ ln = 1)) (hn : nx = pc + ln)
    (h : mj_x_jld (mj_B p l e R s m args below meth c D cs A ad sa cu su Q nL) nx a loc st σ) : mj_B p l e R s m args below meth c D cs A ad sa cu su Q nL pc loc st σ := by
  obtain ⟨hx, hb, -⟩ := hC
  unfold mj_x_jld at h
  split at h
  · rename_i x hx2
    intro H locs ls hP hS hg hL hst
    obtain ⟨h1, h2⟩ := hL.2.2 _ _ hx2
    have h3 := h H locs ls hP hS hg hL (mj_cons h2 hst)
    subst hn
    rcases hi with ⟨rfl, rfl⟩ | ⟨k, rfl, hk, rfl⟩
    · exact lv_lload hx hb hd h1 h3
    · exact lv_lload_n hx hb hd hk h1 h3
  · exact h.elim
theorem mj_s_rld {ins : Instr} {ln : Nat} (hC : mj_Cx p R s m args c D cs A ad sa cu su own cc nL n) (hd : decode cc pc = .ok (ins, ln)) (hi : (ins = .aload a ∧ ln = 2) ∨ (∃ k : Fin 4, ins = .aload_n k ∧ (k : Nat) = a ∧ ln = 1)) (hn : nx = pc + ln)
    (h : mj_x_rld (mj_B p l e R s m args below meth c D cs A ad sa cu su Q nL) nx a loc st σ) : mj_B p l e R s m args below meth c D cs A ad sa cu su Q nL pc loc st σ := by
  obtain ⟨hx, hb, -⟩ := hC
  unfold mj_x_rld at h
  split at h
  · rename_i q hx2
    intro H locs ls hP hS hg hL hst
    obtain ⟨h1, h2⟩ := hL.2.2 _ _ hx2
    have h3 := h H locs ls hP hS hg hL (mj_cons h2 hst)
    obtain ⟨⟨t, k9⟩, o⟩ := q
    subst hn
    rcases hi with ⟨rfl, rfl⟩ | ⟨k, rfl, hk, rfl⟩
    · exact lv_aload hx hb hd h1 h3
    · exact lv_aload_n hx hb hd hk h1 h3
  · exact h.elim
theorem mj_s_ist {ins : Instr} {ln : Nat} (hC : mj_Cx p R s m args c D cs A ad sa cu su own cc nL n) (hd : decode cc pc = .ok (ins, ln)) (hi : (ins = .istore a ∧ ln = 2) ∨ (∃ k : Fin 4, ins = .istore_n k ∧ (k : Nat) = a ∧ ln = 1)) (hn : nx = pc + ln) (ha : a < nL)
    (h : mj_x_ist (mj_B p l e R s m args below meth c D cs A ad sa cu su Q nL) nx a loc st σ) : mj_B p l e R s m args below meth c D cs A ad sa cu su Q nL pc loc st σ := by
  obtain ⟨hx, hb, -⟩ := hC
  unfold mj_x_ist at h
  split at h
  · rw [mj_stK_eq] at h
    rename_i x r
    intro H locs ls hP hS hg hL hst
    obtain ⟨h1, h2⟩ := mj_c1 hst
    subst hn
    rcases hi with ⟨rfl, rfl⟩ | ⟨k, rfl, hk, rfl⟩
    · exact lv_istore hx hb hd hL.has ha rfl (fun ls' hl' => h H locs ls' hP hS hg (hL.sto1 (v := iV x) h1 hl') h2)
    · exact lv_istore_n hx hb hd hk hL.has ha rfl (fun ls' hl' => h H locs ls' hP hS hg (hL.sto1 (v := iV x) h1 hl') h2)
  · exact h.elim
theorem mj_s_rst {ins : Instr} {ln : Nat} (hC : mj_Cx p R s m args c D cs A ad sa cu su own cc nL n) (hd : decode cc pc = .ok (ins, ln)) (hi : (ins = .astore a ∧ ln = 2) ∨ (∃ k : Fin 4, ins = .astore_n k ∧ (k : Nat) = a ∧ ln = 1)) (hn : nx = pc + ln) (ha : a < nL)
    (h : mj_x_rst (mj_B p l e R s m args below meth c D cs A ad sa cu su Q nL) nx a loc st σ) : mj_B p l e R s m args below meth c D cs A ad sa cu su Q nL pc loc st σ := by
  obtain ⟨hx, hb, -⟩ := hC
  unfold mj_x_rst at h
  split at h
  · rw [mj_stK_eq] at h
    rename_i q r
    obtain ⟨⟨t, k9⟩, o⟩ := q
    intro H locs ls hP hS hg hL hst
    obtain ⟨h1, h2⟩ := mj_c1 hst
    subst hn
    rcases hi with ⟨rfl, rfl⟩ | ⟨k, rfl, hk, rfl⟩
    · exact lv_astore hx hb hd hL.has ha rfl (fun ls' hl' => h H locs ls' hP hS hg (hL.sto1 (v := rV t k9 o) h1 hl') h2)
    · exact lv_astore_n hx hb hd hk hL.has ha rfl (fun ls' hl' => h H locs ls' hP hS hg (hL.sto1 (v := rV t k9 o) h1 hl') h2)
  · exact h.elim
theorem mj_s_jst (hC : mj_Cx p R s m args c D cs A ad sa cu su own cc nL n) (hd : decode cc pc = .ok (.lstore a, 2)) (hn : nx = pc + 2) (ha : a + 1 < nL)
    (h : mj_x_jst (mj_B p l e R s m args below meth c D cs A ad sa cu su Q nL) nx a loc st σ) : mj_B p l e R s m args below meth c D cs A ad sa cu su Q nL pc loc st σ := by
  obtain ⟨hx, hb, -⟩ := hC
  unfold mj_x_jst at h
  split at h
  · rw [mj_stK_eq, mj_stN_eq] at h
    rename_i x r
    intro H locs ls hP hS hg hL hst
    obtain ⟨h1, h2⟩ := mj_c1 hst
    subst hn
    exact lv_lstore hx hb hd hL.has ha rfl (fun ls' hl' => h H locs ls' hP hS hg (hL.sto2 (v := jV x) h1 hl') h2)
  · exact h.elim
theorem mj_s_inc {k : Int} (hC : mj_Cx p R s m args c D cs A ad sa cu su own cc nL n) (hd : decode cc pc = .ok (.iinc a k, 3)) (hn : nx = pc + 3) (ha : a < nL) (hi : im = k)
    (h : mj_x_inc (mj_B p l e R s m args below meth c D cs A ad sa cu su Q nL) nx a im loc st σ) : mj_B p l e R s m args below meth c D cs A ad sa cu su Q nL pc loc st σ := by
  obtain ⟨hx, hb, -⟩ := hC
  unfold mj_x_inc at h
  split at h
  · rename_i x hx2
    intro H locs ls hP hS hg hL hst
    obtain ⟨hr, h⟩ := h
    rw [mj_stK_eq] at h
    obtain ⟨k9, hk9⟩ := List.mem_iff_getElem?.mp (mj_mem_prs (ad := ad) (sa := sa) hx2)
    subst hn; subst hi
    exact lv_iinc (v := Int32.ofInt (x + im)) hx hb hd hL.has hk9 (by rw [Int32.ofInt_add]) ha rfl (fun ls' hl' => h H locs ls' hP hS hg (hL.sto1 (v := iV (x + im)) hr hl') hst)
  · exact h.elim
theorem mj_s_iadd (hC : mj_Cx p R s m args c D cs A ad sa cu su own cc nL n) (hd : decode cc pc = .ok (.iadd, 1)) (hn : nx = pc + 1)
    (h : mj_x_iadd (mj_B p l e R s m args below meth c D cs A ad sa cu su Q nL) nx loc st σ) : mj_B p l e R s m args below meth c D cs A ad sa cu su Q nL pc loc st σ := by
  obtain ⟨hx, hb, -⟩ := hC
  unfold mj_x_iadd at h
  split at h
  · rename_i y x r
    intro H locs ls hP hS hg hL hst
    obtain ⟨-, h1⟩ := mj_c1 hst
    obtain ⟨-, h2⟩ := mj_c1 h1
    obtain ⟨c1, h⟩ := h
    have h3 := h H locs ls hP hS hg hL (mj_cons (v := iV (x + y)) c1 h2)
    subst hn
    refine lv_iadd hx hb hd ?_
    rw [← Int32.ofInt_add]; exact h3
  · exact h.elim
theorem mj_s_isub (hC : mj_Cx p R s m args c D cs A ad sa cu su own cc nL n) (hd : decode cc pc = .ok (.isub, 1)) (hn : nx = pc + 1)
    (h : mj_x_isub (mj_B p l e R s m args below meth c D cs A ad sa cu su Q nL) nx loc st σ) : mj_B p l e R s m args below meth c D cs A ad sa cu su Q nL pc loc st σ := by
  obtain ⟨hx, hb, -⟩ := hC
  unfold mj_x_isub at h
  split at h
  · rename_i y x r
    intro H locs ls hP hS hg hL hst
    obtain ⟨-, h1⟩ := mj_c1 hst
    obtain ⟨-, h2⟩ := mj_c1 h1
    obtain ⟨c1, h⟩ := h
    have h3 := h H locs ls hP hS hg hL (mj_cons (v := iV (x - y)) c1 h2)
    subst hn
    refine lv_isub hx hb hd ?_
    rw [← Int32.ofInt_sub]; exact h3
  · exact h.elim
theorem mj_s_imul (hC : mj_Cx p R s m args c D cs A ad sa cu su own cc nL n) (hd : decode cc pc = .ok (.imul, 1)) (hn : nx = pc + 1)
    (h : mj_x_imul (mj_B p l e R s m args below meth c D cs A ad sa cu su Q nL) nx loc st σ) : mj_B p l e R s m args below meth c D cs A ad sa cu su Q nL pc loc st σ := by
  obtain ⟨hx, hb, -⟩ := hC
  unfold mj_x_imul at h
  split at h
  · rename_i y x r
    intro H locs ls hP hS hg hL hst
    obtain ⟨-, h1⟩ := mj_c1 hst
    obtain ⟨-, h2⟩ := mj_c1 h1
    obtain ⟨c1, h⟩ := h
    have h3 := h H locs ls hP hS hg hL (mj_cons (v := iV (x * y)) c1 h2)
    subst hn
    refine lv_imul hx hb hd ?_
    rw [← Int32.ofInt_mul]; exact h3
  · exact h.elim
theorem mj_s_iand (hC : mj_Cx p R s m args c D cs A ad sa cu su own cc nL n) (hd : decode cc pc = .ok (.iand, 1)) (hn : nx = pc + 1)
    (h : mj_x_bin (mj_B p l e R s m args below meth c D cs A ad sa cu su Q nL) mj_and nx loc st σ) : mj_B p l e R s m args below meth c D cs A ad sa cu su Q nL pc loc st σ := by
  obtain ⟨hx, hb, -⟩ := hC
  unfold mj_x_bin at h
  split at h
  · rename_i y x r
    intro H locs ls hP hS hg hL hst
    obtain ⟨-, h1⟩ := mj_c1 hst
    obtain ⟨-, h2⟩ := mj_c1 h1
    have h3 := h H locs ls hP hS hg hL (mj_cons (v := iV (mj_and x y)) (mj_rI _) h2)
    subst hn
    refine lv_iand hx hb hd ?_
    have e9 : Int32.ofInt (mj_and x y) = _ := Int32.ofInt_toInt _
    have h3 : W p l e R s m args below meth c H locs cu su Q (F0 m (pc + 1) ls (.int (Int32.ofInt (mj_and x y)) :: r.map (mj_v ad sa))) := h3
    rw [e9] at h3
    exact h3
  · exact h.elim
theorem mj_s_ior (hC : mj_Cx p R s m args c D cs A ad sa cu su own cc nL n) (hd : decode cc pc = .ok (.ior, 1)) (hn : nx = pc + 1)
    (h : mj_x_bin (mj_B p l e R s m args below meth c D cs A ad sa cu su Q nL) mj_or nx loc st σ) : mj_B p l e R s m args below meth c D cs A ad sa cu su Q nL pc loc st σ := by
  obtain ⟨hx, hb, -⟩ := hC
  unfold mj_x_bin at h
  split at h
  · rename_i y x r
    intro H locs ls hP hS hg hL hst
    obtain ⟨-, h1⟩ := mj_c1 hst
    obtain ⟨-, h2⟩ := mj_c1 h1
    have h3 := h H locs ls hP hS hg hL (mj_cons (v := iV (mj_or x y)) (mj_rI _) h2)
    subst hn
    refine lv_ior hx hb hd ?_
    have e9 : Int32.ofInt (mj_or x y) = _ := Int32.ofInt_toInt _
    have h3 : W p l e R s m args below meth c H locs cu su Q (F0 m (pc + 1) ls (.int (Int32.ofInt (mj_or x y)) :: r.map (mj_v ad sa))) := h3
    rw [e9] at h3
    exact h3
  · exact h.elim
theorem mj_s_ixor (hC : mj_Cx p R s m args c D cs A ad sa cu su own cc nL n) (hd : decode cc pc = .ok (.ixor, 1)) (hn : nx = pc + 1)
    (h : mj_x_bin (mj_B p l e R s m args below meth c D cs A ad sa cu su Q nL) mj_xor nx loc st σ) : mj_B p l e R s m args below meth c D cs A ad sa cu su Q nL pc loc st σ := by
  obtain ⟨hx, hb, -⟩ := hC
  unfold mj_x_bin at h
  split at h
  · rename_i y x r
    intro H locs ls hP hS hg hL hst
    obtain ⟨-, h1⟩ := mj_c1 hst
    obtain ⟨-, h2⟩ := mj_c1 h1
    have h3 := h H locs ls hP hS hg hL (mj_cons (v := iV (mj_xor x y)) (mj_rI _) h2)
    subst hn
    refine lv_ixor hx hb hd ?_
    have e9 : Int32.ofInt (mj_xor x y) = _ := Int32.ofInt_toInt _
    have h3 : W p l e R s m args below meth c H locs cu su Q (F0 m (pc + 1) ls (.int (Int32.ofInt (mj_xor x y)) :: r.map (mj_v ad sa))) := h3
    rw [e9] at h3
    exact h3
  · exact h.elim
theorem mj_s_ishl (hC : mj_Cx p R s m args c D cs A ad sa cu su own cc nL n) (hd : decode cc pc = .ok (.ishl, 1)) (hn : nx = pc + 1)
    (h : mj_x_bin (mj_B p l e R s m args below meth c D cs A ad sa cu su Q nL) mj_shl nx loc st σ) : mj_B p l e R s m args below meth c D cs A ad sa cu su Q nL pc loc st σ := by
  obtain ⟨hx, hb, -⟩ := hC
  unfold mj_x_bin at h
  split at h
  · rename_i y x r
    intro H locs ls hP hS hg hL hst
    obtain ⟨-, h1⟩ := mj_c1 hst
    obtain ⟨-, h2⟩ := mj_c1 h1
    have h3 := h H locs ls hP hS hg hL (mj_cons (v := iV (mj_shl x y)) (mj_rI _) h2)
    subst hn
    refine lv_ishl hx hb hd ?_
    have e9 : Int32.ofInt (mj_shl x y) = _ := Int32.ofInt_toInt _
    have h3 : W p l e R s m args below meth c H locs cu su Q (F0 m (pc + 1) ls (.int (Int32.ofInt (mj_shl x y)) :: r.map (mj_v ad sa))) := h3
    rw [e9] at h3
    exact h3
  · exact h.elim
theorem mj_s_ishr (hC : mj_Cx p R s m args c D cs A ad sa cu su own cc nL n) (hd : decode cc pc = .ok (.ishr, 1)) (hn : nx = pc + 1)
    (h : mj_x_bin (mj_B p l e R s m args below meth c D cs A ad sa cu su Q nL) mj_shr nx loc st σ) : mj_B p l e R s m args below meth c D cs A ad sa cu su Q nL pc loc st σ := by
  obtain ⟨hx, hb, -⟩ := hC
  unfold mj_x_bin at h
  split at h
  · rename_i y x r
    intro H locs ls hP hS hg hL hst
    obtain ⟨-, h1⟩ := mj_c1 hst
    obtain ⟨-, h2⟩ := mj_c1 h1
    have h3 := h H locs ls hP hS hg hL (mj_cons (v := iV (mj_shr x y)) (mj_rI _) h2)
    subst hn
    refine lv_ishr hx hb hd ?_
    have e9 : Int32.ofInt (mj_shr x y) = _ := Int32.ofInt_toInt _
    have h3 : W p l e R s m args below meth c H locs cu su Q (F0 m (pc + 1) ls (.int (Int32.ofInt (mj_shr x y)) :: r.map (mj_v ad sa))) := h3
    rw [e9] at h3
    exact h3
  · exact h.elim
theorem mj_s_iushr (hC : mj_Cx p R s m args c D cs A ad sa cu su own cc nL n) (hd : decode cc pc = .ok (.iushr, 1)) (hn : nx = pc + 1)
    (h : mj_x_bin (mj_B p l e R s m args below meth c D cs A ad sa cu su Q nL) mj_ush nx loc st σ) : mj_B p l e R s m args below meth c D cs A ad sa cu su Q nL pc loc st σ := by
  obtain ⟨hx, hb, -⟩ := hC
  unfold mj_x_bin at h
  split at h
  · rename_i y x r
    intro H locs ls hP hS hg hL hst
    obtain ⟨-, h1⟩ := mj_c1 hst
    obtain ⟨-, h2⟩ := mj_c1 h1
    have h3 := h H locs ls hP hS hg hL (mj_cons (v := iV (mj_ush x y)) (mj_rI _) h2)
    subst hn
    exact lv_iushr hx hb hd (by unfold mj_ush; rw [Int32.ofInt_toInt]) h3
  · exact h.elim
theorem mj_s_idiv (hC : mj_Cx p R s m args c D cs A ad sa cu su own cc nL n) (hd : decode cc pc = .ok (.idiv, 1)) (hn : nx = pc + 1)
    (h : mj_x_idiv (mj_B p l e R s m args below meth c D cs A ad sa cu su Q nL) nx loc st σ) : mj_B p l e R s m args below meth c D cs A ad sa cu su Q nL pc loc st σ := by
  obtain ⟨hx, hb, -⟩ := hC
  unfold mj_x_idiv at h
  split at h
  · rename_i y x r
    intro H locs ls hP hS hg hL hst
    obtain ⟨hy, h1⟩ := mj_c1 hst
    obtain ⟨hxx, h2⟩ := mj_c1 h1
    obtain ⟨⟨c1, c2⟩, h⟩ := h
    obtain ⟨e1, e2⟩ := mj_qI hxx hy c1 c2
    have h3 := h H locs ls hP hS hg hL (mj_cons (v := iV (x / y)) e2 h2)
    subst hn
    refine lv_idiv hx hb hd (fun q => ?_) ?_
    · rw [← mj_z, mj_eqI hy (by omega)] at q; omega
    · rw [e1]; exact h3
  · exact h.elim
theorem mj_s_irem (hC : mj_Cx p R s m args c D cs A ad sa cu su own cc nL n) (hd : decode cc pc = .ok (.irem, 1)) (hn : nx = pc + 1)
    (h : mj_x_irem (mj_B p l e R s m args below meth c D cs A ad sa cu su Q nL) nx loc st σ) : mj_B p l e R s m args below meth c D cs A ad sa cu su Q nL pc loc st σ := by
  obtain ⟨hx, hb, -⟩ := hC
  unfold mj_x_irem at h
  split at h
  · rename_i y x r
    intro H locs ls hP hS hg hL hst
    obtain ⟨hy, h1⟩ := mj_c1 hst
    obtain ⟨hxx, h2⟩ := mj_c1 h1
    obtain ⟨⟨c1, c2⟩, h⟩ := h
    obtain ⟨e1, e2⟩ := mj_mI hxx hy c1 c2
    have h3 := h H locs ls hP hS hg hL (mj_cons (v := iV (x % y)) e2 h2)
    subst hn
    refine lv_irem hx hb hd (fun q => ?_) ?_
    · rw [← mj_z, mj_eqI hy (by omega)] at q; omega
    · rw [e1]; exact h3
  · exact h.elim
theorem mj_s_ineg (hC : mj_Cx p R s m args c D cs A ad sa cu su own cc nL n) (hd : decode cc pc = .ok (.ineg, 1)) (hn : nx = pc + 1)
    (h : mj_x_neg (mj_B p l e R s m args below meth c D cs A ad sa cu su Q nL) nx loc st σ) : mj_B p l e R s m args below meth c D cs A ad sa cu su Q nL pc loc st σ := by
  obtain ⟨hx, hb, -⟩ := hC
  unfold mj_x_neg at h
  split at h
  · rename_i x r
    intro H locs ls hP hS hg hL hst
    obtain ⟨hxx, h2⟩ := mj_c1 hst
    obtain ⟨c1, h⟩ := h
    have h3 := h H locs ls hP hS hg hL (mj_cons (v := iV (-x)) c1 h2)
    subst hn
    refine lv_ineg hx hb hd ?_
    first
      | (rw [← Int32.ofInt_neg]; exact h3)
      | (rw [← mj_z, ← Int32.ofInt_sub, show (0 : Int) - x = -x by omega]; exact h3)
  · exact h.elim
theorem mj_s_ladd (hC : mj_Cx p R s m args c D cs A ad sa cu su own cc nL n) (hd : decode cc pc = .ok (.ladd, 1)) (hn : nx = pc + 1)
    (h : mj_x_ladd (mj_B p l e R s m args below meth c D cs A ad sa cu su Q nL) nx loc st σ) : mj_B p l e R s m args below meth c D cs A ad sa cu su Q nL pc loc st σ := by
  obtain ⟨hx, hb, -⟩ := hC
  unfold mj_x_ladd at h
  split at h
  · rename_i y x r
    intro H locs ls hP hS hg hL hst
    obtain ⟨hy, h1⟩ := mj_c1 hst
    obtain ⟨hxx, h2⟩ := mj_c1 h1
    obtain ⟨c1, h⟩ := h
    have h3 := h H locs ls hP hS hg hL (mj_cons (v := jV (x + y)) c1 h2)
    subst hn
    refine lv_ladd hx hb hd ?_
    rw [← Int64.ofInt_add]; exact h3
  · exact h.elim
theorem mj_s_lmul (hC : mj_Cx p R s m args c D cs A ad sa cu su own cc nL n) (hd : decode cc pc = .ok (.lmul, 1)) (hn : nx = pc + 1)
    (h : mj_x_lmul (mj_B p l e R s m args below meth c D cs A ad sa cu su Q nL) nx loc st σ) : mj_B p l e R s m args below meth c D cs A ad sa cu su Q nL pc loc st σ := by
  obtain ⟨hx, hb, -⟩ := hC
  unfold mj_x_lmul at h
  split at h
  · rename_i y x r
    intro H locs ls hP hS hg hL hst
    obtain ⟨hy, h1⟩ := mj_c1 hst
    obtain ⟨hxx, h2⟩ := mj_c1 h1
    obtain ⟨c1, h⟩ := h
    have h3 := h H locs ls hP hS hg hL (mj_cons (v := jV (x * y)) c1 h2)
    subst hn
    refine lv_lmul hx hb hd ?_
    rw [← Int64.ofInt_mul]; exact h3
  · exact h.elim
theorem mj_zL : Int64.ofInt 0 = 0 := by decide
theorem mj_s_ldiv (hC : mj_Cx p R s m args c D cs A ad sa cu su own cc nL n) (hd : decode cc pc = .ok (.ldiv, 1)) (hn : nx = pc + 1)
    (h : mj_x_ldiv (mj_B p l e R s m args below meth c D cs A ad sa cu su Q nL) nx loc st σ) : mj_B p l e R s m args below meth c D cs A ad sa cu su Q nL pc loc st σ := by
  obtain ⟨hx, hb, -⟩ := hC
  unfold mj_x_ldiv at h
  split at h
  · rename_i y x r
    intro H locs ls hP hS hg hL hst
    obtain ⟨hy, h1⟩ := mj_c1 hst
    obtain ⟨hxx, h2⟩ := mj_c1 h1
    obtain ⟨⟨c1, c2⟩, h⟩ := h
    obtain ⟨e1, e2⟩ := mj_qL hxx hy c1 c2
    have h3 := h H locs ls hP hS hg hL (mj_cons (v := jV (x / y)) e2 h2)
    subst hn
    refine lv_ldiv hx hb hd (fun q => ?_) ?_
    · rw [← mj_zL, mj_eqL hy (by omega)] at q; omega
    · rw [e1]; exact h3
  · exact h.elim
theorem mj_s_lrem (hC : mj_Cx p R s m args c D cs A ad sa cu su own cc nL n) (hd : decode cc pc = .ok (.lrem, 1)) (hn : nx = pc + 1)
    (h : mj_x_lrem (mj_B p l e R s m args below meth c D cs A ad sa cu su Q nL) nx loc st σ) : mj_B p l e R s m args below meth c D cs A ad sa cu su Q nL pc loc st σ := by
  obtain ⟨hx, hb, -⟩ := hC
  unfold mj_x_lrem at h
  split at h
  · rename_i y x r
    intro H locs ls hP hS hg hL hst
    obtain ⟨hy, h1⟩ := mj_c1 hst
    obtain ⟨hxx, h2⟩ := mj_c1 h1
    obtain ⟨⟨c1, c2⟩, h⟩ := h
    obtain ⟨e1, e2⟩ := mj_mL hxx hy c1 c2
    have h3 := h H locs ls hP hS hg hL (mj_cons (v := jV (x % y)) e2 h2)
    subst hn
    refine lv_lrem hx hb hd (fun q => ?_) ?_
    · rw [← mj_zL, mj_eqL hy (by omega)] at q; omega
    · rw [e1]; exact h3
  · exact h.elim
theorem mj_s_i2l (hC : mj_Cx p R s m args c D cs A ad sa cu su own cc nL n) (hd : decode cc pc = .ok (.i2l, 1)) (hn : nx = pc + 1)
    (h : mj_x_i2l (mj_B p l e R s m args below meth c D cs A ad sa cu su Q nL) nx loc st σ) : mj_B p l e R s m args below meth c D cs A ad sa cu su Q nL pc loc st σ := by
  obtain ⟨hx, hb, -⟩ := hC
  unfold mj_x_i2l at h
  split at h
  · rename_i x r
    intro H locs ls hP hS hg hL hst
    obtain ⟨hxx, h2⟩ := mj_c1 hst
    have hxx : mj_InR x := hxx
    have h3 := h H locs ls hP hS hg hL (mj_cons (v := jV x) (show mj_InL x by omega) h2)
    subst hn
    exact lv_i2l hx hb hd (mj_ofL (by rw [Int32.toInt_toInt64, mj_tI hxx])) h3
  · exact h.elim
theorem mj_s_l2i (hC : mj_Cx p R s m args c D cs A ad sa cu su own cc nL n) (hd : decode cc pc = .ok (.l2i, 1)) (hn : nx = pc + 1)
    (h : mj_x_l2i (mj_B p l e R s m args below meth c D cs A ad sa cu su Q nL) nx loc st σ) : mj_B p l e R s m args below meth c D cs A ad sa cu su Q nL pc loc st σ := by
  obtain ⟨hx, hb, -⟩ := hC
  unfold mj_x_l2i at h
  split at h
  · rename_i x r
    intro H locs ls hP hS hg hL hst
    obtain ⟨hxx, h2⟩ := mj_c1 hst
    obtain ⟨c1, h⟩ := h
    have h3 := h H locs ls hP hS hg hL (mj_cons (v := iV x) c1 h2)
    subst hn
    exact lv_l2i hx hb hd Int64.toInt32_ofInt h3
  · exact h.elim
theorem mj_s_dup (hC : mj_Cx p R s m args c D cs A ad sa cu su own cc nL n) (hd : decode cc pc = .ok (.dup, 1)) (hn : nx = pc + 1)
    (h : mj_x_dup (mj_B p l e R s m args below meth c D cs A ad sa cu su Q nL) nx loc st σ) : mj_B p l e R s m args below meth c D cs A ad sa cu su Q nL pc loc st σ := by
  obtain ⟨hx, hb, -⟩ := hC
  unfold mj_x_dup at h
  split at h
  · intro H locs ls hP hS hg hL hst
    obtain ⟨h1, h2⟩ := mj_c1 hst
    have h3 := h H locs ls hP hS hg hL (mj_cons h1 (mj_cons h1 h2))
    subst hn
    exact lv_dup hx hb hd rfl h3
  · rename_i q r
    obtain ⟨⟨t, k9⟩, o⟩ := q
    intro H locs ls hP hS hg hL hst
    obtain ⟨h1, h2⟩ := mj_c1 hst
    have h3 := h H locs ls hP hS hg hL (mj_cons h1 (mj_cons h1 h2))
    subst hn
    exact lv_dup hx hb hd rfl h3
  · exact h.elim
theorem mj_s_dup2 (hC : mj_Cx p R s m args c D cs A ad sa cu su own cc nL n) (hd : decode cc pc = .ok (.dup2, 1)) (hn : nx = pc + 1)
    (h : mj_x_dup2 (mj_B p l e R s m args below meth c D cs A ad sa cu su Q nL) nx loc st σ) : mj_B p l e R s m args below meth c D cs A ad sa cu su Q nL pc loc st σ := by
  obtain ⟨hx, hb, -⟩ := hC
  unfold mj_x_dup2 at h
  split at h
  · rename_i x q r
    obtain ⟨⟨t, k9⟩, o⟩ := q
    intro H locs ls hP hS hg hL hst
    obtain ⟨h1, h2⟩ := mj_c1 hst
    obtain ⟨h4, h5⟩ := mj_c1 h2
    have h3 := h H locs ls hP hS hg hL (mj_cons h1 (mj_cons h4 (mj_cons h1 (mj_cons h4 h5))))
    subst hn
    exact lv_dup2_11 hx hb hd rfl rfl h3
  · exact h.elim
theorem mj_s_goto {off : Int} (hC : mj_Cx p R s m args c D cs A ad sa cu su own cc nL n) (hd : decode cc pc = .ok (.goto off, 3)) (ht : (pc : Int) + off = (nx : Int))
    (h : mj_B p l e R s m args below meth c D cs A ad sa cu su Q nL nx loc st σ) : mj_B p l e R s m args below meth c D cs A ad sa cu su Q nL pc loc st σ := by
  obtain ⟨hx, hb, -⟩ := hC
  intro H locs ls hP hS hg hL hst
  exact lv_goto hx hb hd ht (h H locs ls hP hS hg hL hst)
theorem mj_ifp {c a b : Prop} [Decidable c] (h : if c then a else b) : (c → a) ∧ (¬ c → b) := by
  by_cases hc : c
  · rw [if_pos hc] at h; exact ⟨fun _ => h, fun q => absurd hc q⟩
  · rw [if_neg hc] at h; exact ⟨fun q => absurd q hc, fun _ => h⟩
theorem mj_s_icmp {co : Jvm.ClassFile.Cond} {off : Int} (hC : mj_Cx p R s m args c D cs A ad sa cu su own cc nL n) (hd : decode cc pc = .ok (.if_icmp co off, 3)) (hn : nx = pc + 3) (ht : (pc : Int) + off = (a : Int))
    (h : mj_x_icmp (mj_B p l e R s m args below meth c D cs A ad sa cu su Q nL) co nx a loc st σ) : mj_B p l e R s m args below meth c D cs A ad sa cu su Q nL pc loc st σ := by
  obtain ⟨hx, hb, -⟩ := hC
  unfold mj_x_icmp at h
  split at h
  · rename_i y x r
    intro H locs ls hP hS hg hL hst
    obtain ⟨hy, h1⟩ := mj_c1 hst
    obtain ⟨hxx, h2⟩ := mj_c1 h1
    subst hn
    unfold mj_br at h
    cases co with
    | eq =>
      obtain ⟨f1, f2⟩ := mj_ifp h
      exact lv_icmp_eq hx hb hd ht (fun q => f1 ((mj_eqI hxx hy).mp q) H locs ls hP hS hg hL h2) (fun q => f2 (fun w => q ((mj_eqI hxx hy).mpr w)) H locs ls hP hS hg hL h2)
    | ne =>
      obtain ⟨f1, f2⟩ := mj_ifp h
      exact lv_icmp_ne hx hb hd ht (fun q => f2 (fun w => q ((mj_eqI hxx hy).mpr w)) H locs ls hP hS hg hL h2) (fun q => f1 ((mj_eqI hxx hy).mp q) H locs ls hP hS hg hL h2)
    | lt =>
      obtain ⟨f1, f2⟩ := mj_ifp h
      exact lv_icmp_lt hx hb hd ht (fun q => f1 ((mj_ltI hxx hy).mp q) H locs ls hP hS hg hL h2) (fun q => f2 (fun w => q ((mj_ltI hxx hy).mpr w)) H locs ls hP hS hg hL h2)
    | ge =>
      obtain ⟨f1, f2⟩ := mj_ifp h
      exact lv_icmp_ge hx hb hd ht (fun q => f2 (fun w => by have := (mj_leI hy hxx).mp q; omega) H locs ls hP hS hg hL h2) (fun q => f1 (Int.not_le.mp (fun w => q ((mj_leI hy hxx).mpr w))) H locs ls hP hS hg hL h2)
    | gt =>
      obtain ⟨f1, f2⟩ := mj_ifp h
      exact lv_icmp_gt hx hb hd ht (fun q => f1 ((mj_ltI hy hxx).mp q) H locs ls hP hS hg hL h2) (fun q => f2 (fun w => q ((mj_ltI hy hxx).mpr w)) H locs ls hP hS hg hL h2)
    | le =>
      obtain ⟨f1, f2⟩ := mj_ifp h
      exact lv_icmp_le hx hb hd ht (fun q => f2 (fun w => by have := (mj_leI hxx hy).mp q; omega) H locs ls hP hS hg hL h2) (fun q => f1 (Int.not_le.mp (fun w => q ((mj_leI hxx hy).mpr w))) H locs ls hP hS hg hL h2)
  · exact h.elim
end MJ
