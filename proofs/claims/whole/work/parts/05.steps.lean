/-! one instruction, the second half -/
section MJ2
variable {p : Program} {l : Launch} {e : Env} {R : Room} {s : State} {m : MethodId} {args : Array Value} {below : List Frame} {meth : Method} {c : Code} {D : va_G} {cs : mj_Cs} {A : Nat → Prop} {ad : Nat → Nat} {sa : mj_Sa} {cu su : Nat} {Q : State → Prop} {own : String} {cc : ByteArray} {nL n : Nat}
variable {pc nx a b : Nat} {im : Int} {ts : List (Int × Nat)} {loc : mj_L} {st : List mj_V} {σ : mj_W}
theorem mj_s_if {co : Jvm.ClassFile.Cond} {off : Int} (hC : mj_Cx p R s m args c D cs A ad sa cu su own cc nL n) (hd : decode cc pc = .ok (.ifCond co off, 3)) (hn : nx = pc + 3) (ht : (pc : Int) + off = (a : Int))
    (h : mj_x_if (mj_B p l e R s m args below meth c D cs A ad sa cu su Q nL) co nx a loc st σ) : mj_B p l e R s m args below meth c D cs A ad sa cu su Q nL pc loc st σ := by
  obtain ⟨hx, hb, -⟩ := hC
  unfold mj_x_if at h
  split at h
  · rename_i x r
    intro H locs ls hP hS hg hL hst
    obtain ⟨hxx, h2⟩ := mj_c1 hst
    have hy : mj_InR 0 := by omega
    subst hn
    unfold mj_br at h
    have e0 := mj_eqI hxx hy
    have e1 := mj_ltI hxx hy
    have e2 := mj_leI hxx hy
    have e3 := mj_ltI hy hxx
    have e4 := mj_leI hy hxx
    rw [mj_z] at e0 e1 e2 e3 e4
    cases co with
    | eq =>
      obtain ⟨f1, f2⟩ := mj_ifp h
      exact lv_if_eq hx hb hd ht (fun q => f1 (e0.mp q) H locs ls hP hS hg hL h2) (fun q => f2 (fun w => q (e0.mpr w)) H locs ls hP hS hg hL h2)
    | ne =>
      obtain ⟨f1, f2⟩ := mj_ifp h
      exact lv_if_ne hx hb hd ht (fun q => f2 (fun w => q (e0.mpr w)) H locs ls hP hS hg hL h2) (fun q => f1 (e0.mp q) H locs ls hP hS hg hL h2)
    | lt =>
      obtain ⟨f1, f2⟩ := mj_ifp h
      exact lv_if_lt hx hb hd ht (fun q => f1 (e1.mp q) H locs ls hP hS hg hL h2) (fun q => f2 (fun w => q (e1.mpr w)) H locs ls hP hS hg hL h2)
    | ge =>
      obtain ⟨f1, f2⟩ := mj_ifp h
      exact lv_if_ge hx hb hd ht (fun q => f2 (fun w => by have := e4.mp q; omega) H locs ls hP hS hg hL h2) (fun q => f1 (Int.not_le.mp (fun w => q (e4.mpr w))) H locs ls hP hS hg hL h2)
    | gt =>
      obtain ⟨f1, f2⟩ := mj_ifp h
      exact lv_if_gt hx hb hd ht (fun q => f1 (e3.mp q) H locs ls hP hS hg hL h2) (fun q => f2 (fun w => q (e3.mpr w)) H locs ls hP hS hg hL h2)
    | le =>
      obtain ⟨f1, f2⟩ := mj_ifp h
      exact lv_if_le hx hb hd ht (fun q => f2 (fun w => by have := e2.mp q; omega) H locs ls hP hS hg hL h2) (fun q => f1 (Int.not_le.mp (fun w => q (e2.mpr w))) H locs ls hP hS hg hL h2)
  · exact h.elim
theorem mj_s_lcmp {off : Int} (hC : mj_Cx p R s m args c D cs A ad sa cu su own cc nL n) (hd0 : decode cc pc = .ok (.lcmp, 1)) (hd : decode cc (pc + 1) = .ok (.ifCond (mj_cc b) off, 3)) (hn : nx = pc + 1 + 3) (ht : ((pc + 1 : Nat) : Int) + off = (a : Int))
    (h : mj_x_lcmp (mj_B p l e R s m args below meth c D cs A ad sa cu su Q nL) b nx a loc st σ) : mj_B p l e R s m args below meth c D cs A ad sa cu su Q nL pc loc st σ := by
  have hC0 := hC
  obtain ⟨hx, hb, -⟩ := hC
  unfold mj_x_lcmp at h
  split at h
  · rename_i y x r
    intro H locs ls hP hS hg hL hst
    obtain ⟨hy, h1⟩ := mj_c1 hst
    obtain ⟨hxx, h2⟩ := mj_c1 h1
    have el := mj_ltL hxx hy
    have el2 := mj_ltL hy hxx
    have ee := mj_eqL hxx hy
    refine W.lcmp hx hb hd0 ?_
    have key : ∀ w : Int, mj_InR w → lg_cmp (Int64.ofInt x) (Int64.ofInt y) = Int32.ofInt w → (mj_br (mj_cc b) w 0 (mj_B p l e R s m args below meth c D cs A ad sa cu su Q nL a loc r σ) (mj_B p l e R s m args below meth c D cs A ad sa cu su Q nL nx loc r σ)) → W p l e R s m args below meth c H locs cu su Q (F0 m (pc + 1) ls (.int (lg_cmp (Int64.ofInt x) (Int64.ofInt y)) :: r.map (mj_v ad sa))) := by
      intro w hw ew hbr
      rw [ew]
      exact mj_s_if (st := iV w :: r) hC0 hd hn ht hbr H locs ls hP hS hg hL (mj_cons hw h2)
    unfold lg_cmp at key ⊢
    by_cases g1 : y < x
    · refine key 1 (by omega) (by rw [if_pos (el2.mpr g1)]; decide) ?_
      unfold mj_br at h ⊢
      cases hcb : mj_cc b <;> rw [hcb] at h <;> simp only [] at h ⊢ <;> (repeat (first | rw [if_pos (by omega)] at h | rw [if_neg (by omega)] at h)) <;> (repeat (first | rw [if_pos (by omega)] | rw [if_neg (by omega)])) <;> exact h
    · have g1' : ¬ Int64.ofInt x > Int64.ofInt y := fun q => g1 (el2.mp q)
      by_cases g2 : x = y
      · refine key 0 (by omega) (by rw [if_neg g1', if_pos (ee.mpr g2)]; decide) ?_
        unfold mj_br at h ⊢
        cases hcb : mj_cc b <;> rw [hcb] at h <;> simp only [] at h ⊢ <;> (repeat (first | rw [if_pos (by omega)] at h | rw [if_neg (by omega)] at h)) <;> (repeat (first | rw [if_pos (by omega)] | rw [if_neg (by omega)])) <;> exact h
      · refine key (-1) (by omega) (by rw [if_neg g1', if_neg (fun q => g2 (ee.mp q))]; decide) ?_
        unfold mj_br at h ⊢
        cases hcb : mj_cc b <;> rw [hcb] at h <;> simp only [] at h ⊢ <;> (repeat (first | rw [if_pos (by omega)] at h | rw [if_neg (by omega)] at h)) <;> (repeat (first | rw [if_pos (by omega)] | rw [if_neg (by omega)])) <;> exact h
  · exact h.elim
theorem mj_sw_or {f : Nat → Prop} {x : Int} {d : Nat} : ∀ {ts : List (Int × Nat)}, mj_sw f x d ts → (∃ q ∈ ts, x = q.1 ∧ f q.2) ∨ ((∀ q ∈ ts, x ≠ q.1) ∧ f d)
  | [], h => Or.inr ⟨fun _ q => absurd q List.not_mem_nil, h⟩
  | q :: r, h => by
    obtain ⟨f1, f2⟩ := mj_ifp (show if x = q.1 then f q.2 else mj_sw f x d r from h)
    by_cases hc : x = q.1
    · exact Or.inl ⟨q, List.mem_cons_self, hc, f1 hc⟩
    · rcases mj_sw_or (f2 hc) with ⟨q', h1, h2⟩ | ⟨h1, h2⟩
      · exact Or.inl ⟨q', List.mem_cons_of_mem _ h1, h2⟩
      · refine Or.inr ⟨fun q' hq' => ?_, h2⟩
        rcases List.mem_cons.mp hq' with e | e
        · rw [e]; exact hc
        · exact h1 q' e
theorem mj_s_table {dflt lo hi : Int} {offs : Array Int} {ln : Nat} (hC : mj_Cx p R s m args c D cs A ad sa cu su own cc nL n) (hd : decode cc pc = .ok (.tableswitch dflt lo hi offs, ln)) (ht : (pc : Int) + dflt = (a : Int))
    (h1 : ∀ q ∈ ts, lo ≤ q.1 ∧ q.1 ≤ hi ∧ offs[(q.1 - lo).toNat]? = some ((q.2 : Int) - (pc : Int))) (h2 : ts.map (fun q => q.1) = (List.range (hi - lo + 1).toNat).map (fun i : Nat => lo + (i : Int)))
    (h : mj_x_sw (mj_B p l e R s m args below meth c D cs A ad sa cu su Q nL) a ts loc st σ) : mj_B p l e R s m args below meth c D cs A ad sa cu su Q nL pc loc st σ := by
  obtain ⟨hx, hb, -⟩ := hC
  unfold mj_x_sw at h
  split at h
  · rename_i x r
    intro H locs ls hP hS hg hL hst
    obtain ⟨hxx, h3⟩ := mj_c1 hst
    have et := mj_tI hxx
    rcases mj_sw_or h with ⟨q, hq, e1, hk⟩ | ⟨hno, hk⟩
    · obtain ⟨g1, g2, g3⟩ := h1 q hq
      refine lv_tableIn (tgt := q.2) (off := (q.2 : Int) - (pc : Int)) hx hb hd (by rw [et]; omega) (by rw [et]; omega) (by rw [et, e1]; exact g3) (by omega) (hk H locs ls hP hS hg hL h3)
    · refine lv_tableOut (tgt := a) hx hb hd ?_ ht (hk H locs ls hP hS hg hL h3)
      rw [et]
      by_cases g1 : x < lo
      · exact Or.inl g1
      · by_cases g2 : hi < x
        · exact Or.inr g2
        · exfalso
          have hm : x ∈ ts.map (fun q => q.1) := by
            rw [h2]
            exact List.mem_map.mpr ⟨(x - lo).toNat, List.mem_range.mpr (by omega), by omega⟩
          obtain ⟨q, hq, e1⟩ := List.mem_map.mp hm
          exact hno q hq e1.symm
  · exact h.elim
theorem mj_off_or {x dflt : Int} : ∀ (ps : List (Int × Int)), (∃ q ∈ ps, x = q.1 ∧ Op.lookupswitch.offset ps dflt x = q.2) ∨ ((∀ q ∈ ps, x ≠ q.1) ∧ Op.lookupswitch.offset ps dflt x = dflt)
  | [] => Or.inr ⟨fun _ q => absurd q List.not_mem_nil, rfl⟩
  | (k, o) :: r => by
    rw [Op.lookupswitch.offset_cons]
    by_cases hc : k = x
    · rw [if_pos hc]
      exact Or.inl ⟨(k, o), List.mem_cons_self, hc.symm, rfl⟩
    · rw [if_neg hc]
      rcases mj_off_or (x := x) (dflt := dflt) r with ⟨q, h1, h2⟩ | ⟨h1, h2⟩
      · exact Or.inl ⟨q, List.mem_cons_of_mem _ h1, h2⟩
      · refine Or.inr ⟨fun q' hq' => ?_, h2⟩
        rcases List.mem_cons.mp hq' with e | e
        · rw [e]; exact fun w => hc w.symm
        · exact h1 q' e
theorem mj_s_look {dflt : Int} {ps : Array (Int × Int)} {ln : Nat} (hC : mj_Cx p R s m args c D cs A ad sa cu su own cc nL n) (hd : decode cc pc = .ok (.lookupswitch dflt ps, ln)) (hp : (ps.toList.zip (ps.toList.drop 1)).all (fun (a, next) => a.1 < next.1) = true) (ht : (pc : Int) + dflt = (a : Int))
    (h1 : ts.map (fun q => (q.1, (q.2 : Int) - (pc : Int))) = ps.toList) (hnd : ∀ q ∈ ts, ∀ q' ∈ ts, q.1 = q'.1 → q = q')
    (h : mj_x_sw (mj_B p l e R s m args below meth c D cs A ad sa cu su Q nL) a ts loc st σ) : mj_B p l e R s m args below meth c D cs A ad sa cu su Q nL pc loc st σ := by
  obtain ⟨hx, hb, -⟩ := hC
  unfold mj_x_sw at h
  split at h
  · rename_i x r
    intro H locs ls hP hS hg hL hst
    obtain ⟨hxx, h3⟩ := mj_c1 hst
    have et := mj_tI hxx
    rcases mj_sw_or h with ⟨q, hq, e1, hk⟩ | ⟨hno, hk⟩
    · refine lv_lookup (tgt := q.2) (off := (q.2 : Int) - (pc : Int)) hx hb hd hp ?_ (by omega) (hk H locs ls hP hS hg hL h3)
      rw [et]
      rcases mj_off_or (x := x) (dflt := dflt) ps.toList with ⟨w, h5, h6, h7⟩ | ⟨h5, -⟩
      · rw [h7]
        rw [← h1] at h5
        obtain ⟨q', hq', rfl⟩ := List.mem_map.mp h5
        have := hnd q hq q' hq' (e1.symm.trans h6)
        rw [this]
      · exfalso
        exact h5 (q.1, (q.2 : Int) - (pc : Int)) (by rw [← h1]; exact List.mem_map.mpr ⟨q, hq, rfl⟩) e1
    · refine lv_lookup (tgt := a) (off := dflt) hx hb hd hp ?_ ht (hk H locs ls hP hS hg hL h3)
      rw [et]
      rcases mj_off_or (x := x) (dflt := dflt) ps.toList with ⟨w, h5, h6, h7⟩ | ⟨-, h5⟩
      · exfalso
        rw [← h1] at h5
        obtain ⟨q', hq', rfl⟩ := List.mem_map.mp h5
        exact hno q' hq' h6
      · exact h5
  · exact h.elim
/-! fields -/
theorem mj_uin : ∀ (ci : Nat) (q : vw_C), vwCl[ci]? = some q → ∀ w ∈ u_ws q.1 q.2.1 q.2.2, w ∈ mj_tb := by
  intro ci q h
  match ci, h with
  | 0, h => cases h; exact fun w hw => mj_tb_mem ((by decide +kernel : ∀ w ∈ u_ws RX0 TX0 4, w ∈ lw_tbl) w hw) ((by decide +kernel : ∀ w ∈ u_ws RX0 TX0 4, goodWord w = true) w hw)
  | 1, h => cases h; exact fun w hw => mj_tb_mem ((by decide +kernel : ∀ w ∈ u_ws RX1 TX1 8, w ∈ lw_tbl) w hw) ((by decide +kernel : ∀ w ∈ u_ws RX1 TX1 8, goodWord w = true) w hw)
  | 2, h => cases h; exact fun w hw => mj_tb_mem ((by decide +kernel : ∀ w ∈ u_ws RX2 TX2 4, w ∈ lw_tbl) w hw) ((by decide +kernel : ∀ w ∈ u_ws RX2 TX2 4, goodWord w = true) w hw)
  | 3, h => cases h; exact fun w hw => mj_tb_mem ((by decide +kernel : ∀ w ∈ u_ws RX3 TX3 3, w ∈ lw_tbl) w hw) ((by decide +kernel : ∀ w ∈ u_ws RX3 TX3 3, goodWord w = true) w hw)
  | 4, h => cases h; exact fun w hw => mj_tb_mem ((by decide +kernel : ∀ w ∈ u_ws RX4 TX4 3, w ∈ lw_tbl) w hw) ((by decide +kernel : ∀ w ∈ u_ws RX4 TX4 3, goodWord w = true) w hw)
  | 5, h => cases h; exact fun w hw => mj_tb_mem ((by decide +kernel : ∀ w ∈ u_ws RX5 TX5 2, w ∈ lw_tbl) w hw) ((by decide +kernel : ∀ w ∈ u_ws RX5 TX5 2, goodWord w = true) w hw)
  | 6, h => cases h; exact fun w hw => mj_tb_mem ((by decide +kernel : ∀ w ∈ u_ws RX6 TX6 4, w ∈ lw_tbl) w hw) ((by decide +kernel : ∀ w ∈ u_ws RX6 TX6 4, goodWord w = true) w hw)
  | 7, h => cases h; exact fun w hw => mj_tb_mem ((by decide +kernel : ∀ w ∈ u_ws RX7 TX7 4, w ∈ lw_tbl) w hw) ((by decide +kernel : ∀ w ∈ u_ws RX7 TX7 4, goodWord w = true) w hw)
  | 8, h => cases h; exact fun w hw => mj_tb_mem ((by decide +kernel : ∀ w ∈ u_ws RX8 TX8 3, w ∈ lw_tbl) w hw) ((by decide +kernel : ∀ w ∈ u_ws RX8 TX8 3, goodWord w = true) w hw)
  | 9, h => cases h; exact fun w hw => mj_tb_mem ((by decide +kernel : ∀ w ∈ u_ws RX9 TX9 3, w ∈ lw_tbl) w hw) ((by decide +kernel : ∀ w ∈ u_ws RX9 TX9 3, goodWord w = true) w hw)
  | 10, h => cases h; exact fun w hw => mj_tb_mem ((by decide +kernel : ∀ w ∈ u_ws RX10 TX10 1, w ∈ lw_tbl) w hw) ((by decide +kernel : ∀ w ∈ u_ws RX10 TX10 1, goodWord w = true) w hw)
  | 11, h => cases h; exact fun w hw => mj_tb_mem ((by decide +kernel : ∀ w ∈ u_ws RX11 TX11 10, w ∈ lw_tbl) w hw) ((by decide +kernel : ∀ w ∈ u_ws RX11 TX11 10, goodWord w = true) w hw)
  | 12, h => cases h; exact fun w hw => mj_tb_mem ((by decide +kernel : ∀ w ∈ u_ws RX12 TX12 43, w ∈ lw_tbl) w hw) ((by decide +kernel : ∀ w ∈ u_ws RX12 TX12 43, goodWord w = true) w hw)
  | k + 13, h => simp [vwCl] at h
theorem mj_tyo : ∀ (ci : Nat) (q : vw_C), vwCl[ci]? = some q → (∃ ty : Nat → FieldType, ∀ k, k < q.2.2 → parseFieldDescriptor (q.2.1 k).2.2.1 = some (ty k)) ∧ (∀ a, a < q.2.2 → ∀ b, b < q.2.2 → a ≠ b → (q.2.1 a).2.1 ≠ (q.2.1 b).2.1) ∧ q.2.2 = mj_fn ci := by
  intro ci q h
  match ci, h with
  | 0, h => cases h; exact ⟨⟨tyX0, tyX0_ok⟩, nmX0, by decide +kernel⟩
  | 1, h => cases h; exact ⟨⟨tyX1, tyX1_ok⟩, nmX1, by decide +kernel⟩
  | 2, h => cases h; exact ⟨⟨tyX2, tyX2_ok⟩, nmX2, by decide +kernel⟩
  | 3, h => cases h; exact ⟨⟨tyX3, tyX3_ok⟩, nmX3, by decide +kernel⟩
  | 4, h => cases h; exact ⟨⟨tyX4, tyX4_ok⟩, nmX4, by decide +kernel⟩
  | 5, h => cases h; exact ⟨⟨tyX5, tyX5_ok⟩, nmX5, by decide +kernel⟩
  | 6, h => cases h; exact ⟨⟨tyX6, tyX6_ok⟩, nmX6, by decide +kernel⟩
  | 7, h => cases h; exact ⟨⟨tyX7, tyX7_ok⟩, nmX7, by decide +kernel⟩
  | 8, h => cases h; exact ⟨⟨tyX8, tyX8_ok⟩, nmX8, by decide +kernel⟩
  | 9, h => cases h; exact ⟨⟨tyX9, tyX9_ok⟩, nmX9, by decide +kernel⟩
  | 10, h => cases h; exact ⟨⟨tyX10, tyX10_ok⟩, nmX10, by decide +kernel⟩
  | 11, h => cases h; exact ⟨⟨tyX11, tyX11_ok⟩, nmX11, by decide +kernel⟩
  | 12, h => cases h; exact ⟨⟨tyX12, tyX12_ok⟩, nmX12, by decide +kernel⟩
  | k + 13, h => simp [vwCl] at h
/-- the layout: a field's cell is of the kind told -/
def mj_layb (o j : Nat) : Bool := !(Nat.beq (mj_fi (mj_kd.getD o (99, 0)).1 j).1 2) || (decide ((mj_fi (mj_kd.getD o (99, 0)).1 j).2.2.1 < 24) && (decide (o + (mj_fi (mj_kd.getD o (99, 0)).1 j).2.1 < mj_NC) && decide (mj_kd.getD (o + (mj_fi (mj_kd.getD o (99, 0)).1 j).2.1) (99, 0) = ((mj_fi (mj_kd.getD o (99, 0)).1 j).2.2.1, (mj_fi (mj_kd.getD o (99, 0)).1 j).2.2.2))))
theorem mj_lay0 : (List.range mj_NC).all (fun o => (List.range (mj_fn (mj_kd.getD o (99, 0)).1)).all (fun j => mj_layb o j)) = true := by decide +kernel
theorem mj_lay (o : Nat) (ho : o < mj_NC) (j : Nat) (hj : j < mj_fn (mj_kd.getD o (99, 0)).1) (h2 : (mj_fi (mj_kd.getD o (99, 0)).1 j).1 = 2) : (mj_fi (mj_kd.getD o (99, 0)).1 j).2.2.1 < 24 ∧ o + (mj_fi (mj_kd.getD o (99, 0)).1 j).2.1 < mj_NC ∧ mj_kd.getD (o + (mj_fi (mj_kd.getD o (99, 0)).1 j).2.1) (99, 0) = ((mj_fi (mj_kd.getD o (99, 0)).1 j).2.2.1, (mj_fi (mj_kd.getD o (99, 0)).1 j).2.2.2) := by
  have h := List.all_eq_true.mp (List.all_eq_true.mp mj_lay0 o (List.mem_range.mpr ho)) j (List.mem_range.mpr hj)
  unfold mj_layb at h
  rw [h2] at h
  simpa using h
theorem mj_lay23 : ∀ o, o < mj_NC → mj_kd.getD o (99, 0) = (23, 2) → o + 14 < mj_NC ∧ mj_kd.getD (o + 1) (99, 0) = (0, 0) ∧ mj_kd.getD (o + 14) (99, 0) = (0, 0) := by decide +kernel
theorem mj_lay9 : ∀ o, o < mj_NC → (mj_kd.getD o (99, 0)).1 = 23 → (mj_kd.getD o (99, 0)).2 = 2 := by decide +kernel
theorem mj_lay22 : ∀ o, o < mj_NC → (mj_kd.getD o (99, 0)).1 = 22 → (mj_kd.getD o (99, 0)).2 = 169 := by decide +kernel
theorem mj_okr {t k o : Nat} (h : mj_ok sa (rV t k o)) (ht : t < 24) : o < mj_NC ∧ mj_kd.getD o (99, 0) = (t, k) := by
  have h' : (t < 24 ∧ o < mj_NC ∧ mj_kd.getD o (99, 0) = (t, k)) ∨ (t = 25 ∧ k = 4) ∨ (t = 26 ∧ k = 4) ∨ (t = 27 ∧ k = sa.2.2.2.1) := h
  rcases h' with h | h | h | h
  · exact h.2
  · omega
  · omega
  · omega
theorem mj_vr {t k o : Nat} (ht : t < 24) : mj_v ad sa (rV t k o) = .ref (ad o) := by
  show Value.ref (if t < 24 then ad o else _) = _
  rw [if_pos ht]
def mj_Fl (own : String) (idx a b : Nat) (im : Int) : Prop := im = (b : Int) ∧ ∃ q : vw_C, vwCl[a]? = some q ∧ b < q.2.2 ∧ a < 20 ∧ Cond.fieldLink own idx (q.2.1 b).1 (q.2.1 b).2.1 (q.2.1 b).2.2.1 ∈ mj_tb
theorem mj_s_get {idx : Nat} (hC : mj_Cx p R s m args c D cs A ad sa cu su own cc nL n) (hd : decode cc pc = .ok (.getfield idx, 3)) (hn : nx = pc + 3) (hf : mj_Fl own idx a b im)
    (h : mj_x_get (mj_B p l e R s m args below meth c D cs A ad sa cu su Q nL) nx a b im loc st σ) : mj_B p l e R s m args below meth c D cs A ad sa cu su Q nL pc loc st σ := by
  obtain ⟨hx, hb, hml, ho, hts, hK, -⟩ := hC
  obtain ⟨rfl, ⟨C, T, N⟩, hq, hbN, ha20, hlk⟩ := hf
  obtain ⟨-, -, hN⟩ := mj_tyo a _ hq
  have hN : N = mj_fn a := hN
  unfold mj_x_get at h
  split at h
  · rename_i t k9 o r
    split at h
    · rename_i hbt
      have e := Nat.eq_of_beq_eq_true hbt
      subst e
      intro H locs ls hP hS hg hL hst
      obtain ⟨h1, h2⟩ := mj_c1 hst
      obtain ⟨ho2, hk2⟩ := mj_okr h1 (by omega)
      have hat := mj_ws_at cs ad σ ho2
      rw [mj_ce_o cs ad σ hk2 ha20] at hat
      have hval : ((List.range (mj_fn t)).map (mj_fv ad σ t o))[b]? = some (mj_fv ad σ t o b) := by
        have : b < mj_fn t := by rw [← hN]; exact hbN
        simp [this]
      have key : W p l e R s m args below meth c H locs cu su Q (F0 m (pc + 3) ls (mj_fv ad σ t o b :: r.map (mj_v ad sa))) → W p l e R s m args below meth c H locs cu su Q (F0 m pc ls ((rV t k9 o :: r).map (mj_v ad sa))) := by
        intro hw
        show W p l e R s m args below meth c H locs cu su Q (F0 m pc ls (mj_v ad sa (rV t k9 o) :: r.map (mj_v ad sa)))
        rw [mj_vr (by omega)]
        exact va_get (D := D) (cl := vwCl) (C := C) (T := T) (N := N) hx hb hts (mj_uin _ _ hq) ho hK hP o hat hq b hbN (hts _ hlk) (fun _ h9 => h9) hval hd hw
      subst hn
      have hnR : mj_InR (σ o (b : Int)) := mj_rg_i hg hk2 (by omega) _
      split at h
      · rename_i hfi
        refine key ?_
        have : mj_fv ad σ t o b = .int (Int32.ofInt (σ o (b : Int))) := by unfold mj_fv; rw [hfi]; rfl
        rw [this]
        exact h H locs ls hP hS hg hL (mj_cons hnR h2)
      · rename_i hfi
        refine key ?_
        have : mj_fv ad σ t o b = .int (Int32.ofInt (σ o (b : Int))) := by unfold mj_fv; rw [hfi]; rfl
        rw [this]
        exact h H locs ls hP hS hg hL (mj_cons hnR h2)
      · rename_i off t' n' hfi
        refine key ?_
        have hl := mj_lay o ho2 b (by rw [hk2]; show b < mj_fn t; omega)
        rw [hk2] at hl
        have hl := hl (by show (mj_fi t b).1 = 2; rw [hfi])
        have hl : (mj_fi t b).2.2.1 < 24 ∧ o + (mj_fi t b).2.1 < mj_NC ∧ mj_kd.getD (o + (mj_fi t b).2.1) (99, 0) = ((mj_fi t b).2.2.1, (mj_fi t b).2.2.2) := hl
        rw [hfi] at hl
        have : mj_fv ad σ t o b = .ref (ad (o + off)) := by unfold mj_fv; rw [hfi]; rfl
        rw [this]
        have h3 := h H locs ls hP hS hg hL (mj_cons (v := rV t' n' (o + off)) (Or.inl hl) h2)
        have h3 : W p l e R s m args below meth c H locs cu su Q (F0 m (pc + 3) ls (mj_v ad sa (rV t' n' (o + off)) :: r.map (mj_v ad sa))) := h3
        rw [mj_vr hl.1] at h3
        exact h3
      · exact h.elim
    · exact h.elim
  · exact h.elim
theorem mj_fv_up {ad : Nat → Nat} {σ : mj_W} {t o k j : Nat} {x : Int} (h : (mj_fi t k).1 ≠ 2) : mj_fv ad (mj_up σ o (k : Int) x) t o j = if j = k then .int (Int32.ofInt x) else mj_fv ad σ t o j := by
  unfold mj_fv mj_up
  by_cases hj : j = k
  · subst hj
    rw [if_neg h, if_pos rfl, if_pos ⟨rfl, rfl⟩]
  · rw [if_neg hj]
    have : ¬ (o = o ∧ (j : Int) = (k : Int)) := fun q => hj (by omega)
    rw [if_neg this]
def mj_Fp (own : String) (idx a b : Nat) (im : Int) : Prop := mj_Fl own idx a b im ∧ ∃ q : vw_C, vwCl[a]? = some q ∧ (q.2.1 b).2.2.2 = false ∧ (((mj_fi a b).1 = 0 ∧ parseFieldDescriptor (q.2.1 b).2.2.1 = some .int) ∨ ((mj_fi a b).1 = 1 ∧ parseFieldDescriptor (q.2.1 b).2.2.1 = some .boolean))
theorem mj_zf {x : Int} (h : x = 0 ∨ x = 1) : narrow .boolean (.int (Int32.ofInt x)) = .int (Int32.ofInt x) ∧ fits .boolean (.int (Int32.ofInt x)) = true ∧ vp_nar .boolean (Int32.ofInt x) = Int32.ofInt x := by
  rcases h with rfl | rfl <;> decide +kernel
theorem mj_s_put {idx : Nat} (hC : mj_Cx p R s m args c D cs A ad sa cu su own cc nL n) (hd : decode cc pc = .ok (.putfield idx, 3)) (hn : nx = pc + 3) (hf : mj_Fp own idx a b im)
    (h : mj_x_put (mj_B p l e R s m args below meth c D cs A ad sa cu su Q nL) nx a b im loc st σ) : mj_B p l e R s m args below meth c D cs A ad sa cu su Q nL pc loc st σ := by
  obtain ⟨hx, hb, hml, ho, hts, hK, hDD, -⟩ := hC
  obtain ⟨⟨rfl, ⟨C, T, N⟩, hq, hbN, ha20, hlk⟩, q2, hq2, hfin, hty2⟩ := hf
  cases hq.symm.trans hq2
  obtain ⟨⟨ty, hty⟩, hnm, hN⟩ := mj_tyo a _ hq
  have hN : N = mj_fn a := hN
  unfold mj_x_put at h
  split at h
  · rename_i x t k9 o r
    split at h
    · rename_i hbt
      have e := Nat.eq_of_beq_eq_true hbt
      subst e
      intro H locs ls hP hS hg hL hst
      obtain ⟨hxx, h1⟩ := mj_c1 hst
      obtain ⟨h1, h2⟩ := mj_c1 h1
      obtain ⟨ho2, hk2⟩ := mj_okr h1 (by omega)
      have hat := mj_ws_at cs ad σ ho2
      rw [mj_ce_o cs ad σ hk2 ha20] at hat
      have hbf : b < mj_fn t := by rw [← hN]; exact hbN
      have hrg : mj_rg (mj_up σ o (b : Int) x) := mj_rg_up hg (by rw [mj_ln_o hk2 ha20]; omega) (by rw [hk2, if_neg (by intro q; cases q; omega)]; exact hxx)
      subst hn
      have key : ∀ fty : FieldType, parseFieldDescriptor (T b).2.2.1 = some fty → narrow fty (.int (Int32.ofInt x)) = .int (Int32.ofInt x) → fits fty (.int (Int32.ofInt x)) = true → (mj_fi t b).1 ≠ 2 → mj_B p l e R s m args below meth c D cs A ad sa cu su Q nL (pc + 3) loc r (mj_up σ o (b : Int) x) → W p l e R s m args below meth c H locs cu su Q (F0 m pc ls ((iV x :: rV t k9 o :: r).map (mj_v ad sa))) := by
        intro fty g1 g2 g3 g4 hw
        show W p l e R s m args below meth c H locs cu su Q (F0 m pc ls (.int (Int32.ofInt x) :: mj_v ad sa (rV t k9 o) :: r.map (mj_v ad sa)))
        rw [mj_vr (by omega)]
        refine va_put (D := D) (cl := vwCl) (C := C) (T := T) (N := N) hx hb hts (mj_uin _ _ hq) ty hty hnm ho hK hP (hDD σ) hS o hat hq b hbN (hts _ hlk) (fun _ h9 => h9) hfin g1 g2 g3 (by simpa using hbf) hd (fun H1 locs1 hP1 hD1 hS1 => ?_)
        rw [mj_ws_set cs ad (σ' := mj_up σ o (b : Int) x) ho2 (fun o' ho' i => by unfold mj_up; rw [if_neg (fun q => ho' q.1)])] at hP1
        · exact hw H1 locs1 ls hP1 hS1 hrg hL h2
        · rw [mj_ce_o cs ad _ hk2 ha20]
          congr 2
          apply List.ext_getElem?
          intro j
          rw [List.getElem?_set]
          by_cases hj : b = j
          · subst hj
            rw [if_pos rfl]
            simp [hbf, mj_fv_up g4]
          · rw [if_neg hj]
            by_cases hjf : j < mj_fn t
            · have hjb : ¬ j = b := fun q => hj q.symm
              simp [hjf, mj_fv_up g4, hjb]
            · simp [hjf]
      split at h
      · rename_i hfi
        refine key .int ?_ rfl rfl (by rw [hfi]; exact fun q => by cases q) h
        rcases hty2 with w | w
        · exact w.2
        · have := w.1; rw [hfi] at this; cases this
      · rename_i hfi
        obtain ⟨hz, h⟩ := h
        obtain ⟨z1, z2, -⟩ := mj_zf hz
        refine key .boolean ?_ z1 z2 (by rw [hfi]; exact fun q => by cases q) h
        rcases hty2 with w | w
        · have := w.1; rw [hfi] at this; cases this
        · exact w.2
      · exact h.elim
    · exact h.elim
  · exact h.elim
end MJ2
