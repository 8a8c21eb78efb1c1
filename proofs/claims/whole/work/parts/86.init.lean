/-! the constructors' contracts, by program -/
theorem k_all {ty : Nat → FieldType} {fs : List Value} (N : Nat) (h : (List.range N).all (fun j => decide (defaultValue (ty j) = vp_V fs j)) = true) : ∀ j, j < N → defaultValue (ty j) = vp_V fs j := fun j hj => of_decide_eq_true (List.all_eq_true.mp h j (List.mem_range.mpr hj))
theorem k_bk {D : va_G} {cs : mj_Cs} {a x y : Nat} {H : Heap} (h : va_at D vwCl (a, .inl (cs.2.2.2, 2, .inr (.inr (.inr (.inr (va_up (va_up (fun _ => none) 0 (some x)) 1 (some y))))))) H) : va_at D vwCl (a, .inl (cs.2.2.2, 2, .inr (.inr (.inr (.inr (fun j => if j = 0 then some x else some y)))))) H := by
  refine Eq.trans (show H[a]? = _ from h) (congrArg some ?_)
  rw [vp_cell_q, vp_cell_q]
  unfold arrV
  congr 1
def k_mk1 (cs : mj_Cs) (h : Nat) (u : Nat → Nat) : va_W := [(h, .inr (1, [.ref (u 1), .ref (u 2), .ref (u 3), .ref (u 4), .int 0, .int 20, .int 20, .int 20])), ((u 1), .inl (cs.1, 8, .inl (fun _ => 0))), ((u 2), .inl (cs.1, 8, .inl (fun _ => 0))), ((u 3), .inl (cs.1, 8, .inl (fun _ => 0))), ((u 4), .inl (cs.1, 8, .inl (fun _ => 0)))]
set_option maxHeartbeats 4000000 in
set_option maxRecDepth 100000 in
theorem k_c1 (l : Launch) (D : va_G) (cs : mj_Cs) : k_Ok l D cs 1 yX1_init cX1_init 1 4 32 [.null, .null, .null, .null, .int 0, .int 0, .int 0, .int 0] (k_mk1 cs) := by
  refine k_enter (by decide +kernel) rfl (fun h p e s m args below meth c A ls Q hC hin hz hl hret => ?_)
  refine k_al hC (by decide +kernel) hl ?_
  refine k_obj (idx := 3) (i1 := 89) (i2 := 76) (i3 := 77) hC (by decide +kernel) (by decide +kernel) (by decide +kernel) (by decide +kernel) hz (Nat.le_of_ble_eq_true rfl) (Nat.le_of_ble_eq_true rfl) ?_
  refine k_al hC (by decide +kernel) hl ?_
  refine k_bi (n := 8) (v := 8) hC (by decide +kernel) (by decide) ?_
  refine k_nai (N := 8) (i1 := 124) hC (by decide +kernel) (by decide) (by decide) (by decide) (Nat.le_of_ble_eq_true rfl) (Nat.le_of_ble_eq_true rfl) (by decide +kernel) (fun q7 => ?_)
  refine k_as (ws' := [(h, .inr (1, [.null, .null, .null, .null, .int 0, .int 0, .int 0, .int 0])), (q7, .inl (cs.1, 8, .inl (fun _ => 0)))]) rfl ?_
  refine k_putF (idx := 9) (ci := 1) (C := RX1) (T := TX1) (N := 8) (i1 := 90) hC hin rfl tyX1 tyX1_ok nmX1 0 rfl 0 (by decide) (by decide +kernel) rfl rfl rfl rfl (Nat.le_of_ble_eq_true rfl) (by decide +kernel) ?_
  refine k_as (ws' := [(h, .inr (1, [.ref q7, .null, .null, .null, .int 0, .int 0, .int 0, .int 0])), (q7, .inl (cs.1, 8, .inl (fun _ => 0)))]) rfl ?_
  refine k_al hC (by decide +kernel) hl ?_
  refine k_bi (n := 8) (v := 8) hC (by decide +kernel) (by decide) ?_
  refine k_nai (N := 8) (i1 := 124) hC (by decide +kernel) (by decide) (by decide) (by decide) (Nat.le_of_ble_eq_true rfl) (Nat.le_of_ble_eq_true rfl) (by decide +kernel) (fun q15 => ?_)
  refine k_as (ws' := [(h, .inr (1, [.ref q7, .null, .null, .null, .int 0, .int 0, .int 0, .int 0])), (q7, .inl (cs.1, 8, .inl (fun _ => 0))), (q15, .inl (cs.1, 8, .inl (fun _ => 0)))]) rfl ?_
  refine k_putF (idx := 15) (ci := 1) (C := RX1) (T := TX1) (N := 8) (i1 := 93) hC hin rfl tyX1 tyX1_ok nmX1 0 rfl 1 (by decide) (by decide +kernel) rfl rfl rfl rfl (Nat.le_of_ble_eq_true rfl) (by decide +kernel) ?_
  refine k_as (ws' := [(h, .inr (1, [.ref q7, .ref q15, .null, .null, .int 0, .int 0, .int 0, .int 0])), (q7, .inl (cs.1, 8, .inl (fun _ => 0))), (q15, .inl (cs.1, 8, .inl (fun _ => 0)))]) rfl ?_
  refine k_al hC (by decide +kernel) hl ?_
  refine k_bi (n := 8) (v := 8) hC (by decide +kernel) (by decide) ?_
  refine k_nai (N := 8) (i1 := 124) hC (by decide +kernel) (by decide) (by decide) (by decide) (Nat.le_of_ble_eq_true rfl) (Nat.le_of_ble_eq_true rfl) (by decide +kernel) (fun q23 => ?_)
  refine k_as (ws' := [(h, .inr (1, [.ref q7, .ref q15, .null, .null, .int 0, .int 0, .int 0, .int 0])), (q7, .inl (cs.1, 8, .inl (fun _ => 0))), (q15, .inl (cs.1, 8, .inl (fun _ => 0))), (q23, .inl (cs.1, 8, .inl (fun _ => 0)))]) rfl ?_
  refine k_putF (idx := 18) (ci := 1) (C := RX1) (T := TX1) (N := 8) (i1 := 96) hC hin rfl tyX1 tyX1_ok nmX1 0 rfl 2 (by decide) (by decide +kernel) rfl rfl rfl rfl (Nat.le_of_ble_eq_true rfl) (by decide +kernel) ?_
  refine k_as (ws' := [(h, .inr (1, [.ref q7, .ref q15, .ref q23, .null, .int 0, .int 0, .int 0, .int 0])), (q7, .inl (cs.1, 8, .inl (fun _ => 0))), (q15, .inl (cs.1, 8, .inl (fun _ => 0))), (q23, .inl (cs.1, 8, .inl (fun _ => 0)))]) rfl ?_
  refine k_al hC (by decide +kernel) hl ?_
  refine k_bi (n := 8) (v := 8) hC (by decide +kernel) (by decide) ?_
  refine k_nai (N := 8) (i1 := 124) hC (by decide +kernel) (by decide) (by decide) (by decide) (Nat.le_of_ble_eq_true rfl) (Nat.le_of_ble_eq_true rfl) (by decide +kernel) (fun q31 => ?_)
  refine k_as (ws' := [(h, .inr (1, [.ref q7, .ref q15, .ref q23, .null, .int 0, .int 0, .int 0, .int 0])), (q7, .inl (cs.1, 8, .inl (fun _ => 0))), (q15, .inl (cs.1, 8, .inl (fun _ => 0))), (q23, .inl (cs.1, 8, .inl (fun _ => 0))), (q31, .inl (cs.1, 8, .inl (fun _ => 0)))]) rfl ?_
  refine k_putF (idx := 21) (ci := 1) (C := RX1) (T := TX1) (N := 8) (i1 := 97) hC hin rfl tyX1 tyX1_ok nmX1 0 rfl 3 (by decide) (by decide +kernel) rfl rfl rfl rfl (Nat.le_of_ble_eq_true rfl) (by decide +kernel) ?_
  refine k_as (ws' := [(h, .inr (1, [.ref q7, .ref q15, .ref q23, .ref q31, .int 0, .int 0, .int 0, .int 0])), (q7, .inl (cs.1, 8, .inl (fun _ => 0))), (q15, .inl (cs.1, 8, .inl (fun _ => 0))), (q23, .inl (cs.1, 8, .inl (fun _ => 0))), (q31, .inl (cs.1, 8, .inl (fun _ => 0)))]) rfl ?_
  refine k_al hC (by decide +kernel) hl ?_
  refine k_ic (n := 0) (v := 0) hC (by decide +kernel) (by decide) ?_
  refine k_put (idx := 24) (ci := 1) (C := RX1) (T := TX1) (N := 8) (i1 := 99) hC rfl tyX1 tyX1_ok nmX1 0 rfl 4 (by decide) (by decide +kernel) rfl rfl rfl (Nat.le_of_ble_eq_true rfl) (by decide +kernel) ?_
  refine k_as (ws' := [(h, .inr (1, [.ref q7, .ref q15, .ref q23, .ref q31, .int 0, .int 0, .int 0, .int 0])), (q7, .inl (cs.1, 8, .inl (fun _ => 0))), (q15, .inl (cs.1, 8, .inl (fun _ => 0))), (q23, .inl (cs.1, 8, .inl (fun _ => 0))), (q31, .inl (cs.1, 8, .inl (fun _ => 0)))]) rfl ?_
  refine k_al hC (by decide +kernel) hl ?_
  refine k_bi (n := 20) (v := 20) hC (by decide +kernel) (by decide) ?_
  refine k_put (idx := 28) (ci := 1) (C := RX1) (T := TX1) (N := 8) (i1 := 101) hC rfl tyX1 tyX1_ok nmX1 0 rfl 5 (by decide) (by decide +kernel) rfl rfl rfl (Nat.le_of_ble_eq_true rfl) (by decide +kernel) ?_
  refine k_as (ws' := [(h, .inr (1, [.ref q7, .ref q15, .ref q23, .ref q31, .int 0, .int 20, .int 0, .int 0])), (q7, .inl (cs.1, 8, .inl (fun _ => 0))), (q15, .inl (cs.1, 8, .inl (fun _ => 0))), (q23, .inl (cs.1, 8, .inl (fun _ => 0))), (q31, .inl (cs.1, 8, .inl (fun _ => 0)))]) rfl ?_
  refine k_al hC (by decide +kernel) hl ?_
  refine k_bi (n := 20) (v := 20) hC (by decide +kernel) (by decide) ?_
  refine k_put (idx := 31) (ci := 1) (C := RX1) (T := TX1) (N := 8) (i1 := 103) hC rfl tyX1 tyX1_ok nmX1 0 rfl 6 (by decide) (by decide +kernel) rfl rfl rfl (Nat.le_of_ble_eq_true rfl) (by decide +kernel) ?_
  refine k_as (ws' := [(h, .inr (1, [.ref q7, .ref q15, .ref q23, .ref q31, .int 0, .int 20, .int 20, .int 0])), (q7, .inl (cs.1, 8, .inl (fun _ => 0))), (q15, .inl (cs.1, 8, .inl (fun _ => 0))), (q23, .inl (cs.1, 8, .inl (fun _ => 0))), (q31, .inl (cs.1, 8, .inl (fun _ => 0)))]) rfl ?_
  refine k_al hC (by decide +kernel) hl ?_
  refine k_bi (n := 20) (v := 20) hC (by decide +kernel) (by decide) ?_
  refine k_put (idx := 34) (ci := 1) (C := RX1) (T := TX1) (N := 8) (i1 := 105) hC rfl tyX1 tyX1_ok nmX1 0 rfl 7 (by decide) (by decide +kernel) rfl rfl rfl (Nat.le_of_ble_eq_true rfl) (by decide +kernel) ?_
  refine k_as (ws' := [(h, .inr (1, [.ref q7, .ref q15, .ref q23, .ref q31, .int 0, .int 20, .int 20, .int 20])), (q7, .inl (cs.1, 8, .inl (fun _ => 0))), (q15, .inl (cs.1, 8, .inl (fun _ => 0))), (q23, .inl (cs.1, 8, .inl (fun _ => 0))), (q31, .inl (cs.1, 8, .inl (fun _ => 0)))]) rfl ?_
  exact hret (fun j => [h, q7, q15, q23, q31].getD j 0) _ (by decide +kernel)
def k_mk9 (cs : mj_Cs) (h : Nat) (u : Nat → Nat) : va_W := [(h, .inr (9, [.ref (u 1), .ref (u 2), .int 0])), ((u 1), .inl (cs.1, 8, .inl (fun _ => 0))), ((u 2), .inl (cs.1, 8, .inl (fun _ => 0)))]
set_option maxHeartbeats 4000000 in
set_option maxRecDepth 100000 in
theorem k_c9 (l : Launch) (D : va_G) (cs : mj_Cs) : k_Ok l D cs 9 yX9_init cX9_init 1 2 16 [.null, .null, .int 0] (k_mk9 cs) := by
  refine k_enter (by decide +kernel) rfl (fun h p e s m args below meth c A ls Q hC hin hz hl hret => ?_)
  refine k_al hC (by decide +kernel) hl ?_
  refine k_obj (idx := 3) (i1 := 130) (i2 := 76) (i3 := 77) hC (by decide +kernel) (by decide +kernel) (by decide +kernel) (by decide +kernel) hz (Nat.le_of_ble_eq_true rfl) (Nat.le_of_ble_eq_true rfl) ?_
  refine k_al hC (by decide +kernel) hl ?_
  refine k_bi (n := 8) (v := 8) hC (by decide +kernel) (by decide) ?_
  refine k_nai (N := 8) (i1 := 124) hC (by decide +kernel) (by decide) (by decide) (by decide) (Nat.le_of_ble_eq_true rfl) (Nat.le_of_ble_eq_true rfl) (by decide +kernel) (fun q7 => ?_)
  refine k_as (ws' := [(h, .inr (9, [.null, .null, .int 0])), (q7, .inl (cs.1, 8, .inl (fun _ => 0)))]) rfl ?_
  refine k_putF (idx := 9) (ci := 9) (C := RX9) (T := TX9) (N := 3) (i1 := 131) hC hin rfl tyX9 tyX9_ok nmX9 0 rfl 0 (by decide) (by decide +kernel) rfl rfl rfl rfl (Nat.le_of_ble_eq_true rfl) (by decide +kernel) ?_
  refine k_as (ws' := [(h, .inr (9, [.ref q7, .null, .int 0])), (q7, .inl (cs.1, 8, .inl (fun _ => 0)))]) rfl ?_
  refine k_al hC (by decide +kernel) hl ?_
  refine k_bi (n := 8) (v := 8) hC (by decide +kernel) (by decide) ?_
  refine k_nai (N := 8) (i1 := 124) hC (by decide +kernel) (by decide) (by decide) (by decide) (Nat.le_of_ble_eq_true rfl) (Nat.le_of_ble_eq_true rfl) (by decide +kernel) (fun q15 => ?_)
  refine k_as (ws' := [(h, .inr (9, [.ref q7, .null, .int 0])), (q7, .inl (cs.1, 8, .inl (fun _ => 0))), (q15, .inl (cs.1, 8, .inl (fun _ => 0)))]) rfl ?_
  refine k_putF (idx := 15) (ci := 9) (C := RX9) (T := TX9) (N := 3) (i1 := 134) hC hin rfl tyX9 tyX9_ok nmX9 0 rfl 1 (by decide) (by decide +kernel) rfl rfl rfl rfl (Nat.le_of_ble_eq_true rfl) (by decide +kernel) ?_
  refine k_as (ws' := [(h, .inr (9, [.ref q7, .ref q15, .int 0])), (q7, .inl (cs.1, 8, .inl (fun _ => 0))), (q15, .inl (cs.1, 8, .inl (fun _ => 0)))]) rfl ?_
  refine k_al hC (by decide +kernel) hl ?_
  refine k_ic (n := 0) (v := 0) hC (by decide +kernel) (by decide) ?_
  refine k_put (idx := 18) (ci := 9) (C := RX9) (T := TX9) (N := 3) (i1 := 137) hC rfl tyX9 tyX9_ok nmX9 0 rfl 2 (by decide) (by decide +kernel) rfl rfl rfl (Nat.le_of_ble_eq_true rfl) (by decide +kernel) ?_
  refine k_as (ws' := [(h, .inr (9, [.ref q7, .ref q15, .int 0])), (q7, .inl (cs.1, 8, .inl (fun _ => 0))), (q15, .inl (cs.1, 8, .inl (fun _ => 0)))]) rfl ?_
  exact hret (fun j => [h, q7, q15].getD j 0) _ (by decide +kernel)
def k_mk6 (cs : mj_Cs) (h : Nat) (u : Nat → Nat) : va_W := [(h, .inr (6, [.ref (u 1), .ref (u 2), .ref (u 3), .int 0])), ((u 1), .inl (cs.1, 8, .inl (fun _ => 0))), ((u 2), .inl (cs.1, 8, .inl (fun _ => 0))), ((u 3), .inl (cs.1, 8, .inl (fun _ => 0)))]
set_option maxHeartbeats 4000000 in
set_option maxRecDepth 100000 in
theorem k_c6 (l : Launch) (D : va_G) (cs : mj_Cs) : k_Ok l D cs 6 yX6_init cX6_init 1 3 24 [.null, .null, .null, .int 0] (k_mk6 cs) := by
  refine k_enter (by decide +kernel) rfl (fun h p e s m args below meth c A ls Q hC hin hz hl hret => ?_)
  refine k_al hC (by decide +kernel) hl ?_
  refine k_obj (idx := 3) (i1 := 151) (i2 := 76) (i3 := 77) hC (by decide +kernel) (by decide +kernel) (by decide +kernel) (by decide +kernel) hz (Nat.le_of_ble_eq_true rfl) (Nat.le_of_ble_eq_true rfl) ?_
  refine k_al hC (by decide +kernel) hl ?_
  refine k_bi (n := 8) (v := 8) hC (by decide +kernel) (by decide) ?_
  refine k_nai (N := 8) (i1 := 124) hC (by decide +kernel) (by decide) (by decide) (by decide) (Nat.le_of_ble_eq_true rfl) (Nat.le_of_ble_eq_true rfl) (by decide +kernel) (fun q7 => ?_)
  refine k_as (ws' := [(h, .inr (6, [.null, .null, .null, .int 0])), (q7, .inl (cs.1, 8, .inl (fun _ => 0)))]) rfl ?_
  refine k_putF (idx := 9) (ci := 6) (C := RX6) (T := TX6) (N := 4) (i1 := 152) hC hin rfl tyX6 tyX6_ok nmX6 0 rfl 0 (by decide) (by decide +kernel) rfl rfl rfl rfl (Nat.le_of_ble_eq_true rfl) (by decide +kernel) ?_
  refine k_as (ws' := [(h, .inr (6, [.ref q7, .null, .null, .int 0])), (q7, .inl (cs.1, 8, .inl (fun _ => 0)))]) rfl ?_
  refine k_al hC (by decide +kernel) hl ?_
  refine k_bi (n := 8) (v := 8) hC (by decide +kernel) (by decide) ?_
  refine k_nai (N := 8) (i1 := 124) hC (by decide +kernel) (by decide) (by decide) (by decide) (Nat.le_of_ble_eq_true rfl) (Nat.le_of_ble_eq_true rfl) (by decide +kernel) (fun q15 => ?_)
  refine k_as (ws' := [(h, .inr (6, [.ref q7, .null, .null, .int 0])), (q7, .inl (cs.1, 8, .inl (fun _ => 0))), (q15, .inl (cs.1, 8, .inl (fun _ => 0)))]) rfl ?_
  refine k_putF (idx := 15) (ci := 6) (C := RX6) (T := TX6) (N := 4) (i1 := 153) hC hin rfl tyX6 tyX6_ok nmX6 0 rfl 1 (by decide) (by decide +kernel) rfl rfl rfl rfl (Nat.le_of_ble_eq_true rfl) (by decide +kernel) ?_
  refine k_as (ws' := [(h, .inr (6, [.ref q7, .ref q15, .null, .int 0])), (q7, .inl (cs.1, 8, .inl (fun _ => 0))), (q15, .inl (cs.1, 8, .inl (fun _ => 0)))]) rfl ?_
  refine k_al hC (by decide +kernel) hl ?_
  refine k_bi (n := 8) (v := 8) hC (by decide +kernel) (by decide) ?_
  refine k_nai (N := 8) (i1 := 124) hC (by decide +kernel) (by decide) (by decide) (by decide) (Nat.le_of_ble_eq_true rfl) (Nat.le_of_ble_eq_true rfl) (by decide +kernel) (fun q23 => ?_)
  refine k_as (ws' := [(h, .inr (6, [.ref q7, .ref q15, .null, .int 0])), (q7, .inl (cs.1, 8, .inl (fun _ => 0))), (q15, .inl (cs.1, 8, .inl (fun _ => 0))), (q23, .inl (cs.1, 8, .inl (fun _ => 0)))]) rfl ?_
  refine k_putF (idx := 18) (ci := 6) (C := RX6) (T := TX6) (N := 4) (i1 := 154) hC hin rfl tyX6 tyX6_ok nmX6 0 rfl 2 (by decide) (by decide +kernel) rfl rfl rfl rfl (Nat.le_of_ble_eq_true rfl) (by decide +kernel) ?_
  refine k_as (ws' := [(h, .inr (6, [.ref q7, .ref q15, .ref q23, .int 0])), (q7, .inl (cs.1, 8, .inl (fun _ => 0))), (q15, .inl (cs.1, 8, .inl (fun _ => 0))), (q23, .inl (cs.1, 8, .inl (fun _ => 0)))]) rfl ?_
  refine k_al hC (by decide +kernel) hl ?_
  refine k_ic (n := 0) (v := 0) hC (by decide +kernel) (by decide) ?_
  refine k_put (idx := 21) (ci := 6) (C := RX6) (T := TX6) (N := 4) (i1 := 155) hC rfl tyX6 tyX6_ok nmX6 0 rfl 3 (by decide) (by decide +kernel) rfl rfl rfl (Nat.le_of_ble_eq_true rfl) (by decide +kernel) ?_
  refine k_as (ws' := [(h, .inr (6, [.ref q7, .ref q15, .ref q23, .int 0])), (q7, .inl (cs.1, 8, .inl (fun _ => 0))), (q15, .inl (cs.1, 8, .inl (fun _ => 0))), (q23, .inl (cs.1, 8, .inl (fun _ => 0)))]) rfl ?_
  exact hret (fun j => [h, q7, q15, q23].getD j 0) _ (by decide +kernel)
def k_mk0 (cs : mj_Cs) (h : Nat) (u : Nat → Nat) : va_W := [(h, .inr (0, [.ref (u 1), .ref (u 6), .ref (u 9), .int 0])), ((u 1), .inr (1, [.ref (u 2), .ref (u 3), .ref (u 4), .ref (u 5), .int 0, .int 20, .int 20, .int 20])), ((u 2), .inl (cs.1, 8, .inl (fun _ => 0))), ((u 3), .inl (cs.1, 8, .inl (fun _ => 0))), ((u 4), .inl (cs.1, 8, .inl (fun _ => 0))), ((u 5), .inl (cs.1, 8, .inl (fun _ => 0))), ((u 6), .inr (9, [.ref (u 7), .ref (u 8), .int 0])), ((u 7), .inl (cs.1, 8, .inl (fun _ => 0))), ((u 8), .inl (cs.1, 8, .inl (fun _ => 0))), ((u 9), .inr (6, [.ref (u 10), .ref (u 11), .ref (u 12), .int 0])), ((u 10), .inl (cs.1, 8, .inl (fun _ => 0))), ((u 11), .inl (cs.1, 8, .inl (fun _ => 0))), ((u 12), .inl (cs.1, 8, .inl (fun _ => 0)))]
set_option maxHeartbeats 4000000 in
set_option maxRecDepth 100000 in
theorem k_c0 (l : Launch) (D : va_G) (cs : mj_Cs) : k_Ok l D cs 0 yX0_init cX0_init 2 12 87 [.null, .null, .null, .int 0] (k_mk0 cs) := by
  refine k_enter (by decide +kernel) rfl (fun h p e s m args below meth c A ls Q hC hin hz hl hret => ?_)
  refine k_al hC (by decide +kernel) hl ?_
  refine k_obj (idx := 1) (i1 := 83) (i2 := 76) (i3 := 77) hC (by decide +kernel) (by decide +kernel) (by decide +kernel) (by decide +kernel) hz (Nat.le_of_ble_eq_true rfl) (Nat.le_of_ble_eq_true rfl) ?_
  refine k_al hC (by decide +kernel) hl ?_
  refine k_new (idx := 7) (ci := 1) (N := 8) (C := RX1) (T := TX1) (fs := [.null, .null, .null, .null, .int 0, .int 0, .int 0, .int 0]) (i1 := 84) (i2 := 85) (i3 := 56) hC rfl tyX1 tyX1_ok (by decide +kernel) (by decide +kernel) (by decide +kernel) (k_all 8 rfl) (Nat.le_of_ble_eq_true rfl) (Nat.le_of_ble_eq_true rfl) (by decide +kernel) (fun q5 => ?_)
  refine k_dup hC (by decide +kernel) ?_
  refine k_call (idx := 9) (i1 := 86) (i2 := 87) (i3 := 56) hC hz (k_c1 l D cs) (Or.inl (by decide +kernel)) (by decide +kernel) (by decide +kernel) (by decide +kernel) rfl ⟨by decide +kernel, by decide +kernel, by decide +kernel⟩ ⟨(Nat.le_of_ble_eq_true rfl), (Nat.le_of_ble_eq_true rfl)⟩ (Nat.le_of_ble_eq_true rfl) (by decide +kernel) ⟨(Nat.le_of_ble_eq_true rfl), (Nat.le_of_ble_eq_true rfl)⟩ (fun u9 => ?_)
  refine k_as (ws' := [(h, .inr (0, [.null, .null, .null, .int 0])), (q5, .inr (1, [.ref (u9 1), .ref (u9 2), .ref (u9 3), .ref (u9 4), .int 0, .int 20, .int 20, .int 20])), ((u9 1), .inl (cs.1, 8, .inl (fun _ => 0))), ((u9 2), .inl (cs.1, 8, .inl (fun _ => 0))), ((u9 3), .inl (cs.1, 8, .inl (fun _ => 0))), ((u9 4), .inl (cs.1, 8, .inl (fun _ => 0)))]) rfl ?_
  refine k_putF (idx := 10) (ci := 0) (C := RX0) (T := TX0) (N := 4) (i1 := 166) hC hin rfl tyX0 tyX0_ok nmX0 0 rfl 0 (by decide) (by decide +kernel) rfl rfl rfl rfl (Nat.le_of_ble_eq_true rfl) (by decide +kernel) ?_
  refine k_as (ws' := [(h, .inr (0, [.ref q5, .null, .null, .int 0])), (q5, .inr (1, [.ref (u9 1), .ref (u9 2), .ref (u9 3), .ref (u9 4), .int 0, .int 20, .int 20, .int 20])), ((u9 1), .inl (cs.1, 8, .inl (fun _ => 0))), ((u9 2), .inl (cs.1, 8, .inl (fun _ => 0))), ((u9 3), .inl (cs.1, 8, .inl (fun _ => 0))), ((u9 4), .inl (cs.1, 8, .inl (fun _ => 0)))]) rfl ?_
  refine k_al hC (by decide +kernel) hl ?_
  refine k_new (idx := 16) (ci := 9) (N := 3) (C := RX9) (T := TX9) (fs := [.null, .null, .int 0]) (i1 := 125) (i2 := 126) (i3 := 57) hC rfl tyX9 tyX9_ok (by decide +kernel) (by decide +kernel) (by decide +kernel) (k_all 3 rfl) (Nat.le_of_ble_eq_true rfl) (Nat.le_of_ble_eq_true rfl) (by decide +kernel) (fun q16 => ?_)
  refine k_dup hC (by decide +kernel) ?_
  refine k_call (idx := 18) (i1 := 127) (i2 := 128) (i3 := 57) hC hz (k_c9 l D cs) (Or.inl (by decide +kernel)) (by decide +kernel) (by decide +kernel) (by decide +kernel) rfl ⟨by decide +kernel, by decide +kernel, by decide +kernel⟩ ⟨(Nat.le_of_ble_eq_true rfl), (Nat.le_of_ble_eq_true rfl)⟩ (Nat.le_of_ble_eq_true rfl) (by decide +kernel) ⟨(Nat.le_of_ble_eq_true rfl), (Nat.le_of_ble_eq_true rfl)⟩ (fun u20 => ?_)
  refine k_as (ws' := [(h, .inr (0, [.ref q5, .null, .null, .int 0])), (q5, .inr (1, [.ref (u9 1), .ref (u9 2), .ref (u9 3), .ref (u9 4), .int 0, .int 20, .int 20, .int 20])), ((u9 1), .inl (cs.1, 8, .inl (fun _ => 0))), ((u9 2), .inl (cs.1, 8, .inl (fun _ => 0))), ((u9 3), .inl (cs.1, 8, .inl (fun _ => 0))), ((u9 4), .inl (cs.1, 8, .inl (fun _ => 0))), (q16, .inr (9, [.ref (u20 1), .ref (u20 2), .int 0])), ((u20 1), .inl (cs.1, 8, .inl (fun _ => 0))), ((u20 2), .inl (cs.1, 8, .inl (fun _ => 0)))]) rfl ?_
  refine k_putF (idx := 19) (ci := 0) (C := RX0) (T := TX0) (N := 4) (i1 := 170) hC hin rfl tyX0 tyX0_ok nmX0 0 rfl 1 (by decide) (by decide +kernel) rfl rfl rfl rfl (Nat.le_of_ble_eq_true rfl) (by decide +kernel) ?_
  refine k_as (ws' := [(h, .inr (0, [.ref q5, .ref q16, .null, .int 0])), (q5, .inr (1, [.ref (u9 1), .ref (u9 2), .ref (u9 3), .ref (u9 4), .int 0, .int 20, .int 20, .int 20])), ((u9 1), .inl (cs.1, 8, .inl (fun _ => 0))), ((u9 2), .inl (cs.1, 8, .inl (fun _ => 0))), ((u9 3), .inl (cs.1, 8, .inl (fun _ => 0))), ((u9 4), .inl (cs.1, 8, .inl (fun _ => 0))), (q16, .inr (9, [.ref (u20 1), .ref (u20 2), .int 0])), ((u20 1), .inl (cs.1, 8, .inl (fun _ => 0))), ((u20 2), .inl (cs.1, 8, .inl (fun _ => 0)))]) rfl ?_
  refine k_al hC (by decide +kernel) hl ?_
  refine k_new (idx := 23) (ci := 6) (N := 4) (C := RX6) (T := TX6) (fs := [.null, .null, .null, .int 0]) (i1 := 146) (i2 := 147) (i3 := 58) hC rfl tyX6 tyX6_ok (by decide +kernel) (by decide +kernel) (by decide +kernel) (k_all 4 rfl) (Nat.le_of_ble_eq_true rfl) (Nat.le_of_ble_eq_true rfl) (by decide +kernel) (fun q27 => ?_)
  refine k_dup hC (by decide +kernel) ?_
  refine k_call (idx := 25) (i1 := 148) (i2 := 149) (i3 := 58) hC hz (k_c6 l D cs) (Or.inl (by decide +kernel)) (by decide +kernel) (by decide +kernel) (by decide +kernel) rfl ⟨by decide +kernel, by decide +kernel, by decide +kernel⟩ ⟨(Nat.le_of_ble_eq_true rfl), (Nat.le_of_ble_eq_true rfl)⟩ (Nat.le_of_ble_eq_true rfl) (by decide +kernel) ⟨(Nat.le_of_ble_eq_true rfl), (Nat.le_of_ble_eq_true rfl)⟩ (fun u31 => ?_)
  refine k_as (ws' := [(h, .inr (0, [.ref q5, .ref q16, .null, .int 0])), (q5, .inr (1, [.ref (u9 1), .ref (u9 2), .ref (u9 3), .ref (u9 4), .int 0, .int 20, .int 20, .int 20])), ((u9 1), .inl (cs.1, 8, .inl (fun _ => 0))), ((u9 2), .inl (cs.1, 8, .inl (fun _ => 0))), ((u9 3), .inl (cs.1, 8, .inl (fun _ => 0))), ((u9 4), .inl (cs.1, 8, .inl (fun _ => 0))), (q16, .inr (9, [.ref (u20 1), .ref (u20 2), .int 0])), ((u20 1), .inl (cs.1, 8, .inl (fun _ => 0))), ((u20 2), .inl (cs.1, 8, .inl (fun _ => 0))), (q27, .inr (6, [.ref (u31 1), .ref (u31 2), .ref (u31 3), .int 0])), ((u31 1), .inl (cs.1, 8, .inl (fun _ => 0))), ((u31 2), .inl (cs.1, 8, .inl (fun _ => 0))), ((u31 3), .inl (cs.1, 8, .inl (fun _ => 0)))]) rfl ?_
  refine k_putF (idx := 26) (ci := 0) (C := RX0) (T := TX0) (N := 4) (i1 := 174) hC hin rfl tyX0 tyX0_ok nmX0 0 rfl 2 (by decide) (by decide +kernel) rfl rfl rfl rfl (Nat.le_of_ble_eq_true rfl) (by decide +kernel) ?_
  refine k_as (ws' := [(h, .inr (0, [.ref q5, .ref q16, .ref q27, .int 0])), (q5, .inr (1, [.ref (u9 1), .ref (u9 2), .ref (u9 3), .ref (u9 4), .int 0, .int 20, .int 20, .int 20])), ((u9 1), .inl (cs.1, 8, .inl (fun _ => 0))), ((u9 2), .inl (cs.1, 8, .inl (fun _ => 0))), ((u9 3), .inl (cs.1, 8, .inl (fun _ => 0))), ((u9 4), .inl (cs.1, 8, .inl (fun _ => 0))), (q16, .inr (9, [.ref (u20 1), .ref (u20 2), .int 0])), ((u20 1), .inl (cs.1, 8, .inl (fun _ => 0))), ((u20 2), .inl (cs.1, 8, .inl (fun _ => 0))), (q27, .inr (6, [.ref (u31 1), .ref (u31 2), .ref (u31 3), .int 0])), ((u31 1), .inl (cs.1, 8, .inl (fun _ => 0))), ((u31 2), .inl (cs.1, 8, .inl (fun _ => 0))), ((u31 3), .inl (cs.1, 8, .inl (fun _ => 0)))]) rfl ?_
  refine k_al hC (by decide +kernel) hl ?_
  refine k_ic (n := 0) (v := 0) hC (by decide +kernel) (by decide) ?_
  refine k_put (idx := 30) (ci := 0) (C := RX0) (T := TX0) (N := 4) (i1 := 177) hC rfl tyX0 tyX0_ok nmX0 0 rfl 3 (by decide) (by decide +kernel) rfl rfl rfl (Nat.le_of_ble_eq_true rfl) (by decide +kernel) ?_
  refine k_as (ws' := [(h, .inr (0, [.ref q5, .ref q16, .ref q27, .int 0])), (q5, .inr (1, [.ref (u9 1), .ref (u9 2), .ref (u9 3), .ref (u9 4), .int 0, .int 20, .int 20, .int 20])), ((u9 1), .inl (cs.1, 8, .inl (fun _ => 0))), ((u9 2), .inl (cs.1, 8, .inl (fun _ => 0))), ((u9 3), .inl (cs.1, 8, .inl (fun _ => 0))), ((u9 4), .inl (cs.1, 8, .inl (fun _ => 0))), (q16, .inr (9, [.ref (u20 1), .ref (u20 2), .int 0])), ((u20 1), .inl (cs.1, 8, .inl (fun _ => 0))), ((u20 2), .inl (cs.1, 8, .inl (fun _ => 0))), (q27, .inr (6, [.ref (u31 1), .ref (u31 2), .ref (u31 3), .int 0])), ((u31 1), .inl (cs.1, 8, .inl (fun _ => 0))), ((u31 2), .inl (cs.1, 8, .inl (fun _ => 0))), ((u31 3), .inl (cs.1, 8, .inl (fun _ => 0)))]) rfl ?_
  exact hret (fun j => [h, q5, (u9 1), (u9 2), (u9 3), (u9 4), q16, (u20 1), (u20 2), q27, (u31 1), (u31 2), (u31 3)].getD j 0) _ (by decide +kernel)
def k_mk5 (cs : mj_Cs) (h : Nat) (u : Nat → Nat) : va_W := [(h, .inr (5, [.ref (u 1), .int 0])), ((u 1), .inl (cs.1, 60, .inl (fun _ => 0)))]
set_option maxHeartbeats 4000000 in
set_option maxRecDepth 100000 in
theorem k_c5 (l : Launch) (D : va_G) (cs : mj_Cs) : k_Ok l D cs 5 yX5_init cX5_init 1 1 60 [.null, .int 0] (k_mk5 cs) := by
  refine k_enter (by decide +kernel) rfl (fun h p e s m args below meth c A ls Q hC hin hz hl hret => ?_)
  refine k_al hC (by decide +kernel) hl ?_
  refine k_obj (idx := 3) (i1 := 194) (i2 := 76) (i3 := 77) hC (by decide +kernel) (by decide +kernel) (by decide +kernel) (by decide +kernel) hz (Nat.le_of_ble_eq_true rfl) (Nat.le_of_ble_eq_true rfl) ?_
  refine k_al hC (by decide +kernel) hl ?_
  refine k_bi (n := 60) (v := 60) hC (by decide +kernel) (by decide) ?_
  refine k_nai (N := 60) (i1 := 124) hC (by decide +kernel) (by decide) (by decide) (by decide) (Nat.le_of_ble_eq_true rfl) (Nat.le_of_ble_eq_true rfl) (by decide +kernel) (fun q7 => ?_)
  refine k_as (ws' := [(h, .inr (5, [.null, .int 0])), (q7, .inl (cs.1, 60, .inl (fun _ => 0)))]) rfl ?_
  refine k_putF (idx := 9) (ci := 5) (C := RX5) (T := TX5) (N := 2) (i1 := 195) hC hin rfl tyX5 tyX5_ok nmX5 0 rfl 0 (by decide) (by decide +kernel) rfl rfl rfl rfl (Nat.le_of_ble_eq_true rfl) (by decide +kernel) ?_
  refine k_as (ws' := [(h, .inr (5, [.ref q7, .int 0])), (q7, .inl (cs.1, 60, .inl (fun _ => 0)))]) rfl ?_
  refine k_al hC (by decide +kernel) hl ?_
  refine k_ic (n := 0) (v := 0) hC (by decide +kernel) (by decide) ?_
  refine k_put (idx := 15) (ci := 5) (C := RX5) (T := TX5) (N := 2) (i1 := 196) hC rfl tyX5 tyX5_ok nmX5 0 rfl 1 (by decide) (by decide +kernel) rfl rfl rfl (Nat.le_of_ble_eq_true rfl) (by decide +kernel) ?_
  refine k_as (ws' := [(h, .inr (5, [.ref q7, .int 0])), (q7, .inl (cs.1, 60, .inl (fun _ => 0)))]) rfl ?_
  exact hret (fun j => [h, q7].getD j 0) _ (by decide +kernel)
def k_mk2 (cs : mj_Cs) (h : Nat) (u : Nat → Nat) : va_W := [(h, .inr (2, [.int 0, .int 0, .int 0, .int 0]))]
set_option maxHeartbeats 4000000 in
set_option maxRecDepth 100000 in
theorem k_c2 (l : Launch) (D : va_G) (cs : mj_Cs) : k_Ok l D cs 2 yX2_init cX2_init 1 0 0 [.int 0, .int 0, .int 0, .int 0] (k_mk2 cs) := by
  refine k_enter (by decide +kernel) rfl (fun h p e s m args below meth c A ls Q hC hin hz hl hret => ?_)
  refine k_al hC (by decide +kernel) hl ?_
  refine k_obj (idx := 3) (i1 := 209) (i2 := 76) (i3 := 77) hC (by decide +kernel) (by decide +kernel) (by decide +kernel) (by decide +kernel) hz (Nat.le_of_ble_eq_true rfl) (Nat.le_of_ble_eq_true rfl) ?_
  exact hret (fun j => [h].getD j 0) _ (by decide +kernel)
def k_mk8 (cs : mj_Cs) (h : Nat) (u : Nat → Nat) : va_W := [(h, .inr (8, [.int 0, .int 0, .int 0]))]
set_option maxHeartbeats 4000000 in
set_option maxRecDepth 100000 in
theorem k_c8 (l : Launch) (D : va_G) (cs : mj_Cs) : k_Ok l D cs 8 yX8_init cX8_init 1 0 0 [.int 0, .int 0, .int 0] (k_mk8 cs) := by
  refine k_enter (by decide +kernel) rfl (fun h p e s m args below meth c A ls Q hC hin hz hl hret => ?_)
  refine k_al hC (by decide +kernel) hl ?_
  refine k_obj (idx := 3) (i1 := 234) (i2 := 76) (i3 := 77) hC (by decide +kernel) (by decide +kernel) (by decide +kernel) (by decide +kernel) hz (Nat.le_of_ble_eq_true rfl) (Nat.le_of_ble_eq_true rfl) ?_
  exact hret (fun j => [h].getD j 0) _ (by decide +kernel)
def k_mk3 (cs : mj_Cs) (h : Nat) (u : Nat → Nat) : va_W := [(h, .inr (3, [.ref (u 1), .int 0, .int 0])), ((u 1), .inl (cs.1, 256, .inl (fun _ => 0)))]
set_option maxHeartbeats 4000000 in
set_option maxRecDepth 100000 in
theorem k_c3 (l : Launch) (D : va_G) (cs : mj_Cs) : k_Ok l D cs 3 yX3_init cX3_init 1 1 256 [.null, .int 0, .int 0] (k_mk3 cs) := by
  refine k_enter (by decide +kernel) rfl (fun h p e s m args below meth c A ls Q hC hin hz hl hret => ?_)
  refine k_al hC (by decide +kernel) hl ?_
  refine k_obj (idx := 3) (i1 := 253) (i2 := 76) (i3 := 77) hC (by decide +kernel) (by decide +kernel) (by decide +kernel) (by decide +kernel) hz (Nat.le_of_ble_eq_true rfl) (Nat.le_of_ble_eq_true rfl) ?_
  refine k_al hC (by decide +kernel) hl ?_
  refine k_si (n := 256) (v := 256) hC (by decide +kernel) (by decide) ?_
  refine k_nai (N := 256) (i1 := 124) hC (by decide +kernel) (by decide) (by decide) (by decide) (Nat.le_of_ble_eq_true rfl) (Nat.le_of_ble_eq_true rfl) (by decide +kernel) (fun q8 => ?_)
  refine k_as (ws' := [(h, .inr (3, [.null, .int 0, .int 0])), (q8, .inl (cs.1, 256, .inl (fun _ => 0)))]) rfl ?_
  refine k_putF (idx := 9) (ci := 3) (C := RX3) (T := TX3) (N := 3) (i1 := 254) hC hin rfl tyX3 tyX3_ok nmX3 0 rfl 0 (by decide) (by decide +kernel) rfl rfl rfl rfl (Nat.le_of_ble_eq_true rfl) (by decide +kernel) ?_
  refine k_as (ws' := [(h, .inr (3, [.ref q8, .int 0, .int 0])), (q8, .inl (cs.1, 256, .inl (fun _ => 0)))]) rfl ?_
  exact hret (fun j => [h, q8].getD j 0) _ (by decide +kernel)
def k_mk4 (cs : mj_Cs) (h : Nat) (u : Nat → Nat) : va_W := [(h, .inr (4, [.ref (u 1), .int 0, .int 0])), ((u 1), .inl (cs.1, 24, .inl (fun _ => 0)))]
set_option maxHeartbeats 4000000 in
set_option maxRecDepth 100000 in
theorem k_c4 (l : Launch) (D : va_G) (cs : mj_Cs) : k_Ok l D cs 4 yX4_init cX4_init 1 1 24 [.null, .int 0, .int 0] (k_mk4 cs) := by
  refine k_enter (by decide +kernel) rfl (fun h p e s m args below meth c A ls Q hC hin hz hl hret => ?_)
  refine k_al hC (by decide +kernel) hl ?_
  refine k_obj (idx := 3) (i1 := 271) (i2 := 76) (i3 := 77) hC (by decide +kernel) (by decide +kernel) (by decide +kernel) (by decide +kernel) hz (Nat.le_of_ble_eq_true rfl) (Nat.le_of_ble_eq_true rfl) ?_
  refine k_al hC (by decide +kernel) hl ?_
  refine k_bi (n := 24) (v := 24) hC (by decide +kernel) (by decide) ?_
  refine k_nai (N := 24) (i1 := 124) hC (by decide +kernel) (by decide) (by decide) (by decide) (Nat.le_of_ble_eq_true rfl) (Nat.le_of_ble_eq_true rfl) (by decide +kernel) (fun q7 => ?_)
  refine k_as (ws' := [(h, .inr (4, [.null, .int 0, .int 0])), (q7, .inl (cs.1, 24, .inl (fun _ => 0)))]) rfl ?_
  refine k_putF (idx := 9) (ci := 4) (C := RX4) (T := TX4) (N := 3) (i1 := 272) hC hin rfl tyX4 tyX4_ok nmX4 0 rfl 0 (by decide) (by decide +kernel) rfl rfl rfl rfl (Nat.le_of_ble_eq_true rfl) (by decide +kernel) ?_
  refine k_as (ws' := [(h, .inr (4, [.ref q7, .int 0, .int 0])), (q7, .inl (cs.1, 24, .inl (fun _ => 0)))]) rfl ?_
  exact hret (fun j => [h, q7].getD j 0) _ (by decide +kernel)
def k_mk7 (cs : mj_Cs) (h : Nat) (u : Nat → Nat) : va_W := [(h, .inr (7, [.ref (u 1), .ref (u 2), .int 0, .int 0])), ((u 1), .inl (cs.1, 169, .inl (fun _ => 0))), ((u 2), .inl (cs.1, 169, .inl (fun _ => 0)))]
set_option maxHeartbeats 4000000 in
set_option maxRecDepth 100000 in
theorem k_c7 (l : Launch) (D : va_G) (cs : mj_Cs) : k_Ok l D cs 7 yX7_init cX7_init 1 2 338 [.null, .null, .int 0, .int 0] (k_mk7 cs) := by
  refine k_enter (by decide +kernel) rfl (fun h p e s m args below meth c A ls Q hC hin hz hl hret => ?_)
  refine k_al hC (by decide +kernel) hl ?_
  refine k_obj (idx := 5) (i1 := 289) (i2 := 76) (i3 := 77) hC (by decide +kernel) (by decide +kernel) (by decide +kernel) (by decide +kernel) hz (Nat.le_of_ble_eq_true rfl) (Nat.le_of_ble_eq_true rfl) ?_
  refine k_al hC (by decide +kernel) hl ?_
  refine k_si (n := 169) (v := 169) hC (by decide +kernel) (by decide) ?_
  refine k_nai (N := 169) (i1 := 124) hC (by decide +kernel) (by decide) (by decide) (by decide) (Nat.le_of_ble_eq_true rfl) (Nat.le_of_ble_eq_true rfl) (by decide +kernel) (fun q8 => ?_)
  refine k_as (ws' := [(h, .inr (7, [.null, .null, .int 0, .int 0])), (q8, .inl (cs.1, 169, .inl (fun _ => 0)))]) rfl ?_
  refine k_putF (idx := 11) (ci := 7) (C := RX7) (T := TX7) (N := 4) (i1 := 290) hC hin rfl tyX7 tyX7_ok nmX7 0 rfl 0 (by decide) (by decide +kernel) rfl rfl rfl rfl (Nat.le_of_ble_eq_true rfl) (by decide +kernel) ?_
  refine k_as (ws' := [(h, .inr (7, [.ref q8, .null, .int 0, .int 0])), (q8, .inl (cs.1, 169, .inl (fun _ => 0)))]) rfl ?_
  refine k_al hC (by decide +kernel) hl ?_
  refine k_si (n := 169) (v := 169) hC (by decide +kernel) (by decide) ?_
  refine k_nai (N := 169) (i1 := 124) hC (by decide +kernel) (by decide) (by decide) (by decide) (Nat.le_of_ble_eq_true rfl) (Nat.le_of_ble_eq_true rfl) (by decide +kernel) (fun q17 => ?_)
  refine k_as (ws' := [(h, .inr (7, [.ref q8, .null, .int 0, .int 0])), (q8, .inl (cs.1, 169, .inl (fun _ => 0))), (q17, .inl (cs.1, 169, .inl (fun _ => 0)))]) rfl ?_
  refine k_putF (idx := 15) (ci := 7) (C := RX7) (T := TX7) (N := 4) (i1 := 291) hC hin rfl tyX7 tyX7_ok nmX7 0 rfl 1 (by decide) (by decide +kernel) rfl rfl rfl rfl (Nat.le_of_ble_eq_true rfl) (by decide +kernel) ?_
  refine k_as (ws' := [(h, .inr (7, [.ref q8, .ref q17, .int 0, .int 0])), (q8, .inl (cs.1, 169, .inl (fun _ => 0))), (q17, .inl (cs.1, 169, .inl (fun _ => 0)))]) rfl ?_
  exact hret (fun j => [h, q8, q17].getD j 0) _ (by decide +kernel)
def k_mk10 (cs : mj_Cs) (h : Nat) (u : Nat → Nat) : va_W := [(h, .inr (10, [.int 0]))]
set_option maxHeartbeats 4000000 in
set_option maxRecDepth 100000 in
theorem k_c10 (l : Launch) (D : va_G) (cs : mj_Cs) : k_Ok l D cs 10 yX10_init cX10_init 1 0 0 [.int 0] (k_mk10 cs) := by
  refine k_enter (by decide +kernel) rfl (fun h p e s m args below meth c A ls Q hC hin hz hl hret => ?_)
  refine k_al hC (by decide +kernel) hl ?_
  refine k_obj (idx := 3) (i1 := 308) (i2 := 76) (i3 := 77) hC (by decide +kernel) (by decide +kernel) (by decide +kernel) (by decide +kernel) hz (Nat.le_of_ble_eq_true rfl) (Nat.le_of_ble_eq_true rfl) ?_
  exact hret (fun j => [h].getD j 0) _ (by decide +kernel)
