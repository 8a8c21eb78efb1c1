/-! from the law's entry to its loop -/
theorem k_inst : ∀ (ci : Nat) (q : vw_C), vwCl[ci]? = some q → Cond.instantiable q.1 q.2.2 ∈ mj_tb := by
  intro ci q h
  match ci, h with
  | 0, h => cases h; exact mj_at_mem (i := 79) (by decide +kernel)
  | 1, h => cases h; exact mj_at_mem (i := 85) (by decide +kernel)
  | 2, h => cases h; exact mj_at_mem (i := 205) (by decide +kernel)
  | 3, h => cases h; exact mj_at_mem (i := 249) (by decide +kernel)
  | 4, h => cases h; exact mj_at_mem (i := 267) (by decide +kernel)
  | 5, h => cases h; exact mj_at_mem (i := 190) (by decide +kernel)
  | 6, h => cases h; exact mj_at_mem (i := 147) (by decide +kernel)
  | 7, h => cases h; exact mj_at_mem (i := 285) (by decide +kernel)
  | 8, h => cases h; exact mj_at_mem (i := 230) (by decide +kernel)
  | 9, h => cases h; exact mj_at_mem (i := 126) (by decide +kernel)
  | 10, h => cases h; exact mj_at_mem (i := 304) (by decide +kernel)
  | 11, h => cases h; exact mj_at_mem (i := 71) (by decide +kernel)
  | 12, h => cases h; exact mj_at_mem (i := 836) (by decide +kernel)
  | n + 13, h => simp [vwCl] at h
theorem k_known {s : State} {args : Array Value} (hts : ∀ w ∈ mj_tb, w.before args s = true) : ∃ D : va_G, ∀ (k : Nat) (q : vw_C), vwCl[k]? = some q → u_Kn s q.1 q.2.1 q.2.2 (D.1 k) (D.2 k) := by
  have h1 : ∀ k : Nat, ∃ x : ClassId × (Nat → Nat), ∀ q : vw_C, vwCl[k]? = some q → u_Kn s q.1 q.2.1 q.2.2 x.1 x.2 := by
    intro k
    cases hk : vwCl[k]? with
    | none =>
      obtain ⟨c0, i0, -⟩ := u_known (C := RX0) (T := TX0) (N := 4) (n := 4) hts (mj_uin 0 _ rfl) (hts _ (k_inst 0 _ rfl))
      exact ⟨(c0, i0), fun q hq => by cases hq⟩
    | some q =>
      obtain ⟨c0, i0, h9⟩ := u_known (C := q.1) (T := q.2.1) (N := q.2.2) (n := q.2.2) hts (mj_uin k q hk) (hts _ (k_inst k q hk))
      exact ⟨(c0, i0), fun q' hq => by cases hq; exact h9⟩
  obtain ⟨f, hf⟩ := Classical.axiomOfChoice h1
  exact ⟨(fun k => (f k).1, fun k => (f k).2), fun k q hq => hf k q hq⟩
theorem k_cls {s : State} {args : Array Value} {D : va_G} (hts : ∀ w ∈ mj_tb, w.before args s = true) (hAO : va_AO RX0 s) (hD : ∀ (k : Nat) (q : vw_C), vwCl[k]? = some q → u_Kn s q.1 q.2.1 q.2.2 (D.1 k) (D.2 k)) : ∃ cs : mj_Cs, va_K D vwCl (mj_ty cs) s := by
  obtain ⟨c1, k1, p1, e1, f1, g1⟩ := Cond.arrayClass_spec (hts (.arrayClass .int) (mj_at_mem (i := 124) (by decide +kernel)))
  obtain ⟨c2, k2, p2, e2, f2, g2⟩ := Cond.arrayClass_spec (hts (.arrayClass .boolean) (mj_at_mem (i := 972) (by decide +kernel)))
  obtain ⟨c3, k3, p3, e3, f3, g3⟩ := Cond.arrayClass_spec (hts (.arrayClass .long) (mj_at_mem (i := 971) (by decide +kernel)))
  obtain ⟨p4, c4, k4, a4, b4, f4, g4, e4⟩ := Cond.arrayOver_spec hAO
  refine ⟨(c1, c2, c3, c4), hD, fun k q hk => ?_⟩
  match k, hk with
  | 0, hk => cases hk; exact ⟨fun n z => ⟨fun k h => (by cases h), k1, f1, p1, g1⟩, e1⟩
  | 1, hk => cases hk; exact ⟨fun n z => ⟨fun k h => (by cases h), k2, f2, p2, g2⟩, e2⟩
  | 2, hk => cases hk; exact ⟨fun n z => ⟨fun k h => (by cases h), k3, f3, p3, g3⟩, e3⟩
  | 3, hk => cases hk; exact ⟨fun n z => ⟨fun k h => (by cases h), k4, f4, p4, g4⟩, k4, p4, f4, g4, a4, e4⟩
  | n + 4, hk => cases hk
theorem k_stat {s : State} {b : Nat} {A : Nat → Prop} (hts : ∀ w ∈ lw_tbl, w.before #[Value.ref b] s = true) (hgv : (Jvm.Cond.and given_1 narrow_1).before #[Value.ref b] s = true) (hA : ∀ a : Nat, a < s.heap.size → ¬ A a) : ∃ tE tN : Nat, ∀ x : Nat × Nat × (Int → Int), mj_St A (tE, tN, x) s := by
  have hs := flat_of_before _ hgv
  obtain ⟨tE, hE, hTE⟩ := va_Tof (tm := .static "StandingLine" "EAST_BY" "[I") (ty := .int) (N := 4) (f := fun j => .int (Int32.ofInt (mj_east (j : Int)))) (A := A) (by decide) (hs _ (by decide +kernel)) (va_eqt (hs _ (by decide +kernel))) (fun j hj => by
    rcases (show j = 0 ∨ j = 1 ∨ j = 2 ∨ j = 3 by omega) with rfl | rfl | rfl | rfl
    · exact va_eqt (hs _ (by decide +kernel))
    · exact va_eqt (hs _ (by decide +kernel))
    · exact va_eqt (hs _ (by decide +kernel))
    · exact va_eqt (hs _ (by decide +kernel))) hA
  obtain ⟨tN, hN, hTN⟩ := va_Tof (tm := .static "StandingLine" "NORTH_BY" "[I") (ty := .int) (N := 4) (f := fun j => .int (Int32.ofInt (mj_north (j : Int)))) (A := A) (by decide) (hs _ (by decide +kernel)) (va_eqt (hs _ (by decide +kernel))) (fun j hj => by
    rcases (show j = 0 ∨ j = 1 ∨ j = 2 ∨ j = 3 by omega) with rfl | rfl | rfl | rfl
    · exact va_eqt (hs _ (by decide +kernel))
    · exact va_eqt (hs _ (by decide +kernel))
    · exact va_eqt (hs _ (by decide +kernel))
    · exact va_eqt (hs _ (by decide +kernel))) hA
  refine ⟨tE, tN, fun x => ⟨va_Zof (hts _ (mj_atN_mem (i := 497) (by decide +kernel))) (hts _ (mj_atN_mem (i := 54) (by decide +kernel))) hE hA, hTE, va_Zof (hts _ (mj_atN_mem (i := 499) (by decide +kernel))) (hts _ (mj_atN_mem (i := 54) (by decide +kernel))) hN hA, hTN, fun w hw hi => va_Nw.of (mj_isN_tab hi) (hts w hw)⟩⟩
theorem k_sto {p : Program} {l : Launch} {e : Env} {R : Room} {s : State} {m : MethodId} {args : Array Value} {below : List Frame} {meth : Method} {c : Code} {D : va_G} {cs : mj_Cs} {A : Nat → Prop} {Q : State → Prop} {own : String} {cc : ByteArray} {nL : Nat} {cells slots pc : Nat} {ls : Array Slot} {ws : va_W} {st : List Value} {x : Nat} {k : Fin 4} {i : Nat} {lv lv' : List (Nat × Value)} (hC : k_Cx p s m args c D cs A own cc nL) (hd : decode cc pc = .ok (.astore_n k, 1)) (hi : (k : Nat) = i) (h : lv_has ls nL lv) (hn : i < nL) (hl : (i, Value.ref x) :: lv.filter (fun q => !(q.1 == i) && !(q.1 + 1 == i && q.2.category == 2)) = lv')
    (kk : ∀ ls' : Array Slot, lv_has ls' nL lv' → k_G p l e R s m args below meth c D A Q ls' ws cells slots (pc + 1) st) : k_G p l e R s m args below meth c D A Q ls ws cells slots pc (.ref x :: st) :=
  fun H locs hP hD hS => lv_astore_n hC.1 hC.2.1 hd hi h hn hl (fun ls' h' => kk ls' h' H locs hP hD hS)
/-- what holds at the law's entry -/
def lw_At (p : Program) (s : State) (m : MethodId) (meth : Method) (c : Code) (b L : Nat) (xs : Nat → Int32) : Prop :=
  p.tables.exec = Jvm.exec ∧ c.code = code ∧ meth.sig.returnType = ret ∧ c.maxLocals = 4 ∧ s.vm.findClass R_law = some m.cls ∧ (∀ w ∈ lw_tbl, w.before #[Value.ref b] s = true) ∧ va_X b L xs s s.heap ∧ b < s.heap.size ∧ meth.locks = false ∧ (Jvm.Cond.and given_1 narrow_1).before #[Value.ref b] s = true
theorem lw_first {n L : Nat} {sa : mj_Sa} (hL : L ≤ 384) {σ : mj_W} (hR : q_Rel σ 58) : lw_W (n + 10) sa 16 [some (rV 27 L 0), some (rV 11 0 0), some (rV 12 0 58), none] [] σ := by
  refine lw_run k_Lh [(18, [true, true, true, true])] 600 ?_
  exact lw_loop hL (L + 1) 0 σ (by omega) (by omega) (by omega) hR
set_option maxHeartbeats 4000000 in
set_option maxRecDepth 100000 in
theorem whole_start {p : Program} {e : Env} {s : State} {m : MethodId} {below : List Frame} {meth : Method} {c : Code} (l : Launch) {b L : Nat} {xs : Nat → Int32} (hL : L ≤ 384) (C0 : lw_At p s m meth c b L xs) : W p l e room_1 s m #[Value.ref b] below meth c s.heap [] 0 0 (lw_Z below #[Value.ref b] s) (entryFrame m ([Value.ref b] : List Value).toArray 4) := by
  obtain ⟨hx, hb, hr, hml, hown, hts, hX, hbl, hlocks, hgv⟩ := C0
  have htb : ∀ w ∈ mj_tb, w.before #[Value.ref b] s = true := fun w hw => hts w (List.mem_filter.mp hw).1
  have hAO : va_AO RX0 s := va_AO.of (hts _ (mj_atN_mem (i := 188) (by decide +kernel)))
  obtain ⟨D, hKn⟩ := k_known htb
  obtain ⟨cs, hK⟩ := k_cls htb hAO hKn
  obtain ⟨tE, tN, hSt⟩ := k_stat (A := fun q : Nat => s.heap.size ≤ q) hts hgv (fun a h => Nat.not_le.mpr h)
  have hC : k_Cx p s m #[Value.ref b] c D cs (fun q : Nat => s.heap.size ≤ q) RL code 4 := ⟨hx, hb, hml, hown, htb, hK, fun _ h => h, (hSt (0, 0, fun _ => 0)).2.2.2.2, hAO⟩
  have hl := lv_entry ([.ref b]) (n := 4) (Nat.le_of_ble_eq_true rfl)
  rw [lg_entry_eq]
  generalize (lg_sl ([.ref b]) ++ List.replicate (4 - (lg_sl ([.ref b])).length) Slot.unset).toArray = ls at hl ⊢
  have hl : lv_has ls 4 [(0, .ref b)] := hl
  have main : k_G p l e room_1 s m #[Value.ref b] below meth c D (fun q : Nat => s.heap.size ≤ q) (lw_Z below #[Value.ref b] s) ls [] 0 0 0 [] := by
    refine k_new (idx := 7) (ci := 11) (N := 10) (C := RX11) (T := TX11) (fs := [.null, .null, .null, .null, .null, .null, .null, .null, .null, .null]) (i1 := 70) (i2 := 71) (i3 := 54) hC rfl tyX11 tyX11_ok (by decide +kernel) (by decide +kernel) (by decide +kernel) (k_all 10 rfl) (Nat.le_of_ble_eq_true rfl) (Nat.le_of_ble_eq_true rfl) (by decide +kernel) (fun h => ?_)
    refine k_dup hC (by decide +kernel) ?_
    refine k_call (idx := 9) (i1 := 72) (i2 := 73) (i3 := 54) hC hl.1 (k_c11 l D cs) (Or.inr (by decide +kernel)) (by decide +kernel) (by decide +kernel) (by decide +kernel) rfl ⟨by decide +kernel, by decide +kernel, by decide +kernel⟩ ⟨(Nat.le_of_ble_eq_true rfl), (Nat.le_of_ble_eq_true rfl)⟩ (Nat.le_of_ble_eq_true rfl) (by decide +kernel) ⟨(Nat.le_of_ble_eq_true rfl), (Nat.le_of_ble_eq_true rfl)⟩ (fun u => ?_)
    refine k_sto (k := 1) (i := 1) (lv' := [(1, .ref h), (0, .ref b)]) hC (by decide +kernel) rfl hl (by decide) rfl (fun ls1 hl1 => ?_)
    refine k_new (idx := 10) (ci := 12) (N := 43) (C := RX12) (T := TX12) (fs := [.int 0, .null, .null, .null, .null, .int 0, .int 0, .int 0, .int 0, .null, .null, .null, .null, .null, .int 0, .null, .int 0, .null, .null, .null, .null, .int 0, .int 0, .null, .int 0, .int 0, .null, .null, .int 0, .int 0, .int 0, .int 0, .null, .null, .int 0, .int 0, .null, .null, .null, .null, .null, .int 0, .int 0]) (i1 := 835) (i2 := 836) (i3 := 66) hC rfl tyX12 tyX12_ok (by decide +kernel) (by decide +kernel) (by decide +kernel) (k_all 43 rfl) (Nat.le_of_ble_eq_true rfl) (Nat.le_of_ble_eq_true rfl) (by decide +kernel) (fun g => ?_)
    refine k_dup hC (by decide +kernel) ?_
    refine k_call (idx := 12) (i1 := 837) (i2 := 838) (i3 := 66) hC hl1.1 (k_c12 l D cs) (Or.inr (by decide +kernel)) (by decide +kernel) (by decide +kernel) (by decide +kernel) rfl ⟨by decide +kernel, by decide +kernel, by decide +kernel⟩ ⟨(Nat.le_of_ble_eq_true rfl), (Nat.le_of_ble_eq_true rfl)⟩ (Nat.le_of_ble_eq_true rfl) (by decide +kernel) ⟨(Nat.le_of_ble_eq_true rfl), (Nat.le_of_ble_eq_true rfl)⟩ (fun v => ?_)
    refine k_as (k_ws cs h u g v) ?_
    refine k_sto (k := 2) (i := 2) (lv' := [(2, .ref g), (1, .ref h), (0, .ref b)]) hC (by decide +kernel) rfl hl1 (by decide) rfl (fun ls2 hl2 => ?_)
    intro H locs hP hD hS
    have hX2 : va_X b L (fun j : Nat => Int32.ofInt ((fun i : Int => (xs i.toNat).toInt) (j : Int))) s s.heap := by
      have e9 : (fun j : Nat => Int32.ofInt ((fun i : Int => (xs i.toNat).toInt) (j : Int))) = xs := by
        funext j
        show Int32.ofInt (xs ((j : Int).toNat)).toInt = xs j
        rw [Int32.ofInt_toInt, Int.toNat_natCast]
      rw [e9]
      exact hX
    refine lw_first (n := 0) (L := L) (sa := (tE, tN, b, L, fun i => (xs i.toNat).toInt)) hL k_relσ p l e s m below meth c D cs (fun q : Nat => s.heap.size ≤ q) (k_ad h u g v) _ _ ⟨hx, hb, hml, hown, htb, hK, fun σ' => k_wsD hD σ', hSt _, ⟨hX2, hbl, Nat.not_le.mpr hbl, fun i => mj_rI _, by show L < 2 ^ 31; omega⟩, (Nat.le_of_ble_eq_true rfl), (Nat.le_of_ble_eq_true rfl), (Nat.le_of_ble_eq_true rfl), (Nat.le_of_ble_eq_true rfl)⟩ (fun _ h => h) hr hlocks H locs ls2 hP hS k_rgσ ⟨hl2.1, hl2.2.1, fun i v9 hv => ?_⟩ (fun v9 hv => by cases hv)
    match i, hv with
    | 0, hv => cases hv; exact ⟨lv_at hl2 2 rfl, Or.inr (Or.inr (Or.inr ⟨rfl, rfl⟩))⟩
    | 1, hv => cases hv; exact ⟨lv_at hl2 1 rfl, Or.inl ⟨by decide, by decide, rfl⟩⟩
    | 2, hv => cases hv; exact ⟨lv_at hl2 0 rfl, Or.inl ⟨by decide, by decide, rfl⟩⟩
    | 3, hv => cases hv
    | n + 4, hv => cases hv
  exact main s.heap [] (fun k q h => by simp at h) ⟨fun i j p q h => by simp at h, fun k q h => by simp at h⟩ va_S.rf
