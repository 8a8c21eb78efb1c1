/-! constructors: a row for each kind of instruction, over a world that grows at its end -/
section KC
variable {p : Program} {l : Launch} {e : Env} {R : Room} {s : State} {m : MethodId} {args : Array Value} {below : List Frame} {meth : Method} {c : Code} {D : va_G} {cs : mj_Cs} {A : Nat → Prop} {Q : State → Prop} {own : String} {cc : ByteArray} {nL : Nat} {cells slots pc : Nat} {ls : Array Slot} {ws : va_W} {st : List Value}
def k_Cx (p : Program) (s : State) (m : MethodId) (args : Array Value) (c : Code) (D : va_G) (cs : mj_Cs) (A : Nat → Prop) (own : String) (cc : ByteArray) (nL : Nat) : Prop := p.tables.exec = Jvm.exec ∧ c.code = cc ∧ c.maxLocals = nL ∧ s.vm.findClass own = some m.cls ∧ (∀ w ∈ mj_tb, w.before args s = true) ∧ va_K D vwCl (mj_ty cs) s ∧ (∀ q : Nat, s.heap.size ≤ q → A q) ∧ mj_Ns s ∧ va_AO RX0 s
def k_G (p : Program) (l : Launch) (e : Env) (R : Room) (s : State) (m : MethodId) (args : Array Value) (below : List Frame) (meth : Method) (c : Code) (D : va_G) (A : Nat → Prop) (Q : State → Prop) (ls : Array Slot) (ws : va_W) (cells slots pc : Nat) (st : List Value) : Prop := ∀ (H : Heap) (locs : List Loc), va_P D vwCl ws H → va_D A ws → va_S A s.heap H locs → W p l e R s m args below meth c H locs cells slots Q (F0 m pc ls st)
theorem k_al {x : Nat} (hC : k_Cx p s m args c D cs A own cc nL) (hd : decode cc pc = .ok (.aload_n 0, 1)) (hl : ls[0]? = some (.val (.ref x))) (k : k_G p l e R s m args below meth c D A Q ls ws cells slots (pc + 1) (.ref x :: st)) : k_G p l e R s m args below meth c D A Q ls ws cells slots pc st :=
  fun H locs hP hD hS => lv_aload_n hC.1 hC.2.1 hd rfl hl (k H locs hP hD hS)
theorem k_dup {x : Nat} (hC : k_Cx p s m args c D cs A own cc nL) (hd : decode cc pc = .ok (.dup, 1)) (k : k_G p l e R s m args below meth c D A Q ls ws cells slots (pc + 1) (.ref x :: .ref x :: st)) : k_G p l e R s m args below meth c D A Q ls ws cells slots pc (.ref x :: st) :=
  fun H locs hP hD hS => lv_dup hC.1 hC.2.1 hd rfl (k H locs hP hD hS)
theorem k_ic {n : Int} {v : Int32} (hC : k_Cx p s m args c D cs A own cc nL) (hd : decode cc pc = .ok (.iconst n, 1)) (hv : Int32.ofInt n = v) (k : k_G p l e R s m args below meth c D A Q ls ws cells slots (pc + 1) (.int v :: st)) : k_G p l e R s m args below meth c D A Q ls ws cells slots pc st :=
  fun H locs hP hD hS => lv_iconst hC.1 hC.2.1 hd hv (k H locs hP hD hS)
theorem k_bi {n : Int} {v : Int32} (hC : k_Cx p s m args c D cs A own cc nL) (hd : decode cc pc = .ok (.bipush n, 2)) (hv : (Int8.ofInt n).toInt32 = v) (k : k_G p l e R s m args below meth c D A Q ls ws cells slots (pc + 2) (.int v :: st)) : k_G p l e R s m args below meth c D A Q ls ws cells slots pc st :=
  fun H locs hP hD hS => lv_bipush hC.1 hC.2.1 hd hv (k H locs hP hD hS)
theorem k_si {n : Int} {v : Int32} (hC : k_Cx p s m args c D cs A own cc nL) (hd : decode cc pc = .ok (.sipush n, 3)) (hv : (Int16.ofInt n).toInt32 = v) (k : k_G p l e R s m args below meth c D A Q ls ws cells slots (pc + 3) (.int v :: st)) : k_G p l e R s m args below meth c D A Q ls ws cells slots pc st :=
  fun H locs hP hD hS => lv_sipush hC.1 hC.2.1 hd hv (k H locs hP hD hS)
theorem k_obj {x idx i1 i2 i3 : Nat} (hC : k_Cx p s m args c D cs A own cc nL) (hd : decode cc pc = .ok (.invokespecial idx, 3)) (h1 : mj_at i1 (.methodLink own idx objectInit) = true) (h2 : mj_at i2 (.instanceMethod objectInit) = true) (h3 : mj_at i3 (.code objectInit ⟨#[0xb1]⟩ 1 none) = true) (hz : ls.size = nL) (hf : 1 ≤ R.frames) (hlo : 2 * (F0 m pc ls (.ref x :: st)).monitorRoom + (st.map fun v => v.category).sum + 12 ≤ R.locals)
    (k : k_G p l e R s m args below meth c D A Q ls ws cells slots (pc + 3) st) : k_G p l e R s m args below meth c D A Q ls ws cells slots pc (.ref x :: st) := by
  obtain ⟨hx, hb, hml, hown, hts, -⟩ := hC
  intro H locs hP hD hS
  refine W.objInit hx hb hown (hts _ (mj_at_mem h1)) (hts _ (mj_at_mem h2)) (hts _ (mj_at_mem h3)) rfl (by rw [hml]; exact hz) rfl hd hf hlo ?_
  exact W.eq (g2 := F0 m (pc + 3) ls st) rfl (k H locs hP hD hS)
theorem k_new {ci N idx i1 i2 i3 : Nat} {C : String} {T : u_T} {fs : List Value} (hC : k_Cx p s m args c D cs A own cc nL) (hc : vwCl[ci]? = some (C, T, N)) (ty : Nat → FieldType) (hty : ∀ k, k < N → parseFieldDescriptor (T k).2.2.1 = some (ty k)) (h1 : mj_at i1 (.classLink own idx C) = true) (h2 : mj_at i2 (.instantiable C N) = true) (h3 : mj_at i3 (.initialized C) = true) (hfs : ∀ j, j < N → defaultValue (ty j) = vp_V fs j) (hc1 : cells + 1 ≤ R.cells) (hs1 : slots + N ≤ R.slots) (hd : decode cc pc = .ok (.new idx, 3))
    (k : ∀ q : Nat, k_G p l e R s m args below meth c D A Q ls (ws ++ [(q, .inr (ci, fs))]) (cells + 1) (slots + N) (pc + 3) (.ref q :: st)) : k_G p l e R s m args below meth c D A Q ls ws cells slots pc st := by
  obtain ⟨hx, hb, hml, hown, hts, hK, hA, -⟩ := hC
  intro H locs hP hD hS
  exact va_new (H0 := s.heap) hx hb hts (mj_uin ci _ hc) ty hty hown (hts _ (mj_at_mem h1)) (hts _ (mj_at_mem h2)) (hts _ (mj_at_mem h3)) hK hP hD hS hA hc hfs hc1 hs1 hd (fun q H1 hP1 hD1 hS1 => k q H1 locs hP1 hD1 hS1)
theorem k_nai {n : Int32} {N i1 : Nat} (hC : k_Cx p s m args c D cs A own cc nL) (h1 : mj_at i1 (.arrayClass .int) = true) (hn : ¬ n < 0) (hN : n.toNatClampNeg = N) (hby : N * componentBytes .int ≤ 536870912) (hc1 : cells + 1 ≤ R.cells) (hs1 : slots + N ≤ R.slots) (hd : decode cc pc = .ok (.newarray .int, 2))
    (k : ∀ q : Nat, k_G p l e R s m args below meth c D A Q ls (ws ++ [(q, .inl (cs.1, N, .inl (fun _ => 0)))]) (cells + 1) (slots + N) (pc + 2) (.ref q :: st)) : k_G p l e R s m args below meth c D A Q ls ws cells slots pc (.int n :: st) := by
  obtain ⟨hx, hb, hml, hown, hts, hK, hA, -⟩ := hC
  intro H locs hP hD hS
  refine va_newa (H0 := s.heap) (ty := .int) (a0 := (N, .inl (fun _ => 0))) hx hb (hts _ (mj_at_mem h1)) rfl hK hP hD hS hA (fun cA => rfl) hn hN hby hc1 hs1 hd (fun q cA H1 hK1 hP1 hD1 hS1 => ?_)
  have e1 : s.vm.findClass ("[" ++ FieldType.int.toString) = some cA := (hK1.2 4 (cA, .int) rfl).2
  have e2 : s.vm.findClass ("[" ++ FieldType.int.toString) = some cs.1 := (hK.2 0 (cs.1, .int) rfl).2
  have e3 : cA = cs.1 := Option.some.inj (e1.symm.trans e2)
  subst e3
  exact k q H1 locs hP1 hD1 hS1
theorem k_naj {n : Int32} {N i1 : Nat} (hC : k_Cx p s m args c D cs A own cc nL) (h1 : mj_at i1 (.arrayClass .long) = true) (hn : ¬ n < 0) (hN : n.toNatClampNeg = N) (hby : N * componentBytes .long ≤ 536870912) (hc1 : cells + 1 ≤ R.cells) (hs1 : slots + N ≤ R.slots) (hd : decode cc pc = .ok (.newarray .long, 2))
    (k : ∀ q : Nat, k_G p l e R s m args below meth c D A Q ls (ws ++ [(q, .inl (cs.2.2.1, N, .inr (.inl (fun _ => 0))))]) (cells + 1) (slots + N) (pc + 2) (.ref q :: st)) : k_G p l e R s m args below meth c D A Q ls ws cells slots pc (.int n :: st) := by
  obtain ⟨hx, hb, hml, hown, hts, hK, hA, -⟩ := hC
  intro H locs hP hD hS
  refine va_newa (H0 := s.heap) (ty := .long) (a0 := (N, .inr (.inl (fun _ => 0)))) hx hb (hts _ (mj_at_mem h1)) rfl hK hP hD hS hA (fun cA => rfl) hn hN hby hc1 hs1 hd (fun q cA H1 hK1 hP1 hD1 hS1 => ?_)
  have e1 : s.vm.findClass ("[" ++ FieldType.long.toString) = some cA := (hK1.2 4 (cA, .long) rfl).2
  have e2 : s.vm.findClass ("[" ++ FieldType.long.toString) = some cs.2.2.1 := (hK.2 2 (cs.2.2.1, .long) rfl).2
  have e3 : cA = cs.2.2.1 := Option.some.inj (e1.symm.trans e2)
  subst e3
  exact k q H1 locs hP1 hD1 hS1
theorem k_naz {n : Int32} {N i1 : Nat} (hC : k_Cx p s m args c D cs A own cc nL) (h1 : mj_at i1 (.arrayClass .boolean) = true) (hn : ¬ n < 0) (hN : n.toNatClampNeg = N) (hby : N * componentBytes .boolean ≤ 536870912) (hc1 : cells + 1 ≤ R.cells) (hs1 : slots + N ≤ R.slots) (hd : decode cc pc = .ok (.newarray .boolean, 2))
    (k : ∀ q : Nat, k_G p l e R s m args below meth c D A Q ls (ws ++ [(q, .inl (cs.2.1, N, .inl (fun _ => 0)))]) (cells + 1) (slots + N) (pc + 2) (.ref q :: st)) : k_G p l e R s m args below meth c D A Q ls ws cells slots pc (.int n :: st) := by
  obtain ⟨hx, hb, hml, hown, hts, hK, hA, -⟩ := hC
  intro H locs hP hD hS
  refine va_newa (H0 := s.heap) (ty := .boolean) (a0 := (N, .inl (fun _ => 0))) hx hb (hts _ (mj_at_mem h1)) rfl hK hP hD hS hA (fun cA => rfl) hn hN hby hc1 hs1 hd (fun q cA H1 hK1 hP1 hD1 hS1 => ?_)
  have e1 : s.vm.findClass ("[" ++ FieldType.boolean.toString) = some cA := (hK1.2 4 (cA, .boolean) rfl).2
  have e2 : s.vm.findClass ("[" ++ FieldType.boolean.toString) = some cs.2.1 := (hK.2 1 (cs.2.1, .boolean) rfl).2
  have e3 : cA = cs.2.1 := Option.some.inj (e1.symm.trans e2)
  subst e3
  exact k q H1 locs hP1 hD1 hS1
theorem k_naq {n : Int32} {N idx i1 : Nat} (hC : k_Cx p s m args c D cs A own cc nL) (h1 : mj_at i1 (.classLink own idx RX0) = true) (hn : ¬ n < 0) (hN : n.toNatClampNeg = N) (hby : N * 4 ≤ 536870912) (hc1 : cells + 1 ≤ R.cells) (hs1 : slots + N ≤ R.slots) (hd : decode cc pc = .ok (.anewarray idx, 3))
    (k : ∀ q : Nat, k_G p l e R s m args below meth c D A Q ls (ws ++ [(q, .inl (cs.2.2.2, N, .inr (.inr (.inr (.inr (fun _ => none))))))]) (cells + 1) (slots + N) (pc + 3) (.ref q :: st)) : k_G p l e R s m args below meth c D A Q ls ws cells slots pc (.int n :: st) := by
  obtain ⟨hx, hb, hml, hown, hts, hK, hA, hN9, hAO⟩ := hC
  intro H locs hP hD hS
  refine va_newq (H0 := s.heap) (C := RX0) hx hb hown (hts _ (mj_at_mem h1)) hAO hK hP hD hS hA hn hN hby hc1 hs1 hd (fun q cA H1 hK1 hP1 hD1 hS1 => ?_)
  obtain ⟨-, -, -, -, -, e1⟩ := (hK1.2 4 (cA, .object RX0) rfl).2
  obtain ⟨-, -, -, -, -, e2⟩ := (hK.2 3 (cs.2.2.2, .object "StandingLine$Book") rfl).2
  have e3 : cA = cs.2.2.2 := Option.some.inj (e1.symm.trans e2)
  subst e3
  exact k q H1 locs hP1 hD1 hS1
theorem k_ast {a v N : Nat} {vs : List Value} {f : Nat → Option Nat} {i : Int32} (hC : k_Cx p s m args c D cs A own cc nL) (q0 qk : Nat) (ha : ws[q0]? = some (a, .inl (cs.2.2.2, N, .inr (.inr (.inr (.inr f)))))) (hv : ws[qk]? = some (v, .inr (0, vs))) (hin : vp_in i N) (hd : decode cc pc = .ok (.aastore, 1))
    (k : k_G p l e R s m args below meth c D A Q ls (ws.set q0 (a, .inl (cs.2.2.2, N, .inr (.inr (.inr (.inr (va_up f i.toNatClampNeg (some v)))))))) cells slots (pc + 1) st) : k_G p l e R s m args below meth c D A Q ls ws cells slots pc (.ref v :: .int i :: .ref a :: st) := by
  obtain ⟨hx, hb, hml, hown, hts, hK, hA, -⟩ := hC
  intro H locs hP hD hS
  exact va_astq (H0 := s.heap) (r := (RX0, TX0, 4)) hx hb hK hP hD hS q0 3 qk 0 ha rfl hv rfl hin hd (fun H1 locs1 hP1 hD1 hS1 => k H1 locs1 hP1 hD1 hS1)
theorem k_put {a ci N idx i1 : Nat} {C : String} {T : u_T} {fs : List Value} {v : Value} (hC : k_Cx p s m args c D cs A own cc nL) (hc : vwCl[ci]? = some (C, T, N)) (ty0 : Nat → FieldType) (hty : ∀ k, k < N → parseFieldDescriptor (T k).2.2.1 = some (ty0 k)) (hnm : ∀ a, a < N → ∀ b, b < N → a ≠ b → (T a).2.1 ≠ (T b).2.1) (q0 : Nat) (he : ws[q0]? = some (a, .inr (ci, fs))) (j : Nat) (hj : j < N) (h1 : mj_at i1 (.fieldLink own idx (T j).1 (T j).2.1 (T j).2.2.1) = true) (hfin : (T j).2.2.2 = false) (hn : narrow (ty0 j) v = v) (hfit : fits (ty0 j) v = true) (hlen : j < fs.length) (hd : decode cc pc = .ok (.putfield idx, 3))
    (k : k_G p l e R s m args below meth c D A Q ls (ws.set q0 (a, .inr (ci, fs.set j v))) cells slots (pc + 3) st) : k_G p l e R s m args below meth c D A Q ls ws cells slots pc (v :: .ref a :: st) := by
  obtain ⟨hx, hb, hml, hown, hts, hK, hA, -⟩ := hC
  intro H locs hP hD hS
  exact va_put (H0 := s.heap) (D := D) (ci := ci) (v := v) hx hb hts (mj_uin ci _ hc) ty0 hty hnm hown hK hP hD hS q0 he hc j hj (hts _ (mj_at_mem h1)) (fun _ h9 => h9) hfin (hty j hj) hn hfit hlen hd (fun H1 locs1 hP1 hD1 hS1 => k H1 locs1 hP1 hD1 hS1)
theorem k_putF {a ci N idx i1 : Nat} {C : String} {T : u_T} {fs : List Value} {v : Value} (hC : k_Cx p s m args c D cs A own cc nL) (hin : meth.name = "<init>") (hc : vwCl[ci]? = some (C, T, N)) (ty0 : Nat → FieldType) (hty : ∀ k, k < N → parseFieldDescriptor (T k).2.2.1 = some (ty0 k)) (hnm : ∀ a, a < N → ∀ b, b < N → a ≠ b → (T a).2.1 ≠ (T b).2.1) (q0 : Nat) (he : ws[q0]? = some (a, .inr (ci, fs))) (j : Nat) (hj : j < N) (h1 : mj_at i1 (.fieldLink own idx (T j).1 (T j).2.1 (T j).2.2.1) = true) (hfin : (T j).2.2.2 = true) (hdecl : (T j).1 = own) (hn : narrow (ty0 j) v = v) (hfit : fits (ty0 j) v = true) (hlen : j < fs.length) (hd : decode cc pc = .ok (.putfield idx, 3))
    (k : k_G p l e R s m args below meth c D A Q ls (ws.set q0 (a, .inr (ci, fs.set j v))) cells slots (pc + 3) st) : k_G p l e R s m args below meth c D A Q ls ws cells slots pc (v :: .ref a :: st) := by
  obtain ⟨hx, hb, hml, hown, hts, hK, hA, -⟩ := hC
  intro H locs hP hD hS
  exact va_putF (H0 := s.heap) (D := D) (ci := ci) (v := v) hx hb hts (mj_uin ci _ hc) ty0 hty hnm hown hK hP hD hS q0 he hc j hj (hts _ (mj_at_mem h1)) (fun _ h9 => h9) hfin hin hdecl (hty j hj) hn hfit hlen hd (fun H1 locs1 hP1 hD1 hS1 => k H1 locs1 hP1 hD1 hS1)
theorem k_as {ws ws' : va_W} (he : ws = ws') (k : k_G p l e R s m args below meth c D A Q ls ws' cells slots pc st) : k_G p l e R s m args below meth c D A Q ls ws cells slots pc st := he ▸ k
theorem k_asq {i a : Nat} {E E' : va_E} (h : ws[i]? = some (a, E)) (hE : ∀ H, va_at D vwCl (a, E) H → va_at D vwCl (a, E') H) (k : k_G p l e R s m args below meth c D A Q ls (ws.set i (a, E')) cells slots pc st) : k_G p l e R s m args below meth c D A Q ls ws cells slots pc st := by
  intro H locs hP hD hS
  have hl : i < ws.length := (List.getElem?_eq_some_iff.mp h).1
  have key : ∀ (k : Nat) (q : Nat × va_E), (ws.set i (a, E'))[k]? = some q → (k = i ∧ q = (a, E')) ∨ ws[k]? = some q := by
    intro k q hk
    rw [List.getElem?_set] at hk
    by_cases e9 : i = k
    · subst e9
      rw [if_pos rfl, if_pos hl] at hk
      exact Or.inl ⟨rfl, (Option.some.inj hk).symm⟩
    · rw [if_neg e9] at hk
      exact Or.inr hk
  have key2 : ∀ (k : Nat) (q : Nat × va_E), (ws.set i (a, E'))[k]? = some q → ∃ q0, ws[k]? = some q0 ∧ q0.1 = q.1 := by
    intro k q hk
    rcases key k q hk with ⟨rfl, rfl⟩ | h9
    · exact ⟨_, h, rfl⟩
    · exact ⟨_, h9, rfl⟩
  refine k H locs (fun k q hk => ?_) ⟨fun i1 j1 p1 q1 h1 h2 h3 => ?_, fun k q hk => ?_⟩ hS
  · rcases key k q hk with ⟨rfl, rfl⟩ | h9
    · exact hE H (hP _ _ h)
    · exact hP k q h9
  · obtain ⟨a1, b1, c1⟩ := key2 _ _ h1
    obtain ⟨a2, b2, c2⟩ := key2 _ _ h2
    exact hD.1 _ _ _ _ b1 b2 (by rw [c1, c2]; exact h3)
  · obtain ⟨a1, b1, c1⟩ := key2 _ _ hk
    rw [← c1]
    exact hD.2 _ _ b1
/-- the contract of a constructor: a bare object comes, the object and its new cells go -/
abbrev k_rm (d mc ms : Nat) : Room := { frames := d, cells := mc, slots := ms, locals := 64 * d }
def k_Ok (l : Launch) (D : va_G) (cs : mj_Cs) (t : Nat) (y : MethodName) (cc : ByteArray) (d mc ms : Nat) (fs : List Value) (mk : Nat → (Nat → Nat) → va_W) : Prop := ∀ (h sz : Nat), Met l y (Cond.code y cc 1 none :: mj_tb) (k_rm d mc ms) (va_Pc [.ref h] (fun U => U.heap.size = sz ∧ va_P D vwCl [(h, .inr (t, fs))] U.heap ∧ va_K D vwCl (mj_ty cs) U ∧ va_D (fun _ => True) [(h, .inr (t, fs))] ∧ mj_Ns U ∧ va_AO RX0 U)) (va_Qv (fun _ : Nat → Nat => True) (fun u U => va_P D vwCl (mk h u) U.heap ∧ va_D (va_A [(h, .inr (t, fs))] sz) (mk h u)) (va_A [(h, .inr (t, fs))] sz)) mc ms (va_A [(h, .inr (t, fs))] sz)
theorem k_enter {t d mc ms : Nat} {y : MethodName} {fs : List Value} {mk : Nat → (Nat → Nat) → va_W} (hy : plainName y.cls = true) (hi : y.name = "<init>")
    (h : ∀ (h : Nat) (p : Program) (e : Env) (s : State) (m : MethodId) (args : Array Value) (below : List Frame) (meth : Method) (c : Code) (A : Nat → Prop) (ls : Array Slot) (Q : State → Prop), k_Cx p s m args c D cs A y.cls cc 1 → meth.name = "<init>" → ls.size = 1 → ls[0]? = some (.val (.ref h)) →
      (∀ (u : Nat → Nat) (pc : Nat), decode cc pc = .ok (.return_, 1) → k_G p l e (k_rm d mc ms) s m args below meth c D A Q ls (mk h u) mc ms pc []) → k_G p l e (k_rm d mc ms) s m args below meth c D A Q ls [(h, .inr (t, fs))] 0 0 0 []) : k_Ok l D cs t y cc d mc ms fs mk := by
  intro h0 sz
  refine Met.ofW (cc := cc) (maxL := 1) (ret := none) hy rfl ?_
  intro p e s m args below meth c s₁ B hml hv
  obtain ⟨rfl, hsz, hP, hK, hD0, hNs, hAO⟩ := hv
  have hts := atoms_spec (ws := Cond.code y cc 1 none :: mj_tb) B.pre
  have hown : s.vm.findClass y.cls = some m.cls := findClass_of_methodNamed B.named
  have hin : meth.name = "<init>" := (name_of_methodNamed B.named B.method).1.trans hi
  subst hsz
  have hD := hD0.self (sz := s.heap.size)
  have hl := lv_entry ([.ref h0]) (n := 1) (Nat.le_of_ble_eq_true rfl)
  rw [lg_entry_eq]
  generalize (lg_sl ([.ref h0]) ++ List.replicate (1 - (lg_sl ([.ref h0])).length) Slot.unset).toArray = ls at hl ⊢
  have hl : lv_has ls 1 [(0, .ref h0)] := hl
  refine h h0 p e s m _ below meth c (va_A [(h0, .inr (t, fs))] s.heap.size) ls _ ⟨B.exec, B.bytes, hml, hown, fun w hw => hts w (List.mem_cons_of_mem _ hw), hK, fun q h9 => Or.inr h9, hNs, hAO⟩ hin hl.1 (lv_at hl 0 rfl) ?_ s.heap [] hP hD va_S.rf
  intro u pc hd H locs hP1 hD1 hS1
  exact W.vret B.exec B.bytes B.returns (fun t ht hW => ⟨⟨u, rfl, trivial, by rw [ht]; exact hP1, hD1⟩, hS1.F ht⟩) hS1.2.2 hd B.notSynchronized
theorem k_rg : ∀ (n : Nat), va_nd (List.range n) = true := by
  have h : ∀ (l : List Nat), l.Nodup → va_nd l = true := by
    intro l
    induction l with
    | nil => intro _; rfl
    | cons a l ih =>
      intro hn
      rw [List.nodup_cons] at hn
      show (decide (a ∉ l) && va_nd l) = true
      rw [ih hn.2, decide_eq_true hn.1]
      rfl
  exact fun n => h _ List.nodup_range
theorem k_rm9 (wr : va_W) (x : Nat × va_E) : (List.range wr.length).map (fun i => (wr ++ [x])[i]?) = wr.map some := by
  apply List.ext_getElem?
  intro i
  by_cases hi : i < wr.length
  · rw [List.getElem?_map, List.getElem?_range hi, Option.map_some, List.getElem?_append_left hi, List.getElem?_map, List.getElem?_eq_getElem hi, Option.map_some]
  · simp [hi]
theorem k_call {t d mc ms idx i1 i2 i3 : Nat} {y : MethodName} {bytes : ByteArray} {fs : List Value} {mk : Nat → (Nat → Nat) → va_W} {q : Nat} {wr : va_W} (hC : k_Cx p s m args c D cs A own cc nL) (hz : ls.size = nL) (hM : k_Ok l D cs t y bytes d mc ms fs mk) (h0 : mj_atN i1 (.methodLinkNest own idx y "StandingLine") = true ∨ mj_at i1 (.methodLink own idx y) = true) (h1 : mj_at i2 (.instanceMethod y) = true) (h2 : mj_at (i2 + 1) (.code y bytes 1 none) = true) (h3 : mj_at i3 (.initialized y.cls) = true) (hi : y.name = "<init>") (hdd : y.cls ≠ "java/lang/invoke/MethodHandle" ∧ y.cls ≠ "java/lang/invoke/VarHandle" ∧ (parseMethodDescriptor y.desc).map (fun d => d.parameters.length) = some 0)
    (hR : d + 1 ≤ R.frames ∧ 8 + (1 + 11) + 64 * d ≤ R.locals) (hst : (st.map fun v => v.category).sum ≤ 8) (hd : decode cc pc = .ok (.invokespecial idx, 3)) (hf : cells + mc ≤ R.cells ∧ slots + ms ≤ R.slots)
    (k : ∀ u : Nat → Nat, k_G p l e R s m args below meth c D A Q ls (wr ++ mk q u) (cells + mc) (slots + ms) (pc + 3) st) : k_G p l e R s m args below meth c D A Q ls (wr ++ [(q, .inr (t, fs))]) cells slots pc (.ref q :: st) := by
  obtain ⟨hx, hb, hml, hown, hts, hK, hA, hNs, hAO⟩ := hC
  intro H locs hP hD hS
  have e0 : [wr.length].map (fun i => (wr ++ [(q, (.inr (t, fs) : va_E))])[i]?) = [(q, (.inr (t, fs) : va_E))].map some := by simp
  have hPc : va_P D vwCl [(q, .inr (t, fs))] H := hP.sub [wr.length] (by simp)
  have hDc : va_D A [(q, .inr (t, fs))] := hD.sub [wr.length] rfl e0
  have hFc := va_free (wc := [(q, .inr (t, fs))]) hD hS hA [wr.length] e0
  have hG : GoodIn mj_tb (Cond.code y bytes 1 none :: mj_tb) := fun w hw => (List.mem_cons.mp hw).elim (fun e => e ▸ mj_good (mj_at_mem h2)) (fun e => mj_good e)
  have hpre : PreS s H (va_Pc [.ref q] (fun U => U.heap.size = H.size ∧ va_P D vwCl [(q, .inr (t, fs))] U.heap ∧ va_K D vwCl (mj_ty cs) U ∧ va_D (fun _ => True) [(q, .inr (t, fs))] ∧ mj_Ns U ∧ va_AO RX0 U)) [.ref q] := by
    refine ⟨fun a U g mk q => ?_, fun U hU hW => ⟨rfl, by rw [hU], by rw [hU]; exact hPc, va_K.moved hW.alike hK, hDc.weaken (fun _ _ _ _ => trivial), mj_Ns.warm hW hNs, va_AO.moved hW.alike hAO⟩⟩
    obtain ⟨q0, q1, qP, qK, qD, qN, qA⟩ := q
    exact ⟨q0, q1, qP, va_K.moved (u := U) (U := U.calling g mk a) (Vm.Alike.refl U.vm) qK, qD, mj_Ns.same (u := U) (U := U.calling g mk a) rfl qN, va_AO.moved (u := U) (U := U.calling g mk a) (Vm.Alike.refl U.vm) qA⟩
  have hrun : va_Run p l e R s m args below meth c H locs cells slots mc ms (F0 m pc ls (.ref q :: st)) st (va_Qv (fun _ : Nat → Nat => True) (fun u U => va_P D vwCl (mk q u) U.heap ∧ va_D (va_A [(q, .inr (t, fs))] H.size) (mk q u)) (va_A [(q, .inr (t, fs))] H.size) (Value.ref q :: []).toArray) (va_A [(q, .inr (t, fs))] H.size) := by
    rcases h0 with h0 | h0
    · exact va_runIN (As := []) (rest := st) (host := "StandingLine") ⟨hx, hb, hml, hown, hts⟩ (hM q H.size) ⟨va_cnB 0 hts hG rfl rfl rfl (hNs _ (mj_atN_mem h0) rfl) (hts _ (mj_at_mem h3)) hdd hR, hi, hts _ (mj_at_mem h1)⟩ hpre rfl rfl hz rfl (lv_room hst) hd hf
    · exact va_runI (As := []) (rest := st) ⟨hx, hb, hml, hown, hts⟩ (hM q H.size) (cwI 0 hts hG rfl rfl rfl (hts _ (mj_at_mem h3)) (hts _ (mj_at_mem h0)) (hts _ (mj_at_mem h1)) hi hdd hR) hpre rfl rfl hz rfl (lv_room hst) hd hf
  refine va_callv hrun hS (fun q _ h => hFc q h) hFc (fun u t H1 locs1 ht hvm hw hB hz1 hk1 hS1 => ?_)
  obtain ⟨hP1, hD1⟩ := hB
  rw [ht] at hP1
  obtain ⟨hP2, hD2⟩ := va_join hP hD [wr.length] (List.range wr.length) e0 (k_rm9 _ _) (k_rg _) (fun i hi9 => by simp at hi9 ⊢; omega) hk1 hFc hP1 hD1
  exact k u H1 locs1 hP2 hD2 hS1
end KC
