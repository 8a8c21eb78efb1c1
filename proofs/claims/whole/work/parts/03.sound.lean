/-! THE SMALL MACHINE HOLDS OF THE REAL ONE: words -/
/-- the tables' words that a method's contract may rest on -/
def mj_tb : List Cond := lw_tbl.filter goodWord
theorem mj_tb_mem {w : Cond} (h : w ∈ lw_tbl) (hg : goodWord w = true) : w ∈ mj_tb := List.mem_filter.mpr ⟨h, hg⟩
abbrev mj_Cs : Type := ClassId × ClassId × ClassId × ClassId
abbrev mj_Sa : Type := Nat × Nat × Nat × Nat × (Int → Int)
abbrev mj_NC : Nat := 83
def mj_v (ad : Nat → Nat) (sa : mj_Sa) : mj_V → Value
  | .inl x => .int (Int32.ofInt x)
  | .inr (.inl x) => .long (Int64.ofInt x)
  | .inr (.inr ((t, _), o)) => .ref (if t < 24 then ad o else if t = 25 then sa.1 else if t = 26 then sa.2.1 else sa.2.2.1)
def mj_fv (ad : Nat → Nat) (σ : mj_W) (t o j : Nat) : Value := if (mj_fi t j).1 = 2 then .ref (ad (o + (mj_fi t j).2.1)) else .int (Int32.ofInt (σ o (j : Int)))
def mj_fn (t : Nat) : Nat := (mj_ft.getD t []).length
def mj_ce (cs : mj_Cs) (ad : Nat → Nat) (σ : mj_W) (o : Nat) : va_E := match mj_kd.getD o (99, 0) with
  | (20, n) => .inl (cs.1, n, .inl (fun j => Int32.ofInt (σ o (j : Int))))
  | (21, n) => .inl (cs.2.1, n, .inl (fun j => Int32.ofInt (σ o (j : Int))))
  | (22, n) => .inl (cs.2.2.1, n, .inr (.inl (fun j => Int64.ofInt (σ o (j : Int)))))
  | (23, n) => .inl (cs.2.2.2, n, .inr (.inr (.inr (.inr (fun j => if j = 0 then some (ad (o + 1)) else some (ad (o + 14)))))))
  | (t, _) => .inr (t, (List.range (mj_fn t)).map (mj_fv ad σ t o))
def mj_ws (cs : mj_Cs) (ad : Nat → Nat) (σ : mj_W) : va_W := (List.range mj_NC).map (fun o => (ad o, mj_ce cs ad σ o))
def mj_ty (cs : mj_Cs) : List (ClassId × FieldType) := [(cs.1, .int), (cs.2.1, .boolean), (cs.2.2.1, .long), (cs.2.2.2, .object "StandingLine$Book")]
def mj_ln (o : Nat) : Nat := if (mj_kd.getD o (99, 0)).1 < 20 then mj_fn (mj_kd.getD o (99, 0)).1 else (mj_kd.getD o (99, 0)).2
/-- what every world holds: numbers within their types, and 0 beyond a cell's places -/
def mj_rg (σ : mj_W) : Prop := ∀ (o : Nat) (i : Int), (if mj_kd.getD o (99, 0) = (22, 169) then mj_InL (σ o i) else mj_InR (σ o i)) ∧ (¬ (0 ≤ i ∧ i < (mj_ln o : Int)) → σ o i = 0)
def mj_ok (sa : mj_Sa) : mj_V → Prop
  | .inl x => mj_InR x
  | .inr (.inl x) => mj_InL x
  | .inr (.inr ((t, n), o)) => (t < 24 ∧ o < mj_NC ∧ mj_kd.getD o (99, 0) = (t, n)) ∨ (t = 25 ∧ n = 4) ∨ (t = 26 ∧ n = 4) ∨ (t = 27 ∧ n = sa.2.2.2.1)
def mj_isN : Cond → Bool
  | .fieldLinkNest _ _ _ _ _ _ => true
  | .methodLinkNest _ _ _ _ => true
  | _ => false
/-- the words on nest mates' private members: they are carried along, state by state -/
def mj_Ns (U : State) : Prop := ∀ w ∈ lw_tbl, mj_isN w = true → va_Nw w U
def mj_St (A : Nat → Prop) (sa : mj_Sa) (U : State) : Prop := va_Z "StandingLine" "EAST_BY" "[I" (.ref sa.1) A U U.heap ∧ va_T .int sa.1 4 (fun j => .int (Int32.ofInt (mj_east (j : Int)))) A U U.heap ∧ va_Z "StandingLine" "NORTH_BY" "[I" (.ref sa.2.1) A U U.heap ∧ va_T .int sa.2.1 4 (fun j => .int (Int32.ofInt (mj_north (j : Int)))) A U U.heap ∧ mj_Ns U
def mj_Sc (A : Nat → Prop) (sa : mj_Sa) (U : State) : Prop := va_X sa.2.2.1 sa.2.2.2.1 (fun j => Int32.ofInt (sa.2.2.2.2 (j : Int))) U U.heap ∧ sa.2.2.1 < U.heap.size ∧ ¬ A sa.2.2.1 ∧ (∀ i, mj_InR (sa.2.2.2.2 i)) ∧ sa.2.2.2.1 < 2 ^ 31
def mj_Lh (ad : Nat → Nat) (sa : mj_Sa) (ls : Array Slot) (nL : Nat) (loc : mj_L) : Prop := ls.size = nL ∧ lv_wf ls ∧ ∀ (i : Nat) (v : mj_V), mj_ld loc i = some v → ls[i]? = some (.val (mj_v ad sa v)) ∧ mj_ok sa v
def mj_rm (n : Nat) : Room := { frames := n, cells := 0, slots := 0, locals := 64 * n }
def mj_Cx (p : Program) (R : Room) (s : State) (m : MethodId) (args : Array Value) (c : Code) (D : va_G) (cs : mj_Cs) (A : Nat → Prop) (ad : Nat → Nat) (sa : mj_Sa) (cu su : Nat) (own : String) (cc : ByteArray) (nL n : Nat) : Prop :=
  p.tables.exec = Jvm.exec ∧ c.code = cc ∧ c.maxLocals = nL ∧ s.vm.findClass own = some m.cls ∧ (∀ w ∈ mj_tb, w.before args s = true) ∧ va_K D vwCl (mj_ty cs) s ∧ (∀ σ : mj_W, va_D A (mj_ws cs ad σ)) ∧ mj_St A sa s ∧ mj_Sc A sa s ∧ (n ≤ R.frames ∧ 64 * n ≤ R.locals ∧ cu ≤ R.cells ∧ su ≤ R.slots)
def mj_B (p : Program) (l : Launch) (e : Env) (R : Room) (s : State) (m : MethodId) (args : Array Value) (below : List Frame) (meth : Method) (c : Code) (D : va_G) (cs : mj_Cs) (A : Nat → Prop) (ad : Nat → Nat) (sa : mj_Sa) (cu su : Nat) (Q : State → Prop) (nL pc : Nat) (loc : mj_L) (st : List mj_V) (σ : mj_W) : Prop :=
  ∀ (H : Heap) (locs : List Loc) (ls : Array Slot), va_P D vwCl (mj_ws cs ad σ) H → va_S A s.heap H locs → mj_rg σ → mj_Lh ad sa ls nL loc → (∀ v ∈ st, mj_ok sa v) → W p l e R s m args below meth c H locs cu su Q (F0 m pc ls (st.map (mj_v ad sa)))
/-! numbers -/
theorem mj_tI {x : Int} (h : mj_InR x) : (Int32.ofInt x).toInt = x := Int32.toInt_ofInt_of_le (by omega) (by omega)
theorem mj_tL {x : Int} (h : mj_InL x) : (Int64.ofInt x).toInt = x := Int64.toInt_ofInt_of_le (by omega) (by omega)
theorem mj_eqI {x y : Int} (hx : mj_InR x) (hy : mj_InR y) : Int32.ofInt x = Int32.ofInt y ↔ x = y := by
  rw [← Int32.toInt_inj, mj_tI hx, mj_tI hy]
theorem mj_ltI {x y : Int} (hx : mj_InR x) (hy : mj_InR y) : Int32.ofInt x < Int32.ofInt y ↔ x < y := by
  rw [Int32.lt_iff_toInt_lt, mj_tI hx, mj_tI hy]
theorem mj_leI {x y : Int} (hx : mj_InR x) (hy : mj_InR y) : Int32.ofInt x ≤ Int32.ofInt y ↔ x ≤ y := by
  rw [Int32.le_iff_toInt_le, mj_tI hx, mj_tI hy]
theorem mj_ltL {x y : Int} (hx : mj_InL x) (hy : mj_InL y) : Int64.ofInt x < Int64.ofInt y ↔ x < y := by
  rw [Int64.lt_iff_toInt_lt, mj_tL hx, mj_tL hy]
theorem mj_eqL {x y : Int} (hx : mj_InL x) (hy : mj_InL y) : Int64.ofInt x = Int64.ofInt y ↔ x = y := by
  rw [← Int64.toInt_inj, mj_tL hx, mj_tL hy]
theorem mj_z : Int32.ofInt 0 = 0 := by decide
theorem mj_rI (x : Int32) : mj_InR x.toInt := by
  have h1 := Int32.toInt_lt x
  have h2 := Int32.le_toInt x
  omega
theorem mj_cl {x : Int} (h : mj_InR x) : (Int32.ofInt x).toNatClampNeg = x.toNat := by
  show (Int32.ofInt x).toInt.toNat = x.toNat
  rw [mj_tI h]
theorem mj_in {x : Int} {n : Nat} (h : 0 ≤ x ∧ x < (n : Int)) (hr : mj_InR x) : vp_in (Int32.ofInt x) n := by
  rw [vp_in_iff, mj_tI hr]
  exact h
theorem mj_ofI {x : Int32} {y : Int} (h : x.toInt = y) : x = Int32.ofInt y := by rw [← h, Int32.ofInt_toInt]
theorem mj_ofL {x : Int64} {y : Int} (h : x.toInt = y) : x = Int64.ofInt y := by rw [← h, Int64.ofInt_toInt]
theorem mj_bm {x : Int} (h : mj_InR x) : x.bmod (2 ^ 32) = x := by
  have := mj_tI h
  rw [Int32.toInt_ofInt] at this
  exact this
theorem mj_bmL {x : Int} (h : mj_InL x) : x.bmod (2 ^ 64) = x := by
  have := mj_tL h
  rw [Int64.toInt_ofInt] at this
  exact this
theorem mj_qI {x y : Int} (hx : mj_InR x) (hy : mj_InR y) (h0 : 0 ≤ x) (h1 : 0 < y) : Int32.ofInt x / Int32.ofInt y = Int32.ofInt (x / y) ∧ mj_InR (x / y) := by
  have h2 : 0 ≤ x / y := Int.ediv_nonneg h0 (by omega)
  have h3 : x / y ≤ x := Int.ediv_le_self y h0
  have h4 : mj_InR (x / y) := by omega
  refine ⟨mj_ofI ?_, h4⟩
  rw [Int32.toInt_div, mj_tI hx, mj_tI hy, Int.tdiv_eq_ediv_of_nonneg h0, mj_bm h4]
theorem mj_mI {x y : Int} (hx : mj_InR x) (hy : mj_InR y) (h0 : 0 ≤ x) (h1 : 0 < y) : Int32.ofInt x - Int32.ofInt x / Int32.ofInt y * Int32.ofInt y = Int32.ofInt (x % y) ∧ mj_InR (x % y) := by
  have h2 : 0 ≤ x % y := Int.emod_nonneg x (by omega)
  have h3 : x % y < y := Int.emod_lt_of_pos x h1
  refine ⟨?_, by omega⟩
  rw [(mj_qI hx hy h0 h1).1, ← Int32.ofInt_mul, ← Int32.ofInt_sub]
  congr 1
  have := Int.mul_ediv_add_emod x y
  rw [Int.mul_comm] at this
  omega
theorem mj_qL {x y : Int} (hx : mj_InL x) (hy : mj_InL y) (h0 : 0 ≤ x) (h1 : 0 < y) : Int64.ofInt x / Int64.ofInt y = Int64.ofInt (x / y) ∧ mj_InL (x / y) := by
  have h2 : 0 ≤ x / y := Int.ediv_nonneg h0 (by omega)
  have h3 : x / y ≤ x := Int.ediv_le_self y h0
  have h4 : mj_InL (x / y) := by omega
  refine ⟨mj_ofL ?_, h4⟩
  rw [Int64.toInt_div, mj_tL hx, mj_tL hy, Int.tdiv_eq_ediv_of_nonneg h0, mj_bmL h4]
theorem mj_mL {x y : Int} (hx : mj_InL x) (hy : mj_InL y) (h0 : 0 ≤ x) (h1 : 0 < y) : Int64.ofInt x - Int64.ofInt x / Int64.ofInt y * Int64.ofInt y = Int64.ofInt (x % y) ∧ mj_InL (x % y) := by
  have h2 : 0 ≤ x % y := Int.emod_nonneg x (by omega)
  have h3 : x % y < y := Int.emod_lt_of_pos x h1
  refine ⟨?_, by omega⟩
  rw [(mj_qL hx hy h0 h1).1, ← Int64.ofInt_mul, ← Int64.ofInt_sub]
  congr 1
  have := Int.mul_ediv_add_emod x y
  rw [Int.mul_comm] at this
  omega
/-! cells -/
theorem mj_ws_at (cs : mj_Cs) (ad : Nat → Nat) (σ : mj_W) {o : Nat} (h : o < mj_NC) : (mj_ws cs ad σ)[o]? = some (ad o, mj_ce cs ad σ o) := by
  simp [mj_ws, h]
theorem mj_ce_o (cs : mj_Cs) (ad : Nat → Nat) (σ : mj_W) {o t n : Nat} (h : mj_kd.getD o (99, 0) = (t, n)) (ht : t < 20) : mj_ce cs ad σ o = .inr (t, (List.range (mj_fn t)).map (mj_fv ad σ t o)) := by
  unfold mj_ce
  rw [h]
  split
  · rename_i heq; cases heq; omega
  · rename_i heq; cases heq; omega
  · rename_i heq; cases heq; omega
  · rename_i heq; cases heq; omega
  · rename_i heq; cases heq; rfl
theorem mj_ce_i (cs : mj_Cs) (ad : Nat → Nat) (σ : mj_W) {o n : Nat} (h : mj_kd.getD o (99, 0) = (20, n)) : mj_ce cs ad σ o = .inl (cs.1, n, .inl (fun j => Int32.ofInt (σ o (j : Int)))) := by
  unfold mj_ce
  rw [h]
  rfl
theorem mj_ce_z (cs : mj_Cs) (ad : Nat → Nat) (σ : mj_W) {o n : Nat} (h : mj_kd.getD o (99, 0) = (21, n)) : mj_ce cs ad σ o = .inl (cs.2.1, n, .inl (fun j => Int32.ofInt (σ o (j : Int)))) := by
  unfold mj_ce
  rw [h]
  rfl
theorem mj_ce_j (cs : mj_Cs) (ad : Nat → Nat) (σ : mj_W) {o n : Nat} (h : mj_kd.getD o (99, 0) = (22, n)) : mj_ce cs ad σ o = .inl (cs.2.2.1, n, .inr (.inl (fun j => Int64.ofInt (σ o (j : Int))))) := by
  unfold mj_ce
  rw [h]
  rfl
theorem mj_ce_q (cs : mj_Cs) (ad : Nat → Nat) (σ : mj_W) {o n : Nat} (h : mj_kd.getD o (99, 0) = (23, n)) : mj_ce cs ad σ o = .inl (cs.2.2.2, n, .inr (.inr (.inr (.inr (fun j => if j = 0 then some (ad (o + 1)) else some (ad (o + 14))))))) := by
  unfold mj_ce
  rw [h]
  rfl
theorem mj_ce_n (cs : mj_Cs) (ad : Nat → Nat) {σ σ' : mj_W} {o : Nat} (h : ∀ i, σ' o i = σ o i) : mj_ce cs ad σ' o = mj_ce cs ad σ o := by
  have h1 : ∀ t, mj_fv ad σ' t o = mj_fv ad σ t o := by
    intro t
    funext j
    unfold mj_fv
    rw [h]
  unfold mj_ce
  simp only [h, h1]
theorem mj_ws_set (cs : mj_Cs) (ad : Nat → Nat) {σ σ' : mj_W} {o : Nat} {e : va_E} (ho : o < mj_NC) (hn : ∀ o', o' ≠ o → ∀ i, σ' o' i = σ o' i) (he : e = mj_ce cs ad σ' o) : (mj_ws cs ad σ).set o (ad o, e) = mj_ws cs ad σ' := by
  apply List.ext_getElem?
  intro k
  rw [List.getElem?_set]
  by_cases hk : o = k
  · subst hk
    rw [if_pos rfl, mj_ws_at cs ad σ' ho, he]
    simp [mj_ws, ho]
  · rw [if_neg hk]
    simp only [mj_ws, List.getElem?_map]
    cases hr : (List.range mj_NC)[k]? with
    | none => rfl
    | some k' =>
      have : k' = k := by
        have := List.getElem?_eq_some_iff.mp hr
        obtain ⟨h1, h2⟩ := this
        simpa using h2.symm
      subst this
      simp only [Option.map_some]
      rw [mj_ce_n cs ad (hn k' (fun q => hk q.symm))]
theorem mj_ln_o {o t n : Nat} (h : mj_kd.getD o (99, 0) = (t, n)) (ht : t < 20) : mj_ln o = mj_fn t := by
  unfold mj_ln
  rw [h, if_pos ht]
theorem mj_ln_a {o t n : Nat} (h : mj_kd.getD o (99, 0) = (t, n)) (ht : ¬ t < 20) : mj_ln o = n := by
  unfold mj_ln
  rw [h, if_neg ht]
theorem mj_rg_up {σ : mj_W} (h : mj_rg σ) {o : Nat} {i v : Int} (hi : 0 ≤ i ∧ i < (mj_ln o : Int)) (hv : if mj_kd.getD o (99, 0) = (22, 169) then mj_InL v else mj_InR v) : mj_rg (mj_up σ o i v) := by
  intro o' i'
  unfold mj_up
  by_cases hc : o' = o ∧ i' = i
  · rw [if_pos hc, hc.1, hc.2]; exact ⟨hv, fun q => absurd hi q⟩
  · rw [if_neg hc]; exact h o' i'
theorem mj_rg_i {σ : mj_W} (h : mj_rg σ) {o t n : Nat} (hk : mj_kd.getD o (99, 0) = (t, n)) (ht : t ≠ 22) (i : Int) : mj_InR (σ o i) := by
  have := (h o i).1
  rw [if_neg (by rw [hk]; intro q; cases q; exact ht rfl)] at this
  exact this
theorem mj_rg_j {σ : mj_W} (h : mj_rg σ) (o : Nat) (i : Int) : mj_InL (σ o i) := by
  have := (h o i).1
  by_cases hc : mj_kd.getD o (99, 0) = (22, 169)
  · rw [if_pos hc] at this; exact this
  · rw [if_neg hc] at this; omega
theorem mj_rg_z {σ : mj_W} (h : mj_rg σ) (o : Nat) (i : Int) (hi : ¬ (0 ≤ i ∧ i < (mj_ln o : Int))) : σ o i = 0 := (h o i).2 hi
