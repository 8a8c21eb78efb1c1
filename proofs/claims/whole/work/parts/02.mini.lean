/-! THE SMALL MACHINE: numbers are Int, a world is a function from cells and places to Int, references carry the kind of their cell -/
abbrev mj_V : Type := Int ⊕ (Int ⊕ ((Nat × Nat) × Nat))
abbrev iV (x : Int) : mj_V := Sum.inl x
abbrev jV (x : Int) : mj_V := Sum.inr (Sum.inl x)
abbrev rV (t n o : Nat) : mj_V := Sum.inr (Sum.inr ((t, n), o))
abbrev mj_W : Type := Nat → Int → Int
abbrev mj_L : Type := List (Option mj_V)
abbrev mj_E : Type := Nat × Instr × Nat × Nat × Nat × Int × List (Int × Nat)
abbrev mj_InR (x : Int) : Prop := -2147483648 ≤ x ∧ x ≤ 2147483647
abbrev mj_InL (x : Int) : Prop := -9223372036854775808 ≤ x ∧ x ≤ 9223372036854775807
def mj_up (σ : mj_W) (o : Nat) (i v : Int) : mj_W := fun o' i' => if o' = o ∧ i' = i then v else σ o' i'
def mj_cp (σ : mj_W) (a b : Nat) (n : Int) : mj_W := fun o' i' => if o' = b ∧ 0 ≤ i' ∧ i' < n then σ a i' else σ o' i'
def mj_vc (A k : Prop) : Prop := A ∧ k
theorem mj_vci {A k : Prop} (a : A) (b : k) : mj_vc A k := ⟨a, b⟩
theorem mj_ite {c a b : Prop} [Decidable c] (h1 : c → a) (h2 : ¬ c → b) : if c then a else b := by
  by_cases h : c
  · rw [if_pos h]; exact h1 h
  · rw [if_neg h]; exact h2 h
def mj_and (x y : Int) : Int := (Int32.ofInt x &&& Int32.ofInt y).toInt
def mj_or (x y : Int) : Int := (Int32.ofInt x ||| Int32.ofInt y).toInt
def mj_xor (x y : Int) : Int := (Int32.ofInt x ^^^ Int32.ofInt y).toInt
def mj_shl (x y : Int) : Int := (Int32.ofInt x <<< (Int32.ofInt y &&& 31)).toInt
def mj_shr (x y : Int) : Int := (Int32.ofInt x >>> (Int32.ofInt y &&& 31)).toInt
def mj_ush (x y : Int) : Int := ((Int32.ofInt x).toUInt32 >>> ((Int32.ofInt y).toUInt32 &&& Int32.toUInt32 31)).toInt32.toInt
def mj_east (i : Int) : Int := if i = 1 then 1 else if i = 3 then -1 else 0
def mj_north (i : Int) : Int := if i = 0 then 1 else if i = 2 then -1 else 0
/-- what each field of a class is: 0 an int, 1 a boolean, 2 a reference (how far its cell lies behind, its kind) -/
def mj_ft : List (List (Nat × Nat × Nat × Nat)) :=
 [
   [(2,1,1,0),(2,6,9,0),(2,9,6,0),(1,0,0,0)],
   [(2,1,20,8),(2,2,20,8),(2,3,20,8),(2,4,20,8),(0,0,0,0),(0,0,0,0),(0,0,0,0),(0,0,0,0)],
   [(0,0,0,0),(0,0,0,0),(0,0,0,0),(0,0,0,0)],
   [(2,1,20,256),(0,0,0,0),(0,0,0,0)],
   [(2,1,20,24),(0,0,0,0),(0,0,0,0)],
   [(2,1,20,60),(0,0,0,0)],
   [(2,1,20,8),(2,2,20,8),(2,3,20,8),(0,0,0,0)],
   [(2,1,20,169),(2,2,20,169),(0,0,0,0),(0,0,0,0)],
   [(0,0,0,0),(0,0,0,0),(0,0,0,0)],
   [(2,1,20,8),(2,2,20,8),(0,0,0,0)],
   [(0,0,0,0)],
   [(2,1,0,0),(2,14,23,2),(2,41,5,0),(2,43,2,0),(2,44,1,0),(2,49,8,0),(2,50,3,0),(2,52,4,0),(2,54,7,0),(2,57,10,0)],
   [(0,0,0,0),(2,1,20,8),(2,2,20,8),(2,3,20,8),(2,4,20,8),(0,0,0,0),(0,0,0,0),(0,0,0,0),(0,0,0,0),(2,5,20,8),(2,6,20,8),(2,7,20,8),(2,8,20,8),(2,9,20,8),(0,0,0,0),(2,10,20,60),(0,0,0,0),(2,11,20,60),(2,12,20,60),(2,13,20,60),(2,14,20,60),(0,0,0,0),(0,0,0,0),(2,15,20,33),(0,0,0,0),(0,0,0,0),(2,16,20,10),(2,17,20,10),(0,0,0,0),(0,0,0,0),(0,0,0,0),(0,0,0,0),(2,18,20,256),(2,19,20,8),(0,0,0,0),(0,0,0,0),(2,20,20,24),(2,21,22,169),(2,22,22,169),(2,23,20,180),(2,24,21,2),(0,0,0,0),(1,0,0,0)] ]
/-- of each cell its kind: a class and 0; 20 ints, 21 booleans, 22 longs, 23 books, and how many -/
def mj_kd : List (Nat × Nat) :=
 [(11,0), (0,0), (1,0), (20,8), (20,8), (20,8), (20,8), (9,0), (20,8), (20,8), (6,0), (20,8), (20,8), (20,8), (23,2), (0,0), (1,0), (20,8), (20,8), (20,8), (20,8), (9,0), (20,8), (20,8), (6,0), (20,8), (20,8), (20,8), (0,0), (1,0), (20,8), (20,8), (20,8), (20,8), (9,0), (20,8), (20,8), (6,0), (20,8), (20,8), (20,8), (5,0), (20,60), (2,0), (1,0), (20,8), (20,8), (20,8), (20,8), (8,0), (3,0), (20,256), (4,0), (20,24), (7,0), (20,169), (20,169), (10,0), (12,0), (20,8), (20,8), (20,8), (20,8), (20,8), (20,8), (20,8), (20,8), (20,8), (20,60), (20,60), (20,60), (20,60), (20,60), (20,33), (20,10), (20,10), (20,256), (20,8), (20,24), (22,169), (22,169), (20,180), (21,2)]
def mj_fi (t j : Nat) : Nat × Nat × Nat × Nat := (mj_ft.getD t []).getD j (9,0,0,0)
def mj_ld (l : mj_L) (i : Nat) : Option mj_V := match l[i]? with
  | some x => x
  | none => none
def mj_kl (l : mj_L) (i : Nat) : mj_L := match i with
  | 0 => l
  | j + 1 => match mj_ld l j with
    | some (.inr (.inl _)) => l.set j none
    | _ => l
def mj_sto1 (l : mj_L) (i : Nat) (v : mj_V) : mj_L := (mj_kl l i).set i (some v)
def mj_sto2 (l : mj_L) (i : Nat) (v : mj_V) : mj_L := ((mj_kl l i).set i (some v)).set (i + 1) none
/-- the same, told to a continuation: the list is laid out at once -/
def mj_stK : mj_L → Nat → mj_V → (mj_L → Prop) → Prop
  | [], _, _, c => c []
  | _ :: l, 0, v, c => c (some v :: l)
  | x :: l, 1, v, c => match x with
    | some (.inr (.inl _)) => mj_stK l 0 v (fun l' => c (none :: l'))
    | _ => mj_stK l 0 v (fun l' => c (x :: l'))
  | x :: l, i + 2, v, c => mj_stK l (i + 1) v (fun l' => c (x :: l'))
def mj_stN : mj_L → Nat → (mj_L → Prop) → Prop
  | [], _, c => c []
  | _ :: l, 0, c => c (none :: l)
  | x :: l, i + 1, c => mj_stN l i (fun l' => c (x :: l'))
theorem mj_stN_eq : ∀ (l : mj_L) (i : Nat) (c : mj_L → Prop), mj_stN l i c = c (l.set i none)
  | [], _, _ => rfl
  | _ :: _, 0, _ => rfl
  | x :: l, i + 1, c => mj_stN_eq l i (fun l' => c (x :: l'))
theorem mj_stK_eq : ∀ (l : mj_L) (i : Nat) (v : mj_V) (c : mj_L → Prop), mj_stK l i v c = c (mj_sto1 l i v)
  | [], 0, _, _ => rfl
  | [], 1, _, _ => rfl
  | [], i + 2, _, _ => rfl
  | _ :: _, 0, _, _ => rfl
  | none :: l, 1, v, c => mj_stK_eq l 0 v (fun l' => c (none :: l'))
  | some (.inl x) :: l, 1, v, c => mj_stK_eq l 0 v (fun l' => c (some (.inl x) :: l'))
  | some (.inr (.inl x)) :: l, 1, v, c => mj_stK_eq l 0 v (fun l' => c (none :: l'))
  | some (.inr (.inr x)) :: l, 1, v, c => mj_stK_eq l 0 v (fun l' => c (some (.inr (.inr x)) :: l'))
  | x :: l, i + 2, v, c => by
    have h := mj_stK_eq l (i + 1) v (fun l' => c (x :: l'))
    show mj_stK l (i + 1) v (fun l' => c (x :: l')) = _
    rw [h]
    unfold mj_sto1 mj_kl
    have e : mj_ld (x :: l) (i + 1) = mj_ld l i := rfl
    simp only [e]
    split <;> rfl
def mj_msk : mj_L → List Bool → mj_L
  | x :: l, true :: m => x :: mj_msk l m
  | _ :: l, false :: m => none :: mj_msk l m
  | l, [] => l
  | [], _ => []
def mj_sw (f : Nat → Prop) (x : Int) (d : Nat) : List (Int × Nat) → Prop
  | [] => f d
  | q :: r => if x = q.1 then f q.2 else mj_sw f x d r
def mj_br (c : Jvm.ClassFile.Cond) (x y : Int) (kt kf : Prop) : Prop := match c with
  | .eq => if x = y then kt else kf
  | .ne => if x = y then kf else kt
  | .lt => if x < y then kt else kf
  | .ge => if x < y then kf else kt
  | .gt => if y < x then kt else kf
  | .le => if y < x then kf else kt
def mj_cc (b : Nat) : Jvm.ClassFile.Cond := match b with
  | 0 => .eq | 1 => .ne | 2 => .lt | 3 => .ge | 4 => .gt | _ => .le
/-- how many words a stack takes -/
def mj_sz : List mj_V → Nat
  | [] => 0
  | .inl _ :: r => mj_sz r + 1
  | .inr (.inl _) :: r => mj_sz r + 2
  | .inr (.inr _) :: r => mj_sz r + 1
def mj_push (k : mj_L → List mj_V → mj_W → Prop) (loc : mj_L) (st : List mj_V) (r : Option mj_V) (σ : mj_W) : Prop := match r with
  | none => k loc st σ
  | some v => k loc (v :: st) σ
section
variable (k : Nat → mj_L → List mj_V → mj_W → Prop) (K : Option mj_V → mj_W → Prop) (C : Nat → List mj_V → mj_W → (Option mj_V → mj_W → Prop) → Prop) (Sx : Option (Int → Int))
def mj_x_ild (nx a : Nat) (loc : mj_L) (st : List mj_V) (σ : mj_W) : Prop := match mj_ld loc a with
  | some (.inl x) => k nx loc (iV x :: st) σ
  | _ => False
def mj_x_jld (nx a : Nat) (loc : mj_L) (st : List mj_V) (σ : mj_W) : Prop := match mj_ld loc a with
  | some (.inr (.inl x)) => k nx loc (jV x :: st) σ
  | _ => False
def mj_x_rld (nx a : Nat) (loc : mj_L) (st : List mj_V) (σ : mj_W) : Prop := match mj_ld loc a with
  | some (.inr (.inr q)) => k nx loc (.inr (.inr q) :: st) σ
  | _ => False
def mj_x_ist (nx a : Nat) (loc : mj_L) (st : List mj_V) (σ : mj_W) : Prop := match st with
  | .inl x :: r => mj_stK loc a (iV x) (fun l' => k nx l' r σ)
  | _ => False
def mj_x_rst (nx a : Nat) (loc : mj_L) (st : List mj_V) (σ : mj_W) : Prop := match st with
  | .inr (.inr q) :: r => mj_stK loc a (.inr (.inr q)) (fun l' => k nx l' r σ)
  | _ => False
def mj_x_jst (nx a : Nat) (loc : mj_L) (st : List mj_V) (σ : mj_W) : Prop := match st with
  | .inr (.inl x) :: r => mj_stK loc a (jV x) (fun l' => mj_stN l' (a + 1) (fun l' => k nx l' r σ))
  | _ => False
def mj_x_inc (nx a : Nat) (im : Int) (loc : mj_L) (st : List mj_V) (σ : mj_W) : Prop := match mj_ld loc a with
  | some (.inl x) => mj_vc (mj_InR (x + im)) (mj_stK loc a (iV (x + im)) (fun l' => k nx l' st σ))
  | _ => False
def mj_x_bin (f : Int → Int → Int) (nx : Nat) (loc : mj_L) (st : List mj_V) (σ : mj_W) : Prop := match st with
  | .inl y :: .inl x :: r => k nx loc (iV (f x y) :: r) σ
  | _ => False
def mj_x_iadd (nx : Nat) (loc : mj_L) (st : List mj_V) (σ : mj_W) : Prop := match st with
  | .inl y :: .inl x :: r => mj_vc (mj_InR (x + y)) (k nx loc (iV (x + y) :: r) σ)
  | _ => False
def mj_x_isub (nx : Nat) (loc : mj_L) (st : List mj_V) (σ : mj_W) : Prop := match st with
  | .inl y :: .inl x :: r => mj_vc (mj_InR (x - y)) (k nx loc (iV (x - y) :: r) σ)
  | _ => False
def mj_x_imul (nx : Nat) (loc : mj_L) (st : List mj_V) (σ : mj_W) : Prop := match st with
  | .inl y :: .inl x :: r => mj_vc (mj_InR (x * y)) (k nx loc (iV (x * y) :: r) σ)
  | _ => False
def mj_x_idiv (nx : Nat) (loc : mj_L) (st : List mj_V) (σ : mj_W) : Prop := match st with
  | .inl y :: .inl x :: r => mj_vc (0 ≤ x ∧ 0 < y) (k nx loc (iV (x / y) :: r) σ)
  | _ => False
def mj_x_irem (nx : Nat) (loc : mj_L) (st : List mj_V) (σ : mj_W) : Prop := match st with
  | .inl y :: .inl x :: r => mj_vc (0 ≤ x ∧ 0 < y) (k nx loc (iV (x % y) :: r) σ)
  | _ => False
def mj_x_ladd (nx : Nat) (loc : mj_L) (st : List mj_V) (σ : mj_W) : Prop := match st with
  | .inr (.inl y) :: .inr (.inl x) :: r => mj_vc (mj_InL (x + y)) (k nx loc (jV (x + y) :: r) σ)
  | _ => False
def mj_x_lmul (nx : Nat) (loc : mj_L) (st : List mj_V) (σ : mj_W) : Prop := match st with
  | .inr (.inl y) :: .inr (.inl x) :: r => mj_vc (mj_InL (x * y)) (k nx loc (jV (x * y) :: r) σ)
  | _ => False
def mj_x_ldiv (nx : Nat) (loc : mj_L) (st : List mj_V) (σ : mj_W) : Prop := match st with
  | .inr (.inl y) :: .inr (.inl x) :: r => mj_vc (0 ≤ x ∧ 0 < y) (k nx loc (jV (x / y) :: r) σ)
  | _ => False
def mj_x_lrem (nx : Nat) (loc : mj_L) (st : List mj_V) (σ : mj_W) : Prop := match st with
  | .inr (.inl y) :: .inr (.inl x) :: r => mj_vc (0 ≤ x ∧ 0 < y) (k nx loc (jV (x % y) :: r) σ)
  | _ => False
def mj_x_neg (nx : Nat) (loc : mj_L) (st : List mj_V) (σ : mj_W) : Prop := match st with
  | .inl x :: r => mj_vc (mj_InR (-x)) (k nx loc (iV (-x) :: r) σ)
  | _ => False
def mj_x_i2l (nx : Nat) (loc : mj_L) (st : List mj_V) (σ : mj_W) : Prop := match st with
  | .inl x :: r => k nx loc (jV x :: r) σ
  | _ => False
def mj_x_l2i (nx : Nat) (loc : mj_L) (st : List mj_V) (σ : mj_W) : Prop := match st with
  | .inr (.inl x) :: r => mj_vc (mj_InR x) (k nx loc (iV x :: r) σ)
  | _ => False
def mj_x_dup (nx : Nat) (loc : mj_L) (st : List mj_V) (σ : mj_W) : Prop := match st with
  | .inl x :: r => k nx loc (iV x :: iV x :: r) σ
  | .inr (.inr q) :: r => k nx loc (.inr (.inr q) :: .inr (.inr q) :: r) σ
  | _ => False
def mj_x_dup2 (nx : Nat) (loc : mj_L) (st : List mj_V) (σ : mj_W) : Prop := match st with
  | .inl x :: .inr (.inr q) :: r => k nx loc (iV x :: .inr (.inr q) :: iV x :: .inr (.inr q) :: r) σ
  | _ => False
def mj_x_if (c : Jvm.ClassFile.Cond) (nx a : Nat) (loc : mj_L) (st : List mj_V) (σ : mj_W) : Prop := match st with
  | .inl x :: r => mj_br c x 0 (k a loc r σ) (k nx loc r σ)
  | _ => False
def mj_x_icmp (c : Jvm.ClassFile.Cond) (nx a : Nat) (loc : mj_L) (st : List mj_V) (σ : mj_W) : Prop := match st with
  | .inl y :: .inl x :: r => mj_br c x y (k a loc r σ) (k nx loc r σ)
  | _ => False
def mj_x_lcmp (b nx a : Nat) (loc : mj_L) (st : List mj_V) (σ : mj_W) : Prop := match st with
  | .inr (.inl y) :: .inr (.inl x) :: r => mj_br (mj_cc b) x y (k a loc r σ) (k nx loc r σ)
  | _ => False
def mj_x_sw (a : Nat) (ts : List (Int × Nat)) (loc : mj_L) (st : List mj_V) (σ : mj_W) : Prop := match st with
  | .inl x :: r => mj_sw (fun t => k t loc r σ) x a ts
  | _ => False
def mj_x_get (nx a b : Nat) (im : Int) (loc : mj_L) (st : List mj_V) (σ : mj_W) : Prop := match st with
  | .inr (.inr ((t, _), o)) :: r => match Nat.beq t a with
    | true => match mj_fi a b with
      | (0, _, _, _) => k nx loc (iV (σ o im) :: r) σ
      | (1, _, _, _) => k nx loc (iV (σ o im) :: r) σ
      | (2, off, t', n') => k nx loc (rV t' n' (o + off) :: r) σ
      | _ => False
    | false => False
  | _ => False
def mj_x_put (nx a b : Nat) (im : Int) (loc : mj_L) (st : List mj_V) (σ : mj_W) : Prop := match st with
  | .inl x :: .inr (.inr ((t, _), o)) :: r => match Nat.beq t a with
    | true => match mj_fi a b with
      | (0, _, _, _) => k nx loc r (mj_up σ o im x)
      | (1, _, _, _) => mj_vc (x = 0 ∨ x = 1) (k nx loc r (mj_up σ o im x))
      | _ => False
    | false => False
  | _ => False
def mj_x_iald (nx : Nat) (loc : mj_L) (st : List mj_V) (σ : mj_W) : Prop := match st with
  | .inl i :: .inr (.inr ((t, n), o)) :: r => match t with
    | 20 => mj_vc (0 ≤ i ∧ i < (n : Int)) (k nx loc (iV (σ o i) :: r) σ)
    | 25 => mj_vc (0 ≤ i ∧ i < 4) (k nx loc (iV (mj_east i) :: r) σ)
    | 26 => mj_vc (0 ≤ i ∧ i < 4) (k nx loc (iV (mj_north i) :: r) σ)
    | 27 => match Sx with
      | some f => mj_vc (0 ≤ i ∧ i < (n : Int)) (k nx loc (iV (f i) :: r) σ)
      | none => False
    | _ => False
  | _ => False
def mj_x_iast (nx : Nat) (loc : mj_L) (st : List mj_V) (σ : mj_W) : Prop := match st with
  | .inl x :: .inl i :: .inr (.inr ((t, n), o)) :: r => match t with
    | 20 => mj_vc (0 ≤ i ∧ i < (n : Int)) (k nx loc r (mj_up σ o i x))
    | _ => False
  | _ => False
def mj_x_bald (nx : Nat) (loc : mj_L) (st : List mj_V) (σ : mj_W) : Prop := match st with
  | .inl i :: .inr (.inr ((t, n), o)) :: r => match t with
    | 21 => mj_vc (0 ≤ i ∧ i < (n : Int)) (k nx loc (iV (σ o i) :: r) σ)
    | _ => False
  | _ => False
def mj_x_bast (nx : Nat) (loc : mj_L) (st : List mj_V) (σ : mj_W) : Prop := match st with
  | .inl x :: .inl i :: .inr (.inr ((t, n), o)) :: r => match t with
    | 21 => mj_vc ((0 ≤ i ∧ i < (n : Int)) ∧ (x = 0 ∨ x = 1)) (k nx loc r (mj_up σ o i x))
    | _ => False
  | _ => False
def mj_x_jald (nx : Nat) (loc : mj_L) (st : List mj_V) (σ : mj_W) : Prop := match st with
  | .inl i :: .inr (.inr ((t, n), o)) :: r => match t with
    | 22 => mj_vc (0 ≤ i ∧ i < (n : Int)) (k nx loc (jV (σ o i) :: r) σ)
    | _ => False
  | _ => False
def mj_x_jast (nx : Nat) (loc : mj_L) (st : List mj_V) (σ : mj_W) : Prop := match st with
  | .inr (.inl x) :: .inl i :: .inr (.inr ((t, n), o)) :: r => match t with
    | 22 => mj_vc (0 ≤ i ∧ i < (n : Int)) (k nx loc r (mj_up σ o i x))
    | _ => False
  | _ => False
def mj_x_rald (nx : Nat) (loc : mj_L) (st : List mj_V) (σ : mj_W) : Prop := match st with
  | .inl i :: .inr (.inr ((t, _), o)) :: r => match t with
    | 23 => mj_vc (0 ≤ i ∧ i < 2) (if i = 0 then k nx loc (rV 0 0 (o + 1) :: r) σ else k nx loc (rV 0 0 (o + 14) :: r) σ)
    | _ => False
  | _ => False
def mj_x_len (nx : Nat) (loc : mj_L) (st : List mj_V) (σ : mj_W) : Prop := match st with
  | .inr (.inr ((t, n), _)) :: r => match t with
    | 27 => k nx loc (iV (n : Int) :: r) σ
    | _ => False
  | _ => False
def mj_x_call (nx a b : Nat) (loc : mj_L) (st : List mj_V) (σ : mj_W) : Prop := match Nat.ble (mj_sz (st.drop b)) 8, Nat.ble b st.length with
  | true, true => C a (st.take b).reverse σ (mj_push (k nx) loc (st.drop b))
  | _, _ => False
def mj_x_vcall (nx a b : Nat) (ts : List (Int × Nat)) (loc : mj_L) (st : List mj_V) (σ : mj_W) : Prop := match Nat.ble (mj_sz (st.drop b)) 8, Nat.ble b st.length, (st.take b).reverse, ts with
  | true, true, .inr (.inr ((t, n), o)) :: r, [q] => match Nat.beq t q.2 with
    | true => C a (rV t n o :: r) σ (mj_push (k nx) loc (st.drop b))
    | false => False
  | _, _, _, _ => False
def mj_x_inv (nx a b : Nat) (loc : mj_L) (st : List mj_V) (σ : mj_W) : Prop := match a with
  | 1000 => match st with
    | .inl n :: .inl dp :: .inr (.inr ((td, nd), d)) :: .inl sp :: .inr (.inr ((ts, ns), s)) :: r => match Nat.beq td 20, Nat.beq ts 20, Nat.ble r.length 4 with
      | true, true, true => mj_vc ((sp = 0 ∧ dp = 0) ∧ 0 ≤ n ∧ n ≤ (ns : Int) ∧ n ≤ (nd : Int)) (k nx loc r (mj_cp σ s d n))
      | _, _, _ => False
    | _ => False
  | 1001 => match st with
    | .inl y :: .inl x :: r => match Nat.ble r.length 4 with
      | true => k nx loc (iV (max x y) :: r) σ
      | false => False
    | _ => False
  | 1002 => match st with
    | .inl y :: .inl x :: r => match Nat.ble r.length 4 with
      | true => k nx loc (iV (min x y) :: r) σ
      | false => False
    | _ => False
  | 1003 => match st with
    | .inl x :: r => match Nat.ble r.length 4 with
      | true => mj_vc (-2147483648 < x) (k nx loc (iV (if x < 0 then -x else x) :: r) σ)
      | false => False
    | _ => False
  | _ => mj_x_call k C nx a b loc st σ
def mj_x_iret (b : Nat) (st : List mj_V) (σ : mj_W) : Prop := match st with
  | [.inl x] => match b with
    | 0 => K (some (iV x)) σ
    | _ => mj_vc (x = 0 ∨ x = 1) (K (some (iV x)) σ)
  | _ => False
def mj_x_jret (st : List mj_V) (σ : mj_W) : Prop := match st with
  | [.inr (.inl x)] => K (some (jV x)) σ
  | _ => False
def mj_x_vret (st : List mj_V) (σ : mj_W) : Prop := match st with
  | [] => K none σ
  | _ => False
def mj_x (q : mj_E) (loc : mj_L) (st : List mj_V) (σ : mj_W) : Prop := match q with
  | (_, ins, nx, a, b, im, ts) => match ins with
    | .iconst _ => k nx loc (iV im :: st) σ
    | .bipush _ => k nx loc (iV im :: st) σ
    | .sipush _ => k nx loc (iV im :: st) σ
    | .ldc _ => k nx loc (iV im :: st) σ
    | .ldc_w _ => k nx loc (iV im :: st) σ
    | .lconst _ => k nx loc (jV im :: st) σ
    | .ldc2_w _ => k nx loc (jV im :: st) σ
    | .iload _ => mj_x_ild k nx a loc st σ
    | .iload_n _ => mj_x_ild k nx a loc st σ
    | .lload _ => mj_x_jld k nx a loc st σ
    | .lload_n _ => mj_x_jld k nx a loc st σ
    | .aload _ => mj_x_rld k nx a loc st σ
    | .aload_n _ => mj_x_rld k nx a loc st σ
    | .istore _ => mj_x_ist k nx a loc st σ
    | .istore_n _ => mj_x_ist k nx a loc st σ
    | .astore _ => mj_x_rst k nx a loc st σ
    | .astore_n _ => mj_x_rst k nx a loc st σ
    | .lstore _ => mj_x_jst k nx a loc st σ
    | .iinc _ _ => mj_x_inc k nx a im loc st σ
    | .iadd => mj_x_iadd k nx loc st σ
    | .isub => mj_x_isub k nx loc st σ
    | .imul => mj_x_imul k nx loc st σ
    | .idiv => mj_x_idiv k nx loc st σ
    | .irem => mj_x_irem k nx loc st σ
    | .ineg => mj_x_neg k nx loc st σ
    | .iand => mj_x_bin k mj_and nx loc st σ
    | .ior => mj_x_bin k mj_or nx loc st σ
    | .ixor => mj_x_bin k mj_xor nx loc st σ
    | .ishl => mj_x_bin k mj_shl nx loc st σ
    | .ishr => mj_x_bin k mj_shr nx loc st σ
    | .iushr => mj_x_bin k mj_ush nx loc st σ
    | .ladd => mj_x_ladd k nx loc st σ
    | .lmul => mj_x_lmul k nx loc st σ
    | .ldiv => mj_x_ldiv k nx loc st σ
    | .lrem => mj_x_lrem k nx loc st σ
    | .i2l => mj_x_i2l k nx loc st σ
    | .l2i => mj_x_l2i k nx loc st σ
    | .dup => mj_x_dup k nx loc st σ
    | .dup2 => mj_x_dup2 k nx loc st σ
    | .goto _ => k nx loc st σ
    | .ifCond c _ => mj_x_if k c nx a loc st σ
    | .if_icmp c _ => mj_x_icmp k c nx a loc st σ
    | .lcmp => mj_x_lcmp k b nx a loc st σ
    | .tableswitch _ _ _ _ => mj_x_sw k a ts loc st σ
    | .lookupswitch _ _ => mj_x_sw k a ts loc st σ
    | .getfield _ => mj_x_get k nx a b im loc st σ
    | .putfield _ => mj_x_put k nx a b im loc st σ
    | .getstatic _ => match a with
      | 25 => k nx loc (rV 25 4 0 :: st) σ
      | 26 => k nx loc (rV 26 4 0 :: st) σ
      | _ => False
    | .iaload => mj_x_iald k Sx nx loc st σ
    | .iastore => mj_x_iast k nx loc st σ
    | .baload => mj_x_bald k nx loc st σ
    | .bastore => mj_x_bast k nx loc st σ
    | .laload => mj_x_jald k nx loc st σ
    | .lastore => mj_x_jast k nx loc st σ
    | .aaload => mj_x_rald k nx loc st σ
    | .arraylength => mj_x_len k nx loc st σ
    | .invokevirtual _ => mj_x_vcall k C nx a b ts loc st σ
    | .invokestatic _ => mj_x_inv k C nx a b loc st σ
    | .ireturn => mj_x_iret K b st σ
    | .lreturn => mj_x_jret K st σ
    | .return_ => mj_x_vret K st σ
    | _ => False
end
def mj_get (pc : Nat) : List (Nat × List mj_E) → Option mj_E
  | [] => none
  | q :: r => match Nat.ble q.1 pc with
    | true => mj_get pc r
    | false => q.2.find? (fun e => Nat.beq e.1 pc)
def mj_cut (pc : Nat) : List (Nat × List Bool) → Option (List Bool)
  | [] => none
  | q :: r => match Nat.beq q.1 pc with
    | true => some q.2
    | false => mj_cut pc r
def mj_wp (tb : List (Nat × List mj_E)) (cuts : List (Nat × List Bool)) (k0 : Nat → mj_L → List mj_V → mj_W → Prop) (K : Option mj_V → mj_W → Prop) (C : Nat → List mj_V → mj_W → (Option mj_V → mj_W → Prop) → Prop) (Sx : Option (Int → Int)) : Nat → Nat → mj_L → List mj_V → mj_W → Prop
  | 0, pc, loc, st, σ => k0 pc loc st σ
  | f + 1, pc, loc, st, σ => match mj_get pc tb with
    | none => False
    | some q => mj_x (fun pc' loc' st' σ' => match mj_cut pc' cuts with
        | some ms => k0 pc' (mj_msk loc' ms) st' σ'
        | none => mj_wp tb cuts k0 K C Sx f pc' loc' st' σ') K C Sx q loc st σ
