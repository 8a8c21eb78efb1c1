/-! the model reads its pad: acts are held in g + 11 .. g + 14, field 21 counts them -/
def q_tup (σ : mj_W) (g : Nat) (k : Int) : q_A := (σ (g + 11) k, σ (g + 12) k, σ (g + 13) k, σ (g + 14) k)
def q_held (σ : mj_W) (g : Nat) : Int → List q_A → Prop
  | _, [] => True
  | k, a :: l => a = q_tup σ g k ∧ q_held σ g (k + 1) l
theorem q_held_f {σ σ' : mj_W} {g : Nat} {m : Int} (h : ∀ k, k < m → q_tup σ' g k = q_tup σ g k) : ∀ (l : List q_A) (k : Int), k + l.length ≤ m → q_held σ g k l → q_held σ' g k l
  | [], k, _, _ => trivial
  | a :: l, k, hk, hh => by
    have e : ((a :: l).length : Int) = (l.length : Int) + 1 := by rw [List.length_cons]; omega
    refine ⟨?_, q_held_f h l (k + 1) (by omega) hh.2⟩
    rw [h k (by omega)]
    exact hh.1
theorem q_held_s {σ : mj_W} {g : Nat} {a : q_A} : ∀ (l : List q_A) (k : Int), q_held σ g k l → a = q_tup σ g (k + l.length) → q_held σ g k (l ++ [a])
  | [], k, _, ha => by
    refine ⟨?_, trivial⟩
    rw [ha]
    congr 1
    show k + ((0 : Nat) : Int) = k
    omega
  | b :: l, k, hh, ha => by
    have e : ((b :: l).length : Int) = (l.length : Int) + 1 := by rw [List.length_cons]; omega
    refine ⟨hh.1, q_held_s l (k + 1) hh.2 ?_⟩
    rw [ha, e]
    congr 1
    omega
theorem q_rep_s {sg : Int → Int} {a : q_A} {b : Int} (ha : a = q_actAt sg b) (hok : q_aok a) : ∀ (l : List q_A) (i : Int), q_rep sg b i l → q_rep sg (b + q_alen a) i (l ++ [a])
  | [], i, h => by
    have h : i = b := h
    subst h
    exact ⟨ha, hok, Int.le_refl _, rfl⟩
  | c :: l, i, h => by
    obtain ⟨h1, h2, h3, h4⟩ := h
    have la := q_alen_in a
    exact ⟨h1, h2, by omega, q_rep_s ha hok l _ h4⟩
theorem q_rep_u {sg : Int → Int} {L : Int} : ∀ (l l' : List q_A) (i : Int), q_rep sg L i l → q_rep sg L i l' → l = l'
  | [], [], _, _, _ => rfl
  | [], a :: l', i, h, h' => by
    have h : i = L := h
    have la := q_alen_in a
    have := h'.2.2.1
    omega
  | a :: l, [], i, h, h' => by
    have h' : i = L := h'
    have la := q_alen_in a
    have := h.2.2.1
    omega
  | a :: l, a' :: l', i, h, h' => by
    obtain ⟨h1, h2, h3, h4⟩ := h
    obtain ⟨g1, g2, g3, g4⟩ := h'
    have e : a' = a := by rw [h1, g1]
    subst e
    rw [q_rep_u l l' _ h4 g4]
/-- reading touches only the acts and their number -/
def q_rw (σ σ' : mj_W) (g : Nat) : Prop := (∀ f, f ≠ 21 → σ' g f = σ g f) ∧ (∀ o, o ≠ g → o ≠ g + 11 → o ≠ g + 12 → o ≠ g + 13 → o ≠ g + 14 → σ' o = σ o)
def q_rf (σ σ' : mj_W) (g : Nat) : Prop := q_rw σ σ' g ∧ (∀ k, k ≠ σ g 21 → q_tup σ' g k = q_tup σ g k)
def q_rp (σ σ' : mj_W) (g : Nat) (d x : Int) : Prop :=
  (d = 0 ∧ q_let x ∧ σ' g 21 = σ g 21 ∧ σ' (g + 12) (σ g 21) = x - 65) ∨
  (d = 0 ∧ x = 46 ∧ σ' g 21 = σ g 21 + 1 ∧ q_tup σ' g (σ g 21) = (3, 0, 0, 0)) ∨
  (d = 1 ∧ q_dir x ≠ -6 ∧ σ' g 21 = σ g 21 ∧ σ' (g + 12) (σ g 21) = σ (g + 12) (σ g 21) ∧ σ' (g + 13) (σ g 21) = q_dir x) ∨
  (d = 1 ∧ x = 62 ∧ σ' g 21 = σ g 21 ∧ σ' (g + 12) (σ g 21) = σ (g + 12) (σ g 21)) ∨
  (d = 1 ∧ x = 120 ∧ σ' g 21 = σ g 21 + 1 ∧ q_tup σ' g (σ g 21) = (1, σ (g + 12) (σ g 21), 0, 0)) ∨
  (d = 2 ∧ (49 ≤ x ∧ x ≤ 57) ∧ σ' g 21 = σ g 21 + 1 ∧ q_tup σ' g (σ g 21) = (0, σ (g + 12) (σ g 21), σ (g + 13) (σ g 21), x - 48)) ∨
  (d = 3 ∧ q_let x ∧ σ' g 21 = σ g 21 + 1 ∧ q_tup σ' g (σ g 21) = (2, σ (g + 12) (σ g 21), x - 65, 0))
theorem q_dir_of {x r : Int} (h : (x = 110 ∧ r = 0) ∨ (x = 101 ∧ r = 1) ∨ (x = 115 ∧ r = 2) ∨ (x = 119 ∧ r = 3)) : q_dir x = r := by
  rcases h with ⟨h1, h2⟩ | ⟨h1, h2⟩ | ⟨h1, h2⟩ | ⟨h1, h2⟩ <;> subst h1 <;> subst h2 <;> rfl
section M17
variable {n g : Nat} {σ : mj_W} {K : Option mj_V → mj_W → Prop} {x y z p w i j c d he k : Int}
theorem c_M_readOn (hd : 0 ≤ d ∧ d ≤ 3) (ha : 0 ≤ σ g 21 ∧ σ g 21 ≤ 59) (hx : 0 ≤ x ∧ x ≤ 200) (h0 : q_due d x = 4 → ∀ σ', q_rw σ σ' g → K (some (iV (-6))) σ') (h1 : ∀ r σ', r = q_due d x → 0 ≤ r ∧ r ≤ 3 → q_rf σ σ' g → q_rp σ σ' g d x → K (some (iV r)) σ') : mj_Ok (n + 4) i_M_readOn [rV 12 0 g, iV d, iV x] σ K := by
  refine mj_enter (by decide) (Nat.le_of_ble_eq_true rfl) (fun hg => ?_)
  refine r_M_readOn [] 600 ?_
  by_cases e0 : d = 0
  · subst e0
    repeat' (first | (refine mj_ite (fun h => ?_) (fun h => ?_) <;> first | (exfalso; omega) | skip) | refine mj_vci (by first | omega | (simp (disch := omega) only [up_ne, up_at, q_up_at, q_up_ne, cp_ne]; omega)) ?_)
    refine c_M_begin ha (fun b1 b2 σ' s1 s2 => ?_) (fun b1 σ' s1 s2 s3 s4 s5 s6 => ?_) (fun b1 b2 σ' s1 => ?_)
    · have sg := s2 g (by omega)
      refine h1 _ σ' (by unfold q_due; rw [if_pos rfl, if_neg (by omega), if_pos ⟨b1, b2⟩]) (by omega) ⟨⟨fun f _ => by rw [sg], fun o _ _ o3 _ _ => s2 o o3⟩, fun k hk => ?_⟩ (Or.inl ⟨rfl, ⟨b1, b2⟩, by rw [sg], by rw [s1, q_up_at]⟩)
      unfold q_tup
      rw [s1, q_up_ne _ _ hk, s2 (g + 11) (by omega), s2 (g + 13) (by omega), s2 (g + 14) (by omega)]
    · refine h1 _ σ' (by unfold q_due; rw [if_pos rfl, if_pos b1]) (by omega) ⟨⟨fun f hf => by rw [s5, q_up_ne _ _ hf], fun o o1 o2 o3 o4 o5 => s6 o o1 o2 o3 o4 o5⟩, fun k hk => ?_⟩ (Or.inr (Or.inl ⟨rfl, b1, by rw [s5, q_up_at], ?_⟩))
      · unfold q_tup
        rw [s1, s2, s3, s4, q_up_ne _ _ hk, q_up_ne _ _ hk, q_up_ne _ _ hk, q_up_ne _ _ hk]
      · unfold q_tup
        rw [s1, s2, s3, s4, q_up_at, q_up_at, q_up_at, q_up_at]
    · have sg := s1 g (by omega)
      exact h0 (by unfold q_due; rw [if_pos rfl, if_neg b2, if_neg b1]) σ' ⟨fun f _ => by rw [sg], fun o _ _ o3 _ _ => s1 o o3⟩
  by_cases e1 : d = 1
  · subst e1
    repeat' (first | (refine mj_ite (fun h => ?_) (fun h => ?_) <;> first | (exfalso; omega) | skip) | refine mj_vci (by first | omega | (simp (disch := omega) only [up_ne, up_at, q_up_at, q_up_ne, cp_ne]; omega)) ?_)
    refine c_M_deed ha (fun r b1 σ' s1 s2 => ?_) (fun b1 σ' s1 s2 => ?_) (fun b1 σ' s1 s2 s3 s4 s5 => ?_) (fun b1 b2 b3 b4 b5 b6 σ' s1 => ?_)
    · have sg := s2 g (by omega)
      have dr := q_dir_of b1
      refine h1 _ σ' (by unfold q_due; rw [if_neg (by omega), if_pos rfl, if_neg (by omega), if_neg (by omega), if_pos (by omega)]) (by omega) ⟨⟨fun f _ => by rw [sg], fun o _ _ _ o4 _ => s2 o o4⟩, fun k hk => ?_⟩ (Or.inr (Or.inr (Or.inl ⟨rfl, by omega, by rw [sg], by rw [s2 (g + 12) (by omega)], by rw [s1, q_up_at, dr]⟩)))
      unfold q_tup
      rw [s1, q_up_ne _ _ hk, s2 (g + 11) (by omega), s2 (g + 12) (by omega), s2 (g + 14) (by omega)]
    · have sg := s2 g (by omega)
      refine h1 _ σ' (by unfold q_due; rw [if_neg (by omega), if_pos rfl, if_neg (by omega), if_pos b1]) (by omega) ⟨⟨fun f _ => by rw [sg], fun o _ _ _ o4 _ => s2 o o4⟩, fun k hk => ?_⟩ (Or.inr (Or.inr (Or.inr (Or.inl ⟨rfl, b1, by rw [sg], by rw [s2 (g + 12) (by omega)]⟩))))
      unfold q_tup
      rw [s1, q_up_ne _ _ hk, s2 (g + 11) (by omega), s2 (g + 12) (by omega), s2 (g + 14) (by omega)]
    · refine h1 _ σ' (by unfold q_due; rw [if_neg (by omega), if_pos rfl, if_pos b1]) (by omega) ⟨⟨fun f hf => by rw [s4, q_up_ne _ _ hf], fun o o1 o2 _ o4 o5 => s5 o o1 o2 o4 o5⟩, fun k hk => ?_⟩ (Or.inr (Or.inr (Or.inr (Or.inr (Or.inl ⟨rfl, b1, by rw [s4, q_up_at], ?_⟩)))))
      · unfold q_tup
        rw [s1, s2, s3, s5 (g + 12) (by omega) (by omega) (by omega) (by omega), q_up_ne _ _ hk, q_up_ne _ _ hk, q_up_ne _ _ hk]
      · unfold q_tup
        rw [s1, s2, s3, s5 (g + 12) (by omega) (by omega) (by omega) (by omega), q_up_at, q_up_at, q_up_at]
    · have sg := s1 g (by omega)
      have dn : q_dir x = -6 := by unfold q_dir; rw [if_neg b2, if_neg b1, if_neg b3, if_neg b4]
      exact h0 (by unfold q_due; rw [if_neg (by omega), if_pos rfl, if_neg b6, if_neg b5, if_neg (by omega)]) σ' ⟨fun f _ => by rw [sg], fun o _ _ _ o4 _ => s1 o o4⟩
  by_cases e2 : d = 2
  · subst e2
    repeat' (first | (refine mj_ite (fun h => ?_) (fun h => ?_) <;> first | (exfalso; omega) | skip) | refine mj_vci (by first | omega | (simp (disch := omega) only [up_ne, up_at, q_up_at, q_up_ne, cp_ne]; omega)) ?_)
    refine c_M_in (fun a1 a2 => ?_) (fun a0 => ?_)
    · repeat' (first | (refine mj_ite (fun h => ?_) (fun h => ?_) <;> first | (exfalso; omega) | skip) | refine mj_vci (by first | omega | (simp (disch := omega) only [up_ne, up_at, q_up_at, q_up_ne, cp_ne]; omega)) ?_)
      refine c_M_close ha (fun σ' s1 s2 s3 s4 s5 => ?_)
      repeat' (first | (refine mj_ite (fun h => ?_) (fun h => ?_) <;> first | (exfalso; omega) | skip) | refine mj_vci (by first | omega | (simp (disch := omega) only [up_ne, up_at, q_up_at, q_up_ne, cp_ne]; omega)) ?_)
      refine h1 _ σ' (by unfold q_due; rw [if_neg (by omega), if_neg (by omega), if_pos rfl, if_pos ⟨a1, a2⟩]) (by omega) ⟨⟨fun f hf => by rw [s4, q_up_ne _ _ hf], fun o o1 o2 _ o4 o5 => s5 o o1 o2 o4 o5⟩, fun k hk => ?_⟩ (Or.inr (Or.inr (Or.inr (Or.inr (Or.inr (Or.inl ⟨rfl, ⟨a1, a2⟩, by rw [s4, q_up_at], ?_⟩))))))
      · unfold q_tup
        rw [s1, s2, s3, s5 (g + 12) (by omega) (by omega) (by omega) (by omega), q_up_ne _ _ hk, q_up_ne _ _ hk, q_up_ne _ _ hk]
      · unfold q_tup
        rw [s1, s2, s3, s5 (g + 12) (by omega) (by omega) (by omega) (by omega), q_up_at, q_up_at, q_up_at]
    · repeat' (first | (refine mj_ite (fun h => ?_) (fun h => ?_) <;> first | (exfalso; omega) | skip) | refine mj_vci (by first | omega | (simp (disch := omega) only [up_ne, up_at, q_up_at, q_up_ne, cp_ne]; omega)) ?_)
      exact h0 (by unfold q_due; rw [if_neg (by omega), if_neg (by omega), if_pos rfl, if_neg a0]) σ ⟨fun f _ => rfl, fun o _ _ _ _ _ => rfl⟩
  have e3 : d = 3 := by omega
  subst e3
  repeat' (first | (refine mj_ite (fun h => ?_) (fun h => ?_) <;> first | (exfalso; omega) | skip) | refine mj_vci (by first | omega | (simp (disch := omega) only [up_ne, up_at, q_up_at, q_up_ne, cp_ne]; omega)) ?_)
  refine c_M_isLetter (fun a1 a2 => ?_) (fun a0 => ?_)
  · repeat' (first | (refine mj_ite (fun h => ?_) (fun h => ?_) <;> first | (exfalso; omega) | skip) | refine mj_vci (by first | omega | (simp (disch := omega) only [up_ne, up_at, q_up_at, q_up_ne, cp_ne]; omega)) ?_)
    refine c_M_close ha (fun σ' s1 s2 s3 s4 s5 => ?_)
    repeat' (first | (refine mj_ite (fun h => ?_) (fun h => ?_) <;> first | (exfalso; omega) | skip) | refine mj_vci (by first | omega | (simp (disch := omega) only [up_ne, up_at, q_up_at, q_up_ne, cp_ne]; omega)) ?_)
    refine h1 _ σ' (by unfold q_due; rw [if_neg (by omega), if_neg (by omega), if_neg (by omega), if_pos ⟨a1, a2⟩]) (by omega) ⟨⟨fun f hf => by rw [s4, q_up_ne _ _ hf], fun o o1 o2 _ o4 o5 => s5 o o1 o2 o4 o5⟩, fun k hk => ?_⟩ (Or.inr (Or.inr (Or.inr (Or.inr (Or.inr (Or.inr ⟨rfl, ⟨a1, a2⟩, by rw [s4, q_up_at], ?_⟩))))))
    · unfold q_tup
      rw [s1, s2, s3, s5 (g + 12) (by omega) (by omega) (by omega) (by omega), q_up_ne _ _ hk, q_up_ne _ _ hk, q_up_ne _ _ hk]
    · unfold q_tup
      rw [s1, s2, s3, s5 (g + 12) (by omega) (by omega) (by omega) (by omega), q_up_at, q_up_at, q_up_at]
  · repeat' (first | (refine mj_ite (fun h => ?_) (fun h => ?_) <;> first | (exfalso; omega) | skip) | refine mj_vci (by first | omega | (simp (disch := omega) only [up_ne, up_at, q_up_at, q_up_ne, cp_ne]; omega)) ?_)
    exact h0 (by unfold q_due; rw [if_neg (by omega), if_neg (by omega), if_neg (by omega), if_neg a0]) σ ⟨fun f _ => rfl, fun o _ _ _ _ _ => rfl⟩
/-- what is read of a text up to a place, with what is due there -/
def q_inv (sg : Int → Int) (τ : mj_W) (g : Nat) (i d : Int) : Prop := ∃ (l : List q_A) (b : Int), q_rep sg b 0 l ∧ q_held τ g 0 l ∧ τ g 21 = l.length ∧ (l.length : Int) ≤ b ∧
  ((d = 0 ∧ b = i) ∨ (d = 1 ∧ b + 1 = i ∧ q_let (sg b) ∧ τ (g + 12) l.length = sg b - 65) ∨ (d = 2 ∧ b + 2 = i ∧ q_let (sg b) ∧ τ (g + 12) l.length = sg b - 65 ∧ q_dir (sg (b + 1)) ≠ -6 ∧ τ (g + 13) l.length = q_dir (sg (b + 1))) ∨ (d = 3 ∧ b + 2 = i ∧ q_let (sg b) ∧ τ (g + 12) l.length = sg b - 65 ∧ sg (b + 1) = 62))
theorem q_inv_close {sg : Int → Int} {τ τ' : mj_W} {g : Nat} {l : List q_A} {a : q_A} {b : Int} (r1 : q_rep sg b 0 l) (r2 : q_held τ g 0 l) (r3 : τ g 21 = l.length) (r4 : (l.length : Int) ≤ b) (f : ∀ k, k ≠ τ g 21 → q_tup τ' g k = q_tup τ g k) (c1 : τ' g 21 = τ g 21 + 1) (c2 : q_tup τ' g (τ g 21) = a) (ha : a = q_actAt sg b) (hok : q_aok a) : q_inv sg τ' g (b + q_alen a) 0 := by
  have la := q_alen_in a
  have e : ((l ++ [a]).length : Int) = (l.length : Int) + 1 := by rw [List.length_append]; rfl
  refine ⟨l ++ [a], b + q_alen a, q_rep_s ha hok l 0 r1, q_held_s l 0 (q_held_f (m := l.length) (fun k hk => f k (by omega)) l 0 (by omega) r2) ?_, by omega, by omega, Or.inl ⟨rfl, rfl⟩⟩
  rw [← c2, r3]
  congr 1
  omega
theorem q_inv_step {sg : Int → Int} {τ τ' : mj_W} {g : Nat} {i d : Int} (hI : q_inv sg τ g i d) (hf : q_rf τ τ' g) (hp : q_rp τ τ' g d (sg i)) : q_inv sg τ' g (i + 1) (q_due d (sg i)) := by
  obtain ⟨l, b, r1, r2, r3, r4, r5⟩ := hI
  obtain ⟨-, f⟩ := hf
  have hh : q_held τ' g 0 l := q_held_f (m := l.length) (fun k hk => f k (by omega)) l 0 (by omega) r2
  rcases hp with ⟨p1, p2, p3, p4⟩ | ⟨p1, p2, p3, p4⟩ | ⟨p1, p2, p3, p4, p5⟩ | ⟨p1, p2, p3, p4⟩ | ⟨p1, p2, p3, p4⟩ | ⟨p1, p2, p3, p4⟩ | ⟨p1, p2, p3, p4⟩
  all_goals
    subst p1
  · have hb : b = i := by omega
    subst hb
    have ed : q_due 0 (sg b) = 1 := by unfold q_due; rw [if_pos rfl, if_neg (by omega), if_pos p2]
    rw [ed]
    refine ⟨l, b, r1, hh, by omega, r4, Or.inr (Or.inl ⟨rfl, rfl, p2, ?_⟩)⟩
    rw [← r3]; exact p4
  · have hb : b = i := by omega
    subst hb
    have ed : q_due 0 (sg b) = 0 := by unfold q_due; rw [if_pos rfl, if_pos p2]
    rw [ed]
    exact q_inv_close r1 r2 r3 r4 f p3 p4 (by unfold q_actAt; rw [if_pos p2]) (Or.inl rfl)
  · obtain ⟨b1, b2, b3⟩ : b + 1 = i ∧ q_let (sg b) ∧ τ (g + 12) l.length = sg b - 65 := by
      rcases r5 with q | q | q | q
      · omega
      · exact q.2
      · omega
      · omega
    subst b1
    have dn : sg (b + 1) ≠ 120 ∧ sg (b + 1) ≠ 62 := by
      constructor
      · intro q; rw [q] at p2; exact p2 rfl
      · intro q; rw [q] at p2; exact p2 rfl
    have ed : q_due 1 (sg (b + 1)) = 2 := by unfold q_due; rw [if_neg (by omega), if_pos rfl, if_neg dn.1, if_neg dn.2, if_pos p2]
    rw [ed]
    refine ⟨l, b, r1, hh, by omega, r4, Or.inr (Or.inr (Or.inl ⟨rfl, by omega, b2, ?_, p2, ?_⟩))⟩
    · rw [← r3, p4, r3]; exact b3
    · rw [← r3]; exact p5
  · obtain ⟨b1, b2, b3⟩ : b + 1 = i ∧ q_let (sg b) ∧ τ (g + 12) l.length = sg b - 65 := by
      rcases r5 with q | q | q | q
      · omega
      · exact q.2
      · omega
      · omega
    subst b1
    have ed : q_due 1 (sg (b + 1)) = 3 := by unfold q_due; rw [if_neg (by omega), if_pos rfl, if_neg (by omega), if_pos p2]
    rw [ed]
    refine ⟨l, b, r1, hh, by omega, r4, Or.inr (Or.inr (Or.inr ⟨rfl, by omega, b2, ?_, p2⟩))⟩
    rw [← r3, p4, r3]; exact b3
  · obtain ⟨b1, b2, b3⟩ : b + 1 = i ∧ q_let (sg b) ∧ τ (g + 12) l.length = sg b - 65 := by
      rcases r5 with q | q | q | q
      · omega
      · exact q.2
      · omega
      · omega
    subst b1
    have ed : q_due 1 (sg (b + 1)) = 0 := by unfold q_due; rw [if_neg (by omega), if_pos rfl, if_pos p2]
    rw [ed]
    rw [r3, b3] at p4
    have key := q_inv_close (a := (1, sg b - 65, 0, 0)) r1 r2 r3 r4 f p3 (by rw [r3]; exact p4) (by unfold q_actAt; rw [if_neg (by omega), if_pos p2]) (Or.inr ⟨by show 0 ≤ sg b - 65 ∧ sg b - 65 ≤ 7; omega, Or.inl rfl⟩)
    have e2 : b + 1 + 1 = b + q_alen (1, sg b - 65, 0, 0) := by show b + 1 + 1 = b + 2; omega
    rw [e2]; exact key
  · obtain ⟨b1, b2, b3, b4, b5⟩ : b + 2 = i ∧ q_let (sg b) ∧ τ (g + 12) l.length = sg b - 65 ∧ q_dir (sg (b + 1)) ≠ -6 ∧ τ (g + 13) l.length = q_dir (sg (b + 1)) := by
      rcases r5 with q | q | q | q
      · omega
      · omega
      · exact q.2
      · omega
    subst b1
    have dn : sg (b + 1) ≠ 120 ∧ sg (b + 1) ≠ 62 := by
      constructor
      · intro q; rw [q] at b4; exact b4 rfl
      · intro q; rw [q] at b4; exact b4 rfl
    have ed : q_due 2 (sg (b + 2)) = 0 := by unfold q_due; rw [if_neg (by omega), if_neg (by omega), if_pos rfl, if_pos p2]
    rw [ed]
    rw [r3, b3, b5] at p4
    have di := q_dir_in (sg (b + 1))
    have key := q_inv_close (a := (0, sg b - 65, q_dir (sg (b + 1)), sg (b + 2) - 48)) r1 r2 r3 r4 f p3 (by rw [r3]; exact p4) (by unfold q_actAt; rw [if_neg (by omega), if_neg dn.1, if_neg dn.2]) (Or.inr ⟨by show 0 ≤ sg b - 65 ∧ sg b - 65 ≤ 7; omega, Or.inr (Or.inr ⟨rfl, by show 0 ≤ q_dir (sg (b + 1)) ∧ q_dir (sg (b + 1)) ≤ 3; omega, by show 1 ≤ sg (b + 2) - 48 ∧ sg (b + 2) - 48 ≤ 9; omega⟩)⟩)
    have e2 : b + 2 + 1 = b + q_alen (0, sg b - 65, q_dir (sg (b + 1)), sg (b + 2) - 48) := by show b + 2 + 1 = b + 3; omega
    rw [e2]; exact key
  · obtain ⟨b1, b2, b3, b4⟩ : b + 2 = i ∧ q_let (sg b) ∧ τ (g + 12) l.length = sg b - 65 ∧ sg (b + 1) = 62 := by
      rcases r5 with q | q | q | q
      · omega
      · omega
      · omega
      · exact q.2
    subst b1
    have ed : q_due 3 (sg (b + 2)) = 0 := by unfold q_due; rw [if_neg (by omega), if_neg (by omega), if_neg (by omega), if_pos p2]
    rw [ed]
    rw [r3, b3] at p4
    have key := q_inv_close (a := (2, sg b - 65, sg (b + 2) - 65, 0)) r1 r2 r3 r4 f p3 (by rw [r3]; exact p4) (by unfold q_actAt; rw [if_neg (by omega), if_neg (by omega), if_pos b4]) (Or.inr ⟨by show 0 ≤ sg b - 65 ∧ sg b - 65 ≤ 7; omega, Or.inr (Or.inl ⟨rfl, by show 0 ≤ sg (b + 2) - 65 ∧ sg (b + 2) - 65 ≤ 7; omega⟩)⟩)
    have e2 : b + 2 + 1 = b + q_alen (2, sg b - 65, sg (b + 2) - 65, 0) := by show b + 2 + 1 = b + 3; omega
    rw [e2]; exact key
theorem l_M_fault (hP : 0 ≤ σ g 16 ∧ σ g 16 ≤ 60) (hs : ∀ i, 0 ≤ σ (g + 10) i ∧ σ (g + 10) i ≤ 200) (hK : ∀ r σ', r = q_fault (σ (g + 10)) (σ g 16) → q_rw σ σ' g → (r = -6 → ∃ l : List q_A, q_rep (σ (g + 10)) (σ g 16) 0 l ∧ q_held σ' g 0 l ∧ σ' g 21 = l.length) → K (some (iV r)) σ') :
    ∀ (k : Nat) (i d : Int) (τ : mj_W), 0 ≤ i → i + k = σ g 16 → 0 ≤ d ∧ d ≤ 3 → q_rw σ τ g → q_inv (σ (g + 10)) τ g i d → q_faultF (σ (g + 10)) (σ g 16) d i k = q_fault (σ (g + 10)) (σ g 16) → mj_Wm i_M_fault (n + 5) K 9 [some (rV 12 0 g), some (iV d), some (iV i)] [] τ := by
  intro k
  induction k with
  | zero =>
    intro i d τ h0 h1 hd hf hI hq
    have f16 : τ g 16 = σ g 16 := hf.1 16 (by omega)
    have hq : (if d = 0 then -6 else σ g 16) = q_fault (σ (g + 10)) (σ g 16) := hq
    refine r_M_fault [(9, [true, true, true])] 600 ?_
    repeat' (first | (refine mj_ite (fun h => ?_) (fun h => ?_) <;> first | (exfalso; omega) | skip) | refine mj_vci (by first | omega | (simp (disch := omega) only [up_ne, up_at, q_up_at, q_up_ne, cp_ne]; omega)) ?_)
    · rw [if_pos h] at hq
      refine hK _ τ hq hf (fun _ => ?_)
      obtain ⟨l, b, r1, r2, r3, r4, r5⟩ := hI
      have hb : b = σ g 16 := by omega
      rw [hb] at r1
      exact ⟨l, r1, r2, r3⟩
    · rw [if_neg h] at hq
      exact hK _ τ (by rw [f16]; exact hq) hf (fun q => by omega)
  | succ k ih =>
    intro i d τ h0 h1 hd hf hI hq
    have f16 : τ g 16 = σ g 16 := hf.1 16 (by omega)
    have f10 : τ (g + 10) = σ (g + 10) := hf.2 (g + 10) (by omega) (by omega) (by omega) (by omega) (by omega)
    have f10i : τ (g + 10) i = σ (g + 10) i := by rw [f10]
    have hsi := hs i
    rw [q_faultF_s] at hq
    have ha : 0 ≤ τ g 21 ∧ τ g 21 ≤ 59 := by
      obtain ⟨l, b, r1, r2, r3, r4, r5⟩ := hI
      omega
    refine r_M_fault [(9, [true, true, true])] 600 ?_
    repeat' (first | (refine mj_ite (fun h => ?_) (fun h => ?_) <;> first | (exfalso; omega) | skip) | refine mj_vci (by first | omega | (simp (disch := omega) only [up_ne, up_at, q_up_at, q_up_ne, cp_ne]; omega)) ?_)
    refine c_M_readOn hd ha (by rw [f10i]; exact hsi) (fun e4 σ' s1 => ?_) (fun r σ' er hr s1 s2 => ?_)
    · rw [f10i] at e4
      rw [if_pos e4] at hq
      repeat' (first | (refine mj_ite (fun h => ?_) (fun h => ?_) <;> first | (exfalso; omega) | skip) | refine mj_vci (by first | omega | (simp (disch := omega) only [up_ne, up_at, q_up_at, q_up_ne, cp_ne]; omega)) ?_)
      exact hK _ σ' hq ⟨fun f hf' => (s1.1 f hf').trans (hf.1 f hf'), fun o o1 o2 o3 o4 o5 => (s1.2 o o1 o2 o3 o4 o5).trans (hf.2 o o1 o2 o3 o4 o5)⟩ (fun q => by omega)
    · rw [f10i] at er s2
      rw [← er, if_neg (by omega)] at hq
      have hI' := q_inv_step hI s1 s2
      rw [← er] at hI'
      repeat' (first | (refine mj_ite (fun h => ?_) (fun h => ?_) <;> first | (exfalso; omega) | skip) | refine mj_vci (by first | omega | (simp (disch := omega) only [up_ne, up_at, q_up_at, q_up_ne, cp_ne]; omega)) ?_)
      exact ih (i + 1) r σ' (by omega) (by omega) hr ⟨fun f hf' => (s1.1.1 f hf').trans (hf.1 f hf'), fun o o1 o2 o3 o4 o5 => (s1.1.2 o o1 o2 o3 o4 o5).trans (hf.2 o o1 o2 o3 o4 o5)⟩ hI' hq
theorem c_M_fault (hP : 0 ≤ σ g 16 ∧ σ g 16 ≤ 60) (hs : ∀ i, 0 ≤ σ (g + 10) i ∧ σ (g + 10) i ≤ 200) (hK : ∀ r σ', r = q_fault (σ (g + 10)) (σ g 16) → q_rw σ σ' g → (r = -6 → ∃ l : List q_A, q_rep (σ (g + 10)) (σ g 16) 0 l ∧ q_held σ' g 0 l ∧ σ' g 21 = l.length) → K (some (iV r)) σ') : mj_Ok (n + 5) i_M_fault [rV 12 0 g] σ K := by
  refine mj_enter (by decide) (Nat.le_of_ble_eq_true rfl) (fun hg => ?_)
  refine r_M_fault [(9, [true, true, true])] 600 ?_
  refine l_M_fault hP hs hK (σ g 16).toNat 0 0 _ (by omega) (by omega) (by omega) ⟨fun f hf => by rw [up_at, q_up_ne _ _ hf], fun o o1 _ _ _ _ => up_ne _ _ _ o1⟩ ⟨[], 0, rfl, trivial, by rw [up_at, q_up_at]; rfl, Int.le_refl _, Or.inl ⟨rfl, rfl⟩⟩ rfl
end M17
