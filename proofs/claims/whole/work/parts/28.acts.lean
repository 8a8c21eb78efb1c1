/-! acts: a border as numbers and functions, what an act does to it, days as lists of acts -/
abbrev q_B : Type := Int × (Int → Int) × (Int → Int) × (Int → Int) × (Int → Int)
abbrev q_A : Type := Int × Int × Int × Int
abbrev q_BC (σ : mj_W) (b : Nat) : q_B := (σ b 4, σ (b + 4), σ (b + 1), σ (b + 2), σ (b + 3))
noncomputable def q_aw (reach : Int) (B : q_B) (a : q_A) : Int :=
  if a.1 = 3 then 0 else if q_fnd B.2.1 B.1 a.2.1 = -6 then 1 else if a.1 = 0 then q_why B.1 reach B.2.1 B.2.2.1 B.2.2.2.1 B.2.2.2.2 a.2.1 a.2.2.1 a.2.2.2
  else if a.1 = 2 ∧ q_fnd B.2.1 B.1 a.2.2.1 ≠ -6 then 5 else 0
def q_ad (B : q_B) (a : q_A) : q_B :=
  if a.1 = 0 then (B.1, B.2.1, q_up B.2.2.1 a.2.1 (B.2.2.1 a.2.1 + a.2.2.2 * mj_east a.2.2.1), q_up B.2.2.2.1 a.2.1 (B.2.2.2.1 a.2.1 + a.2.2.2 * mj_north a.2.2.1), q_up B.2.2.2.2 a.2.1 (B.2.2.2.2 a.2.1 + a.2.2.2))
  else if a.1 = 1 then (B.1 - 1, q_del B.2.1 (q_fnd B.2.1 B.1 a.2.1) B.1, B.2.2.1, B.2.2.2.1, B.2.2.2.2)
  else if a.1 = 2 then (B.1, q_up B.2.1 (q_fnd B.2.1 B.1 a.2.1) a.2.2.1, q_up B.2.2.1 a.2.2.1 (B.2.2.1 a.2.1), q_up B.2.2.2.1 a.2.2.1 (B.2.2.2.1 a.2.1), q_up B.2.2.2.2 a.2.2.1 (B.2.2.2.2 a.2.1))
  else (B.1, B.2.1, B.2.2.1, B.2.2.2.1, fun _ => 0)
def q_as (a : q_A) : Int := if a.1 = 0 then a.2.2.2 else 0
def q_aok (a : q_A) : Prop := a.1 = 3 ∨ ((0 ≤ a.2.1 ∧ a.2.1 ≤ 7) ∧ (a.1 = 1 ∨ (a.1 = 2 ∧ 0 ≤ a.2.2.1 ∧ a.2.2.1 ≤ 7) ∨ (a.1 = 0 ∧ (0 ≤ a.2.2.1 ∧ a.2.2.1 ≤ 3) ∧ 1 ≤ a.2.2.2 ∧ a.2.2.2 ≤ 9)))
def q_actAt (sg : Int → Int) (i : Int) : q_A := if sg i = 46 then (3, 0, 0, 0) else if sg (i + 1) = 120 then (1, sg i - 65, 0, 0) else if sg (i + 1) = 62 then (2, sg i - 65, sg (i + 2) - 65, 0) else (0, sg i - 65, q_dir (sg (i + 1)), sg (i + 2) - 48)
def q_alen (a : q_A) : Int := if a.1 = 3 then 1 else if a.1 = 1 then 2 else 3
def q_rep (sg : Int → Int) (L : Int) : Int → List q_A → Prop
  | i, [] => i = L
  | i, a :: l => a = q_actAt sg i ∧ q_aok a ∧ i + q_alen a ≤ L ∧ q_rep sg L (i + q_alen a) l
/-- the days: which act fails (or -6), why, steps, acts done, the border behind -/
noncomputable def q_go (reach : Int) : List q_A → q_B → Int → Int → Int × Int × Int × Int × q_B
  | [], B, k, s => (-6, -6, s, k, B)
  | a :: l, B, k, s => if q_aw reach B a ≠ 0 then (k, q_aw reach B a, s, k, B) else q_go reach l (q_ad B a) (k + 1) (s + q_as a)
/-- what a good border is -/
def q_wB (B : q_B) : Prop := (0 ≤ B.1 ∧ B.1 ≤ 8) ∧ (∀ i, 0 ≤ B.2.1 i ∧ B.2.1 i ≤ 7) ∧ (∀ i, 0 ≤ B.2.2.1 i ∧ B.2.2.1 i ≤ 40) ∧ (∀ i, 0 ≤ B.2.2.2.1 i ∧ B.2.2.2.1 i ≤ 40) ∧ (∀ i, 0 ≤ B.2.2.2.2 i ∧ B.2.2.2.2 i ≤ 99) ∧ q_dist B.2.1 B.1 ∧ (∀ i j, 0 ≤ i → i < B.1 → 0 ≤ j → j < B.1 → B.2.2.1 (B.2.1 i) = B.2.2.1 (B.2.1 j) → B.2.2.2.1 (B.2.1 i) = B.2.2.2.1 (B.2.1 j) → i = j)
theorem q_aw_walk {reach : Int} {B : q_B} {p d w : Int} (h : q_aw reach B (0, p, d, w) = 0) : q_fnd B.2.1 B.1 p ≠ -6 ∧ q_land (B.2.2.1 p + w * mj_east d) (B.2.2.2.1 p + w * mj_north d) ∧ q_free B.1 B.2.1 B.2.2.1 B.2.2.2.1 p (B.2.2.1 p + w * mj_east d) (B.2.2.2.1 p + w * mj_north d) ∧ B.2.2.2.2 p + w ≤ reach := by
  unfold q_aw at h
  dsimp only at h
  rw [if_neg (by decide)] at h
  by_cases e1 : q_fnd B.2.1 B.1 p = -6
  · rw [if_pos e1] at h; omega
  · rw [if_neg e1, if_pos rfl] at h
    unfold q_why at h
    rw [if_neg e1] at h
    by_cases e2 : q_land (B.2.2.1 p + w * mj_east d) (B.2.2.2.1 p + w * mj_north d)
    · rw [if_neg (fun q => q e2)] at h
      by_cases e3 : q_free B.1 B.2.1 B.2.2.1 B.2.2.2.1 p (B.2.2.1 p + w * mj_east d) (B.2.2.2.1 p + w * mj_north d)
      · rw [if_pos e3] at h
        by_cases e4 : reach < B.2.2.2.2 p + w
        · rw [if_pos e4] at h; omega
        · exact ⟨e1, e2, e3, by omega⟩
      · rw [if_neg e3] at h; omega
    · rw [if_pos e2] at h; omega
theorem q_aw_die {reach : Int} {B : q_B} {p d w : Int} (h : q_aw reach B (1, p, d, w) = 0) : q_fnd B.2.1 B.1 p ≠ -6 := by
  unfold q_aw at h
  dsimp only at h
  rw [if_neg (by decide)] at h
  intro e
  rw [if_pos e] at h
  omega
theorem q_aw_heir {reach : Int} {B : q_B} {p d w : Int} (h : q_aw reach B (2, p, d, w) = 0) : q_fnd B.2.1 B.1 p ≠ -6 ∧ q_fnd B.2.1 B.1 d = -6 := by
  unfold q_aw at h
  dsimp only at h
  rw [if_neg (by decide)] at h
  by_cases e : q_fnd B.2.1 B.1 p = -6
  · rw [if_pos e] at h; omega
  · rw [if_neg e, if_neg (by decide)] at h
    by_cases e2 : q_fnd B.2.1 B.1 d = -6
    · exact ⟨e, e2⟩
    · rw [if_pos ⟨rfl, e2⟩] at h; omega
theorem q_wB_walk {B : q_B} (hB : q_wB B) {reach p d w : Int} (hr : reach ≤ 99) (hw : 1 ≤ w) (h : q_aw reach B (0, p, d, w) = 0) : q_wB (q_ad B (0, p, d, w)) := by
  obtain ⟨h1, h2, h3, h4⟩ := q_aw_walk h
  obtain ⟨g1, g2, g3, g4, g5, g6, g7⟩ := hB
  obtain ⟨n, row, xs, ys, wk⟩ := B
  dsimp only at *
  unfold q_ad q_wB
  rw [if_pos rfl]
  dsimp only
  refine ⟨g1, g2, ?_, ?_, ?_, g6, ?_⟩
  · intro i; have := g3 i; unfold q_up; split <;> omega
  · intro i; have := g4 i; unfold q_up; split <;> omega
  · intro i; have := g5 i; have := g5 p; unfold q_up; split <;> omega
  · intro i j a1 a2 a3 a4 a5 a6
    have k1 := h3 i a1 a2
    have k2 := h3 j a3 a4
    have k3 := g7 i j a1 a2 a3 a4
    have k4 := g6 i j a1 a2 a3 a4
    unfold q_up at a5 a6
    grind
theorem q_wB_die {B : q_B} (hB : q_wB B) {reach p d w : Int} (h : q_aw reach B (1, p, d, w) = 0) : q_wB (q_ad B (1, p, d, w)) := by
  have h1 := q_aw_die h
  obtain ⟨g1, g2, g3, g4, g5, g6, g7⟩ := hB
  have h2 := q_fnd_or B.2.1 g1.1 p
  obtain ⟨n, row, xs, ys, wk⟩ := B
  dsimp only at *
  show q_wB (n - 1, q_del row (q_fnd row n p) n, xs, ys, wk)
  generalize q_fnd row n p = pl at h1 h2
  have key : ∀ i, i < n - 1 → q_del row pl n i = row (if pl ≤ i then i + 1 else i) := by
    intro i hi
    unfold q_del
    by_cases e : pl ≤ i
    · rw [if_pos ⟨e, hi⟩, if_pos e]
    · rw [if_neg (fun q => e q.1), if_neg e]
  have inj : ∀ i j, 0 ≤ i → i < n - 1 → 0 ≤ j → j < n - 1 → ((if pl ≤ i then i + 1 else i) : Int) = (if pl ≤ j then j + 1 else j) → i = j := by
    intro i j _ _ _ _ e
    split at e <;> split at e <;> omega
  have rng : ∀ i, 0 ≤ i → i < n - 1 → 0 ≤ ((if pl ≤ i then i + 1 else i) : Int) ∧ ((if pl ≤ i then i + 1 else i) : Int) < n := by
    intro i _ _
    split <;> omega
  refine ⟨?_, ?_, g3, g4, g5, ?_, ?_⟩
  · show 0 ≤ n - 1 ∧ n - 1 ≤ 8
    omega
  · intro i
    show 0 ≤ q_del row pl n i ∧ q_del row pl n i ≤ 7
    have := g2 i
    have := g2 (i + 1)
    unfold q_del
    split <;> omega
  · intro i j a1 a2 a3 a4 a5
    have a2 : i < n - 1 := a2
    have a4 : j < n - 1 := a4
    have a5 : q_del row pl n i = q_del row pl n j := a5
    rw [key i a2, key j a4] at a5
    exact inj i j a1 a2 a3 a4 (g6 _ _ (rng i a1 a2).1 (rng i a1 a2).2 (rng j a3 a4).1 (rng j a3 a4).2 a5)
  · intro i j a1 a2 a3 a4 a5 a6
    have a2 : i < n - 1 := a2
    have a4 : j < n - 1 := a4
    have a5 : xs (q_del row pl n i) = xs (q_del row pl n j) := a5
    have a6 : ys (q_del row pl n i) = ys (q_del row pl n j) := a6
    rw [key i a2, key j a4] at a5 a6
    exact inj i j a1 a2 a3 a4 (g7 _ _ (rng i a1 a2).1 (rng i a1 a2).2 (rng j a3 a4).1 (rng j a3 a4).2 a5 a6)
theorem q_wB_heir {B : q_B} (hB : q_wB B) {reach p d w : Int} (hd : 0 ≤ d ∧ d ≤ 7) (h : q_aw reach B (2, p, d, w) = 0) : q_wB (q_ad B (2, p, d, w)) := by
  obtain ⟨h1, h1'⟩ := q_aw_heir h
  obtain ⟨g1, g2, g3, g4, g5, g6, g7⟩ := hB
  have h2 := q_fnd_or B.2.1 g1.1 p
  have h3 := q_fnd_or B.2.1 g1.1 d
  obtain ⟨n, row, xs, ys, wk⟩ := B
  dsimp only at *
  show q_wB (n, q_up row (q_fnd row n p) d, q_up xs d (xs p), q_up ys d (ys p), q_up wk d (wk p))
  have h3 : ∀ j, 0 ≤ j → j < n → row j ≠ d := by
    rcases h3 with h3 | h3
    · exact h3.2
    · omega
  generalize q_fnd row n p = pl at h1 h2
  have h2 : 0 ≤ pl ∧ pl < n ∧ row pl = p := by
    rcases h2 with h2 | h2
    · exact absurd h2.1 h1
    · exact h2
  refine ⟨g1, ?_, ?_, ?_, ?_, ?_, ?_⟩
  · intro i; have := g2 i; show 0 ≤ q_up row pl d i ∧ q_up row pl d i ≤ 7; unfold q_up; split <;> omega
  · intro i; have := g3 i; have := g3 p; show 0 ≤ q_up xs d (xs p) i ∧ q_up xs d (xs p) i ≤ 40; unfold q_up; split <;> omega
  · intro i; have := g4 i; have := g4 p; show 0 ≤ q_up ys d (ys p) i ∧ q_up ys d (ys p) i ≤ 40; unfold q_up; split <;> omega
  · intro i; have := g5 i; have := g5 p; show 0 ≤ q_up wk d (wk p) i ∧ q_up wk d (wk p) i ≤ 99; unfold q_up; split <;> omega
  · intro i j a1 a2 a3 a4 a5
    have a5 : q_up row pl d i = q_up row pl d j := a5
    have k1 := h3 i a1 a2
    have k2 := h3 j a3 a4
    have k3 := g6 i j a1 a2 a3 a4
    unfold q_up at a5
    grind
  · intro i j a1 a2 a3 a4 a5 a6
    have a5 : q_up xs d (xs p) (q_up row pl d i) = q_up xs d (xs p) (q_up row pl d j) := a5
    have a6 : q_up ys d (ys p) (q_up row pl d i) = q_up ys d (ys p) (q_up row pl d j) := a6
    have k1 := h3 i a1 a2
    have k2 := h3 j a3 a4
    have k3 := g7 i j a1 a2 a3 a4
    have k4 := g7 i pl a1 a2 h2.1 h2.2.1
    have k5 := g7 pl j h2.1 h2.2.1 a3 a4
    rw [h2.2.2] at k4 k5
    unfold q_up at a5 a6
    grind
theorem q_wB_night {B : q_B} (hB : q_wB B) {p d w : Int} : q_wB (q_ad B (3, p, d, w)) := by
  obtain ⟨g1, g2, g3, g4, g5, g6, g7⟩ := hB
  exact ⟨g1, g2, g3, g4, fun _ => ⟨Int.le_refl 0, by show (0 : Int) ≤ 99; omega⟩, g6, g7⟩
theorem q_wB_ad {B : q_B} (hB : q_wB B) {reach : Int} (hr : reach ≤ 99) {a : q_A} (ha : q_aok a) (h : q_aw reach B a = 0) : q_wB (q_ad B a) := by
  obtain ⟨k, p, d, w⟩ := a
  rcases ha with e | ⟨hp, e | ⟨e, h1⟩ | ⟨e, h1, h2⟩⟩
  · have e : k = 3 := e
    subst e; exact q_wB_night hB
  · have e : k = 1 := e
    subst e; exact q_wB_die hB h
  · have e : k = 2 := e
    subst e; exact q_wB_heir hB h1 h
  · have e : k = 0 := e
    subst e; exact q_wB_walk hB hr h2.1 h
/-! a text without a fault is a list of acts -/
theorem q_dir_in (c : Int) : q_dir c = -6 ∨ (0 ≤ q_dir c ∧ q_dir c ≤ 3) := by
  unfold q_dir
  repeat' split
  all_goals omega
theorem q_faultF_s (sg : Int → Int) (L d i : Int) (k : Nat) : q_faultF sg L d i (k + 1) = if q_due d (sg i) = 4 then i else q_faultF sg L (q_due d (sg i)) (i + 1) k := rfl
theorem q_rep_ex (sg : Int → Int) (L : Int) : ∀ (k : Nat) (i : Int), 0 ≤ i → i + k = L → q_faultF sg L 0 i k = -6 → ∃ l, q_rep sg L i l := by
  intro k
  induction k using Nat.strongRecOn with
  | _ k ih =>
    intro i h0 h1 hf
    cases k with
    | zero => exact ⟨[], by show i = L; omega⟩
    | succ k =>
      rw [q_faultF_s] at hf
      by_cases e0 : q_due 0 (sg i) = 4
      · rw [if_pos e0] at hf; omega
      rw [if_neg e0] at hf
      by_cases e1 : sg i = 46
      · have ed : q_due 0 (sg i) = 0 := by unfold q_due; rw [if_pos rfl, if_pos e1]
        rw [ed] at hf
        obtain ⟨l, hl⟩ := ih k (by omega) (i + 1) (by omega) (by omega) hf
        have ea : q_actAt sg i = (3, 0, 0, 0) := by unfold q_actAt; rw [if_pos e1]
        refine ⟨(3, 0, 0, 0) :: l, ea.symm, Or.inl rfl, ?_, hl⟩
        show i + 1 ≤ L
        omega
      have el : q_let (sg i) := by
        unfold q_due at e0
        rw [if_pos rfl, if_neg e1] at e0
        by_cases q : q_let (sg i)
        · exact q
        · rw [if_neg q] at e0; exact absurd rfl e0
      have ed : q_due 0 (sg i) = 1 := by unfold q_due; rw [if_pos rfl, if_neg e1, if_pos el]
      rw [ed] at hf
      cases k with
      | zero =>
        have hf : (if (1 : Int) = 0 then -6 else L) = -6 := hf
        rw [if_neg (by decide)] at hf
        omega
      | succ k =>
        rw [q_faultF_s] at hf
        by_cases e2 : q_due 1 (sg (i + 1)) = 4
        · rw [if_pos e2] at hf; omega
        rw [if_neg e2] at hf
        have ii : i + 1 + 1 = i + 2 := by omega
        rw [ii] at hf
        by_cases e3 : sg (i + 1) = 120
        · have ed : q_due 1 (sg (i + 1)) = 0 := by unfold q_due; rw [if_neg (by decide), if_pos rfl, if_pos e3]
          rw [ed] at hf
          obtain ⟨l, hl⟩ := ih k (by omega) (i + 2) (by omega) (by omega) hf
          have ea : q_actAt sg i = (1, sg i - 65, 0, 0) := by unfold q_actAt; rw [if_neg e1, if_pos e3]
          refine ⟨(1, sg i - 65, 0, 0) :: l, ea.symm, Or.inr ⟨?_, Or.inl rfl⟩, ?_, hl⟩
          · show 0 ≤ sg i - 65 ∧ sg i - 65 ≤ 7
            omega
          · show i + 2 ≤ L
            omega
        cases k with
        | zero =>
          exfalso
          have ednz : q_due 1 (sg (i + 1)) ≠ 0 := by
            unfold q_due
            rw [if_neg (by decide), if_pos rfl, if_neg e3]
            repeat' split
            all_goals omega
          have hf : (if q_due 1 (sg (i + 1)) = 0 then -6 else L) = -6 := hf
          rw [if_neg ednz] at hf
          omega
        | succ k =>
          rw [q_faultF_s] at hf
          have i3 : i + 2 + 1 = i + 3 := by omega
          rw [i3] at hf
          by_cases e4 : sg (i + 1) = 62
          · have ed : q_due 1 (sg (i + 1)) = 3 := by unfold q_due; rw [if_neg (by decide), if_pos rfl, if_neg e3, if_pos e4]
            rw [ed] at hf
            by_cases e5 : q_let (sg (i + 2))
            · have ed2 : q_due 3 (sg (i + 2)) = 0 := by unfold q_due; rw [if_neg (by decide), if_neg (by decide), if_neg (by decide), if_pos e5]
              rw [ed2, if_neg (by decide)] at hf
              obtain ⟨l, hl⟩ := ih k (by omega) (i + 3) (by omega) (by omega) hf
              have ea : q_actAt sg i = (2, sg i - 65, sg (i + 2) - 65, 0) := by unfold q_actAt; rw [if_neg e1, if_neg e3, if_pos e4]
              refine ⟨(2, sg i - 65, sg (i + 2) - 65, 0) :: l, ea.symm, Or.inr ⟨?_, Or.inr (Or.inl ⟨rfl, ?_⟩)⟩, ?_, hl⟩
              · show 0 ≤ sg i - 65 ∧ sg i - 65 ≤ 7
                omega
              · show 0 ≤ sg (i + 2) - 65 ∧ sg (i + 2) - 65 ≤ 7
                omega
              · show i + 3 ≤ L
                omega
            · have ed2 : q_due 3 (sg (i + 2)) = 4 := by unfold q_due; rw [if_neg (by decide), if_neg (by decide), if_neg (by decide), if_neg e5]
              rw [ed2, if_pos rfl] at hf
              omega
          · have e6 : q_dir (sg (i + 1)) ≠ -6 := by
              intro q
              unfold q_due at e2
              rw [if_neg (by decide), if_pos rfl, if_neg e3, if_neg e4, if_neg (fun w => w q)] at e2
              exact e2 rfl
            have ed : q_due 1 (sg (i + 1)) = 2 := by unfold q_due; rw [if_neg (by decide), if_pos rfl, if_neg e3, if_neg e4, if_pos e6]
            rw [ed] at hf
            have e7 := q_dir_in (sg (i + 1))
            by_cases e5 : 49 ≤ sg (i + 2) ∧ sg (i + 2) ≤ 57
            · have ed2 : q_due 2 (sg (i + 2)) = 0 := by unfold q_due; rw [if_neg (by decide), if_neg (by decide), if_pos rfl, if_pos e5]
              rw [ed2, if_neg (by decide)] at hf
              obtain ⟨l, hl⟩ := ih k (by omega) (i + 3) (by omega) (by omega) hf
              have ea : q_actAt sg i = (0, sg i - 65, q_dir (sg (i + 1)), sg (i + 2) - 48) := by unfold q_actAt; rw [if_neg e1, if_neg e3, if_neg e4]
              refine ⟨(0, sg i - 65, q_dir (sg (i + 1)), sg (i + 2) - 48) :: l, ea.symm, Or.inr ⟨?_, Or.inr (Or.inr ⟨rfl, ?_, ?_⟩)⟩, ?_, hl⟩
              · show 0 ≤ sg i - 65 ∧ sg i - 65 ≤ 7
                omega
              · show 0 ≤ q_dir (sg (i + 1)) ∧ q_dir (sg (i + 1)) ≤ 3
                omega
              · show 1 ≤ sg (i + 2) - 48 ∧ sg (i + 2) - 48 ≤ 9
                omega
              · show i + 3 ≤ L
                omega
            · have ed2 : q_due 2 (sg (i + 2)) = 4 := by unfold q_due; rw [if_neg (by decide), if_neg (by decide), if_pos rfl, if_neg e5]
              rw [ed2, if_pos rfl] at hf
              omega
