/-! ===== codes and what they do to a stack of numbers ===== -/
def le_it (lt : Nat → Int) (x : Nat × Nat) (s : List Int) : List Int :=
  if x.1 = 0 then (x.2 : Int) :: s else if x.1 = 1 then lt x.2 :: s else if x.1 = 9 then (1 - s.headD 0) :: s.tail else lo_op x.1 (s.tail.headD 0) (s.headD 0) :: s.tail.tail
def le_run (lt : Nat → Int) : List (Nat × Nat) → List Int → List Int
  | [], s => s
  | x :: t, s => le_run lt t (le_it lt x s)
theorem le_run_app (lt : Nat → Int) : ∀ (a b : List (Nat × Nat)) (s : List Int), le_run lt (a ++ b) s = le_run lt b (le_run lt a s) := by
  intro a
  induction a with
  | nil => intro b s; rfl
  | cons x a ih => intro b s; exact ih b _
/-- the kinds on the stack (true: yes or no): from k to k', never more than B -/
def le_ok (B : Nat) : List (Nat × Nat) → List Bool → List Bool → Prop
  | [], k, k' => k = k'
  | x :: t, k, k' =>
    (x.1 = 0 ∧ x.2 ≤ 9999 ∧ k.length + 1 ≤ B ∧ le_ok B t (false :: k) k') ∨
    (x.1 = 1 ∧ x.2 < 6 ∧ k.length + 1 ≤ B ∧ le_ok B t (false :: k) k') ∨
    (x.1 = 9 ∧ x.2 = 0 ∧ ∃ m, k = true :: m ∧ le_ok B t k k') ∨
    (2 ≤ x.1 ∧ x.1 ≤ 5 ∧ x.2 = 0 ∧ ∃ m, k = false :: false :: m ∧ le_ok B t (false :: m) k') ∨
    (6 ≤ x.1 ∧ x.1 ≤ 8 ∧ x.2 = 0 ∧ ∃ m, k = false :: false :: m ∧ le_ok B t (true :: m) k') ∨
    (10 ≤ x.1 ∧ x.1 ≤ 11 ∧ x.2 = 0 ∧ ∃ m, k = true :: true :: m ∧ le_ok B t (true :: m) k')
theorem le_ok_app {B : Nat} : ∀ {a b : List (Nat × Nat)} {k m k' : List Bool}, le_ok B a k m → le_ok B b m k' → le_ok B (a ++ b) k k' := by
  intro a
  induction a with
  | nil => intro b k m k' h1 h2; cases h1; exact h2
  | cons x a ih =>
    intro b k m k' h1 h2
    rcases h1 with ⟨p1, p2, p3, p4⟩ | ⟨p1, p2, p3, p4⟩ | ⟨p1, p2, z, p3, p4⟩ | ⟨p1, p2, p2', z, p3, p4⟩ | ⟨p1, p2, p2', z, p3, p4⟩ | ⟨p1, p2, p2', z, p3, p4⟩
    · exact Or.inl ⟨p1, p2, p3, ih p4 h2⟩
    · exact Or.inr (Or.inl ⟨p1, p2, p3, ih p4 h2⟩)
    · exact Or.inr (Or.inr (Or.inl ⟨p1, p2, z, p3, ih p4 h2⟩))
    · exact Or.inr (Or.inr (Or.inr (Or.inl ⟨p1, p2, p2', z, p3, ih p4 h2⟩)))
    · exact Or.inr (Or.inr (Or.inr (Or.inr (Or.inl ⟨p1, p2, p2', z, p3, ih p4 h2⟩))))
    · exact Or.inr (Or.inr (Or.inr (Or.inr (Or.inr ⟨p1, p2, p2', z, p3, ih p4 h2⟩))))
def lV : List Bool → List Int → Prop
  | [], [] => True
  | true :: k, x :: s => (x = 0 ∨ x = 1) ∧ lV k s
  | false :: k, x :: s => lo_in x ∧ lV k s
  | _, _ => False
theorem lV_len : ∀ {k : List Bool} {s : List Int}, lV k s → s.length = k.length := by
  intro k
  induction k with
  | nil => intro s h; cases s with | nil => rfl | cons _ _ => exact absurd h (by simp [lV])
  | cons b k ih =>
    intro s h
    cases s with
    | nil => cases b <;> exact absurd h (by simp [lV])
    | cons x s => cases b <;> simp [ih h.2]
theorem lV_head {b : Bool} {k : List Bool} {s : List Int} (h : lV (b :: k) s) : ∃ x t, s = x :: t ∧ lo_in x ∧ (b = true → x = 0 ∨ x = 1) ∧ lV k t := by
  cases s with
  | nil => cases b <;> exact absurd h (by simp [lV])
  | cons x t =>
    refine ⟨x, t, rfl, ?_, ?_, ?_⟩
    · cases b
      · exact h.1
      · unfold lo_in; rcases h.1 with rfl | rfl <;> omega
    · intro e; subst e; exact h.1
    · cases b <;> exact h.2
theorem lo_op_01 {c : Nat} {a b : Int} (hc : c = 6 ∨ c = 7 ∨ c = 8 ∨ c = 10 ∨ c = 11) : lo_op c a b = 0 ∨ lo_op c a b = 1 := by
  unfold lo_op
  rcases hc with rfl | rfl | rfl | rfl | rfl
  all_goals simp
  all_goals omega
/-- what one code does to a stack of such kinds -/
theorem le_step {B : Nat} {lt : Nat → Int} {x : Nat × Nat} {t : List (Nat × Nat)} {k k' : List Bool} {s : List Int} (hl : ∀ j, j < 6 → lo_in (lt j)) (h : le_ok B (x :: t) k k') (hs : lV k s) : ∃ k1, le_ok B t k1 k' ∧ lV k1 (le_it lt x s) := by
  rcases h with ⟨p1, p2, p3, p4⟩ | ⟨p1, p2, p3, p4⟩ | ⟨p1, p2, z, p3, p4⟩ | ⟨p1, p2, p2', z, p3, p4⟩ | ⟨p1, p2, p2', z, p3, p4⟩ | ⟨p1, p2, p2', z, p3, p4⟩
  · refine ⟨_, p4, ?_⟩
    unfold le_it; rw [if_pos p1]
    exact ⟨by unfold lo_in; omega, hs⟩
  · refine ⟨_, p4, ?_⟩
    unfold le_it; rw [if_neg (by omega), if_pos p1]
    exact ⟨hl _ p2, hs⟩
  · refine ⟨_, p4, ?_⟩
    subst p3
    obtain ⟨a, r, rfl, h1, h2, h3⟩ := lV_head hs
    unfold le_it; rw [if_neg (by omega), if_neg (by omega), if_pos p1]
    refine ⟨?_, h3⟩
    rcases h2 rfl with rfl | rfl <;> simp
  · refine ⟨_, p4, ?_⟩
    subst p3
    obtain ⟨a, r, rfl, h1, h2, h3⟩ := lV_head hs
    obtain ⟨a2, r2, rfl, g1, g2, g3⟩ := lV_head h3
    unfold le_it; rw [if_neg (by omega), if_neg (by omega), if_neg (by omega)]
    exact ⟨lo_op_in _ _ _, g3⟩
  · refine ⟨_, p4, ?_⟩
    subst p3
    obtain ⟨a, r, rfl, h1, h2, h3⟩ := lV_head hs
    obtain ⟨a2, r2, rfl, g1, g2, g3⟩ := lV_head h3
    unfold le_it; rw [if_neg (by omega), if_neg (by omega), if_neg (by omega)]
    exact ⟨lo_op_01 (by omega), g3⟩
  · refine ⟨_, p4, ?_⟩
    subst p3
    obtain ⟨a, r, rfl, h1, h2, h3⟩ := lV_head hs
    obtain ⟨a2, r2, rfl, g1, g2, g3⟩ := lV_head h3
    unfold le_it; rw [if_neg (by omega), if_neg (by omega), if_neg (by omega)]
    exact ⟨lo_op_01 (by omega), g3⟩
theorem le_all {B : Nat} {lt : Nat → Int} (hl : ∀ j, j < 6 → lo_in (lt j)) : ∀ {its : List (Nat × Nat)} {k k' : List Bool} {s : List Int}, le_ok B its k k' → lV k s → lV k' (le_run lt its s) := by
  intro its
  induction its with
  | nil => intro k k' s h hs; cases h; exact hs
  | cons x t ih =>
    intro k k' s h hs
    obtain ⟨k1, h1, h2⟩ := le_step hl h hs
    exact ih h1 h2
/-- a stack in a row: its top at the end -/
def lS (f : Nat → Int32) (s : List Int) : Prop := ∀ j x, s[j]? = some x → f (s.length - 1 - j) = zI x
theorem lS_pop {f : Nat → Int32} {x : Int} {s : List Int} (h : lS f (x :: s)) : lS f s ∧ f s.length = zI x := by
  refine ⟨fun j y hy => ?_, ?_⟩
  · have hj : j < s.length := (List.getElem?_eq_some_iff.mp hy).1
    have := h (j + 1) y (by simpa using hy)
    rw [show (x :: s).length - 1 - (j + 1) = s.length - 1 - j by simp only [List.length_cons]; omega] at this
    exact this
  · have := h 0 x rfl
    simpa using this
theorem lS_push {f : Nat → Int32} {x : Int} {s : List Int} (h : lS f s) : lS (upd f s.length (zI x)) (x :: s) := by
  intro j y hy
  cases j with
  | zero =>
    simp at hy
    subst hy
    simp [upd]
  | succ j =>
    have hy' : s[j]? = some y := by simpa using hy
    have hj : j < s.length := (List.getElem?_eq_some_iff.mp hy').1
    rw [show (x :: s).length - 1 - (j + 1) = s.length - 1 - j by simp only [List.length_cons]; omega]
    have hne : s.length - 1 - j ≠ s.length := by omega
    show (if s.length - 1 - j = s.length then zI x else f (s.length - 1 - j)) = zI y
    rw [if_neg hne]
    exact h j y hy'
theorem lS_set {f : Nat → Int32} {x y : Int} {s : List Int} (h : lS f (x :: s)) : lS (upd f s.length (zI y)) (y :: s) := lS_push (lS_pop h).1
