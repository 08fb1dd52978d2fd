/-! ===== my own rows on numbers and bits ===== -/
theorem pn_tn {k : Nat} (h : k < 2 ^ 31) : Int32.toNatClampNeg (nI k) = k := nI_clamp h
theorem pn_one (k : Nat) (hk : k < 32) (i : Nat) (hi : i < 32) : bt ((1 : Int32) <<< (nI k &&& 31)) i = decide (i = k) := by
  rw [b_shl k hk 1 hi]
  have h1 : ∀ j, j < 32 → bt 1 j = decide (j = 0) := by decide +kernel
  by_cases h : k ≤ i
  · rw [h1 (i - k) (by omega)]
    by_cases h2 : i = k
    · simp [h2]
    · have : ¬ (i - k = 0) := by omega
      simp [h, h2, this]
  · have : ¬ (i = k) := by omega
    simp [h, this]
theorem pn_not (x : Int32) (i : Nat) (hi : i < 32) : bt (x ^^^ (-1)) i = !bt x i := by
  rw [b_xor, b_m1 i hi]
  cases bt x i <;> rfl
theorem pn_bit01 : ∀ b : Bool, (if b then (1 : Int32) else 0) = if b then 1 else 0 := fun _ => rfl
theorem pn_1 : ∀ i, i < 32 → bt 1 i = decide (i = 0) := by decide +kernel
theorem pn_bitOf (x : Int32) (k : Nat) (hk : k < 32) : (x >>> (nI k &&& 31)) &&& (1 : Int32) = if bt x k then 1 else 0 := by
  apply b_ext
  intro i hi
  rw [b_and, pn_1 i hi, b_sshr k hk x hi]
  by_cases h0 : i = 0
  · subst h0
    have : k + 0 < 32 := by omega
    rw [if_pos this]
    cases h : bt x (k + 0)
    · have h' : bt x k = false := h
      simp [h', b_0]
    · have h' : bt x k = true := h
      simp [h', pn_1]
  · simp only [h0, decide_false, Bool.and_false]
    split
    · rw [pn_1 i hi]; simp [h0]
    · rw [b_0]
theorem pn_bitOf1 (x : Int32) (k : Nat) (hk : k < 32) : ((x >>> (nI k &&& 31)) &&& (1 : Int32) = 1) ↔ bt x k = true := by
  rw [pn_bitOf x k hk]
  cases bt x k <;> decide
theorem pn_bitOf0 (x : Int32) (k : Nat) (hk : k < 32) : ((x >>> (nI k &&& 31)) &&& (1 : Int32) = 0) ↔ bt x k = false := by
  rw [pn_bitOf x k hk]
  cases bt x k <;> decide
/-- the set of the places below n that have a property, as bits -/
def pn_set (n : Nat) (p : Nat → Bool) : Int32 := match n with
  | 0 => 0
  | k + 1 => pn_set k p ||| (if p k then ((1 : Int32) <<< (nI k &&& 31)) else 0)
theorem pn_set_bt (p : Nat → Bool) : ∀ n, n ≤ 32 → ∀ i, i < 32 → bt (pn_set n p) i = (decide (i < n) && p i) := by
  intro n
  induction n with
  | zero => intro _ i _; simp [pn_set, b_0]
  | succ k ih =>
    intro hk i hi
    show bt (pn_set k p ||| _) i = _
    rw [b_or, ih (by omega) i hi]
    cases hp : p k
    · rw [if_neg (by simp), b_0]
      by_cases h : i = k
      · subst h; simp [hp]
      · have : (i < k + 1) ↔ i < k := by omega
        simp [this]
    · rw [if_pos rfl, pn_one k (by omega) i hi]
      by_cases h : i = k
      · subst h; simp [hp]
      · have : (i < k + 1) ↔ i < k := by omega
        simp [this, h]
theorem pn_set_eq {n : Nat} {p : Nat → Bool} {x : Int32} (hn : n ≤ 32) (h : ∀ i, i < 32 → bt x i = (decide (i < n) && p i)) : x = pn_set n p :=
  b_ext fun i hi => by rw [h i hi, pn_set_bt p n hn i hi]
theorem pn_set_cong {n : Nat} {p q : Nat → Bool} (h : ∀ i, i < n → p i = q i) : pn_set n p = pn_set n q := by
  induction n with
  | zero => rfl
  | succ k ih => show _ ||| _ = _ ||| _; rw [ih (fun i hi => h i (by omega)), h k (by omega)]
theorem pn_full : ∀ m, m ≤ 31 → ∀ i, i < 32 → bt (((1 : Int32) <<< (nI m &&& 31)) - 1) i = decide (i < m) := by decide +kernel
/-- reading behind a write -/
theorem ui_same (σ : ax_S) (c i : Nat) (v : Int32) : (ax_ui σ c i v).1 c i = v := by simp [ax_ui]
theorem ui_cell {σ : ax_S} {c i : Nat} {v : Int32} {c' j : Nat} (h : c' ≠ c) : (ax_ui σ c i v).1 c' j = σ.1 c' j := by simp [ax_ui, h]
theorem ui_idx {σ : ax_S} {c i : Nat} {v : Int32} {j : Nat} (h : j ≠ i) : (ax_ui σ c i v).1 c j = σ.1 c j := by simp [ax_ui, h]
theorem ui_any (σ : ax_S) (c i : Nat) (v : Int32) (c' j : Nat) : (ax_ui σ c i v).1 c' j = if c' = c ∧ j = i then v else σ.1 c' j := rfl
