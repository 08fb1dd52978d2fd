/-! ===== the belt's numbers, and how the class holds them ===== -/
abbrev bk_w (D : Nat → Nat) (w k : Nat) : Nat := D (16 + 4 * w + k)
/-- a wire that is live -/
def bk_lv (D : Nat → Nat) (w : Nat) : Bool := decide (bk_w D w 3 = 0) && decide (bk_w D w 2 < 9)
def bk_ok (n : Nat) (E D : Nat → Nat) (dry : Nat) : Prop :=
  (n = 0 ∨ 2 ≤ n) ∧ n ≤ 8 ∧ dry ≤ 9 ∧ D 84 ≤ 16 ∧ D 85 ≤ 99 ∧ D 86 ≤ 999 ∧ (n = 0 → D 84 = 0) ∧
  (∀ h, h < n → E (4 * h) ≤ 20 ∧ 1 ≤ E (4 * h + 1) ∧ E (4 * h + 1) ≤ 9 ∧ E (4 * h + 3) ≤ 3 ∧ 1 ≤ D h ∧ D h ≤ 99 ∧ D (8 + h) ≤ 99) ∧
  (∀ w, w < D 84 → bk_w D w 0 < n ∧ bk_w D w 1 < n ∧ bk_w D w 0 ≠ bk_w D w 1 ∧ bk_w D w 2 ≤ 9 ∧ bk_w D w 3 ≤ 1)
def bk_C (σ : ax_S) (n : Nat) (E D : Nat → Nat) (dry : Nat) : Prop :=
  σ.1 5 9 = nI n ∧ σ.1 5 10 = nI (D 84) ∧ σ.1 5 12 = nI (D 85) ∧ σ.1 5 13 = nI dry ∧ σ.1 5 14 = nI (D 86) ∧
  (∀ h, h < n → σ.1 23 h = nI (E (4 * h)) ∧ σ.1 24 h = nI (E (4 * h + 1)) ∧ σ.1 26 h = nI (E (4 * h + 3)) ∧ σ.1 25 h = nI (D h) ∧ σ.1 27 h = nI (D (8 + h))) ∧
  (∀ w, w < D 84 → σ.1 28 w = nI (bk_w D w 0) ∧ σ.1 29 w = nI (bk_w D w 1) ∧ σ.1 30 w = nI (bk_w D w 2)) ∧
  (∀ i, i < 32 → bt (σ.1 5 11) i = (decide (i < D 84) && decide (bk_w D i 3 = 1))) ∧
  (∀ h, h < n → ∀ w, w < D 84 → bt (σ.1 31 h) w = (decide (bk_w D w 0 = h) || decide (bk_w D w 1 = h)))
/-- Belt.live() -/
theorem ct_X0_live {d : Nat} (hd : 2 ≤ d) {σ : ax_S} {n : Nat} {E D : Nat → Nat} {dry : Nat} (hok : bk_ok n E D dry) (hC : bk_C σ n E D dry) :
    ax_Ct shC d mX0_live [ax_r 5] (fun r u => r = some (ax_i (pn_set (D 84) (bk_lv D))) ∧ u = σ) σ := by
  obtain ⟨d, rfl⟩ : ∃ e, d = e + 1 := ⟨d - 1, by omega⟩
  obtain ⟨-, -, -, hm, -, -, -, -, hw⟩ := hok
  obtain ⟨-, h10, -, -, -, -, hsal, hcut, -⟩ := hC
  refine ax_Ct.of (lv := [some (ax_r 5), none, none]) (by decide +kernel) (fun ad => Nat.le_of_ble_eq_true rfl) (fun ad => rfl) ?_
  have loop : ∀ j k x, k + j = D 84 → (∀ i, i < 32 → bt x i = (decide (i < D 84) && (decide (bk_w D i 3 = 0) && (decide (k ≤ i) || decide (bk_w D i 2 < 9))))) →
      ax_W shC (d + 1) mX0_live (fun r u => r = some (ax_i (pn_set (D 84) (bk_lv D))) ∧ u = σ) 7 [some (ax_r 5), some (ax_i x), some (ax_i (nI k))] [] σ := by
    intro j
    induction j with
    | zero =>
      intro k x hk hx
      have hle : (σ.1 5 10) ≤ nI k := by rw [h10]; exact nI_le (by omega) (by omega)
      refine s_X0_live_7 (by omega) σ x (nI k) (fun _ => ⟨?_, rfl⟩) (fun c => absurd hle c) (fun c => absurd hle c) (fun c => absurd hle c)
      rw [pn_set_eq (x := x) (n := D 84) (p := bk_lv D) (by omega) ?_]
      intro i hi
      rw [hx i hi]
      by_cases h : i < D 84
      · have : ¬ (k ≤ i) := by omega
        simp [h, this, bk_lv]
      · simp [h]
    | succ j ih =>
      intro k x hk hx
      have hlt : ¬ (σ.1 5 10) ≤ nI k := by rw [h10]; exact nI_ge (by omega) (by omega)
      have hs := (hsal k (by omega)).2.2
      have hw2 := (hw k (by omega)).2.2.2.1
      refine s_X0_live_7 (by omega) σ x (nI k) (fun c => absurd c hlt) (fun _ => vp_in_nI (by omega) (by omega)) (fun _ c => ?_) (fun _ c => ?_)
      · rw [nI_1]
        refine ih (k + 1) x (by omega) (fun i hi => ?_)
        rw [pn_tn (by omega), hs] at c
        have c2 : bk_w D k 2 < 9 := (nI_ltI (by omega) (by omega)).mp c
        rw [hx i hi]
        by_cases h : i = k
        · subst h; simp [c2]
        · have : (k ≤ i) ↔ (k + 1 ≤ i) := by omega
          simp [this]
      · rw [nI_1]
        refine ih (k + 1) _ (by omega) (fun i hi => ?_)
        rw [pn_tn (by omega), hs] at c
        have c2 : ¬ bk_w D k 2 < 9 := fun h => c ((nI_ltI (b := 9) (by omega) (by omega)).mpr h)
        rw [b_and, pn_not _ i hi, pn_one k (by omega) i hi, hx i hi]
        by_cases h : i = k
        · subst h; simp [c2]
        · have : (k ≤ i) ↔ (k + 1 ≤ i) := by omega
          simp [this, h]
  refine s_X0_live_0 (by omega) σ ?_
  rw [show (0 : Int32) = nI 0 from rfl]
  refine loop (D 84) 0 _ (by omega) (fun i hi => ?_)
  rw [b_and, pn_not _ i hi, hcut i hi, h10, pn_full (D 84) (by omega) i hi]
  by_cases h : i < D 84
  · have h3 := (hw i h).2.2.2.2
    by_cases h4 : bk_w D i 3 = 0
    · simp [h, h4]
    · have : bk_w D i 3 = 1 := by omega
      simp [h, this]
  · simp [h]
