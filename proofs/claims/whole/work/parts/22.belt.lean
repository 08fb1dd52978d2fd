/-! ===== the belt's numbers, and how the class holds them ===== -/
abbrev bk_w (D : Nat → Nat) (w k : Nat) : Nat := D (16 + 4 * w + k)
/-- a wire that is live -/
def bk_lv (D : Nat → Nat) (w : Nat) : Bool := decide (bk_w D w 3 = 0) && decide (bk_w D w 2 < 9)
def bk_ok (n : Nat) (E D : Nat → Nat) (dry : Nat) : Prop :=
  (n = 0 ∨ 2 ≤ n) ∧ n ≤ 8 ∧ dry ≤ 9 ∧ D 84 ≤ 16 ∧ D 85 ≤ 99 ∧ D 86 ≤ 999 ∧ (n = 0 → D 84 = 0) ∧
  (∀ h, h < n → E (4 * h) ≤ 20 ∧ 1 ≤ E (4 * h + 1) ∧ E (4 * h + 1) ≤ 9 ∧ E (4 * h + 3) ≤ 3 ∧ 1 ≤ D h ∧ D h ≤ 99 ∧ D (8 + h) ≤ 99) ∧
  (∀ w, w < D 84 → bk_w D w 0 < n ∧ bk_w D w 1 < n ∧ bk_w D w 0 ≠ bk_w D w 1 ∧ bk_w D w 2 ≤ 9 ∧ bk_w D w 3 ≤ 1)
def bk_C (σ : ax_S) (n : Nat) (E D : Nat → Nat) (dry : Nat) : Prop :=
  σ.1 5 9 = nI n ∧ σ.1 5 10 = nI (D 84) ∧ σ.1 5 12 = nI (D 85) ∧ σ.1 5 13 = nI dry ∧ σ.1 5 14 = nI (D 86) ∧
  (∀ h, h < n → σ.1 23 h = nI (E (4 * h)) ∧ σ.1 24 h = nI (E (4 * h + 1)) ∧ σ.1 26 h = nI (E (4 * h + 3)) ∧ σ.1 25 h = nI (D h) ∧ σ.1 27 h = nI (D (8 + h))) ∧
  (∀ w, w < D 84 → σ.1 28 w = nI (bk_w D w 0) ∧ σ.1 29 w = nI (bk_w D w 1) ∧ σ.1 30 w = nI (bk_w D w 2)) ∧
  (∀ i, i < 32 → bt (σ.1 5 11) i = (decide (i < D 84) && decide (bk_w D i 3 = 1))) ∧
  (∀ h, h < n → ∀ w, w < D 84 → bt (σ.1 31 h) w = (decide (bk_w D w 0 = h) || decide (bk_w D w 1 = h)))
/-- Belt.live() -/
theorem ct_X0_live {d : Nat} (hd : 2 ≤ d) {σ : ax_S} {n : Nat} {E D : Nat → Nat} {dry : Nat} (hok : bk_ok n E D dry) (hC : bk_C σ n E D dry) :
    ax_Ct shC d mX0_live [ax_r 5] (fun r u => r = some (ax_i (pn_set (D 84) (bk_lv D))) ∧ u = σ) σ := by
  obtain ⟨d, rfl⟩ : ∃ e, d = e + 1 := ⟨d - 1, by omega⟩
  obtain ⟨-, -, -, hm, -, -, -, -, hw⟩ := hok
  obtain ⟨-, h10, -, -, -, -, hsal, hcut, -⟩ := hC
  refine ax_Ct.of (lv := [some (ax_r 5), none, none]) (by decide +kernel) (fun ad => Nat.le_of_ble_eq_true rfl) (fun ad => rfl) ?_
  have loop : ∀ j k x, k + j = D 84 → (∀ i, i < 32 → bt x i = (decide (i < D 84) && (decide (bk_w D i 3 = 0) && (decide (k ≤ i) || decide (bk_w D i 2 < 9))))) →
      ax_W shC (d + 1) mX0_live (fun r u => r = some (ax_i (pn_set (D 84) (bk_lv D))) ∧ u = σ) 7 [some (ax_r 5), some (ax_i x), some (ax_i (nI k))] [] σ := by
    intro j
    induction j with
    | zero =>
      intro k x hk hx
      have hle : (σ.1 5 10) ≤ nI k := by rw [h10]; exact nI_le (by omega) (by omega)
      refine s_X0_live_7 (by omega) σ x (nI k) (fun _ => ⟨?_, rfl⟩) (fun c => absurd hle c) (fun c => absurd hle c) (fun c => absurd hle c)
      rw [pn_set_eq (x := x) (n := D 84) (p := bk_lv D) (by omega) ?_]
      intro i hi
      rw [hx i hi]
      by_cases h : i < D 84
      · have : ¬ (k ≤ i) := by omega
        simp [h, this, bk_lv]
      · simp [h]
    | succ j ih =>
      intro k x hk hx
      have hlt : ¬ (σ.1 5 10) ≤ nI k := by rw [h10]; exact nI_ge (by omega) (by omega)
      have hs := (hsal k (by omega)).2.2
      have hw2 := (hw k (by omega)).2.2.2.1
      refine s_X0_live_7 (by omega) σ x (nI k) (fun c => absurd c hlt) (fun _ => vp_in_nI (by omega) (by omega)) (fun _ c => ?_) (fun _ c => ?_)
      · rw [nI_1]
        refine ih (k + 1) x (by omega) (fun i hi => ?_)
        rw [pn_tn (by omega), hs] at c
        have c2 : bk_w D k 2 < 9 := (nI_ltI (by omega) (by omega)).mp c
        rw [hx i hi]
        by_cases h : i = k
        · subst h; simp [c2]
        · have : (k ≤ i) ↔ (k + 1 ≤ i) := by omega
          simp [this]
      · rw [nI_1]
        refine ih (k + 1) _ (by omega) (fun i hi => ?_)
        rw [pn_tn (by omega), hs] at c
        have c2 : ¬ bk_w D k 2 < 9 := fun h => c ((nI_ltI (b := 9) (by omega) (by omega)).mpr h)
        rw [b_and, pn_not _ i hi, pn_one k (by omega) i hi, hx i hi]
        by_cases h : i = k
        · subst h; simp [c2]
        · have : (k ≤ i) ↔ (k + 1 ≤ i) := by omega
          simp [this, h]
  refine s_X0_live_0 (by omega) σ ?_
  rw [show (0 : Int32) = nI 0 from rfl]
  refine loop (D 84) 0 _ (by omega) (fun i hi => ?_)
  rw [b_and, pn_not _ i hi, hcut i hi, h10, pn_full (D 84) (by omega) i hi]
  by_cases h : i < D 84
  · have h3 := (hw i h).2.2.2.2
    by_cases h4 : bk_w D i 3 = 0
    · simp [h, h4]
    · have : bk_w D i 3 = 1 := by omega
      simp [h, this]
  · simp [h]
/-- Arrays.fill over a row of ours -/
theorem ct_fill {d : Nat} (hd : 1 ≤ d) {σ : ax_S} {c n : Nat} (hc : shC[c]? = some (Sum.inr (false, n))) (hn : n < 2147483648) (x : Int32) :
    ax_Ct shC d mJ7_fill_53178 [ax_r c, ax_i x] (fun r u => r = none ∧ fo (fun c' _ => c' = c) u σ ∧ ∀ i, i < n → u.1 c i = x) σ := by
  obtain ⟨d, rfl⟩ : ∃ e, d = e + 1 := ⟨d - 1, by omega⟩
  refine ax_Ct.of (lv := [some (ax_r c), some (ax_i x), none, none]) (by decide +kernel) (fun ad => Nat.le_of_ble_eq_true rfl) (fun ad => rfl) ?_
  refine s_J7_fill_53178_0 (by omega) σ c n hc x ?_
  have loop := lp_up (m := n) (P := fun k => ∀ u, fo (fun c' _ => c' = c) u σ → (∀ i, i < k → u.1 c i = x) → ax_W shC (d + 1) mJ7_fill_53178 (fun r u => r = none ∧ fo (fun c' _ => c' = c) u σ ∧ ∀ i, i < n → u.1 c i = x) 5 [some (ax_r c), some (ax_i x), some (ax_i (nI k)), some (ax_i (nI n))] [] u) ?_ ?_
  · exact loop 0 (Nat.zero_le _) σ fo.rfl' (fun i h => absurd h (Nat.not_lt_zero i))
  · intro u hf hx
    exact s_J7_fill_53178_5 (by omega) u c n hc x (nI n) (nI n) (fun _ => ⟨rfl, hf, hx⟩) (fun c1 => absurd ((n_le n n).mpr (Nat.le_refl n)) c1) (fun c1 => absurd ((n_le n n).mpr (Nat.le_refl n)) c1)
  · intro k hk ih u hf hx
    refine s_J7_fill_53178_5 (by omega) u c n hc x (nI k) (nI n) (fun c1 => absurd ((n_le n k).mp c1) (by omega)) (fun _ => n_in k n) (fun _ => ?_)
    rw [n_tn k, nI_1]
    refine ih _ (hf.ui rfl) (fun i hi => ?_)
    by_cases h : i = k
    · subst h; exact ui_same _ _ _ _
    · rw [ui_idx h]; exact hx i (by omega)
/-- Belt.touchAnew() -/
theorem ct_X0_touchAnew {d : Nat} (hd : 2 ≤ d) {σ : ax_S} {m : Nat} {fr to : Nat → Nat} (hm : m ≤ 17) (h10 : σ.1 5 10 = nI m) (hw : ∀ w, w < m → σ.1 28 w = nI (fr w) ∧ σ.1 29 w = nI (to w) ∧ fr w < 8 ∧ to w < 8) :
    ax_Ct shC d mX0_touchAnew [ax_r 5] (fun r u => r = none ∧ fo (fun c _ => c = 31) u σ ∧ ∀ h, h < 8 → ∀ i, i < 32 → bt (u.1 31 h) i = (decide (i < m) && (decide (fr i = h) || decide (to i = h)))) σ := by
  obtain ⟨d, rfl⟩ : ∃ e, d = e + 1 := ⟨d - 1, by omega⟩
  refine ax_Ct.of (lv := [some (ax_r 5), none]) (by decide +kernel) (fun ad => Nat.le_of_ble_eq_true rfl) (fun ad => rfl) ?_
  refine s_X0_touchAnew_0 (by omega) σ ((ct_fill (by omega) shC_31 (by omega) 0).mono ?_)
  rintro r u ⟨rfl, hf, h0⟩
  refine ⟨rfl, s_X0_touchAnew_8 (by omega) u ?_⟩
  have loop := lp_up (m := m) (P := fun k => ∀ u, fo (fun c _ => c = 31) u σ → (∀ h, h < 8 → ∀ i, i < 32 → bt (u.1 31 h) i = (decide (i < k) && (decide (fr i = h) || decide (to i = h)))) → ax_W shC (d + 1) mX0_touchAnew (fun r u => r = none ∧ fo (fun c _ => c = 31) u σ ∧ ∀ h, h < 8 → ∀ i, i < 32 → bt (u.1 31 h) i = (decide (i < m) && (decide (fr i = h) || decide (to i = h)))) 10 [some (ax_r 5), some (ax_i (nI k))] [] u) ?_ ?_
  · refine loop 0 (Nat.zero_le _) u hf (fun h hh i hi => ?_)
    rw [h0 h hh, b_0]; simp
  · intro u hf hx
    have hle : (u.1 5 10) ≤ nI m := by rw [hf.1 5 10 (by omega), h10]; exact nI_le (Nat.le_refl m) (by omega)
    exact s_X0_touchAnew_10 (by omega) u (nI m) (fun _ => ⟨rfl, hf, hx⟩) (fun c => absurd hle c) (fun c => absurd hle c) (fun c => absurd hle c) (fun c => absurd hle c)
  · intro k hk ih u hf hx
    have hlt : ¬ (u.1 5 10) ≤ nI k := by rw [hf.1 5 10 (by omega), h10]; exact nI_ge hk (by omega)
    obtain ⟨h1, h2, h3, h4⟩ := hw k hk
    have e1 : u.1 28 (Int32.toNatClampNeg (nI k)) = nI (fr k) := by rw [n_tn k, hf.1 28 k (by omega), h1]
    have e2 : u.1 29 (Int32.toNatClampNeg (nI k)) = nI (to k) := by rw [n_tn k, hf.1 29 k (by omega), h2]
    refine s_X0_touchAnew_10 (by omega) u (nI k) (fun c => absurd c hlt) (fun _ => n_in k 17) (fun _ => ?_) (fun _ => ?_) (fun _ => ?_)
    · rw [e1]; exact n_in _ _
    · rw [e2]; exact n_in _ _
    · rw [e1, e2, n_tn (fr k), n_tn (to k), nI_1]
      refine ih _ ((hf.ui rfl).ui rfl) (fun h hh i hi => ?_)
      have hb := pn_one k (by omega) i hi
      have hxx := hx h hh i hi
      have hik : decide (i < k + 1) = (decide (i < k) || decide (i = k)) := by
        by_cases q : i < k
        · have : i < k + 1 := by omega
          simp [q, this]
        · by_cases q2 : i = k
          · simp [q2]
          · have : ¬ i < k + 1 := by omega
            simp [q, q2, this]
      rw [hik]
      simp only [ui_any, true_and]
      by_cases ha : h = to k
      · subst ha
        rw [if_pos rfl]
        by_cases hb2 : to k = fr k
        · rw [if_pos hb2, b_or, b_or, hb, ← hb2, hxx]
          by_cases q : i = k
          · subst q; simp
          · simp [q]
        · rw [if_neg hb2, b_or, hb, hxx]
          by_cases q : i = k
          · subst q; simp
          · simp [q]
      · rw [if_neg ha]
        by_cases hb2 : h = fr k
        · subst hb2
          rw [if_pos rfl, b_or, hb, hxx]
          by_cases q : i = k
          · subst q; simp
          · simp [q]
        · rw [if_neg hb2, hxx]
          by_cases q : i = k
          · subst q
            have n1 : ¬ fr i = h := fun e => hb2 e.symm
            have n2 : ¬ to i = h := fun e => ha e.symm
            simp [n1, n2]
          · simp [q]
