/-! ===== loops, frames, numbers with their bounds found by themselves ===== -/
theorem lp_up {P : Nat → Prop} {m : Nat} (he : P m) (hs : ∀ k, k < m → P (k + 1) → P k) (k : Nat) (hk : k ≤ m) : P k := by
  obtain ⟨j, hj⟩ : ∃ j, k + j = m := ⟨m - k, by omega⟩
  induction j generalizing k with
  | zero => have : k = m := by omega
            rw [this]; exact he
  | succ j ih => exact hs k (by omega) (ih (k + 1) (by omega) (by omega))
theorem n_tn (k : Nat) (h : k < 2147483648 := by omega) : Int32.toNatClampNeg (nI k) = k := nI_clamp h
theorem n_le (a b : Nat) (ha : a < 2147483648 := by omega) (hb : b < 2147483648 := by omega) : nI a ≤ nI b ↔ a ≤ b := nI_leI ha hb
theorem n_lt (a b : Nat) (ha : a < 2147483648 := by omega) (hb : b < 2147483648 := by omega) : nI a < nI b ↔ a < b := nI_ltI ha hb
theorem n_eq (a b : Nat) (ha : a < 2147483648 := by omega) (hb : b < 2147483648 := by omega) : nI a = nI b ↔ a = b := nI_eq ha hb
theorem n_in (k n : Nat) (h : k < n := by omega) (hn : n < 2147483648 := by omega) : vp_in (nI k) n := vp_in_nI h hn
theorem n_lit (n : Nat) : (OfNat.ofNat n : Int32) = nI n := rfl
theorem n_add (a b : Nat) : nI a + nI b = nI (a + b) := nI_add a b
theorem n_sub (a b : Nat) (h : b ≤ a := by omega) : nI a - nI b = nI (a - b) := pk_sub h
theorem n_mul (a b : Nat) : nI a * nI b = nI (a * b) := pk_mul a b
theorem n_div (a b : Nat) (h0 : 0 < b := by omega) (ha : a < 2147483648 := by omega) (hb : b < 2147483648 := by omega) : nI a / nI b = nI (a / b) := pk_div ha h0 hb
theorem n_rem (a b : Nat) (h0 : 0 < b := by omega) (ha : a < 2147483648 := by omega) (hb : b < 2147483648 := by omega) : nI a - nI a / nI b * nI b = nI (a % b) := pk_rem ha h0 hb
theorem n_max (a b : Nat) (ha : a < 2147483648 := by omega) (hb : b < 2147483648 := by omega) : (if nI a < nI b then nI b else nI a) = nI (max a b) := by
  by_cases h : a < b
  · rw [if_pos ((n_lt a b).mpr h), Nat.max_eq_right (by omega)]
  · rw [if_neg (fun z => h ((n_lt a b).mp z)), Nat.max_eq_left (by omega)]
theorem n_min (a b : Nat) (ha : a < 2147483648 := by omega) (hb : b < 2147483648 := by omega) : (if nI b < nI a then nI b else nI a) = nI (min a b) := by
  by_cases h : b < a
  · rw [if_pos ((n_lt b a).mpr h), Nat.min_eq_right (by omega)]
  · rw [if_neg (fun z => h ((n_lt b a).mp z)), Nat.min_eq_left (by omega)]
theorem n_nn (k : Nat) (h : k < 2147483648 := by omega) : ¬ nI k < 0 := nI_pos h
theorem n_m1 (k : Nat) (h : k < 2147483648 := by omega) : ¬ nI k = -1 := fun e => by
  have h1 := congrArg Int32.toInt e
  rw [nI_toInt h] at h1
  have h2 : Int32.toInt (-1) = -1 := by decide
  omega
/-- only places of a kind have changed -/
def fo (S : Nat → Nat → Prop) (u σ : ax_S) : Prop := (∀ c i, ¬ S c i → u.1 c i = σ.1 c i) ∧ u.2 = σ.2
theorem fo.rfl' {S : Nat → Nat → Prop} {σ : ax_S} : fo S σ σ := ⟨fun _ _ _ => rfl, rfl⟩
theorem fo.trans {S : Nat → Nat → Prop} {u v w : ax_S} (h1 : fo S u v) (h2 : fo S v w) : fo S u w := ⟨fun c i h => (h1.1 c i h).trans (h2.1 c i h), h1.2.trans h2.2⟩
theorem fo.mono {S T : Nat → Nat → Prop} {u v : ax_S} (h : fo S u v) (hST : ∀ c i, S c i → T c i) : fo T u v := ⟨fun c i hn => h.1 c i (fun z => hn (hST c i z)), h.2⟩
theorem fo.ui {S : Nat → Nat → Prop} {u σ : ax_S} {c i : Nat} {v : Int32} (h : fo S u σ) (hs : S c i) : fo S (ax_ui u c i v) σ := ⟨fun c' i' hn => by
  rw [ui_any, if_neg (fun (e : c' = c ∧ i' = i) => hn (by rw [e.1, e.2]; exact hs))]; exact h.1 c' i' hn, h.2⟩
