/-! ===== the reference's strokes ===== -/
theorem n_w (k j : Nat) : (16 : Int32) + (4 : Int32) * nI k + nI j = nI (16 + 4 * k + j) := by
  rw [show (16 : Int32) = nI 16 from rfl, show (4 : Int32) = nI 4 from rfl, n_mul, n_add, n_add]
theorem n_h (k j : Nat) : (4 : Int32) * nI k + nI j = nI (4 * k + j) := by
  rw [show (4 : Int32) = nI 4 from rfl, n_mul, n_add]
theorem n_0 (k : Nat) : (0 : Int32) + nI k = nI k := by
  rw [show (0 : Int32) = nI 0 from rfl, n_add, Nat.zero_add]
/-- the reference's row 'now' as numbers -/
def mD (τ : ax_S) (D : Nat → Nat) : Prop := ∀ j, j < 268 → τ.1 15 j = nI (D j)
/-- a belt as a stroke sees it -/
def dk_lv (D : Nat → Nat) (w : Nat) : Bool := decide (w < D 84) && bk_lv D w
def dk_run (D : Nat → Nat) (kp : Nat → Nat → Nat → Nat) (h v : Nat) : (Nat → Nat) × Nat := sk_run (fun w => bk_w D w 0) (fun w => bk_w D w 1) (fun w => bk_w D w 2) (dk_lv D) kp h v
/-- bounds that a stroke needs; up to 17 wires -/
def dk_ok (n : Nat) (D : Nat → Nat) (kp : Nat → Nat → Nat → Nat) : Prop :=
  n ≤ 8 ∧ D 84 ≤ 17 ∧ (∀ w, w < D 84 → bk_w D w 0 < n ∧ bk_w D w 1 < n ∧ bk_w D w 0 ≠ bk_w D w 1 ∧ bk_w D w 2 ≤ 9 ∧ bk_w D w 3 ≤ 1) ∧ (∀ h, h < n → D h ≤ 99) ∧ ∀ h p c, kp h p c ≤ p
theorem dk_ok.sk {n : Nat} {D : Nat → Nat} {kp : Nat → Nat → Nat → Nat} (h : dk_ok n D kp) : sk_ok n (fun w => bk_w D w 0) (fun w => bk_w D w 1) (fun w => bk_w D w 2) (dk_lv D) kp := by
  refine ⟨h.1, fun w hw => ?_, h.2.2.2.2⟩
  simp only [dk_lv, Bool.and_eq_true, decide_eq_true_eq] at hw
  have := h.2.2.1 w hw.1
  exact ⟨by have := h.2.1; omega, this.1, this.2.1, this.2.2.1, this.2.2.2.1⟩
theorem mD.w {τ : ax_S} {D : Nat → Nat} (h : mD τ D) (k j : Nat) (hk : k ≤ 16) (hj : j < 4) : τ.1 15 (Int32.toNatClampNeg ((16 : Int32) + (4 : Int32) * nI k + nI j)) = nI (bk_w D k j) := by
  rw [n_w, n_tn (16 + 4 * k + j)]; exact h _ (by omega)
def scm (c i : Nat) : Prop := c = 17 ∨ c = 18 ∨ c = 19 ∨ c = 20 ∨ c = 9 ∨ c = 10 ∨ (c = 0 ∧ (i = 34 ∨ i = 35))
theorem mD.to {S : Nat → Nat → Prop} {τ u : ax_S} {D : Nat → Nat} (h : mD τ D) (hf : fo S u τ) (hS : ∀ c i, S c i → c ≠ 15) : mD u D := fun j hj => by
  rw [hf.1 15 j (fun z => hS _ _ z rfl)]; exact h j hj
theorem scm15 : ∀ c i, scm c i → c ≠ 15 := fun c i h => by unfold scm at h; omega
theorem dk_on_out {D : Nat → Nat} {h b w : Nat} (hw : D 84 ≤ w) : sk_on (fun w => bk_w D w 0) (fun w => bk_w D w 1) (dk_lv D) h b w = false := by
  have : ¬ w < D 84 := by omega
  simp [sk_on, dk_lv, this]
theorem ct_X12_liveAt {d : Nat} (hd : 3 ≤ d) {τ : ax_S} {n : Nat} {D : Nat → Nat} {kp : Nat → Nat → Nat → Nat} (hok : dk_ok n D kp) (hm : mD τ D) {h b : Nat} (hh : h < n) (hb : b = 99 ∨ b < 17) :
    ax_Ct shM d mX12_liveAt [ax_r 0, ax_i (nI h), ax_i (sk_by b)] (fun r u => r = some (ax_i (nI (sk_cn (fun w => bk_w D w 0) (fun w => bk_w D w 1) (dk_lv D) h b))) ∧ u = τ) τ := by
  obtain ⟨d, rfl⟩ : ∃ e, d = e + 1 := ⟨d - 1, by omega⟩
  obtain ⟨hn8, hM, hw, -, -⟩ := hok
  refine ax_Ct.of (lv := [some (ax_r 0), some (ax_i (nI h)), some (ax_i (sk_by b)), none, none]) (by decide +kernel) (fun ad => Nat.le_of_ble_eq_true rfl) (fun ad => rfl) ?_
  refine s_X12_liveAt_0 (by omega) τ _ _ ?_
  have h84 := hm 84 (by omega)
  have loop := lp_up (m := D 84) (P := fun k => ax_W shM (d + 1) mX12_liveAt (fun r u => r = some (ax_i (nI (sk_cn (fun w => bk_w D w 0) (fun w => bk_w D w 1) (dk_lv D) h b))) ∧ u = τ) 5 [some (ax_r 0), some (ax_i (nI h)), some (ax_i (sk_by b)), some (ax_i (nI (fb_ct (sk_on (fun w => bk_w D w 0) (fun w => bk_w D w 1) (dk_lv D) h b) k))), some (ax_i (nI k))] [] τ) ?_ ?_
  · exact loop 0 (Nat.zero_le _)
  · have hl : τ.1 15 84 ≤ nI (D 84) := by rw [h84]; exact nI_le (Nat.le_refl _) (by omega)
    refine s_X12_liveAt_5 (by omega) τ _ _ _ _ (fun _ => ⟨?_, rfl⟩) (fun c => absurd hl c) (fun c => absurd hl c) (fun c => absurd hl c) (fun c => absurd hl c) (fun c => absurd hl c)
    have h1 := fb_ct_split (sk_on (fun w => bk_w D w 0) (fun w => bk_w D w 1) (dk_lv D) h b) (D 84) (17 - D 84)
    have h2 : fb_ct (fun k => sk_on (fun w => bk_w D w 0) (fun w => bk_w D w 1) (dk_lv D) h b (D 84 + k)) (17 - D 84) = 0 := fb_ct_zero.mpr (fun k _ => dk_on_out (by omega))
    rw [show D 84 + (17 - D 84) = 17 by omega, h2, Nat.add_zero] at h1
    rw [← h1]; rfl
  · intro k hk ih
    have hl : ¬ τ.1 15 84 ≤ nI k := by rw [h84]; exact nI_ge hk (by omega)
    obtain ⟨w0, w1, w2, w3, w4⟩ := hw k hk
    have b3 := hm.w k 3 (by omega) (by omega)
    have b2 := hm.w k 2 (by omega) (by omega)
    have b1 := hm.w k 1 (by omega) (by omega)
    have b0 := hm.w k 0 (by omega) (by omega)
    have i3 : vp_in ((16 : Int32) + (4 : Int32) * nI k + nI 3) 268 := by rw [n_w]; exact n_in _ _
    have i2 : vp_in ((16 : Int32) + (4 : Int32) * nI k + nI 2) 268 := by rw [n_w]; exact n_in _ _
    have i1 : vp_in ((16 : Int32) + (4 : Int32) * nI k + nI 1) 268 := by rw [n_w]; exact n_in _ _
    have i0 : vp_in ((16 : Int32) + (4 : Int32) * nI k + nI 0) 268 := by rw [n_w]; exact n_in _ _
    refine s_X12_liveAt_5 (by omega) τ _ _ _ _ (fun c => absurd c hl) (fun _ _ => i3) (fun _ _ _ => i2) (fun _ _ _ => i0) (fun _ _ _ _ => i1) (fun _ => ?_)
    rw [nI_1]
    have hon : (nI k = sk_by b) ↔ k = b := by
      unfold sk_by
      rcases hb with rfl | hb
      · rw [if_pos rfl]
        exact ⟨fun z => absurd z (n_m1 k), fun z => by omega⟩
      · rw [if_neg (by omega)]; exact n_eq k b
    have hP : ∀ x : Int32, x = (if ((¬ (nI k = sk_by b)) ∧ (((¬ (¬ (τ.1 15 (Int32.toNatClampNeg ((16 : Int32) + (4 : Int32) * nI k + nI 3))) = 0)) ∧ (¬ ((nI 9) ≤ (τ.1 15 (Int32.toNatClampNeg ((16 : Int32) + (4 : Int32) * nI k + nI 2)))))) ∧ (((τ.1 15 (Int32.toNatClampNeg ((16 : Int32) + (4 : Int32) * nI k + nI 0))) = nI h) ∨ (¬ (¬ (τ.1 15 (Int32.toNatClampNeg ((16 : Int32) + (4 : Int32) * nI k + nI 1))) = nI h))))) then (1 : Int32) else 0) → x = nI (if sk_on (fun w => bk_w D w 0) (fun w => bk_w D w 1) (dk_lv D) h b k then 1 else 0) := by
      intro x hx
      rw [hx, b3, b2, b1, b0]
      have e3 : (nI (bk_w D k 3) = 0) ↔ bk_w D k 3 = 0 := n_eq _ 0
      have e2 : (nI 9 ≤ nI (bk_w D k 2)) ↔ 9 ≤ bk_w D k 2 := n_le _ _
      have e1 : (nI (bk_w D k 1) = nI h) ↔ bk_w D k 1 = h := n_eq _ _
      have e0 : (nI (bk_w D k 0) = nI h) ↔ bk_w D k 0 = h := n_eq _ _
      simp only [hon, e3, e2, e1, e0, Classical.not_not]
      have hiff : (¬ k = b ∧ (bk_w D k 3 = 0 ∧ ¬ 9 ≤ bk_w D k 2) ∧ (bk_w D k 0 = h ∨ bk_w D k 1 = h)) ↔ sk_on (fun w => bk_w D w 0) (fun w => bk_w D w 1) (dk_lv D) h b k = true := by
        simp only [sk_on, dk_lv, bk_lv, Bool.and_eq_true, Bool.or_eq_true, decide_eq_true_eq, Bool.not_eq_true', decide_eq_false_iff_not]
        constructor
        · rintro ⟨q1, ⟨q2, q3⟩, q4⟩
          exact ⟨⟨hk, q2, by omega⟩, q1, q4⟩
        · rintro ⟨⟨-, q2, q3⟩, q1, q4⟩
          exact ⟨q1, ⟨q2, by omega⟩, q4⟩
      cases hs : sk_on (fun w => bk_w D w 0) (fun w => bk_w D w 1) (dk_lv D) h b k
      · rw [hs] at hiff
        rw [if_neg (fun z => by have := hiff.mp z; cases this)]; rfl
      · rw [hs] at hiff
        rw [if_pos (hiff.mpr rfl)]; rfl
    have hx := hP _ rfl
    have hstep := fb_ct_succ (sk_on (fun w => bk_w D w 0) (fun w => bk_w D w 1) (dk_lv D) h b) k
    rw [hstep, ← nI_add, ← hx] at ih
    exact ih
