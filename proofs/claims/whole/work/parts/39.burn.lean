theorem ct_X12_layStroke {d : Nat} (hd : 10 ≤ d) {τ : ax_S} {n : Nat} {D : Nat → Nat} {kp : Nat → Nat → Nat → Nat} (hok : dk_ok n D kp) (hm : mD τ D) (hK : mk_K τ n kp) {h v : Nat} (hh : h < n) (hv1 : 1 ≤ v) (hv : v ≤ 999) :
    ax_Ct shM d mX12_layStroke [ax_r 0, ax_i (nI h), ax_i (nI v)] (fun r u => r = none ∧ fo scm u τ ∧ (∀ k, k < 8 → u.1 20 k = nI ((dk_run D kp h v).1 k)) ∧ u.1 0 35 = nI (dk_run D kp h v).2 ∧ fb_sm (dk_run D kp h v).1 n + (dk_run D kp h v).2 = v) τ := by
  obtain ⟨d, rfl⟩ : ∃ e, d = e + 1 := ⟨d - 1, by omega⟩
  have hn8 := hok.1
  refine ax_Ct.of (lv := [some (ax_r 0), some (ax_i (nI h)), some (ax_i (nI v)), none, none, none, none, none, none, none, none]) (by decide +kernel) (fun ad => Nat.le_of_ble_eq_true rfl) (fun ad => rfl) ?_
  refine s_X12_layStroke_0 (by omega) τ _ _ ?_
  have loop := lp_up (m := 8) (P := fun k => ∀ u, fo (fun c _ => c = 20) u τ → (∀ j, j < k → u.1 20 j = 0) → ax_W shM (d + 1) mX12_layStroke (fun r u => r = none ∧ fo scm u τ ∧ (∀ k, k < 8 → u.1 20 k = nI ((dk_run D kp h v).1 k)) ∧ u.1 0 35 = nI (dk_run D kp h v).2 ∧ fb_sm (dk_run D kp h v).1 n + (dk_run D kp h v).2 = v) 2 [some (ax_r 0), some (ax_i (nI h)), some (ax_i (nI v)), some (ax_i (nI k)), none, none, none, none, none, none, none] [] u) ?_ ?_
  · exact loop 0 (Nat.zero_le _) τ fo.rfl' (fun j hj => absurd hj (Nat.not_lt_zero j))
  · intro u hf h0
    have hl : (8 : Int32) ≤ nI 8 := (n_le 8 8).mpr (Nat.le_refl 8)
    refine s_X12_layStroke_2 (by omega) u _ _ _ (fun _ => ?_) (fun c => absurd hl c) (fun c => absurd hl c)
    have hfo : fo scm (ax_ui (ax_ui (ax_ui (ax_ui (ax_ui (ax_ui u 0 34 0) 0 35 0) 17 0 (nI h)) 18 0 (nI v)) 19 0 (-1)) 0 34 ((0 : Int32) + 1)) τ :=
      ((((((hf.mono (fun c i hi => by unfold scm; omega)).ui (by unfold scm; omega)).ui (by unfold scm; omega)).ui (by unfold scm; omega)).ui (by unfold scm; omega)).ui (by unfold scm; omega)).ui (by unfold scm; omega)
    refine w_X12_lay43 (by omega) hok hm hK hv 36 0 [(h, v, 99)] (fun _ => false) (fun _ => 0) 0 _ _ (by omega) (sk_iv0 hh hv1) ⟨hfo, ?_, ?_, ?_, ?_⟩ ?_ ?_
    · intro j x hx
      cases j with
      | zero =>
        simp at hx
        subst hx
        simp [ui_any]
        rfl
      | succ j => simp at hx
    · rw [ui_same]; rfl
    · intro k hk
      simp [ui_any]
      exact h0 k hk
    · simp [ui_any]; rfl
    · intro k hk; exact b_0 k
    · intro K W u' hgo h1 h2 h3 h4
      have hr : dk_run D kp h v = (K, W) := hgo
      rw [hr]
      exact ⟨rfl, h1, h2, h3, h4⟩
  · intro k hk ih u hf h0
    have hl : ¬ (8 : Int32) ≤ nI k := fun z => absurd ((n_le 8 k).mp z) (by omega)
    refine s_X12_layStroke_2 (by omega) u _ _ _ (fun c => absurd c hl) (fun _ => n_in _ _) (fun _ => ?_)
    rw [n_tn k, nI_1]
    refine ih _ (hf.ui rfl) (fun j hj => ?_)
    by_cases e : j = k
    · subst e; exact ui_same _ _ _ _
    · rw [ui_idx e]; exact h0 j (by omega)
/-- which burn -/
def dk_bu (n : Nat) (D : Nat → Nat) (kp : Nat → Nat → Nat → Nat) (h v : Nat) : Int32 := pn_set n (fun k => decide (D k < (dk_run D kp h v).1 k))
theorem ct_X12_burningBy {d : Nat} (hd : 11 ≤ d) {τ : ax_S} {n : Nat} {D : Nat → Nat} {kp : Nat → Nat → Nat → Nat} (hok : dk_ok n D kp) (h23 : τ.1 0 23 = nI n) (hm : mD τ D) (hK : mk_K τ n kp) {h v : Nat} (hh : h < n) (hv1 : 1 ≤ v) (hv : v ≤ 999) :
    ax_Ct shM d mX12_burningBy [ax_r 0, ax_i (nI h), ax_i (nI v)] (fun r u => r = some (ax_i (dk_bu n D kp h v)) ∧ fo scm u τ ∧ (∀ k, k < 8 → u.1 20 k = nI ((dk_run D kp h v).1 k))) τ := by
  obtain ⟨d, rfl⟩ : ∃ e, d = e + 1 := ⟨d - 1, by omega⟩
  have hn8 := hok.1
  refine ax_Ct.of (lv := [some (ax_r 0), some (ax_i (nI h)), some (ax_i (nI v)), none, none]) (by decide +kernel) (fun ad => Nat.le_of_ble_eq_true rfl) (fun ad => rfl) ?_
  refine s_X12_burningBy_0 (by omega) τ _ _ ((ct_X12_layStroke (by omega) hok hm hK hh hv1 hv).mono ?_)
  rintro r u ⟨rfl, hf, hk, hws, hsum⟩
  refine ⟨rfl, s_X12_burningBy_6 (by omega) u ?_⟩
  have hmu := hm.to hf scm15
  have u23 : u.1 0 23 = nI n := by rw [hf.1 0 23 (by unfold scm; omega)]; exact h23
  have hk9 : ∀ k, k < n → (dk_run D kp h v).1 k ≤ 999 := fun k hkn => by
    have := fb_sm_part (dk_run D kp h v).1 hkn; omega
  have loop := lp_up (m := n) (P := fun k => ax_W shM (d + 1) mX12_burningBy (fun r u => r = some (ax_i (dk_bu n D kp h v)) ∧ fo scm u τ ∧ (∀ k, k < 8 → u.1 20 k = nI ((dk_run D kp h v).1 k))) 11 [some (ax_r 0), none, none, some (ax_i (pn_set k (fun k => decide (D k < (dk_run D kp h v).1 k)))), some (ax_i (nI k))] [] u) ?_ ?_
  · exact loop 0 (Nat.zero_le _)
  · have hl : u.1 0 23 ≤ nI n := by rw [u23]; exact nI_le (Nat.le_refl n) (by omega)
    exact s_X12_burningBy_11 (by omega) u _ _ (fun _ => ⟨rfl, hf, hk⟩) (fun c => absurd hl c) (fun c => absurd hl c) (fun c => absurd hl c)
  · intro k hkn ih
    have hl : ¬ u.1 0 23 ≤ nI k := by rw [u23]; exact nI_ge hkn (by omega)
    have hD9 := hok.2.2.2.1 k hkn
    have hK9 := hk9 k hkn
    refine s_X12_burningBy_11 (by omega) u _ _ (fun c => absurd c hl) (fun _ => n_in _ _) (fun _ => by rw [n_0]; exact n_in _ _) (fun _ => ?_)
    rw [n_0, n_tn k, hk k (by omega), hmu k (by omega), nI_1]
    have hs : (if nI ((dk_run D kp h v).1 k) ≤ nI (D k) then (0 : Int32) else ((1 : Int32) <<< ((nI k) &&& 31))) = (if decide (D k < (dk_run D kp h v).1 k) then ((1 : Int32) <<< ((nI k) &&& 31)) else 0) := by
      by_cases c : D k < (dk_run D kp h v).1 k
      · rw [if_neg (fun z => absurd ((n_le _ _).mp z) (by omega)), if_pos (by simpa using c)]
      · rw [if_pos ((n_le _ _).mpr (by omega)), if_neg (by simpa using c)]
    rw [hs]
    exact ih
theorem ct_X12_keepsOf {d : Nat} (hd : 11 ≤ d) {τ : ax_S} {n : Nat} {D : Nat → Nat} {kp : Nat → Nat → Nat → Nat} (hok : dk_ok n D kp) (hm : mD τ D) (hK : mk_K τ n kp) {h v k : Nat} (hh : h < n) (hv1 : 1 ≤ v) (hv : v ≤ 999) (hk : k < n) :
    ax_Ct shM d mX12_keepsOf [ax_r 0, ax_i (nI h), ax_i (nI v), ax_i (nI k)] (fun r u => r = some (ax_i (nI ((dk_run D kp h v).1 k))) ∧ fo scm u τ) τ := by
  obtain ⟨d, rfl⟩ : ∃ e, d = e + 1 := ⟨d - 1, by omega⟩
  have hn8 := hok.1
  refine ax_Ct.of (lv := [some (ax_r 0), some (ax_i (nI h)), some (ax_i (nI v)), some (ax_i (nI k))]) (by decide +kernel) (fun ad => Nat.le_of_ble_eq_true rfl) (fun ad => rfl) ?_
  refine s_X12_keepsOf_0 (by omega) τ _ _ _ ((ct_X12_layStroke (by omega) hok hm hK hh hv1 hv).mono ?_)
  rintro r u ⟨rfl, hf, hk2, hws, hsum⟩
  refine ⟨rfl, s_X12_keepsOf_6 (by omega) u _ (n_in _ _) ⟨?_, hf⟩⟩
  rw [n_tn k, hk2 k (by omega)]
/-- the class's stroke, for a belt of numbers -/
theorem ct_fall_D {d : Nat} (hd : 10 ≤ d) {σ : ax_S} {live : Int32} {n : Nat} {D : Nat → Nat} {kp : Nat → Nat → Nat → Nat} (hok : dk_ok n D kp) (hC : sk_C σ live n (fun w => bk_w D w 0) (fun w => bk_w D w 1) (fun w => bk_w D w 2) (dk_lv D) D) (hK : sk_K σ n kp) {h v : Nat} (hh : h < n) (hv1 : 1 ≤ v) (hv : v ≤ 999) :
    ax_Ct shC d mX8_fall [ax_r 6, ax_i live, ax_i (nI h), ax_i (nI v)] (fun r u => r = some (ax_i (dk_bu n D kp h v)) ∧ fo scr u σ ∧ (∀ k, k < 8 → u.1 32 k = nI ((dk_run D kp h v).1 k)) ∧ u.1 6 8 = nI (dk_run D kp h v).2 ∧ fb_sm (dk_run D kp h v).1 n + (dk_run D kp h v).2 = v) σ :=
  ct_X8_fall hd hok.sk hC hK hh hv1 hv
