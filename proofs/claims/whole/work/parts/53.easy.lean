/-! ===== the plain questions ===== -/
theorem lv_if {D : Nat → Nat} {k : Nat} (h2 : bk_w D k 2 ≤ 9) (h3 : bk_w D k 3 ≤ 1) : ((¬ (¬ nI (bk_w D k 3) = 0)) ∧ (¬ ((9 : Int32) ≤ nI (bk_w D k 2)))) ↔ bk_lv D k = true := by
  have q1 : nI (bk_w D k 3) = 0 ↔ bk_w D k 3 = 0 := n_eq _ 0
  have q2 : (9 : Int32) ≤ nI (bk_w D k 2) ↔ 9 ≤ bk_w D k 2 := n_le 9 _
  rw [q1, q2, bk_lv, Bool.and_eq_true, decide_eq_true_eq, decide_eq_true_eq]; omega
theorem ct_X12_allLive {d : Nat} (hd : 3 ≤ d) {τ : ax_S} {D : Nat → Nat} (hM : D 84 ≤ 17) (hw : ∀ w, w < D 84 → bk_w D w 2 ≤ 9 ∧ bk_w D w 3 ≤ 1) (hm : mD τ D) :
    ax_Ct shM d mX12_allLive [ax_r 0] (fun r u => r = some (ax_i (pn_set (D 84) (bk_lv D))) ∧ u = τ) τ := by
  obtain ⟨d, rfl⟩ : ∃ e, d = e + 1 := ⟨d - 1, by omega⟩
  have e84 : τ.1 15 84 = nI (D 84) := hm 84 (by omega)
  refine ax_Ct.of (lv := [some (ax_r 0), none, none]) (by decide +kernel) (fun ad => Nat.le_of_ble_eq_true rfl) (fun ad => rfl) ?_
  refine s_X12_allLive_0 (by omega) τ ?_
  have loop := lp_up (m := D 84) (P := fun k => ax_W shM (d + 1) mX12_allLive (fun r u => r = some (ax_i (pn_set (D 84) (bk_lv D))) ∧ u = τ) 4 [some (ax_r 0), some (ax_i (pn_set k (bk_lv D))), some (ax_i (nI k))] [] τ) ?_ ?_
  · exact loop 0 (Nat.zero_le _)
  · have g : τ.1 15 84 ≤ nI (D 84) := by rw [e84]; exact (n_le _ _).mpr (Nat.le_refl _)
    refine s_X12_allLive_4 (by omega) τ _ _ ?_ ?_ ?_ ?_ <;> intros <;> try contradiction
    exact ⟨rfl, rfl⟩
  · intro k hk ih
    have i3 : (16 : Int32) + 4 * nI k + 3 = nI (16 + 4 * k + 3) := n_w k 3
    have i2 : (16 : Int32) + 4 * nI k + 2 = nI (16 + 4 * k + 2) := n_w k 2
    have w3 := hm.w k 3 (by omega) (by omega)
    have w2 := hm.w k 2 (by omega) (by omega)
    have g : ¬ τ.1 15 84 ≤ nI k := by rw [e84]; exact fun z => absurd ((n_le _ _).mp z) (by omega)
    refine s_X12_allLive_4 (by omega) τ _ _ ?_ ?_ ?_ ?_ <;> intros <;> try contradiction
    · rw [i3]; exact n_in _ _
    · rw [i2]; exact n_in _ _
    · rw [show (3 : Int32) = nI 3 from rfl, show (2 : Int32) = nI 2 from rfl, w3, w2, nI_1]
      have hp : (if (¬ ((¬ (¬ nI (bk_w D k 3) = 0)) ∧ (¬ ((9 : Int32) ≤ nI (bk_w D k 2))))) then (0 : Int32) else ((1 : Int32) <<< (nI k &&& 31))) = (if bk_lv D k then ((1 : Int32) <<< (nI k &&& 31)) else 0) := by
        simp only [lv_if (hw k hk).1 (hw k hk).2]
        cases bk_lv D k <;> rfl
      rw [hp]
      exact ih
theorem good_status {j : Nat} {σ τ : ax_S} (h : RR j σ τ) (x : Int32) : good j mX11_status mX12_status [ax_i x] σ τ := by
  have h' := h
  obtain ⟨tl, tp, n, E, D, dry, lw, ho, L, st, ki, rf, nc, no, tc, te, a, T, H, im, I, ⟨o1, o2, o3, o4, o5, o6, o7, o8, o9, o10, o11⟩, ⟨c1, c2, c3, c4, c5, c6, c7, c8, c9⟩, ⟨m1, m2, m3, m4, m5, m6, m7, m8⟩⟩ := h'
  by_cases g : ∃ k, 0 ≤ k ∧ k ≤ 4 ∧ x = nI k
  · obtain ⟨k, -, hk, rfl⟩ := g
    have hr : ¬ nI k < 0 := n_nn k
    have hr2 : nI k < 5 := (n_lt k 5).mpr (by omega)
    have hr3 : ¬ nI k < (0 : Int32) ∧ ¬ (4 : Int32) < nI k := (in_R (nI k) 0 4).mpr ⟨k, by omega, hk, rfl⟩
    refine good.ask h (rf k) ((f_X11_status σ (nI k) (fun _ _ => n_in k 5) (by omega)).mono ?_) ((f_X12_status τ (nI k) (fun _ => n_in k 5) (by omega)).mono ?_)
    · rintro r u ⟨rfl, rfl⟩
      exact ⟨by rw [if_neg hr, if_pos hr2, n_tn k, c5.2.2 k (by omega)], fo.rfl'⟩
    · rintro r u ⟨rfl, rfl⟩
      exact ⟨by rw [if_neg (not_not_intro hr3), n_tn k, m4.2.2 k (by omega)], fo.rfl'⟩
  · have hr : ¬ (¬ x < (0 : Int32) ∧ ¬ (4 : Int32) < x) := fun z => g ((in_R x 0 4).mp z)
    have hr4 : ¬ x < 0 → ¬ x < 5 := fun z z2 => by
      obtain ⟨k, hk, rfl⟩ := nI_of z
      exact g ⟨k, by omega, by have := (n_lt k 5).mp z2; omega, rfl⟩
    refine good.ask h (-1) ((f_X11_status σ x (fun c c2 => absurd c2 (hr4 c)) (by omega)).mono ?_) ((f_X12_status τ x (fun c => absurd c hr) (by omega)).mono ?_)
    · rintro r u ⟨rfl, rfl⟩
      refine ⟨?_, fo.rfl'⟩
      by_cases z : x < 0
      · rw [if_pos z]
      · rw [if_neg z, if_neg (hr4 z)]
    · rintro r u ⟨rfl, rfl⟩
      exact ⟨by rw [if_pos hr], fo.rfl'⟩
theorem good_far {j : Nat} {σ τ : ax_S} (h : RR j σ τ) (x y : Int32) : good j mX11_far mX12_far [ax_i x, ax_i y] σ τ := by
  have h' := h
  obtain ⟨tl, tp, n, E, D, dry, lw, ho, L, st, ki, rf, nc, no, tc, te, a, T, H, im, I, ⟨o1, o2, o3, o4, o5, o6, o7, o8, o9, o10, o11⟩, ⟨c1, c2, c3, c4, c5, c6, c7, c8, c9⟩, ⟨m1, m2, m3, m4, m5, m6, m7, m8⟩⟩ := h'
  have hn := o2.2.1
  by_cases g : (∃ k, k < n ∧ x = nI k) ∧ (∃ k, k < n ∧ y = nI k)
  · obtain ⟨⟨p, hp, rfl⟩, q, hq, rfl⟩ := g
    have a1 := (is_H (nI p) n).mpr ⟨p, hp, rfl⟩
    have a2 := (is_H (nI q) n).mpr ⟨q, hq, rfl⟩
    have b1 := (is_Hm (nI p) n).mpr ⟨p, hp, rfl⟩
    have b2 := (is_Hm (nI q) n).mpr ⟨q, hq, rfl⟩
    rw [← c2.1] at a1 a2
    rw [← m2.1] at b1 b2
    have ep := (o2.2.2.2.2.2.2.2.1 p hp).1
    have eq := (o2.2.2.2.2.2.2.2.1 q hq).1
    have ip : (4 : Int32) * nI p + 0 = nI (4 * p) := n_h p 0
    have iq : (4 : Int32) * nI q + 0 = nI (4 * q) := n_h q 0
    have mp : τ.1 14 (4 * p) = nI (E (4 * p)) := m2.2.2.2 p 0 hp (by omega)
    have mq : τ.1 14 (4 * q) = nI (E (4 * q)) := m2.2.2.2 q 0 hq (by omega)
    refine good.ask h (nI (dst (E (4 * p)) (E (4 * q)))) ((f_X11_far σ (nI p) (nI q) (fun _ _ => n_in p 8) (fun _ _ => n_in q 8) (by omega)).mono ?_) ((f_X12_far τ (nI p) (nI q) (fun _ _ => by rw [ip]; exact n_in _ _) (fun _ _ => by rw [iq]; exact n_in _ _) (by omega)).mono ?_)
    · rintro r u ⟨rfl, rfl⟩
      exact ⟨by rw [if_neg (not_not_intro a1), if_neg (not_not_intro a2), n_tn p, n_tn q, ((c2.2.2.2.2.2.1) p hp).1, ((c2.2.2.2.2.2.1) q hq).1, dst_abs (by omega) (by omega)], fo.rfl'⟩
    · rintro r u ⟨rfl, rfl⟩
      exact ⟨by rw [if_neg (not_not_intro b1), if_neg (not_not_intro b2), ip, iq, n_tn (4 * p), n_tn (4 * q), mp, mq, dst_abs (by omega) (by omega)], fo.rfl'⟩
  · have g1 : (¬ (x < 0) ∧ ¬ (σ.1 5 9 ≤ x)) → ¬ (¬ (y < 0) ∧ ¬ (σ.1 5 9 ≤ y)) := fun z1 z2 => g ⟨(is_H x n).mp (by rw [← c2.1]; exact z1), (is_H y n).mp (by rw [← c2.1]; exact z2)⟩
    have g2 : (¬ (x < 0) ∧ ¬ (τ.1 0 23 - 1 < x)) → ¬ (¬ (y < 0) ∧ ¬ (τ.1 0 23 - 1 < y)) := fun z1 z2 => g ⟨(is_Hm x n).mp (by rw [← m2.1]; exact z1), (is_Hm y n).mp (by rw [← m2.1]; exact z2)⟩
    refine good.ask h (-1) ((f_X11_far σ x y (fun c c2 => absurd c2 (g1 c)) (fun c c2 => absurd c2 (g1 c)) (by omega)).mono ?_) ((f_X12_far τ x y (fun c c2 => absurd c2 (g2 c)) (fun c c2 => absurd c2 (g2 c)) (by omega)).mono ?_)
    · rintro r u ⟨rfl, rfl⟩
      refine ⟨?_, fo.rfl'⟩
      by_cases z : (¬ (x < 0) ∧ ¬ (u.1 5 9 ≤ x))
      · rw [if_neg (not_not_intro z), if_pos (g1 z)]
      · rw [if_pos z]
    · rintro r u ⟨rfl, rfl⟩
      refine ⟨?_, fo.rfl'⟩
      by_cases z : (¬ (x < (0 : Int32)) ∧ ¬ (u.1 0 23 - 1 < x))
      · rw [if_neg (not_not_intro z), if_pos (g2 z)]
      · rw [if_pos z]
theorem good_law {j : Nat} {σ τ : ax_S} (h : RR j σ τ) (x : Int32) : good j mX11_law mX12_law [ax_i x] σ τ := by
  have h' := h
  obtain ⟨tl, tp, n, E, D, dry, lw, ho, L, st, ki, rf, nc, no, tc, te, a, T, H, im, I, ⟨o1, o2, o3, o4, o5, o6, o7, o8, o9, o10, o11⟩, ⟨c1, c2, c3, c4, c5, c6, c7, c8, c9⟩, ⟨m1, m2, m3, m4, m5, m6, m7, m8⟩⟩ := h'
  have hlw := o4.1
  by_cases g : ∃ k, k ≤ lw ∧ x = hoI k
  · obtain ⟨k, hk, rfl⟩ := g
    obtain ⟨a1, a2⟩ := (is_L (hoI k) hlw).mpr ⟨k, hk, rfl⟩
    have b1 := (is_Lm (hoI k) hlw).mpr ⟨k, hk, rfl⟩
    rw [← c4.1] at a2
    rw [← m3.1] at b1
    refine ⟨1, (fun u => u = ax_ui σ 4 5 (hoI k)), (fun u => u = ax_ui τ 0 27 (hoI k)), ?_, ?_, ?_⟩
    · refine ax_Ct.of (lv := [some (ax_r 0), some (ax_i (hoI k))]) (by decide +kernel) (fun ad => Nat.le_of_ble_eq_true rfl) (fun ad => rfl) ?_
      refine s_X11_law_0 (d := 59) (by omega) σ _ ?_ ?_ ?_ <;> intros <;> try contradiction
      exact ⟨rfl, rfl⟩
    · refine ax_Ct.of (lv := [some (ax_r 0), some (ax_i (hoI k))]) (by decide +kernel) (fun ad => Nat.le_of_ble_eq_true rfl) (fun ad => rfl) ?_
      refine s_X12_law_0 (d := 59) (by omega) τ _ ?_ ?_ <;> intros <;> try contradiction
      exact ⟨rfl, rfl⟩
    · rintro u w rfl rfl
      have fC : fk (fun c i => c = 4 ∧ i = 5) (ax_ui σ 4 5 (hoI k)) σ := (fo.rfl'.ui ⟨rfl, rfl⟩ : fo (fun c i => c = 4 ∧ i = 5) _ σ).1
      have fM : fk (fun c i => c = 0 ∧ i = 27) (ax_ui τ 0 27 (hoI k)) τ := (fo.rfl'.ui ⟨rfl, rfl⟩ : fo (fun c i => c = 0 ∧ i = 27) _ τ).1
      refine ⟨tl, tp, n, E, D, dry, lw, k, L, st, ki, rf, nc, no, tc, te, a, T, H, im, I, ⟨o1, o2, o3, ⟨o4.1, hk, o4.2.2⟩, o5, o6, o7, o8, o9, o10, by omega⟩, ⟨c1.to fC (by omega), c2.to fC (by omega), c3.to fC (by omega), ?_, c5.to fC (by omega), c6.to fC (by omega), c7.to fC ⟨rfl, rfl⟩ (by omega), c8.to fC (by omega), c9.to fC (by omega)⟩, ⟨m1.to fM (by omega), m2.to fM (by omega), ?_, m4.to fM (by omega), m5.to fM (by omega), m6.to fM (by omega), m7.to fM (by omega), m8.to fM (by omega)⟩⟩
      · exact ⟨by rw [ui_idx (by omega)]; exact c4.1, ui_same _ _ _ _, fun i hi => (c4.2.2 i hi).to (fun c j hc => ui_cell (by omega))⟩
      · exact ⟨by rw [ui_idx (by omega)]; exact m3.1, ui_same _ _ _ _, fun i hi => ⟨by rw [ui_cell (by omega)]; exact (m3.2.2 i hi).1, (m3.2.2 i hi).2.to (fun c j hc => ui_cell (by omega))⟩⟩
  · have a1 : ¬ x < -1 → ¬ x < σ.1 4 4 := fun z1 z2 => g ((is_L x hlw).mp ⟨z1, by rw [← c4.1]; exact z2⟩)
    have b1 : ¬ (¬ x < -1 ∧ ¬ τ.1 0 13 - 1 < x) := fun z => g ((is_Lm x hlw).mp (by rw [← m3.1]; exact z))
    refine good.ask h 0 ?_ ?_
    · refine ax_Ct.of (lv := [some (ax_r 0), some (ax_i x)]) (by decide +kernel) (fun ad => Nat.le_of_ble_eq_true rfl) (fun ad => rfl) ?_
      exact s_X11_law_0 (d := 59) (by omega) σ _ (fun _ => ⟨rfl, fo.rfl'⟩) (fun z1 z2 => absurd z2 (a1 z1)) (fun _ _ => ⟨rfl, fo.rfl'⟩)
    · refine ax_Ct.of (lv := [some (ax_r 0), some (ax_i x)]) (by decide +kernel) (fun ad => Nat.le_of_ble_eq_true rfl) (fun ad => rfl) ?_
      exact s_X12_law_0 (d := 59) (by omega) τ _ (fun z => absurd z b1) (fun _ => ⟨rfl, fo.rfl'⟩)
theorem good_end {j : Nat} {σ τ : ax_S} (h : RR j σ τ) (x : Int32) : good j mX11_end mX12_end [ax_i x] σ τ := by
  have h' := h
  obtain ⟨tl, tp, n, E, D, dry, lw, ho, L, st, ki, rf, nc, no, tc, te, a, T, H, im, I, ⟨o1, o2, o3, o4, o5, o6, o7, o8, o9, o10, o11⟩, ⟨c1, c2, c3, c4, c5, c6, c7, c8, c9⟩, ⟨m1, m2, m3, m4, m5, m6, m7, m8⟩⟩ := h'
  have htl := o1.1
  have e2 : τ.1 0 2 = σ.1 1 1 := by rw [c1.1, m1.1]
  by_cases g0 : x < 0
  · refine good.ask h 0 ?_ ?_
    · refine ax_Ct.of (lv := [some (ax_r 0), some (ax_i x)]) (by decide +kernel) (fun ad => Nat.le_of_ble_eq_true rfl) (fun ad => rfl) ?_
      refine s_X11_end_0 (d := 59) (by omega) σ _ ?_ ?_ ?_ <;> intros <;> try contradiction
      exact ⟨rfl, fo.rfl'⟩
    · refine ax_Ct.of (lv := [some (ax_r 0), some (ax_i x)]) (by decide +kernel) (fun ad => Nat.le_of_ble_eq_true rfl) (fun ad => rfl) ?_
      refine s_X12_end_0 (d := 59) (by omega) τ _ ?_ ?_ ?_ <;> intros <;> try contradiction
      exact ⟨rfl, fo.rfl'⟩
  by_cases g : x ≤ σ.1 1 1
  · obtain ⟨k, hk, rfl⟩ := nI_of g0
    have g' : nI k ≤ τ.1 0 2 := by rw [e2]; exact g
    have hkl : k ≤ tl := by rw [c1.1] at g; exact (n_le k tl).mp g
    refine ⟨1, (fun u => u = ax_ui σ 1 1 (nI k)), (fun u => u = ax_ui τ 0 2 (nI k)), ?_, ?_, ?_⟩
    · refine ax_Ct.of (lv := [some (ax_r 0), some (ax_i (nI k))]) (by decide +kernel) (fun ad => Nat.le_of_ble_eq_true rfl) (fun ad => rfl) ?_
      refine s_X11_end_0 (d := 59) (by omega) σ _ ?_ ?_ ?_ <;> intros <;> try contradiction
      exact ⟨rfl, rfl⟩
    · refine ax_Ct.of (lv := [some (ax_r 0), some (ax_i (nI k))]) (by decide +kernel) (fun ad => Nat.le_of_ble_eq_true rfl) (fun ad => rfl) ?_
      refine s_X12_end_0 (d := 59) (by omega) τ _ ?_ ?_ ?_ <;> intros <;> try contradiction
      exact ⟨rfl, rfl⟩
    · rintro u w rfl rfl
      have fC : fk (fun c i => c = 1 ∧ i = 1) (ax_ui σ 1 1 (nI k)) σ := (fo.rfl'.ui ⟨rfl, rfl⟩ : fo (fun c i => c = 1 ∧ i = 1) _ σ).1
      have fM : fk (fun c i => c = 0 ∧ i = 2) (ax_ui τ 0 2 (nI k)) τ := (fo.rfl'.ui ⟨rfl, rfl⟩ : fo (fun c i => c = 0 ∧ i = 2) _ τ).1
      refine ⟨k, tp, n, E, D, dry, lw, ho, L, st, ki, rf, nc, no, tc, te, a, T, H, im, I, ⟨⟨by omega, fun i hi => o1.2 i (by omega)⟩, o2, o3, o4, o5, o6, o7, o8, o9, o10, by omega⟩, ⟨?_, c2.to fC (by omega), c3.to fC (by omega), c4.to fC (by omega), c5.to fC (by omega), c6.to fC (by omega), c7.to fC ⟨rfl, rfl⟩ (by omega), c8.to fC (by omega), c9.to fC (by omega)⟩, ⟨?_, m2.to fM (by omega), m3.to fM (by omega), m4.to fM (by omega), m5.to fM (by omega), m6.to fM (by omega), m7.to fM (by omega), m8.to fM (by omega)⟩⟩
      · exact ⟨ui_same _ _ _ _, fun i hi => by rw [ui_cell (by omega)]; exact c1.2 i (by omega)⟩
      · exact ⟨ui_same _ _ _ _, fun i hi => by rw [ui_cell (by omega)]; exact m1.2 i (by omega)⟩
  · have g' : ¬ x ≤ τ.1 0 2 := by rw [e2]; exact g
    refine good.ask h 0 ?_ ?_
    · refine ax_Ct.of (lv := [some (ax_r 0), some (ax_i x)]) (by decide +kernel) (fun ad => Nat.le_of_ble_eq_true rfl) (fun ad => rfl) ?_
      refine s_X11_end_0 (d := 59) (by omega) σ _ ?_ ?_ ?_ <;> intros <;> try contradiction
      exact ⟨rfl, fo.rfl'⟩
    · refine ax_Ct.of (lv := [some (ax_r 0), some (ax_i x)]) (by decide +kernel) (fun ad => Nat.le_of_ble_eq_true rfl) (fun ad => rfl) ?_
      refine s_X12_end_0 (d := 59) (by omega) τ _ ?_ ?_ ?_ <;> intros <;> try contradiction
      exact ⟨rfl, fo.rfl'⟩
theorem good_count {j : Nat} {σ τ : ax_S} (hj : j ≤ 1000) (h : RR j σ τ) (x : Int32) : good j mX11_count mX12_count [ax_i x] σ τ := by
  have h' := h
  obtain ⟨tl, tp, n, E, D, dry, lw, ho, L, st, ki, rf, nc, no, tc, te, a, T, H, im, I, ⟨o1, o2, o3, o4, o5, o6, o7, o8, o9, o10, o11⟩, ⟨c1, c2, c3, c4, c5, c6, c7, c8, c9⟩, ⟨m1, m2, m3, m4, m5, m6, m7, m8⟩⟩ := h'
  have hmD := m2.2.2.1
  have h84 := o2.2.2.2.1
  obtain ⟨nx, tte, hacts, hnx, -, hT, hLG, -⟩ := c8
  have hlg : (if nI T < nI 60 then nI T else nI 60) = nI (D 87) := by
    have hb := o11
    rw [hLG.1]
    by_cases z : T < 60
    · rw [if_pos ((n_lt T 60).mpr z)]; congr 1; omega
    · have : min 60 T = 60 := by omega
      rw [this]
      by_cases z2 : nI T < nI 60
      · rw [if_pos z2]; exact absurd z2 (fun q => z ((n_lt T 60).mp q))
      · rw [if_neg z2]
  refine good.ask h (if x = 0 then nI n else if x = 1 then nI (D 84) else if x = 2 then nI lw else if x = 3 then nI tl else if x = 4 then hoI ho else if x = 5 then nI (D 86) else if x = 6 then nI (D 85) else if x = 7 then nI dry else if x = 8 then pn_set (D 84) (bk_lv D) else if x = 9 then nI st else if x = 10 then nI ki else if x = 11 then nI nc else if x = 12 then nI tc else if x = 13 then nI (D 87) else if x = 14 then nI a else -1000000) ?_ ?_
  · refine ax_Ct.of (lv := [some (ax_r 0), some (ax_i x)]) (by decide +kernel) (fun ad => Nat.le_of_ble_eq_true rfl) (fun ad => rfl) ?_
    exact s_X11_count_0 (d := 59) (by omega) σ x (fun q1 => ⟨by rw [if_pos q1, c2.1], fo.rfl'⟩) (fun q1 q2 => ⟨by rw [if_neg q1, if_pos q2, c2.2.1], fo.rfl'⟩) (fun q1 q2 q3 => ⟨by rw [if_neg q1, if_neg q2, if_pos q3, c4.1], fo.rfl'⟩) (fun q1 q2 q3 q4 => ⟨by rw [if_neg q1, if_neg q2, if_neg q3, if_pos q4, c1.1], fo.rfl'⟩) (fun q1 q2 q3 q4 q5 => ⟨by rw [if_neg q1, if_neg q2, if_neg q3, if_neg q4, if_pos q5, c4.2.1], fo.rfl'⟩) (fun q1 q2 q3 q4 q5 q6 => ⟨by rw [if_neg q1, if_neg q2, if_neg q3, if_neg q4, if_neg q5, if_pos q6, c2.2.2.2.2.1], fo.rfl'⟩) (fun q1 q2 q3 q4 q5 q6 q7 => ⟨by rw [if_neg q1, if_neg q2, if_neg q3, if_neg q4, if_neg q5, if_neg q6, if_pos q7, c2.2.2.1], fo.rfl'⟩) (fun q1 q2 q3 q4 q5 q6 q7 q8 => ⟨by rw [if_neg q1, if_neg q2, if_neg q3, if_neg q4, if_neg q5, if_neg q6, if_neg q7, if_pos q8, c2.2.2.2.1], fo.rfl'⟩) (fun q1 q2 q3 q4 q5 q6 q7 q8 q9 => (ct_live (by omega) o2 c2).mono (fun r u hu => ⟨_, hu.1, s_X11_count_147 (by omega) u _ ⟨by rw [if_neg q1, if_neg q2, if_neg q3, if_neg q4, if_neg q5, if_neg q6, if_neg q7, if_neg q8, if_pos q9], by rw [hu.2]; exact fo.rfl'⟩⟩)) (fun q1 q2 q3 q4 q5 q6 q7 q8 q9 q10 => ⟨by rw [if_neg q1, if_neg q2, if_neg q3, if_neg q4, if_neg q5, if_neg q6, if_neg q7, if_neg q8, if_neg q9, if_pos q10, c5.1], fo.rfl'⟩) (fun q1 q2 q3 q4 q5 q6 q7 q8 q9 q10 q11 => ⟨by rw [if_neg q1, if_neg q2, if_neg q3, if_neg q4, if_neg q5, if_neg q6, if_neg q7, if_neg q8, if_neg q9, if_neg q10, if_pos q11, c5.2.1], fo.rfl'⟩) (fun q1 q2 q3 q4 q5 q6 q7 q8 q9 q10 q11 q12 => ⟨by rw [if_neg q1, if_neg q2, if_neg q3, if_neg q4, if_neg q5, if_neg q6, if_neg q7, if_neg q8, if_neg q9, if_neg q10, if_neg q11, if_pos q12, c6.1], fo.rfl'⟩) (fun q1 q2 q3 q4 q5 q6 q7 q8 q9 q10 q11 q12 q13 => ⟨by rw [if_neg q1, if_neg q2, if_neg q3, if_neg q4, if_neg q5, if_neg q6, if_neg q7, if_neg q8, if_neg q9, if_neg q10, if_neg q11, if_neg q12, if_pos q13, c7.1], fo.rfl'⟩) (fun q1 q2 q3 q4 q5 q6 q7 q8 q9 q10 q11 q12 q13 q14 => ⟨by rw [if_neg q1, if_neg q2, if_neg q3, if_neg q4, if_neg q5, if_neg q6, if_neg q7, if_neg q8, if_neg q9, if_neg q10, if_neg q11, if_neg q12, if_neg q13, if_pos q14, hT, show (60 : Int32) = nI 60 from rfl, hlg], fo.rfl'⟩) (fun q1 q2 q3 q4 q5 q6 q7 q8 q9 q10 q11 q12 q13 q14 q15 => ⟨by rw [if_neg q1, if_neg q2, if_neg q3, if_neg q4, if_neg q5, if_neg q6, if_neg q7, if_neg q8, if_neg q9, if_neg q10, if_neg q11, if_neg q12, if_neg q13, if_neg q14, if_pos q15, hacts], fo.rfl'⟩) (fun q1 q2 q3 q4 q5 q6 q7 q8 q9 q10 q11 q12 q13 q14 q15 => ⟨by rw [if_neg q1, if_neg q2, if_neg q3, if_neg q4, if_neg q5, if_neg q6, if_neg q7, if_neg q8, if_neg q9, if_neg q10, if_neg q11, if_neg q12, if_neg q13, if_neg q14, if_neg q15], fo.rfl'⟩)
  · refine ax_Ct.of (lv := [some (ax_r 0), some (ax_i x)]) (by decide +kernel) (fun ad => Nat.le_of_ble_eq_true rfl) (fun ad => rfl) ?_
    exact s_X12_count_0 (d := 59) (by omega) τ x (fun q1 => ⟨by rw [if_pos q1, m2.1], fo.rfl'⟩) (fun q1 q2 => ⟨by rw [if_neg q1, if_pos q2, hmD 84 (by omega)], fo.rfl'⟩) (fun q1 q2 q3 => ⟨by rw [if_neg q1, if_neg q2, if_pos q3, m3.1], fo.rfl'⟩) (fun q1 q2 q3 q4 => ⟨by rw [if_neg q1, if_neg q2, if_neg q3, if_pos q4, m1.1], fo.rfl'⟩) (fun q1 q2 q3 q4 q5 => ⟨by rw [if_neg q1, if_neg q2, if_neg q3, if_neg q4, if_pos q5, m3.2.1], fo.rfl'⟩) (fun q1 q2 q3 q4 q5 q6 => ⟨by rw [if_neg q1, if_neg q2, if_neg q3, if_neg q4, if_neg q5, if_pos q6, hmD 86 (by omega)], fo.rfl'⟩) (fun q1 q2 q3 q4 q5 q6 q7 => ⟨by rw [if_neg q1, if_neg q2, if_neg q3, if_neg q4, if_neg q5, if_neg q6, if_pos q7, hmD 85 (by omega)], fo.rfl'⟩) (fun q1 q2 q3 q4 q5 q6 q7 q8 => ⟨by rw [if_neg q1, if_neg q2, if_neg q3, if_neg q4, if_neg q5, if_neg q6, if_neg q7, if_pos q8, m2.2.1], fo.rfl'⟩) (fun q1 q2 q3 q4 q5 q6 q7 q8 q9 => (ct_X12_allLive (by omega) (by omega) (fun w hw => ⟨(o2.2.2.2.2.2.2.2.2 w hw).2.2.2.1, (o2.2.2.2.2.2.2.2.2 w hw).2.2.2.2⟩) hmD).mono (fun r u hu => ⟨_, hu.1, s_X12_count_129 (by omega) u _ ⟨by rw [if_neg q1, if_neg q2, if_neg q3, if_neg q4, if_neg q5, if_neg q6, if_neg q7, if_neg q8, if_pos q9], by rw [hu.2]; exact fo.rfl'⟩⟩)) (fun q1 q2 q3 q4 q5 q6 q7 q8 q9 q10 => ⟨by rw [if_neg q1, if_neg q2, if_neg q3, if_neg q4, if_neg q5, if_neg q6, if_neg q7, if_neg q8, if_neg q9, if_pos q10, m4.1], fo.rfl'⟩) (fun q1 q2 q3 q4 q5 q6 q7 q8 q9 q10 q11 => ⟨by rw [if_neg q1, if_neg q2, if_neg q3, if_neg q4, if_neg q5, if_neg q6, if_neg q7, if_neg q8, if_neg q9, if_neg q10, if_pos q11, m4.2.1], fo.rfl'⟩) (fun q1 q2 q3 q4 q5 q6 q7 q8 q9 q10 q11 q12 => ⟨by rw [if_neg q1, if_neg q2, if_neg q3, if_neg q4, if_neg q5, if_neg q6, if_neg q7, if_neg q8, if_neg q9, if_neg q10, if_neg q11, if_pos q12, m5.1], fo.rfl'⟩) (fun q1 q2 q3 q4 q5 q6 q7 q8 q9 q10 q11 q12 q13 => ⟨by rw [if_neg q1, if_neg q2, if_neg q3, if_neg q4, if_neg q5, if_neg q6, if_neg q7, if_neg q8, if_neg q9, if_neg q10, if_neg q11, if_neg q12, if_pos q13, m6.1], fo.rfl'⟩) (fun q1 q2 q3 q4 q5 q6 q7 q8 q9 q10 q11 q12 q13 q14 => ⟨by rw [if_neg q1, if_neg q2, if_neg q3, if_neg q4, if_neg q5, if_neg q6, if_neg q7, if_neg q8, if_neg q9, if_neg q10, if_neg q11, if_neg q12, if_neg q13, if_pos q14, hmD 87 (by omega)], fo.rfl'⟩) (fun q1 q2 q3 q4 q5 q6 q7 q8 q9 q10 q11 q12 q13 q14 q15 => ⟨by rw [if_neg q1, if_neg q2, if_neg q3, if_neg q4, if_neg q5, if_neg q6, if_neg q7, if_neg q8, if_neg q9, if_neg q10, if_neg q11, if_neg q12, if_neg q13, if_neg q14, if_pos q15, m7.1], fo.rfl'⟩) (fun q1 q2 q3 q4 q5 q6 q7 q8 q9 q10 q11 q12 q13 q14 q15 => ⟨by rw [if_neg q1, if_neg q2, if_neg q3, if_neg q4, if_neg q5, if_neg q6, if_neg q7, if_neg q8, if_neg q9, if_neg q10, if_neg q11, if_neg q12, if_neg q13, if_neg q14, if_neg q15], fo.rfl'⟩)
