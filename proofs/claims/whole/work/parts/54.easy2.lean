/-! ===== set, wire, log ===== -/
theorem good_set {j : Nat} {σ τ : ax_S} (h : RR j σ τ) (x y : Int32) : good j mX11_set mX12_set [ax_i x, ax_i y] σ τ := by
  have h' := h
  obtain ⟨tl, tp, n, E, D, dry, lw, ho, L, st, ki, rf, nc, no, tc, te, a, T, H, im, I, ⟨o1, o2, o3, o4, o5, o6, o7, o8, o9, o10, o11⟩, ⟨c1, c2, c3, c4, c5, c6, c7, c8, c9⟩, ⟨m1, m2, m3, m4, m5, m6, m7, m8⟩⟩ := h'
  obtain ⟨c51, c52, c53⟩ := c5
  obtain ⟨m41, m42, m43⟩ := m4
  by_cases g : (∃ k, 0 ≤ k ∧ k ≤ 1 ∧ x = nI k) ∧ (∃ k, 0 ≤ k ∧ k ≤ 9 ∧ y = nI k)
  · obtain ⟨⟨k, -, hk, rfl⟩, v, -, hv, rfl⟩ := g
    have b1 : ¬ nI k < (0 : Int32) ∧ ¬ (1 : Int32) < nI k := (in_R (nI k) 0 1).mpr ⟨k, by omega, hk, rfl⟩
    have b2 : ¬ nI v < (0 : Int32) ∧ ¬ (9 : Int32) < nI v := (in_R (nI v) 0 9).mpr ⟨v, by omega, hv, rfl⟩
    obtain ⟨b3, b4⟩ := b2
    have b2 : ¬ nI v < (0 : Int32) ∧ ¬ (9 : Int32) < nI v := ⟨b3, b4⟩
    obtain rfl | rfl : k = 0 ∨ k = 1 := by omega
    · have a1 : (nI 0 = 0) ∨ (¬ (¬ nI 0 = 1)) := Or.inl rfl
      have z0 : ¬ ¬ nI 0 = 0 := not_not_intro rfl
      have eC : (if (¬ nI 0 = 0) then (σ.1 0 15) else (σ.1 0 14)) = nI st := by rw [if_neg z0, c51]
      have eM : (if (¬ nI 0 = 0) then (τ.1 0 29) else (τ.1 0 28)) = nI st := by rw [if_neg z0, m41]
      by_cases g2 : v = st
      · subst g2
        have q1 : ¬ ¬ nI v = (if (¬ nI 0 = 0) then (σ.1 0 15) else (σ.1 0 14)) := not_not_intro eC.symm
        have q2 : ¬ ¬ (if (¬ nI 0 = 0) then (τ.1 0 29) else (τ.1 0 28)) = nI v := not_not_intro eM
        refine good.ask h 0 ?_ ?_
        · refine ax_Ct.of (lv := [some (ax_r 0), some (ax_i (nI 0)), some (ax_i (nI v))]) (by decide +kernel) (fun ad => Nat.le_of_ble_eq_true rfl) (fun ad => rfl) ?_
          refine s_X11_set_0 (d := 59) (by omega) σ _ _ ?_ ?_ ?_ ?_ ?_ ?_ <;> intros <;> try contradiction
          exact ⟨rfl, fo.rfl'⟩
        · refine ax_Ct.of (lv := [some (ax_r 0), some (ax_i (nI 0)), some (ax_i (nI v))]) (by decide +kernel) (fun ad => Nat.le_of_ble_eq_true rfl) (fun ad => rfl) ?_
          refine s_X12_set_0 (d := 59) (by omega) τ _ _ ?_ ?_ ?_ ?_ <;> intros <;> try contradiction
          exact ⟨rfl, fo.rfl'⟩
      · have q1 : ¬ nI v = (if (¬ nI 0 = 0) then (σ.1 0 15) else (σ.1 0 14)) := by rw [eC, n_eq v st]; exact g2
        have q2 : ¬ (if (¬ nI 0 = 0) then (τ.1 0 29) else (τ.1 0 28)) = nI v := by rw [eM, n_eq st v]; exact fun e => g2 e.symm
        refine ⟨1, (fun u => u = ax_ui σ 0 14 (nI v)), (fun u => fk (fun c i => c = 0 ∧ (i = 28 ∨ i = 29)) u τ ∧ u.1 0 28 = nI v ∧ u.1 0 29 = nI ki), ?_, ?_, ?_⟩
        · refine ax_Ct.of (lv := [some (ax_r 0), some (ax_i (nI 0)), some (ax_i (nI v))]) (by decide +kernel) (fun ad => Nat.le_of_ble_eq_true rfl) (fun ad => rfl) ?_
          refine s_X11_set_0 (d := 59) (by omega) σ _ _ ?_ ?_ ?_ ?_ ?_ ?_ <;> intros <;> try contradiction
          exact ⟨rfl, rfl⟩
        · refine ax_Ct.of (lv := [some (ax_r 0), some (ax_i (nI 0)), some (ax_i (nI v))]) (by decide +kernel) (fun ad => Nat.le_of_ble_eq_true rfl) (fun ad => rfl) ?_
          refine s_X12_set_0 (d := 59) (by omega) τ _ _ ?_ ?_ ?_ ?_ <;> intros <;> try contradiction
          refine ⟨rfl, (((fo.rfl'.ui ⟨rfl, Or.inl rfl⟩).ui ⟨rfl, Or.inr rfl⟩ : fo (fun c i => c = 0 ∧ (i = 28 ∨ i = 29)) _ τ)).1, ?_, ?_⟩
          · rw [ui_idx (by omega), ui_same, if_neg z0]
          · rw [ui_same, if_pos (by decide), m42]
        · rintro u w rfl ⟨fM, w1, w2⟩
          have fC : fk (fun c i => c = 0 ∧ i = 14) (ax_ui σ 0 14 (nI v)) σ := (fo.rfl'.ui ⟨rfl, rfl⟩ : fo (fun c i => c = 0 ∧ i = 14) _ σ).1
          refine ⟨tl, tp, n, E, D, dry, lw, ho, L, v, ki, rf, nc, no, tc, te, a, T, H, im, I, ⟨o1, o2, o3, o4, hv, o6, o7, o8, o9, o10, by omega⟩, ⟨c1.to fC (by omega), c2.to fC (by omega), c3.to fC (by omega), c4.to fC (by omega), ?_, c6.to fC (by omega), c7.to fC ⟨rfl, rfl⟩ (by omega), c8.to fC (by omega), c9.to fC (by omega)⟩, ⟨m1.to fM (by omega), m2.to fM (by omega), m3.to fM (by omega), ?_, m5.to fM (by omega), m6.to fM (by omega), m7.to fM (by omega), m8.to fM (by omega)⟩⟩
          · exact ⟨ui_same _ _ _ _, by rw [ui_idx (by omega)]; exact c52, fun i hi => by rw [ui_cell (by omega)]; exact c53 i hi⟩
          · exact ⟨w1, w2, fun i hi => by rw [fM 16 i (by omega)]; exact m43 i hi⟩
    · have a1 : (nI 1 = 0) ∨ (¬ (¬ nI 1 = 1)) := Or.inr (not_not_intro rfl)
      have z0 : ¬ nI 1 = 0 := by decide
      have eC : (if (¬ nI 1 = 0) then (σ.1 0 15) else (σ.1 0 14)) = nI ki := by rw [if_pos z0, c52]
      have eM : (if (¬ nI 1 = 0) then (τ.1 0 29) else (τ.1 0 28)) = nI ki := by rw [if_pos z0, m42]
      by_cases g2 : v = ki
      · subst g2
        have q1 : ¬ ¬ nI v = (if (¬ nI 1 = 0) then (σ.1 0 15) else (σ.1 0 14)) := not_not_intro eC.symm
        have q2 : ¬ ¬ (if (¬ nI 1 = 0) then (τ.1 0 29) else (τ.1 0 28)) = nI v := not_not_intro eM
        refine good.ask h 0 ?_ ?_
        · refine ax_Ct.of (lv := [some (ax_r 0), some (ax_i (nI 1)), some (ax_i (nI v))]) (by decide +kernel) (fun ad => Nat.le_of_ble_eq_true rfl) (fun ad => rfl) ?_
          refine s_X11_set_0 (d := 59) (by omega) σ _ _ ?_ ?_ ?_ ?_ ?_ ?_ <;> intros <;> try contradiction
          exact ⟨rfl, fo.rfl'⟩
        · refine ax_Ct.of (lv := [some (ax_r 0), some (ax_i (nI 1)), some (ax_i (nI v))]) (by decide +kernel) (fun ad => Nat.le_of_ble_eq_true rfl) (fun ad => rfl) ?_
          refine s_X12_set_0 (d := 59) (by omega) τ _ _ ?_ ?_ ?_ ?_ <;> intros <;> try contradiction
          exact ⟨rfl, fo.rfl'⟩
      · have q1 : ¬ nI v = (if (¬ nI 1 = 0) then (σ.1 0 15) else (σ.1 0 14)) := by rw [eC, n_eq v ki]; exact g2
        have q2 : ¬ (if (¬ nI 1 = 0) then (τ.1 0 29) else (τ.1 0 28)) = nI v := by rw [eM, n_eq ki v]; exact fun e => g2 e.symm
        refine ⟨1, (fun u => u = ax_ui σ 0 15 (nI v)), (fun u => fk (fun c i => c = 0 ∧ (i = 28 ∨ i = 29)) u τ ∧ u.1 0 28 = nI st ∧ u.1 0 29 = nI v), ?_, ?_, ?_⟩
        · refine ax_Ct.of (lv := [some (ax_r 0), some (ax_i (nI 1)), some (ax_i (nI v))]) (by decide +kernel) (fun ad => Nat.le_of_ble_eq_true rfl) (fun ad => rfl) ?_
          refine s_X11_set_0 (d := 59) (by omega) σ _ _ ?_ ?_ ?_ ?_ ?_ ?_ <;> intros <;> try contradiction
          exact ⟨rfl, rfl⟩
        · refine ax_Ct.of (lv := [some (ax_r 0), some (ax_i (nI 1)), some (ax_i (nI v))]) (by decide +kernel) (fun ad => Nat.le_of_ble_eq_true rfl) (fun ad => rfl) ?_
          refine s_X12_set_0 (d := 59) (by omega) τ _ _ ?_ ?_ ?_ ?_ <;> intros <;> try contradiction
          refine ⟨rfl, (((fo.rfl'.ui ⟨rfl, Or.inl rfl⟩).ui ⟨rfl, Or.inr rfl⟩ : fo (fun c i => c = 0 ∧ (i = 28 ∨ i = 29)) _ τ)).1, ?_, ?_⟩
          · rw [ui_idx (by omega), ui_same, if_pos z0, m41]
          · rw [ui_same, if_neg (show ¬ ¬ nI 1 = 1 from not_not_intro rfl)]
        · rintro u w rfl ⟨fM, w1, w2⟩
          have fC : fk (fun c i => c = 0 ∧ i = 15) (ax_ui σ 0 15 (nI v)) σ := (fo.rfl'.ui ⟨rfl, rfl⟩ : fo (fun c i => c = 0 ∧ i = 15) _ σ).1
          refine ⟨tl, tp, n, E, D, dry, lw, ho, L, st, v, rf, nc, no, tc, te, a, T, H, im, I, ⟨o1, o2, o3, o4, o5, hv, o7, o8, o9, o10, by omega⟩, ⟨c1.to fC (by omega), c2.to fC (by omega), c3.to fC (by omega), c4.to fC (by omega), ?_, c6.to fC (by omega), c7.to fC ⟨rfl, rfl⟩ (by omega), c8.to fC (by omega), c9.to fC (by omega)⟩, ⟨m1.to fM (by omega), m2.to fM (by omega), m3.to fM (by omega), ?_, m5.to fM (by omega), m6.to fM (by omega), m7.to fM (by omega), m8.to fM (by omega)⟩⟩
          · exact ⟨by rw [ui_idx (by omega)]; exact c51, ui_same _ _ _ _, fun i hi => by rw [ui_cell (by omega)]; exact c53 i hi⟩
          · exact ⟨w1, w2, fun i hi => by rw [fM 16 i (by omega)]; exact m43 i hi⟩
  · have hx : (x = 0 ∨ ¬ ¬ x = 1) → ∃ k, 0 ≤ k ∧ k ≤ 1 ∧ x = nI k := by
      rintro (z | z)
      · exact ⟨0, by omega, by omega, z⟩
      · exact ⟨1, by omega, by omega, Classical.not_not.mp z⟩
    have g1 : (x = 0 ∨ ¬ ¬ x = 1) → ¬ y < 0 → ¬ 9 < y → False := fun z1 z2 z3 => g ⟨hx z1, (in_R y 0 9).mp ⟨z2, z3⟩⟩
    have g2 : (¬ x < (0 : Int32) ∧ ¬ (1 : Int32) < x) → ¬ (¬ y < (0 : Int32) ∧ ¬ (9 : Int32) < y) := fun z1 z2 => g ⟨(in_R x 0 1).mp z1, (in_R y 0 9).mp z2⟩
    refine good.ask h 0 ?_ ?_
    · refine ax_Ct.of (lv := [some (ax_r 0), some (ax_i x), some (ax_i y)]) (by decide +kernel) (fun ad => Nat.le_of_ble_eq_true rfl) (fun ad => rfl) ?_
      exact s_X11_set_0 (d := 59) (by omega) σ _ _ (fun _ => ⟨rfl, fo.rfl'⟩) (fun _ _ => ⟨rfl, fo.rfl'⟩) (fun _ _ _ => ⟨rfl, fo.rfl'⟩) (fun z1 z2 z3 _ _ => (g1 z1 z2 z3).elim) (fun z1 z2 z3 _ _ => (g1 z1 z2 z3).elim) (fun z1 z2 z3 _ => (g1 z1 z2 z3).elim)
    · refine ax_Ct.of (lv := [some (ax_r 0), some (ax_i x), some (ax_i y)]) (by decide +kernel) (fun ad => Nat.le_of_ble_eq_true rfl) (fun ad => rfl) ?_
      exact s_X12_set_0 (d := 59) (by omega) τ _ _ (fun _ => ⟨rfl, fo.rfl'⟩) (fun _ _ => ⟨rfl, fo.rfl'⟩) (fun z1 z2 _ => absurd z2 (g2 z1)) (fun z1 z2 _ => absurd z2 (g2 z1))
theorem good_wire {j : Nat} {σ τ : ax_S} (h : RR j σ τ) (x y : Int32) : good j mX11_wire mX12_wire [ax_i x, ax_i y] σ τ := by
  have h' := h
  obtain ⟨tl, tp, n, E, D, dry, lw, ho, L, st, ki, rf, nc, no, tc, te, a, T, H, im, I, ⟨o1, o2, o3, o4, o5, o6, o7, o8, o9, o10, o11⟩, ⟨c1, c2, c3, c4, c5, c6, c7, c8, c9⟩, ⟨m1, m2, m3, m4, m5, m6, m7, m8⟩⟩ := h'
  have h84 := o2.2.2.2.1
  have hmD := m2.2.2.1
  have e10 : σ.1 5 10 = nI (D 84) := c2.2.1
  have e84 : τ.1 15 84 = nI (D 84) := hmD 84 (by omega)
  by_cases g : (∃ w, w < D 84 ∧ x = nI w) ∧ (∃ k, 0 ≤ k ∧ k ≤ 4 ∧ y = nI k)
  · obtain ⟨⟨w, hw, rfl⟩, k, -, hk, rfl⟩ := g
    obtain ⟨w1, w2, w3, w4, w5⟩ := o2.2.2.2.2.2.2.2.2 w hw
    have hn := o2.2.1
    have a1 := (is_H (nI w) (D 84)).mpr ⟨w, hw, rfl⟩
    have b1 : ¬ nI w < (0 : Int32) ∧ ¬ nI (D 84) - 1 < nI w := (is_Hm (nI w) (D 84)).mpr ⟨w, hw, rfl⟩
    have b2 : ¬ nI k < (0 : Int32) ∧ ¬ (4 : Int32) < nI k := (in_R (nI k) 0 4).mpr ⟨k, by omega, hk, rfl⟩
    rw [← e10] at a1
    rw [← e84] at b1
    obtain ⟨s1, s2, s3⟩ := c2.2.2.2.2.2.2.1 w hw
    have s4 := c2.2.2.2.2.2.2.2.1 w (by omega)
    have i3 : (16 : Int32) + 4 * nI w + 3 = nI (16 + 4 * w + 3) := n_w w 3
    have i2 : (16 : Int32) + 4 * nI w + 2 = nI (16 + 4 * w + 2) := n_w w 2
    have d3 := hmD (16 + 4 * w + 3) (by omega)
    have d2 := hmD (16 + 4 * w + 2) (by omega)
    refine good.ask h (if k = 4 then (if bk_lv D w then 1 else 0) else nI (bk_w D w k)) ?_ ((f_X12_wire τ (nI w) (nI k) (n_in 84 268) (fun _ _ _ => by rw [n_w]; exact n_in _ _) (fun _ _ _ => by rw [i3]; exact n_in _ _) (fun _ _ _ _ => by rw [i2]; exact n_in _ _) (by omega)).mono ?_)
    · refine ax_Ct.of (lv := [some (ax_r 0), some (ax_i (nI w)), some (ax_i (nI k))]) (by decide +kernel) (fun ad => Nat.le_of_ble_eq_true rfl) (fun ad => rfl) ?_
      have hc : ∀ m, m ≤ 4 → nI k = nI m → k = m := fun m hm z => (n_eq k m).mp z
      refine s_X11_wire_0 (d := 59) (by omega) σ _ _ (fun _ _ => n_in w 17) (fun _ z => ?_) (fun _ _ _ => n_in w 17) (fun _ _ z => ?_) (fun _ _ _ _ => n_in w 17) (fun _ _ _ z => ?_) (fun _ _ _ _ z => ?_) (fun _ _ _ _ _ z => ?_) (fun _ z0 z1 z2 z3 z4 => ?_) (fun z => absurd a1 z)
      · obtain rfl := hc 0 (by omega) z
        exact ⟨by rw [n_tn w, s1]; rfl, fo.rfl'⟩
      · obtain rfl := hc 1 (by omega) z
        exact ⟨by rw [n_tn w, s2]; rfl, fo.rfl'⟩
      · obtain rfl := hc 2 (by omega) z
        exact ⟨by rw [n_tn w, s3]; rfl, fo.rfl'⟩
      · obtain rfl := hc 3 (by omega) z
        refine ⟨?_, fo.rfl'⟩
        rw [pn_bitOf _ w (by omega), s4, if_neg (show ¬ 3 = 4 by omega)]
        obtain e | e : bk_w D w 3 = 0 ∨ bk_w D w 3 = 1 := by omega
        · rw [e]; simp; rfl
        · rw [e]; simp [hw]; rfl
      · obtain rfl := hc 4 (by omega) z
        refine (ct_live (by omega) o2 c2).mono (fun r u hu => ⟨_, hu.1, s_X11_wire_93 (by omega) u _ _ ⟨?_, by rw [hu.2]; exact fo.rfl'⟩⟩)
        rw [pn_bitOf _ w (by omega), pn_set_bt _ _ (by omega) w (by omega), if_pos rfl]
        simp [hw]
      · have : k ≠ 0 ∧ k ≠ 1 ∧ k ≠ 2 ∧ k ≠ 3 ∧ k ≠ 4 := ⟨fun e => z0 (by rw [e]; rfl), fun e => z1 (by rw [e]; rfl), fun e => z2 (by rw [e]; rfl), fun e => z3 (by rw [e]; rfl), fun e => z4 (by rw [e]; rfl)⟩
        omega
    · rintro r u ⟨rfl, rfl⟩
      refine ⟨?_, fo.rfl'⟩
      rw [if_neg (not_not_intro b1), if_pos b2]
      by_cases e : k = 4
      · subst e
        rw [if_neg (show ¬ ¬ nI 4 = 4 from not_not_intro rfl), if_pos rfl, i3, i2, n_tn _, n_tn _, d3, d2]
        simp only [lv_if w4 w5]
        cases bk_lv D w <;> rfl
      · rw [if_pos (show ¬ nI k = 4 from fun z => e ((n_eq k 4).mp z)), if_neg e, n_w, n_tn _, hmD _ (by omega)]
  · refine good.ask h (-1) ?_ ?_
    · refine ax_Ct.of (lv := [some (ax_r 0), some (ax_i x), some (ax_i y)]) (by decide +kernel) (fun ad => Nat.le_of_ble_eq_true rfl) (fun ad => rfl) ?_
      have gg : (¬ x < 0 ∧ ¬ σ.1 5 10 ≤ x) → (∃ w, w < D 84 ∧ x = nI w) := fun z => (is_H x (D 84)).mp (by rw [← e10]; exact z)
      exact s_X11_wire_0 (d := 59) (by omega) σ _ _ (fun z e => absurd ⟨gg z, 0, by omega, by omega, e⟩ g) (fun z e => absurd ⟨gg z, 0, by omega, by omega, e⟩ g) (fun z _ e => absurd ⟨gg z, 1, by omega, by omega, e⟩ g) (fun z _ e => absurd ⟨gg z, 1, by omega, by omega, e⟩ g) (fun z _ _ e => absurd ⟨gg z, 2, by omega, by omega, e⟩ g) (fun z _ _ e => absurd ⟨gg z, 2, by omega, by omega, e⟩ g) (fun z _ _ _ e => absurd ⟨gg z, 3, by omega, by omega, e⟩ g) (fun z _ _ _ _ e => absurd ⟨gg z, 4, by omega, by omega, e⟩ g) (fun _ _ _ _ _ _ => ⟨rfl, fo.rfl'⟩) (fun _ => ⟨rfl, fo.rfl'⟩)
    · have gg : (¬ x < (0 : Int32) ∧ ¬ τ.1 15 84 - 1 < x) → ¬ (¬ y < (0 : Int32) ∧ ¬ (4 : Int32) < y) := fun z z2 => g ⟨(is_Hm x (D 84)).mp (by rw [← e84]; exact z), (in_R y 0 4).mp z2⟩
      refine (f_X12_wire τ x y (n_in 84 268) (fun z z2 => absurd z2 (gg z)) (fun z z2 => absurd z2 (gg z)) (fun z z2 => absurd z2 (gg z)) (by omega)).mono ?_
      rintro r u ⟨rfl, rfl⟩
      refine ⟨?_, fo.rfl'⟩
      by_cases z : (¬ x < (0 : Int32) ∧ ¬ u.1 15 84 - 1 < x)
      · rw [if_neg (not_not_intro z), if_neg (gg z)]
      · rw [if_pos z]
theorem lg_len {T : Nat} (h : T < 1000000) : (if nI T < (60 : Int32) then nI T else (60 : Int32)) = nI (min 60 T) := by
  rw [show (60 : Int32) = nI 60 from rfl]
  by_cases z : T < 60
  · rw [if_pos ((n_lt T 60).mpr z)]; congr 1; omega
  · rw [if_neg (fun q => z ((n_lt T 60).mp q))]
    have : min 60 T = 60 := by omega
    rw [this]
/-- Chronicle.tells -/
theorem ct_X2_tells {d : Nat} (hd : 2 ≤ d) {σ : ax_S} {T : Nat} {D : Nat → Nat} (hT : σ.1 8 2 = nI T) (hTb : T < 1000000) (hL : lg_C (σ.1 37) T D) (x y : Int32) :
    ax_Ct shC d mX2_tells [ax_r 8, ax_i x, ax_i y] (fun r u => u = σ ∧ (∀ i k, i < D 87 → k < 3 → x = nI i → y = nI k → r = some (ax_i (nI (D (88 + 3 * (D 87 - 1 - i) + k))))) ∧ (¬ ((∃ i, i < D 87 ∧ x = nI i) ∧ ∃ k, k < 3 ∧ y = nI k) → r = some (ax_i (-1)))) σ := by
  obtain ⟨d, rfl⟩ : ∃ e, d = e + 1 := ⟨d - 1, by omega⟩
  have hlen := lg_len hTb
  obtain ⟨h87, hL⟩ := hL
  refine ax_Ct.of (lv := [some (ax_r 8), some (ax_i x), some (ax_i y)]) (by decide +kernel) (fun ad => Nat.le_of_ble_eq_true rfl) (fun ad => rfl) ?_
  have e0 : (if σ.1 8 2 < (60 : Int32) then σ.1 8 2 else (60 : Int32)) = nI (D 87) := by rw [hT, h87]; exact hlen
  by_cases g : (∃ i, i < D 87 ∧ x = nI i) ∧ ∃ k, k < 3 ∧ y = nI k
  · obtain ⟨⟨i, hi, rfl⟩, k, hk, rfl⟩ := g
    have a1 : ¬ nI i < 0 := n_nn i
    have a2 : ¬ (if σ.1 8 2 < (60 : Int32) then σ.1 8 2 else (60 : Int32)) ≤ nI i := by rw [e0]; exact fun z => absurd ((n_le _ _).mp z) (by omega)
    have a3 : ¬ nI k < 0 := n_nn k
    have a4 : nI k < (3 : Int32) := (n_lt k 3).mpr hk
    have ei : ((((σ.1 8 2 - 1) - nI i) - ((σ.1 8 2 - 1) - nI i) / 128 * 128) * 3) + nI k = nI ((T - 1 - i) % 128 * 3 + k) := by
      rw [hT, show (1 : Int32) = nI 1 from rfl, n_sub T 1, n_sub (T - 1) i, show (128 : Int32) = nI 128 from rfl, n_rem _ 128, show (3 : Int32) = nI 3 from rfl, n_mul, n_add]
    refine s_X2_tells_0 (by omega) σ _ _ ?_ ?_ ?_ ?_ ?_ ?_ <;> intros <;> try contradiction
    · rw [ei]; exact n_in _ _
    · rw [ei, n_tn _]
      refine ⟨rfl, ?_, fun z => absurd ⟨⟨i, hi, rfl⟩, k, hk, rfl⟩ z⟩
      intro i' k' hi' hk' e1 e2
      obtain rfl := (n_eq i i').mp e1
      obtain rfl := (n_eq k k').mp e2
      rw [hL i k hi hk]
  · have hno : ∀ r : Option ax_V, r = some (ax_i (-1)) → σ = σ ∧ (∀ i k, i < D 87 → k < 3 → x = nI i → y = nI k → r = some (ax_i (nI (D (88 + 3 * (D 87 - 1 - i) + k))))) ∧ (¬ ((∃ i, i < D 87 ∧ x = nI i) ∧ ∃ k, k < 3 ∧ y = nI k) → r = some (ax_i (-1))) := fun r hr => ⟨rfl, fun i k hi hk e1 e2 => absurd ⟨⟨i, hi, e1⟩, k, hk, e2⟩ g, fun _ => hr⟩
    have g1 : ¬ x < 0 → ¬ (if σ.1 8 2 < (60 : Int32) then σ.1 8 2 else (60 : Int32)) ≤ x → ¬ y < 0 → ¬ y < 3 := fun z1 z2 z3 z4 => by
      rw [e0] at z2
      obtain ⟨k, hk, rfl⟩ := nI_of z3
      exact g ⟨(is_H x (D 87)).mp ⟨z1, z2⟩, k, (n_lt k 3).mp z4, rfl⟩
    exact s_X2_tells_0 (by omega) σ _ _ (fun _ => hno _ rfl) (fun _ _ => hno _ rfl) (fun _ _ _ => hno _ rfl) (fun z1 z2 z3 z4 => absurd z4 (g1 z1 z2 z3)) (fun z1 z2 z3 z4 => absurd z4 (g1 z1 z2 z3)) (fun _ _ _ _ => hno _ rfl)
theorem good_log {j : Nat} {σ τ : ax_S} (hj : j ≤ 1000) (h : RR j σ τ) (x y : Int32) : good j mX11_log mX12_log [ax_i x, ax_i y] σ τ := by
  have h' := h
  obtain ⟨tl, tp, n, E, D, dry, lw, ho, L, st, ki, rf, nc, no, tc, te, a, T, H, im, I, ⟨o1, o2, o3, o4, o5, o6, o7, o8, o9, o10, o11⟩, ⟨c1, c2, c3, c4, c5, c6, c7, c8, c9⟩, ⟨m1, m2, m3, m4, m5, m6, m7, m8⟩⟩ := h'
  obtain ⟨nx, tte, hacts, hnx, -, hT, hLG, -⟩ := c8
  have h87 := o3.1
  have hmD := m2.2.2.1
  have e87 : τ.1 15 87 = nI (D 87) := hmD 87 (by omega)
  have hC := ct_X2_tells (d := 59) (by omega) hT (by omega) hLG x y
  by_cases g : (∃ i, i < D 87 ∧ x = nI i) ∧ ∃ k, 0 ≤ k ∧ k ≤ 2 ∧ y = nI k
  · obtain ⟨⟨i, hi, rfl⟩, k, -, hk, rfl⟩ := g
    refine good.ask h (nI (D (88 + 3 * (D 87 - 1 - i) + k))) ?_ ?_
    · refine ax_Ct.of (lv := [some (ax_r 0), some (ax_i (nI i)), some (ax_i (nI k))]) (by decide +kernel) (fun ad => Nat.le_of_ble_eq_true rfl) (fun ad => rfl) ?_
      refine s_X11_log_0 (d := 59) (by omega) σ _ _ (hC.mono ?_)
      rintro r u ⟨rfl, h1, -⟩
      exact ⟨_, h1 i k hi (by omega) rfl rfl, s_X11_log_9 (by omega) u _ ⟨rfl, fo.rfl'⟩⟩
    · have b1 : ¬ nI i < (0 : Int32) ∧ ¬ nI (D 87) - 1 < nI i := (is_Hm (nI i) (D 87)).mpr ⟨i, hi, rfl⟩
      have b2 : ¬ nI k < (0 : Int32) ∧ ¬ (2 : Int32) < nI k := (in_R (nI k) 0 2).mpr ⟨k, by omega, hk, rfl⟩
      rw [← e87] at b1
      have ei : (88 : Int32) + 3 * (τ.1 15 87 - 1 - nI i) + nI k = nI (88 + 3 * (D 87 - 1 - i) + k) := by
        rw [e87, show (1 : Int32) = nI 1 from rfl, n_sub (D 87) 1, n_sub (D 87 - 1) i, show (3 : Int32) = nI 3 from rfl, n_mul, show (88 : Int32) = nI 88 from rfl, n_add, n_add]
      refine (f_X12_log τ (nI i) (nI k) (n_in 87 268) (fun _ _ => n_in 87 268) (fun _ _ => by rw [ei]; exact n_in _ _) (by omega)).mono ?_
      rintro r u ⟨rfl, rfl⟩
      exact ⟨by rw [if_neg (not_not_intro b1), if_neg (not_not_intro b2), ei, n_tn _, hmD _ (by omega)], fo.rfl'⟩
  · refine good.ask h (-1) ?_ ?_
    · refine ax_Ct.of (lv := [some (ax_r 0), some (ax_i x), some (ax_i y)]) (by decide +kernel) (fun ad => Nat.le_of_ble_eq_true rfl) (fun ad => rfl) ?_
      refine s_X11_log_0 (d := 59) (by omega) σ _ _ (hC.mono ?_)
      rintro r u ⟨rfl, -, h1⟩
      exact ⟨_, h1 (fun z => g ⟨z.1, by obtain ⟨k, hk, e⟩ := z.2; exact ⟨k, by omega, by omega, e⟩⟩), s_X11_log_9 (by omega) u _ ⟨rfl, fo.rfl'⟩⟩
    · have gg : (¬ x < (0 : Int32) ∧ ¬ τ.1 15 87 - 1 < x) → ¬ (¬ y < (0 : Int32) ∧ ¬ (2 : Int32) < y) := fun z z2 => g ⟨(is_Hm x (D 87)).mp (by rw [← e87]; exact z), (in_R y 0 2).mp z2⟩
      refine (f_X12_log τ x y (n_in 87 268) (fun _ _ => n_in 87 268) (fun z z2 => absurd z2 (gg z)) (by omega)).mono ?_
      rintro r u ⟨rfl, rfl⟩
      refine ⟨?_, fo.rfl'⟩
      by_cases z : (¬ x < (0 : Int32) ∧ ¬ u.1 15 87 - 1 < x)
      · rw [if_neg (not_not_intro z), if_pos (gg z)]
      · rw [if_pos z]
