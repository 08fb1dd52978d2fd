/-! ===== changes of wires, copper and summer ===== -/
theorem bk_C.chg {u v : ax_S} {n : Nat} {E D D' : Nat → Nat} {dry : Nat} (h : bk_C u n E D dry) (hf : fk (fun c i => (c = 5 ∧ (i = 11 ∨ i = 12 ∨ i = 14)) ∨ c = 30) v u) (h84 : D' 84 = D 84) (hD : ∀ h, h < 16 → D' h = D h) (h8 : n ≤ 8) (hw : ∀ w, w < D 84 → bk_w D' w 0 = bk_w D w 0 ∧ bk_w D' w 1 = bk_w D w 1)
    (hs : ∀ w, w < D 84 → v.1 30 w = nI (bk_w D' w 2)) (hc : ∀ i, i < 32 → bt (v.1 5 11) i = (decide (i < D 84) && decide (bk_w D' i 3 = 1))) (h85 : v.1 5 12 = nI (D' 85)) (h86 : v.1 5 14 = nI (D' 86)) : bk_C v n E D' dry := by
  obtain ⟨p1, p2, p3, p4, p5, p6, p7, p8, p9⟩ := h
  refine ⟨by rw [hf 5 9 (by omega)]; exact p1, by rw [hf 5 10 (by omega), h84]; exact p2, h85, by rw [hf 5 13 (by omega)]; exact p4, h86, fun h hh => ?_, fun w hw8 => ?_, fun i hi => ?_, fun h hh w hw8 => ?_⟩
  · rw [hf 23 h (by omega), hf 24 h (by omega), hf 25 h (by omega), hf 26 h (by omega), hf 27 h (by omega), hD h (by omega), hD (8 + h) (by omega)]; exact p6 h hh
  · rw [h84] at hw8
    rw [hf 28 w (by omega), hf 29 w (by omega), (hw w hw8).1, (hw w hw8).2, hs w hw8]; exact ⟨(p7 w hw8).1, (p7 w hw8).2.1, rfl⟩
  · rw [h84]; exact hc i hi
  · rw [h84] at hw8
    rw [hf 31 h (by omega), (hw w hw8).1, (hw w hw8).2]; exact p9 h hh w hw8
theorem bk_ok.chg {n : Nat} {E D D' : Nat → Nat} {dry : Nat} (h : bk_ok n E D dry) (h84 : D' 84 = D 84) (hD : ∀ h, h < 16 → D' h = D h) (h85 : D' 85 ≤ 99) (h86 : D' 86 ≤ 999) (hw : ∀ w, w < D 84 → bk_w D' w 0 = bk_w D w 0 ∧ bk_w D' w 1 = bk_w D w 1 ∧ bk_w D' w 2 ≤ 9 ∧ bk_w D' w 3 ≤ 1) : bk_ok n E D' dry := by
  obtain ⟨p1, p2, p3, p4, p5, p6, p7, p8, p9⟩ := h
  refine ⟨p1, p2, p3, by rw [h84]; exact p4, h85, h86, by rw [h84]; exact p7, fun h hh => ?_, fun w hw8 => ?_⟩
  · rw [hD h (by omega), hD (8 + h) (by omega)]; exact p8 h hh
  · rw [h84] at hw8
    obtain ⟨q1, q2, q3, q4⟩ := hw w hw8
    rw [q1, q2]; exact ⟨(p9 w hw8).1, (p9 w hw8).2.1, (p9 w hw8).2.2.1, q3, q4⟩
theorem bk_M.chg {u v : ax_S} {n : Nat} {E D D' : Nat → Nat} {dry : Nat} (h : bk_M u n E D dry) (hf : fk (fun c i => c = 15) v u) (hD : mD v D') : bk_M v n E D' dry :=
  ⟨by rw [hf 0 23 (by omega)]; exact h.1, by rw [hf 0 24 (by omega)]; exact h.2.1, hD, fun a b ha hb => by rw [hf 14 _ (by omega)]; exact h.2.2.2 a b ha hb⟩
theorem sm_salt {u v : ax_S} (h : bk_sm u) (hf : fk (fun c i => (c = 5 ∧ (i = 11 ∨ i = 12 ∨ i = 14)) ∨ c = 30) v u) (hs : ∀ w, w < 17 → v.1 30 w = u.1 30 w ∨ ∃ q, q ≤ 9 ∧ v.1 30 w = nI q) : bk_sm v := fun w hw => by
  obtain ⟨x, y, z, s1, s2, s3, s4, s5, s6⟩ := h w hw
  rcases hs w hw with e | ⟨q, hq, e⟩
  · exact ⟨x, y, z, by rw [hf 28 w (by omega)]; exact s1, by rw [hf 29 w (by omega)]; exact s2, by rw [e]; exact s3, s4, s5, s6⟩
  · exact ⟨x, y, q, by rw [hf 28 w (by omega)]; exact s1, by rw [hf 29 w (by omega)]; exact s2, e, s4, s5, hq⟩
theorem n_up (a b c : Nat) (ha : a + b < 2147483648 := by omega) (hc : c < 2147483648 := by omega) : (if nI a + nI b < nI c then nI a + nI b else nI c) = nI (min c (a + b)) := by
  rw [n_add]; exact n_min c (a + b)
theorem wi (w k w' k' : Nat) (h : ¬ (w = w' ∧ k = k')) (hk : k < 4) (hk' : k' < 4) : 16 + 4 * w + k ≠ 16 + 4 * w' + k' := by omega
set_option maxHeartbeats 1000000 in
theorem good_scrape {j : Nat} {σ τ : ax_S} (hj : j ≤ 1000) (h : RR j σ τ) (x : Int32) : good j mX11_scrape mX12_scrape [ax_i x] σ τ := by
  obtain ⟨n, E, D, dry, lw, ho, L, a, T, H, hb, hlg, -, hh, hT, hCB, hMB, -, -, hnext⟩ := h.belt
  have hn := hb.2.1
  have h84 := hb.2.2.2.1
  have h85 := hb.2.2.2.2.1
  have e10 : σ.1 5 10 = nI (D 84) := hCB.1.2.1
  have e12 : σ.1 5 12 = nI (D 85) := hCB.1.2.2.1
  have e84 : τ.1 15 84 = nI (D 84) := hMB.1.2.2.1 84 (by omega)
  have e85 : τ.1 15 85 = nI (D 85) := hMB.1.2.2.1 85 (by omega)
  by_cases g : ∃ k, k < D 84 ∧ x = nI k
  · obtain ⟨k, hk, rfl⟩ := g
    obtain ⟨w1, w2, w3, w4, w5⟩ := hb.2.2.2.2.2.2.2.2 k hk
    have a1 : ¬ nI k < 0 ∧ ¬ σ.1 5 10 ≤ nI k := by rw [e10]; exact (is_H (nI k) (D 84)).mpr ⟨k, hk, rfl⟩
    have b1 : ¬ nI k < (0 : Int32) ∧ ¬ τ.1 15 84 - 1 < nI k := by rw [e84]; exact (is_Hm (nI k) (D 84)).mpr ⟨k, hk, rfl⟩
    have i3 : (16 : Int32) + 4 * nI k + 3 = nI (16 + 4 * k + 3) := n_w k 3
    have i2 : (16 : Int32) + 4 * nI k + 2 = nI (16 + 4 * k + 2) := n_w k 2
    have m3 : τ.1 15 (16 + 4 * k + 3) = nI (bk_w D k 3) := hMB.1.2.2.1 _ (by omega)
    have m2 : τ.1 15 (16 + 4 * k + 2) = nI (bk_w D k 2) := hMB.1.2.2.1 _ (by omega)
    have s2 : σ.1 30 (Int32.toNatClampNeg (nI k)) = nI (bk_w D k 2) := by rw [n_tn k]; exact (hCB.1.2.2.2.2.2.2.1 k hk).2.2
    have hbit : (((σ.1 5 11) >>> (nI k &&& 31)) &&& (1 : Int32) = 1) ↔ bk_w D k 3 = 1 := by
      rw [pn_bitOf1 _ k (by omega), hCB.1.2.2.2.2.2.2.2.1 k (by omega)]; simp [hk]
    by_cases g3 : bk_w D k 3 = 1 ∨ bk_w D k 2 = 0
    · refine good_refuse h (i := 3) (by omega) ?_ ?_
      · refine ax_Ct.of (lv := [some (ax_r 0), some (ax_i (nI k))]) (by decide +kernel) (fun ad => Nat.le_of_ble_eq_true rfl) (fun ad => rfl) ?_
        exact s_X11_scrape_0 (d := 59) (by omega) σ _ (fun _ _ => ⟨rfl, rfl⟩) (fun _ _ => n_in k 17) (fun _ z1 z2 _ => absurd g3 (fun q => q.elim (fun r => z1 (hbit.mpr r)) (fun r => z2 (by rw [s2, r]; rfl)))) (fun _ z1 z2 _ => absurd g3 (fun q => q.elim (fun r => z1 (hbit.mpr r)) (fun r => z2 (by rw [s2, r]; rfl)))) (fun _ _ _ => ⟨rfl, rfl⟩) (fun z => absurd a1 z)
      · refine ax_Ct.of (lv := [some (ax_r 0), some (ax_i (nI k))]) (by decide +kernel) (fun ad => Nat.le_of_ble_eq_true rfl) (fun ad => rfl) ?_
        refine s_X12_scrape_0 (d := 59) (by omega) τ _ (fun _ => by rw [i3]; exact n_in _ _) (fun _ _ => by rw [i2]; exact n_in _ _) ?_
        have ev : (if ((τ.1 15 (Int32.toNatClampNeg ((16 : Int32) + 4 * nI k + 3))) = (1 : Int32)) then (3 : Int32) else (if (¬ (τ.1 15 (Int32.toNatClampNeg ((16 : Int32) + 4 * nI k + 2))) = 0) then (if (¬ (τ.1 15 85) = 0) then (-1 : Int32) else (4 : Int32)) else (3 : Int32))) = nI 3 := by
          rw [i3, i2, n_tn _, n_tn _, m3, m2]
          by_cases z : bk_w D k 3 = 1
          · rw [if_pos (by rw [z]; rfl)]; rfl
          · rw [if_neg (show ¬ nI (bk_w D k 3) = (1 : Int32) from fun q => z ((n_eq _ 1).mp q)), if_neg (show ¬ ¬ nI (bk_w D k 2) = 0 from not_not_intro (by rw [g3.resolve_left z]; rfl))]; rfl
        rw [if_pos b1, ev]
        refine (ct_refused (by omega) τ (i := 3) (by omega)).mono (fun r u hu => ⟨_, hu.1, s_X12_scrape_54 (by omega) u _ _ (fun z => absurd z (by decide)) (fun _ => ⟨rfl, hu.2⟩)⟩)
    · have z1 : ¬ (((σ.1 5 11) >>> (nI k &&& 31)) &&& (1 : Int32) = 1) := fun z => g3 (Or.inl (hbit.mp z))
      have z2 : ¬ σ.1 30 (Int32.toNatClampNeg (nI k)) = 0 := by rw [s2]; exact fun z => g3 (Or.inr ((n_eq _ 0).mp z))
      have y1 : ¬ τ.1 15 (Int32.toNatClampNeg ((16 : Int32) + 4 * nI k + 3)) = (1 : Int32) := by rw [i3, n_tn _, m3]; exact fun z => g3 (Or.inl ((n_eq _ 1).mp z))
      have y2 : ¬ τ.1 15 (Int32.toNatClampNeg ((16 : Int32) + 4 * nI k + 2)) = 0 := by rw [i2, n_tn _, m2]; exact fun z => g3 (Or.inr ((n_eq _ 0).mp z))
      by_cases g1 : D 85 = 0
      · have z3 : ¬ (1 : Int32) ≤ σ.1 5 12 := by rw [e12]; exact fun z => absurd ((n_le 1 _).mp z) (by omega)
        have y3 : ¬ ¬ τ.1 15 85 = 0 := by rw [e85, g1]; exact not_not_intro rfl
        refine good_refuse h (i := 4) (by omega) ?_ ?_
        · refine ax_Ct.of (lv := [some (ax_r 0), some (ax_i (nI k))]) (by decide +kernel) (fun ad => Nat.le_of_ble_eq_true rfl) (fun ad => rfl) ?_
          refine s_X11_scrape_0 (d := 59) (by omega) σ _ ?_ ?_ ?_ ?_ ?_ ?_ <;> intros <;> try contradiction
          · exact n_in k 17
          · exact ⟨rfl, rfl⟩
        · refine ax_Ct.of (lv := [some (ax_r 0), some (ax_i (nI k))]) (by decide +kernel) (fun ad => Nat.le_of_ble_eq_true rfl) (fun ad => rfl) ?_
          refine s_X12_scrape_0 (d := 59) (by omega) τ _ (fun _ => by rw [i3]; exact n_in _ _) (fun _ _ => by rw [i2]; exact n_in _ _) ?_
          rw [if_pos b1, if_neg y1, if_pos y2, if_neg y3]
          refine (ct_refused (by omega) τ (i := 4) (by omega)).mono (fun r u hu => ⟨_, hu.1, s_X12_scrape_54 (by omega) u _ _ (fun z => absurd z (by decide)) (fun _ => ⟨rfl, hu.2⟩)⟩)
      · have z3 : (1 : Int32) ≤ σ.1 5 12 := by rw [e12]; exact (n_le 1 _).mpr (by omega)
        have y3 : ¬ τ.1 15 85 = 0 := by rw [e85]; exact fun z => g1 ((n_eq _ 0).mp z)
        let D' := dset (dset D (16 + 4 * k + 2) 0) 85 (D 85 - 1)
        have d0 : ∀ j, j ≠ 16 + 4 * k + 2 → j ≠ 85 → D' j = D j := fun j h1 h2 => (dset_ne h2).trans (dset_ne h1)
        have d1 : D' (16 + 4 * k + 2) = 0 := (dset_ne (by omega)).trans (dset_eq _ _ _)
        have d2 : D' 85 = D 85 - 1 := dset_eq _ _ _
        have dw : ∀ w q, w < D 84 → q < 4 → q ≠ 2 → bk_w D' w q = bk_w D w q := fun w q hw hq h2 => d0 _ (by omega) (by omega)
        have hb' : bk_ok n E D' dry := hb.chg (d0 84 (by omega) (by omega)) (fun h hh => d0 h (by omega) (by omega)) (by rw [d2]; omega) (by rw [d0 86 (by omega) (by omega)]; exact hb.2.2.2.2.2.1) (fun w hw => by
          refine ⟨dw w 0 hw (by omega) (by omega), dw w 1 hw (by omega) (by omega), ?_, ?_⟩
          · by_cases e : w = k
            · rw [e]; show D' (16 + 4 * k + 2) ≤ 9; rw [d1]; omega
            · show D' (16 + 4 * w + 2) ≤ 9; rw [d0 _ (by omega) (by omega)]; exact (hb.2.2.2.2.2.2.2.2 w hw).2.2.2.1
          · rw [dw w 3 hw (by omega) (by omega)]; exact (hb.2.2.2.2.2.2.2.2 w hw).2.2.2.2)
        have hl' : lg_ok D' := by
          refine ⟨by rw [d0 87 (by omega) (by omega)]; exact hlg.1, fun j hj => ?_⟩
          by_cases q1 : j = 85
          · rw [q1, d2]; omega
          · by_cases q2 : j = 16 + 4 * k + 2
            · rw [q2, d1]; omega
            · rw [d0 j q2 q1]; exact hlg.2 j hj
        refine ⟨nI (D 85 - 1), (fun u => fo SB u σ ∧ CB u n E D' dry (min 40 (a + 1)) T (hpush a H D)), (fun w => fo SM w τ ∧ MB w n E D' dry (min 40 (a + 1)) (hpush a H D)), ?_, ?_, ?_⟩
        · refine ax_Ct.of (lv := [some (ax_r 0), some (ax_i (nI k))]) (by decide +kernel) (fun ad => Nat.le_of_ble_eq_true rfl) (fun ad => rfl) ?_
          refine s_X11_scrape_0 (d := 59) (by omega) σ _ ?_ ?_ ?_ ?_ ?_ ?_ <;> intros <;> try contradiction
          · exact n_in k 17
          refine (ct_X11_remember (by omega) hb hCB.1 hCB.2.1 hh.1 hCB.2.2).mono ?_
          rintro r u ⟨rfl, hf, hR⟩
          obtain ⟨u1, u2⟩ := hCB.kept hf
          refine ⟨rfl, s_X11_scrape_68 (by omega) u _ (n_in k 17) ?_⟩
          have e5 : u.1 5 12 - (1 : Int32) = nI (D 85 - 1) := by rw [u1.2.2.1]; exact n_sub (D 85) 1
          rw [n_tn k, e5]
          have f1 : fo (fun c i => (c = 5 ∧ (i = 11 ∨ i = 12 ∨ i = 14)) ∨ c = 30) (ax_ui (ax_ui u 30 k 0) 5 12 (nI (D 85 - 1))) u := (fo.rfl'.ui (by omega)).ui (by omega)
          refine ⟨rfl, ((fo_SB hf).ui (by unfold SB rd_S; omega)).ui (by unfold SB rd_S; omega), u1.chg f1.1 (d0 84 (by omega) (by omega)) (fun h hh => d0 h (by omega) (by omega)) hn (fun w hw => ⟨dw w 0 hw (by omega) (by omega), dw w 1 hw (by omega) (by omega)⟩) (fun w hw => ?_) (fun i hi => ?_) (by rw [ui_same, d2]) ?_, sm_salt u2 f1.1 (fun w hw => ?_), hR.next (fun j hj => d0 j (by omega) (by omega)) (fun c i hc => f1.1 c i (by omega))⟩
          · rw [ui_cell (by omega)]
            by_cases e : w = k
            · rw [e, ui_same]; show (0 : Int32) = nI (D' (16 + 4 * k + 2)); rw [d1]; rfl
            · rw [ui_idx e]; show u.1 30 w = nI (D' (16 + 4 * w + 2)); rw [d0 _ (by omega) (by omega)]; exact (u1.2.2.2.2.2.2.1 w hw).2.2
          · rw [ui_idx (by omega), ui_cell (by omega), u1.2.2.2.2.2.2.2.1 i hi]
            by_cases z : i < D 84
            · rw [dw i 3 z (by omega) (by omega)]
            · simp [z]
          · rw [ui_idx (by omega), ui_cell (by omega), d0 86 (by omega) (by omega)]; exact u1.2.2.2.2.1
          · rw [ui_cell (by omega)]
            by_cases e : w = k
            · right; exact ⟨0, by omega, by rw [e, ui_same]; rfl⟩
            · left; rw [ui_idx e]
        · refine ax_Ct.of (lv := [some (ax_r 0), some (ax_i (nI k))]) (by decide +kernel) (fun ad => Nat.le_of_ble_eq_true rfl) (fun ad => rfl) ?_
          refine s_X12_scrape_0 (d := 59) (by omega) τ _ (fun _ => by rw [i3]; exact n_in _ _) (fun _ _ => by rw [i2]; exact n_in _ _) ?_
          rw [if_pos b1, if_neg y1, if_pos y2, if_pos y3]
          refine (ct_allowed (by omega) τ).mono (fun r u hu => ⟨_, hu.1, ?_⟩)
          obtain ⟨-, rfl⟩ := hu
          refine s_X12_scrape_54 (by omega) u _ _ (fun _ => ?_) (fun z => absurd rfl z)
          refine (ct_X12_keep (by omega) hh.1 hMB.1.2.2.1 hMB.2).mono ?_
          rintro r w ⟨rfl, hf, hw1⟩
          have w1 := hMB.kept hf
          refine ⟨rfl, s_X12_scrape_63 (by omega) w _ (by rw [i2]; exact n_in _ _) ?_⟩
          have e5 : (ax_ui w 15 (16 + 4 * k + 2) 0).1 15 85 - (1 : Int32) = nI (D 85 - 1) := by rw [ui_idx (by omega), w1.2.2.1 85 (by omega)]; exact n_sub (D 85) 1
          rw [i2, n_tn _, e5]
          have f1 : fo (fun c i => c = 15) (ax_ui (ax_ui w 15 (16 + 4 * k + 2) 0) 15 85 (nI (D 85 - 1))) w := (fo.rfl'.ui (by omega)).ui (by omega)
          exact ⟨rfl, ((fo_SM hf).ui (by unfold SM; omega)).ui (by unfold SM; omega), w1.chg f1.1 ((w1.2.2.1.set _ 0).set _ _), hw1.to f1.1 (by omega)⟩
        · rintro u w ⟨fC, hu⟩ ⟨fM, hw⟩
          exact hnext D' _ T _ u w hb' hl' (hpush_ok hh hb hlg) (by omega) fC.1 ⟨by rw [fC.2], by rw [fC.2]⟩ fM.1 hu hw
  · have a1 : ¬ (¬ x < 0 ∧ ¬ σ.1 5 10 ≤ x) := fun z => g ((is_H x (D 84)).mp (by rw [← e10]; exact z))
    have b1 : ¬ (¬ x < (0 : Int32) ∧ ¬ τ.1 15 84 - 1 < x) := fun z => g ((is_Hm x (D 84)).mp (by rw [← e84]; exact z))
    refine good_refuse h (i := 0) (by omega) ?_ ?_
    · refine ax_Ct.of (lv := [some (ax_r 0), some (ax_i x)]) (by decide +kernel) (fun ad => Nat.le_of_ble_eq_true rfl) (fun ad => rfl) ?_
      refine s_X11_scrape_0 (d := 59) (by omega) σ _ ?_ ?_ ?_ ?_ ?_ ?_ <;> intros <;> try contradiction
      exact ⟨rfl, rfl⟩
    · refine ax_Ct.of (lv := [some (ax_r 0), some (ax_i x)]) (by decide +kernel) (fun ad => Nat.le_of_ble_eq_true rfl) (fun ad => rfl) ?_
      refine s_X12_scrape_0 (d := 59) (by omega) τ _ (fun z => absurd z b1) (fun z => absurd z b1) ?_
      rw [if_neg b1]
      refine (ct_refused (by omega) τ (i := 0) (by omega)).mono (fun r u hu => ⟨_, hu.1, s_X12_scrape_54 (by omega) u _ _ (fun z => absurd z (by decide)) (fun _ => ⟨rfl, hu.2⟩)⟩)
