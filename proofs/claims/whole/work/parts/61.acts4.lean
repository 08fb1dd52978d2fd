/-! ===== cut, summers ===== -/
set_option maxHeartbeats 2000000 in
theorem good_cut {j : Nat} {σ τ : ax_S} (hj : j ≤ 1000) (h : RR j σ τ) (x : Int32) : good j mX11_cut mX12_cut [ax_i x] σ τ := by
  obtain ⟨n, E, D, dry, lw, ho, L, a, T, H, hb, hlg, -, hh, hT, hCB, hMB, -, -, hnext⟩ := h.belt
  have hn := hb.2.1
  have h84 := hb.2.2.2.1
  have h85 := hb.2.2.2.2.1
  have e10 : σ.1 5 10 = nI (D 84) := hCB.1.2.1
  have e84 : τ.1 15 84 = nI (D 84) := hMB.1.2.2.1 84 (by omega)
  by_cases g : ∃ k, k < D 84 ∧ x = nI k
  · obtain ⟨k, hk, rfl⟩ := g
    obtain ⟨w1, w2, w3, w4, w5⟩ := hb.2.2.2.2.2.2.2.2 k hk
    have a1 : ¬ nI k < 0 ∧ ¬ σ.1 5 10 ≤ nI k := by rw [e10]; exact (is_H (nI k) (D 84)).mpr ⟨k, hk, rfl⟩
    have b1 : ¬ nI k < (0 : Int32) ∧ ¬ τ.1 15 84 - 1 < nI k := by rw [e84]; exact (is_Hm (nI k) (D 84)).mpr ⟨k, hk, rfl⟩
    have i3 : (16 : Int32) + 4 * nI k + 3 = nI (16 + 4 * k + 3) := n_w k 3
    have i0 : (16 : Int32) + 4 * nI k + 0 = nI (16 + 4 * k + 0) := n_w k 0
    have i1 : (16 : Int32) + 4 * nI k + 1 = nI (16 + 4 * k + 1) := n_w k 1
    have m3 : τ.1 15 (16 + 4 * k + 3) = nI (bk_w D k 3) := hMB.1.2.2.1 _ (by omega)
    have hbit : (((σ.1 5 11) >>> (nI k &&& 31)) &&& (1 : Int32) = 1) ↔ bk_w D k 3 = 1 := by
      rw [pn_bitOf1 _ k (by omega), hCB.1.2.2.2.2.2.2.2.1 k (by omega)]; simp [hk]
    by_cases g3 : bk_w D k 3 = 1
    · have z1 : ¬ ¬ (((σ.1 5 11) >>> (nI k &&& 31)) &&& (1 : Int32) = 1) := not_not_intro (hbit.mpr g3)
      have y1 : ¬ ¬ τ.1 15 (Int32.toNatClampNeg ((16 : Int32) + 4 * nI k + 3)) = (1 : Int32) := by rw [i3, n_tn _, m3, g3]; exact not_not_intro rfl
      refine good_refuse h (i := 3) (by omega) ?_ ?_
      · refine ax_Ct.of (lv := [some (ax_r 0), some (ax_i (nI k))]) (by decide +kernel) (fun ad => Nat.le_of_ble_eq_true rfl) (fun ad => rfl) ?_
        refine s_X11_cut_0 (d := 59) (by omega) σ _ ?_ ?_ ?_ <;> intros <;> try contradiction
        exact ⟨rfl, rfl⟩
      · refine ax_Ct.of (lv := [some (ax_r 0), some (ax_i (nI k))]) (by decide +kernel) (fun ad => Nat.le_of_ble_eq_true rfl) (fun ad => rfl) ?_
        refine s_X12_cut_0 (d := 59) (by omega) τ _ (fun _ => by rw [i3]; exact n_in _ _) ?_
        rw [if_pos b1, if_neg y1]
        refine (ct_refused (by omega) τ (i := 3) (by omega)).mono (fun r u hu => ⟨_, hu.1, s_X12_cut_31 (by omega) u _ _ (fun z => absurd z (by decide)) (fun _ => ⟨rfl, hu.2⟩)⟩)
    · have z1 : ¬ (((σ.1 5 11) >>> (nI k &&& 31)) &&& (1 : Int32) = 1) := fun z => g3 (hbit.mp z)
      have y1 : ¬ τ.1 15 (Int32.toNatClampNeg ((16 : Int32) + 4 * nI k + 3)) = (1 : Int32) := by rw [i3, n_tn _, m3]; exact fun z => g3 ((n_eq _ 1).mp z)
      have eA := hb.2.2.2.2.2.2.2.1 _ w1
      have eB := hb.2.2.2.2.2.2.2.1 _ w2
      have hp := prc_b (E := E) eA.1 eB.1
      let c' := min 99 (D 85 + prc E (bk_w D k 0) (bk_w D k 1) / 2)
      let D' := dset (dset D (16 + 4 * k + 3) 1) 85 c'
      have d0 : ∀ j, j ≠ 16 + 4 * k + 3 → j ≠ 85 → D' j = D j := fun j h1 h2 => (dset_ne h2).trans (dset_ne h1)
      have d1 : D' (16 + 4 * k + 3) = 1 := (dset_ne (by omega)).trans (dset_eq _ _ _)
      have d2 : D' 85 = c' := dset_eq _ _ _
      have c9 : c' ≤ 99 := Nat.min_le_left _ _
      have dw : ∀ w q, w < D 84 → q < 4 → q ≠ 3 → bk_w D' w q = bk_w D w q := fun w q hw hq h2 => d0 _ (by omega) (by omega)
      have dw3 : ∀ w, w < D 84 → w ≠ k → bk_w D' w 3 = bk_w D w 3 := fun w hw h2 => d0 _ (by omega) (by omega)
      have dk3 : bk_w D' k 3 = 1 := d1
      have hb' : bk_ok n E D' dry := hb.chg (d0 84 (by omega) (by omega)) (fun h hh => d0 h (by omega) (by omega)) (by rw [d2]; exact c9) (by rw [d0 86 (by omega) (by omega)]; exact hb.2.2.2.2.2.1) (fun w hw => by
        refine ⟨dw w 0 hw (by omega) (by omega), dw w 1 hw (by omega) (by omega), ?_, ?_⟩
        · rw [dw w 2 hw (by omega) (by omega)]; exact (hb.2.2.2.2.2.2.2.2 w hw).2.2.2.1
        · by_cases e : w = k
          · rw [e, dk3]; omega
          · rw [dw3 w hw e]; exact (hb.2.2.2.2.2.2.2.2 w hw).2.2.2.2)
      have hl' : lg_ok D' := by
        refine ⟨by rw [d0 87 (by omega) (by omega)]; exact hlg.1, fun j hj => ?_⟩
        by_cases q1 : j = 85
        · rw [q1, d2]; omega
        · by_cases q2 : j = 16 + 4 * k + 3
          · rw [q2, d1]; omega
          · rw [d0 j q2 q1]; exact hlg.2 j hj
      refine ⟨nI c', (fun u => fo SB u σ ∧ CB u n E D' dry (min 40 (a + 1)) T (hpush a H D)), (fun w => fo SM w τ ∧ MB w n E D' dry (min 40 (a + 1)) (hpush a H D)), ?_, ?_, ?_⟩
      · refine ax_Ct.of (lv := [some (ax_r 0), some (ax_i (nI k))]) (by decide +kernel) (fun ad => Nat.le_of_ble_eq_true rfl) (fun ad => rfl) ?_
        refine s_X11_cut_0 (d := 59) (by omega) σ _ ?_ ?_ ?_ <;> intros <;> try contradiction
        refine (ct_X11_remember (by omega) hb hCB.1 hCB.2.1 hh.1 hCB.2.2).mono ?_
        rintro r u ⟨rfl, hf, hR⟩
        obtain ⟨u1, u2⟩ := hCB.kept hf
        obtain ⟨t1, t2, t3⟩ := u1.2.2.2.2.2.2.1 k hk
        refine ⟨rfl, s_X11_cut_39 (by omega) u _ (n_in k 17) (by rw [n_tn k, t1]; exact n_in _ _) (by rw [n_tn k, t2]; exact n_in _ _) ?_⟩
        rw [n_tn k, t1, t2, n_tn (bk_w D k 0), n_tn (bk_w D k 1), (u1.2.2.2.2.2.1 _ w1).1, (u1.2.2.2.2.2.1 _ w2).1, n_price (by omega) (by omega), u1.2.2.1, show (2 : Int32) = nI 2 from rfl, n_div (max 1 (dst (E (4 * bk_w D k 0)) (E (4 * bk_w D k 1)))) 2 (by omega) (by unfold prc at hp; omega), show (99 : Int32) = nI 99 from rfl, n_up (D 85) _ 99 (by unfold prc at hp; omega)]
        have f1 : fo (fun c i => (c = 5 ∧ (i = 11 ∨ i = 12 ∨ i = 14)) ∨ c = 30) (ax_ui (ax_ui u 5 11 (u.1 5 11 ||| (1 : Int32) <<< (nI k &&& 31))) 5 12 (nI c')) u := (fo.rfl'.ui (by omega)).ui (by omega)
        refine ⟨rfl, ((fo_SB hf).ui (by unfold SB rd_S; omega)).ui (by unfold SB rd_S; omega), u1.chg f1.1 (d0 84 (by omega) (by omega)) (fun h hh => d0 h (by omega) (by omega)) hn (fun w hw => ⟨dw w 0 hw (by omega) (by omega), dw w 1 hw (by omega) (by omega)⟩) (fun w hw => ?_) (fun i hi => ?_) (by rw [ui_same, d2]; rfl) ?_, sm_salt u2 f1.1 (fun w hw => ?_), hR.next (fun j hj => d0 j (by omega) (by omega)) (fun c i hc => f1.1 c i (by omega))⟩
        · rw [ui_cell (by omega), ui_cell (by omega), dw w 2 hw (by omega) (by omega)]; exact (u1.2.2.2.2.2.2.1 w hw).2.2
        · rw [ui_idx (by omega), ui_same, b_or, pn_one k (by omega) i hi, u1.2.2.2.2.2.2.2.1 i hi]
          by_cases e : i = k
          · rw [e, dk3]; simp [hk]
          · by_cases z : i < D 84
            · rw [dw3 i z e]; simp [e]
            · simp [z, e]
        · rw [ui_idx (by omega), ui_idx (by omega), d0 86 (by omega) (by omega)]; exact u1.2.2.2.2.1
        · left; rw [ui_cell (by omega), ui_cell (by omega)]
      · refine ax_Ct.of (lv := [some (ax_r 0), some (ax_i (nI k))]) (by decide +kernel) (fun ad => Nat.le_of_ble_eq_true rfl) (fun ad => rfl) ?_
        refine s_X12_cut_0 (d := 59) (by omega) τ _ (fun _ => by rw [i3]; exact n_in _ _) ?_
        rw [if_pos b1, if_pos y1]
        refine (ct_allowed (by omega) τ).mono (fun r u hu => ⟨_, hu.1, ?_⟩)
        obtain ⟨-, rfl⟩ := hu
        refine s_X12_cut_31 (by omega) u _ _ (fun _ => ?_) (fun z => absurd rfl z)
        refine (ct_X12_keep (by omega) hh.1 hMB.1.2.2.1 hMB.2).mono ?_
        rintro r w ⟨rfl, hf, hw1⟩
        have w1' := hMB.kept hf
        have r0 : (ax_ui w 15 (Int32.toNatClampNeg ((16 : Int32) + 4 * nI k + 3)) 1).1 15 (Int32.toNatClampNeg ((16 : Int32) + 4 * nI k + 0)) = nI (bk_w D k 0) := by
          rw [i3, i0, n_tn _, n_tn _, ui_idx (by omega)]; exact w1'.2.2.1 _ (by omega)
        have r1 : (ax_ui w 15 (Int32.toNatClampNeg ((16 : Int32) + 4 * nI k + 3)) 1).1 15 (Int32.toNatClampNeg ((16 : Int32) + 4 * nI k + 1)) = nI (bk_w D k 1) := by
          rw [i3, i1, n_tn _, n_tn _, ui_idx (by omega)]; exact w1'.2.2.1 _ (by omega)
        have r85 : (ax_ui w 15 (Int32.toNatClampNeg ((16 : Int32) + 4 * nI k + 3)) 1).1 15 85 = nI (D 85) := by
          rw [i3, n_tn _, ui_idx (by omega)]; exact w1'.2.2.1 _ (by omega)
        have j0 : (4 : Int32) * nI (bk_w D k 0) + 0 = nI (4 * bk_w D k 0 + 0) := n_h _ 0
        have j1 : (4 : Int32) * nI (bk_w D k 1) + 0 = nI (4 * bk_w D k 1 + 0) := n_h _ 0
        have q0 : w.1 14 (4 * bk_w D k 0 + 0) = nI (E (4 * bk_w D k 0)) := w1'.2.2.2 _ 0 w1 (by omega)
        have q1 : w.1 14 (4 * bk_w D k 1 + 0) = nI (E (4 * bk_w D k 1)) := w1'.2.2.2 _ 0 w2 (by omega)
        refine ⟨rfl, s_X12_cut_40 (by omega) w _ (by rw [i3]; exact n_in _ _) (by rw [i0]; exact n_in _ _) (by rw [i1]; exact n_in _ _) (by rw [r0, j0]; exact n_in _ _) (by rw [r1, j1]; exact n_in _ _) ?_⟩
        rw [r0, r1, r85, j0, j1, n_tn (4 * bk_w D k 0 + 0), n_tn (4 * bk_w D k 1 + 0), q0, q1, n_price (by omega) (by omega), show (2 : Int32) = nI 2 from rfl, n_div (max 1 (dst (E (4 * bk_w D k 0)) (E (4 * bk_w D k 1)))) 2 (by omega) (by unfold prc at hp; omega), show (99 : Int32) = nI 99 from rfl, n_up (D 85) _ 99 (by unfold prc at hp; omega), i3, n_tn (16 + 4 * k + 3)]
        have f1 : fo (fun c i => c = 15) (ax_ui (ax_ui w 15 (16 + 4 * k + 3) 1) 15 85 (nI c')) w := (fo.rfl'.ui (by omega)).ui (by omega)
        exact ⟨rfl, ((fo_SM hf).ui (by unfold SM; omega)).ui (by unfold SM; omega), w1'.chg f1.1 ((w1'.2.2.1.set _ 1).set _ _), hw1.to f1.1 (by omega)⟩
      · rintro u w ⟨fC, hu⟩ ⟨fM, hw⟩
        exact hnext D' _ T _ u w hb' hl' (hpush_ok hh hb hlg) (by omega) fC.1 ⟨by rw [fC.2], by rw [fC.2]⟩ fM.1 hu hw
  · have a1 : ¬ (¬ x < 0 ∧ ¬ σ.1 5 10 ≤ x) := fun z => g ((is_H x (D 84)).mp (by rw [← e10]; exact z))
    have b1 : ¬ (¬ x < (0 : Int32) ∧ ¬ τ.1 15 84 - 1 < x) := fun z => g ((is_Hm x (D 84)).mp (by rw [← e84]; exact z))
    refine good_refuse h (i := 0) (by omega) ?_ ?_
    · refine ax_Ct.of (lv := [some (ax_r 0), some (ax_i x)]) (by decide +kernel) (fun ad => Nat.le_of_ble_eq_true rfl) (fun ad => rfl) ?_
      refine s_X11_cut_0 (d := 59) (by omega) σ _ ?_ ?_ ?_ <;> intros <;> try contradiction
      exact ⟨rfl, rfl⟩
    · refine ax_Ct.of (lv := [some (ax_r 0), some (ax_i x)]) (by decide +kernel) (fun ad => Nat.le_of_ble_eq_true rfl) (fun ad => rfl) ?_
      refine s_X12_cut_0 (d := 59) (by omega) τ _ (fun z => absurd z b1) ?_
      rw [if_neg b1]
      refine (ct_refused (by omega) τ (i := 0) (by omega)).mono (fun r u hu => ⟨_, hu.1, s_X12_cut_31 (by omega) u _ _ (fun z => absurd z (by decide)) (fun _ => ⟨rfl, hu.2⟩)⟩)
/-- salt of the first k wires behind a summer -/
def psK (D : Nat → Nat) (k j : Nat) : Nat := if 16 ≤ j ∧ j < 16 + 4 * k ∧ (j - 16) % 4 = 2 ∧ D (j + 1) ≠ 1 then min 9 (D j + 1) else D j
def psD (D : Nat → Nat) : Nat → Nat := dset (dset (psK D (D 84)) 85 (min 99 (D 85 + 3))) 86 (D 86 + 1)
theorem psK_out {D : Nat → Nat} {k j : Nat} (h : j < 16 ∨ 16 + 4 * k ≤ j ∨ (j - 16) % 4 ≠ 2) : psK D k j = D j := if_neg (by omega)
theorem psK_at (D : Nat → Nat) {k w : Nat} (h : w < k) : psK D k (16 + 4 * w + 2) = if bk_w D w 3 = 1 then bk_w D w 2 else min 9 (bk_w D w 2 + 1) := by
  unfold psK
  by_cases z : bk_w D w 3 = 1
  · rw [if_pos z, if_neg]; exact fun q => q.2.2.2 z
  · rw [if_neg z, if_pos]; exact ⟨by omega, by omega, by omega, z⟩
theorem psD_out {D : Nat → Nat} {j : Nat} (h84 : D 84 ≤ 16) (h : j < 16 ∨ 16 + 4 * D 84 ≤ j ∨ (j - 16) % 4 ≠ 2) (h1 : j ≠ 85) (h2 : j ≠ 86) : psD D j = D j := (dset_ne h2).trans ((dset_ne h1).trans (psK_out h))
theorem psD_at {D : Nat → Nat} (h84 : D 84 ≤ 16) {w : Nat} (h : w < D 84) : bk_w (psD D) w 2 = if bk_w D w 3 = 1 then bk_w D w 2 else min 9 (bk_w D w 2 + 1) :=
  (dset_ne (by omega)).trans ((dset_ne (by omega)).trans (psK_at D h))
theorem psD_85 (D : Nat → Nat) : psD D 85 = min 99 (D 85 + 3) := (dset_ne (by omega)).trans (dset_eq _ _ _)
theorem psD_86 (D : Nat → Nat) : psD D 86 = D 86 + 1 := dset_eq _ _ _
theorem psD_w {D : Nat → Nat} (h84 : D 84 ≤ 16) {w q : Nat} (h : w < D 84) (hq : q < 4) (h2 : q ≠ 2) : bk_w (psD D) w q = bk_w D w q := psD_out h84 (by omega) (by omega) (by omega)
theorem psD_ok {n : Nat} {E D : Nat → Nat} {dry : Nat} (hb : bk_ok n E D dry) (h86 : D 86 + 1 ≤ 999) : bk_ok n E (psD D) dry := by
  have h84 := hb.2.2.2.1
  refine hb.chg (psD_out h84 (by omega) (by omega) (by omega)) (fun h hh => psD_out h84 (by omega) (by omega) (by omega)) (by rw [psD_85]; omega) (by rw [psD_86]; exact h86) (fun w hw => ⟨psD_w h84 hw (by omega) (by omega), psD_w h84 hw (by omega) (by omega), ?_, ?_⟩)
  · rw [psD_at h84 hw]; have := (hb.2.2.2.2.2.2.2.2 w hw).2.2.2.1; split <;> omega
  · rw [psD_w h84 hw (by omega) (by omega)]; exact (hb.2.2.2.2.2.2.2.2 w hw).2.2.2.2
theorem psD_lg {D : Nat → Nat} (h84 : D 84 ≤ 16) (h : lg_ok D) (h86 : D 86 + 1 ≤ 999) : lg_ok (psD D) := by
  refine ⟨by rw [psD_out h84 (by omega) (by omega) (by omega)]; exact h.1, fun j hj => ?_⟩
  unfold psD dset
  split
  · omega
  · split
    · omega
    · unfold psK; split
      · omega
      · exact h.2 j hj
theorem ct_X0_passSummer {d : Nat} (hd : 2 ≤ d) {σ : ax_S} {n : Nat} {E D : Nat → Nat} {dry : Nat} (hok : bk_ok n E D dry) (hC : bk_C σ n E D dry) (hsm : bk_sm σ) :
    ax_Ct shC d mX0_passSummer [ax_r 5] (fun r u => r = none ∧ fo (fun c i => (c = 5 ∧ (i = 11 ∨ i = 12 ∨ i = 14)) ∨ c = 30) u σ ∧ bk_C u n E (psD D) dry ∧ bk_sm u) σ := by
  obtain ⟨d, rfl⟩ : ∃ e, d = e + 1 := ⟨d - 1, by omega⟩
  have hn := hok.2.1
  have h84 := hok.2.2.2.1
  have h85 := hok.2.2.2.2.1
  have h86 := hok.2.2.2.2.2.1
  have e10 : σ.1 5 10 = nI (D 84) := hC.2.1
  refine ax_Ct.of (lv := [some (ax_r 5), none]) (by decide +kernel) (fun ad => Nat.le_of_ble_eq_true rfl) (fun ad => rfl) ?_
  refine s_X0_passSummer_0 (by omega) σ ?_
  have loop := lp_up (m := D 84) (P := fun k => ∀ u, fo (fun c i => c = 30) u σ → (∀ w, w < k → u.1 30 w = nI (bk_w (psD D) w 2)) → (∀ w, k ≤ w → u.1 30 w = σ.1 30 w) → ax_W shC (d + 1) mX0_passSummer (fun r u => r = none ∧ fo (fun c i => (c = 5 ∧ (i = 11 ∨ i = 12 ∨ i = 14)) ∨ c = 30) u σ ∧ bk_C u n E (psD D) dry ∧ bk_sm u) 2 [some (ax_r 5), some (ax_i (nI k))] [] u) ?_ ?_
  · exact loop 0 (by omega) σ fo.rfl' (fun w h => absurd h (by omega)) (fun _ _ => rfl)
  · intro u hf u1 u2
    have g : u.1 5 10 ≤ nI (D 84) := by rw [hf.1 5 10 (by omega), e10]; exact (n_le _ _).mpr (Nat.le_refl _)
    refine s_X0_passSummer_2 (by omega) u _ ?_ ?_ ?_ ?_ <;> intros <;> try contradiction
    rw [hf.1 5 12 (by omega), hf.1 5 14 (by omega), hC.2.2.1, hC.2.2.2.2.1, nI_1, show (3 : Int32) = nI 3 from rfl, show (99 : Int32) = nI 99 from rfl, n_up (D 85) 3 99]
    have f1 : fo (fun c i => (c = 5 ∧ (i = 11 ∨ i = 12 ∨ i = 14)) ∨ c = 30) (ax_ui (ax_ui u 5 12 (nI (min 99 (D 85 + 3)))) 5 14 (nI (D 86 + 1))) σ := ((hf.mono (fun c i h => by omega)).ui (by omega)).ui (by omega)
    refine ⟨rfl, f1, hC.chg f1.1 (psD_out h84 (by omega) (by omega) (by omega)) (fun h hh => psD_out h84 (by omega) (by omega) (by omega)) hn (fun w hw => ⟨psD_w h84 hw (by omega) (by omega), psD_w h84 hw (by omega) (by omega)⟩) (fun w hw => ?_) (fun i hi => ?_) ?_ ?_, sm_salt hsm f1.1 (fun w hw => ?_)⟩
    · rw [ui_cell (by omega), ui_cell (by omega)]; exact u1 w hw
    · rw [ui_idx (by omega), ui_idx (by omega), hf.1 5 11 (by omega), hC.2.2.2.2.2.2.2.1 i hi]
      by_cases z : i < D 84
      · rw [psD_w h84 z (by omega) (by omega)]
      · simp [z]
    · rw [ui_idx (by omega), ui_same, psD_85]
    · rw [ui_same, psD_86]
    · rw [ui_cell (by omega), ui_cell (by omega)]
      by_cases z : w < D 84
      · right; exact ⟨_, ((psD_ok (dry := dry) (n := n) (E := E) (D := dset D 86 0) (by
            refine hok.chg (dset_ne (by omega)) (fun h hh => dset_ne (by omega)) (by rw [dset_ne (by omega)]; exact h85) (by rw [dset_eq]; omega) (fun w hw => ?_)
            obtain ⟨q1, q2, q3, q4, q5⟩ := hok.2.2.2.2.2.2.2.2 w hw
            refine ⟨dset_ne (by omega), dset_ne (by omega), ?_, ?_⟩
            · show dset D 86 0 (16 + 4 * w + 2) ≤ 9; rw [dset_ne (by omega)]; exact q4
            · show dset D 86 0 (16 + 4 * w + 3) ≤ 1; rw [dset_ne (by omega)]; exact q5) (by rw [dset_eq]; omega)) |> fun _ => by
              show bk_w (psD D) w 2 ≤ 9
              rw [psD_at h84 z]; have := (hok.2.2.2.2.2.2.2.2 w z).2.2.2.1; split <;> omega), u1 w z⟩
      · left; exact u2 w (by omega)
  · intro k hk ih u hf u1 u2
    obtain ⟨q1, q2, q3, q4, q5⟩ := hok.2.2.2.2.2.2.2.2 k hk
    have g : ¬ u.1 5 10 ≤ nI k := by rw [hf.1 5 10 (by omega), e10]; exact fun z => absurd ((n_le _ _).mp z) (by omega)
    have hbit : (((u.1 5 11) >>> (nI k &&& 31)) &&& (1 : Int32) = 0) ↔ ¬ bk_w D k 3 = 1 := by
      rw [pn_bitOf0 _ k (by omega), hf.1 5 11 (by omega), hC.2.2.2.2.2.2.2.1 k (by omega)]; simp [hk]
    have hsv : u.1 30 k = nI (bk_w D k 2) := by rw [u2 k (by omega)]; exact (hC.2.2.2.2.2.2.1 k hk).2.2
    refine s_X0_passSummer_2 (by omega) u _ (fun z => absurd z g) (fun _ z => ?_) (fun _ _ => n_in k 17) (fun _ z => ?_)
    · rw [nI_1]
      refine ih u hf (fun w hw => ?_) (fun w hw => u2 w (by omega))
      by_cases e : w = k
      · have z3 : bk_w D k 3 = 1 := Classical.not_not.mp (fun q => z (hbit.mpr q))
        rw [e, psD_at h84 hk, if_pos z3]; exact hsv
      · exact u1 w (by omega)
    · have z3 : ¬ bk_w D k 3 = 1 := hbit.mp (Classical.not_not.mp z)
      rw [nI_1, n_tn k, hsv, show (9 : Int32) = nI 9 from rfl, show (1 : Int32) = nI 1 from rfl, n_up (bk_w D k 2) 1 9]
      refine ih _ (hf.ui rfl) (fun w hw => ?_) (fun w hw => by rw [ui_idx (by omega)]; exact u2 w (by omega))
      by_cases e : w = k
      · rw [e, ui_same, psD_at h84 hk, if_neg z3]
      · rw [ui_idx e]; exact u1 w (by omega)
theorem mD.cong {τ : ax_S} {D D' : Nat → Nat} (h : mD τ D) (e : ∀ j, j < 268 → D' j = D j) : mD τ D' := fun j hj => by rw [e j hj]; exact h j hj
theorem ct_X12_passSummer {d : Nat} (hd : 2 ≤ d) {τ : ax_S} {n : Nat} {E D : Nat → Nat} {dry : Nat} (hok : bk_ok n E D dry) (hm : mD τ D) :
    ax_Ct shM d mX12_passSummer [ax_r 0] (fun r u => r = none ∧ fo (fun c i => c = 15) u τ ∧ mD u (psD D)) τ := by
  obtain ⟨d, rfl⟩ : ∃ e, d = e + 1 := ⟨d - 1, by omega⟩
  have h84 := hok.2.2.2.1
  have h85 := hok.2.2.2.2.1
  have h86 := hok.2.2.2.2.2.1
  refine ax_Ct.of (lv := [some (ax_r 0), none]) (by decide +kernel) (fun ad => Nat.le_of_ble_eq_true rfl) (fun ad => rfl) ?_
  refine s_X12_passSummer_0 (by omega) τ ?_
  have loop := lp_up (m := D 84) (P := fun k => ∀ u, fo (fun c i => c = 15) u τ → mD u (psK D k) → ax_W shM (d + 1) mX12_passSummer (fun r u => r = none ∧ fo (fun c i => c = 15) u τ ∧ mD u (psD D)) 2 [some (ax_r 0), some (ax_i (nI k))] [] u) ?_ ?_
  · exact loop 0 (by omega) τ fo.rfl' (hm.cong (fun j hj => psK_out (by omega)))
  · intro u hf hu
    have e84 : u.1 15 84 = nI (D 84) := by rw [hu 84 (by omega), psK_out (by omega)]
    have e85 : u.1 15 85 = nI (D 85) := by rw [hu 85 (by omega), psK_out (by omega)]
    have e86 : u.1 15 86 = nI (D 86) := by rw [hu 86 (by omega), psK_out (by omega)]
    have g : u.1 15 84 ≤ nI (D 84) := by rw [e84]; exact (n_le _ _).mpr (Nat.le_refl _)
    refine s_X12_passSummer_2 (by omega) u _ ?_ ?_ ?_ ?_ ?_ ?_ <;> intros <;> try contradiction
    rw [e85, e86, nI_1, show (3 : Int32) = nI 3 from rfl, show (99 : Int32) = nI 99 from rfl, n_up (D 85) 3 99]
    exact ⟨rfl, (hf.ui rfl).ui rfl, (hu.set _ _).set _ _⟩
  · intro k hk ih u hf hu
    obtain ⟨q1, q2, q3, q4, q5⟩ := hok.2.2.2.2.2.2.2.2 k hk
    have e84 : u.1 15 84 = nI (D 84) := by rw [hu 84 (by omega), psK_out (by omega)]
    have g : ¬ u.1 15 84 ≤ nI k := by rw [e84]; exact fun z => absurd ((n_le _ _).mp z) (by omega)
    have i3 : (16 : Int32) + 4 * nI k + 3 = nI (16 + 4 * k + 3) := n_w k 3
    have i2 : (16 : Int32) + 4 * nI k + 2 = nI (16 + 4 * k + 2) := n_w k 2
    have m3 : u.1 15 (16 + 4 * k + 3) = nI (bk_w D k 3) := by rw [hu _ (by omega), psK_out (by omega)]
    have m2 : u.1 15 (16 + 4 * k + 2) = nI (bk_w D k 2) := by rw [hu _ (by omega), psK_out (by omega)]
    refine s_X12_passSummer_2 (by omega) u _ ?_ ?_ ?_ ?_ ?_ ?_ <;> intros <;> try contradiction
    · rw [i3]; exact n_in _ _
    · rw [i2]; exact n_in _ _
    · rw [i2]; exact n_in _ _
    · rw [i2]; exact n_in _ _
    · rw [i3, i2, n_tn _, n_tn _, m3, m2, nI_1, show (9 : Int32) = nI 9 from rfl, show (1 : Int32) = nI 1 from rfl, n_up (bk_w D k 2) 1 9]
      have ev : (if (¬ nI (bk_w D k 3) = nI 1) then nI (min 9 (bk_w D k 2 + 1)) else nI (bk_w D k 2)) = nI (psK D (k + 1) (16 + 4 * k + 2)) := by
        rw [psK_at D (Nat.lt_succ_self k)]
        by_cases z : bk_w D k 3 = 1
        · rw [if_pos z, if_neg (not_not_intro (by rw [z]))]
        · rw [if_neg z, if_pos (fun q => z ((n_eq _ _).mp q))]
      rw [ev]
      refine ih _ (hf.ui rfl) ((hu.set _ _).cong (fun j hj => ?_))
      by_cases e : j = 16 + 4 * k + 2
      · rw [e, dset_eq]
      · rw [dset_ne e]
        unfold psK
        by_cases z : 16 ≤ j ∧ j < 16 + 4 * k ∧ (j - 16) % 4 = 2 ∧ D (j + 1) ≠ 1
        · rw [if_pos z, if_pos ⟨z.1, by omega, z.2.2.1, z.2.2.2⟩]
        · rw [if_neg z, if_neg (fun q => z ⟨q.1, by omega, q.2.2.1, q.2.2.2⟩)]
