/-! ===== lay ===== -/
theorem bk_C.laid {u : ax_S} {n : Nat} {E D : Nat → Nat} {dry x y : Nat} (h : bk_C u n E D dry) (ht : th_C u n (D 84) x y) (h84 : D 84 ≤ 15) (h8 : n ≤ 8) : bk_C (ax_ui u 5 10 (nI (D 84 + 1))) n E (thD D x y) dry := by
  obtain ⟨p1, p2, p3, p4, p5, p6, p7, p8, p9⟩ := h
  obtain ⟨t1, t2, t3, t4⟩ := ht
  refine ⟨by rw [ui_idx (by omega)]; exact p1, by rw [ui_same, thD_84], by rw [ui_idx (by omega), thD_ne (by omega) (by omega)]; exact p3, by rw [ui_idx (by omega)]; exact p4, by rw [ui_idx (by omega), thD_ne (by omega) (by omega)]; exact p5, fun h hh => ?_, fun w hw => ?_, fun i hi => ?_, fun h hh w hw => ?_⟩
  · rw [ui_cell (by omega), ui_cell (by omega), ui_cell (by omega), ui_cell (by omega), ui_cell (by omega), thD_ne (by omega) (by omega), thD_ne (by omega) (by omega)]; exact p6 h hh
  · rw [ui_cell (by omega), ui_cell (by omega), ui_cell (by omega)]
    rw [thD_84] at hw
    by_cases e : w = D 84
    · rw [e, t1, t2, t3]
      refine ⟨?_, ?_, ?_⟩
      · show nI x = nI (thD D x y (16 + 4 * D 84)); rw [thD_0 x y (by omega)]
      · show nI y = nI (thD D x y (16 + 4 * D 84 + 1)); rw [thD_1 x y (by omega)]
      · show (0 : Int32) = nI (thD D x y (16 + 4 * D 84 + 2)); rw [thD_2 x y (by omega)]; rfl
    · rw [thD_w (by omega) (by omega) (by omega), thD_w (by omega) (by omega) (by omega), thD_w (by omega) (by omega) (by omega)]; exact p7 w (by omega)
  · rw [ui_idx (by omega), p8 i hi, thD_84]
    by_cases e : i = D 84
    · have : bk_w (thD D x y) i 3 = 0 := by rw [e]; exact thD_3 x y (by omega)
      rw [this]; simp [e]
    · by_cases z : i < D 84
      · rw [thD_w (by omega) z (by omega)]
        have : i < D 84 + 1 := by omega
        simp [z, this]
      · have : ¬ i < D 84 + 1 := by omega
        simp [z, this]
  · rw [ui_cell (by omega)]
    rw [thD_84] at hw
    by_cases e : w = D 84
    · rw [e, t4 h hh]
      have a0 : bk_w (thD D x y) (D 84) 0 = x := thD_0 x y (by omega)
      have a1 : bk_w (thD D x y) (D 84) 1 = y := thD_1 x y (by omega)
      rw [a0, a1]
    · rw [thD_w (by omega) (by omega) (by omega), thD_w (by omega) (by omega) (by omega)]; exact p9 h hh w (by omega)
theorem thD_ok {n : Nat} {E D : Nat → Nat} {dry x y : Nat} (h : bk_ok n E D dry) (h84 : D 84 ≤ 15) (hx : x < n) (hy : y < n) (hxy : x ≠ y) : bk_ok n E (thD D x y) dry := by
  obtain ⟨p1, p2, p3, p4, p5, p6, p7, p8, p9⟩ := h
  refine ⟨p1, p2, p3, by rw [thD_84]; omega, by rw [thD_ne (by omega) (by omega)]; exact p5, by rw [thD_ne (by omega) (by omega)]; exact p6, fun z => absurd z (by omega), fun h hh => ?_, fun w hw => ?_⟩
  · rw [thD_ne (by omega) (by omega), thD_ne (by omega) (by omega)]; exact p8 h hh
  · rw [thD_84] at hw
    by_cases e : w = D 84
    · have a0 : bk_w (thD D x y) w 0 = x := by rw [e]; exact thD_0 x y (by omega)
      have a1 : bk_w (thD D x y) w 1 = y := by rw [e]; exact thD_1 x y (by omega)
      have a2 : bk_w (thD D x y) w 2 = 0 := by rw [e]; exact thD_2 x y (by omega)
      have a3 : bk_w (thD D x y) w 3 = 0 := by rw [e]; exact thD_3 x y (by omega)
      rw [a0, a1, a2, a3]; exact ⟨hx, hy, hxy, by omega, by omega⟩
    · rw [thD_w (by omega) (by omega) (by omega), thD_w (by omega) (by omega) (by omega), thD_w (by omega) (by omega) (by omega), thD_w (by omega) (by omega) (by omega)]; exact p9 w (by omega)
theorem thD_lg {D : Nat → Nat} {x y : Nat} (h : lg_ok D) (h84 : D 84 ≤ 16) (hx : x < 8) (hy : y < 8) : lg_ok (thD D x y) := by
  refine ⟨by rw [thD_ne (by omega) (by omega)]; exact h.1, fun j hj => ?_⟩
  unfold thD
  repeat' split
  all_goals first | omega | exact h.2 j hj
theorem dset85_ok {n : Nat} {E D : Nat → Nat} {dry c : Nat} (h : bk_ok n E D dry) (hc : c ≤ 99) : bk_ok n E (dset D 85 c) dry := by
  have h84 := h.2.2.2.1
  refine h.chg (dset_ne (by omega)) (fun h hh => dset_ne (by omega)) (by rw [dset_eq]; exact hc) (by rw [dset_ne (by omega)]; exact h.2.2.2.2.2.1) (fun w hw => ⟨dset_ne (by omega), dset_ne (by omega), ?_, ?_⟩)
  · show dset D 85 c (16 + 4 * w + 2) ≤ 9; rw [dset_ne (by omega)]; exact (h.2.2.2.2.2.2.2.2 w hw).2.2.2.1
  · show dset D 85 c (16 + 4 * w + 3) ≤ 1; rw [dset_ne (by omega)]; exact (h.2.2.2.2.2.2.2.2 w hw).2.2.2.2
theorem dset85_C {u : ax_S} {n : Nat} {E D : Nat → Nat} {dry c : Nat} (hn : n ≤ 8) (h84 : D 84 ≤ 16) (h : bk_C u n E D dry) : bk_C (ax_ui u 5 12 (nI c)) n E (dset D 85 c) dry := by
  have f1 : fk (fun c i => (c = 5 ∧ (i = 11 ∨ i = 12 ∨ i = 14)) ∨ c = 30) (ax_ui u 5 12 (nI c)) u := (fo.rfl'.ui (by omega) : fo (fun c i => (c = 5 ∧ (i = 11 ∨ i = 12 ∨ i = 14)) ∨ c = 30) _ u).1
  refine h.chg f1 (dset_ne (by omega)) (fun h hh => dset_ne (by omega)) hn (fun w hw => ⟨dset_ne (by omega), dset_ne (by omega)⟩) (fun w hw => ?_) (fun i hi => ?_) (by rw [ui_same, dset_eq]) (by rw [ui_idx (by omega), dset_ne (by omega)]; exact h.2.2.2.2.1)
  · rw [ui_cell (by omega)]; show u.1 30 w = nI (dset D 85 c (16 + 4 * w + 2)); rw [dset_ne (by omega)]; exact (h.2.2.2.2.2.2.1 w hw).2.2
  · rw [ui_idx (by omega), h.2.2.2.2.2.2.2.1 i hi]
    by_cases z : i < D 84
    · have : bk_w (dset D 85 c) i 3 = bk_w D i 3 := dset_ne (by omega)
      rw [this]
    · simp [z]
theorem dset85_lg {D : Nat → Nat} {c : Nat} (h : lg_ok D) (hc : c ≤ 99) : lg_ok (dset D 85 c) := by
  refine ⟨by rw [dset_ne (by omega)]; exact h.1, fun j hj => ?_⟩
  unfold dset; split
  · omega
  · exact h.2 j hj
set_option maxHeartbeats 2000000 in
theorem good_lay {j : Nat} {σ τ : ax_S} (hj : j ≤ 1000) (h : RR j σ τ) (xa ya : Int32) : good j mX11_lay mX12_lay [ax_i xa, ax_i ya] σ τ := by
  obtain ⟨n, E, D, dry, lw, ho, L, a, T, H, hb, hlg, -, hh, hT, hCB, hMB, -, -, hnext⟩ := h.belt
  have hn := hb.2.1
  have h84 := hb.2.2.2.1
  have h85 := hb.2.2.2.2.1
  have e9 : σ.1 5 9 = nI n := hCB.1.1
  have e23 : τ.1 0 23 = nI n := hMB.1.1
  have e10 : σ.1 5 10 = nI (D 84) := hCB.1.2.1
  have e12 : σ.1 5 12 = nI (D 85) := hCB.1.2.2.1
  have e84 : τ.1 15 84 = nI (D 84) := hMB.1.2.2.1 84 (by omega)
  have e85 : τ.1 15 85 = nI (D 85) := hMB.1.2.2.1 85 (by omega)
  have mref : ∀ i, i < 5 → ax_W shM (59 + 1) mX12_lay (fun r u => r = some (ax_i (-1)) ∧ u = ax_ui τ 16 i (τ.1 16 i + 1)) 7 [some (ax_r 0), some (ax_i xa), some (ax_i ya)] [ax_i (nI i), ax_r 0] τ := fun i hi => by
    refine s_X12_lay_7 (by omega) τ _ _ _ ?_
    exact (ct_refused (by omega) τ hi).mono (fun r u hu => ⟨_, hu.1, s_X12_lay_10 (by omega) u _ _ _ (fun z => absurd z (by decide)) (fun _ => ⟨rfl, hu.2⟩)⟩)
  by_cases g : (∃ k, k < n ∧ xa = nI k) ∧ (∃ k, k < n ∧ ya = nI k) ∧ ¬ xa = ya
  · obtain ⟨⟨x, hx, rfl⟩, ⟨y, hy, rfl⟩, hne⟩ := g
    have hxy : x ≠ y := fun e => hne (by rw [e])
    have a1 : ((¬ (nI x < 0)) ∧ (¬ (σ.1 5 9 ≤ nI x))) ∧ (((¬ (nI y < 0)) ∧ (¬ (σ.1 5 9 ≤ nI y))) ∧ (¬ (nI x = nI y))) := by
      rw [e9]; exact ⟨(is_H (nI x) n).mpr ⟨x, hx, rfl⟩, (is_H (nI y) n).mpr ⟨y, hy, rfl⟩, hne⟩
    have bx := hb.2.2.2.2.2.2.2.1 x hx
    have by' := hb.2.2.2.2.2.2.2.1 y hy
    have hp := prc_b (E := E) bx.1 by'.1
    have mw := ct_X12_whyNot (d := 59) (by omega) hb hMB.1 hx hy hxy
    have cj := ct_X0_mayJoin (d := 59) (by omega) hb hCB.1 hx hy
    have hpr : ∀ u, bk_C u n E D dry → (if (1 : Int32) < (if (0 : Int32) ≤ (u.1 23 (Int32.toNatClampNeg (nI x)) - u.1 23 (Int32.toNatClampNeg (nI y))) then (u.1 23 (Int32.toNatClampNeg (nI x)) - u.1 23 (Int32.toNatClampNeg (nI y))) else 0 - (u.1 23 (Int32.toNatClampNeg (nI x)) - u.1 23 (Int32.toNatClampNeg (nI y)))) then (if (0 : Int32) ≤ (u.1 23 (Int32.toNatClampNeg (nI x)) - u.1 23 (Int32.toNatClampNeg (nI y))) then (u.1 23 (Int32.toNatClampNeg (nI x)) - u.1 23 (Int32.toNatClampNeg (nI y))) else 0 - (u.1 23 (Int32.toNatClampNeg (nI x)) - u.1 23 (Int32.toNatClampNeg (nI y)))) else (1 : Int32)) = nI (prc E x y) := fun u hu => by
      rw [n_tn x, n_tn y, (hu.2.2.2.2.2.1 x hx).1, (hu.2.2.2.2.2.1 y hy).1, n_price (by omega) (by omega)]; rfl
    by_cases g2 : (chap E x y || tied D x y (D 84)) = true ∨ D 84 = 16
    · have hw : why E D x y = 2 := by
        unfold why; rw [if_pos]
        rcases g2 with q | q
        · rw [Bool.or_comm] at q; rw [q]; rfl
        · simp [q]
      refine good_refuse h (i := 2) (by omega) ?_ ?_
      · refine ax_Ct.of (lv := [some (ax_r 0), some (ax_i (nI x)), some (ax_i (nI y))]) (by decide +kernel) (fun ad => Nat.le_of_ble_eq_true rfl) (fun ad => rfl) ?_
        refine s_X11_lay_0 (d := 59) (by omega) σ _ _ ?_ ?_ <;> intros <;> try contradiction
        refine cj.mono (fun r u hu => ⟨_, hu.1, ?_⟩)
        obtain ⟨-, rfl⟩ := hu
        have q16 : ¬ (if (chap E x y || tied D x y (D 84)) = true then (0 : Int32) else 1) = 0 → ¬ u.1 5 10 < (16 : Int32) := fun z z2 => by
          rw [e10] at z2
          have z3 := (n_lt (D 84) 16).mp z2
          rcases g2 with q | q
          · rw [if_pos q] at z; exact z rfl
          · omega
        exact s_X11_lay_24 (by omega) u _ _ _ (fun _ => ⟨rfl, rfl⟩) (fun z z2 => absurd z2 (q16 z)) (fun z z2 => absurd z2 (q16 z)) (fun z z2 => absurd z2 (q16 z)) (fun z z2 => absurd z2 (q16 z)) (fun _ _ => ⟨rfl, rfl⟩)
      · refine ax_Ct.of (lv := [some (ax_r 0), some (ax_i (nI x)), some (ax_i (nI y))]) (by decide +kernel) (fun ad => Nat.le_of_ble_eq_true rfl) (fun ad => rfl) ?_
        refine s_X12_lay_0 (d := 59) (by omega) τ _ _ (mw.mono (fun r u hu => ⟨_, hu.1, ?_⟩))
        rw [hu.2, hw]; exact mref 2 (by omega)
    · have q1 : (chap E x y || tied D x y (D 84)) = false := by
        cases q : (chap E x y || tied D x y (D 84))
        · rfl
        · exact absurd (Or.inl q) g2
      have q2 : D 84 < 16 := by
        have : ¬ D 84 = 16 := fun q => g2 (Or.inr q)
        omega
      have z1 : ¬ (if (chap E x y || tied D x y (D 84)) = true then (0 : Int32) else 1) = 0 := by rw [q1]; decide
      have z2 : σ.1 5 10 < (16 : Int32) := by rw [e10]; exact (n_lt (D 84) 16).mpr q2
      by_cases g4 : D 85 < prc E x y
      · have hw : why E D x y = 4 := by
          unfold why; rw [if_neg, if_pos g4]
          rw [Bool.or_comm (tied D x y (D 84)), q1]; simp; omega
        refine good_refuse h (i := 4) (by omega) ?_ ?_
        · refine ax_Ct.of (lv := [some (ax_r 0), some (ax_i (nI x)), some (ax_i (nI y))]) (by decide +kernel) (fun ad => Nat.le_of_ble_eq_true rfl) (fun ad => rfl) ?_
          refine s_X11_lay_0 (d := 59) (by omega) σ _ _ ?_ ?_ <;> intros <;> try contradiction
          refine cj.mono (fun r u hu => ⟨_, hu.1, ?_⟩)
          obtain ⟨-, rfl⟩ := hu
          have z3 : ¬ nI (prc E x y) ≤ u.1 5 12 := by rw [e12]; exact fun z => absurd ((n_le _ _).mp z) (by omega)
          have z4 := z3
          rw [← hpr u hCB.1] at z4
          refine s_X11_lay_24 (by omega) u _ _ _ ?_ ?_ ?_ ?_ ?_ ?_ <;> intros <;> try contradiction
          · exact n_in x 8
          · exact n_in y 8
          · exact ⟨rfl, rfl⟩
        · refine ax_Ct.of (lv := [some (ax_r 0), some (ax_i (nI x)), some (ax_i (nI y))]) (by decide +kernel) (fun ad => Nat.le_of_ble_eq_true rfl) (fun ad => rfl) ?_
          refine s_X12_lay_0 (d := 59) (by omega) τ _ _ (mw.mono (fun r u hu => ⟨_, hu.1, ?_⟩))
          rw [hu.2, hw]; exact mref 4 (by omega)
      · have hw : why E D x y = 9 := by
          unfold why; rw [if_neg, if_neg g4]
          rw [Bool.or_comm (tied D x y (D 84)), q1]; simp; omega
        have z3 : nI (prc E x y) ≤ σ.1 5 12 := by rw [e12]; exact (n_le _ _).mpr (by omega)
        let D1 := dset D 85 (D 85 - prc E x y)
        have d84 : D1 84 = D 84 := dset_ne (by omega)
        have hb1 : bk_ok n E D1 dry := dset85_ok hb (by omega)
        have hl1 : lg_ok D1 := dset85_lg hlg (by omega)
        have hb' : bk_ok n E (thD D1 x y) dry := thD_ok hb1 (by rw [d84]; omega) hx hy hxy
        have hl' : lg_ok (thD D1 x y) := thD_lg hl1 (by rw [d84]; omega) (by omega) (by omega)
        refine ⟨nI (D 84), (fun u => fo SB u σ ∧ CB u n E (thD D1 x y) dry (min 40 (a + 1)) T (hpush a H D)), (fun w => fo SM w τ ∧ MB w n E (thD D1 x y) dry (min 40 (a + 1)) (hpush a H D)), ?_, ?_, ?_⟩
        · refine ax_Ct.of (lv := [some (ax_r 0), some (ax_i (nI x)), some (ax_i (nI y))]) (by decide +kernel) (fun ad => Nat.le_of_ble_eq_true rfl) (fun ad => rfl) ?_
          refine s_X11_lay_0 (d := 59) (by omega) σ _ _ ?_ ?_ <;> intros <;> try contradiction
          refine cj.mono (fun r u hu => ⟨_, hu.1, ?_⟩)
          obtain ⟨-, rfl⟩ := hu
          have z4 := z3
          rw [← hpr u hCB.1] at z4
          refine s_X11_lay_24 (by omega) u _ _ _ ?_ ?_ ?_ ?_ ?_ ?_ <;> intros <;> try contradiction
          · exact n_in x 8
          · exact n_in y 8
          refine (ct_X11_remember (by omega) hb hCB.1 hCB.2.1 hh.1 hCB.2.2).mono ?_
          rintro r v ⟨rfl, hf, hR⟩
          obtain ⟨v1, v2⟩ := hCB.kept hf
          refine ⟨rfl, s_X11_lay_74 (by omega) v _ _ (n_in x 8) (n_in y 8) ?_⟩
          rw [hpr v v1, v1.2.2.1, n_sub (D 85) (prc E x y)]
          have f1 : fo (fun c i => c = 5 ∧ i = 12) (ax_ui v 5 12 (nI (D 85 - prc E x y))) v := fo.rfl'.ui (by omega)
          refine (ct_X0_think (by omega) hb1 (dset85_C hn h84 v1) (v2.to f1.1 (by omega)) hx hy).mono ?_
          rintro r w ⟨rfl, hw, w1, w2, w3⟩
          refine ⟨rfl, s_X11_lay_104 (by omega) w ?_⟩
          rw [w1.2.1, d84, nI_1, show nI (D 84 + 1) - 1 = nI (D 84) from n_sub (D 84 + 1) 1]
          have w4 := w1.laid w3 (by rw [d84]; omega) hn
          rw [d84] at w4
          have f2 : fo (fun c i => c = 5 ∧ i = 10) (ax_ui w 5 10 (nI (D 84 + 1))) w := fo.rfl'.ui (by omega)
          refine ⟨rfl, ((f2.mono (fun c i h => by unfold SB rd_S; omega)).trans (hw.mono (fun c i h => by unfold SB rd_S; omega))).trans ((f1.mono (fun c i h => by unfold SB rd_S; omega)).trans (fo_SB hf)), w4, w2.to f2.1 (by omega), hR.next (fun j hj => ?_) (fun c i hc => ?_)⟩
          · rw [thD_ne (by omega) (by omega)]; exact dset_ne (by omega)
          · rw [f2.1 c i (by omega), hw.1 c i (by omega), f1.1 c i (by omega)]
        · refine ax_Ct.of (lv := [some (ax_r 0), some (ax_i (nI x)), some (ax_i (nI y))]) (by decide +kernel) (fun ad => Nat.le_of_ble_eq_true rfl) (fun ad => rfl) ?_
          refine s_X12_lay_0 (d := 59) (by omega) τ _ _ (mw.mono (fun r u hu => ⟨_, hu.1, ?_⟩))
          obtain ⟨-, rfl⟩ := hu
          rw [hw]
          refine s_X12_lay_7 (by omega) u _ _ _ ?_
          refine (ct_allowed (by omega) u).mono (fun r v hv => ⟨_, hv.1, ?_⟩)
          obtain ⟨-, rfl⟩ := hv
          refine s_X12_lay_10 (by omega) v _ _ _ (fun _ => ?_) (fun z => absurd rfl z)
          refine (ct_X12_keep (by omega) hh.1 hMB.1.2.2.1 hMB.2).mono ?_
          rintro r w ⟨rfl, hf, hw1⟩
          have w1 := hMB.kept hf
          have i84 : w.1 15 84 = nI (D 84) := w1.2.2.1 84 (by omega)
          have i0 : (16 : Int32) + 4 * nI (D 84) + 0 = nI (16 + 4 * D 84 + 0) := n_w _ 0
          have i1 : (16 : Int32) + 4 * nI (D 84) + 1 = nI (16 + 4 * D 84 + 1) := n_w _ 1
          have i2 : (16 : Int32) + 4 * nI (D 84) + 2 = nI (16 + 4 * D 84 + 2) := n_w _ 2
          have i3 : (16 : Int32) + 4 * nI (D 84) + 3 = nI (16 + 4 * D 84 + 3) := n_w _ 3
          have ix0 : (4 : Int32) * nI x + 0 = nI (4 * x + 0) := n_h x 0
          have iy0 : (4 : Int32) * nI y + 0 = nI (4 * y + 0) := n_h y 0
          have ex0 : w.1 14 (4 * x + 0) = nI (E (4 * x)) := w1.2.2.2 x 0 hx (by omega)
          have ey0 : w.1 14 (4 * y + 0) = nI (E (4 * y)) := w1.2.2.2 y 0 hy (by omega)
          refine ⟨rfl, s_X12_lay_19 (by omega) w _ _ (by rw [ix0]; exact n_in _ _) (by rw [iy0]; exact n_in _ _) (by rw [i84, i0]; exact n_in _ _) (by rw [i84, i1]; exact n_in _ _) (by rw [i84, i2]; exact n_in _ _) (by rw [i84, i3]; exact n_in _ _) ?_⟩
          rw [i84, i0, i1, i2, i3, ix0, iy0, n_tn (4 * x + 0), n_tn (4 * y + 0), n_tn (16 + 4 * D 84 + 0), n_tn (16 + 4 * D 84 + 1), n_tn (16 + 4 * D 84 + 2), n_tn (16 + 4 * D 84 + 3), ex0, ey0, n_price (by omega) (by omega), w1.2.2.1 85 (by omega), n_sub (D 85) _ (by unfold prc at g4; omega), nI_1]
          have mm := ((((((w1.2.2.1.set 85 (D 85 - prc E x y)).set 84 (D 84 + 1)).set (16 + 4 * D 84 + 0) x).set (16 + 4 * D 84 + 1) y).set (16 + 4 * D 84 + 2) 0).set (16 + 4 * D 84 + 3) 0)
          have f1 : fo (fun c i => c = 15) (ax_ui (ax_ui (ax_ui (ax_ui (ax_ui (ax_ui w 15 85 (nI (D 85 - prc E x y))) 15 84 (nI (D 84 + 1))) 15 (16 + 4 * D 84 + 0) (nI x)) 15 (16 + 4 * D 84 + 1) (nI y)) 15 (16 + 4 * D 84 + 2) 0) 15 (16 + 4 * D 84 + 3) 0) w := (((((fo.rfl'.ui (by omega)).ui (by omega)).ui (by omega)).ui (by omega)).ui (by omega)).ui (by omega)
          refine ⟨rfl, (f1.mono (fun c i h => by unfold SM; omega)).trans (fo_SM hf), w1.chg f1.1 (mm.cong (fun j hj => ?_)), hw1.to f1.1 (by omega)⟩
          show thD (dset D 85 (D 85 - prc E x y)) x y j = _
          unfold thD
          rw [show dset D 85 (D 85 - prc E x y) 84 = D 84 from dset_ne (by omega)]
          unfold dset
          repeat' split
          all_goals first | rfl | omega
        · rintro u w ⟨fC, hu⟩ ⟨fM, hw⟩
          exact hnext _ _ T _ u w hb' hl' (hpush_ok hh hb hlg) (by omega) fC.1 ⟨by rw [fC.2], by rw [fC.2]⟩ fM.1 hu hw
  · have a1 : ¬ (((¬ (xa < 0)) ∧ (¬ (σ.1 5 9 ≤ xa))) ∧ (((¬ (ya < 0)) ∧ (¬ (σ.1 5 9 ≤ ya))) ∧ (¬ (xa = ya)))) := by
      rw [e9]; exact fun z => g ⟨(is_H xa n).mp z.1, (is_H ya n).mp z.2.1, z.2.2⟩
    have b1 : (¬ xa < (0 : Int32) ∧ ¬ τ.1 0 23 - 1 < xa) → (¬ ya < (0 : Int32) ∧ ¬ τ.1 0 23 - 1 < ya) → ¬ ¬ xa = ya := by
      rw [e23]; exact fun z1 z2 z3 => g ⟨(is_Hm xa n).mp z1, (is_Hm ya n).mp z2, z3⟩
    refine good_refuse h (i := 0) (by omega) ?_ ?_
    · refine ax_Ct.of (lv := [some (ax_r 0), some (ax_i xa), some (ax_i ya)]) (by decide +kernel) (fun ad => Nat.le_of_ble_eq_true rfl) (fun ad => rfl) ?_
      refine s_X11_lay_0 (d := 59) (by omega) σ _ _ ?_ ?_ <;> intros <;> try contradiction
      exact ⟨rfl, rfl⟩
    · refine ax_Ct.of (lv := [some (ax_r 0), some (ax_i xa), some (ax_i ya)]) (by decide +kernel) (fun ad => Nat.le_of_ble_eq_true rfl) (fun ad => rfl) ?_
      refine s_X12_lay_0 (d := 59) (by omega) τ _ _ ?_
      refine ax_Ct.of (lv := [some (ax_r 0), some (ax_i xa), some (ax_i ya)]) (by decide +kernel) (fun ad => Nat.le_of_ble_eq_true rfl) (fun ad => rfl) ?_
      exact s_X12_whyNot_0 (d := 58) (by omega) τ _ _ (fun _ => ⟨_, rfl, mref 0 (by omega)⟩) (fun _ _ => ⟨_, rfl, mref 0 (by omega)⟩) (fun z1 z2 z3 => absurd z3 (b1 z1 z2)) (fun _ _ _ => ⟨_, rfl, mref 0 (by omega)⟩)
