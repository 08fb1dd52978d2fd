/-! ===== ground, scrape, cut ===== -/
def dset (D : Nat → Nat) (i v : Nat) (j : Nat) : Nat := if j = i then v else D j
theorem dset_eq (D : Nat → Nat) (i v : Nat) : dset D i v i = v := if_pos rfl
theorem dset_ne {D : Nat → Nat} {i v j : Nat} (h : j ≠ i) : dset D i v j = D j := if_neg h
theorem mD.set {τ : ax_S} {D : Nat → Nat} (h : mD τ D) (i v : Nat) : mD (ax_ui τ 15 i (nI v)) (dset D i v) := fun j hj => by
  by_cases e : j = i
  · rw [e, ui_same, dset_eq]
  · rw [ui_idx e, dset_ne e]; exact h j hj
def prc (E : Nat → Nat) (a b : Nat) : Nat := max 1 (dst (E (4 * a)) (E (4 * b)))
theorem n_price {a b : Nat} (ha : a < 1000) (hb : b < 1000) : (if (1 : Int32) < (if (0 : Int32) ≤ nI a - nI b then nI a - nI b else 0 - (nI a - nI b)) then (if (0 : Int32) ≤ nI a - nI b then nI a - nI b else 0 - (nI a - nI b)) else (1 : Int32)) = nI (max 1 (dst a b)) := by
  rw [dst_abs ha hb]
  exact n_max 1 (dst a b) (by omega) (by unfold dst; split <;> omega)
theorem prc_b {E : Nat → Nat} {a b : Nat} (ha : E (4 * a) ≤ 20) (hb : E (4 * b) ≤ 20) : 1 ≤ prc E a b ∧ prc E a b ≤ 20 := by
  unfold prc dst; split <;> omega
/-- what stands behind remember and keep -/
theorem CB.kept {σ u : ax_S} {n : Nat} {E D : Nat → Nat} {dry a T : Nat} {H : Nat → Nat → Nat} (h : CB σ n E D dry a T H) (hf : fo (fun c _ => c = 36 ∨ c = 7) u σ) : bk_C u n E D dry ∧ bk_sm u := ⟨h.1.to hf.1 (by omega), h.2.1.to hf.1 (by omega)⟩
theorem MB.kept {τ w : ax_S} {n : Nat} {E D : Nat → Nat} {dry a : Nat} {H : Nat → Nat → Nat} (h : MB τ n E D dry a H) (hf : fo (fun c i => c = 21 ∨ (c = 0 ∧ i = 37)) w τ) : bk_M w n E D dry := h.1.to hf.1 (by omega)
theorem fo_SB {u σ : ax_S} (h : fo (fun c _ => c = 36 ∨ c = 7) u σ) : fo SB u σ := h.mono (fun c i h => by unfold SB; omega)
theorem fo_SM {w τ : ax_S} (h : fo (fun c i => c = 21 ∨ (c = 0 ∧ i = 37)) w τ) : fo SM w τ := h.mono (fun c i h => by unfold SM; omega)
theorem good_refuse {j : Nat} {C M : ax_M} {As : List ax_V} {σ τ : ax_S} (h : RR j σ τ) {i : Nat} (hi : i < 5) (hC : ax_Ct shC 60 C (ax_r 0 :: As) (fun r u => r = some (ax_i (-1)) ∧ u = ax_ui σ 13 i (σ.1 13 i + 1)) σ) (hM : ax_Ct shM 60 M (ax_r 0 :: As) (fun r u => r = some (ax_i (-1)) ∧ u = ax_ui τ 16 i (τ.1 16 i + 1)) τ) : good j C M As σ τ :=
  ⟨-1, _, _, hC, hM, fun u w hu hw => by rw [hu, hw]; exact h.refuse hi⟩
set_option maxHeartbeats 1000000 in
theorem good_ground {j : Nat} {σ τ : ax_S} (hj : j ≤ 1000) (h : RR j σ τ) (x : Int32) : good j mX11_ground mX12_ground [ax_i x] σ τ := by
  obtain ⟨n, E, D, dry, lw, ho, L, a, T, H, hb, hlg, -, hh, hT, hCB, hMB, -, -, hnext⟩ := h.belt
  have hn := hb.2.1
  have e9 : σ.1 5 9 = nI n := hCB.1.1
  have e23 : τ.1 0 23 = nI n := hMB.1.1
  have e12 : σ.1 5 12 = nI (D 85) := hCB.1.2.2.1
  have e85 : τ.1 15 85 = nI (D 85) := hMB.1.2.2.1 85 (by omega)
  have h85 := hb.2.2.2.2.1
  by_cases g : ∃ k, k < n ∧ x = nI k
  · obtain ⟨k, hk, rfl⟩ := g
    have a1 : ¬ nI k < 0 ∧ ¬ σ.1 5 9 ≤ nI k := by rw [e9]; exact (is_H (nI k) n).mpr ⟨k, hk, rfl⟩
    have b1 : ¬ nI k < (0 : Int32) ∧ ¬ τ.1 0 23 - 1 < nI k := by rw [e23]; exact (is_Hm (nI k) n).mpr ⟨k, hk, rfl⟩
    by_cases g5 : 5 ≤ D 85
    · have a2 : (5 : Int32) ≤ σ.1 5 12 := by rw [e12]; exact (n_le 5 _).mpr g5
      have b2 : (5 : Int32) ≤ τ.1 15 85 := by rw [e85]; exact (n_le 5 _).mpr g5
      have bk := hb.2.2.2.2.2.2.2.1 k hk
      let D' := dset (dset D k (min 99 (D k + 10))) 85 (D 85 - 5)
      have d0 : ∀ j, j ≠ k → j ≠ 85 → D' j = D j := fun j h1 h2 => (dset_ne h2).trans (dset_ne h1)
      have d1 : D' k = min 99 (D k + 10) := (dset_ne (by omega)).trans (dset_eq _ _ _)
      have d2 : D' 85 = D 85 - 5 := dset_eq _ _ _
      have hw : ∀ w q, bk_w D' w q = if 16 + 4 * w + q = 85 then D 85 - 5 else bk_w D w q := fun w q => by
        show dset (dset D k (min 99 (D k + 10))) 85 (D 85 - 5) (16 + 4 * w + q) = _
        unfold dset
        by_cases z : 16 + 4 * w + q = 85
        · rw [if_pos z, if_pos z]
        · rw [if_neg z, if_neg z, if_neg (by omega)]
      have hw' : ∀ w q, w < D 84 → q < 4 → bk_w D' w q = bk_w D w q := fun w q hw8 hq => by rw [hw, if_neg (by have := hb.2.2.2.1; omega)]
      have h84 : D' 84 = D 84 := d0 84 (by omega) (by omega)
      have hb' : bk_ok n E D' dry := by
        obtain ⟨p1, p2, p3, p4, p5, p6, p7, p8, p9⟩ := hb
        refine ⟨p1, p2, p3, by rw [h84]; exact p4, by rw [d2]; omega, by rw [d0 86 (by omega) (by omega)]; exact p6, by rw [h84]; exact p7, fun h hh => ?_, fun w hw8 => ?_⟩
        · obtain ⟨q1, q2, q3, q4, q5, q6, q7⟩ := p8 h hh
          refine ⟨q1, q2, q3, q4, ?_⟩
          rw [d0 (8 + h) (by omega) (by omega)]
          by_cases e : h = k
          · rw [e, d1]; rw [e] at q5 q6 q7; exact ⟨by omega, by omega, q7⟩
          · rw [d0 h e (by omega)]; exact ⟨q5, q6, q7⟩
        · rw [h84] at hw8
          rw [hw' w 0 hw8 (by omega), hw' w 1 hw8 (by omega), hw' w 2 hw8 (by omega), hw' w 3 hw8 (by omega)]; exact p9 w hw8
      have hl' : lg_ok D' := by
        refine ⟨by rw [d0 87 (by omega) (by omega)]; exact hlg.1, fun j hj => ?_⟩
        by_cases e1 : j = 85
        · rw [e1, d2]; omega
        · by_cases e2 : j = k
          · rw [e2, d1]; omega
          · rw [d0 j e2 e1]; exact hlg.2 j hj
      refine ⟨nI (min 99 (D k + 10)), (fun u => fo SB u σ ∧ CB u n E D' dry (min 40 (a + 1)) T (hpush a H D)), (fun w => fo SM w τ ∧ MB w n E D' dry (min 40 (a + 1)) (hpush a H D)), ?_, ?_, ?_⟩
      · refine ax_Ct.of (lv := [some (ax_r 0), some (ax_i (nI k))]) (by decide +kernel) (fun ad => Nat.le_of_ble_eq_true rfl) (fun ad => rfl) ?_
        refine s_X11_ground_0 (d := 59) (by omega) σ _ ?_ ?_ ?_ <;> intros <;> try contradiction
        refine (ct_X11_remember (by omega) hb hCB.1 hCB.2.1 hh.1 hCB.2.2).mono ?_
        rintro r u ⟨rfl, hf, hR⟩
        obtain ⟨u1, u2⟩ := hCB.kept hf
        refine ⟨rfl, s_X11_ground_35 (by omega) u _ (n_in k 8) ?_⟩
        have ev : (if u.1 25 k + (10 : Int32) < (99 : Int32) then u.1 25 k + (10 : Int32) else (99 : Int32)) = nI (min 99 (D k + 10)) := by
          rw [(u1.2.2.2.2.2.1 k hk).2.2.2.1, show (10 : Int32) = nI 10 from rfl, n_add]
          exact n_min 99 (D k + 10)
        have e5 : u.1 5 12 - (5 : Int32) = nI (D 85 - 5) := by rw [u1.2.2.1]; exact n_sub (D 85) 5
        rw [n_tn k, ev, e5, ui_same]
        have f1 : fo (fun c i => (c = 5 ∧ i = 12) ∨ c = 25) (ax_ui (ax_ui u 5 12 (nI (D 85 - 5))) 25 k (nI (min 99 (D k + 10)))) u := (fo.rfl'.ui (by omega)).ui (by omega)
        refine ⟨rfl, ((fo_SB hf).ui (by unfold SB rd_S; omega)).ui (by unfold SB rd_S; omega), ?_, u2.to f1.1 (by omega), hR.next (fun j hj => d0 j (by omega) (by omega)) (fun c i hc => f1.1 c i (by omega))⟩
        obtain ⟨p1, p2, p3, p4, p5, p6, p7, p8, p9⟩ := u1
        have k5 : ∀ i, i ≠ 12 → (ax_ui (ax_ui u 5 12 (nI (D 85 - 5))) 25 k (nI (min 99 (D k + 10)))).1 5 i = u.1 5 i := fun i hi => f1.1 5 i (by omega)
        have kc : ∀ c i, c ≠ 5 → c ≠ 25 → (ax_ui (ax_ui u 5 12 (nI (D 85 - 5))) 25 k (nI (min 99 (D k + 10)))).1 c i = u.1 c i := fun c i h1 h2 => f1.1 c i (by omega)
        refine ⟨by rw [k5 9 (by omega)]; exact p1, by rw [k5 10 (by omega), h84]; exact p2, ?_, by rw [k5 13 (by omega)]; exact p4, by rw [k5 14 (by omega), d0 86 (by omega) (by omega)]; exact p5, fun h hh => ?_, fun w hw8 => ?_, fun i hi => ?_, fun h hh w hw8 => ?_⟩
        · rw [ui_cell (by omega), ui_same, d2]
        · obtain ⟨q1, q2, q3, q4, q5⟩ := p6 h hh
          refine ⟨by rw [kc 23 h (by omega) (by omega)]; exact q1, by rw [kc 24 h (by omega) (by omega)]; exact q2, by rw [kc 26 h (by omega) (by omega)]; exact q3, ?_, by rw [kc 27 h (by omega) (by omega), d0 (8 + h) (by omega) (by omega)]; exact q5⟩
          by_cases e : h = k
          · rw [e, ui_same, d1]
          · rw [ui_idx e, ui_cell (by omega), d0 h e (by omega)]; exact q4
        · rw [h84] at hw8
          rw [kc 28 w (by omega) (by omega), kc 29 w (by omega) (by omega), kc 30 w (by omega) (by omega), hw' w 0 hw8 (by omega), hw' w 1 hw8 (by omega), hw' w 2 hw8 (by omega)]; exact p7 w hw8
        · rw [k5 11 (by omega), h84, p8 i hi]
          by_cases z : i < D 84
          · rw [hw' i 3 z (by omega)]
          · simp [z]
        · rw [h84] at hw8
          rw [kc 31 h (by omega) (by omega), hw' w 0 hw8 (by omega), hw' w 1 hw8 (by omega)]; exact p9 h hh w hw8
      · refine ax_Ct.of (lv := [some (ax_r 0), some (ax_i (nI k))]) (by decide +kernel) (fun ad => Nat.le_of_ble_eq_true rfl) (fun ad => rfl) ?_
        refine s_X12_ground_0 (d := 59) (by omega) τ _ ?_
        rw [if_pos b1, if_pos b2]
        refine (ct_allowed (by omega) τ).mono (fun r u hu => ⟨_, hu.1, ?_⟩)
        obtain ⟨-, rfl⟩ := hu
        have g0 : (0 : Int32) = 0 := rfl
        refine s_X12_ground_32 (by omega) u _ _ ?_ ?_ <;> intros <;> try contradiction
        refine (ct_X12_keep (by omega) hh.1 hMB.1.2.2.1 hMB.2).mono ?_
        rintro r w ⟨rfl, hf, hw1⟩
        have w1 := hMB.kept hf
        have i0 : (0 : Int32) + nI k = nI k := n_0 k
        refine ⟨rfl, s_X12_ground_41 (by omega) w _ (by rw [i0]; exact n_in k 268) ?_⟩
        have ev : (if w.1 15 k + (10 : Int32) < (99 : Int32) then w.1 15 k + (10 : Int32) else (99 : Int32)) = nI (min 99 (D k + 10)) := by
          rw [w1.2.2.1 k (by omega), show (10 : Int32) = nI 10 from rfl, n_add]
          exact n_min 99 (D k + 10)
        have e5 : (ax_ui w 15 k (nI (min 99 (D k + 10)))).1 15 85 - (5 : Int32) = nI (D 85 - 5) := by rw [ui_idx (by omega), w1.2.2.1 85 (by omega)]; exact n_sub (D 85) 5
        rw [i0, n_tn k, ev, e5]
        have f1 : fo (fun c i => c = 15) (ax_ui (ax_ui w 15 k (nI (min 99 (D k + 10)))) 15 85 (nI (D 85 - 5))) w := (fo.rfl'.ui (by omega)).ui (by omega)
        refine ⟨by rw [ui_idx (by omega), ui_same], ((fo_SM hf).ui (by unfold SM; omega)).ui (by unfold SM; omega), ⟨?_, ?_, (w1.2.2.1.set _ _).set _ _, fun h q hh hq => ?_⟩, hw1.to f1.1 (by omega)⟩
        · rw [f1.1 0 23 (by omega)]; exact w1.1
        · rw [f1.1 0 24 (by omega)]; exact w1.2.1
        · rw [f1.1 14 _ (by omega)]; exact w1.2.2.2 h q hh hq
      · rintro u w ⟨fC, hu⟩ ⟨fM, hw⟩
        exact hnext D' _ T _ u w hb' hl' (hpush_ok hh hb hlg) (by omega) fC.1 ⟨by rw [fC.2], by rw [fC.2]⟩ fM.1 hu hw
    · have a2 : ¬ (5 : Int32) ≤ σ.1 5 12 := by rw [e12]; exact fun z => g5 ((n_le 5 _).mp z)
      have b2 : ¬ (5 : Int32) ≤ τ.1 15 85 := by rw [e85]; exact fun z => g5 ((n_le 5 _).mp z)
      refine good_refuse h (i := 4) (by omega) ?_ ?_
      · refine ax_Ct.of (lv := [some (ax_r 0), some (ax_i (nI k))]) (by decide +kernel) (fun ad => Nat.le_of_ble_eq_true rfl) (fun ad => rfl) ?_
        refine s_X11_ground_0 (d := 59) (by omega) σ _ ?_ ?_ ?_ <;> intros <;> try contradiction
        exact ⟨rfl, rfl⟩
      · refine ax_Ct.of (lv := [some (ax_r 0), some (ax_i (nI k))]) (by decide +kernel) (fun ad => Nat.le_of_ble_eq_true rfl) (fun ad => rfl) ?_
        refine s_X12_ground_0 (d := 59) (by omega) τ _ ?_
        rw [if_pos b1, if_neg b2]
        refine (ct_refused (by omega) τ (i := 4) (by omega)).mono (fun r u hu => ⟨_, hu.1, s_X12_ground_32 (by omega) u _ _ (fun z => absurd z (by decide)) (fun _ => ⟨rfl, hu.2⟩)⟩)
  · have a1 : ¬ (¬ x < 0 ∧ ¬ σ.1 5 9 ≤ x) := fun z => g ((is_H x n).mp (by rw [← e9]; exact z))
    have b1 : ¬ (¬ x < (0 : Int32) ∧ ¬ τ.1 0 23 - 1 < x) := fun z => g ((is_Hm x n).mp (by rw [← e23]; exact z))
    refine good_refuse h (i := 0) (by omega) ?_ ?_
    · refine ax_Ct.of (lv := [some (ax_r 0), some (ax_i x)]) (by decide +kernel) (fun ad => Nat.le_of_ble_eq_true rfl) (fun ad => rfl) ?_
      refine s_X11_ground_0 (d := 59) (by omega) σ _ ?_ ?_ ?_ <;> intros <;> try contradiction
      exact ⟨rfl, rfl⟩
    · refine ax_Ct.of (lv := [some (ax_r 0), some (ax_i x)]) (by decide +kernel) (fun ad => Nat.le_of_ble_eq_true rfl) (fun ad => rfl) ?_
      refine s_X12_ground_0 (d := 59) (by omega) τ _ ?_
      rw [if_neg b1]
      refine (ct_refused (by omega) τ (i := 0) (by omega)).mono (fun r u hu => ⟨_, hu.1, s_X12_ground_32 (by omega) u _ _ (fun z => absurd z (by decide)) (fun _ => ⟨rfl, hu.2⟩)⟩)
