/-! ===== HOUSE, but for the throw ===== -/
def hsB (σ : ax_S) (a b : Int32) : Prop := ((¬ a < 0) ∧ (¬ σ.1 5 9 ≤ a)) ∧ ∃ k, k ≤ 5 ∧ b = nI k
theorem hs_cnt {D : Nat → Nat} {σ : ax_S} {n : Nat} {E : Nat → Nat} {dry : Nat} (hok : bk_ok n E D dry) (hC : bk_C σ n E D dry) {h : Nat} (hh : h < n) : v_J6_bitCount_0f7a4 (pn_set (D 84) (bk_lv D) &&& σ.1 31 h) = nI (sk_cn (fun w => bk_w D w 0) (fun w => bk_w D w 1) (dk_lv D) h 99) := by
  have h84 := hok.2.2.2.1
  have ht := hC.2.2.2.2.2.2.2.2 h hh
  have hb : ∀ i, i < 32 → bt (pn_set (D 84) (bk_lv D) &&& σ.1 31 h) i = sk_on (fun w => bk_w D w 0) (fun w => bk_w D w 1) (dk_lv D) h 99 i := by
    intro i hi
    rw [b_and, pn_set_bt _ _ (by omega) i hi]
    by_cases hw : i < D 84
    · rw [ht i hw]
      have : ¬ i = 99 := by omega
      simp [sk_on, dk_lv, hw, this]
    · simp [sk_on, dk_lv, hw]
  rw [bc_mask (fun w h1 h2 => ?_)]
  · unfold sk_cn
    congr 1
    exact fb_ct_cong (fun w hw => hb w (by omega))
  · rw [hb w h2]
    have : ¬ w < D 84 := by omega
    simp [sk_on, dk_lv, this]
theorem house_ok {j : Nat} {σ τ : ax_S} (h : RR j σ τ) {a b : Int32} (g : hsB σ a b) : ∃ v : Int32,
    ax_Ct shC 60 mX11_house [ax_r 0, ax_i a, ax_i b] (fun r u => r = some (ax_i v) ∧ u = σ) σ ∧
    ax_Ct shM 60 mX12_house [ax_r 0, ax_i a, ax_i b] (fun r u => r = some (ax_i v) ∧ u = ax_ui τ 0 0 0) τ := by
  obtain ⟨n, E, D, dry, kp, hb, hlg, hC, hM, hok, hK, hKm, -⟩ := h.stroke
  have hn := hb.2.1
  have e9 : σ.1 5 9 = nI n := hC.1
  have e23 : τ.1 0 23 = nI n := hM.1
  obtain ⟨g1, k, hk, rfl⟩ := g
  have g1' := g1
  rw [e9] at g1'
  obtain ⟨x, hx, rfl⟩ := (is_H _ n).mp g1'
  have g2 : (¬ nI x < (0 : Int32)) ∧ (¬ τ.1 0 23 - 1 < nI x) := by rw [e23]; exact (is_Hm _ n).mpr ⟨x, hx, rfl⟩
  have i8 : vp_in (nI x) 8 := n_in _ _
  have tx := n_tn x
  have h8 := hC.2.2.2.2.2.1 x hx
  have D8 : ∀ q, q < 268 → τ.1 15 q = nI (D q) := hM.2.2.1
  have E8 : ∀ q, q < 4 → τ.1 14 (4 * x + q) = nI (E (4 * x + q)) := fun q hq => hM.2.2.2 x q hx hq
  obtain rfl | rfl | rfl | rfl | rfl | rfl : k = 0 ∨ k = 1 ∨ k = 2 ∨ k = 3 ∨ k = 4 ∨ k = 5 := by omega
  · refine ⟨nI (E (4 * x)), ?_, ?_⟩
    · refine ax_Ct.of (lv := [some (ax_r 0), some (ax_i (nI x)), some (ax_i (nI 0))]) (by decide +kernel) (fun ad => Nat.le_of_ble_eq_true rfl) (fun ad => rfl) ?_
      refine s_X11_house_0 (d := 59) (by omega) σ _ _ (fun _  z => i8) (fun _  z => ⟨by rw [tx, h8.1], rfl⟩) (fun _ z0 z => absurd (show nI 0 = nI 0 from rfl) z0) (fun _ z0 z => absurd (show nI 0 = nI 0 from rfl) z0) (fun _ z0 z1 z => absurd (show nI 0 = nI 0 from rfl) z0) (fun _ z0 z1 z => absurd (show nI 0 = nI 0 from rfl) z0) (fun _ z0 z1 z2 z => absurd (show nI 0 = nI 0 from rfl) z0) (fun _ z0 z1 z2 z => absurd (show nI 0 = nI 0 from rfl) z0) (fun _ z0 z1 z2 z3 z => absurd (show nI 0 = nI 0 from rfl) z0) (fun _ z0 z1 z2 z3 z => absurd (show nI 0 = nI 0 from rfl) z0) (fun _ z0 z1 z2 z3 z4 z => absurd (show nI 0 = nI 0 from rfl) z0) (fun _ z0 z1 z2 z3 z4 z5 => absurd (show nI 0 = nI 0 from rfl) z0) (fun z => absurd g1 z)
    · refine ax_Ct.of (lv := [some (ax_r 0), some (ax_i (nI x)), some (ax_i (nI 0))]) (by decide +kernel) (fun ad => Nat.le_of_ble_eq_true rfl) (fun ad => rfl) ?_
      have ge : (if ((¬ ((¬ (nI x < (0 : Int32))) ∧ (¬ ((τ.1 0 23 - (1 : Int32)) < nI x)))) ∨ (¬ ((¬ (nI 0 < (0 : Int32))) ∧ (¬ ((5 : Int32) < nI 0))))) then (1 : Int32) else 0) = 0 := if_neg (fun z => z.elim (fun q => q g2) (fun q => q (by decide)))
      have gn : ¬ (0 : Int32) = 1 := by decide
      have ei : (4 : Int32) * nI x + nI 0 = nI (4 * x + 0) := by rw [show (4 : Int32) * nI x = nI (4 * x) from n_mul 4 x, n_add]
      refine s_X12_house_0 (d := 59) (by omega) τ _ _ ?_ ?_ ?_ ?_ ?_ ?_ ?_ ?_
      all_goals (rw [ge])
      · intros; rw [ei]; exact n_in _ _
      · intros; rw [ei, n_tn _, E8 0 (by omega)]; exact ⟨rfl, rfl⟩
      · exact fun _ _ _ z => absurd (by decide) z
      · exact fun _ _ z => absurd (by decide) z
      · exact fun _ _ z => absurd (by decide) z
      · exact fun _ z => absurd (by decide) z
      · exact fun _ z => absurd (by decide) z
      · exact fun z => absurd gn z
  · refine ⟨nI (E (4 * x + 1)), ?_, ?_⟩
    · refine ax_Ct.of (lv := [some (ax_r 0), some (ax_i (nI x)), some (ax_i (nI 1))]) (by decide +kernel) (fun ad => Nat.le_of_ble_eq_true rfl) (fun ad => rfl) ?_
      refine s_X11_house_0 (d := 59) (by omega) σ _ _ (fun _  z => absurd z (by decide)) (fun _  z => absurd z (by decide)) (fun _ z0 z => i8) (fun _ z0 z => ⟨by rw [tx, h8.2.1], rfl⟩) (fun _ z0 z1 z => absurd (show nI 1 = nI 1 from rfl) z1) (fun _ z0 z1 z => absurd (show nI 1 = nI 1 from rfl) z1) (fun _ z0 z1 z2 z => absurd (show nI 1 = nI 1 from rfl) z1) (fun _ z0 z1 z2 z => absurd (show nI 1 = nI 1 from rfl) z1) (fun _ z0 z1 z2 z3 z => absurd (show nI 1 = nI 1 from rfl) z1) (fun _ z0 z1 z2 z3 z => absurd (show nI 1 = nI 1 from rfl) z1) (fun _ z0 z1 z2 z3 z4 z => absurd (show nI 1 = nI 1 from rfl) z1) (fun _ z0 z1 z2 z3 z4 z5 => absurd (show nI 1 = nI 1 from rfl) z1) (fun z => absurd g1 z)
    · refine ax_Ct.of (lv := [some (ax_r 0), some (ax_i (nI x)), some (ax_i (nI 1))]) (by decide +kernel) (fun ad => Nat.le_of_ble_eq_true rfl) (fun ad => rfl) ?_
      have ge : (if ((¬ ((¬ (nI x < (0 : Int32))) ∧ (¬ ((τ.1 0 23 - (1 : Int32)) < nI x)))) ∨ (¬ ((¬ (nI 1 < (0 : Int32))) ∧ (¬ ((5 : Int32) < nI 1))))) then (1 : Int32) else 0) = 0 := if_neg (fun z => z.elim (fun q => q g2) (fun q => q (by decide)))
      have gn : ¬ (0 : Int32) = 1 := by decide
      have ei : (4 : Int32) * nI x + nI 1 = nI (4 * x + 1) := by rw [show (4 : Int32) * nI x = nI (4 * x) from n_mul 4 x, n_add]
      refine s_X12_house_0 (d := 59) (by omega) τ _ _ ?_ ?_ ?_ ?_ ?_ ?_ ?_ ?_
      all_goals (rw [ge])
      · intros; rw [ei]; exact n_in _ _
      · intros; rw [ei, n_tn _, E8 1 (by omega)]; exact ⟨rfl, rfl⟩
      · exact fun _ _ _ z => absurd (by decide) z
      · exact fun _ _ z => absurd (by decide) z
      · exact fun _ _ z => absurd (by decide) z
      · exact fun _ z => absurd (by decide) z
      · exact fun _ z => absurd (by decide) z
      · exact fun z => absurd gn z
  · refine ⟨nI (D x), ?_, ?_⟩
    · refine ax_Ct.of (lv := [some (ax_r 0), some (ax_i (nI x)), some (ax_i (nI 2))]) (by decide +kernel) (fun ad => Nat.le_of_ble_eq_true rfl) (fun ad => rfl) ?_
      refine s_X11_house_0 (d := 59) (by omega) σ _ _ (fun _  z => absurd z (by decide)) (fun _  z => absurd z (by decide)) (fun _ z0 z => absurd z (by decide)) (fun _ z0 z => absurd z (by decide)) (fun _ z0 z1 z => i8) (fun _ z0 z1 z => ⟨by rw [tx, h8.2.2.2.1], rfl⟩) (fun _ z0 z1 z2 z => absurd (show nI 2 = nI 2 from rfl) z2) (fun _ z0 z1 z2 z => absurd (show nI 2 = nI 2 from rfl) z2) (fun _ z0 z1 z2 z3 z => absurd (show nI 2 = nI 2 from rfl) z2) (fun _ z0 z1 z2 z3 z => absurd (show nI 2 = nI 2 from rfl) z2) (fun _ z0 z1 z2 z3 z4 z => absurd (show nI 2 = nI 2 from rfl) z2) (fun _ z0 z1 z2 z3 z4 z5 => absurd (show nI 2 = nI 2 from rfl) z2) (fun z => absurd g1 z)
    · refine ax_Ct.of (lv := [some (ax_r 0), some (ax_i (nI x)), some (ax_i (nI 2))]) (by decide +kernel) (fun ad => Nat.le_of_ble_eq_true rfl) (fun ad => rfl) ?_
      have ge : (if ((¬ ((¬ (nI x < (0 : Int32))) ∧ (¬ ((τ.1 0 23 - (1 : Int32)) < nI x)))) ∨ (¬ ((¬ (nI 2 < (0 : Int32))) ∧ (¬ ((5 : Int32) < nI 2))))) then (1 : Int32) else 0) = 0 := if_neg (fun z => z.elim (fun q => q g2) (fun q => q (by decide)))
      have gn : ¬ (0 : Int32) = 1 := by decide
      have ei : (0 : Int32) + nI x = nI x := (n_add 0 x).trans (by rw [Nat.zero_add])
      refine s_X12_house_0 (d := 59) (by omega) τ _ _ ?_ ?_ ?_ ?_ ?_ ?_ ?_ ?_
      all_goals (rw [ge])
      · exact fun _ z => absurd rfl z
      · exact fun _ z => absurd rfl z
      · exact fun _ z => absurd rfl z
      · exact fun _ z => absurd rfl z
      · exact fun _ z => absurd rfl z
      · intros; rw [ei]; exact n_in _ _
      · intros; rw [ei, n_tn _, D8 x (by omega)]; exact ⟨rfl, rfl⟩
      · exact fun z => absurd gn z
  · refine ⟨nI (E (4 * x + 3)), ?_, ?_⟩
    · refine ax_Ct.of (lv := [some (ax_r 0), some (ax_i (nI x)), some (ax_i (nI 3))]) (by decide +kernel) (fun ad => Nat.le_of_ble_eq_true rfl) (fun ad => rfl) ?_
      refine s_X11_house_0 (d := 59) (by omega) σ _ _ (fun _  z => absurd z (by decide)) (fun _  z => absurd z (by decide)) (fun _ z0 z => absurd z (by decide)) (fun _ z0 z => absurd z (by decide)) (fun _ z0 z1 z => absurd z (by decide)) (fun _ z0 z1 z => absurd z (by decide)) (fun _ z0 z1 z2 z => i8) (fun _ z0 z1 z2 z => ⟨by rw [tx, h8.2.2.1], rfl⟩) (fun _ z0 z1 z2 z3 z => absurd (show nI 3 = nI 3 from rfl) z3) (fun _ z0 z1 z2 z3 z => absurd (show nI 3 = nI 3 from rfl) z3) (fun _ z0 z1 z2 z3 z4 z => absurd (show nI 3 = nI 3 from rfl) z3) (fun _ z0 z1 z2 z3 z4 z5 => absurd (show nI 3 = nI 3 from rfl) z3) (fun z => absurd g1 z)
    · refine ax_Ct.of (lv := [some (ax_r 0), some (ax_i (nI x)), some (ax_i (nI 3))]) (by decide +kernel) (fun ad => Nat.le_of_ble_eq_true rfl) (fun ad => rfl) ?_
      have ge : (if ((¬ ((¬ (nI x < (0 : Int32))) ∧ (¬ ((τ.1 0 23 - (1 : Int32)) < nI x)))) ∨ (¬ ((¬ (nI 3 < (0 : Int32))) ∧ (¬ ((5 : Int32) < nI 3))))) then (1 : Int32) else 0) = 0 := if_neg (fun z => z.elim (fun q => q g2) (fun q => q (by decide)))
      have gn : ¬ (0 : Int32) = 1 := by decide
      have ei : (4 : Int32) * nI x + nI 3 = nI (4 * x + 3) := by rw [show (4 : Int32) * nI x = nI (4 * x) from n_mul 4 x, n_add]
      refine s_X12_house_0 (d := 59) (by omega) τ _ _ ?_ ?_ ?_ ?_ ?_ ?_ ?_ ?_
      all_goals (rw [ge])
      · intros; rw [ei]; exact n_in _ _
      · intros; rw [ei, n_tn _, E8 3 (by omega)]; exact ⟨rfl, rfl⟩
      · exact fun _ _ _ z => absurd (by decide) z
      · exact fun _ _ z => absurd (by decide) z
      · exact fun _ _ z => absurd (by decide) z
      · exact fun _ z => absurd (by decide) z
      · exact fun _ z => absurd (by decide) z
      · exact fun z => absurd gn z
  · refine ⟨nI (D (8 + x)), ?_, ?_⟩
    · refine ax_Ct.of (lv := [some (ax_r 0), some (ax_i (nI x)), some (ax_i (nI 4))]) (by decide +kernel) (fun ad => Nat.le_of_ble_eq_true rfl) (fun ad => rfl) ?_
      refine s_X11_house_0 (d := 59) (by omega) σ _ _ (fun _  z => absurd z (by decide)) (fun _  z => absurd z (by decide)) (fun _ z0 z => absurd z (by decide)) (fun _ z0 z => absurd z (by decide)) (fun _ z0 z1 z => absurd z (by decide)) (fun _ z0 z1 z => absurd z (by decide)) (fun _ z0 z1 z2 z => absurd z (by decide)) (fun _ z0 z1 z2 z => absurd z (by decide)) (fun _ z0 z1 z2 z3 z => i8) (fun _ z0 z1 z2 z3 z => ⟨by rw [tx, h8.2.2.2.2], rfl⟩) (fun _ z0 z1 z2 z3 z4 z => absurd (show nI 4 = nI 4 from rfl) z4) (fun _ z0 z1 z2 z3 z4 z5 => absurd (show nI 4 = nI 4 from rfl) z4) (fun z => absurd g1 z)
    · refine ax_Ct.of (lv := [some (ax_r 0), some (ax_i (nI x)), some (ax_i (nI 4))]) (by decide +kernel) (fun ad => Nat.le_of_ble_eq_true rfl) (fun ad => rfl) ?_
      have ge : (if ((¬ ((¬ (nI x < (0 : Int32))) ∧ (¬ ((τ.1 0 23 - (1 : Int32)) < nI x)))) ∨ (¬ ((¬ (nI 4 < (0 : Int32))) ∧ (¬ ((5 : Int32) < nI 4))))) then (1 : Int32) else 0) = 0 := if_neg (fun z => z.elim (fun q => q g2) (fun q => q (by decide)))
      have gn : ¬ (0 : Int32) = 1 := by decide
      have ei : (8 : Int32) + nI x = nI (8 + x) := n_add 8 x
      refine s_X12_house_0 (d := 59) (by omega) τ _ _ ?_ ?_ ?_ ?_ ?_ ?_ ?_ ?_
      all_goals (rw [ge])
      · exact fun _ _ z => absurd rfl z
      · exact fun _ _ z => absurd rfl z
      · exact fun _ _ z => absurd rfl z
      · intros; rw [ei]; exact n_in _ _
      · intros; rw [ei, n_tn _, D8 (8 + x) (by omega)]; exact ⟨rfl, rfl⟩
      · exact fun _ z => absurd (by decide) z
      · exact fun _ z => absurd (by decide) z
      · exact fun z => absurd gn z
  · refine ⟨nI (sk_cn (fun w => bk_w D w 0) (fun w => bk_w D w 1) (dk_lv D) x 99), ?_, ?_⟩
    · refine ax_Ct.of (lv := [some (ax_r 0), some (ax_i (nI x)), some (ax_i (nI 5))]) (by decide +kernel) (fun ad => Nat.le_of_ble_eq_true rfl) (fun ad => rfl) ?_
      refine s_X11_house_0 (d := 59) (by omega) σ _ _ (fun _  z => absurd z (by decide)) (fun _  z => absurd z (by decide)) (fun _ z0 z => absurd z (by decide)) (fun _ z0 z => absurd z (by decide)) (fun _ z0 z1 z => absurd z (by decide)) (fun _ z0 z1 z => absurd z (by decide)) (fun _ z0 z1 z2 z => absurd z (by decide)) (fun _ z0 z1 z2 z => absurd z (by decide)) (fun _ z0 z1 z2 z3 z => absurd z (by decide)) (fun _ z0 z1 z2 z3 z => absurd z (by decide)) (fun _ z0 z1 z2 z3 z4 z => ?_) (fun _ z0 z1 z2 z3 z4 z5 => absurd (show nI 5 = nI 5 from rfl) z5) (fun z => absurd g1 z)
      refine (ct_live (by omega) hb hC).mono ?_
      rintro r u ⟨rfl, rfl⟩
      refine ⟨_, rfl, s_X11_house_117 (by omega) _ _ _ i8 ⟨?_, rfl⟩⟩
      rw [tx, hs_cnt hb hC hx]
    · refine ax_Ct.of (lv := [some (ax_r 0), some (ax_i (nI x)), some (ax_i (nI 5))]) (by decide +kernel) (fun ad => Nat.le_of_ble_eq_true rfl) (fun ad => rfl) ?_
      have ge : (if ((¬ ((¬ (nI x < (0 : Int32))) ∧ (¬ ((τ.1 0 23 - (1 : Int32)) < nI x)))) ∨ (¬ ((¬ (nI 5 < (0 : Int32))) ∧ (¬ ((5 : Int32) < nI 5))))) then (1 : Int32) else 0) = 0 := if_neg (fun z => z.elim (fun q => q g2) (fun q => q (by decide)))
      have gn : ¬ (0 : Int32) = 1 := by decide
      refine s_X12_house_0 (d := 59) (by omega) τ _ _ ?_ ?_ ?_ ?_ ?_ ?_ ?_ ?_
      all_goals (rw [ge])
      · exact fun _ _ _ z => absurd rfl z
      · exact fun _ _ _ z => absurd rfl z
      · intros
        have fD : mD (ax_ui τ 0 0 0) D := fun q hq => (ui_cell (by omega)).trans (D8 q hq)
        refine (ct_X12_liveAt (by omega) hok fD hx (Or.inl rfl)).mono ?_
        rintro r u ⟨rfl, rfl⟩
        exact ⟨_, rfl, s_X12_house_80 (by omega) _ _ ⟨rfl, rfl⟩⟩
      · exact fun _ _ z => absurd (by decide) z
      · exact fun _ _ z => absurd (by decide) z
      · exact fun _ z => absurd (by decide) z
      · exact fun _ z => absurd (by decide) z
      · exact fun z => absurd gn z
theorem house_bad {j : Nat} {σ τ : ax_S} (h : RR j σ τ) {a b : Int32} (g : ¬ hsB σ a b) :
    ax_Ct shM 60 mX12_house [ax_r 0, ax_i a, ax_i b] (fun r u => r = some (ax_i 0) ∧ u = ax_ui τ 0 0 1) τ := by
  obtain ⟨n, E, D, dry, kp, hb, hlg, hC, hM, hok, hK, hKm, -⟩ := h.stroke
  have e9 : σ.1 5 9 = nI n := hC.1
  have e23 : τ.1 0 23 = nI n := hM.1
  have hn := hb.2.1
  refine ax_Ct.of (lv := [some (ax_r 0), some (ax_i a), some (ax_i b)]) (by decide +kernel) (fun ad => Nat.le_of_ble_eq_true rfl) (fun ad => rfl) ?_
  have ge : (if ((¬ ((¬ (a < (0 : Int32))) ∧ (¬ ((τ.1 0 23 - (1 : Int32)) < a)))) ∨ (¬ ((¬ (b < (0 : Int32))) ∧ (¬ ((5 : Int32) < b))))) then (1 : Int32) else 0) = 1 := by
    refine if_pos ?_
    by_cases q1 : (¬ (a < (0 : Int32))) ∧ (¬ ((τ.1 0 23 - (1 : Int32)) < a))
    · refine Or.inr (fun q2 => g ⟨?_, ?_⟩)
      · rw [e23] at q1
        rw [e9]; exact (is_H _ n).mpr ((is_Hm _ n).mp q1)
      · obtain ⟨k, -, k2, k3⟩ := (in_R _ 0 5).mp q2
        exact ⟨k, k2, k3⟩
    · exact Or.inl q1
  refine s_X12_house_0 (d := 59) (by omega) τ _ _ ?_ ?_ ?_ ?_ ?_ ?_ ?_ ?_
  all_goals (rw [ge])
  · exact fun z => absurd rfl z
  · exact fun z => absurd rfl z
  · exact fun z => absurd rfl z
  · exact fun z => absurd rfl z
  · exact fun z => absurd rfl z
  · exact fun z => absurd rfl z
  · exact fun z => absurd rfl z
  · exact fun _ => ⟨rfl, rfl⟩
theorem house_RR {j : Nat} {σ τ : ax_S} (h : RR j σ τ) (x : Int32) : RR (j + 1) σ (ax_ui τ 0 0 x) := h.up fo.rfl' (fo.rfl'.ui (by unfold scM scm; omega))
