/-! ===== arguments within bounds; the stroke of the state ===== -/
theorem in_R (a : Int32) (lo hi : Nat) (h1 : lo < 2147483648 := by omega) (h2 : hi < 2147483648 := by omega) : (¬ a < nI lo ∧ ¬ nI hi < a) ↔ ∃ k, lo ≤ k ∧ k ≤ hi ∧ a = nI k := by
  constructor
  · rintro ⟨q1, q2⟩
    have h0 : ¬ a < 0 := by
      intro z
      apply q1
      rw [Int32.lt_iff_toInt_lt] at z ⊢
      rw [nI_toInt h1]
      have : Int32.toInt 0 = 0 := by decide
      omega
    obtain ⟨k, hk, rfl⟩ := nI_of h0
    exact ⟨k, Nat.not_lt.mp (fun z => q1 ((n_lt k lo).mpr z)), Nat.not_lt.mp (fun z => q2 ((n_lt hi k).mpr z)), rfl⟩
  · rintro ⟨k, q1, q2, rfl⟩
    exact ⟨fun z => absurd ((n_lt k lo).mp z) (by omega), fun z => absurd ((n_lt hi k).mp z) (by omega)⟩
theorem is_H (a : Int32) (n : Nat) (hn : n < 2147483648 := by omega) : (¬ a < 0 ∧ ¬ nI n ≤ a) ↔ ∃ h, h < n ∧ a = nI h := by
  constructor
  · rintro ⟨q1, q2⟩
    obtain ⟨k, hk, rfl⟩ := nI_of q1
    exact ⟨k, Nat.not_le.mp (fun z => q2 ((n_le n k).mpr z)), rfl⟩
  · rintro ⟨k, q1, rfl⟩
    exact ⟨n_nn k, fun z => absurd ((n_le n k).mp z) (by omega)⟩
theorem is_Hm (a : Int32) (n : Nat) (hn : n < 1073741824 := by omega) : (¬ a < 0 ∧ ¬ nI n - 1 < a) ↔ ∃ h, h < n ∧ a = nI h := by
  have hs : (nI n - 1).toInt = (n : Int) - 1 := pk_sub_toInt (a := n) (b := 1) (by omega) (by omega)
  constructor
  · rintro ⟨q1, q2⟩
    obtain ⟨k, hk, rfl⟩ := nI_of q1
    rw [Int32.lt_iff_toInt_lt, hs, nI_toInt hk] at q2
    exact ⟨k, by omega, rfl⟩
  · rintro ⟨k, q1, rfl⟩
    refine ⟨n_nn k, fun z => ?_⟩
    rw [Int32.lt_iff_toInt_lt, hs, nI_toInt (by omega)] at z
    omega
theorem st_ok {n : Nat} {E D : Nat → Nat} {dry : Nat} (h : bk_ok n E D dry) {kp : Nat → Nat → Nat → Nat} (hk : ∀ h p c, kp h p c ≤ p) : dk_ok n D kp := by
  obtain ⟨h1, h2, h3, h4, h5, h6, h7, h8, h9⟩ := h
  exact ⟨h2, by omega, h9, fun h hh => (h8 h hh).2.2.2.2.2.1, hk⟩
theorem st_C {σ : ax_S} {n : Nat} {E D : Nat → Nat} {dry : Nat} (hok : bk_ok n E D dry) (hC : bk_C σ n E D dry) : sk_C σ (pn_set (D 84) (bk_lv D)) n (fun w => bk_w D w 0) (fun w => bk_w D w 1) (fun w => bk_w D w 2) (dk_lv D) D := by
  obtain ⟨h1, h2, h3, h4, h5, h6, h7, h8, h9⟩ := hok
  obtain ⟨c1, c2, c3, c4, c5, c6, c7, c8, c9⟩ := hC
  have hlt : ∀ w, dk_lv D w = true → w < D 84 := fun w hw => by
    simp only [dk_lv, Bool.and_eq_true, decide_eq_true_eq] at hw
    exact hw.1
  refine ⟨c1, ⟨D 84, c2, h4, fun w hw => by have := hlt w hw; omega⟩, fun i hi => ?_, fun w hw => c7 w (hlt w hw), fun h hh w hw => c9 h hh w (hlt w hw), fun h hh => ⟨(c6 h hh).2.2.2.1, (h8 h hh).2.2.2.2.2.1⟩⟩
  rw [pn_set_bt (bk_lv D) (D 84) (by omega) i hi]; rfl
theorem st_H {σ : ax_S} {n : Nat} {E D : Nat → Nat} {dry : Nat} (hok : bk_ok n E D dry) (hC : bk_C σ n E D dry) : hsC σ n E D dry := by
  obtain ⟨h1, h2, h3, h4, h5, h6, h7, h8, h9⟩ := hok
  obtain ⟨c1, c2, c3, c4, c5, c6, c7, c8, c9⟩ := hC
  exact ⟨c4, h3, fun h hh => ⟨(c6 h hh).2.1, (c6 h hh).2.2.2.1, (c6 h hh).2.2.1, (h8 h hh).2.2.1, (h8 h hh).2.2.2.2.2.1, (h8 h hh).2.2.2.1⟩⟩
theorem st_Hm {τ : ax_S} {n : Nat} {E D : Nat → Nat} {dry : Nat} (hok : bk_ok n E D dry) (hM : bk_M τ n E D dry) : hsM τ n E D dry := by
  obtain ⟨h1, h2, h3, h4, h5, h6, h7, h8, h9⟩ := hok
  obtain ⟨c1, c2, c3, c4⟩ := hM
  exact ⟨c2, h3, c3, fun h hh => ⟨c4 h 1 hh (by omega), c4 h 3 hh (by omega), (h8 h hh).2.2.1, (h8 h hh).2.2.2.2.2.1, (h8 h hh).2.2.2.1⟩⟩
/-- what an object of the class says of a stroke over the belt as it is -/
theorem ct_live {d : Nat} (hd : 2 ≤ d) {σ : ax_S} {n : Nat} {E D : Nat → Nat} {dry : Nat} (hok : bk_ok n E D dry) (hC : bk_C σ n E D dry) : ax_Ct shC d mX0_live [ax_r 5] (fun r u => r = some (ax_i (pn_set (D 84) (bk_lv D))) ∧ u = σ) σ := ct_X0_live hd hok hC
theorem scr_scC : ∀ c i, scr c i → scC c i := fun _ _ h => Or.inl h
theorem scm_scM : ∀ c i, scm c i → scM c i := fun _ _ h => Or.inl h
/-- the state opened: what strokes need on both sides -/
theorem RR.stroke {j : Nat} {σ τ : ax_S} (h : RR j σ τ) : ∃ (n : Nat) (E D : Nat → Nat) (dry : Nat) (kp : Nat → Nat → Nat → Nat), bk_ok n E D dry ∧ lg_ok D ∧ bk_C σ n E D dry ∧ bk_M τ n E D dry ∧ dk_ok n D kp ∧ sk_K σ n kp ∧ mk_K τ n kp ∧ (kp = kp) := by
  obtain ⟨tl, tp, n, E, D, dry, lw, ho, L, st, ki, rf, nc, no, tc, te, a, T, H, im, I, ⟨o1, o2, o3, o4, o5, o6, o7, o8, o9, o10, o11⟩, ⟨c1, c2, c3, c4, c5, c6, c7, c8, c9⟩, ⟨m1, m2, m3, m4, m5, m6, m7, m8⟩⟩ := h
  have hn := o2.2.1
  exact ⟨n, E, D, dry, kpf E D dry ho L, o2, o3, c2, m2, st_ok o2 (kpf_le E D dry ho L), skK_of o4 (st_H o2 c2) c4 hn, mkK_of o4 (st_Hm o2 m2) m3 hn, rfl⟩
theorem good_keeps {j : Nat} {σ τ : ax_S} (h : RR j σ τ) (a0 a1 a2 : Int32) : good j mX11_keeps mX12_keeps [ax_i a0, ax_i a1, ax_i a2] σ τ := by
  obtain ⟨n, E, D, dry, kp, hb, hlg, hC, hM, hok, hK, hKm, -⟩ := h.stroke
  have hn := hb.2.1
  have e9 : σ.1 5 9 = nI n := hC.1
  have e23 : τ.1 0 23 = nI n := hM.1
  by_cases g : (∃ x, x < n ∧ a0 = nI x) ∧ (∃ x, x < n ∧ a2 = nI x) ∧ ∃ k, 1 ≤ k ∧ k ≤ 999 ∧ a1 = nI k
  · obtain ⟨⟨x, hx, rfl⟩, ⟨y, hy, rfl⟩, v, hv1, hv, rfl⟩ := g
    refine good.ask h (nI ((dk_run D kp x v).1 y)) ?_ ?_
    · refine ax_Ct.of (lv := [some (ax_r 0), some (ax_i (nI x)), some (ax_i (nI v)), some (ax_i (nI y))]) (by decide +kernel) (fun ad => Nat.le_of_ble_eq_true rfl) (fun ad => rfl) ?_
      refine s_X11_keeps_0 (d := 59) (by omega) σ _ _ _ (fun c => absurd (by rw [e9]; exact (is_H _ n).mpr ⟨x, hx, rfl⟩) c) (fun _ c => absurd (by rw [e9]; exact (is_H _ n).mpr ⟨y, hy, rfl⟩) c) (fun _ _ _ => ?_) (fun _ _ c => absurd ((in_R _ 1 999).mpr ⟨v, hv1, hv, rfl⟩) c)
      refine (ct_live (by omega) hb hC).mono ?_
      rintro r u ⟨rfl, rfl⟩
      refine ⟨_, rfl, s_X11_keeps_36 (by omega) _ _ _ _ _ ?_⟩
      refine (ct_fall_D (by omega) hok (st_C hb hC) hK hx hv1 hv).mono ?_
      rintro r u ⟨rfl, u1, u2, u3, u4⟩
      refine ⟨_, rfl, s_X11_keeps_41 (by omega) u _ _ (n_in _ _) ⟨?_, u1.mono scr_scC⟩⟩
      rw [n_tn y, u2 y (by omega)]
    · refine ax_Ct.of (lv := [some (ax_r 0), some (ax_i (nI x)), some (ax_i (nI v)), some (ax_i (nI y))]) (by decide +kernel) (fun ad => Nat.le_of_ble_eq_true rfl) (fun ad => rfl) ?_
      refine s_X12_keeps_0 (d := 59) (by omega) τ _ _ _ (fun c => absurd (by rw [e23]; exact (is_Hm _ n).mpr ⟨x, hx, rfl⟩) c) (fun _ c => absurd (by rw [e23]; exact (is_Hm _ n).mpr ⟨y, hy, rfl⟩) c) (fun _ _ c => absurd ((in_R _ 1 999).mpr ⟨v, hv1, hv, rfl⟩) c) (fun _ _ _ => ?_)
      refine (ct_X12_keepsOf (by omega) hok hM.2.2.1 hKm hx hv1 hv hy).mono ?_
      rintro r u ⟨rfl, u1⟩
      exact ⟨_, rfl, s_X12_keeps_30 (by omega) u _ ⟨rfl, u1.mono scm_scM⟩⟩
  · refine good.ask h (-1) ?_ ?_
    · refine ax_Ct.of (lv := [some (ax_r 0), some (ax_i a0), some (ax_i a1), some (ax_i a2)]) (by decide +kernel) (fun ad => Nat.le_of_ble_eq_true rfl) (fun ad => rfl) ?_
      exact s_X11_keeps_0 (d := 59) (by omega) σ _ _ _ (fun _ => ⟨rfl, fo.rfl'⟩) (fun _ _ => ⟨rfl, fo.rfl'⟩) (fun c1 c2 c3 => absurd ⟨(is_H _ n).mp (by rw [← e9]; exact c1), (is_H _ n).mp (by rw [← e9]; exact c2), (in_R _ 1 999).mp c3⟩ g) (fun _ _ _ => ⟨rfl, fo.rfl'⟩)
    · refine ax_Ct.of (lv := [some (ax_r 0), some (ax_i a0), some (ax_i a1), some (ax_i a2)]) (by decide +kernel) (fun ad => Nat.le_of_ble_eq_true rfl) (fun ad => rfl) ?_
      exact s_X12_keeps_0 (d := 59) (by omega) τ _ _ _ (fun _ => ⟨rfl, fo.rfl'⟩) (fun _ _ => ⟨rfl, fo.rfl'⟩) (fun _ _ _ => ⟨rfl, fo.rfl'⟩) (fun c1 c2 c3 => absurd ⟨(is_Hm _ n).mp (by rw [← e23]; exact c1), (is_Hm _ n).mp (by rw [← e23]; exact c2), (in_R _ 1 999).mp c3⟩ g)
theorem good_burning {j : Nat} {σ τ : ax_S} (h : RR j σ τ) (a0 a1 : Int32) : good j mX11_burning mX12_burning [ax_i a0, ax_i a1] σ τ := by
  obtain ⟨n, E, D, dry, kp, hb, hlg, hC, hM, hok, hK, hKm, -⟩ := h.stroke
  have hn := hb.2.1
  have e9 : σ.1 5 9 = nI n := hC.1
  have e23 : τ.1 0 23 = nI n := hM.1
  by_cases g : (∃ x, x < n ∧ a0 = nI x) ∧ ∃ k, 1 ≤ k ∧ k ≤ 999 ∧ a1 = nI k
  · obtain ⟨⟨x, hx, rfl⟩, v, hv1, hv, rfl⟩ := g
    refine good.ask h (dk_bu n D kp x v) ?_ ?_
    · refine ax_Ct.of (lv := [some (ax_r 0), some (ax_i (nI x)), some (ax_i (nI v))]) (by decide +kernel) (fun ad => Nat.le_of_ble_eq_true rfl) (fun ad => rfl) ?_
      refine s_X11_burning_0 (d := 59) (by omega) σ _ _ (fun c => absurd (by rw [e9]; exact (is_H _ n).mpr ⟨x, hx, rfl⟩) c) (fun _ c => absurd ((in_R _ 1 999).mpr ⟨v, hv1, hv, rfl⟩) c) (fun _ _ => ?_)
      refine (ct_live (by omega) hb hC).mono ?_
      rintro r u ⟨rfl, rfl⟩
      refine ⟨_, rfl, s_X11_burning_26 (by omega) _ _ _ _ ?_⟩
      refine (ct_fall_D (by omega) hok (st_C hb hC) hK hx hv1 hv).mono ?_
      rintro r u ⟨rfl, u1, u2, u3, u4⟩
      exact ⟨_, rfl, s_X11_burning_31 (by omega) u _ ⟨rfl, u1.mono scr_scC⟩⟩
    · refine ax_Ct.of (lv := [some (ax_r 0), some (ax_i (nI x)), some (ax_i (nI v))]) (by decide +kernel) (fun ad => Nat.le_of_ble_eq_true rfl) (fun ad => rfl) ?_
      refine s_X12_burning_0 (d := 59) (by omega) τ _ _ (fun c => absurd (by rw [e23]; exact (is_Hm _ n).mpr ⟨x, hx, rfl⟩) c) (fun _ c => absurd ((in_R _ 1 999).mpr ⟨v, hv1, hv, rfl⟩) c) (fun _ _ => ?_)
      refine (ct_X12_burningBy (by omega) hok hM.1 hM.2.2.1 hKm hx hv1 hv).mono ?_
      rintro r u ⟨rfl, u1, -⟩
      exact ⟨_, rfl, s_X12_burning_21 (by omega) u _ ⟨rfl, u1.mono scm_scM⟩⟩
  · refine good.ask h (-1) ?_ ?_
    · refine ax_Ct.of (lv := [some (ax_r 0), some (ax_i a0), some (ax_i a1)]) (by decide +kernel) (fun ad => Nat.le_of_ble_eq_true rfl) (fun ad => rfl) ?_
      exact s_X11_burning_0 (d := 59) (by omega) σ _ _ (fun _ => ⟨rfl, fo.rfl'⟩) (fun _ _ => ⟨rfl, fo.rfl'⟩) (fun c1 c2 => absurd ⟨(is_H _ n).mp (by rw [← e9]; exact c1), (in_R _ 1 999).mp c2⟩ g)
    · refine ax_Ct.of (lv := [some (ax_r 0), some (ax_i a0), some (ax_i a1)]) (by decide +kernel) (fun ad => Nat.le_of_ble_eq_true rfl) (fun ad => rfl) ?_
      exact s_X12_burning_0 (d := 59) (by omega) τ _ _ (fun _ => ⟨rfl, fo.rfl'⟩) (fun _ _ => ⟨rfl, fo.rfl'⟩) (fun c1 c2 => absurd ⟨(is_Hm _ n).mp (by rw [← e23]; exact c1), (in_R _ 1 999).mp c2⟩ g)
theorem good_lost {j : Nat} {σ τ : ax_S} (h : RR j σ τ) (a0 a1 : Int32) : good j mX11_lost mX12_lost [ax_i a0, ax_i a1] σ τ := by
  obtain ⟨n, E, D, dry, kp, hb, hlg, hC, hM, hok, hK, hKm, -⟩ := h.stroke
  have hn := hb.2.1
  have e9 : σ.1 5 9 = nI n := hC.1
  have e23 : τ.1 0 23 = nI n := hM.1
  by_cases g : (∃ x, x < n ∧ a0 = nI x) ∧ ∃ k, 1 ≤ k ∧ k ≤ 999 ∧ a1 = nI k
  · obtain ⟨⟨x, hx, rfl⟩, v, hv1, hv, rfl⟩ := g
    refine good.ask h (nI (dk_run D kp x v).2) ?_ ?_
    · refine ax_Ct.of (lv := [some (ax_r 0), some (ax_i (nI x)), some (ax_i (nI v))]) (by decide +kernel) (fun ad => Nat.le_of_ble_eq_true rfl) (fun ad => rfl) ?_
      refine s_X11_lost_0 (d := 59) (by omega) σ _ _ (fun c => absurd (by rw [e9]; exact (is_H _ n).mpr ⟨x, hx, rfl⟩) c) (fun _ _ => ?_) (fun _ c => absurd ((in_R _ 1 999).mpr ⟨v, hv1, hv, rfl⟩) c)
      refine (ct_live (by omega) hb hC).mono ?_
      rintro r u ⟨rfl, rfl⟩
      refine ⟨_, rfl, s_X11_lost_28 (by omega) _ _ _ _ ?_⟩
      refine (ct_fall_D (by omega) hok (st_C hb hC) hK hx hv1 hv).mono ?_
      rintro r u ⟨rfl, u1, u2, u3, u4⟩
      exact ⟨_, rfl, s_X11_lost_33 (by omega) u _ ⟨by rw [u3], u1.mono scr_scC⟩⟩
    · refine ax_Ct.of (lv := [some (ax_r 0), some (ax_i (nI x)), some (ax_i (nI v))]) (by decide +kernel) (fun ad => Nat.le_of_ble_eq_true rfl) (fun ad => rfl) ?_
      refine s_X12_lost_0 (d := 59) (by omega) τ _ _ (fun c => absurd (by rw [e23]; exact (is_Hm _ n).mpr ⟨x, hx, rfl⟩) c) (fun _ _ => ?_) (fun _ c => absurd ((in_R _ 1 999).mpr ⟨v, hv1, hv, rfl⟩) c)
      refine (ct_X12_layStroke (by omega) hok hM.2.2.1 hKm hx hv1 hv).mono ?_
      rintro r u ⟨rfl, u1, u2, u3, u4⟩
      exact ⟨rfl, s_X12_lost_23 (by omega) u ⟨by rw [u3], u1.mono scm_scM⟩⟩
  · refine good.ask h (-1) ?_ ?_
    · refine ax_Ct.of (lv := [some (ax_r 0), some (ax_i a0), some (ax_i a1)]) (by decide +kernel) (fun ad => Nat.le_of_ble_eq_true rfl) (fun ad => rfl) ?_
      exact s_X11_lost_0 (d := 59) (by omega) σ _ _ (fun _ => ⟨rfl, fo.rfl'⟩) (fun c1 c2 => absurd ⟨(is_H _ n).mp (by rw [← e9]; exact c1), (in_R _ 1 999).mp c2⟩ g) (fun _ _ => ⟨rfl, fo.rfl'⟩)
    · refine ax_Ct.of (lv := [some (ax_r 0), some (ax_i a0), some (ax_i a1)]) (by decide +kernel) (fun ad => Nat.le_of_ble_eq_true rfl) (fun ad => rfl) ?_
      exact s_X12_lost_0 (d := 59) (by omega) τ _ _ (fun _ => ⟨rfl, fo.rfl'⟩) (fun c1 c2 => absurd ⟨(is_Hm _ n).mp (by rw [← e23]; exact c1), (in_R _ 1 999).mp c2⟩ g) (fun _ _ => ⟨rfl, fo.rfl'⟩)
