set_option maxRecDepth 20000 in
theorem f_X11_isStroke {sh : List ax_H} (σ : ax_S) (a0 : Int32)  {d : Nat} (hd : 1 ≤ d) : ax_Ct sh d mX11_isStroke [ax_i a0] (fun r u => r = some (ax_i (if ((¬ (a0 < (1 : Int32))) ∧ (¬ ((999 : Int32) < a0))) then (1 : Int32) else 0)) ∧ u = σ) σ := by
  obtain ⟨d, rfl⟩ : ∃ e, d = e + 1 := ⟨d - 1, by omega⟩
  refine ax_Ct.of (lv := [some (ax_i a0)]) (by decide +kernel) (fun ad => Nat.le_of_ble_eq_true rfl) (fun ad => rfl) ?_
  refine ax_iload_n (q := 1) (i := 0) dX11_isStroke_0 rfl rfl rfl ?_
  refine ax_iconst (q := 2) dX11_isStroke_1 rfl ki_1 ?_
  have K3 : ax_W sh (d + 1) mX11_isStroke (fun r u => r = some (ax_i (if ((¬ (a0 < (1 : Int32))) ∧ (¬ ((999 : Int32) < a0))) then (1 : Int32) else 0)) ∧ u = σ) 17 [some (ax_i a0)] [ax_i (if ((¬ (a0 < (1 : Int32))) ∧ (¬ ((999 : Int32) < a0))) then (1 : Int32) else 0)] σ := by
    exact ax_iret dX11_isStroke_17 rfl (ax_nb _) ⟨rfl, rfl⟩
  refine ax_icmp_lt (tgt := 16) (q := 5) dX11_isStroke_2 (by decide) rfl (fun c1 => ?_) (fun c1 => ?_)
  · refine ax_iconst (q := 17) dX11_isStroke_16 rfl ki_0 ?_
    exact ax_cv (if_neg (fun z => (fun y => y c1) z.1)) K3
  · refine ax_iload_n (q := 6) (i := 0) dX11_isStroke_5 rfl rfl rfl ?_
    refine ax_sipush (q := 9) dX11_isStroke_6 rfl ks_999 ?_
    refine ax_icmp_gt (tgt := 16) (q := 12) dX11_isStroke_9 (by decide) rfl (fun c2 => ?_) (fun c2 => ?_)
    · refine ax_iconst (q := 17) dX11_isStroke_16 rfl ki_0 ?_
      exact ax_cv (if_neg (fun z => (fun y => y c2) z.2)) K3
    · refine ax_iconst (q := 13) dX11_isStroke_12 rfl ki_1 ?_
      refine ax_goto (tgt := 17) dX11_isStroke_13 (by decide) ?_
      exact ax_cv (if_pos ⟨c1, c2⟩) K3
set_option maxRecDepth 20000 in
theorem f_X11_refuse (σ : ax_S) (a0 : Int32) (h1 : vp_in a0 5) {d : Nat} (hd : 1 ≤ d) : ax_Ct shC d mX11_refuse [ax_r 0, ax_i a0] (fun r u => r = some (ax_i (-1 : Int32)) ∧ u = (ax_ui σ 13 (Int32.toNatClampNeg a0) ((σ.1 13 (Int32.toNatClampNeg a0)) + (1 : Int32)))) σ := by
  obtain ⟨d, rfl⟩ : ∃ e, d = e + 1 := ⟨d - 1, by omega⟩
  refine ax_Ct.of (lv := [some (ax_r 0), some (ax_i a0)]) (by decide +kernel) (fun ad => Nat.le_of_ble_eq_true rfl) (fun ad => rfl) ?_
  refine ax_aload_n (q := 1) (i := 0) dX11_refuse_0 rfl rfl rfl ?_
  refine ax_get (q := 4) (k := 0) (j := 12) (v := ax_r 13) dX11_refuse_1 rfl shC_0 rfl rfl rfl (by decide) fl_X11_96 ?_
  refine ax_iload_n (q := 5) (i := 1) dX11_refuse_4 rfl rfl rfl ?_
  refine ax_dup2_11 (q := 6) dX11_refuse_5 rfl ?_
  refine ax_iald (q := 7) (a := (Int32.toNatClampNeg a0)) (v := (σ.1 13 (Int32.toNatClampNeg a0))) dX11_refuse_6 rfl shC_13 h1 rfl rfl ?_
  refine ax_iconst (q := 8) dX11_refuse_7 rfl ki_1 ?_
  refine ax_iadd (q := 9) dX11_refuse_8 rfl ?_
  refine ax_iast (q := 10) (a := (Int32.toNatClampNeg a0)) dX11_refuse_9 rfl shC_13 h1 rfl ?_
  refine ax_iconst (q := 11) dX11_refuse_10 rfl ki_m1 ?_
  exact ax_iret dX11_refuse_11 rfl rfl ⟨rfl, rfl⟩
set_option maxRecDepth 20000 in
theorem s_X11_remember_0 {d : Nat} (hd : 0 ≤ d) {Q : Option ax_V → ax_S → Prop} (σ : ax_S)  (k1 : ax_Ct shC d mX5_remember [ax_r 7, ax_r 5, ax_i (σ.1 8 2)] (fun r u => r = none ∧ ax_W shC (d + 1) mX11_remember Q 18 [none] [] u) σ) : ax_W shC (d + 1) mX11_remember Q 0 [some (ax_r 0)] [] σ := by
  refine ax_aload_n (q := 1) (i := 0) dX11_remember_0 rfl rfl rfl ?_
  refine ax_get (q := 4) (k := 0) (j := 6) (v := ax_r 7) dX11_remember_1 rfl shC_0 rfl rfl rfl (by decide) fl_X11_58 ?_
  refine ax_aload_n (q := 5) (i := 0) dX11_remember_4 rfl rfl rfl ?_
  refine ax_get (q := 8) (k := 0) (j := 4) (v := ax_r 5) dX11_remember_5 rfl shC_0 rfl rfl rfl (by decide) fl_X11_42 ?_
  refine ax_aload_n (q := 9) (i := 0) dX11_remember_8 rfl rfl rfl ?_
  refine ax_get (q := 12) (k := 0) (j := 7) (v := ax_r 8) dX11_remember_9 rfl shC_0 rfl rfl rfl (by decide) fl_X11_65 ?_
  refine ax_get (q := 15) (k := 8) (j := 2) (v := ax_i (σ.1 8 2)) dX11_remember_12 rfl shC_8 rfl rfl rfl (by decide) fl_X11_297 ?_
  refine ax_fg (lv2 := [none]) trivial ?_
  exact ax_callVcv (q := 18) (As := [ax_r 5, ax_i (σ.1 8 2)]) (st := []) dX11_remember_15 rfl lk_X11_435 shC_7 rfl rfl rfl rfl (Nat.le_of_ble_eq_true rfl) k1
set_option maxRecDepth 20000 in
theorem s_X11_remember_18 {d : Nat} (hd : 0 ≤ d) {Q : Option ax_V → ax_S → Prop} (σ : ax_S)  (k1 : Q none σ) : ax_W shC (d + 1) mX11_remember Q 18 [none] [] σ := by
  exact ax_vret dX11_remember_18 rfl k1
set_option maxRecDepth 20000 in
theorem s_X11_strikeNow_0 {d : Nat} (hd : 0 ≤ d) {Q : Option ax_V → ax_S → Prop} (σ : ax_S) (a0 : Int32) (a1 : Int32) (k1 : ax_Ct shC d mX0_live [ax_r 5] (fun r u => ∃ x : Int32, r = some (ax_i x) ∧ ax_W shC (d + 1) mX11_strikeNow Q 11 [some (ax_r 0), some (ax_i a0), some (ax_i a1), none] (ax_i x :: [ax_r 6]) u) σ) : ax_W shC (d + 1) mX11_strikeNow Q 0 [some (ax_r 0), some (ax_i a0), some (ax_i a1), none] [] σ := by
  refine ax_aload_n (q := 1) (i := 0) dX11_strikeNow_0 rfl rfl rfl ?_
  refine ax_get (q := 4) (k := 0) (j := 5) (v := ax_r 6) dX11_strikeNow_1 rfl shC_0 rfl rfl rfl (by decide) fl_X11_51 ?_
  refine ax_aload_n (q := 5) (i := 0) dX11_strikeNow_4 rfl rfl rfl ?_
  refine ax_get (q := 8) (k := 0) (j := 4) (v := ax_r 5) dX11_strikeNow_5 rfl shC_0 rfl rfl rfl (by decide) fl_X11_42 ?_
  exact ax_callVci (q := 11) (As := []) (st := [ax_r 6]) dX11_strikeNow_8 rfl lk_X11_185 shC_5 rfl rfl rfl rfl (Nat.le_of_ble_eq_true rfl) k1
set_option maxRecDepth 20000 in
theorem s_X11_strikeNow_11 {d : Nat} (hd : 0 ≤ d) {Q : Option ax_V → ax_S → Prop} (σ : ax_S) (x1 : Int32) (x2 : Int32) (rr : Int32) (k1 : ax_Ct shC d mX8_fall [ax_r 6, ax_i rr, ax_i x1, ax_i x2] (fun r u => ∃ x : Int32, r = some (ax_i x) ∧ ax_W shC (d + 1) mX11_strikeNow Q 16 [some (ax_r 0), some (ax_i x1), some (ax_i x2), none] (ax_i x :: []) u) σ) : ax_W shC (d + 1) mX11_strikeNow Q 11 [some (ax_r 0), some (ax_i x1), some (ax_i x2), none] [ax_i rr, ax_r 6] σ := by
  refine ax_iload_n (q := 12) (i := 1) dX11_strikeNow_11 rfl rfl rfl ?_
  refine ax_iload_n (q := 13) (i := 2) dX11_strikeNow_12 rfl rfl rfl ?_
  exact ax_callVci (q := 16) (As := [ax_i rr, ax_i x1, ax_i x2]) (st := []) dX11_strikeNow_13 rfl lk_X11_311 shC_6 rfl rfl rfl rfl (Nat.le_of_ble_eq_true rfl) k1
set_option maxRecDepth 20000 in
theorem s_X11_strikeNow_16 {d : Nat} (hd : 0 ≤ d) {Q : Option ax_V → ax_S → Prop} (σ : ax_S) (x1 : Int32) (x2 : Int32) (rr : Int32) (k1 : ax_Ct shC d mX0_scorch [ax_r 5, ax_i rr] (fun r u => r = none ∧ ax_W shC (d + 1) mX11_strikeNow Q 25 [some (ax_r 0), some (ax_i x1), some (ax_i x2), some (ax_i rr)] [] u) σ) : ax_W shC (d + 1) mX11_strikeNow Q 16 [some (ax_r 0), some (ax_i x1), some (ax_i x2), none] [ax_i rr] σ := by
  refine ax_istore_n (q := 17) (i := 3) (lv2 := [some (ax_r 0), some (ax_i x1), some (ax_i x2), some (ax_i rr)]) dX11_strikeNow_16 rfl rfl (by decide) rfl rfl ?_
  refine ax_aload_n (q := 18) (i := 0) dX11_strikeNow_17 rfl rfl rfl ?_
  refine ax_get (q := 21) (k := 0) (j := 4) (v := ax_r 5) dX11_strikeNow_18 rfl shC_0 rfl rfl rfl (by decide) fl_X11_42 ?_
  refine ax_iload_n (q := 22) (i := 3) dX11_strikeNow_21 rfl rfl rfl ?_
  exact ax_callVcv (q := 25) (As := [ax_i rr]) (st := []) dX11_strikeNow_22 rfl lk_X11_438 shC_5 rfl rfl rfl rfl (Nat.le_of_ble_eq_true rfl) k1
set_option maxRecDepth 20000 in
theorem s_X11_strikeNow_25 {d : Nat} (hd : 1 ≤ d) {Q : Option ax_V → ax_S → Prop} (σ : ax_S) (x1 : Int32) (x2 : Int32) (x3 : Int32) (h1 : vp_in (((σ.1 8 2) - (σ.1 8 2) / (128 : Int32) * (128 : Int32)) * (3 : Int32)) 384) (h2 : vp_in ((((σ.1 8 2) - (σ.1 8 2) / (128 : Int32) * (128 : Int32)) * (3 : Int32)) + (1 : Int32)) 384) (h3 : vp_in ((((σ.1 8 2) - (σ.1 8 2) / (128 : Int32) * (128 : Int32)) * (3 : Int32)) + (2 : Int32)) 384) (k4 : Q (some (ax_i x3)) (ax_ui (ax_ui (ax_ui (ax_ui σ 37 (Int32.toNatClampNeg (((σ.1 8 2) - (σ.1 8 2) / (128 : Int32) * (128 : Int32)) * (3 : Int32))) x1) 37 (Int32.toNatClampNeg ((((σ.1 8 2) - (σ.1 8 2) / (128 : Int32) * (128 : Int32)) * (3 : Int32)) + (1 : Int32))) x2) 37 (Int32.toNatClampNeg ((((σ.1 8 2) - (σ.1 8 2) / (128 : Int32) * (128 : Int32)) * (3 : Int32)) + (2 : Int32))) x3) 8 2 ((σ.1 8 2) + (1 : Int32)))) : ax_W shC (d + 1) mX11_strikeNow Q 25 [some (ax_r 0), some (ax_i x1), some (ax_i x2), some (ax_i x3)] [] σ := by
  refine ax_aload_n (q := 26) (i := 0) dX11_strikeNow_25 rfl rfl rfl ?_
  refine ax_get (q := 29) (k := 0) (j := 7) (v := ax_r 8) dX11_strikeNow_26 rfl shC_0 rfl rfl rfl (by decide) fl_X11_65 ?_
  refine ax_iload_n (q := 30) (i := 1) dX11_strikeNow_29 rfl rfl rfl ?_
  refine ax_iload_n (q := 31) (i := 2) dX11_strikeNow_30 rfl rfl rfl ?_
  refine ax_iload_n (q := 32) (i := 3) dX11_strikeNow_31 rfl rfl rfl ?_
  refine ax_callVfv (q := 35) (As := [ax_i x1, ax_i x2, ax_i x3]) (st := []) (σ2 := (ax_ui (ax_ui (ax_ui (ax_ui σ 37 (Int32.toNatClampNeg (((σ.1 8 2) - (σ.1 8 2) / (128 : Int32) * (128 : Int32)) * (3 : Int32))) x1) 37 (Int32.toNatClampNeg ((((σ.1 8 2) - (σ.1 8 2) / (128 : Int32) * (128 : Int32)) * (3 : Int32)) + (1 : Int32))) x2) 37 (Int32.toNatClampNeg ((((σ.1 8 2) - (σ.1 8 2) / (128 : Int32) * (128 : Int32)) * (3 : Int32)) + (2 : Int32))) x3) 8 2 ((σ.1 8 2) + (1 : Int32)))) dX11_strikeNow_32 rfl lk_X11_441 shC_8 rfl rfl rfl rfl (Nat.le_of_ble_eq_true rfl) (f_X2_add σ x1 x2 x3 (by decide) h1 h2 h3 (d := d) (by omega)) ?_
  refine ax_iload_n (q := 36) (i := 3) dX11_strikeNow_35 rfl rfl rfl ?_
  exact ax_iret dX11_strikeNow_36 rfl rfl k4
set_option maxRecDepth 20000 in
theorem s_X11_strike_0 {d : Nat} (hd : 1 ≤ d) {Q : Option ax_V → ax_S → Prop} (σ : ax_S) (a0 : Int32) (a1 : Int32) (k1 : ((¬ (a0 < 0)) ∧ (¬ ((σ.1 5 9) ≤ a0))) → ((¬ (a1 < (1 : Int32))) ∧ (¬ ((999 : Int32) < a1))) → ax_Ct shC d mX11_remember [ax_r 0] (fun r u => r = none ∧ ax_W shC (d + 1) mX11_strike Q 31 [some (ax_r 0), some (ax_i a0), some (ax_i a1)] [] u) σ) (k2 : ((¬ (a0 < 0)) ∧ (¬ ((σ.1 5 9) ≤ a0))) → (¬ ((¬ (a1 < (1 : Int32))) ∧ (¬ ((999 : Int32) < a1)))) → Q (some (ax_i (-1 : Int32))) (ax_ui σ 13 1 ((σ.1 13 1) + (1 : Int32)))) (k3 : (¬ ((¬ (a0 < 0)) ∧ (¬ ((σ.1 5 9) ≤ a0)))) → Q (some (ax_i (-1 : Int32))) (ax_ui σ 13 0 ((σ.1 13 0) + (1 : Int32)))) : ax_W shC (d + 1) mX11_strike Q 0 [some (ax_r 0), some (ax_i a0), some (ax_i a1)] [] σ := by
  refine ax_aload_n (q := 1) (i := 0) dX11_strike_0 rfl rfl rfl ?_
  refine ax_iload_n (q := 2) (i := 1) dX11_strike_1 rfl rfl rfl ?_
  refine ax_callVfi (q := 5) (As := [ax_i a0]) (st := []) (x := (if ((¬ (a0 < 0)) ∧ (¬ ((σ.1 5 9) ≤ a0))) then (1 : Int32) else 0)) (σ2 := σ) dX11_strike_2 rfl lk_X11_160 shC_0 rfl rfl rfl rfl (Nat.le_of_ble_eq_true rfl) (f_X11_isHouse σ a0  (d := d) (by omega)) ?_
  refine ax_if_neB (tgt := 14) (q := 8) dX11_strike_5 (by decide) rfl (fun c1 => ?_) (fun c1 => ?_)
  · refine ax_iload_n (q := 15) (i := 2) dX11_strike_14 rfl rfl rfl ?_
    refine ax_callSfi (q := 18) (As := [ax_i a1]) (st := []) (x := (if ((¬ (a1 < (1 : Int32))) ∧ (¬ ((999 : Int32) < a1))) then (1 : Int32) else 0)) (σ2 := σ) dX11_strike_15 rfl lk_X11_245 rfl rfl (Nat.le_of_ble_eq_true rfl) (f_X11_isStroke (sh := shC) σ a1  (d := d) (by omega)) ?_
    refine ax_if_neB (tgt := 27) (q := 21) dX11_strike_18 (by decide) rfl (fun c2 => ?_) (fun c2 => ?_)
    · refine ax_aload_n (q := 28) (i := 0) dX11_strike_27 rfl rfl rfl ?_
      exact ax_callVcv (q := 31) (As := []) (st := []) dX11_strike_28 rfl lk_X11_248 shC_0 rfl rfl rfl rfl (Nat.le_of_ble_eq_true rfl) (k1 c1 c2)
    · refine ax_aload_n (q := 22) (i := 0) dX11_strike_21 rfl rfl rfl ?_
      refine ax_iconst (q := 23) dX11_strike_22 rfl ki_1 ?_
      refine ax_callVfi (q := 26) (As := [ax_i (1 : Int32)]) (st := []) (x := (-1 : Int32)) (σ2 := (ax_ui σ 13 1 ((σ.1 13 1) + (1 : Int32)))) dX11_strike_23 rfl lk_X11_242 shC_0 rfl rfl rfl rfl (Nat.le_of_ble_eq_true rfl) (f_X11_refuse σ (1 : Int32) (ax_inl 1 5 (by decide) (by decide)) (d := d) (by omega)) ?_
      exact ax_iret dX11_strike_26 rfl rfl (k2 c1 c2)
  · refine ax_aload_n (q := 9) (i := 0) dX11_strike_8 rfl rfl rfl ?_
    refine ax_iconst (q := 10) dX11_strike_9 rfl ki_0 ?_
    refine ax_callVfi (q := 13) (As := [ax_i (0 : Int32)]) (st := []) (x := (-1 : Int32)) (σ2 := (ax_ui σ 13 0 ((σ.1 13 0) + (1 : Int32)))) dX11_strike_10 rfl lk_X11_242 shC_0 rfl rfl rfl rfl (Nat.le_of_ble_eq_true rfl) (f_X11_refuse σ (0 : Int32) (ax_inl 0 5 (by decide) (by decide)) (d := d) (by omega)) ?_
    exact ax_iret dX11_strike_13 rfl rfl (k3 c1)
set_option maxRecDepth 20000 in
theorem s_X11_strike_31 {d : Nat} (hd : 0 ≤ d) {Q : Option ax_V → ax_S → Prop} (σ : ax_S) (x1 : Int32) (x2 : Int32) (k1 : ax_Ct shC d mX11_strikeNow [ax_r 0, ax_i x1, ax_i x2] (fun r u => ∃ x : Int32, r = some (ax_i x) ∧ ax_W shC (d + 1) mX11_strike Q 37 [none, none, none] (ax_i x :: []) u) σ) : ax_W shC (d + 1) mX11_strike Q 31 [some (ax_r 0), some (ax_i x1), some (ax_i x2)] [] σ := by
  refine ax_aload_n (q := 32) (i := 0) dX11_strike_31 rfl rfl rfl ?_
  refine ax_iload_n (q := 33) (i := 1) dX11_strike_32 rfl rfl rfl ?_
  refine ax_iload_n (q := 34) (i := 2) dX11_strike_33 rfl rfl rfl ?_
  refine ax_fg (lv2 := [none, none, none]) trivial ?_
  exact ax_callVci (q := 37) (As := [ax_i x1, ax_i x2]) (st := []) dX11_strike_34 rfl lk_X11_251 shC_0 rfl rfl rfl rfl (Nat.le_of_ble_eq_true rfl) k1
set_option maxRecDepth 20000 in
theorem s_X11_strike_37 {d : Nat} (hd : 0 ≤ d) {Q : Option ax_V → ax_S → Prop} (σ : ax_S) (rr : Int32) (k1 : Q (some (ax_i rr)) σ) : ax_W shC (d + 1) mX11_strike Q 37 [none, none, none] [ax_i rr] σ := by
  exact ax_iret dX11_strike_37 rfl rfl k1
set_option maxRecDepth 20000 in
theorem f_X11_areTwoHouses (σ : ax_S) (a0 : Int32) (a1 : Int32)  {d : Nat} (hd : 2 ≤ d) : ax_Ct shC d mX11_areTwoHouses [ax_r 0, ax_i a0, ax_i a1] (fun r u => r = some (ax_i (if (((¬ (a0 < 0)) ∧ (¬ ((σ.1 5 9) ≤ a0))) ∧ (((¬ (a1 < 0)) ∧ (¬ ((σ.1 5 9) ≤ a1))) ∧ (¬ (a0 = a1)))) then (1 : Int32) else 0)) ∧ u = σ) σ := by
  obtain ⟨d, rfl⟩ : ∃ e, d = e + 1 := ⟨d - 1, by omega⟩
  refine ax_Ct.of (lv := [some (ax_r 0), some (ax_i a0), some (ax_i a1)]) (by decide +kernel) (fun ad => Nat.le_of_ble_eq_true rfl) (fun ad => rfl) ?_
  refine ax_aload_n (q := 1) (i := 0) dX11_areTwoHouses_0 rfl rfl rfl ?_
  refine ax_iload_n (q := 2) (i := 1) dX11_areTwoHouses_1 rfl rfl rfl ?_
  refine ax_callVfi (q := 5) (As := [ax_i a0]) (st := []) (x := (if ((¬ (a0 < 0)) ∧ (¬ ((σ.1 5 9) ≤ a0))) then (1 : Int32) else 0)) (σ2 := σ) dX11_areTwoHouses_2 rfl lk_X11_160 shC_0 rfl rfl rfl rfl (Nat.le_of_ble_eq_true rfl) (f_X11_isHouse σ a0  (d := d) (by omega)) ?_
  have K4 : ax_W shC (d + 1) mX11_areTwoHouses (fun r u => r = some (ax_i (if (((¬ (a0 < 0)) ∧ (¬ ((σ.1 5 9) ≤ a0))) ∧ (((¬ (a1 < 0)) ∧ (¬ ((σ.1 5 9) ≤ a1))) ∧ (¬ (a0 = a1)))) then (1 : Int32) else 0)) ∧ u = σ) 26 [some (ax_r 0), some (ax_i a0), some (ax_i a1)] [ax_i (if (((¬ (a0 < 0)) ∧ (¬ ((σ.1 5 9) ≤ a0))) ∧ (((¬ (a1 < 0)) ∧ (¬ ((σ.1 5 9) ≤ a1))) ∧ (¬ (a0 = a1)))) then (1 : Int32) else 0)] σ := by
    exact ax_iret dX11_areTwoHouses_26 rfl (ax_nb _) ⟨rfl, rfl⟩
  refine ax_if_eqB (tgt := 25) (q := 8) dX11_areTwoHouses_5 (by decide) rfl (fun c1 => ?_) (fun c1 => ?_)
  · refine ax_iconst (q := 26) dX11_areTwoHouses_25 rfl ki_0 ?_
    exact ax_cv (if_neg (fun z => c1 z.1)) K4
  · refine ax_aload_n (q := 9) (i := 0) dX11_areTwoHouses_8 rfl rfl rfl ?_
    refine ax_iload_n (q := 10) (i := 2) dX11_areTwoHouses_9 rfl rfl rfl ?_
    refine ax_callVfi (q := 13) (As := [ax_i a1]) (st := []) (x := (if ((¬ (a1 < 0)) ∧ (¬ ((σ.1 5 9) ≤ a1))) then (1 : Int32) else 0)) (σ2 := σ) dX11_areTwoHouses_10 rfl lk_X11_160 shC_0 rfl rfl rfl rfl (Nat.le_of_ble_eq_true rfl) (f_X11_isHouse σ a1  (d := d) (by omega)) ?_
    refine ax_if_eqB (tgt := 25) (q := 16) dX11_areTwoHouses_13 (by decide) rfl (fun c2 => ?_) (fun c2 => ?_)
    · refine ax_iconst (q := 26) dX11_areTwoHouses_25 rfl ki_0 ?_
      exact ax_cv (if_neg (fun z => (fun z => c2 z.1) z.2)) K4
    · refine ax_iload_n (q := 17) (i := 1) dX11_areTwoHouses_16 rfl rfl rfl ?_
      refine ax_iload_n (q := 18) (i := 2) dX11_areTwoHouses_17 rfl rfl rfl ?_
      refine ax_icmp_eq (tgt := 25) (q := 21) dX11_areTwoHouses_18 (by decide) rfl (fun c3 => ?_) (fun c3 => ?_)
      · refine ax_iconst (q := 26) dX11_areTwoHouses_25 rfl ki_0 ?_
        exact ax_cv (if_neg (fun z => (fun z => (fun y => y c3) z.2) z.2)) K4
      · refine ax_iconst (q := 22) dX11_areTwoHouses_21 rfl ki_1 ?_
        refine ax_goto (tgt := 26) dX11_areTwoHouses_22 (by decide) ?_
        exact ax_cv (if_pos ⟨c1, ⟨c2, c3⟩⟩) K4
set_option maxRecDepth 20000 in
theorem s_X11_lay_0 {d : Nat} (hd : 2 ≤ d) {Q : Option ax_V → ax_S → Prop} (σ : ax_S) (a0 : Int32) (a1 : Int32) (k1 : (((¬ (a0 < 0)) ∧ (¬ ((σ.1 5 9) ≤ a0))) ∧ (((¬ (a1 < 0)) ∧ (¬ ((σ.1 5 9) ≤ a1))) ∧ (¬ (a0 = a1)))) → ax_Ct shC d mX0_mayJoin [ax_r 5, ax_i a0, ax_i a1] (fun r u => ∃ x : Int32, r = some (ax_i x) ∧ ax_W shC (d + 1) mX11_lay Q 24 [some (ax_r 0), some (ax_i a0), some (ax_i a1)] (ax_i x :: []) u) σ) (k2 : (¬ (((¬ (a0 < 0)) ∧ (¬ ((σ.1 5 9) ≤ a0))) ∧ (((¬ (a1 < 0)) ∧ (¬ ((σ.1 5 9) ≤ a1))) ∧ (¬ (a0 = a1))))) → Q (some (ax_i (-1 : Int32))) (ax_ui σ 13 0 ((σ.1 13 0) + (1 : Int32)))) : ax_W shC (d + 1) mX11_lay Q 0 [some (ax_r 0), some (ax_i a0), some (ax_i a1)] [] σ := by
  refine ax_aload_n (q := 1) (i := 0) dX11_lay_0 rfl rfl rfl ?_
  refine ax_iload_n (q := 2) (i := 1) dX11_lay_1 rfl rfl rfl ?_
  refine ax_iload_n (q := 3) (i := 2) dX11_lay_2 rfl rfl rfl ?_
  refine ax_callVfi (q := 6) (As := [ax_i a0, ax_i a1]) (st := []) (x := (if (((¬ (a0 < 0)) ∧ (¬ ((σ.1 5 9) ≤ a0))) ∧ (((¬ (a1 < 0)) ∧ (¬ ((σ.1 5 9) ≤ a1))) ∧ (¬ (a0 = a1)))) then (1 : Int32) else 0)) (σ2 := σ) dX11_lay_3 rfl lk_X11_254 shC_0 rfl rfl rfl rfl (Nat.le_of_ble_eq_true rfl) (f_X11_areTwoHouses σ a0 a1  (d := d) (by omega)) ?_
  refine ax_if_neB (tgt := 15) (q := 9) dX11_lay_6 (by decide) rfl (fun c1 => ?_) (fun c1 => ?_)
  · refine ax_aload_n (q := 16) (i := 0) dX11_lay_15 rfl rfl rfl ?_
    refine ax_get (q := 19) (k := 0) (j := 4) (v := ax_r 5) dX11_lay_16 rfl shC_0 rfl rfl rfl (by decide) fl_X11_42 ?_
    refine ax_iload_n (q := 20) (i := 1) dX11_lay_19 rfl rfl rfl ?_
    refine ax_iload_n (q := 21) (i := 2) dX11_lay_20 rfl rfl rfl ?_
    exact ax_callVci (q := 24) (As := [ax_i a0, ax_i a1]) (st := []) dX11_lay_21 rfl lk_X11_258 shC_5 rfl rfl rfl rfl (Nat.le_of_ble_eq_true rfl) (k1 c1)
  · refine ax_aload_n (q := 10) (i := 0) dX11_lay_9 rfl rfl rfl ?_
    refine ax_iconst (q := 11) dX11_lay_10 rfl ki_0 ?_
    refine ax_callVfi (q := 14) (As := [ax_i (0 : Int32)]) (st := []) (x := (-1 : Int32)) (σ2 := (ax_ui σ 13 0 ((σ.1 13 0) + (1 : Int32)))) dX11_lay_11 rfl lk_X11_242 shC_0 rfl rfl rfl rfl (Nat.le_of_ble_eq_true rfl) (f_X11_refuse σ (0 : Int32) (ax_inl 0 5 (by decide) (by decide)) (d := d) (by omega)) ?_
    exact ax_iret dX11_lay_14 rfl rfl (k2 c1)
set_option maxRecDepth 20000 in
theorem s_X11_lay_24 {d : Nat} (hd : 2 ≤ d) {Q : Option ax_V → ax_S → Prop} (σ : ax_S) (x1 : Int32) (x2 : Int32) (rr : Int32) (k1 : (rr = 0) → Q (some (ax_i (-1 : Int32))) (ax_ui σ 13 2 ((σ.1 13 2) + (1 : Int32)))) (h2 : (¬ (rr = 0)) → ((σ.1 5 10) < (16 : Int32)) → vp_in x1 8) (h3 : (¬ (rr = 0)) → ((σ.1 5 10) < (16 : Int32)) → vp_in x2 8) (k4 : (¬ (rr = 0)) → ((σ.1 5 10) < (16 : Int32)) → ((if (1 : Int32) < (if (0 : Int32) ≤ ((σ.1 23 (Int32.toNatClampNeg x1)) - (σ.1 23 (Int32.toNatClampNeg x2))) then ((σ.1 23 (Int32.toNatClampNeg x1)) - (σ.1 23 (Int32.toNatClampNeg x2))) else 0 - ((σ.1 23 (Int32.toNatClampNeg x1)) - (σ.1 23 (Int32.toNatClampNeg x2)))) then (if (0 : Int32) ≤ ((σ.1 23 (Int32.toNatClampNeg x1)) - (σ.1 23 (Int32.toNatClampNeg x2))) then ((σ.1 23 (Int32.toNatClampNeg x1)) - (σ.1 23 (Int32.toNatClampNeg x2))) else 0 - ((σ.1 23 (Int32.toNatClampNeg x1)) - (σ.1 23 (Int32.toNatClampNeg x2)))) else (1 : Int32)) ≤ (σ.1 5 12)) → ax_Ct shC d mX11_remember [ax_r 0] (fun r u => r = none ∧ ax_W shC (d + 1) mX11_lay Q 74 [some (ax_r 0), some (ax_i x1), some (ax_i x2)] [] u) σ) (k5 : (¬ (rr = 0)) → ((σ.1 5 10) < (16 : Int32)) → (¬ ((if (1 : Int32) < (if (0 : Int32) ≤ ((σ.1 23 (Int32.toNatClampNeg x1)) - (σ.1 23 (Int32.toNatClampNeg x2))) then ((σ.1 23 (Int32.toNatClampNeg x1)) - (σ.1 23 (Int32.toNatClampNeg x2))) else 0 - ((σ.1 23 (Int32.toNatClampNeg x1)) - (σ.1 23 (Int32.toNatClampNeg x2)))) then (if (0 : Int32) ≤ ((σ.1 23 (Int32.toNatClampNeg x1)) - (σ.1 23 (Int32.toNatClampNeg x2))) then ((σ.1 23 (Int32.toNatClampNeg x1)) - (σ.1 23 (Int32.toNatClampNeg x2))) else 0 - ((σ.1 23 (Int32.toNatClampNeg x1)) - (σ.1 23 (Int32.toNatClampNeg x2)))) else (1 : Int32)) ≤ (σ.1 5 12))) → Q (some (ax_i (-1 : Int32))) (ax_ui σ 13 4 ((σ.1 13 4) + (1 : Int32)))) (k6 : (¬ (rr = 0)) → (¬ ((σ.1 5 10) < (16 : Int32))) → Q (some (ax_i (-1 : Int32))) (ax_ui σ 13 2 ((σ.1 13 2) + (1 : Int32)))) : ax_W shC (d + 1) mX11_lay Q 24 [some (ax_r 0), some (ax_i x1), some (ax_i x2)] [ax_i rr] σ := by
  refine ax_if_eq (tgt := 39) (q := 27) dX11_lay_24 (by decide) rfl (fun c1 => ?_) (fun c1 => ?_)
  · refine ax_aload_n (q := 40) (i := 0) dX11_lay_39 rfl rfl rfl ?_
    refine ax_iconst (q := 41) dX11_lay_40 rfl ki_2 ?_
    refine ax_callVfi (q := 44) (As := [ax_i (2 : Int32)]) (st := []) (x := (-1 : Int32)) (σ2 := (ax_ui σ 13 2 ((σ.1 13 2) + (1 : Int32)))) dX11_lay_41 rfl lk_X11_242 shC_0 rfl rfl rfl rfl (Nat.le_of_ble_eq_true rfl) (f_X11_refuse σ (2 : Int32) (ax_inl 2 5 (by decide) (by decide)) (d := d) (by omega)) ?_
    exact ax_iret dX11_lay_44 rfl rfl (k1 c1)
  · refine ax_aload_n (q := 28) (i := 0) dX11_lay_27 rfl rfl rfl ?_
    refine ax_get (q := 31) (k := 0) (j := 4) (v := ax_r 5) dX11_lay_28 rfl shC_0 rfl rfl rfl (by decide) fl_X11_42 ?_
    refine ax_get (q := 34) (k := 5) (j := 10) (v := ax_i (σ.1 5 10)) dX11_lay_31 rfl shC_5 rfl rfl rfl (by decide) fl_X11_221 ?_
    refine ax_bipush (q := 36) dX11_lay_34 rfl kb_16 ?_
    refine ax_icmp_lt (tgt := 45) (q := 39) dX11_lay_36 (by decide) rfl (fun c2 => ?_) (fun c2 => ?_)
    · refine ax_aload_n (q := 46) (i := 0) dX11_lay_45 rfl rfl rfl ?_
      refine ax_get (q := 49) (k := 0) (j := 4) (v := ax_r 5) dX11_lay_46 rfl shC_0 rfl rfl rfl (by decide) fl_X11_42 ?_
      refine ax_get (q := 52) (k := 5) (j := 12) (v := ax_i (σ.1 5 12)) dX11_lay_49 rfl shC_5 rfl rfl rfl (by decide) fl_X11_227 ?_
      refine ax_aload_n (q := 53) (i := 0) dX11_lay_52 rfl rfl rfl ?_
      refine ax_get (q := 56) (k := 0) (j := 4) (v := ax_r 5) dX11_lay_53 rfl shC_0 rfl rfl rfl (by decide) fl_X11_42 ?_
      refine ax_iload_n (q := 57) (i := 1) dX11_lay_56 rfl rfl rfl ?_
      refine ax_iload_n (q := 58) (i := 2) dX11_lay_57 rfl rfl rfl ?_
      refine ax_callVfi (q := 61) (As := [ax_i x1, ax_i x2]) (st := [ax_i (σ.1 5 12)]) (x := (if (1 : Int32) < (if (0 : Int32) ≤ ((σ.1 23 (Int32.toNatClampNeg x1)) - (σ.1 23 (Int32.toNatClampNeg x2))) then ((σ.1 23 (Int32.toNatClampNeg x1)) - (σ.1 23 (Int32.toNatClampNeg x2))) else 0 - ((σ.1 23 (Int32.toNatClampNeg x1)) - (σ.1 23 (Int32.toNatClampNeg x2)))) then (if (0 : Int32) ≤ ((σ.1 23 (Int32.toNatClampNeg x1)) - (σ.1 23 (Int32.toNatClampNeg x2))) then ((σ.1 23 (Int32.toNatClampNeg x1)) - (σ.1 23 (Int32.toNatClampNeg x2))) else 0 - ((σ.1 23 (Int32.toNatClampNeg x1)) - (σ.1 23 (Int32.toNatClampNeg x2)))) else (1 : Int32))) (σ2 := σ) dX11_lay_58 rfl lk_X11_261 shC_5 rfl rfl rfl rfl (Nat.le_of_ble_eq_true rfl) (f_X0_price σ x1 x2 (h2 c1 c2) (h3 c1 c2) (d := d) (by omega)) ?_
      refine ax_icmp_ge (tgt := 70) (q := 64) dX11_lay_61 (by decide) rfl (fun c3 => ?_) (fun c3 => ?_)
      · refine ax_aload_n (q := 71) (i := 0) dX11_lay_70 rfl rfl rfl ?_
        exact ax_callVcv (q := 74) (As := []) (st := []) dX11_lay_71 rfl lk_X11_248 shC_0 rfl rfl rfl rfl (Nat.le_of_ble_eq_true rfl) (k4 c1 c2 c3)
      · refine ax_aload_n (q := 65) (i := 0) dX11_lay_64 rfl rfl rfl ?_
        refine ax_iconst (q := 66) dX11_lay_65 rfl ki_4 ?_
        refine ax_callVfi (q := 69) (As := [ax_i (4 : Int32)]) (st := []) (x := (-1 : Int32)) (σ2 := (ax_ui σ 13 4 ((σ.1 13 4) + (1 : Int32)))) dX11_lay_66 rfl lk_X11_242 shC_0 rfl rfl rfl rfl (Nat.le_of_ble_eq_true rfl) (f_X11_refuse σ (4 : Int32) (ax_inl 4 5 (by decide) (by decide)) (d := d) (by omega)) ?_
        exact ax_iret dX11_lay_69 rfl rfl (k5 c1 c2 c3)
    · refine ax_aload_n (q := 40) (i := 0) dX11_lay_39 rfl rfl rfl ?_
      refine ax_iconst (q := 41) dX11_lay_40 rfl ki_2 ?_
      refine ax_callVfi (q := 44) (As := [ax_i (2 : Int32)]) (st := []) (x := (-1 : Int32)) (σ2 := (ax_ui σ 13 2 ((σ.1 13 2) + (1 : Int32)))) dX11_lay_41 rfl lk_X11_242 shC_0 rfl rfl rfl rfl (Nat.le_of_ble_eq_true rfl) (f_X11_refuse σ (2 : Int32) (ax_inl 2 5 (by decide) (by decide)) (d := d) (by omega)) ?_
      exact ax_iret dX11_lay_44 rfl rfl (k6 c1 c2)
set_option maxRecDepth 20000 in
theorem s_X11_lay_74 {d : Nat} (hd : 2 ≤ d) {Q : Option ax_V → ax_S → Prop} (σ : ax_S) (x1 : Int32) (x2 : Int32) (h1 : vp_in x1 8) (h2 : vp_in x2 8) (k3 : ax_Ct shC d mX0_think [ax_r 5, ax_i x1, ax_i x2] (fun r u => r = none ∧ ax_W shC (d + 1) mX11_lay Q 104 [some (ax_r 0), none, none] [] u) (ax_ui σ 5 12 ((σ.1 5 12) - (if (1 : Int32) < (if (0 : Int32) ≤ ((σ.1 23 (Int32.toNatClampNeg x1)) - (σ.1 23 (Int32.toNatClampNeg x2))) then ((σ.1 23 (Int32.toNatClampNeg x1)) - (σ.1 23 (Int32.toNatClampNeg x2))) else 0 - ((σ.1 23 (Int32.toNatClampNeg x1)) - (σ.1 23 (Int32.toNatClampNeg x2)))) then (if (0 : Int32) ≤ ((σ.1 23 (Int32.toNatClampNeg x1)) - (σ.1 23 (Int32.toNatClampNeg x2))) then ((σ.1 23 (Int32.toNatClampNeg x1)) - (σ.1 23 (Int32.toNatClampNeg x2))) else 0 - ((σ.1 23 (Int32.toNatClampNeg x1)) - (σ.1 23 (Int32.toNatClampNeg x2)))) else (1 : Int32))))) : ax_W shC (d + 1) mX11_lay Q 74 [some (ax_r 0), some (ax_i x1), some (ax_i x2)] [] σ := by
  refine ax_aload_n (q := 75) (i := 0) dX11_lay_74 rfl rfl rfl ?_
  refine ax_get (q := 78) (k := 0) (j := 4) (v := ax_r 5) dX11_lay_75 rfl shC_0 rfl rfl rfl (by decide) fl_X11_42 ?_
  refine ax_dupr (q := 79) dX11_lay_78 rfl ?_
  refine ax_get (q := 82) (k := 5) (j := 12) (v := ax_i (σ.1 5 12)) dX11_lay_79 rfl shC_5 rfl rfl rfl (by decide) fl_X11_227 ?_
  refine ax_aload_n (q := 83) (i := 0) dX11_lay_82 rfl rfl rfl ?_
  refine ax_get (q := 86) (k := 0) (j := 4) (v := ax_r 5) dX11_lay_83 rfl shC_0 rfl rfl rfl (by decide) fl_X11_42 ?_
  refine ax_iload_n (q := 87) (i := 1) dX11_lay_86 rfl rfl rfl ?_
  refine ax_iload_n (q := 88) (i := 2) dX11_lay_87 rfl rfl rfl ?_
  refine ax_callVfi (q := 91) (As := [ax_i x1, ax_i x2]) (st := [ax_i (σ.1 5 12), ax_r 5]) (x := (if (1 : Int32) < (if (0 : Int32) ≤ ((σ.1 23 (Int32.toNatClampNeg x1)) - (σ.1 23 (Int32.toNatClampNeg x2))) then ((σ.1 23 (Int32.toNatClampNeg x1)) - (σ.1 23 (Int32.toNatClampNeg x2))) else 0 - ((σ.1 23 (Int32.toNatClampNeg x1)) - (σ.1 23 (Int32.toNatClampNeg x2)))) then (if (0 : Int32) ≤ ((σ.1 23 (Int32.toNatClampNeg x1)) - (σ.1 23 (Int32.toNatClampNeg x2))) then ((σ.1 23 (Int32.toNatClampNeg x1)) - (σ.1 23 (Int32.toNatClampNeg x2))) else 0 - ((σ.1 23 (Int32.toNatClampNeg x1)) - (σ.1 23 (Int32.toNatClampNeg x2)))) else (1 : Int32))) (σ2 := σ) dX11_lay_88 rfl lk_X11_261 shC_5 rfl rfl rfl rfl (Nat.le_of_ble_eq_true rfl) (f_X0_price σ x1 x2 h1 h2 (d := d) (by omega)) ?_
  refine ax_isub (q := 92) dX11_lay_91 rfl ?_
  refine ax_puti (q := 95) (k := 5) (j := 12) dX11_lay_92 rfl shC_5 rfl rfl (by decide) fl_X11_227 rfl rfl rfl rfl ?_
  refine ax_aload_n (q := 96) (i := 0) dX11_lay_95 rfl rfl rfl ?_
  refine ax_get (q := 99) (k := 0) (j := 4) (v := ax_r 5) dX11_lay_96 rfl shC_0 rfl rfl rfl (by decide) fl_X11_42 ?_
  refine ax_iload_n (q := 100) (i := 1) dX11_lay_99 rfl rfl rfl ?_
  refine ax_iload_n (q := 101) (i := 2) dX11_lay_100 rfl rfl rfl ?_
  refine ax_fg (lv2 := [some (ax_r 0), none, none]) ⟨rfl, trivial⟩ ?_
  exact ax_callVcv (q := 104) (As := [ax_i x1, ax_i x2]) (st := []) dX11_lay_101 rfl lk_X11_264 shC_5 rfl rfl rfl rfl (Nat.le_of_ble_eq_true rfl) k3
set_option maxRecDepth 20000 in
theorem s_X11_lay_104 {d : Nat} (hd : 0 ≤ d) {Q : Option ax_V → ax_S → Prop} (σ : ax_S)  (k1 : Q (some (ax_i (((σ.1 5 10) + (1 : Int32)) - (1 : Int32)))) (ax_ui σ 5 10 ((σ.1 5 10) + (1 : Int32)))) : ax_W shC (d + 1) mX11_lay Q 104 [some (ax_r 0), none, none] [] σ := by
  refine ax_aload_n (q := 105) (i := 0) dX11_lay_104 rfl rfl rfl ?_
  refine ax_get (q := 108) (k := 0) (j := 4) (v := ax_r 5) dX11_lay_105 rfl shC_0 rfl rfl rfl (by decide) fl_X11_42 ?_
  refine ax_dupr (q := 109) dX11_lay_108 rfl ?_
  refine ax_get (q := 112) (k := 5) (j := 10) (v := ax_i (σ.1 5 10)) dX11_lay_109 rfl shC_5 rfl rfl rfl (by decide) fl_X11_221 ?_
  refine ax_iconst (q := 113) dX11_lay_112 rfl ki_1 ?_
  refine ax_iadd (q := 114) dX11_lay_113 rfl ?_
  refine ax_puti (q := 117) (k := 5) (j := 10) dX11_lay_114 rfl shC_5 rfl rfl (by decide) fl_X11_221 rfl rfl rfl rfl ?_
  refine ax_aload_n (q := 118) (i := 0) dX11_lay_117 rfl rfl rfl ?_
  refine ax_get (q := 121) (k := 0) (j := 4) (v := ax_r 5) dX11_lay_118 rfl shC_0 rfl rfl rfl (by decide) fl_X11_42 ?_
  refine ax_get (q := 124) (k := 5) (j := 10) (v := ax_i ((σ.1 5 10) + (1 : Int32))) dX11_lay_121 rfl shC_5 rfl rfl rfl (by decide) fl_X11_221 ?_
  refine ax_iconst (q := 125) dX11_lay_124 rfl ki_1 ?_
  refine ax_isub (q := 126) dX11_lay_125 rfl ?_
  exact ax_iret dX11_lay_126 rfl rfl k1
set_option maxRecDepth 20000 in
theorem s_X11_cut_0 {d : Nat} (hd : 1 ≤ d) {Q : Option ax_V → ax_S → Prop} (σ : ax_S) (a0 : Int32) (k1 : ((¬ (a0 < 0)) ∧ (¬ ((σ.1 5 10) ≤ a0))) → (¬ (((σ.1 5 11) >>> (a0 &&& 31)) &&& (1 : Int32)) = (1 : Int32)) → ax_Ct shC d mX11_remember [ax_r 0] (fun r u => r = none ∧ ax_W shC (d + 1) mX11_cut Q 39 [some (ax_r 0), some (ax_i a0)] [] u) σ) (k2 : ((¬ (a0 < 0)) ∧ (¬ ((σ.1 5 10) ≤ a0))) → (¬ (¬ (((σ.1 5 11) >>> (a0 &&& 31)) &&& (1 : Int32)) = (1 : Int32))) → Q (some (ax_i (-1 : Int32))) (ax_ui σ 13 3 ((σ.1 13 3) + (1 : Int32)))) (k3 : (¬ ((¬ (a0 < 0)) ∧ (¬ ((σ.1 5 10) ≤ a0)))) → Q (some (ax_i (-1 : Int32))) (ax_ui σ 13 0 ((σ.1 13 0) + (1 : Int32)))) : ax_W shC (d + 1) mX11_cut Q 0 [some (ax_r 0), some (ax_i a0)] [] σ := by
  refine ax_aload_n (q := 1) (i := 0) dX11_cut_0 rfl rfl rfl ?_
  refine ax_iload_n (q := 2) (i := 1) dX11_cut_1 rfl rfl rfl ?_
  refine ax_callVfi (q := 5) (As := [ax_i a0]) (st := []) (x := (if ((¬ (a0 < 0)) ∧ (¬ ((σ.1 5 10) ≤ a0))) then (1 : Int32) else 0)) (σ2 := σ) dX11_cut_2 rfl lk_X11_200 shC_0 rfl rfl rfl rfl (Nat.le_of_ble_eq_true rfl) (f_X11_isWire σ a0  (d := d) (by omega)) ?_
  refine ax_if_neB (tgt := 14) (q := 8) dX11_cut_5 (by decide) rfl (fun c1 => ?_) (fun c1 => ?_)
  · refine ax_aload_n (q := 15) (i := 0) dX11_cut_14 rfl rfl rfl ?_
    refine ax_get (q := 18) (k := 0) (j := 4) (v := ax_r 5) dX11_cut_15 rfl shC_0 rfl rfl rfl (by decide) fl_X11_42 ?_
    refine ax_get (q := 21) (k := 5) (j := 11) (v := ax_i (σ.1 5 11)) dX11_cut_18 rfl shC_5 rfl rfl rfl (by decide) fl_X11_212 ?_
    refine ax_iload_n (q := 22) (i := 1) dX11_cut_21 rfl rfl rfl ?_
    refine ax_callSfi (q := 25) (As := [ax_i (σ.1 5 11), ax_i a0]) (st := []) (x := (((σ.1 5 11) >>> (a0 &&& 31)) &&& (1 : Int32))) (σ2 := σ) dX11_cut_22 rfl lk_X11_215 rfl rfl (Nat.le_of_ble_eq_true rfl) (f_X11_bitOf (sh := shC) σ (σ.1 5 11) a0  (d := d) (by omega)) ?_
    refine ax_iconst (q := 26) dX11_cut_25 rfl ki_1 ?_
    refine ax_icmp_ne (tgt := 35) (q := 29) dX11_cut_26 (by decide) rfl (fun c2 => ?_) (fun c2 => ?_)
    · refine ax_aload_n (q := 36) (i := 0) dX11_cut_35 rfl rfl rfl ?_
      exact ax_callVcv (q := 39) (As := []) (st := []) dX11_cut_36 rfl lk_X11_248 shC_0 rfl rfl rfl rfl (Nat.le_of_ble_eq_true rfl) (k1 c1 c2)
    · refine ax_aload_n (q := 30) (i := 0) dX11_cut_29 rfl rfl rfl ?_
      refine ax_iconst (q := 31) dX11_cut_30 rfl ki_3 ?_
      refine ax_callVfi (q := 34) (As := [ax_i (3 : Int32)]) (st := []) (x := (-1 : Int32)) (σ2 := (ax_ui σ 13 3 ((σ.1 13 3) + (1 : Int32)))) dX11_cut_31 rfl lk_X11_242 shC_0 rfl rfl rfl rfl (Nat.le_of_ble_eq_true rfl) (f_X11_refuse σ (3 : Int32) (ax_inl 3 5 (by decide) (by decide)) (d := d) (by omega)) ?_
      exact ax_iret dX11_cut_34 rfl rfl (k2 c1 c2)
  · refine ax_aload_n (q := 9) (i := 0) dX11_cut_8 rfl rfl rfl ?_
    refine ax_iconst (q := 10) dX11_cut_9 rfl ki_0 ?_
    refine ax_callVfi (q := 13) (As := [ax_i (0 : Int32)]) (st := []) (x := (-1 : Int32)) (σ2 := (ax_ui σ 13 0 ((σ.1 13 0) + (1 : Int32)))) dX11_cut_10 rfl lk_X11_242 shC_0 rfl rfl rfl rfl (Nat.le_of_ble_eq_true rfl) (f_X11_refuse σ (0 : Int32) (ax_inl 0 5 (by decide) (by decide)) (d := d) (by omega)) ?_
    exact ax_iret dX11_cut_13 rfl rfl (k3 c1)
set_option maxRecDepth 20000 in
theorem s_X11_cut_39 {d : Nat} (hd : 2 ≤ d) {Q : Option ax_V → ax_S → Prop} (σ : ax_S) (x1 : Int32) (h1 : vp_in x1 17) (h2 : vp_in (σ.1 28 (Int32.toNatClampNeg x1)) 8) (h3 : vp_in (σ.1 29 (Int32.toNatClampNeg x1)) 8) (k4 : Q (some (ax_i (if ((σ.1 5 12) + ((if (1 : Int32) < (if (0 : Int32) ≤ ((σ.1 23 (Int32.toNatClampNeg (σ.1 28 (Int32.toNatClampNeg x1)))) - (σ.1 23 (Int32.toNatClampNeg (σ.1 29 (Int32.toNatClampNeg x1))))) then ((σ.1 23 (Int32.toNatClampNeg (σ.1 28 (Int32.toNatClampNeg x1)))) - (σ.1 23 (Int32.toNatClampNeg (σ.1 29 (Int32.toNatClampNeg x1))))) else 0 - ((σ.1 23 (Int32.toNatClampNeg (σ.1 28 (Int32.toNatClampNeg x1)))) - (σ.1 23 (Int32.toNatClampNeg (σ.1 29 (Int32.toNatClampNeg x1)))))) then (if (0 : Int32) ≤ ((σ.1 23 (Int32.toNatClampNeg (σ.1 28 (Int32.toNatClampNeg x1)))) - (σ.1 23 (Int32.toNatClampNeg (σ.1 29 (Int32.toNatClampNeg x1))))) then ((σ.1 23 (Int32.toNatClampNeg (σ.1 28 (Int32.toNatClampNeg x1)))) - (σ.1 23 (Int32.toNatClampNeg (σ.1 29 (Int32.toNatClampNeg x1))))) else 0 - ((σ.1 23 (Int32.toNatClampNeg (σ.1 28 (Int32.toNatClampNeg x1)))) - (σ.1 23 (Int32.toNatClampNeg (σ.1 29 (Int32.toNatClampNeg x1)))))) else (1 : Int32)) / (2 : Int32))) < (99 : Int32) then ((σ.1 5 12) + ((if (1 : Int32) < (if (0 : Int32) ≤ ((σ.1 23 (Int32.toNatClampNeg (σ.1 28 (Int32.toNatClampNeg x1)))) - (σ.1 23 (Int32.toNatClampNeg (σ.1 29 (Int32.toNatClampNeg x1))))) then ((σ.1 23 (Int32.toNatClampNeg (σ.1 28 (Int32.toNatClampNeg x1)))) - (σ.1 23 (Int32.toNatClampNeg (σ.1 29 (Int32.toNatClampNeg x1))))) else 0 - ((σ.1 23 (Int32.toNatClampNeg (σ.1 28 (Int32.toNatClampNeg x1)))) - (σ.1 23 (Int32.toNatClampNeg (σ.1 29 (Int32.toNatClampNeg x1)))))) then (if (0 : Int32) ≤ ((σ.1 23 (Int32.toNatClampNeg (σ.1 28 (Int32.toNatClampNeg x1)))) - (σ.1 23 (Int32.toNatClampNeg (σ.1 29 (Int32.toNatClampNeg x1))))) then ((σ.1 23 (Int32.toNatClampNeg (σ.1 28 (Int32.toNatClampNeg x1)))) - (σ.1 23 (Int32.toNatClampNeg (σ.1 29 (Int32.toNatClampNeg x1))))) else 0 - ((σ.1 23 (Int32.toNatClampNeg (σ.1 28 (Int32.toNatClampNeg x1)))) - (σ.1 23 (Int32.toNatClampNeg (σ.1 29 (Int32.toNatClampNeg x1)))))) else (1 : Int32)) / (2 : Int32))) else (99 : Int32)))) (ax_ui (ax_ui σ 5 11 ((σ.1 5 11) ||| ((1 : Int32) <<< (x1 &&& 31)))) 5 12 (if ((σ.1 5 12) + ((if (1 : Int32) < (if (0 : Int32) ≤ ((σ.1 23 (Int32.toNatClampNeg (σ.1 28 (Int32.toNatClampNeg x1)))) - (σ.1 23 (Int32.toNatClampNeg (σ.1 29 (Int32.toNatClampNeg x1))))) then ((σ.1 23 (Int32.toNatClampNeg (σ.1 28 (Int32.toNatClampNeg x1)))) - (σ.1 23 (Int32.toNatClampNeg (σ.1 29 (Int32.toNatClampNeg x1))))) else 0 - ((σ.1 23 (Int32.toNatClampNeg (σ.1 28 (Int32.toNatClampNeg x1)))) - (σ.1 23 (Int32.toNatClampNeg (σ.1 29 (Int32.toNatClampNeg x1)))))) then (if (0 : Int32) ≤ ((σ.1 23 (Int32.toNatClampNeg (σ.1 28 (Int32.toNatClampNeg x1)))) - (σ.1 23 (Int32.toNatClampNeg (σ.1 29 (Int32.toNatClampNeg x1))))) then ((σ.1 23 (Int32.toNatClampNeg (σ.1 28 (Int32.toNatClampNeg x1)))) - (σ.1 23 (Int32.toNatClampNeg (σ.1 29 (Int32.toNatClampNeg x1))))) else 0 - ((σ.1 23 (Int32.toNatClampNeg (σ.1 28 (Int32.toNatClampNeg x1)))) - (σ.1 23 (Int32.toNatClampNeg (σ.1 29 (Int32.toNatClampNeg x1)))))) else (1 : Int32)) / (2 : Int32))) < (99 : Int32) then ((σ.1 5 12) + ((if (1 : Int32) < (if (0 : Int32) ≤ ((σ.1 23 (Int32.toNatClampNeg (σ.1 28 (Int32.toNatClampNeg x1)))) - (σ.1 23 (Int32.toNatClampNeg (σ.1 29 (Int32.toNatClampNeg x1))))) then ((σ.1 23 (Int32.toNatClampNeg (σ.1 28 (Int32.toNatClampNeg x1)))) - (σ.1 23 (Int32.toNatClampNeg (σ.1 29 (Int32.toNatClampNeg x1))))) else 0 - ((σ.1 23 (Int32.toNatClampNeg (σ.1 28 (Int32.toNatClampNeg x1)))) - (σ.1 23 (Int32.toNatClampNeg (σ.1 29 (Int32.toNatClampNeg x1)))))) then (if (0 : Int32) ≤ ((σ.1 23 (Int32.toNatClampNeg (σ.1 28 (Int32.toNatClampNeg x1)))) - (σ.1 23 (Int32.toNatClampNeg (σ.1 29 (Int32.toNatClampNeg x1))))) then ((σ.1 23 (Int32.toNatClampNeg (σ.1 28 (Int32.toNatClampNeg x1)))) - (σ.1 23 (Int32.toNatClampNeg (σ.1 29 (Int32.toNatClampNeg x1))))) else 0 - ((σ.1 23 (Int32.toNatClampNeg (σ.1 28 (Int32.toNatClampNeg x1)))) - (σ.1 23 (Int32.toNatClampNeg (σ.1 29 (Int32.toNatClampNeg x1)))))) else (1 : Int32)) / (2 : Int32))) else (99 : Int32)))) : ax_W shC (d + 1) mX11_cut Q 39 [some (ax_r 0), some (ax_i x1)] [] σ := by
  refine ax_aload_n (q := 40) (i := 0) dX11_cut_39 rfl rfl rfl ?_
  refine ax_get (q := 43) (k := 0) (j := 4) (v := ax_r 5) dX11_cut_40 rfl shC_0 rfl rfl rfl (by decide) fl_X11_42 ?_
  refine ax_dupr (q := 44) dX11_cut_43 rfl ?_
  refine ax_get (q := 47) (k := 5) (j := 11) (v := ax_i (σ.1 5 11)) dX11_cut_44 rfl shC_5 rfl rfl rfl (by decide) fl_X11_212 ?_
  refine ax_iconst (q := 48) dX11_cut_47 rfl ki_1 ?_
  refine ax_iload_n (q := 49) (i := 1) dX11_cut_48 rfl rfl rfl ?_
  refine ax_ishl (q := 50) dX11_cut_49 rfl ?_
  refine ax_ior (q := 51) dX11_cut_50 rfl ?_
  refine ax_puti (q := 54) (k := 5) (j := 11) dX11_cut_51 rfl shC_5 rfl rfl (by decide) fl_X11_212 rfl rfl rfl rfl ?_
  refine ax_aload_n (q := 55) (i := 0) dX11_cut_54 rfl rfl rfl ?_
  refine ax_get (q := 58) (k := 0) (j := 4) (v := ax_r 5) dX11_cut_55 rfl shC_0 rfl rfl rfl (by decide) fl_X11_42 ?_
  refine ax_aload_n (q := 59) (i := 0) dX11_cut_58 rfl rfl rfl ?_
  refine ax_get (q := 62) (k := 0) (j := 4) (v := ax_r 5) dX11_cut_59 rfl shC_0 rfl rfl rfl (by decide) fl_X11_42 ?_
  refine ax_aload_n (q := 63) (i := 0) dX11_cut_62 rfl rfl rfl ?_
  refine ax_get (q := 66) (k := 0) (j := 4) (v := ax_r 5) dX11_cut_63 rfl shC_0 rfl rfl rfl (by decide) fl_X11_42 ?_
  refine ax_get (q := 69) (k := 5) (j := 5) (v := ax_r 28) dX11_cut_66 rfl shC_5 rfl rfl rfl (by decide) fl_X11_203 ?_
  refine ax_iload_n (q := 70) (i := 1) dX11_cut_69 rfl rfl rfl ?_
  refine ax_iald (q := 71) (a := (Int32.toNatClampNeg x1)) (v := (σ.1 28 (Int32.toNatClampNeg x1))) dX11_cut_70 rfl shC_28 h1 rfl rfl ?_
  refine ax_aload_n (q := 72) (i := 0) dX11_cut_71 rfl rfl rfl ?_
  refine ax_get (q := 75) (k := 0) (j := 4) (v := ax_r 5) dX11_cut_72 rfl shC_0 rfl rfl rfl (by decide) fl_X11_42 ?_
  refine ax_get (q := 78) (k := 5) (j := 6) (v := ax_r 29) dX11_cut_75 rfl shC_5 rfl rfl rfl (by decide) fl_X11_206 ?_
  refine ax_iload_n (q := 79) (i := 1) dX11_cut_78 rfl rfl rfl ?_
  refine ax_iald (q := 80) (a := (Int32.toNatClampNeg x1)) (v := (σ.1 29 (Int32.toNatClampNeg x1))) dX11_cut_79 rfl shC_29 h1 rfl rfl ?_
  refine ax_callVfi (q := 83) (As := [ax_i (σ.1 28 (Int32.toNatClampNeg x1)), ax_i (σ.1 29 (Int32.toNatClampNeg x1))]) (st := [ax_r 5]) (x := (if (1 : Int32) < (if (0 : Int32) ≤ ((σ.1 23 (Int32.toNatClampNeg (σ.1 28 (Int32.toNatClampNeg x1)))) - (σ.1 23 (Int32.toNatClampNeg (σ.1 29 (Int32.toNatClampNeg x1))))) then ((σ.1 23 (Int32.toNatClampNeg (σ.1 28 (Int32.toNatClampNeg x1)))) - (σ.1 23 (Int32.toNatClampNeg (σ.1 29 (Int32.toNatClampNeg x1))))) else 0 - ((σ.1 23 (Int32.toNatClampNeg (σ.1 28 (Int32.toNatClampNeg x1)))) - (σ.1 23 (Int32.toNatClampNeg (σ.1 29 (Int32.toNatClampNeg x1)))))) then (if (0 : Int32) ≤ ((σ.1 23 (Int32.toNatClampNeg (σ.1 28 (Int32.toNatClampNeg x1)))) - (σ.1 23 (Int32.toNatClampNeg (σ.1 29 (Int32.toNatClampNeg x1))))) then ((σ.1 23 (Int32.toNatClampNeg (σ.1 28 (Int32.toNatClampNeg x1)))) - (σ.1 23 (Int32.toNatClampNeg (σ.1 29 (Int32.toNatClampNeg x1))))) else 0 - ((σ.1 23 (Int32.toNatClampNeg (σ.1 28 (Int32.toNatClampNeg x1)))) - (σ.1 23 (Int32.toNatClampNeg (σ.1 29 (Int32.toNatClampNeg x1)))))) else (1 : Int32))) (σ2 := (ax_ui σ 5 11 ((σ.1 5 11) ||| ((1 : Int32) <<< (x1 &&& 31))))) dX11_cut_80 rfl lk_X11_261 shC_5 rfl rfl rfl rfl (Nat.le_of_ble_eq_true rfl) (f_X0_price (ax_ui σ 5 11 ((σ.1 5 11) ||| ((1 : Int32) <<< (x1 &&& 31)))) (σ.1 28 (Int32.toNatClampNeg x1)) (σ.1 29 (Int32.toNatClampNeg x1)) h2 h3 (d := d) (by omega)) ?_
  refine ax_iconst (q := 84) dX11_cut_83 rfl ki_2 ?_
  refine ax_idiv (q := 85) dX11_cut_84 rfl (by decide) ?_
  refine ax_callVfv (q := 88) (As := [ax_i ((if (1 : Int32) < (if (0 : Int32) ≤ ((σ.1 23 (Int32.toNatClampNeg (σ.1 28 (Int32.toNatClampNeg x1)))) - (σ.1 23 (Int32.toNatClampNeg (σ.1 29 (Int32.toNatClampNeg x1))))) then ((σ.1 23 (Int32.toNatClampNeg (σ.1 28 (Int32.toNatClampNeg x1)))) - (σ.1 23 (Int32.toNatClampNeg (σ.1 29 (Int32.toNatClampNeg x1))))) else 0 - ((σ.1 23 (Int32.toNatClampNeg (σ.1 28 (Int32.toNatClampNeg x1)))) - (σ.1 23 (Int32.toNatClampNeg (σ.1 29 (Int32.toNatClampNeg x1)))))) then (if (0 : Int32) ≤ ((σ.1 23 (Int32.toNatClampNeg (σ.1 28 (Int32.toNatClampNeg x1)))) - (σ.1 23 (Int32.toNatClampNeg (σ.1 29 (Int32.toNatClampNeg x1))))) then ((σ.1 23 (Int32.toNatClampNeg (σ.1 28 (Int32.toNatClampNeg x1)))) - (σ.1 23 (Int32.toNatClampNeg (σ.1 29 (Int32.toNatClampNeg x1))))) else 0 - ((σ.1 23 (Int32.toNatClampNeg (σ.1 28 (Int32.toNatClampNeg x1)))) - (σ.1 23 (Int32.toNatClampNeg (σ.1 29 (Int32.toNatClampNeg x1)))))) else (1 : Int32)) / (2 : Int32))]) (st := []) (σ2 := (ax_ui (ax_ui σ 5 11 ((σ.1 5 11) ||| ((1 : Int32) <<< (x1 &&& 31)))) 5 12 (if ((σ.1 5 12) + ((if (1 : Int32) < (if (0 : Int32) ≤ ((σ.1 23 (Int32.toNatClampNeg (σ.1 28 (Int32.toNatClampNeg x1)))) - (σ.1 23 (Int32.toNatClampNeg (σ.1 29 (Int32.toNatClampNeg x1))))) then ((σ.1 23 (Int32.toNatClampNeg (σ.1 28 (Int32.toNatClampNeg x1)))) - (σ.1 23 (Int32.toNatClampNeg (σ.1 29 (Int32.toNatClampNeg x1))))) else 0 - ((σ.1 23 (Int32.toNatClampNeg (σ.1 28 (Int32.toNatClampNeg x1)))) - (σ.1 23 (Int32.toNatClampNeg (σ.1 29 (Int32.toNatClampNeg x1)))))) then (if (0 : Int32) ≤ ((σ.1 23 (Int32.toNatClampNeg (σ.1 28 (Int32.toNatClampNeg x1)))) - (σ.1 23 (Int32.toNatClampNeg (σ.1 29 (Int32.toNatClampNeg x1))))) then ((σ.1 23 (Int32.toNatClampNeg (σ.1 28 (Int32.toNatClampNeg x1)))) - (σ.1 23 (Int32.toNatClampNeg (σ.1 29 (Int32.toNatClampNeg x1))))) else 0 - ((σ.1 23 (Int32.toNatClampNeg (σ.1 28 (Int32.toNatClampNeg x1)))) - (σ.1 23 (Int32.toNatClampNeg (σ.1 29 (Int32.toNatClampNeg x1)))))) else (1 : Int32)) / (2 : Int32))) < (99 : Int32) then ((σ.1 5 12) + ((if (1 : Int32) < (if (0 : Int32) ≤ ((σ.1 23 (Int32.toNatClampNeg (σ.1 28 (Int32.toNatClampNeg x1)))) - (σ.1 23 (Int32.toNatClampNeg (σ.1 29 (Int32.toNatClampNeg x1))))) then ((σ.1 23 (Int32.toNatClampNeg (σ.1 28 (Int32.toNatClampNeg x1)))) - (σ.1 23 (Int32.toNatClampNeg (σ.1 29 (Int32.toNatClampNeg x1))))) else 0 - ((σ.1 23 (Int32.toNatClampNeg (σ.1 28 (Int32.toNatClampNeg x1)))) - (σ.1 23 (Int32.toNatClampNeg (σ.1 29 (Int32.toNatClampNeg x1)))))) then (if (0 : Int32) ≤ ((σ.1 23 (Int32.toNatClampNeg (σ.1 28 (Int32.toNatClampNeg x1)))) - (σ.1 23 (Int32.toNatClampNeg (σ.1 29 (Int32.toNatClampNeg x1))))) then ((σ.1 23 (Int32.toNatClampNeg (σ.1 28 (Int32.toNatClampNeg x1)))) - (σ.1 23 (Int32.toNatClampNeg (σ.1 29 (Int32.toNatClampNeg x1))))) else 0 - ((σ.1 23 (Int32.toNatClampNeg (σ.1 28 (Int32.toNatClampNeg x1)))) - (σ.1 23 (Int32.toNatClampNeg (σ.1 29 (Int32.toNatClampNeg x1)))))) else (1 : Int32)) / (2 : Int32))) else (99 : Int32)))) dX11_cut_85 rfl lk_X11_268 shC_5 rfl rfl rfl rfl (Nat.le_of_ble_eq_true rfl) (f_X0_addCopper (ax_ui σ 5 11 ((σ.1 5 11) ||| ((1 : Int32) <<< (x1 &&& 31)))) ((if (1 : Int32) < (if (0 : Int32) ≤ ((σ.1 23 (Int32.toNatClampNeg (σ.1 28 (Int32.toNatClampNeg x1)))) - (σ.1 23 (Int32.toNatClampNeg (σ.1 29 (Int32.toNatClampNeg x1))))) then ((σ.1 23 (Int32.toNatClampNeg (σ.1 28 (Int32.toNatClampNeg x1)))) - (σ.1 23 (Int32.toNatClampNeg (σ.1 29 (Int32.toNatClampNeg x1))))) else 0 - ((σ.1 23 (Int32.toNatClampNeg (σ.1 28 (Int32.toNatClampNeg x1)))) - (σ.1 23 (Int32.toNatClampNeg (σ.1 29 (Int32.toNatClampNeg x1)))))) then (if (0 : Int32) ≤ ((σ.1 23 (Int32.toNatClampNeg (σ.1 28 (Int32.toNatClampNeg x1)))) - (σ.1 23 (Int32.toNatClampNeg (σ.1 29 (Int32.toNatClampNeg x1))))) then ((σ.1 23 (Int32.toNatClampNeg (σ.1 28 (Int32.toNatClampNeg x1)))) - (σ.1 23 (Int32.toNatClampNeg (σ.1 29 (Int32.toNatClampNeg x1))))) else 0 - ((σ.1 23 (Int32.toNatClampNeg (σ.1 28 (Int32.toNatClampNeg x1)))) - (σ.1 23 (Int32.toNatClampNeg (σ.1 29 (Int32.toNatClampNeg x1)))))) else (1 : Int32)) / (2 : Int32))  (d := d) (by omega)) ?_
  refine ax_aload_n (q := 89) (i := 0) dX11_cut_88 rfl rfl rfl ?_
  refine ax_get (q := 92) (k := 0) (j := 4) (v := ax_r 5) dX11_cut_89 rfl shC_0 rfl rfl rfl (by decide) fl_X11_42 ?_
  refine ax_get (q := 95) (k := 5) (j := 12) (v := ax_i (if ((σ.1 5 12) + ((if (1 : Int32) < (if (0 : Int32) ≤ ((σ.1 23 (Int32.toNatClampNeg (σ.1 28 (Int32.toNatClampNeg x1)))) - (σ.1 23 (Int32.toNatClampNeg (σ.1 29 (Int32.toNatClampNeg x1))))) then ((σ.1 23 (Int32.toNatClampNeg (σ.1 28 (Int32.toNatClampNeg x1)))) - (σ.1 23 (Int32.toNatClampNeg (σ.1 29 (Int32.toNatClampNeg x1))))) else 0 - ((σ.1 23 (Int32.toNatClampNeg (σ.1 28 (Int32.toNatClampNeg x1)))) - (σ.1 23 (Int32.toNatClampNeg (σ.1 29 (Int32.toNatClampNeg x1)))))) then (if (0 : Int32) ≤ ((σ.1 23 (Int32.toNatClampNeg (σ.1 28 (Int32.toNatClampNeg x1)))) - (σ.1 23 (Int32.toNatClampNeg (σ.1 29 (Int32.toNatClampNeg x1))))) then ((σ.1 23 (Int32.toNatClampNeg (σ.1 28 (Int32.toNatClampNeg x1)))) - (σ.1 23 (Int32.toNatClampNeg (σ.1 29 (Int32.toNatClampNeg x1))))) else 0 - ((σ.1 23 (Int32.toNatClampNeg (σ.1 28 (Int32.toNatClampNeg x1)))) - (σ.1 23 (Int32.toNatClampNeg (σ.1 29 (Int32.toNatClampNeg x1)))))) else (1 : Int32)) / (2 : Int32))) < (99 : Int32) then ((σ.1 5 12) + ((if (1 : Int32) < (if (0 : Int32) ≤ ((σ.1 23 (Int32.toNatClampNeg (σ.1 28 (Int32.toNatClampNeg x1)))) - (σ.1 23 (Int32.toNatClampNeg (σ.1 29 (Int32.toNatClampNeg x1))))) then ((σ.1 23 (Int32.toNatClampNeg (σ.1 28 (Int32.toNatClampNeg x1)))) - (σ.1 23 (Int32.toNatClampNeg (σ.1 29 (Int32.toNatClampNeg x1))))) else 0 - ((σ.1 23 (Int32.toNatClampNeg (σ.1 28 (Int32.toNatClampNeg x1)))) - (σ.1 23 (Int32.toNatClampNeg (σ.1 29 (Int32.toNatClampNeg x1)))))) then (if (0 : Int32) ≤ ((σ.1 23 (Int32.toNatClampNeg (σ.1 28 (Int32.toNatClampNeg x1)))) - (σ.1 23 (Int32.toNatClampNeg (σ.1 29 (Int32.toNatClampNeg x1))))) then ((σ.1 23 (Int32.toNatClampNeg (σ.1 28 (Int32.toNatClampNeg x1)))) - (σ.1 23 (Int32.toNatClampNeg (σ.1 29 (Int32.toNatClampNeg x1))))) else 0 - ((σ.1 23 (Int32.toNatClampNeg (σ.1 28 (Int32.toNatClampNeg x1)))) - (σ.1 23 (Int32.toNatClampNeg (σ.1 29 (Int32.toNatClampNeg x1)))))) else (1 : Int32)) / (2 : Int32))) else (99 : Int32))) dX11_cut_92 rfl shC_5 rfl rfl rfl (by decide) fl_X11_227 ?_
  exact ax_iret dX11_cut_95 rfl rfl k4
set_option maxRecDepth 20000 in
theorem s_X11_scrape_0 {d : Nat} (hd : 1 ≤ d) {Q : Option ax_V → ax_S → Prop} (σ : ax_S) (a0 : Int32) (k1 : ((¬ (a0 < 0)) ∧ (¬ ((σ.1 5 10) ≤ a0))) → ((((σ.1 5 11) >>> (a0 &&& 31)) &&& (1 : Int32)) = (1 : Int32)) → Q (some (ax_i (-1 : Int32))) (ax_ui σ 13 3 ((σ.1 13 3) + (1 : Int32)))) (h2 : ((¬ (a0 < 0)) ∧ (¬ ((σ.1 5 10) ≤ a0))) → (¬ ((((σ.1 5 11) >>> (a0 &&& 31)) &&& (1 : Int32)) = (1 : Int32))) → vp_in a0 17) (k3 : ((¬ (a0 < 0)) ∧ (¬ ((σ.1 5 10) ≤ a0))) → (¬ ((((σ.1 5 11) >>> (a0 &&& 31)) &&& (1 : Int32)) = (1 : Int32))) → (¬ (σ.1 30 (Int32.toNatClampNeg a0)) = 0) → ((1 : Int32) ≤ (σ.1 5 12)) → ax_Ct shC d mX11_remember [ax_r 0] (fun r u => r = none ∧ ax_W shC (d + 1) mX11_scrape Q 68 [some (ax_r 0), some (ax_i a0)] [] u) σ) (k4 : ((¬ (a0 < 0)) ∧ (¬ ((σ.1 5 10) ≤ a0))) → (¬ ((((σ.1 5 11) >>> (a0 &&& 31)) &&& (1 : Int32)) = (1 : Int32))) → (¬ (σ.1 30 (Int32.toNatClampNeg a0)) = 0) → (¬ ((1 : Int32) ≤ (σ.1 5 12))) → Q (some (ax_i (-1 : Int32))) (ax_ui σ 13 4 ((σ.1 13 4) + (1 : Int32)))) (k5 : ((¬ (a0 < 0)) ∧ (¬ ((σ.1 5 10) ≤ a0))) → (¬ ((((σ.1 5 11) >>> (a0 &&& 31)) &&& (1 : Int32)) = (1 : Int32))) → (¬ (¬ (σ.1 30 (Int32.toNatClampNeg a0)) = 0)) → Q (some (ax_i (-1 : Int32))) (ax_ui σ 13 3 ((σ.1 13 3) + (1 : Int32)))) (k6 : (¬ ((¬ (a0 < 0)) ∧ (¬ ((σ.1 5 10) ≤ a0)))) → Q (some (ax_i (-1 : Int32))) (ax_ui σ 13 0 ((σ.1 13 0) + (1 : Int32)))) : ax_W shC (d + 1) mX11_scrape Q 0 [some (ax_r 0), some (ax_i a0)] [] σ := by
  refine ax_aload_n (q := 1) (i := 0) dX11_scrape_0 rfl rfl rfl ?_
  refine ax_iload_n (q := 2) (i := 1) dX11_scrape_1 rfl rfl rfl ?_
  refine ax_callVfi (q := 5) (As := [ax_i a0]) (st := []) (x := (if ((¬ (a0 < 0)) ∧ (¬ ((σ.1 5 10) ≤ a0))) then (1 : Int32) else 0)) (σ2 := σ) dX11_scrape_2 rfl lk_X11_200 shC_0 rfl rfl rfl rfl (Nat.le_of_ble_eq_true rfl) (f_X11_isWire σ a0  (d := d) (by omega)) ?_
  refine ax_if_neB (tgt := 14) (q := 8) dX11_scrape_5 (by decide) rfl (fun c1 => ?_) (fun c1 => ?_)
  · refine ax_aload_n (q := 15) (i := 0) dX11_scrape_14 rfl rfl rfl ?_
    refine ax_get (q := 18) (k := 0) (j := 4) (v := ax_r 5) dX11_scrape_15 rfl shC_0 rfl rfl rfl (by decide) fl_X11_42 ?_
    refine ax_get (q := 21) (k := 5) (j := 11) (v := ax_i (σ.1 5 11)) dX11_scrape_18 rfl shC_5 rfl rfl rfl (by decide) fl_X11_212 ?_
    refine ax_iload_n (q := 22) (i := 1) dX11_scrape_21 rfl rfl rfl ?_
    refine ax_callSfi (q := 25) (As := [ax_i (σ.1 5 11), ax_i a0]) (st := []) (x := (((σ.1 5 11) >>> (a0 &&& 31)) &&& (1 : Int32))) (σ2 := σ) dX11_scrape_22 rfl lk_X11_215 rfl rfl (Nat.le_of_ble_eq_true rfl) (f_X11_bitOf (sh := shC) σ (σ.1 5 11) a0  (d := d) (by omega)) ?_
    refine ax_iconst (q := 26) dX11_scrape_25 rfl ki_1 ?_
    refine ax_icmp_eq (tgt := 41) (q := 29) dX11_scrape_26 (by decide) rfl (fun c2 => ?_) (fun c2 => ?_)
    · refine ax_aload_n (q := 42) (i := 0) dX11_scrape_41 rfl rfl rfl ?_
      refine ax_iconst (q := 43) dX11_scrape_42 rfl ki_3 ?_
      refine ax_callVfi (q := 46) (As := [ax_i (3 : Int32)]) (st := []) (x := (-1 : Int32)) (σ2 := (ax_ui σ 13 3 ((σ.1 13 3) + (1 : Int32)))) dX11_scrape_43 rfl lk_X11_242 shC_0 rfl rfl rfl rfl (Nat.le_of_ble_eq_true rfl) (f_X11_refuse σ (3 : Int32) (ax_inl 3 5 (by decide) (by decide)) (d := d) (by omega)) ?_
      exact ax_iret dX11_scrape_46 rfl rfl (k1 c1 c2)
    · refine ax_aload_n (q := 30) (i := 0) dX11_scrape_29 rfl rfl rfl ?_
      refine ax_get (q := 33) (k := 0) (j := 4) (v := ax_r 5) dX11_scrape_30 rfl shC_0 rfl rfl rfl (by decide) fl_X11_42 ?_
      refine ax_get (q := 36) (k := 5) (j := 7) (v := ax_r 30) dX11_scrape_33 rfl shC_5 rfl rfl rfl (by decide) fl_X11_209 ?_
      refine ax_iload_n (q := 37) (i := 1) dX11_scrape_36 rfl rfl rfl ?_
      refine ax_iald (q := 38) (a := (Int32.toNatClampNeg a0)) (v := (σ.1 30 (Int32.toNatClampNeg a0))) dX11_scrape_37 rfl shC_30 (h2 c1 c2) rfl rfl ?_
      refine ax_if_ne (tgt := 47) (q := 41) dX11_scrape_38 (by decide) rfl (fun c3 => ?_) (fun c3 => ?_)
      · refine ax_aload_n (q := 48) (i := 0) dX11_scrape_47 rfl rfl rfl ?_
        refine ax_get (q := 51) (k := 0) (j := 4) (v := ax_r 5) dX11_scrape_48 rfl shC_0 rfl rfl rfl (by decide) fl_X11_42 ?_
        refine ax_get (q := 54) (k := 5) (j := 12) (v := ax_i (σ.1 5 12)) dX11_scrape_51 rfl shC_5 rfl rfl rfl (by decide) fl_X11_227 ?_
        refine ax_iconst (q := 55) dX11_scrape_54 rfl ki_1 ?_
        refine ax_icmp_ge (tgt := 64) (q := 58) dX11_scrape_55 (by decide) rfl (fun c4 => ?_) (fun c4 => ?_)
        · refine ax_aload_n (q := 65) (i := 0) dX11_scrape_64 rfl rfl rfl ?_
          exact ax_callVcv (q := 68) (As := []) (st := []) dX11_scrape_65 rfl lk_X11_248 shC_0 rfl rfl rfl rfl (Nat.le_of_ble_eq_true rfl) (k3 c1 c2 c3 c4)
        · refine ax_aload_n (q := 59) (i := 0) dX11_scrape_58 rfl rfl rfl ?_
          refine ax_iconst (q := 60) dX11_scrape_59 rfl ki_4 ?_
          refine ax_callVfi (q := 63) (As := [ax_i (4 : Int32)]) (st := []) (x := (-1 : Int32)) (σ2 := (ax_ui σ 13 4 ((σ.1 13 4) + (1 : Int32)))) dX11_scrape_60 rfl lk_X11_242 shC_0 rfl rfl rfl rfl (Nat.le_of_ble_eq_true rfl) (f_X11_refuse σ (4 : Int32) (ax_inl 4 5 (by decide) (by decide)) (d := d) (by omega)) ?_
          exact ax_iret dX11_scrape_63 rfl rfl (k4 c1 c2 c3 c4)
      · refine ax_aload_n (q := 42) (i := 0) dX11_scrape_41 rfl rfl rfl ?_
        refine ax_iconst (q := 43) dX11_scrape_42 rfl ki_3 ?_
        refine ax_callVfi (q := 46) (As := [ax_i (3 : Int32)]) (st := []) (x := (-1 : Int32)) (σ2 := (ax_ui σ 13 3 ((σ.1 13 3) + (1 : Int32)))) dX11_scrape_43 rfl lk_X11_242 shC_0 rfl rfl rfl rfl (Nat.le_of_ble_eq_true rfl) (f_X11_refuse σ (3 : Int32) (ax_inl 3 5 (by decide) (by decide)) (d := d) (by omega)) ?_
        exact ax_iret dX11_scrape_46 rfl rfl (k5 c1 c2 c3)
  · refine ax_aload_n (q := 9) (i := 0) dX11_scrape_8 rfl rfl rfl ?_
    refine ax_iconst (q := 10) dX11_scrape_9 rfl ki_0 ?_
    refine ax_callVfi (q := 13) (As := [ax_i (0 : Int32)]) (st := []) (x := (-1 : Int32)) (σ2 := (ax_ui σ 13 0 ((σ.1 13 0) + (1 : Int32)))) dX11_scrape_10 rfl lk_X11_242 shC_0 rfl rfl rfl rfl (Nat.le_of_ble_eq_true rfl) (f_X11_refuse σ (0 : Int32) (ax_inl 0 5 (by decide) (by decide)) (d := d) (by omega)) ?_
    exact ax_iret dX11_scrape_13 rfl rfl (k6 c1)
set_option maxRecDepth 20000 in
theorem s_X11_scrape_68 {d : Nat} (hd : 0 ≤ d) {Q : Option ax_V → ax_S → Prop} (σ : ax_S) (x1 : Int32) (h1 : vp_in x1 17) (k2 : Q (some (ax_i ((σ.1 5 12) - (1 : Int32)))) (ax_ui (ax_ui σ 30 (Int32.toNatClampNeg x1) (0 : Int32)) 5 12 ((σ.1 5 12) - (1 : Int32)))) : ax_W shC (d + 1) mX11_scrape Q 68 [some (ax_r 0), some (ax_i x1)] [] σ := by
  refine ax_aload_n (q := 69) (i := 0) dX11_scrape_68 rfl rfl rfl ?_
  refine ax_get (q := 72) (k := 0) (j := 4) (v := ax_r 5) dX11_scrape_69 rfl shC_0 rfl rfl rfl (by decide) fl_X11_42 ?_
  refine ax_get (q := 75) (k := 5) (j := 7) (v := ax_r 30) dX11_scrape_72 rfl shC_5 rfl rfl rfl (by decide) fl_X11_209 ?_
  refine ax_iload_n (q := 76) (i := 1) dX11_scrape_75 rfl rfl rfl ?_
  refine ax_iconst (q := 77) dX11_scrape_76 rfl ki_0 ?_
  refine ax_iast (q := 78) (a := (Int32.toNatClampNeg x1)) dX11_scrape_77 rfl shC_30 h1 rfl ?_
  refine ax_aload_n (q := 79) (i := 0) dX11_scrape_78 rfl rfl rfl ?_
  refine ax_get (q := 82) (k := 0) (j := 4) (v := ax_r 5) dX11_scrape_79 rfl shC_0 rfl rfl rfl (by decide) fl_X11_42 ?_
  refine ax_dupr (q := 83) dX11_scrape_82 rfl ?_
  refine ax_get (q := 86) (k := 5) (j := 12) (v := ax_i (σ.1 5 12)) dX11_scrape_83 rfl shC_5 rfl rfl rfl (by decide) fl_X11_227 ?_
  refine ax_iconst (q := 87) dX11_scrape_86 rfl ki_1 ?_
  refine ax_isub (q := 88) dX11_scrape_87 rfl ?_
  refine ax_puti (q := 91) (k := 5) (j := 12) dX11_scrape_88 rfl shC_5 rfl rfl (by decide) fl_X11_227 rfl rfl rfl rfl ?_
  refine ax_aload_n (q := 92) (i := 0) dX11_scrape_91 rfl rfl rfl ?_
  refine ax_get (q := 95) (k := 0) (j := 4) (v := ax_r 5) dX11_scrape_92 rfl shC_0 rfl rfl rfl (by decide) fl_X11_42 ?_
  refine ax_get (q := 98) (k := 5) (j := 12) (v := ax_i ((σ.1 5 12) - (1 : Int32))) dX11_scrape_95 rfl shC_5 rfl rfl rfl (by decide) fl_X11_227 ?_
  exact ax_iret dX11_scrape_98 rfl rfl k2
set_option maxRecDepth 20000 in
theorem s_X11_ground_0 {d : Nat} (hd : 1 ≤ d) {Q : Option ax_V → ax_S → Prop} (σ : ax_S) (a0 : Int32) (k1 : ((¬ (a0 < 0)) ∧ (¬ ((σ.1 5 9) ≤ a0))) → ((5 : Int32) ≤ (σ.1 5 12)) → ax_Ct shC d mX11_remember [ax_r 0] (fun r u => r = none ∧ ax_W shC (d + 1) mX11_ground Q 35 [some (ax_r 0), some (ax_i a0)] [] u) σ) (k2 : ((¬ (a0 < 0)) ∧ (¬ ((σ.1 5 9) ≤ a0))) → (¬ ((5 : Int32) ≤ (σ.1 5 12))) → Q (some (ax_i (-1 : Int32))) (ax_ui σ 13 4 ((σ.1 13 4) + (1 : Int32)))) (k3 : (¬ ((¬ (a0 < 0)) ∧ (¬ ((σ.1 5 9) ≤ a0)))) → Q (some (ax_i (-1 : Int32))) (ax_ui σ 13 0 ((σ.1 13 0) + (1 : Int32)))) : ax_W shC (d + 1) mX11_ground Q 0 [some (ax_r 0), some (ax_i a0)] [] σ := by
  refine ax_aload_n (q := 1) (i := 0) dX11_ground_0 rfl rfl rfl ?_
  refine ax_iload_n (q := 2) (i := 1) dX11_ground_1 rfl rfl rfl ?_
  refine ax_callVfi (q := 5) (As := [ax_i a0]) (st := []) (x := (if ((¬ (a0 < 0)) ∧ (¬ ((σ.1 5 9) ≤ a0))) then (1 : Int32) else 0)) (σ2 := σ) dX11_ground_2 rfl lk_X11_160 shC_0 rfl rfl rfl rfl (Nat.le_of_ble_eq_true rfl) (f_X11_isHouse σ a0  (d := d) (by omega)) ?_
  refine ax_if_neB (tgt := 14) (q := 8) dX11_ground_5 (by decide) rfl (fun c1 => ?_) (fun c1 => ?_)
  · refine ax_aload_n (q := 15) (i := 0) dX11_ground_14 rfl rfl rfl ?_
    refine ax_get (q := 18) (k := 0) (j := 4) (v := ax_r 5) dX11_ground_15 rfl shC_0 rfl rfl rfl (by decide) fl_X11_42 ?_
    refine ax_get (q := 21) (k := 5) (j := 12) (v := ax_i (σ.1 5 12)) dX11_ground_18 rfl shC_5 rfl rfl rfl (by decide) fl_X11_227 ?_
    refine ax_iconst (q := 22) dX11_ground_21 rfl ki_5 ?_
    refine ax_icmp_ge (tgt := 31) (q := 25) dX11_ground_22 (by decide) rfl (fun c2 => ?_) (fun c2 => ?_)
    · refine ax_aload_n (q := 32) (i := 0) dX11_ground_31 rfl rfl rfl ?_
      exact ax_callVcv (q := 35) (As := []) (st := []) dX11_ground_32 rfl lk_X11_248 shC_0 rfl rfl rfl rfl (Nat.le_of_ble_eq_true rfl) (k1 c1 c2)
    · refine ax_aload_n (q := 26) (i := 0) dX11_ground_25 rfl rfl rfl ?_
      refine ax_iconst (q := 27) dX11_ground_26 rfl ki_4 ?_
      refine ax_callVfi (q := 30) (As := [ax_i (4 : Int32)]) (st := []) (x := (-1 : Int32)) (σ2 := (ax_ui σ 13 4 ((σ.1 13 4) + (1 : Int32)))) dX11_ground_27 rfl lk_X11_242 shC_0 rfl rfl rfl rfl (Nat.le_of_ble_eq_true rfl) (f_X11_refuse σ (4 : Int32) (ax_inl 4 5 (by decide) (by decide)) (d := d) (by omega)) ?_
      exact ax_iret dX11_ground_30 rfl rfl (k2 c1 c2)
  · refine ax_aload_n (q := 9) (i := 0) dX11_ground_8 rfl rfl rfl ?_
    refine ax_iconst (q := 10) dX11_ground_9 rfl ki_0 ?_
    refine ax_callVfi (q := 13) (As := [ax_i (0 : Int32)]) (st := []) (x := (-1 : Int32)) (σ2 := (ax_ui σ 13 0 ((σ.1 13 0) + (1 : Int32)))) dX11_ground_10 rfl lk_X11_242 shC_0 rfl rfl rfl rfl (Nat.le_of_ble_eq_true rfl) (f_X11_refuse σ (0 : Int32) (ax_inl 0 5 (by decide) (by decide)) (d := d) (by omega)) ?_
    exact ax_iret dX11_ground_13 rfl rfl (k3 c1)
set_option maxRecDepth 20000 in
theorem s_X11_ground_35 {d : Nat} (hd : 1 ≤ d) {Q : Option ax_V → ax_S → Prop} (σ : ax_S) (x1 : Int32) (h1 : vp_in x1 8) (k2 : Q (some (ax_i ((ax_ui (ax_ui σ 5 12 ((σ.1 5 12) - (5 : Int32))) 25 (Int32.toNatClampNeg x1) (if ((σ.1 25 (Int32.toNatClampNeg x1)) + (10 : Int32)) < (99 : Int32) then ((σ.1 25 (Int32.toNatClampNeg x1)) + (10 : Int32)) else (99 : Int32))).1 25 (Int32.toNatClampNeg x1)))) (ax_ui (ax_ui σ 5 12 ((σ.1 5 12) - (5 : Int32))) 25 (Int32.toNatClampNeg x1) (if ((σ.1 25 (Int32.toNatClampNeg x1)) + (10 : Int32)) < (99 : Int32) then ((σ.1 25 (Int32.toNatClampNeg x1)) + (10 : Int32)) else (99 : Int32)))) : ax_W shC (d + 1) mX11_ground Q 35 [some (ax_r 0), some (ax_i x1)] [] σ := by
  refine ax_aload_n (q := 36) (i := 0) dX11_ground_35 rfl rfl rfl ?_
  refine ax_get (q := 39) (k := 0) (j := 4) (v := ax_r 5) dX11_ground_36 rfl shC_0 rfl rfl rfl (by decide) fl_X11_42 ?_
  refine ax_dupr (q := 40) dX11_ground_39 rfl ?_
  refine ax_get (q := 43) (k := 5) (j := 12) (v := ax_i (σ.1 5 12)) dX11_ground_40 rfl shC_5 rfl rfl rfl (by decide) fl_X11_227 ?_
  refine ax_iconst (q := 44) dX11_ground_43 rfl ki_5 ?_
  refine ax_isub (q := 45) dX11_ground_44 rfl ?_
  refine ax_puti (q := 48) (k := 5) (j := 12) dX11_ground_45 rfl shC_5 rfl rfl (by decide) fl_X11_227 rfl rfl rfl rfl ?_
  refine ax_aload_n (q := 49) (i := 0) dX11_ground_48 rfl rfl rfl ?_
  refine ax_get (q := 52) (k := 0) (j := 4) (v := ax_r 5) dX11_ground_49 rfl shC_0 rfl rfl rfl (by decide) fl_X11_42 ?_
  refine ax_get (q := 55) (k := 5) (j := 2) (v := ax_r 25) dX11_ground_52 rfl shC_5 rfl rfl rfl (by decide) fl_X11_176 ?_
  refine ax_iload_n (q := 56) (i := 1) dX11_ground_55 rfl rfl rfl ?_
  refine ax_aload_n (q := 57) (i := 0) dX11_ground_56 rfl rfl rfl ?_
  refine ax_get (q := 60) (k := 0) (j := 4) (v := ax_r 5) dX11_ground_57 rfl shC_0 rfl rfl rfl (by decide) fl_X11_42 ?_
  refine ax_iload_n (q := 61) (i := 1) dX11_ground_60 rfl rfl rfl ?_
  refine ax_callVfi (q := 64) (As := [ax_i x1]) (st := [ax_i x1, ax_r 25]) (x := (if ((σ.1 25 (Int32.toNatClampNeg x1)) + (10 : Int32)) < (99 : Int32) then ((σ.1 25 (Int32.toNatClampNeg x1)) + (10 : Int32)) else (99 : Int32))) (σ2 := (ax_ui σ 5 12 ((σ.1 5 12) - (5 : Int32)))) dX11_ground_61 rfl lk_X11_271 shC_5 rfl rfl rfl rfl (Nat.le_of_ble_eq_true rfl) (f_X0_bearsEarthed (ax_ui σ 5 12 ((σ.1 5 12) - (5 : Int32))) x1 h1 (d := d) (by omega)) ?_
  refine ax_iast (q := 65) (a := (Int32.toNatClampNeg x1)) dX11_ground_64 rfl shC_25 h1 rfl ?_
  refine ax_aload_n (q := 66) (i := 0) dX11_ground_65 rfl rfl rfl ?_
  refine ax_get (q := 69) (k := 0) (j := 4) (v := ax_r 5) dX11_ground_66 rfl shC_0 rfl rfl rfl (by decide) fl_X11_42 ?_
  refine ax_get (q := 72) (k := 5) (j := 2) (v := ax_r 25) dX11_ground_69 rfl shC_5 rfl rfl rfl (by decide) fl_X11_176 ?_
  refine ax_iload_n (q := 73) (i := 1) dX11_ground_72 rfl rfl rfl ?_
  refine ax_iald (q := 74) (a := (Int32.toNatClampNeg x1)) (v := ((ax_ui (ax_ui σ 5 12 ((σ.1 5 12) - (5 : Int32))) 25 (Int32.toNatClampNeg x1) (if ((σ.1 25 (Int32.toNatClampNeg x1)) + (10 : Int32)) < (99 : Int32) then ((σ.1 25 (Int32.toNatClampNeg x1)) + (10 : Int32)) else (99 : Int32))).1 25 (Int32.toNatClampNeg x1))) dX11_ground_73 rfl shC_25 h1 rfl rfl ?_
  exact ax_iret dX11_ground_74 rfl rfl k2
set_option maxRecDepth 20000 in
theorem f_X11_hasBelt (σ : ax_S)   {d : Nat} (hd : 1 ≤ d) : ax_Ct shC d mX11_hasBelt [ax_r 0] (fun r u => r = some (ax_i (if (¬ ((σ.1 5 9) ≤ 0)) then (1 : Int32) else 0)) ∧ u = σ) σ := by
  obtain ⟨d, rfl⟩ : ∃ e, d = e + 1 := ⟨d - 1, by omega⟩
  refine ax_Ct.of (lv := [some (ax_r 0)]) (by decide +kernel) (fun ad => Nat.le_of_ble_eq_true rfl) (fun ad => rfl) ?_
  refine ax_aload_n (q := 1) (i := 0) dX11_hasBelt_0 rfl rfl rfl ?_
  refine ax_get (q := 4) (k := 0) (j := 4) (v := ax_r 5) dX11_hasBelt_1 rfl shC_0 rfl rfl rfl (by decide) fl_X11_42 ?_
  refine ax_get (q := 7) (k := 5) (j := 9) (v := ax_i (σ.1 5 9)) dX11_hasBelt_4 rfl shC_5 rfl rfl rfl (by decide) fl_X11_154 ?_
  have K2 : ax_W shC (d + 1) mX11_hasBelt (fun r u => r = some (ax_i (if (¬ ((σ.1 5 9) ≤ 0)) then (1 : Int32) else 0)) ∧ u = σ) 15 [some (ax_r 0)] [ax_i (if (¬ ((σ.1 5 9) ≤ 0)) then (1 : Int32) else 0)] σ := by
    exact ax_iret dX11_hasBelt_15 rfl (ax_nb _) ⟨rfl, rfl⟩
  refine ax_if_le (tgt := 14) (q := 10) dX11_hasBelt_7 (by decide) rfl (fun c1 => ?_) (fun c1 => ?_)
  · refine ax_iconst (q := 15) dX11_hasBelt_14 rfl ki_0 ?_
    exact ax_cv (if_neg (fun y => y c1)) K2
  · refine ax_iconst (q := 11) dX11_hasBelt_10 rfl ki_1 ?_
    refine ax_goto (tgt := 15) dX11_hasBelt_11 (by decide) ?_
    exact ax_cv (if_pos c1) K2
set_option maxRecDepth 20000 in
theorem f_X11_mayPass (σ : ax_S) (a0 : Int32)  {d : Nat} (hd : 1 ≤ d) : ax_Ct shC d mX11_mayPass [ax_r 0, ax_i a0] (fun r u => r = some (ax_i (if ((¬ (a0 < (1 : Int32))) ∧ ((¬ ((60 : Int32) < a0)) ∧ (¬ ((999 : Int32) < ((σ.1 5 14) + a0))))) then (1 : Int32) else 0)) ∧ u = σ) σ := by
  obtain ⟨d, rfl⟩ : ∃ e, d = e + 1 := ⟨d - 1, by omega⟩
  refine ax_Ct.of (lv := [some (ax_r 0), some (ax_i a0)]) (by decide +kernel) (fun ad => Nat.le_of_ble_eq_true rfl) (fun ad => rfl) ?_
  refine ax_iload_n (q := 1) (i := 1) dX11_mayPass_0 rfl rfl rfl ?_
  refine ax_iconst (q := 2) dX11_mayPass_1 rfl ki_1 ?_
  have K4 : ax_W shC (d + 1) mX11_mayPass (fun r u => r = some (ax_i (if ((¬ (a0 < (1 : Int32))) ∧ ((¬ ((60 : Int32) < a0)) ∧ (¬ ((999 : Int32) < ((σ.1 5 14) + a0))))) then (1 : Int32) else 0)) ∧ u = σ) 31 [some (ax_r 0), some (ax_i a0)] [ax_i (if ((¬ (a0 < (1 : Int32))) ∧ ((¬ ((60 : Int32) < a0)) ∧ (¬ ((999 : Int32) < ((σ.1 5 14) + a0))))) then (1 : Int32) else 0)] σ := by
    exact ax_iret dX11_mayPass_31 rfl (ax_nb _) ⟨rfl, rfl⟩
  refine ax_icmp_lt (tgt := 30) (q := 5) dX11_mayPass_2 (by decide) rfl (fun c1 => ?_) (fun c1 => ?_)
  · refine ax_iconst (q := 31) dX11_mayPass_30 rfl ki_0 ?_
    exact ax_cv (if_neg (fun z => (fun y => y c1) z.1)) K4
  · refine ax_iload_n (q := 6) (i := 1) dX11_mayPass_5 rfl rfl rfl ?_
    refine ax_bipush (q := 8) dX11_mayPass_6 rfl kb_60 ?_
    refine ax_icmp_gt (tgt := 30) (q := 11) dX11_mayPass_8 (by decide) rfl (fun c2 => ?_) (fun c2 => ?_)
    · refine ax_iconst (q := 31) dX11_mayPass_30 rfl ki_0 ?_
      exact ax_cv (if_neg (fun z => (fun z => (fun y => y c2) z.1) z.2)) K4
    · refine ax_aload_n (q := 12) (i := 0) dX11_mayPass_11 rfl rfl rfl ?_
      refine ax_get (q := 15) (k := 0) (j := 4) (v := ax_r 5) dX11_mayPass_12 rfl shC_0 rfl rfl rfl (by decide) fl_X11_42 ?_
      refine ax_get (q := 18) (k := 5) (j := 14) (v := ax_i (σ.1 5 14)) dX11_mayPass_15 rfl shC_5 rfl rfl rfl (by decide) fl_X11_224 ?_
      refine ax_iload_n (q := 19) (i := 1) dX11_mayPass_18 rfl rfl rfl ?_
      refine ax_iadd (q := 20) dX11_mayPass_19 rfl ?_
      refine ax_sipush (q := 23) dX11_mayPass_20 rfl ks_999 ?_
      refine ax_icmp_gt (tgt := 30) (q := 26) dX11_mayPass_23 (by decide) rfl (fun c3 => ?_) (fun c3 => ?_)
      · refine ax_iconst (q := 31) dX11_mayPass_30 rfl ki_0 ?_
        exact ax_cv (if_neg (fun z => (fun z => (fun y => y c3) z.2) z.2)) K4
      · refine ax_iconst (q := 27) dX11_mayPass_26 rfl ki_1 ?_
        refine ax_goto (tgt := 31) dX11_mayPass_27 (by decide) ?_
        exact ax_cv (if_pos ⟨c1, ⟨c2, c3⟩⟩) K4
set_option maxRecDepth 20000 in
theorem s_X11_summers_0 {d : Nat} (hd : 1 ≤ d) {Q : Option ax_V → ax_S → Prop} (σ : ax_S) (a0 : Int32) (k1 : (¬ ((σ.1 5 9) ≤ 0)) → ((¬ (a0 < (1 : Int32))) ∧ ((¬ ((60 : Int32) < a0)) ∧ (¬ ((999 : Int32) < ((σ.1 5 14) + a0))))) → ax_W shC (d + 1) mX11_summers Q 29 [some (ax_r 0), some (ax_i a0), some (ax_i (0 : Int32))] [] σ) (k2 : (¬ ((σ.1 5 9) ≤ 0)) → (¬ ((¬ (a0 < (1 : Int32))) ∧ ((¬ ((60 : Int32) < a0)) ∧ (¬ ((999 : Int32) < ((σ.1 5 14) + a0)))))) → Q (some (ax_i (-1 : Int32))) (ax_ui σ 13 1 ((σ.1 13 1) + (1 : Int32)))) (k3 : (¬ (¬ ((σ.1 5 9) ≤ 0))) → Q (some (ax_i (-1 : Int32))) (ax_ui σ 13 0 ((σ.1 13 0) + (1 : Int32)))) : ax_W shC (d + 1) mX11_summers Q 0 [some (ax_r 0), some (ax_i a0), none] [] σ := by
  refine ax_aload_n (q := 1) (i := 0) dX11_summers_0 rfl rfl rfl ?_
  refine ax_callVfi (q := 4) (As := []) (st := []) (x := (if (¬ ((σ.1 5 9) ≤ 0)) then (1 : Int32) else 0)) (σ2 := σ) dX11_summers_1 rfl lk_X11_274 shC_0 rfl rfl rfl rfl (Nat.le_of_ble_eq_true rfl) (f_X11_hasBelt σ   (d := d) (by omega)) ?_
  refine ax_if_neB (tgt := 13) (q := 7) dX11_summers_4 (by decide) rfl (fun c1 => ?_) (fun c1 => ?_)
  · refine ax_aload_n (q := 14) (i := 0) dX11_summers_13 rfl rfl rfl ?_
    refine ax_iload_n (q := 15) (i := 1) dX11_summers_14 rfl rfl rfl ?_
    refine ax_callVfi (q := 18) (As := [ax_i a0]) (st := []) (x := (if ((¬ (a0 < (1 : Int32))) ∧ ((¬ ((60 : Int32) < a0)) ∧ (¬ ((999 : Int32) < ((σ.1 5 14) + a0))))) then (1 : Int32) else 0)) (σ2 := σ) dX11_summers_15 rfl lk_X11_278 shC_0 rfl rfl rfl rfl (Nat.le_of_ble_eq_true rfl) (f_X11_mayPass σ a0  (d := d) (by omega)) ?_
    refine ax_if_neB (tgt := 27) (q := 21) dX11_summers_18 (by decide) rfl (fun c2 => ?_) (fun c2 => ?_)
    · refine ax_iconst (q := 28) dX11_summers_27 rfl ki_0 ?_
      refine ax_istore_n (q := 29) (i := 2) (lv2 := [some (ax_r 0), some (ax_i a0), some (ax_i (0 : Int32))]) dX11_summers_28 rfl rfl (by decide) rfl rfl ?_
      exact (k1 c1 c2)
    · refine ax_aload_n (q := 22) (i := 0) dX11_summers_21 rfl rfl rfl ?_
      refine ax_iconst (q := 23) dX11_summers_22 rfl ki_1 ?_
      refine ax_callVfi (q := 26) (As := [ax_i (1 : Int32)]) (st := []) (x := (-1 : Int32)) (σ2 := (ax_ui σ 13 1 ((σ.1 13 1) + (1 : Int32)))) dX11_summers_23 rfl lk_X11_242 shC_0 rfl rfl rfl rfl (Nat.le_of_ble_eq_true rfl) (f_X11_refuse σ (1 : Int32) (ax_inl 1 5 (by decide) (by decide)) (d := d) (by omega)) ?_
      exact ax_iret dX11_summers_26 rfl rfl (k2 c1 c2)
  · refine ax_aload_n (q := 8) (i := 0) dX11_summers_7 rfl rfl rfl ?_
    refine ax_iconst (q := 9) dX11_summers_8 rfl ki_0 ?_
    refine ax_callVfi (q := 12) (As := [ax_i (0 : Int32)]) (st := []) (x := (-1 : Int32)) (σ2 := (ax_ui σ 13 0 ((σ.1 13 0) + (1 : Int32)))) dX11_summers_9 rfl lk_X11_242 shC_0 rfl rfl rfl rfl (Nat.le_of_ble_eq_true rfl) (f_X11_refuse σ (0 : Int32) (ax_inl 0 5 (by decide) (by decide)) (d := d) (by omega)) ?_
    exact ax_iret dX11_summers_12 rfl rfl (k3 c1)
set_option maxRecDepth 20000 in
theorem s_X11_summers_29 {d : Nat} (hd : 0 ≤ d) {Q : Option ax_V → ax_S → Prop} (σ : ax_S) (x1 : Int32) (x2 : Int32) (k1 : (x1 ≤ x2) → Q (some (ax_i (σ.1 5 14))) σ) (k2 : (¬ (x1 ≤ x2)) → ax_Ct shC d mX11_remember [ax_r 0] (fun r u => r = none ∧ ax_W shC (d + 1) mX11_summers Q 38 [some (ax_r 0), some (ax_i x1), some (ax_i x2)] [] u) σ) : ax_W shC (d + 1) mX11_summers Q 29 [some (ax_r 0), some (ax_i x1), some (ax_i x2)] [] σ := by
  refine ax_iload_n (q := 30) (i := 2) dX11_summers_29 rfl rfl rfl ?_
  refine ax_iload_n (q := 31) (i := 1) dX11_summers_30 rfl rfl rfl ?_
  refine ax_icmp_ge (tgt := 51) (q := 34) dX11_summers_31 (by decide) rfl (fun c1 => ?_) (fun c1 => ?_)
  · refine ax_aload_n (q := 52) (i := 0) dX11_summers_51 rfl rfl rfl ?_
    refine ax_get (q := 55) (k := 0) (j := 4) (v := ax_r 5) dX11_summers_52 rfl shC_0 rfl rfl rfl (by decide) fl_X11_42 ?_
    refine ax_get (q := 58) (k := 5) (j := 14) (v := ax_i (σ.1 5 14)) dX11_summers_55 rfl shC_5 rfl rfl rfl (by decide) fl_X11_224 ?_
    exact ax_iret dX11_summers_58 rfl rfl (k1 c1)
  · refine ax_aload_n (q := 35) (i := 0) dX11_summers_34 rfl rfl rfl ?_
    exact ax_callVcv (q := 38) (As := []) (st := []) dX11_summers_35 rfl lk_X11_248 shC_0 rfl rfl rfl rfl (Nat.le_of_ble_eq_true rfl) (k2 c1)
set_option maxRecDepth 20000 in
theorem s_X11_summers_38 {d : Nat} (hd : 0 ≤ d) {Q : Option ax_V → ax_S → Prop} (σ : ax_S) (x1 : Int32) (x2 : Int32) (k1 : ax_Ct shC d mX0_passSummer [ax_r 5] (fun r u => r = none ∧ ax_W shC (d + 1) mX11_summers Q 45 [some (ax_r 0), some (ax_i x1), some (ax_i x2)] [] u) σ) : ax_W shC (d + 1) mX11_summers Q 38 [some (ax_r 0), some (ax_i x1), some (ax_i x2)] [] σ := by
  refine ax_aload_n (q := 39) (i := 0) dX11_summers_38 rfl rfl rfl ?_
  refine ax_get (q := 42) (k := 0) (j := 4) (v := ax_r 5) dX11_summers_39 rfl shC_0 rfl rfl rfl (by decide) fl_X11_42 ?_
  exact ax_callVcv (q := 45) (As := []) (st := []) dX11_summers_42 rfl lk_X11_281 shC_5 rfl rfl rfl rfl (Nat.le_of_ble_eq_true rfl) k1
set_option maxRecDepth 20000 in
theorem s_X11_summers_45 {d : Nat} (hd : 0 ≤ d) {Q : Option ax_V → ax_S → Prop} (σ : ax_S) (x1 : Int32) (x2 : Int32) (k1 : ax_W shC (d + 1) mX11_summers Q 29 [some (ax_r 0), some (ax_i x1), some (ax_i (x2 + (1 : Int32)))] [] σ) : ax_W shC (d + 1) mX11_summers Q 45 [some (ax_r 0), some (ax_i x1), some (ax_i x2)] [] σ := by
  refine ax_iincK (q := 48) (lv2 := [some (ax_r 0), some (ax_i x1), some (ax_i (x2 + (1 : Int32)))]) dX11_summers_45 rfl rfl ki_1 (by decide) rfl rfl ?_
  refine ax_goto (tgt := 29) dX11_summers_48 (by decide) ?_
  exact k1
set_option maxRecDepth 20000 in
theorem s_X11_set_0 {d : Nat} (hd : 1 ≤ d) {Q : Option ax_V → ax_S → Prop} (σ : ax_S) (a0 : Int32) (a1 : Int32) (k1 : (¬ ((a0 = 0) ∨ (¬ (¬ a0 = (1 : Int32))))) → Q (some (ax_i (0 : Int32))) σ) (k2 : ((a0 = 0) ∨ (¬ (¬ a0 = (1 : Int32)))) → (a1 < 0) → Q (some (ax_i (0 : Int32))) σ) (k3 : ((a0 = 0) ∨ (¬ (¬ a0 = (1 : Int32)))) → (¬ (a1 < 0)) → ((9 : Int32) < a1) → Q (some (ax_i (0 : Int32))) σ) (k4 : ((a0 = 0) ∨ (¬ (¬ a0 = (1 : Int32)))) → (¬ (a1 < 0)) → (¬ ((9 : Int32) < a1)) → (¬ a1 = (if (¬ a0 = 0) then (σ.1 0 15) else (σ.1 0 14))) → (¬ a0 = 0) → Q (some (ax_i (1 : Int32))) (ax_ui σ 0 15 a1)) (k5 : ((a0 = 0) ∨ (¬ (¬ a0 = (1 : Int32)))) → (¬ (a1 < 0)) → (¬ ((9 : Int32) < a1)) → (¬ a1 = (if (¬ a0 = 0) then (σ.1 0 15) else (σ.1 0 14))) → (¬ (¬ a0 = 0)) → Q (some (ax_i (1 : Int32))) (ax_ui σ 0 14 a1)) (k6 : ((a0 = 0) ∨ (¬ (¬ a0 = (1 : Int32)))) → (¬ (a1 < 0)) → (¬ ((9 : Int32) < a1)) → (¬ (¬ a1 = (if (¬ a0 = 0) then (σ.1 0 15) else (σ.1 0 14)))) → Q (some (ax_i (0 : Int32))) σ) : ax_W shC (d + 1) mX11_set Q 0 [some (ax_r 0), some (ax_i a0), some (ax_i a1)] [] σ := by
  refine ax_iload_n (q := 1) (i := 1) dX11_set_0 rfl rfl rfl ?_
  refine ax_callSfi (q := 4) (As := [ax_i a0]) (st := []) (x := (if ((a0 = 0) ∨ (¬ (¬ a0 = (1 : Int32)))) then (1 : Int32) else 0)) (σ2 := σ) dX11_set_1 rfl lk_X11_121 rfl rfl (Nat.le_of_ble_eq_true rfl) (f_X11_isBit (sh := shC) σ a0  (d := d) (by omega)) ?_
  refine ax_if_eqB (tgt := 36) (q := 7) dX11_set_4 (by decide) rfl (fun c1 => ?_) (fun c1 => ?_)
  · refine ax_iconst (q := 37) dX11_set_36 rfl ki_0 ?_
    exact ax_iret dX11_set_37 rfl rfl (k1 c1)
  · refine ax_iload_n (q := 8) (i := 2) dX11_set_7 rfl rfl rfl ?_
    refine ax_if_lt (tgt := 36) (q := 11) dX11_set_8 (by decide) rfl (fun c2 => ?_) (fun c2 => ?_)
    · refine ax_iconst (q := 37) dX11_set_36 rfl ki_0 ?_
      exact ax_iret dX11_set_37 rfl rfl (k2 c1 c2)
    · refine ax_iload_n (q := 12) (i := 2) dX11_set_11 rfl rfl rfl ?_
      refine ax_bipush (q := 14) dX11_set_12 rfl kb_9 ?_
      refine ax_icmp_gt (tgt := 36) (q := 17) dX11_set_14 (by decide) rfl (fun c3 => ?_) (fun c3 => ?_)
      · refine ax_iconst (q := 37) dX11_set_36 rfl ki_0 ?_
        exact ax_iret dX11_set_37 rfl rfl (k3 c1 c2 c3)
      · refine ax_iload_n (q := 18) (i := 2) dX11_set_17 rfl rfl rfl ?_
        refine ax_iload_n (q := 19) (i := 1) dX11_set_18 rfl rfl rfl ?_
        have K5 : ax_W shC (d + 1) mX11_set Q 33 [some (ax_r 0), some (ax_i a0), some (ax_i a1)] [ax_i (if (¬ a0 = 0) then (σ.1 0 15) else (σ.1 0 14)), ax_i a1] σ := by
          refine ax_icmp_ne (tgt := 38) (q := 36) dX11_set_33 (by decide) rfl (fun c6 => ?_) (fun c6 => ?_)
          · refine ax_iload_n (q := 39) (i := 1) dX11_set_38 rfl rfl rfl ?_
            refine ax_if_ne (tgt := 50) (q := 42) dX11_set_39 (by decide) rfl (fun c7 => ?_) (fun c7 => ?_)
            · refine ax_aload_n (q := 51) (i := 0) dX11_set_50 rfl rfl rfl ?_
              refine ax_iload_n (q := 52) (i := 2) dX11_set_51 rfl rfl rfl ?_
              refine ax_puti (q := 55) (k := 0) (j := 15) dX11_set_52 rfl shC_0 rfl rfl (by decide) fl_X11_233 rfl rfl rfl rfl ?_
              refine ax_iconst (q := 56) dX11_set_55 rfl ki_1 ?_
              exact ax_iret dX11_set_56 rfl rfl (k4 c1 c2 c3 c6 c7)
            · refine ax_aload_n (q := 43) (i := 0) dX11_set_42 rfl rfl rfl ?_
              refine ax_iload_n (q := 44) (i := 2) dX11_set_43 rfl rfl rfl ?_
              refine ax_puti (q := 47) (k := 0) (j := 14) dX11_set_44 rfl shC_0 rfl rfl (by decide) fl_X11_99 rfl rfl rfl rfl ?_
              refine ax_goto (tgt := 55) dX11_set_47 (by decide) ?_
              refine ax_iconst (q := 56) dX11_set_55 rfl ki_1 ?_
              exact ax_iret dX11_set_56 rfl rfl (k5 c1 c2 c3 c6 c7)
          · refine ax_iconst (q := 37) dX11_set_36 rfl ki_0 ?_
            exact ax_iret dX11_set_37 rfl rfl (k6 c1 c2 c3 c6)
        refine ax_if_ne (tgt := 29) (q := 22) dX11_set_19 (by decide) rfl (fun c4 => ?_) (fun c4 => ?_)
        · refine ax_aload_n (q := 30) (i := 0) dX11_set_29 rfl rfl rfl ?_
          refine ax_get (q := 33) (k := 0) (j := 15) (v := ax_i (σ.1 0 15)) dX11_set_30 rfl shC_0 rfl rfl rfl (by decide) fl_X11_233 ?_
          exact ax_cv (if_pos c4) K5
        · refine ax_aload_n (q := 23) (i := 0) dX11_set_22 rfl rfl rfl ?_
          refine ax_get (q := 26) (k := 0) (j := 14) (v := ax_i (σ.1 0 14)) dX11_set_23 rfl shC_0 rfl rfl rfl (by decide) fl_X11_99 ?_
          refine ax_goto (tgt := 33) dX11_set_26 (by decide) ?_
          exact ax_cv (if_neg c4) K5
set_option maxRecDepth 20000 in
theorem f_X11_draw (σ : ax_S) (a0 : Int32) (h1 : ((1 : Int32) ≤ a0) → ¬ (Int32.toInt64 a0) = 0) {d : Nat} (hd : 1 ≤ d) : ax_Ct shC d mX11_draw [ax_r 0, ax_i a0] (fun r u => r = some (ax_i (if ((1 : Int32) ≤ a0) then (Int64.toInt32 ((((Int64.toUInt64 (((σ.2 0 19) * (6364136223846793005 : Int64)) + (1442695040888963407 : Int64))) >>> ((Int64.toUInt64 (Int32.toInt64 (33 : Int32))) &&& Int64.toUInt64 63)).toInt64) - (((Int64.toUInt64 (((σ.2 0 19) * (6364136223846793005 : Int64)) + (1442695040888963407 : Int64))) >>> ((Int64.toUInt64 (Int32.toInt64 (33 : Int32))) &&& Int64.toUInt64 63)).toInt64) / (Int32.toInt64 a0) * (Int32.toInt64 a0))) else (0 : Int32))) ∧ u = (ax_ul σ 0 19 (((σ.2 0 19) * (6364136223846793005 : Int64)) + (1442695040888963407 : Int64)))) σ := by
  obtain ⟨d, rfl⟩ : ∃ e, d = e + 1 := ⟨d - 1, by omega⟩
  refine ax_Ct.of (lv := [some (ax_r 0), some (ax_i a0)]) (by decide +kernel) (fun ad => Nat.le_of_ble_eq_true rfl) (fun ad => rfl) ?_
  refine ax_aload_n (q := 1) (i := 0) dX11_draw_0 rfl rfl rfl ?_
  refine ax_aload_n (q := 2) (i := 0) dX11_draw_1 rfl rfl rfl ?_
  refine ax_get (q := 5) (k := 0) (j := 19) (v := ax_l (σ.2 0 19)) dX11_draw_2 rfl shC_0 rfl rfl rfl (by decide) fl_X11_284 ?_
  refine ax_ldc2 (q := 8) dX11_draw_5 rfl kc_X11_447 ?_
  refine ax_lmul (q := 9) dX11_draw_8 rfl ?_
  refine ax_ldc2 (q := 12) dX11_draw_9 rfl kc_X11_449 ?_
  refine ax_ladd (q := 13) dX11_draw_12 rfl ?_
  refine ax_putl (q := 16) (k := 0) (j := 19) dX11_draw_13 rfl shC_0 rfl rfl (by decide) fl_X11_284 rfl rfl rfl rfl ?_
  refine ax_iload_n (q := 17) (i := 1) dX11_draw_16 rfl rfl rfl ?_
  refine ax_iconst (q := 18) dX11_draw_17 rfl ki_1 ?_
  have K2 : ax_W shC (d + 1) mX11_draw (fun r u => r = some (ax_i (if ((1 : Int32) ≤ a0) then (Int64.toInt32 ((((Int64.toUInt64 (((σ.2 0 19) * (6364136223846793005 : Int64)) + (1442695040888963407 : Int64))) >>> ((Int64.toUInt64 (Int32.toInt64 (33 : Int32))) &&& Int64.toUInt64 63)).toInt64) - (((Int64.toUInt64 (((σ.2 0 19) * (6364136223846793005 : Int64)) + (1442695040888963407 : Int64))) >>> ((Int64.toUInt64 (Int32.toInt64 (33 : Int32))) &&& Int64.toUInt64 63)).toInt64) / (Int32.toInt64 a0) * (Int32.toInt64 a0))) else (0 : Int32))) ∧ u = (ax_ul σ 0 19 (((σ.2 0 19) * (6364136223846793005 : Int64)) + (1442695040888963407 : Int64)))) 36 [some (ax_r 0), some (ax_i a0)] [ax_i (if ((1 : Int32) ≤ a0) then (Int64.toInt32 ((((Int64.toUInt64 (((σ.2 0 19) * (6364136223846793005 : Int64)) + (1442695040888963407 : Int64))) >>> ((Int64.toUInt64 (Int32.toInt64 (33 : Int32))) &&& Int64.toUInt64 63)).toInt64) - (((Int64.toUInt64 (((σ.2 0 19) * (6364136223846793005 : Int64)) + (1442695040888963407 : Int64))) >>> ((Int64.toUInt64 (Int32.toInt64 (33 : Int32))) &&& Int64.toUInt64 63)).toInt64) / (Int32.toInt64 a0) * (Int32.toInt64 a0))) else (0 : Int32))] (ax_ul σ 0 19 (((σ.2 0 19) * (6364136223846793005 : Int64)) + (1442695040888963407 : Int64))) := by
    exact ax_iret dX11_draw_36 rfl rfl ⟨rfl, rfl⟩
  refine ax_icmp_ge (tgt := 25) (q := 21) dX11_draw_18 (by decide) rfl (fun c1 => ?_) (fun c1 => ?_)
  · refine ax_aload_n (q := 26) (i := 0) dX11_draw_25 rfl rfl rfl ?_
    refine ax_get (q := 29) (k := 0) (j := 19) (v := ax_l (((σ.2 0 19) * (6364136223846793005 : Int64)) + (1442695040888963407 : Int64))) dX11_draw_26 rfl shC_0 rfl rfl rfl (by decide) fl_X11_284 ?_
    refine ax_bipush (q := 31) dX11_draw_29 rfl kb_33 ?_
    refine ax_lushr (q := 32) dX11_draw_31 rfl ?_
    refine ax_iload_n (q := 33) (i := 1) dX11_draw_32 rfl rfl rfl ?_
    refine ax_i2l (q := 34) dX11_draw_33 rfl ?_
    refine ax_lrem (q := 35) dX11_draw_34 rfl (h1 c1) ?_
    refine ax_l2i (q := 36) dX11_draw_35 rfl ?_
    exact ax_cv (if_pos c1) K2
  · refine ax_iconst (q := 22) dX11_draw_21 rfl ki_0 ?_
    refine ax_goto (tgt := 36) dX11_draw_22 (by decide) ?_
    exact ax_cv (if_neg c1) K2
set_option maxRecDepth 20000 in
theorem s_X11_strikeByChance_0 {d : Nat} (hd : 0 ≤ d) {Q : Option ax_V → ax_S → Prop} (σ : ax_S)  (k1 : ax_Ct shC d mX0_heights [ax_r 5] (fun r u => ∃ x : Int32, r = some (ax_i x) ∧ ax_W shC (d + 1) mX11_strikeByChance Q 8 [some (ax_r 0), none, none] (ax_i x :: [ax_r 0]) u) σ) : ax_W shC (d + 1) mX11_strikeByChance Q 0 [some (ax_r 0), none, none] [] σ := by
  refine ax_aload_n (q := 1) (i := 0) dX11_strikeByChance_0 rfl rfl rfl ?_
  refine ax_aload_n (q := 2) (i := 0) dX11_strikeByChance_1 rfl rfl rfl ?_
  refine ax_get (q := 5) (k := 0) (j := 4) (v := ax_r 5) dX11_strikeByChance_2 rfl shC_0 rfl rfl rfl (by decide) fl_X11_42 ?_
  exact ax_callVci (q := 8) (As := []) (st := [ax_r 0]) dX11_strikeByChance_5 rfl lk_X11_444 shC_5 rfl rfl rfl rfl (Nat.le_of_ble_eq_true rfl) k1
set_option maxRecDepth 20000 in
theorem s_X11_strikeByChance_8 {d : Nat} (hd : 1 ≤ d) {Q : Option ax_V → ax_S → Prop} (σ : ax_S) (rr : Int32) (h1 : ((1 : Int32) ≤ rr) → ¬ (Int32.toInt64 rr) = 0) (k2 : ax_W shC (d + 1) mX11_strikeByChance Q 14 [some (ax_r 0), some (ax_i (if ((1 : Int32) ≤ rr) then (Int64.toInt32 ((((Int64.toUInt64 (((σ.2 0 19) * (6364136223846793005 : Int64)) + (1442695040888963407 : Int64))) >>> ((Int64.toUInt64 (Int32.toInt64 (33 : Int32))) &&& Int64.toUInt64 63)).toInt64) - (((Int64.toUInt64 (((σ.2 0 19) * (6364136223846793005 : Int64)) + (1442695040888963407 : Int64))) >>> ((Int64.toUInt64 (Int32.toInt64 (33 : Int32))) &&& Int64.toUInt64 63)).toInt64) / (Int32.toInt64 rr) * (Int32.toInt64 rr))) else (0 : Int32))), some (ax_i (0 : Int32))] [] (ax_ul σ 0 19 (((σ.2 0 19) * (6364136223846793005 : Int64)) + (1442695040888963407 : Int64)))) : ax_W shC (d + 1) mX11_strikeByChance Q 8 [some (ax_r 0), none, none] [ax_i rr, ax_r 0] σ := by
  refine ax_callVfi (q := 11) (As := [ax_i rr]) (st := []) (x := (if ((1 : Int32) ≤ rr) then (Int64.toInt32 ((((Int64.toUInt64 (((σ.2 0 19) * (6364136223846793005 : Int64)) + (1442695040888963407 : Int64))) >>> ((Int64.toUInt64 (Int32.toInt64 (33 : Int32))) &&& Int64.toUInt64 63)).toInt64) - (((Int64.toUInt64 (((σ.2 0 19) * (6364136223846793005 : Int64)) + (1442695040888963407 : Int64))) >>> ((Int64.toUInt64 (Int32.toInt64 (33 : Int32))) &&& Int64.toUInt64 63)).toInt64) / (Int32.toInt64 rr) * (Int32.toInt64 rr))) else (0 : Int32))) (σ2 := (ax_ul σ 0 19 (((σ.2 0 19) * (6364136223846793005 : Int64)) + (1442695040888963407 : Int64)))) dX11_strikeByChance_8 rfl lk_X11_287 shC_0 rfl rfl rfl rfl (Nat.le_of_ble_eq_true rfl) (f_X11_draw σ rr h1 (d := d) (by omega)) ?_
  refine ax_istore_n (q := 12) (i := 1) (lv2 := [some (ax_r 0), some (ax_i (if ((1 : Int32) ≤ rr) then (Int64.toInt32 ((((Int64.toUInt64 (((σ.2 0 19) * (6364136223846793005 : Int64)) + (1442695040888963407 : Int64))) >>> ((Int64.toUInt64 (Int32.toInt64 (33 : Int32))) &&& Int64.toUInt64 63)).toInt64) - (((Int64.toUInt64 (((σ.2 0 19) * (6364136223846793005 : Int64)) + (1442695040888963407 : Int64))) >>> ((Int64.toUInt64 (Int32.toInt64 (33 : Int32))) &&& Int64.toUInt64 63)).toInt64) / (Int32.toInt64 rr) * (Int32.toInt64 rr))) else (0 : Int32))), none]) dX11_strikeByChance_11 rfl rfl (by decide) rfl rfl ?_
  refine ax_iconst (q := 13) dX11_strikeByChance_12 rfl ki_0 ?_
  refine ax_istore_n (q := 14) (i := 2) (lv2 := [some (ax_r 0), some (ax_i (if ((1 : Int32) ≤ rr) then (Int64.toInt32 ((((Int64.toUInt64 (((σ.2 0 19) * (6364136223846793005 : Int64)) + (1442695040888963407 : Int64))) >>> ((Int64.toUInt64 (Int32.toInt64 (33 : Int32))) &&& Int64.toUInt64 63)).toInt64) - (((Int64.toUInt64 (((σ.2 0 19) * (6364136223846793005 : Int64)) + (1442695040888963407 : Int64))) >>> ((Int64.toUInt64 (Int32.toInt64 (33 : Int32))) &&& Int64.toUInt64 63)).toInt64) / (Int32.toInt64 rr) * (Int32.toInt64 rr))) else (0 : Int32))), some (ax_i (0 : Int32))]) dX11_strikeByChance_13 rfl rfl (by decide) rfl rfl ?_
  exact k2
set_option maxRecDepth 20000 in
theorem s_X11_strikeByChance_14 {d : Nat} (hd : 1 ≤ d) {Q : Option ax_V → ax_S → Prop} (σ : ax_S) (x1 : Int32) (x2 : Int32) (h1 : (((σ.1 5 9) - (1 : Int32)) ≤ x2) → ((1 : Int32) ≤ (99 : Int32)) → ¬ (Int32.toInt64 (99 : Int32)) = 0) (k2 : (((σ.1 5 9) - (1 : Int32)) ≤ x2) → ax_Ct shC d mX11_strikeNow [ax_r 0, ax_i x2, ax_i ((if ((1 : Int32) ≤ (99 : Int32)) then (Int64.toInt32 ((((Int64.toUInt64 (((σ.2 0 19) * (6364136223846793005 : Int64)) + (1442695040888963407 : Int64))) >>> ((Int64.toUInt64 (Int32.toInt64 (33 : Int32))) &&& Int64.toUInt64 63)).toInt64) - (((Int64.toUInt64 (((σ.2 0 19) * (6364136223846793005 : Int64)) + (1442695040888963407 : Int64))) >>> ((Int64.toUInt64 (Int32.toInt64 (33 : Int32))) &&& Int64.toUInt64 63)).toInt64) / (Int32.toInt64 (99 : Int32)) * (Int32.toInt64 (99 : Int32)))) else (0 : Int32)) + (1 : Int32))] (fun r u => ∃ x : Int32, r = some (ax_i x) ∧ ax_W shC (d + 1) mX11_strikeByChance Q 71 [none, none, none] (ax_i x :: []) u) (ax_ul σ 0 19 (((σ.2 0 19) * (6364136223846793005 : Int64)) + (1442695040888963407 : Int64)))) (h3 : (¬ (((σ.1 5 9) - (1 : Int32)) ≤ x2)) → vp_in x2 8) (h4 : (¬ (((σ.1 5 9) - (1 : Int32)) ≤ x2)) → (x1 < (σ.1 24 (Int32.toNatClampNeg x2))) → ((1 : Int32) ≤ (99 : Int32)) → ¬ (Int32.toInt64 (99 : Int32)) = 0) (k5 : (¬ (((σ.1 5 9) - (1 : Int32)) ≤ x2)) → (x1 < (σ.1 24 (Int32.toNatClampNeg x2))) → ax_Ct shC d mX11_strikeNow [ax_r 0, ax_i x2, ax_i ((if ((1 : Int32) ≤ (99 : Int32)) then (Int64.toInt32 ((((Int64.toUInt64 (((σ.2 0 19) * (6364136223846793005 : Int64)) + (1442695040888963407 : Int64))) >>> ((Int64.toUInt64 (Int32.toInt64 (33 : Int32))) &&& Int64.toUInt64 63)).toInt64) - (((Int64.toUInt64 (((σ.2 0 19) * (6364136223846793005 : Int64)) + (1442695040888963407 : Int64))) >>> ((Int64.toUInt64 (Int32.toInt64 (33 : Int32))) &&& Int64.toUInt64 63)).toInt64) / (Int32.toInt64 (99 : Int32)) * (Int32.toInt64 (99 : Int32)))) else (0 : Int32)) + (1 : Int32))] (fun r u => ∃ x : Int32, r = some (ax_i x) ∧ ax_W shC (d + 1) mX11_strikeByChance Q 71 [none, none, none] (ax_i x :: []) u) (ax_ul σ 0 19 (((σ.2 0 19) * (6364136223846793005 : Int64)) + (1442695040888963407 : Int64)))) (h6 : (¬ (((σ.1 5 9) - (1 : Int32)) ≤ x2)) → (¬ (x1 < (σ.1 24 (Int32.toNatClampNeg x2)))) → vp_in x2 8) (k7 : (¬ (((σ.1 5 9) - (1 : Int32)) ≤ x2)) → (¬ (x1 < (σ.1 24 (Int32.toNatClampNeg x2)))) → ax_W shC (d + 1) mX11_strikeByChance Q 14 [some (ax_r 0), some (ax_i (x1 - (σ.1 24 (Int32.toNatClampNeg x2)))), some (ax_i (x2 + (1 : Int32)))] [] σ) : ax_W shC (d + 1) mX11_strikeByChance Q 14 [some (ax_r 0), some (ax_i x1), some (ax_i x2)] [] σ := by
  refine ax_iload_n (q := 15) (i := 2) dX11_strikeByChance_14 rfl rfl rfl ?_
  refine ax_aload_n (q := 16) (i := 0) dX11_strikeByChance_15 rfl rfl rfl ?_
  refine ax_get (q := 19) (k := 0) (j := 4) (v := ax_r 5) dX11_strikeByChance_16 rfl shC_0 rfl rfl rfl (by decide) fl_X11_42 ?_
  refine ax_get (q := 22) (k := 5) (j := 9) (v := ax_i (σ.1 5 9)) dX11_strikeByChance_19 rfl shC_5 rfl rfl rfl (by decide) fl_X11_154 ?_
  refine ax_iconst (q := 23) dX11_strikeByChance_22 rfl ki_1 ?_
  refine ax_isub (q := 24) dX11_strikeByChance_23 rfl ?_
  refine ax_icmp_ge (tgt := 58) (q := 27) dX11_strikeByChance_24 (by decide) rfl (fun c1 => ?_) (fun c1 => ?_)
  · refine ax_aload_n (q := 59) (i := 0) dX11_strikeByChance_58 rfl rfl rfl ?_
    refine ax_iload_n (q := 60) (i := 2) dX11_strikeByChance_59 rfl rfl rfl ?_
    refine ax_aload_n (q := 61) (i := 0) dX11_strikeByChance_60 rfl rfl rfl ?_
    refine ax_bipush (q := 63) dX11_strikeByChance_61 rfl kb_99 ?_
    refine ax_callVfi (q := 66) (As := [ax_i (99 : Int32)]) (st := [ax_i x2, ax_r 0]) (x := (if ((1 : Int32) ≤ (99 : Int32)) then (Int64.toInt32 ((((Int64.toUInt64 (((σ.2 0 19) * (6364136223846793005 : Int64)) + (1442695040888963407 : Int64))) >>> ((Int64.toUInt64 (Int32.toInt64 (33 : Int32))) &&& Int64.toUInt64 63)).toInt64) - (((Int64.toUInt64 (((σ.2 0 19) * (6364136223846793005 : Int64)) + (1442695040888963407 : Int64))) >>> ((Int64.toUInt64 (Int32.toInt64 (33 : Int32))) &&& Int64.toUInt64 63)).toInt64) / (Int32.toInt64 (99 : Int32)) * (Int32.toInt64 (99 : Int32)))) else (0 : Int32))) (σ2 := (ax_ul σ 0 19 (((σ.2 0 19) * (6364136223846793005 : Int64)) + (1442695040888963407 : Int64)))) dX11_strikeByChance_63 rfl lk_X11_287 shC_0 rfl rfl rfl rfl (Nat.le_of_ble_eq_true rfl) (f_X11_draw σ (99 : Int32) (h1 c1) (d := d) (by omega)) ?_
    refine ax_iconst (q := 67) dX11_strikeByChance_66 rfl ki_1 ?_
    refine ax_iadd (q := 68) dX11_strikeByChance_67 rfl ?_
    refine ax_fg (lv2 := [none, none, none]) trivial ?_
    exact ax_callVci (q := 71) (As := [ax_i x2, ax_i ((if ((1 : Int32) ≤ (99 : Int32)) then (Int64.toInt32 ((((Int64.toUInt64 (((σ.2 0 19) * (6364136223846793005 : Int64)) + (1442695040888963407 : Int64))) >>> ((Int64.toUInt64 (Int32.toInt64 (33 : Int32))) &&& Int64.toUInt64 63)).toInt64) - (((Int64.toUInt64 (((σ.2 0 19) * (6364136223846793005 : Int64)) + (1442695040888963407 : Int64))) >>> ((Int64.toUInt64 (Int32.toInt64 (33 : Int32))) &&& Int64.toUInt64 63)).toInt64) / (Int32.toInt64 (99 : Int32)) * (Int32.toInt64 (99 : Int32)))) else (0 : Int32)) + (1 : Int32))]) (st := []) dX11_strikeByChance_68 rfl lk_X11_251 shC_0 rfl rfl rfl rfl (Nat.le_of_ble_eq_true rfl) (k2 c1)
  · refine ax_iload_n (q := 28) (i := 1) dX11_strikeByChance_27 rfl rfl rfl ?_
    refine ax_aload_n (q := 29) (i := 0) dX11_strikeByChance_28 rfl rfl rfl ?_
    refine ax_get (q := 32) (k := 0) (j := 4) (v := ax_r 5) dX11_strikeByChance_29 rfl shC_0 rfl rfl rfl (by decide) fl_X11_42 ?_
    refine ax_get (q := 35) (k := 5) (j := 1) (v := ax_r 24) dX11_strikeByChance_32 rfl shC_5 rfl rfl rfl (by decide) fl_X11_173 ?_
    refine ax_iload_n (q := 36) (i := 2) dX11_strikeByChance_35 rfl rfl rfl ?_
    refine ax_iald (q := 37) (a := (Int32.toNatClampNeg x2)) (v := (σ.1 24 (Int32.toNatClampNeg x2))) dX11_strikeByChance_36 rfl shC_24 (h3 c1) rfl rfl ?_
    refine ax_icmp_lt (tgt := 58) (q := 40) dX11_strikeByChance_37 (by decide) rfl (fun c2 => ?_) (fun c2 => ?_)
    · refine ax_aload_n (q := 59) (i := 0) dX11_strikeByChance_58 rfl rfl rfl ?_
      refine ax_iload_n (q := 60) (i := 2) dX11_strikeByChance_59 rfl rfl rfl ?_
      refine ax_aload_n (q := 61) (i := 0) dX11_strikeByChance_60 rfl rfl rfl ?_
      refine ax_bipush (q := 63) dX11_strikeByChance_61 rfl kb_99 ?_
      refine ax_callVfi (q := 66) (As := [ax_i (99 : Int32)]) (st := [ax_i x2, ax_r 0]) (x := (if ((1 : Int32) ≤ (99 : Int32)) then (Int64.toInt32 ((((Int64.toUInt64 (((σ.2 0 19) * (6364136223846793005 : Int64)) + (1442695040888963407 : Int64))) >>> ((Int64.toUInt64 (Int32.toInt64 (33 : Int32))) &&& Int64.toUInt64 63)).toInt64) - (((Int64.toUInt64 (((σ.2 0 19) * (6364136223846793005 : Int64)) + (1442695040888963407 : Int64))) >>> ((Int64.toUInt64 (Int32.toInt64 (33 : Int32))) &&& Int64.toUInt64 63)).toInt64) / (Int32.toInt64 (99 : Int32)) * (Int32.toInt64 (99 : Int32)))) else (0 : Int32))) (σ2 := (ax_ul σ 0 19 (((σ.2 0 19) * (6364136223846793005 : Int64)) + (1442695040888963407 : Int64)))) dX11_strikeByChance_63 rfl lk_X11_287 shC_0 rfl rfl rfl rfl (Nat.le_of_ble_eq_true rfl) (f_X11_draw σ (99 : Int32) (h4 c1 c2) (d := d) (by omega)) ?_
      refine ax_iconst (q := 67) dX11_strikeByChance_66 rfl ki_1 ?_
      refine ax_iadd (q := 68) dX11_strikeByChance_67 rfl ?_
      refine ax_fg (lv2 := [none, none, none]) trivial ?_
      exact ax_callVci (q := 71) (As := [ax_i x2, ax_i ((if ((1 : Int32) ≤ (99 : Int32)) then (Int64.toInt32 ((((Int64.toUInt64 (((σ.2 0 19) * (6364136223846793005 : Int64)) + (1442695040888963407 : Int64))) >>> ((Int64.toUInt64 (Int32.toInt64 (33 : Int32))) &&& Int64.toUInt64 63)).toInt64) - (((Int64.toUInt64 (((σ.2 0 19) * (6364136223846793005 : Int64)) + (1442695040888963407 : Int64))) >>> ((Int64.toUInt64 (Int32.toInt64 (33 : Int32))) &&& Int64.toUInt64 63)).toInt64) / (Int32.toInt64 (99 : Int32)) * (Int32.toInt64 (99 : Int32)))) else (0 : Int32)) + (1 : Int32))]) (st := []) dX11_strikeByChance_68 rfl lk_X11_251 shC_0 rfl rfl rfl rfl (Nat.le_of_ble_eq_true rfl) (k5 c1 c2)
    · refine ax_iload_n (q := 41) (i := 1) dX11_strikeByChance_40 rfl rfl rfl ?_
      refine ax_aload_n (q := 42) (i := 0) dX11_strikeByChance_41 rfl rfl rfl ?_
      refine ax_get (q := 45) (k := 0) (j := 4) (v := ax_r 5) dX11_strikeByChance_42 rfl shC_0 rfl rfl rfl (by decide) fl_X11_42 ?_
      refine ax_get (q := 48) (k := 5) (j := 1) (v := ax_r 24) dX11_strikeByChance_45 rfl shC_5 rfl rfl rfl (by decide) fl_X11_173 ?_
      refine ax_iload_n (q := 49) (i := 2) dX11_strikeByChance_48 rfl rfl rfl ?_
      refine ax_iald (q := 50) (a := (Int32.toNatClampNeg x2)) (v := (σ.1 24 (Int32.toNatClampNeg x2))) dX11_strikeByChance_49 rfl shC_24 (h6 c1 c2) rfl rfl ?_
      refine ax_isub (q := 51) dX11_strikeByChance_50 rfl ?_
      refine ax_istore_n (q := 52) (i := 1) (lv2 := [some (ax_r 0), some (ax_i (x1 - (σ.1 24 (Int32.toNatClampNeg x2)))), some (ax_i x2)]) dX11_strikeByChance_51 rfl rfl (by decide) rfl rfl ?_
      refine ax_iincK (q := 55) (lv2 := [some (ax_r 0), some (ax_i (x1 - (σ.1 24 (Int32.toNatClampNeg x2)))), some (ax_i (x2 + (1 : Int32)))]) dX11_strikeByChance_52 rfl rfl ki_1 (by decide) rfl rfl ?_
      refine ax_goto (tgt := 14) dX11_strikeByChance_55 (by decide) ?_
      exact (k7 c1 c2)
set_option maxRecDepth 20000 in
theorem s_X11_strikeByChance_71 {d : Nat} (hd : 0 ≤ d) {Q : Option ax_V → ax_S → Prop} (σ : ax_S) (rr : Int32) (k1 : Q none σ) : ax_W shC (d + 1) mX11_strikeByChance Q 71 [none, none, none] [ax_i rr] σ := by
  refine ax_popi (q := 72) dX11_strikeByChance_71 rfl ?_
  exact ax_vret dX11_strikeByChance_72 rfl k1
set_option maxRecDepth 20000 in
theorem s_X11_decades_0 {d : Nat} (hd : 1 ≤ d) {Q : Option ax_V → ax_S → Prop} (σ : ax_S) (a0 : Int32) (a1 : Int64) (k1 : (¬ (¬ ((σ.1 5 9) ≤ 0))) → Q (some (ax_i (-1 : Int32))) σ) (k2 : (¬ ((σ.1 5 9) ≤ 0)) → ((¬ (a0 < (1 : Int32))) ∧ ((¬ ((60 : Int32) < a0)) ∧ (¬ ((999 : Int32) < ((σ.1 5 14) + a0))))) → ax_W shC (d + 1) mX11_decades Q 25 [some (ax_r 0), some (ax_i a0), none, none, some (ax_i (0 : Int32))] [] (ax_ul σ 0 19 a1)) (k3 : (¬ ((σ.1 5 9) ≤ 0)) → (¬ ((¬ (a0 < (1 : Int32))) ∧ ((¬ ((60 : Int32) < a0)) ∧ (¬ ((999 : Int32) < ((σ.1 5 14) + a0)))))) → Q (some (ax_i (-1 : Int32))) σ) : ax_W shC (d + 1) mX11_decades Q 0 [some (ax_r 0), some (ax_i a0), some (ax_l a1), none, none] [] σ := by
  refine ax_aload_n (q := 1) (i := 0) dX11_decades_0 rfl rfl rfl ?_
  refine ax_callVfi (q := 4) (As := []) (st := []) (x := (if (¬ ((σ.1 5 9) ≤ 0)) then (1 : Int32) else 0)) (σ2 := σ) dX11_decades_1 rfl lk_X11_274 shC_0 rfl rfl rfl rfl (Nat.le_of_ble_eq_true rfl) (f_X11_hasBelt σ   (d := d) (by omega)) ?_
  refine ax_if_eqB (tgt := 15) (q := 7) dX11_decades_4 (by decide) rfl (fun c1 => ?_) (fun c1 => ?_)
  · refine ax_iconst (q := 16) dX11_decades_15 rfl ki_m1 ?_
    exact ax_iret dX11_decades_16 rfl rfl (k1 c1)
  · refine ax_aload_n (q := 8) (i := 0) dX11_decades_7 rfl rfl rfl ?_
    refine ax_iload_n (q := 9) (i := 1) dX11_decades_8 rfl rfl rfl ?_
    refine ax_callVfi (q := 12) (As := [ax_i a0]) (st := []) (x := (if ((¬ (a0 < (1 : Int32))) ∧ ((¬ ((60 : Int32) < a0)) ∧ (¬ ((999 : Int32) < ((σ.1 5 14) + a0))))) then (1 : Int32) else 0)) (σ2 := σ) dX11_decades_9 rfl lk_X11_278 shC_0 rfl rfl rfl rfl (Nat.le_of_ble_eq_true rfl) (f_X11_mayPass σ a0  (d := d) (by omega)) ?_
    refine ax_if_neB (tgt := 17) (q := 15) dX11_decades_12 (by decide) rfl (fun c2 => ?_) (fun c2 => ?_)
    · refine ax_aload_n (q := 18) (i := 0) dX11_decades_17 rfl rfl rfl ?_
      refine ax_lload_n (q := 19) (i := 2) dX11_decades_18 rfl rfl rfl ?_
      refine ax_putl (q := 22) (k := 0) (j := 19) dX11_decades_19 rfl shC_0 rfl rfl (by decide) fl_X11_284 rfl rfl rfl rfl ?_
      refine ax_iconst (q := 23) dX11_decades_22 rfl ki_0 ?_
      refine ax_istore (q := 25) (lv2 := [some (ax_r 0), some (ax_i a0), some (ax_l a1), none, some (ax_i (0 : Int32))]) dX11_decades_23 rfl (by decide) rfl rfl ?_
      refine ax_fg (lv2 := [some (ax_r 0), some (ax_i a0), none, none, some (ax_i (0 : Int32))]) ⟨rfl, rfl, rfl, trivial⟩ ?_
      exact (k2 c1 c2)
    · refine ax_iconst (q := 16) dX11_decades_15 rfl ki_m1 ?_
      exact ax_iret dX11_decades_16 rfl rfl (k3 c1 c2)
set_option maxRecDepth 20000 in
theorem s_X11_decades_25 {d : Nat} (hd : 0 ≤ d) {Q : Option ax_V → ax_S → Prop} (σ : ax_S) (x1 : Int32) (x4 : Int32) (k1 : (x1 ≤ x4) → Q (some (ax_i (σ.1 5 14))) σ) (k2 : (¬ (x1 ≤ x4)) → ax_Ct shC d mX11_remember [ax_r 0] (fun r u => r = none ∧ ax_W shC (d + 1) mX11_decades Q 35 [some (ax_r 0), some (ax_i x1), none, none, some (ax_i x4)] [] u) σ) : ax_W shC (d + 1) mX11_decades Q 25 [some (ax_r 0), some (ax_i x1), none, none, some (ax_i x4)] [] σ := by
  refine ax_iload (q := 27) dX11_decades_25 rfl rfl ?_
  refine ax_iload_n (q := 28) (i := 1) dX11_decades_27 rfl rfl rfl ?_
  refine ax_icmp_ge (tgt := 113) (q := 31) dX11_decades_28 (by decide) rfl (fun c1 => ?_) (fun c1 => ?_)
  · refine ax_aload_n (q := 114) (i := 0) dX11_decades_113 rfl rfl rfl ?_
    refine ax_get (q := 117) (k := 0) (j := 4) (v := ax_r 5) dX11_decades_114 rfl shC_0 rfl rfl rfl (by decide) fl_X11_42 ?_
    refine ax_get (q := 120) (k := 5) (j := 14) (v := ax_i (σ.1 5 14)) dX11_decades_117 rfl shC_5 rfl rfl rfl (by decide) fl_X11_224 ?_
    exact ax_iret dX11_decades_120 rfl rfl (k1 c1)
  · refine ax_aload_n (q := 32) (i := 0) dX11_decades_31 rfl rfl rfl ?_
    exact ax_callVcv (q := 35) (As := []) (st := []) dX11_decades_32 rfl lk_X11_248 shC_0 rfl rfl rfl rfl (Nat.le_of_ble_eq_true rfl) (k2 c1)
set_option maxRecDepth 20000 in
theorem s_X11_decades_35 {d : Nat} (hd : 1 ≤ d) {Q : Option ax_V → ax_S → Prop} (σ : ax_S) (x1 : Int32) (x4 : Int32) (h1 : ((1 : Int32) ≤ (10 : Int32)) → ¬ (Int32.toInt64 (10 : Int32)) = 0) (h2 : ((σ.1 0 14) ≤ (if ((1 : Int32) ≤ (10 : Int32)) then (Int64.toInt32 ((((Int64.toUInt64 (((σ.2 0 19) * (6364136223846793005 : Int64)) + (1442695040888963407 : Int64))) >>> ((Int64.toUInt64 (Int32.toInt64 (33 : Int32))) &&& Int64.toUInt64 63)).toInt64) - (((Int64.toUInt64 (((σ.2 0 19) * (6364136223846793005 : Int64)) + (1442695040888963407 : Int64))) >>> ((Int64.toUInt64 (Int32.toInt64 (33 : Int32))) &&& Int64.toUInt64 63)).toInt64) / (Int32.toInt64 (10 : Int32)) * (Int32.toInt64 (10 : Int32)))) else (0 : Int32))) → ((1 : Int32) ≤ (10 : Int32)) → ¬ (Int32.toInt64 (10 : Int32)) = 0) (k3 : ((σ.1 0 14) ≤ (if ((1 : Int32) ≤ (10 : Int32)) then (Int64.toInt32 ((((Int64.toUInt64 (((σ.2 0 19) * (6364136223846793005 : Int64)) + (1442695040888963407 : Int64))) >>> ((Int64.toUInt64 (Int32.toInt64 (33 : Int32))) &&& Int64.toUInt64 63)).toInt64) - (((Int64.toUInt64 (((σ.2 0 19) * (6364136223846793005 : Int64)) + (1442695040888963407 : Int64))) >>> ((Int64.toUInt64 (Int32.toInt64 (33 : Int32))) &&& Int64.toUInt64 63)).toInt64) / (Int32.toInt64 (10 : Int32)) * (Int32.toInt64 (10 : Int32)))) else (0 : Int32))) → ((σ.1 0 15) ≤ (if ((1 : Int32) ≤ (10 : Int32)) then (Int64.toInt32 ((((Int64.toUInt64 (((((σ.2 0 19) * (6364136223846793005 : Int64)) + (1442695040888963407 : Int64)) * (6364136223846793005 : Int64)) + (1442695040888963407 : Int64))) >>> ((Int64.toUInt64 (Int32.toInt64 (33 : Int32))) &&& Int64.toUInt64 63)).toInt64) - (((Int64.toUInt64 (((((σ.2 0 19) * (6364136223846793005 : Int64)) + (1442695040888963407 : Int64)) * (6364136223846793005 : Int64)) + (1442695040888963407 : Int64))) >>> ((Int64.toUInt64 (Int32.toInt64 (33 : Int32))) &&& Int64.toUInt64 63)).toInt64) / (Int32.toInt64 (10 : Int32)) * (Int32.toInt64 (10 : Int32)))) else (0 : Int32))) → ax_Ct shC d mX0_passSummer [ax_r 5] (fun r u => r = none ∧ ax_W shC (d + 1) mX11_decades Q 107 [some (ax_r 0), some (ax_i x1), none, none, some (ax_i x4)] [] u) (ax_ul (ax_ul σ 0 19 (((σ.2 0 19) * (6364136223846793005 : Int64)) + (1442695040888963407 : Int64))) 0 19 (((((σ.2 0 19) * (6364136223846793005 : Int64)) + (1442695040888963407 : Int64)) * (6364136223846793005 : Int64)) + (1442695040888963407 : Int64)))) (k4 : ((σ.1 0 14) ≤ (if ((1 : Int32) ≤ (10 : Int32)) then (Int64.toInt32 ((((Int64.toUInt64 (((σ.2 0 19) * (6364136223846793005 : Int64)) + (1442695040888963407 : Int64))) >>> ((Int64.toUInt64 (Int32.toInt64 (33 : Int32))) &&& Int64.toUInt64 63)).toInt64) - (((Int64.toUInt64 (((σ.2 0 19) * (6364136223846793005 : Int64)) + (1442695040888963407 : Int64))) >>> ((Int64.toUInt64 (Int32.toInt64 (33 : Int32))) &&& Int64.toUInt64 63)).toInt64) / (Int32.toInt64 (10 : Int32)) * (Int32.toInt64 (10 : Int32)))) else (0 : Int32))) → (¬ ((σ.1 0 15) ≤ (if ((1 : Int32) ≤ (10 : Int32)) then (Int64.toInt32 ((((Int64.toUInt64 (((((σ.2 0 19) * (6364136223846793005 : Int64)) + (1442695040888963407 : Int64)) * (6364136223846793005 : Int64)) + (1442695040888963407 : Int64))) >>> ((Int64.toUInt64 (Int32.toInt64 (33 : Int32))) &&& Int64.toUInt64 63)).toInt64) - (((Int64.toUInt64 (((((σ.2 0 19) * (6364136223846793005 : Int64)) + (1442695040888963407 : Int64)) * (6364136223846793005 : Int64)) + (1442695040888963407 : Int64))) >>> ((Int64.toUInt64 (Int32.toInt64 (33 : Int32))) &&& Int64.toUInt64 63)).toInt64) / (Int32.toInt64 (10 : Int32)) * (Int32.toInt64 (10 : Int32)))) else (0 : Int32)))) → ((σ.1 5 10) ≤ 0) → ax_Ct shC d mX0_passSummer [ax_r 5] (fun r u => r = none ∧ ax_W shC (d + 1) mX11_decades Q 107 [some (ax_r 0), some (ax_i x1), none, none, some (ax_i x4)] [] u) (ax_ul (ax_ul σ 0 19 (((σ.2 0 19) * (6364136223846793005 : Int64)) + (1442695040888963407 : Int64))) 0 19 (((((σ.2 0 19) * (6364136223846793005 : Int64)) + (1442695040888963407 : Int64)) * (6364136223846793005 : Int64)) + (1442695040888963407 : Int64)))) (h5 : ((σ.1 0 14) ≤ (if ((1 : Int32) ≤ (10 : Int32)) then (Int64.toInt32 ((((Int64.toUInt64 (((σ.2 0 19) * (6364136223846793005 : Int64)) + (1442695040888963407 : Int64))) >>> ((Int64.toUInt64 (Int32.toInt64 (33 : Int32))) &&& Int64.toUInt64 63)).toInt64) - (((Int64.toUInt64 (((σ.2 0 19) * (6364136223846793005 : Int64)) + (1442695040888963407 : Int64))) >>> ((Int64.toUInt64 (Int32.toInt64 (33 : Int32))) &&& Int64.toUInt64 63)).toInt64) / (Int32.toInt64 (10 : Int32)) * (Int32.toInt64 (10 : Int32)))) else (0 : Int32))) → (¬ ((σ.1 0 15) ≤ (if ((1 : Int32) ≤ (10 : Int32)) then (Int64.toInt32 ((((Int64.toUInt64 (((((σ.2 0 19) * (6364136223846793005 : Int64)) + (1442695040888963407 : Int64)) * (6364136223846793005 : Int64)) + (1442695040888963407 : Int64))) >>> ((Int64.toUInt64 (Int32.toInt64 (33 : Int32))) &&& Int64.toUInt64 63)).toInt64) - (((Int64.toUInt64 (((((σ.2 0 19) * (6364136223846793005 : Int64)) + (1442695040888963407 : Int64)) * (6364136223846793005 : Int64)) + (1442695040888963407 : Int64))) >>> ((Int64.toUInt64 (Int32.toInt64 (33 : Int32))) &&& Int64.toUInt64 63)).toInt64) / (Int32.toInt64 (10 : Int32)) * (Int32.toInt64 (10 : Int32)))) else (0 : Int32)))) → (¬ ((σ.1 5 10) ≤ 0)) → ((1 : Int32) ≤ (σ.1 5 10)) → ¬ (Int32.toInt64 (σ.1 5 10)) = 0) (k6 : ((σ.1 0 14) ≤ (if ((1 : Int32) ≤ (10 : Int32)) then (Int64.toInt32 ((((Int64.toUInt64 (((σ.2 0 19) * (6364136223846793005 : Int64)) + (1442695040888963407 : Int64))) >>> ((Int64.toUInt64 (Int32.toInt64 (33 : Int32))) &&& Int64.toUInt64 63)).toInt64) - (((Int64.toUInt64 (((σ.2 0 19) * (6364136223846793005 : Int64)) + (1442695040888963407 : Int64))) >>> ((Int64.toUInt64 (Int32.toInt64 (33 : Int32))) &&& Int64.toUInt64 63)).toInt64) / (Int32.toInt64 (10 : Int32)) * (Int32.toInt64 (10 : Int32)))) else (0 : Int32))) → (¬ ((σ.1 0 15) ≤ (if ((1 : Int32) ≤ (10 : Int32)) then (Int64.toInt32 ((((Int64.toUInt64 (((((σ.2 0 19) * (6364136223846793005 : Int64)) + (1442695040888963407 : Int64)) * (6364136223846793005 : Int64)) + (1442695040888963407 : Int64))) >>> ((Int64.toUInt64 (Int32.toInt64 (33 : Int32))) &&& Int64.toUInt64 63)).toInt64) - (((Int64.toUInt64 (((((σ.2 0 19) * (6364136223846793005 : Int64)) + (1442695040888963407 : Int64)) * (6364136223846793005 : Int64)) + (1442695040888963407 : Int64))) >>> ((Int64.toUInt64 (Int32.toInt64 (33 : Int32))) &&& Int64.toUInt64 63)).toInt64) / (Int32.toInt64 (10 : Int32)) * (Int32.toInt64 (10 : Int32)))) else (0 : Int32)))) → (¬ ((σ.1 5 10) ≤ 0)) → ax_Ct shC d mX0_passSummer [ax_r 5] (fun r u => r = none ∧ ax_W shC (d + 1) mX11_decades Q 107 [some (ax_r 0), some (ax_i x1), none, none, some (ax_i x4)] [] u) (ax_ui (ax_ul (ax_ul (ax_ul σ 0 19 (((σ.2 0 19) * (6364136223846793005 : Int64)) + (1442695040888963407 : Int64))) 0 19 (((((σ.2 0 19) * (6364136223846793005 : Int64)) + (1442695040888963407 : Int64)) * (6364136223846793005 : Int64)) + (1442695040888963407 : Int64))) 0 19 (((((((σ.2 0 19) * (6364136223846793005 : Int64)) + (1442695040888963407 : Int64)) * (6364136223846793005 : Int64)) + (1442695040888963407 : Int64)) * (6364136223846793005 : Int64)) + (1442695040888963407 : Int64))) 5 11 ((σ.1 5 11) ||| ((1 : Int32) <<< ((if ((1 : Int32) ≤ (σ.1 5 10)) then (Int64.toInt32 ((((Int64.toUInt64 (((((((σ.2 0 19) * (6364136223846793005 : Int64)) + (1442695040888963407 : Int64)) * (6364136223846793005 : Int64)) + (1442695040888963407 : Int64)) * (6364136223846793005 : Int64)) + (1442695040888963407 : Int64))) >>> ((Int64.toUInt64 (Int32.toInt64 (33 : Int32))) &&& Int64.toUInt64 63)).toInt64) - (((Int64.toUInt64 (((((((σ.2 0 19) * (6364136223846793005 : Int64)) + (1442695040888963407 : Int64)) * (6364136223846793005 : Int64)) + (1442695040888963407 : Int64)) * (6364136223846793005 : Int64)) + (1442695040888963407 : Int64))) >>> ((Int64.toUInt64 (Int32.toInt64 (33 : Int32))) &&& Int64.toUInt64 63)).toInt64) / (Int32.toInt64 (σ.1 5 10)) * (Int32.toInt64 (σ.1 5 10)))) else (0 : Int32)) &&& 31))))) (k7 : (¬ ((σ.1 0 14) ≤ (if ((1 : Int32) ≤ (10 : Int32)) then (Int64.toInt32 ((((Int64.toUInt64 (((σ.2 0 19) * (6364136223846793005 : Int64)) + (1442695040888963407 : Int64))) >>> ((Int64.toUInt64 (Int32.toInt64 (33 : Int32))) &&& Int64.toUInt64 63)).toInt64) - (((Int64.toUInt64 (((σ.2 0 19) * (6364136223846793005 : Int64)) + (1442695040888963407 : Int64))) >>> ((Int64.toUInt64 (Int32.toInt64 (33 : Int32))) &&& Int64.toUInt64 63)).toInt64) / (Int32.toInt64 (10 : Int32)) * (Int32.toInt64 (10 : Int32)))) else (0 : Int32)))) → ax_Ct shC d mX11_strikeByChance [ax_r 0] (fun r u => r = none ∧ ax_W shC (d + 1) mX11_decades Q 52 [some (ax_r 0), some (ax_i x1), none, none, some (ax_i x4)] [] u) (ax_ul σ 0 19 (((σ.2 0 19) * (6364136223846793005 : Int64)) + (1442695040888963407 : Int64)))) : ax_W shC (d + 1) mX11_decades Q 35 [some (ax_r 0), some (ax_i x1), none, none, some (ax_i x4)] [] σ := by
  refine ax_aload_n (q := 36) (i := 0) dX11_decades_35 rfl rfl rfl ?_
  refine ax_bipush (q := 38) dX11_decades_36 rfl kb_10 ?_
  refine ax_callVfi (q := 41) (As := [ax_i (10 : Int32)]) (st := []) (x := (if ((1 : Int32) ≤ (10 : Int32)) then (Int64.toInt32 ((((Int64.toUInt64 (((σ.2 0 19) * (6364136223846793005 : Int64)) + (1442695040888963407 : Int64))) >>> ((Int64.toUInt64 (Int32.toInt64 (33 : Int32))) &&& Int64.toUInt64 63)).toInt64) - (((Int64.toUInt64 (((σ.2 0 19) * (6364136223846793005 : Int64)) + (1442695040888963407 : Int64))) >>> ((Int64.toUInt64 (Int32.toInt64 (33 : Int32))) &&& Int64.toUInt64 63)).toInt64) / (Int32.toInt64 (10 : Int32)) * (Int32.toInt64 (10 : Int32)))) else (0 : Int32))) (σ2 := (ax_ul σ 0 19 (((σ.2 0 19) * (6364136223846793005 : Int64)) + (1442695040888963407 : Int64)))) dX11_decades_38 rfl lk_X11_287 shC_0 rfl rfl rfl rfl (Nat.le_of_ble_eq_true rfl) (f_X11_draw σ (10 : Int32) h1 (d := d) (by omega)) ?_
  refine ax_aload_n (q := 42) (i := 0) dX11_decades_41 rfl rfl rfl ?_
  refine ax_get (q := 45) (k := 0) (j := 14) (v := ax_i (σ.1 0 14)) dX11_decades_42 rfl shC_0 rfl rfl rfl (by decide) fl_X11_99 ?_
  refine ax_icmp_ge (tgt := 52) (q := 48) dX11_decades_45 (by decide) rfl (fun c1 => ?_) (fun c1 => ?_)
  · refine ax_aload_n (q := 53) (i := 0) dX11_decades_52 rfl rfl rfl ?_
    refine ax_bipush (q := 55) dX11_decades_53 rfl kb_10 ?_
    refine ax_callVfi (q := 58) (As := [ax_i (10 : Int32)]) (st := []) (x := (if ((1 : Int32) ≤ (10 : Int32)) then (Int64.toInt32 ((((Int64.toUInt64 (((((σ.2 0 19) * (6364136223846793005 : Int64)) + (1442695040888963407 : Int64)) * (6364136223846793005 : Int64)) + (1442695040888963407 : Int64))) >>> ((Int64.toUInt64 (Int32.toInt64 (33 : Int32))) &&& Int64.toUInt64 63)).toInt64) - (((Int64.toUInt64 (((((σ.2 0 19) * (6364136223846793005 : Int64)) + (1442695040888963407 : Int64)) * (6364136223846793005 : Int64)) + (1442695040888963407 : Int64))) >>> ((Int64.toUInt64 (Int32.toInt64 (33 : Int32))) &&& Int64.toUInt64 63)).toInt64) / (Int32.toInt64 (10 : Int32)) * (Int32.toInt64 (10 : Int32)))) else (0 : Int32))) (σ2 := (ax_ul (ax_ul σ 0 19 (((σ.2 0 19) * (6364136223846793005 : Int64)) + (1442695040888963407 : Int64))) 0 19 (((((σ.2 0 19) * (6364136223846793005 : Int64)) + (1442695040888963407 : Int64)) * (6364136223846793005 : Int64)) + (1442695040888963407 : Int64)))) dX11_decades_55 rfl lk_X11_287 shC_0 rfl rfl rfl rfl (Nat.le_of_ble_eq_true rfl) (f_X11_draw (ax_ul σ 0 19 (((σ.2 0 19) * (6364136223846793005 : Int64)) + (1442695040888963407 : Int64))) (10 : Int32) (h2 c1) (d := d) (by omega)) ?_
    refine ax_aload_n (q := 59) (i := 0) dX11_decades_58 rfl rfl rfl ?_
    refine ax_get (q := 62) (k := 0) (j := 15) (v := ax_i (σ.1 0 15)) dX11_decades_59 rfl shC_0 rfl rfl rfl (by decide) fl_X11_233 ?_
    refine ax_icmp_ge (tgt := 100) (q := 65) dX11_decades_62 (by decide) rfl (fun c2 => ?_) (fun c2 => ?_)
    · refine ax_aload_n (q := 101) (i := 0) dX11_decades_100 rfl rfl rfl ?_
      refine ax_get (q := 104) (k := 0) (j := 4) (v := ax_r 5) dX11_decades_101 rfl shC_0 rfl rfl rfl (by decide) fl_X11_42 ?_
      exact ax_callVcv (q := 107) (As := []) (st := []) dX11_decades_104 rfl lk_X11_281 shC_5 rfl rfl rfl rfl (Nat.le_of_ble_eq_true rfl) (k3 c1 c2)
    · refine ax_aload_n (q := 66) (i := 0) dX11_decades_65 rfl rfl rfl ?_
      refine ax_get (q := 69) (k := 0) (j := 4) (v := ax_r 5) dX11_decades_66 rfl shC_0 rfl rfl rfl (by decide) fl_X11_42 ?_
      refine ax_get (q := 72) (k := 5) (j := 10) (v := ax_i (σ.1 5 10)) dX11_decades_69 rfl shC_5 rfl rfl rfl (by decide) fl_X11_221 ?_
      refine ax_if_le (tgt := 100) (q := 75) dX11_decades_72 (by decide) rfl (fun c3 => ?_) (fun c3 => ?_)
      · refine ax_aload_n (q := 101) (i := 0) dX11_decades_100 rfl rfl rfl ?_
        refine ax_get (q := 104) (k := 0) (j := 4) (v := ax_r 5) dX11_decades_101 rfl shC_0 rfl rfl rfl (by decide) fl_X11_42 ?_
        exact ax_callVcv (q := 107) (As := []) (st := []) dX11_decades_104 rfl lk_X11_281 shC_5 rfl rfl rfl rfl (Nat.le_of_ble_eq_true rfl) (k4 c1 c2 c3)
      · refine ax_aload_n (q := 76) (i := 0) dX11_decades_75 rfl rfl rfl ?_
        refine ax_get (q := 79) (k := 0) (j := 4) (v := ax_r 5) dX11_decades_76 rfl shC_0 rfl rfl rfl (by decide) fl_X11_42 ?_
        refine ax_dupr (q := 80) dX11_decades_79 rfl ?_
        refine ax_get (q := 83) (k := 5) (j := 11) (v := ax_i (σ.1 5 11)) dX11_decades_80 rfl shC_5 rfl rfl rfl (by decide) fl_X11_212 ?_
        refine ax_iconst (q := 84) dX11_decades_83 rfl ki_1 ?_
        refine ax_aload_n (q := 85) (i := 0) dX11_decades_84 rfl rfl rfl ?_
        refine ax_aload_n (q := 86) (i := 0) dX11_decades_85 rfl rfl rfl ?_
        refine ax_get (q := 89) (k := 0) (j := 4) (v := ax_r 5) dX11_decades_86 rfl shC_0 rfl rfl rfl (by decide) fl_X11_42 ?_
        refine ax_get (q := 92) (k := 5) (j := 10) (v := ax_i (σ.1 5 10)) dX11_decades_89 rfl shC_5 rfl rfl rfl (by decide) fl_X11_221 ?_
        refine ax_callVfi (q := 95) (As := [ax_i (σ.1 5 10)]) (st := [ax_i (1 : Int32), ax_i (σ.1 5 11), ax_r 5]) (x := (if ((1 : Int32) ≤ (σ.1 5 10)) then (Int64.toInt32 ((((Int64.toUInt64 (((((((σ.2 0 19) * (6364136223846793005 : Int64)) + (1442695040888963407 : Int64)) * (6364136223846793005 : Int64)) + (1442695040888963407 : Int64)) * (6364136223846793005 : Int64)) + (1442695040888963407 : Int64))) >>> ((Int64.toUInt64 (Int32.toInt64 (33 : Int32))) &&& Int64.toUInt64 63)).toInt64) - (((Int64.toUInt64 (((((((σ.2 0 19) * (6364136223846793005 : Int64)) + (1442695040888963407 : Int64)) * (6364136223846793005 : Int64)) + (1442695040888963407 : Int64)) * (6364136223846793005 : Int64)) + (1442695040888963407 : Int64))) >>> ((Int64.toUInt64 (Int32.toInt64 (33 : Int32))) &&& Int64.toUInt64 63)).toInt64) / (Int32.toInt64 (σ.1 5 10)) * (Int32.toInt64 (σ.1 5 10)))) else (0 : Int32))) (σ2 := (ax_ul (ax_ul (ax_ul σ 0 19 (((σ.2 0 19) * (6364136223846793005 : Int64)) + (1442695040888963407 : Int64))) 0 19 (((((σ.2 0 19) * (6364136223846793005 : Int64)) + (1442695040888963407 : Int64)) * (6364136223846793005 : Int64)) + (1442695040888963407 : Int64))) 0 19 (((((((σ.2 0 19) * (6364136223846793005 : Int64)) + (1442695040888963407 : Int64)) * (6364136223846793005 : Int64)) + (1442695040888963407 : Int64)) * (6364136223846793005 : Int64)) + (1442695040888963407 : Int64)))) dX11_decades_92 rfl lk_X11_287 shC_0 rfl rfl rfl rfl (Nat.le_of_ble_eq_true rfl) (f_X11_draw (ax_ul (ax_ul σ 0 19 (((σ.2 0 19) * (6364136223846793005 : Int64)) + (1442695040888963407 : Int64))) 0 19 (((((σ.2 0 19) * (6364136223846793005 : Int64)) + (1442695040888963407 : Int64)) * (6364136223846793005 : Int64)) + (1442695040888963407 : Int64))) (σ.1 5 10) (h5 c1 c2 c3) (d := d) (by omega)) ?_
        refine ax_ishl (q := 96) dX11_decades_95 rfl ?_
        refine ax_ior (q := 97) dX11_decades_96 rfl ?_
        refine ax_puti (q := 100) (k := 5) (j := 11) dX11_decades_97 rfl shC_5 rfl rfl (by decide) fl_X11_212 rfl rfl rfl rfl ?_
        refine ax_aload_n (q := 101) (i := 0) dX11_decades_100 rfl rfl rfl ?_
        refine ax_get (q := 104) (k := 0) (j := 4) (v := ax_r 5) dX11_decades_101 rfl shC_0 rfl rfl rfl (by decide) fl_X11_42 ?_
        exact ax_callVcv (q := 107) (As := []) (st := []) dX11_decades_104 rfl lk_X11_281 shC_5 rfl rfl rfl rfl (Nat.le_of_ble_eq_true rfl) (k6 c1 c2 c3)
  · refine ax_aload_n (q := 49) (i := 0) dX11_decades_48 rfl rfl rfl ?_
    exact ax_callVcv (q := 52) (As := []) (st := []) dX11_decades_49 rfl lk_X11_290 shC_0 rfl rfl rfl rfl (Nat.le_of_ble_eq_true rfl) (k7 c1)
set_option maxRecDepth 20000 in
theorem s_X11_decades_107 {d : Nat} (hd : 0 ≤ d) {Q : Option ax_V → ax_S → Prop} (σ : ax_S) (x1 : Int32) (x4 : Int32) (k1 : ax_W shC (d + 1) mX11_decades Q 25 [some (ax_r 0), some (ax_i x1), none, none, some (ax_i (x4 + (1 : Int32)))] [] σ) : ax_W shC (d + 1) mX11_decades Q 107 [some (ax_r 0), some (ax_i x1), none, none, some (ax_i x4)] [] σ := by
  refine ax_iincK (q := 110) (lv2 := [some (ax_r 0), some (ax_i x1), none, none, some (ax_i (x4 + (1 : Int32)))]) dX11_decades_107 rfl rfl ki_1 (by decide) rfl rfl ?_
  refine ax_goto (tgt := 25) dX11_decades_110 (by decide) ?_
  exact k1
set_option maxRecDepth 20000 in
theorem s_X11_decades_52 {d : Nat} (hd : 1 ≤ d) {Q : Option ax_V → ax_S → Prop} (σ : ax_S) (x1 : Int32) (x4 : Int32) (h1 : ((1 : Int32) ≤ (10 : Int32)) → ¬ (Int32.toInt64 (10 : Int32)) = 0) (k2 : ((σ.1 0 15) ≤ (if ((1 : Int32) ≤ (10 : Int32)) then (Int64.toInt32 ((((Int64.toUInt64 (((σ.2 0 19) * (6364136223846793005 : Int64)) + (1442695040888963407 : Int64))) >>> ((Int64.toUInt64 (Int32.toInt64 (33 : Int32))) &&& Int64.toUInt64 63)).toInt64) - (((Int64.toUInt64 (((σ.2 0 19) * (6364136223846793005 : Int64)) + (1442695040888963407 : Int64))) >>> ((Int64.toUInt64 (Int32.toInt64 (33 : Int32))) &&& Int64.toUInt64 63)).toInt64) / (Int32.toInt64 (10 : Int32)) * (Int32.toInt64 (10 : Int32)))) else (0 : Int32))) → ax_Ct shC d mX0_passSummer [ax_r 5] (fun r u => r = none ∧ ax_W shC (d + 1) mX11_decades Q 107 [some (ax_r 0), some (ax_i x1), none, none, some (ax_i x4)] [] u) (ax_ul σ 0 19 (((σ.2 0 19) * (6364136223846793005 : Int64)) + (1442695040888963407 : Int64)))) (k3 : (¬ ((σ.1 0 15) ≤ (if ((1 : Int32) ≤ (10 : Int32)) then (Int64.toInt32 ((((Int64.toUInt64 (((σ.2 0 19) * (6364136223846793005 : Int64)) + (1442695040888963407 : Int64))) >>> ((Int64.toUInt64 (Int32.toInt64 (33 : Int32))) &&& Int64.toUInt64 63)).toInt64) - (((Int64.toUInt64 (((σ.2 0 19) * (6364136223846793005 : Int64)) + (1442695040888963407 : Int64))) >>> ((Int64.toUInt64 (Int32.toInt64 (33 : Int32))) &&& Int64.toUInt64 63)).toInt64) / (Int32.toInt64 (10 : Int32)) * (Int32.toInt64 (10 : Int32)))) else (0 : Int32)))) → ((σ.1 5 10) ≤ 0) → ax_Ct shC d mX0_passSummer [ax_r 5] (fun r u => r = none ∧ ax_W shC (d + 1) mX11_decades Q 107 [some (ax_r 0), some (ax_i x1), none, none, some (ax_i x4)] [] u) (ax_ul σ 0 19 (((σ.2 0 19) * (6364136223846793005 : Int64)) + (1442695040888963407 : Int64)))) (h4 : (¬ ((σ.1 0 15) ≤ (if ((1 : Int32) ≤ (10 : Int32)) then (Int64.toInt32 ((((Int64.toUInt64 (((σ.2 0 19) * (6364136223846793005 : Int64)) + (1442695040888963407 : Int64))) >>> ((Int64.toUInt64 (Int32.toInt64 (33 : Int32))) &&& Int64.toUInt64 63)).toInt64) - (((Int64.toUInt64 (((σ.2 0 19) * (6364136223846793005 : Int64)) + (1442695040888963407 : Int64))) >>> ((Int64.toUInt64 (Int32.toInt64 (33 : Int32))) &&& Int64.toUInt64 63)).toInt64) / (Int32.toInt64 (10 : Int32)) * (Int32.toInt64 (10 : Int32)))) else (0 : Int32)))) → (¬ ((σ.1 5 10) ≤ 0)) → ((1 : Int32) ≤ (σ.1 5 10)) → ¬ (Int32.toInt64 (σ.1 5 10)) = 0) (k5 : (¬ ((σ.1 0 15) ≤ (if ((1 : Int32) ≤ (10 : Int32)) then (Int64.toInt32 ((((Int64.toUInt64 (((σ.2 0 19) * (6364136223846793005 : Int64)) + (1442695040888963407 : Int64))) >>> ((Int64.toUInt64 (Int32.toInt64 (33 : Int32))) &&& Int64.toUInt64 63)).toInt64) - (((Int64.toUInt64 (((σ.2 0 19) * (6364136223846793005 : Int64)) + (1442695040888963407 : Int64))) >>> ((Int64.toUInt64 (Int32.toInt64 (33 : Int32))) &&& Int64.toUInt64 63)).toInt64) / (Int32.toInt64 (10 : Int32)) * (Int32.toInt64 (10 : Int32)))) else (0 : Int32)))) → (¬ ((σ.1 5 10) ≤ 0)) → ax_Ct shC d mX0_passSummer [ax_r 5] (fun r u => r = none ∧ ax_W shC (d + 1) mX11_decades Q 107 [some (ax_r 0), some (ax_i x1), none, none, some (ax_i x4)] [] u) (ax_ui (ax_ul (ax_ul σ 0 19 (((σ.2 0 19) * (6364136223846793005 : Int64)) + (1442695040888963407 : Int64))) 0 19 (((((σ.2 0 19) * (6364136223846793005 : Int64)) + (1442695040888963407 : Int64)) * (6364136223846793005 : Int64)) + (1442695040888963407 : Int64))) 5 11 ((σ.1 5 11) ||| ((1 : Int32) <<< ((if ((1 : Int32) ≤ (σ.1 5 10)) then (Int64.toInt32 ((((Int64.toUInt64 (((((σ.2 0 19) * (6364136223846793005 : Int64)) + (1442695040888963407 : Int64)) * (6364136223846793005 : Int64)) + (1442695040888963407 : Int64))) >>> ((Int64.toUInt64 (Int32.toInt64 (33 : Int32))) &&& Int64.toUInt64 63)).toInt64) - (((Int64.toUInt64 (((((σ.2 0 19) * (6364136223846793005 : Int64)) + (1442695040888963407 : Int64)) * (6364136223846793005 : Int64)) + (1442695040888963407 : Int64))) >>> ((Int64.toUInt64 (Int32.toInt64 (33 : Int32))) &&& Int64.toUInt64 63)).toInt64) / (Int32.toInt64 (σ.1 5 10)) * (Int32.toInt64 (σ.1 5 10)))) else (0 : Int32)) &&& 31))))) : ax_W shC (d + 1) mX11_decades Q 52 [some (ax_r 0), some (ax_i x1), none, none, some (ax_i x4)] [] σ := by
  refine ax_aload_n (q := 53) (i := 0) dX11_decades_52 rfl rfl rfl ?_
  refine ax_bipush (q := 55) dX11_decades_53 rfl kb_10 ?_
  refine ax_callVfi (q := 58) (As := [ax_i (10 : Int32)]) (st := []) (x := (if ((1 : Int32) ≤ (10 : Int32)) then (Int64.toInt32 ((((Int64.toUInt64 (((σ.2 0 19) * (6364136223846793005 : Int64)) + (1442695040888963407 : Int64))) >>> ((Int64.toUInt64 (Int32.toInt64 (33 : Int32))) &&& Int64.toUInt64 63)).toInt64) - (((Int64.toUInt64 (((σ.2 0 19) * (6364136223846793005 : Int64)) + (1442695040888963407 : Int64))) >>> ((Int64.toUInt64 (Int32.toInt64 (33 : Int32))) &&& Int64.toUInt64 63)).toInt64) / (Int32.toInt64 (10 : Int32)) * (Int32.toInt64 (10 : Int32)))) else (0 : Int32))) (σ2 := (ax_ul σ 0 19 (((σ.2 0 19) * (6364136223846793005 : Int64)) + (1442695040888963407 : Int64)))) dX11_decades_55 rfl lk_X11_287 shC_0 rfl rfl rfl rfl (Nat.le_of_ble_eq_true rfl) (f_X11_draw σ (10 : Int32) h1 (d := d) (by omega)) ?_
  refine ax_aload_n (q := 59) (i := 0) dX11_decades_58 rfl rfl rfl ?_
  refine ax_get (q := 62) (k := 0) (j := 15) (v := ax_i (σ.1 0 15)) dX11_decades_59 rfl shC_0 rfl rfl rfl (by decide) fl_X11_233 ?_
  refine ax_icmp_ge (tgt := 100) (q := 65) dX11_decades_62 (by decide) rfl (fun c1 => ?_) (fun c1 => ?_)
  · refine ax_aload_n (q := 101) (i := 0) dX11_decades_100 rfl rfl rfl ?_
    refine ax_get (q := 104) (k := 0) (j := 4) (v := ax_r 5) dX11_decades_101 rfl shC_0 rfl rfl rfl (by decide) fl_X11_42 ?_
    exact ax_callVcv (q := 107) (As := []) (st := []) dX11_decades_104 rfl lk_X11_281 shC_5 rfl rfl rfl rfl (Nat.le_of_ble_eq_true rfl) (k2 c1)
  · refine ax_aload_n (q := 66) (i := 0) dX11_decades_65 rfl rfl rfl ?_
    refine ax_get (q := 69) (k := 0) (j := 4) (v := ax_r 5) dX11_decades_66 rfl shC_0 rfl rfl rfl (by decide) fl_X11_42 ?_
    refine ax_get (q := 72) (k := 5) (j := 10) (v := ax_i (σ.1 5 10)) dX11_decades_69 rfl shC_5 rfl rfl rfl (by decide) fl_X11_221 ?_
    refine ax_if_le (tgt := 100) (q := 75) dX11_decades_72 (by decide) rfl (fun c2 => ?_) (fun c2 => ?_)
    · refine ax_aload_n (q := 101) (i := 0) dX11_decades_100 rfl rfl rfl ?_
      refine ax_get (q := 104) (k := 0) (j := 4) (v := ax_r 5) dX11_decades_101 rfl shC_0 rfl rfl rfl (by decide) fl_X11_42 ?_
      exact ax_callVcv (q := 107) (As := []) (st := []) dX11_decades_104 rfl lk_X11_281 shC_5 rfl rfl rfl rfl (Nat.le_of_ble_eq_true rfl) (k3 c1 c2)
    · refine ax_aload_n (q := 76) (i := 0) dX11_decades_75 rfl rfl rfl ?_
      refine ax_get (q := 79) (k := 0) (j := 4) (v := ax_r 5) dX11_decades_76 rfl shC_0 rfl rfl rfl (by decide) fl_X11_42 ?_
      refine ax_dupr (q := 80) dX11_decades_79 rfl ?_
      refine ax_get (q := 83) (k := 5) (j := 11) (v := ax_i (σ.1 5 11)) dX11_decades_80 rfl shC_5 rfl rfl rfl (by decide) fl_X11_212 ?_
      refine ax_iconst (q := 84) dX11_decades_83 rfl ki_1 ?_
      refine ax_aload_n (q := 85) (i := 0) dX11_decades_84 rfl rfl rfl ?_
      refine ax_aload_n (q := 86) (i := 0) dX11_decades_85 rfl rfl rfl ?_
      refine ax_get (q := 89) (k := 0) (j := 4) (v := ax_r 5) dX11_decades_86 rfl shC_0 rfl rfl rfl (by decide) fl_X11_42 ?_
      refine ax_get (q := 92) (k := 5) (j := 10) (v := ax_i (σ.1 5 10)) dX11_decades_89 rfl shC_5 rfl rfl rfl (by decide) fl_X11_221 ?_
      refine ax_callVfi (q := 95) (As := [ax_i (σ.1 5 10)]) (st := [ax_i (1 : Int32), ax_i (σ.1 5 11), ax_r 5]) (x := (if ((1 : Int32) ≤ (σ.1 5 10)) then (Int64.toInt32 ((((Int64.toUInt64 (((((σ.2 0 19) * (6364136223846793005 : Int64)) + (1442695040888963407 : Int64)) * (6364136223846793005 : Int64)) + (1442695040888963407 : Int64))) >>> ((Int64.toUInt64 (Int32.toInt64 (33 : Int32))) &&& Int64.toUInt64 63)).toInt64) - (((Int64.toUInt64 (((((σ.2 0 19) * (6364136223846793005 : Int64)) + (1442695040888963407 : Int64)) * (6364136223846793005 : Int64)) + (1442695040888963407 : Int64))) >>> ((Int64.toUInt64 (Int32.toInt64 (33 : Int32))) &&& Int64.toUInt64 63)).toInt64) / (Int32.toInt64 (σ.1 5 10)) * (Int32.toInt64 (σ.1 5 10)))) else (0 : Int32))) (σ2 := (ax_ul (ax_ul σ 0 19 (((σ.2 0 19) * (6364136223846793005 : Int64)) + (1442695040888963407 : Int64))) 0 19 (((((σ.2 0 19) * (6364136223846793005 : Int64)) + (1442695040888963407 : Int64)) * (6364136223846793005 : Int64)) + (1442695040888963407 : Int64)))) dX11_decades_92 rfl lk_X11_287 shC_0 rfl rfl rfl rfl (Nat.le_of_ble_eq_true rfl) (f_X11_draw (ax_ul σ 0 19 (((σ.2 0 19) * (6364136223846793005 : Int64)) + (1442695040888963407 : Int64))) (σ.1 5 10) (h4 c1 c2) (d := d) (by omega)) ?_
      refine ax_ishl (q := 96) dX11_decades_95 rfl ?_
      refine ax_ior (q := 97) dX11_decades_96 rfl ?_
      refine ax_puti (q := 100) (k := 5) (j := 11) dX11_decades_97 rfl shC_5 rfl rfl (by decide) fl_X11_212 rfl rfl rfl rfl ?_
      refine ax_aload_n (q := 101) (i := 0) dX11_decades_100 rfl rfl rfl ?_
      refine ax_get (q := 104) (k := 0) (j := 4) (v := ax_r 5) dX11_decades_101 rfl shC_0 rfl rfl rfl (by decide) fl_X11_42 ?_
      exact ax_callVcv (q := 107) (As := []) (st := []) dX11_decades_104 rfl lk_X11_281 shC_5 rfl rfl rfl rfl (Nat.le_of_ble_eq_true rfl) (k5 c1 c2)
set_option maxRecDepth 20000 in
theorem s_X11_undo_0 {d : Nat} (hd : 0 ≤ d) {Q : Option ax_V → ax_S → Prop} (σ : ax_S)  (k1 : (¬ (σ.1 7 1) = 0) → ax_Ct shC d mX5_goBack [ax_r 7, ax_r 5] (fun r u => ∃ x : Int32, r = some (ax_i x) ∧ ax_W shC (d + 1) mX11_undo Q 27 [some (ax_r 0)] (ax_i x :: [ax_r 8]) u) σ) (k2 : (¬ (¬ (σ.1 7 1) = 0)) → Q (some (ax_i (-1 : Int32))) σ) : ax_W shC (d + 1) mX11_undo Q 0 [some (ax_r 0)] [] σ := by
  refine ax_aload_n (q := 1) (i := 0) dX11_undo_0 rfl rfl rfl ?_
  refine ax_get (q := 4) (k := 0) (j := 6) (v := ax_r 7) dX11_undo_1 rfl shC_0 rfl rfl rfl (by decide) fl_X11_58 ?_
  refine ax_get (q := 7) (k := 7) (j := 1) (v := ax_i (σ.1 7 1)) dX11_undo_4 rfl shC_7 rfl rfl rfl (by decide) fl_X11_238 ?_
  refine ax_if_ne (tgt := 12) (q := 10) dX11_undo_7 (by decide) rfl (fun c1 => ?_) (fun c1 => ?_)
  · refine ax_aload_n (q := 13) (i := 0) dX11_undo_12 rfl rfl rfl ?_
    refine ax_get (q := 16) (k := 0) (j := 7) (v := ax_r 8) dX11_undo_13 rfl shC_0 rfl rfl rfl (by decide) fl_X11_65 ?_
    refine ax_aload_n (q := 17) (i := 0) dX11_undo_16 rfl rfl rfl ?_
    refine ax_get (q := 20) (k := 0) (j := 6) (v := ax_r 7) dX11_undo_17 rfl shC_0 rfl rfl rfl (by decide) fl_X11_58 ?_
    refine ax_aload_n (q := 21) (i := 0) dX11_undo_20 rfl rfl rfl ?_
    refine ax_get (q := 24) (k := 0) (j := 4) (v := ax_r 5) dX11_undo_21 rfl shC_0 rfl rfl rfl (by decide) fl_X11_42 ?_
    exact ax_callVci (q := 27) (As := [ax_r 5]) (st := [ax_r 8]) dX11_undo_24 rfl lk_X11_293 shC_7 rfl rfl rfl rfl (Nat.le_of_ble_eq_true rfl) (k1 c1)
  · refine ax_iconst (q := 11) dX11_undo_10 rfl ki_m1 ?_
    exact ax_iret dX11_undo_11 rfl rfl (k2 c1)
set_option maxRecDepth 20000 in
theorem s_X11_undo_27 {d : Nat} (hd : 0 ≤ d) {Q : Option ax_V → ax_S → Prop} (σ : ax_S) (rr : Int32) (k1 : Q (some (ax_i (σ.1 7 1))) (ax_ui σ 8 2 rr)) : ax_W shC (d + 1) mX11_undo Q 27 [some (ax_r 0)] [ax_i rr, ax_r 8] σ := by
  refine ax_puti (q := 30) (k := 8) (j := 2) dX11_undo_27 rfl shC_8 rfl rfl (by decide) fl_X11_297 rfl rfl rfl rfl ?_
  refine ax_aload_n (q := 31) (i := 0) dX11_undo_30 rfl rfl rfl ?_
  refine ax_get (q := 34) (k := 0) (j := 6) (v := ax_r 7) dX11_undo_31 rfl shC_0 rfl rfl rfl (by decide) fl_X11_58 ?_
  refine ax_get (q := 37) (k := 7) (j := 1) (v := ax_i (σ.1 7 1)) dX11_undo_34 rfl shC_7 rfl rfl rfl (by decide) fl_X11_238 ?_
  exact ax_iret dX11_undo_37 rfl rfl k1
set_option maxRecDepth 20000 in
theorem s_X11_image_0 {d : Nat} (hd : 1 ≤ d) {Q : Option ax_V → ax_S → Prop} (σ : ax_S)  (k1 : (¬ ((σ.1 5 9) ≤ 0)) → ax_Ct shC d mX0_write [ax_r 5, ax_r 12, ax_i (0 : Int32)] (fun r u => r = none ∧ ax_W shC (d + 1) mX11_image Q 21 [some (ax_r 0)] [] u) σ) (k2 : (¬ (¬ ((σ.1 5 9) ≤ 0))) → Q (some (ax_i (-1 : Int32))) σ) : ax_W shC (d + 1) mX11_image Q 0 [some (ax_r 0)] [] σ := by
  refine ax_aload_n (q := 1) (i := 0) dX11_image_0 rfl rfl rfl ?_
  refine ax_callVfi (q := 4) (As := []) (st := []) (x := (if (¬ ((σ.1 5 9) ≤ 0)) then (1 : Int32) else 0)) (σ2 := σ) dX11_image_1 rfl lk_X11_274 shC_0 rfl rfl rfl rfl (Nat.le_of_ble_eq_true rfl) (f_X11_hasBelt σ   (d := d) (by omega)) ?_
  refine ax_if_neB (tgt := 9) (q := 7) dX11_image_4 (by decide) rfl (fun c1 => ?_) (fun c1 => ?_)
  · refine ax_aload_n (q := 10) (i := 0) dX11_image_9 rfl rfl rfl ?_
    refine ax_get (q := 13) (k := 0) (j := 4) (v := ax_r 5) dX11_image_10 rfl shC_0 rfl rfl rfl (by decide) fl_X11_42 ?_
    refine ax_aload_n (q := 14) (i := 0) dX11_image_13 rfl rfl rfl ?_
    refine ax_get (q := 17) (k := 0) (j := 11) (v := ax_r 12) dX11_image_14 rfl shC_0 rfl rfl rfl (by decide) fl_X11_92 ?_
    refine ax_iconst (q := 18) dX11_image_17 rfl ki_0 ?_
    exact ax_callVcv (q := 21) (As := [ax_r 12, ax_i (0 : Int32)]) (st := []) dX11_image_18 rfl lk_X11_298 shC_5 rfl rfl rfl rfl (Nat.le_of_ble_eq_true rfl) (k1 c1)
  · refine ax_iconst (q := 8) dX11_image_7 rfl ki_m1 ?_
    exact ax_iret dX11_image_8 rfl rfl (k2 c1)
set_option maxRecDepth 20000 in
theorem s_X11_image_21 {d : Nat} (hd : 0 ≤ d) {Q : Option ax_V → ax_S → Prop} (σ : ax_S)  (k1 : ax_Ct shC d mX2_keep [ax_r 8] (fun r u => r = none ∧ ax_W shC (d + 1) mX11_image Q 28 [some (ax_r 0)] [] u) σ) : ax_W shC (d + 1) mX11_image Q 21 [some (ax_r 0)] [] σ := by
  refine ax_aload_n (q := 22) (i := 0) dX11_image_21 rfl rfl rfl ?_
  refine ax_get (q := 25) (k := 0) (j := 7) (v := ax_r 8) dX11_image_22 rfl shC_0 rfl rfl rfl (by decide) fl_X11_65 ?_
  exact ax_callVcv (q := 28) (As := []) (st := []) dX11_image_25 rfl lk_X11_302 shC_8 rfl rfl rfl rfl (Nat.le_of_ble_eq_true rfl) k1
set_option maxRecDepth 20000 in
theorem s_X11_image_28 {d : Nat} (hd : 0 ≤ d) {Q : Option ax_V → ax_S → Prop} (σ : ax_S)  (k1 : Q (some (ax_i (σ.1 5 14))) (ax_ui σ 0 13 (1 : Int32))) : ax_W shC (d + 1) mX11_image Q 28 [some (ax_r 0)] [] σ := by
  refine ax_aload_n (q := 29) (i := 0) dX11_image_28 rfl rfl rfl ?_
  refine ax_iconst (q := 30) dX11_image_29 rfl ki_1 ?_
  refine ax_puti (q := 33) (k := 0) (j := 13) dX11_image_30 rfl shC_0 rfl rfl (by decide) fl_X11_147 rfl rfl rfl rfl ?_
  refine ax_aload_n (q := 34) (i := 0) dX11_image_33 rfl rfl rfl ?_
  refine ax_get (q := 37) (k := 0) (j := 4) (v := ax_r 5) dX11_image_34 rfl shC_0 rfl rfl rfl (by decide) fl_X11_42 ?_
  refine ax_get (q := 40) (k := 5) (j := 14) (v := ax_i (σ.1 5 14)) dX11_image_37 rfl shC_5 rfl rfl rfl (by decide) fl_X11_224 ?_
  exact ax_iret dX11_image_40 rfl rfl k1
set_option maxRecDepth 20000 in
theorem s_X11_back_0 {d : Nat} (hd : 0 ≤ d) {Q : Option ax_V → ax_S → Prop} (σ : ax_S)  (k1 : (¬ (σ.1 0 13) = 0) → ax_Ct shC d mX0_read [ax_r 5, ax_r 12, ax_i (0 : Int32)] (fun r u => r = none ∧ ax_W shC (d + 1) mX11_back Q 21 [some (ax_r 0)] [] u) σ) (k2 : (¬ (¬ (σ.1 0 13) = 0)) → Q (some (ax_i (-1 : Int32))) σ) : ax_W shC (d + 1) mX11_back Q 0 [some (ax_r 0)] [] σ := by
  refine ax_aload_n (q := 1) (i := 0) dX11_back_0 rfl rfl rfl ?_
  refine ax_get (q := 4) (k := 0) (j := 13) (v := ax_i (σ.1 0 13)) dX11_back_1 rfl shC_0 rfl rfl rfl (by decide) fl_X11_147 ?_
  refine ax_if_ne (tgt := 9) (q := 7) dX11_back_4 (by decide) rfl (fun c1 => ?_) (fun c1 => ?_)
  · refine ax_aload_n (q := 10) (i := 0) dX11_back_9 rfl rfl rfl ?_
    refine ax_get (q := 13) (k := 0) (j := 4) (v := ax_r 5) dX11_back_10 rfl shC_0 rfl rfl rfl (by decide) fl_X11_42 ?_
    refine ax_aload_n (q := 14) (i := 0) dX11_back_13 rfl rfl rfl ?_
    refine ax_get (q := 17) (k := 0) (j := 11) (v := ax_r 12) dX11_back_14 rfl shC_0 rfl rfl rfl (by decide) fl_X11_92 ?_
    refine ax_iconst (q := 18) dX11_back_17 rfl ki_0 ?_
    exact ax_callVcv (q := 21) (As := [ax_r 12, ax_i (0 : Int32)]) (st := []) dX11_back_18 rfl lk_X11_305 shC_5 rfl rfl rfl rfl (Nat.le_of_ble_eq_true rfl) (k1 c1)
  · refine ax_iconst (q := 8) dX11_back_7 rfl ki_m1 ?_
    exact ax_iret dX11_back_8 rfl rfl (k2 c1)
set_option maxRecDepth 20000 in
theorem s_X11_back_21 {d : Nat} (hd : 0 ≤ d) {Q : Option ax_V → ax_S → Prop} (σ : ax_S)  (k1 : ax_Ct shC d mX2_giveBack [ax_r 8] (fun r u => r = none ∧ ax_W shC (d + 1) mX11_back Q 28 [some (ax_r 0)] [] u) σ) : ax_W shC (d + 1) mX11_back Q 21 [some (ax_r 0)] [] σ := by
  refine ax_aload_n (q := 22) (i := 0) dX11_back_21 rfl rfl rfl ?_
  refine ax_get (q := 25) (k := 0) (j := 7) (v := ax_r 8) dX11_back_22 rfl shC_0 rfl rfl rfl (by decide) fl_X11_65 ?_
  exact ax_callVcv (q := 28) (As := []) (st := []) dX11_back_25 rfl lk_X11_308 shC_8 rfl rfl rfl rfl (Nat.le_of_ble_eq_true rfl) k1
set_option maxRecDepth 20000 in
theorem s_X11_back_28 {d : Nat} (hd : 1 ≤ d) {Q : Option ax_V → ax_S → Prop} (σ : ax_S)  (k1 : Q (some (ax_i (σ.1 5 14))) (ax_ui σ 7 1 (0 : Int32))) : ax_W shC (d + 1) mX11_back Q 28 [some (ax_r 0)] [] σ := by
  refine ax_aload_n (q := 29) (i := 0) dX11_back_28 rfl rfl rfl ?_
  refine ax_get (q := 32) (k := 0) (j := 6) (v := ax_r 7) dX11_back_29 rfl shC_0 rfl rfl rfl (by decide) fl_X11_58 ?_
  refine ax_callVfv (q := 35) (As := []) (st := []) (σ2 := (ax_ui σ 7 1 (0 : Int32))) dX11_back_32 rfl lk_X11_142 shC_7 rfl rfl rfl rfl (Nat.le_of_ble_eq_true rfl) (f_X5_clear σ   (d := d) (by omega)) ?_
  refine ax_aload_n (q := 36) (i := 0) dX11_back_35 rfl rfl rfl ?_
  refine ax_get (q := 39) (k := 0) (j := 4) (v := ax_r 5) dX11_back_36 rfl shC_0 rfl rfl rfl (by decide) fl_X11_42 ?_
  refine ax_get (q := 42) (k := 5) (j := 14) (v := ax_i (σ.1 5 14)) dX11_back_39 rfl shC_5 rfl rfl rfl (by decide) fl_X11_224 ?_
  exact ax_iret dX11_back_42 rfl rfl k1
