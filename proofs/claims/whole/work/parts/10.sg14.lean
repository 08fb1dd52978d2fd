set_option maxRecDepth 20000 in
theorem f_X12_log (σ : ax_S) (a0 : Int32) (a1 : Int32) (h1 : vp_in (87 : Int32) 268) (h2 : ((¬ (a0 < (0 : Int32))) ∧ (¬ (((σ.1 15 87) - (1 : Int32)) < a0))) → ((¬ (a1 < (0 : Int32))) ∧ (¬ ((2 : Int32) < a1))) → vp_in (87 : Int32) 268) (h3 : ((¬ (a0 < (0 : Int32))) ∧ (¬ (((σ.1 15 87) - (1 : Int32)) < a0))) → ((¬ (a1 < (0 : Int32))) ∧ (¬ ((2 : Int32) < a1))) → vp_in (((88 : Int32) + ((3 : Int32) * (((σ.1 15 87) - (1 : Int32)) - a0))) + a1) 268) {d : Nat} (hd : 2 ≤ d) : ax_Ct shM d mX12_log [ax_r 0, ax_i a0, ax_i a1] (fun r u => r = some (ax_i (if (¬ ((¬ (a0 < (0 : Int32))) ∧ (¬ (((σ.1 15 87) - (1 : Int32)) < a0)))) then (-1 : Int32) else (if (¬ ((¬ (a1 < (0 : Int32))) ∧ (¬ ((2 : Int32) < a1)))) then (-1 : Int32) else (σ.1 15 (Int32.toNatClampNeg (((88 : Int32) + ((3 : Int32) * (((σ.1 15 87) - (1 : Int32)) - a0))) + a1)))))) ∧ u = σ) σ := by
  obtain ⟨d, rfl⟩ : ∃ e, d = e + 1 := ⟨d - 1, by omega⟩
  refine ax_Ct.of (lv := [some (ax_r 0), some (ax_i a0), some (ax_i a1)]) (by decide +kernel) (fun ad => Nat.le_of_ble_eq_true rfl) (fun ad => rfl) ?_
  refine ax_iload_n (q := 1) (i := 1) dX12_log_0 rfl rfl rfl ?_
  refine ax_iconst (q := 2) dX12_log_1 rfl ki_0 ?_
  refine ax_aload_n (q := 3) (i := 0) dX12_log_2 rfl rfl rfl ?_
  refine ax_get (q := 6) (k := 0) (j := 25) (v := ax_r 15) dX12_log_3 rfl shM_0 rfl rfl rfl (by decide) fl_X12_52 ?_
  refine ax_bipush (q := 8) dX12_log_6 rfl kb_87 ?_
  refine ax_iald (q := 9) (a := 87) (v := (σ.1 15 87)) dX12_log_8 rfl shM_15 h1 rfl rfl ?_
  refine ax_iconst (q := 10) dX12_log_9 rfl ki_1 ?_
  refine ax_isub (q := 11) dX12_log_10 rfl ?_
  refine ax_callSfi (q := 14) (As := [ax_i a0, ax_i (0 : Int32), ax_i ((σ.1 15 87) - (1 : Int32))]) (st := []) (x := (if ((¬ (a0 < (0 : Int32))) ∧ (¬ (((σ.1 15 87) - (1 : Int32)) < a0))) then (1 : Int32) else 0)) (σ2 := σ) dX12_log_11 rfl lk_X12_223 rfl rfl (Nat.le_of_ble_eq_true rfl) (f_X12_in (sh := shM) σ a0 (0 : Int32) ((σ.1 15 87) - (1 : Int32))  (d := d) (by omega)) ?_
  have K3 : ax_W shM (d + 1) mX12_log (fun r u => r = some (ax_i (if (¬ ((¬ (a0 < (0 : Int32))) ∧ (¬ (((σ.1 15 87) - (1 : Int32)) < a0)))) then (-1 : Int32) else (if (¬ ((¬ (a1 < (0 : Int32))) ∧ (¬ ((2 : Int32) < a1)))) then (-1 : Int32) else (σ.1 15 (Int32.toNatClampNeg (((88 : Int32) + ((3 : Int32) * (((σ.1 15 87) - (1 : Int32)) - a0))) + a1)))))) ∧ u = σ) 53 [some (ax_r 0), some (ax_i a0), some (ax_i a1)] [ax_i (if (¬ ((¬ (a0 < (0 : Int32))) ∧ (¬ (((σ.1 15 87) - (1 : Int32)) < a0)))) then (-1 : Int32) else (if (¬ ((¬ (a1 < (0 : Int32))) ∧ (¬ ((2 : Int32) < a1)))) then (-1 : Int32) else (σ.1 15 (Int32.toNatClampNeg (((88 : Int32) + ((3 : Int32) * (((σ.1 15 87) - (1 : Int32)) - a0))) + a1)))))] σ := by
    exact ax_iret dX12_log_53 rfl rfl ⟨rfl, rfl⟩
  refine ax_if_eqB (tgt := 52) (q := 17) dX12_log_14 (by decide) rfl (fun c1 => ?_) (fun c1 => ?_)
  · refine ax_iconst (q := 53) dX12_log_52 rfl ki_m1 ?_
    exact ax_cv (if_pos c1) K3
  · refine ax_iload_n (q := 18) (i := 2) dX12_log_17 rfl rfl rfl ?_
    refine ax_iconst (q := 19) dX12_log_18 rfl ki_0 ?_
    refine ax_iconst (q := 20) dX12_log_19 rfl ki_2 ?_
    refine ax_callSfi (q := 23) (As := [ax_i a1, ax_i (0 : Int32), ax_i (2 : Int32)]) (st := []) (x := (if ((¬ (a1 < (0 : Int32))) ∧ (¬ ((2 : Int32) < a1))) then (1 : Int32) else 0)) (σ2 := σ) dX12_log_20 rfl lk_X12_223 rfl rfl (Nat.le_of_ble_eq_true rfl) (f_X12_in (sh := shM) σ a1 (0 : Int32) (2 : Int32)  (d := d) (by omega)) ?_
    refine ax_if_eqB (tgt := 52) (q := 26) dX12_log_23 (by decide) rfl (fun c2 => ?_) (fun c2 => ?_)
    · refine ax_iconst (q := 53) dX12_log_52 rfl ki_m1 ?_
      exact ax_cv ((if_neg (fun y => y c1)).trans (if_pos c2)) K3
    · refine ax_aload_n (q := 27) (i := 0) dX12_log_26 rfl rfl rfl ?_
      refine ax_get (q := 30) (k := 0) (j := 25) (v := ax_r 15) dX12_log_27 rfl shM_0 rfl rfl rfl (by decide) fl_X12_52 ?_
      refine ax_bipush (q := 32) dX12_log_30 rfl kb_88 ?_
      refine ax_iconst (q := 33) dX12_log_32 rfl ki_3 ?_
      refine ax_aload_n (q := 34) (i := 0) dX12_log_33 rfl rfl rfl ?_
      refine ax_get (q := 37) (k := 0) (j := 25) (v := ax_r 15) dX12_log_34 rfl shM_0 rfl rfl rfl (by decide) fl_X12_52 ?_
      refine ax_bipush (q := 39) dX12_log_37 rfl kb_87 ?_
      refine ax_iald (q := 40) (a := 87) (v := (σ.1 15 87)) dX12_log_39 rfl shM_15 (h2 c1 c2) rfl rfl ?_
      refine ax_iconst (q := 41) dX12_log_40 rfl ki_1 ?_
      refine ax_isub (q := 42) dX12_log_41 rfl ?_
      refine ax_iload_n (q := 43) (i := 1) dX12_log_42 rfl rfl rfl ?_
      refine ax_isub (q := 44) dX12_log_43 rfl ?_
      refine ax_imul (q := 45) dX12_log_44 rfl ?_
      refine ax_iadd (q := 46) dX12_log_45 rfl ?_
      refine ax_iload_n (q := 47) (i := 2) dX12_log_46 rfl rfl rfl ?_
      refine ax_iadd (q := 48) dX12_log_47 rfl ?_
      refine ax_iald (q := 49) (a := (Int32.toNatClampNeg (((88 : Int32) + ((3 : Int32) * (((σ.1 15 87) - (1 : Int32)) - a0))) + a1))) (v := (σ.1 15 (Int32.toNatClampNeg (((88 : Int32) + ((3 : Int32) * (((σ.1 15 87) - (1 : Int32)) - a0))) + a1)))) dX12_log_48 rfl shM_15 (h3 c1 c2) rfl rfl ?_
      refine ax_goto (tgt := 53) dX12_log_49 (by decide) ?_
      exact ax_cv ((if_neg (fun y => y c1)).trans (if_neg (fun y => y c2))) K3
set_option maxRecDepth 20000 in
theorem s_X12_keeps_0 {d : Nat} (hd : 2 ≤ d) {Q : Option ax_V → ax_S → Prop} (σ : ax_S) (a0 : Int32) (a1 : Int32) (a2 : Int32) (k1 : (¬ ((¬ (a0 < (0 : Int32))) ∧ (¬ (((σ.1 0 23) - (1 : Int32)) < a0)))) → Q (some (ax_i (-1 : Int32))) σ) (k2 : ((¬ (a0 < (0 : Int32))) ∧ (¬ (((σ.1 0 23) - (1 : Int32)) < a0))) → (¬ ((¬ (a2 < (0 : Int32))) ∧ (¬ (((σ.1 0 23) - (1 : Int32)) < a2)))) → Q (some (ax_i (-1 : Int32))) σ) (k3 : ((¬ (a0 < (0 : Int32))) ∧ (¬ (((σ.1 0 23) - (1 : Int32)) < a0))) → ((¬ (a2 < (0 : Int32))) ∧ (¬ (((σ.1 0 23) - (1 : Int32)) < a2))) → (¬ ((¬ (a1 < (1 : Int32))) ∧ (¬ ((999 : Int32) < a1)))) → Q (some (ax_i (-1 : Int32))) σ) (k4 : ((¬ (a0 < (0 : Int32))) ∧ (¬ (((σ.1 0 23) - (1 : Int32)) < a0))) → ((¬ (a2 < (0 : Int32))) ∧ (¬ (((σ.1 0 23) - (1 : Int32)) < a2))) → ((¬ (a1 < (1 : Int32))) ∧ (¬ ((999 : Int32) < a1))) → ax_Ct shM d mX12_keepsOf [ax_r 0, ax_i a0, ax_i a1, ax_i a2] (fun r u => ∃ x : Int32, r = some (ax_i x) ∧ ax_W shM (d + 1) mX12_keeps Q 30 [none, none, none, none] (ax_i x :: []) u) σ) : ax_W shM (d + 1) mX12_keeps Q 0 [some (ax_r 0), some (ax_i a0), some (ax_i a1), some (ax_i a2)] [] σ := by
  refine ax_aload_n (q := 1) (i := 0) dX12_keeps_0 rfl rfl rfl ?_
  refine ax_iload_n (q := 2) (i := 1) dX12_keeps_1 rfl rfl rfl ?_
  refine ax_callVfi (q := 5) (As := [ax_i a0]) (st := []) (x := (if ((¬ (a0 < (0 : Int32))) ∧ (¬ (((σ.1 0 23) - (1 : Int32)) < a0))) then (1 : Int32) else 0)) (σ2 := σ) dX12_keeps_2 rfl lk_X12_342 shM_0 rfl rfl rfl rfl (Nat.le_of_ble_eq_true rfl) (f_X12_isHouse σ a0  (d := d) (by omega)) ?_
  refine ax_if_eqB (tgt := 33) (q := 8) dX12_keeps_5 (by decide) rfl (fun c1 => ?_) (fun c1 => ?_)
  · refine ax_iconst (q := 34) dX12_keeps_33 rfl ki_m1 ?_
    exact ax_iret dX12_keeps_34 rfl rfl (k1 c1)
  · refine ax_aload_n (q := 9) (i := 0) dX12_keeps_8 rfl rfl rfl ?_
    refine ax_iload_n (q := 10) (i := 3) dX12_keeps_9 rfl rfl rfl ?_
    refine ax_callVfi (q := 13) (As := [ax_i a2]) (st := []) (x := (if ((¬ (a2 < (0 : Int32))) ∧ (¬ (((σ.1 0 23) - (1 : Int32)) < a2))) then (1 : Int32) else 0)) (σ2 := σ) dX12_keeps_10 rfl lk_X12_342 shM_0 rfl rfl rfl rfl (Nat.le_of_ble_eq_true rfl) (f_X12_isHouse σ a2  (d := d) (by omega)) ?_
    refine ax_if_eqB (tgt := 33) (q := 16) dX12_keeps_13 (by decide) rfl (fun c2 => ?_) (fun c2 => ?_)
    · refine ax_iconst (q := 34) dX12_keeps_33 rfl ki_m1 ?_
      exact ax_iret dX12_keeps_34 rfl rfl (k2 c1 c2)
    · refine ax_iload_n (q := 17) (i := 2) dX12_keeps_16 rfl rfl rfl ?_
      refine ax_callSfi (q := 20) (As := [ax_i a1]) (st := []) (x := (if ((¬ (a1 < (1 : Int32))) ∧ (¬ ((999 : Int32) < a1))) then (1 : Int32) else 0)) (σ2 := σ) dX12_keeps_17 rfl lk_X12_351 rfl rfl (Nat.le_of_ble_eq_true rfl) (f_X12_isForce (sh := shM) σ a1  (d := d) (by omega)) ?_
      refine ax_if_eqB (tgt := 33) (q := 23) dX12_keeps_20 (by decide) rfl (fun c3 => ?_) (fun c3 => ?_)
      · refine ax_iconst (q := 34) dX12_keeps_33 rfl ki_m1 ?_
        exact ax_iret dX12_keeps_34 rfl rfl (k3 c1 c2 c3)
      · refine ax_aload_n (q := 24) (i := 0) dX12_keeps_23 rfl rfl rfl ?_
        refine ax_iload_n (q := 25) (i := 1) dX12_keeps_24 rfl rfl rfl ?_
        refine ax_iload_n (q := 26) (i := 2) dX12_keeps_25 rfl rfl rfl ?_
        refine ax_iload_n (q := 27) (i := 3) dX12_keeps_26 rfl rfl rfl ?_
        refine ax_fg (lv2 := [none, none, none, none]) trivial ?_
        exact ax_callVci (q := 30) (As := [ax_i a0, ax_i a1, ax_i a2]) (st := []) dX12_keeps_27 rfl lk_X12_404 shM_0 rfl rfl rfl rfl (Nat.le_of_ble_eq_true rfl) (k4 c1 c2 c3)
set_option maxRecDepth 20000 in
theorem s_X12_keeps_30 {d : Nat} (hd : 0 ≤ d) {Q : Option ax_V → ax_S → Prop} (σ : ax_S) (rr : Int32) (k1 : Q (some (ax_i rr)) σ) : ax_W shM (d + 1) mX12_keeps Q 30 [none, none, none, none] [ax_i rr] σ := by
  refine ax_goto (tgt := 34) dX12_keeps_30 (by decide) ?_
  exact ax_iret dX12_keeps_34 rfl rfl k1
set_option maxRecDepth 20000 in
theorem s_X12_burning_0 {d : Nat} (hd : 2 ≤ d) {Q : Option ax_V → ax_S → Prop} (σ : ax_S) (a0 : Int32) (a1 : Int32) (k1 : (¬ ((¬ (a0 < (0 : Int32))) ∧ (¬ (((σ.1 0 23) - (1 : Int32)) < a0)))) → Q (some (ax_i (-1 : Int32))) σ) (k2 : ((¬ (a0 < (0 : Int32))) ∧ (¬ (((σ.1 0 23) - (1 : Int32)) < a0))) → (¬ ((¬ (a1 < (1 : Int32))) ∧ (¬ ((999 : Int32) < a1)))) → Q (some (ax_i (-1 : Int32))) σ) (k3 : ((¬ (a0 < (0 : Int32))) ∧ (¬ (((σ.1 0 23) - (1 : Int32)) < a0))) → ((¬ (a1 < (1 : Int32))) ∧ (¬ ((999 : Int32) < a1))) → ax_Ct shM d mX12_burningBy [ax_r 0, ax_i a0, ax_i a1] (fun r u => ∃ x : Int32, r = some (ax_i x) ∧ ax_W shM (d + 1) mX12_burning Q 21 [none, none, none] (ax_i x :: []) u) σ) : ax_W shM (d + 1) mX12_burning Q 0 [some (ax_r 0), some (ax_i a0), some (ax_i a1)] [] σ := by
  refine ax_aload_n (q := 1) (i := 0) dX12_burning_0 rfl rfl rfl ?_
  refine ax_iload_n (q := 2) (i := 1) dX12_burning_1 rfl rfl rfl ?_
  refine ax_callVfi (q := 5) (As := [ax_i a0]) (st := []) (x := (if ((¬ (a0 < (0 : Int32))) ∧ (¬ (((σ.1 0 23) - (1 : Int32)) < a0))) then (1 : Int32) else 0)) (σ2 := σ) dX12_burning_2 rfl lk_X12_342 shM_0 rfl rfl rfl rfl (Nat.le_of_ble_eq_true rfl) (f_X12_isHouse σ a0  (d := d) (by omega)) ?_
  refine ax_if_eqB (tgt := 24) (q := 8) dX12_burning_5 (by decide) rfl (fun c1 => ?_) (fun c1 => ?_)
  · refine ax_iconst (q := 25) dX12_burning_24 rfl ki_m1 ?_
    exact ax_iret dX12_burning_25 rfl rfl (k1 c1)
  · refine ax_iload_n (q := 9) (i := 2) dX12_burning_8 rfl rfl rfl ?_
    refine ax_callSfi (q := 12) (As := [ax_i a1]) (st := []) (x := (if ((¬ (a1 < (1 : Int32))) ∧ (¬ ((999 : Int32) < a1))) then (1 : Int32) else 0)) (σ2 := σ) dX12_burning_9 rfl lk_X12_351 rfl rfl (Nat.le_of_ble_eq_true rfl) (f_X12_isForce (sh := shM) σ a1  (d := d) (by omega)) ?_
    refine ax_if_eqB (tgt := 24) (q := 15) dX12_burning_12 (by decide) rfl (fun c2 => ?_) (fun c2 => ?_)
    · refine ax_iconst (q := 25) dX12_burning_24 rfl ki_m1 ?_
      exact ax_iret dX12_burning_25 rfl rfl (k2 c1 c2)
    · refine ax_aload_n (q := 16) (i := 0) dX12_burning_15 rfl rfl rfl ?_
      refine ax_iload_n (q := 17) (i := 1) dX12_burning_16 rfl rfl rfl ?_
      refine ax_iload_n (q := 18) (i := 2) dX12_burning_17 rfl rfl rfl ?_
      refine ax_fg (lv2 := [none, none, none]) trivial ?_
      exact ax_callVci (q := 21) (As := [ax_i a0, ax_i a1]) (st := []) dX12_burning_18 rfl lk_X12_348 shM_0 rfl rfl rfl rfl (Nat.le_of_ble_eq_true rfl) (k3 c1 c2)
set_option maxRecDepth 20000 in
theorem s_X12_burning_21 {d : Nat} (hd : 0 ≤ d) {Q : Option ax_V → ax_S → Prop} (σ : ax_S) (rr : Int32) (k1 : Q (some (ax_i rr)) σ) : ax_W shM (d + 1) mX12_burning Q 21 [none, none, none] [ax_i rr] σ := by
  refine ax_goto (tgt := 25) dX12_burning_21 (by decide) ?_
  exact ax_iret dX12_burning_25 rfl rfl k1
set_option maxRecDepth 20000 in
theorem s_X12_lost_0 {d : Nat} (hd : 2 ≤ d) {Q : Option ax_V → ax_S → Prop} (σ : ax_S) (a0 : Int32) (a1 : Int32) (k1 : (¬ ((¬ (a0 < (0 : Int32))) ∧ (¬ (((σ.1 0 23) - (1 : Int32)) < a0)))) → Q (some (ax_i (-1 : Int32))) σ) (k2 : ((¬ (a0 < (0 : Int32))) ∧ (¬ (((σ.1 0 23) - (1 : Int32)) < a0))) → ((¬ (a1 < (1 : Int32))) ∧ (¬ ((999 : Int32) < a1))) → ax_Ct shM d mX12_layStroke [ax_r 0, ax_i a0, ax_i a1] (fun r u => r = none ∧ ax_W shM (d + 1) mX12_lost Q 23 [some (ax_r 0), none, none] [] u) σ) (k3 : ((¬ (a0 < (0 : Int32))) ∧ (¬ (((σ.1 0 23) - (1 : Int32)) < a0))) → (¬ ((¬ (a1 < (1 : Int32))) ∧ (¬ ((999 : Int32) < a1)))) → Q (some (ax_i (-1 : Int32))) σ) : ax_W shM (d + 1) mX12_lost Q 0 [some (ax_r 0), some (ax_i a0), some (ax_i a1)] [] σ := by
  refine ax_aload_n (q := 1) (i := 0) dX12_lost_0 rfl rfl rfl ?_
  refine ax_iload_n (q := 2) (i := 1) dX12_lost_1 rfl rfl rfl ?_
  refine ax_callVfi (q := 5) (As := [ax_i a0]) (st := []) (x := (if ((¬ (a0 < (0 : Int32))) ∧ (¬ (((σ.1 0 23) - (1 : Int32)) < a0))) then (1 : Int32) else 0)) (σ2 := σ) dX12_lost_2 rfl lk_X12_342 shM_0 rfl rfl rfl rfl (Nat.le_of_ble_eq_true rfl) (f_X12_isHouse σ a0  (d := d) (by omega)) ?_
  refine ax_if_eqB (tgt := 15) (q := 8) dX12_lost_5 (by decide) rfl (fun c1 => ?_) (fun c1 => ?_)
  · refine ax_iconst (q := 16) dX12_lost_15 rfl ki_m1 ?_
    exact ax_iret dX12_lost_16 rfl rfl (k1 c1)
  · refine ax_iload_n (q := 9) (i := 2) dX12_lost_8 rfl rfl rfl ?_
    refine ax_callSfi (q := 12) (As := [ax_i a1]) (st := []) (x := (if ((¬ (a1 < (1 : Int32))) ∧ (¬ ((999 : Int32) < a1))) then (1 : Int32) else 0)) (σ2 := σ) dX12_lost_9 rfl lk_X12_351 rfl rfl (Nat.le_of_ble_eq_true rfl) (f_X12_isForce (sh := shM) σ a1  (d := d) (by omega)) ?_
    refine ax_if_neB (tgt := 17) (q := 15) dX12_lost_12 (by decide) rfl (fun c2 => ?_) (fun c2 => ?_)
    · refine ax_aload_n (q := 18) (i := 0) dX12_lost_17 rfl rfl rfl ?_
      refine ax_iload_n (q := 19) (i := 1) dX12_lost_18 rfl rfl rfl ?_
      refine ax_iload_n (q := 20) (i := 2) dX12_lost_19 rfl rfl rfl ?_
      refine ax_fg (lv2 := [some (ax_r 0), none, none]) ⟨rfl, trivial⟩ ?_
      exact ax_callVcv (q := 23) (As := [ax_i a0, ax_i a1]) (st := []) dX12_lost_20 rfl lk_X12_339 shM_0 rfl rfl rfl rfl (Nat.le_of_ble_eq_true rfl) (k2 c1 c2)
    · refine ax_iconst (q := 16) dX12_lost_15 rfl ki_m1 ?_
      exact ax_iret dX12_lost_16 rfl rfl (k3 c1 c2)
set_option maxRecDepth 20000 in
theorem s_X12_lost_23 {d : Nat} (hd : 0 ≤ d) {Q : Option ax_V → ax_S → Prop} (σ : ax_S)  (k1 : Q (some (ax_i (σ.1 0 35))) σ) : ax_W shM (d + 1) mX12_lost Q 23 [some (ax_r 0), none, none] [] σ := by
  refine ax_aload_n (q := 24) (i := 0) dX12_lost_23 rfl rfl rfl ?_
  refine ax_get (q := 27) (k := 0) (j := 35) (v := ax_i (σ.1 0 35)) dX12_lost_24 rfl shM_0 rfl rfl rfl (by decide) fl_X12_324 ?_
  exact ax_iret dX12_lost_27 rfl rfl k1
set_option maxRecDepth 20000 in
theorem s_X12_tryCouples_0 {d : Nat} (hd : 0 ≤ d) {Q : Option ax_V → ax_S → Prop} (σ : ax_S) (a0 : Int32) (a1 : Int32) (a2 : Int32) (h1 : (¬ a0 = (σ.1 0 23)) → vp_in a0 8) (k2 : (¬ a0 = (σ.1 0 23)) → ((σ.1 22 (Int32.toNatClampNeg a0)) = (-1 : Int32)) → (a1 = 0) → ax_W shM (d + 1) mX12_tryCouples Q 141 [some (ax_r 0), some (ax_i a0), some (ax_i a1), some (ax_i a2), some (ax_i (a0 + (1 : Int32))), none] [] σ) (h3 : (¬ a0 = (σ.1 0 23)) → ((σ.1 22 (Int32.toNatClampNeg a0)) = (-1 : Int32)) → (¬ (a1 = 0)) → vp_in a0 8) (k4 : (¬ a0 = (σ.1 0 23)) → ((σ.1 22 (Int32.toNatClampNeg a0)) = (-1 : Int32)) → (¬ (a1 = 0)) → ax_Ct shM d mX12_tryCouples [ax_r 0, ax_i (a0 + (1 : Int32)), ax_i (0 : Int32), ax_i a2] (fun r u => r = none ∧ ax_W shM (d + 1) mX12_tryCouples Q 129 [some (ax_r 0), some (ax_i a0), some (ax_i a1), some (ax_i a2), none, none] [] u) (ax_ui σ 22 (Int32.toNatClampNeg a0) a0)) (k5 : (¬ a0 = (σ.1 0 23)) → (¬ ((σ.1 22 (Int32.toNatClampNeg a0)) = (-1 : Int32))) → ax_Ct shM d mX12_tryCouples [ax_r 0, ax_i (a0 + (1 : Int32)), ax_i a1, ax_i a2] (fun r u => r = none ∧ ax_W shM (d + 1) mX12_tryCouples Q 108 [none, none, none, none, none, none] [] u) σ) (k6 : (¬ (¬ a0 = (σ.1 0 23))) → ax_W shM (d + 1) mX12_tryCouples Q 14 [some (ax_r 0), none, none, some (ax_i a2), some (ax_i (0 : Int32)), some (ax_i (0 : Int32))] [] σ) : ax_W shM (d + 1) mX12_tryCouples Q 0 [some (ax_r 0), some (ax_i a0), some (ax_i a1), some (ax_i a2), none, none] [] σ := by
  refine ax_iload_n (q := 1) (i := 1) dX12_tryCouples_0 rfl rfl rfl ?_
  refine ax_aload_n (q := 2) (i := 0) dX12_tryCouples_1 rfl rfl rfl ?_
  refine ax_get (q := 5) (k := 0) (j := 23) (v := ax_i (σ.1 0 23)) dX12_tryCouples_2 rfl shM_0 rfl rfl rfl (by decide) fl_X12_271 ?_
  refine ax_icmp_ne (tgt := 89) (q := 8) dX12_tryCouples_5 (by decide) rfl (fun c1 => ?_) (fun c1 => ?_)
  · refine ax_aload_n (q := 90) (i := 0) dX12_tryCouples_89 rfl rfl rfl ?_
    refine ax_get (q := 93) (k := 0) (j := 39) (v := ax_r 22) dX12_tryCouples_90 rfl shM_0 rfl rfl rfl (by decide) fl_X12_80 ?_
    refine ax_iload_n (q := 94) (i := 1) dX12_tryCouples_93 rfl rfl rfl ?_
    refine ax_iald (q := 95) (a := (Int32.toNatClampNeg a0)) (v := (σ.1 22 (Int32.toNatClampNeg a0))) dX12_tryCouples_94 rfl shM_22 (h1 c1) rfl rfl ?_
    refine ax_iconst (q := 96) dX12_tryCouples_95 rfl ki_m1 ?_
    refine ax_icmp_eq (tgt := 109) (q := 99) dX12_tryCouples_96 (by decide) rfl (fun c2 => ?_) (fun c2 => ?_)
    · refine ax_iload_n (q := 110) (i := 2) dX12_tryCouples_109 rfl rfl rfl ?_
      refine ax_if_eq (tgt := 136) (q := 113) dX12_tryCouples_110 (by decide) rfl (fun c3 => ?_) (fun c3 => ?_)
      · refine ax_iload_n (q := 137) (i := 1) dX12_tryCouples_136 rfl rfl rfl ?_
        refine ax_iconst (q := 138) dX12_tryCouples_137 rfl ki_1 ?_
        refine ax_iadd (q := 139) dX12_tryCouples_138 rfl ?_
        refine ax_istore (q := 141) (lv2 := [some (ax_r 0), some (ax_i a0), some (ax_i a1), some (ax_i a2), some (ax_i (a0 + (1 : Int32))), none]) dX12_tryCouples_139 rfl (by decide) rfl rfl ?_
        exact (k2 c1 c2 c3)
      · refine ax_aload_n (q := 114) (i := 0) dX12_tryCouples_113 rfl rfl rfl ?_
        refine ax_get (q := 117) (k := 0) (j := 39) (v := ax_r 22) dX12_tryCouples_114 rfl shM_0 rfl rfl rfl (by decide) fl_X12_80 ?_
        refine ax_iload_n (q := 118) (i := 1) dX12_tryCouples_117 rfl rfl rfl ?_
        refine ax_iload_n (q := 119) (i := 1) dX12_tryCouples_118 rfl rfl rfl ?_
        refine ax_iast (q := 120) (a := (Int32.toNatClampNeg a0)) dX12_tryCouples_119 rfl shM_22 (h3 c1 c2 c3) rfl ?_
        refine ax_aload_n (q := 121) (i := 0) dX12_tryCouples_120 rfl rfl rfl ?_
        refine ax_iload_n (q := 122) (i := 1) dX12_tryCouples_121 rfl rfl rfl ?_
        refine ax_iconst (q := 123) dX12_tryCouples_122 rfl ki_1 ?_
        refine ax_iadd (q := 124) dX12_tryCouples_123 rfl ?_
        refine ax_iconst (q := 125) dX12_tryCouples_124 rfl ki_0 ?_
        refine ax_iload_n (q := 126) (i := 3) dX12_tryCouples_125 rfl rfl rfl ?_
        exact ax_callVcv (q := 129) (As := [ax_i (a0 + (1 : Int32)), ax_i (0 : Int32), ax_i a2]) (st := []) dX12_tryCouples_126 rfl lk_X12_413 shM_0 rfl rfl rfl rfl (Nat.le_of_ble_eq_true rfl) (k4 c1 c2 c3)
    · refine ax_aload_n (q := 100) (i := 0) dX12_tryCouples_99 rfl rfl rfl ?_
      refine ax_iload_n (q := 101) (i := 1) dX12_tryCouples_100 rfl rfl rfl ?_
      refine ax_iconst (q := 102) dX12_tryCouples_101 rfl ki_1 ?_
      refine ax_iadd (q := 103) dX12_tryCouples_102 rfl ?_
      refine ax_iload_n (q := 104) (i := 2) dX12_tryCouples_103 rfl rfl rfl ?_
      refine ax_iload_n (q := 105) (i := 3) dX12_tryCouples_104 rfl rfl rfl ?_
      refine ax_fg (lv2 := [none, none, none, none, none, none]) trivial ?_
      exact ax_callVcv (q := 108) (As := [ax_i (a0 + (1 : Int32)), ax_i a1, ax_i a2]) (st := []) dX12_tryCouples_105 rfl lk_X12_413 shM_0 rfl rfl rfl rfl (Nat.le_of_ble_eq_true rfl) (k5 c1 c2)
  · refine ax_iconst (q := 9) dX12_tryCouples_8 rfl ki_0 ?_
    refine ax_istore (q := 11) (lv2 := [some (ax_r 0), some (ax_i a0), some (ax_i a1), some (ax_i a2), some (ax_i (0 : Int32)), none]) dX12_tryCouples_9 rfl (by decide) rfl rfl ?_
    refine ax_iconst (q := 12) dX12_tryCouples_11 rfl ki_0 ?_
    refine ax_istore (q := 14) (lv2 := [some (ax_r 0), some (ax_i a0), some (ax_i a1), some (ax_i a2), some (ax_i (0 : Int32)), some (ax_i (0 : Int32))]) dX12_tryCouples_12 rfl (by decide) rfl rfl ?_
    refine ax_fg (lv2 := [some (ax_r 0), none, none, some (ax_i a2), some (ax_i (0 : Int32)), some (ax_i (0 : Int32))]) ⟨rfl, rfl, rfl, rfl, trivial⟩ ?_
    exact (k6 c1)
set_option maxRecDepth 20000 in
theorem s_X12_tryCouples_108 {d : Nat} (hd : 0 ≤ d) {Q : Option ax_V → ax_S → Prop} (σ : ax_S)  (k1 : Q none σ) : ax_W shM (d + 1) mX12_tryCouples Q 108 [none, none, none, none, none, none] [] σ := by
  exact ax_vret dX12_tryCouples_108 rfl k1
set_option maxRecDepth 20000 in
theorem s_X12_tryCouples_129 {d : Nat} (hd : 0 ≤ d) {Q : Option ax_V → ax_S → Prop} (σ : ax_S) (x1 : Int32) (x2 : Int32) (x3 : Int32) (h1 : vp_in x1 8) (k2 : ax_W shM (d + 1) mX12_tryCouples Q 141 [some (ax_r 0), some (ax_i x1), some (ax_i x2), some (ax_i x3), some (ax_i (x1 + (1 : Int32))), none] [] (ax_ui σ 22 (Int32.toNatClampNeg x1) (-1 : Int32))) : ax_W shM (d + 1) mX12_tryCouples Q 129 [some (ax_r 0), some (ax_i x1), some (ax_i x2), some (ax_i x3), none, none] [] σ := by
  refine ax_aload_n (q := 130) (i := 0) dX12_tryCouples_129 rfl rfl rfl ?_
  refine ax_get (q := 133) (k := 0) (j := 39) (v := ax_r 22) dX12_tryCouples_130 rfl shM_0 rfl rfl rfl (by decide) fl_X12_80 ?_
  refine ax_iload_n (q := 134) (i := 1) dX12_tryCouples_133 rfl rfl rfl ?_
  refine ax_iconst (q := 135) dX12_tryCouples_134 rfl ki_m1 ?_
  refine ax_iast (q := 136) (a := (Int32.toNatClampNeg x1)) dX12_tryCouples_135 rfl shM_22 h1 rfl ?_
  refine ax_iload_n (q := 137) (i := 1) dX12_tryCouples_136 rfl rfl rfl ?_
  refine ax_iconst (q := 138) dX12_tryCouples_137 rfl ki_1 ?_
  refine ax_iadd (q := 139) dX12_tryCouples_138 rfl ?_
  refine ax_istore (q := 141) (lv2 := [some (ax_r 0), some (ax_i x1), some (ax_i x2), some (ax_i x3), some (ax_i (x1 + (1 : Int32))), none]) dX12_tryCouples_139 rfl (by decide) rfl rfl ?_
  exact k2
set_option maxRecDepth 20000 in
theorem s_X12_tryCouples_14 {d : Nat} (hd : 0 ≤ d) {Q : Option ax_V → ax_S → Prop} (σ : ax_S) (x3 : Int32) (x4 : Int32) (x5 : Int32) (k1 : ((σ.1 0 23) ≤ x5) → ((σ.1 0 40) = (-1 : Int32)) → Q none (ax_ui (ax_ui σ 0 40 x4) 0 41 x3)) (k2 : ((σ.1 0 23) ≤ x5) → (¬ ((σ.1 0 40) = (-1 : Int32))) → (x3 < (σ.1 0 41)) → Q none (ax_ui (ax_ui σ 0 40 x4) 0 41 x3)) (k3 : ((σ.1 0 23) ≤ x5) → (¬ ((σ.1 0 40) = (-1 : Int32))) → (¬ (x3 < (σ.1 0 41))) → (¬ x3 = (σ.1 0 41)) → Q none σ) (k4 : ((σ.1 0 23) ≤ x5) → (¬ ((σ.1 0 40) = (-1 : Int32))) → (¬ (x3 < (σ.1 0 41))) → (¬ (¬ x3 = (σ.1 0 41))) → ((σ.1 0 40) ≤ x4) → Q none σ) (k5 : ((σ.1 0 23) ≤ x5) → (¬ ((σ.1 0 40) = (-1 : Int32))) → (¬ (x3 < (σ.1 0 41))) → (¬ (¬ x3 = (σ.1 0 41))) → (¬ ((σ.1 0 40) ≤ x4)) → Q none (ax_ui (ax_ui σ 0 40 x4) 0 41 x3)) (h6 : (¬ ((σ.1 0 23) ≤ x5)) → vp_in x5 8) (k7 : (¬ ((σ.1 0 23) ≤ x5)) → ax_W shM (d + 1) mX12_tryCouples Q 14 [some (ax_r 0), none, none, some (ax_i x3), some (ax_i (((10 : Int32) * x4) + (σ.1 22 (Int32.toNatClampNeg x5)))), some (ax_i (x5 + (1 : Int32)))] [] σ) : ax_W shM (d + 1) mX12_tryCouples Q 14 [some (ax_r 0), none, none, some (ax_i x3), some (ax_i x4), some (ax_i x5)] [] σ := by
  refine ax_iload (q := 16) dX12_tryCouples_14 rfl rfl ?_
  refine ax_aload_n (q := 17) (i := 0) dX12_tryCouples_16 rfl rfl rfl ?_
  refine ax_get (q := 20) (k := 0) (j := 23) (v := ax_i (σ.1 0 23)) dX12_tryCouples_17 rfl shM_0 rfl rfl rfl (by decide) fl_X12_271 ?_
  refine ax_icmp_ge (tgt := 44) (q := 23) dX12_tryCouples_20 (by decide) rfl (fun c1 => ?_) (fun c1 => ?_)
  · refine ax_aload_n (q := 45) (i := 0) dX12_tryCouples_44 rfl rfl rfl ?_
    refine ax_get (q := 48) (k := 0) (j := 40) (v := ax_i (σ.1 0 40)) dX12_tryCouples_45 rfl shM_0 rfl rfl rfl (by decide) fl_X12_407 ?_
    refine ax_iconst (q := 49) dX12_tryCouples_48 rfl ki_m1 ?_
    refine ax_icmp_eq (tgt := 77) (q := 52) dX12_tryCouples_49 (by decide) rfl (fun c2 => ?_) (fun c2 => ?_)
    · refine ax_aload_n (q := 78) (i := 0) dX12_tryCouples_77 rfl rfl rfl ?_
      refine ax_iload (q := 80) dX12_tryCouples_78 rfl rfl ?_
      refine ax_puti (q := 83) (k := 0) (j := 40) dX12_tryCouples_80 rfl shM_0 rfl rfl (by decide) fl_X12_407 rfl rfl rfl rfl ?_
      refine ax_aload_n (q := 84) (i := 0) dX12_tryCouples_83 rfl rfl rfl ?_
      refine ax_iload_n (q := 85) (i := 3) dX12_tryCouples_84 rfl rfl rfl ?_
      refine ax_puti (q := 88) (k := 0) (j := 41) dX12_tryCouples_85 rfl shM_0 rfl rfl (by decide) fl_X12_410 rfl rfl rfl rfl ?_
      exact ax_vret dX12_tryCouples_88 rfl (k1 c1 c2)
    · refine ax_iload_n (q := 53) (i := 3) dX12_tryCouples_52 rfl rfl rfl ?_
      refine ax_aload_n (q := 54) (i := 0) dX12_tryCouples_53 rfl rfl rfl ?_
      refine ax_get (q := 57) (k := 0) (j := 41) (v := ax_i (σ.1 0 41)) dX12_tryCouples_54 rfl shM_0 rfl rfl rfl (by decide) fl_X12_410 ?_
      refine ax_icmp_lt (tgt := 77) (q := 60) dX12_tryCouples_57 (by decide) rfl (fun c3 => ?_) (fun c3 => ?_)
      · refine ax_aload_n (q := 78) (i := 0) dX12_tryCouples_77 rfl rfl rfl ?_
        refine ax_iload (q := 80) dX12_tryCouples_78 rfl rfl ?_
        refine ax_puti (q := 83) (k := 0) (j := 40) dX12_tryCouples_80 rfl shM_0 rfl rfl (by decide) fl_X12_407 rfl rfl rfl rfl ?_
        refine ax_aload_n (q := 84) (i := 0) dX12_tryCouples_83 rfl rfl rfl ?_
        refine ax_iload_n (q := 85) (i := 3) dX12_tryCouples_84 rfl rfl rfl ?_
        refine ax_puti (q := 88) (k := 0) (j := 41) dX12_tryCouples_85 rfl shM_0 rfl rfl (by decide) fl_X12_410 rfl rfl rfl rfl ?_
        exact ax_vret dX12_tryCouples_88 rfl (k2 c1 c2 c3)
      · refine ax_iload_n (q := 61) (i := 3) dX12_tryCouples_60 rfl rfl rfl ?_
        refine ax_aload_n (q := 62) (i := 0) dX12_tryCouples_61 rfl rfl rfl ?_
        refine ax_get (q := 65) (k := 0) (j := 41) (v := ax_i (σ.1 0 41)) dX12_tryCouples_62 rfl shM_0 rfl rfl rfl (by decide) fl_X12_410 ?_
        refine ax_icmp_ne (tgt := 88) (q := 68) dX12_tryCouples_65 (by decide) rfl (fun c4 => ?_) (fun c4 => ?_)
        · exact ax_vret dX12_tryCouples_88 rfl (k3 c1 c2 c3 c4)
        · refine ax_iload (q := 70) dX12_tryCouples_68 rfl rfl ?_
          refine ax_aload_n (q := 71) (i := 0) dX12_tryCouples_70 rfl rfl rfl ?_
          refine ax_get (q := 74) (k := 0) (j := 40) (v := ax_i (σ.1 0 40)) dX12_tryCouples_71 rfl shM_0 rfl rfl rfl (by decide) fl_X12_407 ?_
          refine ax_icmp_ge (tgt := 88) (q := 77) dX12_tryCouples_74 (by decide) rfl (fun c5 => ?_) (fun c5 => ?_)
          · exact ax_vret dX12_tryCouples_88 rfl (k4 c1 c2 c3 c4 c5)
          · refine ax_aload_n (q := 78) (i := 0) dX12_tryCouples_77 rfl rfl rfl ?_
            refine ax_iload (q := 80) dX12_tryCouples_78 rfl rfl ?_
            refine ax_puti (q := 83) (k := 0) (j := 40) dX12_tryCouples_80 rfl shM_0 rfl rfl (by decide) fl_X12_407 rfl rfl rfl rfl ?_
            refine ax_aload_n (q := 84) (i := 0) dX12_tryCouples_83 rfl rfl rfl ?_
            refine ax_iload_n (q := 85) (i := 3) dX12_tryCouples_84 rfl rfl rfl ?_
            refine ax_puti (q := 88) (k := 0) (j := 41) dX12_tryCouples_85 rfl shM_0 rfl rfl (by decide) fl_X12_410 rfl rfl rfl rfl ?_
            exact ax_vret dX12_tryCouples_88 rfl (k5 c1 c2 c3 c4 c5)
  · refine ax_bipush (q := 25) dX12_tryCouples_23 rfl kb_10 ?_
    refine ax_iload (q := 27) dX12_tryCouples_25 rfl rfl ?_
    refine ax_imul (q := 28) dX12_tryCouples_27 rfl ?_
    refine ax_aload_n (q := 29) (i := 0) dX12_tryCouples_28 rfl rfl rfl ?_
    refine ax_get (q := 32) (k := 0) (j := 39) (v := ax_r 22) dX12_tryCouples_29 rfl shM_0 rfl rfl rfl (by decide) fl_X12_80 ?_
    refine ax_iload (q := 34) dX12_tryCouples_32 rfl rfl ?_
    refine ax_iald (q := 35) (a := (Int32.toNatClampNeg x5)) (v := (σ.1 22 (Int32.toNatClampNeg x5))) dX12_tryCouples_34 rfl shM_22 (h6 c1) rfl rfl ?_
    refine ax_iadd (q := 36) dX12_tryCouples_35 rfl ?_
    refine ax_istore (q := 38) (lv2 := [some (ax_r 0), none, none, some (ax_i x3), some (ax_i (((10 : Int32) * x4) + (σ.1 22 (Int32.toNatClampNeg x5)))), some (ax_i x5)]) dX12_tryCouples_36 rfl (by decide) rfl rfl ?_
    refine ax_iincK (q := 41) (lv2 := [some (ax_r 0), none, none, some (ax_i x3), some (ax_i (((10 : Int32) * x4) + (σ.1 22 (Int32.toNatClampNeg x5)))), some (ax_i (x5 + (1 : Int32)))]) dX12_tryCouples_38 rfl rfl ki_1 (by decide) rfl rfl ?_
    refine ax_goto (tgt := 14) dX12_tryCouples_41 (by decide) ?_
    exact (k7 c1)
set_option maxRecDepth 20000 in
theorem s_X12_tryCouples_141 {d : Nat} (hd : 2 ≤ d) {Q : Option ax_V → ax_S → Prop} (σ : ax_S) (x1 : Int32) (x2 : Int32) (x3 : Int32) (x4 : Int32) (k1 : ((σ.1 0 23) ≤ x4) → Q none σ) (h2 : (¬ ((σ.1 0 23) ≤ x4)) → vp_in x4 8) (k3 : (¬ ((σ.1 0 23) ≤ x4)) → (¬ (σ.1 22 (Int32.toNatClampNeg x4)) = (-1 : Int32)) → ax_W shM (d + 1) mX12_tryCouples Q 141 [some (ax_r 0), some (ax_i x1), some (ax_i x2), some (ax_i x3), some (ax_i (x4 + (1 : Int32))), none] [] σ) (h4 : (¬ ((σ.1 0 23) ≤ x4)) → (¬ (¬ (σ.1 22 (Int32.toNatClampNeg x4)) = (-1 : Int32))) → vp_in (((4 : Int32) * x1) + (3 : Int32)) 32) (h5 : (¬ ((σ.1 0 23) ≤ x4)) → (¬ (¬ (σ.1 22 (Int32.toNatClampNeg x4)) = (-1 : Int32))) → (¬ (¬ (σ.1 14 (Int32.toNatClampNeg (((4 : Int32) * x1) + (3 : Int32)))) = (2 : Int32))) → vp_in (((4 : Int32) * x4) + (3 : Int32)) 32) (k6 : (¬ ((σ.1 0 23) ≤ x4)) → (¬ (¬ (σ.1 22 (Int32.toNatClampNeg x4)) = (-1 : Int32))) → ((¬ (¬ (σ.1 14 (Int32.toNatClampNeg (((4 : Int32) * x1) + (3 : Int32)))) = (2 : Int32))) ∧ (¬ (¬ (σ.1 14 (Int32.toNatClampNeg (((4 : Int32) * x4) + (3 : Int32)))) = (2 : Int32)))) → ax_W shM (d + 1) mX12_tryCouples Q 141 [some (ax_r 0), some (ax_i x1), some (ax_i x2), some (ax_i x3), some (ax_i (x4 + (1 : Int32))), none] [] σ) (h7 : (¬ ((σ.1 0 23) ≤ x4)) → (¬ (¬ (σ.1 22 (Int32.toNatClampNeg x4)) = (-1 : Int32))) → (¬ ((¬ (¬ (σ.1 14 (Int32.toNatClampNeg (((4 : Int32) * x1) + (3 : Int32)))) = (2 : Int32))) ∧ (¬ (¬ (σ.1 14 (Int32.toNatClampNeg (((4 : Int32) * x4) + (3 : Int32)))) = (2 : Int32))))) → vp_in x1 8) (h8 : (¬ ((σ.1 0 23) ≤ x4)) → (¬ (¬ (σ.1 22 (Int32.toNatClampNeg x4)) = (-1 : Int32))) → (¬ ((¬ (¬ (σ.1 14 (Int32.toNatClampNeg (((4 : Int32) * x1) + (3 : Int32)))) = (2 : Int32))) ∧ (¬ (¬ (σ.1 14 (Int32.toNatClampNeg (((4 : Int32) * x4) + (3 : Int32)))) = (2 : Int32))))) → vp_in x4 8) (h9 : (¬ ((σ.1 0 23) ≤ x4)) → (¬ (¬ (σ.1 22 (Int32.toNatClampNeg x4)) = (-1 : Int32))) → (¬ ((¬ (¬ (σ.1 14 (Int32.toNatClampNeg (((4 : Int32) * x1) + (3 : Int32)))) = (2 : Int32))) ∧ (¬ (¬ (σ.1 14 (Int32.toNatClampNeg (((4 : Int32) * x4) + (3 : Int32)))) = (2 : Int32))))) → vp_in (((4 : Int32) * x1) + (0 : Int32)) 32) (h10 : (¬ ((σ.1 0 23) ≤ x4)) → (¬ (¬ (σ.1 22 (Int32.toNatClampNeg x4)) = (-1 : Int32))) → (¬ ((¬ (¬ (σ.1 14 (Int32.toNatClampNeg (((4 : Int32) * x1) + (3 : Int32)))) = (2 : Int32))) ∧ (¬ (¬ (σ.1 14 (Int32.toNatClampNeg (((4 : Int32) * x4) + (3 : Int32)))) = (2 : Int32))))) → vp_in (((4 : Int32) * x4) + (0 : Int32)) 32) (k11 : (¬ ((σ.1 0 23) ≤ x4)) → (¬ (¬ (σ.1 22 (Int32.toNatClampNeg x4)) = (-1 : Int32))) → (¬ ((¬ (¬ (σ.1 14 (Int32.toNatClampNeg (((4 : Int32) * x1) + (3 : Int32)))) = (2 : Int32))) ∧ (¬ (¬ (σ.1 14 (Int32.toNatClampNeg (((4 : Int32) * x4) + (3 : Int32)))) = (2 : Int32))))) → ax_Ct shM d mX12_tryCouples [ax_r 0, ax_i (x1 + (1 : Int32)), ax_i x2, ax_i (x3 + (if (0 : Int32) ≤ ((σ.1 14 (Int32.toNatClampNeg (((4 : Int32) * x1) + (0 : Int32)))) - (σ.1 14 (Int32.toNatClampNeg (((4 : Int32) * x4) + (0 : Int32))))) then ((σ.1 14 (Int32.toNatClampNeg (((4 : Int32) * x1) + (0 : Int32)))) - (σ.1 14 (Int32.toNatClampNeg (((4 : Int32) * x4) + (0 : Int32))))) else 0 - ((σ.1 14 (Int32.toNatClampNeg (((4 : Int32) * x1) + (0 : Int32)))) - (σ.1 14 (Int32.toNatClampNeg (((4 : Int32) * x4) + (0 : Int32)))))))] (fun r u => r = none ∧ ax_W shM (d + 1) mX12_tryCouples Q 204 [some (ax_r 0), some (ax_i x1), some (ax_i x2), some (ax_i x3), some (ax_i x4), none] [] u) (ax_ui (ax_ui σ 22 (Int32.toNatClampNeg x1) x4) 22 (Int32.toNatClampNeg x4) x1)) : ax_W shM (d + 1) mX12_tryCouples Q 141 [some (ax_r 0), some (ax_i x1), some (ax_i x2), some (ax_i x3), some (ax_i x4), none] [] σ := by
  refine ax_iload (q := 143) dX12_tryCouples_141 rfl rfl ?_
  refine ax_aload_n (q := 144) (i := 0) dX12_tryCouples_143 rfl rfl rfl ?_
  refine ax_get (q := 147) (k := 0) (j := 23) (v := ax_i (σ.1 0 23)) dX12_tryCouples_144 rfl shM_0 rfl rfl rfl (by decide) fl_X12_271 ?_
  refine ax_icmp_ge (tgt := 225) (q := 150) dX12_tryCouples_147 (by decide) rfl (fun c1 => ?_) (fun c1 => ?_)
  · exact ax_vret dX12_tryCouples_225 rfl (k1 c1)
  · refine ax_aload_n (q := 151) (i := 0) dX12_tryCouples_150 rfl rfl rfl ?_
    refine ax_get (q := 154) (k := 0) (j := 39) (v := ax_r 22) dX12_tryCouples_151 rfl shM_0 rfl rfl rfl (by decide) fl_X12_80 ?_
    refine ax_iload (q := 156) dX12_tryCouples_154 rfl rfl ?_
    refine ax_iald (q := 157) (a := (Int32.toNatClampNeg x4)) (v := (σ.1 22 (Int32.toNatClampNeg x4))) dX12_tryCouples_156 rfl shM_22 (h2 c1) rfl rfl ?_
    refine ax_iconst (q := 158) dX12_tryCouples_157 rfl ki_m1 ?_
    refine ax_icmp_ne (tgt := 219) (q := 161) dX12_tryCouples_158 (by decide) rfl (fun c2 => ?_) (fun c2 => ?_)
    · refine ax_iincK (q := 222) (lv2 := [some (ax_r 0), some (ax_i x1), some (ax_i x2), some (ax_i x3), some (ax_i (x4 + (1 : Int32))), none]) dX12_tryCouples_219 rfl rfl ki_1 (by decide) rfl rfl ?_
      refine ax_goto (tgt := 141) dX12_tryCouples_222 (by decide) ?_
      exact (k3 c1 c2)
    · refine ax_aload_n (q := 162) (i := 0) dX12_tryCouples_161 rfl rfl rfl ?_
      refine ax_iload_n (q := 163) (i := 1) dX12_tryCouples_162 rfl rfl rfl ?_
      refine ax_iload (q := 165) dX12_tryCouples_163 rfl rfl ?_
      refine ax_callVfi (q := 168) (As := [ax_i x1, ax_i x4]) (st := []) (x := (if ((¬ (¬ (σ.1 14 (Int32.toNatClampNeg (((4 : Int32) * x1) + (3 : Int32)))) = (2 : Int32))) ∧ (¬ (¬ (σ.1 14 (Int32.toNatClampNeg (((4 : Int32) * x4) + (3 : Int32)))) = (2 : Int32)))) then (1 : Int32) else 0)) (σ2 := σ) dX12_tryCouples_165 rfl lk_X12_369 shM_0 rfl rfl rfl rfl (Nat.le_of_ble_eq_true rfl) (f_X12_areChapels σ x1 x4 (h4 c1 c2) (h5 c1 c2) (d := d) (by omega)) ?_
      refine ax_if_neB (tgt := 219) (q := 171) dX12_tryCouples_168 (by decide) rfl (fun c3 => ?_) (fun c3 => ?_)
      · refine ax_iincK (q := 222) (lv2 := [some (ax_r 0), some (ax_i x1), some (ax_i x2), some (ax_i x3), some (ax_i (x4 + (1 : Int32))), none]) dX12_tryCouples_219 rfl rfl ki_1 (by decide) rfl rfl ?_
        refine ax_goto (tgt := 141) dX12_tryCouples_222 (by decide) ?_
        exact (k6 c1 c2 c3)
      · refine ax_aload_n (q := 172) (i := 0) dX12_tryCouples_171 rfl rfl rfl ?_
        refine ax_get (q := 175) (k := 0) (j := 39) (v := ax_r 22) dX12_tryCouples_172 rfl shM_0 rfl rfl rfl (by decide) fl_X12_80 ?_
        refine ax_iload_n (q := 176) (i := 1) dX12_tryCouples_175 rfl rfl rfl ?_
        refine ax_iload (q := 178) dX12_tryCouples_176 rfl rfl ?_
        refine ax_iast (q := 179) (a := (Int32.toNatClampNeg x1)) dX12_tryCouples_178 rfl shM_22 (h7 c1 c2 c3) rfl ?_
        refine ax_aload_n (q := 180) (i := 0) dX12_tryCouples_179 rfl rfl rfl ?_
        refine ax_get (q := 183) (k := 0) (j := 39) (v := ax_r 22) dX12_tryCouples_180 rfl shM_0 rfl rfl rfl (by decide) fl_X12_80 ?_
        refine ax_iload (q := 185) dX12_tryCouples_183 rfl rfl ?_
        refine ax_iload_n (q := 186) (i := 1) dX12_tryCouples_185 rfl rfl rfl ?_
        refine ax_iast (q := 187) (a := (Int32.toNatClampNeg x4)) dX12_tryCouples_186 rfl shM_22 (h8 c1 c2 c3) rfl ?_
        refine ax_aload_n (q := 188) (i := 0) dX12_tryCouples_187 rfl rfl rfl ?_
        refine ax_iload_n (q := 189) (i := 1) dX12_tryCouples_188 rfl rfl rfl ?_
        refine ax_iconst (q := 190) dX12_tryCouples_189 rfl ki_1 ?_
        refine ax_iadd (q := 191) dX12_tryCouples_190 rfl ?_
        refine ax_iload_n (q := 192) (i := 2) dX12_tryCouples_191 rfl rfl rfl ?_
        refine ax_iload_n (q := 193) (i := 3) dX12_tryCouples_192 rfl rfl rfl ?_
        refine ax_aload_n (q := 194) (i := 0) dX12_tryCouples_193 rfl rfl rfl ?_
        refine ax_iload_n (q := 195) (i := 1) dX12_tryCouples_194 rfl rfl rfl ?_
        refine ax_iload (q := 197) dX12_tryCouples_195 rfl rfl ?_
        refine ax_callVfi (q := 200) (As := [ax_i x1, ax_i x4]) (st := [ax_i x3, ax_i x2, ax_i (x1 + (1 : Int32)), ax_r 0]) (x := (if (0 : Int32) ≤ ((σ.1 14 (Int32.toNatClampNeg (((4 : Int32) * x1) + (0 : Int32)))) - (σ.1 14 (Int32.toNatClampNeg (((4 : Int32) * x4) + (0 : Int32))))) then ((σ.1 14 (Int32.toNatClampNeg (((4 : Int32) * x1) + (0 : Int32)))) - (σ.1 14 (Int32.toNatClampNeg (((4 : Int32) * x4) + (0 : Int32))))) else 0 - ((σ.1 14 (Int32.toNatClampNeg (((4 : Int32) * x1) + (0 : Int32)))) - (σ.1 14 (Int32.toNatClampNeg (((4 : Int32) * x4) + (0 : Int32))))))) (σ2 := (ax_ui (ax_ui σ 22 (Int32.toNatClampNeg x1) x4) 22 (Int32.toNatClampNeg x4) x1)) dX12_tryCouples_197 rfl lk_X12_363 shM_0 rfl rfl rfl rfl (Nat.le_of_ble_eq_true rfl) (f_X12_farOf (ax_ui (ax_ui σ 22 (Int32.toNatClampNeg x1) x4) 22 (Int32.toNatClampNeg x4) x1) x1 x4 (h9 c1 c2 c3) (h10 c1 c2 c3) (d := d) (by omega)) ?_
        refine ax_iadd (q := 201) dX12_tryCouples_200 rfl ?_
        exact ax_callVcv (q := 204) (As := [ax_i (x1 + (1 : Int32)), ax_i x2, ax_i (x3 + (if (0 : Int32) ≤ ((σ.1 14 (Int32.toNatClampNeg (((4 : Int32) * x1) + (0 : Int32)))) - (σ.1 14 (Int32.toNatClampNeg (((4 : Int32) * x4) + (0 : Int32))))) then ((σ.1 14 (Int32.toNatClampNeg (((4 : Int32) * x1) + (0 : Int32)))) - (σ.1 14 (Int32.toNatClampNeg (((4 : Int32) * x4) + (0 : Int32))))) else 0 - ((σ.1 14 (Int32.toNatClampNeg (((4 : Int32) * x1) + (0 : Int32)))) - (σ.1 14 (Int32.toNatClampNeg (((4 : Int32) * x4) + (0 : Int32)))))))]) (st := []) dX12_tryCouples_201 rfl lk_X12_413 shM_0 rfl rfl rfl rfl (Nat.le_of_ble_eq_true rfl) (k11 c1 c2 c3)
set_option maxRecDepth 20000 in
theorem s_X12_tryCouples_204 {d : Nat} (hd : 0 ≤ d) {Q : Option ax_V → ax_S → Prop} (σ : ax_S) (x1 : Int32) (x2 : Int32) (x3 : Int32) (x4 : Int32) (h1 : vp_in x1 8) (h2 : vp_in x4 8) (k3 : ax_W shM (d + 1) mX12_tryCouples Q 141 [some (ax_r 0), some (ax_i x1), some (ax_i x2), some (ax_i x3), some (ax_i (x4 + (1 : Int32))), none] [] (ax_ui (ax_ui σ 22 (Int32.toNatClampNeg x1) (-1 : Int32)) 22 (Int32.toNatClampNeg x4) (-1 : Int32))) : ax_W shM (d + 1) mX12_tryCouples Q 204 [some (ax_r 0), some (ax_i x1), some (ax_i x2), some (ax_i x3), some (ax_i x4), none] [] σ := by
  refine ax_aload_n (q := 205) (i := 0) dX12_tryCouples_204 rfl rfl rfl ?_
  refine ax_get (q := 208) (k := 0) (j := 39) (v := ax_r 22) dX12_tryCouples_205 rfl shM_0 rfl rfl rfl (by decide) fl_X12_80 ?_
  refine ax_iload_n (q := 209) (i := 1) dX12_tryCouples_208 rfl rfl rfl ?_
  refine ax_iconst (q := 210) dX12_tryCouples_209 rfl ki_m1 ?_
  refine ax_iast (q := 211) (a := (Int32.toNatClampNeg x1)) dX12_tryCouples_210 rfl shM_22 h1 rfl ?_
  refine ax_aload_n (q := 212) (i := 0) dX12_tryCouples_211 rfl rfl rfl ?_
  refine ax_get (q := 215) (k := 0) (j := 39) (v := ax_r 22) dX12_tryCouples_212 rfl shM_0 rfl rfl rfl (by decide) fl_X12_80 ?_
  refine ax_iload (q := 217) dX12_tryCouples_215 rfl rfl ?_
  refine ax_iconst (q := 218) dX12_tryCouples_217 rfl ki_m1 ?_
  refine ax_iast (q := 219) (a := (Int32.toNatClampNeg x4)) dX12_tryCouples_218 rfl shM_22 h2 rfl ?_
  refine ax_iincK (q := 222) (lv2 := [some (ax_r 0), some (ax_i x1), some (ax_i x2), some (ax_i x3), some (ax_i (x4 + (1 : Int32))), none]) dX12_tryCouples_219 rfl rfl ki_1 (by decide) rfl rfl ?_
  refine ax_goto (tgt := 141) dX12_tryCouples_222 (by decide) ?_
  exact k3
set_option maxRecDepth 20000 in
theorem s_X12_couples_0 {d : Nat} (hd : 1 ≤ d) {Q : Option ax_V → ax_S → Prop} (σ : ax_S) (a0 : Int32) (k1 : ((σ.1 0 23) = 0) → Q (some (ax_i (-1 : Int32))) σ) (k2 : (¬ ((σ.1 0 23) = 0)) → ((¬ (a0 < (0 : Int32))) ∧ (¬ ((1 : Int32) < a0))) → ax_W shM (d + 1) mX12_couples Q 20 [some (ax_r 0), some (ax_i a0), some (ax_i (0 : Int32))] [] σ) (k3 : (¬ ((σ.1 0 23) = 0)) → (¬ ((¬ (a0 < (0 : Int32))) ∧ (¬ ((1 : Int32) < a0)))) → Q (some (ax_i (-1 : Int32))) σ) : ax_W shM (d + 1) mX12_couples Q 0 [some (ax_r 0), some (ax_i a0), none] [] σ := by
  refine ax_aload_n (q := 1) (i := 0) dX12_couples_0 rfl rfl rfl ?_
  refine ax_get (q := 4) (k := 0) (j := 23) (v := ax_i (σ.1 0 23)) dX12_couples_1 rfl shM_0 rfl rfl rfl (by decide) fl_X12_271 ?_
  refine ax_if_eq (tgt := 16) (q := 7) dX12_couples_4 (by decide) rfl (fun c1 => ?_) (fun c1 => ?_)
  · refine ax_iconst (q := 17) dX12_couples_16 rfl ki_m1 ?_
    exact ax_iret dX12_couples_17 rfl rfl (k1 c1)
  · refine ax_iload_n (q := 8) (i := 1) dX12_couples_7 rfl rfl rfl ?_
    refine ax_iconst (q := 9) dX12_couples_8 rfl ki_0 ?_
    refine ax_iconst (q := 10) dX12_couples_9 rfl ki_1 ?_
    refine ax_callSfi (q := 13) (As := [ax_i a0, ax_i (0 : Int32), ax_i (1 : Int32)]) (st := []) (x := (if ((¬ (a0 < (0 : Int32))) ∧ (¬ ((1 : Int32) < a0))) then (1 : Int32) else 0)) (σ2 := σ) dX12_couples_10 rfl lk_X12_223 rfl rfl (Nat.le_of_ble_eq_true rfl) (f_X12_in (sh := shM) σ a0 (0 : Int32) (1 : Int32)  (d := d) (by omega)) ?_
    refine ax_if_neB (tgt := 18) (q := 16) dX12_couples_13 (by decide) rfl (fun c2 => ?_) (fun c2 => ?_)
    · refine ax_iconst (q := 19) dX12_couples_18 rfl ki_0 ?_
      refine ax_istore_n (q := 20) (i := 2) (lv2 := [some (ax_r 0), some (ax_i a0), some (ax_i (0 : Int32))]) dX12_couples_19 rfl rfl (by decide) rfl rfl ?_
      exact (k2 c1 c2)
    · refine ax_iconst (q := 17) dX12_couples_16 rfl ki_m1 ?_
      exact ax_iret dX12_couples_17 rfl rfl (k3 c1 c2)
set_option maxRecDepth 20000 in
theorem s_X12_couples_20 {d : Nat} (hd : 0 ≤ d) {Q : Option ax_V → ax_S → Prop} (σ : ax_S) (x1 : Int32) (x2 : Int32) (k1 : ((8 : Int32) ≤ x2) → ax_Ct shM d mX12_tryCouples [ax_r 0, ax_i (0 : Int32), ax_i (if (¬ (¬ ((σ.1 0 23) - (σ.1 0 23) / (2 : Int32) * (2 : Int32)) = (1 : Int32))) then (1 : Int32) else 0), ax_i (0 : Int32)] (fun r u => r = none ∧ ax_W shM (d + 1) mX12_couples Q 70 [some (ax_r 0), some (ax_i x1), none] [] u) (ax_ui (ax_ui σ 0 40 (-1 : Int32)) 0 41 (0 : Int32))) (h2 : (¬ ((8 : Int32) ≤ x2)) → vp_in x2 8) (k3 : (¬ ((8 : Int32) ≤ x2)) → ax_W shM (d + 1) mX12_couples Q 20 [some (ax_r 0), some (ax_i x1), some (ax_i (x2 + (1 : Int32)))] [] (ax_ui σ 22 (Int32.toNatClampNeg x2) (-1 : Int32))) : ax_W shM (d + 1) mX12_couples Q 20 [some (ax_r 0), some (ax_i x1), some (ax_i x2)] [] σ := by
  refine ax_iload_n (q := 21) (i := 2) dX12_couples_20 rfl rfl rfl ?_
  refine ax_bipush (q := 23) dX12_couples_21 rfl kb_8 ?_
  refine ax_icmp_ge (tgt := 39) (q := 26) dX12_couples_23 (by decide) rfl (fun c1 => ?_) (fun c1 => ?_)
  · refine ax_aload_n (q := 40) (i := 0) dX12_couples_39 rfl rfl rfl ?_
    refine ax_iconst (q := 41) dX12_couples_40 rfl ki_m1 ?_
    refine ax_puti (q := 44) (k := 0) (j := 40) dX12_couples_41 rfl shM_0 rfl rfl (by decide) fl_X12_407 rfl rfl rfl rfl ?_
    refine ax_aload_n (q := 45) (i := 0) dX12_couples_44 rfl rfl rfl ?_
    refine ax_iconst (q := 46) dX12_couples_45 rfl ki_0 ?_
    refine ax_puti (q := 49) (k := 0) (j := 41) dX12_couples_46 rfl shM_0 rfl rfl (by decide) fl_X12_410 rfl rfl rfl rfl ?_
    refine ax_aload_n (q := 50) (i := 0) dX12_couples_49 rfl rfl rfl ?_
    refine ax_iconst (q := 51) dX12_couples_50 rfl ki_0 ?_
    refine ax_aload_n (q := 52) (i := 0) dX12_couples_51 rfl rfl rfl ?_
    refine ax_get (q := 55) (k := 0) (j := 23) (v := ax_i (σ.1 0 23)) dX12_couples_52 rfl shM_0 rfl rfl rfl (by decide) fl_X12_271 ?_
    refine ax_iconst (q := 56) dX12_couples_55 rfl ki_2 ?_
    refine ax_irem (q := 57) dX12_couples_56 rfl (by decide) ?_
    refine ax_iconst (q := 58) dX12_couples_57 rfl ki_1 ?_
    have K3 : ax_W shM (d + 1) mX12_couples Q 66 [some (ax_r 0), some (ax_i x1), some (ax_i x2)] [ax_i (if (¬ (¬ ((σ.1 0 23) - (σ.1 0 23) / (2 : Int32) * (2 : Int32)) = (1 : Int32))) then (1 : Int32) else 0), ax_i (0 : Int32), ax_r 0] (ax_ui (ax_ui σ 0 40 (-1 : Int32)) 0 41 (0 : Int32)) := by
      refine ax_iconst (q := 67) dX12_couples_66 rfl ki_0 ?_
      refine ax_fg (lv2 := [some (ax_r 0), some (ax_i x1), none]) ⟨rfl, rfl, trivial⟩ ?_
      exact ax_callVcv (q := 70) (As := [ax_i (0 : Int32), ax_i (if (¬ (¬ ((σ.1 0 23) - (σ.1 0 23) / (2 : Int32) * (2 : Int32)) = (1 : Int32))) then (1 : Int32) else 0), ax_i (0 : Int32)]) (st := []) dX12_couples_67 rfl lk_X12_413 shM_0 rfl rfl rfl rfl (Nat.le_of_ble_eq_true rfl) (k1 c1)
    refine ax_icmp_ne (tgt := 65) (q := 61) dX12_couples_58 (by decide) rfl (fun c2 => ?_) (fun c2 => ?_)
    · refine ax_iconst (q := 66) dX12_couples_65 rfl ki_0 ?_
      exact ax_cv (if_neg (fun y => y c2)) K3
    · refine ax_iconst (q := 62) dX12_couples_61 rfl ki_1 ?_
      refine ax_goto (tgt := 66) dX12_couples_62 (by decide) ?_
      exact ax_cv (if_pos c2) K3
  · refine ax_aload_n (q := 27) (i := 0) dX12_couples_26 rfl rfl rfl ?_
    refine ax_get (q := 30) (k := 0) (j := 39) (v := ax_r 22) dX12_couples_27 rfl shM_0 rfl rfl rfl (by decide) fl_X12_80 ?_
    refine ax_iload_n (q := 31) (i := 2) dX12_couples_30 rfl rfl rfl ?_
    refine ax_iconst (q := 32) dX12_couples_31 rfl ki_m1 ?_
    refine ax_iast (q := 33) (a := (Int32.toNatClampNeg x2)) dX12_couples_32 rfl shM_22 (h2 c1) rfl ?_
    refine ax_iincK (q := 36) (lv2 := [some (ax_r 0), some (ax_i x1), some (ax_i (x2 + (1 : Int32)))]) dX12_couples_33 rfl rfl ki_1 (by decide) rfl rfl ?_
    refine ax_goto (tgt := 20) dX12_couples_36 (by decide) ?_
    exact (k3 c1)
set_option maxRecDepth 20000 in
theorem s_X12_couples_70 {d : Nat} (hd : 0 ≤ d) {Q : Option ax_V → ax_S → Prop} (σ : ax_S) (x1 : Int32) (k1 : Q (some (ax_i (if ((σ.1 0 40) = (-1 : Int32)) then (σ.1 0 40) else (if (¬ x1 = (1 : Int32)) then (σ.1 0 41) else (σ.1 0 40))))) σ) : ax_W shM (d + 1) mX12_couples Q 70 [some (ax_r 0), some (ax_i x1), none] [] σ := by
  refine ax_aload_n (q := 71) (i := 0) dX12_couples_70 rfl rfl rfl ?_
  refine ax_get (q := 74) (k := 0) (j := 40) (v := ax_i (σ.1 0 40)) dX12_couples_71 rfl shM_0 rfl rfl rfl (by decide) fl_X12_407 ?_
  refine ax_iconst (q := 75) dX12_couples_74 rfl ki_m1 ?_
  have K3 : ax_W shM (d + 1) mX12_couples Q 94 [some (ax_r 0), some (ax_i x1), none] [ax_i (if ((σ.1 0 40) = (-1 : Int32)) then (σ.1 0 40) else (if (¬ x1 = (1 : Int32)) then (σ.1 0 41) else (σ.1 0 40)))] σ := by
    exact ax_iret dX12_couples_94 rfl rfl k1
  refine ax_icmp_eq (tgt := 83) (q := 78) dX12_couples_75 (by decide) rfl (fun c1 => ?_) (fun c1 => ?_)
  · refine ax_aload_n (q := 84) (i := 0) dX12_couples_83 rfl rfl rfl ?_
    refine ax_get (q := 87) (k := 0) (j := 40) (v := ax_i (σ.1 0 40)) dX12_couples_84 rfl shM_0 rfl rfl rfl (by decide) fl_X12_407 ?_
    refine ax_goto (tgt := 94) dX12_couples_87 (by decide) ?_
    exact ax_cv (if_pos c1) K3
  · refine ax_iload_n (q := 79) (i := 1) dX12_couples_78 rfl rfl rfl ?_
    refine ax_iconst (q := 80) dX12_couples_79 rfl ki_1 ?_
    refine ax_icmp_ne (tgt := 90) (q := 83) dX12_couples_80 (by decide) rfl (fun c2 => ?_) (fun c2 => ?_)
    · refine ax_aload_n (q := 91) (i := 0) dX12_couples_90 rfl rfl rfl ?_
      refine ax_get (q := 94) (k := 0) (j := 41) (v := ax_i (σ.1 0 41)) dX12_couples_91 rfl shM_0 rfl rfl rfl (by decide) fl_X12_410 ?_
      exact ax_cv ((if_neg c1).trans (if_pos c2)) K3
    · refine ax_aload_n (q := 84) (i := 0) dX12_couples_83 rfl rfl rfl ?_
      refine ax_get (q := 87) (k := 0) (j := 40) (v := ax_i (σ.1 0 40)) dX12_couples_84 rfl shM_0 rfl rfl rfl (by decide) fl_X12_407 ?_
      refine ax_goto (tgt := 94) dX12_couples_87 (by decide) ?_
      exact ax_cv ((if_neg c1).trans (if_neg c2)) K3
set_option maxRecDepth 20000 in
theorem s_X12_burnMany_0 {d : Nat} (hd : 0 ≤ d) {Q : Option ax_V → ax_S → Prop} (σ : ax_S) (a0 : Int32) (a1 : Int32) (k1 : ax_Ct shM d mX12_burningBy [ax_r 0, ax_i a0, ax_i a1] (fun r u => ∃ x : Int32, r = some (ax_i x) ∧ ax_W shM (d + 1) mX12_burnMany Q 6 [none, none, none] (ax_i x :: []) u) σ) : ax_W shM (d + 1) mX12_burnMany Q 0 [some (ax_r 0), some (ax_i a0), some (ax_i a1)] [] σ := by
  refine ax_aload_n (q := 1) (i := 0) dX12_burnMany_0 rfl rfl rfl ?_
  refine ax_iload_n (q := 2) (i := 1) dX12_burnMany_1 rfl rfl rfl ?_
  refine ax_iload_n (q := 3) (i := 2) dX12_burnMany_2 rfl rfl rfl ?_
  refine ax_fg (lv2 := [none, none, none]) trivial ?_
  exact ax_callVci (q := 6) (As := [ax_i a0, ax_i a1]) (st := []) dX12_burnMany_3 rfl lk_X12_348 shM_0 rfl rfl rfl rfl (Nat.le_of_ble_eq_true rfl) k1
set_option maxRecDepth 20000 in
theorem s_X12_burnMany_6 {d : Nat} (hd : 1 ≤ d) {Q : Option ax_V → ax_S → Prop} (σ : ax_S) (rr : Int32) (k1 : Q (some (ax_i (v_J6_bitCount_0f7a4 rr))) σ) : ax_W shM (d + 1) mX12_burnMany Q 6 [none, none, none] [ax_i rr] σ := by
  refine ax_callSfi (q := 9) (As := [ax_i rr]) (st := []) (x := (v_J6_bitCount_0f7a4 rr)) (σ2 := σ) dX12_burnMany_6 rfl lk_X12_417 rfl rfl (Nat.le_of_ble_eq_true rfl) (f_J6_bitCount_0f7a4 (sh := shM) σ rr  (d := d) (by omega)) ?_
  exact ax_iret dX12_burnMany_9 rfl rfl k1
set_option maxRecDepth 20000 in
theorem s_X12_marry_0 {d : Nat} (hd : 2 ≤ d) {Q : Option ax_V → ax_S → Prop} (σ : ax_S) (a0 : Int32) (a1 : Int32) (a2 : Int32) (k1 : (¬ ((¬ (a0 < (0 : Int32))) ∧ (¬ (((σ.1 0 23) - (1 : Int32)) < a0)))) → Q (some (ax_i (-1 : Int32))) σ) (k2 : ((¬ (a0 < (0 : Int32))) ∧ (¬ (((σ.1 0 23) - (1 : Int32)) < a0))) → (¬ ((¬ (a1 < (1 : Int32))) ∧ (¬ ((999 : Int32) < a1)))) → Q (some (ax_i (-1 : Int32))) σ) (k3 : ((¬ (a0 < (0 : Int32))) ∧ (¬ (((σ.1 0 23) - (1 : Int32)) < a0))) → ((¬ (a1 < (1 : Int32))) ∧ (¬ ((999 : Int32) < a1))) → ((¬ (a2 < (0 : Int32))) ∧ (¬ ((1 : Int32) < a2))) → ax_W shM (d + 1) mX12_marry Q 35 [some (ax_r 0), some (ax_i a0), some (ax_i a1), some (ax_i a2), some (ax_i (-1 : Int32)), some (ax_i (0 : Int32)), some (ax_i (0 : Int32)), none, none] [] σ) (k4 : ((¬ (a0 < (0 : Int32))) ∧ (¬ (((σ.1 0 23) - (1 : Int32)) < a0))) → ((¬ (a1 < (1 : Int32))) ∧ (¬ ((999 : Int32) < a1))) → (¬ ((¬ (a2 < (0 : Int32))) ∧ (¬ ((1 : Int32) < a2)))) → Q (some (ax_i (-1 : Int32))) σ) : ax_W shM (d + 1) mX12_marry Q 0 [some (ax_r 0), some (ax_i a0), some (ax_i a1), some (ax_i a2), none, none, none, none, none] [] σ := by
  refine ax_aload_n (q := 1) (i := 0) dX12_marry_0 rfl rfl rfl ?_
  refine ax_iload_n (q := 2) (i := 1) dX12_marry_1 rfl rfl rfl ?_
  refine ax_callVfi (q := 5) (As := [ax_i a0]) (st := []) (x := (if ((¬ (a0 < (0 : Int32))) ∧ (¬ (((σ.1 0 23) - (1 : Int32)) < a0))) then (1 : Int32) else 0)) (σ2 := σ) dX12_marry_2 rfl lk_X12_342 shM_0 rfl rfl rfl rfl (Nat.le_of_ble_eq_true rfl) (f_X12_isHouse σ a0  (d := d) (by omega)) ?_
  refine ax_if_eqB (tgt := 24) (q := 8) dX12_marry_5 (by decide) rfl (fun c1 => ?_) (fun c1 => ?_)
  · refine ax_iconst (q := 25) dX12_marry_24 rfl ki_m1 ?_
    exact ax_iret dX12_marry_25 rfl rfl (k1 c1)
  · refine ax_iload_n (q := 9) (i := 2) dX12_marry_8 rfl rfl rfl ?_
    refine ax_callSfi (q := 12) (As := [ax_i a1]) (st := []) (x := (if ((¬ (a1 < (1 : Int32))) ∧ (¬ ((999 : Int32) < a1))) then (1 : Int32) else 0)) (σ2 := σ) dX12_marry_9 rfl lk_X12_351 rfl rfl (Nat.le_of_ble_eq_true rfl) (f_X12_isForce (sh := shM) σ a1  (d := d) (by omega)) ?_
    refine ax_if_eqB (tgt := 24) (q := 15) dX12_marry_12 (by decide) rfl (fun c2 => ?_) (fun c2 => ?_)
    · refine ax_iconst (q := 25) dX12_marry_24 rfl ki_m1 ?_
      exact ax_iret dX12_marry_25 rfl rfl (k2 c1 c2)
    · refine ax_iload_n (q := 16) (i := 3) dX12_marry_15 rfl rfl rfl ?_
      refine ax_iconst (q := 17) dX12_marry_16 rfl ki_0 ?_
      refine ax_iconst (q := 18) dX12_marry_17 rfl ki_1 ?_
      refine ax_callSfi (q := 21) (As := [ax_i a2, ax_i (0 : Int32), ax_i (1 : Int32)]) (st := []) (x := (if ((¬ (a2 < (0 : Int32))) ∧ (¬ ((1 : Int32) < a2))) then (1 : Int32) else 0)) (σ2 := σ) dX12_marry_18 rfl lk_X12_223 rfl rfl (Nat.le_of_ble_eq_true rfl) (f_X12_in (sh := shM) σ a2 (0 : Int32) (1 : Int32)  (d := d) (by omega)) ?_
      refine ax_if_neB (tgt := 26) (q := 24) dX12_marry_21 (by decide) rfl (fun c3 => ?_) (fun c3 => ?_)
      · refine ax_iconst (q := 27) dX12_marry_26 rfl ki_m1 ?_
        refine ax_istore (q := 29) (lv2 := [some (ax_r 0), some (ax_i a0), some (ax_i a1), some (ax_i a2), some (ax_i (-1 : Int32)), none, none, none, none]) dX12_marry_27 rfl (by decide) rfl rfl ?_
        refine ax_iconst (q := 30) dX12_marry_29 rfl ki_0 ?_
        refine ax_istore (q := 32) (lv2 := [some (ax_r 0), some (ax_i a0), some (ax_i a1), some (ax_i a2), some (ax_i (-1 : Int32)), some (ax_i (0 : Int32)), none, none, none]) dX12_marry_30 rfl (by decide) rfl rfl ?_
        refine ax_iconst (q := 33) dX12_marry_32 rfl ki_0 ?_
        refine ax_istore (q := 35) (lv2 := [some (ax_r 0), some (ax_i a0), some (ax_i a1), some (ax_i a2), some (ax_i (-1 : Int32)), some (ax_i (0 : Int32)), some (ax_i (0 : Int32)), none, none]) dX12_marry_33 rfl (by decide) rfl rfl ?_
        exact (k3 c1 c2 c3)
      · refine ax_iconst (q := 25) dX12_marry_24 rfl ki_m1 ?_
        exact ax_iret dX12_marry_25 rfl rfl (k4 c1 c2 c3)
set_option maxRecDepth 20000 in
theorem s_X12_marry_35 {d : Nat} (hd : 0 ≤ d) {Q : Option ax_V → ax_S → Prop} (σ : ax_S) (x1 : Int32) (x2 : Int32) (x3 : Int32) (x4 : Int32) (x5 : Int32) (x6 : Int32) (k1 : ((σ.1 0 23) ≤ x6) → Q (some (ax_i (if (x4 = (-1 : Int32)) then x4 else (if (¬ x3 = 0) then x5 else x4)))) σ) (k2 : (¬ ((σ.1 0 23) ≤ x6)) → ax_W shM (d + 1) mX12_marry Q 50 [some (ax_r 0), some (ax_i x1), some (ax_i x2), some (ax_i x3), some (ax_i x4), some (ax_i x5), some (ax_i x6), some (ax_i (x6 + (1 : Int32))), none] [] σ) : ax_W shM (d + 1) mX12_marry Q 35 [some (ax_r 0), some (ax_i x1), some (ax_i x2), some (ax_i x3), some (ax_i x4), some (ax_i x5), some (ax_i x6), none, none] [] σ := by
  refine ax_iload (q := 37) dX12_marry_35 rfl rfl ?_
  refine ax_aload_n (q := 38) (i := 0) dX12_marry_37 rfl rfl rfl ?_
  refine ax_get (q := 41) (k := 0) (j := 23) (v := ax_i (σ.1 0 23)) dX12_marry_38 rfl shM_0 rfl rfl rfl (by decide) fl_X12_271 ?_
  refine ax_icmp_ge (tgt := 139) (q := 44) dX12_marry_41 (by decide) rfl (fun c1 => ?_) (fun c1 => ?_)
  · refine ax_iload (q := 141) dX12_marry_139 rfl rfl ?_
    refine ax_iconst (q := 142) dX12_marry_141 rfl ki_m1 ?_
    have K4 : ax_W shM (d + 1) mX12_marry Q 156 [some (ax_r 0), some (ax_i x1), some (ax_i x2), some (ax_i x3), some (ax_i x4), some (ax_i x5), some (ax_i x6), none, none] [ax_i (if (x4 = (-1 : Int32)) then x4 else (if (¬ x3 = 0) then x5 else x4))] σ := by
      exact ax_iret dX12_marry_156 rfl rfl (k1 c1)
    refine ax_icmp_eq (tgt := 149) (q := 145) dX12_marry_142 (by decide) rfl (fun c2 => ?_) (fun c2 => ?_)
    · refine ax_iload (q := 151) dX12_marry_149 rfl rfl ?_
      refine ax_goto (tgt := 156) dX12_marry_151 (by decide) ?_
      exact ax_cv (if_pos c2) K4
    · refine ax_iload_n (q := 146) (i := 3) dX12_marry_145 rfl rfl rfl ?_
      refine ax_if_ne (tgt := 154) (q := 149) dX12_marry_146 (by decide) rfl (fun c3 => ?_) (fun c3 => ?_)
      · refine ax_iload (q := 156) dX12_marry_154 rfl rfl ?_
        exact ax_cv ((if_neg c2).trans (if_pos c3)) K4
      · refine ax_iload (q := 151) dX12_marry_149 rfl rfl ?_
        refine ax_goto (tgt := 156) dX12_marry_151 (by decide) ?_
        exact ax_cv ((if_neg c2).trans (if_neg c3)) K4
  · refine ax_iload (q := 46) dX12_marry_44 rfl rfl ?_
    refine ax_iconst (q := 47) dX12_marry_46 rfl ki_1 ?_
    refine ax_iadd (q := 48) dX12_marry_47 rfl ?_
    refine ax_istore (q := 50) (lv2 := [some (ax_r 0), some (ax_i x1), some (ax_i x2), some (ax_i x3), some (ax_i x4), some (ax_i x5), some (ax_i x6), some (ax_i (x6 + (1 : Int32))), none]) dX12_marry_48 rfl (by decide) rfl rfl ?_
    exact (k2 c1)
set_option maxRecDepth 20000 in
theorem s_X12_marry_50 {d : Nat} (hd : 0 ≤ d) {Q : Option ax_V → ax_S → Prop} (σ : ax_S) (x1 : Int32) (x2 : Int32) (x3 : Int32) (x4 : Int32) (x5 : Int32) (x6 : Int32) (x7 : Int32) (k1 : ((σ.1 0 23) ≤ x7) → ax_W shM (d + 1) mX12_marry Q 35 [some (ax_r 0), some (ax_i x1), some (ax_i x2), some (ax_i x3), some (ax_i x4), some (ax_i x5), some (ax_i (x6 + (1 : Int32))), none, none] [] σ) (k2 : (¬ ((σ.1 0 23) ≤ x7)) → ax_Ct shM d mX12_whyNot [ax_r 0, ax_i x6, ax_i x7] (fun r u => ∃ x : Int32, r = some (ax_i x) ∧ ax_W shM (d + 1) mX12_marry Q 67 [some (ax_r 0), some (ax_i x1), some (ax_i x2), some (ax_i x3), some (ax_i x4), some (ax_i x5), some (ax_i x6), some (ax_i x7), none] (ax_i x :: []) u) σ) : ax_W shM (d + 1) mX12_marry Q 50 [some (ax_r 0), some (ax_i x1), some (ax_i x2), some (ax_i x3), some (ax_i x4), some (ax_i x5), some (ax_i x6), some (ax_i x7), none] [] σ := by
  refine ax_iload (q := 52) dX12_marry_50 rfl rfl ?_
  refine ax_aload_n (q := 53) (i := 0) dX12_marry_52 rfl rfl rfl ?_
  refine ax_get (q := 56) (k := 0) (j := 23) (v := ax_i (σ.1 0 23)) dX12_marry_53 rfl shM_0 rfl rfl rfl (by decide) fl_X12_271 ?_
  refine ax_icmp_ge (tgt := 133) (q := 59) dX12_marry_56 (by decide) rfl (fun c1 => ?_) (fun c1 => ?_)
  · refine ax_iincK (q := 136) (lv2 := [some (ax_r 0), some (ax_i x1), some (ax_i x2), some (ax_i x3), some (ax_i x4), some (ax_i x5), some (ax_i (x6 + (1 : Int32))), some (ax_i x7), none]) dX12_marry_133 rfl rfl ki_1 (by decide) rfl rfl ?_
    refine ax_goto (tgt := 35) dX12_marry_136 (by decide) ?_
    refine ax_fg (lv2 := [some (ax_r 0), some (ax_i x1), some (ax_i x2), some (ax_i x3), some (ax_i x4), some (ax_i x5), some (ax_i (x6 + (1 : Int32))), none, none]) ⟨rfl, rfl, rfl, rfl, rfl, rfl, rfl, trivial⟩ ?_
    exact (k1 c1)
  · refine ax_aload_n (q := 60) (i := 0) dX12_marry_59 rfl rfl rfl ?_
    refine ax_iload (q := 62) dX12_marry_60 rfl rfl ?_
    refine ax_iload (q := 64) dX12_marry_62 rfl rfl ?_
    exact ax_callVci (q := 67) (As := [ax_i x6, ax_i x7]) (st := []) dX12_marry_64 rfl lk_X12_375 shM_0 rfl rfl rfl rfl (Nat.le_of_ble_eq_true rfl) (k2 c1)
set_option maxRecDepth 20000 in
theorem s_X12_marry_67 {d : Nat} (hd : 2 ≤ d) {Q : Option ax_V → ax_S → Prop} (σ : ax_S) (x1 : Int32) (x2 : Int32) (x3 : Int32) (x4 : Int32) (x5 : Int32) (x6 : Int32) (x7 : Int32) (rr : Int32) (k1 : (¬ rr = (-1 : Int32)) → ax_W shM (d + 1) mX12_marry Q 50 [some (ax_r 0), some (ax_i x1), some (ax_i x2), some (ax_i x3), some (ax_i x4), some (ax_i x5), some (ax_i x6), some (ax_i (x7 + (1 : Int32))), none] [] σ) (h2 : (¬ (¬ rr = (-1 : Int32))) → vp_in (((16 : Int32) + ((4 : Int32) * (σ.1 15 84))) + (0 : Int32)) 268) (h3 : (¬ (¬ rr = (-1 : Int32))) → vp_in (((16 : Int32) + ((4 : Int32) * (σ.1 15 84))) + (1 : Int32)) 268) (h4 : (¬ (¬ rr = (-1 : Int32))) → vp_in (((16 : Int32) + ((4 : Int32) * (σ.1 15 84))) + (2 : Int32)) 268) (h5 : (¬ (¬ rr = (-1 : Int32))) → vp_in (((16 : Int32) + ((4 : Int32) * (σ.1 15 84))) + (3 : Int32)) 268) (k6 : (¬ (¬ rr = (-1 : Int32))) → ax_Ct shM d mX12_burnMany [ax_r 0, ax_i x1, ax_i x2] (fun r u => ∃ x : Int32, r = some (ax_i x) ∧ ax_W shM (d + 1) mX12_marry Q 87 [some (ax_r 0), some (ax_i x1), some (ax_i x2), some (ax_i x3), some (ax_i x4), some (ax_i x5), some (ax_i x6), some (ax_i x7), none] (ax_i x :: []) u) (ax_ui (ax_ui (ax_ui (ax_ui (ax_ui σ 15 84 ((σ.1 15 84) + (1 : Int32))) 15 (Int32.toNatClampNeg (((16 : Int32) + ((4 : Int32) * (σ.1 15 84))) + (0 : Int32))) x6) 15 (Int32.toNatClampNeg (((16 : Int32) + ((4 : Int32) * (σ.1 15 84))) + (1 : Int32))) x7) 15 (Int32.toNatClampNeg (((16 : Int32) + ((4 : Int32) * (σ.1 15 84))) + (2 : Int32))) (0 : Int32)) 15 (Int32.toNatClampNeg (((16 : Int32) + ((4 : Int32) * (σ.1 15 84))) + (3 : Int32))) (0 : Int32))) : ax_W shM (d + 1) mX12_marry Q 67 [some (ax_r 0), some (ax_i x1), some (ax_i x2), some (ax_i x3), some (ax_i x4), some (ax_i x5), some (ax_i x6), some (ax_i x7), none] [ax_i rr] σ := by
  refine ax_iconst (q := 68) dX12_marry_67 rfl ki_m1 ?_
  refine ax_icmp_ne (tgt := 127) (q := 71) dX12_marry_68 (by decide) rfl (fun c1 => ?_) (fun c1 => ?_)
  · refine ax_iincK (q := 130) (lv2 := [some (ax_r 0), some (ax_i x1), some (ax_i x2), some (ax_i x3), some (ax_i x4), some (ax_i x5), some (ax_i x6), some (ax_i (x7 + (1 : Int32))), none]) dX12_marry_127 rfl rfl ki_1 (by decide) rfl rfl ?_
    refine ax_goto (tgt := 50) dX12_marry_130 (by decide) ?_
    exact (k1 c1)
  · refine ax_aload_n (q := 72) (i := 0) dX12_marry_71 rfl rfl rfl ?_
    refine ax_iload (q := 74) dX12_marry_72 rfl rfl ?_
    refine ax_iload (q := 76) dX12_marry_74 rfl rfl ?_
    refine ax_iconst (q := 77) dX12_marry_76 rfl ki_0 ?_
    refine ax_callVfi (q := 80) (As := [ax_i x6, ax_i x7, ax_i (0 : Int32)]) (st := []) (x := (σ.1 15 84)) (σ2 := (ax_ui (ax_ui (ax_ui (ax_ui (ax_ui σ 15 84 ((σ.1 15 84) + (1 : Int32))) 15 (Int32.toNatClampNeg (((16 : Int32) + ((4 : Int32) * (σ.1 15 84))) + (0 : Int32))) x6) 15 (Int32.toNatClampNeg (((16 : Int32) + ((4 : Int32) * (σ.1 15 84))) + (1 : Int32))) x7) 15 (Int32.toNatClampNeg (((16 : Int32) + ((4 : Int32) * (σ.1 15 84))) + (2 : Int32))) (0 : Int32)) 15 (Int32.toNatClampNeg (((16 : Int32) + ((4 : Int32) * (σ.1 15 84))) + (3 : Int32))) (0 : Int32))) dX12_marry_77 rfl lk_X12_280 shM_0 rfl rfl rfl rfl (Nat.le_of_ble_eq_true rfl) (f_X12_string σ x6 x7 (0 : Int32) (ax_inl 84 268 (by decide) (by decide)) (h2 c1) (h3 c1) (h4 c1) (h5 c1) (d := d) (by omega)) ?_
    refine ax_popi (q := 81) dX12_marry_80 rfl ?_
    refine ax_aload_n (q := 82) (i := 0) dX12_marry_81 rfl rfl rfl ?_
    refine ax_iload_n (q := 83) (i := 1) dX12_marry_82 rfl rfl rfl ?_
    refine ax_iload_n (q := 84) (i := 2) dX12_marry_83 rfl rfl rfl ?_
    exact ax_callVci (q := 87) (As := [ax_i x1, ax_i x2]) (st := []) dX12_marry_84 rfl lk_X12_422 shM_0 rfl rfl rfl rfl (Nat.le_of_ble_eq_true rfl) (k6 c1)
set_option maxRecDepth 20000 in
theorem s_X12_marry_87 {d : Nat} (hd : 0 ≤ d) {Q : Option ax_V → ax_S → Prop} (σ : ax_S) (x1 : Int32) (x2 : Int32) (x3 : Int32) (x4 : Int32) (x5 : Int32) (x6 : Int32) (x7 : Int32) (rr : Int32) (k1 : (x4 = (-1 : Int32)) → ax_W shM (d + 1) mX12_marry Q 50 [some (ax_r 0), some (ax_i x1), some (ax_i x2), some (ax_i x3), some (ax_i (((10 : Int32) * x6) + x7)), some (ax_i rr), some (ax_i x6), some (ax_i (x7 + (1 : Int32))), none] [] (ax_ui σ 15 84 ((σ.1 15 84) - (1 : Int32)))) (k2 : (¬ (x4 = (-1 : Int32))) → (x5 ≤ rr) → ax_W shM (d + 1) mX12_marry Q 50 [some (ax_r 0), some (ax_i x1), some (ax_i x2), some (ax_i x3), some (ax_i x4), some (ax_i x5), some (ax_i x6), some (ax_i (x7 + (1 : Int32))), none] [] (ax_ui σ 15 84 ((σ.1 15 84) - (1 : Int32)))) (k3 : (¬ (x4 = (-1 : Int32))) → (¬ (x5 ≤ rr)) → ax_W shM (d + 1) mX12_marry Q 50 [some (ax_r 0), some (ax_i x1), some (ax_i x2), some (ax_i x3), some (ax_i (((10 : Int32) * x6) + x7)), some (ax_i rr), some (ax_i x6), some (ax_i (x7 + (1 : Int32))), none] [] (ax_ui σ 15 84 ((σ.1 15 84) - (1 : Int32)))) : ax_W shM (d + 1) mX12_marry Q 87 [some (ax_r 0), some (ax_i x1), some (ax_i x2), some (ax_i x3), some (ax_i x4), some (ax_i x5), some (ax_i x6), some (ax_i x7), none] [ax_i rr] σ := by
  refine ax_istore (q := 89) (lv2 := [some (ax_r 0), some (ax_i x1), some (ax_i x2), some (ax_i x3), some (ax_i x4), some (ax_i x5), some (ax_i x6), some (ax_i x7), some (ax_i rr)]) dX12_marry_87 rfl (by decide) rfl rfl ?_
  refine ax_aload_n (q := 90) (i := 0) dX12_marry_89 rfl rfl rfl ?_
  refine ax_get (q := 93) (k := 0) (j := 25) (v := ax_r 15) dX12_marry_90 rfl shM_0 rfl rfl rfl (by decide) fl_X12_52 ?_
  refine ax_bipush (q := 95) dX12_marry_93 rfl kb_84 ?_
  refine ax_dup2_11 (q := 96) dX12_marry_95 rfl ?_
  refine ax_iald (q := 97) (a := 84) (v := (σ.1 15 84)) dX12_marry_96 rfl shM_15 (ax_inl 84 268 (by decide) (by decide)) rfl rfl ?_
  refine ax_iconst (q := 98) dX12_marry_97 rfl ki_1 ?_
  refine ax_isub (q := 99) dX12_marry_98 rfl ?_
  refine ax_iast (q := 100) (a := 84) dX12_marry_99 rfl shM_15 (ax_inl 84 268 (by decide) (by decide)) rfl ?_
  refine ax_iload (q := 102) dX12_marry_100 rfl rfl ?_
  refine ax_iconst (q := 103) dX12_marry_102 rfl ki_m1 ?_
  refine ax_icmp_eq (tgt := 113) (q := 106) dX12_marry_103 (by decide) rfl (fun c1 => ?_) (fun c1 => ?_)
  · refine ax_bipush (q := 115) dX12_marry_113 rfl kb_10 ?_
    refine ax_iload (q := 117) dX12_marry_115 rfl rfl ?_
    refine ax_imul (q := 118) dX12_marry_117 rfl ?_
    refine ax_iload (q := 120) dX12_marry_118 rfl rfl ?_
    refine ax_iadd (q := 121) dX12_marry_120 rfl ?_
    refine ax_istore (q := 123) (lv2 := [some (ax_r 0), some (ax_i x1), some (ax_i x2), some (ax_i x3), some (ax_i (((10 : Int32) * x6) + x7)), some (ax_i x5), some (ax_i x6), some (ax_i x7), some (ax_i rr)]) dX12_marry_121 rfl (by decide) rfl rfl ?_
    refine ax_iload (q := 125) dX12_marry_123 rfl rfl ?_
    refine ax_istore (q := 127) (lv2 := [some (ax_r 0), some (ax_i x1), some (ax_i x2), some (ax_i x3), some (ax_i (((10 : Int32) * x6) + x7)), some (ax_i rr), some (ax_i x6), some (ax_i x7), some (ax_i rr)]) dX12_marry_125 rfl (by decide) rfl rfl ?_
    refine ax_iincK (q := 130) (lv2 := [some (ax_r 0), some (ax_i x1), some (ax_i x2), some (ax_i x3), some (ax_i (((10 : Int32) * x6) + x7)), some (ax_i rr), some (ax_i x6), some (ax_i (x7 + (1 : Int32))), some (ax_i rr)]) dX12_marry_127 rfl rfl ki_1 (by decide) rfl rfl ?_
    refine ax_goto (tgt := 50) dX12_marry_130 (by decide) ?_
    refine ax_fg (lv2 := [some (ax_r 0), some (ax_i x1), some (ax_i x2), some (ax_i x3), some (ax_i (((10 : Int32) * x6) + x7)), some (ax_i rr), some (ax_i x6), some (ax_i (x7 + (1 : Int32))), none]) ⟨rfl, rfl, rfl, rfl, rfl, rfl, rfl, rfl, trivial⟩ ?_
    exact (k1 c1)
  · refine ax_iload (q := 108) dX12_marry_106 rfl rfl ?_
    refine ax_iload (q := 110) dX12_marry_108 rfl rfl ?_
    refine ax_icmp_ge (tgt := 127) (q := 113) dX12_marry_110 (by decide) rfl (fun c2 => ?_) (fun c2 => ?_)
    · refine ax_iincK (q := 130) (lv2 := [some (ax_r 0), some (ax_i x1), some (ax_i x2), some (ax_i x3), some (ax_i x4), some (ax_i x5), some (ax_i x6), some (ax_i (x7 + (1 : Int32))), some (ax_i rr)]) dX12_marry_127 rfl rfl ki_1 (by decide) rfl rfl ?_
      refine ax_goto (tgt := 50) dX12_marry_130 (by decide) ?_
      refine ax_fg (lv2 := [some (ax_r 0), some (ax_i x1), some (ax_i x2), some (ax_i x3), some (ax_i x4), some (ax_i x5), some (ax_i x6), some (ax_i (x7 + (1 : Int32))), none]) ⟨rfl, rfl, rfl, rfl, rfl, rfl, rfl, rfl, trivial⟩ ?_
      exact (k2 c1 c2)
    · refine ax_bipush (q := 115) dX12_marry_113 rfl kb_10 ?_
      refine ax_iload (q := 117) dX12_marry_115 rfl rfl ?_
      refine ax_imul (q := 118) dX12_marry_117 rfl ?_
      refine ax_iload (q := 120) dX12_marry_118 rfl rfl ?_
      refine ax_iadd (q := 121) dX12_marry_120 rfl ?_
      refine ax_istore (q := 123) (lv2 := [some (ax_r 0), some (ax_i x1), some (ax_i x2), some (ax_i x3), some (ax_i (((10 : Int32) * x6) + x7)), some (ax_i x5), some (ax_i x6), some (ax_i x7), some (ax_i rr)]) dX12_marry_121 rfl (by decide) rfl rfl ?_
      refine ax_iload (q := 125) dX12_marry_123 rfl rfl ?_
      refine ax_istore (q := 127) (lv2 := [some (ax_r 0), some (ax_i x1), some (ax_i x2), some (ax_i x3), some (ax_i (((10 : Int32) * x6) + x7)), some (ax_i rr), some (ax_i x6), some (ax_i x7), some (ax_i rr)]) dX12_marry_125 rfl (by decide) rfl rfl ?_
      refine ax_iincK (q := 130) (lv2 := [some (ax_r 0), some (ax_i x1), some (ax_i x2), some (ax_i x3), some (ax_i (((10 : Int32) * x6) + x7)), some (ax_i rr), some (ax_i x6), some (ax_i (x7 + (1 : Int32))), some (ax_i rr)]) dX12_marry_127 rfl rfl ki_1 (by decide) rfl rfl ?_
      refine ax_goto (tgt := 50) dX12_marry_130 (by decide) ?_
      refine ax_fg (lv2 := [some (ax_r 0), some (ax_i x1), some (ax_i x2), some (ax_i x3), some (ax_i (((10 : Int32) * x6) + x7)), some (ax_i rr), some (ax_i x6), some (ax_i (x7 + (1 : Int32))), none]) ⟨rfl, rfl, rfl, rfl, rfl, rfl, rfl, rfl, trivial⟩ ?_
      exact (k3 c1 c2)
set_option maxRecDepth 20000 in
theorem s_X12_cutSet_0 {d : Nat} (hd : 0 ≤ d) {Q : Option ax_V → ax_S → Prop} (σ : ax_S) (a0 : Int32) (a1 : Int32) (k1 : ax_W shM (d + 1) mX12_cutSet Q 2 [some (ax_r 0), some (ax_i a0), some (ax_i a1), some (ax_i (0 : Int32))] [] σ) : ax_W shM (d + 1) mX12_cutSet Q 0 [some (ax_r 0), some (ax_i a0), some (ax_i a1), none] [] σ := by
  refine ax_iconst (q := 1) dX12_cutSet_0 rfl ki_0 ?_
  refine ax_istore_n (q := 2) (i := 3) (lv2 := [some (ax_r 0), some (ax_i a0), some (ax_i a1), some (ax_i (0 : Int32))]) dX12_cutSet_1 rfl rfl (by decide) rfl rfl ?_
  exact k1
set_option maxRecDepth 20000 in
theorem s_X12_cutSet_2 {d : Nat} (hd : 1 ≤ d) {Q : Option ax_V → ax_S → Prop} (σ : ax_S) (x1 : Int32) (x2 : Int32) (x3 : Int32) (k1 : ((σ.1 15 84) ≤ x3) → Q none σ) (k2 : (¬ ((σ.1 15 84) ≤ x3)) → (¬ (¬ (¬ ((x1 >>> (x3 &&& 31)) &&& (1 : Int32)) = (1 : Int32)))) → ax_W shM (d + 1) mX12_cutSet Q 2 [some (ax_r 0), some (ax_i x1), some (ax_i x2), some (ax_i (x3 + (1 : Int32)))] [] σ) (h3 : (¬ ((σ.1 15 84) ≤ x3)) → (¬ (¬ ((x1 >>> (x3 &&& 31)) &&& (1 : Int32)) = (1 : Int32))) → vp_in (((16 : Int32) + ((4 : Int32) * x3)) + (3 : Int32)) 268) (k4 : (¬ ((σ.1 15 84) ≤ x3)) → (¬ (¬ ((x1 >>> (x3 &&& 31)) &&& (1 : Int32)) = (1 : Int32))) → ax_W shM (d + 1) mX12_cutSet Q 2 [some (ax_r 0), some (ax_i x1), some (ax_i x2), some (ax_i (x3 + (1 : Int32)))] [] (ax_ui σ 15 (Int32.toNatClampNeg (((16 : Int32) + ((4 : Int32) * x3)) + (3 : Int32))) x2)) : ax_W shM (d + 1) mX12_cutSet Q 2 [some (ax_r 0), some (ax_i x1), some (ax_i x2), some (ax_i x3)] [] σ := by
  refine ax_iload_n (q := 3) (i := 3) dX12_cutSet_2 rfl rfl rfl ?_
  refine ax_aload_n (q := 4) (i := 0) dX12_cutSet_3 rfl rfl rfl ?_
  refine ax_get (q := 7) (k := 0) (j := 25) (v := ax_r 15) dX12_cutSet_4 rfl shM_0 rfl rfl rfl (by decide) fl_X12_52 ?_
  refine ax_bipush (q := 9) dX12_cutSet_7 rfl kb_84 ?_
  refine ax_iald (q := 10) (a := 84) (v := (σ.1 15 84)) dX12_cutSet_9 rfl shM_15 (ax_inl 84 268 (by decide) (by decide)) rfl rfl ?_
  refine ax_icmp_ge (tgt := 34) (q := 13) dX12_cutSet_10 (by decide) rfl (fun c1 => ?_) (fun c1 => ?_)
  · exact ax_vret dX12_cutSet_34 rfl (k1 c1)
  · refine ax_iload_n (q := 14) (i := 1) dX12_cutSet_13 rfl rfl rfl ?_
    refine ax_iload_n (q := 15) (i := 3) dX12_cutSet_14 rfl rfl rfl ?_
    refine ax_callSfi (q := 18) (As := [ax_i x1, ax_i x3]) (st := []) (x := (if (¬ (¬ ((x1 >>> (x3 &&& 31)) &&& (1 : Int32)) = (1 : Int32))) then (1 : Int32) else 0)) (σ2 := σ) dX12_cutSet_15 rfl lk_X12_234 rfl rfl (Nat.le_of_ble_eq_true rfl) (f_X12_has (sh := shM) σ x1 x3  (d := d) (by omega)) ?_
    refine ax_if_eqB (tgt := 28) (q := 21) dX12_cutSet_18 (by decide) rfl (fun c2 => ?_) (fun c2 => ?_)
    · refine ax_iincK (q := 31) (lv2 := [some (ax_r 0), some (ax_i x1), some (ax_i x2), some (ax_i (x3 + (1 : Int32)))]) dX12_cutSet_28 rfl rfl ki_1 (by decide) rfl rfl ?_
      refine ax_goto (tgt := 2) dX12_cutSet_31 (by decide) ?_
      exact (k2 c1 c2)
    · refine ax_aload_n (q := 22) (i := 0) dX12_cutSet_21 rfl rfl rfl ?_
      refine ax_iload_n (q := 23) (i := 3) dX12_cutSet_22 rfl rfl rfl ?_
      refine ax_iconst (q := 24) dX12_cutSet_23 rfl ki_3 ?_
      refine ax_iload_n (q := 25) (i := 2) dX12_cutSet_24 rfl rfl rfl ?_
      refine ax_callVfv (q := 28) (As := [ax_i x3, ax_i (3 : Int32), ax_i x2]) (st := []) (σ2 := (ax_ui σ 15 (Int32.toNatClampNeg (((16 : Int32) + ((4 : Int32) * x3)) + (3 : Int32))) x2)) dX12_cutSet_25 rfl lk_X12_302 shM_0 rfl rfl rfl rfl (Nat.le_of_ble_eq_true rfl) (f_X12_putWire σ x3 (3 : Int32) x2 (h3 c1 c2) (d := d) (by omega)) ?_
      refine ax_iincK (q := 31) (lv2 := [some (ax_r 0), some (ax_i x1), some (ax_i x2), some (ax_i (x3 + (1 : Int32)))]) dX12_cutSet_28 rfl rfl ki_1 (by decide) rfl rfl ?_
      refine ax_goto (tgt := 2) dX12_cutSet_31 (by decide) ?_
      exact (k4 c1 c2)
set_option maxRecDepth 20000 in
theorem s_X12_uncut_0 {d : Nat} (hd : 0 ≤ d) {Q : Option ax_V → ax_S → Prop} (σ : ax_S)  (k1 : ax_W shM (d + 1) mX12_uncut Q 4 [some (ax_r 0), some (ax_i (0 : Int32)), some (ax_i (0 : Int32))] [] σ) : ax_W shM (d + 1) mX12_uncut Q 0 [some (ax_r 0), none, none] [] σ := by
  refine ax_iconst (q := 1) dX12_uncut_0 rfl ki_0 ?_
  refine ax_istore_n (q := 2) (i := 1) (lv2 := [some (ax_r 0), some (ax_i (0 : Int32)), none]) dX12_uncut_1 rfl rfl (by decide) rfl rfl ?_
  refine ax_iconst (q := 3) dX12_uncut_2 rfl ki_0 ?_
  refine ax_istore_n (q := 4) (i := 2) (lv2 := [some (ax_r 0), some (ax_i (0 : Int32)), some (ax_i (0 : Int32))]) dX12_uncut_3 rfl rfl (by decide) rfl rfl ?_
  exact k1
set_option maxRecDepth 20000 in
theorem s_X12_uncut_4 {d : Nat} (hd : 1 ≤ d) {Q : Option ax_V → ax_S → Prop} (σ : ax_S) (x1 : Int32) (x2 : Int32) (k1 : ((σ.1 15 84) ≤ x2) → Q (some (ax_i x1)) σ) (h2 : (¬ ((σ.1 15 84) ≤ x2)) → vp_in (((16 : Int32) + ((4 : Int32) * x2)) + (3 : Int32)) 268) (k3 : (¬ ((σ.1 15 84) ≤ x2)) → ax_W shM (d + 1) mX12_uncut Q 4 [some (ax_r 0), some (ax_i (x1 ||| (if (¬ (σ.1 15 (Int32.toNatClampNeg (((16 : Int32) + ((4 : Int32) * x2)) + (3 : Int32)))) = 0) then (0 : Int32) else ((1 : Int32) <<< (x2 &&& 31))))), some (ax_i (x2 + (1 : Int32)))] [] σ) : ax_W shM (d + 1) mX12_uncut Q 4 [some (ax_r 0), some (ax_i x1), some (ax_i x2)] [] σ := by
  refine ax_iload_n (q := 5) (i := 2) dX12_uncut_4 rfl rfl rfl ?_
  refine ax_aload_n (q := 6) (i := 0) dX12_uncut_5 rfl rfl rfl ?_
  refine ax_get (q := 9) (k := 0) (j := 25) (v := ax_r 15) dX12_uncut_6 rfl shM_0 rfl rfl rfl (by decide) fl_X12_52 ?_
  refine ax_bipush (q := 11) dX12_uncut_9 rfl kb_84 ?_
  refine ax_iald (q := 12) (a := 84) (v := (σ.1 15 84)) dX12_uncut_11 rfl shM_15 (ax_inl 84 268 (by decide) (by decide)) rfl rfl ?_
  refine ax_icmp_ge (tgt := 40) (q := 15) dX12_uncut_12 (by decide) rfl (fun c1 => ?_) (fun c1 => ?_)
  · refine ax_iload_n (q := 41) (i := 1) dX12_uncut_40 rfl rfl rfl ?_
    exact ax_iret dX12_uncut_41 rfl rfl (k1 c1)
  · refine ax_iload_n (q := 16) (i := 1) dX12_uncut_15 rfl rfl rfl ?_
    refine ax_aload_n (q := 17) (i := 0) dX12_uncut_16 rfl rfl rfl ?_
    refine ax_iload_n (q := 18) (i := 2) dX12_uncut_17 rfl rfl rfl ?_
    refine ax_iconst (q := 19) dX12_uncut_18 rfl ki_3 ?_
    refine ax_callVfi (q := 22) (As := [ax_i x2, ax_i (3 : Int32)]) (st := [ax_i x1]) (x := (σ.1 15 (Int32.toNatClampNeg (((16 : Int32) + ((4 : Int32) * x2)) + (3 : Int32))))) (σ2 := σ) dX12_uncut_19 rfl lk_X12_306 shM_0 rfl rfl rfl rfl (Nat.le_of_ble_eq_true rfl) (f_X12_ofWire σ x2 (3 : Int32) (h2 c1) (d := d) (by omega)) ?_
    have K3 : ax_W shM (d + 1) mX12_uncut Q 32 [some (ax_r 0), some (ax_i x1), some (ax_i x2)] [ax_i (if (¬ (σ.1 15 (Int32.toNatClampNeg (((16 : Int32) + ((4 : Int32) * x2)) + (3 : Int32)))) = 0) then (0 : Int32) else ((1 : Int32) <<< (x2 &&& 31))), ax_i x1] σ := by
      refine ax_ior (q := 33) dX12_uncut_32 rfl ?_
      refine ax_istore_n (q := 34) (i := 1) (lv2 := [some (ax_r 0), some (ax_i (x1 ||| (if (¬ (σ.1 15 (Int32.toNatClampNeg (((16 : Int32) + ((4 : Int32) * x2)) + (3 : Int32)))) = 0) then (0 : Int32) else ((1 : Int32) <<< (x2 &&& 31))))), some (ax_i x2)]) dX12_uncut_33 rfl rfl (by decide) rfl rfl ?_
      refine ax_iincK (q := 37) (lv2 := [some (ax_r 0), some (ax_i (x1 ||| (if (¬ (σ.1 15 (Int32.toNatClampNeg (((16 : Int32) + ((4 : Int32) * x2)) + (3 : Int32)))) = 0) then (0 : Int32) else ((1 : Int32) <<< (x2 &&& 31))))), some (ax_i (x2 + (1 : Int32)))]) dX12_uncut_34 rfl rfl ki_1 (by decide) rfl rfl ?_
      refine ax_goto (tgt := 4) dX12_uncut_37 (by decide) ?_
      exact (k3 c1)
    refine ax_if_ne (tgt := 31) (q := 25) dX12_uncut_22 (by decide) rfl (fun c2 => ?_) (fun c2 => ?_)
    · refine ax_iconst (q := 32) dX12_uncut_31 rfl ki_0 ?_
      exact ax_cv (if_pos c2) K3
    · refine ax_iconst (q := 26) dX12_uncut_25 rfl ki_1 ?_
      refine ax_iload_n (q := 27) (i := 2) dX12_uncut_26 rfl rfl rfl ?_
      refine ax_ishl (q := 28) dX12_uncut_27 rfl ?_
      refine ax_goto (tgt := 32) dX12_uncut_28 (by decide) ?_
      exact ax_cv (if_neg c2) K3
set_option maxRecDepth 20000 in
theorem s_X12_parting_0 {d : Nat} (hd : 2 ≤ d) {Q : Option ax_V → ax_S → Prop} (σ : ax_S) (a0 : Int32) (a1 : Int32) (a2 : Int32) (k1 : (¬ ((¬ (a0 < (0 : Int32))) ∧ (¬ (((σ.1 0 23) - (1 : Int32)) < a0)))) → Q (some (ax_i (-1 : Int32))) σ) (k2 : ((¬ (a0 < (0 : Int32))) ∧ (¬ (((σ.1 0 23) - (1 : Int32)) < a0))) → (¬ ((¬ (a1 < (1 : Int32))) ∧ (¬ ((999 : Int32) < a1)))) → Q (some (ax_i (-1 : Int32))) σ) (k3 : ((¬ (a0 < (0 : Int32))) ∧ (¬ (((σ.1 0 23) - (1 : Int32)) < a0))) → ((¬ (a1 < (1 : Int32))) ∧ (¬ ((999 : Int32) < a1))) → ((¬ (a2 < (0 : Int32))) ∧ (¬ ((1 : Int32) < a2))) → ax_Ct shM d mX12_burnMany [ax_r 0, ax_i a0, ax_i a1] (fun r u => ∃ x : Int32, r = some (ax_i x) ∧ ax_W shM (d + 1) mX12_parting Q 35 [some (ax_r 0), some (ax_i a0), some (ax_i a1), some (ax_i a2), some (ax_i (0 : Int32)), none, none, none, none, none] (ax_i x :: []) u) σ) (k4 : ((¬ (a0 < (0 : Int32))) ∧ (¬ (((σ.1 0 23) - (1 : Int32)) < a0))) → ((¬ (a1 < (1 : Int32))) ∧ (¬ ((999 : Int32) < a1))) → (¬ ((¬ (a2 < (0 : Int32))) ∧ (¬ ((1 : Int32) < a2)))) → Q (some (ax_i (-1 : Int32))) σ) : ax_W shM (d + 1) mX12_parting Q 0 [some (ax_r 0), some (ax_i a0), some (ax_i a1), some (ax_i a2), none, none, none, none, none, none] [] σ := by
  refine ax_aload_n (q := 1) (i := 0) dX12_parting_0 rfl rfl rfl ?_
  refine ax_iload_n (q := 2) (i := 1) dX12_parting_1 rfl rfl rfl ?_
  refine ax_callVfi (q := 5) (As := [ax_i a0]) (st := []) (x := (if ((¬ (a0 < (0 : Int32))) ∧ (¬ (((σ.1 0 23) - (1 : Int32)) < a0))) then (1 : Int32) else 0)) (σ2 := σ) dX12_parting_2 rfl lk_X12_342 shM_0 rfl rfl rfl rfl (Nat.le_of_ble_eq_true rfl) (f_X12_isHouse σ a0  (d := d) (by omega)) ?_
  refine ax_if_eqB (tgt := 24) (q := 8) dX12_parting_5 (by decide) rfl (fun c1 => ?_) (fun c1 => ?_)
  · refine ax_iconst (q := 25) dX12_parting_24 rfl ki_m1 ?_
    exact ax_iret dX12_parting_25 rfl rfl (k1 c1)
  · refine ax_iload_n (q := 9) (i := 2) dX12_parting_8 rfl rfl rfl ?_
    refine ax_callSfi (q := 12) (As := [ax_i a1]) (st := []) (x := (if ((¬ (a1 < (1 : Int32))) ∧ (¬ ((999 : Int32) < a1))) then (1 : Int32) else 0)) (σ2 := σ) dX12_parting_9 rfl lk_X12_351 rfl rfl (Nat.le_of_ble_eq_true rfl) (f_X12_isForce (sh := shM) σ a1  (d := d) (by omega)) ?_
    refine ax_if_eqB (tgt := 24) (q := 15) dX12_parting_12 (by decide) rfl (fun c2 => ?_) (fun c2 => ?_)
    · refine ax_iconst (q := 25) dX12_parting_24 rfl ki_m1 ?_
      exact ax_iret dX12_parting_25 rfl rfl (k2 c1 c2)
    · refine ax_iload_n (q := 16) (i := 3) dX12_parting_15 rfl rfl rfl ?_
      refine ax_iconst (q := 17) dX12_parting_16 rfl ki_0 ?_
      refine ax_iconst (q := 18) dX12_parting_17 rfl ki_1 ?_
      refine ax_callSfi (q := 21) (As := [ax_i a2, ax_i (0 : Int32), ax_i (1 : Int32)]) (st := []) (x := (if ((¬ (a2 < (0 : Int32))) ∧ (¬ ((1 : Int32) < a2))) then (1 : Int32) else 0)) (σ2 := σ) dX12_parting_18 rfl lk_X12_223 rfl rfl (Nat.le_of_ble_eq_true rfl) (f_X12_in (sh := shM) σ a2 (0 : Int32) (1 : Int32)  (d := d) (by omega)) ?_
      refine ax_if_neB (tgt := 26) (q := 24) dX12_parting_21 (by decide) rfl (fun c3 => ?_) (fun c3 => ?_)
      · refine ax_iconst (q := 27) dX12_parting_26 rfl ki_0 ?_
        refine ax_istore (q := 29) (lv2 := [some (ax_r 0), some (ax_i a0), some (ax_i a1), some (ax_i a2), some (ax_i (0 : Int32)), none, none, none, none, none]) dX12_parting_27 rfl (by decide) rfl rfl ?_
        refine ax_aload_n (q := 30) (i := 0) dX12_parting_29 rfl rfl rfl ?_
        refine ax_iload_n (q := 31) (i := 1) dX12_parting_30 rfl rfl rfl ?_
        refine ax_iload_n (q := 32) (i := 2) dX12_parting_31 rfl rfl rfl ?_
        exact ax_callVci (q := 35) (As := [ax_i a0, ax_i a1]) (st := []) dX12_parting_32 rfl lk_X12_422 shM_0 rfl rfl rfl rfl (Nat.le_of_ble_eq_true rfl) (k3 c1 c2 c3)
      · refine ax_iconst (q := 25) dX12_parting_24 rfl ki_m1 ?_
        exact ax_iret dX12_parting_25 rfl rfl (k4 c1 c2 c3)
set_option maxRecDepth 20000 in
theorem s_X12_parting_35 {d : Nat} (hd : 0 ≤ d) {Q : Option ax_V → ax_S → Prop} (σ : ax_S) (x1 : Int32) (x2 : Int32) (x3 : Int32) (x4 : Int32) (rr : Int32) (k1 : ax_Ct shM d mX12_uncut [ax_r 0] (fun r u => ∃ x : Int32, r = some (ax_i x) ∧ ax_W shM (d + 1) mX12_parting Q 41 [some (ax_r 0), some (ax_i x1), some (ax_i x2), some (ax_i x3), some (ax_i x4), some (ax_i rr), none, none, none, none] (ax_i x :: []) u) σ) : ax_W shM (d + 1) mX12_parting Q 35 [some (ax_r 0), some (ax_i x1), some (ax_i x2), some (ax_i x3), some (ax_i x4), none, none, none, none, none] [ax_i rr] σ := by
  refine ax_istore (q := 37) (lv2 := [some (ax_r 0), some (ax_i x1), some (ax_i x2), some (ax_i x3), some (ax_i x4), some (ax_i rr), none, none, none, none]) dX12_parting_35 rfl (by decide) rfl rfl ?_
  refine ax_aload_n (q := 38) (i := 0) dX12_parting_37 rfl rfl rfl ?_
  exact ax_callVci (q := 41) (As := []) (st := []) dX12_parting_38 rfl lk_X12_425 shM_0 rfl rfl rfl rfl (Nat.le_of_ble_eq_true rfl) k1
set_option maxRecDepth 20000 in
theorem s_X12_parting_41 {d : Nat} (hd : 0 ≤ d) {Q : Option ax_V → ax_S → Prop} (σ : ax_S) (x1 : Int32) (x2 : Int32) (x3 : Int32) (x4 : Int32) (x5 : Int32) (rr : Int32) (k1 : ax_W shM (d + 1) mX12_parting Q 46 [some (ax_r 0), some (ax_i x1), some (ax_i x2), some (ax_i x3), some (ax_i x4), some (ax_i x5), some (ax_i rr), some (ax_i (1 : Int32)), none, none] [] σ) : ax_W shM (d + 1) mX12_parting Q 41 [some (ax_r 0), some (ax_i x1), some (ax_i x2), some (ax_i x3), some (ax_i x4), some (ax_i x5), none, none, none, none] [ax_i rr] σ := by
  refine ax_istore (q := 43) (lv2 := [some (ax_r 0), some (ax_i x1), some (ax_i x2), some (ax_i x3), some (ax_i x4), some (ax_i x5), some (ax_i rr), none, none, none]) dX12_parting_41 rfl (by decide) rfl rfl ?_
  refine ax_iconst (q := 44) dX12_parting_43 rfl ki_1 ?_
  refine ax_istore (q := 46) (lv2 := [some (ax_r 0), some (ax_i x1), some (ax_i x2), some (ax_i x3), some (ax_i x4), some (ax_i x5), some (ax_i rr), some (ax_i (1 : Int32)), none, none]) dX12_parting_44 rfl (by decide) rfl rfl ?_
  exact k1
set_option maxRecDepth 20000 in
theorem s_X12_parting_46 {d : Nat} (hd : 0 ≤ d) {Q : Option ax_V → ax_S → Prop} (σ : ax_S) (x1 : Int32) (x2 : Int32) (x3 : Int32) (x4 : Int32) (x5 : Int32) (x6 : Int32) (x7 : Int32) (k1 : ((2 : Int32) < x7) → Q (some (ax_i (if (¬ x3 = 0) then x5 else x4))) σ) (k2 : (¬ ((2 : Int32) < x7)) → ax_W shM (d + 1) mX12_parting Q 55 [some (ax_r 0), some (ax_i x1), some (ax_i x2), some (ax_i x3), some (ax_i x4), some (ax_i x5), some (ax_i x6), some (ax_i x7), some (ax_i (0 : Int32)), none] [] σ) : ax_W shM (d + 1) mX12_parting Q 46 [some (ax_r 0), some (ax_i x1), some (ax_i x2), some (ax_i x3), some (ax_i x4), some (ax_i x5), some (ax_i x6), some (ax_i x7), none, none] [] σ := by
  refine ax_iload (q := 48) dX12_parting_46 rfl rfl ?_
  refine ax_iconst (q := 49) dX12_parting_48 rfl ki_2 ?_
  refine ax_icmp_gt (tgt := 138) (q := 52) dX12_parting_49 (by decide) rfl (fun c1 => ?_) (fun c1 => ?_)
  · refine ax_iload_n (q := 139) (i := 3) dX12_parting_138 rfl rfl rfl ?_
    have K3 : ax_W shM (d + 1) mX12_parting Q 149 [some (ax_r 0), some (ax_i x1), some (ax_i x2), some (ax_i x3), some (ax_i x4), some (ax_i x5), some (ax_i x6), some (ax_i x7), none, none] [ax_i (if (¬ x3 = 0) then x5 else x4)] σ := by
      exact ax_iret dX12_parting_149 rfl rfl (k1 c1)
    refine ax_if_ne (tgt := 147) (q := 142) dX12_parting_139 (by decide) rfl (fun c2 => ?_) (fun c2 => ?_)
    · refine ax_iload (q := 149) dX12_parting_147 rfl rfl ?_
      exact ax_cv (if_pos c2) K3
    · refine ax_iload (q := 144) dX12_parting_142 rfl rfl ?_
      refine ax_goto (tgt := 149) dX12_parting_144 (by decide) ?_
      exact ax_cv (if_neg c2) K3
  · refine ax_iconst (q := 53) dX12_parting_52 rfl ki_0 ?_
    refine ax_istore (q := 55) (lv2 := [some (ax_r 0), some (ax_i x1), some (ax_i x2), some (ax_i x3), some (ax_i x4), some (ax_i x5), some (ax_i x6), some (ax_i x7), some (ax_i (0 : Int32)), none]) dX12_parting_53 rfl (by decide) rfl rfl ?_
    exact (k2 c1)
set_option maxRecDepth 20000 in
theorem s_X12_parting_55 {d : Nat} (hd : 1 ≤ d) {Q : Option ax_V → ax_S → Prop} (σ : ax_S) (x1 : Int32) (x2 : Int32) (x3 : Int32) (x4 : Int32) (x5 : Int32) (x6 : Int32) (x7 : Int32) (x8 : Int32) (k1 : (((1 : Int32) <<< ((σ.1 15 84) &&& 31)) ≤ x8) → ax_W shM (d + 1) mX12_parting Q 46 [some (ax_r 0), some (ax_i x1), some (ax_i x2), some (ax_i x3), some (ax_i x4), some (ax_i x5), some (ax_i x6), some (ax_i (x7 + (1 : Int32))), none, none] [] σ) (k2 : (¬ (((1 : Int32) <<< ((σ.1 15 84) &&& 31)) ≤ x8)) → (¬ (v_J6_bitCount_0f7a4 x8) = x7) → ax_W shM (d + 1) mX12_parting Q 55 [some (ax_r 0), some (ax_i x1), some (ax_i x2), some (ax_i x3), some (ax_i x4), some (ax_i x5), some (ax_i x6), some (ax_i x7), some (ax_i (x8 + (1 : Int32))), none] [] σ) (k3 : (¬ (((1 : Int32) <<< ((σ.1 15 84) &&& 31)) ≤ x8)) → (¬ (¬ (v_J6_bitCount_0f7a4 x8) = x7)) → (¬ (x8 &&& (x6 ^^^ (-1 : Int32))) = 0) → ax_W shM (d + 1) mX12_parting Q 55 [some (ax_r 0), some (ax_i x1), some (ax_i x2), some (ax_i x3), some (ax_i x4), some (ax_i x5), some (ax_i x6), some (ax_i x7), some (ax_i (x8 + (1 : Int32))), none] [] σ) (k4 : (¬ (((1 : Int32) <<< ((σ.1 15 84) &&& 31)) ≤ x8)) → (¬ (¬ (v_J6_bitCount_0f7a4 x8) = x7)) → (¬ (¬ (x8 &&& (x6 ^^^ (-1 : Int32))) = 0)) → ax_Ct shM d mX12_cutSet [ax_r 0, ax_i x8, ax_i (1 : Int32)] (fun r u => r = none ∧ ax_W shM (d + 1) mX12_parting Q 96 [some (ax_r 0), some (ax_i x1), some (ax_i x2), some (ax_i x3), some (ax_i x4), some (ax_i x5), some (ax_i x6), some (ax_i x7), some (ax_i x8), none] [] u) σ) : ax_W shM (d + 1) mX12_parting Q 55 [some (ax_r 0), some (ax_i x1), some (ax_i x2), some (ax_i x3), some (ax_i x4), some (ax_i x5), some (ax_i x6), some (ax_i x7), some (ax_i x8), none] [] σ := by
  refine ax_iload (q := 57) dX12_parting_55 rfl rfl ?_
  refine ax_iconst (q := 58) dX12_parting_57 rfl ki_1 ?_
  refine ax_aload_n (q := 59) (i := 0) dX12_parting_58 rfl rfl rfl ?_
  refine ax_get (q := 62) (k := 0) (j := 25) (v := ax_r 15) dX12_parting_59 rfl shM_0 rfl rfl rfl (by decide) fl_X12_52 ?_
  refine ax_bipush (q := 64) dX12_parting_62 rfl kb_84 ?_
  refine ax_iald (q := 65) (a := 84) (v := (σ.1 15 84)) dX12_parting_64 rfl shM_15 (ax_inl 84 268 (by decide) (by decide)) rfl rfl ?_
  refine ax_ishl (q := 66) dX12_parting_65 rfl ?_
  refine ax_icmp_ge (tgt := 132) (q := 69) dX12_parting_66 (by decide) rfl (fun c1 => ?_) (fun c1 => ?_)
  · refine ax_iincK (q := 135) (lv2 := [some (ax_r 0), some (ax_i x1), some (ax_i x2), some (ax_i x3), some (ax_i x4), some (ax_i x5), some (ax_i x6), some (ax_i (x7 + (1 : Int32))), some (ax_i x8), none]) dX12_parting_132 rfl rfl ki_1 (by decide) rfl rfl ?_
    refine ax_goto (tgt := 46) dX12_parting_135 (by decide) ?_
    refine ax_fg (lv2 := [some (ax_r 0), some (ax_i x1), some (ax_i x2), some (ax_i x3), some (ax_i x4), some (ax_i x5), some (ax_i x6), some (ax_i (x7 + (1 : Int32))), none, none]) ⟨rfl, rfl, rfl, rfl, rfl, rfl, rfl, rfl, trivial⟩ ?_
    exact (k1 c1)
  · refine ax_iload (q := 71) dX12_parting_69 rfl rfl ?_
    refine ax_callSfi (q := 74) (As := [ax_i x8]) (st := []) (x := (v_J6_bitCount_0f7a4 x8)) (σ2 := σ) dX12_parting_71 rfl lk_X12_417 rfl rfl (Nat.le_of_ble_eq_true rfl) (f_J6_bitCount_0f7a4 (sh := shM) σ x8  (d := d) (by omega)) ?_
    refine ax_iload (q := 76) dX12_parting_74 rfl rfl ?_
    refine ax_icmp_ne (tgt := 126) (q := 79) dX12_parting_76 (by decide) rfl (fun c2 => ?_) (fun c2 => ?_)
    · refine ax_iincK (q := 129) (lv2 := [some (ax_r 0), some (ax_i x1), some (ax_i x2), some (ax_i x3), some (ax_i x4), some (ax_i x5), some (ax_i x6), some (ax_i x7), some (ax_i (x8 + (1 : Int32))), none]) dX12_parting_126 rfl rfl ki_1 (by decide) rfl rfl ?_
      refine ax_goto (tgt := 55) dX12_parting_129 (by decide) ?_
      exact (k2 c1 c2)
    · refine ax_iload (q := 81) dX12_parting_79 rfl rfl ?_
      refine ax_iload (q := 83) dX12_parting_81 rfl rfl ?_
      refine ax_iconst (q := 84) dX12_parting_83 rfl ki_m1 ?_
      refine ax_ixor (q := 85) dX12_parting_84 rfl ?_
      refine ax_iand (q := 86) dX12_parting_85 rfl ?_
      refine ax_if_ne (tgt := 126) (q := 89) dX12_parting_86 (by decide) rfl (fun c3 => ?_) (fun c3 => ?_)
      · refine ax_iincK (q := 129) (lv2 := [some (ax_r 0), some (ax_i x1), some (ax_i x2), some (ax_i x3), some (ax_i x4), some (ax_i x5), some (ax_i x6), some (ax_i x7), some (ax_i (x8 + (1 : Int32))), none]) dX12_parting_126 rfl rfl ki_1 (by decide) rfl rfl ?_
        refine ax_goto (tgt := 55) dX12_parting_129 (by decide) ?_
        exact (k3 c1 c2 c3)
      · refine ax_aload_n (q := 90) (i := 0) dX12_parting_89 rfl rfl rfl ?_
        refine ax_iload (q := 92) dX12_parting_90 rfl rfl ?_
        refine ax_iconst (q := 93) dX12_parting_92 rfl ki_1 ?_
        exact ax_callVcv (q := 96) (As := [ax_i x8, ax_i (1 : Int32)]) (st := []) dX12_parting_93 rfl lk_X12_428 shM_0 rfl rfl rfl rfl (Nat.le_of_ble_eq_true rfl) (k4 c1 c2 c3)
set_option maxRecDepth 20000 in
theorem s_X12_parting_96 {d : Nat} (hd : 0 ≤ d) {Q : Option ax_V → ax_S → Prop} (σ : ax_S) (x1 : Int32) (x2 : Int32) (x3 : Int32) (x4 : Int32) (x5 : Int32) (x6 : Int32) (x7 : Int32) (x8 : Int32) (k1 : ax_Ct shM d mX12_burnMany [ax_r 0, ax_i x1, ax_i x2] (fun r u => ∃ x : Int32, r = some (ax_i x) ∧ ax_W shM (d + 1) mX12_parting Q 102 [some (ax_r 0), some (ax_i x1), some (ax_i x2), some (ax_i x3), some (ax_i x4), some (ax_i x5), some (ax_i x6), some (ax_i x7), some (ax_i x8), none] (ax_i x :: []) u) σ) : ax_W shM (d + 1) mX12_parting Q 96 [some (ax_r 0), some (ax_i x1), some (ax_i x2), some (ax_i x3), some (ax_i x4), some (ax_i x5), some (ax_i x6), some (ax_i x7), some (ax_i x8), none] [] σ := by
  refine ax_aload_n (q := 97) (i := 0) dX12_parting_96 rfl rfl rfl ?_
  refine ax_iload_n (q := 98) (i := 1) dX12_parting_97 rfl rfl rfl ?_
  refine ax_iload_n (q := 99) (i := 2) dX12_parting_98 rfl rfl rfl ?_
  exact ax_callVci (q := 102) (As := [ax_i x1, ax_i x2]) (st := []) dX12_parting_99 rfl lk_X12_422 shM_0 rfl rfl rfl rfl (Nat.le_of_ble_eq_true rfl) k1
set_option maxRecDepth 20000 in
theorem s_X12_parting_102 {d : Nat} (hd : 0 ≤ d) {Q : Option ax_V → ax_S → Prop} (σ : ax_S) (x1 : Int32) (x2 : Int32) (x3 : Int32) (x4 : Int32) (x5 : Int32) (x6 : Int32) (x7 : Int32) (x8 : Int32) (rr : Int32) (k1 : ax_Ct shM d mX12_cutSet [ax_r 0, ax_i x8, ax_i (0 : Int32)] (fun r u => r = none ∧ ax_W shM (d + 1) mX12_parting Q 111 [some (ax_r 0), some (ax_i x1), some (ax_i x2), some (ax_i x3), some (ax_i x4), some (ax_i x5), some (ax_i x6), some (ax_i x7), some (ax_i x8), some (ax_i rr)] [] u) σ) : ax_W shM (d + 1) mX12_parting Q 102 [some (ax_r 0), some (ax_i x1), some (ax_i x2), some (ax_i x3), some (ax_i x4), some (ax_i x5), some (ax_i x6), some (ax_i x7), some (ax_i x8), none] [ax_i rr] σ := by
  refine ax_istore (q := 104) (lv2 := [some (ax_r 0), some (ax_i x1), some (ax_i x2), some (ax_i x3), some (ax_i x4), some (ax_i x5), some (ax_i x6), some (ax_i x7), some (ax_i x8), some (ax_i rr)]) dX12_parting_102 rfl (by decide) rfl rfl ?_
  refine ax_aload_n (q := 105) (i := 0) dX12_parting_104 rfl rfl rfl ?_
  refine ax_iload (q := 107) dX12_parting_105 rfl rfl ?_
  refine ax_iconst (q := 108) dX12_parting_107 rfl ki_0 ?_
  exact ax_callVcv (q := 111) (As := [ax_i x8, ax_i (0 : Int32)]) (st := []) dX12_parting_108 rfl lk_X12_428 shM_0 rfl rfl rfl rfl (Nat.le_of_ble_eq_true rfl) k1
set_option maxRecDepth 20000 in
theorem s_X12_parting_111 {d : Nat} (hd : 0 ≤ d) {Q : Option ax_V → ax_S → Prop} (σ : ax_S) (x1 : Int32) (x2 : Int32) (x3 : Int32) (x4 : Int32) (x5 : Int32) (x6 : Int32) (x7 : Int32) (x8 : Int32) (x9 : Int32) (k1 : (x5 ≤ x9) → ax_W shM (d + 1) mX12_parting Q 55 [some (ax_r 0), some (ax_i x1), some (ax_i x2), some (ax_i x3), some (ax_i x4), some (ax_i x5), some (ax_i x6), some (ax_i x7), some (ax_i (x8 + (1 : Int32))), none] [] σ) (k2 : (¬ (x5 ≤ x9)) → ax_W shM (d + 1) mX12_parting Q 55 [some (ax_r 0), some (ax_i x1), some (ax_i x2), some (ax_i x3), some (ax_i x8), some (ax_i x9), some (ax_i x6), some (ax_i x7), some (ax_i (x8 + (1 : Int32))), none] [] σ) : ax_W shM (d + 1) mX12_parting Q 111 [some (ax_r 0), some (ax_i x1), some (ax_i x2), some (ax_i x3), some (ax_i x4), some (ax_i x5), some (ax_i x6), some (ax_i x7), some (ax_i x8), some (ax_i x9)] [] σ := by
  refine ax_iload (q := 113) dX12_parting_111 rfl rfl ?_
  refine ax_iload (q := 115) dX12_parting_113 rfl rfl ?_
  refine ax_icmp_ge (tgt := 126) (q := 118) dX12_parting_115 (by decide) rfl (fun c1 => ?_) (fun c1 => ?_)
  · refine ax_iincK (q := 129) (lv2 := [some (ax_r 0), some (ax_i x1), some (ax_i x2), some (ax_i x3), some (ax_i x4), some (ax_i x5), some (ax_i x6), some (ax_i x7), some (ax_i (x8 + (1 : Int32))), some (ax_i x9)]) dX12_parting_126 rfl rfl ki_1 (by decide) rfl rfl ?_
    refine ax_goto (tgt := 55) dX12_parting_129 (by decide) ?_
    refine ax_fg (lv2 := [some (ax_r 0), some (ax_i x1), some (ax_i x2), some (ax_i x3), some (ax_i x4), some (ax_i x5), some (ax_i x6), some (ax_i x7), some (ax_i (x8 + (1 : Int32))), none]) ⟨rfl, rfl, rfl, rfl, rfl, rfl, rfl, rfl, rfl, trivial⟩ ?_
    exact (k1 c1)
  · refine ax_iload (q := 120) dX12_parting_118 rfl rfl ?_
    refine ax_istore (q := 122) (lv2 := [some (ax_r 0), some (ax_i x1), some (ax_i x2), some (ax_i x3), some (ax_i x8), some (ax_i x5), some (ax_i x6), some (ax_i x7), some (ax_i x8), some (ax_i x9)]) dX12_parting_120 rfl (by decide) rfl rfl ?_
    refine ax_iload (q := 124) dX12_parting_122 rfl rfl ?_
    refine ax_istore (q := 126) (lv2 := [some (ax_r 0), some (ax_i x1), some (ax_i x2), some (ax_i x3), some (ax_i x8), some (ax_i x9), some (ax_i x6), some (ax_i x7), some (ax_i x8), some (ax_i x9)]) dX12_parting_124 rfl (by decide) rfl rfl ?_
    refine ax_iincK (q := 129) (lv2 := [some (ax_r 0), some (ax_i x1), some (ax_i x2), some (ax_i x3), some (ax_i x8), some (ax_i x9), some (ax_i x6), some (ax_i x7), some (ax_i (x8 + (1 : Int32))), some (ax_i x9)]) dX12_parting_126 rfl rfl ki_1 (by decide) rfl rfl ?_
    refine ax_goto (tgt := 55) dX12_parting_129 (by decide) ?_
    refine ax_fg (lv2 := [some (ax_r 0), some (ax_i x1), some (ax_i x2), some (ax_i x3), some (ax_i x8), some (ax_i x9), some (ax_i x6), some (ax_i x7), some (ax_i (x8 + (1 : Int32))), none]) ⟨rfl, rfl, rfl, rfl, rfl, rfl, rfl, rfl, rfl, trivial⟩ ?_
    exact (k2 c1)
set_option maxRecDepth 20000 in
theorem s_X12_weakBy_0 {d : Nat} (hd : 0 ≤ d) {Q : Option ax_V → ax_S → Prop} (σ : ax_S) (a0 : Int32) (k1 : ax_W shM (d + 1) mX12_weakBy Q 2 [some (ax_r 0), some (ax_i a0), some (ax_i (0 : Int32))] [] σ) : ax_W shM (d + 1) mX12_weakBy Q 0 [some (ax_r 0), some (ax_i a0), none] [] σ := by
  refine ax_iconst (q := 1) dX12_weakBy_0 rfl ki_0 ?_
  refine ax_istore_n (q := 2) (i := 2) (lv2 := [some (ax_r 0), some (ax_i a0), some (ax_i (0 : Int32))]) dX12_weakBy_1 rfl rfl (by decide) rfl rfl ?_
  exact k1
set_option maxRecDepth 20000 in
theorem s_X12_weakBy_2 {d : Nat} (hd : 0 ≤ d) {Q : Option ax_V → ax_S → Prop} (σ : ax_S) (x1 : Int32) (x2 : Int32) (k1 : ((σ.1 0 23) ≤ x2) → Q (some (ax_i (-1 : Int32))) σ) (k2 : (¬ ((σ.1 0 23) ≤ x2)) → ax_Ct shM d mX12_burningBy [ax_r 0, ax_i x2, ax_i x1] (fun r u => ∃ x : Int32, r = some (ax_i x) ∧ ax_W shM (d + 1) mX12_weakBy Q 16 [some (ax_r 0), some (ax_i x1), some (ax_i x2)] (ax_i x :: []) u) σ) : ax_W shM (d + 1) mX12_weakBy Q 2 [some (ax_r 0), some (ax_i x1), some (ax_i x2)] [] σ := by
  refine ax_iload_n (q := 3) (i := 2) dX12_weakBy_2 rfl rfl rfl ?_
  refine ax_aload_n (q := 4) (i := 0) dX12_weakBy_3 rfl rfl rfl ?_
  refine ax_get (q := 7) (k := 0) (j := 23) (v := ax_i (σ.1 0 23)) dX12_weakBy_4 rfl shM_0 rfl rfl rfl (by decide) fl_X12_271 ?_
  refine ax_icmp_ge (tgt := 27) (q := 10) dX12_weakBy_7 (by decide) rfl (fun c1 => ?_) (fun c1 => ?_)
  · refine ax_iconst (q := 28) dX12_weakBy_27 rfl ki_m1 ?_
    exact ax_iret dX12_weakBy_28 rfl rfl (k1 c1)
  · refine ax_aload_n (q := 11) (i := 0) dX12_weakBy_10 rfl rfl rfl ?_
    refine ax_iload_n (q := 12) (i := 2) dX12_weakBy_11 rfl rfl rfl ?_
    refine ax_iload_n (q := 13) (i := 1) dX12_weakBy_12 rfl rfl rfl ?_
    exact ax_callVci (q := 16) (As := [ax_i x2, ax_i x1]) (st := []) dX12_weakBy_13 rfl lk_X12_348 shM_0 rfl rfl rfl rfl (Nat.le_of_ble_eq_true rfl) (k2 c1)
set_option maxRecDepth 20000 in
theorem s_X12_weakBy_16 {d : Nat} (hd : 0 ≤ d) {Q : Option ax_V → ax_S → Prop} (σ : ax_S) (x1 : Int32) (x2 : Int32) (rr : Int32) (k1 : (rr = 0) → ax_W shM (d + 1) mX12_weakBy Q 2 [some (ax_r 0), some (ax_i x1), some (ax_i (x2 + (1 : Int32)))] [] σ) (k2 : (¬ (rr = 0)) → Q (some (ax_i x2)) σ) : ax_W shM (d + 1) mX12_weakBy Q 16 [some (ax_r 0), some (ax_i x1), some (ax_i x2)] [ax_i rr] σ := by
  refine ax_if_eq (tgt := 21) (q := 19) dX12_weakBy_16 (by decide) rfl (fun c1 => ?_) (fun c1 => ?_)
  · refine ax_iincK (q := 24) (lv2 := [some (ax_r 0), some (ax_i x1), some (ax_i (x2 + (1 : Int32)))]) dX12_weakBy_21 rfl rfl ki_1 (by decide) rfl rfl ?_
    refine ax_goto (tgt := 2) dX12_weakBy_24 (by decide) ?_
    exact (k1 c1)
  · refine ax_iload_n (q := 20) (i := 2) dX12_weakBy_19 rfl rfl rfl ?_
    exact ax_iret dX12_weakBy_20 rfl rfl (k2 c1)
set_option maxRecDepth 20000 in
theorem s_X12_standsOf_0 {d : Nat} (hd : 0 ≤ d) {Q : Option ax_V → ax_S → Prop} (σ : ax_S)  (k1 : ax_W shM (d + 1) mX12_standsOf Q 2 [some (ax_r 0), some (ax_i (0 : Int32))] [] σ) : ax_W shM (d + 1) mX12_standsOf Q 0 [some (ax_r 0), none] [] σ := by
  refine ax_iconst (q := 1) dX12_standsOf_0 rfl ki_0 ?_
  refine ax_istore_n (q := 2) (i := 1) (lv2 := [some (ax_r 0), some (ax_i (0 : Int32))]) dX12_standsOf_1 rfl rfl (by decide) rfl rfl ?_
  exact k1
set_option maxRecDepth 20000 in
theorem s_X12_standsOf_2 {d : Nat} (hd : 0 ≤ d) {Q : Option ax_V → ax_S → Prop} (σ : ax_S) (x1 : Int32) (k1 : ((999 : Int32) ≤ x1) → Q (some (ax_i x1)) σ) (k2 : (¬ ((999 : Int32) ≤ x1)) → ax_Ct shM d mX12_weakBy [ax_r 0, ax_i (x1 + (1 : Int32))] (fun r u => ∃ x : Int32, r = some (ax_i x) ∧ ax_W shM (d + 1) mX12_standsOf Q 16 [some (ax_r 0), some (ax_i x1)] (ax_i x :: []) u) σ) : ax_W shM (d + 1) mX12_standsOf Q 2 [some (ax_r 0), some (ax_i x1)] [] σ := by
  refine ax_iload_n (q := 3) (i := 1) dX12_standsOf_2 rfl rfl rfl ?_
  refine ax_sipush (q := 6) dX12_standsOf_3 rfl ks_999 ?_
  refine ax_icmp_ge (tgt := 26) (q := 9) dX12_standsOf_6 (by decide) rfl (fun c1 => ?_) (fun c1 => ?_)
  · refine ax_iload_n (q := 27) (i := 1) dX12_standsOf_26 rfl rfl rfl ?_
    exact ax_iret dX12_standsOf_27 rfl rfl (k1 c1)
  · refine ax_aload_n (q := 10) (i := 0) dX12_standsOf_9 rfl rfl rfl ?_
    refine ax_iload_n (q := 11) (i := 1) dX12_standsOf_10 rfl rfl rfl ?_
    refine ax_iconst (q := 12) dX12_standsOf_11 rfl ki_1 ?_
    refine ax_iadd (q := 13) dX12_standsOf_12 rfl ?_
    exact ax_callVci (q := 16) (As := [ax_i (x1 + (1 : Int32))]) (st := []) dX12_standsOf_13 rfl lk_X12_431 shM_0 rfl rfl rfl rfl (Nat.le_of_ble_eq_true rfl) (k2 c1)
set_option maxRecDepth 20000 in
theorem s_X12_standsOf_16 {d : Nat} (hd : 0 ≤ d) {Q : Option ax_V → ax_S → Prop} (σ : ax_S) (x1 : Int32) (rr : Int32) (k1 : (¬ rr = (-1 : Int32)) → Q (some (ax_i x1)) σ) (k2 : (¬ (¬ rr = (-1 : Int32))) → ax_W shM (d + 1) mX12_standsOf Q 2 [some (ax_r 0), some (ax_i (x1 + (1 : Int32)))] [] σ) : ax_W shM (d + 1) mX12_standsOf Q 16 [some (ax_r 0), some (ax_i x1)] [ax_i rr] σ := by
  refine ax_iconst (q := 17) dX12_standsOf_16 rfl ki_m1 ?_
  refine ax_icmp_ne (tgt := 26) (q := 20) dX12_standsOf_17 (by decide) rfl (fun c1 => ?_) (fun c1 => ?_)
  · refine ax_iload_n (q := 27) (i := 1) dX12_standsOf_26 rfl rfl rfl ?_
    exact ax_iret dX12_standsOf_27 rfl rfl (k1 c1)
  · refine ax_iincK (q := 23) (lv2 := [some (ax_r 0), some (ax_i (x1 + (1 : Int32)))]) dX12_standsOf_20 rfl rfl ki_1 (by decide) rfl rfl ?_
    refine ax_goto (tgt := 2) dX12_standsOf_23 (by decide) ?_
    exact (k2 c1)
set_option maxRecDepth 20000 in
theorem s_X12_stands_0 {d : Nat} (hd : 1 ≤ d) {Q : Option ax_V → ax_S → Prop} (σ : ax_S) (a0 : Int32) (k1 : ((σ.1 0 23) = 0) → Q (some (ax_i (-1 : Int32))) σ) (k2 : (¬ ((σ.1 0 23) = 0)) → ((¬ (a0 < (0 : Int32))) ∧ (¬ ((1 : Int32) < a0))) → ax_Ct shM d mX12_standsOf [ax_r 0] (fun r u => ∃ x : Int32, r = some (ax_i x) ∧ ax_W shM (d + 1) mX12_stands Q 22 [some (ax_r 0), some (ax_i a0), none] (ax_i x :: []) u) σ) (k3 : (¬ ((σ.1 0 23) = 0)) → (¬ ((¬ (a0 < (0 : Int32))) ∧ (¬ ((1 : Int32) < a0)))) → Q (some (ax_i (-1 : Int32))) σ) : ax_W shM (d + 1) mX12_stands Q 0 [some (ax_r 0), some (ax_i a0), none] [] σ := by
  refine ax_aload_n (q := 1) (i := 0) dX12_stands_0 rfl rfl rfl ?_
  refine ax_get (q := 4) (k := 0) (j := 23) (v := ax_i (σ.1 0 23)) dX12_stands_1 rfl shM_0 rfl rfl rfl (by decide) fl_X12_271 ?_
  refine ax_if_eq (tgt := 16) (q := 7) dX12_stands_4 (by decide) rfl (fun c1 => ?_) (fun c1 => ?_)
  · refine ax_iconst (q := 17) dX12_stands_16 rfl ki_m1 ?_
    exact ax_iret dX12_stands_17 rfl rfl (k1 c1)
  · refine ax_iload_n (q := 8) (i := 1) dX12_stands_7 rfl rfl rfl ?_
    refine ax_iconst (q := 9) dX12_stands_8 rfl ki_0 ?_
    refine ax_iconst (q := 10) dX12_stands_9 rfl ki_1 ?_
    refine ax_callSfi (q := 13) (As := [ax_i a0, ax_i (0 : Int32), ax_i (1 : Int32)]) (st := []) (x := (if ((¬ (a0 < (0 : Int32))) ∧ (¬ ((1 : Int32) < a0))) then (1 : Int32) else 0)) (σ2 := σ) dX12_stands_10 rfl lk_X12_223 rfl rfl (Nat.le_of_ble_eq_true rfl) (f_X12_in (sh := shM) σ a0 (0 : Int32) (1 : Int32)  (d := d) (by omega)) ?_
    refine ax_if_neB (tgt := 18) (q := 16) dX12_stands_13 (by decide) rfl (fun c2 => ?_) (fun c2 => ?_)
    · refine ax_aload_n (q := 19) (i := 0) dX12_stands_18 rfl rfl rfl ?_
      exact ax_callVci (q := 22) (As := []) (st := []) dX12_stands_19 rfl lk_X12_434 shM_0 rfl rfl rfl rfl (Nat.le_of_ble_eq_true rfl) (k2 c1 c2)
    · refine ax_iconst (q := 17) dX12_stands_16 rfl ki_m1 ?_
      exact ax_iret dX12_stands_17 rfl rfl (k3 c1 c2)
set_option maxRecDepth 20000 in
theorem s_X12_stands_22 {d : Nat} (hd : 0 ≤ d) {Q : Option ax_V → ax_S → Prop} (σ : ax_S) (x1 : Int32) (rr : Int32) (k1 : (¬ x1 = 0) → (¬ rr = (999 : Int32)) → ax_Ct shM d mX12_weakBy [ax_r 0, ax_i (rr + (1 : Int32))] (fun r u => ∃ x : Int32, r = some (ax_i x) ∧ ax_W shM (d + 1) mX12_stands Q 49 [none, none, none] (ax_i x :: []) u) σ) (k2 : (¬ x1 = 0) → (¬ (¬ rr = (999 : Int32))) → Q (some (ax_i (-1 : Int32))) σ) (k3 : (¬ (¬ x1 = 0)) → Q (some (ax_i rr)) σ) : ax_W shM (d + 1) mX12_stands Q 22 [some (ax_r 0), some (ax_i x1), none] [ax_i rr] σ := by
  refine ax_istore_n (q := 23) (i := 2) (lv2 := [some (ax_r 0), some (ax_i x1), some (ax_i rr)]) dX12_stands_22 rfl rfl (by decide) rfl rfl ?_
  refine ax_iload_n (q := 24) (i := 1) dX12_stands_23 rfl rfl rfl ?_
  refine ax_if_ne (tgt := 31) (q := 27) dX12_stands_24 (by decide) rfl (fun c1 => ?_) (fun c1 => ?_)
  · refine ax_iload_n (q := 32) (i := 2) dX12_stands_31 rfl rfl rfl ?_
    refine ax_sipush (q := 35) dX12_stands_32 rfl ks_999 ?_
    refine ax_icmp_ne (tgt := 42) (q := 38) dX12_stands_35 (by decide) rfl (fun c2 => ?_) (fun c2 => ?_)
    · refine ax_aload_n (q := 43) (i := 0) dX12_stands_42 rfl rfl rfl ?_
      refine ax_iload_n (q := 44) (i := 2) dX12_stands_43 rfl rfl rfl ?_
      refine ax_iconst (q := 45) dX12_stands_44 rfl ki_1 ?_
      refine ax_iadd (q := 46) dX12_stands_45 rfl ?_
      refine ax_fg (lv2 := [none, none, none]) trivial ?_
      exact ax_callVci (q := 49) (As := [ax_i (rr + (1 : Int32))]) (st := []) dX12_stands_46 rfl lk_X12_431 shM_0 rfl rfl rfl rfl (Nat.le_of_ble_eq_true rfl) (k1 c1 c2)
    · refine ax_iconst (q := 39) dX12_stands_38 rfl ki_m1 ?_
      refine ax_goto (tgt := 49) dX12_stands_39 (by decide) ?_
      exact ax_iret dX12_stands_49 rfl rfl (k2 c1 c2)
  · refine ax_iload_n (q := 28) (i := 2) dX12_stands_27 rfl rfl rfl ?_
    refine ax_goto (tgt := 49) dX12_stands_28 (by decide) ?_
    exact ax_iret dX12_stands_49 rfl rfl (k3 c1)
set_option maxRecDepth 20000 in
theorem s_X12_stands_49 {d : Nat} (hd : 0 ≤ d) {Q : Option ax_V → ax_S → Prop} (σ : ax_S) (rr : Int32) (k1 : Q (some (ax_i rr)) σ) : ax_W shM (d + 1) mX12_stands Q 49 [none, none, none] [ax_i rr] σ := by
  exact ax_iret dX12_stands_49 rfl rfl k1
set_option maxRecDepth 20000 in
theorem s_X12_earth_0 {d : Nat} (hd : 0 ≤ d) {Q : Option ax_V → ax_S → Prop} (σ : ax_S)  (k1 : ax_W shM (d + 1) mX12_earth Q 6 [some (ax_r 0), some (ax_i (-1 : Int32)), some (ax_i (0 : Int32)), some (ax_i (0 : Int32)), none, none] [] σ) : ax_W shM (d + 1) mX12_earth Q 0 [some (ax_r 0), none, none, none, none, none] [] σ := by
  refine ax_iconst (q := 1) dX12_earth_0 rfl ki_m1 ?_
  refine ax_istore_n (q := 2) (i := 1) (lv2 := [some (ax_r 0), some (ax_i (-1 : Int32)), none, none, none, none]) dX12_earth_1 rfl rfl (by decide) rfl rfl ?_
  refine ax_iconst (q := 3) dX12_earth_2 rfl ki_0 ?_
  refine ax_istore_n (q := 4) (i := 2) (lv2 := [some (ax_r 0), some (ax_i (-1 : Int32)), some (ax_i (0 : Int32)), none, none, none]) dX12_earth_3 rfl rfl (by decide) rfl rfl ?_
  refine ax_iconst (q := 5) dX12_earth_4 rfl ki_0 ?_
  refine ax_istore_n (q := 6) (i := 3) (lv2 := [some (ax_r 0), some (ax_i (-1 : Int32)), some (ax_i (0 : Int32)), some (ax_i (0 : Int32)), none, none]) dX12_earth_5 rfl rfl (by decide) rfl rfl ?_
  exact k1
set_option maxRecDepth 20000 in
theorem s_X12_earth_6 {d : Nat} (hd : 0 ≤ d) {Q : Option ax_V → ax_S → Prop} (σ : ax_S) (x1 : Int32) (x2 : Int32) (x3 : Int32) (k1 : ((σ.1 0 23) ≤ x3) → Q (some (ax_i x1)) σ) (h2 : (¬ ((σ.1 0 23) ≤ x3)) → vp_in ((0 : Int32) + x3) 268) (k3 : (¬ ((σ.1 0 23) ≤ x3)) → ax_Ct shM d mX12_standsOf [ax_r 0] (fun r u => ∃ x : Int32, r = some (ax_i x) ∧ ax_W shM (d + 1) mX12_earth Q 46 [some (ax_r 0), some (ax_i x1), some (ax_i x2), some (ax_i x3), some (ax_i (σ.1 15 (Int32.toNatClampNeg ((0 : Int32) + x3)))), none] (ax_i x :: []) u) (ax_ui σ 15 (Int32.toNatClampNeg ((0 : Int32) + x3)) (if ((σ.1 15 (Int32.toNatClampNeg ((0 : Int32) + x3))) + (10 : Int32)) < (99 : Int32) then ((σ.1 15 (Int32.toNatClampNeg ((0 : Int32) + x3))) + (10 : Int32)) else (99 : Int32)))) : ax_W shM (d + 1) mX12_earth Q 6 [some (ax_r 0), some (ax_i x1), some (ax_i x2), some (ax_i x3), none, none] [] σ := by
  refine ax_iload_n (q := 7) (i := 3) dX12_earth_6 rfl rfl rfl ?_
  refine ax_aload_n (q := 8) (i := 0) dX12_earth_7 rfl rfl rfl ?_
  refine ax_get (q := 11) (k := 0) (j := 23) (v := ax_i (σ.1 0 23)) dX12_earth_8 rfl shM_0 rfl rfl rfl (by decide) fl_X12_271 ?_
  refine ax_icmp_ge (tgt := 80) (q := 14) dX12_earth_11 (by decide) rfl (fun c1 => ?_) (fun c1 => ?_)
  · refine ax_iload_n (q := 81) (i := 1) dX12_earth_80 rfl rfl rfl ?_
    exact ax_iret dX12_earth_81 rfl rfl (k1 c1)
  · refine ax_aload_n (q := 15) (i := 0) dX12_earth_14 rfl rfl rfl ?_
    refine ax_get (q := 18) (k := 0) (j := 25) (v := ax_r 15) dX12_earth_15 rfl shM_0 rfl rfl rfl (by decide) fl_X12_52 ?_
    refine ax_iconst (q := 19) dX12_earth_18 rfl ki_0 ?_
    refine ax_iload_n (q := 20) (i := 3) dX12_earth_19 rfl rfl rfl ?_
    refine ax_iadd (q := 21) dX12_earth_20 rfl ?_
    refine ax_iald (q := 22) (a := (Int32.toNatClampNeg ((0 : Int32) + x3))) (v := (σ.1 15 (Int32.toNatClampNeg ((0 : Int32) + x3)))) dX12_earth_21 rfl shM_15 (h2 c1) rfl rfl ?_
    refine ax_istore (q := 24) (lv2 := [some (ax_r 0), some (ax_i x1), some (ax_i x2), some (ax_i x3), some (ax_i (σ.1 15 (Int32.toNatClampNeg ((0 : Int32) + x3)))), none]) dX12_earth_22 rfl (by decide) rfl rfl ?_
    refine ax_aload_n (q := 25) (i := 0) dX12_earth_24 rfl rfl rfl ?_
    refine ax_get (q := 28) (k := 0) (j := 25) (v := ax_r 15) dX12_earth_25 rfl shM_0 rfl rfl rfl (by decide) fl_X12_52 ?_
    refine ax_iconst (q := 29) dX12_earth_28 rfl ki_0 ?_
    refine ax_iload_n (q := 30) (i := 3) dX12_earth_29 rfl rfl rfl ?_
    refine ax_iadd (q := 31) dX12_earth_30 rfl ?_
    refine ax_bipush (q := 33) dX12_earth_31 rfl kb_99 ?_
    refine ax_iload (q := 35) dX12_earth_33 rfl rfl ?_
    refine ax_bipush (q := 37) dX12_earth_35 rfl kb_10 ?_
    refine ax_iadd (q := 38) dX12_earth_37 rfl ?_
    refine ax_mmin (q := 41) dX12_earth_38 rfl mk_X12_253 (Nat.le_of_ble_eq_true rfl) ?_
    refine ax_iast (q := 42) (a := (Int32.toNatClampNeg ((0 : Int32) + x3))) dX12_earth_41 rfl shM_15 (h2 c1) rfl ?_
    refine ax_aload_n (q := 43) (i := 0) dX12_earth_42 rfl rfl rfl ?_
    exact ax_callVci (q := 46) (As := []) (st := []) dX12_earth_43 rfl lk_X12_434 shM_0 rfl rfl rfl rfl (Nat.le_of_ble_eq_true rfl) (k3 c1)
set_option maxRecDepth 20000 in
theorem s_X12_earth_46 {d : Nat} (hd : 0 ≤ d) {Q : Option ax_V → ax_S → Prop} (σ : ax_S) (x1 : Int32) (x2 : Int32) (x3 : Int32) (x4 : Int32) (rr : Int32) (h1 : vp_in ((0 : Int32) + x3) 268) (k2 : (x1 = (-1 : Int32)) → ax_W shM (d + 1) mX12_earth Q 6 [some (ax_r 0), some (ax_i x3), some (ax_i rr), some (ax_i (x3 + (1 : Int32))), none, none] [] (ax_ui σ 15 (Int32.toNatClampNeg ((0 : Int32) + x3)) x4)) (k3 : (¬ (x1 = (-1 : Int32))) → (rr ≤ x2) → ax_W shM (d + 1) mX12_earth Q 6 [some (ax_r 0), some (ax_i x1), some (ax_i x2), some (ax_i (x3 + (1 : Int32))), none, none] [] (ax_ui σ 15 (Int32.toNatClampNeg ((0 : Int32) + x3)) x4)) (k4 : (¬ (x1 = (-1 : Int32))) → (¬ (rr ≤ x2)) → ax_W shM (d + 1) mX12_earth Q 6 [some (ax_r 0), some (ax_i x3), some (ax_i rr), some (ax_i (x3 + (1 : Int32))), none, none] [] (ax_ui σ 15 (Int32.toNatClampNeg ((0 : Int32) + x3)) x4)) : ax_W shM (d + 1) mX12_earth Q 46 [some (ax_r 0), some (ax_i x1), some (ax_i x2), some (ax_i x3), some (ax_i x4), none] [ax_i rr] σ := by
  refine ax_istore (q := 48) (lv2 := [some (ax_r 0), some (ax_i x1), some (ax_i x2), some (ax_i x3), some (ax_i x4), some (ax_i rr)]) dX12_earth_46 rfl (by decide) rfl rfl ?_
  refine ax_aload_n (q := 49) (i := 0) dX12_earth_48 rfl rfl rfl ?_
  refine ax_get (q := 52) (k := 0) (j := 25) (v := ax_r 15) dX12_earth_49 rfl shM_0 rfl rfl rfl (by decide) fl_X12_52 ?_
  refine ax_iconst (q := 53) dX12_earth_52 rfl ki_0 ?_
  refine ax_iload_n (q := 54) (i := 3) dX12_earth_53 rfl rfl rfl ?_
  refine ax_iadd (q := 55) dX12_earth_54 rfl ?_
  refine ax_iload (q := 57) dX12_earth_55 rfl rfl ?_
  refine ax_iast (q := 58) (a := (Int32.toNatClampNeg ((0 : Int32) + x3))) dX12_earth_57 rfl shM_15 h1 rfl ?_
  refine ax_iload_n (q := 59) (i := 1) dX12_earth_58 rfl rfl rfl ?_
  refine ax_iconst (q := 60) dX12_earth_59 rfl ki_m1 ?_
  refine ax_icmp_eq (tgt := 69) (q := 63) dX12_earth_60 (by decide) rfl (fun c1 => ?_) (fun c1 => ?_)
  · refine ax_iload_n (q := 70) (i := 3) dX12_earth_69 rfl rfl rfl ?_
    refine ax_istore_n (q := 71) (i := 1) (lv2 := [some (ax_r 0), some (ax_i x3), some (ax_i x2), some (ax_i x3), some (ax_i x4), some (ax_i rr)]) dX12_earth_70 rfl rfl (by decide) rfl rfl ?_
    refine ax_iload (q := 73) dX12_earth_71 rfl rfl ?_
    refine ax_istore_n (q := 74) (i := 2) (lv2 := [some (ax_r 0), some (ax_i x3), some (ax_i rr), some (ax_i x3), some (ax_i x4), some (ax_i rr)]) dX12_earth_73 rfl rfl (by decide) rfl rfl ?_
    refine ax_iincK (q := 77) (lv2 := [some (ax_r 0), some (ax_i x3), some (ax_i rr), some (ax_i (x3 + (1 : Int32))), some (ax_i x4), some (ax_i rr)]) dX12_earth_74 rfl rfl ki_1 (by decide) rfl rfl ?_
    refine ax_goto (tgt := 6) dX12_earth_77 (by decide) ?_
    refine ax_fg (lv2 := [some (ax_r 0), some (ax_i x3), some (ax_i rr), some (ax_i (x3 + (1 : Int32))), none, none]) ⟨rfl, rfl, rfl, rfl, trivial⟩ ?_
    exact (k2 c1)
  · refine ax_iload (q := 65) dX12_earth_63 rfl rfl ?_
    refine ax_iload_n (q := 66) (i := 2) dX12_earth_65 rfl rfl rfl ?_
    refine ax_icmp_le (tgt := 74) (q := 69) dX12_earth_66 (by decide) rfl (fun c2 => ?_) (fun c2 => ?_)
    · refine ax_iincK (q := 77) (lv2 := [some (ax_r 0), some (ax_i x1), some (ax_i x2), some (ax_i (x3 + (1 : Int32))), some (ax_i x4), some (ax_i rr)]) dX12_earth_74 rfl rfl ki_1 (by decide) rfl rfl ?_
      refine ax_goto (tgt := 6) dX12_earth_77 (by decide) ?_
      refine ax_fg (lv2 := [some (ax_r 0), some (ax_i x1), some (ax_i x2), some (ax_i (x3 + (1 : Int32))), none, none]) ⟨rfl, rfl, rfl, rfl, trivial⟩ ?_
      exact (k3 c1 c2)
    · refine ax_iload_n (q := 70) (i := 3) dX12_earth_69 rfl rfl rfl ?_
      refine ax_istore_n (q := 71) (i := 1) (lv2 := [some (ax_r 0), some (ax_i x3), some (ax_i x2), some (ax_i x3), some (ax_i x4), some (ax_i rr)]) dX12_earth_70 rfl rfl (by decide) rfl rfl ?_
      refine ax_iload (q := 73) dX12_earth_71 rfl rfl ?_
      refine ax_istore_n (q := 74) (i := 2) (lv2 := [some (ax_r 0), some (ax_i x3), some (ax_i rr), some (ax_i x3), some (ax_i x4), some (ax_i rr)]) dX12_earth_73 rfl rfl (by decide) rfl rfl ?_
      refine ax_iincK (q := 77) (lv2 := [some (ax_r 0), some (ax_i x3), some (ax_i rr), some (ax_i (x3 + (1 : Int32))), some (ax_i x4), some (ax_i rr)]) dX12_earth_74 rfl rfl ki_1 (by decide) rfl rfl ?_
      refine ax_goto (tgt := 6) dX12_earth_77 (by decide) ?_
      refine ax_fg (lv2 := [some (ax_r 0), some (ax_i x3), some (ax_i rr), some (ax_i (x3 + (1 : Int32))), none, none]) ⟨rfl, rfl, rfl, rfl, trivial⟩ ?_
      exact (k4 c1 c2)
set_option maxRecDepth 20000 in
theorem s_X12_single_0 {d : Nat} (hd : 0 ≤ d) {Q : Option ax_V → ax_S → Prop} (σ : ax_S)  (k1 : (¬ (σ.1 0 23) = 0) → ax_W shM (d + 1) mX12_single Q 13 [some (ax_r 0), some (ax_i (0 : Int32)), some (ax_i (0 : Int32))] [] σ) (k2 : (¬ (¬ (σ.1 0 23) = 0)) → Q (some (ax_i (-1 : Int32))) σ) : ax_W shM (d + 1) mX12_single Q 0 [some (ax_r 0), none, none] [] σ := by
  refine ax_aload_n (q := 1) (i := 0) dX12_single_0 rfl rfl rfl ?_
  refine ax_get (q := 4) (k := 0) (j := 23) (v := ax_i (σ.1 0 23)) dX12_single_1 rfl shM_0 rfl rfl rfl (by decide) fl_X12_271 ?_
  refine ax_if_ne (tgt := 9) (q := 7) dX12_single_4 (by decide) rfl (fun c1 => ?_) (fun c1 => ?_)
  · refine ax_iconst (q := 10) dX12_single_9 rfl ki_0 ?_
    refine ax_istore_n (q := 11) (i := 1) (lv2 := [some (ax_r 0), some (ax_i (0 : Int32)), none]) dX12_single_10 rfl rfl (by decide) rfl rfl ?_
    refine ax_iconst (q := 12) dX12_single_11 rfl ki_0 ?_
    refine ax_istore_n (q := 13) (i := 2) (lv2 := [some (ax_r 0), some (ax_i (0 : Int32)), some (ax_i (0 : Int32))]) dX12_single_12 rfl rfl (by decide) rfl rfl ?_
    exact (k1 c1)
  · refine ax_iconst (q := 8) dX12_single_7 rfl ki_m1 ?_
    exact ax_iret dX12_single_8 rfl rfl (k2 c1)
set_option maxRecDepth 20000 in
theorem s_X12_single_13 {d : Nat} (hd : 0 ≤ d) {Q : Option ax_V → ax_S → Prop} (σ : ax_S) (x1 : Int32) (x2 : Int32) (k1 : ((σ.1 0 23) ≤ x2) → Q (some (ax_i x1)) σ) (k2 : (¬ ((σ.1 0 23) ≤ x2)) → ax_Ct shM d mX12_liveAt [ax_r 0, ax_i x2, ax_i (-1 : Int32)] (fun r u => ∃ x : Int32, r = some (ax_i x) ∧ ax_W shM (d + 1) mX12_single Q 28 [some (ax_r 0), none, some (ax_i x2)] (ax_i x :: [ax_i x1]) u) σ) : ax_W shM (d + 1) mX12_single Q 13 [some (ax_r 0), some (ax_i x1), some (ax_i x2)] [] σ := by
  refine ax_iload_n (q := 14) (i := 2) dX12_single_13 rfl rfl rfl ?_
  refine ax_aload_n (q := 15) (i := 0) dX12_single_14 rfl rfl rfl ?_
  refine ax_get (q := 18) (k := 0) (j := 23) (v := ax_i (σ.1 0 23)) dX12_single_15 rfl shM_0 rfl rfl rfl (by decide) fl_X12_271 ?_
  refine ax_icmp_ge (tgt := 46) (q := 21) dX12_single_18 (by decide) rfl (fun c1 => ?_) (fun c1 => ?_)
  · refine ax_iload_n (q := 47) (i := 1) dX12_single_46 rfl rfl rfl ?_
    exact ax_iret dX12_single_47 rfl rfl (k1 c1)
  · refine ax_iload_n (q := 22) (i := 1) dX12_single_21 rfl rfl rfl ?_
    refine ax_aload_n (q := 23) (i := 0) dX12_single_22 rfl rfl rfl ?_
    refine ax_iload_n (q := 24) (i := 2) dX12_single_23 rfl rfl rfl ?_
    refine ax_iconst (q := 25) dX12_single_24 rfl ki_m1 ?_
    refine ax_fg (lv2 := [some (ax_r 0), none, some (ax_i x2)]) ⟨rfl, rfl, trivial⟩ ?_
    exact ax_callVci (q := 28) (As := [ax_i x2, ax_i (-1 : Int32)]) (st := [ax_i x1]) dX12_single_25 rfl lk_X12_330 shM_0 rfl rfl rfl rfl (Nat.le_of_ble_eq_true rfl) (k2 c1)
set_option maxRecDepth 20000 in
theorem s_X12_single_28 {d : Nat} (hd : 0 ≤ d) {Q : Option ax_V → ax_S → Prop} (σ : ax_S) (x2 : Int32) (rr : Int32) (y0 : Int32) (k1 : ax_W shM (d + 1) mX12_single Q 13 [some (ax_r 0), some (ax_i (y0 ||| (if (¬ rr = 0) then (0 : Int32) else ((1 : Int32) <<< (x2 &&& 31))))), some (ax_i (x2 + (1 : Int32)))] [] σ) : ax_W shM (d + 1) mX12_single Q 28 [some (ax_r 0), none, some (ax_i x2)] [ax_i rr, ax_i y0] σ := by
  have K2 : ax_W shM (d + 1) mX12_single Q 38 [some (ax_r 0), none, some (ax_i x2)] [ax_i (if (¬ rr = 0) then (0 : Int32) else ((1 : Int32) <<< (x2 &&& 31))), ax_i y0] σ := by
    refine ax_ior (q := 39) dX12_single_38 rfl ?_
    refine ax_istore_n (q := 40) (i := 1) (lv2 := [some (ax_r 0), some (ax_i (y0 ||| (if (¬ rr = 0) then (0 : Int32) else ((1 : Int32) <<< (x2 &&& 31))))), some (ax_i x2)]) dX12_single_39 rfl rfl (by decide) rfl rfl ?_
    refine ax_iincK (q := 43) (lv2 := [some (ax_r 0), some (ax_i (y0 ||| (if (¬ rr = 0) then (0 : Int32) else ((1 : Int32) <<< (x2 &&& 31))))), some (ax_i (x2 + (1 : Int32)))]) dX12_single_40 rfl rfl ki_1 (by decide) rfl rfl ?_
    refine ax_goto (tgt := 13) dX12_single_43 (by decide) ?_
    exact k1
  refine ax_if_ne (tgt := 37) (q := 31) dX12_single_28 (by decide) rfl (fun c1 => ?_) (fun c1 => ?_)
  · refine ax_iconst (q := 38) dX12_single_37 rfl ki_0 ?_
    exact ax_cv (if_pos c1) K2
  · refine ax_iconst (q := 32) dX12_single_31 rfl ki_1 ?_
    refine ax_iload_n (q := 33) (i := 2) dX12_single_32 rfl rfl rfl ?_
    refine ax_ishl (q := 34) dX12_single_33 rfl ?_
    refine ax_goto (tgt := 38) dX12_single_34 (by decide) ?_
    exact ax_cv (if_neg c1) K2
