set_option maxRecDepth 20000 in
theorem s_X11_set_0 {d : Nat} (hd : 1 ≤ d) {Q : Option ax_V → ax_S → Prop} (σ : ax_S) (a0 : Int32) (a1 : Int32) (k1 : (¬ ((a0 = 0) ∨ (¬ (¬ a0 = (1 : Int32))))) → Q (some (ax_i (0 : Int32))) σ) (k2 : ((a0 = 0) ∨ (¬ (¬ a0 = (1 : Int32)))) → (a1 < 0) → Q (some (ax_i (0 : Int32))) σ) (k3 : ((a0 = 0) ∨ (¬ (¬ a0 = (1 : Int32)))) → (¬ (a1 < 0)) → ((9 : Int32) < a1) → Q (some (ax_i (0 : Int32))) σ) (k4 : ((a0 = 0) ∨ (¬ (¬ a0 = (1 : Int32)))) → (¬ (a1 < 0)) → (¬ ((9 : Int32) < a1)) → (¬ a1 = (if (¬ a0 = 0) then (σ.1 0 15) else (σ.1 0 14))) → (¬ a0 = 0) → Q (some (ax_i (1 : Int32))) (ax_ui σ 0 15 a1)) (k5 : ((a0 = 0) ∨ (¬ (¬ a0 = (1 : Int32)))) → (¬ (a1 < 0)) → (¬ ((9 : Int32) < a1)) → (¬ a1 = (if (¬ a0 = 0) then (σ.1 0 15) else (σ.1 0 14))) → (¬ (¬ a0 = 0)) → Q (some (ax_i (1 : Int32))) (ax_ui σ 0 14 a1)) (k6 : ((a0 = 0) ∨ (¬ (¬ a0 = (1 : Int32)))) → (¬ (a1 < 0)) → (¬ ((9 : Int32) < a1)) → (¬ (¬ a1 = (if (¬ a0 = 0) then (σ.1 0 15) else (σ.1 0 14)))) → Q (some (ax_i (0 : Int32))) σ) : ax_W shC (d + 1) mX11_set Q 0 [some (ax_r 0), some (ax_i a0), some (ax_i a1)] [] σ := by
  refine ax_iload_n (q := 1) (i := 1) dX11_set_0 rfl rfl rfl ?_
  refine ax_callSfi (q := 4) (As := [ax_i a0]) (st := []) (x := (if ((a0 = 0) ∨ (¬ (¬ a0 = (1 : Int32)))) then (1 : Int32) else 0)) (σ2 := σ) dX11_set_1 rfl lk_X11_121 rfl rfl (Nat.le_of_ble_eq_true rfl) (f_X11_isBit (sh := shC) σ a0  (d := d) (by omega)) ?_
  refine ax_if_eqB (tgt := 36) (q := 7) dX11_set_4 (by decide) rfl (fun c1 => ?_) (fun c1 => ?_)
  · refine ax_iconst (q := 37) dX11_set_36 rfl ki_0 ?_
    exact ax_iret dX11_set_37 rfl rfl (k1 c1)
  · refine ax_iload_n (q := 8) (i := 2) dX11_set_7 rfl rfl rfl ?_
    refine ax_if_lt (tgt := 36) (q := 11) dX11_set_8 (by decide) rfl (fun c2 => ?_) (fun c2 => ?_)
    · refine ax_iconst (q := 37) dX11_set_36 rfl ki_0 ?_
      exact ax_iret dX11_set_37 rfl rfl (k2 c1 c2)
    · refine ax_iload_n (q := 12) (i := 2) dX11_set_11 rfl rfl rfl ?_
      refine ax_bipush (q := 14) dX11_set_12 rfl kb_9 ?_
      refine ax_icmp_gt (tgt := 36) (q := 17) dX11_set_14 (by decide) rfl (fun c3 => ?_) (fun c3 => ?_)
      · refine ax_iconst (q := 37) dX11_set_36 rfl ki_0 ?_
        exact ax_iret dX11_set_37 rfl rfl (k3 c1 c2 c3)
      · refine ax_iload_n (q := 18) (i := 2) dX11_set_17 rfl rfl rfl ?_
        refine ax_iload_n (q := 19) (i := 1) dX11_set_18 rfl rfl rfl ?_
        have K5 : ax_W shC (d + 1) mX11_set Q 33 [some (ax_r 0), some (ax_i a0), some (ax_i a1)] [ax_i (if (¬ a0 = 0) then (σ.1 0 15) else (σ.1 0 14)), ax_i a1] σ := by
          refine ax_icmp_ne (tgt := 38) (q := 36) dX11_set_33 (by decide) rfl (fun c6 => ?_) (fun c6 => ?_)
          · refine ax_iload_n (q := 39) (i := 1) dX11_set_38 rfl rfl rfl ?_
            refine ax_if_ne (tgt := 50) (q := 42) dX11_set_39 (by decide) rfl (fun c7 => ?_) (fun c7 => ?_)
            · refine ax_aload_n (q := 51) (i := 0) dX11_set_50 rfl rfl rfl ?_
              refine ax_iload_n (q := 52) (i := 2) dX11_set_51 rfl rfl rfl ?_
              refine ax_puti (q := 55) (k := 0) (j := 15) dX11_set_52 rfl shC_0 rfl rfl (by decide) fl_X11_233 rfl rfl rfl rfl ?_
              refine ax_iconst (q := 56) dX11_set_55 rfl ki_1 ?_
              exact ax_iret dX11_set_56 rfl rfl (k4 c1 c2 c3 c6 c7)
            · refine ax_aload_n (q := 43) (i := 0) dX11_set_42 rfl rfl rfl ?_
              refine ax_iload_n (q := 44) (i := 2) dX11_set_43 rfl rfl rfl ?_
              refine ax_puti (q := 47) (k := 0) (j := 14) dX11_set_44 rfl shC_0 rfl rfl (by decide) fl_X11_99 rfl rfl rfl rfl ?_
              refine ax_goto (tgt := 55) dX11_set_47 (by decide) ?_
              refine ax_iconst (q := 56) dX11_set_55 rfl ki_1 ?_
              exact ax_iret dX11_set_56 rfl rfl (k5 c1 c2 c3 c6 c7)
          · refine ax_iconst (q := 37) dX11_set_36 rfl ki_0 ?_
            exact ax_iret dX11_set_37 rfl rfl (k6 c1 c2 c3 c6)
        refine ax_if_ne (tgt := 29) (q := 22) dX11_set_19 (by decide) rfl (fun c4 => ?_) (fun c4 => ?_)
        · refine ax_aload_n (q := 30) (i := 0) dX11_set_29 rfl rfl rfl ?_
          refine ax_get (q := 33) (k := 0) (j := 15) (v := ax_i (σ.1 0 15)) dX11_set_30 rfl shC_0 rfl rfl rfl (by decide) fl_X11_233 ?_
          exact ax_cv (if_pos c4) K5
        · refine ax_aload_n (q := 23) (i := 0) dX11_set_22 rfl rfl rfl ?_
          refine ax_get (q := 26) (k := 0) (j := 14) (v := ax_i (σ.1 0 14)) dX11_set_23 rfl shC_0 rfl rfl rfl (by decide) fl_X11_99 ?_
          refine ax_goto (tgt := 33) dX11_set_26 (by decide) ?_
          exact ax_cv (if_neg c4) K5
set_option maxRecDepth 20000 in
theorem f_X11_draw (σ : ax_S) (a0 : Int32) (h1 : ((1 : Int32) ≤ a0) → ¬ (Int32.toInt64 a0) = 0) {d : Nat} (hd : 1 ≤ d) : ax_Ct shC d mX11_draw [ax_r 0, ax_i a0] (fun r u => r = some (ax_i (if ((1 : Int32) ≤ a0) then (Int64.toInt32 ((((Int64.toUInt64 (((σ.2 0 19) * (6364136223846793005 : Int64)) + (1442695040888963407 : Int64))) >>> ((Int64.toUInt64 (Int32.toInt64 (33 : Int32))) &&& Int64.toUInt64 63)).toInt64) - (((Int64.toUInt64 (((σ.2 0 19) * (6364136223846793005 : Int64)) + (1442695040888963407 : Int64))) >>> ((Int64.toUInt64 (Int32.toInt64 (33 : Int32))) &&& Int64.toUInt64 63)).toInt64) / (Int32.toInt64 a0) * (Int32.toInt64 a0))) else (0 : Int32))) ∧ u = (ax_ul σ 0 19 (((σ.2 0 19) * (6364136223846793005 : Int64)) + (1442695040888963407 : Int64)))) σ := by
  obtain ⟨d, rfl⟩ : ∃ e, d = e + 1 := ⟨d - 1, by omega⟩
  refine ax_Ct.of (lv := [some (ax_r 0), some (ax_i a0)]) (by decide +kernel) (fun ad => Nat.le_of_ble_eq_true rfl) (fun ad => rfl) ?_
  refine ax_aload_n (q := 1) (i := 0) dX11_draw_0 rfl rfl rfl ?_
  refine ax_aload_n (q := 2) (i := 0) dX11_draw_1 rfl rfl rfl ?_
  refine ax_get (q := 5) (k := 0) (j := 19) (v := ax_l (σ.2 0 19)) dX11_draw_2 rfl shC_0 rfl rfl rfl (by decide) fl_X11_284 ?_
  refine ax_ldc2 (q := 8) dX11_draw_5 rfl kc_X11_447 ?_
  refine ax_lmul (q := 9) dX11_draw_8 rfl ?_
  refine ax_ldc2 (q := 12) dX11_draw_9 rfl kc_X11_449 ?_
  refine ax_ladd (q := 13) dX11_draw_12 rfl ?_
  refine ax_putl (q := 16) (k := 0) (j := 19) dX11_draw_13 rfl shC_0 rfl rfl (by decide) fl_X11_284 rfl rfl rfl rfl ?_
  refine ax_iload_n (q := 17) (i := 1) dX11_draw_16 rfl rfl rfl ?_
  refine ax_iconst (q := 18) dX11_draw_17 rfl ki_1 ?_
  have K2 : ax_W shC (d + 1) mX11_draw (fun r u => r = some (ax_i (if ((1 : Int32) ≤ a0) then (Int64.toInt32 ((((Int64.toUInt64 (((σ.2 0 19) * (6364136223846793005 : Int64)) + (1442695040888963407 : Int64))) >>> ((Int64.toUInt64 (Int32.toInt64 (33 : Int32))) &&& Int64.toUInt64 63)).toInt64) - (((Int64.toUInt64 (((σ.2 0 19) * (6364136223846793005 : Int64)) + (1442695040888963407 : Int64))) >>> ((Int64.toUInt64 (Int32.toInt64 (33 : Int32))) &&& Int64.toUInt64 63)).toInt64) / (Int32.toInt64 a0) * (Int32.toInt64 a0))) else (0 : Int32))) ∧ u = (ax_ul σ 0 19 (((σ.2 0 19) * (6364136223846793005 : Int64)) + (1442695040888963407 : Int64)))) 36 [some (ax_r 0), some (ax_i a0)] [ax_i (if ((1 : Int32) ≤ a0) then (Int64.toInt32 ((((Int64.toUInt64 (((σ.2 0 19) * (6364136223846793005 : Int64)) + (1442695040888963407 : Int64))) >>> ((Int64.toUInt64 (Int32.toInt64 (33 : Int32))) &&& Int64.toUInt64 63)).toInt64) - (((Int64.toUInt64 (((σ.2 0 19) * (6364136223846793005 : Int64)) + (1442695040888963407 : Int64))) >>> ((Int64.toUInt64 (Int32.toInt64 (33 : Int32))) &&& Int64.toUInt64 63)).toInt64) / (Int32.toInt64 a0) * (Int32.toInt64 a0))) else (0 : Int32))] (ax_ul σ 0 19 (((σ.2 0 19) * (6364136223846793005 : Int64)) + (1442695040888963407 : Int64))) := by
    exact ax_iret dX11_draw_36 rfl rfl ⟨rfl, rfl⟩
  refine ax_icmp_ge (tgt := 25) (q := 21) dX11_draw_18 (by decide) rfl (fun c1 => ?_) (fun c1 => ?_)
  · refine ax_aload_n (q := 26) (i := 0) dX11_draw_25 rfl rfl rfl ?_
    refine ax_get (q := 29) (k := 0) (j := 19) (v := ax_l (((σ.2 0 19) * (6364136223846793005 : Int64)) + (1442695040888963407 : Int64))) dX11_draw_26 rfl shC_0 rfl rfl rfl (by decide) fl_X11_284 ?_
    refine ax_bipush (q := 31) dX11_draw_29 rfl kb_33 ?_
    refine ax_lushr (q := 32) dX11_draw_31 rfl ?_
    refine ax_iload_n (q := 33) (i := 1) dX11_draw_32 rfl rfl rfl ?_
    refine ax_i2l (q := 34) dX11_draw_33 rfl ?_
    refine ax_lrem (q := 35) dX11_draw_34 rfl (h1 c1) ?_
    refine ax_l2i (q := 36) dX11_draw_35 rfl ?_
    exact ax_cv (if_pos c1) K2
  · refine ax_iconst (q := 22) dX11_draw_21 rfl ki_0 ?_
    refine ax_goto (tgt := 36) dX11_draw_22 (by decide) ?_
    exact ax_cv (if_neg c1) K2
set_option maxRecDepth 20000 in
theorem s_X11_strikeByChance_0 {d : Nat} (hd : 0 ≤ d) {Q : Option ax_V → ax_S → Prop} (σ : ax_S)  (k1 : ax_Ct shC d mX0_heights [ax_r 5] (fun r u => ∃ x : Int32, r = some (ax_i x) ∧ ax_W shC (d + 1) mX11_strikeByChance Q 8 [some (ax_r 0), none, none] (ax_i x :: [ax_r 0]) u) σ) : ax_W shC (d + 1) mX11_strikeByChance Q 0 [some (ax_r 0), none, none] [] σ := by
  refine ax_aload_n (q := 1) (i := 0) dX11_strikeByChance_0 rfl rfl rfl ?_
  refine ax_aload_n (q := 2) (i := 0) dX11_strikeByChance_1 rfl rfl rfl ?_
  refine ax_get (q := 5) (k := 0) (j := 4) (v := ax_r 5) dX11_strikeByChance_2 rfl shC_0 rfl rfl rfl (by decide) fl_X11_42 ?_
  exact ax_callVci (q := 8) (As := []) (st := [ax_r 0]) dX11_strikeByChance_5 rfl lk_X11_444 shC_5 rfl rfl rfl rfl (Nat.le_of_ble_eq_true rfl) k1
set_option maxRecDepth 20000 in
theorem s_X11_strikeByChance_8 {d : Nat} (hd : 1 ≤ d) {Q : Option ax_V → ax_S → Prop} (σ : ax_S) (rr : Int32) (h1 : ((1 : Int32) ≤ rr) → ¬ (Int32.toInt64 rr) = 0) (k2 : ax_W shC (d + 1) mX11_strikeByChance Q 14 [some (ax_r 0), some (ax_i (if ((1 : Int32) ≤ rr) then (Int64.toInt32 ((((Int64.toUInt64 (((σ.2 0 19) * (6364136223846793005 : Int64)) + (1442695040888963407 : Int64))) >>> ((Int64.toUInt64 (Int32.toInt64 (33 : Int32))) &&& Int64.toUInt64 63)).toInt64) - (((Int64.toUInt64 (((σ.2 0 19) * (6364136223846793005 : Int64)) + (1442695040888963407 : Int64))) >>> ((Int64.toUInt64 (Int32.toInt64 (33 : Int32))) &&& Int64.toUInt64 63)).toInt64) / (Int32.toInt64 rr) * (Int32.toInt64 rr))) else (0 : Int32))), some (ax_i (0 : Int32))] [] (ax_ul σ 0 19 (((σ.2 0 19) * (6364136223846793005 : Int64)) + (1442695040888963407 : Int64)))) : ax_W shC (d + 1) mX11_strikeByChance Q 8 [some (ax_r 0), none, none] [ax_i rr, ax_r 0] σ := by
  refine ax_callVfi (q := 11) (As := [ax_i rr]) (st := []) (x := (if ((1 : Int32) ≤ rr) then (Int64.toInt32 ((((Int64.toUInt64 (((σ.2 0 19) * (6364136223846793005 : Int64)) + (1442695040888963407 : Int64))) >>> ((Int64.toUInt64 (Int32.toInt64 (33 : Int32))) &&& Int64.toUInt64 63)).toInt64) - (((Int64.toUInt64 (((σ.2 0 19) * (6364136223846793005 : Int64)) + (1442695040888963407 : Int64))) >>> ((Int64.toUInt64 (Int32.toInt64 (33 : Int32))) &&& Int64.toUInt64 63)).toInt64) / (Int32.toInt64 rr) * (Int32.toInt64 rr))) else (0 : Int32))) (σ2 := (ax_ul σ 0 19 (((σ.2 0 19) * (6364136223846793005 : Int64)) + (1442695040888963407 : Int64)))) dX11_strikeByChance_8 rfl lk_X11_287 shC_0 rfl rfl rfl rfl (Nat.le_of_ble_eq_true rfl) (f_X11_draw σ rr h1 (d := d) (by omega)) ?_
  refine ax_istore_n (q := 12) (i := 1) (lv2 := [some (ax_r 0), some (ax_i (if ((1 : Int32) ≤ rr) then (Int64.toInt32 ((((Int64.toUInt64 (((σ.2 0 19) * (6364136223846793005 : Int64)) + (1442695040888963407 : Int64))) >>> ((Int64.toUInt64 (Int32.toInt64 (33 : Int32))) &&& Int64.toUInt64 63)).toInt64) - (((Int64.toUInt64 (((σ.2 0 19) * (6364136223846793005 : Int64)) + (1442695040888963407 : Int64))) >>> ((Int64.toUInt64 (Int32.toInt64 (33 : Int32))) &&& Int64.toUInt64 63)).toInt64) / (Int32.toInt64 rr) * (Int32.toInt64 rr))) else (0 : Int32))), none]) dX11_strikeByChance_11 rfl rfl (by decide) rfl rfl ?_
  refine ax_iconst (q := 13) dX11_strikeByChance_12 rfl ki_0 ?_
  refine ax_istore_n (q := 14) (i := 2) (lv2 := [some (ax_r 0), some (ax_i (if ((1 : Int32) ≤ rr) then (Int64.toInt32 ((((Int64.toUInt64 (((σ.2 0 19) * (6364136223846793005 : Int64)) + (1442695040888963407 : Int64))) >>> ((Int64.toUInt64 (Int32.toInt64 (33 : Int32))) &&& Int64.toUInt64 63)).toInt64) - (((Int64.toUInt64 (((σ.2 0 19) * (6364136223846793005 : Int64)) + (1442695040888963407 : Int64))) >>> ((Int64.toUInt64 (Int32.toInt64 (33 : Int32))) &&& Int64.toUInt64 63)).toInt64) / (Int32.toInt64 rr) * (Int32.toInt64 rr))) else (0 : Int32))), some (ax_i (0 : Int32))]) dX11_strikeByChance_13 rfl rfl (by decide) rfl rfl ?_
  exact k2
set_option maxRecDepth 20000 in
theorem s_X11_strikeByChance_14 {d : Nat} (hd : 1 ≤ d) {Q : Option ax_V → ax_S → Prop} (σ : ax_S) (x1 : Int32) (x2 : Int32) (h1 : (((σ.1 5 9) - (1 : Int32)) ≤ x2) → ((1 : Int32) ≤ (99 : Int32)) → ¬ (Int32.toInt64 (99 : Int32)) = 0) (k2 : (((σ.1 5 9) - (1 : Int32)) ≤ x2) → ax_Ct shC d mX11_strikeNow [ax_r 0, ax_i x2, ax_i ((if ((1 : Int32) ≤ (99 : Int32)) then (Int64.toInt32 ((((Int64.toUInt64 (((σ.2 0 19) * (6364136223846793005 : Int64)) + (1442695040888963407 : Int64))) >>> ((Int64.toUInt64 (Int32.toInt64 (33 : Int32))) &&& Int64.toUInt64 63)).toInt64) - (((Int64.toUInt64 (((σ.2 0 19) * (6364136223846793005 : Int64)) + (1442695040888963407 : Int64))) >>> ((Int64.toUInt64 (Int32.toInt64 (33 : Int32))) &&& Int64.toUInt64 63)).toInt64) / (Int32.toInt64 (99 : Int32)) * (Int32.toInt64 (99 : Int32)))) else (0 : Int32)) + (1 : Int32))] (fun r u => ∃ x : Int32, r = some (ax_i x) ∧ ax_W shC (d + 1) mX11_strikeByChance Q 71 [none, none, none] (ax_i x :: []) u) (ax_ul σ 0 19 (((σ.2 0 19) * (6364136223846793005 : Int64)) + (1442695040888963407 : Int64)))) (h3 : (¬ (((σ.1 5 9) - (1 : Int32)) ≤ x2)) → vp_in x2 8) (h4 : (¬ (((σ.1 5 9) - (1 : Int32)) ≤ x2)) → (x1 < (σ.1 24 (Int32.toNatClampNeg x2))) → ((1 : Int32) ≤ (99 : Int32)) → ¬ (Int32.toInt64 (99 : Int32)) = 0) (k5 : (¬ (((σ.1 5 9) - (1 : Int32)) ≤ x2)) → (x1 < (σ.1 24 (Int32.toNatClampNeg x2))) → ax_Ct shC d mX11_strikeNow [ax_r 0, ax_i x2, ax_i ((if ((1 : Int32) ≤ (99 : Int32)) then (Int64.toInt32 ((((Int64.toUInt64 (((σ.2 0 19) * (6364136223846793005 : Int64)) + (1442695040888963407 : Int64))) >>> ((Int64.toUInt64 (Int32.toInt64 (33 : Int32))) &&& Int64.toUInt64 63)).toInt64) - (((Int64.toUInt64 (((σ.2 0 19) * (6364136223846793005 : Int64)) + (1442695040888963407 : Int64))) >>> ((Int64.toUInt64 (Int32.toInt64 (33 : Int32))) &&& Int64.toUInt64 63)).toInt64) / (Int32.toInt64 (99 : Int32)) * (Int32.toInt64 (99 : Int32)))) else (0 : Int32)) + (1 : Int32))] (fun r u => ∃ x : Int32, r = some (ax_i x) ∧ ax_W shC (d + 1) mX11_strikeByChance Q 71 [none, none, none] (ax_i x :: []) u) (ax_ul σ 0 19 (((σ.2 0 19) * (6364136223846793005 : Int64)) + (1442695040888963407 : Int64)))) (h6 : (¬ (((σ.1 5 9) - (1 : Int32)) ≤ x2)) → (¬ (x1 < (σ.1 24 (Int32.toNatClampNeg x2)))) → vp_in x2 8) (k7 : (¬ (((σ.1 5 9) - (1 : Int32)) ≤ x2)) → (¬ (x1 < (σ.1 24 (Int32.toNatClampNeg x2)))) → ax_W shC (d + 1) mX11_strikeByChance Q 14 [some (ax_r 0), some (ax_i (x1 - (σ.1 24 (Int32.toNatClampNeg x2)))), some (ax_i (x2 + (1 : Int32)))] [] σ) : ax_W shC (d + 1) mX11_strikeByChance Q 14 [some (ax_r 0), some (ax_i x1), some (ax_i x2)] [] σ := by
  refine ax_iload_n (q := 15) (i := 2) dX11_strikeByChance_14 rfl rfl rfl ?_
  refine ax_aload_n (q := 16) (i := 0) dX11_strikeByChance_15 rfl rfl rfl ?_
  refine ax_get (q := 19) (k := 0) (j := 4) (v := ax_r 5) dX11_strikeByChance_16 rfl shC_0 rfl rfl rfl (by decide) fl_X11_42 ?_
  refine ax_get (q := 22) (k := 5) (j := 9) (v := ax_i (σ.1 5 9)) dX11_strikeByChance_19 rfl shC_5 rfl rfl rfl (by decide) fl_X11_154 ?_
  refine ax_iconst (q := 23) dX11_strikeByChance_22 rfl ki_1 ?_
  refine ax_isub (q := 24) dX11_strikeByChance_23 rfl ?_
  refine ax_icmp_ge (tgt := 58) (q := 27) dX11_strikeByChance_24 (by decide) rfl (fun c1 => ?_) (fun c1 => ?_)
  · refine ax_aload_n (q := 59) (i := 0) dX11_strikeByChance_58 rfl rfl rfl ?_
    refine ax_iload_n (q := 60) (i := 2) dX11_strikeByChance_59 rfl rfl rfl ?_
    refine ax_aload_n (q := 61) (i := 0) dX11_strikeByChance_60 rfl rfl rfl ?_
    refine ax_bipush (q := 63) dX11_strikeByChance_61 rfl kb_99 ?_
    refine ax_callVfi (q := 66) (As := [ax_i (99 : Int32)]) (st := [ax_i x2, ax_r 0]) (x := (if ((1 : Int32) ≤ (99 : Int32)) then (Int64.toInt32 ((((Int64.toUInt64 (((σ.2 0 19) * (6364136223846793005 : Int64)) + (1442695040888963407 : Int64))) >>> ((Int64.toUInt64 (Int32.toInt64 (33 : Int32))) &&& Int64.toUInt64 63)).toInt64) - (((Int64.toUInt64 (((σ.2 0 19) * (6364136223846793005 : Int64)) + (1442695040888963407 : Int64))) >>> ((Int64.toUInt64 (Int32.toInt64 (33 : Int32))) &&& Int64.toUInt64 63)).toInt64) / (Int32.toInt64 (99 : Int32)) * (Int32.toInt64 (99 : Int32)))) else (0 : Int32))) (σ2 := (ax_ul σ 0 19 (((σ.2 0 19) * (6364136223846793005 : Int64)) + (1442695040888963407 : Int64)))) dX11_strikeByChance_63 rfl lk_X11_287 shC_0 rfl rfl rfl rfl (Nat.le_of_ble_eq_true rfl) (f_X11_draw σ (99 : Int32) (h1 c1) (d := d) (by omega)) ?_
    refine ax_iconst (q := 67) dX11_strikeByChance_66 rfl ki_1 ?_
    refine ax_iadd (q := 68) dX11_strikeByChance_67 rfl ?_
    refine ax_fg (lv2 := [none, none, none]) trivial ?_
    exact ax_callVci (q := 71) (As := [ax_i x2, ax_i ((if ((1 : Int32) ≤ (99 : Int32)) then (Int64.toInt32 ((((Int64.toUInt64 (((σ.2 0 19) * (6364136223846793005 : Int64)) + (1442695040888963407 : Int64))) >>> ((Int64.toUInt64 (Int32.toInt64 (33 : Int32))) &&& Int64.toUInt64 63)).toInt64) - (((Int64.toUInt64 (((σ.2 0 19) * (6364136223846793005 : Int64)) + (1442695040888963407 : Int64))) >>> ((Int64.toUInt64 (Int32.toInt64 (33 : Int32))) &&& Int64.toUInt64 63)).toInt64) / (Int32.toInt64 (99 : Int32)) * (Int32.toInt64 (99 : Int32)))) else (0 : Int32)) + (1 : Int32))]) (st := []) dX11_strikeByChance_68 rfl lk_X11_251 shC_0 rfl rfl rfl rfl (Nat.le_of_ble_eq_true rfl) (k2 c1)
  · refine ax_iload_n (q := 28) (i := 1) dX11_strikeByChance_27 rfl rfl rfl ?_
    refine ax_aload_n (q := 29) (i := 0) dX11_strikeByChance_28 rfl rfl rfl ?_
    refine ax_get (q := 32) (k := 0) (j := 4) (v := ax_r 5) dX11_strikeByChance_29 rfl shC_0 rfl rfl rfl (by decide) fl_X11_42 ?_
    refine ax_get (q := 35) (k := 5) (j := 1) (v := ax_r 24) dX11_strikeByChance_32 rfl shC_5 rfl rfl rfl (by decide) fl_X11_173 ?_
    refine ax_iload_n (q := 36) (i := 2) dX11_strikeByChance_35 rfl rfl rfl ?_
    refine ax_iald (q := 37) (a := (Int32.toNatClampNeg x2)) (v := (σ.1 24 (Int32.toNatClampNeg x2))) dX11_strikeByChance_36 rfl shC_24 (h3 c1) rfl rfl ?_
    refine ax_icmp_lt (tgt := 58) (q := 40) dX11_strikeByChance_37 (by decide) rfl (fun c2 => ?_) (fun c2 => ?_)
    · refine ax_aload_n (q := 59) (i := 0) dX11_strikeByChance_58 rfl rfl rfl ?_
      refine ax_iload_n (q := 60) (i := 2) dX11_strikeByChance_59 rfl rfl rfl ?_
      refine ax_aload_n (q := 61) (i := 0) dX11_strikeByChance_60 rfl rfl rfl ?_
      refine ax_bipush (q := 63) dX11_strikeByChance_61 rfl kb_99 ?_
      refine ax_callVfi (q := 66) (As := [ax_i (99 : Int32)]) (st := [ax_i x2, ax_r 0]) (x := (if ((1 : Int32) ≤ (99 : Int32)) then (Int64.toInt32 ((((Int64.toUInt64 (((σ.2 0 19) * (6364136223846793005 : Int64)) + (1442695040888963407 : Int64))) >>> ((Int64.toUInt64 (Int32.toInt64 (33 : Int32))) &&& Int64.toUInt64 63)).toInt64) - (((Int64.toUInt64 (((σ.2 0 19) * (6364136223846793005 : Int64)) + (1442695040888963407 : Int64))) >>> ((Int64.toUInt64 (Int32.toInt64 (33 : Int32))) &&& Int64.toUInt64 63)).toInt64) / (Int32.toInt64 (99 : Int32)) * (Int32.toInt64 (99 : Int32)))) else (0 : Int32))) (σ2 := (ax_ul σ 0 19 (((σ.2 0 19) * (6364136223846793005 : Int64)) + (1442695040888963407 : Int64)))) dX11_strikeByChance_63 rfl lk_X11_287 shC_0 rfl rfl rfl rfl (Nat.le_of_ble_eq_true rfl) (f_X11_draw σ (99 : Int32) (h4 c1 c2) (d := d) (by omega)) ?_
      refine ax_iconst (q := 67) dX11_strikeByChance_66 rfl ki_1 ?_
      refine ax_iadd (q := 68) dX11_strikeByChance_67 rfl ?_
      refine ax_fg (lv2 := [none, none, none]) trivial ?_
      exact ax_callVci (q := 71) (As := [ax_i x2, ax_i ((if ((1 : Int32) ≤ (99 : Int32)) then (Int64.toInt32 ((((Int64.toUInt64 (((σ.2 0 19) * (6364136223846793005 : Int64)) + (1442695040888963407 : Int64))) >>> ((Int64.toUInt64 (Int32.toInt64 (33 : Int32))) &&& Int64.toUInt64 63)).toInt64) - (((Int64.toUInt64 (((σ.2 0 19) * (6364136223846793005 : Int64)) + (1442695040888963407 : Int64))) >>> ((Int64.toUInt64 (Int32.toInt64 (33 : Int32))) &&& Int64.toUInt64 63)).toInt64) / (Int32.toInt64 (99 : Int32)) * (Int32.toInt64 (99 : Int32)))) else (0 : Int32)) + (1 : Int32))]) (st := []) dX11_strikeByChance_68 rfl lk_X11_251 shC_0 rfl rfl rfl rfl (Nat.le_of_ble_eq_true rfl) (k5 c1 c2)
    · refine ax_iload_n (q := 41) (i := 1) dX11_strikeByChance_40 rfl rfl rfl ?_
      refine ax_aload_n (q := 42) (i := 0) dX11_strikeByChance_41 rfl rfl rfl ?_
      refine ax_get (q := 45) (k := 0) (j := 4) (v := ax_r 5) dX11_strikeByChance_42 rfl shC_0 rfl rfl rfl (by decide) fl_X11_42 ?_
      refine ax_get (q := 48) (k := 5) (j := 1) (v := ax_r 24) dX11_strikeByChance_45 rfl shC_5 rfl rfl rfl (by decide) fl_X11_173 ?_
      refine ax_iload_n (q := 49) (i := 2) dX11_strikeByChance_48 rfl rfl rfl ?_
      refine ax_iald (q := 50) (a := (Int32.toNatClampNeg x2)) (v := (σ.1 24 (Int32.toNatClampNeg x2))) dX11_strikeByChance_49 rfl shC_24 (h6 c1 c2) rfl rfl ?_
      refine ax_isub (q := 51) dX11_strikeByChance_50 rfl ?_
      refine ax_istore_n (q := 52) (i := 1) (lv2 := [some (ax_r 0), some (ax_i (x1 - (σ.1 24 (Int32.toNatClampNeg x2)))), some (ax_i x2)]) dX11_strikeByChance_51 rfl rfl (by decide) rfl rfl ?_
      refine ax_iincK (q := 55) (lv2 := [some (ax_r 0), some (ax_i (x1 - (σ.1 24 (Int32.toNatClampNeg x2)))), some (ax_i (x2 + (1 : Int32)))]) dX11_strikeByChance_52 rfl rfl ki_1 (by decide) rfl rfl ?_
      refine ax_goto (tgt := 14) dX11_strikeByChance_55 (by decide) ?_
      exact (k7 c1 c2)
set_option maxRecDepth 20000 in
theorem s_X11_strikeByChance_71 {d : Nat} (hd : 0 ≤ d) {Q : Option ax_V → ax_S → Prop} (σ : ax_S) (rr : Int32) (k1 : Q none σ) : ax_W shC (d + 1) mX11_strikeByChance Q 71 [none, none, none] [ax_i rr] σ := by
  refine ax_popi (q := 72) dX11_strikeByChance_71 rfl ?_
  exact ax_vret dX11_strikeByChance_72 rfl k1
set_option maxRecDepth 20000 in
theorem s_X11_decades_0 {d : Nat} (hd : 1 ≤ d) {Q : Option ax_V → ax_S → Prop} (σ : ax_S) (a0 : Int32) (a1 : Int64) (k1 : (¬ (¬ ((σ.1 5 9) ≤ 0))) → Q (some (ax_i (-1 : Int32))) σ) (k2 : (¬ ((σ.1 5 9) ≤ 0)) → ((¬ (a0 < (1 : Int32))) ∧ ((¬ ((60 : Int32) < a0)) ∧ (¬ ((999 : Int32) < ((σ.1 5 14) + a0))))) → ax_W shC (d + 1) mX11_decades Q 25 [some (ax_r 0), some (ax_i a0), none, none, some (ax_i (0 : Int32))] [] (ax_ul σ 0 19 a1)) (k3 : (¬ ((σ.1 5 9) ≤ 0)) → (¬ ((¬ (a0 < (1 : Int32))) ∧ ((¬ ((60 : Int32) < a0)) ∧ (¬ ((999 : Int32) < ((σ.1 5 14) + a0)))))) → Q (some (ax_i (-1 : Int32))) σ) : ax_W shC (d + 1) mX11_decades Q 0 [some (ax_r 0), some (ax_i a0), some (ax_l a1), none, none] [] σ := by
  refine ax_aload_n (q := 1) (i := 0) dX11_decades_0 rfl rfl rfl ?_
  refine ax_callVfi (q := 4) (As := []) (st := []) (x := (if (¬ ((σ.1 5 9) ≤ 0)) then (1 : Int32) else 0)) (σ2 := σ) dX11_decades_1 rfl lk_X11_274 shC_0 rfl rfl rfl rfl (Nat.le_of_ble_eq_true rfl) (f_X11_hasBelt σ   (d := d) (by omega)) ?_
  refine ax_if_eqB (tgt := 15) (q := 7) dX11_decades_4 (by decide) rfl (fun c1 => ?_) (fun c1 => ?_)
  · refine ax_iconst (q := 16) dX11_decades_15 rfl ki_m1 ?_
    exact ax_iret dX11_decades_16 rfl rfl (k1 c1)
  · refine ax_aload_n (q := 8) (i := 0) dX11_decades_7 rfl rfl rfl ?_
    refine ax_iload_n (q := 9) (i := 1) dX11_decades_8 rfl rfl rfl ?_
    refine ax_callVfi (q := 12) (As := [ax_i a0]) (st := []) (x := (if ((¬ (a0 < (1 : Int32))) ∧ ((¬ ((60 : Int32) < a0)) ∧ (¬ ((999 : Int32) < ((σ.1 5 14) + a0))))) then (1 : Int32) else 0)) (σ2 := σ) dX11_decades_9 rfl lk_X11_278 shC_0 rfl rfl rfl rfl (Nat.le_of_ble_eq_true rfl) (f_X11_mayPass σ a0  (d := d) (by omega)) ?_
    refine ax_if_neB (tgt := 17) (q := 15) dX11_decades_12 (by decide) rfl (fun c2 => ?_) (fun c2 => ?_)
    · refine ax_aload_n (q := 18) (i := 0) dX11_decades_17 rfl rfl rfl ?_
      refine ax_lload_n (q := 19) (i := 2) dX11_decades_18 rfl rfl rfl ?_
      refine ax_putl (q := 22) (k := 0) (j := 19) dX11_decades_19 rfl shC_0 rfl rfl (by decide) fl_X11_284 rfl rfl rfl rfl ?_
      refine ax_iconst (q := 23) dX11_decades_22 rfl ki_0 ?_
      refine ax_istore (q := 25) (lv2 := [some (ax_r 0), some (ax_i a0), some (ax_l a1), none, some (ax_i (0 : Int32))]) dX11_decades_23 rfl (by decide) rfl rfl ?_
      refine ax_fg (lv2 := [some (ax_r 0), some (ax_i a0), none, none, some (ax_i (0 : Int32))]) ⟨rfl, rfl, rfl, trivial⟩ ?_
      exact (k2 c1 c2)
    · refine ax_iconst (q := 16) dX11_decades_15 rfl ki_m1 ?_
      exact ax_iret dX11_decades_16 rfl rfl (k3 c1 c2)
set_option maxRecDepth 20000 in
theorem s_X11_decades_25 {d : Nat} (hd : 0 ≤ d) {Q : Option ax_V → ax_S → Prop} (σ : ax_S) (x1 : Int32) (x4 : Int32) (k1 : (x1 ≤ x4) → Q (some (ax_i (σ.1 5 14))) σ) (k2 : (¬ (x1 ≤ x4)) → ax_Ct shC d mX11_remember [ax_r 0] (fun r u => r = none ∧ ax_W shC (d + 1) mX11_decades Q 35 [some (ax_r 0), some (ax_i x1), none, none, some (ax_i x4)] [] u) σ) : ax_W shC (d + 1) mX11_decades Q 25 [some (ax_r 0), some (ax_i x1), none, none, some (ax_i x4)] [] σ := by
  refine ax_iload (q := 27) dX11_decades_25 rfl rfl ?_
  refine ax_iload_n (q := 28) (i := 1) dX11_decades_27 rfl rfl rfl ?_
  refine ax_icmp_ge (tgt := 113) (q := 31) dX11_decades_28 (by decide) rfl (fun c1 => ?_) (fun c1 => ?_)
  · refine ax_aload_n (q := 114) (i := 0) dX11_decades_113 rfl rfl rfl ?_
    refine ax_get (q := 117) (k := 0) (j := 4) (v := ax_r 5) dX11_decades_114 rfl shC_0 rfl rfl rfl (by decide) fl_X11_42 ?_
    refine ax_get (q := 120) (k := 5) (j := 14) (v := ax_i (σ.1 5 14)) dX11_decades_117 rfl shC_5 rfl rfl rfl (by decide) fl_X11_224 ?_
    exact ax_iret dX11_decades_120 rfl rfl (k1 c1)
  · refine ax_aload_n (q := 32) (i := 0) dX11_decades_31 rfl rfl rfl ?_
    exact ax_callVcv (q := 35) (As := []) (st := []) dX11_decades_32 rfl lk_X11_248 shC_0 rfl rfl rfl rfl (Nat.le_of_ble_eq_true rfl) (k2 c1)
set_option maxRecDepth 20000 in
theorem s_X11_decades_35 {d : Nat} (hd : 1 ≤ d) {Q : Option ax_V → ax_S → Prop} (σ : ax_S) (x1 : Int32) (x4 : Int32) (h1 : ((1 : Int32) ≤ (10 : Int32)) → ¬ (Int32.toInt64 (10 : Int32)) = 0) (h2 : ((σ.1 0 14) ≤ (if ((1 : Int32) ≤ (10 : Int32)) then (Int64.toInt32 ((((Int64.toUInt64 (((σ.2 0 19) * (6364136223846793005 : Int64)) + (1442695040888963407 : Int64))) >>> ((Int64.toUInt64 (Int32.toInt64 (33 : Int32))) &&& Int64.toUInt64 63)).toInt64) - (((Int64.toUInt64 (((σ.2 0 19) * (6364136223846793005 : Int64)) + (1442695040888963407 : Int64))) >>> ((Int64.toUInt64 (Int32.toInt64 (33 : Int32))) &&& Int64.toUInt64 63)).toInt64) / (Int32.toInt64 (10 : Int32)) * (Int32.toInt64 (10 : Int32)))) else (0 : Int32))) → ((1 : Int32) ≤ (10 : Int32)) → ¬ (Int32.toInt64 (10 : Int32)) = 0) (k3 : ((σ.1 0 14) ≤ (if ((1 : Int32) ≤ (10 : Int32)) then (Int64.toInt32 ((((Int64.toUInt64 (((σ.2 0 19) * (6364136223846793005 : Int64)) + (1442695040888963407 : Int64))) >>> ((Int64.toUInt64 (Int32.toInt64 (33 : Int32))) &&& Int64.toUInt64 63)).toInt64) - (((Int64.toUInt64 (((σ.2 0 19) * (6364136223846793005 : Int64)) + (1442695040888963407 : Int64))) >>> ((Int64.toUInt64 (Int32.toInt64 (33 : Int32))) &&& Int64.toUInt64 63)).toInt64) / (Int32.toInt64 (10 : Int32)) * (Int32.toInt64 (10 : Int32)))) else (0 : Int32))) → ((σ.1 0 15) ≤ (if ((1 : Int32) ≤ (10 : Int32)) then (Int64.toInt32 ((((Int64.toUInt64 (((((σ.2 0 19) * (6364136223846793005 : Int64)) + (1442695040888963407 : Int64)) * (6364136223846793005 : Int64)) + (1442695040888963407 : Int64))) >>> ((Int64.toUInt64 (Int32.toInt64 (33 : Int32))) &&& Int64.toUInt64 63)).toInt64) - (((Int64.toUInt64 (((((σ.2 0 19) * (6364136223846793005 : Int64)) + (1442695040888963407 : Int64)) * (6364136223846793005 : Int64)) + (1442695040888963407 : Int64))) >>> ((Int64.toUInt64 (Int32.toInt64 (33 : Int32))) &&& Int64.toUInt64 63)).toInt64) / (Int32.toInt64 (10 : Int32)) * (Int32.toInt64 (10 : Int32)))) else (0 : Int32))) → ax_Ct shC d mX0_passSummer [ax_r 5] (fun r u => r = none ∧ ax_W shC (d + 1) mX11_decades Q 107 [some (ax_r 0), some (ax_i x1), none, none, some (ax_i x4)] [] u) (ax_ul (ax_ul σ 0 19 (((σ.2 0 19) * (6364136223846793005 : Int64)) + (1442695040888963407 : Int64))) 0 19 (((((σ.2 0 19) * (6364136223846793005 : Int64)) + (1442695040888963407 : Int64)) * (6364136223846793005 : Int64)) + (1442695040888963407 : Int64)))) (k4 : ((σ.1 0 14) ≤ (if ((1 : Int32) ≤ (10 : Int32)) then (Int64.toInt32 ((((Int64.toUInt64 (((σ.2 0 19) * (6364136223846793005 : Int64)) + (1442695040888963407 : Int64))) >>> ((Int64.toUInt64 (Int32.toInt64 (33 : Int32))) &&& Int64.toUInt64 63)).toInt64) - (((Int64.toUInt64 (((σ.2 0 19) * (6364136223846793005 : Int64)) + (1442695040888963407 : Int64))) >>> ((Int64.toUInt64 (Int32.toInt64 (33 : Int32))) &&& Int64.toUInt64 63)).toInt64) / (Int32.toInt64 (10 : Int32)) * (Int32.toInt64 (10 : Int32)))) else (0 : Int32))) → (¬ ((σ.1 0 15) ≤ (if ((1 : Int32) ≤ (10 : Int32)) then (Int64.toInt32 ((((Int64.toUInt64 (((((σ.2 0 19) * (6364136223846793005 : Int64)) + (1442695040888963407 : Int64)) * (6364136223846793005 : Int64)) + (1442695040888963407 : Int64))) >>> ((Int64.toUInt64 (Int32.toInt64 (33 : Int32))) &&& Int64.toUInt64 63)).toInt64) - (((Int64.toUInt64 (((((σ.2 0 19) * (6364136223846793005 : Int64)) + (1442695040888963407 : Int64)) * (6364136223846793005 : Int64)) + (1442695040888963407 : Int64))) >>> ((Int64.toUInt64 (Int32.toInt64 (33 : Int32))) &&& Int64.toUInt64 63)).toInt64) / (Int32.toInt64 (10 : Int32)) * (Int32.toInt64 (10 : Int32)))) else (0 : Int32)))) → ((σ.1 5 10) ≤ 0) → ax_Ct shC d mX0_passSummer [ax_r 5] (fun r u => r = none ∧ ax_W shC (d + 1) mX11_decades Q 107 [some (ax_r 0), some (ax_i x1), none, none, some (ax_i x4)] [] u) (ax_ul (ax_ul σ 0 19 (((σ.2 0 19) * (6364136223846793005 : Int64)) + (1442695040888963407 : Int64))) 0 19 (((((σ.2 0 19) * (6364136223846793005 : Int64)) + (1442695040888963407 : Int64)) * (6364136223846793005 : Int64)) + (1442695040888963407 : Int64)))) (h5 : ((σ.1 0 14) ≤ (if ((1 : Int32) ≤ (10 : Int32)) then (Int64.toInt32 ((((Int64.toUInt64 (((σ.2 0 19) * (6364136223846793005 : Int64)) + (1442695040888963407 : Int64))) >>> ((Int64.toUInt64 (Int32.toInt64 (33 : Int32))) &&& Int64.toUInt64 63)).toInt64) - (((Int64.toUInt64 (((σ.2 0 19) * (6364136223846793005 : Int64)) + (1442695040888963407 : Int64))) >>> ((Int64.toUInt64 (Int32.toInt64 (33 : Int32))) &&& Int64.toUInt64 63)).toInt64) / (Int32.toInt64 (10 : Int32)) * (Int32.toInt64 (10 : Int32)))) else (0 : Int32))) → (¬ ((σ.1 0 15) ≤ (if ((1 : Int32) ≤ (10 : Int32)) then (Int64.toInt32 ((((Int64.toUInt64 (((((σ.2 0 19) * (6364136223846793005 : Int64)) + (1442695040888963407 : Int64)) * (6364136223846793005 : Int64)) + (1442695040888963407 : Int64))) >>> ((Int64.toUInt64 (Int32.toInt64 (33 : Int32))) &&& Int64.toUInt64 63)).toInt64) - (((Int64.toUInt64 (((((σ.2 0 19) * (6364136223846793005 : Int64)) + (1442695040888963407 : Int64)) * (6364136223846793005 : Int64)) + (1442695040888963407 : Int64))) >>> ((Int64.toUInt64 (Int32.toInt64 (33 : Int32))) &&& Int64.toUInt64 63)).toInt64) / (Int32.toInt64 (10 : Int32)) * (Int32.toInt64 (10 : Int32)))) else (0 : Int32)))) → (¬ ((σ.1 5 10) ≤ 0)) → ((1 : Int32) ≤ (σ.1 5 10)) → ¬ (Int32.toInt64 (σ.1 5 10)) = 0) (k6 : ((σ.1 0 14) ≤ (if ((1 : Int32) ≤ (10 : Int32)) then (Int64.toInt32 ((((Int64.toUInt64 (((σ.2 0 19) * (6364136223846793005 : Int64)) + (1442695040888963407 : Int64))) >>> ((Int64.toUInt64 (Int32.toInt64 (33 : Int32))) &&& Int64.toUInt64 63)).toInt64) - (((Int64.toUInt64 (((σ.2 0 19) * (6364136223846793005 : Int64)) + (1442695040888963407 : Int64))) >>> ((Int64.toUInt64 (Int32.toInt64 (33 : Int32))) &&& Int64.toUInt64 63)).toInt64) / (Int32.toInt64 (10 : Int32)) * (Int32.toInt64 (10 : Int32)))) else (0 : Int32))) → (¬ ((σ.1 0 15) ≤ (if ((1 : Int32) ≤ (10 : Int32)) then (Int64.toInt32 ((((Int64.toUInt64 (((((σ.2 0 19) * (6364136223846793005 : Int64)) + (1442695040888963407 : Int64)) * (6364136223846793005 : Int64)) + (1442695040888963407 : Int64))) >>> ((Int64.toUInt64 (Int32.toInt64 (33 : Int32))) &&& Int64.toUInt64 63)).toInt64) - (((Int64.toUInt64 (((((σ.2 0 19) * (6364136223846793005 : Int64)) + (1442695040888963407 : Int64)) * (6364136223846793005 : Int64)) + (1442695040888963407 : Int64))) >>> ((Int64.toUInt64 (Int32.toInt64 (33 : Int32))) &&& Int64.toUInt64 63)).toInt64) / (Int32.toInt64 (10 : Int32)) * (Int32.toInt64 (10 : Int32)))) else (0 : Int32)))) → (¬ ((σ.1 5 10) ≤ 0)) → ax_Ct shC d mX0_passSummer [ax_r 5] (fun r u => r = none ∧ ax_W shC (d + 1) mX11_decades Q 107 [some (ax_r 0), some (ax_i x1), none, none, some (ax_i x4)] [] u) (ax_ui (ax_ul (ax_ul (ax_ul σ 0 19 (((σ.2 0 19) * (6364136223846793005 : Int64)) + (1442695040888963407 : Int64))) 0 19 (((((σ.2 0 19) * (6364136223846793005 : Int64)) + (1442695040888963407 : Int64)) * (6364136223846793005 : Int64)) + (1442695040888963407 : Int64))) 0 19 (((((((σ.2 0 19) * (6364136223846793005 : Int64)) + (1442695040888963407 : Int64)) * (6364136223846793005 : Int64)) + (1442695040888963407 : Int64)) * (6364136223846793005 : Int64)) + (1442695040888963407 : Int64))) 5 11 ((σ.1 5 11) ||| ((1 : Int32) <<< ((if ((1 : Int32) ≤ (σ.1 5 10)) then (Int64.toInt32 ((((Int64.toUInt64 (((((((σ.2 0 19) * (6364136223846793005 : Int64)) + (1442695040888963407 : Int64)) * (6364136223846793005 : Int64)) + (1442695040888963407 : Int64)) * (6364136223846793005 : Int64)) + (1442695040888963407 : Int64))) >>> ((Int64.toUInt64 (Int32.toInt64 (33 : Int32))) &&& Int64.toUInt64 63)).toInt64) - (((Int64.toUInt64 (((((((σ.2 0 19) * (6364136223846793005 : Int64)) + (1442695040888963407 : Int64)) * (6364136223846793005 : Int64)) + (1442695040888963407 : Int64)) * (6364136223846793005 : Int64)) + (1442695040888963407 : Int64))) >>> ((Int64.toUInt64 (Int32.toInt64 (33 : Int32))) &&& Int64.toUInt64 63)).toInt64) / (Int32.toInt64 (σ.1 5 10)) * (Int32.toInt64 (σ.1 5 10)))) else (0 : Int32)) &&& 31))))) (k7 : (¬ ((σ.1 0 14) ≤ (if ((1 : Int32) ≤ (10 : Int32)) then (Int64.toInt32 ((((Int64.toUInt64 (((σ.2 0 19) * (6364136223846793005 : Int64)) + (1442695040888963407 : Int64))) >>> ((Int64.toUInt64 (Int32.toInt64 (33 : Int32))) &&& Int64.toUInt64 63)).toInt64) - (((Int64.toUInt64 (((σ.2 0 19) * (6364136223846793005 : Int64)) + (1442695040888963407 : Int64))) >>> ((Int64.toUInt64 (Int32.toInt64 (33 : Int32))) &&& Int64.toUInt64 63)).toInt64) / (Int32.toInt64 (10 : Int32)) * (Int32.toInt64 (10 : Int32)))) else (0 : Int32)))) → ax_Ct shC d mX11_strikeByChance [ax_r 0] (fun r u => r = none ∧ ax_W shC (d + 1) mX11_decades Q 52 [some (ax_r 0), some (ax_i x1), none, none, some (ax_i x4)] [] u) (ax_ul σ 0 19 (((σ.2 0 19) * (6364136223846793005 : Int64)) + (1442695040888963407 : Int64)))) : ax_W shC (d + 1) mX11_decades Q 35 [some (ax_r 0), some (ax_i x1), none, none, some (ax_i x4)] [] σ := by
  refine ax_aload_n (q := 36) (i := 0) dX11_decades_35 rfl rfl rfl ?_
  refine ax_bipush (q := 38) dX11_decades_36 rfl kb_10 ?_
  refine ax_callVfi (q := 41) (As := [ax_i (10 : Int32)]) (st := []) (x := (if ((1 : Int32) ≤ (10 : Int32)) then (Int64.toInt32 ((((Int64.toUInt64 (((σ.2 0 19) * (6364136223846793005 : Int64)) + (1442695040888963407 : Int64))) >>> ((Int64.toUInt64 (Int32.toInt64 (33 : Int32))) &&& Int64.toUInt64 63)).toInt64) - (((Int64.toUInt64 (((σ.2 0 19) * (6364136223846793005 : Int64)) + (1442695040888963407 : Int64))) >>> ((Int64.toUInt64 (Int32.toInt64 (33 : Int32))) &&& Int64.toUInt64 63)).toInt64) / (Int32.toInt64 (10 : Int32)) * (Int32.toInt64 (10 : Int32)))) else (0 : Int32))) (σ2 := (ax_ul σ 0 19 (((σ.2 0 19) * (6364136223846793005 : Int64)) + (1442695040888963407 : Int64)))) dX11_decades_38 rfl lk_X11_287 shC_0 rfl rfl rfl rfl (Nat.le_of_ble_eq_true rfl) (f_X11_draw σ (10 : Int32) h1 (d := d) (by omega)) ?_
  refine ax_aload_n (q := 42) (i := 0) dX11_decades_41 rfl rfl rfl ?_
  refine ax_get (q := 45) (k := 0) (j := 14) (v := ax_i (σ.1 0 14)) dX11_decades_42 rfl shC_0 rfl rfl rfl (by decide) fl_X11_99 ?_
  refine ax_icmp_ge (tgt := 52) (q := 48) dX11_decades_45 (by decide) rfl (fun c1 => ?_) (fun c1 => ?_)
  · refine ax_aload_n (q := 53) (i := 0) dX11_decades_52 rfl rfl rfl ?_
    refine ax_bipush (q := 55) dX11_decades_53 rfl kb_10 ?_
    refine ax_callVfi (q := 58) (As := [ax_i (10 : Int32)]) (st := []) (x := (if ((1 : Int32) ≤ (10 : Int32)) then (Int64.toInt32 ((((Int64.toUInt64 (((((σ.2 0 19) * (6364136223846793005 : Int64)) + (1442695040888963407 : Int64)) * (6364136223846793005 : Int64)) + (1442695040888963407 : Int64))) >>> ((Int64.toUInt64 (Int32.toInt64 (33 : Int32))) &&& Int64.toUInt64 63)).toInt64) - (((Int64.toUInt64 (((((σ.2 0 19) * (6364136223846793005 : Int64)) + (1442695040888963407 : Int64)) * (6364136223846793005 : Int64)) + (1442695040888963407 : Int64))) >>> ((Int64.toUInt64 (Int32.toInt64 (33 : Int32))) &&& Int64.toUInt64 63)).toInt64) / (Int32.toInt64 (10 : Int32)) * (Int32.toInt64 (10 : Int32)))) else (0 : Int32))) (σ2 := (ax_ul (ax_ul σ 0 19 (((σ.2 0 19) * (6364136223846793005 : Int64)) + (1442695040888963407 : Int64))) 0 19 (((((σ.2 0 19) * (6364136223846793005 : Int64)) + (1442695040888963407 : Int64)) * (6364136223846793005 : Int64)) + (1442695040888963407 : Int64)))) dX11_decades_55 rfl lk_X11_287 shC_0 rfl rfl rfl rfl (Nat.le_of_ble_eq_true rfl) (f_X11_draw (ax_ul σ 0 19 (((σ.2 0 19) * (6364136223846793005 : Int64)) + (1442695040888963407 : Int64))) (10 : Int32) (h2 c1) (d := d) (by omega)) ?_
    refine ax_aload_n (q := 59) (i := 0) dX11_decades_58 rfl rfl rfl ?_
    refine ax_get (q := 62) (k := 0) (j := 15) (v := ax_i (σ.1 0 15)) dX11_decades_59 rfl shC_0 rfl rfl rfl (by decide) fl_X11_233 ?_
    refine ax_icmp_ge (tgt := 100) (q := 65) dX11_decades_62 (by decide) rfl (fun c2 => ?_) (fun c2 => ?_)
    · refine ax_aload_n (q := 101) (i := 0) dX11_decades_100 rfl rfl rfl ?_
      refine ax_get (q := 104) (k := 0) (j := 4) (v := ax_r 5) dX11_decades_101 rfl shC_0 rfl rfl rfl (by decide) fl_X11_42 ?_
      exact ax_callVcv (q := 107) (As := []) (st := []) dX11_decades_104 rfl lk_X11_281 shC_5 rfl rfl rfl rfl (Nat.le_of_ble_eq_true rfl) (k3 c1 c2)
    · refine ax_aload_n (q := 66) (i := 0) dX11_decades_65 rfl rfl rfl ?_
      refine ax_get (q := 69) (k := 0) (j := 4) (v := ax_r 5) dX11_decades_66 rfl shC_0 rfl rfl rfl (by decide) fl_X11_42 ?_
      refine ax_get (q := 72) (k := 5) (j := 10) (v := ax_i (σ.1 5 10)) dX11_decades_69 rfl shC_5 rfl rfl rfl (by decide) fl_X11_221 ?_
      refine ax_if_le (tgt := 100) (q := 75) dX11_decades_72 (by decide) rfl (fun c3 => ?_) (fun c3 => ?_)
      · refine ax_aload_n (q := 101) (i := 0) dX11_decades_100 rfl rfl rfl ?_
        refine ax_get (q := 104) (k := 0) (j := 4) (v := ax_r 5) dX11_decades_101 rfl shC_0 rfl rfl rfl (by decide) fl_X11_42 ?_
        exact ax_callVcv (q := 107) (As := []) (st := []) dX11_decades_104 rfl lk_X11_281 shC_5 rfl rfl rfl rfl (Nat.le_of_ble_eq_true rfl) (k4 c1 c2 c3)
      · refine ax_aload_n (q := 76) (i := 0) dX11_decades_75 rfl rfl rfl ?_
        refine ax_get (q := 79) (k := 0) (j := 4) (v := ax_r 5) dX11_decades_76 rfl shC_0 rfl rfl rfl (by decide) fl_X11_42 ?_
        refine ax_dupr (q := 80) dX11_decades_79 rfl ?_
        refine ax_get (q := 83) (k := 5) (j := 11) (v := ax_i (σ.1 5 11)) dX11_decades_80 rfl shC_5 rfl rfl rfl (by decide) fl_X11_212 ?_
        refine ax_iconst (q := 84) dX11_decades_83 rfl ki_1 ?_
        refine ax_aload_n (q := 85) (i := 0) dX11_decades_84 rfl rfl rfl ?_
        refine ax_aload_n (q := 86) (i := 0) dX11_decades_85 rfl rfl rfl ?_
        refine ax_get (q := 89) (k := 0) (j := 4) (v := ax_r 5) dX11_decades_86 rfl shC_0 rfl rfl rfl (by decide) fl_X11_42 ?_
        refine ax_get (q := 92) (k := 5) (j := 10) (v := ax_i (σ.1 5 10)) dX11_decades_89 rfl shC_5 rfl rfl rfl (by decide) fl_X11_221 ?_
        refine ax_callVfi (q := 95) (As := [ax_i (σ.1 5 10)]) (st := [ax_i (1 : Int32), ax_i (σ.1 5 11), ax_r 5]) (x := (if ((1 : Int32) ≤ (σ.1 5 10)) then (Int64.toInt32 ((((Int64.toUInt64 (((((((σ.2 0 19) * (6364136223846793005 : Int64)) + (1442695040888963407 : Int64)) * (6364136223846793005 : Int64)) + (1442695040888963407 : Int64)) * (6364136223846793005 : Int64)) + (1442695040888963407 : Int64))) >>> ((Int64.toUInt64 (Int32.toInt64 (33 : Int32))) &&& Int64.toUInt64 63)).toInt64) - (((Int64.toUInt64 (((((((σ.2 0 19) * (6364136223846793005 : Int64)) + (1442695040888963407 : Int64)) * (6364136223846793005 : Int64)) + (1442695040888963407 : Int64)) * (6364136223846793005 : Int64)) + (1442695040888963407 : Int64))) >>> ((Int64.toUInt64 (Int32.toInt64 (33 : Int32))) &&& Int64.toUInt64 63)).toInt64) / (Int32.toInt64 (σ.1 5 10)) * (Int32.toInt64 (σ.1 5 10)))) else (0 : Int32))) (σ2 := (ax_ul (ax_ul (ax_ul σ 0 19 (((σ.2 0 19) * (6364136223846793005 : Int64)) + (1442695040888963407 : Int64))) 0 19 (((((σ.2 0 19) * (6364136223846793005 : Int64)) + (1442695040888963407 : Int64)) * (6364136223846793005 : Int64)) + (1442695040888963407 : Int64))) 0 19 (((((((σ.2 0 19) * (6364136223846793005 : Int64)) + (1442695040888963407 : Int64)) * (6364136223846793005 : Int64)) + (1442695040888963407 : Int64)) * (6364136223846793005 : Int64)) + (1442695040888963407 : Int64)))) dX11_decades_92 rfl lk_X11_287 shC_0 rfl rfl rfl rfl (Nat.le_of_ble_eq_true rfl) (f_X11_draw (ax_ul (ax_ul σ 0 19 (((σ.2 0 19) * (6364136223846793005 : Int64)) + (1442695040888963407 : Int64))) 0 19 (((((σ.2 0 19) * (6364136223846793005 : Int64)) + (1442695040888963407 : Int64)) * (6364136223846793005 : Int64)) + (1442695040888963407 : Int64))) (σ.1 5 10) (h5 c1 c2 c3) (d := d) (by omega)) ?_
        refine ax_ishl (q := 96) dX11_decades_95 rfl ?_
        refine ax_ior (q := 97) dX11_decades_96 rfl ?_
        refine ax_puti (q := 100) (k := 5) (j := 11) dX11_decades_97 rfl shC_5 rfl rfl (by decide) fl_X11_212 rfl rfl rfl rfl ?_
        refine ax_aload_n (q := 101) (i := 0) dX11_decades_100 rfl rfl rfl ?_
        refine ax_get (q := 104) (k := 0) (j := 4) (v := ax_r 5) dX11_decades_101 rfl shC_0 rfl rfl rfl (by decide) fl_X11_42 ?_
        exact ax_callVcv (q := 107) (As := []) (st := []) dX11_decades_104 rfl lk_X11_281 shC_5 rfl rfl rfl rfl (Nat.le_of_ble_eq_true rfl) (k6 c1 c2 c3)
  · refine ax_aload_n (q := 49) (i := 0) dX11_decades_48 rfl rfl rfl ?_
    exact ax_callVcv (q := 52) (As := []) (st := []) dX11_decades_49 rfl lk_X11_290 shC_0 rfl rfl rfl rfl (Nat.le_of_ble_eq_true rfl) (k7 c1)
set_option maxRecDepth 20000 in
theorem s_X11_decades_107 {d : Nat} (hd : 0 ≤ d) {Q : Option ax_V → ax_S → Prop} (σ : ax_S) (x1 : Int32) (x4 : Int32) (k1 : ax_W shC (d + 1) mX11_decades Q 25 [some (ax_r 0), some (ax_i x1), none, none, some (ax_i (x4 + (1 : Int32)))] [] σ) : ax_W shC (d + 1) mX11_decades Q 107 [some (ax_r 0), some (ax_i x1), none, none, some (ax_i x4)] [] σ := by
  refine ax_iincK (q := 110) (lv2 := [some (ax_r 0), some (ax_i x1), none, none, some (ax_i (x4 + (1 : Int32)))]) dX11_decades_107 rfl rfl ki_1 (by decide) rfl rfl ?_
  refine ax_goto (tgt := 25) dX11_decades_110 (by decide) ?_
  exact k1
set_option maxRecDepth 20000 in
theorem s_X11_decades_52 {d : Nat} (hd : 1 ≤ d) {Q : Option ax_V → ax_S → Prop} (σ : ax_S) (x1 : Int32) (x4 : Int32) (h1 : ((1 : Int32) ≤ (10 : Int32)) → ¬ (Int32.toInt64 (10 : Int32)) = 0) (k2 : ((σ.1 0 15) ≤ (if ((1 : Int32) ≤ (10 : Int32)) then (Int64.toInt32 ((((Int64.toUInt64 (((σ.2 0 19) * (6364136223846793005 : Int64)) + (1442695040888963407 : Int64))) >>> ((Int64.toUInt64 (Int32.toInt64 (33 : Int32))) &&& Int64.toUInt64 63)).toInt64) - (((Int64.toUInt64 (((σ.2 0 19) * (6364136223846793005 : Int64)) + (1442695040888963407 : Int64))) >>> ((Int64.toUInt64 (Int32.toInt64 (33 : Int32))) &&& Int64.toUInt64 63)).toInt64) / (Int32.toInt64 (10 : Int32)) * (Int32.toInt64 (10 : Int32)))) else (0 : Int32))) → ax_Ct shC d mX0_passSummer [ax_r 5] (fun r u => r = none ∧ ax_W shC (d + 1) mX11_decades Q 107 [some (ax_r 0), some (ax_i x1), none, none, some (ax_i x4)] [] u) (ax_ul σ 0 19 (((σ.2 0 19) * (6364136223846793005 : Int64)) + (1442695040888963407 : Int64)))) (k3 : (¬ ((σ.1 0 15) ≤ (if ((1 : Int32) ≤ (10 : Int32)) then (Int64.toInt32 ((((Int64.toUInt64 (((σ.2 0 19) * (6364136223846793005 : Int64)) + (1442695040888963407 : Int64))) >>> ((Int64.toUInt64 (Int32.toInt64 (33 : Int32))) &&& Int64.toUInt64 63)).toInt64) - (((Int64.toUInt64 (((σ.2 0 19) * (6364136223846793005 : Int64)) + (1442695040888963407 : Int64))) >>> ((Int64.toUInt64 (Int32.toInt64 (33 : Int32))) &&& Int64.toUInt64 63)).toInt64) / (Int32.toInt64 (10 : Int32)) * (Int32.toInt64 (10 : Int32)))) else (0 : Int32)))) → ((σ.1 5 10) ≤ 0) → ax_Ct shC d mX0_passSummer [ax_r 5] (fun r u => r = none ∧ ax_W shC (d + 1) mX11_decades Q 107 [some (ax_r 0), some (ax_i x1), none, none, some (ax_i x4)] [] u) (ax_ul σ 0 19 (((σ.2 0 19) * (6364136223846793005 : Int64)) + (1442695040888963407 : Int64)))) (h4 : (¬ ((σ.1 0 15) ≤ (if ((1 : Int32) ≤ (10 : Int32)) then (Int64.toInt32 ((((Int64.toUInt64 (((σ.2 0 19) * (6364136223846793005 : Int64)) + (1442695040888963407 : Int64))) >>> ((Int64.toUInt64 (Int32.toInt64 (33 : Int32))) &&& Int64.toUInt64 63)).toInt64) - (((Int64.toUInt64 (((σ.2 0 19) * (6364136223846793005 : Int64)) + (1442695040888963407 : Int64))) >>> ((Int64.toUInt64 (Int32.toInt64 (33 : Int32))) &&& Int64.toUInt64 63)).toInt64) / (Int32.toInt64 (10 : Int32)) * (Int32.toInt64 (10 : Int32)))) else (0 : Int32)))) → (¬ ((σ.1 5 10) ≤ 0)) → ((1 : Int32) ≤ (σ.1 5 10)) → ¬ (Int32.toInt64 (σ.1 5 10)) = 0) (k5 : (¬ ((σ.1 0 15) ≤ (if ((1 : Int32) ≤ (10 : Int32)) then (Int64.toInt32 ((((Int64.toUInt64 (((σ.2 0 19) * (6364136223846793005 : Int64)) + (1442695040888963407 : Int64))) >>> ((Int64.toUInt64 (Int32.toInt64 (33 : Int32))) &&& Int64.toUInt64 63)).toInt64) - (((Int64.toUInt64 (((σ.2 0 19) * (6364136223846793005 : Int64)) + (1442695040888963407 : Int64))) >>> ((Int64.toUInt64 (Int32.toInt64 (33 : Int32))) &&& Int64.toUInt64 63)).toInt64) / (Int32.toInt64 (10 : Int32)) * (Int32.toInt64 (10 : Int32)))) else (0 : Int32)))) → (¬ ((σ.1 5 10) ≤ 0)) → ax_Ct shC d mX0_passSummer [ax_r 5] (fun r u => r = none ∧ ax_W shC (d + 1) mX11_decades Q 107 [some (ax_r 0), some (ax_i x1), none, none, some (ax_i x4)] [] u) (ax_ui (ax_ul (ax_ul σ 0 19 (((σ.2 0 19) * (6364136223846793005 : Int64)) + (1442695040888963407 : Int64))) 0 19 (((((σ.2 0 19) * (6364136223846793005 : Int64)) + (1442695040888963407 : Int64)) * (6364136223846793005 : Int64)) + (1442695040888963407 : Int64))) 5 11 ((σ.1 5 11) ||| ((1 : Int32) <<< ((if ((1 : Int32) ≤ (σ.1 5 10)) then (Int64.toInt32 ((((Int64.toUInt64 (((((σ.2 0 19) * (6364136223846793005 : Int64)) + (1442695040888963407 : Int64)) * (6364136223846793005 : Int64)) + (1442695040888963407 : Int64))) >>> ((Int64.toUInt64 (Int32.toInt64 (33 : Int32))) &&& Int64.toUInt64 63)).toInt64) - (((Int64.toUInt64 (((((σ.2 0 19) * (6364136223846793005 : Int64)) + (1442695040888963407 : Int64)) * (6364136223846793005 : Int64)) + (1442695040888963407 : Int64))) >>> ((Int64.toUInt64 (Int32.toInt64 (33 : Int32))) &&& Int64.toUInt64 63)).toInt64) / (Int32.toInt64 (σ.1 5 10)) * (Int32.toInt64 (σ.1 5 10)))) else (0 : Int32)) &&& 31))))) : ax_W shC (d + 1) mX11_decades Q 52 [some (ax_r 0), some (ax_i x1), none, none, some (ax_i x4)] [] σ := by
  refine ax_aload_n (q := 53) (i := 0) dX11_decades_52 rfl rfl rfl ?_
  refine ax_bipush (q := 55) dX11_decades_53 rfl kb_10 ?_
  refine ax_callVfi (q := 58) (As := [ax_i (10 : Int32)]) (st := []) (x := (if ((1 : Int32) ≤ (10 : Int32)) then (Int64.toInt32 ((((Int64.toUInt64 (((σ.2 0 19) * (6364136223846793005 : Int64)) + (1442695040888963407 : Int64))) >>> ((Int64.toUInt64 (Int32.toInt64 (33 : Int32))) &&& Int64.toUInt64 63)).toInt64) - (((Int64.toUInt64 (((σ.2 0 19) * (6364136223846793005 : Int64)) + (1442695040888963407 : Int64))) >>> ((Int64.toUInt64 (Int32.toInt64 (33 : Int32))) &&& Int64.toUInt64 63)).toInt64) / (Int32.toInt64 (10 : Int32)) * (Int32.toInt64 (10 : Int32)))) else (0 : Int32))) (σ2 := (ax_ul σ 0 19 (((σ.2 0 19) * (6364136223846793005 : Int64)) + (1442695040888963407 : Int64)))) dX11_decades_55 rfl lk_X11_287 shC_0 rfl rfl rfl rfl (Nat.le_of_ble_eq_true rfl) (f_X11_draw σ (10 : Int32) h1 (d := d) (by omega)) ?_
  refine ax_aload_n (q := 59) (i := 0) dX11_decades_58 rfl rfl rfl ?_
  refine ax_get (q := 62) (k := 0) (j := 15) (v := ax_i (σ.1 0 15)) dX11_decades_59 rfl shC_0 rfl rfl rfl (by decide) fl_X11_233 ?_
  refine ax_icmp_ge (tgt := 100) (q := 65) dX11_decades_62 (by decide) rfl (fun c1 => ?_) (fun c1 => ?_)
  · refine ax_aload_n (q := 101) (i := 0) dX11_decades_100 rfl rfl rfl ?_
    refine ax_get (q := 104) (k := 0) (j := 4) (v := ax_r 5) dX11_decades_101 rfl shC_0 rfl rfl rfl (by decide) fl_X11_42 ?_
    exact ax_callVcv (q := 107) (As := []) (st := []) dX11_decades_104 rfl lk_X11_281 shC_5 rfl rfl rfl rfl (Nat.le_of_ble_eq_true rfl) (k2 c1)
  · refine ax_aload_n (q := 66) (i := 0) dX11_decades_65 rfl rfl rfl ?_
    refine ax_get (q := 69) (k := 0) (j := 4) (v := ax_r 5) dX11_decades_66 rfl shC_0 rfl rfl rfl (by decide) fl_X11_42 ?_
    refine ax_get (q := 72) (k := 5) (j := 10) (v := ax_i (σ.1 5 10)) dX11_decades_69 rfl shC_5 rfl rfl rfl (by decide) fl_X11_221 ?_
    refine ax_if_le (tgt := 100) (q := 75) dX11_decades_72 (by decide) rfl (fun c2 => ?_) (fun c2 => ?_)
    · refine ax_aload_n (q := 101) (i := 0) dX11_decades_100 rfl rfl rfl ?_
      refine ax_get (q := 104) (k := 0) (j := 4) (v := ax_r 5) dX11_decades_101 rfl shC_0 rfl rfl rfl (by decide) fl_X11_42 ?_
      exact ax_callVcv (q := 107) (As := []) (st := []) dX11_decades_104 rfl lk_X11_281 shC_5 rfl rfl rfl rfl (Nat.le_of_ble_eq_true rfl) (k3 c1 c2)
    · refine ax_aload_n (q := 76) (i := 0) dX11_decades_75 rfl rfl rfl ?_
      refine ax_get (q := 79) (k := 0) (j := 4) (v := ax_r 5) dX11_decades_76 rfl shC_0 rfl rfl rfl (by decide) fl_X11_42 ?_
      refine ax_dupr (q := 80) dX11_decades_79 rfl ?_
      refine ax_get (q := 83) (k := 5) (j := 11) (v := ax_i (σ.1 5 11)) dX11_decades_80 rfl shC_5 rfl rfl rfl (by decide) fl_X11_212 ?_
      refine ax_iconst (q := 84) dX11_decades_83 rfl ki_1 ?_
      refine ax_aload_n (q := 85) (i := 0) dX11_decades_84 rfl rfl rfl ?_
      refine ax_aload_n (q := 86) (i := 0) dX11_decades_85 rfl rfl rfl ?_
      refine ax_get (q := 89) (k := 0) (j := 4) (v := ax_r 5) dX11_decades_86 rfl shC_0 rfl rfl rfl (by decide) fl_X11_42 ?_
      refine ax_get (q := 92) (k := 5) (j := 10) (v := ax_i (σ.1 5 10)) dX11_decades_89 rfl shC_5 rfl rfl rfl (by decide) fl_X11_221 ?_
      refine ax_callVfi (q := 95) (As := [ax_i (σ.1 5 10)]) (st := [ax_i (1 : Int32), ax_i (σ.1 5 11), ax_r 5]) (x := (if ((1 : Int32) ≤ (σ.1 5 10)) then (Int64.toInt32 ((((Int64.toUInt64 (((((σ.2 0 19) * (6364136223846793005 : Int64)) + (1442695040888963407 : Int64)) * (6364136223846793005 : Int64)) + (1442695040888963407 : Int64))) >>> ((Int64.toUInt64 (Int32.toInt64 (33 : Int32))) &&& Int64.toUInt64 63)).toInt64) - (((Int64.toUInt64 (((((σ.2 0 19) * (6364136223846793005 : Int64)) + (1442695040888963407 : Int64)) * (6364136223846793005 : Int64)) + (1442695040888963407 : Int64))) >>> ((Int64.toUInt64 (Int32.toInt64 (33 : Int32))) &&& Int64.toUInt64 63)).toInt64) / (Int32.toInt64 (σ.1 5 10)) * (Int32.toInt64 (σ.1 5 10)))) else (0 : Int32))) (σ2 := (ax_ul (ax_ul σ 0 19 (((σ.2 0 19) * (6364136223846793005 : Int64)) + (1442695040888963407 : Int64))) 0 19 (((((σ.2 0 19) * (6364136223846793005 : Int64)) + (1442695040888963407 : Int64)) * (6364136223846793005 : Int64)) + (1442695040888963407 : Int64)))) dX11_decades_92 rfl lk_X11_287 shC_0 rfl rfl rfl rfl (Nat.le_of_ble_eq_true rfl) (f_X11_draw (ax_ul σ 0 19 (((σ.2 0 19) * (6364136223846793005 : Int64)) + (1442695040888963407 : Int64))) (σ.1 5 10) (h4 c1 c2) (d := d) (by omega)) ?_
      refine ax_ishl (q := 96) dX11_decades_95 rfl ?_
      refine ax_ior (q := 97) dX11_decades_96 rfl ?_
      refine ax_puti (q := 100) (k := 5) (j := 11) dX11_decades_97 rfl shC_5 rfl rfl (by decide) fl_X11_212 rfl rfl rfl rfl ?_
      refine ax_aload_n (q := 101) (i := 0) dX11_decades_100 rfl rfl rfl ?_
      refine ax_get (q := 104) (k := 0) (j := 4) (v := ax_r 5) dX11_decades_101 rfl shC_0 rfl rfl rfl (by decide) fl_X11_42 ?_
      exact ax_callVcv (q := 107) (As := []) (st := []) dX11_decades_104 rfl lk_X11_281 shC_5 rfl rfl rfl rfl (Nat.le_of_ble_eq_true rfl) (k5 c1 c2)
set_option maxRecDepth 20000 in
theorem s_X11_undo_0 {d : Nat} (hd : 0 ≤ d) {Q : Option ax_V → ax_S → Prop} (σ : ax_S)  (k1 : (¬ (σ.1 7 1) = 0) → ax_Ct shC d mX5_goBack [ax_r 7, ax_r 5] (fun r u => ∃ x : Int32, r = some (ax_i x) ∧ ax_W shC (d + 1) mX11_undo Q 27 [some (ax_r 0)] (ax_i x :: [ax_r 8]) u) σ) (k2 : (¬ (¬ (σ.1 7 1) = 0)) → Q (some (ax_i (-1 : Int32))) σ) : ax_W shC (d + 1) mX11_undo Q 0 [some (ax_r 0)] [] σ := by
  refine ax_aload_n (q := 1) (i := 0) dX11_undo_0 rfl rfl rfl ?_
  refine ax_get (q := 4) (k := 0) (j := 6) (v := ax_r 7) dX11_undo_1 rfl shC_0 rfl rfl rfl (by decide) fl_X11_58 ?_
  refine ax_get (q := 7) (k := 7) (j := 1) (v := ax_i (σ.1 7 1)) dX11_undo_4 rfl shC_7 rfl rfl rfl (by decide) fl_X11_238 ?_
  refine ax_if_ne (tgt := 12) (q := 10) dX11_undo_7 (by decide) rfl (fun c1 => ?_) (fun c1 => ?_)
  · refine ax_aload_n (q := 13) (i := 0) dX11_undo_12 rfl rfl rfl ?_
    refine ax_get (q := 16) (k := 0) (j := 7) (v := ax_r 8) dX11_undo_13 rfl shC_0 rfl rfl rfl (by decide) fl_X11_65 ?_
    refine ax_aload_n (q := 17) (i := 0) dX11_undo_16 rfl rfl rfl ?_
    refine ax_get (q := 20) (k := 0) (j := 6) (v := ax_r 7) dX11_undo_17 rfl shC_0 rfl rfl rfl (by decide) fl_X11_58 ?_
    refine ax_aload_n (q := 21) (i := 0) dX11_undo_20 rfl rfl rfl ?_
    refine ax_get (q := 24) (k := 0) (j := 4) (v := ax_r 5) dX11_undo_21 rfl shC_0 rfl rfl rfl (by decide) fl_X11_42 ?_
    exact ax_callVci (q := 27) (As := [ax_r 5]) (st := [ax_r 8]) dX11_undo_24 rfl lk_X11_293 shC_7 rfl rfl rfl rfl (Nat.le_of_ble_eq_true rfl) (k1 c1)
  · refine ax_iconst (q := 11) dX11_undo_10 rfl ki_m1 ?_
    exact ax_iret dX11_undo_11 rfl rfl (k2 c1)
set_option maxRecDepth 20000 in
theorem s_X11_undo_27 {d : Nat} (hd : 0 ≤ d) {Q : Option ax_V → ax_S → Prop} (σ : ax_S) (rr : Int32) (k1 : Q (some (ax_i (σ.1 7 1))) (ax_ui σ 8 2 rr)) : ax_W shC (d + 1) mX11_undo Q 27 [some (ax_r 0)] [ax_i rr, ax_r 8] σ := by
  refine ax_puti (q := 30) (k := 8) (j := 2) dX11_undo_27 rfl shC_8 rfl rfl (by decide) fl_X11_297 rfl rfl rfl rfl ?_
  refine ax_aload_n (q := 31) (i := 0) dX11_undo_30 rfl rfl rfl ?_
  refine ax_get (q := 34) (k := 0) (j := 6) (v := ax_r 7) dX11_undo_31 rfl shC_0 rfl rfl rfl (by decide) fl_X11_58 ?_
  refine ax_get (q := 37) (k := 7) (j := 1) (v := ax_i (σ.1 7 1)) dX11_undo_34 rfl shC_7 rfl rfl rfl (by decide) fl_X11_238 ?_
  exact ax_iret dX11_undo_37 rfl rfl k1
set_option maxRecDepth 20000 in
theorem s_X11_image_0 {d : Nat} (hd : 1 ≤ d) {Q : Option ax_V → ax_S → Prop} (σ : ax_S)  (k1 : (¬ ((σ.1 5 9) ≤ 0)) → ax_Ct shC d mX0_write [ax_r 5, ax_r 12, ax_i (0 : Int32)] (fun r u => r = none ∧ ax_W shC (d + 1) mX11_image Q 21 [some (ax_r 0)] [] u) σ) (k2 : (¬ (¬ ((σ.1 5 9) ≤ 0))) → Q (some (ax_i (-1 : Int32))) σ) : ax_W shC (d + 1) mX11_image Q 0 [some (ax_r 0)] [] σ := by
  refine ax_aload_n (q := 1) (i := 0) dX11_image_0 rfl rfl rfl ?_
  refine ax_callVfi (q := 4) (As := []) (st := []) (x := (if (¬ ((σ.1 5 9) ≤ 0)) then (1 : Int32) else 0)) (σ2 := σ) dX11_image_1 rfl lk_X11_274 shC_0 rfl rfl rfl rfl (Nat.le_of_ble_eq_true rfl) (f_X11_hasBelt σ   (d := d) (by omega)) ?_
  refine ax_if_neB (tgt := 9) (q := 7) dX11_image_4 (by decide) rfl (fun c1 => ?_) (fun c1 => ?_)
  · refine ax_aload_n (q := 10) (i := 0) dX11_image_9 rfl rfl rfl ?_
    refine ax_get (q := 13) (k := 0) (j := 4) (v := ax_r 5) dX11_image_10 rfl shC_0 rfl rfl rfl (by decide) fl_X11_42 ?_
    refine ax_aload_n (q := 14) (i := 0) dX11_image_13 rfl rfl rfl ?_
    refine ax_get (q := 17) (k := 0) (j := 11) (v := ax_r 12) dX11_image_14 rfl shC_0 rfl rfl rfl (by decide) fl_X11_92 ?_
    refine ax_iconst (q := 18) dX11_image_17 rfl ki_0 ?_
    exact ax_callVcv (q := 21) (As := [ax_r 12, ax_i (0 : Int32)]) (st := []) dX11_image_18 rfl lk_X11_298 shC_5 rfl rfl rfl rfl (Nat.le_of_ble_eq_true rfl) (k1 c1)
  · refine ax_iconst (q := 8) dX11_image_7 rfl ki_m1 ?_
    exact ax_iret dX11_image_8 rfl rfl (k2 c1)
set_option maxRecDepth 20000 in
theorem s_X11_image_21 {d : Nat} (hd : 0 ≤ d) {Q : Option ax_V → ax_S → Prop} (σ : ax_S)  (k1 : ax_Ct shC d mX2_keep [ax_r 8] (fun r u => r = none ∧ ax_W shC (d + 1) mX11_image Q 28 [some (ax_r 0)] [] u) σ) : ax_W shC (d + 1) mX11_image Q 21 [some (ax_r 0)] [] σ := by
  refine ax_aload_n (q := 22) (i := 0) dX11_image_21 rfl rfl rfl ?_
  refine ax_get (q := 25) (k := 0) (j := 7) (v := ax_r 8) dX11_image_22 rfl shC_0 rfl rfl rfl (by decide) fl_X11_65 ?_
  exact ax_callVcv (q := 28) (As := []) (st := []) dX11_image_25 rfl lk_X11_302 shC_8 rfl rfl rfl rfl (Nat.le_of_ble_eq_true rfl) k1
set_option maxRecDepth 20000 in
theorem s_X11_image_28 {d : Nat} (hd : 0 ≤ d) {Q : Option ax_V → ax_S → Prop} (σ : ax_S)  (k1 : Q (some (ax_i (σ.1 5 14))) (ax_ui σ 0 13 (1 : Int32))) : ax_W shC (d + 1) mX11_image Q 28 [some (ax_r 0)] [] σ := by
  refine ax_aload_n (q := 29) (i := 0) dX11_image_28 rfl rfl rfl ?_
  refine ax_iconst (q := 30) dX11_image_29 rfl ki_1 ?_
  refine ax_puti (q := 33) (k := 0) (j := 13) dX11_image_30 rfl shC_0 rfl rfl (by decide) fl_X11_147 rfl rfl rfl rfl ?_
  refine ax_aload_n (q := 34) (i := 0) dX11_image_33 rfl rfl rfl ?_
  refine ax_get (q := 37) (k := 0) (j := 4) (v := ax_r 5) dX11_image_34 rfl shC_0 rfl rfl rfl (by decide) fl_X11_42 ?_
  refine ax_get (q := 40) (k := 5) (j := 14) (v := ax_i (σ.1 5 14)) dX11_image_37 rfl shC_5 rfl rfl rfl (by decide) fl_X11_224 ?_
  exact ax_iret dX11_image_40 rfl rfl k1
set_option maxRecDepth 20000 in
theorem s_X11_back_0 {d : Nat} (hd : 0 ≤ d) {Q : Option ax_V → ax_S → Prop} (σ : ax_S)  (k1 : (¬ (σ.1 0 13) = 0) → ax_Ct shC d mX0_read [ax_r 5, ax_r 12, ax_i (0 : Int32)] (fun r u => r = none ∧ ax_W shC (d + 1) mX11_back Q 21 [some (ax_r 0)] [] u) σ) (k2 : (¬ (¬ (σ.1 0 13) = 0)) → Q (some (ax_i (-1 : Int32))) σ) : ax_W shC (d + 1) mX11_back Q 0 [some (ax_r 0)] [] σ := by
  refine ax_aload_n (q := 1) (i := 0) dX11_back_0 rfl rfl rfl ?_
  refine ax_get (q := 4) (k := 0) (j := 13) (v := ax_i (σ.1 0 13)) dX11_back_1 rfl shC_0 rfl rfl rfl (by decide) fl_X11_147 ?_
  refine ax_if_ne (tgt := 9) (q := 7) dX11_back_4 (by decide) rfl (fun c1 => ?_) (fun c1 => ?_)
  · refine ax_aload_n (q := 10) (i := 0) dX11_back_9 rfl rfl rfl ?_
    refine ax_get (q := 13) (k := 0) (j := 4) (v := ax_r 5) dX11_back_10 rfl shC_0 rfl rfl rfl (by decide) fl_X11_42 ?_
    refine ax_aload_n (q := 14) (i := 0) dX11_back_13 rfl rfl rfl ?_
    refine ax_get (q := 17) (k := 0) (j := 11) (v := ax_r 12) dX11_back_14 rfl shC_0 rfl rfl rfl (by decide) fl_X11_92 ?_
    refine ax_iconst (q := 18) dX11_back_17 rfl ki_0 ?_
    exact ax_callVcv (q := 21) (As := [ax_r 12, ax_i (0 : Int32)]) (st := []) dX11_back_18 rfl lk_X11_305 shC_5 rfl rfl rfl rfl (Nat.le_of_ble_eq_true rfl) (k1 c1)
  · refine ax_iconst (q := 8) dX11_back_7 rfl ki_m1 ?_
    exact ax_iret dX11_back_8 rfl rfl (k2 c1)
set_option maxRecDepth 20000 in
theorem s_X11_back_21 {d : Nat} (hd : 0 ≤ d) {Q : Option ax_V → ax_S → Prop} (σ : ax_S)  (k1 : ax_Ct shC d mX2_giveBack [ax_r 8] (fun r u => r = none ∧ ax_W shC (d + 1) mX11_back Q 28 [some (ax_r 0)] [] u) σ) : ax_W shC (d + 1) mX11_back Q 21 [some (ax_r 0)] [] σ := by
  refine ax_aload_n (q := 22) (i := 0) dX11_back_21 rfl rfl rfl ?_
  refine ax_get (q := 25) (k := 0) (j := 7) (v := ax_r 8) dX11_back_22 rfl shC_0 rfl rfl rfl (by decide) fl_X11_65 ?_
  exact ax_callVcv (q := 28) (As := []) (st := []) dX11_back_25 rfl lk_X11_308 shC_8 rfl rfl rfl rfl (Nat.le_of_ble_eq_true rfl) k1
set_option maxRecDepth 20000 in
theorem s_X11_back_28 {d : Nat} (hd : 1 ≤ d) {Q : Option ax_V → ax_S → Prop} (σ : ax_S)  (k1 : Q (some (ax_i (σ.1 5 14))) (ax_ui σ 7 1 (0 : Int32))) : ax_W shC (d + 1) mX11_back Q 28 [some (ax_r 0)] [] σ := by
  refine ax_aload_n (q := 29) (i := 0) dX11_back_28 rfl rfl rfl ?_
  refine ax_get (q := 32) (k := 0) (j := 6) (v := ax_r 7) dX11_back_29 rfl shC_0 rfl rfl rfl (by decide) fl_X11_58 ?_
  refine ax_callVfv (q := 35) (As := []) (st := []) (σ2 := (ax_ui σ 7 1 (0 : Int32))) dX11_back_32 rfl lk_X11_142 shC_7 rfl rfl rfl rfl (Nat.le_of_ble_eq_true rfl) (f_X5_clear σ   (d := d) (by omega)) ?_
  refine ax_aload_n (q := 36) (i := 0) dX11_back_35 rfl rfl rfl ?_
  refine ax_get (q := 39) (k := 0) (j := 4) (v := ax_r 5) dX11_back_36 rfl shC_0 rfl rfl rfl (by decide) fl_X11_42 ?_
  refine ax_get (q := 42) (k := 5) (j := 14) (v := ax_i (σ.1 5 14)) dX11_back_39 rfl shC_5 rfl rfl rfl (by decide) fl_X11_224 ?_
  exact ax_iret dX11_back_42 rfl rfl k1
set_option maxRecDepth 20000 in
theorem s_X11_keeps_0 {d : Nat} (hd : 1 ≤ d) {Q : Option ax_V → ax_S → Prop} (σ : ax_S) (a0 : Int32) (a1 : Int32) (a2 : Int32) (k1 : (¬ ((¬ (a0 < 0)) ∧ (¬ ((σ.1 5 9) ≤ a0)))) → Q (some (ax_i (-1 : Int32))) σ) (k2 : ((¬ (a0 < 0)) ∧ (¬ ((σ.1 5 9) ≤ a0))) → (¬ ((¬ (a2 < 0)) ∧ (¬ ((σ.1 5 9) ≤ a2)))) → Q (some (ax_i (-1 : Int32))) σ) (k3 : ((¬ (a0 < 0)) ∧ (¬ ((σ.1 5 9) ≤ a0))) → ((¬ (a2 < 0)) ∧ (¬ ((σ.1 5 9) ≤ a2))) → ((¬ (a1 < (1 : Int32))) ∧ (¬ ((999 : Int32) < a1))) → ax_Ct shC d mX0_live [ax_r 5] (fun r u => ∃ x : Int32, r = some (ax_i x) ∧ ax_W shC (d + 1) mX11_keeps Q 36 [some (ax_r 0), some (ax_i a0), some (ax_i a1), some (ax_i a2)] (ax_i x :: [ax_r 6]) u) σ) (k4 : ((¬ (a0 < 0)) ∧ (¬ ((σ.1 5 9) ≤ a0))) → ((¬ (a2 < 0)) ∧ (¬ ((σ.1 5 9) ≤ a2))) → (¬ ((¬ (a1 < (1 : Int32))) ∧ (¬ ((999 : Int32) < a1)))) → Q (some (ax_i (-1 : Int32))) σ) : ax_W shC (d + 1) mX11_keeps Q 0 [some (ax_r 0), some (ax_i a0), some (ax_i a1), some (ax_i a2)] [] σ := by
  refine ax_aload_n (q := 1) (i := 0) dX11_keeps_0 rfl rfl rfl ?_
  refine ax_iload_n (q := 2) (i := 1) dX11_keeps_1 rfl rfl rfl ?_
  refine ax_callVfi (q := 5) (As := [ax_i a0]) (st := []) (x := (if ((¬ (a0 < 0)) ∧ (¬ ((σ.1 5 9) ≤ a0))) then (1 : Int32) else 0)) (σ2 := σ) dX11_keeps_2 rfl lk_X11_160 shC_0 rfl rfl rfl rfl (Nat.le_of_ble_eq_true rfl) (f_X11_isHouse σ a0  (d := d) (by omega)) ?_
  refine ax_if_eqB (tgt := 23) (q := 8) dX11_keeps_5 (by decide) rfl (fun c1 => ?_) (fun c1 => ?_)
  · refine ax_iconst (q := 24) dX11_keeps_23 rfl ki_m1 ?_
    exact ax_iret dX11_keeps_24 rfl rfl (k1 c1)
  · refine ax_aload_n (q := 9) (i := 0) dX11_keeps_8 rfl rfl rfl ?_
    refine ax_iload_n (q := 10) (i := 3) dX11_keeps_9 rfl rfl rfl ?_
    refine ax_callVfi (q := 13) (As := [ax_i a2]) (st := []) (x := (if ((¬ (a2 < 0)) ∧ (¬ ((σ.1 5 9) ≤ a2))) then (1 : Int32) else 0)) (σ2 := σ) dX11_keeps_10 rfl lk_X11_160 shC_0 rfl rfl rfl rfl (Nat.le_of_ble_eq_true rfl) (f_X11_isHouse σ a2  (d := d) (by omega)) ?_
    refine ax_if_eqB (tgt := 23) (q := 16) dX11_keeps_13 (by decide) rfl (fun c2 => ?_) (fun c2 => ?_)
    · refine ax_iconst (q := 24) dX11_keeps_23 rfl ki_m1 ?_
      exact ax_iret dX11_keeps_24 rfl rfl (k2 c1 c2)
    · refine ax_iload_n (q := 17) (i := 2) dX11_keeps_16 rfl rfl rfl ?_
      refine ax_callSfi (q := 20) (As := [ax_i a1]) (st := []) (x := (if ((¬ (a1 < (1 : Int32))) ∧ (¬ ((999 : Int32) < a1))) then (1 : Int32) else 0)) (σ2 := σ) dX11_keeps_17 rfl lk_X11_245 rfl rfl (Nat.le_of_ble_eq_true rfl) (f_X11_isStroke (sh := shC) σ a1  (d := d) (by omega)) ?_
      refine ax_if_neB (tgt := 25) (q := 23) dX11_keeps_20 (by decide) rfl (fun c3 => ?_) (fun c3 => ?_)
      · refine ax_aload_n (q := 26) (i := 0) dX11_keeps_25 rfl rfl rfl ?_
        refine ax_get (q := 29) (k := 0) (j := 5) (v := ax_r 6) dX11_keeps_26 rfl shC_0 rfl rfl rfl (by decide) fl_X11_51 ?_
        refine ax_aload_n (q := 30) (i := 0) dX11_keeps_29 rfl rfl rfl ?_
        refine ax_get (q := 33) (k := 0) (j := 4) (v := ax_r 5) dX11_keeps_30 rfl shC_0 rfl rfl rfl (by decide) fl_X11_42 ?_
        exact ax_callVci (q := 36) (As := []) (st := [ax_r 6]) dX11_keeps_33 rfl lk_X11_185 shC_5 rfl rfl rfl rfl (Nat.le_of_ble_eq_true rfl) (k3 c1 c2 c3)
      · refine ax_iconst (q := 24) dX11_keeps_23 rfl ki_m1 ?_
        exact ax_iret dX11_keeps_24 rfl rfl (k4 c1 c2 c3)
set_option maxRecDepth 20000 in
theorem s_X11_keeps_36 {d : Nat} (hd : 0 ≤ d) {Q : Option ax_V → ax_S → Prop} (σ : ax_S) (x1 : Int32) (x2 : Int32) (x3 : Int32) (rr : Int32) (k1 : ax_Ct shC d mX8_fall [ax_r 6, ax_i rr, ax_i x1, ax_i x2] (fun r u => ∃ x : Int32, r = some (ax_i x) ∧ ax_W shC (d + 1) mX11_keeps Q 41 [some (ax_r 0), none, none, some (ax_i x3)] (ax_i x :: []) u) σ) : ax_W shC (d + 1) mX11_keeps Q 36 [some (ax_r 0), some (ax_i x1), some (ax_i x2), some (ax_i x3)] [ax_i rr, ax_r 6] σ := by
  refine ax_iload_n (q := 37) (i := 1) dX11_keeps_36 rfl rfl rfl ?_
  refine ax_iload_n (q := 38) (i := 2) dX11_keeps_37 rfl rfl rfl ?_
  refine ax_fg (lv2 := [some (ax_r 0), none, none, some (ax_i x3)]) ⟨rfl, rfl, trivial⟩ ?_
  exact ax_callVci (q := 41) (As := [ax_i rr, ax_i x1, ax_i x2]) (st := []) dX11_keeps_38 rfl lk_X11_311 shC_6 rfl rfl rfl rfl (Nat.le_of_ble_eq_true rfl) k1
set_option maxRecDepth 20000 in
theorem s_X11_keeps_41 {d : Nat} (hd : 0 ≤ d) {Q : Option ax_V → ax_S → Prop} (σ : ax_S) (x3 : Int32) (rr : Int32) (h1 : vp_in x3 8) (k2 : Q (some (ax_i (σ.1 32 (Int32.toNatClampNeg x3)))) σ) : ax_W shC (d + 1) mX11_keeps Q 41 [some (ax_r 0), none, none, some (ax_i x3)] [ax_i rr] σ := by
  refine ax_popi (q := 42) dX11_keeps_41 rfl ?_
  refine ax_aload_n (q := 43) (i := 0) dX11_keeps_42 rfl rfl rfl ?_
  refine ax_get (q := 46) (k := 0) (j := 5) (v := ax_r 6) dX11_keeps_43 rfl shC_0 rfl rfl rfl (by decide) fl_X11_51 ?_
  refine ax_get (q := 49) (k := 6) (j := 2) (v := ax_r 32) dX11_keeps_46 rfl shC_6 rfl rfl rfl (by decide) fl_X11_315 ?_
  refine ax_iload_n (q := 50) (i := 3) dX11_keeps_49 rfl rfl rfl ?_
  refine ax_iald (q := 51) (a := (Int32.toNatClampNeg x3)) (v := (σ.1 32 (Int32.toNatClampNeg x3))) dX11_keeps_50 rfl shC_32 h1 rfl rfl ?_
  exact ax_iret dX11_keeps_51 rfl rfl k2
set_option maxRecDepth 20000 in
theorem s_X11_burning_0 {d : Nat} (hd : 1 ≤ d) {Q : Option ax_V → ax_S → Prop} (σ : ax_S) (a0 : Int32) (a1 : Int32) (k1 : (¬ ((¬ (a0 < 0)) ∧ (¬ ((σ.1 5 9) ≤ a0)))) → Q (some (ax_i (-1 : Int32))) σ) (k2 : ((¬ (a0 < 0)) ∧ (¬ ((σ.1 5 9) ≤ a0))) → (¬ ((¬ (a1 < (1 : Int32))) ∧ (¬ ((999 : Int32) < a1)))) → Q (some (ax_i (-1 : Int32))) σ) (k3 : ((¬ (a0 < 0)) ∧ (¬ ((σ.1 5 9) ≤ a0))) → ((¬ (a1 < (1 : Int32))) ∧ (¬ ((999 : Int32) < a1))) → ax_Ct shC d mX0_live [ax_r 5] (fun r u => ∃ x : Int32, r = some (ax_i x) ∧ ax_W shC (d + 1) mX11_burning Q 26 [none, some (ax_i a0), some (ax_i a1)] (ax_i x :: [ax_r 6]) u) σ) : ax_W shC (d + 1) mX11_burning Q 0 [some (ax_r 0), some (ax_i a0), some (ax_i a1)] [] σ := by
  refine ax_aload_n (q := 1) (i := 0) dX11_burning_0 rfl rfl rfl ?_
  refine ax_iload_n (q := 2) (i := 1) dX11_burning_1 rfl rfl rfl ?_
  refine ax_callVfi (q := 5) (As := [ax_i a0]) (st := []) (x := (if ((¬ (a0 < 0)) ∧ (¬ ((σ.1 5 9) ≤ a0))) then (1 : Int32) else 0)) (σ2 := σ) dX11_burning_2 rfl lk_X11_160 shC_0 rfl rfl rfl rfl (Nat.le_of_ble_eq_true rfl) (f_X11_isHouse σ a0  (d := d) (by omega)) ?_
  refine ax_if_eqB (tgt := 34) (q := 8) dX11_burning_5 (by decide) rfl (fun c1 => ?_) (fun c1 => ?_)
  · refine ax_iconst (q := 35) dX11_burning_34 rfl ki_m1 ?_
    exact ax_iret dX11_burning_35 rfl rfl (k1 c1)
  · refine ax_iload_n (q := 9) (i := 2) dX11_burning_8 rfl rfl rfl ?_
    refine ax_callSfi (q := 12) (As := [ax_i a1]) (st := []) (x := (if ((¬ (a1 < (1 : Int32))) ∧ (¬ ((999 : Int32) < a1))) then (1 : Int32) else 0)) (σ2 := σ) dX11_burning_9 rfl lk_X11_245 rfl rfl (Nat.le_of_ble_eq_true rfl) (f_X11_isStroke (sh := shC) σ a1  (d := d) (by omega)) ?_
    refine ax_if_eqB (tgt := 34) (q := 15) dX11_burning_12 (by decide) rfl (fun c2 => ?_) (fun c2 => ?_)
    · refine ax_iconst (q := 35) dX11_burning_34 rfl ki_m1 ?_
      exact ax_iret dX11_burning_35 rfl rfl (k2 c1 c2)
    · refine ax_aload_n (q := 16) (i := 0) dX11_burning_15 rfl rfl rfl ?_
      refine ax_get (q := 19) (k := 0) (j := 5) (v := ax_r 6) dX11_burning_16 rfl shC_0 rfl rfl rfl (by decide) fl_X11_51 ?_
      refine ax_aload_n (q := 20) (i := 0) dX11_burning_19 rfl rfl rfl ?_
      refine ax_get (q := 23) (k := 0) (j := 4) (v := ax_r 5) dX11_burning_20 rfl shC_0 rfl rfl rfl (by decide) fl_X11_42 ?_
      refine ax_fg (lv2 := [none, some (ax_i a0), some (ax_i a1)]) ⟨rfl, rfl, trivial⟩ ?_
      exact ax_callVci (q := 26) (As := []) (st := [ax_r 6]) dX11_burning_23 rfl lk_X11_185 shC_5 rfl rfl rfl rfl (Nat.le_of_ble_eq_true rfl) (k3 c1 c2)
set_option maxRecDepth 20000 in
theorem s_X11_burning_26 {d : Nat} (hd : 0 ≤ d) {Q : Option ax_V → ax_S → Prop} (σ : ax_S) (x1 : Int32) (x2 : Int32) (rr : Int32) (k1 : ax_Ct shC d mX8_fall [ax_r 6, ax_i rr, ax_i x1, ax_i x2] (fun r u => ∃ x : Int32, r = some (ax_i x) ∧ ax_W shC (d + 1) mX11_burning Q 31 [none, none, none] (ax_i x :: []) u) σ) : ax_W shC (d + 1) mX11_burning Q 26 [none, some (ax_i x1), some (ax_i x2)] [ax_i rr, ax_r 6] σ := by
  refine ax_iload_n (q := 27) (i := 1) dX11_burning_26 rfl rfl rfl ?_
  refine ax_iload_n (q := 28) (i := 2) dX11_burning_27 rfl rfl rfl ?_
  refine ax_fg (lv2 := [none, none, none]) trivial ?_
  exact ax_callVci (q := 31) (As := [ax_i rr, ax_i x1, ax_i x2]) (st := []) dX11_burning_28 rfl lk_X11_311 shC_6 rfl rfl rfl rfl (Nat.le_of_ble_eq_true rfl) k1
set_option maxRecDepth 20000 in
theorem s_X11_burning_31 {d : Nat} (hd : 0 ≤ d) {Q : Option ax_V → ax_S → Prop} (σ : ax_S) (rr : Int32) (k1 : Q (some (ax_i rr)) σ) : ax_W shC (d + 1) mX11_burning Q 31 [none, none, none] [ax_i rr] σ := by
  refine ax_goto (tgt := 35) dX11_burning_31 (by decide) ?_
  exact ax_iret dX11_burning_35 rfl rfl k1
set_option maxRecDepth 20000 in
theorem s_X11_lost_0 {d : Nat} (hd : 1 ≤ d) {Q : Option ax_V → ax_S → Prop} (σ : ax_S) (a0 : Int32) (a1 : Int32) (k1 : (¬ ((¬ (a0 < 0)) ∧ (¬ ((σ.1 5 9) ≤ a0)))) → Q (some (ax_i (-1 : Int32))) σ) (k2 : ((¬ (a0 < 0)) ∧ (¬ ((σ.1 5 9) ≤ a0))) → ((¬ (a1 < (1 : Int32))) ∧ (¬ ((999 : Int32) < a1))) → ax_Ct shC d mX0_live [ax_r 5] (fun r u => ∃ x : Int32, r = some (ax_i x) ∧ ax_W shC (d + 1) mX11_lost Q 28 [some (ax_r 0), some (ax_i a0), some (ax_i a1)] (ax_i x :: [ax_r 6]) u) σ) (k3 : ((¬ (a0 < 0)) ∧ (¬ ((σ.1 5 9) ≤ a0))) → (¬ ((¬ (a1 < (1 : Int32))) ∧ (¬ ((999 : Int32) < a1)))) → Q (some (ax_i (-1 : Int32))) σ) : ax_W shC (d + 1) mX11_lost Q 0 [some (ax_r 0), some (ax_i a0), some (ax_i a1)] [] σ := by
  refine ax_aload_n (q := 1) (i := 0) dX11_lost_0 rfl rfl rfl ?_
  refine ax_iload_n (q := 2) (i := 1) dX11_lost_1 rfl rfl rfl ?_
  refine ax_callVfi (q := 5) (As := [ax_i a0]) (st := []) (x := (if ((¬ (a0 < 0)) ∧ (¬ ((σ.1 5 9) ≤ a0))) then (1 : Int32) else 0)) (σ2 := σ) dX11_lost_2 rfl lk_X11_160 shC_0 rfl rfl rfl rfl (Nat.le_of_ble_eq_true rfl) (f_X11_isHouse σ a0  (d := d) (by omega)) ?_
  refine ax_if_eqB (tgt := 15) (q := 8) dX11_lost_5 (by decide) rfl (fun c1 => ?_) (fun c1 => ?_)
  · refine ax_iconst (q := 16) dX11_lost_15 rfl ki_m1 ?_
    exact ax_iret dX11_lost_16 rfl rfl (k1 c1)
  · refine ax_iload_n (q := 9) (i := 2) dX11_lost_8 rfl rfl rfl ?_
    refine ax_callSfi (q := 12) (As := [ax_i a1]) (st := []) (x := (if ((¬ (a1 < (1 : Int32))) ∧ (¬ ((999 : Int32) < a1))) then (1 : Int32) else 0)) (σ2 := σ) dX11_lost_9 rfl lk_X11_245 rfl rfl (Nat.le_of_ble_eq_true rfl) (f_X11_isStroke (sh := shC) σ a1  (d := d) (by omega)) ?_
    refine ax_if_neB (tgt := 17) (q := 15) dX11_lost_12 (by decide) rfl (fun c2 => ?_) (fun c2 => ?_)
    · refine ax_aload_n (q := 18) (i := 0) dX11_lost_17 rfl rfl rfl ?_
      refine ax_get (q := 21) (k := 0) (j := 5) (v := ax_r 6) dX11_lost_18 rfl shC_0 rfl rfl rfl (by decide) fl_X11_51 ?_
      refine ax_aload_n (q := 22) (i := 0) dX11_lost_21 rfl rfl rfl ?_
      refine ax_get (q := 25) (k := 0) (j := 4) (v := ax_r 5) dX11_lost_22 rfl shC_0 rfl rfl rfl (by decide) fl_X11_42 ?_
      exact ax_callVci (q := 28) (As := []) (st := [ax_r 6]) dX11_lost_25 rfl lk_X11_185 shC_5 rfl rfl rfl rfl (Nat.le_of_ble_eq_true rfl) (k2 c1 c2)
    · refine ax_iconst (q := 16) dX11_lost_15 rfl ki_m1 ?_
      exact ax_iret dX11_lost_16 rfl rfl (k3 c1 c2)
set_option maxRecDepth 20000 in
theorem s_X11_lost_28 {d : Nat} (hd : 0 ≤ d) {Q : Option ax_V → ax_S → Prop} (σ : ax_S) (x1 : Int32) (x2 : Int32) (rr : Int32) (k1 : ax_Ct shC d mX8_fall [ax_r 6, ax_i rr, ax_i x1, ax_i x2] (fun r u => ∃ x : Int32, r = some (ax_i x) ∧ ax_W shC (d + 1) mX11_lost Q 33 [some (ax_r 0), none, none] (ax_i x :: []) u) σ) : ax_W shC (d + 1) mX11_lost Q 28 [some (ax_r 0), some (ax_i x1), some (ax_i x2)] [ax_i rr, ax_r 6] σ := by
  refine ax_iload_n (q := 29) (i := 1) dX11_lost_28 rfl rfl rfl ?_
  refine ax_iload_n (q := 30) (i := 2) dX11_lost_29 rfl rfl rfl ?_
  refine ax_fg (lv2 := [some (ax_r 0), none, none]) ⟨rfl, trivial⟩ ?_
  exact ax_callVci (q := 33) (As := [ax_i rr, ax_i x1, ax_i x2]) (st := []) dX11_lost_30 rfl lk_X11_311 shC_6 rfl rfl rfl rfl (Nat.le_of_ble_eq_true rfl) k1
set_option maxRecDepth 20000 in
theorem s_X11_lost_33 {d : Nat} (hd : 0 ≤ d) {Q : Option ax_V → ax_S → Prop} (σ : ax_S) (rr : Int32) (k1 : Q (some (ax_i (σ.1 6 8))) σ) : ax_W shC (d + 1) mX11_lost Q 33 [some (ax_r 0), none, none] [ax_i rr] σ := by
  refine ax_popi (q := 34) dX11_lost_33 rfl ?_
  refine ax_aload_n (q := 35) (i := 0) dX11_lost_34 rfl rfl rfl ?_
  refine ax_get (q := 38) (k := 0) (j := 5) (v := ax_r 6) dX11_lost_35 rfl shC_0 rfl rfl rfl (by decide) fl_X11_51 ?_
  refine ax_get (q := 41) (k := 6) (j := 8) (v := ax_i (σ.1 6 8)) dX11_lost_38 rfl shC_6 rfl rfl rfl (by decide) fl_X11_318 ?_
  exact ax_iret dX11_lost_41 rfl rfl k1
set_option maxRecDepth 20000 in
theorem s_X11_couldLay_0 {d : Nat} (hd : 0 ≤ d) {Q : Option ax_V → ax_S → Prop} (σ : ax_S) (a0 : Int32) (a1 : Int32) (k1 : ((16 : Int32) ≤ (σ.1 5 10)) → Q (some (ax_i (0 : Int32))) σ) (k2 : (¬ ((16 : Int32) ≤ (σ.1 5 10))) → ax_Ct shC d mX0_mayJoin [ax_r 5, ax_i a0, ax_i a1] (fun r u => ∃ x : Int32, r = some (ax_i x) ∧ ax_W shC (d + 1) mX11_couldLay Q 21 [some (ax_r 0), some (ax_i a0), some (ax_i a1)] (ax_i x :: []) u) σ) : ax_W shC (d + 1) mX11_couldLay Q 0 [some (ax_r 0), some (ax_i a0), some (ax_i a1)] [] σ := by
  refine ax_aload_n (q := 1) (i := 0) dX11_couldLay_0 rfl rfl rfl ?_
  refine ax_get (q := 4) (k := 0) (j := 4) (v := ax_r 5) dX11_couldLay_1 rfl shC_0 rfl rfl rfl (by decide) fl_X11_42 ?_
  refine ax_get (q := 7) (k := 5) (j := 10) (v := ax_i (σ.1 5 10)) dX11_couldLay_4 rfl shC_5 rfl rfl rfl (by decide) fl_X11_221 ?_
  refine ax_bipush (q := 9) dX11_couldLay_7 rfl kb_16 ?_
  refine ax_icmp_ge (tgt := 47) (q := 12) dX11_couldLay_9 (by decide) rfl (fun c1 => ?_) (fun c1 => ?_)
  · refine ax_iconst (q := 48) dX11_couldLay_47 rfl ki_0 ?_
    exact ax_iret dX11_couldLay_48 rfl rfl (k1 c1)
  · refine ax_aload_n (q := 13) (i := 0) dX11_couldLay_12 rfl rfl rfl ?_
    refine ax_get (q := 16) (k := 0) (j := 4) (v := ax_r 5) dX11_couldLay_13 rfl shC_0 rfl rfl rfl (by decide) fl_X11_42 ?_
    refine ax_iload_n (q := 17) (i := 1) dX11_couldLay_16 rfl rfl rfl ?_
    refine ax_iload_n (q := 18) (i := 2) dX11_couldLay_17 rfl rfl rfl ?_
    exact ax_callVci (q := 21) (As := [ax_i a0, ax_i a1]) (st := []) dX11_couldLay_18 rfl lk_X11_258 shC_5 rfl rfl rfl rfl (Nat.le_of_ble_eq_true rfl) (k2 c1)
set_option maxRecDepth 20000 in
theorem s_X11_couldLay_21 {d : Nat} (hd : 2 ≤ d) {Q : Option ax_V → ax_S → Prop} (σ : ax_S) (x1 : Int32) (x2 : Int32) (rr : Int32) (h1 : (¬ (rr = 0)) → vp_in x1 8) (h2 : (¬ (rr = 0)) → vp_in x2 8) (k3 : Q (some (ax_i (if ((¬ (rr = 0)) ∧ (¬ ((σ.1 5 12) < (if (1 : Int32) < (if (0 : Int32) ≤ ((σ.1 23 (Int32.toNatClampNeg x1)) - (σ.1 23 (Int32.toNatClampNeg x2))) then ((σ.1 23 (Int32.toNatClampNeg x1)) - (σ.1 23 (Int32.toNatClampNeg x2))) else 0 - ((σ.1 23 (Int32.toNatClampNeg x1)) - (σ.1 23 (Int32.toNatClampNeg x2)))) then (if (0 : Int32) ≤ ((σ.1 23 (Int32.toNatClampNeg x1)) - (σ.1 23 (Int32.toNatClampNeg x2))) then ((σ.1 23 (Int32.toNatClampNeg x1)) - (σ.1 23 (Int32.toNatClampNeg x2))) else 0 - ((σ.1 23 (Int32.toNatClampNeg x1)) - (σ.1 23 (Int32.toNatClampNeg x2)))) else (1 : Int32))))) then (1 : Int32) else 0))) σ) : ax_W shC (d + 1) mX11_couldLay Q 21 [some (ax_r 0), some (ax_i x1), some (ax_i x2)] [ax_i rr] σ := by
  have K3 : ax_W shC (d + 1) mX11_couldLay Q 48 [some (ax_r 0), some (ax_i x1), some (ax_i x2)] [ax_i (if ((¬ (rr = 0)) ∧ (¬ ((σ.1 5 12) < (if (1 : Int32) < (if (0 : Int32) ≤ ((σ.1 23 (Int32.toNatClampNeg x1)) - (σ.1 23 (Int32.toNatClampNeg x2))) then ((σ.1 23 (Int32.toNatClampNeg x1)) - (σ.1 23 (Int32.toNatClampNeg x2))) else 0 - ((σ.1 23 (Int32.toNatClampNeg x1)) - (σ.1 23 (Int32.toNatClampNeg x2)))) then (if (0 : Int32) ≤ ((σ.1 23 (Int32.toNatClampNeg x1)) - (σ.1 23 (Int32.toNatClampNeg x2))) then ((σ.1 23 (Int32.toNatClampNeg x1)) - (σ.1 23 (Int32.toNatClampNeg x2))) else 0 - ((σ.1 23 (Int32.toNatClampNeg x1)) - (σ.1 23 (Int32.toNatClampNeg x2)))) else (1 : Int32))))) then (1 : Int32) else 0)] σ := by
    exact ax_iret dX11_couldLay_48 rfl (ax_nb _) k3
  refine ax_if_eq (tgt := 47) (q := 24) dX11_couldLay_21 (by decide) rfl (fun c1 => ?_) (fun c1 => ?_)
  · refine ax_iconst (q := 48) dX11_couldLay_47 rfl ki_0 ?_
    exact ax_cv (if_neg (fun z => (fun y => y c1) z.1)) K3
  · refine ax_aload_n (q := 25) (i := 0) dX11_couldLay_24 rfl rfl rfl ?_
    refine ax_get (q := 28) (k := 0) (j := 4) (v := ax_r 5) dX11_couldLay_25 rfl shC_0 rfl rfl rfl (by decide) fl_X11_42 ?_
    refine ax_get (q := 31) (k := 5) (j := 12) (v := ax_i (σ.1 5 12)) dX11_couldLay_28 rfl shC_5 rfl rfl rfl (by decide) fl_X11_227 ?_
    refine ax_aload_n (q := 32) (i := 0) dX11_couldLay_31 rfl rfl rfl ?_
    refine ax_get (q := 35) (k := 0) (j := 4) (v := ax_r 5) dX11_couldLay_32 rfl shC_0 rfl rfl rfl (by decide) fl_X11_42 ?_
    refine ax_iload_n (q := 36) (i := 1) dX11_couldLay_35 rfl rfl rfl ?_
    refine ax_iload_n (q := 37) (i := 2) dX11_couldLay_36 rfl rfl rfl ?_
    refine ax_callVfi (q := 40) (As := [ax_i x1, ax_i x2]) (st := [ax_i (σ.1 5 12)]) (x := (if (1 : Int32) < (if (0 : Int32) ≤ ((σ.1 23 (Int32.toNatClampNeg x1)) - (σ.1 23 (Int32.toNatClampNeg x2))) then ((σ.1 23 (Int32.toNatClampNeg x1)) - (σ.1 23 (Int32.toNatClampNeg x2))) else 0 - ((σ.1 23 (Int32.toNatClampNeg x1)) - (σ.1 23 (Int32.toNatClampNeg x2)))) then (if (0 : Int32) ≤ ((σ.1 23 (Int32.toNatClampNeg x1)) - (σ.1 23 (Int32.toNatClampNeg x2))) then ((σ.1 23 (Int32.toNatClampNeg x1)) - (σ.1 23 (Int32.toNatClampNeg x2))) else 0 - ((σ.1 23 (Int32.toNatClampNeg x1)) - (σ.1 23 (Int32.toNatClampNeg x2)))) else (1 : Int32))) (σ2 := σ) dX11_couldLay_37 rfl lk_X11_261 shC_5 rfl rfl rfl rfl (Nat.le_of_ble_eq_true rfl) (f_X0_price σ x1 x2 (h1 c1) (h2 c1) (d := d) (by omega)) ?_
    refine ax_icmp_lt (tgt := 47) (q := 43) dX11_couldLay_40 (by decide) rfl (fun c2 => ?_) (fun c2 => ?_)
    · refine ax_iconst (q := 48) dX11_couldLay_47 rfl ki_0 ?_
      exact ax_cv (if_neg (fun z => (fun y => y c2) z.2)) K3
    · refine ax_iconst (q := 44) dX11_couldLay_43 rfl ki_1 ?_
      refine ax_goto (tgt := 48) dX11_couldLay_44 (by decide) ?_
      exact ax_cv (if_pos ⟨c1, c2⟩) K3
set_option maxRecDepth 20000 in
theorem s_X11_liveWith_0 {d : Nat} (hd : 0 ≤ d) {Q : Option ax_V → ax_S → Prop} (σ : ax_S) (a0 : Int32) (a1 : Int32) (k1 : ax_Ct shC d mX0_think [ax_r 5, ax_i a0, ax_i a1] (fun r u => r = none ∧ ax_W shC (d + 1) mX11_liveWith Q 9 [some (ax_r 0), none, none] [] u) σ) : ax_W shC (d + 1) mX11_liveWith Q 0 [some (ax_r 0), some (ax_i a0), some (ax_i a1)] [] σ := by
  refine ax_aload_n (q := 1) (i := 0) dX11_liveWith_0 rfl rfl rfl ?_
  refine ax_get (q := 4) (k := 0) (j := 4) (v := ax_r 5) dX11_liveWith_1 rfl shC_0 rfl rfl rfl (by decide) fl_X11_42 ?_
  refine ax_iload_n (q := 5) (i := 1) dX11_liveWith_4 rfl rfl rfl ?_
  refine ax_iload_n (q := 6) (i := 2) dX11_liveWith_5 rfl rfl rfl ?_
  refine ax_fg (lv2 := [some (ax_r 0), none, none]) ⟨rfl, trivial⟩ ?_
  exact ax_callVcv (q := 9) (As := [ax_i a0, ax_i a1]) (st := []) dX11_liveWith_6 rfl lk_X11_264 shC_5 rfl rfl rfl rfl (Nat.le_of_ble_eq_true rfl) k1
set_option maxRecDepth 20000 in
theorem s_X11_liveWith_9 {d : Nat} (hd : 0 ≤ d) {Q : Option ax_V → ax_S → Prop} (σ : ax_S)  (k1 : ax_Ct shC d mX0_live [ax_r 5] (fun r u => ∃ x : Int32, r = some (ax_i x) ∧ ax_W shC (d + 1) mX11_liveWith Q 16 [some (ax_r 0), none, none] (ax_i x :: []) u) σ) : ax_W shC (d + 1) mX11_liveWith Q 9 [some (ax_r 0), none, none] [] σ := by
  refine ax_aload_n (q := 10) (i := 0) dX11_liveWith_9 rfl rfl rfl ?_
  refine ax_get (q := 13) (k := 0) (j := 4) (v := ax_r 5) dX11_liveWith_10 rfl shC_0 rfl rfl rfl (by decide) fl_X11_42 ?_
  exact ax_callVci (q := 16) (As := []) (st := []) dX11_liveWith_13 rfl lk_X11_185 shC_5 rfl rfl rfl rfl (Nat.le_of_ble_eq_true rfl) k1
set_option maxRecDepth 20000 in
theorem s_X11_liveWith_16 {d : Nat} (hd : 0 ≤ d) {Q : Option ax_V → ax_S → Prop} (σ : ax_S) (rr : Int32) (k1 : Q (some (ax_i (rr ||| ((1 : Int32) <<< ((σ.1 5 10) &&& 31))))) σ) : ax_W shC (d + 1) mX11_liveWith Q 16 [some (ax_r 0), none, none] [ax_i rr] σ := by
  refine ax_iconst (q := 17) dX11_liveWith_16 rfl ki_1 ?_
  refine ax_aload_n (q := 18) (i := 0) dX11_liveWith_17 rfl rfl rfl ?_
  refine ax_get (q := 21) (k := 0) (j := 4) (v := ax_r 5) dX11_liveWith_18 rfl shC_0 rfl rfl rfl (by decide) fl_X11_42 ?_
  refine ax_get (q := 24) (k := 5) (j := 10) (v := ax_i (σ.1 5 10)) dX11_liveWith_21 rfl shC_5 rfl rfl rfl (by decide) fl_X11_221 ?_
  refine ax_ishl (q := 25) dX11_liveWith_24 rfl ?_
  refine ax_ior (q := 26) dX11_liveWith_25 rfl ?_
  exact ax_iret dX11_liveWith_26 rfl rfl k1
set_option maxRecDepth 20000 in
theorem s_X11_marry_0 {d : Nat} (hd : 1 ≤ d) {Q : Option ax_V → ax_S → Prop} (σ : ax_S) (a0 : Int32) (a1 : Int32) (a2 : Int32) (k1 : (¬ ((¬ (a0 < 0)) ∧ (¬ ((σ.1 5 9) ≤ a0)))) → Q (some (ax_i (-1 : Int32))) σ) (k2 : ((¬ (a0 < 0)) ∧ (¬ ((σ.1 5 9) ≤ a0))) → (¬ ((¬ (a1 < (1 : Int32))) ∧ (¬ ((999 : Int32) < a1)))) → Q (some (ax_i (-1 : Int32))) σ) (k3 : ((¬ (a0 < 0)) ∧ (¬ ((σ.1 5 9) ≤ a0))) → ((¬ (a1 < (1 : Int32))) ∧ (¬ ((999 : Int32) < a1))) → ((a2 = 0) ∨ (¬ (¬ a2 = (1 : Int32)))) → ax_W shC (d + 1) mX11_marry Q 34 [some (ax_r 0), some (ax_i a0), some (ax_i a1), some (ax_i a2), some (ax_i (9 : Int32)), some (ax_i (-1 : Int32)), some (ax_i (0 : Int32)), none, none] [] σ) (k4 : ((¬ (a0 < 0)) ∧ (¬ ((σ.1 5 9) ≤ a0))) → ((¬ (a1 < (1 : Int32))) ∧ (¬ ((999 : Int32) < a1))) → (¬ ((a2 = 0) ∨ (¬ (¬ a2 = (1 : Int32))))) → Q (some (ax_i (-1 : Int32))) σ) : ax_W shC (d + 1) mX11_marry Q 0 [some (ax_r 0), some (ax_i a0), some (ax_i a1), some (ax_i a2), none, none, none, none, none] [] σ := by
  refine ax_aload_n (q := 1) (i := 0) dX11_marry_0 rfl rfl rfl ?_
  refine ax_iload_n (q := 2) (i := 1) dX11_marry_1 rfl rfl rfl ?_
  refine ax_callVfi (q := 5) (As := [ax_i a0]) (st := []) (x := (if ((¬ (a0 < 0)) ∧ (¬ ((σ.1 5 9) ≤ a0))) then (1 : Int32) else 0)) (σ2 := σ) dX11_marry_2 rfl lk_X11_160 shC_0 rfl rfl rfl rfl (Nat.le_of_ble_eq_true rfl) (f_X11_isHouse σ a0  (d := d) (by omega)) ?_
  refine ax_if_eqB (tgt := 22) (q := 8) dX11_marry_5 (by decide) rfl (fun c1 => ?_) (fun c1 => ?_)
  · refine ax_iconst (q := 23) dX11_marry_22 rfl ki_m1 ?_
    exact ax_iret dX11_marry_23 rfl rfl (k1 c1)
  · refine ax_iload_n (q := 9) (i := 2) dX11_marry_8 rfl rfl rfl ?_
    refine ax_callSfi (q := 12) (As := [ax_i a1]) (st := []) (x := (if ((¬ (a1 < (1 : Int32))) ∧ (¬ ((999 : Int32) < a1))) then (1 : Int32) else 0)) (σ2 := σ) dX11_marry_9 rfl lk_X11_245 rfl rfl (Nat.le_of_ble_eq_true rfl) (f_X11_isStroke (sh := shC) σ a1  (d := d) (by omega)) ?_
    refine ax_if_eqB (tgt := 22) (q := 15) dX11_marry_12 (by decide) rfl (fun c2 => ?_) (fun c2 => ?_)
    · refine ax_iconst (q := 23) dX11_marry_22 rfl ki_m1 ?_
      exact ax_iret dX11_marry_23 rfl rfl (k2 c1 c2)
    · refine ax_iload_n (q := 16) (i := 3) dX11_marry_15 rfl rfl rfl ?_
      refine ax_callSfi (q := 19) (As := [ax_i a2]) (st := []) (x := (if ((a2 = 0) ∨ (¬ (¬ a2 = (1 : Int32)))) then (1 : Int32) else 0)) (σ2 := σ) dX11_marry_16 rfl lk_X11_121 rfl rfl (Nat.le_of_ble_eq_true rfl) (f_X11_isBit (sh := shC) σ a2  (d := d) (by omega)) ?_
      refine ax_if_neB (tgt := 24) (q := 22) dX11_marry_19 (by decide) rfl (fun c3 => ?_) (fun c3 => ?_)
      · refine ax_bipush (q := 26) dX11_marry_24 rfl kb_9 ?_
        refine ax_istore (q := 28) (lv2 := [some (ax_r 0), some (ax_i a0), some (ax_i a1), some (ax_i a2), some (ax_i (9 : Int32)), none, none, none, none]) dX11_marry_26 rfl (by decide) rfl rfl ?_
        refine ax_iconst (q := 29) dX11_marry_28 rfl ki_m1 ?_
        refine ax_istore (q := 31) (lv2 := [some (ax_r 0), some (ax_i a0), some (ax_i a1), some (ax_i a2), some (ax_i (9 : Int32)), some (ax_i (-1 : Int32)), none, none, none]) dX11_marry_29 rfl (by decide) rfl rfl ?_
        refine ax_iconst (q := 32) dX11_marry_31 rfl ki_0 ?_
        refine ax_istore (q := 34) (lv2 := [some (ax_r 0), some (ax_i a0), some (ax_i a1), some (ax_i a2), some (ax_i (9 : Int32)), some (ax_i (-1 : Int32)), some (ax_i (0 : Int32)), none, none]) dX11_marry_32 rfl (by decide) rfl rfl ?_
        exact (k3 c1 c2 c3)
      · refine ax_iconst (q := 23) dX11_marry_22 rfl ki_m1 ?_
        exact ax_iret dX11_marry_23 rfl rfl (k4 c1 c2 c3)
set_option maxRecDepth 20000 in
theorem s_X11_marry_34 {d : Nat} (hd : 0 ≤ d) {Q : Option ax_V → ax_S → Prop} (σ : ax_S) (x1 : Int32) (x2 : Int32) (x3 : Int32) (x4 : Int32) (x5 : Int32) (x6 : Int32) (k1 : ((σ.1 5 9) ≤ x6) → Q (some (ax_i (if (x3 = 0) then x5 else (if (¬ x5 = (-1 : Int32)) then x4 else x5)))) σ) (k2 : (¬ ((σ.1 5 9) ≤ x6)) → ax_W shC (d + 1) mX11_marry Q 52 [some (ax_r 0), some (ax_i x1), some (ax_i x2), some (ax_i x3), some (ax_i x4), some (ax_i x5), some (ax_i x6), some (ax_i (x6 + (1 : Int32))), none] [] σ) : ax_W shC (d + 1) mX11_marry Q 34 [some (ax_r 0), some (ax_i x1), some (ax_i x2), some (ax_i x3), some (ax_i x4), some (ax_i x5), some (ax_i x6), none, none] [] σ := by
  refine ax_iload (q := 36) dX11_marry_34 rfl rfl ?_
  refine ax_aload_n (q := 37) (i := 0) dX11_marry_36 rfl rfl rfl ?_
  refine ax_get (q := 40) (k := 0) (j := 4) (v := ax_r 5) dX11_marry_37 rfl shC_0 rfl rfl rfl (by decide) fl_X11_42 ?_
  refine ax_get (q := 43) (k := 5) (j := 9) (v := ax_i (σ.1 5 9)) dX11_marry_40 rfl shC_5 rfl rfl rfl (by decide) fl_X11_154 ?_
  refine ax_icmp_ge (tgt := 133) (q := 46) dX11_marry_43 (by decide) rfl (fun c1 => ?_) (fun c1 => ?_)
  · refine ax_iload_n (q := 134) (i := 3) dX11_marry_133 rfl rfl rfl ?_
    have K4 : ax_W shC (d + 1) mX11_marry Q 150 [some (ax_r 0), some (ax_i x1), some (ax_i x2), some (ax_i x3), some (ax_i x4), some (ax_i x5), some (ax_i x6), none, none] [ax_i (if (x3 = 0) then x5 else (if (¬ x5 = (-1 : Int32)) then x4 else x5))] σ := by
      exact ax_iret dX11_marry_150 rfl rfl (k1 c1)
    refine ax_if_eq (tgt := 143) (q := 137) dX11_marry_134 (by decide) rfl (fun c2 => ?_) (fun c2 => ?_)
    · refine ax_iload (q := 145) dX11_marry_143 rfl rfl ?_
      refine ax_goto (tgt := 150) dX11_marry_145 (by decide) ?_
      exact ax_cv (if_pos c2) K4
    · refine ax_iload (q := 139) dX11_marry_137 rfl rfl ?_
      refine ax_iconst (q := 140) dX11_marry_139 rfl ki_m1 ?_
      refine ax_icmp_ne (tgt := 148) (q := 143) dX11_marry_140 (by decide) rfl (fun c3 => ?_) (fun c3 => ?_)
      · refine ax_iload (q := 150) dX11_marry_148 rfl rfl ?_
        exact ax_cv ((if_neg c2).trans (if_pos c3)) K4
      · refine ax_iload (q := 145) dX11_marry_143 rfl rfl ?_
        refine ax_goto (tgt := 150) dX11_marry_145 (by decide) ?_
        exact ax_cv ((if_neg c2).trans (if_neg c3)) K4
  · refine ax_iload (q := 48) dX11_marry_46 rfl rfl ?_
    refine ax_iconst (q := 49) dX11_marry_48 rfl ki_1 ?_
    refine ax_iadd (q := 50) dX11_marry_49 rfl ?_
    refine ax_istore (q := 52) (lv2 := [some (ax_r 0), some (ax_i x1), some (ax_i x2), some (ax_i x3), some (ax_i x4), some (ax_i x5), some (ax_i x6), some (ax_i (x6 + (1 : Int32))), none]) dX11_marry_50 rfl (by decide) rfl rfl ?_
    exact (k2 c1)
set_option maxRecDepth 20000 in
theorem s_X11_marry_52 {d : Nat} (hd : 0 ≤ d) {Q : Option ax_V → ax_S → Prop} (σ : ax_S) (x1 : Int32) (x2 : Int32) (x3 : Int32) (x4 : Int32) (x5 : Int32) (x6 : Int32) (x7 : Int32) (k1 : ((σ.1 5 9) ≤ x7) → ax_W shC (d + 1) mX11_marry Q 34 [some (ax_r 0), some (ax_i x1), some (ax_i x2), some (ax_i x3), some (ax_i x4), some (ax_i x5), some (ax_i (x6 + (1 : Int32))), none, none] [] σ) (k2 : (¬ ((σ.1 5 9) ≤ x7)) → ax_Ct shC d mX11_couldLay [ax_r 0, ax_i x6, ax_i x7] (fun r u => ∃ x : Int32, r = some (ax_i x) ∧ ax_W shC (d + 1) mX11_marry Q 72 [some (ax_r 0), some (ax_i x1), some (ax_i x2), some (ax_i x3), some (ax_i x4), some (ax_i x5), some (ax_i x6), some (ax_i x7), none] (ax_i x :: []) u) σ) : ax_W shC (d + 1) mX11_marry Q 52 [some (ax_r 0), some (ax_i x1), some (ax_i x2), some (ax_i x3), some (ax_i x4), some (ax_i x5), some (ax_i x6), some (ax_i x7), none] [] σ := by
  refine ax_iload (q := 54) dX11_marry_52 rfl rfl ?_
  refine ax_aload_n (q := 55) (i := 0) dX11_marry_54 rfl rfl rfl ?_
  refine ax_get (q := 58) (k := 0) (j := 4) (v := ax_r 5) dX11_marry_55 rfl shC_0 rfl rfl rfl (by decide) fl_X11_42 ?_
  refine ax_get (q := 61) (k := 5) (j := 9) (v := ax_i (σ.1 5 9)) dX11_marry_58 rfl shC_5 rfl rfl rfl (by decide) fl_X11_154 ?_
  refine ax_icmp_ge (tgt := 127) (q := 64) dX11_marry_61 (by decide) rfl (fun c1 => ?_) (fun c1 => ?_)
  · refine ax_iincK (q := 130) (lv2 := [some (ax_r 0), some (ax_i x1), some (ax_i x2), some (ax_i x3), some (ax_i x4), some (ax_i x5), some (ax_i (x6 + (1 : Int32))), some (ax_i x7), none]) dX11_marry_127 rfl rfl ki_1 (by decide) rfl rfl ?_
    refine ax_goto (tgt := 34) dX11_marry_130 (by decide) ?_
    refine ax_fg (lv2 := [some (ax_r 0), some (ax_i x1), some (ax_i x2), some (ax_i x3), some (ax_i x4), some (ax_i x5), some (ax_i (x6 + (1 : Int32))), none, none]) ⟨rfl, rfl, rfl, rfl, rfl, rfl, rfl, trivial⟩ ?_
    exact (k1 c1)
  · refine ax_aload_n (q := 65) (i := 0) dX11_marry_64 rfl rfl rfl ?_
    refine ax_iload (q := 67) dX11_marry_65 rfl rfl ?_
    refine ax_iload (q := 69) dX11_marry_67 rfl rfl ?_
    exact ax_callVci (q := 72) (As := [ax_i x6, ax_i x7]) (st := []) dX11_marry_69 rfl lk_X11_321 shC_0 rfl rfl rfl rfl (Nat.le_of_ble_eq_true rfl) (k2 c1)
set_option maxRecDepth 20000 in
theorem s_X11_marry_72 {d : Nat} (hd : 0 ≤ d) {Q : Option ax_V → ax_S → Prop} (σ : ax_S) (x1 : Int32) (x2 : Int32) (x3 : Int32) (x4 : Int32) (x5 : Int32) (x6 : Int32) (x7 : Int32) (rr : Int32) (k1 : (¬ rr = 0) → ax_Ct shC d mX11_liveWith [ax_r 0, ax_i x6, ax_i x7] (fun r u => ∃ x : Int32, r = some (ax_i x) ∧ ax_W shC (d + 1) mX11_marry Q 90 [some (ax_r 0), some (ax_i x1), some (ax_i x2), some (ax_i x3), some (ax_i x4), some (ax_i x5), some (ax_i x6), some (ax_i x7), none] (ax_i x :: [ax_r 6]) u) σ) (k2 : (¬ (¬ rr = 0)) → ax_W shC (d + 1) mX11_marry Q 52 [some (ax_r 0), some (ax_i x1), some (ax_i x2), some (ax_i x3), some (ax_i x4), some (ax_i x5), some (ax_i x6), some (ax_i (x7 + (1 : Int32))), none] [] σ) : ax_W shC (d + 1) mX11_marry Q 72 [some (ax_r 0), some (ax_i x1), some (ax_i x2), some (ax_i x3), some (ax_i x4), some (ax_i x5), some (ax_i x6), some (ax_i x7), none] [ax_i rr] σ := by
  refine ax_if_ne (tgt := 78) (q := 75) dX11_marry_72 (by decide) rfl (fun c1 => ?_) (fun c1 => ?_)
  · refine ax_aload_n (q := 79) (i := 0) dX11_marry_78 rfl rfl rfl ?_
    refine ax_get (q := 82) (k := 0) (j := 5) (v := ax_r 6) dX11_marry_79 rfl shC_0 rfl rfl rfl (by decide) fl_X11_51 ?_
    refine ax_aload_n (q := 83) (i := 0) dX11_marry_82 rfl rfl rfl ?_
    refine ax_iload (q := 85) dX11_marry_83 rfl rfl ?_
    refine ax_iload (q := 87) dX11_marry_85 rfl rfl ?_
    exact ax_callVci (q := 90) (As := [ax_i x6, ax_i x7]) (st := [ax_r 6]) dX11_marry_87 rfl lk_X11_324 shC_0 rfl rfl rfl rfl (Nat.le_of_ble_eq_true rfl) (k1 c1)
  · refine ax_goto (tgt := 121) dX11_marry_75 (by decide) ?_
    refine ax_iincK (q := 124) (lv2 := [some (ax_r 0), some (ax_i x1), some (ax_i x2), some (ax_i x3), some (ax_i x4), some (ax_i x5), some (ax_i x6), some (ax_i (x7 + (1 : Int32))), none]) dX11_marry_121 rfl rfl ki_1 (by decide) rfl rfl ?_
    refine ax_goto (tgt := 52) dX11_marry_124 (by decide) ?_
    exact (k2 c1)
set_option maxRecDepth 20000 in
theorem s_X11_marry_90 {d : Nat} (hd : 0 ≤ d) {Q : Option ax_V → ax_S → Prop} (σ : ax_S) (x1 : Int32) (x2 : Int32) (x3 : Int32) (x4 : Int32) (x5 : Int32) (x6 : Int32) (x7 : Int32) (rr : Int32) (k1 : ax_Ct shC d mX8_fall [ax_r 6, ax_i rr, ax_i x1, ax_i x2] (fun r u => ∃ x : Int32, r = some (ax_i x) ∧ ax_W shC (d + 1) mX11_marry Q 95 [some (ax_r 0), some (ax_i x1), some (ax_i x2), some (ax_i x3), some (ax_i x4), some (ax_i x5), some (ax_i x6), some (ax_i x7), none] (ax_i x :: []) u) σ) : ax_W shC (d + 1) mX11_marry Q 90 [some (ax_r 0), some (ax_i x1), some (ax_i x2), some (ax_i x3), some (ax_i x4), some (ax_i x5), some (ax_i x6), some (ax_i x7), none] [ax_i rr, ax_r 6] σ := by
  refine ax_iload_n (q := 91) (i := 1) dX11_marry_90 rfl rfl rfl ?_
  refine ax_iload_n (q := 92) (i := 2) dX11_marry_91 rfl rfl rfl ?_
  exact ax_callVci (q := 95) (As := [ax_i rr, ax_i x1, ax_i x2]) (st := []) dX11_marry_92 rfl lk_X11_311 shC_6 rfl rfl rfl rfl (Nat.le_of_ble_eq_true rfl) k1
set_option maxRecDepth 20000 in
theorem s_X11_marry_95 {d : Nat} (hd : 1 ≤ d) {Q : Option ax_V → ax_S → Prop} (σ : ax_S) (x1 : Int32) (x2 : Int32) (x3 : Int32) (x4 : Int32) (x5 : Int32) (x6 : Int32) (x7 : Int32) (rr : Int32) (k1 : (x4 ≤ (v_J6_bitCount_0f7a4 rr)) → ax_W shC (d + 1) mX11_marry Q 52 [some (ax_r 0), some (ax_i x1), some (ax_i x2), some (ax_i x3), some (ax_i x4), some (ax_i x5), some (ax_i x6), some (ax_i (x7 + (1 : Int32))), none] [] σ) (k2 : (¬ (x4 ≤ (v_J6_bitCount_0f7a4 rr))) → ax_W shC (d + 1) mX11_marry Q 52 [some (ax_r 0), some (ax_i x1), some (ax_i x2), some (ax_i x3), some (ax_i (v_J6_bitCount_0f7a4 rr)), some (ax_i (((10 : Int32) * x6) + x7)), some (ax_i x6), some (ax_i (x7 + (1 : Int32))), none] [] σ) : ax_W shC (d + 1) mX11_marry Q 95 [some (ax_r 0), some (ax_i x1), some (ax_i x2), some (ax_i x3), some (ax_i x4), some (ax_i x5), some (ax_i x6), some (ax_i x7), none] [ax_i rr] σ := by
  refine ax_callSfi (q := 98) (As := [ax_i rr]) (st := []) (x := (v_J6_bitCount_0f7a4 rr)) (σ2 := σ) dX11_marry_95 rfl lk_X11_193 rfl rfl (Nat.le_of_ble_eq_true rfl) (f_J6_bitCount_0f7a4 (sh := shC) σ rr  (d := d) (by omega)) ?_
  refine ax_istore (q := 100) (lv2 := [some (ax_r 0), some (ax_i x1), some (ax_i x2), some (ax_i x3), some (ax_i x4), some (ax_i x5), some (ax_i x6), some (ax_i x7), some (ax_i (v_J6_bitCount_0f7a4 rr))]) dX11_marry_98 rfl (by decide) rfl rfl ?_
  refine ax_iload (q := 102) dX11_marry_100 rfl rfl ?_
  refine ax_iload (q := 104) dX11_marry_102 rfl rfl ?_
  refine ax_icmp_ge (tgt := 121) (q := 107) dX11_marry_104 (by decide) rfl (fun c1 => ?_) (fun c1 => ?_)
  · refine ax_iincK (q := 124) (lv2 := [some (ax_r 0), some (ax_i x1), some (ax_i x2), some (ax_i x3), some (ax_i x4), some (ax_i x5), some (ax_i x6), some (ax_i (x7 + (1 : Int32))), some (ax_i (v_J6_bitCount_0f7a4 rr))]) dX11_marry_121 rfl rfl ki_1 (by decide) rfl rfl ?_
    refine ax_goto (tgt := 52) dX11_marry_124 (by decide) ?_
    refine ax_fg (lv2 := [some (ax_r 0), some (ax_i x1), some (ax_i x2), some (ax_i x3), some (ax_i x4), some (ax_i x5), some (ax_i x6), some (ax_i (x7 + (1 : Int32))), none]) ⟨rfl, rfl, rfl, rfl, rfl, rfl, rfl, rfl, trivial⟩ ?_
    exact (k1 c1)
  · refine ax_iload (q := 109) dX11_marry_107 rfl rfl ?_
    refine ax_istore (q := 111) (lv2 := [some (ax_r 0), some (ax_i x1), some (ax_i x2), some (ax_i x3), some (ax_i (v_J6_bitCount_0f7a4 rr)), some (ax_i x5), some (ax_i x6), some (ax_i x7), some (ax_i (v_J6_bitCount_0f7a4 rr))]) dX11_marry_109 rfl (by decide) rfl rfl ?_
    refine ax_bipush (q := 113) dX11_marry_111 rfl kb_10 ?_
    refine ax_iload (q := 115) dX11_marry_113 rfl rfl ?_
    refine ax_imul (q := 116) dX11_marry_115 rfl ?_
    refine ax_iload (q := 118) dX11_marry_116 rfl rfl ?_
    refine ax_iadd (q := 119) dX11_marry_118 rfl ?_
    refine ax_istore (q := 121) (lv2 := [some (ax_r 0), some (ax_i x1), some (ax_i x2), some (ax_i x3), some (ax_i (v_J6_bitCount_0f7a4 rr)), some (ax_i (((10 : Int32) * x6) + x7)), some (ax_i x6), some (ax_i x7), some (ax_i (v_J6_bitCount_0f7a4 rr))]) dX11_marry_119 rfl (by decide) rfl rfl ?_
    refine ax_iincK (q := 124) (lv2 := [some (ax_r 0), some (ax_i x1), some (ax_i x2), some (ax_i x3), some (ax_i (v_J6_bitCount_0f7a4 rr)), some (ax_i (((10 : Int32) * x6) + x7)), some (ax_i x6), some (ax_i (x7 + (1 : Int32))), some (ax_i (v_J6_bitCount_0f7a4 rr))]) dX11_marry_121 rfl rfl ki_1 (by decide) rfl rfl ?_
    refine ax_goto (tgt := 52) dX11_marry_124 (by decide) ?_
    refine ax_fg (lv2 := [some (ax_r 0), some (ax_i x1), some (ax_i x2), some (ax_i x3), some (ax_i (v_J6_bitCount_0f7a4 rr)), some (ax_i (((10 : Int32) * x6) + x7)), some (ax_i x6), some (ax_i (x7 + (1 : Int32))), none]) ⟨rfl, rfl, rfl, rfl, rfl, rfl, rfl, rfl, trivial⟩ ?_
    exact (k2 c1)
set_option maxRecDepth 20000 in
theorem s_X11_parting_0 {d : Nat} (hd : 1 ≤ d) {Q : Option ax_V → ax_S → Prop} (σ : ax_S) (a0 : Int32) (a1 : Int32) (a2 : Int32) (k1 : (¬ ((¬ (a0 < 0)) ∧ (¬ ((σ.1 5 9) ≤ a0)))) → Q (some (ax_i (-1 : Int32))) σ) (k2 : ((¬ (a0 < 0)) ∧ (¬ ((σ.1 5 9) ≤ a0))) → (¬ ((¬ (a1 < (1 : Int32))) ∧ (¬ ((999 : Int32) < a1)))) → Q (some (ax_i (-1 : Int32))) σ) (k3 : ((¬ (a0 < 0)) ∧ (¬ ((σ.1 5 9) ≤ a0))) → ((¬ (a1 < (1 : Int32))) ∧ (¬ ((999 : Int32) < a1))) → ((a2 = 0) ∨ (¬ (¬ a2 = (1 : Int32)))) → ax_Ct shC d mX0_live [ax_r 5] (fun r u => ∃ x : Int32, r = some (ax_i x) ∧ ax_W shC (d + 1) mX11_parting Q 31 [some (ax_r 0), some (ax_i a0), some (ax_i a1), some (ax_i a2), none, none, none, none, none, none] (ax_i x :: []) u) σ) (k4 : ((¬ (a0 < 0)) ∧ (¬ ((σ.1 5 9) ≤ a0))) → ((¬ (a1 < (1 : Int32))) ∧ (¬ ((999 : Int32) < a1))) → (¬ ((a2 = 0) ∨ (¬ (¬ a2 = (1 : Int32))))) → Q (some (ax_i (-1 : Int32))) σ) : ax_W shC (d + 1) mX11_parting Q 0 [some (ax_r 0), some (ax_i a0), some (ax_i a1), some (ax_i a2), none, none, none, none, none, none] [] σ := by
  refine ax_aload_n (q := 1) (i := 0) dX11_parting_0 rfl rfl rfl ?_
  refine ax_iload_n (q := 2) (i := 1) dX11_parting_1 rfl rfl rfl ?_
  refine ax_callVfi (q := 5) (As := [ax_i a0]) (st := []) (x := (if ((¬ (a0 < 0)) ∧ (¬ ((σ.1 5 9) ≤ a0))) then (1 : Int32) else 0)) (σ2 := σ) dX11_parting_2 rfl lk_X11_160 shC_0 rfl rfl rfl rfl (Nat.le_of_ble_eq_true rfl) (f_X11_isHouse σ a0  (d := d) (by omega)) ?_
  refine ax_if_eqB (tgt := 22) (q := 8) dX11_parting_5 (by decide) rfl (fun c1 => ?_) (fun c1 => ?_)
  · refine ax_iconst (q := 23) dX11_parting_22 rfl ki_m1 ?_
    exact ax_iret dX11_parting_23 rfl rfl (k1 c1)
  · refine ax_iload_n (q := 9) (i := 2) dX11_parting_8 rfl rfl rfl ?_
    refine ax_callSfi (q := 12) (As := [ax_i a1]) (st := []) (x := (if ((¬ (a1 < (1 : Int32))) ∧ (¬ ((999 : Int32) < a1))) then (1 : Int32) else 0)) (σ2 := σ) dX11_parting_9 rfl lk_X11_245 rfl rfl (Nat.le_of_ble_eq_true rfl) (f_X11_isStroke (sh := shC) σ a1  (d := d) (by omega)) ?_
    refine ax_if_eqB (tgt := 22) (q := 15) dX11_parting_12 (by decide) rfl (fun c2 => ?_) (fun c2 => ?_)
    · refine ax_iconst (q := 23) dX11_parting_22 rfl ki_m1 ?_
      exact ax_iret dX11_parting_23 rfl rfl (k2 c1 c2)
    · refine ax_iload_n (q := 16) (i := 3) dX11_parting_15 rfl rfl rfl ?_
      refine ax_callSfi (q := 19) (As := [ax_i a2]) (st := []) (x := (if ((a2 = 0) ∨ (¬ (¬ a2 = (1 : Int32)))) then (1 : Int32) else 0)) (σ2 := σ) dX11_parting_16 rfl lk_X11_121 rfl rfl (Nat.le_of_ble_eq_true rfl) (f_X11_isBit (sh := shC) σ a2  (d := d) (by omega)) ?_
      refine ax_if_neB (tgt := 24) (q := 22) dX11_parting_19 (by decide) rfl (fun c3 => ?_) (fun c3 => ?_)
      · refine ax_aload_n (q := 25) (i := 0) dX11_parting_24 rfl rfl rfl ?_
        refine ax_get (q := 28) (k := 0) (j := 4) (v := ax_r 5) dX11_parting_25 rfl shC_0 rfl rfl rfl (by decide) fl_X11_42 ?_
        exact ax_callVci (q := 31) (As := []) (st := []) dX11_parting_28 rfl lk_X11_185 shC_5 rfl rfl rfl rfl (Nat.le_of_ble_eq_true rfl) (k3 c1 c2 c3)
      · refine ax_iconst (q := 23) dX11_parting_22 rfl ki_m1 ?_
        exact ax_iret dX11_parting_23 rfl rfl (k4 c1 c2 c3)
set_option maxRecDepth 20000 in
theorem s_X11_parting_31 {d : Nat} (hd : 0 ≤ d) {Q : Option ax_V → ax_S → Prop} (σ : ax_S) (x1 : Int32) (x2 : Int32) (x3 : Int32) (rr : Int32) (k1 : ax_W shC (d + 1) mX11_parting Q 43 [some (ax_r 0), some (ax_i x1), some (ax_i x2), some (ax_i x3), some (ax_i rr), some (ax_i (9 : Int32)), some (ax_i (0 : Int32)), some (ax_i (0 : Int32)), none, none] [] σ) : ax_W shC (d + 1) mX11_parting Q 31 [some (ax_r 0), some (ax_i x1), some (ax_i x2), some (ax_i x3), none, none, none, none, none, none] [ax_i rr] σ := by
  refine ax_istore (q := 33) (lv2 := [some (ax_r 0), some (ax_i x1), some (ax_i x2), some (ax_i x3), some (ax_i rr), none, none, none, none, none]) dX11_parting_31 rfl (by decide) rfl rfl ?_
  refine ax_bipush (q := 35) dX11_parting_33 rfl kb_9 ?_
  refine ax_istore (q := 37) (lv2 := [some (ax_r 0), some (ax_i x1), some (ax_i x2), some (ax_i x3), some (ax_i rr), some (ax_i (9 : Int32)), none, none, none, none]) dX11_parting_35 rfl (by decide) rfl rfl ?_
  refine ax_iconst (q := 38) dX11_parting_37 rfl ki_0 ?_
  refine ax_istore (q := 40) (lv2 := [some (ax_r 0), some (ax_i x1), some (ax_i x2), some (ax_i x3), some (ax_i rr), some (ax_i (9 : Int32)), some (ax_i (0 : Int32)), none, none, none]) dX11_parting_38 rfl (by decide) rfl rfl ?_
  refine ax_iconst (q := 41) dX11_parting_40 rfl ki_0 ?_
  refine ax_istore (q := 43) (lv2 := [some (ax_r 0), some (ax_i x1), some (ax_i x2), some (ax_i x3), some (ax_i rr), some (ax_i (9 : Int32)), some (ax_i (0 : Int32)), some (ax_i (0 : Int32)), none, none]) dX11_parting_41 rfl (by decide) rfl rfl ?_
  exact k1
set_option maxRecDepth 20000 in
theorem s_X11_parting_43 {d : Nat} (hd : 1 ≤ d) {Q : Option ax_V → ax_S → Prop} (σ : ax_S) (x1 : Int32) (x2 : Int32) (x3 : Int32) (x4 : Int32) (x5 : Int32) (x6 : Int32) (x7 : Int32) (k1 : ((2 : Int32) < x7) → Q (some (ax_i (if (¬ x3 = 0) then x5 else x6))) σ) (k2 : (¬ ((2 : Int32) < x7)) → ax_Ct shC d mX10_gather [ax_r 11, ax_i ((((1 : Int32) <<< ((σ.1 5 10) &&& 31)) - (1 : Int32)) &&& ((σ.1 5 11) ^^^ (-1 : Int32))), ax_i x7] (fun r u => r = none ∧ ax_W shC (d + 1) mX11_parting Q 65 [some (ax_r 0), some (ax_i x1), some (ax_i x2), some (ax_i x3), some (ax_i x4), some (ax_i x5), some (ax_i x6), some (ax_i x7), none, none] [] u) σ) : ax_W shC (d + 1) mX11_parting Q 43 [some (ax_r 0), some (ax_i x1), some (ax_i x2), some (ax_i x3), some (ax_i x4), some (ax_i x5), some (ax_i x6), some (ax_i x7), none, none] [] σ := by
  refine ax_iload (q := 45) dX11_parting_43 rfl rfl ?_
  refine ax_iconst (q := 46) dX11_parting_45 rfl ki_2 ?_
  refine ax_icmp_gt (tgt := 144) (q := 49) dX11_parting_46 (by decide) rfl (fun c1 => ?_) (fun c1 => ?_)
  · refine ax_iload_n (q := 145) (i := 3) dX11_parting_144 rfl rfl rfl ?_
    have K3 : ax_W shC (d + 1) mX11_parting Q 155 [some (ax_r 0), some (ax_i x1), some (ax_i x2), some (ax_i x3), some (ax_i x4), some (ax_i x5), some (ax_i x6), some (ax_i x7), none, none] [ax_i (if (¬ x3 = 0) then x5 else x6)] σ := by
      exact ax_iret dX11_parting_155 rfl rfl (k1 c1)
    refine ax_if_ne (tgt := 153) (q := 148) dX11_parting_145 (by decide) rfl (fun c2 => ?_) (fun c2 => ?_)
    · refine ax_iload (q := 155) dX11_parting_153 rfl rfl ?_
      exact ax_cv (if_pos c2) K3
    · refine ax_iload (q := 150) dX11_parting_148 rfl rfl ?_
      refine ax_goto (tgt := 155) dX11_parting_150 (by decide) ?_
      exact ax_cv (if_neg c2) K3
  · refine ax_aload_n (q := 50) (i := 0) dX11_parting_49 rfl rfl rfl ?_
    refine ax_get (q := 53) (k := 0) (j := 10) (v := ax_r 11) dX11_parting_50 rfl shC_0 rfl rfl rfl (by decide) fl_X11_88 ?_
    refine ax_aload_n (q := 54) (i := 0) dX11_parting_53 rfl rfl rfl ?_
    refine ax_get (q := 57) (k := 0) (j := 4) (v := ax_r 5) dX11_parting_54 rfl shC_0 rfl rfl rfl (by decide) fl_X11_42 ?_
    refine ax_callVfi (q := 60) (As := []) (st := [ax_r 11]) (x := ((((1 : Int32) <<< ((σ.1 5 10) &&& 31)) - (1 : Int32)) &&& ((σ.1 5 11) ^^^ (-1 : Int32)))) (σ2 := σ) dX11_parting_57 rfl lk_X11_327 shC_5 rfl rfl rfl rfl (Nat.le_of_ble_eq_true rfl) (f_X0_uncut σ   (d := d) (by omega)) ?_
    refine ax_iload (q := 62) dX11_parting_60 rfl rfl ?_
    exact ax_callVcv (q := 65) (As := [ax_i ((((1 : Int32) <<< ((σ.1 5 10) &&& 31)) - (1 : Int32)) &&& ((σ.1 5 11) ^^^ (-1 : Int32))), ax_i x7]) (st := []) dX11_parting_62 rfl lk_X11_330 shC_11 rfl rfl rfl rfl (Nat.le_of_ble_eq_true rfl) (k2 c1)
set_option maxRecDepth 20000 in
theorem s_X11_parting_65 {d : Nat} (hd : 0 ≤ d) {Q : Option ax_V → ax_S → Prop} (σ : ax_S) (x1 : Int32) (x2 : Int32) (x3 : Int32) (x4 : Int32) (x5 : Int32) (x6 : Int32) (x7 : Int32) (k1 : ax_W shC (d + 1) mX11_parting Q 68 [some (ax_r 0), some (ax_i x1), some (ax_i x2), some (ax_i x3), some (ax_i x4), some (ax_i x5), some (ax_i x6), some (ax_i x7), some (ax_i (0 : Int32)), none] [] σ) : ax_W shC (d + 1) mX11_parting Q 65 [some (ax_r 0), some (ax_i x1), some (ax_i x2), some (ax_i x3), some (ax_i x4), some (ax_i x5), some (ax_i x6), some (ax_i x7), none, none] [] σ := by
  refine ax_iconst (q := 66) dX11_parting_65 rfl ki_0 ?_
  refine ax_istore (q := 68) (lv2 := [some (ax_r 0), some (ax_i x1), some (ax_i x2), some (ax_i x3), some (ax_i x4), some (ax_i x5), some (ax_i x6), some (ax_i x7), some (ax_i (0 : Int32)), none]) dX11_parting_66 rfl (by decide) rfl rfl ?_
  exact k1
set_option maxRecDepth 20000 in
theorem s_X11_parting_68 {d : Nat} (hd : 0 ≤ d) {Q : Option ax_V → ax_S → Prop} (σ : ax_S) (x1 : Int32) (x2 : Int32) (x3 : Int32) (x4 : Int32) (x5 : Int32) (x6 : Int32) (x7 : Int32) (x8 : Int32) (k1 : ((σ.1 11 1) ≤ x8) → ax_W shC (d + 1) mX11_parting Q 43 [some (ax_r 0), some (ax_i x1), some (ax_i x2), some (ax_i x3), some (ax_i x4), some (ax_i x5), some (ax_i x6), some (ax_i (x7 + (1 : Int32))), none, none] [] σ) (h2 : (¬ ((σ.1 11 1) ≤ x8)) → vp_in x8 120) (k3 : (¬ ((σ.1 11 1) ≤ x8)) → ax_Ct shC d mX8_fall [ax_r 6, ax_i (x4 &&& ((σ.1 44 (Int32.toNatClampNeg x8)) ^^^ (-1 : Int32))), ax_i x1, ax_i x2] (fun r u => ∃ x : Int32, r = some (ax_i x) ∧ ax_W shC (d + 1) mX11_parting Q 104 [some (ax_r 0), some (ax_i x1), some (ax_i x2), some (ax_i x3), some (ax_i x4), some (ax_i x5), some (ax_i x6), some (ax_i x7), some (ax_i x8), none] (ax_i x :: []) u) σ) : ax_W shC (d + 1) mX11_parting Q 68 [some (ax_r 0), some (ax_i x1), some (ax_i x2), some (ax_i x3), some (ax_i x4), some (ax_i x5), some (ax_i x6), some (ax_i x7), some (ax_i x8), none] [] σ := by
  refine ax_iload (q := 70) dX11_parting_68 rfl rfl ?_
  refine ax_aload_n (q := 71) (i := 0) dX11_parting_70 rfl rfl rfl ?_
  refine ax_get (q := 74) (k := 0) (j := 10) (v := ax_r 11) dX11_parting_71 rfl shC_0 rfl rfl rfl (by decide) fl_X11_88 ?_
  refine ax_get (q := 77) (k := 11) (j := 1) (v := ax_i (σ.1 11 1)) dX11_parting_74 rfl shC_11 rfl rfl rfl (by decide) fl_X11_333 ?_
  refine ax_icmp_ge (tgt := 138) (q := 80) dX11_parting_77 (by decide) rfl (fun c1 => ?_) (fun c1 => ?_)
  · refine ax_iincK (q := 141) (lv2 := [some (ax_r 0), some (ax_i x1), some (ax_i x2), some (ax_i x3), some (ax_i x4), some (ax_i x5), some (ax_i x6), some (ax_i (x7 + (1 : Int32))), some (ax_i x8), none]) dX11_parting_138 rfl rfl ki_1 (by decide) rfl rfl ?_
    refine ax_goto (tgt := 43) dX11_parting_141 (by decide) ?_
    refine ax_fg (lv2 := [some (ax_r 0), some (ax_i x1), some (ax_i x2), some (ax_i x3), some (ax_i x4), some (ax_i x5), some (ax_i x6), some (ax_i (x7 + (1 : Int32))), none, none]) ⟨rfl, rfl, rfl, rfl, rfl, rfl, rfl, rfl, trivial⟩ ?_
    exact (k1 c1)
  · refine ax_aload_n (q := 81) (i := 0) dX11_parting_80 rfl rfl rfl ?_
    refine ax_get (q := 84) (k := 0) (j := 5) (v := ax_r 6) dX11_parting_81 rfl shC_0 rfl rfl rfl (by decide) fl_X11_51 ?_
    refine ax_iload (q := 86) dX11_parting_84 rfl rfl ?_
    refine ax_aload_n (q := 87) (i := 0) dX11_parting_86 rfl rfl rfl ?_
    refine ax_get (q := 90) (k := 0) (j := 10) (v := ax_r 11) dX11_parting_87 rfl shC_0 rfl rfl rfl (by decide) fl_X11_88 ?_
    refine ax_get (q := 93) (k := 11) (j := 0) (v := ax_r 44) dX11_parting_90 rfl shC_11 rfl rfl rfl (by decide) fl_X11_336 ?_
    refine ax_iload (q := 95) dX11_parting_93 rfl rfl ?_
    refine ax_iald (q := 96) (a := (Int32.toNatClampNeg x8)) (v := (σ.1 44 (Int32.toNatClampNeg x8))) dX11_parting_95 rfl shC_44 (h2 c1) rfl rfl ?_
    refine ax_iconst (q := 97) dX11_parting_96 rfl ki_m1 ?_
    refine ax_ixor (q := 98) dX11_parting_97 rfl ?_
    refine ax_iand (q := 99) dX11_parting_98 rfl ?_
    refine ax_iload_n (q := 100) (i := 1) dX11_parting_99 rfl rfl rfl ?_
    refine ax_iload_n (q := 101) (i := 2) dX11_parting_100 rfl rfl rfl ?_
    exact ax_callVci (q := 104) (As := [ax_i (x4 &&& ((σ.1 44 (Int32.toNatClampNeg x8)) ^^^ (-1 : Int32))), ax_i x1, ax_i x2]) (st := []) dX11_parting_101 rfl lk_X11_311 shC_6 rfl rfl rfl rfl (Nat.le_of_ble_eq_true rfl) (k3 c1)
set_option maxRecDepth 20000 in
theorem s_X11_parting_104 {d : Nat} (hd : 1 ≤ d) {Q : Option ax_V → ax_S → Prop} (σ : ax_S) (x1 : Int32) (x2 : Int32) (x3 : Int32) (x4 : Int32) (x5 : Int32) (x6 : Int32) (x7 : Int32) (x8 : Int32) (rr : Int32) (k1 : (x5 ≤ (v_J6_bitCount_0f7a4 rr)) → ax_W shC (d + 1) mX11_parting Q 68 [some (ax_r 0), some (ax_i x1), some (ax_i x2), some (ax_i x3), some (ax_i x4), some (ax_i x5), some (ax_i x6), some (ax_i x7), some (ax_i (x8 + (1 : Int32))), none] [] σ) (h2 : (¬ (x5 ≤ (v_J6_bitCount_0f7a4 rr))) → vp_in x8 120) (k3 : (¬ (x5 ≤ (v_J6_bitCount_0f7a4 rr))) → ax_W shC (d + 1) mX11_parting Q 68 [some (ax_r 0), some (ax_i x1), some (ax_i x2), some (ax_i x3), some (ax_i x4), some (ax_i (v_J6_bitCount_0f7a4 rr)), some (ax_i (σ.1 44 (Int32.toNatClampNeg x8))), some (ax_i x7), some (ax_i (x8 + (1 : Int32))), none] [] σ) : ax_W shC (d + 1) mX11_parting Q 104 [some (ax_r 0), some (ax_i x1), some (ax_i x2), some (ax_i x3), some (ax_i x4), some (ax_i x5), some (ax_i x6), some (ax_i x7), some (ax_i x8), none] [ax_i rr] σ := by
  refine ax_callSfi (q := 107) (As := [ax_i rr]) (st := []) (x := (v_J6_bitCount_0f7a4 rr)) (σ2 := σ) dX11_parting_104 rfl lk_X11_193 rfl rfl (Nat.le_of_ble_eq_true rfl) (f_J6_bitCount_0f7a4 (sh := shC) σ rr  (d := d) (by omega)) ?_
  refine ax_istore (q := 109) (lv2 := [some (ax_r 0), some (ax_i x1), some (ax_i x2), some (ax_i x3), some (ax_i x4), some (ax_i x5), some (ax_i x6), some (ax_i x7), some (ax_i x8), some (ax_i (v_J6_bitCount_0f7a4 rr))]) dX11_parting_107 rfl (by decide) rfl rfl ?_
  refine ax_iload (q := 111) dX11_parting_109 rfl rfl ?_
  refine ax_iload (q := 113) dX11_parting_111 rfl rfl ?_
  refine ax_icmp_ge (tgt := 132) (q := 116) dX11_parting_113 (by decide) rfl (fun c1 => ?_) (fun c1 => ?_)
  · refine ax_iincK (q := 135) (lv2 := [some (ax_r 0), some (ax_i x1), some (ax_i x2), some (ax_i x3), some (ax_i x4), some (ax_i x5), some (ax_i x6), some (ax_i x7), some (ax_i (x8 + (1 : Int32))), some (ax_i (v_J6_bitCount_0f7a4 rr))]) dX11_parting_132 rfl rfl ki_1 (by decide) rfl rfl ?_
    refine ax_goto (tgt := 68) dX11_parting_135 (by decide) ?_
    refine ax_fg (lv2 := [some (ax_r 0), some (ax_i x1), some (ax_i x2), some (ax_i x3), some (ax_i x4), some (ax_i x5), some (ax_i x6), some (ax_i x7), some (ax_i (x8 + (1 : Int32))), none]) ⟨rfl, rfl, rfl, rfl, rfl, rfl, rfl, rfl, rfl, trivial⟩ ?_
    exact (k1 c1)
  · refine ax_iload (q := 118) dX11_parting_116 rfl rfl ?_
    refine ax_istore (q := 120) (lv2 := [some (ax_r 0), some (ax_i x1), some (ax_i x2), some (ax_i x3), some (ax_i x4), some (ax_i (v_J6_bitCount_0f7a4 rr)), some (ax_i x6), some (ax_i x7), some (ax_i x8), some (ax_i (v_J6_bitCount_0f7a4 rr))]) dX11_parting_118 rfl (by decide) rfl rfl ?_
    refine ax_aload_n (q := 121) (i := 0) dX11_parting_120 rfl rfl rfl ?_
    refine ax_get (q := 124) (k := 0) (j := 10) (v := ax_r 11) dX11_parting_121 rfl shC_0 rfl rfl rfl (by decide) fl_X11_88 ?_
    refine ax_get (q := 127) (k := 11) (j := 0) (v := ax_r 44) dX11_parting_124 rfl shC_11 rfl rfl rfl (by decide) fl_X11_336 ?_
    refine ax_iload (q := 129) dX11_parting_127 rfl rfl ?_
    refine ax_iald (q := 130) (a := (Int32.toNatClampNeg x8)) (v := (σ.1 44 (Int32.toNatClampNeg x8))) dX11_parting_129 rfl shC_44 (h2 c1) rfl rfl ?_
    refine ax_istore (q := 132) (lv2 := [some (ax_r 0), some (ax_i x1), some (ax_i x2), some (ax_i x3), some (ax_i x4), some (ax_i (v_J6_bitCount_0f7a4 rr)), some (ax_i (σ.1 44 (Int32.toNatClampNeg x8))), some (ax_i x7), some (ax_i x8), some (ax_i (v_J6_bitCount_0f7a4 rr))]) dX11_parting_130 rfl (by decide) rfl rfl ?_
    refine ax_iincK (q := 135) (lv2 := [some (ax_r 0), some (ax_i x1), some (ax_i x2), some (ax_i x3), some (ax_i x4), some (ax_i (v_J6_bitCount_0f7a4 rr)), some (ax_i (σ.1 44 (Int32.toNatClampNeg x8))), some (ax_i x7), some (ax_i (x8 + (1 : Int32))), some (ax_i (v_J6_bitCount_0f7a4 rr))]) dX11_parting_132 rfl rfl ki_1 (by decide) rfl rfl ?_
    refine ax_goto (tgt := 68) dX11_parting_135 (by decide) ?_
    refine ax_fg (lv2 := [some (ax_r 0), some (ax_i x1), some (ax_i x2), some (ax_i x3), some (ax_i x4), some (ax_i (v_J6_bitCount_0f7a4 rr)), some (ax_i (σ.1 44 (Int32.toNatClampNeg x8))), some (ax_i x7), some (ax_i (x8 + (1 : Int32))), none]) ⟨rfl, rfl, rfl, rfl, rfl, rfl, rfl, rfl, rfl, trivial⟩ ?_
    exact (k3 c1)
set_option maxRecDepth 20000 in
theorem s_X11_weakestBy_0 {d : Nat} (hd : 0 ≤ d) {Q : Option ax_V → ax_S → Prop} (σ : ax_S) (a0 : Int32) (a1 : Int32) (k1 : ax_W shC (d + 1) mX11_weakestBy Q 2 [some (ax_r 0), some (ax_i a0), some (ax_i a1), some (ax_i (0 : Int32))] [] σ) : ax_W shC (d + 1) mX11_weakestBy Q 0 [some (ax_r 0), some (ax_i a0), some (ax_i a1), none] [] σ := by
  refine ax_iconst (q := 1) dX11_weakestBy_0 rfl ki_0 ?_
  refine ax_istore_n (q := 2) (i := 3) (lv2 := [some (ax_r 0), some (ax_i a0), some (ax_i a1), some (ax_i (0 : Int32))]) dX11_weakestBy_1 rfl rfl (by decide) rfl rfl ?_
  exact k1
set_option maxRecDepth 20000 in
theorem s_X11_weakestBy_2 {d : Nat} (hd : 0 ≤ d) {Q : Option ax_V → ax_S → Prop} (σ : ax_S) (x1 : Int32) (x2 : Int32) (x3 : Int32) (k1 : ((σ.1 5 9) ≤ x3) → Q (some (ax_i (-1 : Int32))) σ) (k2 : (¬ ((σ.1 5 9) ≤ x3)) → ax_Ct shC d mX8_fall [ax_r 6, ax_i x1, ax_i x3, ax_i x2] (fun r u => ∃ x : Int32, r = some (ax_i x) ∧ ax_W shC (d + 1) mX11_weakestBy Q 23 [some (ax_r 0), some (ax_i x1), some (ax_i x2), some (ax_i x3)] (ax_i x :: []) u) σ) : ax_W shC (d + 1) mX11_weakestBy Q 2 [some (ax_r 0), some (ax_i x1), some (ax_i x2), some (ax_i x3)] [] σ := by
  refine ax_iload_n (q := 3) (i := 3) dX11_weakestBy_2 rfl rfl rfl ?_
  refine ax_aload_n (q := 4) (i := 0) dX11_weakestBy_3 rfl rfl rfl ?_
  refine ax_get (q := 7) (k := 0) (j := 4) (v := ax_r 5) dX11_weakestBy_4 rfl shC_0 rfl rfl rfl (by decide) fl_X11_42 ?_
  refine ax_get (q := 10) (k := 5) (j := 9) (v := ax_i (σ.1 5 9)) dX11_weakestBy_7 rfl shC_5 rfl rfl rfl (by decide) fl_X11_154 ?_
  refine ax_icmp_ge (tgt := 34) (q := 13) dX11_weakestBy_10 (by decide) rfl (fun c1 => ?_) (fun c1 => ?_)
  · refine ax_iconst (q := 35) dX11_weakestBy_34 rfl ki_m1 ?_
    exact ax_iret dX11_weakestBy_35 rfl rfl (k1 c1)
  · refine ax_aload_n (q := 14) (i := 0) dX11_weakestBy_13 rfl rfl rfl ?_
    refine ax_get (q := 17) (k := 0) (j := 5) (v := ax_r 6) dX11_weakestBy_14 rfl shC_0 rfl rfl rfl (by decide) fl_X11_51 ?_
    refine ax_iload_n (q := 18) (i := 1) dX11_weakestBy_17 rfl rfl rfl ?_
    refine ax_iload_n (q := 19) (i := 3) dX11_weakestBy_18 rfl rfl rfl ?_
    refine ax_iload_n (q := 20) (i := 2) dX11_weakestBy_19 rfl rfl rfl ?_
    exact ax_callVci (q := 23) (As := [ax_i x1, ax_i x3, ax_i x2]) (st := []) dX11_weakestBy_20 rfl lk_X11_311 shC_6 rfl rfl rfl rfl (Nat.le_of_ble_eq_true rfl) (k2 c1)
set_option maxRecDepth 20000 in
theorem s_X11_weakestBy_23 {d : Nat} (hd : 0 ≤ d) {Q : Option ax_V → ax_S → Prop} (σ : ax_S) (x1 : Int32) (x2 : Int32) (x3 : Int32) (rr : Int32) (k1 : (rr = 0) → ax_W shC (d + 1) mX11_weakestBy Q 2 [some (ax_r 0), some (ax_i x1), some (ax_i x2), some (ax_i (x3 + (1 : Int32)))] [] σ) (k2 : (¬ (rr = 0)) → Q (some (ax_i x3)) σ) : ax_W shC (d + 1) mX11_weakestBy Q 23 [some (ax_r 0), some (ax_i x1), some (ax_i x2), some (ax_i x3)] [ax_i rr] σ := by
  refine ax_if_eq (tgt := 28) (q := 26) dX11_weakestBy_23 (by decide) rfl (fun c1 => ?_) (fun c1 => ?_)
  · refine ax_iincK (q := 31) (lv2 := [some (ax_r 0), some (ax_i x1), some (ax_i x2), some (ax_i (x3 + (1 : Int32)))]) dX11_weakestBy_28 rfl rfl ki_1 (by decide) rfl rfl ?_
    refine ax_goto (tgt := 2) dX11_weakestBy_31 (by decide) ?_
    exact (k1 c1)
  · refine ax_iload_n (q := 27) (i := 3) dX11_weakestBy_26 rfl rfl rfl ?_
    exact ax_iret dX11_weakestBy_27 rfl rfl (k2 c1)
set_option maxRecDepth 20000 in
theorem s_X11_greatestBorne_0 {d : Nat} (hd : 0 ≤ d) {Q : Option ax_V → ax_S → Prop} (σ : ax_S)  (k1 : ax_Ct shC d mX0_live [ax_r 5] (fun r u => ∃ x : Int32, r = some (ax_i x) ∧ ax_W shC (d + 1) mX11_greatestBorne Q 7 [some (ax_r 0), none, none] (ax_i x :: []) u) σ) : ax_W shC (d + 1) mX11_greatestBorne Q 0 [some (ax_r 0), none, none] [] σ := by
  refine ax_aload_n (q := 1) (i := 0) dX11_greatestBorne_0 rfl rfl rfl ?_
  refine ax_get (q := 4) (k := 0) (j := 4) (v := ax_r 5) dX11_greatestBorne_1 rfl shC_0 rfl rfl rfl (by decide) fl_X11_42 ?_
  exact ax_callVci (q := 7) (As := []) (st := []) dX11_greatestBorne_4 rfl lk_X11_185 shC_5 rfl rfl rfl rfl (Nat.le_of_ble_eq_true rfl) k1
set_option maxRecDepth 20000 in
theorem s_X11_greatestBorne_7 {d : Nat} (hd : 0 ≤ d) {Q : Option ax_V → ax_S → Prop} (σ : ax_S) (rr : Int32) (k1 : ax_Ct shC d mX0_leastBorne [ax_r 5] (fun r u => ∃ x : Int32, r = some (ax_i x) ∧ ax_W shC (d + 1) mX11_greatestBorne Q 15 [some (ax_r 0), some (ax_i rr), none] (ax_i x :: []) u) σ) : ax_W shC (d + 1) mX11_greatestBorne Q 7 [some (ax_r 0), none, none] [ax_i rr] σ := by
  refine ax_istore_n (q := 8) (i := 1) (lv2 := [some (ax_r 0), some (ax_i rr), none]) dX11_greatestBorne_7 rfl rfl (by decide) rfl rfl ?_
  refine ax_aload_n (q := 9) (i := 0) dX11_greatestBorne_8 rfl rfl rfl ?_
  refine ax_get (q := 12) (k := 0) (j := 4) (v := ax_r 5) dX11_greatestBorne_9 rfl shC_0 rfl rfl rfl (by decide) fl_X11_42 ?_
  exact ax_callVci (q := 15) (As := []) (st := []) dX11_greatestBorne_12 rfl lk_X11_345 shC_5 rfl rfl rfl rfl (Nat.le_of_ble_eq_true rfl) k1
set_option maxRecDepth 20000 in
theorem s_X11_greatestBorne_15 {d : Nat} (hd : 0 ≤ d) {Q : Option ax_V → ax_S → Prop} (σ : ax_S) (x1 : Int32) (rr : Int32) (k1 : ax_W shC (d + 1) mX11_greatestBorne Q 18 [some (ax_r 0), some (ax_i x1), some (ax_i (rr + (1 : Int32)))] [] σ) : ax_W shC (d + 1) mX11_greatestBorne Q 15 [some (ax_r 0), some (ax_i x1), none] [ax_i rr] σ := by
  refine ax_iconst (q := 16) dX11_greatestBorne_15 rfl ki_1 ?_
  refine ax_iadd (q := 17) dX11_greatestBorne_16 rfl ?_
  refine ax_istore_n (q := 18) (i := 2) (lv2 := [some (ax_r 0), some (ax_i x1), some (ax_i (rr + (1 : Int32)))]) dX11_greatestBorne_17 rfl rfl (by decide) rfl rfl ?_
  exact k1
set_option maxRecDepth 20000 in
theorem s_X11_greatestBorne_18 {d : Nat} (hd : 0 ≤ d) {Q : Option ax_V → ax_S → Prop} (σ : ax_S) (x1 : Int32) (x2 : Int32) (k1 : ((999 : Int32) < x2) → Q (some (ax_i (999 : Int32))) σ) (k2 : (¬ ((999 : Int32) < x2)) → ax_Ct shC d mX11_weakestBy [ax_r 0, ax_i x1, ax_i x2] (fun r u => ∃ x : Int32, r = some (ax_i x) ∧ ax_W shC (d + 1) mX11_greatestBorne Q 31 [some (ax_r 0), some (ax_i x1), some (ax_i x2)] (ax_i x :: []) u) σ) : ax_W shC (d + 1) mX11_greatestBorne Q 18 [some (ax_r 0), some (ax_i x1), some (ax_i x2)] [] σ := by
  refine ax_iload_n (q := 19) (i := 2) dX11_greatestBorne_18 rfl rfl rfl ?_
  refine ax_sipush (q := 22) dX11_greatestBorne_19 rfl ks_999 ?_
  refine ax_icmp_gt (tgt := 45) (q := 25) dX11_greatestBorne_22 (by decide) rfl (fun c1 => ?_) (fun c1 => ?_)
  · refine ax_sipush (q := 48) dX11_greatestBorne_45 rfl ks_999 ?_
    exact ax_iret dX11_greatestBorne_48 rfl rfl (k1 c1)
  · refine ax_aload_n (q := 26) (i := 0) dX11_greatestBorne_25 rfl rfl rfl ?_
    refine ax_iload_n (q := 27) (i := 1) dX11_greatestBorne_26 rfl rfl rfl ?_
    refine ax_iload_n (q := 28) (i := 2) dX11_greatestBorne_27 rfl rfl rfl ?_
    exact ax_callVci (q := 31) (As := [ax_i x1, ax_i x2]) (st := []) dX11_greatestBorne_28 rfl lk_X11_342 shC_0 rfl rfl rfl rfl (Nat.le_of_ble_eq_true rfl) (k2 c1)
set_option maxRecDepth 20000 in
theorem s_X11_greatestBorne_31 {d : Nat} (hd : 0 ≤ d) {Q : Option ax_V → ax_S → Prop} (σ : ax_S) (x1 : Int32) (x2 : Int32) (rr : Int32) (k1 : (rr = (-1 : Int32)) → ax_W shC (d + 1) mX11_greatestBorne Q 18 [some (ax_r 0), some (ax_i x1), some (ax_i (x2 + (1 : Int32)))] [] σ) (k2 : (¬ (rr = (-1 : Int32))) → Q (some (ax_i (x2 - (1 : Int32)))) σ) : ax_W shC (d + 1) mX11_greatestBorne Q 31 [some (ax_r 0), some (ax_i x1), some (ax_i x2)] [ax_i rr] σ := by
  refine ax_iconst (q := 32) dX11_greatestBorne_31 rfl ki_m1 ?_
  refine ax_icmp_eq (tgt := 39) (q := 35) dX11_greatestBorne_32 (by decide) rfl (fun c1 => ?_) (fun c1 => ?_)
  · refine ax_iincK (q := 42) (lv2 := [some (ax_r 0), some (ax_i x1), some (ax_i (x2 + (1 : Int32)))]) dX11_greatestBorne_39 rfl rfl ki_1 (by decide) rfl rfl ?_
    refine ax_goto (tgt := 18) dX11_greatestBorne_42 (by decide) ?_
    exact (k1 c1)
  · refine ax_iload_n (q := 36) (i := 2) dX11_greatestBorne_35 rfl rfl rfl ?_
    refine ax_iconst (q := 37) dX11_greatestBorne_36 rfl ki_1 ?_
    refine ax_isub (q := 38) dX11_greatestBorne_37 rfl ?_
    exact ax_iret dX11_greatestBorne_38 rfl rfl (k2 c1)
set_option maxRecDepth 20000 in
theorem s_X11_stands_0 {d : Nat} (hd : 1 ≤ d) {Q : Option ax_V → ax_S → Prop} (σ : ax_S) (a0 : Int32) (k1 : (¬ (¬ ((σ.1 5 9) ≤ 0))) → Q (some (ax_i (-1 : Int32))) σ) (k2 : (¬ ((σ.1 5 9) ≤ 0)) → ((a0 = 0) ∨ (¬ (¬ a0 = (1 : Int32)))) → ax_Ct shC d mX11_greatestBorne [ax_r 0] (fun r u => ∃ x : Int32, r = some (ax_i x) ∧ ax_W shC (d + 1) mX11_stands Q 20 [some (ax_r 0), some (ax_i a0), none] (ax_i x :: []) u) σ) (k3 : (¬ ((σ.1 5 9) ≤ 0)) → (¬ ((a0 = 0) ∨ (¬ (¬ a0 = (1 : Int32))))) → Q (some (ax_i (-1 : Int32))) σ) : ax_W shC (d + 1) mX11_stands Q 0 [some (ax_r 0), some (ax_i a0), none] [] σ := by
  refine ax_aload_n (q := 1) (i := 0) dX11_stands_0 rfl rfl rfl ?_
  refine ax_callVfi (q := 4) (As := []) (st := []) (x := (if (¬ ((σ.1 5 9) ≤ 0)) then (1 : Int32) else 0)) (σ2 := σ) dX11_stands_1 rfl lk_X11_274 shC_0 rfl rfl rfl rfl (Nat.le_of_ble_eq_true rfl) (f_X11_hasBelt σ   (d := d) (by omega)) ?_
  refine ax_if_eqB (tgt := 14) (q := 7) dX11_stands_4 (by decide) rfl (fun c1 => ?_) (fun c1 => ?_)
  · refine ax_iconst (q := 15) dX11_stands_14 rfl ki_m1 ?_
    exact ax_iret dX11_stands_15 rfl rfl (k1 c1)
  · refine ax_iload_n (q := 8) (i := 1) dX11_stands_7 rfl rfl rfl ?_
    refine ax_callSfi (q := 11) (As := [ax_i a0]) (st := []) (x := (if ((a0 = 0) ∨ (¬ (¬ a0 = (1 : Int32)))) then (1 : Int32) else 0)) (σ2 := σ) dX11_stands_8 rfl lk_X11_121 rfl rfl (Nat.le_of_ble_eq_true rfl) (f_X11_isBit (sh := shC) σ a0  (d := d) (by omega)) ?_
    refine ax_if_neB (tgt := 16) (q := 14) dX11_stands_11 (by decide) rfl (fun c2 => ?_) (fun c2 => ?_)
    · refine ax_aload_n (q := 17) (i := 0) dX11_stands_16 rfl rfl rfl ?_
      exact ax_callVci (q := 20) (As := []) (st := []) dX11_stands_17 rfl lk_X11_339 shC_0 rfl rfl rfl rfl (Nat.le_of_ble_eq_true rfl) (k2 c1 c2)
    · refine ax_iconst (q := 15) dX11_stands_14 rfl ki_m1 ?_
      exact ax_iret dX11_stands_15 rfl rfl (k3 c1 c2)
set_option maxRecDepth 20000 in
theorem s_X11_stands_20 {d : Nat} (hd : 0 ≤ d) {Q : Option ax_V → ax_S → Prop} (σ : ax_S) (x1 : Int32) (rr : Int32) (k1 : (¬ x1 = 0) → (¬ rr = (999 : Int32)) → ax_Ct shC d mX0_live [ax_r 5] (fun r u => ∃ x : Int32, r = some (ax_i x) ∧ ax_W shC (d + 1) mX11_stands Q 46 [none, none, some (ax_i rr)] (ax_i x :: [ax_r 0]) u) σ) (k2 : (¬ x1 = 0) → (¬ (¬ rr = (999 : Int32))) → Q (some (ax_i (-1 : Int32))) σ) (k3 : (¬ (¬ x1 = 0)) → Q (some (ax_i rr)) σ) : ax_W shC (d + 1) mX11_stands Q 20 [some (ax_r 0), some (ax_i x1), none] [ax_i rr] σ := by
  refine ax_istore_n (q := 21) (i := 2) (lv2 := [some (ax_r 0), some (ax_i x1), some (ax_i rr)]) dX11_stands_20 rfl rfl (by decide) rfl rfl ?_
  refine ax_iload_n (q := 22) (i := 1) dX11_stands_21 rfl rfl rfl ?_
  refine ax_if_ne (tgt := 27) (q := 25) dX11_stands_22 (by decide) rfl (fun c1 => ?_) (fun c1 => ?_)
  · refine ax_iload_n (q := 28) (i := 2) dX11_stands_27 rfl rfl rfl ?_
    refine ax_sipush (q := 31) dX11_stands_28 rfl ks_999 ?_
    refine ax_icmp_ne (tgt := 38) (q := 34) dX11_stands_31 (by decide) rfl (fun c2 => ?_) (fun c2 => ?_)
    · refine ax_aload_n (q := 39) (i := 0) dX11_stands_38 rfl rfl rfl ?_
      refine ax_aload_n (q := 40) (i := 0) dX11_stands_39 rfl rfl rfl ?_
      refine ax_get (q := 43) (k := 0) (j := 4) (v := ax_r 5) dX11_stands_40 rfl shC_0 rfl rfl rfl (by decide) fl_X11_42 ?_
      refine ax_fg (lv2 := [none, none, some (ax_i rr)]) ⟨rfl, trivial⟩ ?_
      exact ax_callVci (q := 46) (As := []) (st := [ax_r 0]) dX11_stands_43 rfl lk_X11_185 shC_5 rfl rfl rfl rfl (Nat.le_of_ble_eq_true rfl) (k1 c1 c2)
    · refine ax_iconst (q := 35) dX11_stands_34 rfl ki_m1 ?_
      refine ax_goto (tgt := 52) dX11_stands_35 (by decide) ?_
      exact ax_iret dX11_stands_52 rfl rfl (k2 c1 c2)
  · refine ax_iload_n (q := 26) (i := 2) dX11_stands_25 rfl rfl rfl ?_
    exact ax_iret dX11_stands_26 rfl rfl (k3 c1)
set_option maxRecDepth 20000 in
theorem s_X11_stands_46 {d : Nat} (hd : 0 ≤ d) {Q : Option ax_V → ax_S → Prop} (σ : ax_S) (x2 : Int32) (rr : Int32) (k1 : ax_Ct shC d mX11_weakestBy [ax_r 0, ax_i rr, ax_i (x2 + (1 : Int32))] (fun r u => ∃ x : Int32, r = some (ax_i x) ∧ ax_W shC (d + 1) mX11_stands Q 52 [none, none, none] (ax_i x :: []) u) σ) : ax_W shC (d + 1) mX11_stands Q 46 [none, none, some (ax_i x2)] [ax_i rr, ax_r 0] σ := by
  refine ax_iload_n (q := 47) (i := 2) dX11_stands_46 rfl rfl rfl ?_
  refine ax_iconst (q := 48) dX11_stands_47 rfl ki_1 ?_
  refine ax_iadd (q := 49) dX11_stands_48 rfl ?_
  refine ax_fg (lv2 := [none, none, none]) trivial ?_
  exact ax_callVci (q := 52) (As := [ax_i rr, ax_i (x2 + (1 : Int32))]) (st := []) dX11_stands_49 rfl lk_X11_342 shC_0 rfl rfl rfl rfl (Nat.le_of_ble_eq_true rfl) k1
set_option maxRecDepth 20000 in
theorem s_X11_stands_52 {d : Nat} (hd : 0 ≤ d) {Q : Option ax_V → ax_S → Prop} (σ : ax_S) (rr : Int32) (k1 : Q (some (ax_i rr)) σ) : ax_W shC (d + 1) mX11_stands Q 52 [none, none, none] [ax_i rr] σ := by
  exact ax_iret dX11_stands_52 rfl rfl k1
set_option maxRecDepth 20000 in
theorem s_X11_lowest_0 {d : Nat} (hd : 0 ≤ d) {Q : Option ax_V → ax_S → Prop} (σ : ax_S) (a0 : Int32) (k1 : ax_W shC (d + 1) mX11_lowest Q 2 [some (ax_r 0), some (ax_i a0), some (ax_i (0 : Int32))] [] σ) : ax_W shC (d + 1) mX11_lowest Q 0 [some (ax_r 0), some (ax_i a0), none] [] σ := by
  refine ax_iconst (q := 1) dX11_lowest_0 rfl ki_0 ?_
  refine ax_istore_n (q := 2) (i := 2) (lv2 := [some (ax_r 0), some (ax_i a0), some (ax_i (0 : Int32))]) dX11_lowest_1 rfl rfl (by decide) rfl rfl ?_
  exact k1
set_option maxRecDepth 20000 in
theorem s_X11_lowest_2 {d : Nat} (hd : 1 ≤ d) {Q : Option ax_V → ax_S → Prop} (σ : ax_S) (x1 : Int32) (x2 : Int32) (k1 : ((σ.1 5 9) ≤ x2) → Q (some (ax_i (-1 : Int32))) σ) (k2 : (¬ ((σ.1 5 9) ≤ x2)) → (¬ ((x1 >>> (x2 &&& 31)) &&& (1 : Int32)) = (1 : Int32)) → ax_W shC (d + 1) mX11_lowest Q 2 [some (ax_r 0), some (ax_i x1), some (ax_i (x2 + (1 : Int32)))] [] σ) (k3 : (¬ ((σ.1 5 9) ≤ x2)) → (¬ (¬ ((x1 >>> (x2 &&& 31)) &&& (1 : Int32)) = (1 : Int32))) → Q (some (ax_i x2)) σ) : ax_W shC (d + 1) mX11_lowest Q 2 [some (ax_r 0), some (ax_i x1), some (ax_i x2)] [] σ := by
  refine ax_iload_n (q := 3) (i := 2) dX11_lowest_2 rfl rfl rfl ?_
  refine ax_aload_n (q := 4) (i := 0) dX11_lowest_3 rfl rfl rfl ?_
  refine ax_get (q := 7) (k := 0) (j := 4) (v := ax_r 5) dX11_lowest_4 rfl shC_0 rfl rfl rfl (by decide) fl_X11_42 ?_
  refine ax_get (q := 10) (k := 5) (j := 9) (v := ax_i (σ.1 5 9)) dX11_lowest_7 rfl shC_5 rfl rfl rfl (by decide) fl_X11_154 ?_
  refine ax_icmp_ge (tgt := 30) (q := 13) dX11_lowest_10 (by decide) rfl (fun c1 => ?_) (fun c1 => ?_)
  · refine ax_iconst (q := 31) dX11_lowest_30 rfl ki_m1 ?_
    exact ax_iret dX11_lowest_31 rfl rfl (k1 c1)
  · refine ax_iload_n (q := 14) (i := 1) dX11_lowest_13 rfl rfl rfl ?_
    refine ax_iload_n (q := 15) (i := 2) dX11_lowest_14 rfl rfl rfl ?_
    refine ax_callSfi (q := 18) (As := [ax_i x1, ax_i x2]) (st := []) (x := ((x1 >>> (x2 &&& 31)) &&& (1 : Int32))) (σ2 := σ) dX11_lowest_15 rfl lk_X11_215 rfl rfl (Nat.le_of_ble_eq_true rfl) (f_X11_bitOf (sh := shC) σ x1 x2  (d := d) (by omega)) ?_
    refine ax_iconst (q := 19) dX11_lowest_18 rfl ki_1 ?_
    refine ax_icmp_ne (tgt := 24) (q := 22) dX11_lowest_19 (by decide) rfl (fun c2 => ?_) (fun c2 => ?_)
    · refine ax_iincK (q := 27) (lv2 := [some (ax_r 0), some (ax_i x1), some (ax_i (x2 + (1 : Int32)))]) dX11_lowest_24 rfl rfl ki_1 (by decide) rfl rfl ?_
      refine ax_goto (tgt := 2) dX11_lowest_27 (by decide) ?_
      exact (k2 c1 c2)
    · refine ax_iload_n (q := 23) (i := 2) dX11_lowest_22 rfl rfl rfl ?_
      exact ax_iret dX11_lowest_23 rfl rfl (k3 c1 c2)
