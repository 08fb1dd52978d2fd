set_option maxRecDepth 20000 in
theorem s_X12_drawStroke_0 {d : Nat} (hd : 0 ≤ d) {Q : Option ax_V → ax_S → Prop} (σ : ax_S)  (k1 : ax_Ct shM d mX12_heights [ax_r 0] (fun r u => ∃ x : Int32, r = some (ax_i x) ∧ ax_W shM (d + 1) mX12_drawStroke Q 5 [some (ax_r 0), none, none] (ax_i x :: [ax_r 0]) u) σ) : ax_W shM (d + 1) mX12_drawStroke Q 0 [some (ax_r 0), none, none] [] σ := by
  refine ax_aload_n (q := 1) (i := 0) dX12_drawStroke_0 rfl rfl rfl ?_
  refine ax_aload_n (q := 2) (i := 0) dX12_drawStroke_1 rfl rfl rfl ?_
  exact ax_callVci (q := 5) (As := []) (st := [ax_r 0]) dX12_drawStroke_2 rfl lk_X12_395 shM_0 rfl rfl rfl rfl (Nat.le_of_ble_eq_true rfl) k1
set_option maxRecDepth 20000 in
theorem s_X12_drawStroke_5 {d : Nat} (hd : 1 ≤ d) {Q : Option ax_V → ax_S → Prop} (σ : ax_S) (rr : Int32) (h1 : ¬ (Int32.toInt64 rr) = 0) (k2 : ax_W shM (d + 1) mX12_drawStroke Q 11 [some (ax_r 0), some (ax_i (Int64.toInt32 ((((Int64.toUInt64 (((σ.2 0 38) * (6364136223846793005 : Int64)) + (1442695040888963407 : Int64))) >>> ((Int64.toUInt64 (Int32.toInt64 (33 : Int32))) &&& Int64.toUInt64 63)).toInt64) - (((Int64.toUInt64 (((σ.2 0 38) * (6364136223846793005 : Int64)) + (1442695040888963407 : Int64))) >>> ((Int64.toUInt64 (Int32.toInt64 (33 : Int32))) &&& Int64.toUInt64 63)).toInt64) / (Int32.toInt64 rr) * (Int32.toInt64 rr)))), some (ax_i (0 : Int32))] [] (ax_ul σ 0 38 (((σ.2 0 38) * (6364136223846793005 : Int64)) + (1442695040888963407 : Int64)))) : ax_W shM (d + 1) mX12_drawStroke Q 5 [some (ax_r 0), none, none] [ax_i rr, ax_r 0] σ := by
  refine ax_callVfi (q := 8) (As := [ax_i rr]) (st := []) (x := (Int64.toInt32 ((((Int64.toUInt64 (((σ.2 0 38) * (6364136223846793005 : Int64)) + (1442695040888963407 : Int64))) >>> ((Int64.toUInt64 (Int32.toInt64 (33 : Int32))) &&& Int64.toUInt64 63)).toInt64) - (((Int64.toUInt64 (((σ.2 0 38) * (6364136223846793005 : Int64)) + (1442695040888963407 : Int64))) >>> ((Int64.toUInt64 (Int32.toInt64 (33 : Int32))) &&& Int64.toUInt64 63)).toInt64) / (Int32.toInt64 rr) * (Int32.toInt64 rr)))) (σ2 := (ax_ul σ 0 38 (((σ.2 0 38) * (6364136223846793005 : Int64)) + (1442695040888963407 : Int64)))) dX12_drawStroke_5 rfl lk_X12_398 shM_0 rfl rfl rfl rfl (Nat.le_of_ble_eq_true rfl) (f_X12_draw σ rr h1 (d := d) (by omega)) ?_
  refine ax_istore_n (q := 9) (i := 1) (lv2 := [some (ax_r 0), some (ax_i (Int64.toInt32 ((((Int64.toUInt64 (((σ.2 0 38) * (6364136223846793005 : Int64)) + (1442695040888963407 : Int64))) >>> ((Int64.toUInt64 (Int32.toInt64 (33 : Int32))) &&& Int64.toUInt64 63)).toInt64) - (((Int64.toUInt64 (((σ.2 0 38) * (6364136223846793005 : Int64)) + (1442695040888963407 : Int64))) >>> ((Int64.toUInt64 (Int32.toInt64 (33 : Int32))) &&& Int64.toUInt64 63)).toInt64) / (Int32.toInt64 rr) * (Int32.toInt64 rr)))), none]) dX12_drawStroke_8 rfl rfl (by decide) rfl rfl ?_
  refine ax_iconst (q := 10) dX12_drawStroke_9 rfl ki_0 ?_
  refine ax_istore_n (q := 11) (i := 2) (lv2 := [some (ax_r 0), some (ax_i (Int64.toInt32 ((((Int64.toUInt64 (((σ.2 0 38) * (6364136223846793005 : Int64)) + (1442695040888963407 : Int64))) >>> ((Int64.toUInt64 (Int32.toInt64 (33 : Int32))) &&& Int64.toUInt64 63)).toInt64) - (((Int64.toUInt64 (((σ.2 0 38) * (6364136223846793005 : Int64)) + (1442695040888963407 : Int64))) >>> ((Int64.toUInt64 (Int32.toInt64 (33 : Int32))) &&& Int64.toUInt64 63)).toInt64) / (Int32.toInt64 rr) * (Int32.toInt64 rr)))), some (ax_i (0 : Int32))]) dX12_drawStroke_10 rfl rfl (by decide) rfl rfl ?_
  exact k2
set_option maxRecDepth 20000 in
theorem s_X12_drawStroke_11 {d : Nat} (hd : 1 ≤ d) {Q : Option ax_V → ax_S → Prop} (σ : ax_S) (x1 : Int32) (x2 : Int32) (h1 : vp_in (((4 : Int32) * x2) + (1 : Int32)) 32) (h2 : (x1 < (σ.1 14 (Int32.toNatClampNeg (((4 : Int32) * x2) + (1 : Int32))))) → ¬ (Int32.toInt64 (99 : Int32)) = 0) (k3 : (x1 < (σ.1 14 (Int32.toNatClampNeg (((4 : Int32) * x2) + (1 : Int32))))) → ax_Ct shM d mX12_strikeNow [ax_r 0, ax_i x2, ax_i ((Int64.toInt32 ((((Int64.toUInt64 (((σ.2 0 38) * (6364136223846793005 : Int64)) + (1442695040888963407 : Int64))) >>> ((Int64.toUInt64 (Int32.toInt64 (33 : Int32))) &&& Int64.toUInt64 63)).toInt64) - (((Int64.toUInt64 (((σ.2 0 38) * (6364136223846793005 : Int64)) + (1442695040888963407 : Int64))) >>> ((Int64.toUInt64 (Int32.toInt64 (33 : Int32))) &&& Int64.toUInt64 63)).toInt64) / (Int32.toInt64 (99 : Int32)) * (Int32.toInt64 (99 : Int32)))) + (1 : Int32))] (fun r u => ∃ x : Int32, r = some (ax_i x) ∧ ax_W shM (d + 1) mX12_drawStroke Q 49 [none, none, none] (ax_i x :: []) u) (ax_ul σ 0 38 (((σ.2 0 38) * (6364136223846793005 : Int64)) + (1442695040888963407 : Int64)))) (h4 : (¬ (x1 < (σ.1 14 (Int32.toNatClampNeg (((4 : Int32) * x2) + (1 : Int32)))))) → vp_in (((4 : Int32) * x2) + (1 : Int32)) 32) (k5 : (¬ (x1 < (σ.1 14 (Int32.toNatClampNeg (((4 : Int32) * x2) + (1 : Int32)))))) → ax_W shM (d + 1) mX12_drawStroke Q 11 [some (ax_r 0), some (ax_i (x1 - (σ.1 14 (Int32.toNatClampNeg (((4 : Int32) * x2) + (1 : Int32)))))), some (ax_i (x2 + (1 : Int32)))] [] σ) : ax_W shM (d + 1) mX12_drawStroke Q 11 [some (ax_r 0), some (ax_i x1), some (ax_i x2)] [] σ := by
  refine ax_iload_n (q := 12) (i := 1) dX12_drawStroke_11 rfl rfl rfl ?_
  refine ax_aload_n (q := 13) (i := 0) dX12_drawStroke_12 rfl rfl rfl ?_
  refine ax_iload_n (q := 14) (i := 2) dX12_drawStroke_13 rfl rfl rfl ?_
  refine ax_iconst (q := 15) dX12_drawStroke_14 rfl ki_1 ?_
  refine ax_callVfi (q := 18) (As := [ax_i x2, ax_i (1 : Int32)]) (st := [ax_i x1]) (x := (σ.1 14 (Int32.toNatClampNeg (((4 : Int32) * x2) + (1 : Int32))))) (σ2 := σ) dX12_drawStroke_15 rfl lk_X12_277 shM_0 rfl rfl rfl rfl (Nat.le_of_ble_eq_true rfl) (f_X12_of σ x2 (1 : Int32) h1 (d := d) (by omega)) ?_
  refine ax_icmp_lt (tgt := 36) (q := 21) dX12_drawStroke_18 (by decide) rfl (fun c1 => ?_) (fun c1 => ?_)
  · refine ax_aload_n (q := 37) (i := 0) dX12_drawStroke_36 rfl rfl rfl ?_
    refine ax_iload_n (q := 38) (i := 2) dX12_drawStroke_37 rfl rfl rfl ?_
    refine ax_aload_n (q := 39) (i := 0) dX12_drawStroke_38 rfl rfl rfl ?_
    refine ax_bipush (q := 41) dX12_drawStroke_39 rfl kb_99 ?_
    refine ax_callVfi (q := 44) (As := [ax_i (99 : Int32)]) (st := [ax_i x2, ax_r 0]) (x := (Int64.toInt32 ((((Int64.toUInt64 (((σ.2 0 38) * (6364136223846793005 : Int64)) + (1442695040888963407 : Int64))) >>> ((Int64.toUInt64 (Int32.toInt64 (33 : Int32))) &&& Int64.toUInt64 63)).toInt64) - (((Int64.toUInt64 (((σ.2 0 38) * (6364136223846793005 : Int64)) + (1442695040888963407 : Int64))) >>> ((Int64.toUInt64 (Int32.toInt64 (33 : Int32))) &&& Int64.toUInt64 63)).toInt64) / (Int32.toInt64 (99 : Int32)) * (Int32.toInt64 (99 : Int32))))) (σ2 := (ax_ul σ 0 38 (((σ.2 0 38) * (6364136223846793005 : Int64)) + (1442695040888963407 : Int64)))) dX12_drawStroke_41 rfl lk_X12_398 shM_0 rfl rfl rfl rfl (Nat.le_of_ble_eq_true rfl) (f_X12_draw σ (99 : Int32) (h2 c1) (d := d) (by omega)) ?_
    refine ax_iconst (q := 45) dX12_drawStroke_44 rfl ki_1 ?_
    refine ax_iadd (q := 46) dX12_drawStroke_45 rfl ?_
    refine ax_fg (lv2 := [none, none, none]) trivial ?_
    exact ax_callVci (q := 49) (As := [ax_i x2, ax_i ((Int64.toInt32 ((((Int64.toUInt64 (((σ.2 0 38) * (6364136223846793005 : Int64)) + (1442695040888963407 : Int64))) >>> ((Int64.toUInt64 (Int32.toInt64 (33 : Int32))) &&& Int64.toUInt64 63)).toInt64) - (((Int64.toUInt64 (((σ.2 0 38) * (6364136223846793005 : Int64)) + (1442695040888963407 : Int64))) >>> ((Int64.toUInt64 (Int32.toInt64 (33 : Int32))) &&& Int64.toUInt64 63)).toInt64) / (Int32.toInt64 (99 : Int32)) * (Int32.toInt64 (99 : Int32)))) + (1 : Int32))]) (st := []) dX12_drawStroke_46 rfl lk_X12_360 shM_0 rfl rfl rfl rfl (Nat.le_of_ble_eq_true rfl) (k3 c1)
  · refine ax_iload_n (q := 22) (i := 1) dX12_drawStroke_21 rfl rfl rfl ?_
    refine ax_aload_n (q := 23) (i := 0) dX12_drawStroke_22 rfl rfl rfl ?_
    refine ax_iload_n (q := 24) (i := 2) dX12_drawStroke_23 rfl rfl rfl ?_
    refine ax_iconst (q := 25) dX12_drawStroke_24 rfl ki_1 ?_
    refine ax_callVfi (q := 28) (As := [ax_i x2, ax_i (1 : Int32)]) (st := [ax_i x1]) (x := (σ.1 14 (Int32.toNatClampNeg (((4 : Int32) * x2) + (1 : Int32))))) (σ2 := σ) dX12_drawStroke_25 rfl lk_X12_277 shM_0 rfl rfl rfl rfl (Nat.le_of_ble_eq_true rfl) (f_X12_of σ x2 (1 : Int32) (h4 c1) (d := d) (by omega)) ?_
    refine ax_isub (q := 29) dX12_drawStroke_28 rfl ?_
    refine ax_istore_n (q := 30) (i := 1) (lv2 := [some (ax_r 0), some (ax_i (x1 - (σ.1 14 (Int32.toNatClampNeg (((4 : Int32) * x2) + (1 : Int32)))))), some (ax_i x2)]) dX12_drawStroke_29 rfl rfl (by decide) rfl rfl ?_
    refine ax_iincK (q := 33) (lv2 := [some (ax_r 0), some (ax_i (x1 - (σ.1 14 (Int32.toNatClampNeg (((4 : Int32) * x2) + (1 : Int32)))))), some (ax_i (x2 + (1 : Int32)))]) dX12_drawStroke_30 rfl rfl ki_1 (by decide) rfl rfl ?_
    refine ax_goto (tgt := 11) dX12_drawStroke_33 (by decide) ?_
    exact (k5 c1)
set_option maxRecDepth 20000 in
theorem s_X12_drawStroke_49 {d : Nat} (hd : 0 ≤ d) {Q : Option ax_V → ax_S → Prop} (σ : ax_S) (rr : Int32) (k1 : Q none σ) : ax_W shM (d + 1) mX12_drawStroke Q 49 [none, none, none] [ax_i rr] σ := by
  refine ax_popi (q := 50) dX12_drawStroke_49 rfl ?_
  exact ax_vret dX12_drawStroke_50 rfl k1
set_option maxRecDepth 20000 in
theorem s_X12_decades_0 {d : Nat} (hd : 2 ≤ d) {Q : Option ax_V → ax_S → Prop} (σ : ax_S) (a0 : Int32) (a1 : Int64) (k1 : ((σ.1 0 23) = 0) → Q (some (ax_i (-1 : Int32))) σ) (h2 : (¬ ((σ.1 0 23) = 0)) → ((¬ (a0 < (1 : Int32))) ∧ (¬ ((60 : Int32) < a0))) → vp_in (86 : Int32) 268) (k3 : (¬ ((σ.1 0 23) = 0)) → (((¬ (a0 < (1 : Int32))) ∧ (¬ ((60 : Int32) < a0))) ∧ (¬ ((999 : Int32) < ((σ.1 15 86) + a0)))) → ax_W shM (d + 1) mX12_decades Q 25 [some (ax_r 0), some (ax_i a0), none, none, some (ax_i (0 : Int32))] [] (ax_ul σ 0 38 a1)) (k4 : (¬ ((σ.1 0 23) = 0)) → (¬ (((¬ (a0 < (1 : Int32))) ∧ (¬ ((60 : Int32) < a0))) ∧ (¬ ((999 : Int32) < ((σ.1 15 86) + a0))))) → Q (some (ax_i (-1 : Int32))) σ) : ax_W shM (d + 1) mX12_decades Q 0 [some (ax_r 0), some (ax_i a0), some (ax_l a1), none, none] [] σ := by
  refine ax_aload_n (q := 1) (i := 0) dX12_decades_0 rfl rfl rfl ?_
  refine ax_get (q := 4) (k := 0) (j := 23) (v := ax_i (σ.1 0 23)) dX12_decades_1 rfl shM_0 rfl rfl rfl (by decide) fl_X12_271 ?_
  refine ax_if_eq (tgt := 15) (q := 7) dX12_decades_4 (by decide) rfl (fun c1 => ?_) (fun c1 => ?_)
  · refine ax_iconst (q := 16) dX12_decades_15 rfl ki_m1 ?_
    exact ax_iret dX12_decades_16 rfl rfl (k1 c1)
  · refine ax_aload_n (q := 8) (i := 0) dX12_decades_7 rfl rfl rfl ?_
    refine ax_iload_n (q := 9) (i := 1) dX12_decades_8 rfl rfl rfl ?_
    refine ax_callVfi (q := 12) (As := [ax_i a0]) (st := []) (x := (if (((¬ (a0 < (1 : Int32))) ∧ (¬ ((60 : Int32) < a0))) ∧ (¬ ((999 : Int32) < ((σ.1 15 86) + a0)))) then (1 : Int32) else 0)) (σ2 := σ) dX12_decades_9 rfl lk_X12_378 shM_0 rfl rfl rfl rfl (Nat.le_of_ble_eq_true rfl) (f_X12_areSummers σ a0 (h2 c1) (d := d) (by omega)) ?_
    refine ax_if_neB (tgt := 17) (q := 15) dX12_decades_12 (by decide) rfl (fun c2 => ?_) (fun c2 => ?_)
    · refine ax_aload_n (q := 18) (i := 0) dX12_decades_17 rfl rfl rfl ?_
      refine ax_lload_n (q := 19) (i := 2) dX12_decades_18 rfl rfl rfl ?_
      refine ax_putl (q := 22) (k := 0) (j := 38) dX12_decades_19 rfl shM_0 rfl rfl (by decide) fl_X12_387 rfl rfl rfl rfl ?_
      refine ax_iconst (q := 23) dX12_decades_22 rfl ki_0 ?_
      refine ax_istore (q := 25) (lv2 := [some (ax_r 0), some (ax_i a0), some (ax_l a1), none, some (ax_i (0 : Int32))]) dX12_decades_23 rfl (by decide) rfl rfl ?_
      refine ax_fg (lv2 := [some (ax_r 0), some (ax_i a0), none, none, some (ax_i (0 : Int32))]) ⟨rfl, rfl, rfl, trivial⟩ ?_
      exact (k3 c1 c2)
    · refine ax_iconst (q := 16) dX12_decades_15 rfl ki_m1 ?_
      exact ax_iret dX12_decades_16 rfl rfl (k4 c1 c2)
set_option maxRecDepth 20000 in
theorem s_X12_decades_25 {d : Nat} (hd : 0 ≤ d) {Q : Option ax_V → ax_S → Prop} (σ : ax_S) (x1 : Int32) (x4 : Int32) (k1 : (x1 ≤ x4) → Q (some (ax_i (σ.1 15 86))) σ) (k2 : (¬ (x1 ≤ x4)) → ax_Ct shM d mX12_keep [ax_r 0] (fun r u => r = none ∧ ax_W shM (d + 1) mX12_decades Q 35 [some (ax_r 0), some (ax_i x1), none, none, some (ax_i x4)] [] u) σ) : ax_W shM (d + 1) mX12_decades Q 25 [some (ax_r 0), some (ax_i x1), none, none, some (ax_i x4)] [] σ := by
  refine ax_iload (q := 27) dX12_decades_25 rfl rfl ?_
  refine ax_iload_n (q := 28) (i := 1) dX12_decades_27 rfl rfl rfl ?_
  refine ax_icmp_ge (tgt := 102) (q := 31) dX12_decades_28 (by decide) rfl (fun c1 => ?_) (fun c1 => ?_)
  · refine ax_aload_n (q := 103) (i := 0) dX12_decades_102 rfl rfl rfl ?_
    refine ax_get (q := 106) (k := 0) (j := 25) (v := ax_r 15) dX12_decades_103 rfl shM_0 rfl rfl rfl (by decide) fl_X12_52 ?_
    refine ax_bipush (q := 108) dX12_decades_106 rfl kb_86 ?_
    refine ax_iald (q := 109) (a := 86) (v := (σ.1 15 86)) dX12_decades_108 rfl shM_15 (ax_inl 86 268 (by decide) (by decide)) rfl rfl ?_
    exact ax_iret dX12_decades_109 rfl rfl (k1 c1)
  · refine ax_aload_n (q := 32) (i := 0) dX12_decades_31 rfl rfl rfl ?_
    exact ax_callVcv (q := 35) (As := []) (st := []) dX12_decades_32 rfl lk_X12_357 shM_0 rfl rfl rfl rfl (Nat.le_of_ble_eq_true rfl) (k2 c1)
set_option maxRecDepth 20000 in
theorem s_X12_decades_35 {d : Nat} (hd : 1 ≤ d) {Q : Option ax_V → ax_S → Prop} (σ : ax_S) (x1 : Int32) (x4 : Int32) (h1 : ¬ (Int32.toInt64 (10 : Int32)) = 0) (h2 : ((σ.1 0 28) ≤ (Int64.toInt32 ((((Int64.toUInt64 (((σ.2 0 38) * (6364136223846793005 : Int64)) + (1442695040888963407 : Int64))) >>> ((Int64.toUInt64 (Int32.toInt64 (33 : Int32))) &&& Int64.toUInt64 63)).toInt64) - (((Int64.toUInt64 (((σ.2 0 38) * (6364136223846793005 : Int64)) + (1442695040888963407 : Int64))) >>> ((Int64.toUInt64 (Int32.toInt64 (33 : Int32))) &&& Int64.toUInt64 63)).toInt64) / (Int32.toInt64 (10 : Int32)) * (Int32.toInt64 (10 : Int32))))) → ¬ (Int32.toInt64 (10 : Int32)) = 0) (k3 : ((σ.1 0 28) ≤ (Int64.toInt32 ((((Int64.toUInt64 (((σ.2 0 38) * (6364136223846793005 : Int64)) + (1442695040888963407 : Int64))) >>> ((Int64.toUInt64 (Int32.toInt64 (33 : Int32))) &&& Int64.toUInt64 63)).toInt64) - (((Int64.toUInt64 (((σ.2 0 38) * (6364136223846793005 : Int64)) + (1442695040888963407 : Int64))) >>> ((Int64.toUInt64 (Int32.toInt64 (33 : Int32))) &&& Int64.toUInt64 63)).toInt64) / (Int32.toInt64 (10 : Int32)) * (Int32.toInt64 (10 : Int32))))) → ((σ.1 0 29) ≤ (Int64.toInt32 ((((Int64.toUInt64 (((((σ.2 0 38) * (6364136223846793005 : Int64)) + (1442695040888963407 : Int64)) * (6364136223846793005 : Int64)) + (1442695040888963407 : Int64))) >>> ((Int64.toUInt64 (Int32.toInt64 (33 : Int32))) &&& Int64.toUInt64 63)).toInt64) - (((Int64.toUInt64 (((((σ.2 0 38) * (6364136223846793005 : Int64)) + (1442695040888963407 : Int64)) * (6364136223846793005 : Int64)) + (1442695040888963407 : Int64))) >>> ((Int64.toUInt64 (Int32.toInt64 (33 : Int32))) &&& Int64.toUInt64 63)).toInt64) / (Int32.toInt64 (10 : Int32)) * (Int32.toInt64 (10 : Int32))))) → ax_Ct shM d mX12_passSummer [ax_r 0] (fun r u => r = none ∧ ax_W shM (d + 1) mX12_decades Q 96 [some (ax_r 0), some (ax_i x1), none, none, some (ax_i x4)] [] u) (ax_ul (ax_ul σ 0 38 (((σ.2 0 38) * (6364136223846793005 : Int64)) + (1442695040888963407 : Int64))) 0 38 (((((σ.2 0 38) * (6364136223846793005 : Int64)) + (1442695040888963407 : Int64)) * (6364136223846793005 : Int64)) + (1442695040888963407 : Int64)))) (k4 : ((σ.1 0 28) ≤ (Int64.toInt32 ((((Int64.toUInt64 (((σ.2 0 38) * (6364136223846793005 : Int64)) + (1442695040888963407 : Int64))) >>> ((Int64.toUInt64 (Int32.toInt64 (33 : Int32))) &&& Int64.toUInt64 63)).toInt64) - (((Int64.toUInt64 (((σ.2 0 38) * (6364136223846793005 : Int64)) + (1442695040888963407 : Int64))) >>> ((Int64.toUInt64 (Int32.toInt64 (33 : Int32))) &&& Int64.toUInt64 63)).toInt64) / (Int32.toInt64 (10 : Int32)) * (Int32.toInt64 (10 : Int32))))) → (¬ ((σ.1 0 29) ≤ (Int64.toInt32 ((((Int64.toUInt64 (((((σ.2 0 38) * (6364136223846793005 : Int64)) + (1442695040888963407 : Int64)) * (6364136223846793005 : Int64)) + (1442695040888963407 : Int64))) >>> ((Int64.toUInt64 (Int32.toInt64 (33 : Int32))) &&& Int64.toUInt64 63)).toInt64) - (((Int64.toUInt64 (((((σ.2 0 38) * (6364136223846793005 : Int64)) + (1442695040888963407 : Int64)) * (6364136223846793005 : Int64)) + (1442695040888963407 : Int64))) >>> ((Int64.toUInt64 (Int32.toInt64 (33 : Int32))) &&& Int64.toUInt64 63)).toInt64) / (Int32.toInt64 (10 : Int32)) * (Int32.toInt64 (10 : Int32)))))) → ((σ.1 15 84) ≤ 0) → ax_Ct shM d mX12_passSummer [ax_r 0] (fun r u => r = none ∧ ax_W shM (d + 1) mX12_decades Q 96 [some (ax_r 0), some (ax_i x1), none, none, some (ax_i x4)] [] u) (ax_ul (ax_ul σ 0 38 (((σ.2 0 38) * (6364136223846793005 : Int64)) + (1442695040888963407 : Int64))) 0 38 (((((σ.2 0 38) * (6364136223846793005 : Int64)) + (1442695040888963407 : Int64)) * (6364136223846793005 : Int64)) + (1442695040888963407 : Int64)))) (h5 : ((σ.1 0 28) ≤ (Int64.toInt32 ((((Int64.toUInt64 (((σ.2 0 38) * (6364136223846793005 : Int64)) + (1442695040888963407 : Int64))) >>> ((Int64.toUInt64 (Int32.toInt64 (33 : Int32))) &&& Int64.toUInt64 63)).toInt64) - (((Int64.toUInt64 (((σ.2 0 38) * (6364136223846793005 : Int64)) + (1442695040888963407 : Int64))) >>> ((Int64.toUInt64 (Int32.toInt64 (33 : Int32))) &&& Int64.toUInt64 63)).toInt64) / (Int32.toInt64 (10 : Int32)) * (Int32.toInt64 (10 : Int32))))) → (¬ ((σ.1 0 29) ≤ (Int64.toInt32 ((((Int64.toUInt64 (((((σ.2 0 38) * (6364136223846793005 : Int64)) + (1442695040888963407 : Int64)) * (6364136223846793005 : Int64)) + (1442695040888963407 : Int64))) >>> ((Int64.toUInt64 (Int32.toInt64 (33 : Int32))) &&& Int64.toUInt64 63)).toInt64) - (((Int64.toUInt64 (((((σ.2 0 38) * (6364136223846793005 : Int64)) + (1442695040888963407 : Int64)) * (6364136223846793005 : Int64)) + (1442695040888963407 : Int64))) >>> ((Int64.toUInt64 (Int32.toInt64 (33 : Int32))) &&& Int64.toUInt64 63)).toInt64) / (Int32.toInt64 (10 : Int32)) * (Int32.toInt64 (10 : Int32)))))) → (¬ ((σ.1 15 84) ≤ 0)) → ¬ (Int32.toInt64 (σ.1 15 84)) = 0) (h6 : ((σ.1 0 28) ≤ (Int64.toInt32 ((((Int64.toUInt64 (((σ.2 0 38) * (6364136223846793005 : Int64)) + (1442695040888963407 : Int64))) >>> ((Int64.toUInt64 (Int32.toInt64 (33 : Int32))) &&& Int64.toUInt64 63)).toInt64) - (((Int64.toUInt64 (((σ.2 0 38) * (6364136223846793005 : Int64)) + (1442695040888963407 : Int64))) >>> ((Int64.toUInt64 (Int32.toInt64 (33 : Int32))) &&& Int64.toUInt64 63)).toInt64) / (Int32.toInt64 (10 : Int32)) * (Int32.toInt64 (10 : Int32))))) → (¬ ((σ.1 0 29) ≤ (Int64.toInt32 ((((Int64.toUInt64 (((((σ.2 0 38) * (6364136223846793005 : Int64)) + (1442695040888963407 : Int64)) * (6364136223846793005 : Int64)) + (1442695040888963407 : Int64))) >>> ((Int64.toUInt64 (Int32.toInt64 (33 : Int32))) &&& Int64.toUInt64 63)).toInt64) - (((Int64.toUInt64 (((((σ.2 0 38) * (6364136223846793005 : Int64)) + (1442695040888963407 : Int64)) * (6364136223846793005 : Int64)) + (1442695040888963407 : Int64))) >>> ((Int64.toUInt64 (Int32.toInt64 (33 : Int32))) &&& Int64.toUInt64 63)).toInt64) / (Int32.toInt64 (10 : Int32)) * (Int32.toInt64 (10 : Int32)))))) → (¬ ((σ.1 15 84) ≤ 0)) → vp_in (((16 : Int32) + ((4 : Int32) * (Int64.toInt32 ((((Int64.toUInt64 (((((((σ.2 0 38) * (6364136223846793005 : Int64)) + (1442695040888963407 : Int64)) * (6364136223846793005 : Int64)) + (1442695040888963407 : Int64)) * (6364136223846793005 : Int64)) + (1442695040888963407 : Int64))) >>> ((Int64.toUInt64 (Int32.toInt64 (33 : Int32))) &&& Int64.toUInt64 63)).toInt64) - (((Int64.toUInt64 (((((((σ.2 0 38) * (6364136223846793005 : Int64)) + (1442695040888963407 : Int64)) * (6364136223846793005 : Int64)) + (1442695040888963407 : Int64)) * (6364136223846793005 : Int64)) + (1442695040888963407 : Int64))) >>> ((Int64.toUInt64 (Int32.toInt64 (33 : Int32))) &&& Int64.toUInt64 63)).toInt64) / (Int32.toInt64 (σ.1 15 84)) * (Int32.toInt64 (σ.1 15 84)))))) + (3 : Int32)) 268) (k7 : ((σ.1 0 28) ≤ (Int64.toInt32 ((((Int64.toUInt64 (((σ.2 0 38) * (6364136223846793005 : Int64)) + (1442695040888963407 : Int64))) >>> ((Int64.toUInt64 (Int32.toInt64 (33 : Int32))) &&& Int64.toUInt64 63)).toInt64) - (((Int64.toUInt64 (((σ.2 0 38) * (6364136223846793005 : Int64)) + (1442695040888963407 : Int64))) >>> ((Int64.toUInt64 (Int32.toInt64 (33 : Int32))) &&& Int64.toUInt64 63)).toInt64) / (Int32.toInt64 (10 : Int32)) * (Int32.toInt64 (10 : Int32))))) → (¬ ((σ.1 0 29) ≤ (Int64.toInt32 ((((Int64.toUInt64 (((((σ.2 0 38) * (6364136223846793005 : Int64)) + (1442695040888963407 : Int64)) * (6364136223846793005 : Int64)) + (1442695040888963407 : Int64))) >>> ((Int64.toUInt64 (Int32.toInt64 (33 : Int32))) &&& Int64.toUInt64 63)).toInt64) - (((Int64.toUInt64 (((((σ.2 0 38) * (6364136223846793005 : Int64)) + (1442695040888963407 : Int64)) * (6364136223846793005 : Int64)) + (1442695040888963407 : Int64))) >>> ((Int64.toUInt64 (Int32.toInt64 (33 : Int32))) &&& Int64.toUInt64 63)).toInt64) / (Int32.toInt64 (10 : Int32)) * (Int32.toInt64 (10 : Int32)))))) → (¬ ((σ.1 15 84) ≤ 0)) → ax_Ct shM d mX12_passSummer [ax_r 0] (fun r u => r = none ∧ ax_W shM (d + 1) mX12_decades Q 96 [some (ax_r 0), some (ax_i x1), none, none, some (ax_i x4)] [] u) (ax_ui (ax_ul (ax_ul (ax_ul σ 0 38 (((σ.2 0 38) * (6364136223846793005 : Int64)) + (1442695040888963407 : Int64))) 0 38 (((((σ.2 0 38) * (6364136223846793005 : Int64)) + (1442695040888963407 : Int64)) * (6364136223846793005 : Int64)) + (1442695040888963407 : Int64))) 0 38 (((((((σ.2 0 38) * (6364136223846793005 : Int64)) + (1442695040888963407 : Int64)) * (6364136223846793005 : Int64)) + (1442695040888963407 : Int64)) * (6364136223846793005 : Int64)) + (1442695040888963407 : Int64))) 15 (Int32.toNatClampNeg (((16 : Int32) + ((4 : Int32) * (Int64.toInt32 ((((Int64.toUInt64 (((((((σ.2 0 38) * (6364136223846793005 : Int64)) + (1442695040888963407 : Int64)) * (6364136223846793005 : Int64)) + (1442695040888963407 : Int64)) * (6364136223846793005 : Int64)) + (1442695040888963407 : Int64))) >>> ((Int64.toUInt64 (Int32.toInt64 (33 : Int32))) &&& Int64.toUInt64 63)).toInt64) - (((Int64.toUInt64 (((((((σ.2 0 38) * (6364136223846793005 : Int64)) + (1442695040888963407 : Int64)) * (6364136223846793005 : Int64)) + (1442695040888963407 : Int64)) * (6364136223846793005 : Int64)) + (1442695040888963407 : Int64))) >>> ((Int64.toUInt64 (Int32.toInt64 (33 : Int32))) &&& Int64.toUInt64 63)).toInt64) / (Int32.toInt64 (σ.1 15 84)) * (Int32.toInt64 (σ.1 15 84)))))) + (3 : Int32))) (1 : Int32))) (k8 : (¬ ((σ.1 0 28) ≤ (Int64.toInt32 ((((Int64.toUInt64 (((σ.2 0 38) * (6364136223846793005 : Int64)) + (1442695040888963407 : Int64))) >>> ((Int64.toUInt64 (Int32.toInt64 (33 : Int32))) &&& Int64.toUInt64 63)).toInt64) - (((Int64.toUInt64 (((σ.2 0 38) * (6364136223846793005 : Int64)) + (1442695040888963407 : Int64))) >>> ((Int64.toUInt64 (Int32.toInt64 (33 : Int32))) &&& Int64.toUInt64 63)).toInt64) / (Int32.toInt64 (10 : Int32)) * (Int32.toInt64 (10 : Int32)))))) → ax_Ct shM d mX12_drawStroke [ax_r 0] (fun r u => r = none ∧ ax_W shM (d + 1) mX12_decades Q 52 [some (ax_r 0), some (ax_i x1), none, none, some (ax_i x4)] [] u) (ax_ul σ 0 38 (((σ.2 0 38) * (6364136223846793005 : Int64)) + (1442695040888963407 : Int64)))) : ax_W shM (d + 1) mX12_decades Q 35 [some (ax_r 0), some (ax_i x1), none, none, some (ax_i x4)] [] σ := by
  refine ax_aload_n (q := 36) (i := 0) dX12_decades_35 rfl rfl rfl ?_
  refine ax_bipush (q := 38) dX12_decades_36 rfl kb_10 ?_
  refine ax_callVfi (q := 41) (As := [ax_i (10 : Int32)]) (st := []) (x := (Int64.toInt32 ((((Int64.toUInt64 (((σ.2 0 38) * (6364136223846793005 : Int64)) + (1442695040888963407 : Int64))) >>> ((Int64.toUInt64 (Int32.toInt64 (33 : Int32))) &&& Int64.toUInt64 63)).toInt64) - (((Int64.toUInt64 (((σ.2 0 38) * (6364136223846793005 : Int64)) + (1442695040888963407 : Int64))) >>> ((Int64.toUInt64 (Int32.toInt64 (33 : Int32))) &&& Int64.toUInt64 63)).toInt64) / (Int32.toInt64 (10 : Int32)) * (Int32.toInt64 (10 : Int32))))) (σ2 := (ax_ul σ 0 38 (((σ.2 0 38) * (6364136223846793005 : Int64)) + (1442695040888963407 : Int64)))) dX12_decades_38 rfl lk_X12_398 shM_0 rfl rfl rfl rfl (Nat.le_of_ble_eq_true rfl) (f_X12_draw σ (10 : Int32) h1 (d := d) (by omega)) ?_
  refine ax_aload_n (q := 42) (i := 0) dX12_decades_41 rfl rfl rfl ?_
  refine ax_get (q := 45) (k := 0) (j := 28) (v := ax_i (σ.1 0 28)) dX12_decades_42 rfl shM_0 rfl rfl rfl (by decide) fl_X12_62 ?_
  refine ax_icmp_ge (tgt := 52) (q := 48) dX12_decades_45 (by decide) rfl (fun c1 => ?_) (fun c1 => ?_)
  · refine ax_aload_n (q := 53) (i := 0) dX12_decades_52 rfl rfl rfl ?_
    refine ax_bipush (q := 55) dX12_decades_53 rfl kb_10 ?_
    refine ax_callVfi (q := 58) (As := [ax_i (10 : Int32)]) (st := []) (x := (Int64.toInt32 ((((Int64.toUInt64 (((((σ.2 0 38) * (6364136223846793005 : Int64)) + (1442695040888963407 : Int64)) * (6364136223846793005 : Int64)) + (1442695040888963407 : Int64))) >>> ((Int64.toUInt64 (Int32.toInt64 (33 : Int32))) &&& Int64.toUInt64 63)).toInt64) - (((Int64.toUInt64 (((((σ.2 0 38) * (6364136223846793005 : Int64)) + (1442695040888963407 : Int64)) * (6364136223846793005 : Int64)) + (1442695040888963407 : Int64))) >>> ((Int64.toUInt64 (Int32.toInt64 (33 : Int32))) &&& Int64.toUInt64 63)).toInt64) / (Int32.toInt64 (10 : Int32)) * (Int32.toInt64 (10 : Int32))))) (σ2 := (ax_ul (ax_ul σ 0 38 (((σ.2 0 38) * (6364136223846793005 : Int64)) + (1442695040888963407 : Int64))) 0 38 (((((σ.2 0 38) * (6364136223846793005 : Int64)) + (1442695040888963407 : Int64)) * (6364136223846793005 : Int64)) + (1442695040888963407 : Int64)))) dX12_decades_55 rfl lk_X12_398 shM_0 rfl rfl rfl rfl (Nat.le_of_ble_eq_true rfl) (f_X12_draw (ax_ul σ 0 38 (((σ.2 0 38) * (6364136223846793005 : Int64)) + (1442695040888963407 : Int64))) (10 : Int32) (h2 c1) (d := d) (by omega)) ?_
    refine ax_aload_n (q := 59) (i := 0) dX12_decades_58 rfl rfl rfl ?_
    refine ax_get (q := 62) (k := 0) (j := 29) (v := ax_i (σ.1 0 29)) dX12_decades_59 rfl shM_0 rfl rfl rfl (by decide) fl_X12_384 ?_
    refine ax_icmp_ge (tgt := 92) (q := 65) dX12_decades_62 (by decide) rfl (fun c2 => ?_) (fun c2 => ?_)
    · refine ax_aload_n (q := 93) (i := 0) dX12_decades_92 rfl rfl rfl ?_
      exact ax_callVcv (q := 96) (As := []) (st := []) dX12_decades_93 rfl lk_X12_381 shM_0 rfl rfl rfl rfl (Nat.le_of_ble_eq_true rfl) (k3 c1 c2)
    · refine ax_aload_n (q := 66) (i := 0) dX12_decades_65 rfl rfl rfl ?_
      refine ax_get (q := 69) (k := 0) (j := 25) (v := ax_r 15) dX12_decades_66 rfl shM_0 rfl rfl rfl (by decide) fl_X12_52 ?_
      refine ax_bipush (q := 71) dX12_decades_69 rfl kb_84 ?_
      refine ax_iald (q := 72) (a := 84) (v := (σ.1 15 84)) dX12_decades_71 rfl shM_15 (ax_inl 84 268 (by decide) (by decide)) rfl rfl ?_
      refine ax_if_le (tgt := 92) (q := 75) dX12_decades_72 (by decide) rfl (fun c3 => ?_) (fun c3 => ?_)
      · refine ax_aload_n (q := 93) (i := 0) dX12_decades_92 rfl rfl rfl ?_
        exact ax_callVcv (q := 96) (As := []) (st := []) dX12_decades_93 rfl lk_X12_381 shM_0 rfl rfl rfl rfl (Nat.le_of_ble_eq_true rfl) (k4 c1 c2 c3)
      · refine ax_aload_n (q := 76) (i := 0) dX12_decades_75 rfl rfl rfl ?_
        refine ax_aload_n (q := 77) (i := 0) dX12_decades_76 rfl rfl rfl ?_
        refine ax_aload_n (q := 78) (i := 0) dX12_decades_77 rfl rfl rfl ?_
        refine ax_get (q := 81) (k := 0) (j := 25) (v := ax_r 15) dX12_decades_78 rfl shM_0 rfl rfl rfl (by decide) fl_X12_52 ?_
        refine ax_bipush (q := 83) dX12_decades_81 rfl kb_84 ?_
        refine ax_iald (q := 84) (a := 84) (v := (σ.1 15 84)) dX12_decades_83 rfl shM_15 (ax_inl 84 268 (by decide) (by decide)) rfl rfl ?_
        refine ax_callVfi (q := 87) (As := [ax_i (σ.1 15 84)]) (st := [ax_r 0]) (x := (Int64.toInt32 ((((Int64.toUInt64 (((((((σ.2 0 38) * (6364136223846793005 : Int64)) + (1442695040888963407 : Int64)) * (6364136223846793005 : Int64)) + (1442695040888963407 : Int64)) * (6364136223846793005 : Int64)) + (1442695040888963407 : Int64))) >>> ((Int64.toUInt64 (Int32.toInt64 (33 : Int32))) &&& Int64.toUInt64 63)).toInt64) - (((Int64.toUInt64 (((((((σ.2 0 38) * (6364136223846793005 : Int64)) + (1442695040888963407 : Int64)) * (6364136223846793005 : Int64)) + (1442695040888963407 : Int64)) * (6364136223846793005 : Int64)) + (1442695040888963407 : Int64))) >>> ((Int64.toUInt64 (Int32.toInt64 (33 : Int32))) &&& Int64.toUInt64 63)).toInt64) / (Int32.toInt64 (σ.1 15 84)) * (Int32.toInt64 (σ.1 15 84))))) (σ2 := (ax_ul (ax_ul (ax_ul σ 0 38 (((σ.2 0 38) * (6364136223846793005 : Int64)) + (1442695040888963407 : Int64))) 0 38 (((((σ.2 0 38) * (6364136223846793005 : Int64)) + (1442695040888963407 : Int64)) * (6364136223846793005 : Int64)) + (1442695040888963407 : Int64))) 0 38 (((((((σ.2 0 38) * (6364136223846793005 : Int64)) + (1442695040888963407 : Int64)) * (6364136223846793005 : Int64)) + (1442695040888963407 : Int64)) * (6364136223846793005 : Int64)) + (1442695040888963407 : Int64)))) dX12_decades_84 rfl lk_X12_398 shM_0 rfl rfl rfl rfl (Nat.le_of_ble_eq_true rfl) (f_X12_draw (ax_ul (ax_ul σ 0 38 (((σ.2 0 38) * (6364136223846793005 : Int64)) + (1442695040888963407 : Int64))) 0 38 (((((σ.2 0 38) * (6364136223846793005 : Int64)) + (1442695040888963407 : Int64)) * (6364136223846793005 : Int64)) + (1442695040888963407 : Int64))) (σ.1 15 84) (h5 c1 c2 c3) (d := d) (by omega)) ?_
        refine ax_iconst (q := 88) dX12_decades_87 rfl ki_3 ?_
        refine ax_iconst (q := 89) dX12_decades_88 rfl ki_1 ?_
        refine ax_callVfv (q := 92) (As := [ax_i (Int64.toInt32 ((((Int64.toUInt64 (((((((σ.2 0 38) * (6364136223846793005 : Int64)) + (1442695040888963407 : Int64)) * (6364136223846793005 : Int64)) + (1442695040888963407 : Int64)) * (6364136223846793005 : Int64)) + (1442695040888963407 : Int64))) >>> ((Int64.toUInt64 (Int32.toInt64 (33 : Int32))) &&& Int64.toUInt64 63)).toInt64) - (((Int64.toUInt64 (((((((σ.2 0 38) * (6364136223846793005 : Int64)) + (1442695040888963407 : Int64)) * (6364136223846793005 : Int64)) + (1442695040888963407 : Int64)) * (6364136223846793005 : Int64)) + (1442695040888963407 : Int64))) >>> ((Int64.toUInt64 (Int32.toInt64 (33 : Int32))) &&& Int64.toUInt64 63)).toInt64) / (Int32.toInt64 (σ.1 15 84)) * (Int32.toInt64 (σ.1 15 84)))), ax_i (3 : Int32), ax_i (1 : Int32)]) (st := []) (σ2 := (ax_ui (ax_ul (ax_ul (ax_ul σ 0 38 (((σ.2 0 38) * (6364136223846793005 : Int64)) + (1442695040888963407 : Int64))) 0 38 (((((σ.2 0 38) * (6364136223846793005 : Int64)) + (1442695040888963407 : Int64)) * (6364136223846793005 : Int64)) + (1442695040888963407 : Int64))) 0 38 (((((((σ.2 0 38) * (6364136223846793005 : Int64)) + (1442695040888963407 : Int64)) * (6364136223846793005 : Int64)) + (1442695040888963407 : Int64)) * (6364136223846793005 : Int64)) + (1442695040888963407 : Int64))) 15 (Int32.toNatClampNeg (((16 : Int32) + ((4 : Int32) * (Int64.toInt32 ((((Int64.toUInt64 (((((((σ.2 0 38) * (6364136223846793005 : Int64)) + (1442695040888963407 : Int64)) * (6364136223846793005 : Int64)) + (1442695040888963407 : Int64)) * (6364136223846793005 : Int64)) + (1442695040888963407 : Int64))) >>> ((Int64.toUInt64 (Int32.toInt64 (33 : Int32))) &&& Int64.toUInt64 63)).toInt64) - (((Int64.toUInt64 (((((((σ.2 0 38) * (6364136223846793005 : Int64)) + (1442695040888963407 : Int64)) * (6364136223846793005 : Int64)) + (1442695040888963407 : Int64)) * (6364136223846793005 : Int64)) + (1442695040888963407 : Int64))) >>> ((Int64.toUInt64 (Int32.toInt64 (33 : Int32))) &&& Int64.toUInt64 63)).toInt64) / (Int32.toInt64 (σ.1 15 84)) * (Int32.toInt64 (σ.1 15 84)))))) + (3 : Int32))) (1 : Int32))) dX12_decades_89 rfl lk_X12_302 shM_0 rfl rfl rfl rfl (Nat.le_of_ble_eq_true rfl) (f_X12_putWire (ax_ul (ax_ul (ax_ul σ 0 38 (((σ.2 0 38) * (6364136223846793005 : Int64)) + (1442695040888963407 : Int64))) 0 38 (((((σ.2 0 38) * (6364136223846793005 : Int64)) + (1442695040888963407 : Int64)) * (6364136223846793005 : Int64)) + (1442695040888963407 : Int64))) 0 38 (((((((σ.2 0 38) * (6364136223846793005 : Int64)) + (1442695040888963407 : Int64)) * (6364136223846793005 : Int64)) + (1442695040888963407 : Int64)) * (6364136223846793005 : Int64)) + (1442695040888963407 : Int64))) (Int64.toInt32 ((((Int64.toUInt64 (((((((σ.2 0 38) * (6364136223846793005 : Int64)) + (1442695040888963407 : Int64)) * (6364136223846793005 : Int64)) + (1442695040888963407 : Int64)) * (6364136223846793005 : Int64)) + (1442695040888963407 : Int64))) >>> ((Int64.toUInt64 (Int32.toInt64 (33 : Int32))) &&& Int64.toUInt64 63)).toInt64) - (((Int64.toUInt64 (((((((σ.2 0 38) * (6364136223846793005 : Int64)) + (1442695040888963407 : Int64)) * (6364136223846793005 : Int64)) + (1442695040888963407 : Int64)) * (6364136223846793005 : Int64)) + (1442695040888963407 : Int64))) >>> ((Int64.toUInt64 (Int32.toInt64 (33 : Int32))) &&& Int64.toUInt64 63)).toInt64) / (Int32.toInt64 (σ.1 15 84)) * (Int32.toInt64 (σ.1 15 84)))) (3 : Int32) (1 : Int32) (h6 c1 c2 c3) (d := d) (by omega)) ?_
        refine ax_aload_n (q := 93) (i := 0) dX12_decades_92 rfl rfl rfl ?_
        exact ax_callVcv (q := 96) (As := []) (st := []) dX12_decades_93 rfl lk_X12_381 shM_0 rfl rfl rfl rfl (Nat.le_of_ble_eq_true rfl) (k7 c1 c2 c3)
  · refine ax_aload_n (q := 49) (i := 0) dX12_decades_48 rfl rfl rfl ?_
    exact ax_callVcv (q := 52) (As := []) (st := []) dX12_decades_49 rfl lk_X12_401 shM_0 rfl rfl rfl rfl (Nat.le_of_ble_eq_true rfl) (k8 c1)
set_option maxRecDepth 20000 in
theorem s_X12_decades_52 {d : Nat} (hd : 1 ≤ d) {Q : Option ax_V → ax_S → Prop} (σ : ax_S) (x1 : Int32) (x4 : Int32) (h1 : ¬ (Int32.toInt64 (10 : Int32)) = 0) (k2 : ((σ.1 0 29) ≤ (Int64.toInt32 ((((Int64.toUInt64 (((σ.2 0 38) * (6364136223846793005 : Int64)) + (1442695040888963407 : Int64))) >>> ((Int64.toUInt64 (Int32.toInt64 (33 : Int32))) &&& Int64.toUInt64 63)).toInt64) - (((Int64.toUInt64 (((σ.2 0 38) * (6364136223846793005 : Int64)) + (1442695040888963407 : Int64))) >>> ((Int64.toUInt64 (Int32.toInt64 (33 : Int32))) &&& Int64.toUInt64 63)).toInt64) / (Int32.toInt64 (10 : Int32)) * (Int32.toInt64 (10 : Int32))))) → ax_Ct shM d mX12_passSummer [ax_r 0] (fun r u => r = none ∧ ax_W shM (d + 1) mX12_decades Q 96 [some (ax_r 0), some (ax_i x1), none, none, some (ax_i x4)] [] u) (ax_ul σ 0 38 (((σ.2 0 38) * (6364136223846793005 : Int64)) + (1442695040888963407 : Int64)))) (k3 : (¬ ((σ.1 0 29) ≤ (Int64.toInt32 ((((Int64.toUInt64 (((σ.2 0 38) * (6364136223846793005 : Int64)) + (1442695040888963407 : Int64))) >>> ((Int64.toUInt64 (Int32.toInt64 (33 : Int32))) &&& Int64.toUInt64 63)).toInt64) - (((Int64.toUInt64 (((σ.2 0 38) * (6364136223846793005 : Int64)) + (1442695040888963407 : Int64))) >>> ((Int64.toUInt64 (Int32.toInt64 (33 : Int32))) &&& Int64.toUInt64 63)).toInt64) / (Int32.toInt64 (10 : Int32)) * (Int32.toInt64 (10 : Int32)))))) → ((σ.1 15 84) ≤ 0) → ax_Ct shM d mX12_passSummer [ax_r 0] (fun r u => r = none ∧ ax_W shM (d + 1) mX12_decades Q 96 [some (ax_r 0), some (ax_i x1), none, none, some (ax_i x4)] [] u) (ax_ul σ 0 38 (((σ.2 0 38) * (6364136223846793005 : Int64)) + (1442695040888963407 : Int64)))) (h4 : (¬ ((σ.1 0 29) ≤ (Int64.toInt32 ((((Int64.toUInt64 (((σ.2 0 38) * (6364136223846793005 : Int64)) + (1442695040888963407 : Int64))) >>> ((Int64.toUInt64 (Int32.toInt64 (33 : Int32))) &&& Int64.toUInt64 63)).toInt64) - (((Int64.toUInt64 (((σ.2 0 38) * (6364136223846793005 : Int64)) + (1442695040888963407 : Int64))) >>> ((Int64.toUInt64 (Int32.toInt64 (33 : Int32))) &&& Int64.toUInt64 63)).toInt64) / (Int32.toInt64 (10 : Int32)) * (Int32.toInt64 (10 : Int32)))))) → (¬ ((σ.1 15 84) ≤ 0)) → ¬ (Int32.toInt64 (σ.1 15 84)) = 0) (h5 : (¬ ((σ.1 0 29) ≤ (Int64.toInt32 ((((Int64.toUInt64 (((σ.2 0 38) * (6364136223846793005 : Int64)) + (1442695040888963407 : Int64))) >>> ((Int64.toUInt64 (Int32.toInt64 (33 : Int32))) &&& Int64.toUInt64 63)).toInt64) - (((Int64.toUInt64 (((σ.2 0 38) * (6364136223846793005 : Int64)) + (1442695040888963407 : Int64))) >>> ((Int64.toUInt64 (Int32.toInt64 (33 : Int32))) &&& Int64.toUInt64 63)).toInt64) / (Int32.toInt64 (10 : Int32)) * (Int32.toInt64 (10 : Int32)))))) → (¬ ((σ.1 15 84) ≤ 0)) → vp_in (((16 : Int32) + ((4 : Int32) * (Int64.toInt32 ((((Int64.toUInt64 (((((σ.2 0 38) * (6364136223846793005 : Int64)) + (1442695040888963407 : Int64)) * (6364136223846793005 : Int64)) + (1442695040888963407 : Int64))) >>> ((Int64.toUInt64 (Int32.toInt64 (33 : Int32))) &&& Int64.toUInt64 63)).toInt64) - (((Int64.toUInt64 (((((σ.2 0 38) * (6364136223846793005 : Int64)) + (1442695040888963407 : Int64)) * (6364136223846793005 : Int64)) + (1442695040888963407 : Int64))) >>> ((Int64.toUInt64 (Int32.toInt64 (33 : Int32))) &&& Int64.toUInt64 63)).toInt64) / (Int32.toInt64 (σ.1 15 84)) * (Int32.toInt64 (σ.1 15 84)))))) + (3 : Int32)) 268) (k6 : (¬ ((σ.1 0 29) ≤ (Int64.toInt32 ((((Int64.toUInt64 (((σ.2 0 38) * (6364136223846793005 : Int64)) + (1442695040888963407 : Int64))) >>> ((Int64.toUInt64 (Int32.toInt64 (33 : Int32))) &&& Int64.toUInt64 63)).toInt64) - (((Int64.toUInt64 (((σ.2 0 38) * (6364136223846793005 : Int64)) + (1442695040888963407 : Int64))) >>> ((Int64.toUInt64 (Int32.toInt64 (33 : Int32))) &&& Int64.toUInt64 63)).toInt64) / (Int32.toInt64 (10 : Int32)) * (Int32.toInt64 (10 : Int32)))))) → (¬ ((σ.1 15 84) ≤ 0)) → ax_Ct shM d mX12_passSummer [ax_r 0] (fun r u => r = none ∧ ax_W shM (d + 1) mX12_decades Q 96 [some (ax_r 0), some (ax_i x1), none, none, some (ax_i x4)] [] u) (ax_ui (ax_ul (ax_ul σ 0 38 (((σ.2 0 38) * (6364136223846793005 : Int64)) + (1442695040888963407 : Int64))) 0 38 (((((σ.2 0 38) * (6364136223846793005 : Int64)) + (1442695040888963407 : Int64)) * (6364136223846793005 : Int64)) + (1442695040888963407 : Int64))) 15 (Int32.toNatClampNeg (((16 : Int32) + ((4 : Int32) * (Int64.toInt32 ((((Int64.toUInt64 (((((σ.2 0 38) * (6364136223846793005 : Int64)) + (1442695040888963407 : Int64)) * (6364136223846793005 : Int64)) + (1442695040888963407 : Int64))) >>> ((Int64.toUInt64 (Int32.toInt64 (33 : Int32))) &&& Int64.toUInt64 63)).toInt64) - (((Int64.toUInt64 (((((σ.2 0 38) * (6364136223846793005 : Int64)) + (1442695040888963407 : Int64)) * (6364136223846793005 : Int64)) + (1442695040888963407 : Int64))) >>> ((Int64.toUInt64 (Int32.toInt64 (33 : Int32))) &&& Int64.toUInt64 63)).toInt64) / (Int32.toInt64 (σ.1 15 84)) * (Int32.toInt64 (σ.1 15 84)))))) + (3 : Int32))) (1 : Int32))) : ax_W shM (d + 1) mX12_decades Q 52 [some (ax_r 0), some (ax_i x1), none, none, some (ax_i x4)] [] σ := by
  refine ax_aload_n (q := 53) (i := 0) dX12_decades_52 rfl rfl rfl ?_
  refine ax_bipush (q := 55) dX12_decades_53 rfl kb_10 ?_
  refine ax_callVfi (q := 58) (As := [ax_i (10 : Int32)]) (st := []) (x := (Int64.toInt32 ((((Int64.toUInt64 (((σ.2 0 38) * (6364136223846793005 : Int64)) + (1442695040888963407 : Int64))) >>> ((Int64.toUInt64 (Int32.toInt64 (33 : Int32))) &&& Int64.toUInt64 63)).toInt64) - (((Int64.toUInt64 (((σ.2 0 38) * (6364136223846793005 : Int64)) + (1442695040888963407 : Int64))) >>> ((Int64.toUInt64 (Int32.toInt64 (33 : Int32))) &&& Int64.toUInt64 63)).toInt64) / (Int32.toInt64 (10 : Int32)) * (Int32.toInt64 (10 : Int32))))) (σ2 := (ax_ul σ 0 38 (((σ.2 0 38) * (6364136223846793005 : Int64)) + (1442695040888963407 : Int64)))) dX12_decades_55 rfl lk_X12_398 shM_0 rfl rfl rfl rfl (Nat.le_of_ble_eq_true rfl) (f_X12_draw σ (10 : Int32) h1 (d := d) (by omega)) ?_
  refine ax_aload_n (q := 59) (i := 0) dX12_decades_58 rfl rfl rfl ?_
  refine ax_get (q := 62) (k := 0) (j := 29) (v := ax_i (σ.1 0 29)) dX12_decades_59 rfl shM_0 rfl rfl rfl (by decide) fl_X12_384 ?_
  refine ax_icmp_ge (tgt := 92) (q := 65) dX12_decades_62 (by decide) rfl (fun c1 => ?_) (fun c1 => ?_)
  · refine ax_aload_n (q := 93) (i := 0) dX12_decades_92 rfl rfl rfl ?_
    exact ax_callVcv (q := 96) (As := []) (st := []) dX12_decades_93 rfl lk_X12_381 shM_0 rfl rfl rfl rfl (Nat.le_of_ble_eq_true rfl) (k2 c1)
  · refine ax_aload_n (q := 66) (i := 0) dX12_decades_65 rfl rfl rfl ?_
    refine ax_get (q := 69) (k := 0) (j := 25) (v := ax_r 15) dX12_decades_66 rfl shM_0 rfl rfl rfl (by decide) fl_X12_52 ?_
    refine ax_bipush (q := 71) dX12_decades_69 rfl kb_84 ?_
    refine ax_iald (q := 72) (a := 84) (v := (σ.1 15 84)) dX12_decades_71 rfl shM_15 (ax_inl 84 268 (by decide) (by decide)) rfl rfl ?_
    refine ax_if_le (tgt := 92) (q := 75) dX12_decades_72 (by decide) rfl (fun c2 => ?_) (fun c2 => ?_)
    · refine ax_aload_n (q := 93) (i := 0) dX12_decades_92 rfl rfl rfl ?_
      exact ax_callVcv (q := 96) (As := []) (st := []) dX12_decades_93 rfl lk_X12_381 shM_0 rfl rfl rfl rfl (Nat.le_of_ble_eq_true rfl) (k3 c1 c2)
    · refine ax_aload_n (q := 76) (i := 0) dX12_decades_75 rfl rfl rfl ?_
      refine ax_aload_n (q := 77) (i := 0) dX12_decades_76 rfl rfl rfl ?_
      refine ax_aload_n (q := 78) (i := 0) dX12_decades_77 rfl rfl rfl ?_
      refine ax_get (q := 81) (k := 0) (j := 25) (v := ax_r 15) dX12_decades_78 rfl shM_0 rfl rfl rfl (by decide) fl_X12_52 ?_
      refine ax_bipush (q := 83) dX12_decades_81 rfl kb_84 ?_
      refine ax_iald (q := 84) (a := 84) (v := (σ.1 15 84)) dX12_decades_83 rfl shM_15 (ax_inl 84 268 (by decide) (by decide)) rfl rfl ?_
      refine ax_callVfi (q := 87) (As := [ax_i (σ.1 15 84)]) (st := [ax_r 0]) (x := (Int64.toInt32 ((((Int64.toUInt64 (((((σ.2 0 38) * (6364136223846793005 : Int64)) + (1442695040888963407 : Int64)) * (6364136223846793005 : Int64)) + (1442695040888963407 : Int64))) >>> ((Int64.toUInt64 (Int32.toInt64 (33 : Int32))) &&& Int64.toUInt64 63)).toInt64) - (((Int64.toUInt64 (((((σ.2 0 38) * (6364136223846793005 : Int64)) + (1442695040888963407 : Int64)) * (6364136223846793005 : Int64)) + (1442695040888963407 : Int64))) >>> ((Int64.toUInt64 (Int32.toInt64 (33 : Int32))) &&& Int64.toUInt64 63)).toInt64) / (Int32.toInt64 (σ.1 15 84)) * (Int32.toInt64 (σ.1 15 84))))) (σ2 := (ax_ul (ax_ul σ 0 38 (((σ.2 0 38) * (6364136223846793005 : Int64)) + (1442695040888963407 : Int64))) 0 38 (((((σ.2 0 38) * (6364136223846793005 : Int64)) + (1442695040888963407 : Int64)) * (6364136223846793005 : Int64)) + (1442695040888963407 : Int64)))) dX12_decades_84 rfl lk_X12_398 shM_0 rfl rfl rfl rfl (Nat.le_of_ble_eq_true rfl) (f_X12_draw (ax_ul σ 0 38 (((σ.2 0 38) * (6364136223846793005 : Int64)) + (1442695040888963407 : Int64))) (σ.1 15 84) (h4 c1 c2) (d := d) (by omega)) ?_
      refine ax_iconst (q := 88) dX12_decades_87 rfl ki_3 ?_
      refine ax_iconst (q := 89) dX12_decades_88 rfl ki_1 ?_
      refine ax_callVfv (q := 92) (As := [ax_i (Int64.toInt32 ((((Int64.toUInt64 (((((σ.2 0 38) * (6364136223846793005 : Int64)) + (1442695040888963407 : Int64)) * (6364136223846793005 : Int64)) + (1442695040888963407 : Int64))) >>> ((Int64.toUInt64 (Int32.toInt64 (33 : Int32))) &&& Int64.toUInt64 63)).toInt64) - (((Int64.toUInt64 (((((σ.2 0 38) * (6364136223846793005 : Int64)) + (1442695040888963407 : Int64)) * (6364136223846793005 : Int64)) + (1442695040888963407 : Int64))) >>> ((Int64.toUInt64 (Int32.toInt64 (33 : Int32))) &&& Int64.toUInt64 63)).toInt64) / (Int32.toInt64 (σ.1 15 84)) * (Int32.toInt64 (σ.1 15 84)))), ax_i (3 : Int32), ax_i (1 : Int32)]) (st := []) (σ2 := (ax_ui (ax_ul (ax_ul σ 0 38 (((σ.2 0 38) * (6364136223846793005 : Int64)) + (1442695040888963407 : Int64))) 0 38 (((((σ.2 0 38) * (6364136223846793005 : Int64)) + (1442695040888963407 : Int64)) * (6364136223846793005 : Int64)) + (1442695040888963407 : Int64))) 15 (Int32.toNatClampNeg (((16 : Int32) + ((4 : Int32) * (Int64.toInt32 ((((Int64.toUInt64 (((((σ.2 0 38) * (6364136223846793005 : Int64)) + (1442695040888963407 : Int64)) * (6364136223846793005 : Int64)) + (1442695040888963407 : Int64))) >>> ((Int64.toUInt64 (Int32.toInt64 (33 : Int32))) &&& Int64.toUInt64 63)).toInt64) - (((Int64.toUInt64 (((((σ.2 0 38) * (6364136223846793005 : Int64)) + (1442695040888963407 : Int64)) * (6364136223846793005 : Int64)) + (1442695040888963407 : Int64))) >>> ((Int64.toUInt64 (Int32.toInt64 (33 : Int32))) &&& Int64.toUInt64 63)).toInt64) / (Int32.toInt64 (σ.1 15 84)) * (Int32.toInt64 (σ.1 15 84)))))) + (3 : Int32))) (1 : Int32))) dX12_decades_89 rfl lk_X12_302 shM_0 rfl rfl rfl rfl (Nat.le_of_ble_eq_true rfl) (f_X12_putWire (ax_ul (ax_ul σ 0 38 (((σ.2 0 38) * (6364136223846793005 : Int64)) + (1442695040888963407 : Int64))) 0 38 (((((σ.2 0 38) * (6364136223846793005 : Int64)) + (1442695040888963407 : Int64)) * (6364136223846793005 : Int64)) + (1442695040888963407 : Int64))) (Int64.toInt32 ((((Int64.toUInt64 (((((σ.2 0 38) * (6364136223846793005 : Int64)) + (1442695040888963407 : Int64)) * (6364136223846793005 : Int64)) + (1442695040888963407 : Int64))) >>> ((Int64.toUInt64 (Int32.toInt64 (33 : Int32))) &&& Int64.toUInt64 63)).toInt64) - (((Int64.toUInt64 (((((σ.2 0 38) * (6364136223846793005 : Int64)) + (1442695040888963407 : Int64)) * (6364136223846793005 : Int64)) + (1442695040888963407 : Int64))) >>> ((Int64.toUInt64 (Int32.toInt64 (33 : Int32))) &&& Int64.toUInt64 63)).toInt64) / (Int32.toInt64 (σ.1 15 84)) * (Int32.toInt64 (σ.1 15 84)))) (3 : Int32) (1 : Int32) (h5 c1 c2) (d := d) (by omega)) ?_
      refine ax_aload_n (q := 93) (i := 0) dX12_decades_92 rfl rfl rfl ?_
      exact ax_callVcv (q := 96) (As := []) (st := []) dX12_decades_93 rfl lk_X12_381 shM_0 rfl rfl rfl rfl (Nat.le_of_ble_eq_true rfl) (k6 c1 c2)
set_option maxRecDepth 20000 in
theorem s_X12_decades_96 {d : Nat} (hd : 0 ≤ d) {Q : Option ax_V → ax_S → Prop} (σ : ax_S) (x1 : Int32) (x4 : Int32) (k1 : ax_W shM (d + 1) mX12_decades Q 25 [some (ax_r 0), some (ax_i x1), none, none, some (ax_i (x4 + (1 : Int32)))] [] σ) : ax_W shM (d + 1) mX12_decades Q 96 [some (ax_r 0), some (ax_i x1), none, none, some (ax_i x4)] [] σ := by
  refine ax_iincK (q := 99) (lv2 := [some (ax_r 0), some (ax_i x1), none, none, some (ax_i (x4 + (1 : Int32)))]) dX12_decades_96 rfl rfl ki_1 (by decide) rfl rfl ?_
  refine ax_goto (tgt := 25) dX12_decades_99 (by decide) ?_
  exact k1
set_option maxRecDepth 20000 in
theorem f_X12_status (σ : ax_S) (a0 : Int32) (h1 : ((¬ (a0 < (0 : Int32))) ∧ (¬ ((4 : Int32) < a0))) → vp_in a0 5) {d : Nat} (hd : 2 ≤ d) : ax_Ct shM d mX12_status [ax_r 0, ax_i a0] (fun r u => r = some (ax_i (if (¬ ((¬ (a0 < (0 : Int32))) ∧ (¬ ((4 : Int32) < a0)))) then (-1 : Int32) else (σ.1 16 (Int32.toNatClampNeg a0)))) ∧ u = σ) σ := by
  obtain ⟨d, rfl⟩ : ∃ e, d = e + 1 := ⟨d - 1, by omega⟩
  refine ax_Ct.of (lv := [some (ax_r 0), some (ax_i a0)]) (by decide +kernel) (fun ad => Nat.le_of_ble_eq_true rfl) (fun ad => rfl) ?_
  refine ax_iload_n (q := 1) (i := 1) dX12_status_0 rfl rfl rfl ?_
  refine ax_iconst (q := 2) dX12_status_1 rfl ki_0 ?_
  refine ax_iconst (q := 3) dX12_status_2 rfl ki_4 ?_
  refine ax_callSfi (q := 6) (As := [ax_i a0, ax_i (0 : Int32), ax_i (4 : Int32)]) (st := []) (x := (if ((¬ (a0 < (0 : Int32))) ∧ (¬ ((4 : Int32) < a0))) then (1 : Int32) else 0)) (σ2 := σ) dX12_status_3 rfl lk_X12_223 rfl rfl (Nat.le_of_ble_eq_true rfl) (f_X12_in (sh := shM) σ a0 (0 : Int32) (4 : Int32)  (d := d) (by omega)) ?_
  have K2 : ax_W shM (d + 1) mX12_status (fun r u => r = some (ax_i (if (¬ ((¬ (a0 < (0 : Int32))) ∧ (¬ ((4 : Int32) < a0)))) then (-1 : Int32) else (σ.1 16 (Int32.toNatClampNeg a0)))) ∧ u = σ) 19 [some (ax_r 0), some (ax_i a0)] [ax_i (if (¬ ((¬ (a0 < (0 : Int32))) ∧ (¬ ((4 : Int32) < a0)))) then (-1 : Int32) else (σ.1 16 (Int32.toNatClampNeg a0)))] σ := by
    exact ax_iret dX12_status_19 rfl rfl ⟨rfl, rfl⟩
  refine ax_if_eqB (tgt := 18) (q := 9) dX12_status_6 (by decide) rfl (fun c1 => ?_) (fun c1 => ?_)
  · refine ax_iconst (q := 19) dX12_status_18 rfl ki_m1 ?_
    exact ax_cv (if_pos c1) K2
  · refine ax_aload_n (q := 10) (i := 0) dX12_status_9 rfl rfl rfl ?_
    refine ax_get (q := 13) (k := 0) (j := 26) (v := ax_r 16) dX12_status_10 rfl shM_0 rfl rfl rfl (by decide) fl_X12_55 ?_
    refine ax_iload_n (q := 14) (i := 1) dX12_status_13 rfl rfl rfl ?_
    refine ax_iald (q := 15) (a := (Int32.toNatClampNeg a0)) (v := (σ.1 16 (Int32.toNatClampNeg a0))) dX12_status_14 rfl shM_16 (h1 c1) rfl rfl ?_
    refine ax_goto (tgt := 19) dX12_status_15 (by decide) ?_
    exact ax_cv (if_neg (fun y => y c1)) K2
set_option maxRecDepth 20000 in
theorem s_X12_undo_0 {d : Nat} (hd : 0 ≤ d) {Q : Option ax_V → ax_S → Prop} (σ : ax_S)  (k1 : (¬ (σ.1 0 37) = 0) → ax_W shM (d + 1) mX12_undo Q 21 [some (ax_r 0), some (ax_i (0 : Int32))] [] (ax_ui σ 0 37 ((σ.1 0 37) - (1 : Int32)))) (k2 : (¬ (¬ (σ.1 0 37) = 0)) → Q (some (ax_i (-1 : Int32))) σ) : ax_W shM (d + 1) mX12_undo Q 0 [some (ax_r 0), none] [] σ := by
  refine ax_aload_n (q := 1) (i := 0) dX12_undo_0 rfl rfl rfl ?_
  refine ax_get (q := 4) (k := 0) (j := 37) (v := ax_i (σ.1 0 37)) dX12_undo_1 rfl shM_0 rfl rfl rfl (by decide) fl_X12_289 ?_
  refine ax_if_ne (tgt := 9) (q := 7) dX12_undo_4 (by decide) rfl (fun c1 => ?_) (fun c1 => ?_)
  · refine ax_aload_n (q := 10) (i := 0) dX12_undo_9 rfl rfl rfl ?_
    refine ax_dupr (q := 11) dX12_undo_10 rfl ?_
    refine ax_get (q := 14) (k := 0) (j := 37) (v := ax_i (σ.1 0 37)) dX12_undo_11 rfl shM_0 rfl rfl rfl (by decide) fl_X12_289 ?_
    refine ax_iconst (q := 15) dX12_undo_14 rfl ki_1 ?_
    refine ax_isub (q := 16) dX12_undo_15 rfl ?_
    refine ax_puti (q := 19) (k := 0) (j := 37) dX12_undo_16 rfl shM_0 rfl rfl (by decide) fl_X12_289 rfl rfl rfl rfl ?_
    refine ax_iconst (q := 20) dX12_undo_19 rfl ki_0 ?_
    refine ax_istore_n (q := 21) (i := 1) (lv2 := [some (ax_r 0), some (ax_i (0 : Int32))]) dX12_undo_20 rfl rfl (by decide) rfl rfl ?_
    exact (k1 c1)
  · refine ax_iconst (q := 8) dX12_undo_7 rfl ki_m1 ?_
    exact ax_iret dX12_undo_8 rfl rfl (k2 c1)
set_option maxRecDepth 20000 in
theorem s_X12_undo_21 {d : Nat} (hd : 0 ≤ d) {Q : Option ax_V → ax_S → Prop} (σ : ax_S) (x1 : Int32) (k1 : ((268 : Int32) ≤ x1) → Q (some (ax_i (σ.1 0 37))) σ) (h2 : (¬ ((268 : Int32) ≤ x1)) → vp_in (((268 : Int32) * (σ.1 0 37)) + x1) 10720) (h3 : (¬ ((268 : Int32) ≤ x1)) → vp_in x1 268) (k4 : (¬ ((268 : Int32) ≤ x1)) → ax_W shM (d + 1) mX12_undo Q 21 [some (ax_r 0), some (ax_i (x1 + (1 : Int32)))] [] (ax_ui σ 15 (Int32.toNatClampNeg x1) (σ.1 21 (Int32.toNatClampNeg (((268 : Int32) * (σ.1 0 37)) + x1))))) : ax_W shM (d + 1) mX12_undo Q 21 [some (ax_r 0), some (ax_i x1)] [] σ := by
  refine ax_iload_n (q := 22) (i := 1) dX12_undo_21 rfl rfl rfl ?_
  refine ax_sipush (q := 25) dX12_undo_22 rfl ks_268 ?_
  refine ax_icmp_ge (tgt := 55) (q := 28) dX12_undo_25 (by decide) rfl (fun c1 => ?_) (fun c1 => ?_)
  · refine ax_aload_n (q := 56) (i := 0) dX12_undo_55 rfl rfl rfl ?_
    refine ax_get (q := 59) (k := 0) (j := 37) (v := ax_i (σ.1 0 37)) dX12_undo_56 rfl shM_0 rfl rfl rfl (by decide) fl_X12_289 ?_
    exact ax_iret dX12_undo_59 rfl rfl (k1 c1)
  · refine ax_aload_n (q := 29) (i := 0) dX12_undo_28 rfl rfl rfl ?_
    refine ax_get (q := 32) (k := 0) (j := 25) (v := ax_r 15) dX12_undo_29 rfl shM_0 rfl rfl rfl (by decide) fl_X12_52 ?_
    refine ax_iload_n (q := 33) (i := 1) dX12_undo_32 rfl rfl rfl ?_
    refine ax_aload_n (q := 34) (i := 0) dX12_undo_33 rfl rfl rfl ?_
    refine ax_get (q := 37) (k := 0) (j := 36) (v := ax_r 21) dX12_undo_34 rfl shM_0 rfl rfl rfl (by decide) fl_X12_77 ?_
    refine ax_sipush (q := 40) dX12_undo_37 rfl ks_268 ?_
    refine ax_aload_n (q := 41) (i := 0) dX12_undo_40 rfl rfl rfl ?_
    refine ax_get (q := 44) (k := 0) (j := 37) (v := ax_i (σ.1 0 37)) dX12_undo_41 rfl shM_0 rfl rfl rfl (by decide) fl_X12_289 ?_
    refine ax_imul (q := 45) dX12_undo_44 rfl ?_
    refine ax_iload_n (q := 46) (i := 1) dX12_undo_45 rfl rfl rfl ?_
    refine ax_iadd (q := 47) dX12_undo_46 rfl ?_
    refine ax_iald (q := 48) (a := (Int32.toNatClampNeg (((268 : Int32) * (σ.1 0 37)) + x1))) (v := (σ.1 21 (Int32.toNatClampNeg (((268 : Int32) * (σ.1 0 37)) + x1)))) dX12_undo_47 rfl shM_21 (h2 c1) rfl rfl ?_
    refine ax_iast (q := 49) (a := (Int32.toNatClampNeg x1)) dX12_undo_48 rfl shM_15 (h3 c1) rfl ?_
    refine ax_iincK (q := 52) (lv2 := [some (ax_r 0), some (ax_i (x1 + (1 : Int32)))]) dX12_undo_49 rfl rfl ki_1 (by decide) rfl rfl ?_
    refine ax_goto (tgt := 21) dX12_undo_52 (by decide) ?_
    exact (k4 c1)
set_option maxRecDepth 20000 in
theorem f_X12_log (σ : ax_S) (a0 : Int32) (a1 : Int32) (h1 : vp_in (87 : Int32) 268) (h2 : ((¬ (a0 < (0 : Int32))) ∧ (¬ (((σ.1 15 87) - (1 : Int32)) < a0))) → ((¬ (a1 < (0 : Int32))) ∧ (¬ ((2 : Int32) < a1))) → vp_in (87 : Int32) 268) (h3 : ((¬ (a0 < (0 : Int32))) ∧ (¬ (((σ.1 15 87) - (1 : Int32)) < a0))) → ((¬ (a1 < (0 : Int32))) ∧ (¬ ((2 : Int32) < a1))) → vp_in (((88 : Int32) + ((3 : Int32) * (((σ.1 15 87) - (1 : Int32)) - a0))) + a1) 268) {d : Nat} (hd : 2 ≤ d) : ax_Ct shM d mX12_log [ax_r 0, ax_i a0, ax_i a1] (fun r u => r = some (ax_i (if (¬ ((¬ (a0 < (0 : Int32))) ∧ (¬ (((σ.1 15 87) - (1 : Int32)) < a0)))) then (-1 : Int32) else (if (¬ ((¬ (a1 < (0 : Int32))) ∧ (¬ ((2 : Int32) < a1)))) then (-1 : Int32) else (σ.1 15 (Int32.toNatClampNeg (((88 : Int32) + ((3 : Int32) * (((σ.1 15 87) - (1 : Int32)) - a0))) + a1)))))) ∧ u = σ) σ := by
  obtain ⟨d, rfl⟩ : ∃ e, d = e + 1 := ⟨d - 1, by omega⟩
  refine ax_Ct.of (lv := [some (ax_r 0), some (ax_i a0), some (ax_i a1)]) (by decide +kernel) (fun ad => Nat.le_of_ble_eq_true rfl) (fun ad => rfl) ?_
  refine ax_iload_n (q := 1) (i := 1) dX12_log_0 rfl rfl rfl ?_
  refine ax_iconst (q := 2) dX12_log_1 rfl ki_0 ?_
  refine ax_aload_n (q := 3) (i := 0) dX12_log_2 rfl rfl rfl ?_
  refine ax_get (q := 6) (k := 0) (j := 25) (v := ax_r 15) dX12_log_3 rfl shM_0 rfl rfl rfl (by decide) fl_X12_52 ?_
  refine ax_bipush (q := 8) dX12_log_6 rfl kb_87 ?_
  refine ax_iald (q := 9) (a := 87) (v := (σ.1 15 87)) dX12_log_8 rfl shM_15 h1 rfl rfl ?_
  refine ax_iconst (q := 10) dX12_log_9 rfl ki_1 ?_
  refine ax_isub (q := 11) dX12_log_10 rfl ?_
  refine ax_callSfi (q := 14) (As := [ax_i a0, ax_i (0 : Int32), ax_i ((σ.1 15 87) - (1 : Int32))]) (st := []) (x := (if ((¬ (a0 < (0 : Int32))) ∧ (¬ (((σ.1 15 87) - (1 : Int32)) < a0))) then (1 : Int32) else 0)) (σ2 := σ) dX12_log_11 rfl lk_X12_223 rfl rfl (Nat.le_of_ble_eq_true rfl) (f_X12_in (sh := shM) σ a0 (0 : Int32) ((σ.1 15 87) - (1 : Int32))  (d := d) (by omega)) ?_
  have K3 : ax_W shM (d + 1) mX12_log (fun r u => r = some (ax_i (if (¬ ((¬ (a0 < (0 : Int32))) ∧ (¬ (((σ.1 15 87) - (1 : Int32)) < a0)))) then (-1 : Int32) else (if (¬ ((¬ (a1 < (0 : Int32))) ∧ (¬ ((2 : Int32) < a1)))) then (-1 : Int32) else (σ.1 15 (Int32.toNatClampNeg (((88 : Int32) + ((3 : Int32) * (((σ.1 15 87) - (1 : Int32)) - a0))) + a1)))))) ∧ u = σ) 53 [some (ax_r 0), some (ax_i a0), some (ax_i a1)] [ax_i (if (¬ ((¬ (a0 < (0 : Int32))) ∧ (¬ (((σ.1 15 87) - (1 : Int32)) < a0)))) then (-1 : Int32) else (if (¬ ((¬ (a1 < (0 : Int32))) ∧ (¬ ((2 : Int32) < a1)))) then (-1 : Int32) else (σ.1 15 (Int32.toNatClampNeg (((88 : Int32) + ((3 : Int32) * (((σ.1 15 87) - (1 : Int32)) - a0))) + a1)))))] σ := by
    exact ax_iret dX12_log_53 rfl rfl ⟨rfl, rfl⟩
  refine ax_if_eqB (tgt := 52) (q := 17) dX12_log_14 (by decide) rfl (fun c1 => ?_) (fun c1 => ?_)
  · refine ax_iconst (q := 53) dX12_log_52 rfl ki_m1 ?_
    exact ax_cv (if_pos c1) K3
  · refine ax_iload_n (q := 18) (i := 2) dX12_log_17 rfl rfl rfl ?_
    refine ax_iconst (q := 19) dX12_log_18 rfl ki_0 ?_
    refine ax_iconst (q := 20) dX12_log_19 rfl ki_2 ?_
    refine ax_callSfi (q := 23) (As := [ax_i a1, ax_i (0 : Int32), ax_i (2 : Int32)]) (st := []) (x := (if ((¬ (a1 < (0 : Int32))) ∧ (¬ ((2 : Int32) < a1))) then (1 : Int32) else 0)) (σ2 := σ) dX12_log_20 rfl lk_X12_223 rfl rfl (Nat.le_of_ble_eq_true rfl) (f_X12_in (sh := shM) σ a1 (0 : Int32) (2 : Int32)  (d := d) (by omega)) ?_
    refine ax_if_eqB (tgt := 52) (q := 26) dX12_log_23 (by decide) rfl (fun c2 => ?_) (fun c2 => ?_)
    · refine ax_iconst (q := 53) dX12_log_52 rfl ki_m1 ?_
      exact ax_cv ((if_neg (fun y => y c1)).trans (if_pos c2)) K3
    · refine ax_aload_n (q := 27) (i := 0) dX12_log_26 rfl rfl rfl ?_
      refine ax_get (q := 30) (k := 0) (j := 25) (v := ax_r 15) dX12_log_27 rfl shM_0 rfl rfl rfl (by decide) fl_X12_52 ?_
      refine ax_bipush (q := 32) dX12_log_30 rfl kb_88 ?_
      refine ax_iconst (q := 33) dX12_log_32 rfl ki_3 ?_
      refine ax_aload_n (q := 34) (i := 0) dX12_log_33 rfl rfl rfl ?_
      refine ax_get (q := 37) (k := 0) (j := 25) (v := ax_r 15) dX12_log_34 rfl shM_0 rfl rfl rfl (by decide) fl_X12_52 ?_
      refine ax_bipush (q := 39) dX12_log_37 rfl kb_87 ?_
      refine ax_iald (q := 40) (a := 87) (v := (σ.1 15 87)) dX12_log_39 rfl shM_15 (h2 c1 c2) rfl rfl ?_
      refine ax_iconst (q := 41) dX12_log_40 rfl ki_1 ?_
      refine ax_isub (q := 42) dX12_log_41 rfl ?_
      refine ax_iload_n (q := 43) (i := 1) dX12_log_42 rfl rfl rfl ?_
      refine ax_isub (q := 44) dX12_log_43 rfl ?_
      refine ax_imul (q := 45) dX12_log_44 rfl ?_
      refine ax_iadd (q := 46) dX12_log_45 rfl ?_
      refine ax_iload_n (q := 47) (i := 2) dX12_log_46 rfl rfl rfl ?_
      refine ax_iadd (q := 48) dX12_log_47 rfl ?_
      refine ax_iald (q := 49) (a := (Int32.toNatClampNeg (((88 : Int32) + ((3 : Int32) * (((σ.1 15 87) - (1 : Int32)) - a0))) + a1))) (v := (σ.1 15 (Int32.toNatClampNeg (((88 : Int32) + ((3 : Int32) * (((σ.1 15 87) - (1 : Int32)) - a0))) + a1)))) dX12_log_48 rfl shM_15 (h3 c1 c2) rfl rfl ?_
      refine ax_goto (tgt := 53) dX12_log_49 (by decide) ?_
      exact ax_cv ((if_neg (fun y => y c1)).trans (if_neg (fun y => y c2))) K3
set_option maxRecDepth 20000 in
theorem s_X12_keeps_0 {d : Nat} (hd : 2 ≤ d) {Q : Option ax_V → ax_S → Prop} (σ : ax_S) (a0 : Int32) (a1 : Int32) (a2 : Int32) (k1 : (¬ ((¬ (a0 < (0 : Int32))) ∧ (¬ (((σ.1 0 23) - (1 : Int32)) < a0)))) → Q (some (ax_i (-1 : Int32))) σ) (k2 : ((¬ (a0 < (0 : Int32))) ∧ (¬ (((σ.1 0 23) - (1 : Int32)) < a0))) → (¬ ((¬ (a2 < (0 : Int32))) ∧ (¬ (((σ.1 0 23) - (1 : Int32)) < a2)))) → Q (some (ax_i (-1 : Int32))) σ) (k3 : ((¬ (a0 < (0 : Int32))) ∧ (¬ (((σ.1 0 23) - (1 : Int32)) < a0))) → ((¬ (a2 < (0 : Int32))) ∧ (¬ (((σ.1 0 23) - (1 : Int32)) < a2))) → (¬ ((¬ (a1 < (1 : Int32))) ∧ (¬ ((999 : Int32) < a1)))) → Q (some (ax_i (-1 : Int32))) σ) (k4 : ((¬ (a0 < (0 : Int32))) ∧ (¬ (((σ.1 0 23) - (1 : Int32)) < a0))) → ((¬ (a2 < (0 : Int32))) ∧ (¬ (((σ.1 0 23) - (1 : Int32)) < a2))) → ((¬ (a1 < (1 : Int32))) ∧ (¬ ((999 : Int32) < a1))) → ax_Ct shM d mX12_keepsOf [ax_r 0, ax_i a0, ax_i a1, ax_i a2] (fun r u => ∃ x : Int32, r = some (ax_i x) ∧ ax_W shM (d + 1) mX12_keeps Q 30 [none, none, none, none] (ax_i x :: []) u) σ) : ax_W shM (d + 1) mX12_keeps Q 0 [some (ax_r 0), some (ax_i a0), some (ax_i a1), some (ax_i a2)] [] σ := by
  refine ax_aload_n (q := 1) (i := 0) dX12_keeps_0 rfl rfl rfl ?_
  refine ax_iload_n (q := 2) (i := 1) dX12_keeps_1 rfl rfl rfl ?_
  refine ax_callVfi (q := 5) (As := [ax_i a0]) (st := []) (x := (if ((¬ (a0 < (0 : Int32))) ∧ (¬ (((σ.1 0 23) - (1 : Int32)) < a0))) then (1 : Int32) else 0)) (σ2 := σ) dX12_keeps_2 rfl lk_X12_342 shM_0 rfl rfl rfl rfl (Nat.le_of_ble_eq_true rfl) (f_X12_isHouse σ a0  (d := d) (by omega)) ?_
  refine ax_if_eqB (tgt := 33) (q := 8) dX12_keeps_5 (by decide) rfl (fun c1 => ?_) (fun c1 => ?_)
  · refine ax_iconst (q := 34) dX12_keeps_33 rfl ki_m1 ?_
    exact ax_iret dX12_keeps_34 rfl rfl (k1 c1)
  · refine ax_aload_n (q := 9) (i := 0) dX12_keeps_8 rfl rfl rfl ?_
    refine ax_iload_n (q := 10) (i := 3) dX12_keeps_9 rfl rfl rfl ?_
    refine ax_callVfi (q := 13) (As := [ax_i a2]) (st := []) (x := (if ((¬ (a2 < (0 : Int32))) ∧ (¬ (((σ.1 0 23) - (1 : Int32)) < a2))) then (1 : Int32) else 0)) (σ2 := σ) dX12_keeps_10 rfl lk_X12_342 shM_0 rfl rfl rfl rfl (Nat.le_of_ble_eq_true rfl) (f_X12_isHouse σ a2  (d := d) (by omega)) ?_
    refine ax_if_eqB (tgt := 33) (q := 16) dX12_keeps_13 (by decide) rfl (fun c2 => ?_) (fun c2 => ?_)
    · refine ax_iconst (q := 34) dX12_keeps_33 rfl ki_m1 ?_
      exact ax_iret dX12_keeps_34 rfl rfl (k2 c1 c2)
    · refine ax_iload_n (q := 17) (i := 2) dX12_keeps_16 rfl rfl rfl ?_
      refine ax_callSfi (q := 20) (As := [ax_i a1]) (st := []) (x := (if ((¬ (a1 < (1 : Int32))) ∧ (¬ ((999 : Int32) < a1))) then (1 : Int32) else 0)) (σ2 := σ) dX12_keeps_17 rfl lk_X12_351 rfl rfl (Nat.le_of_ble_eq_true rfl) (f_X12_isForce (sh := shM) σ a1  (d := d) (by omega)) ?_
      refine ax_if_eqB (tgt := 33) (q := 23) dX12_keeps_20 (by decide) rfl (fun c3 => ?_) (fun c3 => ?_)
      · refine ax_iconst (q := 34) dX12_keeps_33 rfl ki_m1 ?_
        exact ax_iret dX12_keeps_34 rfl rfl (k3 c1 c2 c3)
      · refine ax_aload_n (q := 24) (i := 0) dX12_keeps_23 rfl rfl rfl ?_
        refine ax_iload_n (q := 25) (i := 1) dX12_keeps_24 rfl rfl rfl ?_
        refine ax_iload_n (q := 26) (i := 2) dX12_keeps_25 rfl rfl rfl ?_
        refine ax_iload_n (q := 27) (i := 3) dX12_keeps_26 rfl rfl rfl ?_
        refine ax_fg (lv2 := [none, none, none, none]) trivial ?_
        exact ax_callVci (q := 30) (As := [ax_i a0, ax_i a1, ax_i a2]) (st := []) dX12_keeps_27 rfl lk_X12_404 shM_0 rfl rfl rfl rfl (Nat.le_of_ble_eq_true rfl) (k4 c1 c2 c3)
set_option maxRecDepth 20000 in
theorem s_X12_keeps_30 {d : Nat} (hd : 0 ≤ d) {Q : Option ax_V → ax_S → Prop} (σ : ax_S) (rr : Int32) (k1 : Q (some (ax_i rr)) σ) : ax_W shM (d + 1) mX12_keeps Q 30 [none, none, none, none] [ax_i rr] σ := by
  refine ax_goto (tgt := 34) dX12_keeps_30 (by decide) ?_
  exact ax_iret dX12_keeps_34 rfl rfl k1
set_option maxRecDepth 20000 in
theorem s_X12_burning_0 {d : Nat} (hd : 2 ≤ d) {Q : Option ax_V → ax_S → Prop} (σ : ax_S) (a0 : Int32) (a1 : Int32) (k1 : (¬ ((¬ (a0 < (0 : Int32))) ∧ (¬ (((σ.1 0 23) - (1 : Int32)) < a0)))) → Q (some (ax_i (-1 : Int32))) σ) (k2 : ((¬ (a0 < (0 : Int32))) ∧ (¬ (((σ.1 0 23) - (1 : Int32)) < a0))) → (¬ ((¬ (a1 < (1 : Int32))) ∧ (¬ ((999 : Int32) < a1)))) → Q (some (ax_i (-1 : Int32))) σ) (k3 : ((¬ (a0 < (0 : Int32))) ∧ (¬ (((σ.1 0 23) - (1 : Int32)) < a0))) → ((¬ (a1 < (1 : Int32))) ∧ (¬ ((999 : Int32) < a1))) → ax_Ct shM d mX12_burningBy [ax_r 0, ax_i a0, ax_i a1] (fun r u => ∃ x : Int32, r = some (ax_i x) ∧ ax_W shM (d + 1) mX12_burning Q 21 [none, none, none] (ax_i x :: []) u) σ) : ax_W shM (d + 1) mX12_burning Q 0 [some (ax_r 0), some (ax_i a0), some (ax_i a1)] [] σ := by
  refine ax_aload_n (q := 1) (i := 0) dX12_burning_0 rfl rfl rfl ?_
  refine ax_iload_n (q := 2) (i := 1) dX12_burning_1 rfl rfl rfl ?_
  refine ax_callVfi (q := 5) (As := [ax_i a0]) (st := []) (x := (if ((¬ (a0 < (0 : Int32))) ∧ (¬ (((σ.1 0 23) - (1 : Int32)) < a0))) then (1 : Int32) else 0)) (σ2 := σ) dX12_burning_2 rfl lk_X12_342 shM_0 rfl rfl rfl rfl (Nat.le_of_ble_eq_true rfl) (f_X12_isHouse σ a0  (d := d) (by omega)) ?_
  refine ax_if_eqB (tgt := 24) (q := 8) dX12_burning_5 (by decide) rfl (fun c1 => ?_) (fun c1 => ?_)
  · refine ax_iconst (q := 25) dX12_burning_24 rfl ki_m1 ?_
    exact ax_iret dX12_burning_25 rfl rfl (k1 c1)
  · refine ax_iload_n (q := 9) (i := 2) dX12_burning_8 rfl rfl rfl ?_
    refine ax_callSfi (q := 12) (As := [ax_i a1]) (st := []) (x := (if ((¬ (a1 < (1 : Int32))) ∧ (¬ ((999 : Int32) < a1))) then (1 : Int32) else 0)) (σ2 := σ) dX12_burning_9 rfl lk_X12_351 rfl rfl (Nat.le_of_ble_eq_true rfl) (f_X12_isForce (sh := shM) σ a1  (d := d) (by omega)) ?_
    refine ax_if_eqB (tgt := 24) (q := 15) dX12_burning_12 (by decide) rfl (fun c2 => ?_) (fun c2 => ?_)
    · refine ax_iconst (q := 25) dX12_burning_24 rfl ki_m1 ?_
      exact ax_iret dX12_burning_25 rfl rfl (k2 c1 c2)
    · refine ax_aload_n (q := 16) (i := 0) dX12_burning_15 rfl rfl rfl ?_
      refine ax_iload_n (q := 17) (i := 1) dX12_burning_16 rfl rfl rfl ?_
      refine ax_iload_n (q := 18) (i := 2) dX12_burning_17 rfl rfl rfl ?_
      refine ax_fg (lv2 := [none, none, none]) trivial ?_
      exact ax_callVci (q := 21) (As := [ax_i a0, ax_i a1]) (st := []) dX12_burning_18 rfl lk_X12_348 shM_0 rfl rfl rfl rfl (Nat.le_of_ble_eq_true rfl) (k3 c1 c2)
set_option maxRecDepth 20000 in
theorem s_X12_burning_21 {d : Nat} (hd : 0 ≤ d) {Q : Option ax_V → ax_S → Prop} (σ : ax_S) (rr : Int32) (k1 : Q (some (ax_i rr)) σ) : ax_W shM (d + 1) mX12_burning Q 21 [none, none, none] [ax_i rr] σ := by
  refine ax_goto (tgt := 25) dX12_burning_21 (by decide) ?_
  exact ax_iret dX12_burning_25 rfl rfl k1
set_option maxRecDepth 20000 in
theorem s_X12_lost_0 {d : Nat} (hd : 2 ≤ d) {Q : Option ax_V → ax_S → Prop} (σ : ax_S) (a0 : Int32) (a1 : Int32) (k1 : (¬ ((¬ (a0 < (0 : Int32))) ∧ (¬ (((σ.1 0 23) - (1 : Int32)) < a0)))) → Q (some (ax_i (-1 : Int32))) σ) (k2 : ((¬ (a0 < (0 : Int32))) ∧ (¬ (((σ.1 0 23) - (1 : Int32)) < a0))) → ((¬ (a1 < (1 : Int32))) ∧ (¬ ((999 : Int32) < a1))) → ax_Ct shM d mX12_layStroke [ax_r 0, ax_i a0, ax_i a1] (fun r u => r = none ∧ ax_W shM (d + 1) mX12_lost Q 23 [some (ax_r 0), none, none] [] u) σ) (k3 : ((¬ (a0 < (0 : Int32))) ∧ (¬ (((σ.1 0 23) - (1 : Int32)) < a0))) → (¬ ((¬ (a1 < (1 : Int32))) ∧ (¬ ((999 : Int32) < a1)))) → Q (some (ax_i (-1 : Int32))) σ) : ax_W shM (d + 1) mX12_lost Q 0 [some (ax_r 0), some (ax_i a0), some (ax_i a1)] [] σ := by
  refine ax_aload_n (q := 1) (i := 0) dX12_lost_0 rfl rfl rfl ?_
  refine ax_iload_n (q := 2) (i := 1) dX12_lost_1 rfl rfl rfl ?_
  refine ax_callVfi (q := 5) (As := [ax_i a0]) (st := []) (x := (if ((¬ (a0 < (0 : Int32))) ∧ (¬ (((σ.1 0 23) - (1 : Int32)) < a0))) then (1 : Int32) else 0)) (σ2 := σ) dX12_lost_2 rfl lk_X12_342 shM_0 rfl rfl rfl rfl (Nat.le_of_ble_eq_true rfl) (f_X12_isHouse σ a0  (d := d) (by omega)) ?_
  refine ax_if_eqB (tgt := 15) (q := 8) dX12_lost_5 (by decide) rfl (fun c1 => ?_) (fun c1 => ?_)
  · refine ax_iconst (q := 16) dX12_lost_15 rfl ki_m1 ?_
    exact ax_iret dX12_lost_16 rfl rfl (k1 c1)
  · refine ax_iload_n (q := 9) (i := 2) dX12_lost_8 rfl rfl rfl ?_
    refine ax_callSfi (q := 12) (As := [ax_i a1]) (st := []) (x := (if ((¬ (a1 < (1 : Int32))) ∧ (¬ ((999 : Int32) < a1))) then (1 : Int32) else 0)) (σ2 := σ) dX12_lost_9 rfl lk_X12_351 rfl rfl (Nat.le_of_ble_eq_true rfl) (f_X12_isForce (sh := shM) σ a1  (d := d) (by omega)) ?_
    refine ax_if_neB (tgt := 17) (q := 15) dX12_lost_12 (by decide) rfl (fun c2 => ?_) (fun c2 => ?_)
    · refine ax_aload_n (q := 18) (i := 0) dX12_lost_17 rfl rfl rfl ?_
      refine ax_iload_n (q := 19) (i := 1) dX12_lost_18 rfl rfl rfl ?_
      refine ax_iload_n (q := 20) (i := 2) dX12_lost_19 rfl rfl rfl ?_
      refine ax_fg (lv2 := [some (ax_r 0), none, none]) ⟨rfl, trivial⟩ ?_
      exact ax_callVcv (q := 23) (As := [ax_i a0, ax_i a1]) (st := []) dX12_lost_20 rfl lk_X12_339 shM_0 rfl rfl rfl rfl (Nat.le_of_ble_eq_true rfl) (k2 c1 c2)
    · refine ax_iconst (q := 16) dX12_lost_15 rfl ki_m1 ?_
      exact ax_iret dX12_lost_16 rfl rfl (k3 c1 c2)
set_option maxRecDepth 20000 in
theorem s_X12_lost_23 {d : Nat} (hd : 0 ≤ d) {Q : Option ax_V → ax_S → Prop} (σ : ax_S)  (k1 : Q (some (ax_i (σ.1 0 35))) σ) : ax_W shM (d + 1) mX12_lost Q 23 [some (ax_r 0), none, none] [] σ := by
  refine ax_aload_n (q := 24) (i := 0) dX12_lost_23 rfl rfl rfl ?_
  refine ax_get (q := 27) (k := 0) (j := 35) (v := ax_i (σ.1 0 35)) dX12_lost_24 rfl shM_0 rfl rfl rfl (by decide) fl_X12_324 ?_
  exact ax_iret dX12_lost_27 rfl rfl k1
set_option maxRecDepth 20000 in
theorem s_X12_tryCouples_0 {d : Nat} (hd : 0 ≤ d) {Q : Option ax_V → ax_S → Prop} (σ : ax_S) (a0 : Int32) (a1 : Int32) (a2 : Int32) (h1 : (¬ a0 = (σ.1 0 23)) → vp_in a0 8) (k2 : (¬ a0 = (σ.1 0 23)) → ((σ.1 22 (Int32.toNatClampNeg a0)) = (-1 : Int32)) → (a1 = 0) → ax_W shM (d + 1) mX12_tryCouples Q 141 [some (ax_r 0), some (ax_i a0), some (ax_i a1), some (ax_i a2), some (ax_i (a0 + (1 : Int32))), none] [] σ) (h3 : (¬ a0 = (σ.1 0 23)) → ((σ.1 22 (Int32.toNatClampNeg a0)) = (-1 : Int32)) → (¬ (a1 = 0)) → vp_in a0 8) (k4 : (¬ a0 = (σ.1 0 23)) → ((σ.1 22 (Int32.toNatClampNeg a0)) = (-1 : Int32)) → (¬ (a1 = 0)) → ax_Ct shM d mX12_tryCouples [ax_r 0, ax_i (a0 + (1 : Int32)), ax_i (0 : Int32), ax_i a2] (fun r u => r = none ∧ ax_W shM (d + 1) mX12_tryCouples Q 129 [some (ax_r 0), some (ax_i a0), some (ax_i a1), some (ax_i a2), none, none] [] u) (ax_ui σ 22 (Int32.toNatClampNeg a0) a0)) (k5 : (¬ a0 = (σ.1 0 23)) → (¬ ((σ.1 22 (Int32.toNatClampNeg a0)) = (-1 : Int32))) → ax_Ct shM d mX12_tryCouples [ax_r 0, ax_i (a0 + (1 : Int32)), ax_i a1, ax_i a2] (fun r u => r = none ∧ ax_W shM (d + 1) mX12_tryCouples Q 108 [none, none, none, none, none, none] [] u) σ) (k6 : (¬ (¬ a0 = (σ.1 0 23))) → ax_W shM (d + 1) mX12_tryCouples Q 14 [some (ax_r 0), none, none, some (ax_i a2), some (ax_i (0 : Int32)), some (ax_i (0 : Int32))] [] σ) : ax_W shM (d + 1) mX12_tryCouples Q 0 [some (ax_r 0), some (ax_i a0), some (ax_i a1), some (ax_i a2), none, none] [] σ := by
  refine ax_iload_n (q := 1) (i := 1) dX12_tryCouples_0 rfl rfl rfl ?_
  refine ax_aload_n (q := 2) (i := 0) dX12_tryCouples_1 rfl rfl rfl ?_
  refine ax_get (q := 5) (k := 0) (j := 23) (v := ax_i (σ.1 0 23)) dX12_tryCouples_2 rfl shM_0 rfl rfl rfl (by decide) fl_X12_271 ?_
  refine ax_icmp_ne (tgt := 89) (q := 8) dX12_tryCouples_5 (by decide) rfl (fun c1 => ?_) (fun c1 => ?_)
  · refine ax_aload_n (q := 90) (i := 0) dX12_tryCouples_89 rfl rfl rfl ?_
    refine ax_get (q := 93) (k := 0) (j := 39) (v := ax_r 22) dX12_tryCouples_90 rfl shM_0 rfl rfl rfl (by decide) fl_X12_80 ?_
    refine ax_iload_n (q := 94) (i := 1) dX12_tryCouples_93 rfl rfl rfl ?_
    refine ax_iald (q := 95) (a := (Int32.toNatClampNeg a0)) (v := (σ.1 22 (Int32.toNatClampNeg a0))) dX12_tryCouples_94 rfl shM_22 (h1 c1) rfl rfl ?_
    refine ax_iconst (q := 96) dX12_tryCouples_95 rfl ki_m1 ?_
    refine ax_icmp_eq (tgt := 109) (q := 99) dX12_tryCouples_96 (by decide) rfl (fun c2 => ?_) (fun c2 => ?_)
    · refine ax_iload_n (q := 110) (i := 2) dX12_tryCouples_109 rfl rfl rfl ?_
      refine ax_if_eq (tgt := 136) (q := 113) dX12_tryCouples_110 (by decide) rfl (fun c3 => ?_) (fun c3 => ?_)
      · refine ax_iload_n (q := 137) (i := 1) dX12_tryCouples_136 rfl rfl rfl ?_
        refine ax_iconst (q := 138) dX12_tryCouples_137 rfl ki_1 ?_
        refine ax_iadd (q := 139) dX12_tryCouples_138 rfl ?_
        refine ax_istore (q := 141) (lv2 := [some (ax_r 0), some (ax_i a0), some (ax_i a1), some (ax_i a2), some (ax_i (a0 + (1 : Int32))), none]) dX12_tryCouples_139 rfl (by decide) rfl rfl ?_
        exact (k2 c1 c2 c3)
      · refine ax_aload_n (q := 114) (i := 0) dX12_tryCouples_113 rfl rfl rfl ?_
        refine ax_get (q := 117) (k := 0) (j := 39) (v := ax_r 22) dX12_tryCouples_114 rfl shM_0 rfl rfl rfl (by decide) fl_X12_80 ?_
        refine ax_iload_n (q := 118) (i := 1) dX12_tryCouples_117 rfl rfl rfl ?_
        refine ax_iload_n (q := 119) (i := 1) dX12_tryCouples_118 rfl rfl rfl ?_
        refine ax_iast (q := 120) (a := (Int32.toNatClampNeg a0)) dX12_tryCouples_119 rfl shM_22 (h3 c1 c2 c3) rfl ?_
        refine ax_aload_n (q := 121) (i := 0) dX12_tryCouples_120 rfl rfl rfl ?_
        refine ax_iload_n (q := 122) (i := 1) dX12_tryCouples_121 rfl rfl rfl ?_
        refine ax_iconst (q := 123) dX12_tryCouples_122 rfl ki_1 ?_
        refine ax_iadd (q := 124) dX12_tryCouples_123 rfl ?_
        refine ax_iconst (q := 125) dX12_tryCouples_124 rfl ki_0 ?_
        refine ax_iload_n (q := 126) (i := 3) dX12_tryCouples_125 rfl rfl rfl ?_
        exact ax_callVcv (q := 129) (As := [ax_i (a0 + (1 : Int32)), ax_i (0 : Int32), ax_i a2]) (st := []) dX12_tryCouples_126 rfl lk_X12_413 shM_0 rfl rfl rfl rfl (Nat.le_of_ble_eq_true rfl) (k4 c1 c2 c3)
    · refine ax_aload_n (q := 100) (i := 0) dX12_tryCouples_99 rfl rfl rfl ?_
      refine ax_iload_n (q := 101) (i := 1) dX12_tryCouples_100 rfl rfl rfl ?_
      refine ax_iconst (q := 102) dX12_tryCouples_101 rfl ki_1 ?_
      refine ax_iadd (q := 103) dX12_tryCouples_102 rfl ?_
      refine ax_iload_n (q := 104) (i := 2) dX12_tryCouples_103 rfl rfl rfl ?_
      refine ax_iload_n (q := 105) (i := 3) dX12_tryCouples_104 rfl rfl rfl ?_
      refine ax_fg (lv2 := [none, none, none, none, none, none]) trivial ?_
      exact ax_callVcv (q := 108) (As := [ax_i (a0 + (1 : Int32)), ax_i a1, ax_i a2]) (st := []) dX12_tryCouples_105 rfl lk_X12_413 shM_0 rfl rfl rfl rfl (Nat.le_of_ble_eq_true rfl) (k5 c1 c2)
  · refine ax_iconst (q := 9) dX12_tryCouples_8 rfl ki_0 ?_
    refine ax_istore (q := 11) (lv2 := [some (ax_r 0), some (ax_i a0), some (ax_i a1), some (ax_i a2), some (ax_i (0 : Int32)), none]) dX12_tryCouples_9 rfl (by decide) rfl rfl ?_
    refine ax_iconst (q := 12) dX12_tryCouples_11 rfl ki_0 ?_
    refine ax_istore (q := 14) (lv2 := [some (ax_r 0), some (ax_i a0), some (ax_i a1), some (ax_i a2), some (ax_i (0 : Int32)), some (ax_i (0 : Int32))]) dX12_tryCouples_12 rfl (by decide) rfl rfl ?_
    refine ax_fg (lv2 := [some (ax_r 0), none, none, some (ax_i a2), some (ax_i (0 : Int32)), some (ax_i (0 : Int32))]) ⟨rfl, rfl, rfl, rfl, trivial⟩ ?_
    exact (k6 c1)
set_option maxRecDepth 20000 in
theorem s_X12_tryCouples_108 {d : Nat} (hd : 0 ≤ d) {Q : Option ax_V → ax_S → Prop} (σ : ax_S)  (k1 : Q none σ) : ax_W shM (d + 1) mX12_tryCouples Q 108 [none, none, none, none, none, none] [] σ := by
  exact ax_vret dX12_tryCouples_108 rfl k1
set_option maxRecDepth 20000 in
theorem s_X12_tryCouples_129 {d : Nat} (hd : 0 ≤ d) {Q : Option ax_V → ax_S → Prop} (σ : ax_S) (x1 : Int32) (x2 : Int32) (x3 : Int32) (h1 : vp_in x1 8) (k2 : ax_W shM (d + 1) mX12_tryCouples Q 141 [some (ax_r 0), some (ax_i x1), some (ax_i x2), some (ax_i x3), some (ax_i (x1 + (1 : Int32))), none] [] (ax_ui σ 22 (Int32.toNatClampNeg x1) (-1 : Int32))) : ax_W shM (d + 1) mX12_tryCouples Q 129 [some (ax_r 0), some (ax_i x1), some (ax_i x2), some (ax_i x3), none, none] [] σ := by
  refine ax_aload_n (q := 130) (i := 0) dX12_tryCouples_129 rfl rfl rfl ?_
  refine ax_get (q := 133) (k := 0) (j := 39) (v := ax_r 22) dX12_tryCouples_130 rfl shM_0 rfl rfl rfl (by decide) fl_X12_80 ?_
  refine ax_iload_n (q := 134) (i := 1) dX12_tryCouples_133 rfl rfl rfl ?_
  refine ax_iconst (q := 135) dX12_tryCouples_134 rfl ki_m1 ?_
  refine ax_iast (q := 136) (a := (Int32.toNatClampNeg x1)) dX12_tryCouples_135 rfl shM_22 h1 rfl ?_
  refine ax_iload_n (q := 137) (i := 1) dX12_tryCouples_136 rfl rfl rfl ?_
  refine ax_iconst (q := 138) dX12_tryCouples_137 rfl ki_1 ?_
  refine ax_iadd (q := 139) dX12_tryCouples_138 rfl ?_
  refine ax_istore (q := 141) (lv2 := [some (ax_r 0), some (ax_i x1), some (ax_i x2), some (ax_i x3), some (ax_i (x1 + (1 : Int32))), none]) dX12_tryCouples_139 rfl (by decide) rfl rfl ?_
  exact k2
set_option maxRecDepth 20000 in
theorem s_X12_tryCouples_14 {d : Nat} (hd : 0 ≤ d) {Q : Option ax_V → ax_S → Prop} (σ : ax_S) (x3 : Int32) (x4 : Int32) (x5 : Int32) (k1 : ((σ.1 0 23) ≤ x5) → ((σ.1 0 40) = (-1 : Int32)) → Q none (ax_ui (ax_ui σ 0 40 x4) 0 41 x3)) (k2 : ((σ.1 0 23) ≤ x5) → (¬ ((σ.1 0 40) = (-1 : Int32))) → (x3 < (σ.1 0 41)) → Q none (ax_ui (ax_ui σ 0 40 x4) 0 41 x3)) (k3 : ((σ.1 0 23) ≤ x5) → (¬ ((σ.1 0 40) = (-1 : Int32))) → (¬ (x3 < (σ.1 0 41))) → (¬ x3 = (σ.1 0 41)) → Q none σ) (k4 : ((σ.1 0 23) ≤ x5) → (¬ ((σ.1 0 40) = (-1 : Int32))) → (¬ (x3 < (σ.1 0 41))) → (¬ (¬ x3 = (σ.1 0 41))) → ((σ.1 0 40) ≤ x4) → Q none σ) (k5 : ((σ.1 0 23) ≤ x5) → (¬ ((σ.1 0 40) = (-1 : Int32))) → (¬ (x3 < (σ.1 0 41))) → (¬ (¬ x3 = (σ.1 0 41))) → (¬ ((σ.1 0 40) ≤ x4)) → Q none (ax_ui (ax_ui σ 0 40 x4) 0 41 x3)) (h6 : (¬ ((σ.1 0 23) ≤ x5)) → vp_in x5 8) (k7 : (¬ ((σ.1 0 23) ≤ x5)) → ax_W shM (d + 1) mX12_tryCouples Q 14 [some (ax_r 0), none, none, some (ax_i x3), some (ax_i (((10 : Int32) * x4) + (σ.1 22 (Int32.toNatClampNeg x5)))), some (ax_i (x5 + (1 : Int32)))] [] σ) : ax_W shM (d + 1) mX12_tryCouples Q 14 [some (ax_r 0), none, none, some (ax_i x3), some (ax_i x4), some (ax_i x5)] [] σ := by
  refine ax_iload (q := 16) dX12_tryCouples_14 rfl rfl ?_
  refine ax_aload_n (q := 17) (i := 0) dX12_tryCouples_16 rfl rfl rfl ?_
  refine ax_get (q := 20) (k := 0) (j := 23) (v := ax_i (σ.1 0 23)) dX12_tryCouples_17 rfl shM_0 rfl rfl rfl (by decide) fl_X12_271 ?_
  refine ax_icmp_ge (tgt := 44) (q := 23) dX12_tryCouples_20 (by decide) rfl (fun c1 => ?_) (fun c1 => ?_)
  · refine ax_aload_n (q := 45) (i := 0) dX12_tryCouples_44 rfl rfl rfl ?_
    refine ax_get (q := 48) (k := 0) (j := 40) (v := ax_i (σ.1 0 40)) dX12_tryCouples_45 rfl shM_0 rfl rfl rfl (by decide) fl_X12_407 ?_
    refine ax_iconst (q := 49) dX12_tryCouples_48 rfl ki_m1 ?_
    refine ax_icmp_eq (tgt := 77) (q := 52) dX12_tryCouples_49 (by decide) rfl (fun c2 => ?_) (fun c2 => ?_)
    · refine ax_aload_n (q := 78) (i := 0) dX12_tryCouples_77 rfl rfl rfl ?_
      refine ax_iload (q := 80) dX12_tryCouples_78 rfl rfl ?_
      refine ax_puti (q := 83) (k := 0) (j := 40) dX12_tryCouples_80 rfl shM_0 rfl rfl (by decide) fl_X12_407 rfl rfl rfl rfl ?_
      refine ax_aload_n (q := 84) (i := 0) dX12_tryCouples_83 rfl rfl rfl ?_
      refine ax_iload_n (q := 85) (i := 3) dX12_tryCouples_84 rfl rfl rfl ?_
      refine ax_puti (q := 88) (k := 0) (j := 41) dX12_tryCouples_85 rfl shM_0 rfl rfl (by decide) fl_X12_410 rfl rfl rfl rfl ?_
      exact ax_vret dX12_tryCouples_88 rfl (k1 c1 c2)
    · refine ax_iload_n (q := 53) (i := 3) dX12_tryCouples_52 rfl rfl rfl ?_
      refine ax_aload_n (q := 54) (i := 0) dX12_tryCouples_53 rfl rfl rfl ?_
      refine ax_get (q := 57) (k := 0) (j := 41) (v := ax_i (σ.1 0 41)) dX12_tryCouples_54 rfl shM_0 rfl rfl rfl (by decide) fl_X12_410 ?_
      refine ax_icmp_lt (tgt := 77) (q := 60) dX12_tryCouples_57 (by decide) rfl (fun c3 => ?_) (fun c3 => ?_)
      · refine ax_aload_n (q := 78) (i := 0) dX12_tryCouples_77 rfl rfl rfl ?_
        refine ax_iload (q := 80) dX12_tryCouples_78 rfl rfl ?_
        refine ax_puti (q := 83) (k := 0) (j := 40) dX12_tryCouples_80 rfl shM_0 rfl rfl (by decide) fl_X12_407 rfl rfl rfl rfl ?_
        refine ax_aload_n (q := 84) (i := 0) dX12_tryCouples_83 rfl rfl rfl ?_
        refine ax_iload_n (q := 85) (i := 3) dX12_tryCouples_84 rfl rfl rfl ?_
        refine ax_puti (q := 88) (k := 0) (j := 41) dX12_tryCouples_85 rfl shM_0 rfl rfl (by decide) fl_X12_410 rfl rfl rfl rfl ?_
        exact ax_vret dX12_tryCouples_88 rfl (k2 c1 c2 c3)
      · refine ax_iload_n (q := 61) (i := 3) dX12_tryCouples_60 rfl rfl rfl ?_
        refine ax_aload_n (q := 62) (i := 0) dX12_tryCouples_61 rfl rfl rfl ?_
        refine ax_get (q := 65) (k := 0) (j := 41) (v := ax_i (σ.1 0 41)) dX12_tryCouples_62 rfl shM_0 rfl rfl rfl (by decide) fl_X12_410 ?_
        refine ax_icmp_ne (tgt := 88) (q := 68) dX12_tryCouples_65 (by decide) rfl (fun c4 => ?_) (fun c4 => ?_)
        · exact ax_vret dX12_tryCouples_88 rfl (k3 c1 c2 c3 c4)
        · refine ax_iload (q := 70) dX12_tryCouples_68 rfl rfl ?_
          refine ax_aload_n (q := 71) (i := 0) dX12_tryCouples_70 rfl rfl rfl ?_
          refine ax_get (q := 74) (k := 0) (j := 40) (v := ax_i (σ.1 0 40)) dX12_tryCouples_71 rfl shM_0 rfl rfl rfl (by decide) fl_X12_407 ?_
          refine ax_icmp_ge (tgt := 88) (q := 77) dX12_tryCouples_74 (by decide) rfl (fun c5 => ?_) (fun c5 => ?_)
          · exact ax_vret dX12_tryCouples_88 rfl (k4 c1 c2 c3 c4 c5)
          · refine ax_aload_n (q := 78) (i := 0) dX12_tryCouples_77 rfl rfl rfl ?_
            refine ax_iload (q := 80) dX12_tryCouples_78 rfl rfl ?_
            refine ax_puti (q := 83) (k := 0) (j := 40) dX12_tryCouples_80 rfl shM_0 rfl rfl (by decide) fl_X12_407 rfl rfl rfl rfl ?_
            refine ax_aload_n (q := 84) (i := 0) dX12_tryCouples_83 rfl rfl rfl ?_
            refine ax_iload_n (q := 85) (i := 3) dX12_tryCouples_84 rfl rfl rfl ?_
            refine ax_puti (q := 88) (k := 0) (j := 41) dX12_tryCouples_85 rfl shM_0 rfl rfl (by decide) fl_X12_410 rfl rfl rfl rfl ?_
            exact ax_vret dX12_tryCouples_88 rfl (k5 c1 c2 c3 c4 c5)
  · refine ax_bipush (q := 25) dX12_tryCouples_23 rfl kb_10 ?_
    refine ax_iload (q := 27) dX12_tryCouples_25 rfl rfl ?_
    refine ax_imul (q := 28) dX12_tryCouples_27 rfl ?_
    refine ax_aload_n (q := 29) (i := 0) dX12_tryCouples_28 rfl rfl rfl ?_
    refine ax_get (q := 32) (k := 0) (j := 39) (v := ax_r 22) dX12_tryCouples_29 rfl shM_0 rfl rfl rfl (by decide) fl_X12_80 ?_
    refine ax_iload (q := 34) dX12_tryCouples_32 rfl rfl ?_
    refine ax_iald (q := 35) (a := (Int32.toNatClampNeg x5)) (v := (σ.1 22 (Int32.toNatClampNeg x5))) dX12_tryCouples_34 rfl shM_22 (h6 c1) rfl rfl ?_
    refine ax_iadd (q := 36) dX12_tryCouples_35 rfl ?_
    refine ax_istore (q := 38) (lv2 := [some (ax_r 0), none, none, some (ax_i x3), some (ax_i (((10 : Int32) * x4) + (σ.1 22 (Int32.toNatClampNeg x5)))), some (ax_i x5)]) dX12_tryCouples_36 rfl (by decide) rfl rfl ?_
    refine ax_iincK (q := 41) (lv2 := [some (ax_r 0), none, none, some (ax_i x3), some (ax_i (((10 : Int32) * x4) + (σ.1 22 (Int32.toNatClampNeg x5)))), some (ax_i (x5 + (1 : Int32)))]) dX12_tryCouples_38 rfl rfl ki_1 (by decide) rfl rfl ?_
    refine ax_goto (tgt := 14) dX12_tryCouples_41 (by decide) ?_
    exact (k7 c1)
set_option maxRecDepth 20000 in
theorem s_X12_tryCouples_141 {d : Nat} (hd : 2 ≤ d) {Q : Option ax_V → ax_S → Prop} (σ : ax_S) (x1 : Int32) (x2 : Int32) (x3 : Int32) (x4 : Int32) (k1 : ((σ.1 0 23) ≤ x4) → Q none σ) (h2 : (¬ ((σ.1 0 23) ≤ x4)) → vp_in x4 8) (k3 : (¬ ((σ.1 0 23) ≤ x4)) → (¬ (σ.1 22 (Int32.toNatClampNeg x4)) = (-1 : Int32)) → ax_W shM (d + 1) mX12_tryCouples Q 141 [some (ax_r 0), some (ax_i x1), some (ax_i x2), some (ax_i x3), some (ax_i (x4 + (1 : Int32))), none] [] σ) (h4 : (¬ ((σ.1 0 23) ≤ x4)) → (¬ (¬ (σ.1 22 (Int32.toNatClampNeg x4)) = (-1 : Int32))) → vp_in (((4 : Int32) * x1) + (3 : Int32)) 32) (h5 : (¬ ((σ.1 0 23) ≤ x4)) → (¬ (¬ (σ.1 22 (Int32.toNatClampNeg x4)) = (-1 : Int32))) → (¬ (¬ (σ.1 14 (Int32.toNatClampNeg (((4 : Int32) * x1) + (3 : Int32)))) = (2 : Int32))) → vp_in (((4 : Int32) * x4) + (3 : Int32)) 32) (k6 : (¬ ((σ.1 0 23) ≤ x4)) → (¬ (¬ (σ.1 22 (Int32.toNatClampNeg x4)) = (-1 : Int32))) → ((¬ (¬ (σ.1 14 (Int32.toNatClampNeg (((4 : Int32) * x1) + (3 : Int32)))) = (2 : Int32))) ∧ (¬ (¬ (σ.1 14 (Int32.toNatClampNeg (((4 : Int32) * x4) + (3 : Int32)))) = (2 : Int32)))) → ax_W shM (d + 1) mX12_tryCouples Q 141 [some (ax_r 0), some (ax_i x1), some (ax_i x2), some (ax_i x3), some (ax_i (x4 + (1 : Int32))), none] [] σ) (h7 : (¬ ((σ.1 0 23) ≤ x4)) → (¬ (¬ (σ.1 22 (Int32.toNatClampNeg x4)) = (-1 : Int32))) → (¬ ((¬ (¬ (σ.1 14 (Int32.toNatClampNeg (((4 : Int32) * x1) + (3 : Int32)))) = (2 : Int32))) ∧ (¬ (¬ (σ.1 14 (Int32.toNatClampNeg (((4 : Int32) * x4) + (3 : Int32)))) = (2 : Int32))))) → vp_in x1 8) (h8 : (¬ ((σ.1 0 23) ≤ x4)) → (¬ (¬ (σ.1 22 (Int32.toNatClampNeg x4)) = (-1 : Int32))) → (¬ ((¬ (¬ (σ.1 14 (Int32.toNatClampNeg (((4 : Int32) * x1) + (3 : Int32)))) = (2 : Int32))) ∧ (¬ (¬ (σ.1 14 (Int32.toNatClampNeg (((4 : Int32) * x4) + (3 : Int32)))) = (2 : Int32))))) → vp_in x4 8) (h9 : (¬ ((σ.1 0 23) ≤ x4)) → (¬ (¬ (σ.1 22 (Int32.toNatClampNeg x4)) = (-1 : Int32))) → (¬ ((¬ (¬ (σ.1 14 (Int32.toNatClampNeg (((4 : Int32) * x1) + (3 : Int32)))) = (2 : Int32))) ∧ (¬ (¬ (σ.1 14 (Int32.toNatClampNeg (((4 : Int32) * x4) + (3 : Int32)))) = (2 : Int32))))) → vp_in (((4 : Int32) * x1) + (0 : Int32)) 32) (h10 : (¬ ((σ.1 0 23) ≤ x4)) → (¬ (¬ (σ.1 22 (Int32.toNatClampNeg x4)) = (-1 : Int32))) → (¬ ((¬ (¬ (σ.1 14 (Int32.toNatClampNeg (((4 : Int32) * x1) + (3 : Int32)))) = (2 : Int32))) ∧ (¬ (¬ (σ.1 14 (Int32.toNatClampNeg (((4 : Int32) * x4) + (3 : Int32)))) = (2 : Int32))))) → vp_in (((4 : Int32) * x4) + (0 : Int32)) 32) (k11 : (¬ ((σ.1 0 23) ≤ x4)) → (¬ (¬ (σ.1 22 (Int32.toNatClampNeg x4)) = (-1 : Int32))) → (¬ ((¬ (¬ (σ.1 14 (Int32.toNatClampNeg (((4 : Int32) * x1) + (3 : Int32)))) = (2 : Int32))) ∧ (¬ (¬ (σ.1 14 (Int32.toNatClampNeg (((4 : Int32) * x4) + (3 : Int32)))) = (2 : Int32))))) → ax_Ct shM d mX12_tryCouples [ax_r 0, ax_i (x1 + (1 : Int32)), ax_i x2, ax_i (x3 + (if (0 : Int32) ≤ ((σ.1 14 (Int32.toNatClampNeg (((4 : Int32) * x1) + (0 : Int32)))) - (σ.1 14 (Int32.toNatClampNeg (((4 : Int32) * x4) + (0 : Int32))))) then ((σ.1 14 (Int32.toNatClampNeg (((4 : Int32) * x1) + (0 : Int32)))) - (σ.1 14 (Int32.toNatClampNeg (((4 : Int32) * x4) + (0 : Int32))))) else 0 - ((σ.1 14 (Int32.toNatClampNeg (((4 : Int32) * x1) + (0 : Int32)))) - (σ.1 14 (Int32.toNatClampNeg (((4 : Int32) * x4) + (0 : Int32)))))))] (fun r u => r = none ∧ ax_W shM (d + 1) mX12_tryCouples Q 204 [some (ax_r 0), some (ax_i x1), some (ax_i x2), some (ax_i x3), some (ax_i x4), none] [] u) (ax_ui (ax_ui σ 22 (Int32.toNatClampNeg x1) x4) 22 (Int32.toNatClampNeg x4) x1)) : ax_W shM (d + 1) mX12_tryCouples Q 141 [some (ax_r 0), some (ax_i x1), some (ax_i x2), some (ax_i x3), some (ax_i x4), none] [] σ := by
  refine ax_iload (q := 143) dX12_tryCouples_141 rfl rfl ?_
  refine ax_aload_n (q := 144) (i := 0) dX12_tryCouples_143 rfl rfl rfl ?_
  refine ax_get (q := 147) (k := 0) (j := 23) (v := ax_i (σ.1 0 23)) dX12_tryCouples_144 rfl shM_0 rfl rfl rfl (by decide) fl_X12_271 ?_
  refine ax_icmp_ge (tgt := 225) (q := 150) dX12_tryCouples_147 (by decide) rfl (fun c1 => ?_) (fun c1 => ?_)
  · exact ax_vret dX12_tryCouples_225 rfl (k1 c1)
  · refine ax_aload_n (q := 151) (i := 0) dX12_tryCouples_150 rfl rfl rfl ?_
    refine ax_get (q := 154) (k := 0) (j := 39) (v := ax_r 22) dX12_tryCouples_151 rfl shM_0 rfl rfl rfl (by decide) fl_X12_80 ?_
    refine ax_iload (q := 156) dX12_tryCouples_154 rfl rfl ?_
    refine ax_iald (q := 157) (a := (Int32.toNatClampNeg x4)) (v := (σ.1 22 (Int32.toNatClampNeg x4))) dX12_tryCouples_156 rfl shM_22 (h2 c1) rfl rfl ?_
    refine ax_iconst (q := 158) dX12_tryCouples_157 rfl ki_m1 ?_
    refine ax_icmp_ne (tgt := 219) (q := 161) dX12_tryCouples_158 (by decide) rfl (fun c2 => ?_) (fun c2 => ?_)
    · refine ax_iincK (q := 222) (lv2 := [some (ax_r 0), some (ax_i x1), some (ax_i x2), some (ax_i x3), some (ax_i (x4 + (1 : Int32))), none]) dX12_tryCouples_219 rfl rfl ki_1 (by decide) rfl rfl ?_
      refine ax_goto (tgt := 141) dX12_tryCouples_222 (by decide) ?_
      exact (k3 c1 c2)
    · refine ax_aload_n (q := 162) (i := 0) dX12_tryCouples_161 rfl rfl rfl ?_
      refine ax_iload_n (q := 163) (i := 1) dX12_tryCouples_162 rfl rfl rfl ?_
      refine ax_iload (q := 165) dX12_tryCouples_163 rfl rfl ?_
      refine ax_callVfi (q := 168) (As := [ax_i x1, ax_i x4]) (st := []) (x := (if ((¬ (¬ (σ.1 14 (Int32.toNatClampNeg (((4 : Int32) * x1) + (3 : Int32)))) = (2 : Int32))) ∧ (¬ (¬ (σ.1 14 (Int32.toNatClampNeg (((4 : Int32) * x4) + (3 : Int32)))) = (2 : Int32)))) then (1 : Int32) else 0)) (σ2 := σ) dX12_tryCouples_165 rfl lk_X12_369 shM_0 rfl rfl rfl rfl (Nat.le_of_ble_eq_true rfl) (f_X12_areChapels σ x1 x4 (h4 c1 c2) (h5 c1 c2) (d := d) (by omega)) ?_
      refine ax_if_neB (tgt := 219) (q := 171) dX12_tryCouples_168 (by decide) rfl (fun c3 => ?_) (fun c3 => ?_)
      · refine ax_iincK (q := 222) (lv2 := [some (ax_r 0), some (ax_i x1), some (ax_i x2), some (ax_i x3), some (ax_i (x4 + (1 : Int32))), none]) dX12_tryCouples_219 rfl rfl ki_1 (by decide) rfl rfl ?_
        refine ax_goto (tgt := 141) dX12_tryCouples_222 (by decide) ?_
        exact (k6 c1 c2 c3)
      · refine ax_aload_n (q := 172) (i := 0) dX12_tryCouples_171 rfl rfl rfl ?_
        refine ax_get (q := 175) (k := 0) (j := 39) (v := ax_r 22) dX12_tryCouples_172 rfl shM_0 rfl rfl rfl (by decide) fl_X12_80 ?_
        refine ax_iload_n (q := 176) (i := 1) dX12_tryCouples_175 rfl rfl rfl ?_
        refine ax_iload (q := 178) dX12_tryCouples_176 rfl rfl ?_
        refine ax_iast (q := 179) (a := (Int32.toNatClampNeg x1)) dX12_tryCouples_178 rfl shM_22 (h7 c1 c2 c3) rfl ?_
        refine ax_aload_n (q := 180) (i := 0) dX12_tryCouples_179 rfl rfl rfl ?_
        refine ax_get (q := 183) (k := 0) (j := 39) (v := ax_r 22) dX12_tryCouples_180 rfl shM_0 rfl rfl rfl (by decide) fl_X12_80 ?_
        refine ax_iload (q := 185) dX12_tryCouples_183 rfl rfl ?_
        refine ax_iload_n (q := 186) (i := 1) dX12_tryCouples_185 rfl rfl rfl ?_
        refine ax_iast (q := 187) (a := (Int32.toNatClampNeg x4)) dX12_tryCouples_186 rfl shM_22 (h8 c1 c2 c3) rfl ?_
        refine ax_aload_n (q := 188) (i := 0) dX12_tryCouples_187 rfl rfl rfl ?_
        refine ax_iload_n (q := 189) (i := 1) dX12_tryCouples_188 rfl rfl rfl ?_
        refine ax_iconst (q := 190) dX12_tryCouples_189 rfl ki_1 ?_
        refine ax_iadd (q := 191) dX12_tryCouples_190 rfl ?_
        refine ax_iload_n (q := 192) (i := 2) dX12_tryCouples_191 rfl rfl rfl ?_
        refine ax_iload_n (q := 193) (i := 3) dX12_tryCouples_192 rfl rfl rfl ?_
        refine ax_aload_n (q := 194) (i := 0) dX12_tryCouples_193 rfl rfl rfl ?_
        refine ax_iload_n (q := 195) (i := 1) dX12_tryCouples_194 rfl rfl rfl ?_
        refine ax_iload (q := 197) dX12_tryCouples_195 rfl rfl ?_
        refine ax_callVfi (q := 200) (As := [ax_i x1, ax_i x4]) (st := [ax_i x3, ax_i x2, ax_i (x1 + (1 : Int32)), ax_r 0]) (x := (if (0 : Int32) ≤ ((σ.1 14 (Int32.toNatClampNeg (((4 : Int32) * x1) + (0 : Int32)))) - (σ.1 14 (Int32.toNatClampNeg (((4 : Int32) * x4) + (0 : Int32))))) then ((σ.1 14 (Int32.toNatClampNeg (((4 : Int32) * x1) + (0 : Int32)))) - (σ.1 14 (Int32.toNatClampNeg (((4 : Int32) * x4) + (0 : Int32))))) else 0 - ((σ.1 14 (Int32.toNatClampNeg (((4 : Int32) * x1) + (0 : Int32)))) - (σ.1 14 (Int32.toNatClampNeg (((4 : Int32) * x4) + (0 : Int32))))))) (σ2 := (ax_ui (ax_ui σ 22 (Int32.toNatClampNeg x1) x4) 22 (Int32.toNatClampNeg x4) x1)) dX12_tryCouples_197 rfl lk_X12_363 shM_0 rfl rfl rfl rfl (Nat.le_of_ble_eq_true rfl) (f_X12_farOf (ax_ui (ax_ui σ 22 (Int32.toNatClampNeg x1) x4) 22 (Int32.toNatClampNeg x4) x1) x1 x4 (h9 c1 c2 c3) (h10 c1 c2 c3) (d := d) (by omega)) ?_
        refine ax_iadd (q := 201) dX12_tryCouples_200 rfl ?_
        exact ax_callVcv (q := 204) (As := [ax_i (x1 + (1 : Int32)), ax_i x2, ax_i (x3 + (if (0 : Int32) ≤ ((σ.1 14 (Int32.toNatClampNeg (((4 : Int32) * x1) + (0 : Int32)))) - (σ.1 14 (Int32.toNatClampNeg (((4 : Int32) * x4) + (0 : Int32))))) then ((σ.1 14 (Int32.toNatClampNeg (((4 : Int32) * x1) + (0 : Int32)))) - (σ.1 14 (Int32.toNatClampNeg (((4 : Int32) * x4) + (0 : Int32))))) else 0 - ((σ.1 14 (Int32.toNatClampNeg (((4 : Int32) * x1) + (0 : Int32)))) - (σ.1 14 (Int32.toNatClampNeg (((4 : Int32) * x4) + (0 : Int32)))))))]) (st := []) dX12_tryCouples_201 rfl lk_X12_413 shM_0 rfl rfl rfl rfl (Nat.le_of_ble_eq_true rfl) (k11 c1 c2 c3)
set_option maxRecDepth 20000 in
theorem s_X12_tryCouples_204 {d : Nat} (hd : 0 ≤ d) {Q : Option ax_V → ax_S → Prop} (σ : ax_S) (x1 : Int32) (x2 : Int32) (x3 : Int32) (x4 : Int32) (h1 : vp_in x1 8) (h2 : vp_in x4 8) (k3 : ax_W shM (d + 1) mX12_tryCouples Q 141 [some (ax_r 0), some (ax_i x1), some (ax_i x2), some (ax_i x3), some (ax_i (x4 + (1 : Int32))), none] [] (ax_ui (ax_ui σ 22 (Int32.toNatClampNeg x1) (-1 : Int32)) 22 (Int32.toNatClampNeg x4) (-1 : Int32))) : ax_W shM (d + 1) mX12_tryCouples Q 204 [some (ax_r 0), some (ax_i x1), some (ax_i x2), some (ax_i x3), some (ax_i x4), none] [] σ := by
  refine ax_aload_n (q := 205) (i := 0) dX12_tryCouples_204 rfl rfl rfl ?_
  refine ax_get (q := 208) (k := 0) (j := 39) (v := ax_r 22) dX12_tryCouples_205 rfl shM_0 rfl rfl rfl (by decide) fl_X12_80 ?_
  refine ax_iload_n (q := 209) (i := 1) dX12_tryCouples_208 rfl rfl rfl ?_
  refine ax_iconst (q := 210) dX12_tryCouples_209 rfl ki_m1 ?_
  refine ax_iast (q := 211) (a := (Int32.toNatClampNeg x1)) dX12_tryCouples_210 rfl shM_22 h1 rfl ?_
  refine ax_aload_n (q := 212) (i := 0) dX12_tryCouples_211 rfl rfl rfl ?_
  refine ax_get (q := 215) (k := 0) (j := 39) (v := ax_r 22) dX12_tryCouples_212 rfl shM_0 rfl rfl rfl (by decide) fl_X12_80 ?_
  refine ax_iload (q := 217) dX12_tryCouples_215 rfl rfl ?_
  refine ax_iconst (q := 218) dX12_tryCouples_217 rfl ki_m1 ?_
  refine ax_iast (q := 219) (a := (Int32.toNatClampNeg x4)) dX12_tryCouples_218 rfl shM_22 h2 rfl ?_
  refine ax_iincK (q := 222) (lv2 := [some (ax_r 0), some (ax_i x1), some (ax_i x2), some (ax_i x3), some (ax_i (x4 + (1 : Int32))), none]) dX12_tryCouples_219 rfl rfl ki_1 (by decide) rfl rfl ?_
  refine ax_goto (tgt := 141) dX12_tryCouples_222 (by decide) ?_
  exact k3
set_option maxRecDepth 20000 in
theorem s_X12_couples_0 {d : Nat} (hd : 1 ≤ d) {Q : Option ax_V → ax_S → Prop} (σ : ax_S) (a0 : Int32) (k1 : ((σ.1 0 23) = 0) → Q (some (ax_i (-1 : Int32))) σ) (k2 : (¬ ((σ.1 0 23) = 0)) → ((¬ (a0 < (0 : Int32))) ∧ (¬ ((1 : Int32) < a0))) → ax_W shM (d + 1) mX12_couples Q 20 [some (ax_r 0), some (ax_i a0), some (ax_i (0 : Int32))] [] σ) (k3 : (¬ ((σ.1 0 23) = 0)) → (¬ ((¬ (a0 < (0 : Int32))) ∧ (¬ ((1 : Int32) < a0)))) → Q (some (ax_i (-1 : Int32))) σ) : ax_W shM (d + 1) mX12_couples Q 0 [some (ax_r 0), some (ax_i a0), none] [] σ := by
  refine ax_aload_n (q := 1) (i := 0) dX12_couples_0 rfl rfl rfl ?_
  refine ax_get (q := 4) (k := 0) (j := 23) (v := ax_i (σ.1 0 23)) dX12_couples_1 rfl shM_0 rfl rfl rfl (by decide) fl_X12_271 ?_
  refine ax_if_eq (tgt := 16) (q := 7) dX12_couples_4 (by decide) rfl (fun c1 => ?_) (fun c1 => ?_)
  · refine ax_iconst (q := 17) dX12_couples_16 rfl ki_m1 ?_
    exact ax_iret dX12_couples_17 rfl rfl (k1 c1)
  · refine ax_iload_n (q := 8) (i := 1) dX12_couples_7 rfl rfl rfl ?_
    refine ax_iconst (q := 9) dX12_couples_8 rfl ki_0 ?_
    refine ax_iconst (q := 10) dX12_couples_9 rfl ki_1 ?_
    refine ax_callSfi (q := 13) (As := [ax_i a0, ax_i (0 : Int32), ax_i (1 : Int32)]) (st := []) (x := (if ((¬ (a0 < (0 : Int32))) ∧ (¬ ((1 : Int32) < a0))) then (1 : Int32) else 0)) (σ2 := σ) dX12_couples_10 rfl lk_X12_223 rfl rfl (Nat.le_of_ble_eq_true rfl) (f_X12_in (sh := shM) σ a0 (0 : Int32) (1 : Int32)  (d := d) (by omega)) ?_
    refine ax_if_neB (tgt := 18) (q := 16) dX12_couples_13 (by decide) rfl (fun c2 => ?_) (fun c2 => ?_)
    · refine ax_iconst (q := 19) dX12_couples_18 rfl ki_0 ?_
      refine ax_istore_n (q := 20) (i := 2) (lv2 := [some (ax_r 0), some (ax_i a0), some (ax_i (0 : Int32))]) dX12_couples_19 rfl rfl (by decide) rfl rfl ?_
      exact (k2 c1 c2)
    · refine ax_iconst (q := 17) dX12_couples_16 rfl ki_m1 ?_
      exact ax_iret dX12_couples_17 rfl rfl (k3 c1 c2)
set_option maxRecDepth 20000 in
theorem s_X12_couples_20 {d : Nat} (hd : 0 ≤ d) {Q : Option ax_V → ax_S → Prop} (σ : ax_S) (x1 : Int32) (x2 : Int32) (k1 : ((8 : Int32) ≤ x2) → ax_Ct shM d mX12_tryCouples [ax_r 0, ax_i (0 : Int32), ax_i (if (¬ (¬ ((σ.1 0 23) - (σ.1 0 23) / (2 : Int32) * (2 : Int32)) = (1 : Int32))) then (1 : Int32) else 0), ax_i (0 : Int32)] (fun r u => r = none ∧ ax_W shM (d + 1) mX12_couples Q 70 [some (ax_r 0), some (ax_i x1), none] [] u) (ax_ui (ax_ui σ 0 40 (-1 : Int32)) 0 41 (0 : Int32))) (h2 : (¬ ((8 : Int32) ≤ x2)) → vp_in x2 8) (k3 : (¬ ((8 : Int32) ≤ x2)) → ax_W shM (d + 1) mX12_couples Q 20 [some (ax_r 0), some (ax_i x1), some (ax_i (x2 + (1 : Int32)))] [] (ax_ui σ 22 (Int32.toNatClampNeg x2) (-1 : Int32))) : ax_W shM (d + 1) mX12_couples Q 20 [some (ax_r 0), some (ax_i x1), some (ax_i x2)] [] σ := by
  refine ax_iload_n (q := 21) (i := 2) dX12_couples_20 rfl rfl rfl ?_
  refine ax_bipush (q := 23) dX12_couples_21 rfl kb_8 ?_
  refine ax_icmp_ge (tgt := 39) (q := 26) dX12_couples_23 (by decide) rfl (fun c1 => ?_) (fun c1 => ?_)
  · refine ax_aload_n (q := 40) (i := 0) dX12_couples_39 rfl rfl rfl ?_
    refine ax_iconst (q := 41) dX12_couples_40 rfl ki_m1 ?_
    refine ax_puti (q := 44) (k := 0) (j := 40) dX12_couples_41 rfl shM_0 rfl rfl (by decide) fl_X12_407 rfl rfl rfl rfl ?_
    refine ax_aload_n (q := 45) (i := 0) dX12_couples_44 rfl rfl rfl ?_
    refine ax_iconst (q := 46) dX12_couples_45 rfl ki_0 ?_
    refine ax_puti (q := 49) (k := 0) (j := 41) dX12_couples_46 rfl shM_0 rfl rfl (by decide) fl_X12_410 rfl rfl rfl rfl ?_
    refine ax_aload_n (q := 50) (i := 0) dX12_couples_49 rfl rfl rfl ?_
    refine ax_iconst (q := 51) dX12_couples_50 rfl ki_0 ?_
    refine ax_aload_n (q := 52) (i := 0) dX12_couples_51 rfl rfl rfl ?_
    refine ax_get (q := 55) (k := 0) (j := 23) (v := ax_i (σ.1 0 23)) dX12_couples_52 rfl shM_0 rfl rfl rfl (by decide) fl_X12_271 ?_
    refine ax_iconst (q := 56) dX12_couples_55 rfl ki_2 ?_
    refine ax_irem (q := 57) dX12_couples_56 rfl (by decide) ?_
    refine ax_iconst (q := 58) dX12_couples_57 rfl ki_1 ?_
    have K3 : ax_W shM (d + 1) mX12_couples Q 66 [some (ax_r 0), some (ax_i x1), some (ax_i x2)] [ax_i (if (¬ (¬ ((σ.1 0 23) - (σ.1 0 23) / (2 : Int32) * (2 : Int32)) = (1 : Int32))) then (1 : Int32) else 0), ax_i (0 : Int32), ax_r 0] (ax_ui (ax_ui σ 0 40 (-1 : Int32)) 0 41 (0 : Int32)) := by
      refine ax_iconst (q := 67) dX12_couples_66 rfl ki_0 ?_
      refine ax_fg (lv2 := [some (ax_r 0), some (ax_i x1), none]) ⟨rfl, rfl, trivial⟩ ?_
      exact ax_callVcv (q := 70) (As := [ax_i (0 : Int32), ax_i (if (¬ (¬ ((σ.1 0 23) - (σ.1 0 23) / (2 : Int32) * (2 : Int32)) = (1 : Int32))) then (1 : Int32) else 0), ax_i (0 : Int32)]) (st := []) dX12_couples_67 rfl lk_X12_413 shM_0 rfl rfl rfl rfl (Nat.le_of_ble_eq_true rfl) (k1 c1)
    refine ax_icmp_ne (tgt := 65) (q := 61) dX12_couples_58 (by decide) rfl (fun c2 => ?_) (fun c2 => ?_)
    · refine ax_iconst (q := 66) dX12_couples_65 rfl ki_0 ?_
      exact ax_cv (if_neg (fun y => y c2)) K3
    · refine ax_iconst (q := 62) dX12_couples_61 rfl ki_1 ?_
      refine ax_goto (tgt := 66) dX12_couples_62 (by decide) ?_
      exact ax_cv (if_pos c2) K3
  · refine ax_aload_n (q := 27) (i := 0) dX12_couples_26 rfl rfl rfl ?_
    refine ax_get (q := 30) (k := 0) (j := 39) (v := ax_r 22) dX12_couples_27 rfl shM_0 rfl rfl rfl (by decide) fl_X12_80 ?_
    refine ax_iload_n (q := 31) (i := 2) dX12_couples_30 rfl rfl rfl ?_
    refine ax_iconst (q := 32) dX12_couples_31 rfl ki_m1 ?_
    refine ax_iast (q := 33) (a := (Int32.toNatClampNeg x2)) dX12_couples_32 rfl shM_22 (h2 c1) rfl ?_
    refine ax_iincK (q := 36) (lv2 := [some (ax_r 0), some (ax_i x1), some (ax_i (x2 + (1 : Int32)))]) dX12_couples_33 rfl rfl ki_1 (by decide) rfl rfl ?_
    refine ax_goto (tgt := 20) dX12_couples_36 (by decide) ?_
    exact (k3 c1)
set_option maxRecDepth 20000 in
theorem s_X12_couples_70 {d : Nat} (hd : 0 ≤ d) {Q : Option ax_V → ax_S → Prop} (σ : ax_S) (x1 : Int32) (k1 : Q (some (ax_i (if ((σ.1 0 40) = (-1 : Int32)) then (σ.1 0 40) else (if (¬ x1 = (1 : Int32)) then (σ.1 0 41) else (σ.1 0 40))))) σ) : ax_W shM (d + 1) mX12_couples Q 70 [some (ax_r 0), some (ax_i x1), none] [] σ := by
  refine ax_aload_n (q := 71) (i := 0) dX12_couples_70 rfl rfl rfl ?_
  refine ax_get (q := 74) (k := 0) (j := 40) (v := ax_i (σ.1 0 40)) dX12_couples_71 rfl shM_0 rfl rfl rfl (by decide) fl_X12_407 ?_
  refine ax_iconst (q := 75) dX12_couples_74 rfl ki_m1 ?_
  have K3 : ax_W shM (d + 1) mX12_couples Q 94 [some (ax_r 0), some (ax_i x1), none] [ax_i (if ((σ.1 0 40) = (-1 : Int32)) then (σ.1 0 40) else (if (¬ x1 = (1 : Int32)) then (σ.1 0 41) else (σ.1 0 40)))] σ := by
    exact ax_iret dX12_couples_94 rfl rfl k1
  refine ax_icmp_eq (tgt := 83) (q := 78) dX12_couples_75 (by decide) rfl (fun c1 => ?_) (fun c1 => ?_)
  · refine ax_aload_n (q := 84) (i := 0) dX12_couples_83 rfl rfl rfl ?_
    refine ax_get (q := 87) (k := 0) (j := 40) (v := ax_i (σ.1 0 40)) dX12_couples_84 rfl shM_0 rfl rfl rfl (by decide) fl_X12_407 ?_
    refine ax_goto (tgt := 94) dX12_couples_87 (by decide) ?_
    exact ax_cv (if_pos c1) K3
  · refine ax_iload_n (q := 79) (i := 1) dX12_couples_78 rfl rfl rfl ?_
    refine ax_iconst (q := 80) dX12_couples_79 rfl ki_1 ?_
    refine ax_icmp_ne (tgt := 90) (q := 83) dX12_couples_80 (by decide) rfl (fun c2 => ?_) (fun c2 => ?_)
    · refine ax_aload_n (q := 91) (i := 0) dX12_couples_90 rfl rfl rfl ?_
      refine ax_get (q := 94) (k := 0) (j := 41) (v := ax_i (σ.1 0 41)) dX12_couples_91 rfl shM_0 rfl rfl rfl (by decide) fl_X12_410 ?_
      exact ax_cv ((if_neg c1).trans (if_pos c2)) K3
    · refine ax_aload_n (q := 84) (i := 0) dX12_couples_83 rfl rfl rfl ?_
      refine ax_get (q := 87) (k := 0) (j := 40) (v := ax_i (σ.1 0 40)) dX12_couples_84 rfl shM_0 rfl rfl rfl (by decide) fl_X12_407 ?_
      refine ax_goto (tgt := 94) dX12_couples_87 (by decide) ?_
      exact ax_cv ((if_neg c1).trans (if_neg c2)) K3
set_option maxRecDepth 20000 in
theorem s_X12_burnMany_0 {d : Nat} (hd : 0 ≤ d) {Q : Option ax_V → ax_S → Prop} (σ : ax_S) (a0 : Int32) (a1 : Int32) (k1 : ax_Ct shM d mX12_burningBy [ax_r 0, ax_i a0, ax_i a1] (fun r u => ∃ x : Int32, r = some (ax_i x) ∧ ax_W shM (d + 1) mX12_burnMany Q 6 [none, none, none] (ax_i x :: []) u) σ) : ax_W shM (d + 1) mX12_burnMany Q 0 [some (ax_r 0), some (ax_i a0), some (ax_i a1)] [] σ := by
  refine ax_aload_n (q := 1) (i := 0) dX12_burnMany_0 rfl rfl rfl ?_
  refine ax_iload_n (q := 2) (i := 1) dX12_burnMany_1 rfl rfl rfl ?_
  refine ax_iload_n (q := 3) (i := 2) dX12_burnMany_2 rfl rfl rfl ?_
  refine ax_fg (lv2 := [none, none, none]) trivial ?_
  exact ax_callVci (q := 6) (As := [ax_i a0, ax_i a1]) (st := []) dX12_burnMany_3 rfl lk_X12_348 shM_0 rfl rfl rfl rfl (Nat.le_of_ble_eq_true rfl) k1
set_option maxRecDepth 20000 in
theorem s_X12_burnMany_6 {d : Nat} (hd : 1 ≤ d) {Q : Option ax_V → ax_S → Prop} (σ : ax_S) (rr : Int32) (k1 : Q (some (ax_i (v_J6_bitCount_0f7a4 rr))) σ) : ax_W shM (d + 1) mX12_burnMany Q 6 [none, none, none] [ax_i rr] σ := by
  refine ax_callSfi (q := 9) (As := [ax_i rr]) (st := []) (x := (v_J6_bitCount_0f7a4 rr)) (σ2 := σ) dX12_burnMany_6 rfl lk_X12_417 rfl rfl (Nat.le_of_ble_eq_true rfl) (f_J6_bitCount_0f7a4 (sh := shM) σ rr  (d := d) (by omega)) ?_
  exact ax_iret dX12_burnMany_9 rfl rfl k1
set_option maxRecDepth 20000 in
theorem s_X12_marry_0 {d : Nat} (hd : 2 ≤ d) {Q : Option ax_V → ax_S → Prop} (σ : ax_S) (a0 : Int32) (a1 : Int32) (a2 : Int32) (k1 : (¬ ((¬ (a0 < (0 : Int32))) ∧ (¬ (((σ.1 0 23) - (1 : Int32)) < a0)))) → Q (some (ax_i (-1 : Int32))) σ) (k2 : ((¬ (a0 < (0 : Int32))) ∧ (¬ (((σ.1 0 23) - (1 : Int32)) < a0))) → (¬ ((¬ (a1 < (1 : Int32))) ∧ (¬ ((999 : Int32) < a1)))) → Q (some (ax_i (-1 : Int32))) σ) (k3 : ((¬ (a0 < (0 : Int32))) ∧ (¬ (((σ.1 0 23) - (1 : Int32)) < a0))) → ((¬ (a1 < (1 : Int32))) ∧ (¬ ((999 : Int32) < a1))) → ((¬ (a2 < (0 : Int32))) ∧ (¬ ((1 : Int32) < a2))) → ax_W shM (d + 1) mX12_marry Q 35 [some (ax_r 0), some (ax_i a0), some (ax_i a1), some (ax_i a2), some (ax_i (-1 : Int32)), some (ax_i (0 : Int32)), some (ax_i (0 : Int32)), none, none] [] σ) (k4 : ((¬ (a0 < (0 : Int32))) ∧ (¬ (((σ.1 0 23) - (1 : Int32)) < a0))) → ((¬ (a1 < (1 : Int32))) ∧ (¬ ((999 : Int32) < a1))) → (¬ ((¬ (a2 < (0 : Int32))) ∧ (¬ ((1 : Int32) < a2)))) → Q (some (ax_i (-1 : Int32))) σ) : ax_W shM (d + 1) mX12_marry Q 0 [some (ax_r 0), some (ax_i a0), some (ax_i a1), some (ax_i a2), none, none, none, none, none] [] σ := by
  refine ax_aload_n (q := 1) (i := 0) dX12_marry_0 rfl rfl rfl ?_
  refine ax_iload_n (q := 2) (i := 1) dX12_marry_1 rfl rfl rfl ?_
  refine ax_callVfi (q := 5) (As := [ax_i a0]) (st := []) (x := (if ((¬ (a0 < (0 : Int32))) ∧ (¬ (((σ.1 0 23) - (1 : Int32)) < a0))) then (1 : Int32) else 0)) (σ2 := σ) dX12_marry_2 rfl lk_X12_342 shM_0 rfl rfl rfl rfl (Nat.le_of_ble_eq_true rfl) (f_X12_isHouse σ a0  (d := d) (by omega)) ?_
  refine ax_if_eqB (tgt := 24) (q := 8) dX12_marry_5 (by decide) rfl (fun c1 => ?_) (fun c1 => ?_)
  · refine ax_iconst (q := 25) dX12_marry_24 rfl ki_m1 ?_
    exact ax_iret dX12_marry_25 rfl rfl (k1 c1)
  · refine ax_iload_n (q := 9) (i := 2) dX12_marry_8 rfl rfl rfl ?_
    refine ax_callSfi (q := 12) (As := [ax_i a1]) (st := []) (x := (if ((¬ (a1 < (1 : Int32))) ∧ (¬ ((999 : Int32) < a1))) then (1 : Int32) else 0)) (σ2 := σ) dX12_marry_9 rfl lk_X12_351 rfl rfl (Nat.le_of_ble_eq_true rfl) (f_X12_isForce (sh := shM) σ a1  (d := d) (by omega)) ?_
    refine ax_if_eqB (tgt := 24) (q := 15) dX12_marry_12 (by decide) rfl (fun c2 => ?_) (fun c2 => ?_)
    · refine ax_iconst (q := 25) dX12_marry_24 rfl ki_m1 ?_
      exact ax_iret dX12_marry_25 rfl rfl (k2 c1 c2)
    · refine ax_iload_n (q := 16) (i := 3) dX12_marry_15 rfl rfl rfl ?_
      refine ax_iconst (q := 17) dX12_marry_16 rfl ki_0 ?_
      refine ax_iconst (q := 18) dX12_marry_17 rfl ki_1 ?_
      refine ax_callSfi (q := 21) (As := [ax_i a2, ax_i (0 : Int32), ax_i (1 : Int32)]) (st := []) (x := (if ((¬ (a2 < (0 : Int32))) ∧ (¬ ((1 : Int32) < a2))) then (1 : Int32) else 0)) (σ2 := σ) dX12_marry_18 rfl lk_X12_223 rfl rfl (Nat.le_of_ble_eq_true rfl) (f_X12_in (sh := shM) σ a2 (0 : Int32) (1 : Int32)  (d := d) (by omega)) ?_
      refine ax_if_neB (tgt := 26) (q := 24) dX12_marry_21 (by decide) rfl (fun c3 => ?_) (fun c3 => ?_)
      · refine ax_iconst (q := 27) dX12_marry_26 rfl ki_m1 ?_
        refine ax_istore (q := 29) (lv2 := [some (ax_r 0), some (ax_i a0), some (ax_i a1), some (ax_i a2), some (ax_i (-1 : Int32)), none, none, none, none]) dX12_marry_27 rfl (by decide) rfl rfl ?_
        refine ax_iconst (q := 30) dX12_marry_29 rfl ki_0 ?_
        refine ax_istore (q := 32) (lv2 := [some (ax_r 0), some (ax_i a0), some (ax_i a1), some (ax_i a2), some (ax_i (-1 : Int32)), some (ax_i (0 : Int32)), none, none, none]) dX12_marry_30 rfl (by decide) rfl rfl ?_
        refine ax_iconst (q := 33) dX12_marry_32 rfl ki_0 ?_
        refine ax_istore (q := 35) (lv2 := [some (ax_r 0), some (ax_i a0), some (ax_i a1), some (ax_i a2), some (ax_i (-1 : Int32)), some (ax_i (0 : Int32)), some (ax_i (0 : Int32)), none, none]) dX12_marry_33 rfl (by decide) rfl rfl ?_
        exact (k3 c1 c2 c3)
      · refine ax_iconst (q := 25) dX12_marry_24 rfl ki_m1 ?_
        exact ax_iret dX12_marry_25 rfl rfl (k4 c1 c2 c3)
set_option maxRecDepth 20000 in
theorem s_X12_marry_35 {d : Nat} (hd : 0 ≤ d) {Q : Option ax_V → ax_S → Prop} (σ : ax_S) (x1 : Int32) (x2 : Int32) (x3 : Int32) (x4 : Int32) (x5 : Int32) (x6 : Int32) (k1 : ((σ.1 0 23) ≤ x6) → Q (some (ax_i (if (x4 = (-1 : Int32)) then x4 else (if (¬ x3 = 0) then x5 else x4)))) σ) (k2 : (¬ ((σ.1 0 23) ≤ x6)) → ax_W shM (d + 1) mX12_marry Q 50 [some (ax_r 0), some (ax_i x1), some (ax_i x2), some (ax_i x3), some (ax_i x4), some (ax_i x5), some (ax_i x6), some (ax_i (x6 + (1 : Int32))), none] [] σ) : ax_W shM (d + 1) mX12_marry Q 35 [some (ax_r 0), some (ax_i x1), some (ax_i x2), some (ax_i x3), some (ax_i x4), some (ax_i x5), some (ax_i x6), none, none] [] σ := by
  refine ax_iload (q := 37) dX12_marry_35 rfl rfl ?_
  refine ax_aload_n (q := 38) (i := 0) dX12_marry_37 rfl rfl rfl ?_
  refine ax_get (q := 41) (k := 0) (j := 23) (v := ax_i (σ.1 0 23)) dX12_marry_38 rfl shM_0 rfl rfl rfl (by decide) fl_X12_271 ?_
  refine ax_icmp_ge (tgt := 139) (q := 44) dX12_marry_41 (by decide) rfl (fun c1 => ?_) (fun c1 => ?_)
  · refine ax_iload (q := 141) dX12_marry_139 rfl rfl ?_
    refine ax_iconst (q := 142) dX12_marry_141 rfl ki_m1 ?_
    have K4 : ax_W shM (d + 1) mX12_marry Q 156 [some (ax_r 0), some (ax_i x1), some (ax_i x2), some (ax_i x3), some (ax_i x4), some (ax_i x5), some (ax_i x6), none, none] [ax_i (if (x4 = (-1 : Int32)) then x4 else (if (¬ x3 = 0) then x5 else x4))] σ := by
      exact ax_iret dX12_marry_156 rfl rfl (k1 c1)
    refine ax_icmp_eq (tgt := 149) (q := 145) dX12_marry_142 (by decide) rfl (fun c2 => ?_) (fun c2 => ?_)
    · refine ax_iload (q := 151) dX12_marry_149 rfl rfl ?_
      refine ax_goto (tgt := 156) dX12_marry_151 (by decide) ?_
      exact ax_cv (if_pos c2) K4
    · refine ax_iload_n (q := 146) (i := 3) dX12_marry_145 rfl rfl rfl ?_
      refine ax_if_ne (tgt := 154) (q := 149) dX12_marry_146 (by decide) rfl (fun c3 => ?_) (fun c3 => ?_)
      · refine ax_iload (q := 156) dX12_marry_154 rfl rfl ?_
        exact ax_cv ((if_neg c2).trans (if_pos c3)) K4
      · refine ax_iload (q := 151) dX12_marry_149 rfl rfl ?_
        refine ax_goto (tgt := 156) dX12_marry_151 (by decide) ?_
        exact ax_cv ((if_neg c2).trans (if_neg c3)) K4
  · refine ax_iload (q := 46) dX12_marry_44 rfl rfl ?_
    refine ax_iconst (q := 47) dX12_marry_46 rfl ki_1 ?_
    refine ax_iadd (q := 48) dX12_marry_47 rfl ?_
    refine ax_istore (q := 50) (lv2 := [some (ax_r 0), some (ax_i x1), some (ax_i x2), some (ax_i x3), some (ax_i x4), some (ax_i x5), some (ax_i x6), some (ax_i (x6 + (1 : Int32))), none]) dX12_marry_48 rfl (by decide) rfl rfl ?_
    exact (k2 c1)
set_option maxRecDepth 20000 in
theorem s_X12_marry_50 {d : Nat} (hd : 0 ≤ d) {Q : Option ax_V → ax_S → Prop} (σ : ax_S) (x1 : Int32) (x2 : Int32) (x3 : Int32) (x4 : Int32) (x5 : Int32) (x6 : Int32) (x7 : Int32) (k1 : ((σ.1 0 23) ≤ x7) → ax_W shM (d + 1) mX12_marry Q 35 [some (ax_r 0), some (ax_i x1), some (ax_i x2), some (ax_i x3), some (ax_i x4), some (ax_i x5), some (ax_i (x6 + (1 : Int32))), none, none] [] σ) (k2 : (¬ ((σ.1 0 23) ≤ x7)) → ax_Ct shM d mX12_whyNot [ax_r 0, ax_i x6, ax_i x7] (fun r u => ∃ x : Int32, r = some (ax_i x) ∧ ax_W shM (d + 1) mX12_marry Q 67 [some (ax_r 0), some (ax_i x1), some (ax_i x2), some (ax_i x3), some (ax_i x4), some (ax_i x5), some (ax_i x6), some (ax_i x7), none] (ax_i x :: []) u) σ) : ax_W shM (d + 1) mX12_marry Q 50 [some (ax_r 0), some (ax_i x1), some (ax_i x2), some (ax_i x3), some (ax_i x4), some (ax_i x5), some (ax_i x6), some (ax_i x7), none] [] σ := by
  refine ax_iload (q := 52) dX12_marry_50 rfl rfl ?_
  refine ax_aload_n (q := 53) (i := 0) dX12_marry_52 rfl rfl rfl ?_
  refine ax_get (q := 56) (k := 0) (j := 23) (v := ax_i (σ.1 0 23)) dX12_marry_53 rfl shM_0 rfl rfl rfl (by decide) fl_X12_271 ?_
  refine ax_icmp_ge (tgt := 133) (q := 59) dX12_marry_56 (by decide) rfl (fun c1 => ?_) (fun c1 => ?_)
  · refine ax_iincK (q := 136) (lv2 := [some (ax_r 0), some (ax_i x1), some (ax_i x2), some (ax_i x3), some (ax_i x4), some (ax_i x5), some (ax_i (x6 + (1 : Int32))), some (ax_i x7), none]) dX12_marry_133 rfl rfl ki_1 (by decide) rfl rfl ?_
    refine ax_goto (tgt := 35) dX12_marry_136 (by decide) ?_
    refine ax_fg (lv2 := [some (ax_r 0), some (ax_i x1), some (ax_i x2), some (ax_i x3), some (ax_i x4), some (ax_i x5), some (ax_i (x6 + (1 : Int32))), none, none]) ⟨rfl, rfl, rfl, rfl, rfl, rfl, rfl, trivial⟩ ?_
    exact (k1 c1)
  · refine ax_aload_n (q := 60) (i := 0) dX12_marry_59 rfl rfl rfl ?_
    refine ax_iload (q := 62) dX12_marry_60 rfl rfl ?_
    refine ax_iload (q := 64) dX12_marry_62 rfl rfl ?_
    exact ax_callVci (q := 67) (As := [ax_i x6, ax_i x7]) (st := []) dX12_marry_64 rfl lk_X12_375 shM_0 rfl rfl rfl rfl (Nat.le_of_ble_eq_true rfl) (k2 c1)
set_option maxRecDepth 20000 in
theorem s_X12_marry_67 {d : Nat} (hd : 2 ≤ d) {Q : Option ax_V → ax_S → Prop} (σ : ax_S) (x1 : Int32) (x2 : Int32) (x3 : Int32) (x4 : Int32) (x5 : Int32) (x6 : Int32) (x7 : Int32) (rr : Int32) (k1 : (¬ rr = (-1 : Int32)) → ax_W shM (d + 1) mX12_marry Q 50 [some (ax_r 0), some (ax_i x1), some (ax_i x2), some (ax_i x3), some (ax_i x4), some (ax_i x5), some (ax_i x6), some (ax_i (x7 + (1 : Int32))), none] [] σ) (h2 : (¬ (¬ rr = (-1 : Int32))) → vp_in (((16 : Int32) + ((4 : Int32) * (σ.1 15 84))) + (0 : Int32)) 268) (h3 : (¬ (¬ rr = (-1 : Int32))) → vp_in (((16 : Int32) + ((4 : Int32) * (σ.1 15 84))) + (1 : Int32)) 268) (h4 : (¬ (¬ rr = (-1 : Int32))) → vp_in (((16 : Int32) + ((4 : Int32) * (σ.1 15 84))) + (2 : Int32)) 268) (h5 : (¬ (¬ rr = (-1 : Int32))) → vp_in (((16 : Int32) + ((4 : Int32) * (σ.1 15 84))) + (3 : Int32)) 268) (k6 : (¬ (¬ rr = (-1 : Int32))) → ax_Ct shM d mX12_burnMany [ax_r 0, ax_i x1, ax_i x2] (fun r u => ∃ x : Int32, r = some (ax_i x) ∧ ax_W shM (d + 1) mX12_marry Q 87 [some (ax_r 0), some (ax_i x1), some (ax_i x2), some (ax_i x3), some (ax_i x4), some (ax_i x5), some (ax_i x6), some (ax_i x7), none] (ax_i x :: []) u) (ax_ui (ax_ui (ax_ui (ax_ui (ax_ui σ 15 84 ((σ.1 15 84) + (1 : Int32))) 15 (Int32.toNatClampNeg (((16 : Int32) + ((4 : Int32) * (σ.1 15 84))) + (0 : Int32))) x6) 15 (Int32.toNatClampNeg (((16 : Int32) + ((4 : Int32) * (σ.1 15 84))) + (1 : Int32))) x7) 15 (Int32.toNatClampNeg (((16 : Int32) + ((4 : Int32) * (σ.1 15 84))) + (2 : Int32))) (0 : Int32)) 15 (Int32.toNatClampNeg (((16 : Int32) + ((4 : Int32) * (σ.1 15 84))) + (3 : Int32))) (0 : Int32))) : ax_W shM (d + 1) mX12_marry Q 67 [some (ax_r 0), some (ax_i x1), some (ax_i x2), some (ax_i x3), some (ax_i x4), some (ax_i x5), some (ax_i x6), some (ax_i x7), none] [ax_i rr] σ := by
  refine ax_iconst (q := 68) dX12_marry_67 rfl ki_m1 ?_
  refine ax_icmp_ne (tgt := 127) (q := 71) dX12_marry_68 (by decide) rfl (fun c1 => ?_) (fun c1 => ?_)
  · refine ax_iincK (q := 130) (lv2 := [some (ax_r 0), some (ax_i x1), some (ax_i x2), some (ax_i x3), some (ax_i x4), some (ax_i x5), some (ax_i x6), some (ax_i (x7 + (1 : Int32))), none]) dX12_marry_127 rfl rfl ki_1 (by decide) rfl rfl ?_
    refine ax_goto (tgt := 50) dX12_marry_130 (by decide) ?_
    exact (k1 c1)
  · refine ax_aload_n (q := 72) (i := 0) dX12_marry_71 rfl rfl rfl ?_
    refine ax_iload (q := 74) dX12_marry_72 rfl rfl ?_
    refine ax_iload (q := 76) dX12_marry_74 rfl rfl ?_
    refine ax_iconst (q := 77) dX12_marry_76 rfl ki_0 ?_
    refine ax_callVfi (q := 80) (As := [ax_i x6, ax_i x7, ax_i (0 : Int32)]) (st := []) (x := (σ.1 15 84)) (σ2 := (ax_ui (ax_ui (ax_ui (ax_ui (ax_ui σ 15 84 ((σ.1 15 84) + (1 : Int32))) 15 (Int32.toNatClampNeg (((16 : Int32) + ((4 : Int32) * (σ.1 15 84))) + (0 : Int32))) x6) 15 (Int32.toNatClampNeg (((16 : Int32) + ((4 : Int32) * (σ.1 15 84))) + (1 : Int32))) x7) 15 (Int32.toNatClampNeg (((16 : Int32) + ((4 : Int32) * (σ.1 15 84))) + (2 : Int32))) (0 : Int32)) 15 (Int32.toNatClampNeg (((16 : Int32) + ((4 : Int32) * (σ.1 15 84))) + (3 : Int32))) (0 : Int32))) dX12_marry_77 rfl lk_X12_280 shM_0 rfl rfl rfl rfl (Nat.le_of_ble_eq_true rfl) (f_X12_string σ x6 x7 (0 : Int32) (ax_inl 84 268 (by decide) (by decide)) (h2 c1) (h3 c1) (h4 c1) (h5 c1) (d := d) (by omega)) ?_
    refine ax_popi (q := 81) dX12_marry_80 rfl ?_
    refine ax_aload_n (q := 82) (i := 0) dX12_marry_81 rfl rfl rfl ?_
    refine ax_iload_n (q := 83) (i := 1) dX12_marry_82 rfl rfl rfl ?_
    refine ax_iload_n (q := 84) (i := 2) dX12_marry_83 rfl rfl rfl ?_
    exact ax_callVci (q := 87) (As := [ax_i x1, ax_i x2]) (st := []) dX12_marry_84 rfl lk_X12_422 shM_0 rfl rfl rfl rfl (Nat.le_of_ble_eq_true rfl) (k6 c1)
set_option maxRecDepth 20000 in
theorem s_X12_marry_87 {d : Nat} (hd : 0 ≤ d) {Q : Option ax_V → ax_S → Prop} (σ : ax_S) (x1 : Int32) (x2 : Int32) (x3 : Int32) (x4 : Int32) (x5 : Int32) (x6 : Int32) (x7 : Int32) (rr : Int32) (k1 : (x4 = (-1 : Int32)) → ax_W shM (d + 1) mX12_marry Q 50 [some (ax_r 0), some (ax_i x1), some (ax_i x2), some (ax_i x3), some (ax_i (((10 : Int32) * x6) + x7)), some (ax_i rr), some (ax_i x6), some (ax_i (x7 + (1 : Int32))), none] [] (ax_ui σ 15 84 ((σ.1 15 84) - (1 : Int32)))) (k2 : (¬ (x4 = (-1 : Int32))) → (x5 ≤ rr) → ax_W shM (d + 1) mX12_marry Q 50 [some (ax_r 0), some (ax_i x1), some (ax_i x2), some (ax_i x3), some (ax_i x4), some (ax_i x5), some (ax_i x6), some (ax_i (x7 + (1 : Int32))), none] [] (ax_ui σ 15 84 ((σ.1 15 84) - (1 : Int32)))) (k3 : (¬ (x4 = (-1 : Int32))) → (¬ (x5 ≤ rr)) → ax_W shM (d + 1) mX12_marry Q 50 [some (ax_r 0), some (ax_i x1), some (ax_i x2), some (ax_i x3), some (ax_i (((10 : Int32) * x6) + x7)), some (ax_i rr), some (ax_i x6), some (ax_i (x7 + (1 : Int32))), none] [] (ax_ui σ 15 84 ((σ.1 15 84) - (1 : Int32)))) : ax_W shM (d + 1) mX12_marry Q 87 [some (ax_r 0), some (ax_i x1), some (ax_i x2), some (ax_i x3), some (ax_i x4), some (ax_i x5), some (ax_i x6), some (ax_i x7), none] [ax_i rr] σ := by
  refine ax_istore (q := 89) (lv2 := [some (ax_r 0), some (ax_i x1), some (ax_i x2), some (ax_i x3), some (ax_i x4), some (ax_i x5), some (ax_i x6), some (ax_i x7), some (ax_i rr)]) dX12_marry_87 rfl (by decide) rfl rfl ?_
  refine ax_aload_n (q := 90) (i := 0) dX12_marry_89 rfl rfl rfl ?_
  refine ax_get (q := 93) (k := 0) (j := 25) (v := ax_r 15) dX12_marry_90 rfl shM_0 rfl rfl rfl (by decide) fl_X12_52 ?_
  refine ax_bipush (q := 95) dX12_marry_93 rfl kb_84 ?_
  refine ax_dup2_11 (q := 96) dX12_marry_95 rfl ?_
  refine ax_iald (q := 97) (a := 84) (v := (σ.1 15 84)) dX12_marry_96 rfl shM_15 (ax_inl 84 268 (by decide) (by decide)) rfl rfl ?_
  refine ax_iconst (q := 98) dX12_marry_97 rfl ki_1 ?_
  refine ax_isub (q := 99) dX12_marry_98 rfl ?_
  refine ax_iast (q := 100) (a := 84) dX12_marry_99 rfl shM_15 (ax_inl 84 268 (by decide) (by decide)) rfl ?_
  refine ax_iload (q := 102) dX12_marry_100 rfl rfl ?_
  refine ax_iconst (q := 103) dX12_marry_102 rfl ki_m1 ?_
  refine ax_icmp_eq (tgt := 113) (q := 106) dX12_marry_103 (by decide) rfl (fun c1 => ?_) (fun c1 => ?_)
  · refine ax_bipush (q := 115) dX12_marry_113 rfl kb_10 ?_
    refine ax_iload (q := 117) dX12_marry_115 rfl rfl ?_
    refine ax_imul (q := 118) dX12_marry_117 rfl ?_
    refine ax_iload (q := 120) dX12_marry_118 rfl rfl ?_
    refine ax_iadd (q := 121) dX12_marry_120 rfl ?_
    refine ax_istore (q := 123) (lv2 := [some (ax_r 0), some (ax_i x1), some (ax_i x2), some (ax_i x3), some (ax_i (((10 : Int32) * x6) + x7)), some (ax_i x5), some (ax_i x6), some (ax_i x7), some (ax_i rr)]) dX12_marry_121 rfl (by decide) rfl rfl ?_
    refine ax_iload (q := 125) dX12_marry_123 rfl rfl ?_
    refine ax_istore (q := 127) (lv2 := [some (ax_r 0), some (ax_i x1), some (ax_i x2), some (ax_i x3), some (ax_i (((10 : Int32) * x6) + x7)), some (ax_i rr), some (ax_i x6), some (ax_i x7), some (ax_i rr)]) dX12_marry_125 rfl (by decide) rfl rfl ?_
    refine ax_iincK (q := 130) (lv2 := [some (ax_r 0), some (ax_i x1), some (ax_i x2), some (ax_i x3), some (ax_i (((10 : Int32) * x6) + x7)), some (ax_i rr), some (ax_i x6), some (ax_i (x7 + (1 : Int32))), some (ax_i rr)]) dX12_marry_127 rfl rfl ki_1 (by decide) rfl rfl ?_
    refine ax_goto (tgt := 50) dX12_marry_130 (by decide) ?_
    refine ax_fg (lv2 := [some (ax_r 0), some (ax_i x1), some (ax_i x2), some (ax_i x3), some (ax_i (((10 : Int32) * x6) + x7)), some (ax_i rr), some (ax_i x6), some (ax_i (x7 + (1 : Int32))), none]) ⟨rfl, rfl, rfl, rfl, rfl, rfl, rfl, rfl, trivial⟩ ?_
    exact (k1 c1)
  · refine ax_iload (q := 108) dX12_marry_106 rfl rfl ?_
    refine ax_iload (q := 110) dX12_marry_108 rfl rfl ?_
    refine ax_icmp_ge (tgt := 127) (q := 113) dX12_marry_110 (by decide) rfl (fun c2 => ?_) (fun c2 => ?_)
    · refine ax_iincK (q := 130) (lv2 := [some (ax_r 0), some (ax_i x1), some (ax_i x2), some (ax_i x3), some (ax_i x4), some (ax_i x5), some (ax_i x6), some (ax_i (x7 + (1 : Int32))), some (ax_i rr)]) dX12_marry_127 rfl rfl ki_1 (by decide) rfl rfl ?_
      refine ax_goto (tgt := 50) dX12_marry_130 (by decide) ?_
      refine ax_fg (lv2 := [some (ax_r 0), some (ax_i x1), some (ax_i x2), some (ax_i x3), some (ax_i x4), some (ax_i x5), some (ax_i x6), some (ax_i (x7 + (1 : Int32))), none]) ⟨rfl, rfl, rfl, rfl, rfl, rfl, rfl, rfl, trivial⟩ ?_
      exact (k2 c1 c2)
    · refine ax_bipush (q := 115) dX12_marry_113 rfl kb_10 ?_
      refine ax_iload (q := 117) dX12_marry_115 rfl rfl ?_
      refine ax_imul (q := 118) dX12_marry_117 rfl ?_
      refine ax_iload (q := 120) dX12_marry_118 rfl rfl ?_
      refine ax_iadd (q := 121) dX12_marry_120 rfl ?_
      refine ax_istore (q := 123) (lv2 := [some (ax_r 0), some (ax_i x1), some (ax_i x2), some (ax_i x3), some (ax_i (((10 : Int32) * x6) + x7)), some (ax_i x5), some (ax_i x6), some (ax_i x7), some (ax_i rr)]) dX12_marry_121 rfl (by decide) rfl rfl ?_
      refine ax_iload (q := 125) dX12_marry_123 rfl rfl ?_
      refine ax_istore (q := 127) (lv2 := [some (ax_r 0), some (ax_i x1), some (ax_i x2), some (ax_i x3), some (ax_i (((10 : Int32) * x6) + x7)), some (ax_i rr), some (ax_i x6), some (ax_i x7), some (ax_i rr)]) dX12_marry_125 rfl (by decide) rfl rfl ?_
      refine ax_iincK (q := 130) (lv2 := [some (ax_r 0), some (ax_i x1), some (ax_i x2), some (ax_i x3), some (ax_i (((10 : Int32) * x6) + x7)), some (ax_i rr), some (ax_i x6), some (ax_i (x7 + (1 : Int32))), some (ax_i rr)]) dX12_marry_127 rfl rfl ki_1 (by decide) rfl rfl ?_
      refine ax_goto (tgt := 50) dX12_marry_130 (by decide) ?_
      refine ax_fg (lv2 := [some (ax_r 0), some (ax_i x1), some (ax_i x2), some (ax_i x3), some (ax_i (((10 : Int32) * x6) + x7)), some (ax_i rr), some (ax_i x6), some (ax_i (x7 + (1 : Int32))), none]) ⟨rfl, rfl, rfl, rfl, rfl, rfl, rfl, rfl, trivial⟩ ?_
      exact (k3 c1 c2)
set_option maxRecDepth 20000 in
theorem s_X12_cutSet_0 {d : Nat} (hd : 0 ≤ d) {Q : Option ax_V → ax_S → Prop} (σ : ax_S) (a0 : Int32) (a1 : Int32) (k1 : ax_W shM (d + 1) mX12_cutSet Q 2 [some (ax_r 0), some (ax_i a0), some (ax_i a1), some (ax_i (0 : Int32))] [] σ) : ax_W shM (d + 1) mX12_cutSet Q 0 [some (ax_r 0), some (ax_i a0), some (ax_i a1), none] [] σ := by
  refine ax_iconst (q := 1) dX12_cutSet_0 rfl ki_0 ?_
  refine ax_istore_n (q := 2) (i := 3) (lv2 := [some (ax_r 0), some (ax_i a0), some (ax_i a1), some (ax_i (0 : Int32))]) dX12_cutSet_1 rfl rfl (by decide) rfl rfl ?_
  exact k1
set_option maxRecDepth 20000 in
theorem s_X12_cutSet_2 {d : Nat} (hd : 1 ≤ d) {Q : Option ax_V → ax_S → Prop} (σ : ax_S) (x1 : Int32) (x2 : Int32) (x3 : Int32) (k1 : ((σ.1 15 84) ≤ x3) → Q none σ) (k2 : (¬ ((σ.1 15 84) ≤ x3)) → (¬ (¬ (¬ ((x1 >>> (x3 &&& 31)) &&& (1 : Int32)) = (1 : Int32)))) → ax_W shM (d + 1) mX12_cutSet Q 2 [some (ax_r 0), some (ax_i x1), some (ax_i x2), some (ax_i (x3 + (1 : Int32)))] [] σ) (h3 : (¬ ((σ.1 15 84) ≤ x3)) → (¬ (¬ ((x1 >>> (x3 &&& 31)) &&& (1 : Int32)) = (1 : Int32))) → vp_in (((16 : Int32) + ((4 : Int32) * x3)) + (3 : Int32)) 268) (k4 : (¬ ((σ.1 15 84) ≤ x3)) → (¬ (¬ ((x1 >>> (x3 &&& 31)) &&& (1 : Int32)) = (1 : Int32))) → ax_W shM (d + 1) mX12_cutSet Q 2 [some (ax_r 0), some (ax_i x1), some (ax_i x2), some (ax_i (x3 + (1 : Int32)))] [] (ax_ui σ 15 (Int32.toNatClampNeg (((16 : Int32) + ((4 : Int32) * x3)) + (3 : Int32))) x2)) : ax_W shM (d + 1) mX12_cutSet Q 2 [some (ax_r 0), some (ax_i x1), some (ax_i x2), some (ax_i x3)] [] σ := by
  refine ax_iload_n (q := 3) (i := 3) dX12_cutSet_2 rfl rfl rfl ?_
  refine ax_aload_n (q := 4) (i := 0) dX12_cutSet_3 rfl rfl rfl ?_
  refine ax_get (q := 7) (k := 0) (j := 25) (v := ax_r 15) dX12_cutSet_4 rfl shM_0 rfl rfl rfl (by decide) fl_X12_52 ?_
  refine ax_bipush (q := 9) dX12_cutSet_7 rfl kb_84 ?_
  refine ax_iald (q := 10) (a := 84) (v := (σ.1 15 84)) dX12_cutSet_9 rfl shM_15 (ax_inl 84 268 (by decide) (by decide)) rfl rfl ?_
  refine ax_icmp_ge (tgt := 34) (q := 13) dX12_cutSet_10 (by decide) rfl (fun c1 => ?_) (fun c1 => ?_)
  · exact ax_vret dX12_cutSet_34 rfl (k1 c1)
  · refine ax_iload_n (q := 14) (i := 1) dX12_cutSet_13 rfl rfl rfl ?_
    refine ax_iload_n (q := 15) (i := 3) dX12_cutSet_14 rfl rfl rfl ?_
    refine ax_callSfi (q := 18) (As := [ax_i x1, ax_i x3]) (st := []) (x := (if (¬ (¬ ((x1 >>> (x3 &&& 31)) &&& (1 : Int32)) = (1 : Int32))) then (1 : Int32) else 0)) (σ2 := σ) dX12_cutSet_15 rfl lk_X12_234 rfl rfl (Nat.le_of_ble_eq_true rfl) (f_X12_has (sh := shM) σ x1 x3  (d := d) (by omega)) ?_
    refine ax_if_eqB (tgt := 28) (q := 21) dX12_cutSet_18 (by decide) rfl (fun c2 => ?_) (fun c2 => ?_)
    · refine ax_iincK (q := 31) (lv2 := [some (ax_r 0), some (ax_i x1), some (ax_i x2), some (ax_i (x3 + (1 : Int32)))]) dX12_cutSet_28 rfl rfl ki_1 (by decide) rfl rfl ?_
      refine ax_goto (tgt := 2) dX12_cutSet_31 (by decide) ?_
      exact (k2 c1 c2)
    · refine ax_aload_n (q := 22) (i := 0) dX12_cutSet_21 rfl rfl rfl ?_
      refine ax_iload_n (q := 23) (i := 3) dX12_cutSet_22 rfl rfl rfl ?_
      refine ax_iconst (q := 24) dX12_cutSet_23 rfl ki_3 ?_
      refine ax_iload_n (q := 25) (i := 2) dX12_cutSet_24 rfl rfl rfl ?_
      refine ax_callVfv (q := 28) (As := [ax_i x3, ax_i (3 : Int32), ax_i x2]) (st := []) (σ2 := (ax_ui σ 15 (Int32.toNatClampNeg (((16 : Int32) + ((4 : Int32) * x3)) + (3 : Int32))) x2)) dX12_cutSet_25 rfl lk_X12_302 shM_0 rfl rfl rfl rfl (Nat.le_of_ble_eq_true rfl) (f_X12_putWire σ x3 (3 : Int32) x2 (h3 c1 c2) (d := d) (by omega)) ?_
      refine ax_iincK (q := 31) (lv2 := [some (ax_r 0), some (ax_i x1), some (ax_i x2), some (ax_i (x3 + (1 : Int32)))]) dX12_cutSet_28 rfl rfl ki_1 (by decide) rfl rfl ?_
      refine ax_goto (tgt := 2) dX12_cutSet_31 (by decide) ?_
      exact (k4 c1 c2)
set_option maxRecDepth 20000 in
theorem s_X12_uncut_0 {d : Nat} (hd : 0 ≤ d) {Q : Option ax_V → ax_S → Prop} (σ : ax_S)  (k1 : ax_W shM (d + 1) mX12_uncut Q 4 [some (ax_r 0), some (ax_i (0 : Int32)), some (ax_i (0 : Int32))] [] σ) : ax_W shM (d + 1) mX12_uncut Q 0 [some (ax_r 0), none, none] [] σ := by
  refine ax_iconst (q := 1) dX12_uncut_0 rfl ki_0 ?_
  refine ax_istore_n (q := 2) (i := 1) (lv2 := [some (ax_r 0), some (ax_i (0 : Int32)), none]) dX12_uncut_1 rfl rfl (by decide) rfl rfl ?_
  refine ax_iconst (q := 3) dX12_uncut_2 rfl ki_0 ?_
  refine ax_istore_n (q := 4) (i := 2) (lv2 := [some (ax_r 0), some (ax_i (0 : Int32)), some (ax_i (0 : Int32))]) dX12_uncut_3 rfl rfl (by decide) rfl rfl ?_
  exact k1
set_option maxRecDepth 20000 in
theorem s_X12_uncut_4 {d : Nat} (hd : 1 ≤ d) {Q : Option ax_V → ax_S → Prop} (σ : ax_S) (x1 : Int32) (x2 : Int32) (k1 : ((σ.1 15 84) ≤ x2) → Q (some (ax_i x1)) σ) (h2 : (¬ ((σ.1 15 84) ≤ x2)) → vp_in (((16 : Int32) + ((4 : Int32) * x2)) + (3 : Int32)) 268) (k3 : (¬ ((σ.1 15 84) ≤ x2)) → ax_W shM (d + 1) mX12_uncut Q 4 [some (ax_r 0), some (ax_i (x1 ||| (if (¬ (σ.1 15 (Int32.toNatClampNeg (((16 : Int32) + ((4 : Int32) * x2)) + (3 : Int32)))) = 0) then (0 : Int32) else ((1 : Int32) <<< (x2 &&& 31))))), some (ax_i (x2 + (1 : Int32)))] [] σ) : ax_W shM (d + 1) mX12_uncut Q 4 [some (ax_r 0), some (ax_i x1), some (ax_i x2)] [] σ := by
  refine ax_iload_n (q := 5) (i := 2) dX12_uncut_4 rfl rfl rfl ?_
  refine ax_aload_n (q := 6) (i := 0) dX12_uncut_5 rfl rfl rfl ?_
  refine ax_get (q := 9) (k := 0) (j := 25) (v := ax_r 15) dX12_uncut_6 rfl shM_0 rfl rfl rfl (by decide) fl_X12_52 ?_
  refine ax_bipush (q := 11) dX12_uncut_9 rfl kb_84 ?_
  refine ax_iald (q := 12) (a := 84) (v := (σ.1 15 84)) dX12_uncut_11 rfl shM_15 (ax_inl 84 268 (by decide) (by decide)) rfl rfl ?_
  refine ax_icmp_ge (tgt := 40) (q := 15) dX12_uncut_12 (by decide) rfl (fun c1 => ?_) (fun c1 => ?_)
  · refine ax_iload_n (q := 41) (i := 1) dX12_uncut_40 rfl rfl rfl ?_
    exact ax_iret dX12_uncut_41 rfl rfl (k1 c1)
  · refine ax_iload_n (q := 16) (i := 1) dX12_uncut_15 rfl rfl rfl ?_
    refine ax_aload_n (q := 17) (i := 0) dX12_uncut_16 rfl rfl rfl ?_
    refine ax_iload_n (q := 18) (i := 2) dX12_uncut_17 rfl rfl rfl ?_
    refine ax_iconst (q := 19) dX12_uncut_18 rfl ki_3 ?_
    refine ax_callVfi (q := 22) (As := [ax_i x2, ax_i (3 : Int32)]) (st := [ax_i x1]) (x := (σ.1 15 (Int32.toNatClampNeg (((16 : Int32) + ((4 : Int32) * x2)) + (3 : Int32))))) (σ2 := σ) dX12_uncut_19 rfl lk_X12_306 shM_0 rfl rfl rfl rfl (Nat.le_of_ble_eq_true rfl) (f_X12_ofWire σ x2 (3 : Int32) (h2 c1) (d := d) (by omega)) ?_
    have K3 : ax_W shM (d + 1) mX12_uncut Q 32 [some (ax_r 0), some (ax_i x1), some (ax_i x2)] [ax_i (if (¬ (σ.1 15 (Int32.toNatClampNeg (((16 : Int32) + ((4 : Int32) * x2)) + (3 : Int32)))) = 0) then (0 : Int32) else ((1 : Int32) <<< (x2 &&& 31))), ax_i x1] σ := by
      refine ax_ior (q := 33) dX12_uncut_32 rfl ?_
      refine ax_istore_n (q := 34) (i := 1) (lv2 := [some (ax_r 0), some (ax_i (x1 ||| (if (¬ (σ.1 15 (Int32.toNatClampNeg (((16 : Int32) + ((4 : Int32) * x2)) + (3 : Int32)))) = 0) then (0 : Int32) else ((1 : Int32) <<< (x2 &&& 31))))), some (ax_i x2)]) dX12_uncut_33 rfl rfl (by decide) rfl rfl ?_
      refine ax_iincK (q := 37) (lv2 := [some (ax_r 0), some (ax_i (x1 ||| (if (¬ (σ.1 15 (Int32.toNatClampNeg (((16 : Int32) + ((4 : Int32) * x2)) + (3 : Int32)))) = 0) then (0 : Int32) else ((1 : Int32) <<< (x2 &&& 31))))), some (ax_i (x2 + (1 : Int32)))]) dX12_uncut_34 rfl rfl ki_1 (by decide) rfl rfl ?_
      refine ax_goto (tgt := 4) dX12_uncut_37 (by decide) ?_
      exact (k3 c1)
    refine ax_if_ne (tgt := 31) (q := 25) dX12_uncut_22 (by decide) rfl (fun c2 => ?_) (fun c2 => ?_)
    · refine ax_iconst (q := 32) dX12_uncut_31 rfl ki_0 ?_
      exact ax_cv (if_pos c2) K3
    · refine ax_iconst (q := 26) dX12_uncut_25 rfl ki_1 ?_
      refine ax_iload_n (q := 27) (i := 2) dX12_uncut_26 rfl rfl rfl ?_
      refine ax_ishl (q := 28) dX12_uncut_27 rfl ?_
      refine ax_goto (tgt := 32) dX12_uncut_28 (by decide) ?_
      exact ax_cv (if_neg c2) K3
