set_option maxRecDepth 20000 in
theorem s_X12_most_0 {d : Nat} (hd : 1 ≤ d) {Q : Option ax_V → ax_S → Prop} (σ : ax_S) (a0 : Int32) (k1 : ((σ.1 0 23) = 0) → Q (some (ax_i (-1 : Int32))) σ) (k2 : (¬ ((σ.1 0 23) = 0)) → ((¬ (a0 < (0 : Int32))) ∧ (¬ ((2 : Int32) < a0))) → ax_W shM (d + 1) mX12_most Q 22 [some (ax_r 0), some (ax_i a0), some (ax_i (-1 : Int32)), some (ax_i (0 : Int32)), none] [] σ) (k3 : (¬ ((σ.1 0 23) = 0)) → (¬ ((¬ (a0 < (0 : Int32))) ∧ (¬ ((2 : Int32) < a0)))) → Q (some (ax_i (-1 : Int32))) σ) : ax_W shM (d + 1) mX12_most Q 0 [some (ax_r 0), some (ax_i a0), none, none, none] [] σ := by
  refine ax_aload_n (q := 1) (i := 0) dX12_most_0 rfl rfl rfl ?_
  refine ax_get (q := 4) (k := 0) (j := 23) (v := ax_i (σ.1 0 23)) dX12_most_1 rfl shM_0 rfl rfl rfl (by decide) fl_X12_271 ?_
  refine ax_if_eq (tgt := 16) (q := 7) dX12_most_4 (by decide) rfl (fun c1 => ?_) (fun c1 => ?_)
  · refine ax_iconst (q := 17) dX12_most_16 rfl ki_m1 ?_
    exact ax_iret dX12_most_17 rfl rfl (k1 c1)
  · refine ax_iload_n (q := 8) (i := 1) dX12_most_7 rfl rfl rfl ?_
    refine ax_iconst (q := 9) dX12_most_8 rfl ki_0 ?_
    refine ax_iconst (q := 10) dX12_most_9 rfl ki_2 ?_
    refine ax_callSfi (q := 13) (As := [ax_i a0, ax_i (0 : Int32), ax_i (2 : Int32)]) (st := []) (x := (if ((¬ (a0 < (0 : Int32))) ∧ (¬ ((2 : Int32) < a0))) then (1 : Int32) else 0)) (σ2 := σ) dX12_most_10 rfl lk_X12_223 rfl rfl (Nat.le_of_ble_eq_true rfl) (f_X12_in (sh := shM) σ a0 (0 : Int32) (2 : Int32)  (d := d) (by omega)) ?_
    refine ax_if_neB (tgt := 18) (q := 16) dX12_most_13 (by decide) rfl (fun c2 => ?_) (fun c2 => ?_)
    · refine ax_iconst (q := 19) dX12_most_18 rfl ki_m1 ?_
      refine ax_istore_n (q := 20) (i := 2) (lv2 := [some (ax_r 0), some (ax_i a0), some (ax_i (-1 : Int32)), none, none]) dX12_most_19 rfl rfl (by decide) rfl rfl ?_
      refine ax_iconst (q := 21) dX12_most_20 rfl ki_0 ?_
      refine ax_istore_n (q := 22) (i := 3) (lv2 := [some (ax_r 0), some (ax_i a0), some (ax_i (-1 : Int32)), some (ax_i (0 : Int32)), none]) dX12_most_21 rfl rfl (by decide) rfl rfl ?_
      exact (k2 c1 c2)
    · refine ax_iconst (q := 17) dX12_most_16 rfl ki_m1 ?_
      exact ax_iret dX12_most_17 rfl rfl (k3 c1 c2)
set_option maxRecDepth 20000 in
theorem s_X12_most_22 {d : Nat} (hd : 2 ≤ d) {Q : Option ax_V → ax_S → Prop} (σ : ax_S) (x1 : Int32) (x2 : Int32) (x3 : Int32) (k1 : ((σ.1 15 84) ≤ x3) → ax_W shM (d + 1) mX12_most Q 80 [some (ax_r 0), some (ax_i x1), some (ax_i x2), some (ax_i (0 : Int32)), none] [] σ) (k2 : (¬ ((σ.1 15 84) ≤ x3)) → (¬ x1 = (2 : Int32)) → ax_W shM (d + 1) mX12_most Q 80 [some (ax_r 0), some (ax_i x1), some (ax_i x2), some (ax_i (0 : Int32)), none] [] σ) (h3 : (¬ ((σ.1 15 84) ≤ x3)) → (¬ (¬ x1 = (2 : Int32))) → vp_in (((16 : Int32) + ((4 : Int32) * x3)) + (3 : Int32)) 268) (h4 : (¬ ((σ.1 15 84) ≤ x3)) → (¬ (¬ x1 = (2 : Int32))) → (¬ (¬ (σ.1 15 (Int32.toNatClampNeg (((16 : Int32) + ((4 : Int32) * x3)) + (3 : Int32)))) = 0)) → vp_in (((16 : Int32) + ((4 : Int32) * x3)) + (2 : Int32)) 268) (h5 : (¬ ((σ.1 15 84) ≤ x3)) → (¬ (¬ x1 = (2 : Int32))) → ((¬ (¬ (σ.1 15 (Int32.toNatClampNeg (((16 : Int32) + ((4 : Int32) * x3)) + (3 : Int32)))) = 0)) ∧ (¬ ((9 : Int32) ≤ (σ.1 15 (Int32.toNatClampNeg (((16 : Int32) + ((4 : Int32) * x3)) + (2 : Int32))))))) → (¬ (x2 = (-1 : Int32))) → vp_in (((16 : Int32) + ((4 : Int32) * x3)) + (2 : Int32)) 268) (h6 : (¬ ((σ.1 15 84) ≤ x3)) → (¬ (¬ x1 = (2 : Int32))) → ((¬ (¬ (σ.1 15 (Int32.toNatClampNeg (((16 : Int32) + ((4 : Int32) * x3)) + (3 : Int32)))) = 0)) ∧ (¬ ((9 : Int32) ≤ (σ.1 15 (Int32.toNatClampNeg (((16 : Int32) + ((4 : Int32) * x3)) + (2 : Int32))))))) → (¬ (x2 = (-1 : Int32))) → vp_in (((16 : Int32) + ((4 : Int32) * x2)) + (2 : Int32)) 268) (k7 : (¬ ((σ.1 15 84) ≤ x3)) → (¬ (¬ x1 = (2 : Int32))) → ax_W shM (d + 1) mX12_most Q 22 [some (ax_r 0), some (ax_i x1), some (ax_i (if (¬ ((¬ (¬ (σ.1 15 (Int32.toNatClampNeg (((16 : Int32) + ((4 : Int32) * x3)) + (3 : Int32)))) = 0)) ∧ (¬ ((9 : Int32) ≤ (σ.1 15 (Int32.toNatClampNeg (((16 : Int32) + ((4 : Int32) * x3)) + (2 : Int32)))))))) then x2 else (if (x2 = (-1 : Int32)) then x3 else (if ((σ.1 15 (Int32.toNatClampNeg (((16 : Int32) + ((4 : Int32) * x3)) + (2 : Int32)))) ≤ (σ.1 15 (Int32.toNatClampNeg (((16 : Int32) + ((4 : Int32) * x2)) + (2 : Int32))))) then x2 else x3)))), some (ax_i (x3 + (1 : Int32))), none] [] σ) : ax_W shM (d + 1) mX12_most Q 22 [some (ax_r 0), some (ax_i x1), some (ax_i x2), some (ax_i x3), none] [] σ := by
  refine ax_iload_n (q := 23) (i := 3) dX12_most_22 rfl rfl rfl ?_
  refine ax_aload_n (q := 24) (i := 0) dX12_most_23 rfl rfl rfl ?_
  refine ax_get (q := 27) (k := 0) (j := 25) (v := ax_r 15) dX12_most_24 rfl shM_0 rfl rfl rfl (by decide) fl_X12_52 ?_
  refine ax_bipush (q := 29) dX12_most_27 rfl kb_84 ?_
  refine ax_iald (q := 30) (a := 84) (v := (σ.1 15 84)) dX12_most_29 rfl shM_15 (ax_inl 84 268 (by decide) (by decide)) rfl rfl ?_
  refine ax_icmp_ge (tgt := 78) (q := 33) dX12_most_30 (by decide) rfl (fun c1 => ?_) (fun c1 => ?_)
  · refine ax_iconst (q := 79) dX12_most_78 rfl ki_0 ?_
    refine ax_istore_n (q := 80) (i := 3) (lv2 := [some (ax_r 0), some (ax_i x1), some (ax_i x2), some (ax_i (0 : Int32)), none]) dX12_most_79 rfl rfl (by decide) rfl rfl ?_
    exact (k1 c1)
  · refine ax_iload_n (q := 34) (i := 1) dX12_most_33 rfl rfl rfl ?_
    refine ax_iconst (q := 35) dX12_most_34 rfl ki_2 ?_
    refine ax_icmp_ne (tgt := 78) (q := 38) dX12_most_35 (by decide) rfl (fun c2 => ?_) (fun c2 => ?_)
    · refine ax_iconst (q := 79) dX12_most_78 rfl ki_0 ?_
      refine ax_istore_n (q := 80) (i := 3) (lv2 := [some (ax_r 0), some (ax_i x1), some (ax_i x2), some (ax_i (0 : Int32)), none]) dX12_most_79 rfl rfl (by decide) rfl rfl ?_
      exact (k2 c1 c2)
    · refine ax_aload_n (q := 39) (i := 0) dX12_most_38 rfl rfl rfl ?_
      refine ax_iload_n (q := 40) (i := 3) dX12_most_39 rfl rfl rfl ?_
      refine ax_callVfi (q := 43) (As := [ax_i x3]) (st := []) (x := (if ((¬ (¬ (σ.1 15 (Int32.toNatClampNeg (((16 : Int32) + ((4 : Int32) * x3)) + (3 : Int32)))) = 0)) ∧ (¬ ((9 : Int32) ≤ (σ.1 15 (Int32.toNatClampNeg (((16 : Int32) + ((4 : Int32) * x3)) + (2 : Int32))))))) then (1 : Int32) else 0)) (σ2 := σ) dX12_most_40 rfl lk_X12_312 shM_0 rfl rfl rfl rfl (Nat.le_of_ble_eq_true rfl) (f_X12_isLive σ x3 (h3 c1 c2) (h4 c1 c2) (d := d) (by omega)) ?_
      have K6 : ax_W shM (d + 1) mX12_most Q 71 [some (ax_r 0), some (ax_i x1), some (ax_i x2), some (ax_i x3), none] [ax_i (if (¬ ((¬ (¬ (σ.1 15 (Int32.toNatClampNeg (((16 : Int32) + ((4 : Int32) * x3)) + (3 : Int32)))) = 0)) ∧ (¬ ((9 : Int32) ≤ (σ.1 15 (Int32.toNatClampNeg (((16 : Int32) + ((4 : Int32) * x3)) + (2 : Int32)))))))) then x2 else (if (x2 = (-1 : Int32)) then x3 else (if ((σ.1 15 (Int32.toNatClampNeg (((16 : Int32) + ((4 : Int32) * x3)) + (2 : Int32)))) ≤ (σ.1 15 (Int32.toNatClampNeg (((16 : Int32) + ((4 : Int32) * x2)) + (2 : Int32))))) then x2 else x3)))] σ := by
        refine ax_istore_n (q := 72) (i := 2) (lv2 := [some (ax_r 0), some (ax_i x1), some (ax_i (if (¬ ((¬ (¬ (σ.1 15 (Int32.toNatClampNeg (((16 : Int32) + ((4 : Int32) * x3)) + (3 : Int32)))) = 0)) ∧ (¬ ((9 : Int32) ≤ (σ.1 15 (Int32.toNatClampNeg (((16 : Int32) + ((4 : Int32) * x3)) + (2 : Int32)))))))) then x2 else (if (x2 = (-1 : Int32)) then x3 else (if ((σ.1 15 (Int32.toNatClampNeg (((16 : Int32) + ((4 : Int32) * x3)) + (2 : Int32)))) ≤ (σ.1 15 (Int32.toNatClampNeg (((16 : Int32) + ((4 : Int32) * x2)) + (2 : Int32))))) then x2 else x3)))), some (ax_i x3), none]) dX12_most_71 rfl rfl (by decide) rfl rfl ?_
        refine ax_iincK (q := 75) (lv2 := [some (ax_r 0), some (ax_i x1), some (ax_i (if (¬ ((¬ (¬ (σ.1 15 (Int32.toNatClampNeg (((16 : Int32) + ((4 : Int32) * x3)) + (3 : Int32)))) = 0)) ∧ (¬ ((9 : Int32) ≤ (σ.1 15 (Int32.toNatClampNeg (((16 : Int32) + ((4 : Int32) * x3)) + (2 : Int32)))))))) then x2 else (if (x2 = (-1 : Int32)) then x3 else (if ((σ.1 15 (Int32.toNatClampNeg (((16 : Int32) + ((4 : Int32) * x3)) + (2 : Int32)))) ≤ (σ.1 15 (Int32.toNatClampNeg (((16 : Int32) + ((4 : Int32) * x2)) + (2 : Int32))))) then x2 else x3)))), some (ax_i (x3 + (1 : Int32))), none]) dX12_most_72 rfl rfl ki_1 (by decide) rfl rfl ?_
        refine ax_goto (tgt := 22) dX12_most_75 (by decide) ?_
        exact (k7 c1 c2)
      refine ax_if_eqB (tgt := 70) (q := 46) dX12_most_43 (by decide) rfl (fun c3 => ?_) (fun c3 => ?_)
      · refine ax_iload_n (q := 71) (i := 2) dX12_most_70 rfl rfl rfl ?_
        exact ax_cv (if_pos c3) K6
      · refine ax_iload_n (q := 47) (i := 2) dX12_most_46 rfl rfl rfl ?_
        refine ax_iconst (q := 48) dX12_most_47 rfl ki_m1 ?_
        refine ax_icmp_eq (tgt := 66) (q := 51) dX12_most_48 (by decide) rfl (fun c4 => ?_) (fun c4 => ?_)
        · refine ax_iload_n (q := 67) (i := 3) dX12_most_66 rfl rfl rfl ?_
          refine ax_goto (tgt := 71) dX12_most_67 (by decide) ?_
          exact ax_cv ((if_neg (fun y => y c3)).trans (if_pos c4)) K6
        · refine ax_aload_n (q := 52) (i := 0) dX12_most_51 rfl rfl rfl ?_
          refine ax_iload_n (q := 53) (i := 3) dX12_most_52 rfl rfl rfl ?_
          refine ax_iconst (q := 54) dX12_most_53 rfl ki_2 ?_
          refine ax_callVfi (q := 57) (As := [ax_i x3, ax_i (2 : Int32)]) (st := []) (x := (σ.1 15 (Int32.toNatClampNeg (((16 : Int32) + ((4 : Int32) * x3)) + (2 : Int32))))) (σ2 := σ) dX12_most_54 rfl lk_X12_306 shM_0 rfl rfl rfl rfl (Nat.le_of_ble_eq_true rfl) (f_X12_ofWire σ x3 (2 : Int32) (h5 c1 c2 c3 c4) (d := d) (by omega)) ?_
          refine ax_aload_n (q := 58) (i := 0) dX12_most_57 rfl rfl rfl ?_
          refine ax_iload_n (q := 59) (i := 2) dX12_most_58 rfl rfl rfl ?_
          refine ax_iconst (q := 60) dX12_most_59 rfl ki_2 ?_
          refine ax_callVfi (q := 63) (As := [ax_i x2, ax_i (2 : Int32)]) (st := [ax_i (σ.1 15 (Int32.toNatClampNeg (((16 : Int32) + ((4 : Int32) * x3)) + (2 : Int32))))]) (x := (σ.1 15 (Int32.toNatClampNeg (((16 : Int32) + ((4 : Int32) * x2)) + (2 : Int32))))) (σ2 := σ) dX12_most_60 rfl lk_X12_306 shM_0 rfl rfl rfl rfl (Nat.le_of_ble_eq_true rfl) (f_X12_ofWire σ x2 (2 : Int32) (h6 c1 c2 c3 c4) (d := d) (by omega)) ?_
          refine ax_icmp_le (tgt := 70) (q := 66) dX12_most_63 (by decide) rfl (fun c5 => ?_) (fun c5 => ?_)
          · refine ax_iload_n (q := 71) (i := 2) dX12_most_70 rfl rfl rfl ?_
            exact ax_cv ((if_neg (fun y => y c3)).trans ((if_neg c4).trans (if_pos c5))) K6
          · refine ax_iload_n (q := 67) (i := 3) dX12_most_66 rfl rfl rfl ?_
            refine ax_goto (tgt := 71) dX12_most_67 (by decide) ?_
            exact ax_cv ((if_neg (fun y => y c3)).trans ((if_neg c4).trans (if_neg c5))) K6
set_option maxRecDepth 20000 in
theorem s_X12_most_80 {d : Nat} (hd : 1 ≤ d) {Q : Option ax_V → ax_S → Prop} (σ : ax_S) (x1 : Int32) (x2 : Int32) (x3 : Int32) (k1 : ((σ.1 0 23) ≤ x3) → Q (some (ax_i x2)) σ) (k2 : (¬ ((σ.1 0 23) ≤ x3)) → ((2 : Int32) ≤ x1) → Q (some (ax_i x2)) σ) (h3 : (¬ ((σ.1 0 23) ≤ x3)) → (¬ ((2 : Int32) ≤ x1)) → (¬ x1 = 0) → vp_in ((8 : Int32) + x3) 268) (h4 : (¬ ((σ.1 0 23) ≤ x3)) → (¬ ((2 : Int32) ≤ x1)) → (¬ (¬ x1 = 0)) → vp_in (((4 : Int32) * x3) + (1 : Int32)) 32) (h5 : (¬ ((σ.1 0 23) ≤ x3)) → (¬ ((2 : Int32) ≤ x1)) → (¬ (x2 = (-1 : Int32))) → (¬ x1 = 0) → vp_in ((8 : Int32) + x2) 268) (h6 : (¬ ((σ.1 0 23) ≤ x3)) → (¬ ((2 : Int32) ≤ x1)) → (¬ (x2 = (-1 : Int32))) → (¬ (¬ x1 = 0)) → vp_in (((4 : Int32) * x2) + (1 : Int32)) 32) (k7 : (¬ ((σ.1 0 23) ≤ x3)) → (¬ ((2 : Int32) ≤ x1)) → ax_W shM (d + 1) mX12_most Q 80 [some (ax_r 0), some (ax_i x1), some (ax_i (if (x2 = (-1 : Int32)) then x3 else (if ((if (¬ x1 = 0) then (σ.1 15 (Int32.toNatClampNeg ((8 : Int32) + x3))) else (σ.1 14 (Int32.toNatClampNeg (((4 : Int32) * x3) + (1 : Int32))))) ≤ (if (¬ x1 = 0) then (σ.1 15 (Int32.toNatClampNeg ((8 : Int32) + x2))) else (σ.1 14 (Int32.toNatClampNeg (((4 : Int32) * x2) + (1 : Int32)))))) then x2 else x3))), some (ax_i (x3 + (1 : Int32))), none] [] σ) : ax_W shM (d + 1) mX12_most Q 80 [some (ax_r 0), some (ax_i x1), some (ax_i x2), some (ax_i x3), none] [] σ := by
  refine ax_iload_n (q := 81) (i := 3) dX12_most_80 rfl rfl rfl ?_
  refine ax_aload_n (q := 82) (i := 0) dX12_most_81 rfl rfl rfl ?_
  refine ax_get (q := 85) (k := 0) (j := 23) (v := ax_i (σ.1 0 23)) dX12_most_82 rfl shM_0 rfl rfl rfl (by decide) fl_X12_271 ?_
  refine ax_icmp_ge (tgt := 161) (q := 88) dX12_most_85 (by decide) rfl (fun c1 => ?_) (fun c1 => ?_)
  · refine ax_iload_n (q := 162) (i := 2) dX12_most_161 rfl rfl rfl ?_
    exact ax_iret dX12_most_162 rfl rfl (k1 c1)
  · refine ax_iload_n (q := 89) (i := 1) dX12_most_88 rfl rfl rfl ?_
    refine ax_iconst (q := 90) dX12_most_89 rfl ki_2 ?_
    refine ax_icmp_ge (tgt := 161) (q := 93) dX12_most_90 (by decide) rfl (fun c2 => ?_) (fun c2 => ?_)
    · refine ax_iload_n (q := 162) (i := 2) dX12_most_161 rfl rfl rfl ?_
      exact ax_iret dX12_most_162 rfl rfl (k2 c1 c2)
    · refine ax_iload_n (q := 94) (i := 1) dX12_most_93 rfl rfl rfl ?_
      have K4 : ax_W shM (d + 1) mX12_most Q 115 [some (ax_r 0), some (ax_i x1), some (ax_i x2), some (ax_i x3), none] [ax_i (if (¬ x1 = 0) then (σ.1 15 (Int32.toNatClampNeg ((8 : Int32) + x3))) else (σ.1 14 (Int32.toNatClampNeg (((4 : Int32) * x3) + (1 : Int32)))))] σ := by
        refine ax_istore (q := 117) (lv2 := [some (ax_r 0), some (ax_i x1), some (ax_i x2), some (ax_i x3), some (ax_i (if (¬ x1 = 0) then (σ.1 15 (Int32.toNatClampNeg ((8 : Int32) + x3))) else (σ.1 14 (Int32.toNatClampNeg (((4 : Int32) * x3) + (1 : Int32))))))]) dX12_most_115 rfl (by decide) rfl rfl ?_
        refine ax_iload_n (q := 118) (i := 2) dX12_most_117 rfl rfl rfl ?_
        refine ax_iconst (q := 119) dX12_most_118 rfl ki_m1 ?_
        have K9 : ax_W shM (d + 1) mX12_most Q 154 [some (ax_r 0), some (ax_i x1), some (ax_i x2), some (ax_i x3), some (ax_i (if (¬ x1 = 0) then (σ.1 15 (Int32.toNatClampNeg ((8 : Int32) + x3))) else (σ.1 14 (Int32.toNatClampNeg (((4 : Int32) * x3) + (1 : Int32))))))] [ax_i (if (x2 = (-1 : Int32)) then x3 else (if ((if (¬ x1 = 0) then (σ.1 15 (Int32.toNatClampNeg ((8 : Int32) + x3))) else (σ.1 14 (Int32.toNatClampNeg (((4 : Int32) * x3) + (1 : Int32))))) ≤ (if (¬ x1 = 0) then (σ.1 15 (Int32.toNatClampNeg ((8 : Int32) + x2))) else (σ.1 14 (Int32.toNatClampNeg (((4 : Int32) * x2) + (1 : Int32)))))) then x2 else x3))] σ := by
          refine ax_istore_n (q := 155) (i := 2) (lv2 := [some (ax_r 0), some (ax_i x1), some (ax_i (if (x2 = (-1 : Int32)) then x3 else (if ((if (¬ x1 = 0) then (σ.1 15 (Int32.toNatClampNeg ((8 : Int32) + x3))) else (σ.1 14 (Int32.toNatClampNeg (((4 : Int32) * x3) + (1 : Int32))))) ≤ (if (¬ x1 = 0) then (σ.1 15 (Int32.toNatClampNeg ((8 : Int32) + x2))) else (σ.1 14 (Int32.toNatClampNeg (((4 : Int32) * x2) + (1 : Int32)))))) then x2 else x3))), some (ax_i x3), some (ax_i (if (¬ x1 = 0) then (σ.1 15 (Int32.toNatClampNeg ((8 : Int32) + x3))) else (σ.1 14 (Int32.toNatClampNeg (((4 : Int32) * x3) + (1 : Int32))))))]) dX12_most_154 rfl rfl (by decide) rfl rfl ?_
          refine ax_iincK (q := 158) (lv2 := [some (ax_r 0), some (ax_i x1), some (ax_i (if (x2 = (-1 : Int32)) then x3 else (if ((if (¬ x1 = 0) then (σ.1 15 (Int32.toNatClampNeg ((8 : Int32) + x3))) else (σ.1 14 (Int32.toNatClampNeg (((4 : Int32) * x3) + (1 : Int32))))) ≤ (if (¬ x1 = 0) then (σ.1 15 (Int32.toNatClampNeg ((8 : Int32) + x2))) else (σ.1 14 (Int32.toNatClampNeg (((4 : Int32) * x2) + (1 : Int32)))))) then x2 else x3))), some (ax_i (x3 + (1 : Int32))), some (ax_i (if (¬ x1 = 0) then (σ.1 15 (Int32.toNatClampNeg ((8 : Int32) + x3))) else (σ.1 14 (Int32.toNatClampNeg (((4 : Int32) * x3) + (1 : Int32))))))]) dX12_most_155 rfl rfl ki_1 (by decide) rfl rfl ?_
          refine ax_goto (tgt := 80) dX12_most_158 (by decide) ?_
          refine ax_fg (lv2 := [some (ax_r 0), some (ax_i x1), some (ax_i (if (x2 = (-1 : Int32)) then x3 else (if ((if (¬ x1 = 0) then (σ.1 15 (Int32.toNatClampNeg ((8 : Int32) + x3))) else (σ.1 14 (Int32.toNatClampNeg (((4 : Int32) * x3) + (1 : Int32))))) ≤ (if (¬ x1 = 0) then (σ.1 15 (Int32.toNatClampNeg ((8 : Int32) + x2))) else (σ.1 14 (Int32.toNatClampNeg (((4 : Int32) * x2) + (1 : Int32)))))) then x2 else x3))), some (ax_i (x3 + (1 : Int32))), none]) ⟨rfl, rfl, rfl, rfl, trivial⟩ ?_
          exact (k7 c1 c2)
        refine ax_icmp_eq (tgt := 149) (q := 122) dX12_most_119 (by decide) rfl (fun c5 => ?_) (fun c5 => ?_)
        · refine ax_iload_n (q := 150) (i := 3) dX12_most_149 rfl rfl rfl ?_
          refine ax_goto (tgt := 154) dX12_most_150 (by decide) ?_
          exact ax_cv (if_pos c5) K9
        · refine ax_iload (q := 124) dX12_most_122 rfl rfl ?_
          refine ax_iload_n (q := 125) (i := 1) dX12_most_124 rfl rfl rfl ?_
          have K7 : ax_W shM (d + 1) mX12_most Q 146 [some (ax_r 0), some (ax_i x1), some (ax_i x2), some (ax_i x3), some (ax_i (if (¬ x1 = 0) then (σ.1 15 (Int32.toNatClampNeg ((8 : Int32) + x3))) else (σ.1 14 (Int32.toNatClampNeg (((4 : Int32) * x3) + (1 : Int32))))))] [ax_i (if (¬ x1 = 0) then (σ.1 15 (Int32.toNatClampNeg ((8 : Int32) + x2))) else (σ.1 14 (Int32.toNatClampNeg (((4 : Int32) * x2) + (1 : Int32))))), ax_i (if (¬ x1 = 0) then (σ.1 15 (Int32.toNatClampNeg ((8 : Int32) + x3))) else (σ.1 14 (Int32.toNatClampNeg (((4 : Int32) * x3) + (1 : Int32)))))] σ := by
            refine ax_icmp_le (tgt := 153) (q := 149) dX12_most_146 (by decide) rfl (fun c8 => ?_) (fun c8 => ?_)
            · refine ax_iload_n (q := 154) (i := 2) dX12_most_153 rfl rfl rfl ?_
              exact ax_cv ((if_neg c5).trans (if_pos c8)) K9
            · refine ax_iload_n (q := 150) (i := 3) dX12_most_149 rfl rfl rfl ?_
              refine ax_goto (tgt := 154) dX12_most_150 (by decide) ?_
              exact ax_cv ((if_neg c5).trans (if_neg c8)) K9
          refine ax_if_ne (tgt := 137) (q := 128) dX12_most_125 (by decide) rfl (fun c6 => ?_) (fun c6 => ?_)
          · refine ax_aload_n (q := 138) (i := 0) dX12_most_137 rfl rfl rfl ?_
            refine ax_get (q := 141) (k := 0) (j := 25) (v := ax_r 15) dX12_most_138 rfl shM_0 rfl rfl rfl (by decide) fl_X12_52 ?_
            refine ax_bipush (q := 143) dX12_most_141 rfl kb_8 ?_
            refine ax_iload_n (q := 144) (i := 2) dX12_most_143 rfl rfl rfl ?_
            refine ax_iadd (q := 145) dX12_most_144 rfl ?_
            refine ax_iald (q := 146) (a := (Int32.toNatClampNeg ((8 : Int32) + x2))) (v := (σ.1 15 (Int32.toNatClampNeg ((8 : Int32) + x2)))) dX12_most_145 rfl shM_15 (h5 c1 c2 c5 c6) rfl rfl ?_
            exact ax_cv (if_pos c6) K7
          · refine ax_aload_n (q := 129) (i := 0) dX12_most_128 rfl rfl rfl ?_
            refine ax_iload_n (q := 130) (i := 2) dX12_most_129 rfl rfl rfl ?_
            refine ax_iconst (q := 131) dX12_most_130 rfl ki_1 ?_
            refine ax_callVfi (q := 134) (As := [ax_i x2, ax_i (1 : Int32)]) (st := [ax_i (if (¬ x1 = 0) then (σ.1 15 (Int32.toNatClampNeg ((8 : Int32) + x3))) else (σ.1 14 (Int32.toNatClampNeg (((4 : Int32) * x3) + (1 : Int32)))))]) (x := (σ.1 14 (Int32.toNatClampNeg (((4 : Int32) * x2) + (1 : Int32))))) (σ2 := σ) dX12_most_131 rfl lk_X12_277 shM_0 rfl rfl rfl rfl (Nat.le_of_ble_eq_true rfl) (f_X12_of σ x2 (1 : Int32) (h6 c1 c2 c5 c6) (d := d) (by omega)) ?_
            refine ax_goto (tgt := 146) dX12_most_134 (by decide) ?_
            exact ax_cv (if_neg c6) K7
      refine ax_if_ne (tgt := 106) (q := 97) dX12_most_94 (by decide) rfl (fun c3 => ?_) (fun c3 => ?_)
      · refine ax_aload_n (q := 107) (i := 0) dX12_most_106 rfl rfl rfl ?_
        refine ax_get (q := 110) (k := 0) (j := 25) (v := ax_r 15) dX12_most_107 rfl shM_0 rfl rfl rfl (by decide) fl_X12_52 ?_
        refine ax_bipush (q := 112) dX12_most_110 rfl kb_8 ?_
        refine ax_iload_n (q := 113) (i := 3) dX12_most_112 rfl rfl rfl ?_
        refine ax_iadd (q := 114) dX12_most_113 rfl ?_
        refine ax_iald (q := 115) (a := (Int32.toNatClampNeg ((8 : Int32) + x3))) (v := (σ.1 15 (Int32.toNatClampNeg ((8 : Int32) + x3)))) dX12_most_114 rfl shM_15 (h3 c1 c2 c3) rfl rfl ?_
        exact ax_cv (if_pos c3) K4
      · refine ax_aload_n (q := 98) (i := 0) dX12_most_97 rfl rfl rfl ?_
        refine ax_iload_n (q := 99) (i := 3) dX12_most_98 rfl rfl rfl ?_
        refine ax_iconst (q := 100) dX12_most_99 rfl ki_1 ?_
        refine ax_callVfi (q := 103) (As := [ax_i x3, ax_i (1 : Int32)]) (st := []) (x := (σ.1 14 (Int32.toNatClampNeg (((4 : Int32) * x3) + (1 : Int32))))) (σ2 := σ) dX12_most_100 rfl lk_X12_277 shM_0 rfl rfl rfl rfl (Nat.le_of_ble_eq_true rfl) (f_X12_of σ x3 (1 : Int32) (h4 c1 c2 c3) (d := d) (by omega)) ?_
        refine ax_goto (tgt := 115) dX12_most_103 (by decide) ?_
        exact ax_cv (if_neg c3) K4
set_option maxRecDepth 20000 in
theorem s_X12_image_0 {d : Nat} (hd : 0 ≤ d) {Q : Option ax_V → ax_S → Prop} (σ : ax_S)  (k1 : (¬ (σ.1 0 23) = 0) → ax_W shM (d + 1) mX12_image Q 11 [some (ax_r 0), some (ax_i (0 : Int32))] [] σ) (k2 : (¬ (¬ (σ.1 0 23) = 0)) → Q (some (ax_i (-1 : Int32))) σ) : ax_W shM (d + 1) mX12_image Q 0 [some (ax_r 0), none] [] σ := by
  refine ax_aload_n (q := 1) (i := 0) dX12_image_0 rfl rfl rfl ?_
  refine ax_get (q := 4) (k := 0) (j := 23) (v := ax_i (σ.1 0 23)) dX12_image_1 rfl shM_0 rfl rfl rfl (by decide) fl_X12_271 ?_
  refine ax_if_ne (tgt := 9) (q := 7) dX12_image_4 (by decide) rfl (fun c1 => ?_) (fun c1 => ?_)
  · refine ax_iconst (q := 10) dX12_image_9 rfl ki_0 ?_
    refine ax_istore_n (q := 11) (i := 1) (lv2 := [some (ax_r 0), some (ax_i (0 : Int32))]) dX12_image_10 rfl rfl (by decide) rfl rfl ?_
    exact (k1 c1)
  · refine ax_iconst (q := 8) dX12_image_7 rfl ki_m1 ?_
    exact ax_iret dX12_image_8 rfl rfl (k2 c1)
set_option maxRecDepth 20000 in
theorem s_X12_image_11 {d : Nat} (hd : 0 ≤ d) {Q : Option ax_V → ax_S → Prop} (σ : ax_S) (x1 : Int32) (k1 : ((268 : Int32) ≤ x1) → Q (some (ax_i (σ.1 15 86))) (ax_ui σ 0 52 (1 : Int32))) (h2 : (¬ ((268 : Int32) ≤ x1)) → vp_in x1 268) (k3 : (¬ ((268 : Int32) ≤ x1)) → ax_W shM (d + 1) mX12_image Q 11 [some (ax_r 0), some (ax_i (x1 + (1 : Int32)))] [] (ax_ui σ 30 (Int32.toNatClampNeg x1) (σ.1 15 (Int32.toNatClampNeg x1)))) : ax_W shM (d + 1) mX12_image Q 11 [some (ax_r 0), some (ax_i x1)] [] σ := by
  refine ax_iload_n (q := 12) (i := 1) dX12_image_11 rfl rfl rfl ?_
  refine ax_sipush (q := 15) dX12_image_12 rfl ks_268 ?_
  refine ax_icmp_ge (tgt := 36) (q := 18) dX12_image_15 (by decide) rfl (fun c1 => ?_) (fun c1 => ?_)
  · refine ax_aload_n (q := 37) (i := 0) dX12_image_36 rfl rfl rfl ?_
    refine ax_iconst (q := 38) dX12_image_37 rfl ki_1 ?_
    refine ax_puti (q := 41) (k := 0) (j := 52) dX12_image_38 rfl shM_0 rfl rfl (by decide) fl_X12_292 rfl rfl rfl rfl ?_
    refine ax_aload_n (q := 42) (i := 0) dX12_image_41 rfl rfl rfl ?_
    refine ax_get (q := 45) (k := 0) (j := 25) (v := ax_r 15) dX12_image_42 rfl shM_0 rfl rfl rfl (by decide) fl_X12_52 ?_
    refine ax_bipush (q := 47) dX12_image_45 rfl kb_86 ?_
    refine ax_iald (q := 48) (a := 86) (v := (σ.1 15 86)) dX12_image_47 rfl shM_15 (ax_inl 86 268 (by decide) (by decide)) rfl rfl ?_
    exact ax_iret dX12_image_48 rfl rfl (k1 c1)
  · refine ax_aload_n (q := 19) (i := 0) dX12_image_18 rfl rfl rfl ?_
    refine ax_get (q := 22) (k := 0) (j := 51) (v := ax_r 30) dX12_image_19 rfl shM_0 rfl rfl rfl (by decide) fl_X12_105 ?_
    refine ax_iload_n (q := 23) (i := 1) dX12_image_22 rfl rfl rfl ?_
    refine ax_aload_n (q := 24) (i := 0) dX12_image_23 rfl rfl rfl ?_
    refine ax_get (q := 27) (k := 0) (j := 25) (v := ax_r 15) dX12_image_24 rfl shM_0 rfl rfl rfl (by decide) fl_X12_52 ?_
    refine ax_iload_n (q := 28) (i := 1) dX12_image_27 rfl rfl rfl ?_
    refine ax_iald (q := 29) (a := (Int32.toNatClampNeg x1)) (v := (σ.1 15 (Int32.toNatClampNeg x1))) dX12_image_28 rfl shM_15 (h2 c1) rfl rfl ?_
    refine ax_iast (q := 30) (a := (Int32.toNatClampNeg x1)) dX12_image_29 rfl shM_30 (h2 c1) rfl ?_
    refine ax_iincK (q := 33) (lv2 := [some (ax_r 0), some (ax_i (x1 + (1 : Int32)))]) dX12_image_30 rfl rfl ki_1 (by decide) rfl rfl ?_
    refine ax_goto (tgt := 11) dX12_image_33 (by decide) ?_
    exact (k3 c1)
set_option maxRecDepth 20000 in
theorem s_X12_back_0 {d : Nat} (hd : 0 ≤ d) {Q : Option ax_V → ax_S → Prop} (σ : ax_S)  (k1 : (¬ (σ.1 0 52) = 0) → ax_W shM (d + 1) mX12_back Q 11 [some (ax_r 0), some (ax_i (0 : Int32))] [] σ) (k2 : (¬ (¬ (σ.1 0 52) = 0)) → Q (some (ax_i (-1 : Int32))) σ) : ax_W shM (d + 1) mX12_back Q 0 [some (ax_r 0), none] [] σ := by
  refine ax_aload_n (q := 1) (i := 0) dX12_back_0 rfl rfl rfl ?_
  refine ax_get (q := 4) (k := 0) (j := 52) (v := ax_i (σ.1 0 52)) dX12_back_1 rfl shM_0 rfl rfl rfl (by decide) fl_X12_292 ?_
  refine ax_if_ne (tgt := 9) (q := 7) dX12_back_4 (by decide) rfl (fun c1 => ?_) (fun c1 => ?_)
  · refine ax_iconst (q := 10) dX12_back_9 rfl ki_0 ?_
    refine ax_istore_n (q := 11) (i := 1) (lv2 := [some (ax_r 0), some (ax_i (0 : Int32))]) dX12_back_10 rfl rfl (by decide) rfl rfl ?_
    exact (k1 c1)
  · refine ax_iconst (q := 8) dX12_back_7 rfl ki_m1 ?_
    exact ax_iret dX12_back_8 rfl rfl (k2 c1)
set_option maxRecDepth 20000 in
theorem s_X12_back_11 {d : Nat} (hd : 0 ≤ d) {Q : Option ax_V → ax_S → Prop} (σ : ax_S) (x1 : Int32) (k1 : ((268 : Int32) ≤ x1) → Q (some (ax_i (σ.1 15 86))) (ax_ui σ 0 37 (0 : Int32))) (h2 : (¬ ((268 : Int32) ≤ x1)) → vp_in x1 268) (k3 : (¬ ((268 : Int32) ≤ x1)) → ax_W shM (d + 1) mX12_back Q 11 [some (ax_r 0), some (ax_i (x1 + (1 : Int32)))] [] (ax_ui σ 15 (Int32.toNatClampNeg x1) (σ.1 30 (Int32.toNatClampNeg x1)))) : ax_W shM (d + 1) mX12_back Q 11 [some (ax_r 0), some (ax_i x1)] [] σ := by
  refine ax_iload_n (q := 12) (i := 1) dX12_back_11 rfl rfl rfl ?_
  refine ax_sipush (q := 15) dX12_back_12 rfl ks_268 ?_
  refine ax_icmp_ge (tgt := 36) (q := 18) dX12_back_15 (by decide) rfl (fun c1 => ?_) (fun c1 => ?_)
  · refine ax_aload_n (q := 37) (i := 0) dX12_back_36 rfl rfl rfl ?_
    refine ax_iconst (q := 38) dX12_back_37 rfl ki_0 ?_
    refine ax_puti (q := 41) (k := 0) (j := 37) dX12_back_38 rfl shM_0 rfl rfl (by decide) fl_X12_289 rfl rfl rfl rfl ?_
    refine ax_aload_n (q := 42) (i := 0) dX12_back_41 rfl rfl rfl ?_
    refine ax_get (q := 45) (k := 0) (j := 25) (v := ax_r 15) dX12_back_42 rfl shM_0 rfl rfl rfl (by decide) fl_X12_52 ?_
    refine ax_bipush (q := 47) dX12_back_45 rfl kb_86 ?_
    refine ax_iald (q := 48) (a := 86) (v := (σ.1 15 86)) dX12_back_47 rfl shM_15 (ax_inl 86 268 (by decide) (by decide)) rfl rfl ?_
    exact ax_iret dX12_back_48 rfl rfl (k1 c1)
  · refine ax_aload_n (q := 19) (i := 0) dX12_back_18 rfl rfl rfl ?_
    refine ax_get (q := 22) (k := 0) (j := 25) (v := ax_r 15) dX12_back_19 rfl shM_0 rfl rfl rfl (by decide) fl_X12_52 ?_
    refine ax_iload_n (q := 23) (i := 1) dX12_back_22 rfl rfl rfl ?_
    refine ax_aload_n (q := 24) (i := 0) dX12_back_23 rfl rfl rfl ?_
    refine ax_get (q := 27) (k := 0) (j := 51) (v := ax_r 30) dX12_back_24 rfl shM_0 rfl rfl rfl (by decide) fl_X12_105 ?_
    refine ax_iload_n (q := 28) (i := 1) dX12_back_27 rfl rfl rfl ?_
    refine ax_iald (q := 29) (a := (Int32.toNatClampNeg x1)) (v := (σ.1 30 (Int32.toNatClampNeg x1))) dX12_back_28 rfl shM_30 (h2 c1) rfl rfl ?_
    refine ax_iast (q := 30) (a := (Int32.toNatClampNeg x1)) dX12_back_29 rfl shM_15 (h2 c1) rfl ?_
    refine ax_iincK (q := 33) (lv2 := [some (ax_r 0), some (ax_i (x1 + (1 : Int32)))]) dX12_back_30 rfl rfl ki_1 (by decide) rfl rfl ?_
    refine ax_goto (tgt := 11) dX12_back_33 (by decide) ?_
    exact (k3 c1)
set_option maxRecDepth 20000 in
theorem s_X12_count_0 {d : Nat} (hd : 0 ≤ d) {Q : Option ax_V → ax_S → Prop} (σ : ax_S) (a0 : Int32) (k1 : (a0 = (0 : Int32)) → Q (some (ax_i (σ.1 0 23))) σ) (k2 : (¬ (a0 = (0 : Int32))) → (a0 = (1 : Int32)) → Q (some (ax_i (σ.1 15 84))) σ) (k3 : (¬ (a0 = (0 : Int32))) → (¬ (a0 = (1 : Int32))) → (a0 = (2 : Int32)) → Q (some (ax_i (σ.1 0 13))) σ) (k4 : (¬ (a0 = (0 : Int32))) → (¬ (a0 = (1 : Int32))) → (¬ (a0 = (2 : Int32))) → (a0 = (3 : Int32)) → Q (some (ax_i (σ.1 0 2))) σ) (k5 : (¬ (a0 = (0 : Int32))) → (¬ (a0 = (1 : Int32))) → (¬ (a0 = (2 : Int32))) → (¬ (a0 = (3 : Int32))) → (a0 = (4 : Int32)) → Q (some (ax_i (σ.1 0 27))) σ) (k6 : (¬ (a0 = (0 : Int32))) → (¬ (a0 = (1 : Int32))) → (¬ (a0 = (2 : Int32))) → (¬ (a0 = (3 : Int32))) → (¬ (a0 = (4 : Int32))) → (a0 = (5 : Int32)) → Q (some (ax_i (σ.1 15 86))) σ) (k7 : (¬ (a0 = (0 : Int32))) → (¬ (a0 = (1 : Int32))) → (¬ (a0 = (2 : Int32))) → (¬ (a0 = (3 : Int32))) → (¬ (a0 = (4 : Int32))) → (¬ (a0 = (5 : Int32))) → (a0 = (6 : Int32)) → Q (some (ax_i (σ.1 15 85))) σ) (k8 : (¬ (a0 = (0 : Int32))) → (¬ (a0 = (1 : Int32))) → (¬ (a0 = (2 : Int32))) → (¬ (a0 = (3 : Int32))) → (¬ (a0 = (4 : Int32))) → (¬ (a0 = (5 : Int32))) → (¬ (a0 = (6 : Int32))) → (a0 = (7 : Int32)) → Q (some (ax_i (σ.1 0 24))) σ) (k9 : (¬ (a0 = (0 : Int32))) → (¬ (a0 = (1 : Int32))) → (¬ (a0 = (2 : Int32))) → (¬ (a0 = (3 : Int32))) → (¬ (a0 = (4 : Int32))) → (¬ (a0 = (5 : Int32))) → (¬ (a0 = (6 : Int32))) → (¬ (a0 = (7 : Int32))) → (a0 = (8 : Int32)) → ax_Ct shM d mX12_allLive [ax_r 0] (fun r u => ∃ x : Int32, r = some (ax_i x) ∧ ax_W shM (d + 1) mX12_count Q 129 [none, none] (ax_i x :: []) u) σ) (k10 : (¬ (a0 = (0 : Int32))) → (¬ (a0 = (1 : Int32))) → (¬ (a0 = (2 : Int32))) → (¬ (a0 = (3 : Int32))) → (¬ (a0 = (4 : Int32))) → (¬ (a0 = (5 : Int32))) → (¬ (a0 = (6 : Int32))) → (¬ (a0 = (7 : Int32))) → (¬ (a0 = (8 : Int32))) → (a0 = (9 : Int32)) → Q (some (ax_i (σ.1 0 28))) σ) (k11 : (¬ (a0 = (0 : Int32))) → (¬ (a0 = (1 : Int32))) → (¬ (a0 = (2 : Int32))) → (¬ (a0 = (3 : Int32))) → (¬ (a0 = (4 : Int32))) → (¬ (a0 = (5 : Int32))) → (¬ (a0 = (6 : Int32))) → (¬ (a0 = (7 : Int32))) → (¬ (a0 = (8 : Int32))) → (¬ (a0 = (9 : Int32))) → (a0 = (10 : Int32)) → Q (some (ax_i (σ.1 0 29))) σ) (k12 : (¬ (a0 = (0 : Int32))) → (¬ (a0 = (1 : Int32))) → (¬ (a0 = (2 : Int32))) → (¬ (a0 = (3 : Int32))) → (¬ (a0 = (4 : Int32))) → (¬ (a0 = (5 : Int32))) → (¬ (a0 = (6 : Int32))) → (¬ (a0 = (7 : Int32))) → (¬ (a0 = (8 : Int32))) → (¬ (a0 = (9 : Int32))) → (¬ (a0 = (10 : Int32))) → (a0 = (11 : Int32)) → Q (some (ax_i (σ.1 0 46))) σ) (k13 : (¬ (a0 = (0 : Int32))) → (¬ (a0 = (1 : Int32))) → (¬ (a0 = (2 : Int32))) → (¬ (a0 = (3 : Int32))) → (¬ (a0 = (4 : Int32))) → (¬ (a0 = (5 : Int32))) → (¬ (a0 = (6 : Int32))) → (¬ (a0 = (7 : Int32))) → (¬ (a0 = (8 : Int32))) → (¬ (a0 = (9 : Int32))) → (¬ (a0 = (10 : Int32))) → (¬ (a0 = (11 : Int32))) → (a0 = (12 : Int32)) → Q (some (ax_i (σ.1 0 50))) σ) (k14 : (¬ (a0 = (0 : Int32))) → (¬ (a0 = (1 : Int32))) → (¬ (a0 = (2 : Int32))) → (¬ (a0 = (3 : Int32))) → (¬ (a0 = (4 : Int32))) → (¬ (a0 = (5 : Int32))) → (¬ (a0 = (6 : Int32))) → (¬ (a0 = (7 : Int32))) → (¬ (a0 = (8 : Int32))) → (¬ (a0 = (9 : Int32))) → (¬ (a0 = (10 : Int32))) → (¬ (a0 = (11 : Int32))) → (¬ (a0 = (12 : Int32))) → (a0 = (13 : Int32)) → Q (some (ax_i (σ.1 15 87))) σ) (k15 : (¬ (a0 = (0 : Int32))) → (¬ (a0 = (1 : Int32))) → (¬ (a0 = (2 : Int32))) → (¬ (a0 = (3 : Int32))) → (¬ (a0 = (4 : Int32))) → (¬ (a0 = (5 : Int32))) → (¬ (a0 = (6 : Int32))) → (¬ (a0 = (7 : Int32))) → (¬ (a0 = (8 : Int32))) → (¬ (a0 = (9 : Int32))) → (¬ (a0 = (10 : Int32))) → (¬ (a0 = (11 : Int32))) → (¬ (a0 = (12 : Int32))) → (¬ (a0 = (13 : Int32))) → (a0 = (14 : Int32)) → Q (some (ax_i (σ.1 0 37))) σ) (k16 : (¬ (a0 = (0 : Int32))) → (¬ (a0 = (1 : Int32))) → (¬ (a0 = (2 : Int32))) → (¬ (a0 = (3 : Int32))) → (¬ (a0 = (4 : Int32))) → (¬ (a0 = (5 : Int32))) → (¬ (a0 = (6 : Int32))) → (¬ (a0 = (7 : Int32))) → (¬ (a0 = (8 : Int32))) → (¬ (a0 = (9 : Int32))) → (¬ (a0 = (10 : Int32))) → (¬ (a0 = (11 : Int32))) → (¬ (a0 = (12 : Int32))) → (¬ (a0 = (13 : Int32))) → (¬ (a0 = (14 : Int32))) → Q (some (ax_i (-1000000 : Int32))) σ) : ax_W shM (d + 1) mX12_count Q 0 [some (ax_r 0), some (ax_i a0)] [] σ := by
  refine ax_iload_n (q := 1) (i := 1) dX12_count_0 rfl rfl rfl ?_
  by_cases c1 : (a0 = (0 : Int32))
  · refine ax_tableIn (tgt := 76) (off := 75) dX12_count_1 (by rw [c1]; decide) (by rw [c1]; decide) (by rw [c1]; decide) (by decide) ?_
    refine ax_aload_n (q := 77) (i := 0) dX12_count_76 rfl rfl rfl ?_
    refine ax_get (q := 80) (k := 0) (j := 23) (v := ax_i (σ.1 0 23)) dX12_count_77 rfl shM_0 rfl rfl rfl (by decide) fl_X12_271 ?_
    exact ax_iret dX12_count_80 rfl rfl (k1 c1)
  by_cases c2 : (a0 = (1 : Int32))
  · refine ax_tableIn (tgt := 81) (off := 80) dX12_count_1 (by rw [c2]; decide) (by rw [c2]; decide) (by rw [c2]; decide) (by decide) ?_
    refine ax_aload_n (q := 82) (i := 0) dX12_count_81 rfl rfl rfl ?_
    refine ax_get (q := 85) (k := 0) (j := 25) (v := ax_r 15) dX12_count_82 rfl shM_0 rfl rfl rfl (by decide) fl_X12_52 ?_
    refine ax_bipush (q := 87) dX12_count_85 rfl kb_84 ?_
    refine ax_iald (q := 88) (a := 84) (v := (σ.1 15 84)) dX12_count_87 rfl shM_15 (ax_inl 84 268 (by decide) (by decide)) rfl rfl ?_
    exact ax_iret dX12_count_88 rfl rfl (k2 c1 c2)
  by_cases c3 : (a0 = (2 : Int32))
  · refine ax_tableIn (tgt := 89) (off := 88) dX12_count_1 (by rw [c3]; decide) (by rw [c3]; decide) (by rw [c3]; decide) (by decide) ?_
    refine ax_aload_n (q := 90) (i := 0) dX12_count_89 rfl rfl rfl ?_
    refine ax_get (q := 93) (k := 0) (j := 13) (v := ax_i (σ.1 0 13)) dX12_count_90 rfl shM_0 rfl rfl rfl (by decide) fl_X12_299 ?_
    exact ax_iret dX12_count_93 rfl rfl (k3 c1 c2 c3)
  by_cases c4 : (a0 = (3 : Int32))
  · refine ax_tableIn (tgt := 94) (off := 93) dX12_count_1 (by rw [c4]; decide) (by rw [c4]; decide) (by rw [c4]; decide) (by decide) ?_
    refine ax_aload_n (q := 95) (i := 0) dX12_count_94 rfl rfl rfl ?_
    refine ax_get (q := 98) (k := 0) (j := 2) (v := ax_i (σ.1 0 2)) dX12_count_95 rfl shM_0 rfl rfl rfl (by decide) fl_X12_115 ?_
    exact ax_iret dX12_count_98 rfl rfl (k4 c1 c2 c3 c4)
  by_cases c5 : (a0 = (4 : Int32))
  · refine ax_tableIn (tgt := 99) (off := 98) dX12_count_1 (by rw [c5]; decide) (by rw [c5]; decide) (by rw [c5]; decide) (by decide) ?_
    refine ax_aload_n (q := 100) (i := 0) dX12_count_99 rfl rfl rfl ?_
    refine ax_get (q := 103) (k := 0) (j := 27) (v := ax_i (σ.1 0 27)) dX12_count_100 rfl shM_0 rfl rfl rfl (by decide) fl_X12_58 ?_
    exact ax_iret dX12_count_103 rfl rfl (k5 c1 c2 c3 c4 c5)
  by_cases c6 : (a0 = (5 : Int32))
  · refine ax_tableIn (tgt := 104) (off := 103) dX12_count_1 (by rw [c6]; decide) (by rw [c6]; decide) (by rw [c6]; decide) (by decide) ?_
    refine ax_aload_n (q := 105) (i := 0) dX12_count_104 rfl rfl rfl ?_
    refine ax_get (q := 108) (k := 0) (j := 25) (v := ax_r 15) dX12_count_105 rfl shM_0 rfl rfl rfl (by decide) fl_X12_52 ?_
    refine ax_bipush (q := 110) dX12_count_108 rfl kb_86 ?_
    refine ax_iald (q := 111) (a := 86) (v := (σ.1 15 86)) dX12_count_110 rfl shM_15 (ax_inl 86 268 (by decide) (by decide)) rfl rfl ?_
    exact ax_iret dX12_count_111 rfl rfl (k6 c1 c2 c3 c4 c5 c6)
  by_cases c7 : (a0 = (6 : Int32))
  · refine ax_tableIn (tgt := 112) (off := 111) dX12_count_1 (by rw [c7]; decide) (by rw [c7]; decide) (by rw [c7]; decide) (by decide) ?_
    refine ax_aload_n (q := 113) (i := 0) dX12_count_112 rfl rfl rfl ?_
    refine ax_get (q := 116) (k := 0) (j := 25) (v := ax_r 15) dX12_count_113 rfl shM_0 rfl rfl rfl (by decide) fl_X12_52 ?_
    refine ax_bipush (q := 118) dX12_count_116 rfl kb_85 ?_
    refine ax_iald (q := 119) (a := 85) (v := (σ.1 15 85)) dX12_count_118 rfl shM_15 (ax_inl 85 268 (by decide) (by decide)) rfl rfl ?_
    exact ax_iret dX12_count_119 rfl rfl (k7 c1 c2 c3 c4 c5 c6 c7)
  by_cases c8 : (a0 = (7 : Int32))
  · refine ax_tableIn (tgt := 120) (off := 119) dX12_count_1 (by rw [c8]; decide) (by rw [c8]; decide) (by rw [c8]; decide) (by decide) ?_
    refine ax_aload_n (q := 121) (i := 0) dX12_count_120 rfl rfl rfl ?_
    refine ax_get (q := 124) (k := 0) (j := 24) (v := ax_i (σ.1 0 24)) dX12_count_121 rfl shM_0 rfl rfl rfl (by decide) fl_X12_274 ?_
    exact ax_iret dX12_count_124 rfl rfl (k8 c1 c2 c3 c4 c5 c6 c7 c8)
  by_cases c9 : (a0 = (8 : Int32))
  · refine ax_tableIn (tgt := 125) (off := 124) dX12_count_1 (by rw [c9]; decide) (by rw [c9]; decide) (by rw [c9]; decide) (by decide) ?_
    refine ax_aload_n (q := 126) (i := 0) dX12_count_125 rfl rfl rfl ?_
    refine ax_fg (lv2 := [none, none]) trivial ?_
    exact ax_callVci (q := 129) (As := []) (st := []) dX12_count_126 rfl lk_X12_443 shM_0 rfl rfl rfl rfl (Nat.le_of_ble_eq_true rfl) (k9 c1 c2 c3 c4 c5 c6 c7 c8 c9)
  by_cases c10 : (a0 = (9 : Int32))
  · refine ax_tableIn (tgt := 130) (off := 129) dX12_count_1 (by rw [c10]; decide) (by rw [c10]; decide) (by rw [c10]; decide) (by decide) ?_
    refine ax_aload_n (q := 131) (i := 0) dX12_count_130 rfl rfl rfl ?_
    refine ax_get (q := 134) (k := 0) (j := 28) (v := ax_i (σ.1 0 28)) dX12_count_131 rfl shM_0 rfl rfl rfl (by decide) fl_X12_62 ?_
    exact ax_iret dX12_count_134 rfl rfl (k10 c1 c2 c3 c4 c5 c6 c7 c8 c9 c10)
  by_cases c11 : (a0 = (10 : Int32))
  · refine ax_tableIn (tgt := 135) (off := 134) dX12_count_1 (by rw [c11]; decide) (by rw [c11]; decide) (by rw [c11]; decide) (by decide) ?_
    refine ax_aload_n (q := 136) (i := 0) dX12_count_135 rfl rfl rfl ?_
    refine ax_get (q := 139) (k := 0) (j := 29) (v := ax_i (σ.1 0 29)) dX12_count_136 rfl shM_0 rfl rfl rfl (by decide) fl_X12_384 ?_
    exact ax_iret dX12_count_139 rfl rfl (k11 c1 c2 c3 c4 c5 c6 c7 c8 c9 c10 c11)
  by_cases c12 : (a0 = (11 : Int32))
  · refine ax_tableIn (tgt := 140) (off := 139) dX12_count_1 (by rw [c12]; decide) (by rw [c12]; decide) (by rw [c12]; decide) (by decide) ?_
    refine ax_aload_n (q := 141) (i := 0) dX12_count_140 rfl rfl rfl ?_
    refine ax_get (q := 144) (k := 0) (j := 46) (v := ax_i (σ.1 0 46)) dX12_count_141 rfl shM_0 rfl rfl rfl (by decide) fl_X12_283 ?_
    exact ax_iret dX12_count_144 rfl rfl (k12 c1 c2 c3 c4 c5 c6 c7 c8 c9 c10 c11 c12)
  by_cases c13 : (a0 = (12 : Int32))
  · refine ax_tableIn (tgt := 145) (off := 144) dX12_count_1 (by rw [c13]; decide) (by rw [c13]; decide) (by rw [c13]; decide) (by decide) ?_
    refine ax_aload_n (q := 146) (i := 0) dX12_count_145 rfl rfl rfl ?_
    refine ax_get (q := 149) (k := 0) (j := 50) (v := ax_i (σ.1 0 50)) dX12_count_146 rfl shM_0 rfl rfl rfl (by decide) fl_X12_286 ?_
    exact ax_iret dX12_count_149 rfl rfl (k13 c1 c2 c3 c4 c5 c6 c7 c8 c9 c10 c11 c12 c13)
  by_cases c14 : (a0 = (13 : Int32))
  · refine ax_tableIn (tgt := 150) (off := 149) dX12_count_1 (by rw [c14]; decide) (by rw [c14]; decide) (by rw [c14]; decide) (by decide) ?_
    refine ax_aload_n (q := 151) (i := 0) dX12_count_150 rfl rfl rfl ?_
    refine ax_get (q := 154) (k := 0) (j := 25) (v := ax_r 15) dX12_count_151 rfl shM_0 rfl rfl rfl (by decide) fl_X12_52 ?_
    refine ax_bipush (q := 156) dX12_count_154 rfl kb_87 ?_
    refine ax_iald (q := 157) (a := 87) (v := (σ.1 15 87)) dX12_count_156 rfl shM_15 (ax_inl 87 268 (by decide) (by decide)) rfl rfl ?_
    exact ax_iret dX12_count_157 rfl rfl (k14 c1 c2 c3 c4 c5 c6 c7 c8 c9 c10 c11 c12 c13 c14)
  by_cases c15 : (a0 = (14 : Int32))
  · refine ax_tableIn (tgt := 158) (off := 157) dX12_count_1 (by rw [c15]; decide) (by rw [c15]; decide) (by rw [c15]; decide) (by decide) ?_
    refine ax_aload_n (q := 159) (i := 0) dX12_count_158 rfl rfl rfl ?_
    refine ax_get (q := 162) (k := 0) (j := 37) (v := ax_i (σ.1 0 37)) dX12_count_159 rfl shM_0 rfl rfl rfl (by decide) fl_X12_289 ?_
    exact ax_iret dX12_count_162 rfl rfl (k15 c1 c2 c3 c4 c5 c6 c7 c8 c9 c10 c11 c12 c13 c14 c15)
  · refine ax_tableOut (tgt := 163) dX12_count_1 (by have z0 := ax_net (k := 0) (0) (by decide) c1; have z1 := ax_net (k := 1) (1) (by decide) c2; have z2 := ax_net (k := 2) (2) (by decide) c3; have z3 := ax_net (k := 3) (3) (by decide) c4; have z4 := ax_net (k := 4) (4) (by decide) c5; have z5 := ax_net (k := 5) (5) (by decide) c6; have z6 := ax_net (k := 6) (6) (by decide) c7; have z7 := ax_net (k := 7) (7) (by decide) c8; have z8 := ax_net (k := 8) (8) (by decide) c9; have z9 := ax_net (k := 9) (9) (by decide) c10; have z10 := ax_net (k := 10) (10) (by decide) c11; have z11 := ax_net (k := 11) (11) (by decide) c12; have z12 := ax_net (k := 12) (12) (by decide) c13; have z13 := ax_net (k := 13) (13) (by decide) c14; have z14 := ax_net (k := 14) (14) (by decide) c15; omega) (by decide) ?_
    refine ax_ldcw (q := 166) dX12_count_163 rfl kc_X12_453 ?_
    exact ax_iret dX12_count_166 rfl rfl (k16 c1 c2 c3 c4 c5 c6 c7 c8 c9 c10 c11 c12 c13 c14 c15)
set_option maxRecDepth 20000 in
theorem s_X12_count_129 {d : Nat} (hd : 0 ≤ d) {Q : Option ax_V → ax_S → Prop} (σ : ax_S) (rr : Int32) (k1 : Q (some (ax_i rr)) σ) : ax_W shM (d + 1) mX12_count Q 129 [none, none] [ax_i rr] σ := by
  exact ax_iret dX12_count_129 rfl rfl k1
