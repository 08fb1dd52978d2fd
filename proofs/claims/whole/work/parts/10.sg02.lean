set_option maxRecDepth 20000 in
theorem s_X1_isWireSound_0 {d : Nat} (hd : 1 ≤ d) {Q : Option ax_V → ax_S → Prop} (σ : ax_S) (a0 : Int32) (h1 : vp_in (a0 * (3 : Int32)) 24) (h2 : vp_in ((a0 * (3 : Int32)) + (1 : Int32)) 24) (k3 : ((σ.1 2 5) ≤ (σ.1 17 (Int32.toNatClampNeg (a0 * (3 : Int32))))) → Q (some (ax_i (0 : Int32))) σ) (k4 : (¬ ((σ.1 2 5) ≤ (σ.1 17 (Int32.toNatClampNeg (a0 * (3 : Int32)))))) → ((σ.1 2 5) ≤ (σ.1 17 (Int32.toNatClampNeg ((a0 * (3 : Int32)) + (1 : Int32))))) → Q (some (ax_i (0 : Int32))) σ) (k5 : (¬ ((σ.1 2 5) ≤ (σ.1 17 (Int32.toNatClampNeg (a0 * (3 : Int32)))))) → (¬ ((σ.1 2 5) ≤ (σ.1 17 (Int32.toNatClampNeg ((a0 * (3 : Int32)) + (1 : Int32)))))) → ((σ.1 17 (Int32.toNatClampNeg (a0 * (3 : Int32)))) = (σ.1 17 (Int32.toNatClampNeg ((a0 * (3 : Int32)) + (1 : Int32))))) → Q (some (ax_i (0 : Int32))) σ) (h6 : (¬ ((σ.1 2 5) ≤ (σ.1 17 (Int32.toNatClampNeg (a0 * (3 : Int32)))))) → (¬ ((σ.1 2 5) ≤ (σ.1 17 (Int32.toNatClampNeg ((a0 * (3 : Int32)) + (1 : Int32)))))) → (¬ ((σ.1 17 (Int32.toNatClampNeg (a0 * (3 : Int32)))) = (σ.1 17 (Int32.toNatClampNeg ((a0 * (3 : Int32)) + (1 : Int32)))))) → vp_in (((σ.1 17 (Int32.toNatClampNeg (a0 * (3 : Int32)))) * (4 : Int32)) + (3 : Int32)) 32) (k7 : (¬ ((σ.1 2 5) ≤ (σ.1 17 (Int32.toNatClampNeg (a0 * (3 : Int32)))))) → (¬ ((σ.1 2 5) ≤ (σ.1 17 (Int32.toNatClampNeg ((a0 * (3 : Int32)) + (1 : Int32)))))) → (¬ ((σ.1 17 (Int32.toNatClampNeg (a0 * (3 : Int32)))) = (σ.1 17 (Int32.toNatClampNeg ((a0 * (3 : Int32)) + (1 : Int32)))))) → (¬ (¬ (¬ (σ.1 16 (Int32.toNatClampNeg (((σ.1 17 (Int32.toNatClampNeg (a0 * (3 : Int32)))) * (4 : Int32)) + (3 : Int32)))) = (2 : Int32)))) → ax_W shC (d + 1) mX1_isWireSound Q 62 [some (ax_r 2), some (ax_i a0), some (ax_i (σ.1 17 (Int32.toNatClampNeg (a0 * (3 : Int32))))), some (ax_i (σ.1 17 (Int32.toNatClampNeg ((a0 * (3 : Int32)) + (1 : Int32))))), some (ax_i (0 : Int32)), none, none] [] σ) (h8 : (¬ ((σ.1 2 5) ≤ (σ.1 17 (Int32.toNatClampNeg (a0 * (3 : Int32)))))) → (¬ ((σ.1 2 5) ≤ (σ.1 17 (Int32.toNatClampNeg ((a0 * (3 : Int32)) + (1 : Int32)))))) → (¬ ((σ.1 17 (Int32.toNatClampNeg (a0 * (3 : Int32)))) = (σ.1 17 (Int32.toNatClampNeg ((a0 * (3 : Int32)) + (1 : Int32)))))) → (¬ (¬ (σ.1 16 (Int32.toNatClampNeg (((σ.1 17 (Int32.toNatClampNeg (a0 * (3 : Int32)))) * (4 : Int32)) + (3 : Int32)))) = (2 : Int32))) → vp_in (((σ.1 17 (Int32.toNatClampNeg ((a0 * (3 : Int32)) + (1 : Int32)))) * (4 : Int32)) + (3 : Int32)) 32) (k9 : (¬ ((σ.1 2 5) ≤ (σ.1 17 (Int32.toNatClampNeg (a0 * (3 : Int32)))))) → (¬ ((σ.1 2 5) ≤ (σ.1 17 (Int32.toNatClampNeg ((a0 * (3 : Int32)) + (1 : Int32)))))) → (¬ ((σ.1 17 (Int32.toNatClampNeg (a0 * (3 : Int32)))) = (σ.1 17 (Int32.toNatClampNeg ((a0 * (3 : Int32)) + (1 : Int32)))))) → (¬ (¬ (σ.1 16 (Int32.toNatClampNeg (((σ.1 17 (Int32.toNatClampNeg (a0 * (3 : Int32)))) * (4 : Int32)) + (3 : Int32)))) = (2 : Int32))) → (¬ (¬ (¬ (σ.1 16 (Int32.toNatClampNeg (((σ.1 17 (Int32.toNatClampNeg ((a0 * (3 : Int32)) + (1 : Int32)))) * (4 : Int32)) + (3 : Int32)))) = (2 : Int32)))) → ax_W shC (d + 1) mX1_isWireSound Q 62 [some (ax_r 2), some (ax_i a0), some (ax_i (σ.1 17 (Int32.toNatClampNeg (a0 * (3 : Int32))))), some (ax_i (σ.1 17 (Int32.toNatClampNeg ((a0 * (3 : Int32)) + (1 : Int32))))), some (ax_i (0 : Int32)), none, none] [] σ) (k10 : (¬ ((σ.1 2 5) ≤ (σ.1 17 (Int32.toNatClampNeg (a0 * (3 : Int32)))))) → (¬ ((σ.1 2 5) ≤ (σ.1 17 (Int32.toNatClampNeg ((a0 * (3 : Int32)) + (1 : Int32)))))) → (¬ ((σ.1 17 (Int32.toNatClampNeg (a0 * (3 : Int32)))) = (σ.1 17 (Int32.toNatClampNeg ((a0 * (3 : Int32)) + (1 : Int32)))))) → (¬ (¬ (σ.1 16 (Int32.toNatClampNeg (((σ.1 17 (Int32.toNatClampNeg (a0 * (3 : Int32)))) * (4 : Int32)) + (3 : Int32)))) = (2 : Int32))) → (¬ (¬ (σ.1 16 (Int32.toNatClampNeg (((σ.1 17 (Int32.toNatClampNeg ((a0 * (3 : Int32)) + (1 : Int32)))) * (4 : Int32)) + (3 : Int32)))) = (2 : Int32))) → Q (some (ax_i (0 : Int32))) σ) : ax_W shC (d + 1) mX1_isWireSound Q 0 [some (ax_r 2), some (ax_i a0), none, none, none, none, none] [] σ := by
  refine ax_aload_n (q := 1) (i := 0) dX1_isWireSound_0 rfl rfl rfl ?_
  refine ax_get (q := 4) (k := 2) (j := 3) (v := ax_r 17) dX1_isWireSound_1 rfl shC_2 rfl rfl rfl (by decide) fl_X1_18 ?_
  refine ax_iload_n (q := 5) (i := 1) dX1_isWireSound_4 rfl rfl rfl ?_
  refine ax_iconst (q := 6) dX1_isWireSound_5 rfl ki_3 ?_
  refine ax_imul (q := 7) dX1_isWireSound_6 rfl ?_
  refine ax_iald (q := 8) (a := (Int32.toNatClampNeg (a0 * (3 : Int32)))) (v := (σ.1 17 (Int32.toNatClampNeg (a0 * (3 : Int32))))) dX1_isWireSound_7 rfl shC_17 h1 rfl rfl ?_
  refine ax_istore_n (q := 9) (i := 2) (lv2 := [some (ax_r 2), some (ax_i a0), some (ax_i (σ.1 17 (Int32.toNatClampNeg (a0 * (3 : Int32))))), none, none, none, none]) dX1_isWireSound_8 rfl rfl (by decide) rfl rfl ?_
  refine ax_aload_n (q := 10) (i := 0) dX1_isWireSound_9 rfl rfl rfl ?_
  refine ax_get (q := 13) (k := 2) (j := 3) (v := ax_r 17) dX1_isWireSound_10 rfl shC_2 rfl rfl rfl (by decide) fl_X1_18 ?_
  refine ax_iload_n (q := 14) (i := 1) dX1_isWireSound_13 rfl rfl rfl ?_
  refine ax_iconst (q := 15) dX1_isWireSound_14 rfl ki_3 ?_
  refine ax_imul (q := 16) dX1_isWireSound_15 rfl ?_
  refine ax_iconst (q := 17) dX1_isWireSound_16 rfl ki_1 ?_
  refine ax_iadd (q := 18) dX1_isWireSound_17 rfl ?_
  refine ax_iald (q := 19) (a := (Int32.toNatClampNeg ((a0 * (3 : Int32)) + (1 : Int32)))) (v := (σ.1 17 (Int32.toNatClampNeg ((a0 * (3 : Int32)) + (1 : Int32))))) dX1_isWireSound_18 rfl shC_17 h2 rfl rfl ?_
  refine ax_istore_n (q := 20) (i := 3) (lv2 := [some (ax_r 2), some (ax_i a0), some (ax_i (σ.1 17 (Int32.toNatClampNeg (a0 * (3 : Int32))))), some (ax_i (σ.1 17 (Int32.toNatClampNeg ((a0 * (3 : Int32)) + (1 : Int32))))), none, none, none]) dX1_isWireSound_19 rfl rfl (by decide) rfl rfl ?_
  refine ax_iload_n (q := 21) (i := 2) dX1_isWireSound_20 rfl rfl rfl ?_
  refine ax_aload_n (q := 22) (i := 0) dX1_isWireSound_21 rfl rfl rfl ?_
  refine ax_get (q := 25) (k := 2) (j := 5) (v := ax_i (σ.1 2 5)) dX1_isWireSound_22 rfl shC_2 rfl rfl rfl (by decide) fl_X1_35 ?_
  refine ax_icmp_ge (tgt := 57) (q := 28) dX1_isWireSound_25 (by decide) rfl (fun c1 => ?_) (fun c1 => ?_)
  · refine ax_iconst (q := 58) dX1_isWireSound_57 rfl ki_0 ?_
    exact ax_iret dX1_isWireSound_58 rfl rfl (k3 c1)
  · refine ax_iload_n (q := 29) (i := 3) dX1_isWireSound_28 rfl rfl rfl ?_
    refine ax_aload_n (q := 30) (i := 0) dX1_isWireSound_29 rfl rfl rfl ?_
    refine ax_get (q := 33) (k := 2) (j := 5) (v := ax_i (σ.1 2 5)) dX1_isWireSound_30 rfl shC_2 rfl rfl rfl (by decide) fl_X1_35 ?_
    refine ax_icmp_ge (tgt := 57) (q := 36) dX1_isWireSound_33 (by decide) rfl (fun c2 => ?_) (fun c2 => ?_)
    · refine ax_iconst (q := 58) dX1_isWireSound_57 rfl ki_0 ?_
      exact ax_iret dX1_isWireSound_58 rfl rfl (k4 c1 c2)
    · refine ax_iload_n (q := 37) (i := 2) dX1_isWireSound_36 rfl rfl rfl ?_
      refine ax_iload_n (q := 38) (i := 3) dX1_isWireSound_37 rfl rfl rfl ?_
      refine ax_icmp_eq (tgt := 57) (q := 41) dX1_isWireSound_38 (by decide) rfl (fun c3 => ?_) (fun c3 => ?_)
      · refine ax_iconst (q := 58) dX1_isWireSound_57 rfl ki_0 ?_
        exact ax_iret dX1_isWireSound_58 rfl rfl (k5 c1 c2 c3)
      · refine ax_aload_n (q := 42) (i := 0) dX1_isWireSound_41 rfl rfl rfl ?_
        refine ax_iload_n (q := 43) (i := 2) dX1_isWireSound_42 rfl rfl rfl ?_
        refine ax_callVfi (q := 46) (As := [ax_i (σ.1 17 (Int32.toNatClampNeg (a0 * (3 : Int32))))]) (st := []) (x := (if (¬ (¬ (σ.1 16 (Int32.toNatClampNeg (((σ.1 17 (Int32.toNatClampNeg (a0 * (3 : Int32)))) * (4 : Int32)) + (3 : Int32)))) = (2 : Int32))) then (1 : Int32) else 0)) (σ2 := σ) dX1_isWireSound_43 rfl lk_X1_96 shC_2 rfl rfl rfl rfl (Nat.le_of_ble_eq_true rfl) (f_X1_isChapel σ (σ.1 17 (Int32.toNatClampNeg (a0 * (3 : Int32)))) (h6 c1 c2 c3) (d := d) (by omega)) ?_
        refine ax_if_eqB (tgt := 59) (q := 49) dX1_isWireSound_46 (by decide) rfl (fun c4 => ?_) (fun c4 => ?_)
        · refine ax_iconst (q := 60) dX1_isWireSound_59 rfl ki_0 ?_
          refine ax_istore (q := 62) (lv2 := [some (ax_r 2), some (ax_i a0), some (ax_i (σ.1 17 (Int32.toNatClampNeg (a0 * (3 : Int32))))), some (ax_i (σ.1 17 (Int32.toNatClampNeg ((a0 * (3 : Int32)) + (1 : Int32))))), some (ax_i (0 : Int32)), none, none]) dX1_isWireSound_60 rfl (by decide) rfl rfl ?_
          exact (k7 c1 c2 c3 c4)
        · refine ax_aload_n (q := 50) (i := 0) dX1_isWireSound_49 rfl rfl rfl ?_
          refine ax_iload_n (q := 51) (i := 3) dX1_isWireSound_50 rfl rfl rfl ?_
          refine ax_callVfi (q := 54) (As := [ax_i (σ.1 17 (Int32.toNatClampNeg ((a0 * (3 : Int32)) + (1 : Int32))))]) (st := []) (x := (if (¬ (¬ (σ.1 16 (Int32.toNatClampNeg (((σ.1 17 (Int32.toNatClampNeg ((a0 * (3 : Int32)) + (1 : Int32)))) * (4 : Int32)) + (3 : Int32)))) = (2 : Int32))) then (1 : Int32) else 0)) (σ2 := σ) dX1_isWireSound_51 rfl lk_X1_96 shC_2 rfl rfl rfl rfl (Nat.le_of_ble_eq_true rfl) (f_X1_isChapel σ (σ.1 17 (Int32.toNatClampNeg ((a0 * (3 : Int32)) + (1 : Int32)))) (h8 c1 c2 c3 c4) (d := d) (by omega)) ?_
          refine ax_if_eqB (tgt := 59) (q := 57) dX1_isWireSound_54 (by decide) rfl (fun c5 => ?_) (fun c5 => ?_)
          · refine ax_iconst (q := 60) dX1_isWireSound_59 rfl ki_0 ?_
            refine ax_istore (q := 62) (lv2 := [some (ax_r 2), some (ax_i a0), some (ax_i (σ.1 17 (Int32.toNatClampNeg (a0 * (3 : Int32))))), some (ax_i (σ.1 17 (Int32.toNatClampNeg ((a0 * (3 : Int32)) + (1 : Int32))))), some (ax_i (0 : Int32)), none, none]) dX1_isWireSound_60 rfl (by decide) rfl rfl ?_
            exact (k9 c1 c2 c3 c4 c5)
          · refine ax_iconst (q := 58) dX1_isWireSound_57 rfl ki_0 ?_
            exact ax_iret dX1_isWireSound_58 rfl rfl (k10 c1 c2 c3 c4 c5)
set_option maxRecDepth 20000 in
theorem s_X1_isWireSound_62 {d : Nat} (hd : 0 ≤ d) {Q : Option ax_V → ax_S → Prop} (σ : ax_S) (x1 : Int32) (x2 : Int32) (x3 : Int32) (x4 : Int32) (k1 : (x1 ≤ x4) → Q (some (ax_i (1 : Int32))) σ) (h2 : (¬ (x1 ≤ x4)) → vp_in (x4 * (3 : Int32)) 24) (h3 : (¬ (x1 ≤ x4)) → vp_in ((x4 * (3 : Int32)) + (1 : Int32)) 24) (k4 : (¬ (x1 ≤ x4)) → (¬ x2 = (σ.1 17 (Int32.toNatClampNeg (x4 * (3 : Int32))))) → (¬ x2 = (σ.1 17 (Int32.toNatClampNeg ((x4 * (3 : Int32)) + (1 : Int32))))) → ax_W shC (d + 1) mX1_isWireSound Q 62 [some (ax_r 2), some (ax_i x1), some (ax_i x2), some (ax_i x3), some (ax_i (x4 + (1 : Int32))), none, none] [] σ) (k5 : (¬ (x1 ≤ x4)) → (¬ x2 = (σ.1 17 (Int32.toNatClampNeg (x4 * (3 : Int32))))) → (¬ (¬ x2 = (σ.1 17 (Int32.toNatClampNeg ((x4 * (3 : Int32)) + (1 : Int32)))))) → (¬ x3 = (σ.1 17 (Int32.toNatClampNeg (x4 * (3 : Int32))))) → ax_W shC (d + 1) mX1_isWireSound Q 62 [some (ax_r 2), some (ax_i x1), some (ax_i x2), some (ax_i x3), some (ax_i (x4 + (1 : Int32))), none, none] [] σ) (k6 : (¬ (x1 ≤ x4)) → (¬ x2 = (σ.1 17 (Int32.toNatClampNeg (x4 * (3 : Int32))))) → (¬ (¬ x2 = (σ.1 17 (Int32.toNatClampNeg ((x4 * (3 : Int32)) + (1 : Int32)))))) → (¬ (¬ x3 = (σ.1 17 (Int32.toNatClampNeg (x4 * (3 : Int32)))))) → Q (some (ax_i (0 : Int32))) σ) (k7 : (¬ (x1 ≤ x4)) → (¬ (¬ x2 = (σ.1 17 (Int32.toNatClampNeg (x4 * (3 : Int32)))))) → (x3 = (σ.1 17 (Int32.toNatClampNeg ((x4 * (3 : Int32)) + (1 : Int32))))) → Q (some (ax_i (0 : Int32))) σ) (k8 : (¬ (x1 ≤ x4)) → (¬ (¬ x2 = (σ.1 17 (Int32.toNatClampNeg (x4 * (3 : Int32)))))) → (¬ (x3 = (σ.1 17 (Int32.toNatClampNeg ((x4 * (3 : Int32)) + (1 : Int32)))))) → (¬ x2 = (σ.1 17 (Int32.toNatClampNeg ((x4 * (3 : Int32)) + (1 : Int32))))) → ax_W shC (d + 1) mX1_isWireSound Q 62 [some (ax_r 2), some (ax_i x1), some (ax_i x2), some (ax_i x3), some (ax_i (x4 + (1 : Int32))), none, none] [] σ) (k9 : (¬ (x1 ≤ x4)) → (¬ (¬ x2 = (σ.1 17 (Int32.toNatClampNeg (x4 * (3 : Int32)))))) → (¬ (x3 = (σ.1 17 (Int32.toNatClampNeg ((x4 * (3 : Int32)) + (1 : Int32)))))) → (¬ (¬ x2 = (σ.1 17 (Int32.toNatClampNeg ((x4 * (3 : Int32)) + (1 : Int32)))))) → (¬ x3 = (σ.1 17 (Int32.toNatClampNeg (x4 * (3 : Int32))))) → ax_W shC (d + 1) mX1_isWireSound Q 62 [some (ax_r 2), some (ax_i x1), some (ax_i x2), some (ax_i x3), some (ax_i (x4 + (1 : Int32))), none, none] [] σ) (k10 : (¬ (x1 ≤ x4)) → (¬ (¬ x2 = (σ.1 17 (Int32.toNatClampNeg (x4 * (3 : Int32)))))) → (¬ (x3 = (σ.1 17 (Int32.toNatClampNeg ((x4 * (3 : Int32)) + (1 : Int32)))))) → (¬ (¬ x2 = (σ.1 17 (Int32.toNatClampNeg ((x4 * (3 : Int32)) + (1 : Int32)))))) → (¬ (¬ x3 = (σ.1 17 (Int32.toNatClampNeg (x4 * (3 : Int32)))))) → Q (some (ax_i (0 : Int32))) σ) : ax_W shC (d + 1) mX1_isWireSound Q 62 [some (ax_r 2), some (ax_i x1), some (ax_i x2), some (ax_i x3), some (ax_i x4), none, none] [] σ := by
  refine ax_iload (q := 64) dX1_isWireSound_62 rfl rfl ?_
  refine ax_iload_n (q := 65) (i := 1) dX1_isWireSound_64 rfl rfl rfl ?_
  refine ax_icmp_ge (tgt := 124) (q := 68) dX1_isWireSound_65 (by decide) rfl (fun c1 => ?_) (fun c1 => ?_)
  · refine ax_iconst (q := 125) dX1_isWireSound_124 rfl ki_1 ?_
    exact ax_iret dX1_isWireSound_125 rfl rfl (k1 c1)
  · refine ax_aload_n (q := 69) (i := 0) dX1_isWireSound_68 rfl rfl rfl ?_
    refine ax_get (q := 72) (k := 2) (j := 3) (v := ax_r 17) dX1_isWireSound_69 rfl shC_2 rfl rfl rfl (by decide) fl_X1_18 ?_
    refine ax_iload (q := 74) dX1_isWireSound_72 rfl rfl ?_
    refine ax_iconst (q := 75) dX1_isWireSound_74 rfl ki_3 ?_
    refine ax_imul (q := 76) dX1_isWireSound_75 rfl ?_
    refine ax_iald (q := 77) (a := (Int32.toNatClampNeg (x4 * (3 : Int32)))) (v := (σ.1 17 (Int32.toNatClampNeg (x4 * (3 : Int32))))) dX1_isWireSound_76 rfl shC_17 (h2 c1) rfl rfl ?_
    refine ax_istore (q := 79) (lv2 := [some (ax_r 2), some (ax_i x1), some (ax_i x2), some (ax_i x3), some (ax_i x4), some (ax_i (σ.1 17 (Int32.toNatClampNeg (x4 * (3 : Int32))))), none]) dX1_isWireSound_77 rfl (by decide) rfl rfl ?_
    refine ax_aload_n (q := 80) (i := 0) dX1_isWireSound_79 rfl rfl rfl ?_
    refine ax_get (q := 83) (k := 2) (j := 3) (v := ax_r 17) dX1_isWireSound_80 rfl shC_2 rfl rfl rfl (by decide) fl_X1_18 ?_
    refine ax_iload (q := 85) dX1_isWireSound_83 rfl rfl ?_
    refine ax_iconst (q := 86) dX1_isWireSound_85 rfl ki_3 ?_
    refine ax_imul (q := 87) dX1_isWireSound_86 rfl ?_
    refine ax_iconst (q := 88) dX1_isWireSound_87 rfl ki_1 ?_
    refine ax_iadd (q := 89) dX1_isWireSound_88 rfl ?_
    refine ax_iald (q := 90) (a := (Int32.toNatClampNeg ((x4 * (3 : Int32)) + (1 : Int32)))) (v := (σ.1 17 (Int32.toNatClampNeg ((x4 * (3 : Int32)) + (1 : Int32))))) dX1_isWireSound_89 rfl shC_17 (h3 c1) rfl rfl ?_
    refine ax_istore (q := 92) (lv2 := [some (ax_r 2), some (ax_i x1), some (ax_i x2), some (ax_i x3), some (ax_i x4), some (ax_i (σ.1 17 (Int32.toNatClampNeg (x4 * (3 : Int32))))), some (ax_i (σ.1 17 (Int32.toNatClampNeg ((x4 * (3 : Int32)) + (1 : Int32)))))]) dX1_isWireSound_90 rfl (by decide) rfl rfl ?_
    refine ax_iload_n (q := 93) (i := 2) dX1_isWireSound_92 rfl rfl rfl ?_
    refine ax_iload (q := 95) dX1_isWireSound_93 rfl rfl ?_
    refine ax_icmp_ne (tgt := 104) (q := 98) dX1_isWireSound_95 (by decide) rfl (fun c2 => ?_) (fun c2 => ?_)
    · refine ax_iload_n (q := 105) (i := 2) dX1_isWireSound_104 rfl rfl rfl ?_
      refine ax_iload (q := 107) dX1_isWireSound_105 rfl rfl ?_
      refine ax_icmp_ne (tgt := 118) (q := 110) dX1_isWireSound_107 (by decide) rfl (fun c3 => ?_) (fun c3 => ?_)
      · refine ax_iincK (q := 121) (lv2 := [some (ax_r 2), some (ax_i x1), some (ax_i x2), some (ax_i x3), some (ax_i (x4 + (1 : Int32))), some (ax_i (σ.1 17 (Int32.toNatClampNeg (x4 * (3 : Int32))))), some (ax_i (σ.1 17 (Int32.toNatClampNeg ((x4 * (3 : Int32)) + (1 : Int32)))))]) dX1_isWireSound_118 rfl rfl ki_1 (by decide) rfl rfl ?_
        refine ax_goto (tgt := 62) dX1_isWireSound_121 (by decide) ?_
        refine ax_fg (lv2 := [some (ax_r 2), some (ax_i x1), some (ax_i x2), some (ax_i x3), some (ax_i (x4 + (1 : Int32))), none, none]) ⟨rfl, rfl, rfl, rfl, rfl, trivial⟩ ?_
        exact (k4 c1 c2 c3)
      · refine ax_iload_n (q := 111) (i := 3) dX1_isWireSound_110 rfl rfl rfl ?_
        refine ax_iload (q := 113) dX1_isWireSound_111 rfl rfl ?_
        refine ax_icmp_ne (tgt := 118) (q := 116) dX1_isWireSound_113 (by decide) rfl (fun c4 => ?_) (fun c4 => ?_)
        · refine ax_iincK (q := 121) (lv2 := [some (ax_r 2), some (ax_i x1), some (ax_i x2), some (ax_i x3), some (ax_i (x4 + (1 : Int32))), some (ax_i (σ.1 17 (Int32.toNatClampNeg (x4 * (3 : Int32))))), some (ax_i (σ.1 17 (Int32.toNatClampNeg ((x4 * (3 : Int32)) + (1 : Int32)))))]) dX1_isWireSound_118 rfl rfl ki_1 (by decide) rfl rfl ?_
          refine ax_goto (tgt := 62) dX1_isWireSound_121 (by decide) ?_
          refine ax_fg (lv2 := [some (ax_r 2), some (ax_i x1), some (ax_i x2), some (ax_i x3), some (ax_i (x4 + (1 : Int32))), none, none]) ⟨rfl, rfl, rfl, rfl, rfl, trivial⟩ ?_
          exact (k5 c1 c2 c3 c4)
        · refine ax_iconst (q := 117) dX1_isWireSound_116 rfl ki_0 ?_
          exact ax_iret dX1_isWireSound_117 rfl rfl (k6 c1 c2 c3 c4)
    · refine ax_iload_n (q := 99) (i := 3) dX1_isWireSound_98 rfl rfl rfl ?_
      refine ax_iload (q := 101) dX1_isWireSound_99 rfl rfl ?_
      refine ax_icmp_eq (tgt := 116) (q := 104) dX1_isWireSound_101 (by decide) rfl (fun c5 => ?_) (fun c5 => ?_)
      · refine ax_iconst (q := 117) dX1_isWireSound_116 rfl ki_0 ?_
        exact ax_iret dX1_isWireSound_117 rfl rfl (k7 c1 c2 c5)
      · refine ax_iload_n (q := 105) (i := 2) dX1_isWireSound_104 rfl rfl rfl ?_
        refine ax_iload (q := 107) dX1_isWireSound_105 rfl rfl ?_
        refine ax_icmp_ne (tgt := 118) (q := 110) dX1_isWireSound_107 (by decide) rfl (fun c6 => ?_) (fun c6 => ?_)
        · refine ax_iincK (q := 121) (lv2 := [some (ax_r 2), some (ax_i x1), some (ax_i x2), some (ax_i x3), some (ax_i (x4 + (1 : Int32))), some (ax_i (σ.1 17 (Int32.toNatClampNeg (x4 * (3 : Int32))))), some (ax_i (σ.1 17 (Int32.toNatClampNeg ((x4 * (3 : Int32)) + (1 : Int32)))))]) dX1_isWireSound_118 rfl rfl ki_1 (by decide) rfl rfl ?_
          refine ax_goto (tgt := 62) dX1_isWireSound_121 (by decide) ?_
          refine ax_fg (lv2 := [some (ax_r 2), some (ax_i x1), some (ax_i x2), some (ax_i x3), some (ax_i (x4 + (1 : Int32))), none, none]) ⟨rfl, rfl, rfl, rfl, rfl, trivial⟩ ?_
          exact (k8 c1 c2 c5 c6)
        · refine ax_iload_n (q := 111) (i := 3) dX1_isWireSound_110 rfl rfl rfl ?_
          refine ax_iload (q := 113) dX1_isWireSound_111 rfl rfl ?_
          refine ax_icmp_ne (tgt := 118) (q := 116) dX1_isWireSound_113 (by decide) rfl (fun c7 => ?_) (fun c7 => ?_)
          · refine ax_iincK (q := 121) (lv2 := [some (ax_r 2), some (ax_i x1), some (ax_i x2), some (ax_i x3), some (ax_i (x4 + (1 : Int32))), some (ax_i (σ.1 17 (Int32.toNatClampNeg (x4 * (3 : Int32))))), some (ax_i (σ.1 17 (Int32.toNatClampNeg ((x4 * (3 : Int32)) + (1 : Int32)))))]) dX1_isWireSound_118 rfl rfl ki_1 (by decide) rfl rfl ?_
            refine ax_goto (tgt := 62) dX1_isWireSound_121 (by decide) ?_
            refine ax_fg (lv2 := [some (ax_r 2), some (ax_i x1), some (ax_i x2), some (ax_i x3), some (ax_i (x4 + (1 : Int32))), none, none]) ⟨rfl, rfl, rfl, rfl, rfl, trivial⟩ ?_
            exact (k9 c1 c2 c5 c6 c7)
          · refine ax_iconst (q := 117) dX1_isWireSound_116 rfl ki_0 ?_
            exact ax_iret dX1_isWireSound_117 rfl rfl (k10 c1 c2 c5 c6 c7)
set_option maxRecDepth 20000 in
theorem s_X1_isWhole_0 {d : Nat} (hd : 0 ≤ d) {Q : Option ax_V → ax_S → Prop} (σ : ax_S)  (k1 : ((2 : Int32) ≤ (σ.1 2 5)) → ax_W shC (d + 1) mX1_isWhole Q 12 [some (ax_r 2), some (ax_i (0 : Int32))] [] σ) (k2 : (¬ ((2 : Int32) ≤ (σ.1 2 5))) → Q (some (ax_i (0 : Int32))) σ) : ax_W shC (d + 1) mX1_isWhole Q 0 [some (ax_r 2), none] [] σ := by
  refine ax_aload_n (q := 1) (i := 0) dX1_isWhole_0 rfl rfl rfl ?_
  refine ax_get (q := 4) (k := 2) (j := 5) (v := ax_i (σ.1 2 5)) dX1_isWhole_1 rfl shC_2 rfl rfl rfl (by decide) fl_X1_35 ?_
  refine ax_iconst (q := 5) dX1_isWhole_4 rfl ki_2 ?_
  refine ax_icmp_ge (tgt := 10) (q := 8) dX1_isWhole_5 (by decide) rfl (fun c1 => ?_) (fun c1 => ?_)
  · refine ax_iconst (q := 11) dX1_isWhole_10 rfl ki_0 ?_
    refine ax_istore_n (q := 12) (i := 1) (lv2 := [some (ax_r 2), some (ax_i (0 : Int32))]) dX1_isWhole_11 rfl rfl (by decide) rfl rfl ?_
    exact (k1 c1)
  · refine ax_iconst (q := 9) dX1_isWhole_8 rfl ki_0 ?_
    exact ax_iret dX1_isWhole_9 rfl rfl (k2 c1)
set_option maxRecDepth 20000 in
theorem s_X1_isWhole_12 {d : Nat} (hd : 0 ≤ d) {Q : Option ax_V → ax_S → Prop} (σ : ax_S) (x1 : Int32) (k1 : ((σ.1 2 6) ≤ x1) → Q (some (ax_i (1 : Int32))) σ) (k2 : (¬ ((σ.1 2 6) ≤ x1)) → ax_Ct shC d mX1_isWireSound [ax_r 2, ax_i x1] (fun r u => ∃ x : Int32, r = some (ax_i x) ∧ ax_W shC (d + 1) mX1_isWhole Q 25 [some (ax_r 2), some (ax_i x1)] (ax_i x :: []) u) σ) : ax_W shC (d + 1) mX1_isWhole Q 12 [some (ax_r 2), some (ax_i x1)] [] σ := by
  refine ax_iload_n (q := 13) (i := 1) dX1_isWhole_12 rfl rfl rfl ?_
  refine ax_aload_n (q := 14) (i := 0) dX1_isWhole_13 rfl rfl rfl ?_
  refine ax_get (q := 17) (k := 2) (j := 6) (v := ax_i (σ.1 2 6)) dX1_isWhole_14 rfl shC_2 rfl rfl rfl (by decide) fl_X1_38 ?_
  refine ax_icmp_ge (tgt := 36) (q := 20) dX1_isWhole_17 (by decide) rfl (fun c1 => ?_) (fun c1 => ?_)
  · refine ax_iconst (q := 37) dX1_isWhole_36 rfl ki_1 ?_
    exact ax_iret dX1_isWhole_37 rfl rfl (k1 c1)
  · refine ax_aload_n (q := 21) (i := 0) dX1_isWhole_20 rfl rfl rfl ?_
    refine ax_iload_n (q := 22) (i := 1) dX1_isWhole_21 rfl rfl rfl ?_
    exact ax_callVci (q := 25) (As := [ax_i x1]) (st := []) dX1_isWhole_22 rfl lk_X1_93 shC_2 rfl rfl rfl rfl (Nat.le_of_ble_eq_true rfl) (k2 c1)
set_option maxRecDepth 20000 in
theorem s_X1_isWhole_25 {d : Nat} (hd : 0 ≤ d) {Q : Option ax_V → ax_S → Prop} (σ : ax_S) (x1 : Int32) (rr : Int32) (k1 : (¬ rr = 0) → ax_W shC (d + 1) mX1_isWhole Q 12 [some (ax_r 2), some (ax_i (x1 + (1 : Int32)))] [] σ) (k2 : (¬ (¬ rr = 0)) → Q (some (ax_i (0 : Int32))) σ) : ax_W shC (d + 1) mX1_isWhole Q 25 [some (ax_r 2), some (ax_i x1)] [ax_i rr] σ := by
  refine ax_if_ne (tgt := 30) (q := 28) dX1_isWhole_25 (by decide) rfl (fun c1 => ?_) (fun c1 => ?_)
  · refine ax_iincK (q := 33) (lv2 := [some (ax_r 2), some (ax_i (x1 + (1 : Int32)))]) dX1_isWhole_30 rfl rfl ki_1 (by decide) rfl rfl ?_
    refine ax_goto (tgt := 12) dX1_isWhole_33 (by decide) ?_
    exact (k1 c1)
  · refine ax_iconst (q := 29) dX1_isWhole_28 rfl ki_0 ?_
    exact ax_iret dX1_isWhole_29 rfl rfl (k2 c1)
set_option maxRecDepth 20000 in
theorem s_X9_sign_0 {d : Nat} (hd : 0 ≤ d) {Q : Option ax_V → ax_S → Prop} (σ : ax_S)  (h1 : ((σ.1 1 1) ≤ (σ.1 1 2)) → (¬ ((σ.1 1 1) ≤ (σ.1 1 2))) → vp_in (σ.1 1 2) 240) (k2 : ((σ.1 1 1) ≤ (σ.1 1 2)) → Q (some (ax_i (if ((σ.1 1 1) ≤ (σ.1 1 2)) then (-1 : Int32) else (σ.1 14 (Int32.toNatClampNeg (σ.1 1 2)))))) σ) (h3 : (¬ ((σ.1 1 1) ≤ (σ.1 1 2))) → vp_in (σ.1 1 2) 240) (h4 : (¬ ((σ.1 1 1) ≤ (σ.1 1 2))) → (¬ (σ.1 14 (Int32.toNatClampNeg (σ.1 1 2))) = (32 : Int32)) → (¬ ((σ.1 1 1) ≤ (σ.1 1 2))) → vp_in (σ.1 1 2) 240) (k5 : (¬ ((σ.1 1 1) ≤ (σ.1 1 2))) → (¬ (σ.1 14 (Int32.toNatClampNeg (σ.1 1 2))) = (32 : Int32)) → Q (some (ax_i (if ((σ.1 1 1) ≤ (σ.1 1 2)) then (-1 : Int32) else (σ.1 14 (Int32.toNatClampNeg (σ.1 1 2)))))) σ) (k6 : (¬ ((σ.1 1 1) ≤ (σ.1 1 2))) → (¬ (¬ (σ.1 14 (Int32.toNatClampNeg (σ.1 1 2))) = (32 : Int32))) → ax_W shC (d + 1) mX9_sign Q 0 [some (ax_r 1)] [] (ax_ui σ 1 2 ((σ.1 1 2) + (1 : Int32)))) : ax_W shC (d + 1) mX9_sign Q 0 [some (ax_r 1)] [] σ := by
  refine ax_aload_n (q := 1) (i := 0) dX9_sign_0 rfl rfl rfl ?_
  refine ax_get (q := 4) (k := 1) (j := 2) (v := ax_i (σ.1 1 2)) dX9_sign_1 rfl shC_1 rfl rfl rfl (by decide) fl_X9_19 ?_
  refine ax_aload_n (q := 5) (i := 0) dX9_sign_4 rfl rfl rfl ?_
  refine ax_get (q := 8) (k := 1) (j := 1) (v := ax_i (σ.1 1 1)) dX9_sign_5 rfl shC_1 rfl rfl rfl (by decide) fl_X9_15 ?_
  refine ax_icmp_ge (tgt := 38) (q := 11) dX9_sign_8 (by decide) rfl (fun c1 => ?_) (fun c1 => ?_)
  · refine ax_aload_n (q := 39) (i := 0) dX9_sign_38 rfl rfl rfl ?_
    refine ax_get (q := 42) (k := 1) (j := 2) (v := ax_i (σ.1 1 2)) dX9_sign_39 rfl shC_1 rfl rfl rfl (by decide) fl_X9_19 ?_
    refine ax_aload_n (q := 43) (i := 0) dX9_sign_42 rfl rfl rfl ?_
    refine ax_get (q := 46) (k := 1) (j := 1) (v := ax_i (σ.1 1 1)) dX9_sign_43 rfl shC_1 rfl rfl rfl (by decide) fl_X9_15 ?_
    have K3 : ax_W shC (d + 1) mX9_sign Q 62 [some (ax_r 1)] [ax_i (if ((σ.1 1 1) ≤ (σ.1 1 2)) then (-1 : Int32) else (σ.1 14 (Int32.toNatClampNeg (σ.1 1 2))))] σ := by
      exact ax_iret dX9_sign_62 rfl rfl (k2 c1)
    refine ax_icmp_ge (tgt := 61) (q := 49) dX9_sign_46 (by decide) rfl (fun c2 => ?_) (fun c2 => ?_)
    · refine ax_iconst (q := 62) dX9_sign_61 rfl ki_m1 ?_
      exact ax_cv (if_pos c2) K3
    · refine ax_aload_n (q := 50) (i := 0) dX9_sign_49 rfl rfl rfl ?_
      refine ax_get (q := 53) (k := 1) (j := 0) (v := ax_r 14) dX9_sign_50 rfl shC_1 rfl rfl rfl (by decide) fl_X9_9 ?_
      refine ax_aload_n (q := 54) (i := 0) dX9_sign_53 rfl rfl rfl ?_
      refine ax_get (q := 57) (k := 1) (j := 2) (v := ax_i (σ.1 1 2)) dX9_sign_54 rfl shC_1 rfl rfl rfl (by decide) fl_X9_19 ?_
      refine ax_iald (q := 58) (a := (Int32.toNatClampNeg (σ.1 1 2))) (v := (σ.1 14 (Int32.toNatClampNeg (σ.1 1 2)))) dX9_sign_57 rfl shC_14 (h1 c1 c2) rfl rfl ?_
      refine ax_goto (tgt := 62) dX9_sign_58 (by decide) ?_
      exact ax_cv (if_neg c2) K3
  · refine ax_aload_n (q := 12) (i := 0) dX9_sign_11 rfl rfl rfl ?_
    refine ax_get (q := 15) (k := 1) (j := 0) (v := ax_r 14) dX9_sign_12 rfl shC_1 rfl rfl rfl (by decide) fl_X9_9 ?_
    refine ax_aload_n (q := 16) (i := 0) dX9_sign_15 rfl rfl rfl ?_
    refine ax_get (q := 19) (k := 1) (j := 2) (v := ax_i (σ.1 1 2)) dX9_sign_16 rfl shC_1 rfl rfl rfl (by decide) fl_X9_19 ?_
    refine ax_iald (q := 20) (a := (Int32.toNatClampNeg (σ.1 1 2))) (v := (σ.1 14 (Int32.toNatClampNeg (σ.1 1 2)))) dX9_sign_19 rfl shC_14 (h3 c1) rfl rfl ?_
    refine ax_bipush (q := 22) dX9_sign_20 rfl kb_32 ?_
    refine ax_icmp_ne (tgt := 38) (q := 25) dX9_sign_22 (by decide) rfl (fun c4 => ?_) (fun c4 => ?_)
    · refine ax_aload_n (q := 39) (i := 0) dX9_sign_38 rfl rfl rfl ?_
      refine ax_get (q := 42) (k := 1) (j := 2) (v := ax_i (σ.1 1 2)) dX9_sign_39 rfl shC_1 rfl rfl rfl (by decide) fl_X9_19 ?_
      refine ax_aload_n (q := 43) (i := 0) dX9_sign_42 rfl rfl rfl ?_
      refine ax_get (q := 46) (k := 1) (j := 1) (v := ax_i (σ.1 1 1)) dX9_sign_43 rfl shC_1 rfl rfl rfl (by decide) fl_X9_15 ?_
      have K6 : ax_W shC (d + 1) mX9_sign Q 62 [some (ax_r 1)] [ax_i (if ((σ.1 1 1) ≤ (σ.1 1 2)) then (-1 : Int32) else (σ.1 14 (Int32.toNatClampNeg (σ.1 1 2))))] σ := by
        exact ax_iret dX9_sign_62 rfl rfl (k5 c1 c4)
      refine ax_icmp_ge (tgt := 61) (q := 49) dX9_sign_46 (by decide) rfl (fun c5 => ?_) (fun c5 => ?_)
      · refine ax_iconst (q := 62) dX9_sign_61 rfl ki_m1 ?_
        exact ax_cv (if_pos c5) K6
      · refine ax_aload_n (q := 50) (i := 0) dX9_sign_49 rfl rfl rfl ?_
        refine ax_get (q := 53) (k := 1) (j := 0) (v := ax_r 14) dX9_sign_50 rfl shC_1 rfl rfl rfl (by decide) fl_X9_9 ?_
        refine ax_aload_n (q := 54) (i := 0) dX9_sign_53 rfl rfl rfl ?_
        refine ax_get (q := 57) (k := 1) (j := 2) (v := ax_i (σ.1 1 2)) dX9_sign_54 rfl shC_1 rfl rfl rfl (by decide) fl_X9_19 ?_
        refine ax_iald (q := 58) (a := (Int32.toNatClampNeg (σ.1 1 2))) (v := (σ.1 14 (Int32.toNatClampNeg (σ.1 1 2)))) dX9_sign_57 rfl shC_14 (h4 c1 c4 c5) rfl rfl ?_
        refine ax_goto (tgt := 62) dX9_sign_58 (by decide) ?_
        exact ax_cv (if_neg c5) K6
    · refine ax_aload_n (q := 26) (i := 0) dX9_sign_25 rfl rfl rfl ?_
      refine ax_dupr (q := 27) dX9_sign_26 rfl ?_
      refine ax_get (q := 30) (k := 1) (j := 2) (v := ax_i (σ.1 1 2)) dX9_sign_27 rfl shC_1 rfl rfl rfl (by decide) fl_X9_19 ?_
      refine ax_iconst (q := 31) dX9_sign_30 rfl ki_1 ?_
      refine ax_iadd (q := 32) dX9_sign_31 rfl ?_
      refine ax_puti (q := 35) (k := 1) (j := 2) dX9_sign_32 rfl shC_1 rfl rfl (by decide) fl_X9_19 rfl rfl rfl rfl ?_
      refine ax_goto (tgt := 0) dX9_sign_35 (by decide) ?_
      exact (k6 c1 c4)
set_option maxRecDepth 20000 in
theorem s_X1_itemAt_0 {d : Nat} (hd : 0 ≤ d) {Q : Option ax_V → ax_S → Prop} (σ : ax_S) (a0 : Int32) (a1 : Int32) (k1 : ax_Ct shC d mX9_sign [ax_r 1] (fun r u => ∃ x : Int32, r = some (ax_i x) ∧ ax_W shC (d + 1) mX1_itemAt Q 7 [none, some (ax_i a0), some (ax_i a1), none, none] (ax_i x :: []) u) σ) : ax_W shC (d + 1) mX1_itemAt Q 0 [some (ax_r 2), some (ax_i a0), some (ax_i a1), none, none] [] σ := by
  refine ax_aload_n (q := 1) (i := 0) dX1_itemAt_0 rfl rfl rfl ?_
  refine ax_get (q := 4) (k := 2) (j := 0) (v := ax_r 1) dX1_itemAt_1 rfl shC_2 rfl rfl rfl (by decide) fl_X1_21 ?_
  refine ax_fg (lv2 := [none, some (ax_i a0), some (ax_i a1), none, none]) ⟨rfl, rfl, trivial⟩ ?_
  exact ax_callVci (q := 7) (As := []) (st := []) dX1_itemAt_4 rfl lk_X1_53 shC_1 rfl rfl rfl rfl (Nat.le_of_ble_eq_true rfl) k1
set_option maxRecDepth 20000 in
theorem s_X1_itemAt_7 {d : Nat} (hd : 0 ≤ d) {Q : Option ax_V → ax_S → Prop} (σ : ax_S) (x1 : Int32) (x2 : Int32) (rr : Int32) (k1 : ax_W shC (d + 1) mX1_itemAt Q 11 [none, none, some (ax_i x2), some (ax_i rr), some (ax_i x1)] [] σ) : ax_W shC (d + 1) mX1_itemAt Q 7 [none, some (ax_i x1), some (ax_i x2), none, none] [ax_i rr] σ := by
  refine ax_istore_n (q := 8) (i := 3) (lv2 := [none, some (ax_i x1), some (ax_i x2), some (ax_i rr), none]) dX1_itemAt_7 rfl rfl (by decide) rfl rfl ?_
  refine ax_iload_n (q := 9) (i := 1) dX1_itemAt_8 rfl rfl rfl ?_
  refine ax_istore (q := 11) (lv2 := [none, some (ax_i x1), some (ax_i x2), some (ax_i rr), some (ax_i x1)]) dX1_itemAt_9 rfl (by decide) rfl rfl ?_
  refine ax_fg (lv2 := [none, none, some (ax_i x2), some (ax_i rr), some (ax_i x1)]) ⟨rfl, rfl, rfl, trivial⟩ ?_
  exact k1
set_option maxRecDepth 20000 in
theorem s_X1_itemAt_11 {d : Nat} (hd : 0 ≤ d) {Q : Option ax_V → ax_S → Prop} (σ : ax_S) (x2 : Int32) (x3 : Int32) (x4 : Int32) (k1 : (x2 ≤ x4) → Q (some (ax_i (-1 : Int32))) σ) (h2 : (¬ (x2 ≤ x4)) → vp_in x4 9) (k3 : (¬ (x2 ≤ x4)) → (¬ (List.getD ([99, 100, 120, 116, 108, 107, 97, 98, 115] : List Int32) (Int32.toNatClampNeg x4) 0) = x3) → ax_W shC (d + 1) mX1_itemAt Q 11 [none, none, some (ax_i x2), some (ax_i x3), some (ax_i (x4 + (1 : Int32)))] [] σ) (k4 : (¬ (x2 ≤ x4)) → (¬ (¬ (List.getD ([99, 100, 120, 116, 108, 107, 97, 98, 115] : List Int32) (Int32.toNatClampNeg x4) 0) = x3)) → Q (some (ax_i x4)) σ) : ax_W shC (d + 1) mX1_itemAt Q 11 [none, none, some (ax_i x2), some (ax_i x3), some (ax_i x4)] [] σ := by
  refine ax_iload (q := 13) dX1_itemAt_11 rfl rfl ?_
  refine ax_iload_n (q := 14) (i := 2) dX1_itemAt_13 rfl rfl rfl ?_
  refine ax_icmp_ge (tgt := 36) (q := 17) dX1_itemAt_14 (by decide) rfl (fun c1 => ?_) (fun c1 => ?_)
  · refine ax_iconst (q := 37) dX1_itemAt_36 rfl ki_m1 ?_
    exact ax_iret dX1_itemAt_37 rfl rfl (k1 c1)
  · refine ax_gets (q := 20) dX1_itemAt_17 rfl st_2 fl_X1_64 ?_
    refine ax_iload (q := 22) dX1_itemAt_20 rfl rfl ?_
    refine ax_tcld (q := 23) (t := 2) dX1_itemAt_22 rfl st_2 (h2 c1) rfl ?_
    refine ax_iload_n (q := 24) (i := 3) dX1_itemAt_23 rfl rfl rfl ?_
    refine ax_icmp_ne (tgt := 30) (q := 27) dX1_itemAt_24 (by decide) rfl (fun c2 => ?_) (fun c2 => ?_)
    · refine ax_iincK (q := 33) (lv2 := [none, none, some (ax_i x2), some (ax_i x3), some (ax_i (x4 + (1 : Int32)))]) dX1_itemAt_30 rfl rfl ki_1 (by decide) rfl rfl ?_
      refine ax_goto (tgt := 11) dX1_itemAt_33 (by decide) ?_
      exact (k3 c1 c2)
    · refine ax_iload (q := 29) dX1_itemAt_27 rfl rfl ?_
      exact ax_iret dX1_itemAt_29 rfl rfl (k4 c1 c2)
set_option maxRecDepth 20000 in
theorem f_X9_atDigit (σ : ax_S)  (h1 : (¬ ((σ.1 1 1) ≤ (σ.1 1 2))) → vp_in (σ.1 1 2) 240) (h2 : (¬ ((σ.1 1 1) ≤ (σ.1 1 2))) → (¬ ((σ.1 14 (Int32.toNatClampNeg (σ.1 1 2))) < (48 : Int32))) → vp_in (σ.1 1 2) 240) {d : Nat} (hd : 1 ≤ d) : ax_Ct shC d mX9_atDigit [ax_r 1] (fun r u => r = some (ax_i (if ((¬ ((σ.1 1 1) ≤ (σ.1 1 2))) ∧ ((¬ ((σ.1 14 (Int32.toNatClampNeg (σ.1 1 2))) < (48 : Int32))) ∧ (¬ ((57 : Int32) < (σ.1 14 (Int32.toNatClampNeg (σ.1 1 2))))))) then (1 : Int32) else 0)) ∧ u = σ) σ := by
  obtain ⟨d, rfl⟩ : ∃ e, d = e + 1 := ⟨d - 1, by omega⟩
  refine ax_Ct.of (lv := [some (ax_r 1)]) (by decide +kernel) (fun ad => Nat.le_of_ble_eq_true rfl) (fun ad => rfl) ?_
  refine ax_aload_n (q := 1) (i := 0) dX9_atDigit_0 rfl rfl rfl ?_
  refine ax_get (q := 4) (k := 1) (j := 2) (v := ax_i (σ.1 1 2)) dX9_atDigit_1 rfl shC_1 rfl rfl rfl (by decide) fl_X9_19 ?_
  refine ax_aload_n (q := 5) (i := 0) dX9_atDigit_4 rfl rfl rfl ?_
  refine ax_get (q := 8) (k := 1) (j := 1) (v := ax_i (σ.1 1 1)) dX9_atDigit_5 rfl shC_1 rfl rfl rfl (by decide) fl_X9_15 ?_
  have K4 : ax_W shC (d + 1) mX9_atDigit (fun r u => r = some (ax_i (if ((¬ ((σ.1 1 1) ≤ (σ.1 1 2))) ∧ ((¬ ((σ.1 14 (Int32.toNatClampNeg (σ.1 1 2))) < (48 : Int32))) ∧ (¬ ((57 : Int32) < (σ.1 14 (Int32.toNatClampNeg (σ.1 1 2))))))) then (1 : Int32) else 0)) ∧ u = σ) 44 [some (ax_r 1)] [ax_i (if ((¬ ((σ.1 1 1) ≤ (σ.1 1 2))) ∧ ((¬ ((σ.1 14 (Int32.toNatClampNeg (σ.1 1 2))) < (48 : Int32))) ∧ (¬ ((57 : Int32) < (σ.1 14 (Int32.toNatClampNeg (σ.1 1 2))))))) then (1 : Int32) else 0)] σ := by
    exact ax_iret dX9_atDigit_44 rfl (ax_nb _) ⟨rfl, rfl⟩
  refine ax_icmp_ge (tgt := 43) (q := 11) dX9_atDigit_8 (by decide) rfl (fun c1 => ?_) (fun c1 => ?_)
  · refine ax_iconst (q := 44) dX9_atDigit_43 rfl ki_0 ?_
    exact ax_cv (if_neg (fun z => (fun y => y c1) z.1)) K4
  · refine ax_aload_n (q := 12) (i := 0) dX9_atDigit_11 rfl rfl rfl ?_
    refine ax_get (q := 15) (k := 1) (j := 0) (v := ax_r 14) dX9_atDigit_12 rfl shC_1 rfl rfl rfl (by decide) fl_X9_9 ?_
    refine ax_aload_n (q := 16) (i := 0) dX9_atDigit_15 rfl rfl rfl ?_
    refine ax_get (q := 19) (k := 1) (j := 2) (v := ax_i (σ.1 1 2)) dX9_atDigit_16 rfl shC_1 rfl rfl rfl (by decide) fl_X9_19 ?_
    refine ax_iald (q := 20) (a := (Int32.toNatClampNeg (σ.1 1 2))) (v := (σ.1 14 (Int32.toNatClampNeg (σ.1 1 2)))) dX9_atDigit_19 rfl shC_14 (h1 c1) rfl rfl ?_
    refine ax_bipush (q := 22) dX9_atDigit_20 rfl kb_48 ?_
    refine ax_icmp_lt (tgt := 43) (q := 25) dX9_atDigit_22 (by decide) rfl (fun c2 => ?_) (fun c2 => ?_)
    · refine ax_iconst (q := 44) dX9_atDigit_43 rfl ki_0 ?_
      exact ax_cv (if_neg (fun z => (fun z => (fun y => y c2) z.1) z.2)) K4
    · refine ax_aload_n (q := 26) (i := 0) dX9_atDigit_25 rfl rfl rfl ?_
      refine ax_get (q := 29) (k := 1) (j := 0) (v := ax_r 14) dX9_atDigit_26 rfl shC_1 rfl rfl rfl (by decide) fl_X9_9 ?_
      refine ax_aload_n (q := 30) (i := 0) dX9_atDigit_29 rfl rfl rfl ?_
      refine ax_get (q := 33) (k := 1) (j := 2) (v := ax_i (σ.1 1 2)) dX9_atDigit_30 rfl shC_1 rfl rfl rfl (by decide) fl_X9_19 ?_
      refine ax_iald (q := 34) (a := (Int32.toNatClampNeg (σ.1 1 2))) (v := (σ.1 14 (Int32.toNatClampNeg (σ.1 1 2)))) dX9_atDigit_33 rfl shC_14 (h2 c1 c2) rfl rfl ?_
      refine ax_bipush (q := 36) dX9_atDigit_34 rfl kb_57 ?_
      refine ax_icmp_gt (tgt := 43) (q := 39) dX9_atDigit_36 (by decide) rfl (fun c3 => ?_) (fun c3 => ?_)
      · refine ax_iconst (q := 44) dX9_atDigit_43 rfl ki_0 ?_
        exact ax_cv (if_neg (fun z => (fun z => (fun y => y c3) z.2) z.2)) K4
      · refine ax_iconst (q := 40) dX9_atDigit_39 rfl ki_1 ?_
        refine ax_goto (tgt := 44) dX9_atDigit_40 (by decide) ?_
        exact ax_cv (if_pos ⟨c1, ⟨c2, c3⟩⟩) K4
set_option maxRecDepth 20000 in
theorem s_X9_takesNumber_0 {d : Nat} (hd : 0 ≤ d) {Q : Option ax_V → ax_S → Prop} (σ : ax_S) (a0 : Int32) (k1 : ax_Ct shC d mX9_sign [ax_r 1] (fun r u => ∃ x : Int32, r = some (ax_i x) ∧ ax_W shC (d + 1) mX9_takesNumber Q 4 [some (ax_r 1), some (ax_i a0), none] (ax_i x :: []) u) σ) : ax_W shC (d + 1) mX9_takesNumber Q 0 [some (ax_r 1), some (ax_i a0), none] [] σ := by
  refine ax_aload_n (q := 1) (i := 0) dX9_takesNumber_0 rfl rfl rfl ?_
  exact ax_callVci (q := 4) (As := []) (st := []) dX9_takesNumber_1 rfl lk_X9_22 shC_1 rfl rfl rfl rfl (Nat.le_of_ble_eq_true rfl) k1
set_option maxRecDepth 20000 in
theorem s_X9_takesNumber_4 {d : Nat} (hd : 1 ≤ d) {Q : Option ax_V → ax_S → Prop} (σ : ax_S) (x1 : Int32) (rr : Int32) (h1 : (¬ ((σ.1 1 1) ≤ (σ.1 1 2))) → vp_in (σ.1 1 2) 240) (h2 : (¬ ((σ.1 1 1) ≤ (σ.1 1 2))) → (¬ ((σ.1 14 (Int32.toNatClampNeg (σ.1 1 2))) < (48 : Int32))) → vp_in (σ.1 1 2) 240) (k3 : ((¬ ((σ.1 1 1) ≤ (σ.1 1 2))) ∧ ((¬ ((σ.1 14 (Int32.toNatClampNeg (σ.1 1 2))) < (48 : Int32))) ∧ (¬ ((57 : Int32) < (σ.1 14 (Int32.toNatClampNeg (σ.1 1 2))))))) → ax_W shC (d + 1) mX9_takesNumber Q 21 [some (ax_r 1), some (ax_i x1), some (ax_i (0 : Int32))] [] (ax_ui σ 1 3 (0 : Int32))) (k4 : (¬ ((¬ ((σ.1 1 1) ≤ (σ.1 1 2))) ∧ ((¬ ((σ.1 14 (Int32.toNatClampNeg (σ.1 1 2))) < (48 : Int32))) ∧ (¬ ((57 : Int32) < (σ.1 14 (Int32.toNatClampNeg (σ.1 1 2)))))))) → Q (some (ax_i (0 : Int32))) σ) : ax_W shC (d + 1) mX9_takesNumber Q 4 [some (ax_r 1), some (ax_i x1), none] [ax_i rr] σ := by
  refine ax_popi (q := 5) dX9_takesNumber_4 rfl ?_
  refine ax_aload_n (q := 6) (i := 0) dX9_takesNumber_5 rfl rfl rfl ?_
  refine ax_callVfi (q := 9) (As := []) (st := []) (x := (if ((¬ ((σ.1 1 1) ≤ (σ.1 1 2))) ∧ ((¬ ((σ.1 14 (Int32.toNatClampNeg (σ.1 1 2))) < (48 : Int32))) ∧ (¬ ((57 : Int32) < (σ.1 14 (Int32.toNatClampNeg (σ.1 1 2))))))) then (1 : Int32) else 0)) (σ2 := σ) dX9_takesNumber_6 rfl lk_X9_26 shC_1 rfl rfl rfl rfl (Nat.le_of_ble_eq_true rfl) (f_X9_atDigit σ  h1 h2 (d := d) (by omega)) ?_
  refine ax_if_neB (tgt := 14) (q := 12) dX9_takesNumber_9 (by decide) rfl (fun c1 => ?_) (fun c1 => ?_)
  · refine ax_aload_n (q := 15) (i := 0) dX9_takesNumber_14 rfl rfl rfl ?_
    refine ax_iconst (q := 16) dX9_takesNumber_15 rfl ki_0 ?_
    refine ax_puti (q := 19) (k := 1) (j := 3) dX9_takesNumber_16 rfl shC_1 rfl rfl (by decide) fl_X9_30 rfl rfl rfl rfl ?_
    refine ax_iconst (q := 20) dX9_takesNumber_19 rfl ki_0 ?_
    refine ax_istore_n (q := 21) (i := 2) (lv2 := [some (ax_r 1), some (ax_i x1), some (ax_i (0 : Int32))]) dX9_takesNumber_20 rfl rfl (by decide) rfl rfl ?_
    exact (k3 c1)
  · refine ax_iconst (q := 13) dX9_takesNumber_12 rfl ki_0 ?_
    exact ax_iret dX9_takesNumber_13 rfl rfl (k4 c1)
set_option maxRecDepth 20000 in
theorem s_X9_takesNumber_21 {d : Nat} (hd : 1 ≤ d) {Q : Option ax_V → ax_S → Prop} (σ : ax_S) (x1 : Int32) (x2 : Int32) (h1 : (x1 ≤ x2) → (¬ ((σ.1 1 1) ≤ (σ.1 1 2))) → vp_in (σ.1 1 2) 240) (h2 : (x1 ≤ x2) → (¬ ((σ.1 1 1) ≤ (σ.1 1 2))) → (¬ ((σ.1 14 (Int32.toNatClampNeg (σ.1 1 2))) < (48 : Int32))) → vp_in (σ.1 1 2) 240) (k3 : (x1 ≤ x2) → Q (some (ax_i (if (¬ ((¬ ((σ.1 1 1) ≤ (σ.1 1 2))) ∧ ((¬ ((σ.1 14 (Int32.toNatClampNeg (σ.1 1 2))) < (48 : Int32))) ∧ (¬ ((57 : Int32) < (σ.1 14 (Int32.toNatClampNeg (σ.1 1 2)))))))) then (1 : Int32) else 0))) σ) (h4 : (¬ (x1 ≤ x2)) → (¬ ((σ.1 1 1) ≤ (σ.1 1 2))) → vp_in (σ.1 1 2) 240) (h5 : (¬ (x1 ≤ x2)) → (¬ ((σ.1 1 1) ≤ (σ.1 1 2))) → (¬ ((σ.1 14 (Int32.toNatClampNeg (σ.1 1 2))) < (48 : Int32))) → vp_in (σ.1 1 2) 240) (h6 : (¬ (x1 ≤ x2)) → (¬ ((¬ ((σ.1 1 1) ≤ (σ.1 1 2))) ∧ ((¬ ((σ.1 14 (Int32.toNatClampNeg (σ.1 1 2))) < (48 : Int32))) ∧ (¬ ((57 : Int32) < (σ.1 14 (Int32.toNatClampNeg (σ.1 1 2)))))))) → (¬ ((σ.1 1 1) ≤ (σ.1 1 2))) → vp_in (σ.1 1 2) 240) (h7 : (¬ (x1 ≤ x2)) → (¬ ((¬ ((σ.1 1 1) ≤ (σ.1 1 2))) ∧ ((¬ ((σ.1 14 (Int32.toNatClampNeg (σ.1 1 2))) < (48 : Int32))) ∧ (¬ ((57 : Int32) < (σ.1 14 (Int32.toNatClampNeg (σ.1 1 2)))))))) → (¬ ((σ.1 1 1) ≤ (σ.1 1 2))) → (¬ ((σ.1 14 (Int32.toNatClampNeg (σ.1 1 2))) < (48 : Int32))) → vp_in (σ.1 1 2) 240) (k8 : (¬ (x1 ≤ x2)) → (¬ ((¬ ((σ.1 1 1) ≤ (σ.1 1 2))) ∧ ((¬ ((σ.1 14 (Int32.toNatClampNeg (σ.1 1 2))) < (48 : Int32))) ∧ (¬ ((57 : Int32) < (σ.1 14 (Int32.toNatClampNeg (σ.1 1 2)))))))) → Q (some (ax_i (if (¬ ((¬ ((σ.1 1 1) ≤ (σ.1 1 2))) ∧ ((¬ ((σ.1 14 (Int32.toNatClampNeg (σ.1 1 2))) < (48 : Int32))) ∧ (¬ ((57 : Int32) < (σ.1 14 (Int32.toNatClampNeg (σ.1 1 2)))))))) then (1 : Int32) else 0))) σ) (h9 : (¬ (x1 ≤ x2)) → ((¬ ((σ.1 1 1) ≤ (σ.1 1 2))) ∧ ((¬ ((σ.1 14 (Int32.toNatClampNeg (σ.1 1 2))) < (48 : Int32))) ∧ (¬ ((57 : Int32) < (σ.1 14 (Int32.toNatClampNeg (σ.1 1 2))))))) → vp_in (σ.1 1 2) 240) (k10 : (¬ (x1 ≤ x2)) → ((¬ ((σ.1 1 1) ≤ (σ.1 1 2))) ∧ ((¬ ((σ.1 14 (Int32.toNatClampNeg (σ.1 1 2))) < (48 : Int32))) ∧ (¬ ((57 : Int32) < (σ.1 14 (Int32.toNatClampNeg (σ.1 1 2))))))) → ax_W shC (d + 1) mX9_takesNumber Q 21 [some (ax_r 1), some (ax_i x1), some (ax_i (x2 + (1 : Int32)))] [] (ax_ui (ax_ui σ 1 3 ((((σ.1 1 3) * (10 : Int32)) + (σ.1 14 (Int32.toNatClampNeg (σ.1 1 2)))) - (48 : Int32))) 1 2 ((σ.1 1 2) + (1 : Int32)))) : ax_W shC (d + 1) mX9_takesNumber Q 21 [some (ax_r 1), some (ax_i x1), some (ax_i x2)] [] σ := by
  refine ax_iload_n (q := 22) (i := 2) dX9_takesNumber_21 rfl rfl rfl ?_
  refine ax_iload_n (q := 23) (i := 1) dX9_takesNumber_22 rfl rfl rfl ?_
  refine ax_icmp_ge (tgt := 73) (q := 26) dX9_takesNumber_23 (by decide) rfl (fun c1 => ?_) (fun c1 => ?_)
  · refine ax_aload_n (q := 74) (i := 0) dX9_takesNumber_73 rfl rfl rfl ?_
    refine ax_callVfi (q := 77) (As := []) (st := []) (x := (if ((¬ ((σ.1 1 1) ≤ (σ.1 1 2))) ∧ ((¬ ((σ.1 14 (Int32.toNatClampNeg (σ.1 1 2))) < (48 : Int32))) ∧ (¬ ((57 : Int32) < (σ.1 14 (Int32.toNatClampNeg (σ.1 1 2))))))) then (1 : Int32) else 0)) (σ2 := σ) dX9_takesNumber_74 rfl lk_X9_26 shC_1 rfl rfl rfl rfl (Nat.le_of_ble_eq_true rfl) (f_X9_atDigit σ  (h1 c1) (h2 c1) (d := d) (by omega)) ?_
    have K3 : ax_W shC (d + 1) mX9_takesNumber Q 85 [some (ax_r 1), some (ax_i x1), some (ax_i x2)] [ax_i (if (¬ ((¬ ((σ.1 1 1) ≤ (σ.1 1 2))) ∧ ((¬ ((σ.1 14 (Int32.toNatClampNeg (σ.1 1 2))) < (48 : Int32))) ∧ (¬ ((57 : Int32) < (σ.1 14 (Int32.toNatClampNeg (σ.1 1 2)))))))) then (1 : Int32) else 0)] σ := by
      exact ax_iret dX9_takesNumber_85 rfl (ax_nb _) (k3 c1)
    refine ax_if_neB (tgt := 84) (q := 80) dX9_takesNumber_77 (by decide) rfl (fun c2 => ?_) (fun c2 => ?_)
    · refine ax_iconst (q := 85) dX9_takesNumber_84 rfl ki_0 ?_
      exact ax_cv (if_neg (fun y => y c2)) K3
    · refine ax_iconst (q := 81) dX9_takesNumber_80 rfl ki_1 ?_
      refine ax_goto (tgt := 85) dX9_takesNumber_81 (by decide) ?_
      exact ax_cv (if_pos c2) K3
  · refine ax_aload_n (q := 27) (i := 0) dX9_takesNumber_26 rfl rfl rfl ?_
    refine ax_callVfi (q := 30) (As := []) (st := []) (x := (if ((¬ ((σ.1 1 1) ≤ (σ.1 1 2))) ∧ ((¬ ((σ.1 14 (Int32.toNatClampNeg (σ.1 1 2))) < (48 : Int32))) ∧ (¬ ((57 : Int32) < (σ.1 14 (Int32.toNatClampNeg (σ.1 1 2))))))) then (1 : Int32) else 0)) (σ2 := σ) dX9_takesNumber_27 rfl lk_X9_26 shC_1 rfl rfl rfl rfl (Nat.le_of_ble_eq_true rfl) (f_X9_atDigit σ  (h4 c1) (h5 c1) (d := d) (by omega)) ?_
    refine ax_if_eqB (tgt := 73) (q := 33) dX9_takesNumber_30 (by decide) rfl (fun c4 => ?_) (fun c4 => ?_)
    · refine ax_aload_n (q := 74) (i := 0) dX9_takesNumber_73 rfl rfl rfl ?_
      refine ax_callVfi (q := 77) (As := []) (st := []) (x := (if ((¬ ((σ.1 1 1) ≤ (σ.1 1 2))) ∧ ((¬ ((σ.1 14 (Int32.toNatClampNeg (σ.1 1 2))) < (48 : Int32))) ∧ (¬ ((57 : Int32) < (σ.1 14 (Int32.toNatClampNeg (σ.1 1 2))))))) then (1 : Int32) else 0)) (σ2 := σ) dX9_takesNumber_74 rfl lk_X9_26 shC_1 rfl rfl rfl rfl (Nat.le_of_ble_eq_true rfl) (f_X9_atDigit σ  (h6 c1 c4) (h7 c1 c4) (d := d) (by omega)) ?_
      have K6 : ax_W shC (d + 1) mX9_takesNumber Q 85 [some (ax_r 1), some (ax_i x1), some (ax_i x2)] [ax_i (if (¬ ((¬ ((σ.1 1 1) ≤ (σ.1 1 2))) ∧ ((¬ ((σ.1 14 (Int32.toNatClampNeg (σ.1 1 2))) < (48 : Int32))) ∧ (¬ ((57 : Int32) < (σ.1 14 (Int32.toNatClampNeg (σ.1 1 2)))))))) then (1 : Int32) else 0)] σ := by
        exact ax_iret dX9_takesNumber_85 rfl (ax_nb _) (k8 c1 c4)
      refine ax_if_neB (tgt := 84) (q := 80) dX9_takesNumber_77 (by decide) rfl (fun c5 => ?_) (fun c5 => ?_)
      · refine ax_iconst (q := 85) dX9_takesNumber_84 rfl ki_0 ?_
        exact ax_cv (if_neg (fun y => y c5)) K6
      · refine ax_iconst (q := 81) dX9_takesNumber_80 rfl ki_1 ?_
        refine ax_goto (tgt := 85) dX9_takesNumber_81 (by decide) ?_
        exact ax_cv (if_pos c5) K6
    · refine ax_aload_n (q := 34) (i := 0) dX9_takesNumber_33 rfl rfl rfl ?_
      refine ax_aload_n (q := 35) (i := 0) dX9_takesNumber_34 rfl rfl rfl ?_
      refine ax_get (q := 38) (k := 1) (j := 3) (v := ax_i (σ.1 1 3)) dX9_takesNumber_35 rfl shC_1 rfl rfl rfl (by decide) fl_X9_30 ?_
      refine ax_bipush (q := 40) dX9_takesNumber_38 rfl kb_10 ?_
      refine ax_imul (q := 41) dX9_takesNumber_40 rfl ?_
      refine ax_aload_n (q := 42) (i := 0) dX9_takesNumber_41 rfl rfl rfl ?_
      refine ax_get (q := 45) (k := 1) (j := 0) (v := ax_r 14) dX9_takesNumber_42 rfl shC_1 rfl rfl rfl (by decide) fl_X9_9 ?_
      refine ax_aload_n (q := 46) (i := 0) dX9_takesNumber_45 rfl rfl rfl ?_
      refine ax_get (q := 49) (k := 1) (j := 2) (v := ax_i (σ.1 1 2)) dX9_takesNumber_46 rfl shC_1 rfl rfl rfl (by decide) fl_X9_19 ?_
      refine ax_iald (q := 50) (a := (Int32.toNatClampNeg (σ.1 1 2))) (v := (σ.1 14 (Int32.toNatClampNeg (σ.1 1 2)))) dX9_takesNumber_49 rfl shC_14 (h9 c1 c4) rfl rfl ?_
      refine ax_iadd (q := 51) dX9_takesNumber_50 rfl ?_
      refine ax_bipush (q := 53) dX9_takesNumber_51 rfl kb_48 ?_
      refine ax_isub (q := 54) dX9_takesNumber_53 rfl ?_
      refine ax_puti (q := 57) (k := 1) (j := 3) dX9_takesNumber_54 rfl shC_1 rfl rfl (by decide) fl_X9_30 rfl rfl rfl rfl ?_
      refine ax_aload_n (q := 58) (i := 0) dX9_takesNumber_57 rfl rfl rfl ?_
      refine ax_dupr (q := 59) dX9_takesNumber_58 rfl ?_
      refine ax_get (q := 62) (k := 1) (j := 2) (v := ax_i (σ.1 1 2)) dX9_takesNumber_59 rfl shC_1 rfl rfl rfl (by decide) fl_X9_19 ?_
      refine ax_iconst (q := 63) dX9_takesNumber_62 rfl ki_1 ?_
      refine ax_iadd (q := 64) dX9_takesNumber_63 rfl ?_
      refine ax_puti (q := 67) (k := 1) (j := 2) dX9_takesNumber_64 rfl shC_1 rfl rfl (by decide) fl_X9_19 rfl rfl rfl rfl ?_
      refine ax_iincK (q := 70) (lv2 := [some (ax_r 1), some (ax_i x1), some (ax_i (x2 + (1 : Int32)))]) dX9_takesNumber_67 rfl rfl ki_1 (by decide) rfl rfl ?_
      refine ax_goto (tgt := 21) dX9_takesNumber_70 (by decide) ?_
      exact (k10 c1 c4)
set_option maxRecDepth 20000 in
theorem s_X1_readsNumberOf_0 {d : Nat} (hd : 0 ≤ d) {Q : Option ax_V → ax_S → Prop} (σ : ax_S) (a0 : Int32) (k1 : ax_Ct shC d mX9_takesNumber [ax_r 1, ax_i (2 : Int32)] (fun r u => ∃ x : Int32, r = some (ax_i x) ∧ ax_W shC (d + 1) mX1_readsNumberOf Q 8 [some (ax_r 2), some (ax_i a0)] (ax_i x :: []) u) σ) : ax_W shC (d + 1) mX1_readsNumberOf Q 0 [some (ax_r 2), some (ax_i a0)] [] σ := by
  refine ax_aload_n (q := 1) (i := 0) dX1_readsNumberOf_0 rfl rfl rfl ?_
  refine ax_get (q := 4) (k := 2) (j := 0) (v := ax_r 1) dX1_readsNumberOf_1 rfl shC_2 rfl rfl rfl (by decide) fl_X1_21 ?_
  refine ax_iconst (q := 5) dX1_readsNumberOf_4 rfl ki_2 ?_
  exact ax_callVci (q := 8) (As := [ax_i (2 : Int32)]) (st := []) dX1_readsNumberOf_5 rfl lk_X1_84 shC_1 rfl rfl rfl rfl (Nat.le_of_ble_eq_true rfl) k1
set_option maxRecDepth 20000 in
theorem s_X1_readsNumberOf_8 {d : Nat} (hd : 0 ≤ d) {Q : Option ax_V → ax_S → Prop} (σ : ax_S) (x1 : Int32) (rr : Int32) (h1 : (¬ rr = 0) → vp_in x1 9) (k2 : (¬ rr = 0) → ((σ.1 1 3) < (List.getD ([0, 0, 0, 1, 1, 0, 0, 0, 0] : List Int32) (Int32.toNatClampNeg x1) 0)) → Q (some (ax_i (0 : Int32))) (ax_ui σ 1 2 ((σ.1 1 2) - (1 : Int32)))) (h3 : (¬ rr = 0) → (¬ ((σ.1 1 3) < (List.getD ([0, 0, 0, 1, 1, 0, 0, 0, 0] : List Int32) (Int32.toNatClampNeg x1) 0))) → vp_in x1 9) (k4 : (¬ rr = 0) → (¬ ((σ.1 1 3) < (List.getD ([0, 0, 0, 1, 1, 0, 0, 0, 0] : List Int32) (Int32.toNatClampNeg x1) 0))) → ((σ.1 1 3) ≤ (List.getD ([99, 9, 20, 9, 99, 3, 7, 7, 9] : List Int32) (Int32.toNatClampNeg x1) 0)) → Q (some (ax_i (1 : Int32))) σ) (k5 : (¬ rr = 0) → (¬ ((σ.1 1 3) < (List.getD ([0, 0, 0, 1, 1, 0, 0, 0, 0] : List Int32) (Int32.toNatClampNeg x1) 0))) → (¬ ((σ.1 1 3) ≤ (List.getD ([99, 9, 20, 9, 99, 3, 7, 7, 9] : List Int32) (Int32.toNatClampNeg x1) 0))) → Q (some (ax_i (0 : Int32))) (ax_ui σ 1 2 ((σ.1 1 2) - (1 : Int32)))) (k6 : (¬ (¬ rr = 0)) → Q (some (ax_i (0 : Int32))) σ) : ax_W shC (d + 1) mX1_readsNumberOf Q 8 [some (ax_r 2), some (ax_i x1)] [ax_i rr] σ := by
  refine ax_if_ne (tgt := 13) (q := 11) dX1_readsNumberOf_8 (by decide) rfl (fun c1 => ?_) (fun c1 => ?_)
  · refine ax_aload_n (q := 14) (i := 0) dX1_readsNumberOf_13 rfl rfl rfl ?_
    refine ax_get (q := 17) (k := 2) (j := 0) (v := ax_r 1) dX1_readsNumberOf_14 rfl shC_2 rfl rfl rfl (by decide) fl_X1_21 ?_
    refine ax_get (q := 20) (k := 1) (j := 3) (v := ax_i (σ.1 1 3)) dX1_readsNumberOf_17 rfl shC_1 rfl rfl rfl (by decide) fl_X1_81 ?_
    refine ax_gets (q := 23) dX1_readsNumberOf_20 rfl st_3 fl_X1_87 ?_
    refine ax_iload_n (q := 24) (i := 1) dX1_readsNumberOf_23 rfl rfl rfl ?_
    refine ax_tald (q := 25) (t := 3) dX1_readsNumberOf_24 rfl st_3 (h1 c1) rfl ?_
    refine ax_icmp_lt (tgt := 43) (q := 28) dX1_readsNumberOf_25 (by decide) rfl (fun c2 => ?_) (fun c2 => ?_)
    · refine ax_aload_n (q := 44) (i := 0) dX1_readsNumberOf_43 rfl rfl rfl ?_
      refine ax_get (q := 47) (k := 2) (j := 0) (v := ax_r 1) dX1_readsNumberOf_44 rfl shC_2 rfl rfl rfl (by decide) fl_X1_21 ?_
      refine ax_dupr (q := 48) dX1_readsNumberOf_47 rfl ?_
      refine ax_get (q := 51) (k := 1) (j := 2) (v := ax_i (σ.1 1 2)) dX1_readsNumberOf_48 rfl shC_1 rfl rfl rfl (by decide) fl_X1_25 ?_
      refine ax_iconst (q := 52) dX1_readsNumberOf_51 rfl ki_1 ?_
      refine ax_isub (q := 53) dX1_readsNumberOf_52 rfl ?_
      refine ax_puti (q := 56) (k := 1) (j := 2) dX1_readsNumberOf_53 rfl shC_1 rfl rfl (by decide) fl_X1_25 rfl rfl rfl rfl ?_
      refine ax_iconst (q := 57) dX1_readsNumberOf_56 rfl ki_0 ?_
      exact ax_iret dX1_readsNumberOf_57 rfl rfl (k2 c1 c2)
    · refine ax_aload_n (q := 29) (i := 0) dX1_readsNumberOf_28 rfl rfl rfl ?_
      refine ax_get (q := 32) (k := 2) (j := 0) (v := ax_r 1) dX1_readsNumberOf_29 rfl shC_2 rfl rfl rfl (by decide) fl_X1_21 ?_
      refine ax_get (q := 35) (k := 1) (j := 3) (v := ax_i (σ.1 1 3)) dX1_readsNumberOf_32 rfl shC_1 rfl rfl rfl (by decide) fl_X1_81 ?_
      refine ax_gets (q := 38) dX1_readsNumberOf_35 rfl st_4 fl_X1_90 ?_
      refine ax_iload_n (q := 39) (i := 1) dX1_readsNumberOf_38 rfl rfl rfl ?_
      refine ax_tald (q := 40) (t := 4) dX1_readsNumberOf_39 rfl st_4 (h3 c1 c2) rfl ?_
      refine ax_icmp_le (tgt := 58) (q := 43) dX1_readsNumberOf_40 (by decide) rfl (fun c3 => ?_) (fun c3 => ?_)
      · refine ax_iconst (q := 59) dX1_readsNumberOf_58 rfl ki_1 ?_
        exact ax_iret dX1_readsNumberOf_59 rfl rfl (k4 c1 c2 c3)
      · refine ax_aload_n (q := 44) (i := 0) dX1_readsNumberOf_43 rfl rfl rfl ?_
        refine ax_get (q := 47) (k := 2) (j := 0) (v := ax_r 1) dX1_readsNumberOf_44 rfl shC_2 rfl rfl rfl (by decide) fl_X1_21 ?_
        refine ax_dupr (q := 48) dX1_readsNumberOf_47 rfl ?_
        refine ax_get (q := 51) (k := 1) (j := 2) (v := ax_i (σ.1 1 2)) dX1_readsNumberOf_48 rfl shC_1 rfl rfl rfl (by decide) fl_X1_25 ?_
        refine ax_iconst (q := 52) dX1_readsNumberOf_51 rfl ki_1 ?_
        refine ax_isub (q := 53) dX1_readsNumberOf_52 rfl ?_
        refine ax_puti (q := 56) (k := 1) (j := 2) dX1_readsNumberOf_53 rfl shC_1 rfl rfl (by decide) fl_X1_25 rfl rfl rfl rfl ?_
        refine ax_iconst (q := 57) dX1_readsNumberOf_56 rfl ki_0 ?_
        exact ax_iret dX1_readsNumberOf_57 rfl rfl (k5 c1 c2 c3)
  · refine ax_iconst (q := 12) dX1_readsNumberOf_11 rfl ki_0 ?_
    exact ax_iret dX1_readsNumberOf_12 rfl rfl (k6 c1)
set_option maxRecDepth 20000 in
theorem s_X1_setWithout_0 {d : Nat} (hd : 0 ≤ d) {Q : Option ax_V → ax_S → Prop} (σ : ax_S) (r0 nr0 : Nat) (hr0 : shC[r0]? = some (Sum.inr (false, nr0))) (a1 : Int32) (a2 : Int32) (a3 : Int32) (k1 : ax_W shC (d + 1) mX1_setWithout Q 3 [none, some (ax_r r0), some (ax_i a1), some (ax_i a2), some (ax_i a3), some (ax_i a2)] [] σ) : ax_W shC (d + 1) mX1_setWithout Q 0 [some (ax_r 2), some (ax_r r0), some (ax_i a1), some (ax_i a2), some (ax_i a3), none] [] σ := by
  refine ax_iload_n (q := 1) (i := 3) dX1_setWithout_0 rfl rfl rfl ?_
  refine ax_istore (q := 3) (lv2 := [some (ax_r 2), some (ax_r r0), some (ax_i a1), some (ax_i a2), some (ax_i a3), some (ax_i a2)]) dX1_setWithout_1 rfl (by decide) rfl rfl ?_
  refine ax_fg (lv2 := [none, some (ax_r r0), some (ax_i a1), some (ax_i a2), some (ax_i a3), some (ax_i a2)]) ⟨rfl, rfl, rfl, rfl, rfl, trivial⟩ ?_
  exact k1
set_option maxRecDepth 20000 in
theorem s_X1_setWithout_3 {d : Nat} (hd : 0 ≤ d) {Q : Option ax_V → ax_S → Prop} (σ : ax_S) (r0 nr0 : Nat) (hr0 : shC[r0]? = some (Sum.inr (false, nr0))) (x2 : Int32) (x3 : Int32) (x4 : Int32) (x5 : Int32) (k1 : (x4 ≤ x5) → Q none σ) (h2 : (¬ (x4 ≤ x5)) → vp_in x5 9) (h3 : (¬ (x4 ≤ x5)) → vp_in ((x2 + x5) - x3) nr0) (k4 : (¬ (x4 ≤ x5)) → ax_W shC (d + 1) mX1_setWithout Q 3 [none, some (ax_r r0), some (ax_i x2), some (ax_i x3), some (ax_i x4), some (ax_i (x5 + (1 : Int32)))] [] (ax_ui σ r0 (Int32.toNatClampNeg ((x2 + x5) - x3)) (List.getD ([20, 0, 0, 3, 20, 0, 0, 1, 0] : List Int32) (Int32.toNatClampNeg x5) 0))) : ax_W shC (d + 1) mX1_setWithout Q 3 [none, some (ax_r r0), some (ax_i x2), some (ax_i x3), some (ax_i x4), some (ax_i x5)] [] σ := by
  refine ax_iload (q := 5) dX1_setWithout_3 rfl rfl ?_
  refine ax_iload (q := 7) dX1_setWithout_5 rfl rfl ?_
  refine ax_icmp_ge (tgt := 30) (q := 10) dX1_setWithout_7 (by decide) rfl (fun c1 => ?_) (fun c1 => ?_)
  · exact ax_vret dX1_setWithout_30 rfl (k1 c1)
  · refine ax_aload_n (q := 11) (i := 1) dX1_setWithout_10 rfl rfl rfl ?_
    refine ax_iload_n (q := 12) (i := 2) dX1_setWithout_11 rfl rfl rfl ?_
    refine ax_iload (q := 14) dX1_setWithout_12 rfl rfl ?_
    refine ax_iadd (q := 15) dX1_setWithout_14 rfl ?_
    refine ax_iload_n (q := 16) (i := 3) dX1_setWithout_15 rfl rfl rfl ?_
    refine ax_isub (q := 17) dX1_setWithout_16 rfl ?_
    refine ax_gets (q := 20) dX1_setWithout_17 rfl st_5 fl_X1_68 ?_
    refine ax_iload (q := 22) dX1_setWithout_20 rfl rfl ?_
    refine ax_tald (q := 23) (t := 5) dX1_setWithout_22 rfl st_5 (h2 c1) rfl ?_
    refine ax_iast (q := 24) (a := (Int32.toNatClampNeg ((x2 + x5) - x3))) dX1_setWithout_23 rfl hr0 (h3 c1) rfl ?_
    refine ax_iincK (q := 27) (lv2 := [none, some (ax_r r0), some (ax_i x2), some (ax_i x3), some (ax_i x4), some (ax_i (x5 + (1 : Int32)))]) dX1_setWithout_24 rfl rfl ki_1 (by decide) rfl rfl ?_
    refine ax_goto (tgt := 3) dX1_setWithout_27 (by decide) ?_
    exact (k4 c1)
set_option maxRecDepth 20000 in
theorem s_X1_readsItems_0 {d : Nat} (hd : 0 ≤ d) {Q : Option ax_V → ax_S → Prop} (σ : ax_S) (r0 nr0 : Nat) (hr0 : shC[r0]? = some (Sum.inr (false, nr0))) (a1 : Int32) (a2 : Int32) (a3 : Int32) (k1 : ax_Ct shC d mX1_setWithout [ax_r 2, ax_r r0, ax_i a1, ax_i a2, ax_i a3] (fun r u => r = none ∧ ax_W shC (d + 1) mX1_readsItems Q 9 [some (ax_r 2), some (ax_r r0), some (ax_i a1), some (ax_i a2), some (ax_i a3), none, none, none] [] u) σ) : ax_W shC (d + 1) mX1_readsItems Q 0 [some (ax_r 2), some (ax_r r0), some (ax_i a1), some (ax_i a2), some (ax_i a3), none, none, none] [] σ := by
  refine ax_aload_n (q := 1) (i := 0) dX1_readsItems_0 rfl rfl rfl ?_
  refine ax_aload_n (q := 2) (i := 1) dX1_readsItems_1 rfl rfl rfl ?_
  refine ax_iload_n (q := 3) (i := 2) dX1_readsItems_2 rfl rfl rfl ?_
  refine ax_iload_n (q := 4) (i := 3) dX1_readsItems_3 rfl rfl rfl ?_
  refine ax_iload (q := 6) dX1_readsItems_4 rfl rfl ?_
  exact ax_callVcv (q := 9) (As := [ax_r r0, ax_i a1, ax_i a2, ax_i a3]) (st := []) dX1_readsItems_6 rfl lk_X1_41 shC_2 rfl rfl rfl rfl (Nat.le_of_ble_eq_true rfl) k1
set_option maxRecDepth 20000 in
theorem s_X1_readsItems_9 {d : Nat} (hd : 0 ≤ d) {Q : Option ax_V → ax_S → Prop} (σ : ax_S) (r0 nr0 : Nat) (hr0 : shC[r0]? = some (Sum.inr (false, nr0))) (x2 : Int32) (x3 : Int32) (x4 : Int32) (k1 : ax_W shC (d + 1) mX1_readsItems Q 15 [some (ax_r 2), some (ax_r r0), some (ax_i x2), some (ax_i x3), some (ax_i x4), some (ax_i (0 : Int32)), some (ax_i x3), none] [] σ) : ax_W shC (d + 1) mX1_readsItems Q 9 [some (ax_r 2), some (ax_r r0), some (ax_i x2), some (ax_i x3), some (ax_i x4), none, none, none] [] σ := by
  refine ax_iconst (q := 10) dX1_readsItems_9 rfl ki_0 ?_
  refine ax_istore (q := 12) (lv2 := [some (ax_r 2), some (ax_r r0), some (ax_i x2), some (ax_i x3), some (ax_i x4), some (ax_i (0 : Int32)), none, none]) dX1_readsItems_10 rfl (by decide) rfl rfl ?_
  refine ax_iload_n (q := 13) (i := 3) dX1_readsItems_12 rfl rfl rfl ?_
  refine ax_istore (q := 15) (lv2 := [some (ax_r 2), some (ax_r r0), some (ax_i x2), some (ax_i x3), some (ax_i x4), some (ax_i (0 : Int32)), some (ax_i x3), none]) dX1_readsItems_13 rfl (by decide) rfl rfl ?_
  exact k1
set_option maxRecDepth 20000 in
theorem s_X1_readsItems_15 {d : Nat} (hd : 0 ≤ d) {Q : Option ax_V → ax_S → Prop} (σ : ax_S) (r0 nr0 : Nat) (hr0 : shC[r0]? = some (Sum.inr (false, nr0))) (x2 : Int32) (x3 : Int32) (x4 : Int32) (x5 : Int32) (x6 : Int32) (k1 : (x4 < x6) → Q (some (ax_i (1 : Int32))) σ) (k2 : (¬ (x4 < x6)) → ax_Ct shC d mX1_itemAt [ax_r 2, ax_i x3, ax_i x4] (fun r u => ∃ x : Int32, r = some (ax_i x) ∧ ax_W shC (d + 1) mX1_readsItems Q 29 [some (ax_r 2), some (ax_r r0), some (ax_i x2), some (ax_i x3), some (ax_i x4), some (ax_i x5), some (ax_i x6), none] (ax_i x :: []) u) σ) : ax_W shC (d + 1) mX1_readsItems Q 15 [some (ax_r 2), some (ax_r r0), some (ax_i x2), some (ax_i x3), some (ax_i x4), some (ax_i x5), some (ax_i x6), none] [] σ := by
  refine ax_iload (q := 17) dX1_readsItems_15 rfl rfl ?_
  refine ax_iload (q := 19) dX1_readsItems_17 rfl rfl ?_
  refine ax_icmp_gt (tgt := 106) (q := 22) dX1_readsItems_19 (by decide) rfl (fun c1 => ?_) (fun c1 => ?_)
  · refine ax_iconst (q := 107) dX1_readsItems_106 rfl ki_1 ?_
    exact ax_iret dX1_readsItems_107 rfl rfl (k1 c1)
  · refine ax_aload_n (q := 23) (i := 0) dX1_readsItems_22 rfl rfl rfl ?_
    refine ax_iload_n (q := 24) (i := 3) dX1_readsItems_23 rfl rfl rfl ?_
    refine ax_iload (q := 26) dX1_readsItems_24 rfl rfl ?_
    exact ax_callVci (q := 29) (As := [ax_i x3, ax_i x4]) (st := []) dX1_readsItems_26 rfl lk_X1_71 shC_2 rfl rfl rfl rfl (Nat.le_of_ble_eq_true rfl) (k2 c1)
set_option maxRecDepth 20000 in
theorem s_X1_readsItems_29 {d : Nat} (hd : 1 ≤ d) {Q : Option ax_V → ax_S → Prop} (σ : ax_S) (r0 nr0 : Nat) (hr0 : shC[r0]? = some (Sum.inr (false, nr0))) (x2 : Int32) (x3 : Int32) (x4 : Int32) (x5 : Int32) (x6 : Int32) (rr : Int32) (k1 : (¬ rr = (-1 : Int32)) → (¬ ((x5 >>> (rr &&& 31)) &&& (1 : Int32)) = (1 : Int32)) → ax_Ct shC d mX1_readsNumberOf [ax_r 2, ax_i rr] (fun r u => ∃ x : Int32, r = some (ax_i x) ∧ ax_W shC (d + 1) mX1_readsItems Q 80 [some (ax_r 2), some (ax_r r0), some (ax_i x2), some (ax_i x3), some (ax_i x4), some (ax_i (x5 ||| ((1 : Int32) <<< (rr &&& 31)))), some (ax_i x6), some (ax_i rr)] (ax_i x :: []) u) (ax_ui σ 1 2 ((σ.1 1 2) + (1 : Int32)))) (k2 : (¬ rr = (-1 : Int32)) → (¬ (¬ ((x5 >>> (rr &&& 31)) &&& (1 : Int32)) = (1 : Int32))) → Q (some (ax_i (0 : Int32))) σ) (k3 : (¬ (¬ rr = (-1 : Int32))) → Q (some (ax_i (1 : Int32))) σ) : ax_W shC (d + 1) mX1_readsItems Q 29 [some (ax_r 2), some (ax_r r0), some (ax_i x2), some (ax_i x3), some (ax_i x4), some (ax_i x5), some (ax_i x6), none] [ax_i rr] σ := by
  refine ax_istore (q := 31) (lv2 := [some (ax_r 2), some (ax_r r0), some (ax_i x2), some (ax_i x3), some (ax_i x4), some (ax_i x5), some (ax_i x6), some (ax_i rr)]) dX1_readsItems_29 rfl (by decide) rfl rfl ?_
  refine ax_iload (q := 33) dX1_readsItems_31 rfl rfl ?_
  refine ax_iconst (q := 34) dX1_readsItems_33 rfl ki_m1 ?_
  refine ax_icmp_ne (tgt := 39) (q := 37) dX1_readsItems_34 (by decide) rfl (fun c1 => ?_) (fun c1 => ?_)
  · refine ax_iload (q := 41) dX1_readsItems_39 rfl rfl ?_
    refine ax_iload (q := 43) dX1_readsItems_41 rfl rfl ?_
    refine ax_callNfi (q := 46) (As := [ax_i x5, ax_i rr]) (st := []) (x := ((x5 >>> (rr &&& 31)) &&& (1 : Int32))) (σ2 := σ) dX1_readsItems_43 rfl lk_X1_75 rfl rfl (Nat.le_of_ble_eq_true rfl) (f_X11_bitOf (sh := shC) σ x5 rr  (d := d) (by omega)) ?_
    refine ax_iconst (q := 47) dX1_readsItems_46 rfl ki_1 ?_
    refine ax_icmp_ne (tgt := 52) (q := 50) dX1_readsItems_47 (by decide) rfl (fun c2 => ?_) (fun c2 => ?_)
    · refine ax_iload (q := 54) dX1_readsItems_52 rfl rfl ?_
      refine ax_iconst (q := 55) dX1_readsItems_54 rfl ki_1 ?_
      refine ax_iload (q := 57) dX1_readsItems_55 rfl rfl ?_
      refine ax_ishl (q := 58) dX1_readsItems_57 rfl ?_
      refine ax_ior (q := 59) dX1_readsItems_58 rfl ?_
      refine ax_istore (q := 61) (lv2 := [some (ax_r 2), some (ax_r r0), some (ax_i x2), some (ax_i x3), some (ax_i x4), some (ax_i (x5 ||| ((1 : Int32) <<< (rr &&& 31)))), some (ax_i x6), some (ax_i rr)]) dX1_readsItems_59 rfl (by decide) rfl rfl ?_
      refine ax_aload_n (q := 62) (i := 0) dX1_readsItems_61 rfl rfl rfl ?_
      refine ax_get (q := 65) (k := 2) (j := 0) (v := ax_r 1) dX1_readsItems_62 rfl shC_2 rfl rfl rfl (by decide) fl_X1_21 ?_
      refine ax_dupr (q := 66) dX1_readsItems_65 rfl ?_
      refine ax_get (q := 69) (k := 1) (j := 2) (v := ax_i (σ.1 1 2)) dX1_readsItems_66 rfl shC_1 rfl rfl rfl (by decide) fl_X1_25 ?_
      refine ax_iconst (q := 70) dX1_readsItems_69 rfl ki_1 ?_
      refine ax_iadd (q := 71) dX1_readsItems_70 rfl ?_
      refine ax_puti (q := 74) (k := 1) (j := 2) dX1_readsItems_71 rfl shC_1 rfl rfl (by decide) fl_X1_25 rfl rfl rfl rfl ?_
      refine ax_aload_n (q := 75) (i := 0) dX1_readsItems_74 rfl rfl rfl ?_
      refine ax_iload (q := 77) dX1_readsItems_75 rfl rfl ?_
      exact ax_callVci (q := 80) (As := [ax_i rr]) (st := []) dX1_readsItems_77 rfl lk_X1_78 shC_2 rfl rfl rfl rfl (Nat.le_of_ble_eq_true rfl) (k1 c1 c2)
    · refine ax_iconst (q := 51) dX1_readsItems_50 rfl ki_0 ?_
      exact ax_iret dX1_readsItems_51 rfl rfl (k2 c1 c2)
  · refine ax_iconst (q := 38) dX1_readsItems_37 rfl ki_1 ?_
    exact ax_iret dX1_readsItems_38 rfl rfl (k3 c1)
set_option maxRecDepth 20000 in
theorem s_X1_readsItems_80 {d : Nat} (hd : 0 ≤ d) {Q : Option ax_V → ax_S → Prop} (σ : ax_S) (r0 nr0 : Nat) (hr0 : shC[r0]? = some (Sum.inr (false, nr0))) (x2 : Int32) (x3 : Int32) (x4 : Int32) (x5 : Int32) (x6 : Int32) (x7 : Int32) (rr : Int32) (h1 : (¬ rr = 0) → vp_in ((x2 + x7) - x3) nr0) (k2 : (¬ rr = 0) → ax_W shC (d + 1) mX1_readsItems Q 15 [some (ax_r 2), some (ax_r r0), some (ax_i x2), some (ax_i x3), some (ax_i x4), some (ax_i x5), some (ax_i (x6 + (1 : Int32))), none] [] (ax_ui σ r0 (Int32.toNatClampNeg ((x2 + x7) - x3)) (σ.1 1 3))) (k3 : (¬ (¬ rr = 0)) → Q (some (ax_i (0 : Int32))) σ) : ax_W shC (d + 1) mX1_readsItems Q 80 [some (ax_r 2), some (ax_r r0), some (ax_i x2), some (ax_i x3), some (ax_i x4), some (ax_i x5), some (ax_i x6), some (ax_i x7)] [ax_i rr] σ := by
  refine ax_if_ne (tgt := 85) (q := 83) dX1_readsItems_80 (by decide) rfl (fun c1 => ?_) (fun c1 => ?_)
  · refine ax_aload_n (q := 86) (i := 1) dX1_readsItems_85 rfl rfl rfl ?_
    refine ax_iload_n (q := 87) (i := 2) dX1_readsItems_86 rfl rfl rfl ?_
    refine ax_iload (q := 89) dX1_readsItems_87 rfl rfl ?_
    refine ax_iadd (q := 90) dX1_readsItems_89 rfl ?_
    refine ax_iload_n (q := 91) (i := 3) dX1_readsItems_90 rfl rfl rfl ?_
    refine ax_isub (q := 92) dX1_readsItems_91 rfl ?_
    refine ax_aload_n (q := 93) (i := 0) dX1_readsItems_92 rfl rfl rfl ?_
    refine ax_get (q := 96) (k := 2) (j := 0) (v := ax_r 1) dX1_readsItems_93 rfl shC_2 rfl rfl rfl (by decide) fl_X1_21 ?_
    refine ax_get (q := 99) (k := 1) (j := 3) (v := ax_i (σ.1 1 3)) dX1_readsItems_96 rfl shC_1 rfl rfl rfl (by decide) fl_X1_81 ?_
    refine ax_iast (q := 100) (a := (Int32.toNatClampNeg ((x2 + x7) - x3))) dX1_readsItems_99 rfl hr0 (h1 c1) rfl ?_
    refine ax_iincK (q := 103) (lv2 := [some (ax_r 2), some (ax_r r0), some (ax_i x2), some (ax_i x3), some (ax_i x4), some (ax_i x5), some (ax_i (x6 + (1 : Int32))), some (ax_i x7)]) dX1_readsItems_100 rfl rfl ki_1 (by decide) rfl rfl ?_
    refine ax_goto (tgt := 15) dX1_readsItems_103 (by decide) ?_
    refine ax_fg (lv2 := [some (ax_r 2), some (ax_r r0), some (ax_i x2), some (ax_i x3), some (ax_i x4), some (ax_i x5), some (ax_i (x6 + (1 : Int32))), none]) ⟨rfl, rfl, rfl, rfl, rfl, rfl, rfl, trivial⟩ ?_
    exact (k2 c1)
  · refine ax_iconst (q := 84) dX1_readsItems_83 rfl ki_0 ?_
    exact ax_iret dX1_readsItems_84 rfl rfl (k3 c1)
set_option maxRecDepth 20000 in
theorem s_X1_readsClause_0 {d : Nat} (hd : 0 ≤ d) {Q : Option ax_V → ax_S → Prop} (σ : ax_S)  (k1 : ax_Ct shC d mX9_sign [ax_r 1] (fun r u => ∃ x : Int32, r = some (ax_i x) ∧ ax_W shC (d + 1) mX1_readsClause Q 7 [some (ax_r 2), none] (ax_i x :: []) u) σ) : ax_W shC (d + 1) mX1_readsClause Q 0 [some (ax_r 2), none] [] σ := by
  refine ax_aload_n (q := 1) (i := 0) dX1_readsClause_0 rfl rfl rfl ?_
  refine ax_get (q := 4) (k := 2) (j := 0) (v := ax_r 1) dX1_readsClause_1 rfl shC_2 rfl rfl rfl (by decide) fl_X1_21 ?_
  exact ax_callVci (q := 7) (As := []) (st := []) dX1_readsClause_4 rfl lk_X1_53 shC_1 rfl rfl rfl rfl (Nat.le_of_ble_eq_true rfl) k1
set_option maxRecDepth 20000 in
theorem s_X1_readsClause_7 {d : Nat} (hd : 0 ≤ d) {Q : Option ax_V → ax_S → Prop} (σ : ax_S) (rr : Int32) (k1 : (¬ rr = (115 : Int32)) → (¬ rr = (104 : Int32)) → (¬ rr = (119 : Int32)) → Q (some (ax_i (0 : Int32))) σ) (k2 : (¬ rr = (115 : Int32)) → (¬ rr = (104 : Int32)) → (¬ (¬ rr = (119 : Int32))) → ((8 : Int32) ≤ (σ.1 2 6)) → Q (some (ax_i (0 : Int32))) σ) (k3 : (¬ rr = (115 : Int32)) → (¬ rr = (104 : Int32)) → (¬ (¬ rr = (119 : Int32))) → (¬ ((8 : Int32) ≤ (σ.1 2 6))) → ax_Ct shC d mX1_readsItems [ax_r 2, ax_r 17, ax_i ((((σ.1 2 6) + (1 : Int32)) - (1 : Int32)) * (3 : Int32)), ax_i (6 : Int32), ax_i (9 : Int32)] (fun r u => ∃ x : Int32, r = some (ax_i x) ∧ ax_W shC (d + 1) mX1_readsClause Q 169 [none, none] (ax_i x :: []) u) (ax_ui (ax_ui σ 1 2 ((σ.1 1 2) + (1 : Int32))) 2 6 ((σ.1 2 6) + (1 : Int32)))) (k4 : (¬ rr = (115 : Int32)) → (¬ (¬ rr = (104 : Int32))) → ((8 : Int32) ≤ (σ.1 2 5)) → (¬ rr = (119 : Int32)) → Q (some (ax_i (0 : Int32))) σ) (k5 : (¬ rr = (115 : Int32)) → (¬ (¬ rr = (104 : Int32))) → ((8 : Int32) ≤ (σ.1 2 5)) → (¬ (¬ rr = (119 : Int32))) → ((8 : Int32) ≤ (σ.1 2 6)) → Q (some (ax_i (0 : Int32))) σ) (k6 : (¬ rr = (115 : Int32)) → (¬ (¬ rr = (104 : Int32))) → ((8 : Int32) ≤ (σ.1 2 5)) → (¬ (¬ rr = (119 : Int32))) → (¬ ((8 : Int32) ≤ (σ.1 2 6))) → ax_Ct shC d mX1_readsItems [ax_r 2, ax_r 17, ax_i ((((σ.1 2 6) + (1 : Int32)) - (1 : Int32)) * (3 : Int32)), ax_i (6 : Int32), ax_i (9 : Int32)] (fun r u => ∃ x : Int32, r = some (ax_i x) ∧ ax_W shC (d + 1) mX1_readsClause Q 169 [none, none] (ax_i x :: []) u) (ax_ui (ax_ui σ 1 2 ((σ.1 1 2) + (1 : Int32))) 2 6 ((σ.1 2 6) + (1 : Int32)))) (k7 : (¬ rr = (115 : Int32)) → (¬ (¬ rr = (104 : Int32))) → (¬ ((8 : Int32) ≤ (σ.1 2 5))) → ax_Ct shC d mX1_readsItems [ax_r 2, ax_r 16, ax_i ((((σ.1 2 5) + (1 : Int32)) - (1 : Int32)) * (4 : Int32)), ax_i (2 : Int32), ax_i (6 : Int32)] (fun r u => ∃ x : Int32, r = some (ax_i x) ∧ ax_W shC (d + 1) mX1_readsClause Q 108 [none, none] (ax_i x :: []) u) (ax_ui (ax_ui σ 1 2 ((σ.1 1 2) + (1 : Int32))) 2 5 ((σ.1 2 5) + (1 : Int32)))) (k8 : (¬ (¬ rr = (115 : Int32))) → (¬ (σ.1 2 4) = 0) → (¬ rr = (104 : Int32)) → (¬ rr = (119 : Int32)) → Q (some (ax_i (0 : Int32))) σ) (k9 : (¬ (¬ rr = (115 : Int32))) → (¬ (σ.1 2 4) = 0) → (¬ rr = (104 : Int32)) → (¬ (¬ rr = (119 : Int32))) → ((8 : Int32) ≤ (σ.1 2 6)) → Q (some (ax_i (0 : Int32))) σ) (k10 : (¬ (¬ rr = (115 : Int32))) → (¬ (σ.1 2 4) = 0) → (¬ rr = (104 : Int32)) → (¬ (¬ rr = (119 : Int32))) → (¬ ((8 : Int32) ≤ (σ.1 2 6))) → ax_Ct shC d mX1_readsItems [ax_r 2, ax_r 17, ax_i ((((σ.1 2 6) + (1 : Int32)) - (1 : Int32)) * (3 : Int32)), ax_i (6 : Int32), ax_i (9 : Int32)] (fun r u => ∃ x : Int32, r = some (ax_i x) ∧ ax_W shC (d + 1) mX1_readsClause Q 169 [none, none] (ax_i x :: []) u) (ax_ui (ax_ui σ 1 2 ((σ.1 1 2) + (1 : Int32))) 2 6 ((σ.1 2 6) + (1 : Int32)))) (k11 : (¬ (¬ rr = (115 : Int32))) → (¬ (σ.1 2 4) = 0) → (¬ (¬ rr = (104 : Int32))) → ((8 : Int32) ≤ (σ.1 2 5)) → (¬ rr = (119 : Int32)) → Q (some (ax_i (0 : Int32))) σ) (k12 : (¬ (¬ rr = (115 : Int32))) → (¬ (σ.1 2 4) = 0) → (¬ (¬ rr = (104 : Int32))) → ((8 : Int32) ≤ (σ.1 2 5)) → (¬ (¬ rr = (119 : Int32))) → ((8 : Int32) ≤ (σ.1 2 6)) → Q (some (ax_i (0 : Int32))) σ) (k13 : (¬ (¬ rr = (115 : Int32))) → (¬ (σ.1 2 4) = 0) → (¬ (¬ rr = (104 : Int32))) → ((8 : Int32) ≤ (σ.1 2 5)) → (¬ (¬ rr = (119 : Int32))) → (¬ ((8 : Int32) ≤ (σ.1 2 6))) → ax_Ct shC d mX1_readsItems [ax_r 2, ax_r 17, ax_i ((((σ.1 2 6) + (1 : Int32)) - (1 : Int32)) * (3 : Int32)), ax_i (6 : Int32), ax_i (9 : Int32)] (fun r u => ∃ x : Int32, r = some (ax_i x) ∧ ax_W shC (d + 1) mX1_readsClause Q 169 [none, none] (ax_i x :: []) u) (ax_ui (ax_ui σ 1 2 ((σ.1 1 2) + (1 : Int32))) 2 6 ((σ.1 2 6) + (1 : Int32)))) (k14 : (¬ (¬ rr = (115 : Int32))) → (¬ (σ.1 2 4) = 0) → (¬ (¬ rr = (104 : Int32))) → (¬ ((8 : Int32) ≤ (σ.1 2 5))) → ax_Ct shC d mX1_readsItems [ax_r 2, ax_r 16, ax_i ((((σ.1 2 5) + (1 : Int32)) - (1 : Int32)) * (4 : Int32)), ax_i (2 : Int32), ax_i (6 : Int32)] (fun r u => ∃ x : Int32, r = some (ax_i x) ∧ ax_W shC (d + 1) mX1_readsClause Q 108 [none, none] (ax_i x :: []) u) (ax_ui (ax_ui σ 1 2 ((σ.1 1 2) + (1 : Int32))) 2 5 ((σ.1 2 5) + (1 : Int32)))) (k15 : (¬ (¬ rr = (115 : Int32))) → (¬ (¬ (σ.1 2 4) = 0)) → ax_Ct shC d mX1_readsItems [ax_r 2, ax_r 15, ax_i (0 : Int32), ax_i (0 : Int32), ax_i (2 : Int32)] (fun r u => ∃ x : Int32, r = some (ax_i x) ∧ ax_W shC (d + 1) mX1_readsClause Q 50 [none, none] (ax_i x :: []) u) (ax_ui (ax_ui σ 1 2 ((σ.1 1 2) + (1 : Int32))) 2 4 (1 : Int32))) : ax_W shC (d + 1) mX1_readsClause Q 7 [some (ax_r 2), none] [ax_i rr] σ := by
  refine ax_istore_n (q := 8) (i := 1) (lv2 := [some (ax_r 2), some (ax_i rr)]) dX1_readsClause_7 rfl rfl (by decide) rfl rfl ?_
  refine ax_iload_n (q := 9) (i := 1) dX1_readsClause_8 rfl rfl rfl ?_
  refine ax_bipush (q := 11) dX1_readsClause_9 rfl kb_115 ?_
  refine ax_icmp_ne (tgt := 51) (q := 14) dX1_readsClause_11 (by decide) rfl (fun c1 => ?_) (fun c1 => ?_)
  · refine ax_iload_n (q := 52) (i := 1) dX1_readsClause_51 rfl rfl rfl ?_
    refine ax_bipush (q := 54) dX1_readsClause_52 rfl kb_104 ?_
    refine ax_icmp_ne (tgt := 109) (q := 57) dX1_readsClause_54 (by decide) rfl (fun c2 => ?_) (fun c2 => ?_)
    · refine ax_iload_n (q := 110) (i := 1) dX1_readsClause_109 rfl rfl rfl ?_
      refine ax_bipush (q := 112) dX1_readsClause_110 rfl kb_119 ?_
      refine ax_icmp_ne (tgt := 170) (q := 115) dX1_readsClause_112 (by decide) rfl (fun c3 => ?_) (fun c3 => ?_)
      · refine ax_iconst (q := 171) dX1_readsClause_170 rfl ki_0 ?_
        exact ax_iret dX1_readsClause_171 rfl rfl (k1 c1 c2 c3)
      · refine ax_aload_n (q := 116) (i := 0) dX1_readsClause_115 rfl rfl rfl ?_
        refine ax_get (q := 119) (k := 2) (j := 6) (v := ax_i (σ.1 2 6)) dX1_readsClause_116 rfl shC_2 rfl rfl rfl (by decide) fl_X1_38 ?_
        refine ax_bipush (q := 121) dX1_readsClause_119 rfl kb_8 ?_
        refine ax_icmp_ge (tgt := 170) (q := 124) dX1_readsClause_121 (by decide) rfl (fun c4 => ?_) (fun c4 => ?_)
        · refine ax_iconst (q := 171) dX1_readsClause_170 rfl ki_0 ?_
          exact ax_iret dX1_readsClause_171 rfl rfl (k2 c1 c2 c3 c4)
        · refine ax_aload_n (q := 125) (i := 0) dX1_readsClause_124 rfl rfl rfl ?_
          refine ax_get (q := 128) (k := 2) (j := 0) (v := ax_r 1) dX1_readsClause_125 rfl shC_2 rfl rfl rfl (by decide) fl_X1_21 ?_
          refine ax_dupr (q := 129) dX1_readsClause_128 rfl ?_
          refine ax_get (q := 132) (k := 1) (j := 2) (v := ax_i (σ.1 1 2)) dX1_readsClause_129 rfl shC_1 rfl rfl rfl (by decide) fl_X1_25 ?_
          refine ax_iconst (q := 133) dX1_readsClause_132 rfl ki_1 ?_
          refine ax_iadd (q := 134) dX1_readsClause_133 rfl ?_
          refine ax_puti (q := 137) (k := 1) (j := 2) dX1_readsClause_134 rfl shC_1 rfl rfl (by decide) fl_X1_25 rfl rfl rfl rfl ?_
          refine ax_aload_n (q := 138) (i := 0) dX1_readsClause_137 rfl rfl rfl ?_
          refine ax_dupr (q := 139) dX1_readsClause_138 rfl ?_
          refine ax_get (q := 142) (k := 2) (j := 6) (v := ax_i (σ.1 2 6)) dX1_readsClause_139 rfl shC_2 rfl rfl rfl (by decide) fl_X1_38 ?_
          refine ax_iconst (q := 143) dX1_readsClause_142 rfl ki_1 ?_
          refine ax_iadd (q := 144) dX1_readsClause_143 rfl ?_
          refine ax_puti (q := 147) (k := 2) (j := 6) dX1_readsClause_144 rfl shC_2 rfl rfl (by decide) fl_X1_38 rfl rfl rfl rfl ?_
          refine ax_aload_n (q := 148) (i := 0) dX1_readsClause_147 rfl rfl rfl ?_
          refine ax_aload_n (q := 149) (i := 0) dX1_readsClause_148 rfl rfl rfl ?_
          refine ax_get (q := 152) (k := 2) (j := 3) (v := ax_r 17) dX1_readsClause_149 rfl shC_2 rfl rfl rfl (by decide) fl_X1_18 ?_
          refine ax_aload_n (q := 153) (i := 0) dX1_readsClause_152 rfl rfl rfl ?_
          refine ax_get (q := 156) (k := 2) (j := 6) (v := ax_i ((σ.1 2 6) + (1 : Int32))) dX1_readsClause_153 rfl shC_2 rfl rfl rfl (by decide) fl_X1_38 ?_
          refine ax_iconst (q := 157) dX1_readsClause_156 rfl ki_1 ?_
          refine ax_isub (q := 158) dX1_readsClause_157 rfl ?_
          refine ax_iconst (q := 159) dX1_readsClause_158 rfl ki_3 ?_
          refine ax_imul (q := 160) dX1_readsClause_159 rfl ?_
          refine ax_bipush (q := 162) dX1_readsClause_160 rfl kb_6 ?_
          refine ax_gets (q := 165) dX1_readsClause_162 rfl st_2 fl_X1_64 ?_
          refine ax_tlen (q := 166) (t := 2) (v := 9) dX1_readsClause_165 rfl st_2 rfl ?_
          refine ax_fg (lv2 := [none, none]) trivial ?_
          exact ax_callVci (q := 169) (As := [ax_r 17, ax_i ((((σ.1 2 6) + (1 : Int32)) - (1 : Int32)) * (3 : Int32)), ax_i (6 : Int32), ax_i (9 : Int32)]) (st := []) dX1_readsClause_166 rfl lk_X1_60 shC_2 rfl rfl rfl rfl (Nat.le_of_ble_eq_true rfl) (k3 c1 c2 c3 c4)
    · refine ax_aload_n (q := 58) (i := 0) dX1_readsClause_57 rfl rfl rfl ?_
      refine ax_get (q := 61) (k := 2) (j := 5) (v := ax_i (σ.1 2 5)) dX1_readsClause_58 rfl shC_2 rfl rfl rfl (by decide) fl_X1_35 ?_
      refine ax_bipush (q := 63) dX1_readsClause_61 rfl kb_8 ?_
      refine ax_icmp_ge (tgt := 109) (q := 66) dX1_readsClause_63 (by decide) rfl (fun c5 => ?_) (fun c5 => ?_)
      · refine ax_iload_n (q := 110) (i := 1) dX1_readsClause_109 rfl rfl rfl ?_
        refine ax_bipush (q := 112) dX1_readsClause_110 rfl kb_119 ?_
        refine ax_icmp_ne (tgt := 170) (q := 115) dX1_readsClause_112 (by decide) rfl (fun c6 => ?_) (fun c6 => ?_)
        · refine ax_iconst (q := 171) dX1_readsClause_170 rfl ki_0 ?_
          exact ax_iret dX1_readsClause_171 rfl rfl (k4 c1 c2 c5 c6)
        · refine ax_aload_n (q := 116) (i := 0) dX1_readsClause_115 rfl rfl rfl ?_
          refine ax_get (q := 119) (k := 2) (j := 6) (v := ax_i (σ.1 2 6)) dX1_readsClause_116 rfl shC_2 rfl rfl rfl (by decide) fl_X1_38 ?_
          refine ax_bipush (q := 121) dX1_readsClause_119 rfl kb_8 ?_
          refine ax_icmp_ge (tgt := 170) (q := 124) dX1_readsClause_121 (by decide) rfl (fun c7 => ?_) (fun c7 => ?_)
          · refine ax_iconst (q := 171) dX1_readsClause_170 rfl ki_0 ?_
            exact ax_iret dX1_readsClause_171 rfl rfl (k5 c1 c2 c5 c6 c7)
          · refine ax_aload_n (q := 125) (i := 0) dX1_readsClause_124 rfl rfl rfl ?_
            refine ax_get (q := 128) (k := 2) (j := 0) (v := ax_r 1) dX1_readsClause_125 rfl shC_2 rfl rfl rfl (by decide) fl_X1_21 ?_
            refine ax_dupr (q := 129) dX1_readsClause_128 rfl ?_
            refine ax_get (q := 132) (k := 1) (j := 2) (v := ax_i (σ.1 1 2)) dX1_readsClause_129 rfl shC_1 rfl rfl rfl (by decide) fl_X1_25 ?_
            refine ax_iconst (q := 133) dX1_readsClause_132 rfl ki_1 ?_
            refine ax_iadd (q := 134) dX1_readsClause_133 rfl ?_
            refine ax_puti (q := 137) (k := 1) (j := 2) dX1_readsClause_134 rfl shC_1 rfl rfl (by decide) fl_X1_25 rfl rfl rfl rfl ?_
            refine ax_aload_n (q := 138) (i := 0) dX1_readsClause_137 rfl rfl rfl ?_
            refine ax_dupr (q := 139) dX1_readsClause_138 rfl ?_
            refine ax_get (q := 142) (k := 2) (j := 6) (v := ax_i (σ.1 2 6)) dX1_readsClause_139 rfl shC_2 rfl rfl rfl (by decide) fl_X1_38 ?_
            refine ax_iconst (q := 143) dX1_readsClause_142 rfl ki_1 ?_
            refine ax_iadd (q := 144) dX1_readsClause_143 rfl ?_
            refine ax_puti (q := 147) (k := 2) (j := 6) dX1_readsClause_144 rfl shC_2 rfl rfl (by decide) fl_X1_38 rfl rfl rfl rfl ?_
            refine ax_aload_n (q := 148) (i := 0) dX1_readsClause_147 rfl rfl rfl ?_
            refine ax_aload_n (q := 149) (i := 0) dX1_readsClause_148 rfl rfl rfl ?_
            refine ax_get (q := 152) (k := 2) (j := 3) (v := ax_r 17) dX1_readsClause_149 rfl shC_2 rfl rfl rfl (by decide) fl_X1_18 ?_
            refine ax_aload_n (q := 153) (i := 0) dX1_readsClause_152 rfl rfl rfl ?_
            refine ax_get (q := 156) (k := 2) (j := 6) (v := ax_i ((σ.1 2 6) + (1 : Int32))) dX1_readsClause_153 rfl shC_2 rfl rfl rfl (by decide) fl_X1_38 ?_
            refine ax_iconst (q := 157) dX1_readsClause_156 rfl ki_1 ?_
            refine ax_isub (q := 158) dX1_readsClause_157 rfl ?_
            refine ax_iconst (q := 159) dX1_readsClause_158 rfl ki_3 ?_
            refine ax_imul (q := 160) dX1_readsClause_159 rfl ?_
            refine ax_bipush (q := 162) dX1_readsClause_160 rfl kb_6 ?_
            refine ax_gets (q := 165) dX1_readsClause_162 rfl st_2 fl_X1_64 ?_
            refine ax_tlen (q := 166) (t := 2) (v := 9) dX1_readsClause_165 rfl st_2 rfl ?_
            refine ax_fg (lv2 := [none, none]) trivial ?_
            exact ax_callVci (q := 169) (As := [ax_r 17, ax_i ((((σ.1 2 6) + (1 : Int32)) - (1 : Int32)) * (3 : Int32)), ax_i (6 : Int32), ax_i (9 : Int32)]) (st := []) dX1_readsClause_166 rfl lk_X1_60 shC_2 rfl rfl rfl rfl (Nat.le_of_ble_eq_true rfl) (k6 c1 c2 c5 c6 c7)
      · refine ax_aload_n (q := 67) (i := 0) dX1_readsClause_66 rfl rfl rfl ?_
        refine ax_get (q := 70) (k := 2) (j := 0) (v := ax_r 1) dX1_readsClause_67 rfl shC_2 rfl rfl rfl (by decide) fl_X1_21 ?_
        refine ax_dupr (q := 71) dX1_readsClause_70 rfl ?_
        refine ax_get (q := 74) (k := 1) (j := 2) (v := ax_i (σ.1 1 2)) dX1_readsClause_71 rfl shC_1 rfl rfl rfl (by decide) fl_X1_25 ?_
        refine ax_iconst (q := 75) dX1_readsClause_74 rfl ki_1 ?_
        refine ax_iadd (q := 76) dX1_readsClause_75 rfl ?_
        refine ax_puti (q := 79) (k := 1) (j := 2) dX1_readsClause_76 rfl shC_1 rfl rfl (by decide) fl_X1_25 rfl rfl rfl rfl ?_
        refine ax_aload_n (q := 80) (i := 0) dX1_readsClause_79 rfl rfl rfl ?_
        refine ax_dupr (q := 81) dX1_readsClause_80 rfl ?_
        refine ax_get (q := 84) (k := 2) (j := 5) (v := ax_i (σ.1 2 5)) dX1_readsClause_81 rfl shC_2 rfl rfl rfl (by decide) fl_X1_35 ?_
        refine ax_iconst (q := 85) dX1_readsClause_84 rfl ki_1 ?_
        refine ax_iadd (q := 86) dX1_readsClause_85 rfl ?_
        refine ax_puti (q := 89) (k := 2) (j := 5) dX1_readsClause_86 rfl shC_2 rfl rfl (by decide) fl_X1_35 rfl rfl rfl rfl ?_
        refine ax_aload_n (q := 90) (i := 0) dX1_readsClause_89 rfl rfl rfl ?_
        refine ax_aload_n (q := 91) (i := 0) dX1_readsClause_90 rfl rfl rfl ?_
        refine ax_get (q := 94) (k := 2) (j := 2) (v := ax_r 16) dX1_readsClause_91 rfl shC_2 rfl rfl rfl (by decide) fl_X1_15 ?_
        refine ax_aload_n (q := 95) (i := 0) dX1_readsClause_94 rfl rfl rfl ?_
        refine ax_get (q := 98) (k := 2) (j := 5) (v := ax_i ((σ.1 2 5) + (1 : Int32))) dX1_readsClause_95 rfl shC_2 rfl rfl rfl (by decide) fl_X1_35 ?_
        refine ax_iconst (q := 99) dX1_readsClause_98 rfl ki_1 ?_
        refine ax_isub (q := 100) dX1_readsClause_99 rfl ?_
        refine ax_iconst (q := 101) dX1_readsClause_100 rfl ki_4 ?_
        refine ax_imul (q := 102) dX1_readsClause_101 rfl ?_
        refine ax_iconst (q := 103) dX1_readsClause_102 rfl ki_2 ?_
        refine ax_bipush (q := 105) dX1_readsClause_103 rfl kb_6 ?_
        refine ax_fg (lv2 := [none, none]) trivial ?_
        exact ax_callVci (q := 108) (As := [ax_r 16, ax_i ((((σ.1 2 5) + (1 : Int32)) - (1 : Int32)) * (4 : Int32)), ax_i (2 : Int32), ax_i (6 : Int32)]) (st := []) dX1_readsClause_105 rfl lk_X1_60 shC_2 rfl rfl rfl rfl (Nat.le_of_ble_eq_true rfl) (k7 c1 c2 c5)
  · refine ax_aload_n (q := 15) (i := 0) dX1_readsClause_14 rfl rfl rfl ?_
    refine ax_get (q := 18) (k := 2) (j := 4) (v := ax_i (σ.1 2 4)) dX1_readsClause_15 rfl shC_2 rfl rfl rfl (by decide) fl_X1_31 ?_
    refine ax_if_ne (tgt := 51) (q := 21) dX1_readsClause_18 (by decide) rfl (fun c8 => ?_) (fun c8 => ?_)
    · refine ax_iload_n (q := 52) (i := 1) dX1_readsClause_51 rfl rfl rfl ?_
      refine ax_bipush (q := 54) dX1_readsClause_52 rfl kb_104 ?_
      refine ax_icmp_ne (tgt := 109) (q := 57) dX1_readsClause_54 (by decide) rfl (fun c9 => ?_) (fun c9 => ?_)
      · refine ax_iload_n (q := 110) (i := 1) dX1_readsClause_109 rfl rfl rfl ?_
        refine ax_bipush (q := 112) dX1_readsClause_110 rfl kb_119 ?_
        refine ax_icmp_ne (tgt := 170) (q := 115) dX1_readsClause_112 (by decide) rfl (fun c10 => ?_) (fun c10 => ?_)
        · refine ax_iconst (q := 171) dX1_readsClause_170 rfl ki_0 ?_
          exact ax_iret dX1_readsClause_171 rfl rfl (k8 c1 c8 c9 c10)
        · refine ax_aload_n (q := 116) (i := 0) dX1_readsClause_115 rfl rfl rfl ?_
          refine ax_get (q := 119) (k := 2) (j := 6) (v := ax_i (σ.1 2 6)) dX1_readsClause_116 rfl shC_2 rfl rfl rfl (by decide) fl_X1_38 ?_
          refine ax_bipush (q := 121) dX1_readsClause_119 rfl kb_8 ?_
          refine ax_icmp_ge (tgt := 170) (q := 124) dX1_readsClause_121 (by decide) rfl (fun c11 => ?_) (fun c11 => ?_)
          · refine ax_iconst (q := 171) dX1_readsClause_170 rfl ki_0 ?_
            exact ax_iret dX1_readsClause_171 rfl rfl (k9 c1 c8 c9 c10 c11)
          · refine ax_aload_n (q := 125) (i := 0) dX1_readsClause_124 rfl rfl rfl ?_
            refine ax_get (q := 128) (k := 2) (j := 0) (v := ax_r 1) dX1_readsClause_125 rfl shC_2 rfl rfl rfl (by decide) fl_X1_21 ?_
            refine ax_dupr (q := 129) dX1_readsClause_128 rfl ?_
            refine ax_get (q := 132) (k := 1) (j := 2) (v := ax_i (σ.1 1 2)) dX1_readsClause_129 rfl shC_1 rfl rfl rfl (by decide) fl_X1_25 ?_
            refine ax_iconst (q := 133) dX1_readsClause_132 rfl ki_1 ?_
            refine ax_iadd (q := 134) dX1_readsClause_133 rfl ?_
            refine ax_puti (q := 137) (k := 1) (j := 2) dX1_readsClause_134 rfl shC_1 rfl rfl (by decide) fl_X1_25 rfl rfl rfl rfl ?_
            refine ax_aload_n (q := 138) (i := 0) dX1_readsClause_137 rfl rfl rfl ?_
            refine ax_dupr (q := 139) dX1_readsClause_138 rfl ?_
            refine ax_get (q := 142) (k := 2) (j := 6) (v := ax_i (σ.1 2 6)) dX1_readsClause_139 rfl shC_2 rfl rfl rfl (by decide) fl_X1_38 ?_
            refine ax_iconst (q := 143) dX1_readsClause_142 rfl ki_1 ?_
            refine ax_iadd (q := 144) dX1_readsClause_143 rfl ?_
            refine ax_puti (q := 147) (k := 2) (j := 6) dX1_readsClause_144 rfl shC_2 rfl rfl (by decide) fl_X1_38 rfl rfl rfl rfl ?_
            refine ax_aload_n (q := 148) (i := 0) dX1_readsClause_147 rfl rfl rfl ?_
            refine ax_aload_n (q := 149) (i := 0) dX1_readsClause_148 rfl rfl rfl ?_
            refine ax_get (q := 152) (k := 2) (j := 3) (v := ax_r 17) dX1_readsClause_149 rfl shC_2 rfl rfl rfl (by decide) fl_X1_18 ?_
            refine ax_aload_n (q := 153) (i := 0) dX1_readsClause_152 rfl rfl rfl ?_
            refine ax_get (q := 156) (k := 2) (j := 6) (v := ax_i ((σ.1 2 6) + (1 : Int32))) dX1_readsClause_153 rfl shC_2 rfl rfl rfl (by decide) fl_X1_38 ?_
            refine ax_iconst (q := 157) dX1_readsClause_156 rfl ki_1 ?_
            refine ax_isub (q := 158) dX1_readsClause_157 rfl ?_
            refine ax_iconst (q := 159) dX1_readsClause_158 rfl ki_3 ?_
            refine ax_imul (q := 160) dX1_readsClause_159 rfl ?_
            refine ax_bipush (q := 162) dX1_readsClause_160 rfl kb_6 ?_
            refine ax_gets (q := 165) dX1_readsClause_162 rfl st_2 fl_X1_64 ?_
            refine ax_tlen (q := 166) (t := 2) (v := 9) dX1_readsClause_165 rfl st_2 rfl ?_
            refine ax_fg (lv2 := [none, none]) trivial ?_
            exact ax_callVci (q := 169) (As := [ax_r 17, ax_i ((((σ.1 2 6) + (1 : Int32)) - (1 : Int32)) * (3 : Int32)), ax_i (6 : Int32), ax_i (9 : Int32)]) (st := []) dX1_readsClause_166 rfl lk_X1_60 shC_2 rfl rfl rfl rfl (Nat.le_of_ble_eq_true rfl) (k10 c1 c8 c9 c10 c11)
      · refine ax_aload_n (q := 58) (i := 0) dX1_readsClause_57 rfl rfl rfl ?_
        refine ax_get (q := 61) (k := 2) (j := 5) (v := ax_i (σ.1 2 5)) dX1_readsClause_58 rfl shC_2 rfl rfl rfl (by decide) fl_X1_35 ?_
        refine ax_bipush (q := 63) dX1_readsClause_61 rfl kb_8 ?_
        refine ax_icmp_ge (tgt := 109) (q := 66) dX1_readsClause_63 (by decide) rfl (fun c12 => ?_) (fun c12 => ?_)
        · refine ax_iload_n (q := 110) (i := 1) dX1_readsClause_109 rfl rfl rfl ?_
          refine ax_bipush (q := 112) dX1_readsClause_110 rfl kb_119 ?_
          refine ax_icmp_ne (tgt := 170) (q := 115) dX1_readsClause_112 (by decide) rfl (fun c13 => ?_) (fun c13 => ?_)
          · refine ax_iconst (q := 171) dX1_readsClause_170 rfl ki_0 ?_
            exact ax_iret dX1_readsClause_171 rfl rfl (k11 c1 c8 c9 c12 c13)
          · refine ax_aload_n (q := 116) (i := 0) dX1_readsClause_115 rfl rfl rfl ?_
            refine ax_get (q := 119) (k := 2) (j := 6) (v := ax_i (σ.1 2 6)) dX1_readsClause_116 rfl shC_2 rfl rfl rfl (by decide) fl_X1_38 ?_
            refine ax_bipush (q := 121) dX1_readsClause_119 rfl kb_8 ?_
            refine ax_icmp_ge (tgt := 170) (q := 124) dX1_readsClause_121 (by decide) rfl (fun c14 => ?_) (fun c14 => ?_)
            · refine ax_iconst (q := 171) dX1_readsClause_170 rfl ki_0 ?_
              exact ax_iret dX1_readsClause_171 rfl rfl (k12 c1 c8 c9 c12 c13 c14)
            · refine ax_aload_n (q := 125) (i := 0) dX1_readsClause_124 rfl rfl rfl ?_
              refine ax_get (q := 128) (k := 2) (j := 0) (v := ax_r 1) dX1_readsClause_125 rfl shC_2 rfl rfl rfl (by decide) fl_X1_21 ?_
              refine ax_dupr (q := 129) dX1_readsClause_128 rfl ?_
              refine ax_get (q := 132) (k := 1) (j := 2) (v := ax_i (σ.1 1 2)) dX1_readsClause_129 rfl shC_1 rfl rfl rfl (by decide) fl_X1_25 ?_
              refine ax_iconst (q := 133) dX1_readsClause_132 rfl ki_1 ?_
              refine ax_iadd (q := 134) dX1_readsClause_133 rfl ?_
              refine ax_puti (q := 137) (k := 1) (j := 2) dX1_readsClause_134 rfl shC_1 rfl rfl (by decide) fl_X1_25 rfl rfl rfl rfl ?_
              refine ax_aload_n (q := 138) (i := 0) dX1_readsClause_137 rfl rfl rfl ?_
              refine ax_dupr (q := 139) dX1_readsClause_138 rfl ?_
              refine ax_get (q := 142) (k := 2) (j := 6) (v := ax_i (σ.1 2 6)) dX1_readsClause_139 rfl shC_2 rfl rfl rfl (by decide) fl_X1_38 ?_
              refine ax_iconst (q := 143) dX1_readsClause_142 rfl ki_1 ?_
              refine ax_iadd (q := 144) dX1_readsClause_143 rfl ?_
              refine ax_puti (q := 147) (k := 2) (j := 6) dX1_readsClause_144 rfl shC_2 rfl rfl (by decide) fl_X1_38 rfl rfl rfl rfl ?_
              refine ax_aload_n (q := 148) (i := 0) dX1_readsClause_147 rfl rfl rfl ?_
              refine ax_aload_n (q := 149) (i := 0) dX1_readsClause_148 rfl rfl rfl ?_
              refine ax_get (q := 152) (k := 2) (j := 3) (v := ax_r 17) dX1_readsClause_149 rfl shC_2 rfl rfl rfl (by decide) fl_X1_18 ?_
              refine ax_aload_n (q := 153) (i := 0) dX1_readsClause_152 rfl rfl rfl ?_
              refine ax_get (q := 156) (k := 2) (j := 6) (v := ax_i ((σ.1 2 6) + (1 : Int32))) dX1_readsClause_153 rfl shC_2 rfl rfl rfl (by decide) fl_X1_38 ?_
              refine ax_iconst (q := 157) dX1_readsClause_156 rfl ki_1 ?_
              refine ax_isub (q := 158) dX1_readsClause_157 rfl ?_
              refine ax_iconst (q := 159) dX1_readsClause_158 rfl ki_3 ?_
              refine ax_imul (q := 160) dX1_readsClause_159 rfl ?_
              refine ax_bipush (q := 162) dX1_readsClause_160 rfl kb_6 ?_
              refine ax_gets (q := 165) dX1_readsClause_162 rfl st_2 fl_X1_64 ?_
              refine ax_tlen (q := 166) (t := 2) (v := 9) dX1_readsClause_165 rfl st_2 rfl ?_
              refine ax_fg (lv2 := [none, none]) trivial ?_
              exact ax_callVci (q := 169) (As := [ax_r 17, ax_i ((((σ.1 2 6) + (1 : Int32)) - (1 : Int32)) * (3 : Int32)), ax_i (6 : Int32), ax_i (9 : Int32)]) (st := []) dX1_readsClause_166 rfl lk_X1_60 shC_2 rfl rfl rfl rfl (Nat.le_of_ble_eq_true rfl) (k13 c1 c8 c9 c12 c13 c14)
        · refine ax_aload_n (q := 67) (i := 0) dX1_readsClause_66 rfl rfl rfl ?_
          refine ax_get (q := 70) (k := 2) (j := 0) (v := ax_r 1) dX1_readsClause_67 rfl shC_2 rfl rfl rfl (by decide) fl_X1_21 ?_
          refine ax_dupr (q := 71) dX1_readsClause_70 rfl ?_
          refine ax_get (q := 74) (k := 1) (j := 2) (v := ax_i (σ.1 1 2)) dX1_readsClause_71 rfl shC_1 rfl rfl rfl (by decide) fl_X1_25 ?_
          refine ax_iconst (q := 75) dX1_readsClause_74 rfl ki_1 ?_
          refine ax_iadd (q := 76) dX1_readsClause_75 rfl ?_
          refine ax_puti (q := 79) (k := 1) (j := 2) dX1_readsClause_76 rfl shC_1 rfl rfl (by decide) fl_X1_25 rfl rfl rfl rfl ?_
          refine ax_aload_n (q := 80) (i := 0) dX1_readsClause_79 rfl rfl rfl ?_
          refine ax_dupr (q := 81) dX1_readsClause_80 rfl ?_
          refine ax_get (q := 84) (k := 2) (j := 5) (v := ax_i (σ.1 2 5)) dX1_readsClause_81 rfl shC_2 rfl rfl rfl (by decide) fl_X1_35 ?_
          refine ax_iconst (q := 85) dX1_readsClause_84 rfl ki_1 ?_
          refine ax_iadd (q := 86) dX1_readsClause_85 rfl ?_
          refine ax_puti (q := 89) (k := 2) (j := 5) dX1_readsClause_86 rfl shC_2 rfl rfl (by decide) fl_X1_35 rfl rfl rfl rfl ?_
          refine ax_aload_n (q := 90) (i := 0) dX1_readsClause_89 rfl rfl rfl ?_
          refine ax_aload_n (q := 91) (i := 0) dX1_readsClause_90 rfl rfl rfl ?_
          refine ax_get (q := 94) (k := 2) (j := 2) (v := ax_r 16) dX1_readsClause_91 rfl shC_2 rfl rfl rfl (by decide) fl_X1_15 ?_
          refine ax_aload_n (q := 95) (i := 0) dX1_readsClause_94 rfl rfl rfl ?_
          refine ax_get (q := 98) (k := 2) (j := 5) (v := ax_i ((σ.1 2 5) + (1 : Int32))) dX1_readsClause_95 rfl shC_2 rfl rfl rfl (by decide) fl_X1_35 ?_
          refine ax_iconst (q := 99) dX1_readsClause_98 rfl ki_1 ?_
          refine ax_isub (q := 100) dX1_readsClause_99 rfl ?_
          refine ax_iconst (q := 101) dX1_readsClause_100 rfl ki_4 ?_
          refine ax_imul (q := 102) dX1_readsClause_101 rfl ?_
          refine ax_iconst (q := 103) dX1_readsClause_102 rfl ki_2 ?_
          refine ax_bipush (q := 105) dX1_readsClause_103 rfl kb_6 ?_
          refine ax_fg (lv2 := [none, none]) trivial ?_
          exact ax_callVci (q := 108) (As := [ax_r 16, ax_i ((((σ.1 2 5) + (1 : Int32)) - (1 : Int32)) * (4 : Int32)), ax_i (2 : Int32), ax_i (6 : Int32)]) (st := []) dX1_readsClause_105 rfl lk_X1_60 shC_2 rfl rfl rfl rfl (Nat.le_of_ble_eq_true rfl) (k14 c1 c8 c9 c12)
    · refine ax_aload_n (q := 22) (i := 0) dX1_readsClause_21 rfl rfl rfl ?_
      refine ax_get (q := 25) (k := 2) (j := 0) (v := ax_r 1) dX1_readsClause_22 rfl shC_2 rfl rfl rfl (by decide) fl_X1_21 ?_
      refine ax_dupr (q := 26) dX1_readsClause_25 rfl ?_
      refine ax_get (q := 29) (k := 1) (j := 2) (v := ax_i (σ.1 1 2)) dX1_readsClause_26 rfl shC_1 rfl rfl rfl (by decide) fl_X1_25 ?_
      refine ax_iconst (q := 30) dX1_readsClause_29 rfl ki_1 ?_
      refine ax_iadd (q := 31) dX1_readsClause_30 rfl ?_
      refine ax_puti (q := 34) (k := 1) (j := 2) dX1_readsClause_31 rfl shC_1 rfl rfl (by decide) fl_X1_25 rfl rfl rfl rfl ?_
      refine ax_aload_n (q := 35) (i := 0) dX1_readsClause_34 rfl rfl rfl ?_
      refine ax_iconst (q := 36) dX1_readsClause_35 rfl ki_1 ?_
      refine ax_puti (q := 39) (k := 2) (j := 4) dX1_readsClause_36 rfl shC_2 rfl rfl (by decide) fl_X1_31 rfl rfl rfl rfl ?_
      refine ax_aload_n (q := 40) (i := 0) dX1_readsClause_39 rfl rfl rfl ?_
      refine ax_aload_n (q := 41) (i := 0) dX1_readsClause_40 rfl rfl rfl ?_
      refine ax_get (q := 44) (k := 2) (j := 1) (v := ax_r 15) dX1_readsClause_41 rfl shC_2 rfl rfl rfl (by decide) fl_X1_11 ?_
      refine ax_iconst (q := 45) dX1_readsClause_44 rfl ki_0 ?_
      refine ax_iconst (q := 46) dX1_readsClause_45 rfl ki_0 ?_
      refine ax_iconst (q := 47) dX1_readsClause_46 rfl ki_2 ?_
      refine ax_fg (lv2 := [none, none]) trivial ?_
      exact ax_callVci (q := 50) (As := [ax_r 15, ax_i (0 : Int32), ax_i (0 : Int32), ax_i (2 : Int32)]) (st := []) dX1_readsClause_47 rfl lk_X1_60 shC_2 rfl rfl rfl rfl (Nat.le_of_ble_eq_true rfl) (k15 c1 c8)
set_option maxRecDepth 20000 in
theorem s_X1_readsClause_108 {d : Nat} (hd : 0 ≤ d) {Q : Option ax_V → ax_S → Prop} (σ : ax_S) (rr : Int32) (k1 : Q (some (ax_i rr)) σ) (h2 : rr = 0 ∨ rr = 1) : ax_W shC (d + 1) mX1_readsClause Q 108 [none, none] [ax_i rr] σ := by
  exact ax_iret dX1_readsClause_108 rfl (ax_nb01 h2) k1
set_option maxRecDepth 20000 in
theorem s_X1_readsClause_169 {d : Nat} (hd : 0 ≤ d) {Q : Option ax_V → ax_S → Prop} (σ : ax_S) (rr : Int32) (k1 : Q (some (ax_i rr)) σ) (h2 : rr = 0 ∨ rr = 1) : ax_W shC (d + 1) mX1_readsClause Q 169 [none, none] [ax_i rr] σ := by
  exact ax_iret dX1_readsClause_169 rfl (ax_nb01 h2) k1
set_option maxRecDepth 20000 in
theorem s_X1_readsClause_50 {d : Nat} (hd : 0 ≤ d) {Q : Option ax_V → ax_S → Prop} (σ : ax_S) (rr : Int32) (k1 : Q (some (ax_i rr)) σ) (h2 : rr = 0 ∨ rr = 1) : ax_W shC (d + 1) mX1_readsClause Q 50 [none, none] [ax_i rr] σ := by
  exact ax_iret dX1_readsClause_50 rfl (ax_nb01 h2) k1
set_option maxRecDepth 20000 in
theorem s_X9_takes_0 {d : Nat} (hd : 0 ≤ d) {Q : Option ax_V → ax_S → Prop} (σ : ax_S) (a0 : Int32) (k1 : ax_Ct shC d mX9_sign [ax_r 1] (fun r u => ∃ x : Int32, r = some (ax_i x) ∧ ax_W shC (d + 1) mX9_takes Q 4 [some (ax_r 1), some (ax_i a0)] (ax_i x :: []) u) σ) : ax_W shC (d + 1) mX9_takes Q 0 [some (ax_r 1), some (ax_i a0)] [] σ := by
  refine ax_aload_n (q := 1) (i := 0) dX9_takes_0 rfl rfl rfl ?_
  exact ax_callVci (q := 4) (As := []) (st := []) dX9_takes_1 rfl lk_X9_22 shC_1 rfl rfl rfl rfl (Nat.le_of_ble_eq_true rfl) k1
set_option maxRecDepth 20000 in
theorem s_X9_takes_4 {d : Nat} (hd : 0 ≤ d) {Q : Option ax_V → ax_S → Prop} (σ : ax_S) (x1 : Int32) (rr : Int32) (k1 : (rr = x1) → Q (some (ax_i (1 : Int32))) (ax_ui σ 1 2 ((σ.1 1 2) + (1 : Int32)))) (k2 : (¬ (rr = x1)) → Q (some (ax_i (0 : Int32))) σ) : ax_W shC (d + 1) mX9_takes Q 4 [some (ax_r 1), some (ax_i x1)] [ax_i rr] σ := by
  refine ax_iload_n (q := 5) (i := 1) dX9_takes_4 rfl rfl rfl ?_
  refine ax_icmp_eq (tgt := 10) (q := 8) dX9_takes_5 (by decide) rfl (fun c1 => ?_) (fun c1 => ?_)
  · refine ax_aload_n (q := 11) (i := 0) dX9_takes_10 rfl rfl rfl ?_
    refine ax_dupr (q := 12) dX9_takes_11 rfl ?_
    refine ax_get (q := 15) (k := 1) (j := 2) (v := ax_i (σ.1 1 2)) dX9_takes_12 rfl shC_1 rfl rfl rfl (by decide) fl_X9_19 ?_
    refine ax_iconst (q := 16) dX9_takes_15 rfl ki_1 ?_
    refine ax_iadd (q := 17) dX9_takes_16 rfl ?_
    refine ax_puti (q := 20) (k := 1) (j := 2) dX9_takes_17 rfl shC_1 rfl rfl (by decide) fl_X9_19 rfl rfl rfl rfl ?_
    refine ax_iconst (q := 21) dX9_takes_20 rfl ki_1 ?_
    exact ax_iret dX9_takes_21 rfl rfl (k1 c1)
  · refine ax_iconst (q := 9) dX9_takes_8 rfl ki_0 ?_
    exact ax_iret dX9_takes_9 rfl rfl (k2 c1)
set_option maxRecDepth 20000 in
theorem s_X1_reads_0 {d : Nat} (hd : 0 ≤ d) {Q : Option ax_V → ax_S → Prop} (σ : ax_S)  (k1 : ax_Ct shC d mX1_setWithout [ax_r 2, ax_r 15, ax_i (0 : Int32), ax_i (0 : Int32), ax_i (2 : Int32)] (fun r u => r = none ∧ ax_W shC (d + 1) mX1_reads Q 34 [some (ax_r 2), none] [] u) (ax_ui (ax_ui (ax_ui (ax_ui σ 1 2 (0 : Int32)) 2 4 (0 : Int32)) 2 5 (0 : Int32)) 2 6 (0 : Int32))) : ax_W shC (d + 1) mX1_reads Q 0 [some (ax_r 2), none] [] σ := by
  refine ax_aload_n (q := 1) (i := 0) dX1_reads_0 rfl rfl rfl ?_
  refine ax_get (q := 4) (k := 2) (j := 0) (v := ax_r 1) dX1_reads_1 rfl shC_2 rfl rfl rfl (by decide) fl_X1_21 ?_
  refine ax_iconst (q := 5) dX1_reads_4 rfl ki_0 ?_
  refine ax_puti (q := 8) (k := 1) (j := 2) dX1_reads_5 rfl shC_1 rfl rfl (by decide) fl_X1_25 rfl rfl rfl rfl ?_
  refine ax_aload_n (q := 9) (i := 0) dX1_reads_8 rfl rfl rfl ?_
  refine ax_iconst (q := 10) dX1_reads_9 rfl ki_0 ?_
  refine ax_puti (q := 13) (k := 2) (j := 4) dX1_reads_10 rfl shC_2 rfl rfl (by decide) fl_X1_31 rfl rfl rfl rfl ?_
  refine ax_aload_n (q := 14) (i := 0) dX1_reads_13 rfl rfl rfl ?_
  refine ax_iconst (q := 15) dX1_reads_14 rfl ki_0 ?_
  refine ax_puti (q := 18) (k := 2) (j := 5) dX1_reads_15 rfl shC_2 rfl rfl (by decide) fl_X1_35 rfl rfl rfl rfl ?_
  refine ax_aload_n (q := 19) (i := 0) dX1_reads_18 rfl rfl rfl ?_
  refine ax_iconst (q := 20) dX1_reads_19 rfl ki_0 ?_
  refine ax_puti (q := 23) (k := 2) (j := 6) dX1_reads_20 rfl shC_2 rfl rfl (by decide) fl_X1_38 rfl rfl rfl rfl ?_
  refine ax_aload_n (q := 24) (i := 0) dX1_reads_23 rfl rfl rfl ?_
  refine ax_aload_n (q := 25) (i := 0) dX1_reads_24 rfl rfl rfl ?_
  refine ax_get (q := 28) (k := 2) (j := 1) (v := ax_r 15) dX1_reads_25 rfl shC_2 rfl rfl rfl (by decide) fl_X1_11 ?_
  refine ax_iconst (q := 29) dX1_reads_28 rfl ki_0 ?_
  refine ax_iconst (q := 30) dX1_reads_29 rfl ki_0 ?_
  refine ax_iconst (q := 31) dX1_reads_30 rfl ki_2 ?_
  exact ax_callVcv (q := 34) (As := [ax_r 15, ax_i (0 : Int32), ax_i (0 : Int32), ax_i (2 : Int32)]) (st := []) dX1_reads_31 rfl lk_X1_41 shC_2 rfl rfl rfl rfl (Nat.le_of_ble_eq_true rfl) k1
set_option maxRecDepth 20000 in
theorem s_X1_reads_34 {d : Nat} (hd : 0 ≤ d) {Q : Option ax_V → ax_S → Prop} (σ : ax_S)  (k1 : ax_W shC (d + 1) mX1_reads Q 36 [some (ax_r 2), some (ax_i (0 : Int32))] [] σ) : ax_W shC (d + 1) mX1_reads Q 34 [some (ax_r 2), none] [] σ := by
  refine ax_iconst (q := 35) dX1_reads_34 rfl ki_0 ?_
  refine ax_istore_n (q := 36) (i := 1) (lv2 := [some (ax_r 2), some (ax_i (0 : Int32))]) dX1_reads_35 rfl rfl (by decide) rfl rfl ?_
  exact k1
set_option maxRecDepth 20000 in
theorem s_X1_reads_36 {d : Nat} (hd : 0 ≤ d) {Q : Option ax_V → ax_S → Prop} (σ : ax_S) (x1 : Int32) (k1 : ((240 : Int32) ≤ x1) → ax_Ct shC d mX9_sign [ax_r 1] (fun r u => ∃ x : Int32, r = some (ax_i x) ∧ ax_W shC (d + 1) mX1_reads Q 80 [some (ax_r 2), none] (ax_i x :: []) u) σ) (k2 : (¬ ((240 : Int32) ≤ x1)) → ax_Ct shC d mX1_readsClause [ax_r 2] (fun r u => ∃ x : Int32, r = some (ax_i x) ∧ ax_W shC (d + 1) mX1_reads Q 47 [some (ax_r 2), some (ax_i x1)] (ax_i x :: []) u) σ) : ax_W shC (d + 1) mX1_reads Q 36 [some (ax_r 2), some (ax_i x1)] [] σ := by
  refine ax_iload_n (q := 37) (i := 1) dX1_reads_36 rfl rfl rfl ?_
  refine ax_sipush (q := 40) dX1_reads_37 rfl ks_240 ?_
  refine ax_icmp_ge (tgt := 73) (q := 43) dX1_reads_40 (by decide) rfl (fun c1 => ?_) (fun c1 => ?_)
  · refine ax_aload_n (q := 74) (i := 0) dX1_reads_73 rfl rfl rfl ?_
    refine ax_get (q := 77) (k := 2) (j := 0) (v := ax_r 1) dX1_reads_74 rfl shC_2 rfl rfl rfl (by decide) fl_X1_21 ?_
    refine ax_fg (lv2 := [some (ax_r 2), none]) ⟨rfl, trivial⟩ ?_
    exact ax_callVci (q := 80) (As := []) (st := []) dX1_reads_77 rfl lk_X1_53 shC_1 rfl rfl rfl rfl (Nat.le_of_ble_eq_true rfl) (k1 c1)
  · refine ax_aload_n (q := 44) (i := 0) dX1_reads_43 rfl rfl rfl ?_
    exact ax_callVci (q := 47) (As := []) (st := []) dX1_reads_44 rfl lk_X1_45 shC_2 rfl rfl rfl rfl (Nat.le_of_ble_eq_true rfl) (k2 c1)
set_option maxRecDepth 20000 in
theorem s_X1_reads_47 {d : Nat} (hd : 0 ≤ d) {Q : Option ax_V → ax_S → Prop} (σ : ax_S) (x1 : Int32) (rr : Int32) (k1 : (¬ rr = 0) → ax_Ct shC d mX9_takes [ax_r 1, ax_i (59 : Int32)] (fun r u => ∃ x : Int32, r = some (ax_i x) ∧ ax_W shC (d + 1) mX1_reads Q 61 [some (ax_r 2), some (ax_i x1)] (ax_i x :: []) u) σ) (k2 : (¬ (¬ rr = 0)) → Q (some (ax_i (0 : Int32))) σ) : ax_W shC (d + 1) mX1_reads Q 47 [some (ax_r 2), some (ax_i x1)] [ax_i rr] σ := by
  refine ax_if_ne (tgt := 52) (q := 50) dX1_reads_47 (by decide) rfl (fun c1 => ?_) (fun c1 => ?_)
  · refine ax_aload_n (q := 53) (i := 0) dX1_reads_52 rfl rfl rfl ?_
    refine ax_get (q := 56) (k := 2) (j := 0) (v := ax_r 1) dX1_reads_53 rfl shC_2 rfl rfl rfl (by decide) fl_X1_21 ?_
    refine ax_bipush (q := 58) dX1_reads_56 rfl kb_59 ?_
    exact ax_callVci (q := 61) (As := [ax_i (59 : Int32)]) (st := []) dX1_reads_58 rfl lk_X1_49 shC_1 rfl rfl rfl rfl (Nat.le_of_ble_eq_true rfl) (k1 c1)
  · refine ax_iconst (q := 51) dX1_reads_50 rfl ki_0 ?_
    exact ax_iret dX1_reads_51 rfl rfl (k2 c1)
set_option maxRecDepth 20000 in
theorem s_X1_reads_80 {d : Nat} (hd : 0 ≤ d) {Q : Option ax_V → ax_S → Prop} (σ : ax_S) (rr : Int32) (k1 : (¬ rr = (-1 : Int32)) → Q (some (ax_i (0 : Int32))) σ) (k2 : (¬ (¬ rr = (-1 : Int32))) → ax_Ct shC d mX1_isWhole [ax_r 2] (fun r u => ∃ x : Int32, r = some (ax_i x) ∧ ax_W shC (d + 1) mX1_reads Q 88 [none, none] (ax_i x :: []) u) σ) : ax_W shC (d + 1) mX1_reads Q 80 [some (ax_r 2), none] [ax_i rr] σ := by
  refine ax_iconst (q := 81) dX1_reads_80 rfl ki_m1 ?_
  refine ax_icmp_ne (tgt := 95) (q := 84) dX1_reads_81 (by decide) rfl (fun c1 => ?_) (fun c1 => ?_)
  · refine ax_iconst (q := 96) dX1_reads_95 rfl ki_0 ?_
    exact ax_iret dX1_reads_96 rfl rfl (k1 c1)
  · refine ax_aload_n (q := 85) (i := 0) dX1_reads_84 rfl rfl rfl ?_
    refine ax_fg (lv2 := [none, none]) trivial ?_
    exact ax_callVci (q := 88) (As := []) (st := []) dX1_reads_85 rfl lk_X1_57 shC_2 rfl rfl rfl rfl (Nat.le_of_ble_eq_true rfl) (k2 c1)
set_option maxRecDepth 20000 in
theorem s_X1_reads_61 {d : Nat} (hd : 0 ≤ d) {Q : Option ax_V → ax_S → Prop} (σ : ax_S) (x1 : Int32) (rr : Int32) (k1 : (¬ rr = 0) → ax_W shC (d + 1) mX1_reads Q 36 [some (ax_r 2), some (ax_i (x1 + (1 : Int32)))] [] σ) (k2 : (¬ (¬ rr = 0)) → ax_Ct shC d mX9_sign [ax_r 1] (fun r u => ∃ x : Int32, r = some (ax_i x) ∧ ax_W shC (d + 1) mX1_reads Q 80 [some (ax_r 2), none] (ax_i x :: []) u) σ) : ax_W shC (d + 1) mX1_reads Q 61 [some (ax_r 2), some (ax_i x1)] [ax_i rr] σ := by
  refine ax_if_ne (tgt := 67) (q := 64) dX1_reads_61 (by decide) rfl (fun c1 => ?_) (fun c1 => ?_)
  · refine ax_iincK (q := 70) (lv2 := [some (ax_r 2), some (ax_i (x1 + (1 : Int32)))]) dX1_reads_67 rfl rfl ki_1 (by decide) rfl rfl ?_
    refine ax_goto (tgt := 36) dX1_reads_70 (by decide) ?_
    exact (k1 c1)
  · refine ax_goto (tgt := 73) dX1_reads_64 (by decide) ?_
    refine ax_aload_n (q := 74) (i := 0) dX1_reads_73 rfl rfl rfl ?_
    refine ax_get (q := 77) (k := 2) (j := 0) (v := ax_r 1) dX1_reads_74 rfl shC_2 rfl rfl rfl (by decide) fl_X1_21 ?_
    refine ax_fg (lv2 := [some (ax_r 2), none]) ⟨rfl, trivial⟩ ?_
    exact ax_callVci (q := 80) (As := []) (st := []) dX1_reads_77 rfl lk_X1_53 shC_1 rfl rfl rfl rfl (Nat.le_of_ble_eq_true rfl) (k2 c1)
set_option maxRecDepth 20000 in
theorem s_X1_reads_88 {d : Nat} (hd : 0 ≤ d) {Q : Option ax_V → ax_S → Prop} (σ : ax_S) (rr : Int32) (k1 : Q (some (ax_i (if (¬ (rr = 0)) then (1 : Int32) else 0))) σ) : ax_W shC (d + 1) mX1_reads Q 88 [none, none] [ax_i rr] σ := by
  have K2 : ax_W shC (d + 1) mX1_reads Q 96 [none, none] [ax_i (if (¬ (rr = 0)) then (1 : Int32) else 0)] σ := by
    exact ax_iret dX1_reads_96 rfl (ax_nb _) k1
  refine ax_if_eq (tgt := 95) (q := 91) dX1_reads_88 (by decide) rfl (fun c1 => ?_) (fun c1 => ?_)
  · refine ax_iconst (q := 96) dX1_reads_95 rfl ki_0 ?_
    exact ax_cv (if_neg (fun y => y c1)) K2
  · refine ax_iconst (q := 92) dX1_reads_91 rfl ki_1 ?_
    refine ax_goto (tgt := 96) dX1_reads_92 (by decide) ?_
    exact ax_cv (if_pos c1) K2
set_option maxRecDepth 20000 in
theorem f_X2_clear (σ : ax_S)   {d : Nat} (hd : 1 ≤ d) : ax_Ct shC d mX2_clear [ax_r 8] (fun r u => r = none ∧ u = (ax_ui σ 8 2 (0 : Int32))) σ := by
  obtain ⟨d, rfl⟩ : ∃ e, d = e + 1 := ⟨d - 1, by omega⟩
  refine ax_Ct.of (lv := [some (ax_r 8)]) (by decide +kernel) (fun ad => Nat.le_of_ble_eq_true rfl) (fun ad => rfl) ?_
  refine ax_aload_n (q := 1) (i := 0) dX2_clear_0 rfl rfl rfl ?_
  refine ax_iconst (q := 2) dX2_clear_1 rfl ki_0 ?_
  refine ax_puti (q := 5) (k := 8) (j := 2) dX2_clear_2 rfl shC_8 rfl rfl (by decide) fl_X2_18 rfl rfl rfl rfl ?_
  exact ax_vret dX2_clear_5 rfl ⟨rfl, rfl⟩
set_option maxRecDepth 20000 in
theorem f_X2_length (σ : ax_S)   {d : Nat} (hd : 1 ≤ d) : ax_Ct shC d mX2_length [ax_r 8] (fun r u => r = some (ax_i (if (σ.1 8 2) < (60 : Int32) then (σ.1 8 2) else (60 : Int32))) ∧ u = σ) σ := by
  obtain ⟨d, rfl⟩ : ∃ e, d = e + 1 := ⟨d - 1, by omega⟩
  refine ax_Ct.of (lv := [some (ax_r 8)]) (by decide +kernel) (fun ad => Nat.le_of_ble_eq_true rfl) (fun ad => rfl) ?_
  refine ax_bipush (q := 2) dX2_length_0 rfl kb_60 ?_
  refine ax_aload_n (q := 3) (i := 0) dX2_length_2 rfl rfl rfl ?_
  refine ax_get (q := 6) (k := 8) (j := 2) (v := ax_i (σ.1 8 2)) dX2_length_3 rfl shC_8 rfl rfl rfl (by decide) fl_X2_18 ?_
  refine ax_mmin (q := 9) dX2_length_6 rfl mk_X2_22 (Nat.le_of_ble_eq_true rfl) ?_
  exact ax_iret dX2_length_9 rfl rfl ⟨rfl, rfl⟩
set_option maxRecDepth 20000 in
theorem f_X2_add (σ : ax_S) (a0 : Int32) (a1 : Int32) (a2 : Int32) (h1 : ¬ (128 : Int32) = 0) (h2 : vp_in (((σ.1 8 2) - (σ.1 8 2) / (128 : Int32) * (128 : Int32)) * (3 : Int32)) 384) (h3 : vp_in ((((σ.1 8 2) - (σ.1 8 2) / (128 : Int32) * (128 : Int32)) * (3 : Int32)) + (1 : Int32)) 384) (h4 : vp_in ((((σ.1 8 2) - (σ.1 8 2) / (128 : Int32) * (128 : Int32)) * (3 : Int32)) + (2 : Int32)) 384) {d : Nat} (hd : 1 ≤ d) : ax_Ct shC d mX2_add [ax_r 8, ax_i a0, ax_i a1, ax_i a2] (fun r u => r = none ∧ u = (ax_ui (ax_ui (ax_ui (ax_ui σ 37 (Int32.toNatClampNeg (((σ.1 8 2) - (σ.1 8 2) / (128 : Int32) * (128 : Int32)) * (3 : Int32))) a0) 37 (Int32.toNatClampNeg ((((σ.1 8 2) - (σ.1 8 2) / (128 : Int32) * (128 : Int32)) * (3 : Int32)) + (1 : Int32))) a1) 37 (Int32.toNatClampNeg ((((σ.1 8 2) - (σ.1 8 2) / (128 : Int32) * (128 : Int32)) * (3 : Int32)) + (2 : Int32))) a2) 8 2 ((σ.1 8 2) + (1 : Int32)))) σ := by
  obtain ⟨d, rfl⟩ : ∃ e, d = e + 1 := ⟨d - 1, by omega⟩
  refine ax_Ct.of (lv := [some (ax_r 8), some (ax_i a0), some (ax_i a1), some (ax_i a2), none]) (by decide +kernel) (fun ad => Nat.le_of_ble_eq_true rfl) (fun ad => rfl) ?_
  refine ax_aload_n (q := 1) (i := 0) dX2_add_0 rfl rfl rfl ?_
  refine ax_get (q := 4) (k := 8) (j := 2) (v := ax_i (σ.1 8 2)) dX2_add_1 rfl shC_8 rfl rfl rfl (by decide) fl_X2_18 ?_
  refine ax_sipush (q := 7) dX2_add_4 rfl ks_128 ?_
  refine ax_irem (q := 8) dX2_add_7 rfl h1 ?_
  refine ax_iconst (q := 9) dX2_add_8 rfl ki_3 ?_
  refine ax_imul (q := 10) dX2_add_9 rfl ?_
  refine ax_istore (q := 12) (lv2 := [some (ax_r 8), some (ax_i a0), some (ax_i a1), some (ax_i a2), some (ax_i (((σ.1 8 2) - (σ.1 8 2) / (128 : Int32) * (128 : Int32)) * (3 : Int32)))]) dX2_add_10 rfl (by decide) rfl rfl ?_
  refine ax_aload_n (q := 13) (i := 0) dX2_add_12 rfl rfl rfl ?_
  refine ax_get (q := 16) (k := 8) (j := 0) (v := ax_r 37) dX2_add_13 rfl shC_8 rfl rfl rfl (by decide) fl_X2_11 ?_
  refine ax_iload (q := 18) dX2_add_16 rfl rfl ?_
  refine ax_iload_n (q := 19) (i := 1) dX2_add_18 rfl rfl rfl ?_
  refine ax_iast (q := 20) (a := (Int32.toNatClampNeg (((σ.1 8 2) - (σ.1 8 2) / (128 : Int32) * (128 : Int32)) * (3 : Int32)))) dX2_add_19 rfl shC_37 h2 rfl ?_
  refine ax_aload_n (q := 21) (i := 0) dX2_add_20 rfl rfl rfl ?_
  refine ax_get (q := 24) (k := 8) (j := 0) (v := ax_r 37) dX2_add_21 rfl shC_8 rfl rfl rfl (by decide) fl_X2_11 ?_
  refine ax_iload (q := 26) dX2_add_24 rfl rfl ?_
  refine ax_iconst (q := 27) dX2_add_26 rfl ki_1 ?_
  refine ax_iadd (q := 28) dX2_add_27 rfl ?_
  refine ax_iload_n (q := 29) (i := 2) dX2_add_28 rfl rfl rfl ?_
  refine ax_iast (q := 30) (a := (Int32.toNatClampNeg ((((σ.1 8 2) - (σ.1 8 2) / (128 : Int32) * (128 : Int32)) * (3 : Int32)) + (1 : Int32)))) dX2_add_29 rfl shC_37 h3 rfl ?_
  refine ax_aload_n (q := 31) (i := 0) dX2_add_30 rfl rfl rfl ?_
  refine ax_get (q := 34) (k := 8) (j := 0) (v := ax_r 37) dX2_add_31 rfl shC_8 rfl rfl rfl (by decide) fl_X2_11 ?_
  refine ax_iload (q := 36) dX2_add_34 rfl rfl ?_
  refine ax_iconst (q := 37) dX2_add_36 rfl ki_2 ?_
  refine ax_iadd (q := 38) dX2_add_37 rfl ?_
  refine ax_iload_n (q := 39) (i := 3) dX2_add_38 rfl rfl rfl ?_
  refine ax_iast (q := 40) (a := (Int32.toNatClampNeg ((((σ.1 8 2) - (σ.1 8 2) / (128 : Int32) * (128 : Int32)) * (3 : Int32)) + (2 : Int32)))) dX2_add_39 rfl shC_37 h4 rfl ?_
  refine ax_aload_n (q := 41) (i := 0) dX2_add_40 rfl rfl rfl ?_
  refine ax_dupr (q := 42) dX2_add_41 rfl ?_
  refine ax_get (q := 45) (k := 8) (j := 2) (v := ax_i (σ.1 8 2)) dX2_add_42 rfl shC_8 rfl rfl rfl (by decide) fl_X2_18 ?_
  refine ax_iconst (q := 46) dX2_add_45 rfl ki_1 ?_
  refine ax_iadd (q := 47) dX2_add_46 rfl ?_
  refine ax_puti (q := 50) (k := 8) (j := 2) dX2_add_47 rfl shC_8 rfl rfl (by decide) fl_X2_18 rfl rfl rfl rfl ?_
  exact ax_vret dX2_add_50 rfl ⟨rfl, rfl⟩
set_option maxRecDepth 20000 in
theorem s_X2_tells_0 {d : Nat} (hd : 1 ≤ d) {Q : Option ax_V → ax_S → Prop} (σ : ax_S) (a0 : Int32) (a1 : Int32) (k1 : (a0 < 0) → Q (some (ax_i (-1 : Int32))) σ) (k2 : (¬ (a0 < 0)) → ((if (σ.1 8 2) < (60 : Int32) then (σ.1 8 2) else (60 : Int32)) ≤ a0) → Q (some (ax_i (-1 : Int32))) σ) (k3 : (¬ (a0 < 0)) → (¬ ((if (σ.1 8 2) < (60 : Int32) then (σ.1 8 2) else (60 : Int32)) ≤ a0)) → (a1 < 0) → Q (some (ax_i (-1 : Int32))) σ) (h4 : (¬ (a0 < 0)) → (¬ ((if (σ.1 8 2) < (60 : Int32) then (σ.1 8 2) else (60 : Int32)) ≤ a0)) → (¬ (a1 < 0)) → (a1 < (3 : Int32)) → vp_in ((((((σ.1 8 2) - (1 : Int32)) - a0) - (((σ.1 8 2) - (1 : Int32)) - a0) / (128 : Int32) * (128 : Int32)) * (3 : Int32)) + a1) 384) (k5 : (¬ (a0 < 0)) → (¬ ((if (σ.1 8 2) < (60 : Int32) then (σ.1 8 2) else (60 : Int32)) ≤ a0)) → (¬ (a1 < 0)) → (a1 < (3 : Int32)) → Q (some (ax_i (σ.1 37 (Int32.toNatClampNeg ((((((σ.1 8 2) - (1 : Int32)) - a0) - (((σ.1 8 2) - (1 : Int32)) - a0) / (128 : Int32) * (128 : Int32)) * (3 : Int32)) + a1))))) σ) (k6 : (¬ (a0 < 0)) → (¬ ((if (σ.1 8 2) < (60 : Int32) then (σ.1 8 2) else (60 : Int32)) ≤ a0)) → (¬ (a1 < 0)) → (¬ (a1 < (3 : Int32))) → Q (some (ax_i (-1 : Int32))) σ) : ax_W shC (d + 1) mX2_tells Q 0 [some (ax_r 8), some (ax_i a0), some (ax_i a1)] [] σ := by
  refine ax_iload_n (q := 1) (i := 1) dX2_tells_0 rfl rfl rfl ?_
  refine ax_if_lt (tgt := 21) (q := 4) dX2_tells_1 (by decide) rfl (fun c1 => ?_) (fun c1 => ?_)
  · refine ax_iconst (q := 22) dX2_tells_21 rfl ki_m1 ?_
    exact ax_iret dX2_tells_22 rfl rfl (k1 c1)
  · refine ax_iload_n (q := 5) (i := 1) dX2_tells_4 rfl rfl rfl ?_
    refine ax_aload_n (q := 6) (i := 0) dX2_tells_5 rfl rfl rfl ?_
    refine ax_callVfi (q := 9) (As := []) (st := [ax_i a0]) (x := (if (σ.1 8 2) < (60 : Int32) then (σ.1 8 2) else (60 : Int32))) (σ2 := σ) dX2_tells_6 rfl lk_X2_28 shC_8 rfl rfl rfl rfl (Nat.le_of_ble_eq_true rfl) (f_X2_length σ   (d := d) (by omega)) ?_
    refine ax_icmp_ge (tgt := 21) (q := 12) dX2_tells_9 (by decide) rfl (fun c2 => ?_) (fun c2 => ?_)
    · refine ax_iconst (q := 22) dX2_tells_21 rfl ki_m1 ?_
      exact ax_iret dX2_tells_22 rfl rfl (k2 c1 c2)
    · refine ax_iload_n (q := 13) (i := 2) dX2_tells_12 rfl rfl rfl ?_
      refine ax_if_lt (tgt := 21) (q := 16) dX2_tells_13 (by decide) rfl (fun c3 => ?_) (fun c3 => ?_)
      · refine ax_iconst (q := 22) dX2_tells_21 rfl ki_m1 ?_
        exact ax_iret dX2_tells_22 rfl rfl (k3 c1 c2 c3)
      · refine ax_iload_n (q := 17) (i := 2) dX2_tells_16 rfl rfl rfl ?_
        refine ax_iconst (q := 18) dX2_tells_17 rfl ki_3 ?_
        refine ax_icmp_lt (tgt := 23) (q := 21) dX2_tells_18 (by decide) rfl (fun c4 => ?_) (fun c4 => ?_)
        · refine ax_aload_n (q := 24) (i := 0) dX2_tells_23 rfl rfl rfl ?_
          refine ax_get (q := 27) (k := 8) (j := 0) (v := ax_r 37) dX2_tells_24 rfl shC_8 rfl rfl rfl (by decide) fl_X2_11 ?_
          refine ax_aload_n (q := 28) (i := 0) dX2_tells_27 rfl rfl rfl ?_
          refine ax_get (q := 31) (k := 8) (j := 2) (v := ax_i (σ.1 8 2)) dX2_tells_28 rfl shC_8 rfl rfl rfl (by decide) fl_X2_18 ?_
          refine ax_iconst (q := 32) dX2_tells_31 rfl ki_1 ?_
          refine ax_isub (q := 33) dX2_tells_32 rfl ?_
          refine ax_iload_n (q := 34) (i := 1) dX2_tells_33 rfl rfl rfl ?_
          refine ax_isub (q := 35) dX2_tells_34 rfl ?_
          refine ax_sipush (q := 38) dX2_tells_35 rfl ks_128 ?_
          refine ax_irem (q := 39) dX2_tells_38 rfl (by decide) ?_
          refine ax_iconst (q := 40) dX2_tells_39 rfl ki_3 ?_
          refine ax_imul (q := 41) dX2_tells_40 rfl ?_
          refine ax_iload_n (q := 42) (i := 2) dX2_tells_41 rfl rfl rfl ?_
          refine ax_iadd (q := 43) dX2_tells_42 rfl ?_
          refine ax_iald (q := 44) (a := (Int32.toNatClampNeg ((((((σ.1 8 2) - (1 : Int32)) - a0) - (((σ.1 8 2) - (1 : Int32)) - a0) / (128 : Int32) * (128 : Int32)) * (3 : Int32)) + a1))) (v := (σ.1 37 (Int32.toNatClampNeg ((((((σ.1 8 2) - (1 : Int32)) - a0) - (((σ.1 8 2) - (1 : Int32)) - a0) / (128 : Int32) * (128 : Int32)) * (3 : Int32)) + a1)))) dX2_tells_43 rfl shC_37 (h4 c1 c2 c3 c4) rfl rfl ?_
          exact ax_iret dX2_tells_44 rfl rfl (k5 c1 c2 c3 c4)
        · refine ax_iconst (q := 22) dX2_tells_21 rfl ki_m1 ?_
          exact ax_iret dX2_tells_22 rfl rfl (k6 c1 c2 c3 c4)
set_option maxRecDepth 20000 in
theorem s_X2_keep_0 {d : Nat} (hd : 1 ≤ d) {Q : Option ax_V → ax_S → Prop} (σ : ax_S)  (k1 : ax_W shC (d + 1) mX2_keep Q 10 [some (ax_r 8), some (ax_i (0 : Int32)), none] [] (ax_ui σ 8 3 (if (σ.1 8 2) < (60 : Int32) then (σ.1 8 2) else (60 : Int32)))) : ax_W shC (d + 1) mX2_keep Q 0 [some (ax_r 8), none, none] [] σ := by
  refine ax_aload_n (q := 1) (i := 0) dX2_keep_0 rfl rfl rfl ?_
  refine ax_aload_n (q := 2) (i := 0) dX2_keep_1 rfl rfl rfl ?_
  refine ax_callVfi (q := 5) (As := []) (st := [ax_r 8]) (x := (if (σ.1 8 2) < (60 : Int32) then (σ.1 8 2) else (60 : Int32))) (σ2 := σ) dX2_keep_2 rfl lk_X2_28 shC_8 rfl rfl rfl rfl (Nat.le_of_ble_eq_true rfl) (f_X2_length σ   (d := d) (by omega)) ?_
  refine ax_puti (q := 8) (k := 8) (j := 3) dX2_keep_5 rfl shC_8 rfl rfl (by decide) fl_X2_32 rfl rfl rfl rfl ?_
  refine ax_iconst (q := 9) dX2_keep_8 rfl ki_0 ?_
  refine ax_istore_n (q := 10) (i := 1) (lv2 := [some (ax_r 8), some (ax_i (0 : Int32)), none]) dX2_keep_9 rfl rfl (by decide) rfl rfl ?_
  exact k1
set_option maxRecDepth 20000 in
theorem s_X2_keep_10 {d : Nat} (hd : 0 ≤ d) {Q : Option ax_V → ax_S → Prop} (σ : ax_S) (x1 : Int32) (k1 : ((σ.1 8 3) ≤ x1) → Q none σ) (k2 : (¬ ((σ.1 8 3) ≤ x1)) → ax_W shC (d + 1) mX2_keep Q 20 [some (ax_r 8), some (ax_i x1), some (ax_i (0 : Int32))] [] σ) : ax_W shC (d + 1) mX2_keep Q 10 [some (ax_r 8), some (ax_i x1), none] [] σ := by
  refine ax_iload_n (q := 11) (i := 1) dX2_keep_10 rfl rfl rfl ?_
  refine ax_aload_n (q := 12) (i := 0) dX2_keep_11 rfl rfl rfl ?_
  refine ax_get (q := 15) (k := 8) (j := 3) (v := ax_i (σ.1 8 3)) dX2_keep_12 rfl shC_8 rfl rfl rfl (by decide) fl_X2_32 ?_
  refine ax_icmp_ge (tgt := 53) (q := 18) dX2_keep_15 (by decide) rfl (fun c1 => ?_) (fun c1 => ?_)
  · exact ax_vret dX2_keep_53 rfl (k1 c1)
  · refine ax_iconst (q := 19) dX2_keep_18 rfl ki_0 ?_
    refine ax_istore_n (q := 20) (i := 2) (lv2 := [some (ax_r 8), some (ax_i x1), some (ax_i (0 : Int32))]) dX2_keep_19 rfl rfl (by decide) rfl rfl ?_
    exact (k2 c1)
set_option maxRecDepth 20000 in
theorem s_X2_keep_20 {d : Nat} (hd : 0 ≤ d) {Q : Option ax_V → ax_S → Prop} (σ : ax_S) (x1 : Int32) (x2 : Int32) (k1 : ((3 : Int32) ≤ x2) → ax_W shC (d + 1) mX2_keep Q 10 [some (ax_r 8), some (ax_i (x1 + (1 : Int32))), none] [] σ) (k2 : (¬ ((3 : Int32) ≤ x2)) → ax_Ct shC d mX2_tells [ax_r 8, ax_i x1, ax_i x2] (fun r u => ∃ x : Int32, r = some (ax_i x) ∧ ax_W shC (d + 1) mX2_keep Q 40 [some (ax_r 8), some (ax_i x1), some (ax_i x2)] (ax_i x :: [ax_i ((x1 * (3 : Int32)) + x2), ax_r 38]) u) σ) : ax_W shC (d + 1) mX2_keep Q 20 [some (ax_r 8), some (ax_i x1), some (ax_i x2)] [] σ := by
  refine ax_iload_n (q := 21) (i := 2) dX2_keep_20 rfl rfl rfl ?_
  refine ax_iconst (q := 22) dX2_keep_21 rfl ki_3 ?_
  refine ax_icmp_ge (tgt := 47) (q := 25) dX2_keep_22 (by decide) rfl (fun c1 => ?_) (fun c1 => ?_)
  · refine ax_iincK (q := 50) (lv2 := [some (ax_r 8), some (ax_i (x1 + (1 : Int32))), some (ax_i x2)]) dX2_keep_47 rfl rfl ki_1 (by decide) rfl rfl ?_
    refine ax_goto (tgt := 10) dX2_keep_50 (by decide) ?_
    refine ax_fg (lv2 := [some (ax_r 8), some (ax_i (x1 + (1 : Int32))), none]) ⟨rfl, rfl, trivial⟩ ?_
    exact (k1 c1)
  · refine ax_aload_n (q := 26) (i := 0) dX2_keep_25 rfl rfl rfl ?_
    refine ax_get (q := 29) (k := 8) (j := 1) (v := ax_r 38) dX2_keep_26 rfl shC_8 rfl rfl rfl (by decide) fl_X2_15 ?_
    refine ax_iload_n (q := 30) (i := 1) dX2_keep_29 rfl rfl rfl ?_
    refine ax_iconst (q := 31) dX2_keep_30 rfl ki_3 ?_
    refine ax_imul (q := 32) dX2_keep_31 rfl ?_
    refine ax_iload_n (q := 33) (i := 2) dX2_keep_32 rfl rfl rfl ?_
    refine ax_iadd (q := 34) dX2_keep_33 rfl ?_
    refine ax_aload_n (q := 35) (i := 0) dX2_keep_34 rfl rfl rfl ?_
    refine ax_iload_n (q := 36) (i := 1) dX2_keep_35 rfl rfl rfl ?_
    refine ax_iload_n (q := 37) (i := 2) dX2_keep_36 rfl rfl rfl ?_
    exact ax_callVci (q := 40) (As := [ax_i x1, ax_i x2]) (st := [ax_i ((x1 * (3 : Int32)) + x2), ax_r 38]) dX2_keep_37 rfl lk_X2_35 shC_8 rfl rfl rfl rfl (Nat.le_of_ble_eq_true rfl) (k2 c1)
set_option maxRecDepth 20000 in
theorem s_X2_keep_40 {d : Nat} (hd : 0 ≤ d) {Q : Option ax_V → ax_S → Prop} (σ : ax_S) (x1 : Int32) (x2 : Int32) (rr : Int32) (y0 : Int32) (h1 : vp_in y0 180) (k2 : ax_W shC (d + 1) mX2_keep Q 20 [some (ax_r 8), some (ax_i x1), some (ax_i (x2 + (1 : Int32)))] [] (ax_ui σ 38 (Int32.toNatClampNeg y0) rr)) : ax_W shC (d + 1) mX2_keep Q 40 [some (ax_r 8), some (ax_i x1), some (ax_i x2)] [ax_i rr, ax_i y0, ax_r 38] σ := by
  refine ax_iast (q := 41) (a := (Int32.toNatClampNeg y0)) dX2_keep_40 rfl shC_38 h1 rfl ?_
  refine ax_iincK (q := 44) (lv2 := [some (ax_r 8), some (ax_i x1), some (ax_i (x2 + (1 : Int32)))]) dX2_keep_41 rfl rfl ki_1 (by decide) rfl rfl ?_
  refine ax_goto (tgt := 20) dX2_keep_44 (by decide) ?_
  exact k2
set_option maxRecDepth 20000 in
theorem s_X2_giveBack_0 {d : Nat} (hd : 1 ≤ d) {Q : Option ax_V → ax_S → Prop} (σ : ax_S)  (k1 : ax_W shC (d + 1) mX2_giveBack Q 11 [some (ax_r 8), some (ax_i ((σ.1 8 3) - (1 : Int32)))] [] (ax_ui σ 8 2 (0 : Int32))) : ax_W shC (d + 1) mX2_giveBack Q 0 [some (ax_r 8), none] [] σ := by
  refine ax_aload_n (q := 1) (i := 0) dX2_giveBack_0 rfl rfl rfl ?_
  refine ax_callVfv (q := 4) (As := []) (st := []) (σ2 := (ax_ui σ 8 2 (0 : Int32))) dX2_giveBack_1 rfl lk_X2_38 shC_8 rfl rfl rfl rfl (Nat.le_of_ble_eq_true rfl) (f_X2_clear σ   (d := d) (by omega)) ?_
  refine ax_aload_n (q := 5) (i := 0) dX2_giveBack_4 rfl rfl rfl ?_
  refine ax_get (q := 8) (k := 8) (j := 3) (v := ax_i (σ.1 8 3)) dX2_giveBack_5 rfl shC_8 rfl rfl rfl (by decide) fl_X2_32 ?_
  refine ax_iconst (q := 9) dX2_giveBack_8 rfl ki_1 ?_
  refine ax_isub (q := 10) dX2_giveBack_9 rfl ?_
  refine ax_istore_n (q := 11) (i := 1) (lv2 := [some (ax_r 8), some (ax_i ((σ.1 8 3) - (1 : Int32)))]) dX2_giveBack_10 rfl rfl (by decide) rfl rfl ?_
  exact k1
set_option maxRecDepth 20000 in
theorem s_X2_giveBack_11 {d : Nat} (hd : 1 ≤ d) {Q : Option ax_V → ax_S → Prop} (σ : ax_S) (x1 : Int32) (k1 : (x1 < 0) → Q none σ) (h2 : (¬ (x1 < 0)) → vp_in (x1 * (3 : Int32)) 180) (h3 : (¬ (x1 < 0)) → vp_in ((x1 * (3 : Int32)) + (1 : Int32)) 180) (h4 : (¬ (x1 < 0)) → vp_in ((x1 * (3 : Int32)) + (2 : Int32)) 180) (h5 : (¬ (x1 < 0)) → vp_in (((σ.1 8 2) - (σ.1 8 2) / (128 : Int32) * (128 : Int32)) * (3 : Int32)) 384) (h6 : (¬ (x1 < 0)) → vp_in ((((σ.1 8 2) - (σ.1 8 2) / (128 : Int32) * (128 : Int32)) * (3 : Int32)) + (1 : Int32)) 384) (h7 : (¬ (x1 < 0)) → vp_in ((((σ.1 8 2) - (σ.1 8 2) / (128 : Int32) * (128 : Int32)) * (3 : Int32)) + (2 : Int32)) 384) (k8 : (¬ (x1 < 0)) → ax_W shC (d + 1) mX2_giveBack Q 11 [some (ax_r 8), some (ax_i (x1 + (-1 : Int32)))] [] (ax_ui (ax_ui (ax_ui (ax_ui σ 37 (Int32.toNatClampNeg (((σ.1 8 2) - (σ.1 8 2) / (128 : Int32) * (128 : Int32)) * (3 : Int32))) (σ.1 38 (Int32.toNatClampNeg (x1 * (3 : Int32))))) 37 (Int32.toNatClampNeg ((((σ.1 8 2) - (σ.1 8 2) / (128 : Int32) * (128 : Int32)) * (3 : Int32)) + (1 : Int32))) (σ.1 38 (Int32.toNatClampNeg ((x1 * (3 : Int32)) + (1 : Int32))))) 37 (Int32.toNatClampNeg ((((σ.1 8 2) - (σ.1 8 2) / (128 : Int32) * (128 : Int32)) * (3 : Int32)) + (2 : Int32))) (σ.1 38 (Int32.toNatClampNeg ((x1 * (3 : Int32)) + (2 : Int32))))) 8 2 ((σ.1 8 2) + (1 : Int32)))) : ax_W shC (d + 1) mX2_giveBack Q 11 [some (ax_r 8), some (ax_i x1)] [] σ := by
  refine ax_iload_n (q := 12) (i := 1) dX2_giveBack_11 rfl rfl rfl ?_
  refine ax_if_lt (tgt := 53) (q := 15) dX2_giveBack_12 (by decide) rfl (fun c1 => ?_) (fun c1 => ?_)
  · exact ax_vret dX2_giveBack_53 rfl (k1 c1)
  · refine ax_aload_n (q := 16) (i := 0) dX2_giveBack_15 rfl rfl rfl ?_
    refine ax_aload_n (q := 17) (i := 0) dX2_giveBack_16 rfl rfl rfl ?_
    refine ax_get (q := 20) (k := 8) (j := 1) (v := ax_r 38) dX2_giveBack_17 rfl shC_8 rfl rfl rfl (by decide) fl_X2_15 ?_
    refine ax_iload_n (q := 21) (i := 1) dX2_giveBack_20 rfl rfl rfl ?_
    refine ax_iconst (q := 22) dX2_giveBack_21 rfl ki_3 ?_
    refine ax_imul (q := 23) dX2_giveBack_22 rfl ?_
    refine ax_iald (q := 24) (a := (Int32.toNatClampNeg (x1 * (3 : Int32)))) (v := (σ.1 38 (Int32.toNatClampNeg (x1 * (3 : Int32))))) dX2_giveBack_23 rfl shC_38 (h2 c1) rfl rfl ?_
    refine ax_aload_n (q := 25) (i := 0) dX2_giveBack_24 rfl rfl rfl ?_
    refine ax_get (q := 28) (k := 8) (j := 1) (v := ax_r 38) dX2_giveBack_25 rfl shC_8 rfl rfl rfl (by decide) fl_X2_15 ?_
    refine ax_iload_n (q := 29) (i := 1) dX2_giveBack_28 rfl rfl rfl ?_
    refine ax_iconst (q := 30) dX2_giveBack_29 rfl ki_3 ?_
    refine ax_imul (q := 31) dX2_giveBack_30 rfl ?_
    refine ax_iconst (q := 32) dX2_giveBack_31 rfl ki_1 ?_
    refine ax_iadd (q := 33) dX2_giveBack_32 rfl ?_
    refine ax_iald (q := 34) (a := (Int32.toNatClampNeg ((x1 * (3 : Int32)) + (1 : Int32)))) (v := (σ.1 38 (Int32.toNatClampNeg ((x1 * (3 : Int32)) + (1 : Int32))))) dX2_giveBack_33 rfl shC_38 (h3 c1) rfl rfl ?_
    refine ax_aload_n (q := 35) (i := 0) dX2_giveBack_34 rfl rfl rfl ?_
    refine ax_get (q := 38) (k := 8) (j := 1) (v := ax_r 38) dX2_giveBack_35 rfl shC_8 rfl rfl rfl (by decide) fl_X2_15 ?_
    refine ax_iload_n (q := 39) (i := 1) dX2_giveBack_38 rfl rfl rfl ?_
    refine ax_iconst (q := 40) dX2_giveBack_39 rfl ki_3 ?_
    refine ax_imul (q := 41) dX2_giveBack_40 rfl ?_
    refine ax_iconst (q := 42) dX2_giveBack_41 rfl ki_2 ?_
    refine ax_iadd (q := 43) dX2_giveBack_42 rfl ?_
    refine ax_iald (q := 44) (a := (Int32.toNatClampNeg ((x1 * (3 : Int32)) + (2 : Int32)))) (v := (σ.1 38 (Int32.toNatClampNeg ((x1 * (3 : Int32)) + (2 : Int32))))) dX2_giveBack_43 rfl shC_38 (h4 c1) rfl rfl ?_
    refine ax_callVfv (q := 47) (As := [ax_i (σ.1 38 (Int32.toNatClampNeg (x1 * (3 : Int32)))), ax_i (σ.1 38 (Int32.toNatClampNeg ((x1 * (3 : Int32)) + (1 : Int32)))), ax_i (σ.1 38 (Int32.toNatClampNeg ((x1 * (3 : Int32)) + (2 : Int32))))]) (st := []) (σ2 := (ax_ui (ax_ui (ax_ui (ax_ui σ 37 (Int32.toNatClampNeg (((σ.1 8 2) - (σ.1 8 2) / (128 : Int32) * (128 : Int32)) * (3 : Int32))) (σ.1 38 (Int32.toNatClampNeg (x1 * (3 : Int32))))) 37 (Int32.toNatClampNeg ((((σ.1 8 2) - (σ.1 8 2) / (128 : Int32) * (128 : Int32)) * (3 : Int32)) + (1 : Int32))) (σ.1 38 (Int32.toNatClampNeg ((x1 * (3 : Int32)) + (1 : Int32))))) 37 (Int32.toNatClampNeg ((((σ.1 8 2) - (σ.1 8 2) / (128 : Int32) * (128 : Int32)) * (3 : Int32)) + (2 : Int32))) (σ.1 38 (Int32.toNatClampNeg ((x1 * (3 : Int32)) + (2 : Int32))))) 8 2 ((σ.1 8 2) + (1 : Int32)))) dX2_giveBack_44 rfl lk_X2_41 shC_8 rfl rfl rfl rfl (Nat.le_of_ble_eq_true rfl) (f_X2_add σ (σ.1 38 (Int32.toNatClampNeg (x1 * (3 : Int32)))) (σ.1 38 (Int32.toNatClampNeg ((x1 * (3 : Int32)) + (1 : Int32)))) (σ.1 38 (Int32.toNatClampNeg ((x1 * (3 : Int32)) + (2 : Int32)))) (by decide) (h5 c1) (h6 c1) (h7 c1) (d := d) (by omega)) ?_
    refine ax_iincK (q := 50) (lv2 := [some (ax_r 8), some (ax_i (x1 + (-1 : Int32)))]) dX2_giveBack_47 rfl rfl ki_m1 (by decide) rfl rfl ?_
    refine ax_goto (tgt := 11) dX2_giveBack_50 (by decide) ?_
    exact (k8 c1)
set_option maxRecDepth 20000 in
theorem s_X3_add_0 {d : Nat} (hd : 0 ≤ d) {Q : Option ax_V → ax_S → Prop} (σ : ax_S) (a0 : Int32) (a1 : Int32) (a2 : Int32) (a3 : Int32) (k1 : ((10 : Int32) ≤ (σ.1 9 4)) → Q none σ) (h2 : (¬ ((10 : Int32) ≤ (σ.1 9 4))) → vp_in (σ.1 9 4) 10) (k3 : (¬ ((10 : Int32) ≤ (σ.1 9 4))) → Q none (ax_ui (ax_ui (ax_ui (ax_ui (ax_ui σ 39 (Int32.toNatClampNeg (σ.1 9 4)) a0) 40 (Int32.toNatClampNeg (σ.1 9 4)) a1) 41 (Int32.toNatClampNeg (σ.1 9 4)) a2) 42 (Int32.toNatClampNeg (σ.1 9 4)) (if (¬ (a3 = 0)) then (1 : Int32) else 0)) 9 4 ((σ.1 9 4) + (1 : Int32)))) : ax_W shC (d + 1) mX3_add Q 0 [some (ax_r 9), some (ax_i a0), some (ax_i a1), some (ax_i a2), some (ax_i a3)] [] σ := by
  refine ax_aload_n (q := 1) (i := 0) dX3_add_0 rfl rfl rfl ?_
  refine ax_get (q := 4) (k := 9) (j := 4) (v := ax_i (σ.1 9 4)) dX3_add_1 rfl shC_9 rfl rfl rfl (by decide) fl_X3_24 ?_
  refine ax_bipush (q := 6) dX3_add_4 rfl kb_10 ?_
  refine ax_icmp_ge (tgt := 68) (q := 9) dX3_add_6 (by decide) rfl (fun c1 => ?_) (fun c1 => ?_)
  · exact ax_vret dX3_add_68 rfl (k1 c1)
  · refine ax_aload_n (q := 10) (i := 0) dX3_add_9 rfl rfl rfl ?_
    refine ax_get (q := 13) (k := 9) (j := 0) (v := ax_r 39) dX3_add_10 rfl shC_9 rfl rfl rfl (by decide) fl_X3_9 ?_
    refine ax_aload_n (q := 14) (i := 0) dX3_add_13 rfl rfl rfl ?_
    refine ax_get (q := 17) (k := 9) (j := 4) (v := ax_i (σ.1 9 4)) dX3_add_14 rfl shC_9 rfl rfl rfl (by decide) fl_X3_24 ?_
    refine ax_iload_n (q := 18) (i := 1) dX3_add_17 rfl rfl rfl ?_
    refine ax_iast (q := 19) (a := (Int32.toNatClampNeg (σ.1 9 4))) dX3_add_18 rfl shC_39 (h2 c1) rfl ?_
    refine ax_aload_n (q := 20) (i := 0) dX3_add_19 rfl rfl rfl ?_
    refine ax_get (q := 23) (k := 9) (j := 1) (v := ax_r 40) dX3_add_20 rfl shC_9 rfl rfl rfl (by decide) fl_X3_15 ?_
    refine ax_aload_n (q := 24) (i := 0) dX3_add_23 rfl rfl rfl ?_
    refine ax_get (q := 27) (k := 9) (j := 4) (v := ax_i (σ.1 9 4)) dX3_add_24 rfl shC_9 rfl rfl rfl (by decide) fl_X3_24 ?_
    refine ax_iload_n (q := 28) (i := 2) dX3_add_27 rfl rfl rfl ?_
    refine ax_iast (q := 29) (a := (Int32.toNatClampNeg (σ.1 9 4))) dX3_add_28 rfl shC_40 (h2 c1) rfl ?_
    refine ax_aload_n (q := 30) (i := 0) dX3_add_29 rfl rfl rfl ?_
    refine ax_get (q := 33) (k := 9) (j := 2) (v := ax_r 41) dX3_add_30 rfl shC_9 rfl rfl rfl (by decide) fl_X3_18 ?_
    refine ax_aload_n (q := 34) (i := 0) dX3_add_33 rfl rfl rfl ?_
    refine ax_get (q := 37) (k := 9) (j := 4) (v := ax_i (σ.1 9 4)) dX3_add_34 rfl shC_9 rfl rfl rfl (by decide) fl_X3_24 ?_
    refine ax_iload_n (q := 38) (i := 3) dX3_add_37 rfl rfl rfl ?_
    refine ax_iast (q := 39) (a := (Int32.toNatClampNeg (σ.1 9 4))) dX3_add_38 rfl shC_41 (h2 c1) rfl ?_
    refine ax_aload_n (q := 40) (i := 0) dX3_add_39 rfl rfl rfl ?_
    refine ax_get (q := 43) (k := 9) (j := 3) (v := ax_r 42) dX3_add_40 rfl shC_9 rfl rfl rfl (by decide) fl_X3_21 ?_
    refine ax_aload_n (q := 44) (i := 0) dX3_add_43 rfl rfl rfl ?_
    refine ax_get (q := 47) (k := 9) (j := 4) (v := ax_i (σ.1 9 4)) dX3_add_44 rfl shC_9 rfl rfl rfl (by decide) fl_X3_24 ?_
    refine ax_iload (q := 49) dX3_add_47 rfl rfl ?_
    have K3 : ax_W shC (d + 1) mX3_add Q 57 [some (ax_r 9), some (ax_i a0), some (ax_i a1), some (ax_i a2), some (ax_i a3)] [ax_i (if (¬ (a3 = 0)) then (1 : Int32) else 0), ax_i (σ.1 9 4), ax_r 42] (ax_ui (ax_ui (ax_ui σ 39 (Int32.toNatClampNeg (σ.1 9 4)) a0) 40 (Int32.toNatClampNeg (σ.1 9 4)) a1) 41 (Int32.toNatClampNeg (σ.1 9 4)) a2) := by
      refine ax_iast (q := 58) (a := (Int32.toNatClampNeg (σ.1 9 4))) dX3_add_57 rfl shC_42 (h2 c1) rfl ?_
      refine ax_aload_n (q := 59) (i := 0) dX3_add_58 rfl rfl rfl ?_
      refine ax_dupr (q := 60) dX3_add_59 rfl ?_
      refine ax_get (q := 63) (k := 9) (j := 4) (v := ax_i (σ.1 9 4)) dX3_add_60 rfl shC_9 rfl rfl rfl (by decide) fl_X3_24 ?_
      refine ax_iconst (q := 64) dX3_add_63 rfl ki_1 ?_
      refine ax_iadd (q := 65) dX3_add_64 rfl ?_
      refine ax_puti (q := 68) (k := 9) (j := 4) dX3_add_65 rfl shC_9 rfl rfl (by decide) fl_X3_24 rfl rfl rfl rfl ?_
      exact ax_vret dX3_add_68 rfl (k3 c1)
    refine ax_if_eq (tgt := 56) (q := 52) dX3_add_49 (by decide) rfl (fun c2 => ?_) (fun c2 => ?_)
    · refine ax_iconst (q := 57) dX3_add_56 rfl ki_0 ?_
      exact ax_cv (if_neg (fun y => y c2)) K3
    · refine ax_iconst (q := 53) dX3_add_52 rfl ki_1 ?_
      refine ax_goto (tgt := 57) dX3_add_53 (by decide) ?_
      exact ax_cv (if_pos c2) K3
