set_option maxRecDepth 20000 in
theorem s_X11_test_0 {d : Nat} (hd : 1 ≤ d) {Q : Option ax_V → ax_S → Prop} (σ : ax_S) (a0 : Int32) (a1 : Int32) (k1 : (¬ (¬ ((σ.1 5 9) ≤ 0))) → Q (some (ax_i (-1 : Int32))) σ) (k2 : (¬ ((σ.1 5 9) ≤ 0)) → (a0 < 0) → Q (some (ax_i (-1 : Int32))) σ) (k3 : (¬ ((σ.1 5 9) ≤ 0)) → (¬ (a0 < 0)) → ((3 : Int32) ≤ a0) → Q (some (ax_i (-1 : Int32))) σ) (h4 : (¬ ((σ.1 5 9) ≤ 0)) → (¬ (a0 < 0)) → (¬ ((3 : Int32) ≤ a0)) → ((σ.1 0 16) < (12 : Int32)) → (a1 = 0) → vp_in a0 3) (h5 : (¬ ((σ.1 5 9) ≤ 0)) → (¬ (a0 < 0)) → (¬ ((3 : Int32) ≤ a0)) → ((σ.1 0 16) < (12 : Int32)) → (¬ (a1 = 0)) → vp_in a0 3) (k6 : (¬ ((σ.1 5 9) ≤ 0)) → (¬ (a0 < 0)) → (¬ ((3 : Int32) ≤ a0)) → ((σ.1 0 16) < (12 : Int32)) → Q (some (ax_i ((σ.1 0 16) + (1 : Int32)))) (ax_ui (ax_ul (ax_ul σ 0 17 ((σ.2 0 17) * (if (a1 = 0) then (Int32.toInt64 ((10 : Int32) - (List.getD ([8, 7, 6] : List Int32) (Int32.toNatClampNeg a0) 0))) else (Int32.toInt64 (List.getD ([8, 7, 6] : List Int32) (Int32.toNatClampNeg a0) 0))))) 0 18 ((σ.2 0 18) * (if (a1 = 0) then (Int32.toInt64 ((10 : Int32) - (List.getD ([3, 1, 5] : List Int32) (Int32.toNatClampNeg a0) 0))) else (Int32.toInt64 (List.getD ([3, 1, 5] : List Int32) (Int32.toNatClampNeg a0) 0))))) 0 16 ((σ.1 0 16) + (1 : Int32)))) (k7 : (¬ ((σ.1 5 9) ≤ 0)) → (¬ (a0 < 0)) → (¬ ((3 : Int32) ≤ a0)) → (¬ ((σ.1 0 16) < (12 : Int32))) → Q (some (ax_i (-1 : Int32))) σ) : ax_W shC (d + 1) mX11_test Q 0 [some (ax_r 0), some (ax_i a0), some (ax_i a1)] [] σ := by
  refine ax_aload_n (q := 1) (i := 0) dX11_test_0 rfl rfl rfl ?_
  refine ax_callVfi (q := 4) (As := []) (st := []) (x := (if (¬ ((σ.1 5 9) ≤ 0)) then (1 : Int32) else 0)) (σ2 := σ) dX11_test_1 rfl lk_X11_274 shC_0 rfl rfl rfl rfl (Nat.le_of_ble_eq_true rfl) (f_X11_hasBelt σ   (d := d) (by omega)) ?_
  refine ax_if_eqB (tgt := 28) (q := 7) dX11_test_4 (by decide) rfl (fun c1 => ?_) (fun c1 => ?_)
  · refine ax_iconst (q := 29) dX11_test_28 rfl ki_m1 ?_
    exact ax_iret dX11_test_29 rfl rfl (k1 c1)
  · refine ax_iload_n (q := 8) (i := 1) dX11_test_7 rfl rfl rfl ?_
    refine ax_if_lt (tgt := 28) (q := 11) dX11_test_8 (by decide) rfl (fun c2 => ?_) (fun c2 => ?_)
    · refine ax_iconst (q := 29) dX11_test_28 rfl ki_m1 ?_
      exact ax_iret dX11_test_29 rfl rfl (k2 c1 c2)
    · refine ax_iload_n (q := 12) (i := 1) dX11_test_11 rfl rfl rfl ?_
      refine ax_gets (q := 15) dX11_test_12 rfl st_0 fl_X11_423 ?_
      refine ax_tlen (q := 16) (t := 0) (v := 3) dX11_test_15 rfl st_0 rfl ?_
      refine ax_icmp_ge (tgt := 28) (q := 19) dX11_test_16 (by decide) rfl (fun c3 => ?_) (fun c3 => ?_)
      · refine ax_iconst (q := 29) dX11_test_28 rfl ki_m1 ?_
        exact ax_iret dX11_test_29 rfl rfl (k3 c1 c2 c3)
      · refine ax_aload_n (q := 20) (i := 0) dX11_test_19 rfl rfl rfl ?_
        refine ax_get (q := 23) (k := 0) (j := 16) (v := ax_i (σ.1 0 16)) dX11_test_20 rfl shC_0 rfl rfl rfl (by decide) fl_X11_151 ?_
        refine ax_bipush (q := 25) dX11_test_23 rfl kb_12 ?_
        refine ax_icmp_lt (tgt := 30) (q := 28) dX11_test_25 (by decide) rfl (fun c4 => ?_) (fun c4 => ?_)
        · refine ax_aload_n (q := 31) (i := 0) dX11_test_30 rfl rfl rfl ?_
          refine ax_dupr (q := 32) dX11_test_31 rfl ?_
          refine ax_get (q := 35) (k := 0) (j := 17) (v := ax_l (σ.2 0 17)) dX11_test_32 rfl shC_0 rfl rfl rfl (by decide) fl_X11_103 ?_
          refine ax_iload_n (q := 36) (i := 2) dX11_test_35 rfl rfl rfl ?_
          have K6 : ax_W shC (d + 1) mX11_test Q 57 [some (ax_r 0), some (ax_i a0), some (ax_i a1)] [ax_l (if (a1 = 0) then (Int32.toInt64 ((10 : Int32) - (List.getD ([8, 7, 6] : List Int32) (Int32.toNatClampNeg a0) 0))) else (Int32.toInt64 (List.getD ([8, 7, 6] : List Int32) (Int32.toNatClampNeg a0) 0))), ax_l (σ.2 0 17), ax_r 0] σ := by
            refine ax_lmul (q := 58) dX11_test_57 rfl ?_
            refine ax_putl (q := 61) (k := 0) (j := 17) dX11_test_58 rfl shC_0 rfl rfl (by decide) fl_X11_103 rfl rfl rfl rfl ?_
            refine ax_aload_n (q := 62) (i := 0) dX11_test_61 rfl rfl rfl ?_
            refine ax_dupr (q := 63) dX11_test_62 rfl ?_
            refine ax_get (q := 66) (k := 0) (j := 18) (v := ax_l (σ.2 0 18)) dX11_test_63 rfl shC_0 rfl rfl rfl (by decide) fl_X11_107 ?_
            refine ax_iload_n (q := 67) (i := 2) dX11_test_66 rfl rfl rfl ?_
            have K8 : ax_W shC (d + 1) mX11_test Q 88 [some (ax_r 0), some (ax_i a0), some (ax_i a1)] [ax_l (if (a1 = 0) then (Int32.toInt64 ((10 : Int32) - (List.getD ([3, 1, 5] : List Int32) (Int32.toNatClampNeg a0) 0))) else (Int32.toInt64 (List.getD ([3, 1, 5] : List Int32) (Int32.toNatClampNeg a0) 0))), ax_l (σ.2 0 18), ax_r 0] (ax_ul σ 0 17 ((σ.2 0 17) * (if (a1 = 0) then (Int32.toInt64 ((10 : Int32) - (List.getD ([8, 7, 6] : List Int32) (Int32.toNatClampNeg a0) 0))) else (Int32.toInt64 (List.getD ([8, 7, 6] : List Int32) (Int32.toNatClampNeg a0) 0))))) := by
              refine ax_lmul (q := 89) dX11_test_88 rfl ?_
              refine ax_putl (q := 92) (k := 0) (j := 18) dX11_test_89 rfl shC_0 rfl rfl (by decide) fl_X11_107 rfl rfl rfl rfl ?_
              refine ax_aload_n (q := 93) (i := 0) dX11_test_92 rfl rfl rfl ?_
              refine ax_dupr (q := 94) dX11_test_93 rfl ?_
              refine ax_get (q := 97) (k := 0) (j := 16) (v := ax_i (σ.1 0 16)) dX11_test_94 rfl shC_0 rfl rfl rfl (by decide) fl_X11_151 ?_
              refine ax_iconst (q := 98) dX11_test_97 rfl ki_1 ?_
              refine ax_iadd (q := 99) dX11_test_98 rfl ?_
              refine ax_puti (q := 102) (k := 0) (j := 16) dX11_test_99 rfl shC_0 rfl rfl (by decide) fl_X11_151 rfl rfl rfl rfl ?_
              refine ax_aload_n (q := 103) (i := 0) dX11_test_102 rfl rfl rfl ?_
              refine ax_get (q := 106) (k := 0) (j := 16) (v := ax_i ((σ.1 0 16) + (1 : Int32))) dX11_test_103 rfl shC_0 rfl rfl rfl (by decide) fl_X11_151 ?_
              exact ax_iret dX11_test_106 rfl rfl (k6 c1 c2 c3 c4)
            refine ax_if_eq (tgt := 79) (q := 70) dX11_test_67 (by decide) rfl (fun c7 => ?_) (fun c7 => ?_)
            · refine ax_bipush (q := 81) dX11_test_79 rfl kb_10 ?_
              refine ax_gets (q := 84) dX11_test_81 rfl st_1 fl_X11_426 ?_
              refine ax_iload_n (q := 85) (i := 1) dX11_test_84 rfl rfl rfl ?_
              refine ax_tald (q := 86) (t := 1) dX11_test_85 rfl st_1 (h4 c1 c2 c3 c4 c7) rfl ?_
              refine ax_isub (q := 87) dX11_test_86 rfl ?_
              refine ax_i2l (q := 88) dX11_test_87 rfl ?_
              exact ax_cvl (if_pos c7) K8
            · refine ax_gets (q := 73) dX11_test_70 rfl st_1 fl_X11_426 ?_
              refine ax_iload_n (q := 74) (i := 1) dX11_test_73 rfl rfl rfl ?_
              refine ax_tald (q := 75) (t := 1) dX11_test_74 rfl st_1 (h5 c1 c2 c3 c4 c7) rfl ?_
              refine ax_i2l (q := 76) dX11_test_75 rfl ?_
              refine ax_goto (tgt := 88) dX11_test_76 (by decide) ?_
              exact ax_cvl (if_neg c7) K8
          refine ax_if_eq (tgt := 48) (q := 39) dX11_test_36 (by decide) rfl (fun c5 => ?_) (fun c5 => ?_)
          · refine ax_bipush (q := 50) dX11_test_48 rfl kb_10 ?_
            refine ax_gets (q := 53) dX11_test_50 rfl st_0 fl_X11_423 ?_
            refine ax_iload_n (q := 54) (i := 1) dX11_test_53 rfl rfl rfl ?_
            refine ax_tald (q := 55) (t := 0) dX11_test_54 rfl st_0 (h4 c1 c2 c3 c4 c5) rfl ?_
            refine ax_isub (q := 56) dX11_test_55 rfl ?_
            refine ax_i2l (q := 57) dX11_test_56 rfl ?_
            exact ax_cvl (if_pos c5) K6
          · refine ax_gets (q := 42) dX11_test_39 rfl st_0 fl_X11_423 ?_
            refine ax_iload_n (q := 43) (i := 1) dX11_test_42 rfl rfl rfl ?_
            refine ax_tald (q := 44) (t := 0) dX11_test_43 rfl st_0 (h5 c1 c2 c3 c4 c5) rfl ?_
            refine ax_i2l (q := 45) dX11_test_44 rfl ?_
            refine ax_goto (tgt := 57) dX11_test_45 (by decide) ?_
            exact ax_cvl (if_neg c5) K6
        · refine ax_iconst (q := 29) dX11_test_28 rfl ki_m1 ?_
          exact ax_iret dX11_test_29 rfl rfl (k7 c1 c2 c3 c4)
set_option maxRecDepth 20000 in
theorem f_X11_stroke (σ : ax_S)  (h1 : (¬ ((σ.1 5 9) ≤ 0)) → (0 ≤ (lg_cmp ((σ.2 0 17) + (σ.2 0 18)) (1 : Int64))) → ¬ ((σ.2 0 17) + (σ.2 0 18)) = 0) {d : Nat} (hd : 2 ≤ d) : ax_Ct shC d mX11_stroke [ax_r 0] (fun r u => r = some (ax_i (if (¬ (¬ ((σ.1 5 9) ≤ 0))) then (-1 : Int32) else (if (0 ≤ (lg_cmp ((σ.2 0 17) + (σ.2 0 18)) (1 : Int64))) then (Int64.toInt32 (((σ.2 0 17) * (1000000 : Int64)) / ((σ.2 0 17) + (σ.2 0 18)))) else (-1 : Int32)))) ∧ u = σ) σ := by
  obtain ⟨d, rfl⟩ : ∃ e, d = e + 1 := ⟨d - 1, by omega⟩
  refine ax_Ct.of (lv := [some (ax_r 0), none, none]) (by decide +kernel) (fun ad => Nat.le_of_ble_eq_true rfl) (fun ad => rfl) ?_
  refine ax_aload_n (q := 1) (i := 0) dX11_stroke_0 rfl rfl rfl ?_
  refine ax_get (q := 4) (k := 0) (j := 17) (v := ax_l (σ.2 0 17)) dX11_stroke_1 rfl shC_0 rfl rfl rfl (by decide) fl_X11_103 ?_
  refine ax_aload_n (q := 5) (i := 0) dX11_stroke_4 rfl rfl rfl ?_
  refine ax_get (q := 8) (k := 0) (j := 18) (v := ax_l (σ.2 0 18)) dX11_stroke_5 rfl shC_0 rfl rfl rfl (by decide) fl_X11_107 ?_
  refine ax_ladd (q := 9) dX11_stroke_8 rfl ?_
  refine ax_lstore_n (q := 10) (i := 1) (lv2 := [some (ax_r 0), some (ax_l ((σ.2 0 17) + (σ.2 0 18))), none]) dX11_stroke_9 rfl rfl (by decide) rfl rfl ?_
  refine ax_aload_n (q := 11) (i := 0) dX11_stroke_10 rfl rfl rfl ?_
  refine ax_callVfi (q := 14) (As := []) (st := []) (x := (if (¬ ((σ.1 5 9) ≤ 0)) then (1 : Int32) else 0)) (σ2 := σ) dX11_stroke_11 rfl lk_X11_274 shC_0 rfl rfl rfl rfl (Nat.le_of_ble_eq_true rfl) (f_X11_hasBelt σ   (d := d) (by omega)) ?_
  have K3 : ax_W shC (d + 1) mX11_stroke (fun r u => r = some (ax_i (if (¬ (¬ ((σ.1 5 9) ≤ 0))) then (-1 : Int32) else (if (0 ≤ (lg_cmp ((σ.2 0 17) + (σ.2 0 18)) (1 : Int64))) then (Int64.toInt32 (((σ.2 0 17) * (1000000 : Int64)) / ((σ.2 0 17) + (σ.2 0 18)))) else (-1 : Int32)))) ∧ u = σ) 38 [some (ax_r 0), some (ax_l ((σ.2 0 17) + (σ.2 0 18))), none] [ax_i (if (¬ (¬ ((σ.1 5 9) ≤ 0))) then (-1 : Int32) else (if (0 ≤ (lg_cmp ((σ.2 0 17) + (σ.2 0 18)) (1 : Int64))) then (Int64.toInt32 (((σ.2 0 17) * (1000000 : Int64)) / ((σ.2 0 17) + (σ.2 0 18)))) else (-1 : Int32)))] σ := by
    exact ax_iret dX11_stroke_38 rfl rfl ⟨rfl, rfl⟩
  refine ax_if_eqB (tgt := 23) (q := 17) dX11_stroke_14 (by decide) rfl (fun c1 => ?_) (fun c1 => ?_)
  · refine ax_iconst (q := 24) dX11_stroke_23 rfl ki_m1 ?_
    refine ax_goto (tgt := 38) dX11_stroke_24 (by decide) ?_
    exact ax_cv (if_pos c1) K3
  · refine ax_lload_n (q := 18) (i := 1) dX11_stroke_17 rfl rfl rfl ?_
    refine ax_lconst (q := 19) (v := 1) dX11_stroke_18 rfl rfl ?_
    refine ax_lcmp (q := 20) dX11_stroke_19 rfl ?_
    refine ax_if_ge (tgt := 27) (q := 23) dX11_stroke_20 (by decide) rfl (fun c2 => ?_) (fun c2 => ?_)
    · refine ax_aload_n (q := 28) (i := 0) dX11_stroke_27 rfl rfl rfl ?_
      refine ax_get (q := 31) (k := 0) (j := 17) (v := ax_l (σ.2 0 17)) dX11_stroke_28 rfl shC_0 rfl rfl rfl (by decide) fl_X11_103 ?_
      refine ax_ldc2 (q := 34) dX11_stroke_31 rfl kc_X11_429 ?_
      refine ax_lmul (q := 35) dX11_stroke_34 rfl ?_
      refine ax_lload_n (q := 36) (i := 1) dX11_stroke_35 rfl rfl rfl ?_
      refine ax_ldiv (q := 37) dX11_stroke_36 rfl (h1 c1 c2) ?_
      refine ax_l2i (q := 38) dX11_stroke_37 rfl ?_
      exact ax_cv ((if_neg (fun y => y c1)).trans (if_pos c2)) K3
    · refine ax_iconst (q := 24) dX11_stroke_23 rfl ki_m1 ?_
      refine ax_goto (tgt := 38) dX11_stroke_24 (by decide) ?_
      exact ax_cv ((if_neg (fun y => y c1)).trans (if_neg c2)) K3
set_option maxRecDepth 20000 in
theorem f_X12_in {sh : List ax_H} (σ : ax_S) (a0 : Int32) (a1 : Int32) (a2 : Int32)  {d : Nat} (hd : 1 ≤ d) : ax_Ct sh d mX12_in [ax_i a0, ax_i a1, ax_i a2] (fun r u => r = some (ax_i (if ((¬ (a0 < a1)) ∧ (¬ (a2 < a0))) then (1 : Int32) else 0)) ∧ u = σ) σ := by
  obtain ⟨d, rfl⟩ : ∃ e, d = e + 1 := ⟨d - 1, by omega⟩
  refine ax_Ct.of (lv := [some (ax_i a0), some (ax_i a1), some (ax_i a2)]) (by decide +kernel) (fun ad => Nat.le_of_ble_eq_true rfl) (fun ad => rfl) ?_
  refine ax_iload_n (q := 1) (i := 0) dX12_in_0 rfl rfl rfl ?_
  refine ax_iload_n (q := 2) (i := 1) dX12_in_1 rfl rfl rfl ?_
  have K3 : ax_W sh (d + 1) mX12_in (fun r u => r = some (ax_i (if ((¬ (a0 < a1)) ∧ (¬ (a2 < a0))) then (1 : Int32) else 0)) ∧ u = σ) 15 [some (ax_i a0), some (ax_i a1), some (ax_i a2)] [ax_i (if ((¬ (a0 < a1)) ∧ (¬ (a2 < a0))) then (1 : Int32) else 0)] σ := by
    exact ax_iret dX12_in_15 rfl (ax_nb _) ⟨rfl, rfl⟩
  refine ax_icmp_lt (tgt := 14) (q := 5) dX12_in_2 (by decide) rfl (fun c1 => ?_) (fun c1 => ?_)
  · refine ax_iconst (q := 15) dX12_in_14 rfl ki_0 ?_
    exact ax_cv (if_neg (fun z => (fun y => y c1) z.1)) K3
  · refine ax_iload_n (q := 6) (i := 0) dX12_in_5 rfl rfl rfl ?_
    refine ax_iload_n (q := 7) (i := 2) dX12_in_6 rfl rfl rfl ?_
    refine ax_icmp_gt (tgt := 14) (q := 10) dX12_in_7 (by decide) rfl (fun c2 => ?_) (fun c2 => ?_)
    · refine ax_iconst (q := 15) dX12_in_14 rfl ki_0 ?_
      exact ax_cv (if_neg (fun z => (fun y => y c2) z.2)) K3
    · refine ax_iconst (q := 11) dX12_in_10 rfl ki_1 ?_
      refine ax_goto (tgt := 15) dX12_in_11 (by decide) ?_
      exact ax_cv (if_pos ⟨c1, c2⟩) K3
set_option maxRecDepth 20000 in
theorem f_X12_has {sh : List ax_H} (σ : ax_S) (a0 : Int32) (a1 : Int32)  {d : Nat} (hd : 1 ≤ d) : ax_Ct sh d mX12_has [ax_i a0, ax_i a1] (fun r u => r = some (ax_i (if (¬ (¬ ((a0 >>> (a1 &&& 31)) &&& (1 : Int32)) = (1 : Int32))) then (1 : Int32) else 0)) ∧ u = σ) σ := by
  obtain ⟨d, rfl⟩ : ∃ e, d = e + 1 := ⟨d - 1, by omega⟩
  refine ax_Ct.of (lv := [some (ax_i a0), some (ax_i a1)]) (by decide +kernel) (fun ad => Nat.le_of_ble_eq_true rfl) (fun ad => rfl) ?_
  refine ax_iload_n (q := 1) (i := 0) dX12_has_0 rfl rfl rfl ?_
  refine ax_iload_n (q := 2) (i := 1) dX12_has_1 rfl rfl rfl ?_
  refine ax_ishr (q := 3) dX12_has_2 rfl ?_
  refine ax_iconst (q := 4) dX12_has_3 rfl ki_1 ?_
  refine ax_iand (q := 5) dX12_has_4 rfl ?_
  refine ax_iconst (q := 6) dX12_has_5 rfl ki_1 ?_
  have K2 : ax_W sh (d + 1) mX12_has (fun r u => r = some (ax_i (if (¬ (¬ ((a0 >>> (a1 &&& 31)) &&& (1 : Int32)) = (1 : Int32))) then (1 : Int32) else 0)) ∧ u = σ) 14 [some (ax_i a0), some (ax_i a1)] [ax_i (if (¬ (¬ ((a0 >>> (a1 &&& 31)) &&& (1 : Int32)) = (1 : Int32))) then (1 : Int32) else 0)] σ := by
    exact ax_iret dX12_has_14 rfl (ax_nb _) ⟨rfl, rfl⟩
  refine ax_icmp_ne (tgt := 13) (q := 9) dX12_has_6 (by decide) rfl (fun c1 => ?_) (fun c1 => ?_)
  · refine ax_iconst (q := 14) dX12_has_13 rfl ki_0 ?_
    exact ax_cv (if_neg (fun y => y c1)) K2
  · refine ax_iconst (q := 10) dX12_has_9 rfl ki_1 ?_
    refine ax_goto (tgt := 14) dX12_has_10 (by decide) ?_
    exact ax_cv (if_pos c1) K2
set_option maxRecDepth 20000 in
theorem f_X12_thrown (σ : ax_S)   {d : Nat} (hd : 1 ≤ d) : ax_Ct shM d mX12_thrown [ax_r 0] (fun r u => r = some (ax_i (σ.1 0 0)) ∧ u = σ) σ := by
  obtain ⟨d, rfl⟩ : ∃ e, d = e + 1 := ⟨d - 1, by omega⟩
  refine ax_Ct.of (lv := [some (ax_r 0)]) (by decide +kernel) (fun ad => Nat.le_of_ble_eq_true rfl) (fun ad => rfl) ?_
  refine ax_aload_n (q := 1) (i := 0) dX12_thrown_0 rfl rfl rfl ?_
  refine ax_get (q := 4) (k := 0) (j := 0) (v := ax_i (σ.1 0 0)) dX12_thrown_1 rfl shM_0 rfl rfl rfl (by decide) fl_X12_108 ?_
  exact ax_iret dX12_thrown_4 rfl rfl ⟨rfl, rfl⟩
def v_X12_byteOf (a0 : Int32) (a1 : Int32) (a2 : Int32) (a3 : Int32) (a4 : Int32) (a5 : Int32) : Int32 := (((if ((4 : Int32) ≤ a5) then (if ((8 : Int32) ≤ a5) then (if ((12 : Int32) ≤ a5) then (if ((16 : Int32) ≤ a5) then a4 else a3) else a2) else a1) else a0) >>> (((24 : Int32) - ((8 : Int32) * (a5 - a5 / (4 : Int32) * (4 : Int32)))) &&& 31)) &&& (255 : Int32))
set_option maxRecDepth 20000 in
theorem f_X12_byteOf {sh : List ax_H} (σ : ax_S) (a0 : Int32) (a1 : Int32) (a2 : Int32) (a3 : Int32) (a4 : Int32) (a5 : Int32) (h1 : ¬ (4 : Int32) = 0) {d : Nat} (hd : 1 ≤ d) : ax_Ct sh d mX12_byteOf [ax_i a0, ax_i a1, ax_i a2, ax_i a3, ax_i a4, ax_i a5] (fun r u => r = some (ax_i (v_X12_byteOf a0 a1 a2 a3 a4 a5)) ∧ u = σ) σ := by
  obtain ⟨d, rfl⟩ : ∃ e, d = e + 1 := ⟨d - 1, by omega⟩
  refine ax_Ct.of (lv := [some (ax_i a0), some (ax_i a1), some (ax_i a2), some (ax_i a3), some (ax_i a4), some (ax_i a5), none]) (by decide +kernel) (fun ad => Nat.le_of_ble_eq_true rfl) (fun ad => rfl) ?_
  refine ax_iload (q := 2) dX12_byteOf_0 rfl rfl ?_
  refine ax_iconst (q := 3) dX12_byteOf_2 rfl ki_4 ?_
  have K5 : ax_W sh (d + 1) mX12_byteOf (fun r u => r = some (ax_i (v_X12_byteOf a0 a1 a2 a3 a4 a5)) ∧ u = σ) 45 [some (ax_i a0), some (ax_i a1), some (ax_i a2), some (ax_i a3), some (ax_i a4), some (ax_i a5), none] [ax_i (if ((4 : Int32) ≤ a5) then (if ((8 : Int32) ≤ a5) then (if ((12 : Int32) ≤ a5) then (if ((16 : Int32) ≤ a5) then a4 else a3) else a2) else a1) else a0)] σ := by
    refine ax_istore (q := 47) (lv2 := [some (ax_i a0), some (ax_i a1), some (ax_i a2), some (ax_i a3), some (ax_i a4), some (ax_i a5), some (ax_i (if ((4 : Int32) ≤ a5) then (if ((8 : Int32) ≤ a5) then (if ((12 : Int32) ≤ a5) then (if ((16 : Int32) ≤ a5) then a4 else a3) else a2) else a1) else a0))]) dX12_byteOf_45 rfl (by decide) rfl rfl ?_
    refine ax_iload (q := 49) dX12_byteOf_47 rfl rfl ?_
    refine ax_bipush (q := 51) dX12_byteOf_49 rfl kb_24 ?_
    refine ax_bipush (q := 53) dX12_byteOf_51 rfl kb_8 ?_
    refine ax_iload (q := 55) dX12_byteOf_53 rfl rfl ?_
    refine ax_iconst (q := 56) dX12_byteOf_55 rfl ki_4 ?_
    refine ax_irem (q := 57) dX12_byteOf_56 rfl h1 ?_
    refine ax_imul (q := 58) dX12_byteOf_57 rfl ?_
    refine ax_isub (q := 59) dX12_byteOf_58 rfl ?_
    refine ax_ishr (q := 60) dX12_byteOf_59 rfl ?_
    refine ax_sipush (q := 63) dX12_byteOf_60 rfl ks_255 ?_
    refine ax_iand (q := 64) dX12_byteOf_63 rfl ?_
    exact ax_iret dX12_byteOf_64 rfl rfl ⟨rfl, rfl⟩
  refine ax_icmp_ge (tgt := 10) (q := 6) dX12_byteOf_3 (by decide) rfl (fun c1 => ?_) (fun c1 => ?_)
  · refine ax_iload (q := 12) dX12_byteOf_10 rfl rfl ?_
    refine ax_bipush (q := 14) dX12_byteOf_12 rfl kb_8 ?_
    refine ax_icmp_ge (tgt := 21) (q := 17) dX12_byteOf_14 (by decide) rfl (fun c2 => ?_) (fun c2 => ?_)
    · refine ax_iload (q := 23) dX12_byteOf_21 rfl rfl ?_
      refine ax_bipush (q := 25) dX12_byteOf_23 rfl kb_12 ?_
      refine ax_icmp_ge (tgt := 32) (q := 28) dX12_byteOf_25 (by decide) rfl (fun c3 => ?_) (fun c3 => ?_)
      · refine ax_iload (q := 34) dX12_byteOf_32 rfl rfl ?_
        refine ax_bipush (q := 36) dX12_byteOf_34 rfl kb_16 ?_
        refine ax_icmp_ge (tgt := 43) (q := 39) dX12_byteOf_36 (by decide) rfl (fun c4 => ?_) (fun c4 => ?_)
        · refine ax_iload (q := 45) dX12_byteOf_43 rfl rfl ?_
          exact ax_cv ((if_pos c1).trans ((if_pos c2).trans ((if_pos c3).trans (if_pos c4)))) K5
        · refine ax_iload_n (q := 40) (i := 3) dX12_byteOf_39 rfl rfl rfl ?_
          refine ax_goto (tgt := 45) dX12_byteOf_40 (by decide) ?_
          exact ax_cv ((if_pos c1).trans ((if_pos c2).trans ((if_pos c3).trans (if_neg c4)))) K5
      · refine ax_iload_n (q := 29) (i := 2) dX12_byteOf_28 rfl rfl rfl ?_
        refine ax_goto (tgt := 45) dX12_byteOf_29 (by decide) ?_
        exact ax_cv ((if_pos c1).trans ((if_pos c2).trans (if_neg c3))) K5
    · refine ax_iload_n (q := 18) (i := 1) dX12_byteOf_17 rfl rfl rfl ?_
      refine ax_goto (tgt := 45) dX12_byteOf_18 (by decide) ?_
      exact ax_cv ((if_pos c1).trans (if_neg c2)) K5
  · refine ax_iload_n (q := 7) (i := 0) dX12_byteOf_6 rfl rfl rfl ?_
    refine ax_goto (tgt := 45) dX12_byteOf_7 (by decide) ?_
    exact ax_cv (if_neg c1) K5
set_option maxRecDepth 20000 in
theorem s_X12_feed_0 {d : Nat} (hd : 0 ≤ d) {Q : Option ax_V → ax_S → Prop} (σ : ax_S) (a0 : Int32) (a1 : Int32) (a2 : Int32) (a3 : Int32) (a4 : Int32) (k1 : ax_W shM (d + 1) mX12_feed Q 6 [some (ax_r 0), some (ax_i a0), some (ax_i a1), some (ax_i a2), some (ax_i a3), some (ax_i a4), some (ax_i (0 : Int32)), some (ax_i (0 : Int32)), none] [] σ) : ax_W shM (d + 1) mX12_feed Q 0 [some (ax_r 0), some (ax_i a0), some (ax_i a1), some (ax_i a2), some (ax_i a3), some (ax_i a4), none, none, none] [] σ := by
  refine ax_iconst (q := 1) dX12_feed_0 rfl ki_0 ?_
  refine ax_istore (q := 3) (lv2 := [some (ax_r 0), some (ax_i a0), some (ax_i a1), some (ax_i a2), some (ax_i a3), some (ax_i a4), some (ax_i (0 : Int32)), none, none]) dX12_feed_1 rfl (by decide) rfl rfl ?_
  refine ax_iconst (q := 4) dX12_feed_3 rfl ki_0 ?_
  refine ax_istore (q := 6) (lv2 := [some (ax_r 0), some (ax_i a0), some (ax_i a1), some (ax_i a2), some (ax_i a3), some (ax_i a4), some (ax_i (0 : Int32)), some (ax_i (0 : Int32)), none]) dX12_feed_4 rfl (by decide) rfl rfl ?_
  exact k1
set_option maxRecDepth 20000 in
theorem s_X12_feed_6 {d : Nat} (hd : 1 ≤ d) {Q : Option ax_V → ax_S → Prop} (σ : ax_S) (x1 : Int32) (x2 : Int32) (x3 : Int32) (x4 : Int32) (x5 : Int32) (x6 : Int32) (x7 : Int32) (k1 : ((20 : Int32) ≤ x7) → (((σ.1 0 2) + x6) ≤ (240 : Int32)) → ax_W shM (d + 1) mX12_feed Q 62 [some (ax_r 0), some (ax_i x1), some (ax_i x2), some (ax_i x3), some (ax_i x4), some (ax_i x5), none, some (ax_i (0 : Int32)), none] [] σ) (k2 : ((20 : Int32) ≤ x7) → (¬ (((σ.1 0 2) + x6) ≤ (240 : Int32))) → Q (some (ax_i (-1 : Int32))) σ) (k3 : (¬ ((20 : Int32) ≤ x7)) → ax_W shM (d + 1) mX12_feed Q 6 [some (ax_r 0), some (ax_i x1), some (ax_i x2), some (ax_i x3), some (ax_i x4), some (ax_i x5), some (ax_i (x6 + (if (¬ ((v_X12_byteOf x1 x2 x3 x4 x5 x7) = 0)) then (1 : Int32) else 0))), some (ax_i (x7 + (1 : Int32))), none] [] σ) : ax_W shM (d + 1) mX12_feed Q 6 [some (ax_r 0), some (ax_i x1), some (ax_i x2), some (ax_i x3), some (ax_i x4), some (ax_i x5), some (ax_i x6), some (ax_i x7), none] [] σ := by
  refine ax_iload (q := 8) dX12_feed_6 rfl rfl ?_
  refine ax_bipush (q := 10) dX12_feed_8 rfl kb_20 ?_
  refine ax_icmp_ge (tgt := 44) (q := 13) dX12_feed_10 (by decide) rfl (fun c1 => ?_) (fun c1 => ?_)
  · refine ax_aload_n (q := 45) (i := 0) dX12_feed_44 rfl rfl rfl ?_
    refine ax_get (q := 48) (k := 0) (j := 2) (v := ax_i (σ.1 0 2)) dX12_feed_45 rfl shM_0 rfl rfl rfl (by decide) fl_X12_115 ?_
    refine ax_iload (q := 50) dX12_feed_48 rfl rfl ?_
    refine ax_iadd (q := 51) dX12_feed_50 rfl ?_
    refine ax_sipush (q := 54) dX12_feed_51 rfl ks_240 ?_
    refine ax_icmp_le (tgt := 59) (q := 57) dX12_feed_54 (by decide) rfl (fun c2 => ?_) (fun c2 => ?_)
    · refine ax_iconst (q := 60) dX12_feed_59 rfl ki_0 ?_
      refine ax_istore (q := 62) (lv2 := [some (ax_r 0), some (ax_i x1), some (ax_i x2), some (ax_i x3), some (ax_i x4), some (ax_i x5), some (ax_i x6), some (ax_i (0 : Int32)), none]) dX12_feed_60 rfl (by decide) rfl rfl ?_
      refine ax_fg (lv2 := [some (ax_r 0), some (ax_i x1), some (ax_i x2), some (ax_i x3), some (ax_i x4), some (ax_i x5), none, some (ax_i (0 : Int32)), none]) ⟨rfl, rfl, rfl, rfl, rfl, rfl, rfl, trivial⟩ ?_
      exact (k1 c1 c2)
    · refine ax_iconst (q := 58) dX12_feed_57 rfl ki_m1 ?_
      exact ax_iret dX12_feed_58 rfl rfl (k2 c1 c2)
  · refine ax_iload (q := 15) dX12_feed_13 rfl rfl ?_
    refine ax_iload_n (q := 16) (i := 1) dX12_feed_15 rfl rfl rfl ?_
    refine ax_iload_n (q := 17) (i := 2) dX12_feed_16 rfl rfl rfl ?_
    refine ax_iload_n (q := 18) (i := 3) dX12_feed_17 rfl rfl rfl ?_
    refine ax_iload (q := 20) dX12_feed_18 rfl rfl ?_
    refine ax_iload (q := 22) dX12_feed_20 rfl rfl ?_
    refine ax_iload (q := 24) dX12_feed_22 rfl rfl ?_
    refine ax_callSfi (q := 27) (As := [ax_i x1, ax_i x2, ax_i x3, ax_i x4, ax_i x5, ax_i x7]) (st := [ax_i x6]) (x := (v_X12_byteOf x1 x2 x3 x4 x5 x7)) (σ2 := σ) dX12_feed_24 rfl lk_X12_111 rfl rfl (Nat.le_of_ble_eq_true rfl) (f_X12_byteOf (sh := shM) σ x1 x2 x3 x4 x5 x7 (by decide) (d := d) (by omega)) ?_
    have K4 : ax_W shM (d + 1) mX12_feed Q 35 [some (ax_r 0), some (ax_i x1), some (ax_i x2), some (ax_i x3), some (ax_i x4), some (ax_i x5), some (ax_i x6), some (ax_i x7), none] [ax_i (if (¬ ((v_X12_byteOf x1 x2 x3 x4 x5 x7) = 0)) then (1 : Int32) else 0), ax_i x6] σ := by
      refine ax_iadd (q := 36) dX12_feed_35 rfl ?_
      refine ax_istore (q := 38) (lv2 := [some (ax_r 0), some (ax_i x1), some (ax_i x2), some (ax_i x3), some (ax_i x4), some (ax_i x5), some (ax_i (x6 + (if (¬ ((v_X12_byteOf x1 x2 x3 x4 x5 x7) = 0)) then (1 : Int32) else 0))), some (ax_i x7), none]) dX12_feed_36 rfl (by decide) rfl rfl ?_
      refine ax_iincK (q := 41) (lv2 := [some (ax_r 0), some (ax_i x1), some (ax_i x2), some (ax_i x3), some (ax_i x4), some (ax_i x5), some (ax_i (x6 + (if (¬ ((v_X12_byteOf x1 x2 x3 x4 x5 x7) = 0)) then (1 : Int32) else 0))), some (ax_i (x7 + (1 : Int32))), none]) dX12_feed_38 rfl rfl ki_1 (by decide) rfl rfl ?_
      refine ax_goto (tgt := 6) dX12_feed_41 (by decide) ?_
      exact (k3 c1)
    refine ax_if_eq (tgt := 34) (q := 30) dX12_feed_27 (by decide) rfl (fun c3 => ?_) (fun c3 => ?_)
    · refine ax_iconst (q := 35) dX12_feed_34 rfl ki_0 ?_
      exact ax_cv (if_neg (fun y => y c3)) K4
    · refine ax_iconst (q := 31) dX12_feed_30 rfl ki_1 ?_
      refine ax_goto (tgt := 35) dX12_feed_31 (by decide) ?_
      exact ax_cv (if_pos c3) K4
set_option maxRecDepth 20000 in
theorem s_X12_feed_62 {d : Nat} (hd : 1 ≤ d) {Q : Option ax_V → ax_S → Prop} (σ : ax_S) (x1 : Int32) (x2 : Int32) (x3 : Int32) (x4 : Int32) (x5 : Int32) (x7 : Int32) (k1 : ((20 : Int32) ≤ x7) → Q (some (ax_i (σ.1 0 2))) σ) (k2 : (¬ ((20 : Int32) ≤ x7)) → ((v_X12_byteOf x1 x2 x3 x4 x5 x7) = 0) → ax_W shM (d + 1) mX12_feed Q 62 [some (ax_r 0), some (ax_i x1), some (ax_i x2), some (ax_i x3), some (ax_i x4), some (ax_i x5), none, some (ax_i (x7 + (1 : Int32))), none] [] σ) (h3 : (¬ ((20 : Int32) ≤ x7)) → (¬ ((v_X12_byteOf x1 x2 x3 x4 x5 x7) = 0)) → vp_in (σ.1 0 2) 240) (k4 : (¬ ((20 : Int32) ≤ x7)) → (¬ ((v_X12_byteOf x1 x2 x3 x4 x5 x7) = 0)) → ax_W shM (d + 1) mX12_feed Q 62 [some (ax_r 0), some (ax_i x1), some (ax_i x2), some (ax_i x3), some (ax_i x4), some (ax_i x5), none, some (ax_i (x7 + (1 : Int32))), none] [] (ax_ui (ax_ui σ 1 (Int32.toNatClampNeg (σ.1 0 2)) (v_X12_byteOf x1 x2 x3 x4 x5 x7)) 0 2 ((σ.1 0 2) + (1 : Int32)))) : ax_W shM (d + 1) mX12_feed Q 62 [some (ax_r 0), some (ax_i x1), some (ax_i x2), some (ax_i x3), some (ax_i x4), some (ax_i x5), none, some (ax_i x7), none] [] σ := by
  refine ax_iload (q := 64) dX12_feed_62 rfl rfl ?_
  refine ax_bipush (q := 66) dX12_feed_64 rfl kb_20 ?_
  refine ax_icmp_ge (tgt := 115) (q := 69) dX12_feed_66 (by decide) rfl (fun c1 => ?_) (fun c1 => ?_)
  · refine ax_aload_n (q := 116) (i := 0) dX12_feed_115 rfl rfl rfl ?_
    refine ax_get (q := 119) (k := 0) (j := 2) (v := ax_i (σ.1 0 2)) dX12_feed_116 rfl shM_0 rfl rfl rfl (by decide) fl_X12_115 ?_
    exact ax_iret dX12_feed_119 rfl rfl (k1 c1)
  · refine ax_iload_n (q := 70) (i := 1) dX12_feed_69 rfl rfl rfl ?_
    refine ax_iload_n (q := 71) (i := 2) dX12_feed_70 rfl rfl rfl ?_
    refine ax_iload_n (q := 72) (i := 3) dX12_feed_71 rfl rfl rfl ?_
    refine ax_iload (q := 74) dX12_feed_72 rfl rfl ?_
    refine ax_iload (q := 76) dX12_feed_74 rfl rfl ?_
    refine ax_iload (q := 78) dX12_feed_76 rfl rfl ?_
    refine ax_callSfi (q := 81) (As := [ax_i x1, ax_i x2, ax_i x3, ax_i x4, ax_i x5, ax_i x7]) (st := []) (x := (v_X12_byteOf x1 x2 x3 x4 x5 x7)) (σ2 := σ) dX12_feed_78 rfl lk_X12_111 rfl rfl (Nat.le_of_ble_eq_true rfl) (f_X12_byteOf (sh := shM) σ x1 x2 x3 x4 x5 x7 (by decide) (d := d) (by omega)) ?_
    refine ax_istore (q := 83) (lv2 := [some (ax_r 0), some (ax_i x1), some (ax_i x2), some (ax_i x3), some (ax_i x4), some (ax_i x5), none, some (ax_i x7), some (ax_i (v_X12_byteOf x1 x2 x3 x4 x5 x7))]) dX12_feed_81 rfl (by decide) rfl rfl ?_
    refine ax_iload (q := 85) dX12_feed_83 rfl rfl ?_
    refine ax_if_eq (tgt := 109) (q := 88) dX12_feed_85 (by decide) rfl (fun c2 => ?_) (fun c2 => ?_)
    · refine ax_iincK (q := 112) (lv2 := [some (ax_r 0), some (ax_i x1), some (ax_i x2), some (ax_i x3), some (ax_i x4), some (ax_i x5), none, some (ax_i (x7 + (1 : Int32))), some (ax_i (v_X12_byteOf x1 x2 x3 x4 x5 x7))]) dX12_feed_109 rfl rfl ki_1 (by decide) rfl rfl ?_
      refine ax_goto (tgt := 62) dX12_feed_112 (by decide) ?_
      refine ax_fg (lv2 := [some (ax_r 0), some (ax_i x1), some (ax_i x2), some (ax_i x3), some (ax_i x4), some (ax_i x5), none, some (ax_i (x7 + (1 : Int32))), none]) ⟨rfl, rfl, rfl, rfl, rfl, rfl, rfl, trivial⟩ ?_
      exact (k2 c1 c2)
    · refine ax_aload_n (q := 89) (i := 0) dX12_feed_88 rfl rfl rfl ?_
      refine ax_get (q := 92) (k := 0) (j := 1) (v := ax_r 1) dX12_feed_89 rfl shM_0 rfl rfl rfl (by decide) fl_X12_9 ?_
      refine ax_aload_n (q := 93) (i := 0) dX12_feed_92 rfl rfl rfl ?_
      refine ax_get (q := 96) (k := 0) (j := 2) (v := ax_i (σ.1 0 2)) dX12_feed_93 rfl shM_0 rfl rfl rfl (by decide) fl_X12_115 ?_
      refine ax_iload (q := 98) dX12_feed_96 rfl rfl ?_
      refine ax_iast (q := 99) (a := (Int32.toNatClampNeg (σ.1 0 2))) dX12_feed_98 rfl shM_1 (h3 c1 c2) rfl ?_
      refine ax_aload_n (q := 100) (i := 0) dX12_feed_99 rfl rfl rfl ?_
      refine ax_dupr (q := 101) dX12_feed_100 rfl ?_
      refine ax_get (q := 104) (k := 0) (j := 2) (v := ax_i (σ.1 0 2)) dX12_feed_101 rfl shM_0 rfl rfl rfl (by decide) fl_X12_115 ?_
      refine ax_iconst (q := 105) dX12_feed_104 rfl ki_1 ?_
      refine ax_iadd (q := 106) dX12_feed_105 rfl ?_
      refine ax_puti (q := 109) (k := 0) (j := 2) dX12_feed_106 rfl shM_0 rfl rfl (by decide) fl_X12_115 rfl rfl rfl rfl ?_
      refine ax_iincK (q := 112) (lv2 := [some (ax_r 0), some (ax_i x1), some (ax_i x2), some (ax_i x3), some (ax_i x4), some (ax_i x5), none, some (ax_i (x7 + (1 : Int32))), some (ax_i (v_X12_byteOf x1 x2 x3 x4 x5 x7))]) dX12_feed_109 rfl rfl ki_1 (by decide) rfl rfl ?_
      refine ax_goto (tgt := 62) dX12_feed_112 (by decide) ?_
      refine ax_fg (lv2 := [some (ax_r 0), some (ax_i x1), some (ax_i x2), some (ax_i x3), some (ax_i x4), some (ax_i x5), none, some (ax_i (x7 + (1 : Int32))), none]) ⟨rfl, rfl, rfl, rfl, rfl, rfl, rfl, trivial⟩ ?_
      exact (k4 c1 c2)
set_option maxRecDepth 20000 in
theorem s_X12_end_0 {d : Nat} (hd : 0 ≤ d) {Q : Option ax_V → ax_S → Prop} (σ : ax_S) (a0 : Int32) (k1 : (a0 < 0) → Q (some (ax_i (0 : Int32))) σ) (k2 : (¬ (a0 < 0)) → (a0 ≤ (σ.1 0 2)) → Q (some (ax_i (1 : Int32))) (ax_ui σ 0 2 a0)) (k3 : (¬ (a0 < 0)) → (¬ (a0 ≤ (σ.1 0 2))) → Q (some (ax_i (0 : Int32))) σ) : ax_W shM (d + 1) mX12_end Q 0 [some (ax_r 0), some (ax_i a0)] [] σ := by
  refine ax_iload_n (q := 1) (i := 1) dX12_end_0 rfl rfl rfl ?_
  refine ax_if_lt (tgt := 12) (q := 4) dX12_end_1 (by decide) rfl (fun c1 => ?_) (fun c1 => ?_)
  · refine ax_iconst (q := 13) dX12_end_12 rfl ki_0 ?_
    exact ax_iret dX12_end_13 rfl rfl (k1 c1)
  · refine ax_iload_n (q := 5) (i := 1) dX12_end_4 rfl rfl rfl ?_
    refine ax_aload_n (q := 6) (i := 0) dX12_end_5 rfl rfl rfl ?_
    refine ax_get (q := 9) (k := 0) (j := 2) (v := ax_i (σ.1 0 2)) dX12_end_6 rfl shM_0 rfl rfl rfl (by decide) fl_X12_115 ?_
    refine ax_icmp_le (tgt := 14) (q := 12) dX12_end_9 (by decide) rfl (fun c2 => ?_) (fun c2 => ?_)
    · refine ax_aload_n (q := 15) (i := 0) dX12_end_14 rfl rfl rfl ?_
      refine ax_iload_n (q := 16) (i := 1) dX12_end_15 rfl rfl rfl ?_
      refine ax_puti (q := 19) (k := 0) (j := 2) dX12_end_16 rfl shM_0 rfl rfl (by decide) fl_X12_115 rfl rfl rfl rfl ?_
      refine ax_iconst (q := 20) dX12_end_19 rfl ki_1 ?_
      exact ax_iret dX12_end_20 rfl rfl (k2 c1 c2)
    · refine ax_iconst (q := 13) dX12_end_12 rfl ki_0 ?_
      exact ax_iret dX12_end_13 rfl rfl (k3 c1 c2)
set_option maxRecDepth 20000 in
theorem f_X12_here (σ : ax_S)  (h1 : (¬ ((σ.1 0 2) ≤ (σ.1 0 3))) → vp_in (σ.1 0 3) 240) {d : Nat} (hd : 1 ≤ d) : ax_Ct shM d mX12_here [ax_r 0] (fun r u => r = some (ax_i (if ((σ.1 0 2) ≤ (σ.1 0 3)) then (-1 : Int32) else (σ.1 1 (Int32.toNatClampNeg (σ.1 0 3))))) ∧ u = σ) σ := by
  obtain ⟨d, rfl⟩ : ∃ e, d = e + 1 := ⟨d - 1, by omega⟩
  refine ax_Ct.of (lv := [some (ax_r 0)]) (by decide +kernel) (fun ad => Nat.le_of_ble_eq_true rfl) (fun ad => rfl) ?_
  refine ax_aload_n (q := 1) (i := 0) dX12_here_0 rfl rfl rfl ?_
  refine ax_get (q := 4) (k := 0) (j := 3) (v := ax_i (σ.1 0 3)) dX12_here_1 rfl shM_0 rfl rfl rfl (by decide) fl_X12_118 ?_
  refine ax_aload_n (q := 5) (i := 0) dX12_here_4 rfl rfl rfl ?_
  refine ax_get (q := 8) (k := 0) (j := 2) (v := ax_i (σ.1 0 2)) dX12_here_5 rfl shM_0 rfl rfl rfl (by decide) fl_X12_115 ?_
  have K2 : ax_W shM (d + 1) mX12_here (fun r u => r = some (ax_i (if ((σ.1 0 2) ≤ (σ.1 0 3)) then (-1 : Int32) else (σ.1 1 (Int32.toNatClampNeg (σ.1 0 3))))) ∧ u = σ) 24 [some (ax_r 0)] [ax_i (if ((σ.1 0 2) ≤ (σ.1 0 3)) then (-1 : Int32) else (σ.1 1 (Int32.toNatClampNeg (σ.1 0 3))))] σ := by
    exact ax_iret dX12_here_24 rfl rfl ⟨rfl, rfl⟩
  refine ax_icmp_ge (tgt := 23) (q := 11) dX12_here_8 (by decide) rfl (fun c1 => ?_) (fun c1 => ?_)
  · refine ax_iconst (q := 24) dX12_here_23 rfl ki_m1 ?_
    exact ax_cv (if_pos c1) K2
  · refine ax_aload_n (q := 12) (i := 0) dX12_here_11 rfl rfl rfl ?_
    refine ax_get (q := 15) (k := 0) (j := 1) (v := ax_r 1) dX12_here_12 rfl shM_0 rfl rfl rfl (by decide) fl_X12_9 ?_
    refine ax_aload_n (q := 16) (i := 0) dX12_here_15 rfl rfl rfl ?_
    refine ax_get (q := 19) (k := 0) (j := 3) (v := ax_i (σ.1 0 3)) dX12_here_16 rfl shM_0 rfl rfl rfl (by decide) fl_X12_118 ?_
    refine ax_iald (q := 20) (a := (Int32.toNatClampNeg (σ.1 0 3))) (v := (σ.1 1 (Int32.toNatClampNeg (σ.1 0 3)))) dX12_here_19 rfl shM_1 (h1 c1) rfl rfl ?_
    refine ax_goto (tgt := 24) dX12_here_20 (by decide) ?_
    exact ax_cv (if_neg c1) K2
set_option maxRecDepth 20000 in
theorem s_X12_look_0 {d : Nat} (hd : 1 ≤ d) {Q : Option ax_V → ax_S → Prop} (σ : ax_S)  (h1 : (¬ ((σ.1 0 2) ≤ (σ.1 0 3))) → vp_in (σ.1 0 3) 240) (h2 : (¬ (if ((σ.1 0 2) ≤ (σ.1 0 3)) then (-1 : Int32) else (σ.1 1 (Int32.toNatClampNeg (σ.1 0 3)))) = (32 : Int32)) → (¬ ((σ.1 0 2) ≤ (σ.1 0 3))) → vp_in (σ.1 0 3) 240) (k3 : (¬ (if ((σ.1 0 2) ≤ (σ.1 0 3)) then (-1 : Int32) else (σ.1 1 (Int32.toNatClampNeg (σ.1 0 3)))) = (32 : Int32)) → Q (some (ax_i (if ((σ.1 0 2) ≤ (σ.1 0 3)) then (-1 : Int32) else (σ.1 1 (Int32.toNatClampNeg (σ.1 0 3)))))) σ) (k4 : (¬ (¬ (if ((σ.1 0 2) ≤ (σ.1 0 3)) then (-1 : Int32) else (σ.1 1 (Int32.toNatClampNeg (σ.1 0 3)))) = (32 : Int32))) → ax_W shM (d + 1) mX12_look Q 0 [some (ax_r 0)] [] (ax_ui σ 0 3 ((σ.1 0 3) + (1 : Int32)))) : ax_W shM (d + 1) mX12_look Q 0 [some (ax_r 0)] [] σ := by
  refine ax_aload_n (q := 1) (i := 0) dX12_look_0 rfl rfl rfl ?_
  refine ax_callVfi (q := 4) (As := []) (st := []) (x := (if ((σ.1 0 2) ≤ (σ.1 0 3)) then (-1 : Int32) else (σ.1 1 (Int32.toNatClampNeg (σ.1 0 3))))) (σ2 := σ) dX12_look_1 rfl lk_X12_121 shM_0 rfl rfl rfl rfl (Nat.le_of_ble_eq_true rfl) (f_X12_here σ  h1 (d := d) (by omega)) ?_
  refine ax_bipush (q := 6) dX12_look_4 rfl kb_32 ?_
  refine ax_icmp_ne (tgt := 22) (q := 9) dX12_look_6 (by decide) rfl (fun c1 => ?_) (fun c1 => ?_)
  · refine ax_aload_n (q := 23) (i := 0) dX12_look_22 rfl rfl rfl ?_
    refine ax_callVfi (q := 26) (As := []) (st := []) (x := (if ((σ.1 0 2) ≤ (σ.1 0 3)) then (-1 : Int32) else (σ.1 1 (Int32.toNatClampNeg (σ.1 0 3))))) (σ2 := σ) dX12_look_23 rfl lk_X12_121 shM_0 rfl rfl rfl rfl (Nat.le_of_ble_eq_true rfl) (f_X12_here σ  (h2 c1) (d := d) (by omega)) ?_
    exact ax_iret dX12_look_26 rfl rfl (k3 c1)
  · refine ax_aload_n (q := 10) (i := 0) dX12_look_9 rfl rfl rfl ?_
    refine ax_dupr (q := 11) dX12_look_10 rfl ?_
    refine ax_get (q := 14) (k := 0) (j := 3) (v := ax_i (σ.1 0 3)) dX12_look_11 rfl shM_0 rfl rfl rfl (by decide) fl_X12_118 ?_
    refine ax_iconst (q := 15) dX12_look_14 rfl ki_1 ?_
    refine ax_iadd (q := 16) dX12_look_15 rfl ?_
    refine ax_puti (q := 19) (k := 0) (j := 3) dX12_look_16 rfl shM_0 rfl rfl (by decide) fl_X12_118 rfl rfl rfl rfl ?_
    refine ax_goto (tgt := 0) dX12_look_19 (by decide) ?_
    exact (k4 c1)
set_option maxRecDepth 20000 in
theorem f_X12_bad (σ : ax_S)   {d : Nat} (hd : 1 ≤ d) : ax_Ct shM d mX12_bad [ax_r 0] (fun r u => r = none ∧ u = (ax_ui σ 0 4 (if (¬ (σ.1 0 4) = (-1 : Int32)) then (σ.1 0 4) else (σ.1 0 3)))) σ := by
  obtain ⟨d, rfl⟩ : ∃ e, d = e + 1 := ⟨d - 1, by omega⟩
  refine ax_Ct.of (lv := [some (ax_r 0)]) (by decide +kernel) (fun ad => Nat.le_of_ble_eq_true rfl) (fun ad => rfl) ?_
  refine ax_aload_n (q := 1) (i := 0) dX12_bad_0 rfl rfl rfl ?_
  refine ax_aload_n (q := 2) (i := 0) dX12_bad_1 rfl rfl rfl ?_
  refine ax_get (q := 5) (k := 0) (j := 4) (v := ax_i (σ.1 0 4)) dX12_bad_2 rfl shM_0 rfl rfl rfl (by decide) fl_X12_125 ?_
  refine ax_iconst (q := 6) dX12_bad_5 rfl ki_m1 ?_
  have K2 : ax_W shM (d + 1) mX12_bad (fun r u => r = none ∧ u = (ax_ui σ 0 4 (if (¬ (σ.1 0 4) = (-1 : Int32)) then (σ.1 0 4) else (σ.1 0 3)))) 20 [some (ax_r 0)] [ax_i (if (¬ (σ.1 0 4) = (-1 : Int32)) then (σ.1 0 4) else (σ.1 0 3)), ax_r 0] σ := by
    refine ax_puti (q := 23) (k := 0) (j := 4) dX12_bad_20 rfl shM_0 rfl rfl (by decide) fl_X12_125 rfl rfl rfl rfl ?_
    exact ax_vret dX12_bad_23 rfl ⟨rfl, rfl⟩
  refine ax_icmp_ne (tgt := 16) (q := 9) dX12_bad_6 (by decide) rfl (fun c1 => ?_) (fun c1 => ?_)
  · refine ax_aload_n (q := 17) (i := 0) dX12_bad_16 rfl rfl rfl ?_
    refine ax_get (q := 20) (k := 0) (j := 4) (v := ax_i (σ.1 0 4)) dX12_bad_17 rfl shM_0 rfl rfl rfl (by decide) fl_X12_125 ?_
    exact ax_cv (if_pos c1) K2
  · refine ax_aload_n (q := 10) (i := 0) dX12_bad_9 rfl rfl rfl ?_
    refine ax_get (q := 13) (k := 0) (j := 3) (v := ax_i (σ.1 0 3)) dX12_bad_10 rfl shM_0 rfl rfl rfl (by decide) fl_X12_118 ?_
    refine ax_goto (tgt := 20) dX12_bad_13 (by decide) ?_
    exact ax_cv (if_neg c1) K2
set_option maxRecDepth 20000 in
theorem f_X12_isDigit {sh : List ax_H} (σ : ax_S) (a0 : Int32)  {d : Nat} (hd : 1 ≤ d) : ax_Ct sh d mX12_isDigit [ax_i a0] (fun r u => r = some (ax_i (if ((¬ (a0 < (48 : Int32))) ∧ (¬ ((57 : Int32) < a0))) then (1 : Int32) else 0)) ∧ u = σ) σ := by
  obtain ⟨d, rfl⟩ : ∃ e, d = e + 1 := ⟨d - 1, by omega⟩
  refine ax_Ct.of (lv := [some (ax_i a0)]) (by decide +kernel) (fun ad => Nat.le_of_ble_eq_true rfl) (fun ad => rfl) ?_
  refine ax_iload_n (q := 1) (i := 0) dX12_isDigit_0 rfl rfl rfl ?_
  refine ax_bipush (q := 3) dX12_isDigit_1 rfl kb_48 ?_
  have K3 : ax_W sh (d + 1) mX12_isDigit (fun r u => r = some (ax_i (if ((¬ (a0 < (48 : Int32))) ∧ (¬ ((57 : Int32) < a0))) then (1 : Int32) else 0)) ∧ u = σ) 17 [some (ax_i a0)] [ax_i (if ((¬ (a0 < (48 : Int32))) ∧ (¬ ((57 : Int32) < a0))) then (1 : Int32) else 0)] σ := by
    exact ax_iret dX12_isDigit_17 rfl (ax_nb _) ⟨rfl, rfl⟩
  refine ax_icmp_lt (tgt := 16) (q := 6) dX12_isDigit_3 (by decide) rfl (fun c1 => ?_) (fun c1 => ?_)
  · refine ax_iconst (q := 17) dX12_isDigit_16 rfl ki_0 ?_
    exact ax_cv (if_neg (fun z => (fun y => y c1) z.1)) K3
  · refine ax_iload_n (q := 7) (i := 0) dX12_isDigit_6 rfl rfl rfl ?_
    refine ax_bipush (q := 9) dX12_isDigit_7 rfl kb_57 ?_
    refine ax_icmp_gt (tgt := 16) (q := 12) dX12_isDigit_9 (by decide) rfl (fun c2 => ?_) (fun c2 => ?_)
    · refine ax_iconst (q := 17) dX12_isDigit_16 rfl ki_0 ?_
      exact ax_cv (if_neg (fun z => (fun y => y c2) z.2)) K3
    · refine ax_iconst (q := 13) dX12_isDigit_12 rfl ki_1 ?_
      refine ax_goto (tgt := 17) dX12_isDigit_13 (by decide) ?_
      exact ax_cv (if_pos ⟨c1, c2⟩) K3
set_option maxRecDepth 20000 in
theorem f_X12_put (σ : ax_S) (a0 : Int32) (a1 : Int32) (h1 : vp_in (σ.1 0 14) 5) (h2 : vp_in (((520 : Int32) * (σ.1 0 14)) + (σ.1 4 (Int32.toNatClampNeg (σ.1 0 14)))) 2600) {d : Nat} (hd : 1 ≤ d) : ax_Ct shM d mX12_put [ax_r 0, ax_i a0, ax_i a1] (fun r u => r = none ∧ u = (ax_ui (ax_ui (ax_ui σ 2 (Int32.toNatClampNeg (((520 : Int32) * (σ.1 0 14)) + (σ.1 4 (Int32.toNatClampNeg (σ.1 0 14))))) a0) 3 (Int32.toNatClampNeg (((520 : Int32) * (σ.1 0 14)) + (σ.1 4 (Int32.toNatClampNeg (σ.1 0 14))))) a1) 4 (Int32.toNatClampNeg (σ.1 0 14)) ((σ.1 4 (Int32.toNatClampNeg (σ.1 0 14))) + (1 : Int32)))) σ := by
  obtain ⟨d, rfl⟩ : ∃ e, d = e + 1 := ⟨d - 1, by omega⟩
  refine ax_Ct.of (lv := [some (ax_r 0), some (ax_i a0), some (ax_i a1)]) (by decide +kernel) (fun ad => Nat.le_of_ble_eq_true rfl) (fun ad => rfl) ?_
  refine ax_aload_n (q := 1) (i := 0) dX12_put_0 rfl rfl rfl ?_
  refine ax_get (q := 4) (k := 0) (j := 6) (v := ax_r 2) dX12_put_1 rfl shM_0 rfl rfl rfl (by decide) fl_X12_13 ?_
  refine ax_sipush (q := 7) dX12_put_4 rfl ks_520 ?_
  refine ax_aload_n (q := 8) (i := 0) dX12_put_7 rfl rfl rfl ?_
  refine ax_get (q := 11) (k := 0) (j := 14) (v := ax_i (σ.1 0 14)) dX12_put_8 rfl shM_0 rfl rfl rfl (by decide) fl_X12_128 ?_
  refine ax_imul (q := 12) dX12_put_11 rfl ?_
  refine ax_aload_n (q := 13) (i := 0) dX12_put_12 rfl rfl rfl ?_
  refine ax_get (q := 16) (k := 0) (j := 8) (v := ax_r 4) dX12_put_13 rfl shM_0 rfl rfl rfl (by decide) fl_X12_19 ?_
  refine ax_aload_n (q := 17) (i := 0) dX12_put_16 rfl rfl rfl ?_
  refine ax_get (q := 20) (k := 0) (j := 14) (v := ax_i (σ.1 0 14)) dX12_put_17 rfl shM_0 rfl rfl rfl (by decide) fl_X12_128 ?_
  refine ax_iald (q := 21) (a := (Int32.toNatClampNeg (σ.1 0 14))) (v := (σ.1 4 (Int32.toNatClampNeg (σ.1 0 14)))) dX12_put_20 rfl shM_4 h1 rfl rfl ?_
  refine ax_iadd (q := 22) dX12_put_21 rfl ?_
  refine ax_iload_n (q := 23) (i := 1) dX12_put_22 rfl rfl rfl ?_
  refine ax_iast (q := 24) (a := (Int32.toNatClampNeg (((520 : Int32) * (σ.1 0 14)) + (σ.1 4 (Int32.toNatClampNeg (σ.1 0 14)))))) dX12_put_23 rfl shM_2 h2 rfl ?_
  refine ax_aload_n (q := 25) (i := 0) dX12_put_24 rfl rfl rfl ?_
  refine ax_get (q := 28) (k := 0) (j := 7) (v := ax_r 3) dX12_put_25 rfl shM_0 rfl rfl rfl (by decide) fl_X12_16 ?_
  refine ax_sipush (q := 31) dX12_put_28 rfl ks_520 ?_
  refine ax_aload_n (q := 32) (i := 0) dX12_put_31 rfl rfl rfl ?_
  refine ax_get (q := 35) (k := 0) (j := 14) (v := ax_i (σ.1 0 14)) dX12_put_32 rfl shM_0 rfl rfl rfl (by decide) fl_X12_128 ?_
  refine ax_imul (q := 36) dX12_put_35 rfl ?_
  refine ax_aload_n (q := 37) (i := 0) dX12_put_36 rfl rfl rfl ?_
  refine ax_get (q := 40) (k := 0) (j := 8) (v := ax_r 4) dX12_put_37 rfl shM_0 rfl rfl rfl (by decide) fl_X12_19 ?_
  refine ax_aload_n (q := 41) (i := 0) dX12_put_40 rfl rfl rfl ?_
  refine ax_get (q := 44) (k := 0) (j := 14) (v := ax_i (σ.1 0 14)) dX12_put_41 rfl shM_0 rfl rfl rfl (by decide) fl_X12_128 ?_
  refine ax_iald (q := 45) (a := (Int32.toNatClampNeg (σ.1 0 14))) (v := (σ.1 4 (Int32.toNatClampNeg (σ.1 0 14)))) dX12_put_44 rfl shM_4 h1 rfl rfl ?_
  refine ax_iadd (q := 46) dX12_put_45 rfl ?_
  refine ax_iload_n (q := 47) (i := 2) dX12_put_46 rfl rfl rfl ?_
  refine ax_iast (q := 48) (a := (Int32.toNatClampNeg (((520 : Int32) * (σ.1 0 14)) + (σ.1 4 (Int32.toNatClampNeg (σ.1 0 14)))))) dX12_put_47 rfl shM_3 h2 rfl ?_
  refine ax_aload_n (q := 49) (i := 0) dX12_put_48 rfl rfl rfl ?_
  refine ax_get (q := 52) (k := 0) (j := 8) (v := ax_r 4) dX12_put_49 rfl shM_0 rfl rfl rfl (by decide) fl_X12_19 ?_
  refine ax_aload_n (q := 53) (i := 0) dX12_put_52 rfl rfl rfl ?_
  refine ax_get (q := 56) (k := 0) (j := 14) (v := ax_i (σ.1 0 14)) dX12_put_53 rfl shM_0 rfl rfl rfl (by decide) fl_X12_128 ?_
  refine ax_dup2_11 (q := 57) dX12_put_56 rfl ?_
  refine ax_iald (q := 58) (a := (Int32.toNatClampNeg (σ.1 0 14))) (v := (σ.1 4 (Int32.toNatClampNeg (σ.1 0 14)))) dX12_put_57 rfl shM_4 h1 rfl rfl ?_
  refine ax_iconst (q := 59) dX12_put_58 rfl ki_1 ?_
  refine ax_iadd (q := 60) dX12_put_59 rfl ?_
  refine ax_iast (q := 61) (a := (Int32.toNatClampNeg (σ.1 0 14))) dX12_put_60 rfl shM_4 h1 rfl ?_
  exact ax_vret dX12_put_61 rfl ⟨rfl, rfl⟩
def v_X12_letterOf (a0 : Int32) : Int32 := (if (¬ a0 = (112 : Int32)) then (if (¬ a0 = (116 : Int32)) then (if (¬ a0 = (108 : Int32)) then (if (¬ a0 = (107 : Int32)) then (if (¬ a0 = (110 : Int32)) then (if (¬ a0 = (100 : Int32)) then (-1 : Int32) else (5 : Int32)) else (4 : Int32)) else (3 : Int32)) else (2 : Int32)) else (1 : Int32)) else (0 : Int32))
set_option maxRecDepth 20000 in
theorem f_X12_letterOf {sh : List ax_H} (σ : ax_S) (a0 : Int32)  {d : Nat} (hd : 1 ≤ d) : ax_Ct sh d mX12_letterOf [ax_i a0] (fun r u => r = some (ax_i (v_X12_letterOf a0)) ∧ u = σ) σ := by
  obtain ⟨d, rfl⟩ : ∃ e, d = e + 1 := ⟨d - 1, by omega⟩
  refine ax_Ct.of (lv := [some (ax_i a0)]) (by decide +kernel) (fun ad => Nat.le_of_ble_eq_true rfl) (fun ad => rfl) ?_
  refine ax_iload_n (q := 1) (i := 0) dX12_letterOf_0 rfl rfl rfl ?_
  refine ax_bipush (q := 3) dX12_letterOf_1 rfl kb_112 ?_
  have K7 : ax_W sh (d + 1) mX12_letterOf (fun r u => r = some (ax_i (v_X12_letterOf a0)) ∧ u = σ) 61 [some (ax_i a0)] [ax_i (if (¬ a0 = (112 : Int32)) then (if (¬ a0 = (116 : Int32)) then (if (¬ a0 = (108 : Int32)) then (if (¬ a0 = (107 : Int32)) then (if (¬ a0 = (110 : Int32)) then (if (¬ a0 = (100 : Int32)) then (-1 : Int32) else (5 : Int32)) else (4 : Int32)) else (3 : Int32)) else (2 : Int32)) else (1 : Int32)) else (0 : Int32))] σ := by
    exact ax_iret dX12_letterOf_61 rfl rfl ⟨rfl, rfl⟩
  refine ax_icmp_ne (tgt := 10) (q := 6) dX12_letterOf_3 (by decide) rfl (fun c1 => ?_) (fun c1 => ?_)
  · refine ax_iload_n (q := 11) (i := 0) dX12_letterOf_10 rfl rfl rfl ?_
    refine ax_bipush (q := 13) dX12_letterOf_11 rfl kb_116 ?_
    refine ax_icmp_ne (tgt := 20) (q := 16) dX12_letterOf_13 (by decide) rfl (fun c2 => ?_) (fun c2 => ?_)
    · refine ax_iload_n (q := 21) (i := 0) dX12_letterOf_20 rfl rfl rfl ?_
      refine ax_bipush (q := 23) dX12_letterOf_21 rfl kb_108 ?_
      refine ax_icmp_ne (tgt := 30) (q := 26) dX12_letterOf_23 (by decide) rfl (fun c3 => ?_) (fun c3 => ?_)
      · refine ax_iload_n (q := 31) (i := 0) dX12_letterOf_30 rfl rfl rfl ?_
        refine ax_bipush (q := 33) dX12_letterOf_31 rfl kb_107 ?_
        refine ax_icmp_ne (tgt := 40) (q := 36) dX12_letterOf_33 (by decide) rfl (fun c4 => ?_) (fun c4 => ?_)
        · refine ax_iload_n (q := 41) (i := 0) dX12_letterOf_40 rfl rfl rfl ?_
          refine ax_bipush (q := 43) dX12_letterOf_41 rfl kb_110 ?_
          refine ax_icmp_ne (tgt := 50) (q := 46) dX12_letterOf_43 (by decide) rfl (fun c5 => ?_) (fun c5 => ?_)
          · refine ax_iload_n (q := 51) (i := 0) dX12_letterOf_50 rfl rfl rfl ?_
            refine ax_bipush (q := 53) dX12_letterOf_51 rfl kb_100 ?_
            refine ax_icmp_ne (tgt := 60) (q := 56) dX12_letterOf_53 (by decide) rfl (fun c6 => ?_) (fun c6 => ?_)
            · refine ax_iconst (q := 61) dX12_letterOf_60 rfl ki_m1 ?_
              exact ax_cv ((if_pos c1).trans ((if_pos c2).trans ((if_pos c3).trans ((if_pos c4).trans ((if_pos c5).trans (if_pos c6)))))) K7
            · refine ax_iconst (q := 57) dX12_letterOf_56 rfl ki_5 ?_
              refine ax_goto (tgt := 61) dX12_letterOf_57 (by decide) ?_
              exact ax_cv ((if_pos c1).trans ((if_pos c2).trans ((if_pos c3).trans ((if_pos c4).trans ((if_pos c5).trans (if_neg c6)))))) K7
          · refine ax_iconst (q := 47) dX12_letterOf_46 rfl ki_4 ?_
            refine ax_goto (tgt := 61) dX12_letterOf_47 (by decide) ?_
            exact ax_cv ((if_pos c1).trans ((if_pos c2).trans ((if_pos c3).trans ((if_pos c4).trans (if_neg c5))))) K7
        · refine ax_iconst (q := 37) dX12_letterOf_36 rfl ki_3 ?_
          refine ax_goto (tgt := 61) dX12_letterOf_37 (by decide) ?_
          exact ax_cv ((if_pos c1).trans ((if_pos c2).trans ((if_pos c3).trans (if_neg c4)))) K7
      · refine ax_iconst (q := 27) dX12_letterOf_26 rfl ki_2 ?_
        refine ax_goto (tgt := 61) dX12_letterOf_27 (by decide) ?_
        exact ax_cv ((if_pos c1).trans ((if_pos c2).trans (if_neg c3))) K7
    · refine ax_iconst (q := 17) dX12_letterOf_16 rfl ki_1 ?_
      refine ax_goto (tgt := 61) dX12_letterOf_17 (by decide) ?_
      exact ax_cv ((if_pos c1).trans (if_neg c2)) K7
  · refine ax_iconst (q := 7) dX12_letterOf_6 rfl ki_0 ?_
    refine ax_goto (tgt := 61) dX12_letterOf_7 (by decide) ?_
    exact ax_cv (if_neg c1) K7
set_option maxRecDepth 20000 in
theorem s_X12_opens_0 {d : Nat} (hd : 1 ≤ d) {Q : Option ax_V → ax_S → Prop} (σ : ax_S)  (k1 : (¬ (σ.1 0 5) = (6 : Int32)) → Q none (ax_ui (ax_ui σ 0 5 ((σ.1 0 5) + (1 : Int32))) 0 3 ((σ.1 0 3) + (1 : Int32)))) (k2 : (¬ (¬ (σ.1 0 5) = (6 : Int32))) → Q none (ax_ui (ax_ui (ax_ui σ 0 4 (if (¬ (σ.1 0 4) = (-1 : Int32)) then (σ.1 0 4) else (σ.1 0 3))) 0 5 ((σ.1 0 5) + (1 : Int32))) 0 3 ((σ.1 0 3) + (1 : Int32)))) : ax_W shM (d + 1) mX12_opens Q 0 [some (ax_r 0)] [] σ := by
  refine ax_aload_n (q := 1) (i := 0) dX12_opens_0 rfl rfl rfl ?_
  refine ax_get (q := 4) (k := 0) (j := 5) (v := ax_i (σ.1 0 5)) dX12_opens_1 rfl shM_0 rfl rfl rfl (by decide) fl_X12_131 ?_
  refine ax_bipush (q := 6) dX12_opens_4 rfl kb_6 ?_
  refine ax_icmp_ne (tgt := 13) (q := 9) dX12_opens_6 (by decide) rfl (fun c1 => ?_) (fun c1 => ?_)
  · refine ax_aload_n (q := 14) (i := 0) dX12_opens_13 rfl rfl rfl ?_
    refine ax_dupr (q := 15) dX12_opens_14 rfl ?_
    refine ax_get (q := 18) (k := 0) (j := 5) (v := ax_i (σ.1 0 5)) dX12_opens_15 rfl shM_0 rfl rfl rfl (by decide) fl_X12_131 ?_
    refine ax_iconst (q := 19) dX12_opens_18 rfl ki_1 ?_
    refine ax_iadd (q := 20) dX12_opens_19 rfl ?_
    refine ax_puti (q := 23) (k := 0) (j := 5) dX12_opens_20 rfl shM_0 rfl rfl (by decide) fl_X12_131 rfl rfl rfl rfl ?_
    refine ax_aload_n (q := 24) (i := 0) dX12_opens_23 rfl rfl rfl ?_
    refine ax_dupr (q := 25) dX12_opens_24 rfl ?_
    refine ax_get (q := 28) (k := 0) (j := 3) (v := ax_i (σ.1 0 3)) dX12_opens_25 rfl shM_0 rfl rfl rfl (by decide) fl_X12_118 ?_
    refine ax_iconst (q := 29) dX12_opens_28 rfl ki_1 ?_
    refine ax_iadd (q := 30) dX12_opens_29 rfl ?_
    refine ax_puti (q := 33) (k := 0) (j := 3) dX12_opens_30 rfl shM_0 rfl rfl (by decide) fl_X12_118 rfl rfl rfl rfl ?_
    exact ax_vret dX12_opens_33 rfl (k1 c1)
  · refine ax_aload_n (q := 10) (i := 0) dX12_opens_9 rfl rfl rfl ?_
    refine ax_callVfv (q := 13) (As := []) (st := []) (σ2 := (ax_ui σ 0 4 (if (¬ (σ.1 0 4) = (-1 : Int32)) then (σ.1 0 4) else (σ.1 0 3)))) dX12_opens_10 rfl lk_X12_134 shM_0 rfl rfl rfl rfl (Nat.le_of_ble_eq_true rfl) (f_X12_bad σ   (d := d) (by omega)) ?_
    refine ax_aload_n (q := 14) (i := 0) dX12_opens_13 rfl rfl rfl ?_
    refine ax_dupr (q := 15) dX12_opens_14 rfl ?_
    refine ax_get (q := 18) (k := 0) (j := 5) (v := ax_i (σ.1 0 5)) dX12_opens_15 rfl shM_0 rfl rfl rfl (by decide) fl_X12_131 ?_
    refine ax_iconst (q := 19) dX12_opens_18 rfl ki_1 ?_
    refine ax_iadd (q := 20) dX12_opens_19 rfl ?_
    refine ax_puti (q := 23) (k := 0) (j := 5) dX12_opens_20 rfl shM_0 rfl rfl (by decide) fl_X12_131 rfl rfl rfl rfl ?_
    refine ax_aload_n (q := 24) (i := 0) dX12_opens_23 rfl rfl rfl ?_
    refine ax_dupr (q := 25) dX12_opens_24 rfl ?_
    refine ax_get (q := 28) (k := 0) (j := 3) (v := ax_i (σ.1 0 3)) dX12_opens_25 rfl shM_0 rfl rfl rfl (by decide) fl_X12_118 ?_
    refine ax_iconst (q := 29) dX12_opens_28 rfl ki_1 ?_
    refine ax_iadd (q := 30) dX12_opens_29 rfl ?_
    refine ax_puti (q := 33) (k := 0) (j := 3) dX12_opens_30 rfl shM_0 rfl rfl (by decide) fl_X12_118 rfl rfl rfl rfl ?_
    exact ax_vret dX12_opens_33 rfl (k2 c1)
set_option maxRecDepth 20000 in
theorem s_X12_closes_0 {d : Nat} (hd : 0 ≤ d) {Q : Option ax_V → ax_S → Prop} (σ : ax_S) (a0 : Int32) (k1 : (¬ (σ.1 0 4) = (-1 : Int32)) → Q none (ax_ui (ax_ui σ 0 3 ((σ.1 0 3) + (1 : Int32))) 0 5 ((σ.1 0 5) - (1 : Int32)))) (k2 : (¬ (¬ (σ.1 0 4) = (-1 : Int32))) → ax_Ct shM d mX12_look [ax_r 0] (fun r u => ∃ x : Int32, r = some (ax_i x) ∧ ax_W shM (d + 1) mX12_closes Q 12 [some (ax_r 0), some (ax_i a0)] (ax_i x :: []) u) σ) : ax_W shM (d + 1) mX12_closes Q 0 [some (ax_r 0), some (ax_i a0)] [] σ := by
  refine ax_aload_n (q := 1) (i := 0) dX12_closes_0 rfl rfl rfl ?_
  refine ax_get (q := 4) (k := 0) (j := 4) (v := ax_i (σ.1 0 4)) dX12_closes_1 rfl shM_0 rfl rfl rfl (by decide) fl_X12_125 ?_
  refine ax_iconst (q := 5) dX12_closes_4 rfl ki_m1 ?_
  refine ax_icmp_ne (tgt := 20) (q := 8) dX12_closes_5 (by decide) rfl (fun c1 => ?_) (fun c1 => ?_)
  · refine ax_aload_n (q := 21) (i := 0) dX12_closes_20 rfl rfl rfl ?_
    refine ax_dupr (q := 22) dX12_closes_21 rfl ?_
    refine ax_get (q := 25) (k := 0) (j := 3) (v := ax_i (σ.1 0 3)) dX12_closes_22 rfl shM_0 rfl rfl rfl (by decide) fl_X12_118 ?_
    refine ax_iconst (q := 26) dX12_closes_25 rfl ki_1 ?_
    refine ax_iadd (q := 27) dX12_closes_26 rfl ?_
    refine ax_puti (q := 30) (k := 0) (j := 3) dX12_closes_27 rfl shM_0 rfl rfl (by decide) fl_X12_118 rfl rfl rfl rfl ?_
    refine ax_aload_n (q := 31) (i := 0) dX12_closes_30 rfl rfl rfl ?_
    refine ax_dupr (q := 32) dX12_closes_31 rfl ?_
    refine ax_get (q := 35) (k := 0) (j := 5) (v := ax_i (σ.1 0 5)) dX12_closes_32 rfl shM_0 rfl rfl rfl (by decide) fl_X12_131 ?_
    refine ax_iconst (q := 36) dX12_closes_35 rfl ki_1 ?_
    refine ax_isub (q := 37) dX12_closes_36 rfl ?_
    refine ax_puti (q := 40) (k := 0) (j := 5) dX12_closes_37 rfl shM_0 rfl rfl (by decide) fl_X12_131 rfl rfl rfl rfl ?_
    exact ax_vret dX12_closes_40 rfl (k1 c1)
  · refine ax_aload_n (q := 9) (i := 0) dX12_closes_8 rfl rfl rfl ?_
    exact ax_callVci (q := 12) (As := []) (st := []) dX12_closes_9 rfl lk_X12_137 shM_0 rfl rfl rfl rfl (Nat.le_of_ble_eq_true rfl) (k2 c1)
set_option maxRecDepth 20000 in
theorem s_X12_closes_12 {d : Nat} (hd : 1 ≤ d) {Q : Option ax_V → ax_S → Prop} (σ : ax_S) (x1 : Int32) (rr : Int32) (k1 : (rr = x1) → Q none (ax_ui (ax_ui σ 0 3 ((σ.1 0 3) + (1 : Int32))) 0 5 ((σ.1 0 5) - (1 : Int32)))) (k2 : (¬ (rr = x1)) → Q none (ax_ui (ax_ui (ax_ui σ 0 4 (if (¬ (σ.1 0 4) = (-1 : Int32)) then (σ.1 0 4) else (σ.1 0 3))) 0 3 ((σ.1 0 3) + (1 : Int32))) 0 5 ((σ.1 0 5) - (1 : Int32)))) : ax_W shM (d + 1) mX12_closes Q 12 [some (ax_r 0), some (ax_i x1)] [ax_i rr] σ := by
  refine ax_iload_n (q := 13) (i := 1) dX12_closes_12 rfl rfl rfl ?_
  refine ax_icmp_eq (tgt := 20) (q := 16) dX12_closes_13 (by decide) rfl (fun c1 => ?_) (fun c1 => ?_)
  · refine ax_aload_n (q := 21) (i := 0) dX12_closes_20 rfl rfl rfl ?_
    refine ax_dupr (q := 22) dX12_closes_21 rfl ?_
    refine ax_get (q := 25) (k := 0) (j := 3) (v := ax_i (σ.1 0 3)) dX12_closes_22 rfl shM_0 rfl rfl rfl (by decide) fl_X12_118 ?_
    refine ax_iconst (q := 26) dX12_closes_25 rfl ki_1 ?_
    refine ax_iadd (q := 27) dX12_closes_26 rfl ?_
    refine ax_puti (q := 30) (k := 0) (j := 3) dX12_closes_27 rfl shM_0 rfl rfl (by decide) fl_X12_118 rfl rfl rfl rfl ?_
    refine ax_aload_n (q := 31) (i := 0) dX12_closes_30 rfl rfl rfl ?_
    refine ax_dupr (q := 32) dX12_closes_31 rfl ?_
    refine ax_get (q := 35) (k := 0) (j := 5) (v := ax_i (σ.1 0 5)) dX12_closes_32 rfl shM_0 rfl rfl rfl (by decide) fl_X12_131 ?_
    refine ax_iconst (q := 36) dX12_closes_35 rfl ki_1 ?_
    refine ax_isub (q := 37) dX12_closes_36 rfl ?_
    refine ax_puti (q := 40) (k := 0) (j := 5) dX12_closes_37 rfl shM_0 rfl rfl (by decide) fl_X12_131 rfl rfl rfl rfl ?_
    exact ax_vret dX12_closes_40 rfl (k1 c1)
  · refine ax_aload_n (q := 17) (i := 0) dX12_closes_16 rfl rfl rfl ?_
    refine ax_callVfv (q := 20) (As := []) (st := []) (σ2 := (ax_ui σ 0 4 (if (¬ (σ.1 0 4) = (-1 : Int32)) then (σ.1 0 4) else (σ.1 0 3)))) dX12_closes_17 rfl lk_X12_134 shM_0 rfl rfl rfl rfl (Nat.le_of_ble_eq_true rfl) (f_X12_bad σ   (d := d) (by omega)) ?_
    refine ax_aload_n (q := 21) (i := 0) dX12_closes_20 rfl rfl rfl ?_
    refine ax_dupr (q := 22) dX12_closes_21 rfl ?_
    refine ax_get (q := 25) (k := 0) (j := 3) (v := ax_i (σ.1 0 3)) dX12_closes_22 rfl shM_0 rfl rfl rfl (by decide) fl_X12_118 ?_
    refine ax_iconst (q := 26) dX12_closes_25 rfl ki_1 ?_
    refine ax_iadd (q := 27) dX12_closes_26 rfl ?_
    refine ax_puti (q := 30) (k := 0) (j := 3) dX12_closes_27 rfl shM_0 rfl rfl (by decide) fl_X12_118 rfl rfl rfl rfl ?_
    refine ax_aload_n (q := 31) (i := 0) dX12_closes_30 rfl rfl rfl ?_
    refine ax_dupr (q := 32) dX12_closes_31 rfl ?_
    refine ax_get (q := 35) (k := 0) (j := 5) (v := ax_i (σ.1 0 5)) dX12_closes_32 rfl shM_0 rfl rfl rfl (by decide) fl_X12_131 ?_
    refine ax_iconst (q := 36) dX12_closes_35 rfl ki_1 ?_
    refine ax_isub (q := 37) dX12_closes_36 rfl ?_
    refine ax_puti (q := 40) (k := 0) (j := 5) dX12_closes_37 rfl shM_0 rfl rfl (by decide) fl_X12_131 rfl rfl rfl rfl ?_
    exact ax_vret dX12_closes_40 rfl (k2 c1)
set_option maxRecDepth 20000 in
theorem s_X12_plainNumber_0 {d : Nat} (hd : 0 ≤ d) {Q : Option ax_V → ax_S → Prop} (σ : ax_S)  (k1 : ax_W shM (d + 1) mX12_plainNumber Q 4 [some (ax_r 0), some (ax_i (0 : Int32)), some (ax_i (0 : Int32))] [] σ) : ax_W shM (d + 1) mX12_plainNumber Q 0 [some (ax_r 0), none, none] [] σ := by
  refine ax_iconst (q := 1) dX12_plainNumber_0 rfl ki_0 ?_
  refine ax_istore_n (q := 2) (i := 1) (lv2 := [some (ax_r 0), some (ax_i (0 : Int32)), none]) dX12_plainNumber_1 rfl rfl (by decide) rfl rfl ?_
  refine ax_iconst (q := 3) dX12_plainNumber_2 rfl ki_0 ?_
  refine ax_istore_n (q := 4) (i := 2) (lv2 := [some (ax_r 0), some (ax_i (0 : Int32)), some (ax_i (0 : Int32))]) dX12_plainNumber_3 rfl rfl (by decide) rfl rfl ?_
  exact k1
set_option maxRecDepth 20000 in
theorem s_X12_plainNumber_4 {d : Nat} (hd : 1 ≤ d) {Q : Option ax_V → ax_S → Prop} (σ : ax_S) (x1 : Int32) (x2 : Int32) (h1 : ((4 : Int32) ≤ x2) → (¬ ((σ.1 0 2) ≤ (σ.1 0 3))) → vp_in (σ.1 0 3) 240) (k2 : ((4 : Int32) ≤ x2) → (¬ ((¬ ((if ((σ.1 0 2) ≤ (σ.1 0 3)) then (-1 : Int32) else (σ.1 1 (Int32.toNatClampNeg (σ.1 0 3)))) < (48 : Int32))) ∧ (¬ ((57 : Int32) < (if ((σ.1 0 2) ≤ (σ.1 0 3)) then (-1 : Int32) else (σ.1 1 (Int32.toNatClampNeg (σ.1 0 3)))))))) → Q (some (ax_i x1)) σ) (k3 : ((4 : Int32) ≤ x2) → ((¬ ((if ((σ.1 0 2) ≤ (σ.1 0 3)) then (-1 : Int32) else (σ.1 1 (Int32.toNatClampNeg (σ.1 0 3)))) < (48 : Int32))) ∧ (¬ ((57 : Int32) < (if ((σ.1 0 2) ≤ (σ.1 0 3)) then (-1 : Int32) else (σ.1 1 (Int32.toNatClampNeg (σ.1 0 3))))))) → Q (some (ax_i x1)) (ax_ui σ 0 4 (if (¬ (σ.1 0 4) = (-1 : Int32)) then (σ.1 0 4) else (σ.1 0 3)))) (h4 : (¬ ((4 : Int32) ≤ x2)) → (¬ ((σ.1 0 2) ≤ (σ.1 0 3))) → vp_in (σ.1 0 3) 240) (h5 : (¬ ((4 : Int32) ≤ x2)) → (¬ ((¬ ((if ((σ.1 0 2) ≤ (σ.1 0 3)) then (-1 : Int32) else (σ.1 1 (Int32.toNatClampNeg (σ.1 0 3)))) < (48 : Int32))) ∧ (¬ ((57 : Int32) < (if ((σ.1 0 2) ≤ (σ.1 0 3)) then (-1 : Int32) else (σ.1 1 (Int32.toNatClampNeg (σ.1 0 3)))))))) → (¬ ((σ.1 0 2) ≤ (σ.1 0 3))) → vp_in (σ.1 0 3) 240) (k6 : (¬ ((4 : Int32) ≤ x2)) → (¬ ((¬ ((if ((σ.1 0 2) ≤ (σ.1 0 3)) then (-1 : Int32) else (σ.1 1 (Int32.toNatClampNeg (σ.1 0 3)))) < (48 : Int32))) ∧ (¬ ((57 : Int32) < (if ((σ.1 0 2) ≤ (σ.1 0 3)) then (-1 : Int32) else (σ.1 1 (Int32.toNatClampNeg (σ.1 0 3)))))))) → Q (some (ax_i x1)) σ) (h7 : (¬ ((4 : Int32) ≤ x2)) → ((¬ ((if ((σ.1 0 2) ≤ (σ.1 0 3)) then (-1 : Int32) else (σ.1 1 (Int32.toNatClampNeg (σ.1 0 3)))) < (48 : Int32))) ∧ (¬ ((57 : Int32) < (if ((σ.1 0 2) ≤ (σ.1 0 3)) then (-1 : Int32) else (σ.1 1 (Int32.toNatClampNeg (σ.1 0 3))))))) → (¬ ((σ.1 0 2) ≤ (σ.1 0 3))) → vp_in (σ.1 0 3) 240) (k8 : (¬ ((4 : Int32) ≤ x2)) → ((¬ ((if ((σ.1 0 2) ≤ (σ.1 0 3)) then (-1 : Int32) else (σ.1 1 (Int32.toNatClampNeg (σ.1 0 3)))) < (48 : Int32))) ∧ (¬ ((57 : Int32) < (if ((σ.1 0 2) ≤ (σ.1 0 3)) then (-1 : Int32) else (σ.1 1 (Int32.toNatClampNeg (σ.1 0 3))))))) → ax_W shM (d + 1) mX12_plainNumber Q 4 [some (ax_r 0), some (ax_i ((((10 : Int32) * x1) + (if ((σ.1 0 2) ≤ (σ.1 0 3)) then (-1 : Int32) else (σ.1 1 (Int32.toNatClampNeg (σ.1 0 3))))) - (48 : Int32))), some (ax_i (x2 + (1 : Int32)))] [] (ax_ui σ 0 3 ((σ.1 0 3) + (1 : Int32)))) : ax_W shM (d + 1) mX12_plainNumber Q 4 [some (ax_r 0), some (ax_i x1), some (ax_i x2)] [] σ := by
  refine ax_iload_n (q := 5) (i := 2) dX12_plainNumber_4 rfl rfl rfl ?_
  refine ax_iconst (q := 6) dX12_plainNumber_5 rfl ki_4 ?_
  refine ax_icmp_ge (tgt := 48) (q := 9) dX12_plainNumber_6 (by decide) rfl (fun c1 => ?_) (fun c1 => ?_)
  · refine ax_aload_n (q := 49) (i := 0) dX12_plainNumber_48 rfl rfl rfl ?_
    refine ax_callVfi (q := 52) (As := []) (st := []) (x := (if ((σ.1 0 2) ≤ (σ.1 0 3)) then (-1 : Int32) else (σ.1 1 (Int32.toNatClampNeg (σ.1 0 3))))) (σ2 := σ) dX12_plainNumber_49 rfl lk_X12_121 shM_0 rfl rfl rfl rfl (Nat.le_of_ble_eq_true rfl) (f_X12_here σ  (h1 c1) (d := d) (by omega)) ?_
    refine ax_callSfi (q := 55) (As := [ax_i (if ((σ.1 0 2) ≤ (σ.1 0 3)) then (-1 : Int32) else (σ.1 1 (Int32.toNatClampNeg (σ.1 0 3))))]) (st := []) (x := (if ((¬ ((if ((σ.1 0 2) ≤ (σ.1 0 3)) then (-1 : Int32) else (σ.1 1 (Int32.toNatClampNeg (σ.1 0 3)))) < (48 : Int32))) ∧ (¬ ((57 : Int32) < (if ((σ.1 0 2) ≤ (σ.1 0 3)) then (-1 : Int32) else (σ.1 1 (Int32.toNatClampNeg (σ.1 0 3))))))) then (1 : Int32) else 0)) (σ2 := σ) dX12_plainNumber_52 rfl lk_X12_140 rfl rfl (Nat.le_of_ble_eq_true rfl) (f_X12_isDigit (sh := shM) σ (if ((σ.1 0 2) ≤ (σ.1 0 3)) then (-1 : Int32) else (σ.1 1 (Int32.toNatClampNeg (σ.1 0 3))))  (d := d) (by omega)) ?_
    refine ax_if_eqB (tgt := 62) (q := 58) dX12_plainNumber_55 (by decide) rfl (fun c2 => ?_) (fun c2 => ?_)
    · refine ax_iload_n (q := 63) (i := 1) dX12_plainNumber_62 rfl rfl rfl ?_
      exact ax_iret dX12_plainNumber_63 rfl rfl (k2 c1 c2)
    · refine ax_aload_n (q := 59) (i := 0) dX12_plainNumber_58 rfl rfl rfl ?_
      refine ax_callVfv (q := 62) (As := []) (st := []) (σ2 := (ax_ui σ 0 4 (if (¬ (σ.1 0 4) = (-1 : Int32)) then (σ.1 0 4) else (σ.1 0 3)))) dX12_plainNumber_59 rfl lk_X12_134 shM_0 rfl rfl rfl rfl (Nat.le_of_ble_eq_true rfl) (f_X12_bad σ   (d := d) (by omega)) ?_
      refine ax_iload_n (q := 63) (i := 1) dX12_plainNumber_62 rfl rfl rfl ?_
      exact ax_iret dX12_plainNumber_63 rfl rfl (k3 c1 c2)
  · refine ax_aload_n (q := 10) (i := 0) dX12_plainNumber_9 rfl rfl rfl ?_
    refine ax_callVfi (q := 13) (As := []) (st := []) (x := (if ((σ.1 0 2) ≤ (σ.1 0 3)) then (-1 : Int32) else (σ.1 1 (Int32.toNatClampNeg (σ.1 0 3))))) (σ2 := σ) dX12_plainNumber_10 rfl lk_X12_121 shM_0 rfl rfl rfl rfl (Nat.le_of_ble_eq_true rfl) (f_X12_here σ  (h4 c1) (d := d) (by omega)) ?_
    refine ax_callSfi (q := 16) (As := [ax_i (if ((σ.1 0 2) ≤ (σ.1 0 3)) then (-1 : Int32) else (σ.1 1 (Int32.toNatClampNeg (σ.1 0 3))))]) (st := []) (x := (if ((¬ ((if ((σ.1 0 2) ≤ (σ.1 0 3)) then (-1 : Int32) else (σ.1 1 (Int32.toNatClampNeg (σ.1 0 3)))) < (48 : Int32))) ∧ (¬ ((57 : Int32) < (if ((σ.1 0 2) ≤ (σ.1 0 3)) then (-1 : Int32) else (σ.1 1 (Int32.toNatClampNeg (σ.1 0 3))))))) then (1 : Int32) else 0)) (σ2 := σ) dX12_plainNumber_13 rfl lk_X12_140 rfl rfl (Nat.le_of_ble_eq_true rfl) (f_X12_isDigit (sh := shM) σ (if ((σ.1 0 2) ≤ (σ.1 0 3)) then (-1 : Int32) else (σ.1 1 (Int32.toNatClampNeg (σ.1 0 3))))  (d := d) (by omega)) ?_
    refine ax_if_eqB (tgt := 48) (q := 19) dX12_plainNumber_16 (by decide) rfl (fun c3 => ?_) (fun c3 => ?_)
    · refine ax_aload_n (q := 49) (i := 0) dX12_plainNumber_48 rfl rfl rfl ?_
      refine ax_callVfi (q := 52) (As := []) (st := []) (x := (if ((σ.1 0 2) ≤ (σ.1 0 3)) then (-1 : Int32) else (σ.1 1 (Int32.toNatClampNeg (σ.1 0 3))))) (σ2 := σ) dX12_plainNumber_49 rfl lk_X12_121 shM_0 rfl rfl rfl rfl (Nat.le_of_ble_eq_true rfl) (f_X12_here σ  (h5 c1 c3) (d := d) (by omega)) ?_
      refine ax_callSfi (q := 55) (As := [ax_i (if ((σ.1 0 2) ≤ (σ.1 0 3)) then (-1 : Int32) else (σ.1 1 (Int32.toNatClampNeg (σ.1 0 3))))]) (st := []) (x := (if ((¬ ((if ((σ.1 0 2) ≤ (σ.1 0 3)) then (-1 : Int32) else (σ.1 1 (Int32.toNatClampNeg (σ.1 0 3)))) < (48 : Int32))) ∧ (¬ ((57 : Int32) < (if ((σ.1 0 2) ≤ (σ.1 0 3)) then (-1 : Int32) else (σ.1 1 (Int32.toNatClampNeg (σ.1 0 3))))))) then (1 : Int32) else 0)) (σ2 := σ) dX12_plainNumber_52 rfl lk_X12_140 rfl rfl (Nat.le_of_ble_eq_true rfl) (f_X12_isDigit (sh := shM) σ (if ((σ.1 0 2) ≤ (σ.1 0 3)) then (-1 : Int32) else (σ.1 1 (Int32.toNatClampNeg (σ.1 0 3))))  (d := d) (by omega)) ?_
      refine ax_if_eqB (tgt := 62) (q := 58) dX12_plainNumber_55 (by decide) rfl (fun c4 => ?_) (fun c4 => ?_)
      · refine ax_iload_n (q := 63) (i := 1) dX12_plainNumber_62 rfl rfl rfl ?_
        exact ax_iret dX12_plainNumber_63 rfl rfl (k6 c1 c3)
      · exact absurd c4 c3
    · refine ax_bipush (q := 21) dX12_plainNumber_19 rfl kb_10 ?_
      refine ax_iload_n (q := 22) (i := 1) dX12_plainNumber_21 rfl rfl rfl ?_
      refine ax_imul (q := 23) dX12_plainNumber_22 rfl ?_
      refine ax_aload_n (q := 24) (i := 0) dX12_plainNumber_23 rfl rfl rfl ?_
      refine ax_callVfi (q := 27) (As := []) (st := [ax_i ((10 : Int32) * x1)]) (x := (if ((σ.1 0 2) ≤ (σ.1 0 3)) then (-1 : Int32) else (σ.1 1 (Int32.toNatClampNeg (σ.1 0 3))))) (σ2 := σ) dX12_plainNumber_24 rfl lk_X12_121 shM_0 rfl rfl rfl rfl (Nat.le_of_ble_eq_true rfl) (f_X12_here σ  (h7 c1 c3) (d := d) (by omega)) ?_
      refine ax_iadd (q := 28) dX12_plainNumber_27 rfl ?_
      refine ax_bipush (q := 30) dX12_plainNumber_28 rfl kb_48 ?_
      refine ax_isub (q := 31) dX12_plainNumber_30 rfl ?_
      refine ax_istore_n (q := 32) (i := 1) (lv2 := [some (ax_r 0), some (ax_i ((((10 : Int32) * x1) + (if ((σ.1 0 2) ≤ (σ.1 0 3)) then (-1 : Int32) else (σ.1 1 (Int32.toNatClampNeg (σ.1 0 3))))) - (48 : Int32))), some (ax_i x2)]) dX12_plainNumber_31 rfl rfl (by decide) rfl rfl ?_
      refine ax_aload_n (q := 33) (i := 0) dX12_plainNumber_32 rfl rfl rfl ?_
      refine ax_dupr (q := 34) dX12_plainNumber_33 rfl ?_
      refine ax_get (q := 37) (k := 0) (j := 3) (v := ax_i (σ.1 0 3)) dX12_plainNumber_34 rfl shM_0 rfl rfl rfl (by decide) fl_X12_118 ?_
      refine ax_iconst (q := 38) dX12_plainNumber_37 rfl ki_1 ?_
      refine ax_iadd (q := 39) dX12_plainNumber_38 rfl ?_
      refine ax_puti (q := 42) (k := 0) (j := 3) dX12_plainNumber_39 rfl shM_0 rfl rfl (by decide) fl_X12_118 rfl rfl rfl rfl ?_
      refine ax_iincK (q := 45) (lv2 := [some (ax_r 0), some (ax_i ((((10 : Int32) * x1) + (if ((σ.1 0 2) ≤ (σ.1 0 3)) then (-1 : Int32) else (σ.1 1 (Int32.toNatClampNeg (σ.1 0 3))))) - (48 : Int32))), some (ax_i (x2 + (1 : Int32)))]) dX12_plainNumber_42 rfl rfl ki_1 (by decide) rfl rfl ?_
      refine ax_goto (tgt := 4) dX12_plainNumber_45 (by decide) ?_
      exact (k8 c1 c3)
set_option maxRecDepth 20000 in
theorem s_X12_term_0 {d : Nat} (hd : 0 ≤ d) {Q : Option ax_V → ax_S → Prop} (σ : ax_S)  (k1 : ax_Ct shM d mX12_atom [ax_r 0] (fun r u => r = none ∧ ax_W shM (d + 1) mX12_term Q 4 [some (ax_r 0), none] [] u) σ) : ax_W shM (d + 1) mX12_term Q 0 [some (ax_r 0), none] [] σ := by
  refine ax_aload_n (q := 1) (i := 0) dX12_term_0 rfl rfl rfl ?_
  exact ax_callVcv (q := 4) (As := []) (st := []) dX12_term_1 rfl lk_X12_165 shM_0 rfl rfl rfl rfl (Nat.le_of_ble_eq_true rfl) k1
set_option maxRecDepth 20000 in
theorem s_X12_term_4 {d : Nat} (hd : 0 ≤ d) {Q : Option ax_V → ax_S → Prop} (σ : ax_S)  (k1 : (¬ (σ.1 0 4) = (-1 : Int32)) → ax_W shM (d + 1) mX12_term Q 21 [some (ax_r 0), some (ax_i (-1 : Int32))] [] σ) (k2 : (¬ (¬ (σ.1 0 4) = (-1 : Int32))) → ax_Ct shM d mX12_look [ax_r 0] (fun r u => ∃ x : Int32, r = some (ax_i x) ∧ ax_W shM (d + 1) mX12_term Q 16 [some (ax_r 0), none] (ax_i x :: []) u) σ) : ax_W shM (d + 1) mX12_term Q 4 [some (ax_r 0), none] [] σ := by
  refine ax_aload_n (q := 5) (i := 0) dX12_term_4 rfl rfl rfl ?_
  refine ax_get (q := 8) (k := 0) (j := 4) (v := ax_i (σ.1 0 4)) dX12_term_5 rfl shM_0 rfl rfl rfl (by decide) fl_X12_125 ?_
  refine ax_iconst (q := 9) dX12_term_8 rfl ki_m1 ?_
  refine ax_icmp_ne (tgt := 19) (q := 12) dX12_term_9 (by decide) rfl (fun c1 => ?_) (fun c1 => ?_)
  · refine ax_iconst (q := 20) dX12_term_19 rfl ki_m1 ?_
    refine ax_istore_n (q := 21) (i := 1) (lv2 := [some (ax_r 0), some (ax_i (-1 : Int32))]) dX12_term_20 rfl rfl (by decide) rfl rfl ?_
    exact (k1 c1)
  · refine ax_aload_n (q := 13) (i := 0) dX12_term_12 rfl rfl rfl ?_
    exact ax_callVci (q := 16) (As := []) (st := []) dX12_term_13 rfl lk_X12_137 shM_0 rfl rfl rfl rfl (Nat.le_of_ble_eq_true rfl) (k2 c1)
set_option maxRecDepth 20000 in
theorem s_X12_term_16 {d : Nat} (hd : 0 ≤ d) {Q : Option ax_V → ax_S → Prop} (σ : ax_S) (rr : Int32) (k1 : ax_W shM (d + 1) mX12_term Q 21 [some (ax_r 0), some (ax_i rr)] [] σ) : ax_W shM (d + 1) mX12_term Q 16 [some (ax_r 0), none] [ax_i rr] σ := by
  refine ax_goto (tgt := 20) dX12_term_16 (by decide) ?_
  refine ax_istore_n (q := 21) (i := 1) (lv2 := [some (ax_r 0), some (ax_i rr)]) dX12_term_20 rfl rfl (by decide) rfl rfl ?_
  exact k1
set_option maxRecDepth 20000 in
theorem s_X12_term_21 {d : Nat} (hd : 0 ≤ d) {Q : Option ax_V → ax_S → Prop} (σ : ax_S) (x1 : Int32) (k1 : (x1 = (42 : Int32)) → ax_Ct shM d mX12_atom [ax_r 0] (fun r u => r = none ∧ ax_W shM (d + 1) mX12_term Q 47 [some (ax_r 0), some (ax_i x1)] [] u) (ax_ui σ 0 3 ((σ.1 0 3) + (1 : Int32)))) (k2 : (¬ (x1 = (42 : Int32))) → (¬ x1 = (47 : Int32)) → Q none σ) (k3 : (¬ (x1 = (42 : Int32))) → (¬ (¬ x1 = (47 : Int32))) → ax_Ct shM d mX12_atom [ax_r 0] (fun r u => r = none ∧ ax_W shM (d + 1) mX12_term Q 47 [some (ax_r 0), some (ax_i x1)] [] u) (ax_ui σ 0 3 ((σ.1 0 3) + (1 : Int32)))) : ax_W shM (d + 1) mX12_term Q 21 [some (ax_r 0), some (ax_i x1)] [] σ := by
  refine ax_iload_n (q := 22) (i := 1) dX12_term_21 rfl rfl rfl ?_
  refine ax_bipush (q := 24) dX12_term_22 rfl kb_42 ?_
  refine ax_icmp_eq (tgt := 33) (q := 27) dX12_term_24 (by decide) rfl (fun c1 => ?_) (fun c1 => ?_)
  · refine ax_aload_n (q := 34) (i := 0) dX12_term_33 rfl rfl rfl ?_
    refine ax_dupr (q := 35) dX12_term_34 rfl ?_
    refine ax_get (q := 38) (k := 0) (j := 3) (v := ax_i (σ.1 0 3)) dX12_term_35 rfl shM_0 rfl rfl rfl (by decide) fl_X12_118 ?_
    refine ax_iconst (q := 39) dX12_term_38 rfl ki_1 ?_
    refine ax_iadd (q := 40) dX12_term_39 rfl ?_
    refine ax_puti (q := 43) (k := 0) (j := 3) dX12_term_40 rfl shM_0 rfl rfl (by decide) fl_X12_118 rfl rfl rfl rfl ?_
    refine ax_aload_n (q := 44) (i := 0) dX12_term_43 rfl rfl rfl ?_
    exact ax_callVcv (q := 47) (As := []) (st := []) dX12_term_44 rfl lk_X12_165 shM_0 rfl rfl rfl rfl (Nat.le_of_ble_eq_true rfl) (k1 c1)
  · refine ax_iload_n (q := 28) (i := 1) dX12_term_27 rfl rfl rfl ?_
    refine ax_bipush (q := 30) dX12_term_28 rfl kb_47 ?_
    refine ax_icmp_ne (tgt := 83) (q := 33) dX12_term_30 (by decide) rfl (fun c2 => ?_) (fun c2 => ?_)
    · exact ax_vret dX12_term_83 rfl (k2 c1 c2)
    · refine ax_aload_n (q := 34) (i := 0) dX12_term_33 rfl rfl rfl ?_
      refine ax_dupr (q := 35) dX12_term_34 rfl ?_
      refine ax_get (q := 38) (k := 0) (j := 3) (v := ax_i (σ.1 0 3)) dX12_term_35 rfl shM_0 rfl rfl rfl (by decide) fl_X12_118 ?_
      refine ax_iconst (q := 39) dX12_term_38 rfl ki_1 ?_
      refine ax_iadd (q := 40) dX12_term_39 rfl ?_
      refine ax_puti (q := 43) (k := 0) (j := 3) dX12_term_40 rfl shM_0 rfl rfl (by decide) fl_X12_118 rfl rfl rfl rfl ?_
      refine ax_aload_n (q := 44) (i := 0) dX12_term_43 rfl rfl rfl ?_
      exact ax_callVcv (q := 47) (As := []) (st := []) dX12_term_44 rfl lk_X12_165 shM_0 rfl rfl rfl rfl (Nat.le_of_ble_eq_true rfl) (k3 c1 c2)
set_option maxRecDepth 20000 in
theorem s_X12_term_47 {d : Nat} (hd : 1 ≤ d) {Q : Option ax_V → ax_S → Prop} (σ : ax_S) (x1 : Int32) (h1 : vp_in (σ.1 0 14) 5) (h2 : vp_in (((520 : Int32) * (σ.1 0 14)) + (σ.1 4 (Int32.toNatClampNeg (σ.1 0 14)))) 2600) (k3 : (¬ (σ.1 0 4) = (-1 : Int32)) → ax_W shM (d + 1) mX12_term Q 21 [some (ax_r 0), some (ax_i (-1 : Int32))] [] (ax_ui (ax_ui (ax_ui σ 2 (Int32.toNatClampNeg (((520 : Int32) * (σ.1 0 14)) + (σ.1 4 (Int32.toNatClampNeg (σ.1 0 14))))) (if (¬ x1 = (42 : Int32)) then (5 : Int32) else (4 : Int32))) 3 (Int32.toNatClampNeg (((520 : Int32) * (σ.1 0 14)) + (σ.1 4 (Int32.toNatClampNeg (σ.1 0 14))))) (0 : Int32)) 4 (Int32.toNatClampNeg (σ.1 0 14)) ((σ.1 4 (Int32.toNatClampNeg (σ.1 0 14))) + (1 : Int32)))) (k4 : (¬ (¬ (σ.1 0 4) = (-1 : Int32))) → ax_Ct shM d mX12_look [ax_r 0] (fun r u => ∃ x : Int32, r = some (ax_i x) ∧ ax_W shM (d + 1) mX12_term Q 75 [some (ax_r 0), none] (ax_i x :: []) u) (ax_ui (ax_ui (ax_ui σ 2 (Int32.toNatClampNeg (((520 : Int32) * (σ.1 0 14)) + (σ.1 4 (Int32.toNatClampNeg (σ.1 0 14))))) (if (¬ x1 = (42 : Int32)) then (5 : Int32) else (4 : Int32))) 3 (Int32.toNatClampNeg (((520 : Int32) * (σ.1 0 14)) + (σ.1 4 (Int32.toNatClampNeg (σ.1 0 14))))) (0 : Int32)) 4 (Int32.toNatClampNeg (σ.1 0 14)) ((σ.1 4 (Int32.toNatClampNeg (σ.1 0 14))) + (1 : Int32)))) : ax_W shM (d + 1) mX12_term Q 47 [some (ax_r 0), some (ax_i x1)] [] σ := by
  refine ax_aload_n (q := 48) (i := 0) dX12_term_47 rfl rfl rfl ?_
  refine ax_iload_n (q := 49) (i := 1) dX12_term_48 rfl rfl rfl ?_
  refine ax_bipush (q := 51) dX12_term_49 rfl kb_42 ?_
  have K2 : ax_W shM (d + 1) mX12_term Q 59 [some (ax_r 0), some (ax_i x1)] [ax_i (if (¬ x1 = (42 : Int32)) then (5 : Int32) else (4 : Int32)), ax_r 0] σ := by
    refine ax_iconst (q := 60) dX12_term_59 rfl ki_0 ?_
    refine ax_callVfv (q := 63) (As := [ax_i (if (¬ x1 = (42 : Int32)) then (5 : Int32) else (4 : Int32)), ax_i (0 : Int32)]) (st := []) (σ2 := (ax_ui (ax_ui (ax_ui σ 2 (Int32.toNatClampNeg (((520 : Int32) * (σ.1 0 14)) + (σ.1 4 (Int32.toNatClampNeg (σ.1 0 14))))) (if (¬ x1 = (42 : Int32)) then (5 : Int32) else (4 : Int32))) 3 (Int32.toNatClampNeg (((520 : Int32) * (σ.1 0 14)) + (σ.1 4 (Int32.toNatClampNeg (σ.1 0 14))))) (0 : Int32)) 4 (Int32.toNatClampNeg (σ.1 0 14)) ((σ.1 4 (Int32.toNatClampNeg (σ.1 0 14))) + (1 : Int32)))) dX12_term_60 rfl lk_X12_147 shM_0 rfl rfl rfl rfl (Nat.le_of_ble_eq_true rfl) (f_X12_put σ (if (¬ x1 = (42 : Int32)) then (5 : Int32) else (4 : Int32)) (0 : Int32) h1 h2 (d := d) (by omega)) ?_
    refine ax_aload_n (q := 64) (i := 0) dX12_term_63 rfl rfl rfl ?_
    refine ax_get (q := 67) (k := 0) (j := 4) (v := ax_i (σ.1 0 4)) dX12_term_64 rfl shM_0 rfl rfl rfl (by decide) fl_X12_125 ?_
    refine ax_iconst (q := 68) dX12_term_67 rfl ki_m1 ?_
    refine ax_icmp_ne (tgt := 78) (q := 71) dX12_term_68 (by decide) rfl (fun c3 => ?_) (fun c3 => ?_)
    · refine ax_iconst (q := 79) dX12_term_78 rfl ki_m1 ?_
      refine ax_istore_n (q := 80) (i := 1) (lv2 := [some (ax_r 0), some (ax_i (-1 : Int32))]) dX12_term_79 rfl rfl (by decide) rfl rfl ?_
      refine ax_goto (tgt := 21) dX12_term_80 (by decide) ?_
      exact (k3 c3)
    · refine ax_aload_n (q := 72) (i := 0) dX12_term_71 rfl rfl rfl ?_
      refine ax_fg (lv2 := [some (ax_r 0), none]) ⟨rfl, trivial⟩ ?_
      exact ax_callVci (q := 75) (As := []) (st := []) dX12_term_72 rfl lk_X12_137 shM_0 rfl rfl rfl rfl (Nat.le_of_ble_eq_true rfl) (k4 c3)
  refine ax_icmp_ne (tgt := 58) (q := 54) dX12_term_51 (by decide) rfl (fun c1 => ?_) (fun c1 => ?_)
  · refine ax_iconst (q := 59) dX12_term_58 rfl ki_5 ?_
    exact ax_cv (if_pos c1) K2
  · refine ax_iconst (q := 55) dX12_term_54 rfl ki_4 ?_
    refine ax_goto (tgt := 59) dX12_term_55 (by decide) ?_
    exact ax_cv (if_neg c1) K2
set_option maxRecDepth 20000 in
theorem s_X12_term_75 {d : Nat} (hd : 0 ≤ d) {Q : Option ax_V → ax_S → Prop} (σ : ax_S) (rr : Int32) (k1 : ax_W shM (d + 1) mX12_term Q 21 [some (ax_r 0), some (ax_i rr)] [] σ) : ax_W shM (d + 1) mX12_term Q 75 [some (ax_r 0), none] [ax_i rr] σ := by
  refine ax_goto (tgt := 79) dX12_term_75 (by decide) ?_
  refine ax_istore_n (q := 80) (i := 1) (lv2 := [some (ax_r 0), some (ax_i rr)]) dX12_term_79 rfl rfl (by decide) rfl rfl ?_
  refine ax_goto (tgt := 21) dX12_term_80 (by decide) ?_
  exact k1
set_option maxRecDepth 20000 in
theorem s_X12_sum_0 {d : Nat} (hd : 0 ≤ d) {Q : Option ax_V → ax_S → Prop} (σ : ax_S)  (k1 : ax_Ct shM d mX12_term [ax_r 0] (fun r u => r = none ∧ ax_W shM (d + 1) mX12_sum Q 4 [some (ax_r 0), none] [] u) σ) : ax_W shM (d + 1) mX12_sum Q 0 [some (ax_r 0), none] [] σ := by
  refine ax_aload_n (q := 1) (i := 0) dX12_sum_0 rfl rfl rfl ?_
  exact ax_callVcv (q := 4) (As := []) (st := []) dX12_sum_1 rfl lk_X12_168 shM_0 rfl rfl rfl rfl (Nat.le_of_ble_eq_true rfl) k1
set_option maxRecDepth 20000 in
theorem s_X12_sum_4 {d : Nat} (hd : 0 ≤ d) {Q : Option ax_V → ax_S → Prop} (σ : ax_S)  (k1 : (¬ (σ.1 0 4) = (-1 : Int32)) → ax_W shM (d + 1) mX12_sum Q 21 [some (ax_r 0), some (ax_i (-1 : Int32))] [] σ) (k2 : (¬ (¬ (σ.1 0 4) = (-1 : Int32))) → ax_Ct shM d mX12_look [ax_r 0] (fun r u => ∃ x : Int32, r = some (ax_i x) ∧ ax_W shM (d + 1) mX12_sum Q 16 [some (ax_r 0), none] (ax_i x :: []) u) σ) : ax_W shM (d + 1) mX12_sum Q 4 [some (ax_r 0), none] [] σ := by
  refine ax_aload_n (q := 5) (i := 0) dX12_sum_4 rfl rfl rfl ?_
  refine ax_get (q := 8) (k := 0) (j := 4) (v := ax_i (σ.1 0 4)) dX12_sum_5 rfl shM_0 rfl rfl rfl (by decide) fl_X12_125 ?_
  refine ax_iconst (q := 9) dX12_sum_8 rfl ki_m1 ?_
  refine ax_icmp_ne (tgt := 19) (q := 12) dX12_sum_9 (by decide) rfl (fun c1 => ?_) (fun c1 => ?_)
  · refine ax_iconst (q := 20) dX12_sum_19 rfl ki_m1 ?_
    refine ax_istore_n (q := 21) (i := 1) (lv2 := [some (ax_r 0), some (ax_i (-1 : Int32))]) dX12_sum_20 rfl rfl (by decide) rfl rfl ?_
    exact (k1 c1)
  · refine ax_aload_n (q := 13) (i := 0) dX12_sum_12 rfl rfl rfl ?_
    exact ax_callVci (q := 16) (As := []) (st := []) dX12_sum_13 rfl lk_X12_137 shM_0 rfl rfl rfl rfl (Nat.le_of_ble_eq_true rfl) (k2 c1)
set_option maxRecDepth 20000 in
theorem s_X12_sum_16 {d : Nat} (hd : 0 ≤ d) {Q : Option ax_V → ax_S → Prop} (σ : ax_S) (rr : Int32) (k1 : ax_W shM (d + 1) mX12_sum Q 21 [some (ax_r 0), some (ax_i rr)] [] σ) : ax_W shM (d + 1) mX12_sum Q 16 [some (ax_r 0), none] [ax_i rr] σ := by
  refine ax_goto (tgt := 20) dX12_sum_16 (by decide) ?_
  refine ax_istore_n (q := 21) (i := 1) (lv2 := [some (ax_r 0), some (ax_i rr)]) dX12_sum_20 rfl rfl (by decide) rfl rfl ?_
  exact k1
set_option maxRecDepth 20000 in
theorem s_X12_sum_21 {d : Nat} (hd : 0 ≤ d) {Q : Option ax_V → ax_S → Prop} (σ : ax_S) (x1 : Int32) (k1 : (x1 = (43 : Int32)) → ax_Ct shM d mX12_term [ax_r 0] (fun r u => r = none ∧ ax_W shM (d + 1) mX12_sum Q 47 [some (ax_r 0), some (ax_i x1)] [] u) (ax_ui σ 0 3 ((σ.1 0 3) + (1 : Int32)))) (k2 : (¬ (x1 = (43 : Int32))) → (¬ x1 = (45 : Int32)) → Q none σ) (k3 : (¬ (x1 = (43 : Int32))) → (¬ (¬ x1 = (45 : Int32))) → ax_Ct shM d mX12_term [ax_r 0] (fun r u => r = none ∧ ax_W shM (d + 1) mX12_sum Q 47 [some (ax_r 0), some (ax_i x1)] [] u) (ax_ui σ 0 3 ((σ.1 0 3) + (1 : Int32)))) : ax_W shM (d + 1) mX12_sum Q 21 [some (ax_r 0), some (ax_i x1)] [] σ := by
  refine ax_iload_n (q := 22) (i := 1) dX12_sum_21 rfl rfl rfl ?_
  refine ax_bipush (q := 24) dX12_sum_22 rfl kb_43 ?_
  refine ax_icmp_eq (tgt := 33) (q := 27) dX12_sum_24 (by decide) rfl (fun c1 => ?_) (fun c1 => ?_)
  · refine ax_aload_n (q := 34) (i := 0) dX12_sum_33 rfl rfl rfl ?_
    refine ax_dupr (q := 35) dX12_sum_34 rfl ?_
    refine ax_get (q := 38) (k := 0) (j := 3) (v := ax_i (σ.1 0 3)) dX12_sum_35 rfl shM_0 rfl rfl rfl (by decide) fl_X12_118 ?_
    refine ax_iconst (q := 39) dX12_sum_38 rfl ki_1 ?_
    refine ax_iadd (q := 40) dX12_sum_39 rfl ?_
    refine ax_puti (q := 43) (k := 0) (j := 3) dX12_sum_40 rfl shM_0 rfl rfl (by decide) fl_X12_118 rfl rfl rfl rfl ?_
    refine ax_aload_n (q := 44) (i := 0) dX12_sum_43 rfl rfl rfl ?_
    exact ax_callVcv (q := 47) (As := []) (st := []) dX12_sum_44 rfl lk_X12_168 shM_0 rfl rfl rfl rfl (Nat.le_of_ble_eq_true rfl) (k1 c1)
  · refine ax_iload_n (q := 28) (i := 1) dX12_sum_27 rfl rfl rfl ?_
    refine ax_bipush (q := 30) dX12_sum_28 rfl kb_45 ?_
    refine ax_icmp_ne (tgt := 83) (q := 33) dX12_sum_30 (by decide) rfl (fun c2 => ?_) (fun c2 => ?_)
    · exact ax_vret dX12_sum_83 rfl (k2 c1 c2)
    · refine ax_aload_n (q := 34) (i := 0) dX12_sum_33 rfl rfl rfl ?_
      refine ax_dupr (q := 35) dX12_sum_34 rfl ?_
      refine ax_get (q := 38) (k := 0) (j := 3) (v := ax_i (σ.1 0 3)) dX12_sum_35 rfl shM_0 rfl rfl rfl (by decide) fl_X12_118 ?_
      refine ax_iconst (q := 39) dX12_sum_38 rfl ki_1 ?_
      refine ax_iadd (q := 40) dX12_sum_39 rfl ?_
      refine ax_puti (q := 43) (k := 0) (j := 3) dX12_sum_40 rfl shM_0 rfl rfl (by decide) fl_X12_118 rfl rfl rfl rfl ?_
      refine ax_aload_n (q := 44) (i := 0) dX12_sum_43 rfl rfl rfl ?_
      exact ax_callVcv (q := 47) (As := []) (st := []) dX12_sum_44 rfl lk_X12_168 shM_0 rfl rfl rfl rfl (Nat.le_of_ble_eq_true rfl) (k3 c1 c2)
set_option maxRecDepth 20000 in
theorem s_X12_sum_47 {d : Nat} (hd : 1 ≤ d) {Q : Option ax_V → ax_S → Prop} (σ : ax_S) (x1 : Int32) (h1 : vp_in (σ.1 0 14) 5) (h2 : vp_in (((520 : Int32) * (σ.1 0 14)) + (σ.1 4 (Int32.toNatClampNeg (σ.1 0 14)))) 2600) (k3 : (¬ (σ.1 0 4) = (-1 : Int32)) → ax_W shM (d + 1) mX12_sum Q 21 [some (ax_r 0), some (ax_i (-1 : Int32))] [] (ax_ui (ax_ui (ax_ui σ 2 (Int32.toNatClampNeg (((520 : Int32) * (σ.1 0 14)) + (σ.1 4 (Int32.toNatClampNeg (σ.1 0 14))))) (if (¬ x1 = (43 : Int32)) then (3 : Int32) else (2 : Int32))) 3 (Int32.toNatClampNeg (((520 : Int32) * (σ.1 0 14)) + (σ.1 4 (Int32.toNatClampNeg (σ.1 0 14))))) (0 : Int32)) 4 (Int32.toNatClampNeg (σ.1 0 14)) ((σ.1 4 (Int32.toNatClampNeg (σ.1 0 14))) + (1 : Int32)))) (k4 : (¬ (¬ (σ.1 0 4) = (-1 : Int32))) → ax_Ct shM d mX12_look [ax_r 0] (fun r u => ∃ x : Int32, r = some (ax_i x) ∧ ax_W shM (d + 1) mX12_sum Q 75 [some (ax_r 0), none] (ax_i x :: []) u) (ax_ui (ax_ui (ax_ui σ 2 (Int32.toNatClampNeg (((520 : Int32) * (σ.1 0 14)) + (σ.1 4 (Int32.toNatClampNeg (σ.1 0 14))))) (if (¬ x1 = (43 : Int32)) then (3 : Int32) else (2 : Int32))) 3 (Int32.toNatClampNeg (((520 : Int32) * (σ.1 0 14)) + (σ.1 4 (Int32.toNatClampNeg (σ.1 0 14))))) (0 : Int32)) 4 (Int32.toNatClampNeg (σ.1 0 14)) ((σ.1 4 (Int32.toNatClampNeg (σ.1 0 14))) + (1 : Int32)))) : ax_W shM (d + 1) mX12_sum Q 47 [some (ax_r 0), some (ax_i x1)] [] σ := by
  refine ax_aload_n (q := 48) (i := 0) dX12_sum_47 rfl rfl rfl ?_
  refine ax_iload_n (q := 49) (i := 1) dX12_sum_48 rfl rfl rfl ?_
  refine ax_bipush (q := 51) dX12_sum_49 rfl kb_43 ?_
  have K2 : ax_W shM (d + 1) mX12_sum Q 59 [some (ax_r 0), some (ax_i x1)] [ax_i (if (¬ x1 = (43 : Int32)) then (3 : Int32) else (2 : Int32)), ax_r 0] σ := by
    refine ax_iconst (q := 60) dX12_sum_59 rfl ki_0 ?_
    refine ax_callVfv (q := 63) (As := [ax_i (if (¬ x1 = (43 : Int32)) then (3 : Int32) else (2 : Int32)), ax_i (0 : Int32)]) (st := []) (σ2 := (ax_ui (ax_ui (ax_ui σ 2 (Int32.toNatClampNeg (((520 : Int32) * (σ.1 0 14)) + (σ.1 4 (Int32.toNatClampNeg (σ.1 0 14))))) (if (¬ x1 = (43 : Int32)) then (3 : Int32) else (2 : Int32))) 3 (Int32.toNatClampNeg (((520 : Int32) * (σ.1 0 14)) + (σ.1 4 (Int32.toNatClampNeg (σ.1 0 14))))) (0 : Int32)) 4 (Int32.toNatClampNeg (σ.1 0 14)) ((σ.1 4 (Int32.toNatClampNeg (σ.1 0 14))) + (1 : Int32)))) dX12_sum_60 rfl lk_X12_147 shM_0 rfl rfl rfl rfl (Nat.le_of_ble_eq_true rfl) (f_X12_put σ (if (¬ x1 = (43 : Int32)) then (3 : Int32) else (2 : Int32)) (0 : Int32) h1 h2 (d := d) (by omega)) ?_
    refine ax_aload_n (q := 64) (i := 0) dX12_sum_63 rfl rfl rfl ?_
    refine ax_get (q := 67) (k := 0) (j := 4) (v := ax_i (σ.1 0 4)) dX12_sum_64 rfl shM_0 rfl rfl rfl (by decide) fl_X12_125 ?_
    refine ax_iconst (q := 68) dX12_sum_67 rfl ki_m1 ?_
    refine ax_icmp_ne (tgt := 78) (q := 71) dX12_sum_68 (by decide) rfl (fun c3 => ?_) (fun c3 => ?_)
    · refine ax_iconst (q := 79) dX12_sum_78 rfl ki_m1 ?_
      refine ax_istore_n (q := 80) (i := 1) (lv2 := [some (ax_r 0), some (ax_i (-1 : Int32))]) dX12_sum_79 rfl rfl (by decide) rfl rfl ?_
      refine ax_goto (tgt := 21) dX12_sum_80 (by decide) ?_
      exact (k3 c3)
    · refine ax_aload_n (q := 72) (i := 0) dX12_sum_71 rfl rfl rfl ?_
      refine ax_fg (lv2 := [some (ax_r 0), none]) ⟨rfl, trivial⟩ ?_
      exact ax_callVci (q := 75) (As := []) (st := []) dX12_sum_72 rfl lk_X12_137 shM_0 rfl rfl rfl rfl (Nat.le_of_ble_eq_true rfl) (k4 c3)
  refine ax_icmp_ne (tgt := 58) (q := 54) dX12_sum_51 (by decide) rfl (fun c1 => ?_) (fun c1 => ?_)
  · refine ax_iconst (q := 59) dX12_sum_58 rfl ki_3 ?_
    exact ax_cv (if_pos c1) K2
  · refine ax_iconst (q := 55) dX12_sum_54 rfl ki_2 ?_
    refine ax_goto (tgt := 59) dX12_sum_55 (by decide) ?_
    exact ax_cv (if_neg c1) K2
set_option maxRecDepth 20000 in
theorem s_X12_sum_75 {d : Nat} (hd : 0 ≤ d) {Q : Option ax_V → ax_S → Prop} (σ : ax_S) (rr : Int32) (k1 : ax_W shM (d + 1) mX12_sum Q 21 [some (ax_r 0), some (ax_i rr)] [] σ) : ax_W shM (d + 1) mX12_sum Q 75 [some (ax_r 0), none] [ax_i rr] σ := by
  refine ax_goto (tgt := 79) dX12_sum_75 (by decide) ?_
  refine ax_istore_n (q := 80) (i := 1) (lv2 := [some (ax_r 0), some (ax_i rr)]) dX12_sum_79 rfl rfl (by decide) rfl rfl ?_
  refine ax_goto (tgt := 21) dX12_sum_80 (by decide) ?_
  exact k1
set_option maxRecDepth 20000 in
theorem s_X12_atom_0 {d : Nat} (hd : 0 ≤ d) {Q : Option ax_V → ax_S → Prop} (σ : ax_S)  (k1 : ax_Ct shM d mX12_look [ax_r 0] (fun r u => ∃ x : Int32, r = some (ax_i x) ∧ ax_W shM (d + 1) mX12_atom Q 4 [some (ax_r 0), none] (ax_i x :: []) u) σ) : ax_W shM (d + 1) mX12_atom Q 0 [some (ax_r 0), none] [] σ := by
  refine ax_aload_n (q := 1) (i := 0) dX12_atom_0 rfl rfl rfl ?_
  exact ax_callVci (q := 4) (As := []) (st := []) dX12_atom_1 rfl lk_X12_137 shM_0 rfl rfl rfl rfl (Nat.le_of_ble_eq_true rfl) k1
set_option maxRecDepth 20000 in
theorem s_X12_atom_4 {d : Nat} (hd : 1 ≤ d) {Q : Option ax_V → ax_S → Prop} (σ : ax_S) (rr : Int32) (k1 : (¬ ((¬ (rr < (48 : Int32))) ∧ (¬ ((57 : Int32) < rr)))) → ((v_X12_letterOf rr) = (-1 : Int32)) → (¬ rr = (91 : Int32)) → Q none (ax_ui σ 0 4 (if (¬ (σ.1 0 4) = (-1 : Int32)) then (σ.1 0 4) else (σ.1 0 3)))) (k2 : (¬ ((¬ (rr < (48 : Int32))) ∧ (¬ ((57 : Int32) < rr)))) → ((v_X12_letterOf rr) = (-1 : Int32)) → (¬ (¬ rr = (91 : Int32))) → ax_Ct shM d mX12_opens [ax_r 0] (fun r u => r = none ∧ ax_W shM (d + 1) mX12_atom Q 64 [some (ax_r 0), none] [] u) σ) (h3 : (¬ ((¬ (rr < (48 : Int32))) ∧ (¬ ((57 : Int32) < rr)))) → (¬ ((v_X12_letterOf rr) = (-1 : Int32))) → vp_in (σ.1 0 14) 5) (h4 : (¬ ((¬ (rr < (48 : Int32))) ∧ (¬ ((57 : Int32) < rr)))) → (¬ ((v_X12_letterOf rr) = (-1 : Int32))) → vp_in (((520 : Int32) * (σ.1 0 14)) + (σ.1 4 (Int32.toNatClampNeg (σ.1 0 14)))) 2600) (k5 : (¬ ((¬ (rr < (48 : Int32))) ∧ (¬ ((57 : Int32) < rr)))) → (¬ ((v_X12_letterOf rr) = (-1 : Int32))) → Q none (ax_ui (ax_ui (ax_ui (ax_ui σ 0 3 ((σ.1 0 3) + (1 : Int32))) 2 (Int32.toNatClampNeg (((520 : Int32) * (σ.1 0 14)) + (σ.1 4 (Int32.toNatClampNeg (σ.1 0 14))))) (1 : Int32)) 3 (Int32.toNatClampNeg (((520 : Int32) * (σ.1 0 14)) + (σ.1 4 (Int32.toNatClampNeg (σ.1 0 14))))) (v_X12_letterOf rr)) 4 (Int32.toNatClampNeg (σ.1 0 14)) ((σ.1 4 (Int32.toNatClampNeg (σ.1 0 14))) + (1 : Int32)))) (k6 : ((¬ (rr < (48 : Int32))) ∧ (¬ ((57 : Int32) < rr))) → ax_Ct shM d mX12_plainNumber [ax_r 0] (fun r u => ∃ x : Int32, r = some (ax_i x) ∧ ax_W shM (d + 1) mX12_atom Q 18 [none, none] (ax_i x :: [ax_i (0 : Int32), ax_r 0]) u) σ) : ax_W shM (d + 1) mX12_atom Q 4 [some (ax_r 0), none] [ax_i rr] σ := by
  refine ax_istore_n (q := 5) (i := 1) (lv2 := [some (ax_r 0), some (ax_i rr)]) dX12_atom_4 rfl rfl (by decide) rfl rfl ?_
  refine ax_iload_n (q := 6) (i := 1) dX12_atom_5 rfl rfl rfl ?_
  refine ax_callSfi (q := 9) (As := [ax_i rr]) (st := []) (x := (if ((¬ (rr < (48 : Int32))) ∧ (¬ ((57 : Int32) < rr))) then (1 : Int32) else 0)) (σ2 := σ) dX12_atom_6 rfl lk_X12_140 rfl rfl (Nat.le_of_ble_eq_true rfl) (f_X12_isDigit (sh := shM) σ rr  (d := d) (by omega)) ?_
  refine ax_if_eqB (tgt := 24) (q := 12) dX12_atom_9 (by decide) rfl (fun c1 => ?_) (fun c1 => ?_)
  · refine ax_iload_n (q := 25) (i := 1) dX12_atom_24 rfl rfl rfl ?_
    refine ax_callSfi (q := 28) (As := [ax_i rr]) (st := []) (x := (v_X12_letterOf rr)) (σ2 := σ) dX12_atom_25 rfl lk_X12_151 rfl rfl (Nat.le_of_ble_eq_true rfl) (f_X12_letterOf (sh := shM) σ rr  (d := d) (by omega)) ?_
    refine ax_iconst (q := 29) dX12_atom_28 rfl ki_m1 ?_
    refine ax_icmp_eq (tgt := 54) (q := 32) dX12_atom_29 (by decide) rfl (fun c2 => ?_) (fun c2 => ?_)
    · refine ax_iload_n (q := 55) (i := 1) dX12_atom_54 rfl rfl rfl ?_
      refine ax_bipush (q := 57) dX12_atom_55 rfl kb_91 ?_
      refine ax_icmp_ne (tgt := 85) (q := 60) dX12_atom_57 (by decide) rfl (fun c3 => ?_) (fun c3 => ?_)
      · refine ax_aload_n (q := 86) (i := 0) dX12_atom_85 rfl rfl rfl ?_
        refine ax_callVfv (q := 89) (As := []) (st := []) (σ2 := (ax_ui σ 0 4 (if (¬ (σ.1 0 4) = (-1 : Int32)) then (σ.1 0 4) else (σ.1 0 3)))) dX12_atom_86 rfl lk_X12_134 shM_0 rfl rfl rfl rfl (Nat.le_of_ble_eq_true rfl) (f_X12_bad σ   (d := d) (by omega)) ?_
        exact ax_vret dX12_atom_89 rfl (k1 c1 c2 c3)
      · refine ax_aload_n (q := 61) (i := 0) dX12_atom_60 rfl rfl rfl ?_
        refine ax_fg (lv2 := [some (ax_r 0), none]) ⟨rfl, trivial⟩ ?_
        exact ax_callVcv (q := 64) (As := []) (st := []) dX12_atom_61 rfl lk_X12_155 shM_0 rfl rfl rfl rfl (Nat.le_of_ble_eq_true rfl) (k2 c1 c2 c3)
    · refine ax_aload_n (q := 33) (i := 0) dX12_atom_32 rfl rfl rfl ?_
      refine ax_dupr (q := 34) dX12_atom_33 rfl ?_
      refine ax_get (q := 37) (k := 0) (j := 3) (v := ax_i (σ.1 0 3)) dX12_atom_34 rfl shM_0 rfl rfl rfl (by decide) fl_X12_118 ?_
      refine ax_iconst (q := 38) dX12_atom_37 rfl ki_1 ?_
      refine ax_iadd (q := 39) dX12_atom_38 rfl ?_
      refine ax_puti (q := 42) (k := 0) (j := 3) dX12_atom_39 rfl shM_0 rfl rfl (by decide) fl_X12_118 rfl rfl rfl rfl ?_
      refine ax_aload_n (q := 43) (i := 0) dX12_atom_42 rfl rfl rfl ?_
      refine ax_iconst (q := 44) dX12_atom_43 rfl ki_1 ?_
      refine ax_iload_n (q := 45) (i := 1) dX12_atom_44 rfl rfl rfl ?_
      refine ax_callSfi (q := 48) (As := [ax_i rr]) (st := [ax_i (1 : Int32), ax_r 0]) (x := (v_X12_letterOf rr)) (σ2 := (ax_ui σ 0 3 ((σ.1 0 3) + (1 : Int32)))) dX12_atom_45 rfl lk_X12_151 rfl rfl (Nat.le_of_ble_eq_true rfl) (f_X12_letterOf (sh := shM) (ax_ui σ 0 3 ((σ.1 0 3) + (1 : Int32))) rr  (d := d) (by omega)) ?_
      refine ax_callVfv (q := 51) (As := [ax_i (1 : Int32), ax_i (v_X12_letterOf rr)]) (st := []) (σ2 := (ax_ui (ax_ui (ax_ui (ax_ui σ 0 3 ((σ.1 0 3) + (1 : Int32))) 2 (Int32.toNatClampNeg (((520 : Int32) * (σ.1 0 14)) + (σ.1 4 (Int32.toNatClampNeg (σ.1 0 14))))) (1 : Int32)) 3 (Int32.toNatClampNeg (((520 : Int32) * (σ.1 0 14)) + (σ.1 4 (Int32.toNatClampNeg (σ.1 0 14))))) (v_X12_letterOf rr)) 4 (Int32.toNatClampNeg (σ.1 0 14)) ((σ.1 4 (Int32.toNatClampNeg (σ.1 0 14))) + (1 : Int32)))) dX12_atom_48 rfl lk_X12_147 shM_0 rfl rfl rfl rfl (Nat.le_of_ble_eq_true rfl) (f_X12_put (ax_ui σ 0 3 ((σ.1 0 3) + (1 : Int32))) (1 : Int32) (v_X12_letterOf rr) (h3 c1 c2) (h4 c1 c2) (d := d) (by omega)) ?_
      refine ax_goto (tgt := 89) dX12_atom_51 (by decide) ?_
      exact ax_vret dX12_atom_89 rfl (k5 c1 c2)
  · refine ax_aload_n (q := 13) (i := 0) dX12_atom_12 rfl rfl rfl ?_
    refine ax_iconst (q := 14) dX12_atom_13 rfl ki_0 ?_
    refine ax_aload_n (q := 15) (i := 0) dX12_atom_14 rfl rfl rfl ?_
    refine ax_fg (lv2 := [none, none]) trivial ?_
    exact ax_callVci (q := 18) (As := []) (st := [ax_i (0 : Int32), ax_r 0]) dX12_atom_15 rfl lk_X12_144 shM_0 rfl rfl rfl rfl (Nat.le_of_ble_eq_true rfl) (k6 c1)
set_option maxRecDepth 20000 in
theorem s_X12_atom_18 {d : Nat} (hd : 1 ≤ d) {Q : Option ax_V → ax_S → Prop} (σ : ax_S) (rr : Int32) (y0 : Int32) (h1 : vp_in (σ.1 0 14) 5) (h2 : vp_in (((520 : Int32) * (σ.1 0 14)) + (σ.1 4 (Int32.toNatClampNeg (σ.1 0 14)))) 2600) (k3 : Q none (ax_ui (ax_ui (ax_ui σ 2 (Int32.toNatClampNeg (((520 : Int32) * (σ.1 0 14)) + (σ.1 4 (Int32.toNatClampNeg (σ.1 0 14))))) y0) 3 (Int32.toNatClampNeg (((520 : Int32) * (σ.1 0 14)) + (σ.1 4 (Int32.toNatClampNeg (σ.1 0 14))))) rr) 4 (Int32.toNatClampNeg (σ.1 0 14)) ((σ.1 4 (Int32.toNatClampNeg (σ.1 0 14))) + (1 : Int32)))) : ax_W shM (d + 1) mX12_atom Q 18 [none, none] [ax_i rr, ax_i y0, ax_r 0] σ := by
  refine ax_callVfv (q := 21) (As := [ax_i y0, ax_i rr]) (st := []) (σ2 := (ax_ui (ax_ui (ax_ui σ 2 (Int32.toNatClampNeg (((520 : Int32) * (σ.1 0 14)) + (σ.1 4 (Int32.toNatClampNeg (σ.1 0 14))))) y0) 3 (Int32.toNatClampNeg (((520 : Int32) * (σ.1 0 14)) + (σ.1 4 (Int32.toNatClampNeg (σ.1 0 14))))) rr) 4 (Int32.toNatClampNeg (σ.1 0 14)) ((σ.1 4 (Int32.toNatClampNeg (σ.1 0 14))) + (1 : Int32)))) dX12_atom_18 rfl lk_X12_147 shM_0 rfl rfl rfl rfl (Nat.le_of_ble_eq_true rfl) (f_X12_put σ y0 rr h1 h2 (d := d) (by omega)) ?_
  refine ax_goto (tgt := 89) dX12_atom_21 (by decide) ?_
  exact ax_vret dX12_atom_89 rfl k3
set_option maxRecDepth 20000 in
theorem s_X12_atom_64 {d : Nat} (hd : 0 ≤ d) {Q : Option ax_V → ax_S → Prop} (σ : ax_S)  (k1 : (¬ (σ.1 0 4) = (-1 : Int32)) → Q none σ) (k2 : (¬ (¬ (σ.1 0 4) = (-1 : Int32))) → ax_Ct shM d mX12_sum [ax_r 0] (fun r u => r = none ∧ ax_W shM (d + 1) mX12_atom Q 76 [some (ax_r 0), none] [] u) σ) : ax_W shM (d + 1) mX12_atom Q 64 [some (ax_r 0), none] [] σ := by
  refine ax_aload_n (q := 65) (i := 0) dX12_atom_64 rfl rfl rfl ?_
  refine ax_get (q := 68) (k := 0) (j := 4) (v := ax_i (σ.1 0 4)) dX12_atom_65 rfl shM_0 rfl rfl rfl (by decide) fl_X12_125 ?_
  refine ax_iconst (q := 69) dX12_atom_68 rfl ki_m1 ?_
  refine ax_icmp_ne (tgt := 89) (q := 72) dX12_atom_69 (by decide) rfl (fun c1 => ?_) (fun c1 => ?_)
  · exact ax_vret dX12_atom_89 rfl (k1 c1)
  · refine ax_aload_n (q := 73) (i := 0) dX12_atom_72 rfl rfl rfl ?_
    exact ax_callVcv (q := 76) (As := []) (st := []) dX12_atom_73 rfl lk_X12_158 shM_0 rfl rfl rfl rfl (Nat.le_of_ble_eq_true rfl) (k2 c1)
set_option maxRecDepth 20000 in
theorem s_X12_atom_76 {d : Nat} (hd : 0 ≤ d) {Q : Option ax_V → ax_S → Prop} (σ : ax_S)  (k1 : ax_Ct shM d mX12_closes [ax_r 0, ax_i (93 : Int32)] (fun r u => r = none ∧ ax_W shM (d + 1) mX12_atom Q 82 [none, none] [] u) σ) : ax_W shM (d + 1) mX12_atom Q 76 [some (ax_r 0), none] [] σ := by
  refine ax_aload_n (q := 77) (i := 0) dX12_atom_76 rfl rfl rfl ?_
  refine ax_bipush (q := 79) dX12_atom_77 rfl kb_93 ?_
  refine ax_fg (lv2 := [none, none]) trivial ?_
  exact ax_callVcv (q := 82) (As := [ax_i (93 : Int32)]) (st := []) dX12_atom_79 rfl lk_X12_161 shM_0 rfl rfl rfl rfl (Nat.le_of_ble_eq_true rfl) k1
set_option maxRecDepth 20000 in
theorem s_X12_atom_82 {d : Nat} (hd : 0 ≤ d) {Q : Option ax_V → ax_S → Prop} (σ : ax_S)  (k1 : Q none σ) : ax_W shM (d + 1) mX12_atom Q 82 [none, none] [] σ := by
  refine ax_goto (tgt := 89) dX12_atom_82 (by decide) ?_
  exact ax_vret dX12_atom_89 rfl k1
set_option maxRecDepth 20000 in
theorem f_X12_isSign {sh : List ax_H} (σ : ax_S) (a0 : Int32)  {d : Nat} (hd : 1 ≤ d) : ax_Ct sh d mX12_isSign [ax_i a0] (fun r u => r = some (ax_i (if ((a0 = (61 : Int32)) ∨ ((a0 = (60 : Int32)) ∨ (¬ (¬ a0 = (62 : Int32))))) then (1 : Int32) else 0)) ∧ u = σ) σ := by
  obtain ⟨d, rfl⟩ : ∃ e, d = e + 1 := ⟨d - 1, by omega⟩
  refine ax_Ct.of (lv := [some (ax_i a0)]) (by decide +kernel) (fun ad => Nat.le_of_ble_eq_true rfl) (fun ad => rfl) ?_
  refine ax_iload_n (q := 1) (i := 0) dX12_isSign_0 rfl rfl rfl ?_
  refine ax_bipush (q := 3) dX12_isSign_1 rfl kb_61 ?_
  have K4 : ax_W sh (d + 1) mX12_isSign (fun r u => r = some (ax_i (if ((a0 = (61 : Int32)) ∨ ((a0 = (60 : Int32)) ∨ (¬ (¬ a0 = (62 : Int32))))) then (1 : Int32) else 0)) ∧ u = σ) 23 [some (ax_i a0)] [ax_i (if ((a0 = (61 : Int32)) ∨ ((a0 = (60 : Int32)) ∨ (¬ (¬ a0 = (62 : Int32))))) then (1 : Int32) else 0)] σ := by
    exact ax_iret dX12_isSign_23 rfl (ax_nb _) ⟨rfl, rfl⟩
  refine ax_icmp_eq (tgt := 18) (q := 6) dX12_isSign_3 (by decide) rfl (fun c1 => ?_) (fun c1 => ?_)
  · refine ax_iconst (q := 19) dX12_isSign_18 rfl ki_1 ?_
    refine ax_goto (tgt := 23) dX12_isSign_19 (by decide) ?_
    exact ax_cv (if_pos (Or.inl c1)) K4
  · refine ax_iload_n (q := 7) (i := 0) dX12_isSign_6 rfl rfl rfl ?_
    refine ax_bipush (q := 9) dX12_isSign_7 rfl kb_60 ?_
    refine ax_icmp_eq (tgt := 18) (q := 12) dX12_isSign_9 (by decide) rfl (fun c2 => ?_) (fun c2 => ?_)
    · refine ax_iconst (q := 19) dX12_isSign_18 rfl ki_1 ?_
      refine ax_goto (tgt := 23) dX12_isSign_19 (by decide) ?_
      exact ax_cv (if_pos (Or.inr (Or.inl c2))) K4
    · refine ax_iload_n (q := 13) (i := 0) dX12_isSign_12 rfl rfl rfl ?_
      refine ax_bipush (q := 15) dX12_isSign_13 rfl kb_62 ?_
      refine ax_icmp_ne (tgt := 22) (q := 18) dX12_isSign_15 (by decide) rfl (fun c3 => ?_) (fun c3 => ?_)
      · refine ax_iconst (q := 23) dX12_isSign_22 rfl ki_0 ?_
        exact ax_cv (if_neg (fun z => z.elim c1 (fun z => z.elim c2 (fun y => y c3)))) K4
      · refine ax_iconst (q := 19) dX12_isSign_18 rfl ki_1 ?_
        refine ax_goto (tgt := 23) dX12_isSign_19 (by decide) ?_
        exact ax_cv (if_pos (Or.inr (Or.inr c3))) K4
set_option maxRecDepth 20000 in
theorem s_X12_compare_0 {d : Nat} (hd : 1 ≤ d) {Q : Option ax_V → ax_S → Prop} (σ : ax_S)  (k1 : (¬ (σ.1 0 4) = (-1 : Int32)) → (((-1 : Int32) = (61 : Int32)) ∨ (((-1 : Int32) = (60 : Int32)) ∨ (¬ (¬ (-1 : Int32) = (62 : Int32))))) → ax_Ct shM d mX12_sum [ax_r 0] (fun r u => r = none ∧ ax_W shM (d + 1) mX12_compare Q 43 [some (ax_r 0), some (ax_i (-1 : Int32))] [] u) (ax_ui σ 0 3 ((σ.1 0 3) + (1 : Int32)))) (k2 : (¬ (σ.1 0 4) = (-1 : Int32)) → (¬ (((-1 : Int32) = (61 : Int32)) ∨ (((-1 : Int32) = (60 : Int32)) ∨ (¬ (¬ (-1 : Int32) = (62 : Int32)))))) → Q none (ax_ui σ 0 4 (if (¬ (σ.1 0 4) = (-1 : Int32)) then (σ.1 0 4) else (σ.1 0 3)))) (k3 : (¬ (¬ (σ.1 0 4) = (-1 : Int32))) → ax_Ct shM d mX12_look [ax_r 0] (fun r u => ∃ x : Int32, r = some (ax_i x) ∧ ax_W shM (d + 1) mX12_compare Q 12 [some (ax_r 0), none] (ax_i x :: []) u) σ) : ax_W shM (d + 1) mX12_compare Q 0 [some (ax_r 0), none] [] σ := by
  refine ax_aload_n (q := 1) (i := 0) dX12_compare_0 rfl rfl rfl ?_
  refine ax_get (q := 4) (k := 0) (j := 4) (v := ax_i (σ.1 0 4)) dX12_compare_1 rfl shM_0 rfl rfl rfl (by decide) fl_X12_125 ?_
  refine ax_iconst (q := 5) dX12_compare_4 rfl ki_m1 ?_
  refine ax_icmp_ne (tgt := 15) (q := 8) dX12_compare_5 (by decide) rfl (fun c1 => ?_) (fun c1 => ?_)
  · refine ax_iconst (q := 16) dX12_compare_15 rfl ki_m1 ?_
    refine ax_istore_n (q := 17) (i := 1) (lv2 := [some (ax_r 0), some (ax_i (-1 : Int32))]) dX12_compare_16 rfl rfl (by decide) rfl rfl ?_
    refine ax_iload_n (q := 18) (i := 1) dX12_compare_17 rfl rfl rfl ?_
    refine ax_callSfi (q := 21) (As := [ax_i (-1 : Int32)]) (st := []) (x := (if (((-1 : Int32) = (61 : Int32)) ∨ (((-1 : Int32) = (60 : Int32)) ∨ (¬ (¬ (-1 : Int32) = (62 : Int32))))) then (1 : Int32) else 0)) (σ2 := σ) dX12_compare_18 rfl lk_X12_171 rfl rfl (Nat.le_of_ble_eq_true rfl) (f_X12_isSign (sh := shM) σ (-1 : Int32)  (d := d) (by omega)) ?_
    refine ax_if_neB (tgt := 29) (q := 24) dX12_compare_21 (by decide) rfl (fun c2 => ?_) (fun c2 => ?_)
    · refine ax_aload_n (q := 30) (i := 0) dX12_compare_29 rfl rfl rfl ?_
      refine ax_dupr (q := 31) dX12_compare_30 rfl ?_
      refine ax_get (q := 34) (k := 0) (j := 3) (v := ax_i (σ.1 0 3)) dX12_compare_31 rfl shM_0 rfl rfl rfl (by decide) fl_X12_118 ?_
      refine ax_iconst (q := 35) dX12_compare_34 rfl ki_1 ?_
      refine ax_iadd (q := 36) dX12_compare_35 rfl ?_
      refine ax_puti (q := 39) (k := 0) (j := 3) dX12_compare_36 rfl shM_0 rfl rfl (by decide) fl_X12_118 rfl rfl rfl rfl ?_
      refine ax_aload_n (q := 40) (i := 0) dX12_compare_39 rfl rfl rfl ?_
      exact ax_callVcv (q := 43) (As := []) (st := []) dX12_compare_40 rfl lk_X12_158 shM_0 rfl rfl rfl rfl (Nat.le_of_ble_eq_true rfl) (k1 c1 c2)
    · refine ax_aload_n (q := 25) (i := 0) dX12_compare_24 rfl rfl rfl ?_
      refine ax_callVfv (q := 28) (As := []) (st := []) (σ2 := (ax_ui σ 0 4 (if (¬ (σ.1 0 4) = (-1 : Int32)) then (σ.1 0 4) else (σ.1 0 3)))) dX12_compare_25 rfl lk_X12_134 shM_0 rfl rfl rfl rfl (Nat.le_of_ble_eq_true rfl) (f_X12_bad σ   (d := d) (by omega)) ?_
      exact ax_vret dX12_compare_28 rfl (k2 c1 c2)
  · refine ax_aload_n (q := 9) (i := 0) dX12_compare_8 rfl rfl rfl ?_
    exact ax_callVci (q := 12) (As := []) (st := []) dX12_compare_9 rfl lk_X12_137 shM_0 rfl rfl rfl rfl (Nat.le_of_ble_eq_true rfl) (k3 c1)
set_option maxRecDepth 20000 in
theorem s_X12_compare_12 {d : Nat} (hd : 1 ≤ d) {Q : Option ax_V → ax_S → Prop} (σ : ax_S) (rr : Int32) (k1 : ((rr = (61 : Int32)) ∨ ((rr = (60 : Int32)) ∨ (¬ (¬ rr = (62 : Int32))))) → ax_Ct shM d mX12_sum [ax_r 0] (fun r u => r = none ∧ ax_W shM (d + 1) mX12_compare Q 43 [some (ax_r 0), some (ax_i rr)] [] u) (ax_ui σ 0 3 ((σ.1 0 3) + (1 : Int32)))) (k2 : (¬ ((rr = (61 : Int32)) ∨ ((rr = (60 : Int32)) ∨ (¬ (¬ rr = (62 : Int32)))))) → Q none (ax_ui σ 0 4 (if (¬ (σ.1 0 4) = (-1 : Int32)) then (σ.1 0 4) else (σ.1 0 3)))) : ax_W shM (d + 1) mX12_compare Q 12 [some (ax_r 0), none] [ax_i rr] σ := by
  refine ax_goto (tgt := 16) dX12_compare_12 (by decide) ?_
  refine ax_istore_n (q := 17) (i := 1) (lv2 := [some (ax_r 0), some (ax_i rr)]) dX12_compare_16 rfl rfl (by decide) rfl rfl ?_
  refine ax_iload_n (q := 18) (i := 1) dX12_compare_17 rfl rfl rfl ?_
  refine ax_callSfi (q := 21) (As := [ax_i rr]) (st := []) (x := (if ((rr = (61 : Int32)) ∨ ((rr = (60 : Int32)) ∨ (¬ (¬ rr = (62 : Int32))))) then (1 : Int32) else 0)) (σ2 := σ) dX12_compare_18 rfl lk_X12_171 rfl rfl (Nat.le_of_ble_eq_true rfl) (f_X12_isSign (sh := shM) σ rr  (d := d) (by omega)) ?_
  refine ax_if_neB (tgt := 29) (q := 24) dX12_compare_21 (by decide) rfl (fun c1 => ?_) (fun c1 => ?_)
  · refine ax_aload_n (q := 30) (i := 0) dX12_compare_29 rfl rfl rfl ?_
    refine ax_dupr (q := 31) dX12_compare_30 rfl ?_
    refine ax_get (q := 34) (k := 0) (j := 3) (v := ax_i (σ.1 0 3)) dX12_compare_31 rfl shM_0 rfl rfl rfl (by decide) fl_X12_118 ?_
    refine ax_iconst (q := 35) dX12_compare_34 rfl ki_1 ?_
    refine ax_iadd (q := 36) dX12_compare_35 rfl ?_
    refine ax_puti (q := 39) (k := 0) (j := 3) dX12_compare_36 rfl shM_0 rfl rfl (by decide) fl_X12_118 rfl rfl rfl rfl ?_
    refine ax_aload_n (q := 40) (i := 0) dX12_compare_39 rfl rfl rfl ?_
    exact ax_callVcv (q := 43) (As := []) (st := []) dX12_compare_40 rfl lk_X12_158 shM_0 rfl rfl rfl rfl (Nat.le_of_ble_eq_true rfl) (k1 c1)
  · refine ax_aload_n (q := 25) (i := 0) dX12_compare_24 rfl rfl rfl ?_
    refine ax_callVfv (q := 28) (As := []) (st := []) (σ2 := (ax_ui σ 0 4 (if (¬ (σ.1 0 4) = (-1 : Int32)) then (σ.1 0 4) else (σ.1 0 3)))) dX12_compare_25 rfl lk_X12_134 shM_0 rfl rfl rfl rfl (Nat.le_of_ble_eq_true rfl) (f_X12_bad σ   (d := d) (by omega)) ?_
    exact ax_vret dX12_compare_28 rfl (k2 c1)
set_option maxRecDepth 20000 in
theorem s_X12_compare_43 {d : Nat} (hd : 1 ≤ d) {Q : Option ax_V → ax_S → Prop} (σ : ax_S) (x1 : Int32) (h1 : vp_in (σ.1 0 14) 5) (h2 : vp_in (((520 : Int32) * (σ.1 0 14)) + (σ.1 4 (Int32.toNatClampNeg (σ.1 0 14)))) 2600) (k3 : Q none (ax_ui (ax_ui (ax_ui σ 2 (Int32.toNatClampNeg (((520 : Int32) * (σ.1 0 14)) + (σ.1 4 (Int32.toNatClampNeg (σ.1 0 14))))) (if (¬ x1 = (61 : Int32)) then (if (¬ x1 = (60 : Int32)) then (8 : Int32) else (7 : Int32)) else (6 : Int32))) 3 (Int32.toNatClampNeg (((520 : Int32) * (σ.1 0 14)) + (σ.1 4 (Int32.toNatClampNeg (σ.1 0 14))))) (0 : Int32)) 4 (Int32.toNatClampNeg (σ.1 0 14)) ((σ.1 4 (Int32.toNatClampNeg (σ.1 0 14))) + (1 : Int32)))) : ax_W shM (d + 1) mX12_compare Q 43 [some (ax_r 0), some (ax_i x1)] [] σ := by
  refine ax_aload_n (q := 44) (i := 0) dX12_compare_43 rfl rfl rfl ?_
  refine ax_iload_n (q := 45) (i := 1) dX12_compare_44 rfl rfl rfl ?_
  refine ax_bipush (q := 47) dX12_compare_45 rfl kb_61 ?_
  have K3 : ax_W shM (d + 1) mX12_compare Q 68 [some (ax_r 0), some (ax_i x1)] [ax_i (if (¬ x1 = (61 : Int32)) then (if (¬ x1 = (60 : Int32)) then (8 : Int32) else (7 : Int32)) else (6 : Int32)), ax_r 0] σ := by
    refine ax_iconst (q := 69) dX12_compare_68 rfl ki_0 ?_
    refine ax_callVfv (q := 72) (As := [ax_i (if (¬ x1 = (61 : Int32)) then (if (¬ x1 = (60 : Int32)) then (8 : Int32) else (7 : Int32)) else (6 : Int32)), ax_i (0 : Int32)]) (st := []) (σ2 := (ax_ui (ax_ui (ax_ui σ 2 (Int32.toNatClampNeg (((520 : Int32) * (σ.1 0 14)) + (σ.1 4 (Int32.toNatClampNeg (σ.1 0 14))))) (if (¬ x1 = (61 : Int32)) then (if (¬ x1 = (60 : Int32)) then (8 : Int32) else (7 : Int32)) else (6 : Int32))) 3 (Int32.toNatClampNeg (((520 : Int32) * (σ.1 0 14)) + (σ.1 4 (Int32.toNatClampNeg (σ.1 0 14))))) (0 : Int32)) 4 (Int32.toNatClampNeg (σ.1 0 14)) ((σ.1 4 (Int32.toNatClampNeg (σ.1 0 14))) + (1 : Int32)))) dX12_compare_69 rfl lk_X12_147 shM_0 rfl rfl rfl rfl (Nat.le_of_ble_eq_true rfl) (f_X12_put σ (if (¬ x1 = (61 : Int32)) then (if (¬ x1 = (60 : Int32)) then (8 : Int32) else (7 : Int32)) else (6 : Int32)) (0 : Int32) h1 h2 (d := d) (by omega)) ?_
    exact ax_vret dX12_compare_72 rfl k3
  refine ax_icmp_ne (tgt := 55) (q := 50) dX12_compare_47 (by decide) rfl (fun c1 => ?_) (fun c1 => ?_)
  · refine ax_iload_n (q := 56) (i := 1) dX12_compare_55 rfl rfl rfl ?_
    refine ax_bipush (q := 58) dX12_compare_56 rfl kb_60 ?_
    refine ax_icmp_ne (tgt := 66) (q := 61) dX12_compare_58 (by decide) rfl (fun c2 => ?_) (fun c2 => ?_)
    · refine ax_bipush (q := 68) dX12_compare_66 rfl kb_8 ?_
      exact ax_cv ((if_pos c1).trans (if_pos c2)) K3
    · refine ax_bipush (q := 63) dX12_compare_61 rfl kb_7 ?_
      refine ax_goto (tgt := 68) dX12_compare_63 (by decide) ?_
      exact ax_cv ((if_pos c1).trans (if_neg c2)) K3
  · refine ax_bipush (q := 52) dX12_compare_50 rfl kb_6 ?_
    refine ax_goto (tgt := 68) dX12_compare_52 (by decide) ?_
    exact ax_cv (if_neg c1) K3
set_option maxRecDepth 20000 in
theorem s_X12_goOnAnd_0 {d : Nat} (hd : 0 ≤ d) {Q : Option ax_V → ax_S → Prop} (σ : ax_S)  (k1 : (¬ (σ.1 0 4) = (-1 : Int32)) → Q none σ) (k2 : (¬ (¬ (σ.1 0 4) = (-1 : Int32))) → ax_Ct shM d mX12_look [ax_r 0] (fun r u => ∃ x : Int32, r = some (ax_i x) ∧ ax_W shM (d + 1) mX12_goOnAnd Q 12 [some (ax_r 0)] (ax_i x :: []) u) σ) : ax_W shM (d + 1) mX12_goOnAnd Q 0 [some (ax_r 0)] [] σ := by
  refine ax_aload_n (q := 1) (i := 0) dX12_goOnAnd_0 rfl rfl rfl ?_
  refine ax_get (q := 4) (k := 0) (j := 4) (v := ax_i (σ.1 0 4)) dX12_goOnAnd_1 rfl shM_0 rfl rfl rfl (by decide) fl_X12_125 ?_
  refine ax_iconst (q := 5) dX12_goOnAnd_4 rfl ki_m1 ?_
  refine ax_icmp_ne (tgt := 41) (q := 8) dX12_goOnAnd_5 (by decide) rfl (fun c1 => ?_) (fun c1 => ?_)
  · exact ax_vret dX12_goOnAnd_41 rfl (k1 c1)
  · refine ax_aload_n (q := 9) (i := 0) dX12_goOnAnd_8 rfl rfl rfl ?_
    exact ax_callVci (q := 12) (As := []) (st := []) dX12_goOnAnd_9 rfl lk_X12_137 shM_0 rfl rfl rfl rfl (Nat.le_of_ble_eq_true rfl) (k2 c1)
set_option maxRecDepth 20000 in
theorem s_X12_goOnAnd_12 {d : Nat} (hd : 0 ≤ d) {Q : Option ax_V → ax_S → Prop} (σ : ax_S) (rr : Int32) (k1 : (¬ rr = (38 : Int32)) → Q none σ) (k2 : (¬ (¬ rr = (38 : Int32))) → ax_Ct shM d mX12_unit [ax_r 0] (fun r u => r = none ∧ ax_W shM (d + 1) mX12_goOnAnd Q 31 [some (ax_r 0)] [] u) (ax_ui σ 0 3 ((σ.1 0 3) + (1 : Int32)))) : ax_W shM (d + 1) mX12_goOnAnd Q 12 [some (ax_r 0)] [ax_i rr] σ := by
  refine ax_bipush (q := 14) dX12_goOnAnd_12 rfl kb_38 ?_
  refine ax_icmp_ne (tgt := 41) (q := 17) dX12_goOnAnd_14 (by decide) rfl (fun c1 => ?_) (fun c1 => ?_)
  · exact ax_vret dX12_goOnAnd_41 rfl (k1 c1)
  · refine ax_aload_n (q := 18) (i := 0) dX12_goOnAnd_17 rfl rfl rfl ?_
    refine ax_dupr (q := 19) dX12_goOnAnd_18 rfl ?_
    refine ax_get (q := 22) (k := 0) (j := 3) (v := ax_i (σ.1 0 3)) dX12_goOnAnd_19 rfl shM_0 rfl rfl rfl (by decide) fl_X12_118 ?_
    refine ax_iconst (q := 23) dX12_goOnAnd_22 rfl ki_1 ?_
    refine ax_iadd (q := 24) dX12_goOnAnd_23 rfl ?_
    refine ax_puti (q := 27) (k := 0) (j := 3) dX12_goOnAnd_24 rfl shM_0 rfl rfl (by decide) fl_X12_118 rfl rfl rfl rfl ?_
    refine ax_aload_n (q := 28) (i := 0) dX12_goOnAnd_27 rfl rfl rfl ?_
    exact ax_callVcv (q := 31) (As := []) (st := []) dX12_goOnAnd_28 rfl lk_X12_174 shM_0 rfl rfl rfl rfl (Nat.le_of_ble_eq_true rfl) (k2 c1)
set_option maxRecDepth 20000 in
theorem s_X12_goOnAnd_31 {d : Nat} (hd : 1 ≤ d) {Q : Option ax_V → ax_S → Prop} (σ : ax_S)  (h1 : vp_in (σ.1 0 14) 5) (h2 : vp_in (((520 : Int32) * (σ.1 0 14)) + (σ.1 4 (Int32.toNatClampNeg (σ.1 0 14)))) 2600) (k3 : ax_W shM (d + 1) mX12_goOnAnd Q 0 [some (ax_r 0)] [] (ax_ui (ax_ui (ax_ui σ 2 (Int32.toNatClampNeg (((520 : Int32) * (σ.1 0 14)) + (σ.1 4 (Int32.toNatClampNeg (σ.1 0 14))))) (10 : Int32)) 3 (Int32.toNatClampNeg (((520 : Int32) * (σ.1 0 14)) + (σ.1 4 (Int32.toNatClampNeg (σ.1 0 14))))) (0 : Int32)) 4 (Int32.toNatClampNeg (σ.1 0 14)) ((σ.1 4 (Int32.toNatClampNeg (σ.1 0 14))) + (1 : Int32)))) : ax_W shM (d + 1) mX12_goOnAnd Q 31 [some (ax_r 0)] [] σ := by
  refine ax_aload_n (q := 32) (i := 0) dX12_goOnAnd_31 rfl rfl rfl ?_
  refine ax_bipush (q := 34) dX12_goOnAnd_32 rfl kb_10 ?_
  refine ax_iconst (q := 35) dX12_goOnAnd_34 rfl ki_0 ?_
  refine ax_callVfv (q := 38) (As := [ax_i (10 : Int32), ax_i (0 : Int32)]) (st := []) (σ2 := (ax_ui (ax_ui (ax_ui σ 2 (Int32.toNatClampNeg (((520 : Int32) * (σ.1 0 14)) + (σ.1 4 (Int32.toNatClampNeg (σ.1 0 14))))) (10 : Int32)) 3 (Int32.toNatClampNeg (((520 : Int32) * (σ.1 0 14)) + (σ.1 4 (Int32.toNatClampNeg (σ.1 0 14))))) (0 : Int32)) 4 (Int32.toNatClampNeg (σ.1 0 14)) ((σ.1 4 (Int32.toNatClampNeg (σ.1 0 14))) + (1 : Int32)))) dX12_goOnAnd_35 rfl lk_X12_147 shM_0 rfl rfl rfl rfl (Nat.le_of_ble_eq_true rfl) (f_X12_put σ (10 : Int32) (0 : Int32) h1 h2 (d := d) (by omega)) ?_
  refine ax_goto (tgt := 0) dX12_goOnAnd_38 (by decide) ?_
  exact k3
set_option maxRecDepth 20000 in
theorem s_X12_goOnOr_0 {d : Nat} (hd : 0 ≤ d) {Q : Option ax_V → ax_S → Prop} (σ : ax_S)  (k1 : (¬ (σ.1 0 4) = (-1 : Int32)) → Q none σ) (k2 : (¬ (¬ (σ.1 0 4) = (-1 : Int32))) → ax_Ct shM d mX12_look [ax_r 0] (fun r u => ∃ x : Int32, r = some (ax_i x) ∧ ax_W shM (d + 1) mX12_goOnOr Q 12 [some (ax_r 0)] (ax_i x :: []) u) σ) : ax_W shM (d + 1) mX12_goOnOr Q 0 [some (ax_r 0)] [] σ := by
  refine ax_aload_n (q := 1) (i := 0) dX12_goOnOr_0 rfl rfl rfl ?_
  refine ax_get (q := 4) (k := 0) (j := 4) (v := ax_i (σ.1 0 4)) dX12_goOnOr_1 rfl shM_0 rfl rfl rfl (by decide) fl_X12_125 ?_
  refine ax_iconst (q := 5) dX12_goOnOr_4 rfl ki_m1 ?_
  refine ax_icmp_ne (tgt := 45) (q := 8) dX12_goOnOr_5 (by decide) rfl (fun c1 => ?_) (fun c1 => ?_)
  · exact ax_vret dX12_goOnOr_45 rfl (k1 c1)
  · refine ax_aload_n (q := 9) (i := 0) dX12_goOnOr_8 rfl rfl rfl ?_
    exact ax_callVci (q := 12) (As := []) (st := []) dX12_goOnOr_9 rfl lk_X12_137 shM_0 rfl rfl rfl rfl (Nat.le_of_ble_eq_true rfl) (k2 c1)
set_option maxRecDepth 20000 in
theorem s_X12_goOnOr_12 {d : Nat} (hd : 0 ≤ d) {Q : Option ax_V → ax_S → Prop} (σ : ax_S) (rr : Int32) (k1 : (¬ rr = (124 : Int32)) → Q none σ) (k2 : (¬ (¬ rr = (124 : Int32))) → ax_Ct shM d mX12_unit [ax_r 0] (fun r u => r = none ∧ ax_W shM (d + 1) mX12_goOnOr Q 31 [some (ax_r 0)] [] u) (ax_ui σ 0 3 ((σ.1 0 3) + (1 : Int32)))) : ax_W shM (d + 1) mX12_goOnOr Q 12 [some (ax_r 0)] [ax_i rr] σ := by
  refine ax_bipush (q := 14) dX12_goOnOr_12 rfl kb_124 ?_
  refine ax_icmp_ne (tgt := 45) (q := 17) dX12_goOnOr_14 (by decide) rfl (fun c1 => ?_) (fun c1 => ?_)
  · exact ax_vret dX12_goOnOr_45 rfl (k1 c1)
  · refine ax_aload_n (q := 18) (i := 0) dX12_goOnOr_17 rfl rfl rfl ?_
    refine ax_dupr (q := 19) dX12_goOnOr_18 rfl ?_
    refine ax_get (q := 22) (k := 0) (j := 3) (v := ax_i (σ.1 0 3)) dX12_goOnOr_19 rfl shM_0 rfl rfl rfl (by decide) fl_X12_118 ?_
    refine ax_iconst (q := 23) dX12_goOnOr_22 rfl ki_1 ?_
    refine ax_iadd (q := 24) dX12_goOnOr_23 rfl ?_
    refine ax_puti (q := 27) (k := 0) (j := 3) dX12_goOnOr_24 rfl shM_0 rfl rfl (by decide) fl_X12_118 rfl rfl rfl rfl ?_
    refine ax_aload_n (q := 28) (i := 0) dX12_goOnOr_27 rfl rfl rfl ?_
    exact ax_callVcv (q := 31) (As := []) (st := []) dX12_goOnOr_28 rfl lk_X12_174 shM_0 rfl rfl rfl rfl (Nat.le_of_ble_eq_true rfl) (k2 c1)
set_option maxRecDepth 20000 in
theorem s_X12_goOnOr_31 {d : Nat} (hd : 0 ≤ d) {Q : Option ax_V → ax_S → Prop} (σ : ax_S)  (k1 : ax_Ct shM d mX12_goOnAnd [ax_r 0] (fun r u => r = none ∧ ax_W shM (d + 1) mX12_goOnOr Q 35 [some (ax_r 0)] [] u) σ) : ax_W shM (d + 1) mX12_goOnOr Q 31 [some (ax_r 0)] [] σ := by
  refine ax_aload_n (q := 32) (i := 0) dX12_goOnOr_31 rfl rfl rfl ?_
  exact ax_callVcv (q := 35) (As := []) (st := []) dX12_goOnOr_32 rfl lk_X12_183 shM_0 rfl rfl rfl rfl (Nat.le_of_ble_eq_true rfl) k1
set_option maxRecDepth 20000 in
theorem s_X12_goOnOr_35 {d : Nat} (hd : 1 ≤ d) {Q : Option ax_V → ax_S → Prop} (σ : ax_S)  (h1 : vp_in (σ.1 0 14) 5) (h2 : vp_in (((520 : Int32) * (σ.1 0 14)) + (σ.1 4 (Int32.toNatClampNeg (σ.1 0 14)))) 2600) (k3 : ax_W shM (d + 1) mX12_goOnOr Q 0 [some (ax_r 0)] [] (ax_ui (ax_ui (ax_ui σ 2 (Int32.toNatClampNeg (((520 : Int32) * (σ.1 0 14)) + (σ.1 4 (Int32.toNatClampNeg (σ.1 0 14))))) (11 : Int32)) 3 (Int32.toNatClampNeg (((520 : Int32) * (σ.1 0 14)) + (σ.1 4 (Int32.toNatClampNeg (σ.1 0 14))))) (0 : Int32)) 4 (Int32.toNatClampNeg (σ.1 0 14)) ((σ.1 4 (Int32.toNatClampNeg (σ.1 0 14))) + (1 : Int32)))) : ax_W shM (d + 1) mX12_goOnOr Q 35 [some (ax_r 0)] [] σ := by
  refine ax_aload_n (q := 36) (i := 0) dX12_goOnOr_35 rfl rfl rfl ?_
  refine ax_bipush (q := 38) dX12_goOnOr_36 rfl kb_11 ?_
  refine ax_iconst (q := 39) dX12_goOnOr_38 rfl ki_0 ?_
  refine ax_callVfv (q := 42) (As := [ax_i (11 : Int32), ax_i (0 : Int32)]) (st := []) (σ2 := (ax_ui (ax_ui (ax_ui σ 2 (Int32.toNatClampNeg (((520 : Int32) * (σ.1 0 14)) + (σ.1 4 (Int32.toNatClampNeg (σ.1 0 14))))) (11 : Int32)) 3 (Int32.toNatClampNeg (((520 : Int32) * (σ.1 0 14)) + (σ.1 4 (Int32.toNatClampNeg (σ.1 0 14))))) (0 : Int32)) 4 (Int32.toNatClampNeg (σ.1 0 14)) ((σ.1 4 (Int32.toNatClampNeg (σ.1 0 14))) + (1 : Int32)))) dX12_goOnOr_39 rfl lk_X12_147 shM_0 rfl rfl rfl rfl (Nat.le_of_ble_eq_true rfl) (f_X12_put σ (11 : Int32) (0 : Int32) h1 h2 (d := d) (by omega)) ?_
  refine ax_goto (tgt := 0) dX12_goOnOr_42 (by decide) ?_
  exact k3
set_option maxRecDepth 20000 in
theorem s_X12_condition_0 {d : Nat} (hd : 0 ≤ d) {Q : Option ax_V → ax_S → Prop} (σ : ax_S)  (k1 : ax_Ct shM d mX12_unit [ax_r 0] (fun r u => r = none ∧ ax_W shM (d + 1) mX12_condition Q 4 [some (ax_r 0)] [] u) σ) : ax_W shM (d + 1) mX12_condition Q 0 [some (ax_r 0)] [] σ := by
  refine ax_aload_n (q := 1) (i := 0) dX12_condition_0 rfl rfl rfl ?_
  exact ax_callVcv (q := 4) (As := []) (st := []) dX12_condition_1 rfl lk_X12_174 shM_0 rfl rfl rfl rfl (Nat.le_of_ble_eq_true rfl) k1
set_option maxRecDepth 20000 in
theorem s_X12_condition_4 {d : Nat} (hd : 0 ≤ d) {Q : Option ax_V → ax_S → Prop} (σ : ax_S)  (k1 : ax_Ct shM d mX12_goOnAnd [ax_r 0] (fun r u => r = none ∧ ax_W shM (d + 1) mX12_condition Q 8 [some (ax_r 0)] [] u) σ) : ax_W shM (d + 1) mX12_condition Q 4 [some (ax_r 0)] [] σ := by
  refine ax_aload_n (q := 5) (i := 0) dX12_condition_4 rfl rfl rfl ?_
  exact ax_callVcv (q := 8) (As := []) (st := []) dX12_condition_5 rfl lk_X12_183 shM_0 rfl rfl rfl rfl (Nat.le_of_ble_eq_true rfl) k1
set_option maxRecDepth 20000 in
theorem s_X12_condition_8 {d : Nat} (hd : 0 ≤ d) {Q : Option ax_V → ax_S → Prop} (σ : ax_S)  (k1 : ax_Ct shM d mX12_goOnOr [ax_r 0] (fun r u => r = none ∧ ax_W shM (d + 1) mX12_condition Q 12 [none] [] u) σ) : ax_W shM (d + 1) mX12_condition Q 8 [some (ax_r 0)] [] σ := by
  refine ax_aload_n (q := 9) (i := 0) dX12_condition_8 rfl rfl rfl ?_
  refine ax_fg (lv2 := [none]) trivial ?_
  exact ax_callVcv (q := 12) (As := []) (st := []) dX12_condition_9 rfl lk_X12_186 shM_0 rfl rfl rfl rfl (Nat.le_of_ble_eq_true rfl) k1
set_option maxRecDepth 20000 in
theorem s_X12_condition_12 {d : Nat} (hd : 0 ≤ d) {Q : Option ax_V → ax_S → Prop} (σ : ax_S)  (k1 : Q none σ) : ax_W shM (d + 1) mX12_condition Q 12 [none] [] σ := by
  exact ax_vret dX12_condition_12 rfl k1
set_option maxRecDepth 20000 in
theorem s_X12_unit_0 {d : Nat} (hd : 0 ≤ d) {Q : Option ax_V → ax_S → Prop} (σ : ax_S)  (k1 : ax_Ct shM d mX12_look [ax_r 0] (fun r u => ∃ x : Int32, r = some (ax_i x) ∧ ax_W shM (d + 1) mX12_unit Q 4 [some (ax_r 0), none] (ax_i x :: []) u) σ) : ax_W shM (d + 1) mX12_unit Q 0 [some (ax_r 0), none] [] σ := by
  refine ax_aload_n (q := 1) (i := 0) dX12_unit_0 rfl rfl rfl ?_
  exact ax_callVci (q := 4) (As := []) (st := []) dX12_unit_1 rfl lk_X12_137 shM_0 rfl rfl rfl rfl (Nat.le_of_ble_eq_true rfl) k1
set_option maxRecDepth 20000 in
theorem s_X12_unit_4 {d : Nat} (hd : 0 ≤ d) {Q : Option ax_V → ax_S → Prop} (σ : ax_S) (rr : Int32) (k1 : (¬ rr = (33 : Int32)) → (¬ rr = (40 : Int32)) → ax_Ct shM d mX12_sum [ax_r 0] (fun r u => r = none ∧ ax_W shM (d + 1) mX12_unit Q 82 [some (ax_r 0), none] [] u) σ) (k2 : (¬ rr = (33 : Int32)) → (¬ (¬ rr = (40 : Int32))) → ax_Ct shM d mX12_opens [ax_r 0] (fun r u => r = none ∧ ax_W shM (d + 1) mX12_unit Q 57 [some (ax_r 0), none] [] u) σ) (k3 : (¬ (¬ rr = (33 : Int32))) → ax_Ct shM d mX12_opens [ax_r 0] (fun r u => r = none ∧ ax_W shM (d + 1) mX12_unit Q 15 [some (ax_r 0), none] [] u) σ) : ax_W shM (d + 1) mX12_unit Q 4 [some (ax_r 0), none] [ax_i rr] σ := by
  refine ax_istore_n (q := 5) (i := 1) (lv2 := [some (ax_r 0), some (ax_i rr)]) dX12_unit_4 rfl rfl (by decide) rfl rfl ?_
  refine ax_iload_n (q := 6) (i := 1) dX12_unit_5 rfl rfl rfl ?_
  refine ax_bipush (q := 8) dX12_unit_6 rfl kb_33 ?_
  refine ax_icmp_ne (tgt := 47) (q := 11) dX12_unit_8 (by decide) rfl (fun c1 => ?_) (fun c1 => ?_)
  · refine ax_iload_n (q := 48) (i := 1) dX12_unit_47 rfl rfl rfl ?_
    refine ax_bipush (q := 50) dX12_unit_48 rfl kb_40 ?_
    refine ax_icmp_ne (tgt := 78) (q := 53) dX12_unit_50 (by decide) rfl (fun c2 => ?_) (fun c2 => ?_)
    · refine ax_aload_n (q := 79) (i := 0) dX12_unit_78 rfl rfl rfl ?_
      refine ax_fg (lv2 := [some (ax_r 0), none]) ⟨rfl, trivial⟩ ?_
      exact ax_callVcv (q := 82) (As := []) (st := []) dX12_unit_79 rfl lk_X12_158 shM_0 rfl rfl rfl rfl (Nat.le_of_ble_eq_true rfl) (k1 c1 c2)
    · refine ax_aload_n (q := 54) (i := 0) dX12_unit_53 rfl rfl rfl ?_
      refine ax_fg (lv2 := [some (ax_r 0), none]) ⟨rfl, trivial⟩ ?_
      exact ax_callVcv (q := 57) (As := []) (st := []) dX12_unit_54 rfl lk_X12_155 shM_0 rfl rfl rfl rfl (Nat.le_of_ble_eq_true rfl) (k2 c1 c2)
  · refine ax_aload_n (q := 12) (i := 0) dX12_unit_11 rfl rfl rfl ?_
    refine ax_fg (lv2 := [some (ax_r 0), none]) ⟨rfl, trivial⟩ ?_
    exact ax_callVcv (q := 15) (As := []) (st := []) dX12_unit_12 rfl lk_X12_155 shM_0 rfl rfl rfl rfl (Nat.le_of_ble_eq_true rfl) (k3 c1)
set_option maxRecDepth 20000 in
theorem s_X12_unit_15 {d : Nat} (hd : 0 ≤ d) {Q : Option ax_V → ax_S → Prop} (σ : ax_S)  (k1 : (¬ (σ.1 0 4) = (-1 : Int32)) → Q none σ) (k2 : (¬ (¬ (σ.1 0 4) = (-1 : Int32))) → ax_Ct shM d mX12_unit [ax_r 0] (fun r u => r = none ∧ ax_W shM (d + 1) mX12_unit Q 27 [some (ax_r 0), none] [] u) σ) : ax_W shM (d + 1) mX12_unit Q 15 [some (ax_r 0), none] [] σ := by
  refine ax_aload_n (q := 16) (i := 0) dX12_unit_15 rfl rfl rfl ?_
  refine ax_get (q := 19) (k := 0) (j := 4) (v := ax_i (σ.1 0 4)) dX12_unit_16 rfl shM_0 rfl rfl rfl (by decide) fl_X12_125 ?_
  refine ax_iconst (q := 20) dX12_unit_19 rfl ki_m1 ?_
  refine ax_icmp_ne (tgt := 94) (q := 23) dX12_unit_20 (by decide) rfl (fun c1 => ?_) (fun c1 => ?_)
  · exact ax_vret dX12_unit_94 rfl (k1 c1)
  · refine ax_aload_n (q := 24) (i := 0) dX12_unit_23 rfl rfl rfl ?_
    exact ax_callVcv (q := 27) (As := []) (st := []) dX12_unit_24 rfl lk_X12_174 shM_0 rfl rfl rfl rfl (Nat.le_of_ble_eq_true rfl) (k2 c1)
set_option maxRecDepth 20000 in
theorem s_X12_unit_57 {d : Nat} (hd : 0 ≤ d) {Q : Option ax_V → ax_S → Prop} (σ : ax_S)  (k1 : (¬ (σ.1 0 4) = (-1 : Int32)) → Q none σ) (k2 : (¬ (¬ (σ.1 0 4) = (-1 : Int32))) → ax_Ct shM d mX12_condition [ax_r 0] (fun r u => r = none ∧ ax_W shM (d + 1) mX12_unit Q 69 [some (ax_r 0), none] [] u) σ) : ax_W shM (d + 1) mX12_unit Q 57 [some (ax_r 0), none] [] σ := by
  refine ax_aload_n (q := 58) (i := 0) dX12_unit_57 rfl rfl rfl ?_
  refine ax_get (q := 61) (k := 0) (j := 4) (v := ax_i (σ.1 0 4)) dX12_unit_58 rfl shM_0 rfl rfl rfl (by decide) fl_X12_125 ?_
  refine ax_iconst (q := 62) dX12_unit_61 rfl ki_m1 ?_
  refine ax_icmp_ne (tgt := 94) (q := 65) dX12_unit_62 (by decide) rfl (fun c1 => ?_) (fun c1 => ?_)
  · exact ax_vret dX12_unit_94 rfl (k1 c1)
  · refine ax_aload_n (q := 66) (i := 0) dX12_unit_65 rfl rfl rfl ?_
    exact ax_callVcv (q := 69) (As := []) (st := []) dX12_unit_66 rfl lk_X12_177 shM_0 rfl rfl rfl rfl (Nat.le_of_ble_eq_true rfl) (k2 c1)
set_option maxRecDepth 20000 in
theorem s_X12_unit_82 {d : Nat} (hd : 0 ≤ d) {Q : Option ax_V → ax_S → Prop} (σ : ax_S)  (k1 : (¬ (σ.1 0 4) = (-1 : Int32)) → Q none σ) (k2 : (¬ (¬ (σ.1 0 4) = (-1 : Int32))) → ax_Ct shM d mX12_compare [ax_r 0] (fun r u => r = none ∧ ax_W shM (d + 1) mX12_unit Q 94 [none, none] [] u) σ) : ax_W shM (d + 1) mX12_unit Q 82 [some (ax_r 0), none] [] σ := by
  refine ax_aload_n (q := 83) (i := 0) dX12_unit_82 rfl rfl rfl ?_
  refine ax_get (q := 86) (k := 0) (j := 4) (v := ax_i (σ.1 0 4)) dX12_unit_83 rfl shM_0 rfl rfl rfl (by decide) fl_X12_125 ?_
  refine ax_iconst (q := 87) dX12_unit_86 rfl ki_m1 ?_
  refine ax_icmp_ne (tgt := 94) (q := 90) dX12_unit_87 (by decide) rfl (fun c1 => ?_) (fun c1 => ?_)
  · exact ax_vret dX12_unit_94 rfl (k1 c1)
  · refine ax_aload_n (q := 91) (i := 0) dX12_unit_90 rfl rfl rfl ?_
    refine ax_fg (lv2 := [none, none]) trivial ?_
    exact ax_callVcv (q := 94) (As := []) (st := []) dX12_unit_91 rfl lk_X12_180 shM_0 rfl rfl rfl rfl (Nat.le_of_ble_eq_true rfl) (k2 c1)
set_option maxRecDepth 20000 in
theorem s_X12_unit_27 {d : Nat} (hd : 1 ≤ d) {Q : Option ax_V → ax_S → Prop} (σ : ax_S)  (h1 : vp_in (σ.1 0 14) 5) (h2 : vp_in (((520 : Int32) * (σ.1 0 14)) + (σ.1 4 (Int32.toNatClampNeg (σ.1 0 14)))) 2600) (k3 : Q none (ax_ui (ax_ui (ax_ui (ax_ui σ 2 (Int32.toNatClampNeg (((520 : Int32) * (σ.1 0 14)) + (σ.1 4 (Int32.toNatClampNeg (σ.1 0 14))))) (9 : Int32)) 3 (Int32.toNatClampNeg (((520 : Int32) * (σ.1 0 14)) + (σ.1 4 (Int32.toNatClampNeg (σ.1 0 14))))) (0 : Int32)) 4 (Int32.toNatClampNeg (σ.1 0 14)) ((σ.1 4 (Int32.toNatClampNeg (σ.1 0 14))) + (1 : Int32))) 0 5 ((σ.1 0 5) - (1 : Int32)))) : ax_W shM (d + 1) mX12_unit Q 27 [some (ax_r 0), none] [] σ := by
  refine ax_aload_n (q := 28) (i := 0) dX12_unit_27 rfl rfl rfl ?_
  refine ax_bipush (q := 30) dX12_unit_28 rfl kb_9 ?_
  refine ax_iconst (q := 31) dX12_unit_30 rfl ki_0 ?_
  refine ax_callVfv (q := 34) (As := [ax_i (9 : Int32), ax_i (0 : Int32)]) (st := []) (σ2 := (ax_ui (ax_ui (ax_ui σ 2 (Int32.toNatClampNeg (((520 : Int32) * (σ.1 0 14)) + (σ.1 4 (Int32.toNatClampNeg (σ.1 0 14))))) (9 : Int32)) 3 (Int32.toNatClampNeg (((520 : Int32) * (σ.1 0 14)) + (σ.1 4 (Int32.toNatClampNeg (σ.1 0 14))))) (0 : Int32)) 4 (Int32.toNatClampNeg (σ.1 0 14)) ((σ.1 4 (Int32.toNatClampNeg (σ.1 0 14))) + (1 : Int32)))) dX12_unit_31 rfl lk_X12_147 shM_0 rfl rfl rfl rfl (Nat.le_of_ble_eq_true rfl) (f_X12_put σ (9 : Int32) (0 : Int32) h1 h2 (d := d) (by omega)) ?_
  refine ax_aload_n (q := 35) (i := 0) dX12_unit_34 rfl rfl rfl ?_
  refine ax_dupr (q := 36) dX12_unit_35 rfl ?_
  refine ax_get (q := 39) (k := 0) (j := 5) (v := ax_i (σ.1 0 5)) dX12_unit_36 rfl shM_0 rfl rfl rfl (by decide) fl_X12_131 ?_
  refine ax_iconst (q := 40) dX12_unit_39 rfl ki_1 ?_
  refine ax_isub (q := 41) dX12_unit_40 rfl ?_
  refine ax_puti (q := 44) (k := 0) (j := 5) dX12_unit_41 rfl shM_0 rfl rfl (by decide) fl_X12_131 rfl rfl rfl rfl ?_
  refine ax_goto (tgt := 94) dX12_unit_44 (by decide) ?_
  exact ax_vret dX12_unit_94 rfl k3
set_option maxRecDepth 20000 in
theorem s_X12_unit_69 {d : Nat} (hd : 0 ≤ d) {Q : Option ax_V → ax_S → Prop} (σ : ax_S)  (k1 : ax_Ct shM d mX12_closes [ax_r 0, ax_i (41 : Int32)] (fun r u => r = none ∧ ax_W shM (d + 1) mX12_unit Q 75 [none, none] [] u) σ) : ax_W shM (d + 1) mX12_unit Q 69 [some (ax_r 0), none] [] σ := by
  refine ax_aload_n (q := 70) (i := 0) dX12_unit_69 rfl rfl rfl ?_
  refine ax_bipush (q := 72) dX12_unit_70 rfl kb_41 ?_
  refine ax_fg (lv2 := [none, none]) trivial ?_
  exact ax_callVcv (q := 75) (As := [ax_i (41 : Int32)]) (st := []) dX12_unit_72 rfl lk_X12_161 shM_0 rfl rfl rfl rfl (Nat.le_of_ble_eq_true rfl) k1
set_option maxRecDepth 20000 in
theorem s_X12_unit_94 {d : Nat} (hd : 0 ≤ d) {Q : Option ax_V → ax_S → Prop} (σ : ax_S)  (k1 : Q none σ) : ax_W shM (d + 1) mX12_unit Q 94 [none, none] [] σ := by
  exact ax_vret dX12_unit_94 rfl k1
set_option maxRecDepth 20000 in
theorem s_X12_unit_75 {d : Nat} (hd : 0 ≤ d) {Q : Option ax_V → ax_S → Prop} (σ : ax_S)  (k1 : Q none σ) : ax_W shM (d + 1) mX12_unit Q 75 [none, none] [] σ := by
  refine ax_goto (tgt := 94) dX12_unit_75 (by decide) ?_
  exact ax_vret dX12_unit_94 rfl k1
