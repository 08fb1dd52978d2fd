set_option maxRecDepth 20000 in
theorem s_X12_clause_0 {d : Nat} (hd : 0 ≤ d) {Q : Option ax_V → ax_S → Prop} (σ : ax_S)  (h1 : vp_in (σ.1 0 14) 5) (h2 : (¬ (σ.1 0 4) = (-1 : Int32)) → ((σ.1 0 4) = (-1 : Int32)) → vp_in (σ.1 0 14) 5) (h3 : (¬ (σ.1 0 4) = (-1 : Int32)) → ((σ.1 0 4) = (-1 : Int32)) → vp_in (((140 : Int32) * (σ.1 0 14)) + (σ.1 5 (Int32.toNatClampNeg (σ.1 0 14)))) 700) (k4 : (¬ (σ.1 0 4) = (-1 : Int32)) → ((σ.1 0 4) = (-1 : Int32)) → ax_Ct shM d mX12_look [ax_r 0] (fun r u => ∃ x : Int32, r = some (ax_i x) ∧ ax_W shM (d + 1) mX12_clause Q 109 [some (ax_r 0), some (ax_i (((140 : Int32) * (σ.1 0 14)) + (σ.1 5 (Int32.toNatClampNeg (σ.1 0 14))))), none] (ax_i x :: []) u) (ax_ui (ax_ui (ax_ui σ 0 3 ((σ.1 0 3) + (1 : Int32))) 0 3 (((σ.1 0 3) + (1 : Int32)) + (1 : Int32))) 6 (Int32.toNatClampNeg (((140 : Int32) * (σ.1 0 14)) + (σ.1 5 (Int32.toNatClampNeg (σ.1 0 14))))) (σ.1 4 (Int32.toNatClampNeg (σ.1 0 14))))) (k5 : (¬ (σ.1 0 4) = (-1 : Int32)) → (¬ ((σ.1 0 4) = (-1 : Int32))) → Q none (ax_ui (ax_ui σ 0 3 ((σ.1 0 3) + (1 : Int32))) 0 3 (((σ.1 0 3) + (1 : Int32)) + (1 : Int32)))) (k6 : (¬ (¬ (σ.1 0 4) = (-1 : Int32))) → ax_Ct shM d mX12_look [ax_r 0] (fun r u => ∃ x : Int32, r = some (ax_i x) ∧ ax_W shM (d + 1) mX12_clause Q 31 [some (ax_r 0), some (ax_i (((140 : Int32) * (σ.1 0 14)) + (σ.1 5 (Int32.toNatClampNeg (σ.1 0 14))))), none] (ax_i x :: []) u) σ) : ax_W shM (d + 1) mX12_clause Q 0 [some (ax_r 0), none, none] [] σ := by
  refine ax_sipush (q := 3) dX12_clause_0 rfl ks_140 ?_
  refine ax_aload_n (q := 4) (i := 0) dX12_clause_3 rfl rfl rfl ?_
  refine ax_get (q := 7) (k := 0) (j := 14) (v := ax_i (σ.1 0 14)) dX12_clause_4 rfl shM_0 rfl rfl rfl (by decide) fl_X12_128 ?_
  refine ax_imul (q := 8) dX12_clause_7 rfl ?_
  refine ax_aload_n (q := 9) (i := 0) dX12_clause_8 rfl rfl rfl ?_
  refine ax_get (q := 12) (k := 0) (j := 9) (v := ax_r 5) dX12_clause_9 rfl shM_0 rfl rfl rfl (by decide) fl_X12_22 ?_
  refine ax_aload_n (q := 13) (i := 0) dX12_clause_12 rfl rfl rfl ?_
  refine ax_get (q := 16) (k := 0) (j := 14) (v := ax_i (σ.1 0 14)) dX12_clause_13 rfl shM_0 rfl rfl rfl (by decide) fl_X12_128 ?_
  refine ax_iald (q := 17) (a := (Int32.toNatClampNeg (σ.1 0 14))) (v := (σ.1 5 (Int32.toNatClampNeg (σ.1 0 14)))) dX12_clause_16 rfl shM_5 h1 rfl rfl ?_
  refine ax_iadd (q := 18) dX12_clause_17 rfl ?_
  refine ax_istore_n (q := 19) (i := 1) (lv2 := [some (ax_r 0), some (ax_i (((140 : Int32) * (σ.1 0 14)) + (σ.1 5 (Int32.toNatClampNeg (σ.1 0 14))))), none]) dX12_clause_18 rfl rfl (by decide) rfl rfl ?_
  refine ax_aload_n (q := 20) (i := 0) dX12_clause_19 rfl rfl rfl ?_
  refine ax_get (q := 23) (k := 0) (j := 4) (v := ax_i (σ.1 0 4)) dX12_clause_20 rfl shM_0 rfl rfl rfl (by decide) fl_X12_125 ?_
  refine ax_iconst (q := 24) dX12_clause_23 rfl ki_m1 ?_
  refine ax_icmp_ne (tgt := 40) (q := 27) dX12_clause_24 (by decide) rfl (fun c1 => ?_) (fun c1 => ?_)
  · refine ax_aload_n (q := 41) (i := 0) dX12_clause_40 rfl rfl rfl ?_
    refine ax_dupr (q := 42) dX12_clause_41 rfl ?_
    refine ax_get (q := 45) (k := 0) (j := 3) (v := ax_i (σ.1 0 3)) dX12_clause_42 rfl shM_0 rfl rfl rfl (by decide) fl_X12_118 ?_
    refine ax_iconst (q := 46) dX12_clause_45 rfl ki_1 ?_
    refine ax_iadd (q := 47) dX12_clause_46 rfl ?_
    refine ax_puti (q := 50) (k := 0) (j := 3) dX12_clause_47 rfl shM_0 rfl rfl (by decide) fl_X12_118 rfl rfl rfl rfl ?_
    refine ax_aload_n (q := 51) (i := 0) dX12_clause_50 rfl rfl rfl ?_
    refine ax_get (q := 54) (k := 0) (j := 4) (v := ax_i (σ.1 0 4)) dX12_clause_51 rfl shM_0 rfl rfl rfl (by decide) fl_X12_125 ?_
    refine ax_iconst (q := 55) dX12_clause_54 rfl ki_m1 ?_
    refine ax_icmp_ne (tgt := 71) (q := 58) dX12_clause_55 (by decide) rfl (fun c2 => ?_) (fun c2 => ?_)
    · refine ax_aload_n (q := 72) (i := 0) dX12_clause_71 rfl rfl rfl ?_
      refine ax_dupr (q := 73) dX12_clause_72 rfl ?_
      refine ax_get (q := 76) (k := 0) (j := 3) (v := ax_i ((σ.1 0 3) + (1 : Int32))) dX12_clause_73 rfl shM_0 rfl rfl rfl (by decide) fl_X12_118 ?_
      refine ax_iconst (q := 77) dX12_clause_76 rfl ki_1 ?_
      refine ax_iadd (q := 78) dX12_clause_77 rfl ?_
      refine ax_puti (q := 81) (k := 0) (j := 3) dX12_clause_78 rfl shM_0 rfl rfl (by decide) fl_X12_118 rfl rfl rfl rfl ?_
      refine ax_aload_n (q := 82) (i := 0) dX12_clause_81 rfl rfl rfl ?_
      refine ax_get (q := 85) (k := 0) (j := 4) (v := ax_i (σ.1 0 4)) dX12_clause_82 rfl shM_0 rfl rfl rfl (by decide) fl_X12_125 ?_
      refine ax_iconst (q := 86) dX12_clause_85 rfl ki_m1 ?_
      refine ax_icmp_eq (tgt := 90) (q := 89) dX12_clause_86 (by decide) rfl (fun c3 => ?_) (fun c3 => ?_)
      · refine ax_aload_n (q := 91) (i := 0) dX12_clause_90 rfl rfl rfl ?_
        refine ax_get (q := 94) (k := 0) (j := 10) (v := ax_r 6) dX12_clause_91 rfl shM_0 rfl rfl rfl (by decide) fl_X12_25 ?_
        refine ax_iload_n (q := 95) (i := 1) dX12_clause_94 rfl rfl rfl ?_
        refine ax_aload_n (q := 96) (i := 0) dX12_clause_95 rfl rfl rfl ?_
        refine ax_get (q := 99) (k := 0) (j := 8) (v := ax_r 4) dX12_clause_96 rfl shM_0 rfl rfl rfl (by decide) fl_X12_19 ?_
        refine ax_aload_n (q := 100) (i := 0) dX12_clause_99 rfl rfl rfl ?_
        refine ax_get (q := 103) (k := 0) (j := 14) (v := ax_i (σ.1 0 14)) dX12_clause_100 rfl shM_0 rfl rfl rfl (by decide) fl_X12_128 ?_
        refine ax_iald (q := 104) (a := (Int32.toNatClampNeg (σ.1 0 14))) (v := (σ.1 4 (Int32.toNatClampNeg (σ.1 0 14)))) dX12_clause_103 rfl shM_4 (h2 c1 c3) rfl rfl ?_
        refine ax_iast (q := 105) (a := (Int32.toNatClampNeg (((140 : Int32) * (σ.1 0 14)) + (σ.1 5 (Int32.toNatClampNeg (σ.1 0 14)))))) dX12_clause_104 rfl shM_6 (h3 c1 c3) rfl ?_
        refine ax_aload_n (q := 106) (i := 0) dX12_clause_105 rfl rfl rfl ?_
        exact ax_callVci (q := 109) (As := []) (st := []) dX12_clause_106 rfl lk_X12_137 shM_0 rfl rfl rfl rfl (Nat.le_of_ble_eq_true rfl) (k4 c1 c3)
      · exact ax_vret dX12_clause_89 rfl (k5 c1 c3)
    · exact absurd c1 c2
  · refine ax_aload_n (q := 28) (i := 0) dX12_clause_27 rfl rfl rfl ?_
    exact ax_callVci (q := 31) (As := []) (st := []) dX12_clause_28 rfl lk_X12_137 shM_0 rfl rfl rfl rfl (Nat.le_of_ble_eq_true rfl) (k6 c1)
set_option maxRecDepth 20000 in
theorem s_X12_clause_109 {d : Nat} (hd : 0 ≤ d) {Q : Option ax_V → ax_S → Prop} (σ : ax_S) (x1 : Int32) (rr : Int32) (k1 : (rr = (33 : Int32)) → ((1 : Int32) = 0) → ax_Ct shM d mX12_sum [ax_r 0] (fun r u => r = none ∧ ax_W shM (d + 1) mX12_clause Q 144 [some (ax_r 0), some (ax_i x1), none] [] u) σ) (k2 : (rr = (33 : Int32)) → (¬ ((1 : Int32) = 0)) → ax_Ct shM d mX12_condition [ax_r 0] (fun r u => r = none ∧ ax_W shM (d + 1) mX12_clause Q 137 [some (ax_r 0), some (ax_i x1), some (ax_i (1 : Int32))] [] u) σ) (k3 : (¬ (rr = (33 : Int32))) → ax_Ct shM d mX12_look [ax_r 0] (fun r u => ∃ x : Int32, r = some (ax_i x) ∧ ax_W shM (d + 1) mX12_clause Q 118 [some (ax_r 0), some (ax_i x1), none] (ax_i x :: []) u) σ) : ax_W shM (d + 1) mX12_clause Q 109 [some (ax_r 0), some (ax_i x1), none] [ax_i rr] σ := by
  refine ax_bipush (q := 111) dX12_clause_109 rfl kb_33 ?_
  refine ax_icmp_eq (tgt := 123) (q := 114) dX12_clause_111 (by decide) rfl (fun c1 => ?_) (fun c1 => ?_)
  · refine ax_iconst (q := 124) dX12_clause_123 rfl ki_1 ?_
    refine ax_goto (tgt := 128) dX12_clause_124 (by decide) ?_
    refine ax_istore_n (q := 129) (i := 2) (lv2 := [some (ax_r 0), some (ax_i x1), some (ax_i (1 : Int32))]) dX12_clause_128 rfl rfl (by decide) rfl rfl ?_
    refine ax_iload_n (q := 130) (i := 2) dX12_clause_129 rfl rfl rfl ?_
    refine ax_if_eq (tgt := 140) (q := 133) dX12_clause_130 (by decide) rfl (fun c2 => ?_) (fun c2 => ?_)
    · refine ax_aload_n (q := 141) (i := 0) dX12_clause_140 rfl rfl rfl ?_
      refine ax_fg (lv2 := [some (ax_r 0), some (ax_i x1), none]) ⟨rfl, rfl, trivial⟩ ?_
      exact ax_callVcv (q := 144) (As := []) (st := []) dX12_clause_141 rfl lk_X12_158 shM_0 rfl rfl rfl rfl (Nat.le_of_ble_eq_true rfl) (k1 c1 c2)
    · refine ax_aload_n (q := 134) (i := 0) dX12_clause_133 rfl rfl rfl ?_
      exact ax_callVcv (q := 137) (As := []) (st := []) dX12_clause_134 rfl lk_X12_177 shM_0 rfl rfl rfl rfl (Nat.le_of_ble_eq_true rfl) (k2 c1 c2)
  · refine ax_aload_n (q := 115) (i := 0) dX12_clause_114 rfl rfl rfl ?_
    exact ax_callVci (q := 118) (As := []) (st := []) dX12_clause_115 rfl lk_X12_137 shM_0 rfl rfl rfl rfl (Nat.le_of_ble_eq_true rfl) (k3 c1)
set_option maxRecDepth 20000 in
theorem s_X12_clause_31 {d : Nat} (hd : 1 ≤ d) {Q : Option ax_V → ax_S → Prop} (σ : ax_S) (x1 : Int32) (rr : Int32) (h1 : (rr = (121 : Int32)) → (¬ (σ.1 0 4) = (-1 : Int32)) → ((σ.1 0 4) = (-1 : Int32)) → vp_in (σ.1 0 14) 5) (h2 : (rr = (121 : Int32)) → (¬ (σ.1 0 4) = (-1 : Int32)) → ((σ.1 0 4) = (-1 : Int32)) → vp_in x1 700) (k3 : (rr = (121 : Int32)) → (¬ (σ.1 0 4) = (-1 : Int32)) → ((σ.1 0 4) = (-1 : Int32)) → ax_Ct shM d mX12_look [ax_r 0] (fun r u => ∃ x : Int32, r = some (ax_i x) ∧ ax_W shM (d + 1) mX12_clause Q 109 [some (ax_r 0), some (ax_i x1), none] (ax_i x :: []) u) (ax_ui (ax_ui (ax_ui σ 0 3 ((σ.1 0 3) + (1 : Int32))) 0 3 (((σ.1 0 3) + (1 : Int32)) + (1 : Int32))) 6 (Int32.toNatClampNeg x1) (σ.1 4 (Int32.toNatClampNeg (σ.1 0 14))))) (k4 : (rr = (121 : Int32)) → (¬ (σ.1 0 4) = (-1 : Int32)) → (¬ ((σ.1 0 4) = (-1 : Int32))) → Q none (ax_ui (ax_ui σ 0 3 ((σ.1 0 3) + (1 : Int32))) 0 3 (((σ.1 0 3) + (1 : Int32)) + (1 : Int32)))) (k5 : (rr = (121 : Int32)) → (¬ (¬ (σ.1 0 4) = (-1 : Int32))) → ax_Ct shM d mX12_look [ax_r 0] (fun r u => ∃ x : Int32, r = some (ax_i x) ∧ ax_W shM (d + 1) mX12_clause Q 62 [some (ax_r 0), some (ax_i x1), none] (ax_i x :: []) u) (ax_ui σ 0 3 ((σ.1 0 3) + (1 : Int32)))) (h6 : (¬ (rr = (121 : Int32))) → (¬ (if (¬ (σ.1 0 4) = (-1 : Int32)) then (σ.1 0 4) else (σ.1 0 3)) = (-1 : Int32)) → ((if (¬ (σ.1 0 4) = (-1 : Int32)) then (σ.1 0 4) else (σ.1 0 3)) = (-1 : Int32)) → vp_in (σ.1 0 14) 5) (h7 : (¬ (rr = (121 : Int32))) → (¬ (if (¬ (σ.1 0 4) = (-1 : Int32)) then (σ.1 0 4) else (σ.1 0 3)) = (-1 : Int32)) → ((if (¬ (σ.1 0 4) = (-1 : Int32)) then (σ.1 0 4) else (σ.1 0 3)) = (-1 : Int32)) → vp_in x1 700) (k8 : (¬ (rr = (121 : Int32))) → (¬ (if (¬ (σ.1 0 4) = (-1 : Int32)) then (σ.1 0 4) else (σ.1 0 3)) = (-1 : Int32)) → ((if (¬ (σ.1 0 4) = (-1 : Int32)) then (σ.1 0 4) else (σ.1 0 3)) = (-1 : Int32)) → ax_Ct shM d mX12_look [ax_r 0] (fun r u => ∃ x : Int32, r = some (ax_i x) ∧ ax_W shM (d + 1) mX12_clause Q 109 [some (ax_r 0), some (ax_i x1), none] (ax_i x :: []) u) (ax_ui (ax_ui (ax_ui (ax_ui σ 0 4 (if (¬ (σ.1 0 4) = (-1 : Int32)) then (σ.1 0 4) else (σ.1 0 3))) 0 3 ((σ.1 0 3) + (1 : Int32))) 0 3 (((σ.1 0 3) + (1 : Int32)) + (1 : Int32))) 6 (Int32.toNatClampNeg x1) (σ.1 4 (Int32.toNatClampNeg (σ.1 0 14))))) (k9 : (¬ (rr = (121 : Int32))) → (¬ (if (¬ (σ.1 0 4) = (-1 : Int32)) then (σ.1 0 4) else (σ.1 0 3)) = (-1 : Int32)) → (¬ ((if (¬ (σ.1 0 4) = (-1 : Int32)) then (σ.1 0 4) else (σ.1 0 3)) = (-1 : Int32))) → Q none (ax_ui (ax_ui (ax_ui σ 0 4 (if (¬ (σ.1 0 4) = (-1 : Int32)) then (σ.1 0 4) else (σ.1 0 3))) 0 3 ((σ.1 0 3) + (1 : Int32))) 0 3 (((σ.1 0 3) + (1 : Int32)) + (1 : Int32)))) (k10 : (¬ (rr = (121 : Int32))) → (¬ (¬ (if (¬ (σ.1 0 4) = (-1 : Int32)) then (σ.1 0 4) else (σ.1 0 3)) = (-1 : Int32))) → ax_Ct shM d mX12_look [ax_r 0] (fun r u => ∃ x : Int32, r = some (ax_i x) ∧ ax_W shM (d + 1) mX12_clause Q 62 [some (ax_r 0), some (ax_i x1), none] (ax_i x :: []) u) (ax_ui (ax_ui σ 0 4 (if (¬ (σ.1 0 4) = (-1 : Int32)) then (σ.1 0 4) else (σ.1 0 3))) 0 3 ((σ.1 0 3) + (1 : Int32)))) : ax_W shM (d + 1) mX12_clause Q 31 [some (ax_r 0), some (ax_i x1), none] [ax_i rr] σ := by
  refine ax_bipush (q := 33) dX12_clause_31 rfl kb_121 ?_
  refine ax_icmp_eq (tgt := 40) (q := 36) dX12_clause_33 (by decide) rfl (fun c1 => ?_) (fun c1 => ?_)
  · refine ax_aload_n (q := 41) (i := 0) dX12_clause_40 rfl rfl rfl ?_
    refine ax_dupr (q := 42) dX12_clause_41 rfl ?_
    refine ax_get (q := 45) (k := 0) (j := 3) (v := ax_i (σ.1 0 3)) dX12_clause_42 rfl shM_0 rfl rfl rfl (by decide) fl_X12_118 ?_
    refine ax_iconst (q := 46) dX12_clause_45 rfl ki_1 ?_
    refine ax_iadd (q := 47) dX12_clause_46 rfl ?_
    refine ax_puti (q := 50) (k := 0) (j := 3) dX12_clause_47 rfl shM_0 rfl rfl (by decide) fl_X12_118 rfl rfl rfl rfl ?_
    refine ax_aload_n (q := 51) (i := 0) dX12_clause_50 rfl rfl rfl ?_
    refine ax_get (q := 54) (k := 0) (j := 4) (v := ax_i (σ.1 0 4)) dX12_clause_51 rfl shM_0 rfl rfl rfl (by decide) fl_X12_125 ?_
    refine ax_iconst (q := 55) dX12_clause_54 rfl ki_m1 ?_
    refine ax_icmp_ne (tgt := 71) (q := 58) dX12_clause_55 (by decide) rfl (fun c2 => ?_) (fun c2 => ?_)
    · refine ax_aload_n (q := 72) (i := 0) dX12_clause_71 rfl rfl rfl ?_
      refine ax_dupr (q := 73) dX12_clause_72 rfl ?_
      refine ax_get (q := 76) (k := 0) (j := 3) (v := ax_i ((σ.1 0 3) + (1 : Int32))) dX12_clause_73 rfl shM_0 rfl rfl rfl (by decide) fl_X12_118 ?_
      refine ax_iconst (q := 77) dX12_clause_76 rfl ki_1 ?_
      refine ax_iadd (q := 78) dX12_clause_77 rfl ?_
      refine ax_puti (q := 81) (k := 0) (j := 3) dX12_clause_78 rfl shM_0 rfl rfl (by decide) fl_X12_118 rfl rfl rfl rfl ?_
      refine ax_aload_n (q := 82) (i := 0) dX12_clause_81 rfl rfl rfl ?_
      refine ax_get (q := 85) (k := 0) (j := 4) (v := ax_i (σ.1 0 4)) dX12_clause_82 rfl shM_0 rfl rfl rfl (by decide) fl_X12_125 ?_
      refine ax_iconst (q := 86) dX12_clause_85 rfl ki_m1 ?_
      refine ax_icmp_eq (tgt := 90) (q := 89) dX12_clause_86 (by decide) rfl (fun c3 => ?_) (fun c3 => ?_)
      · refine ax_aload_n (q := 91) (i := 0) dX12_clause_90 rfl rfl rfl ?_
        refine ax_get (q := 94) (k := 0) (j := 10) (v := ax_r 6) dX12_clause_91 rfl shM_0 rfl rfl rfl (by decide) fl_X12_25 ?_
        refine ax_iload_n (q := 95) (i := 1) dX12_clause_94 rfl rfl rfl ?_
        refine ax_aload_n (q := 96) (i := 0) dX12_clause_95 rfl rfl rfl ?_
        refine ax_get (q := 99) (k := 0) (j := 8) (v := ax_r 4) dX12_clause_96 rfl shM_0 rfl rfl rfl (by decide) fl_X12_19 ?_
        refine ax_aload_n (q := 100) (i := 0) dX12_clause_99 rfl rfl rfl ?_
        refine ax_get (q := 103) (k := 0) (j := 14) (v := ax_i (σ.1 0 14)) dX12_clause_100 rfl shM_0 rfl rfl rfl (by decide) fl_X12_128 ?_
        refine ax_iald (q := 104) (a := (Int32.toNatClampNeg (σ.1 0 14))) (v := (σ.1 4 (Int32.toNatClampNeg (σ.1 0 14)))) dX12_clause_103 rfl shM_4 (h1 c1 c2 c3) rfl rfl ?_
        refine ax_iast (q := 105) (a := (Int32.toNatClampNeg x1)) dX12_clause_104 rfl shM_6 (h2 c1 c2 c3) rfl ?_
        refine ax_aload_n (q := 106) (i := 0) dX12_clause_105 rfl rfl rfl ?_
        exact ax_callVci (q := 109) (As := []) (st := []) dX12_clause_106 rfl lk_X12_137 shM_0 rfl rfl rfl rfl (Nat.le_of_ble_eq_true rfl) (k3 c1 c2 c3)
      · exact ax_vret dX12_clause_89 rfl (k4 c1 c2 c3)
    · refine ax_aload_n (q := 59) (i := 0) dX12_clause_58 rfl rfl rfl ?_
      exact ax_callVci (q := 62) (As := []) (st := []) dX12_clause_59 rfl lk_X12_137 shM_0 rfl rfl rfl rfl (Nat.le_of_ble_eq_true rfl) (k5 c1 c2)
  · refine ax_aload_n (q := 37) (i := 0) dX12_clause_36 rfl rfl rfl ?_
    refine ax_callVfv (q := 40) (As := []) (st := []) (σ2 := (ax_ui σ 0 4 (if (¬ (σ.1 0 4) = (-1 : Int32)) then (σ.1 0 4) else (σ.1 0 3)))) dX12_clause_37 rfl lk_X12_134 shM_0 rfl rfl rfl rfl (Nat.le_of_ble_eq_true rfl) (f_X12_bad σ   (d := d) (by omega)) ?_
    refine ax_aload_n (q := 41) (i := 0) dX12_clause_40 rfl rfl rfl ?_
    refine ax_dupr (q := 42) dX12_clause_41 rfl ?_
    refine ax_get (q := 45) (k := 0) (j := 3) (v := ax_i (σ.1 0 3)) dX12_clause_42 rfl shM_0 rfl rfl rfl (by decide) fl_X12_118 ?_
    refine ax_iconst (q := 46) dX12_clause_45 rfl ki_1 ?_
    refine ax_iadd (q := 47) dX12_clause_46 rfl ?_
    refine ax_puti (q := 50) (k := 0) (j := 3) dX12_clause_47 rfl shM_0 rfl rfl (by decide) fl_X12_118 rfl rfl rfl rfl ?_
    refine ax_aload_n (q := 51) (i := 0) dX12_clause_50 rfl rfl rfl ?_
    refine ax_get (q := 54) (k := 0) (j := 4) (v := ax_i (if (¬ (σ.1 0 4) = (-1 : Int32)) then (σ.1 0 4) else (σ.1 0 3))) dX12_clause_51 rfl shM_0 rfl rfl rfl (by decide) fl_X12_125 ?_
    refine ax_iconst (q := 55) dX12_clause_54 rfl ki_m1 ?_
    refine ax_icmp_ne (tgt := 71) (q := 58) dX12_clause_55 (by decide) rfl (fun c4 => ?_) (fun c4 => ?_)
    · refine ax_aload_n (q := 72) (i := 0) dX12_clause_71 rfl rfl rfl ?_
      refine ax_dupr (q := 73) dX12_clause_72 rfl ?_
      refine ax_get (q := 76) (k := 0) (j := 3) (v := ax_i ((σ.1 0 3) + (1 : Int32))) dX12_clause_73 rfl shM_0 rfl rfl rfl (by decide) fl_X12_118 ?_
      refine ax_iconst (q := 77) dX12_clause_76 rfl ki_1 ?_
      refine ax_iadd (q := 78) dX12_clause_77 rfl ?_
      refine ax_puti (q := 81) (k := 0) (j := 3) dX12_clause_78 rfl shM_0 rfl rfl (by decide) fl_X12_118 rfl rfl rfl rfl ?_
      refine ax_aload_n (q := 82) (i := 0) dX12_clause_81 rfl rfl rfl ?_
      refine ax_get (q := 85) (k := 0) (j := 4) (v := ax_i (if (¬ (σ.1 0 4) = (-1 : Int32)) then (σ.1 0 4) else (σ.1 0 3))) dX12_clause_82 rfl shM_0 rfl rfl rfl (by decide) fl_X12_125 ?_
      refine ax_iconst (q := 86) dX12_clause_85 rfl ki_m1 ?_
      refine ax_icmp_eq (tgt := 90) (q := 89) dX12_clause_86 (by decide) rfl (fun c5 => ?_) (fun c5 => ?_)
      · refine ax_aload_n (q := 91) (i := 0) dX12_clause_90 rfl rfl rfl ?_
        refine ax_get (q := 94) (k := 0) (j := 10) (v := ax_r 6) dX12_clause_91 rfl shM_0 rfl rfl rfl (by decide) fl_X12_25 ?_
        refine ax_iload_n (q := 95) (i := 1) dX12_clause_94 rfl rfl rfl ?_
        refine ax_aload_n (q := 96) (i := 0) dX12_clause_95 rfl rfl rfl ?_
        refine ax_get (q := 99) (k := 0) (j := 8) (v := ax_r 4) dX12_clause_96 rfl shM_0 rfl rfl rfl (by decide) fl_X12_19 ?_
        refine ax_aload_n (q := 100) (i := 0) dX12_clause_99 rfl rfl rfl ?_
        refine ax_get (q := 103) (k := 0) (j := 14) (v := ax_i (σ.1 0 14)) dX12_clause_100 rfl shM_0 rfl rfl rfl (by decide) fl_X12_128 ?_
        refine ax_iald (q := 104) (a := (Int32.toNatClampNeg (σ.1 0 14))) (v := (σ.1 4 (Int32.toNatClampNeg (σ.1 0 14)))) dX12_clause_103 rfl shM_4 (h6 c1 c4 c5) rfl rfl ?_
        refine ax_iast (q := 105) (a := (Int32.toNatClampNeg x1)) dX12_clause_104 rfl shM_6 (h7 c1 c4 c5) rfl ?_
        refine ax_aload_n (q := 106) (i := 0) dX12_clause_105 rfl rfl rfl ?_
        exact ax_callVci (q := 109) (As := []) (st := []) dX12_clause_106 rfl lk_X12_137 shM_0 rfl rfl rfl rfl (Nat.le_of_ble_eq_true rfl) (k8 c1 c4 c5)
      · exact ax_vret dX12_clause_89 rfl (k9 c1 c4 c5)
    · refine ax_aload_n (q := 59) (i := 0) dX12_clause_58 rfl rfl rfl ?_
      exact ax_callVci (q := 62) (As := []) (st := []) dX12_clause_59 rfl lk_X12_137 shM_0 rfl rfl rfl rfl (Nat.le_of_ble_eq_true rfl) (k10 c1 c4)
set_option maxRecDepth 20000 in
theorem s_X12_clause_118 {d : Nat} (hd : 0 ≤ d) {Q : Option ax_V → ax_S → Prop} (σ : ax_S) (x1 : Int32) (rr : Int32) (k1 : (¬ (¬ (¬ rr = (40 : Int32)))) → ax_Ct shM d mX12_sum [ax_r 0] (fun r u => r = none ∧ ax_W shM (d + 1) mX12_clause Q 144 [some (ax_r 0), some (ax_i x1), none] [] u) σ) (k2 : (¬ (¬ rr = (40 : Int32))) → ax_Ct shM d mX12_condition [ax_r 0] (fun r u => r = none ∧ ax_W shM (d + 1) mX12_clause Q 137 [some (ax_r 0), some (ax_i x1), some (ax_i (if (¬ (¬ rr = (40 : Int32))) then (1 : Int32) else 0))] [] u) σ) : ax_W shM (d + 1) mX12_clause Q 118 [some (ax_r 0), some (ax_i x1), none] [ax_i rr] σ := by
  refine ax_bipush (q := 120) dX12_clause_118 rfl kb_40 ?_
  have K2 : ax_W shM (d + 1) mX12_clause Q 128 [some (ax_r 0), some (ax_i x1), none] [ax_i (if (¬ (¬ rr = (40 : Int32))) then (1 : Int32) else 0)] σ := by
    refine ax_istore_n (q := 129) (i := 2) (lv2 := [some (ax_r 0), some (ax_i x1), some (ax_i (if (¬ (¬ rr = (40 : Int32))) then (1 : Int32) else 0))]) dX12_clause_128 rfl rfl (by decide) rfl rfl ?_
    refine ax_iload_n (q := 130) (i := 2) dX12_clause_129 rfl rfl rfl ?_
    refine ax_if_eqB (tgt := 140) (q := 133) dX12_clause_130 (by decide) rfl (fun c3 => ?_) (fun c3 => ?_)
    · refine ax_aload_n (q := 141) (i := 0) dX12_clause_140 rfl rfl rfl ?_
      refine ax_fg (lv2 := [some (ax_r 0), some (ax_i x1), none]) ⟨rfl, rfl, trivial⟩ ?_
      exact ax_callVcv (q := 144) (As := []) (st := []) dX12_clause_141 rfl lk_X12_158 shM_0 rfl rfl rfl rfl (Nat.le_of_ble_eq_true rfl) (k1 c3)
    · refine ax_aload_n (q := 134) (i := 0) dX12_clause_133 rfl rfl rfl ?_
      exact ax_callVcv (q := 137) (As := []) (st := []) dX12_clause_134 rfl lk_X12_177 shM_0 rfl rfl rfl rfl (Nat.le_of_ble_eq_true rfl) (k2 c3)
  refine ax_icmp_ne (tgt := 127) (q := 123) dX12_clause_120 (by decide) rfl (fun c1 => ?_) (fun c1 => ?_)
  · refine ax_iconst (q := 128) dX12_clause_127 rfl ki_0 ?_
    exact ax_cv (if_neg (fun y => y c1)) K2
  · refine ax_iconst (q := 124) dX12_clause_123 rfl ki_1 ?_
    refine ax_goto (tgt := 128) dX12_clause_124 (by decide) ?_
    exact ax_cv (if_pos c1) K2
set_option maxRecDepth 20000 in
theorem s_X12_clause_137 {d : Nat} (hd : 0 ≤ d) {Q : Option ax_V → ax_S → Prop} (σ : ax_S) (x1 : Int32) (x2 : Int32) (h1 : vp_in x1 700) (h2 : (x2 = 0) → vp_in (σ.1 0 14) 5) (h3 : (x2 = 0) → vp_in x1 700) (k4 : (x2 = 0) → Q none (ax_ui (ax_ui (ax_ui σ 7 (Int32.toNatClampNeg x1) (σ.1 6 (Int32.toNatClampNeg x1))) 8 (Int32.toNatClampNeg x1) (σ.1 4 (Int32.toNatClampNeg (σ.1 0 14)))) 5 (Int32.toNatClampNeg (σ.1 0 14)) ((σ.1 5 (Int32.toNatClampNeg (σ.1 0 14))) + (1 : Int32)))) (h5 : (¬ (x2 = 0)) → (¬ (σ.1 0 4) = (-1 : Int32)) → vp_in (σ.1 0 14) 5) (h6 : (¬ (x2 = 0)) → (¬ (σ.1 0 4) = (-1 : Int32)) → vp_in x1 700) (k7 : (¬ (x2 = 0)) → (¬ (σ.1 0 4) = (-1 : Int32)) → Q none (ax_ui (ax_ui (ax_ui σ 7 (Int32.toNatClampNeg x1) (σ.1 6 (Int32.toNatClampNeg x1))) 8 (Int32.toNatClampNeg x1) (σ.1 4 (Int32.toNatClampNeg (σ.1 0 14)))) 5 (Int32.toNatClampNeg (σ.1 0 14)) ((σ.1 5 (Int32.toNatClampNeg (σ.1 0 14))) + (1 : Int32)))) (k8 : (¬ (x2 = 0)) → (¬ (¬ (σ.1 0 4) = (-1 : Int32))) → ax_Ct shM d mX12_look [ax_r 0] (fun r u => ∃ x : Int32, r = some (ax_i x) ∧ ax_W shM (d + 1) mX12_clause Q 212 [some (ax_r 0), some (ax_i x1), none] (ax_i x :: []) u) (ax_ui σ 7 (Int32.toNatClampNeg x1) (σ.1 6 (Int32.toNatClampNeg x1)))) : ax_W shM (d + 1) mX12_clause Q 137 [some (ax_r 0), some (ax_i x1), some (ax_i x2)] [] σ := by
  refine ax_goto (tgt := 184) dX12_clause_137 (by decide) ?_
  refine ax_aload_n (q := 185) (i := 0) dX12_clause_184 rfl rfl rfl ?_
  refine ax_get (q := 188) (k := 0) (j := 11) (v := ax_r 7) dX12_clause_185 rfl shM_0 rfl rfl rfl (by decide) fl_X12_28 ?_
  refine ax_iload_n (q := 189) (i := 1) dX12_clause_188 rfl rfl rfl ?_
  refine ax_aload_n (q := 190) (i := 0) dX12_clause_189 rfl rfl rfl ?_
  refine ax_get (q := 193) (k := 0) (j := 10) (v := ax_r 6) dX12_clause_190 rfl shM_0 rfl rfl rfl (by decide) fl_X12_25 ?_
  refine ax_iload_n (q := 194) (i := 1) dX12_clause_193 rfl rfl rfl ?_
  refine ax_iald (q := 195) (a := (Int32.toNatClampNeg x1)) (v := (σ.1 6 (Int32.toNatClampNeg x1))) dX12_clause_194 rfl shM_6 h1 rfl rfl ?_
  refine ax_iast (q := 196) (a := (Int32.toNatClampNeg x1)) dX12_clause_195 rfl shM_7 h1 rfl ?_
  refine ax_iload_n (q := 197) (i := 2) dX12_clause_196 rfl rfl rfl ?_
  refine ax_if_eq (tgt := 251) (q := 200) dX12_clause_197 (by decide) rfl (fun c1 => ?_) (fun c1 => ?_)
  · refine ax_aload_n (q := 252) (i := 0) dX12_clause_251 rfl rfl rfl ?_
    refine ax_get (q := 255) (k := 0) (j := 12) (v := ax_r 8) dX12_clause_252 rfl shM_0 rfl rfl rfl (by decide) fl_X12_31 ?_
    refine ax_iload_n (q := 256) (i := 1) dX12_clause_255 rfl rfl rfl ?_
    refine ax_aload_n (q := 257) (i := 0) dX12_clause_256 rfl rfl rfl ?_
    refine ax_get (q := 260) (k := 0) (j := 8) (v := ax_r 4) dX12_clause_257 rfl shM_0 rfl rfl rfl (by decide) fl_X12_19 ?_
    refine ax_aload_n (q := 261) (i := 0) dX12_clause_260 rfl rfl rfl ?_
    refine ax_get (q := 264) (k := 0) (j := 14) (v := ax_i (σ.1 0 14)) dX12_clause_261 rfl shM_0 rfl rfl rfl (by decide) fl_X12_128 ?_
    refine ax_iald (q := 265) (a := (Int32.toNatClampNeg (σ.1 0 14))) (v := (σ.1 4 (Int32.toNatClampNeg (σ.1 0 14)))) dX12_clause_264 rfl shM_4 (h2 c1) rfl rfl ?_
    refine ax_iast (q := 266) (a := (Int32.toNatClampNeg x1)) dX12_clause_265 rfl shM_8 (h3 c1) rfl ?_
    refine ax_aload_n (q := 267) (i := 0) dX12_clause_266 rfl rfl rfl ?_
    refine ax_get (q := 270) (k := 0) (j := 9) (v := ax_r 5) dX12_clause_267 rfl shM_0 rfl rfl rfl (by decide) fl_X12_22 ?_
    refine ax_aload_n (q := 271) (i := 0) dX12_clause_270 rfl rfl rfl ?_
    refine ax_get (q := 274) (k := 0) (j := 14) (v := ax_i (σ.1 0 14)) dX12_clause_271 rfl shM_0 rfl rfl rfl (by decide) fl_X12_128 ?_
    refine ax_dup2_11 (q := 275) dX12_clause_274 rfl ?_
    refine ax_iald (q := 276) (a := (Int32.toNatClampNeg (σ.1 0 14))) (v := (σ.1 5 (Int32.toNatClampNeg (σ.1 0 14)))) dX12_clause_275 rfl shM_5 (h2 c1) rfl rfl ?_
    refine ax_iconst (q := 277) dX12_clause_276 rfl ki_1 ?_
    refine ax_iadd (q := 278) dX12_clause_277 rfl ?_
    refine ax_iast (q := 279) (a := (Int32.toNatClampNeg (σ.1 0 14))) dX12_clause_278 rfl shM_5 (h2 c1) rfl ?_
    exact ax_vret dX12_clause_279 rfl (k4 c1)
  · refine ax_aload_n (q := 201) (i := 0) dX12_clause_200 rfl rfl rfl ?_
    refine ax_get (q := 204) (k := 0) (j := 4) (v := ax_i (σ.1 0 4)) dX12_clause_201 rfl shM_0 rfl rfl rfl (by decide) fl_X12_125 ?_
    refine ax_iconst (q := 205) dX12_clause_204 rfl ki_m1 ?_
    refine ax_icmp_ne (tgt := 251) (q := 208) dX12_clause_205 (by decide) rfl (fun c2 => ?_) (fun c2 => ?_)
    · refine ax_aload_n (q := 252) (i := 0) dX12_clause_251 rfl rfl rfl ?_
      refine ax_get (q := 255) (k := 0) (j := 12) (v := ax_r 8) dX12_clause_252 rfl shM_0 rfl rfl rfl (by decide) fl_X12_31 ?_
      refine ax_iload_n (q := 256) (i := 1) dX12_clause_255 rfl rfl rfl ?_
      refine ax_aload_n (q := 257) (i := 0) dX12_clause_256 rfl rfl rfl ?_
      refine ax_get (q := 260) (k := 0) (j := 8) (v := ax_r 4) dX12_clause_257 rfl shM_0 rfl rfl rfl (by decide) fl_X12_19 ?_
      refine ax_aload_n (q := 261) (i := 0) dX12_clause_260 rfl rfl rfl ?_
      refine ax_get (q := 264) (k := 0) (j := 14) (v := ax_i (σ.1 0 14)) dX12_clause_261 rfl shM_0 rfl rfl rfl (by decide) fl_X12_128 ?_
      refine ax_iald (q := 265) (a := (Int32.toNatClampNeg (σ.1 0 14))) (v := (σ.1 4 (Int32.toNatClampNeg (σ.1 0 14)))) dX12_clause_264 rfl shM_4 (h5 c1 c2) rfl rfl ?_
      refine ax_iast (q := 266) (a := (Int32.toNatClampNeg x1)) dX12_clause_265 rfl shM_8 (h6 c1 c2) rfl ?_
      refine ax_aload_n (q := 267) (i := 0) dX12_clause_266 rfl rfl rfl ?_
      refine ax_get (q := 270) (k := 0) (j := 9) (v := ax_r 5) dX12_clause_267 rfl shM_0 rfl rfl rfl (by decide) fl_X12_22 ?_
      refine ax_aload_n (q := 271) (i := 0) dX12_clause_270 rfl rfl rfl ?_
      refine ax_get (q := 274) (k := 0) (j := 14) (v := ax_i (σ.1 0 14)) dX12_clause_271 rfl shM_0 rfl rfl rfl (by decide) fl_X12_128 ?_
      refine ax_dup2_11 (q := 275) dX12_clause_274 rfl ?_
      refine ax_iald (q := 276) (a := (Int32.toNatClampNeg (σ.1 0 14))) (v := (σ.1 5 (Int32.toNatClampNeg (σ.1 0 14)))) dX12_clause_275 rfl shM_5 (h5 c1 c2) rfl rfl ?_
      refine ax_iconst (q := 277) dX12_clause_276 rfl ki_1 ?_
      refine ax_iadd (q := 278) dX12_clause_277 rfl ?_
      refine ax_iast (q := 279) (a := (Int32.toNatClampNeg (σ.1 0 14))) dX12_clause_278 rfl shM_5 (h5 c1 c2) rfl ?_
      exact ax_vret dX12_clause_279 rfl (k7 c1 c2)
    · refine ax_aload_n (q := 209) (i := 0) dX12_clause_208 rfl rfl rfl ?_
      refine ax_fg (lv2 := [some (ax_r 0), some (ax_i x1), none]) ⟨rfl, rfl, trivial⟩ ?_
      exact ax_callVci (q := 212) (As := []) (st := []) dX12_clause_209 rfl lk_X12_137 shM_0 rfl rfl rfl rfl (Nat.le_of_ble_eq_true rfl) (k8 c1 c2)
set_option maxRecDepth 20000 in
theorem s_X12_clause_144 {d : Nat} (hd : 0 ≤ d) {Q : Option ax_V → ax_S → Prop} (σ : ax_S) (x1 : Int32) (h1 : (¬ (σ.1 0 4) = (-1 : Int32)) → ((0 : Int32) = 0) → vp_in x1 700) (h2 : (¬ (σ.1 0 4) = (-1 : Int32)) → ((0 : Int32) = 0) → vp_in (σ.1 0 14) 5) (k3 : (¬ (σ.1 0 4) = (-1 : Int32)) → ((0 : Int32) = 0) → Q none (ax_ui (ax_ui (ax_ui σ 7 (Int32.toNatClampNeg x1) (σ.1 6 (Int32.toNatClampNeg x1))) 8 (Int32.toNatClampNeg x1) (σ.1 4 (Int32.toNatClampNeg (σ.1 0 14)))) 5 (Int32.toNatClampNeg (σ.1 0 14)) ((σ.1 5 (Int32.toNatClampNeg (σ.1 0 14))) + (1 : Int32)))) (k4 : (¬ (σ.1 0 4) = (-1 : Int32)) → (¬ ((0 : Int32) = 0)) → ax_Ct shM d mX12_compare [ax_r 0] (fun r u => r = none ∧ ax_W shM (d + 1) mX12_clause Q 176 [some (ax_r 0), some (ax_i x1), some (ax_i (0 : Int32))] [] u) σ) (k5 : (¬ (¬ (σ.1 0 4) = (-1 : Int32))) → ax_Ct shM d mX12_look [ax_r 0] (fun r u => ∃ x : Int32, r = some (ax_i x) ∧ ax_W shM (d + 1) mX12_clause Q 156 [some (ax_r 0), some (ax_i x1), none] (ax_i x :: []) u) σ) : ax_W shM (d + 1) mX12_clause Q 144 [some (ax_r 0), some (ax_i x1), none] [] σ := by
  refine ax_aload_n (q := 145) (i := 0) dX12_clause_144 rfl rfl rfl ?_
  refine ax_get (q := 148) (k := 0) (j := 4) (v := ax_i (σ.1 0 4)) dX12_clause_145 rfl shM_0 rfl rfl rfl (by decide) fl_X12_125 ?_
  refine ax_iconst (q := 149) dX12_clause_148 rfl ki_m1 ?_
  refine ax_icmp_ne (tgt := 166) (q := 152) dX12_clause_149 (by decide) rfl (fun c1 => ?_) (fun c1 => ?_)
  · refine ax_iconst (q := 167) dX12_clause_166 rfl ki_0 ?_
    refine ax_istore_n (q := 168) (i := 2) (lv2 := [some (ax_r 0), some (ax_i x1), some (ax_i (0 : Int32))]) dX12_clause_167 rfl rfl (by decide) rfl rfl ?_
    refine ax_iload_n (q := 169) (i := 2) dX12_clause_168 rfl rfl rfl ?_
    refine ax_if_eq (tgt := 184) (q := 172) dX12_clause_169 (by decide) rfl (fun c2 => ?_) (fun c2 => ?_)
    · refine ax_aload_n (q := 185) (i := 0) dX12_clause_184 rfl rfl rfl ?_
      refine ax_get (q := 188) (k := 0) (j := 11) (v := ax_r 7) dX12_clause_185 rfl shM_0 rfl rfl rfl (by decide) fl_X12_28 ?_
      refine ax_iload_n (q := 189) (i := 1) dX12_clause_188 rfl rfl rfl ?_
      refine ax_aload_n (q := 190) (i := 0) dX12_clause_189 rfl rfl rfl ?_
      refine ax_get (q := 193) (k := 0) (j := 10) (v := ax_r 6) dX12_clause_190 rfl shM_0 rfl rfl rfl (by decide) fl_X12_25 ?_
      refine ax_iload_n (q := 194) (i := 1) dX12_clause_193 rfl rfl rfl ?_
      refine ax_iald (q := 195) (a := (Int32.toNatClampNeg x1)) (v := (σ.1 6 (Int32.toNatClampNeg x1))) dX12_clause_194 rfl shM_6 (h1 c1 c2) rfl rfl ?_
      refine ax_iast (q := 196) (a := (Int32.toNatClampNeg x1)) dX12_clause_195 rfl shM_7 (h1 c1 c2) rfl ?_
      refine ax_iload_n (q := 197) (i := 2) dX12_clause_196 rfl rfl rfl ?_
      refine ax_if_eq (tgt := 251) (q := 200) dX12_clause_197 (by decide) rfl (fun c3 => ?_) (fun c3 => ?_)
      · refine ax_aload_n (q := 252) (i := 0) dX12_clause_251 rfl rfl rfl ?_
        refine ax_get (q := 255) (k := 0) (j := 12) (v := ax_r 8) dX12_clause_252 rfl shM_0 rfl rfl rfl (by decide) fl_X12_31 ?_
        refine ax_iload_n (q := 256) (i := 1) dX12_clause_255 rfl rfl rfl ?_
        refine ax_aload_n (q := 257) (i := 0) dX12_clause_256 rfl rfl rfl ?_
        refine ax_get (q := 260) (k := 0) (j := 8) (v := ax_r 4) dX12_clause_257 rfl shM_0 rfl rfl rfl (by decide) fl_X12_19 ?_
        refine ax_aload_n (q := 261) (i := 0) dX12_clause_260 rfl rfl rfl ?_
        refine ax_get (q := 264) (k := 0) (j := 14) (v := ax_i (σ.1 0 14)) dX12_clause_261 rfl shM_0 rfl rfl rfl (by decide) fl_X12_128 ?_
        refine ax_iald (q := 265) (a := (Int32.toNatClampNeg (σ.1 0 14))) (v := (σ.1 4 (Int32.toNatClampNeg (σ.1 0 14)))) dX12_clause_264 rfl shM_4 (h2 c1 c2) rfl rfl ?_
        refine ax_iast (q := 266) (a := (Int32.toNatClampNeg x1)) dX12_clause_265 rfl shM_8 (h1 c1 c2) rfl ?_
        refine ax_aload_n (q := 267) (i := 0) dX12_clause_266 rfl rfl rfl ?_
        refine ax_get (q := 270) (k := 0) (j := 9) (v := ax_r 5) dX12_clause_267 rfl shM_0 rfl rfl rfl (by decide) fl_X12_22 ?_
        refine ax_aload_n (q := 271) (i := 0) dX12_clause_270 rfl rfl rfl ?_
        refine ax_get (q := 274) (k := 0) (j := 14) (v := ax_i (σ.1 0 14)) dX12_clause_271 rfl shM_0 rfl rfl rfl (by decide) fl_X12_128 ?_
        refine ax_dup2_11 (q := 275) dX12_clause_274 rfl ?_
        refine ax_iald (q := 276) (a := (Int32.toNatClampNeg (σ.1 0 14))) (v := (σ.1 5 (Int32.toNatClampNeg (σ.1 0 14)))) dX12_clause_275 rfl shM_5 (h2 c1 c2) rfl rfl ?_
        refine ax_iconst (q := 277) dX12_clause_276 rfl ki_1 ?_
        refine ax_iadd (q := 278) dX12_clause_277 rfl ?_
        refine ax_iast (q := 279) (a := (Int32.toNatClampNeg (σ.1 0 14))) dX12_clause_278 rfl shM_5 (h2 c1 c2) rfl ?_
        exact ax_vret dX12_clause_279 rfl (k3 c1 c2)
      · exact absurd c2 c3
    · refine ax_aload_n (q := 173) (i := 0) dX12_clause_172 rfl rfl rfl ?_
      exact ax_callVcv (q := 176) (As := []) (st := []) dX12_clause_173 rfl lk_X12_180 shM_0 rfl rfl rfl rfl (Nat.le_of_ble_eq_true rfl) (k4 c1 c2)
  · refine ax_aload_n (q := 153) (i := 0) dX12_clause_152 rfl rfl rfl ?_
    exact ax_callVci (q := 156) (As := []) (st := []) dX12_clause_153 rfl lk_X12_137 shM_0 rfl rfl rfl rfl (Nat.le_of_ble_eq_true rfl) (k5 c1)
set_option maxRecDepth 20000 in
theorem s_X12_clause_62 {d : Nat} (hd : 1 ≤ d) {Q : Option ax_V → ax_S → Prop} (σ : ax_S) (x1 : Int32) (rr : Int32) (h1 : (rr = (58 : Int32)) → ((σ.1 0 4) = (-1 : Int32)) → vp_in (σ.1 0 14) 5) (h2 : (rr = (58 : Int32)) → ((σ.1 0 4) = (-1 : Int32)) → vp_in x1 700) (k3 : (rr = (58 : Int32)) → ((σ.1 0 4) = (-1 : Int32)) → ax_Ct shM d mX12_look [ax_r 0] (fun r u => ∃ x : Int32, r = some (ax_i x) ∧ ax_W shM (d + 1) mX12_clause Q 109 [some (ax_r 0), some (ax_i x1), none] (ax_i x :: []) u) (ax_ui (ax_ui σ 0 3 ((σ.1 0 3) + (1 : Int32))) 6 (Int32.toNatClampNeg x1) (σ.1 4 (Int32.toNatClampNeg (σ.1 0 14))))) (k4 : (rr = (58 : Int32)) → (¬ ((σ.1 0 4) = (-1 : Int32))) → Q none (ax_ui σ 0 3 ((σ.1 0 3) + (1 : Int32)))) (h5 : (¬ (rr = (58 : Int32))) → ((if (¬ (σ.1 0 4) = (-1 : Int32)) then (σ.1 0 4) else (σ.1 0 3)) = (-1 : Int32)) → vp_in (σ.1 0 14) 5) (h6 : (¬ (rr = (58 : Int32))) → ((if (¬ (σ.1 0 4) = (-1 : Int32)) then (σ.1 0 4) else (σ.1 0 3)) = (-1 : Int32)) → vp_in x1 700) (k7 : (¬ (rr = (58 : Int32))) → ((if (¬ (σ.1 0 4) = (-1 : Int32)) then (σ.1 0 4) else (σ.1 0 3)) = (-1 : Int32)) → ax_Ct shM d mX12_look [ax_r 0] (fun r u => ∃ x : Int32, r = some (ax_i x) ∧ ax_W shM (d + 1) mX12_clause Q 109 [some (ax_r 0), some (ax_i x1), none] (ax_i x :: []) u) (ax_ui (ax_ui (ax_ui σ 0 4 (if (¬ (σ.1 0 4) = (-1 : Int32)) then (σ.1 0 4) else (σ.1 0 3))) 0 3 ((σ.1 0 3) + (1 : Int32))) 6 (Int32.toNatClampNeg x1) (σ.1 4 (Int32.toNatClampNeg (σ.1 0 14))))) (k8 : (¬ (rr = (58 : Int32))) → (¬ ((if (¬ (σ.1 0 4) = (-1 : Int32)) then (σ.1 0 4) else (σ.1 0 3)) = (-1 : Int32))) → Q none (ax_ui (ax_ui σ 0 4 (if (¬ (σ.1 0 4) = (-1 : Int32)) then (σ.1 0 4) else (σ.1 0 3))) 0 3 ((σ.1 0 3) + (1 : Int32)))) : ax_W shM (d + 1) mX12_clause Q 62 [some (ax_r 0), some (ax_i x1), none] [ax_i rr] σ := by
  refine ax_bipush (q := 64) dX12_clause_62 rfl kb_58 ?_
  refine ax_icmp_eq (tgt := 71) (q := 67) dX12_clause_64 (by decide) rfl (fun c1 => ?_) (fun c1 => ?_)
  · refine ax_aload_n (q := 72) (i := 0) dX12_clause_71 rfl rfl rfl ?_
    refine ax_dupr (q := 73) dX12_clause_72 rfl ?_
    refine ax_get (q := 76) (k := 0) (j := 3) (v := ax_i (σ.1 0 3)) dX12_clause_73 rfl shM_0 rfl rfl rfl (by decide) fl_X12_118 ?_
    refine ax_iconst (q := 77) dX12_clause_76 rfl ki_1 ?_
    refine ax_iadd (q := 78) dX12_clause_77 rfl ?_
    refine ax_puti (q := 81) (k := 0) (j := 3) dX12_clause_78 rfl shM_0 rfl rfl (by decide) fl_X12_118 rfl rfl rfl rfl ?_
    refine ax_aload_n (q := 82) (i := 0) dX12_clause_81 rfl rfl rfl ?_
    refine ax_get (q := 85) (k := 0) (j := 4) (v := ax_i (σ.1 0 4)) dX12_clause_82 rfl shM_0 rfl rfl rfl (by decide) fl_X12_125 ?_
    refine ax_iconst (q := 86) dX12_clause_85 rfl ki_m1 ?_
    refine ax_icmp_eq (tgt := 90) (q := 89) dX12_clause_86 (by decide) rfl (fun c2 => ?_) (fun c2 => ?_)
    · refine ax_aload_n (q := 91) (i := 0) dX12_clause_90 rfl rfl rfl ?_
      refine ax_get (q := 94) (k := 0) (j := 10) (v := ax_r 6) dX12_clause_91 rfl shM_0 rfl rfl rfl (by decide) fl_X12_25 ?_
      refine ax_iload_n (q := 95) (i := 1) dX12_clause_94 rfl rfl rfl ?_
      refine ax_aload_n (q := 96) (i := 0) dX12_clause_95 rfl rfl rfl ?_
      refine ax_get (q := 99) (k := 0) (j := 8) (v := ax_r 4) dX12_clause_96 rfl shM_0 rfl rfl rfl (by decide) fl_X12_19 ?_
      refine ax_aload_n (q := 100) (i := 0) dX12_clause_99 rfl rfl rfl ?_
      refine ax_get (q := 103) (k := 0) (j := 14) (v := ax_i (σ.1 0 14)) dX12_clause_100 rfl shM_0 rfl rfl rfl (by decide) fl_X12_128 ?_
      refine ax_iald (q := 104) (a := (Int32.toNatClampNeg (σ.1 0 14))) (v := (σ.1 4 (Int32.toNatClampNeg (σ.1 0 14)))) dX12_clause_103 rfl shM_4 (h1 c1 c2) rfl rfl ?_
      refine ax_iast (q := 105) (a := (Int32.toNatClampNeg x1)) dX12_clause_104 rfl shM_6 (h2 c1 c2) rfl ?_
      refine ax_aload_n (q := 106) (i := 0) dX12_clause_105 rfl rfl rfl ?_
      exact ax_callVci (q := 109) (As := []) (st := []) dX12_clause_106 rfl lk_X12_137 shM_0 rfl rfl rfl rfl (Nat.le_of_ble_eq_true rfl) (k3 c1 c2)
    · exact ax_vret dX12_clause_89 rfl (k4 c1 c2)
  · refine ax_aload_n (q := 68) (i := 0) dX12_clause_67 rfl rfl rfl ?_
    refine ax_callVfv (q := 71) (As := []) (st := []) (σ2 := (ax_ui σ 0 4 (if (¬ (σ.1 0 4) = (-1 : Int32)) then (σ.1 0 4) else (σ.1 0 3)))) dX12_clause_68 rfl lk_X12_134 shM_0 rfl rfl rfl rfl (Nat.le_of_ble_eq_true rfl) (f_X12_bad σ   (d := d) (by omega)) ?_
    refine ax_aload_n (q := 72) (i := 0) dX12_clause_71 rfl rfl rfl ?_
    refine ax_dupr (q := 73) dX12_clause_72 rfl ?_
    refine ax_get (q := 76) (k := 0) (j := 3) (v := ax_i (σ.1 0 3)) dX12_clause_73 rfl shM_0 rfl rfl rfl (by decide) fl_X12_118 ?_
    refine ax_iconst (q := 77) dX12_clause_76 rfl ki_1 ?_
    refine ax_iadd (q := 78) dX12_clause_77 rfl ?_
    refine ax_puti (q := 81) (k := 0) (j := 3) dX12_clause_78 rfl shM_0 rfl rfl (by decide) fl_X12_118 rfl rfl rfl rfl ?_
    refine ax_aload_n (q := 82) (i := 0) dX12_clause_81 rfl rfl rfl ?_
    refine ax_get (q := 85) (k := 0) (j := 4) (v := ax_i (if (¬ (σ.1 0 4) = (-1 : Int32)) then (σ.1 0 4) else (σ.1 0 3))) dX12_clause_82 rfl shM_0 rfl rfl rfl (by decide) fl_X12_125 ?_
    refine ax_iconst (q := 86) dX12_clause_85 rfl ki_m1 ?_
    refine ax_icmp_eq (tgt := 90) (q := 89) dX12_clause_86 (by decide) rfl (fun c3 => ?_) (fun c3 => ?_)
    · refine ax_aload_n (q := 91) (i := 0) dX12_clause_90 rfl rfl rfl ?_
      refine ax_get (q := 94) (k := 0) (j := 10) (v := ax_r 6) dX12_clause_91 rfl shM_0 rfl rfl rfl (by decide) fl_X12_25 ?_
      refine ax_iload_n (q := 95) (i := 1) dX12_clause_94 rfl rfl rfl ?_
      refine ax_aload_n (q := 96) (i := 0) dX12_clause_95 rfl rfl rfl ?_
      refine ax_get (q := 99) (k := 0) (j := 8) (v := ax_r 4) dX12_clause_96 rfl shM_0 rfl rfl rfl (by decide) fl_X12_19 ?_
      refine ax_aload_n (q := 100) (i := 0) dX12_clause_99 rfl rfl rfl ?_
      refine ax_get (q := 103) (k := 0) (j := 14) (v := ax_i (σ.1 0 14)) dX12_clause_100 rfl shM_0 rfl rfl rfl (by decide) fl_X12_128 ?_
      refine ax_iald (q := 104) (a := (Int32.toNatClampNeg (σ.1 0 14))) (v := (σ.1 4 (Int32.toNatClampNeg (σ.1 0 14)))) dX12_clause_103 rfl shM_4 (h5 c1 c3) rfl rfl ?_
      refine ax_iast (q := 105) (a := (Int32.toNatClampNeg x1)) dX12_clause_104 rfl shM_6 (h6 c1 c3) rfl ?_
      refine ax_aload_n (q := 106) (i := 0) dX12_clause_105 rfl rfl rfl ?_
      exact ax_callVci (q := 109) (As := []) (st := []) dX12_clause_106 rfl lk_X12_137 shM_0 rfl rfl rfl rfl (Nat.le_of_ble_eq_true rfl) (k7 c1 c3)
    · exact ax_vret dX12_clause_89 rfl (k8 c1 c3)
set_option maxRecDepth 20000 in
theorem s_X12_clause_212 {d : Nat} (hd : 1 ≤ d) {Q : Option ax_V → ax_S → Prop} (σ : ax_S) (x1 : Int32) (rr : Int32) (h1 : (rr = (63 : Int32)) → vp_in (σ.1 0 14) 5) (h2 : (rr = (63 : Int32)) → vp_in x1 700) (k3 : (rr = (63 : Int32)) → ax_Ct shM d mX12_sum [ax_r 0] (fun r u => r = none ∧ ax_W shM (d + 1) mX12_clause Q 251 [some (ax_r 0), some (ax_i x1), none] [] u) (ax_ui (ax_ui σ 0 3 ((σ.1 0 3) + (1 : Int32))) 7 (Int32.toNatClampNeg x1) (σ.1 4 (Int32.toNatClampNeg (σ.1 0 14))))) (k4 : (¬ (rr = (63 : Int32))) → Q none (ax_ui σ 0 4 (if (¬ (σ.1 0 4) = (-1 : Int32)) then (σ.1 0 4) else (σ.1 0 3)))) : ax_W shM (d + 1) mX12_clause Q 212 [some (ax_r 0), some (ax_i x1), none] [ax_i rr] σ := by
  refine ax_bipush (q := 214) dX12_clause_212 rfl kb_63 ?_
  refine ax_icmp_eq (tgt := 222) (q := 217) dX12_clause_214 (by decide) rfl (fun c1 => ?_) (fun c1 => ?_)
  · refine ax_aload_n (q := 223) (i := 0) dX12_clause_222 rfl rfl rfl ?_
    refine ax_dupr (q := 224) dX12_clause_223 rfl ?_
    refine ax_get (q := 227) (k := 0) (j := 3) (v := ax_i (σ.1 0 3)) dX12_clause_224 rfl shM_0 rfl rfl rfl (by decide) fl_X12_118 ?_
    refine ax_iconst (q := 228) dX12_clause_227 rfl ki_1 ?_
    refine ax_iadd (q := 229) dX12_clause_228 rfl ?_
    refine ax_puti (q := 232) (k := 0) (j := 3) dX12_clause_229 rfl shM_0 rfl rfl (by decide) fl_X12_118 rfl rfl rfl rfl ?_
    refine ax_aload_n (q := 233) (i := 0) dX12_clause_232 rfl rfl rfl ?_
    refine ax_get (q := 236) (k := 0) (j := 11) (v := ax_r 7) dX12_clause_233 rfl shM_0 rfl rfl rfl (by decide) fl_X12_28 ?_
    refine ax_iload_n (q := 237) (i := 1) dX12_clause_236 rfl rfl rfl ?_
    refine ax_aload_n (q := 238) (i := 0) dX12_clause_237 rfl rfl rfl ?_
    refine ax_get (q := 241) (k := 0) (j := 8) (v := ax_r 4) dX12_clause_238 rfl shM_0 rfl rfl rfl (by decide) fl_X12_19 ?_
    refine ax_aload_n (q := 242) (i := 0) dX12_clause_241 rfl rfl rfl ?_
    refine ax_get (q := 245) (k := 0) (j := 14) (v := ax_i (σ.1 0 14)) dX12_clause_242 rfl shM_0 rfl rfl rfl (by decide) fl_X12_128 ?_
    refine ax_iald (q := 246) (a := (Int32.toNatClampNeg (σ.1 0 14))) (v := (σ.1 4 (Int32.toNatClampNeg (σ.1 0 14)))) dX12_clause_245 rfl shM_4 (h1 c1) rfl rfl ?_
    refine ax_iast (q := 247) (a := (Int32.toNatClampNeg x1)) dX12_clause_246 rfl shM_7 (h2 c1) rfl ?_
    refine ax_aload_n (q := 248) (i := 0) dX12_clause_247 rfl rfl rfl ?_
    exact ax_callVcv (q := 251) (As := []) (st := []) dX12_clause_248 rfl lk_X12_158 shM_0 rfl rfl rfl rfl (Nat.le_of_ble_eq_true rfl) (k3 c1)
  · refine ax_aload_n (q := 218) (i := 0) dX12_clause_217 rfl rfl rfl ?_
    refine ax_callVfv (q := 221) (As := []) (st := []) (σ2 := (ax_ui σ 0 4 (if (¬ (σ.1 0 4) = (-1 : Int32)) then (σ.1 0 4) else (σ.1 0 3)))) dX12_clause_218 rfl lk_X12_134 shM_0 rfl rfl rfl rfl (Nat.le_of_ble_eq_true rfl) (f_X12_bad σ   (d := d) (by omega)) ?_
    exact ax_vret dX12_clause_221 rfl (k4 c1)
set_option maxRecDepth 20000 in
theorem s_X12_clause_156 {d : Nat} (hd : 1 ≤ d) {Q : Option ax_V → ax_S → Prop} (σ : ax_S) (x1 : Int32) (rr : Int32) (h1 : (¬ ((rr = (61 : Int32)) ∨ ((rr = (60 : Int32)) ∨ (¬ (¬ rr = (62 : Int32)))))) → vp_in x1 700) (h2 : (¬ ((rr = (61 : Int32)) ∨ ((rr = (60 : Int32)) ∨ (¬ (¬ rr = (62 : Int32)))))) → vp_in (σ.1 0 14) 5) (k3 : (¬ ((rr = (61 : Int32)) ∨ ((rr = (60 : Int32)) ∨ (¬ (¬ rr = (62 : Int32)))))) → Q none (ax_ui (ax_ui (ax_ui σ 7 (Int32.toNatClampNeg x1) (σ.1 6 (Int32.toNatClampNeg x1))) 8 (Int32.toNatClampNeg x1) (σ.1 4 (Int32.toNatClampNeg (σ.1 0 14)))) 5 (Int32.toNatClampNeg (σ.1 0 14)) ((σ.1 5 (Int32.toNatClampNeg (σ.1 0 14))) + (1 : Int32)))) (k4 : ((rr = (61 : Int32)) ∨ ((rr = (60 : Int32)) ∨ (¬ (¬ rr = (62 : Int32))))) → ax_Ct shM d mX12_compare [ax_r 0] (fun r u => r = none ∧ ax_W shM (d + 1) mX12_clause Q 176 [some (ax_r 0), some (ax_i x1), some (ax_i (if ((rr = (61 : Int32)) ∨ ((rr = (60 : Int32)) ∨ (¬ (¬ rr = (62 : Int32))))) then (1 : Int32) else 0))] [] u) σ) : ax_W shM (d + 1) mX12_clause Q 156 [some (ax_r 0), some (ax_i x1), none] [ax_i rr] σ := by
  refine ax_callSfi (q := 159) (As := [ax_i rr]) (st := []) (x := (if ((rr = (61 : Int32)) ∨ ((rr = (60 : Int32)) ∨ (¬ (¬ rr = (62 : Int32))))) then (1 : Int32) else 0)) (σ2 := σ) dX12_clause_156 rfl lk_X12_171 rfl rfl (Nat.le_of_ble_eq_true rfl) (f_X12_isSign (sh := shM) σ rr  (d := d) (by omega)) ?_
  have K2 : ax_W shM (d + 1) mX12_clause Q 167 [some (ax_r 0), some (ax_i x1), none] [ax_i (if ((rr = (61 : Int32)) ∨ ((rr = (60 : Int32)) ∨ (¬ (¬ rr = (62 : Int32))))) then (1 : Int32) else 0)] σ := by
    refine ax_istore_n (q := 168) (i := 2) (lv2 := [some (ax_r 0), some (ax_i x1), some (ax_i (if ((rr = (61 : Int32)) ∨ ((rr = (60 : Int32)) ∨ (¬ (¬ rr = (62 : Int32))))) then (1 : Int32) else 0))]) dX12_clause_167 rfl rfl (by decide) rfl rfl ?_
    refine ax_iload_n (q := 169) (i := 2) dX12_clause_168 rfl rfl rfl ?_
    refine ax_if_eqB (tgt := 184) (q := 172) dX12_clause_169 (by decide) rfl (fun c3 => ?_) (fun c3 => ?_)
    · refine ax_aload_n (q := 185) (i := 0) dX12_clause_184 rfl rfl rfl ?_
      refine ax_get (q := 188) (k := 0) (j := 11) (v := ax_r 7) dX12_clause_185 rfl shM_0 rfl rfl rfl (by decide) fl_X12_28 ?_
      refine ax_iload_n (q := 189) (i := 1) dX12_clause_188 rfl rfl rfl ?_
      refine ax_aload_n (q := 190) (i := 0) dX12_clause_189 rfl rfl rfl ?_
      refine ax_get (q := 193) (k := 0) (j := 10) (v := ax_r 6) dX12_clause_190 rfl shM_0 rfl rfl rfl (by decide) fl_X12_25 ?_
      refine ax_iload_n (q := 194) (i := 1) dX12_clause_193 rfl rfl rfl ?_
      refine ax_iald (q := 195) (a := (Int32.toNatClampNeg x1)) (v := (σ.1 6 (Int32.toNatClampNeg x1))) dX12_clause_194 rfl shM_6 (h1 c3) rfl rfl ?_
      refine ax_iast (q := 196) (a := (Int32.toNatClampNeg x1)) dX12_clause_195 rfl shM_7 (h1 c3) rfl ?_
      refine ax_iload_n (q := 197) (i := 2) dX12_clause_196 rfl rfl rfl ?_
      refine ax_if_eqB (tgt := 251) (q := 200) dX12_clause_197 (by decide) rfl (fun c4 => ?_) (fun c4 => ?_)
      · refine ax_aload_n (q := 252) (i := 0) dX12_clause_251 rfl rfl rfl ?_
        refine ax_get (q := 255) (k := 0) (j := 12) (v := ax_r 8) dX12_clause_252 rfl shM_0 rfl rfl rfl (by decide) fl_X12_31 ?_
        refine ax_iload_n (q := 256) (i := 1) dX12_clause_255 rfl rfl rfl ?_
        refine ax_aload_n (q := 257) (i := 0) dX12_clause_256 rfl rfl rfl ?_
        refine ax_get (q := 260) (k := 0) (j := 8) (v := ax_r 4) dX12_clause_257 rfl shM_0 rfl rfl rfl (by decide) fl_X12_19 ?_
        refine ax_aload_n (q := 261) (i := 0) dX12_clause_260 rfl rfl rfl ?_
        refine ax_get (q := 264) (k := 0) (j := 14) (v := ax_i (σ.1 0 14)) dX12_clause_261 rfl shM_0 rfl rfl rfl (by decide) fl_X12_128 ?_
        refine ax_iald (q := 265) (a := (Int32.toNatClampNeg (σ.1 0 14))) (v := (σ.1 4 (Int32.toNatClampNeg (σ.1 0 14)))) dX12_clause_264 rfl shM_4 (h2 c3) rfl rfl ?_
        refine ax_iast (q := 266) (a := (Int32.toNatClampNeg x1)) dX12_clause_265 rfl shM_8 (h1 c3) rfl ?_
        refine ax_aload_n (q := 267) (i := 0) dX12_clause_266 rfl rfl rfl ?_
        refine ax_get (q := 270) (k := 0) (j := 9) (v := ax_r 5) dX12_clause_267 rfl shM_0 rfl rfl rfl (by decide) fl_X12_22 ?_
        refine ax_aload_n (q := 271) (i := 0) dX12_clause_270 rfl rfl rfl ?_
        refine ax_get (q := 274) (k := 0) (j := 14) (v := ax_i (σ.1 0 14)) dX12_clause_271 rfl shM_0 rfl rfl rfl (by decide) fl_X12_128 ?_
        refine ax_dup2_11 (q := 275) dX12_clause_274 rfl ?_
        refine ax_iald (q := 276) (a := (Int32.toNatClampNeg (σ.1 0 14))) (v := (σ.1 5 (Int32.toNatClampNeg (σ.1 0 14)))) dX12_clause_275 rfl shM_5 (h2 c3) rfl rfl ?_
        refine ax_iconst (q := 277) dX12_clause_276 rfl ki_1 ?_
        refine ax_iadd (q := 278) dX12_clause_277 rfl ?_
        refine ax_iast (q := 279) (a := (Int32.toNatClampNeg (σ.1 0 14))) dX12_clause_278 rfl shM_5 (h2 c3) rfl ?_
        exact ax_vret dX12_clause_279 rfl (k3 c3)
      · exact absurd c4 c3
    · refine ax_aload_n (q := 173) (i := 0) dX12_clause_172 rfl rfl rfl ?_
      exact ax_callVcv (q := 176) (As := []) (st := []) dX12_clause_173 rfl lk_X12_180 shM_0 rfl rfl rfl rfl (Nat.le_of_ble_eq_true rfl) (k4 c3)
  refine ax_if_eqB (tgt := 166) (q := 162) dX12_clause_159 (by decide) rfl (fun c1 => ?_) (fun c1 => ?_)
  · refine ax_iconst (q := 167) dX12_clause_166 rfl ki_0 ?_
    exact ax_cv (if_neg c1) K2
  · refine ax_iconst (q := 163) dX12_clause_162 rfl ki_1 ?_
    refine ax_goto (tgt := 167) dX12_clause_163 (by decide) ?_
    exact ax_cv (if_pos c1) K2
set_option maxRecDepth 20000 in
theorem s_X12_clause_176 {d : Nat} (hd : 0 ≤ d) {Q : Option ax_V → ax_S → Prop} (σ : ax_S) (x1 : Int32) (x2 : Int32) (k1 : ax_Ct shM d mX12_goOnAnd [ax_r 0] (fun r u => r = none ∧ ax_W shM (d + 1) mX12_clause Q 180 [some (ax_r 0), some (ax_i x1), some (ax_i x2)] [] u) σ) : ax_W shM (d + 1) mX12_clause Q 176 [some (ax_r 0), some (ax_i x1), some (ax_i x2)] [] σ := by
  refine ax_aload_n (q := 177) (i := 0) dX12_clause_176 rfl rfl rfl ?_
  exact ax_callVcv (q := 180) (As := []) (st := []) dX12_clause_177 rfl lk_X12_183 shM_0 rfl rfl rfl rfl (Nat.le_of_ble_eq_true rfl) k1
set_option maxRecDepth 20000 in
theorem s_X12_clause_251 {d : Nat} (hd : 0 ≤ d) {Q : Option ax_V → ax_S → Prop} (σ : ax_S) (x1 : Int32) (h1 : vp_in (σ.1 0 14) 5) (h2 : vp_in x1 700) (k3 : Q none (ax_ui (ax_ui σ 8 (Int32.toNatClampNeg x1) (σ.1 4 (Int32.toNatClampNeg (σ.1 0 14)))) 5 (Int32.toNatClampNeg (σ.1 0 14)) ((σ.1 5 (Int32.toNatClampNeg (σ.1 0 14))) + (1 : Int32)))) : ax_W shM (d + 1) mX12_clause Q 251 [some (ax_r 0), some (ax_i x1), none] [] σ := by
  refine ax_aload_n (q := 252) (i := 0) dX12_clause_251 rfl rfl rfl ?_
  refine ax_get (q := 255) (k := 0) (j := 12) (v := ax_r 8) dX12_clause_252 rfl shM_0 rfl rfl rfl (by decide) fl_X12_31 ?_
  refine ax_iload_n (q := 256) (i := 1) dX12_clause_255 rfl rfl rfl ?_
  refine ax_aload_n (q := 257) (i := 0) dX12_clause_256 rfl rfl rfl ?_
  refine ax_get (q := 260) (k := 0) (j := 8) (v := ax_r 4) dX12_clause_257 rfl shM_0 rfl rfl rfl (by decide) fl_X12_19 ?_
  refine ax_aload_n (q := 261) (i := 0) dX12_clause_260 rfl rfl rfl ?_
  refine ax_get (q := 264) (k := 0) (j := 14) (v := ax_i (σ.1 0 14)) dX12_clause_261 rfl shM_0 rfl rfl rfl (by decide) fl_X12_128 ?_
  refine ax_iald (q := 265) (a := (Int32.toNatClampNeg (σ.1 0 14))) (v := (σ.1 4 (Int32.toNatClampNeg (σ.1 0 14)))) dX12_clause_264 rfl shM_4 h1 rfl rfl ?_
  refine ax_iast (q := 266) (a := (Int32.toNatClampNeg x1)) dX12_clause_265 rfl shM_8 h2 rfl ?_
  refine ax_aload_n (q := 267) (i := 0) dX12_clause_266 rfl rfl rfl ?_
  refine ax_get (q := 270) (k := 0) (j := 9) (v := ax_r 5) dX12_clause_267 rfl shM_0 rfl rfl rfl (by decide) fl_X12_22 ?_
  refine ax_aload_n (q := 271) (i := 0) dX12_clause_270 rfl rfl rfl ?_
  refine ax_get (q := 274) (k := 0) (j := 14) (v := ax_i (σ.1 0 14)) dX12_clause_271 rfl shM_0 rfl rfl rfl (by decide) fl_X12_128 ?_
  refine ax_dup2_11 (q := 275) dX12_clause_274 rfl ?_
  refine ax_iald (q := 276) (a := (Int32.toNatClampNeg (σ.1 0 14))) (v := (σ.1 5 (Int32.toNatClampNeg (σ.1 0 14)))) dX12_clause_275 rfl shM_5 h1 rfl rfl ?_
  refine ax_iconst (q := 277) dX12_clause_276 rfl ki_1 ?_
  refine ax_iadd (q := 278) dX12_clause_277 rfl ?_
  refine ax_iast (q := 279) (a := (Int32.toNatClampNeg (σ.1 0 14))) dX12_clause_278 rfl shM_5 h1 rfl ?_
  exact ax_vret dX12_clause_279 rfl k3
set_option maxRecDepth 20000 in
theorem s_X12_clause_180 {d : Nat} (hd : 0 ≤ d) {Q : Option ax_V → ax_S → Prop} (σ : ax_S) (x1 : Int32) (x2 : Int32) (k1 : ax_Ct shM d mX12_goOnOr [ax_r 0] (fun r u => r = none ∧ ax_W shM (d + 1) mX12_clause Q 184 [some (ax_r 0), some (ax_i x1), some (ax_i x2)] [] u) σ) : ax_W shM (d + 1) mX12_clause Q 180 [some (ax_r 0), some (ax_i x1), some (ax_i x2)] [] σ := by
  refine ax_aload_n (q := 181) (i := 0) dX12_clause_180 rfl rfl rfl ?_
  exact ax_callVcv (q := 184) (As := []) (st := []) dX12_clause_181 rfl lk_X12_186 shM_0 rfl rfl rfl rfl (Nat.le_of_ble_eq_true rfl) k1
set_option maxRecDepth 20000 in
theorem s_X12_clause_184 {d : Nat} (hd : 0 ≤ d) {Q : Option ax_V → ax_S → Prop} (σ : ax_S) (x1 : Int32) (x2 : Int32) (h1 : vp_in x1 700) (h2 : (x2 = 0) → vp_in (σ.1 0 14) 5) (h3 : (x2 = 0) → vp_in x1 700) (k4 : (x2 = 0) → Q none (ax_ui (ax_ui (ax_ui σ 7 (Int32.toNatClampNeg x1) (σ.1 6 (Int32.toNatClampNeg x1))) 8 (Int32.toNatClampNeg x1) (σ.1 4 (Int32.toNatClampNeg (σ.1 0 14)))) 5 (Int32.toNatClampNeg (σ.1 0 14)) ((σ.1 5 (Int32.toNatClampNeg (σ.1 0 14))) + (1 : Int32)))) (h5 : (¬ (x2 = 0)) → (¬ (σ.1 0 4) = (-1 : Int32)) → vp_in (σ.1 0 14) 5) (h6 : (¬ (x2 = 0)) → (¬ (σ.1 0 4) = (-1 : Int32)) → vp_in x1 700) (k7 : (¬ (x2 = 0)) → (¬ (σ.1 0 4) = (-1 : Int32)) → Q none (ax_ui (ax_ui (ax_ui σ 7 (Int32.toNatClampNeg x1) (σ.1 6 (Int32.toNatClampNeg x1))) 8 (Int32.toNatClampNeg x1) (σ.1 4 (Int32.toNatClampNeg (σ.1 0 14)))) 5 (Int32.toNatClampNeg (σ.1 0 14)) ((σ.1 5 (Int32.toNatClampNeg (σ.1 0 14))) + (1 : Int32)))) (k8 : (¬ (x2 = 0)) → (¬ (¬ (σ.1 0 4) = (-1 : Int32))) → ax_Ct shM d mX12_look [ax_r 0] (fun r u => ∃ x : Int32, r = some (ax_i x) ∧ ax_W shM (d + 1) mX12_clause Q 212 [some (ax_r 0), some (ax_i x1), none] (ax_i x :: []) u) (ax_ui σ 7 (Int32.toNatClampNeg x1) (σ.1 6 (Int32.toNatClampNeg x1)))) : ax_W shM (d + 1) mX12_clause Q 184 [some (ax_r 0), some (ax_i x1), some (ax_i x2)] [] σ := by
  refine ax_aload_n (q := 185) (i := 0) dX12_clause_184 rfl rfl rfl ?_
  refine ax_get (q := 188) (k := 0) (j := 11) (v := ax_r 7) dX12_clause_185 rfl shM_0 rfl rfl rfl (by decide) fl_X12_28 ?_
  refine ax_iload_n (q := 189) (i := 1) dX12_clause_188 rfl rfl rfl ?_
  refine ax_aload_n (q := 190) (i := 0) dX12_clause_189 rfl rfl rfl ?_
  refine ax_get (q := 193) (k := 0) (j := 10) (v := ax_r 6) dX12_clause_190 rfl shM_0 rfl rfl rfl (by decide) fl_X12_25 ?_
  refine ax_iload_n (q := 194) (i := 1) dX12_clause_193 rfl rfl rfl ?_
  refine ax_iald (q := 195) (a := (Int32.toNatClampNeg x1)) (v := (σ.1 6 (Int32.toNatClampNeg x1))) dX12_clause_194 rfl shM_6 h1 rfl rfl ?_
  refine ax_iast (q := 196) (a := (Int32.toNatClampNeg x1)) dX12_clause_195 rfl shM_7 h1 rfl ?_
  refine ax_iload_n (q := 197) (i := 2) dX12_clause_196 rfl rfl rfl ?_
  refine ax_if_eq (tgt := 251) (q := 200) dX12_clause_197 (by decide) rfl (fun c1 => ?_) (fun c1 => ?_)
  · refine ax_aload_n (q := 252) (i := 0) dX12_clause_251 rfl rfl rfl ?_
    refine ax_get (q := 255) (k := 0) (j := 12) (v := ax_r 8) dX12_clause_252 rfl shM_0 rfl rfl rfl (by decide) fl_X12_31 ?_
    refine ax_iload_n (q := 256) (i := 1) dX12_clause_255 rfl rfl rfl ?_
    refine ax_aload_n (q := 257) (i := 0) dX12_clause_256 rfl rfl rfl ?_
    refine ax_get (q := 260) (k := 0) (j := 8) (v := ax_r 4) dX12_clause_257 rfl shM_0 rfl rfl rfl (by decide) fl_X12_19 ?_
    refine ax_aload_n (q := 261) (i := 0) dX12_clause_260 rfl rfl rfl ?_
    refine ax_get (q := 264) (k := 0) (j := 14) (v := ax_i (σ.1 0 14)) dX12_clause_261 rfl shM_0 rfl rfl rfl (by decide) fl_X12_128 ?_
    refine ax_iald (q := 265) (a := (Int32.toNatClampNeg (σ.1 0 14))) (v := (σ.1 4 (Int32.toNatClampNeg (σ.1 0 14)))) dX12_clause_264 rfl shM_4 (h2 c1) rfl rfl ?_
    refine ax_iast (q := 266) (a := (Int32.toNatClampNeg x1)) dX12_clause_265 rfl shM_8 (h3 c1) rfl ?_
    refine ax_aload_n (q := 267) (i := 0) dX12_clause_266 rfl rfl rfl ?_
    refine ax_get (q := 270) (k := 0) (j := 9) (v := ax_r 5) dX12_clause_267 rfl shM_0 rfl rfl rfl (by decide) fl_X12_22 ?_
    refine ax_aload_n (q := 271) (i := 0) dX12_clause_270 rfl rfl rfl ?_
    refine ax_get (q := 274) (k := 0) (j := 14) (v := ax_i (σ.1 0 14)) dX12_clause_271 rfl shM_0 rfl rfl rfl (by decide) fl_X12_128 ?_
    refine ax_dup2_11 (q := 275) dX12_clause_274 rfl ?_
    refine ax_iald (q := 276) (a := (Int32.toNatClampNeg (σ.1 0 14))) (v := (σ.1 5 (Int32.toNatClampNeg (σ.1 0 14)))) dX12_clause_275 rfl shM_5 (h2 c1) rfl rfl ?_
    refine ax_iconst (q := 277) dX12_clause_276 rfl ki_1 ?_
    refine ax_iadd (q := 278) dX12_clause_277 rfl ?_
    refine ax_iast (q := 279) (a := (Int32.toNatClampNeg (σ.1 0 14))) dX12_clause_278 rfl shM_5 (h2 c1) rfl ?_
    exact ax_vret dX12_clause_279 rfl (k4 c1)
  · refine ax_aload_n (q := 201) (i := 0) dX12_clause_200 rfl rfl rfl ?_
    refine ax_get (q := 204) (k := 0) (j := 4) (v := ax_i (σ.1 0 4)) dX12_clause_201 rfl shM_0 rfl rfl rfl (by decide) fl_X12_125 ?_
    refine ax_iconst (q := 205) dX12_clause_204 rfl ki_m1 ?_
    refine ax_icmp_ne (tgt := 251) (q := 208) dX12_clause_205 (by decide) rfl (fun c2 => ?_) (fun c2 => ?_)
    · refine ax_aload_n (q := 252) (i := 0) dX12_clause_251 rfl rfl rfl ?_
      refine ax_get (q := 255) (k := 0) (j := 12) (v := ax_r 8) dX12_clause_252 rfl shM_0 rfl rfl rfl (by decide) fl_X12_31 ?_
      refine ax_iload_n (q := 256) (i := 1) dX12_clause_255 rfl rfl rfl ?_
      refine ax_aload_n (q := 257) (i := 0) dX12_clause_256 rfl rfl rfl ?_
      refine ax_get (q := 260) (k := 0) (j := 8) (v := ax_r 4) dX12_clause_257 rfl shM_0 rfl rfl rfl (by decide) fl_X12_19 ?_
      refine ax_aload_n (q := 261) (i := 0) dX12_clause_260 rfl rfl rfl ?_
      refine ax_get (q := 264) (k := 0) (j := 14) (v := ax_i (σ.1 0 14)) dX12_clause_261 rfl shM_0 rfl rfl rfl (by decide) fl_X12_128 ?_
      refine ax_iald (q := 265) (a := (Int32.toNatClampNeg (σ.1 0 14))) (v := (σ.1 4 (Int32.toNatClampNeg (σ.1 0 14)))) dX12_clause_264 rfl shM_4 (h5 c1 c2) rfl rfl ?_
      refine ax_iast (q := 266) (a := (Int32.toNatClampNeg x1)) dX12_clause_265 rfl shM_8 (h6 c1 c2) rfl ?_
      refine ax_aload_n (q := 267) (i := 0) dX12_clause_266 rfl rfl rfl ?_
      refine ax_get (q := 270) (k := 0) (j := 9) (v := ax_r 5) dX12_clause_267 rfl shM_0 rfl rfl rfl (by decide) fl_X12_22 ?_
      refine ax_aload_n (q := 271) (i := 0) dX12_clause_270 rfl rfl rfl ?_
      refine ax_get (q := 274) (k := 0) (j := 14) (v := ax_i (σ.1 0 14)) dX12_clause_271 rfl shM_0 rfl rfl rfl (by decide) fl_X12_128 ?_
      refine ax_dup2_11 (q := 275) dX12_clause_274 rfl ?_
      refine ax_iald (q := 276) (a := (Int32.toNatClampNeg (σ.1 0 14))) (v := (σ.1 5 (Int32.toNatClampNeg (σ.1 0 14)))) dX12_clause_275 rfl shM_5 (h5 c1 c2) rfl rfl ?_
      refine ax_iconst (q := 277) dX12_clause_276 rfl ki_1 ?_
      refine ax_iadd (q := 278) dX12_clause_277 rfl ?_
      refine ax_iast (q := 279) (a := (Int32.toNatClampNeg (σ.1 0 14))) dX12_clause_278 rfl shM_5 (h5 c1 c2) rfl ?_
      exact ax_vret dX12_clause_279 rfl (k7 c1 c2)
    · refine ax_aload_n (q := 209) (i := 0) dX12_clause_208 rfl rfl rfl ?_
      refine ax_fg (lv2 := [some (ax_r 0), some (ax_i x1), none]) ⟨rfl, rfl, trivial⟩ ?_
      exact ax_callVci (q := 212) (As := []) (st := []) dX12_clause_209 rfl lk_X12_137 shM_0 rfl rfl rfl rfl (Nat.le_of_ble_eq_true rfl) (k8 c1 c2)
set_option maxRecDepth 20000 in
theorem f_X12_open (σ : ax_S) (a0 : Int32) (h1 : vp_in a0 5) {d : Nat} (hd : 1 ≤ d) : ax_Ct shM d mX12_open [ax_r 0, ax_i a0] (fun r u => r = none ∧ u = (ax_ui (ax_ui (ax_ui (ax_ui (ax_ui (ax_ui σ 0 14 a0) 0 3 (0 : Int32)) 0 4 (-1 : Int32)) 0 5 (0 : Int32)) 4 (Int32.toNatClampNeg a0) (0 : Int32)) 5 (Int32.toNatClampNeg a0) (0 : Int32))) σ := by
  obtain ⟨d, rfl⟩ : ∃ e, d = e + 1 := ⟨d - 1, by omega⟩
  refine ax_Ct.of (lv := [some (ax_r 0), some (ax_i a0)]) (by decide +kernel) (fun ad => Nat.le_of_ble_eq_true rfl) (fun ad => rfl) ?_
  refine ax_aload_n (q := 1) (i := 0) dX12_open_0 rfl rfl rfl ?_
  refine ax_iload_n (q := 2) (i := 1) dX12_open_1 rfl rfl rfl ?_
  refine ax_puti (q := 5) (k := 0) (j := 14) dX12_open_2 rfl shM_0 rfl rfl (by decide) fl_X12_128 rfl rfl rfl rfl ?_
  refine ax_aload_n (q := 6) (i := 0) dX12_open_5 rfl rfl rfl ?_
  refine ax_iconst (q := 7) dX12_open_6 rfl ki_0 ?_
  refine ax_puti (q := 10) (k := 0) (j := 3) dX12_open_7 rfl shM_0 rfl rfl (by decide) fl_X12_118 rfl rfl rfl rfl ?_
  refine ax_aload_n (q := 11) (i := 0) dX12_open_10 rfl rfl rfl ?_
  refine ax_iconst (q := 12) dX12_open_11 rfl ki_m1 ?_
  refine ax_puti (q := 15) (k := 0) (j := 4) dX12_open_12 rfl shM_0 rfl rfl (by decide) fl_X12_125 rfl rfl rfl rfl ?_
  refine ax_aload_n (q := 16) (i := 0) dX12_open_15 rfl rfl rfl ?_
  refine ax_iconst (q := 17) dX12_open_16 rfl ki_0 ?_
  refine ax_puti (q := 20) (k := 0) (j := 5) dX12_open_17 rfl shM_0 rfl rfl (by decide) fl_X12_131 rfl rfl rfl rfl ?_
  refine ax_aload_n (q := 21) (i := 0) dX12_open_20 rfl rfl rfl ?_
  refine ax_get (q := 24) (k := 0) (j := 8) (v := ax_r 4) dX12_open_21 rfl shM_0 rfl rfl rfl (by decide) fl_X12_19 ?_
  refine ax_iload_n (q := 25) (i := 1) dX12_open_24 rfl rfl rfl ?_
  refine ax_iconst (q := 26) dX12_open_25 rfl ki_0 ?_
  refine ax_iast (q := 27) (a := (Int32.toNatClampNeg a0)) dX12_open_26 rfl shM_4 h1 rfl ?_
  refine ax_aload_n (q := 28) (i := 0) dX12_open_27 rfl rfl rfl ?_
  refine ax_get (q := 31) (k := 0) (j := 9) (v := ax_r 5) dX12_open_28 rfl shM_0 rfl rfl rfl (by decide) fl_X12_22 ?_
  refine ax_iload_n (q := 32) (i := 1) dX12_open_31 rfl rfl rfl ?_
  refine ax_iconst (q := 33) dX12_open_32 rfl ki_0 ?_
  refine ax_iast (q := 34) (a := (Int32.toNatClampNeg a0)) dX12_open_33 rfl shM_5 h1 rfl ?_
  exact ax_vret dX12_open_34 rfl ⟨rfl, rfl⟩
set_option maxRecDepth 20000 in
theorem s_X12_atEnd_0 {d : Nat} (hd : 0 ≤ d) {Q : Option ax_V → ax_S → Prop} (σ : ax_S)  (k1 : (¬ (σ.1 0 4) = (-1 : Int32)) → Q (some (ax_i (σ.1 0 4))) σ) (k2 : (¬ (¬ (σ.1 0 4) = (-1 : Int32))) → ax_Ct shM d mX12_look [ax_r 0] (fun r u => ∃ x : Int32, r = some (ax_i x) ∧ ax_W shM (d + 1) mX12_atEnd Q 12 [some (ax_r 0)] (ax_i x :: []) u) σ) : ax_W shM (d + 1) mX12_atEnd Q 0 [some (ax_r 0)] [] σ := by
  refine ax_aload_n (q := 1) (i := 0) dX12_atEnd_0 rfl rfl rfl ?_
  refine ax_get (q := 4) (k := 0) (j := 4) (v := ax_i (σ.1 0 4)) dX12_atEnd_1 rfl shM_0 rfl rfl rfl (by decide) fl_X12_125 ?_
  refine ax_iconst (q := 5) dX12_atEnd_4 rfl ki_m1 ?_
  refine ax_icmp_ne (tgt := 20) (q := 8) dX12_atEnd_5 (by decide) rfl (fun c1 => ?_) (fun c1 => ?_)
  · refine ax_aload_n (q := 21) (i := 0) dX12_atEnd_20 rfl rfl rfl ?_
    refine ax_get (q := 24) (k := 0) (j := 4) (v := ax_i (σ.1 0 4)) dX12_atEnd_21 rfl shM_0 rfl rfl rfl (by decide) fl_X12_125 ?_
    exact ax_iret dX12_atEnd_24 rfl rfl (k1 c1)
  · refine ax_aload_n (q := 9) (i := 0) dX12_atEnd_8 rfl rfl rfl ?_
    exact ax_callVci (q := 12) (As := []) (st := []) dX12_atEnd_9 rfl lk_X12_137 shM_0 rfl rfl rfl rfl (Nat.le_of_ble_eq_true rfl) (k2 c1)
set_option maxRecDepth 20000 in
theorem s_X12_atEnd_12 {d : Nat} (hd : 1 ≤ d) {Q : Option ax_V → ax_S → Prop} (σ : ax_S) (rr : Int32) (k1 : (rr = (-1 : Int32)) → Q (some (ax_i (σ.1 0 4))) σ) (k2 : (¬ (rr = (-1 : Int32))) → Q (some (ax_i (if (¬ (σ.1 0 4) = (-1 : Int32)) then (σ.1 0 4) else (σ.1 0 3)))) (ax_ui σ 0 4 (if (¬ (σ.1 0 4) = (-1 : Int32)) then (σ.1 0 4) else (σ.1 0 3)))) : ax_W shM (d + 1) mX12_atEnd Q 12 [some (ax_r 0)] [ax_i rr] σ := by
  refine ax_iconst (q := 13) dX12_atEnd_12 rfl ki_m1 ?_
  refine ax_icmp_eq (tgt := 20) (q := 16) dX12_atEnd_13 (by decide) rfl (fun c1 => ?_) (fun c1 => ?_)
  · refine ax_aload_n (q := 21) (i := 0) dX12_atEnd_20 rfl rfl rfl ?_
    refine ax_get (q := 24) (k := 0) (j := 4) (v := ax_i (σ.1 0 4)) dX12_atEnd_21 rfl shM_0 rfl rfl rfl (by decide) fl_X12_125 ?_
    exact ax_iret dX12_atEnd_24 rfl rfl (k1 c1)
  · refine ax_aload_n (q := 17) (i := 0) dX12_atEnd_16 rfl rfl rfl ?_
    refine ax_callVfv (q := 20) (As := []) (st := []) (σ2 := (ax_ui σ 0 4 (if (¬ (σ.1 0 4) = (-1 : Int32)) then (σ.1 0 4) else (σ.1 0 3)))) dX12_atEnd_17 rfl lk_X12_134 shM_0 rfl rfl rfl rfl (Nat.le_of_ble_eq_true rfl) (f_X12_bad σ   (d := d) (by omega)) ?_
    refine ax_aload_n (q := 21) (i := 0) dX12_atEnd_20 rfl rfl rfl ?_
    refine ax_get (q := 24) (k := 0) (j := 4) (v := ax_i (if (¬ (σ.1 0 4) = (-1 : Int32)) then (σ.1 0 4) else (σ.1 0 3))) dX12_atEnd_21 rfl shM_0 rfl rfl rfl (by decide) fl_X12_125 ?_
    exact ax_iret dX12_atEnd_24 rfl rfl (k2 c1)
set_option maxRecDepth 20000 in
theorem s_X12_readLaw_0 {d : Nat} (hd : 1 ≤ d) {Q : Option ax_V → ax_S → Prop} (σ : ax_S) (a0 : Int32) (h1 : vp_in a0 5) (k2 : ax_Ct shM d mX12_clause [ax_r 0] (fun r u => r = none ∧ ax_W shM (d + 1) mX12_readLaw Q 9 [some (ax_r 0), none] [] u) (ax_ui (ax_ui (ax_ui (ax_ui (ax_ui (ax_ui σ 0 14 a0) 0 3 (0 : Int32)) 0 4 (-1 : Int32)) 0 5 (0 : Int32)) 4 (Int32.toNatClampNeg a0) (0 : Int32)) 5 (Int32.toNatClampNeg a0) (0 : Int32))) : ax_W shM (d + 1) mX12_readLaw Q 0 [some (ax_r 0), some (ax_i a0)] [] σ := by
  refine ax_aload_n (q := 1) (i := 0) dX12_readLaw_0 rfl rfl rfl ?_
  refine ax_iload_n (q := 2) (i := 1) dX12_readLaw_1 rfl rfl rfl ?_
  refine ax_callVfv (q := 5) (As := [ax_i a0]) (st := []) (σ2 := (ax_ui (ax_ui (ax_ui (ax_ui (ax_ui (ax_ui σ 0 14 a0) 0 3 (0 : Int32)) 0 4 (-1 : Int32)) 0 5 (0 : Int32)) 4 (Int32.toNatClampNeg a0) (0 : Int32)) 5 (Int32.toNatClampNeg a0) (0 : Int32))) dX12_readLaw_2 rfl lk_X12_189 shM_0 rfl rfl rfl rfl (Nat.le_of_ble_eq_true rfl) (f_X12_open σ a0 h1 (d := d) (by omega)) ?_
  refine ax_aload_n (q := 6) (i := 0) dX12_readLaw_5 rfl rfl rfl ?_
  refine ax_fg (lv2 := [some (ax_r 0), none]) ⟨rfl, trivial⟩ ?_
  exact ax_callVcv (q := 9) (As := []) (st := []) dX12_readLaw_6 rfl lk_X12_192 shM_0 rfl rfl rfl rfl (Nat.le_of_ble_eq_true rfl) k2
set_option maxRecDepth 20000 in
theorem s_X12_readLaw_9 {d : Nat} (hd : 0 ≤ d) {Q : Option ax_V → ax_S → Prop} (σ : ax_S)  (k1 : (¬ (σ.1 0 4) = (-1 : Int32)) → ax_Ct shM d mX12_atEnd [ax_r 0] (fun r u => ∃ x : Int32, r = some (ax_i x) ∧ ax_W shM (d + 1) mX12_readLaw Q 47 [none, none] (ax_i x :: []) u) σ) (k2 : (¬ (¬ (σ.1 0 4) = (-1 : Int32))) → ax_Ct shM d mX12_look [ax_r 0] (fun r u => ∃ x : Int32, r = some (ax_i x) ∧ ax_W shM (d + 1) mX12_readLaw Q 21 [some (ax_r 0), none] (ax_i x :: []) u) σ) : ax_W shM (d + 1) mX12_readLaw Q 9 [some (ax_r 0), none] [] σ := by
  refine ax_aload_n (q := 10) (i := 0) dX12_readLaw_9 rfl rfl rfl ?_
  refine ax_get (q := 13) (k := 0) (j := 4) (v := ax_i (σ.1 0 4)) dX12_readLaw_10 rfl shM_0 rfl rfl rfl (by decide) fl_X12_125 ?_
  refine ax_iconst (q := 14) dX12_readLaw_13 rfl ki_m1 ?_
  refine ax_icmp_ne (tgt := 43) (q := 17) dX12_readLaw_14 (by decide) rfl (fun c1 => ?_) (fun c1 => ?_)
  · refine ax_aload_n (q := 44) (i := 0) dX12_readLaw_43 rfl rfl rfl ?_
    refine ax_fg (lv2 := [none, none]) trivial ?_
    exact ax_callVci (q := 47) (As := []) (st := []) dX12_readLaw_44 rfl lk_X12_195 shM_0 rfl rfl rfl rfl (Nat.le_of_ble_eq_true rfl) (k1 c1)
  · refine ax_aload_n (q := 18) (i := 0) dX12_readLaw_17 rfl rfl rfl ?_
    exact ax_callVci (q := 21) (As := []) (st := []) dX12_readLaw_18 rfl lk_X12_137 shM_0 rfl rfl rfl rfl (Nat.le_of_ble_eq_true rfl) (k2 c1)
set_option maxRecDepth 20000 in
theorem s_X12_readLaw_21 {d : Nat} (hd : 0 ≤ d) {Q : Option ax_V → ax_S → Prop} (σ : ax_S) (rr : Int32) (k1 : (¬ rr = (59 : Int32)) → ax_Ct shM d mX12_atEnd [ax_r 0] (fun r u => ∃ x : Int32, r = some (ax_i x) ∧ ax_W shM (d + 1) mX12_readLaw Q 47 [none, none] (ax_i x :: []) u) σ) (k2 : (¬ (¬ rr = (59 : Int32))) → ax_Ct shM d mX12_clause [ax_r 0] (fun r u => r = none ∧ ax_W shM (d + 1) mX12_readLaw Q 40 [some (ax_r 0), none] [] u) (ax_ui σ 0 3 ((σ.1 0 3) + (1 : Int32)))) : ax_W shM (d + 1) mX12_readLaw Q 21 [some (ax_r 0), none] [ax_i rr] σ := by
  refine ax_bipush (q := 23) dX12_readLaw_21 rfl kb_59 ?_
  refine ax_icmp_ne (tgt := 43) (q := 26) dX12_readLaw_23 (by decide) rfl (fun c1 => ?_) (fun c1 => ?_)
  · refine ax_aload_n (q := 44) (i := 0) dX12_readLaw_43 rfl rfl rfl ?_
    refine ax_fg (lv2 := [none, none]) trivial ?_
    exact ax_callVci (q := 47) (As := []) (st := []) dX12_readLaw_44 rfl lk_X12_195 shM_0 rfl rfl rfl rfl (Nat.le_of_ble_eq_true rfl) (k1 c1)
  · refine ax_aload_n (q := 27) (i := 0) dX12_readLaw_26 rfl rfl rfl ?_
    refine ax_dupr (q := 28) dX12_readLaw_27 rfl ?_
    refine ax_get (q := 31) (k := 0) (j := 3) (v := ax_i (σ.1 0 3)) dX12_readLaw_28 rfl shM_0 rfl rfl rfl (by decide) fl_X12_118 ?_
    refine ax_iconst (q := 32) dX12_readLaw_31 rfl ki_1 ?_
    refine ax_iadd (q := 33) dX12_readLaw_32 rfl ?_
    refine ax_puti (q := 36) (k := 0) (j := 3) dX12_readLaw_33 rfl shM_0 rfl rfl (by decide) fl_X12_118 rfl rfl rfl rfl ?_
    refine ax_aload_n (q := 37) (i := 0) dX12_readLaw_36 rfl rfl rfl ?_
    exact ax_callVcv (q := 40) (As := []) (st := []) dX12_readLaw_37 rfl lk_X12_192 shM_0 rfl rfl rfl rfl (Nat.le_of_ble_eq_true rfl) (k2 c1)
set_option maxRecDepth 20000 in
theorem s_X12_readLaw_47 {d : Nat} (hd : 0 ≤ d) {Q : Option ax_V → ax_S → Prop} (σ : ax_S) (rr : Int32) (k1 : Q (some (ax_i rr)) σ) : ax_W shM (d + 1) mX12_readLaw Q 47 [none, none] [ax_i rr] σ := by
  exact ax_iret dX12_readLaw_47 rfl rfl k1
set_option maxRecDepth 20000 in
theorem s_X12_readLaw_40 {d : Nat} (hd : 0 ≤ d) {Q : Option ax_V → ax_S → Prop} (σ : ax_S)  (k1 : ax_W shM (d + 1) mX12_readLaw Q 9 [some (ax_r 0), none] [] σ) : ax_W shM (d + 1) mX12_readLaw Q 40 [some (ax_r 0), none] [] σ := by
  refine ax_goto (tgt := 9) dX12_readLaw_40 (by decide) ?_
  exact k1
def v_X12_bounded (a0 : Int64) : Int32 := (Int64.toInt32 (if (if a0 < (1000000 : Int64) then a0 else (1000000 : Int64)) < (-1000000 : Int64) then (-1000000 : Int64) else (if a0 < (1000000 : Int64) then a0 else (1000000 : Int64))))
set_option maxRecDepth 20000 in
theorem f_X12_bounded {sh : List ax_H} (σ : ax_S) (a0 : Int64)  {d : Nat} (hd : 1 ≤ d) : ax_Ct sh d mX12_bounded [ax_l a0] (fun r u => r = some (ax_i (v_X12_bounded a0)) ∧ u = σ) σ := by
  obtain ⟨d, rfl⟩ : ∃ e, d = e + 1 := ⟨d - 1, by omega⟩
  refine ax_Ct.of (lv := [some (ax_l a0), none]) (by decide +kernel) (fun ad => Nat.le_of_ble_eq_true rfl) (fun ad => rfl) ?_
  refine ax_ldc2 (q := 3) dX12_bounded_0 rfl kc_X12_198 ?_
  refine ax_ldc2 (q := 6) dX12_bounded_3 rfl kc_X12_200 ?_
  refine ax_lload_n (q := 7) (i := 0) dX12_bounded_6 rfl rfl rfl ?_
  refine ax_mmin_long (q := 10) dX12_bounded_7 rfl mk_X12_202 (Nat.le_of_ble_eq_true rfl) ?_
  refine ax_mmax_long (q := 13) dX12_bounded_10 rfl mk_X12_208 (Nat.le_of_ble_eq_true rfl) ?_
  refine ax_l2i (q := 14) dX12_bounded_13 rfl ?_
  exact ax_iret dX12_bounded_14 rfl rfl ⟨rfl, rfl⟩
set_option maxRecDepth 20000 in
theorem s_X12_worked_0 {d : Nat} (hd : 1 ≤ d) {Q : Option ax_V → ax_S → Prop} (σ : ax_S) (a0 : Int32) (a1 : Int64) (a2 : Int64) (k1 : (a0 = (2 : Int32)) → Q (some (ax_i (v_X12_bounded (a1 + a2)))) σ) (k2 : (¬ (a0 = (2 : Int32))) → (a0 = (3 : Int32)) → Q (some (ax_i (v_X12_bounded (a1 - a2)))) σ) (k3 : (¬ (a0 = (2 : Int32))) → (¬ (a0 = (3 : Int32))) → (a0 = (4 : Int32)) → Q (some (ax_i (v_X12_bounded (a1 * a2)))) σ) (h4 : (¬ (a0 = (2 : Int32))) → (¬ (a0 = (3 : Int32))) → (¬ (a0 = (4 : Int32))) → (a0 = (5 : Int32)) → (¬ (lg_cmp a2 (0 : Int64)) = 0) → ¬ a2 = 0) (k5 : (¬ (a0 = (2 : Int32))) → (¬ (a0 = (3 : Int32))) → (¬ (a0 = (4 : Int32))) → (a0 = (5 : Int32)) → Q (some (ax_i (if (¬ (lg_cmp a2 (0 : Int64)) = 0) then (v_X12_bounded (a1 / a2)) else (0 : Int32)))) σ) (k6 : (¬ (a0 = (2 : Int32))) → (¬ (a0 = (3 : Int32))) → (¬ (a0 = (4 : Int32))) → (¬ (a0 = (5 : Int32))) → (a0 = (6 : Int32)) → Q (some (ax_i (if (¬ (¬ (lg_cmp a1 a2) = 0)) then (1 : Int32) else 0))) σ) (k7 : (¬ (a0 = (2 : Int32))) → (¬ (a0 = (3 : Int32))) → (¬ (a0 = (4 : Int32))) → (¬ (a0 = (5 : Int32))) → (¬ (a0 = (6 : Int32))) → (a0 = (7 : Int32)) → Q (some (ax_i (if (¬ (0 ≤ (lg_cmp a1 a2))) then (1 : Int32) else 0))) σ) (k8 : (¬ (a0 = (2 : Int32))) → (¬ (a0 = (3 : Int32))) → (¬ (a0 = (4 : Int32))) → (¬ (a0 = (5 : Int32))) → (¬ (a0 = (6 : Int32))) → (¬ (a0 = (7 : Int32))) → (a0 = (8 : Int32)) → Q (some (ax_i (if (¬ ((lg_cmp a1 a2) ≤ 0)) then (1 : Int32) else 0))) σ) (k9 : (¬ (a0 = (2 : Int32))) → (¬ (a0 = (3 : Int32))) → (¬ (a0 = (4 : Int32))) → (¬ (a0 = (5 : Int32))) → (¬ (a0 = (6 : Int32))) → (¬ (a0 = (7 : Int32))) → (¬ (a0 = (8 : Int32))) → (a0 = (9 : Int32)) → Q (some (ax_i (if ((¬ (lg_cmp a1 (0 : Int64)) = 0) ∨ (¬ ((lg_cmp a2 (0 : Int64)) = 0))) then (1 : Int32) else 0))) σ) (k10 : (¬ (a0 = (2 : Int32))) → (¬ (a0 = (3 : Int32))) → (¬ (a0 = (4 : Int32))) → (¬ (a0 = (5 : Int32))) → (¬ (a0 = (6 : Int32))) → (¬ (a0 = (7 : Int32))) → (¬ (a0 = (8 : Int32))) → (¬ (a0 = (9 : Int32))) → (a0 = (10 : Int32)) → Q (some (ax_i (if ((¬ ((lg_cmp a1 (0 : Int64)) = 0)) ∧ (¬ ((lg_cmp a2 (0 : Int64)) = 0))) then (1 : Int32) else 0))) σ) (k11 : (¬ (a0 = (2 : Int32))) → (¬ (a0 = (3 : Int32))) → (¬ (a0 = (4 : Int32))) → (¬ (a0 = (5 : Int32))) → (¬ (a0 = (6 : Int32))) → (¬ (a0 = (7 : Int32))) → (¬ (a0 = (8 : Int32))) → (¬ (a0 = (9 : Int32))) → (¬ (a0 = (10 : Int32))) → Q (some (ax_i (if ((¬ (lg_cmp a1 (0 : Int64)) = 0) ∨ (¬ ((lg_cmp a2 (0 : Int64)) = 0))) then (1 : Int32) else 0))) σ) : ax_W shM (d + 1) mX12_worked Q 0 [some (ax_i a0), some (ax_l a1), none, some (ax_l a2), none] [] σ := by
  refine ax_iload_n (q := 1) (i := 0) dX12_worked_0 rfl rfl rfl ?_
  by_cases c1 : (a0 = (2 : Int32))
  · refine ax_tableIn (tgt := 52) (off := 51) dX12_worked_1 (by rw [c1]; decide) (by rw [c1]; decide) (by rw [c1]; decide) (by decide) ?_
    refine ax_lload_n (q := 53) (i := 1) dX12_worked_52 rfl rfl rfl ?_
    refine ax_lload_n (q := 54) (i := 3) dX12_worked_53 rfl rfl rfl ?_
    refine ax_ladd (q := 55) dX12_worked_54 rfl ?_
    refine ax_callSfi (q := 58) (As := [ax_l (a1 + a2)]) (st := []) (x := (v_X12_bounded (a1 + a2))) (σ2 := σ) dX12_worked_55 rfl lk_X12_211 rfl rfl (Nat.le_of_ble_eq_true rfl) (f_X12_bounded (sh := shM) σ (a1 + a2)  (d := d) (by omega)) ?_
    exact ax_iret dX12_worked_58 rfl rfl (k1 c1)
  by_cases c2 : (a0 = (3 : Int32))
  · refine ax_tableIn (tgt := 59) (off := 58) dX12_worked_1 (by rw [c2]; decide) (by rw [c2]; decide) (by rw [c2]; decide) (by decide) ?_
    refine ax_lload_n (q := 60) (i := 1) dX12_worked_59 rfl rfl rfl ?_
    refine ax_lload_n (q := 61) (i := 3) dX12_worked_60 rfl rfl rfl ?_
    refine ax_lsub (q := 62) dX12_worked_61 rfl ?_
    refine ax_callSfi (q := 65) (As := [ax_l (a1 - a2)]) (st := []) (x := (v_X12_bounded (a1 - a2))) (σ2 := σ) dX12_worked_62 rfl lk_X12_211 rfl rfl (Nat.le_of_ble_eq_true rfl) (f_X12_bounded (sh := shM) σ (a1 - a2)  (d := d) (by omega)) ?_
    exact ax_iret dX12_worked_65 rfl rfl (k2 c1 c2)
  by_cases c3 : (a0 = (4 : Int32))
  · refine ax_tableIn (tgt := 66) (off := 65) dX12_worked_1 (by rw [c3]; decide) (by rw [c3]; decide) (by rw [c3]; decide) (by decide) ?_
    refine ax_lload_n (q := 67) (i := 1) dX12_worked_66 rfl rfl rfl ?_
    refine ax_lload_n (q := 68) (i := 3) dX12_worked_67 rfl rfl rfl ?_
    refine ax_lmul (q := 69) dX12_worked_68 rfl ?_
    refine ax_callSfi (q := 72) (As := [ax_l (a1 * a2)]) (st := []) (x := (v_X12_bounded (a1 * a2))) (σ2 := σ) dX12_worked_69 rfl lk_X12_211 rfl rfl (Nat.le_of_ble_eq_true rfl) (f_X12_bounded (sh := shM) σ (a1 * a2)  (d := d) (by omega)) ?_
    exact ax_iret dX12_worked_72 rfl rfl (k3 c1 c2 c3)
  by_cases c4 : (a0 = (5 : Int32))
  · refine ax_tableIn (tgt := 73) (off := 72) dX12_worked_1 (by rw [c4]; decide) (by rw [c4]; decide) (by rw [c4]; decide) (by decide) ?_
    refine ax_lload_n (q := 74) (i := 3) dX12_worked_73 rfl rfl rfl ?_
    refine ax_lconst (q := 75) (v := 0) dX12_worked_74 rfl rfl ?_
    refine ax_lcmp (q := 76) dX12_worked_75 rfl ?_
    have K6 : ax_W shM (d + 1) mX12_worked Q 89 [some (ax_i a0), some (ax_l a1), none, some (ax_l a2), none] [ax_i (if (¬ (lg_cmp a2 (0 : Int64)) = 0) then (v_X12_bounded (a1 / a2)) else (0 : Int32))] σ := by
      exact ax_iret dX12_worked_89 rfl rfl (k5 c1 c2 c3 c4)
    refine ax_if_ne (tgt := 83) (q := 79) dX12_worked_76 (by decide) rfl (fun c5 => ?_) (fun c5 => ?_)
    · refine ax_lload_n (q := 84) (i := 1) dX12_worked_83 rfl rfl rfl ?_
      refine ax_lload_n (q := 85) (i := 3) dX12_worked_84 rfl rfl rfl ?_
      refine ax_ldiv (q := 86) dX12_worked_85 rfl (h4 c1 c2 c3 c4 c5) ?_
      refine ax_callSfi (q := 89) (As := [ax_l (a1 / a2)]) (st := []) (x := (v_X12_bounded (a1 / a2))) (σ2 := σ) dX12_worked_86 rfl lk_X12_211 rfl rfl (Nat.le_of_ble_eq_true rfl) (f_X12_bounded (sh := shM) σ (a1 / a2)  (d := d) (by omega)) ?_
      exact ax_cv (if_pos c5) K6
    · refine ax_iconst (q := 80) dX12_worked_79 rfl ki_0 ?_
      refine ax_goto (tgt := 89) dX12_worked_80 (by decide) ?_
      exact ax_cv (if_neg c5) K6
  by_cases c7 : (a0 = (6 : Int32))
  · refine ax_tableIn (tgt := 90) (off := 89) dX12_worked_1 (by rw [c7]; decide) (by rw [c7]; decide) (by rw [c7]; decide) (by decide) ?_
    refine ax_lload_n (q := 91) (i := 1) dX12_worked_90 rfl rfl rfl ?_
    refine ax_lload_n (q := 92) (i := 3) dX12_worked_91 rfl rfl rfl ?_
    refine ax_lcmp (q := 93) dX12_worked_92 rfl ?_
    have K9 : ax_W shM (d + 1) mX12_worked Q 101 [some (ax_i a0), some (ax_l a1), none, some (ax_l a2), none] [ax_i (if (¬ (¬ (lg_cmp a1 a2) = 0)) then (1 : Int32) else 0)] σ := by
      exact ax_iret dX12_worked_101 rfl rfl (k6 c1 c2 c3 c4 c7)
    refine ax_if_ne (tgt := 100) (q := 96) dX12_worked_93 (by decide) rfl (fun c8 => ?_) (fun c8 => ?_)
    · refine ax_iconst (q := 101) dX12_worked_100 rfl ki_0 ?_
      exact ax_cv (if_neg (fun y => y c8)) K9
    · refine ax_iconst (q := 97) dX12_worked_96 rfl ki_1 ?_
      refine ax_goto (tgt := 101) dX12_worked_97 (by decide) ?_
      exact ax_cv (if_pos c8) K9
  by_cases c10 : (a0 = (7 : Int32))
  · refine ax_tableIn (tgt := 102) (off := 101) dX12_worked_1 (by rw [c10]; decide) (by rw [c10]; decide) (by rw [c10]; decide) (by decide) ?_
    refine ax_lload_n (q := 103) (i := 1) dX12_worked_102 rfl rfl rfl ?_
    refine ax_lload_n (q := 104) (i := 3) dX12_worked_103 rfl rfl rfl ?_
    refine ax_lcmp (q := 105) dX12_worked_104 rfl ?_
    have K12 : ax_W shM (d + 1) mX12_worked Q 113 [some (ax_i a0), some (ax_l a1), none, some (ax_l a2), none] [ax_i (if (¬ (0 ≤ (lg_cmp a1 a2))) then (1 : Int32) else 0)] σ := by
      exact ax_iret dX12_worked_113 rfl rfl (k7 c1 c2 c3 c4 c7 c10)
    refine ax_if_ge (tgt := 112) (q := 108) dX12_worked_105 (by decide) rfl (fun c11 => ?_) (fun c11 => ?_)
    · refine ax_iconst (q := 113) dX12_worked_112 rfl ki_0 ?_
      exact ax_cv (if_neg (fun y => y c11)) K12
    · refine ax_iconst (q := 109) dX12_worked_108 rfl ki_1 ?_
      refine ax_goto (tgt := 113) dX12_worked_109 (by decide) ?_
      exact ax_cv (if_pos c11) K12
  by_cases c13 : (a0 = (8 : Int32))
  · refine ax_tableIn (tgt := 114) (off := 113) dX12_worked_1 (by rw [c13]; decide) (by rw [c13]; decide) (by rw [c13]; decide) (by decide) ?_
    refine ax_lload_n (q := 115) (i := 1) dX12_worked_114 rfl rfl rfl ?_
    refine ax_lload_n (q := 116) (i := 3) dX12_worked_115 rfl rfl rfl ?_
    refine ax_lcmp (q := 117) dX12_worked_116 rfl ?_
    have K15 : ax_W shM (d + 1) mX12_worked Q 125 [some (ax_i a0), some (ax_l a1), none, some (ax_l a2), none] [ax_i (if (¬ ((lg_cmp a1 a2) ≤ 0)) then (1 : Int32) else 0)] σ := by
      exact ax_iret dX12_worked_125 rfl rfl (k8 c1 c2 c3 c4 c7 c10 c13)
    refine ax_if_le (tgt := 124) (q := 120) dX12_worked_117 (by decide) rfl (fun c14 => ?_) (fun c14 => ?_)
    · refine ax_iconst (q := 125) dX12_worked_124 rfl ki_0 ?_
      exact ax_cv (if_neg (fun y => y c14)) K15
    · refine ax_iconst (q := 121) dX12_worked_120 rfl ki_1 ?_
      refine ax_goto (tgt := 125) dX12_worked_121 (by decide) ?_
      exact ax_cv (if_pos c14) K15
  by_cases c16 : (a0 = (9 : Int32))
  · refine ax_tableIn (tgt := 144) (off := 143) dX12_worked_1 (by rw [c16]; decide) (by rw [c16]; decide) (by rw [c16]; decide) (by decide) ?_
    refine ax_lload_n (q := 145) (i := 1) dX12_worked_144 rfl rfl rfl ?_
    refine ax_lconst (q := 146) (v := 0) dX12_worked_145 rfl rfl ?_
    refine ax_lcmp (q := 147) dX12_worked_146 rfl ?_
    have K19 : ax_W shM (d + 1) mX12_worked Q 161 [some (ax_i a0), some (ax_l a1), none, some (ax_l a2), none] [ax_i (if ((¬ (lg_cmp a1 (0 : Int64)) = 0) ∨ (¬ ((lg_cmp a2 (0 : Int64)) = 0))) then (1 : Int32) else 0)] σ := by
      exact ax_iret dX12_worked_161 rfl rfl (k9 c1 c2 c3 c4 c7 c10 c13 c16)
    refine ax_if_ne (tgt := 156) (q := 150) dX12_worked_147 (by decide) rfl (fun c17 => ?_) (fun c17 => ?_)
    · refine ax_iconst (q := 157) dX12_worked_156 rfl ki_1 ?_
      refine ax_goto (tgt := 161) dX12_worked_157 (by decide) ?_
      exact ax_cv (if_pos (Or.inl c17)) K19
    · refine ax_lload_n (q := 151) (i := 3) dX12_worked_150 rfl rfl rfl ?_
      refine ax_lconst (q := 152) (v := 0) dX12_worked_151 rfl rfl ?_
      refine ax_lcmp (q := 153) dX12_worked_152 rfl ?_
      refine ax_if_eq (tgt := 160) (q := 156) dX12_worked_153 (by decide) rfl (fun c18 => ?_) (fun c18 => ?_)
      · refine ax_iconst (q := 161) dX12_worked_160 rfl ki_0 ?_
        exact ax_cv (if_neg (fun z => z.elim c17 (fun y => y c18))) K19
      · refine ax_iconst (q := 157) dX12_worked_156 rfl ki_1 ?_
        refine ax_goto (tgt := 161) dX12_worked_157 (by decide) ?_
        exact ax_cv (if_pos (Or.inr c18)) K19
  by_cases c20 : (a0 = (10 : Int32))
  · refine ax_tableIn (tgt := 126) (off := 125) dX12_worked_1 (by rw [c20]; decide) (by rw [c20]; decide) (by rw [c20]; decide) (by decide) ?_
    refine ax_lload_n (q := 127) (i := 1) dX12_worked_126 rfl rfl rfl ?_
    refine ax_lconst (q := 128) (v := 0) dX12_worked_127 rfl rfl ?_
    refine ax_lcmp (q := 129) dX12_worked_128 rfl ?_
    have K23 : ax_W shM (d + 1) mX12_worked Q 143 [some (ax_i a0), some (ax_l a1), none, some (ax_l a2), none] [ax_i (if ((¬ ((lg_cmp a1 (0 : Int64)) = 0)) ∧ (¬ ((lg_cmp a2 (0 : Int64)) = 0))) then (1 : Int32) else 0)] σ := by
      exact ax_iret dX12_worked_143 rfl rfl (k10 c1 c2 c3 c4 c7 c10 c13 c16 c20)
    refine ax_if_eq (tgt := 142) (q := 132) dX12_worked_129 (by decide) rfl (fun c21 => ?_) (fun c21 => ?_)
    · refine ax_iconst (q := 143) dX12_worked_142 rfl ki_0 ?_
      exact ax_cv (if_neg (fun z => (fun y => y c21) z.1)) K23
    · refine ax_lload_n (q := 133) (i := 3) dX12_worked_132 rfl rfl rfl ?_
      refine ax_lconst (q := 134) (v := 0) dX12_worked_133 rfl rfl ?_
      refine ax_lcmp (q := 135) dX12_worked_134 rfl ?_
      refine ax_if_eq (tgt := 142) (q := 138) dX12_worked_135 (by decide) rfl (fun c22 => ?_) (fun c22 => ?_)
      · refine ax_iconst (q := 143) dX12_worked_142 rfl ki_0 ?_
        exact ax_cv (if_neg (fun z => (fun y => y c22) z.2)) K23
      · refine ax_iconst (q := 139) dX12_worked_138 rfl ki_1 ?_
        refine ax_goto (tgt := 143) dX12_worked_139 (by decide) ?_
        exact ax_cv (if_pos ⟨c21, c22⟩) K23
  · refine ax_tableOut (tgt := 144) dX12_worked_1 (by have z0 := ax_net (k := 2) (2) (by decide) c1; have z1 := ax_net (k := 3) (3) (by decide) c2; have z2 := ax_net (k := 4) (4) (by decide) c3; have z3 := ax_net (k := 5) (5) (by decide) c4; have z4 := ax_net (k := 6) (6) (by decide) c7; have z5 := ax_net (k := 7) (7) (by decide) c10; have z6 := ax_net (k := 8) (8) (by decide) c13; have z7 := ax_net (k := 9) (9) (by decide) c16; have z8 := ax_net (k := 10) (10) (by decide) c20; omega) (by decide) ?_
    refine ax_lload_n (q := 145) (i := 1) dX12_worked_144 rfl rfl rfl ?_
    refine ax_lconst (q := 146) (v := 0) dX12_worked_145 rfl rfl ?_
    refine ax_lcmp (q := 147) dX12_worked_146 rfl ?_
    have K26 : ax_W shM (d + 1) mX12_worked Q 161 [some (ax_i a0), some (ax_l a1), none, some (ax_l a2), none] [ax_i (if ((¬ (lg_cmp a1 (0 : Int64)) = 0) ∨ (¬ ((lg_cmp a2 (0 : Int64)) = 0))) then (1 : Int32) else 0)] σ := by
      exact ax_iret dX12_worked_161 rfl rfl (k11 c1 c2 c3 c4 c7 c10 c13 c16 c20)
    refine ax_if_ne (tgt := 156) (q := 150) dX12_worked_147 (by decide) rfl (fun c24 => ?_) (fun c24 => ?_)
    · refine ax_iconst (q := 157) dX12_worked_156 rfl ki_1 ?_
      refine ax_goto (tgt := 161) dX12_worked_157 (by decide) ?_
      exact ax_cv (if_pos (Or.inl c24)) K26
    · refine ax_lload_n (q := 151) (i := 3) dX12_worked_150 rfl rfl rfl ?_
      refine ax_lconst (q := 152) (v := 0) dX12_worked_151 rfl rfl ?_
      refine ax_lcmp (q := 153) dX12_worked_152 rfl ?_
      refine ax_if_eq (tgt := 160) (q := 156) dX12_worked_153 (by decide) rfl (fun c25 => ?_) (fun c25 => ?_)
      · refine ax_iconst (q := 161) dX12_worked_160 rfl ki_0 ?_
        exact ax_cv (if_neg (fun z => z.elim c24 (fun y => y c25))) K26
      · refine ax_iconst (q := 157) dX12_worked_156 rfl ki_1 ?_
        refine ax_goto (tgt := 161) dX12_worked_157 (by decide) ?_
        exact ax_cv (if_pos (Or.inr c25)) K26
set_option maxRecDepth 20000 in
theorem s_X12_workOut_0 {d : Nat} (hd : 0 ≤ d) {Q : Option ax_V → ax_S → Prop} (σ : ax_S) (a0 : Int32) (a1 : Int32) (a2 : Int32) (k1 : ax_W shM (d + 1) mX12_workOut Q 12 [some (ax_r 0), some (ax_i a0), none, some (ax_i a2), some (ax_i (0 : Int32)), some (ax_i (((520 : Int32) * a0) + a1))] [] σ) : ax_W shM (d + 1) mX12_workOut Q 0 [some (ax_r 0), some (ax_i a0), some (ax_i a1), some (ax_i a2), none, none] [] σ := by
  refine ax_iconst (q := 1) dX12_workOut_0 rfl ki_0 ?_
  refine ax_istore (q := 3) (lv2 := [some (ax_r 0), some (ax_i a0), some (ax_i a1), some (ax_i a2), some (ax_i (0 : Int32)), none]) dX12_workOut_1 rfl (by decide) rfl rfl ?_
  refine ax_sipush (q := 6) dX12_workOut_3 rfl ks_520 ?_
  refine ax_iload_n (q := 7) (i := 1) dX12_workOut_6 rfl rfl rfl ?_
  refine ax_imul (q := 8) dX12_workOut_7 rfl ?_
  refine ax_iload_n (q := 9) (i := 2) dX12_workOut_8 rfl rfl rfl ?_
  refine ax_iadd (q := 10) dX12_workOut_9 rfl ?_
  refine ax_istore (q := 12) (lv2 := [some (ax_r 0), some (ax_i a0), some (ax_i a1), some (ax_i a2), some (ax_i (0 : Int32)), some (ax_i (((520 : Int32) * a0) + a1))]) dX12_workOut_10 rfl (by decide) rfl rfl ?_
  refine ax_fg (lv2 := [some (ax_r 0), some (ax_i a0), none, some (ax_i a2), some (ax_i (0 : Int32)), some (ax_i (((520 : Int32) * a0) + a1))]) ⟨rfl, rfl, rfl, rfl, rfl, trivial⟩ ?_
  exact k1
set_option maxRecDepth 20000 in
theorem s_X12_workOut_12 {d : Nat} (hd : 0 ≤ d) {Q : Option ax_V → ax_S → Prop} (σ : ax_S) (x1 : Int32) (x3 : Int32) (x4 : Int32) (x5 : Int32) (k1 : ((((520 : Int32) * x1) + x3) ≤ x5) → Q (some (ax_i (σ.1 10 0))) σ) (h2 : (¬ ((((520 : Int32) * x1) + x3) ≤ x5)) → vp_in x5 2600) (h3 : (¬ ((((520 : Int32) * x1) + x3) ≤ x5)) → ((σ.1 2 (Int32.toNatClampNeg x5)) = 0) → vp_in x5 2600) (h4 : (¬ ((((520 : Int32) * x1) + x3) ≤ x5)) → ((σ.1 2 (Int32.toNatClampNeg x5)) = 0) → (¬ (σ.1 2 (Int32.toNatClampNeg x5)) = 0) → vp_in x5 2600) (h5 : (¬ ((((520 : Int32) * x1) + x3) ≤ x5)) → ((σ.1 2 (Int32.toNatClampNeg x5)) = 0) → (¬ (σ.1 2 (Int32.toNatClampNeg x5)) = 0) → vp_in (σ.1 3 (Int32.toNatClampNeg x5)) 6) (h6 : (¬ ((((520 : Int32) * x1) + x3) ≤ x5)) → ((σ.1 2 (Int32.toNatClampNeg x5)) = 0) → (¬ (¬ (σ.1 2 (Int32.toNatClampNeg x5)) = 0)) → vp_in x5 2600) (h7 : (¬ ((((520 : Int32) * x1) + x3) ≤ x5)) → ((σ.1 2 (Int32.toNatClampNeg x5)) = 0) → vp_in x4 80) (k8 : (¬ ((((520 : Int32) * x1) + x3) ≤ x5)) → ((σ.1 2 (Int32.toNatClampNeg x5)) = 0) → ax_W shM (d + 1) mX12_workOut Q 12 [some (ax_r 0), some (ax_i x1), none, some (ax_i x3), some (ax_i (x4 + (1 : Int32))), some (ax_i (x5 + (1 : Int32)))] [] (ax_ui σ 10 (Int32.toNatClampNeg x4) (if (¬ (σ.1 2 (Int32.toNatClampNeg x5)) = 0) then (σ.1 9 (Int32.toNatClampNeg (σ.1 3 (Int32.toNatClampNeg x5)))) else (σ.1 3 (Int32.toNatClampNeg x5))))) (h9 : (¬ ((((520 : Int32) * x1) + x3) ≤ x5)) → (¬ ((σ.1 2 (Int32.toNatClampNeg x5)) = 0)) → vp_in x5 2600) (h10 : (¬ ((((520 : Int32) * x1) + x3) ≤ x5)) → (¬ ((σ.1 2 (Int32.toNatClampNeg x5)) = 0)) → (¬ (σ.1 2 (Int32.toNatClampNeg x5)) = (1 : Int32)) → vp_in x5 2600) (h11 : (¬ ((((520 : Int32) * x1) + x3) ≤ x5)) → (¬ ((σ.1 2 (Int32.toNatClampNeg x5)) = 0)) → (¬ (σ.1 2 (Int32.toNatClampNeg x5)) = (1 : Int32)) → (¬ (σ.1 2 (Int32.toNatClampNeg x5)) = (9 : Int32)) → vp_in x5 2600) (h12 : (¬ ((((520 : Int32) * x1) + x3) ≤ x5)) → (¬ ((σ.1 2 (Int32.toNatClampNeg x5)) = 0)) → (¬ (σ.1 2 (Int32.toNatClampNeg x5)) = (1 : Int32)) → (¬ (σ.1 2 (Int32.toNatClampNeg x5)) = (9 : Int32)) → vp_in ((x4 + (-1 : Int32)) - (1 : Int32)) 80) (h13 : (¬ ((((520 : Int32) * x1) + x3) ≤ x5)) → (¬ ((σ.1 2 (Int32.toNatClampNeg x5)) = 0)) → (¬ (σ.1 2 (Int32.toNatClampNeg x5)) = (1 : Int32)) → (¬ (σ.1 2 (Int32.toNatClampNeg x5)) = (9 : Int32)) → vp_in (x4 + (-1 : Int32)) 80) (k14 : (¬ ((((520 : Int32) * x1) + x3) ≤ x5)) → (¬ ((σ.1 2 (Int32.toNatClampNeg x5)) = 0)) → (¬ (σ.1 2 (Int32.toNatClampNeg x5)) = (1 : Int32)) → (¬ (σ.1 2 (Int32.toNatClampNeg x5)) = (9 : Int32)) → ax_Ct shM d mX12_worked [ax_i (σ.1 2 (Int32.toNatClampNeg x5)), ax_l (Int32.toInt64 (σ.1 10 (Int32.toNatClampNeg ((x4 + (-1 : Int32)) - (1 : Int32))))), ax_l (Int32.toInt64 (σ.1 10 (Int32.toNatClampNeg (x4 + (-1 : Int32)))))] (fun r u => ∃ x : Int32, r = some (ax_i x) ∧ ax_W shM (d + 1) mX12_workOut Q 164 [some (ax_r 0), some (ax_i x1), none, some (ax_i x3), some (ax_i (x4 + (-1 : Int32))), some (ax_i x5)] (ax_i x :: [ax_i ((x4 + (-1 : Int32)) - (1 : Int32)), ax_r 10]) u) σ) (h15 : (¬ ((((520 : Int32) * x1) + x3) ≤ x5)) → (¬ ((σ.1 2 (Int32.toNatClampNeg x5)) = 0)) → (¬ (σ.1 2 (Int32.toNatClampNeg x5)) = (1 : Int32)) → (¬ (¬ (σ.1 2 (Int32.toNatClampNeg x5)) = (9 : Int32))) → vp_in (x4 - (1 : Int32)) 80) (k16 : (¬ ((((520 : Int32) * x1) + x3) ≤ x5)) → (¬ ((σ.1 2 (Int32.toNatClampNeg x5)) = 0)) → (¬ (σ.1 2 (Int32.toNatClampNeg x5)) = (1 : Int32)) → (¬ (¬ (σ.1 2 (Int32.toNatClampNeg x5)) = (9 : Int32))) → ax_W shM (d + 1) mX12_workOut Q 12 [some (ax_r 0), some (ax_i x1), none, some (ax_i x3), some (ax_i x4), some (ax_i (x5 + (1 : Int32)))] [] (ax_ui σ 10 (Int32.toNatClampNeg (x4 - (1 : Int32))) ((1 : Int32) - (σ.1 10 (Int32.toNatClampNeg (x4 - (1 : Int32))))))) (h17 : (¬ ((((520 : Int32) * x1) + x3) ≤ x5)) → (¬ ((σ.1 2 (Int32.toNatClampNeg x5)) = 0)) → (¬ (¬ (σ.1 2 (Int32.toNatClampNeg x5)) = (1 : Int32))) → vp_in x5 2600) (h18 : (¬ ((((520 : Int32) * x1) + x3) ≤ x5)) → (¬ ((σ.1 2 (Int32.toNatClampNeg x5)) = 0)) → (¬ (¬ (σ.1 2 (Int32.toNatClampNeg x5)) = (1 : Int32))) → (¬ (σ.1 2 (Int32.toNatClampNeg x5)) = 0) → vp_in x5 2600) (h19 : (¬ ((((520 : Int32) * x1) + x3) ≤ x5)) → (¬ ((σ.1 2 (Int32.toNatClampNeg x5)) = 0)) → (¬ (¬ (σ.1 2 (Int32.toNatClampNeg x5)) = (1 : Int32))) → (¬ (σ.1 2 (Int32.toNatClampNeg x5)) = 0) → vp_in (σ.1 3 (Int32.toNatClampNeg x5)) 6) (h20 : (¬ ((((520 : Int32) * x1) + x3) ≤ x5)) → (¬ ((σ.1 2 (Int32.toNatClampNeg x5)) = 0)) → (¬ (¬ (σ.1 2 (Int32.toNatClampNeg x5)) = (1 : Int32))) → (¬ (¬ (σ.1 2 (Int32.toNatClampNeg x5)) = 0)) → vp_in x5 2600) (h21 : (¬ ((((520 : Int32) * x1) + x3) ≤ x5)) → (¬ ((σ.1 2 (Int32.toNatClampNeg x5)) = 0)) → (¬ (¬ (σ.1 2 (Int32.toNatClampNeg x5)) = (1 : Int32))) → vp_in x4 80) (k22 : (¬ ((((520 : Int32) * x1) + x3) ≤ x5)) → (¬ ((σ.1 2 (Int32.toNatClampNeg x5)) = 0)) → (¬ (¬ (σ.1 2 (Int32.toNatClampNeg x5)) = (1 : Int32))) → ax_W shM (d + 1) mX12_workOut Q 12 [some (ax_r 0), some (ax_i x1), none, some (ax_i x3), some (ax_i (x4 + (1 : Int32))), some (ax_i (x5 + (1 : Int32)))] [] (ax_ui σ 10 (Int32.toNatClampNeg x4) (if (¬ (σ.1 2 (Int32.toNatClampNeg x5)) = 0) then (σ.1 9 (Int32.toNatClampNeg (σ.1 3 (Int32.toNatClampNeg x5)))) else (σ.1 3 (Int32.toNatClampNeg x5))))) : ax_W shM (d + 1) mX12_workOut Q 12 [some (ax_r 0), some (ax_i x1), none, some (ax_i x3), some (ax_i x4), some (ax_i x5)] [] σ := by
  refine ax_iload (q := 14) dX12_workOut_12 rfl rfl ?_
  refine ax_sipush (q := 17) dX12_workOut_14 rfl ks_520 ?_
  refine ax_iload_n (q := 18) (i := 1) dX12_workOut_17 rfl rfl rfl ?_
  refine ax_imul (q := 19) dX12_workOut_18 rfl ?_
  refine ax_iload_n (q := 20) (i := 3) dX12_workOut_19 rfl rfl rfl ?_
  refine ax_iadd (q := 21) dX12_workOut_20 rfl ?_
  refine ax_icmp_ge (tgt := 171) (q := 24) dX12_workOut_21 (by decide) rfl (fun c1 => ?_) (fun c1 => ?_)
  · refine ax_aload_n (q := 172) (i := 0) dX12_workOut_171 rfl rfl rfl ?_
    refine ax_get (q := 175) (k := 0) (j := 16) (v := ax_r 10) dX12_workOut_172 rfl shM_0 rfl rfl rfl (by decide) fl_X12_37 ?_
    refine ax_iconst (q := 176) dX12_workOut_175 rfl ki_0 ?_
    refine ax_iald (q := 177) (a := 0) (v := (σ.1 10 0)) dX12_workOut_176 rfl shM_10 (ax_inl 0 80 (by decide) (by decide)) rfl rfl ?_
    exact ax_iret dX12_workOut_177 rfl rfl (k1 c1)
  · refine ax_aload_n (q := 25) (i := 0) dX12_workOut_24 rfl rfl rfl ?_
    refine ax_get (q := 28) (k := 0) (j := 6) (v := ax_r 2) dX12_workOut_25 rfl shM_0 rfl rfl rfl (by decide) fl_X12_13 ?_
    refine ax_iload (q := 30) dX12_workOut_28 rfl rfl ?_
    refine ax_iald (q := 31) (a := (Int32.toNatClampNeg x5)) (v := (σ.1 2 (Int32.toNatClampNeg x5))) dX12_workOut_30 rfl shM_2 (h2 c1) rfl rfl ?_
    refine ax_if_eq (tgt := 45) (q := 34) dX12_workOut_31 (by decide) rfl (fun c2 => ?_) (fun c2 => ?_)
    · refine ax_aload_n (q := 46) (i := 0) dX12_workOut_45 rfl rfl rfl ?_
      refine ax_get (q := 49) (k := 0) (j := 16) (v := ax_r 10) dX12_workOut_46 rfl shM_0 rfl rfl rfl (by decide) fl_X12_37 ?_
      refine ax_iload (q := 51) dX12_workOut_49 rfl rfl ?_
      refine ax_aload_n (q := 52) (i := 0) dX12_workOut_51 rfl rfl rfl ?_
      refine ax_get (q := 55) (k := 0) (j := 6) (v := ax_r 2) dX12_workOut_52 rfl shM_0 rfl rfl rfl (by decide) fl_X12_13 ?_
      refine ax_iload (q := 57) dX12_workOut_55 rfl rfl ?_
      refine ax_iald (q := 58) (a := (Int32.toNatClampNeg x5)) (v := (σ.1 2 (Int32.toNatClampNeg x5))) dX12_workOut_57 rfl shM_2 (h3 c1 c2) rfl rfl ?_
      have K4 : ax_W shM (d + 1) mX12_workOut Q 83 [some (ax_r 0), some (ax_i x1), none, some (ax_i x3), some (ax_i x4), some (ax_i x5)] [ax_i (if (¬ (σ.1 2 (Int32.toNatClampNeg x5)) = 0) then (σ.1 9 (Int32.toNatClampNeg (σ.1 3 (Int32.toNatClampNeg x5)))) else (σ.1 3 (Int32.toNatClampNeg x5))), ax_i x4, ax_r 10] σ := by
        refine ax_iast (q := 84) (a := (Int32.toNatClampNeg x4)) dX12_workOut_83 rfl shM_10 (h7 c1 c2) rfl ?_
        refine ax_iincK (q := 87) (lv2 := [some (ax_r 0), some (ax_i x1), none, some (ax_i x3), some (ax_i (x4 + (1 : Int32))), some (ax_i x5)]) dX12_workOut_84 rfl rfl ki_1 (by decide) rfl rfl ?_
        refine ax_goto (tgt := 165) dX12_workOut_87 (by decide) ?_
        refine ax_iincK (q := 168) (lv2 := [some (ax_r 0), some (ax_i x1), none, some (ax_i x3), some (ax_i (x4 + (1 : Int32))), some (ax_i (x5 + (1 : Int32)))]) dX12_workOut_165 rfl rfl ki_1 (by decide) rfl rfl ?_
        refine ax_goto (tgt := 12) dX12_workOut_168 (by decide) ?_
        exact (k8 c1 c2)
      refine ax_if_ne (tgt := 71) (q := 61) dX12_workOut_58 (by decide) rfl (fun c3 => ?_) (fun c3 => ?_)
      · refine ax_aload_n (q := 72) (i := 0) dX12_workOut_71 rfl rfl rfl ?_
        refine ax_get (q := 75) (k := 0) (j := 15) (v := ax_r 9) dX12_workOut_72 rfl shM_0 rfl rfl rfl (by decide) fl_X12_34 ?_
        refine ax_aload_n (q := 76) (i := 0) dX12_workOut_75 rfl rfl rfl ?_
        refine ax_get (q := 79) (k := 0) (j := 7) (v := ax_r 3) dX12_workOut_76 rfl shM_0 rfl rfl rfl (by decide) fl_X12_16 ?_
        refine ax_iload (q := 81) dX12_workOut_79 rfl rfl ?_
        refine ax_iald (q := 82) (a := (Int32.toNatClampNeg x5)) (v := (σ.1 3 (Int32.toNatClampNeg x5))) dX12_workOut_81 rfl shM_3 (h4 c1 c2 c3) rfl rfl ?_
        refine ax_iald (q := 83) (a := (Int32.toNatClampNeg (σ.1 3 (Int32.toNatClampNeg x5)))) (v := (σ.1 9 (Int32.toNatClampNeg (σ.1 3 (Int32.toNatClampNeg x5))))) dX12_workOut_82 rfl shM_9 (h5 c1 c2 c3) rfl rfl ?_
        exact ax_cv (if_pos c3) K4
      · refine ax_aload_n (q := 62) (i := 0) dX12_workOut_61 rfl rfl rfl ?_
        refine ax_get (q := 65) (k := 0) (j := 7) (v := ax_r 3) dX12_workOut_62 rfl shM_0 rfl rfl rfl (by decide) fl_X12_16 ?_
        refine ax_iload (q := 67) dX12_workOut_65 rfl rfl ?_
        refine ax_iald (q := 68) (a := (Int32.toNatClampNeg x5)) (v := (σ.1 3 (Int32.toNatClampNeg x5))) dX12_workOut_67 rfl shM_3 (h6 c1 c2 c3) rfl rfl ?_
        refine ax_goto (tgt := 83) dX12_workOut_68 (by decide) ?_
        exact ax_cv (if_neg c3) K4
    · refine ax_aload_n (q := 35) (i := 0) dX12_workOut_34 rfl rfl rfl ?_
      refine ax_get (q := 38) (k := 0) (j := 6) (v := ax_r 2) dX12_workOut_35 rfl shM_0 rfl rfl rfl (by decide) fl_X12_13 ?_
      refine ax_iload (q := 40) dX12_workOut_38 rfl rfl ?_
      refine ax_iald (q := 41) (a := (Int32.toNatClampNeg x5)) (v := (σ.1 2 (Int32.toNatClampNeg x5))) dX12_workOut_40 rfl shM_2 (h9 c1 c2) rfl rfl ?_
      refine ax_iconst (q := 42) dX12_workOut_41 rfl ki_1 ?_
      refine ax_icmp_ne (tgt := 90) (q := 45) dX12_workOut_42 (by decide) rfl (fun c5 => ?_) (fun c5 => ?_)
      · refine ax_aload_n (q := 91) (i := 0) dX12_workOut_90 rfl rfl rfl ?_
        refine ax_get (q := 94) (k := 0) (j := 6) (v := ax_r 2) dX12_workOut_91 rfl shM_0 rfl rfl rfl (by decide) fl_X12_13 ?_
        refine ax_iload (q := 96) dX12_workOut_94 rfl rfl ?_
        refine ax_iald (q := 97) (a := (Int32.toNatClampNeg x5)) (v := (σ.1 2 (Int32.toNatClampNeg x5))) dX12_workOut_96 rfl shM_2 (h10 c1 c2 c5) rfl rfl ?_
        refine ax_bipush (q := 99) dX12_workOut_97 rfl kb_9 ?_
        refine ax_icmp_ne (tgt := 125) (q := 102) dX12_workOut_99 (by decide) rfl (fun c6 => ?_) (fun c6 => ?_)
        · refine ax_iincK (q := 128) (lv2 := [some (ax_r 0), some (ax_i x1), none, some (ax_i x3), some (ax_i (x4 + (-1 : Int32))), some (ax_i x5)]) dX12_workOut_125 rfl rfl ki_m1 (by decide) rfl rfl ?_
          refine ax_aload_n (q := 129) (i := 0) dX12_workOut_128 rfl rfl rfl ?_
          refine ax_get (q := 132) (k := 0) (j := 16) (v := ax_r 10) dX12_workOut_129 rfl shM_0 rfl rfl rfl (by decide) fl_X12_37 ?_
          refine ax_iload (q := 134) dX12_workOut_132 rfl rfl ?_
          refine ax_iconst (q := 135) dX12_workOut_134 rfl ki_1 ?_
          refine ax_isub (q := 136) dX12_workOut_135 rfl ?_
          refine ax_aload_n (q := 137) (i := 0) dX12_workOut_136 rfl rfl rfl ?_
          refine ax_get (q := 140) (k := 0) (j := 6) (v := ax_r 2) dX12_workOut_137 rfl shM_0 rfl rfl rfl (by decide) fl_X12_13 ?_
          refine ax_iload (q := 142) dX12_workOut_140 rfl rfl ?_
          refine ax_iald (q := 143) (a := (Int32.toNatClampNeg x5)) (v := (σ.1 2 (Int32.toNatClampNeg x5))) dX12_workOut_142 rfl shM_2 (h11 c1 c2 c5 c6) rfl rfl ?_
          refine ax_aload_n (q := 144) (i := 0) dX12_workOut_143 rfl rfl rfl ?_
          refine ax_get (q := 147) (k := 0) (j := 16) (v := ax_r 10) dX12_workOut_144 rfl shM_0 rfl rfl rfl (by decide) fl_X12_37 ?_
          refine ax_iload (q := 149) dX12_workOut_147 rfl rfl ?_
          refine ax_iconst (q := 150) dX12_workOut_149 rfl ki_1 ?_
          refine ax_isub (q := 151) dX12_workOut_150 rfl ?_
          refine ax_iald (q := 152) (a := (Int32.toNatClampNeg ((x4 + (-1 : Int32)) - (1 : Int32)))) (v := (σ.1 10 (Int32.toNatClampNeg ((x4 + (-1 : Int32)) - (1 : Int32))))) dX12_workOut_151 rfl shM_10 (h12 c1 c2 c5 c6) rfl rfl ?_
          refine ax_i2l (q := 153) dX12_workOut_152 rfl ?_
          refine ax_aload_n (q := 154) (i := 0) dX12_workOut_153 rfl rfl rfl ?_
          refine ax_get (q := 157) (k := 0) (j := 16) (v := ax_r 10) dX12_workOut_154 rfl shM_0 rfl rfl rfl (by decide) fl_X12_37 ?_
          refine ax_iload (q := 159) dX12_workOut_157 rfl rfl ?_
          refine ax_iald (q := 160) (a := (Int32.toNatClampNeg (x4 + (-1 : Int32)))) (v := (σ.1 10 (Int32.toNatClampNeg (x4 + (-1 : Int32))))) dX12_workOut_159 rfl shM_10 (h13 c1 c2 c5 c6) rfl rfl ?_
          refine ax_i2l (q := 161) dX12_workOut_160 rfl ?_
          exact ax_callSci (q := 164) (As := [ax_i (σ.1 2 (Int32.toNatClampNeg x5)), ax_l (Int32.toInt64 (σ.1 10 (Int32.toNatClampNeg ((x4 + (-1 : Int32)) - (1 : Int32))))), ax_l (Int32.toInt64 (σ.1 10 (Int32.toNatClampNeg (x4 + (-1 : Int32)))))]) (st := [ax_i ((x4 + (-1 : Int32)) - (1 : Int32)), ax_r 10]) dX12_workOut_161 rfl lk_X12_215 rfl rfl (Nat.le_of_ble_eq_true rfl) (k14 c1 c2 c5 c6)
        · refine ax_aload_n (q := 103) (i := 0) dX12_workOut_102 rfl rfl rfl ?_
          refine ax_get (q := 106) (k := 0) (j := 16) (v := ax_r 10) dX12_workOut_103 rfl shM_0 rfl rfl rfl (by decide) fl_X12_37 ?_
          refine ax_iload (q := 108) dX12_workOut_106 rfl rfl ?_
          refine ax_iconst (q := 109) dX12_workOut_108 rfl ki_1 ?_
          refine ax_isub (q := 110) dX12_workOut_109 rfl ?_
          refine ax_iconst (q := 111) dX12_workOut_110 rfl ki_1 ?_
          refine ax_aload_n (q := 112) (i := 0) dX12_workOut_111 rfl rfl rfl ?_
          refine ax_get (q := 115) (k := 0) (j := 16) (v := ax_r 10) dX12_workOut_112 rfl shM_0 rfl rfl rfl (by decide) fl_X12_37 ?_
          refine ax_iload (q := 117) dX12_workOut_115 rfl rfl ?_
          refine ax_iconst (q := 118) dX12_workOut_117 rfl ki_1 ?_
          refine ax_isub (q := 119) dX12_workOut_118 rfl ?_
          refine ax_iald (q := 120) (a := (Int32.toNatClampNeg (x4 - (1 : Int32)))) (v := (σ.1 10 (Int32.toNatClampNeg (x4 - (1 : Int32))))) dX12_workOut_119 rfl shM_10 (h15 c1 c2 c5 c6) rfl rfl ?_
          refine ax_isub (q := 121) dX12_workOut_120 rfl ?_
          refine ax_iast (q := 122) (a := (Int32.toNatClampNeg (x4 - (1 : Int32)))) dX12_workOut_121 rfl shM_10 (h15 c1 c2 c5 c6) rfl ?_
          refine ax_goto (tgt := 165) dX12_workOut_122 (by decide) ?_
          refine ax_iincK (q := 168) (lv2 := [some (ax_r 0), some (ax_i x1), none, some (ax_i x3), some (ax_i x4), some (ax_i (x5 + (1 : Int32)))]) dX12_workOut_165 rfl rfl ki_1 (by decide) rfl rfl ?_
          refine ax_goto (tgt := 12) dX12_workOut_168 (by decide) ?_
          exact (k16 c1 c2 c5 c6)
      · refine ax_aload_n (q := 46) (i := 0) dX12_workOut_45 rfl rfl rfl ?_
        refine ax_get (q := 49) (k := 0) (j := 16) (v := ax_r 10) dX12_workOut_46 rfl shM_0 rfl rfl rfl (by decide) fl_X12_37 ?_
        refine ax_iload (q := 51) dX12_workOut_49 rfl rfl ?_
        refine ax_aload_n (q := 52) (i := 0) dX12_workOut_51 rfl rfl rfl ?_
        refine ax_get (q := 55) (k := 0) (j := 6) (v := ax_r 2) dX12_workOut_52 rfl shM_0 rfl rfl rfl (by decide) fl_X12_13 ?_
        refine ax_iload (q := 57) dX12_workOut_55 rfl rfl ?_
        refine ax_iald (q := 58) (a := (Int32.toNatClampNeg x5)) (v := (σ.1 2 (Int32.toNatClampNeg x5))) dX12_workOut_57 rfl shM_2 (h17 c1 c2 c5) rfl rfl ?_
        have K8 : ax_W shM (d + 1) mX12_workOut Q 83 [some (ax_r 0), some (ax_i x1), none, some (ax_i x3), some (ax_i x4), some (ax_i x5)] [ax_i (if (¬ (σ.1 2 (Int32.toNatClampNeg x5)) = 0) then (σ.1 9 (Int32.toNatClampNeg (σ.1 3 (Int32.toNatClampNeg x5)))) else (σ.1 3 (Int32.toNatClampNeg x5))), ax_i x4, ax_r 10] σ := by
          refine ax_iast (q := 84) (a := (Int32.toNatClampNeg x4)) dX12_workOut_83 rfl shM_10 (h21 c1 c2 c5) rfl ?_
          refine ax_iincK (q := 87) (lv2 := [some (ax_r 0), some (ax_i x1), none, some (ax_i x3), some (ax_i (x4 + (1 : Int32))), some (ax_i x5)]) dX12_workOut_84 rfl rfl ki_1 (by decide) rfl rfl ?_
          refine ax_goto (tgt := 165) dX12_workOut_87 (by decide) ?_
          refine ax_iincK (q := 168) (lv2 := [some (ax_r 0), some (ax_i x1), none, some (ax_i x3), some (ax_i (x4 + (1 : Int32))), some (ax_i (x5 + (1 : Int32)))]) dX12_workOut_165 rfl rfl ki_1 (by decide) rfl rfl ?_
          refine ax_goto (tgt := 12) dX12_workOut_168 (by decide) ?_
          exact (k22 c1 c2 c5)
        refine ax_if_ne (tgt := 71) (q := 61) dX12_workOut_58 (by decide) rfl (fun c7 => ?_) (fun c7 => ?_)
        · refine ax_aload_n (q := 72) (i := 0) dX12_workOut_71 rfl rfl rfl ?_
          refine ax_get (q := 75) (k := 0) (j := 15) (v := ax_r 9) dX12_workOut_72 rfl shM_0 rfl rfl rfl (by decide) fl_X12_34 ?_
          refine ax_aload_n (q := 76) (i := 0) dX12_workOut_75 rfl rfl rfl ?_
          refine ax_get (q := 79) (k := 0) (j := 7) (v := ax_r 3) dX12_workOut_76 rfl shM_0 rfl rfl rfl (by decide) fl_X12_16 ?_
          refine ax_iload (q := 81) dX12_workOut_79 rfl rfl ?_
          refine ax_iald (q := 82) (a := (Int32.toNatClampNeg x5)) (v := (σ.1 3 (Int32.toNatClampNeg x5))) dX12_workOut_81 rfl shM_3 (h18 c1 c2 c5 c7) rfl rfl ?_
          refine ax_iald (q := 83) (a := (Int32.toNatClampNeg (σ.1 3 (Int32.toNatClampNeg x5)))) (v := (σ.1 9 (Int32.toNatClampNeg (σ.1 3 (Int32.toNatClampNeg x5))))) dX12_workOut_82 rfl shM_9 (h19 c1 c2 c5 c7) rfl rfl ?_
          exact ax_cv (if_pos c7) K8
        · refine ax_aload_n (q := 62) (i := 0) dX12_workOut_61 rfl rfl rfl ?_
          refine ax_get (q := 65) (k := 0) (j := 7) (v := ax_r 3) dX12_workOut_62 rfl shM_0 rfl rfl rfl (by decide) fl_X12_16 ?_
          refine ax_iload (q := 67) dX12_workOut_65 rfl rfl ?_
          refine ax_iald (q := 68) (a := (Int32.toNatClampNeg x5)) (v := (σ.1 3 (Int32.toNatClampNeg x5))) dX12_workOut_67 rfl shM_3 (h20 c1 c2 c5 c7) rfl rfl ?_
          refine ax_goto (tgt := 83) dX12_workOut_68 (by decide) ?_
          exact ax_cv (if_neg c7) K8
set_option maxRecDepth 20000 in
theorem s_X12_workOut_164 {d : Nat} (hd : 0 ≤ d) {Q : Option ax_V → ax_S → Prop} (σ : ax_S) (x1 : Int32) (x3 : Int32) (x4 : Int32) (x5 : Int32) (rr : Int32) (y0 : Int32) (h1 : vp_in y0 80) (k2 : ax_W shM (d + 1) mX12_workOut Q 12 [some (ax_r 0), some (ax_i x1), none, some (ax_i x3), some (ax_i x4), some (ax_i (x5 + (1 : Int32)))] [] (ax_ui σ 10 (Int32.toNatClampNeg y0) rr)) : ax_W shM (d + 1) mX12_workOut Q 164 [some (ax_r 0), some (ax_i x1), none, some (ax_i x3), some (ax_i x4), some (ax_i x5)] [ax_i rr, ax_i y0, ax_r 10] σ := by
  refine ax_iast (q := 165) (a := (Int32.toNatClampNeg y0)) dX12_workOut_164 rfl shM_10 h1 rfl ?_
  refine ax_iincK (q := 168) (lv2 := [some (ax_r 0), some (ax_i x1), none, some (ax_i x3), some (ax_i x4), some (ax_i (x5 + (1 : Int32)))]) dX12_workOut_165 rfl rfl ki_1 (by decide) rfl rfl ?_
  refine ax_goto (tgt := 12) dX12_workOut_168 (by decide) ?_
  exact k2
set_option maxRecDepth 20000 in
theorem s_X12_worthOf_0 {d : Nat} (hd : 0 ≤ d) {Q : Option ax_V → ax_S → Prop} (σ : ax_S) (a0 : Int32) (k1 : ax_W shM (d + 1) mX12_worthOf Q 6 [some (ax_r 0), some (ax_i a0), some (ax_i ((140 : Int32) * a0))] [] σ) : ax_W shM (d + 1) mX12_worthOf Q 0 [some (ax_r 0), some (ax_i a0), none] [] σ := by
  refine ax_sipush (q := 3) dX12_worthOf_0 rfl ks_140 ?_
  refine ax_iload_n (q := 4) (i := 1) dX12_worthOf_3 rfl rfl rfl ?_
  refine ax_imul (q := 5) dX12_worthOf_4 rfl ?_
  refine ax_istore_n (q := 6) (i := 2) (lv2 := [some (ax_r 0), some (ax_i a0), some (ax_i ((140 : Int32) * a0))]) dX12_worthOf_5 rfl rfl (by decide) rfl rfl ?_
  exact k1
set_option maxRecDepth 20000 in
theorem s_X12_worthOf_6 {d : Nat} (hd : 0 ≤ d) {Q : Option ax_V → ax_S → Prop} (σ : ax_S) (x1 : Int32) (x2 : Int32) (h1 : vp_in x1 5) (k2 : ((((140 : Int32) * x1) + (σ.1 5 (Int32.toNatClampNeg x1))) ≤ x2) → Q (some (ax_i (0 : Int32))) σ) (h3 : (¬ ((((140 : Int32) * x1) + (σ.1 5 (Int32.toNatClampNeg x1))) ≤ x2)) → vp_in x2 700) (h4 : (¬ ((((140 : Int32) * x1) + (σ.1 5 (Int32.toNatClampNeg x1))) ≤ x2)) → ((σ.1 6 (Int32.toNatClampNeg x2)) = (σ.1 7 (Int32.toNatClampNeg x2))) → vp_in x2 700) (k5 : (¬ ((((140 : Int32) * x1) + (σ.1 5 (Int32.toNatClampNeg x1))) ≤ x2)) → ((σ.1 6 (Int32.toNatClampNeg x2)) = (σ.1 7 (Int32.toNatClampNeg x2))) → ax_Ct shM d mX12_workOut [ax_r 0, ax_i x1, ax_i (σ.1 7 (Int32.toNatClampNeg x2)), ax_i (σ.1 8 (Int32.toNatClampNeg x2))] (fun r u => ∃ x : Int32, r = some (ax_i x) ∧ ax_W shM (d + 1) mX12_worthOf Q 74 [none, none, none] (ax_i x :: []) u) σ) (h6 : (¬ ((((140 : Int32) * x1) + (σ.1 5 (Int32.toNatClampNeg x1))) ≤ x2)) → (¬ ((σ.1 6 (Int32.toNatClampNeg x2)) = (σ.1 7 (Int32.toNatClampNeg x2)))) → vp_in x2 700) (k7 : (¬ ((((140 : Int32) * x1) + (σ.1 5 (Int32.toNatClampNeg x1))) ≤ x2)) → (¬ ((σ.1 6 (Int32.toNatClampNeg x2)) = (σ.1 7 (Int32.toNatClampNeg x2)))) → ax_Ct shM d mX12_workOut [ax_r 0, ax_i x1, ax_i (σ.1 6 (Int32.toNatClampNeg x2)), ax_i (σ.1 7 (Int32.toNatClampNeg x2))] (fun r u => ∃ x : Int32, r = some (ax_i x) ∧ ax_W shM (d + 1) mX12_worthOf Q 54 [some (ax_r 0), some (ax_i x1), some (ax_i x2)] (ax_i x :: []) u) σ) : ax_W shM (d + 1) mX12_worthOf Q 6 [some (ax_r 0), some (ax_i x1), some (ax_i x2)] [] σ := by
  refine ax_iload_n (q := 7) (i := 2) dX12_worthOf_6 rfl rfl rfl ?_
  refine ax_sipush (q := 10) dX12_worthOf_7 rfl ks_140 ?_
  refine ax_iload_n (q := 11) (i := 1) dX12_worthOf_10 rfl rfl rfl ?_
  refine ax_imul (q := 12) dX12_worthOf_11 rfl ?_
  refine ax_aload_n (q := 13) (i := 0) dX12_worthOf_12 rfl rfl rfl ?_
  refine ax_get (q := 16) (k := 0) (j := 9) (v := ax_r 5) dX12_worthOf_13 rfl shM_0 rfl rfl rfl (by decide) fl_X12_22 ?_
  refine ax_iload_n (q := 17) (i := 1) dX12_worthOf_16 rfl rfl rfl ?_
  refine ax_iald (q := 18) (a := (Int32.toNatClampNeg x1)) (v := (σ.1 5 (Int32.toNatClampNeg x1))) dX12_worthOf_17 rfl shM_5 h1 rfl rfl ?_
  refine ax_iadd (q := 19) dX12_worthOf_18 rfl ?_
  refine ax_icmp_ge (tgt := 81) (q := 22) dX12_worthOf_19 (by decide) rfl (fun c1 => ?_) (fun c1 => ?_)
  · refine ax_iconst (q := 82) dX12_worthOf_81 rfl ki_0 ?_
    exact ax_iret dX12_worthOf_82 rfl rfl (k2 c1)
  · refine ax_aload_n (q := 23) (i := 0) dX12_worthOf_22 rfl rfl rfl ?_
    refine ax_get (q := 26) (k := 0) (j := 10) (v := ax_r 6) dX12_worthOf_23 rfl shM_0 rfl rfl rfl (by decide) fl_X12_25 ?_
    refine ax_iload_n (q := 27) (i := 2) dX12_worthOf_26 rfl rfl rfl ?_
    refine ax_iald (q := 28) (a := (Int32.toNatClampNeg x2)) (v := (σ.1 6 (Int32.toNatClampNeg x2))) dX12_worthOf_27 rfl shM_6 (h3 c1) rfl rfl ?_
    refine ax_aload_n (q := 29) (i := 0) dX12_worthOf_28 rfl rfl rfl ?_
    refine ax_get (q := 32) (k := 0) (j := 11) (v := ax_r 7) dX12_worthOf_29 rfl shM_0 rfl rfl rfl (by decide) fl_X12_28 ?_
    refine ax_iload_n (q := 33) (i := 2) dX12_worthOf_32 rfl rfl rfl ?_
    refine ax_iald (q := 34) (a := (Int32.toNatClampNeg x2)) (v := (σ.1 7 (Int32.toNatClampNeg x2))) dX12_worthOf_33 rfl shM_7 (h3 c1) rfl rfl ?_
    refine ax_icmp_eq (tgt := 57) (q := 37) dX12_worthOf_34 (by decide) rfl (fun c2 => ?_) (fun c2 => ?_)
    · refine ax_aload_n (q := 58) (i := 0) dX12_worthOf_57 rfl rfl rfl ?_
      refine ax_iload_n (q := 59) (i := 1) dX12_worthOf_58 rfl rfl rfl ?_
      refine ax_aload_n (q := 60) (i := 0) dX12_worthOf_59 rfl rfl rfl ?_
      refine ax_get (q := 63) (k := 0) (j := 11) (v := ax_r 7) dX12_worthOf_60 rfl shM_0 rfl rfl rfl (by decide) fl_X12_28 ?_
      refine ax_iload_n (q := 64) (i := 2) dX12_worthOf_63 rfl rfl rfl ?_
      refine ax_iald (q := 65) (a := (Int32.toNatClampNeg x2)) (v := (σ.1 7 (Int32.toNatClampNeg x2))) dX12_worthOf_64 rfl shM_7 (h4 c1 c2) rfl rfl ?_
      refine ax_aload_n (q := 66) (i := 0) dX12_worthOf_65 rfl rfl rfl ?_
      refine ax_get (q := 69) (k := 0) (j := 12) (v := ax_r 8) dX12_worthOf_66 rfl shM_0 rfl rfl rfl (by decide) fl_X12_31 ?_
      refine ax_iload_n (q := 70) (i := 2) dX12_worthOf_69 rfl rfl rfl ?_
      refine ax_iald (q := 71) (a := (Int32.toNatClampNeg x2)) (v := (σ.1 8 (Int32.toNatClampNeg x2))) dX12_worthOf_70 rfl shM_8 (h4 c1 c2) rfl rfl ?_
      refine ax_fg (lv2 := [none, none, none]) trivial ?_
      exact ax_callVci (q := 74) (As := [ax_i x1, ax_i (σ.1 7 (Int32.toNatClampNeg x2)), ax_i (σ.1 8 (Int32.toNatClampNeg x2))]) (st := []) dX12_worthOf_71 rfl lk_X12_219 shM_0 rfl rfl rfl rfl (Nat.le_of_ble_eq_true rfl) (k5 c1 c2)
    · refine ax_aload_n (q := 38) (i := 0) dX12_worthOf_37 rfl rfl rfl ?_
      refine ax_iload_n (q := 39) (i := 1) dX12_worthOf_38 rfl rfl rfl ?_
      refine ax_aload_n (q := 40) (i := 0) dX12_worthOf_39 rfl rfl rfl ?_
      refine ax_get (q := 43) (k := 0) (j := 10) (v := ax_r 6) dX12_worthOf_40 rfl shM_0 rfl rfl rfl (by decide) fl_X12_25 ?_
      refine ax_iload_n (q := 44) (i := 2) dX12_worthOf_43 rfl rfl rfl ?_
      refine ax_iald (q := 45) (a := (Int32.toNatClampNeg x2)) (v := (σ.1 6 (Int32.toNatClampNeg x2))) dX12_worthOf_44 rfl shM_6 (h6 c1 c2) rfl rfl ?_
      refine ax_aload_n (q := 46) (i := 0) dX12_worthOf_45 rfl rfl rfl ?_
      refine ax_get (q := 49) (k := 0) (j := 11) (v := ax_r 7) dX12_worthOf_46 rfl shM_0 rfl rfl rfl (by decide) fl_X12_28 ?_
      refine ax_iload_n (q := 50) (i := 2) dX12_worthOf_49 rfl rfl rfl ?_
      refine ax_iald (q := 51) (a := (Int32.toNatClampNeg x2)) (v := (σ.1 7 (Int32.toNatClampNeg x2))) dX12_worthOf_50 rfl shM_7 (h6 c1 c2) rfl rfl ?_
      exact ax_callVci (q := 54) (As := [ax_i x1, ax_i (σ.1 6 (Int32.toNatClampNeg x2)), ax_i (σ.1 7 (Int32.toNatClampNeg x2))]) (st := []) dX12_worthOf_51 rfl lk_X12_219 shM_0 rfl rfl rfl rfl (Nat.le_of_ble_eq_true rfl) (k7 c1 c2)
set_option maxRecDepth 20000 in
theorem s_X12_worthOf_54 {d : Nat} (hd : 0 ≤ d) {Q : Option ax_V → ax_S → Prop} (σ : ax_S) (x1 : Int32) (x2 : Int32) (rr : Int32) (k1 : (rr = 0) → ax_W shM (d + 1) mX12_worthOf Q 6 [some (ax_r 0), some (ax_i x1), some (ax_i (x2 + (1 : Int32)))] [] σ) (h2 : (¬ (rr = 0)) → vp_in x2 700) (k3 : (¬ (rr = 0)) → ax_Ct shM d mX12_workOut [ax_r 0, ax_i x1, ax_i (σ.1 7 (Int32.toNatClampNeg x2)), ax_i (σ.1 8 (Int32.toNatClampNeg x2))] (fun r u => ∃ x : Int32, r = some (ax_i x) ∧ ax_W shM (d + 1) mX12_worthOf Q 74 [none, none, none] (ax_i x :: []) u) σ) : ax_W shM (d + 1) mX12_worthOf Q 54 [some (ax_r 0), some (ax_i x1), some (ax_i x2)] [ax_i rr] σ := by
  refine ax_if_eq (tgt := 75) (q := 57) dX12_worthOf_54 (by decide) rfl (fun c1 => ?_) (fun c1 => ?_)
  · refine ax_iincK (q := 78) (lv2 := [some (ax_r 0), some (ax_i x1), some (ax_i (x2 + (1 : Int32)))]) dX12_worthOf_75 rfl rfl ki_1 (by decide) rfl rfl ?_
    refine ax_goto (tgt := 6) dX12_worthOf_78 (by decide) ?_
    exact (k1 c1)
  · refine ax_aload_n (q := 58) (i := 0) dX12_worthOf_57 rfl rfl rfl ?_
    refine ax_iload_n (q := 59) (i := 1) dX12_worthOf_58 rfl rfl rfl ?_
    refine ax_aload_n (q := 60) (i := 0) dX12_worthOf_59 rfl rfl rfl ?_
    refine ax_get (q := 63) (k := 0) (j := 11) (v := ax_r 7) dX12_worthOf_60 rfl shM_0 rfl rfl rfl (by decide) fl_X12_28 ?_
    refine ax_iload_n (q := 64) (i := 2) dX12_worthOf_63 rfl rfl rfl ?_
    refine ax_iald (q := 65) (a := (Int32.toNatClampNeg x2)) (v := (σ.1 7 (Int32.toNatClampNeg x2))) dX12_worthOf_64 rfl shM_7 (h2 c1) rfl rfl ?_
    refine ax_aload_n (q := 66) (i := 0) dX12_worthOf_65 rfl rfl rfl ?_
    refine ax_get (q := 69) (k := 0) (j := 12) (v := ax_r 8) dX12_worthOf_66 rfl shM_0 rfl rfl rfl (by decide) fl_X12_31 ?_
    refine ax_iload_n (q := 70) (i := 2) dX12_worthOf_69 rfl rfl rfl ?_
    refine ax_iald (q := 71) (a := (Int32.toNatClampNeg x2)) (v := (σ.1 8 (Int32.toNatClampNeg x2))) dX12_worthOf_70 rfl shM_8 (h2 c1) rfl rfl ?_
    refine ax_fg (lv2 := [none, none, none]) trivial ?_
    exact ax_callVci (q := 74) (As := [ax_i x1, ax_i (σ.1 7 (Int32.toNatClampNeg x2)), ax_i (σ.1 8 (Int32.toNatClampNeg x2))]) (st := []) dX12_worthOf_71 rfl lk_X12_219 shM_0 rfl rfl rfl rfl (Nat.le_of_ble_eq_true rfl) (k3 c1)
set_option maxRecDepth 20000 in
theorem s_X12_worthOf_74 {d : Nat} (hd : 0 ≤ d) {Q : Option ax_V → ax_S → Prop} (σ : ax_S) (rr : Int32) (k1 : Q (some (ax_i rr)) σ) : ax_W shM (d + 1) mX12_worthOf Q 74 [none, none, none] [ax_i rr] σ := by
  exact ax_iret dX12_worthOf_74 rfl rfl k1
