set_option maxRecDepth 20000 in
theorem s_X12_rests_0 {d : Nat} (hd : 0 ≤ d) {Q : Option ax_V → ax_S → Prop} (σ : ax_S) (a0 : Int32) (a1 : Int32) (a2 : Int32) (a3 : Int32) (k1 : ax_Ct shM d mX12_areTwo [ax_r 0, ax_i a0, ax_i a1] (fun r u => ∃ x : Int32, r = some (ax_i x) ∧ ax_W shM (d + 1) mX12_rests Q 6 [some (ax_r 0), some (ax_i a0), some (ax_i a1), some (ax_i a2), some (ax_i a3), none, none, none, none, none, none, none] (ax_i x :: []) u) σ) : ax_W shM (d + 1) mX12_rests Q 0 [some (ax_r 0), some (ax_i a0), some (ax_i a1), some (ax_i a2), some (ax_i a3), none, none, none, none, none, none, none] [] σ := by
  refine ax_aload_n (q := 1) (i := 0) dX12_rests_0 rfl rfl rfl ?_
  refine ax_iload_n (q := 2) (i := 1) dX12_rests_1 rfl rfl rfl ?_
  refine ax_iload_n (q := 3) (i := 2) dX12_rests_2 rfl rfl rfl ?_
  exact ax_callVci (q := 6) (As := [ax_i a0, ax_i a1]) (st := []) dX12_rests_3 rfl lk_X12_450 shM_0 rfl rfl rfl rfl (Nat.le_of_ble_eq_true rfl) k1
set_option maxRecDepth 20000 in
theorem s_X12_rests_6 {d : Nat} (hd : 2 ≤ d) {Q : Option ax_V → ax_S → Prop} (σ : ax_S) (x1 : Int32) (x2 : Int32) (x3 : Int32) (x4 : Int32) (rr : Int32) (k1 : (rr = 0) → Q (some (ax_i (-1 : Int32))) σ) (k2 : (¬ (rr = 0)) → (¬ ((¬ (x3 < (1 : Int32))) ∧ (¬ ((999 : Int32) < x3)))) → Q (some (ax_i (-1 : Int32))) σ) (k3 : (¬ (rr = 0)) → ((¬ (x3 < (1 : Int32))) ∧ (¬ ((999 : Int32) < x3))) → ((-1 : Int32) ≤ x4) → ax_W shM (d + 1) mX12_rests Q 30 [some (ax_r 0), some (ax_i x1), some (ax_i x2), some (ax_i x3), some (ax_i x4), some (ax_i (0 : Int32)), some (ax_i (0 : Int32)), none, none, none, none, none] [] σ) (k4 : (¬ (rr = 0)) → ((¬ (x3 < (1 : Int32))) ∧ (¬ ((999 : Int32) < x3))) → (¬ ((-1 : Int32) ≤ x4)) → Q (some (ax_i (-1 : Int32))) σ) : ax_W shM (d + 1) mX12_rests Q 6 [some (ax_r 0), some (ax_i x1), some (ax_i x2), some (ax_i x3), some (ax_i x4), none, none, none, none, none, none, none] [ax_i rr] σ := by
  refine ax_if_eq (tgt := 22) (q := 9) dX12_rests_6 (by decide) rfl (fun c1 => ?_) (fun c1 => ?_)
  · refine ax_iconst (q := 23) dX12_rests_22 rfl ki_m1 ?_
    exact ax_iret dX12_rests_23 rfl rfl (k1 c1)
  · refine ax_iload_n (q := 10) (i := 3) dX12_rests_9 rfl rfl rfl ?_
    refine ax_callSfi (q := 13) (As := [ax_i x3]) (st := []) (x := (if ((¬ (x3 < (1 : Int32))) ∧ (¬ ((999 : Int32) < x3))) then (1 : Int32) else 0)) (σ2 := σ) dX12_rests_10 rfl lk_X12_351 rfl rfl (Nat.le_of_ble_eq_true rfl) (f_X12_isForce (sh := shM) σ x3  (d := d) (by omega)) ?_
    refine ax_if_eqB (tgt := 22) (q := 16) dX12_rests_13 (by decide) rfl (fun c2 => ?_) (fun c2 => ?_)
    · refine ax_iconst (q := 23) dX12_rests_22 rfl ki_m1 ?_
      exact ax_iret dX12_rests_23 rfl rfl (k2 c1 c2)
    · refine ax_iload (q := 18) dX12_rests_16 rfl rfl ?_
      refine ax_iconst (q := 19) dX12_rests_18 rfl ki_m1 ?_
      refine ax_icmp_ge (tgt := 24) (q := 22) dX12_rests_19 (by decide) rfl (fun c3 => ?_) (fun c3 => ?_)
      · refine ax_iconst (q := 25) dX12_rests_24 rfl ki_0 ?_
        refine ax_istore (q := 27) (lv2 := [some (ax_r 0), some (ax_i x1), some (ax_i x2), some (ax_i x3), some (ax_i x4), some (ax_i (0 : Int32)), none, none, none, none, none, none]) dX12_rests_25 rfl (by decide) rfl rfl ?_
        refine ax_iconst (q := 28) dX12_rests_27 rfl ki_0 ?_
        refine ax_istore (q := 30) (lv2 := [some (ax_r 0), some (ax_i x1), some (ax_i x2), some (ax_i x3), some (ax_i x4), some (ax_i (0 : Int32)), some (ax_i (0 : Int32)), none, none, none, none, none]) dX12_rests_28 rfl (by decide) rfl rfl ?_
        exact (k3 c1 c2 c3)
      · refine ax_iconst (q := 23) dX12_rests_22 rfl ki_m1 ?_
        exact ax_iret dX12_rests_23 rfl rfl (k4 c1 c2 c3)
set_option maxRecDepth 20000 in
theorem s_X12_rests_30 {d : Nat} (hd : 0 ≤ d) {Q : Option ax_V → ax_S → Prop} (σ : ax_S) (x1 : Int32) (x2 : Int32) (x3 : Int32) (x4 : Int32) (x5 : Int32) (x6 : Int32) (k1 : ((4 : Int32) ≤ x6) → Q (some (ax_i (if (¬ x4 = (-1 : Int32)) then (-1 : Int32) else x5))) σ) (k2 : (¬ ((4 : Int32) ≤ x6)) → ax_Ct shM d mX12_gameOf [ax_r 0, ax_i x1, ax_i x2, ax_i x3, ax_i (if (¬ (¬ (((1 : Int32) - (x6 / (2 : Int32))) + (x6 - x6 / (2 : Int32) * (2 : Int32))) = (2 : Int32))) then (1 : Int32) else 0)] (fun r u => ∃ x : Int32, r = some (ax_i x) ∧ ax_W shM (d + 1) mX12_rests Q 87 [some (ax_r 0), some (ax_i x1), some (ax_i x2), some (ax_i x3), some (ax_i x4), some (ax_i x5), some (ax_i x6), some (ax_i (x6 / (2 : Int32))), some (ax_i (x6 - x6 / (2 : Int32) * (2 : Int32))), some (ax_i (if (¬ (¬ ((x6 / (2 : Int32)) + (x6 - x6 / (2 : Int32) * (2 : Int32))) = (2 : Int32))) then (1 : Int32) else 0)), none, none] (ax_i x :: []) u) σ) : ax_W shM (d + 1) mX12_rests Q 30 [some (ax_r 0), some (ax_i x1), some (ax_i x2), some (ax_i x3), some (ax_i x4), some (ax_i x5), some (ax_i x6), none, none, none, none, none] [] σ := by
  refine ax_iload (q := 32) dX12_rests_30 rfl rfl ?_
  refine ax_iconst (q := 33) dX12_rests_32 rfl ki_4 ?_
  refine ax_icmp_ge (tgt := 183) (q := 36) dX12_rests_33 (by decide) rfl (fun c1 => ?_) (fun c1 => ?_)
  · refine ax_iload (q := 185) dX12_rests_183 rfl rfl ?_
    refine ax_iconst (q := 186) dX12_rests_185 rfl ki_m1 ?_
    have K3 : ax_W shM (d + 1) mX12_rests Q 195 [some (ax_r 0), some (ax_i x1), some (ax_i x2), some (ax_i x3), some (ax_i x4), some (ax_i x5), some (ax_i x6), none, none, none, none, none] [ax_i (if (¬ x4 = (-1 : Int32)) then (-1 : Int32) else x5)] σ := by
      exact ax_iret dX12_rests_195 rfl rfl (k1 c1)
    refine ax_icmp_ne (tgt := 194) (q := 189) dX12_rests_186 (by decide) rfl (fun c2 => ?_) (fun c2 => ?_)
    · refine ax_iconst (q := 195) dX12_rests_194 rfl ki_m1 ?_
      exact ax_cv (if_pos c2) K3
    · refine ax_iload (q := 191) dX12_rests_189 rfl rfl ?_
      refine ax_goto (tgt := 195) dX12_rests_191 (by decide) ?_
      exact ax_cv (if_neg c2) K3
  · refine ax_iload (q := 38) dX12_rests_36 rfl rfl ?_
    refine ax_iconst (q := 39) dX12_rests_38 rfl ki_2 ?_
    refine ax_idiv (q := 40) dX12_rests_39 rfl (by decide) ?_
    refine ax_istore (q := 42) (lv2 := [some (ax_r 0), some (ax_i x1), some (ax_i x2), some (ax_i x3), some (ax_i x4), some (ax_i x5), some (ax_i x6), some (ax_i (x6 / (2 : Int32))), none, none, none, none]) dX12_rests_40 rfl (by decide) rfl rfl ?_
    refine ax_iload (q := 44) dX12_rests_42 rfl rfl ?_
    refine ax_iconst (q := 45) dX12_rests_44 rfl ki_2 ?_
    refine ax_irem (q := 46) dX12_rests_45 rfl (by decide) ?_
    refine ax_istore (q := 48) (lv2 := [some (ax_r 0), some (ax_i x1), some (ax_i x2), some (ax_i x3), some (ax_i x4), some (ax_i x5), some (ax_i x6), some (ax_i (x6 / (2 : Int32))), some (ax_i (x6 - x6 / (2 : Int32) * (2 : Int32))), none, none, none]) dX12_rests_46 rfl (by decide) rfl rfl ?_
    refine ax_iload (q := 50) dX12_rests_48 rfl rfl ?_
    refine ax_iload (q := 52) dX12_rests_50 rfl rfl ?_
    refine ax_iadd (q := 53) dX12_rests_52 rfl ?_
    refine ax_iconst (q := 54) dX12_rests_53 rfl ki_2 ?_
    have K5 : ax_W shM (d + 1) mX12_rests Q 62 [some (ax_r 0), some (ax_i x1), some (ax_i x2), some (ax_i x3), some (ax_i x4), some (ax_i x5), some (ax_i x6), some (ax_i (x6 / (2 : Int32))), some (ax_i (x6 - x6 / (2 : Int32) * (2 : Int32))), none, none, none] [ax_i (if (¬ (¬ ((x6 / (2 : Int32)) + (x6 - x6 / (2 : Int32) * (2 : Int32))) = (2 : Int32))) then (1 : Int32) else 0)] σ := by
      refine ax_istore (q := 64) (lv2 := [some (ax_r 0), some (ax_i x1), some (ax_i x2), some (ax_i x3), some (ax_i x4), some (ax_i x5), some (ax_i x6), some (ax_i (x6 / (2 : Int32))), some (ax_i (x6 - x6 / (2 : Int32) * (2 : Int32))), some (ax_i (if (¬ (¬ ((x6 / (2 : Int32)) + (x6 - x6 / (2 : Int32) * (2 : Int32))) = (2 : Int32))) then (1 : Int32) else 0)), none, none]) dX12_rests_62 rfl (by decide) rfl rfl ?_
      refine ax_aload_n (q := 65) (i := 0) dX12_rests_64 rfl rfl rfl ?_
      refine ax_iload_n (q := 66) (i := 1) dX12_rests_65 rfl rfl rfl ?_
      refine ax_iload_n (q := 67) (i := 2) dX12_rests_66 rfl rfl rfl ?_
      refine ax_iload_n (q := 68) (i := 3) dX12_rests_67 rfl rfl rfl ?_
      refine ax_iconst (q := 69) dX12_rests_68 rfl ki_1 ?_
      refine ax_iload (q := 71) dX12_rests_69 rfl rfl ?_
      refine ax_isub (q := 72) dX12_rests_71 rfl ?_
      refine ax_iload (q := 74) dX12_rests_72 rfl rfl ?_
      refine ax_iadd (q := 75) dX12_rests_74 rfl ?_
      refine ax_iconst (q := 76) dX12_rests_75 rfl ki_2 ?_
      have K7 : ax_W shM (d + 1) mX12_rests Q 84 [some (ax_r 0), some (ax_i x1), some (ax_i x2), some (ax_i x3), some (ax_i x4), some (ax_i x5), some (ax_i x6), some (ax_i (x6 / (2 : Int32))), some (ax_i (x6 - x6 / (2 : Int32) * (2 : Int32))), some (ax_i (if (¬ (¬ ((x6 / (2 : Int32)) + (x6 - x6 / (2 : Int32) * (2 : Int32))) = (2 : Int32))) then (1 : Int32) else 0)), none, none] [ax_i (if (¬ (¬ (((1 : Int32) - (x6 / (2 : Int32))) + (x6 - x6 / (2 : Int32) * (2 : Int32))) = (2 : Int32))) then (1 : Int32) else 0), ax_i x3, ax_i x2, ax_i x1, ax_r 0] σ := by
        exact ax_callVci (q := 87) (As := [ax_i x1, ax_i x2, ax_i x3, ax_i (if (¬ (¬ (((1 : Int32) - (x6 / (2 : Int32))) + (x6 - x6 / (2 : Int32) * (2 : Int32))) = (2 : Int32))) then (1 : Int32) else 0)]) (st := []) dX12_rests_84 rfl lk_X12_454 shM_0 rfl rfl rfl rfl (Nat.le_of_ble_eq_true rfl) (k2 c1)
      refine ax_icmp_ne (tgt := 83) (q := 79) dX12_rests_76 (by decide) rfl (fun c6 => ?_) (fun c6 => ?_)
      · refine ax_iconst (q := 84) dX12_rests_83 rfl ki_0 ?_
        exact ax_cv (if_neg (fun y => y c6)) K7
      · refine ax_iconst (q := 80) dX12_rests_79 rfl ki_1 ?_
        refine ax_goto (tgt := 84) dX12_rests_80 (by decide) ?_
        exact ax_cv (if_pos c6) K7
    refine ax_icmp_ne (tgt := 61) (q := 57) dX12_rests_54 (by decide) rfl (fun c4 => ?_) (fun c4 => ?_)
    · refine ax_iconst (q := 62) dX12_rests_61 rfl ki_0 ?_
      exact ax_cv (if_neg (fun y => y c4)) K5
    · refine ax_iconst (q := 58) dX12_rests_57 rfl ki_1 ?_
      refine ax_goto (tgt := 62) dX12_rests_58 (by decide) ?_
      exact ax_cv (if_pos c4) K5
set_option maxRecDepth 20000 in
theorem s_X12_rests_87 {d : Nat} (hd : 0 ≤ d) {Q : Option ax_V → ax_S → Prop} (σ : ax_S) (x1 : Int32) (x2 : Int32) (x3 : Int32) (x4 : Int32) (x5 : Int32) (x6 : Int32) (x7 : Int32) (x8 : Int32) (x9 : Int32) (rr : Int32) (k1 : ax_Ct shM d mX12_gameOf [ax_r 0, ax_i x1, ax_i x2, ax_i x3, ax_i x9] (fun r u => ∃ x : Int32, r = some (ax_i x) ∧ ax_W shM (d + 1) mX12_rests Q 96 [some (ax_r 0), some (ax_i x1), some (ax_i x2), some (ax_i x3), some (ax_i x4), some (ax_i x5), some (ax_i x6), some (ax_i x7), some (ax_i x8), some (ax_i x9), none, none] (ax_i x :: [ax_i rr]) u) σ) : ax_W shM (d + 1) mX12_rests Q 87 [some (ax_r 0), some (ax_i x1), some (ax_i x2), some (ax_i x3), some (ax_i x4), some (ax_i x5), some (ax_i x6), some (ax_i x7), some (ax_i x8), some (ax_i x9), none, none] [ax_i rr] σ := by
  refine ax_aload_n (q := 88) (i := 0) dX12_rests_87 rfl rfl rfl ?_
  refine ax_iload_n (q := 89) (i := 1) dX12_rests_88 rfl rfl rfl ?_
  refine ax_iload_n (q := 90) (i := 2) dX12_rests_89 rfl rfl rfl ?_
  refine ax_iload_n (q := 91) (i := 3) dX12_rests_90 rfl rfl rfl ?_
  refine ax_iload (q := 93) dX12_rests_91 rfl rfl ?_
  exact ax_callVci (q := 96) (As := [ax_i x1, ax_i x2, ax_i x3, ax_i x9]) (st := [ax_i rr]) dX12_rests_93 rfl lk_X12_454 shM_0 rfl rfl rfl rfl (Nat.le_of_ble_eq_true rfl) k1
set_option maxRecDepth 20000 in
theorem s_X12_rests_96 {d : Nat} (hd : 0 ≤ d) {Q : Option ax_V → ax_S → Prop} (σ : ax_S) (x1 : Int32) (x2 : Int32) (x3 : Int32) (x4 : Int32) (x5 : Int32) (x6 : Int32) (x7 : Int32) (x8 : Int32) (x9 : Int32) (rr : Int32) (y0 : Int32) (k1 : ax_Ct shM d mX12_gameOf [ax_r 0, ax_i x2, ax_i x1, ax_i x3, ax_i (if (¬ (¬ ((x7 + (1 : Int32)) - x8) = (2 : Int32))) then (1 : Int32) else 0)] (fun r u => ∃ x : Int32, r = some (ax_i x) ∧ ax_W shM (d + 1) mX12_rests Q 129 [some (ax_r 0), some (ax_i x1), some (ax_i x2), some (ax_i x3), some (ax_i x4), some (ax_i x5), some (ax_i x6), some (ax_i x7), some (ax_i x8), some (ax_i x9), some (ax_i (if (¬ (rr < y0)) then (1 : Int32) else 0)), none] (ax_i x :: []) u) σ) : ax_W shM (d + 1) mX12_rests Q 96 [some (ax_r 0), some (ax_i x1), some (ax_i x2), some (ax_i x3), some (ax_i x4), some (ax_i x5), some (ax_i x6), some (ax_i x7), some (ax_i x8), some (ax_i x9), none, none] [ax_i rr, ax_i y0] σ := by
  have K2 : ax_W shM (d + 1) mX12_rests Q 104 [some (ax_r 0), some (ax_i x1), some (ax_i x2), some (ax_i x3), some (ax_i x4), some (ax_i x5), some (ax_i x6), some (ax_i x7), some (ax_i x8), some (ax_i x9), none, none] [ax_i (if (¬ (rr < y0)) then (1 : Int32) else 0)] σ := by
    refine ax_istore (q := 106) (lv2 := [some (ax_r 0), some (ax_i x1), some (ax_i x2), some (ax_i x3), some (ax_i x4), some (ax_i x5), some (ax_i x6), some (ax_i x7), some (ax_i x8), some (ax_i x9), some (ax_i (if (¬ (rr < y0)) then (1 : Int32) else 0)), none]) dX12_rests_104 rfl (by decide) rfl rfl ?_
    refine ax_aload_n (q := 107) (i := 0) dX12_rests_106 rfl rfl rfl ?_
    refine ax_iload_n (q := 108) (i := 2) dX12_rests_107 rfl rfl rfl ?_
    refine ax_iload_n (q := 109) (i := 1) dX12_rests_108 rfl rfl rfl ?_
    refine ax_iload_n (q := 110) (i := 3) dX12_rests_109 rfl rfl rfl ?_
    refine ax_iload (q := 112) dX12_rests_110 rfl rfl ?_
    refine ax_iconst (q := 113) dX12_rests_112 rfl ki_1 ?_
    refine ax_iadd (q := 114) dX12_rests_113 rfl ?_
    refine ax_iload (q := 116) dX12_rests_114 rfl rfl ?_
    refine ax_isub (q := 117) dX12_rests_116 rfl ?_
    refine ax_iconst (q := 118) dX12_rests_117 rfl ki_2 ?_
    have K4 : ax_W shM (d + 1) mX12_rests Q 126 [some (ax_r 0), some (ax_i x1), some (ax_i x2), some (ax_i x3), some (ax_i x4), some (ax_i x5), some (ax_i x6), some (ax_i x7), some (ax_i x8), some (ax_i x9), some (ax_i (if (¬ (rr < y0)) then (1 : Int32) else 0)), none] [ax_i (if (¬ (¬ ((x7 + (1 : Int32)) - x8) = (2 : Int32))) then (1 : Int32) else 0), ax_i x3, ax_i x1, ax_i x2, ax_r 0] σ := by
      exact ax_callVci (q := 129) (As := [ax_i x2, ax_i x1, ax_i x3, ax_i (if (¬ (¬ ((x7 + (1 : Int32)) - x8) = (2 : Int32))) then (1 : Int32) else 0)]) (st := []) dX12_rests_126 rfl lk_X12_454 shM_0 rfl rfl rfl rfl (Nat.le_of_ble_eq_true rfl) k1
    refine ax_icmp_ne (tgt := 125) (q := 121) dX12_rests_118 (by decide) rfl (fun c3 => ?_) (fun c3 => ?_)
    · refine ax_iconst (q := 126) dX12_rests_125 rfl ki_0 ?_
      exact ax_cv (if_neg (fun y => y c3)) K4
    · refine ax_iconst (q := 122) dX12_rests_121 rfl ki_1 ?_
      refine ax_goto (tgt := 126) dX12_rests_122 (by decide) ?_
      exact ax_cv (if_pos c3) K4
  refine ax_icmp_gt (tgt := 103) (q := 99) dX12_rests_96 (by decide) rfl (fun c1 => ?_) (fun c1 => ?_)
  · refine ax_iconst (q := 104) dX12_rests_103 rfl ki_0 ?_
    exact ax_cv (if_neg (fun y => y c1)) K2
  · refine ax_iconst (q := 100) dX12_rests_99 rfl ki_1 ?_
    refine ax_goto (tgt := 104) dX12_rests_100 (by decide) ?_
    exact ax_cv (if_pos c1) K2
set_option maxRecDepth 20000 in
theorem s_X12_rests_129 {d : Nat} (hd : 0 ≤ d) {Q : Option ax_V → ax_S → Prop} (σ : ax_S) (x1 : Int32) (x2 : Int32) (x3 : Int32) (x4 : Int32) (x5 : Int32) (x6 : Int32) (x7 : Int32) (x8 : Int32) (x9 : Int32) (x10 : Int32) (rr : Int32) (k1 : ax_Ct shM d mX12_gameOf [ax_r 0, ax_i x2, ax_i x1, ax_i x3, ax_i x9] (fun r u => ∃ x : Int32, r = some (ax_i x) ∧ ax_W shM (d + 1) mX12_rests Q 138 [some (ax_r 0), some (ax_i x1), some (ax_i x2), some (ax_i x3), some (ax_i x4), some (ax_i x5), some (ax_i x6), some (ax_i x7), some (ax_i x8), none, some (ax_i x10), none] (ax_i x :: [ax_i rr]) u) σ) : ax_W shM (d + 1) mX12_rests Q 129 [some (ax_r 0), some (ax_i x1), some (ax_i x2), some (ax_i x3), some (ax_i x4), some (ax_i x5), some (ax_i x6), some (ax_i x7), some (ax_i x8), some (ax_i x9), some (ax_i x10), none] [ax_i rr] σ := by
  refine ax_aload_n (q := 130) (i := 0) dX12_rests_129 rfl rfl rfl ?_
  refine ax_iload_n (q := 131) (i := 2) dX12_rests_130 rfl rfl rfl ?_
  refine ax_iload_n (q := 132) (i := 1) dX12_rests_131 rfl rfl rfl ?_
  refine ax_iload_n (q := 133) (i := 3) dX12_rests_132 rfl rfl rfl ?_
  refine ax_iload (q := 135) dX12_rests_133 rfl rfl ?_
  refine ax_fg (lv2 := [some (ax_r 0), some (ax_i x1), some (ax_i x2), some (ax_i x3), some (ax_i x4), some (ax_i x5), some (ax_i x6), some (ax_i x7), some (ax_i x8), none, some (ax_i x10), none]) ⟨rfl, rfl, rfl, rfl, rfl, rfl, rfl, rfl, rfl, rfl, trivial⟩ ?_
  exact ax_callVci (q := 138) (As := [ax_i x2, ax_i x1, ax_i x3, ax_i x9]) (st := [ax_i rr]) dX12_rests_135 rfl lk_X12_454 shM_0 rfl rfl rfl rfl (Nat.le_of_ble_eq_true rfl) k1
set_option maxRecDepth 20000 in
theorem s_X12_rests_138 {d : Nat} (hd : 0 ≤ d) {Q : Option ax_V → ax_S → Prop} (σ : ax_S) (x1 : Int32) (x2 : Int32) (x3 : Int32) (x4 : Int32) (x5 : Int32) (x6 : Int32) (x7 : Int32) (x8 : Int32) (x10 : Int32) (rr : Int32) (y0 : Int32) (k1 : (x10 = 0) → ax_W shM (d + 1) mX12_rests Q 30 [some (ax_r 0), some (ax_i x1), some (ax_i x2), some (ax_i x3), some (ax_i x4), some (ax_i x5), some (ax_i (x6 + (1 : Int32))), none, none, none, none, none] [] σ) (k2 : (¬ (x10 = 0)) → (¬ (¬ (rr < y0))) → ax_W shM (d + 1) mX12_rests Q 30 [some (ax_r 0), some (ax_i x1), some (ax_i x2), some (ax_i x3), some (ax_i x4), some (ax_i x5), some (ax_i (x6 + (1 : Int32))), none, none, none, none, none] [] σ) (k3 : (¬ (x10 = 0)) → (¬ (rr < y0)) → (¬ x5 = x4) → ax_W shM (d + 1) mX12_rests Q 30 [some (ax_r 0), some (ax_i x1), some (ax_i x2), some (ax_i x3), some (ax_i x4), some (ax_i (x5 + (1 : Int32))), some (ax_i (x6 + (1 : Int32))), none, none, none, none, none] [] σ) (k4 : (¬ (x10 = 0)) → (¬ (rr < y0)) → (¬ (¬ x5 = x4)) → Q (some (ax_i (((10 : Int32) * x7) + x8))) σ) : ax_W shM (d + 1) mX12_rests Q 138 [some (ax_r 0), some (ax_i x1), some (ax_i x2), some (ax_i x3), some (ax_i x4), some (ax_i x5), some (ax_i x6), some (ax_i x7), some (ax_i x8), none, some (ax_i x10), none] [ax_i rr, ax_i y0] σ := by
  have K2 : ax_W shM (d + 1) mX12_rests Q 146 [some (ax_r 0), some (ax_i x1), some (ax_i x2), some (ax_i x3), some (ax_i x4), some (ax_i x5), some (ax_i x6), some (ax_i x7), some (ax_i x8), none, some (ax_i x10), none] [ax_i (if (¬ (rr < y0)) then (1 : Int32) else 0)] σ := by
    refine ax_istore (q := 148) (lv2 := [some (ax_r 0), some (ax_i x1), some (ax_i x2), some (ax_i x3), some (ax_i x4), some (ax_i x5), some (ax_i x6), some (ax_i x7), some (ax_i x8), none, some (ax_i x10), some (ax_i (if (¬ (rr < y0)) then (1 : Int32) else 0))]) dX12_rests_146 rfl (by decide) rfl rfl ?_
    refine ax_iload (q := 150) dX12_rests_148 rfl rfl ?_
    refine ax_if_eq (tgt := 177) (q := 153) dX12_rests_150 (by decide) rfl (fun c3 => ?_) (fun c3 => ?_)
    · refine ax_iincK (q := 180) (lv2 := [some (ax_r 0), some (ax_i x1), some (ax_i x2), some (ax_i x3), some (ax_i x4), some (ax_i x5), some (ax_i (x6 + (1 : Int32))), some (ax_i x7), some (ax_i x8), none, some (ax_i x10), some (ax_i (if (¬ (rr < y0)) then (1 : Int32) else 0))]) dX12_rests_177 rfl rfl ki_1 (by decide) rfl rfl ?_
      refine ax_goto (tgt := 30) dX12_rests_180 (by decide) ?_
      refine ax_fg (lv2 := [some (ax_r 0), some (ax_i x1), some (ax_i x2), some (ax_i x3), some (ax_i x4), some (ax_i x5), some (ax_i (x6 + (1 : Int32))), none, none, none, none, none]) ⟨rfl, rfl, rfl, rfl, rfl, rfl, rfl, trivial⟩ ?_
      exact (k1 c3)
    · refine ax_iload (q := 155) dX12_rests_153 rfl rfl ?_
      refine ax_if_eqB (tgt := 177) (q := 158) dX12_rests_155 (by decide) rfl (fun c4 => ?_) (fun c4 => ?_)
      · refine ax_iincK (q := 180) (lv2 := [some (ax_r 0), some (ax_i x1), some (ax_i x2), some (ax_i x3), some (ax_i x4), some (ax_i x5), some (ax_i (x6 + (1 : Int32))), some (ax_i x7), some (ax_i x8), none, some (ax_i x10), some (ax_i (if (¬ (rr < y0)) then (1 : Int32) else 0))]) dX12_rests_177 rfl rfl ki_1 (by decide) rfl rfl ?_
        refine ax_goto (tgt := 30) dX12_rests_180 (by decide) ?_
        refine ax_fg (lv2 := [some (ax_r 0), some (ax_i x1), some (ax_i x2), some (ax_i x3), some (ax_i x4), some (ax_i x5), some (ax_i (x6 + (1 : Int32))), none, none, none, none, none]) ⟨rfl, rfl, rfl, rfl, rfl, rfl, rfl, trivial⟩ ?_
        exact (k2 c3 c4)
      · refine ax_iload (q := 160) dX12_rests_158 rfl rfl ?_
        refine ax_iload (q := 162) dX12_rests_160 rfl rfl ?_
        refine ax_icmp_ne (tgt := 174) (q := 165) dX12_rests_162 (by decide) rfl (fun c5 => ?_) (fun c5 => ?_)
        · refine ax_iincK (q := 177) (lv2 := [some (ax_r 0), some (ax_i x1), some (ax_i x2), some (ax_i x3), some (ax_i x4), some (ax_i (x5 + (1 : Int32))), some (ax_i x6), some (ax_i x7), some (ax_i x8), none, some (ax_i x10), some (ax_i (if (¬ (rr < y0)) then (1 : Int32) else 0))]) dX12_rests_174 rfl rfl ki_1 (by decide) rfl rfl ?_
          refine ax_iincK (q := 180) (lv2 := [some (ax_r 0), some (ax_i x1), some (ax_i x2), some (ax_i x3), some (ax_i x4), some (ax_i (x5 + (1 : Int32))), some (ax_i (x6 + (1 : Int32))), some (ax_i x7), some (ax_i x8), none, some (ax_i x10), some (ax_i (if (¬ (rr < y0)) then (1 : Int32) else 0))]) dX12_rests_177 rfl rfl ki_1 (by decide) rfl rfl ?_
          refine ax_goto (tgt := 30) dX12_rests_180 (by decide) ?_
          refine ax_fg (lv2 := [some (ax_r 0), some (ax_i x1), some (ax_i x2), some (ax_i x3), some (ax_i x4), some (ax_i (x5 + (1 : Int32))), some (ax_i (x6 + (1 : Int32))), none, none, none, none, none]) ⟨rfl, rfl, rfl, rfl, rfl, rfl, rfl, trivial⟩ ?_
          exact (k3 c3 c4 c5)
        · refine ax_bipush (q := 167) dX12_rests_165 rfl kb_10 ?_
          refine ax_iload (q := 169) dX12_rests_167 rfl rfl ?_
          refine ax_imul (q := 170) dX12_rests_169 rfl ?_
          refine ax_iload (q := 172) dX12_rests_170 rfl rfl ?_
          refine ax_iadd (q := 173) dX12_rests_172 rfl ?_
          exact ax_iret dX12_rests_173 rfl rfl (k4 c3 c4 c5)
  refine ax_icmp_gt (tgt := 145) (q := 141) dX12_rests_138 (by decide) rfl (fun c1 => ?_) (fun c1 => ?_)
  · refine ax_iconst (q := 146) dX12_rests_145 rfl ki_0 ?_
    exact ax_cv (if_neg (fun y => y c1)) K2
  · refine ax_iconst (q := 142) dX12_rests_141 rfl ki_1 ?_
    refine ax_goto (tgt := 146) dX12_rests_142 (by decide) ?_
    exact ax_cv (if_pos c1) K2
set_option maxRecDepth 20000 in
theorem s_X12_leaves_0 {d : Nat} (hd : 2 ≤ d) {Q : Option ax_V → ax_S → Prop} (σ : ax_S) (a0 : Int32) (k1 : ((σ.1 0 23) = 0) → Q (some (ax_i (-1 : Int32))) σ) (k2 : (¬ ((σ.1 0 23) = 0)) → ((¬ (a0 < (1 : Int32))) ∧ (¬ ((999 : Int32) < a0))) → ax_W shM (d + 1) mX12_leaves Q 20 [some (ax_r 0), some (ax_i a0), some (ax_i (0 : Int32)), some (ax_i (0 : Int32)), none, none, none, none] [] σ) (k3 : (¬ ((σ.1 0 23) = 0)) → (¬ ((¬ (a0 < (1 : Int32))) ∧ (¬ ((999 : Int32) < a0)))) → Q (some (ax_i (-1 : Int32))) σ) : ax_W shM (d + 1) mX12_leaves Q 0 [some (ax_r 0), some (ax_i a0), none, none, none, none, none, none] [] σ := by
  refine ax_aload_n (q := 1) (i := 0) dX12_leaves_0 rfl rfl rfl ?_
  refine ax_get (q := 4) (k := 0) (j := 23) (v := ax_i (σ.1 0 23)) dX12_leaves_1 rfl shM_0 rfl rfl rfl (by decide) fl_X12_271 ?_
  refine ax_if_eq (tgt := 14) (q := 7) dX12_leaves_4 (by decide) rfl (fun c1 => ?_) (fun c1 => ?_)
  · refine ax_iconst (q := 15) dX12_leaves_14 rfl ki_m1 ?_
    exact ax_iret dX12_leaves_15 rfl rfl (k1 c1)
  · refine ax_iload_n (q := 8) (i := 1) dX12_leaves_7 rfl rfl rfl ?_
    refine ax_callSfi (q := 11) (As := [ax_i a0]) (st := []) (x := (if ((¬ (a0 < (1 : Int32))) ∧ (¬ ((999 : Int32) < a0))) then (1 : Int32) else 0)) (σ2 := σ) dX12_leaves_8 rfl lk_X12_351 rfl rfl (Nat.le_of_ble_eq_true rfl) (f_X12_isForce (sh := shM) σ a0  (d := d) (by omega)) ?_
    refine ax_if_neB (tgt := 16) (q := 14) dX12_leaves_11 (by decide) rfl (fun c2 => ?_) (fun c2 => ?_)
    · refine ax_iconst (q := 17) dX12_leaves_16 rfl ki_0 ?_
      refine ax_istore_n (q := 18) (i := 2) (lv2 := [some (ax_r 0), some (ax_i a0), some (ax_i (0 : Int32)), none, none, none, none, none]) dX12_leaves_17 rfl rfl (by decide) rfl rfl ?_
      refine ax_iconst (q := 19) dX12_leaves_18 rfl ki_0 ?_
      refine ax_istore_n (q := 20) (i := 3) (lv2 := [some (ax_r 0), some (ax_i a0), some (ax_i (0 : Int32)), some (ax_i (0 : Int32)), none, none, none, none]) dX12_leaves_19 rfl rfl (by decide) rfl rfl ?_
      exact (k2 c1 c2)
    · refine ax_iconst (q := 15) dX12_leaves_14 rfl ki_m1 ?_
      exact ax_iret dX12_leaves_15 rfl rfl (k3 c1 c2)
set_option maxRecDepth 20000 in
theorem s_X12_leaves_20 {d : Nat} (hd : 2 ≤ d) {Q : Option ax_V → ax_S → Prop} (σ : ax_S) (x1 : Int32) (x2 : Int32) (x3 : Int32) (k1 : ((σ.1 15 84) ≤ x3) → Q (some (ax_i x2)) σ) (h2 : (¬ ((σ.1 15 84) ≤ x3)) → vp_in (((16 : Int32) + ((4 : Int32) * x3)) + (3 : Int32)) 268) (h3 : (¬ ((σ.1 15 84) ≤ x3)) → (¬ (¬ (σ.1 15 (Int32.toNatClampNeg (((16 : Int32) + ((4 : Int32) * x3)) + (3 : Int32)))) = 0)) → vp_in (((16 : Int32) + ((4 : Int32) * x3)) + (2 : Int32)) 268) (k4 : (¬ ((σ.1 15 84) ≤ x3)) → (¬ ((¬ (¬ (σ.1 15 (Int32.toNatClampNeg (((16 : Int32) + ((4 : Int32) * x3)) + (3 : Int32)))) = 0)) ∧ (¬ ((9 : Int32) ≤ (σ.1 15 (Int32.toNatClampNeg (((16 : Int32) + ((4 : Int32) * x3)) + (2 : Int32)))))))) → ax_W shM (d + 1) mX12_leaves Q 20 [some (ax_r 0), some (ax_i x1), some (ax_i x2), some (ax_i (x3 + (1 : Int32))), none, none, none, none] [] σ) (h5 : (¬ ((σ.1 15 84) ≤ x3)) → ((¬ (¬ (σ.1 15 (Int32.toNatClampNeg (((16 : Int32) + ((4 : Int32) * x3)) + (3 : Int32)))) = 0)) ∧ (¬ ((9 : Int32) ≤ (σ.1 15 (Int32.toNatClampNeg (((16 : Int32) + ((4 : Int32) * x3)) + (2 : Int32))))))) → vp_in (((16 : Int32) + ((4 : Int32) * x3)) + (0 : Int32)) 268) (h6 : (¬ ((σ.1 15 84) ≤ x3)) → ((¬ (¬ (σ.1 15 (Int32.toNatClampNeg (((16 : Int32) + ((4 : Int32) * x3)) + (3 : Int32)))) = 0)) ∧ (¬ ((9 : Int32) ≤ (σ.1 15 (Int32.toNatClampNeg (((16 : Int32) + ((4 : Int32) * x3)) + (2 : Int32))))))) → vp_in (((16 : Int32) + ((4 : Int32) * x3)) + (1 : Int32)) 268) (k7 : (¬ ((σ.1 15 84) ≤ x3)) → ((¬ (¬ (σ.1 15 (Int32.toNatClampNeg (((16 : Int32) + ((4 : Int32) * x3)) + (3 : Int32)))) = 0)) ∧ (¬ ((9 : Int32) ≤ (σ.1 15 (Int32.toNatClampNeg (((16 : Int32) + ((4 : Int32) * x3)) + (2 : Int32))))))) → ax_Ct shM d mX12_mostKept [ax_r 0, ax_i (σ.1 15 (Int32.toNatClampNeg (((16 : Int32) + ((4 : Int32) * x3)) + (0 : Int32)))), ax_i (σ.1 15 (Int32.toNatClampNeg (((16 : Int32) + ((4 : Int32) * x3)) + (0 : Int32)))), ax_i (σ.1 15 (Int32.toNatClampNeg (((16 : Int32) + ((4 : Int32) * x3)) + (1 : Int32)))), ax_i x1] (fun r u => ∃ x : Int32, r = some (ax_i x) ∧ ax_W shM (d + 1) mX12_leaves Q 66 [some (ax_r 0), some (ax_i x1), some (ax_i x2), some (ax_i x3), some (ax_i (σ.1 15 (Int32.toNatClampNeg (((16 : Int32) + ((4 : Int32) * x3)) + (0 : Int32))))), some (ax_i (σ.1 15 (Int32.toNatClampNeg (((16 : Int32) + ((4 : Int32) * x3)) + (1 : Int32))))), none, none] (ax_i x :: []) u) σ) : ax_W shM (d + 1) mX12_leaves Q 20 [some (ax_r 0), some (ax_i x1), some (ax_i x2), some (ax_i x3), none, none, none, none] [] σ := by
  refine ax_iload_n (q := 21) (i := 3) dX12_leaves_20 rfl rfl rfl ?_
  refine ax_aload_n (q := 22) (i := 0) dX12_leaves_21 rfl rfl rfl ?_
  refine ax_get (q := 25) (k := 0) (j := 25) (v := ax_r 15) dX12_leaves_22 rfl shM_0 rfl rfl rfl (by decide) fl_X12_52 ?_
  refine ax_bipush (q := 27) dX12_leaves_25 rfl kb_84 ?_
  refine ax_iald (q := 28) (a := 84) (v := (σ.1 15 84)) dX12_leaves_27 rfl shM_15 (ax_inl 84 268 (by decide) (by decide)) rfl rfl ?_
  refine ax_icmp_ge (tgt := 143) (q := 31) dX12_leaves_28 (by decide) rfl (fun c1 => ?_) (fun c1 => ?_)
  · refine ax_iload_n (q := 144) (i := 2) dX12_leaves_143 rfl rfl rfl ?_
    exact ax_iret dX12_leaves_144 rfl rfl (k1 c1)
  · refine ax_aload_n (q := 32) (i := 0) dX12_leaves_31 rfl rfl rfl ?_
    refine ax_iload_n (q := 33) (i := 3) dX12_leaves_32 rfl rfl rfl ?_
    refine ax_callVfi (q := 36) (As := [ax_i x3]) (st := []) (x := (if ((¬ (¬ (σ.1 15 (Int32.toNatClampNeg (((16 : Int32) + ((4 : Int32) * x3)) + (3 : Int32)))) = 0)) ∧ (¬ ((9 : Int32) ≤ (σ.1 15 (Int32.toNatClampNeg (((16 : Int32) + ((4 : Int32) * x3)) + (2 : Int32))))))) then (1 : Int32) else 0)) (σ2 := σ) dX12_leaves_33 rfl lk_X12_312 shM_0 rfl rfl rfl rfl (Nat.le_of_ble_eq_true rfl) (f_X12_isLive σ x3 (h2 c1) (h3 c1) (d := d) (by omega)) ?_
    refine ax_if_eqB (tgt := 137) (q := 39) dX12_leaves_36 (by decide) rfl (fun c2 => ?_) (fun c2 => ?_)
    · refine ax_iincK (q := 140) (lv2 := [some (ax_r 0), some (ax_i x1), some (ax_i x2), some (ax_i (x3 + (1 : Int32))), none, none, none, none]) dX12_leaves_137 rfl rfl ki_1 (by decide) rfl rfl ?_
      refine ax_goto (tgt := 20) dX12_leaves_140 (by decide) ?_
      exact (k4 c1 c2)
    · refine ax_aload_n (q := 40) (i := 0) dX12_leaves_39 rfl rfl rfl ?_
      refine ax_iload_n (q := 41) (i := 3) dX12_leaves_40 rfl rfl rfl ?_
      refine ax_iconst (q := 42) dX12_leaves_41 rfl ki_0 ?_
      refine ax_callVfi (q := 45) (As := [ax_i x3, ax_i (0 : Int32)]) (st := []) (x := (σ.1 15 (Int32.toNatClampNeg (((16 : Int32) + ((4 : Int32) * x3)) + (0 : Int32))))) (σ2 := σ) dX12_leaves_42 rfl lk_X12_306 shM_0 rfl rfl rfl rfl (Nat.le_of_ble_eq_true rfl) (f_X12_ofWire σ x3 (0 : Int32) (h5 c1 c2) (d := d) (by omega)) ?_
      refine ax_istore (q := 47) (lv2 := [some (ax_r 0), some (ax_i x1), some (ax_i x2), some (ax_i x3), some (ax_i (σ.1 15 (Int32.toNatClampNeg (((16 : Int32) + ((4 : Int32) * x3)) + (0 : Int32))))), none, none, none]) dX12_leaves_45 rfl (by decide) rfl rfl ?_
      refine ax_aload_n (q := 48) (i := 0) dX12_leaves_47 rfl rfl rfl ?_
      refine ax_iload_n (q := 49) (i := 3) dX12_leaves_48 rfl rfl rfl ?_
      refine ax_iconst (q := 50) dX12_leaves_49 rfl ki_1 ?_
      refine ax_callVfi (q := 53) (As := [ax_i x3, ax_i (1 : Int32)]) (st := []) (x := (σ.1 15 (Int32.toNatClampNeg (((16 : Int32) + ((4 : Int32) * x3)) + (1 : Int32))))) (σ2 := σ) dX12_leaves_50 rfl lk_X12_306 shM_0 rfl rfl rfl rfl (Nat.le_of_ble_eq_true rfl) (f_X12_ofWire σ x3 (1 : Int32) (h6 c1 c2) (d := d) (by omega)) ?_
      refine ax_istore (q := 55) (lv2 := [some (ax_r 0), some (ax_i x1), some (ax_i x2), some (ax_i x3), some (ax_i (σ.1 15 (Int32.toNatClampNeg (((16 : Int32) + ((4 : Int32) * x3)) + (0 : Int32))))), some (ax_i (σ.1 15 (Int32.toNatClampNeg (((16 : Int32) + ((4 : Int32) * x3)) + (1 : Int32))))), none, none]) dX12_leaves_53 rfl (by decide) rfl rfl ?_
      refine ax_aload_n (q := 56) (i := 0) dX12_leaves_55 rfl rfl rfl ?_
      refine ax_iload (q := 58) dX12_leaves_56 rfl rfl ?_
      refine ax_iload (q := 60) dX12_leaves_58 rfl rfl ?_
      refine ax_iload (q := 62) dX12_leaves_60 rfl rfl ?_
      refine ax_iload_n (q := 63) (i := 1) dX12_leaves_62 rfl rfl rfl ?_
      exact ax_callVci (q := 66) (As := [ax_i (σ.1 15 (Int32.toNatClampNeg (((16 : Int32) + ((4 : Int32) * x3)) + (0 : Int32)))), ax_i (σ.1 15 (Int32.toNatClampNeg (((16 : Int32) + ((4 : Int32) * x3)) + (0 : Int32)))), ax_i (σ.1 15 (Int32.toNatClampNeg (((16 : Int32) + ((4 : Int32) * x3)) + (1 : Int32)))), ax_i x1]) (st := []) dX12_leaves_63 rfl lk_X12_446 shM_0 rfl rfl rfl rfl (Nat.le_of_ble_eq_true rfl) (k7 c1 c2)
set_option maxRecDepth 20000 in
theorem s_X12_leaves_66 {d : Nat} (hd : 0 ≤ d) {Q : Option ax_V → ax_S → Prop} (σ : ax_S) (x1 : Int32) (x2 : Int32) (x3 : Int32) (x4 : Int32) (x5 : Int32) (rr : Int32) (k1 : ax_Ct shM d mX12_mostKept [ax_r 0, ax_i x5, ax_i x4, ax_i x5, ax_i x1] (fun r u => ∃ x : Int32, r = some (ax_i x) ∧ ax_W shM (d + 1) mX12_leaves Q 79 [some (ax_r 0), some (ax_i x1), some (ax_i x2), some (ax_i x3), some (ax_i x4), some (ax_i x5), some (ax_i rr), none] (ax_i x :: []) u) σ) : ax_W shM (d + 1) mX12_leaves Q 66 [some (ax_r 0), some (ax_i x1), some (ax_i x2), some (ax_i x3), some (ax_i x4), some (ax_i x5), none, none] [ax_i rr] σ := by
  refine ax_istore (q := 68) (lv2 := [some (ax_r 0), some (ax_i x1), some (ax_i x2), some (ax_i x3), some (ax_i x4), some (ax_i x5), some (ax_i rr), none]) dX12_leaves_66 rfl (by decide) rfl rfl ?_
  refine ax_aload_n (q := 69) (i := 0) dX12_leaves_68 rfl rfl rfl ?_
  refine ax_iload (q := 71) dX12_leaves_69 rfl rfl ?_
  refine ax_iload (q := 73) dX12_leaves_71 rfl rfl ?_
  refine ax_iload (q := 75) dX12_leaves_73 rfl rfl ?_
  refine ax_iload_n (q := 76) (i := 1) dX12_leaves_75 rfl rfl rfl ?_
  exact ax_callVci (q := 79) (As := [ax_i x5, ax_i x4, ax_i x5, ax_i x1]) (st := []) dX12_leaves_76 rfl lk_X12_446 shM_0 rfl rfl rfl rfl (Nat.le_of_ble_eq_true rfl) k1
set_option maxRecDepth 20000 in
theorem s_X12_leaves_79 {d : Nat} (hd : 1 ≤ d) {Q : Option ax_V → ax_S → Prop} (σ : ax_S) (x1 : Int32) (x2 : Int32) (x3 : Int32) (x4 : Int32) (x5 : Int32) (x6 : Int32) (rr : Int32) (h1 : vp_in (((16 : Int32) + ((4 : Int32) * x3)) + (3 : Int32)) 268) (k2 : ax_Ct shM d mX12_mostKept [ax_r 0, ax_i x4, ax_i x4, ax_i x5, ax_i x1] (fun r u => ∃ x : Int32, r = some (ax_i x) ∧ ax_W shM (d + 1) mX12_leaves Q 100 [some (ax_r 0), some (ax_i x1), none, some (ax_i x3), some (ax_i x4), some (ax_i x5), some (ax_i x6), some (ax_i rr)] (ax_i x :: [ax_i x2]) u) (ax_ui σ 15 (Int32.toNatClampNeg (((16 : Int32) + ((4 : Int32) * x3)) + (3 : Int32))) (1 : Int32))) : ax_W shM (d + 1) mX12_leaves Q 79 [some (ax_r 0), some (ax_i x1), some (ax_i x2), some (ax_i x3), some (ax_i x4), some (ax_i x5), some (ax_i x6), none] [ax_i rr] σ := by
  refine ax_istore (q := 81) (lv2 := [some (ax_r 0), some (ax_i x1), some (ax_i x2), some (ax_i x3), some (ax_i x4), some (ax_i x5), some (ax_i x6), some (ax_i rr)]) dX12_leaves_79 rfl (by decide) rfl rfl ?_
  refine ax_aload_n (q := 82) (i := 0) dX12_leaves_81 rfl rfl rfl ?_
  refine ax_iload_n (q := 83) (i := 3) dX12_leaves_82 rfl rfl rfl ?_
  refine ax_iconst (q := 84) dX12_leaves_83 rfl ki_3 ?_
  refine ax_iconst (q := 85) dX12_leaves_84 rfl ki_1 ?_
  refine ax_callVfv (q := 88) (As := [ax_i x3, ax_i (3 : Int32), ax_i (1 : Int32)]) (st := []) (σ2 := (ax_ui σ 15 (Int32.toNatClampNeg (((16 : Int32) + ((4 : Int32) * x3)) + (3 : Int32))) (1 : Int32))) dX12_leaves_85 rfl lk_X12_302 shM_0 rfl rfl rfl rfl (Nat.le_of_ble_eq_true rfl) (f_X12_putWire σ x3 (3 : Int32) (1 : Int32) h1 (d := d) (by omega)) ?_
  refine ax_iload_n (q := 89) (i := 2) dX12_leaves_88 rfl rfl rfl ?_
  refine ax_aload_n (q := 90) (i := 0) dX12_leaves_89 rfl rfl rfl ?_
  refine ax_iload (q := 92) dX12_leaves_90 rfl rfl ?_
  refine ax_iload (q := 94) dX12_leaves_92 rfl rfl ?_
  refine ax_iload (q := 96) dX12_leaves_94 rfl rfl ?_
  refine ax_iload_n (q := 97) (i := 1) dX12_leaves_96 rfl rfl rfl ?_
  refine ax_fg (lv2 := [some (ax_r 0), some (ax_i x1), none, some (ax_i x3), some (ax_i x4), some (ax_i x5), some (ax_i x6), some (ax_i rr)]) ⟨rfl, rfl, rfl, rfl, rfl, rfl, rfl, trivial⟩ ?_
  exact ax_callVci (q := 100) (As := [ax_i x4, ax_i x4, ax_i x5, ax_i x1]) (st := [ax_i x2]) dX12_leaves_97 rfl lk_X12_446 shM_0 rfl rfl rfl rfl (Nat.le_of_ble_eq_true rfl) k2
set_option maxRecDepth 20000 in
theorem s_X12_leaves_100 {d : Nat} (hd : 1 ≤ d) {Q : Option ax_V → ax_S → Prop} (σ : ax_S) (x1 : Int32) (x3 : Int32) (x4 : Int32) (x5 : Int32) (x6 : Int32) (x7 : Int32) (rr : Int32) (y0 : Int32) (h1 : (rr < x6) → vp_in (((16 : Int32) + ((4 : Int32) * x3)) + (3 : Int32)) 268) (k2 : (rr < x6) → ax_W shM (d + 1) mX12_leaves Q 20 [some (ax_r 0), some (ax_i x1), some (ax_i (y0 ||| ((1 : Int32) <<< (x3 &&& 31)))), some (ax_i (x3 + (1 : Int32))), none, none, none, none] [] (ax_ui σ 15 (Int32.toNatClampNeg (((16 : Int32) + ((4 : Int32) * x3)) + (3 : Int32))) (0 : Int32))) (k3 : (¬ (rr < x6)) → ax_Ct shM d mX12_mostKept [ax_r 0, ax_i x5, ax_i x4, ax_i x5, ax_i x1] (fun r u => ∃ x : Int32, r = some (ax_i x) ∧ ax_W shM (d + 1) mX12_leaves Q 116 [some (ax_r 0), some (ax_i x1), none, some (ax_i x3), none, none, none, some (ax_i x7)] (ax_i x :: [ax_i y0]) u) σ) : ax_W shM (d + 1) mX12_leaves Q 100 [some (ax_r 0), some (ax_i x1), none, some (ax_i x3), some (ax_i x4), some (ax_i x5), some (ax_i x6), some (ax_i x7)] [ax_i rr, ax_i y0] σ := by
  refine ax_iload (q := 102) dX12_leaves_100 rfl rfl ?_
  refine ax_icmp_lt (tgt := 121) (q := 105) dX12_leaves_102 (by decide) rfl (fun c1 => ?_) (fun c1 => ?_)
  · refine ax_iconst (q := 122) dX12_leaves_121 rfl ki_1 ?_
    refine ax_iload_n (q := 123) (i := 3) dX12_leaves_122 rfl rfl rfl ?_
    refine ax_ishl (q := 124) dX12_leaves_123 rfl ?_
    refine ax_goto (tgt := 128) dX12_leaves_124 (by decide) ?_
    refine ax_ior (q := 129) dX12_leaves_128 rfl ?_
    refine ax_istore_n (q := 130) (i := 2) (lv2 := [some (ax_r 0), some (ax_i x1), some (ax_i (y0 ||| ((1 : Int32) <<< (x3 &&& 31)))), some (ax_i x3), some (ax_i x4), some (ax_i x5), some (ax_i x6), some (ax_i x7)]) dX12_leaves_129 rfl rfl (by decide) rfl rfl ?_
    refine ax_aload_n (q := 131) (i := 0) dX12_leaves_130 rfl rfl rfl ?_
    refine ax_iload_n (q := 132) (i := 3) dX12_leaves_131 rfl rfl rfl ?_
    refine ax_iconst (q := 133) dX12_leaves_132 rfl ki_3 ?_
    refine ax_iconst (q := 134) dX12_leaves_133 rfl ki_0 ?_
    refine ax_callVfv (q := 137) (As := [ax_i x3, ax_i (3 : Int32), ax_i (0 : Int32)]) (st := []) (σ2 := (ax_ui σ 15 (Int32.toNatClampNeg (((16 : Int32) + ((4 : Int32) * x3)) + (3 : Int32))) (0 : Int32))) dX12_leaves_134 rfl lk_X12_302 shM_0 rfl rfl rfl rfl (Nat.le_of_ble_eq_true rfl) (f_X12_putWire σ x3 (3 : Int32) (0 : Int32) (h1 c1) (d := d) (by omega)) ?_
    refine ax_iincK (q := 140) (lv2 := [some (ax_r 0), some (ax_i x1), some (ax_i (y0 ||| ((1 : Int32) <<< (x3 &&& 31)))), some (ax_i (x3 + (1 : Int32))), some (ax_i x4), some (ax_i x5), some (ax_i x6), some (ax_i x7)]) dX12_leaves_137 rfl rfl ki_1 (by decide) rfl rfl ?_
    refine ax_goto (tgt := 20) dX12_leaves_140 (by decide) ?_
    refine ax_fg (lv2 := [some (ax_r 0), some (ax_i x1), some (ax_i (y0 ||| ((1 : Int32) <<< (x3 &&& 31)))), some (ax_i (x3 + (1 : Int32))), none, none, none, none]) ⟨rfl, rfl, rfl, rfl, trivial⟩ ?_
    exact (k2 c1)
  · refine ax_aload_n (q := 106) (i := 0) dX12_leaves_105 rfl rfl rfl ?_
    refine ax_iload (q := 108) dX12_leaves_106 rfl rfl ?_
    refine ax_iload (q := 110) dX12_leaves_108 rfl rfl ?_
    refine ax_iload (q := 112) dX12_leaves_110 rfl rfl ?_
    refine ax_iload_n (q := 113) (i := 1) dX12_leaves_112 rfl rfl rfl ?_
    refine ax_fg (lv2 := [some (ax_r 0), some (ax_i x1), none, some (ax_i x3), none, none, none, some (ax_i x7)]) ⟨rfl, rfl, rfl, rfl, trivial⟩ ?_
    exact ax_callVci (q := 116) (As := [ax_i x5, ax_i x4, ax_i x5, ax_i x1]) (st := [ax_i y0]) dX12_leaves_113 rfl lk_X12_446 shM_0 rfl rfl rfl rfl (Nat.le_of_ble_eq_true rfl) (k3 c1)
set_option maxRecDepth 20000 in
theorem s_X12_leaves_116 {d : Nat} (hd : 1 ≤ d) {Q : Option ax_V → ax_S → Prop} (σ : ax_S) (x1 : Int32) (x3 : Int32) (x7 : Int32) (rr : Int32) (y0 : Int32) (h1 : vp_in (((16 : Int32) + ((4 : Int32) * x3)) + (3 : Int32)) 268) (k2 : ax_W shM (d + 1) mX12_leaves Q 20 [some (ax_r 0), some (ax_i x1), some (ax_i (y0 ||| (if (x7 ≤ rr) then (0 : Int32) else ((1 : Int32) <<< (x3 &&& 31))))), some (ax_i (x3 + (1 : Int32))), none, none, none, none] [] (ax_ui σ 15 (Int32.toNatClampNeg (((16 : Int32) + ((4 : Int32) * x3)) + (3 : Int32))) (0 : Int32))) : ax_W shM (d + 1) mX12_leaves Q 116 [some (ax_r 0), some (ax_i x1), none, some (ax_i x3), none, none, none, some (ax_i x7)] [ax_i rr, ax_i y0] σ := by
  refine ax_iload (q := 118) dX12_leaves_116 rfl rfl ?_
  have K2 : ax_W shM (d + 1) mX12_leaves Q 128 [some (ax_r 0), some (ax_i x1), none, some (ax_i x3), none, none, none, some (ax_i x7)] [ax_i (if (x7 ≤ rr) then (0 : Int32) else ((1 : Int32) <<< (x3 &&& 31))), ax_i y0] σ := by
    refine ax_ior (q := 129) dX12_leaves_128 rfl ?_
    refine ax_istore_n (q := 130) (i := 2) (lv2 := [some (ax_r 0), some (ax_i x1), some (ax_i (y0 ||| (if (x7 ≤ rr) then (0 : Int32) else ((1 : Int32) <<< (x3 &&& 31))))), some (ax_i x3), none, none, none, some (ax_i x7)]) dX12_leaves_129 rfl rfl (by decide) rfl rfl ?_
    refine ax_aload_n (q := 131) (i := 0) dX12_leaves_130 rfl rfl rfl ?_
    refine ax_iload_n (q := 132) (i := 3) dX12_leaves_131 rfl rfl rfl ?_
    refine ax_iconst (q := 133) dX12_leaves_132 rfl ki_3 ?_
    refine ax_iconst (q := 134) dX12_leaves_133 rfl ki_0 ?_
    refine ax_callVfv (q := 137) (As := [ax_i x3, ax_i (3 : Int32), ax_i (0 : Int32)]) (st := []) (σ2 := (ax_ui σ 15 (Int32.toNatClampNeg (((16 : Int32) + ((4 : Int32) * x3)) + (3 : Int32))) (0 : Int32))) dX12_leaves_134 rfl lk_X12_302 shM_0 rfl rfl rfl rfl (Nat.le_of_ble_eq_true rfl) (f_X12_putWire σ x3 (3 : Int32) (0 : Int32) h1 (d := d) (by omega)) ?_
    refine ax_iincK (q := 140) (lv2 := [some (ax_r 0), some (ax_i x1), some (ax_i (y0 ||| (if (x7 ≤ rr) then (0 : Int32) else ((1 : Int32) <<< (x3 &&& 31))))), some (ax_i (x3 + (1 : Int32))), none, none, none, some (ax_i x7)]) dX12_leaves_137 rfl rfl ki_1 (by decide) rfl rfl ?_
    refine ax_goto (tgt := 20) dX12_leaves_140 (by decide) ?_
    refine ax_fg (lv2 := [some (ax_r 0), some (ax_i x1), some (ax_i (y0 ||| (if (x7 ≤ rr) then (0 : Int32) else ((1 : Int32) <<< (x3 &&& 31))))), some (ax_i (x3 + (1 : Int32))), none, none, none, none]) ⟨rfl, rfl, rfl, rfl, trivial⟩ ?_
    exact k2
  refine ax_icmp_ge (tgt := 127) (q := 121) dX12_leaves_118 (by decide) rfl (fun c1 => ?_) (fun c1 => ?_)
  · refine ax_iconst (q := 128) dX12_leaves_127 rfl ki_0 ?_
    exact ax_cv (if_pos c1) K2
  · refine ax_iconst (q := 122) dX12_leaves_121 rfl ki_1 ?_
    refine ax_iload_n (q := 123) (i := 3) dX12_leaves_122 rfl rfl rfl ?_
    refine ax_ishl (q := 124) dX12_leaves_123 rfl ?_
    refine ax_goto (tgt := 128) dX12_leaves_124 (by decide) ?_
    exact ax_cv (if_neg c1) K2
set_option maxRecDepth 20000 in
theorem s_X12_scorched_0 {d : Nat} (hd : 2 ≤ d) {Q : Option ax_V → ax_S → Prop} (σ : ax_S) (a0 : Int32) (a1 : Int32) (a2 : Int32) (a3 : Int32) (k1 : (¬ ((¬ (a0 < (0 : Int32))) ∧ (¬ (((σ.1 0 23) - (1 : Int32)) < a0)))) → Q (some (ax_i (-1 : Int32))) σ) (k2 : ((¬ (a0 < (0 : Int32))) ∧ (¬ (((σ.1 0 23) - (1 : Int32)) < a0))) → (¬ ((¬ (a2 < (0 : Int32))) ∧ (¬ (((σ.1 0 23) - (1 : Int32)) < a2)))) → Q (some (ax_i (-1 : Int32))) σ) (k3 : ((¬ (a0 < (0 : Int32))) ∧ (¬ (((σ.1 0 23) - (1 : Int32)) < a0))) → ((¬ (a2 < (0 : Int32))) ∧ (¬ (((σ.1 0 23) - (1 : Int32)) < a2))) → (¬ ((¬ (a1 < (1 : Int32))) ∧ (¬ ((999 : Int32) < a1)))) → Q (some (ax_i (-1 : Int32))) σ) (h4 : ((¬ (a0 < (0 : Int32))) ∧ (¬ (((σ.1 0 23) - (1 : Int32)) < a0))) → ((¬ (a2 < (0 : Int32))) ∧ (¬ (((σ.1 0 23) - (1 : Int32)) < a2))) → ((¬ (a1 < (1 : Int32))) ∧ (¬ ((999 : Int32) < a1))) → (¬ (σ.1 0 46) = (10 : Int32)) → vp_in (σ.1 0 46) 10) (k5 : ((¬ (a0 < (0 : Int32))) ∧ (¬ (((σ.1 0 23) - (1 : Int32)) < a0))) → ((¬ (a2 < (0 : Int32))) ∧ (¬ (((σ.1 0 23) - (1 : Int32)) < a2))) → ((¬ (a1 < (1 : Int32))) ∧ (¬ ((999 : Int32) < a1))) → (¬ (σ.1 0 46) = (10 : Int32)) → Q (some (ax_i ((σ.1 0 46) + (1 : Int32)))) (ax_ui (ax_ui (ax_ui (ax_ui (ax_ui σ 23 (Int32.toNatClampNeg (σ.1 0 46)) a0) 24 (Int32.toNatClampNeg (σ.1 0 46)) a1) 25 (Int32.toNatClampNeg (σ.1 0 46)) a2) 26 (Int32.toNatClampNeg (σ.1 0 46)) (vp_nar .boolean a3)) 0 46 ((σ.1 0 46) + (1 : Int32)))) (k6 : ((¬ (a0 < (0 : Int32))) ∧ (¬ (((σ.1 0 23) - (1 : Int32)) < a0))) → ((¬ (a2 < (0 : Int32))) ∧ (¬ (((σ.1 0 23) - (1 : Int32)) < a2))) → ((¬ (a1 < (1 : Int32))) ∧ (¬ ((999 : Int32) < a1))) → (¬ (¬ (σ.1 0 46) = (10 : Int32))) → Q (some (ax_i (-1 : Int32))) σ) : ax_W shM (d + 1) mX12_scorched Q 0 [some (ax_r 0), some (ax_i a0), some (ax_i a1), some (ax_i a2), some (ax_i a3)] [] σ := by
  refine ax_aload_n (q := 1) (i := 0) dX12_scorched_0 rfl rfl rfl ?_
  refine ax_iload_n (q := 2) (i := 1) dX12_scorched_1 rfl rfl rfl ?_
  refine ax_callVfi (q := 5) (As := [ax_i a0]) (st := []) (x := (if ((¬ (a0 < (0 : Int32))) ∧ (¬ (((σ.1 0 23) - (1 : Int32)) < a0))) then (1 : Int32) else 0)) (σ2 := σ) dX12_scorched_2 rfl lk_X12_342 shM_0 rfl rfl rfl rfl (Nat.le_of_ble_eq_true rfl) (f_X12_isHouse σ a0  (d := d) (by omega)) ?_
  refine ax_if_eqB (tgt := 32) (q := 8) dX12_scorched_5 (by decide) rfl (fun c1 => ?_) (fun c1 => ?_)
  · refine ax_iconst (q := 33) dX12_scorched_32 rfl ki_m1 ?_
    exact ax_iret dX12_scorched_33 rfl rfl (k1 c1)
  · refine ax_aload_n (q := 9) (i := 0) dX12_scorched_8 rfl rfl rfl ?_
    refine ax_iload_n (q := 10) (i := 3) dX12_scorched_9 rfl rfl rfl ?_
    refine ax_callVfi (q := 13) (As := [ax_i a2]) (st := []) (x := (if ((¬ (a2 < (0 : Int32))) ∧ (¬ (((σ.1 0 23) - (1 : Int32)) < a2))) then (1 : Int32) else 0)) (σ2 := σ) dX12_scorched_10 rfl lk_X12_342 shM_0 rfl rfl rfl rfl (Nat.le_of_ble_eq_true rfl) (f_X12_isHouse σ a2  (d := d) (by omega)) ?_
    refine ax_if_eqB (tgt := 32) (q := 16) dX12_scorched_13 (by decide) rfl (fun c2 => ?_) (fun c2 => ?_)
    · refine ax_iconst (q := 33) dX12_scorched_32 rfl ki_m1 ?_
      exact ax_iret dX12_scorched_33 rfl rfl (k2 c1 c2)
    · refine ax_iload_n (q := 17) (i := 2) dX12_scorched_16 rfl rfl rfl ?_
      refine ax_callSfi (q := 20) (As := [ax_i a1]) (st := []) (x := (if ((¬ (a1 < (1 : Int32))) ∧ (¬ ((999 : Int32) < a1))) then (1 : Int32) else 0)) (σ2 := σ) dX12_scorched_17 rfl lk_X12_351 rfl rfl (Nat.le_of_ble_eq_true rfl) (f_X12_isForce (sh := shM) σ a1  (d := d) (by omega)) ?_
      refine ax_if_eqB (tgt := 32) (q := 23) dX12_scorched_20 (by decide) rfl (fun c3 => ?_) (fun c3 => ?_)
      · refine ax_iconst (q := 33) dX12_scorched_32 rfl ki_m1 ?_
        exact ax_iret dX12_scorched_33 rfl rfl (k3 c1 c2 c3)
      · refine ax_aload_n (q := 24) (i := 0) dX12_scorched_23 rfl rfl rfl ?_
        refine ax_get (q := 27) (k := 0) (j := 46) (v := ax_i (σ.1 0 46)) dX12_scorched_24 rfl shM_0 rfl rfl rfl (by decide) fl_X12_283 ?_
        refine ax_bipush (q := 29) dX12_scorched_27 rfl kb_10 ?_
        refine ax_icmp_ne (tgt := 34) (q := 32) dX12_scorched_29 (by decide) rfl (fun c4 => ?_) (fun c4 => ?_)
        · refine ax_aload_n (q := 35) (i := 0) dX12_scorched_34 rfl rfl rfl ?_
          refine ax_get (q := 38) (k := 0) (j := 42) (v := ax_r 23) dX12_scorched_35 rfl shM_0 rfl rfl rfl (by decide) fl_X12_83 ?_
          refine ax_aload_n (q := 39) (i := 0) dX12_scorched_38 rfl rfl rfl ?_
          refine ax_get (q := 42) (k := 0) (j := 46) (v := ax_i (σ.1 0 46)) dX12_scorched_39 rfl shM_0 rfl rfl rfl (by decide) fl_X12_283 ?_
          refine ax_iload_n (q := 43) (i := 1) dX12_scorched_42 rfl rfl rfl ?_
          refine ax_iast (q := 44) (a := (Int32.toNatClampNeg (σ.1 0 46))) dX12_scorched_43 rfl shM_23 (h4 c1 c2 c3 c4) rfl ?_
          refine ax_aload_n (q := 45) (i := 0) dX12_scorched_44 rfl rfl rfl ?_
          refine ax_get (q := 48) (k := 0) (j := 43) (v := ax_r 24) dX12_scorched_45 rfl shM_0 rfl rfl rfl (by decide) fl_X12_86 ?_
          refine ax_aload_n (q := 49) (i := 0) dX12_scorched_48 rfl rfl rfl ?_
          refine ax_get (q := 52) (k := 0) (j := 46) (v := ax_i (σ.1 0 46)) dX12_scorched_49 rfl shM_0 rfl rfl rfl (by decide) fl_X12_283 ?_
          refine ax_iload_n (q := 53) (i := 2) dX12_scorched_52 rfl rfl rfl ?_
          refine ax_iast (q := 54) (a := (Int32.toNatClampNeg (σ.1 0 46))) dX12_scorched_53 rfl shM_24 (h4 c1 c2 c3 c4) rfl ?_
          refine ax_aload_n (q := 55) (i := 0) dX12_scorched_54 rfl rfl rfl ?_
          refine ax_get (q := 58) (k := 0) (j := 44) (v := ax_r 25) dX12_scorched_55 rfl shM_0 rfl rfl rfl (by decide) fl_X12_89 ?_
          refine ax_aload_n (q := 59) (i := 0) dX12_scorched_58 rfl rfl rfl ?_
          refine ax_get (q := 62) (k := 0) (j := 46) (v := ax_i (σ.1 0 46)) dX12_scorched_59 rfl shM_0 rfl rfl rfl (by decide) fl_X12_283 ?_
          refine ax_iload_n (q := 63) (i := 3) dX12_scorched_62 rfl rfl rfl ?_
          refine ax_iast (q := 64) (a := (Int32.toNatClampNeg (σ.1 0 46))) dX12_scorched_63 rfl shM_25 (h4 c1 c2 c3 c4) rfl ?_
          refine ax_aload_n (q := 65) (i := 0) dX12_scorched_64 rfl rfl rfl ?_
          refine ax_get (q := 68) (k := 0) (j := 45) (v := ax_r 26) dX12_scorched_65 rfl shM_0 rfl rfl rfl (by decide) fl_X12_92 ?_
          refine ax_aload_n (q := 69) (i := 0) dX12_scorched_68 rfl rfl rfl ?_
          refine ax_get (q := 72) (k := 0) (j := 46) (v := ax_i (σ.1 0 46)) dX12_scorched_69 rfl shM_0 rfl rfl rfl (by decide) fl_X12_283 ?_
          refine ax_iload (q := 74) dX12_scorched_72 rfl rfl ?_
          refine ax_zast (q := 75) (a := (Int32.toNatClampNeg (σ.1 0 46))) dX12_scorched_74 rfl shM_26 (h4 c1 c2 c3 c4) rfl ?_
          refine ax_aload_n (q := 76) (i := 0) dX12_scorched_75 rfl rfl rfl ?_
          refine ax_dupr (q := 77) dX12_scorched_76 rfl ?_
          refine ax_get (q := 80) (k := 0) (j := 46) (v := ax_i (σ.1 0 46)) dX12_scorched_77 rfl shM_0 rfl rfl rfl (by decide) fl_X12_283 ?_
          refine ax_iconst (q := 81) dX12_scorched_80 rfl ki_1 ?_
          refine ax_iadd (q := 82) dX12_scorched_81 rfl ?_
          refine ax_puti (q := 85) (k := 0) (j := 46) dX12_scorched_82 rfl shM_0 rfl rfl (by decide) fl_X12_283 rfl rfl rfl rfl ?_
          refine ax_aload_n (q := 86) (i := 0) dX12_scorched_85 rfl rfl rfl ?_
          refine ax_get (q := 89) (k := 0) (j := 46) (v := ax_i ((σ.1 0 46) + (1 : Int32))) dX12_scorched_86 rfl shM_0 rfl rfl rfl (by decide) fl_X12_283 ?_
          exact ax_iret dX12_scorched_89 rfl rfl (k5 c1 c2 c3 c4)
        · refine ax_iconst (q := 33) dX12_scorched_32 rfl ki_m1 ?_
          exact ax_iret dX12_scorched_33 rfl rfl (k6 c1 c2 c3 c4)
set_option maxRecDepth 20000 in
theorem s_X12_isSo_0 {d : Nat} (hd : 1 ≤ d) {Q : Option ax_V → ax_S → Prop} (σ : ax_S) (a0 : Int32) (a1 : Int32) (k1 : (¬ (v_J6_bitCount_0f7a4 a1) = a0) → Q (some (ax_i (0 : Int32))) σ) (k2 : (¬ (¬ (v_J6_bitCount_0f7a4 a1) = a0)) → ax_Ct shM d mX12_allLive [ax_r 0] (fun r u => ∃ x : Int32, r = some (ax_i x) ∧ ax_W shM (d + 1) mX12_isSo Q 13 [some (ax_r 0), none, some (ax_i a1), none, none] (ax_i x :: [ax_i a1]) u) σ) : ax_W shM (d + 1) mX12_isSo Q 0 [some (ax_r 0), some (ax_i a0), some (ax_i a1), none, none] [] σ := by
  refine ax_iload_n (q := 1) (i := 2) dX12_isSo_0 rfl rfl rfl ?_
  refine ax_callSfi (q := 4) (As := [ax_i a1]) (st := []) (x := (v_J6_bitCount_0f7a4 a1)) (σ2 := σ) dX12_isSo_1 rfl lk_X12_417 rfl rfl (Nat.le_of_ble_eq_true rfl) (f_J6_bitCount_0f7a4 (sh := shM) σ a1  (d := d) (by omega)) ?_
  refine ax_iload_n (q := 5) (i := 1) dX12_isSo_4 rfl rfl rfl ?_
  refine ax_icmp_ne (tgt := 19) (q := 8) dX12_isSo_5 (by decide) rfl (fun c1 => ?_) (fun c1 => ?_)
  · refine ax_iconst (q := 20) dX12_isSo_19 rfl ki_0 ?_
    exact ax_iret dX12_isSo_20 rfl rfl (k1 c1)
  · refine ax_iload_n (q := 9) (i := 2) dX12_isSo_8 rfl rfl rfl ?_
    refine ax_aload_n (q := 10) (i := 0) dX12_isSo_9 rfl rfl rfl ?_
    refine ax_fg (lv2 := [some (ax_r 0), none, some (ax_i a1), none, none]) ⟨rfl, rfl, trivial⟩ ?_
    exact ax_callVci (q := 13) (As := []) (st := [ax_i a1]) dX12_isSo_10 rfl lk_X12_443 shM_0 rfl rfl rfl rfl (Nat.le_of_ble_eq_true rfl) (k2 c1)
set_option maxRecDepth 20000 in
theorem s_X12_isSo_13 {d : Nat} (hd : 0 ≤ d) {Q : Option ax_V → ax_S → Prop} (σ : ax_S) (x2 : Int32) (rr : Int32) (y0 : Int32) (k1 : ((y0 &&& (rr ^^^ (-1 : Int32))) = 0) → ax_Ct shM d mX12_cutSet [ax_r 0, ax_i x2, ax_i (1 : Int32)] (fun r u => r = none ∧ ax_W shM (d + 1) mX12_isSo Q 27 [some (ax_r 0), none, some (ax_i x2), none, none] [] u) σ) (k2 : (¬ ((y0 &&& (rr ^^^ (-1 : Int32))) = 0)) → Q (some (ax_i (0 : Int32))) σ) : ax_W shM (d + 1) mX12_isSo Q 13 [some (ax_r 0), none, some (ax_i x2), none, none] [ax_i rr, ax_i y0] σ := by
  refine ax_iconst (q := 14) dX12_isSo_13 rfl ki_m1 ?_
  refine ax_ixor (q := 15) dX12_isSo_14 rfl ?_
  refine ax_iand (q := 16) dX12_isSo_15 rfl ?_
  refine ax_if_eq (tgt := 21) (q := 19) dX12_isSo_16 (by decide) rfl (fun c1 => ?_) (fun c1 => ?_)
  · refine ax_aload_n (q := 22) (i := 0) dX12_isSo_21 rfl rfl rfl ?_
    refine ax_iload_n (q := 23) (i := 2) dX12_isSo_22 rfl rfl rfl ?_
    refine ax_iconst (q := 24) dX12_isSo_23 rfl ki_1 ?_
    exact ax_callVcv (q := 27) (As := [ax_i x2, ax_i (1 : Int32)]) (st := []) dX12_isSo_24 rfl lk_X12_428 shM_0 rfl rfl rfl rfl (Nat.le_of_ble_eq_true rfl) (k1 c1)
  · refine ax_iconst (q := 20) dX12_isSo_19 rfl ki_0 ?_
    exact ax_iret dX12_isSo_20 rfl rfl (k2 c1)
set_option maxRecDepth 20000 in
theorem s_X12_isSo_27 {d : Nat} (hd : 0 ≤ d) {Q : Option ax_V → ax_S → Prop} (σ : ax_S) (x2 : Int32) (k1 : ax_W shM (d + 1) mX12_isSo Q 32 [some (ax_r 0), none, some (ax_i x2), some (ax_i (1 : Int32)), some (ax_i (0 : Int32))] [] σ) : ax_W shM (d + 1) mX12_isSo Q 27 [some (ax_r 0), none, some (ax_i x2), none, none] [] σ := by
  refine ax_iconst (q := 28) dX12_isSo_27 rfl ki_1 ?_
  refine ax_istore_n (q := 29) (i := 3) (lv2 := [some (ax_r 0), none, some (ax_i x2), some (ax_i (1 : Int32)), none]) dX12_isSo_28 rfl rfl (by decide) rfl rfl ?_
  refine ax_iconst (q := 30) dX12_isSo_29 rfl ki_0 ?_
  refine ax_istore (q := 32) (lv2 := [some (ax_r 0), none, some (ax_i x2), some (ax_i (1 : Int32)), some (ax_i (0 : Int32))]) dX12_isSo_30 rfl (by decide) rfl rfl ?_
  exact k1
set_option maxRecDepth 20000 in
theorem s_X12_isSo_32 {d : Nat} (hd : 0 ≤ d) {Q : Option ax_V → ax_S → Prop} (σ : ax_S) (x2 : Int32) (x3 : Int32) (x4 : Int32) (k1 : ((σ.1 0 46) ≤ x4) → ax_Ct shM d mX12_cutSet [ax_r 0, ax_i x2, ax_i (0 : Int32)] (fun r u => r = none ∧ ax_W shM (d + 1) mX12_isSo Q 101 [none, none, none, some (ax_i x3), none] [] u) σ) (k2 : (¬ ((σ.1 0 46) ≤ x4)) → (x3 = 0) → ax_Ct shM d mX12_cutSet [ax_r 0, ax_i x2, ax_i (0 : Int32)] (fun r u => r = none ∧ ax_W shM (d + 1) mX12_isSo Q 101 [none, none, none, some (ax_i x3), none] [] u) σ) (h3 : (¬ ((σ.1 0 46) ≤ x4)) → (¬ (x3 = 0)) → vp_in x4 10) (k4 : (¬ ((σ.1 0 46) ≤ x4)) → (¬ (x3 = 0)) → ax_Ct shM d mX12_burningBy [ax_r 0, ax_i (σ.1 23 (Int32.toNatClampNeg x4)), ax_i (σ.1 24 (Int32.toNatClampNeg x4))] (fun r u => ∃ x : Int32, r = some (ax_i x) ∧ ax_W shM (d + 1) mX12_isSo Q 63 [some (ax_r 0), none, some (ax_i x2), none, some (ax_i x4)] (ax_i x :: []) u) σ) : ax_W shM (d + 1) mX12_isSo Q 32 [some (ax_r 0), none, some (ax_i x2), some (ax_i x3), some (ax_i x4)] [] σ := by
  refine ax_iload (q := 34) dX12_isSo_32 rfl rfl ?_
  refine ax_aload_n (q := 35) (i := 0) dX12_isSo_34 rfl rfl rfl ?_
  refine ax_get (q := 38) (k := 0) (j := 46) (v := ax_i (σ.1 0 46)) dX12_isSo_35 rfl shM_0 rfl rfl rfl (by decide) fl_X12_283 ?_
  refine ax_icmp_ge (tgt := 95) (q := 41) dX12_isSo_38 (by decide) rfl (fun c1 => ?_) (fun c1 => ?_)
  · refine ax_aload_n (q := 96) (i := 0) dX12_isSo_95 rfl rfl rfl ?_
    refine ax_iload_n (q := 97) (i := 2) dX12_isSo_96 rfl rfl rfl ?_
    refine ax_iconst (q := 98) dX12_isSo_97 rfl ki_0 ?_
    refine ax_fg (lv2 := [none, none, none, some (ax_i x3), none]) ⟨rfl, trivial⟩ ?_
    exact ax_callVcv (q := 101) (As := [ax_i x2, ax_i (0 : Int32)]) (st := []) dX12_isSo_98 rfl lk_X12_428 shM_0 rfl rfl rfl rfl (Nat.le_of_ble_eq_true rfl) (k1 c1)
  · refine ax_iload_n (q := 42) (i := 3) dX12_isSo_41 rfl rfl rfl ?_
    refine ax_if_eq (tgt := 95) (q := 45) dX12_isSo_42 (by decide) rfl (fun c2 => ?_) (fun c2 => ?_)
    · refine ax_aload_n (q := 96) (i := 0) dX12_isSo_95 rfl rfl rfl ?_
      refine ax_iload_n (q := 97) (i := 2) dX12_isSo_96 rfl rfl rfl ?_
      refine ax_iconst (q := 98) dX12_isSo_97 rfl ki_0 ?_
      refine ax_fg (lv2 := [none, none, none, some (ax_i x3), none]) ⟨rfl, trivial⟩ ?_
      exact ax_callVcv (q := 101) (As := [ax_i x2, ax_i (0 : Int32)]) (st := []) dX12_isSo_98 rfl lk_X12_428 shM_0 rfl rfl rfl rfl (Nat.le_of_ble_eq_true rfl) (k2 c1 c2)
    · refine ax_aload_n (q := 46) (i := 0) dX12_isSo_45 rfl rfl rfl ?_
      refine ax_aload_n (q := 47) (i := 0) dX12_isSo_46 rfl rfl rfl ?_
      refine ax_get (q := 50) (k := 0) (j := 42) (v := ax_r 23) dX12_isSo_47 rfl shM_0 rfl rfl rfl (by decide) fl_X12_83 ?_
      refine ax_iload (q := 52) dX12_isSo_50 rfl rfl ?_
      refine ax_iald (q := 53) (a := (Int32.toNatClampNeg x4)) (v := (σ.1 23 (Int32.toNatClampNeg x4))) dX12_isSo_52 rfl shM_23 (h3 c1 c2) rfl rfl ?_
      refine ax_aload_n (q := 54) (i := 0) dX12_isSo_53 rfl rfl rfl ?_
      refine ax_get (q := 57) (k := 0) (j := 43) (v := ax_r 24) dX12_isSo_54 rfl shM_0 rfl rfl rfl (by decide) fl_X12_86 ?_
      refine ax_iload (q := 59) dX12_isSo_57 rfl rfl ?_
      refine ax_iald (q := 60) (a := (Int32.toNatClampNeg x4)) (v := (σ.1 24 (Int32.toNatClampNeg x4))) dX12_isSo_59 rfl shM_24 (h3 c1 c2) rfl rfl ?_
      refine ax_fg (lv2 := [some (ax_r 0), none, some (ax_i x2), none, some (ax_i x4)]) ⟨rfl, rfl, rfl, trivial⟩ ?_
      exact ax_callVci (q := 63) (As := [ax_i (σ.1 23 (Int32.toNatClampNeg x4)), ax_i (σ.1 24 (Int32.toNatClampNeg x4))]) (st := []) dX12_isSo_60 rfl lk_X12_348 shM_0 rfl rfl rfl rfl (Nat.le_of_ble_eq_true rfl) (k4 c1 c2)
set_option maxRecDepth 20000 in
theorem s_X12_isSo_101 {d : Nat} (hd : 0 ≤ d) {Q : Option ax_V → ax_S → Prop} (σ : ax_S) (x3 : Int32) (k1 : Q (some (ax_i x3)) σ) (h2 : x3 = 0 ∨ x3 = 1) : ax_W shM (d + 1) mX12_isSo Q 101 [none, none, none, some (ax_i x3), none] [] σ := by
  refine ax_iload_n (q := 102) (i := 3) dX12_isSo_101 rfl rfl rfl ?_
  exact ax_iret dX12_isSo_102 rfl (ax_nb01 h2) k1
set_option maxRecDepth 20000 in
theorem s_X12_isSo_63 {d : Nat} (hd : 1 ≤ d) {Q : Option ax_V → ax_S → Prop} (σ : ax_S) (x2 : Int32) (x4 : Int32) (rr : Int32) (h1 : vp_in x4 10) (k2 : ax_W shM (d + 1) mX12_isSo Q 32 [some (ax_r 0), none, some (ax_i x2), some (ax_i (if (¬ (¬ (if (¬ (¬ ((rr >>> ((σ.1 25 (Int32.toNatClampNeg x4)) &&& 31)) &&& (1 : Int32)) = (1 : Int32))) then (1 : Int32) else 0) = (σ.1 26 (Int32.toNatClampNeg x4)))) then (1 : Int32) else 0)), some (ax_i (x4 + (1 : Int32)))] [] σ) : ax_W shM (d + 1) mX12_isSo Q 63 [some (ax_r 0), none, some (ax_i x2), none, some (ax_i x4)] [ax_i rr] σ := by
  refine ax_aload_n (q := 64) (i := 0) dX12_isSo_63 rfl rfl rfl ?_
  refine ax_get (q := 67) (k := 0) (j := 44) (v := ax_r 25) dX12_isSo_64 rfl shM_0 rfl rfl rfl (by decide) fl_X12_89 ?_
  refine ax_iload (q := 69) dX12_isSo_67 rfl rfl ?_
  refine ax_iald (q := 70) (a := (Int32.toNatClampNeg x4)) (v := (σ.1 25 (Int32.toNatClampNeg x4))) dX12_isSo_69 rfl shM_25 h1 rfl rfl ?_
  refine ax_callSfi (q := 73) (As := [ax_i rr, ax_i (σ.1 25 (Int32.toNatClampNeg x4))]) (st := []) (x := (if (¬ (¬ ((rr >>> ((σ.1 25 (Int32.toNatClampNeg x4)) &&& 31)) &&& (1 : Int32)) = (1 : Int32))) then (1 : Int32) else 0)) (σ2 := σ) dX12_isSo_70 rfl lk_X12_234 rfl rfl (Nat.le_of_ble_eq_true rfl) (f_X12_has (sh := shM) σ rr (σ.1 25 (Int32.toNatClampNeg x4))  (d := d) (by omega)) ?_
  refine ax_aload_n (q := 74) (i := 0) dX12_isSo_73 rfl rfl rfl ?_
  refine ax_get (q := 77) (k := 0) (j := 45) (v := ax_r 26) dX12_isSo_74 rfl shM_0 rfl rfl rfl (by decide) fl_X12_92 ?_
  refine ax_iload (q := 79) dX12_isSo_77 rfl rfl ?_
  refine ax_zald (q := 80) (a := (Int32.toNatClampNeg x4)) (v := (σ.1 26 (Int32.toNatClampNeg x4))) dX12_isSo_79 rfl shM_26 h1 rfl rfl ?_
  have K2 : ax_W shM (d + 1) mX12_isSo Q 88 [some (ax_r 0), none, some (ax_i x2), none, some (ax_i x4)] [ax_i (if (¬ (¬ (if (¬ (¬ ((rr >>> ((σ.1 25 (Int32.toNatClampNeg x4)) &&& 31)) &&& (1 : Int32)) = (1 : Int32))) then (1 : Int32) else 0) = (σ.1 26 (Int32.toNatClampNeg x4)))) then (1 : Int32) else 0)] σ := by
    refine ax_istore_n (q := 89) (i := 3) (lv2 := [some (ax_r 0), none, some (ax_i x2), some (ax_i (if (¬ (¬ (if (¬ (¬ ((rr >>> ((σ.1 25 (Int32.toNatClampNeg x4)) &&& 31)) &&& (1 : Int32)) = (1 : Int32))) then (1 : Int32) else 0) = (σ.1 26 (Int32.toNatClampNeg x4)))) then (1 : Int32) else 0)), some (ax_i x4)]) dX12_isSo_88 rfl rfl (by decide) rfl rfl ?_
    refine ax_iincK (q := 92) (lv2 := [some (ax_r 0), none, some (ax_i x2), some (ax_i (if (¬ (¬ (if (¬ (¬ ((rr >>> ((σ.1 25 (Int32.toNatClampNeg x4)) &&& 31)) &&& (1 : Int32)) = (1 : Int32))) then (1 : Int32) else 0) = (σ.1 26 (Int32.toNatClampNeg x4)))) then (1 : Int32) else 0)), some (ax_i (x4 + (1 : Int32)))]) dX12_isSo_89 rfl rfl ki_1 (by decide) rfl rfl ?_
    refine ax_goto (tgt := 32) dX12_isSo_92 (by decide) ?_
    exact k2
  refine ax_icmp_ne (tgt := 87) (q := 83) dX12_isSo_80 (by decide) rfl (fun c1 => ?_) (fun c1 => ?_)
  · refine ax_iconst (q := 88) dX12_isSo_87 rfl ki_0 ?_
    exact ax_cv (if_neg (fun y => y c1)) K2
  · refine ax_iconst (q := 84) dX12_isSo_83 rfl ki_1 ?_
    refine ax_goto (tgt := 88) dX12_isSo_84 (by decide) ?_
    exact ax_cv (if_pos c1) K2
set_option maxRecDepth 20000 in
theorem f_X12_areCuts (σ : ax_S) (a0 : Int32)  {d : Nat} (hd : 2 ≤ d) : ax_Ct shM d mX12_areCuts [ax_r 0, ax_i a0] (fun r u => r = some (ax_i (if ((¬ ((σ.1 0 23) ≤ 0)) ∧ ((¬ (a0 < (0 : Int32))) ∧ (¬ ((2 : Int32) < a0)))) then (1 : Int32) else 0)) ∧ u = σ) σ := by
  obtain ⟨d, rfl⟩ : ∃ e, d = e + 1 := ⟨d - 1, by omega⟩
  refine ax_Ct.of (lv := [some (ax_r 0), some (ax_i a0)]) (by decide +kernel) (fun ad => Nat.le_of_ble_eq_true rfl) (fun ad => rfl) ?_
  refine ax_aload_n (q := 1) (i := 0) dX12_areCuts_0 rfl rfl rfl ?_
  refine ax_get (q := 4) (k := 0) (j := 23) (v := ax_i (σ.1 0 23)) dX12_areCuts_1 rfl shM_0 rfl rfl rfl (by decide) fl_X12_271 ?_
  have K3 : ax_W shM (d + 1) mX12_areCuts (fun r u => r = some (ax_i (if ((¬ ((σ.1 0 23) ≤ 0)) ∧ ((¬ (a0 < (0 : Int32))) ∧ (¬ ((2 : Int32) < a0)))) then (1 : Int32) else 0)) ∧ u = σ) 21 [some (ax_r 0), some (ax_i a0)] [ax_i (if ((¬ ((σ.1 0 23) ≤ 0)) ∧ ((¬ (a0 < (0 : Int32))) ∧ (¬ ((2 : Int32) < a0)))) then (1 : Int32) else 0)] σ := by
    exact ax_iret dX12_areCuts_21 rfl (ax_nb _) ⟨rfl, rfl⟩
  refine ax_if_le (tgt := 20) (q := 7) dX12_areCuts_4 (by decide) rfl (fun c1 => ?_) (fun c1 => ?_)
  · refine ax_iconst (q := 21) dX12_areCuts_20 rfl ki_0 ?_
    exact ax_cv (if_neg (fun z => (fun y => y c1) z.1)) K3
  · refine ax_iload_n (q := 8) (i := 1) dX12_areCuts_7 rfl rfl rfl ?_
    refine ax_iconst (q := 9) dX12_areCuts_8 rfl ki_0 ?_
    refine ax_iconst (q := 10) dX12_areCuts_9 rfl ki_2 ?_
    refine ax_callSfi (q := 13) (As := [ax_i a0, ax_i (0 : Int32), ax_i (2 : Int32)]) (st := []) (x := (if ((¬ (a0 < (0 : Int32))) ∧ (¬ ((2 : Int32) < a0))) then (1 : Int32) else 0)) (σ2 := σ) dX12_areCuts_10 rfl lk_X12_223 rfl rfl (Nat.le_of_ble_eq_true rfl) (f_X12_in (sh := shM) σ a0 (0 : Int32) (2 : Int32)  (d := d) (by omega)) ?_
    refine ax_if_eqB (tgt := 20) (q := 16) dX12_areCuts_13 (by decide) rfl (fun c2 => ?_) (fun c2 => ?_)
    · refine ax_iconst (q := 21) dX12_areCuts_20 rfl ki_0 ?_
      exact ax_cv (if_neg (fun z => c2 z.2)) K3
    · refine ax_iconst (q := 17) dX12_areCuts_16 rfl ki_1 ?_
      refine ax_goto (tgt := 21) dX12_areCuts_17 (by decide) ?_
      exact ax_cv (if_pos ⟨c1, c2⟩) K3
set_option maxRecDepth 20000 in
theorem s_X12_who_0 {d : Nat} (hd : 2 ≤ d) {Q : Option ax_V → ax_S → Prop} (σ : ax_S) (a0 : Int32) (a1 : Int32) (k1 : (¬ ((¬ ((σ.1 0 23) ≤ 0)) ∧ ((¬ (a0 < (0 : Int32))) ∧ (¬ ((2 : Int32) < a0))))) → Q (some (ax_i (-1 : Int32))) σ) (k2 : ((¬ ((σ.1 0 23) ≤ 0)) ∧ ((¬ (a0 < (0 : Int32))) ∧ (¬ ((2 : Int32) < a0)))) → ((-1 : Int32) ≤ a1) → ax_W shM (d + 1) mX12_who Q 20 [some (ax_r 0), some (ax_i a0), some (ax_i a1), some (ax_i (0 : Int32)), some (ax_i (0 : Int32))] [] σ) (k3 : ((¬ ((σ.1 0 23) ≤ 0)) ∧ ((¬ (a0 < (0 : Int32))) ∧ (¬ ((2 : Int32) < a0)))) → (¬ ((-1 : Int32) ≤ a1)) → Q (some (ax_i (-1 : Int32))) σ) : ax_W shM (d + 1) mX12_who Q 0 [some (ax_r 0), some (ax_i a0), some (ax_i a1), none, none] [] σ := by
  refine ax_aload_n (q := 1) (i := 0) dX12_who_0 rfl rfl rfl ?_
  refine ax_iload_n (q := 2) (i := 1) dX12_who_1 rfl rfl rfl ?_
  refine ax_callVfi (q := 5) (As := [ax_i a0]) (st := []) (x := (if ((¬ ((σ.1 0 23) ≤ 0)) ∧ ((¬ (a0 < (0 : Int32))) ∧ (¬ ((2 : Int32) < a0)))) then (1 : Int32) else 0)) (σ2 := σ) dX12_who_2 rfl lk_X12_458 shM_0 rfl rfl rfl rfl (Nat.le_of_ble_eq_true rfl) (f_X12_areCuts σ a0  (d := d) (by omega)) ?_
  refine ax_if_eqB (tgt := 13) (q := 8) dX12_who_5 (by decide) rfl (fun c1 => ?_) (fun c1 => ?_)
  · refine ax_iconst (q := 14) dX12_who_13 rfl ki_m1 ?_
    exact ax_iret dX12_who_14 rfl rfl (k1 c1)
  · refine ax_iload_n (q := 9) (i := 2) dX12_who_8 rfl rfl rfl ?_
    refine ax_iconst (q := 10) dX12_who_9 rfl ki_m1 ?_
    refine ax_icmp_ge (tgt := 15) (q := 13) dX12_who_10 (by decide) rfl (fun c2 => ?_) (fun c2 => ?_)
    · refine ax_iconst (q := 16) dX12_who_15 rfl ki_0 ?_
      refine ax_istore_n (q := 17) (i := 3) (lv2 := [some (ax_r 0), some (ax_i a0), some (ax_i a1), some (ax_i (0 : Int32)), none]) dX12_who_16 rfl rfl (by decide) rfl rfl ?_
      refine ax_iconst (q := 18) dX12_who_17 rfl ki_0 ?_
      refine ax_istore (q := 20) (lv2 := [some (ax_r 0), some (ax_i a0), some (ax_i a1), some (ax_i (0 : Int32)), some (ax_i (0 : Int32))]) dX12_who_18 rfl (by decide) rfl rfl ?_
      exact (k2 c1 c2)
    · refine ax_iconst (q := 14) dX12_who_13 rfl ki_m1 ?_
      exact ax_iret dX12_who_14 rfl rfl (k3 c1 c2)
set_option maxRecDepth 20000 in
theorem s_X12_who_20 {d : Nat} (hd : 0 ≤ d) {Q : Option ax_V → ax_S → Prop} (σ : ax_S) (x1 : Int32) (x2 : Int32) (x3 : Int32) (x4 : Int32) (k1 : (((1 : Int32) <<< ((σ.1 15 84) &&& 31)) ≤ x4) → Q (some (ax_i (if (¬ x2 = (-1 : Int32)) then (-1 : Int32) else x3))) σ) (k2 : (¬ (((1 : Int32) <<< ((σ.1 15 84) &&& 31)) ≤ x4)) → ax_Ct shM d mX12_isSo [ax_r 0, ax_i x1, ax_i x4] (fun r u => ∃ x : Int32, r = some (ax_i x) ∧ ax_W shM (d + 1) mX12_who Q 41 [some (ax_r 0), some (ax_i x1), some (ax_i x2), some (ax_i x3), some (ax_i x4)] (ax_i x :: []) u) σ) : ax_W shM (d + 1) mX12_who Q 20 [some (ax_r 0), some (ax_i x1), some (ax_i x2), some (ax_i x3), some (ax_i x4)] [] σ := by
  refine ax_iload (q := 22) dX12_who_20 rfl rfl ?_
  refine ax_iconst (q := 23) dX12_who_22 rfl ki_1 ?_
  refine ax_aload_n (q := 24) (i := 0) dX12_who_23 rfl rfl rfl ?_
  refine ax_get (q := 27) (k := 0) (j := 25) (v := ax_r 15) dX12_who_24 rfl shM_0 rfl rfl rfl (by decide) fl_X12_52 ?_
  refine ax_bipush (q := 29) dX12_who_27 rfl kb_84 ?_
  refine ax_iald (q := 30) (a := 84) (v := (σ.1 15 84)) dX12_who_29 rfl shM_15 (ax_inl 84 268 (by decide) (by decide)) rfl rfl ?_
  refine ax_ishl (q := 31) dX12_who_30 rfl ?_
  refine ax_icmp_ge (tgt := 61) (q := 34) dX12_who_31 (by decide) rfl (fun c1 => ?_) (fun c1 => ?_)
  · refine ax_iload_n (q := 62) (i := 2) dX12_who_61 rfl rfl rfl ?_
    refine ax_iconst (q := 63) dX12_who_62 rfl ki_m1 ?_
    have K3 : ax_W shM (d + 1) mX12_who Q 71 [some (ax_r 0), some (ax_i x1), some (ax_i x2), some (ax_i x3), some (ax_i x4)] [ax_i (if (¬ x2 = (-1 : Int32)) then (-1 : Int32) else x3)] σ := by
      exact ax_iret dX12_who_71 rfl rfl (k1 c1)
    refine ax_icmp_ne (tgt := 70) (q := 66) dX12_who_63 (by decide) rfl (fun c2 => ?_) (fun c2 => ?_)
    · refine ax_iconst (q := 71) dX12_who_70 rfl ki_m1 ?_
      exact ax_cv (if_pos c2) K3
    · refine ax_iload_n (q := 67) (i := 3) dX12_who_66 rfl rfl rfl ?_
      refine ax_goto (tgt := 71) dX12_who_67 (by decide) ?_
      exact ax_cv (if_neg c2) K3
  · refine ax_aload_n (q := 35) (i := 0) dX12_who_34 rfl rfl rfl ?_
    refine ax_iload_n (q := 36) (i := 1) dX12_who_35 rfl rfl rfl ?_
    refine ax_iload (q := 38) dX12_who_36 rfl rfl ?_
    exact ax_callVci (q := 41) (As := [ax_i x1, ax_i x4]) (st := []) dX12_who_38 rfl lk_X12_461 shM_0 rfl rfl rfl rfl (Nat.le_of_ble_eq_true rfl) (k2 c1)
set_option maxRecDepth 20000 in
theorem s_X12_who_41 {d : Nat} (hd : 0 ≤ d) {Q : Option ax_V → ax_S → Prop} (σ : ax_S) (x1 : Int32) (x2 : Int32) (x3 : Int32) (x4 : Int32) (rr : Int32) (k1 : (rr = 0) → ax_W shM (d + 1) mX12_who Q 20 [some (ax_r 0), some (ax_i x1), some (ax_i x2), some (ax_i x3), some (ax_i (x4 + (1 : Int32)))] [] σ) (k2 : (¬ (rr = 0)) → (¬ x3 = x2) → ax_W shM (d + 1) mX12_who Q 20 [some (ax_r 0), some (ax_i x1), some (ax_i x2), some (ax_i (x3 + (1 : Int32))), some (ax_i (x4 + (1 : Int32)))] [] σ) (k3 : (¬ (rr = 0)) → (¬ (¬ x3 = x2)) → Q (some (ax_i x4)) σ) : ax_W shM (d + 1) mX12_who Q 41 [some (ax_r 0), some (ax_i x1), some (ax_i x2), some (ax_i x3), some (ax_i x4)] [ax_i rr] σ := by
  refine ax_if_eq (tgt := 55) (q := 44) dX12_who_41 (by decide) rfl (fun c1 => ?_) (fun c1 => ?_)
  · refine ax_iincK (q := 58) (lv2 := [some (ax_r 0), some (ax_i x1), some (ax_i x2), some (ax_i x3), some (ax_i (x4 + (1 : Int32)))]) dX12_who_55 rfl rfl ki_1 (by decide) rfl rfl ?_
    refine ax_goto (tgt := 20) dX12_who_58 (by decide) ?_
    exact (k1 c1)
  · refine ax_iload_n (q := 45) (i := 3) dX12_who_44 rfl rfl rfl ?_
    refine ax_iload_n (q := 46) (i := 2) dX12_who_45 rfl rfl rfl ?_
    refine ax_icmp_ne (tgt := 52) (q := 49) dX12_who_46 (by decide) rfl (fun c2 => ?_) (fun c2 => ?_)
    · refine ax_iincK (q := 55) (lv2 := [some (ax_r 0), some (ax_i x1), some (ax_i x2), some (ax_i (x3 + (1 : Int32))), some (ax_i x4)]) dX12_who_52 rfl rfl ki_1 (by decide) rfl rfl ?_
      refine ax_iincK (q := 58) (lv2 := [some (ax_r 0), some (ax_i x1), some (ax_i x2), some (ax_i (x3 + (1 : Int32))), some (ax_i (x4 + (1 : Int32)))]) dX12_who_55 rfl rfl ki_1 (by decide) rfl rfl ?_
      refine ax_goto (tgt := 20) dX12_who_58 (by decide) ?_
      exact (k2 c1 c2)
    · refine ax_iload (q := 51) dX12_who_49 rfl rfl ?_
      exact ax_iret dX12_who_51 rfl rfl (k3 c1 c2)
set_option maxRecDepth 20000 in
theorem s_X12_sure_0 {d : Nat} (hd : 2 ≤ d) {Q : Option ax_V → ax_S → Prop} (σ : ax_S) (a0 : Int32) (k1 : ((¬ ((σ.1 0 23) ≤ 0)) ∧ ((¬ (a0 < (0 : Int32))) ∧ (¬ ((2 : Int32) < a0)))) → ax_W shM (d + 1) mX12_sure Q 14 [some (ax_r 0), some (ax_i a0), some (ax_i (-1 : Int32)), some (ax_i (0 : Int32))] [] σ) (k2 : (¬ ((¬ ((σ.1 0 23) ≤ 0)) ∧ ((¬ (a0 < (0 : Int32))) ∧ (¬ ((2 : Int32) < a0))))) → Q (some (ax_i (-1 : Int32))) σ) : ax_W shM (d + 1) mX12_sure Q 0 [some (ax_r 0), some (ax_i a0), none, none] [] σ := by
  refine ax_aload_n (q := 1) (i := 0) dX12_sure_0 rfl rfl rfl ?_
  refine ax_iload_n (q := 2) (i := 1) dX12_sure_1 rfl rfl rfl ?_
  refine ax_callVfi (q := 5) (As := [ax_i a0]) (st := []) (x := (if ((¬ ((σ.1 0 23) ≤ 0)) ∧ ((¬ (a0 < (0 : Int32))) ∧ (¬ ((2 : Int32) < a0)))) then (1 : Int32) else 0)) (σ2 := σ) dX12_sure_2 rfl lk_X12_458 shM_0 rfl rfl rfl rfl (Nat.le_of_ble_eq_true rfl) (f_X12_areCuts σ a0  (d := d) (by omega)) ?_
  refine ax_if_neB (tgt := 10) (q := 8) dX12_sure_5 (by decide) rfl (fun c1 => ?_) (fun c1 => ?_)
  · refine ax_iconst (q := 11) dX12_sure_10 rfl ki_m1 ?_
    refine ax_istore_n (q := 12) (i := 2) (lv2 := [some (ax_r 0), some (ax_i a0), some (ax_i (-1 : Int32)), none]) dX12_sure_11 rfl rfl (by decide) rfl rfl ?_
    refine ax_iconst (q := 13) dX12_sure_12 rfl ki_0 ?_
    refine ax_istore_n (q := 14) (i := 3) (lv2 := [some (ax_r 0), some (ax_i a0), some (ax_i (-1 : Int32)), some (ax_i (0 : Int32))]) dX12_sure_13 rfl rfl (by decide) rfl rfl ?_
    exact (k1 c1)
  · refine ax_iconst (q := 9) dX12_sure_8 rfl ki_m1 ?_
    exact ax_iret dX12_sure_9 rfl rfl (k2 c1)
set_option maxRecDepth 20000 in
theorem s_X12_sure_14 {d : Nat} (hd : 0 ≤ d) {Q : Option ax_V → ax_S → Prop} (σ : ax_S) (x1 : Int32) (x2 : Int32) (x3 : Int32) (k1 : (((1 : Int32) <<< ((σ.1 15 84) &&& 31)) ≤ x3) → Q (some (ax_i x2)) σ) (k2 : (¬ (((1 : Int32) <<< ((σ.1 15 84) &&& 31)) ≤ x3)) → ax_Ct shM d mX12_isSo [ax_r 0, ax_i x1, ax_i x3] (fun r u => ∃ x : Int32, r = some (ax_i x) ∧ ax_W shM (d + 1) mX12_sure Q 34 [some (ax_r 0), some (ax_i x1), none, some (ax_i x3)] (ax_i x :: [ax_i x2]) u) σ) : ax_W shM (d + 1) mX12_sure Q 14 [some (ax_r 0), some (ax_i x1), some (ax_i x2), some (ax_i x3)] [] σ := by
  refine ax_iload_n (q := 15) (i := 3) dX12_sure_14 rfl rfl rfl ?_
  refine ax_iconst (q := 16) dX12_sure_15 rfl ki_1 ?_
  refine ax_aload_n (q := 17) (i := 0) dX12_sure_16 rfl rfl rfl ?_
  refine ax_get (q := 20) (k := 0) (j := 25) (v := ax_r 15) dX12_sure_17 rfl shM_0 rfl rfl rfl (by decide) fl_X12_52 ?_
  refine ax_bipush (q := 22) dX12_sure_20 rfl kb_84 ?_
  refine ax_iald (q := 23) (a := 84) (v := (σ.1 15 84)) dX12_sure_22 rfl shM_15 (ax_inl 84 268 (by decide) (by decide)) rfl rfl ?_
  refine ax_ishl (q := 24) dX12_sure_23 rfl ?_
  refine ax_icmp_ge (tgt := 50) (q := 27) dX12_sure_24 (by decide) rfl (fun c1 => ?_) (fun c1 => ?_)
  · refine ax_iload_n (q := 51) (i := 2) dX12_sure_50 rfl rfl rfl ?_
    exact ax_iret dX12_sure_51 rfl rfl (k1 c1)
  · refine ax_iload_n (q := 28) (i := 2) dX12_sure_27 rfl rfl rfl ?_
    refine ax_aload_n (q := 29) (i := 0) dX12_sure_28 rfl rfl rfl ?_
    refine ax_iload_n (q := 30) (i := 1) dX12_sure_29 rfl rfl rfl ?_
    refine ax_iload_n (q := 31) (i := 3) dX12_sure_30 rfl rfl rfl ?_
    refine ax_fg (lv2 := [some (ax_r 0), some (ax_i x1), none, some (ax_i x3)]) ⟨rfl, rfl, rfl, trivial⟩ ?_
    exact ax_callVci (q := 34) (As := [ax_i x1, ax_i x3]) (st := [ax_i x2]) dX12_sure_31 rfl lk_X12_461 shM_0 rfl rfl rfl rfl (Nat.le_of_ble_eq_true rfl) (k2 c1)
set_option maxRecDepth 20000 in
theorem s_X12_sure_34 {d : Nat} (hd : 0 ≤ d) {Q : Option ax_V → ax_S → Prop} (σ : ax_S) (x1 : Int32) (x3 : Int32) (rr : Int32) (y0 : Int32) (k1 : ax_W shM (d + 1) mX12_sure Q 14 [some (ax_r 0), some (ax_i x1), some (ax_i (y0 &&& (if (rr = 0) then (-1 : Int32) else x3))), some (ax_i (x3 + (1 : Int32)))] [] σ) : ax_W shM (d + 1) mX12_sure Q 34 [some (ax_r 0), some (ax_i x1), none, some (ax_i x3)] [ax_i rr, ax_i y0] σ := by
  have K2 : ax_W shM (d + 1) mX12_sure Q 42 [some (ax_r 0), some (ax_i x1), none, some (ax_i x3)] [ax_i (if (rr = 0) then (-1 : Int32) else x3), ax_i y0] σ := by
    refine ax_iand (q := 43) dX12_sure_42 rfl ?_
    refine ax_istore_n (q := 44) (i := 2) (lv2 := [some (ax_r 0), some (ax_i x1), some (ax_i (y0 &&& (if (rr = 0) then (-1 : Int32) else x3))), some (ax_i x3)]) dX12_sure_43 rfl rfl (by decide) rfl rfl ?_
    refine ax_iincK (q := 47) (lv2 := [some (ax_r 0), some (ax_i x1), some (ax_i (y0 &&& (if (rr = 0) then (-1 : Int32) else x3))), some (ax_i (x3 + (1 : Int32)))]) dX12_sure_44 rfl rfl ki_1 (by decide) rfl rfl ?_
    refine ax_goto (tgt := 14) dX12_sure_47 (by decide) ?_
    exact k1
  refine ax_if_eq (tgt := 41) (q := 37) dX12_sure_34 (by decide) rfl (fun c1 => ?_) (fun c1 => ?_)
  · refine ax_iconst (q := 42) dX12_sure_41 rfl ki_m1 ?_
    exact ax_cv (if_pos c1) K2
  · refine ax_iload_n (q := 38) (i := 3) dX12_sure_37 rfl rfl rfl ?_
    refine ax_goto (tgt := 42) dX12_sure_38 (by decide) ?_
    exact ax_cv (if_neg c1) K2
set_option maxRecDepth 20000 in
theorem s_X12_best_0 {d : Nat} (hd : 2 ≤ d) {Q : Option ax_V → ax_S → Prop} (σ : ax_S) (a0 : Int32) (k1 : ((¬ ((σ.1 0 23) ≤ 0)) ∧ ((¬ (a0 < (0 : Int32))) ∧ (¬ ((2 : Int32) < a0)))) → ax_W shM (d + 1) mX12_best Q 14 [some (ax_r 0), some (ax_i a0), some (ax_i (0 : Int32)), some (ax_i (0 : Int32)), none] [] σ) (k2 : (¬ ((¬ ((σ.1 0 23) ≤ 0)) ∧ ((¬ (a0 < (0 : Int32))) ∧ (¬ ((2 : Int32) < a0))))) → Q (some (ax_i (-1 : Int32))) σ) : ax_W shM (d + 1) mX12_best Q 0 [some (ax_r 0), some (ax_i a0), none, none, none] [] σ := by
  refine ax_aload_n (q := 1) (i := 0) dX12_best_0 rfl rfl rfl ?_
  refine ax_iload_n (q := 2) (i := 1) dX12_best_1 rfl rfl rfl ?_
  refine ax_callVfi (q := 5) (As := [ax_i a0]) (st := []) (x := (if ((¬ ((σ.1 0 23) ≤ 0)) ∧ ((¬ (a0 < (0 : Int32))) ∧ (¬ ((2 : Int32) < a0)))) then (1 : Int32) else 0)) (σ2 := σ) dX12_best_2 rfl lk_X12_458 shM_0 rfl rfl rfl rfl (Nat.le_of_ble_eq_true rfl) (f_X12_areCuts σ a0  (d := d) (by omega)) ?_
  refine ax_if_neB (tgt := 10) (q := 8) dX12_best_5 (by decide) rfl (fun c1 => ?_) (fun c1 => ?_)
  · refine ax_iconst (q := 11) dX12_best_10 rfl ki_0 ?_
    refine ax_istore_n (q := 12) (i := 2) (lv2 := [some (ax_r 0), some (ax_i a0), some (ax_i (0 : Int32)), none, none]) dX12_best_11 rfl rfl (by decide) rfl rfl ?_
    refine ax_iconst (q := 13) dX12_best_12 rfl ki_0 ?_
    refine ax_istore_n (q := 14) (i := 3) (lv2 := [some (ax_r 0), some (ax_i a0), some (ax_i (0 : Int32)), some (ax_i (0 : Int32)), none]) dX12_best_13 rfl rfl (by decide) rfl rfl ?_
    exact (k1 c1)
  · refine ax_iconst (q := 9) dX12_best_8 rfl ki_m1 ?_
    exact ax_iret dX12_best_9 rfl rfl (k2 c1)
set_option maxRecDepth 20000 in
theorem s_X12_best_14 {d : Nat} (hd : 0 ≤ d) {Q : Option ax_V → ax_S → Prop} (σ : ax_S) (x1 : Int32) (x2 : Int32) (x3 : Int32) (k1 : ((8 : Int32) ≤ x3) → ax_W shM (d + 1) mX12_best Q 35 [some (ax_r 0), some (ax_i x1), some (ax_i x2), some (ax_i (0 : Int32)), none] [] σ) (h2 : (¬ ((8 : Int32) ≤ x3)) → vp_in x3 8) (k3 : (¬ ((8 : Int32) ≤ x3)) → ax_W shM (d + 1) mX12_best Q 14 [some (ax_r 0), some (ax_i x1), some (ax_i x2), some (ax_i (x3 + (1 : Int32))), none] [] (ax_ui σ 27 (Int32.toNatClampNeg x3) (0 : Int32))) : ax_W shM (d + 1) mX12_best Q 14 [some (ax_r 0), some (ax_i x1), some (ax_i x2), some (ax_i x3), none] [] σ := by
  refine ax_iload_n (q := 15) (i := 3) dX12_best_14 rfl rfl rfl ?_
  refine ax_bipush (q := 17) dX12_best_15 rfl kb_8 ?_
  refine ax_icmp_ge (tgt := 33) (q := 20) dX12_best_17 (by decide) rfl (fun c1 => ?_) (fun c1 => ?_)
  · refine ax_iconst (q := 34) dX12_best_33 rfl ki_0 ?_
    refine ax_istore_n (q := 35) (i := 3) (lv2 := [some (ax_r 0), some (ax_i x1), some (ax_i x2), some (ax_i (0 : Int32)), none]) dX12_best_34 rfl rfl (by decide) rfl rfl ?_
    exact (k1 c1)
  · refine ax_aload_n (q := 21) (i := 0) dX12_best_20 rfl rfl rfl ?_
    refine ax_get (q := 24) (k := 0) (j := 47) (v := ax_r 27) dX12_best_21 rfl shM_0 rfl rfl rfl (by decide) fl_X12_96 ?_
    refine ax_iload_n (q := 25) (i := 3) dX12_best_24 rfl rfl rfl ?_
    refine ax_iconst (q := 26) dX12_best_25 rfl ki_0 ?_
    refine ax_iast (q := 27) (a := (Int32.toNatClampNeg x3)) dX12_best_26 rfl shM_27 (h2 c1) rfl ?_
    refine ax_iincK (q := 30) (lv2 := [some (ax_r 0), some (ax_i x1), some (ax_i x2), some (ax_i (x3 + (1 : Int32))), none]) dX12_best_27 rfl rfl ki_1 (by decide) rfl rfl ?_
    refine ax_goto (tgt := 14) dX12_best_30 (by decide) ?_
    exact (k3 c1)
set_option maxRecDepth 20000 in
theorem s_X12_best_35 {d : Nat} (hd : 0 ≤ d) {Q : Option ax_V → ax_S → Prop} (σ : ax_S) (x1 : Int32) (x2 : Int32) (x3 : Int32) (k1 : (((1 : Int32) <<< ((σ.1 15 84) &&& 31)) ≤ x3) → ax_W shM (d + 1) mX12_best Q 126 [some (ax_r 0), none, some (ax_i x2), some (ax_i (0 : Int32)), some (ax_i (1 : Int32))] [] σ) (k2 : (¬ (((1 : Int32) <<< ((σ.1 15 84) &&& 31)) ≤ x3)) → ax_Ct shM d mX12_isSo [ax_r 0, ax_i x1, ax_i x3] (fun r u => ∃ x : Int32, r = some (ax_i x) ∧ ax_W shM (d + 1) mX12_best Q 54 [some (ax_r 0), some (ax_i x1), some (ax_i x2), some (ax_i x3), none] (ax_i x :: []) u) σ) : ax_W shM (d + 1) mX12_best Q 35 [some (ax_r 0), some (ax_i x1), some (ax_i x2), some (ax_i x3), none] [] σ := by
  refine ax_iload_n (q := 36) (i := 3) dX12_best_35 rfl rfl rfl ?_
  refine ax_iconst (q := 37) dX12_best_36 rfl ki_1 ?_
  refine ax_aload_n (q := 38) (i := 0) dX12_best_37 rfl rfl rfl ?_
  refine ax_get (q := 41) (k := 0) (j := 25) (v := ax_r 15) dX12_best_38 rfl shM_0 rfl rfl rfl (by decide) fl_X12_52 ?_
  refine ax_bipush (q := 43) dX12_best_41 rfl kb_84 ?_
  refine ax_iald (q := 44) (a := 84) (v := (σ.1 15 84)) dX12_best_43 rfl shM_15 (ax_inl 84 268 (by decide) (by decide)) rfl rfl ?_
  refine ax_ishl (q := 45) dX12_best_44 rfl ?_
  refine ax_icmp_ge (tgt := 121) (q := 48) dX12_best_45 (by decide) rfl (fun c1 => ?_) (fun c1 => ?_)
  · refine ax_iconst (q := 122) dX12_best_121 rfl ki_0 ?_
    refine ax_istore_n (q := 123) (i := 3) (lv2 := [some (ax_r 0), some (ax_i x1), some (ax_i x2), some (ax_i (0 : Int32)), none]) dX12_best_122 rfl rfl (by decide) rfl rfl ?_
    refine ax_iconst (q := 124) dX12_best_123 rfl ki_1 ?_
    refine ax_istore (q := 126) (lv2 := [some (ax_r 0), some (ax_i x1), some (ax_i x2), some (ax_i (0 : Int32)), some (ax_i (1 : Int32))]) dX12_best_124 rfl (by decide) rfl rfl ?_
    refine ax_fg (lv2 := [some (ax_r 0), none, some (ax_i x2), some (ax_i (0 : Int32)), some (ax_i (1 : Int32))]) ⟨rfl, rfl, rfl, rfl, trivial⟩ ?_
    exact (k1 c1)
  · refine ax_aload_n (q := 49) (i := 0) dX12_best_48 rfl rfl rfl ?_
    refine ax_iload_n (q := 50) (i := 1) dX12_best_49 rfl rfl rfl ?_
    refine ax_iload_n (q := 51) (i := 3) dX12_best_50 rfl rfl rfl ?_
    exact ax_callVci (q := 54) (As := [ax_i x1, ax_i x3]) (st := []) dX12_best_51 rfl lk_X12_461 shM_0 rfl rfl rfl rfl (Nat.le_of_ble_eq_true rfl) (k2 c1)
set_option maxRecDepth 20000 in
theorem s_X12_best_126 {d : Nat} (hd : 0 ≤ d) {Q : Option ax_V → ax_S → Prop} (σ : ax_S) (x2 : Int32) (x3 : Int32) (x4 : Int32) (k1 : ((σ.1 0 23) ≤ x4) → Q (some (ax_i (if (x2 = 0) then (-1 : Int32) else x3))) σ) (h2 : (¬ ((σ.1 0 23) ≤ x4)) → vp_in x4 8) (h3 : (¬ ((σ.1 0 23) ≤ x4)) → vp_in x3 8) (k4 : (¬ ((σ.1 0 23) ≤ x4)) → ax_W shM (d + 1) mX12_best Q 126 [some (ax_r 0), none, some (ax_i x2), some (ax_i (if ((if (0 : Int32) ≤ (σ.1 27 (Int32.toNatClampNeg x3)) then (σ.1 27 (Int32.toNatClampNeg x3)) else 0 - (σ.1 27 (Int32.toNatClampNeg x3))) ≤ (if (0 : Int32) ≤ (σ.1 27 (Int32.toNatClampNeg x4)) then (σ.1 27 (Int32.toNatClampNeg x4)) else 0 - (σ.1 27 (Int32.toNatClampNeg x4)))) then x3 else x4)), some (ax_i (x4 + (1 : Int32)))] [] σ) : ax_W shM (d + 1) mX12_best Q 126 [some (ax_r 0), none, some (ax_i x2), some (ax_i x3), some (ax_i x4)] [] σ := by
  refine ax_iload (q := 128) dX12_best_126 rfl rfl ?_
  refine ax_aload_n (q := 129) (i := 0) dX12_best_128 rfl rfl rfl ?_
  refine ax_get (q := 132) (k := 0) (j := 23) (v := ax_i (σ.1 0 23)) dX12_best_129 rfl shM_0 rfl rfl rfl (by decide) fl_X12_271 ?_
  refine ax_icmp_ge (tgt := 170) (q := 135) dX12_best_132 (by decide) rfl (fun c1 => ?_) (fun c1 => ?_)
  · refine ax_iload_n (q := 171) (i := 2) dX12_best_170 rfl rfl rfl ?_
    have K3 : ax_W shM (d + 1) mX12_best Q 179 [some (ax_r 0), none, some (ax_i x2), some (ax_i x3), some (ax_i x4)] [ax_i (if (x2 = 0) then (-1 : Int32) else x3)] σ := by
      exact ax_iret dX12_best_179 rfl rfl (k1 c1)
    refine ax_if_eq (tgt := 178) (q := 174) dX12_best_171 (by decide) rfl (fun c2 => ?_) (fun c2 => ?_)
    · refine ax_iconst (q := 179) dX12_best_178 rfl ki_m1 ?_
      exact ax_cv (if_pos c2) K3
    · refine ax_iload_n (q := 175) (i := 3) dX12_best_174 rfl rfl rfl ?_
      refine ax_goto (tgt := 179) dX12_best_175 (by decide) ?_
      exact ax_cv (if_neg c2) K3
  · refine ax_aload_n (q := 136) (i := 0) dX12_best_135 rfl rfl rfl ?_
    refine ax_get (q := 139) (k := 0) (j := 47) (v := ax_r 27) dX12_best_136 rfl shM_0 rfl rfl rfl (by decide) fl_X12_96 ?_
    refine ax_iload (q := 141) dX12_best_139 rfl rfl ?_
    refine ax_iald (q := 142) (a := (Int32.toNatClampNeg x4)) (v := (σ.1 27 (Int32.toNatClampNeg x4))) dX12_best_141 rfl shM_27 (h2 c1) rfl rfl ?_
    refine ax_mabs (q := 145) dX12_best_142 rfl mk_X12_309 (Nat.le_of_ble_eq_true rfl) ?_
    refine ax_aload_n (q := 146) (i := 0) dX12_best_145 rfl rfl rfl ?_
    refine ax_get (q := 149) (k := 0) (j := 47) (v := ax_r 27) dX12_best_146 rfl shM_0 rfl rfl rfl (by decide) fl_X12_96 ?_
    refine ax_iload_n (q := 150) (i := 3) dX12_best_149 rfl rfl rfl ?_
    refine ax_iald (q := 151) (a := (Int32.toNatClampNeg x3)) (v := (σ.1 27 (Int32.toNatClampNeg x3))) dX12_best_150 rfl shM_27 (h3 c1) rfl rfl ?_
    refine ax_mabs (q := 154) dX12_best_151 rfl mk_X12_309 (Nat.le_of_ble_eq_true rfl) ?_
    have K5 : ax_W shM (d + 1) mX12_best Q 163 [some (ax_r 0), none, some (ax_i x2), some (ax_i x3), some (ax_i x4)] [ax_i (if ((if (0 : Int32) ≤ (σ.1 27 (Int32.toNatClampNeg x3)) then (σ.1 27 (Int32.toNatClampNeg x3)) else 0 - (σ.1 27 (Int32.toNatClampNeg x3))) ≤ (if (0 : Int32) ≤ (σ.1 27 (Int32.toNatClampNeg x4)) then (σ.1 27 (Int32.toNatClampNeg x4)) else 0 - (σ.1 27 (Int32.toNatClampNeg x4)))) then x3 else x4)] σ := by
      refine ax_istore_n (q := 164) (i := 3) (lv2 := [some (ax_r 0), none, some (ax_i x2), some (ax_i (if ((if (0 : Int32) ≤ (σ.1 27 (Int32.toNatClampNeg x3)) then (σ.1 27 (Int32.toNatClampNeg x3)) else 0 - (σ.1 27 (Int32.toNatClampNeg x3))) ≤ (if (0 : Int32) ≤ (σ.1 27 (Int32.toNatClampNeg x4)) then (σ.1 27 (Int32.toNatClampNeg x4)) else 0 - (σ.1 27 (Int32.toNatClampNeg x4)))) then x3 else x4)), some (ax_i x4)]) dX12_best_163 rfl rfl (by decide) rfl rfl ?_
      refine ax_iincK (q := 167) (lv2 := [some (ax_r 0), none, some (ax_i x2), some (ax_i (if ((if (0 : Int32) ≤ (σ.1 27 (Int32.toNatClampNeg x3)) then (σ.1 27 (Int32.toNatClampNeg x3)) else 0 - (σ.1 27 (Int32.toNatClampNeg x3))) ≤ (if (0 : Int32) ≤ (σ.1 27 (Int32.toNatClampNeg x4)) then (σ.1 27 (Int32.toNatClampNeg x4)) else 0 - (σ.1 27 (Int32.toNatClampNeg x4)))) then x3 else x4)), some (ax_i (x4 + (1 : Int32)))]) dX12_best_164 rfl rfl ki_1 (by decide) rfl rfl ?_
      refine ax_goto (tgt := 126) dX12_best_167 (by decide) ?_
      exact (k4 c1)
    refine ax_icmp_ge (tgt := 162) (q := 157) dX12_best_154 (by decide) rfl (fun c4 => ?_) (fun c4 => ?_)
    · refine ax_iload_n (q := 163) (i := 3) dX12_best_162 rfl rfl rfl ?_
      exact ax_cv (if_pos c4) K5
    · refine ax_iload (q := 159) dX12_best_157 rfl rfl ?_
      refine ax_goto (tgt := 163) dX12_best_159 (by decide) ?_
      exact ax_cv (if_neg c4) K5
set_option maxRecDepth 20000 in
theorem s_X12_best_54 {d : Nat} (hd : 0 ≤ d) {Q : Option ax_V → ax_S → Prop} (σ : ax_S) (x1 : Int32) (x2 : Int32) (x3 : Int32) (rr : Int32) (k1 : (rr = 0) → ax_W shM (d + 1) mX12_best Q 35 [some (ax_r 0), some (ax_i x1), some (ax_i x2), some (ax_i (x3 + (1 : Int32))), none] [] σ) (k2 : (¬ (rr = 0)) → ax_Ct shM d mX12_cutSet [ax_r 0, ax_i x3, ax_i (1 : Int32)] (fun r u => r = none ∧ ax_W shM (d + 1) mX12_best Q 65 [some (ax_r 0), some (ax_i x1), some (ax_i (1 : Int32)), some (ax_i x3), none] [] u) σ) : ax_W shM (d + 1) mX12_best Q 54 [some (ax_r 0), some (ax_i x1), some (ax_i x2), some (ax_i x3), none] [ax_i rr] σ := by
  refine ax_if_eq (tgt := 115) (q := 57) dX12_best_54 (by decide) rfl (fun c1 => ?_) (fun c1 => ?_)
  · refine ax_iincK (q := 118) (lv2 := [some (ax_r 0), some (ax_i x1), some (ax_i x2), some (ax_i (x3 + (1 : Int32))), none]) dX12_best_115 rfl rfl ki_1 (by decide) rfl rfl ?_
    refine ax_goto (tgt := 35) dX12_best_118 (by decide) ?_
    exact (k1 c1)
  · refine ax_iconst (q := 58) dX12_best_57 rfl ki_1 ?_
    refine ax_istore_n (q := 59) (i := 2) (lv2 := [some (ax_r 0), some (ax_i x1), some (ax_i (1 : Int32)), some (ax_i x3), none]) dX12_best_58 rfl rfl (by decide) rfl rfl ?_
    refine ax_aload_n (q := 60) (i := 0) dX12_best_59 rfl rfl rfl ?_
    refine ax_iload_n (q := 61) (i := 3) dX12_best_60 rfl rfl rfl ?_
    refine ax_iconst (q := 62) dX12_best_61 rfl ki_1 ?_
    exact ax_callVcv (q := 65) (As := [ax_i x3, ax_i (1 : Int32)]) (st := []) dX12_best_62 rfl lk_X12_428 shM_0 rfl rfl rfl rfl (Nat.le_of_ble_eq_true rfl) (k2 c1)
set_option maxRecDepth 20000 in
theorem s_X12_best_65 {d : Nat} (hd : 0 ≤ d) {Q : Option ax_V → ax_S → Prop} (σ : ax_S) (x1 : Int32) (x2 : Int32) (x3 : Int32) (k1 : ax_W shM (d + 1) mX12_best Q 68 [some (ax_r 0), some (ax_i x1), some (ax_i x2), some (ax_i x3), some (ax_i (0 : Int32))] [] σ) : ax_W shM (d + 1) mX12_best Q 65 [some (ax_r 0), some (ax_i x1), some (ax_i x2), some (ax_i x3), none] [] σ := by
  refine ax_iconst (q := 66) dX12_best_65 rfl ki_0 ?_
  refine ax_istore (q := 68) (lv2 := [some (ax_r 0), some (ax_i x1), some (ax_i x2), some (ax_i x3), some (ax_i (0 : Int32))]) dX12_best_66 rfl (by decide) rfl rfl ?_
  exact k1
set_option maxRecDepth 20000 in
theorem s_X12_best_68 {d : Nat} (hd : 0 ≤ d) {Q : Option ax_V → ax_S → Prop} (σ : ax_S) (x1 : Int32) (x2 : Int32) (x3 : Int32) (x4 : Int32) (k1 : ((σ.1 0 23) ≤ x4) → ax_Ct shM d mX12_cutSet [ax_r 0, ax_i x3, ax_i (0 : Int32)] (fun r u => r = none ∧ ax_W shM (d + 1) mX12_best Q 115 [some (ax_r 0), some (ax_i x1), some (ax_i x2), some (ax_i x3), none] [] u) σ) (h2 : (¬ ((σ.1 0 23) ≤ x4)) → vp_in x4 8) (k3 : (¬ ((σ.1 0 23) ≤ x4)) → ax_Ct shM d mX12_burningBy [ax_r 0, ax_i x4, ax_i (50 : Int32)] (fun r u => ∃ x : Int32, r = some (ax_i x) ∧ ax_W shM (d + 1) mX12_best Q 93 [some (ax_r 0), some (ax_i x1), some (ax_i x2), some (ax_i x3), some (ax_i x4)] (ax_i x :: [ax_i (σ.1 27 (Int32.toNatClampNeg x4)), ax_i x4, ax_r 27]) u) σ) : ax_W shM (d + 1) mX12_best Q 68 [some (ax_r 0), some (ax_i x1), some (ax_i x2), some (ax_i x3), some (ax_i x4)] [] σ := by
  refine ax_iload (q := 70) dX12_best_68 rfl rfl ?_
  refine ax_aload_n (q := 71) (i := 0) dX12_best_70 rfl rfl rfl ?_
  refine ax_get (q := 74) (k := 0) (j := 23) (v := ax_i (σ.1 0 23)) dX12_best_71 rfl shM_0 rfl rfl rfl (by decide) fl_X12_271 ?_
  refine ax_icmp_ge (tgt := 109) (q := 77) dX12_best_74 (by decide) rfl (fun c1 => ?_) (fun c1 => ?_)
  · refine ax_aload_n (q := 110) (i := 0) dX12_best_109 rfl rfl rfl ?_
    refine ax_iload_n (q := 111) (i := 3) dX12_best_110 rfl rfl rfl ?_
    refine ax_iconst (q := 112) dX12_best_111 rfl ki_0 ?_
    refine ax_fg (lv2 := [some (ax_r 0), some (ax_i x1), some (ax_i x2), some (ax_i x3), none]) ⟨rfl, rfl, rfl, rfl, trivial⟩ ?_
    exact ax_callVcv (q := 115) (As := [ax_i x3, ax_i (0 : Int32)]) (st := []) dX12_best_112 rfl lk_X12_428 shM_0 rfl rfl rfl rfl (Nat.le_of_ble_eq_true rfl) (k1 c1)
  · refine ax_aload_n (q := 78) (i := 0) dX12_best_77 rfl rfl rfl ?_
    refine ax_get (q := 81) (k := 0) (j := 47) (v := ax_r 27) dX12_best_78 rfl shM_0 rfl rfl rfl (by decide) fl_X12_96 ?_
    refine ax_iload (q := 83) dX12_best_81 rfl rfl ?_
    refine ax_dup2_11 (q := 84) dX12_best_83 rfl ?_
    refine ax_iald (q := 85) (a := (Int32.toNatClampNeg x4)) (v := (σ.1 27 (Int32.toNatClampNeg x4))) dX12_best_84 rfl shM_27 (h2 c1) rfl rfl ?_
    refine ax_aload_n (q := 86) (i := 0) dX12_best_85 rfl rfl rfl ?_
    refine ax_iload (q := 88) dX12_best_86 rfl rfl ?_
    refine ax_bipush (q := 90) dX12_best_88 rfl kb_50 ?_
    exact ax_callVci (q := 93) (As := [ax_i x4, ax_i (50 : Int32)]) (st := [ax_i (σ.1 27 (Int32.toNatClampNeg x4)), ax_i x4, ax_r 27]) dX12_best_90 rfl lk_X12_348 shM_0 rfl rfl rfl rfl (Nat.le_of_ble_eq_true rfl) (k3 c1)
set_option maxRecDepth 20000 in
theorem s_X12_best_115 {d : Nat} (hd : 0 ≤ d) {Q : Option ax_V → ax_S → Prop} (σ : ax_S) (x1 : Int32) (x2 : Int32) (x3 : Int32) (k1 : ax_W shM (d + 1) mX12_best Q 35 [some (ax_r 0), some (ax_i x1), some (ax_i x2), some (ax_i (x3 + (1 : Int32))), none] [] σ) : ax_W shM (d + 1) mX12_best Q 115 [some (ax_r 0), some (ax_i x1), some (ax_i x2), some (ax_i x3), none] [] σ := by
  refine ax_iincK (q := 118) (lv2 := [some (ax_r 0), some (ax_i x1), some (ax_i x2), some (ax_i (x3 + (1 : Int32))), none]) dX12_best_115 rfl rfl ki_1 (by decide) rfl rfl ?_
  refine ax_goto (tgt := 35) dX12_best_118 (by decide) ?_
  exact k1
set_option maxRecDepth 20000 in
theorem s_X12_best_93 {d : Nat} (hd : 0 ≤ d) {Q : Option ax_V → ax_S → Prop} (σ : ax_S) (x1 : Int32) (x2 : Int32) (x3 : Int32) (x4 : Int32) (rr : Int32) (y0 : Int32) (y1 : Int32) (h1 : vp_in y1 8) (k2 : ax_W shM (d + 1) mX12_best Q 68 [some (ax_r 0), some (ax_i x1), some (ax_i x2), some (ax_i x3), some (ax_i (x4 + (1 : Int32)))] [] (ax_ui σ 27 (Int32.toNatClampNeg y1) (y0 + (if (rr = 0) then (-1 : Int32) else (1 : Int32))))) : ax_W shM (d + 1) mX12_best Q 93 [some (ax_r 0), some (ax_i x1), some (ax_i x2), some (ax_i x3), some (ax_i x4)] [ax_i rr, ax_i y0, ax_i y1, ax_r 27] σ := by
  have K2 : ax_W shM (d + 1) mX12_best Q 101 [some (ax_r 0), some (ax_i x1), some (ax_i x2), some (ax_i x3), some (ax_i x4)] [ax_i (if (rr = 0) then (-1 : Int32) else (1 : Int32)), ax_i y0, ax_i y1, ax_r 27] σ := by
    refine ax_iadd (q := 102) dX12_best_101 rfl ?_
    refine ax_iast (q := 103) (a := (Int32.toNatClampNeg y1)) dX12_best_102 rfl shM_27 h1 rfl ?_
    refine ax_iincK (q := 106) (lv2 := [some (ax_r 0), some (ax_i x1), some (ax_i x2), some (ax_i x3), some (ax_i (x4 + (1 : Int32)))]) dX12_best_103 rfl rfl ki_1 (by decide) rfl rfl ?_
    refine ax_goto (tgt := 68) dX12_best_106 (by decide) ?_
    exact k2
  refine ax_if_eq (tgt := 100) (q := 96) dX12_best_93 (by decide) rfl (fun c1 => ?_) (fun c1 => ?_)
  · refine ax_iconst (q := 101) dX12_best_100 rfl ki_m1 ?_
    exact ax_cv (if_pos c1) K2
  · refine ax_iconst (q := 97) dX12_best_96 rfl ki_1 ?_
    refine ax_goto (tgt := 101) dX12_best_97 (by decide) ?_
    exact ax_cv (if_neg c1) K2
set_option maxRecDepth 20000 in
theorem s_X12_oddsOf_0 {d : Nat} (hd : 0 ≤ d) {Q : Option ax_V → ax_S → Prop} (σ : ax_S) (a0 : Int32) (a1 : Int32) (k1 : ax_W shM (d + 1) mX12_oddsOf Q 5 [some (ax_r 0), some (ax_i a0), some (ax_i a1), some (ax_l (0 : Int64)), none, some (ax_i (0 : Int32))] [] σ) : ax_W shM (d + 1) mX12_oddsOf Q 0 [some (ax_r 0), some (ax_i a0), some (ax_i a1), none, none, none] [] σ := by
  refine ax_lconst (q := 1) (v := 0) dX12_oddsOf_0 rfl rfl ?_
  refine ax_lstore_n (q := 2) (i := 3) (lv2 := [some (ax_r 0), some (ax_i a0), some (ax_i a1), some (ax_l (0 : Int64)), none, none]) dX12_oddsOf_1 rfl rfl (by decide) rfl rfl ?_
  refine ax_iconst (q := 3) dX12_oddsOf_2 rfl ki_0 ?_
  refine ax_istore (q := 5) (lv2 := [some (ax_r 0), some (ax_i a0), some (ax_i a1), some (ax_l (0 : Int64)), none, some (ax_i (0 : Int32))]) dX12_oddsOf_3 rfl (by decide) rfl rfl ?_
  exact k1
set_option maxRecDepth 20000 in
theorem s_X12_oddsOf_5 {d : Nat} (hd : 0 ≤ d) {Q : Option ax_V → ax_S → Prop} (σ : ax_S) (x1 : Int32) (x2 : Int32) (x3 : Int64) (x5 : Int32) (k1 : ((σ.1 0 23) ≤ x5) → Q (some (ax_i (Int64.toInt32 x3))) σ) (k2 : (¬ ((σ.1 0 23) ≤ x5)) → ax_Ct shM d mX12_burningBy [ax_r 0, ax_i x5, ax_i x2] (fun r u => ∃ x : Int32, r = some (ax_i x) ∧ ax_W shM (d + 1) mX12_oddsOf Q 22 [some (ax_r 0), some (ax_i x1), some (ax_i x2), none, none, some (ax_i x5)] (ax_i x :: [ax_l x3]) u) σ) : ax_W shM (d + 1) mX12_oddsOf Q 5 [some (ax_r 0), some (ax_i x1), some (ax_i x2), some (ax_l x3), none, some (ax_i x5)] [] σ := by
  refine ax_iload (q := 7) dX12_oddsOf_5 rfl rfl ?_
  refine ax_aload_n (q := 8) (i := 0) dX12_oddsOf_7 rfl rfl rfl ?_
  refine ax_get (q := 11) (k := 0) (j := 23) (v := ax_i (σ.1 0 23)) dX12_oddsOf_8 rfl shM_0 rfl rfl rfl (by decide) fl_X12_271 ?_
  refine ax_icmp_ge (tgt := 59) (q := 14) dX12_oddsOf_11 (by decide) rfl (fun c1 => ?_) (fun c1 => ?_)
  · refine ax_lload_n (q := 60) (i := 3) dX12_oddsOf_59 rfl rfl rfl ?_
    refine ax_l2i (q := 61) dX12_oddsOf_60 rfl ?_
    exact ax_iret dX12_oddsOf_61 rfl rfl (k1 c1)
  · refine ax_lload_n (q := 15) (i := 3) dX12_oddsOf_14 rfl rfl rfl ?_
    refine ax_aload_n (q := 16) (i := 0) dX12_oddsOf_15 rfl rfl rfl ?_
    refine ax_iload (q := 18) dX12_oddsOf_16 rfl rfl ?_
    refine ax_iload_n (q := 19) (i := 2) dX12_oddsOf_18 rfl rfl rfl ?_
    refine ax_fg (lv2 := [some (ax_r 0), some (ax_i x1), some (ax_i x2), none, none, some (ax_i x5)]) ⟨rfl, rfl, rfl, rfl, trivial⟩ ?_
    exact ax_callVci (q := 22) (As := [ax_i x5, ax_i x2]) (st := [ax_l x3]) dX12_oddsOf_19 rfl lk_X12_348 shM_0 rfl rfl rfl rfl (Nat.le_of_ble_eq_true rfl) (k2 c1)
set_option maxRecDepth 20000 in
theorem s_X12_oddsOf_22 {d : Nat} (hd : 1 ≤ d) {Q : Option ax_V → ax_S → Prop} (σ : ax_S) (x1 : Int32) (x2 : Int32) (x5 : Int32) (rr : Int32) (y0 : Int64) (k1 : (¬ (¬ (¬ ((rr >>> (x1 &&& 31)) &&& (1 : Int32)) = (1 : Int32)))) → ax_W shM (d + 1) mX12_oddsOf Q 5 [some (ax_r 0), some (ax_i x1), some (ax_i x2), some (ax_l (y0 + (0 : Int64))), none, some (ax_i (x5 + (1 : Int32)))] [] σ) (h2 : (¬ (¬ ((rr >>> (x1 &&& 31)) &&& (1 : Int32)) = (1 : Int32))) → vp_in (((4 : Int32) * x5) + (1 : Int32)) 32) (k3 : (¬ (¬ ((rr >>> (x1 &&& 31)) &&& (1 : Int32)) = (1 : Int32))) → ax_Ct shM d mX12_heights [ax_r 0] (fun r u => ∃ x : Int32, r = some (ax_i x) ∧ ax_W shM (d + 1) mX12_oddsOf Q 45 [some (ax_r 0), some (ax_i x1), some (ax_i x2), none, none, some (ax_i x5)] (ax_i x :: [ax_l ((1000000000 : Int64) * (Int32.toInt64 (σ.1 14 (Int32.toNatClampNeg (((4 : Int32) * x5) + (1 : Int32)))))), ax_l y0]) u) σ) : ax_W shM (d + 1) mX12_oddsOf Q 22 [some (ax_r 0), some (ax_i x1), some (ax_i x2), none, none, some (ax_i x5)] [ax_i rr, ax_l y0] σ := by
  refine ax_iload_n (q := 23) (i := 1) dX12_oddsOf_22 rfl rfl rfl ?_
  refine ax_callSfi (q := 26) (As := [ax_i rr, ax_i x1]) (st := [ax_l y0]) (x := (if (¬ (¬ ((rr >>> (x1 &&& 31)) &&& (1 : Int32)) = (1 : Int32))) then (1 : Int32) else 0)) (σ2 := σ) dX12_oddsOf_23 rfl lk_X12_234 rfl rfl (Nat.le_of_ble_eq_true rfl) (f_X12_has (sh := shM) σ rr x1  (d := d) (by omega)) ?_
  refine ax_if_eqB (tgt := 50) (q := 29) dX12_oddsOf_26 (by decide) rfl (fun c1 => ?_) (fun c1 => ?_)
  · refine ax_lconst (q := 51) (v := 0) dX12_oddsOf_50 rfl rfl ?_
    refine ax_ladd (q := 52) dX12_oddsOf_51 rfl ?_
    refine ax_lstore_n (q := 53) (i := 3) (lv2 := [some (ax_r 0), some (ax_i x1), some (ax_i x2), some (ax_l (y0 + (0 : Int64))), none, some (ax_i x5)]) dX12_oddsOf_52 rfl rfl (by decide) rfl rfl ?_
    refine ax_iincK (q := 56) (lv2 := [some (ax_r 0), some (ax_i x1), some (ax_i x2), some (ax_l (y0 + (0 : Int64))), none, some (ax_i (x5 + (1 : Int32)))]) dX12_oddsOf_53 rfl rfl ki_1 (by decide) rfl rfl ?_
    refine ax_goto (tgt := 5) dX12_oddsOf_56 (by decide) ?_
    exact (k1 c1)
  · refine ax_ldc2 (q := 32) dX12_oddsOf_29 rfl kc_X12_464 ?_
    refine ax_aload_n (q := 33) (i := 0) dX12_oddsOf_32 rfl rfl rfl ?_
    refine ax_iload (q := 35) dX12_oddsOf_33 rfl rfl ?_
    refine ax_iconst (q := 36) dX12_oddsOf_35 rfl ki_1 ?_
    refine ax_callVfi (q := 39) (As := [ax_i x5, ax_i (1 : Int32)]) (st := [ax_l (1000000000 : Int64), ax_l y0]) (x := (σ.1 14 (Int32.toNatClampNeg (((4 : Int32) * x5) + (1 : Int32))))) (σ2 := σ) dX12_oddsOf_36 rfl lk_X12_277 shM_0 rfl rfl rfl rfl (Nat.le_of_ble_eq_true rfl) (f_X12_of σ x5 (1 : Int32) (h2 c1) (d := d) (by omega)) ?_
    refine ax_i2l (q := 40) dX12_oddsOf_39 rfl ?_
    refine ax_lmul (q := 41) dX12_oddsOf_40 rfl ?_
    refine ax_aload_n (q := 42) (i := 0) dX12_oddsOf_41 rfl rfl rfl ?_
    exact ax_callVci (q := 45) (As := []) (st := [ax_l ((1000000000 : Int64) * (Int32.toInt64 (σ.1 14 (Int32.toNatClampNeg (((4 : Int32) * x5) + (1 : Int32)))))), ax_l y0]) dX12_oddsOf_42 rfl lk_X12_395 shM_0 rfl rfl rfl rfl (Nat.le_of_ble_eq_true rfl) (k3 c1)
set_option maxRecDepth 20000 in
theorem s_X12_oddsOf_45 {d : Nat} (hd : 0 ≤ d) {Q : Option ax_V → ax_S → Prop} (σ : ax_S) (x1 : Int32) (x2 : Int32) (x5 : Int32) (rr : Int32) (y0 : Int64) (y1 : Int64) (h1 : ¬ (Int32.toInt64 rr) = 0) (k2 : ax_W shM (d + 1) mX12_oddsOf Q 5 [some (ax_r 0), some (ax_i x1), some (ax_i x2), some (ax_l (y1 + (y0 / (Int32.toInt64 rr)))), none, some (ax_i (x5 + (1 : Int32)))] [] σ) : ax_W shM (d + 1) mX12_oddsOf Q 45 [some (ax_r 0), some (ax_i x1), some (ax_i x2), none, none, some (ax_i x5)] [ax_i rr, ax_l y0, ax_l y1] σ := by
  refine ax_i2l (q := 46) dX12_oddsOf_45 rfl ?_
  refine ax_ldiv (q := 47) dX12_oddsOf_46 rfl h1 ?_
  refine ax_goto (tgt := 51) dX12_oddsOf_47 (by decide) ?_
  refine ax_ladd (q := 52) dX12_oddsOf_51 rfl ?_
  refine ax_lstore_n (q := 53) (i := 3) (lv2 := [some (ax_r 0), some (ax_i x1), some (ax_i x2), some (ax_l (y1 + (y0 / (Int32.toInt64 rr)))), none, some (ax_i x5)]) dX12_oddsOf_52 rfl rfl (by decide) rfl rfl ?_
  refine ax_iincK (q := 56) (lv2 := [some (ax_r 0), some (ax_i x1), some (ax_i x2), some (ax_l (y1 + (y0 / (Int32.toInt64 rr)))), none, some (ax_i (x5 + (1 : Int32)))]) dX12_oddsOf_53 rfl rfl ki_1 (by decide) rfl rfl ?_
  refine ax_goto (tgt := 5) dX12_oddsOf_56 (by decide) ?_
  exact k2
set_option maxRecDepth 20000 in
theorem s_X12_odds_0 {d : Nat} (hd : 2 ≤ d) {Q : Option ax_V → ax_S → Prop} (σ : ax_S) (a0 : Int32) (a1 : Int32) (k1 : (¬ ((¬ (a0 < (0 : Int32))) ∧ (¬ (((σ.1 0 23) - (1 : Int32)) < a0)))) → Q (some (ax_i (-1 : Int32))) σ) (k2 : ((¬ (a0 < (0 : Int32))) ∧ (¬ (((σ.1 0 23) - (1 : Int32)) < a0))) → (¬ ((¬ (a1 < (1 : Int32))) ∧ (¬ ((999 : Int32) < a1)))) → Q (some (ax_i (-1 : Int32))) σ) (k3 : ((¬ (a0 < (0 : Int32))) ∧ (¬ (((σ.1 0 23) - (1 : Int32)) < a0))) → ((¬ (a1 < (1 : Int32))) ∧ (¬ ((999 : Int32) < a1))) → ax_Ct shM d mX12_oddsOf [ax_r 0, ax_i a0, ax_i a1] (fun r u => ∃ x : Int32, r = some (ax_i x) ∧ ax_W shM (d + 1) mX12_odds Q 21 [none, none, none] (ax_i x :: []) u) σ) : ax_W shM (d + 1) mX12_odds Q 0 [some (ax_r 0), some (ax_i a0), some (ax_i a1)] [] σ := by
  refine ax_aload_n (q := 1) (i := 0) dX12_odds_0 rfl rfl rfl ?_
  refine ax_iload_n (q := 2) (i := 1) dX12_odds_1 rfl rfl rfl ?_
  refine ax_callVfi (q := 5) (As := [ax_i a0]) (st := []) (x := (if ((¬ (a0 < (0 : Int32))) ∧ (¬ (((σ.1 0 23) - (1 : Int32)) < a0))) then (1 : Int32) else 0)) (σ2 := σ) dX12_odds_2 rfl lk_X12_342 shM_0 rfl rfl rfl rfl (Nat.le_of_ble_eq_true rfl) (f_X12_isHouse σ a0  (d := d) (by omega)) ?_
  refine ax_if_eqB (tgt := 24) (q := 8) dX12_odds_5 (by decide) rfl (fun c1 => ?_) (fun c1 => ?_)
  · refine ax_iconst (q := 25) dX12_odds_24 rfl ki_m1 ?_
    exact ax_iret dX12_odds_25 rfl rfl (k1 c1)
  · refine ax_iload_n (q := 9) (i := 2) dX12_odds_8 rfl rfl rfl ?_
    refine ax_callSfi (q := 12) (As := [ax_i a1]) (st := []) (x := (if ((¬ (a1 < (1 : Int32))) ∧ (¬ ((999 : Int32) < a1))) then (1 : Int32) else 0)) (σ2 := σ) dX12_odds_9 rfl lk_X12_351 rfl rfl (Nat.le_of_ble_eq_true rfl) (f_X12_isForce (sh := shM) σ a1  (d := d) (by omega)) ?_
    refine ax_if_eqB (tgt := 24) (q := 15) dX12_odds_12 (by decide) rfl (fun c2 => ?_) (fun c2 => ?_)
    · refine ax_iconst (q := 25) dX12_odds_24 rfl ki_m1 ?_
      exact ax_iret dX12_odds_25 rfl rfl (k2 c1 c2)
    · refine ax_aload_n (q := 16) (i := 0) dX12_odds_15 rfl rfl rfl ?_
      refine ax_iload_n (q := 17) (i := 1) dX12_odds_16 rfl rfl rfl ?_
      refine ax_iload_n (q := 18) (i := 2) dX12_odds_17 rfl rfl rfl ?_
      refine ax_fg (lv2 := [none, none, none]) trivial ?_
      exact ax_callVci (q := 21) (As := [ax_i a0, ax_i a1]) (st := []) dX12_odds_18 rfl lk_X12_466 shM_0 rfl rfl rfl rfl (Nat.le_of_ble_eq_true rfl) (k3 c1 c2)
set_option maxRecDepth 20000 in
theorem s_X12_odds_21 {d : Nat} (hd : 0 ≤ d) {Q : Option ax_V → ax_S → Prop} (σ : ax_S) (rr : Int32) (k1 : Q (some (ax_i rr)) σ) : ax_W shM (d + 1) mX12_odds Q 21 [none, none, none] [ax_i rr] σ := by
  refine ax_goto (tgt := 25) dX12_odds_21 (by decide) ?_
  exact ax_iret dX12_odds_25 rfl rfl k1
set_option maxRecDepth 20000 in
theorem s_X12_premium_0 {d : Nat} (hd : 2 ≤ d) {Q : Option ax_V → ax_S → Prop} (σ : ax_S) (a0 : Int32) (a1 : Int32) (a2 : Int32) (k1 : (¬ ((¬ (a0 < (0 : Int32))) ∧ (¬ (((σ.1 0 23) - (1 : Int32)) < a0)))) → Q (some (ax_i (-1 : Int32))) σ) (k2 : ((¬ (a0 < (0 : Int32))) ∧ (¬ (((σ.1 0 23) - (1 : Int32)) < a0))) → (¬ ((¬ (a1 < (1 : Int32))) ∧ (¬ ((999 : Int32) < a1)))) → Q (some (ax_i (-1 : Int32))) σ) (k3 : ((¬ (a0 < (0 : Int32))) ∧ (¬ (((σ.1 0 23) - (1 : Int32)) < a0))) → ((¬ (a1 < (1 : Int32))) ∧ (¬ ((999 : Int32) < a1))) → (¬ ((¬ (a2 < (1 : Int32))) ∧ (¬ ((999 : Int32) < a2)))) → Q (some (ax_i (-1 : Int32))) σ) (k4 : ((¬ (a0 < (0 : Int32))) ∧ (¬ (((σ.1 0 23) - (1 : Int32)) < a0))) → ((¬ (a1 < (1 : Int32))) ∧ (¬ ((999 : Int32) < a1))) → ((¬ (a2 < (1 : Int32))) ∧ (¬ ((999 : Int32) < a2))) → ax_Ct shM d mX12_oddsOf [ax_r 0, ax_i a0, ax_i a1] (fun r u => ∃ x : Int32, r = some (ax_i x) ∧ ax_W shM (d + 1) mX12_premium Q 32 [none, none, none, some (ax_i a2)] (ax_i x :: []) u) σ) : ax_W shM (d + 1) mX12_premium Q 0 [some (ax_r 0), some (ax_i a0), some (ax_i a1), some (ax_i a2)] [] σ := by
  refine ax_aload_n (q := 1) (i := 0) dX12_premium_0 rfl rfl rfl ?_
  refine ax_iload_n (q := 2) (i := 1) dX12_premium_1 rfl rfl rfl ?_
  refine ax_callVfi (q := 5) (As := [ax_i a0]) (st := []) (x := (if ((¬ (a0 < (0 : Int32))) ∧ (¬ (((σ.1 0 23) - (1 : Int32)) < a0))) then (1 : Int32) else 0)) (σ2 := σ) dX12_premium_2 rfl lk_X12_342 shM_0 rfl rfl rfl rfl (Nat.le_of_ble_eq_true rfl) (f_X12_isHouse σ a0  (d := d) (by omega)) ?_
  refine ax_if_eqB (tgt := 50) (q := 8) dX12_premium_5 (by decide) rfl (fun c1 => ?_) (fun c1 => ?_)
  · refine ax_iconst (q := 51) dX12_premium_50 rfl ki_m1 ?_
    exact ax_iret dX12_premium_51 rfl rfl (k1 c1)
  · refine ax_iload_n (q := 9) (i := 2) dX12_premium_8 rfl rfl rfl ?_
    refine ax_callSfi (q := 12) (As := [ax_i a1]) (st := []) (x := (if ((¬ (a1 < (1 : Int32))) ∧ (¬ ((999 : Int32) < a1))) then (1 : Int32) else 0)) (σ2 := σ) dX12_premium_9 rfl lk_X12_351 rfl rfl (Nat.le_of_ble_eq_true rfl) (f_X12_isForce (sh := shM) σ a1  (d := d) (by omega)) ?_
    refine ax_if_eqB (tgt := 50) (q := 15) dX12_premium_12 (by decide) rfl (fun c2 => ?_) (fun c2 => ?_)
    · refine ax_iconst (q := 51) dX12_premium_50 rfl ki_m1 ?_
      exact ax_iret dX12_premium_51 rfl rfl (k2 c1 c2)
    · refine ax_iload_n (q := 16) (i := 3) dX12_premium_15 rfl rfl rfl ?_
      refine ax_iconst (q := 17) dX12_premium_16 rfl ki_1 ?_
      refine ax_sipush (q := 20) dX12_premium_17 rfl ks_999 ?_
      refine ax_callSfi (q := 23) (As := [ax_i a2, ax_i (1 : Int32), ax_i (999 : Int32)]) (st := []) (x := (if ((¬ (a2 < (1 : Int32))) ∧ (¬ ((999 : Int32) < a2))) then (1 : Int32) else 0)) (σ2 := σ) dX12_premium_20 rfl lk_X12_223 rfl rfl (Nat.le_of_ble_eq_true rfl) (f_X12_in (sh := shM) σ a2 (1 : Int32) (999 : Int32)  (d := d) (by omega)) ?_
      refine ax_if_eqB (tgt := 50) (q := 26) dX12_premium_23 (by decide) rfl (fun c3 => ?_) (fun c3 => ?_)
      · refine ax_iconst (q := 51) dX12_premium_50 rfl ki_m1 ?_
        exact ax_iret dX12_premium_51 rfl rfl (k3 c1 c2 c3)
      · refine ax_aload_n (q := 27) (i := 0) dX12_premium_26 rfl rfl rfl ?_
        refine ax_iload_n (q := 28) (i := 1) dX12_premium_27 rfl rfl rfl ?_
        refine ax_iload_n (q := 29) (i := 2) dX12_premium_28 rfl rfl rfl ?_
        refine ax_fg (lv2 := [none, none, none, some (ax_i a2)]) ⟨rfl, trivial⟩ ?_
        exact ax_callVci (q := 32) (As := [ax_i a0, ax_i a1]) (st := []) dX12_premium_29 rfl lk_X12_466 shM_0 rfl rfl rfl rfl (Nat.le_of_ble_eq_true rfl) (k4 c1 c2 c3)
set_option maxRecDepth 20000 in
theorem s_X12_premium_32 {d : Nat} (hd : 0 ≤ d) {Q : Option ax_V → ax_S → Prop} (σ : ax_S) (x3 : Int32) (rr : Int32) (k1 : Q (some (ax_i (Int64.toInt32 (((((Int32.toInt64 rr) * (Int32.toInt64 x3)) + (1000000000 : Int64)) - (1 : Int64)) / (1000000000 : Int64))))) σ) : ax_W shM (d + 1) mX12_premium Q 32 [none, none, none, some (ax_i x3)] [ax_i rr] σ := by
  refine ax_i2l (q := 33) dX12_premium_32 rfl ?_
  refine ax_iload_n (q := 34) (i := 3) dX12_premium_33 rfl rfl rfl ?_
  refine ax_i2l (q := 35) dX12_premium_34 rfl ?_
  refine ax_lmul (q := 36) dX12_premium_35 rfl ?_
  refine ax_ldc2 (q := 39) dX12_premium_36 rfl kc_X12_464 ?_
  refine ax_ladd (q := 40) dX12_premium_39 rfl ?_
  refine ax_lconst (q := 41) (v := 1) dX12_premium_40 rfl rfl ?_
  refine ax_lsub (q := 42) dX12_premium_41 rfl ?_
  refine ax_ldc2 (q := 45) dX12_premium_42 rfl kc_X12_464 ?_
  refine ax_ldiv (q := 46) dX12_premium_45 rfl (by decide) ?_
  refine ax_l2i (q := 47) dX12_premium_46 rfl ?_
  refine ax_goto (tgt := 51) dX12_premium_47 (by decide) ?_
  exact ax_iret dX12_premium_51 rfl rfl k1
set_option maxRecDepth 20000 in
theorem s_X12_test_0 {d : Nat} (hd : 1 ≤ d) {Q : Option ax_V → ax_S → Prop} (σ : ax_S) (a0 : Int32) (a1 : Int32) (k1 : ((σ.1 0 23) = 0) → Q (some (ax_i (-1 : Int32))) σ) (k2 : (¬ ((σ.1 0 23) = 0)) → (¬ ((¬ (a0 < (0 : Int32))) ∧ (¬ ((2 : Int32) < a0)))) → Q (some (ax_i (-1 : Int32))) σ) (h3 : (¬ ((σ.1 0 23) = 0)) → ((¬ (a0 < (0 : Int32))) ∧ (¬ ((2 : Int32) < a0))) → (¬ (σ.1 0 50) = (12 : Int32)) → vp_in (σ.1 0 50) 12) (k4 : (¬ ((σ.1 0 23) = 0)) → ((¬ (a0 < (0 : Int32))) ∧ (¬ ((2 : Int32) < a0))) → (¬ (σ.1 0 50) = (12 : Int32)) → Q (some (ax_i ((σ.1 0 50) + (1 : Int32)))) (ax_ui (ax_ui (ax_ui σ 28 (Int32.toNatClampNeg (σ.1 0 50)) a0) 29 (Int32.toNatClampNeg (σ.1 0 50)) (vp_nar .boolean a1)) 0 50 ((σ.1 0 50) + (1 : Int32)))) (k5 : (¬ ((σ.1 0 23) = 0)) → ((¬ (a0 < (0 : Int32))) ∧ (¬ ((2 : Int32) < a0))) → (¬ (¬ (σ.1 0 50) = (12 : Int32))) → Q (some (ax_i (-1 : Int32))) σ) : ax_W shM (d + 1) mX12_test Q 0 [some (ax_r 0), some (ax_i a0), some (ax_i a1)] [] σ := by
  refine ax_aload_n (q := 1) (i := 0) dX12_test_0 rfl rfl rfl ?_
  refine ax_get (q := 4) (k := 0) (j := 23) (v := ax_i (σ.1 0 23)) dX12_test_1 rfl shM_0 rfl rfl rfl (by decide) fl_X12_271 ?_
  refine ax_if_eq (tgt := 25) (q := 7) dX12_test_4 (by decide) rfl (fun c1 => ?_) (fun c1 => ?_)
  · refine ax_iconst (q := 26) dX12_test_25 rfl ki_m1 ?_
    exact ax_iret dX12_test_26 rfl rfl (k1 c1)
  · refine ax_iload_n (q := 8) (i := 1) dX12_test_7 rfl rfl rfl ?_
    refine ax_iconst (q := 9) dX12_test_8 rfl ki_0 ?_
    refine ax_iconst (q := 10) dX12_test_9 rfl ki_2 ?_
    refine ax_callSfi (q := 13) (As := [ax_i a0, ax_i (0 : Int32), ax_i (2 : Int32)]) (st := []) (x := (if ((¬ (a0 < (0 : Int32))) ∧ (¬ ((2 : Int32) < a0))) then (1 : Int32) else 0)) (σ2 := σ) dX12_test_10 rfl lk_X12_223 rfl rfl (Nat.le_of_ble_eq_true rfl) (f_X12_in (sh := shM) σ a0 (0 : Int32) (2 : Int32)  (d := d) (by omega)) ?_
    refine ax_if_eqB (tgt := 25) (q := 16) dX12_test_13 (by decide) rfl (fun c2 => ?_) (fun c2 => ?_)
    · refine ax_iconst (q := 26) dX12_test_25 rfl ki_m1 ?_
      exact ax_iret dX12_test_26 rfl rfl (k2 c1 c2)
    · refine ax_aload_n (q := 17) (i := 0) dX12_test_16 rfl rfl rfl ?_
      refine ax_get (q := 20) (k := 0) (j := 50) (v := ax_i (σ.1 0 50)) dX12_test_17 rfl shM_0 rfl rfl rfl (by decide) fl_X12_286 ?_
      refine ax_bipush (q := 22) dX12_test_20 rfl kb_12 ?_
      refine ax_icmp_ne (tgt := 27) (q := 25) dX12_test_22 (by decide) rfl (fun c3 => ?_) (fun c3 => ?_)
      · refine ax_aload_n (q := 28) (i := 0) dX12_test_27 rfl rfl rfl ?_
        refine ax_get (q := 31) (k := 0) (j := 48) (v := ax_r 28) dX12_test_28 rfl shM_0 rfl rfl rfl (by decide) fl_X12_99 ?_
        refine ax_aload_n (q := 32) (i := 0) dX12_test_31 rfl rfl rfl ?_
        refine ax_get (q := 35) (k := 0) (j := 50) (v := ax_i (σ.1 0 50)) dX12_test_32 rfl shM_0 rfl rfl rfl (by decide) fl_X12_286 ?_
        refine ax_iload_n (q := 36) (i := 1) dX12_test_35 rfl rfl rfl ?_
        refine ax_iast (q := 37) (a := (Int32.toNatClampNeg (σ.1 0 50))) dX12_test_36 rfl shM_28 (h3 c1 c2 c3) rfl ?_
        refine ax_aload_n (q := 38) (i := 0) dX12_test_37 rfl rfl rfl ?_
        refine ax_get (q := 41) (k := 0) (j := 49) (v := ax_r 29) dX12_test_38 rfl shM_0 rfl rfl rfl (by decide) fl_X12_102 ?_
        refine ax_aload_n (q := 42) (i := 0) dX12_test_41 rfl rfl rfl ?_
        refine ax_get (q := 45) (k := 0) (j := 50) (v := ax_i (σ.1 0 50)) dX12_test_42 rfl shM_0 rfl rfl rfl (by decide) fl_X12_286 ?_
        refine ax_iload_n (q := 46) (i := 2) dX12_test_45 rfl rfl rfl ?_
        refine ax_zast (q := 47) (a := (Int32.toNatClampNeg (σ.1 0 50))) dX12_test_46 rfl shM_29 (h3 c1 c2 c3) rfl ?_
        refine ax_aload_n (q := 48) (i := 0) dX12_test_47 rfl rfl rfl ?_
        refine ax_dupr (q := 49) dX12_test_48 rfl ?_
        refine ax_get (q := 52) (k := 0) (j := 50) (v := ax_i (σ.1 0 50)) dX12_test_49 rfl shM_0 rfl rfl rfl (by decide) fl_X12_286 ?_
        refine ax_iconst (q := 53) dX12_test_52 rfl ki_1 ?_
        refine ax_iadd (q := 54) dX12_test_53 rfl ?_
        refine ax_puti (q := 57) (k := 0) (j := 50) dX12_test_54 rfl shM_0 rfl rfl (by decide) fl_X12_286 rfl rfl rfl rfl ?_
        refine ax_aload_n (q := 58) (i := 0) dX12_test_57 rfl rfl rfl ?_
        refine ax_get (q := 61) (k := 0) (j := 50) (v := ax_i ((σ.1 0 50) + (1 : Int32))) dX12_test_58 rfl shM_0 rfl rfl rfl (by decide) fl_X12_286 ?_
        exact ax_iret dX12_test_61 rfl rfl (k4 c1 c2 c3)
      · refine ax_iconst (q := 26) dX12_test_25 rfl ki_m1 ?_
        exact ax_iret dX12_test_26 rfl rfl (k5 c1 c2 c3)
set_option maxRecDepth 20000 in
theorem s_X12_stroke_0 {d : Nat} (hd : 0 ≤ d) {Q : Option ax_V → ax_S → Prop} (σ : ax_S)  (k1 : (¬ (σ.1 0 23) = 0) → ax_W shM (d + 1) mX12_stroke Q 16 [some (ax_r 0), some (ax_l (1 : Int64)), none, some (ax_l (1 : Int64)), none, some (ax_i (0 : Int32)), none, none] [] σ) (k2 : (¬ (¬ (σ.1 0 23) = 0)) → Q (some (ax_i (-1 : Int32))) σ) : ax_W shM (d + 1) mX12_stroke Q 0 [some (ax_r 0), none, none, none, none, none, none, none] [] σ := by
  refine ax_aload_n (q := 1) (i := 0) dX12_stroke_0 rfl rfl rfl ?_
  refine ax_get (q := 4) (k := 0) (j := 23) (v := ax_i (σ.1 0 23)) dX12_stroke_1 rfl shM_0 rfl rfl rfl (by decide) fl_X12_271 ?_
  refine ax_if_ne (tgt := 9) (q := 7) dX12_stroke_4 (by decide) rfl (fun c1 => ?_) (fun c1 => ?_)
  · refine ax_lconst (q := 10) (v := 1) dX12_stroke_9 rfl rfl ?_
    refine ax_lstore_n (q := 11) (i := 1) (lv2 := [some (ax_r 0), some (ax_l (1 : Int64)), none, none, none, none, none, none]) dX12_stroke_10 rfl rfl (by decide) rfl rfl ?_
    refine ax_lconst (q := 12) (v := 1) dX12_stroke_11 rfl rfl ?_
    refine ax_lstore_n (q := 13) (i := 3) (lv2 := [some (ax_r 0), some (ax_l (1 : Int64)), none, some (ax_l (1 : Int64)), none, none, none, none]) dX12_stroke_12 rfl rfl (by decide) rfl rfl ?_
    refine ax_iconst (q := 14) dX12_stroke_13 rfl ki_0 ?_
    refine ax_istore (q := 16) (lv2 := [some (ax_r 0), some (ax_l (1 : Int64)), none, some (ax_l (1 : Int64)), none, some (ax_i (0 : Int32)), none, none]) dX12_stroke_14 rfl (by decide) rfl rfl ?_
    exact (k1 c1)
  · refine ax_iconst (q := 8) dX12_stroke_7 rfl ki_m1 ?_
    exact ax_iret dX12_stroke_8 rfl rfl (k2 c1)
set_option maxRecDepth 20000 in
theorem s_X12_stroke_16 {d : Nat} (hd : 0 ≤ d) {Q : Option ax_V → ax_S → Prop} (σ : ax_S) (x1 : Int64) (x3 : Int64) (x5 : Int32) (h1 : ((σ.1 0 50) ≤ x5) → ¬ (x1 + x3) = 0) (k2 : ((σ.1 0 50) ≤ x5) → Q (some (ax_i (Int64.toInt32 (((1000000 : Int64) * x1) / (x1 + x3))))) σ) (h3 : (¬ ((σ.1 0 50) ≤ x5)) → vp_in x5 12) (h4 : (¬ ((σ.1 0 50) ≤ x5)) → (¬ (σ.1 28 (Int32.toNatClampNeg x5)) = 0) → vp_in x5 12) (k5 : (¬ ((σ.1 0 50) ≤ x5)) → ax_W shM (d + 1) mX12_stroke Q 16 [some (ax_r 0), some (ax_l (x1 * (if ((σ.1 29 (Int32.toNatClampNeg x5)) = 0) then (Int32.toInt64 ((10 : Int32) - ((8 : Int32) - (σ.1 28 (Int32.toNatClampNeg x5))))) else (Int32.toInt64 ((8 : Int32) - (σ.1 28 (Int32.toNatClampNeg x5))))))), none, some (ax_l (x3 * (if ((σ.1 29 (Int32.toNatClampNeg x5)) = 0) then (Int32.toInt64 ((10 : Int32) - (if (¬ (σ.1 28 (Int32.toNatClampNeg x5)) = 0) then (if (¬ (σ.1 28 (Int32.toNatClampNeg x5)) = (1 : Int32)) then (5 : Int32) else (1 : Int32)) else (3 : Int32)))) else (Int32.toInt64 (if (¬ (σ.1 28 (Int32.toNatClampNeg x5)) = 0) then (if (¬ (σ.1 28 (Int32.toNatClampNeg x5)) = (1 : Int32)) then (5 : Int32) else (1 : Int32)) else (3 : Int32)))))), none, some (ax_i (x5 + (1 : Int32))), none, none] [] σ) : ax_W shM (d + 1) mX12_stroke Q 16 [some (ax_r 0), some (ax_l x1), none, some (ax_l x3), none, some (ax_i x5), none, none] [] σ := by
  refine ax_iload (q := 18) dX12_stroke_16 rfl rfl ?_
  refine ax_aload_n (q := 19) (i := 0) dX12_stroke_18 rfl rfl rfl ?_
  refine ax_get (q := 22) (k := 0) (j := 50) (v := ax_i (σ.1 0 50)) dX12_stroke_19 rfl shM_0 rfl rfl rfl (by decide) fl_X12_286 ?_
  refine ax_icmp_ge (tgt := 125) (q := 25) dX12_stroke_22 (by decide) rfl (fun c1 => ?_) (fun c1 => ?_)
  · refine ax_ldc2 (q := 128) dX12_stroke_125 rfl kc_X12_200 ?_
    refine ax_lload_n (q := 129) (i := 1) dX12_stroke_128 rfl rfl rfl ?_
    refine ax_lmul (q := 130) dX12_stroke_129 rfl ?_
    refine ax_lload_n (q := 131) (i := 1) dX12_stroke_130 rfl rfl rfl ?_
    refine ax_lload_n (q := 132) (i := 3) dX12_stroke_131 rfl rfl rfl ?_
    refine ax_ladd (q := 133) dX12_stroke_132 rfl ?_
    refine ax_ldiv (q := 134) dX12_stroke_133 rfl (h1 c1) ?_
    refine ax_l2i (q := 135) dX12_stroke_134 rfl ?_
    exact ax_iret dX12_stroke_135 rfl rfl (k2 c1)
  · refine ax_bipush (q := 27) dX12_stroke_25 rfl kb_8 ?_
    refine ax_aload_n (q := 28) (i := 0) dX12_stroke_27 rfl rfl rfl ?_
    refine ax_get (q := 31) (k := 0) (j := 48) (v := ax_r 28) dX12_stroke_28 rfl shM_0 rfl rfl rfl (by decide) fl_X12_99 ?_
    refine ax_iload (q := 33) dX12_stroke_31 rfl rfl ?_
    refine ax_iald (q := 34) (a := (Int32.toNatClampNeg x5)) (v := (σ.1 28 (Int32.toNatClampNeg x5))) dX12_stroke_33 rfl shM_28 (h3 c1) rfl rfl ?_
    refine ax_isub (q := 35) dX12_stroke_34 rfl ?_
    refine ax_istore (q := 37) (lv2 := [some (ax_r 0), some (ax_l x1), none, some (ax_l x3), none, some (ax_i x5), some (ax_i ((8 : Int32) - (σ.1 28 (Int32.toNatClampNeg x5)))), none]) dX12_stroke_35 rfl (by decide) rfl rfl ?_
    refine ax_aload_n (q := 38) (i := 0) dX12_stroke_37 rfl rfl rfl ?_
    refine ax_get (q := 41) (k := 0) (j := 48) (v := ax_r 28) dX12_stroke_38 rfl shM_0 rfl rfl rfl (by decide) fl_X12_99 ?_
    refine ax_iload (q := 43) dX12_stroke_41 rfl rfl ?_
    refine ax_iald (q := 44) (a := (Int32.toNatClampNeg x5)) (v := (σ.1 28 (Int32.toNatClampNeg x5))) dX12_stroke_43 rfl shM_28 (h3 c1) rfl rfl ?_
    have K4 : ax_W shM (d + 1) mX12_stroke Q 67 [some (ax_r 0), some (ax_l x1), none, some (ax_l x3), none, some (ax_i x5), some (ax_i ((8 : Int32) - (σ.1 28 (Int32.toNatClampNeg x5)))), none] [ax_i (if (¬ (σ.1 28 (Int32.toNatClampNeg x5)) = 0) then (if (¬ (σ.1 28 (Int32.toNatClampNeg x5)) = (1 : Int32)) then (5 : Int32) else (1 : Int32)) else (3 : Int32))] σ := by
      refine ax_istore (q := 69) (lv2 := [some (ax_r 0), some (ax_l x1), none, some (ax_l x3), none, some (ax_i x5), some (ax_i ((8 : Int32) - (σ.1 28 (Int32.toNatClampNeg x5)))), some (ax_i (if (¬ (σ.1 28 (Int32.toNatClampNeg x5)) = 0) then (if (¬ (σ.1 28 (Int32.toNatClampNeg x5)) = (1 : Int32)) then (5 : Int32) else (1 : Int32)) else (3 : Int32)))]) dX12_stroke_67 rfl (by decide) rfl rfl ?_
      refine ax_lload_n (q := 70) (i := 1) dX12_stroke_69 rfl rfl rfl ?_
      refine ax_aload_n (q := 71) (i := 0) dX12_stroke_70 rfl rfl rfl ?_
      refine ax_get (q := 74) (k := 0) (j := 49) (v := ax_r 29) dX12_stroke_71 rfl shM_0 rfl rfl rfl (by decide) fl_X12_102 ?_
      refine ax_iload (q := 76) dX12_stroke_74 rfl rfl ?_
      refine ax_zald (q := 77) (a := (Int32.toNatClampNeg x5)) (v := (σ.1 29 (Int32.toNatClampNeg x5))) dX12_stroke_76 rfl shM_29 (h3 c1) rfl rfl ?_
      have K6 : ax_W shM (d + 1) mX12_stroke Q 92 [some (ax_r 0), some (ax_l x1), none, some (ax_l x3), none, some (ax_i x5), some (ax_i ((8 : Int32) - (σ.1 28 (Int32.toNatClampNeg x5)))), some (ax_i (if (¬ (σ.1 28 (Int32.toNatClampNeg x5)) = 0) then (if (¬ (σ.1 28 (Int32.toNatClampNeg x5)) = (1 : Int32)) then (5 : Int32) else (1 : Int32)) else (3 : Int32)))] [ax_l (if ((σ.1 29 (Int32.toNatClampNeg x5)) = 0) then (Int32.toInt64 ((10 : Int32) - ((8 : Int32) - (σ.1 28 (Int32.toNatClampNeg x5))))) else (Int32.toInt64 ((8 : Int32) - (σ.1 28 (Int32.toNatClampNeg x5))))), ax_l x1] σ := by
        refine ax_lmul (q := 93) dX12_stroke_92 rfl ?_
        refine ax_lstore_n (q := 94) (i := 1) (lv2 := [some (ax_r 0), some (ax_l (x1 * (if ((σ.1 29 (Int32.toNatClampNeg x5)) = 0) then (Int32.toInt64 ((10 : Int32) - ((8 : Int32) - (σ.1 28 (Int32.toNatClampNeg x5))))) else (Int32.toInt64 ((8 : Int32) - (σ.1 28 (Int32.toNatClampNeg x5))))))), none, some (ax_l x3), none, some (ax_i x5), some (ax_i ((8 : Int32) - (σ.1 28 (Int32.toNatClampNeg x5)))), some (ax_i (if (¬ (σ.1 28 (Int32.toNatClampNeg x5)) = 0) then (if (¬ (σ.1 28 (Int32.toNatClampNeg x5)) = (1 : Int32)) then (5 : Int32) else (1 : Int32)) else (3 : Int32)))]) dX12_stroke_93 rfl rfl (by decide) rfl rfl ?_
        refine ax_lload_n (q := 95) (i := 3) dX12_stroke_94 rfl rfl rfl ?_
        refine ax_aload_n (q := 96) (i := 0) dX12_stroke_95 rfl rfl rfl ?_
        refine ax_get (q := 99) (k := 0) (j := 49) (v := ax_r 29) dX12_stroke_96 rfl shM_0 rfl rfl rfl (by decide) fl_X12_102 ?_
        refine ax_iload (q := 101) dX12_stroke_99 rfl rfl ?_
        refine ax_zald (q := 102) (a := (Int32.toNatClampNeg x5)) (v := (σ.1 29 (Int32.toNatClampNeg x5))) dX12_stroke_101 rfl shM_29 (h3 c1) rfl rfl ?_
        have K8 : ax_W shM (d + 1) mX12_stroke Q 117 [some (ax_r 0), some (ax_l (x1 * (if ((σ.1 29 (Int32.toNatClampNeg x5)) = 0) then (Int32.toInt64 ((10 : Int32) - ((8 : Int32) - (σ.1 28 (Int32.toNatClampNeg x5))))) else (Int32.toInt64 ((8 : Int32) - (σ.1 28 (Int32.toNatClampNeg x5))))))), none, some (ax_l x3), none, some (ax_i x5), some (ax_i ((8 : Int32) - (σ.1 28 (Int32.toNatClampNeg x5)))), some (ax_i (if (¬ (σ.1 28 (Int32.toNatClampNeg x5)) = 0) then (if (¬ (σ.1 28 (Int32.toNatClampNeg x5)) = (1 : Int32)) then (5 : Int32) else (1 : Int32)) else (3 : Int32)))] [ax_l (if ((σ.1 29 (Int32.toNatClampNeg x5)) = 0) then (Int32.toInt64 ((10 : Int32) - (if (¬ (σ.1 28 (Int32.toNatClampNeg x5)) = 0) then (if (¬ (σ.1 28 (Int32.toNatClampNeg x5)) = (1 : Int32)) then (5 : Int32) else (1 : Int32)) else (3 : Int32)))) else (Int32.toInt64 (if (¬ (σ.1 28 (Int32.toNatClampNeg x5)) = 0) then (if (¬ (σ.1 28 (Int32.toNatClampNeg x5)) = (1 : Int32)) then (5 : Int32) else (1 : Int32)) else (3 : Int32)))), ax_l x3] σ := by
          refine ax_lmul (q := 118) dX12_stroke_117 rfl ?_
          refine ax_lstore_n (q := 119) (i := 3) (lv2 := [some (ax_r 0), some (ax_l (x1 * (if ((σ.1 29 (Int32.toNatClampNeg x5)) = 0) then (Int32.toInt64 ((10 : Int32) - ((8 : Int32) - (σ.1 28 (Int32.toNatClampNeg x5))))) else (Int32.toInt64 ((8 : Int32) - (σ.1 28 (Int32.toNatClampNeg x5))))))), none, some (ax_l (x3 * (if ((σ.1 29 (Int32.toNatClampNeg x5)) = 0) then (Int32.toInt64 ((10 : Int32) - (if (¬ (σ.1 28 (Int32.toNatClampNeg x5)) = 0) then (if (¬ (σ.1 28 (Int32.toNatClampNeg x5)) = (1 : Int32)) then (5 : Int32) else (1 : Int32)) else (3 : Int32)))) else (Int32.toInt64 (if (¬ (σ.1 28 (Int32.toNatClampNeg x5)) = 0) then (if (¬ (σ.1 28 (Int32.toNatClampNeg x5)) = (1 : Int32)) then (5 : Int32) else (1 : Int32)) else (3 : Int32)))))), none, some (ax_i x5), some (ax_i ((8 : Int32) - (σ.1 28 (Int32.toNatClampNeg x5)))), some (ax_i (if (¬ (σ.1 28 (Int32.toNatClampNeg x5)) = 0) then (if (¬ (σ.1 28 (Int32.toNatClampNeg x5)) = (1 : Int32)) then (5 : Int32) else (1 : Int32)) else (3 : Int32)))]) dX12_stroke_118 rfl rfl (by decide) rfl rfl ?_
          refine ax_iincK (q := 122) (lv2 := [some (ax_r 0), some (ax_l (x1 * (if ((σ.1 29 (Int32.toNatClampNeg x5)) = 0) then (Int32.toInt64 ((10 : Int32) - ((8 : Int32) - (σ.1 28 (Int32.toNatClampNeg x5))))) else (Int32.toInt64 ((8 : Int32) - (σ.1 28 (Int32.toNatClampNeg x5))))))), none, some (ax_l (x3 * (if ((σ.1 29 (Int32.toNatClampNeg x5)) = 0) then (Int32.toInt64 ((10 : Int32) - (if (¬ (σ.1 28 (Int32.toNatClampNeg x5)) = 0) then (if (¬ (σ.1 28 (Int32.toNatClampNeg x5)) = (1 : Int32)) then (5 : Int32) else (1 : Int32)) else (3 : Int32)))) else (Int32.toInt64 (if (¬ (σ.1 28 (Int32.toNatClampNeg x5)) = 0) then (if (¬ (σ.1 28 (Int32.toNatClampNeg x5)) = (1 : Int32)) then (5 : Int32) else (1 : Int32)) else (3 : Int32)))))), none, some (ax_i (x5 + (1 : Int32))), some (ax_i ((8 : Int32) - (σ.1 28 (Int32.toNatClampNeg x5)))), some (ax_i (if (¬ (σ.1 28 (Int32.toNatClampNeg x5)) = 0) then (if (¬ (σ.1 28 (Int32.toNatClampNeg x5)) = (1 : Int32)) then (5 : Int32) else (1 : Int32)) else (3 : Int32)))]) dX12_stroke_119 rfl rfl ki_1 (by decide) rfl rfl ?_
          refine ax_goto (tgt := 16) dX12_stroke_122 (by decide) ?_
          refine ax_fg (lv2 := [some (ax_r 0), some (ax_l (x1 * (if ((σ.1 29 (Int32.toNatClampNeg x5)) = 0) then (Int32.toInt64 ((10 : Int32) - ((8 : Int32) - (σ.1 28 (Int32.toNatClampNeg x5))))) else (Int32.toInt64 ((8 : Int32) - (σ.1 28 (Int32.toNatClampNeg x5))))))), none, some (ax_l (x3 * (if ((σ.1 29 (Int32.toNatClampNeg x5)) = 0) then (Int32.toInt64 ((10 : Int32) - (if (¬ (σ.1 28 (Int32.toNatClampNeg x5)) = 0) then (if (¬ (σ.1 28 (Int32.toNatClampNeg x5)) = (1 : Int32)) then (5 : Int32) else (1 : Int32)) else (3 : Int32)))) else (Int32.toInt64 (if (¬ (σ.1 28 (Int32.toNatClampNeg x5)) = 0) then (if (¬ (σ.1 28 (Int32.toNatClampNeg x5)) = (1 : Int32)) then (5 : Int32) else (1 : Int32)) else (3 : Int32)))))), none, some (ax_i (x5 + (1 : Int32))), none, none]) ⟨rfl, rfl, rfl, rfl, trivial⟩ ?_
          exact (k5 c1)
        refine ax_if_eq (tgt := 111) (q := 105) dX12_stroke_102 (by decide) rfl (fun c7 => ?_) (fun c7 => ?_)
        · refine ax_bipush (q := 113) dX12_stroke_111 rfl kb_10 ?_
          refine ax_iload (q := 115) dX12_stroke_113 rfl rfl ?_
          refine ax_isub (q := 116) dX12_stroke_115 rfl ?_
          refine ax_i2l (q := 117) dX12_stroke_116 rfl ?_
          exact ax_cvl (if_pos c7) K8
        · refine ax_iload (q := 107) dX12_stroke_105 rfl rfl ?_
          refine ax_i2l (q := 108) dX12_stroke_107 rfl ?_
          refine ax_goto (tgt := 117) dX12_stroke_108 (by decide) ?_
          exact ax_cvl (if_neg c7) K8
      refine ax_if_eq (tgt := 86) (q := 80) dX12_stroke_77 (by decide) rfl (fun c5 => ?_) (fun c5 => ?_)
      · refine ax_bipush (q := 88) dX12_stroke_86 rfl kb_10 ?_
        refine ax_iload (q := 90) dX12_stroke_88 rfl rfl ?_
        refine ax_isub (q := 91) dX12_stroke_90 rfl ?_
        refine ax_i2l (q := 92) dX12_stroke_91 rfl ?_
        exact ax_cvl (if_pos c5) K6
      · refine ax_iload (q := 82) dX12_stroke_80 rfl rfl ?_
        refine ax_i2l (q := 83) dX12_stroke_82 rfl ?_
        refine ax_goto (tgt := 92) dX12_stroke_83 (by decide) ?_
        exact ax_cvl (if_neg c5) K6
    refine ax_if_ne (tgt := 51) (q := 47) dX12_stroke_44 (by decide) rfl (fun c2 => ?_) (fun c2 => ?_)
    · refine ax_aload_n (q := 52) (i := 0) dX12_stroke_51 rfl rfl rfl ?_
      refine ax_get (q := 55) (k := 0) (j := 48) (v := ax_r 28) dX12_stroke_52 rfl shM_0 rfl rfl rfl (by decide) fl_X12_99 ?_
      refine ax_iload (q := 57) dX12_stroke_55 rfl rfl ?_
      refine ax_iald (q := 58) (a := (Int32.toNatClampNeg x5)) (v := (σ.1 28 (Int32.toNatClampNeg x5))) dX12_stroke_57 rfl shM_28 (h4 c1 c2) rfl rfl ?_
      refine ax_iconst (q := 59) dX12_stroke_58 rfl ki_1 ?_
      refine ax_icmp_ne (tgt := 66) (q := 62) dX12_stroke_59 (by decide) rfl (fun c3 => ?_) (fun c3 => ?_)
      · refine ax_iconst (q := 67) dX12_stroke_66 rfl ki_5 ?_
        exact ax_cv ((if_pos c2).trans (if_pos c3)) K4
      · refine ax_iconst (q := 63) dX12_stroke_62 rfl ki_1 ?_
        refine ax_goto (tgt := 67) dX12_stroke_63 (by decide) ?_
        exact ax_cv ((if_pos c2).trans (if_neg c3)) K4
    · refine ax_iconst (q := 48) dX12_stroke_47 rfl ki_3 ?_
      refine ax_goto (tgt := 67) dX12_stroke_48 (by decide) ?_
      exact ax_cv (if_neg c2) K4
set_option maxRecDepth 20000 in
theorem f_X12_far (σ : ax_S) (a0 : Int32) (a1 : Int32) (h1 : ((¬ (a0 < (0 : Int32))) ∧ (¬ (((σ.1 0 23) - (1 : Int32)) < a0))) → ((¬ (a1 < (0 : Int32))) ∧ (¬ (((σ.1 0 23) - (1 : Int32)) < a1))) → vp_in (((4 : Int32) * a0) + (0 : Int32)) 32) (h2 : ((¬ (a0 < (0 : Int32))) ∧ (¬ (((σ.1 0 23) - (1 : Int32)) < a0))) → ((¬ (a1 < (0 : Int32))) ∧ (¬ (((σ.1 0 23) - (1 : Int32)) < a1))) → vp_in (((4 : Int32) * a1) + (0 : Int32)) 32) {d : Nat} (hd : 3 ≤ d) : ax_Ct shM d mX12_far [ax_r 0, ax_i a0, ax_i a1] (fun r u => r = some (ax_i (if (¬ ((¬ (a0 < (0 : Int32))) ∧ (¬ (((σ.1 0 23) - (1 : Int32)) < a0)))) then (-1 : Int32) else (if (¬ ((¬ (a1 < (0 : Int32))) ∧ (¬ (((σ.1 0 23) - (1 : Int32)) < a1)))) then (-1 : Int32) else (if (0 : Int32) ≤ ((σ.1 14 (Int32.toNatClampNeg (((4 : Int32) * a0) + (0 : Int32)))) - (σ.1 14 (Int32.toNatClampNeg (((4 : Int32) * a1) + (0 : Int32))))) then ((σ.1 14 (Int32.toNatClampNeg (((4 : Int32) * a0) + (0 : Int32)))) - (σ.1 14 (Int32.toNatClampNeg (((4 : Int32) * a1) + (0 : Int32))))) else 0 - ((σ.1 14 (Int32.toNatClampNeg (((4 : Int32) * a0) + (0 : Int32)))) - (σ.1 14 (Int32.toNatClampNeg (((4 : Int32) * a1) + (0 : Int32))))))))) ∧ u = σ) σ := by
  obtain ⟨d, rfl⟩ : ∃ e, d = e + 1 := ⟨d - 1, by omega⟩
  refine ax_Ct.of (lv := [some (ax_r 0), some (ax_i a0), some (ax_i a1)]) (by decide +kernel) (fun ad => Nat.le_of_ble_eq_true rfl) (fun ad => rfl) ?_
  refine ax_aload_n (q := 1) (i := 0) dX12_far_0 rfl rfl rfl ?_
  refine ax_iload_n (q := 2) (i := 1) dX12_far_1 rfl rfl rfl ?_
  refine ax_callVfi (q := 5) (As := [ax_i a0]) (st := []) (x := (if ((¬ (a0 < (0 : Int32))) ∧ (¬ (((σ.1 0 23) - (1 : Int32)) < a0))) then (1 : Int32) else 0)) (σ2 := σ) dX12_far_2 rfl lk_X12_342 shM_0 rfl rfl rfl rfl (Nat.le_of_ble_eq_true rfl) (f_X12_isHouse σ a0  (d := d) (by omega)) ?_
  have K3 : ax_W shM (d + 1) mX12_far (fun r u => r = some (ax_i (if (¬ ((¬ (a0 < (0 : Int32))) ∧ (¬ (((σ.1 0 23) - (1 : Int32)) < a0)))) then (-1 : Int32) else (if (¬ ((¬ (a1 < (0 : Int32))) ∧ (¬ (((σ.1 0 23) - (1 : Int32)) < a1)))) then (-1 : Int32) else (if (0 : Int32) ≤ ((σ.1 14 (Int32.toNatClampNeg (((4 : Int32) * a0) + (0 : Int32)))) - (σ.1 14 (Int32.toNatClampNeg (((4 : Int32) * a1) + (0 : Int32))))) then ((σ.1 14 (Int32.toNatClampNeg (((4 : Int32) * a0) + (0 : Int32)))) - (σ.1 14 (Int32.toNatClampNeg (((4 : Int32) * a1) + (0 : Int32))))) else 0 - ((σ.1 14 (Int32.toNatClampNeg (((4 : Int32) * a0) + (0 : Int32)))) - (σ.1 14 (Int32.toNatClampNeg (((4 : Int32) * a1) + (0 : Int32))))))))) ∧ u = σ) 26 [some (ax_r 0), some (ax_i a0), some (ax_i a1)] [ax_i (if (¬ ((¬ (a0 < (0 : Int32))) ∧ (¬ (((σ.1 0 23) - (1 : Int32)) < a0)))) then (-1 : Int32) else (if (¬ ((¬ (a1 < (0 : Int32))) ∧ (¬ (((σ.1 0 23) - (1 : Int32)) < a1)))) then (-1 : Int32) else (if (0 : Int32) ≤ ((σ.1 14 (Int32.toNatClampNeg (((4 : Int32) * a0) + (0 : Int32)))) - (σ.1 14 (Int32.toNatClampNeg (((4 : Int32) * a1) + (0 : Int32))))) then ((σ.1 14 (Int32.toNatClampNeg (((4 : Int32) * a0) + (0 : Int32)))) - (σ.1 14 (Int32.toNatClampNeg (((4 : Int32) * a1) + (0 : Int32))))) else 0 - ((σ.1 14 (Int32.toNatClampNeg (((4 : Int32) * a0) + (0 : Int32)))) - (σ.1 14 (Int32.toNatClampNeg (((4 : Int32) * a1) + (0 : Int32))))))))] σ := by
    exact ax_iret dX12_far_26 rfl rfl ⟨rfl, rfl⟩
  refine ax_if_eqB (tgt := 25) (q := 8) dX12_far_5 (by decide) rfl (fun c1 => ?_) (fun c1 => ?_)
  · refine ax_iconst (q := 26) dX12_far_25 rfl ki_m1 ?_
    exact ax_cv (if_pos c1) K3
  · refine ax_aload_n (q := 9) (i := 0) dX12_far_8 rfl rfl rfl ?_
    refine ax_iload_n (q := 10) (i := 2) dX12_far_9 rfl rfl rfl ?_
    refine ax_callVfi (q := 13) (As := [ax_i a1]) (st := []) (x := (if ((¬ (a1 < (0 : Int32))) ∧ (¬ (((σ.1 0 23) - (1 : Int32)) < a1))) then (1 : Int32) else 0)) (σ2 := σ) dX12_far_10 rfl lk_X12_342 shM_0 rfl rfl rfl rfl (Nat.le_of_ble_eq_true rfl) (f_X12_isHouse σ a1  (d := d) (by omega)) ?_
    refine ax_if_eqB (tgt := 25) (q := 16) dX12_far_13 (by decide) rfl (fun c2 => ?_) (fun c2 => ?_)
    · refine ax_iconst (q := 26) dX12_far_25 rfl ki_m1 ?_
      exact ax_cv ((if_neg (fun y => y c1)).trans (if_pos c2)) K3
    · refine ax_aload_n (q := 17) (i := 0) dX12_far_16 rfl rfl rfl ?_
      refine ax_iload_n (q := 18) (i := 1) dX12_far_17 rfl rfl rfl ?_
      refine ax_iload_n (q := 19) (i := 2) dX12_far_18 rfl rfl rfl ?_
      refine ax_callVfi (q := 22) (As := [ax_i a0, ax_i a1]) (st := []) (x := (if (0 : Int32) ≤ ((σ.1 14 (Int32.toNatClampNeg (((4 : Int32) * a0) + (0 : Int32)))) - (σ.1 14 (Int32.toNatClampNeg (((4 : Int32) * a1) + (0 : Int32))))) then ((σ.1 14 (Int32.toNatClampNeg (((4 : Int32) * a0) + (0 : Int32)))) - (σ.1 14 (Int32.toNatClampNeg (((4 : Int32) * a1) + (0 : Int32))))) else 0 - ((σ.1 14 (Int32.toNatClampNeg (((4 : Int32) * a0) + (0 : Int32)))) - (σ.1 14 (Int32.toNatClampNeg (((4 : Int32) * a1) + (0 : Int32))))))) (σ2 := σ) dX12_far_19 rfl lk_X12_363 shM_0 rfl rfl rfl rfl (Nat.le_of_ble_eq_true rfl) (f_X12_farOf σ a0 a1 (h1 c1 c2) (h2 c1 c2) (d := d) (by omega)) ?_
      refine ax_goto (tgt := 26) dX12_far_22 (by decide) ?_
      exact ax_cv ((if_neg (fun y => y c1)).trans (if_neg (fun y => y c2))) K3
