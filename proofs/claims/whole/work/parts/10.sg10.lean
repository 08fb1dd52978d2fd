set_option maxRecDepth 20000 in
theorem s_X12_worked_0 {d : Nat} (hd : 1 ≤ d) {Q : Option ax_V → ax_S → Prop} (σ : ax_S) (a0 : Int32) (a1 : Int64) (a2 : Int64) (k1 : (a0 = (2 : Int32)) → Q (some (ax_i (v_X12_bounded (a1 + a2)))) σ) (k2 : (¬ (a0 = (2 : Int32))) → (a0 = (3 : Int32)) → Q (some (ax_i (v_X12_bounded (a1 - a2)))) σ) (k3 : (¬ (a0 = (2 : Int32))) → (¬ (a0 = (3 : Int32))) → (a0 = (4 : Int32)) → Q (some (ax_i (v_X12_bounded (a1 * a2)))) σ) (h4 : (¬ (a0 = (2 : Int32))) → (¬ (a0 = (3 : Int32))) → (¬ (a0 = (4 : Int32))) → (a0 = (5 : Int32)) → (¬ (lg_cmp a2 (0 : Int64)) = 0) → ¬ a2 = 0) (k5 : (¬ (a0 = (2 : Int32))) → (¬ (a0 = (3 : Int32))) → (¬ (a0 = (4 : Int32))) → (a0 = (5 : Int32)) → Q (some (ax_i (if (¬ (lg_cmp a2 (0 : Int64)) = 0) then (v_X12_bounded (a1 / a2)) else (0 : Int32)))) σ) (k6 : (¬ (a0 = (2 : Int32))) → (¬ (a0 = (3 : Int32))) → (¬ (a0 = (4 : Int32))) → (¬ (a0 = (5 : Int32))) → (a0 = (6 : Int32)) → Q (some (ax_i (if (¬ (¬ (lg_cmp a1 a2) = 0)) then (1 : Int32) else 0))) σ) (k7 : (¬ (a0 = (2 : Int32))) → (¬ (a0 = (3 : Int32))) → (¬ (a0 = (4 : Int32))) → (¬ (a0 = (5 : Int32))) → (¬ (a0 = (6 : Int32))) → (a0 = (7 : Int32)) → Q (some (ax_i (if (¬ (0 ≤ (lg_cmp a1 a2))) then (1 : Int32) else 0))) σ) (k8 : (¬ (a0 = (2 : Int32))) → (¬ (a0 = (3 : Int32))) → (¬ (a0 = (4 : Int32))) → (¬ (a0 = (5 : Int32))) → (¬ (a0 = (6 : Int32))) → (¬ (a0 = (7 : Int32))) → (a0 = (8 : Int32)) → Q (some (ax_i (if (¬ ((lg_cmp a1 a2) ≤ 0)) then (1 : Int32) else 0))) σ) (k9 : (¬ (a0 = (2 : Int32))) → (¬ (a0 = (3 : Int32))) → (¬ (a0 = (4 : Int32))) → (¬ (a0 = (5 : Int32))) → (¬ (a0 = (6 : Int32))) → (¬ (a0 = (7 : Int32))) → (¬ (a0 = (8 : Int32))) → (a0 = (9 : Int32)) → Q (some (ax_i (if ((¬ (lg_cmp a1 (0 : Int64)) = 0) ∨ (¬ ((lg_cmp a2 (0 : Int64)) = 0))) then (1 : Int32) else 0))) σ) (k10 : (¬ (a0 = (2 : Int32))) → (¬ (a0 = (3 : Int32))) → (¬ (a0 = (4 : Int32))) → (¬ (a0 = (5 : Int32))) → (¬ (a0 = (6 : Int32))) → (¬ (a0 = (7 : Int32))) → (¬ (a0 = (8 : Int32))) → (¬ (a0 = (9 : Int32))) → (a0 = (10 : Int32)) → Q (some (ax_i (if ((¬ ((lg_cmp a1 (0 : Int64)) = 0)) ∧ (¬ ((lg_cmp a2 (0 : Int64)) = 0))) then (1 : Int32) else 0))) σ) (k11 : (¬ (a0 = (2 : Int32))) → (¬ (a0 = (3 : Int32))) → (¬ (a0 = (4 : Int32))) → (¬ (a0 = (5 : Int32))) → (¬ (a0 = (6 : Int32))) → (¬ (a0 = (7 : Int32))) → (¬ (a0 = (8 : Int32))) → (¬ (a0 = (9 : Int32))) → (¬ (a0 = (10 : Int32))) → Q (some (ax_i (if ((¬ (lg_cmp a1 (0 : Int64)) = 0) ∨ (¬ ((lg_cmp a2 (0 : Int64)) = 0))) then (1 : Int32) else 0))) σ) : ax_W shM (d + 1) mX12_worked Q 0 [some (ax_i a0), some (ax_l a1), none, some (ax_l a2), none] [] σ := by
  refine ax_iload_n (q := 1) (i := 0) dX12_worked_0 rfl rfl rfl ?_
  by_cases c1 : (a0 = (2 : Int32))
  · refine ax_tableIn (tgt := 52) (off := 51) dX12_worked_1 (by rw [c1]; decide) (by rw [c1]; decide) (by rw [c1]; decide) (by decide) ?_
    refine ax_lload_n (q := 53) (i := 1) dX12_worked_52 rfl rfl rfl ?_
    refine ax_lload_n (q := 54) (i := 3) dX12_worked_53 rfl rfl rfl ?_
    refine ax_ladd (q := 55) dX12_worked_54 rfl ?_
    refine ax_callSfi (q := 58) (As := [ax_l (a1 + a2)]) (st := []) (x := (v_X12_bounded (a1 + a2))) (σ2 := σ) dX12_worked_55 rfl lk_X12_211 rfl rfl (Nat.le_of_ble_eq_true rfl) (f_X12_bounded (sh := shM) σ (a1 + a2)  (d := d) (by omega)) ?_
    exact ax_iret dX12_worked_58 rfl rfl (k1 c1)
  by_cases c2 : (a0 = (3 : Int32))
  · refine ax_tableIn (tgt := 59) (off := 58) dX12_worked_1 (by rw [c2]; decide) (by rw [c2]; decide) (by rw [c2]; decide) (by decide) ?_
    refine ax_lload_n (q := 60) (i := 1) dX12_worked_59 rfl rfl rfl ?_
    refine ax_lload_n (q := 61) (i := 3) dX12_worked_60 rfl rfl rfl ?_
    refine ax_lsub (q := 62) dX12_worked_61 rfl ?_
    refine ax_callSfi (q := 65) (As := [ax_l (a1 - a2)]) (st := []) (x := (v_X12_bounded (a1 - a2))) (σ2 := σ) dX12_worked_62 rfl lk_X12_211 rfl rfl (Nat.le_of_ble_eq_true rfl) (f_X12_bounded (sh := shM) σ (a1 - a2)  (d := d) (by omega)) ?_
    exact ax_iret dX12_worked_65 rfl rfl (k2 c1 c2)
  by_cases c3 : (a0 = (4 : Int32))
  · refine ax_tableIn (tgt := 66) (off := 65) dX12_worked_1 (by rw [c3]; decide) (by rw [c3]; decide) (by rw [c3]; decide) (by decide) ?_
    refine ax_lload_n (q := 67) (i := 1) dX12_worked_66 rfl rfl rfl ?_
    refine ax_lload_n (q := 68) (i := 3) dX12_worked_67 rfl rfl rfl ?_
    refine ax_lmul (q := 69) dX12_worked_68 rfl ?_
    refine ax_callSfi (q := 72) (As := [ax_l (a1 * a2)]) (st := []) (x := (v_X12_bounded (a1 * a2))) (σ2 := σ) dX12_worked_69 rfl lk_X12_211 rfl rfl (Nat.le_of_ble_eq_true rfl) (f_X12_bounded (sh := shM) σ (a1 * a2)  (d := d) (by omega)) ?_
    exact ax_iret dX12_worked_72 rfl rfl (k3 c1 c2 c3)
  by_cases c4 : (a0 = (5 : Int32))
  · refine ax_tableIn (tgt := 73) (off := 72) dX12_worked_1 (by rw [c4]; decide) (by rw [c4]; decide) (by rw [c4]; decide) (by decide) ?_
    refine ax_lload_n (q := 74) (i := 3) dX12_worked_73 rfl rfl rfl ?_
    refine ax_lconst (q := 75) (v := 0) dX12_worked_74 rfl rfl ?_
    refine ax_lcmp (q := 76) dX12_worked_75 rfl ?_
    have K6 : ax_W shM (d + 1) mX12_worked Q 89 [some (ax_i a0), some (ax_l a1), none, some (ax_l a2), none] [ax_i (if (¬ (lg_cmp a2 (0 : Int64)) = 0) then (v_X12_bounded (a1 / a2)) else (0 : Int32))] σ := by
      exact ax_iret dX12_worked_89 rfl rfl (k5 c1 c2 c3 c4)
    refine ax_if_ne (tgt := 83) (q := 79) dX12_worked_76 (by decide) rfl (fun c5 => ?_) (fun c5 => ?_)
    · refine ax_lload_n (q := 84) (i := 1) dX12_worked_83 rfl rfl rfl ?_
      refine ax_lload_n (q := 85) (i := 3) dX12_worked_84 rfl rfl rfl ?_
      refine ax_ldiv (q := 86) dX12_worked_85 rfl (h4 c1 c2 c3 c4 c5) ?_
      refine ax_callSfi (q := 89) (As := [ax_l (a1 / a2)]) (st := []) (x := (v_X12_bounded (a1 / a2))) (σ2 := σ) dX12_worked_86 rfl lk_X12_211 rfl rfl (Nat.le_of_ble_eq_true rfl) (f_X12_bounded (sh := shM) σ (a1 / a2)  (d := d) (by omega)) ?_
      exact ax_cv (if_pos c5) K6
    · refine ax_iconst (q := 80) dX12_worked_79 rfl ki_0 ?_
      refine ax_goto (tgt := 89) dX12_worked_80 (by decide) ?_
      exact ax_cv (if_neg c5) K6
  by_cases c7 : (a0 = (6 : Int32))
  · refine ax_tableIn (tgt := 90) (off := 89) dX12_worked_1 (by rw [c7]; decide) (by rw [c7]; decide) (by rw [c7]; decide) (by decide) ?_
    refine ax_lload_n (q := 91) (i := 1) dX12_worked_90 rfl rfl rfl ?_
    refine ax_lload_n (q := 92) (i := 3) dX12_worked_91 rfl rfl rfl ?_
    refine ax_lcmp (q := 93) dX12_worked_92 rfl ?_
    have K9 : ax_W shM (d + 1) mX12_worked Q 101 [some (ax_i a0), some (ax_l a1), none, some (ax_l a2), none] [ax_i (if (¬ (¬ (lg_cmp a1 a2) = 0)) then (1 : Int32) else 0)] σ := by
      exact ax_iret dX12_worked_101 rfl rfl (k6 c1 c2 c3 c4 c7)
    refine ax_if_ne (tgt := 100) (q := 96) dX12_worked_93 (by decide) rfl (fun c8 => ?_) (fun c8 => ?_)
    · refine ax_iconst (q := 101) dX12_worked_100 rfl ki_0 ?_
      exact ax_cv (if_neg (fun y => y c8)) K9
    · refine ax_iconst (q := 97) dX12_worked_96 rfl ki_1 ?_
      refine ax_goto (tgt := 101) dX12_worked_97 (by decide) ?_
      exact ax_cv (if_pos c8) K9
  by_cases c10 : (a0 = (7 : Int32))
  · refine ax_tableIn (tgt := 102) (off := 101) dX12_worked_1 (by rw [c10]; decide) (by rw [c10]; decide) (by rw [c10]; decide) (by decide) ?_
    refine ax_lload_n (q := 103) (i := 1) dX12_worked_102 rfl rfl rfl ?_
    refine ax_lload_n (q := 104) (i := 3) dX12_worked_103 rfl rfl rfl ?_
    refine ax_lcmp (q := 105) dX12_worked_104 rfl ?_
    have K12 : ax_W shM (d + 1) mX12_worked Q 113 [some (ax_i a0), some (ax_l a1), none, some (ax_l a2), none] [ax_i (if (¬ (0 ≤ (lg_cmp a1 a2))) then (1 : Int32) else 0)] σ := by
      exact ax_iret dX12_worked_113 rfl rfl (k7 c1 c2 c3 c4 c7 c10)
    refine ax_if_ge (tgt := 112) (q := 108) dX12_worked_105 (by decide) rfl (fun c11 => ?_) (fun c11 => ?_)
    · refine ax_iconst (q := 113) dX12_worked_112 rfl ki_0 ?_
      exact ax_cv (if_neg (fun y => y c11)) K12
    · refine ax_iconst (q := 109) dX12_worked_108 rfl ki_1 ?_
      refine ax_goto (tgt := 113) dX12_worked_109 (by decide) ?_
      exact ax_cv (if_pos c11) K12
  by_cases c13 : (a0 = (8 : Int32))
  · refine ax_tableIn (tgt := 114) (off := 113) dX12_worked_1 (by rw [c13]; decide) (by rw [c13]; decide) (by rw [c13]; decide) (by decide) ?_
    refine ax_lload_n (q := 115) (i := 1) dX12_worked_114 rfl rfl rfl ?_
    refine ax_lload_n (q := 116) (i := 3) dX12_worked_115 rfl rfl rfl ?_
    refine ax_lcmp (q := 117) dX12_worked_116 rfl ?_
    have K15 : ax_W shM (d + 1) mX12_worked Q 125 [some (ax_i a0), some (ax_l a1), none, some (ax_l a2), none] [ax_i (if (¬ ((lg_cmp a1 a2) ≤ 0)) then (1 : Int32) else 0)] σ := by
      exact ax_iret dX12_worked_125 rfl rfl (k8 c1 c2 c3 c4 c7 c10 c13)
    refine ax_if_le (tgt := 124) (q := 120) dX12_worked_117 (by decide) rfl (fun c14 => ?_) (fun c14 => ?_)
    · refine ax_iconst (q := 125) dX12_worked_124 rfl ki_0 ?_
      exact ax_cv (if_neg (fun y => y c14)) K15
    · refine ax_iconst (q := 121) dX12_worked_120 rfl ki_1 ?_
      refine ax_goto (tgt := 125) dX12_worked_121 (by decide) ?_
      exact ax_cv (if_pos c14) K15
  by_cases c16 : (a0 = (9 : Int32))
  · refine ax_tableIn (tgt := 144) (off := 143) dX12_worked_1 (by rw [c16]; decide) (by rw [c16]; decide) (by rw [c16]; decide) (by decide) ?_
    refine ax_lload_n (q := 145) (i := 1) dX12_worked_144 rfl rfl rfl ?_
    refine ax_lconst (q := 146) (v := 0) dX12_worked_145 rfl rfl ?_
    refine ax_lcmp (q := 147) dX12_worked_146 rfl ?_
    have K19 : ax_W shM (d + 1) mX12_worked Q 161 [some (ax_i a0), some (ax_l a1), none, some (ax_l a2), none] [ax_i (if ((¬ (lg_cmp a1 (0 : Int64)) = 0) ∨ (¬ ((lg_cmp a2 (0 : Int64)) = 0))) then (1 : Int32) else 0)] σ := by
      exact ax_iret dX12_worked_161 rfl rfl (k9 c1 c2 c3 c4 c7 c10 c13 c16)
    refine ax_if_ne (tgt := 156) (q := 150) dX12_worked_147 (by decide) rfl (fun c17 => ?_) (fun c17 => ?_)
    · refine ax_iconst (q := 157) dX12_worked_156 rfl ki_1 ?_
      refine ax_goto (tgt := 161) dX12_worked_157 (by decide) ?_
      exact ax_cv (if_pos (Or.inl c17)) K19
    · refine ax_lload_n (q := 151) (i := 3) dX12_worked_150 rfl rfl rfl ?_
      refine ax_lconst (q := 152) (v := 0) dX12_worked_151 rfl rfl ?_
      refine ax_lcmp (q := 153) dX12_worked_152 rfl ?_
      refine ax_if_eq (tgt := 160) (q := 156) dX12_worked_153 (by decide) rfl (fun c18 => ?_) (fun c18 => ?_)
      · refine ax_iconst (q := 161) dX12_worked_160 rfl ki_0 ?_
        exact ax_cv (if_neg (fun z => z.elim c17 (fun y => y c18))) K19
      · refine ax_iconst (q := 157) dX12_worked_156 rfl ki_1 ?_
        refine ax_goto (tgt := 161) dX12_worked_157 (by decide) ?_
        exact ax_cv (if_pos (Or.inr c18)) K19
  by_cases c20 : (a0 = (10 : Int32))
  · refine ax_tableIn (tgt := 126) (off := 125) dX12_worked_1 (by rw [c20]; decide) (by rw [c20]; decide) (by rw [c20]; decide) (by decide) ?_
    refine ax_lload_n (q := 127) (i := 1) dX12_worked_126 rfl rfl rfl ?_
    refine ax_lconst (q := 128) (v := 0) dX12_worked_127 rfl rfl ?_
    refine ax_lcmp (q := 129) dX12_worked_128 rfl ?_
    have K23 : ax_W shM (d + 1) mX12_worked Q 143 [some (ax_i a0), some (ax_l a1), none, some (ax_l a2), none] [ax_i (if ((¬ ((lg_cmp a1 (0 : Int64)) = 0)) ∧ (¬ ((lg_cmp a2 (0 : Int64)) = 0))) then (1 : Int32) else 0)] σ := by
      exact ax_iret dX12_worked_143 rfl rfl (k10 c1 c2 c3 c4 c7 c10 c13 c16 c20)
    refine ax_if_eq (tgt := 142) (q := 132) dX12_worked_129 (by decide) rfl (fun c21 => ?_) (fun c21 => ?_)
    · refine ax_iconst (q := 143) dX12_worked_142 rfl ki_0 ?_
      exact ax_cv (if_neg (fun z => (fun y => y c21) z.1)) K23
    · refine ax_lload_n (q := 133) (i := 3) dX12_worked_132 rfl rfl rfl ?_
      refine ax_lconst (q := 134) (v := 0) dX12_worked_133 rfl rfl ?_
      refine ax_lcmp (q := 135) dX12_worked_134 rfl ?_
      refine ax_if_eq (tgt := 142) (q := 138) dX12_worked_135 (by decide) rfl (fun c22 => ?_) (fun c22 => ?_)
      · refine ax_iconst (q := 143) dX12_worked_142 rfl ki_0 ?_
        exact ax_cv (if_neg (fun z => (fun y => y c22) z.2)) K23
      · refine ax_iconst (q := 139) dX12_worked_138 rfl ki_1 ?_
        refine ax_goto (tgt := 143) dX12_worked_139 (by decide) ?_
        exact ax_cv (if_pos ⟨c21, c22⟩) K23
  · refine ax_tableOut (tgt := 144) dX12_worked_1 (by have z0 := ax_net (k := 2) (2) (by decide) c1; have z1 := ax_net (k := 3) (3) (by decide) c2; have z2 := ax_net (k := 4) (4) (by decide) c3; have z3 := ax_net (k := 5) (5) (by decide) c4; have z4 := ax_net (k := 6) (6) (by decide) c7; have z5 := ax_net (k := 7) (7) (by decide) c10; have z6 := ax_net (k := 8) (8) (by decide) c13; have z7 := ax_net (k := 9) (9) (by decide) c16; have z8 := ax_net (k := 10) (10) (by decide) c20; omega) (by decide) ?_
    refine ax_lload_n (q := 145) (i := 1) dX12_worked_144 rfl rfl rfl ?_
    refine ax_lconst (q := 146) (v := 0) dX12_worked_145 rfl rfl ?_
    refine ax_lcmp (q := 147) dX12_worked_146 rfl ?_
    have K26 : ax_W shM (d + 1) mX12_worked Q 161 [some (ax_i a0), some (ax_l a1), none, some (ax_l a2), none] [ax_i (if ((¬ (lg_cmp a1 (0 : Int64)) = 0) ∨ (¬ ((lg_cmp a2 (0 : Int64)) = 0))) then (1 : Int32) else 0)] σ := by
      exact ax_iret dX12_worked_161 rfl rfl (k11 c1 c2 c3 c4 c7 c10 c13 c16 c20)
    refine ax_if_ne (tgt := 156) (q := 150) dX12_worked_147 (by decide) rfl (fun c24 => ?_) (fun c24 => ?_)
    · refine ax_iconst (q := 157) dX12_worked_156 rfl ki_1 ?_
      refine ax_goto (tgt := 161) dX12_worked_157 (by decide) ?_
      exact ax_cv (if_pos (Or.inl c24)) K26
    · refine ax_lload_n (q := 151) (i := 3) dX12_worked_150 rfl rfl rfl ?_
      refine ax_lconst (q := 152) (v := 0) dX12_worked_151 rfl rfl ?_
      refine ax_lcmp (q := 153) dX12_worked_152 rfl ?_
      refine ax_if_eq (tgt := 160) (q := 156) dX12_worked_153 (by decide) rfl (fun c25 => ?_) (fun c25 => ?_)
      · refine ax_iconst (q := 161) dX12_worked_160 rfl ki_0 ?_
        exact ax_cv (if_neg (fun z => z.elim c24 (fun y => y c25))) K26
      · refine ax_iconst (q := 157) dX12_worked_156 rfl ki_1 ?_
        refine ax_goto (tgt := 161) dX12_worked_157 (by decide) ?_
        exact ax_cv (if_pos (Or.inr c25)) K26
set_option maxRecDepth 20000 in
theorem s_X12_workOut_0 {d : Nat} (hd : 0 ≤ d) {Q : Option ax_V → ax_S → Prop} (σ : ax_S) (a0 : Int32) (a1 : Int32) (a2 : Int32) (k1 : ax_W shM (d + 1) mX12_workOut Q 12 [some (ax_r 0), some (ax_i a0), none, some (ax_i a2), some (ax_i (0 : Int32)), some (ax_i (((520 : Int32) * a0) + a1))] [] σ) : ax_W shM (d + 1) mX12_workOut Q 0 [some (ax_r 0), some (ax_i a0), some (ax_i a1), some (ax_i a2), none, none] [] σ := by
  refine ax_iconst (q := 1) dX12_workOut_0 rfl ki_0 ?_
  refine ax_istore (q := 3) (lv2 := [some (ax_r 0), some (ax_i a0), some (ax_i a1), some (ax_i a2), some (ax_i (0 : Int32)), none]) dX12_workOut_1 rfl (by decide) rfl rfl ?_
  refine ax_sipush (q := 6) dX12_workOut_3 rfl ks_520 ?_
  refine ax_iload_n (q := 7) (i := 1) dX12_workOut_6 rfl rfl rfl ?_
  refine ax_imul (q := 8) dX12_workOut_7 rfl ?_
  refine ax_iload_n (q := 9) (i := 2) dX12_workOut_8 rfl rfl rfl ?_
  refine ax_iadd (q := 10) dX12_workOut_9 rfl ?_
  refine ax_istore (q := 12) (lv2 := [some (ax_r 0), some (ax_i a0), some (ax_i a1), some (ax_i a2), some (ax_i (0 : Int32)), some (ax_i (((520 : Int32) * a0) + a1))]) dX12_workOut_10 rfl (by decide) rfl rfl ?_
  refine ax_fg (lv2 := [some (ax_r 0), some (ax_i a0), none, some (ax_i a2), some (ax_i (0 : Int32)), some (ax_i (((520 : Int32) * a0) + a1))]) ⟨rfl, rfl, rfl, rfl, rfl, trivial⟩ ?_
  exact k1
set_option maxRecDepth 20000 in
theorem s_X12_workOut_12 {d : Nat} (hd : 0 ≤ d) {Q : Option ax_V → ax_S → Prop} (σ : ax_S) (x1 : Int32) (x3 : Int32) (x4 : Int32) (x5 : Int32) (k1 : ((((520 : Int32) * x1) + x3) ≤ x5) → Q (some (ax_i (σ.1 10 0))) σ) (h2 : (¬ ((((520 : Int32) * x1) + x3) ≤ x5)) → vp_in x5 2600) (h3 : (¬ ((((520 : Int32) * x1) + x3) ≤ x5)) → ((σ.1 2 (Int32.toNatClampNeg x5)) = 0) → vp_in x5 2600) (h4 : (¬ ((((520 : Int32) * x1) + x3) ≤ x5)) → ((σ.1 2 (Int32.toNatClampNeg x5)) = 0) → (¬ (σ.1 2 (Int32.toNatClampNeg x5)) = 0) → vp_in x5 2600) (h5 : (¬ ((((520 : Int32) * x1) + x3) ≤ x5)) → ((σ.1 2 (Int32.toNatClampNeg x5)) = 0) → (¬ (σ.1 2 (Int32.toNatClampNeg x5)) = 0) → vp_in (σ.1 3 (Int32.toNatClampNeg x5)) 6) (h6 : (¬ ((((520 : Int32) * x1) + x3) ≤ x5)) → ((σ.1 2 (Int32.toNatClampNeg x5)) = 0) → (¬ (¬ (σ.1 2 (Int32.toNatClampNeg x5)) = 0)) → vp_in x5 2600) (h7 : (¬ ((((520 : Int32) * x1) + x3) ≤ x5)) → ((σ.1 2 (Int32.toNatClampNeg x5)) = 0) → vp_in x4 80) (k8 : (¬ ((((520 : Int32) * x1) + x3) ≤ x5)) → ((σ.1 2 (Int32.toNatClampNeg x5)) = 0) → ax_W shM (d + 1) mX12_workOut Q 12 [some (ax_r 0), some (ax_i x1), none, some (ax_i x3), some (ax_i (x4 + (1 : Int32))), some (ax_i (x5 + (1 : Int32)))] [] (ax_ui σ 10 (Int32.toNatClampNeg x4) (if (¬ (σ.1 2 (Int32.toNatClampNeg x5)) = 0) then (σ.1 9 (Int32.toNatClampNeg (σ.1 3 (Int32.toNatClampNeg x5)))) else (σ.1 3 (Int32.toNatClampNeg x5))))) (h9 : (¬ ((((520 : Int32) * x1) + x3) ≤ x5)) → (¬ ((σ.1 2 (Int32.toNatClampNeg x5)) = 0)) → vp_in x5 2600) (h10 : (¬ ((((520 : Int32) * x1) + x3) ≤ x5)) → (¬ ((σ.1 2 (Int32.toNatClampNeg x5)) = 0)) → (¬ (σ.1 2 (Int32.toNatClampNeg x5)) = (1 : Int32)) → vp_in x5 2600) (h11 : (¬ ((((520 : Int32) * x1) + x3) ≤ x5)) → (¬ ((σ.1 2 (Int32.toNatClampNeg x5)) = 0)) → (¬ (σ.1 2 (Int32.toNatClampNeg x5)) = (1 : Int32)) → (¬ (σ.1 2 (Int32.toNatClampNeg x5)) = (9 : Int32)) → vp_in x5 2600) (h12 : (¬ ((((520 : Int32) * x1) + x3) ≤ x5)) → (¬ ((σ.1 2 (Int32.toNatClampNeg x5)) = 0)) → (¬ (σ.1 2 (Int32.toNatClampNeg x5)) = (1 : Int32)) → (¬ (σ.1 2 (Int32.toNatClampNeg x5)) = (9 : Int32)) → vp_in ((x4 + (-1 : Int32)) - (1 : Int32)) 80) (h13 : (¬ ((((520 : Int32) * x1) + x3) ≤ x5)) → (¬ ((σ.1 2 (Int32.toNatClampNeg x5)) = 0)) → (¬ (σ.1 2 (Int32.toNatClampNeg x5)) = (1 : Int32)) → (¬ (σ.1 2 (Int32.toNatClampNeg x5)) = (9 : Int32)) → vp_in (x4 + (-1 : Int32)) 80) (k14 : (¬ ((((520 : Int32) * x1) + x3) ≤ x5)) → (¬ ((σ.1 2 (Int32.toNatClampNeg x5)) = 0)) → (¬ (σ.1 2 (Int32.toNatClampNeg x5)) = (1 : Int32)) → (¬ (σ.1 2 (Int32.toNatClampNeg x5)) = (9 : Int32)) → ax_Ct shM d mX12_worked [ax_i (σ.1 2 (Int32.toNatClampNeg x5)), ax_l (Int32.toInt64 (σ.1 10 (Int32.toNatClampNeg ((x4 + (-1 : Int32)) - (1 : Int32))))), ax_l (Int32.toInt64 (σ.1 10 (Int32.toNatClampNeg (x4 + (-1 : Int32)))))] (fun r u => ∃ x : Int32, r = some (ax_i x) ∧ ax_W shM (d + 1) mX12_workOut Q 164 [some (ax_r 0), some (ax_i x1), none, some (ax_i x3), some (ax_i (x4 + (-1 : Int32))), some (ax_i x5)] (ax_i x :: [ax_i ((x4 + (-1 : Int32)) - (1 : Int32)), ax_r 10]) u) σ) (h15 : (¬ ((((520 : Int32) * x1) + x3) ≤ x5)) → (¬ ((σ.1 2 (Int32.toNatClampNeg x5)) = 0)) → (¬ (σ.1 2 (Int32.toNatClampNeg x5)) = (1 : Int32)) → (¬ (¬ (σ.1 2 (Int32.toNatClampNeg x5)) = (9 : Int32))) → vp_in (x4 - (1 : Int32)) 80) (k16 : (¬ ((((520 : Int32) * x1) + x3) ≤ x5)) → (¬ ((σ.1 2 (Int32.toNatClampNeg x5)) = 0)) → (¬ (σ.1 2 (Int32.toNatClampNeg x5)) = (1 : Int32)) → (¬ (¬ (σ.1 2 (Int32.toNatClampNeg x5)) = (9 : Int32))) → ax_W shM (d + 1) mX12_workOut Q 12 [some (ax_r 0), some (ax_i x1), none, some (ax_i x3), some (ax_i x4), some (ax_i (x5 + (1 : Int32)))] [] (ax_ui σ 10 (Int32.toNatClampNeg (x4 - (1 : Int32))) ((1 : Int32) - (σ.1 10 (Int32.toNatClampNeg (x4 - (1 : Int32))))))) (h17 : (¬ ((((520 : Int32) * x1) + x3) ≤ x5)) → (¬ ((σ.1 2 (Int32.toNatClampNeg x5)) = 0)) → (¬ (¬ (σ.1 2 (Int32.toNatClampNeg x5)) = (1 : Int32))) → vp_in x5 2600) (h18 : (¬ ((((520 : Int32) * x1) + x3) ≤ x5)) → (¬ ((σ.1 2 (Int32.toNatClampNeg x5)) = 0)) → (¬ (¬ (σ.1 2 (Int32.toNatClampNeg x5)) = (1 : Int32))) → (¬ (σ.1 2 (Int32.toNatClampNeg x5)) = 0) → vp_in x5 2600) (h19 : (¬ ((((520 : Int32) * x1) + x3) ≤ x5)) → (¬ ((σ.1 2 (Int32.toNatClampNeg x5)) = 0)) → (¬ (¬ (σ.1 2 (Int32.toNatClampNeg x5)) = (1 : Int32))) → (¬ (σ.1 2 (Int32.toNatClampNeg x5)) = 0) → vp_in (σ.1 3 (Int32.toNatClampNeg x5)) 6) (h20 : (¬ ((((520 : Int32) * x1) + x3) ≤ x5)) → (¬ ((σ.1 2 (Int32.toNatClampNeg x5)) = 0)) → (¬ (¬ (σ.1 2 (Int32.toNatClampNeg x5)) = (1 : Int32))) → (¬ (¬ (σ.1 2 (Int32.toNatClampNeg x5)) = 0)) → vp_in x5 2600) (h21 : (¬ ((((520 : Int32) * x1) + x3) ≤ x5)) → (¬ ((σ.1 2 (Int32.toNatClampNeg x5)) = 0)) → (¬ (¬ (σ.1 2 (Int32.toNatClampNeg x5)) = (1 : Int32))) → vp_in x4 80) (k22 : (¬ ((((520 : Int32) * x1) + x3) ≤ x5)) → (¬ ((σ.1 2 (Int32.toNatClampNeg x5)) = 0)) → (¬ (¬ (σ.1 2 (Int32.toNatClampNeg x5)) = (1 : Int32))) → ax_W shM (d + 1) mX12_workOut Q 12 [some (ax_r 0), some (ax_i x1), none, some (ax_i x3), some (ax_i (x4 + (1 : Int32))), some (ax_i (x5 + (1 : Int32)))] [] (ax_ui σ 10 (Int32.toNatClampNeg x4) (if (¬ (σ.1 2 (Int32.toNatClampNeg x5)) = 0) then (σ.1 9 (Int32.toNatClampNeg (σ.1 3 (Int32.toNatClampNeg x5)))) else (σ.1 3 (Int32.toNatClampNeg x5))))) : ax_W shM (d + 1) mX12_workOut Q 12 [some (ax_r 0), some (ax_i x1), none, some (ax_i x3), some (ax_i x4), some (ax_i x5)] [] σ := by
  refine ax_iload (q := 14) dX12_workOut_12 rfl rfl ?_
  refine ax_sipush (q := 17) dX12_workOut_14 rfl ks_520 ?_
  refine ax_iload_n (q := 18) (i := 1) dX12_workOut_17 rfl rfl rfl ?_
  refine ax_imul (q := 19) dX12_workOut_18 rfl ?_
  refine ax_iload_n (q := 20) (i := 3) dX12_workOut_19 rfl rfl rfl ?_
  refine ax_iadd (q := 21) dX12_workOut_20 rfl ?_
  refine ax_icmp_ge (tgt := 171) (q := 24) dX12_workOut_21 (by decide) rfl (fun c1 => ?_) (fun c1 => ?_)
  · refine ax_aload_n (q := 172) (i := 0) dX12_workOut_171 rfl rfl rfl ?_
    refine ax_get (q := 175) (k := 0) (j := 16) (v := ax_r 10) dX12_workOut_172 rfl shM_0 rfl rfl rfl (by decide) fl_X12_37 ?_
    refine ax_iconst (q := 176) dX12_workOut_175 rfl ki_0 ?_
    refine ax_iald (q := 177) (a := 0) (v := (σ.1 10 0)) dX12_workOut_176 rfl shM_10 (ax_inl 0 80 (by decide) (by decide)) rfl rfl ?_
    exact ax_iret dX12_workOut_177 rfl rfl (k1 c1)
  · refine ax_aload_n (q := 25) (i := 0) dX12_workOut_24 rfl rfl rfl ?_
    refine ax_get (q := 28) (k := 0) (j := 6) (v := ax_r 2) dX12_workOut_25 rfl shM_0 rfl rfl rfl (by decide) fl_X12_13 ?_
    refine ax_iload (q := 30) dX12_workOut_28 rfl rfl ?_
    refine ax_iald (q := 31) (a := (Int32.toNatClampNeg x5)) (v := (σ.1 2 (Int32.toNatClampNeg x5))) dX12_workOut_30 rfl shM_2 (h2 c1) rfl rfl ?_
    refine ax_if_eq (tgt := 45) (q := 34) dX12_workOut_31 (by decide) rfl (fun c2 => ?_) (fun c2 => ?_)
    · refine ax_aload_n (q := 46) (i := 0) dX12_workOut_45 rfl rfl rfl ?_
      refine ax_get (q := 49) (k := 0) (j := 16) (v := ax_r 10) dX12_workOut_46 rfl shM_0 rfl rfl rfl (by decide) fl_X12_37 ?_
      refine ax_iload (q := 51) dX12_workOut_49 rfl rfl ?_
      refine ax_aload_n (q := 52) (i := 0) dX12_workOut_51 rfl rfl rfl ?_
      refine ax_get (q := 55) (k := 0) (j := 6) (v := ax_r 2) dX12_workOut_52 rfl shM_0 rfl rfl rfl (by decide) fl_X12_13 ?_
      refine ax_iload (q := 57) dX12_workOut_55 rfl rfl ?_
      refine ax_iald (q := 58) (a := (Int32.toNatClampNeg x5)) (v := (σ.1 2 (Int32.toNatClampNeg x5))) dX12_workOut_57 rfl shM_2 (h3 c1 c2) rfl rfl ?_
      have K4 : ax_W shM (d + 1) mX12_workOut Q 83 [some (ax_r 0), some (ax_i x1), none, some (ax_i x3), some (ax_i x4), some (ax_i x5)] [ax_i (if (¬ (σ.1 2 (Int32.toNatClampNeg x5)) = 0) then (σ.1 9 (Int32.toNatClampNeg (σ.1 3 (Int32.toNatClampNeg x5)))) else (σ.1 3 (Int32.toNatClampNeg x5))), ax_i x4, ax_r 10] σ := by
        refine ax_iast (q := 84) (a := (Int32.toNatClampNeg x4)) dX12_workOut_83 rfl shM_10 (h7 c1 c2) rfl ?_
        refine ax_iincK (q := 87) (lv2 := [some (ax_r 0), some (ax_i x1), none, some (ax_i x3), some (ax_i (x4 + (1 : Int32))), some (ax_i x5)]) dX12_workOut_84 rfl rfl ki_1 (by decide) rfl rfl ?_
        refine ax_goto (tgt := 165) dX12_workOut_87 (by decide) ?_
        refine ax_iincK (q := 168) (lv2 := [some (ax_r 0), some (ax_i x1), none, some (ax_i x3), some (ax_i (x4 + (1 : Int32))), some (ax_i (x5 + (1 : Int32)))]) dX12_workOut_165 rfl rfl ki_1 (by decide) rfl rfl ?_
        refine ax_goto (tgt := 12) dX12_workOut_168 (by decide) ?_
        exact (k8 c1 c2)
      refine ax_if_ne (tgt := 71) (q := 61) dX12_workOut_58 (by decide) rfl (fun c3 => ?_) (fun c3 => ?_)
      · refine ax_aload_n (q := 72) (i := 0) dX12_workOut_71 rfl rfl rfl ?_
        refine ax_get (q := 75) (k := 0) (j := 15) (v := ax_r 9) dX12_workOut_72 rfl shM_0 rfl rfl rfl (by decide) fl_X12_34 ?_
        refine ax_aload_n (q := 76) (i := 0) dX12_workOut_75 rfl rfl rfl ?_
        refine ax_get (q := 79) (k := 0) (j := 7) (v := ax_r 3) dX12_workOut_76 rfl shM_0 rfl rfl rfl (by decide) fl_X12_16 ?_
        refine ax_iload (q := 81) dX12_workOut_79 rfl rfl ?_
        refine ax_iald (q := 82) (a := (Int32.toNatClampNeg x5)) (v := (σ.1 3 (Int32.toNatClampNeg x5))) dX12_workOut_81 rfl shM_3 (h4 c1 c2 c3) rfl rfl ?_
        refine ax_iald (q := 83) (a := (Int32.toNatClampNeg (σ.1 3 (Int32.toNatClampNeg x5)))) (v := (σ.1 9 (Int32.toNatClampNeg (σ.1 3 (Int32.toNatClampNeg x5))))) dX12_workOut_82 rfl shM_9 (h5 c1 c2 c3) rfl rfl ?_
        exact ax_cv (if_pos c3) K4
      · refine ax_aload_n (q := 62) (i := 0) dX12_workOut_61 rfl rfl rfl ?_
        refine ax_get (q := 65) (k := 0) (j := 7) (v := ax_r 3) dX12_workOut_62 rfl shM_0 rfl rfl rfl (by decide) fl_X12_16 ?_
        refine ax_iload (q := 67) dX12_workOut_65 rfl rfl ?_
        refine ax_iald (q := 68) (a := (Int32.toNatClampNeg x5)) (v := (σ.1 3 (Int32.toNatClampNeg x5))) dX12_workOut_67 rfl shM_3 (h6 c1 c2 c3) rfl rfl ?_
        refine ax_goto (tgt := 83) dX12_workOut_68 (by decide) ?_
        exact ax_cv (if_neg c3) K4
    · refine ax_aload_n (q := 35) (i := 0) dX12_workOut_34 rfl rfl rfl ?_
      refine ax_get (q := 38) (k := 0) (j := 6) (v := ax_r 2) dX12_workOut_35 rfl shM_0 rfl rfl rfl (by decide) fl_X12_13 ?_
      refine ax_iload (q := 40) dX12_workOut_38 rfl rfl ?_
      refine ax_iald (q := 41) (a := (Int32.toNatClampNeg x5)) (v := (σ.1 2 (Int32.toNatClampNeg x5))) dX12_workOut_40 rfl shM_2 (h9 c1 c2) rfl rfl ?_
      refine ax_iconst (q := 42) dX12_workOut_41 rfl ki_1 ?_
      refine ax_icmp_ne (tgt := 90) (q := 45) dX12_workOut_42 (by decide) rfl (fun c5 => ?_) (fun c5 => ?_)
      · refine ax_aload_n (q := 91) (i := 0) dX12_workOut_90 rfl rfl rfl ?_
        refine ax_get (q := 94) (k := 0) (j := 6) (v := ax_r 2) dX12_workOut_91 rfl shM_0 rfl rfl rfl (by decide) fl_X12_13 ?_
        refine ax_iload (q := 96) dX12_workOut_94 rfl rfl ?_
        refine ax_iald (q := 97) (a := (Int32.toNatClampNeg x5)) (v := (σ.1 2 (Int32.toNatClampNeg x5))) dX12_workOut_96 rfl shM_2 (h10 c1 c2 c5) rfl rfl ?_
        refine ax_bipush (q := 99) dX12_workOut_97 rfl kb_9 ?_
        refine ax_icmp_ne (tgt := 125) (q := 102) dX12_workOut_99 (by decide) rfl (fun c6 => ?_) (fun c6 => ?_)
        · refine ax_iincK (q := 128) (lv2 := [some (ax_r 0), some (ax_i x1), none, some (ax_i x3), some (ax_i (x4 + (-1 : Int32))), some (ax_i x5)]) dX12_workOut_125 rfl rfl ki_m1 (by decide) rfl rfl ?_
          refine ax_aload_n (q := 129) (i := 0) dX12_workOut_128 rfl rfl rfl ?_
          refine ax_get (q := 132) (k := 0) (j := 16) (v := ax_r 10) dX12_workOut_129 rfl shM_0 rfl rfl rfl (by decide) fl_X12_37 ?_
          refine ax_iload (q := 134) dX12_workOut_132 rfl rfl ?_
          refine ax_iconst (q := 135) dX12_workOut_134 rfl ki_1 ?_
          refine ax_isub (q := 136) dX12_workOut_135 rfl ?_
          refine ax_aload_n (q := 137) (i := 0) dX12_workOut_136 rfl rfl rfl ?_
          refine ax_get (q := 140) (k := 0) (j := 6) (v := ax_r 2) dX12_workOut_137 rfl shM_0 rfl rfl rfl (by decide) fl_X12_13 ?_
          refine ax_iload (q := 142) dX12_workOut_140 rfl rfl ?_
          refine ax_iald (q := 143) (a := (Int32.toNatClampNeg x5)) (v := (σ.1 2 (Int32.toNatClampNeg x5))) dX12_workOut_142 rfl shM_2 (h11 c1 c2 c5 c6) rfl rfl ?_
          refine ax_aload_n (q := 144) (i := 0) dX12_workOut_143 rfl rfl rfl ?_
          refine ax_get (q := 147) (k := 0) (j := 16) (v := ax_r 10) dX12_workOut_144 rfl shM_0 rfl rfl rfl (by decide) fl_X12_37 ?_
          refine ax_iload (q := 149) dX12_workOut_147 rfl rfl ?_
          refine ax_iconst (q := 150) dX12_workOut_149 rfl ki_1 ?_
          refine ax_isub (q := 151) dX12_workOut_150 rfl ?_
          refine ax_iald (q := 152) (a := (Int32.toNatClampNeg ((x4 + (-1 : Int32)) - (1 : Int32)))) (v := (σ.1 10 (Int32.toNatClampNeg ((x4 + (-1 : Int32)) - (1 : Int32))))) dX12_workOut_151 rfl shM_10 (h12 c1 c2 c5 c6) rfl rfl ?_
          refine ax_i2l (q := 153) dX12_workOut_152 rfl ?_
          refine ax_aload_n (q := 154) (i := 0) dX12_workOut_153 rfl rfl rfl ?_
          refine ax_get (q := 157) (k := 0) (j := 16) (v := ax_r 10) dX12_workOut_154 rfl shM_0 rfl rfl rfl (by decide) fl_X12_37 ?_
          refine ax_iload (q := 159) dX12_workOut_157 rfl rfl ?_
          refine ax_iald (q := 160) (a := (Int32.toNatClampNeg (x4 + (-1 : Int32)))) (v := (σ.1 10 (Int32.toNatClampNeg (x4 + (-1 : Int32))))) dX12_workOut_159 rfl shM_10 (h13 c1 c2 c5 c6) rfl rfl ?_
          refine ax_i2l (q := 161) dX12_workOut_160 rfl ?_
          exact ax_callSci (q := 164) (As := [ax_i (σ.1 2 (Int32.toNatClampNeg x5)), ax_l (Int32.toInt64 (σ.1 10 (Int32.toNatClampNeg ((x4 + (-1 : Int32)) - (1 : Int32))))), ax_l (Int32.toInt64 (σ.1 10 (Int32.toNatClampNeg (x4 + (-1 : Int32)))))]) (st := [ax_i ((x4 + (-1 : Int32)) - (1 : Int32)), ax_r 10]) dX12_workOut_161 rfl lk_X12_215 rfl rfl (Nat.le_of_ble_eq_true rfl) (k14 c1 c2 c5 c6)
        · refine ax_aload_n (q := 103) (i := 0) dX12_workOut_102 rfl rfl rfl ?_
          refine ax_get (q := 106) (k := 0) (j := 16) (v := ax_r 10) dX12_workOut_103 rfl shM_0 rfl rfl rfl (by decide) fl_X12_37 ?_
          refine ax_iload (q := 108) dX12_workOut_106 rfl rfl ?_
          refine ax_iconst (q := 109) dX12_workOut_108 rfl ki_1 ?_
          refine ax_isub (q := 110) dX12_workOut_109 rfl ?_
          refine ax_iconst (q := 111) dX12_workOut_110 rfl ki_1 ?_
          refine ax_aload_n (q := 112) (i := 0) dX12_workOut_111 rfl rfl rfl ?_
          refine ax_get (q := 115) (k := 0) (j := 16) (v := ax_r 10) dX12_workOut_112 rfl shM_0 rfl rfl rfl (by decide) fl_X12_37 ?_
          refine ax_iload (q := 117) dX12_workOut_115 rfl rfl ?_
          refine ax_iconst (q := 118) dX12_workOut_117 rfl ki_1 ?_
          refine ax_isub (q := 119) dX12_workOut_118 rfl ?_
          refine ax_iald (q := 120) (a := (Int32.toNatClampNeg (x4 - (1 : Int32)))) (v := (σ.1 10 (Int32.toNatClampNeg (x4 - (1 : Int32))))) dX12_workOut_119 rfl shM_10 (h15 c1 c2 c5 c6) rfl rfl ?_
          refine ax_isub (q := 121) dX12_workOut_120 rfl ?_
          refine ax_iast (q := 122) (a := (Int32.toNatClampNeg (x4 - (1 : Int32)))) dX12_workOut_121 rfl shM_10 (h15 c1 c2 c5 c6) rfl ?_
          refine ax_goto (tgt := 165) dX12_workOut_122 (by decide) ?_
          refine ax_iincK (q := 168) (lv2 := [some (ax_r 0), some (ax_i x1), none, some (ax_i x3), some (ax_i x4), some (ax_i (x5 + (1 : Int32)))]) dX12_workOut_165 rfl rfl ki_1 (by decide) rfl rfl ?_
          refine ax_goto (tgt := 12) dX12_workOut_168 (by decide) ?_
          exact (k16 c1 c2 c5 c6)
      · refine ax_aload_n (q := 46) (i := 0) dX12_workOut_45 rfl rfl rfl ?_
        refine ax_get (q := 49) (k := 0) (j := 16) (v := ax_r 10) dX12_workOut_46 rfl shM_0 rfl rfl rfl (by decide) fl_X12_37 ?_
        refine ax_iload (q := 51) dX12_workOut_49 rfl rfl ?_
        refine ax_aload_n (q := 52) (i := 0) dX12_workOut_51 rfl rfl rfl ?_
        refine ax_get (q := 55) (k := 0) (j := 6) (v := ax_r 2) dX12_workOut_52 rfl shM_0 rfl rfl rfl (by decide) fl_X12_13 ?_
        refine ax_iload (q := 57) dX12_workOut_55 rfl rfl ?_
        refine ax_iald (q := 58) (a := (Int32.toNatClampNeg x5)) (v := (σ.1 2 (Int32.toNatClampNeg x5))) dX12_workOut_57 rfl shM_2 (h17 c1 c2 c5) rfl rfl ?_
        have K8 : ax_W shM (d + 1) mX12_workOut Q 83 [some (ax_r 0), some (ax_i x1), none, some (ax_i x3), some (ax_i x4), some (ax_i x5)] [ax_i (if (¬ (σ.1 2 (Int32.toNatClampNeg x5)) = 0) then (σ.1 9 (Int32.toNatClampNeg (σ.1 3 (Int32.toNatClampNeg x5)))) else (σ.1 3 (Int32.toNatClampNeg x5))), ax_i x4, ax_r 10] σ := by
          refine ax_iast (q := 84) (a := (Int32.toNatClampNeg x4)) dX12_workOut_83 rfl shM_10 (h21 c1 c2 c5) rfl ?_
          refine ax_iincK (q := 87) (lv2 := [some (ax_r 0), some (ax_i x1), none, some (ax_i x3), some (ax_i (x4 + (1 : Int32))), some (ax_i x5)]) dX12_workOut_84 rfl rfl ki_1 (by decide) rfl rfl ?_
          refine ax_goto (tgt := 165) dX12_workOut_87 (by decide) ?_
          refine ax_iincK (q := 168) (lv2 := [some (ax_r 0), some (ax_i x1), none, some (ax_i x3), some (ax_i (x4 + (1 : Int32))), some (ax_i (x5 + (1 : Int32)))]) dX12_workOut_165 rfl rfl ki_1 (by decide) rfl rfl ?_
          refine ax_goto (tgt := 12) dX12_workOut_168 (by decide) ?_
          exact (k22 c1 c2 c5)
        refine ax_if_ne (tgt := 71) (q := 61) dX12_workOut_58 (by decide) rfl (fun c7 => ?_) (fun c7 => ?_)
        · refine ax_aload_n (q := 72) (i := 0) dX12_workOut_71 rfl rfl rfl ?_
          refine ax_get (q := 75) (k := 0) (j := 15) (v := ax_r 9) dX12_workOut_72 rfl shM_0 rfl rfl rfl (by decide) fl_X12_34 ?_
          refine ax_aload_n (q := 76) (i := 0) dX12_workOut_75 rfl rfl rfl ?_
          refine ax_get (q := 79) (k := 0) (j := 7) (v := ax_r 3) dX12_workOut_76 rfl shM_0 rfl rfl rfl (by decide) fl_X12_16 ?_
          refine ax_iload (q := 81) dX12_workOut_79 rfl rfl ?_
          refine ax_iald (q := 82) (a := (Int32.toNatClampNeg x5)) (v := (σ.1 3 (Int32.toNatClampNeg x5))) dX12_workOut_81 rfl shM_3 (h18 c1 c2 c5 c7) rfl rfl ?_
          refine ax_iald (q := 83) (a := (Int32.toNatClampNeg (σ.1 3 (Int32.toNatClampNeg x5)))) (v := (σ.1 9 (Int32.toNatClampNeg (σ.1 3 (Int32.toNatClampNeg x5))))) dX12_workOut_82 rfl shM_9 (h19 c1 c2 c5 c7) rfl rfl ?_
          exact ax_cv (if_pos c7) K8
        · refine ax_aload_n (q := 62) (i := 0) dX12_workOut_61 rfl rfl rfl ?_
          refine ax_get (q := 65) (k := 0) (j := 7) (v := ax_r 3) dX12_workOut_62 rfl shM_0 rfl rfl rfl (by decide) fl_X12_16 ?_
          refine ax_iload (q := 67) dX12_workOut_65 rfl rfl ?_
          refine ax_iald (q := 68) (a := (Int32.toNatClampNeg x5)) (v := (σ.1 3 (Int32.toNatClampNeg x5))) dX12_workOut_67 rfl shM_3 (h20 c1 c2 c5 c7) rfl rfl ?_
          refine ax_goto (tgt := 83) dX12_workOut_68 (by decide) ?_
          exact ax_cv (if_neg c7) K8
set_option maxRecDepth 20000 in
theorem s_X12_workOut_164 {d : Nat} (hd : 0 ≤ d) {Q : Option ax_V → ax_S → Prop} (σ : ax_S) (x1 : Int32) (x3 : Int32) (x4 : Int32) (x5 : Int32) (rr : Int32) (y0 : Int32) (h1 : vp_in y0 80) (k2 : ax_W shM (d + 1) mX12_workOut Q 12 [some (ax_r 0), some (ax_i x1), none, some (ax_i x3), some (ax_i x4), some (ax_i (x5 + (1 : Int32)))] [] (ax_ui σ 10 (Int32.toNatClampNeg y0) rr)) : ax_W shM (d + 1) mX12_workOut Q 164 [some (ax_r 0), some (ax_i x1), none, some (ax_i x3), some (ax_i x4), some (ax_i x5)] [ax_i rr, ax_i y0, ax_r 10] σ := by
  refine ax_iast (q := 165) (a := (Int32.toNatClampNeg y0)) dX12_workOut_164 rfl shM_10 h1 rfl ?_
  refine ax_iincK (q := 168) (lv2 := [some (ax_r 0), some (ax_i x1), none, some (ax_i x3), some (ax_i x4), some (ax_i (x5 + (1 : Int32)))]) dX12_workOut_165 rfl rfl ki_1 (by decide) rfl rfl ?_
  refine ax_goto (tgt := 12) dX12_workOut_168 (by decide) ?_
  exact k2
set_option maxRecDepth 20000 in
theorem s_X12_worthOf_0 {d : Nat} (hd : 0 ≤ d) {Q : Option ax_V → ax_S → Prop} (σ : ax_S) (a0 : Int32) (k1 : ax_W shM (d + 1) mX12_worthOf Q 6 [some (ax_r 0), some (ax_i a0), some (ax_i ((140 : Int32) * a0))] [] σ) : ax_W shM (d + 1) mX12_worthOf Q 0 [some (ax_r 0), some (ax_i a0), none] [] σ := by
  refine ax_sipush (q := 3) dX12_worthOf_0 rfl ks_140 ?_
  refine ax_iload_n (q := 4) (i := 1) dX12_worthOf_3 rfl rfl rfl ?_
  refine ax_imul (q := 5) dX12_worthOf_4 rfl ?_
  refine ax_istore_n (q := 6) (i := 2) (lv2 := [some (ax_r 0), some (ax_i a0), some (ax_i ((140 : Int32) * a0))]) dX12_worthOf_5 rfl rfl (by decide) rfl rfl ?_
  exact k1
set_option maxRecDepth 20000 in
theorem s_X12_worthOf_6 {d : Nat} (hd : 0 ≤ d) {Q : Option ax_V → ax_S → Prop} (σ : ax_S) (x1 : Int32) (x2 : Int32) (h1 : vp_in x1 5) (k2 : ((((140 : Int32) * x1) + (σ.1 5 (Int32.toNatClampNeg x1))) ≤ x2) → Q (some (ax_i (0 : Int32))) σ) (h3 : (¬ ((((140 : Int32) * x1) + (σ.1 5 (Int32.toNatClampNeg x1))) ≤ x2)) → vp_in x2 700) (h4 : (¬ ((((140 : Int32) * x1) + (σ.1 5 (Int32.toNatClampNeg x1))) ≤ x2)) → ((σ.1 6 (Int32.toNatClampNeg x2)) = (σ.1 7 (Int32.toNatClampNeg x2))) → vp_in x2 700) (k5 : (¬ ((((140 : Int32) * x1) + (σ.1 5 (Int32.toNatClampNeg x1))) ≤ x2)) → ((σ.1 6 (Int32.toNatClampNeg x2)) = (σ.1 7 (Int32.toNatClampNeg x2))) → ax_Ct shM d mX12_workOut [ax_r 0, ax_i x1, ax_i (σ.1 7 (Int32.toNatClampNeg x2)), ax_i (σ.1 8 (Int32.toNatClampNeg x2))] (fun r u => ∃ x : Int32, r = some (ax_i x) ∧ ax_W shM (d + 1) mX12_worthOf Q 74 [none, none, none] (ax_i x :: []) u) σ) (h6 : (¬ ((((140 : Int32) * x1) + (σ.1 5 (Int32.toNatClampNeg x1))) ≤ x2)) → (¬ ((σ.1 6 (Int32.toNatClampNeg x2)) = (σ.1 7 (Int32.toNatClampNeg x2)))) → vp_in x2 700) (k7 : (¬ ((((140 : Int32) * x1) + (σ.1 5 (Int32.toNatClampNeg x1))) ≤ x2)) → (¬ ((σ.1 6 (Int32.toNatClampNeg x2)) = (σ.1 7 (Int32.toNatClampNeg x2)))) → ax_Ct shM d mX12_workOut [ax_r 0, ax_i x1, ax_i (σ.1 6 (Int32.toNatClampNeg x2)), ax_i (σ.1 7 (Int32.toNatClampNeg x2))] (fun r u => ∃ x : Int32, r = some (ax_i x) ∧ ax_W shM (d + 1) mX12_worthOf Q 54 [some (ax_r 0), some (ax_i x1), some (ax_i x2)] (ax_i x :: []) u) σ) : ax_W shM (d + 1) mX12_worthOf Q 6 [some (ax_r 0), some (ax_i x1), some (ax_i x2)] [] σ := by
  refine ax_iload_n (q := 7) (i := 2) dX12_worthOf_6 rfl rfl rfl ?_
  refine ax_sipush (q := 10) dX12_worthOf_7 rfl ks_140 ?_
  refine ax_iload_n (q := 11) (i := 1) dX12_worthOf_10 rfl rfl rfl ?_
  refine ax_imul (q := 12) dX12_worthOf_11 rfl ?_
  refine ax_aload_n (q := 13) (i := 0) dX12_worthOf_12 rfl rfl rfl ?_
  refine ax_get (q := 16) (k := 0) (j := 9) (v := ax_r 5) dX12_worthOf_13 rfl shM_0 rfl rfl rfl (by decide) fl_X12_22 ?_
  refine ax_iload_n (q := 17) (i := 1) dX12_worthOf_16 rfl rfl rfl ?_
  refine ax_iald (q := 18) (a := (Int32.toNatClampNeg x1)) (v := (σ.1 5 (Int32.toNatClampNeg x1))) dX12_worthOf_17 rfl shM_5 h1 rfl rfl ?_
  refine ax_iadd (q := 19) dX12_worthOf_18 rfl ?_
  refine ax_icmp_ge (tgt := 81) (q := 22) dX12_worthOf_19 (by decide) rfl (fun c1 => ?_) (fun c1 => ?_)
  · refine ax_iconst (q := 82) dX12_worthOf_81 rfl ki_0 ?_
    exact ax_iret dX12_worthOf_82 rfl rfl (k2 c1)
  · refine ax_aload_n (q := 23) (i := 0) dX12_worthOf_22 rfl rfl rfl ?_
    refine ax_get (q := 26) (k := 0) (j := 10) (v := ax_r 6) dX12_worthOf_23 rfl shM_0 rfl rfl rfl (by decide) fl_X12_25 ?_
    refine ax_iload_n (q := 27) (i := 2) dX12_worthOf_26 rfl rfl rfl ?_
    refine ax_iald (q := 28) (a := (Int32.toNatClampNeg x2)) (v := (σ.1 6 (Int32.toNatClampNeg x2))) dX12_worthOf_27 rfl shM_6 (h3 c1) rfl rfl ?_
    refine ax_aload_n (q := 29) (i := 0) dX12_worthOf_28 rfl rfl rfl ?_
    refine ax_get (q := 32) (k := 0) (j := 11) (v := ax_r 7) dX12_worthOf_29 rfl shM_0 rfl rfl rfl (by decide) fl_X12_28 ?_
    refine ax_iload_n (q := 33) (i := 2) dX12_worthOf_32 rfl rfl rfl ?_
    refine ax_iald (q := 34) (a := (Int32.toNatClampNeg x2)) (v := (σ.1 7 (Int32.toNatClampNeg x2))) dX12_worthOf_33 rfl shM_7 (h3 c1) rfl rfl ?_
    refine ax_icmp_eq (tgt := 57) (q := 37) dX12_worthOf_34 (by decide) rfl (fun c2 => ?_) (fun c2 => ?_)
    · refine ax_aload_n (q := 58) (i := 0) dX12_worthOf_57 rfl rfl rfl ?_
      refine ax_iload_n (q := 59) (i := 1) dX12_worthOf_58 rfl rfl rfl ?_
      refine ax_aload_n (q := 60) (i := 0) dX12_worthOf_59 rfl rfl rfl ?_
      refine ax_get (q := 63) (k := 0) (j := 11) (v := ax_r 7) dX12_worthOf_60 rfl shM_0 rfl rfl rfl (by decide) fl_X12_28 ?_
      refine ax_iload_n (q := 64) (i := 2) dX12_worthOf_63 rfl rfl rfl ?_
      refine ax_iald (q := 65) (a := (Int32.toNatClampNeg x2)) (v := (σ.1 7 (Int32.toNatClampNeg x2))) dX12_worthOf_64 rfl shM_7 (h4 c1 c2) rfl rfl ?_
      refine ax_aload_n (q := 66) (i := 0) dX12_worthOf_65 rfl rfl rfl ?_
      refine ax_get (q := 69) (k := 0) (j := 12) (v := ax_r 8) dX12_worthOf_66 rfl shM_0 rfl rfl rfl (by decide) fl_X12_31 ?_
      refine ax_iload_n (q := 70) (i := 2) dX12_worthOf_69 rfl rfl rfl ?_
      refine ax_iald (q := 71) (a := (Int32.toNatClampNeg x2)) (v := (σ.1 8 (Int32.toNatClampNeg x2))) dX12_worthOf_70 rfl shM_8 (h4 c1 c2) rfl rfl ?_
      refine ax_fg (lv2 := [none, none, none]) trivial ?_
      exact ax_callVci (q := 74) (As := [ax_i x1, ax_i (σ.1 7 (Int32.toNatClampNeg x2)), ax_i (σ.1 8 (Int32.toNatClampNeg x2))]) (st := []) dX12_worthOf_71 rfl lk_X12_219 shM_0 rfl rfl rfl rfl (Nat.le_of_ble_eq_true rfl) (k5 c1 c2)
    · refine ax_aload_n (q := 38) (i := 0) dX12_worthOf_37 rfl rfl rfl ?_
      refine ax_iload_n (q := 39) (i := 1) dX12_worthOf_38 rfl rfl rfl ?_
      refine ax_aload_n (q := 40) (i := 0) dX12_worthOf_39 rfl rfl rfl ?_
      refine ax_get (q := 43) (k := 0) (j := 10) (v := ax_r 6) dX12_worthOf_40 rfl shM_0 rfl rfl rfl (by decide) fl_X12_25 ?_
      refine ax_iload_n (q := 44) (i := 2) dX12_worthOf_43 rfl rfl rfl ?_
      refine ax_iald (q := 45) (a := (Int32.toNatClampNeg x2)) (v := (σ.1 6 (Int32.toNatClampNeg x2))) dX12_worthOf_44 rfl shM_6 (h6 c1 c2) rfl rfl ?_
      refine ax_aload_n (q := 46) (i := 0) dX12_worthOf_45 rfl rfl rfl ?_
      refine ax_get (q := 49) (k := 0) (j := 11) (v := ax_r 7) dX12_worthOf_46 rfl shM_0 rfl rfl rfl (by decide) fl_X12_28 ?_
      refine ax_iload_n (q := 50) (i := 2) dX12_worthOf_49 rfl rfl rfl ?_
      refine ax_iald (q := 51) (a := (Int32.toNatClampNeg x2)) (v := (σ.1 7 (Int32.toNatClampNeg x2))) dX12_worthOf_50 rfl shM_7 (h6 c1 c2) rfl rfl ?_
      exact ax_callVci (q := 54) (As := [ax_i x1, ax_i (σ.1 6 (Int32.toNatClampNeg x2)), ax_i (σ.1 7 (Int32.toNatClampNeg x2))]) (st := []) dX12_worthOf_51 rfl lk_X12_219 shM_0 rfl rfl rfl rfl (Nat.le_of_ble_eq_true rfl) (k7 c1 c2)
set_option maxRecDepth 20000 in
theorem s_X12_worthOf_54 {d : Nat} (hd : 0 ≤ d) {Q : Option ax_V → ax_S → Prop} (σ : ax_S) (x1 : Int32) (x2 : Int32) (rr : Int32) (k1 : (rr = 0) → ax_W shM (d + 1) mX12_worthOf Q 6 [some (ax_r 0), some (ax_i x1), some (ax_i (x2 + (1 : Int32)))] [] σ) (h2 : (¬ (rr = 0)) → vp_in x2 700) (k3 : (¬ (rr = 0)) → ax_Ct shM d mX12_workOut [ax_r 0, ax_i x1, ax_i (σ.1 7 (Int32.toNatClampNeg x2)), ax_i (σ.1 8 (Int32.toNatClampNeg x2))] (fun r u => ∃ x : Int32, r = some (ax_i x) ∧ ax_W shM (d + 1) mX12_worthOf Q 74 [none, none, none] (ax_i x :: []) u) σ) : ax_W shM (d + 1) mX12_worthOf Q 54 [some (ax_r 0), some (ax_i x1), some (ax_i x2)] [ax_i rr] σ := by
  refine ax_if_eq (tgt := 75) (q := 57) dX12_worthOf_54 (by decide) rfl (fun c1 => ?_) (fun c1 => ?_)
  · refine ax_iincK (q := 78) (lv2 := [some (ax_r 0), some (ax_i x1), some (ax_i (x2 + (1 : Int32)))]) dX12_worthOf_75 rfl rfl ki_1 (by decide) rfl rfl ?_
    refine ax_goto (tgt := 6) dX12_worthOf_78 (by decide) ?_
    exact (k1 c1)
  · refine ax_aload_n (q := 58) (i := 0) dX12_worthOf_57 rfl rfl rfl ?_
    refine ax_iload_n (q := 59) (i := 1) dX12_worthOf_58 rfl rfl rfl ?_
    refine ax_aload_n (q := 60) (i := 0) dX12_worthOf_59 rfl rfl rfl ?_
    refine ax_get (q := 63) (k := 0) (j := 11) (v := ax_r 7) dX12_worthOf_60 rfl shM_0 rfl rfl rfl (by decide) fl_X12_28 ?_
    refine ax_iload_n (q := 64) (i := 2) dX12_worthOf_63 rfl rfl rfl ?_
    refine ax_iald (q := 65) (a := (Int32.toNatClampNeg x2)) (v := (σ.1 7 (Int32.toNatClampNeg x2))) dX12_worthOf_64 rfl shM_7 (h2 c1) rfl rfl ?_
    refine ax_aload_n (q := 66) (i := 0) dX12_worthOf_65 rfl rfl rfl ?_
    refine ax_get (q := 69) (k := 0) (j := 12) (v := ax_r 8) dX12_worthOf_66 rfl shM_0 rfl rfl rfl (by decide) fl_X12_31 ?_
    refine ax_iload_n (q := 70) (i := 2) dX12_worthOf_69 rfl rfl rfl ?_
    refine ax_iald (q := 71) (a := (Int32.toNatClampNeg x2)) (v := (σ.1 8 (Int32.toNatClampNeg x2))) dX12_worthOf_70 rfl shM_8 (h2 c1) rfl rfl ?_
    refine ax_fg (lv2 := [none, none, none]) trivial ?_
    exact ax_callVci (q := 74) (As := [ax_i x1, ax_i (σ.1 7 (Int32.toNatClampNeg x2)), ax_i (σ.1 8 (Int32.toNatClampNeg x2))]) (st := []) dX12_worthOf_71 rfl lk_X12_219 shM_0 rfl rfl rfl rfl (Nat.le_of_ble_eq_true rfl) (k3 c1)
set_option maxRecDepth 20000 in
theorem s_X12_worthOf_74 {d : Nat} (hd : 0 ≤ d) {Q : Option ax_V → ax_S → Prop} (σ : ax_S) (rr : Int32) (k1 : Q (some (ax_i rr)) σ) : ax_W shM (d + 1) mX12_worthOf Q 74 [none, none, none] [ax_i rr] σ := by
  exact ax_iret dX12_worthOf_74 rfl rfl k1
set_option maxRecDepth 20000 in
theorem s_X12_number_0 {d : Nat} (hd : 0 ≤ d) {Q : Option ax_V → ax_S → Prop} (σ : ax_S) (a0 : Int32) (a1 : Int32) (k1 : ax_Ct shM d mX12_look [ax_r 0] (fun r u => ∃ x : Int32, r = some (ax_i x) ∧ ax_W shM (d + 1) mX12_number Q 4 [some (ax_r 0), some (ax_i a0), some (ax_i a1), none] (ax_i x :: []) u) σ) : ax_W shM (d + 1) mX12_number Q 0 [some (ax_r 0), some (ax_i a0), some (ax_i a1), none] [] σ := by
  refine ax_aload_n (q := 1) (i := 0) dX12_number_0 rfl rfl rfl ?_
  exact ax_callVci (q := 4) (As := []) (st := []) dX12_number_1 rfl lk_X12_137 shM_0 rfl rfl rfl rfl (Nat.le_of_ble_eq_true rfl) k1
set_option maxRecDepth 20000 in
theorem s_X12_number_4 {d : Nat} (hd : 1 ≤ d) {Q : Option ax_V → ax_S → Prop} (σ : ax_S) (x1 : Int32) (x2 : Int32) (rr : Int32) (h1 : ((¬ (rr < (48 : Int32))) ∧ (¬ ((57 : Int32) < rr))) → (¬ ((σ.1 0 2) ≤ (σ.1 0 3))) → vp_in (σ.1 0 3) 240) (h2 : ((¬ (rr < (48 : Int32))) ∧ (¬ ((57 : Int32) < rr))) → (¬ ((σ.1 0 2) ≤ ((σ.1 0 3) + (1 : Int32)))) → vp_in ((σ.1 0 3) + (1 : Int32)) 240) (h3 : ((¬ (rr < (48 : Int32))) ∧ (¬ ((57 : Int32) < rr))) → (¬ ((¬ ((if ((σ.1 0 2) ≤ ((σ.1 0 3) + (1 : Int32))) then (-1 : Int32) else (σ.1 1 (Int32.toNatClampNeg ((σ.1 0 3) + (1 : Int32))))) < (48 : Int32))) ∧ (¬ ((57 : Int32) < (if ((σ.1 0 2) ≤ ((σ.1 0 3) + (1 : Int32))) then (-1 : Int32) else (σ.1 1 (Int32.toNatClampNeg ((σ.1 0 3) + (1 : Int32))))))))) → (¬ ((σ.1 0 2) ≤ ((σ.1 0 3) + (1 : Int32)))) → vp_in ((σ.1 0 3) + (1 : Int32)) 240) (k4 : ((¬ (rr < (48 : Int32))) ∧ (¬ ((57 : Int32) < rr))) → (¬ ((¬ ((if ((σ.1 0 2) ≤ ((σ.1 0 3) + (1 : Int32))) then (-1 : Int32) else (σ.1 1 (Int32.toNatClampNeg ((σ.1 0 3) + (1 : Int32))))) < (48 : Int32))) ∧ (¬ ((57 : Int32) < (if ((σ.1 0 2) ≤ ((σ.1 0 3) + (1 : Int32))) then (-1 : Int32) else (σ.1 1 (Int32.toNatClampNeg ((σ.1 0 3) + (1 : Int32))))))))) → ((¬ (((if ((σ.1 0 2) ≤ (σ.1 0 3)) then (-1 : Int32) else (σ.1 1 (Int32.toNatClampNeg (σ.1 0 3)))) - (48 : Int32)) < x1)) ∧ (¬ (x2 < ((if ((σ.1 0 2) ≤ (σ.1 0 3)) then (-1 : Int32) else (σ.1 1 (Int32.toNatClampNeg (σ.1 0 3)))) - (48 : Int32))))) → Q (some (ax_i ((if ((σ.1 0 2) ≤ (σ.1 0 3)) then (-1 : Int32) else (σ.1 1 (Int32.toNatClampNeg (σ.1 0 3)))) - (48 : Int32)))) (ax_ui σ 0 3 ((σ.1 0 3) + (1 : Int32)))) (k5 : ((¬ (rr < (48 : Int32))) ∧ (¬ ((57 : Int32) < rr))) → (¬ ((¬ ((if ((σ.1 0 2) ≤ ((σ.1 0 3) + (1 : Int32))) then (-1 : Int32) else (σ.1 1 (Int32.toNatClampNeg ((σ.1 0 3) + (1 : Int32))))) < (48 : Int32))) ∧ (¬ ((57 : Int32) < (if ((σ.1 0 2) ≤ ((σ.1 0 3) + (1 : Int32))) then (-1 : Int32) else (σ.1 1 (Int32.toNatClampNeg ((σ.1 0 3) + (1 : Int32))))))))) → (¬ ((¬ (((if ((σ.1 0 2) ≤ (σ.1 0 3)) then (-1 : Int32) else (σ.1 1 (Int32.toNatClampNeg (σ.1 0 3)))) - (48 : Int32)) < x1)) ∧ (¬ (x2 < ((if ((σ.1 0 2) ≤ (σ.1 0 3)) then (-1 : Int32) else (σ.1 1 (Int32.toNatClampNeg (σ.1 0 3)))) - (48 : Int32)))))) → Q (some (ax_i ((if ((σ.1 0 2) ≤ (σ.1 0 3)) then (-1 : Int32) else (σ.1 1 (Int32.toNatClampNeg (σ.1 0 3)))) - (48 : Int32)))) (ax_ui (ax_ui (ax_ui σ 0 3 ((σ.1 0 3) + (1 : Int32))) 0 3 (((σ.1 0 3) + (1 : Int32)) - (1 : Int32))) 0 4 (if (¬ (σ.1 0 4) = (-1 : Int32)) then (σ.1 0 4) else (((σ.1 0 3) + (1 : Int32)) - (1 : Int32))))) (h6 : ((¬ (rr < (48 : Int32))) ∧ (¬ ((57 : Int32) < rr))) → ((¬ ((if ((σ.1 0 2) ≤ ((σ.1 0 3) + (1 : Int32))) then (-1 : Int32) else (σ.1 1 (Int32.toNatClampNeg ((σ.1 0 3) + (1 : Int32))))) < (48 : Int32))) ∧ (¬ ((57 : Int32) < (if ((σ.1 0 2) ≤ ((σ.1 0 3) + (1 : Int32))) then (-1 : Int32) else (σ.1 1 (Int32.toNatClampNeg ((σ.1 0 3) + (1 : Int32)))))))) → (¬ ((σ.1 0 2) ≤ ((σ.1 0 3) + (1 : Int32)))) → vp_in ((σ.1 0 3) + (1 : Int32)) 240) (h7 : ((¬ (rr < (48 : Int32))) ∧ (¬ ((57 : Int32) < rr))) → ((¬ ((if ((σ.1 0 2) ≤ ((σ.1 0 3) + (1 : Int32))) then (-1 : Int32) else (σ.1 1 (Int32.toNatClampNeg ((σ.1 0 3) + (1 : Int32))))) < (48 : Int32))) ∧ (¬ ((57 : Int32) < (if ((σ.1 0 2) ≤ ((σ.1 0 3) + (1 : Int32))) then (-1 : Int32) else (σ.1 1 (Int32.toNatClampNeg ((σ.1 0 3) + (1 : Int32)))))))) → (¬ ((σ.1 0 2) ≤ (((σ.1 0 3) + (1 : Int32)) + (1 : Int32)))) → vp_in (((σ.1 0 3) + (1 : Int32)) + (1 : Int32)) 240) (k8 : ((¬ (rr < (48 : Int32))) ∧ (¬ ((57 : Int32) < rr))) → ((¬ ((if ((σ.1 0 2) ≤ ((σ.1 0 3) + (1 : Int32))) then (-1 : Int32) else (σ.1 1 (Int32.toNatClampNeg ((σ.1 0 3) + (1 : Int32))))) < (48 : Int32))) ∧ (¬ ((57 : Int32) < (if ((σ.1 0 2) ≤ ((σ.1 0 3) + (1 : Int32))) then (-1 : Int32) else (σ.1 1 (Int32.toNatClampNeg ((σ.1 0 3) + (1 : Int32)))))))) → (¬ ((¬ ((if ((σ.1 0 2) ≤ (((σ.1 0 3) + (1 : Int32)) + (1 : Int32))) then (-1 : Int32) else (σ.1 1 (Int32.toNatClampNeg (((σ.1 0 3) + (1 : Int32)) + (1 : Int32))))) < (48 : Int32))) ∧ (¬ ((57 : Int32) < (if ((σ.1 0 2) ≤ (((σ.1 0 3) + (1 : Int32)) + (1 : Int32))) then (-1 : Int32) else (σ.1 1 (Int32.toNatClampNeg (((σ.1 0 3) + (1 : Int32)) + (1 : Int32))))))))) → ((¬ (((((10 : Int32) * ((if ((σ.1 0 2) ≤ (σ.1 0 3)) then (-1 : Int32) else (σ.1 1 (Int32.toNatClampNeg (σ.1 0 3)))) - (48 : Int32))) + (if ((σ.1 0 2) ≤ ((σ.1 0 3) + (1 : Int32))) then (-1 : Int32) else (σ.1 1 (Int32.toNatClampNeg ((σ.1 0 3) + (1 : Int32)))))) - (48 : Int32)) < x1)) ∧ (¬ (x2 < ((((10 : Int32) * ((if ((σ.1 0 2) ≤ (σ.1 0 3)) then (-1 : Int32) else (σ.1 1 (Int32.toNatClampNeg (σ.1 0 3)))) - (48 : Int32))) + (if ((σ.1 0 2) ≤ ((σ.1 0 3) + (1 : Int32))) then (-1 : Int32) else (σ.1 1 (Int32.toNatClampNeg ((σ.1 0 3) + (1 : Int32)))))) - (48 : Int32))))) → Q (some (ax_i ((((10 : Int32) * ((if ((σ.1 0 2) ≤ (σ.1 0 3)) then (-1 : Int32) else (σ.1 1 (Int32.toNatClampNeg (σ.1 0 3)))) - (48 : Int32))) + (if ((σ.1 0 2) ≤ ((σ.1 0 3) + (1 : Int32))) then (-1 : Int32) else (σ.1 1 (Int32.toNatClampNeg ((σ.1 0 3) + (1 : Int32)))))) - (48 : Int32)))) (ax_ui (ax_ui σ 0 3 ((σ.1 0 3) + (1 : Int32))) 0 3 (((σ.1 0 3) + (1 : Int32)) + (1 : Int32)))) (k9 : ((¬ (rr < (48 : Int32))) ∧ (¬ ((57 : Int32) < rr))) → ((¬ ((if ((σ.1 0 2) ≤ ((σ.1 0 3) + (1 : Int32))) then (-1 : Int32) else (σ.1 1 (Int32.toNatClampNeg ((σ.1 0 3) + (1 : Int32))))) < (48 : Int32))) ∧ (¬ ((57 : Int32) < (if ((σ.1 0 2) ≤ ((σ.1 0 3) + (1 : Int32))) then (-1 : Int32) else (σ.1 1 (Int32.toNatClampNeg ((σ.1 0 3) + (1 : Int32)))))))) → (¬ ((¬ ((if ((σ.1 0 2) ≤ (((σ.1 0 3) + (1 : Int32)) + (1 : Int32))) then (-1 : Int32) else (σ.1 1 (Int32.toNatClampNeg (((σ.1 0 3) + (1 : Int32)) + (1 : Int32))))) < (48 : Int32))) ∧ (¬ ((57 : Int32) < (if ((σ.1 0 2) ≤ (((σ.1 0 3) + (1 : Int32)) + (1 : Int32))) then (-1 : Int32) else (σ.1 1 (Int32.toNatClampNeg (((σ.1 0 3) + (1 : Int32)) + (1 : Int32))))))))) → (¬ ((¬ (((((10 : Int32) * ((if ((σ.1 0 2) ≤ (σ.1 0 3)) then (-1 : Int32) else (σ.1 1 (Int32.toNatClampNeg (σ.1 0 3)))) - (48 : Int32))) + (if ((σ.1 0 2) ≤ ((σ.1 0 3) + (1 : Int32))) then (-1 : Int32) else (σ.1 1 (Int32.toNatClampNeg ((σ.1 0 3) + (1 : Int32)))))) - (48 : Int32)) < x1)) ∧ (¬ (x2 < ((((10 : Int32) * ((if ((σ.1 0 2) ≤ (σ.1 0 3)) then (-1 : Int32) else (σ.1 1 (Int32.toNatClampNeg (σ.1 0 3)))) - (48 : Int32))) + (if ((σ.1 0 2) ≤ ((σ.1 0 3) + (1 : Int32))) then (-1 : Int32) else (σ.1 1 (Int32.toNatClampNeg ((σ.1 0 3) + (1 : Int32)))))) - (48 : Int32)))))) → Q (some (ax_i ((((10 : Int32) * ((if ((σ.1 0 2) ≤ (σ.1 0 3)) then (-1 : Int32) else (σ.1 1 (Int32.toNatClampNeg (σ.1 0 3)))) - (48 : Int32))) + (if ((σ.1 0 2) ≤ ((σ.1 0 3) + (1 : Int32))) then (-1 : Int32) else (σ.1 1 (Int32.toNatClampNeg ((σ.1 0 3) + (1 : Int32)))))) - (48 : Int32)))) (ax_ui (ax_ui (ax_ui (ax_ui σ 0 3 ((σ.1 0 3) + (1 : Int32))) 0 3 (((σ.1 0 3) + (1 : Int32)) + (1 : Int32))) 0 3 ((((σ.1 0 3) + (1 : Int32)) + (1 : Int32)) - (1 : Int32))) 0 4 (if (¬ (σ.1 0 4) = (-1 : Int32)) then (σ.1 0 4) else ((((σ.1 0 3) + (1 : Int32)) + (1 : Int32)) - (1 : Int32))))) (k10 : ((¬ (rr < (48 : Int32))) ∧ (¬ ((57 : Int32) < rr))) → ((¬ ((if ((σ.1 0 2) ≤ ((σ.1 0 3) + (1 : Int32))) then (-1 : Int32) else (σ.1 1 (Int32.toNatClampNeg ((σ.1 0 3) + (1 : Int32))))) < (48 : Int32))) ∧ (¬ ((57 : Int32) < (if ((σ.1 0 2) ≤ ((σ.1 0 3) + (1 : Int32))) then (-1 : Int32) else (σ.1 1 (Int32.toNatClampNeg ((σ.1 0 3) + (1 : Int32)))))))) → ((¬ ((if ((σ.1 0 2) ≤ (((σ.1 0 3) + (1 : Int32)) + (1 : Int32))) then (-1 : Int32) else (σ.1 1 (Int32.toNatClampNeg (((σ.1 0 3) + (1 : Int32)) + (1 : Int32))))) < (48 : Int32))) ∧ (¬ ((57 : Int32) < (if ((σ.1 0 2) ≤ (((σ.1 0 3) + (1 : Int32)) + (1 : Int32))) then (-1 : Int32) else (σ.1 1 (Int32.toNatClampNeg (((σ.1 0 3) + (1 : Int32)) + (1 : Int32)))))))) → Q (some (ax_i ((((10 : Int32) * ((if ((σ.1 0 2) ≤ (σ.1 0 3)) then (-1 : Int32) else (σ.1 1 (Int32.toNatClampNeg (σ.1 0 3)))) - (48 : Int32))) + (if ((σ.1 0 2) ≤ ((σ.1 0 3) + (1 : Int32))) then (-1 : Int32) else (σ.1 1 (Int32.toNatClampNeg ((σ.1 0 3) + (1 : Int32)))))) - (48 : Int32)))) (ax_ui (ax_ui (ax_ui σ 0 3 ((σ.1 0 3) + (1 : Int32))) 0 3 (((σ.1 0 3) + (1 : Int32)) + (1 : Int32))) 0 4 (if (¬ (σ.1 0 4) = (-1 : Int32)) then (σ.1 0 4) else (((σ.1 0 3) + (1 : Int32)) + (1 : Int32))))) (k11 : (¬ ((¬ (rr < (48 : Int32))) ∧ (¬ ((57 : Int32) < rr)))) → Q (some (ax_i x1)) (ax_ui σ 0 4 (if (¬ (σ.1 0 4) = (-1 : Int32)) then (σ.1 0 4) else (σ.1 0 3)))) : ax_W shM (d + 1) mX12_number Q 4 [some (ax_r 0), some (ax_i x1), some (ax_i x2), none] [ax_i rr] σ := by
  refine ax_callSfi (q := 7) (As := [ax_i rr]) (st := []) (x := (if ((¬ (rr < (48 : Int32))) ∧ (¬ ((57 : Int32) < rr))) then (1 : Int32) else 0)) (σ2 := σ) dX12_number_4 rfl lk_X12_140 rfl rfl (Nat.le_of_ble_eq_true rfl) (f_X12_isDigit (sh := shM) σ rr  (d := d) (by omega)) ?_
  refine ax_if_neB (tgt := 16) (q := 10) dX12_number_7 (by decide) rfl (fun c1 => ?_) (fun c1 => ?_)
  · refine ax_aload_n (q := 17) (i := 0) dX12_number_16 rfl rfl rfl ?_
    refine ax_callVfi (q := 20) (As := []) (st := []) (x := (if ((σ.1 0 2) ≤ (σ.1 0 3)) then (-1 : Int32) else (σ.1 1 (Int32.toNatClampNeg (σ.1 0 3))))) (σ2 := σ) dX12_number_17 rfl lk_X12_121 shM_0 rfl rfl rfl rfl (Nat.le_of_ble_eq_true rfl) (f_X12_here σ  (h1 c1) (d := d) (by omega)) ?_
    refine ax_bipush (q := 22) dX12_number_20 rfl kb_48 ?_
    refine ax_isub (q := 23) dX12_number_22 rfl ?_
    refine ax_istore_n (q := 24) (i := 3) (lv2 := [some (ax_r 0), some (ax_i x1), some (ax_i x2), some (ax_i ((if ((σ.1 0 2) ≤ (σ.1 0 3)) then (-1 : Int32) else (σ.1 1 (Int32.toNatClampNeg (σ.1 0 3)))) - (48 : Int32)))]) dX12_number_23 rfl rfl (by decide) rfl rfl ?_
    refine ax_aload_n (q := 25) (i := 0) dX12_number_24 rfl rfl rfl ?_
    refine ax_dupr (q := 26) dX12_number_25 rfl ?_
    refine ax_get (q := 29) (k := 0) (j := 3) (v := ax_i (σ.1 0 3)) dX12_number_26 rfl shM_0 rfl rfl rfl (by decide) fl_X12_118 ?_
    refine ax_iconst (q := 30) dX12_number_29 rfl ki_1 ?_
    refine ax_iadd (q := 31) dX12_number_30 rfl ?_
    refine ax_puti (q := 34) (k := 0) (j := 3) dX12_number_31 rfl shM_0 rfl rfl (by decide) fl_X12_118 rfl rfl rfl rfl ?_
    refine ax_aload_n (q := 35) (i := 0) dX12_number_34 rfl rfl rfl ?_
    refine ax_callVfi (q := 38) (As := []) (st := []) (x := (if ((σ.1 0 2) ≤ ((σ.1 0 3) + (1 : Int32))) then (-1 : Int32) else (σ.1 1 (Int32.toNatClampNeg ((σ.1 0 3) + (1 : Int32)))))) (σ2 := (ax_ui σ 0 3 ((σ.1 0 3) + (1 : Int32)))) dX12_number_35 rfl lk_X12_121 shM_0 rfl rfl rfl rfl (Nat.le_of_ble_eq_true rfl) (f_X12_here (ax_ui σ 0 3 ((σ.1 0 3) + (1 : Int32)))  (h2 c1) (d := d) (by omega)) ?_
    refine ax_callSfi (q := 41) (As := [ax_i (if ((σ.1 0 2) ≤ ((σ.1 0 3) + (1 : Int32))) then (-1 : Int32) else (σ.1 1 (Int32.toNatClampNeg ((σ.1 0 3) + (1 : Int32)))))]) (st := []) (x := (if ((¬ ((if ((σ.1 0 2) ≤ ((σ.1 0 3) + (1 : Int32))) then (-1 : Int32) else (σ.1 1 (Int32.toNatClampNeg ((σ.1 0 3) + (1 : Int32))))) < (48 : Int32))) ∧ (¬ ((57 : Int32) < (if ((σ.1 0 2) ≤ ((σ.1 0 3) + (1 : Int32))) then (-1 : Int32) else (σ.1 1 (Int32.toNatClampNeg ((σ.1 0 3) + (1 : Int32)))))))) then (1 : Int32) else 0)) (σ2 := (ax_ui σ 0 3 ((σ.1 0 3) + (1 : Int32)))) dX12_number_38 rfl lk_X12_140 rfl rfl (Nat.le_of_ble_eq_true rfl) (f_X12_isDigit (sh := shM) (ax_ui σ 0 3 ((σ.1 0 3) + (1 : Int32))) (if ((σ.1 0 2) ≤ ((σ.1 0 3) + (1 : Int32))) then (-1 : Int32) else (σ.1 1 (Int32.toNatClampNeg ((σ.1 0 3) + (1 : Int32)))))  (d := d) (by omega)) ?_
    refine ax_if_eqB (tgt := 67) (q := 44) dX12_number_41 (by decide) rfl (fun c2 => ?_) (fun c2 => ?_)
    · refine ax_aload_n (q := 68) (i := 0) dX12_number_67 rfl rfl rfl ?_
      refine ax_callVfi (q := 71) (As := []) (st := []) (x := (if ((σ.1 0 2) ≤ ((σ.1 0 3) + (1 : Int32))) then (-1 : Int32) else (σ.1 1 (Int32.toNatClampNeg ((σ.1 0 3) + (1 : Int32)))))) (σ2 := (ax_ui σ 0 3 ((σ.1 0 3) + (1 : Int32)))) dX12_number_68 rfl lk_X12_121 shM_0 rfl rfl rfl rfl (Nat.le_of_ble_eq_true rfl) (f_X12_here (ax_ui σ 0 3 ((σ.1 0 3) + (1 : Int32)))  (h3 c1 c2) (d := d) (by omega)) ?_
      refine ax_callSfi (q := 74) (As := [ax_i (if ((σ.1 0 2) ≤ ((σ.1 0 3) + (1 : Int32))) then (-1 : Int32) else (σ.1 1 (Int32.toNatClampNeg ((σ.1 0 3) + (1 : Int32)))))]) (st := []) (x := (if ((¬ ((if ((σ.1 0 2) ≤ ((σ.1 0 3) + (1 : Int32))) then (-1 : Int32) else (σ.1 1 (Int32.toNatClampNeg ((σ.1 0 3) + (1 : Int32))))) < (48 : Int32))) ∧ (¬ ((57 : Int32) < (if ((σ.1 0 2) ≤ ((σ.1 0 3) + (1 : Int32))) then (-1 : Int32) else (σ.1 1 (Int32.toNatClampNeg ((σ.1 0 3) + (1 : Int32)))))))) then (1 : Int32) else 0)) (σ2 := (ax_ui σ 0 3 ((σ.1 0 3) + (1 : Int32)))) dX12_number_71 rfl lk_X12_140 rfl rfl (Nat.le_of_ble_eq_true rfl) (f_X12_isDigit (sh := shM) (ax_ui σ 0 3 ((σ.1 0 3) + (1 : Int32))) (if ((σ.1 0 2) ≤ ((σ.1 0 3) + (1 : Int32))) then (-1 : Int32) else (σ.1 1 (Int32.toNatClampNeg ((σ.1 0 3) + (1 : Int32)))))  (d := d) (by omega)) ?_
      refine ax_if_eqB (tgt := 84) (q := 77) dX12_number_74 (by decide) rfl (fun c3 => ?_) (fun c3 => ?_)
      · refine ax_iload_n (q := 85) (i := 3) dX12_number_84 rfl rfl rfl ?_
        refine ax_iload_n (q := 86) (i := 1) dX12_number_85 rfl rfl rfl ?_
        refine ax_iload_n (q := 87) (i := 2) dX12_number_86 rfl rfl rfl ?_
        refine ax_callSfi (q := 90) (As := [ax_i ((if ((σ.1 0 2) ≤ (σ.1 0 3)) then (-1 : Int32) else (σ.1 1 (Int32.toNatClampNeg (σ.1 0 3)))) - (48 : Int32)), ax_i x1, ax_i x2]) (st := []) (x := (if ((¬ (((if ((σ.1 0 2) ≤ (σ.1 0 3)) then (-1 : Int32) else (σ.1 1 (Int32.toNatClampNeg (σ.1 0 3)))) - (48 : Int32)) < x1)) ∧ (¬ (x2 < ((if ((σ.1 0 2) ≤ (σ.1 0 3)) then (-1 : Int32) else (σ.1 1 (Int32.toNatClampNeg (σ.1 0 3)))) - (48 : Int32))))) then (1 : Int32) else 0)) (σ2 := (ax_ui σ 0 3 ((σ.1 0 3) + (1 : Int32)))) dX12_number_87 rfl lk_X12_223 rfl rfl (Nat.le_of_ble_eq_true rfl) (f_X12_in (sh := shM) (ax_ui σ 0 3 ((σ.1 0 3) + (1 : Int32))) ((if ((σ.1 0 2) ≤ (σ.1 0 3)) then (-1 : Int32) else (σ.1 1 (Int32.toNatClampNeg (σ.1 0 3)))) - (48 : Int32)) x1 x2  (d := d) (by omega)) ?_
        refine ax_if_neB (tgt := 107) (q := 93) dX12_number_90 (by decide) rfl (fun c4 => ?_) (fun c4 => ?_)
        · refine ax_iload_n (q := 108) (i := 3) dX12_number_107 rfl rfl rfl ?_
          exact ax_iret dX12_number_108 rfl rfl (k4 c1 c2 c4)
        · refine ax_aload_n (q := 94) (i := 0) dX12_number_93 rfl rfl rfl ?_
          refine ax_dupr (q := 95) dX12_number_94 rfl ?_
          refine ax_get (q := 98) (k := 0) (j := 3) (v := ax_i ((σ.1 0 3) + (1 : Int32))) dX12_number_95 rfl shM_0 rfl rfl rfl (by decide) fl_X12_118 ?_
          refine ax_iconst (q := 99) dX12_number_98 rfl ki_1 ?_
          refine ax_isub (q := 100) dX12_number_99 rfl ?_
          refine ax_puti (q := 103) (k := 0) (j := 3) dX12_number_100 rfl shM_0 rfl rfl (by decide) fl_X12_118 rfl rfl rfl rfl ?_
          refine ax_aload_n (q := 104) (i := 0) dX12_number_103 rfl rfl rfl ?_
          refine ax_callVfv (q := 107) (As := []) (st := []) (σ2 := (ax_ui (ax_ui (ax_ui σ 0 3 ((σ.1 0 3) + (1 : Int32))) 0 3 (((σ.1 0 3) + (1 : Int32)) - (1 : Int32))) 0 4 (if (¬ (σ.1 0 4) = (-1 : Int32)) then (σ.1 0 4) else (((σ.1 0 3) + (1 : Int32)) - (1 : Int32))))) dX12_number_104 rfl lk_X12_134 shM_0 rfl rfl rfl rfl (Nat.le_of_ble_eq_true rfl) (f_X12_bad (ax_ui (ax_ui σ 0 3 ((σ.1 0 3) + (1 : Int32))) 0 3 (((σ.1 0 3) + (1 : Int32)) - (1 : Int32)))   (d := d) (by omega)) ?_
          refine ax_iload_n (q := 108) (i := 3) dX12_number_107 rfl rfl rfl ?_
          exact ax_iret dX12_number_108 rfl rfl (k5 c1 c2 c4)
      · exact absurd c3 c2
    · refine ax_bipush (q := 46) dX12_number_44 rfl kb_10 ?_
      refine ax_iload_n (q := 47) (i := 3) dX12_number_46 rfl rfl rfl ?_
      refine ax_imul (q := 48) dX12_number_47 rfl ?_
      refine ax_aload_n (q := 49) (i := 0) dX12_number_48 rfl rfl rfl ?_
      refine ax_callVfi (q := 52) (As := []) (st := [ax_i ((10 : Int32) * ((if ((σ.1 0 2) ≤ (σ.1 0 3)) then (-1 : Int32) else (σ.1 1 (Int32.toNatClampNeg (σ.1 0 3)))) - (48 : Int32)))]) (x := (if ((σ.1 0 2) ≤ ((σ.1 0 3) + (1 : Int32))) then (-1 : Int32) else (σ.1 1 (Int32.toNatClampNeg ((σ.1 0 3) + (1 : Int32)))))) (σ2 := (ax_ui σ 0 3 ((σ.1 0 3) + (1 : Int32)))) dX12_number_49 rfl lk_X12_121 shM_0 rfl rfl rfl rfl (Nat.le_of_ble_eq_true rfl) (f_X12_here (ax_ui σ 0 3 ((σ.1 0 3) + (1 : Int32)))  (h6 c1 c2) (d := d) (by omega)) ?_
      refine ax_iadd (q := 53) dX12_number_52 rfl ?_
      refine ax_bipush (q := 55) dX12_number_53 rfl kb_48 ?_
      refine ax_isub (q := 56) dX12_number_55 rfl ?_
      refine ax_istore_n (q := 57) (i := 3) (lv2 := [some (ax_r 0), some (ax_i x1), some (ax_i x2), some (ax_i ((((10 : Int32) * ((if ((σ.1 0 2) ≤ (σ.1 0 3)) then (-1 : Int32) else (σ.1 1 (Int32.toNatClampNeg (σ.1 0 3)))) - (48 : Int32))) + (if ((σ.1 0 2) ≤ ((σ.1 0 3) + (1 : Int32))) then (-1 : Int32) else (σ.1 1 (Int32.toNatClampNeg ((σ.1 0 3) + (1 : Int32)))))) - (48 : Int32)))]) dX12_number_56 rfl rfl (by decide) rfl rfl ?_
      refine ax_aload_n (q := 58) (i := 0) dX12_number_57 rfl rfl rfl ?_
      refine ax_dupr (q := 59) dX12_number_58 rfl ?_
      refine ax_get (q := 62) (k := 0) (j := 3) (v := ax_i ((σ.1 0 3) + (1 : Int32))) dX12_number_59 rfl shM_0 rfl rfl rfl (by decide) fl_X12_118 ?_
      refine ax_iconst (q := 63) dX12_number_62 rfl ki_1 ?_
      refine ax_iadd (q := 64) dX12_number_63 rfl ?_
      refine ax_puti (q := 67) (k := 0) (j := 3) dX12_number_64 rfl shM_0 rfl rfl (by decide) fl_X12_118 rfl rfl rfl rfl ?_
      refine ax_aload_n (q := 68) (i := 0) dX12_number_67 rfl rfl rfl ?_
      refine ax_callVfi (q := 71) (As := []) (st := []) (x := (if ((σ.1 0 2) ≤ (((σ.1 0 3) + (1 : Int32)) + (1 : Int32))) then (-1 : Int32) else (σ.1 1 (Int32.toNatClampNeg (((σ.1 0 3) + (1 : Int32)) + (1 : Int32)))))) (σ2 := (ax_ui (ax_ui σ 0 3 ((σ.1 0 3) + (1 : Int32))) 0 3 (((σ.1 0 3) + (1 : Int32)) + (1 : Int32)))) dX12_number_68 rfl lk_X12_121 shM_0 rfl rfl rfl rfl (Nat.le_of_ble_eq_true rfl) (f_X12_here (ax_ui (ax_ui σ 0 3 ((σ.1 0 3) + (1 : Int32))) 0 3 (((σ.1 0 3) + (1 : Int32)) + (1 : Int32)))  (h7 c1 c2) (d := d) (by omega)) ?_
      refine ax_callSfi (q := 74) (As := [ax_i (if ((σ.1 0 2) ≤ (((σ.1 0 3) + (1 : Int32)) + (1 : Int32))) then (-1 : Int32) else (σ.1 1 (Int32.toNatClampNeg (((σ.1 0 3) + (1 : Int32)) + (1 : Int32)))))]) (st := []) (x := (if ((¬ ((if ((σ.1 0 2) ≤ (((σ.1 0 3) + (1 : Int32)) + (1 : Int32))) then (-1 : Int32) else (σ.1 1 (Int32.toNatClampNeg (((σ.1 0 3) + (1 : Int32)) + (1 : Int32))))) < (48 : Int32))) ∧ (¬ ((57 : Int32) < (if ((σ.1 0 2) ≤ (((σ.1 0 3) + (1 : Int32)) + (1 : Int32))) then (-1 : Int32) else (σ.1 1 (Int32.toNatClampNeg (((σ.1 0 3) + (1 : Int32)) + (1 : Int32)))))))) then (1 : Int32) else 0)) (σ2 := (ax_ui (ax_ui σ 0 3 ((σ.1 0 3) + (1 : Int32))) 0 3 (((σ.1 0 3) + (1 : Int32)) + (1 : Int32)))) dX12_number_71 rfl lk_X12_140 rfl rfl (Nat.le_of_ble_eq_true rfl) (f_X12_isDigit (sh := shM) (ax_ui (ax_ui σ 0 3 ((σ.1 0 3) + (1 : Int32))) 0 3 (((σ.1 0 3) + (1 : Int32)) + (1 : Int32))) (if ((σ.1 0 2) ≤ (((σ.1 0 3) + (1 : Int32)) + (1 : Int32))) then (-1 : Int32) else (σ.1 1 (Int32.toNatClampNeg (((σ.1 0 3) + (1 : Int32)) + (1 : Int32)))))  (d := d) (by omega)) ?_
      refine ax_if_eqB (tgt := 84) (q := 77) dX12_number_74 (by decide) rfl (fun c5 => ?_) (fun c5 => ?_)
      · refine ax_iload_n (q := 85) (i := 3) dX12_number_84 rfl rfl rfl ?_
        refine ax_iload_n (q := 86) (i := 1) dX12_number_85 rfl rfl rfl ?_
        refine ax_iload_n (q := 87) (i := 2) dX12_number_86 rfl rfl rfl ?_
        refine ax_callSfi (q := 90) (As := [ax_i ((((10 : Int32) * ((if ((σ.1 0 2) ≤ (σ.1 0 3)) then (-1 : Int32) else (σ.1 1 (Int32.toNatClampNeg (σ.1 0 3)))) - (48 : Int32))) + (if ((σ.1 0 2) ≤ ((σ.1 0 3) + (1 : Int32))) then (-1 : Int32) else (σ.1 1 (Int32.toNatClampNeg ((σ.1 0 3) + (1 : Int32)))))) - (48 : Int32)), ax_i x1, ax_i x2]) (st := []) (x := (if ((¬ (((((10 : Int32) * ((if ((σ.1 0 2) ≤ (σ.1 0 3)) then (-1 : Int32) else (σ.1 1 (Int32.toNatClampNeg (σ.1 0 3)))) - (48 : Int32))) + (if ((σ.1 0 2) ≤ ((σ.1 0 3) + (1 : Int32))) then (-1 : Int32) else (σ.1 1 (Int32.toNatClampNeg ((σ.1 0 3) + (1 : Int32)))))) - (48 : Int32)) < x1)) ∧ (¬ (x2 < ((((10 : Int32) * ((if ((σ.1 0 2) ≤ (σ.1 0 3)) then (-1 : Int32) else (σ.1 1 (Int32.toNatClampNeg (σ.1 0 3)))) - (48 : Int32))) + (if ((σ.1 0 2) ≤ ((σ.1 0 3) + (1 : Int32))) then (-1 : Int32) else (σ.1 1 (Int32.toNatClampNeg ((σ.1 0 3) + (1 : Int32)))))) - (48 : Int32))))) then (1 : Int32) else 0)) (σ2 := (ax_ui (ax_ui σ 0 3 ((σ.1 0 3) + (1 : Int32))) 0 3 (((σ.1 0 3) + (1 : Int32)) + (1 : Int32)))) dX12_number_87 rfl lk_X12_223 rfl rfl (Nat.le_of_ble_eq_true rfl) (f_X12_in (sh := shM) (ax_ui (ax_ui σ 0 3 ((σ.1 0 3) + (1 : Int32))) 0 3 (((σ.1 0 3) + (1 : Int32)) + (1 : Int32))) ((((10 : Int32) * ((if ((σ.1 0 2) ≤ (σ.1 0 3)) then (-1 : Int32) else (σ.1 1 (Int32.toNatClampNeg (σ.1 0 3)))) - (48 : Int32))) + (if ((σ.1 0 2) ≤ ((σ.1 0 3) + (1 : Int32))) then (-1 : Int32) else (σ.1 1 (Int32.toNatClampNeg ((σ.1 0 3) + (1 : Int32)))))) - (48 : Int32)) x1 x2  (d := d) (by omega)) ?_
        refine ax_if_neB (tgt := 107) (q := 93) dX12_number_90 (by decide) rfl (fun c6 => ?_) (fun c6 => ?_)
        · refine ax_iload_n (q := 108) (i := 3) dX12_number_107 rfl rfl rfl ?_
          exact ax_iret dX12_number_108 rfl rfl (k8 c1 c2 c5 c6)
        · refine ax_aload_n (q := 94) (i := 0) dX12_number_93 rfl rfl rfl ?_
          refine ax_dupr (q := 95) dX12_number_94 rfl ?_
          refine ax_get (q := 98) (k := 0) (j := 3) (v := ax_i (((σ.1 0 3) + (1 : Int32)) + (1 : Int32))) dX12_number_95 rfl shM_0 rfl rfl rfl (by decide) fl_X12_118 ?_
          refine ax_iconst (q := 99) dX12_number_98 rfl ki_1 ?_
          refine ax_isub (q := 100) dX12_number_99 rfl ?_
          refine ax_puti (q := 103) (k := 0) (j := 3) dX12_number_100 rfl shM_0 rfl rfl (by decide) fl_X12_118 rfl rfl rfl rfl ?_
          refine ax_aload_n (q := 104) (i := 0) dX12_number_103 rfl rfl rfl ?_
          refine ax_callVfv (q := 107) (As := []) (st := []) (σ2 := (ax_ui (ax_ui (ax_ui (ax_ui σ 0 3 ((σ.1 0 3) + (1 : Int32))) 0 3 (((σ.1 0 3) + (1 : Int32)) + (1 : Int32))) 0 3 ((((σ.1 0 3) + (1 : Int32)) + (1 : Int32)) - (1 : Int32))) 0 4 (if (¬ (σ.1 0 4) = (-1 : Int32)) then (σ.1 0 4) else ((((σ.1 0 3) + (1 : Int32)) + (1 : Int32)) - (1 : Int32))))) dX12_number_104 rfl lk_X12_134 shM_0 rfl rfl rfl rfl (Nat.le_of_ble_eq_true rfl) (f_X12_bad (ax_ui (ax_ui (ax_ui σ 0 3 ((σ.1 0 3) + (1 : Int32))) 0 3 (((σ.1 0 3) + (1 : Int32)) + (1 : Int32))) 0 3 ((((σ.1 0 3) + (1 : Int32)) + (1 : Int32)) - (1 : Int32)))   (d := d) (by omega)) ?_
          refine ax_iload_n (q := 108) (i := 3) dX12_number_107 rfl rfl rfl ?_
          exact ax_iret dX12_number_108 rfl rfl (k9 c1 c2 c5 c6)
      · refine ax_aload_n (q := 78) (i := 0) dX12_number_77 rfl rfl rfl ?_
        refine ax_callVfv (q := 81) (As := []) (st := []) (σ2 := (ax_ui (ax_ui (ax_ui σ 0 3 ((σ.1 0 3) + (1 : Int32))) 0 3 (((σ.1 0 3) + (1 : Int32)) + (1 : Int32))) 0 4 (if (¬ (σ.1 0 4) = (-1 : Int32)) then (σ.1 0 4) else (((σ.1 0 3) + (1 : Int32)) + (1 : Int32))))) dX12_number_78 rfl lk_X12_134 shM_0 rfl rfl rfl rfl (Nat.le_of_ble_eq_true rfl) (f_X12_bad (ax_ui (ax_ui σ 0 3 ((σ.1 0 3) + (1 : Int32))) 0 3 (((σ.1 0 3) + (1 : Int32)) + (1 : Int32)))   (d := d) (by omega)) ?_
        refine ax_goto (tgt := 107) dX12_number_81 (by decide) ?_
        refine ax_iload_n (q := 108) (i := 3) dX12_number_107 rfl rfl rfl ?_
        exact ax_iret dX12_number_108 rfl rfl (k10 c1 c2 c5)
  · refine ax_aload_n (q := 11) (i := 0) dX12_number_10 rfl rfl rfl ?_
    refine ax_callVfv (q := 14) (As := []) (st := []) (σ2 := (ax_ui σ 0 4 (if (¬ (σ.1 0 4) = (-1 : Int32)) then (σ.1 0 4) else (σ.1 0 3)))) dX12_number_11 rfl lk_X12_134 shM_0 rfl rfl rfl rfl (Nat.le_of_ble_eq_true rfl) (f_X12_bad σ   (d := d) (by omega)) ?_
    refine ax_iload_n (q := 15) (i := 1) dX12_number_14 rfl rfl rfl ?_
    exact ax_iret dX12_number_15 rfl rfl (k11 c1)
set_option maxRecDepth 20000 in
theorem s_X12_itemOf_0 {d : Nat} (hd : 0 ≤ d) {Q : Option ax_V → ax_S → Prop} (σ : ax_S) (a0 : Int32) (a1 : Int32) (k1 : (a0 = (104 : Int32)) → Q (some (ax_i (if (¬ a1 = (120 : Int32)) then (if (¬ a1 = (116 : Int32)) then (if (¬ a1 = (108 : Int32)) then (if (¬ a1 = (107 : Int32)) then (-1 : Int32) else (3 : Int32)) else (2 : Int32)) else (1 : Int32)) else (0 : Int32)))) σ) (k2 : (¬ (a0 = (104 : Int32))) → (a0 = (115 : Int32)) → Q (some (ax_i (if (¬ a1 = (99 : Int32)) then (if (¬ a1 = (100 : Int32)) then (-1 : Int32) else (1 : Int32)) else (0 : Int32)))) σ) (k3 : (¬ (a0 = (104 : Int32))) → (¬ (a0 = (115 : Int32))) → Q (some (ax_i (if (¬ a1 = (97 : Int32)) then (if (¬ a1 = (98 : Int32)) then (if (¬ a1 = (115 : Int32)) then (-1 : Int32) else (2 : Int32)) else (1 : Int32)) else (0 : Int32)))) σ) : ax_W shM (d + 1) mX12_itemOf Q 0 [some (ax_i a0), some (ax_i a1)] [] σ := by
  refine ax_iload_n (q := 1) (i := 0) dX12_itemOf_0 rfl rfl rfl ?_
  by_cases c1 : (a0 = (104 : Int32))
  · refine ax_lookup (tgt := 50) (off := 49) dX12_itemOf_1 (by decide) (by rw [c1]; decide) (by decide) ?_
    refine ax_iload_n (q := 51) (i := 1) dX12_itemOf_50 rfl rfl rfl ?_
    refine ax_bipush (q := 53) dX12_itemOf_51 rfl kb_120 ?_
    have K6 : ax_W shM (d + 1) mX12_itemOf Q 91 [some (ax_i a0), some (ax_i a1)] [ax_i (if (¬ a1 = (120 : Int32)) then (if (¬ a1 = (116 : Int32)) then (if (¬ a1 = (108 : Int32)) then (if (¬ a1 = (107 : Int32)) then (-1 : Int32) else (3 : Int32)) else (2 : Int32)) else (1 : Int32)) else (0 : Int32))] σ := by
      exact ax_iret dX12_itemOf_91 rfl rfl (k1 c1)
    refine ax_icmp_ne (tgt := 60) (q := 56) dX12_itemOf_53 (by decide) rfl (fun c2 => ?_) (fun c2 => ?_)
    · refine ax_iload_n (q := 61) (i := 1) dX12_itemOf_60 rfl rfl rfl ?_
      refine ax_bipush (q := 63) dX12_itemOf_61 rfl kb_116 ?_
      refine ax_icmp_ne (tgt := 70) (q := 66) dX12_itemOf_63 (by decide) rfl (fun c3 => ?_) (fun c3 => ?_)
      · refine ax_iload_n (q := 71) (i := 1) dX12_itemOf_70 rfl rfl rfl ?_
        refine ax_bipush (q := 73) dX12_itemOf_71 rfl kb_108 ?_
        refine ax_icmp_ne (tgt := 80) (q := 76) dX12_itemOf_73 (by decide) rfl (fun c4 => ?_) (fun c4 => ?_)
        · refine ax_iload_n (q := 81) (i := 1) dX12_itemOf_80 rfl rfl rfl ?_
          refine ax_bipush (q := 83) dX12_itemOf_81 rfl kb_107 ?_
          refine ax_icmp_ne (tgt := 90) (q := 86) dX12_itemOf_83 (by decide) rfl (fun c5 => ?_) (fun c5 => ?_)
          · refine ax_iconst (q := 91) dX12_itemOf_90 rfl ki_m1 ?_
            exact ax_cv ((if_pos c2).trans ((if_pos c3).trans ((if_pos c4).trans (if_pos c5)))) K6
          · refine ax_iconst (q := 87) dX12_itemOf_86 rfl ki_3 ?_
            refine ax_goto (tgt := 91) dX12_itemOf_87 (by decide) ?_
            exact ax_cv ((if_pos c2).trans ((if_pos c3).trans ((if_pos c4).trans (if_neg c5)))) K6
        · refine ax_iconst (q := 77) dX12_itemOf_76 rfl ki_2 ?_
          refine ax_goto (tgt := 91) dX12_itemOf_77 (by decide) ?_
          exact ax_cv ((if_pos c2).trans ((if_pos c3).trans (if_neg c4))) K6
      · refine ax_iconst (q := 67) dX12_itemOf_66 rfl ki_1 ?_
        refine ax_goto (tgt := 91) dX12_itemOf_67 (by decide) ?_
        exact ax_cv ((if_pos c2).trans (if_neg c3)) K6
    · refine ax_iconst (q := 57) dX12_itemOf_56 rfl ki_0 ?_
      refine ax_goto (tgt := 91) dX12_itemOf_57 (by decide) ?_
      exact ax_cv (if_neg c2) K6
  by_cases c7 : (a0 = (115 : Int32))
  · refine ax_lookup (tgt := 28) (off := 27) dX12_itemOf_1 (by decide) (by rw [c7]; decide) (by decide) ?_
    refine ax_iload_n (q := 29) (i := 1) dX12_itemOf_28 rfl rfl rfl ?_
    refine ax_bipush (q := 31) dX12_itemOf_29 rfl kb_99 ?_
    have K10 : ax_W shM (d + 1) mX12_itemOf Q 49 [some (ax_i a0), some (ax_i a1)] [ax_i (if (¬ a1 = (99 : Int32)) then (if (¬ a1 = (100 : Int32)) then (-1 : Int32) else (1 : Int32)) else (0 : Int32))] σ := by
      exact ax_iret dX12_itemOf_49 rfl rfl (k2 c1 c7)
    refine ax_icmp_ne (tgt := 38) (q := 34) dX12_itemOf_31 (by decide) rfl (fun c8 => ?_) (fun c8 => ?_)
    · refine ax_iload_n (q := 39) (i := 1) dX12_itemOf_38 rfl rfl rfl ?_
      refine ax_bipush (q := 41) dX12_itemOf_39 rfl kb_100 ?_
      refine ax_icmp_ne (tgt := 48) (q := 44) dX12_itemOf_41 (by decide) rfl (fun c9 => ?_) (fun c9 => ?_)
      · refine ax_iconst (q := 49) dX12_itemOf_48 rfl ki_m1 ?_
        exact ax_cv ((if_pos c8).trans (if_pos c9)) K10
      · refine ax_iconst (q := 45) dX12_itemOf_44 rfl ki_1 ?_
        refine ax_goto (tgt := 49) dX12_itemOf_45 (by decide) ?_
        exact ax_cv ((if_pos c8).trans (if_neg c9)) K10
    · refine ax_iconst (q := 35) dX12_itemOf_34 rfl ki_0 ?_
      refine ax_goto (tgt := 49) dX12_itemOf_35 (by decide) ?_
      exact ax_cv (if_neg c8) K10
  · refine ax_lookup (tgt := 92) (off := 91) dX12_itemOf_1 (by decide) (by rw [lv_osw c1 (by decide)]; rw [lv_osw c7 (by decide)]; rfl) (by decide) ?_
    refine ax_iload_n (q := 93) (i := 1) dX12_itemOf_92 rfl rfl rfl ?_
    refine ax_bipush (q := 95) dX12_itemOf_93 rfl kb_97 ?_
    have K14 : ax_W shM (d + 1) mX12_itemOf Q 123 [some (ax_i a0), some (ax_i a1)] [ax_i (if (¬ a1 = (97 : Int32)) then (if (¬ a1 = (98 : Int32)) then (if (¬ a1 = (115 : Int32)) then (-1 : Int32) else (2 : Int32)) else (1 : Int32)) else (0 : Int32))] σ := by
      exact ax_iret dX12_itemOf_123 rfl rfl (k3 c1 c7)
    refine ax_icmp_ne (tgt := 102) (q := 98) dX12_itemOf_95 (by decide) rfl (fun c11 => ?_) (fun c11 => ?_)
    · refine ax_iload_n (q := 103) (i := 1) dX12_itemOf_102 rfl rfl rfl ?_
      refine ax_bipush (q := 105) dX12_itemOf_103 rfl kb_98 ?_
      refine ax_icmp_ne (tgt := 112) (q := 108) dX12_itemOf_105 (by decide) rfl (fun c12 => ?_) (fun c12 => ?_)
      · refine ax_iload_n (q := 113) (i := 1) dX12_itemOf_112 rfl rfl rfl ?_
        refine ax_bipush (q := 115) dX12_itemOf_113 rfl kb_115 ?_
        refine ax_icmp_ne (tgt := 122) (q := 118) dX12_itemOf_115 (by decide) rfl (fun c13 => ?_) (fun c13 => ?_)
        · refine ax_iconst (q := 123) dX12_itemOf_122 rfl ki_m1 ?_
          exact ax_cv ((if_pos c11).trans ((if_pos c12).trans (if_pos c13))) K14
        · refine ax_iconst (q := 119) dX12_itemOf_118 rfl ki_2 ?_
          refine ax_goto (tgt := 123) dX12_itemOf_119 (by decide) ?_
          exact ax_cv ((if_pos c11).trans ((if_pos c12).trans (if_neg c13))) K14
      · refine ax_iconst (q := 109) dX12_itemOf_108 rfl ki_1 ?_
        refine ax_goto (tgt := 123) dX12_itemOf_109 (by decide) ?_
        exact ax_cv ((if_pos c11).trans (if_neg c12)) K14
    · refine ax_iconst (q := 99) dX12_itemOf_98 rfl ki_0 ?_
      refine ax_goto (tgt := 123) dX12_itemOf_99 (by decide) ?_
      exact ax_cv (if_neg c11) K14
set_option maxRecDepth 20000 in
theorem f_X12_lowest {sh : List ax_H} (σ : ax_S) (a0 : Int32) (a1 : Int32)  {d : Nat} (hd : 1 ≤ d) : ax_Ct sh d mX12_lowest [ax_i a0, ax_i a1] (fun r u => r = some (ax_i (if ((¬ (¬ a0 = (104 : Int32))) ∧ ((a1 = (1 : Int32)) ∨ (¬ (¬ a1 = (2 : Int32))))) then (1 : Int32) else 0)) ∧ u = σ) σ := by
  obtain ⟨d, rfl⟩ : ∃ e, d = e + 1 := ⟨d - 1, by omega⟩
  refine ax_Ct.of (lv := [some (ax_i a0), some (ax_i a1)]) (by decide +kernel) (fun ad => Nat.le_of_ble_eq_true rfl) (fun ad => rfl) ?_
  refine ax_iload_n (q := 1) (i := 0) dX12_lowest_0 rfl rfl rfl ?_
  refine ax_bipush (q := 3) dX12_lowest_1 rfl kb_104 ?_
  have K4 : ax_W sh (d + 1) mX12_lowest (fun r u => r = some (ax_i (if ((¬ (¬ a0 = (104 : Int32))) ∧ ((a1 = (1 : Int32)) ∨ (¬ (¬ a1 = (2 : Int32))))) then (1 : Int32) else 0)) ∧ u = σ) 21 [some (ax_i a0), some (ax_i a1)] [ax_i (if ((¬ (¬ a0 = (104 : Int32))) ∧ ((a1 = (1 : Int32)) ∨ (¬ (¬ a1 = (2 : Int32))))) then (1 : Int32) else 0)] σ := by
    exact ax_iret dX12_lowest_21 rfl rfl ⟨rfl, rfl⟩
  refine ax_icmp_ne (tgt := 20) (q := 6) dX12_lowest_3 (by decide) rfl (fun c1 => ?_) (fun c1 => ?_)
  · refine ax_iconst (q := 21) dX12_lowest_20 rfl ki_0 ?_
    exact ax_cv (if_neg (fun z => (fun y => y c1) z.1)) K4
  · refine ax_iload_n (q := 7) (i := 1) dX12_lowest_6 rfl rfl rfl ?_
    refine ax_iconst (q := 8) dX12_lowest_7 rfl ki_1 ?_
    refine ax_icmp_eq (tgt := 16) (q := 11) dX12_lowest_8 (by decide) rfl (fun c2 => ?_) (fun c2 => ?_)
    · refine ax_iconst (q := 17) dX12_lowest_16 rfl ki_1 ?_
      refine ax_goto (tgt := 21) dX12_lowest_17 (by decide) ?_
      exact ax_cv (if_pos ⟨c1, (Or.inl c2)⟩) K4
    · refine ax_iload_n (q := 12) (i := 1) dX12_lowest_11 rfl rfl rfl ?_
      refine ax_iconst (q := 13) dX12_lowest_12 rfl ki_2 ?_
      refine ax_icmp_ne (tgt := 20) (q := 16) dX12_lowest_13 (by decide) rfl (fun c3 => ?_) (fun c3 => ?_)
      · refine ax_iconst (q := 21) dX12_lowest_20 rfl ki_0 ?_
        exact ax_cv (if_neg (fun z => (fun z => z.elim c2 (fun y => y c3)) z.2)) K4
      · refine ax_iconst (q := 17) dX12_lowest_16 rfl ki_1 ?_
        refine ax_goto (tgt := 21) dX12_lowest_17 (by decide) ?_
        exact ax_cv (if_pos ⟨c1, (Or.inr c3)⟩) K4
set_option maxRecDepth 20000 in
theorem s_X12_highest_0 {d : Nat} (hd : 0 ≤ d) {Q : Option ax_V → ax_S → Prop} (σ : ax_S) (a0 : Int32) (a1 : Int32) (k1 : (a0 = (104 : Int32)) → Q (some (ax_i (if (¬ a1 = 0) then (if (¬ a1 = (1 : Int32)) then (if (¬ a1 = (2 : Int32)) then (3 : Int32) else (99 : Int32)) else (9 : Int32)) else (20 : Int32)))) σ) (k2 : (¬ (a0 = (104 : Int32))) → (a0 = (115 : Int32)) → Q (some (ax_i (if (¬ a1 = 0) then (9 : Int32) else (99 : Int32)))) σ) (k3 : (¬ (a0 = (104 : Int32))) → (¬ (a0 = (115 : Int32))) → Q (some (ax_i (if (¬ a1 = (2 : Int32)) then (7 : Int32) else (9 : Int32)))) σ) : ax_W shM (d + 1) mX12_highest Q 0 [some (ax_i a0), some (ax_i a1)] [] σ := by
  refine ax_iload_n (q := 1) (i := 0) dX12_highest_0 rfl rfl rfl ?_
  by_cases c1 : (a0 = (104 : Int32))
  · refine ax_lookup (tgt := 40) (off := 39) dX12_highest_1 (by decide) (by rw [c1]; decide) (by decide) ?_
    refine ax_iload_n (q := 41) (i := 1) dX12_highest_40 rfl rfl rfl ?_
    have K5 : ax_W shM (d + 1) mX12_highest Q 70 [some (ax_i a0), some (ax_i a1)] [ax_i (if (¬ a1 = 0) then (if (¬ a1 = (1 : Int32)) then (if (¬ a1 = (2 : Int32)) then (3 : Int32) else (99 : Int32)) else (9 : Int32)) else (20 : Int32))] σ := by
      exact ax_iret dX12_highest_70 rfl rfl (k1 c1)
    refine ax_if_ne (tgt := 49) (q := 44) dX12_highest_41 (by decide) rfl (fun c2 => ?_) (fun c2 => ?_)
    · refine ax_iload_n (q := 50) (i := 1) dX12_highest_49 rfl rfl rfl ?_
      refine ax_iconst (q := 51) dX12_highest_50 rfl ki_1 ?_
      refine ax_icmp_ne (tgt := 59) (q := 54) dX12_highest_51 (by decide) rfl (fun c3 => ?_) (fun c3 => ?_)
      · refine ax_iload_n (q := 60) (i := 1) dX12_highest_59 rfl rfl rfl ?_
        refine ax_iconst (q := 61) dX12_highest_60 rfl ki_2 ?_
        refine ax_icmp_ne (tgt := 69) (q := 64) dX12_highest_61 (by decide) rfl (fun c4 => ?_) (fun c4 => ?_)
        · refine ax_iconst (q := 70) dX12_highest_69 rfl ki_3 ?_
          exact ax_cv ((if_pos c2).trans ((if_pos c3).trans (if_pos c4))) K5
        · refine ax_bipush (q := 66) dX12_highest_64 rfl kb_99 ?_
          refine ax_goto (tgt := 70) dX12_highest_66 (by decide) ?_
          exact ax_cv ((if_pos c2).trans ((if_pos c3).trans (if_neg c4))) K5
      · refine ax_bipush (q := 56) dX12_highest_54 rfl kb_9 ?_
        refine ax_goto (tgt := 70) dX12_highest_56 (by decide) ?_
        exact ax_cv ((if_pos c2).trans (if_neg c3)) K5
    · refine ax_bipush (q := 46) dX12_highest_44 rfl kb_20 ?_
      refine ax_goto (tgt := 70) dX12_highest_46 (by decide) ?_
      exact ax_cv (if_neg c2) K5
  by_cases c6 : (a0 = (115 : Int32))
  · refine ax_lookup (tgt := 28) (off := 27) dX12_highest_1 (by decide) (by rw [c6]; decide) (by decide) ?_
    refine ax_iload_n (q := 29) (i := 1) dX12_highest_28 rfl rfl rfl ?_
    have K8 : ax_W shM (d + 1) mX12_highest Q 39 [some (ax_i a0), some (ax_i a1)] [ax_i (if (¬ a1 = 0) then (9 : Int32) else (99 : Int32))] σ := by
      exact ax_iret dX12_highest_39 rfl rfl (k2 c1 c6)
    refine ax_if_ne (tgt := 37) (q := 32) dX12_highest_29 (by decide) rfl (fun c7 => ?_) (fun c7 => ?_)
    · refine ax_bipush (q := 39) dX12_highest_37 rfl kb_9 ?_
      exact ax_cv (if_pos c7) K8
    · refine ax_bipush (q := 34) dX12_highest_32 rfl kb_99 ?_
      refine ax_goto (tgt := 39) dX12_highest_34 (by decide) ?_
      exact ax_cv (if_neg c7) K8
  · refine ax_lookup (tgt := 71) (off := 70) dX12_highest_1 (by decide) (by rw [lv_osw c1 (by decide)]; rw [lv_osw c6 (by decide)]; rfl) (by decide) ?_
    refine ax_iload_n (q := 72) (i := 1) dX12_highest_71 rfl rfl rfl ?_
    refine ax_iconst (q := 73) dX12_highest_72 rfl ki_2 ?_
    have K10 : ax_W shM (d + 1) mX12_highest Q 83 [some (ax_i a0), some (ax_i a1)] [ax_i (if (¬ a1 = (2 : Int32)) then (7 : Int32) else (9 : Int32))] σ := by
      exact ax_iret dX12_highest_83 rfl rfl (k3 c1 c6)
    refine ax_icmp_ne (tgt := 81) (q := 76) dX12_highest_73 (by decide) rfl (fun c9 => ?_) (fun c9 => ?_)
    · refine ax_bipush (q := 83) dX12_highest_81 rfl kb_7 ?_
      exact ax_cv (if_pos c9) K10
    · refine ax_bipush (q := 78) dX12_highest_76 rfl kb_9 ?_
      refine ax_goto (tgt := 83) dX12_highest_78 (by decide) ?_
      exact ax_cv (if_neg c9) K10
set_option maxRecDepth 20000 in
theorem s_X12_usual_0 {d : Nat} (hd : 0 ≤ d) {Q : Option ax_V → ax_S → Prop} (σ : ax_S) (a0 : Int32) (a1 : Int32) (k1 : (a0 = (104 : Int32)) → Q (some (ax_i (if (¬ a1 = (1 : Int32)) then (if (¬ a1 = (2 : Int32)) then (0 : Int32) else (20 : Int32)) else (3 : Int32)))) σ) (k2 : (¬ (a0 = (104 : Int32))) → (a0 = (115 : Int32)) → Q (some (ax_i (if (¬ a1 = 0) then (0 : Int32) else (20 : Int32)))) σ) (k3 : (¬ (a0 = (104 : Int32))) → (¬ (a0 = (115 : Int32))) → Q (some (ax_i (if (¬ (¬ a1 = (1 : Int32))) then (1 : Int32) else 0))) σ) : ax_W shM (d + 1) mX12_usual Q 0 [some (ax_i a0), some (ax_i a1)] [] σ := by
  refine ax_iload_n (q := 1) (i := 0) dX12_usual_0 rfl rfl rfl ?_
  by_cases c1 : (a0 = (104 : Int32))
  · refine ax_lookup (tgt := 39) (off := 38) dX12_usual_1 (by decide) (by rw [c1]; decide) (by decide) ?_
    refine ax_iload_n (q := 40) (i := 1) dX12_usual_39 rfl rfl rfl ?_
    refine ax_iconst (q := 41) dX12_usual_40 rfl ki_1 ?_
    have K4 : ax_W shM (d + 1) mX12_usual Q 59 [some (ax_i a0), some (ax_i a1)] [ax_i (if (¬ a1 = (1 : Int32)) then (if (¬ a1 = (2 : Int32)) then (0 : Int32) else (20 : Int32)) else (3 : Int32))] σ := by
      exact ax_iret dX12_usual_59 rfl rfl (k1 c1)
    refine ax_icmp_ne (tgt := 48) (q := 44) dX12_usual_41 (by decide) rfl (fun c2 => ?_) (fun c2 => ?_)
    · refine ax_iload_n (q := 49) (i := 1) dX12_usual_48 rfl rfl rfl ?_
      refine ax_iconst (q := 50) dX12_usual_49 rfl ki_2 ?_
      refine ax_icmp_ne (tgt := 58) (q := 53) dX12_usual_50 (by decide) rfl (fun c3 => ?_) (fun c3 => ?_)
      · refine ax_iconst (q := 59) dX12_usual_58 rfl ki_0 ?_
        exact ax_cv ((if_pos c2).trans (if_pos c3)) K4
      · refine ax_bipush (q := 55) dX12_usual_53 rfl kb_20 ?_
        refine ax_goto (tgt := 59) dX12_usual_55 (by decide) ?_
        exact ax_cv ((if_pos c2).trans (if_neg c3)) K4
    · refine ax_iconst (q := 45) dX12_usual_44 rfl ki_3 ?_
      refine ax_goto (tgt := 59) dX12_usual_45 (by decide) ?_
      exact ax_cv (if_neg c2) K4
  by_cases c5 : (a0 = (115 : Int32))
  · refine ax_lookup (tgt := 28) (off := 27) dX12_usual_1 (by decide) (by rw [c5]; decide) (by decide) ?_
    refine ax_iload_n (q := 29) (i := 1) dX12_usual_28 rfl rfl rfl ?_
    have K7 : ax_W shM (d + 1) mX12_usual Q 38 [some (ax_i a0), some (ax_i a1)] [ax_i (if (¬ a1 = 0) then (0 : Int32) else (20 : Int32))] σ := by
      exact ax_iret dX12_usual_38 rfl rfl (k2 c1 c5)
    refine ax_if_ne (tgt := 37) (q := 32) dX12_usual_29 (by decide) rfl (fun c6 => ?_) (fun c6 => ?_)
    · refine ax_iconst (q := 38) dX12_usual_37 rfl ki_0 ?_
      exact ax_cv (if_pos c6) K7
    · refine ax_bipush (q := 34) dX12_usual_32 rfl kb_20 ?_
      refine ax_goto (tgt := 38) dX12_usual_34 (by decide) ?_
      exact ax_cv (if_neg c6) K7
  · refine ax_lookup (tgt := 60) (off := 59) dX12_usual_1 (by decide) (by rw [lv_osw c1 (by decide)]; rw [lv_osw c5 (by decide)]; rfl) (by decide) ?_
    refine ax_iload_n (q := 61) (i := 1) dX12_usual_60 rfl rfl rfl ?_
    refine ax_iconst (q := 62) dX12_usual_61 rfl ki_1 ?_
    have K9 : ax_W shM (d + 1) mX12_usual Q 70 [some (ax_i a0), some (ax_i a1)] [ax_i (if (¬ (¬ a1 = (1 : Int32))) then (1 : Int32) else 0)] σ := by
      exact ax_iret dX12_usual_70 rfl rfl (k3 c1 c5)
    refine ax_icmp_ne (tgt := 69) (q := 65) dX12_usual_62 (by decide) rfl (fun c8 => ?_) (fun c8 => ?_)
    · refine ax_iconst (q := 70) dX12_usual_69 rfl ki_0 ?_
      exact ax_cv (if_neg (fun y => y c8)) K9
    · refine ax_iconst (q := 66) dX12_usual_65 rfl ki_1 ?_
      refine ax_goto (tgt := 70) dX12_usual_66 (by decide) ?_
      exact ax_cv (if_pos c8) K9
set_option maxRecDepth 20000 in
theorem s_X12_items_0 {d : Nat} (hd : 0 ≤ d) {Q : Option ax_V → ax_S → Prop} (σ : ax_S) (a0 : Int32) (r1 nr1 : Nat) (hr1 : shM[r1]? = some (Sum.inr (false, nr1))) (a2 : Int32) (a3 : Int32) (k1 : ax_W shM (d + 1) mX12_items Q 3 [some (ax_r 0), some (ax_i a0), some (ax_r r1), some (ax_i a2), some (ax_i a3), some (ax_i (0 : Int32)), none] [] σ) : ax_W shM (d + 1) mX12_items Q 0 [some (ax_r 0), some (ax_i a0), some (ax_r r1), some (ax_i a2), some (ax_i a3), none, none] [] σ := by
  refine ax_iconst (q := 1) dX12_items_0 rfl ki_0 ?_
  refine ax_istore (q := 3) (lv2 := [some (ax_r 0), some (ax_i a0), some (ax_r r1), some (ax_i a2), some (ax_i a3), some (ax_i (0 : Int32)), none]) dX12_items_1 rfl (by decide) rfl rfl ?_
  exact k1
set_option maxRecDepth 20000 in
theorem s_X12_items_3 {d : Nat} (hd : 0 ≤ d) {Q : Option ax_V → ax_S → Prop} (σ : ax_S) (x1 : Int32) (r1 nr1 : Nat) (hr1 : shM[r1]? = some (Sum.inr (false, nr1))) (x3 : Int32) (x4 : Int32) (x5 : Int32) (k1 : (x4 ≤ x5) → ax_Ct shM d mX12_look [ax_r 0] (fun r u => ∃ x : Int32, r = some (ax_i x) ∧ ax_W shM (d + 1) mX12_items Q 36 [some (ax_r 0), some (ax_i x1), some (ax_r r1), some (ax_i x3), none, some (ax_i (0 : Int32)), none] (ax_i x :: [ax_i x1]) u) σ) (k2 : (¬ (x4 ≤ x5)) → ax_Ct shM d mX12_usual [ax_i x1, ax_i x5] (fun r u => ∃ x : Int32, r = some (ax_i x) ∧ ax_W shM (d + 1) mX12_items Q 21 [some (ax_r 0), some (ax_i x1), some (ax_r r1), some (ax_i x3), some (ax_i x4), some (ax_i x5), none] (ax_i x :: [ax_i (x3 + x5), ax_r r1]) u) σ) : ax_W shM (d + 1) mX12_items Q 3 [some (ax_r 0), some (ax_i x1), some (ax_r r1), some (ax_i x3), some (ax_i x4), some (ax_i x5), none] [] σ := by
  refine ax_iload (q := 5) dX12_items_3 rfl rfl ?_
  refine ax_iload (q := 7) dX12_items_5 rfl rfl ?_
  refine ax_icmp_ge (tgt := 28) (q := 10) dX12_items_7 (by decide) rfl (fun c1 => ?_) (fun c1 => ?_)
  · refine ax_iconst (q := 29) dX12_items_28 rfl ki_0 ?_
    refine ax_istore (q := 31) (lv2 := [some (ax_r 0), some (ax_i x1), some (ax_r r1), some (ax_i x3), some (ax_i x4), some (ax_i (0 : Int32)), none]) dX12_items_29 rfl (by decide) rfl rfl ?_
    refine ax_iload_n (q := 32) (i := 1) dX12_items_31 rfl rfl rfl ?_
    refine ax_aload_n (q := 33) (i := 0) dX12_items_32 rfl rfl rfl ?_
    refine ax_fg (lv2 := [some (ax_r 0), some (ax_i x1), some (ax_r r1), some (ax_i x3), none, some (ax_i (0 : Int32)), none]) ⟨rfl, rfl, rfl, rfl, rfl, trivial⟩ ?_
    exact ax_callVci (q := 36) (As := []) (st := [ax_i x1]) dX12_items_33 rfl lk_X12_137 shM_0 rfl rfl rfl rfl (Nat.le_of_ble_eq_true rfl) (k1 c1)
  · refine ax_aload_n (q := 11) (i := 2) dX12_items_10 rfl rfl rfl ?_
    refine ax_iload_n (q := 12) (i := 3) dX12_items_11 rfl rfl rfl ?_
    refine ax_iload (q := 14) dX12_items_12 rfl rfl ?_
    refine ax_iadd (q := 15) dX12_items_14 rfl ?_
    refine ax_iload_n (q := 16) (i := 1) dX12_items_15 rfl rfl rfl ?_
    refine ax_iload (q := 18) dX12_items_16 rfl rfl ?_
    exact ax_callSci (q := 21) (As := [ax_i x1, ax_i x5]) (st := [ax_i (x3 + x5), ax_r r1]) dX12_items_18 rfl lk_X12_227 rfl rfl (Nat.le_of_ble_eq_true rfl) (k2 c1)
set_option maxRecDepth 20000 in
theorem s_X12_items_21 {d : Nat} (hd : 0 ≤ d) {Q : Option ax_V → ax_S → Prop} (σ : ax_S) (x1 : Int32) (r1 nr1 : Nat) (hr1 : shM[r1]? = some (Sum.inr (false, nr1))) (x3 : Int32) (x4 : Int32) (x5 : Int32) (rr : Int32) (y0 : Int32) (h1 : vp_in y0 nr1) (k2 : ax_W shM (d + 1) mX12_items Q 3 [some (ax_r 0), some (ax_i x1), some (ax_r r1), some (ax_i x3), some (ax_i x4), some (ax_i (x5 + (1 : Int32))), none] [] (ax_ui σ r1 (Int32.toNatClampNeg y0) rr)) : ax_W shM (d + 1) mX12_items Q 21 [some (ax_r 0), some (ax_i x1), some (ax_r r1), some (ax_i x3), some (ax_i x4), some (ax_i x5), none] [ax_i rr, ax_i y0, ax_r r1] σ := by
  refine ax_iast (q := 22) (a := (Int32.toNatClampNeg y0)) dX12_items_21 rfl hr1 h1 rfl ?_
  refine ax_iincK (q := 25) (lv2 := [some (ax_r 0), some (ax_i x1), some (ax_r r1), some (ax_i x3), some (ax_i x4), some (ax_i (x5 + (1 : Int32))), none]) dX12_items_22 rfl rfl ki_1 (by decide) rfl rfl ?_
  refine ax_goto (tgt := 3) dX12_items_25 (by decide) ?_
  exact k2
set_option maxRecDepth 20000 in
theorem s_X12_items_36 {d : Nat} (hd : 0 ≤ d) {Q : Option ax_V → ax_S → Prop} (σ : ax_S) (x1 : Int32) (r1 nr1 : Nat) (hr1 : shM[r1]? = some (Sum.inr (false, nr1))) (x3 : Int32) (x5 : Int32) (rr : Int32) (y0 : Int32) (k1 : ax_Ct shM d mX12_itemOf [ax_i y0, ax_i rr] (fun r u => ∃ x : Int32, r = some (ax_i x) ∧ ax_W shM (d + 1) mX12_items Q 39 [some (ax_r 0), some (ax_i x1), some (ax_r r1), some (ax_i x3), none, some (ax_i x5), none] (ax_i x :: []) u) σ) : ax_W shM (d + 1) mX12_items Q 36 [some (ax_r 0), some (ax_i x1), some (ax_r r1), some (ax_i x3), none, some (ax_i x5), none] [ax_i rr, ax_i y0] σ := by
  exact ax_callSci (q := 39) (As := [ax_i y0, ax_i rr]) (st := []) dX12_items_36 rfl lk_X12_231 rfl rfl (Nat.le_of_ble_eq_true rfl) k1
set_option maxRecDepth 20000 in
theorem s_X12_items_39 {d : Nat} (hd : 0 ≤ d) {Q : Option ax_V → ax_S → Prop} (σ : ax_S) (x1 : Int32) (r1 nr1 : Nat) (hr1 : shM[r1]? = some (Sum.inr (false, nr1))) (x3 : Int32) (x5 : Int32) (rr : Int32) (k1 : ax_W shM (d + 1) mX12_items Q 41 [some (ax_r 0), some (ax_i x1), some (ax_r r1), some (ax_i x3), none, some (ax_i x5), some (ax_i rr)] [] σ) : ax_W shM (d + 1) mX12_items Q 39 [some (ax_r 0), some (ax_i x1), some (ax_r r1), some (ax_i x3), none, some (ax_i x5), none] [ax_i rr] σ := by
  refine ax_istore (q := 41) (lv2 := [some (ax_r 0), some (ax_i x1), some (ax_r r1), some (ax_i x3), none, some (ax_i x5), some (ax_i rr)]) dX12_items_39 rfl (by decide) rfl rfl ?_
  exact k1
set_option maxRecDepth 20000 in
theorem s_X12_items_41 {d : Nat} (hd : 1 ≤ d) {Q : Option ax_V → ax_S → Prop} (σ : ax_S) (x1 : Int32) (r1 nr1 : Nat) (hr1 : shM[r1]? = some (Sum.inr (false, nr1))) (x3 : Int32) (x5 : Int32) (x6 : Int32) (k1 : (¬ (σ.1 0 4) = (-1 : Int32)) → Q none σ) (k2 : (¬ (¬ (σ.1 0 4) = (-1 : Int32))) → (x6 = (-1 : Int32)) → Q none σ) (k3 : (¬ (¬ (σ.1 0 4) = (-1 : Int32))) → (¬ (x6 = (-1 : Int32))) → (¬ (¬ ((x5 >>> (x6 &&& 31)) &&& (1 : Int32)) = (1 : Int32))) → Q none σ) (k4 : (¬ (¬ (σ.1 0 4) = (-1 : Int32))) → (¬ (x6 = (-1 : Int32))) → (¬ (¬ (¬ ((x5 >>> (x6 &&& 31)) &&& (1 : Int32)) = (1 : Int32)))) → ax_Ct shM d mX12_highest [ax_i x1, ax_i x6] (fun r u => ∃ x : Int32, r = some (ax_i x) ∧ ax_W shM (d + 1) mX12_items Q 102 [some (ax_r 0), some (ax_i x1), some (ax_r r1), some (ax_i x3), none, some (ax_i (x5 ||| ((1 : Int32) <<< (x6 &&& 31)))), none] (ax_i x :: [ax_i (if ((¬ (¬ x1 = (104 : Int32))) ∧ ((x6 = (1 : Int32)) ∨ (¬ (¬ x6 = (2 : Int32))))) then (1 : Int32) else 0), ax_r 0, ax_i (x3 + x6), ax_r r1]) u) (ax_ui σ 0 3 ((σ.1 0 3) + (1 : Int32)))) : ax_W shM (d + 1) mX12_items Q 41 [some (ax_r 0), some (ax_i x1), some (ax_r r1), some (ax_i x3), none, some (ax_i x5), some (ax_i x6)] [] σ := by
  refine ax_aload_n (q := 42) (i := 0) dX12_items_41 rfl rfl rfl ?_
  refine ax_get (q := 45) (k := 0) (j := 4) (v := ax_i (σ.1 0 4)) dX12_items_42 rfl shM_0 rfl rfl rfl (by decide) fl_X12_125 ?_
  refine ax_iconst (q := 46) dX12_items_45 rfl ki_m1 ?_
  refine ax_icmp_ne (tgt := 131) (q := 49) dX12_items_46 (by decide) rfl (fun c1 => ?_) (fun c1 => ?_)
  · exact ax_vret dX12_items_131 rfl (k1 c1)
  · refine ax_iload (q := 51) dX12_items_49 rfl rfl ?_
    refine ax_iconst (q := 52) dX12_items_51 rfl ki_m1 ?_
    refine ax_icmp_eq (tgt := 131) (q := 55) dX12_items_52 (by decide) rfl (fun c2 => ?_) (fun c2 => ?_)
    · exact ax_vret dX12_items_131 rfl (k2 c1 c2)
    · refine ax_iload (q := 57) dX12_items_55 rfl rfl ?_
      refine ax_iload (q := 59) dX12_items_57 rfl rfl ?_
      refine ax_callSfi (q := 62) (As := [ax_i x5, ax_i x6]) (st := []) (x := (if (¬ (¬ ((x5 >>> (x6 &&& 31)) &&& (1 : Int32)) = (1 : Int32))) then (1 : Int32) else 0)) (σ2 := σ) dX12_items_59 rfl lk_X12_234 rfl rfl (Nat.le_of_ble_eq_true rfl) (f_X12_has (sh := shM) σ x5 x6  (d := d) (by omega)) ?_
      refine ax_if_neB (tgt := 131) (q := 65) dX12_items_62 (by decide) rfl (fun c3 => ?_) (fun c3 => ?_)
      · exact ax_vret dX12_items_131 rfl (k3 c1 c2 c3)
      · refine ax_iload (q := 67) dX12_items_65 rfl rfl ?_
        refine ax_iconst (q := 68) dX12_items_67 rfl ki_1 ?_
        refine ax_iload (q := 70) dX12_items_68 rfl rfl ?_
        refine ax_ishl (q := 71) dX12_items_70 rfl ?_
        refine ax_ior (q := 72) dX12_items_71 rfl ?_
        refine ax_istore (q := 74) (lv2 := [some (ax_r 0), some (ax_i x1), some (ax_r r1), some (ax_i x3), none, some (ax_i (x5 ||| ((1 : Int32) <<< (x6 &&& 31)))), some (ax_i x6)]) dX12_items_72 rfl (by decide) rfl rfl ?_
        refine ax_aload_n (q := 75) (i := 0) dX12_items_74 rfl rfl rfl ?_
        refine ax_dupr (q := 76) dX12_items_75 rfl ?_
        refine ax_get (q := 79) (k := 0) (j := 3) (v := ax_i (σ.1 0 3)) dX12_items_76 rfl shM_0 rfl rfl rfl (by decide) fl_X12_118 ?_
        refine ax_iconst (q := 80) dX12_items_79 rfl ki_1 ?_
        refine ax_iadd (q := 81) dX12_items_80 rfl ?_
        refine ax_puti (q := 84) (k := 0) (j := 3) dX12_items_81 rfl shM_0 rfl rfl (by decide) fl_X12_118 rfl rfl rfl rfl ?_
        refine ax_aload_n (q := 85) (i := 2) dX12_items_84 rfl rfl rfl ?_
        refine ax_iload_n (q := 86) (i := 3) dX12_items_85 rfl rfl rfl ?_
        refine ax_iload (q := 88) dX12_items_86 rfl rfl ?_
        refine ax_iadd (q := 89) dX12_items_88 rfl ?_
        refine ax_aload_n (q := 90) (i := 0) dX12_items_89 rfl rfl rfl ?_
        refine ax_iload_n (q := 91) (i := 1) dX12_items_90 rfl rfl rfl ?_
        refine ax_iload (q := 93) dX12_items_91 rfl rfl ?_
        refine ax_callSfi (q := 96) (As := [ax_i x1, ax_i x6]) (st := [ax_r 0, ax_i (x3 + x6), ax_r r1]) (x := (if ((¬ (¬ x1 = (104 : Int32))) ∧ ((x6 = (1 : Int32)) ∨ (¬ (¬ x6 = (2 : Int32))))) then (1 : Int32) else 0)) (σ2 := (ax_ui σ 0 3 ((σ.1 0 3) + (1 : Int32)))) dX12_items_93 rfl lk_X12_238 rfl rfl (Nat.le_of_ble_eq_true rfl) (f_X12_lowest (sh := shM) (ax_ui σ 0 3 ((σ.1 0 3) + (1 : Int32))) x1 x6  (d := d) (by omega)) ?_
        refine ax_iload_n (q := 97) (i := 1) dX12_items_96 rfl rfl rfl ?_
        refine ax_iload (q := 99) dX12_items_97 rfl rfl ?_
        refine ax_fg (lv2 := [some (ax_r 0), some (ax_i x1), some (ax_r r1), some (ax_i x3), none, some (ax_i (x5 ||| ((1 : Int32) <<< (x6 &&& 31)))), none]) ⟨rfl, rfl, rfl, rfl, rfl, trivial⟩ ?_
        exact ax_callSci (q := 102) (As := [ax_i x1, ax_i x6]) (st := [ax_i (if ((¬ (¬ x1 = (104 : Int32))) ∧ ((x6 = (1 : Int32)) ∨ (¬ (¬ x6 = (2 : Int32))))) then (1 : Int32) else 0), ax_r 0, ax_i (x3 + x6), ax_r r1]) dX12_items_99 rfl lk_X12_241 rfl rfl (Nat.le_of_ble_eq_true rfl) (k4 c1 c2 c3)
set_option maxRecDepth 20000 in
theorem s_X12_items_102 {d : Nat} (hd : 0 ≤ d) {Q : Option ax_V → ax_S → Prop} (σ : ax_S) (x1 : Int32) (r1 nr1 : Nat) (hr1 : shM[r1]? = some (Sum.inr (false, nr1))) (x3 : Int32) (x5 : Int32) (rr : Int32) (y0 : Int32) (y2 : Int32) (k1 : ax_Ct shM d mX12_number [ax_r 0, ax_i y0, ax_i rr] (fun r u => ∃ x : Int32, r = some (ax_i x) ∧ ax_W shM (d + 1) mX12_items Q 105 [some (ax_r 0), some (ax_i x1), some (ax_r r1), some (ax_i x3), none, some (ax_i x5), none] (ax_i x :: [ax_i y2, ax_r r1]) u) σ) : ax_W shM (d + 1) mX12_items Q 102 [some (ax_r 0), some (ax_i x1), some (ax_r r1), some (ax_i x3), none, some (ax_i x5), none] [ax_i rr, ax_i y0, ax_r 0, ax_i y2, ax_r r1] σ := by
  exact ax_callVci (q := 105) (As := [ax_i y0, ax_i rr]) (st := [ax_i y2, ax_r r1]) dX12_items_102 rfl lk_X12_244 shM_0 rfl rfl rfl rfl (Nat.le_of_ble_eq_true rfl) k1
set_option maxRecDepth 20000 in
theorem s_X12_items_105 {d : Nat} (hd : 0 ≤ d) {Q : Option ax_V → ax_S → Prop} (σ : ax_S) (x1 : Int32) (r1 nr1 : Nat) (hr1 : shM[r1]? = some (Sum.inr (false, nr1))) (x3 : Int32) (x5 : Int32) (rr : Int32) (y0 : Int32) (h1 : vp_in y0 nr1) (k2 : (¬ ((ax_ui σ r1 (Int32.toNatClampNeg y0) rr).1 0 4) = (-1 : Int32)) → ax_W shM (d + 1) mX12_items Q 41 [some (ax_r 0), some (ax_i x1), some (ax_r r1), some (ax_i x3), none, some (ax_i x5), some (ax_i (-1 : Int32))] [] (ax_ui σ r1 (Int32.toNatClampNeg y0) rr)) (k3 : (¬ (¬ ((ax_ui σ r1 (Int32.toNatClampNeg y0) rr).1 0 4) = (-1 : Int32))) → ax_Ct shM d mX12_look [ax_r 0] (fun r u => ∃ x : Int32, r = some (ax_i x) ∧ ax_W shM (d + 1) mX12_items Q 119 [some (ax_r 0), some (ax_i x1), some (ax_r r1), some (ax_i x3), none, some (ax_i x5), none] (ax_i x :: [ax_i x1]) u) (ax_ui σ r1 (Int32.toNatClampNeg y0) rr)) : ax_W shM (d + 1) mX12_items Q 105 [some (ax_r 0), some (ax_i x1), some (ax_r r1), some (ax_i x3), none, some (ax_i x5), none] [ax_i rr, ax_i y0, ax_r r1] σ := by
  refine ax_iast (q := 106) (a := (Int32.toNatClampNeg y0)) dX12_items_105 rfl hr1 h1 rfl ?_
  refine ax_aload_n (q := 107) (i := 0) dX12_items_106 rfl rfl rfl ?_
  refine ax_get (q := 110) (k := 0) (j := 4) (v := ax_i ((ax_ui σ r1 (Int32.toNatClampNeg y0) rr).1 0 4)) dX12_items_107 rfl shM_0 rfl rfl rfl (by decide) fl_X12_125 ?_
  refine ax_iconst (q := 111) dX12_items_110 rfl ki_m1 ?_
  refine ax_icmp_ne (tgt := 125) (q := 114) dX12_items_111 (by decide) rfl (fun c1 => ?_) (fun c1 => ?_)
  · refine ax_iconst (q := 126) dX12_items_125 rfl ki_m1 ?_
    refine ax_istore (q := 128) (lv2 := [some (ax_r 0), some (ax_i x1), some (ax_r r1), some (ax_i x3), none, some (ax_i x5), some (ax_i (-1 : Int32))]) dX12_items_126 rfl (by decide) rfl rfl ?_
    refine ax_goto (tgt := 41) dX12_items_128 (by decide) ?_
    exact (k2 c1)
  · refine ax_iload_n (q := 115) (i := 1) dX12_items_114 rfl rfl rfl ?_
    refine ax_aload_n (q := 116) (i := 0) dX12_items_115 rfl rfl rfl ?_
    exact ax_callVci (q := 119) (As := []) (st := [ax_i x1]) dX12_items_116 rfl lk_X12_137 shM_0 rfl rfl rfl rfl (Nat.le_of_ble_eq_true rfl) (k3 c1)
set_option maxRecDepth 20000 in
theorem s_X12_items_119 {d : Nat} (hd : 0 ≤ d) {Q : Option ax_V → ax_S → Prop} (σ : ax_S) (x1 : Int32) (r1 nr1 : Nat) (hr1 : shM[r1]? = some (Sum.inr (false, nr1))) (x3 : Int32) (x5 : Int32) (rr : Int32) (y0 : Int32) (k1 : ax_Ct shM d mX12_itemOf [ax_i y0, ax_i rr] (fun r u => ∃ x : Int32, r = some (ax_i x) ∧ ax_W shM (d + 1) mX12_items Q 122 [some (ax_r 0), some (ax_i x1), some (ax_r r1), some (ax_i x3), none, some (ax_i x5), none] (ax_i x :: []) u) σ) : ax_W shM (d + 1) mX12_items Q 119 [some (ax_r 0), some (ax_i x1), some (ax_r r1), some (ax_i x3), none, some (ax_i x5), none] [ax_i rr, ax_i y0] σ := by
  exact ax_callSci (q := 122) (As := [ax_i y0, ax_i rr]) (st := []) dX12_items_119 rfl lk_X12_231 rfl rfl (Nat.le_of_ble_eq_true rfl) k1
set_option maxRecDepth 20000 in
theorem s_X12_items_122 {d : Nat} (hd : 0 ≤ d) {Q : Option ax_V → ax_S → Prop} (σ : ax_S) (x1 : Int32) (r1 nr1 : Nat) (hr1 : shM[r1]? = some (Sum.inr (false, nr1))) (x3 : Int32) (x5 : Int32) (rr : Int32) (k1 : ax_W shM (d + 1) mX12_items Q 41 [some (ax_r 0), some (ax_i x1), some (ax_r r1), some (ax_i x3), none, some (ax_i x5), some (ax_i rr)] [] σ) : ax_W shM (d + 1) mX12_items Q 122 [some (ax_r 0), some (ax_i x1), some (ax_r r1), some (ax_i x3), none, some (ax_i x5), none] [ax_i rr] σ := by
  refine ax_goto (tgt := 126) dX12_items_122 (by decide) ?_
  refine ax_istore (q := 128) (lv2 := [some (ax_r 0), some (ax_i x1), some (ax_r r1), some (ax_i x3), none, some (ax_i x5), some (ax_i rr)]) dX12_items_126 rfl (by decide) rfl rfl ?_
  refine ax_goto (tgt := 41) dX12_items_128 (by decide) ?_
  exact k1
set_option maxRecDepth 20000 in
theorem s_X12_isWhole_0 {d : Nat} (hd : 0 ≤ d) {Q : Option ax_V → ax_S → Prop} (σ : ax_S)  (k1 : ax_W shM (d + 1) mX12_isWhole Q 16 [some (ax_r 0), some (ax_i (if (¬ ((σ.1 0 20) ≤ (1 : Int32))) then (1 : Int32) else 0)), some (ax_i (0 : Int32)), none, none, none] [] σ) : ax_W shM (d + 1) mX12_isWhole Q 0 [some (ax_r 0), none, none, none, none, none] [] σ := by
  refine ax_aload_n (q := 1) (i := 0) dX12_isWhole_0 rfl rfl rfl ?_
  refine ax_get (q := 4) (k := 0) (j := 20) (v := ax_i (σ.1 0 20)) dX12_isWhole_1 rfl shM_0 rfl rfl rfl (by decide) fl_X12_247 ?_
  refine ax_iconst (q := 5) dX12_isWhole_4 rfl ki_1 ?_
  have K2 : ax_W shM (d + 1) mX12_isWhole Q 13 [some (ax_r 0), none, none, none, none, none] [ax_i (if (¬ ((σ.1 0 20) ≤ (1 : Int32))) then (1 : Int32) else 0)] σ := by
    refine ax_istore_n (q := 14) (i := 1) (lv2 := [some (ax_r 0), some (ax_i (if (¬ ((σ.1 0 20) ≤ (1 : Int32))) then (1 : Int32) else 0)), none, none, none, none]) dX12_isWhole_13 rfl rfl (by decide) rfl rfl ?_
    refine ax_iconst (q := 15) dX12_isWhole_14 rfl ki_0 ?_
    refine ax_istore_n (q := 16) (i := 2) (lv2 := [some (ax_r 0), some (ax_i (if (¬ ((σ.1 0 20) ≤ (1 : Int32))) then (1 : Int32) else 0)), some (ax_i (0 : Int32)), none, none, none]) dX12_isWhole_15 rfl rfl (by decide) rfl rfl ?_
    exact k1
  refine ax_icmp_le (tgt := 12) (q := 8) dX12_isWhole_5 (by decide) rfl (fun c1 => ?_) (fun c1 => ?_)
  · refine ax_iconst (q := 13) dX12_isWhole_12 rfl ki_0 ?_
    exact ax_cv (if_neg (fun y => y c1)) K2
  · refine ax_iconst (q := 9) dX12_isWhole_8 rfl ki_1 ?_
    refine ax_goto (tgt := 13) dX12_isWhole_9 (by decide) ?_
    exact ax_cv (if_pos c1) K2
set_option maxRecDepth 20000 in
theorem s_X12_isWhole_16 {d : Nat} (hd : 0 ≤ d) {Q : Option ax_V → ax_S → Prop} (σ : ax_S) (x1 : Int32) (x2 : Int32) (k1 : ((σ.1 0 21) ≤ x2) → Q (some (ax_i x1)) σ) (h2 : ((σ.1 0 21) ≤ x2) → x1 = 0 ∨ x1 = 1) (h3 : (¬ ((σ.1 0 21) ≤ x2)) → vp_in ((3 : Int32) * x2) 24) (h4 : (¬ ((σ.1 0 21) ≤ x2)) → vp_in (((3 : Int32) * x2) + (1 : Int32)) 24) (h5 : (¬ ((σ.1 0 21) ≤ x2)) → ((¬ (x1 = 0)) ∧ ((¬ ((σ.1 0 20) ≤ (σ.1 13 (Int32.toNatClampNeg ((3 : Int32) * x2))))) ∧ ((¬ ((σ.1 0 20) ≤ (σ.1 13 (Int32.toNatClampNeg (((3 : Int32) * x2) + (1 : Int32)))))) ∧ (¬ ((σ.1 13 (Int32.toNatClampNeg ((3 : Int32) * x2))) = (σ.1 13 (Int32.toNatClampNeg (((3 : Int32) * x2) + (1 : Int32))))))))) → vp_in (((4 : Int32) * (σ.1 13 (Int32.toNatClampNeg ((3 : Int32) * x2)))) + (3 : Int32)) 32) (h6 : (¬ ((σ.1 0 21) ≤ x2)) → ((¬ (x1 = 0)) ∧ ((¬ ((σ.1 0 20) ≤ (σ.1 13 (Int32.toNatClampNeg ((3 : Int32) * x2))))) ∧ ((¬ ((σ.1 0 20) ≤ (σ.1 13 (Int32.toNatClampNeg (((3 : Int32) * x2) + (1 : Int32)))))) ∧ (¬ ((σ.1 13 (Int32.toNatClampNeg ((3 : Int32) * x2))) = (σ.1 13 (Int32.toNatClampNeg (((3 : Int32) * x2) + (1 : Int32))))))))) → (¬ (¬ (σ.1 12 (Int32.toNatClampNeg (((4 : Int32) * (σ.1 13 (Int32.toNatClampNeg ((3 : Int32) * x2)))) + (3 : Int32)))) = (2 : Int32))) → vp_in (((4 : Int32) * (σ.1 13 (Int32.toNatClampNeg (((3 : Int32) * x2) + (1 : Int32))))) + (3 : Int32)) 32) (k7 : (¬ ((σ.1 0 21) ≤ x2)) → ax_W shM (d + 1) mX12_isWhole Q 120 [some (ax_r 0), some (ax_i (if (((¬ (x1 = 0)) ∧ ((¬ ((σ.1 0 20) ≤ (σ.1 13 (Int32.toNatClampNeg ((3 : Int32) * x2))))) ∧ ((¬ ((σ.1 0 20) ≤ (σ.1 13 (Int32.toNatClampNeg (((3 : Int32) * x2) + (1 : Int32)))))) ∧ (¬ ((σ.1 13 (Int32.toNatClampNeg ((3 : Int32) * x2))) = (σ.1 13 (Int32.toNatClampNeg (((3 : Int32) * x2) + (1 : Int32))))))))) ∧ ((¬ (σ.1 12 (Int32.toNatClampNeg (((4 : Int32) * (σ.1 13 (Int32.toNatClampNeg ((3 : Int32) * x2)))) + (3 : Int32)))) = (2 : Int32)) ∨ (¬ ((σ.1 12 (Int32.toNatClampNeg (((4 : Int32) * (σ.1 13 (Int32.toNatClampNeg (((3 : Int32) * x2) + (1 : Int32))))) + (3 : Int32)))) = (2 : Int32))))) then (1 : Int32) else 0)), some (ax_i x2), some (ax_i (σ.1 13 (Int32.toNatClampNeg ((3 : Int32) * x2)))), some (ax_i (σ.1 13 (Int32.toNatClampNeg (((3 : Int32) * x2) + (1 : Int32))))), some (ax_i (0 : Int32))] [] σ) : ax_W shM (d + 1) mX12_isWhole Q 16 [some (ax_r 0), some (ax_i x1), some (ax_i x2), none, none, none] [] σ := by
  refine ax_iload_n (q := 17) (i := 2) dX12_isWhole_16 rfl rfl rfl ?_
  refine ax_aload_n (q := 18) (i := 0) dX12_isWhole_17 rfl rfl rfl ?_
  refine ax_get (q := 21) (k := 0) (j := 21) (v := ax_i (σ.1 0 21)) dX12_isWhole_18 rfl shM_0 rfl rfl rfl (by decide) fl_X12_250 ?_
  refine ax_icmp_ge (tgt := 217) (q := 24) dX12_isWhole_21 (by decide) rfl (fun c1 => ?_) (fun c1 => ?_)
  · refine ax_iload_n (q := 218) (i := 1) dX12_isWhole_217 rfl rfl rfl ?_
    exact ax_iret dX12_isWhole_218 rfl (ax_nb01 (h2 c1)) (k1 c1)
  · refine ax_aload_n (q := 25) (i := 0) dX12_isWhole_24 rfl rfl rfl ?_
    refine ax_get (q := 28) (k := 0) (j := 19) (v := ax_r 13) dX12_isWhole_25 rfl shM_0 rfl rfl rfl (by decide) fl_X12_46 ?_
    refine ax_iconst (q := 29) dX12_isWhole_28 rfl ki_3 ?_
    refine ax_iload_n (q := 30) (i := 2) dX12_isWhole_29 rfl rfl rfl ?_
    refine ax_imul (q := 31) dX12_isWhole_30 rfl ?_
    refine ax_iald (q := 32) (a := (Int32.toNatClampNeg ((3 : Int32) * x2))) (v := (σ.1 13 (Int32.toNatClampNeg ((3 : Int32) * x2)))) dX12_isWhole_31 rfl shM_13 (h3 c1) rfl rfl ?_
    refine ax_istore_n (q := 33) (i := 3) (lv2 := [some (ax_r 0), some (ax_i x1), some (ax_i x2), some (ax_i (σ.1 13 (Int32.toNatClampNeg ((3 : Int32) * x2)))), none, none]) dX12_isWhole_32 rfl rfl (by decide) rfl rfl ?_
    refine ax_aload_n (q := 34) (i := 0) dX12_isWhole_33 rfl rfl rfl ?_
    refine ax_get (q := 37) (k := 0) (j := 19) (v := ax_r 13) dX12_isWhole_34 rfl shM_0 rfl rfl rfl (by decide) fl_X12_46 ?_
    refine ax_iconst (q := 38) dX12_isWhole_37 rfl ki_3 ?_
    refine ax_iload_n (q := 39) (i := 2) dX12_isWhole_38 rfl rfl rfl ?_
    refine ax_imul (q := 40) dX12_isWhole_39 rfl ?_
    refine ax_iconst (q := 41) dX12_isWhole_40 rfl ki_1 ?_
    refine ax_iadd (q := 42) dX12_isWhole_41 rfl ?_
    refine ax_iald (q := 43) (a := (Int32.toNatClampNeg (((3 : Int32) * x2) + (1 : Int32)))) (v := (σ.1 13 (Int32.toNatClampNeg (((3 : Int32) * x2) + (1 : Int32))))) dX12_isWhole_42 rfl shM_13 (h4 c1) rfl rfl ?_
    refine ax_istore (q := 45) (lv2 := [some (ax_r 0), some (ax_i x1), some (ax_i x2), some (ax_i (σ.1 13 (Int32.toNatClampNeg ((3 : Int32) * x2)))), some (ax_i (σ.1 13 (Int32.toNatClampNeg (((3 : Int32) * x2) + (1 : Int32))))), none]) dX12_isWhole_43 rfl (by decide) rfl rfl ?_
    refine ax_iload_n (q := 46) (i := 1) dX12_isWhole_45 rfl rfl rfl ?_
    have K6 : ax_W shM (d + 1) mX12_isWhole Q 77 [some (ax_r 0), some (ax_i x1), some (ax_i x2), some (ax_i (σ.1 13 (Int32.toNatClampNeg ((3 : Int32) * x2)))), some (ax_i (σ.1 13 (Int32.toNatClampNeg (((3 : Int32) * x2) + (1 : Int32))))), none] [ax_i (if ((¬ (x1 = 0)) ∧ ((¬ ((σ.1 0 20) ≤ (σ.1 13 (Int32.toNatClampNeg ((3 : Int32) * x2))))) ∧ ((¬ ((σ.1 0 20) ≤ (σ.1 13 (Int32.toNatClampNeg (((3 : Int32) * x2) + (1 : Int32)))))) ∧ (¬ ((σ.1 13 (Int32.toNatClampNeg ((3 : Int32) * x2))) = (σ.1 13 (Int32.toNatClampNeg (((3 : Int32) * x2) + (1 : Int32))))))))) then (1 : Int32) else 0)] σ := by
      refine ax_istore_n (q := 78) (i := 1) (lv2 := [some (ax_r 0), some (ax_i (if ((¬ (x1 = 0)) ∧ ((¬ ((σ.1 0 20) ≤ (σ.1 13 (Int32.toNatClampNeg ((3 : Int32) * x2))))) ∧ ((¬ ((σ.1 0 20) ≤ (σ.1 13 (Int32.toNatClampNeg (((3 : Int32) * x2) + (1 : Int32)))))) ∧ (¬ ((σ.1 13 (Int32.toNatClampNeg ((3 : Int32) * x2))) = (σ.1 13 (Int32.toNatClampNeg (((3 : Int32) * x2) + (1 : Int32))))))))) then (1 : Int32) else 0)), some (ax_i x2), some (ax_i (σ.1 13 (Int32.toNatClampNeg ((3 : Int32) * x2)))), some (ax_i (σ.1 13 (Int32.toNatClampNeg (((3 : Int32) * x2) + (1 : Int32))))), none]) dX12_isWhole_77 rfl rfl (by decide) rfl rfl ?_
      refine ax_iload_n (q := 79) (i := 1) dX12_isWhole_78 rfl rfl rfl ?_
      have K10 : ax_W shM (d + 1) mX12_isWhole Q 116 [some (ax_r 0), some (ax_i (if ((¬ (x1 = 0)) ∧ ((¬ ((σ.1 0 20) ≤ (σ.1 13 (Int32.toNatClampNeg ((3 : Int32) * x2))))) ∧ ((¬ ((σ.1 0 20) ≤ (σ.1 13 (Int32.toNatClampNeg (((3 : Int32) * x2) + (1 : Int32)))))) ∧ (¬ ((σ.1 13 (Int32.toNatClampNeg ((3 : Int32) * x2))) = (σ.1 13 (Int32.toNatClampNeg (((3 : Int32) * x2) + (1 : Int32))))))))) then (1 : Int32) else 0)), some (ax_i x2), some (ax_i (σ.1 13 (Int32.toNatClampNeg ((3 : Int32) * x2)))), some (ax_i (σ.1 13 (Int32.toNatClampNeg (((3 : Int32) * x2) + (1 : Int32))))), none] [ax_i (if (((¬ (x1 = 0)) ∧ ((¬ ((σ.1 0 20) ≤ (σ.1 13 (Int32.toNatClampNeg ((3 : Int32) * x2))))) ∧ ((¬ ((σ.1 0 20) ≤ (σ.1 13 (Int32.toNatClampNeg (((3 : Int32) * x2) + (1 : Int32)))))) ∧ (¬ ((σ.1 13 (Int32.toNatClampNeg ((3 : Int32) * x2))) = (σ.1 13 (Int32.toNatClampNeg (((3 : Int32) * x2) + (1 : Int32))))))))) ∧ ((¬ (σ.1 12 (Int32.toNatClampNeg (((4 : Int32) * (σ.1 13 (Int32.toNatClampNeg ((3 : Int32) * x2)))) + (3 : Int32)))) = (2 : Int32)) ∨ (¬ ((σ.1 12 (Int32.toNatClampNeg (((4 : Int32) * (σ.1 13 (Int32.toNatClampNeg (((3 : Int32) * x2) + (1 : Int32))))) + (3 : Int32)))) = (2 : Int32))))) then (1 : Int32) else 0)] σ := by
        refine ax_istore_n (q := 117) (i := 1) (lv2 := [some (ax_r 0), some (ax_i (if (((¬ (x1 = 0)) ∧ ((¬ ((σ.1 0 20) ≤ (σ.1 13 (Int32.toNatClampNeg ((3 : Int32) * x2))))) ∧ ((¬ ((σ.1 0 20) ≤ (σ.1 13 (Int32.toNatClampNeg (((3 : Int32) * x2) + (1 : Int32)))))) ∧ (¬ ((σ.1 13 (Int32.toNatClampNeg ((3 : Int32) * x2))) = (σ.1 13 (Int32.toNatClampNeg (((3 : Int32) * x2) + (1 : Int32))))))))) ∧ ((¬ (σ.1 12 (Int32.toNatClampNeg (((4 : Int32) * (σ.1 13 (Int32.toNatClampNeg ((3 : Int32) * x2)))) + (3 : Int32)))) = (2 : Int32)) ∨ (¬ ((σ.1 12 (Int32.toNatClampNeg (((4 : Int32) * (σ.1 13 (Int32.toNatClampNeg (((3 : Int32) * x2) + (1 : Int32))))) + (3 : Int32)))) = (2 : Int32))))) then (1 : Int32) else 0)), some (ax_i x2), some (ax_i (σ.1 13 (Int32.toNatClampNeg ((3 : Int32) * x2)))), some (ax_i (σ.1 13 (Int32.toNatClampNeg (((3 : Int32) * x2) + (1 : Int32))))), none]) dX12_isWhole_116 rfl rfl (by decide) rfl rfl ?_
        refine ax_iconst (q := 118) dX12_isWhole_117 rfl ki_0 ?_
        refine ax_istore (q := 120) (lv2 := [some (ax_r 0), some (ax_i (if (((¬ (x1 = 0)) ∧ ((¬ ((σ.1 0 20) ≤ (σ.1 13 (Int32.toNatClampNeg ((3 : Int32) * x2))))) ∧ ((¬ ((σ.1 0 20) ≤ (σ.1 13 (Int32.toNatClampNeg (((3 : Int32) * x2) + (1 : Int32)))))) ∧ (¬ ((σ.1 13 (Int32.toNatClampNeg ((3 : Int32) * x2))) = (σ.1 13 (Int32.toNatClampNeg (((3 : Int32) * x2) + (1 : Int32))))))))) ∧ ((¬ (σ.1 12 (Int32.toNatClampNeg (((4 : Int32) * (σ.1 13 (Int32.toNatClampNeg ((3 : Int32) * x2)))) + (3 : Int32)))) = (2 : Int32)) ∨ (¬ ((σ.1 12 (Int32.toNatClampNeg (((4 : Int32) * (σ.1 13 (Int32.toNatClampNeg (((3 : Int32) * x2) + (1 : Int32))))) + (3 : Int32)))) = (2 : Int32))))) then (1 : Int32) else 0)), some (ax_i x2), some (ax_i (σ.1 13 (Int32.toNatClampNeg ((3 : Int32) * x2)))), some (ax_i (σ.1 13 (Int32.toNatClampNeg (((3 : Int32) * x2) + (1 : Int32))))), some (ax_i (0 : Int32))]) dX12_isWhole_118 rfl (by decide) rfl rfl ?_
        exact (k7 c1)
      refine ax_if_eqB (tgt := 115) (q := 82) dX12_isWhole_79 (by decide) rfl (fun c7 => ?_) (fun c7 => ?_)
      · refine ax_iconst (q := 116) dX12_isWhole_115 rfl ki_0 ?_
        exact ax_cv (if_neg (fun z => c7 z.1)) K10
      · refine ax_aload_n (q := 83) (i := 0) dX12_isWhole_82 rfl rfl rfl ?_
        refine ax_get (q := 86) (k := 0) (j := 18) (v := ax_r 12) dX12_isWhole_83 rfl shM_0 rfl rfl rfl (by decide) fl_X12_43 ?_
        refine ax_iconst (q := 87) dX12_isWhole_86 rfl ki_4 ?_
        refine ax_iload_n (q := 88) (i := 3) dX12_isWhole_87 rfl rfl rfl ?_
        refine ax_imul (q := 89) dX12_isWhole_88 rfl ?_
        refine ax_iconst (q := 90) dX12_isWhole_89 rfl ki_3 ?_
        refine ax_iadd (q := 91) dX12_isWhole_90 rfl ?_
        refine ax_iald (q := 92) (a := (Int32.toNatClampNeg (((4 : Int32) * (σ.1 13 (Int32.toNatClampNeg ((3 : Int32) * x2)))) + (3 : Int32)))) (v := (σ.1 12 (Int32.toNatClampNeg (((4 : Int32) * (σ.1 13 (Int32.toNatClampNeg ((3 : Int32) * x2)))) + (3 : Int32))))) dX12_isWhole_91 rfl shM_12 (h5 c1 c7) rfl rfl ?_
        refine ax_iconst (q := 93) dX12_isWhole_92 rfl ki_2 ?_
        refine ax_icmp_ne (tgt := 111) (q := 96) dX12_isWhole_93 (by decide) rfl (fun c8 => ?_) (fun c8 => ?_)
        · refine ax_iconst (q := 112) dX12_isWhole_111 rfl ki_1 ?_
          refine ax_goto (tgt := 116) dX12_isWhole_112 (by decide) ?_
          exact ax_cv (if_pos ⟨c7, (Or.inl c8)⟩) K10
        · refine ax_aload_n (q := 97) (i := 0) dX12_isWhole_96 rfl rfl rfl ?_
          refine ax_get (q := 100) (k := 0) (j := 18) (v := ax_r 12) dX12_isWhole_97 rfl shM_0 rfl rfl rfl (by decide) fl_X12_43 ?_
          refine ax_iconst (q := 101) dX12_isWhole_100 rfl ki_4 ?_
          refine ax_iload (q := 103) dX12_isWhole_101 rfl rfl ?_
          refine ax_imul (q := 104) dX12_isWhole_103 rfl ?_
          refine ax_iconst (q := 105) dX12_isWhole_104 rfl ki_3 ?_
          refine ax_iadd (q := 106) dX12_isWhole_105 rfl ?_
          refine ax_iald (q := 107) (a := (Int32.toNatClampNeg (((4 : Int32) * (σ.1 13 (Int32.toNatClampNeg (((3 : Int32) * x2) + (1 : Int32))))) + (3 : Int32)))) (v := (σ.1 12 (Int32.toNatClampNeg (((4 : Int32) * (σ.1 13 (Int32.toNatClampNeg (((3 : Int32) * x2) + (1 : Int32))))) + (3 : Int32))))) dX12_isWhole_106 rfl shM_12 (h6 c1 c7 c8) rfl rfl ?_
          refine ax_iconst (q := 108) dX12_isWhole_107 rfl ki_2 ?_
          refine ax_icmp_eq (tgt := 115) (q := 111) dX12_isWhole_108 (by decide) rfl (fun c9 => ?_) (fun c9 => ?_)
          · refine ax_iconst (q := 116) dX12_isWhole_115 rfl ki_0 ?_
            exact ax_cv (if_neg (fun z => (fun z => z.elim c8 (fun y => y c9)) z.2)) K10
          · refine ax_iconst (q := 112) dX12_isWhole_111 rfl ki_1 ?_
            refine ax_goto (tgt := 116) dX12_isWhole_112 (by decide) ?_
            exact ax_cv (if_pos ⟨c7, (Or.inr c9)⟩) K10
    refine ax_if_eq (tgt := 76) (q := 49) dX12_isWhole_46 (by decide) rfl (fun c2 => ?_) (fun c2 => ?_)
    · refine ax_iconst (q := 77) dX12_isWhole_76 rfl ki_0 ?_
      exact ax_cv (if_neg (fun z => (fun y => y c2) z.1)) K6
    · refine ax_iload_n (q := 50) (i := 3) dX12_isWhole_49 rfl rfl rfl ?_
      refine ax_aload_n (q := 51) (i := 0) dX12_isWhole_50 rfl rfl rfl ?_
      refine ax_get (q := 54) (k := 0) (j := 20) (v := ax_i (σ.1 0 20)) dX12_isWhole_51 rfl shM_0 rfl rfl rfl (by decide) fl_X12_247 ?_
      refine ax_icmp_ge (tgt := 76) (q := 57) dX12_isWhole_54 (by decide) rfl (fun c3 => ?_) (fun c3 => ?_)
      · refine ax_iconst (q := 77) dX12_isWhole_76 rfl ki_0 ?_
        exact ax_cv (if_neg (fun z => (fun z => (fun y => y c3) z.1) z.2)) K6
      · refine ax_iload (q := 59) dX12_isWhole_57 rfl rfl ?_
        refine ax_aload_n (q := 60) (i := 0) dX12_isWhole_59 rfl rfl rfl ?_
        refine ax_get (q := 63) (k := 0) (j := 20) (v := ax_i (σ.1 0 20)) dX12_isWhole_60 rfl shM_0 rfl rfl rfl (by decide) fl_X12_247 ?_
        refine ax_icmp_ge (tgt := 76) (q := 66) dX12_isWhole_63 (by decide) rfl (fun c4 => ?_) (fun c4 => ?_)
        · refine ax_iconst (q := 77) dX12_isWhole_76 rfl ki_0 ?_
          exact ax_cv (if_neg (fun z => (fun z => (fun z => (fun y => y c4) z.1) z.2) z.2)) K6
        · refine ax_iload_n (q := 67) (i := 3) dX12_isWhole_66 rfl rfl rfl ?_
          refine ax_iload (q := 69) dX12_isWhole_67 rfl rfl ?_
          refine ax_icmp_eq (tgt := 76) (q := 72) dX12_isWhole_69 (by decide) rfl (fun c5 => ?_) (fun c5 => ?_)
          · refine ax_iconst (q := 77) dX12_isWhole_76 rfl ki_0 ?_
            exact ax_cv (if_neg (fun z => (fun z => (fun z => (fun y => y c5) z.2) z.2) z.2)) K6
          · refine ax_iconst (q := 73) dX12_isWhole_72 rfl ki_1 ?_
            refine ax_goto (tgt := 77) dX12_isWhole_73 (by decide) ?_
            exact ax_cv (if_pos ⟨c2, ⟨c3, ⟨c4, c5⟩⟩⟩) K6
set_option maxRecDepth 20000 in
theorem s_X12_isWhole_120 {d : Nat} (hd : 0 ≤ d) {Q : Option ax_V → ax_S → Prop} (σ : ax_S) (x1 : Int32) (x2 : Int32) (x3 : Int32) (x4 : Int32) (x5 : Int32) (k1 : (x2 ≤ x5) → ax_W shM (d + 1) mX12_isWhole Q 16 [some (ax_r 0), some (ax_i x1), some (ax_i (x2 + (1 : Int32))), none, none, none] [] σ) (h2 : (¬ (x2 ≤ x5)) → (¬ (x1 = 0)) → vp_in ((3 : Int32) * x5) 24) (h3 : (¬ (x2 ≤ x5)) → (¬ (x1 = 0)) → vp_in (((3 : Int32) * x5) + (1 : Int32)) 24) (k4 : (¬ (x2 ≤ x5)) → ax_W shM (d + 1) mX12_isWhole Q 120 [some (ax_r 0), some (ax_i (if ((¬ (x1 = 0)) ∧ (¬ ((((if x4 < x3 then x4 else x3) * (8 : Int32)) + (if x3 < x4 then x4 else x3)) = (((if (σ.1 13 (Int32.toNatClampNeg (((3 : Int32) * x5) + (1 : Int32)))) < (σ.1 13 (Int32.toNatClampNeg ((3 : Int32) * x5))) then (σ.1 13 (Int32.toNatClampNeg (((3 : Int32) * x5) + (1 : Int32)))) else (σ.1 13 (Int32.toNatClampNeg ((3 : Int32) * x5)))) * (8 : Int32)) + (if (σ.1 13 (Int32.toNatClampNeg ((3 : Int32) * x5))) < (σ.1 13 (Int32.toNatClampNeg (((3 : Int32) * x5) + (1 : Int32)))) then (σ.1 13 (Int32.toNatClampNeg (((3 : Int32) * x5) + (1 : Int32)))) else (σ.1 13 (Int32.toNatClampNeg ((3 : Int32) * x5)))))))) then (1 : Int32) else 0)), some (ax_i x2), some (ax_i x3), some (ax_i x4), some (ax_i (x5 + (1 : Int32)))] [] σ) : ax_W shM (d + 1) mX12_isWhole Q 120 [some (ax_r 0), some (ax_i x1), some (ax_i x2), some (ax_i x3), some (ax_i x4), some (ax_i x5)] [] σ := by
  refine ax_iload (q := 122) dX12_isWhole_120 rfl rfl ?_
  refine ax_iload_n (q := 123) (i := 2) dX12_isWhole_122 rfl rfl rfl ?_
  refine ax_icmp_ge (tgt := 211) (q := 126) dX12_isWhole_123 (by decide) rfl (fun c1 => ?_) (fun c1 => ?_)
  · refine ax_iincK (q := 214) (lv2 := [some (ax_r 0), some (ax_i x1), some (ax_i (x2 + (1 : Int32))), some (ax_i x3), some (ax_i x4), some (ax_i x5)]) dX12_isWhole_211 rfl rfl ki_1 (by decide) rfl rfl ?_
    refine ax_goto (tgt := 16) dX12_isWhole_214 (by decide) ?_
    refine ax_fg (lv2 := [some (ax_r 0), some (ax_i x1), some (ax_i (x2 + (1 : Int32))), none, none, none]) ⟨rfl, rfl, rfl, trivial⟩ ?_
    exact (k1 c1)
  · refine ax_iload_n (q := 127) (i := 1) dX12_isWhole_126 rfl rfl rfl ?_
    have K4 : ax_W shM (d + 1) mX12_isWhole Q 204 [some (ax_r 0), some (ax_i x1), some (ax_i x2), some (ax_i x3), some (ax_i x4), some (ax_i x5)] [ax_i (if ((¬ (x1 = 0)) ∧ (¬ ((((if x4 < x3 then x4 else x3) * (8 : Int32)) + (if x3 < x4 then x4 else x3)) = (((if (σ.1 13 (Int32.toNatClampNeg (((3 : Int32) * x5) + (1 : Int32)))) < (σ.1 13 (Int32.toNatClampNeg ((3 : Int32) * x5))) then (σ.1 13 (Int32.toNatClampNeg (((3 : Int32) * x5) + (1 : Int32)))) else (σ.1 13 (Int32.toNatClampNeg ((3 : Int32) * x5)))) * (8 : Int32)) + (if (σ.1 13 (Int32.toNatClampNeg ((3 : Int32) * x5))) < (σ.1 13 (Int32.toNatClampNeg (((3 : Int32) * x5) + (1 : Int32)))) then (σ.1 13 (Int32.toNatClampNeg (((3 : Int32) * x5) + (1 : Int32)))) else (σ.1 13 (Int32.toNatClampNeg ((3 : Int32) * x5)))))))) then (1 : Int32) else 0)] σ := by
      refine ax_istore_n (q := 205) (i := 1) (lv2 := [some (ax_r 0), some (ax_i (if ((¬ (x1 = 0)) ∧ (¬ ((((if x4 < x3 then x4 else x3) * (8 : Int32)) + (if x3 < x4 then x4 else x3)) = (((if (σ.1 13 (Int32.toNatClampNeg (((3 : Int32) * x5) + (1 : Int32)))) < (σ.1 13 (Int32.toNatClampNeg ((3 : Int32) * x5))) then (σ.1 13 (Int32.toNatClampNeg (((3 : Int32) * x5) + (1 : Int32)))) else (σ.1 13 (Int32.toNatClampNeg ((3 : Int32) * x5)))) * (8 : Int32)) + (if (σ.1 13 (Int32.toNatClampNeg ((3 : Int32) * x5))) < (σ.1 13 (Int32.toNatClampNeg (((3 : Int32) * x5) + (1 : Int32)))) then (σ.1 13 (Int32.toNatClampNeg (((3 : Int32) * x5) + (1 : Int32)))) else (σ.1 13 (Int32.toNatClampNeg ((3 : Int32) * x5)))))))) then (1 : Int32) else 0)), some (ax_i x2), some (ax_i x3), some (ax_i x4), some (ax_i x5)]) dX12_isWhole_204 rfl rfl (by decide) rfl rfl ?_
      refine ax_iincK (q := 208) (lv2 := [some (ax_r 0), some (ax_i (if ((¬ (x1 = 0)) ∧ (¬ ((((if x4 < x3 then x4 else x3) * (8 : Int32)) + (if x3 < x4 then x4 else x3)) = (((if (σ.1 13 (Int32.toNatClampNeg (((3 : Int32) * x5) + (1 : Int32)))) < (σ.1 13 (Int32.toNatClampNeg ((3 : Int32) * x5))) then (σ.1 13 (Int32.toNatClampNeg (((3 : Int32) * x5) + (1 : Int32)))) else (σ.1 13 (Int32.toNatClampNeg ((3 : Int32) * x5)))) * (8 : Int32)) + (if (σ.1 13 (Int32.toNatClampNeg ((3 : Int32) * x5))) < (σ.1 13 (Int32.toNatClampNeg (((3 : Int32) * x5) + (1 : Int32)))) then (σ.1 13 (Int32.toNatClampNeg (((3 : Int32) * x5) + (1 : Int32)))) else (σ.1 13 (Int32.toNatClampNeg ((3 : Int32) * x5)))))))) then (1 : Int32) else 0)), some (ax_i x2), some (ax_i x3), some (ax_i x4), some (ax_i (x5 + (1 : Int32)))]) dX12_isWhole_205 rfl rfl ki_1 (by decide) rfl rfl ?_
      refine ax_goto (tgt := 120) dX12_isWhole_208 (by decide) ?_
      exact (k4 c1)
    refine ax_if_eq (tgt := 203) (q := 130) dX12_isWhole_127 (by decide) rfl (fun c2 => ?_) (fun c2 => ?_)
    · refine ax_iconst (q := 204) dX12_isWhole_203 rfl ki_0 ?_
      exact ax_cv (if_neg (fun z => (fun y => y c2) z.1)) K4
    · refine ax_iload_n (q := 131) (i := 3) dX12_isWhole_130 rfl rfl rfl ?_
      refine ax_iload (q := 133) dX12_isWhole_131 rfl rfl ?_
      refine ax_mmin (q := 136) dX12_isWhole_133 rfl mk_X12_253 (Nat.le_of_ble_eq_true rfl) ?_
      refine ax_bipush (q := 138) dX12_isWhole_136 rfl kb_8 ?_
      refine ax_imul (q := 139) dX12_isWhole_138 rfl ?_
      refine ax_iload_n (q := 140) (i := 3) dX12_isWhole_139 rfl rfl rfl ?_
      refine ax_iload (q := 142) dX12_isWhole_140 rfl rfl ?_
      refine ax_mmax (q := 145) dX12_isWhole_142 rfl mk_X12_255 (Nat.le_of_ble_eq_true rfl) ?_
      refine ax_iadd (q := 146) dX12_isWhole_145 rfl ?_
      refine ax_aload_n (q := 147) (i := 0) dX12_isWhole_146 rfl rfl rfl ?_
      refine ax_get (q := 150) (k := 0) (j := 19) (v := ax_r 13) dX12_isWhole_147 rfl shM_0 rfl rfl rfl (by decide) fl_X12_46 ?_
      refine ax_iconst (q := 151) dX12_isWhole_150 rfl ki_3 ?_
      refine ax_iload (q := 153) dX12_isWhole_151 rfl rfl ?_
      refine ax_imul (q := 154) dX12_isWhole_153 rfl ?_
      refine ax_iald (q := 155) (a := (Int32.toNatClampNeg ((3 : Int32) * x5))) (v := (σ.1 13 (Int32.toNatClampNeg ((3 : Int32) * x5)))) dX12_isWhole_154 rfl shM_13 (h2 c1 c2) rfl rfl ?_
      refine ax_aload_n (q := 156) (i := 0) dX12_isWhole_155 rfl rfl rfl ?_
      refine ax_get (q := 159) (k := 0) (j := 19) (v := ax_r 13) dX12_isWhole_156 rfl shM_0 rfl rfl rfl (by decide) fl_X12_46 ?_
      refine ax_iconst (q := 160) dX12_isWhole_159 rfl ki_3 ?_
      refine ax_iload (q := 162) dX12_isWhole_160 rfl rfl ?_
      refine ax_imul (q := 163) dX12_isWhole_162 rfl ?_
      refine ax_iconst (q := 164) dX12_isWhole_163 rfl ki_1 ?_
      refine ax_iadd (q := 165) dX12_isWhole_164 rfl ?_
      refine ax_iald (q := 166) (a := (Int32.toNatClampNeg (((3 : Int32) * x5) + (1 : Int32)))) (v := (σ.1 13 (Int32.toNatClampNeg (((3 : Int32) * x5) + (1 : Int32))))) dX12_isWhole_165 rfl shM_13 (h3 c1 c2) rfl rfl ?_
      refine ax_mmin (q := 169) dX12_isWhole_166 rfl mk_X12_253 (Nat.le_of_ble_eq_true rfl) ?_
      refine ax_bipush (q := 171) dX12_isWhole_169 rfl kb_8 ?_
      refine ax_imul (q := 172) dX12_isWhole_171 rfl ?_
      refine ax_aload_n (q := 173) (i := 0) dX12_isWhole_172 rfl rfl rfl ?_
      refine ax_get (q := 176) (k := 0) (j := 19) (v := ax_r 13) dX12_isWhole_173 rfl shM_0 rfl rfl rfl (by decide) fl_X12_46 ?_
      refine ax_iconst (q := 177) dX12_isWhole_176 rfl ki_3 ?_
      refine ax_iload (q := 179) dX12_isWhole_177 rfl rfl ?_
      refine ax_imul (q := 180) dX12_isWhole_179 rfl ?_
      refine ax_iald (q := 181) (a := (Int32.toNatClampNeg ((3 : Int32) * x5))) (v := (σ.1 13 (Int32.toNatClampNeg ((3 : Int32) * x5)))) dX12_isWhole_180 rfl shM_13 (h2 c1 c2) rfl rfl ?_
      refine ax_aload_n (q := 182) (i := 0) dX12_isWhole_181 rfl rfl rfl ?_
      refine ax_get (q := 185) (k := 0) (j := 19) (v := ax_r 13) dX12_isWhole_182 rfl shM_0 rfl rfl rfl (by decide) fl_X12_46 ?_
      refine ax_iconst (q := 186) dX12_isWhole_185 rfl ki_3 ?_
      refine ax_iload (q := 188) dX12_isWhole_186 rfl rfl ?_
      refine ax_imul (q := 189) dX12_isWhole_188 rfl ?_
      refine ax_iconst (q := 190) dX12_isWhole_189 rfl ki_1 ?_
      refine ax_iadd (q := 191) dX12_isWhole_190 rfl ?_
      refine ax_iald (q := 192) (a := (Int32.toNatClampNeg (((3 : Int32) * x5) + (1 : Int32)))) (v := (σ.1 13 (Int32.toNatClampNeg (((3 : Int32) * x5) + (1 : Int32))))) dX12_isWhole_191 rfl shM_13 (h3 c1 c2) rfl rfl ?_
      refine ax_mmax (q := 195) dX12_isWhole_192 rfl mk_X12_255 (Nat.le_of_ble_eq_true rfl) ?_
      refine ax_iadd (q := 196) dX12_isWhole_195 rfl ?_
      refine ax_icmp_eq (tgt := 203) (q := 199) dX12_isWhole_196 (by decide) rfl (fun c3 => ?_) (fun c3 => ?_)
      · refine ax_iconst (q := 204) dX12_isWhole_203 rfl ki_0 ?_
        exact ax_cv (if_neg (fun z => (fun y => y c3) z.2)) K4
      · refine ax_iconst (q := 200) dX12_isWhole_199 rfl ki_1 ?_
        refine ax_goto (tgt := 204) dX12_isWhole_200 (by decide) ?_
        exact ax_cv (if_pos ⟨c2, c3⟩) K4
