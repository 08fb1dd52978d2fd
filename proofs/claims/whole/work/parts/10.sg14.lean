set_option maxRecDepth 20000 in
theorem s_X12_strikeNow_0 {d : Nat} (hd : 0 ≤ d) {Q : Option ax_V → ax_S → Prop} (σ : ax_S) (a0 : Int32) (a1 : Int32) (k1 : ax_Ct shM d mX12_burningBy [ax_r 0, ax_i a0, ax_i a1] (fun r u => ∃ x : Int32, r = some (ax_i x) ∧ ax_W shM (d + 1) mX12_strikeNow Q 6 [some (ax_r 0), some (ax_i a0), some (ax_i a1), none, none] (ax_i x :: []) u) σ) : ax_W shM (d + 1) mX12_strikeNow Q 0 [some (ax_r 0), some (ax_i a0), some (ax_i a1), none, none] [] σ := by
  refine ax_aload_n (q := 1) (i := 0) dX12_strikeNow_0 rfl rfl rfl ?_
  refine ax_iload_n (q := 2) (i := 1) dX12_strikeNow_1 rfl rfl rfl ?_
  refine ax_iload_n (q := 3) (i := 2) dX12_strikeNow_2 rfl rfl rfl ?_
  exact ax_callVci (q := 6) (As := [ax_i a0, ax_i a1]) (st := []) dX12_strikeNow_3 rfl lk_X12_348 shM_0 rfl rfl rfl rfl (Nat.le_of_ble_eq_true rfl) k1
set_option maxRecDepth 20000 in
theorem s_X12_strikeNow_6 {d : Nat} (hd : 0 ≤ d) {Q : Option ax_V → ax_S → Prop} (σ : ax_S) (x1 : Int32) (x2 : Int32) (rr : Int32) (k1 : ax_W shM (d + 1) mX12_strikeNow Q 10 [some (ax_r 0), some (ax_i x1), some (ax_i x2), some (ax_i rr), some (ax_i (0 : Int32))] [] σ) : ax_W shM (d + 1) mX12_strikeNow Q 6 [some (ax_r 0), some (ax_i x1), some (ax_i x2), none, none] [ax_i rr] σ := by
  refine ax_istore_n (q := 7) (i := 3) (lv2 := [some (ax_r 0), some (ax_i x1), some (ax_i x2), some (ax_i rr), none]) dX12_strikeNow_6 rfl rfl (by decide) rfl rfl ?_
  refine ax_iconst (q := 8) dX12_strikeNow_7 rfl ki_0 ?_
  refine ax_istore (q := 10) (lv2 := [some (ax_r 0), some (ax_i x1), some (ax_i x2), some (ax_i rr), some (ax_i (0 : Int32))]) dX12_strikeNow_8 rfl (by decide) rfl rfl ?_
  exact k1
set_option maxRecDepth 20000 in
theorem s_X12_strikeNow_10 {d : Nat} (hd : 1 ≤ d) {Q : Option ax_V → ax_S → Prop} (σ : ax_S) (x1 : Int32) (x2 : Int32) (x3 : Int32) (x4 : Int32) (h1 : ((σ.1 0 23) ≤ x4) → (¬ (σ.1 15 87) = (60 : Int32)) → vp_in ((88 : Int32) + ((3 : Int32) * (σ.1 15 87))) 268) (h2 : ((σ.1 0 23) ≤ x4) → (¬ (σ.1 15 87) = (60 : Int32)) → vp_in (((88 : Int32) + ((3 : Int32) * (σ.1 15 87))) + (1 : Int32)) 268) (h3 : ((σ.1 0 23) ≤ x4) → (¬ (σ.1 15 87) = (60 : Int32)) → vp_in (((88 : Int32) + ((3 : Int32) * (σ.1 15 87))) + (2 : Int32)) 268) (k4 : ((σ.1 0 23) ≤ x4) → (¬ (σ.1 15 87) = (60 : Int32)) → Q (some (ax_i x3)) (ax_ui (ax_ui (ax_ui (ax_ui σ 15 (Int32.toNatClampNeg ((88 : Int32) + ((3 : Int32) * (σ.1 15 87)))) x1) 15 (Int32.toNatClampNeg (((88 : Int32) + ((3 : Int32) * (σ.1 15 87))) + (1 : Int32))) x2) 15 (Int32.toNatClampNeg (((88 : Int32) + ((3 : Int32) * (σ.1 15 87))) + (2 : Int32))) x3) 15 87 (((ax_ui (ax_ui (ax_ui σ 15 (Int32.toNatClampNeg ((88 : Int32) + ((3 : Int32) * (σ.1 15 87)))) x1) 15 (Int32.toNatClampNeg (((88 : Int32) + ((3 : Int32) * (σ.1 15 87))) + (1 : Int32))) x2) 15 (Int32.toNatClampNeg (((88 : Int32) + ((3 : Int32) * (σ.1 15 87))) + (2 : Int32))) x3).1 15 87) + (1 : Int32)))) (k5 : ((σ.1 0 23) ≤ x4) → (¬ (¬ (σ.1 15 87) = (60 : Int32))) → ax_W shM (d + 1) mX12_strikeNow Q 100 [some (ax_r 0), some (ax_i x1), some (ax_i x2), some (ax_i x3), some (ax_i (3 : Int32))] [] σ) (k6 : (¬ ((σ.1 0 23) ≤ x4)) → (¬ (¬ (¬ ((x3 >>> (x4 &&& 31)) &&& (1 : Int32)) = (1 : Int32)))) → ax_W shM (d + 1) mX12_strikeNow Q 10 [some (ax_r 0), some (ax_i x1), some (ax_i x2), some (ax_i x3), some (ax_i (x4 + (1 : Int32)))] [] σ) (h7 : (¬ ((σ.1 0 23) ≤ x4)) → (¬ (¬ ((x3 >>> (x4 &&& 31)) &&& (1 : Int32)) = (1 : Int32))) → vp_in ((8 : Int32) + x4) 268) (h8 : (¬ ((σ.1 0 23) ≤ x4)) → (¬ (¬ ((x3 >>> (x4 &&& 31)) &&& (1 : Int32)) = (1 : Int32))) → vp_in ((0 : Int32) + x4) 268) (k9 : (¬ ((σ.1 0 23) ≤ x4)) → (¬ (¬ ((x3 >>> (x4 &&& 31)) &&& (1 : Int32)) = (1 : Int32))) → ax_W shM (d + 1) mX12_strikeNow Q 10 [some (ax_r 0), some (ax_i x1), some (ax_i x2), some (ax_i x3), some (ax_i (x4 + (1 : Int32)))] [] (ax_ui (ax_ui σ 15 (Int32.toNatClampNeg ((8 : Int32) + x4)) (if ((σ.1 15 (Int32.toNatClampNeg ((8 : Int32) + x4))) + (1 : Int32)) < (99 : Int32) then ((σ.1 15 (Int32.toNatClampNeg ((8 : Int32) + x4))) + (1 : Int32)) else (99 : Int32))) 15 (Int32.toNatClampNeg ((0 : Int32) + x4)) (if (1 : Int32) < (((ax_ui σ 15 (Int32.toNatClampNeg ((8 : Int32) + x4)) (if ((σ.1 15 (Int32.toNatClampNeg ((8 : Int32) + x4))) + (1 : Int32)) < (99 : Int32) then ((σ.1 15 (Int32.toNatClampNeg ((8 : Int32) + x4))) + (1 : Int32)) else (99 : Int32))).1 15 (Int32.toNatClampNeg ((0 : Int32) + x4))) - (1 : Int32)) then (((ax_ui σ 15 (Int32.toNatClampNeg ((8 : Int32) + x4)) (if ((σ.1 15 (Int32.toNatClampNeg ((8 : Int32) + x4))) + (1 : Int32)) < (99 : Int32) then ((σ.1 15 (Int32.toNatClampNeg ((8 : Int32) + x4))) + (1 : Int32)) else (99 : Int32))).1 15 (Int32.toNatClampNeg ((0 : Int32) + x4))) - (1 : Int32)) else (1 : Int32)))) : ax_W shM (d + 1) mX12_strikeNow Q 10 [some (ax_r 0), some (ax_i x1), some (ax_i x2), some (ax_i x3), some (ax_i x4)] [] σ := by
  refine ax_iload (q := 12) dX12_strikeNow_10 rfl rfl ?_
  refine ax_aload_n (q := 13) (i := 0) dX12_strikeNow_12 rfl rfl rfl ?_
  refine ax_get (q := 16) (k := 0) (j := 23) (v := ax_i (σ.1 0 23)) dX12_strikeNow_13 rfl shM_0 rfl rfl rfl (by decide) fl_X12_271 ?_
  refine ax_icmp_ge (tgt := 85) (q := 19) dX12_strikeNow_16 (by decide) rfl (fun c1 => ?_) (fun c1 => ?_)
  · refine ax_aload_n (q := 86) (i := 0) dX12_strikeNow_85 rfl rfl rfl ?_
    refine ax_get (q := 89) (k := 0) (j := 25) (v := ax_r 15) dX12_strikeNow_86 rfl shM_0 rfl rfl rfl (by decide) fl_X12_52 ?_
    refine ax_bipush (q := 91) dX12_strikeNow_89 rfl kb_87 ?_
    refine ax_iald (q := 92) (a := 87) (v := (σ.1 15 87)) dX12_strikeNow_91 rfl shM_15 (ax_inl 87 268 (by decide) (by decide)) rfl rfl ?_
    refine ax_bipush (q := 94) dX12_strikeNow_92 rfl kb_60 ?_
    refine ax_icmp_ne (tgt := 147) (q := 97) dX12_strikeNow_94 (by decide) rfl (fun c2 => ?_) (fun c2 => ?_)
    · refine ax_bipush (q := 149) dX12_strikeNow_147 rfl kb_88 ?_
      refine ax_iconst (q := 150) dX12_strikeNow_149 rfl ki_3 ?_
      refine ax_aload_n (q := 151) (i := 0) dX12_strikeNow_150 rfl rfl rfl ?_
      refine ax_get (q := 154) (k := 0) (j := 25) (v := ax_r 15) dX12_strikeNow_151 rfl shM_0 rfl rfl rfl (by decide) fl_X12_52 ?_
      refine ax_bipush (q := 156) dX12_strikeNow_154 rfl kb_87 ?_
      refine ax_iald (q := 157) (a := 87) (v := (σ.1 15 87)) dX12_strikeNow_156 rfl shM_15 (ax_inl 87 268 (by decide) (by decide)) rfl rfl ?_
      refine ax_imul (q := 158) dX12_strikeNow_157 rfl ?_
      refine ax_iadd (q := 159) dX12_strikeNow_158 rfl ?_
      refine ax_istore (q := 161) (lv2 := [some (ax_r 0), some (ax_i x1), some (ax_i x2), some (ax_i x3), some (ax_i ((88 : Int32) + ((3 : Int32) * (σ.1 15 87))))]) dX12_strikeNow_159 rfl (by decide) rfl rfl ?_
      refine ax_aload_n (q := 162) (i := 0) dX12_strikeNow_161 rfl rfl rfl ?_
      refine ax_get (q := 165) (k := 0) (j := 25) (v := ax_r 15) dX12_strikeNow_162 rfl shM_0 rfl rfl rfl (by decide) fl_X12_52 ?_
      refine ax_iload (q := 167) dX12_strikeNow_165 rfl rfl ?_
      refine ax_iload_n (q := 168) (i := 1) dX12_strikeNow_167 rfl rfl rfl ?_
      refine ax_iast (q := 169) (a := (Int32.toNatClampNeg ((88 : Int32) + ((3 : Int32) * (σ.1 15 87))))) dX12_strikeNow_168 rfl shM_15 (h1 c1 c2) rfl ?_
      refine ax_aload_n (q := 170) (i := 0) dX12_strikeNow_169 rfl rfl rfl ?_
      refine ax_get (q := 173) (k := 0) (j := 25) (v := ax_r 15) dX12_strikeNow_170 rfl shM_0 rfl rfl rfl (by decide) fl_X12_52 ?_
      refine ax_iload (q := 175) dX12_strikeNow_173 rfl rfl ?_
      refine ax_iconst (q := 176) dX12_strikeNow_175 rfl ki_1 ?_
      refine ax_iadd (q := 177) dX12_strikeNow_176 rfl ?_
      refine ax_iload_n (q := 178) (i := 2) dX12_strikeNow_177 rfl rfl rfl ?_
      refine ax_iast (q := 179) (a := (Int32.toNatClampNeg (((88 : Int32) + ((3 : Int32) * (σ.1 15 87))) + (1 : Int32)))) dX12_strikeNow_178 rfl shM_15 (h2 c1 c2) rfl ?_
      refine ax_aload_n (q := 180) (i := 0) dX12_strikeNow_179 rfl rfl rfl ?_
      refine ax_get (q := 183) (k := 0) (j := 25) (v := ax_r 15) dX12_strikeNow_180 rfl shM_0 rfl rfl rfl (by decide) fl_X12_52 ?_
      refine ax_iload (q := 185) dX12_strikeNow_183 rfl rfl ?_
      refine ax_iconst (q := 186) dX12_strikeNow_185 rfl ki_2 ?_
      refine ax_iadd (q := 187) dX12_strikeNow_186 rfl ?_
      refine ax_iload_n (q := 188) (i := 3) dX12_strikeNow_187 rfl rfl rfl ?_
      refine ax_iast (q := 189) (a := (Int32.toNatClampNeg (((88 : Int32) + ((3 : Int32) * (σ.1 15 87))) + (2 : Int32)))) dX12_strikeNow_188 rfl shM_15 (h3 c1 c2) rfl ?_
      refine ax_aload_n (q := 190) (i := 0) dX12_strikeNow_189 rfl rfl rfl ?_
      refine ax_get (q := 193) (k := 0) (j := 25) (v := ax_r 15) dX12_strikeNow_190 rfl shM_0 rfl rfl rfl (by decide) fl_X12_52 ?_
      refine ax_bipush (q := 195) dX12_strikeNow_193 rfl kb_87 ?_
      refine ax_dup2_11 (q := 196) dX12_strikeNow_195 rfl ?_
      refine ax_iald (q := 197) (a := 87) (v := ((ax_ui (ax_ui (ax_ui σ 15 (Int32.toNatClampNeg ((88 : Int32) + ((3 : Int32) * (σ.1 15 87)))) x1) 15 (Int32.toNatClampNeg (((88 : Int32) + ((3 : Int32) * (σ.1 15 87))) + (1 : Int32))) x2) 15 (Int32.toNatClampNeg (((88 : Int32) + ((3 : Int32) * (σ.1 15 87))) + (2 : Int32))) x3).1 15 87)) dX12_strikeNow_196 rfl shM_15 (ax_inl 87 268 (by decide) (by decide)) rfl rfl ?_
      refine ax_iconst (q := 198) dX12_strikeNow_197 rfl ki_1 ?_
      refine ax_iadd (q := 199) dX12_strikeNow_198 rfl ?_
      refine ax_iast (q := 200) (a := 87) dX12_strikeNow_199 rfl shM_15 (ax_inl 87 268 (by decide) (by decide)) rfl ?_
      refine ax_iload_n (q := 201) (i := 3) dX12_strikeNow_200 rfl rfl rfl ?_
      exact ax_iret dX12_strikeNow_201 rfl rfl (k4 c1 c2)
    · refine ax_iconst (q := 98) dX12_strikeNow_97 rfl ki_3 ?_
      refine ax_istore (q := 100) (lv2 := [some (ax_r 0), some (ax_i x1), some (ax_i x2), some (ax_i x3), some (ax_i (3 : Int32))]) dX12_strikeNow_98 rfl (by decide) rfl rfl ?_
      exact (k5 c1 c2)
  · refine ax_iload_n (q := 20) (i := 3) dX12_strikeNow_19 rfl rfl rfl ?_
    refine ax_iload (q := 22) dX12_strikeNow_20 rfl rfl ?_
    refine ax_callSfi (q := 25) (As := [ax_i x3, ax_i x4]) (st := []) (x := (if (¬ (¬ ((x3 >>> (x4 &&& 31)) &&& (1 : Int32)) = (1 : Int32))) then (1 : Int32) else 0)) (σ2 := σ) dX12_strikeNow_22 rfl lk_X12_234 rfl rfl (Nat.le_of_ble_eq_true rfl) (f_X12_has (sh := shM) σ x3 x4  (d := d) (by omega)) ?_
    refine ax_if_eqB (tgt := 79) (q := 28) dX12_strikeNow_25 (by decide) rfl (fun c3 => ?_) (fun c3 => ?_)
    · refine ax_iincK (q := 82) (lv2 := [some (ax_r 0), some (ax_i x1), some (ax_i x2), some (ax_i x3), some (ax_i (x4 + (1 : Int32)))]) dX12_strikeNow_79 rfl rfl ki_1 (by decide) rfl rfl ?_
      refine ax_goto (tgt := 10) dX12_strikeNow_82 (by decide) ?_
      exact (k6 c1 c3)
    · refine ax_aload_n (q := 29) (i := 0) dX12_strikeNow_28 rfl rfl rfl ?_
      refine ax_get (q := 32) (k := 0) (j := 25) (v := ax_r 15) dX12_strikeNow_29 rfl shM_0 rfl rfl rfl (by decide) fl_X12_52 ?_
      refine ax_bipush (q := 34) dX12_strikeNow_32 rfl kb_8 ?_
      refine ax_iload (q := 36) dX12_strikeNow_34 rfl rfl ?_
      refine ax_iadd (q := 37) dX12_strikeNow_36 rfl ?_
      refine ax_bipush (q := 39) dX12_strikeNow_37 rfl kb_99 ?_
      refine ax_aload_n (q := 40) (i := 0) dX12_strikeNow_39 rfl rfl rfl ?_
      refine ax_get (q := 43) (k := 0) (j := 25) (v := ax_r 15) dX12_strikeNow_40 rfl shM_0 rfl rfl rfl (by decide) fl_X12_52 ?_
      refine ax_bipush (q := 45) dX12_strikeNow_43 rfl kb_8 ?_
      refine ax_iload (q := 47) dX12_strikeNow_45 rfl rfl ?_
      refine ax_iadd (q := 48) dX12_strikeNow_47 rfl ?_
      refine ax_iald (q := 49) (a := (Int32.toNatClampNeg ((8 : Int32) + x4))) (v := (σ.1 15 (Int32.toNatClampNeg ((8 : Int32) + x4)))) dX12_strikeNow_48 rfl shM_15 (h7 c1 c3) rfl rfl ?_
      refine ax_iconst (q := 50) dX12_strikeNow_49 rfl ki_1 ?_
      refine ax_iadd (q := 51) dX12_strikeNow_50 rfl ?_
      refine ax_mmin (q := 54) dX12_strikeNow_51 rfl mk_X12_253 (Nat.le_of_ble_eq_true rfl) ?_
      refine ax_iast (q := 55) (a := (Int32.toNatClampNeg ((8 : Int32) + x4))) dX12_strikeNow_54 rfl shM_15 (h7 c1 c3) rfl ?_
      refine ax_aload_n (q := 56) (i := 0) dX12_strikeNow_55 rfl rfl rfl ?_
      refine ax_get (q := 59) (k := 0) (j := 25) (v := ax_r 15) dX12_strikeNow_56 rfl shM_0 rfl rfl rfl (by decide) fl_X12_52 ?_
      refine ax_iconst (q := 60) dX12_strikeNow_59 rfl ki_0 ?_
      refine ax_iload (q := 62) dX12_strikeNow_60 rfl rfl ?_
      refine ax_iadd (q := 63) dX12_strikeNow_62 rfl ?_
      refine ax_iconst (q := 64) dX12_strikeNow_63 rfl ki_1 ?_
      refine ax_aload_n (q := 65) (i := 0) dX12_strikeNow_64 rfl rfl rfl ?_
      refine ax_get (q := 68) (k := 0) (j := 25) (v := ax_r 15) dX12_strikeNow_65 rfl shM_0 rfl rfl rfl (by decide) fl_X12_52 ?_
      refine ax_iconst (q := 69) dX12_strikeNow_68 rfl ki_0 ?_
      refine ax_iload (q := 71) dX12_strikeNow_69 rfl rfl ?_
      refine ax_iadd (q := 72) dX12_strikeNow_71 rfl ?_
      refine ax_iald (q := 73) (a := (Int32.toNatClampNeg ((0 : Int32) + x4))) (v := ((ax_ui σ 15 (Int32.toNatClampNeg ((8 : Int32) + x4)) (if ((σ.1 15 (Int32.toNatClampNeg ((8 : Int32) + x4))) + (1 : Int32)) < (99 : Int32) then ((σ.1 15 (Int32.toNatClampNeg ((8 : Int32) + x4))) + (1 : Int32)) else (99 : Int32))).1 15 (Int32.toNatClampNeg ((0 : Int32) + x4)))) dX12_strikeNow_72 rfl shM_15 (h8 c1 c3) rfl rfl ?_
      refine ax_iconst (q := 74) dX12_strikeNow_73 rfl ki_1 ?_
      refine ax_isub (q := 75) dX12_strikeNow_74 rfl ?_
      refine ax_mmax (q := 78) dX12_strikeNow_75 rfl mk_X12_255 (Nat.le_of_ble_eq_true rfl) ?_
      refine ax_iast (q := 79) (a := (Int32.toNatClampNeg ((0 : Int32) + x4))) dX12_strikeNow_78 rfl shM_15 (h8 c1 c3) rfl ?_
      refine ax_iincK (q := 82) (lv2 := [some (ax_r 0), some (ax_i x1), some (ax_i x2), some (ax_i x3), some (ax_i (x4 + (1 : Int32)))]) dX12_strikeNow_79 rfl rfl ki_1 (by decide) rfl rfl ?_
      refine ax_goto (tgt := 10) dX12_strikeNow_82 (by decide) ?_
      exact (k9 c1 c3)
set_option maxRecDepth 20000 in
theorem s_X12_strikeNow_100 {d : Nat} (hd : 0 ≤ d) {Q : Option ax_V → ax_S → Prop} (σ : ax_S) (x1 : Int32) (x2 : Int32) (x3 : Int32) (x4 : Int32) (h1 : ((180 : Int32) ≤ x4) → vp_in ((88 : Int32) + ((3 : Int32) * ((σ.1 15 87) - (1 : Int32)))) 268) (h2 : ((180 : Int32) ≤ x4) → vp_in (((88 : Int32) + ((3 : Int32) * ((σ.1 15 87) - (1 : Int32)))) + (1 : Int32)) 268) (h3 : ((180 : Int32) ≤ x4) → vp_in (((88 : Int32) + ((3 : Int32) * ((σ.1 15 87) - (1 : Int32)))) + (2 : Int32)) 268) (k4 : ((180 : Int32) ≤ x4) → Q (some (ax_i x3)) (ax_ui (ax_ui (ax_ui (ax_ui (ax_ui σ 15 87 ((σ.1 15 87) - (1 : Int32))) 15 (Int32.toNatClampNeg ((88 : Int32) + ((3 : Int32) * ((σ.1 15 87) - (1 : Int32))))) x1) 15 (Int32.toNatClampNeg (((88 : Int32) + ((3 : Int32) * ((σ.1 15 87) - (1 : Int32)))) + (1 : Int32))) x2) 15 (Int32.toNatClampNeg (((88 : Int32) + ((3 : Int32) * ((σ.1 15 87) - (1 : Int32)))) + (2 : Int32))) x3) 15 87 (((ax_ui (ax_ui (ax_ui (ax_ui σ 15 87 ((σ.1 15 87) - (1 : Int32))) 15 (Int32.toNatClampNeg ((88 : Int32) + ((3 : Int32) * ((σ.1 15 87) - (1 : Int32))))) x1) 15 (Int32.toNatClampNeg (((88 : Int32) + ((3 : Int32) * ((σ.1 15 87) - (1 : Int32)))) + (1 : Int32))) x2) 15 (Int32.toNatClampNeg (((88 : Int32) + ((3 : Int32) * ((σ.1 15 87) - (1 : Int32)))) + (2 : Int32))) x3).1 15 87) + (1 : Int32)))) (h5 : (¬ ((180 : Int32) ≤ x4)) → vp_in ((88 : Int32) + x4) 268) (h6 : (¬ ((180 : Int32) ≤ x4)) → vp_in (((88 : Int32) + x4) - (3 : Int32)) 268) (k7 : (¬ ((180 : Int32) ≤ x4)) → ax_W shM (d + 1) mX12_strikeNow Q 100 [some (ax_r 0), some (ax_i x1), some (ax_i x2), some (ax_i x3), some (ax_i (x4 + (1 : Int32)))] [] (ax_ui σ 15 (Int32.toNatClampNeg (((88 : Int32) + x4) - (3 : Int32))) (σ.1 15 (Int32.toNatClampNeg ((88 : Int32) + x4))))) : ax_W shM (d + 1) mX12_strikeNow Q 100 [some (ax_r 0), some (ax_i x1), some (ax_i x2), some (ax_i x3), some (ax_i x4)] [] σ := by
  refine ax_iload (q := 102) dX12_strikeNow_100 rfl rfl ?_
  refine ax_sipush (q := 105) dX12_strikeNow_102 rfl ks_180 ?_
  refine ax_icmp_ge (tgt := 136) (q := 108) dX12_strikeNow_105 (by decide) rfl (fun c1 => ?_) (fun c1 => ?_)
  · refine ax_aload_n (q := 137) (i := 0) dX12_strikeNow_136 rfl rfl rfl ?_
    refine ax_get (q := 140) (k := 0) (j := 25) (v := ax_r 15) dX12_strikeNow_137 rfl shM_0 rfl rfl rfl (by decide) fl_X12_52 ?_
    refine ax_bipush (q := 142) dX12_strikeNow_140 rfl kb_87 ?_
    refine ax_dup2_11 (q := 143) dX12_strikeNow_142 rfl ?_
    refine ax_iald (q := 144) (a := 87) (v := (σ.1 15 87)) dX12_strikeNow_143 rfl shM_15 (ax_inl 87 268 (by decide) (by decide)) rfl rfl ?_
    refine ax_iconst (q := 145) dX12_strikeNow_144 rfl ki_1 ?_
    refine ax_isub (q := 146) dX12_strikeNow_145 rfl ?_
    refine ax_iast (q := 147) (a := 87) dX12_strikeNow_146 rfl shM_15 (ax_inl 87 268 (by decide) (by decide)) rfl ?_
    refine ax_bipush (q := 149) dX12_strikeNow_147 rfl kb_88 ?_
    refine ax_iconst (q := 150) dX12_strikeNow_149 rfl ki_3 ?_
    refine ax_aload_n (q := 151) (i := 0) dX12_strikeNow_150 rfl rfl rfl ?_
    refine ax_get (q := 154) (k := 0) (j := 25) (v := ax_r 15) dX12_strikeNow_151 rfl shM_0 rfl rfl rfl (by decide) fl_X12_52 ?_
    refine ax_bipush (q := 156) dX12_strikeNow_154 rfl kb_87 ?_
    refine ax_iald (q := 157) (a := 87) (v := ((σ.1 15 87) - (1 : Int32))) dX12_strikeNow_156 rfl shM_15 (ax_inl 87 268 (by decide) (by decide)) rfl rfl ?_
    refine ax_imul (q := 158) dX12_strikeNow_157 rfl ?_
    refine ax_iadd (q := 159) dX12_strikeNow_158 rfl ?_
    refine ax_istore (q := 161) (lv2 := [some (ax_r 0), some (ax_i x1), some (ax_i x2), some (ax_i x3), some (ax_i ((88 : Int32) + ((3 : Int32) * ((σ.1 15 87) - (1 : Int32)))))]) dX12_strikeNow_159 rfl (by decide) rfl rfl ?_
    refine ax_aload_n (q := 162) (i := 0) dX12_strikeNow_161 rfl rfl rfl ?_
    refine ax_get (q := 165) (k := 0) (j := 25) (v := ax_r 15) dX12_strikeNow_162 rfl shM_0 rfl rfl rfl (by decide) fl_X12_52 ?_
    refine ax_iload (q := 167) dX12_strikeNow_165 rfl rfl ?_
    refine ax_iload_n (q := 168) (i := 1) dX12_strikeNow_167 rfl rfl rfl ?_
    refine ax_iast (q := 169) (a := (Int32.toNatClampNeg ((88 : Int32) + ((3 : Int32) * ((σ.1 15 87) - (1 : Int32)))))) dX12_strikeNow_168 rfl shM_15 (h1 c1) rfl ?_
    refine ax_aload_n (q := 170) (i := 0) dX12_strikeNow_169 rfl rfl rfl ?_
    refine ax_get (q := 173) (k := 0) (j := 25) (v := ax_r 15) dX12_strikeNow_170 rfl shM_0 rfl rfl rfl (by decide) fl_X12_52 ?_
    refine ax_iload (q := 175) dX12_strikeNow_173 rfl rfl ?_
    refine ax_iconst (q := 176) dX12_strikeNow_175 rfl ki_1 ?_
    refine ax_iadd (q := 177) dX12_strikeNow_176 rfl ?_
    refine ax_iload_n (q := 178) (i := 2) dX12_strikeNow_177 rfl rfl rfl ?_
    refine ax_iast (q := 179) (a := (Int32.toNatClampNeg (((88 : Int32) + ((3 : Int32) * ((σ.1 15 87) - (1 : Int32)))) + (1 : Int32)))) dX12_strikeNow_178 rfl shM_15 (h2 c1) rfl ?_
    refine ax_aload_n (q := 180) (i := 0) dX12_strikeNow_179 rfl rfl rfl ?_
    refine ax_get (q := 183) (k := 0) (j := 25) (v := ax_r 15) dX12_strikeNow_180 rfl shM_0 rfl rfl rfl (by decide) fl_X12_52 ?_
    refine ax_iload (q := 185) dX12_strikeNow_183 rfl rfl ?_
    refine ax_iconst (q := 186) dX12_strikeNow_185 rfl ki_2 ?_
    refine ax_iadd (q := 187) dX12_strikeNow_186 rfl ?_
    refine ax_iload_n (q := 188) (i := 3) dX12_strikeNow_187 rfl rfl rfl ?_
    refine ax_iast (q := 189) (a := (Int32.toNatClampNeg (((88 : Int32) + ((3 : Int32) * ((σ.1 15 87) - (1 : Int32)))) + (2 : Int32)))) dX12_strikeNow_188 rfl shM_15 (h3 c1) rfl ?_
    refine ax_aload_n (q := 190) (i := 0) dX12_strikeNow_189 rfl rfl rfl ?_
    refine ax_get (q := 193) (k := 0) (j := 25) (v := ax_r 15) dX12_strikeNow_190 rfl shM_0 rfl rfl rfl (by decide) fl_X12_52 ?_
    refine ax_bipush (q := 195) dX12_strikeNow_193 rfl kb_87 ?_
    refine ax_dup2_11 (q := 196) dX12_strikeNow_195 rfl ?_
    refine ax_iald (q := 197) (a := 87) (v := ((ax_ui (ax_ui (ax_ui (ax_ui σ 15 87 ((σ.1 15 87) - (1 : Int32))) 15 (Int32.toNatClampNeg ((88 : Int32) + ((3 : Int32) * ((σ.1 15 87) - (1 : Int32))))) x1) 15 (Int32.toNatClampNeg (((88 : Int32) + ((3 : Int32) * ((σ.1 15 87) - (1 : Int32)))) + (1 : Int32))) x2) 15 (Int32.toNatClampNeg (((88 : Int32) + ((3 : Int32) * ((σ.1 15 87) - (1 : Int32)))) + (2 : Int32))) x3).1 15 87)) dX12_strikeNow_196 rfl shM_15 (ax_inl 87 268 (by decide) (by decide)) rfl rfl ?_
    refine ax_iconst (q := 198) dX12_strikeNow_197 rfl ki_1 ?_
    refine ax_iadd (q := 199) dX12_strikeNow_198 rfl ?_
    refine ax_iast (q := 200) (a := 87) dX12_strikeNow_199 rfl shM_15 (ax_inl 87 268 (by decide) (by decide)) rfl ?_
    refine ax_iload_n (q := 201) (i := 3) dX12_strikeNow_200 rfl rfl rfl ?_
    exact ax_iret dX12_strikeNow_201 rfl rfl (k4 c1)
  · refine ax_aload_n (q := 109) (i := 0) dX12_strikeNow_108 rfl rfl rfl ?_
    refine ax_get (q := 112) (k := 0) (j := 25) (v := ax_r 15) dX12_strikeNow_109 rfl shM_0 rfl rfl rfl (by decide) fl_X12_52 ?_
    refine ax_bipush (q := 114) dX12_strikeNow_112 rfl kb_88 ?_
    refine ax_iload (q := 116) dX12_strikeNow_114 rfl rfl ?_
    refine ax_iadd (q := 117) dX12_strikeNow_116 rfl ?_
    refine ax_iconst (q := 118) dX12_strikeNow_117 rfl ki_3 ?_
    refine ax_isub (q := 119) dX12_strikeNow_118 rfl ?_
    refine ax_aload_n (q := 120) (i := 0) dX12_strikeNow_119 rfl rfl rfl ?_
    refine ax_get (q := 123) (k := 0) (j := 25) (v := ax_r 15) dX12_strikeNow_120 rfl shM_0 rfl rfl rfl (by decide) fl_X12_52 ?_
    refine ax_bipush (q := 125) dX12_strikeNow_123 rfl kb_88 ?_
    refine ax_iload (q := 127) dX12_strikeNow_125 rfl rfl ?_
    refine ax_iadd (q := 128) dX12_strikeNow_127 rfl ?_
    refine ax_iald (q := 129) (a := (Int32.toNatClampNeg ((88 : Int32) + x4))) (v := (σ.1 15 (Int32.toNatClampNeg ((88 : Int32) + x4)))) dX12_strikeNow_128 rfl shM_15 (h5 c1) rfl rfl ?_
    refine ax_iast (q := 130) (a := (Int32.toNatClampNeg (((88 : Int32) + x4) - (3 : Int32)))) dX12_strikeNow_129 rfl shM_15 (h6 c1) rfl ?_
    refine ax_iincK (q := 133) (lv2 := [some (ax_r 0), some (ax_i x1), some (ax_i x2), some (ax_i x3), some (ax_i (x4 + (1 : Int32)))]) dX12_strikeNow_130 rfl rfl ki_1 (by decide) rfl rfl ?_
    refine ax_goto (tgt := 100) dX12_strikeNow_133 (by decide) ?_
    exact (k7 c1)
set_option maxRecDepth 20000 in
theorem s_X12_strike_0 {d : Nat} (hd : 2 ≤ d) {Q : Option ax_V → ax_S → Prop} (σ : ax_S) (a0 : Int32) (a1 : Int32) (k1 : ax_Ct shM d mX12_isRefused [ax_r 0, ax_i (if ((¬ (a0 < (0 : Int32))) ∧ (¬ (((σ.1 0 23) - (1 : Int32)) < a0))) then (if ((¬ (a1 < (1 : Int32))) ∧ (¬ ((999 : Int32) < a1))) then (-1 : Int32) else (1 : Int32)) else (0 : Int32))] (fun r u => ∃ x : Int32, r = some (ax_i x) ∧ ax_W shM (d + 1) mX12_strike Q 28 [some (ax_r 0), some (ax_i a0), some (ax_i a1)] (ax_i x :: []) u) σ) : ax_W shM (d + 1) mX12_strike Q 0 [some (ax_r 0), some (ax_i a0), some (ax_i a1)] [] σ := by
  refine ax_aload_n (q := 1) (i := 0) dX12_strike_0 rfl rfl rfl ?_
  refine ax_aload_n (q := 2) (i := 0) dX12_strike_1 rfl rfl rfl ?_
  refine ax_iload_n (q := 3) (i := 1) dX12_strike_2 rfl rfl rfl ?_
  refine ax_callVfi (q := 6) (As := [ax_i a0]) (st := [ax_r 0]) (x := (if ((¬ (a0 < (0 : Int32))) ∧ (¬ (((σ.1 0 23) - (1 : Int32)) < a0))) then (1 : Int32) else 0)) (σ2 := σ) dX12_strike_3 rfl lk_X12_342 shM_0 rfl rfl rfl rfl (Nat.le_of_ble_eq_true rfl) (f_X12_isHouse σ a0  (d := d) (by omega)) ?_
  have K3 : ax_W shM (d + 1) mX12_strike Q 25 [some (ax_r 0), some (ax_i a0), some (ax_i a1)] [ax_i (if ((¬ (a0 < (0 : Int32))) ∧ (¬ (((σ.1 0 23) - (1 : Int32)) < a0))) then (if ((¬ (a1 < (1 : Int32))) ∧ (¬ ((999 : Int32) < a1))) then (-1 : Int32) else (1 : Int32)) else (0 : Int32)), ax_r 0] σ := by
    exact ax_callVci (q := 28) (As := [ax_i (if ((¬ (a0 < (0 : Int32))) ∧ (¬ (((σ.1 0 23) - (1 : Int32)) < a0))) then (if ((¬ (a1 < (1 : Int32))) ∧ (¬ ((999 : Int32) < a1))) then (-1 : Int32) else (1 : Int32)) else (0 : Int32))]) (st := []) dX12_strike_25 rfl lk_X12_354 shM_0 rfl rfl rfl rfl (Nat.le_of_ble_eq_true rfl) k1
  refine ax_if_neB (tgt := 13) (q := 9) dX12_strike_6 (by decide) rfl (fun c1 => ?_) (fun c1 => ?_)
  · refine ax_iload_n (q := 14) (i := 2) dX12_strike_13 rfl rfl rfl ?_
    refine ax_callSfi (q := 17) (As := [ax_i a1]) (st := [ax_r 0]) (x := (if ((¬ (a1 < (1 : Int32))) ∧ (¬ ((999 : Int32) < a1))) then (1 : Int32) else 0)) (σ2 := σ) dX12_strike_14 rfl lk_X12_351 rfl rfl (Nat.le_of_ble_eq_true rfl) (f_X12_isForce (sh := shM) σ a1  (d := d) (by omega)) ?_
    refine ax_if_neB (tgt := 24) (q := 20) dX12_strike_17 (by decide) rfl (fun c2 => ?_) (fun c2 => ?_)
    · refine ax_iconst (q := 25) dX12_strike_24 rfl ki_m1 ?_
      exact ax_cv ((if_pos c1).trans (if_pos c2)) K3
    · refine ax_iconst (q := 21) dX12_strike_20 rfl ki_1 ?_
      refine ax_goto (tgt := 25) dX12_strike_21 (by decide) ?_
      exact ax_cv ((if_pos c1).trans (if_neg c2)) K3
  · refine ax_iconst (q := 10) dX12_strike_9 rfl ki_0 ?_
    refine ax_goto (tgt := 25) dX12_strike_10 (by decide) ?_
    exact ax_cv (if_neg c1) K3
set_option maxRecDepth 20000 in
theorem s_X12_strike_28 {d : Nat} (hd : 0 ≤ d) {Q : Option ax_V → ax_S → Prop} (σ : ax_S) (x1 : Int32) (x2 : Int32) (rr : Int32) (k1 : (rr = 0) → ax_Ct shM d mX12_keep [ax_r 0] (fun r u => r = none ∧ ax_W shM (d + 1) mX12_strike Q 37 [some (ax_r 0), some (ax_i x1), some (ax_i x2)] [] u) σ) (k2 : (¬ (rr = 0)) → Q (some (ax_i (-1 : Int32))) σ) : ax_W shM (d + 1) mX12_strike Q 28 [some (ax_r 0), some (ax_i x1), some (ax_i x2)] [ax_i rr] σ := by
  refine ax_if_eq (tgt := 33) (q := 31) dX12_strike_28 (by decide) rfl (fun c1 => ?_) (fun c1 => ?_)
  · refine ax_aload_n (q := 34) (i := 0) dX12_strike_33 rfl rfl rfl ?_
    exact ax_callVcv (q := 37) (As := []) (st := []) dX12_strike_34 rfl lk_X12_357 shM_0 rfl rfl rfl rfl (Nat.le_of_ble_eq_true rfl) (k1 c1)
  · refine ax_iconst (q := 32) dX12_strike_31 rfl ki_m1 ?_
    exact ax_iret dX12_strike_32 rfl rfl (k2 c1)
set_option maxRecDepth 20000 in
theorem s_X12_strike_37 {d : Nat} (hd : 0 ≤ d) {Q : Option ax_V → ax_S → Prop} (σ : ax_S) (x1 : Int32) (x2 : Int32) (k1 : ax_Ct shM d mX12_strikeNow [ax_r 0, ax_i x1, ax_i x2] (fun r u => ∃ x : Int32, r = some (ax_i x) ∧ ax_W shM (d + 1) mX12_strike Q 43 [none, none, none] (ax_i x :: []) u) σ) : ax_W shM (d + 1) mX12_strike Q 37 [some (ax_r 0), some (ax_i x1), some (ax_i x2)] [] σ := by
  refine ax_aload_n (q := 38) (i := 0) dX12_strike_37 rfl rfl rfl ?_
  refine ax_iload_n (q := 39) (i := 1) dX12_strike_38 rfl rfl rfl ?_
  refine ax_iload_n (q := 40) (i := 2) dX12_strike_39 rfl rfl rfl ?_
  refine ax_fg (lv2 := [none, none, none]) trivial ?_
  exact ax_callVci (q := 43) (As := [ax_i x1, ax_i x2]) (st := []) dX12_strike_40 rfl lk_X12_360 shM_0 rfl rfl rfl rfl (Nat.le_of_ble_eq_true rfl) k1
set_option maxRecDepth 20000 in
theorem s_X12_strike_43 {d : Nat} (hd : 0 ≤ d) {Q : Option ax_V → ax_S → Prop} (σ : ax_S) (rr : Int32) (k1 : Q (some (ax_i rr)) σ) : ax_W shM (d + 1) mX12_strike Q 43 [none, none, none] [ax_i rr] σ := by
  exact ax_iret dX12_strike_43 rfl rfl k1
set_option maxRecDepth 20000 in
theorem f_X12_priceOf (σ : ax_S) (a0 : Int32) (a1 : Int32) (h1 : vp_in (((4 : Int32) * a0) + (0 : Int32)) 32) (h2 : vp_in (((4 : Int32) * a1) + (0 : Int32)) 32) {d : Nat} (hd : 3 ≤ d) : ax_Ct shM d mX12_priceOf [ax_r 0, ax_i a0, ax_i a1] (fun r u => r = some (ax_i (if (1 : Int32) < (if (0 : Int32) ≤ ((σ.1 14 (Int32.toNatClampNeg (((4 : Int32) * a0) + (0 : Int32)))) - (σ.1 14 (Int32.toNatClampNeg (((4 : Int32) * a1) + (0 : Int32))))) then ((σ.1 14 (Int32.toNatClampNeg (((4 : Int32) * a0) + (0 : Int32)))) - (σ.1 14 (Int32.toNatClampNeg (((4 : Int32) * a1) + (0 : Int32))))) else 0 - ((σ.1 14 (Int32.toNatClampNeg (((4 : Int32) * a0) + (0 : Int32)))) - (σ.1 14 (Int32.toNatClampNeg (((4 : Int32) * a1) + (0 : Int32)))))) then (if (0 : Int32) ≤ ((σ.1 14 (Int32.toNatClampNeg (((4 : Int32) * a0) + (0 : Int32)))) - (σ.1 14 (Int32.toNatClampNeg (((4 : Int32) * a1) + (0 : Int32))))) then ((σ.1 14 (Int32.toNatClampNeg (((4 : Int32) * a0) + (0 : Int32)))) - (σ.1 14 (Int32.toNatClampNeg (((4 : Int32) * a1) + (0 : Int32))))) else 0 - ((σ.1 14 (Int32.toNatClampNeg (((4 : Int32) * a0) + (0 : Int32)))) - (σ.1 14 (Int32.toNatClampNeg (((4 : Int32) * a1) + (0 : Int32)))))) else (1 : Int32))) ∧ u = σ) σ := by
  obtain ⟨d, rfl⟩ : ∃ e, d = e + 1 := ⟨d - 1, by omega⟩
  refine ax_Ct.of (lv := [some (ax_r 0), some (ax_i a0), some (ax_i a1)]) (by decide +kernel) (fun ad => Nat.le_of_ble_eq_true rfl) (fun ad => rfl) ?_
  refine ax_iconst (q := 1) dX12_priceOf_0 rfl ki_1 ?_
  refine ax_aload_n (q := 2) (i := 0) dX12_priceOf_1 rfl rfl rfl ?_
  refine ax_iload_n (q := 3) (i := 1) dX12_priceOf_2 rfl rfl rfl ?_
  refine ax_iload_n (q := 4) (i := 2) dX12_priceOf_3 rfl rfl rfl ?_
  refine ax_callVfi (q := 7) (As := [ax_i a0, ax_i a1]) (st := [ax_i (1 : Int32)]) (x := (if (0 : Int32) ≤ ((σ.1 14 (Int32.toNatClampNeg (((4 : Int32) * a0) + (0 : Int32)))) - (σ.1 14 (Int32.toNatClampNeg (((4 : Int32) * a1) + (0 : Int32))))) then ((σ.1 14 (Int32.toNatClampNeg (((4 : Int32) * a0) + (0 : Int32)))) - (σ.1 14 (Int32.toNatClampNeg (((4 : Int32) * a1) + (0 : Int32))))) else 0 - ((σ.1 14 (Int32.toNatClampNeg (((4 : Int32) * a0) + (0 : Int32)))) - (σ.1 14 (Int32.toNatClampNeg (((4 : Int32) * a1) + (0 : Int32))))))) (σ2 := σ) dX12_priceOf_4 rfl lk_X12_363 shM_0 rfl rfl rfl rfl (Nat.le_of_ble_eq_true rfl) (f_X12_farOf σ a0 a1 h1 h2 (d := d) (by omega)) ?_
  refine ax_mmax (q := 10) dX12_priceOf_7 rfl mk_X12_255 (Nat.le_of_ble_eq_true rfl) ?_
  exact ax_iret dX12_priceOf_10 rfl rfl ⟨rfl, rfl⟩
set_option maxRecDepth 20000 in
theorem s_X12_whyNot_0 {d : Nat} (hd : 2 ≤ d) {Q : Option ax_V → ax_S → Prop} (σ : ax_S) (a0 : Int32) (a1 : Int32) (k1 : (¬ ((¬ (a0 < (0 : Int32))) ∧ (¬ (((σ.1 0 23) - (1 : Int32)) < a0)))) → Q (some (ax_i (0 : Int32))) σ) (k2 : ((¬ (a0 < (0 : Int32))) ∧ (¬ (((σ.1 0 23) - (1 : Int32)) < a0))) → (¬ ((¬ (a1 < (0 : Int32))) ∧ (¬ (((σ.1 0 23) - (1 : Int32)) < a1)))) → Q (some (ax_i (0 : Int32))) σ) (k3 : ((¬ (a0 < (0 : Int32))) ∧ (¬ (((σ.1 0 23) - (1 : Int32)) < a0))) → ((¬ (a1 < (0 : Int32))) ∧ (¬ (((σ.1 0 23) - (1 : Int32)) < a1))) → (¬ a0 = a1) → ax_Ct shM d mX12_areTied [ax_r 0, ax_i a0, ax_i a1] (fun r u => ∃ x : Int32, r = some (ax_i x) ∧ ax_W shM (d + 1) mX12_whyNot Q 29 [some (ax_r 0), some (ax_i a0), some (ax_i a1)] (ax_i x :: []) u) σ) (k4 : ((¬ (a0 < (0 : Int32))) ∧ (¬ (((σ.1 0 23) - (1 : Int32)) < a0))) → ((¬ (a1 < (0 : Int32))) ∧ (¬ (((σ.1 0 23) - (1 : Int32)) < a1))) → (¬ (¬ a0 = a1)) → Q (some (ax_i (0 : Int32))) σ) : ax_W shM (d + 1) mX12_whyNot Q 0 [some (ax_r 0), some (ax_i a0), some (ax_i a1)] [] σ := by
  refine ax_aload_n (q := 1) (i := 0) dX12_whyNot_0 rfl rfl rfl ?_
  refine ax_iload_n (q := 2) (i := 1) dX12_whyNot_1 rfl rfl rfl ?_
  refine ax_callVfi (q := 5) (As := [ax_i a0]) (st := []) (x := (if ((¬ (a0 < (0 : Int32))) ∧ (¬ (((σ.1 0 23) - (1 : Int32)) < a0))) then (1 : Int32) else 0)) (σ2 := σ) dX12_whyNot_2 rfl lk_X12_342 shM_0 rfl rfl rfl rfl (Nat.le_of_ble_eq_true rfl) (f_X12_isHouse σ a0  (d := d) (by omega)) ?_
  refine ax_if_eqB (tgt := 21) (q := 8) dX12_whyNot_5 (by decide) rfl (fun c1 => ?_) (fun c1 => ?_)
  · refine ax_iconst (q := 22) dX12_whyNot_21 rfl ki_0 ?_
    exact ax_iret dX12_whyNot_22 rfl rfl (k1 c1)
  · refine ax_aload_n (q := 9) (i := 0) dX12_whyNot_8 rfl rfl rfl ?_
    refine ax_iload_n (q := 10) (i := 2) dX12_whyNot_9 rfl rfl rfl ?_
    refine ax_callVfi (q := 13) (As := [ax_i a1]) (st := []) (x := (if ((¬ (a1 < (0 : Int32))) ∧ (¬ (((σ.1 0 23) - (1 : Int32)) < a1))) then (1 : Int32) else 0)) (σ2 := σ) dX12_whyNot_10 rfl lk_X12_342 shM_0 rfl rfl rfl rfl (Nat.le_of_ble_eq_true rfl) (f_X12_isHouse σ a1  (d := d) (by omega)) ?_
    refine ax_if_eqB (tgt := 21) (q := 16) dX12_whyNot_13 (by decide) rfl (fun c2 => ?_) (fun c2 => ?_)
    · refine ax_iconst (q := 22) dX12_whyNot_21 rfl ki_0 ?_
      exact ax_iret dX12_whyNot_22 rfl rfl (k2 c1 c2)
    · refine ax_iload_n (q := 17) (i := 1) dX12_whyNot_16 rfl rfl rfl ?_
      refine ax_iload_n (q := 18) (i := 2) dX12_whyNot_17 rfl rfl rfl ?_
      refine ax_icmp_ne (tgt := 23) (q := 21) dX12_whyNot_18 (by decide) rfl (fun c3 => ?_) (fun c3 => ?_)
      · refine ax_aload_n (q := 24) (i := 0) dX12_whyNot_23 rfl rfl rfl ?_
        refine ax_iload_n (q := 25) (i := 1) dX12_whyNot_24 rfl rfl rfl ?_
        refine ax_iload_n (q := 26) (i := 2) dX12_whyNot_25 rfl rfl rfl ?_
        exact ax_callVci (q := 29) (As := [ax_i a0, ax_i a1]) (st := []) dX12_whyNot_26 rfl lk_X12_366 shM_0 rfl rfl rfl rfl (Nat.le_of_ble_eq_true rfl) (k3 c1 c2 c3)
      · refine ax_iconst (q := 22) dX12_whyNot_21 rfl ki_0 ?_
        exact ax_iret dX12_whyNot_22 rfl rfl (k4 c1 c2 c3)
set_option maxRecDepth 20000 in
theorem s_X12_whyNot_29 {d : Nat} (hd : 3 ≤ d) {Q : Option ax_V → ax_S → Prop} (σ : ax_S) (x1 : Int32) (x2 : Int32) (rr : Int32) (h1 : (¬ (¬ rr = 0)) → vp_in (((4 : Int32) * x1) + (3 : Int32)) 32) (h2 : (¬ (¬ rr = 0)) → (¬ (¬ (σ.1 14 (Int32.toNatClampNeg (((4 : Int32) * x1) + (3 : Int32)))) = (2 : Int32))) → vp_in (((4 : Int32) * x2) + (3 : Int32)) 32) (h3 : (¬ (¬ rr = 0)) → (¬ ((¬ (¬ (σ.1 14 (Int32.toNatClampNeg (((4 : Int32) * x1) + (3 : Int32)))) = (2 : Int32))) ∧ (¬ (¬ (σ.1 14 (Int32.toNatClampNeg (((4 : Int32) * x2) + (3 : Int32)))) = (2 : Int32))))) → (¬ (σ.1 15 84) = (16 : Int32)) → vp_in (((4 : Int32) * x1) + (0 : Int32)) 32) (h4 : (¬ (¬ rr = 0)) → (¬ ((¬ (¬ (σ.1 14 (Int32.toNatClampNeg (((4 : Int32) * x1) + (3 : Int32)))) = (2 : Int32))) ∧ (¬ (¬ (σ.1 14 (Int32.toNatClampNeg (((4 : Int32) * x2) + (3 : Int32)))) = (2 : Int32))))) → (¬ (σ.1 15 84) = (16 : Int32)) → vp_in (((4 : Int32) * x2) + (0 : Int32)) 32) (k5 : Q (some (ax_i (if (¬ rr = 0) then (2 : Int32) else (if ((¬ (¬ (σ.1 14 (Int32.toNatClampNeg (((4 : Int32) * x1) + (3 : Int32)))) = (2 : Int32))) ∧ (¬ (¬ (σ.1 14 (Int32.toNatClampNeg (((4 : Int32) * x2) + (3 : Int32)))) = (2 : Int32)))) then (2 : Int32) else (if (¬ (σ.1 15 84) = (16 : Int32)) then (if ((if (1 : Int32) < (if (0 : Int32) ≤ ((σ.1 14 (Int32.toNatClampNeg (((4 : Int32) * x1) + (0 : Int32)))) - (σ.1 14 (Int32.toNatClampNeg (((4 : Int32) * x2) + (0 : Int32))))) then ((σ.1 14 (Int32.toNatClampNeg (((4 : Int32) * x1) + (0 : Int32)))) - (σ.1 14 (Int32.toNatClampNeg (((4 : Int32) * x2) + (0 : Int32))))) else 0 - ((σ.1 14 (Int32.toNatClampNeg (((4 : Int32) * x1) + (0 : Int32)))) - (σ.1 14 (Int32.toNatClampNeg (((4 : Int32) * x2) + (0 : Int32)))))) then (if (0 : Int32) ≤ ((σ.1 14 (Int32.toNatClampNeg (((4 : Int32) * x1) + (0 : Int32)))) - (σ.1 14 (Int32.toNatClampNeg (((4 : Int32) * x2) + (0 : Int32))))) then ((σ.1 14 (Int32.toNatClampNeg (((4 : Int32) * x1) + (0 : Int32)))) - (σ.1 14 (Int32.toNatClampNeg (((4 : Int32) * x2) + (0 : Int32))))) else 0 - ((σ.1 14 (Int32.toNatClampNeg (((4 : Int32) * x1) + (0 : Int32)))) - (σ.1 14 (Int32.toNatClampNeg (((4 : Int32) * x2) + (0 : Int32)))))) else (1 : Int32)) ≤ (σ.1 15 85)) then (-1 : Int32) else (4 : Int32)) else (2 : Int32)))))) σ) : ax_W shM (d + 1) mX12_whyNot Q 29 [some (ax_r 0), some (ax_i x1), some (ax_i x2)] [ax_i rr] σ := by
  have K5 : ax_W shM (d + 1) mX12_whyNot Q 78 [some (ax_r 0), some (ax_i x1), some (ax_i x2)] [ax_i (if (¬ rr = 0) then (2 : Int32) else (if ((¬ (¬ (σ.1 14 (Int32.toNatClampNeg (((4 : Int32) * x1) + (3 : Int32)))) = (2 : Int32))) ∧ (¬ (¬ (σ.1 14 (Int32.toNatClampNeg (((4 : Int32) * x2) + (3 : Int32)))) = (2 : Int32)))) then (2 : Int32) else (if (¬ (σ.1 15 84) = (16 : Int32)) then (if ((if (1 : Int32) < (if (0 : Int32) ≤ ((σ.1 14 (Int32.toNatClampNeg (((4 : Int32) * x1) + (0 : Int32)))) - (σ.1 14 (Int32.toNatClampNeg (((4 : Int32) * x2) + (0 : Int32))))) then ((σ.1 14 (Int32.toNatClampNeg (((4 : Int32) * x1) + (0 : Int32)))) - (σ.1 14 (Int32.toNatClampNeg (((4 : Int32) * x2) + (0 : Int32))))) else 0 - ((σ.1 14 (Int32.toNatClampNeg (((4 : Int32) * x1) + (0 : Int32)))) - (σ.1 14 (Int32.toNatClampNeg (((4 : Int32) * x2) + (0 : Int32)))))) then (if (0 : Int32) ≤ ((σ.1 14 (Int32.toNatClampNeg (((4 : Int32) * x1) + (0 : Int32)))) - (σ.1 14 (Int32.toNatClampNeg (((4 : Int32) * x2) + (0 : Int32))))) then ((σ.1 14 (Int32.toNatClampNeg (((4 : Int32) * x1) + (0 : Int32)))) - (σ.1 14 (Int32.toNatClampNeg (((4 : Int32) * x2) + (0 : Int32))))) else 0 - ((σ.1 14 (Int32.toNatClampNeg (((4 : Int32) * x1) + (0 : Int32)))) - (σ.1 14 (Int32.toNatClampNeg (((4 : Int32) * x2) + (0 : Int32)))))) else (1 : Int32)) ≤ (σ.1 15 85)) then (-1 : Int32) else (4 : Int32)) else (2 : Int32))))] σ := by
    exact ax_iret dX12_whyNot_78 rfl rfl k5
  refine ax_if_ne (tgt := 53) (q := 32) dX12_whyNot_29 (by decide) rfl (fun c1 => ?_) (fun c1 => ?_)
  · refine ax_iconst (q := 54) dX12_whyNot_53 rfl ki_2 ?_
    refine ax_goto (tgt := 78) dX12_whyNot_54 (by decide) ?_
    exact ax_cv (if_pos c1) K5
  · refine ax_aload_n (q := 33) (i := 0) dX12_whyNot_32 rfl rfl rfl ?_
    refine ax_iload_n (q := 34) (i := 1) dX12_whyNot_33 rfl rfl rfl ?_
    refine ax_iload_n (q := 35) (i := 2) dX12_whyNot_34 rfl rfl rfl ?_
    refine ax_callVfi (q := 38) (As := [ax_i x1, ax_i x2]) (st := []) (x := (if ((¬ (¬ (σ.1 14 (Int32.toNatClampNeg (((4 : Int32) * x1) + (3 : Int32)))) = (2 : Int32))) ∧ (¬ (¬ (σ.1 14 (Int32.toNatClampNeg (((4 : Int32) * x2) + (3 : Int32)))) = (2 : Int32)))) then (1 : Int32) else 0)) (σ2 := σ) dX12_whyNot_35 rfl lk_X12_369 shM_0 rfl rfl rfl rfl (Nat.le_of_ble_eq_true rfl) (f_X12_areChapels σ x1 x2 (h1 c1) (h2 c1) (d := d) (by omega)) ?_
    refine ax_if_neB (tgt := 53) (q := 41) dX12_whyNot_38 (by decide) rfl (fun c2 => ?_) (fun c2 => ?_)
    · refine ax_iconst (q := 54) dX12_whyNot_53 rfl ki_2 ?_
      refine ax_goto (tgt := 78) dX12_whyNot_54 (by decide) ?_
      exact ax_cv ((if_neg c1).trans (if_pos c2)) K5
    · refine ax_aload_n (q := 42) (i := 0) dX12_whyNot_41 rfl rfl rfl ?_
      refine ax_get (q := 45) (k := 0) (j := 25) (v := ax_r 15) dX12_whyNot_42 rfl shM_0 rfl rfl rfl (by decide) fl_X12_52 ?_
      refine ax_bipush (q := 47) dX12_whyNot_45 rfl kb_84 ?_
      refine ax_iald (q := 48) (a := 84) (v := (σ.1 15 84)) dX12_whyNot_47 rfl shM_15 (ax_inl 84 268 (by decide) (by decide)) rfl rfl ?_
      refine ax_bipush (q := 50) dX12_whyNot_48 rfl kb_16 ?_
      refine ax_icmp_ne (tgt := 57) (q := 53) dX12_whyNot_50 (by decide) rfl (fun c3 => ?_) (fun c3 => ?_)
      · refine ax_aload_n (q := 58) (i := 0) dX12_whyNot_57 rfl rfl rfl ?_
        refine ax_get (q := 61) (k := 0) (j := 25) (v := ax_r 15) dX12_whyNot_58 rfl shM_0 rfl rfl rfl (by decide) fl_X12_52 ?_
        refine ax_bipush (q := 63) dX12_whyNot_61 rfl kb_85 ?_
        refine ax_iald (q := 64) (a := 85) (v := (σ.1 15 85)) dX12_whyNot_63 rfl shM_15 (ax_inl 85 268 (by decide) (by decide)) rfl rfl ?_
        refine ax_aload_n (q := 65) (i := 0) dX12_whyNot_64 rfl rfl rfl ?_
        refine ax_iload_n (q := 66) (i := 1) dX12_whyNot_65 rfl rfl rfl ?_
        refine ax_iload_n (q := 67) (i := 2) dX12_whyNot_66 rfl rfl rfl ?_
        refine ax_callVfi (q := 70) (As := [ax_i x1, ax_i x2]) (st := [ax_i (σ.1 15 85)]) (x := (if (1 : Int32) < (if (0 : Int32) ≤ ((σ.1 14 (Int32.toNatClampNeg (((4 : Int32) * x1) + (0 : Int32)))) - (σ.1 14 (Int32.toNatClampNeg (((4 : Int32) * x2) + (0 : Int32))))) then ((σ.1 14 (Int32.toNatClampNeg (((4 : Int32) * x1) + (0 : Int32)))) - (σ.1 14 (Int32.toNatClampNeg (((4 : Int32) * x2) + (0 : Int32))))) else 0 - ((σ.1 14 (Int32.toNatClampNeg (((4 : Int32) * x1) + (0 : Int32)))) - (σ.1 14 (Int32.toNatClampNeg (((4 : Int32) * x2) + (0 : Int32)))))) then (if (0 : Int32) ≤ ((σ.1 14 (Int32.toNatClampNeg (((4 : Int32) * x1) + (0 : Int32)))) - (σ.1 14 (Int32.toNatClampNeg (((4 : Int32) * x2) + (0 : Int32))))) then ((σ.1 14 (Int32.toNatClampNeg (((4 : Int32) * x1) + (0 : Int32)))) - (σ.1 14 (Int32.toNatClampNeg (((4 : Int32) * x2) + (0 : Int32))))) else 0 - ((σ.1 14 (Int32.toNatClampNeg (((4 : Int32) * x1) + (0 : Int32)))) - (σ.1 14 (Int32.toNatClampNeg (((4 : Int32) * x2) + (0 : Int32)))))) else (1 : Int32))) (σ2 := σ) dX12_whyNot_67 rfl lk_X12_372 shM_0 rfl rfl rfl rfl (Nat.le_of_ble_eq_true rfl) (f_X12_priceOf σ x1 x2 (h3 c1 c2 c3) (h4 c1 c2 c3) (d := d) (by omega)) ?_
        refine ax_icmp_ge (tgt := 77) (q := 73) dX12_whyNot_70 (by decide) rfl (fun c4 => ?_) (fun c4 => ?_)
        · refine ax_iconst (q := 78) dX12_whyNot_77 rfl ki_m1 ?_
          exact ax_cv ((if_neg c1).trans ((if_neg c2).trans ((if_pos c3).trans (if_pos c4)))) K5
        · refine ax_iconst (q := 74) dX12_whyNot_73 rfl ki_4 ?_
          refine ax_goto (tgt := 78) dX12_whyNot_74 (by decide) ?_
          exact ax_cv ((if_neg c1).trans ((if_neg c2).trans ((if_pos c3).trans (if_neg c4)))) K5
      · refine ax_iconst (q := 54) dX12_whyNot_53 rfl ki_2 ?_
        refine ax_goto (tgt := 78) dX12_whyNot_54 (by decide) ?_
        exact ax_cv ((if_neg c1).trans ((if_neg c2).trans (if_neg c3))) K5
set_option maxRecDepth 20000 in
theorem s_X12_lay_0 {d : Nat} (hd : 0 ≤ d) {Q : Option ax_V → ax_S → Prop} (σ : ax_S) (a0 : Int32) (a1 : Int32) (k1 : ax_Ct shM d mX12_whyNot [ax_r 0, ax_i a0, ax_i a1] (fun r u => ∃ x : Int32, r = some (ax_i x) ∧ ax_W shM (d + 1) mX12_lay Q 7 [some (ax_r 0), some (ax_i a0), some (ax_i a1)] (ax_i x :: [ax_r 0]) u) σ) : ax_W shM (d + 1) mX12_lay Q 0 [some (ax_r 0), some (ax_i a0), some (ax_i a1)] [] σ := by
  refine ax_aload_n (q := 1) (i := 0) dX12_lay_0 rfl rfl rfl ?_
  refine ax_aload_n (q := 2) (i := 0) dX12_lay_1 rfl rfl rfl ?_
  refine ax_iload_n (q := 3) (i := 1) dX12_lay_2 rfl rfl rfl ?_
  refine ax_iload_n (q := 4) (i := 2) dX12_lay_3 rfl rfl rfl ?_
  exact ax_callVci (q := 7) (As := [ax_i a0, ax_i a1]) (st := [ax_r 0]) dX12_lay_4 rfl lk_X12_375 shM_0 rfl rfl rfl rfl (Nat.le_of_ble_eq_true rfl) k1
set_option maxRecDepth 20000 in
theorem s_X12_lay_7 {d : Nat} (hd : 0 ≤ d) {Q : Option ax_V → ax_S → Prop} (σ : ax_S) (x1 : Int32) (x2 : Int32) (rr : Int32) (k1 : ax_Ct shM d mX12_isRefused [ax_r 0, ax_i rr] (fun r u => ∃ x : Int32, r = some (ax_i x) ∧ ax_W shM (d + 1) mX12_lay Q 10 [some (ax_r 0), some (ax_i x1), some (ax_i x2)] (ax_i x :: []) u) σ) : ax_W shM (d + 1) mX12_lay Q 7 [some (ax_r 0), some (ax_i x1), some (ax_i x2)] [ax_i rr, ax_r 0] σ := by
  exact ax_callVci (q := 10) (As := [ax_i rr]) (st := []) dX12_lay_7 rfl lk_X12_354 shM_0 rfl rfl rfl rfl (Nat.le_of_ble_eq_true rfl) k1
set_option maxRecDepth 20000 in
theorem s_X12_lay_10 {d : Nat} (hd : 0 ≤ d) {Q : Option ax_V → ax_S → Prop} (σ : ax_S) (x1 : Int32) (x2 : Int32) (rr : Int32) (k1 : (rr = 0) → ax_Ct shM d mX12_keep [ax_r 0] (fun r u => r = none ∧ ax_W shM (d + 1) mX12_lay Q 19 [some (ax_r 0), some (ax_i x1), some (ax_i x2)] [] u) σ) (k2 : (¬ (rr = 0)) → Q (some (ax_i (-1 : Int32))) σ) : ax_W shM (d + 1) mX12_lay Q 10 [some (ax_r 0), some (ax_i x1), some (ax_i x2)] [ax_i rr] σ := by
  refine ax_if_eq (tgt := 15) (q := 13) dX12_lay_10 (by decide) rfl (fun c1 => ?_) (fun c1 => ?_)
  · refine ax_aload_n (q := 16) (i := 0) dX12_lay_15 rfl rfl rfl ?_
    exact ax_callVcv (q := 19) (As := []) (st := []) dX12_lay_16 rfl lk_X12_357 shM_0 rfl rfl rfl rfl (Nat.le_of_ble_eq_true rfl) (k1 c1)
  · refine ax_iconst (q := 14) dX12_lay_13 rfl ki_m1 ?_
    exact ax_iret dX12_lay_14 rfl rfl (k2 c1)
set_option maxRecDepth 20000 in
theorem s_X12_lay_19 {d : Nat} (hd : 3 ≤ d) {Q : Option ax_V → ax_S → Prop} (σ : ax_S) (x1 : Int32) (x2 : Int32) (h1 : vp_in (((4 : Int32) * x1) + (0 : Int32)) 32) (h2 : vp_in (((4 : Int32) * x2) + (0 : Int32)) 32) (h3 : vp_in (((16 : Int32) + ((4 : Int32) * (σ.1 15 84))) + (0 : Int32)) 268) (h4 : vp_in (((16 : Int32) + ((4 : Int32) * (σ.1 15 84))) + (1 : Int32)) 268) (h5 : vp_in (((16 : Int32) + ((4 : Int32) * (σ.1 15 84))) + (2 : Int32)) 268) (h6 : vp_in (((16 : Int32) + ((4 : Int32) * (σ.1 15 84))) + (3 : Int32)) 268) (k7 : Q (some (ax_i (σ.1 15 84))) (ax_ui (ax_ui (ax_ui (ax_ui (ax_ui (ax_ui σ 15 85 ((σ.1 15 85) - (if (1 : Int32) < (if (0 : Int32) ≤ ((σ.1 14 (Int32.toNatClampNeg (((4 : Int32) * x1) + (0 : Int32)))) - (σ.1 14 (Int32.toNatClampNeg (((4 : Int32) * x2) + (0 : Int32))))) then ((σ.1 14 (Int32.toNatClampNeg (((4 : Int32) * x1) + (0 : Int32)))) - (σ.1 14 (Int32.toNatClampNeg (((4 : Int32) * x2) + (0 : Int32))))) else 0 - ((σ.1 14 (Int32.toNatClampNeg (((4 : Int32) * x1) + (0 : Int32)))) - (σ.1 14 (Int32.toNatClampNeg (((4 : Int32) * x2) + (0 : Int32)))))) then (if (0 : Int32) ≤ ((σ.1 14 (Int32.toNatClampNeg (((4 : Int32) * x1) + (0 : Int32)))) - (σ.1 14 (Int32.toNatClampNeg (((4 : Int32) * x2) + (0 : Int32))))) then ((σ.1 14 (Int32.toNatClampNeg (((4 : Int32) * x1) + (0 : Int32)))) - (σ.1 14 (Int32.toNatClampNeg (((4 : Int32) * x2) + (0 : Int32))))) else 0 - ((σ.1 14 (Int32.toNatClampNeg (((4 : Int32) * x1) + (0 : Int32)))) - (σ.1 14 (Int32.toNatClampNeg (((4 : Int32) * x2) + (0 : Int32)))))) else (1 : Int32)))) 15 84 ((σ.1 15 84) + (1 : Int32))) 15 (Int32.toNatClampNeg (((16 : Int32) + ((4 : Int32) * (σ.1 15 84))) + (0 : Int32))) x1) 15 (Int32.toNatClampNeg (((16 : Int32) + ((4 : Int32) * (σ.1 15 84))) + (1 : Int32))) x2) 15 (Int32.toNatClampNeg (((16 : Int32) + ((4 : Int32) * (σ.1 15 84))) + (2 : Int32))) (0 : Int32)) 15 (Int32.toNatClampNeg (((16 : Int32) + ((4 : Int32) * (σ.1 15 84))) + (3 : Int32))) (0 : Int32))) : ax_W shM (d + 1) mX12_lay Q 19 [some (ax_r 0), some (ax_i x1), some (ax_i x2)] [] σ := by
  refine ax_aload_n (q := 20) (i := 0) dX12_lay_19 rfl rfl rfl ?_
  refine ax_get (q := 23) (k := 0) (j := 25) (v := ax_r 15) dX12_lay_20 rfl shM_0 rfl rfl rfl (by decide) fl_X12_52 ?_
  refine ax_bipush (q := 25) dX12_lay_23 rfl kb_85 ?_
  refine ax_dup2_11 (q := 26) dX12_lay_25 rfl ?_
  refine ax_iald (q := 27) (a := 85) (v := (σ.1 15 85)) dX12_lay_26 rfl shM_15 (ax_inl 85 268 (by decide) (by decide)) rfl rfl ?_
  refine ax_aload_n (q := 28) (i := 0) dX12_lay_27 rfl rfl rfl ?_
  refine ax_iload_n (q := 29) (i := 1) dX12_lay_28 rfl rfl rfl ?_
  refine ax_iload_n (q := 30) (i := 2) dX12_lay_29 rfl rfl rfl ?_
  refine ax_callVfi (q := 33) (As := [ax_i x1, ax_i x2]) (st := [ax_i (σ.1 15 85), ax_i (85 : Int32), ax_r 15]) (x := (if (1 : Int32) < (if (0 : Int32) ≤ ((σ.1 14 (Int32.toNatClampNeg (((4 : Int32) * x1) + (0 : Int32)))) - (σ.1 14 (Int32.toNatClampNeg (((4 : Int32) * x2) + (0 : Int32))))) then ((σ.1 14 (Int32.toNatClampNeg (((4 : Int32) * x1) + (0 : Int32)))) - (σ.1 14 (Int32.toNatClampNeg (((4 : Int32) * x2) + (0 : Int32))))) else 0 - ((σ.1 14 (Int32.toNatClampNeg (((4 : Int32) * x1) + (0 : Int32)))) - (σ.1 14 (Int32.toNatClampNeg (((4 : Int32) * x2) + (0 : Int32)))))) then (if (0 : Int32) ≤ ((σ.1 14 (Int32.toNatClampNeg (((4 : Int32) * x1) + (0 : Int32)))) - (σ.1 14 (Int32.toNatClampNeg (((4 : Int32) * x2) + (0 : Int32))))) then ((σ.1 14 (Int32.toNatClampNeg (((4 : Int32) * x1) + (0 : Int32)))) - (σ.1 14 (Int32.toNatClampNeg (((4 : Int32) * x2) + (0 : Int32))))) else 0 - ((σ.1 14 (Int32.toNatClampNeg (((4 : Int32) * x1) + (0 : Int32)))) - (σ.1 14 (Int32.toNatClampNeg (((4 : Int32) * x2) + (0 : Int32)))))) else (1 : Int32))) (σ2 := σ) dX12_lay_30 rfl lk_X12_372 shM_0 rfl rfl rfl rfl (Nat.le_of_ble_eq_true rfl) (f_X12_priceOf σ x1 x2 h1 h2 (d := d) (by omega)) ?_
  refine ax_isub (q := 34) dX12_lay_33 rfl ?_
  refine ax_iast (q := 35) (a := 85) dX12_lay_34 rfl shM_15 (ax_inl 85 268 (by decide) (by decide)) rfl ?_
  refine ax_aload_n (q := 36) (i := 0) dX12_lay_35 rfl rfl rfl ?_
  refine ax_iload_n (q := 37) (i := 1) dX12_lay_36 rfl rfl rfl ?_
  refine ax_iload_n (q := 38) (i := 2) dX12_lay_37 rfl rfl rfl ?_
  refine ax_iconst (q := 39) dX12_lay_38 rfl ki_0 ?_
  refine ax_callVfi (q := 42) (As := [ax_i x1, ax_i x2, ax_i (0 : Int32)]) (st := []) (x := (σ.1 15 84)) (σ2 := (ax_ui (ax_ui (ax_ui (ax_ui (ax_ui (ax_ui σ 15 85 ((σ.1 15 85) - (if (1 : Int32) < (if (0 : Int32) ≤ ((σ.1 14 (Int32.toNatClampNeg (((4 : Int32) * x1) + (0 : Int32)))) - (σ.1 14 (Int32.toNatClampNeg (((4 : Int32) * x2) + (0 : Int32))))) then ((σ.1 14 (Int32.toNatClampNeg (((4 : Int32) * x1) + (0 : Int32)))) - (σ.1 14 (Int32.toNatClampNeg (((4 : Int32) * x2) + (0 : Int32))))) else 0 - ((σ.1 14 (Int32.toNatClampNeg (((4 : Int32) * x1) + (0 : Int32)))) - (σ.1 14 (Int32.toNatClampNeg (((4 : Int32) * x2) + (0 : Int32)))))) then (if (0 : Int32) ≤ ((σ.1 14 (Int32.toNatClampNeg (((4 : Int32) * x1) + (0 : Int32)))) - (σ.1 14 (Int32.toNatClampNeg (((4 : Int32) * x2) + (0 : Int32))))) then ((σ.1 14 (Int32.toNatClampNeg (((4 : Int32) * x1) + (0 : Int32)))) - (σ.1 14 (Int32.toNatClampNeg (((4 : Int32) * x2) + (0 : Int32))))) else 0 - ((σ.1 14 (Int32.toNatClampNeg (((4 : Int32) * x1) + (0 : Int32)))) - (σ.1 14 (Int32.toNatClampNeg (((4 : Int32) * x2) + (0 : Int32)))))) else (1 : Int32)))) 15 84 ((σ.1 15 84) + (1 : Int32))) 15 (Int32.toNatClampNeg (((16 : Int32) + ((4 : Int32) * (σ.1 15 84))) + (0 : Int32))) x1) 15 (Int32.toNatClampNeg (((16 : Int32) + ((4 : Int32) * (σ.1 15 84))) + (1 : Int32))) x2) 15 (Int32.toNatClampNeg (((16 : Int32) + ((4 : Int32) * (σ.1 15 84))) + (2 : Int32))) (0 : Int32)) 15 (Int32.toNatClampNeg (((16 : Int32) + ((4 : Int32) * (σ.1 15 84))) + (3 : Int32))) (0 : Int32))) dX12_lay_39 rfl lk_X12_280 shM_0 rfl rfl rfl rfl (Nat.le_of_ble_eq_true rfl) (f_X12_string (ax_ui σ 15 85 ((σ.1 15 85) - (if (1 : Int32) < (if (0 : Int32) ≤ ((σ.1 14 (Int32.toNatClampNeg (((4 : Int32) * x1) + (0 : Int32)))) - (σ.1 14 (Int32.toNatClampNeg (((4 : Int32) * x2) + (0 : Int32))))) then ((σ.1 14 (Int32.toNatClampNeg (((4 : Int32) * x1) + (0 : Int32)))) - (σ.1 14 (Int32.toNatClampNeg (((4 : Int32) * x2) + (0 : Int32))))) else 0 - ((σ.1 14 (Int32.toNatClampNeg (((4 : Int32) * x1) + (0 : Int32)))) - (σ.1 14 (Int32.toNatClampNeg (((4 : Int32) * x2) + (0 : Int32)))))) then (if (0 : Int32) ≤ ((σ.1 14 (Int32.toNatClampNeg (((4 : Int32) * x1) + (0 : Int32)))) - (σ.1 14 (Int32.toNatClampNeg (((4 : Int32) * x2) + (0 : Int32))))) then ((σ.1 14 (Int32.toNatClampNeg (((4 : Int32) * x1) + (0 : Int32)))) - (σ.1 14 (Int32.toNatClampNeg (((4 : Int32) * x2) + (0 : Int32))))) else 0 - ((σ.1 14 (Int32.toNatClampNeg (((4 : Int32) * x1) + (0 : Int32)))) - (σ.1 14 (Int32.toNatClampNeg (((4 : Int32) * x2) + (0 : Int32)))))) else (1 : Int32)))) x1 x2 (0 : Int32) (ax_inl 84 268 (by decide) (by decide)) h3 h4 h5 h6 (d := d) (by omega)) ?_
  exact ax_iret dX12_lay_42 rfl rfl k7
set_option maxRecDepth 20000 in
theorem s_X12_cut_0 {d : Nat} (hd : 2 ≤ d) {Q : Option ax_V → ax_S → Prop} (σ : ax_S) (a0 : Int32) (h1 : ((¬ (a0 < (0 : Int32))) ∧ (¬ (((σ.1 15 84) - (1 : Int32)) < a0))) → vp_in (((16 : Int32) + ((4 : Int32) * a0)) + (3 : Int32)) 268) (k2 : ax_Ct shM d mX12_isRefused [ax_r 0, ax_i (if ((¬ (a0 < (0 : Int32))) ∧ (¬ (((σ.1 15 84) - (1 : Int32)) < a0))) then (if (¬ (σ.1 15 (Int32.toNatClampNeg (((16 : Int32) + ((4 : Int32) * a0)) + (3 : Int32)))) = (1 : Int32)) then (-1 : Int32) else (3 : Int32)) else (0 : Int32))] (fun r u => ∃ x : Int32, r = some (ax_i x) ∧ ax_W shM (d + 1) mX12_cut Q 31 [some (ax_r 0), some (ax_i a0)] (ax_i x :: []) u) σ) : ax_W shM (d + 1) mX12_cut Q 0 [some (ax_r 0), some (ax_i a0)] [] σ := by
  refine ax_aload_n (q := 1) (i := 0) dX12_cut_0 rfl rfl rfl ?_
  refine ax_aload_n (q := 2) (i := 0) dX12_cut_1 rfl rfl rfl ?_
  refine ax_iload_n (q := 3) (i := 1) dX12_cut_2 rfl rfl rfl ?_
  refine ax_callVfi (q := 6) (As := [ax_i a0]) (st := [ax_r 0]) (x := (if ((¬ (a0 < (0 : Int32))) ∧ (¬ (((σ.1 15 84) - (1 : Int32)) < a0))) then (1 : Int32) else 0)) (σ2 := σ) dX12_cut_3 rfl lk_X12_345 shM_0 rfl rfl rfl rfl (Nat.le_of_ble_eq_true rfl) (f_X12_isWire σ a0 (ax_inl 84 268 (by decide) (by decide)) (d := d) (by omega)) ?_
  have K3 : ax_W shM (d + 1) mX12_cut Q 28 [some (ax_r 0), some (ax_i a0)] [ax_i (if ((¬ (a0 < (0 : Int32))) ∧ (¬ (((σ.1 15 84) - (1 : Int32)) < a0))) then (if (¬ (σ.1 15 (Int32.toNatClampNeg (((16 : Int32) + ((4 : Int32) * a0)) + (3 : Int32)))) = (1 : Int32)) then (-1 : Int32) else (3 : Int32)) else (0 : Int32)), ax_r 0] σ := by
    exact ax_callVci (q := 31) (As := [ax_i (if ((¬ (a0 < (0 : Int32))) ∧ (¬ (((σ.1 15 84) - (1 : Int32)) < a0))) then (if (¬ (σ.1 15 (Int32.toNatClampNeg (((16 : Int32) + ((4 : Int32) * a0)) + (3 : Int32)))) = (1 : Int32)) then (-1 : Int32) else (3 : Int32)) else (0 : Int32))]) (st := []) dX12_cut_28 rfl lk_X12_354 shM_0 rfl rfl rfl rfl (Nat.le_of_ble_eq_true rfl) k2
  refine ax_if_neB (tgt := 13) (q := 9) dX12_cut_6 (by decide) rfl (fun c1 => ?_) (fun c1 => ?_)
  · refine ax_aload_n (q := 14) (i := 0) dX12_cut_13 rfl rfl rfl ?_
    refine ax_iload_n (q := 15) (i := 1) dX12_cut_14 rfl rfl rfl ?_
    refine ax_iconst (q := 16) dX12_cut_15 rfl ki_3 ?_
    refine ax_callVfi (q := 19) (As := [ax_i a0, ax_i (3 : Int32)]) (st := [ax_r 0]) (x := (σ.1 15 (Int32.toNatClampNeg (((16 : Int32) + ((4 : Int32) * a0)) + (3 : Int32))))) (σ2 := σ) dX12_cut_16 rfl lk_X12_306 shM_0 rfl rfl rfl rfl (Nat.le_of_ble_eq_true rfl) (f_X12_ofWire σ a0 (3 : Int32) (h1 c1) (d := d) (by omega)) ?_
    refine ax_iconst (q := 20) dX12_cut_19 rfl ki_1 ?_
    refine ax_icmp_ne (tgt := 27) (q := 23) dX12_cut_20 (by decide) rfl (fun c2 => ?_) (fun c2 => ?_)
    · refine ax_iconst (q := 28) dX12_cut_27 rfl ki_m1 ?_
      exact ax_cv ((if_pos c1).trans (if_pos c2)) K3
    · refine ax_iconst (q := 24) dX12_cut_23 rfl ki_3 ?_
      refine ax_goto (tgt := 28) dX12_cut_24 (by decide) ?_
      exact ax_cv ((if_pos c1).trans (if_neg c2)) K3
  · refine ax_iconst (q := 10) dX12_cut_9 rfl ki_0 ?_
    refine ax_goto (tgt := 28) dX12_cut_10 (by decide) ?_
    exact ax_cv (if_neg c1) K3
set_option maxRecDepth 20000 in
theorem s_X12_cut_31 {d : Nat} (hd : 0 ≤ d) {Q : Option ax_V → ax_S → Prop} (σ : ax_S) (x1 : Int32) (rr : Int32) (k1 : (rr = 0) → ax_Ct shM d mX12_keep [ax_r 0] (fun r u => r = none ∧ ax_W shM (d + 1) mX12_cut Q 40 [some (ax_r 0), some (ax_i x1)] [] u) σ) (k2 : (¬ (rr = 0)) → Q (some (ax_i (-1 : Int32))) σ) : ax_W shM (d + 1) mX12_cut Q 31 [some (ax_r 0), some (ax_i x1)] [ax_i rr] σ := by
  refine ax_if_eq (tgt := 36) (q := 34) dX12_cut_31 (by decide) rfl (fun c1 => ?_) (fun c1 => ?_)
  · refine ax_aload_n (q := 37) (i := 0) dX12_cut_36 rfl rfl rfl ?_
    exact ax_callVcv (q := 40) (As := []) (st := []) dX12_cut_37 rfl lk_X12_357 shM_0 rfl rfl rfl rfl (Nat.le_of_ble_eq_true rfl) (k1 c1)
  · refine ax_iconst (q := 35) dX12_cut_34 rfl ki_m1 ?_
    exact ax_iret dX12_cut_35 rfl rfl (k2 c1)
set_option maxRecDepth 20000 in
theorem s_X12_cut_40 {d : Nat} (hd : 3 ≤ d) {Q : Option ax_V → ax_S → Prop} (σ : ax_S) (x1 : Int32) (h1 : vp_in (((16 : Int32) + ((4 : Int32) * x1)) + (3 : Int32)) 268) (h2 : vp_in (((16 : Int32) + ((4 : Int32) * x1)) + (0 : Int32)) 268) (h3 : vp_in (((16 : Int32) + ((4 : Int32) * x1)) + (1 : Int32)) 268) (h4 : vp_in (((4 : Int32) * ((ax_ui σ 15 (Int32.toNatClampNeg (((16 : Int32) + ((4 : Int32) * x1)) + (3 : Int32))) (1 : Int32)).1 15 (Int32.toNatClampNeg (((16 : Int32) + ((4 : Int32) * x1)) + (0 : Int32))))) + (0 : Int32)) 32) (h5 : vp_in (((4 : Int32) * ((ax_ui σ 15 (Int32.toNatClampNeg (((16 : Int32) + ((4 : Int32) * x1)) + (3 : Int32))) (1 : Int32)).1 15 (Int32.toNatClampNeg (((16 : Int32) + ((4 : Int32) * x1)) + (1 : Int32))))) + (0 : Int32)) 32) (k6 : Q (some (ax_i (if (((ax_ui σ 15 (Int32.toNatClampNeg (((16 : Int32) + ((4 : Int32) * x1)) + (3 : Int32))) (1 : Int32)).1 15 85) + ((if (1 : Int32) < (if (0 : Int32) ≤ ((σ.1 14 (Int32.toNatClampNeg (((4 : Int32) * ((ax_ui σ 15 (Int32.toNatClampNeg (((16 : Int32) + ((4 : Int32) * x1)) + (3 : Int32))) (1 : Int32)).1 15 (Int32.toNatClampNeg (((16 : Int32) + ((4 : Int32) * x1)) + (0 : Int32))))) + (0 : Int32)))) - (σ.1 14 (Int32.toNatClampNeg (((4 : Int32) * ((ax_ui σ 15 (Int32.toNatClampNeg (((16 : Int32) + ((4 : Int32) * x1)) + (3 : Int32))) (1 : Int32)).1 15 (Int32.toNatClampNeg (((16 : Int32) + ((4 : Int32) * x1)) + (1 : Int32))))) + (0 : Int32))))) then ((σ.1 14 (Int32.toNatClampNeg (((4 : Int32) * ((ax_ui σ 15 (Int32.toNatClampNeg (((16 : Int32) + ((4 : Int32) * x1)) + (3 : Int32))) (1 : Int32)).1 15 (Int32.toNatClampNeg (((16 : Int32) + ((4 : Int32) * x1)) + (0 : Int32))))) + (0 : Int32)))) - (σ.1 14 (Int32.toNatClampNeg (((4 : Int32) * ((ax_ui σ 15 (Int32.toNatClampNeg (((16 : Int32) + ((4 : Int32) * x1)) + (3 : Int32))) (1 : Int32)).1 15 (Int32.toNatClampNeg (((16 : Int32) + ((4 : Int32) * x1)) + (1 : Int32))))) + (0 : Int32))))) else 0 - ((σ.1 14 (Int32.toNatClampNeg (((4 : Int32) * ((ax_ui σ 15 (Int32.toNatClampNeg (((16 : Int32) + ((4 : Int32) * x1)) + (3 : Int32))) (1 : Int32)).1 15 (Int32.toNatClampNeg (((16 : Int32) + ((4 : Int32) * x1)) + (0 : Int32))))) + (0 : Int32)))) - (σ.1 14 (Int32.toNatClampNeg (((4 : Int32) * ((ax_ui σ 15 (Int32.toNatClampNeg (((16 : Int32) + ((4 : Int32) * x1)) + (3 : Int32))) (1 : Int32)).1 15 (Int32.toNatClampNeg (((16 : Int32) + ((4 : Int32) * x1)) + (1 : Int32))))) + (0 : Int32)))))) then (if (0 : Int32) ≤ ((σ.1 14 (Int32.toNatClampNeg (((4 : Int32) * ((ax_ui σ 15 (Int32.toNatClampNeg (((16 : Int32) + ((4 : Int32) * x1)) + (3 : Int32))) (1 : Int32)).1 15 (Int32.toNatClampNeg (((16 : Int32) + ((4 : Int32) * x1)) + (0 : Int32))))) + (0 : Int32)))) - (σ.1 14 (Int32.toNatClampNeg (((4 : Int32) * ((ax_ui σ 15 (Int32.toNatClampNeg (((16 : Int32) + ((4 : Int32) * x1)) + (3 : Int32))) (1 : Int32)).1 15 (Int32.toNatClampNeg (((16 : Int32) + ((4 : Int32) * x1)) + (1 : Int32))))) + (0 : Int32))))) then ((σ.1 14 (Int32.toNatClampNeg (((4 : Int32) * ((ax_ui σ 15 (Int32.toNatClampNeg (((16 : Int32) + ((4 : Int32) * x1)) + (3 : Int32))) (1 : Int32)).1 15 (Int32.toNatClampNeg (((16 : Int32) + ((4 : Int32) * x1)) + (0 : Int32))))) + (0 : Int32)))) - (σ.1 14 (Int32.toNatClampNeg (((4 : Int32) * ((ax_ui σ 15 (Int32.toNatClampNeg (((16 : Int32) + ((4 : Int32) * x1)) + (3 : Int32))) (1 : Int32)).1 15 (Int32.toNatClampNeg (((16 : Int32) + ((4 : Int32) * x1)) + (1 : Int32))))) + (0 : Int32))))) else 0 - ((σ.1 14 (Int32.toNatClampNeg (((4 : Int32) * ((ax_ui σ 15 (Int32.toNatClampNeg (((16 : Int32) + ((4 : Int32) * x1)) + (3 : Int32))) (1 : Int32)).1 15 (Int32.toNatClampNeg (((16 : Int32) + ((4 : Int32) * x1)) + (0 : Int32))))) + (0 : Int32)))) - (σ.1 14 (Int32.toNatClampNeg (((4 : Int32) * ((ax_ui σ 15 (Int32.toNatClampNeg (((16 : Int32) + ((4 : Int32) * x1)) + (3 : Int32))) (1 : Int32)).1 15 (Int32.toNatClampNeg (((16 : Int32) + ((4 : Int32) * x1)) + (1 : Int32))))) + (0 : Int32)))))) else (1 : Int32)) / (2 : Int32))) < (99 : Int32) then (((ax_ui σ 15 (Int32.toNatClampNeg (((16 : Int32) + ((4 : Int32) * x1)) + (3 : Int32))) (1 : Int32)).1 15 85) + ((if (1 : Int32) < (if (0 : Int32) ≤ ((σ.1 14 (Int32.toNatClampNeg (((4 : Int32) * ((ax_ui σ 15 (Int32.toNatClampNeg (((16 : Int32) + ((4 : Int32) * x1)) + (3 : Int32))) (1 : Int32)).1 15 (Int32.toNatClampNeg (((16 : Int32) + ((4 : Int32) * x1)) + (0 : Int32))))) + (0 : Int32)))) - (σ.1 14 (Int32.toNatClampNeg (((4 : Int32) * ((ax_ui σ 15 (Int32.toNatClampNeg (((16 : Int32) + ((4 : Int32) * x1)) + (3 : Int32))) (1 : Int32)).1 15 (Int32.toNatClampNeg (((16 : Int32) + ((4 : Int32) * x1)) + (1 : Int32))))) + (0 : Int32))))) then ((σ.1 14 (Int32.toNatClampNeg (((4 : Int32) * ((ax_ui σ 15 (Int32.toNatClampNeg (((16 : Int32) + ((4 : Int32) * x1)) + (3 : Int32))) (1 : Int32)).1 15 (Int32.toNatClampNeg (((16 : Int32) + ((4 : Int32) * x1)) + (0 : Int32))))) + (0 : Int32)))) - (σ.1 14 (Int32.toNatClampNeg (((4 : Int32) * ((ax_ui σ 15 (Int32.toNatClampNeg (((16 : Int32) + ((4 : Int32) * x1)) + (3 : Int32))) (1 : Int32)).1 15 (Int32.toNatClampNeg (((16 : Int32) + ((4 : Int32) * x1)) + (1 : Int32))))) + (0 : Int32))))) else 0 - ((σ.1 14 (Int32.toNatClampNeg (((4 : Int32) * ((ax_ui σ 15 (Int32.toNatClampNeg (((16 : Int32) + ((4 : Int32) * x1)) + (3 : Int32))) (1 : Int32)).1 15 (Int32.toNatClampNeg (((16 : Int32) + ((4 : Int32) * x1)) + (0 : Int32))))) + (0 : Int32)))) - (σ.1 14 (Int32.toNatClampNeg (((4 : Int32) * ((ax_ui σ 15 (Int32.toNatClampNeg (((16 : Int32) + ((4 : Int32) * x1)) + (3 : Int32))) (1 : Int32)).1 15 (Int32.toNatClampNeg (((16 : Int32) + ((4 : Int32) * x1)) + (1 : Int32))))) + (0 : Int32)))))) then (if (0 : Int32) ≤ ((σ.1 14 (Int32.toNatClampNeg (((4 : Int32) * ((ax_ui σ 15 (Int32.toNatClampNeg (((16 : Int32) + ((4 : Int32) * x1)) + (3 : Int32))) (1 : Int32)).1 15 (Int32.toNatClampNeg (((16 : Int32) + ((4 : Int32) * x1)) + (0 : Int32))))) + (0 : Int32)))) - (σ.1 14 (Int32.toNatClampNeg (((4 : Int32) * ((ax_ui σ 15 (Int32.toNatClampNeg (((16 : Int32) + ((4 : Int32) * x1)) + (3 : Int32))) (1 : Int32)).1 15 (Int32.toNatClampNeg (((16 : Int32) + ((4 : Int32) * x1)) + (1 : Int32))))) + (0 : Int32))))) then ((σ.1 14 (Int32.toNatClampNeg (((4 : Int32) * ((ax_ui σ 15 (Int32.toNatClampNeg (((16 : Int32) + ((4 : Int32) * x1)) + (3 : Int32))) (1 : Int32)).1 15 (Int32.toNatClampNeg (((16 : Int32) + ((4 : Int32) * x1)) + (0 : Int32))))) + (0 : Int32)))) - (σ.1 14 (Int32.toNatClampNeg (((4 : Int32) * ((ax_ui σ 15 (Int32.toNatClampNeg (((16 : Int32) + ((4 : Int32) * x1)) + (3 : Int32))) (1 : Int32)).1 15 (Int32.toNatClampNeg (((16 : Int32) + ((4 : Int32) * x1)) + (1 : Int32))))) + (0 : Int32))))) else 0 - ((σ.1 14 (Int32.toNatClampNeg (((4 : Int32) * ((ax_ui σ 15 (Int32.toNatClampNeg (((16 : Int32) + ((4 : Int32) * x1)) + (3 : Int32))) (1 : Int32)).1 15 (Int32.toNatClampNeg (((16 : Int32) + ((4 : Int32) * x1)) + (0 : Int32))))) + (0 : Int32)))) - (σ.1 14 (Int32.toNatClampNeg (((4 : Int32) * ((ax_ui σ 15 (Int32.toNatClampNeg (((16 : Int32) + ((4 : Int32) * x1)) + (3 : Int32))) (1 : Int32)).1 15 (Int32.toNatClampNeg (((16 : Int32) + ((4 : Int32) * x1)) + (1 : Int32))))) + (0 : Int32)))))) else (1 : Int32)) / (2 : Int32))) else (99 : Int32)))) (ax_ui (ax_ui σ 15 (Int32.toNatClampNeg (((16 : Int32) + ((4 : Int32) * x1)) + (3 : Int32))) (1 : Int32)) 15 85 (if (((ax_ui σ 15 (Int32.toNatClampNeg (((16 : Int32) + ((4 : Int32) * x1)) + (3 : Int32))) (1 : Int32)).1 15 85) + ((if (1 : Int32) < (if (0 : Int32) ≤ ((σ.1 14 (Int32.toNatClampNeg (((4 : Int32) * ((ax_ui σ 15 (Int32.toNatClampNeg (((16 : Int32) + ((4 : Int32) * x1)) + (3 : Int32))) (1 : Int32)).1 15 (Int32.toNatClampNeg (((16 : Int32) + ((4 : Int32) * x1)) + (0 : Int32))))) + (0 : Int32)))) - (σ.1 14 (Int32.toNatClampNeg (((4 : Int32) * ((ax_ui σ 15 (Int32.toNatClampNeg (((16 : Int32) + ((4 : Int32) * x1)) + (3 : Int32))) (1 : Int32)).1 15 (Int32.toNatClampNeg (((16 : Int32) + ((4 : Int32) * x1)) + (1 : Int32))))) + (0 : Int32))))) then ((σ.1 14 (Int32.toNatClampNeg (((4 : Int32) * ((ax_ui σ 15 (Int32.toNatClampNeg (((16 : Int32) + ((4 : Int32) * x1)) + (3 : Int32))) (1 : Int32)).1 15 (Int32.toNatClampNeg (((16 : Int32) + ((4 : Int32) * x1)) + (0 : Int32))))) + (0 : Int32)))) - (σ.1 14 (Int32.toNatClampNeg (((4 : Int32) * ((ax_ui σ 15 (Int32.toNatClampNeg (((16 : Int32) + ((4 : Int32) * x1)) + (3 : Int32))) (1 : Int32)).1 15 (Int32.toNatClampNeg (((16 : Int32) + ((4 : Int32) * x1)) + (1 : Int32))))) + (0 : Int32))))) else 0 - ((σ.1 14 (Int32.toNatClampNeg (((4 : Int32) * ((ax_ui σ 15 (Int32.toNatClampNeg (((16 : Int32) + ((4 : Int32) * x1)) + (3 : Int32))) (1 : Int32)).1 15 (Int32.toNatClampNeg (((16 : Int32) + ((4 : Int32) * x1)) + (0 : Int32))))) + (0 : Int32)))) - (σ.1 14 (Int32.toNatClampNeg (((4 : Int32) * ((ax_ui σ 15 (Int32.toNatClampNeg (((16 : Int32) + ((4 : Int32) * x1)) + (3 : Int32))) (1 : Int32)).1 15 (Int32.toNatClampNeg (((16 : Int32) + ((4 : Int32) * x1)) + (1 : Int32))))) + (0 : Int32)))))) then (if (0 : Int32) ≤ ((σ.1 14 (Int32.toNatClampNeg (((4 : Int32) * ((ax_ui σ 15 (Int32.toNatClampNeg (((16 : Int32) + ((4 : Int32) * x1)) + (3 : Int32))) (1 : Int32)).1 15 (Int32.toNatClampNeg (((16 : Int32) + ((4 : Int32) * x1)) + (0 : Int32))))) + (0 : Int32)))) - (σ.1 14 (Int32.toNatClampNeg (((4 : Int32) * ((ax_ui σ 15 (Int32.toNatClampNeg (((16 : Int32) + ((4 : Int32) * x1)) + (3 : Int32))) (1 : Int32)).1 15 (Int32.toNatClampNeg (((16 : Int32) + ((4 : Int32) * x1)) + (1 : Int32))))) + (0 : Int32))))) then ((σ.1 14 (Int32.toNatClampNeg (((4 : Int32) * ((ax_ui σ 15 (Int32.toNatClampNeg (((16 : Int32) + ((4 : Int32) * x1)) + (3 : Int32))) (1 : Int32)).1 15 (Int32.toNatClampNeg (((16 : Int32) + ((4 : Int32) * x1)) + (0 : Int32))))) + (0 : Int32)))) - (σ.1 14 (Int32.toNatClampNeg (((4 : Int32) * ((ax_ui σ 15 (Int32.toNatClampNeg (((16 : Int32) + ((4 : Int32) * x1)) + (3 : Int32))) (1 : Int32)).1 15 (Int32.toNatClampNeg (((16 : Int32) + ((4 : Int32) * x1)) + (1 : Int32))))) + (0 : Int32))))) else 0 - ((σ.1 14 (Int32.toNatClampNeg (((4 : Int32) * ((ax_ui σ 15 (Int32.toNatClampNeg (((16 : Int32) + ((4 : Int32) * x1)) + (3 : Int32))) (1 : Int32)).1 15 (Int32.toNatClampNeg (((16 : Int32) + ((4 : Int32) * x1)) + (0 : Int32))))) + (0 : Int32)))) - (σ.1 14 (Int32.toNatClampNeg (((4 : Int32) * ((ax_ui σ 15 (Int32.toNatClampNeg (((16 : Int32) + ((4 : Int32) * x1)) + (3 : Int32))) (1 : Int32)).1 15 (Int32.toNatClampNeg (((16 : Int32) + ((4 : Int32) * x1)) + (1 : Int32))))) + (0 : Int32)))))) else (1 : Int32)) / (2 : Int32))) < (99 : Int32) then (((ax_ui σ 15 (Int32.toNatClampNeg (((16 : Int32) + ((4 : Int32) * x1)) + (3 : Int32))) (1 : Int32)).1 15 85) + ((if (1 : Int32) < (if (0 : Int32) ≤ ((σ.1 14 (Int32.toNatClampNeg (((4 : Int32) * ((ax_ui σ 15 (Int32.toNatClampNeg (((16 : Int32) + ((4 : Int32) * x1)) + (3 : Int32))) (1 : Int32)).1 15 (Int32.toNatClampNeg (((16 : Int32) + ((4 : Int32) * x1)) + (0 : Int32))))) + (0 : Int32)))) - (σ.1 14 (Int32.toNatClampNeg (((4 : Int32) * ((ax_ui σ 15 (Int32.toNatClampNeg (((16 : Int32) + ((4 : Int32) * x1)) + (3 : Int32))) (1 : Int32)).1 15 (Int32.toNatClampNeg (((16 : Int32) + ((4 : Int32) * x1)) + (1 : Int32))))) + (0 : Int32))))) then ((σ.1 14 (Int32.toNatClampNeg (((4 : Int32) * ((ax_ui σ 15 (Int32.toNatClampNeg (((16 : Int32) + ((4 : Int32) * x1)) + (3 : Int32))) (1 : Int32)).1 15 (Int32.toNatClampNeg (((16 : Int32) + ((4 : Int32) * x1)) + (0 : Int32))))) + (0 : Int32)))) - (σ.1 14 (Int32.toNatClampNeg (((4 : Int32) * ((ax_ui σ 15 (Int32.toNatClampNeg (((16 : Int32) + ((4 : Int32) * x1)) + (3 : Int32))) (1 : Int32)).1 15 (Int32.toNatClampNeg (((16 : Int32) + ((4 : Int32) * x1)) + (1 : Int32))))) + (0 : Int32))))) else 0 - ((σ.1 14 (Int32.toNatClampNeg (((4 : Int32) * ((ax_ui σ 15 (Int32.toNatClampNeg (((16 : Int32) + ((4 : Int32) * x1)) + (3 : Int32))) (1 : Int32)).1 15 (Int32.toNatClampNeg (((16 : Int32) + ((4 : Int32) * x1)) + (0 : Int32))))) + (0 : Int32)))) - (σ.1 14 (Int32.toNatClampNeg (((4 : Int32) * ((ax_ui σ 15 (Int32.toNatClampNeg (((16 : Int32) + ((4 : Int32) * x1)) + (3 : Int32))) (1 : Int32)).1 15 (Int32.toNatClampNeg (((16 : Int32) + ((4 : Int32) * x1)) + (1 : Int32))))) + (0 : Int32)))))) then (if (0 : Int32) ≤ ((σ.1 14 (Int32.toNatClampNeg (((4 : Int32) * ((ax_ui σ 15 (Int32.toNatClampNeg (((16 : Int32) + ((4 : Int32) * x1)) + (3 : Int32))) (1 : Int32)).1 15 (Int32.toNatClampNeg (((16 : Int32) + ((4 : Int32) * x1)) + (0 : Int32))))) + (0 : Int32)))) - (σ.1 14 (Int32.toNatClampNeg (((4 : Int32) * ((ax_ui σ 15 (Int32.toNatClampNeg (((16 : Int32) + ((4 : Int32) * x1)) + (3 : Int32))) (1 : Int32)).1 15 (Int32.toNatClampNeg (((16 : Int32) + ((4 : Int32) * x1)) + (1 : Int32))))) + (0 : Int32))))) then ((σ.1 14 (Int32.toNatClampNeg (((4 : Int32) * ((ax_ui σ 15 (Int32.toNatClampNeg (((16 : Int32) + ((4 : Int32) * x1)) + (3 : Int32))) (1 : Int32)).1 15 (Int32.toNatClampNeg (((16 : Int32) + ((4 : Int32) * x1)) + (0 : Int32))))) + (0 : Int32)))) - (σ.1 14 (Int32.toNatClampNeg (((4 : Int32) * ((ax_ui σ 15 (Int32.toNatClampNeg (((16 : Int32) + ((4 : Int32) * x1)) + (3 : Int32))) (1 : Int32)).1 15 (Int32.toNatClampNeg (((16 : Int32) + ((4 : Int32) * x1)) + (1 : Int32))))) + (0 : Int32))))) else 0 - ((σ.1 14 (Int32.toNatClampNeg (((4 : Int32) * ((ax_ui σ 15 (Int32.toNatClampNeg (((16 : Int32) + ((4 : Int32) * x1)) + (3 : Int32))) (1 : Int32)).1 15 (Int32.toNatClampNeg (((16 : Int32) + ((4 : Int32) * x1)) + (0 : Int32))))) + (0 : Int32)))) - (σ.1 14 (Int32.toNatClampNeg (((4 : Int32) * ((ax_ui σ 15 (Int32.toNatClampNeg (((16 : Int32) + ((4 : Int32) * x1)) + (3 : Int32))) (1 : Int32)).1 15 (Int32.toNatClampNeg (((16 : Int32) + ((4 : Int32) * x1)) + (1 : Int32))))) + (0 : Int32)))))) else (1 : Int32)) / (2 : Int32))) else (99 : Int32)))) : ax_W shM (d + 1) mX12_cut Q 40 [some (ax_r 0), some (ax_i x1)] [] σ := by
  refine ax_aload_n (q := 41) (i := 0) dX12_cut_40 rfl rfl rfl ?_
  refine ax_iload_n (q := 42) (i := 1) dX12_cut_41 rfl rfl rfl ?_
  refine ax_iconst (q := 43) dX12_cut_42 rfl ki_3 ?_
  refine ax_iconst (q := 44) dX12_cut_43 rfl ki_1 ?_
  refine ax_callVfv (q := 47) (As := [ax_i x1, ax_i (3 : Int32), ax_i (1 : Int32)]) (st := []) (σ2 := (ax_ui σ 15 (Int32.toNatClampNeg (((16 : Int32) + ((4 : Int32) * x1)) + (3 : Int32))) (1 : Int32))) dX12_cut_44 rfl lk_X12_302 shM_0 rfl rfl rfl rfl (Nat.le_of_ble_eq_true rfl) (f_X12_putWire σ x1 (3 : Int32) (1 : Int32) h1 (d := d) (by omega)) ?_
  refine ax_aload_n (q := 48) (i := 0) dX12_cut_47 rfl rfl rfl ?_
  refine ax_get (q := 51) (k := 0) (j := 25) (v := ax_r 15) dX12_cut_48 rfl shM_0 rfl rfl rfl (by decide) fl_X12_52 ?_
  refine ax_bipush (q := 53) dX12_cut_51 rfl kb_85 ?_
  refine ax_bipush (q := 55) dX12_cut_53 rfl kb_99 ?_
  refine ax_aload_n (q := 56) (i := 0) dX12_cut_55 rfl rfl rfl ?_
  refine ax_get (q := 59) (k := 0) (j := 25) (v := ax_r 15) dX12_cut_56 rfl shM_0 rfl rfl rfl (by decide) fl_X12_52 ?_
  refine ax_bipush (q := 61) dX12_cut_59 rfl kb_85 ?_
  refine ax_iald (q := 62) (a := 85) (v := ((ax_ui σ 15 (Int32.toNatClampNeg (((16 : Int32) + ((4 : Int32) * x1)) + (3 : Int32))) (1 : Int32)).1 15 85)) dX12_cut_61 rfl shM_15 (ax_inl 85 268 (by decide) (by decide)) rfl rfl ?_
  refine ax_aload_n (q := 63) (i := 0) dX12_cut_62 rfl rfl rfl ?_
  refine ax_aload_n (q := 64) (i := 0) dX12_cut_63 rfl rfl rfl ?_
  refine ax_iload_n (q := 65) (i := 1) dX12_cut_64 rfl rfl rfl ?_
  refine ax_iconst (q := 66) dX12_cut_65 rfl ki_0 ?_
  refine ax_callVfi (q := 69) (As := [ax_i x1, ax_i (0 : Int32)]) (st := [ax_r 0, ax_i ((ax_ui σ 15 (Int32.toNatClampNeg (((16 : Int32) + ((4 : Int32) * x1)) + (3 : Int32))) (1 : Int32)).1 15 85), ax_i (99 : Int32), ax_i (85 : Int32), ax_r 15]) (x := ((ax_ui σ 15 (Int32.toNatClampNeg (((16 : Int32) + ((4 : Int32) * x1)) + (3 : Int32))) (1 : Int32)).1 15 (Int32.toNatClampNeg (((16 : Int32) + ((4 : Int32) * x1)) + (0 : Int32))))) (σ2 := (ax_ui σ 15 (Int32.toNatClampNeg (((16 : Int32) + ((4 : Int32) * x1)) + (3 : Int32))) (1 : Int32))) dX12_cut_66 rfl lk_X12_306 shM_0 rfl rfl rfl rfl (Nat.le_of_ble_eq_true rfl) (f_X12_ofWire (ax_ui σ 15 (Int32.toNatClampNeg (((16 : Int32) + ((4 : Int32) * x1)) + (3 : Int32))) (1 : Int32)) x1 (0 : Int32) h2 (d := d) (by omega)) ?_
  refine ax_aload_n (q := 70) (i := 0) dX12_cut_69 rfl rfl rfl ?_
  refine ax_iload_n (q := 71) (i := 1) dX12_cut_70 rfl rfl rfl ?_
  refine ax_iconst (q := 72) dX12_cut_71 rfl ki_1 ?_
  refine ax_callVfi (q := 75) (As := [ax_i x1, ax_i (1 : Int32)]) (st := [ax_i ((ax_ui σ 15 (Int32.toNatClampNeg (((16 : Int32) + ((4 : Int32) * x1)) + (3 : Int32))) (1 : Int32)).1 15 (Int32.toNatClampNeg (((16 : Int32) + ((4 : Int32) * x1)) + (0 : Int32)))), ax_r 0, ax_i ((ax_ui σ 15 (Int32.toNatClampNeg (((16 : Int32) + ((4 : Int32) * x1)) + (3 : Int32))) (1 : Int32)).1 15 85), ax_i (99 : Int32), ax_i (85 : Int32), ax_r 15]) (x := ((ax_ui σ 15 (Int32.toNatClampNeg (((16 : Int32) + ((4 : Int32) * x1)) + (3 : Int32))) (1 : Int32)).1 15 (Int32.toNatClampNeg (((16 : Int32) + ((4 : Int32) * x1)) + (1 : Int32))))) (σ2 := (ax_ui σ 15 (Int32.toNatClampNeg (((16 : Int32) + ((4 : Int32) * x1)) + (3 : Int32))) (1 : Int32))) dX12_cut_72 rfl lk_X12_306 shM_0 rfl rfl rfl rfl (Nat.le_of_ble_eq_true rfl) (f_X12_ofWire (ax_ui σ 15 (Int32.toNatClampNeg (((16 : Int32) + ((4 : Int32) * x1)) + (3 : Int32))) (1 : Int32)) x1 (1 : Int32) h3 (d := d) (by omega)) ?_
  refine ax_callVfi (q := 78) (As := [ax_i ((ax_ui σ 15 (Int32.toNatClampNeg (((16 : Int32) + ((4 : Int32) * x1)) + (3 : Int32))) (1 : Int32)).1 15 (Int32.toNatClampNeg (((16 : Int32) + ((4 : Int32) * x1)) + (0 : Int32)))), ax_i ((ax_ui σ 15 (Int32.toNatClampNeg (((16 : Int32) + ((4 : Int32) * x1)) + (3 : Int32))) (1 : Int32)).1 15 (Int32.toNatClampNeg (((16 : Int32) + ((4 : Int32) * x1)) + (1 : Int32))))]) (st := [ax_i ((ax_ui σ 15 (Int32.toNatClampNeg (((16 : Int32) + ((4 : Int32) * x1)) + (3 : Int32))) (1 : Int32)).1 15 85), ax_i (99 : Int32), ax_i (85 : Int32), ax_r 15]) (x := (if (1 : Int32) < (if (0 : Int32) ≤ ((σ.1 14 (Int32.toNatClampNeg (((4 : Int32) * ((ax_ui σ 15 (Int32.toNatClampNeg (((16 : Int32) + ((4 : Int32) * x1)) + (3 : Int32))) (1 : Int32)).1 15 (Int32.toNatClampNeg (((16 : Int32) + ((4 : Int32) * x1)) + (0 : Int32))))) + (0 : Int32)))) - (σ.1 14 (Int32.toNatClampNeg (((4 : Int32) * ((ax_ui σ 15 (Int32.toNatClampNeg (((16 : Int32) + ((4 : Int32) * x1)) + (3 : Int32))) (1 : Int32)).1 15 (Int32.toNatClampNeg (((16 : Int32) + ((4 : Int32) * x1)) + (1 : Int32))))) + (0 : Int32))))) then ((σ.1 14 (Int32.toNatClampNeg (((4 : Int32) * ((ax_ui σ 15 (Int32.toNatClampNeg (((16 : Int32) + ((4 : Int32) * x1)) + (3 : Int32))) (1 : Int32)).1 15 (Int32.toNatClampNeg (((16 : Int32) + ((4 : Int32) * x1)) + (0 : Int32))))) + (0 : Int32)))) - (σ.1 14 (Int32.toNatClampNeg (((4 : Int32) * ((ax_ui σ 15 (Int32.toNatClampNeg (((16 : Int32) + ((4 : Int32) * x1)) + (3 : Int32))) (1 : Int32)).1 15 (Int32.toNatClampNeg (((16 : Int32) + ((4 : Int32) * x1)) + (1 : Int32))))) + (0 : Int32))))) else 0 - ((σ.1 14 (Int32.toNatClampNeg (((4 : Int32) * ((ax_ui σ 15 (Int32.toNatClampNeg (((16 : Int32) + ((4 : Int32) * x1)) + (3 : Int32))) (1 : Int32)).1 15 (Int32.toNatClampNeg (((16 : Int32) + ((4 : Int32) * x1)) + (0 : Int32))))) + (0 : Int32)))) - (σ.1 14 (Int32.toNatClampNeg (((4 : Int32) * ((ax_ui σ 15 (Int32.toNatClampNeg (((16 : Int32) + ((4 : Int32) * x1)) + (3 : Int32))) (1 : Int32)).1 15 (Int32.toNatClampNeg (((16 : Int32) + ((4 : Int32) * x1)) + (1 : Int32))))) + (0 : Int32)))))) then (if (0 : Int32) ≤ ((σ.1 14 (Int32.toNatClampNeg (((4 : Int32) * ((ax_ui σ 15 (Int32.toNatClampNeg (((16 : Int32) + ((4 : Int32) * x1)) + (3 : Int32))) (1 : Int32)).1 15 (Int32.toNatClampNeg (((16 : Int32) + ((4 : Int32) * x1)) + (0 : Int32))))) + (0 : Int32)))) - (σ.1 14 (Int32.toNatClampNeg (((4 : Int32) * ((ax_ui σ 15 (Int32.toNatClampNeg (((16 : Int32) + ((4 : Int32) * x1)) + (3 : Int32))) (1 : Int32)).1 15 (Int32.toNatClampNeg (((16 : Int32) + ((4 : Int32) * x1)) + (1 : Int32))))) + (0 : Int32))))) then ((σ.1 14 (Int32.toNatClampNeg (((4 : Int32) * ((ax_ui σ 15 (Int32.toNatClampNeg (((16 : Int32) + ((4 : Int32) * x1)) + (3 : Int32))) (1 : Int32)).1 15 (Int32.toNatClampNeg (((16 : Int32) + ((4 : Int32) * x1)) + (0 : Int32))))) + (0 : Int32)))) - (σ.1 14 (Int32.toNatClampNeg (((4 : Int32) * ((ax_ui σ 15 (Int32.toNatClampNeg (((16 : Int32) + ((4 : Int32) * x1)) + (3 : Int32))) (1 : Int32)).1 15 (Int32.toNatClampNeg (((16 : Int32) + ((4 : Int32) * x1)) + (1 : Int32))))) + (0 : Int32))))) else 0 - ((σ.1 14 (Int32.toNatClampNeg (((4 : Int32) * ((ax_ui σ 15 (Int32.toNatClampNeg (((16 : Int32) + ((4 : Int32) * x1)) + (3 : Int32))) (1 : Int32)).1 15 (Int32.toNatClampNeg (((16 : Int32) + ((4 : Int32) * x1)) + (0 : Int32))))) + (0 : Int32)))) - (σ.1 14 (Int32.toNatClampNeg (((4 : Int32) * ((ax_ui σ 15 (Int32.toNatClampNeg (((16 : Int32) + ((4 : Int32) * x1)) + (3 : Int32))) (1 : Int32)).1 15 (Int32.toNatClampNeg (((16 : Int32) + ((4 : Int32) * x1)) + (1 : Int32))))) + (0 : Int32)))))) else (1 : Int32))) (σ2 := (ax_ui σ 15 (Int32.toNatClampNeg (((16 : Int32) + ((4 : Int32) * x1)) + (3 : Int32))) (1 : Int32))) dX12_cut_75 rfl lk_X12_372 shM_0 rfl rfl rfl rfl (Nat.le_of_ble_eq_true rfl) (f_X12_priceOf (ax_ui σ 15 (Int32.toNatClampNeg (((16 : Int32) + ((4 : Int32) * x1)) + (3 : Int32))) (1 : Int32)) ((ax_ui σ 15 (Int32.toNatClampNeg (((16 : Int32) + ((4 : Int32) * x1)) + (3 : Int32))) (1 : Int32)).1 15 (Int32.toNatClampNeg (((16 : Int32) + ((4 : Int32) * x1)) + (0 : Int32)))) ((ax_ui σ 15 (Int32.toNatClampNeg (((16 : Int32) + ((4 : Int32) * x1)) + (3 : Int32))) (1 : Int32)).1 15 (Int32.toNatClampNeg (((16 : Int32) + ((4 : Int32) * x1)) + (1 : Int32)))) h4 h5 (d := d) (by omega)) ?_
  refine ax_iconst (q := 79) dX12_cut_78 rfl ki_2 ?_
  refine ax_idiv (q := 80) dX12_cut_79 rfl (by decide) ?_
  refine ax_iadd (q := 81) dX12_cut_80 rfl ?_
  refine ax_mmin (q := 84) dX12_cut_81 rfl mk_X12_253 (Nat.le_of_ble_eq_true rfl) ?_
  refine ax_iast (q := 85) (a := 85) dX12_cut_84 rfl shM_15 (ax_inl 85 268 (by decide) (by decide)) rfl ?_
  refine ax_aload_n (q := 86) (i := 0) dX12_cut_85 rfl rfl rfl ?_
  refine ax_get (q := 89) (k := 0) (j := 25) (v := ax_r 15) dX12_cut_86 rfl shM_0 rfl rfl rfl (by decide) fl_X12_52 ?_
  refine ax_bipush (q := 91) dX12_cut_89 rfl kb_85 ?_
  refine ax_iald (q := 92) (a := 85) (v := (if (((ax_ui σ 15 (Int32.toNatClampNeg (((16 : Int32) + ((4 : Int32) * x1)) + (3 : Int32))) (1 : Int32)).1 15 85) + ((if (1 : Int32) < (if (0 : Int32) ≤ ((σ.1 14 (Int32.toNatClampNeg (((4 : Int32) * ((ax_ui σ 15 (Int32.toNatClampNeg (((16 : Int32) + ((4 : Int32) * x1)) + (3 : Int32))) (1 : Int32)).1 15 (Int32.toNatClampNeg (((16 : Int32) + ((4 : Int32) * x1)) + (0 : Int32))))) + (0 : Int32)))) - (σ.1 14 (Int32.toNatClampNeg (((4 : Int32) * ((ax_ui σ 15 (Int32.toNatClampNeg (((16 : Int32) + ((4 : Int32) * x1)) + (3 : Int32))) (1 : Int32)).1 15 (Int32.toNatClampNeg (((16 : Int32) + ((4 : Int32) * x1)) + (1 : Int32))))) + (0 : Int32))))) then ((σ.1 14 (Int32.toNatClampNeg (((4 : Int32) * ((ax_ui σ 15 (Int32.toNatClampNeg (((16 : Int32) + ((4 : Int32) * x1)) + (3 : Int32))) (1 : Int32)).1 15 (Int32.toNatClampNeg (((16 : Int32) + ((4 : Int32) * x1)) + (0 : Int32))))) + (0 : Int32)))) - (σ.1 14 (Int32.toNatClampNeg (((4 : Int32) * ((ax_ui σ 15 (Int32.toNatClampNeg (((16 : Int32) + ((4 : Int32) * x1)) + (3 : Int32))) (1 : Int32)).1 15 (Int32.toNatClampNeg (((16 : Int32) + ((4 : Int32) * x1)) + (1 : Int32))))) + (0 : Int32))))) else 0 - ((σ.1 14 (Int32.toNatClampNeg (((4 : Int32) * ((ax_ui σ 15 (Int32.toNatClampNeg (((16 : Int32) + ((4 : Int32) * x1)) + (3 : Int32))) (1 : Int32)).1 15 (Int32.toNatClampNeg (((16 : Int32) + ((4 : Int32) * x1)) + (0 : Int32))))) + (0 : Int32)))) - (σ.1 14 (Int32.toNatClampNeg (((4 : Int32) * ((ax_ui σ 15 (Int32.toNatClampNeg (((16 : Int32) + ((4 : Int32) * x1)) + (3 : Int32))) (1 : Int32)).1 15 (Int32.toNatClampNeg (((16 : Int32) + ((4 : Int32) * x1)) + (1 : Int32))))) + (0 : Int32)))))) then (if (0 : Int32) ≤ ((σ.1 14 (Int32.toNatClampNeg (((4 : Int32) * ((ax_ui σ 15 (Int32.toNatClampNeg (((16 : Int32) + ((4 : Int32) * x1)) + (3 : Int32))) (1 : Int32)).1 15 (Int32.toNatClampNeg (((16 : Int32) + ((4 : Int32) * x1)) + (0 : Int32))))) + (0 : Int32)))) - (σ.1 14 (Int32.toNatClampNeg (((4 : Int32) * ((ax_ui σ 15 (Int32.toNatClampNeg (((16 : Int32) + ((4 : Int32) * x1)) + (3 : Int32))) (1 : Int32)).1 15 (Int32.toNatClampNeg (((16 : Int32) + ((4 : Int32) * x1)) + (1 : Int32))))) + (0 : Int32))))) then ((σ.1 14 (Int32.toNatClampNeg (((4 : Int32) * ((ax_ui σ 15 (Int32.toNatClampNeg (((16 : Int32) + ((4 : Int32) * x1)) + (3 : Int32))) (1 : Int32)).1 15 (Int32.toNatClampNeg (((16 : Int32) + ((4 : Int32) * x1)) + (0 : Int32))))) + (0 : Int32)))) - (σ.1 14 (Int32.toNatClampNeg (((4 : Int32) * ((ax_ui σ 15 (Int32.toNatClampNeg (((16 : Int32) + ((4 : Int32) * x1)) + (3 : Int32))) (1 : Int32)).1 15 (Int32.toNatClampNeg (((16 : Int32) + ((4 : Int32) * x1)) + (1 : Int32))))) + (0 : Int32))))) else 0 - ((σ.1 14 (Int32.toNatClampNeg (((4 : Int32) * ((ax_ui σ 15 (Int32.toNatClampNeg (((16 : Int32) + ((4 : Int32) * x1)) + (3 : Int32))) (1 : Int32)).1 15 (Int32.toNatClampNeg (((16 : Int32) + ((4 : Int32) * x1)) + (0 : Int32))))) + (0 : Int32)))) - (σ.1 14 (Int32.toNatClampNeg (((4 : Int32) * ((ax_ui σ 15 (Int32.toNatClampNeg (((16 : Int32) + ((4 : Int32) * x1)) + (3 : Int32))) (1 : Int32)).1 15 (Int32.toNatClampNeg (((16 : Int32) + ((4 : Int32) * x1)) + (1 : Int32))))) + (0 : Int32)))))) else (1 : Int32)) / (2 : Int32))) < (99 : Int32) then (((ax_ui σ 15 (Int32.toNatClampNeg (((16 : Int32) + ((4 : Int32) * x1)) + (3 : Int32))) (1 : Int32)).1 15 85) + ((if (1 : Int32) < (if (0 : Int32) ≤ ((σ.1 14 (Int32.toNatClampNeg (((4 : Int32) * ((ax_ui σ 15 (Int32.toNatClampNeg (((16 : Int32) + ((4 : Int32) * x1)) + (3 : Int32))) (1 : Int32)).1 15 (Int32.toNatClampNeg (((16 : Int32) + ((4 : Int32) * x1)) + (0 : Int32))))) + (0 : Int32)))) - (σ.1 14 (Int32.toNatClampNeg (((4 : Int32) * ((ax_ui σ 15 (Int32.toNatClampNeg (((16 : Int32) + ((4 : Int32) * x1)) + (3 : Int32))) (1 : Int32)).1 15 (Int32.toNatClampNeg (((16 : Int32) + ((4 : Int32) * x1)) + (1 : Int32))))) + (0 : Int32))))) then ((σ.1 14 (Int32.toNatClampNeg (((4 : Int32) * ((ax_ui σ 15 (Int32.toNatClampNeg (((16 : Int32) + ((4 : Int32) * x1)) + (3 : Int32))) (1 : Int32)).1 15 (Int32.toNatClampNeg (((16 : Int32) + ((4 : Int32) * x1)) + (0 : Int32))))) + (0 : Int32)))) - (σ.1 14 (Int32.toNatClampNeg (((4 : Int32) * ((ax_ui σ 15 (Int32.toNatClampNeg (((16 : Int32) + ((4 : Int32) * x1)) + (3 : Int32))) (1 : Int32)).1 15 (Int32.toNatClampNeg (((16 : Int32) + ((4 : Int32) * x1)) + (1 : Int32))))) + (0 : Int32))))) else 0 - ((σ.1 14 (Int32.toNatClampNeg (((4 : Int32) * ((ax_ui σ 15 (Int32.toNatClampNeg (((16 : Int32) + ((4 : Int32) * x1)) + (3 : Int32))) (1 : Int32)).1 15 (Int32.toNatClampNeg (((16 : Int32) + ((4 : Int32) * x1)) + (0 : Int32))))) + (0 : Int32)))) - (σ.1 14 (Int32.toNatClampNeg (((4 : Int32) * ((ax_ui σ 15 (Int32.toNatClampNeg (((16 : Int32) + ((4 : Int32) * x1)) + (3 : Int32))) (1 : Int32)).1 15 (Int32.toNatClampNeg (((16 : Int32) + ((4 : Int32) * x1)) + (1 : Int32))))) + (0 : Int32)))))) then (if (0 : Int32) ≤ ((σ.1 14 (Int32.toNatClampNeg (((4 : Int32) * ((ax_ui σ 15 (Int32.toNatClampNeg (((16 : Int32) + ((4 : Int32) * x1)) + (3 : Int32))) (1 : Int32)).1 15 (Int32.toNatClampNeg (((16 : Int32) + ((4 : Int32) * x1)) + (0 : Int32))))) + (0 : Int32)))) - (σ.1 14 (Int32.toNatClampNeg (((4 : Int32) * ((ax_ui σ 15 (Int32.toNatClampNeg (((16 : Int32) + ((4 : Int32) * x1)) + (3 : Int32))) (1 : Int32)).1 15 (Int32.toNatClampNeg (((16 : Int32) + ((4 : Int32) * x1)) + (1 : Int32))))) + (0 : Int32))))) then ((σ.1 14 (Int32.toNatClampNeg (((4 : Int32) * ((ax_ui σ 15 (Int32.toNatClampNeg (((16 : Int32) + ((4 : Int32) * x1)) + (3 : Int32))) (1 : Int32)).1 15 (Int32.toNatClampNeg (((16 : Int32) + ((4 : Int32) * x1)) + (0 : Int32))))) + (0 : Int32)))) - (σ.1 14 (Int32.toNatClampNeg (((4 : Int32) * ((ax_ui σ 15 (Int32.toNatClampNeg (((16 : Int32) + ((4 : Int32) * x1)) + (3 : Int32))) (1 : Int32)).1 15 (Int32.toNatClampNeg (((16 : Int32) + ((4 : Int32) * x1)) + (1 : Int32))))) + (0 : Int32))))) else 0 - ((σ.1 14 (Int32.toNatClampNeg (((4 : Int32) * ((ax_ui σ 15 (Int32.toNatClampNeg (((16 : Int32) + ((4 : Int32) * x1)) + (3 : Int32))) (1 : Int32)).1 15 (Int32.toNatClampNeg (((16 : Int32) + ((4 : Int32) * x1)) + (0 : Int32))))) + (0 : Int32)))) - (σ.1 14 (Int32.toNatClampNeg (((4 : Int32) * ((ax_ui σ 15 (Int32.toNatClampNeg (((16 : Int32) + ((4 : Int32) * x1)) + (3 : Int32))) (1 : Int32)).1 15 (Int32.toNatClampNeg (((16 : Int32) + ((4 : Int32) * x1)) + (1 : Int32))))) + (0 : Int32)))))) else (1 : Int32)) / (2 : Int32))) else (99 : Int32))) dX12_cut_91 rfl shM_15 (ax_inl 85 268 (by decide) (by decide)) rfl rfl ?_
  exact ax_iret dX12_cut_92 rfl rfl k6
set_option maxRecDepth 20000 in
theorem s_X12_scrape_0 {d : Nat} (hd : 2 ≤ d) {Q : Option ax_V → ax_S → Prop} (σ : ax_S) (a0 : Int32) (h1 : ((¬ (a0 < (0 : Int32))) ∧ (¬ (((σ.1 15 84) - (1 : Int32)) < a0))) → vp_in (((16 : Int32) + ((4 : Int32) * a0)) + (3 : Int32)) 268) (h2 : ((¬ (a0 < (0 : Int32))) ∧ (¬ (((σ.1 15 84) - (1 : Int32)) < a0))) → (¬ ((σ.1 15 (Int32.toNatClampNeg (((16 : Int32) + ((4 : Int32) * a0)) + (3 : Int32)))) = (1 : Int32))) → vp_in (((16 : Int32) + ((4 : Int32) * a0)) + (2 : Int32)) 268) (k3 : ax_Ct shM d mX12_isRefused [ax_r 0, ax_i (if ((¬ (a0 < (0 : Int32))) ∧ (¬ (((σ.1 15 84) - (1 : Int32)) < a0))) then (if ((σ.1 15 (Int32.toNatClampNeg (((16 : Int32) + ((4 : Int32) * a0)) + (3 : Int32)))) = (1 : Int32)) then (3 : Int32) else (if (¬ (σ.1 15 (Int32.toNatClampNeg (((16 : Int32) + ((4 : Int32) * a0)) + (2 : Int32)))) = 0) then (if (¬ (σ.1 15 85) = 0) then (-1 : Int32) else (4 : Int32)) else (3 : Int32))) else (0 : Int32))] (fun r u => ∃ x : Int32, r = some (ax_i x) ∧ ax_W shM (d + 1) mX12_scrape Q 54 [some (ax_r 0), some (ax_i a0)] (ax_i x :: []) u) σ) : ax_W shM (d + 1) mX12_scrape Q 0 [some (ax_r 0), some (ax_i a0)] [] σ := by
  refine ax_aload_n (q := 1) (i := 0) dX12_scrape_0 rfl rfl rfl ?_
  refine ax_aload_n (q := 2) (i := 0) dX12_scrape_1 rfl rfl rfl ?_
  refine ax_iload_n (q := 3) (i := 1) dX12_scrape_2 rfl rfl rfl ?_
  refine ax_callVfi (q := 6) (As := [ax_i a0]) (st := [ax_r 0]) (x := (if ((¬ (a0 < (0 : Int32))) ∧ (¬ (((σ.1 15 84) - (1 : Int32)) < a0))) then (1 : Int32) else 0)) (σ2 := σ) dX12_scrape_3 rfl lk_X12_345 shM_0 rfl rfl rfl rfl (Nat.le_of_ble_eq_true rfl) (f_X12_isWire σ a0 (ax_inl 84 268 (by decide) (by decide)) (d := d) (by omega)) ?_
  have K5 : ax_W shM (d + 1) mX12_scrape Q 51 [some (ax_r 0), some (ax_i a0)] [ax_i (if ((¬ (a0 < (0 : Int32))) ∧ (¬ (((σ.1 15 84) - (1 : Int32)) < a0))) then (if ((σ.1 15 (Int32.toNatClampNeg (((16 : Int32) + ((4 : Int32) * a0)) + (3 : Int32)))) = (1 : Int32)) then (3 : Int32) else (if (¬ (σ.1 15 (Int32.toNatClampNeg (((16 : Int32) + ((4 : Int32) * a0)) + (2 : Int32)))) = 0) then (if (¬ (σ.1 15 85) = 0) then (-1 : Int32) else (4 : Int32)) else (3 : Int32))) else (0 : Int32)), ax_r 0] σ := by
    exact ax_callVci (q := 54) (As := [ax_i (if ((¬ (a0 < (0 : Int32))) ∧ (¬ (((σ.1 15 84) - (1 : Int32)) < a0))) then (if ((σ.1 15 (Int32.toNatClampNeg (((16 : Int32) + ((4 : Int32) * a0)) + (3 : Int32)))) = (1 : Int32)) then (3 : Int32) else (if (¬ (σ.1 15 (Int32.toNatClampNeg (((16 : Int32) + ((4 : Int32) * a0)) + (2 : Int32)))) = 0) then (if (¬ (σ.1 15 85) = 0) then (-1 : Int32) else (4 : Int32)) else (3 : Int32))) else (0 : Int32))]) (st := []) dX12_scrape_51 rfl lk_X12_354 shM_0 rfl rfl rfl rfl (Nat.le_of_ble_eq_true rfl) k3
  refine ax_if_neB (tgt := 13) (q := 9) dX12_scrape_6 (by decide) rfl (fun c1 => ?_) (fun c1 => ?_)
  · refine ax_aload_n (q := 14) (i := 0) dX12_scrape_13 rfl rfl rfl ?_
    refine ax_iload_n (q := 15) (i := 1) dX12_scrape_14 rfl rfl rfl ?_
    refine ax_iconst (q := 16) dX12_scrape_15 rfl ki_3 ?_
    refine ax_callVfi (q := 19) (As := [ax_i a0, ax_i (3 : Int32)]) (st := [ax_r 0]) (x := (σ.1 15 (Int32.toNatClampNeg (((16 : Int32) + ((4 : Int32) * a0)) + (3 : Int32))))) (σ2 := σ) dX12_scrape_16 rfl lk_X12_306 shM_0 rfl rfl rfl rfl (Nat.le_of_ble_eq_true rfl) (f_X12_ofWire σ a0 (3 : Int32) (h1 c1) (d := d) (by omega)) ?_
    refine ax_iconst (q := 20) dX12_scrape_19 rfl ki_1 ?_
    refine ax_icmp_eq (tgt := 32) (q := 23) dX12_scrape_20 (by decide) rfl (fun c2 => ?_) (fun c2 => ?_)
    · refine ax_iconst (q := 33) dX12_scrape_32 rfl ki_3 ?_
      refine ax_goto (tgt := 51) dX12_scrape_33 (by decide) ?_
      exact ax_cv ((if_pos c1).trans (if_pos c2)) K5
    · refine ax_aload_n (q := 24) (i := 0) dX12_scrape_23 rfl rfl rfl ?_
      refine ax_iload_n (q := 25) (i := 1) dX12_scrape_24 rfl rfl rfl ?_
      refine ax_iconst (q := 26) dX12_scrape_25 rfl ki_2 ?_
      refine ax_callVfi (q := 29) (As := [ax_i a0, ax_i (2 : Int32)]) (st := [ax_r 0]) (x := (σ.1 15 (Int32.toNatClampNeg (((16 : Int32) + ((4 : Int32) * a0)) + (2 : Int32))))) (σ2 := σ) dX12_scrape_26 rfl lk_X12_306 shM_0 rfl rfl rfl rfl (Nat.le_of_ble_eq_true rfl) (f_X12_ofWire σ a0 (2 : Int32) (h2 c1 c2) (d := d) (by omega)) ?_
      refine ax_if_ne (tgt := 36) (q := 32) dX12_scrape_29 (by decide) rfl (fun c3 => ?_) (fun c3 => ?_)
      · refine ax_aload_n (q := 37) (i := 0) dX12_scrape_36 rfl rfl rfl ?_
        refine ax_get (q := 40) (k := 0) (j := 25) (v := ax_r 15) dX12_scrape_37 rfl shM_0 rfl rfl rfl (by decide) fl_X12_52 ?_
        refine ax_bipush (q := 42) dX12_scrape_40 rfl kb_85 ?_
        refine ax_iald (q := 43) (a := 85) (v := (σ.1 15 85)) dX12_scrape_42 rfl shM_15 (ax_inl 85 268 (by decide) (by decide)) rfl rfl ?_
        refine ax_if_ne (tgt := 50) (q := 46) dX12_scrape_43 (by decide) rfl (fun c4 => ?_) (fun c4 => ?_)
        · refine ax_iconst (q := 51) dX12_scrape_50 rfl ki_m1 ?_
          exact ax_cv ((if_pos c1).trans ((if_neg c2).trans ((if_pos c3).trans (if_pos c4)))) K5
        · refine ax_iconst (q := 47) dX12_scrape_46 rfl ki_4 ?_
          refine ax_goto (tgt := 51) dX12_scrape_47 (by decide) ?_
          exact ax_cv ((if_pos c1).trans ((if_neg c2).trans ((if_pos c3).trans (if_neg c4)))) K5
      · refine ax_iconst (q := 33) dX12_scrape_32 rfl ki_3 ?_
        refine ax_goto (tgt := 51) dX12_scrape_33 (by decide) ?_
        exact ax_cv ((if_pos c1).trans ((if_neg c2).trans (if_neg c3))) K5
  · refine ax_iconst (q := 10) dX12_scrape_9 rfl ki_0 ?_
    refine ax_goto (tgt := 51) dX12_scrape_10 (by decide) ?_
    exact ax_cv (if_neg c1) K5
set_option maxRecDepth 20000 in
theorem s_X12_scrape_54 {d : Nat} (hd : 0 ≤ d) {Q : Option ax_V → ax_S → Prop} (σ : ax_S) (x1 : Int32) (rr : Int32) (k1 : (rr = 0) → ax_Ct shM d mX12_keep [ax_r 0] (fun r u => r = none ∧ ax_W shM (d + 1) mX12_scrape Q 63 [some (ax_r 0), some (ax_i x1)] [] u) σ) (k2 : (¬ (rr = 0)) → Q (some (ax_i (-1 : Int32))) σ) : ax_W shM (d + 1) mX12_scrape Q 54 [some (ax_r 0), some (ax_i x1)] [ax_i rr] σ := by
  refine ax_if_eq (tgt := 59) (q := 57) dX12_scrape_54 (by decide) rfl (fun c1 => ?_) (fun c1 => ?_)
  · refine ax_aload_n (q := 60) (i := 0) dX12_scrape_59 rfl rfl rfl ?_
    exact ax_callVcv (q := 63) (As := []) (st := []) dX12_scrape_60 rfl lk_X12_357 shM_0 rfl rfl rfl rfl (Nat.le_of_ble_eq_true rfl) (k1 c1)
  · refine ax_iconst (q := 58) dX12_scrape_57 rfl ki_m1 ?_
    exact ax_iret dX12_scrape_58 rfl rfl (k2 c1)
set_option maxRecDepth 20000 in
theorem s_X12_scrape_63 {d : Nat} (hd : 1 ≤ d) {Q : Option ax_V → ax_S → Prop} (σ : ax_S) (x1 : Int32) (h1 : vp_in (((16 : Int32) + ((4 : Int32) * x1)) + (2 : Int32)) 268) (k2 : Q (some (ax_i (((ax_ui σ 15 (Int32.toNatClampNeg (((16 : Int32) + ((4 : Int32) * x1)) + (2 : Int32))) (0 : Int32)).1 15 85) - (1 : Int32)))) (ax_ui (ax_ui σ 15 (Int32.toNatClampNeg (((16 : Int32) + ((4 : Int32) * x1)) + (2 : Int32))) (0 : Int32)) 15 85 (((ax_ui σ 15 (Int32.toNatClampNeg (((16 : Int32) + ((4 : Int32) * x1)) + (2 : Int32))) (0 : Int32)).1 15 85) - (1 : Int32)))) : ax_W shM (d + 1) mX12_scrape Q 63 [some (ax_r 0), some (ax_i x1)] [] σ := by
  refine ax_aload_n (q := 64) (i := 0) dX12_scrape_63 rfl rfl rfl ?_
  refine ax_iload_n (q := 65) (i := 1) dX12_scrape_64 rfl rfl rfl ?_
  refine ax_iconst (q := 66) dX12_scrape_65 rfl ki_2 ?_
  refine ax_iconst (q := 67) dX12_scrape_66 rfl ki_0 ?_
  refine ax_callVfv (q := 70) (As := [ax_i x1, ax_i (2 : Int32), ax_i (0 : Int32)]) (st := []) (σ2 := (ax_ui σ 15 (Int32.toNatClampNeg (((16 : Int32) + ((4 : Int32) * x1)) + (2 : Int32))) (0 : Int32))) dX12_scrape_67 rfl lk_X12_302 shM_0 rfl rfl rfl rfl (Nat.le_of_ble_eq_true rfl) (f_X12_putWire σ x1 (2 : Int32) (0 : Int32) h1 (d := d) (by omega)) ?_
  refine ax_aload_n (q := 71) (i := 0) dX12_scrape_70 rfl rfl rfl ?_
  refine ax_get (q := 74) (k := 0) (j := 25) (v := ax_r 15) dX12_scrape_71 rfl shM_0 rfl rfl rfl (by decide) fl_X12_52 ?_
  refine ax_bipush (q := 76) dX12_scrape_74 rfl kb_85 ?_
  refine ax_dup2_11 (q := 77) dX12_scrape_76 rfl ?_
  refine ax_iald (q := 78) (a := 85) (v := ((ax_ui σ 15 (Int32.toNatClampNeg (((16 : Int32) + ((4 : Int32) * x1)) + (2 : Int32))) (0 : Int32)).1 15 85)) dX12_scrape_77 rfl shM_15 (ax_inl 85 268 (by decide) (by decide)) rfl rfl ?_
  refine ax_iconst (q := 79) dX12_scrape_78 rfl ki_1 ?_
  refine ax_isub (q := 80) dX12_scrape_79 rfl ?_
  refine ax_iast (q := 81) (a := 85) dX12_scrape_80 rfl shM_15 (ax_inl 85 268 (by decide) (by decide)) rfl ?_
  refine ax_aload_n (q := 82) (i := 0) dX12_scrape_81 rfl rfl rfl ?_
  refine ax_get (q := 85) (k := 0) (j := 25) (v := ax_r 15) dX12_scrape_82 rfl shM_0 rfl rfl rfl (by decide) fl_X12_52 ?_
  refine ax_bipush (q := 87) dX12_scrape_85 rfl kb_85 ?_
  refine ax_iald (q := 88) (a := 85) (v := (((ax_ui σ 15 (Int32.toNatClampNeg (((16 : Int32) + ((4 : Int32) * x1)) + (2 : Int32))) (0 : Int32)).1 15 85) - (1 : Int32))) dX12_scrape_87 rfl shM_15 (ax_inl 85 268 (by decide) (by decide)) rfl rfl ?_
  exact ax_iret dX12_scrape_88 rfl rfl k2
set_option maxRecDepth 20000 in
theorem s_X12_ground_0 {d : Nat} (hd : 2 ≤ d) {Q : Option ax_V → ax_S → Prop} (σ : ax_S) (a0 : Int32) (k1 : ax_Ct shM d mX12_isRefused [ax_r 0, ax_i (if ((¬ (a0 < (0 : Int32))) ∧ (¬ (((σ.1 0 23) - (1 : Int32)) < a0))) then (if ((5 : Int32) ≤ (σ.1 15 85)) then (-1 : Int32) else (4 : Int32)) else (0 : Int32))] (fun r u => ∃ x : Int32, r = some (ax_i x) ∧ ax_W shM (d + 1) mX12_ground Q 32 [some (ax_r 0), some (ax_i a0)] (ax_i x :: []) u) σ) : ax_W shM (d + 1) mX12_ground Q 0 [some (ax_r 0), some (ax_i a0)] [] σ := by
  refine ax_aload_n (q := 1) (i := 0) dX12_ground_0 rfl rfl rfl ?_
  refine ax_aload_n (q := 2) (i := 0) dX12_ground_1 rfl rfl rfl ?_
  refine ax_iload_n (q := 3) (i := 1) dX12_ground_2 rfl rfl rfl ?_
  refine ax_callVfi (q := 6) (As := [ax_i a0]) (st := [ax_r 0]) (x := (if ((¬ (a0 < (0 : Int32))) ∧ (¬ (((σ.1 0 23) - (1 : Int32)) < a0))) then (1 : Int32) else 0)) (σ2 := σ) dX12_ground_3 rfl lk_X12_342 shM_0 rfl rfl rfl rfl (Nat.le_of_ble_eq_true rfl) (f_X12_isHouse σ a0  (d := d) (by omega)) ?_
  have K3 : ax_W shM (d + 1) mX12_ground Q 29 [some (ax_r 0), some (ax_i a0)] [ax_i (if ((¬ (a0 < (0 : Int32))) ∧ (¬ (((σ.1 0 23) - (1 : Int32)) < a0))) then (if ((5 : Int32) ≤ (σ.1 15 85)) then (-1 : Int32) else (4 : Int32)) else (0 : Int32)), ax_r 0] σ := by
    exact ax_callVci (q := 32) (As := [ax_i (if ((¬ (a0 < (0 : Int32))) ∧ (¬ (((σ.1 0 23) - (1 : Int32)) < a0))) then (if ((5 : Int32) ≤ (σ.1 15 85)) then (-1 : Int32) else (4 : Int32)) else (0 : Int32))]) (st := []) dX12_ground_29 rfl lk_X12_354 shM_0 rfl rfl rfl rfl (Nat.le_of_ble_eq_true rfl) k1
  refine ax_if_neB (tgt := 13) (q := 9) dX12_ground_6 (by decide) rfl (fun c1 => ?_) (fun c1 => ?_)
  · refine ax_aload_n (q := 14) (i := 0) dX12_ground_13 rfl rfl rfl ?_
    refine ax_get (q := 17) (k := 0) (j := 25) (v := ax_r 15) dX12_ground_14 rfl shM_0 rfl rfl rfl (by decide) fl_X12_52 ?_
    refine ax_bipush (q := 19) dX12_ground_17 rfl kb_85 ?_
    refine ax_iald (q := 20) (a := 85) (v := (σ.1 15 85)) dX12_ground_19 rfl shM_15 (ax_inl 85 268 (by decide) (by decide)) rfl rfl ?_
    refine ax_iconst (q := 21) dX12_ground_20 rfl ki_5 ?_
    refine ax_icmp_ge (tgt := 28) (q := 24) dX12_ground_21 (by decide) rfl (fun c2 => ?_) (fun c2 => ?_)
    · refine ax_iconst (q := 29) dX12_ground_28 rfl ki_m1 ?_
      exact ax_cv ((if_pos c1).trans (if_pos c2)) K3
    · refine ax_iconst (q := 25) dX12_ground_24 rfl ki_4 ?_
      refine ax_goto (tgt := 29) dX12_ground_25 (by decide) ?_
      exact ax_cv ((if_pos c1).trans (if_neg c2)) K3
  · refine ax_iconst (q := 10) dX12_ground_9 rfl ki_0 ?_
    refine ax_goto (tgt := 29) dX12_ground_10 (by decide) ?_
    exact ax_cv (if_neg c1) K3
set_option maxRecDepth 20000 in
theorem s_X12_ground_32 {d : Nat} (hd : 0 ≤ d) {Q : Option ax_V → ax_S → Prop} (σ : ax_S) (x1 : Int32) (rr : Int32) (k1 : (rr = 0) → ax_Ct shM d mX12_keep [ax_r 0] (fun r u => r = none ∧ ax_W shM (d + 1) mX12_ground Q 41 [some (ax_r 0), some (ax_i x1)] [] u) σ) (k2 : (¬ (rr = 0)) → Q (some (ax_i (-1 : Int32))) σ) : ax_W shM (d + 1) mX12_ground Q 32 [some (ax_r 0), some (ax_i x1)] [ax_i rr] σ := by
  refine ax_if_eq (tgt := 37) (q := 35) dX12_ground_32 (by decide) rfl (fun c1 => ?_) (fun c1 => ?_)
  · refine ax_aload_n (q := 38) (i := 0) dX12_ground_37 rfl rfl rfl ?_
    exact ax_callVcv (q := 41) (As := []) (st := []) dX12_ground_38 rfl lk_X12_357 shM_0 rfl rfl rfl rfl (Nat.le_of_ble_eq_true rfl) (k1 c1)
  · refine ax_iconst (q := 36) dX12_ground_35 rfl ki_m1 ?_
    exact ax_iret dX12_ground_36 rfl rfl (k2 c1)
set_option maxRecDepth 20000 in
theorem s_X12_ground_41 {d : Nat} (hd : 0 ≤ d) {Q : Option ax_V → ax_S → Prop} (σ : ax_S) (x1 : Int32) (h1 : vp_in ((0 : Int32) + x1) 268) (k2 : Q (some (ax_i ((ax_ui (ax_ui σ 15 (Int32.toNatClampNeg ((0 : Int32) + x1)) (if ((σ.1 15 (Int32.toNatClampNeg ((0 : Int32) + x1))) + (10 : Int32)) < (99 : Int32) then ((σ.1 15 (Int32.toNatClampNeg ((0 : Int32) + x1))) + (10 : Int32)) else (99 : Int32))) 15 85 (((ax_ui σ 15 (Int32.toNatClampNeg ((0 : Int32) + x1)) (if ((σ.1 15 (Int32.toNatClampNeg ((0 : Int32) + x1))) + (10 : Int32)) < (99 : Int32) then ((σ.1 15 (Int32.toNatClampNeg ((0 : Int32) + x1))) + (10 : Int32)) else (99 : Int32))).1 15 85) - (5 : Int32))).1 15 (Int32.toNatClampNeg ((0 : Int32) + x1))))) (ax_ui (ax_ui σ 15 (Int32.toNatClampNeg ((0 : Int32) + x1)) (if ((σ.1 15 (Int32.toNatClampNeg ((0 : Int32) + x1))) + (10 : Int32)) < (99 : Int32) then ((σ.1 15 (Int32.toNatClampNeg ((0 : Int32) + x1))) + (10 : Int32)) else (99 : Int32))) 15 85 (((ax_ui σ 15 (Int32.toNatClampNeg ((0 : Int32) + x1)) (if ((σ.1 15 (Int32.toNatClampNeg ((0 : Int32) + x1))) + (10 : Int32)) < (99 : Int32) then ((σ.1 15 (Int32.toNatClampNeg ((0 : Int32) + x1))) + (10 : Int32)) else (99 : Int32))).1 15 85) - (5 : Int32)))) : ax_W shM (d + 1) mX12_ground Q 41 [some (ax_r 0), some (ax_i x1)] [] σ := by
  refine ax_aload_n (q := 42) (i := 0) dX12_ground_41 rfl rfl rfl ?_
  refine ax_get (q := 45) (k := 0) (j := 25) (v := ax_r 15) dX12_ground_42 rfl shM_0 rfl rfl rfl (by decide) fl_X12_52 ?_
  refine ax_iconst (q := 46) dX12_ground_45 rfl ki_0 ?_
  refine ax_iload_n (q := 47) (i := 1) dX12_ground_46 rfl rfl rfl ?_
  refine ax_iadd (q := 48) dX12_ground_47 rfl ?_
  refine ax_bipush (q := 50) dX12_ground_48 rfl kb_99 ?_
  refine ax_aload_n (q := 51) (i := 0) dX12_ground_50 rfl rfl rfl ?_
  refine ax_get (q := 54) (k := 0) (j := 25) (v := ax_r 15) dX12_ground_51 rfl shM_0 rfl rfl rfl (by decide) fl_X12_52 ?_
  refine ax_iconst (q := 55) dX12_ground_54 rfl ki_0 ?_
  refine ax_iload_n (q := 56) (i := 1) dX12_ground_55 rfl rfl rfl ?_
  refine ax_iadd (q := 57) dX12_ground_56 rfl ?_
  refine ax_iald (q := 58) (a := (Int32.toNatClampNeg ((0 : Int32) + x1))) (v := (σ.1 15 (Int32.toNatClampNeg ((0 : Int32) + x1)))) dX12_ground_57 rfl shM_15 h1 rfl rfl ?_
  refine ax_bipush (q := 60) dX12_ground_58 rfl kb_10 ?_
  refine ax_iadd (q := 61) dX12_ground_60 rfl ?_
  refine ax_mmin (q := 64) dX12_ground_61 rfl mk_X12_253 (Nat.le_of_ble_eq_true rfl) ?_
  refine ax_iast (q := 65) (a := (Int32.toNatClampNeg ((0 : Int32) + x1))) dX12_ground_64 rfl shM_15 h1 rfl ?_
  refine ax_aload_n (q := 66) (i := 0) dX12_ground_65 rfl rfl rfl ?_
  refine ax_get (q := 69) (k := 0) (j := 25) (v := ax_r 15) dX12_ground_66 rfl shM_0 rfl rfl rfl (by decide) fl_X12_52 ?_
  refine ax_bipush (q := 71) dX12_ground_69 rfl kb_85 ?_
  refine ax_dup2_11 (q := 72) dX12_ground_71 rfl ?_
  refine ax_iald (q := 73) (a := 85) (v := ((ax_ui σ 15 (Int32.toNatClampNeg ((0 : Int32) + x1)) (if ((σ.1 15 (Int32.toNatClampNeg ((0 : Int32) + x1))) + (10 : Int32)) < (99 : Int32) then ((σ.1 15 (Int32.toNatClampNeg ((0 : Int32) + x1))) + (10 : Int32)) else (99 : Int32))).1 15 85)) dX12_ground_72 rfl shM_15 (ax_inl 85 268 (by decide) (by decide)) rfl rfl ?_
  refine ax_iconst (q := 74) dX12_ground_73 rfl ki_5 ?_
  refine ax_isub (q := 75) dX12_ground_74 rfl ?_
  refine ax_iast (q := 76) (a := 85) dX12_ground_75 rfl shM_15 (ax_inl 85 268 (by decide) (by decide)) rfl ?_
  refine ax_aload_n (q := 77) (i := 0) dX12_ground_76 rfl rfl rfl ?_
  refine ax_get (q := 80) (k := 0) (j := 25) (v := ax_r 15) dX12_ground_77 rfl shM_0 rfl rfl rfl (by decide) fl_X12_52 ?_
  refine ax_iconst (q := 81) dX12_ground_80 rfl ki_0 ?_
  refine ax_iload_n (q := 82) (i := 1) dX12_ground_81 rfl rfl rfl ?_
  refine ax_iadd (q := 83) dX12_ground_82 rfl ?_
  refine ax_iald (q := 84) (a := (Int32.toNatClampNeg ((0 : Int32) + x1))) (v := ((ax_ui (ax_ui σ 15 (Int32.toNatClampNeg ((0 : Int32) + x1)) (if ((σ.1 15 (Int32.toNatClampNeg ((0 : Int32) + x1))) + (10 : Int32)) < (99 : Int32) then ((σ.1 15 (Int32.toNatClampNeg ((0 : Int32) + x1))) + (10 : Int32)) else (99 : Int32))) 15 85 (((ax_ui σ 15 (Int32.toNatClampNeg ((0 : Int32) + x1)) (if ((σ.1 15 (Int32.toNatClampNeg ((0 : Int32) + x1))) + (10 : Int32)) < (99 : Int32) then ((σ.1 15 (Int32.toNatClampNeg ((0 : Int32) + x1))) + (10 : Int32)) else (99 : Int32))).1 15 85) - (5 : Int32))).1 15 (Int32.toNatClampNeg ((0 : Int32) + x1)))) dX12_ground_83 rfl shM_15 h1 rfl rfl ?_
  exact ax_iret dX12_ground_84 rfl rfl k2
set_option maxRecDepth 20000 in
theorem s_X12_passSummer_0 {d : Nat} (hd : 0 ≤ d) {Q : Option ax_V → ax_S → Prop} (σ : ax_S)  (k1 : ax_W shM (d + 1) mX12_passSummer Q 2 [some (ax_r 0), some (ax_i (0 : Int32))] [] σ) : ax_W shM (d + 1) mX12_passSummer Q 0 [some (ax_r 0), none] [] σ := by
  refine ax_iconst (q := 1) dX12_passSummer_0 rfl ki_0 ?_
  refine ax_istore_n (q := 2) (i := 1) (lv2 := [some (ax_r 0), some (ax_i (0 : Int32))]) dX12_passSummer_1 rfl rfl (by decide) rfl rfl ?_
  exact k1
set_option maxRecDepth 20000 in
theorem s_X12_passSummer_2 {d : Nat} (hd : 1 ≤ d) {Q : Option ax_V → ax_S → Prop} (σ : ax_S) (x1 : Int32) (k1 : ((σ.1 15 84) ≤ x1) → Q none (ax_ui (ax_ui σ 15 85 (if ((σ.1 15 85) + (3 : Int32)) < (99 : Int32) then ((σ.1 15 85) + (3 : Int32)) else (99 : Int32))) 15 86 ((σ.1 15 86) + (1 : Int32)))) (h2 : (¬ ((σ.1 15 84) ≤ x1)) → vp_in (((16 : Int32) + ((4 : Int32) * x1)) + (3 : Int32)) 268) (h3 : (¬ ((σ.1 15 84) ≤ x1)) → (¬ (σ.1 15 (Int32.toNatClampNeg (((16 : Int32) + ((4 : Int32) * x1)) + (3 : Int32)))) = (1 : Int32)) → vp_in (((16 : Int32) + ((4 : Int32) * x1)) + (2 : Int32)) 268) (h4 : (¬ ((σ.1 15 84) ≤ x1)) → (¬ (¬ (σ.1 15 (Int32.toNatClampNeg (((16 : Int32) + ((4 : Int32) * x1)) + (3 : Int32)))) = (1 : Int32))) → vp_in (((16 : Int32) + ((4 : Int32) * x1)) + (2 : Int32)) 268) (h5 : (¬ ((σ.1 15 84) ≤ x1)) → vp_in (((16 : Int32) + ((4 : Int32) * x1)) + (2 : Int32)) 268) (k6 : (¬ ((σ.1 15 84) ≤ x1)) → ax_W shM (d + 1) mX12_passSummer Q 2 [some (ax_r 0), some (ax_i (x1 + (1 : Int32)))] [] (ax_ui σ 15 (Int32.toNatClampNeg (((16 : Int32) + ((4 : Int32) * x1)) + (2 : Int32))) (if (¬ (σ.1 15 (Int32.toNatClampNeg (((16 : Int32) + ((4 : Int32) * x1)) + (3 : Int32)))) = (1 : Int32)) then (if ((σ.1 15 (Int32.toNatClampNeg (((16 : Int32) + ((4 : Int32) * x1)) + (2 : Int32)))) + (1 : Int32)) < (9 : Int32) then ((σ.1 15 (Int32.toNatClampNeg (((16 : Int32) + ((4 : Int32) * x1)) + (2 : Int32)))) + (1 : Int32)) else (9 : Int32)) else (σ.1 15 (Int32.toNatClampNeg (((16 : Int32) + ((4 : Int32) * x1)) + (2 : Int32))))))) : ax_W shM (d + 1) mX12_passSummer Q 2 [some (ax_r 0), some (ax_i x1)] [] σ := by
  refine ax_iload_n (q := 3) (i := 1) dX12_passSummer_2 rfl rfl rfl ?_
  refine ax_aload_n (q := 4) (i := 0) dX12_passSummer_3 rfl rfl rfl ?_
  refine ax_get (q := 7) (k := 0) (j := 25) (v := ax_r 15) dX12_passSummer_4 rfl shM_0 rfl rfl rfl (by decide) fl_X12_52 ?_
  refine ax_bipush (q := 9) dX12_passSummer_7 rfl kb_84 ?_
  refine ax_iald (q := 10) (a := 84) (v := (σ.1 15 84)) dX12_passSummer_9 rfl shM_15 (ax_inl 84 268 (by decide) (by decide)) rfl rfl ?_
  refine ax_icmp_ge (tgt := 57) (q := 13) dX12_passSummer_10 (by decide) rfl (fun c1 => ?_) (fun c1 => ?_)
  · refine ax_aload_n (q := 58) (i := 0) dX12_passSummer_57 rfl rfl rfl ?_
    refine ax_get (q := 61) (k := 0) (j := 25) (v := ax_r 15) dX12_passSummer_58 rfl shM_0 rfl rfl rfl (by decide) fl_X12_52 ?_
    refine ax_bipush (q := 63) dX12_passSummer_61 rfl kb_85 ?_
    refine ax_bipush (q := 65) dX12_passSummer_63 rfl kb_99 ?_
    refine ax_aload_n (q := 66) (i := 0) dX12_passSummer_65 rfl rfl rfl ?_
    refine ax_get (q := 69) (k := 0) (j := 25) (v := ax_r 15) dX12_passSummer_66 rfl shM_0 rfl rfl rfl (by decide) fl_X12_52 ?_
    refine ax_bipush (q := 71) dX12_passSummer_69 rfl kb_85 ?_
    refine ax_iald (q := 72) (a := 85) (v := (σ.1 15 85)) dX12_passSummer_71 rfl shM_15 (ax_inl 85 268 (by decide) (by decide)) rfl rfl ?_
    refine ax_iconst (q := 73) dX12_passSummer_72 rfl ki_3 ?_
    refine ax_iadd (q := 74) dX12_passSummer_73 rfl ?_
    refine ax_mmin (q := 77) dX12_passSummer_74 rfl mk_X12_253 (Nat.le_of_ble_eq_true rfl) ?_
    refine ax_iast (q := 78) (a := 85) dX12_passSummer_77 rfl shM_15 (ax_inl 85 268 (by decide) (by decide)) rfl ?_
    refine ax_aload_n (q := 79) (i := 0) dX12_passSummer_78 rfl rfl rfl ?_
    refine ax_get (q := 82) (k := 0) (j := 25) (v := ax_r 15) dX12_passSummer_79 rfl shM_0 rfl rfl rfl (by decide) fl_X12_52 ?_
    refine ax_bipush (q := 84) dX12_passSummer_82 rfl kb_86 ?_
    refine ax_dup2_11 (q := 85) dX12_passSummer_84 rfl ?_
    refine ax_iald (q := 86) (a := 86) (v := (σ.1 15 86)) dX12_passSummer_85 rfl shM_15 (ax_inl 86 268 (by decide) (by decide)) rfl rfl ?_
    refine ax_iconst (q := 87) dX12_passSummer_86 rfl ki_1 ?_
    refine ax_iadd (q := 88) dX12_passSummer_87 rfl ?_
    refine ax_iast (q := 89) (a := 86) dX12_passSummer_88 rfl shM_15 (ax_inl 86 268 (by decide) (by decide)) rfl ?_
    exact ax_vret dX12_passSummer_89 rfl (k1 c1)
  · refine ax_aload_n (q := 14) (i := 0) dX12_passSummer_13 rfl rfl rfl ?_
    refine ax_iload_n (q := 15) (i := 1) dX12_passSummer_14 rfl rfl rfl ?_
    refine ax_iconst (q := 16) dX12_passSummer_15 rfl ki_2 ?_
    refine ax_aload_n (q := 17) (i := 0) dX12_passSummer_16 rfl rfl rfl ?_
    refine ax_iload_n (q := 18) (i := 1) dX12_passSummer_17 rfl rfl rfl ?_
    refine ax_iconst (q := 19) dX12_passSummer_18 rfl ki_3 ?_
    refine ax_callVfi (q := 22) (As := [ax_i x1, ax_i (3 : Int32)]) (st := [ax_i (2 : Int32), ax_i x1, ax_r 0]) (x := (σ.1 15 (Int32.toNatClampNeg (((16 : Int32) + ((4 : Int32) * x1)) + (3 : Int32))))) (σ2 := σ) dX12_passSummer_19 rfl lk_X12_306 shM_0 rfl rfl rfl rfl (Nat.le_of_ble_eq_true rfl) (f_X12_ofWire σ x1 (3 : Int32) (h2 c1) (d := d) (by omega)) ?_
    refine ax_iconst (q := 23) dX12_passSummer_22 rfl ki_1 ?_
    have K3 : ax_W shM (d + 1) mX12_passSummer Q 48 [some (ax_r 0), some (ax_i x1)] [ax_i (if (¬ (σ.1 15 (Int32.toNatClampNeg (((16 : Int32) + ((4 : Int32) * x1)) + (3 : Int32)))) = (1 : Int32)) then (if ((σ.1 15 (Int32.toNatClampNeg (((16 : Int32) + ((4 : Int32) * x1)) + (2 : Int32)))) + (1 : Int32)) < (9 : Int32) then ((σ.1 15 (Int32.toNatClampNeg (((16 : Int32) + ((4 : Int32) * x1)) + (2 : Int32)))) + (1 : Int32)) else (9 : Int32)) else (σ.1 15 (Int32.toNatClampNeg (((16 : Int32) + ((4 : Int32) * x1)) + (2 : Int32))))), ax_i (2 : Int32), ax_i x1, ax_r 0] σ := by
      refine ax_callVfv (q := 51) (As := [ax_i x1, ax_i (2 : Int32), ax_i (if (¬ (σ.1 15 (Int32.toNatClampNeg (((16 : Int32) + ((4 : Int32) * x1)) + (3 : Int32)))) = (1 : Int32)) then (if ((σ.1 15 (Int32.toNatClampNeg (((16 : Int32) + ((4 : Int32) * x1)) + (2 : Int32)))) + (1 : Int32)) < (9 : Int32) then ((σ.1 15 (Int32.toNatClampNeg (((16 : Int32) + ((4 : Int32) * x1)) + (2 : Int32)))) + (1 : Int32)) else (9 : Int32)) else (σ.1 15 (Int32.toNatClampNeg (((16 : Int32) + ((4 : Int32) * x1)) + (2 : Int32)))))]) (st := []) (σ2 := (ax_ui σ 15 (Int32.toNatClampNeg (((16 : Int32) + ((4 : Int32) * x1)) + (2 : Int32))) (if (¬ (σ.1 15 (Int32.toNatClampNeg (((16 : Int32) + ((4 : Int32) * x1)) + (3 : Int32)))) = (1 : Int32)) then (if ((σ.1 15 (Int32.toNatClampNeg (((16 : Int32) + ((4 : Int32) * x1)) + (2 : Int32)))) + (1 : Int32)) < (9 : Int32) then ((σ.1 15 (Int32.toNatClampNeg (((16 : Int32) + ((4 : Int32) * x1)) + (2 : Int32)))) + (1 : Int32)) else (9 : Int32)) else (σ.1 15 (Int32.toNatClampNeg (((16 : Int32) + ((4 : Int32) * x1)) + (2 : Int32))))))) dX12_passSummer_48 rfl lk_X12_302 shM_0 rfl rfl rfl rfl (Nat.le_of_ble_eq_true rfl) (f_X12_putWire σ x1 (2 : Int32) (if (¬ (σ.1 15 (Int32.toNatClampNeg (((16 : Int32) + ((4 : Int32) * x1)) + (3 : Int32)))) = (1 : Int32)) then (if ((σ.1 15 (Int32.toNatClampNeg (((16 : Int32) + ((4 : Int32) * x1)) + (2 : Int32)))) + (1 : Int32)) < (9 : Int32) then ((σ.1 15 (Int32.toNatClampNeg (((16 : Int32) + ((4 : Int32) * x1)) + (2 : Int32)))) + (1 : Int32)) else (9 : Int32)) else (σ.1 15 (Int32.toNatClampNeg (((16 : Int32) + ((4 : Int32) * x1)) + (2 : Int32))))) (h5 c1) (d := d) (by omega)) ?_
      refine ax_iincK (q := 54) (lv2 := [some (ax_r 0), some (ax_i (x1 + (1 : Int32)))]) dX12_passSummer_51 rfl rfl ki_1 (by decide) rfl rfl ?_
      refine ax_goto (tgt := 2) dX12_passSummer_54 (by decide) ?_
      exact (k6 c1)
    refine ax_icmp_ne (tgt := 35) (q := 26) dX12_passSummer_23 (by decide) rfl (fun c2 => ?_) (fun c2 => ?_)
    · refine ax_bipush (q := 37) dX12_passSummer_35 rfl kb_9 ?_
      refine ax_aload_n (q := 38) (i := 0) dX12_passSummer_37 rfl rfl rfl ?_
      refine ax_iload_n (q := 39) (i := 1) dX12_passSummer_38 rfl rfl rfl ?_
      refine ax_iconst (q := 40) dX12_passSummer_39 rfl ki_2 ?_
      refine ax_callVfi (q := 43) (As := [ax_i x1, ax_i (2 : Int32)]) (st := [ax_i (9 : Int32), ax_i (2 : Int32), ax_i x1, ax_r 0]) (x := (σ.1 15 (Int32.toNatClampNeg (((16 : Int32) + ((4 : Int32) * x1)) + (2 : Int32))))) (σ2 := σ) dX12_passSummer_40 rfl lk_X12_306 shM_0 rfl rfl rfl rfl (Nat.le_of_ble_eq_true rfl) (f_X12_ofWire σ x1 (2 : Int32) (h3 c1 c2) (d := d) (by omega)) ?_
      refine ax_iconst (q := 44) dX12_passSummer_43 rfl ki_1 ?_
      refine ax_iadd (q := 45) dX12_passSummer_44 rfl ?_
      refine ax_mmin (q := 48) dX12_passSummer_45 rfl mk_X12_253 (Nat.le_of_ble_eq_true rfl) ?_
      exact ax_cv (if_pos c2) K3
    · refine ax_aload_n (q := 27) (i := 0) dX12_passSummer_26 rfl rfl rfl ?_
      refine ax_iload_n (q := 28) (i := 1) dX12_passSummer_27 rfl rfl rfl ?_
      refine ax_iconst (q := 29) dX12_passSummer_28 rfl ki_2 ?_
      refine ax_callVfi (q := 32) (As := [ax_i x1, ax_i (2 : Int32)]) (st := [ax_i (2 : Int32), ax_i x1, ax_r 0]) (x := (σ.1 15 (Int32.toNatClampNeg (((16 : Int32) + ((4 : Int32) * x1)) + (2 : Int32))))) (σ2 := σ) dX12_passSummer_29 rfl lk_X12_306 shM_0 rfl rfl rfl rfl (Nat.le_of_ble_eq_true rfl) (f_X12_ofWire σ x1 (2 : Int32) (h4 c1 c2) (d := d) (by omega)) ?_
      refine ax_goto (tgt := 48) dX12_passSummer_32 (by decide) ?_
      exact ax_cv (if_neg c2) K3
set_option maxRecDepth 20000 in
theorem f_X12_areSummers (σ : ax_S) (a0 : Int32) (h1 : ((¬ (a0 < (1 : Int32))) ∧ (¬ ((60 : Int32) < a0))) → vp_in (86 : Int32) 268) {d : Nat} (hd : 2 ≤ d) : ax_Ct shM d mX12_areSummers [ax_r 0, ax_i a0] (fun r u => r = some (ax_i (if (((¬ (a0 < (1 : Int32))) ∧ (¬ ((60 : Int32) < a0))) ∧ (¬ ((999 : Int32) < ((σ.1 15 86) + a0)))) then (1 : Int32) else 0)) ∧ u = σ) σ := by
  obtain ⟨d, rfl⟩ : ∃ e, d = e + 1 := ⟨d - 1, by omega⟩
  refine ax_Ct.of (lv := [some (ax_r 0), some (ax_i a0)]) (by decide +kernel) (fun ad => Nat.le_of_ble_eq_true rfl) (fun ad => rfl) ?_
  refine ax_iload_n (q := 1) (i := 1) dX12_areSummers_0 rfl rfl rfl ?_
  refine ax_iconst (q := 2) dX12_areSummers_1 rfl ki_1 ?_
  refine ax_bipush (q := 4) dX12_areSummers_2 rfl kb_60 ?_
  refine ax_callSfi (q := 7) (As := [ax_i a0, ax_i (1 : Int32), ax_i (60 : Int32)]) (st := []) (x := (if ((¬ (a0 < (1 : Int32))) ∧ (¬ ((60 : Int32) < a0))) then (1 : Int32) else 0)) (σ2 := σ) dX12_areSummers_4 rfl lk_X12_223 rfl rfl (Nat.le_of_ble_eq_true rfl) (f_X12_in (sh := shM) σ a0 (1 : Int32) (60 : Int32)  (d := d) (by omega)) ?_
  have K3 : ax_W shM (d + 1) mX12_areSummers (fun r u => r = some (ax_i (if (((¬ (a0 < (1 : Int32))) ∧ (¬ ((60 : Int32) < a0))) ∧ (¬ ((999 : Int32) < ((σ.1 15 86) + a0)))) then (1 : Int32) else 0)) ∧ u = σ) 30 [some (ax_r 0), some (ax_i a0)] [ax_i (if (((¬ (a0 < (1 : Int32))) ∧ (¬ ((60 : Int32) < a0))) ∧ (¬ ((999 : Int32) < ((σ.1 15 86) + a0)))) then (1 : Int32) else 0)] σ := by
    exact ax_iret dX12_areSummers_30 rfl (ax_nb _) ⟨rfl, rfl⟩
  refine ax_if_eqB (tgt := 29) (q := 10) dX12_areSummers_7 (by decide) rfl (fun c1 => ?_) (fun c1 => ?_)
  · refine ax_iconst (q := 30) dX12_areSummers_29 rfl ki_0 ?_
    exact ax_cv (if_neg (fun z => c1 z.1)) K3
  · refine ax_aload_n (q := 11) (i := 0) dX12_areSummers_10 rfl rfl rfl ?_
    refine ax_get (q := 14) (k := 0) (j := 25) (v := ax_r 15) dX12_areSummers_11 rfl shM_0 rfl rfl rfl (by decide) fl_X12_52 ?_
    refine ax_bipush (q := 16) dX12_areSummers_14 rfl kb_86 ?_
    refine ax_iald (q := 17) (a := 86) (v := (σ.1 15 86)) dX12_areSummers_16 rfl shM_15 (h1 c1) rfl rfl ?_
    refine ax_iload_n (q := 18) (i := 1) dX12_areSummers_17 rfl rfl rfl ?_
    refine ax_iadd (q := 19) dX12_areSummers_18 rfl ?_
    refine ax_sipush (q := 22) dX12_areSummers_19 rfl ks_999 ?_
    refine ax_icmp_gt (tgt := 29) (q := 25) dX12_areSummers_22 (by decide) rfl (fun c2 => ?_) (fun c2 => ?_)
    · refine ax_iconst (q := 30) dX12_areSummers_29 rfl ki_0 ?_
      exact ax_cv (if_neg (fun z => (fun y => y c2) z.2)) K3
    · refine ax_iconst (q := 26) dX12_areSummers_25 rfl ki_1 ?_
      refine ax_goto (tgt := 30) dX12_areSummers_26 (by decide) ?_
      exact ax_cv (if_pos ⟨c1, c2⟩) K3
set_option maxRecDepth 20000 in
theorem s_X12_summers_0 {d : Nat} (hd : 2 ≤ d) {Q : Option ax_V → ax_S → Prop} (σ : ax_S) (a0 : Int32) (h1 : (¬ (σ.1 0 23) = 0) → ((¬ (a0 < (1 : Int32))) ∧ (¬ ((60 : Int32) < a0))) → vp_in (86 : Int32) 268) (k2 : ax_Ct shM d mX12_isRefused [ax_r 0, ax_i (if (¬ (σ.1 0 23) = 0) then (if (((¬ (a0 < (1 : Int32))) ∧ (¬ ((60 : Int32) < a0))) ∧ (¬ ((999 : Int32) < ((σ.1 15 86) + a0)))) then (-1 : Int32) else (1 : Int32)) else (0 : Int32))] (fun r u => ∃ x : Int32, r = some (ax_i x) ∧ ax_W shM (d + 1) mX12_summers Q 28 [some (ax_r 0), some (ax_i a0), none] (ax_i x :: []) u) σ) : ax_W shM (d + 1) mX12_summers Q 0 [some (ax_r 0), some (ax_i a0), none] [] σ := by
  refine ax_aload_n (q := 1) (i := 0) dX12_summers_0 rfl rfl rfl ?_
  refine ax_aload_n (q := 2) (i := 0) dX12_summers_1 rfl rfl rfl ?_
  refine ax_get (q := 5) (k := 0) (j := 23) (v := ax_i (σ.1 0 23)) dX12_summers_2 rfl shM_0 rfl rfl rfl (by decide) fl_X12_271 ?_
  have K3 : ax_W shM (d + 1) mX12_summers Q 25 [some (ax_r 0), some (ax_i a0), none] [ax_i (if (¬ (σ.1 0 23) = 0) then (if (((¬ (a0 < (1 : Int32))) ∧ (¬ ((60 : Int32) < a0))) ∧ (¬ ((999 : Int32) < ((σ.1 15 86) + a0)))) then (-1 : Int32) else (1 : Int32)) else (0 : Int32)), ax_r 0] σ := by
    exact ax_callVci (q := 28) (As := [ax_i (if (¬ (σ.1 0 23) = 0) then (if (((¬ (a0 < (1 : Int32))) ∧ (¬ ((60 : Int32) < a0))) ∧ (¬ ((999 : Int32) < ((σ.1 15 86) + a0)))) then (-1 : Int32) else (1 : Int32)) else (0 : Int32))]) (st := []) dX12_summers_25 rfl lk_X12_354 shM_0 rfl rfl rfl rfl (Nat.le_of_ble_eq_true rfl) k2
  refine ax_if_ne (tgt := 12) (q := 8) dX12_summers_5 (by decide) rfl (fun c1 => ?_) (fun c1 => ?_)
  · refine ax_aload_n (q := 13) (i := 0) dX12_summers_12 rfl rfl rfl ?_
    refine ax_iload_n (q := 14) (i := 1) dX12_summers_13 rfl rfl rfl ?_
    refine ax_callVfi (q := 17) (As := [ax_i a0]) (st := [ax_r 0]) (x := (if (((¬ (a0 < (1 : Int32))) ∧ (¬ ((60 : Int32) < a0))) ∧ (¬ ((999 : Int32) < ((σ.1 15 86) + a0)))) then (1 : Int32) else 0)) (σ2 := σ) dX12_summers_14 rfl lk_X12_378 shM_0 rfl rfl rfl rfl (Nat.le_of_ble_eq_true rfl) (f_X12_areSummers σ a0 (h1 c1) (d := d) (by omega)) ?_
    refine ax_if_neB (tgt := 24) (q := 20) dX12_summers_17 (by decide) rfl (fun c2 => ?_) (fun c2 => ?_)
    · refine ax_iconst (q := 25) dX12_summers_24 rfl ki_m1 ?_
      exact ax_cv ((if_pos c1).trans (if_pos c2)) K3
    · refine ax_iconst (q := 21) dX12_summers_20 rfl ki_1 ?_
      refine ax_goto (tgt := 25) dX12_summers_21 (by decide) ?_
      exact ax_cv ((if_pos c1).trans (if_neg c2)) K3
  · refine ax_iconst (q := 9) dX12_summers_8 rfl ki_0 ?_
    refine ax_goto (tgt := 25) dX12_summers_9 (by decide) ?_
    exact ax_cv (if_neg c1) K3
set_option maxRecDepth 20000 in
theorem s_X12_summers_28 {d : Nat} (hd : 0 ≤ d) {Q : Option ax_V → ax_S → Prop} (σ : ax_S) (x1 : Int32) (rr : Int32) (k1 : (rr = 0) → ax_W shM (d + 1) mX12_summers Q 35 [some (ax_r 0), some (ax_i x1), some (ax_i (0 : Int32))] [] σ) (k2 : (¬ (rr = 0)) → Q (some (ax_i (-1 : Int32))) σ) : ax_W shM (d + 1) mX12_summers Q 28 [some (ax_r 0), some (ax_i x1), none] [ax_i rr] σ := by
  refine ax_if_eq (tgt := 33) (q := 31) dX12_summers_28 (by decide) rfl (fun c1 => ?_) (fun c1 => ?_)
  · refine ax_iconst (q := 34) dX12_summers_33 rfl ki_0 ?_
    refine ax_istore_n (q := 35) (i := 2) (lv2 := [some (ax_r 0), some (ax_i x1), some (ax_i (0 : Int32))]) dX12_summers_34 rfl rfl (by decide) rfl rfl ?_
    exact (k1 c1)
  · refine ax_iconst (q := 32) dX12_summers_31 rfl ki_m1 ?_
    exact ax_iret dX12_summers_32 rfl rfl (k2 c1)
set_option maxRecDepth 20000 in
theorem s_X12_summers_35 {d : Nat} (hd : 0 ≤ d) {Q : Option ax_V → ax_S → Prop} (σ : ax_S) (x1 : Int32) (x2 : Int32) (k1 : (x1 ≤ x2) → Q (some (ax_i (σ.1 15 86))) σ) (k2 : (¬ (x1 ≤ x2)) → ax_Ct shM d mX12_keep [ax_r 0] (fun r u => r = none ∧ ax_W shM (d + 1) mX12_summers Q 44 [some (ax_r 0), some (ax_i x1), some (ax_i x2)] [] u) σ) : ax_W shM (d + 1) mX12_summers Q 35 [some (ax_r 0), some (ax_i x1), some (ax_i x2)] [] σ := by
  refine ax_iload_n (q := 36) (i := 2) dX12_summers_35 rfl rfl rfl ?_
  refine ax_iload_n (q := 37) (i := 1) dX12_summers_36 rfl rfl rfl ?_
  refine ax_icmp_ge (tgt := 54) (q := 40) dX12_summers_37 (by decide) rfl (fun c1 => ?_) (fun c1 => ?_)
  · refine ax_aload_n (q := 55) (i := 0) dX12_summers_54 rfl rfl rfl ?_
    refine ax_get (q := 58) (k := 0) (j := 25) (v := ax_r 15) dX12_summers_55 rfl shM_0 rfl rfl rfl (by decide) fl_X12_52 ?_
    refine ax_bipush (q := 60) dX12_summers_58 rfl kb_86 ?_
    refine ax_iald (q := 61) (a := 86) (v := (σ.1 15 86)) dX12_summers_60 rfl shM_15 (ax_inl 86 268 (by decide) (by decide)) rfl rfl ?_
    exact ax_iret dX12_summers_61 rfl rfl (k1 c1)
  · refine ax_aload_n (q := 41) (i := 0) dX12_summers_40 rfl rfl rfl ?_
    exact ax_callVcv (q := 44) (As := []) (st := []) dX12_summers_41 rfl lk_X12_357 shM_0 rfl rfl rfl rfl (Nat.le_of_ble_eq_true rfl) (k2 c1)
set_option maxRecDepth 20000 in
theorem s_X12_summers_44 {d : Nat} (hd : 0 ≤ d) {Q : Option ax_V → ax_S → Prop} (σ : ax_S) (x1 : Int32) (x2 : Int32) (k1 : ax_Ct shM d mX12_passSummer [ax_r 0] (fun r u => r = none ∧ ax_W shM (d + 1) mX12_summers Q 48 [some (ax_r 0), some (ax_i x1), some (ax_i x2)] [] u) σ) : ax_W shM (d + 1) mX12_summers Q 44 [some (ax_r 0), some (ax_i x1), some (ax_i x2)] [] σ := by
  refine ax_aload_n (q := 45) (i := 0) dX12_summers_44 rfl rfl rfl ?_
  exact ax_callVcv (q := 48) (As := []) (st := []) dX12_summers_45 rfl lk_X12_381 shM_0 rfl rfl rfl rfl (Nat.le_of_ble_eq_true rfl) k1
set_option maxRecDepth 20000 in
theorem s_X12_summers_48 {d : Nat} (hd : 0 ≤ d) {Q : Option ax_V → ax_S → Prop} (σ : ax_S) (x1 : Int32) (x2 : Int32) (k1 : ax_W shM (d + 1) mX12_summers Q 35 [some (ax_r 0), some (ax_i x1), some (ax_i (x2 + (1 : Int32)))] [] σ) : ax_W shM (d + 1) mX12_summers Q 48 [some (ax_r 0), some (ax_i x1), some (ax_i x2)] [] σ := by
  refine ax_iincK (q := 51) (lv2 := [some (ax_r 0), some (ax_i x1), some (ax_i (x2 + (1 : Int32)))]) dX12_summers_48 rfl rfl ki_1 (by decide) rfl rfl ?_
  refine ax_goto (tgt := 35) dX12_summers_51 (by decide) ?_
  exact k1
set_option maxRecDepth 20000 in
theorem s_X12_set_0 {d : Nat} (hd : 1 ≤ d) {Q : Option ax_V → ax_S → Prop} (σ : ax_S) (a0 : Int32) (a1 : Int32) (k1 : (¬ ((¬ (a0 < (0 : Int32))) ∧ (¬ ((1 : Int32) < a0)))) → Q (some (ax_i (0 : Int32))) σ) (k2 : ((¬ (a0 < (0 : Int32))) ∧ (¬ ((1 : Int32) < a0))) → (¬ ((¬ (a1 < (0 : Int32))) ∧ (¬ ((9 : Int32) < a1)))) → Q (some (ax_i (0 : Int32))) σ) (k3 : ((¬ (a0 < (0 : Int32))) ∧ (¬ ((1 : Int32) < a0))) → ((¬ (a1 < (0 : Int32))) ∧ (¬ ((9 : Int32) < a1))) → (¬ (if (¬ a0 = 0) then (σ.1 0 29) else (σ.1 0 28)) = a1) → Q (some (ax_i (1 : Int32))) (ax_ui (ax_ui σ 0 28 (if (¬ a0 = 0) then (σ.1 0 28) else a1)) 0 29 (if (¬ a0 = (1 : Int32)) then (σ.1 0 29) else a1))) (k4 : ((¬ (a0 < (0 : Int32))) ∧ (¬ ((1 : Int32) < a0))) → ((¬ (a1 < (0 : Int32))) ∧ (¬ ((9 : Int32) < a1))) → (¬ (¬ (if (¬ a0 = 0) then (σ.1 0 29) else (σ.1 0 28)) = a1)) → Q (some (ax_i (0 : Int32))) σ) : ax_W shM (d + 1) mX12_set Q 0 [some (ax_r 0), some (ax_i a0), some (ax_i a1)] [] σ := by
  refine ax_iload_n (q := 1) (i := 1) dX12_set_0 rfl rfl rfl ?_
  refine ax_iconst (q := 2) dX12_set_1 rfl ki_0 ?_
  refine ax_iconst (q := 3) dX12_set_2 rfl ki_1 ?_
  refine ax_callSfi (q := 6) (As := [ax_i a0, ax_i (0 : Int32), ax_i (1 : Int32)]) (st := []) (x := (if ((¬ (a0 < (0 : Int32))) ∧ (¬ ((1 : Int32) < a0))) then (1 : Int32) else 0)) (σ2 := σ) dX12_set_3 rfl lk_X12_223 rfl rfl (Nat.le_of_ble_eq_true rfl) (f_X12_in (sh := shM) σ a0 (0 : Int32) (1 : Int32)  (d := d) (by omega)) ?_
  refine ax_if_eqB (tgt := 38) (q := 9) dX12_set_6 (by decide) rfl (fun c1 => ?_) (fun c1 => ?_)
  · refine ax_iconst (q := 39) dX12_set_38 rfl ki_0 ?_
    exact ax_iret dX12_set_39 rfl rfl (k1 c1)
  · refine ax_iload_n (q := 10) (i := 2) dX12_set_9 rfl rfl rfl ?_
    refine ax_iconst (q := 11) dX12_set_10 rfl ki_0 ?_
    refine ax_bipush (q := 13) dX12_set_11 rfl kb_9 ?_
    refine ax_callSfi (q := 16) (As := [ax_i a1, ax_i (0 : Int32), ax_i (9 : Int32)]) (st := []) (x := (if ((¬ (a1 < (0 : Int32))) ∧ (¬ ((9 : Int32) < a1))) then (1 : Int32) else 0)) (σ2 := σ) dX12_set_13 rfl lk_X12_223 rfl rfl (Nat.le_of_ble_eq_true rfl) (f_X12_in (sh := shM) σ a1 (0 : Int32) (9 : Int32)  (d := d) (by omega)) ?_
    refine ax_if_eqB (tgt := 38) (q := 19) dX12_set_16 (by decide) rfl (fun c2 => ?_) (fun c2 => ?_)
    · refine ax_iconst (q := 39) dX12_set_38 rfl ki_0 ?_
      exact ax_iret dX12_set_39 rfl rfl (k2 c1 c2)
    · refine ax_iload_n (q := 20) (i := 1) dX12_set_19 rfl rfl rfl ?_
      have K4 : ax_W shM (d + 1) mX12_set Q 34 [some (ax_r 0), some (ax_i a0), some (ax_i a1)] [ax_i (if (¬ a0 = 0) then (σ.1 0 29) else (σ.1 0 28))] σ := by
        refine ax_iload_n (q := 35) (i := 2) dX12_set_34 rfl rfl rfl ?_
        refine ax_icmp_ne (tgt := 40) (q := 38) dX12_set_35 (by decide) rfl (fun c5 => ?_) (fun c5 => ?_)
        · refine ax_aload_n (q := 41) (i := 0) dX12_set_40 rfl rfl rfl ?_
          refine ax_iload_n (q := 42) (i := 1) dX12_set_41 rfl rfl rfl ?_
          have K7 : ax_W shM (d + 1) mX12_set Q 53 [some (ax_r 0), some (ax_i a0), some (ax_i a1)] [ax_i (if (¬ a0 = 0) then (σ.1 0 28) else a1), ax_r 0] σ := by
            refine ax_puti (q := 56) (k := 0) (j := 28) dX12_set_53 rfl shM_0 rfl rfl (by decide) fl_X12_62 rfl rfl rfl rfl ?_
            refine ax_aload_n (q := 57) (i := 0) dX12_set_56 rfl rfl rfl ?_
            refine ax_iload_n (q := 58) (i := 1) dX12_set_57 rfl rfl rfl ?_
            refine ax_iconst (q := 59) dX12_set_58 rfl ki_1 ?_
            have K9 : ax_W shM (d + 1) mX12_set Q 70 [some (ax_r 0), some (ax_i a0), some (ax_i a1)] [ax_i (if (¬ a0 = (1 : Int32)) then (σ.1 0 29) else a1), ax_r 0] (ax_ui σ 0 28 (if (¬ a0 = 0) then (σ.1 0 28) else a1)) := by
              refine ax_puti (q := 73) (k := 0) (j := 29) dX12_set_70 rfl shM_0 rfl rfl (by decide) fl_X12_384 rfl rfl rfl rfl ?_
              refine ax_iconst (q := 74) dX12_set_73 rfl ki_1 ?_
              exact ax_iret dX12_set_74 rfl rfl (k3 c1 c2 c5)
            refine ax_icmp_ne (tgt := 66) (q := 62) dX12_set_59 (by decide) rfl (fun c8 => ?_) (fun c8 => ?_)
            · refine ax_aload_n (q := 67) (i := 0) dX12_set_66 rfl rfl rfl ?_
              refine ax_get (q := 70) (k := 0) (j := 29) (v := ax_i (σ.1 0 29)) dX12_set_67 rfl shM_0 rfl rfl rfl (by decide) fl_X12_384 ?_
              exact ax_cv (if_pos c8) K9
            · refine ax_iload_n (q := 63) (i := 2) dX12_set_62 rfl rfl rfl ?_
              refine ax_goto (tgt := 70) dX12_set_63 (by decide) ?_
              exact ax_cv (if_neg c8) K9
          refine ax_if_ne (tgt := 49) (q := 45) dX12_set_42 (by decide) rfl (fun c6 => ?_) (fun c6 => ?_)
          · refine ax_aload_n (q := 50) (i := 0) dX12_set_49 rfl rfl rfl ?_
            refine ax_get (q := 53) (k := 0) (j := 28) (v := ax_i (σ.1 0 28)) dX12_set_50 rfl shM_0 rfl rfl rfl (by decide) fl_X12_62 ?_
            exact ax_cv (if_pos c6) K7
          · refine ax_iload_n (q := 46) (i := 2) dX12_set_45 rfl rfl rfl ?_
            refine ax_goto (tgt := 53) dX12_set_46 (by decide) ?_
            exact ax_cv (if_neg c6) K7
        · refine ax_iconst (q := 39) dX12_set_38 rfl ki_0 ?_
          exact ax_iret dX12_set_39 rfl rfl (k4 c1 c2 c5)
      refine ax_if_ne (tgt := 30) (q := 23) dX12_set_20 (by decide) rfl (fun c3 => ?_) (fun c3 => ?_)
      · refine ax_aload_n (q := 31) (i := 0) dX12_set_30 rfl rfl rfl ?_
        refine ax_get (q := 34) (k := 0) (j := 29) (v := ax_i (σ.1 0 29)) dX12_set_31 rfl shM_0 rfl rfl rfl (by decide) fl_X12_384 ?_
        exact ax_cv (if_pos c3) K4
      · refine ax_aload_n (q := 24) (i := 0) dX12_set_23 rfl rfl rfl ?_
        refine ax_get (q := 27) (k := 0) (j := 28) (v := ax_i (σ.1 0 28)) dX12_set_24 rfl shM_0 rfl rfl rfl (by decide) fl_X12_62 ?_
        refine ax_goto (tgt := 34) dX12_set_27 (by decide) ?_
        exact ax_cv (if_neg c3) K4
set_option maxRecDepth 20000 in
theorem f_X12_draw (σ : ax_S) (a0 : Int32) (h1 : ¬ (Int32.toInt64 a0) = 0) {d : Nat} (hd : 1 ≤ d) : ax_Ct shM d mX12_draw [ax_r 0, ax_i a0] (fun r u => r = some (ax_i (Int64.toInt32 ((((Int64.toUInt64 (((σ.2 0 38) * (6364136223846793005 : Int64)) + (1442695040888963407 : Int64))) >>> ((Int64.toUInt64 (Int32.toInt64 (33 : Int32))) &&& Int64.toUInt64 63)).toInt64) - (((Int64.toUInt64 (((σ.2 0 38) * (6364136223846793005 : Int64)) + (1442695040888963407 : Int64))) >>> ((Int64.toUInt64 (Int32.toInt64 (33 : Int32))) &&& Int64.toUInt64 63)).toInt64) / (Int32.toInt64 a0) * (Int32.toInt64 a0)))) ∧ u = (ax_ul σ 0 38 (((σ.2 0 38) * (6364136223846793005 : Int64)) + (1442695040888963407 : Int64)))) σ := by
  obtain ⟨d, rfl⟩ : ∃ e, d = e + 1 := ⟨d - 1, by omega⟩
  refine ax_Ct.of (lv := [some (ax_r 0), some (ax_i a0)]) (by decide +kernel) (fun ad => Nat.le_of_ble_eq_true rfl) (fun ad => rfl) ?_
  refine ax_aload_n (q := 1) (i := 0) dX12_draw_0 rfl rfl rfl ?_
  refine ax_aload_n (q := 2) (i := 0) dX12_draw_1 rfl rfl rfl ?_
  refine ax_get (q := 5) (k := 0) (j := 38) (v := ax_l (σ.2 0 38)) dX12_draw_2 rfl shM_0 rfl rfl rfl (by decide) fl_X12_387 ?_
  refine ax_ldc2 (q := 8) dX12_draw_5 rfl kc_X12_391 ?_
  refine ax_lmul (q := 9) dX12_draw_8 rfl ?_
  refine ax_ldc2 (q := 12) dX12_draw_9 rfl kc_X12_393 ?_
  refine ax_ladd (q := 13) dX12_draw_12 rfl ?_
  refine ax_putl (q := 16) (k := 0) (j := 38) dX12_draw_13 rfl shM_0 rfl rfl (by decide) fl_X12_387 rfl rfl rfl rfl ?_
  refine ax_aload_n (q := 17) (i := 0) dX12_draw_16 rfl rfl rfl ?_
  refine ax_get (q := 20) (k := 0) (j := 38) (v := ax_l (((σ.2 0 38) * (6364136223846793005 : Int64)) + (1442695040888963407 : Int64))) dX12_draw_17 rfl shM_0 rfl rfl rfl (by decide) fl_X12_387 ?_
  refine ax_bipush (q := 22) dX12_draw_20 rfl kb_33 ?_
  refine ax_lushr (q := 23) dX12_draw_22 rfl ?_
  refine ax_iload_n (q := 24) (i := 1) dX12_draw_23 rfl rfl rfl ?_
  refine ax_i2l (q := 25) dX12_draw_24 rfl ?_
  refine ax_lrem (q := 26) dX12_draw_25 rfl h1 ?_
  refine ax_l2i (q := 27) dX12_draw_26 rfl ?_
  exact ax_iret dX12_draw_27 rfl rfl ⟨rfl, rfl⟩
set_option maxRecDepth 20000 in
theorem s_X12_heights_0 {d : Nat} (hd : 0 ≤ d) {Q : Option ax_V → ax_S → Prop} (σ : ax_S)  (k1 : ax_W shM (d + 1) mX12_heights Q 4 [some (ax_r 0), some (ax_i (0 : Int32)), some (ax_i (0 : Int32))] [] σ) : ax_W shM (d + 1) mX12_heights Q 0 [some (ax_r 0), none, none] [] σ := by
  refine ax_iconst (q := 1) dX12_heights_0 rfl ki_0 ?_
  refine ax_istore_n (q := 2) (i := 1) (lv2 := [some (ax_r 0), some (ax_i (0 : Int32)), none]) dX12_heights_1 rfl rfl (by decide) rfl rfl ?_
  refine ax_iconst (q := 3) dX12_heights_2 rfl ki_0 ?_
  refine ax_istore_n (q := 4) (i := 2) (lv2 := [some (ax_r 0), some (ax_i (0 : Int32)), some (ax_i (0 : Int32))]) dX12_heights_3 rfl rfl (by decide) rfl rfl ?_
  exact k1
set_option maxRecDepth 20000 in
theorem s_X12_heights_4 {d : Nat} (hd : 1 ≤ d) {Q : Option ax_V → ax_S → Prop} (σ : ax_S) (x1 : Int32) (x2 : Int32) (k1 : ((σ.1 0 23) ≤ x2) → Q (some (ax_i x1)) σ) (h2 : (¬ ((σ.1 0 23) ≤ x2)) → vp_in (((4 : Int32) * x2) + (1 : Int32)) 32) (k3 : (¬ ((σ.1 0 23) ≤ x2)) → ax_W shM (d + 1) mX12_heights Q 4 [some (ax_r 0), some (ax_i (x1 + (σ.1 14 (Int32.toNatClampNeg (((4 : Int32) * x2) + (1 : Int32)))))), some (ax_i (x2 + (1 : Int32)))] [] σ) : ax_W shM (d + 1) mX12_heights Q 4 [some (ax_r 0), some (ax_i x1), some (ax_i x2)] [] σ := by
  refine ax_iload_n (q := 5) (i := 2) dX12_heights_4 rfl rfl rfl ?_
  refine ax_aload_n (q := 6) (i := 0) dX12_heights_5 rfl rfl rfl ?_
  refine ax_get (q := 9) (k := 0) (j := 23) (v := ax_i (σ.1 0 23)) dX12_heights_6 rfl shM_0 rfl rfl rfl (by decide) fl_X12_271 ?_
  refine ax_icmp_ge (tgt := 27) (q := 12) dX12_heights_9 (by decide) rfl (fun c1 => ?_) (fun c1 => ?_)
  · refine ax_iload_n (q := 28) (i := 1) dX12_heights_27 rfl rfl rfl ?_
    exact ax_iret dX12_heights_28 rfl rfl (k1 c1)
  · refine ax_iload_n (q := 13) (i := 1) dX12_heights_12 rfl rfl rfl ?_
    refine ax_aload_n (q := 14) (i := 0) dX12_heights_13 rfl rfl rfl ?_
    refine ax_iload_n (q := 15) (i := 2) dX12_heights_14 rfl rfl rfl ?_
    refine ax_iconst (q := 16) dX12_heights_15 rfl ki_1 ?_
    refine ax_callVfi (q := 19) (As := [ax_i x2, ax_i (1 : Int32)]) (st := [ax_i x1]) (x := (σ.1 14 (Int32.toNatClampNeg (((4 : Int32) * x2) + (1 : Int32))))) (σ2 := σ) dX12_heights_16 rfl lk_X12_277 shM_0 rfl rfl rfl rfl (Nat.le_of_ble_eq_true rfl) (f_X12_of σ x2 (1 : Int32) (h2 c1) (d := d) (by omega)) ?_
    refine ax_iadd (q := 20) dX12_heights_19 rfl ?_
    refine ax_istore_n (q := 21) (i := 1) (lv2 := [some (ax_r 0), some (ax_i (x1 + (σ.1 14 (Int32.toNatClampNeg (((4 : Int32) * x2) + (1 : Int32)))))), some (ax_i x2)]) dX12_heights_20 rfl rfl (by decide) rfl rfl ?_
    refine ax_iincK (q := 24) (lv2 := [some (ax_r 0), some (ax_i (x1 + (σ.1 14 (Int32.toNatClampNeg (((4 : Int32) * x2) + (1 : Int32)))))), some (ax_i (x2 + (1 : Int32)))]) dX12_heights_21 rfl rfl ki_1 (by decide) rfl rfl ?_
    refine ax_goto (tgt := 4) dX12_heights_24 (by decide) ?_
    exact (k3 c1)
