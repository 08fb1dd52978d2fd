set_option maxRecDepth 20000 in
theorem s_J7_fill_53178_0 {d : Nat} (hd : 0 ≤ d) {Q : Option ax_V → ax_S → Prop} (σ : ax_S) (r0 nr0 : Nat) (hr0 : shC[r0]? = some (Sum.inr (false, nr0))) (a1 : Int32) (k1 : ax_W shC (d + 1) mJ7_fill_53178 Q 5 [some (ax_r r0), some (ax_i a1), some (ax_i (0 : Int32)), some (ax_i (Int32.ofNat nr0))] [] σ) : ax_W shC (d + 1) mJ7_fill_53178 Q 0 [some (ax_r r0), some (ax_i a1), none, none] [] σ := by
  refine ax_iconst (q := 1) dJ7_fill_53178_0 rfl ki_0 ?_
  refine ax_istore_n (q := 2) (i := 2) (lv2 := [some (ax_r r0), some (ax_i a1), some (ax_i (0 : Int32)), none]) dJ7_fill_53178_1 rfl rfl (by decide) rfl rfl ?_
  refine ax_aload_n (q := 3) (i := 0) dJ7_fill_53178_2 rfl rfl rfl ?_
  refine ax_alen (q := 4) dJ7_fill_53178_3 rfl hr0 ?_
  refine ax_istore_n (q := 5) (i := 3) (lv2 := [some (ax_r r0), some (ax_i a1), some (ax_i (0 : Int32)), some (ax_i (Int32.ofNat nr0))]) dJ7_fill_53178_4 rfl rfl (by decide) rfl rfl ?_
  exact k1
set_option maxRecDepth 20000 in
theorem s_J7_fill_53178_5 {d : Nat} (hd : 0 ≤ d) {Q : Option ax_V → ax_S → Prop} (σ : ax_S) (r0 nr0 : Nat) (hr0 : shC[r0]? = some (Sum.inr (false, nr0))) (x1 : Int32) (x2 : Int32) (x3 : Int32) (k1 : (x3 ≤ x2) → Q none σ) (h2 : (¬ (x3 ≤ x2)) → vp_in x2 nr0) (k3 : (¬ (x3 ≤ x2)) → ax_W shC (d + 1) mJ7_fill_53178 Q 5 [some (ax_r r0), some (ax_i x1), some (ax_i (x2 + (1 : Int32))), some (ax_i x3)] [] (ax_ui σ r0 (Int32.toNatClampNeg x2) x1)) : ax_W shC (d + 1) mJ7_fill_53178 Q 5 [some (ax_r r0), some (ax_i x1), some (ax_i x2), some (ax_i x3)] [] σ := by
  refine ax_iload_n (q := 6) (i := 2) dJ7_fill_53178_5 rfl rfl rfl ?_
  refine ax_iload_n (q := 7) (i := 3) dJ7_fill_53178_6 rfl rfl rfl ?_
  refine ax_icmp_ge (tgt := 20) (q := 10) dJ7_fill_53178_7 (by decide) rfl (fun c1 => ?_) (fun c1 => ?_)
  · exact ax_vret dJ7_fill_53178_20 rfl (k1 c1)
  · refine ax_aload_n (q := 11) (i := 0) dJ7_fill_53178_10 rfl rfl rfl ?_
    refine ax_iload_n (q := 12) (i := 2) dJ7_fill_53178_11 rfl rfl rfl ?_
    refine ax_iload_n (q := 13) (i := 1) dJ7_fill_53178_12 rfl rfl rfl ?_
    refine ax_iast (q := 14) (a := (Int32.toNatClampNeg x2)) dJ7_fill_53178_13 rfl hr0 (h2 c1) rfl ?_
    refine ax_iincK (q := 17) (lv2 := [some (ax_r r0), some (ax_i x1), some (ax_i (x2 + (1 : Int32))), some (ax_i x3)]) dJ7_fill_53178_14 rfl rfl ki_1 (by decide) rfl rfl ?_
    refine ax_goto (tgt := 5) dJ7_fill_53178_17 (by decide) ?_
    exact (k3 c1)
set_option maxRecDepth 20000 in
theorem s_X0_touchAnew_0 {d : Nat} (hd : 0 ≤ d) {Q : Option ax_V → ax_S → Prop} (σ : ax_S)  (k1 : ax_Ct shC d mJ7_fill_53178 [ax_r 31, ax_i (0 : Int32)] (fun r u => r = none ∧ ax_W shC (d + 1) mX0_touchAnew Q 8 [some (ax_r 5), none] [] u) σ) : ax_W shC (d + 1) mX0_touchAnew Q 0 [some (ax_r 5), none] [] σ := by
  refine ax_aload_n (q := 1) (i := 0) dX0_touchAnew_0 rfl rfl rfl ?_
  refine ax_get (q := 4) (k := 5) (j := 8) (v := ax_r 31) dX0_touchAnew_1 rfl shC_5 rfl rfl rfl (by decide) fl_X0_36 ?_
  refine ax_iconst (q := 5) dX0_touchAnew_4 rfl ki_0 ?_
  exact ax_callScv (q := 8) (As := [ax_r 31, ax_i (0 : Int32)]) (st := []) dX0_touchAnew_5 rfl lk_X0_82 rfl rfl (Nat.le_of_ble_eq_true rfl) k1
set_option maxRecDepth 20000 in
theorem s_X0_touchAnew_8 {d : Nat} (hd : 0 ≤ d) {Q : Option ax_V → ax_S → Prop} (σ : ax_S)  (k1 : ax_W shC (d + 1) mX0_touchAnew Q 10 [some (ax_r 5), some (ax_i (0 : Int32))] [] σ) : ax_W shC (d + 1) mX0_touchAnew Q 8 [some (ax_r 5), none] [] σ := by
  refine ax_iconst (q := 9) dX0_touchAnew_8 rfl ki_0 ?_
  refine ax_istore_n (q := 10) (i := 1) (lv2 := [some (ax_r 5), some (ax_i (0 : Int32))]) dX0_touchAnew_9 rfl rfl (by decide) rfl rfl ?_
  exact k1
set_option maxRecDepth 20000 in
theorem s_X0_touchAnew_10 {d : Nat} (hd : 0 ≤ d) {Q : Option ax_V → ax_S → Prop} (σ : ax_S) (x1 : Int32) (k1 : ((σ.1 5 10) ≤ x1) → Q none σ) (h2 : (¬ ((σ.1 5 10) ≤ x1)) → vp_in x1 17) (h3 : (¬ ((σ.1 5 10) ≤ x1)) → vp_in (σ.1 28 (Int32.toNatClampNeg x1)) 8) (h4 : (¬ ((σ.1 5 10) ≤ x1)) → vp_in (σ.1 29 (Int32.toNatClampNeg x1)) 8) (k5 : (¬ ((σ.1 5 10) ≤ x1)) → ax_W shC (d + 1) mX0_touchAnew Q 10 [some (ax_r 5), some (ax_i (x1 + (1 : Int32)))] [] (ax_ui (ax_ui σ 31 (Int32.toNatClampNeg (σ.1 28 (Int32.toNatClampNeg x1))) ((σ.1 31 (Int32.toNatClampNeg (σ.1 28 (Int32.toNatClampNeg x1)))) ||| ((1 : Int32) <<< (x1 &&& 31)))) 31 (Int32.toNatClampNeg (σ.1 29 (Int32.toNatClampNeg x1))) (((ax_ui σ 31 (Int32.toNatClampNeg (σ.1 28 (Int32.toNatClampNeg x1))) ((σ.1 31 (Int32.toNatClampNeg (σ.1 28 (Int32.toNatClampNeg x1)))) ||| ((1 : Int32) <<< (x1 &&& 31)))).1 31 (Int32.toNatClampNeg (σ.1 29 (Int32.toNatClampNeg x1)))) ||| ((1 : Int32) <<< (x1 &&& 31))))) : ax_W shC (d + 1) mX0_touchAnew Q 10 [some (ax_r 5), some (ax_i x1)] [] σ := by
  refine ax_iload_n (q := 11) (i := 1) dX0_touchAnew_10 rfl rfl rfl ?_
  refine ax_aload_n (q := 12) (i := 0) dX0_touchAnew_11 rfl rfl rfl ?_
  refine ax_get (q := 15) (k := 5) (j := 10) (v := ax_i (σ.1 5 10)) dX0_touchAnew_12 rfl shC_5 rfl rfl rfl (by decide) fl_X0_49 ?_
  refine ax_icmp_ge (tgt := 58) (q := 18) dX0_touchAnew_15 (by decide) rfl (fun c1 => ?_) (fun c1 => ?_)
  · exact ax_vret dX0_touchAnew_58 rfl (k1 c1)
  · refine ax_aload_n (q := 19) (i := 0) dX0_touchAnew_18 rfl rfl rfl ?_
    refine ax_get (q := 22) (k := 5) (j := 8) (v := ax_r 31) dX0_touchAnew_19 rfl shC_5 rfl rfl rfl (by decide) fl_X0_36 ?_
    refine ax_aload_n (q := 23) (i := 0) dX0_touchAnew_22 rfl rfl rfl ?_
    refine ax_get (q := 26) (k := 5) (j := 5) (v := ax_r 28) dX0_touchAnew_23 rfl shC_5 rfl rfl rfl (by decide) fl_X0_27 ?_
    refine ax_iload_n (q := 27) (i := 1) dX0_touchAnew_26 rfl rfl rfl ?_
    refine ax_iald (q := 28) (a := (Int32.toNatClampNeg x1)) (v := (σ.1 28 (Int32.toNatClampNeg x1))) dX0_touchAnew_27 rfl shC_28 (h2 c1) rfl rfl ?_
    refine ax_dup2_11 (q := 29) dX0_touchAnew_28 rfl ?_
    refine ax_iald (q := 30) (a := (Int32.toNatClampNeg (σ.1 28 (Int32.toNatClampNeg x1)))) (v := (σ.1 31 (Int32.toNatClampNeg (σ.1 28 (Int32.toNatClampNeg x1))))) dX0_touchAnew_29 rfl shC_31 (h3 c1) rfl rfl ?_
    refine ax_iconst (q := 31) dX0_touchAnew_30 rfl ki_1 ?_
    refine ax_iload_n (q := 32) (i := 1) dX0_touchAnew_31 rfl rfl rfl ?_
    refine ax_ishl (q := 33) dX0_touchAnew_32 rfl ?_
    refine ax_ior (q := 34) dX0_touchAnew_33 rfl ?_
    refine ax_iast (q := 35) (a := (Int32.toNatClampNeg (σ.1 28 (Int32.toNatClampNeg x1)))) dX0_touchAnew_34 rfl shC_31 (h3 c1) rfl ?_
    refine ax_aload_n (q := 36) (i := 0) dX0_touchAnew_35 rfl rfl rfl ?_
    refine ax_get (q := 39) (k := 5) (j := 8) (v := ax_r 31) dX0_touchAnew_36 rfl shC_5 rfl rfl rfl (by decide) fl_X0_36 ?_
    refine ax_aload_n (q := 40) (i := 0) dX0_touchAnew_39 rfl rfl rfl ?_
    refine ax_get (q := 43) (k := 5) (j := 6) (v := ax_r 29) dX0_touchAnew_40 rfl shC_5 rfl rfl rfl (by decide) fl_X0_30 ?_
    refine ax_iload_n (q := 44) (i := 1) dX0_touchAnew_43 rfl rfl rfl ?_
    refine ax_iald (q := 45) (a := (Int32.toNatClampNeg x1)) (v := (σ.1 29 (Int32.toNatClampNeg x1))) dX0_touchAnew_44 rfl shC_29 (h2 c1) rfl rfl ?_
    refine ax_dup2_11 (q := 46) dX0_touchAnew_45 rfl ?_
    refine ax_iald (q := 47) (a := (Int32.toNatClampNeg (σ.1 29 (Int32.toNatClampNeg x1)))) (v := ((ax_ui σ 31 (Int32.toNatClampNeg (σ.1 28 (Int32.toNatClampNeg x1))) ((σ.1 31 (Int32.toNatClampNeg (σ.1 28 (Int32.toNatClampNeg x1)))) ||| ((1 : Int32) <<< (x1 &&& 31)))).1 31 (Int32.toNatClampNeg (σ.1 29 (Int32.toNatClampNeg x1))))) dX0_touchAnew_46 rfl shC_31 (h4 c1) rfl rfl ?_
    refine ax_iconst (q := 48) dX0_touchAnew_47 rfl ki_1 ?_
    refine ax_iload_n (q := 49) (i := 1) dX0_touchAnew_48 rfl rfl rfl ?_
    refine ax_ishl (q := 50) dX0_touchAnew_49 rfl ?_
    refine ax_ior (q := 51) dX0_touchAnew_50 rfl ?_
    refine ax_iast (q := 52) (a := (Int32.toNatClampNeg (σ.1 29 (Int32.toNatClampNeg x1)))) dX0_touchAnew_51 rfl shC_31 (h4 c1) rfl ?_
    refine ax_iincK (q := 55) (lv2 := [some (ax_r 5), some (ax_i (x1 + (1 : Int32)))]) dX0_touchAnew_52 rfl rfl ki_1 (by decide) rfl rfl ?_
    refine ax_goto (tgt := 10) dX0_touchAnew_55 (by decide) ?_
    exact (k5 c1)
set_option maxRecDepth 20000 in
theorem s_X0_take_0 {d : Nat} (hd : 0 ≤ d) {Q : Option ax_V → ax_S → Prop} (σ : ax_S)  (k1 : ax_W shC (d + 1) mX0_take Q 48 [some (ax_r 5), some (ax_r 2), some (ax_i (0 : Int32)), none] [] (ax_ui (ax_ui (ax_ui (ax_ui (ax_ui (ax_ui σ 5 9 (σ.1 2 5)) 5 10 (σ.1 2 6)) 5 11 (0 : Int32)) 5 12 (σ.1 15 0)) 5 13 (σ.1 15 1)) 5 14 (0 : Int32))) : ax_W shC (d + 1) mX0_take Q 0 [some (ax_r 5), some (ax_r 2), none, none] [] σ := by
  refine ax_aload_n (q := 1) (i := 0) dX0_take_0 rfl rfl rfl ?_
  refine ax_aload_n (q := 2) (i := 1) dX0_take_1 rfl rfl rfl ?_
  refine ax_get (q := 5) (k := 2) (j := 5) (v := ax_i (σ.1 2 5)) dX0_take_2 rfl shC_2 rfl rfl rfl (by decide) fl_X0_39 ?_
  refine ax_puti (q := 8) (k := 5) (j := 9) dX0_take_5 rfl shC_5 rfl rfl (by decide) fl_X0_45 rfl rfl rfl rfl ?_
  refine ax_aload_n (q := 9) (i := 0) dX0_take_8 rfl rfl rfl ?_
  refine ax_aload_n (q := 10) (i := 1) dX0_take_9 rfl rfl rfl ?_
  refine ax_get (q := 13) (k := 2) (j := 6) (v := ax_i (σ.1 2 6)) dX0_take_10 rfl shC_2 rfl rfl rfl (by decide) fl_X0_46 ?_
  refine ax_puti (q := 16) (k := 5) (j := 10) dX0_take_13 rfl shC_5 rfl rfl (by decide) fl_X0_49 rfl rfl rfl rfl ?_
  refine ax_aload_n (q := 17) (i := 0) dX0_take_16 rfl rfl rfl ?_
  refine ax_iconst (q := 18) dX0_take_17 rfl ki_0 ?_
  refine ax_puti (q := 21) (k := 5) (j := 11) dX0_take_18 rfl shC_5 rfl rfl (by decide) fl_X0_50 rfl rfl rfl rfl ?_
  refine ax_aload_n (q := 22) (i := 0) dX0_take_21 rfl rfl rfl ?_
  refine ax_aload_n (q := 23) (i := 1) dX0_take_22 rfl rfl rfl ?_
  refine ax_get (q := 26) (k := 2) (j := 1) (v := ax_r 15) dX0_take_23 rfl shC_2 rfl rfl rfl (by decide) fl_X0_53 ?_
  refine ax_iconst (q := 27) dX0_take_26 rfl ki_0 ?_
  refine ax_iald (q := 28) (a := 0) (v := (σ.1 15 0)) dX0_take_27 rfl shC_15 (ax_inl 0 2 (by decide) (by decide)) rfl rfl ?_
  refine ax_puti (q := 31) (k := 5) (j := 12) dX0_take_28 rfl shC_5 rfl rfl (by decide) fl_X0_56 rfl rfl rfl rfl ?_
  refine ax_aload_n (q := 32) (i := 0) dX0_take_31 rfl rfl rfl ?_
  refine ax_aload_n (q := 33) (i := 1) dX0_take_32 rfl rfl rfl ?_
  refine ax_get (q := 36) (k := 2) (j := 1) (v := ax_r 15) dX0_take_33 rfl shC_2 rfl rfl rfl (by decide) fl_X0_53 ?_
  refine ax_iconst (q := 37) dX0_take_36 rfl ki_1 ?_
  refine ax_iald (q := 38) (a := 1) (v := (σ.1 15 1)) dX0_take_37 rfl shC_15 (ax_inl 1 2 (by decide) (by decide)) rfl rfl ?_
  refine ax_puti (q := 41) (k := 5) (j := 13) dX0_take_38 rfl shC_5 rfl rfl (by decide) fl_X0_59 rfl rfl rfl rfl ?_
  refine ax_aload_n (q := 42) (i := 0) dX0_take_41 rfl rfl rfl ?_
  refine ax_iconst (q := 43) dX0_take_42 rfl ki_0 ?_
  refine ax_puti (q := 46) (k := 5) (j := 14) dX0_take_43 rfl shC_5 rfl rfl (by decide) fl_X0_62 rfl rfl rfl rfl ?_
  refine ax_iconst (q := 47) dX0_take_46 rfl ki_0 ?_
  refine ax_istore_n (q := 48) (i := 2) (lv2 := [some (ax_r 5), some (ax_r 2), some (ax_i (0 : Int32)), none]) dX0_take_47 rfl rfl (by decide) rfl rfl ?_
  exact k1
set_option maxRecDepth 20000 in
theorem s_X0_take_48 {d : Nat} (hd : 0 ≤ d) {Q : Option ax_V → ax_S → Prop} (σ : ax_S) (x2 : Int32) (k1 : ((σ.1 5 9) ≤ x2) → ax_W shC (d + 1) mX0_take Q 129 [some (ax_r 5), some (ax_r 2), some (ax_i (0 : Int32)), none] [] σ) (h2 : (¬ ((σ.1 5 9) ≤ x2)) → vp_in (x2 * (4 : Int32)) 32) (h3 : (¬ ((σ.1 5 9) ≤ x2)) → vp_in x2 8) (h4 : (¬ ((σ.1 5 9) ≤ x2)) → vp_in ((x2 * (4 : Int32)) + (1 : Int32)) 32) (h5 : (¬ ((σ.1 5 9) ≤ x2)) → vp_in ((x2 * (4 : Int32)) + (2 : Int32)) 32) (h6 : (¬ ((σ.1 5 9) ≤ x2)) → vp_in ((x2 * (4 : Int32)) + (3 : Int32)) 32) (k7 : (¬ ((σ.1 5 9) ≤ x2)) → ax_W shC (d + 1) mX0_take Q 48 [some (ax_r 5), some (ax_r 2), some (ax_i (x2 + (1 : Int32))), none] [] (ax_ui (ax_ui (ax_ui (ax_ui (ax_ui σ 23 (Int32.toNatClampNeg x2) (σ.1 16 (Int32.toNatClampNeg (x2 * (4 : Int32))))) 24 (Int32.toNatClampNeg x2) (σ.1 16 (Int32.toNatClampNeg ((x2 * (4 : Int32)) + (1 : Int32))))) 25 (Int32.toNatClampNeg x2) (σ.1 16 (Int32.toNatClampNeg ((x2 * (4 : Int32)) + (2 : Int32))))) 26 (Int32.toNatClampNeg x2) (σ.1 16 (Int32.toNatClampNeg ((x2 * (4 : Int32)) + (3 : Int32))))) 27 (Int32.toNatClampNeg x2) (0 : Int32))) : ax_W shC (d + 1) mX0_take Q 48 [some (ax_r 5), some (ax_r 2), some (ax_i x2), none] [] σ := by
  refine ax_iload_n (q := 49) (i := 2) dX0_take_48 rfl rfl rfl ?_
  refine ax_aload_n (q := 50) (i := 0) dX0_take_49 rfl rfl rfl ?_
  refine ax_get (q := 53) (k := 5) (j := 9) (v := ax_i (σ.1 5 9)) dX0_take_50 rfl shC_5 rfl rfl rfl (by decide) fl_X0_45 ?_
  refine ax_icmp_ge (tgt := 127) (q := 56) dX0_take_53 (by decide) rfl (fun c1 => ?_) (fun c1 => ?_)
  · refine ax_iconst (q := 128) dX0_take_127 rfl ki_0 ?_
    refine ax_istore_n (q := 129) (i := 2) (lv2 := [some (ax_r 5), some (ax_r 2), some (ax_i (0 : Int32)), none]) dX0_take_128 rfl rfl (by decide) rfl rfl ?_
    exact (k1 c1)
  · refine ax_iload_n (q := 57) (i := 2) dX0_take_56 rfl rfl rfl ?_
    refine ax_iconst (q := 58) dX0_take_57 rfl ki_4 ?_
    refine ax_imul (q := 59) dX0_take_58 rfl ?_
    refine ax_istore_n (q := 60) (i := 3) (lv2 := [some (ax_r 5), some (ax_r 2), some (ax_i x2), some (ax_i (x2 * (4 : Int32)))]) dX0_take_59 rfl rfl (by decide) rfl rfl ?_
    refine ax_aload_n (q := 61) (i := 0) dX0_take_60 rfl rfl rfl ?_
    refine ax_get (q := 64) (k := 5) (j := 0) (v := ax_r 23) dX0_take_61 rfl shC_5 rfl rfl rfl (by decide) fl_X0_9 ?_
    refine ax_iload_n (q := 65) (i := 2) dX0_take_64 rfl rfl rfl ?_
    refine ax_aload_n (q := 66) (i := 1) dX0_take_65 rfl rfl rfl ?_
    refine ax_get (q := 69) (k := 2) (j := 2) (v := ax_r 16) dX0_take_66 rfl shC_2 rfl rfl rfl (by decide) fl_X0_65 ?_
    refine ax_iload_n (q := 70) (i := 3) dX0_take_69 rfl rfl rfl ?_
    refine ax_iald (q := 71) (a := (Int32.toNatClampNeg (x2 * (4 : Int32)))) (v := (σ.1 16 (Int32.toNatClampNeg (x2 * (4 : Int32))))) dX0_take_70 rfl shC_16 (h2 c1) rfl rfl ?_
    refine ax_iast (q := 72) (a := (Int32.toNatClampNeg x2)) dX0_take_71 rfl shC_23 (h3 c1) rfl ?_
    refine ax_aload_n (q := 73) (i := 0) dX0_take_72 rfl rfl rfl ?_
    refine ax_get (q := 76) (k := 5) (j := 1) (v := ax_r 24) dX0_take_73 rfl shC_5 rfl rfl rfl (by decide) fl_X0_15 ?_
    refine ax_iload_n (q := 77) (i := 2) dX0_take_76 rfl rfl rfl ?_
    refine ax_aload_n (q := 78) (i := 1) dX0_take_77 rfl rfl rfl ?_
    refine ax_get (q := 81) (k := 2) (j := 2) (v := ax_r 16) dX0_take_78 rfl shC_2 rfl rfl rfl (by decide) fl_X0_65 ?_
    refine ax_iload_n (q := 82) (i := 3) dX0_take_81 rfl rfl rfl ?_
    refine ax_iconst (q := 83) dX0_take_82 rfl ki_1 ?_
    refine ax_iadd (q := 84) dX0_take_83 rfl ?_
    refine ax_iald (q := 85) (a := (Int32.toNatClampNeg ((x2 * (4 : Int32)) + (1 : Int32)))) (v := (σ.1 16 (Int32.toNatClampNeg ((x2 * (4 : Int32)) + (1 : Int32))))) dX0_take_84 rfl shC_16 (h4 c1) rfl rfl ?_
    refine ax_iast (q := 86) (a := (Int32.toNatClampNeg x2)) dX0_take_85 rfl shC_24 (h3 c1) rfl ?_
    refine ax_aload_n (q := 87) (i := 0) dX0_take_86 rfl rfl rfl ?_
    refine ax_get (q := 90) (k := 5) (j := 2) (v := ax_r 25) dX0_take_87 rfl shC_5 rfl rfl rfl (by decide) fl_X0_18 ?_
    refine ax_iload_n (q := 91) (i := 2) dX0_take_90 rfl rfl rfl ?_
    refine ax_aload_n (q := 92) (i := 1) dX0_take_91 rfl rfl rfl ?_
    refine ax_get (q := 95) (k := 2) (j := 2) (v := ax_r 16) dX0_take_92 rfl shC_2 rfl rfl rfl (by decide) fl_X0_65 ?_
    refine ax_iload_n (q := 96) (i := 3) dX0_take_95 rfl rfl rfl ?_
    refine ax_iconst (q := 97) dX0_take_96 rfl ki_2 ?_
    refine ax_iadd (q := 98) dX0_take_97 rfl ?_
    refine ax_iald (q := 99) (a := (Int32.toNatClampNeg ((x2 * (4 : Int32)) + (2 : Int32)))) (v := (σ.1 16 (Int32.toNatClampNeg ((x2 * (4 : Int32)) + (2 : Int32))))) dX0_take_98 rfl shC_16 (h5 c1) rfl rfl ?_
    refine ax_iast (q := 100) (a := (Int32.toNatClampNeg x2)) dX0_take_99 rfl shC_25 (h3 c1) rfl ?_
    refine ax_aload_n (q := 101) (i := 0) dX0_take_100 rfl rfl rfl ?_
    refine ax_get (q := 104) (k := 5) (j := 3) (v := ax_r 26) dX0_take_101 rfl shC_5 rfl rfl rfl (by decide) fl_X0_21 ?_
    refine ax_iload_n (q := 105) (i := 2) dX0_take_104 rfl rfl rfl ?_
    refine ax_aload_n (q := 106) (i := 1) dX0_take_105 rfl rfl rfl ?_
    refine ax_get (q := 109) (k := 2) (j := 2) (v := ax_r 16) dX0_take_106 rfl shC_2 rfl rfl rfl (by decide) fl_X0_65 ?_
    refine ax_iload_n (q := 110) (i := 3) dX0_take_109 rfl rfl rfl ?_
    refine ax_iconst (q := 111) dX0_take_110 rfl ki_3 ?_
    refine ax_iadd (q := 112) dX0_take_111 rfl ?_
    refine ax_iald (q := 113) (a := (Int32.toNatClampNeg ((x2 * (4 : Int32)) + (3 : Int32)))) (v := (σ.1 16 (Int32.toNatClampNeg ((x2 * (4 : Int32)) + (3 : Int32))))) dX0_take_112 rfl shC_16 (h6 c1) rfl rfl ?_
    refine ax_iast (q := 114) (a := (Int32.toNatClampNeg x2)) dX0_take_113 rfl shC_26 (h3 c1) rfl ?_
    refine ax_aload_n (q := 115) (i := 0) dX0_take_114 rfl rfl rfl ?_
    refine ax_get (q := 118) (k := 5) (j := 4) (v := ax_r 27) dX0_take_115 rfl shC_5 rfl rfl rfl (by decide) fl_X0_24 ?_
    refine ax_iload_n (q := 119) (i := 2) dX0_take_118 rfl rfl rfl ?_
    refine ax_iconst (q := 120) dX0_take_119 rfl ki_0 ?_
    refine ax_iast (q := 121) (a := (Int32.toNatClampNeg x2)) dX0_take_120 rfl shC_27 (h3 c1) rfl ?_
    refine ax_iincK (q := 124) (lv2 := [some (ax_r 5), some (ax_r 2), some (ax_i (x2 + (1 : Int32))), some (ax_i (x2 * (4 : Int32)))]) dX0_take_121 rfl rfl ki_1 (by decide) rfl rfl ?_
    refine ax_goto (tgt := 48) dX0_take_124 (by decide) ?_
    refine ax_fg (lv2 := [some (ax_r 5), some (ax_r 2), some (ax_i (x2 + (1 : Int32))), none]) ⟨rfl, rfl, rfl, trivial⟩ ?_
    exact (k7 c1)
set_option maxRecDepth 20000 in
theorem s_X0_take_129 {d : Nat} (hd : 0 ≤ d) {Q : Option ax_V → ax_S → Prop} (σ : ax_S) (x2 : Int32) (k1 : ((σ.1 5 10) ≤ x2) → ax_Ct shC d mX0_touchAnew [ax_r 5] (fun r u => r = none ∧ ax_W shC (d + 1) mX0_take Q 191 [none, none, none, none] [] u) σ) (h2 : (¬ ((σ.1 5 10) ≤ x2)) → vp_in (x2 * (3 : Int32)) 24) (h3 : (¬ ((σ.1 5 10) ≤ x2)) → vp_in x2 17) (h4 : (¬ ((σ.1 5 10) ≤ x2)) → vp_in ((x2 * (3 : Int32)) + (1 : Int32)) 24) (h5 : (¬ ((σ.1 5 10) ≤ x2)) → vp_in ((x2 * (3 : Int32)) + (2 : Int32)) 24) (k6 : (¬ ((σ.1 5 10) ≤ x2)) → ax_W shC (d + 1) mX0_take Q 129 [some (ax_r 5), some (ax_r 2), some (ax_i (x2 + (1 : Int32))), none] [] (ax_ui (ax_ui (ax_ui σ 28 (Int32.toNatClampNeg x2) (σ.1 17 (Int32.toNatClampNeg (x2 * (3 : Int32))))) 29 (Int32.toNatClampNeg x2) (σ.1 17 (Int32.toNatClampNeg ((x2 * (3 : Int32)) + (1 : Int32))))) 30 (Int32.toNatClampNeg x2) (σ.1 17 (Int32.toNatClampNeg ((x2 * (3 : Int32)) + (2 : Int32)))))) : ax_W shC (d + 1) mX0_take Q 129 [some (ax_r 5), some (ax_r 2), some (ax_i x2), none] [] σ := by
  refine ax_iload_n (q := 130) (i := 2) dX0_take_129 rfl rfl rfl ?_
  refine ax_aload_n (q := 131) (i := 0) dX0_take_130 rfl rfl rfl ?_
  refine ax_get (q := 134) (k := 5) (j := 10) (v := ax_i (σ.1 5 10)) dX0_take_131 rfl shC_5 rfl rfl rfl (by decide) fl_X0_49 ?_
  refine ax_icmp_ge (tgt := 187) (q := 137) dX0_take_134 (by decide) rfl (fun c1 => ?_) (fun c1 => ?_)
  · refine ax_aload_n (q := 188) (i := 0) dX0_take_187 rfl rfl rfl ?_
    refine ax_fg (lv2 := [none, none, none, none]) trivial ?_
    exact ax_callVcv (q := 191) (As := []) (st := []) dX0_take_188 rfl lk_X0_71 shC_5 rfl rfl rfl rfl (Nat.le_of_ble_eq_true rfl) (k1 c1)
  · refine ax_iload_n (q := 138) (i := 2) dX0_take_137 rfl rfl rfl ?_
    refine ax_iconst (q := 139) dX0_take_138 rfl ki_3 ?_
    refine ax_imul (q := 140) dX0_take_139 rfl ?_
    refine ax_istore_n (q := 141) (i := 3) (lv2 := [some (ax_r 5), some (ax_r 2), some (ax_i x2), some (ax_i (x2 * (3 : Int32)))]) dX0_take_140 rfl rfl (by decide) rfl rfl ?_
    refine ax_aload_n (q := 142) (i := 0) dX0_take_141 rfl rfl rfl ?_
    refine ax_get (q := 145) (k := 5) (j := 5) (v := ax_r 28) dX0_take_142 rfl shC_5 rfl rfl rfl (by decide) fl_X0_27 ?_
    refine ax_iload_n (q := 146) (i := 2) dX0_take_145 rfl rfl rfl ?_
    refine ax_aload_n (q := 147) (i := 1) dX0_take_146 rfl rfl rfl ?_
    refine ax_get (q := 150) (k := 2) (j := 3) (v := ax_r 17) dX0_take_147 rfl shC_2 rfl rfl rfl (by decide) fl_X0_68 ?_
    refine ax_iload_n (q := 151) (i := 3) dX0_take_150 rfl rfl rfl ?_
    refine ax_iald (q := 152) (a := (Int32.toNatClampNeg (x2 * (3 : Int32)))) (v := (σ.1 17 (Int32.toNatClampNeg (x2 * (3 : Int32))))) dX0_take_151 rfl shC_17 (h2 c1) rfl rfl ?_
    refine ax_iast (q := 153) (a := (Int32.toNatClampNeg x2)) dX0_take_152 rfl shC_28 (h3 c1) rfl ?_
    refine ax_aload_n (q := 154) (i := 0) dX0_take_153 rfl rfl rfl ?_
    refine ax_get (q := 157) (k := 5) (j := 6) (v := ax_r 29) dX0_take_154 rfl shC_5 rfl rfl rfl (by decide) fl_X0_30 ?_
    refine ax_iload_n (q := 158) (i := 2) dX0_take_157 rfl rfl rfl ?_
    refine ax_aload_n (q := 159) (i := 1) dX0_take_158 rfl rfl rfl ?_
    refine ax_get (q := 162) (k := 2) (j := 3) (v := ax_r 17) dX0_take_159 rfl shC_2 rfl rfl rfl (by decide) fl_X0_68 ?_
    refine ax_iload_n (q := 163) (i := 3) dX0_take_162 rfl rfl rfl ?_
    refine ax_iconst (q := 164) dX0_take_163 rfl ki_1 ?_
    refine ax_iadd (q := 165) dX0_take_164 rfl ?_
    refine ax_iald (q := 166) (a := (Int32.toNatClampNeg ((x2 * (3 : Int32)) + (1 : Int32)))) (v := (σ.1 17 (Int32.toNatClampNeg ((x2 * (3 : Int32)) + (1 : Int32))))) dX0_take_165 rfl shC_17 (h4 c1) rfl rfl ?_
    refine ax_iast (q := 167) (a := (Int32.toNatClampNeg x2)) dX0_take_166 rfl shC_29 (h3 c1) rfl ?_
    refine ax_aload_n (q := 168) (i := 0) dX0_take_167 rfl rfl rfl ?_
    refine ax_get (q := 171) (k := 5) (j := 7) (v := ax_r 30) dX0_take_168 rfl shC_5 rfl rfl rfl (by decide) fl_X0_33 ?_
    refine ax_iload_n (q := 172) (i := 2) dX0_take_171 rfl rfl rfl ?_
    refine ax_aload_n (q := 173) (i := 1) dX0_take_172 rfl rfl rfl ?_
    refine ax_get (q := 176) (k := 2) (j := 3) (v := ax_r 17) dX0_take_173 rfl shC_2 rfl rfl rfl (by decide) fl_X0_68 ?_
    refine ax_iload_n (q := 177) (i := 3) dX0_take_176 rfl rfl rfl ?_
    refine ax_iconst (q := 178) dX0_take_177 rfl ki_2 ?_
    refine ax_iadd (q := 179) dX0_take_178 rfl ?_
    refine ax_iald (q := 180) (a := (Int32.toNatClampNeg ((x2 * (3 : Int32)) + (2 : Int32)))) (v := (σ.1 17 (Int32.toNatClampNeg ((x2 * (3 : Int32)) + (2 : Int32))))) dX0_take_179 rfl shC_17 (h5 c1) rfl rfl ?_
    refine ax_iast (q := 181) (a := (Int32.toNatClampNeg x2)) dX0_take_180 rfl shC_30 (h3 c1) rfl ?_
    refine ax_iincK (q := 184) (lv2 := [some (ax_r 5), some (ax_r 2), some (ax_i (x2 + (1 : Int32))), some (ax_i (x2 * (3 : Int32)))]) dX0_take_181 rfl rfl ki_1 (by decide) rfl rfl ?_
    refine ax_goto (tgt := 129) dX0_take_184 (by decide) ?_
    refine ax_fg (lv2 := [some (ax_r 5), some (ax_r 2), some (ax_i (x2 + (1 : Int32))), none]) ⟨rfl, rfl, rfl, trivial⟩ ?_
    exact (k6 c1)
set_option maxRecDepth 20000 in
theorem s_X0_take_191 {d : Nat} (hd : 0 ≤ d) {Q : Option ax_V → ax_S → Prop} (σ : ax_S)  (k1 : Q none σ) : ax_W shC (d + 1) mX0_take Q 191 [none, none, none, none] [] σ := by
  exact ax_vret dX0_take_191 rfl k1
set_option maxRecDepth 20000 in
theorem f_X11_bitOf {sh : List ax_H} (σ : ax_S) (a0 : Int32) (a1 : Int32)  {d : Nat} (hd : 1 ≤ d) : ax_Ct sh d mX11_bitOf [ax_i a0, ax_i a1] (fun r u => r = some (ax_i ((a0 >>> (a1 &&& 31)) &&& (1 : Int32))) ∧ u = σ) σ := by
  obtain ⟨d, rfl⟩ : ∃ e, d = e + 1 := ⟨d - 1, by omega⟩
  refine ax_Ct.of (lv := [some (ax_i a0), some (ax_i a1)]) (by decide +kernel) (fun ad => Nat.le_of_ble_eq_true rfl) (fun ad => rfl) ?_
  refine ax_iload_n (q := 1) (i := 0) dX11_bitOf_0 rfl rfl rfl ?_
  refine ax_iload_n (q := 2) (i := 1) dX11_bitOf_1 rfl rfl rfl ?_
  refine ax_ishr (q := 3) dX11_bitOf_2 rfl ?_
  refine ax_iconst (q := 4) dX11_bitOf_3 rfl ki_1 ?_
  refine ax_iand (q := 5) dX11_bitOf_4 rfl ?_
  exact ax_iret dX11_bitOf_5 rfl rfl ⟨rfl, rfl⟩
set_option maxRecDepth 20000 in
theorem s_X0_write_0 {d : Nat} (hd : 0 ≤ d) {Q : Option ax_V → ax_S → Prop} (σ : ax_S) (r0 nr0 : Nat) (hr0 : shC[r0]? = some (Sum.inr (false, nr0))) (a1 : Int32) (k1 : ax_W shC (d + 1) mX0_write Q 2 [some (ax_r 5), some (ax_r r0), some (ax_i a1), some (ax_i (0 : Int32)), none] [] σ) : ax_W shC (d + 1) mX0_write Q 0 [some (ax_r 5), some (ax_r r0), some (ax_i a1), none, none] [] σ := by
  refine ax_iconst (q := 1) dX0_write_0 rfl ki_0 ?_
  refine ax_istore_n (q := 2) (i := 3) (lv2 := [some (ax_r 5), some (ax_r r0), some (ax_i a1), some (ax_i (0 : Int32)), none]) dX0_write_1 rfl rfl (by decide) rfl rfl ?_
  exact k1
set_option maxRecDepth 20000 in
theorem s_X0_write_2 {d : Nat} (hd : 0 ≤ d) {Q : Option ax_V → ax_S → Prop} (σ : ax_S) (r0 nr0 : Nat) (hr0 : shC[r0]? = some (Sum.inr (false, nr0))) (x2 : Int32) (x3 : Int32) (k1 : ((8 : Int32) ≤ x3) → ax_W shC (d + 1) mX0_write Q 47 [some (ax_r 5), some (ax_r r0), none, some (ax_i (x2 + (16 : Int32))), some (ax_i (0 : Int32))] [] σ) (h2 : (¬ ((8 : Int32) ≤ x3)) → vp_in x3 8) (h3 : (¬ ((8 : Int32) ≤ x3)) → vp_in (x2 + x3) nr0) (h4 : (¬ ((8 : Int32) ≤ x3)) → vp_in ((x2 + (8 : Int32)) + x3) nr0) (k5 : (¬ ((8 : Int32) ≤ x3)) → ax_W shC (d + 1) mX0_write Q 2 [some (ax_r 5), some (ax_r r0), some (ax_i x2), some (ax_i (x3 + (1 : Int32))), none] [] (ax_ui (ax_ui σ r0 (Int32.toNatClampNeg (x2 + x3)) (σ.1 25 (Int32.toNatClampNeg x3))) r0 (Int32.toNatClampNeg ((x2 + (8 : Int32)) + x3)) ((ax_ui σ r0 (Int32.toNatClampNeg (x2 + x3)) (σ.1 25 (Int32.toNatClampNeg x3))).1 27 (Int32.toNatClampNeg x3)))) : ax_W shC (d + 1) mX0_write Q 2 [some (ax_r 5), some (ax_r r0), some (ax_i x2), some (ax_i x3), none] [] σ := by
  refine ax_iload_n (q := 3) (i := 3) dX0_write_2 rfl rfl rfl ?_
  refine ax_bipush (q := 5) dX0_write_3 rfl kb_8 ?_
  refine ax_icmp_ge (tgt := 39) (q := 8) dX0_write_5 (by decide) rfl (fun c1 => ?_) (fun c1 => ?_)
  · refine ax_iload_n (q := 40) (i := 2) dX0_write_39 rfl rfl rfl ?_
    refine ax_bipush (q := 42) dX0_write_40 rfl kb_16 ?_
    refine ax_iadd (q := 43) dX0_write_42 rfl ?_
    refine ax_istore_n (q := 44) (i := 3) (lv2 := [some (ax_r 5), some (ax_r r0), some (ax_i x2), some (ax_i (x2 + (16 : Int32))), none]) dX0_write_43 rfl rfl (by decide) rfl rfl ?_
    refine ax_iconst (q := 45) dX0_write_44 rfl ki_0 ?_
    refine ax_istore (q := 47) (lv2 := [some (ax_r 5), some (ax_r r0), some (ax_i x2), some (ax_i (x2 + (16 : Int32))), some (ax_i (0 : Int32))]) dX0_write_45 rfl (by decide) rfl rfl ?_
    refine ax_fg (lv2 := [some (ax_r 5), some (ax_r r0), none, some (ax_i (x2 + (16 : Int32))), some (ax_i (0 : Int32))]) ⟨rfl, rfl, rfl, rfl, trivial⟩ ?_
    exact (k1 c1)
  · refine ax_aload_n (q := 9) (i := 1) dX0_write_8 rfl rfl rfl ?_
    refine ax_iload_n (q := 10) (i := 2) dX0_write_9 rfl rfl rfl ?_
    refine ax_iload_n (q := 11) (i := 3) dX0_write_10 rfl rfl rfl ?_
    refine ax_iadd (q := 12) dX0_write_11 rfl ?_
    refine ax_aload_n (q := 13) (i := 0) dX0_write_12 rfl rfl rfl ?_
    refine ax_get (q := 16) (k := 5) (j := 2) (v := ax_r 25) dX0_write_13 rfl shC_5 rfl rfl rfl (by decide) fl_X0_18 ?_
    refine ax_iload_n (q := 17) (i := 3) dX0_write_16 rfl rfl rfl ?_
    refine ax_iald (q := 18) (a := (Int32.toNatClampNeg x3)) (v := (σ.1 25 (Int32.toNatClampNeg x3))) dX0_write_17 rfl shC_25 (h2 c1) rfl rfl ?_
    refine ax_iast (q := 19) (a := (Int32.toNatClampNeg (x2 + x3))) dX0_write_18 rfl hr0 (h3 c1) rfl ?_
    refine ax_aload_n (q := 20) (i := 1) dX0_write_19 rfl rfl rfl ?_
    refine ax_iload_n (q := 21) (i := 2) dX0_write_20 rfl rfl rfl ?_
    refine ax_bipush (q := 23) dX0_write_21 rfl kb_8 ?_
    refine ax_iadd (q := 24) dX0_write_23 rfl ?_
    refine ax_iload_n (q := 25) (i := 3) dX0_write_24 rfl rfl rfl ?_
    refine ax_iadd (q := 26) dX0_write_25 rfl ?_
    refine ax_aload_n (q := 27) (i := 0) dX0_write_26 rfl rfl rfl ?_
    refine ax_get (q := 30) (k := 5) (j := 4) (v := ax_r 27) dX0_write_27 rfl shC_5 rfl rfl rfl (by decide) fl_X0_24 ?_
    refine ax_iload_n (q := 31) (i := 3) dX0_write_30 rfl rfl rfl ?_
    refine ax_iald (q := 32) (a := (Int32.toNatClampNeg x3)) (v := ((ax_ui σ r0 (Int32.toNatClampNeg (x2 + x3)) (σ.1 25 (Int32.toNatClampNeg x3))).1 27 (Int32.toNatClampNeg x3))) dX0_write_31 rfl shC_27 (h2 c1) rfl rfl ?_
    refine ax_iast (q := 33) (a := (Int32.toNatClampNeg ((x2 + (8 : Int32)) + x3))) dX0_write_32 rfl hr0 (h4 c1) rfl ?_
    refine ax_iincK (q := 36) (lv2 := [some (ax_r 5), some (ax_r r0), some (ax_i x2), some (ax_i (x3 + (1 : Int32))), none]) dX0_write_33 rfl rfl ki_1 (by decide) rfl rfl ?_
    refine ax_goto (tgt := 2) dX0_write_36 (by decide) ?_
    exact (k5 c1)
set_option maxRecDepth 20000 in
theorem s_X0_write_47 {d : Nat} (hd : 1 ≤ d) {Q : Option ax_V → ax_S → Prop} (σ : ax_S) (r0 nr0 : Nat) (hr0 : shC[r0]? = some (Sum.inr (false, nr0))) (x3 : Int32) (x4 : Int32) (h1 : ((16 : Int32) ≤ x4) → vp_in (x3 + (16 : Int32)) nr0) (h2 : ((16 : Int32) ≤ x4) → vp_in ((x3 + (16 : Int32)) + (1 : Int32)) nr0) (h3 : ((16 : Int32) ≤ x4) → vp_in ((x3 + (16 : Int32)) + (2 : Int32)) nr0) (k4 : ((16 : Int32) ≤ x4) → Q none (ax_ui (ax_ui (ax_ui σ r0 (Int32.toNatClampNeg (x3 + (16 : Int32))) (σ.1 5 10)) r0 (Int32.toNatClampNeg ((x3 + (16 : Int32)) + (1 : Int32))) ((ax_ui σ r0 (Int32.toNatClampNeg (x3 + (16 : Int32))) (σ.1 5 10)).1 5 12)) r0 (Int32.toNatClampNeg ((x3 + (16 : Int32)) + (2 : Int32))) ((ax_ui (ax_ui σ r0 (Int32.toNatClampNeg (x3 + (16 : Int32))) (σ.1 5 10)) r0 (Int32.toNatClampNeg ((x3 + (16 : Int32)) + (1 : Int32))) ((ax_ui σ r0 (Int32.toNatClampNeg (x3 + (16 : Int32))) (σ.1 5 10)).1 5 12)).1 5 14))) (h5 : (¬ ((16 : Int32) ≤ x4)) → vp_in x4 17) (h6 : (¬ ((16 : Int32) ≤ x4)) → vp_in (x3 + x4) nr0) (k7 : (¬ ((16 : Int32) ≤ x4)) → ax_W shC (d + 1) mX0_write Q 47 [some (ax_r 5), some (ax_r r0), none, some (ax_i x3), some (ax_i (x4 + (1 : Int32)))] [] (ax_ui σ r0 (Int32.toNatClampNeg (x3 + x4)) ((((σ.1 28 (Int32.toNatClampNeg x4)) ||| ((σ.1 29 (Int32.toNatClampNeg x4)) <<< ((3 : Int32) &&& 31))) ||| ((σ.1 30 (Int32.toNatClampNeg x4)) <<< ((6 : Int32) &&& 31))) ||| ((((σ.1 5 11) >>> (x4 &&& 31)) &&& (1 : Int32)) <<< ((10 : Int32) &&& 31))))) : ax_W shC (d + 1) mX0_write Q 47 [some (ax_r 5), some (ax_r r0), none, some (ax_i x3), some (ax_i x4)] [] σ := by
  refine ax_iload (q := 49) dX0_write_47 rfl rfl ?_
  refine ax_bipush (q := 51) dX0_write_49 rfl kb_16 ?_
  refine ax_icmp_ge (tgt := 107) (q := 54) dX0_write_51 (by decide) rfl (fun c1 => ?_) (fun c1 => ?_)
  · refine ax_iincK (q := 110) (lv2 := [some (ax_r 5), some (ax_r r0), none, some (ax_i (x3 + (16 : Int32))), some (ax_i x4)]) dX0_write_107 rfl rfl ki_16 (by decide) rfl rfl ?_
    refine ax_aload_n (q := 111) (i := 1) dX0_write_110 rfl rfl rfl ?_
    refine ax_iload_n (q := 112) (i := 3) dX0_write_111 rfl rfl rfl ?_
    refine ax_aload_n (q := 113) (i := 0) dX0_write_112 rfl rfl rfl ?_
    refine ax_get (q := 116) (k := 5) (j := 10) (v := ax_i (σ.1 5 10)) dX0_write_113 rfl shC_5 rfl rfl rfl (by decide) fl_X0_49 ?_
    refine ax_iast (q := 117) (a := (Int32.toNatClampNeg (x3 + (16 : Int32)))) dX0_write_116 rfl hr0 (h1 c1) rfl ?_
    refine ax_aload_n (q := 118) (i := 1) dX0_write_117 rfl rfl rfl ?_
    refine ax_iload_n (q := 119) (i := 3) dX0_write_118 rfl rfl rfl ?_
    refine ax_iconst (q := 120) dX0_write_119 rfl ki_1 ?_
    refine ax_iadd (q := 121) dX0_write_120 rfl ?_
    refine ax_aload_n (q := 122) (i := 0) dX0_write_121 rfl rfl rfl ?_
    refine ax_get (q := 125) (k := 5) (j := 12) (v := ax_i ((ax_ui σ r0 (Int32.toNatClampNeg (x3 + (16 : Int32))) (σ.1 5 10)).1 5 12)) dX0_write_122 rfl shC_5 rfl rfl rfl (by decide) fl_X0_56 ?_
    refine ax_iast (q := 126) (a := (Int32.toNatClampNeg ((x3 + (16 : Int32)) + (1 : Int32)))) dX0_write_125 rfl hr0 (h2 c1) rfl ?_
    refine ax_aload_n (q := 127) (i := 1) dX0_write_126 rfl rfl rfl ?_
    refine ax_iload_n (q := 128) (i := 3) dX0_write_127 rfl rfl rfl ?_
    refine ax_iconst (q := 129) dX0_write_128 rfl ki_2 ?_
    refine ax_iadd (q := 130) dX0_write_129 rfl ?_
    refine ax_aload_n (q := 131) (i := 0) dX0_write_130 rfl rfl rfl ?_
    refine ax_get (q := 134) (k := 5) (j := 14) (v := ax_i ((ax_ui (ax_ui σ r0 (Int32.toNatClampNeg (x3 + (16 : Int32))) (σ.1 5 10)) r0 (Int32.toNatClampNeg ((x3 + (16 : Int32)) + (1 : Int32))) ((ax_ui σ r0 (Int32.toNatClampNeg (x3 + (16 : Int32))) (σ.1 5 10)).1 5 12)).1 5 14)) dX0_write_131 rfl shC_5 rfl rfl rfl (by decide) fl_X0_62 ?_
    refine ax_iast (q := 135) (a := (Int32.toNatClampNeg ((x3 + (16 : Int32)) + (2 : Int32)))) dX0_write_134 rfl hr0 (h3 c1) rfl ?_
    exact ax_vret dX0_write_135 rfl (k4 c1)
  · refine ax_aload_n (q := 55) (i := 1) dX0_write_54 rfl rfl rfl ?_
    refine ax_iload_n (q := 56) (i := 3) dX0_write_55 rfl rfl rfl ?_
    refine ax_iload (q := 58) dX0_write_56 rfl rfl ?_
    refine ax_iadd (q := 59) dX0_write_58 rfl ?_
    refine ax_aload_n (q := 60) (i := 0) dX0_write_59 rfl rfl rfl ?_
    refine ax_get (q := 63) (k := 5) (j := 5) (v := ax_r 28) dX0_write_60 rfl shC_5 rfl rfl rfl (by decide) fl_X0_27 ?_
    refine ax_iload (q := 65) dX0_write_63 rfl rfl ?_
    refine ax_iald (q := 66) (a := (Int32.toNatClampNeg x4)) (v := (σ.1 28 (Int32.toNatClampNeg x4))) dX0_write_65 rfl shC_28 (h5 c1) rfl rfl ?_
    refine ax_aload_n (q := 67) (i := 0) dX0_write_66 rfl rfl rfl ?_
    refine ax_get (q := 70) (k := 5) (j := 6) (v := ax_r 29) dX0_write_67 rfl shC_5 rfl rfl rfl (by decide) fl_X0_30 ?_
    refine ax_iload (q := 72) dX0_write_70 rfl rfl ?_
    refine ax_iald (q := 73) (a := (Int32.toNatClampNeg x4)) (v := (σ.1 29 (Int32.toNatClampNeg x4))) dX0_write_72 rfl shC_29 (h5 c1) rfl rfl ?_
    refine ax_iconst (q := 74) dX0_write_73 rfl ki_3 ?_
    refine ax_ishl (q := 75) dX0_write_74 rfl ?_
    refine ax_ior (q := 76) dX0_write_75 rfl ?_
    refine ax_aload_n (q := 77) (i := 0) dX0_write_76 rfl rfl rfl ?_
    refine ax_get (q := 80) (k := 5) (j := 7) (v := ax_r 30) dX0_write_77 rfl shC_5 rfl rfl rfl (by decide) fl_X0_33 ?_
    refine ax_iload (q := 82) dX0_write_80 rfl rfl ?_
    refine ax_iald (q := 83) (a := (Int32.toNatClampNeg x4)) (v := (σ.1 30 (Int32.toNatClampNeg x4))) dX0_write_82 rfl shC_30 (h5 c1) rfl rfl ?_
    refine ax_bipush (q := 85) dX0_write_83 rfl kb_6 ?_
    refine ax_ishl (q := 86) dX0_write_85 rfl ?_
    refine ax_ior (q := 87) dX0_write_86 rfl ?_
    refine ax_aload_n (q := 88) (i := 0) dX0_write_87 rfl rfl rfl ?_
    refine ax_get (q := 91) (k := 5) (j := 11) (v := ax_i (σ.1 5 11)) dX0_write_88 rfl shC_5 rfl rfl rfl (by decide) fl_X0_50 ?_
    refine ax_iload (q := 93) dX0_write_91 rfl rfl ?_
    refine ax_callNfi (q := 96) (As := [ax_i (σ.1 5 11), ax_i x4]) (st := [ax_i (((σ.1 28 (Int32.toNatClampNeg x4)) ||| ((σ.1 29 (Int32.toNatClampNeg x4)) <<< ((3 : Int32) &&& 31))) ||| ((σ.1 30 (Int32.toNatClampNeg x4)) <<< ((6 : Int32) &&& 31))), ax_i (x3 + x4), ax_r r0]) (x := (((σ.1 5 11) >>> (x4 &&& 31)) &&& (1 : Int32))) (σ2 := σ) dX0_write_93 rfl lk_X0_74 rfl rfl (Nat.le_of_ble_eq_true rfl) (f_X11_bitOf (sh := shC) σ (σ.1 5 11) x4  (d := d) (by omega)) ?_
    refine ax_bipush (q := 98) dX0_write_96 rfl kb_10 ?_
    refine ax_ishl (q := 99) dX0_write_98 rfl ?_
    refine ax_ior (q := 100) dX0_write_99 rfl ?_
    refine ax_iast (q := 101) (a := (Int32.toNatClampNeg (x3 + x4))) dX0_write_100 rfl hr0 (h6 c1) rfl ?_
    refine ax_iincK (q := 104) (lv2 := [some (ax_r 5), some (ax_r r0), none, some (ax_i x3), some (ax_i (x4 + (1 : Int32)))]) dX0_write_101 rfl rfl ki_1 (by decide) rfl rfl ?_
    refine ax_goto (tgt := 47) dX0_write_104 (by decide) ?_
    exact (k7 c1)
set_option maxRecDepth 20000 in
theorem s_X0_read_0 {d : Nat} (hd : 0 ≤ d) {Q : Option ax_V → ax_S → Prop} (σ : ax_S) (r0 nr0 : Nat) (hr0 : shC[r0]? = some (Sum.inr (false, nr0))) (a1 : Int32) (k1 : ax_W shC (d + 1) mX0_read Q 2 [some (ax_r 5), some (ax_r r0), some (ax_i a1), some (ax_i (0 : Int32)), none, none] [] σ) : ax_W shC (d + 1) mX0_read Q 0 [some (ax_r 5), some (ax_r r0), some (ax_i a1), none, none, none] [] σ := by
  refine ax_iconst (q := 1) dX0_read_0 rfl ki_0 ?_
  refine ax_istore_n (q := 2) (i := 3) (lv2 := [some (ax_r 5), some (ax_r r0), some (ax_i a1), some (ax_i (0 : Int32)), none, none]) dX0_read_1 rfl rfl (by decide) rfl rfl ?_
  exact k1
set_option maxRecDepth 20000 in
theorem s_X0_read_2 {d : Nat} (hd : 0 ≤ d) {Q : Option ax_V → ax_S → Prop} (σ : ax_S) (r0 nr0 : Nat) (hr0 : shC[r0]? = some (Sum.inr (false, nr0))) (x2 : Int32) (x3 : Int32) (k1 : ((8 : Int32) ≤ x3) → ax_W shC (d + 1) mX0_read Q 52 [some (ax_r 5), some (ax_r r0), none, some (ax_i (x2 + (16 : Int32))), some (ax_i (0 : Int32)), none] [] (ax_ui σ 5 11 (0 : Int32))) (h2 : (¬ ((8 : Int32) ≤ x3)) → vp_in (x2 + x3) nr0) (h3 : (¬ ((8 : Int32) ≤ x3)) → vp_in x3 8) (h4 : (¬ ((8 : Int32) ≤ x3)) → vp_in ((x2 + (8 : Int32)) + x3) nr0) (k5 : (¬ ((8 : Int32) ≤ x3)) → ax_W shC (d + 1) mX0_read Q 2 [some (ax_r 5), some (ax_r r0), some (ax_i x2), some (ax_i (x3 + (1 : Int32))), none, none] [] (ax_ui (ax_ui σ 25 (Int32.toNatClampNeg x3) (σ.1 r0 (Int32.toNatClampNeg (x2 + x3)))) 27 (Int32.toNatClampNeg x3) ((ax_ui σ 25 (Int32.toNatClampNeg x3) (σ.1 r0 (Int32.toNatClampNeg (x2 + x3)))).1 r0 (Int32.toNatClampNeg ((x2 + (8 : Int32)) + x3))))) : ax_W shC (d + 1) mX0_read Q 2 [some (ax_r 5), some (ax_r r0), some (ax_i x2), some (ax_i x3), none, none] [] σ := by
  refine ax_iload_n (q := 3) (i := 3) dX0_read_2 rfl rfl rfl ?_
  refine ax_bipush (q := 5) dX0_read_3 rfl kb_8 ?_
  refine ax_icmp_ge (tgt := 39) (q := 8) dX0_read_5 (by decide) rfl (fun c1 => ?_) (fun c1 => ?_)
  · refine ax_iload_n (q := 40) (i := 2) dX0_read_39 rfl rfl rfl ?_
    refine ax_bipush (q := 42) dX0_read_40 rfl kb_16 ?_
    refine ax_iadd (q := 43) dX0_read_42 rfl ?_
    refine ax_istore_n (q := 44) (i := 3) (lv2 := [some (ax_r 5), some (ax_r r0), some (ax_i x2), some (ax_i (x2 + (16 : Int32))), none, none]) dX0_read_43 rfl rfl (by decide) rfl rfl ?_
    refine ax_aload_n (q := 45) (i := 0) dX0_read_44 rfl rfl rfl ?_
    refine ax_iconst (q := 46) dX0_read_45 rfl ki_0 ?_
    refine ax_puti (q := 49) (k := 5) (j := 11) dX0_read_46 rfl shC_5 rfl rfl (by decide) fl_X0_50 rfl rfl rfl rfl ?_
    refine ax_iconst (q := 50) dX0_read_49 rfl ki_0 ?_
    refine ax_istore (q := 52) (lv2 := [some (ax_r 5), some (ax_r r0), some (ax_i x2), some (ax_i (x2 + (16 : Int32))), some (ax_i (0 : Int32)), none]) dX0_read_50 rfl (by decide) rfl rfl ?_
    refine ax_fg (lv2 := [some (ax_r 5), some (ax_r r0), none, some (ax_i (x2 + (16 : Int32))), some (ax_i (0 : Int32)), none]) ⟨rfl, rfl, rfl, rfl, trivial⟩ ?_
    exact (k1 c1)
  · refine ax_aload_n (q := 9) (i := 0) dX0_read_8 rfl rfl rfl ?_
    refine ax_get (q := 12) (k := 5) (j := 2) (v := ax_r 25) dX0_read_9 rfl shC_5 rfl rfl rfl (by decide) fl_X0_18 ?_
    refine ax_iload_n (q := 13) (i := 3) dX0_read_12 rfl rfl rfl ?_
    refine ax_aload_n (q := 14) (i := 1) dX0_read_13 rfl rfl rfl ?_
    refine ax_iload_n (q := 15) (i := 2) dX0_read_14 rfl rfl rfl ?_
    refine ax_iload_n (q := 16) (i := 3) dX0_read_15 rfl rfl rfl ?_
    refine ax_iadd (q := 17) dX0_read_16 rfl ?_
    refine ax_iald (q := 18) (a := (Int32.toNatClampNeg (x2 + x3))) (v := (σ.1 r0 (Int32.toNatClampNeg (x2 + x3)))) dX0_read_17 rfl hr0 (h2 c1) rfl rfl ?_
    refine ax_iast (q := 19) (a := (Int32.toNatClampNeg x3)) dX0_read_18 rfl shC_25 (h3 c1) rfl ?_
    refine ax_aload_n (q := 20) (i := 0) dX0_read_19 rfl rfl rfl ?_
    refine ax_get (q := 23) (k := 5) (j := 4) (v := ax_r 27) dX0_read_20 rfl shC_5 rfl rfl rfl (by decide) fl_X0_24 ?_
    refine ax_iload_n (q := 24) (i := 3) dX0_read_23 rfl rfl rfl ?_
    refine ax_aload_n (q := 25) (i := 1) dX0_read_24 rfl rfl rfl ?_
    refine ax_iload_n (q := 26) (i := 2) dX0_read_25 rfl rfl rfl ?_
    refine ax_bipush (q := 28) dX0_read_26 rfl kb_8 ?_
    refine ax_iadd (q := 29) dX0_read_28 rfl ?_
    refine ax_iload_n (q := 30) (i := 3) dX0_read_29 rfl rfl rfl ?_
    refine ax_iadd (q := 31) dX0_read_30 rfl ?_
    refine ax_iald (q := 32) (a := (Int32.toNatClampNeg ((x2 + (8 : Int32)) + x3))) (v := ((ax_ui σ 25 (Int32.toNatClampNeg x3) (σ.1 r0 (Int32.toNatClampNeg (x2 + x3)))).1 r0 (Int32.toNatClampNeg ((x2 + (8 : Int32)) + x3)))) dX0_read_31 rfl hr0 (h4 c1) rfl rfl ?_
    refine ax_iast (q := 33) (a := (Int32.toNatClampNeg x3)) dX0_read_32 rfl shC_27 (h3 c1) rfl ?_
    refine ax_iincK (q := 36) (lv2 := [some (ax_r 5), some (ax_r r0), some (ax_i x2), some (ax_i (x3 + (1 : Int32))), none, none]) dX0_read_33 rfl rfl ki_1 (by decide) rfl rfl ?_
    refine ax_goto (tgt := 2) dX0_read_36 (by decide) ?_
    exact (k5 c1)
set_option maxRecDepth 20000 in
theorem s_X0_read_52 {d : Nat} (hd : 1 ≤ d) {Q : Option ax_V → ax_S → Prop} (σ : ax_S) (r0 nr0 : Nat) (hr0 : shC[r0]? = some (Sum.inr (false, nr0))) (x3 : Int32) (x4 : Int32) (h1 : ((16 : Int32) ≤ x4) → vp_in (x3 + (16 : Int32)) nr0) (h2 : ((16 : Int32) ≤ x4) → vp_in ((x3 + (16 : Int32)) + (1 : Int32)) nr0) (h3 : ((16 : Int32) ≤ x4) → vp_in ((x3 + (16 : Int32)) + (2 : Int32)) nr0) (k4 : ((16 : Int32) ≤ x4) → ax_Ct shC d mX0_touchAnew [ax_r 5] (fun r u => r = none ∧ ax_W shC (d + 1) mX0_read Q 165 [none, none, none, none, none, none] [] u) (ax_ui (ax_ui (ax_ui σ 5 10 (σ.1 r0 (Int32.toNatClampNeg (x3 + (16 : Int32))))) 5 12 ((ax_ui σ 5 10 (σ.1 r0 (Int32.toNatClampNeg (x3 + (16 : Int32))))).1 r0 (Int32.toNatClampNeg ((x3 + (16 : Int32)) + (1 : Int32))))) 5 14 ((ax_ui (ax_ui σ 5 10 (σ.1 r0 (Int32.toNatClampNeg (x3 + (16 : Int32))))) 5 12 ((ax_ui σ 5 10 (σ.1 r0 (Int32.toNatClampNeg (x3 + (16 : Int32))))).1 r0 (Int32.toNatClampNeg ((x3 + (16 : Int32)) + (1 : Int32))))).1 r0 (Int32.toNatClampNeg ((x3 + (16 : Int32)) + (2 : Int32)))))) (h5 : (¬ ((16 : Int32) ≤ x4)) → vp_in (x3 + x4) nr0) (h6 : (¬ ((16 : Int32) ≤ x4)) → vp_in x4 17) (k7 : (¬ ((16 : Int32) ≤ x4)) → ax_W shC (d + 1) mX0_read Q 52 [some (ax_r 5), some (ax_r r0), none, some (ax_i x3), some (ax_i (x4 + (1 : Int32))), none] [] (ax_ui (ax_ui (ax_ui (ax_ui σ 28 (Int32.toNatClampNeg x4) ((σ.1 r0 (Int32.toNatClampNeg (x3 + x4))) &&& (7 : Int32))) 29 (Int32.toNatClampNeg x4) (((σ.1 r0 (Int32.toNatClampNeg (x3 + x4))) >>> ((3 : Int32) &&& 31)) &&& (7 : Int32))) 30 (Int32.toNatClampNeg x4) (((σ.1 r0 (Int32.toNatClampNeg (x3 + x4))) >>> ((6 : Int32) &&& 31)) &&& (15 : Int32))) 5 11 ((σ.1 5 11) ||| ((((σ.1 r0 (Int32.toNatClampNeg (x3 + x4))) >>> ((10 : Int32) &&& 31)) &&& (1 : Int32)) <<< (x4 &&& 31))))) : ax_W shC (d + 1) mX0_read Q 52 [some (ax_r 5), some (ax_r r0), none, some (ax_i x3), some (ax_i x4), none] [] σ := by
  refine ax_iload (q := 54) dX0_read_52 rfl rfl ?_
  refine ax_bipush (q := 56) dX0_read_54 rfl kb_16 ?_
  refine ax_icmp_ge (tgt := 133) (q := 59) dX0_read_56 (by decide) rfl (fun c1 => ?_) (fun c1 => ?_)
  · refine ax_iincK (q := 136) (lv2 := [some (ax_r 5), some (ax_r r0), none, some (ax_i (x3 + (16 : Int32))), some (ax_i x4), none]) dX0_read_133 rfl rfl ki_16 (by decide) rfl rfl ?_
    refine ax_aload_n (q := 137) (i := 0) dX0_read_136 rfl rfl rfl ?_
    refine ax_aload_n (q := 138) (i := 1) dX0_read_137 rfl rfl rfl ?_
    refine ax_iload_n (q := 139) (i := 3) dX0_read_138 rfl rfl rfl ?_
    refine ax_iald (q := 140) (a := (Int32.toNatClampNeg (x3 + (16 : Int32)))) (v := (σ.1 r0 (Int32.toNatClampNeg (x3 + (16 : Int32))))) dX0_read_139 rfl hr0 (h1 c1) rfl rfl ?_
    refine ax_puti (q := 143) (k := 5) (j := 10) dX0_read_140 rfl shC_5 rfl rfl (by decide) fl_X0_49 rfl rfl rfl rfl ?_
    refine ax_aload_n (q := 144) (i := 0) dX0_read_143 rfl rfl rfl ?_
    refine ax_aload_n (q := 145) (i := 1) dX0_read_144 rfl rfl rfl ?_
    refine ax_iload_n (q := 146) (i := 3) dX0_read_145 rfl rfl rfl ?_
    refine ax_iconst (q := 147) dX0_read_146 rfl ki_1 ?_
    refine ax_iadd (q := 148) dX0_read_147 rfl ?_
    refine ax_iald (q := 149) (a := (Int32.toNatClampNeg ((x3 + (16 : Int32)) + (1 : Int32)))) (v := ((ax_ui σ 5 10 (σ.1 r0 (Int32.toNatClampNeg (x3 + (16 : Int32))))).1 r0 (Int32.toNatClampNeg ((x3 + (16 : Int32)) + (1 : Int32))))) dX0_read_148 rfl hr0 (h2 c1) rfl rfl ?_
    refine ax_puti (q := 152) (k := 5) (j := 12) dX0_read_149 rfl shC_5 rfl rfl (by decide) fl_X0_56 rfl rfl rfl rfl ?_
    refine ax_aload_n (q := 153) (i := 0) dX0_read_152 rfl rfl rfl ?_
    refine ax_aload_n (q := 154) (i := 1) dX0_read_153 rfl rfl rfl ?_
    refine ax_iload_n (q := 155) (i := 3) dX0_read_154 rfl rfl rfl ?_
    refine ax_iconst (q := 156) dX0_read_155 rfl ki_2 ?_
    refine ax_iadd (q := 157) dX0_read_156 rfl ?_
    refine ax_iald (q := 158) (a := (Int32.toNatClampNeg ((x3 + (16 : Int32)) + (2 : Int32)))) (v := ((ax_ui (ax_ui σ 5 10 (σ.1 r0 (Int32.toNatClampNeg (x3 + (16 : Int32))))) 5 12 ((ax_ui σ 5 10 (σ.1 r0 (Int32.toNatClampNeg (x3 + (16 : Int32))))).1 r0 (Int32.toNatClampNeg ((x3 + (16 : Int32)) + (1 : Int32))))).1 r0 (Int32.toNatClampNeg ((x3 + (16 : Int32)) + (2 : Int32))))) dX0_read_157 rfl hr0 (h3 c1) rfl rfl ?_
    refine ax_puti (q := 161) (k := 5) (j := 14) dX0_read_158 rfl shC_5 rfl rfl (by decide) fl_X0_62 rfl rfl rfl rfl ?_
    refine ax_aload_n (q := 162) (i := 0) dX0_read_161 rfl rfl rfl ?_
    refine ax_fg (lv2 := [none, none, none, none, none, none]) trivial ?_
    exact ax_callVcv (q := 165) (As := []) (st := []) dX0_read_162 rfl lk_X0_71 shC_5 rfl rfl rfl rfl (Nat.le_of_ble_eq_true rfl) (k4 c1)
  · refine ax_aload_n (q := 60) (i := 1) dX0_read_59 rfl rfl rfl ?_
    refine ax_iload_n (q := 61) (i := 3) dX0_read_60 rfl rfl rfl ?_
    refine ax_iload (q := 63) dX0_read_61 rfl rfl ?_
    refine ax_iadd (q := 64) dX0_read_63 rfl ?_
    refine ax_iald (q := 65) (a := (Int32.toNatClampNeg (x3 + x4))) (v := (σ.1 r0 (Int32.toNatClampNeg (x3 + x4)))) dX0_read_64 rfl hr0 (h5 c1) rfl rfl ?_
    refine ax_istore (q := 67) (lv2 := [some (ax_r 5), some (ax_r r0), none, some (ax_i x3), some (ax_i x4), some (ax_i (σ.1 r0 (Int32.toNatClampNeg (x3 + x4))))]) dX0_read_65 rfl (by decide) rfl rfl ?_
    refine ax_aload_n (q := 68) (i := 0) dX0_read_67 rfl rfl rfl ?_
    refine ax_get (q := 71) (k := 5) (j := 5) (v := ax_r 28) dX0_read_68 rfl shC_5 rfl rfl rfl (by decide) fl_X0_27 ?_
    refine ax_iload (q := 73) dX0_read_71 rfl rfl ?_
    refine ax_iload (q := 75) dX0_read_73 rfl rfl ?_
    refine ax_bipush (q := 77) dX0_read_75 rfl kb_7 ?_
    refine ax_iand (q := 78) dX0_read_77 rfl ?_
    refine ax_iast (q := 79) (a := (Int32.toNatClampNeg x4)) dX0_read_78 rfl shC_28 (h6 c1) rfl ?_
    refine ax_aload_n (q := 80) (i := 0) dX0_read_79 rfl rfl rfl ?_
    refine ax_get (q := 83) (k := 5) (j := 6) (v := ax_r 29) dX0_read_80 rfl shC_5 rfl rfl rfl (by decide) fl_X0_30 ?_
    refine ax_iload (q := 85) dX0_read_83 rfl rfl ?_
    refine ax_iload (q := 87) dX0_read_85 rfl rfl ?_
    refine ax_iconst (q := 88) dX0_read_87 rfl ki_3 ?_
    refine ax_ishr (q := 89) dX0_read_88 rfl ?_
    refine ax_bipush (q := 91) dX0_read_89 rfl kb_7 ?_
    refine ax_iand (q := 92) dX0_read_91 rfl ?_
    refine ax_iast (q := 93) (a := (Int32.toNatClampNeg x4)) dX0_read_92 rfl shC_29 (h6 c1) rfl ?_
    refine ax_aload_n (q := 94) (i := 0) dX0_read_93 rfl rfl rfl ?_
    refine ax_get (q := 97) (k := 5) (j := 7) (v := ax_r 30) dX0_read_94 rfl shC_5 rfl rfl rfl (by decide) fl_X0_33 ?_
    refine ax_iload (q := 99) dX0_read_97 rfl rfl ?_
    refine ax_iload (q := 101) dX0_read_99 rfl rfl ?_
    refine ax_bipush (q := 103) dX0_read_101 rfl kb_6 ?_
    refine ax_ishr (q := 104) dX0_read_103 rfl ?_
    refine ax_bipush (q := 106) dX0_read_104 rfl kb_15 ?_
    refine ax_iand (q := 107) dX0_read_106 rfl ?_
    refine ax_iast (q := 108) (a := (Int32.toNatClampNeg x4)) dX0_read_107 rfl shC_30 (h6 c1) rfl ?_
    refine ax_aload_n (q := 109) (i := 0) dX0_read_108 rfl rfl rfl ?_
    refine ax_dupr (q := 110) dX0_read_109 rfl ?_
    refine ax_get (q := 113) (k := 5) (j := 11) (v := ax_i (σ.1 5 11)) dX0_read_110 rfl shC_5 rfl rfl rfl (by decide) fl_X0_50 ?_
    refine ax_iload (q := 115) dX0_read_113 rfl rfl ?_
    refine ax_bipush (q := 117) dX0_read_115 rfl kb_10 ?_
    refine ax_callNfi (q := 120) (As := [ax_i (σ.1 r0 (Int32.toNatClampNeg (x3 + x4))), ax_i (10 : Int32)]) (st := [ax_i (σ.1 5 11), ax_r 5]) (x := (((σ.1 r0 (Int32.toNatClampNeg (x3 + x4))) >>> ((10 : Int32) &&& 31)) &&& (1 : Int32))) (σ2 := (ax_ui (ax_ui (ax_ui σ 28 (Int32.toNatClampNeg x4) ((σ.1 r0 (Int32.toNatClampNeg (x3 + x4))) &&& (7 : Int32))) 29 (Int32.toNatClampNeg x4) (((σ.1 r0 (Int32.toNatClampNeg (x3 + x4))) >>> ((3 : Int32) &&& 31)) &&& (7 : Int32))) 30 (Int32.toNatClampNeg x4) (((σ.1 r0 (Int32.toNatClampNeg (x3 + x4))) >>> ((6 : Int32) &&& 31)) &&& (15 : Int32)))) dX0_read_117 rfl lk_X0_74 rfl rfl (Nat.le_of_ble_eq_true rfl) (f_X11_bitOf (sh := shC) (ax_ui (ax_ui (ax_ui σ 28 (Int32.toNatClampNeg x4) ((σ.1 r0 (Int32.toNatClampNeg (x3 + x4))) &&& (7 : Int32))) 29 (Int32.toNatClampNeg x4) (((σ.1 r0 (Int32.toNatClampNeg (x3 + x4))) >>> ((3 : Int32) &&& 31)) &&& (7 : Int32))) 30 (Int32.toNatClampNeg x4) (((σ.1 r0 (Int32.toNatClampNeg (x3 + x4))) >>> ((6 : Int32) &&& 31)) &&& (15 : Int32))) (σ.1 r0 (Int32.toNatClampNeg (x3 + x4))) (10 : Int32)  (d := d) (by omega)) ?_
    refine ax_iload (q := 122) dX0_read_120 rfl rfl ?_
    refine ax_ishl (q := 123) dX0_read_122 rfl ?_
    refine ax_ior (q := 124) dX0_read_123 rfl ?_
    refine ax_puti (q := 127) (k := 5) (j := 11) dX0_read_124 rfl shC_5 rfl rfl (by decide) fl_X0_50 rfl rfl rfl rfl ?_
    refine ax_iincK (q := 130) (lv2 := [some (ax_r 5), some (ax_r r0), none, some (ax_i x3), some (ax_i (x4 + (1 : Int32))), some (ax_i (σ.1 r0 (Int32.toNatClampNeg (x3 + x4))))]) dX0_read_127 rfl rfl ki_1 (by decide) rfl rfl ?_
    refine ax_goto (tgt := 52) dX0_read_130 (by decide) ?_
    refine ax_fg (lv2 := [some (ax_r 5), some (ax_r r0), none, some (ax_i x3), some (ax_i (x4 + (1 : Int32))), none]) ⟨rfl, rfl, rfl, rfl, trivial⟩ ?_
    exact (k7 c1)
set_option maxRecDepth 20000 in
theorem s_X0_read_165 {d : Nat} (hd : 0 ≤ d) {Q : Option ax_V → ax_S → Prop} (σ : ax_S)  (k1 : Q none σ) : ax_W shC (d + 1) mX0_read Q 165 [none, none, none, none, none, none] [] σ := by
  exact ax_vret dX0_read_165 rfl k1
set_option maxRecDepth 20000 in
theorem f_X0_uncut (σ : ax_S)   {d : Nat} (hd : 1 ≤ d) : ax_Ct shC d mX0_uncut [ax_r 5] (fun r u => r = some (ax_i ((((1 : Int32) <<< ((σ.1 5 10) &&& 31)) - (1 : Int32)) &&& ((σ.1 5 11) ^^^ (-1 : Int32)))) ∧ u = σ) σ := by
  obtain ⟨d, rfl⟩ : ∃ e, d = e + 1 := ⟨d - 1, by omega⟩
  refine ax_Ct.of (lv := [some (ax_r 5)]) (by decide +kernel) (fun ad => Nat.le_of_ble_eq_true rfl) (fun ad => rfl) ?_
  refine ax_iconst (q := 1) dX0_uncut_0 rfl ki_1 ?_
  refine ax_aload_n (q := 2) (i := 0) dX0_uncut_1 rfl rfl rfl ?_
  refine ax_get (q := 5) (k := 5) (j := 10) (v := ax_i (σ.1 5 10)) dX0_uncut_2 rfl shC_5 rfl rfl rfl (by decide) fl_X0_49 ?_
  refine ax_ishl (q := 6) dX0_uncut_5 rfl ?_
  refine ax_iconst (q := 7) dX0_uncut_6 rfl ki_1 ?_
  refine ax_isub (q := 8) dX0_uncut_7 rfl ?_
  refine ax_aload_n (q := 9) (i := 0) dX0_uncut_8 rfl rfl rfl ?_
  refine ax_get (q := 12) (k := 5) (j := 11) (v := ax_i (σ.1 5 11)) dX0_uncut_9 rfl shC_5 rfl rfl rfl (by decide) fl_X0_50 ?_
  refine ax_iconst (q := 13) dX0_uncut_12 rfl ki_m1 ?_
  refine ax_ixor (q := 14) dX0_uncut_13 rfl ?_
  refine ax_iand (q := 15) dX0_uncut_14 rfl ?_
  exact ax_iret dX0_uncut_15 rfl rfl ⟨rfl, rfl⟩
set_option maxRecDepth 20000 in
theorem s_X0_live_0 {d : Nat} (hd : 1 ≤ d) {Q : Option ax_V → ax_S → Prop} (σ : ax_S)  (k1 : ax_W shC (d + 1) mX0_live Q 7 [some (ax_r 5), some (ax_i ((((1 : Int32) <<< ((σ.1 5 10) &&& 31)) - (1 : Int32)) &&& ((σ.1 5 11) ^^^ (-1 : Int32)))), some (ax_i (0 : Int32))] [] σ) : ax_W shC (d + 1) mX0_live Q 0 [some (ax_r 5), none, none] [] σ := by
  refine ax_aload_n (q := 1) (i := 0) dX0_live_0 rfl rfl rfl ?_
  refine ax_callVfi (q := 4) (As := []) (st := []) (x := ((((1 : Int32) <<< ((σ.1 5 10) &&& 31)) - (1 : Int32)) &&& ((σ.1 5 11) ^^^ (-1 : Int32)))) (σ2 := σ) dX0_live_1 rfl lk_X0_78 shC_5 rfl rfl rfl rfl (Nat.le_of_ble_eq_true rfl) (f_X0_uncut σ   (d := d) (by omega)) ?_
  refine ax_istore_n (q := 5) (i := 1) (lv2 := [some (ax_r 5), some (ax_i ((((1 : Int32) <<< ((σ.1 5 10) &&& 31)) - (1 : Int32)) &&& ((σ.1 5 11) ^^^ (-1 : Int32)))), none]) dX0_live_4 rfl rfl (by decide) rfl rfl ?_
  refine ax_iconst (q := 6) dX0_live_5 rfl ki_0 ?_
  refine ax_istore_n (q := 7) (i := 2) (lv2 := [some (ax_r 5), some (ax_i ((((1 : Int32) <<< ((σ.1 5 10) &&& 31)) - (1 : Int32)) &&& ((σ.1 5 11) ^^^ (-1 : Int32)))), some (ax_i (0 : Int32))]) dX0_live_6 rfl rfl (by decide) rfl rfl ?_
  exact k1
set_option maxRecDepth 20000 in
theorem s_X0_live_7 {d : Nat} (hd : 0 ≤ d) {Q : Option ax_V → ax_S → Prop} (σ : ax_S) (x1 : Int32) (x2 : Int32) (k1 : ((σ.1 5 10) ≤ x2) → Q (some (ax_i x1)) σ) (h2 : (¬ ((σ.1 5 10) ≤ x2)) → vp_in x2 17) (k3 : (¬ ((σ.1 5 10) ≤ x2)) → ((σ.1 30 (Int32.toNatClampNeg x2)) < (9 : Int32)) → ax_W shC (d + 1) mX0_live Q 7 [some (ax_r 5), some (ax_i x1), some (ax_i (x2 + (1 : Int32)))] [] σ) (k4 : (¬ ((σ.1 5 10) ≤ x2)) → (¬ ((σ.1 30 (Int32.toNatClampNeg x2)) < (9 : Int32))) → ax_W shC (d + 1) mX0_live Q 7 [some (ax_r 5), some (ax_i (x1 &&& (((1 : Int32) <<< (x2 &&& 31)) ^^^ (-1 : Int32)))), some (ax_i (x2 + (1 : Int32)))] [] σ) : ax_W shC (d + 1) mX0_live Q 7 [some (ax_r 5), some (ax_i x1), some (ax_i x2)] [] σ := by
  refine ax_iload_n (q := 8) (i := 2) dX0_live_7 rfl rfl rfl ?_
  refine ax_aload_n (q := 9) (i := 0) dX0_live_8 rfl rfl rfl ?_
  refine ax_get (q := 12) (k := 5) (j := 10) (v := ax_i (σ.1 5 10)) dX0_live_9 rfl shC_5 rfl rfl rfl (by decide) fl_X0_49 ?_
  refine ax_icmp_ge (tgt := 40) (q := 15) dX0_live_12 (by decide) rfl (fun c1 => ?_) (fun c1 => ?_)
  · refine ax_iload_n (q := 41) (i := 1) dX0_live_40 rfl rfl rfl ?_
    exact ax_iret dX0_live_41 rfl rfl (k1 c1)
  · refine ax_aload_n (q := 16) (i := 0) dX0_live_15 rfl rfl rfl ?_
    refine ax_get (q := 19) (k := 5) (j := 7) (v := ax_r 30) dX0_live_16 rfl shC_5 rfl rfl rfl (by decide) fl_X0_33 ?_
    refine ax_iload_n (q := 20) (i := 2) dX0_live_19 rfl rfl rfl ?_
    refine ax_iald (q := 21) (a := (Int32.toNatClampNeg x2)) (v := (σ.1 30 (Int32.toNatClampNeg x2))) dX0_live_20 rfl shC_30 (h2 c1) rfl rfl ?_
    refine ax_bipush (q := 23) dX0_live_21 rfl kb_9 ?_
    refine ax_icmp_lt (tgt := 34) (q := 26) dX0_live_23 (by decide) rfl (fun c2 => ?_) (fun c2 => ?_)
    · refine ax_iincK (q := 37) (lv2 := [some (ax_r 5), some (ax_i x1), some (ax_i (x2 + (1 : Int32)))]) dX0_live_34 rfl rfl ki_1 (by decide) rfl rfl ?_
      refine ax_goto (tgt := 7) dX0_live_37 (by decide) ?_
      exact (k3 c1 c2)
    · refine ax_iload_n (q := 27) (i := 1) dX0_live_26 rfl rfl rfl ?_
      refine ax_iconst (q := 28) dX0_live_27 rfl ki_1 ?_
      refine ax_iload_n (q := 29) (i := 2) dX0_live_28 rfl rfl rfl ?_
      refine ax_ishl (q := 30) dX0_live_29 rfl ?_
      refine ax_iconst (q := 31) dX0_live_30 rfl ki_m1 ?_
      refine ax_ixor (q := 32) dX0_live_31 rfl ?_
      refine ax_iand (q := 33) dX0_live_32 rfl ?_
      refine ax_istore_n (q := 34) (i := 1) (lv2 := [some (ax_r 5), some (ax_i (x1 &&& (((1 : Int32) <<< (x2 &&& 31)) ^^^ (-1 : Int32)))), some (ax_i x2)]) dX0_live_33 rfl rfl (by decide) rfl rfl ?_
      refine ax_iincK (q := 37) (lv2 := [some (ax_r 5), some (ax_i (x1 &&& (((1 : Int32) <<< (x2 &&& 31)) ^^^ (-1 : Int32)))), some (ax_i (x2 + (1 : Int32)))]) dX0_live_34 rfl rfl ki_1 (by decide) rfl rfl ?_
      refine ax_goto (tgt := 7) dX0_live_37 (by decide) ?_
      exact (k4 c1 c2)
set_option maxRecDepth 20000 in
theorem f_X0_touching (σ : ax_S) (a0 : Int32) (a1 : Int32) (h1 : vp_in a1 8) {d : Nat} (hd : 1 ≤ d) : ax_Ct shC d mX0_touching [ax_r 5, ax_i a0, ax_i a1] (fun r u => r = some (ax_i (a0 &&& (σ.1 31 (Int32.toNatClampNeg a1)))) ∧ u = σ) σ := by
  obtain ⟨d, rfl⟩ : ∃ e, d = e + 1 := ⟨d - 1, by omega⟩
  refine ax_Ct.of (lv := [some (ax_r 5), some (ax_i a0), some (ax_i a1)]) (by decide +kernel) (fun ad => Nat.le_of_ble_eq_true rfl) (fun ad => rfl) ?_
  refine ax_iload_n (q := 1) (i := 1) dX0_touching_0 rfl rfl rfl ?_
  refine ax_aload_n (q := 2) (i := 0) dX0_touching_1 rfl rfl rfl ?_
  refine ax_get (q := 5) (k := 5) (j := 8) (v := ax_r 31) dX0_touching_2 rfl shC_5 rfl rfl rfl (by decide) fl_X0_36 ?_
  refine ax_iload_n (q := 6) (i := 2) dX0_touching_5 rfl rfl rfl ?_
  refine ax_iald (q := 7) (a := (Int32.toNatClampNeg a1)) (v := (σ.1 31 (Int32.toNatClampNeg a1))) dX0_touching_6 rfl shC_31 h1 rfl rfl ?_
  refine ax_iand (q := 8) dX0_touching_7 rfl ?_
  exact ax_iret dX0_touching_8 rfl rfl ⟨rfl, rfl⟩
set_option maxRecDepth 20000 in
theorem s_X0_reach_0 {d : Nat} (hd : 0 ≤ d) {Q : Option ax_V → ax_S → Prop} (σ : ax_S) (a0 : Int32) (a1 : Int32) (k1 : ax_W shC (d + 1) mX0_reach Q 7 [some (ax_r 5), some (ax_i a0), none, some (ax_i ((1 : Int32) <<< (a1 &&& 31))), some (ax_i (0 : Int32)), none, none, none] [] σ) : ax_W shC (d + 1) mX0_reach Q 0 [some (ax_r 5), some (ax_i a0), some (ax_i a1), none, none, none, none, none] [] σ := by
  refine ax_iconst (q := 1) dX0_reach_0 rfl ki_1 ?_
  refine ax_iload_n (q := 2) (i := 2) dX0_reach_1 rfl rfl rfl ?_
  refine ax_ishl (q := 3) dX0_reach_2 rfl ?_
  refine ax_istore_n (q := 4) (i := 3) (lv2 := [some (ax_r 5), some (ax_i a0), some (ax_i a1), some (ax_i ((1 : Int32) <<< (a1 &&& 31))), none, none, none, none]) dX0_reach_3 rfl rfl (by decide) rfl rfl ?_
  refine ax_iconst (q := 5) dX0_reach_4 rfl ki_0 ?_
  refine ax_istore (q := 7) (lv2 := [some (ax_r 5), some (ax_i a0), some (ax_i a1), some (ax_i ((1 : Int32) <<< (a1 &&& 31))), some (ax_i (0 : Int32)), none, none, none]) dX0_reach_5 rfl (by decide) rfl rfl ?_
  refine ax_fg (lv2 := [some (ax_r 5), some (ax_i a0), none, some (ax_i ((1 : Int32) <<< (a1 &&& 31))), some (ax_i (0 : Int32)), none, none, none]) ⟨rfl, rfl, rfl, rfl, trivial⟩ ?_
  exact k1
set_option maxRecDepth 20000 in
theorem s_X0_reach_7 {d : Nat} (hd : 0 ≤ d) {Q : Option ax_V → ax_S → Prop} (σ : ax_S) (x1 : Int32) (x3 : Int32) (x4 : Int32) (k1 : ((σ.1 5 9) ≤ x4) → Q (some (ax_i x3)) σ) (k2 : (¬ ((σ.1 5 9) ≤ x4)) → ax_W shC (d + 1) mX0_reach Q 22 [some (ax_r 5), some (ax_i x1), none, some (ax_i x3), some (ax_i x4), some (ax_i x3), some (ax_i (0 : Int32)), none] [] σ) : ax_W shC (d + 1) mX0_reach Q 7 [some (ax_r 5), some (ax_i x1), none, some (ax_i x3), some (ax_i x4), none, none, none] [] σ := by
  refine ax_iload (q := 9) dX0_reach_7 rfl rfl ?_
  refine ax_aload_n (q := 10) (i := 0) dX0_reach_9 rfl rfl rfl ?_
  refine ax_get (q := 13) (k := 5) (j := 9) (v := ax_i (σ.1 5 9)) dX0_reach_10 rfl shC_5 rfl rfl rfl (by decide) fl_X0_45 ?_
  refine ax_icmp_ge (tgt := 95) (q := 16) dX0_reach_13 (by decide) rfl (fun c1 => ?_) (fun c1 => ?_)
  · refine ax_iload_n (q := 96) (i := 3) dX0_reach_95 rfl rfl rfl ?_
    exact ax_iret dX0_reach_96 rfl rfl (k1 c1)
  · refine ax_iload_n (q := 17) (i := 3) dX0_reach_16 rfl rfl rfl ?_
    refine ax_istore (q := 19) (lv2 := [some (ax_r 5), some (ax_i x1), none, some (ax_i x3), some (ax_i x4), some (ax_i x3), none, none]) dX0_reach_17 rfl (by decide) rfl rfl ?_
    refine ax_iconst (q := 20) dX0_reach_19 rfl ki_0 ?_
    refine ax_istore (q := 22) (lv2 := [some (ax_r 5), some (ax_i x1), none, some (ax_i x3), some (ax_i x4), some (ax_i x3), some (ax_i (0 : Int32)), none]) dX0_reach_20 rfl (by decide) rfl rfl ?_
    exact (k2 c1)
set_option maxRecDepth 20000 in
theorem s_X0_reach_22 {d : Nat} (hd : 1 ≤ d) {Q : Option ax_V → ax_S → Prop} (σ : ax_S) (x1 : Int32) (x3 : Int32) (x4 : Int32) (x5 : Int32) (x6 : Int32) (k1 : ((σ.1 5 10) ≤ x6) → (¬ x3 = x5) → ax_W shC (d + 1) mX0_reach Q 7 [some (ax_r 5), some (ax_i x1), none, some (ax_i x3), some (ax_i (x4 + (1 : Int32))), none, none, none] [] σ) (k2 : ((σ.1 5 10) ≤ x6) → (¬ (¬ x3 = x5)) → Q (some (ax_i x3)) σ) (h3 : (¬ ((σ.1 5 10) ≤ x6)) → vp_in x6 17) (k4 : (¬ ((σ.1 5 10) ≤ x6)) → (¬ ((x1 >>> (x6 &&& 31)) &&& (1 : Int32)) = (1 : Int32)) → ax_W shC (d + 1) mX0_reach Q 22 [some (ax_r 5), some (ax_i x1), none, some (ax_i x3), some (ax_i x4), some (ax_i x5), some (ax_i (x6 + (1 : Int32))), none] [] σ) (k5 : (¬ ((σ.1 5 10) ≤ x6)) → (¬ (¬ ((x1 >>> (x6 &&& 31)) &&& (1 : Int32)) = (1 : Int32))) → ((x3 &&& (((1 : Int32) <<< ((σ.1 28 (Int32.toNatClampNeg x6)) &&& 31)) ||| ((1 : Int32) <<< ((σ.1 29 (Int32.toNatClampNeg x6)) &&& 31)))) = 0) → ax_W shC (d + 1) mX0_reach Q 22 [some (ax_r 5), some (ax_i x1), none, some (ax_i x3), some (ax_i x4), some (ax_i x5), some (ax_i (x6 + (1 : Int32))), none] [] σ) (k6 : (¬ ((σ.1 5 10) ≤ x6)) → (¬ (¬ ((x1 >>> (x6 &&& 31)) &&& (1 : Int32)) = (1 : Int32))) → (¬ ((x3 &&& (((1 : Int32) <<< ((σ.1 28 (Int32.toNatClampNeg x6)) &&& 31)) ||| ((1 : Int32) <<< ((σ.1 29 (Int32.toNatClampNeg x6)) &&& 31)))) = 0)) → ax_W shC (d + 1) mX0_reach Q 22 [some (ax_r 5), some (ax_i x1), none, some (ax_i (x3 ||| (((1 : Int32) <<< ((σ.1 28 (Int32.toNatClampNeg x6)) &&& 31)) ||| ((1 : Int32) <<< ((σ.1 29 (Int32.toNatClampNeg x6)) &&& 31))))), some (ax_i x4), some (ax_i x5), some (ax_i (x6 + (1 : Int32))), none] [] σ) : ax_W shC (d + 1) mX0_reach Q 22 [some (ax_r 5), some (ax_i x1), none, some (ax_i x3), some (ax_i x4), some (ax_i x5), some (ax_i x6), none] [] σ := by
  refine ax_iload (q := 24) dX0_reach_22 rfl rfl ?_
  refine ax_aload_n (q := 25) (i := 0) dX0_reach_24 rfl rfl rfl ?_
  refine ax_get (q := 28) (k := 5) (j := 10) (v := ax_i (σ.1 5 10)) dX0_reach_25 rfl shC_5 rfl rfl rfl (by decide) fl_X0_49 ?_
  refine ax_icmp_ge (tgt := 80) (q := 31) dX0_reach_28 (by decide) rfl (fun c1 => ?_) (fun c1 => ?_)
  · refine ax_iload_n (q := 81) (i := 3) dX0_reach_80 rfl rfl rfl ?_
    refine ax_iload (q := 83) dX0_reach_81 rfl rfl ?_
    refine ax_icmp_ne (tgt := 89) (q := 86) dX0_reach_83 (by decide) rfl (fun c2 => ?_) (fun c2 => ?_)
    · refine ax_iincK (q := 92) (lv2 := [some (ax_r 5), some (ax_i x1), none, some (ax_i x3), some (ax_i (x4 + (1 : Int32))), some (ax_i x5), some (ax_i x6), none]) dX0_reach_89 rfl rfl ki_1 (by decide) rfl rfl ?_
      refine ax_goto (tgt := 7) dX0_reach_92 (by decide) ?_
      refine ax_fg (lv2 := [some (ax_r 5), some (ax_i x1), none, some (ax_i x3), some (ax_i (x4 + (1 : Int32))), none, none, none]) ⟨rfl, rfl, rfl, rfl, trivial⟩ ?_
      exact (k1 c1 c2)
    · refine ax_goto (tgt := 95) dX0_reach_86 (by decide) ?_
      refine ax_iload_n (q := 96) (i := 3) dX0_reach_95 rfl rfl rfl ?_
      exact ax_iret dX0_reach_96 rfl rfl (k2 c1 c2)
  · refine ax_iconst (q := 32) dX0_reach_31 rfl ki_1 ?_
    refine ax_aload_n (q := 33) (i := 0) dX0_reach_32 rfl rfl rfl ?_
    refine ax_get (q := 36) (k := 5) (j := 5) (v := ax_r 28) dX0_reach_33 rfl shC_5 rfl rfl rfl (by decide) fl_X0_27 ?_
    refine ax_iload (q := 38) dX0_reach_36 rfl rfl ?_
    refine ax_iald (q := 39) (a := (Int32.toNatClampNeg x6)) (v := (σ.1 28 (Int32.toNatClampNeg x6))) dX0_reach_38 rfl shC_28 (h3 c1) rfl rfl ?_
    refine ax_ishl (q := 40) dX0_reach_39 rfl ?_
    refine ax_iconst (q := 41) dX0_reach_40 rfl ki_1 ?_
    refine ax_aload_n (q := 42) (i := 0) dX0_reach_41 rfl rfl rfl ?_
    refine ax_get (q := 45) (k := 5) (j := 6) (v := ax_r 29) dX0_reach_42 rfl shC_5 rfl rfl rfl (by decide) fl_X0_30 ?_
    refine ax_iload (q := 47) dX0_reach_45 rfl rfl ?_
    refine ax_iald (q := 48) (a := (Int32.toNatClampNeg x6)) (v := (σ.1 29 (Int32.toNatClampNeg x6))) dX0_reach_47 rfl shC_29 (h3 c1) rfl rfl ?_
    refine ax_ishl (q := 49) dX0_reach_48 rfl ?_
    refine ax_ior (q := 50) dX0_reach_49 rfl ?_
    refine ax_istore (q := 52) (lv2 := [some (ax_r 5), some (ax_i x1), none, some (ax_i x3), some (ax_i x4), some (ax_i x5), some (ax_i x6), some (ax_i (((1 : Int32) <<< ((σ.1 28 (Int32.toNatClampNeg x6)) &&& 31)) ||| ((1 : Int32) <<< ((σ.1 29 (Int32.toNatClampNeg x6)) &&& 31))))]) dX0_reach_50 rfl (by decide) rfl rfl ?_
    refine ax_iload_n (q := 53) (i := 1) dX0_reach_52 rfl rfl rfl ?_
    refine ax_iload (q := 55) dX0_reach_53 rfl rfl ?_
    refine ax_callNfi (q := 58) (As := [ax_i x1, ax_i x6]) (st := []) (x := ((x1 >>> (x6 &&& 31)) &&& (1 : Int32))) (σ2 := σ) dX0_reach_55 rfl lk_X0_74 rfl rfl (Nat.le_of_ble_eq_true rfl) (f_X11_bitOf (sh := shC) σ x1 x6  (d := d) (by omega)) ?_
    refine ax_iconst (q := 59) dX0_reach_58 rfl ki_1 ?_
    refine ax_icmp_ne (tgt := 74) (q := 62) dX0_reach_59 (by decide) rfl (fun c3 => ?_) (fun c3 => ?_)
    · refine ax_iincK (q := 77) (lv2 := [some (ax_r 5), some (ax_i x1), none, some (ax_i x3), some (ax_i x4), some (ax_i x5), some (ax_i (x6 + (1 : Int32))), some (ax_i (((1 : Int32) <<< ((σ.1 28 (Int32.toNatClampNeg x6)) &&& 31)) ||| ((1 : Int32) <<< ((σ.1 29 (Int32.toNatClampNeg x6)) &&& 31))))]) dX0_reach_74 rfl rfl ki_1 (by decide) rfl rfl ?_
      refine ax_goto (tgt := 22) dX0_reach_77 (by decide) ?_
      refine ax_fg (lv2 := [some (ax_r 5), some (ax_i x1), none, some (ax_i x3), some (ax_i x4), some (ax_i x5), some (ax_i (x6 + (1 : Int32))), none]) ⟨rfl, rfl, rfl, rfl, rfl, rfl, trivial⟩ ?_
      exact (k4 c1 c3)
    · refine ax_iload_n (q := 63) (i := 3) dX0_reach_62 rfl rfl rfl ?_
      refine ax_iload (q := 65) dX0_reach_63 rfl rfl ?_
      refine ax_iand (q := 66) dX0_reach_65 rfl ?_
      refine ax_if_eq (tgt := 74) (q := 69) dX0_reach_66 (by decide) rfl (fun c4 => ?_) (fun c4 => ?_)
      · refine ax_iincK (q := 77) (lv2 := [some (ax_r 5), some (ax_i x1), none, some (ax_i x3), some (ax_i x4), some (ax_i x5), some (ax_i (x6 + (1 : Int32))), some (ax_i (((1 : Int32) <<< ((σ.1 28 (Int32.toNatClampNeg x6)) &&& 31)) ||| ((1 : Int32) <<< ((σ.1 29 (Int32.toNatClampNeg x6)) &&& 31))))]) dX0_reach_74 rfl rfl ki_1 (by decide) rfl rfl ?_
        refine ax_goto (tgt := 22) dX0_reach_77 (by decide) ?_
        refine ax_fg (lv2 := [some (ax_r 5), some (ax_i x1), none, some (ax_i x3), some (ax_i x4), some (ax_i x5), some (ax_i (x6 + (1 : Int32))), none]) ⟨rfl, rfl, rfl, rfl, rfl, rfl, trivial⟩ ?_
        exact (k5 c1 c3 c4)
      · refine ax_iload_n (q := 70) (i := 3) dX0_reach_69 rfl rfl rfl ?_
        refine ax_iload (q := 72) dX0_reach_70 rfl rfl ?_
        refine ax_ior (q := 73) dX0_reach_72 rfl ?_
        refine ax_istore_n (q := 74) (i := 3) (lv2 := [some (ax_r 5), some (ax_i x1), none, some (ax_i (x3 ||| (((1 : Int32) <<< ((σ.1 28 (Int32.toNatClampNeg x6)) &&& 31)) ||| ((1 : Int32) <<< ((σ.1 29 (Int32.toNatClampNeg x6)) &&& 31))))), some (ax_i x4), some (ax_i x5), some (ax_i x6), some (ax_i (((1 : Int32) <<< ((σ.1 28 (Int32.toNatClampNeg x6)) &&& 31)) ||| ((1 : Int32) <<< ((σ.1 29 (Int32.toNatClampNeg x6)) &&& 31))))]) dX0_reach_73 rfl rfl (by decide) rfl rfl ?_
        refine ax_iincK (q := 77) (lv2 := [some (ax_r 5), some (ax_i x1), none, some (ax_i (x3 ||| (((1 : Int32) <<< ((σ.1 28 (Int32.toNatClampNeg x6)) &&& 31)) ||| ((1 : Int32) <<< ((σ.1 29 (Int32.toNatClampNeg x6)) &&& 31))))), some (ax_i x4), some (ax_i x5), some (ax_i (x6 + (1 : Int32))), some (ax_i (((1 : Int32) <<< ((σ.1 28 (Int32.toNatClampNeg x6)) &&& 31)) ||| ((1 : Int32) <<< ((σ.1 29 (Int32.toNatClampNeg x6)) &&& 31))))]) dX0_reach_74 rfl rfl ki_1 (by decide) rfl rfl ?_
        refine ax_goto (tgt := 22) dX0_reach_77 (by decide) ?_
        refine ax_fg (lv2 := [some (ax_r 5), some (ax_i x1), none, some (ax_i (x3 ||| (((1 : Int32) <<< ((σ.1 28 (Int32.toNatClampNeg x6)) &&& 31)) ||| ((1 : Int32) <<< ((σ.1 29 (Int32.toNatClampNeg x6)) &&& 31))))), some (ax_i x4), some (ax_i x5), some (ax_i (x6 + (1 : Int32))), none]) ⟨rfl, rfl, rfl, rfl, rfl, rfl, trivial⟩ ?_
        exact (k6 c1 c3 c4)
set_option maxRecDepth 20000 in
theorem s_X0_mayJoin_0 {d : Nat} (hd : 1 ≤ d) {Q : Option ax_V → ax_S → Prop} (σ : ax_S) (a0 : Int32) (a1 : Int32) (h1 : vp_in a0 8) (h2 : (¬ (σ.1 26 (Int32.toNatClampNeg a0)) = (2 : Int32)) → vp_in a0 8) (h3 : (¬ (σ.1 26 (Int32.toNatClampNeg a0)) = (2 : Int32)) → vp_in a1 8) (k4 : (¬ (σ.1 26 (Int32.toNatClampNeg a0)) = (2 : Int32)) → Q (some (ax_i (if (¬ (¬ ((((((1 : Int32) <<< ((σ.1 5 10) &&& 31)) - (1 : Int32)) &&& ((σ.1 5 11) ^^^ (-1 : Int32))) &&& (σ.1 31 (Int32.toNatClampNeg a0))) &&& (((((1 : Int32) <<< ((σ.1 5 10) &&& 31)) - (1 : Int32)) &&& ((σ.1 5 11) ^^^ (-1 : Int32))) &&& (σ.1 31 (Int32.toNatClampNeg a1)))) = 0)) then (1 : Int32) else 0))) σ) (h5 : (¬ (¬ (σ.1 26 (Int32.toNatClampNeg a0)) = (2 : Int32))) → vp_in a1 8) (h6 : (¬ (¬ (σ.1 26 (Int32.toNatClampNeg a0)) = (2 : Int32))) → (¬ (σ.1 26 (Int32.toNatClampNeg a1)) = (2 : Int32)) → vp_in a0 8) (h7 : (¬ (¬ (σ.1 26 (Int32.toNatClampNeg a0)) = (2 : Int32))) → (¬ (σ.1 26 (Int32.toNatClampNeg a1)) = (2 : Int32)) → vp_in a1 8) (k8 : (¬ (¬ (σ.1 26 (Int32.toNatClampNeg a0)) = (2 : Int32))) → (¬ (σ.1 26 (Int32.toNatClampNeg a1)) = (2 : Int32)) → Q (some (ax_i (if (¬ (¬ ((((((1 : Int32) <<< ((σ.1 5 10) &&& 31)) - (1 : Int32)) &&& ((σ.1 5 11) ^^^ (-1 : Int32))) &&& (σ.1 31 (Int32.toNatClampNeg a0))) &&& (((((1 : Int32) <<< ((σ.1 5 10) &&& 31)) - (1 : Int32)) &&& ((σ.1 5 11) ^^^ (-1 : Int32))) &&& (σ.1 31 (Int32.toNatClampNeg a1)))) = 0)) then (1 : Int32) else 0))) σ) (k9 : (¬ (¬ (σ.1 26 (Int32.toNatClampNeg a0)) = (2 : Int32))) → (¬ (¬ (σ.1 26 (Int32.toNatClampNeg a1)) = (2 : Int32))) → Q (some (ax_i (0 : Int32))) σ) : ax_W shC (d + 1) mX0_mayJoin Q 0 [some (ax_r 5), some (ax_i a0), some (ax_i a1)] [] σ := by
  refine ax_aload_n (q := 1) (i := 0) dX0_mayJoin_0 rfl rfl rfl ?_
  refine ax_get (q := 4) (k := 5) (j := 3) (v := ax_r 26) dX0_mayJoin_1 rfl shC_5 rfl rfl rfl (by decide) fl_X0_21 ?_
  refine ax_iload_n (q := 5) (i := 1) dX0_mayJoin_4 rfl rfl rfl ?_
  refine ax_iald (q := 6) (a := (Int32.toNatClampNeg a0)) (v := (σ.1 26 (Int32.toNatClampNeg a0))) dX0_mayJoin_5 rfl shC_26 h1 rfl rfl ?_
  refine ax_iconst (q := 7) dX0_mayJoin_6 rfl ki_2 ?_
  refine ax_icmp_ne (tgt := 22) (q := 10) dX0_mayJoin_7 (by decide) rfl (fun c1 => ?_) (fun c1 => ?_)
  · refine ax_aload_n (q := 23) (i := 0) dX0_mayJoin_22 rfl rfl rfl ?_
    refine ax_aload_n (q := 24) (i := 0) dX0_mayJoin_23 rfl rfl rfl ?_
    refine ax_callVfi (q := 27) (As := []) (st := [ax_r 5]) (x := ((((1 : Int32) <<< ((σ.1 5 10) &&& 31)) - (1 : Int32)) &&& ((σ.1 5 11) ^^^ (-1 : Int32)))) (σ2 := σ) dX0_mayJoin_24 rfl lk_X0_78 shC_5 rfl rfl rfl rfl (Nat.le_of_ble_eq_true rfl) (f_X0_uncut σ   (d := d) (by omega)) ?_
    refine ax_iload_n (q := 28) (i := 1) dX0_mayJoin_27 rfl rfl rfl ?_
    refine ax_callVfi (q := 31) (As := [ax_i ((((1 : Int32) <<< ((σ.1 5 10) &&& 31)) - (1 : Int32)) &&& ((σ.1 5 11) ^^^ (-1 : Int32))), ax_i a0]) (st := []) (x := (((((1 : Int32) <<< ((σ.1 5 10) &&& 31)) - (1 : Int32)) &&& ((σ.1 5 11) ^^^ (-1 : Int32))) &&& (σ.1 31 (Int32.toNatClampNeg a0)))) (σ2 := σ) dX0_mayJoin_28 rfl lk_X0_88 shC_5 rfl rfl rfl rfl (Nat.le_of_ble_eq_true rfl) (f_X0_touching σ ((((1 : Int32) <<< ((σ.1 5 10) &&& 31)) - (1 : Int32)) &&& ((σ.1 5 11) ^^^ (-1 : Int32))) a0 (h2 c1) (d := d) (by omega)) ?_
    refine ax_aload_n (q := 32) (i := 0) dX0_mayJoin_31 rfl rfl rfl ?_
    refine ax_aload_n (q := 33) (i := 0) dX0_mayJoin_32 rfl rfl rfl ?_
    refine ax_callVfi (q := 36) (As := []) (st := [ax_r 5, ax_i (((((1 : Int32) <<< ((σ.1 5 10) &&& 31)) - (1 : Int32)) &&& ((σ.1 5 11) ^^^ (-1 : Int32))) &&& (σ.1 31 (Int32.toNatClampNeg a0)))]) (x := ((((1 : Int32) <<< ((σ.1 5 10) &&& 31)) - (1 : Int32)) &&& ((σ.1 5 11) ^^^ (-1 : Int32)))) (σ2 := σ) dX0_mayJoin_33 rfl lk_X0_78 shC_5 rfl rfl rfl rfl (Nat.le_of_ble_eq_true rfl) (f_X0_uncut σ   (d := d) (by omega)) ?_
    refine ax_iload_n (q := 37) (i := 2) dX0_mayJoin_36 rfl rfl rfl ?_
    refine ax_callVfi (q := 40) (As := [ax_i ((((1 : Int32) <<< ((σ.1 5 10) &&& 31)) - (1 : Int32)) &&& ((σ.1 5 11) ^^^ (-1 : Int32))), ax_i a1]) (st := [ax_i (((((1 : Int32) <<< ((σ.1 5 10) &&& 31)) - (1 : Int32)) &&& ((σ.1 5 11) ^^^ (-1 : Int32))) &&& (σ.1 31 (Int32.toNatClampNeg a0)))]) (x := (((((1 : Int32) <<< ((σ.1 5 10) &&& 31)) - (1 : Int32)) &&& ((σ.1 5 11) ^^^ (-1 : Int32))) &&& (σ.1 31 (Int32.toNatClampNeg a1)))) (σ2 := σ) dX0_mayJoin_37 rfl lk_X0_88 shC_5 rfl rfl rfl rfl (Nat.le_of_ble_eq_true rfl) (f_X0_touching σ ((((1 : Int32) <<< ((σ.1 5 10) &&& 31)) - (1 : Int32)) &&& ((σ.1 5 11) ^^^ (-1 : Int32))) a1 (h3 c1) (d := d) (by omega)) ?_
    refine ax_iand (q := 41) dX0_mayJoin_40 rfl ?_
    have K3 : ax_W shC (d + 1) mX0_mayJoin Q 49 [some (ax_r 5), some (ax_i a0), some (ax_i a1)] [ax_i (if (¬ (¬ ((((((1 : Int32) <<< ((σ.1 5 10) &&& 31)) - (1 : Int32)) &&& ((σ.1 5 11) ^^^ (-1 : Int32))) &&& (σ.1 31 (Int32.toNatClampNeg a0))) &&& (((((1 : Int32) <<< ((σ.1 5 10) &&& 31)) - (1 : Int32)) &&& ((σ.1 5 11) ^^^ (-1 : Int32))) &&& (σ.1 31 (Int32.toNatClampNeg a1)))) = 0)) then (1 : Int32) else 0)] σ := by
      exact ax_iret dX0_mayJoin_49 rfl (ax_nb _) (k4 c1)
    refine ax_if_ne (tgt := 48) (q := 44) dX0_mayJoin_41 (by decide) rfl (fun c2 => ?_) (fun c2 => ?_)
    · refine ax_iconst (q := 49) dX0_mayJoin_48 rfl ki_0 ?_
      exact ax_cv (if_neg (fun y => y c2)) K3
    · refine ax_iconst (q := 45) dX0_mayJoin_44 rfl ki_1 ?_
      refine ax_goto (tgt := 49) dX0_mayJoin_45 (by decide) ?_
      exact ax_cv (if_pos c2) K3
  · refine ax_aload_n (q := 11) (i := 0) dX0_mayJoin_10 rfl rfl rfl ?_
    refine ax_get (q := 14) (k := 5) (j := 3) (v := ax_r 26) dX0_mayJoin_11 rfl shC_5 rfl rfl rfl (by decide) fl_X0_21 ?_
    refine ax_iload_n (q := 15) (i := 2) dX0_mayJoin_14 rfl rfl rfl ?_
    refine ax_iald (q := 16) (a := (Int32.toNatClampNeg a1)) (v := (σ.1 26 (Int32.toNatClampNeg a1))) dX0_mayJoin_15 rfl shC_26 (h5 c1) rfl rfl ?_
    refine ax_iconst (q := 17) dX0_mayJoin_16 rfl ki_2 ?_
    refine ax_icmp_ne (tgt := 22) (q := 20) dX0_mayJoin_17 (by decide) rfl (fun c4 => ?_) (fun c4 => ?_)
    · refine ax_aload_n (q := 23) (i := 0) dX0_mayJoin_22 rfl rfl rfl ?_
      refine ax_aload_n (q := 24) (i := 0) dX0_mayJoin_23 rfl rfl rfl ?_
      refine ax_callVfi (q := 27) (As := []) (st := [ax_r 5]) (x := ((((1 : Int32) <<< ((σ.1 5 10) &&& 31)) - (1 : Int32)) &&& ((σ.1 5 11) ^^^ (-1 : Int32)))) (σ2 := σ) dX0_mayJoin_24 rfl lk_X0_78 shC_5 rfl rfl rfl rfl (Nat.le_of_ble_eq_true rfl) (f_X0_uncut σ   (d := d) (by omega)) ?_
      refine ax_iload_n (q := 28) (i := 1) dX0_mayJoin_27 rfl rfl rfl ?_
      refine ax_callVfi (q := 31) (As := [ax_i ((((1 : Int32) <<< ((σ.1 5 10) &&& 31)) - (1 : Int32)) &&& ((σ.1 5 11) ^^^ (-1 : Int32))), ax_i a0]) (st := []) (x := (((((1 : Int32) <<< ((σ.1 5 10) &&& 31)) - (1 : Int32)) &&& ((σ.1 5 11) ^^^ (-1 : Int32))) &&& (σ.1 31 (Int32.toNatClampNeg a0)))) (σ2 := σ) dX0_mayJoin_28 rfl lk_X0_88 shC_5 rfl rfl rfl rfl (Nat.le_of_ble_eq_true rfl) (f_X0_touching σ ((((1 : Int32) <<< ((σ.1 5 10) &&& 31)) - (1 : Int32)) &&& ((σ.1 5 11) ^^^ (-1 : Int32))) a0 (h6 c1 c4) (d := d) (by omega)) ?_
      refine ax_aload_n (q := 32) (i := 0) dX0_mayJoin_31 rfl rfl rfl ?_
      refine ax_aload_n (q := 33) (i := 0) dX0_mayJoin_32 rfl rfl rfl ?_
      refine ax_callVfi (q := 36) (As := []) (st := [ax_r 5, ax_i (((((1 : Int32) <<< ((σ.1 5 10) &&& 31)) - (1 : Int32)) &&& ((σ.1 5 11) ^^^ (-1 : Int32))) &&& (σ.1 31 (Int32.toNatClampNeg a0)))]) (x := ((((1 : Int32) <<< ((σ.1 5 10) &&& 31)) - (1 : Int32)) &&& ((σ.1 5 11) ^^^ (-1 : Int32)))) (σ2 := σ) dX0_mayJoin_33 rfl lk_X0_78 shC_5 rfl rfl rfl rfl (Nat.le_of_ble_eq_true rfl) (f_X0_uncut σ   (d := d) (by omega)) ?_
      refine ax_iload_n (q := 37) (i := 2) dX0_mayJoin_36 rfl rfl rfl ?_
      refine ax_callVfi (q := 40) (As := [ax_i ((((1 : Int32) <<< ((σ.1 5 10) &&& 31)) - (1 : Int32)) &&& ((σ.1 5 11) ^^^ (-1 : Int32))), ax_i a1]) (st := [ax_i (((((1 : Int32) <<< ((σ.1 5 10) &&& 31)) - (1 : Int32)) &&& ((σ.1 5 11) ^^^ (-1 : Int32))) &&& (σ.1 31 (Int32.toNatClampNeg a0)))]) (x := (((((1 : Int32) <<< ((σ.1 5 10) &&& 31)) - (1 : Int32)) &&& ((σ.1 5 11) ^^^ (-1 : Int32))) &&& (σ.1 31 (Int32.toNatClampNeg a1)))) (σ2 := σ) dX0_mayJoin_37 rfl lk_X0_88 shC_5 rfl rfl rfl rfl (Nat.le_of_ble_eq_true rfl) (f_X0_touching σ ((((1 : Int32) <<< ((σ.1 5 10) &&& 31)) - (1 : Int32)) &&& ((σ.1 5 11) ^^^ (-1 : Int32))) a1 (h7 c1 c4) (d := d) (by omega)) ?_
      refine ax_iand (q := 41) dX0_mayJoin_40 rfl ?_
      have K6 : ax_W shC (d + 1) mX0_mayJoin Q 49 [some (ax_r 5), some (ax_i a0), some (ax_i a1)] [ax_i (if (¬ (¬ ((((((1 : Int32) <<< ((σ.1 5 10) &&& 31)) - (1 : Int32)) &&& ((σ.1 5 11) ^^^ (-1 : Int32))) &&& (σ.1 31 (Int32.toNatClampNeg a0))) &&& (((((1 : Int32) <<< ((σ.1 5 10) &&& 31)) - (1 : Int32)) &&& ((σ.1 5 11) ^^^ (-1 : Int32))) &&& (σ.1 31 (Int32.toNatClampNeg a1)))) = 0)) then (1 : Int32) else 0)] σ := by
        exact ax_iret dX0_mayJoin_49 rfl (ax_nb _) (k8 c1 c4)
      refine ax_if_ne (tgt := 48) (q := 44) dX0_mayJoin_41 (by decide) rfl (fun c5 => ?_) (fun c5 => ?_)
      · refine ax_iconst (q := 49) dX0_mayJoin_48 rfl ki_0 ?_
        exact ax_cv (if_neg (fun y => y c5)) K6
      · refine ax_iconst (q := 45) dX0_mayJoin_44 rfl ki_1 ?_
        refine ax_goto (tgt := 49) dX0_mayJoin_45 (by decide) ?_
        exact ax_cv (if_pos c5) K6
    · refine ax_iconst (q := 21) dX0_mayJoin_20 rfl ki_0 ?_
      exact ax_iret dX0_mayJoin_21 rfl rfl (k9 c1 c4)
set_option maxRecDepth 20000 in
theorem f_X0_apart (σ : ax_S) (a0 : Int32) (a1 : Int32) (h1 : vp_in a0 8) (h2 : vp_in a1 8) {d : Nat} (hd : 1 ≤ d) : ax_Ct shC d mX0_apart [ax_r 5, ax_i a0, ax_i a1] (fun r u => r = some (ax_i (if (0 : Int32) ≤ ((σ.1 23 (Int32.toNatClampNeg a0)) - (σ.1 23 (Int32.toNatClampNeg a1))) then ((σ.1 23 (Int32.toNatClampNeg a0)) - (σ.1 23 (Int32.toNatClampNeg a1))) else 0 - ((σ.1 23 (Int32.toNatClampNeg a0)) - (σ.1 23 (Int32.toNatClampNeg a1))))) ∧ u = σ) σ := by
  obtain ⟨d, rfl⟩ : ∃ e, d = e + 1 := ⟨d - 1, by omega⟩
  refine ax_Ct.of (lv := [some (ax_r 5), some (ax_i a0), some (ax_i a1)]) (by decide +kernel) (fun ad => Nat.le_of_ble_eq_true rfl) (fun ad => rfl) ?_
  refine ax_aload_n (q := 1) (i := 0) dX0_apart_0 rfl rfl rfl ?_
  refine ax_get (q := 4) (k := 5) (j := 0) (v := ax_r 23) dX0_apart_1 rfl shC_5 rfl rfl rfl (by decide) fl_X0_9 ?_
  refine ax_iload_n (q := 5) (i := 1) dX0_apart_4 rfl rfl rfl ?_
  refine ax_iald (q := 6) (a := (Int32.toNatClampNeg a0)) (v := (σ.1 23 (Int32.toNatClampNeg a0))) dX0_apart_5 rfl shC_23 h1 rfl rfl ?_
  refine ax_aload_n (q := 7) (i := 0) dX0_apart_6 rfl rfl rfl ?_
  refine ax_get (q := 10) (k := 5) (j := 0) (v := ax_r 23) dX0_apart_7 rfl shC_5 rfl rfl rfl (by decide) fl_X0_9 ?_
  refine ax_iload_n (q := 11) (i := 2) dX0_apart_10 rfl rfl rfl ?_
  refine ax_iald (q := 12) (a := (Int32.toNatClampNeg a1)) (v := (σ.1 23 (Int32.toNatClampNeg a1))) dX0_apart_11 rfl shC_23 h2 rfl rfl ?_
  refine ax_isub (q := 13) dX0_apart_12 rfl ?_
  refine ax_mabs (q := 16) dX0_apart_13 rfl mk_X0_91 (Nat.le_of_ble_eq_true rfl) ?_
  exact ax_iret dX0_apart_16 rfl rfl ⟨rfl, rfl⟩
set_option maxRecDepth 20000 in
theorem f_X0_price (σ : ax_S) (a0 : Int32) (a1 : Int32) (h1 : vp_in a0 8) (h2 : vp_in a1 8) {d : Nat} (hd : 2 ≤ d) : ax_Ct shC d mX0_price [ax_r 5, ax_i a0, ax_i a1] (fun r u => r = some (ax_i (if (1 : Int32) < (if (0 : Int32) ≤ ((σ.1 23 (Int32.toNatClampNeg a0)) - (σ.1 23 (Int32.toNatClampNeg a1))) then ((σ.1 23 (Int32.toNatClampNeg a0)) - (σ.1 23 (Int32.toNatClampNeg a1))) else 0 - ((σ.1 23 (Int32.toNatClampNeg a0)) - (σ.1 23 (Int32.toNatClampNeg a1)))) then (if (0 : Int32) ≤ ((σ.1 23 (Int32.toNatClampNeg a0)) - (σ.1 23 (Int32.toNatClampNeg a1))) then ((σ.1 23 (Int32.toNatClampNeg a0)) - (σ.1 23 (Int32.toNatClampNeg a1))) else 0 - ((σ.1 23 (Int32.toNatClampNeg a0)) - (σ.1 23 (Int32.toNatClampNeg a1)))) else (1 : Int32))) ∧ u = σ) σ := by
  obtain ⟨d, rfl⟩ : ∃ e, d = e + 1 := ⟨d - 1, by omega⟩
  refine ax_Ct.of (lv := [some (ax_r 5), some (ax_i a0), some (ax_i a1)]) (by decide +kernel) (fun ad => Nat.le_of_ble_eq_true rfl) (fun ad => rfl) ?_
  refine ax_iconst (q := 1) dX0_price_0 rfl ki_1 ?_
  refine ax_aload_n (q := 2) (i := 0) dX0_price_1 rfl rfl rfl ?_
  refine ax_iload_n (q := 3) (i := 1) dX0_price_2 rfl rfl rfl ?_
  refine ax_iload_n (q := 4) (i := 2) dX0_price_3 rfl rfl rfl ?_
  refine ax_callVfi (q := 7) (As := [ax_i a0, ax_i a1]) (st := [ax_i (1 : Int32)]) (x := (if (0 : Int32) ≤ ((σ.1 23 (Int32.toNatClampNeg a0)) - (σ.1 23 (Int32.toNatClampNeg a1))) then ((σ.1 23 (Int32.toNatClampNeg a0)) - (σ.1 23 (Int32.toNatClampNeg a1))) else 0 - ((σ.1 23 (Int32.toNatClampNeg a0)) - (σ.1 23 (Int32.toNatClampNeg a1))))) (σ2 := σ) dX0_price_4 rfl lk_X0_97 shC_5 rfl rfl rfl rfl (Nat.le_of_ble_eq_true rfl) (f_X0_apart σ a0 a1 h1 h2 (d := d) (by omega)) ?_
  refine ax_mmax (q := 10) dX0_price_7 rfl mk_X0_100 (Nat.le_of_ble_eq_true rfl) ?_
  exact ax_iret dX0_price_10 rfl rfl ⟨rfl, rfl⟩
set_option maxRecDepth 20000 in
theorem s_X0_think_0 {d : Nat} (hd : 0 ≤ d) {Q : Option ax_V → ax_S → Prop} (σ : ax_S) (a0 : Int32) (a1 : Int32) (h1 : vp_in (σ.1 5 10) 17) (k2 : ax_W shC (d + 1) mX0_think Q 49 [some (ax_r 5), some (ax_i a0), some (ax_i a1), some (ax_i (0 : Int32))] [] (ax_ui (ax_ui (ax_ui (ax_ui σ 28 (Int32.toNatClampNeg (σ.1 5 10)) a0) 29 (Int32.toNatClampNeg (σ.1 5 10)) a1) 30 (Int32.toNatClampNeg (σ.1 5 10)) (0 : Int32)) 5 11 ((σ.1 5 11) &&& (((1 : Int32) <<< ((σ.1 5 10) &&& 31)) ^^^ (-1 : Int32))))) : ax_W shC (d + 1) mX0_think Q 0 [some (ax_r 5), some (ax_i a0), some (ax_i a1), none] [] σ := by
  refine ax_aload_n (q := 1) (i := 0) dX0_think_0 rfl rfl rfl ?_
  refine ax_get (q := 4) (k := 5) (j := 5) (v := ax_r 28) dX0_think_1 rfl shC_5 rfl rfl rfl (by decide) fl_X0_27 ?_
  refine ax_aload_n (q := 5) (i := 0) dX0_think_4 rfl rfl rfl ?_
  refine ax_get (q := 8) (k := 5) (j := 10) (v := ax_i (σ.1 5 10)) dX0_think_5 rfl shC_5 rfl rfl rfl (by decide) fl_X0_49 ?_
  refine ax_iload_n (q := 9) (i := 1) dX0_think_8 rfl rfl rfl ?_
  refine ax_iast (q := 10) (a := (Int32.toNatClampNeg (σ.1 5 10))) dX0_think_9 rfl shC_28 h1 rfl ?_
  refine ax_aload_n (q := 11) (i := 0) dX0_think_10 rfl rfl rfl ?_
  refine ax_get (q := 14) (k := 5) (j := 6) (v := ax_r 29) dX0_think_11 rfl shC_5 rfl rfl rfl (by decide) fl_X0_30 ?_
  refine ax_aload_n (q := 15) (i := 0) dX0_think_14 rfl rfl rfl ?_
  refine ax_get (q := 18) (k := 5) (j := 10) (v := ax_i (σ.1 5 10)) dX0_think_15 rfl shC_5 rfl rfl rfl (by decide) fl_X0_49 ?_
  refine ax_iload_n (q := 19) (i := 2) dX0_think_18 rfl rfl rfl ?_
  refine ax_iast (q := 20) (a := (Int32.toNatClampNeg (σ.1 5 10))) dX0_think_19 rfl shC_29 h1 rfl ?_
  refine ax_aload_n (q := 21) (i := 0) dX0_think_20 rfl rfl rfl ?_
  refine ax_get (q := 24) (k := 5) (j := 7) (v := ax_r 30) dX0_think_21 rfl shC_5 rfl rfl rfl (by decide) fl_X0_33 ?_
  refine ax_aload_n (q := 25) (i := 0) dX0_think_24 rfl rfl rfl ?_
  refine ax_get (q := 28) (k := 5) (j := 10) (v := ax_i (σ.1 5 10)) dX0_think_25 rfl shC_5 rfl rfl rfl (by decide) fl_X0_49 ?_
  refine ax_iconst (q := 29) dX0_think_28 rfl ki_0 ?_
  refine ax_iast (q := 30) (a := (Int32.toNatClampNeg (σ.1 5 10))) dX0_think_29 rfl shC_30 h1 rfl ?_
  refine ax_aload_n (q := 31) (i := 0) dX0_think_30 rfl rfl rfl ?_
  refine ax_dupr (q := 32) dX0_think_31 rfl ?_
  refine ax_get (q := 35) (k := 5) (j := 11) (v := ax_i (σ.1 5 11)) dX0_think_32 rfl shC_5 rfl rfl rfl (by decide) fl_X0_50 ?_
  refine ax_iconst (q := 36) dX0_think_35 rfl ki_1 ?_
  refine ax_aload_n (q := 37) (i := 0) dX0_think_36 rfl rfl rfl ?_
  refine ax_get (q := 40) (k := 5) (j := 10) (v := ax_i (σ.1 5 10)) dX0_think_37 rfl shC_5 rfl rfl rfl (by decide) fl_X0_49 ?_
  refine ax_ishl (q := 41) dX0_think_40 rfl ?_
  refine ax_iconst (q := 42) dX0_think_41 rfl ki_m1 ?_
  refine ax_ixor (q := 43) dX0_think_42 rfl ?_
  refine ax_iand (q := 44) dX0_think_43 rfl ?_
  refine ax_puti (q := 47) (k := 5) (j := 11) dX0_think_44 rfl shC_5 rfl rfl (by decide) fl_X0_50 rfl rfl rfl rfl ?_
  refine ax_iconst (q := 48) dX0_think_47 rfl ki_0 ?_
  refine ax_istore_n (q := 49) (i := 3) (lv2 := [some (ax_r 5), some (ax_i a0), some (ax_i a1), some (ax_i (0 : Int32))]) dX0_think_48 rfl rfl (by decide) rfl rfl ?_
  exact k2
set_option maxRecDepth 20000 in
theorem s_X0_think_49 {d : Nat} (hd : 0 ≤ d) {Q : Option ax_V → ax_S → Prop} (σ : ax_S) (x1 : Int32) (x2 : Int32) (x3 : Int32) (h1 : ((σ.1 5 9) ≤ x3) → vp_in x1 8) (h2 : ((σ.1 5 9) ≤ x3) → vp_in x2 8) (k3 : ((σ.1 5 9) ≤ x3) → Q none (ax_ui (ax_ui σ 31 (Int32.toNatClampNeg x1) ((σ.1 31 (Int32.toNatClampNeg x1)) ||| ((1 : Int32) <<< ((σ.1 5 10) &&& 31)))) 31 (Int32.toNatClampNeg x2) (((ax_ui σ 31 (Int32.toNatClampNeg x1) ((σ.1 31 (Int32.toNatClampNeg x1)) ||| ((1 : Int32) <<< ((σ.1 5 10) &&& 31)))).1 31 (Int32.toNatClampNeg x2)) ||| ((1 : Int32) <<< ((σ.1 5 10) &&& 31))))) (h4 : (¬ ((σ.1 5 9) ≤ x3)) → vp_in x3 8) (k5 : (¬ ((σ.1 5 9) ≤ x3)) → ax_W shC (d + 1) mX0_think Q 49 [some (ax_r 5), some (ax_i x1), some (ax_i x2), some (ax_i (x3 + (1 : Int32)))] [] (ax_ui σ 31 (Int32.toNatClampNeg x3) ((σ.1 31 (Int32.toNatClampNeg x3)) &&& (((1 : Int32) <<< ((σ.1 5 10) &&& 31)) ^^^ (-1 : Int32))))) : ax_W shC (d + 1) mX0_think Q 49 [some (ax_r 5), some (ax_i x1), some (ax_i x2), some (ax_i x3)] [] σ := by
  refine ax_iload_n (q := 50) (i := 3) dX0_think_49 rfl rfl rfl ?_
  refine ax_aload_n (q := 51) (i := 0) dX0_think_50 rfl rfl rfl ?_
  refine ax_get (q := 54) (k := 5) (j := 9) (v := ax_i (σ.1 5 9)) dX0_think_51 rfl shC_5 rfl rfl rfl (by decide) fl_X0_45 ?_
  refine ax_icmp_ge (tgt := 80) (q := 57) dX0_think_54 (by decide) rfl (fun c1 => ?_) (fun c1 => ?_)
  · refine ax_aload_n (q := 81) (i := 0) dX0_think_80 rfl rfl rfl ?_
    refine ax_get (q := 84) (k := 5) (j := 8) (v := ax_r 31) dX0_think_81 rfl shC_5 rfl rfl rfl (by decide) fl_X0_36 ?_
    refine ax_iload_n (q := 85) (i := 1) dX0_think_84 rfl rfl rfl ?_
    refine ax_dup2_11 (q := 86) dX0_think_85 rfl ?_
    refine ax_iald (q := 87) (a := (Int32.toNatClampNeg x1)) (v := (σ.1 31 (Int32.toNatClampNeg x1))) dX0_think_86 rfl shC_31 (h1 c1) rfl rfl ?_
    refine ax_iconst (q := 88) dX0_think_87 rfl ki_1 ?_
    refine ax_aload_n (q := 89) (i := 0) dX0_think_88 rfl rfl rfl ?_
    refine ax_get (q := 92) (k := 5) (j := 10) (v := ax_i (σ.1 5 10)) dX0_think_89 rfl shC_5 rfl rfl rfl (by decide) fl_X0_49 ?_
    refine ax_ishl (q := 93) dX0_think_92 rfl ?_
    refine ax_ior (q := 94) dX0_think_93 rfl ?_
    refine ax_iast (q := 95) (a := (Int32.toNatClampNeg x1)) dX0_think_94 rfl shC_31 (h1 c1) rfl ?_
    refine ax_aload_n (q := 96) (i := 0) dX0_think_95 rfl rfl rfl ?_
    refine ax_get (q := 99) (k := 5) (j := 8) (v := ax_r 31) dX0_think_96 rfl shC_5 rfl rfl rfl (by decide) fl_X0_36 ?_
    refine ax_iload_n (q := 100) (i := 2) dX0_think_99 rfl rfl rfl ?_
    refine ax_dup2_11 (q := 101) dX0_think_100 rfl ?_
    refine ax_iald (q := 102) (a := (Int32.toNatClampNeg x2)) (v := ((ax_ui σ 31 (Int32.toNatClampNeg x1) ((σ.1 31 (Int32.toNatClampNeg x1)) ||| ((1 : Int32) <<< ((σ.1 5 10) &&& 31)))).1 31 (Int32.toNatClampNeg x2))) dX0_think_101 rfl shC_31 (h2 c1) rfl rfl ?_
    refine ax_iconst (q := 103) dX0_think_102 rfl ki_1 ?_
    refine ax_aload_n (q := 104) (i := 0) dX0_think_103 rfl rfl rfl ?_
    refine ax_get (q := 107) (k := 5) (j := 10) (v := ax_i (σ.1 5 10)) dX0_think_104 rfl shC_5 rfl rfl rfl (by decide) fl_X0_49 ?_
    refine ax_ishl (q := 108) dX0_think_107 rfl ?_
    refine ax_ior (q := 109) dX0_think_108 rfl ?_
    refine ax_iast (q := 110) (a := (Int32.toNatClampNeg x2)) dX0_think_109 rfl shC_31 (h2 c1) rfl ?_
    exact ax_vret dX0_think_110 rfl (k3 c1)
  · refine ax_aload_n (q := 58) (i := 0) dX0_think_57 rfl rfl rfl ?_
    refine ax_get (q := 61) (k := 5) (j := 8) (v := ax_r 31) dX0_think_58 rfl shC_5 rfl rfl rfl (by decide) fl_X0_36 ?_
    refine ax_iload_n (q := 62) (i := 3) dX0_think_61 rfl rfl rfl ?_
    refine ax_dup2_11 (q := 63) dX0_think_62 rfl ?_
    refine ax_iald (q := 64) (a := (Int32.toNatClampNeg x3)) (v := (σ.1 31 (Int32.toNatClampNeg x3))) dX0_think_63 rfl shC_31 (h4 c1) rfl rfl ?_
    refine ax_iconst (q := 65) dX0_think_64 rfl ki_1 ?_
    refine ax_aload_n (q := 66) (i := 0) dX0_think_65 rfl rfl rfl ?_
    refine ax_get (q := 69) (k := 5) (j := 10) (v := ax_i (σ.1 5 10)) dX0_think_66 rfl shC_5 rfl rfl rfl (by decide) fl_X0_49 ?_
    refine ax_ishl (q := 70) dX0_think_69 rfl ?_
    refine ax_iconst (q := 71) dX0_think_70 rfl ki_m1 ?_
    refine ax_ixor (q := 72) dX0_think_71 rfl ?_
    refine ax_iand (q := 73) dX0_think_72 rfl ?_
    refine ax_iast (q := 74) (a := (Int32.toNatClampNeg x3)) dX0_think_73 rfl shC_31 (h4 c1) rfl ?_
    refine ax_iincK (q := 77) (lv2 := [some (ax_r 5), some (ax_i x1), some (ax_i x2), some (ax_i (x3 + (1 : Int32)))]) dX0_think_74 rfl rfl ki_1 (by decide) rfl rfl ?_
    refine ax_goto (tgt := 49) dX0_think_77 (by decide) ?_
    exact (k5 c1)
set_option maxRecDepth 20000 in
theorem f_X0_addCopper (σ : ax_S) (a0 : Int32)  {d : Nat} (hd : 1 ≤ d) : ax_Ct shC d mX0_addCopper [ax_r 5, ax_i a0] (fun r u => r = none ∧ u = (ax_ui σ 5 12 (if ((σ.1 5 12) + a0) < (99 : Int32) then ((σ.1 5 12) + a0) else (99 : Int32)))) σ := by
  obtain ⟨d, rfl⟩ : ∃ e, d = e + 1 := ⟨d - 1, by omega⟩
  refine ax_Ct.of (lv := [some (ax_r 5), some (ax_i a0)]) (by decide +kernel) (fun ad => Nat.le_of_ble_eq_true rfl) (fun ad => rfl) ?_
  refine ax_aload_n (q := 1) (i := 0) dX0_addCopper_0 rfl rfl rfl ?_
  refine ax_bipush (q := 3) dX0_addCopper_1 rfl kb_99 ?_
  refine ax_aload_n (q := 4) (i := 0) dX0_addCopper_3 rfl rfl rfl ?_
  refine ax_get (q := 7) (k := 5) (j := 12) (v := ax_i (σ.1 5 12)) dX0_addCopper_4 rfl shC_5 rfl rfl rfl (by decide) fl_X0_56 ?_
  refine ax_iload_n (q := 8) (i := 1) dX0_addCopper_7 rfl rfl rfl ?_
  refine ax_iadd (q := 9) dX0_addCopper_8 rfl ?_
  refine ax_mmin (q := 12) dX0_addCopper_9 rfl mk_X0_103 (Nat.le_of_ble_eq_true rfl) ?_
  refine ax_puti (q := 15) (k := 5) (j := 12) dX0_addCopper_12 rfl shC_5 rfl rfl (by decide) fl_X0_56 rfl rfl rfl rfl ?_
  exact ax_vret dX0_addCopper_15 rfl ⟨rfl, rfl⟩
set_option maxRecDepth 20000 in
theorem f_X0_bearsEarthed (σ : ax_S) (a0 : Int32) (h1 : vp_in a0 8) {d : Nat} (hd : 1 ≤ d) : ax_Ct shC d mX0_bearsEarthed [ax_r 5, ax_i a0] (fun r u => r = some (ax_i (if ((σ.1 25 (Int32.toNatClampNeg a0)) + (10 : Int32)) < (99 : Int32) then ((σ.1 25 (Int32.toNatClampNeg a0)) + (10 : Int32)) else (99 : Int32))) ∧ u = σ) σ := by
  obtain ⟨d, rfl⟩ : ∃ e, d = e + 1 := ⟨d - 1, by omega⟩
  refine ax_Ct.of (lv := [some (ax_r 5), some (ax_i a0)]) (by decide +kernel) (fun ad => Nat.le_of_ble_eq_true rfl) (fun ad => rfl) ?_
  refine ax_bipush (q := 2) dX0_bearsEarthed_0 rfl kb_99 ?_
  refine ax_aload_n (q := 3) (i := 0) dX0_bearsEarthed_2 rfl rfl rfl ?_
  refine ax_get (q := 6) (k := 5) (j := 2) (v := ax_r 25) dX0_bearsEarthed_3 rfl shC_5 rfl rfl rfl (by decide) fl_X0_18 ?_
  refine ax_iload_n (q := 7) (i := 1) dX0_bearsEarthed_6 rfl rfl rfl ?_
  refine ax_iald (q := 8) (a := (Int32.toNatClampNeg a0)) (v := (σ.1 25 (Int32.toNatClampNeg a0))) dX0_bearsEarthed_7 rfl shC_25 h1 rfl rfl ?_
  refine ax_bipush (q := 10) dX0_bearsEarthed_8 rfl kb_10 ?_
  refine ax_iadd (q := 11) dX0_bearsEarthed_10 rfl ?_
  refine ax_mmin (q := 14) dX0_bearsEarthed_11 rfl mk_X0_103 (Nat.le_of_ble_eq_true rfl) ?_
  exact ax_iret dX0_bearsEarthed_14 rfl rfl ⟨rfl, rfl⟩
set_option maxRecDepth 20000 in
theorem s_X0_scorch_0 {d : Nat} (hd : 0 ≤ d) {Q : Option ax_V → ax_S → Prop} (σ : ax_S) (a0 : Int32) (k1 : ax_W shC (d + 1) mX0_scorch Q 2 [some (ax_r 5), some (ax_i a0), some (ax_i (0 : Int32))] [] σ) : ax_W shC (d + 1) mX0_scorch Q 0 [some (ax_r 5), some (ax_i a0), none] [] σ := by
  refine ax_iconst (q := 1) dX0_scorch_0 rfl ki_0 ?_
  refine ax_istore_n (q := 2) (i := 2) (lv2 := [some (ax_r 5), some (ax_i a0), some (ax_i (0 : Int32))]) dX0_scorch_1 rfl rfl (by decide) rfl rfl ?_
  exact k1
set_option maxRecDepth 20000 in
theorem s_X0_scorch_2 {d : Nat} (hd : 1 ≤ d) {Q : Option ax_V → ax_S → Prop} (σ : ax_S) (x1 : Int32) (x2 : Int32) (k1 : ((σ.1 5 9) ≤ x2) → Q none σ) (k2 : (¬ ((σ.1 5 9) ≤ x2)) → (¬ ((x1 >>> (x2 &&& 31)) &&& (1 : Int32)) = (1 : Int32)) → ax_W shC (d + 1) mX0_scorch Q 2 [some (ax_r 5), some (ax_i x1), some (ax_i (x2 + (1 : Int32)))] [] σ) (h3 : (¬ ((σ.1 5 9) ≤ x2)) → (¬ (¬ ((x1 >>> (x2 &&& 31)) &&& (1 : Int32)) = (1 : Int32))) → vp_in x2 8) (k4 : (¬ ((σ.1 5 9) ≤ x2)) → (¬ (¬ ((x1 >>> (x2 &&& 31)) &&& (1 : Int32)) = (1 : Int32))) → ax_W shC (d + 1) mX0_scorch Q 2 [some (ax_r 5), some (ax_i x1), some (ax_i (x2 + (1 : Int32)))] [] (ax_ui (ax_ui σ 27 (Int32.toNatClampNeg x2) (if ((σ.1 27 (Int32.toNatClampNeg x2)) + (1 : Int32)) < (99 : Int32) then ((σ.1 27 (Int32.toNatClampNeg x2)) + (1 : Int32)) else (99 : Int32))) 25 (Int32.toNatClampNeg x2) (if (1 : Int32) < ((σ.1 25 (Int32.toNatClampNeg x2)) - (1 : Int32)) then ((σ.1 25 (Int32.toNatClampNeg x2)) - (1 : Int32)) else (1 : Int32)))) : ax_W shC (d + 1) mX0_scorch Q 2 [some (ax_r 5), some (ax_i x1), some (ax_i x2)] [] σ := by
  refine ax_iload_n (q := 3) (i := 2) dX0_scorch_2 rfl rfl rfl ?_
  refine ax_aload_n (q := 4) (i := 0) dX0_scorch_3 rfl rfl rfl ?_
  refine ax_get (q := 7) (k := 5) (j := 9) (v := ax_i (σ.1 5 9)) dX0_scorch_4 rfl shC_5 rfl rfl rfl (by decide) fl_X0_45 ?_
  refine ax_icmp_ge (tgt := 62) (q := 10) dX0_scorch_7 (by decide) rfl (fun c1 => ?_) (fun c1 => ?_)
  · exact ax_vret dX0_scorch_62 rfl (k1 c1)
  · refine ax_iload_n (q := 11) (i := 1) dX0_scorch_10 rfl rfl rfl ?_
    refine ax_iload_n (q := 12) (i := 2) dX0_scorch_11 rfl rfl rfl ?_
    refine ax_callNfi (q := 15) (As := [ax_i x1, ax_i x2]) (st := []) (x := ((x1 >>> (x2 &&& 31)) &&& (1 : Int32))) (σ2 := σ) dX0_scorch_12 rfl lk_X0_74 rfl rfl (Nat.le_of_ble_eq_true rfl) (f_X11_bitOf (sh := shC) σ x1 x2  (d := d) (by omega)) ?_
    refine ax_iconst (q := 16) dX0_scorch_15 rfl ki_1 ?_
    refine ax_icmp_ne (tgt := 56) (q := 19) dX0_scorch_16 (by decide) rfl (fun c2 => ?_) (fun c2 => ?_)
    · refine ax_iincK (q := 59) (lv2 := [some (ax_r 5), some (ax_i x1), some (ax_i (x2 + (1 : Int32)))]) dX0_scorch_56 rfl rfl ki_1 (by decide) rfl rfl ?_
      refine ax_goto (tgt := 2) dX0_scorch_59 (by decide) ?_
      exact (k2 c1 c2)
    · refine ax_aload_n (q := 20) (i := 0) dX0_scorch_19 rfl rfl rfl ?_
      refine ax_get (q := 23) (k := 5) (j := 4) (v := ax_r 27) dX0_scorch_20 rfl shC_5 rfl rfl rfl (by decide) fl_X0_24 ?_
      refine ax_iload_n (q := 24) (i := 2) dX0_scorch_23 rfl rfl rfl ?_
      refine ax_bipush (q := 26) dX0_scorch_24 rfl kb_99 ?_
      refine ax_aload_n (q := 27) (i := 0) dX0_scorch_26 rfl rfl rfl ?_
      refine ax_get (q := 30) (k := 5) (j := 4) (v := ax_r 27) dX0_scorch_27 rfl shC_5 rfl rfl rfl (by decide) fl_X0_24 ?_
      refine ax_iload_n (q := 31) (i := 2) dX0_scorch_30 rfl rfl rfl ?_
      refine ax_iald (q := 32) (a := (Int32.toNatClampNeg x2)) (v := (σ.1 27 (Int32.toNatClampNeg x2))) dX0_scorch_31 rfl shC_27 (h3 c1 c2) rfl rfl ?_
      refine ax_iconst (q := 33) dX0_scorch_32 rfl ki_1 ?_
      refine ax_iadd (q := 34) dX0_scorch_33 rfl ?_
      refine ax_mmin (q := 37) dX0_scorch_34 rfl mk_X0_103 (Nat.le_of_ble_eq_true rfl) ?_
      refine ax_iast (q := 38) (a := (Int32.toNatClampNeg x2)) dX0_scorch_37 rfl shC_27 (h3 c1 c2) rfl ?_
      refine ax_aload_n (q := 39) (i := 0) dX0_scorch_38 rfl rfl rfl ?_
      refine ax_get (q := 42) (k := 5) (j := 2) (v := ax_r 25) dX0_scorch_39 rfl shC_5 rfl rfl rfl (by decide) fl_X0_18 ?_
      refine ax_iload_n (q := 43) (i := 2) dX0_scorch_42 rfl rfl rfl ?_
      refine ax_iconst (q := 44) dX0_scorch_43 rfl ki_1 ?_
      refine ax_aload_n (q := 45) (i := 0) dX0_scorch_44 rfl rfl rfl ?_
      refine ax_get (q := 48) (k := 5) (j := 2) (v := ax_r 25) dX0_scorch_45 rfl shC_5 rfl rfl rfl (by decide) fl_X0_18 ?_
      refine ax_iload_n (q := 49) (i := 2) dX0_scorch_48 rfl rfl rfl ?_
      refine ax_iald (q := 50) (a := (Int32.toNatClampNeg x2)) (v := (σ.1 25 (Int32.toNatClampNeg x2))) dX0_scorch_49 rfl shC_25 (h3 c1 c2) rfl rfl ?_
      refine ax_iconst (q := 51) dX0_scorch_50 rfl ki_1 ?_
      refine ax_isub (q := 52) dX0_scorch_51 rfl ?_
      refine ax_mmax (q := 55) dX0_scorch_52 rfl mk_X0_100 (Nat.le_of_ble_eq_true rfl) ?_
      refine ax_iast (q := 56) (a := (Int32.toNatClampNeg x2)) dX0_scorch_55 rfl shC_25 (h3 c1 c2) rfl ?_
      refine ax_iincK (q := 59) (lv2 := [some (ax_r 5), some (ax_i x1), some (ax_i (x2 + (1 : Int32)))]) dX0_scorch_56 rfl rfl ki_1 (by decide) rfl rfl ?_
      refine ax_goto (tgt := 2) dX0_scorch_59 (by decide) ?_
      exact (k4 c1 c2)
set_option maxRecDepth 20000 in
theorem s_X0_passSummer_0 {d : Nat} (hd : 0 ≤ d) {Q : Option ax_V → ax_S → Prop} (σ : ax_S)  (k1 : ax_W shC (d + 1) mX0_passSummer Q 2 [some (ax_r 5), some (ax_i (0 : Int32))] [] σ) : ax_W shC (d + 1) mX0_passSummer Q 0 [some (ax_r 5), none] [] σ := by
  refine ax_iconst (q := 1) dX0_passSummer_0 rfl ki_0 ?_
  refine ax_istore_n (q := 2) (i := 1) (lv2 := [some (ax_r 5), some (ax_i (0 : Int32))]) dX0_passSummer_1 rfl rfl (by decide) rfl rfl ?_
  exact k1
set_option maxRecDepth 20000 in
theorem s_X0_passSummer_2 {d : Nat} (hd : 1 ≤ d) {Q : Option ax_V → ax_S → Prop} (σ : ax_S) (x1 : Int32) (k1 : ((σ.1 5 10) ≤ x1) → Q none (ax_ui (ax_ui σ 5 12 (if ((σ.1 5 12) + (3 : Int32)) < (99 : Int32) then ((σ.1 5 12) + (3 : Int32)) else (99 : Int32))) 5 14 ((σ.1 5 14) + (1 : Int32)))) (k2 : (¬ ((σ.1 5 10) ≤ x1)) → (¬ (((σ.1 5 11) >>> (x1 &&& 31)) &&& (1 : Int32)) = 0) → ax_W shC (d + 1) mX0_passSummer Q 2 [some (ax_r 5), some (ax_i (x1 + (1 : Int32)))] [] σ) (h3 : (¬ ((σ.1 5 10) ≤ x1)) → (¬ (¬ (((σ.1 5 11) >>> (x1 &&& 31)) &&& (1 : Int32)) = 0)) → vp_in x1 17) (k4 : (¬ ((σ.1 5 10) ≤ x1)) → (¬ (¬ (((σ.1 5 11) >>> (x1 &&& 31)) &&& (1 : Int32)) = 0)) → ax_W shC (d + 1) mX0_passSummer Q 2 [some (ax_r 5), some (ax_i (x1 + (1 : Int32)))] [] (ax_ui σ 30 (Int32.toNatClampNeg x1) (if ((σ.1 30 (Int32.toNatClampNeg x1)) + (1 : Int32)) < (9 : Int32) then ((σ.1 30 (Int32.toNatClampNeg x1)) + (1 : Int32)) else (9 : Int32)))) : ax_W shC (d + 1) mX0_passSummer Q 2 [some (ax_r 5), some (ax_i x1)] [] σ := by
  refine ax_iload_n (q := 3) (i := 1) dX0_passSummer_2 rfl rfl rfl ?_
  refine ax_aload_n (q := 4) (i := 0) dX0_passSummer_3 rfl rfl rfl ?_
  refine ax_get (q := 7) (k := 5) (j := 10) (v := ax_i (σ.1 5 10)) dX0_passSummer_4 rfl shC_5 rfl rfl rfl (by decide) fl_X0_49 ?_
  refine ax_icmp_ge (tgt := 46) (q := 10) dX0_passSummer_7 (by decide) rfl (fun c1 => ?_) (fun c1 => ?_)
  · refine ax_aload_n (q := 47) (i := 0) dX0_passSummer_46 rfl rfl rfl ?_
    refine ax_iconst (q := 48) dX0_passSummer_47 rfl ki_3 ?_
    refine ax_callVfv (q := 51) (As := [ax_i (3 : Int32)]) (st := []) (σ2 := (ax_ui σ 5 12 (if ((σ.1 5 12) + (3 : Int32)) < (99 : Int32) then ((σ.1 5 12) + (3 : Int32)) else (99 : Int32)))) dX0_passSummer_48 rfl lk_X0_106 shC_5 rfl rfl rfl rfl (Nat.le_of_ble_eq_true rfl) (f_X0_addCopper σ (3 : Int32)  (d := d) (by omega)) ?_
    refine ax_aload_n (q := 52) (i := 0) dX0_passSummer_51 rfl rfl rfl ?_
    refine ax_dupr (q := 53) dX0_passSummer_52 rfl ?_
    refine ax_get (q := 56) (k := 5) (j := 14) (v := ax_i (σ.1 5 14)) dX0_passSummer_53 rfl shC_5 rfl rfl rfl (by decide) fl_X0_62 ?_
    refine ax_iconst (q := 57) dX0_passSummer_56 rfl ki_1 ?_
    refine ax_iadd (q := 58) dX0_passSummer_57 rfl ?_
    refine ax_puti (q := 61) (k := 5) (j := 14) dX0_passSummer_58 rfl shC_5 rfl rfl (by decide) fl_X0_62 rfl rfl rfl rfl ?_
    exact ax_vret dX0_passSummer_61 rfl (k1 c1)
  · refine ax_aload_n (q := 11) (i := 0) dX0_passSummer_10 rfl rfl rfl ?_
    refine ax_get (q := 14) (k := 5) (j := 11) (v := ax_i (σ.1 5 11)) dX0_passSummer_11 rfl shC_5 rfl rfl rfl (by decide) fl_X0_50 ?_
    refine ax_iload_n (q := 15) (i := 1) dX0_passSummer_14 rfl rfl rfl ?_
    refine ax_callNfi (q := 18) (As := [ax_i (σ.1 5 11), ax_i x1]) (st := []) (x := (((σ.1 5 11) >>> (x1 &&& 31)) &&& (1 : Int32))) (σ2 := σ) dX0_passSummer_15 rfl lk_X0_74 rfl rfl (Nat.le_of_ble_eq_true rfl) (f_X11_bitOf (sh := shC) σ (σ.1 5 11) x1  (d := d) (by omega)) ?_
    refine ax_if_ne (tgt := 40) (q := 21) dX0_passSummer_18 (by decide) rfl (fun c2 => ?_) (fun c2 => ?_)
    · refine ax_iincK (q := 43) (lv2 := [some (ax_r 5), some (ax_i (x1 + (1 : Int32)))]) dX0_passSummer_40 rfl rfl ki_1 (by decide) rfl rfl ?_
      refine ax_goto (tgt := 2) dX0_passSummer_43 (by decide) ?_
      exact (k2 c1 c2)
    · refine ax_aload_n (q := 22) (i := 0) dX0_passSummer_21 rfl rfl rfl ?_
      refine ax_get (q := 25) (k := 5) (j := 7) (v := ax_r 30) dX0_passSummer_22 rfl shC_5 rfl rfl rfl (by decide) fl_X0_33 ?_
      refine ax_iload_n (q := 26) (i := 1) dX0_passSummer_25 rfl rfl rfl ?_
      refine ax_bipush (q := 28) dX0_passSummer_26 rfl kb_9 ?_
      refine ax_aload_n (q := 29) (i := 0) dX0_passSummer_28 rfl rfl rfl ?_
      refine ax_get (q := 32) (k := 5) (j := 7) (v := ax_r 30) dX0_passSummer_29 rfl shC_5 rfl rfl rfl (by decide) fl_X0_33 ?_
      refine ax_iload_n (q := 33) (i := 1) dX0_passSummer_32 rfl rfl rfl ?_
      refine ax_iald (q := 34) (a := (Int32.toNatClampNeg x1)) (v := (σ.1 30 (Int32.toNatClampNeg x1))) dX0_passSummer_33 rfl shC_30 (h3 c1 c2) rfl rfl ?_
      refine ax_iconst (q := 35) dX0_passSummer_34 rfl ki_1 ?_
      refine ax_iadd (q := 36) dX0_passSummer_35 rfl ?_
      refine ax_mmin (q := 39) dX0_passSummer_36 rfl mk_X0_103 (Nat.le_of_ble_eq_true rfl) ?_
      refine ax_iast (q := 40) (a := (Int32.toNatClampNeg x1)) dX0_passSummer_39 rfl shC_30 (h3 c1 c2) rfl ?_
      refine ax_iincK (q := 43) (lv2 := [some (ax_r 5), some (ax_i (x1 + (1 : Int32)))]) dX0_passSummer_40 rfl rfl ki_1 (by decide) rfl rfl ?_
      refine ax_goto (tgt := 2) dX0_passSummer_43 (by decide) ?_
      exact (k4 c1 c2)
set_option maxRecDepth 20000 in
theorem s_X0_heights_0 {d : Nat} (hd : 0 ≤ d) {Q : Option ax_V → ax_S → Prop} (σ : ax_S)  (k1 : ax_W shC (d + 1) mX0_heights Q 4 [some (ax_r 5), some (ax_i (0 : Int32)), some (ax_i (0 : Int32))] [] σ) : ax_W shC (d + 1) mX0_heights Q 0 [some (ax_r 5), none, none] [] σ := by
  refine ax_iconst (q := 1) dX0_heights_0 rfl ki_0 ?_
  refine ax_istore_n (q := 2) (i := 1) (lv2 := [some (ax_r 5), some (ax_i (0 : Int32)), none]) dX0_heights_1 rfl rfl (by decide) rfl rfl ?_
  refine ax_iconst (q := 3) dX0_heights_2 rfl ki_0 ?_
  refine ax_istore_n (q := 4) (i := 2) (lv2 := [some (ax_r 5), some (ax_i (0 : Int32)), some (ax_i (0 : Int32))]) dX0_heights_3 rfl rfl (by decide) rfl rfl ?_
  exact k1
set_option maxRecDepth 20000 in
theorem s_X0_heights_4 {d : Nat} (hd : 0 ≤ d) {Q : Option ax_V → ax_S → Prop} (σ : ax_S) (x1 : Int32) (x2 : Int32) (k1 : ((σ.1 5 9) ≤ x2) → Q (some (ax_i x1)) σ) (h2 : (¬ ((σ.1 5 9) ≤ x2)) → vp_in x2 8) (k3 : (¬ ((σ.1 5 9) ≤ x2)) → ax_W shC (d + 1) mX0_heights Q 4 [some (ax_r 5), some (ax_i (x1 + (σ.1 24 (Int32.toNatClampNeg x2)))), some (ax_i (x2 + (1 : Int32)))] [] σ) : ax_W shC (d + 1) mX0_heights Q 4 [some (ax_r 5), some (ax_i x1), some (ax_i x2)] [] σ := by
  refine ax_iload_n (q := 5) (i := 2) dX0_heights_4 rfl rfl rfl ?_
  refine ax_aload_n (q := 6) (i := 0) dX0_heights_5 rfl rfl rfl ?_
  refine ax_get (q := 9) (k := 5) (j := 9) (v := ax_i (σ.1 5 9)) dX0_heights_6 rfl shC_5 rfl rfl rfl (by decide) fl_X0_45 ?_
  refine ax_icmp_ge (tgt := 27) (q := 12) dX0_heights_9 (by decide) rfl (fun c1 => ?_) (fun c1 => ?_)
  · refine ax_iload_n (q := 28) (i := 1) dX0_heights_27 rfl rfl rfl ?_
    exact ax_iret dX0_heights_28 rfl rfl (k1 c1)
  · refine ax_iload_n (q := 13) (i := 1) dX0_heights_12 rfl rfl rfl ?_
    refine ax_aload_n (q := 14) (i := 0) dX0_heights_13 rfl rfl rfl ?_
    refine ax_get (q := 17) (k := 5) (j := 1) (v := ax_r 24) dX0_heights_14 rfl shC_5 rfl rfl rfl (by decide) fl_X0_15 ?_
    refine ax_iload_n (q := 18) (i := 2) dX0_heights_17 rfl rfl rfl ?_
    refine ax_iald (q := 19) (a := (Int32.toNatClampNeg x2)) (v := (σ.1 24 (Int32.toNatClampNeg x2))) dX0_heights_18 rfl shC_24 (h2 c1) rfl rfl ?_
    refine ax_iadd (q := 20) dX0_heights_19 rfl ?_
    refine ax_istore_n (q := 21) (i := 1) (lv2 := [some (ax_r 5), some (ax_i (x1 + (σ.1 24 (Int32.toNatClampNeg x2)))), some (ax_i x2)]) dX0_heights_20 rfl rfl (by decide) rfl rfl ?_
    refine ax_iincK (q := 24) (lv2 := [some (ax_r 5), some (ax_i (x1 + (σ.1 24 (Int32.toNatClampNeg x2)))), some (ax_i (x2 + (1 : Int32)))]) dX0_heights_21 rfl rfl ki_1 (by decide) rfl rfl ?_
    refine ax_goto (tgt := 4) dX0_heights_24 (by decide) ?_
    exact (k3 c1)
set_option maxRecDepth 20000 in
theorem s_X0_leastBorne_0 {d : Nat} (hd : 0 ≤ d) {Q : Option ax_V → ax_S → Prop} (σ : ax_S)  (k1 : ax_W shC (d + 1) mX0_leastBorne Q 5 [some (ax_r 5), some (ax_i (99 : Int32)), some (ax_i (0 : Int32))] [] σ) : ax_W shC (d + 1) mX0_leastBorne Q 0 [some (ax_r 5), none, none] [] σ := by
  refine ax_bipush (q := 2) dX0_leastBorne_0 rfl kb_99 ?_
  refine ax_istore_n (q := 3) (i := 1) (lv2 := [some (ax_r 5), some (ax_i (99 : Int32)), none]) dX0_leastBorne_2 rfl rfl (by decide) rfl rfl ?_
  refine ax_iconst (q := 4) dX0_leastBorne_3 rfl ki_0 ?_
  refine ax_istore_n (q := 5) (i := 2) (lv2 := [some (ax_r 5), some (ax_i (99 : Int32)), some (ax_i (0 : Int32))]) dX0_leastBorne_4 rfl rfl (by decide) rfl rfl ?_
  exact k1
set_option maxRecDepth 20000 in
theorem s_X0_leastBorne_5 {d : Nat} (hd : 0 ≤ d) {Q : Option ax_V → ax_S → Prop} (σ : ax_S) (x1 : Int32) (x2 : Int32) (k1 : ((σ.1 5 9) ≤ x2) → Q (some (ax_i x1)) σ) (h2 : (¬ ((σ.1 5 9) ≤ x2)) → vp_in x2 8) (k3 : (¬ ((σ.1 5 9) ≤ x2)) → ax_W shC (d + 1) mX0_leastBorne Q 5 [some (ax_r 5), some (ax_i (if (σ.1 25 (Int32.toNatClampNeg x2)) < x1 then (σ.1 25 (Int32.toNatClampNeg x2)) else x1)), some (ax_i (x2 + (1 : Int32)))] [] σ) : ax_W shC (d + 1) mX0_leastBorne Q 5 [some (ax_r 5), some (ax_i x1), some (ax_i x2)] [] σ := by
  refine ax_iload_n (q := 6) (i := 2) dX0_leastBorne_5 rfl rfl rfl ?_
  refine ax_aload_n (q := 7) (i := 0) dX0_leastBorne_6 rfl rfl rfl ?_
  refine ax_get (q := 10) (k := 5) (j := 9) (v := ax_i (σ.1 5 9)) dX0_leastBorne_7 rfl shC_5 rfl rfl rfl (by decide) fl_X0_45 ?_
  refine ax_icmp_ge (tgt := 30) (q := 13) dX0_leastBorne_10 (by decide) rfl (fun c1 => ?_) (fun c1 => ?_)
  · refine ax_iload_n (q := 31) (i := 1) dX0_leastBorne_30 rfl rfl rfl ?_
    exact ax_iret dX0_leastBorne_31 rfl rfl (k1 c1)
  · refine ax_iload_n (q := 14) (i := 1) dX0_leastBorne_13 rfl rfl rfl ?_
    refine ax_aload_n (q := 15) (i := 0) dX0_leastBorne_14 rfl rfl rfl ?_
    refine ax_get (q := 18) (k := 5) (j := 2) (v := ax_r 25) dX0_leastBorne_15 rfl shC_5 rfl rfl rfl (by decide) fl_X0_18 ?_
    refine ax_iload_n (q := 19) (i := 2) dX0_leastBorne_18 rfl rfl rfl ?_
    refine ax_iald (q := 20) (a := (Int32.toNatClampNeg x2)) (v := (σ.1 25 (Int32.toNatClampNeg x2))) dX0_leastBorne_19 rfl shC_25 (h2 c1) rfl rfl ?_
    refine ax_mmin (q := 23) dX0_leastBorne_20 rfl mk_X0_103 (Nat.le_of_ble_eq_true rfl) ?_
    refine ax_istore_n (q := 24) (i := 1) (lv2 := [some (ax_r 5), some (ax_i (if (σ.1 25 (Int32.toNatClampNeg x2)) < x1 then (σ.1 25 (Int32.toNatClampNeg x2)) else x1)), some (ax_i x2)]) dX0_leastBorne_23 rfl rfl (by decide) rfl rfl ?_
    refine ax_iincK (q := 27) (lv2 := [some (ax_r 5), some (ax_i (if (σ.1 25 (Int32.toNatClampNeg x2)) < x1 then (σ.1 25 (Int32.toNatClampNeg x2)) else x1)), some (ax_i (x2 + (1 : Int32)))]) dX0_leastBorne_24 rfl rfl ki_1 (by decide) rfl rfl ?_
    refine ax_goto (tgt := 5) dX0_leastBorne_27 (by decide) ?_
    exact (k3 c1)
set_option maxRecDepth 20000 in
theorem s_X0_highest_0 {d : Nat} (hd : 0 ≤ d) {Q : Option ax_V → ax_S → Prop} (σ : ax_S) (r0 nr0 : Nat) (hr0 : shC[r0]? = some (Sum.inr (false, nr0))) (k1 : ax_W shC (d + 1) mX0_highest Q 4 [some (ax_r 5), some (ax_r r0), some (ax_i (0 : Int32)), some (ax_i (1 : Int32))] [] σ) : ax_W shC (d + 1) mX0_highest Q 0 [some (ax_r 5), some (ax_r r0), none, none] [] σ := by
  refine ax_iconst (q := 1) dX0_highest_0 rfl ki_0 ?_
  refine ax_istore_n (q := 2) (i := 2) (lv2 := [some (ax_r 5), some (ax_r r0), some (ax_i (0 : Int32)), none]) dX0_highest_1 rfl rfl (by decide) rfl rfl ?_
  refine ax_iconst (q := 3) dX0_highest_2 rfl ki_1 ?_
  refine ax_istore_n (q := 4) (i := 3) (lv2 := [some (ax_r 5), some (ax_r r0), some (ax_i (0 : Int32)), some (ax_i (1 : Int32))]) dX0_highest_3 rfl rfl (by decide) rfl rfl ?_
  exact k1
set_option maxRecDepth 20000 in
theorem s_X0_highest_4 {d : Nat} (hd : 0 ≤ d) {Q : Option ax_V → ax_S → Prop} (σ : ax_S) (r0 nr0 : Nat) (hr0 : shC[r0]? = some (Sum.inr (false, nr0))) (x2 : Int32) (x3 : Int32) (k1 : ((σ.1 5 9) ≤ x3) → Q (some (ax_i x2)) σ) (h2 : (¬ ((σ.1 5 9) ≤ x3)) → vp_in x3 nr0) (h3 : (¬ ((σ.1 5 9) ≤ x3)) → vp_in x2 nr0) (k4 : (¬ ((σ.1 5 9) ≤ x3)) → ((σ.1 r0 (Int32.toNatClampNeg x3)) ≤ (σ.1 r0 (Int32.toNatClampNeg x2))) → ax_W shC (d + 1) mX0_highest Q 4 [some (ax_r 5), some (ax_r r0), some (ax_i x2), some (ax_i (x3 + (1 : Int32)))] [] σ) (k5 : (¬ ((σ.1 5 9) ≤ x3)) → (¬ ((σ.1 r0 (Int32.toNatClampNeg x3)) ≤ (σ.1 r0 (Int32.toNatClampNeg x2)))) → ax_W shC (d + 1) mX0_highest Q 4 [some (ax_r 5), some (ax_r r0), some (ax_i x3), some (ax_i (x3 + (1 : Int32)))] [] σ) : ax_W shC (d + 1) mX0_highest Q 4 [some (ax_r 5), some (ax_r r0), some (ax_i x2), some (ax_i x3)] [] σ := by
  refine ax_iload_n (q := 5) (i := 3) dX0_highest_4 rfl rfl rfl ?_
  refine ax_aload_n (q := 6) (i := 0) dX0_highest_5 rfl rfl rfl ?_
  refine ax_get (q := 9) (k := 5) (j := 9) (v := ax_i (σ.1 5 9)) dX0_highest_6 rfl shC_5 rfl rfl rfl (by decide) fl_X0_45 ?_
  refine ax_icmp_ge (tgt := 29) (q := 12) dX0_highest_9 (by decide) rfl (fun c1 => ?_) (fun c1 => ?_)
  · refine ax_iload_n (q := 30) (i := 2) dX0_highest_29 rfl rfl rfl ?_
    exact ax_iret dX0_highest_30 rfl rfl (k1 c1)
  · refine ax_aload_n (q := 13) (i := 1) dX0_highest_12 rfl rfl rfl ?_
    refine ax_iload_n (q := 14) (i := 3) dX0_highest_13 rfl rfl rfl ?_
    refine ax_iald (q := 15) (a := (Int32.toNatClampNeg x3)) (v := (σ.1 r0 (Int32.toNatClampNeg x3))) dX0_highest_14 rfl hr0 (h2 c1) rfl rfl ?_
    refine ax_aload_n (q := 16) (i := 1) dX0_highest_15 rfl rfl rfl ?_
    refine ax_iload_n (q := 17) (i := 2) dX0_highest_16 rfl rfl rfl ?_
    refine ax_iald (q := 18) (a := (Int32.toNatClampNeg x2)) (v := (σ.1 r0 (Int32.toNatClampNeg x2))) dX0_highest_17 rfl hr0 (h3 c1) rfl rfl ?_
    refine ax_icmp_le (tgt := 23) (q := 21) dX0_highest_18 (by decide) rfl (fun c2 => ?_) (fun c2 => ?_)
    · refine ax_iincK (q := 26) (lv2 := [some (ax_r 5), some (ax_r r0), some (ax_i x2), some (ax_i (x3 + (1 : Int32)))]) dX0_highest_23 rfl rfl ki_1 (by decide) rfl rfl ?_
      refine ax_goto (tgt := 4) dX0_highest_26 (by decide) ?_
      exact (k4 c1 c2)
    · refine ax_iload_n (q := 22) (i := 3) dX0_highest_21 rfl rfl rfl ?_
      refine ax_istore_n (q := 23) (i := 2) (lv2 := [some (ax_r 5), some (ax_r r0), some (ax_i x3), some (ax_i x3)]) dX0_highest_22 rfl rfl (by decide) rfl rfl ?_
      refine ax_iincK (q := 26) (lv2 := [some (ax_r 5), some (ax_r r0), some (ax_i x3), some (ax_i (x3 + (1 : Int32)))]) dX0_highest_23 rfl rfl ki_1 (by decide) rfl rfl ?_
      refine ax_goto (tgt := 4) dX0_highest_26 (by decide) ?_
      exact (k5 c1 c2)
set_option maxRecDepth 20000 in
theorem s_X0_saltiest_0 {d : Nat} (hd : 0 ≤ d) {Q : Option ax_V → ax_S → Prop} (σ : ax_S) (a0 : Int32) (k1 : ax_W shC (d + 1) mX0_saltiest Q 4 [some (ax_r 5), some (ax_i a0), some (ax_i (-1 : Int32)), some (ax_i (0 : Int32))] [] σ) : ax_W shC (d + 1) mX0_saltiest Q 0 [some (ax_r 5), some (ax_i a0), none, none] [] σ := by
  refine ax_iconst (q := 1) dX0_saltiest_0 rfl ki_m1 ?_
  refine ax_istore_n (q := 2) (i := 2) (lv2 := [some (ax_r 5), some (ax_i a0), some (ax_i (-1 : Int32)), none]) dX0_saltiest_1 rfl rfl (by decide) rfl rfl ?_
  refine ax_iconst (q := 3) dX0_saltiest_2 rfl ki_0 ?_
  refine ax_istore_n (q := 4) (i := 3) (lv2 := [some (ax_r 5), some (ax_i a0), some (ax_i (-1 : Int32)), some (ax_i (0 : Int32))]) dX0_saltiest_3 rfl rfl (by decide) rfl rfl ?_
  exact k1
set_option maxRecDepth 20000 in
theorem s_X0_saltiest_4 {d : Nat} (hd : 1 ≤ d) {Q : Option ax_V → ax_S → Prop} (σ : ax_S) (x1 : Int32) (x2 : Int32) (x3 : Int32) (k1 : ((σ.1 5 10) ≤ x3) → Q (some (ax_i x2)) σ) (k2 : (¬ ((σ.1 5 10) ≤ x3)) → (¬ ((x1 >>> (x3 &&& 31)) &&& (1 : Int32)) = (1 : Int32)) → ax_W shC (d + 1) mX0_saltiest Q 4 [some (ax_r 5), some (ax_i x1), some (ax_i x2), some (ax_i (x3 + (1 : Int32)))] [] σ) (k3 : (¬ ((σ.1 5 10) ≤ x3)) → (¬ (¬ ((x1 >>> (x3 &&& 31)) &&& (1 : Int32)) = (1 : Int32))) → (x2 = (-1 : Int32)) → ax_W shC (d + 1) mX0_saltiest Q 4 [some (ax_r 5), some (ax_i x1), some (ax_i x3), some (ax_i (x3 + (1 : Int32)))] [] σ) (h4 : (¬ ((σ.1 5 10) ≤ x3)) → (¬ (¬ ((x1 >>> (x3 &&& 31)) &&& (1 : Int32)) = (1 : Int32))) → (¬ (x2 = (-1 : Int32))) → vp_in x3 17) (h5 : (¬ ((σ.1 5 10) ≤ x3)) → (¬ (¬ ((x1 >>> (x3 &&& 31)) &&& (1 : Int32)) = (1 : Int32))) → (¬ (x2 = (-1 : Int32))) → vp_in x2 17) (k6 : (¬ ((σ.1 5 10) ≤ x3)) → (¬ (¬ ((x1 >>> (x3 &&& 31)) &&& (1 : Int32)) = (1 : Int32))) → (¬ (x2 = (-1 : Int32))) → ((σ.1 30 (Int32.toNatClampNeg x3)) ≤ (σ.1 30 (Int32.toNatClampNeg x2))) → ax_W shC (d + 1) mX0_saltiest Q 4 [some (ax_r 5), some (ax_i x1), some (ax_i x2), some (ax_i (x3 + (1 : Int32)))] [] σ) (k7 : (¬ ((σ.1 5 10) ≤ x3)) → (¬ (¬ ((x1 >>> (x3 &&& 31)) &&& (1 : Int32)) = (1 : Int32))) → (¬ (x2 = (-1 : Int32))) → (¬ ((σ.1 30 (Int32.toNatClampNeg x3)) ≤ (σ.1 30 (Int32.toNatClampNeg x2)))) → ax_W shC (d + 1) mX0_saltiest Q 4 [some (ax_r 5), some (ax_i x1), some (ax_i x3), some (ax_i (x3 + (1 : Int32)))] [] σ) : ax_W shC (d + 1) mX0_saltiest Q 4 [some (ax_r 5), some (ax_i x1), some (ax_i x2), some (ax_i x3)] [] σ := by
  refine ax_iload_n (q := 5) (i := 3) dX0_saltiest_4 rfl rfl rfl ?_
  refine ax_aload_n (q := 6) (i := 0) dX0_saltiest_5 rfl rfl rfl ?_
  refine ax_get (q := 9) (k := 5) (j := 10) (v := ax_i (σ.1 5 10)) dX0_saltiest_6 rfl shC_5 rfl rfl rfl (by decide) fl_X0_49 ?_
  refine ax_icmp_ge (tgt := 49) (q := 12) dX0_saltiest_9 (by decide) rfl (fun c1 => ?_) (fun c1 => ?_)
  · refine ax_iload_n (q := 50) (i := 2) dX0_saltiest_49 rfl rfl rfl ?_
    exact ax_iret dX0_saltiest_50 rfl rfl (k1 c1)
  · refine ax_iload_n (q := 13) (i := 1) dX0_saltiest_12 rfl rfl rfl ?_
    refine ax_iload_n (q := 14) (i := 3) dX0_saltiest_13 rfl rfl rfl ?_
    refine ax_callNfi (q := 17) (As := [ax_i x1, ax_i x3]) (st := []) (x := ((x1 >>> (x3 &&& 31)) &&& (1 : Int32))) (σ2 := σ) dX0_saltiest_14 rfl lk_X0_74 rfl rfl (Nat.le_of_ble_eq_true rfl) (f_X11_bitOf (sh := shC) σ x1 x3  (d := d) (by omega)) ?_
    refine ax_iconst (q := 18) dX0_saltiest_17 rfl ki_1 ?_
    refine ax_icmp_ne (tgt := 43) (q := 21) dX0_saltiest_18 (by decide) rfl (fun c2 => ?_) (fun c2 => ?_)
    · refine ax_iincK (q := 46) (lv2 := [some (ax_r 5), some (ax_i x1), some (ax_i x2), some (ax_i (x3 + (1 : Int32)))]) dX0_saltiest_43 rfl rfl ki_1 (by decide) rfl rfl ?_
      refine ax_goto (tgt := 4) dX0_saltiest_46 (by decide) ?_
      exact (k2 c1 c2)
    · refine ax_iload_n (q := 22) (i := 2) dX0_saltiest_21 rfl rfl rfl ?_
      refine ax_iconst (q := 23) dX0_saltiest_22 rfl ki_m1 ?_
      refine ax_icmp_eq (tgt := 41) (q := 26) dX0_saltiest_23 (by decide) rfl (fun c3 => ?_) (fun c3 => ?_)
      · refine ax_iload_n (q := 42) (i := 3) dX0_saltiest_41 rfl rfl rfl ?_
        refine ax_istore_n (q := 43) (i := 2) (lv2 := [some (ax_r 5), some (ax_i x1), some (ax_i x3), some (ax_i x3)]) dX0_saltiest_42 rfl rfl (by decide) rfl rfl ?_
        refine ax_iincK (q := 46) (lv2 := [some (ax_r 5), some (ax_i x1), some (ax_i x3), some (ax_i (x3 + (1 : Int32)))]) dX0_saltiest_43 rfl rfl ki_1 (by decide) rfl rfl ?_
        refine ax_goto (tgt := 4) dX0_saltiest_46 (by decide) ?_
        exact (k3 c1 c2 c3)
      · refine ax_aload_n (q := 27) (i := 0) dX0_saltiest_26 rfl rfl rfl ?_
        refine ax_get (q := 30) (k := 5) (j := 7) (v := ax_r 30) dX0_saltiest_27 rfl shC_5 rfl rfl rfl (by decide) fl_X0_33 ?_
        refine ax_iload_n (q := 31) (i := 3) dX0_saltiest_30 rfl rfl rfl ?_
        refine ax_iald (q := 32) (a := (Int32.toNatClampNeg x3)) (v := (σ.1 30 (Int32.toNatClampNeg x3))) dX0_saltiest_31 rfl shC_30 (h4 c1 c2 c3) rfl rfl ?_
        refine ax_aload_n (q := 33) (i := 0) dX0_saltiest_32 rfl rfl rfl ?_
        refine ax_get (q := 36) (k := 5) (j := 7) (v := ax_r 30) dX0_saltiest_33 rfl shC_5 rfl rfl rfl (by decide) fl_X0_33 ?_
        refine ax_iload_n (q := 37) (i := 2) dX0_saltiest_36 rfl rfl rfl ?_
        refine ax_iald (q := 38) (a := (Int32.toNatClampNeg x2)) (v := (σ.1 30 (Int32.toNatClampNeg x2))) dX0_saltiest_37 rfl shC_30 (h5 c1 c2 c3) rfl rfl ?_
        refine ax_icmp_le (tgt := 43) (q := 41) dX0_saltiest_38 (by decide) rfl (fun c4 => ?_) (fun c4 => ?_)
        · refine ax_iincK (q := 46) (lv2 := [some (ax_r 5), some (ax_i x1), some (ax_i x2), some (ax_i (x3 + (1 : Int32)))]) dX0_saltiest_43 rfl rfl ki_1 (by decide) rfl rfl ?_
          refine ax_goto (tgt := 4) dX0_saltiest_46 (by decide) ?_
          exact (k6 c1 c2 c3 c4)
        · refine ax_iload_n (q := 42) (i := 3) dX0_saltiest_41 rfl rfl rfl ?_
          refine ax_istore_n (q := 43) (i := 2) (lv2 := [some (ax_r 5), some (ax_i x1), some (ax_i x3), some (ax_i x3)]) dX0_saltiest_42 rfl rfl (by decide) rfl rfl ?_
          refine ax_iincK (q := 46) (lv2 := [some (ax_r 5), some (ax_i x1), some (ax_i x3), some (ax_i (x3 + (1 : Int32)))]) dX0_saltiest_43 rfl rfl ki_1 (by decide) rfl rfl ?_
          refine ax_goto (tgt := 4) dX0_saltiest_46 (by decide) ?_
          exact (k7 c1 c2 c3 c4)
set_option maxRecDepth 20000 in
theorem f_X1_isChapel (σ : ax_S) (a0 : Int32) (h1 : vp_in ((a0 * (4 : Int32)) + (3 : Int32)) 32) {d : Nat} (hd : 1 ≤ d) : ax_Ct shC d mX1_isChapel [ax_r 2, ax_i a0] (fun r u => r = some (ax_i (if (¬ (¬ (σ.1 16 (Int32.toNatClampNeg ((a0 * (4 : Int32)) + (3 : Int32)))) = (2 : Int32))) then (1 : Int32) else 0)) ∧ u = σ) σ := by
  obtain ⟨d, rfl⟩ : ∃ e, d = e + 1 := ⟨d - 1, by omega⟩
  refine ax_Ct.of (lv := [some (ax_r 2), some (ax_i a0)]) (by decide +kernel) (fun ad => Nat.le_of_ble_eq_true rfl) (fun ad => rfl) ?_
  refine ax_aload_n (q := 1) (i := 0) dX1_isChapel_0 rfl rfl rfl ?_
  refine ax_get (q := 4) (k := 2) (j := 2) (v := ax_r 16) dX1_isChapel_1 rfl shC_2 rfl rfl rfl (by decide) fl_X1_15 ?_
  refine ax_iload_n (q := 5) (i := 1) dX1_isChapel_4 rfl rfl rfl ?_
  refine ax_iconst (q := 6) dX1_isChapel_5 rfl ki_4 ?_
  refine ax_imul (q := 7) dX1_isChapel_6 rfl ?_
  refine ax_iconst (q := 8) dX1_isChapel_7 rfl ki_3 ?_
  refine ax_iadd (q := 9) dX1_isChapel_8 rfl ?_
  refine ax_iald (q := 10) (a := (Int32.toNatClampNeg ((a0 * (4 : Int32)) + (3 : Int32)))) (v := (σ.1 16 (Int32.toNatClampNeg ((a0 * (4 : Int32)) + (3 : Int32))))) dX1_isChapel_9 rfl shC_16 h1 rfl rfl ?_
  refine ax_iconst (q := 11) dX1_isChapel_10 rfl ki_2 ?_
  have K2 : ax_W shC (d + 1) mX1_isChapel (fun r u => r = some (ax_i (if (¬ (¬ (σ.1 16 (Int32.toNatClampNeg ((a0 * (4 : Int32)) + (3 : Int32)))) = (2 : Int32))) then (1 : Int32) else 0)) ∧ u = σ) 19 [some (ax_r 2), some (ax_i a0)] [ax_i (if (¬ (¬ (σ.1 16 (Int32.toNatClampNeg ((a0 * (4 : Int32)) + (3 : Int32)))) = (2 : Int32))) then (1 : Int32) else 0)] σ := by
    exact ax_iret dX1_isChapel_19 rfl (ax_nb _) ⟨rfl, rfl⟩
  refine ax_icmp_ne (tgt := 18) (q := 14) dX1_isChapel_11 (by decide) rfl (fun c1 => ?_) (fun c1 => ?_)
  · refine ax_iconst (q := 19) dX1_isChapel_18 rfl ki_0 ?_
    exact ax_cv (if_neg (fun y => y c1)) K2
  · refine ax_iconst (q := 15) dX1_isChapel_14 rfl ki_1 ?_
    refine ax_goto (tgt := 19) dX1_isChapel_15 (by decide) ?_
    exact ax_cv (if_pos c1) K2
