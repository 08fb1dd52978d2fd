set_option maxRecDepth 20000 in
theorem s_X4_keepLeast_0 {d : Nat} (hd : 0 ≤ d) {Q : Option ax_V → ax_S → Prop} (σ : ax_S) (a0 : Int32) (k1 : (a0 < (σ.1 10 2)) → ax_W shC (d + 1) mX4_keepLeast Q 21 [some (ax_r 10), none, some (ax_i (0 : Int32))] [] (ax_ui (ax_ui σ 10 2 a0) 10 3 (0 : Int32))) (k2 : (¬ (a0 < (σ.1 10 2))) → Q none σ) : ax_W shC (d + 1) mX4_keepLeast Q 0 [some (ax_r 10), some (ax_i a0), none] [] σ := by
  refine ax_iload_n (q := 1) (i := 1) dX4_keepLeast_0 rfl rfl rfl ?_
  refine ax_aload_n (q := 2) (i := 0) dX4_keepLeast_1 rfl rfl rfl ?_
  refine ax_get (q := 5) (k := 10) (j := 2) (v := ax_i (σ.1 10 2)) dX4_keepLeast_2 rfl shC_10 rfl rfl rfl (by decide) fl_X4_19 ?_
  refine ax_icmp_lt (tgt := 9) (q := 8) dX4_keepLeast_5 (by decide) rfl (fun c1 => ?_) (fun c1 => ?_)
  · refine ax_aload_n (q := 10) (i := 0) dX4_keepLeast_9 rfl rfl rfl ?_
    refine ax_iload_n (q := 11) (i := 1) dX4_keepLeast_10 rfl rfl rfl ?_
    refine ax_puti (q := 14) (k := 10) (j := 2) dX4_keepLeast_11 rfl shC_10 rfl rfl (by decide) fl_X4_19 rfl rfl rfl rfl ?_
    refine ax_aload_n (q := 15) (i := 0) dX4_keepLeast_14 rfl rfl rfl ?_
    refine ax_iconst (q := 16) dX4_keepLeast_15 rfl ki_0 ?_
    refine ax_puti (q := 19) (k := 10) (j := 3) dX4_keepLeast_16 rfl shC_10 rfl rfl (by decide) fl_X4_23 rfl rfl rfl rfl ?_
    refine ax_iconst (q := 20) dX4_keepLeast_19 rfl ki_0 ?_
    refine ax_istore_n (q := 21) (i := 2) (lv2 := [some (ax_r 10), some (ax_i a0), some (ax_i (0 : Int32))]) dX4_keepLeast_20 rfl rfl (by decide) rfl rfl ?_
    refine ax_fg (lv2 := [some (ax_r 10), none, some (ax_i (0 : Int32))]) ⟨rfl, rfl, trivial⟩ ?_
    exact (k1 c1)
  · exact ax_vret dX4_keepLeast_8 rfl (k2 c1)
set_option maxRecDepth 20000 in
theorem s_X4_keepLeast_21 {d : Nat} (hd : 0 ≤ d) {Q : Option ax_V → ax_S → Prop} (σ : ax_S) (x2 : Int32) (k1 : ((σ.1 5 9) ≤ x2) → Q none σ) (h2 : (¬ ((σ.1 5 9) ≤ x2)) → vp_in x2 8) (k3 : (¬ ((σ.1 5 9) ≤ x2)) → ax_W shC (d + 1) mX4_keepLeast Q 21 [some (ax_r 10), none, some (ax_i (x2 + (1 : Int32)))] [] (ax_ui σ 10 3 (((σ.1 10 3) * (10 : Int32)) + (σ.1 43 (Int32.toNatClampNeg x2))))) : ax_W shC (d + 1) mX4_keepLeast Q 21 [some (ax_r 10), none, some (ax_i x2)] [] σ := by
  refine ax_iload_n (q := 22) (i := 2) dX4_keepLeast_21 rfl rfl rfl ?_
  refine ax_aload_n (q := 23) (i := 0) dX4_keepLeast_22 rfl rfl rfl ?_
  refine ax_get (q := 26) (k := 10) (j := 0) (v := ax_r 5) dX4_keepLeast_23 rfl shC_10 rfl rfl rfl (by decide) fl_X4_15 ?_
  refine ax_get (q := 29) (k := 5) (j := 9) (v := ax_i (σ.1 5 9)) dX4_keepLeast_26 rfl shC_5 rfl rfl rfl (by decide) fl_X4_26 ?_
  refine ax_icmp_ge (tgt := 56) (q := 32) dX4_keepLeast_29 (by decide) rfl (fun c1 => ?_) (fun c1 => ?_)
  · exact ax_vret dX4_keepLeast_56 rfl (k1 c1)
  · refine ax_aload_n (q := 33) (i := 0) dX4_keepLeast_32 rfl rfl rfl ?_
    refine ax_aload_n (q := 34) (i := 0) dX4_keepLeast_33 rfl rfl rfl ?_
    refine ax_get (q := 37) (k := 10) (j := 3) (v := ax_i (σ.1 10 3)) dX4_keepLeast_34 rfl shC_10 rfl rfl rfl (by decide) fl_X4_23 ?_
    refine ax_bipush (q := 39) dX4_keepLeast_37 rfl kb_10 ?_
    refine ax_imul (q := 40) dX4_keepLeast_39 rfl ?_
    refine ax_aload_n (q := 41) (i := 0) dX4_keepLeast_40 rfl rfl rfl ?_
    refine ax_get (q := 44) (k := 10) (j := 1) (v := ax_r 43) dX4_keepLeast_41 rfl shC_10 rfl rfl rfl (by decide) fl_X4_9 ?_
    refine ax_iload_n (q := 45) (i := 2) dX4_keepLeast_44 rfl rfl rfl ?_
    refine ax_iald (q := 46) (a := (Int32.toNatClampNeg x2)) (v := (σ.1 43 (Int32.toNatClampNeg x2))) dX4_keepLeast_45 rfl shC_43 (h2 c1) rfl rfl ?_
    refine ax_iadd (q := 47) dX4_keepLeast_46 rfl ?_
    refine ax_puti (q := 50) (k := 10) (j := 3) dX4_keepLeast_47 rfl shC_10 rfl rfl (by decide) fl_X4_23 rfl rfl rfl rfl ?_
    refine ax_iincK (q := 53) (lv2 := [some (ax_r 10), none, some (ax_i (x2 + (1 : Int32)))]) dX4_keepLeast_50 rfl rfl ki_1 (by decide) rfl rfl ?_
    refine ax_goto (tgt := 21) dX4_keepLeast_53 (by decide) ?_
    exact (k3 c1)
set_option maxRecDepth 20000 in
theorem s_X4_pairFrom_0 {d : Nat} (hd : 1 ≤ d) {Q : Option ax_V → ax_S → Prop} (σ : ax_S) (a0 : Int32) (a1 : Int32) (a2 : Int32) (a3 : Int32) (k1 : (a0 < (σ.1 5 9)) → (¬ ((a1 >>> (a0 &&& 31)) &&& (1 : Int32)) = (1 : Int32)) → (a2 = 0) → ax_W shC (d + 1) mX4_pairFrom Q 66 [some (ax_r 10), some (ax_i a0), some (ax_i a1), some (ax_i a2), some (ax_i a3), some (ax_i (a0 + (1 : Int32))), none] [] σ) (h2 : (a0 < (σ.1 5 9)) → (¬ ((a1 >>> (a0 &&& 31)) &&& (1 : Int32)) = (1 : Int32)) → (¬ (a2 = 0)) → vp_in a0 8) (k3 : (a0 < (σ.1 5 9)) → (¬ ((a1 >>> (a0 &&& 31)) &&& (1 : Int32)) = (1 : Int32)) → (¬ (a2 = 0)) → ax_Ct shC d mX4_pairFrom [ax_r 10, ax_i (a0 + (1 : Int32)), ax_i a1, ax_i (0 : Int32), ax_i a3] (fun r u => r = none ∧ ax_W shC (d + 1) mX4_pairFrom Q 61 [some (ax_r 10), some (ax_i a0), some (ax_i a1), some (ax_i a2), some (ax_i a3), none, none] [] u) (ax_ui σ 43 (Int32.toNatClampNeg a0) a0)) (k4 : (a0 < (σ.1 5 9)) → (¬ (¬ ((a1 >>> (a0 &&& 31)) &&& (1 : Int32)) = (1 : Int32))) → ax_Ct shC d mX4_pairFrom [ax_r 10, ax_i (a0 + (1 : Int32)), ax_i a1, ax_i a2, ax_i a3] (fun r u => r = none ∧ ax_W shC (d + 1) mX4_pairFrom Q 38 [none, none, none, none, none, none, none] [] u) σ) (k5 : (¬ (a0 < (σ.1 5 9))) → ax_Ct shC d mX4_keepLeast [ax_r 10, ax_i a3] (fun r u => r = none ∧ ax_W shC (d + 1) mX4_pairFrom Q 17 [none, none, none, none, none, none, none] [] u) σ) : ax_W shC (d + 1) mX4_pairFrom Q 0 [some (ax_r 10), some (ax_i a0), some (ax_i a1), some (ax_i a2), some (ax_i a3), none, none] [] σ := by
  refine ax_iload_n (q := 1) (i := 1) dX4_pairFrom_0 rfl rfl rfl ?_
  refine ax_aload_n (q := 2) (i := 0) dX4_pairFrom_1 rfl rfl rfl ?_
  refine ax_get (q := 5) (k := 10) (j := 0) (v := ax_r 5) dX4_pairFrom_2 rfl shC_10 rfl rfl rfl (by decide) fl_X4_15 ?_
  refine ax_get (q := 8) (k := 5) (j := 9) (v := ax_i (σ.1 5 9)) dX4_pairFrom_5 rfl shC_5 rfl rfl rfl (by decide) fl_X4_26 ?_
  refine ax_icmp_lt (tgt := 18) (q := 11) dX4_pairFrom_8 (by decide) rfl (fun c1 => ?_) (fun c1 => ?_)
  · refine ax_iload_n (q := 19) (i := 2) dX4_pairFrom_18 rfl rfl rfl ?_
    refine ax_iload_n (q := 20) (i := 1) dX4_pairFrom_19 rfl rfl rfl ?_
    refine ax_callNfi (q := 23) (As := [ax_i a1, ax_i a0]) (st := []) (x := ((a1 >>> (a0 &&& 31)) &&& (1 : Int32))) (σ2 := σ) dX4_pairFrom_20 rfl lk_X4_39 rfl rfl (Nat.le_of_ble_eq_true rfl) (f_X11_bitOf (sh := shC) σ a1 a0  (d := d) (by omega)) ?_
    refine ax_iconst (q := 24) dX4_pairFrom_23 rfl ki_1 ?_
    refine ax_icmp_ne (tgt := 39) (q := 27) dX4_pairFrom_24 (by decide) rfl (fun c2 => ?_) (fun c2 => ?_)
    · refine ax_iload_n (q := 40) (i := 3) dX4_pairFrom_39 rfl rfl rfl ?_
      refine ax_if_eq (tgt := 61) (q := 43) dX4_pairFrom_40 (by decide) rfl (fun c3 => ?_) (fun c3 => ?_)
      · refine ax_iload_n (q := 62) (i := 1) dX4_pairFrom_61 rfl rfl rfl ?_
        refine ax_iconst (q := 63) dX4_pairFrom_62 rfl ki_1 ?_
        refine ax_iadd (q := 64) dX4_pairFrom_63 rfl ?_
        refine ax_istore (q := 66) (lv2 := [some (ax_r 10), some (ax_i a0), some (ax_i a1), some (ax_i a2), some (ax_i a3), some (ax_i (a0 + (1 : Int32))), none]) dX4_pairFrom_64 rfl (by decide) rfl rfl ?_
        exact (k1 c1 c2 c3)
      · refine ax_aload_n (q := 44) (i := 0) dX4_pairFrom_43 rfl rfl rfl ?_
        refine ax_get (q := 47) (k := 10) (j := 1) (v := ax_r 43) dX4_pairFrom_44 rfl shC_10 rfl rfl rfl (by decide) fl_X4_9 ?_
        refine ax_iload_n (q := 48) (i := 1) dX4_pairFrom_47 rfl rfl rfl ?_
        refine ax_iload_n (q := 49) (i := 1) dX4_pairFrom_48 rfl rfl rfl ?_
        refine ax_iast (q := 50) (a := (Int32.toNatClampNeg a0)) dX4_pairFrom_49 rfl shC_43 (h2 c1 c2 c3) rfl ?_
        refine ax_aload_n (q := 51) (i := 0) dX4_pairFrom_50 rfl rfl rfl ?_
        refine ax_iload_n (q := 52) (i := 1) dX4_pairFrom_51 rfl rfl rfl ?_
        refine ax_iconst (q := 53) dX4_pairFrom_52 rfl ki_1 ?_
        refine ax_iadd (q := 54) dX4_pairFrom_53 rfl ?_
        refine ax_iload_n (q := 55) (i := 2) dX4_pairFrom_54 rfl rfl rfl ?_
        refine ax_iconst (q := 56) dX4_pairFrom_55 rfl ki_0 ?_
        refine ax_iload (q := 58) dX4_pairFrom_56 rfl rfl ?_
        exact ax_callVcv (q := 61) (As := [ax_i (a0 + (1 : Int32)), ax_i a1, ax_i (0 : Int32), ax_i a3]) (st := []) dX4_pairFrom_58 rfl lk_X4_31 shC_10 rfl rfl rfl rfl (Nat.le_of_ble_eq_true rfl) (k3 c1 c2 c3)
    · refine ax_aload_n (q := 28) (i := 0) dX4_pairFrom_27 rfl rfl rfl ?_
      refine ax_iload_n (q := 29) (i := 1) dX4_pairFrom_28 rfl rfl rfl ?_
      refine ax_iconst (q := 30) dX4_pairFrom_29 rfl ki_1 ?_
      refine ax_iadd (q := 31) dX4_pairFrom_30 rfl ?_
      refine ax_iload_n (q := 32) (i := 2) dX4_pairFrom_31 rfl rfl rfl ?_
      refine ax_iload_n (q := 33) (i := 3) dX4_pairFrom_32 rfl rfl rfl ?_
      refine ax_iload (q := 35) dX4_pairFrom_33 rfl rfl ?_
      refine ax_fg (lv2 := [none, none, none, none, none, none, none]) trivial ?_
      exact ax_callVcv (q := 38) (As := [ax_i (a0 + (1 : Int32)), ax_i a1, ax_i a2, ax_i a3]) (st := []) dX4_pairFrom_35 rfl lk_X4_31 shC_10 rfl rfl rfl rfl (Nat.le_of_ble_eq_true rfl) (k4 c1 c2)
  · refine ax_aload_n (q := 12) (i := 0) dX4_pairFrom_11 rfl rfl rfl ?_
    refine ax_iload (q := 14) dX4_pairFrom_12 rfl rfl ?_
    refine ax_fg (lv2 := [none, none, none, none, none, none, none]) trivial ?_
    exact ax_callVcv (q := 17) (As := [ax_i a3]) (st := []) dX4_pairFrom_14 rfl lk_X4_35 shC_10 rfl rfl rfl rfl (Nat.le_of_ble_eq_true rfl) (k5 c1)
set_option maxRecDepth 20000 in
theorem s_X4_pairFrom_17 {d : Nat} (hd : 0 ≤ d) {Q : Option ax_V → ax_S → Prop} (σ : ax_S)  (k1 : Q none σ) : ax_W shC (d + 1) mX4_pairFrom Q 17 [none, none, none, none, none, none, none] [] σ := by
  exact ax_vret dX4_pairFrom_17 rfl k1
set_option maxRecDepth 20000 in
theorem s_X4_pairFrom_38 {d : Nat} (hd : 0 ≤ d) {Q : Option ax_V → ax_S → Prop} (σ : ax_S)  (k1 : Q none σ) : ax_W shC (d + 1) mX4_pairFrom Q 38 [none, none, none, none, none, none, none] [] σ := by
  exact ax_vret dX4_pairFrom_38 rfl k1
set_option maxRecDepth 20000 in
theorem s_X4_pairFrom_61 {d : Nat} (hd : 0 ≤ d) {Q : Option ax_V → ax_S → Prop} (σ : ax_S) (x1 : Int32) (x2 : Int32) (x3 : Int32) (x4 : Int32) (k1 : ax_W shC (d + 1) mX4_pairFrom Q 66 [some (ax_r 10), some (ax_i x1), some (ax_i x2), some (ax_i x3), some (ax_i x4), some (ax_i (x1 + (1 : Int32))), none] [] σ) : ax_W shC (d + 1) mX4_pairFrom Q 61 [some (ax_r 10), some (ax_i x1), some (ax_i x2), some (ax_i x3), some (ax_i x4), none, none] [] σ := by
  refine ax_iload_n (q := 62) (i := 1) dX4_pairFrom_61 rfl rfl rfl ?_
  refine ax_iconst (q := 63) dX4_pairFrom_62 rfl ki_1 ?_
  refine ax_iadd (q := 64) dX4_pairFrom_63 rfl ?_
  refine ax_istore (q := 66) (lv2 := [some (ax_r 10), some (ax_i x1), some (ax_i x2), some (ax_i x3), some (ax_i x4), some (ax_i (x1 + (1 : Int32))), none]) dX4_pairFrom_64 rfl (by decide) rfl rfl ?_
  exact k1
set_option maxRecDepth 20000 in
theorem s_X4_pairFrom_66 {d : Nat} (hd : 1 ≤ d) {Q : Option ax_V → ax_S → Prop} (σ : ax_S) (x1 : Int32) (x2 : Int32) (x3 : Int32) (x4 : Int32) (x5 : Int32) (k1 : ((σ.1 5 9) ≤ x5) → Q none σ) (h2 : (¬ ((σ.1 5 9) ≤ x5)) → vp_in x1 8) (h3 : (¬ ((σ.1 5 9) ≤ x5)) → (¬ (¬ (σ.1 26 (Int32.toNatClampNeg x1)) = (2 : Int32))) → vp_in x5 8) (k4 : (¬ ((σ.1 5 9) ≤ x5)) → (¬ ((x2 >>> (x5 &&& 31)) &&& (1 : Int32)) = 0) → ax_W shC (d + 1) mX4_pairFrom Q 66 [some (ax_r 10), some (ax_i x1), some (ax_i x2), some (ax_i x3), some (ax_i x4), some (ax_i (x5 + (1 : Int32))), none] [] σ) (k5 : (¬ ((σ.1 5 9) ≤ x5)) → (¬ (¬ ((x2 >>> (x5 &&& 31)) &&& (1 : Int32)) = 0)) → ((¬ (¬ (σ.1 26 (Int32.toNatClampNeg x1)) = (2 : Int32))) ∧ (¬ (¬ (σ.1 26 (Int32.toNatClampNeg x5)) = (2 : Int32)))) → ax_W shC (d + 1) mX4_pairFrom Q 66 [some (ax_r 10), some (ax_i x1), some (ax_i x2), some (ax_i x3), some (ax_i x4), some (ax_i (x5 + (1 : Int32))), none] [] σ) (h6 : (¬ ((σ.1 5 9) ≤ x5)) → (¬ (¬ ((x2 >>> (x5 &&& 31)) &&& (1 : Int32)) = 0)) → (¬ ((¬ (¬ (σ.1 26 (Int32.toNatClampNeg x1)) = (2 : Int32))) ∧ (¬ (¬ (σ.1 26 (Int32.toNatClampNeg x5)) = (2 : Int32))))) → vp_in x1 8) (h7 : (¬ ((σ.1 5 9) ≤ x5)) → (¬ (¬ ((x2 >>> (x5 &&& 31)) &&& (1 : Int32)) = 0)) → (¬ ((¬ (¬ (σ.1 26 (Int32.toNatClampNeg x1)) = (2 : Int32))) ∧ (¬ (¬ (σ.1 26 (Int32.toNatClampNeg x5)) = (2 : Int32))))) → vp_in x5 8) (k8 : (¬ ((σ.1 5 9) ≤ x5)) → (¬ (¬ ((x2 >>> (x5 &&& 31)) &&& (1 : Int32)) = 0)) → (¬ ((¬ (¬ (σ.1 26 (Int32.toNatClampNeg x1)) = (2 : Int32))) ∧ (¬ (¬ (σ.1 26 (Int32.toNatClampNeg x5)) = (2 : Int32))))) → ax_Ct shC d mX4_pairFrom [ax_r 10, ax_i (x1 + (1 : Int32)), ax_i (x2 ||| ((1 : Int32) <<< (x5 &&& 31))), ax_i x3, ax_i (x4 + (if (0 : Int32) ≤ ((σ.1 23 (Int32.toNatClampNeg x1)) - (σ.1 23 (Int32.toNatClampNeg x5))) then ((σ.1 23 (Int32.toNatClampNeg x1)) - (σ.1 23 (Int32.toNatClampNeg x5))) else 0 - ((σ.1 23 (Int32.toNatClampNeg x1)) - (σ.1 23 (Int32.toNatClampNeg x5)))))] (fun r u => r = none ∧ ax_W shC (d + 1) mX4_pairFrom Q 169 [some (ax_r 10), some (ax_i x1), some (ax_i x2), some (ax_i x3), some (ax_i x4), some (ax_i x5), none] [] u) (ax_ui (ax_ui σ 43 (Int32.toNatClampNeg x1) x5) 43 (Int32.toNatClampNeg x5) x1)) : ax_W shC (d + 1) mX4_pairFrom Q 66 [some (ax_r 10), some (ax_i x1), some (ax_i x2), some (ax_i x3), some (ax_i x4), some (ax_i x5), none] [] σ := by
  refine ax_iload (q := 68) dX4_pairFrom_66 rfl rfl ?_
  refine ax_aload_n (q := 69) (i := 0) dX4_pairFrom_68 rfl rfl rfl ?_
  refine ax_get (q := 72) (k := 10) (j := 0) (v := ax_r 5) dX4_pairFrom_69 rfl shC_10 rfl rfl rfl (by decide) fl_X4_15 ?_
  refine ax_get (q := 75) (k := 5) (j := 9) (v := ax_i (σ.1 5 9)) dX4_pairFrom_72 rfl shC_5 rfl rfl rfl (by decide) fl_X4_26 ?_
  refine ax_icmp_ge (tgt := 175) (q := 78) dX4_pairFrom_75 (by decide) rfl (fun c1 => ?_) (fun c1 => ?_)
  · exact ax_vret dX4_pairFrom_175 rfl (k1 c1)
  · refine ax_aload_n (q := 79) (i := 0) dX4_pairFrom_78 rfl rfl rfl ?_
    refine ax_get (q := 82) (k := 10) (j := 0) (v := ax_r 5) dX4_pairFrom_79 rfl shC_10 rfl rfl rfl (by decide) fl_X4_15 ?_
    refine ax_get (q := 85) (k := 5) (j := 3) (v := ax_r 26) dX4_pairFrom_82 rfl shC_5 rfl rfl rfl (by decide) fl_X4_43 ?_
    refine ax_iload_n (q := 86) (i := 1) dX4_pairFrom_85 rfl rfl rfl ?_
    refine ax_iald (q := 87) (a := (Int32.toNatClampNeg x1)) (v := (σ.1 26 (Int32.toNatClampNeg x1))) dX4_pairFrom_86 rfl shC_26 (h2 c1) rfl rfl ?_
    refine ax_iconst (q := 88) dX4_pairFrom_87 rfl ki_2 ?_
    have K4 : ax_W shC (d + 1) mX4_pairFrom Q 110 [some (ax_r 10), some (ax_i x1), some (ax_i x2), some (ax_i x3), some (ax_i x4), some (ax_i x5), none] [ax_i (if ((¬ (¬ (σ.1 26 (Int32.toNatClampNeg x1)) = (2 : Int32))) ∧ (¬ (¬ (σ.1 26 (Int32.toNatClampNeg x5)) = (2 : Int32)))) then (1 : Int32) else 0)] σ := by
      refine ax_istore (q := 112) (lv2 := [some (ax_r 10), some (ax_i x1), some (ax_i x2), some (ax_i x3), some (ax_i x4), some (ax_i x5), some (ax_i (if ((¬ (¬ (σ.1 26 (Int32.toNatClampNeg x1)) = (2 : Int32))) ∧ (¬ (¬ (σ.1 26 (Int32.toNatClampNeg x5)) = (2 : Int32)))) then (1 : Int32) else 0))]) dX4_pairFrom_110 rfl (by decide) rfl rfl ?_
      refine ax_iload_n (q := 113) (i := 2) dX4_pairFrom_112 rfl rfl rfl ?_
      refine ax_iload (q := 115) dX4_pairFrom_113 rfl rfl ?_
      refine ax_callNfi (q := 118) (As := [ax_i x2, ax_i x5]) (st := []) (x := ((x2 >>> (x5 &&& 31)) &&& (1 : Int32))) (σ2 := σ) dX4_pairFrom_115 rfl lk_X4_39 rfl rfl (Nat.le_of_ble_eq_true rfl) (f_X11_bitOf (sh := shC) σ x2 x5  (d := d) (by omega)) ?_
      refine ax_if_ne (tgt := 169) (q := 121) dX4_pairFrom_118 (by decide) rfl (fun c5 => ?_) (fun c5 => ?_)
      · refine ax_iincK (q := 172) (lv2 := [some (ax_r 10), some (ax_i x1), some (ax_i x2), some (ax_i x3), some (ax_i x4), some (ax_i (x5 + (1 : Int32))), some (ax_i (if ((¬ (¬ (σ.1 26 (Int32.toNatClampNeg x1)) = (2 : Int32))) ∧ (¬ (¬ (σ.1 26 (Int32.toNatClampNeg x5)) = (2 : Int32)))) then (1 : Int32) else 0))]) dX4_pairFrom_169 rfl rfl ki_1 (by decide) rfl rfl ?_
        refine ax_goto (tgt := 66) dX4_pairFrom_172 (by decide) ?_
        refine ax_fg (lv2 := [some (ax_r 10), some (ax_i x1), some (ax_i x2), some (ax_i x3), some (ax_i x4), some (ax_i (x5 + (1 : Int32))), none]) ⟨rfl, rfl, rfl, rfl, rfl, rfl, trivial⟩ ?_
        exact (k4 c1 c5)
      · refine ax_iload (q := 123) dX4_pairFrom_121 rfl rfl ?_
        refine ax_if_neB (tgt := 169) (q := 126) dX4_pairFrom_123 (by decide) rfl (fun c6 => ?_) (fun c6 => ?_)
        · refine ax_iincK (q := 172) (lv2 := [some (ax_r 10), some (ax_i x1), some (ax_i x2), some (ax_i x3), some (ax_i x4), some (ax_i (x5 + (1 : Int32))), some (ax_i (if ((¬ (¬ (σ.1 26 (Int32.toNatClampNeg x1)) = (2 : Int32))) ∧ (¬ (¬ (σ.1 26 (Int32.toNatClampNeg x5)) = (2 : Int32)))) then (1 : Int32) else 0))]) dX4_pairFrom_169 rfl rfl ki_1 (by decide) rfl rfl ?_
          refine ax_goto (tgt := 66) dX4_pairFrom_172 (by decide) ?_
          refine ax_fg (lv2 := [some (ax_r 10), some (ax_i x1), some (ax_i x2), some (ax_i x3), some (ax_i x4), some (ax_i (x5 + (1 : Int32))), none]) ⟨rfl, rfl, rfl, rfl, rfl, rfl, trivial⟩ ?_
          exact (k5 c1 c5 c6)
        · refine ax_aload_n (q := 127) (i := 0) dX4_pairFrom_126 rfl rfl rfl ?_
          refine ax_get (q := 130) (k := 10) (j := 1) (v := ax_r 43) dX4_pairFrom_127 rfl shC_10 rfl rfl rfl (by decide) fl_X4_9 ?_
          refine ax_iload_n (q := 131) (i := 1) dX4_pairFrom_130 rfl rfl rfl ?_
          refine ax_iload (q := 133) dX4_pairFrom_131 rfl rfl ?_
          refine ax_iast (q := 134) (a := (Int32.toNatClampNeg x1)) dX4_pairFrom_133 rfl shC_43 (h6 c1 c5 c6) rfl ?_
          refine ax_aload_n (q := 135) (i := 0) dX4_pairFrom_134 rfl rfl rfl ?_
          refine ax_get (q := 138) (k := 10) (j := 1) (v := ax_r 43) dX4_pairFrom_135 rfl shC_10 rfl rfl rfl (by decide) fl_X4_9 ?_
          refine ax_iload (q := 140) dX4_pairFrom_138 rfl rfl ?_
          refine ax_iload_n (q := 141) (i := 1) dX4_pairFrom_140 rfl rfl rfl ?_
          refine ax_iast (q := 142) (a := (Int32.toNatClampNeg x5)) dX4_pairFrom_141 rfl shC_43 (h7 c1 c5 c6) rfl ?_
          refine ax_aload_n (q := 143) (i := 0) dX4_pairFrom_142 rfl rfl rfl ?_
          refine ax_iload_n (q := 144) (i := 1) dX4_pairFrom_143 rfl rfl rfl ?_
          refine ax_iconst (q := 145) dX4_pairFrom_144 rfl ki_1 ?_
          refine ax_iadd (q := 146) dX4_pairFrom_145 rfl ?_
          refine ax_iload_n (q := 147) (i := 2) dX4_pairFrom_146 rfl rfl rfl ?_
          refine ax_iconst (q := 148) dX4_pairFrom_147 rfl ki_1 ?_
          refine ax_iload (q := 150) dX4_pairFrom_148 rfl rfl ?_
          refine ax_ishl (q := 151) dX4_pairFrom_150 rfl ?_
          refine ax_ior (q := 152) dX4_pairFrom_151 rfl ?_
          refine ax_iload_n (q := 153) (i := 3) dX4_pairFrom_152 rfl rfl rfl ?_
          refine ax_iload (q := 155) dX4_pairFrom_153 rfl rfl ?_
          refine ax_aload_n (q := 156) (i := 0) dX4_pairFrom_155 rfl rfl rfl ?_
          refine ax_get (q := 159) (k := 10) (j := 0) (v := ax_r 5) dX4_pairFrom_156 rfl shC_10 rfl rfl rfl (by decide) fl_X4_15 ?_
          refine ax_iload_n (q := 160) (i := 1) dX4_pairFrom_159 rfl rfl rfl ?_
          refine ax_iload (q := 162) dX4_pairFrom_160 rfl rfl ?_
          refine ax_callVfi (q := 165) (As := [ax_i x1, ax_i x5]) (st := [ax_i x4, ax_i x3, ax_i (x2 ||| ((1 : Int32) <<< (x5 &&& 31))), ax_i (x1 + (1 : Int32)), ax_r 10]) (x := (if (0 : Int32) ≤ ((σ.1 23 (Int32.toNatClampNeg x1)) - (σ.1 23 (Int32.toNatClampNeg x5))) then ((σ.1 23 (Int32.toNatClampNeg x1)) - (σ.1 23 (Int32.toNatClampNeg x5))) else 0 - ((σ.1 23 (Int32.toNatClampNeg x1)) - (σ.1 23 (Int32.toNatClampNeg x5))))) (σ2 := (ax_ui (ax_ui σ 43 (Int32.toNatClampNeg x1) x5) 43 (Int32.toNatClampNeg x5) x1)) dX4_pairFrom_162 rfl lk_X4_46 shC_5 rfl rfl rfl rfl (Nat.le_of_ble_eq_true rfl) (f_X0_apart (ax_ui (ax_ui σ 43 (Int32.toNatClampNeg x1) x5) 43 (Int32.toNatClampNeg x5) x1) x1 x5 (h6 c1 c5 c6) (h7 c1 c5 c6) (d := d) (by omega)) ?_
          refine ax_iadd (q := 166) dX4_pairFrom_165 rfl ?_
          refine ax_fg (lv2 := [some (ax_r 10), some (ax_i x1), some (ax_i x2), some (ax_i x3), some (ax_i x4), some (ax_i x5), none]) ⟨rfl, rfl, rfl, rfl, rfl, rfl, trivial⟩ ?_
          exact ax_callVcv (q := 169) (As := [ax_i (x1 + (1 : Int32)), ax_i (x2 ||| ((1 : Int32) <<< (x5 &&& 31))), ax_i x3, ax_i (x4 + (if (0 : Int32) ≤ ((σ.1 23 (Int32.toNatClampNeg x1)) - (σ.1 23 (Int32.toNatClampNeg x5))) then ((σ.1 23 (Int32.toNatClampNeg x1)) - (σ.1 23 (Int32.toNatClampNeg x5))) else 0 - ((σ.1 23 (Int32.toNatClampNeg x1)) - (σ.1 23 (Int32.toNatClampNeg x5)))))]) (st := []) dX4_pairFrom_166 rfl lk_X4_31 shC_10 rfl rfl rfl rfl (Nat.le_of_ble_eq_true rfl) (k8 c1 c5 c6)
    refine ax_icmp_ne (tgt := 109) (q := 91) dX4_pairFrom_88 (by decide) rfl (fun c2 => ?_) (fun c2 => ?_)
    · refine ax_iconst (q := 110) dX4_pairFrom_109 rfl ki_0 ?_
      exact ax_cv (if_neg (fun z => (fun y => y c2) z.1)) K4
    · refine ax_aload_n (q := 92) (i := 0) dX4_pairFrom_91 rfl rfl rfl ?_
      refine ax_get (q := 95) (k := 10) (j := 0) (v := ax_r 5) dX4_pairFrom_92 rfl shC_10 rfl rfl rfl (by decide) fl_X4_15 ?_
      refine ax_get (q := 98) (k := 5) (j := 3) (v := ax_r 26) dX4_pairFrom_95 rfl shC_5 rfl rfl rfl (by decide) fl_X4_43 ?_
      refine ax_iload (q := 100) dX4_pairFrom_98 rfl rfl ?_
      refine ax_iald (q := 101) (a := (Int32.toNatClampNeg x5)) (v := (σ.1 26 (Int32.toNatClampNeg x5))) dX4_pairFrom_100 rfl shC_26 (h3 c1 c2) rfl rfl ?_
      refine ax_iconst (q := 102) dX4_pairFrom_101 rfl ki_2 ?_
      refine ax_icmp_ne (tgt := 109) (q := 105) dX4_pairFrom_102 (by decide) rfl (fun c3 => ?_) (fun c3 => ?_)
      · refine ax_iconst (q := 110) dX4_pairFrom_109 rfl ki_0 ?_
        exact ax_cv (if_neg (fun z => (fun y => y c3) z.2)) K4
      · refine ax_iconst (q := 106) dX4_pairFrom_105 rfl ki_1 ?_
        refine ax_goto (tgt := 110) dX4_pairFrom_106 (by decide) ?_
        exact ax_cv (if_pos ⟨c2, c3⟩) K4
set_option maxRecDepth 20000 in
theorem s_X4_pairFrom_169 {d : Nat} (hd : 0 ≤ d) {Q : Option ax_V → ax_S → Prop} (σ : ax_S) (x1 : Int32) (x2 : Int32) (x3 : Int32) (x4 : Int32) (x5 : Int32) (k1 : ax_W shC (d + 1) mX4_pairFrom Q 66 [some (ax_r 10), some (ax_i x1), some (ax_i x2), some (ax_i x3), some (ax_i x4), some (ax_i (x5 + (1 : Int32))), none] [] σ) : ax_W shC (d + 1) mX4_pairFrom Q 169 [some (ax_r 10), some (ax_i x1), some (ax_i x2), some (ax_i x3), some (ax_i x4), some (ax_i x5), none] [] σ := by
  refine ax_iincK (q := 172) (lv2 := [some (ax_r 10), some (ax_i x1), some (ax_i x2), some (ax_i x3), some (ax_i x4), some (ax_i (x5 + (1 : Int32))), none]) dX4_pairFrom_169 rfl rfl ki_1 (by decide) rfl rfl ?_
  refine ax_goto (tgt := 66) dX4_pairFrom_172 (by decide) ?_
  exact k1
set_option maxRecDepth 20000 in
theorem s_X4_seek_0 {d : Nat} (hd : 0 ≤ d) {Q : Option ax_V → ax_S → Prop} (σ : ax_S)  (k1 : ax_Ct shC d mX4_pairFrom [ax_r 10, ax_i (0 : Int32), ax_i (0 : Int32), ax_i (if (¬ (¬ ((σ.1 5 9) - (σ.1 5 9) / (2 : Int32) * (2 : Int32)) = (1 : Int32))) then (1 : Int32) else 0), ax_i (0 : Int32)] (fun r u => r = none ∧ ax_W shC (d + 1) mX4_seek Q 37 [some (ax_r 10)] [] u) (ax_ui (ax_ui σ 10 2 (1000 : Int32)) 10 3 (-1 : Int32))) : ax_W shC (d + 1) mX4_seek Q 0 [some (ax_r 10)] [] σ := by
  refine ax_aload_n (q := 1) (i := 0) dX4_seek_0 rfl rfl rfl ?_
  refine ax_sipush (q := 4) dX4_seek_1 rfl ks_1000 ?_
  refine ax_puti (q := 7) (k := 10) (j := 2) dX4_seek_4 rfl shC_10 rfl rfl (by decide) fl_X4_19 rfl rfl rfl rfl ?_
  refine ax_aload_n (q := 8) (i := 0) dX4_seek_7 rfl rfl rfl ?_
  refine ax_iconst (q := 9) dX4_seek_8 rfl ki_m1 ?_
  refine ax_puti (q := 12) (k := 10) (j := 3) dX4_seek_9 rfl shC_10 rfl rfl (by decide) fl_X4_23 rfl rfl rfl rfl ?_
  refine ax_aload_n (q := 13) (i := 0) dX4_seek_12 rfl rfl rfl ?_
  refine ax_iconst (q := 14) dX4_seek_13 rfl ki_0 ?_
  refine ax_iconst (q := 15) dX4_seek_14 rfl ki_0 ?_
  refine ax_aload_n (q := 16) (i := 0) dX4_seek_15 rfl rfl rfl ?_
  refine ax_get (q := 19) (k := 10) (j := 0) (v := ax_r 5) dX4_seek_16 rfl shC_10 rfl rfl rfl (by decide) fl_X4_15 ?_
  refine ax_get (q := 22) (k := 5) (j := 9) (v := ax_i (σ.1 5 9)) dX4_seek_19 rfl shC_5 rfl rfl rfl (by decide) fl_X4_26 ?_
  refine ax_iconst (q := 23) dX4_seek_22 rfl ki_2 ?_
  refine ax_irem (q := 24) dX4_seek_23 rfl (by decide) ?_
  refine ax_iconst (q := 25) dX4_seek_24 rfl ki_1 ?_
  have K2 : ax_W shC (d + 1) mX4_seek Q 33 [some (ax_r 10)] [ax_i (if (¬ (¬ ((σ.1 5 9) - (σ.1 5 9) / (2 : Int32) * (2 : Int32)) = (1 : Int32))) then (1 : Int32) else 0), ax_i (0 : Int32), ax_i (0 : Int32), ax_r 10] (ax_ui (ax_ui σ 10 2 (1000 : Int32)) 10 3 (-1 : Int32)) := by
    refine ax_iconst (q := 34) dX4_seek_33 rfl ki_0 ?_
    exact ax_callVcv (q := 37) (As := [ax_i (0 : Int32), ax_i (0 : Int32), ax_i (if (¬ (¬ ((σ.1 5 9) - (σ.1 5 9) / (2 : Int32) * (2 : Int32)) = (1 : Int32))) then (1 : Int32) else 0), ax_i (0 : Int32)]) (st := []) dX4_seek_34 rfl lk_X4_31 shC_10 rfl rfl rfl rfl (Nat.le_of_ble_eq_true rfl) k1
  refine ax_icmp_ne (tgt := 32) (q := 28) dX4_seek_25 (by decide) rfl (fun c1 => ?_) (fun c1 => ?_)
  · refine ax_iconst (q := 33) dX4_seek_32 rfl ki_0 ?_
    exact ax_cv (if_neg (fun y => y c1)) K2
  · refine ax_iconst (q := 29) dX4_seek_28 rfl ki_1 ?_
    refine ax_goto (tgt := 33) dX4_seek_29 (by decide) ?_
    exact ax_cv (if_pos c1) K2
set_option maxRecDepth 20000 in
theorem s_X4_seek_37 {d : Nat} (hd : 0 ≤ d) {Q : Option ax_V → ax_S → Prop} (σ : ax_S)  (k1 : Q (some (ax_i (if (¬ ((1000 : Int32) ≤ (σ.1 10 2))) then (1 : Int32) else 0))) σ) : ax_W shC (d + 1) mX4_seek Q 37 [some (ax_r 10)] [] σ := by
  refine ax_aload_n (q := 38) (i := 0) dX4_seek_37 rfl rfl rfl ?_
  refine ax_get (q := 41) (k := 10) (j := 2) (v := ax_i (σ.1 10 2)) dX4_seek_38 rfl shC_10 rfl rfl rfl (by decide) fl_X4_19 ?_
  refine ax_sipush (q := 44) dX4_seek_41 rfl ks_1000 ?_
  have K2 : ax_W shC (d + 1) mX4_seek Q 52 [some (ax_r 10)] [ax_i (if (¬ ((1000 : Int32) ≤ (σ.1 10 2))) then (1 : Int32) else 0)] σ := by
    exact ax_iret dX4_seek_52 rfl (ax_nb _) k1
  refine ax_icmp_ge (tgt := 51) (q := 47) dX4_seek_44 (by decide) rfl (fun c1 => ?_) (fun c1 => ?_)
  · refine ax_iconst (q := 52) dX4_seek_51 rfl ki_0 ?_
    exact ax_cv (if_neg (fun y => y c1)) K2
  · refine ax_iconst (q := 48) dX4_seek_47 rfl ki_1 ?_
    refine ax_goto (tgt := 52) dX4_seek_48 (by decide) ?_
    exact ax_cv (if_pos c1) K2
set_option maxRecDepth 20000 in
theorem f_X5_clear (σ : ax_S)   {d : Nat} (hd : 1 ≤ d) : ax_Ct shC d mX5_clear [ax_r 7] (fun r u => r = none ∧ u = (ax_ui σ 7 1 (0 : Int32))) σ := by
  obtain ⟨d, rfl⟩ : ∃ e, d = e + 1 := ⟨d - 1, by omega⟩
  refine ax_Ct.of (lv := [some (ax_r 7)]) (by decide +kernel) (fun ad => Nat.le_of_ble_eq_true rfl) (fun ad => rfl) ?_
  refine ax_aload_n (q := 1) (i := 0) dX5_clear_0 rfl rfl rfl ?_
  refine ax_iconst (q := 2) dX5_clear_1 rfl ki_0 ?_
  refine ax_puti (q := 5) (k := 7) (j := 1) dX5_clear_2 rfl shC_7 rfl rfl (by decide) fl_X5_15 rfl rfl rfl rfl ?_
  exact ax_vret dX5_clear_5 rfl ⟨rfl, rfl⟩
set_option maxRecDepth 20000 in
theorem s_X5_remember_0 {d : Nat} (hd : 0 ≤ d) {Q : Option ax_V → ax_S → Prop} (σ : ax_S) (a1 : Int32) (k1 : ax_Ct shC d mX0_write [ax_r 5, ax_r 36, ax_i ((σ.1 7 2) * (36 : Int32))] (fun r u => r = none ∧ ax_W shC (d + 1) mX5_remember Q 17 [some (ax_r 7), none, some (ax_i a1), some (ax_i ((σ.1 7 2) * (36 : Int32)))] [] u) σ) : ax_W shC (d + 1) mX5_remember Q 0 [some (ax_r 7), some (ax_r 5), some (ax_i a1), none] [] σ := by
  refine ax_aload_n (q := 1) (i := 0) dX5_remember_0 rfl rfl rfl ?_
  refine ax_get (q := 4) (k := 7) (j := 2) (v := ax_i (σ.1 7 2)) dX5_remember_1 rfl shC_7 rfl rfl rfl (by decide) fl_X5_19 ?_
  refine ax_bipush (q := 6) dX5_remember_4 rfl kb_36 ?_
  refine ax_imul (q := 7) dX5_remember_6 rfl ?_
  refine ax_istore_n (q := 8) (i := 3) (lv2 := [some (ax_r 7), some (ax_r 5), some (ax_i a1), some (ax_i ((σ.1 7 2) * (36 : Int32)))]) dX5_remember_7 rfl rfl (by decide) rfl rfl ?_
  refine ax_aload_n (q := 9) (i := 1) dX5_remember_8 rfl rfl rfl ?_
  refine ax_aload_n (q := 10) (i := 0) dX5_remember_9 rfl rfl rfl ?_
  refine ax_get (q := 13) (k := 7) (j := 0) (v := ax_r 36) dX5_remember_10 rfl shC_7 rfl rfl rfl (by decide) fl_X5_11 ?_
  refine ax_iload_n (q := 14) (i := 3) dX5_remember_13 rfl rfl rfl ?_
  refine ax_fg (lv2 := [some (ax_r 7), none, some (ax_i a1), some (ax_i ((σ.1 7 2) * (36 : Int32)))]) ⟨rfl, rfl, rfl, trivial⟩ ?_
  exact ax_callVcv (q := 17) (As := [ax_r 36, ax_i ((σ.1 7 2) * (36 : Int32))]) (st := []) dX5_remember_14 rfl lk_X5_22 shC_5 rfl rfl rfl rfl (Nat.le_of_ble_eq_true rfl) k1
set_option maxRecDepth 20000 in
theorem s_X5_remember_17 {d : Nat} (hd : 0 ≤ d) {Q : Option ax_V → ax_S → Prop} (σ : ax_S) (x2 : Int32) (x3 : Int32) (h1 : vp_in (x3 + (35 : Int32)) 1440) (k2 : Q none (ax_ui (ax_ui (ax_ui σ 36 (Int32.toNatClampNeg (x3 + (35 : Int32))) x2) 7 2 (((σ.1 7 2) + (1 : Int32)) - ((σ.1 7 2) + (1 : Int32)) / (40 : Int32) * (40 : Int32))) 7 1 (if ((σ.1 7 1) + (1 : Int32)) < (40 : Int32) then ((σ.1 7 1) + (1 : Int32)) else (40 : Int32)))) : ax_W shC (d + 1) mX5_remember Q 17 [some (ax_r 7), none, some (ax_i x2), some (ax_i x3)] [] σ := by
  refine ax_aload_n (q := 18) (i := 0) dX5_remember_17 rfl rfl rfl ?_
  refine ax_get (q := 21) (k := 7) (j := 0) (v := ax_r 36) dX5_remember_18 rfl shC_7 rfl rfl rfl (by decide) fl_X5_11 ?_
  refine ax_iload_n (q := 22) (i := 3) dX5_remember_21 rfl rfl rfl ?_
  refine ax_bipush (q := 24) dX5_remember_22 rfl kb_35 ?_
  refine ax_iadd (q := 25) dX5_remember_24 rfl ?_
  refine ax_iload_n (q := 26) (i := 2) dX5_remember_25 rfl rfl rfl ?_
  refine ax_iast (q := 27) (a := (Int32.toNatClampNeg (x3 + (35 : Int32)))) dX5_remember_26 rfl shC_36 h1 rfl ?_
  refine ax_aload_n (q := 28) (i := 0) dX5_remember_27 rfl rfl rfl ?_
  refine ax_aload_n (q := 29) (i := 0) dX5_remember_28 rfl rfl rfl ?_
  refine ax_get (q := 32) (k := 7) (j := 2) (v := ax_i (σ.1 7 2)) dX5_remember_29 rfl shC_7 rfl rfl rfl (by decide) fl_X5_19 ?_
  refine ax_iconst (q := 33) dX5_remember_32 rfl ki_1 ?_
  refine ax_iadd (q := 34) dX5_remember_33 rfl ?_
  refine ax_bipush (q := 36) dX5_remember_34 rfl kb_40 ?_
  refine ax_irem (q := 37) dX5_remember_36 rfl (by decide) ?_
  refine ax_puti (q := 40) (k := 7) (j := 2) dX5_remember_37 rfl shC_7 rfl rfl (by decide) fl_X5_19 rfl rfl rfl rfl ?_
  refine ax_aload_n (q := 41) (i := 0) dX5_remember_40 rfl rfl rfl ?_
  refine ax_bipush (q := 43) dX5_remember_41 rfl kb_40 ?_
  refine ax_aload_n (q := 44) (i := 0) dX5_remember_43 rfl rfl rfl ?_
  refine ax_get (q := 47) (k := 7) (j := 1) (v := ax_i (σ.1 7 1)) dX5_remember_44 rfl shC_7 rfl rfl rfl (by decide) fl_X5_15 ?_
  refine ax_iconst (q := 48) dX5_remember_47 rfl ki_1 ?_
  refine ax_iadd (q := 49) dX5_remember_48 rfl ?_
  refine ax_mmin (q := 52) dX5_remember_49 rfl mk_X5_26 (Nat.le_of_ble_eq_true rfl) ?_
  refine ax_puti (q := 55) (k := 7) (j := 1) dX5_remember_52 rfl shC_7 rfl rfl (by decide) fl_X5_15 rfl rfl rfl rfl ?_
  exact ax_vret dX5_remember_55 rfl k2
set_option maxRecDepth 20000 in
theorem s_X5_goBack_0 {d : Nat} (hd : 0 ≤ d) {Q : Option ax_V → ax_S → Prop} (σ : ax_S)  (k1 : ax_Ct shC d mX0_read [ax_r 5, ax_r 36, ax_i (((((σ.1 7 2) + (40 : Int32)) - (1 : Int32)) - (((σ.1 7 2) + (40 : Int32)) - (1 : Int32)) / (40 : Int32) * (40 : Int32)) * (36 : Int32))] (fun r u => r = none ∧ ax_W shC (d + 1) mX5_goBack Q 43 [some (ax_r 7), none, some (ax_i (((((σ.1 7 2) + (40 : Int32)) - (1 : Int32)) - (((σ.1 7 2) + (40 : Int32)) - (1 : Int32)) / (40 : Int32) * (40 : Int32)) * (36 : Int32)))] [] u) (ax_ui (ax_ui σ 7 2 ((((σ.1 7 2) + (40 : Int32)) - (1 : Int32)) - (((σ.1 7 2) + (40 : Int32)) - (1 : Int32)) / (40 : Int32) * (40 : Int32))) 7 1 ((σ.1 7 1) - (1 : Int32)))) : ax_W shC (d + 1) mX5_goBack Q 0 [some (ax_r 7), some (ax_r 5), none] [] σ := by
  refine ax_aload_n (q := 1) (i := 0) dX5_goBack_0 rfl rfl rfl ?_
  refine ax_aload_n (q := 2) (i := 0) dX5_goBack_1 rfl rfl rfl ?_
  refine ax_get (q := 5) (k := 7) (j := 2) (v := ax_i (σ.1 7 2)) dX5_goBack_2 rfl shC_7 rfl rfl rfl (by decide) fl_X5_19 ?_
  refine ax_bipush (q := 7) dX5_goBack_5 rfl kb_40 ?_
  refine ax_iadd (q := 8) dX5_goBack_7 rfl ?_
  refine ax_iconst (q := 9) dX5_goBack_8 rfl ki_1 ?_
  refine ax_isub (q := 10) dX5_goBack_9 rfl ?_
  refine ax_bipush (q := 12) dX5_goBack_10 rfl kb_40 ?_
  refine ax_irem (q := 13) dX5_goBack_12 rfl (by decide) ?_
  refine ax_puti (q := 16) (k := 7) (j := 2) dX5_goBack_13 rfl shC_7 rfl rfl (by decide) fl_X5_19 rfl rfl rfl rfl ?_
  refine ax_aload_n (q := 17) (i := 0) dX5_goBack_16 rfl rfl rfl ?_
  refine ax_dupr (q := 18) dX5_goBack_17 rfl ?_
  refine ax_get (q := 21) (k := 7) (j := 1) (v := ax_i (σ.1 7 1)) dX5_goBack_18 rfl shC_7 rfl rfl rfl (by decide) fl_X5_15 ?_
  refine ax_iconst (q := 22) dX5_goBack_21 rfl ki_1 ?_
  refine ax_isub (q := 23) dX5_goBack_22 rfl ?_
  refine ax_puti (q := 26) (k := 7) (j := 1) dX5_goBack_23 rfl shC_7 rfl rfl (by decide) fl_X5_15 rfl rfl rfl rfl ?_
  refine ax_aload_n (q := 27) (i := 0) dX5_goBack_26 rfl rfl rfl ?_
  refine ax_get (q := 30) (k := 7) (j := 2) (v := ax_i ((((σ.1 7 2) + (40 : Int32)) - (1 : Int32)) - (((σ.1 7 2) + (40 : Int32)) - (1 : Int32)) / (40 : Int32) * (40 : Int32))) dX5_goBack_27 rfl shC_7 rfl rfl rfl (by decide) fl_X5_19 ?_
  refine ax_bipush (q := 32) dX5_goBack_30 rfl kb_36 ?_
  refine ax_imul (q := 33) dX5_goBack_32 rfl ?_
  refine ax_istore_n (q := 34) (i := 2) (lv2 := [some (ax_r 7), some (ax_r 5), some (ax_i (((((σ.1 7 2) + (40 : Int32)) - (1 : Int32)) - (((σ.1 7 2) + (40 : Int32)) - (1 : Int32)) / (40 : Int32) * (40 : Int32)) * (36 : Int32)))]) dX5_goBack_33 rfl rfl (by decide) rfl rfl ?_
  refine ax_aload_n (q := 35) (i := 1) dX5_goBack_34 rfl rfl rfl ?_
  refine ax_aload_n (q := 36) (i := 0) dX5_goBack_35 rfl rfl rfl ?_
  refine ax_get (q := 39) (k := 7) (j := 0) (v := ax_r 36) dX5_goBack_36 rfl shC_7 rfl rfl rfl (by decide) fl_X5_11 ?_
  refine ax_iload_n (q := 40) (i := 2) dX5_goBack_39 rfl rfl rfl ?_
  refine ax_fg (lv2 := [some (ax_r 7), none, some (ax_i (((((σ.1 7 2) + (40 : Int32)) - (1 : Int32)) - (((σ.1 7 2) + (40 : Int32)) - (1 : Int32)) / (40 : Int32) * (40 : Int32)) * (36 : Int32)))]) ⟨rfl, rfl, trivial⟩ ?_
  exact ax_callVcv (q := 43) (As := [ax_r 36, ax_i (((((σ.1 7 2) + (40 : Int32)) - (1 : Int32)) - (((σ.1 7 2) + (40 : Int32)) - (1 : Int32)) / (40 : Int32) * (40 : Int32)) * (36 : Int32))]) (st := []) dX5_goBack_40 rfl lk_X5_32 shC_5 rfl rfl rfl rfl (Nat.le_of_ble_eq_true rfl) k1
set_option maxRecDepth 20000 in
theorem s_X5_goBack_43 {d : Nat} (hd : 0 ≤ d) {Q : Option ax_V → ax_S → Prop} (σ : ax_S) (x2 : Int32) (h1 : vp_in (x2 + (35 : Int32)) 1440) (k2 : Q (some (ax_i (σ.1 36 (Int32.toNatClampNeg (x2 + (35 : Int32)))))) σ) : ax_W shC (d + 1) mX5_goBack Q 43 [some (ax_r 7), none, some (ax_i x2)] [] σ := by
  refine ax_aload_n (q := 44) (i := 0) dX5_goBack_43 rfl rfl rfl ?_
  refine ax_get (q := 47) (k := 7) (j := 0) (v := ax_r 36) dX5_goBack_44 rfl shC_7 rfl rfl rfl (by decide) fl_X5_11 ?_
  refine ax_iload_n (q := 48) (i := 2) dX5_goBack_47 rfl rfl rfl ?_
  refine ax_bipush (q := 50) dX5_goBack_48 rfl kb_35 ?_
  refine ax_iadd (q := 51) dX5_goBack_50 rfl ?_
  refine ax_iald (q := 52) (a := (Int32.toNatClampNeg (x2 + (35 : Int32)))) (v := (σ.1 36 (Int32.toNatClampNeg (x2 + (35 : Int32))))) dX5_goBack_51 rfl shC_36 h1 rfl rfl ?_
  exact ax_iret dX5_goBack_52 rfl rfl k2
set_option maxRecDepth 20000 in
theorem s_X6_comparison_0 {d : Nat} (hd : 0 ≤ d) {Q : Option ax_V → ax_S → Prop} (σ : ax_S)  (k1 : ax_Ct shC d mX9_sign [ax_r 1] (fun r u => ∃ x : Int32, r = some (ax_i x) ∧ ax_W shC (d + 1) mX6_comparison Q 7 [none] (ax_i x :: []) u) σ) : ax_W shC (d + 1) mX6_comparison Q 0 [some (ax_r 3)] [] σ := by
  refine ax_aload_n (q := 1) (i := 0) dX6_comparison_0 rfl rfl rfl ?_
  refine ax_get (q := 4) (k := 3) (j := 0) (v := ax_r 1) dX6_comparison_1 rfl shC_3 rfl rfl rfl (by decide) fl_X6_15 ?_
  refine ax_fg (lv2 := [none]) trivial ?_
  exact ax_callVci (q := 7) (As := []) (st := []) dX6_comparison_4 rfl lk_X6_36 shC_1 rfl rfl rfl rfl (Nat.le_of_ble_eq_true rfl) k1
set_option maxRecDepth 20000 in
theorem s_X6_comparison_7 {d : Nat} (hd : 0 ≤ d) {Q : Option ax_V → ax_S → Prop} (σ : ax_S) (rr : Int32) (k1 : (rr = (60 : Int32)) → Q (some (ax_i (7 : Int32))) σ) (k2 : (¬ (rr = (60 : Int32))) → (rr = (61 : Int32)) → Q (some (ax_i (6 : Int32))) σ) (k3 : (¬ (rr = (60 : Int32))) → (¬ (rr = (61 : Int32))) → (rr = (62 : Int32)) → Q (some (ax_i (8 : Int32))) σ) (k4 : (¬ (rr = (60 : Int32))) → (¬ (rr = (61 : Int32))) → (¬ (rr = (62 : Int32))) → Q (some (ax_i (-1 : Int32))) σ) : ax_W shC (d + 1) mX6_comparison Q 7 [none] [ax_i rr] σ := by
  by_cases c1 : (rr = (60 : Int32))
  · refine ax_tableIn (tgt := 35) (off := 28) dX6_comparison_7 (by rw [c1]; decide) (by rw [c1]; decide) (by rw [c1]; decide) (by decide) ?_
    refine ax_bipush (q := 37) dX6_comparison_35 rfl kb_7 ?_
    exact ax_iret dX6_comparison_37 rfl rfl (k1 c1)
  by_cases c2 : (rr = (61 : Int32))
  · refine ax_tableIn (tgt := 32) (off := 25) dX6_comparison_7 (by rw [c2]; decide) (by rw [c2]; decide) (by rw [c2]; decide) (by decide) ?_
    refine ax_bipush (q := 34) dX6_comparison_32 rfl kb_6 ?_
    exact ax_iret dX6_comparison_34 rfl rfl (k2 c1 c2)
  by_cases c3 : (rr = (62 : Int32))
  · refine ax_tableIn (tgt := 38) (off := 31) dX6_comparison_7 (by rw [c3]; decide) (by rw [c3]; decide) (by rw [c3]; decide) (by decide) ?_
    refine ax_bipush (q := 40) dX6_comparison_38 rfl kb_8 ?_
    exact ax_iret dX6_comparison_40 rfl rfl (k3 c1 c2 c3)
  · refine ax_tableOut (tgt := 41) dX6_comparison_7 (by have z0 := ax_net (k := 60) (60) (by decide) c1; have z1 := ax_net (k := 61) (61) (by decide) c2; have z2 := ax_net (k := 62) (62) (by decide) c3; omega) (by decide) ?_
    refine ax_iconst (q := 42) dX6_comparison_41 rfl ki_m1 ?_
    exact ax_iret dX6_comparison_42 rfl rfl (k4 c1 c2 c3)
set_option maxRecDepth 20000 in
theorem s_X6_put_0 {d : Nat} (hd : 0 ≤ d) {Q : Option ax_V → ax_S → Prop} (σ : ax_S) (a0 : Int32) (a1 : Int32) (k1 : ((Int32.ofNat 240) ≤ (σ.1 3 2)) → Q none σ) (h2 : (¬ ((Int32.ofNat 240) ≤ (σ.1 3 2))) → vp_in (σ.1 3 2) 240) (k3 : (¬ ((Int32.ofNat 240) ≤ (σ.1 3 2))) → Q none (ax_ui (ax_ui σ 18 (Int32.toNatClampNeg (σ.1 3 2)) (a0 ||| (a1 <<< ((4 : Int32) &&& 31)))) 3 2 ((σ.1 3 2) + (1 : Int32)))) : ax_W shC (d + 1) mX6_put Q 0 [some (ax_r 3), some (ax_i a0), some (ax_i a1)] [] σ := by
  refine ax_aload_n (q := 1) (i := 0) dX6_put_0 rfl rfl rfl ?_
  refine ax_get (q := 4) (k := 3) (j := 2) (v := ax_i (σ.1 3 2)) dX6_put_1 rfl shC_3 rfl rfl rfl (by decide) fl_X6_25 ?_
  refine ax_aload_n (q := 5) (i := 0) dX6_put_4 rfl rfl rfl ?_
  refine ax_get (q := 8) (k := 3) (j := 1) (v := ax_r 18) dX6_put_5 rfl shC_3 rfl rfl rfl (by decide) fl_X6_11 ?_
  refine ax_alen (q := 9) dX6_put_8 rfl shC_18 ?_
  refine ax_icmp_ge (tgt := 36) (q := 12) dX6_put_9 (by decide) rfl (fun c1 => ?_) (fun c1 => ?_)
  · exact ax_vret dX6_put_36 rfl (k1 c1)
  · refine ax_aload_n (q := 13) (i := 0) dX6_put_12 rfl rfl rfl ?_
    refine ax_get (q := 16) (k := 3) (j := 1) (v := ax_r 18) dX6_put_13 rfl shC_3 rfl rfl rfl (by decide) fl_X6_11 ?_
    refine ax_aload_n (q := 17) (i := 0) dX6_put_16 rfl rfl rfl ?_
    refine ax_get (q := 20) (k := 3) (j := 2) (v := ax_i (σ.1 3 2)) dX6_put_17 rfl shC_3 rfl rfl rfl (by decide) fl_X6_25 ?_
    refine ax_iload_n (q := 21) (i := 1) dX6_put_20 rfl rfl rfl ?_
    refine ax_iload_n (q := 22) (i := 2) dX6_put_21 rfl rfl rfl ?_
    refine ax_iconst (q := 23) dX6_put_22 rfl ki_4 ?_
    refine ax_ishl (q := 24) dX6_put_23 rfl ?_
    refine ax_ior (q := 25) dX6_put_24 rfl ?_
    refine ax_iast (q := 26) (a := (Int32.toNatClampNeg (σ.1 3 2))) dX6_put_25 rfl shC_18 (h2 c1) rfl ?_
    refine ax_aload_n (q := 27) (i := 0) dX6_put_26 rfl rfl rfl ?_
    refine ax_dupr (q := 28) dX6_put_27 rfl ?_
    refine ax_get (q := 31) (k := 3) (j := 2) (v := ax_i (σ.1 3 2)) dX6_put_28 rfl shC_3 rfl rfl rfl (by decide) fl_X6_25 ?_
    refine ax_iconst (q := 32) dX6_put_31 rfl ki_1 ?_
    refine ax_iadd (q := 33) dX6_put_32 rfl ?_
    refine ax_puti (q := 36) (k := 3) (j := 2) dX6_put_33 rfl shC_3 rfl rfl (by decide) fl_X6_25 rfl rfl rfl rfl ?_
    exact ax_vret dX6_put_36 rfl (k3 c1)
set_option maxRecDepth 20000 in
theorem s_X6_readsNested_0 {d : Nat} (hd : 0 ≤ d) {Q : Option ax_V → ax_S → Prop} (σ : ax_S) (a0 : Int32) (a1 : Int32) (k1 : (a0 < (6 : Int32)) → (¬ a1 = (40 : Int32)) → ax_Ct shC d mX6_readsUnit [ax_r 3, ax_i (a0 + (1 : Int32)), ax_i (0 : Int32)] (fun r u => ∃ x : Int32, r = some (ax_i x) ∧ ax_W shC (d + 1) mX6_readsNested Q 64 [some (ax_r 3), none, none] (ax_i x :: []) u) (ax_ui σ 1 2 ((σ.1 1 2) + (1 : Int32)))) (k2 : (a0 < (6 : Int32)) → (¬ (¬ a1 = (40 : Int32))) → ax_Ct shC d mX6_readsCondition [ax_r 3, ax_i (a0 + (1 : Int32)), ax_i (0 : Int32)] (fun r u => ∃ x : Int32, r = some (ax_i x) ∧ ax_W shC (d + 1) mX6_readsNested Q 35 [some (ax_r 3), none, none] (ax_i x :: []) u) (ax_ui σ 1 2 ((σ.1 1 2) + (1 : Int32)))) (k3 : (¬ (a0 < (6 : Int32))) → Q (some (ax_i (0 : Int32))) σ) : ax_W shC (d + 1) mX6_readsNested Q 0 [some (ax_r 3), some (ax_i a0), some (ax_i a1)] [] σ := by
  refine ax_iload_n (q := 1) (i := 1) dX6_readsNested_0 rfl rfl rfl ?_
  refine ax_bipush (q := 3) dX6_readsNested_1 rfl kb_6 ?_
  refine ax_icmp_lt (tgt := 8) (q := 6) dX6_readsNested_3 (by decide) rfl (fun c1 => ?_) (fun c1 => ?_)
  · refine ax_aload_n (q := 9) (i := 0) dX6_readsNested_8 rfl rfl rfl ?_
    refine ax_get (q := 12) (k := 3) (j := 0) (v := ax_r 1) dX6_readsNested_9 rfl shC_3 rfl rfl rfl (by decide) fl_X6_15 ?_
    refine ax_dupr (q := 13) dX6_readsNested_12 rfl ?_
    refine ax_get (q := 16) (k := 1) (j := 2) (v := ax_i (σ.1 1 2)) dX6_readsNested_13 rfl shC_1 rfl rfl rfl (by decide) fl_X6_19 ?_
    refine ax_iconst (q := 17) dX6_readsNested_16 rfl ki_1 ?_
    refine ax_iadd (q := 18) dX6_readsNested_17 rfl ?_
    refine ax_puti (q := 21) (k := 1) (j := 2) dX6_readsNested_18 rfl shC_1 rfl rfl (by decide) fl_X6_19 rfl rfl rfl rfl ?_
    refine ax_iload_n (q := 22) (i := 2) dX6_readsNested_21 rfl rfl rfl ?_
    refine ax_bipush (q := 24) dX6_readsNested_22 rfl kb_40 ?_
    refine ax_icmp_ne (tgt := 56) (q := 27) dX6_readsNested_24 (by decide) rfl (fun c2 => ?_) (fun c2 => ?_)
    · refine ax_aload_n (q := 57) (i := 0) dX6_readsNested_56 rfl rfl rfl ?_
      refine ax_iload_n (q := 58) (i := 1) dX6_readsNested_57 rfl rfl rfl ?_
      refine ax_iconst (q := 59) dX6_readsNested_58 rfl ki_1 ?_
      refine ax_iadd (q := 60) dX6_readsNested_59 rfl ?_
      refine ax_iconst (q := 61) dX6_readsNested_60 rfl ki_0 ?_
      refine ax_fg (lv2 := [some (ax_r 3), none, none]) ⟨rfl, trivial⟩ ?_
      exact ax_callVci (q := 64) (As := [ax_i (a0 + (1 : Int32)), ax_i (0 : Int32)]) (st := []) dX6_readsNested_61 rfl lk_X6_57 shC_3 rfl rfl rfl rfl (Nat.le_of_ble_eq_true rfl) (k1 c1 c2)
    · refine ax_aload_n (q := 28) (i := 0) dX6_readsNested_27 rfl rfl rfl ?_
      refine ax_iload_n (q := 29) (i := 1) dX6_readsNested_28 rfl rfl rfl ?_
      refine ax_iconst (q := 30) dX6_readsNested_29 rfl ki_1 ?_
      refine ax_iadd (q := 31) dX6_readsNested_30 rfl ?_
      refine ax_iconst (q := 32) dX6_readsNested_31 rfl ki_0 ?_
      refine ax_fg (lv2 := [some (ax_r 3), none, none]) ⟨rfl, trivial⟩ ?_
      exact ax_callVci (q := 35) (As := [ax_i (a0 + (1 : Int32)), ax_i (0 : Int32)]) (st := []) dX6_readsNested_32 rfl lk_X6_50 shC_3 rfl rfl rfl rfl (Nat.le_of_ble_eq_true rfl) (k2 c1 c2)
  · refine ax_iconst (q := 7) dX6_readsNested_6 rfl ki_0 ?_
    exact ax_iret dX6_readsNested_7 rfl rfl (k3 c1)
set_option maxRecDepth 20000 in
theorem s_X6_readsNested_35 {d : Nat} (hd : 0 ≤ d) {Q : Option ax_V → ax_S → Prop} (σ : ax_S) (rr : Int32) (k1 : (rr = 0) → Q (some (ax_i (0 : Int32))) σ) (k2 : (¬ (rr = 0)) → ax_Ct shC d mX9_takes [ax_r 1, ax_i (41 : Int32)] (fun r u => ∃ x : Int32, r = some (ax_i x) ∧ ax_W shC (d + 1) mX6_readsNested Q 47 [none, none, none] (ax_i x :: []) u) σ) : ax_W shC (d + 1) mX6_readsNested Q 35 [some (ax_r 3), none, none] [ax_i rr] σ := by
  refine ax_if_eq (tgt := 54) (q := 38) dX6_readsNested_35 (by decide) rfl (fun c1 => ?_) (fun c1 => ?_)
  · refine ax_iconst (q := 55) dX6_readsNested_54 rfl ki_0 ?_
    exact ax_iret dX6_readsNested_55 rfl rfl (k1 c1)
  · refine ax_aload_n (q := 39) (i := 0) dX6_readsNested_38 rfl rfl rfl ?_
    refine ax_get (q := 42) (k := 3) (j := 0) (v := ax_r 1) dX6_readsNested_39 rfl shC_3 rfl rfl rfl (by decide) fl_X6_15 ?_
    refine ax_bipush (q := 44) dX6_readsNested_42 rfl kb_41 ?_
    refine ax_fg (lv2 := [none, none, none]) trivial ?_
    exact ax_callVci (q := 47) (As := [ax_i (41 : Int32)]) (st := []) dX6_readsNested_44 rfl lk_X6_32 shC_1 rfl rfl rfl rfl (Nat.le_of_ble_eq_true rfl) (k2 c1)
set_option maxRecDepth 20000 in
theorem s_X6_readsNested_64 {d : Nat} (hd : 0 ≤ d) {Q : Option ax_V → ax_S → Prop} (σ : ax_S) (rr : Int32) (k1 : (¬ rr = 0) → ax_Ct shC d mX6_put [ax_r 3, ax_i (9 : Int32), ax_i (0 : Int32)] (fun r u => r = none ∧ ax_W shC (d + 1) mX6_readsNested Q 76 [none, none, none] [] u) σ) (k2 : (¬ (¬ rr = 0)) → Q (some (ax_i (0 : Int32))) σ) : ax_W shC (d + 1) mX6_readsNested Q 64 [some (ax_r 3), none, none] [ax_i rr] σ := by
  refine ax_if_ne (tgt := 69) (q := 67) dX6_readsNested_64 (by decide) rfl (fun c1 => ?_) (fun c1 => ?_)
  · refine ax_aload_n (q := 70) (i := 0) dX6_readsNested_69 rfl rfl rfl ?_
    refine ax_bipush (q := 72) dX6_readsNested_70 rfl kb_9 ?_
    refine ax_iconst (q := 73) dX6_readsNested_72 rfl ki_0 ?_
    refine ax_fg (lv2 := [none, none, none]) trivial ?_
    exact ax_callVcv (q := 76) (As := [ax_i (9 : Int32), ax_i (0 : Int32)]) (st := []) dX6_readsNested_73 rfl lk_X6_46 shC_3 rfl rfl rfl rfl (Nat.le_of_ble_eq_true rfl) (k1 c1)
  · refine ax_iconst (q := 68) dX6_readsNested_67 rfl ki_0 ?_
    exact ax_iret dX6_readsNested_68 rfl rfl (k2 c1)
set_option maxRecDepth 20000 in
theorem s_X6_readsNested_47 {d : Nat} (hd : 0 ≤ d) {Q : Option ax_V → ax_S → Prop} (σ : ax_S) (rr : Int32) (k1 : Q (some (ax_i (if (¬ (rr = 0)) then (1 : Int32) else 0))) σ) : ax_W shC (d + 1) mX6_readsNested Q 47 [none, none, none] [ax_i rr] σ := by
  have K2 : ax_W shC (d + 1) mX6_readsNested Q 55 [none, none, none] [ax_i (if (¬ (rr = 0)) then (1 : Int32) else 0)] σ := by
    exact ax_iret dX6_readsNested_55 rfl (ax_nb _) k1
  refine ax_if_eq (tgt := 54) (q := 50) dX6_readsNested_47 (by decide) rfl (fun c1 => ?_) (fun c1 => ?_)
  · refine ax_iconst (q := 55) dX6_readsNested_54 rfl ki_0 ?_
    exact ax_cv (if_neg (fun y => y c1)) K2
  · refine ax_iconst (q := 51) dX6_readsNested_50 rfl ki_1 ?_
    refine ax_goto (tgt := 55) dX6_readsNested_51 (by decide) ?_
    exact ax_cv (if_pos c1) K2
set_option maxRecDepth 20000 in
theorem s_X6_readsNested_76 {d : Nat} (hd : 0 ≤ d) {Q : Option ax_V → ax_S → Prop} (σ : ax_S)  (k1 : Q (some (ax_i (1 : Int32))) σ) : ax_W shC (d + 1) mX6_readsNested Q 76 [none, none, none] [] σ := by
  refine ax_iconst (q := 77) dX6_readsNested_76 rfl ki_1 ?_
  exact ax_iret dX6_readsNested_77 rfl rfl k1
set_option maxRecDepth 20000 in
theorem s_X6_readsAtom_0 {d : Nat} (hd : 0 ≤ d) {Q : Option ax_V → ax_S → Prop} (σ : ax_S) (a0 : Int32) (k1 : ax_Ct shC d mX9_sign [ax_r 1] (fun r u => ∃ x : Int32, r = some (ax_i x) ∧ ax_W shC (d + 1) mX6_readsAtom Q 7 [some (ax_r 3), some (ax_i a0), none, none] (ax_i x :: []) u) σ) : ax_W shC (d + 1) mX6_readsAtom Q 0 [some (ax_r 3), some (ax_i a0), none, none] [] σ := by
  refine ax_aload_n (q := 1) (i := 0) dX6_readsAtom_0 rfl rfl rfl ?_
  refine ax_get (q := 4) (k := 3) (j := 0) (v := ax_r 1) dX6_readsAtom_1 rfl shC_3 rfl rfl rfl (by decide) fl_X6_15 ?_
  exact ax_callVci (q := 7) (As := []) (st := []) dX6_readsAtom_4 rfl lk_X6_36 shC_1 rfl rfl rfl rfl (Nat.le_of_ble_eq_true rfl) k1
set_option maxRecDepth 20000 in
theorem s_X6_readsAtom_7 {d : Nat} (hd : 0 ≤ d) {Q : Option ax_V → ax_S → Prop} (σ : ax_S) (x1 : Int32) (rr : Int32) (k1 : (¬ rr = (91 : Int32)) → ax_W shC (d + 1) mX6_readsAtom Q 65 [some (ax_r 3), none, some (ax_i rr), some (ax_i (0 : Int32))] [] σ) (k2 : (¬ (¬ rr = (91 : Int32))) → (x1 < (6 : Int32)) → ax_Ct shC d mX6_readsSum [ax_r 3, ax_i (x1 + (1 : Int32))] (fun r u => ∃ x : Int32, r = some (ax_i x) ∧ ax_W shC (d + 1) mX6_readsAtom Q 42 [some (ax_r 3), none, none, none] (ax_i x :: []) u) (ax_ui σ 1 2 ((σ.1 1 2) + (1 : Int32)))) (k3 : (¬ (¬ rr = (91 : Int32))) → (¬ (x1 < (6 : Int32))) → Q (some (ax_i (0 : Int32))) σ) : ax_W shC (d + 1) mX6_readsAtom Q 7 [some (ax_r 3), some (ax_i x1), none, none] [ax_i rr] σ := by
  refine ax_istore_n (q := 8) (i := 2) (lv2 := [some (ax_r 3), some (ax_i x1), some (ax_i rr), none]) dX6_readsAtom_7 rfl rfl (by decide) rfl rfl ?_
  refine ax_iload_n (q := 9) (i := 2) dX6_readsAtom_8 rfl rfl rfl ?_
  refine ax_bipush (q := 11) dX6_readsAtom_9 rfl kb_91 ?_
  refine ax_icmp_ne (tgt := 63) (q := 14) dX6_readsAtom_11 (by decide) rfl (fun c1 => ?_) (fun c1 => ?_)
  · refine ax_iconst (q := 64) dX6_readsAtom_63 rfl ki_0 ?_
    refine ax_istore_n (q := 65) (i := 3) (lv2 := [some (ax_r 3), some (ax_i x1), some (ax_i rr), some (ax_i (0 : Int32))]) dX6_readsAtom_64 rfl rfl (by decide) rfl rfl ?_
    refine ax_fg (lv2 := [some (ax_r 3), none, some (ax_i rr), some (ax_i (0 : Int32))]) ⟨rfl, rfl, rfl, trivial⟩ ?_
    exact (k1 c1)
  · refine ax_iload_n (q := 15) (i := 1) dX6_readsAtom_14 rfl rfl rfl ?_
    refine ax_bipush (q := 17) dX6_readsAtom_15 rfl kb_6 ?_
    refine ax_icmp_lt (tgt := 22) (q := 20) dX6_readsAtom_17 (by decide) rfl (fun c2 => ?_) (fun c2 => ?_)
    · refine ax_aload_n (q := 23) (i := 0) dX6_readsAtom_22 rfl rfl rfl ?_
      refine ax_get (q := 26) (k := 3) (j := 0) (v := ax_r 1) dX6_readsAtom_23 rfl shC_3 rfl rfl rfl (by decide) fl_X6_15 ?_
      refine ax_dupr (q := 27) dX6_readsAtom_26 rfl ?_
      refine ax_get (q := 30) (k := 1) (j := 2) (v := ax_i (σ.1 1 2)) dX6_readsAtom_27 rfl shC_1 rfl rfl rfl (by decide) fl_X6_19 ?_
      refine ax_iconst (q := 31) dX6_readsAtom_30 rfl ki_1 ?_
      refine ax_iadd (q := 32) dX6_readsAtom_31 rfl ?_
      refine ax_puti (q := 35) (k := 1) (j := 2) dX6_readsAtom_32 rfl shC_1 rfl rfl (by decide) fl_X6_19 rfl rfl rfl rfl ?_
      refine ax_aload_n (q := 36) (i := 0) dX6_readsAtom_35 rfl rfl rfl ?_
      refine ax_iload_n (q := 37) (i := 1) dX6_readsAtom_36 rfl rfl rfl ?_
      refine ax_iconst (q := 38) dX6_readsAtom_37 rfl ki_1 ?_
      refine ax_iadd (q := 39) dX6_readsAtom_38 rfl ?_
      refine ax_fg (lv2 := [some (ax_r 3), none, none, none]) ⟨rfl, trivial⟩ ?_
      exact ax_callVci (q := 42) (As := [ax_i (x1 + (1 : Int32))]) (st := []) dX6_readsAtom_39 rfl lk_X6_40 shC_3 rfl rfl rfl rfl (Nat.le_of_ble_eq_true rfl) (k2 c1 c2)
    · refine ax_iconst (q := 21) dX6_readsAtom_20 rfl ki_0 ?_
      exact ax_iret dX6_readsAtom_21 rfl rfl (k3 c1 c2)
set_option maxRecDepth 20000 in
theorem s_X6_readsAtom_42 {d : Nat} (hd : 0 ≤ d) {Q : Option ax_V → ax_S → Prop} (σ : ax_S) (rr : Int32) (k1 : (rr = 0) → Q (some (ax_i (0 : Int32))) σ) (k2 : (¬ (rr = 0)) → ax_Ct shC d mX9_takes [ax_r 1, ax_i (93 : Int32)] (fun r u => ∃ x : Int32, r = some (ax_i x) ∧ ax_W shC (d + 1) mX6_readsAtom Q 54 [none, none, none, none] (ax_i x :: []) u) σ) : ax_W shC (d + 1) mX6_readsAtom Q 42 [some (ax_r 3), none, none, none] [ax_i rr] σ := by
  refine ax_if_eq (tgt := 61) (q := 45) dX6_readsAtom_42 (by decide) rfl (fun c1 => ?_) (fun c1 => ?_)
  · refine ax_iconst (q := 62) dX6_readsAtom_61 rfl ki_0 ?_
    exact ax_iret dX6_readsAtom_62 rfl rfl (k1 c1)
  · refine ax_aload_n (q := 46) (i := 0) dX6_readsAtom_45 rfl rfl rfl ?_
    refine ax_get (q := 49) (k := 3) (j := 0) (v := ax_r 1) dX6_readsAtom_46 rfl shC_3 rfl rfl rfl (by decide) fl_X6_15 ?_
    refine ax_bipush (q := 51) dX6_readsAtom_49 rfl kb_93 ?_
    refine ax_fg (lv2 := [none, none, none, none]) trivial ?_
    exact ax_callVci (q := 54) (As := [ax_i (93 : Int32)]) (st := []) dX6_readsAtom_51 rfl lk_X6_32 shC_1 rfl rfl rfl rfl (Nat.le_of_ble_eq_true rfl) (k2 c1)
set_option maxRecDepth 20000 in
theorem s_X6_readsAtom_65 {d : Nat} (hd : 0 ≤ d) {Q : Option ax_V → ax_S → Prop} (σ : ax_S) (x2 : Int32) (x3 : Int32) (k1 : ((6 : Int32) ≤ x3) → ax_Ct shC d mX9_takesNumber [ax_r 1, ax_i (4 : Int32)] (fun r u => ∃ x : Int32, r = some (ax_i x) ∧ ax_W shC (d + 1) mX6_readsAtom Q 117 [some (ax_r 3), none, none, none] (ax_i x :: []) u) σ) (h2 : (¬ ((6 : Int32) ≤ x3)) → vp_in x3 6) (k3 : (¬ ((6 : Int32) ≤ x3)) → (¬ (List.getD ([112, 116, 108, 107, 110, 100] : List Int32) (Int32.toNatClampNeg x3) 0) = x2) → ax_W shC (d + 1) mX6_readsAtom Q 65 [some (ax_r 3), none, some (ax_i x2), some (ax_i (x3 + (1 : Int32)))] [] σ) (k4 : (¬ ((6 : Int32) ≤ x3)) → (¬ (¬ (List.getD ([112, 116, 108, 107, 110, 100] : List Int32) (Int32.toNatClampNeg x3) 0) = x2)) → ax_Ct shC d mX6_put [ax_r 3, ax_i (1 : Int32), ax_i x3] (fun r u => r = none ∧ ax_W shC (d + 1) mX6_readsAtom Q 101 [none, none, none, none] [] u) (ax_ui σ 1 2 ((σ.1 1 2) + (1 : Int32)))) : ax_W shC (d + 1) mX6_readsAtom Q 65 [some (ax_r 3), none, some (ax_i x2), some (ax_i x3)] [] σ := by
  refine ax_iload_n (q := 66) (i := 3) dX6_readsAtom_65 rfl rfl rfl ?_
  refine ax_gets (q := 69) dX6_readsAtom_66 rfl st_6 fl_X6_70 ?_
  refine ax_tlen (q := 70) (t := 6) (v := 6) dX6_readsAtom_69 rfl st_6 rfl ?_
  refine ax_icmp_ge (tgt := 109) (q := 73) dX6_readsAtom_70 (by decide) rfl (fun c1 => ?_) (fun c1 => ?_)
  · refine ax_aload_n (q := 110) (i := 0) dX6_readsAtom_109 rfl rfl rfl ?_
    refine ax_get (q := 113) (k := 3) (j := 0) (v := ax_r 1) dX6_readsAtom_110 rfl shC_3 rfl rfl rfl (by decide) fl_X6_15 ?_
    refine ax_iconst (q := 114) dX6_readsAtom_113 rfl ki_4 ?_
    refine ax_fg (lv2 := [some (ax_r 3), none, none, none]) ⟨rfl, trivial⟩ ?_
    exact ax_callVci (q := 117) (As := [ax_i (4 : Int32)]) (st := []) dX6_readsAtom_114 rfl lk_X6_74 shC_1 rfl rfl rfl rfl (Nat.le_of_ble_eq_true rfl) (k1 c1)
  · refine ax_gets (q := 76) dX6_readsAtom_73 rfl st_6 fl_X6_70 ?_
    refine ax_iload_n (q := 77) (i := 3) dX6_readsAtom_76 rfl rfl rfl ?_
    refine ax_tcld (q := 78) (t := 6) dX6_readsAtom_77 rfl st_6 (h2 c1) rfl ?_
    refine ax_iload_n (q := 79) (i := 2) dX6_readsAtom_78 rfl rfl rfl ?_
    refine ax_icmp_ne (tgt := 103) (q := 82) dX6_readsAtom_79 (by decide) rfl (fun c2 => ?_) (fun c2 => ?_)
    · refine ax_iincK (q := 106) (lv2 := [some (ax_r 3), none, some (ax_i x2), some (ax_i (x3 + (1 : Int32)))]) dX6_readsAtom_103 rfl rfl ki_1 (by decide) rfl rfl ?_
      refine ax_goto (tgt := 65) dX6_readsAtom_106 (by decide) ?_
      exact (k3 c1 c2)
    · refine ax_aload_n (q := 83) (i := 0) dX6_readsAtom_82 rfl rfl rfl ?_
      refine ax_get (q := 86) (k := 3) (j := 0) (v := ax_r 1) dX6_readsAtom_83 rfl shC_3 rfl rfl rfl (by decide) fl_X6_15 ?_
      refine ax_dupr (q := 87) dX6_readsAtom_86 rfl ?_
      refine ax_get (q := 90) (k := 1) (j := 2) (v := ax_i (σ.1 1 2)) dX6_readsAtom_87 rfl shC_1 rfl rfl rfl (by decide) fl_X6_19 ?_
      refine ax_iconst (q := 91) dX6_readsAtom_90 rfl ki_1 ?_
      refine ax_iadd (q := 92) dX6_readsAtom_91 rfl ?_
      refine ax_puti (q := 95) (k := 1) (j := 2) dX6_readsAtom_92 rfl shC_1 rfl rfl (by decide) fl_X6_19 rfl rfl rfl rfl ?_
      refine ax_aload_n (q := 96) (i := 0) dX6_readsAtom_95 rfl rfl rfl ?_
      refine ax_iconst (q := 97) dX6_readsAtom_96 rfl ki_1 ?_
      refine ax_iload_n (q := 98) (i := 3) dX6_readsAtom_97 rfl rfl rfl ?_
      refine ax_fg (lv2 := [none, none, none, none]) trivial ?_
      exact ax_callVcv (q := 101) (As := [ax_i (1 : Int32), ax_i x3]) (st := []) dX6_readsAtom_98 rfl lk_X6_46 shC_3 rfl rfl rfl rfl (Nat.le_of_ble_eq_true rfl) (k4 c1 c2)
set_option maxRecDepth 20000 in
theorem s_X6_readsAtom_54 {d : Nat} (hd : 0 ≤ d) {Q : Option ax_V → ax_S → Prop} (σ : ax_S) (rr : Int32) (k1 : Q (some (ax_i (if (¬ (rr = 0)) then (1 : Int32) else 0))) σ) : ax_W shC (d + 1) mX6_readsAtom Q 54 [none, none, none, none] [ax_i rr] σ := by
  have K2 : ax_W shC (d + 1) mX6_readsAtom Q 62 [none, none, none, none] [ax_i (if (¬ (rr = 0)) then (1 : Int32) else 0)] σ := by
    exact ax_iret dX6_readsAtom_62 rfl (ax_nb _) k1
  refine ax_if_eq (tgt := 61) (q := 57) dX6_readsAtom_54 (by decide) rfl (fun c1 => ?_) (fun c1 => ?_)
  · refine ax_iconst (q := 62) dX6_readsAtom_61 rfl ki_0 ?_
    exact ax_cv (if_neg (fun y => y c1)) K2
  · refine ax_iconst (q := 58) dX6_readsAtom_57 rfl ki_1 ?_
    refine ax_goto (tgt := 62) dX6_readsAtom_58 (by decide) ?_
    exact ax_cv (if_pos c1) K2
set_option maxRecDepth 20000 in
theorem s_X6_readsAtom_101 {d : Nat} (hd : 0 ≤ d) {Q : Option ax_V → ax_S → Prop} (σ : ax_S)  (k1 : Q (some (ax_i (1 : Int32))) σ) : ax_W shC (d + 1) mX6_readsAtom Q 101 [none, none, none, none] [] σ := by
  refine ax_iconst (q := 102) dX6_readsAtom_101 rfl ki_1 ?_
  exact ax_iret dX6_readsAtom_102 rfl rfl k1
set_option maxRecDepth 20000 in
theorem s_X6_readsAtom_117 {d : Nat} (hd : 0 ≤ d) {Q : Option ax_V → ax_S → Prop} (σ : ax_S) (rr : Int32) (k1 : (¬ rr = 0) → ax_Ct shC d mX6_put [ax_r 3, ax_i (0 : Int32), ax_i (σ.1 1 3)] (fun r u => r = none ∧ ax_W shC (d + 1) mX6_readsAtom Q 134 [none, none, none, none] [] u) σ) (k2 : (¬ (¬ rr = 0)) → Q (some (ax_i (0 : Int32))) σ) : ax_W shC (d + 1) mX6_readsAtom Q 117 [some (ax_r 3), none, none, none] [ax_i rr] σ := by
  refine ax_if_ne (tgt := 122) (q := 120) dX6_readsAtom_117 (by decide) rfl (fun c1 => ?_) (fun c1 => ?_)
  · refine ax_aload_n (q := 123) (i := 0) dX6_readsAtom_122 rfl rfl rfl ?_
    refine ax_iconst (q := 124) dX6_readsAtom_123 rfl ki_0 ?_
    refine ax_aload_n (q := 125) (i := 0) dX6_readsAtom_124 rfl rfl rfl ?_
    refine ax_get (q := 128) (k := 3) (j := 0) (v := ax_r 1) dX6_readsAtom_125 rfl shC_3 rfl rfl rfl (by decide) fl_X6_15 ?_
    refine ax_get (q := 131) (k := 1) (j := 3) (v := ax_i (σ.1 1 3)) dX6_readsAtom_128 rfl shC_1 rfl rfl rfl (by decide) fl_X6_77 ?_
    refine ax_fg (lv2 := [none, none, none, none]) trivial ?_
    exact ax_callVcv (q := 134) (As := [ax_i (0 : Int32), ax_i (σ.1 1 3)]) (st := []) dX6_readsAtom_131 rfl lk_X6_46 shC_3 rfl rfl rfl rfl (Nat.le_of_ble_eq_true rfl) (k1 c1)
  · refine ax_iconst (q := 121) dX6_readsAtom_120 rfl ki_0 ?_
    exact ax_iret dX6_readsAtom_121 rfl rfl (k2 c1)
set_option maxRecDepth 20000 in
theorem s_X6_readsAtom_134 {d : Nat} (hd : 0 ≤ d) {Q : Option ax_V → ax_S → Prop} (σ : ax_S)  (k1 : Q (some (ax_i (1 : Int32))) σ) : ax_W shC (d + 1) mX6_readsAtom Q 134 [none, none, none, none] [] σ := by
  refine ax_iconst (q := 135) dX6_readsAtom_134 rfl ki_1 ?_
  exact ax_iret dX6_readsAtom_135 rfl rfl k1
set_option maxRecDepth 20000 in
theorem s_X6_readsTerm_0 {d : Nat} (hd : 0 ≤ d) {Q : Option ax_V → ax_S → Prop} (σ : ax_S) (a0 : Int32) (k1 : ax_Ct shC d mX6_readsAtom [ax_r 3, ax_i a0] (fun r u => ∃ x : Int32, r = some (ax_i x) ∧ ax_W shC (d + 1) mX6_readsTerm Q 5 [some (ax_r 3), some (ax_i a0), none, none] (ax_i x :: []) u) σ) : ax_W shC (d + 1) mX6_readsTerm Q 0 [some (ax_r 3), some (ax_i a0), none, none] [] σ := by
  refine ax_aload_n (q := 1) (i := 0) dX6_readsTerm_0 rfl rfl rfl ?_
  refine ax_iload_n (q := 2) (i := 1) dX6_readsTerm_1 rfl rfl rfl ?_
  exact ax_callVci (q := 5) (As := [ax_i a0]) (st := []) dX6_readsTerm_2 rfl lk_X6_67 shC_3 rfl rfl rfl rfl (Nat.le_of_ble_eq_true rfl) k1
set_option maxRecDepth 20000 in
theorem s_X6_readsTerm_5 {d : Nat} (hd : 0 ≤ d) {Q : Option ax_V → ax_S → Prop} (σ : ax_S) (x1 : Int32) (rr : Int32) (k1 : (¬ rr = 0) → ax_W shC (d + 1) mX6_readsTerm Q 12 [some (ax_r 3), some (ax_i x1), some (ax_i (0 : Int32)), none] [] σ) (k2 : (¬ (¬ rr = 0)) → Q (some (ax_i (0 : Int32))) σ) : ax_W shC (d + 1) mX6_readsTerm Q 5 [some (ax_r 3), some (ax_i x1), none, none] [ax_i rr] σ := by
  refine ax_if_ne (tgt := 10) (q := 8) dX6_readsTerm_5 (by decide) rfl (fun c1 => ?_) (fun c1 => ?_)
  · refine ax_iconst (q := 11) dX6_readsTerm_10 rfl ki_0 ?_
    refine ax_istore_n (q := 12) (i := 2) (lv2 := [some (ax_r 3), some (ax_i x1), some (ax_i (0 : Int32)), none]) dX6_readsTerm_11 rfl rfl (by decide) rfl rfl ?_
    exact (k1 c1)
  · refine ax_iconst (q := 9) dX6_readsTerm_8 rfl ki_0 ?_
    exact ax_iret dX6_readsTerm_9 rfl rfl (k2 c1)
set_option maxRecDepth 20000 in
theorem s_X6_readsTerm_12 {d : Nat} (hd : 0 ≤ d) {Q : Option ax_V → ax_S → Prop} (σ : ax_S) (x1 : Int32) (x2 : Int32) (k1 : ((240 : Int32) ≤ x2) → Q (some (ax_i (1 : Int32))) σ) (k2 : (¬ ((240 : Int32) ≤ x2)) → ax_Ct shC d mX9_sign [ax_r 1] (fun r u => ∃ x : Int32, r = some (ax_i x) ∧ ax_W shC (d + 1) mX6_readsTerm Q 26 [some (ax_r 3), some (ax_i x1), some (ax_i x2), none] (ax_i x :: []) u) σ) : ax_W shC (d + 1) mX6_readsTerm Q 12 [some (ax_r 3), some (ax_i x1), some (ax_i x2), none] [] σ := by
  refine ax_iload_n (q := 13) (i := 2) dX6_readsTerm_12 rfl rfl rfl ?_
  refine ax_sipush (q := 16) dX6_readsTerm_13 rfl ks_240 ?_
  refine ax_icmp_ge (tgt := 86) (q := 19) dX6_readsTerm_16 (by decide) rfl (fun c1 => ?_) (fun c1 => ?_)
  · refine ax_iconst (q := 87) dX6_readsTerm_86 rfl ki_1 ?_
    exact ax_iret dX6_readsTerm_87 rfl rfl (k1 c1)
  · refine ax_aload_n (q := 20) (i := 0) dX6_readsTerm_19 rfl rfl rfl ?_
    refine ax_get (q := 23) (k := 3) (j := 0) (v := ax_r 1) dX6_readsTerm_20 rfl shC_3 rfl rfl rfl (by decide) fl_X6_15 ?_
    exact ax_callVci (q := 26) (As := []) (st := []) dX6_readsTerm_23 rfl lk_X6_36 shC_1 rfl rfl rfl rfl (Nat.le_of_ble_eq_true rfl) (k2 c1)
set_option maxRecDepth 20000 in
theorem s_X6_readsTerm_26 {d : Nat} (hd : 0 ≤ d) {Q : Option ax_V → ax_S → Prop} (σ : ax_S) (x1 : Int32) (x2 : Int32) (rr : Int32) (k1 : (rr = (42 : Int32)) → ax_Ct shC d mX6_readsAtom [ax_r 3, ax_i x1] (fun r u => ∃ x : Int32, r = some (ax_i x) ∧ ax_W shC (d + 1) mX6_readsTerm Q 59 [some (ax_r 3), some (ax_i x1), some (ax_i x2), some (ax_i rr)] (ax_i x :: []) u) (ax_ui σ 1 2 ((σ.1 1 2) + (1 : Int32)))) (k2 : (¬ (rr = (42 : Int32))) → (rr = (47 : Int32)) → ax_Ct shC d mX6_readsAtom [ax_r 3, ax_i x1] (fun r u => ∃ x : Int32, r = some (ax_i x) ∧ ax_W shC (d + 1) mX6_readsTerm Q 59 [some (ax_r 3), some (ax_i x1), some (ax_i x2), some (ax_i rr)] (ax_i x :: []) u) (ax_ui σ 1 2 ((σ.1 1 2) + (1 : Int32)))) (k3 : (¬ (rr = (42 : Int32))) → (¬ (rr = (47 : Int32))) → Q (some (ax_i (1 : Int32))) σ) : ax_W shC (d + 1) mX6_readsTerm Q 26 [some (ax_r 3), some (ax_i x1), some (ax_i x2), none] [ax_i rr] σ := by
  refine ax_istore_n (q := 27) (i := 3) (lv2 := [some (ax_r 3), some (ax_i x1), some (ax_i x2), some (ax_i rr)]) dX6_readsTerm_26 rfl rfl (by decide) rfl rfl ?_
  refine ax_iload_n (q := 28) (i := 3) dX6_readsTerm_27 rfl rfl rfl ?_
  refine ax_bipush (q := 30) dX6_readsTerm_28 rfl kb_42 ?_
  refine ax_icmp_eq (tgt := 41) (q := 33) dX6_readsTerm_30 (by decide) rfl (fun c1 => ?_) (fun c1 => ?_)
  · refine ax_aload_n (q := 42) (i := 0) dX6_readsTerm_41 rfl rfl rfl ?_
    refine ax_get (q := 45) (k := 3) (j := 0) (v := ax_r 1) dX6_readsTerm_42 rfl shC_3 rfl rfl rfl (by decide) fl_X6_15 ?_
    refine ax_dupr (q := 46) dX6_readsTerm_45 rfl ?_
    refine ax_get (q := 49) (k := 1) (j := 2) (v := ax_i (σ.1 1 2)) dX6_readsTerm_46 rfl shC_1 rfl rfl rfl (by decide) fl_X6_19 ?_
    refine ax_iconst (q := 50) dX6_readsTerm_49 rfl ki_1 ?_
    refine ax_iadd (q := 51) dX6_readsTerm_50 rfl ?_
    refine ax_puti (q := 54) (k := 1) (j := 2) dX6_readsTerm_51 rfl shC_1 rfl rfl (by decide) fl_X6_19 rfl rfl rfl rfl ?_
    refine ax_aload_n (q := 55) (i := 0) dX6_readsTerm_54 rfl rfl rfl ?_
    refine ax_iload_n (q := 56) (i := 1) dX6_readsTerm_55 rfl rfl rfl ?_
    exact ax_callVci (q := 59) (As := [ax_i x1]) (st := []) dX6_readsTerm_56 rfl lk_X6_67 shC_3 rfl rfl rfl rfl (Nat.le_of_ble_eq_true rfl) (k1 c1)
  · refine ax_iload_n (q := 34) (i := 3) dX6_readsTerm_33 rfl rfl rfl ?_
    refine ax_bipush (q := 36) dX6_readsTerm_34 rfl kb_47 ?_
    refine ax_icmp_eq (tgt := 41) (q := 39) dX6_readsTerm_36 (by decide) rfl (fun c2 => ?_) (fun c2 => ?_)
    · refine ax_aload_n (q := 42) (i := 0) dX6_readsTerm_41 rfl rfl rfl ?_
      refine ax_get (q := 45) (k := 3) (j := 0) (v := ax_r 1) dX6_readsTerm_42 rfl shC_3 rfl rfl rfl (by decide) fl_X6_15 ?_
      refine ax_dupr (q := 46) dX6_readsTerm_45 rfl ?_
      refine ax_get (q := 49) (k := 1) (j := 2) (v := ax_i (σ.1 1 2)) dX6_readsTerm_46 rfl shC_1 rfl rfl rfl (by decide) fl_X6_19 ?_
      refine ax_iconst (q := 50) dX6_readsTerm_49 rfl ki_1 ?_
      refine ax_iadd (q := 51) dX6_readsTerm_50 rfl ?_
      refine ax_puti (q := 54) (k := 1) (j := 2) dX6_readsTerm_51 rfl shC_1 rfl rfl (by decide) fl_X6_19 rfl rfl rfl rfl ?_
      refine ax_aload_n (q := 55) (i := 0) dX6_readsTerm_54 rfl rfl rfl ?_
      refine ax_iload_n (q := 56) (i := 1) dX6_readsTerm_55 rfl rfl rfl ?_
      exact ax_callVci (q := 59) (As := [ax_i x1]) (st := []) dX6_readsTerm_56 rfl lk_X6_67 shC_3 rfl rfl rfl rfl (Nat.le_of_ble_eq_true rfl) (k2 c1 c2)
    · refine ax_iconst (q := 40) dX6_readsTerm_39 rfl ki_1 ?_
      exact ax_iret dX6_readsTerm_40 rfl rfl (k3 c1 c2)
set_option maxRecDepth 20000 in
theorem s_X6_readsTerm_59 {d : Nat} (hd : 0 ≤ d) {Q : Option ax_V → ax_S → Prop} (σ : ax_S) (x1 : Int32) (x2 : Int32) (x3 : Int32) (rr : Int32) (k1 : (¬ rr = 0) → ax_Ct shC d mX6_put [ax_r 3, ax_i (if (¬ x3 = (42 : Int32)) then (5 : Int32) else (4 : Int32)), ax_i (0 : Int32)] (fun r u => r = none ∧ ax_W shC (d + 1) mX6_readsTerm Q 80 [some (ax_r 3), some (ax_i x1), some (ax_i x2), none] [] u) σ) (k2 : (¬ (¬ rr = 0)) → Q (some (ax_i (0 : Int32))) σ) : ax_W shC (d + 1) mX6_readsTerm Q 59 [some (ax_r 3), some (ax_i x1), some (ax_i x2), some (ax_i x3)] [ax_i rr] σ := by
  refine ax_if_ne (tgt := 64) (q := 62) dX6_readsTerm_59 (by decide) rfl (fun c1 => ?_) (fun c1 => ?_)
  · refine ax_aload_n (q := 65) (i := 0) dX6_readsTerm_64 rfl rfl rfl ?_
    refine ax_iload_n (q := 66) (i := 3) dX6_readsTerm_65 rfl rfl rfl ?_
    refine ax_bipush (q := 68) dX6_readsTerm_66 rfl kb_42 ?_
    have K3 : ax_W shC (d + 1) mX6_readsTerm Q 76 [some (ax_r 3), some (ax_i x1), some (ax_i x2), some (ax_i x3)] [ax_i (if (¬ x3 = (42 : Int32)) then (5 : Int32) else (4 : Int32)), ax_r 3] σ := by
      refine ax_iconst (q := 77) dX6_readsTerm_76 rfl ki_0 ?_
      refine ax_fg (lv2 := [some (ax_r 3), some (ax_i x1), some (ax_i x2), none]) ⟨rfl, rfl, rfl, trivial⟩ ?_
      exact ax_callVcv (q := 80) (As := [ax_i (if (¬ x3 = (42 : Int32)) then (5 : Int32) else (4 : Int32)), ax_i (0 : Int32)]) (st := []) dX6_readsTerm_77 rfl lk_X6_46 shC_3 rfl rfl rfl rfl (Nat.le_of_ble_eq_true rfl) (k1 c1)
    refine ax_icmp_ne (tgt := 75) (q := 71) dX6_readsTerm_68 (by decide) rfl (fun c2 => ?_) (fun c2 => ?_)
    · refine ax_iconst (q := 76) dX6_readsTerm_75 rfl ki_5 ?_
      exact ax_cv (if_pos c2) K3
    · refine ax_iconst (q := 72) dX6_readsTerm_71 rfl ki_4 ?_
      refine ax_goto (tgt := 76) dX6_readsTerm_72 (by decide) ?_
      exact ax_cv (if_neg c2) K3
  · refine ax_iconst (q := 63) dX6_readsTerm_62 rfl ki_0 ?_
    exact ax_iret dX6_readsTerm_63 rfl rfl (k2 c1)
set_option maxRecDepth 20000 in
theorem s_X6_readsTerm_80 {d : Nat} (hd : 0 ≤ d) {Q : Option ax_V → ax_S → Prop} (σ : ax_S) (x1 : Int32) (x2 : Int32) (k1 : ax_W shC (d + 1) mX6_readsTerm Q 12 [some (ax_r 3), some (ax_i x1), some (ax_i (x2 + (1 : Int32))), none] [] σ) : ax_W shC (d + 1) mX6_readsTerm Q 80 [some (ax_r 3), some (ax_i x1), some (ax_i x2), none] [] σ := by
  refine ax_iincK (q := 83) (lv2 := [some (ax_r 3), some (ax_i x1), some (ax_i (x2 + (1 : Int32))), none]) dX6_readsTerm_80 rfl rfl ki_1 (by decide) rfl rfl ?_
  refine ax_goto (tgt := 12) dX6_readsTerm_83 (by decide) ?_
  exact k1
set_option maxRecDepth 20000 in
theorem s_X6_readsSum_0 {d : Nat} (hd : 0 ≤ d) {Q : Option ax_V → ax_S → Prop} (σ : ax_S) (a0 : Int32) (k1 : ax_Ct shC d mX6_readsTerm [ax_r 3, ax_i a0] (fun r u => ∃ x : Int32, r = some (ax_i x) ∧ ax_W shC (d + 1) mX6_readsSum Q 5 [some (ax_r 3), some (ax_i a0), none, none] (ax_i x :: []) u) σ) : ax_W shC (d + 1) mX6_readsSum Q 0 [some (ax_r 3), some (ax_i a0), none, none] [] σ := by
  refine ax_aload_n (q := 1) (i := 0) dX6_readsSum_0 rfl rfl rfl ?_
  refine ax_iload_n (q := 2) (i := 1) dX6_readsSum_1 rfl rfl rfl ?_
  exact ax_callVci (q := 5) (As := [ax_i a0]) (st := []) dX6_readsSum_2 rfl lk_X6_64 shC_3 rfl rfl rfl rfl (Nat.le_of_ble_eq_true rfl) k1
set_option maxRecDepth 20000 in
theorem s_X6_readsSum_5 {d : Nat} (hd : 0 ≤ d) {Q : Option ax_V → ax_S → Prop} (σ : ax_S) (x1 : Int32) (rr : Int32) (k1 : (¬ rr = 0) → ax_W shC (d + 1) mX6_readsSum Q 12 [some (ax_r 3), some (ax_i x1), some (ax_i (0 : Int32)), none] [] σ) (k2 : (¬ (¬ rr = 0)) → Q (some (ax_i (0 : Int32))) σ) : ax_W shC (d + 1) mX6_readsSum Q 5 [some (ax_r 3), some (ax_i x1), none, none] [ax_i rr] σ := by
  refine ax_if_ne (tgt := 10) (q := 8) dX6_readsSum_5 (by decide) rfl (fun c1 => ?_) (fun c1 => ?_)
  · refine ax_iconst (q := 11) dX6_readsSum_10 rfl ki_0 ?_
    refine ax_istore_n (q := 12) (i := 2) (lv2 := [some (ax_r 3), some (ax_i x1), some (ax_i (0 : Int32)), none]) dX6_readsSum_11 rfl rfl (by decide) rfl rfl ?_
    exact (k1 c1)
  · refine ax_iconst (q := 9) dX6_readsSum_8 rfl ki_0 ?_
    exact ax_iret dX6_readsSum_9 rfl rfl (k2 c1)
set_option maxRecDepth 20000 in
theorem s_X6_readsSum_12 {d : Nat} (hd : 0 ≤ d) {Q : Option ax_V → ax_S → Prop} (σ : ax_S) (x1 : Int32) (x2 : Int32) (k1 : ((240 : Int32) ≤ x2) → Q (some (ax_i (1 : Int32))) σ) (k2 : (¬ ((240 : Int32) ≤ x2)) → ax_Ct shC d mX9_sign [ax_r 1] (fun r u => ∃ x : Int32, r = some (ax_i x) ∧ ax_W shC (d + 1) mX6_readsSum Q 26 [some (ax_r 3), some (ax_i x1), some (ax_i x2), none] (ax_i x :: []) u) σ) : ax_W shC (d + 1) mX6_readsSum Q 12 [some (ax_r 3), some (ax_i x1), some (ax_i x2), none] [] σ := by
  refine ax_iload_n (q := 13) (i := 2) dX6_readsSum_12 rfl rfl rfl ?_
  refine ax_sipush (q := 16) dX6_readsSum_13 rfl ks_240 ?_
  refine ax_icmp_ge (tgt := 86) (q := 19) dX6_readsSum_16 (by decide) rfl (fun c1 => ?_) (fun c1 => ?_)
  · refine ax_iconst (q := 87) dX6_readsSum_86 rfl ki_1 ?_
    exact ax_iret dX6_readsSum_87 rfl rfl (k1 c1)
  · refine ax_aload_n (q := 20) (i := 0) dX6_readsSum_19 rfl rfl rfl ?_
    refine ax_get (q := 23) (k := 3) (j := 0) (v := ax_r 1) dX6_readsSum_20 rfl shC_3 rfl rfl rfl (by decide) fl_X6_15 ?_
    exact ax_callVci (q := 26) (As := []) (st := []) dX6_readsSum_23 rfl lk_X6_36 shC_1 rfl rfl rfl rfl (Nat.le_of_ble_eq_true rfl) (k2 c1)
set_option maxRecDepth 20000 in
theorem s_X6_readsSum_26 {d : Nat} (hd : 0 ≤ d) {Q : Option ax_V → ax_S → Prop} (σ : ax_S) (x1 : Int32) (x2 : Int32) (rr : Int32) (k1 : (rr = (43 : Int32)) → ax_Ct shC d mX6_readsTerm [ax_r 3, ax_i x1] (fun r u => ∃ x : Int32, r = some (ax_i x) ∧ ax_W shC (d + 1) mX6_readsSum Q 59 [some (ax_r 3), some (ax_i x1), some (ax_i x2), some (ax_i rr)] (ax_i x :: []) u) (ax_ui σ 1 2 ((σ.1 1 2) + (1 : Int32)))) (k2 : (¬ (rr = (43 : Int32))) → (rr = (45 : Int32)) → ax_Ct shC d mX6_readsTerm [ax_r 3, ax_i x1] (fun r u => ∃ x : Int32, r = some (ax_i x) ∧ ax_W shC (d + 1) mX6_readsSum Q 59 [some (ax_r 3), some (ax_i x1), some (ax_i x2), some (ax_i rr)] (ax_i x :: []) u) (ax_ui σ 1 2 ((σ.1 1 2) + (1 : Int32)))) (k3 : (¬ (rr = (43 : Int32))) → (¬ (rr = (45 : Int32))) → Q (some (ax_i (1 : Int32))) σ) : ax_W shC (d + 1) mX6_readsSum Q 26 [some (ax_r 3), some (ax_i x1), some (ax_i x2), none] [ax_i rr] σ := by
  refine ax_istore_n (q := 27) (i := 3) (lv2 := [some (ax_r 3), some (ax_i x1), some (ax_i x2), some (ax_i rr)]) dX6_readsSum_26 rfl rfl (by decide) rfl rfl ?_
  refine ax_iload_n (q := 28) (i := 3) dX6_readsSum_27 rfl rfl rfl ?_
  refine ax_bipush (q := 30) dX6_readsSum_28 rfl kb_43 ?_
  refine ax_icmp_eq (tgt := 41) (q := 33) dX6_readsSum_30 (by decide) rfl (fun c1 => ?_) (fun c1 => ?_)
  · refine ax_aload_n (q := 42) (i := 0) dX6_readsSum_41 rfl rfl rfl ?_
    refine ax_get (q := 45) (k := 3) (j := 0) (v := ax_r 1) dX6_readsSum_42 rfl shC_3 rfl rfl rfl (by decide) fl_X6_15 ?_
    refine ax_dupr (q := 46) dX6_readsSum_45 rfl ?_
    refine ax_get (q := 49) (k := 1) (j := 2) (v := ax_i (σ.1 1 2)) dX6_readsSum_46 rfl shC_1 rfl rfl rfl (by decide) fl_X6_19 ?_
    refine ax_iconst (q := 50) dX6_readsSum_49 rfl ki_1 ?_
    refine ax_iadd (q := 51) dX6_readsSum_50 rfl ?_
    refine ax_puti (q := 54) (k := 1) (j := 2) dX6_readsSum_51 rfl shC_1 rfl rfl (by decide) fl_X6_19 rfl rfl rfl rfl ?_
    refine ax_aload_n (q := 55) (i := 0) dX6_readsSum_54 rfl rfl rfl ?_
    refine ax_iload_n (q := 56) (i := 1) dX6_readsSum_55 rfl rfl rfl ?_
    exact ax_callVci (q := 59) (As := [ax_i x1]) (st := []) dX6_readsSum_56 rfl lk_X6_64 shC_3 rfl rfl rfl rfl (Nat.le_of_ble_eq_true rfl) (k1 c1)
  · refine ax_iload_n (q := 34) (i := 3) dX6_readsSum_33 rfl rfl rfl ?_
    refine ax_bipush (q := 36) dX6_readsSum_34 rfl kb_45 ?_
    refine ax_icmp_eq (tgt := 41) (q := 39) dX6_readsSum_36 (by decide) rfl (fun c2 => ?_) (fun c2 => ?_)
    · refine ax_aload_n (q := 42) (i := 0) dX6_readsSum_41 rfl rfl rfl ?_
      refine ax_get (q := 45) (k := 3) (j := 0) (v := ax_r 1) dX6_readsSum_42 rfl shC_3 rfl rfl rfl (by decide) fl_X6_15 ?_
      refine ax_dupr (q := 46) dX6_readsSum_45 rfl ?_
      refine ax_get (q := 49) (k := 1) (j := 2) (v := ax_i (σ.1 1 2)) dX6_readsSum_46 rfl shC_1 rfl rfl rfl (by decide) fl_X6_19 ?_
      refine ax_iconst (q := 50) dX6_readsSum_49 rfl ki_1 ?_
      refine ax_iadd (q := 51) dX6_readsSum_50 rfl ?_
      refine ax_puti (q := 54) (k := 1) (j := 2) dX6_readsSum_51 rfl shC_1 rfl rfl (by decide) fl_X6_19 rfl rfl rfl rfl ?_
      refine ax_aload_n (q := 55) (i := 0) dX6_readsSum_54 rfl rfl rfl ?_
      refine ax_iload_n (q := 56) (i := 1) dX6_readsSum_55 rfl rfl rfl ?_
      exact ax_callVci (q := 59) (As := [ax_i x1]) (st := []) dX6_readsSum_56 rfl lk_X6_64 shC_3 rfl rfl rfl rfl (Nat.le_of_ble_eq_true rfl) (k2 c1 c2)
    · refine ax_iconst (q := 40) dX6_readsSum_39 rfl ki_1 ?_
      exact ax_iret dX6_readsSum_40 rfl rfl (k3 c1 c2)
set_option maxRecDepth 20000 in
theorem s_X6_readsSum_59 {d : Nat} (hd : 0 ≤ d) {Q : Option ax_V → ax_S → Prop} (σ : ax_S) (x1 : Int32) (x2 : Int32) (x3 : Int32) (rr : Int32) (k1 : (¬ rr = 0) → ax_Ct shC d mX6_put [ax_r 3, ax_i (if (¬ x3 = (43 : Int32)) then (3 : Int32) else (2 : Int32)), ax_i (0 : Int32)] (fun r u => r = none ∧ ax_W shC (d + 1) mX6_readsSum Q 80 [some (ax_r 3), some (ax_i x1), some (ax_i x2), none] [] u) σ) (k2 : (¬ (¬ rr = 0)) → Q (some (ax_i (0 : Int32))) σ) : ax_W shC (d + 1) mX6_readsSum Q 59 [some (ax_r 3), some (ax_i x1), some (ax_i x2), some (ax_i x3)] [ax_i rr] σ := by
  refine ax_if_ne (tgt := 64) (q := 62) dX6_readsSum_59 (by decide) rfl (fun c1 => ?_) (fun c1 => ?_)
  · refine ax_aload_n (q := 65) (i := 0) dX6_readsSum_64 rfl rfl rfl ?_
    refine ax_iload_n (q := 66) (i := 3) dX6_readsSum_65 rfl rfl rfl ?_
    refine ax_bipush (q := 68) dX6_readsSum_66 rfl kb_43 ?_
    have K3 : ax_W shC (d + 1) mX6_readsSum Q 76 [some (ax_r 3), some (ax_i x1), some (ax_i x2), some (ax_i x3)] [ax_i (if (¬ x3 = (43 : Int32)) then (3 : Int32) else (2 : Int32)), ax_r 3] σ := by
      refine ax_iconst (q := 77) dX6_readsSum_76 rfl ki_0 ?_
      refine ax_fg (lv2 := [some (ax_r 3), some (ax_i x1), some (ax_i x2), none]) ⟨rfl, rfl, rfl, trivial⟩ ?_
      exact ax_callVcv (q := 80) (As := [ax_i (if (¬ x3 = (43 : Int32)) then (3 : Int32) else (2 : Int32)), ax_i (0 : Int32)]) (st := []) dX6_readsSum_77 rfl lk_X6_46 shC_3 rfl rfl rfl rfl (Nat.le_of_ble_eq_true rfl) (k1 c1)
    refine ax_icmp_ne (tgt := 75) (q := 71) dX6_readsSum_68 (by decide) rfl (fun c2 => ?_) (fun c2 => ?_)
    · refine ax_iconst (q := 76) dX6_readsSum_75 rfl ki_3 ?_
      exact ax_cv (if_pos c2) K3
    · refine ax_iconst (q := 72) dX6_readsSum_71 rfl ki_2 ?_
      refine ax_goto (tgt := 76) dX6_readsSum_72 (by decide) ?_
      exact ax_cv (if_neg c2) K3
  · refine ax_iconst (q := 63) dX6_readsSum_62 rfl ki_0 ?_
    exact ax_iret dX6_readsSum_63 rfl rfl (k2 c1)
set_option maxRecDepth 20000 in
theorem s_X6_readsSum_80 {d : Nat} (hd : 0 ≤ d) {Q : Option ax_V → ax_S → Prop} (σ : ax_S) (x1 : Int32) (x2 : Int32) (k1 : ax_W shC (d + 1) mX6_readsSum Q 12 [some (ax_r 3), some (ax_i x1), some (ax_i (x2 + (1 : Int32))), none] [] σ) : ax_W shC (d + 1) mX6_readsSum Q 80 [some (ax_r 3), some (ax_i x1), some (ax_i x2), none] [] σ := by
  refine ax_iincK (q := 83) (lv2 := [some (ax_r 3), some (ax_i x1), some (ax_i (x2 + (1 : Int32))), none]) dX6_readsSum_80 rfl rfl ki_1 (by decide) rfl rfl ?_
  refine ax_goto (tgt := 12) dX6_readsSum_83 (by decide) ?_
  exact k1
set_option maxRecDepth 20000 in
theorem s_X6_readsUnit_0 {d : Nat} (hd : 0 ≤ d) {Q : Option ax_V → ax_S → Prop} (σ : ax_S) (a0 : Int32) (a1 : Int32) (k1 : (¬ a1 = 0) → ax_Ct shC d mX6_comparison [ax_r 3] (fun r u => ∃ x : Int32, r = some (ax_i x) ∧ ax_W shC (d + 1) mX6_readsUnit Q 45 [some (ax_r 3), some (ax_i a0), none, none] (ax_i x :: []) u) σ) (k2 : (¬ (¬ a1 = 0)) → ax_Ct shC d mX9_sign [ax_r 1] (fun r u => ∃ x : Int32, r = some (ax_i x) ∧ ax_W shC (d + 1) mX6_readsUnit Q 11 [some (ax_r 3), some (ax_i a0), none, none] (ax_i x :: []) u) σ) : ax_W shC (d + 1) mX6_readsUnit Q 0 [some (ax_r 3), some (ax_i a0), some (ax_i a1), none] [] σ := by
  refine ax_iload_n (q := 1) (i := 2) dX6_readsUnit_0 rfl rfl rfl ?_
  refine ax_if_ne (tgt := 41) (q := 4) dX6_readsUnit_1 (by decide) rfl (fun c1 => ?_) (fun c1 => ?_)
  · refine ax_aload_n (q := 42) (i := 0) dX6_readsUnit_41 rfl rfl rfl ?_
    refine ax_fg (lv2 := [some (ax_r 3), some (ax_i a0), none, none]) ⟨rfl, rfl, trivial⟩ ?_
    exact ax_callVci (q := 45) (As := []) (st := []) dX6_readsUnit_42 rfl lk_X6_43 shC_3 rfl rfl rfl rfl (Nat.le_of_ble_eq_true rfl) (k1 c1)
  · refine ax_aload_n (q := 5) (i := 0) dX6_readsUnit_4 rfl rfl rfl ?_
    refine ax_get (q := 8) (k := 3) (j := 0) (v := ax_r 1) dX6_readsUnit_5 rfl shC_3 rfl rfl rfl (by decide) fl_X6_15 ?_
    refine ax_fg (lv2 := [some (ax_r 3), some (ax_i a0), none, none]) ⟨rfl, rfl, trivial⟩ ?_
    exact ax_callVci (q := 11) (As := []) (st := []) dX6_readsUnit_8 rfl lk_X6_36 shC_1 rfl rfl rfl rfl (Nat.le_of_ble_eq_true rfl) (k2 c1)
set_option maxRecDepth 20000 in
theorem s_X6_readsUnit_11 {d : Nat} (hd : 0 ≤ d) {Q : Option ax_V → ax_S → Prop} (σ : ax_S) (x1 : Int32) (rr : Int32) (k1 : (rr = (33 : Int32)) → ax_Ct shC d mX6_readsNested [ax_r 3, ax_i x1, ax_i rr] (fun r u => ∃ x : Int32, r = some (ax_i x) ∧ ax_W shC (d + 1) mX6_readsUnit Q 30 [none, none, none, none] (ax_i x :: []) u) σ) (k2 : (¬ (rr = (33 : Int32))) → (¬ rr = (40 : Int32)) → ax_Ct shC d mX6_readsSum [ax_r 3, ax_i x1] (fun r u => ∃ x : Int32, r = some (ax_i x) ∧ ax_W shC (d + 1) mX6_readsUnit Q 36 [some (ax_r 3), some (ax_i x1), none, none] (ax_i x :: []) u) σ) (k3 : (¬ (rr = (33 : Int32))) → (¬ (¬ rr = (40 : Int32))) → ax_Ct shC d mX6_readsNested [ax_r 3, ax_i x1, ax_i rr] (fun r u => ∃ x : Int32, r = some (ax_i x) ∧ ax_W shC (d + 1) mX6_readsUnit Q 30 [none, none, none, none] (ax_i x :: []) u) σ) : ax_W shC (d + 1) mX6_readsUnit Q 11 [some (ax_r 3), some (ax_i x1), none, none] [ax_i rr] σ := by
  refine ax_istore_n (q := 12) (i := 3) (lv2 := [some (ax_r 3), some (ax_i x1), none, some (ax_i rr)]) dX6_readsUnit_11 rfl rfl (by decide) rfl rfl ?_
  refine ax_iload_n (q := 13) (i := 3) dX6_readsUnit_12 rfl rfl rfl ?_
  refine ax_bipush (q := 15) dX6_readsUnit_13 rfl kb_33 ?_
  refine ax_icmp_eq (tgt := 24) (q := 18) dX6_readsUnit_15 (by decide) rfl (fun c1 => ?_) (fun c1 => ?_)
  · refine ax_aload_n (q := 25) (i := 0) dX6_readsUnit_24 rfl rfl rfl ?_
    refine ax_iload_n (q := 26) (i := 1) dX6_readsUnit_25 rfl rfl rfl ?_
    refine ax_iload_n (q := 27) (i := 3) dX6_readsUnit_26 rfl rfl rfl ?_
    refine ax_fg (lv2 := [none, none, none, none]) trivial ?_
    exact ax_callVci (q := 30) (As := [ax_i x1, ax_i rr]) (st := []) dX6_readsUnit_27 rfl lk_X6_60 shC_3 rfl rfl rfl rfl (Nat.le_of_ble_eq_true rfl) (k1 c1)
  · refine ax_iload_n (q := 19) (i := 3) dX6_readsUnit_18 rfl rfl rfl ?_
    refine ax_bipush (q := 21) dX6_readsUnit_19 rfl kb_40 ?_
    refine ax_icmp_ne (tgt := 31) (q := 24) dX6_readsUnit_21 (by decide) rfl (fun c2 => ?_) (fun c2 => ?_)
    · refine ax_aload_n (q := 32) (i := 0) dX6_readsUnit_31 rfl rfl rfl ?_
      refine ax_iload_n (q := 33) (i := 1) dX6_readsUnit_32 rfl rfl rfl ?_
      refine ax_fg (lv2 := [some (ax_r 3), some (ax_i x1), none, none]) ⟨rfl, rfl, trivial⟩ ?_
      exact ax_callVci (q := 36) (As := [ax_i x1]) (st := []) dX6_readsUnit_33 rfl lk_X6_40 shC_3 rfl rfl rfl rfl (Nat.le_of_ble_eq_true rfl) (k2 c1 c2)
    · refine ax_aload_n (q := 25) (i := 0) dX6_readsUnit_24 rfl rfl rfl ?_
      refine ax_iload_n (q := 26) (i := 1) dX6_readsUnit_25 rfl rfl rfl ?_
      refine ax_iload_n (q := 27) (i := 3) dX6_readsUnit_26 rfl rfl rfl ?_
      refine ax_fg (lv2 := [none, none, none, none]) trivial ?_
      exact ax_callVci (q := 30) (As := [ax_i x1, ax_i rr]) (st := []) dX6_readsUnit_27 rfl lk_X6_60 shC_3 rfl rfl rfl rfl (Nat.le_of_ble_eq_true rfl) (k3 c1 c2)
set_option maxRecDepth 20000 in
theorem s_X6_readsUnit_45 {d : Nat} (hd : 0 ≤ d) {Q : Option ax_V → ax_S → Prop} (σ : ax_S) (x1 : Int32) (rr : Int32) (k1 : (¬ rr = (-1 : Int32)) → ax_Ct shC d mX6_readsSum [ax_r 3, ax_i x1] (fun r u => ∃ x : Int32, r = some (ax_i x) ∧ ax_W shC (d + 1) mX6_readsUnit Q 71 [some (ax_r 3), none, none, some (ax_i rr)] (ax_i x :: []) u) (ax_ui σ 1 2 ((σ.1 1 2) + (1 : Int32)))) (k2 : (¬ (¬ rr = (-1 : Int32))) → Q (some (ax_i (0 : Int32))) σ) : ax_W shC (d + 1) mX6_readsUnit Q 45 [some (ax_r 3), some (ax_i x1), none, none] [ax_i rr] σ := by
  refine ax_istore_n (q := 46) (i := 3) (lv2 := [some (ax_r 3), some (ax_i x1), none, some (ax_i rr)]) dX6_readsUnit_45 rfl rfl (by decide) rfl rfl ?_
  refine ax_iload_n (q := 47) (i := 3) dX6_readsUnit_46 rfl rfl rfl ?_
  refine ax_iconst (q := 48) dX6_readsUnit_47 rfl ki_m1 ?_
  refine ax_icmp_ne (tgt := 53) (q := 51) dX6_readsUnit_48 (by decide) rfl (fun c1 => ?_) (fun c1 => ?_)
  · refine ax_aload_n (q := 54) (i := 0) dX6_readsUnit_53 rfl rfl rfl ?_
    refine ax_get (q := 57) (k := 3) (j := 0) (v := ax_r 1) dX6_readsUnit_54 rfl shC_3 rfl rfl rfl (by decide) fl_X6_15 ?_
    refine ax_dupr (q := 58) dX6_readsUnit_57 rfl ?_
    refine ax_get (q := 61) (k := 1) (j := 2) (v := ax_i (σ.1 1 2)) dX6_readsUnit_58 rfl shC_1 rfl rfl rfl (by decide) fl_X6_19 ?_
    refine ax_iconst (q := 62) dX6_readsUnit_61 rfl ki_1 ?_
    refine ax_iadd (q := 63) dX6_readsUnit_62 rfl ?_
    refine ax_puti (q := 66) (k := 1) (j := 2) dX6_readsUnit_63 rfl shC_1 rfl rfl (by decide) fl_X6_19 rfl rfl rfl rfl ?_
    refine ax_aload_n (q := 67) (i := 0) dX6_readsUnit_66 rfl rfl rfl ?_
    refine ax_iload_n (q := 68) (i := 1) dX6_readsUnit_67 rfl rfl rfl ?_
    refine ax_fg (lv2 := [some (ax_r 3), none, none, some (ax_i rr)]) ⟨rfl, rfl, trivial⟩ ?_
    exact ax_callVci (q := 71) (As := [ax_i x1]) (st := []) dX6_readsUnit_68 rfl lk_X6_40 shC_3 rfl rfl rfl rfl (Nat.le_of_ble_eq_true rfl) (k1 c1)
  · refine ax_iconst (q := 52) dX6_readsUnit_51 rfl ki_0 ?_
    exact ax_iret dX6_readsUnit_52 rfl rfl (k2 c1)
set_option maxRecDepth 20000 in
theorem s_X6_readsUnit_30 {d : Nat} (hd : 0 ≤ d) {Q : Option ax_V → ax_S → Prop} (σ : ax_S) (rr : Int32) (k1 : Q (some (ax_i rr)) σ) (h2 : rr = 0 ∨ rr = 1) : ax_W shC (d + 1) mX6_readsUnit Q 30 [none, none, none, none] [ax_i rr] σ := by
  exact ax_iret dX6_readsUnit_30 rfl (ax_nb01 h2) k1
set_option maxRecDepth 20000 in
theorem s_X6_readsUnit_36 {d : Nat} (hd : 0 ≤ d) {Q : Option ax_V → ax_S → Prop} (σ : ax_S) (x1 : Int32) (rr : Int32) (k1 : (¬ rr = 0) → ax_Ct shC d mX6_comparison [ax_r 3] (fun r u => ∃ x : Int32, r = some (ax_i x) ∧ ax_W shC (d + 1) mX6_readsUnit Q 45 [some (ax_r 3), some (ax_i x1), none, none] (ax_i x :: []) u) σ) (k2 : (¬ (¬ rr = 0)) → Q (some (ax_i (0 : Int32))) σ) : ax_W shC (d + 1) mX6_readsUnit Q 36 [some (ax_r 3), some (ax_i x1), none, none] [ax_i rr] σ := by
  refine ax_if_ne (tgt := 41) (q := 39) dX6_readsUnit_36 (by decide) rfl (fun c1 => ?_) (fun c1 => ?_)
  · refine ax_aload_n (q := 42) (i := 0) dX6_readsUnit_41 rfl rfl rfl ?_
    exact ax_callVci (q := 45) (As := []) (st := []) dX6_readsUnit_42 rfl lk_X6_43 shC_3 rfl rfl rfl rfl (Nat.le_of_ble_eq_true rfl) (k1 c1)
  · refine ax_iconst (q := 40) dX6_readsUnit_39 rfl ki_0 ?_
    exact ax_iret dX6_readsUnit_40 rfl rfl (k2 c1)
set_option maxRecDepth 20000 in
theorem s_X6_readsUnit_71 {d : Nat} (hd : 0 ≤ d) {Q : Option ax_V → ax_S → Prop} (σ : ax_S) (x3 : Int32) (rr : Int32) (k1 : (¬ rr = 0) → ax_Ct shC d mX6_put [ax_r 3, ax_i x3, ax_i (0 : Int32)] (fun r u => r = none ∧ ax_W shC (d + 1) mX6_readsUnit Q 82 [none, none, none, none] [] u) σ) (k2 : (¬ (¬ rr = 0)) → Q (some (ax_i (0 : Int32))) σ) : ax_W shC (d + 1) mX6_readsUnit Q 71 [some (ax_r 3), none, none, some (ax_i x3)] [ax_i rr] σ := by
  refine ax_if_ne (tgt := 76) (q := 74) dX6_readsUnit_71 (by decide) rfl (fun c1 => ?_) (fun c1 => ?_)
  · refine ax_aload_n (q := 77) (i := 0) dX6_readsUnit_76 rfl rfl rfl ?_
    refine ax_iload_n (q := 78) (i := 3) dX6_readsUnit_77 rfl rfl rfl ?_
    refine ax_iconst (q := 79) dX6_readsUnit_78 rfl ki_0 ?_
    refine ax_fg (lv2 := [none, none, none, none]) trivial ?_
    exact ax_callVcv (q := 82) (As := [ax_i x3, ax_i (0 : Int32)]) (st := []) dX6_readsUnit_79 rfl lk_X6_46 shC_3 rfl rfl rfl rfl (Nat.le_of_ble_eq_true rfl) (k1 c1)
  · refine ax_iconst (q := 75) dX6_readsUnit_74 rfl ki_0 ?_
    exact ax_iret dX6_readsUnit_75 rfl rfl (k2 c1)
set_option maxRecDepth 20000 in
theorem s_X6_readsUnit_82 {d : Nat} (hd : 0 ≤ d) {Q : Option ax_V → ax_S → Prop} (σ : ax_S)  (k1 : Q (some (ax_i (1 : Int32))) σ) : ax_W shC (d + 1) mX6_readsUnit Q 82 [none, none, none, none] [] σ := by
  refine ax_iconst (q := 83) dX6_readsUnit_82 rfl ki_1 ?_
  exact ax_iret dX6_readsUnit_83 rfl rfl k1
set_option maxRecDepth 20000 in
theorem s_X6_readsTruth_0 {d : Nat} (hd : 0 ≤ d) {Q : Option ax_V → ax_S → Prop} (σ : ax_S) (a0 : Int32) (a1 : Int32) (k1 : ax_Ct shC d mX6_readsUnit [ax_r 3, ax_i a0, ax_i a1] (fun r u => ∃ x : Int32, r = some (ax_i x) ∧ ax_W shC (d + 1) mX6_readsTruth Q 6 [some (ax_r 3), some (ax_i a0), none, none] (ax_i x :: []) u) σ) : ax_W shC (d + 1) mX6_readsTruth Q 0 [some (ax_r 3), some (ax_i a0), some (ax_i a1), none] [] σ := by
  refine ax_aload_n (q := 1) (i := 0) dX6_readsTruth_0 rfl rfl rfl ?_
  refine ax_iload_n (q := 2) (i := 1) dX6_readsTruth_1 rfl rfl rfl ?_
  refine ax_iload_n (q := 3) (i := 2) dX6_readsTruth_2 rfl rfl rfl ?_
  refine ax_fg (lv2 := [some (ax_r 3), some (ax_i a0), none, none]) ⟨rfl, rfl, trivial⟩ ?_
  exact ax_callVci (q := 6) (As := [ax_i a0, ax_i a1]) (st := []) dX6_readsTruth_3 rfl lk_X6_57 shC_3 rfl rfl rfl rfl (Nat.le_of_ble_eq_true rfl) k1
set_option maxRecDepth 20000 in
theorem s_X6_readsTruth_6 {d : Nat} (hd : 0 ≤ d) {Q : Option ax_V → ax_S → Prop} (σ : ax_S) (x1 : Int32) (rr : Int32) (k1 : (¬ rr = 0) → ax_W shC (d + 1) mX6_readsTruth Q 13 [some (ax_r 3), some (ax_i x1), none, some (ax_i (0 : Int32))] [] σ) (k2 : (¬ (¬ rr = 0)) → Q (some (ax_i (0 : Int32))) σ) : ax_W shC (d + 1) mX6_readsTruth Q 6 [some (ax_r 3), some (ax_i x1), none, none] [ax_i rr] σ := by
  refine ax_if_ne (tgt := 11) (q := 9) dX6_readsTruth_6 (by decide) rfl (fun c1 => ?_) (fun c1 => ?_)
  · refine ax_iconst (q := 12) dX6_readsTruth_11 rfl ki_0 ?_
    refine ax_istore_n (q := 13) (i := 3) (lv2 := [some (ax_r 3), some (ax_i x1), none, some (ax_i (0 : Int32))]) dX6_readsTruth_12 rfl rfl (by decide) rfl rfl ?_
    exact (k1 c1)
  · refine ax_iconst (q := 10) dX6_readsTruth_9 rfl ki_0 ?_
    exact ax_iret dX6_readsTruth_10 rfl rfl (k2 c1)
set_option maxRecDepth 20000 in
theorem s_X6_readsTruth_13 {d : Nat} (hd : 0 ≤ d) {Q : Option ax_V → ax_S → Prop} (σ : ax_S) (x1 : Int32) (x3 : Int32) (k1 : ((240 : Int32) ≤ x3) → Q (some (ax_i (1 : Int32))) σ) (k2 : (¬ ((240 : Int32) ≤ x3)) → ax_Ct shC d mX9_takes [ax_r 1, ax_i (38 : Int32)] (fun r u => ∃ x : Int32, r = some (ax_i x) ∧ ax_W shC (d + 1) mX6_readsTruth Q 29 [some (ax_r 3), some (ax_i x1), none, some (ax_i x3)] (ax_i x :: []) u) σ) : ax_W shC (d + 1) mX6_readsTruth Q 13 [some (ax_r 3), some (ax_i x1), none, some (ax_i x3)] [] σ := by
  refine ax_iload_n (q := 14) (i := 3) dX6_readsTruth_13 rfl rfl rfl ?_
  refine ax_sipush (q := 17) dX6_readsTruth_14 rfl ks_240 ?_
  refine ax_icmp_ge (tgt := 56) (q := 20) dX6_readsTruth_17 (by decide) rfl (fun c1 => ?_) (fun c1 => ?_)
  · refine ax_iconst (q := 57) dX6_readsTruth_56 rfl ki_1 ?_
    exact ax_iret dX6_readsTruth_57 rfl rfl (k1 c1)
  · refine ax_aload_n (q := 21) (i := 0) dX6_readsTruth_20 rfl rfl rfl ?_
    refine ax_get (q := 24) (k := 3) (j := 0) (v := ax_r 1) dX6_readsTruth_21 rfl shC_3 rfl rfl rfl (by decide) fl_X6_15 ?_
    refine ax_bipush (q := 26) dX6_readsTruth_24 rfl kb_38 ?_
    exact ax_callVci (q := 29) (As := [ax_i (38 : Int32)]) (st := []) dX6_readsTruth_26 rfl lk_X6_32 shC_1 rfl rfl rfl rfl (Nat.le_of_ble_eq_true rfl) (k2 c1)
set_option maxRecDepth 20000 in
theorem s_X6_readsTruth_29 {d : Nat} (hd : 0 ≤ d) {Q : Option ax_V → ax_S → Prop} (σ : ax_S) (x1 : Int32) (x3 : Int32) (rr : Int32) (k1 : (rr = 0) → Q (some (ax_i (1 : Int32))) σ) (k2 : (¬ (rr = 0)) → ax_Ct shC d mX6_readsUnit [ax_r 3, ax_i x1, ax_i (0 : Int32)] (fun r u => ∃ x : Int32, r = some (ax_i x) ∧ ax_W shC (d + 1) mX6_readsTruth Q 38 [some (ax_r 3), some (ax_i x1), none, some (ax_i x3)] (ax_i x :: []) u) σ) : ax_W shC (d + 1) mX6_readsTruth Q 29 [some (ax_r 3), some (ax_i x1), none, some (ax_i x3)] [ax_i rr] σ := by
  refine ax_if_eq (tgt := 56) (q := 32) dX6_readsTruth_29 (by decide) rfl (fun c1 => ?_) (fun c1 => ?_)
  · refine ax_iconst (q := 57) dX6_readsTruth_56 rfl ki_1 ?_
    exact ax_iret dX6_readsTruth_57 rfl rfl (k1 c1)
  · refine ax_aload_n (q := 33) (i := 0) dX6_readsTruth_32 rfl rfl rfl ?_
    refine ax_iload_n (q := 34) (i := 1) dX6_readsTruth_33 rfl rfl rfl ?_
    refine ax_iconst (q := 35) dX6_readsTruth_34 rfl ki_0 ?_
    exact ax_callVci (q := 38) (As := [ax_i x1, ax_i (0 : Int32)]) (st := []) dX6_readsTruth_35 rfl lk_X6_57 shC_3 rfl rfl rfl rfl (Nat.le_of_ble_eq_true rfl) (k2 c1)
set_option maxRecDepth 20000 in
theorem s_X6_readsTruth_38 {d : Nat} (hd : 0 ≤ d) {Q : Option ax_V → ax_S → Prop} (σ : ax_S) (x1 : Int32) (x3 : Int32) (rr : Int32) (k1 : (¬ rr = 0) → ax_Ct shC d mX6_put [ax_r 3, ax_i (10 : Int32), ax_i (0 : Int32)] (fun r u => r = none ∧ ax_W shC (d + 1) mX6_readsTruth Q 50 [some (ax_r 3), some (ax_i x1), none, some (ax_i x3)] [] u) σ) (k2 : (¬ (¬ rr = 0)) → Q (some (ax_i (0 : Int32))) σ) : ax_W shC (d + 1) mX6_readsTruth Q 38 [some (ax_r 3), some (ax_i x1), none, some (ax_i x3)] [ax_i rr] σ := by
  refine ax_if_ne (tgt := 43) (q := 41) dX6_readsTruth_38 (by decide) rfl (fun c1 => ?_) (fun c1 => ?_)
  · refine ax_aload_n (q := 44) (i := 0) dX6_readsTruth_43 rfl rfl rfl ?_
    refine ax_bipush (q := 46) dX6_readsTruth_44 rfl kb_10 ?_
    refine ax_iconst (q := 47) dX6_readsTruth_46 rfl ki_0 ?_
    exact ax_callVcv (q := 50) (As := [ax_i (10 : Int32), ax_i (0 : Int32)]) (st := []) dX6_readsTruth_47 rfl lk_X6_46 shC_3 rfl rfl rfl rfl (Nat.le_of_ble_eq_true rfl) (k1 c1)
  · refine ax_iconst (q := 42) dX6_readsTruth_41 rfl ki_0 ?_
    exact ax_iret dX6_readsTruth_42 rfl rfl (k2 c1)
set_option maxRecDepth 20000 in
theorem s_X6_readsTruth_50 {d : Nat} (hd : 0 ≤ d) {Q : Option ax_V → ax_S → Prop} (σ : ax_S) (x1 : Int32) (x3 : Int32) (k1 : ax_W shC (d + 1) mX6_readsTruth Q 13 [some (ax_r 3), some (ax_i x1), none, some (ax_i (x3 + (1 : Int32)))] [] σ) : ax_W shC (d + 1) mX6_readsTruth Q 50 [some (ax_r 3), some (ax_i x1), none, some (ax_i x3)] [] σ := by
  refine ax_iincK (q := 53) (lv2 := [some (ax_r 3), some (ax_i x1), none, some (ax_i (x3 + (1 : Int32)))]) dX6_readsTruth_50 rfl rfl ki_1 (by decide) rfl rfl ?_
  refine ax_goto (tgt := 13) dX6_readsTruth_53 (by decide) ?_
  exact k1
set_option maxRecDepth 20000 in
theorem s_X6_readsCondition_0 {d : Nat} (hd : 0 ≤ d) {Q : Option ax_V → ax_S → Prop} (σ : ax_S) (a0 : Int32) (a1 : Int32) (k1 : ax_Ct shC d mX6_readsTruth [ax_r 3, ax_i a0, ax_i a1] (fun r u => ∃ x : Int32, r = some (ax_i x) ∧ ax_W shC (d + 1) mX6_readsCondition Q 6 [some (ax_r 3), some (ax_i a0), none, none] (ax_i x :: []) u) σ) : ax_W shC (d + 1) mX6_readsCondition Q 0 [some (ax_r 3), some (ax_i a0), some (ax_i a1), none] [] σ := by
  refine ax_aload_n (q := 1) (i := 0) dX6_readsCondition_0 rfl rfl rfl ?_
  refine ax_iload_n (q := 2) (i := 1) dX6_readsCondition_1 rfl rfl rfl ?_
  refine ax_iload_n (q := 3) (i := 2) dX6_readsCondition_2 rfl rfl rfl ?_
  refine ax_fg (lv2 := [some (ax_r 3), some (ax_i a0), none, none]) ⟨rfl, rfl, trivial⟩ ?_
  exact ax_callVci (q := 6) (As := [ax_i a0, ax_i a1]) (st := []) dX6_readsCondition_3 rfl lk_X6_54 shC_3 rfl rfl rfl rfl (Nat.le_of_ble_eq_true rfl) k1
set_option maxRecDepth 20000 in
theorem s_X6_readsCondition_6 {d : Nat} (hd : 0 ≤ d) {Q : Option ax_V → ax_S → Prop} (σ : ax_S) (x1 : Int32) (rr : Int32) (k1 : (¬ rr = 0) → ax_W shC (d + 1) mX6_readsCondition Q 13 [some (ax_r 3), some (ax_i x1), none, some (ax_i (0 : Int32))] [] σ) (k2 : (¬ (¬ rr = 0)) → Q (some (ax_i (0 : Int32))) σ) : ax_W shC (d + 1) mX6_readsCondition Q 6 [some (ax_r 3), some (ax_i x1), none, none] [ax_i rr] σ := by
  refine ax_if_ne (tgt := 11) (q := 9) dX6_readsCondition_6 (by decide) rfl (fun c1 => ?_) (fun c1 => ?_)
  · refine ax_iconst (q := 12) dX6_readsCondition_11 rfl ki_0 ?_
    refine ax_istore_n (q := 13) (i := 3) (lv2 := [some (ax_r 3), some (ax_i x1), none, some (ax_i (0 : Int32))]) dX6_readsCondition_12 rfl rfl (by decide) rfl rfl ?_
    exact (k1 c1)
  · refine ax_iconst (q := 10) dX6_readsCondition_9 rfl ki_0 ?_
    exact ax_iret dX6_readsCondition_10 rfl rfl (k2 c1)
set_option maxRecDepth 20000 in
theorem s_X6_readsCondition_13 {d : Nat} (hd : 0 ≤ d) {Q : Option ax_V → ax_S → Prop} (σ : ax_S) (x1 : Int32) (x3 : Int32) (k1 : ((240 : Int32) ≤ x3) → Q (some (ax_i (1 : Int32))) σ) (k2 : (¬ ((240 : Int32) ≤ x3)) → ax_Ct shC d mX9_takes [ax_r 1, ax_i (124 : Int32)] (fun r u => ∃ x : Int32, r = some (ax_i x) ∧ ax_W shC (d + 1) mX6_readsCondition Q 29 [some (ax_r 3), some (ax_i x1), none, some (ax_i x3)] (ax_i x :: []) u) σ) : ax_W shC (d + 1) mX6_readsCondition Q 13 [some (ax_r 3), some (ax_i x1), none, some (ax_i x3)] [] σ := by
  refine ax_iload_n (q := 14) (i := 3) dX6_readsCondition_13 rfl rfl rfl ?_
  refine ax_sipush (q := 17) dX6_readsCondition_14 rfl ks_240 ?_
  refine ax_icmp_ge (tgt := 56) (q := 20) dX6_readsCondition_17 (by decide) rfl (fun c1 => ?_) (fun c1 => ?_)
  · refine ax_iconst (q := 57) dX6_readsCondition_56 rfl ki_1 ?_
    exact ax_iret dX6_readsCondition_57 rfl rfl (k1 c1)
  · refine ax_aload_n (q := 21) (i := 0) dX6_readsCondition_20 rfl rfl rfl ?_
    refine ax_get (q := 24) (k := 3) (j := 0) (v := ax_r 1) dX6_readsCondition_21 rfl shC_3 rfl rfl rfl (by decide) fl_X6_15 ?_
    refine ax_bipush (q := 26) dX6_readsCondition_24 rfl kb_124 ?_
    exact ax_callVci (q := 29) (As := [ax_i (124 : Int32)]) (st := []) dX6_readsCondition_26 rfl lk_X6_32 shC_1 rfl rfl rfl rfl (Nat.le_of_ble_eq_true rfl) (k2 c1)
set_option maxRecDepth 20000 in
theorem s_X6_readsCondition_29 {d : Nat} (hd : 0 ≤ d) {Q : Option ax_V → ax_S → Prop} (σ : ax_S) (x1 : Int32) (x3 : Int32) (rr : Int32) (k1 : (rr = 0) → Q (some (ax_i (1 : Int32))) σ) (k2 : (¬ (rr = 0)) → ax_Ct shC d mX6_readsTruth [ax_r 3, ax_i x1, ax_i (0 : Int32)] (fun r u => ∃ x : Int32, r = some (ax_i x) ∧ ax_W shC (d + 1) mX6_readsCondition Q 38 [some (ax_r 3), some (ax_i x1), none, some (ax_i x3)] (ax_i x :: []) u) σ) : ax_W shC (d + 1) mX6_readsCondition Q 29 [some (ax_r 3), some (ax_i x1), none, some (ax_i x3)] [ax_i rr] σ := by
  refine ax_if_eq (tgt := 56) (q := 32) dX6_readsCondition_29 (by decide) rfl (fun c1 => ?_) (fun c1 => ?_)
  · refine ax_iconst (q := 57) dX6_readsCondition_56 rfl ki_1 ?_
    exact ax_iret dX6_readsCondition_57 rfl rfl (k1 c1)
  · refine ax_aload_n (q := 33) (i := 0) dX6_readsCondition_32 rfl rfl rfl ?_
    refine ax_iload_n (q := 34) (i := 1) dX6_readsCondition_33 rfl rfl rfl ?_
    refine ax_iconst (q := 35) dX6_readsCondition_34 rfl ki_0 ?_
    exact ax_callVci (q := 38) (As := [ax_i x1, ax_i (0 : Int32)]) (st := []) dX6_readsCondition_35 rfl lk_X6_54 shC_3 rfl rfl rfl rfl (Nat.le_of_ble_eq_true rfl) (k2 c1)
set_option maxRecDepth 20000 in
theorem s_X6_readsCondition_38 {d : Nat} (hd : 0 ≤ d) {Q : Option ax_V → ax_S → Prop} (σ : ax_S) (x1 : Int32) (x3 : Int32) (rr : Int32) (k1 : (¬ rr = 0) → ax_Ct shC d mX6_put [ax_r 3, ax_i (11 : Int32), ax_i (0 : Int32)] (fun r u => r = none ∧ ax_W shC (d + 1) mX6_readsCondition Q 50 [some (ax_r 3), some (ax_i x1), none, some (ax_i x3)] [] u) σ) (k2 : (¬ (¬ rr = 0)) → Q (some (ax_i (0 : Int32))) σ) : ax_W shC (d + 1) mX6_readsCondition Q 38 [some (ax_r 3), some (ax_i x1), none, some (ax_i x3)] [ax_i rr] σ := by
  refine ax_if_ne (tgt := 43) (q := 41) dX6_readsCondition_38 (by decide) rfl (fun c1 => ?_) (fun c1 => ?_)
  · refine ax_aload_n (q := 44) (i := 0) dX6_readsCondition_43 rfl rfl rfl ?_
    refine ax_bipush (q := 46) dX6_readsCondition_44 rfl kb_11 ?_
    refine ax_iconst (q := 47) dX6_readsCondition_46 rfl ki_0 ?_
    exact ax_callVcv (q := 50) (As := [ax_i (11 : Int32), ax_i (0 : Int32)]) (st := []) dX6_readsCondition_47 rfl lk_X6_46 shC_3 rfl rfl rfl rfl (Nat.le_of_ble_eq_true rfl) (k1 c1)
  · refine ax_iconst (q := 42) dX6_readsCondition_41 rfl ki_0 ?_
    exact ax_iret dX6_readsCondition_42 rfl rfl (k2 c1)
set_option maxRecDepth 20000 in
theorem s_X6_readsCondition_50 {d : Nat} (hd : 0 ≤ d) {Q : Option ax_V → ax_S → Prop} (σ : ax_S) (x1 : Int32) (x3 : Int32) (k1 : ax_W shC (d + 1) mX6_readsCondition Q 13 [some (ax_r 3), some (ax_i x1), none, some (ax_i (x3 + (1 : Int32)))] [] σ) : ax_W shC (d + 1) mX6_readsCondition Q 50 [some (ax_r 3), some (ax_i x1), none, some (ax_i x3)] [] σ := by
  refine ax_iincK (q := 53) (lv2 := [some (ax_r 3), some (ax_i x1), none, some (ax_i (x3 + (1 : Int32)))]) dX6_readsCondition_50 rfl rfl ki_1 (by decide) rfl rfl ?_
  refine ax_goto (tgt := 13) dX6_readsCondition_53 (by decide) ?_
  exact k1
set_option maxRecDepth 20000 in
theorem s_X6_readsClause_0 {d : Nat} (hd : 0 ≤ d) {Q : Option ax_V → ax_S → Prop} (σ : ax_S)  (k1 : ax_Ct shC d mX9_takes [ax_r 1, ax_i (121 : Int32)] (fun r u => ∃ x : Int32, r = some (ax_i x) ∧ ax_W shC (d + 1) mX6_readsClause Q 9 [some (ax_r 3), none, none, none] (ax_i x :: []) u) σ) : ax_W shC (d + 1) mX6_readsClause Q 0 [some (ax_r 3), none, none, none] [] σ := by
  refine ax_aload_n (q := 1) (i := 0) dX6_readsClause_0 rfl rfl rfl ?_
  refine ax_get (q := 4) (k := 3) (j := 0) (v := ax_r 1) dX6_readsClause_1 rfl shC_3 rfl rfl rfl (by decide) fl_X6_15 ?_
  refine ax_bipush (q := 6) dX6_readsClause_4 rfl kb_121 ?_
  exact ax_callVci (q := 9) (As := [ax_i (121 : Int32)]) (st := []) dX6_readsClause_6 rfl lk_X6_32 shC_1 rfl rfl rfl rfl (Nat.le_of_ble_eq_true rfl) k1
set_option maxRecDepth 20000 in
theorem s_X6_readsClause_9 {d : Nat} (hd : 0 ≤ d) {Q : Option ax_V → ax_S → Prop} (σ : ax_S) (rr : Int32) (k1 : (rr = 0) → Q (some (ax_i (0 : Int32))) σ) (k2 : (¬ (rr = 0)) → ax_Ct shC d mX9_takes [ax_r 1, ax_i (58 : Int32)] (fun r u => ∃ x : Int32, r = some (ax_i x) ∧ ax_W shC (d + 1) mX6_readsClause Q 21 [some (ax_r 3), none, none, none] (ax_i x :: []) u) σ) : ax_W shC (d + 1) mX6_readsClause Q 9 [some (ax_r 3), none, none, none] [ax_i rr] σ := by
  refine ax_if_eq (tgt := 24) (q := 12) dX6_readsClause_9 (by decide) rfl (fun c1 => ?_) (fun c1 => ?_)
  · refine ax_iconst (q := 25) dX6_readsClause_24 rfl ki_0 ?_
    exact ax_iret dX6_readsClause_25 rfl rfl (k1 c1)
  · refine ax_aload_n (q := 13) (i := 0) dX6_readsClause_12 rfl rfl rfl ?_
    refine ax_get (q := 16) (k := 3) (j := 0) (v := ax_r 1) dX6_readsClause_13 rfl shC_3 rfl rfl rfl (by decide) fl_X6_15 ?_
    refine ax_bipush (q := 18) dX6_readsClause_16 rfl kb_58 ?_
    exact ax_callVci (q := 21) (As := [ax_i (58 : Int32)]) (st := []) dX6_readsClause_18 rfl lk_X6_32 shC_1 rfl rfl rfl rfl (Nat.le_of_ble_eq_true rfl) (k2 c1)
set_option maxRecDepth 20000 in
theorem s_X6_readsClause_21 {d : Nat} (hd : 0 ≤ d) {Q : Option ax_V → ax_S → Prop} (σ : ax_S) (rr : Int32) (k1 : (¬ rr = 0) → ax_Ct shC d mX9_sign [ax_r 1] (fun r u => ∃ x : Int32, r = some (ax_i x) ∧ ax_W shC (d + 1) mX6_readsClause Q 33 [some (ax_r 3), none, none, none] (ax_i x :: []) u) σ) (k2 : (¬ (¬ rr = 0)) → Q (some (ax_i (0 : Int32))) σ) : ax_W shC (d + 1) mX6_readsClause Q 21 [some (ax_r 3), none, none, none] [ax_i rr] σ := by
  refine ax_if_ne (tgt := 26) (q := 24) dX6_readsClause_21 (by decide) rfl (fun c1 => ?_) (fun c1 => ?_)
  · refine ax_aload_n (q := 27) (i := 0) dX6_readsClause_26 rfl rfl rfl ?_
    refine ax_get (q := 30) (k := 3) (j := 0) (v := ax_r 1) dX6_readsClause_27 rfl shC_3 rfl rfl rfl (by decide) fl_X6_15 ?_
    exact ax_callVci (q := 33) (As := []) (st := []) dX6_readsClause_30 rfl lk_X6_36 shC_1 rfl rfl rfl rfl (Nat.le_of_ble_eq_true rfl) (k1 c1)
  · refine ax_iconst (q := 25) dX6_readsClause_24 rfl ki_0 ?_
    exact ax_iret dX6_readsClause_25 rfl rfl (k2 c1)
set_option maxRecDepth 20000 in
theorem s_X6_readsClause_33 {d : Nat} (hd : 0 ≤ d) {Q : Option ax_V → ax_S → Prop} (σ : ax_S) (rr : Int32) (k1 : (¬ ((¬ (rr = (33 : Int32))) ∧ (¬ (rr = (40 : Int32))))) → ax_Ct shC d mX6_readsCondition [ax_r 3, ax_i (0 : Int32), ax_i (if ((¬ (rr = (33 : Int32))) ∧ (¬ (rr = (40 : Int32)))) then (1 : Int32) else 0)] (fun r u => ∃ x : Int32, r = some (ax_i x) ∧ ax_W shC (d + 1) mX6_readsClause Q 89 [some (ax_r 3), none, none, none] (ax_i x :: []) u) σ) (k2 : ((¬ (rr = (33 : Int32))) ∧ (¬ (rr = (40 : Int32)))) → ax_Ct shC d mX6_readsSum [ax_r 3, ax_i (0 : Int32)] (fun r u => ∃ x : Int32, r = some (ax_i x) ∧ ax_W shC (d + 1) mX6_readsClause Q 61 [some (ax_r 3), none, some (ax_i (if ((¬ (rr = (33 : Int32))) ∧ (¬ (rr = (40 : Int32)))) then (1 : Int32) else 0)), none] (ax_i x :: []) u) σ) : ax_W shC (d + 1) mX6_readsClause Q 33 [some (ax_r 3), none, none, none] [ax_i rr] σ := by
  refine ax_istore_n (q := 34) (i := 1) (lv2 := [some (ax_r 3), some (ax_i rr), none, none]) dX6_readsClause_33 rfl rfl (by decide) rfl rfl ?_
  refine ax_iload_n (q := 35) (i := 1) dX6_readsClause_34 rfl rfl rfl ?_
  refine ax_bipush (q := 37) dX6_readsClause_35 rfl kb_33 ?_
  have K3 : ax_W shC (d + 1) mX6_readsClause Q 51 [some (ax_r 3), some (ax_i rr), none, none] [ax_i (if ((¬ (rr = (33 : Int32))) ∧ (¬ (rr = (40 : Int32)))) then (1 : Int32) else 0)] σ := by
    refine ax_istore_n (q := 52) (i := 2) (lv2 := [some (ax_r 3), some (ax_i rr), some (ax_i (if ((¬ (rr = (33 : Int32))) ∧ (¬ (rr = (40 : Int32)))) then (1 : Int32) else 0)), none]) dX6_readsClause_51 rfl rfl (by decide) rfl rfl ?_
    refine ax_iload_n (q := 53) (i := 2) dX6_readsClause_52 rfl rfl rfl ?_
    refine ax_if_eqB (tgt := 83) (q := 56) dX6_readsClause_53 (by decide) rfl (fun c4 => ?_) (fun c4 => ?_)
    · refine ax_aload_n (q := 84) (i := 0) dX6_readsClause_83 rfl rfl rfl ?_
      refine ax_iconst (q := 85) dX6_readsClause_84 rfl ki_0 ?_
      refine ax_iload_n (q := 86) (i := 2) dX6_readsClause_85 rfl rfl rfl ?_
      refine ax_fg (lv2 := [some (ax_r 3), none, none, none]) ⟨rfl, trivial⟩ ?_
      exact ax_callVci (q := 89) (As := [ax_i (0 : Int32), ax_i (if ((¬ (rr = (33 : Int32))) ∧ (¬ (rr = (40 : Int32)))) then (1 : Int32) else 0)]) (st := []) dX6_readsClause_86 rfl lk_X6_50 shC_3 rfl rfl rfl rfl (Nat.le_of_ble_eq_true rfl) (k1 c4)
    · refine ax_aload_n (q := 57) (i := 0) dX6_readsClause_56 rfl rfl rfl ?_
      refine ax_iconst (q := 58) dX6_readsClause_57 rfl ki_0 ?_
      refine ax_fg (lv2 := [some (ax_r 3), none, some (ax_i (if ((¬ (rr = (33 : Int32))) ∧ (¬ (rr = (40 : Int32)))) then (1 : Int32) else 0)), none]) ⟨rfl, rfl, trivial⟩ ?_
      exact ax_callVci (q := 61) (As := [ax_i (0 : Int32)]) (st := []) dX6_readsClause_58 rfl lk_X6_40 shC_3 rfl rfl rfl rfl (Nat.le_of_ble_eq_true rfl) (k2 c4)
  refine ax_icmp_eq (tgt := 50) (q := 40) dX6_readsClause_37 (by decide) rfl (fun c1 => ?_) (fun c1 => ?_)
  · refine ax_iconst (q := 51) dX6_readsClause_50 rfl ki_0 ?_
    exact ax_cv (if_neg (fun z => (fun y => y c1) z.1)) K3
  · refine ax_iload_n (q := 41) (i := 1) dX6_readsClause_40 rfl rfl rfl ?_
    refine ax_bipush (q := 43) dX6_readsClause_41 rfl kb_40 ?_
    refine ax_icmp_eq (tgt := 50) (q := 46) dX6_readsClause_43 (by decide) rfl (fun c2 => ?_) (fun c2 => ?_)
    · refine ax_iconst (q := 51) dX6_readsClause_50 rfl ki_0 ?_
      exact ax_cv (if_neg (fun z => (fun y => y c2) z.2)) K3
    · refine ax_iconst (q := 47) dX6_readsClause_46 rfl ki_1 ?_
      refine ax_goto (tgt := 51) dX6_readsClause_47 (by decide) ?_
      exact ax_cv (if_pos ⟨c1, c2⟩) K3
set_option maxRecDepth 20000 in
theorem s_X6_readsClause_61 {d : Nat} (hd : 0 ≤ d) {Q : Option ax_V → ax_S → Prop} (σ : ax_S) (x2 : Int32) (rr : Int32) (k1 : (¬ rr = 0) → ax_Ct shC d mX6_comparison [ax_r 3] (fun r u => ∃ x : Int32, r = some (ax_i x) ∧ ax_W shC (d + 1) mX6_readsClause Q 70 [some (ax_r 3), none, some (ax_i x2), none] (ax_i x :: []) u) σ) (k2 : (¬ (¬ rr = 0)) → Q (some (ax_i (0 : Int32))) σ) : ax_W shC (d + 1) mX6_readsClause Q 61 [some (ax_r 3), none, some (ax_i x2), none] [ax_i rr] σ := by
  refine ax_if_ne (tgt := 66) (q := 64) dX6_readsClause_61 (by decide) rfl (fun c1 => ?_) (fun c1 => ?_)
  · refine ax_aload_n (q := 67) (i := 0) dX6_readsClause_66 rfl rfl rfl ?_
    exact ax_callVci (q := 70) (As := []) (st := []) dX6_readsClause_67 rfl lk_X6_43 shC_3 rfl rfl rfl rfl (Nat.le_of_ble_eq_true rfl) (k1 c1)
  · refine ax_iconst (q := 65) dX6_readsClause_64 rfl ki_0 ?_
    exact ax_iret dX6_readsClause_65 rfl rfl (k2 c1)
set_option maxRecDepth 20000 in
theorem s_X6_readsClause_89 {d : Nat} (hd : 0 ≤ d) {Q : Option ax_V → ax_S → Prop} (σ : ax_S) (rr : Int32) (k1 : (rr = 0) → Q (some (ax_i (0 : Int32))) σ) (k2 : (¬ (rr = 0)) → ax_Ct shC d mX9_takes [ax_r 1, ax_i (63 : Int32)] (fun r u => ∃ x : Int32, r = some (ax_i x) ∧ ax_W shC (d + 1) mX6_readsClause Q 101 [some (ax_r 3), none, none, none] (ax_i x :: []) u) σ) : ax_W shC (d + 1) mX6_readsClause Q 89 [some (ax_r 3), none, none, none] [ax_i rr] σ := by
  refine ax_if_eq (tgt := 104) (q := 92) dX6_readsClause_89 (by decide) rfl (fun c1 => ?_) (fun c1 => ?_)
  · refine ax_iconst (q := 105) dX6_readsClause_104 rfl ki_0 ?_
    exact ax_iret dX6_readsClause_105 rfl rfl (k1 c1)
  · refine ax_aload_n (q := 93) (i := 0) dX6_readsClause_92 rfl rfl rfl ?_
    refine ax_get (q := 96) (k := 3) (j := 0) (v := ax_r 1) dX6_readsClause_93 rfl shC_3 rfl rfl rfl (by decide) fl_X6_15 ?_
    refine ax_bipush (q := 98) dX6_readsClause_96 rfl kb_63 ?_
    exact ax_callVci (q := 101) (As := [ax_i (63 : Int32)]) (st := []) dX6_readsClause_98 rfl lk_X6_32 shC_1 rfl rfl rfl rfl (Nat.le_of_ble_eq_true rfl) (k2 c1)
set_option maxRecDepth 20000 in
theorem s_X6_readsClause_70 {d : Nat} (hd : 0 ≤ d) {Q : Option ax_V → ax_S → Prop} (σ : ax_S) (x2 : Int32) (rr : Int32) (k1 : (¬ rr = (-1 : Int32)) → ax_Ct shC d mX6_readsCondition [ax_r 3, ax_i (0 : Int32), ax_i x2] (fun r u => ∃ x : Int32, r = some (ax_i x) ∧ ax_W shC (d + 1) mX6_readsClause Q 89 [some (ax_r 3), none, none, none] (ax_i x :: []) u) σ) (k2 : (¬ (¬ rr = (-1 : Int32))) → ax_Ct shC d mX6_put [ax_r 3, ax_i (13 : Int32), ax_i (0 : Int32)] (fun r u => r = none ∧ ax_W shC (d + 1) mX6_readsClause Q 81 [none, none, none, none] [] u) σ) : ax_W shC (d + 1) mX6_readsClause Q 70 [some (ax_r 3), none, some (ax_i x2), none] [ax_i rr] σ := by
  refine ax_iconst (q := 71) dX6_readsClause_70 rfl ki_m1 ?_
  refine ax_icmp_ne (tgt := 83) (q := 74) dX6_readsClause_71 (by decide) rfl (fun c1 => ?_) (fun c1 => ?_)
  · refine ax_aload_n (q := 84) (i := 0) dX6_readsClause_83 rfl rfl rfl ?_
    refine ax_iconst (q := 85) dX6_readsClause_84 rfl ki_0 ?_
    refine ax_iload_n (q := 86) (i := 2) dX6_readsClause_85 rfl rfl rfl ?_
    refine ax_fg (lv2 := [some (ax_r 3), none, none, none]) ⟨rfl, trivial⟩ ?_
    exact ax_callVci (q := 89) (As := [ax_i (0 : Int32), ax_i x2]) (st := []) dX6_readsClause_86 rfl lk_X6_50 shC_3 rfl rfl rfl rfl (Nat.le_of_ble_eq_true rfl) (k1 c1)
  · refine ax_aload_n (q := 75) (i := 0) dX6_readsClause_74 rfl rfl rfl ?_
    refine ax_bipush (q := 77) dX6_readsClause_75 rfl kb_13 ?_
    refine ax_iconst (q := 78) dX6_readsClause_77 rfl ki_0 ?_
    refine ax_fg (lv2 := [none, none, none, none]) trivial ?_
    exact ax_callVcv (q := 81) (As := [ax_i (13 : Int32), ax_i (0 : Int32)]) (st := []) dX6_readsClause_78 rfl lk_X6_46 shC_3 rfl rfl rfl rfl (Nat.le_of_ble_eq_true rfl) (k2 c1)
set_option maxRecDepth 20000 in
theorem s_X6_readsClause_101 {d : Nat} (hd : 0 ≤ d) {Q : Option ax_V → ax_S → Prop} (σ : ax_S) (rr : Int32) (k1 : (¬ rr = 0) → ax_Ct shC d mX6_put [ax_r 3, ax_i (12 : Int32), ax_i (0 : Int32)] (fun r u => r = none ∧ ax_W shC (d + 1) mX6_readsClause Q 118 [some (ax_r 3), none, none, some (ax_i (σ.1 3 2))] [] u) σ) (k2 : (¬ (¬ rr = 0)) → Q (some (ax_i (0 : Int32))) σ) : ax_W shC (d + 1) mX6_readsClause Q 101 [some (ax_r 3), none, none, none] [ax_i rr] σ := by
  refine ax_if_ne (tgt := 106) (q := 104) dX6_readsClause_101 (by decide) rfl (fun c1 => ?_) (fun c1 => ?_)
  · refine ax_aload_n (q := 107) (i := 0) dX6_readsClause_106 rfl rfl rfl ?_
    refine ax_get (q := 110) (k := 3) (j := 2) (v := ax_i (σ.1 3 2)) dX6_readsClause_107 rfl shC_3 rfl rfl rfl (by decide) fl_X6_25 ?_
    refine ax_istore_n (q := 111) (i := 3) (lv2 := [some (ax_r 3), none, none, some (ax_i (σ.1 3 2))]) dX6_readsClause_110 rfl rfl (by decide) rfl rfl ?_
    refine ax_aload_n (q := 112) (i := 0) dX6_readsClause_111 rfl rfl rfl ?_
    refine ax_bipush (q := 114) dX6_readsClause_112 rfl kb_12 ?_
    refine ax_iconst (q := 115) dX6_readsClause_114 rfl ki_0 ?_
    exact ax_callVcv (q := 118) (As := [ax_i (12 : Int32), ax_i (0 : Int32)]) (st := []) dX6_readsClause_115 rfl lk_X6_46 shC_3 rfl rfl rfl rfl (Nat.le_of_ble_eq_true rfl) (k1 c1)
  · refine ax_iconst (q := 105) dX6_readsClause_104 rfl ki_0 ?_
    exact ax_iret dX6_readsClause_105 rfl rfl (k2 c1)
set_option maxRecDepth 20000 in
theorem s_X6_readsClause_81 {d : Nat} (hd : 0 ≤ d) {Q : Option ax_V → ax_S → Prop} (σ : ax_S)  (k1 : Q (some (ax_i (1 : Int32))) σ) : ax_W shC (d + 1) mX6_readsClause Q 81 [none, none, none, none] [] σ := by
  refine ax_iconst (q := 82) dX6_readsClause_81 rfl ki_1 ?_
  exact ax_iret dX6_readsClause_82 rfl rfl k1
set_option maxRecDepth 20000 in
theorem s_X6_readsClause_118 {d : Nat} (hd : 0 ≤ d) {Q : Option ax_V → ax_S → Prop} (σ : ax_S) (x3 : Int32) (k1 : ax_Ct shC d mX6_readsSum [ax_r 3, ax_i (0 : Int32)] (fun r u => ∃ x : Int32, r = some (ax_i x) ∧ ax_W shC (d + 1) mX6_readsClause Q 123 [some (ax_r 3), none, none, some (ax_i x3)] (ax_i x :: []) u) σ) : ax_W shC (d + 1) mX6_readsClause Q 118 [some (ax_r 3), none, none, some (ax_i x3)] [] σ := by
  refine ax_aload_n (q := 119) (i := 0) dX6_readsClause_118 rfl rfl rfl ?_
  refine ax_iconst (q := 120) dX6_readsClause_119 rfl ki_0 ?_
  exact ax_callVci (q := 123) (As := [ax_i (0 : Int32)]) (st := []) dX6_readsClause_120 rfl lk_X6_40 shC_3 rfl rfl rfl rfl (Nat.le_of_ble_eq_true rfl) k1
set_option maxRecDepth 20000 in
theorem s_X6_readsClause_123 {d : Nat} (hd : 0 ≤ d) {Q : Option ax_V → ax_S → Prop} (σ : ax_S) (x3 : Int32) (rr : Int32) (k1 : (¬ rr = 0) → ax_Ct shC d mX6_put [ax_r 3, ax_i (13 : Int32), ax_i (0 : Int32)] (fun r u => r = none ∧ ax_W shC (d + 1) mX6_readsClause Q 135 [some (ax_r 3), none, none, some (ax_i x3)] [] u) σ) (k2 : (¬ (¬ rr = 0)) → Q (some (ax_i (0 : Int32))) σ) : ax_W shC (d + 1) mX6_readsClause Q 123 [some (ax_r 3), none, none, some (ax_i x3)] [ax_i rr] σ := by
  refine ax_if_ne (tgt := 128) (q := 126) dX6_readsClause_123 (by decide) rfl (fun c1 => ?_) (fun c1 => ?_)
  · refine ax_aload_n (q := 129) (i := 0) dX6_readsClause_128 rfl rfl rfl ?_
    refine ax_bipush (q := 131) dX6_readsClause_129 rfl kb_13 ?_
    refine ax_iconst (q := 132) dX6_readsClause_131 rfl ki_0 ?_
    exact ax_callVcv (q := 135) (As := [ax_i (13 : Int32), ax_i (0 : Int32)]) (st := []) dX6_readsClause_132 rfl lk_X6_46 shC_3 rfl rfl rfl rfl (Nat.le_of_ble_eq_true rfl) (k1 c1)
  · refine ax_iconst (q := 127) dX6_readsClause_126 rfl ki_0 ?_
    exact ax_iret dX6_readsClause_127 rfl rfl (k2 c1)
set_option maxRecDepth 20000 in
theorem s_X6_readsClause_135 {d : Nat} (hd : 0 ≤ d) {Q : Option ax_V → ax_S → Prop} (σ : ax_S) (x3 : Int32) (k1 : ((Int32.ofNat 240) ≤ x3) → Q (some (ax_i (1 : Int32))) σ) (h2 : (¬ ((Int32.ofNat 240) ≤ x3)) → vp_in x3 240) (k3 : (¬ ((Int32.ofNat 240) ≤ x3)) → Q (some (ax_i (1 : Int32))) (ax_ui σ 18 (Int32.toNatClampNeg x3) ((12 : Int32) ||| ((σ.1 3 2) <<< ((4 : Int32) &&& 31))))) : ax_W shC (d + 1) mX6_readsClause Q 135 [some (ax_r 3), none, none, some (ax_i x3)] [] σ := by
  refine ax_iload_n (q := 136) (i := 3) dX6_readsClause_135 rfl rfl rfl ?_
  refine ax_aload_n (q := 137) (i := 0) dX6_readsClause_136 rfl rfl rfl ?_
  refine ax_get (q := 140) (k := 3) (j := 1) (v := ax_r 18) dX6_readsClause_137 rfl shC_3 rfl rfl rfl (by decide) fl_X6_11 ?_
  refine ax_alen (q := 141) dX6_readsClause_140 rfl shC_18 ?_
  refine ax_icmp_ge (tgt := 159) (q := 144) dX6_readsClause_141 (by decide) rfl (fun c1 => ?_) (fun c1 => ?_)
  · refine ax_iconst (q := 160) dX6_readsClause_159 rfl ki_1 ?_
    exact ax_iret dX6_readsClause_160 rfl rfl (k1 c1)
  · refine ax_aload_n (q := 145) (i := 0) dX6_readsClause_144 rfl rfl rfl ?_
    refine ax_get (q := 148) (k := 3) (j := 1) (v := ax_r 18) dX6_readsClause_145 rfl shC_3 rfl rfl rfl (by decide) fl_X6_11 ?_
    refine ax_iload_n (q := 149) (i := 3) dX6_readsClause_148 rfl rfl rfl ?_
    refine ax_bipush (q := 151) dX6_readsClause_149 rfl kb_12 ?_
    refine ax_aload_n (q := 152) (i := 0) dX6_readsClause_151 rfl rfl rfl ?_
    refine ax_get (q := 155) (k := 3) (j := 2) (v := ax_i (σ.1 3 2)) dX6_readsClause_152 rfl shC_3 rfl rfl rfl (by decide) fl_X6_25 ?_
    refine ax_iconst (q := 156) dX6_readsClause_155 rfl ki_4 ?_
    refine ax_ishl (q := 157) dX6_readsClause_156 rfl ?_
    refine ax_ior (q := 158) dX6_readsClause_157 rfl ?_
    refine ax_iast (q := 159) (a := (Int32.toNatClampNeg x3)) dX6_readsClause_158 rfl shC_18 (h2 c1) rfl ?_
    refine ax_iconst (q := 160) dX6_readsClause_159 rfl ki_1 ?_
    exact ax_iret dX6_readsClause_160 rfl rfl (k3 c1)
set_option maxRecDepth 20000 in
theorem s_X6_reads_0 {d : Nat} (hd : 0 ≤ d) {Q : Option ax_V → ax_S → Prop} (σ : ax_S)  (k1 : ax_W shC (d + 1) mX6_reads Q 15 [some (ax_r 3), some (ax_i (0 : Int32))] [] (ax_ui (ax_ui σ 1 2 (0 : Int32)) 3 2 (0 : Int32))) : ax_W shC (d + 1) mX6_reads Q 0 [some (ax_r 3), none] [] σ := by
  refine ax_aload_n (q := 1) (i := 0) dX6_reads_0 rfl rfl rfl ?_
  refine ax_get (q := 4) (k := 3) (j := 0) (v := ax_r 1) dX6_reads_1 rfl shC_3 rfl rfl rfl (by decide) fl_X6_15 ?_
  refine ax_iconst (q := 5) dX6_reads_4 rfl ki_0 ?_
  refine ax_puti (q := 8) (k := 1) (j := 2) dX6_reads_5 rfl shC_1 rfl rfl (by decide) fl_X6_19 rfl rfl rfl rfl ?_
  refine ax_aload_n (q := 9) (i := 0) dX6_reads_8 rfl rfl rfl ?_
  refine ax_iconst (q := 10) dX6_reads_9 rfl ki_0 ?_
  refine ax_puti (q := 13) (k := 3) (j := 2) dX6_reads_10 rfl shC_3 rfl rfl (by decide) fl_X6_25 rfl rfl rfl rfl ?_
  refine ax_iconst (q := 14) dX6_reads_13 rfl ki_0 ?_
  refine ax_istore_n (q := 15) (i := 1) (lv2 := [some (ax_r 3), some (ax_i (0 : Int32))]) dX6_reads_14 rfl rfl (by decide) rfl rfl ?_
  exact k1
set_option maxRecDepth 20000 in
theorem s_X6_reads_15 {d : Nat} (hd : 0 ≤ d) {Q : Option ax_V → ax_S → Prop} (σ : ax_S) (x1 : Int32) (k1 : ((240 : Int32) ≤ x1) → ax_Ct shC d mX9_sign [ax_r 1] (fun r u => ∃ x : Int32, r = some (ax_i x) ∧ ax_W shC (d + 1) mX6_reads Q 59 [none, none] (ax_i x :: []) u) σ) (k2 : (¬ ((240 : Int32) ≤ x1)) → ax_Ct shC d mX6_readsClause [ax_r 3] (fun r u => ∃ x : Int32, r = some (ax_i x) ∧ ax_W shC (d + 1) mX6_reads Q 26 [some (ax_r 3), some (ax_i x1)] (ax_i x :: []) u) σ) : ax_W shC (d + 1) mX6_reads Q 15 [some (ax_r 3), some (ax_i x1)] [] σ := by
  refine ax_iload_n (q := 16) (i := 1) dX6_reads_15 rfl rfl rfl ?_
  refine ax_sipush (q := 19) dX6_reads_16 rfl ks_240 ?_
  refine ax_icmp_ge (tgt := 52) (q := 22) dX6_reads_19 (by decide) rfl (fun c1 => ?_) (fun c1 => ?_)
  · refine ax_aload_n (q := 53) (i := 0) dX6_reads_52 rfl rfl rfl ?_
    refine ax_get (q := 56) (k := 3) (j := 0) (v := ax_r 1) dX6_reads_53 rfl shC_3 rfl rfl rfl (by decide) fl_X6_15 ?_
    refine ax_fg (lv2 := [none, none]) trivial ?_
    exact ax_callVci (q := 59) (As := []) (st := []) dX6_reads_56 rfl lk_X6_36 shC_1 rfl rfl rfl rfl (Nat.le_of_ble_eq_true rfl) (k1 c1)
  · refine ax_aload_n (q := 23) (i := 0) dX6_reads_22 rfl rfl rfl ?_
    exact ax_callVci (q := 26) (As := []) (st := []) dX6_reads_23 rfl lk_X6_28 shC_3 rfl rfl rfl rfl (Nat.le_of_ble_eq_true rfl) (k2 c1)
set_option maxRecDepth 20000 in
theorem s_X6_reads_26 {d : Nat} (hd : 0 ≤ d) {Q : Option ax_V → ax_S → Prop} (σ : ax_S) (x1 : Int32) (rr : Int32) (k1 : (¬ rr = 0) → ax_Ct shC d mX9_takes [ax_r 1, ax_i (59 : Int32)] (fun r u => ∃ x : Int32, r = some (ax_i x) ∧ ax_W shC (d + 1) mX6_reads Q 40 [some (ax_r 3), some (ax_i x1)] (ax_i x :: []) u) σ) (k2 : (¬ (¬ rr = 0)) → Q (some (ax_i (0 : Int32))) σ) : ax_W shC (d + 1) mX6_reads Q 26 [some (ax_r 3), some (ax_i x1)] [ax_i rr] σ := by
  refine ax_if_ne (tgt := 31) (q := 29) dX6_reads_26 (by decide) rfl (fun c1 => ?_) (fun c1 => ?_)
  · refine ax_aload_n (q := 32) (i := 0) dX6_reads_31 rfl rfl rfl ?_
    refine ax_get (q := 35) (k := 3) (j := 0) (v := ax_r 1) dX6_reads_32 rfl shC_3 rfl rfl rfl (by decide) fl_X6_15 ?_
    refine ax_bipush (q := 37) dX6_reads_35 rfl kb_59 ?_
    exact ax_callVci (q := 40) (As := [ax_i (59 : Int32)]) (st := []) dX6_reads_37 rfl lk_X6_32 shC_1 rfl rfl rfl rfl (Nat.le_of_ble_eq_true rfl) (k1 c1)
  · refine ax_iconst (q := 30) dX6_reads_29 rfl ki_0 ?_
    exact ax_iret dX6_reads_30 rfl rfl (k2 c1)
set_option maxRecDepth 20000 in
theorem s_X6_reads_59 {d : Nat} (hd : 0 ≤ d) {Q : Option ax_V → ax_S → Prop} (σ : ax_S) (rr : Int32) (k1 : Q (some (ax_i (if (¬ (¬ rr = (-1 : Int32))) then (1 : Int32) else 0))) σ) : ax_W shC (d + 1) mX6_reads Q 59 [none, none] [ax_i rr] σ := by
  refine ax_iconst (q := 60) dX6_reads_59 rfl ki_m1 ?_
  have K2 : ax_W shC (d + 1) mX6_reads Q 68 [none, none] [ax_i (if (¬ (¬ rr = (-1 : Int32))) then (1 : Int32) else 0)] σ := by
    exact ax_iret dX6_reads_68 rfl (ax_nb _) k1
  refine ax_icmp_ne (tgt := 67) (q := 63) dX6_reads_60 (by decide) rfl (fun c1 => ?_) (fun c1 => ?_)
  · refine ax_iconst (q := 68) dX6_reads_67 rfl ki_0 ?_
    exact ax_cv (if_neg (fun y => y c1)) K2
  · refine ax_iconst (q := 64) dX6_reads_63 rfl ki_1 ?_
    refine ax_goto (tgt := 68) dX6_reads_64 (by decide) ?_
    exact ax_cv (if_pos c1) K2
set_option maxRecDepth 20000 in
theorem s_X6_reads_40 {d : Nat} (hd : 0 ≤ d) {Q : Option ax_V → ax_S → Prop} (σ : ax_S) (x1 : Int32) (rr : Int32) (k1 : (¬ rr = 0) → ax_W shC (d + 1) mX6_reads Q 15 [some (ax_r 3), some (ax_i (x1 + (1 : Int32)))] [] σ) (k2 : (¬ (¬ rr = 0)) → ax_Ct shC d mX9_sign [ax_r 1] (fun r u => ∃ x : Int32, r = some (ax_i x) ∧ ax_W shC (d + 1) mX6_reads Q 59 [none, none] (ax_i x :: []) u) σ) : ax_W shC (d + 1) mX6_reads Q 40 [some (ax_r 3), some (ax_i x1)] [ax_i rr] σ := by
  refine ax_if_ne (tgt := 46) (q := 43) dX6_reads_40 (by decide) rfl (fun c1 => ?_) (fun c1 => ?_)
  · refine ax_iincK (q := 49) (lv2 := [some (ax_r 3), some (ax_i (x1 + (1 : Int32)))]) dX6_reads_46 rfl rfl ki_1 (by decide) rfl rfl ?_
    refine ax_goto (tgt := 15) dX6_reads_49 (by decide) ?_
    exact (k1 c1)
  · refine ax_goto (tgt := 52) dX6_reads_43 (by decide) ?_
    refine ax_aload_n (q := 53) (i := 0) dX6_reads_52 rfl rfl rfl ?_
    refine ax_get (q := 56) (k := 3) (j := 0) (v := ax_r 1) dX6_reads_53 rfl shC_3 rfl rfl rfl (by decide) fl_X6_15 ?_
    refine ax_fg (lv2 := [none, none]) trivial ?_
    exact ax_callVci (q := 59) (As := []) (st := []) dX6_reads_56 rfl lk_X6_36 shC_1 rfl rfl rfl rfl (Nat.le_of_ble_eq_true rfl) (k2 c1)
set_option maxRecDepth 20000 in
theorem s_X7_add_0 {d : Nat} (hd : 0 ≤ d) {Q : Option ax_V → ax_S → Prop} (σ : ax_S)  (h1 : ((σ.1 4 4) < (4 : Int32)) → ¬ ((σ.1 4 4) * (240 : Int32)) < 0) (h2 : ((σ.1 4 4) < (4 : Int32)) → ¬ (σ.1 3 2) < 0) (h3 : ((σ.1 4 4) < (4 : Int32)) → (Int32.toNatClampNeg (0 : Int32)) + (Int32.toNatClampNeg (σ.1 3 2)) ≤ 240) (h4 : ((σ.1 4 4) < (4 : Int32)) → (Int32.toNatClampNeg ((σ.1 4 4) * (240 : Int32))) + (Int32.toNatClampNeg (σ.1 3 2)) ≤ 960) (h5 : ((σ.1 4 4) < (4 : Int32)) → vp_in (σ.1 4 4) 4) (k6 : ((σ.1 4 4) < (4 : Int32)) → Q (some (ax_i (((σ.1 4 4) + (1 : Int32)) - (1 : Int32)))) (ax_ui (ax_ui (ax_uf σ 19 (va_cpy (σ.1 18) (σ.1 19) (Int32.toNatClampNeg (0 : Int32)) (Int32.toNatClampNeg ((σ.1 4 4) * (240 : Int32))) (Int32.toNatClampNeg (σ.1 3 2)))) 20 (Int32.toNatClampNeg (σ.1 4 4)) (σ.1 3 2)) 4 4 ((σ.1 4 4) + (1 : Int32)))) (k7 : (¬ ((σ.1 4 4) < (4 : Int32))) → Q (some (ax_i (-1 : Int32))) σ) : ax_W shC (d + 1) mX7_add Q 0 [some (ax_r 4), some (ax_r 3)] [] σ := by
  refine ax_aload_n (q := 1) (i := 0) dX7_add_0 rfl rfl rfl ?_
  refine ax_get (q := 4) (k := 4) (j := 4) (v := ax_i (σ.1 4 4)) dX7_add_1 rfl shC_4 rfl rfl rfl (by decide) fl_X7_30 ?_
  refine ax_iconst (q := 5) dX7_add_4 rfl ki_4 ?_
  refine ax_icmp_lt (tgt := 10) (q := 8) dX7_add_5 (by decide) rfl (fun c1 => ?_) (fun c1 => ?_)
  · refine ax_aload_n (q := 11) (i := 1) dX7_add_10 rfl rfl rfl ?_
    refine ax_get (q := 14) (k := 3) (j := 1) (v := ax_r 18) dX7_add_11 rfl shC_3 rfl rfl rfl (by decide) fl_X7_33 ?_
    refine ax_iconst (q := 15) dX7_add_14 rfl ki_0 ?_
    refine ax_aload_n (q := 16) (i := 0) dX7_add_15 rfl rfl rfl ?_
    refine ax_get (q := 19) (k := 4) (j := 0) (v := ax_r 19) dX7_add_16 rfl shC_4 rfl rfl rfl (by decide) fl_X7_11 ?_
    refine ax_aload_n (q := 20) (i := 0) dX7_add_19 rfl rfl rfl ?_
    refine ax_get (q := 23) (k := 4) (j := 4) (v := ax_i (σ.1 4 4)) dX7_add_20 rfl shC_4 rfl rfl rfl (by decide) fl_X7_30 ?_
    refine ax_sipush (q := 26) dX7_add_23 rfl ks_240 ?_
    refine ax_imul (q := 27) dX7_add_26 rfl ?_
    refine ax_aload_n (q := 28) (i := 1) dX7_add_27 rfl rfl rfl ?_
    refine ax_get (q := 31) (k := 3) (j := 2) (v := ax_i (σ.1 3 2)) dX7_add_28 rfl shC_3 rfl rfl rfl (by decide) fl_X7_34 ?_
    refine ax_acopy (q := 34) dX7_add_31 rfl mk_X7_37 shC_18 shC_19 (by decide) (h1 c1) (h2 c1) (h3 c1) (h4 c1) (Nat.le_of_ble_eq_true rfl) ?_
    refine ax_aload_n (q := 35) (i := 0) dX7_add_34 rfl rfl rfl ?_
    refine ax_get (q := 38) (k := 4) (j := 1) (v := ax_r 20) dX7_add_35 rfl shC_4 rfl rfl rfl (by decide) fl_X7_17 ?_
    refine ax_aload_n (q := 39) (i := 0) dX7_add_38 rfl rfl rfl ?_
    refine ax_get (q := 42) (k := 4) (j := 4) (v := ax_i (σ.1 4 4)) dX7_add_39 rfl shC_4 rfl rfl rfl (by decide) fl_X7_30 ?_
    refine ax_aload_n (q := 43) (i := 1) dX7_add_42 rfl rfl rfl ?_
    refine ax_get (q := 46) (k := 3) (j := 2) (v := ax_i (σ.1 3 2)) dX7_add_43 rfl shC_3 rfl rfl rfl (by decide) fl_X7_34 ?_
    refine ax_iast (q := 47) (a := (Int32.toNatClampNeg (σ.1 4 4))) dX7_add_46 rfl shC_20 (h5 c1) rfl ?_
    refine ax_aload_n (q := 48) (i := 0) dX7_add_47 rfl rfl rfl ?_
    refine ax_dupr (q := 49) dX7_add_48 rfl ?_
    refine ax_get (q := 52) (k := 4) (j := 4) (v := ax_i (σ.1 4 4)) dX7_add_49 rfl shC_4 rfl rfl rfl (by decide) fl_X7_30 ?_
    refine ax_iconst (q := 53) dX7_add_52 rfl ki_1 ?_
    refine ax_iadd (q := 54) dX7_add_53 rfl ?_
    refine ax_puti (q := 57) (k := 4) (j := 4) dX7_add_54 rfl shC_4 rfl rfl (by decide) fl_X7_30 rfl rfl rfl rfl ?_
    refine ax_aload_n (q := 58) (i := 0) dX7_add_57 rfl rfl rfl ?_
    refine ax_get (q := 61) (k := 4) (j := 4) (v := ax_i ((σ.1 4 4) + (1 : Int32))) dX7_add_58 rfl shC_4 rfl rfl rfl (by decide) fl_X7_30 ?_
    refine ax_iconst (q := 62) dX7_add_61 rfl ki_1 ?_
    refine ax_isub (q := 63) dX7_add_62 rfl ?_
    exact ax_iret dX7_add_63 rfl rfl (k6 c1)
  · refine ax_iconst (q := 9) dX7_add_8 rfl ki_m1 ?_
    exact ax_iret dX7_add_9 rfl rfl (k7 c1)
set_option maxRecDepth 20000 in
theorem s_X7_readBears_0 {d : Nat} (hd : 0 ≤ d) {Q : Option ax_V → ax_S → Prop} (σ : ax_S)  (k1 : ax_W shC (d + 1) mX7_readBears Q 2 [some (ax_r 4), some (ax_i (0 : Int32))] [] σ) : ax_W shC (d + 1) mX7_readBears Q 0 [some (ax_r 4), none] [] σ := by
  refine ax_iconst (q := 1) dX7_readBears_0 rfl ki_0 ?_
  refine ax_istore_n (q := 2) (i := 1) (lv2 := [some (ax_r 4), some (ax_i (0 : Int32))]) dX7_readBears_1 rfl rfl (by decide) rfl rfl ?_
  exact k1
set_option maxRecDepth 20000 in
theorem s_X7_readBears_2 {d : Nat} (hd : 0 ≤ d) {Q : Option ax_V → ax_S → Prop} (σ : ax_S) (x1 : Int32) (k1 : ((σ.1 4 5) < 0) → Q (some (ax_i (0 : Int32))) σ) (k2 : (¬ ((σ.1 4 5) < 0)) → ((σ.1 4 4) ≤ (σ.1 4 5)) → Q (some (ax_i (0 : Int32))) σ) (h3 : (¬ ((σ.1 4 5) < 0)) → (¬ ((σ.1 4 4) ≤ (σ.1 4 5))) → vp_in (σ.1 4 5) 4) (k4 : (¬ ((σ.1 4 5) < 0)) → (¬ ((σ.1 4 4) ≤ (σ.1 4 5))) → ((σ.1 20 (Int32.toNatClampNeg (σ.1 4 5))) ≤ x1) → Q (some (ax_i (0 : Int32))) σ) (h5 : (¬ ((σ.1 4 5) < 0)) → (¬ ((σ.1 4 4) ≤ (σ.1 4 5))) → (¬ ((σ.1 20 (Int32.toNatClampNeg (σ.1 4 5))) ≤ x1)) → vp_in (((σ.1 4 5) * (240 : Int32)) + x1) 960) (k6 : (¬ ((σ.1 4 5) < 0)) → (¬ ((σ.1 4 4) ≤ (σ.1 4 5))) → (¬ ((σ.1 20 (Int32.toNatClampNeg (σ.1 4 5))) ≤ x1)) → (¬ (σ.1 19 (Int32.toNatClampNeg (((σ.1 4 5) * (240 : Int32)) + x1))) = (33 : Int32)) → ax_W shC (d + 1) mX7_readBears Q 2 [some (ax_r 4), some (ax_i (x1 + (1 : Int32)))] [] σ) (k7 : (¬ ((σ.1 4 5) < 0)) → (¬ ((σ.1 4 4) ≤ (σ.1 4 5))) → (¬ ((σ.1 20 (Int32.toNatClampNeg (σ.1 4 5))) ≤ x1)) → (¬ (¬ (σ.1 19 (Int32.toNatClampNeg (((σ.1 4 5) * (240 : Int32)) + x1))) = (33 : Int32))) → Q (some (ax_i (1 : Int32))) σ) : ax_W shC (d + 1) mX7_readBears Q 2 [some (ax_r 4), some (ax_i x1)] [] σ := by
  refine ax_aload_n (q := 3) (i := 0) dX7_readBears_2 rfl rfl rfl ?_
  refine ax_get (q := 6) (k := 4) (j := 5) (v := ax_i (σ.1 4 5)) dX7_readBears_3 rfl shC_4 rfl rfl rfl (by decide) fl_X7_26 ?_
  refine ax_if_lt (tgt := 61) (q := 9) dX7_readBears_6 (by decide) rfl (fun c1 => ?_) (fun c1 => ?_)
  · refine ax_iconst (q := 62) dX7_readBears_61 rfl ki_0 ?_
    exact ax_iret dX7_readBears_62 rfl rfl (k1 c1)
  · refine ax_aload_n (q := 10) (i := 0) dX7_readBears_9 rfl rfl rfl ?_
    refine ax_get (q := 13) (k := 4) (j := 5) (v := ax_i (σ.1 4 5)) dX7_readBears_10 rfl shC_4 rfl rfl rfl (by decide) fl_X7_26 ?_
    refine ax_aload_n (q := 14) (i := 0) dX7_readBears_13 rfl rfl rfl ?_
    refine ax_get (q := 17) (k := 4) (j := 4) (v := ax_i (σ.1 4 4)) dX7_readBears_14 rfl shC_4 rfl rfl rfl (by decide) fl_X7_30 ?_
    refine ax_icmp_ge (tgt := 61) (q := 20) dX7_readBears_17 (by decide) rfl (fun c2 => ?_) (fun c2 => ?_)
    · refine ax_iconst (q := 62) dX7_readBears_61 rfl ki_0 ?_
      exact ax_iret dX7_readBears_62 rfl rfl (k2 c1 c2)
    · refine ax_iload_n (q := 21) (i := 1) dX7_readBears_20 rfl rfl rfl ?_
      refine ax_aload_n (q := 22) (i := 0) dX7_readBears_21 rfl rfl rfl ?_
      refine ax_get (q := 25) (k := 4) (j := 1) (v := ax_r 20) dX7_readBears_22 rfl shC_4 rfl rfl rfl (by decide) fl_X7_17 ?_
      refine ax_aload_n (q := 26) (i := 0) dX7_readBears_25 rfl rfl rfl ?_
      refine ax_get (q := 29) (k := 4) (j := 5) (v := ax_i (σ.1 4 5)) dX7_readBears_26 rfl shC_4 rfl rfl rfl (by decide) fl_X7_26 ?_
      refine ax_iald (q := 30) (a := (Int32.toNatClampNeg (σ.1 4 5))) (v := (σ.1 20 (Int32.toNatClampNeg (σ.1 4 5)))) dX7_readBears_29 rfl shC_20 (h3 c1 c2) rfl rfl ?_
      refine ax_icmp_ge (tgt := 61) (q := 33) dX7_readBears_30 (by decide) rfl (fun c3 => ?_) (fun c3 => ?_)
      · refine ax_iconst (q := 62) dX7_readBears_61 rfl ki_0 ?_
        exact ax_iret dX7_readBears_62 rfl rfl (k4 c1 c2 c3)
      · refine ax_aload_n (q := 34) (i := 0) dX7_readBears_33 rfl rfl rfl ?_
        refine ax_get (q := 37) (k := 4) (j := 0) (v := ax_r 19) dX7_readBears_34 rfl shC_4 rfl rfl rfl (by decide) fl_X7_11 ?_
        refine ax_aload_n (q := 38) (i := 0) dX7_readBears_37 rfl rfl rfl ?_
        refine ax_get (q := 41) (k := 4) (j := 5) (v := ax_i (σ.1 4 5)) dX7_readBears_38 rfl shC_4 rfl rfl rfl (by decide) fl_X7_26 ?_
        refine ax_sipush (q := 44) dX7_readBears_41 rfl ks_240 ?_
        refine ax_imul (q := 45) dX7_readBears_44 rfl ?_
        refine ax_iload_n (q := 46) (i := 1) dX7_readBears_45 rfl rfl rfl ?_
        refine ax_iadd (q := 47) dX7_readBears_46 rfl ?_
        refine ax_iald (q := 48) (a := (Int32.toNatClampNeg (((σ.1 4 5) * (240 : Int32)) + x1))) (v := (σ.1 19 (Int32.toNatClampNeg (((σ.1 4 5) * (240 : Int32)) + x1)))) dX7_readBears_47 rfl shC_19 (h5 c1 c2 c3) rfl rfl ?_
        refine ax_bipush (q := 50) dX7_readBears_48 rfl kb_33 ?_
        refine ax_icmp_ne (tgt := 55) (q := 53) dX7_readBears_50 (by decide) rfl (fun c4 => ?_) (fun c4 => ?_)
        · refine ax_iincK (q := 58) (lv2 := [some (ax_r 4), some (ax_i (x1 + (1 : Int32)))]) dX7_readBears_55 rfl rfl ki_1 (by decide) rfl rfl ?_
          refine ax_goto (tgt := 2) dX7_readBears_58 (by decide) ?_
          exact (k6 c1 c2 c3 c4)
        · refine ax_iconst (q := 54) dX7_readBears_53 rfl ki_1 ?_
          exact ax_iret dX7_readBears_54 rfl rfl (k7 c1 c2 c3 c4)
set_option maxRecDepth 20000 in
theorem f_X7_tell (σ : ax_S) (a0 : Int32) (a1 : Int32) (a2 : Int32) (a3 : Int32) (a4 : Int32) (a5 : Int32) (h1 : vp_in (0 : Int32) 6) (h2 : vp_in (1 : Int32) 6) (h3 : vp_in (2 : Int32) 6) (h4 : vp_in (3 : Int32) 6) (h5 : vp_in (4 : Int32) 6) (h6 : vp_in (5 : Int32) 6) {d : Nat} (hd : 1 ≤ d) : ax_Ct shC d mX7_tell [ax_r 4, ax_i a0, ax_i a1, ax_i a2, ax_i a3, ax_i a4, ax_i a5] (fun r u => r = none ∧ u = (ax_ui (ax_ui (ax_ui (ax_ui (ax_ui (ax_ui σ 21 0 a0) 21 1 a1) 21 2 a2) 21 3 a3) 21 4 a4) 21 5 a5)) σ := by
  obtain ⟨d, rfl⟩ : ∃ e, d = e + 1 := ⟨d - 1, by omega⟩
  refine ax_Ct.of (lv := [some (ax_r 4), some (ax_i a0), some (ax_i a1), some (ax_i a2), some (ax_i a3), some (ax_i a4), some (ax_i a5)]) (by decide +kernel) (fun ad => Nat.le_of_ble_eq_true rfl) (fun ad => rfl) ?_
  refine ax_aload_n (q := 1) (i := 0) dX7_tell_0 rfl rfl rfl ?_
  refine ax_get (q := 4) (k := 4) (j := 2) (v := ax_r 21) dX7_tell_1 rfl shC_4 rfl rfl rfl (by decide) fl_X7_20 ?_
  refine ax_iconst (q := 5) dX7_tell_4 rfl ki_0 ?_
  refine ax_iload_n (q := 6) (i := 1) dX7_tell_5 rfl rfl rfl ?_
  refine ax_iast (q := 7) (a := 0) dX7_tell_6 rfl shC_21 h1 rfl ?_
  refine ax_aload_n (q := 8) (i := 0) dX7_tell_7 rfl rfl rfl ?_
  refine ax_get (q := 11) (k := 4) (j := 2) (v := ax_r 21) dX7_tell_8 rfl shC_4 rfl rfl rfl (by decide) fl_X7_20 ?_
  refine ax_iconst (q := 12) dX7_tell_11 rfl ki_1 ?_
  refine ax_iload_n (q := 13) (i := 2) dX7_tell_12 rfl rfl rfl ?_
  refine ax_iast (q := 14) (a := 1) dX7_tell_13 rfl shC_21 h2 rfl ?_
  refine ax_aload_n (q := 15) (i := 0) dX7_tell_14 rfl rfl rfl ?_
  refine ax_get (q := 18) (k := 4) (j := 2) (v := ax_r 21) dX7_tell_15 rfl shC_4 rfl rfl rfl (by decide) fl_X7_20 ?_
  refine ax_iconst (q := 19) dX7_tell_18 rfl ki_2 ?_
  refine ax_iload_n (q := 20) (i := 3) dX7_tell_19 rfl rfl rfl ?_
  refine ax_iast (q := 21) (a := 2) dX7_tell_20 rfl shC_21 h3 rfl ?_
  refine ax_aload_n (q := 22) (i := 0) dX7_tell_21 rfl rfl rfl ?_
  refine ax_get (q := 25) (k := 4) (j := 2) (v := ax_r 21) dX7_tell_22 rfl shC_4 rfl rfl rfl (by decide) fl_X7_20 ?_
  refine ax_iconst (q := 26) dX7_tell_25 rfl ki_3 ?_
  refine ax_iload (q := 28) dX7_tell_26 rfl rfl ?_
  refine ax_iast (q := 29) (a := 3) dX7_tell_28 rfl shC_21 h4 rfl ?_
  refine ax_aload_n (q := 30) (i := 0) dX7_tell_29 rfl rfl rfl ?_
  refine ax_get (q := 33) (k := 4) (j := 2) (v := ax_r 21) dX7_tell_30 rfl shC_4 rfl rfl rfl (by decide) fl_X7_20 ?_
  refine ax_iconst (q := 34) dX7_tell_33 rfl ki_4 ?_
  refine ax_iload (q := 36) dX7_tell_34 rfl rfl ?_
  refine ax_iast (q := 37) (a := 4) dX7_tell_36 rfl shC_21 h5 rfl ?_
  refine ax_aload_n (q := 38) (i := 0) dX7_tell_37 rfl rfl rfl ?_
  refine ax_get (q := 41) (k := 4) (j := 2) (v := ax_r 21) dX7_tell_38 rfl shC_4 rfl rfl rfl (by decide) fl_X7_20 ?_
  refine ax_iconst (q := 42) dX7_tell_41 rfl ki_5 ?_
  refine ax_iload (q := 44) dX7_tell_42 rfl rfl ?_
  refine ax_iast (q := 45) (a := 5) dX7_tell_44 rfl shC_21 h6 rfl ?_
  exact ax_vret dX7_tell_45 rfl ⟨rfl, rfl⟩
