set_option maxRecDepth 20000 in
theorem s_X11_standingAfresh_0 {d : Nat} (hd : 0 ≤ d) {Q : Option ax_V → ax_S → Prop} (σ : ax_S) (a0 : Int32) (a1 : Int32) (k1 : ax_Ct shC d mX0_live [ax_r 5] (fun r u => ∃ x : Int32, r = some (ax_i x) ∧ ax_W shC (d + 1) mX11_standingAfresh Q 7 [some (ax_r 0), some (ax_i a0), some (ax_i a1), none, none, none, none] (ax_i x :: []) u) σ) : ax_W shC (d + 1) mX11_standingAfresh Q 0 [some (ax_r 0), some (ax_i a0), some (ax_i a1), none, none, none, none] [] σ := by
  refine ax_aload_n (q := 1) (i := 0) dX11_standingAfresh_0 rfl rfl rfl ?_
  refine ax_get (q := 4) (k := 0) (j := 4) (v := ax_r 5) dX11_standingAfresh_1 rfl shC_0 rfl rfl rfl (by decide) fl_X11_42 ?_
  exact ax_callVci (q := 7) (As := []) (st := []) dX11_standingAfresh_4 rfl lk_X11_185 shC_5 rfl rfl rfl rfl (Nat.le_of_ble_eq_true rfl) k1
set_option maxRecDepth 20000 in
theorem s_X11_standingAfresh_7 {d : Nat} (hd : 0 ≤ d) {Q : Option ax_V → ax_S → Prop} (σ : ax_S) (x1 : Int32) (x2 : Int32) (rr : Int32) (k1 : ax_W shC (d + 1) mX11_standingAfresh Q 14 [some (ax_r 0), some (ax_i x1), some (ax_i x2), some (ax_i rr), some (ax_i x1), some (ax_i (0 : Int32)), none] [] σ) : ax_W shC (d + 1) mX11_standingAfresh Q 7 [some (ax_r 0), some (ax_i x1), some (ax_i x2), none, none, none, none] [ax_i rr] σ := by
  refine ax_istore_n (q := 8) (i := 3) (lv2 := [some (ax_r 0), some (ax_i x1), some (ax_i x2), some (ax_i rr), none, none, none]) dX11_standingAfresh_7 rfl rfl (by decide) rfl rfl ?_
  refine ax_iload_n (q := 9) (i := 1) dX11_standingAfresh_8 rfl rfl rfl ?_
  refine ax_istore (q := 11) (lv2 := [some (ax_r 0), some (ax_i x1), some (ax_i x2), some (ax_i rr), some (ax_i x1), none, none]) dX11_standingAfresh_9 rfl (by decide) rfl rfl ?_
  refine ax_iconst (q := 12) dX11_standingAfresh_11 rfl ki_0 ?_
  refine ax_istore (q := 14) (lv2 := [some (ax_r 0), some (ax_i x1), some (ax_i x2), some (ax_i rr), some (ax_i x1), some (ax_i (0 : Int32)), none]) dX11_standingAfresh_12 rfl (by decide) rfl rfl ?_
  exact k1
set_option maxRecDepth 20000 in
theorem s_X11_standingAfresh_14 {d : Nat} (hd : 1 ≤ d) {Q : Option ax_V → ax_S → Prop} (σ : ax_S) (x1 : Int32) (x2 : Int32) (x3 : Int32) (x4 : Int32) (x5 : Int32) (k1 : ((σ.1 5 9) ≤ x5) → Q (some (ax_i x4)) σ) (h2 : (¬ ((σ.1 5 9) ≤ x5)) → (¬ ((x1 >>> (x5 &&& 31)) &&& (1 : Int32)) = 0) → vp_in x5 8) (k3 : (¬ ((σ.1 5 9) ≤ x5)) → (¬ ((x1 >>> (x5 &&& 31)) &&& (1 : Int32)) = 0) → ax_Ct shC d mX11_weakestBy [ax_r 0, ax_i x3, ax_i x2] (fun r u => ∃ x : Int32, r = some (ax_i x) ∧ ax_W shC (d + 1) mX11_standingAfresh Q 75 [some (ax_r 0), some (ax_i x1), some (ax_i x2), some (ax_i x3), some (ax_i x4), some (ax_i x5), some (ax_i (σ.1 25 (Int32.toNatClampNeg x5)))] (ax_i x :: []) u) (ax_ui σ 25 (Int32.toNatClampNeg x5) (if ((σ.1 25 (Int32.toNatClampNeg x5)) + (10 : Int32)) < (99 : Int32) then ((σ.1 25 (Int32.toNatClampNeg x5)) + (10 : Int32)) else (99 : Int32)))) (k4 : (¬ ((σ.1 5 9) ≤ x5)) → (¬ (¬ ((x1 >>> (x5 &&& 31)) &&& (1 : Int32)) = 0)) → ax_W shC (d + 1) mX11_standingAfresh Q 14 [some (ax_r 0), some (ax_i x1), some (ax_i x2), some (ax_i x3), some (ax_i x4), some (ax_i (x5 + (1 : Int32))), none] [] σ) : ax_W shC (d + 1) mX11_standingAfresh Q 14 [some (ax_r 0), some (ax_i x1), some (ax_i x2), some (ax_i x3), some (ax_i x4), some (ax_i x5), none] [] σ := by
  refine ax_iload (q := 16) dX11_standingAfresh_14 rfl rfl ?_
  refine ax_aload_n (q := 17) (i := 0) dX11_standingAfresh_16 rfl rfl rfl ?_
  refine ax_get (q := 20) (k := 0) (j := 4) (v := ax_r 5) dX11_standingAfresh_17 rfl shC_0 rfl rfl rfl (by decide) fl_X11_42 ?_
  refine ax_get (q := 23) (k := 5) (j := 9) (v := ax_i (σ.1 5 9)) dX11_standingAfresh_20 rfl shC_5 rfl rfl rfl (by decide) fl_X11_154 ?_
  refine ax_icmp_ge (tgt := 108) (q := 26) dX11_standingAfresh_23 (by decide) rfl (fun c1 => ?_) (fun c1 => ?_)
  · refine ax_iload (q := 110) dX11_standingAfresh_108 rfl rfl ?_
    exact ax_iret dX11_standingAfresh_110 rfl rfl (k1 c1)
  · refine ax_iload_n (q := 27) (i := 1) dX11_standingAfresh_26 rfl rfl rfl ?_
    refine ax_iload (q := 29) dX11_standingAfresh_27 rfl rfl ?_
    refine ax_callSfi (q := 32) (As := [ax_i x1, ax_i x5]) (st := []) (x := ((x1 >>> (x5 &&& 31)) &&& (1 : Int32))) (σ2 := σ) dX11_standingAfresh_29 rfl lk_X11_215 rfl rfl (Nat.le_of_ble_eq_true rfl) (f_X11_bitOf (sh := shC) σ x1 x5  (d := d) (by omega)) ?_
    refine ax_if_ne (tgt := 38) (q := 35) dX11_standingAfresh_32 (by decide) rfl (fun c2 => ?_) (fun c2 => ?_)
    · refine ax_aload_n (q := 39) (i := 0) dX11_standingAfresh_38 rfl rfl rfl ?_
      refine ax_get (q := 42) (k := 0) (j := 4) (v := ax_r 5) dX11_standingAfresh_39 rfl shC_0 rfl rfl rfl (by decide) fl_X11_42 ?_
      refine ax_get (q := 45) (k := 5) (j := 2) (v := ax_r 25) dX11_standingAfresh_42 rfl shC_5 rfl rfl rfl (by decide) fl_X11_176 ?_
      refine ax_iload (q := 47) dX11_standingAfresh_45 rfl rfl ?_
      refine ax_iald (q := 48) (a := (Int32.toNatClampNeg x5)) (v := (σ.1 25 (Int32.toNatClampNeg x5))) dX11_standingAfresh_47 rfl shC_25 (h2 c1 c2) rfl rfl ?_
      refine ax_istore (q := 50) (lv2 := [some (ax_r 0), some (ax_i x1), some (ax_i x2), some (ax_i x3), some (ax_i x4), some (ax_i x5), some (ax_i (σ.1 25 (Int32.toNatClampNeg x5)))]) dX11_standingAfresh_48 rfl (by decide) rfl rfl ?_
      refine ax_aload_n (q := 51) (i := 0) dX11_standingAfresh_50 rfl rfl rfl ?_
      refine ax_get (q := 54) (k := 0) (j := 4) (v := ax_r 5) dX11_standingAfresh_51 rfl shC_0 rfl rfl rfl (by decide) fl_X11_42 ?_
      refine ax_get (q := 57) (k := 5) (j := 2) (v := ax_r 25) dX11_standingAfresh_54 rfl shC_5 rfl rfl rfl (by decide) fl_X11_176 ?_
      refine ax_iload (q := 59) dX11_standingAfresh_57 rfl rfl ?_
      refine ax_aload_n (q := 60) (i := 0) dX11_standingAfresh_59 rfl rfl rfl ?_
      refine ax_get (q := 63) (k := 0) (j := 4) (v := ax_r 5) dX11_standingAfresh_60 rfl shC_0 rfl rfl rfl (by decide) fl_X11_42 ?_
      refine ax_iload (q := 65) dX11_standingAfresh_63 rfl rfl ?_
      refine ax_callVfi (q := 68) (As := [ax_i x5]) (st := [ax_i x5, ax_r 25]) (x := (if ((σ.1 25 (Int32.toNatClampNeg x5)) + (10 : Int32)) < (99 : Int32) then ((σ.1 25 (Int32.toNatClampNeg x5)) + (10 : Int32)) else (99 : Int32))) (σ2 := σ) dX11_standingAfresh_65 rfl lk_X11_271 shC_5 rfl rfl rfl rfl (Nat.le_of_ble_eq_true rfl) (f_X0_bearsEarthed σ x5 (h2 c1 c2) (d := d) (by omega)) ?_
      refine ax_iast (q := 69) (a := (Int32.toNatClampNeg x5)) dX11_standingAfresh_68 rfl shC_25 (h2 c1 c2) rfl ?_
      refine ax_aload_n (q := 70) (i := 0) dX11_standingAfresh_69 rfl rfl rfl ?_
      refine ax_iload_n (q := 71) (i := 3) dX11_standingAfresh_70 rfl rfl rfl ?_
      refine ax_iload_n (q := 72) (i := 2) dX11_standingAfresh_71 rfl rfl rfl ?_
      exact ax_callVci (q := 75) (As := [ax_i x3, ax_i x2]) (st := []) dX11_standingAfresh_72 rfl lk_X11_342 shC_0 rfl rfl rfl rfl (Nat.le_of_ble_eq_true rfl) (k3 c1 c2)
    · refine ax_goto (tgt := 102) dX11_standingAfresh_35 (by decide) ?_
      refine ax_iincK (q := 105) (lv2 := [some (ax_r 0), some (ax_i x1), some (ax_i x2), some (ax_i x3), some (ax_i x4), some (ax_i (x5 + (1 : Int32))), none]) dX11_standingAfresh_102 rfl rfl ki_1 (by decide) rfl rfl ?_
      refine ax_goto (tgt := 14) dX11_standingAfresh_105 (by decide) ?_
      exact (k4 c1 c2)
set_option maxRecDepth 20000 in
theorem s_X11_standingAfresh_75 {d : Nat} (hd : 0 ≤ d) {Q : Option ax_V → ax_S → Prop} (σ : ax_S) (x1 : Int32) (x2 : Int32) (x3 : Int32) (x4 : Int32) (x5 : Int32) (x6 : Int32) (rr : Int32) (h1 : (rr = (-1 : Int32)) → vp_in x5 8) (k2 : (rr = (-1 : Int32)) → ax_W shC (d + 1) mX11_standingAfresh Q 14 [some (ax_r 0), some (ax_i x1), some (ax_i x2), some (ax_i x3), some (ax_i x4), some (ax_i (x5 + (1 : Int32))), none] [] (ax_ui σ 25 (Int32.toNatClampNeg x5) x6)) (h3 : (¬ (rr = (-1 : Int32))) → vp_in x5 8) (k4 : (¬ (rr = (-1 : Int32))) → ax_W shC (d + 1) mX11_standingAfresh Q 14 [some (ax_r 0), some (ax_i x1), some (ax_i x2), some (ax_i x3), some (ax_i (x4 &&& (((1 : Int32) <<< (x5 &&& 31)) ^^^ (-1 : Int32)))), some (ax_i (x5 + (1 : Int32))), none] [] (ax_ui σ 25 (Int32.toNatClampNeg x5) x6)) : ax_W shC (d + 1) mX11_standingAfresh Q 75 [some (ax_r 0), some (ax_i x1), some (ax_i x2), some (ax_i x3), some (ax_i x4), some (ax_i x5), some (ax_i x6)] [ax_i rr] σ := by
  refine ax_iconst (q := 76) dX11_standingAfresh_75 rfl ki_m1 ?_
  refine ax_icmp_eq (tgt := 90) (q := 79) dX11_standingAfresh_76 (by decide) rfl (fun c1 => ?_) (fun c1 => ?_)
  · refine ax_aload_n (q := 91) (i := 0) dX11_standingAfresh_90 rfl rfl rfl ?_
    refine ax_get (q := 94) (k := 0) (j := 4) (v := ax_r 5) dX11_standingAfresh_91 rfl shC_0 rfl rfl rfl (by decide) fl_X11_42 ?_
    refine ax_get (q := 97) (k := 5) (j := 2) (v := ax_r 25) dX11_standingAfresh_94 rfl shC_5 rfl rfl rfl (by decide) fl_X11_176 ?_
    refine ax_iload (q := 99) dX11_standingAfresh_97 rfl rfl ?_
    refine ax_iload (q := 101) dX11_standingAfresh_99 rfl rfl ?_
    refine ax_iast (q := 102) (a := (Int32.toNatClampNeg x5)) dX11_standingAfresh_101 rfl shC_25 (h1 c1) rfl ?_
    refine ax_iincK (q := 105) (lv2 := [some (ax_r 0), some (ax_i x1), some (ax_i x2), some (ax_i x3), some (ax_i x4), some (ax_i (x5 + (1 : Int32))), some (ax_i x6)]) dX11_standingAfresh_102 rfl rfl ki_1 (by decide) rfl rfl ?_
    refine ax_goto (tgt := 14) dX11_standingAfresh_105 (by decide) ?_
    refine ax_fg (lv2 := [some (ax_r 0), some (ax_i x1), some (ax_i x2), some (ax_i x3), some (ax_i x4), some (ax_i (x5 + (1 : Int32))), none]) ⟨rfl, rfl, rfl, rfl, rfl, rfl, trivial⟩ ?_
    exact (k2 c1)
  · refine ax_iload (q := 81) dX11_standingAfresh_79 rfl rfl ?_
    refine ax_iconst (q := 82) dX11_standingAfresh_81 rfl ki_1 ?_
    refine ax_iload (q := 84) dX11_standingAfresh_82 rfl rfl ?_
    refine ax_ishl (q := 85) dX11_standingAfresh_84 rfl ?_
    refine ax_iconst (q := 86) dX11_standingAfresh_85 rfl ki_m1 ?_
    refine ax_ixor (q := 87) dX11_standingAfresh_86 rfl ?_
    refine ax_iand (q := 88) dX11_standingAfresh_87 rfl ?_
    refine ax_istore (q := 90) (lv2 := [some (ax_r 0), some (ax_i x1), some (ax_i x2), some (ax_i x3), some (ax_i (x4 &&& (((1 : Int32) <<< (x5 &&& 31)) ^^^ (-1 : Int32)))), some (ax_i x5), some (ax_i x6)]) dX11_standingAfresh_88 rfl (by decide) rfl rfl ?_
    refine ax_aload_n (q := 91) (i := 0) dX11_standingAfresh_90 rfl rfl rfl ?_
    refine ax_get (q := 94) (k := 0) (j := 4) (v := ax_r 5) dX11_standingAfresh_91 rfl shC_0 rfl rfl rfl (by decide) fl_X11_42 ?_
    refine ax_get (q := 97) (k := 5) (j := 2) (v := ax_r 25) dX11_standingAfresh_94 rfl shC_5 rfl rfl rfl (by decide) fl_X11_176 ?_
    refine ax_iload (q := 99) dX11_standingAfresh_97 rfl rfl ?_
    refine ax_iload (q := 101) dX11_standingAfresh_99 rfl rfl ?_
    refine ax_iast (q := 102) (a := (Int32.toNatClampNeg x5)) dX11_standingAfresh_101 rfl shC_25 (h3 c1) rfl ?_
    refine ax_iincK (q := 105) (lv2 := [some (ax_r 0), some (ax_i x1), some (ax_i x2), some (ax_i x3), some (ax_i (x4 &&& (((1 : Int32) <<< (x5 &&& 31)) ^^^ (-1 : Int32)))), some (ax_i (x5 + (1 : Int32))), some (ax_i x6)]) dX11_standingAfresh_102 rfl rfl ki_1 (by decide) rfl rfl ?_
    refine ax_goto (tgt := 14) dX11_standingAfresh_105 (by decide) ?_
    refine ax_fg (lv2 := [some (ax_r 0), some (ax_i x1), some (ax_i x2), some (ax_i x3), some (ax_i (x4 &&& (((1 : Int32) <<< (x5 &&& 31)) ^^^ (-1 : Int32)))), some (ax_i (x5 + (1 : Int32))), none]) ⟨rfl, rfl, rfl, rfl, rfl, rfl, trivial⟩ ?_
    exact (k4 c1)
set_option maxRecDepth 20000 in
theorem s_X11_standingAlike_0 {d : Nat} (hd : 0 ≤ d) {Q : Option ax_V → ax_S → Prop} (σ : ax_S) (a0 : Int32) (a1 : Int32) (k1 : ax_Ct shC d mX0_live [ax_r 5] (fun r u => ∃ x : Int32, r = some (ax_i x) ∧ ax_W shC (d + 1) mX11_standingAlike Q 7 [some (ax_r 0), some (ax_i a0), some (ax_i a1), none, none, none, none, none] (ax_i x :: []) u) σ) : ax_W shC (d + 1) mX11_standingAlike Q 0 [some (ax_r 0), some (ax_i a0), some (ax_i a1), none, none, none, none, none] [] σ := by
  refine ax_aload_n (q := 1) (i := 0) dX11_standingAlike_0 rfl rfl rfl ?_
  refine ax_get (q := 4) (k := 0) (j := 4) (v := ax_r 5) dX11_standingAlike_1 rfl shC_0 rfl rfl rfl (by decide) fl_X11_42 ?_
  exact ax_callVci (q := 7) (As := []) (st := []) dX11_standingAlike_4 rfl lk_X11_185 shC_5 rfl rfl rfl rfl (Nat.le_of_ble_eq_true rfl) k1
set_option maxRecDepth 20000 in
theorem s_X11_standingAlike_7 {d : Nat} (hd : 0 ≤ d) {Q : Option ax_V → ax_S → Prop} (σ : ax_S) (x1 : Int32) (x2 : Int32) (rr : Int32) (k1 : ax_W shC (d + 1) mX11_standingAlike Q 14 [some (ax_r 0), none, some (ax_i x2), some (ax_i rr), some (ax_i x1), some (ax_i (0 : Int32)), none, none] [] σ) : ax_W shC (d + 1) mX11_standingAlike Q 7 [some (ax_r 0), some (ax_i x1), some (ax_i x2), none, none, none, none, none] [ax_i rr] σ := by
  refine ax_istore_n (q := 8) (i := 3) (lv2 := [some (ax_r 0), some (ax_i x1), some (ax_i x2), some (ax_i rr), none, none, none, none]) dX11_standingAlike_7 rfl rfl (by decide) rfl rfl ?_
  refine ax_iload_n (q := 9) (i := 1) dX11_standingAlike_8 rfl rfl rfl ?_
  refine ax_istore (q := 11) (lv2 := [some (ax_r 0), some (ax_i x1), some (ax_i x2), some (ax_i rr), some (ax_i x1), none, none, none]) dX11_standingAlike_9 rfl (by decide) rfl rfl ?_
  refine ax_iconst (q := 12) dX11_standingAlike_11 rfl ki_0 ?_
  refine ax_istore (q := 14) (lv2 := [some (ax_r 0), some (ax_i x1), some (ax_i x2), some (ax_i rr), some (ax_i x1), some (ax_i (0 : Int32)), none, none]) dX11_standingAlike_12 rfl (by decide) rfl rfl ?_
  refine ax_fg (lv2 := [some (ax_r 0), none, some (ax_i x2), some (ax_i rr), some (ax_i x1), some (ax_i (0 : Int32)), none, none]) ⟨rfl, rfl, rfl, rfl, rfl, trivial⟩ ?_
  exact k1
set_option maxRecDepth 20000 in
theorem s_X11_standingAlike_14 {d : Nat} (hd : 0 ≤ d) {Q : Option ax_V → ax_S → Prop} (σ : ax_S) (x2 : Int32) (x3 : Int32) (x4 : Int32) (x5 : Int32) (k1 : ((σ.1 5 9) ≤ x5) → Q (some (ax_i x4)) σ) (k2 : (¬ ((σ.1 5 9) ≤ x5)) → (x4 = 0) → Q (some (ax_i x4)) σ) (k3 : (¬ ((σ.1 5 9) ≤ x5)) → (¬ (x4 = 0)) → ax_Ct shC d mX8_fall [ax_r 6, ax_i x3, ax_i x5, ax_i x2] (fun r u => ∃ x : Int32, r = some (ax_i x) ∧ ax_W shC (d + 1) mX11_standingAlike Q 42 [some (ax_r 0), none, some (ax_i x2), some (ax_i x3), some (ax_i x4), some (ax_i x5), none, none] (ax_i x :: []) u) σ) : ax_W shC (d + 1) mX11_standingAlike Q 14 [some (ax_r 0), none, some (ax_i x2), some (ax_i x3), some (ax_i x4), some (ax_i x5), none, none] [] σ := by
  refine ax_iload (q := 16) dX11_standingAlike_14 rfl rfl ?_
  refine ax_aload_n (q := 17) (i := 0) dX11_standingAlike_16 rfl rfl rfl ?_
  refine ax_get (q := 20) (k := 0) (j := 4) (v := ax_r 5) dX11_standingAlike_17 rfl shC_0 rfl rfl rfl (by decide) fl_X11_42 ?_
  refine ax_get (q := 23) (k := 5) (j := 9) (v := ax_i (σ.1 5 9)) dX11_standingAlike_20 rfl shC_5 rfl rfl rfl (by decide) fl_X11_154 ?_
  refine ax_icmp_ge (tgt := 118) (q := 26) dX11_standingAlike_23 (by decide) rfl (fun c1 => ?_) (fun c1 => ?_)
  · refine ax_iload (q := 120) dX11_standingAlike_118 rfl rfl ?_
    exact ax_iret dX11_standingAlike_120 rfl rfl (k1 c1)
  · refine ax_iload (q := 28) dX11_standingAlike_26 rfl rfl ?_
    refine ax_if_eq (tgt := 118) (q := 31) dX11_standingAlike_28 (by decide) rfl (fun c2 => ?_) (fun c2 => ?_)
    · refine ax_iload (q := 120) dX11_standingAlike_118 rfl rfl ?_
      exact ax_iret dX11_standingAlike_120 rfl rfl (k2 c1 c2)
    · refine ax_aload_n (q := 32) (i := 0) dX11_standingAlike_31 rfl rfl rfl ?_
      refine ax_get (q := 35) (k := 0) (j := 5) (v := ax_r 6) dX11_standingAlike_32 rfl shC_0 rfl rfl rfl (by decide) fl_X11_51 ?_
      refine ax_iload_n (q := 36) (i := 3) dX11_standingAlike_35 rfl rfl rfl ?_
      refine ax_iload (q := 38) dX11_standingAlike_36 rfl rfl ?_
      refine ax_iload_n (q := 39) (i := 2) dX11_standingAlike_38 rfl rfl rfl ?_
      exact ax_callVci (q := 42) (As := [ax_i x3, ax_i x5, ax_i x2]) (st := []) dX11_standingAlike_39 rfl lk_X11_311 shC_6 rfl rfl rfl rfl (Nat.le_of_ble_eq_true rfl) (k3 c1 c2)
set_option maxRecDepth 20000 in
theorem s_X11_standingAlike_42 {d : Nat} (hd : 0 ≤ d) {Q : Option ax_V → ax_S → Prop} (σ : ax_S) (x2 : Int32) (x3 : Int32) (x4 : Int32) (x5 : Int32) (rr : Int32) (k1 : ax_W shC (d + 1) mX11_standingAlike Q 47 [some (ax_r 0), none, some (ax_i x2), some (ax_i x3), some (ax_i x4), some (ax_i x5), some (ax_i rr), some (ax_i (0 : Int32))] [] σ) : ax_W shC (d + 1) mX11_standingAlike Q 42 [some (ax_r 0), none, some (ax_i x2), some (ax_i x3), some (ax_i x4), some (ax_i x5), none, none] [ax_i rr] σ := by
  refine ax_istore (q := 44) (lv2 := [some (ax_r 0), none, some (ax_i x2), some (ax_i x3), some (ax_i x4), some (ax_i x5), some (ax_i rr), none]) dX11_standingAlike_42 rfl (by decide) rfl rfl ?_
  refine ax_iconst (q := 45) dX11_standingAlike_44 rfl ki_0 ?_
  refine ax_istore (q := 47) (lv2 := [some (ax_r 0), none, some (ax_i x2), some (ax_i x3), some (ax_i x4), some (ax_i x5), some (ax_i rr), some (ax_i (0 : Int32))]) dX11_standingAlike_45 rfl (by decide) rfl rfl ?_
  exact k1
set_option maxRecDepth 20000 in
theorem s_X11_standingAlike_47 {d : Nat} (hd : 1 ≤ d) {Q : Option ax_V → ax_S → Prop} (σ : ax_S) (x2 : Int32) (x3 : Int32) (x4 : Int32) (x5 : Int32) (x6 : Int32) (x7 : Int32) (k1 : ((σ.1 5 9) ≤ x7) → ax_W shC (d + 1) mX11_standingAlike Q 14 [some (ax_r 0), none, some (ax_i x2), some (ax_i x3), some (ax_i x4), some (ax_i (x5 + (1 : Int32))), none, none] [] σ) (k2 : (¬ ((σ.1 5 9) ≤ x7)) → (x6 = 0) → ax_W shC (d + 1) mX11_standingAlike Q 14 [some (ax_r 0), none, some (ax_i x2), some (ax_i x3), some (ax_i x4), some (ax_i (x5 + (1 : Int32))), none, none] [] σ) (k3 : (¬ ((σ.1 5 9) ≤ x7)) → (¬ (x6 = 0)) → (¬ x6 = ((1 : Int32) <<< (x7 &&& 31))) → ax_W shC (d + 1) mX11_standingAlike Q 47 [some (ax_r 0), none, some (ax_i x2), some (ax_i x3), some (ax_i (x4 &&& (((1 : Int32) <<< (x7 &&& 31)) ^^^ (-1 : Int32)))), some (ax_i x5), some (ax_i x6), some (ax_i (x7 + (1 : Int32)))] [] σ) (h4 : (¬ ((σ.1 5 9) ≤ x7)) → (¬ (x6 = 0)) → (¬ (¬ x6 = ((1 : Int32) <<< (x7 &&& 31)))) → vp_in x7 8) (k5 : (¬ ((σ.1 5 9) ≤ x7)) → (¬ (x6 = 0)) → (¬ (¬ x6 = ((1 : Int32) <<< (x7 &&& 31)))) → ((σ.1 32 (Int32.toNatClampNeg x7)) ≤ (if ((σ.1 25 (Int32.toNatClampNeg x7)) + (10 : Int32)) < (99 : Int32) then ((σ.1 25 (Int32.toNatClampNeg x7)) + (10 : Int32)) else (99 : Int32))) → ax_W shC (d + 1) mX11_standingAlike Q 47 [some (ax_r 0), none, some (ax_i x2), some (ax_i x3), some (ax_i x4), some (ax_i x5), some (ax_i x6), some (ax_i (x7 + (1 : Int32)))] [] σ) (k6 : (¬ ((σ.1 5 9) ≤ x7)) → (¬ (x6 = 0)) → (¬ (¬ x6 = ((1 : Int32) <<< (x7 &&& 31)))) → (¬ ((σ.1 32 (Int32.toNatClampNeg x7)) ≤ (if ((σ.1 25 (Int32.toNatClampNeg x7)) + (10 : Int32)) < (99 : Int32) then ((σ.1 25 (Int32.toNatClampNeg x7)) + (10 : Int32)) else (99 : Int32)))) → ax_W shC (d + 1) mX11_standingAlike Q 47 [some (ax_r 0), none, some (ax_i x2), some (ax_i x3), some (ax_i (x4 &&& (((1 : Int32) <<< (x7 &&& 31)) ^^^ (-1 : Int32)))), some (ax_i x5), some (ax_i x6), some (ax_i (x7 + (1 : Int32)))] [] σ) : ax_W shC (d + 1) mX11_standingAlike Q 47 [some (ax_r 0), none, some (ax_i x2), some (ax_i x3), some (ax_i x4), some (ax_i x5), some (ax_i x6), some (ax_i x7)] [] σ := by
  refine ax_iload (q := 49) dX11_standingAlike_47 rfl rfl ?_
  refine ax_aload_n (q := 50) (i := 0) dX11_standingAlike_49 rfl rfl rfl ?_
  refine ax_get (q := 53) (k := 0) (j := 4) (v := ax_r 5) dX11_standingAlike_50 rfl shC_0 rfl rfl rfl (by decide) fl_X11_42 ?_
  refine ax_get (q := 56) (k := 5) (j := 9) (v := ax_i (σ.1 5 9)) dX11_standingAlike_53 rfl shC_5 rfl rfl rfl (by decide) fl_X11_154 ?_
  refine ax_icmp_ge (tgt := 112) (q := 59) dX11_standingAlike_56 (by decide) rfl (fun c1 => ?_) (fun c1 => ?_)
  · refine ax_iincK (q := 115) (lv2 := [some (ax_r 0), none, some (ax_i x2), some (ax_i x3), some (ax_i x4), some (ax_i (x5 + (1 : Int32))), some (ax_i x6), some (ax_i x7)]) dX11_standingAlike_112 rfl rfl ki_1 (by decide) rfl rfl ?_
    refine ax_goto (tgt := 14) dX11_standingAlike_115 (by decide) ?_
    refine ax_fg (lv2 := [some (ax_r 0), none, some (ax_i x2), some (ax_i x3), some (ax_i x4), some (ax_i (x5 + (1 : Int32))), none, none]) ⟨rfl, rfl, rfl, rfl, rfl, trivial⟩ ?_
    exact (k1 c1)
  · refine ax_iload (q := 61) dX11_standingAlike_59 rfl rfl ?_
    refine ax_if_eq (tgt := 112) (q := 64) dX11_standingAlike_61 (by decide) rfl (fun c2 => ?_) (fun c2 => ?_)
    · refine ax_iincK (q := 115) (lv2 := [some (ax_r 0), none, some (ax_i x2), some (ax_i x3), some (ax_i x4), some (ax_i (x5 + (1 : Int32))), some (ax_i x6), some (ax_i x7)]) dX11_standingAlike_112 rfl rfl ki_1 (by decide) rfl rfl ?_
      refine ax_goto (tgt := 14) dX11_standingAlike_115 (by decide) ?_
      refine ax_fg (lv2 := [some (ax_r 0), none, some (ax_i x2), some (ax_i x3), some (ax_i x4), some (ax_i (x5 + (1 : Int32))), none, none]) ⟨rfl, rfl, rfl, rfl, rfl, trivial⟩ ?_
      exact (k2 c1 c2)
    · refine ax_iload (q := 66) dX11_standingAlike_64 rfl rfl ?_
      refine ax_iconst (q := 67) dX11_standingAlike_66 rfl ki_1 ?_
      refine ax_iload (q := 69) dX11_standingAlike_67 rfl rfl ?_
      refine ax_ishl (q := 70) dX11_standingAlike_69 rfl ?_
      refine ax_icmp_ne (tgt := 95) (q := 73) dX11_standingAlike_70 (by decide) rfl (fun c3 => ?_) (fun c3 => ?_)
      · refine ax_iload (q := 97) dX11_standingAlike_95 rfl rfl ?_
        refine ax_iconst (q := 98) dX11_standingAlike_97 rfl ki_1 ?_
        refine ax_iload (q := 100) dX11_standingAlike_98 rfl rfl ?_
        refine ax_ishl (q := 101) dX11_standingAlike_100 rfl ?_
        refine ax_iconst (q := 102) dX11_standingAlike_101 rfl ki_m1 ?_
        refine ax_ixor (q := 103) dX11_standingAlike_102 rfl ?_
        refine ax_iand (q := 104) dX11_standingAlike_103 rfl ?_
        refine ax_istore (q := 106) (lv2 := [some (ax_r 0), none, some (ax_i x2), some (ax_i x3), some (ax_i (x4 &&& (((1 : Int32) <<< (x7 &&& 31)) ^^^ (-1 : Int32)))), some (ax_i x5), some (ax_i x6), some (ax_i x7)]) dX11_standingAlike_104 rfl (by decide) rfl rfl ?_
        refine ax_iincK (q := 109) (lv2 := [some (ax_r 0), none, some (ax_i x2), some (ax_i x3), some (ax_i (x4 &&& (((1 : Int32) <<< (x7 &&& 31)) ^^^ (-1 : Int32)))), some (ax_i x5), some (ax_i x6), some (ax_i (x7 + (1 : Int32)))]) dX11_standingAlike_106 rfl rfl ki_1 (by decide) rfl rfl ?_
        refine ax_goto (tgt := 47) dX11_standingAlike_109 (by decide) ?_
        exact (k3 c1 c2 c3)
      · refine ax_aload_n (q := 74) (i := 0) dX11_standingAlike_73 rfl rfl rfl ?_
        refine ax_get (q := 77) (k := 0) (j := 5) (v := ax_r 6) dX11_standingAlike_74 rfl shC_0 rfl rfl rfl (by decide) fl_X11_51 ?_
        refine ax_get (q := 80) (k := 6) (j := 2) (v := ax_r 32) dX11_standingAlike_77 rfl shC_6 rfl rfl rfl (by decide) fl_X11_315 ?_
        refine ax_iload (q := 82) dX11_standingAlike_80 rfl rfl ?_
        refine ax_iald (q := 83) (a := (Int32.toNatClampNeg x7)) (v := (σ.1 32 (Int32.toNatClampNeg x7))) dX11_standingAlike_82 rfl shC_32 (h4 c1 c2 c3) rfl rfl ?_
        refine ax_aload_n (q := 84) (i := 0) dX11_standingAlike_83 rfl rfl rfl ?_
        refine ax_get (q := 87) (k := 0) (j := 4) (v := ax_r 5) dX11_standingAlike_84 rfl shC_0 rfl rfl rfl (by decide) fl_X11_42 ?_
        refine ax_iload (q := 89) dX11_standingAlike_87 rfl rfl ?_
        refine ax_callVfi (q := 92) (As := [ax_i x7]) (st := [ax_i (σ.1 32 (Int32.toNatClampNeg x7))]) (x := (if ((σ.1 25 (Int32.toNatClampNeg x7)) + (10 : Int32)) < (99 : Int32) then ((σ.1 25 (Int32.toNatClampNeg x7)) + (10 : Int32)) else (99 : Int32))) (σ2 := σ) dX11_standingAlike_89 rfl lk_X11_271 shC_5 rfl rfl rfl rfl (Nat.le_of_ble_eq_true rfl) (f_X0_bearsEarthed σ x7 (h4 c1 c2 c3) (d := d) (by omega)) ?_
        refine ax_icmp_le (tgt := 106) (q := 95) dX11_standingAlike_92 (by decide) rfl (fun c4 => ?_) (fun c4 => ?_)
        · refine ax_iincK (q := 109) (lv2 := [some (ax_r 0), none, some (ax_i x2), some (ax_i x3), some (ax_i x4), some (ax_i x5), some (ax_i x6), some (ax_i (x7 + (1 : Int32)))]) dX11_standingAlike_106 rfl rfl ki_1 (by decide) rfl rfl ?_
          refine ax_goto (tgt := 47) dX11_standingAlike_109 (by decide) ?_
          exact (k5 c1 c2 c3 c4)
        · refine ax_iload (q := 97) dX11_standingAlike_95 rfl rfl ?_
          refine ax_iconst (q := 98) dX11_standingAlike_97 rfl ki_1 ?_
          refine ax_iload (q := 100) dX11_standingAlike_98 rfl rfl ?_
          refine ax_ishl (q := 101) dX11_standingAlike_100 rfl ?_
          refine ax_iconst (q := 102) dX11_standingAlike_101 rfl ki_m1 ?_
          refine ax_ixor (q := 103) dX11_standingAlike_102 rfl ?_
          refine ax_iand (q := 104) dX11_standingAlike_103 rfl ?_
          refine ax_istore (q := 106) (lv2 := [some (ax_r 0), none, some (ax_i x2), some (ax_i x3), some (ax_i (x4 &&& (((1 : Int32) <<< (x7 &&& 31)) ^^^ (-1 : Int32)))), some (ax_i x5), some (ax_i x6), some (ax_i x7)]) dX11_standingAlike_104 rfl (by decide) rfl rfl ?_
          refine ax_iincK (q := 109) (lv2 := [some (ax_r 0), none, some (ax_i x2), some (ax_i x3), some (ax_i (x4 &&& (((1 : Int32) <<< (x7 &&& 31)) ^^^ (-1 : Int32)))), some (ax_i x5), some (ax_i x6), some (ax_i (x7 + (1 : Int32)))]) dX11_standingAlike_106 rfl rfl ki_1 (by decide) rfl rfl ?_
          refine ax_goto (tgt := 47) dX11_standingAlike_109 (by decide) ?_
          exact (k6 c1 c2 c3 c4)
set_option maxRecDepth 20000 in
theorem s_X11_earth_0 {d : Nat} (hd : 0 ≤ d) {Q : Option ax_V → ax_S → Prop} (σ : ax_S)  (k1 : ax_Ct shC d mX0_leastBorne [ax_r 5] (fun r u => ∃ x : Int32, r = some (ax_i x) ∧ ax_W shC (d + 1) mX11_earth Q 19 [some (ax_r 0), some (ax_i (((1 : Int32) <<< ((σ.1 5 9) &&& 31)) - (1 : Int32))), none, none] (ax_i x :: []) u) σ) : ax_W shC (d + 1) mX11_earth Q 0 [some (ax_r 0), none, none, none] [] σ := by
  refine ax_iconst (q := 1) dX11_earth_0 rfl ki_1 ?_
  refine ax_aload_n (q := 2) (i := 0) dX11_earth_1 rfl rfl rfl ?_
  refine ax_get (q := 5) (k := 0) (j := 4) (v := ax_r 5) dX11_earth_2 rfl shC_0 rfl rfl rfl (by decide) fl_X11_42 ?_
  refine ax_get (q := 8) (k := 5) (j := 9) (v := ax_i (σ.1 5 9)) dX11_earth_5 rfl shC_5 rfl rfl rfl (by decide) fl_X11_154 ?_
  refine ax_ishl (q := 9) dX11_earth_8 rfl ?_
  refine ax_iconst (q := 10) dX11_earth_9 rfl ki_1 ?_
  refine ax_isub (q := 11) dX11_earth_10 rfl ?_
  refine ax_istore_n (q := 12) (i := 1) (lv2 := [some (ax_r 0), some (ax_i (((1 : Int32) <<< ((σ.1 5 9) &&& 31)) - (1 : Int32))), none, none]) dX11_earth_11 rfl rfl (by decide) rfl rfl ?_
  refine ax_aload_n (q := 13) (i := 0) dX11_earth_12 rfl rfl rfl ?_
  refine ax_get (q := 16) (k := 0) (j := 4) (v := ax_r 5) dX11_earth_13 rfl shC_0 rfl rfl rfl (by decide) fl_X11_42 ?_
  exact ax_callVci (q := 19) (As := []) (st := []) dX11_earth_16 rfl lk_X11_345 shC_5 rfl rfl rfl rfl (Nat.le_of_ble_eq_true rfl) k1
set_option maxRecDepth 20000 in
theorem s_X11_earth_19 {d : Nat} (hd : 0 ≤ d) {Q : Option ax_V → ax_S → Prop} (σ : ax_S) (x1 : Int32) (rr : Int32) (k1 : ax_W shC (d + 1) mX11_earth Q 22 [some (ax_r 0), some (ax_i x1), some (ax_i (rr + (1 : Int32))), none] [] σ) : ax_W shC (d + 1) mX11_earth Q 19 [some (ax_r 0), some (ax_i x1), none, none] [ax_i rr] σ := by
  refine ax_iconst (q := 20) dX11_earth_19 rfl ki_1 ?_
  refine ax_iadd (q := 21) dX11_earth_20 rfl ?_
  refine ax_istore_n (q := 22) (i := 2) (lv2 := [some (ax_r 0), some (ax_i x1), some (ax_i (rr + (1 : Int32))), none]) dX11_earth_21 rfl rfl (by decide) rfl rfl ?_
  exact k1
set_option maxRecDepth 20000 in
theorem s_X11_earth_22 {d : Nat} (hd : 0 ≤ d) {Q : Option ax_V → ax_S → Prop} (σ : ax_S) (x1 : Int32) (x2 : Int32) (k1 : ((999 : Int32) < x2) → ax_Ct shC d mX11_lowest [ax_r 0, ax_i x1] (fun r u => ∃ x : Int32, r = some (ax_i x) ∧ ax_W shC (d + 1) mX11_earth Q 79 [none, none, none, none] (ax_i x :: []) u) σ) (k2 : (¬ ((999 : Int32) < x2)) → (x1 = 0) → ax_Ct shC d mX11_lowest [ax_r 0, ax_i x1] (fun r u => ∃ x : Int32, r = some (ax_i x) ∧ ax_W shC (d + 1) mX11_earth Q 79 [none, none, none, none] (ax_i x :: []) u) σ) (k3 : (¬ ((999 : Int32) < x2)) → (¬ (x1 = 0)) → ax_Ct shC d mX7_readBears [ax_r 4] (fun r u => ∃ x : Int32, r = some (ax_i x) ∧ ax_W shC (d + 1) mX11_earth Q 40 [some (ax_r 0), some (ax_i x1), some (ax_i x2), none] (ax_i x :: []) u) σ) : ax_W shC (d + 1) mX11_earth Q 22 [some (ax_r 0), some (ax_i x1), some (ax_i x2), none] [] σ := by
  refine ax_iload_n (q := 23) (i := 2) dX11_earth_22 rfl rfl rfl ?_
  refine ax_sipush (q := 26) dX11_earth_23 rfl ks_999 ?_
  refine ax_icmp_gt (tgt := 74) (q := 29) dX11_earth_26 (by decide) rfl (fun c1 => ?_) (fun c1 => ?_)
  · refine ax_aload_n (q := 75) (i := 0) dX11_earth_74 rfl rfl rfl ?_
    refine ax_iload_n (q := 76) (i := 1) dX11_earth_75 rfl rfl rfl ?_
    refine ax_fg (lv2 := [none, none, none, none]) trivial ?_
    exact ax_callVci (q := 79) (As := [ax_i x1]) (st := []) dX11_earth_76 rfl lk_X11_357 shC_0 rfl rfl rfl rfl (Nat.le_of_ble_eq_true rfl) (k1 c1)
  · refine ax_iload_n (q := 30) (i := 1) dX11_earth_29 rfl rfl rfl ?_
    refine ax_if_eq (tgt := 74) (q := 33) dX11_earth_30 (by decide) rfl (fun c2 => ?_) (fun c2 => ?_)
    · refine ax_aload_n (q := 75) (i := 0) dX11_earth_74 rfl rfl rfl ?_
      refine ax_iload_n (q := 76) (i := 1) dX11_earth_75 rfl rfl rfl ?_
      refine ax_fg (lv2 := [none, none, none, none]) trivial ?_
      exact ax_callVci (q := 79) (As := [ax_i x1]) (st := []) dX11_earth_76 rfl lk_X11_357 shC_0 rfl rfl rfl rfl (Nat.le_of_ble_eq_true rfl) (k2 c1 c2)
    · refine ax_aload_n (q := 34) (i := 0) dX11_earth_33 rfl rfl rfl ?_
      refine ax_get (q := 37) (k := 0) (j := 3) (v := ax_r 4) dX11_earth_34 rfl shC_0 rfl rfl rfl (by decide) fl_X11_35 ?_
      exact ax_callVci (q := 40) (As := []) (st := []) dX11_earth_37 rfl lk_X11_348 shC_4 rfl rfl rfl rfl (Nat.le_of_ble_eq_true rfl) (k3 c1 c2)
set_option maxRecDepth 20000 in
theorem s_X11_earth_40 {d : Nat} (hd : 0 ≤ d) {Q : Option ax_V → ax_S → Prop} (σ : ax_S) (x1 : Int32) (x2 : Int32) (rr : Int32) (k1 : (rr = 0) → ax_Ct shC d mX11_standingAlike [ax_r 0, ax_i x1, ax_i x2] (fun r u => ∃ x : Int32, r = some (ax_i x) ∧ ax_W shC (d + 1) mX11_earth Q 58 [some (ax_r 0), some (ax_i x1), some (ax_i x2), none] (ax_i x :: []) u) σ) (k2 : (¬ (rr = 0)) → ax_Ct shC d mX11_standingAfresh [ax_r 0, ax_i x1, ax_i x2] (fun r u => ∃ x : Int32, r = some (ax_i x) ∧ ax_W shC (d + 1) mX11_earth Q 49 [some (ax_r 0), some (ax_i x1), some (ax_i x2), none] (ax_i x :: []) u) σ) : ax_W shC (d + 1) mX11_earth Q 40 [some (ax_r 0), some (ax_i x1), some (ax_i x2), none] [ax_i rr] σ := by
  refine ax_if_eq (tgt := 52) (q := 43) dX11_earth_40 (by decide) rfl (fun c1 => ?_) (fun c1 => ?_)
  · refine ax_aload_n (q := 53) (i := 0) dX11_earth_52 rfl rfl rfl ?_
    refine ax_iload_n (q := 54) (i := 1) dX11_earth_53 rfl rfl rfl ?_
    refine ax_iload_n (q := 55) (i := 2) dX11_earth_54 rfl rfl rfl ?_
    exact ax_callVci (q := 58) (As := [ax_i x1, ax_i x2]) (st := []) dX11_earth_55 rfl lk_X11_354 shC_0 rfl rfl rfl rfl (Nat.le_of_ble_eq_true rfl) (k1 c1)
  · refine ax_aload_n (q := 44) (i := 0) dX11_earth_43 rfl rfl rfl ?_
    refine ax_iload_n (q := 45) (i := 1) dX11_earth_44 rfl rfl rfl ?_
    refine ax_iload_n (q := 46) (i := 2) dX11_earth_45 rfl rfl rfl ?_
    exact ax_callVci (q := 49) (As := [ax_i x1, ax_i x2]) (st := []) dX11_earth_46 rfl lk_X11_351 shC_0 rfl rfl rfl rfl (Nat.le_of_ble_eq_true rfl) (k2 c1)
set_option maxRecDepth 20000 in
theorem s_X11_earth_79 {d : Nat} (hd : 0 ≤ d) {Q : Option ax_V → ax_S → Prop} (σ : ax_S) (rr : Int32) (k1 : Q (some (ax_i rr)) σ) : ax_W shC (d + 1) mX11_earth Q 79 [none, none, none, none] [ax_i rr] σ := by
  exact ax_iret dX11_earth_79 rfl rfl k1
set_option maxRecDepth 20000 in
theorem s_X11_earth_49 {d : Nat} (hd : 0 ≤ d) {Q : Option ax_V → ax_S → Prop} (σ : ax_S) (x1 : Int32) (x2 : Int32) (rr : Int32) (k1 : (¬ rr = 0) → ax_W shC (d + 1) mX11_earth Q 22 [some (ax_r 0), some (ax_i rr), some (ax_i (x2 + (1 : Int32))), none] [] σ) (k2 : (¬ (¬ rr = 0)) → ax_Ct shC d mX11_lowest [ax_r 0, ax_i x1] (fun r u => ∃ x : Int32, r = some (ax_i x) ∧ ax_W shC (d + 1) mX11_earth Q 79 [none, none, none, none] (ax_i x :: []) u) σ) : ax_W shC (d + 1) mX11_earth Q 49 [some (ax_r 0), some (ax_i x1), some (ax_i x2), none] [ax_i rr] σ := by
  refine ax_goto (tgt := 58) dX11_earth_49 (by decide) ?_
  refine ax_istore_n (q := 59) (i := 3) (lv2 := [some (ax_r 0), some (ax_i x1), some (ax_i x2), some (ax_i rr)]) dX11_earth_58 rfl rfl (by decide) rfl rfl ?_
  refine ax_iload_n (q := 60) (i := 3) dX11_earth_59 rfl rfl rfl ?_
  refine ax_if_ne (tgt := 66) (q := 63) dX11_earth_60 (by decide) rfl (fun c1 => ?_) (fun c1 => ?_)
  · refine ax_iload_n (q := 67) (i := 3) dX11_earth_66 rfl rfl rfl ?_
    refine ax_istore_n (q := 68) (i := 1) (lv2 := [some (ax_r 0), some (ax_i rr), some (ax_i x2), some (ax_i rr)]) dX11_earth_67 rfl rfl (by decide) rfl rfl ?_
    refine ax_iincK (q := 71) (lv2 := [some (ax_r 0), some (ax_i rr), some (ax_i (x2 + (1 : Int32))), some (ax_i rr)]) dX11_earth_68 rfl rfl ki_1 (by decide) rfl rfl ?_
    refine ax_goto (tgt := 22) dX11_earth_71 (by decide) ?_
    refine ax_fg (lv2 := [some (ax_r 0), some (ax_i rr), some (ax_i (x2 + (1 : Int32))), none]) ⟨rfl, rfl, rfl, trivial⟩ ?_
    exact (k1 c1)
  · refine ax_goto (tgt := 74) dX11_earth_63 (by decide) ?_
    refine ax_aload_n (q := 75) (i := 0) dX11_earth_74 rfl rfl rfl ?_
    refine ax_iload_n (q := 76) (i := 1) dX11_earth_75 rfl rfl rfl ?_
    refine ax_fg (lv2 := [none, none, none, none]) trivial ?_
    exact ax_callVci (q := 79) (As := [ax_i x1]) (st := []) dX11_earth_76 rfl lk_X11_357 shC_0 rfl rfl rfl rfl (Nat.le_of_ble_eq_true rfl) (k2 c1)
set_option maxRecDepth 20000 in
theorem s_X11_earth_58 {d : Nat} (hd : 0 ≤ d) {Q : Option ax_V → ax_S → Prop} (σ : ax_S) (x1 : Int32) (x2 : Int32) (rr : Int32) (k1 : (¬ rr = 0) → ax_W shC (d + 1) mX11_earth Q 22 [some (ax_r 0), some (ax_i rr), some (ax_i (x2 + (1 : Int32))), none] [] σ) (k2 : (¬ (¬ rr = 0)) → ax_Ct shC d mX11_lowest [ax_r 0, ax_i x1] (fun r u => ∃ x : Int32, r = some (ax_i x) ∧ ax_W shC (d + 1) mX11_earth Q 79 [none, none, none, none] (ax_i x :: []) u) σ) : ax_W shC (d + 1) mX11_earth Q 58 [some (ax_r 0), some (ax_i x1), some (ax_i x2), none] [ax_i rr] σ := by
  refine ax_istore_n (q := 59) (i := 3) (lv2 := [some (ax_r 0), some (ax_i x1), some (ax_i x2), some (ax_i rr)]) dX11_earth_58 rfl rfl (by decide) rfl rfl ?_
  refine ax_iload_n (q := 60) (i := 3) dX11_earth_59 rfl rfl rfl ?_
  refine ax_if_ne (tgt := 66) (q := 63) dX11_earth_60 (by decide) rfl (fun c1 => ?_) (fun c1 => ?_)
  · refine ax_iload_n (q := 67) (i := 3) dX11_earth_66 rfl rfl rfl ?_
    refine ax_istore_n (q := 68) (i := 1) (lv2 := [some (ax_r 0), some (ax_i rr), some (ax_i x2), some (ax_i rr)]) dX11_earth_67 rfl rfl (by decide) rfl rfl ?_
    refine ax_iincK (q := 71) (lv2 := [some (ax_r 0), some (ax_i rr), some (ax_i (x2 + (1 : Int32))), some (ax_i rr)]) dX11_earth_68 rfl rfl ki_1 (by decide) rfl rfl ?_
    refine ax_goto (tgt := 22) dX11_earth_71 (by decide) ?_
    refine ax_fg (lv2 := [some (ax_r 0), some (ax_i rr), some (ax_i (x2 + (1 : Int32))), none]) ⟨rfl, rfl, rfl, trivial⟩ ?_
    exact (k1 c1)
  · refine ax_goto (tgt := 74) dX11_earth_63 (by decide) ?_
    refine ax_aload_n (q := 75) (i := 0) dX11_earth_74 rfl rfl rfl ?_
    refine ax_iload_n (q := 76) (i := 1) dX11_earth_75 rfl rfl rfl ?_
    refine ax_fg (lv2 := [none, none, none, none]) trivial ?_
    exact ax_callVci (q := 79) (As := [ax_i x1]) (st := []) dX11_earth_76 rfl lk_X11_357 shC_0 rfl rfl rfl rfl (Nat.le_of_ble_eq_true rfl) (k2 c1)
set_option maxRecDepth 20000 in
theorem s_X11_couples_0 {d : Nat} (hd : 1 ≤ d) {Q : Option ax_V → ax_S → Prop} (σ : ax_S) (a0 : Int32) (k1 : (¬ (¬ ((σ.1 5 9) ≤ 0))) → Q (some (ax_i (-1 : Int32))) σ) (k2 : (¬ ((σ.1 5 9) ≤ 0)) → (¬ ((a0 = 0) ∨ (¬ (¬ a0 = (1 : Int32))))) → Q (some (ax_i (-1 : Int32))) σ) (k3 : (¬ ((σ.1 5 9) ≤ 0)) → ((a0 = 0) ∨ (¬ (¬ a0 = (1 : Int32)))) → ax_Ct shC d mX4_seek [ax_r 10] (fun r u => ∃ x : Int32, r = some (ax_i x) ∧ ax_W shC (d + 1) mX11_couples Q 21 [some (ax_r 0), some (ax_i a0)] (ax_i x :: []) u) σ) : ax_W shC (d + 1) mX11_couples Q 0 [some (ax_r 0), some (ax_i a0)] [] σ := by
  refine ax_aload_n (q := 1) (i := 0) dX11_couples_0 rfl rfl rfl ?_
  refine ax_callVfi (q := 4) (As := []) (st := []) (x := (if (¬ ((σ.1 5 9) ≤ 0)) then (1 : Int32) else 0)) (σ2 := σ) dX11_couples_1 rfl lk_X11_274 shC_0 rfl rfl rfl rfl (Nat.le_of_ble_eq_true rfl) (f_X11_hasBelt σ   (d := d) (by omega)) ?_
  refine ax_if_eqB (tgt := 24) (q := 7) dX11_couples_4 (by decide) rfl (fun c1 => ?_) (fun c1 => ?_)
  · refine ax_iconst (q := 25) dX11_couples_24 rfl ki_m1 ?_
    exact ax_iret dX11_couples_25 rfl rfl (k1 c1)
  · refine ax_iload_n (q := 8) (i := 1) dX11_couples_7 rfl rfl rfl ?_
    refine ax_callSfi (q := 11) (As := [ax_i a0]) (st := []) (x := (if ((a0 = 0) ∨ (¬ (¬ a0 = (1 : Int32)))) then (1 : Int32) else 0)) (σ2 := σ) dX11_couples_8 rfl lk_X11_121 rfl rfl (Nat.le_of_ble_eq_true rfl) (f_X11_isBit (sh := shC) σ a0  (d := d) (by omega)) ?_
    refine ax_if_eqB (tgt := 24) (q := 14) dX11_couples_11 (by decide) rfl (fun c2 => ?_) (fun c2 => ?_)
    · refine ax_iconst (q := 25) dX11_couples_24 rfl ki_m1 ?_
      exact ax_iret dX11_couples_25 rfl rfl (k2 c1 c2)
    · refine ax_aload_n (q := 15) (i := 0) dX11_couples_14 rfl rfl rfl ?_
      refine ax_get (q := 18) (k := 0) (j := 9) (v := ax_r 10) dX11_couples_15 rfl shC_0 rfl rfl rfl (by decide) fl_X11_81 ?_
      exact ax_callVci (q := 21) (As := []) (st := []) dX11_couples_18 rfl lk_X11_360 shC_10 rfl rfl rfl rfl (Nat.le_of_ble_eq_true rfl) (k3 c1 c2)
set_option maxRecDepth 20000 in
theorem s_X11_couples_21 {d : Nat} (hd : 0 ≤ d) {Q : Option ax_V → ax_S → Prop} (σ : ax_S) (x1 : Int32) (rr : Int32) (k1 : (¬ rr = 0) → Q (some (ax_i (if (¬ x1 = 0) then (σ.1 10 3) else (σ.1 10 2)))) σ) (k2 : (¬ (¬ rr = 0)) → Q (some (ax_i (-1 : Int32))) σ) : ax_W shC (d + 1) mX11_couples Q 21 [some (ax_r 0), some (ax_i x1)] [ax_i rr] σ := by
  refine ax_if_ne (tgt := 26) (q := 24) dX11_couples_21 (by decide) rfl (fun c1 => ?_) (fun c1 => ?_)
  · refine ax_iload_n (q := 27) (i := 1) dX11_couples_26 rfl rfl rfl ?_
    have K3 : ax_W shC (d + 1) mX11_couples Q 47 [some (ax_r 0), some (ax_i x1)] [ax_i (if (¬ x1 = 0) then (σ.1 10 3) else (σ.1 10 2))] σ := by
      exact ax_iret dX11_couples_47 rfl rfl (k1 c1)
    refine ax_if_ne (tgt := 40) (q := 30) dX11_couples_27 (by decide) rfl (fun c2 => ?_) (fun c2 => ?_)
    · refine ax_aload_n (q := 41) (i := 0) dX11_couples_40 rfl rfl rfl ?_
      refine ax_get (q := 44) (k := 0) (j := 9) (v := ax_r 10) dX11_couples_41 rfl shC_0 rfl rfl rfl (by decide) fl_X11_81 ?_
      refine ax_get (q := 47) (k := 10) (j := 3) (v := ax_i (σ.1 10 3)) dX11_couples_44 rfl shC_10 rfl rfl rfl (by decide) fl_X11_366 ?_
      exact ax_cv (if_pos c2) K3
    · refine ax_aload_n (q := 31) (i := 0) dX11_couples_30 rfl rfl rfl ?_
      refine ax_get (q := 34) (k := 0) (j := 9) (v := ax_r 10) dX11_couples_31 rfl shC_0 rfl rfl rfl (by decide) fl_X11_81 ?_
      refine ax_get (q := 37) (k := 10) (j := 2) (v := ax_i (σ.1 10 2)) dX11_couples_34 rfl shC_10 rfl rfl rfl (by decide) fl_X11_363 ?_
      refine ax_goto (tgt := 47) dX11_couples_37 (by decide) ?_
      exact ax_cv (if_neg c2) K3
  · refine ax_iconst (q := 25) dX11_couples_24 rfl ki_m1 ?_
    exact ax_iret dX11_couples_25 rfl rfl (k2 c1)
set_option maxRecDepth 20000 in
theorem s_X11_single_0 {d : Nat} (hd : 1 ≤ d) {Q : Option ax_V → ax_S → Prop} (σ : ax_S)  (k1 : (¬ ((σ.1 5 9) ≤ 0)) → ax_Ct shC d mX0_live [ax_r 5] (fun r u => ∃ x : Int32, r = some (ax_i x) ∧ ax_W shC (d + 1) mX11_single Q 16 [some (ax_r 0), none, none, none] (ax_i x :: []) u) σ) (k2 : (¬ (¬ ((σ.1 5 9) ≤ 0))) → Q (some (ax_i (-1 : Int32))) σ) : ax_W shC (d + 1) mX11_single Q 0 [some (ax_r 0), none, none, none] [] σ := by
  refine ax_aload_n (q := 1) (i := 0) dX11_single_0 rfl rfl rfl ?_
  refine ax_callVfi (q := 4) (As := []) (st := []) (x := (if (¬ ((σ.1 5 9) ≤ 0)) then (1 : Int32) else 0)) (σ2 := σ) dX11_single_1 rfl lk_X11_274 shC_0 rfl rfl rfl rfl (Nat.le_of_ble_eq_true rfl) (f_X11_hasBelt σ   (d := d) (by omega)) ?_
  refine ax_if_neB (tgt := 9) (q := 7) dX11_single_4 (by decide) rfl (fun c1 => ?_) (fun c1 => ?_)
  · refine ax_aload_n (q := 10) (i := 0) dX11_single_9 rfl rfl rfl ?_
    refine ax_get (q := 13) (k := 0) (j := 4) (v := ax_r 5) dX11_single_10 rfl shC_0 rfl rfl rfl (by decide) fl_X11_42 ?_
    exact ax_callVci (q := 16) (As := []) (st := []) dX11_single_13 rfl lk_X11_185 shC_5 rfl rfl rfl rfl (Nat.le_of_ble_eq_true rfl) (k1 c1)
  · refine ax_iconst (q := 8) dX11_single_7 rfl ki_m1 ?_
    exact ax_iret dX11_single_8 rfl rfl (k2 c1)
set_option maxRecDepth 20000 in
theorem s_X11_single_16 {d : Nat} (hd : 0 ≤ d) {Q : Option ax_V → ax_S → Prop} (σ : ax_S) (rr : Int32) (k1 : ax_W shC (d + 1) mX11_single Q 21 [some (ax_r 0), some (ax_i rr), some (ax_i (0 : Int32)), some (ax_i (0 : Int32))] [] σ) : ax_W shC (d + 1) mX11_single Q 16 [some (ax_r 0), none, none, none] [ax_i rr] σ := by
  refine ax_istore_n (q := 17) (i := 1) (lv2 := [some (ax_r 0), some (ax_i rr), none, none]) dX11_single_16 rfl rfl (by decide) rfl rfl ?_
  refine ax_iconst (q := 18) dX11_single_17 rfl ki_0 ?_
  refine ax_istore_n (q := 19) (i := 2) (lv2 := [some (ax_r 0), some (ax_i rr), some (ax_i (0 : Int32)), none]) dX11_single_18 rfl rfl (by decide) rfl rfl ?_
  refine ax_iconst (q := 20) dX11_single_19 rfl ki_0 ?_
  refine ax_istore_n (q := 21) (i := 3) (lv2 := [some (ax_r 0), some (ax_i rr), some (ax_i (0 : Int32)), some (ax_i (0 : Int32))]) dX11_single_20 rfl rfl (by decide) rfl rfl ?_
  exact k1
set_option maxRecDepth 20000 in
theorem s_X11_single_21 {d : Nat} (hd : 1 ≤ d) {Q : Option ax_V → ax_S → Prop} (σ : ax_S) (x1 : Int32) (x2 : Int32) (x3 : Int32) (k1 : ((σ.1 5 9) ≤ x3) → Q (some (ax_i x2)) σ) (h2 : (¬ ((σ.1 5 9) ≤ x3)) → vp_in x3 8) (k3 : (¬ ((σ.1 5 9) ≤ x3)) → (¬ (x1 &&& (σ.1 31 (Int32.toNatClampNeg x3))) = 0) → ax_W shC (d + 1) mX11_single Q 21 [some (ax_r 0), some (ax_i x1), some (ax_i x2), some (ax_i (x3 + (1 : Int32)))] [] σ) (k4 : (¬ ((σ.1 5 9) ≤ x3)) → (¬ (¬ (x1 &&& (σ.1 31 (Int32.toNatClampNeg x3))) = 0)) → ax_W shC (d + 1) mX11_single Q 21 [some (ax_r 0), some (ax_i x1), some (ax_i (x2 ||| ((1 : Int32) <<< (x3 &&& 31)))), some (ax_i (x3 + (1 : Int32)))] [] σ) : ax_W shC (d + 1) mX11_single Q 21 [some (ax_r 0), some (ax_i x1), some (ax_i x2), some (ax_i x3)] [] σ := by
  refine ax_iload_n (q := 22) (i := 3) dX11_single_21 rfl rfl rfl ?_
  refine ax_aload_n (q := 23) (i := 0) dX11_single_22 rfl rfl rfl ?_
  refine ax_get (q := 26) (k := 0) (j := 4) (v := ax_r 5) dX11_single_23 rfl shC_0 rfl rfl rfl (by decide) fl_X11_42 ?_
  refine ax_get (q := 29) (k := 5) (j := 9) (v := ax_i (σ.1 5 9)) dX11_single_26 rfl shC_5 rfl rfl rfl (by decide) fl_X11_154 ?_
  refine ax_icmp_ge (tgt := 56) (q := 32) dX11_single_29 (by decide) rfl (fun c1 => ?_) (fun c1 => ?_)
  · refine ax_iload_n (q := 57) (i := 2) dX11_single_56 rfl rfl rfl ?_
    exact ax_iret dX11_single_57 rfl rfl (k1 c1)
  · refine ax_aload_n (q := 33) (i := 0) dX11_single_32 rfl rfl rfl ?_
    refine ax_get (q := 36) (k := 0) (j := 4) (v := ax_r 5) dX11_single_33 rfl shC_0 rfl rfl rfl (by decide) fl_X11_42 ?_
    refine ax_iload_n (q := 37) (i := 1) dX11_single_36 rfl rfl rfl ?_
    refine ax_iload_n (q := 38) (i := 3) dX11_single_37 rfl rfl rfl ?_
    refine ax_callVfi (q := 41) (As := [ax_i x1, ax_i x3]) (st := []) (x := (x1 &&& (σ.1 31 (Int32.toNatClampNeg x3)))) (σ2 := σ) dX11_single_38 rfl lk_X11_189 shC_5 rfl rfl rfl rfl (Nat.le_of_ble_eq_true rfl) (f_X0_touching σ x1 x3 (h2 c1) (d := d) (by omega)) ?_
    refine ax_if_ne (tgt := 50) (q := 44) dX11_single_41 (by decide) rfl (fun c2 => ?_) (fun c2 => ?_)
    · refine ax_iincK (q := 53) (lv2 := [some (ax_r 0), some (ax_i x1), some (ax_i x2), some (ax_i (x3 + (1 : Int32)))]) dX11_single_50 rfl rfl ki_1 (by decide) rfl rfl ?_
      refine ax_goto (tgt := 21) dX11_single_53 (by decide) ?_
      exact (k3 c1 c2)
    · refine ax_iload_n (q := 45) (i := 2) dX11_single_44 rfl rfl rfl ?_
      refine ax_iconst (q := 46) dX11_single_45 rfl ki_1 ?_
      refine ax_iload_n (q := 47) (i := 3) dX11_single_46 rfl rfl rfl ?_
      refine ax_ishl (q := 48) dX11_single_47 rfl ?_
      refine ax_ior (q := 49) dX11_single_48 rfl ?_
      refine ax_istore_n (q := 50) (i := 2) (lv2 := [some (ax_r 0), some (ax_i x1), some (ax_i (x2 ||| ((1 : Int32) <<< (x3 &&& 31)))), some (ax_i x3)]) dX11_single_49 rfl rfl (by decide) rfl rfl ?_
      refine ax_iincK (q := 53) (lv2 := [some (ax_r 0), some (ax_i x1), some (ax_i (x2 ||| ((1 : Int32) <<< (x3 &&& 31)))), some (ax_i (x3 + (1 : Int32)))]) dX11_single_50 rfl rfl ki_1 (by decide) rfl rfl ?_
      refine ax_goto (tgt := 21) dX11_single_53 (by decide) ?_
      exact (k4 c1 c2)
set_option maxRecDepth 20000 in
theorem s_X11_town_0 {d : Nat} (hd : 1 ≤ d) {Q : Option ax_V → ax_S → Prop} (σ : ax_S) (a0 : Int32) (k1 : (¬ ((¬ (a0 < 0)) ∧ (¬ ((σ.1 5 9) ≤ a0)))) → Q (some (ax_i (-1 : Int32))) σ) (k2 : ((¬ (a0 < 0)) ∧ (¬ ((σ.1 5 9) ≤ a0))) → ax_Ct shC d mX0_live [ax_r 5] (fun r u => ∃ x : Int32, r = some (ax_i x) ∧ ax_W shC (d + 1) mX11_town Q 19 [none, some (ax_i a0)] (ax_i x :: [ax_r 5]) u) σ) : ax_W shC (d + 1) mX11_town Q 0 [some (ax_r 0), some (ax_i a0)] [] σ := by
  refine ax_aload_n (q := 1) (i := 0) dX11_town_0 rfl rfl rfl ?_
  refine ax_iload_n (q := 2) (i := 1) dX11_town_1 rfl rfl rfl ?_
  refine ax_callVfi (q := 5) (As := [ax_i a0]) (st := []) (x := (if ((¬ (a0 < 0)) ∧ (¬ ((σ.1 5 9) ≤ a0))) then (1 : Int32) else 0)) (σ2 := σ) dX11_town_2 rfl lk_X11_160 shC_0 rfl rfl rfl rfl (Nat.le_of_ble_eq_true rfl) (f_X11_isHouse σ a0  (d := d) (by omega)) ?_
  refine ax_if_eqB (tgt := 26) (q := 8) dX11_town_5 (by decide) rfl (fun c1 => ?_) (fun c1 => ?_)
  · refine ax_iconst (q := 27) dX11_town_26 rfl ki_m1 ?_
    exact ax_iret dX11_town_27 rfl rfl (k1 c1)
  · refine ax_aload_n (q := 9) (i := 0) dX11_town_8 rfl rfl rfl ?_
    refine ax_get (q := 12) (k := 0) (j := 4) (v := ax_r 5) dX11_town_9 rfl shC_0 rfl rfl rfl (by decide) fl_X11_42 ?_
    refine ax_aload_n (q := 13) (i := 0) dX11_town_12 rfl rfl rfl ?_
    refine ax_get (q := 16) (k := 0) (j := 4) (v := ax_r 5) dX11_town_13 rfl shC_0 rfl rfl rfl (by decide) fl_X11_42 ?_
    refine ax_fg (lv2 := [none, some (ax_i a0)]) ⟨rfl, trivial⟩ ?_
    exact ax_callVci (q := 19) (As := []) (st := [ax_r 5]) dX11_town_16 rfl lk_X11_185 shC_5 rfl rfl rfl rfl (Nat.le_of_ble_eq_true rfl) (k2 c1)
set_option maxRecDepth 20000 in
theorem s_X11_town_19 {d : Nat} (hd : 0 ≤ d) {Q : Option ax_V → ax_S → Prop} (σ : ax_S) (x1 : Int32) (rr : Int32) (k1 : ax_Ct shC d mX0_reach [ax_r 5, ax_i rr, ax_i x1] (fun r u => ∃ x : Int32, r = some (ax_i x) ∧ ax_W shC (d + 1) mX11_town Q 23 [none, none] (ax_i x :: []) u) σ) : ax_W shC (d + 1) mX11_town Q 19 [none, some (ax_i x1)] [ax_i rr, ax_r 5] σ := by
  refine ax_iload_n (q := 20) (i := 1) dX11_town_19 rfl rfl rfl ?_
  refine ax_fg (lv2 := [none, none]) trivial ?_
  exact ax_callVci (q := 23) (As := [ax_i rr, ax_i x1]) (st := []) dX11_town_20 rfl lk_X11_369 shC_5 rfl rfl rfl rfl (Nat.le_of_ble_eq_true rfl) k1
set_option maxRecDepth 20000 in
theorem s_X11_town_23 {d : Nat} (hd : 0 ≤ d) {Q : Option ax_V → ax_S → Prop} (σ : ax_S) (rr : Int32) (k1 : Q (some (ax_i rr)) σ) : ax_W shC (d + 1) mX11_town Q 23 [none, none] [ax_i rr] σ := by
  refine ax_goto (tgt := 27) dX11_town_23 (by decide) ?_
  exact ax_iret dX11_town_27 rfl rfl k1
set_option maxRecDepth 20000 in
theorem s_X11_bridges_0 {d : Nat} (hd : 0 ≤ d) {Q : Option ax_V → ax_S → Prop} (σ : ax_S)  (k1 : ax_Ct shC d mX0_live [ax_r 5] (fun r u => ∃ x : Int32, r = some (ax_i x) ∧ ax_W shC (d + 1) mX11_bridges Q 7 [some (ax_r 0), none, none, none, none] (ax_i x :: []) u) σ) : ax_W shC (d + 1) mX11_bridges Q 0 [some (ax_r 0), none, none, none, none] [] σ := by
  refine ax_aload_n (q := 1) (i := 0) dX11_bridges_0 rfl rfl rfl ?_
  refine ax_get (q := 4) (k := 0) (j := 4) (v := ax_r 5) dX11_bridges_1 rfl shC_0 rfl rfl rfl (by decide) fl_X11_42 ?_
  exact ax_callVci (q := 7) (As := []) (st := []) dX11_bridges_4 rfl lk_X11_185 shC_5 rfl rfl rfl rfl (Nat.le_of_ble_eq_true rfl) k1
set_option maxRecDepth 20000 in
theorem s_X11_bridges_7 {d : Nat} (hd : 0 ≤ d) {Q : Option ax_V → ax_S → Prop} (σ : ax_S) (rr : Int32) (k1 : ax_W shC (d + 1) mX11_bridges Q 12 [some (ax_r 0), some (ax_i rr), some (ax_i (0 : Int32)), some (ax_i (0 : Int32)), none] [] σ) : ax_W shC (d + 1) mX11_bridges Q 7 [some (ax_r 0), none, none, none, none] [ax_i rr] σ := by
  refine ax_istore_n (q := 8) (i := 1) (lv2 := [some (ax_r 0), some (ax_i rr), none, none, none]) dX11_bridges_7 rfl rfl (by decide) rfl rfl ?_
  refine ax_iconst (q := 9) dX11_bridges_8 rfl ki_0 ?_
  refine ax_istore_n (q := 10) (i := 2) (lv2 := [some (ax_r 0), some (ax_i rr), some (ax_i (0 : Int32)), none, none]) dX11_bridges_9 rfl rfl (by decide) rfl rfl ?_
  refine ax_iconst (q := 11) dX11_bridges_10 rfl ki_0 ?_
  refine ax_istore_n (q := 12) (i := 3) (lv2 := [some (ax_r 0), some (ax_i rr), some (ax_i (0 : Int32)), some (ax_i (0 : Int32)), none]) dX11_bridges_11 rfl rfl (by decide) rfl rfl ?_
  exact k1
set_option maxRecDepth 20000 in
theorem s_X11_bridges_12 {d : Nat} (hd : 0 ≤ d) {Q : Option ax_V → ax_S → Prop} (σ : ax_S) (x1 : Int32) (x2 : Int32) (x3 : Int32) (k1 : ((σ.1 5 10) ≤ x3) → Q (some (ax_i x2)) σ) (k2 : (¬ ((σ.1 5 10) ≤ x3)) → ((x1 &&& (((1 : Int32) <<< (x3 &&& 31)) ^^^ (-1 : Int32))) = x1) → ax_W shC (d + 1) mX11_bridges Q 12 [some (ax_r 0), some (ax_i x1), some (ax_i x2), some (ax_i (x3 + (1 : Int32))), none] [] σ) (h3 : (¬ ((σ.1 5 10) ≤ x3)) → (¬ ((x1 &&& (((1 : Int32) <<< (x3 &&& 31)) ^^^ (-1 : Int32))) = x1)) → vp_in x3 17) (k4 : (¬ ((σ.1 5 10) ≤ x3)) → (¬ ((x1 &&& (((1 : Int32) <<< (x3 &&& 31)) ^^^ (-1 : Int32))) = x1)) → ax_Ct shC d mX0_reach [ax_r 5, ax_i (x1 &&& (((1 : Int32) <<< (x3 &&& 31)) ^^^ (-1 : Int32))), ax_i (σ.1 28 (Int32.toNatClampNeg x3))] (fun r u => ∃ x : Int32, r = some (ax_i x) ∧ ax_W shC (d + 1) mX11_bridges Q 56 [some (ax_r 0), some (ax_i x1), some (ax_i x2), some (ax_i x3), none] (ax_i x :: []) u) σ) : ax_W shC (d + 1) mX11_bridges Q 12 [some (ax_r 0), some (ax_i x1), some (ax_i x2), some (ax_i x3), none] [] σ := by
  refine ax_iload_n (q := 13) (i := 3) dX11_bridges_12 rfl rfl rfl ?_
  refine ax_aload_n (q := 14) (i := 0) dX11_bridges_13 rfl rfl rfl ?_
  refine ax_get (q := 17) (k := 0) (j := 4) (v := ax_r 5) dX11_bridges_14 rfl shC_0 rfl rfl rfl (by decide) fl_X11_42 ?_
  refine ax_get (q := 20) (k := 5) (j := 10) (v := ax_i (σ.1 5 10)) dX11_bridges_17 rfl shC_5 rfl rfl rfl (by decide) fl_X11_221 ?_
  refine ax_icmp_ge (tgt := 83) (q := 23) dX11_bridges_20 (by decide) rfl (fun c1 => ?_) (fun c1 => ?_)
  · refine ax_iload_n (q := 84) (i := 2) dX11_bridges_83 rfl rfl rfl ?_
    exact ax_iret dX11_bridges_84 rfl rfl (k1 c1)
  · refine ax_iload_n (q := 24) (i := 1) dX11_bridges_23 rfl rfl rfl ?_
    refine ax_iconst (q := 25) dX11_bridges_24 rfl ki_1 ?_
    refine ax_iload_n (q := 26) (i := 3) dX11_bridges_25 rfl rfl rfl ?_
    refine ax_ishl (q := 27) dX11_bridges_26 rfl ?_
    refine ax_iconst (q := 28) dX11_bridges_27 rfl ki_m1 ?_
    refine ax_ixor (q := 29) dX11_bridges_28 rfl ?_
    refine ax_iand (q := 30) dX11_bridges_29 rfl ?_
    refine ax_istore (q := 32) (lv2 := [some (ax_r 0), some (ax_i x1), some (ax_i x2), some (ax_i x3), some (ax_i (x1 &&& (((1 : Int32) <<< (x3 &&& 31)) ^^^ (-1 : Int32))))]) dX11_bridges_30 rfl (by decide) rfl rfl ?_
    refine ax_iload (q := 34) dX11_bridges_32 rfl rfl ?_
    refine ax_iload_n (q := 35) (i := 1) dX11_bridges_34 rfl rfl rfl ?_
    refine ax_icmp_eq (tgt := 77) (q := 38) dX11_bridges_35 (by decide) rfl (fun c2 => ?_) (fun c2 => ?_)
    · refine ax_iincK (q := 80) (lv2 := [some (ax_r 0), some (ax_i x1), some (ax_i x2), some (ax_i (x3 + (1 : Int32))), some (ax_i (x1 &&& (((1 : Int32) <<< (x3 &&& 31)) ^^^ (-1 : Int32))))]) dX11_bridges_77 rfl rfl ki_1 (by decide) rfl rfl ?_
      refine ax_goto (tgt := 12) dX11_bridges_80 (by decide) ?_
      refine ax_fg (lv2 := [some (ax_r 0), some (ax_i x1), some (ax_i x2), some (ax_i (x3 + (1 : Int32))), none]) ⟨rfl, rfl, rfl, rfl, trivial⟩ ?_
      exact (k2 c1 c2)
    · refine ax_aload_n (q := 39) (i := 0) dX11_bridges_38 rfl rfl rfl ?_
      refine ax_get (q := 42) (k := 0) (j := 4) (v := ax_r 5) dX11_bridges_39 rfl shC_0 rfl rfl rfl (by decide) fl_X11_42 ?_
      refine ax_iload (q := 44) dX11_bridges_42 rfl rfl ?_
      refine ax_aload_n (q := 45) (i := 0) dX11_bridges_44 rfl rfl rfl ?_
      refine ax_get (q := 48) (k := 0) (j := 4) (v := ax_r 5) dX11_bridges_45 rfl shC_0 rfl rfl rfl (by decide) fl_X11_42 ?_
      refine ax_get (q := 51) (k := 5) (j := 5) (v := ax_r 28) dX11_bridges_48 rfl shC_5 rfl rfl rfl (by decide) fl_X11_203 ?_
      refine ax_iload_n (q := 52) (i := 3) dX11_bridges_51 rfl rfl rfl ?_
      refine ax_iald (q := 53) (a := (Int32.toNatClampNeg x3)) (v := (σ.1 28 (Int32.toNatClampNeg x3))) dX11_bridges_52 rfl shC_28 (h3 c1 c2) rfl rfl ?_
      refine ax_fg (lv2 := [some (ax_r 0), some (ax_i x1), some (ax_i x2), some (ax_i x3), none]) ⟨rfl, rfl, rfl, rfl, trivial⟩ ?_
      exact ax_callVci (q := 56) (As := [ax_i (x1 &&& (((1 : Int32) <<< (x3 &&& 31)) ^^^ (-1 : Int32))), ax_i (σ.1 28 (Int32.toNatClampNeg x3))]) (st := []) dX11_bridges_53 rfl lk_X11_369 shC_5 rfl rfl rfl rfl (Nat.le_of_ble_eq_true rfl) (k4 c1 c2)
set_option maxRecDepth 20000 in
theorem s_X11_bridges_56 {d : Nat} (hd : 1 ≤ d) {Q : Option ax_V → ax_S → Prop} (σ : ax_S) (x1 : Int32) (x2 : Int32) (x3 : Int32) (rr : Int32) (h1 : vp_in x3 17) (k2 : (¬ ((rr >>> ((σ.1 29 (Int32.toNatClampNeg x3)) &&& 31)) &&& (1 : Int32)) = 0) → ax_W shC (d + 1) mX11_bridges Q 12 [some (ax_r 0), some (ax_i x1), some (ax_i x2), some (ax_i (x3 + (1 : Int32))), none] [] σ) (k3 : (¬ (¬ ((rr >>> ((σ.1 29 (Int32.toNatClampNeg x3)) &&& 31)) &&& (1 : Int32)) = 0)) → ax_W shC (d + 1) mX11_bridges Q 12 [some (ax_r 0), some (ax_i x1), some (ax_i (x2 ||| ((1 : Int32) <<< (x3 &&& 31)))), some (ax_i (x3 + (1 : Int32))), none] [] σ) : ax_W shC (d + 1) mX11_bridges Q 56 [some (ax_r 0), some (ax_i x1), some (ax_i x2), some (ax_i x3), none] [ax_i rr] σ := by
  refine ax_aload_n (q := 57) (i := 0) dX11_bridges_56 rfl rfl rfl ?_
  refine ax_get (q := 60) (k := 0) (j := 4) (v := ax_r 5) dX11_bridges_57 rfl shC_0 rfl rfl rfl (by decide) fl_X11_42 ?_
  refine ax_get (q := 63) (k := 5) (j := 6) (v := ax_r 29) dX11_bridges_60 rfl shC_5 rfl rfl rfl (by decide) fl_X11_206 ?_
  refine ax_iload_n (q := 64) (i := 3) dX11_bridges_63 rfl rfl rfl ?_
  refine ax_iald (q := 65) (a := (Int32.toNatClampNeg x3)) (v := (σ.1 29 (Int32.toNatClampNeg x3))) dX11_bridges_64 rfl shC_29 h1 rfl rfl ?_
  refine ax_callSfi (q := 68) (As := [ax_i rr, ax_i (σ.1 29 (Int32.toNatClampNeg x3))]) (st := []) (x := ((rr >>> ((σ.1 29 (Int32.toNatClampNeg x3)) &&& 31)) &&& (1 : Int32))) (σ2 := σ) dX11_bridges_65 rfl lk_X11_215 rfl rfl (Nat.le_of_ble_eq_true rfl) (f_X11_bitOf (sh := shC) σ rr (σ.1 29 (Int32.toNatClampNeg x3))  (d := d) (by omega)) ?_
  refine ax_if_ne (tgt := 77) (q := 71) dX11_bridges_68 (by decide) rfl (fun c1 => ?_) (fun c1 => ?_)
  · refine ax_iincK (q := 80) (lv2 := [some (ax_r 0), some (ax_i x1), some (ax_i x2), some (ax_i (x3 + (1 : Int32))), none]) dX11_bridges_77 rfl rfl ki_1 (by decide) rfl rfl ?_
    refine ax_goto (tgt := 12) dX11_bridges_80 (by decide) ?_
    exact (k2 c1)
  · refine ax_iload_n (q := 72) (i := 2) dX11_bridges_71 rfl rfl rfl ?_
    refine ax_iconst (q := 73) dX11_bridges_72 rfl ki_1 ?_
    refine ax_iload_n (q := 74) (i := 3) dX11_bridges_73 rfl rfl rfl ?_
    refine ax_ishl (q := 75) dX11_bridges_74 rfl ?_
    refine ax_ior (q := 76) dX11_bridges_75 rfl ?_
    refine ax_istore_n (q := 77) (i := 2) (lv2 := [some (ax_r 0), some (ax_i x1), some (ax_i (x2 ||| ((1 : Int32) <<< (x3 &&& 31)))), some (ax_i x3), none]) dX11_bridges_76 rfl rfl (by decide) rfl rfl ?_
    refine ax_iincK (q := 80) (lv2 := [some (ax_r 0), some (ax_i x1), some (ax_i (x2 ||| ((1 : Int32) <<< (x3 &&& 31)))), some (ax_i (x3 + (1 : Int32))), none]) dX11_bridges_77 rfl rfl ki_1 (by decide) rfl rfl ?_
    refine ax_goto (tgt := 12) dX11_bridges_80 (by decide) ?_
    exact (k3 c1)
set_option maxRecDepth 20000 in
theorem s_X11_rings_0 {d : Nat} (hd : 0 ≤ d) {Q : Option ax_V → ax_S → Prop} (σ : ax_S)  (k1 : ax_Ct shC d mX0_live [ax_r 5] (fun r u => ∃ x : Int32, r = some (ax_i x) ∧ ax_W shC (d + 1) mX11_rings Q 7 [some (ax_r 0), none, none, none] (ax_i x :: []) u) σ) : ax_W shC (d + 1) mX11_rings Q 0 [some (ax_r 0), none, none, none] [] σ := by
  refine ax_aload_n (q := 1) (i := 0) dX11_rings_0 rfl rfl rfl ?_
  refine ax_get (q := 4) (k := 0) (j := 4) (v := ax_r 5) dX11_rings_1 rfl shC_0 rfl rfl rfl (by decide) fl_X11_42 ?_
  exact ax_callVci (q := 7) (As := []) (st := []) dX11_rings_4 rfl lk_X11_185 shC_5 rfl rfl rfl rfl (Nat.le_of_ble_eq_true rfl) k1
set_option maxRecDepth 20000 in
theorem s_X11_rings_7 {d : Nat} (hd : 0 ≤ d) {Q : Option ax_V → ax_S → Prop} (σ : ax_S) (rr : Int32) (k1 : ax_W shC (d + 1) mX11_rings Q 12 [some (ax_r 0), some (ax_i rr), some (ax_i (0 : Int32)), some (ax_i (0 : Int32))] [] σ) : ax_W shC (d + 1) mX11_rings Q 7 [some (ax_r 0), none, none, none] [ax_i rr] σ := by
  refine ax_istore_n (q := 8) (i := 1) (lv2 := [some (ax_r 0), some (ax_i rr), none, none]) dX11_rings_7 rfl rfl (by decide) rfl rfl ?_
  refine ax_iconst (q := 9) dX11_rings_8 rfl ki_0 ?_
  refine ax_istore_n (q := 10) (i := 2) (lv2 := [some (ax_r 0), some (ax_i rr), some (ax_i (0 : Int32)), none]) dX11_rings_9 rfl rfl (by decide) rfl rfl ?_
  refine ax_iconst (q := 11) dX11_rings_10 rfl ki_0 ?_
  refine ax_istore_n (q := 12) (i := 3) (lv2 := [some (ax_r 0), some (ax_i rr), some (ax_i (0 : Int32)), some (ax_i (0 : Int32))]) dX11_rings_11 rfl rfl (by decide) rfl rfl ?_
  exact k1
set_option maxRecDepth 20000 in
theorem s_X11_rings_12 {d : Nat} (hd : 1 ≤ d) {Q : Option ax_V → ax_S → Prop} (σ : ax_S) (x1 : Int32) (x2 : Int32) (x3 : Int32) (k1 : ((σ.1 5 9) ≤ x3) → Q (some (ax_i ((v_J6_bitCount_0f7a4 x1) - ((σ.1 5 9) - x2)))) σ) (k2 : (¬ ((σ.1 5 9) ≤ x3)) → ax_Ct shC d mX0_reach [ax_r 5, ax_i x1, ax_i x3] (fun r u => ∃ x : Int32, r = some (ax_i x) ∧ ax_W shC (d + 1) mX11_rings Q 32 [some (ax_r 0), some (ax_i x1), some (ax_i x2), some (ax_i x3)] (ax_i x :: []) u) σ) : ax_W shC (d + 1) mX11_rings Q 12 [some (ax_r 0), some (ax_i x1), some (ax_i x2), some (ax_i x3)] [] σ := by
  refine ax_iload_n (q := 13) (i := 3) dX11_rings_12 rfl rfl rfl ?_
  refine ax_aload_n (q := 14) (i := 0) dX11_rings_13 rfl rfl rfl ?_
  refine ax_get (q := 17) (k := 0) (j := 4) (v := ax_r 5) dX11_rings_14 rfl shC_0 rfl rfl rfl (by decide) fl_X11_42 ?_
  refine ax_get (q := 20) (k := 5) (j := 9) (v := ax_i (σ.1 5 9)) dX11_rings_17 rfl shC_5 rfl rfl rfl (by decide) fl_X11_154 ?_
  refine ax_icmp_ge (tgt := 50) (q := 23) dX11_rings_20 (by decide) rfl (fun c1 => ?_) (fun c1 => ?_)
  · refine ax_iload_n (q := 51) (i := 1) dX11_rings_50 rfl rfl rfl ?_
    refine ax_callSfi (q := 54) (As := [ax_i x1]) (st := []) (x := (v_J6_bitCount_0f7a4 x1)) (σ2 := σ) dX11_rings_51 rfl lk_X11_193 rfl rfl (Nat.le_of_ble_eq_true rfl) (f_J6_bitCount_0f7a4 (sh := shC) σ x1  (d := d) (by omega)) ?_
    refine ax_aload_n (q := 55) (i := 0) dX11_rings_54 rfl rfl rfl ?_
    refine ax_get (q := 58) (k := 0) (j := 4) (v := ax_r 5) dX11_rings_55 rfl shC_0 rfl rfl rfl (by decide) fl_X11_42 ?_
    refine ax_get (q := 61) (k := 5) (j := 9) (v := ax_i (σ.1 5 9)) dX11_rings_58 rfl shC_5 rfl rfl rfl (by decide) fl_X11_154 ?_
    refine ax_iload_n (q := 62) (i := 2) dX11_rings_61 rfl rfl rfl ?_
    refine ax_isub (q := 63) dX11_rings_62 rfl ?_
    refine ax_isub (q := 64) dX11_rings_63 rfl ?_
    exact ax_iret dX11_rings_64 rfl rfl (k1 c1)
  · refine ax_aload_n (q := 24) (i := 0) dX11_rings_23 rfl rfl rfl ?_
    refine ax_get (q := 27) (k := 0) (j := 4) (v := ax_r 5) dX11_rings_24 rfl shC_0 rfl rfl rfl (by decide) fl_X11_42 ?_
    refine ax_iload_n (q := 28) (i := 1) dX11_rings_27 rfl rfl rfl ?_
    refine ax_iload_n (q := 29) (i := 3) dX11_rings_28 rfl rfl rfl ?_
    exact ax_callVci (q := 32) (As := [ax_i x1, ax_i x3]) (st := []) dX11_rings_29 rfl lk_X11_369 shC_5 rfl rfl rfl rfl (Nat.le_of_ble_eq_true rfl) (k2 c1)
set_option maxRecDepth 20000 in
theorem s_X11_rings_32 {d : Nat} (hd : 0 ≤ d) {Q : Option ax_V → ax_S → Prop} (σ : ax_S) (x1 : Int32) (x2 : Int32) (x3 : Int32) (rr : Int32) (k1 : (¬ (rr &&& (((1 : Int32) <<< (x3 &&& 31)) - (1 : Int32))) = 0) → ax_W shC (d + 1) mX11_rings Q 12 [some (ax_r 0), some (ax_i x1), some (ax_i x2), some (ax_i (x3 + (1 : Int32)))] [] σ) (k2 : (¬ (¬ (rr &&& (((1 : Int32) <<< (x3 &&& 31)) - (1 : Int32))) = 0)) → ax_W shC (d + 1) mX11_rings Q 12 [some (ax_r 0), some (ax_i x1), some (ax_i (x2 + (1 : Int32))), some (ax_i (x3 + (1 : Int32)))] [] σ) : ax_W shC (d + 1) mX11_rings Q 32 [some (ax_r 0), some (ax_i x1), some (ax_i x2), some (ax_i x3)] [ax_i rr] σ := by
  refine ax_iconst (q := 33) dX11_rings_32 rfl ki_1 ?_
  refine ax_iload_n (q := 34) (i := 3) dX11_rings_33 rfl rfl rfl ?_
  refine ax_ishl (q := 35) dX11_rings_34 rfl ?_
  refine ax_iconst (q := 36) dX11_rings_35 rfl ki_1 ?_
  refine ax_isub (q := 37) dX11_rings_36 rfl ?_
  refine ax_iand (q := 38) dX11_rings_37 rfl ?_
  refine ax_if_ne (tgt := 44) (q := 41) dX11_rings_38 (by decide) rfl (fun c1 => ?_) (fun c1 => ?_)
  · refine ax_iincK (q := 47) (lv2 := [some (ax_r 0), some (ax_i x1), some (ax_i x2), some (ax_i (x3 + (1 : Int32)))]) dX11_rings_44 rfl rfl ki_1 (by decide) rfl rfl ?_
    refine ax_goto (tgt := 12) dX11_rings_47 (by decide) ?_
    exact (k1 c1)
  · refine ax_iincK (q := 44) (lv2 := [some (ax_r 0), some (ax_i x1), some (ax_i (x2 + (1 : Int32))), some (ax_i x3)]) dX11_rings_41 rfl rfl ki_1 (by decide) rfl rfl ?_
    refine ax_iincK (q := 47) (lv2 := [some (ax_r 0), some (ax_i x1), some (ax_i (x2 + (1 : Int32))), some (ax_i (x3 + (1 : Int32)))]) dX11_rings_44 rfl rfl ki_1 (by decide) rfl rfl ?_
    refine ax_goto (tgt := 12) dX11_rings_47 (by decide) ?_
    exact (k2 c1)
set_option maxRecDepth 20000 in
theorem s_X11_net_0 {d : Nat} (hd : 1 ≤ d) {Q : Option ax_V → ax_S → Prop} (σ : ax_S) (a0 : Int32) (k1 : (¬ (¬ ((σ.1 5 9) ≤ 0))) → Q (some (ax_i (-1 : Int32))) σ) (k2 : (¬ ((σ.1 5 9) ≤ 0)) → ((a0 = 0) ∨ (¬ (¬ a0 = (1 : Int32)))) → (¬ a0 = 0) → ax_Ct shC d mX11_bridges [ax_r 0] (fun r u => ∃ x : Int32, r = some (ax_i x) ∧ ax_W shC (d + 1) mX11_net Q 31 [none, none] (ax_i x :: []) u) σ) (k3 : (¬ ((σ.1 5 9) ≤ 0)) → ((a0 = 0) ∨ (¬ (¬ a0 = (1 : Int32)))) → (¬ (¬ a0 = 0)) → ax_Ct shC d mX11_rings [ax_r 0] (fun r u => ∃ x : Int32, r = some (ax_i x) ∧ ax_W shC (d + 1) mX11_net Q 24 [none, none] (ax_i x :: []) u) σ) (k4 : (¬ ((σ.1 5 9) ≤ 0)) → (¬ ((a0 = 0) ∨ (¬ (¬ a0 = (1 : Int32))))) → Q (some (ax_i (-1 : Int32))) σ) : ax_W shC (d + 1) mX11_net Q 0 [some (ax_r 0), some (ax_i a0)] [] σ := by
  refine ax_aload_n (q := 1) (i := 0) dX11_net_0 rfl rfl rfl ?_
  refine ax_callVfi (q := 4) (As := []) (st := []) (x := (if (¬ ((σ.1 5 9) ≤ 0)) then (1 : Int32) else 0)) (σ2 := σ) dX11_net_1 rfl lk_X11_274 shC_0 rfl rfl rfl rfl (Nat.le_of_ble_eq_true rfl) (f_X11_hasBelt σ   (d := d) (by omega)) ?_
  refine ax_if_eqB (tgt := 14) (q := 7) dX11_net_4 (by decide) rfl (fun c1 => ?_) (fun c1 => ?_)
  · refine ax_iconst (q := 15) dX11_net_14 rfl ki_m1 ?_
    exact ax_iret dX11_net_15 rfl rfl (k1 c1)
  · refine ax_iload_n (q := 8) (i := 1) dX11_net_7 rfl rfl rfl ?_
    refine ax_callSfi (q := 11) (As := [ax_i a0]) (st := []) (x := (if ((a0 = 0) ∨ (¬ (¬ a0 = (1 : Int32)))) then (1 : Int32) else 0)) (σ2 := σ) dX11_net_8 rfl lk_X11_121 rfl rfl (Nat.le_of_ble_eq_true rfl) (f_X11_isBit (sh := shC) σ a0  (d := d) (by omega)) ?_
    refine ax_if_neB (tgt := 16) (q := 14) dX11_net_11 (by decide) rfl (fun c2 => ?_) (fun c2 => ?_)
    · refine ax_iload_n (q := 17) (i := 1) dX11_net_16 rfl rfl rfl ?_
      refine ax_if_ne (tgt := 27) (q := 20) dX11_net_17 (by decide) rfl (fun c3 => ?_) (fun c3 => ?_)
      · refine ax_aload_n (q := 28) (i := 0) dX11_net_27 rfl rfl rfl ?_
        refine ax_fg (lv2 := [none, none]) trivial ?_
        exact ax_callVci (q := 31) (As := []) (st := []) dX11_net_28 rfl lk_X11_375 shC_0 rfl rfl rfl rfl (Nat.le_of_ble_eq_true rfl) (k2 c1 c2 c3)
      · refine ax_aload_n (q := 21) (i := 0) dX11_net_20 rfl rfl rfl ?_
        refine ax_fg (lv2 := [none, none]) trivial ?_
        exact ax_callVci (q := 24) (As := []) (st := []) dX11_net_21 rfl lk_X11_372 shC_0 rfl rfl rfl rfl (Nat.le_of_ble_eq_true rfl) (k3 c1 c2 c3)
    · refine ax_iconst (q := 15) dX11_net_14 rfl ki_m1 ?_
      exact ax_iret dX11_net_15 rfl rfl (k4 c1 c2)
set_option maxRecDepth 20000 in
theorem s_X11_net_24 {d : Nat} (hd : 0 ≤ d) {Q : Option ax_V → ax_S → Prop} (σ : ax_S) (rr : Int32) (k1 : Q (some (ax_i rr)) σ) : ax_W shC (d + 1) mX11_net Q 24 [none, none] [ax_i rr] σ := by
  refine ax_goto (tgt := 31) dX11_net_24 (by decide) ?_
  exact ax_iret dX11_net_31 rfl rfl k1
set_option maxRecDepth 20000 in
theorem s_X11_net_31 {d : Nat} (hd : 0 ≤ d) {Q : Option ax_V → ax_S → Prop} (σ : ax_S) (rr : Int32) (k1 : Q (some (ax_i rr)) σ) : ax_W shC (d + 1) mX11_net Q 31 [none, none] [ax_i rr] σ := by
  exact ax_iret dX11_net_31 rfl rfl k1
set_option maxRecDepth 20000 in
theorem f_X11_far (σ : ax_S) (a0 : Int32) (a1 : Int32) (h1 : ((¬ (a0 < 0)) ∧ (¬ ((σ.1 5 9) ≤ a0))) → ((¬ (a1 < 0)) ∧ (¬ ((σ.1 5 9) ≤ a1))) → vp_in a0 8) (h2 : ((¬ (a0 < 0)) ∧ (¬ ((σ.1 5 9) ≤ a0))) → ((¬ (a1 < 0)) ∧ (¬ ((σ.1 5 9) ≤ a1))) → vp_in a1 8) {d : Nat} (hd : 2 ≤ d) : ax_Ct shC d mX11_far [ax_r 0, ax_i a0, ax_i a1] (fun r u => r = some (ax_i (if (¬ ((¬ (a0 < 0)) ∧ (¬ ((σ.1 5 9) ≤ a0)))) then (-1 : Int32) else (if (¬ ((¬ (a1 < 0)) ∧ (¬ ((σ.1 5 9) ≤ a1)))) then (-1 : Int32) else (if (0 : Int32) ≤ ((σ.1 23 (Int32.toNatClampNeg a0)) - (σ.1 23 (Int32.toNatClampNeg a1))) then ((σ.1 23 (Int32.toNatClampNeg a0)) - (σ.1 23 (Int32.toNatClampNeg a1))) else 0 - ((σ.1 23 (Int32.toNatClampNeg a0)) - (σ.1 23 (Int32.toNatClampNeg a1))))))) ∧ u = σ) σ := by
  obtain ⟨d, rfl⟩ : ∃ e, d = e + 1 := ⟨d - 1, by omega⟩
  refine ax_Ct.of (lv := [some (ax_r 0), some (ax_i a0), some (ax_i a1)]) (by decide +kernel) (fun ad => Nat.le_of_ble_eq_true rfl) (fun ad => rfl) ?_
  refine ax_aload_n (q := 1) (i := 0) dX11_far_0 rfl rfl rfl ?_
  refine ax_iload_n (q := 2) (i := 1) dX11_far_1 rfl rfl rfl ?_
  refine ax_callVfi (q := 5) (As := [ax_i a0]) (st := []) (x := (if ((¬ (a0 < 0)) ∧ (¬ ((σ.1 5 9) ≤ a0))) then (1 : Int32) else 0)) (σ2 := σ) dX11_far_2 rfl lk_X11_160 shC_0 rfl rfl rfl rfl (Nat.le_of_ble_eq_true rfl) (f_X11_isHouse σ a0  (d := d) (by omega)) ?_
  have K3 : ax_W shC (d + 1) mX11_far (fun r u => r = some (ax_i (if (¬ ((¬ (a0 < 0)) ∧ (¬ ((σ.1 5 9) ≤ a0)))) then (-1 : Int32) else (if (¬ ((¬ (a1 < 0)) ∧ (¬ ((σ.1 5 9) ≤ a1)))) then (-1 : Int32) else (if (0 : Int32) ≤ ((σ.1 23 (Int32.toNatClampNeg a0)) - (σ.1 23 (Int32.toNatClampNeg a1))) then ((σ.1 23 (Int32.toNatClampNeg a0)) - (σ.1 23 (Int32.toNatClampNeg a1))) else 0 - ((σ.1 23 (Int32.toNatClampNeg a0)) - (σ.1 23 (Int32.toNatClampNeg a1))))))) ∧ u = σ) 29 [some (ax_r 0), some (ax_i a0), some (ax_i a1)] [ax_i (if (¬ ((¬ (a0 < 0)) ∧ (¬ ((σ.1 5 9) ≤ a0)))) then (-1 : Int32) else (if (¬ ((¬ (a1 < 0)) ∧ (¬ ((σ.1 5 9) ≤ a1)))) then (-1 : Int32) else (if (0 : Int32) ≤ ((σ.1 23 (Int32.toNatClampNeg a0)) - (σ.1 23 (Int32.toNatClampNeg a1))) then ((σ.1 23 (Int32.toNatClampNeg a0)) - (σ.1 23 (Int32.toNatClampNeg a1))) else 0 - ((σ.1 23 (Int32.toNatClampNeg a0)) - (σ.1 23 (Int32.toNatClampNeg a1))))))] σ := by
    exact ax_iret dX11_far_29 rfl rfl ⟨rfl, rfl⟩
  refine ax_if_eqB (tgt := 28) (q := 8) dX11_far_5 (by decide) rfl (fun c1 => ?_) (fun c1 => ?_)
  · refine ax_iconst (q := 29) dX11_far_28 rfl ki_m1 ?_
    exact ax_cv (if_pos c1) K3
  · refine ax_aload_n (q := 9) (i := 0) dX11_far_8 rfl rfl rfl ?_
    refine ax_iload_n (q := 10) (i := 2) dX11_far_9 rfl rfl rfl ?_
    refine ax_callVfi (q := 13) (As := [ax_i a1]) (st := []) (x := (if ((¬ (a1 < 0)) ∧ (¬ ((σ.1 5 9) ≤ a1))) then (1 : Int32) else 0)) (σ2 := σ) dX11_far_10 rfl lk_X11_160 shC_0 rfl rfl rfl rfl (Nat.le_of_ble_eq_true rfl) (f_X11_isHouse σ a1  (d := d) (by omega)) ?_
    refine ax_if_eqB (tgt := 28) (q := 16) dX11_far_13 (by decide) rfl (fun c2 => ?_) (fun c2 => ?_)
    · refine ax_iconst (q := 29) dX11_far_28 rfl ki_m1 ?_
      exact ax_cv ((if_neg (fun y => y c1)).trans (if_pos c2)) K3
    · refine ax_aload_n (q := 17) (i := 0) dX11_far_16 rfl rfl rfl ?_
      refine ax_get (q := 20) (k := 0) (j := 4) (v := ax_r 5) dX11_far_17 rfl shC_0 rfl rfl rfl (by decide) fl_X11_42 ?_
      refine ax_iload_n (q := 21) (i := 1) dX11_far_20 rfl rfl rfl ?_
      refine ax_iload_n (q := 22) (i := 2) dX11_far_21 rfl rfl rfl ?_
      refine ax_callVfi (q := 25) (As := [ax_i a0, ax_i a1]) (st := []) (x := (if (0 : Int32) ≤ ((σ.1 23 (Int32.toNatClampNeg a0)) - (σ.1 23 (Int32.toNatClampNeg a1))) then ((σ.1 23 (Int32.toNatClampNeg a0)) - (σ.1 23 (Int32.toNatClampNeg a1))) else 0 - ((σ.1 23 (Int32.toNatClampNeg a0)) - (σ.1 23 (Int32.toNatClampNeg a1))))) (σ2 := σ) dX11_far_22 rfl lk_X11_378 shC_5 rfl rfl rfl rfl (Nat.le_of_ble_eq_true rfl) (f_X0_apart σ a0 a1 (h1 c1 c2) (h2 c1 c2) (d := d) (by omega)) ?_
      refine ax_goto (tgt := 29) dX11_far_25 (by decide) ?_
      exact ax_cv ((if_neg (fun y => y c1)).trans (if_neg (fun y => y c2))) K3
set_option maxRecDepth 20000 in
theorem s_X11_most_0 {d : Nat} (hd : 1 ≤ d) {Q : Option ax_V → ax_S → Prop} (σ : ax_S) (a0 : Int32) (k1 : (¬ ((σ.1 5 9) ≤ 0)) → (a0 = (0 : Int32)) → ax_Ct shC d mX0_highest [ax_r 5, ax_r 24] (fun r u => ∃ x : Int32, r = some (ax_i x) ∧ ax_W shC (d + 1) mX11_most Q 50 [none, none] (ax_i x :: []) u) σ) (k2 : (¬ ((σ.1 5 9) ≤ 0)) → (¬ (a0 = (0 : Int32))) → (a0 = (1 : Int32)) → ax_Ct shC d mX0_highest [ax_r 5, ax_r 27] (fun r u => ∃ x : Int32, r = some (ax_i x) ∧ ax_W shC (d + 1) mX11_most Q 65 [none, none] (ax_i x :: []) u) σ) (k3 : (¬ ((σ.1 5 9) ≤ 0)) → (¬ (a0 = (0 : Int32))) → (¬ (a0 = (1 : Int32))) → (a0 = (2 : Int32)) → ax_Ct shC d mX0_live [ax_r 5] (fun r u => ∃ x : Int32, r = some (ax_i x) ∧ ax_W shC (d + 1) mX11_most Q 77 [none, none] (ax_i x :: [ax_r 5]) u) σ) (k4 : (¬ ((σ.1 5 9) ≤ 0)) → (¬ (a0 = (0 : Int32))) → (¬ (a0 = (1 : Int32))) → (¬ (a0 = (2 : Int32))) → Q (some (ax_i (-1 : Int32))) σ) (k5 : (¬ (¬ ((σ.1 5 9) ≤ 0))) → Q (some (ax_i (-1 : Int32))) σ) : ax_W shC (d + 1) mX11_most Q 0 [some (ax_r 0), some (ax_i a0)] [] σ := by
  refine ax_aload_n (q := 1) (i := 0) dX11_most_0 rfl rfl rfl ?_
  refine ax_callVfi (q := 4) (As := []) (st := []) (x := (if (¬ ((σ.1 5 9) ≤ 0)) then (1 : Int32) else 0)) (σ2 := σ) dX11_most_1 rfl lk_X11_274 shC_0 rfl rfl rfl rfl (Nat.le_of_ble_eq_true rfl) (f_X11_hasBelt σ   (d := d) (by omega)) ?_
  refine ax_if_neB (tgt := 9) (q := 7) dX11_most_4 (by decide) rfl (fun c1 => ?_) (fun c1 => ?_)
  · refine ax_iload_n (q := 10) (i := 1) dX11_most_9 rfl rfl rfl ?_
    by_cases c2 : (a0 = (0 : Int32))
    · refine ax_tableIn (tgt := 36) (off := 26) dX11_most_10 (by rw [c2]; decide) (by rw [c2]; decide) (by rw [c2]; decide) (by decide) ?_
      refine ax_aload_n (q := 37) (i := 0) dX11_most_36 rfl rfl rfl ?_
      refine ax_get (q := 40) (k := 0) (j := 4) (v := ax_r 5) dX11_most_37 rfl shC_0 rfl rfl rfl (by decide) fl_X11_42 ?_
      refine ax_aload_n (q := 41) (i := 0) dX11_most_40 rfl rfl rfl ?_
      refine ax_get (q := 44) (k := 0) (j := 4) (v := ax_r 5) dX11_most_41 rfl shC_0 rfl rfl rfl (by decide) fl_X11_42 ?_
      refine ax_get (q := 47) (k := 5) (j := 1) (v := ax_r 24) dX11_most_44 rfl shC_5 rfl rfl rfl (by decide) fl_X11_173 ?_
      refine ax_fg (lv2 := [none, none]) trivial ?_
      exact ax_callVci (q := 50) (As := [ax_r 24]) (st := []) dX11_most_47 rfl lk_X11_381 shC_5 rfl rfl rfl rfl (Nat.le_of_ble_eq_true rfl) (k1 c1 c2)
    by_cases c3 : (a0 = (1 : Int32))
    · refine ax_tableIn (tgt := 51) (off := 41) dX11_most_10 (by rw [c3]; decide) (by rw [c3]; decide) (by rw [c3]; decide) (by decide) ?_
      refine ax_aload_n (q := 52) (i := 0) dX11_most_51 rfl rfl rfl ?_
      refine ax_get (q := 55) (k := 0) (j := 4) (v := ax_r 5) dX11_most_52 rfl shC_0 rfl rfl rfl (by decide) fl_X11_42 ?_
      refine ax_aload_n (q := 56) (i := 0) dX11_most_55 rfl rfl rfl ?_
      refine ax_get (q := 59) (k := 0) (j := 4) (v := ax_r 5) dX11_most_56 rfl shC_0 rfl rfl rfl (by decide) fl_X11_42 ?_
      refine ax_get (q := 62) (k := 5) (j := 4) (v := ax_r 27) dX11_most_59 rfl shC_5 rfl rfl rfl (by decide) fl_X11_182 ?_
      refine ax_fg (lv2 := [none, none]) trivial ?_
      exact ax_callVci (q := 65) (As := [ax_r 27]) (st := []) dX11_most_62 rfl lk_X11_381 shC_5 rfl rfl rfl rfl (Nat.le_of_ble_eq_true rfl) (k2 c1 c2 c3)
    by_cases c4 : (a0 = (2 : Int32))
    · refine ax_tableIn (tgt := 66) (off := 56) dX11_most_10 (by rw [c4]; decide) (by rw [c4]; decide) (by rw [c4]; decide) (by decide) ?_
      refine ax_aload_n (q := 67) (i := 0) dX11_most_66 rfl rfl rfl ?_
      refine ax_get (q := 70) (k := 0) (j := 4) (v := ax_r 5) dX11_most_67 rfl shC_0 rfl rfl rfl (by decide) fl_X11_42 ?_
      refine ax_aload_n (q := 71) (i := 0) dX11_most_70 rfl rfl rfl ?_
      refine ax_get (q := 74) (k := 0) (j := 4) (v := ax_r 5) dX11_most_71 rfl shC_0 rfl rfl rfl (by decide) fl_X11_42 ?_
      refine ax_fg (lv2 := [none, none]) trivial ?_
      exact ax_callVci (q := 77) (As := []) (st := [ax_r 5]) dX11_most_74 rfl lk_X11_185 shC_5 rfl rfl rfl rfl (Nat.le_of_ble_eq_true rfl) (k3 c1 c2 c3 c4)
    · refine ax_tableOut (tgt := 81) dX11_most_10 (by have z0 := ax_net (k := 0) (0) (by decide) c2; have z1 := ax_net (k := 1) (1) (by decide) c3; have z2 := ax_net (k := 2) (2) (by decide) c4; omega) (by decide) ?_
      refine ax_iconst (q := 82) dX11_most_81 rfl ki_m1 ?_
      exact ax_iret dX11_most_82 rfl rfl (k4 c1 c2 c3 c4)
  · refine ax_iconst (q := 8) dX11_most_7 rfl ki_m1 ?_
    exact ax_iret dX11_most_8 rfl rfl (k5 c1)
set_option maxRecDepth 20000 in
theorem s_X11_most_50 {d : Nat} (hd : 0 ≤ d) {Q : Option ax_V → ax_S → Prop} (σ : ax_S) (rr : Int32) (k1 : Q (some (ax_i rr)) σ) : ax_W shC (d + 1) mX11_most Q 50 [none, none] [ax_i rr] σ := by
  exact ax_iret dX11_most_50 rfl rfl k1
set_option maxRecDepth 20000 in
theorem s_X11_most_65 {d : Nat} (hd : 0 ≤ d) {Q : Option ax_V → ax_S → Prop} (σ : ax_S) (rr : Int32) (k1 : Q (some (ax_i rr)) σ) : ax_W shC (d + 1) mX11_most Q 65 [none, none] [ax_i rr] σ := by
  exact ax_iret dX11_most_65 rfl rfl k1
set_option maxRecDepth 20000 in
theorem s_X11_most_77 {d : Nat} (hd : 0 ≤ d) {Q : Option ax_V → ax_S → Prop} (σ : ax_S) (rr : Int32) (k1 : ax_Ct shC d mX0_saltiest [ax_r 5, ax_i rr] (fun r u => ∃ x : Int32, r = some (ax_i x) ∧ ax_W shC (d + 1) mX11_most Q 80 [none, none] (ax_i x :: []) u) σ) : ax_W shC (d + 1) mX11_most Q 77 [none, none] [ax_i rr, ax_r 5] σ := by
  exact ax_callVci (q := 80) (As := [ax_i rr]) (st := []) dX11_most_77 rfl lk_X11_385 shC_5 rfl rfl rfl rfl (Nat.le_of_ble_eq_true rfl) k1
set_option maxRecDepth 20000 in
theorem s_X11_most_80 {d : Nat} (hd : 0 ≤ d) {Q : Option ax_V → ax_S → Prop} (σ : ax_S) (rr : Int32) (k1 : Q (some (ax_i rr)) σ) : ax_W shC (d + 1) mX11_most Q 80 [none, none] [ax_i rr] σ := by
  exact ax_iret dX11_most_80 rfl rfl k1
set_option maxRecDepth 20000 in
theorem s_X11_mostKept_0 {d : Nat} (hd : 0 ≤ d) {Q : Option ax_V → ax_S → Prop} (σ : ax_S) (a0 : Int32) (a1 : Int32) (a2 : Int32) (a3 : Int32) (k1 : ax_Ct shC d mX8_fall [ax_r 6, ax_i a0, ax_i a1, ax_i a3] (fun r u => ∃ x : Int32, r = some (ax_i x) ∧ ax_W shC (d + 1) mX11_mostKept Q 11 [some (ax_r 0), some (ax_i a0), some (ax_i a1), some (ax_i a2), some (ax_i a3), none] (ax_i x :: []) u) σ) : ax_W shC (d + 1) mX11_mostKept Q 0 [some (ax_r 0), some (ax_i a0), some (ax_i a1), some (ax_i a2), some (ax_i a3), none] [] σ := by
  refine ax_aload_n (q := 1) (i := 0) dX11_mostKept_0 rfl rfl rfl ?_
  refine ax_get (q := 4) (k := 0) (j := 5) (v := ax_r 6) dX11_mostKept_1 rfl shC_0 rfl rfl rfl (by decide) fl_X11_51 ?_
  refine ax_iload_n (q := 5) (i := 1) dX11_mostKept_4 rfl rfl rfl ?_
  refine ax_iload_n (q := 6) (i := 2) dX11_mostKept_5 rfl rfl rfl ?_
  refine ax_iload (q := 8) dX11_mostKept_6 rfl rfl ?_
  exact ax_callVci (q := 11) (As := [ax_i a0, ax_i a1, ax_i a3]) (st := []) dX11_mostKept_8 rfl lk_X11_311 shC_6 rfl rfl rfl rfl (Nat.le_of_ble_eq_true rfl) k1
set_option maxRecDepth 20000 in
theorem s_X11_mostKept_11 {d : Nat} (hd : 0 ≤ d) {Q : Option ax_V → ax_S → Prop} (σ : ax_S) (x1 : Int32) (x2 : Int32) (x3 : Int32) (x4 : Int32) (rr : Int32) (h1 : vp_in x2 8) (k2 : ax_Ct shC d mX8_fall [ax_r 6, ax_i x1, ax_i x3, ax_i x4] (fun r u => ∃ x : Int32, r = some (ax_i x) ∧ ax_W shC (d + 1) mX11_mostKept Q 34 [some (ax_r 0), none, some (ax_i x2), none, none, some (ax_i (σ.1 32 (Int32.toNatClampNeg x2)))] (ax_i x :: []) u) σ) : ax_W shC (d + 1) mX11_mostKept Q 11 [some (ax_r 0), some (ax_i x1), some (ax_i x2), some (ax_i x3), some (ax_i x4), none] [ax_i rr] σ := by
  refine ax_popi (q := 12) dX11_mostKept_11 rfl ?_
  refine ax_aload_n (q := 13) (i := 0) dX11_mostKept_12 rfl rfl rfl ?_
  refine ax_get (q := 16) (k := 0) (j := 5) (v := ax_r 6) dX11_mostKept_13 rfl shC_0 rfl rfl rfl (by decide) fl_X11_51 ?_
  refine ax_get (q := 19) (k := 6) (j := 2) (v := ax_r 32) dX11_mostKept_16 rfl shC_6 rfl rfl rfl (by decide) fl_X11_315 ?_
  refine ax_iload_n (q := 20) (i := 2) dX11_mostKept_19 rfl rfl rfl ?_
  refine ax_iald (q := 21) (a := (Int32.toNatClampNeg x2)) (v := (σ.1 32 (Int32.toNatClampNeg x2))) dX11_mostKept_20 rfl shC_32 h1 rfl rfl ?_
  refine ax_istore (q := 23) (lv2 := [some (ax_r 0), some (ax_i x1), some (ax_i x2), some (ax_i x3), some (ax_i x4), some (ax_i (σ.1 32 (Int32.toNatClampNeg x2)))]) dX11_mostKept_21 rfl (by decide) rfl rfl ?_
  refine ax_aload_n (q := 24) (i := 0) dX11_mostKept_23 rfl rfl rfl ?_
  refine ax_get (q := 27) (k := 0) (j := 5) (v := ax_r 6) dX11_mostKept_24 rfl shC_0 rfl rfl rfl (by decide) fl_X11_51 ?_
  refine ax_iload_n (q := 28) (i := 1) dX11_mostKept_27 rfl rfl rfl ?_
  refine ax_iload_n (q := 29) (i := 3) dX11_mostKept_28 rfl rfl rfl ?_
  refine ax_iload (q := 31) dX11_mostKept_29 rfl rfl ?_
  refine ax_fg (lv2 := [some (ax_r 0), none, some (ax_i x2), none, none, some (ax_i (σ.1 32 (Int32.toNatClampNeg x2)))]) ⟨rfl, rfl, rfl, trivial⟩ ?_
  exact ax_callVci (q := 34) (As := [ax_i x1, ax_i x3, ax_i x4]) (st := []) dX11_mostKept_31 rfl lk_X11_311 shC_6 rfl rfl rfl rfl (Nat.le_of_ble_eq_true rfl) k2
set_option maxRecDepth 20000 in
theorem s_X11_mostKept_34 {d : Nat} (hd : 0 ≤ d) {Q : Option ax_V → ax_S → Prop} (σ : ax_S) (x2 : Int32) (x5 : Int32) (rr : Int32) (h1 : vp_in x2 8) (k2 : Q (some (ax_i (if x5 < (σ.1 32 (Int32.toNatClampNeg x2)) then (σ.1 32 (Int32.toNatClampNeg x2)) else x5))) σ) : ax_W shC (d + 1) mX11_mostKept Q 34 [some (ax_r 0), none, some (ax_i x2), none, none, some (ax_i x5)] [ax_i rr] σ := by
  refine ax_popi (q := 35) dX11_mostKept_34 rfl ?_
  refine ax_iload (q := 37) dX11_mostKept_35 rfl rfl ?_
  refine ax_aload_n (q := 38) (i := 0) dX11_mostKept_37 rfl rfl rfl ?_
  refine ax_get (q := 41) (k := 0) (j := 5) (v := ax_r 6) dX11_mostKept_38 rfl shC_0 rfl rfl rfl (by decide) fl_X11_51 ?_
  refine ax_get (q := 44) (k := 6) (j := 2) (v := ax_r 32) dX11_mostKept_41 rfl shC_6 rfl rfl rfl (by decide) fl_X11_315 ?_
  refine ax_iload_n (q := 45) (i := 2) dX11_mostKept_44 rfl rfl rfl ?_
  refine ax_iald (q := 46) (a := (Int32.toNatClampNeg x2)) (v := (σ.1 32 (Int32.toNatClampNeg x2))) dX11_mostKept_45 rfl shC_32 h1 rfl rfl ?_
  refine ax_mmax (q := 49) dX11_mostKept_46 rfl mk_X11_451 (Nat.le_of_ble_eq_true rfl) ?_
  exact ax_iret dX11_mostKept_49 rfl rfl k2
set_option maxRecDepth 20000 in
theorem s_X11_gain_0 {d : Nat} (hd : 0 ≤ d) {Q : Option ax_V → ax_S → Prop} (σ : ax_S) (a0 : Int32) (a1 : Int32) (a2 : Int32) (a3 : Int32) (k1 : (¬ a3 = (1 : Int32)) → ax_Ct shC d mX0_live [ax_r 5] (fun r u => ∃ x : Int32, r = some (ax_i x) ∧ ax_W shC (d + 1) mX11_gain Q 22 [some (ax_r 0), some (ax_i a0), some (ax_i a1), some (ax_i a2), none, none] (ax_i x :: []) u) σ) (k2 : (¬ (¬ a3 = (1 : Int32))) → ax_Ct shC d mX11_liveWith [ax_r 0, ax_i a0, ax_i a1] (fun r u => ∃ x : Int32, r = some (ax_i x) ∧ ax_W shC (d + 1) mX11_gain Q 12 [some (ax_r 0), some (ax_i a0), some (ax_i a1), some (ax_i a2), none, none] (ax_i x :: []) u) σ) : ax_W shC (d + 1) mX11_gain Q 0 [some (ax_r 0), some (ax_i a0), some (ax_i a1), some (ax_i a2), some (ax_i a3), none] [] σ := by
  refine ax_iload (q := 2) dX11_gain_0 rfl rfl ?_
  refine ax_iconst (q := 3) dX11_gain_2 rfl ki_1 ?_
  refine ax_icmp_ne (tgt := 15) (q := 6) dX11_gain_3 (by decide) rfl (fun c1 => ?_) (fun c1 => ?_)
  · refine ax_aload_n (q := 16) (i := 0) dX11_gain_15 rfl rfl rfl ?_
    refine ax_get (q := 19) (k := 0) (j := 4) (v := ax_r 5) dX11_gain_16 rfl shC_0 rfl rfl rfl (by decide) fl_X11_42 ?_
    refine ax_fg (lv2 := [some (ax_r 0), some (ax_i a0), some (ax_i a1), some (ax_i a2), none, none]) ⟨rfl, rfl, rfl, rfl, trivial⟩ ?_
    exact ax_callVci (q := 22) (As := []) (st := []) dX11_gain_19 rfl lk_X11_185 shC_5 rfl rfl rfl rfl (Nat.le_of_ble_eq_true rfl) (k1 c1)
  · refine ax_aload_n (q := 7) (i := 0) dX11_gain_6 rfl rfl rfl ?_
    refine ax_iload_n (q := 8) (i := 1) dX11_gain_7 rfl rfl rfl ?_
    refine ax_iload_n (q := 9) (i := 2) dX11_gain_8 rfl rfl rfl ?_
    refine ax_fg (lv2 := [some (ax_r 0), some (ax_i a0), some (ax_i a1), some (ax_i a2), none, none]) ⟨rfl, rfl, rfl, rfl, trivial⟩ ?_
    exact ax_callVci (q := 12) (As := [ax_i a0, ax_i a1]) (st := []) dX11_gain_9 rfl lk_X11_324 shC_0 rfl rfl rfl rfl (Nat.le_of_ble_eq_true rfl) (k2 c1)
set_option maxRecDepth 20000 in
theorem s_X11_gain_12 {d : Nat} (hd : 0 ≤ d) {Q : Option ax_V → ax_S → Prop} (σ : ax_S) (x1 : Int32) (x2 : Int32) (x3 : Int32) (rr : Int32) (h1 : vp_in x1 8) (k2 : ax_Ct shC d mX11_mostKept [ax_r 0, ax_i rr, ax_i x1, ax_i x2, ax_i x3] (fun r u => ∃ x : Int32, r = some (ax_i x) ∧ ax_W shC (d + 1) mX11_gain Q 42 [none, none, none, none, none, none] (ax_i x :: [ax_i (σ.1 25 (Int32.toNatClampNeg x1))]) u) σ) : ax_W shC (d + 1) mX11_gain Q 12 [some (ax_r 0), some (ax_i x1), some (ax_i x2), some (ax_i x3), none, none] [ax_i rr] σ := by
  refine ax_goto (tgt := 22) dX11_gain_12 (by decide) ?_
  refine ax_istore (q := 24) (lv2 := [some (ax_r 0), some (ax_i x1), some (ax_i x2), some (ax_i x3), none, some (ax_i rr)]) dX11_gain_22 rfl (by decide) rfl rfl ?_
  refine ax_aload_n (q := 25) (i := 0) dX11_gain_24 rfl rfl rfl ?_
  refine ax_get (q := 28) (k := 0) (j := 4) (v := ax_r 5) dX11_gain_25 rfl shC_0 rfl rfl rfl (by decide) fl_X11_42 ?_
  refine ax_get (q := 31) (k := 5) (j := 2) (v := ax_r 25) dX11_gain_28 rfl shC_5 rfl rfl rfl (by decide) fl_X11_176 ?_
  refine ax_iload_n (q := 32) (i := 1) dX11_gain_31 rfl rfl rfl ?_
  refine ax_iald (q := 33) (a := (Int32.toNatClampNeg x1)) (v := (σ.1 25 (Int32.toNatClampNeg x1))) dX11_gain_32 rfl shC_25 h1 rfl rfl ?_
  refine ax_aload_n (q := 34) (i := 0) dX11_gain_33 rfl rfl rfl ?_
  refine ax_iload (q := 36) dX11_gain_34 rfl rfl ?_
  refine ax_iload_n (q := 37) (i := 1) dX11_gain_36 rfl rfl rfl ?_
  refine ax_iload_n (q := 38) (i := 2) dX11_gain_37 rfl rfl rfl ?_
  refine ax_iload_n (q := 39) (i := 3) dX11_gain_38 rfl rfl rfl ?_
  refine ax_fg (lv2 := [none, none, none, none, none, none]) trivial ?_
  exact ax_callVci (q := 42) (As := [ax_i rr, ax_i x1, ax_i x2, ax_i x3]) (st := [ax_i (σ.1 25 (Int32.toNatClampNeg x1))]) dX11_gain_39 rfl lk_X11_454 shC_0 rfl rfl rfl rfl (Nat.le_of_ble_eq_true rfl) k2
set_option maxRecDepth 20000 in
theorem s_X11_gain_22 {d : Nat} (hd : 0 ≤ d) {Q : Option ax_V → ax_S → Prop} (σ : ax_S) (x1 : Int32) (x2 : Int32) (x3 : Int32) (rr : Int32) (h1 : vp_in x1 8) (k2 : ax_Ct shC d mX11_mostKept [ax_r 0, ax_i rr, ax_i x1, ax_i x2, ax_i x3] (fun r u => ∃ x : Int32, r = some (ax_i x) ∧ ax_W shC (d + 1) mX11_gain Q 42 [none, none, none, none, none, none] (ax_i x :: [ax_i (σ.1 25 (Int32.toNatClampNeg x1))]) u) σ) : ax_W shC (d + 1) mX11_gain Q 22 [some (ax_r 0), some (ax_i x1), some (ax_i x2), some (ax_i x3), none, none] [ax_i rr] σ := by
  refine ax_istore (q := 24) (lv2 := [some (ax_r 0), some (ax_i x1), some (ax_i x2), some (ax_i x3), none, some (ax_i rr)]) dX11_gain_22 rfl (by decide) rfl rfl ?_
  refine ax_aload_n (q := 25) (i := 0) dX11_gain_24 rfl rfl rfl ?_
  refine ax_get (q := 28) (k := 0) (j := 4) (v := ax_r 5) dX11_gain_25 rfl shC_0 rfl rfl rfl (by decide) fl_X11_42 ?_
  refine ax_get (q := 31) (k := 5) (j := 2) (v := ax_r 25) dX11_gain_28 rfl shC_5 rfl rfl rfl (by decide) fl_X11_176 ?_
  refine ax_iload_n (q := 32) (i := 1) dX11_gain_31 rfl rfl rfl ?_
  refine ax_iald (q := 33) (a := (Int32.toNatClampNeg x1)) (v := (σ.1 25 (Int32.toNatClampNeg x1))) dX11_gain_32 rfl shC_25 h1 rfl rfl ?_
  refine ax_aload_n (q := 34) (i := 0) dX11_gain_33 rfl rfl rfl ?_
  refine ax_iload (q := 36) dX11_gain_34 rfl rfl ?_
  refine ax_iload_n (q := 37) (i := 1) dX11_gain_36 rfl rfl rfl ?_
  refine ax_iload_n (q := 38) (i := 2) dX11_gain_37 rfl rfl rfl ?_
  refine ax_iload_n (q := 39) (i := 3) dX11_gain_38 rfl rfl rfl ?_
  refine ax_fg (lv2 := [none, none, none, none, none, none]) trivial ?_
  exact ax_callVci (q := 42) (As := [ax_i rr, ax_i x1, ax_i x2, ax_i x3]) (st := [ax_i (σ.1 25 (Int32.toNatClampNeg x1))]) dX11_gain_39 rfl lk_X11_454 shC_0 rfl rfl rfl rfl (Nat.le_of_ble_eq_true rfl) k2
set_option maxRecDepth 20000 in
theorem s_X11_gain_42 {d : Nat} (hd : 0 ≤ d) {Q : Option ax_V → ax_S → Prop} (σ : ax_S) (rr : Int32) (y0 : Int32) (k1 : Q (some (ax_i (y0 - rr))) σ) : ax_W shC (d + 1) mX11_gain Q 42 [none, none, none, none, none, none] [ax_i rr, ax_i y0] σ := by
  refine ax_isub (q := 43) dX11_gain_42 rfl ?_
  exact ax_iret dX11_gain_43 rfl rfl k1
set_option maxRecDepth 20000 in
theorem s_X11_mayPlay_0 {d : Nat} (hd : 2 ≤ d) {Q : Option ax_V → ax_S → Prop} (σ : ax_S) (a0 : Int32) (a1 : Int32) (a2 : Int32) (k1 : (¬ (((¬ (a0 < 0)) ∧ (¬ ((σ.1 5 9) ≤ a0))) ∧ (((¬ (a1 < 0)) ∧ (¬ ((σ.1 5 9) ≤ a1))) ∧ (¬ (a0 = a1))))) → Q (some (ax_i (0 : Int32))) σ) (k2 : (((¬ (a0 < 0)) ∧ (¬ ((σ.1 5 9) ≤ a0))) ∧ (((¬ (a1 < 0)) ∧ (¬ ((σ.1 5 9) ≤ a1))) ∧ (¬ (a0 = a1)))) → (¬ ((¬ (a2 < (1 : Int32))) ∧ (¬ ((999 : Int32) < a2)))) → Q (some (ax_i (0 : Int32))) σ) (k3 : (((¬ (a0 < 0)) ∧ (¬ ((σ.1 5 9) ≤ a0))) ∧ (((¬ (a1 < 0)) ∧ (¬ ((σ.1 5 9) ≤ a1))) ∧ (¬ (a0 = a1)))) → ((¬ (a2 < (1 : Int32))) ∧ (¬ ((999 : Int32) < a2))) → ax_Ct shC d mX0_mayJoin [ax_r 5, ax_i a0, ax_i a1] (fun r u => ∃ x : Int32, r = some (ax_i x) ∧ ax_W shC (d + 1) mX11_mayPlay Q 25 [none, none, none, none] (ax_i x :: []) u) σ) : ax_W shC (d + 1) mX11_mayPlay Q 0 [some (ax_r 0), some (ax_i a0), some (ax_i a1), some (ax_i a2)] [] σ := by
  refine ax_aload_n (q := 1) (i := 0) dX11_mayPlay_0 rfl rfl rfl ?_
  refine ax_iload_n (q := 2) (i := 1) dX11_mayPlay_1 rfl rfl rfl ?_
  refine ax_iload_n (q := 3) (i := 2) dX11_mayPlay_2 rfl rfl rfl ?_
  refine ax_callVfi (q := 6) (As := [ax_i a0, ax_i a1]) (st := []) (x := (if (((¬ (a0 < 0)) ∧ (¬ ((σ.1 5 9) ≤ a0))) ∧ (((¬ (a1 < 0)) ∧ (¬ ((σ.1 5 9) ≤ a1))) ∧ (¬ (a0 = a1)))) then (1 : Int32) else 0)) (σ2 := σ) dX11_mayPlay_3 rfl lk_X11_254 shC_0 rfl rfl rfl rfl (Nat.le_of_ble_eq_true rfl) (f_X11_areTwoHouses σ a0 a1  (d := d) (by omega)) ?_
  refine ax_if_eqB (tgt := 32) (q := 9) dX11_mayPlay_6 (by decide) rfl (fun c1 => ?_) (fun c1 => ?_)
  · refine ax_iconst (q := 33) dX11_mayPlay_32 rfl ki_0 ?_
    exact ax_iret dX11_mayPlay_33 rfl rfl (k1 c1)
  · refine ax_iload_n (q := 10) (i := 3) dX11_mayPlay_9 rfl rfl rfl ?_
    refine ax_callSfi (q := 13) (As := [ax_i a2]) (st := []) (x := (if ((¬ (a2 < (1 : Int32))) ∧ (¬ ((999 : Int32) < a2))) then (1 : Int32) else 0)) (σ2 := σ) dX11_mayPlay_10 rfl lk_X11_245 rfl rfl (Nat.le_of_ble_eq_true rfl) (f_X11_isStroke (sh := shC) σ a2  (d := d) (by omega)) ?_
    refine ax_if_eqB (tgt := 32) (q := 16) dX11_mayPlay_13 (by decide) rfl (fun c2 => ?_) (fun c2 => ?_)
    · refine ax_iconst (q := 33) dX11_mayPlay_32 rfl ki_0 ?_
      exact ax_iret dX11_mayPlay_33 rfl rfl (k2 c1 c2)
    · refine ax_aload_n (q := 17) (i := 0) dX11_mayPlay_16 rfl rfl rfl ?_
      refine ax_get (q := 20) (k := 0) (j := 4) (v := ax_r 5) dX11_mayPlay_17 rfl shC_0 rfl rfl rfl (by decide) fl_X11_42 ?_
      refine ax_iload_n (q := 21) (i := 1) dX11_mayPlay_20 rfl rfl rfl ?_
      refine ax_iload_n (q := 22) (i := 2) dX11_mayPlay_21 rfl rfl rfl ?_
      refine ax_fg (lv2 := [none, none, none, none]) trivial ?_
      exact ax_callVci (q := 25) (As := [ax_i a0, ax_i a1]) (st := []) dX11_mayPlay_22 rfl lk_X11_258 shC_5 rfl rfl rfl rfl (Nat.le_of_ble_eq_true rfl) (k3 c1 c2)
set_option maxRecDepth 20000 in
theorem s_X11_mayPlay_25 {d : Nat} (hd : 0 ≤ d) {Q : Option ax_V → ax_S → Prop} (σ : ax_S) (rr : Int32) (k1 : Q (some (ax_i (if (¬ (rr = 0)) then (1 : Int32) else 0))) σ) : ax_W shC (d + 1) mX11_mayPlay Q 25 [none, none, none, none] [ax_i rr] σ := by
  have K2 : ax_W shC (d + 1) mX11_mayPlay Q 33 [none, none, none, none] [ax_i (if (¬ (rr = 0)) then (1 : Int32) else 0)] σ := by
    exact ax_iret dX11_mayPlay_33 rfl (ax_nb _) k1
  refine ax_if_eq (tgt := 32) (q := 28) dX11_mayPlay_25 (by decide) rfl (fun c1 => ?_) (fun c1 => ?_)
  · refine ax_iconst (q := 33) dX11_mayPlay_32 rfl ki_0 ?_
    exact ax_cv (if_neg (fun y => y c1)) K2
  · refine ax_iconst (q := 29) dX11_mayPlay_28 rfl ki_1 ?_
    refine ax_goto (tgt := 33) dX11_mayPlay_29 (by decide) ?_
    exact ax_cv (if_pos c1) K2
set_option maxRecDepth 20000 in
theorem s_X11_game_0 {d : Nat} (hd : 0 ≤ d) {Q : Option ax_V → ax_S → Prop} (σ : ax_S) (a0 : Int32) (a1 : Int32) (a2 : Int32) (a3 : Int32) (a4 : Int32) (a5 : Int32) (k1 : ax_Ct shC d mX11_mayPlay [ax_r 0, ax_i a0, ax_i a1, ax_i a2] (fun r u => ∃ x : Int32, r = some (ax_i x) ∧ ax_W shC (d + 1) mX11_game Q 7 [some (ax_r 0), some (ax_i a0), some (ax_i a1), some (ax_i a2), some (ax_i a3), some (ax_i a4), some (ax_i a5)] (ax_i x :: []) u) σ) : ax_W shC (d + 1) mX11_game Q 0 [some (ax_r 0), some (ax_i a0), some (ax_i a1), some (ax_i a2), some (ax_i a3), some (ax_i a4), some (ax_i a5)] [] σ := by
  refine ax_aload_n (q := 1) (i := 0) dX11_game_0 rfl rfl rfl ?_
  refine ax_iload_n (q := 2) (i := 1) dX11_game_1 rfl rfl rfl ?_
  refine ax_iload_n (q := 3) (i := 2) dX11_game_2 rfl rfl rfl ?_
  refine ax_iload_n (q := 4) (i := 3) dX11_game_3 rfl rfl rfl ?_
  exact ax_callVci (q := 7) (As := [ax_i a0, ax_i a1, ax_i a2]) (st := []) dX11_game_4 rfl lk_X11_388 shC_0 rfl rfl rfl rfl (Nat.le_of_ble_eq_true rfl) k1
set_option maxRecDepth 20000 in
theorem s_X11_game_7 {d : Nat} (hd : 1 ≤ d) {Q : Option ax_V → ax_S → Prop} (σ : ax_S) (x1 : Int32) (x2 : Int32) (x3 : Int32) (x4 : Int32) (x5 : Int32) (x6 : Int32) (rr : Int32) (k1 : (rr = 0) → Q (some (ax_i (-1000000 : Int32))) σ) (k2 : (¬ (rr = 0)) → (¬ ((x4 = 0) ∨ (¬ (¬ x4 = (1 : Int32))))) → Q (some (ax_i (-1000000 : Int32))) σ) (k3 : (¬ (rr = 0)) → ((x4 = 0) ∨ (¬ (¬ x4 = (1 : Int32)))) → (¬ ((x5 = 0) ∨ (¬ (¬ x5 = (1 : Int32))))) → Q (some (ax_i (-1000000 : Int32))) σ) (k4 : (¬ (rr = 0)) → ((x4 = 0) ∨ (¬ (¬ x4 = (1 : Int32)))) → ((x5 = 0) ∨ (¬ (¬ x5 = (1 : Int32)))) → ((x6 = 0) ∨ (¬ (¬ x6 = (1 : Int32)))) → (¬ x6 = 0) → ax_Ct shC d mX11_gain [ax_r 0, ax_i x2, ax_i x1, ax_i x3, ax_i (x4 &&& x5)] (fun r u => ∃ x : Int32, r = some (ax_i x) ∧ ax_W shC (d + 1) mX11_game Q 69 [none, none, none, none, none, none, none] (ax_i x :: []) u) σ) (k5 : (¬ (rr = 0)) → ((x4 = 0) ∨ (¬ (¬ x4 = (1 : Int32)))) → ((x5 = 0) ∨ (¬ (¬ x5 = (1 : Int32)))) → ((x6 = 0) ∨ (¬ (¬ x6 = (1 : Int32)))) → (¬ (¬ x6 = 0)) → ax_Ct shC d mX11_gain [ax_r 0, ax_i x1, ax_i x2, ax_i x3, ax_i (x4 &&& x5)] (fun r u => ∃ x : Int32, r = some (ax_i x) ∧ ax_W shC (d + 1) mX11_game Q 54 [none, none, none, none, none, none, none] (ax_i x :: []) u) σ) (k6 : (¬ (rr = 0)) → ((x4 = 0) ∨ (¬ (¬ x4 = (1 : Int32)))) → ((x5 = 0) ∨ (¬ (¬ x5 = (1 : Int32)))) → (¬ ((x6 = 0) ∨ (¬ (¬ x6 = (1 : Int32))))) → Q (some (ax_i (-1000000 : Int32))) σ) : ax_W shC (d + 1) mX11_game Q 7 [some (ax_r 0), some (ax_i x1), some (ax_i x2), some (ax_i x3), some (ax_i x4), some (ax_i x5), some (ax_i x6)] [ax_i rr] σ := by
  refine ax_if_eq (tgt := 34) (q := 10) dX11_game_7 (by decide) rfl (fun c1 => ?_) (fun c1 => ?_)
  · refine ax_ldc (q := 36) dX11_game_34 rfl kc_X11_241 ?_
    exact ax_iret dX11_game_36 rfl rfl (k1 c1)
  · refine ax_iload (q := 12) dX11_game_10 rfl rfl ?_
    refine ax_callSfi (q := 15) (As := [ax_i x4]) (st := []) (x := (if ((x4 = 0) ∨ (¬ (¬ x4 = (1 : Int32)))) then (1 : Int32) else 0)) (σ2 := σ) dX11_game_12 rfl lk_X11_121 rfl rfl (Nat.le_of_ble_eq_true rfl) (f_X11_isBit (sh := shC) σ x4  (d := d) (by omega)) ?_
    refine ax_if_eqB (tgt := 34) (q := 18) dX11_game_15 (by decide) rfl (fun c2 => ?_) (fun c2 => ?_)
    · refine ax_ldc (q := 36) dX11_game_34 rfl kc_X11_241 ?_
      exact ax_iret dX11_game_36 rfl rfl (k2 c1 c2)
    · refine ax_iload (q := 20) dX11_game_18 rfl rfl ?_
      refine ax_callSfi (q := 23) (As := [ax_i x5]) (st := []) (x := (if ((x5 = 0) ∨ (¬ (¬ x5 = (1 : Int32)))) then (1 : Int32) else 0)) (σ2 := σ) dX11_game_20 rfl lk_X11_121 rfl rfl (Nat.le_of_ble_eq_true rfl) (f_X11_isBit (sh := shC) σ x5  (d := d) (by omega)) ?_
      refine ax_if_eqB (tgt := 34) (q := 26) dX11_game_23 (by decide) rfl (fun c3 => ?_) (fun c3 => ?_)
      · refine ax_ldc (q := 36) dX11_game_34 rfl kc_X11_241 ?_
        exact ax_iret dX11_game_36 rfl rfl (k3 c1 c2 c3)
      · refine ax_iload (q := 28) dX11_game_26 rfl rfl ?_
        refine ax_callSfi (q := 31) (As := [ax_i x6]) (st := []) (x := (if ((x6 = 0) ∨ (¬ (¬ x6 = (1 : Int32)))) then (1 : Int32) else 0)) (σ2 := σ) dX11_game_28 rfl lk_X11_121 rfl rfl (Nat.le_of_ble_eq_true rfl) (f_X11_isBit (sh := shC) σ x6  (d := d) (by omega)) ?_
        refine ax_if_neB (tgt := 37) (q := 34) dX11_game_31 (by decide) rfl (fun c4 => ?_) (fun c4 => ?_)
        · refine ax_iload (q := 39) dX11_game_37 rfl rfl ?_
          refine ax_if_ne (tgt := 57) (q := 42) dX11_game_39 (by decide) rfl (fun c5 => ?_) (fun c5 => ?_)
          · refine ax_aload_n (q := 58) (i := 0) dX11_game_57 rfl rfl rfl ?_
            refine ax_iload_n (q := 59) (i := 2) dX11_game_58 rfl rfl rfl ?_
            refine ax_iload_n (q := 60) (i := 1) dX11_game_59 rfl rfl rfl ?_
            refine ax_iload_n (q := 61) (i := 3) dX11_game_60 rfl rfl rfl ?_
            refine ax_iload (q := 63) dX11_game_61 rfl rfl ?_
            refine ax_iload (q := 65) dX11_game_63 rfl rfl ?_
            refine ax_iand (q := 66) dX11_game_65 rfl ?_
            refine ax_fg (lv2 := [none, none, none, none, none, none, none]) trivial ?_
            exact ax_callVci (q := 69) (As := [ax_i x2, ax_i x1, ax_i x3, ax_i (x4 &&& x5)]) (st := []) dX11_game_66 rfl lk_X11_392 shC_0 rfl rfl rfl rfl (Nat.le_of_ble_eq_true rfl) (k4 c1 c2 c3 c4 c5)
          · refine ax_aload_n (q := 43) (i := 0) dX11_game_42 rfl rfl rfl ?_
            refine ax_iload_n (q := 44) (i := 1) dX11_game_43 rfl rfl rfl ?_
            refine ax_iload_n (q := 45) (i := 2) dX11_game_44 rfl rfl rfl ?_
            refine ax_iload_n (q := 46) (i := 3) dX11_game_45 rfl rfl rfl ?_
            refine ax_iload (q := 48) dX11_game_46 rfl rfl ?_
            refine ax_iload (q := 50) dX11_game_48 rfl rfl ?_
            refine ax_iand (q := 51) dX11_game_50 rfl ?_
            refine ax_fg (lv2 := [none, none, none, none, none, none, none]) trivial ?_
            exact ax_callVci (q := 54) (As := [ax_i x1, ax_i x2, ax_i x3, ax_i (x4 &&& x5)]) (st := []) dX11_game_51 rfl lk_X11_392 shC_0 rfl rfl rfl rfl (Nat.le_of_ble_eq_true rfl) (k5 c1 c2 c3 c4 c5)
        · refine ax_ldc (q := 36) dX11_game_34 rfl kc_X11_241 ?_
          exact ax_iret dX11_game_36 rfl rfl (k6 c1 c2 c3 c4)
set_option maxRecDepth 20000 in
theorem s_X11_game_54 {d : Nat} (hd : 0 ≤ d) {Q : Option ax_V → ax_S → Prop} (σ : ax_S) (rr : Int32) (k1 : Q (some (ax_i rr)) σ) : ax_W shC (d + 1) mX11_game Q 54 [none, none, none, none, none, none, none] [ax_i rr] σ := by
  refine ax_goto (tgt := 69) dX11_game_54 (by decide) ?_
  exact ax_iret dX11_game_69 rfl rfl k1
set_option maxRecDepth 20000 in
theorem s_X11_game_69 {d : Nat} (hd : 0 ≤ d) {Q : Option ax_V → ax_S → Prop} (σ : ax_S) (rr : Int32) (k1 : Q (some (ax_i rr)) σ) : ax_W shC (d + 1) mX11_game Q 69 [none, none, none, none, none, none, none] [ax_i rr] σ := by
  exact ax_iret dX11_game_69 rfl rfl k1
set_option maxRecDepth 20000 in
theorem s_X11_isRest_0 {d : Nat} (hd : 0 ≤ d) {Q : Option ax_V → ax_S → Prop} (σ : ax_S) (a0 : Int32) (a1 : Int32) (a2 : Int32) (a3 : Int32) (a4 : Int32) (k1 : ax_Ct shC d mX11_gain [ax_r 0, ax_i a0, ax_i a1, ax_i a2, ax_i (a3 &&& a4)] (fun r u => ∃ x : Int32, r = some (ax_i x) ∧ ax_W shC (d + 1) mX11_isRest Q 12 [some (ax_r 0), some (ax_i a0), some (ax_i a1), some (ax_i a2), some (ax_i a3), some (ax_i a4)] (ax_i x :: []) u) σ) : ax_W shC (d + 1) mX11_isRest Q 0 [some (ax_r 0), some (ax_i a0), some (ax_i a1), some (ax_i a2), some (ax_i a3), some (ax_i a4)] [] σ := by
  refine ax_aload_n (q := 1) (i := 0) dX11_isRest_0 rfl rfl rfl ?_
  refine ax_iload_n (q := 2) (i := 1) dX11_isRest_1 rfl rfl rfl ?_
  refine ax_iload_n (q := 3) (i := 2) dX11_isRest_2 rfl rfl rfl ?_
  refine ax_iload_n (q := 4) (i := 3) dX11_isRest_3 rfl rfl rfl ?_
  refine ax_iload (q := 6) dX11_isRest_4 rfl rfl ?_
  refine ax_iload (q := 8) dX11_isRest_6 rfl rfl ?_
  refine ax_iand (q := 9) dX11_isRest_8 rfl ?_
  exact ax_callVci (q := 12) (As := [ax_i a0, ax_i a1, ax_i a2, ax_i (a3 &&& a4)]) (st := []) dX11_isRest_9 rfl lk_X11_392 shC_0 rfl rfl rfl rfl (Nat.le_of_ble_eq_true rfl) k1
set_option maxRecDepth 20000 in
theorem s_X11_isRest_12 {d : Nat} (hd : 0 ≤ d) {Q : Option ax_V → ax_S → Prop} (σ : ax_S) (x1 : Int32) (x2 : Int32) (x3 : Int32) (x4 : Int32) (x5 : Int32) (rr : Int32) (k1 : ax_Ct shC d mX11_gain [ax_r 0, ax_i x1, ax_i x2, ax_i x3, ax_i (((1 : Int32) - x4) &&& x5)] (fun r u => ∃ x : Int32, r = some (ax_i x) ∧ ax_W shC (d + 1) mX11_isRest Q 26 [some (ax_r 0), some (ax_i x1), some (ax_i x2), some (ax_i x3), some (ax_i x4), some (ax_i x5)] (ax_i x :: [ax_i rr]) u) σ) : ax_W shC (d + 1) mX11_isRest Q 12 [some (ax_r 0), some (ax_i x1), some (ax_i x2), some (ax_i x3), some (ax_i x4), some (ax_i x5)] [ax_i rr] σ := by
  refine ax_aload_n (q := 13) (i := 0) dX11_isRest_12 rfl rfl rfl ?_
  refine ax_iload_n (q := 14) (i := 1) dX11_isRest_13 rfl rfl rfl ?_
  refine ax_iload_n (q := 15) (i := 2) dX11_isRest_14 rfl rfl rfl ?_
  refine ax_iload_n (q := 16) (i := 3) dX11_isRest_15 rfl rfl rfl ?_
  refine ax_iconst (q := 17) dX11_isRest_16 rfl ki_1 ?_
  refine ax_iload (q := 19) dX11_isRest_17 rfl rfl ?_
  refine ax_isub (q := 20) dX11_isRest_19 rfl ?_
  refine ax_iload (q := 22) dX11_isRest_20 rfl rfl ?_
  refine ax_iand (q := 23) dX11_isRest_22 rfl ?_
  exact ax_callVci (q := 26) (As := [ax_i x1, ax_i x2, ax_i x3, ax_i (((1 : Int32) - x4) &&& x5)]) (st := [ax_i rr]) dX11_isRest_23 rfl lk_X11_392 shC_0 rfl rfl rfl rfl (Nat.le_of_ble_eq_true rfl) k1
set_option maxRecDepth 20000 in
theorem s_X11_isRest_26 {d : Nat} (hd : 0 ≤ d) {Q : Option ax_V → ax_S → Prop} (σ : ax_S) (x1 : Int32) (x2 : Int32) (x3 : Int32) (x4 : Int32) (x5 : Int32) (rr : Int32) (y0 : Int32) (k1 : (y0 < rr) → Q (some (ax_i (0 : Int32))) σ) (k2 : (¬ (y0 < rr)) → ax_Ct shC d mX11_gain [ax_r 0, ax_i x2, ax_i x1, ax_i x3, ax_i (x4 &&& x5)] (fun r u => ∃ x : Int32, r = some (ax_i x) ∧ ax_W shC (d + 1) mX11_isRest Q 41 [some (ax_r 0), some (ax_i x1), some (ax_i x2), some (ax_i x3), some (ax_i x4), some (ax_i x5)] (ax_i x :: []) u) σ) : ax_W shC (d + 1) mX11_isRest Q 26 [some (ax_r 0), some (ax_i x1), some (ax_i x2), some (ax_i x3), some (ax_i x4), some (ax_i x5)] [ax_i rr, ax_i y0] σ := by
  refine ax_icmp_lt (tgt := 62) (q := 29) dX11_isRest_26 (by decide) rfl (fun c1 => ?_) (fun c1 => ?_)
  · refine ax_iconst (q := 63) dX11_isRest_62 rfl ki_0 ?_
    exact ax_iret dX11_isRest_63 rfl rfl (k1 c1)
  · refine ax_aload_n (q := 30) (i := 0) dX11_isRest_29 rfl rfl rfl ?_
    refine ax_iload_n (q := 31) (i := 2) dX11_isRest_30 rfl rfl rfl ?_
    refine ax_iload_n (q := 32) (i := 1) dX11_isRest_31 rfl rfl rfl ?_
    refine ax_iload_n (q := 33) (i := 3) dX11_isRest_32 rfl rfl rfl ?_
    refine ax_iload (q := 35) dX11_isRest_33 rfl rfl ?_
    refine ax_iload (q := 37) dX11_isRest_35 rfl rfl ?_
    refine ax_iand (q := 38) dX11_isRest_37 rfl ?_
    exact ax_callVci (q := 41) (As := [ax_i x2, ax_i x1, ax_i x3, ax_i (x4 &&& x5)]) (st := []) dX11_isRest_38 rfl lk_X11_392 shC_0 rfl rfl rfl rfl (Nat.le_of_ble_eq_true rfl) (k2 c1)
set_option maxRecDepth 20000 in
theorem s_X11_isRest_41 {d : Nat} (hd : 0 ≤ d) {Q : Option ax_V → ax_S → Prop} (σ : ax_S) (x1 : Int32) (x2 : Int32) (x3 : Int32) (x4 : Int32) (x5 : Int32) (rr : Int32) (k1 : ax_Ct shC d mX11_gain [ax_r 0, ax_i x2, ax_i x1, ax_i x3, ax_i (x4 &&& ((1 : Int32) - x5))] (fun r u => ∃ x : Int32, r = some (ax_i x) ∧ ax_W shC (d + 1) mX11_isRest Q 55 [none, none, none, none, none, none] (ax_i x :: [ax_i rr]) u) σ) : ax_W shC (d + 1) mX11_isRest Q 41 [some (ax_r 0), some (ax_i x1), some (ax_i x2), some (ax_i x3), some (ax_i x4), some (ax_i x5)] [ax_i rr] σ := by
  refine ax_aload_n (q := 42) (i := 0) dX11_isRest_41 rfl rfl rfl ?_
  refine ax_iload_n (q := 43) (i := 2) dX11_isRest_42 rfl rfl rfl ?_
  refine ax_iload_n (q := 44) (i := 1) dX11_isRest_43 rfl rfl rfl ?_
  refine ax_iload_n (q := 45) (i := 3) dX11_isRest_44 rfl rfl rfl ?_
  refine ax_iload (q := 47) dX11_isRest_45 rfl rfl ?_
  refine ax_iconst (q := 48) dX11_isRest_47 rfl ki_1 ?_
  refine ax_iload (q := 50) dX11_isRest_48 rfl rfl ?_
  refine ax_isub (q := 51) dX11_isRest_50 rfl ?_
  refine ax_iand (q := 52) dX11_isRest_51 rfl ?_
  refine ax_fg (lv2 := [none, none, none, none, none, none]) trivial ?_
  exact ax_callVci (q := 55) (As := [ax_i x2, ax_i x1, ax_i x3, ax_i (x4 &&& ((1 : Int32) - x5))]) (st := [ax_i rr]) dX11_isRest_52 rfl lk_X11_392 shC_0 rfl rfl rfl rfl (Nat.le_of_ble_eq_true rfl) k1
set_option maxRecDepth 20000 in
theorem s_X11_isRest_55 {d : Nat} (hd : 0 ≤ d) {Q : Option ax_V → ax_S → Prop} (σ : ax_S) (rr : Int32) (y0 : Int32) (k1 : Q (some (ax_i (if (¬ (y0 < rr)) then (1 : Int32) else 0))) σ) : ax_W shC (d + 1) mX11_isRest Q 55 [none, none, none, none, none, none] [ax_i rr, ax_i y0] σ := by
  have K2 : ax_W shC (d + 1) mX11_isRest Q 63 [none, none, none, none, none, none] [ax_i (if (¬ (y0 < rr)) then (1 : Int32) else 0)] σ := by
    exact ax_iret dX11_isRest_63 rfl (ax_nb _) k1
  refine ax_icmp_lt (tgt := 62) (q := 58) dX11_isRest_55 (by decide) rfl (fun c1 => ?_) (fun c1 => ?_)
  · refine ax_iconst (q := 63) dX11_isRest_62 rfl ki_0 ?_
    exact ax_cv (if_neg (fun y => y c1)) K2
  · refine ax_iconst (q := 59) dX11_isRest_58 rfl ki_1 ?_
    refine ax_goto (tgt := 63) dX11_isRest_59 (by decide) ?_
    exact ax_cv (if_pos c1) K2
set_option maxRecDepth 20000 in
theorem s_X11_rests_0 {d : Nat} (hd : 0 ≤ d) {Q : Option ax_V → ax_S → Prop} (σ : ax_S) (a0 : Int32) (a1 : Int32) (a2 : Int32) (a3 : Int32) (k1 : ax_Ct shC d mX11_mayPlay [ax_r 0, ax_i a0, ax_i a1, ax_i a2] (fun r u => ∃ x : Int32, r = some (ax_i x) ∧ ax_W shC (d + 1) mX11_rests Q 7 [some (ax_r 0), some (ax_i a0), some (ax_i a1), some (ax_i a2), some (ax_i a3), none, none, none, none] (ax_i x :: []) u) σ) : ax_W shC (d + 1) mX11_rests Q 0 [some (ax_r 0), some (ax_i a0), some (ax_i a1), some (ax_i a2), some (ax_i a3), none, none, none, none] [] σ := by
  refine ax_aload_n (q := 1) (i := 0) dX11_rests_0 rfl rfl rfl ?_
  refine ax_iload_n (q := 2) (i := 1) dX11_rests_1 rfl rfl rfl ?_
  refine ax_iload_n (q := 3) (i := 2) dX11_rests_2 rfl rfl rfl ?_
  refine ax_iload_n (q := 4) (i := 3) dX11_rests_3 rfl rfl rfl ?_
  exact ax_callVci (q := 7) (As := [ax_i a0, ax_i a1, ax_i a2]) (st := []) dX11_rests_4 rfl lk_X11_388 shC_0 rfl rfl rfl rfl (Nat.le_of_ble_eq_true rfl) k1
set_option maxRecDepth 20000 in
theorem s_X11_rests_7 {d : Nat} (hd : 0 ≤ d) {Q : Option ax_V → ax_S → Prop} (σ : ax_S) (x1 : Int32) (x2 : Int32) (x3 : Int32) (x4 : Int32) (rr : Int32) (k1 : (rr = 0) → Q (some (ax_i (-1 : Int32))) σ) (k2 : (¬ (rr = 0)) → ((-1 : Int32) ≤ x4) → ax_W shC (d + 1) mX11_rests Q 24 [some (ax_r 0), some (ax_i x1), some (ax_i x2), some (ax_i x3), some (ax_i x4), some (ax_i (0 : Int32)), some (ax_i (0 : Int32)), none, none] [] σ) (k3 : (¬ (rr = 0)) → (¬ ((-1 : Int32) ≤ x4)) → Q (some (ax_i (-1 : Int32))) σ) : ax_W shC (d + 1) mX11_rests Q 7 [some (ax_r 0), some (ax_i x1), some (ax_i x2), some (ax_i x3), some (ax_i x4), none, none, none, none] [ax_i rr] σ := by
  refine ax_if_eq (tgt := 16) (q := 10) dX11_rests_7 (by decide) rfl (fun c1 => ?_) (fun c1 => ?_)
  · refine ax_iconst (q := 17) dX11_rests_16 rfl ki_m1 ?_
    exact ax_iret dX11_rests_17 rfl rfl (k1 c1)
  · refine ax_iload (q := 12) dX11_rests_10 rfl rfl ?_
    refine ax_iconst (q := 13) dX11_rests_12 rfl ki_m1 ?_
    refine ax_icmp_ge (tgt := 18) (q := 16) dX11_rests_13 (by decide) rfl (fun c2 => ?_) (fun c2 => ?_)
    · refine ax_iconst (q := 19) dX11_rests_18 rfl ki_0 ?_
      refine ax_istore (q := 21) (lv2 := [some (ax_r 0), some (ax_i x1), some (ax_i x2), some (ax_i x3), some (ax_i x4), some (ax_i (0 : Int32)), none, none, none]) dX11_rests_19 rfl (by decide) rfl rfl ?_
      refine ax_iconst (q := 22) dX11_rests_21 rfl ki_0 ?_
      refine ax_istore (q := 24) (lv2 := [some (ax_r 0), some (ax_i x1), some (ax_i x2), some (ax_i x3), some (ax_i x4), some (ax_i (0 : Int32)), some (ax_i (0 : Int32)), none, none]) dX11_rests_22 rfl (by decide) rfl rfl ?_
      exact (k2 c1 c2)
    · refine ax_iconst (q := 17) dX11_rests_16 rfl ki_m1 ?_
      exact ax_iret dX11_rests_17 rfl rfl (k3 c1 c2)
set_option maxRecDepth 20000 in
theorem s_X11_rests_24 {d : Nat} (hd : 0 ≤ d) {Q : Option ax_V → ax_S → Prop} (σ : ax_S) (x1 : Int32) (x2 : Int32) (x3 : Int32) (x4 : Int32) (x5 : Int32) (x6 : Int32) (k1 : ((4 : Int32) ≤ x6) → Q (some (ax_i (if (¬ x4 = (-1 : Int32)) then (-1 : Int32) else x5))) σ) (k2 : (¬ ((4 : Int32) ≤ x6)) → ax_Ct shC d mX11_isRest [ax_r 0, ax_i x1, ax_i x2, ax_i x3, ax_i (x6 >>> ((1 : Int32) &&& 31)), ax_i (x6 &&& (1 : Int32))] (fun r u => ∃ x : Int32, r = some (ax_i x) ∧ ax_W shC (d + 1) mX11_rests Q 53 [some (ax_r 0), some (ax_i x1), some (ax_i x2), some (ax_i x3), some (ax_i x4), some (ax_i x5), some (ax_i x6), some (ax_i (x6 >>> ((1 : Int32) &&& 31))), some (ax_i (x6 &&& (1 : Int32)))] (ax_i x :: []) u) σ) : ax_W shC (d + 1) mX11_rests Q 24 [some (ax_r 0), some (ax_i x1), some (ax_i x2), some (ax_i x3), some (ax_i x4), some (ax_i x5), some (ax_i x6), none, none] [] σ := by
  refine ax_iload (q := 26) dX11_rests_24 rfl rfl ?_
  refine ax_iconst (q := 27) dX11_rests_26 rfl ki_4 ?_
  refine ax_icmp_ge (tgt := 84) (q := 30) dX11_rests_27 (by decide) rfl (fun c1 => ?_) (fun c1 => ?_)
  · refine ax_iload (q := 86) dX11_rests_84 rfl rfl ?_
    refine ax_iconst (q := 87) dX11_rests_86 rfl ki_m1 ?_
    have K3 : ax_W shC (d + 1) mX11_rests Q 96 [some (ax_r 0), some (ax_i x1), some (ax_i x2), some (ax_i x3), some (ax_i x4), some (ax_i x5), some (ax_i x6), none, none] [ax_i (if (¬ x4 = (-1 : Int32)) then (-1 : Int32) else x5)] σ := by
      exact ax_iret dX11_rests_96 rfl rfl (k1 c1)
    refine ax_icmp_ne (tgt := 95) (q := 90) dX11_rests_87 (by decide) rfl (fun c2 => ?_) (fun c2 => ?_)
    · refine ax_iconst (q := 96) dX11_rests_95 rfl ki_m1 ?_
      exact ax_cv (if_pos c2) K3
    · refine ax_iload (q := 92) dX11_rests_90 rfl rfl ?_
      refine ax_goto (tgt := 96) dX11_rests_92 (by decide) ?_
      exact ax_cv (if_neg c2) K3
  · refine ax_iload (q := 32) dX11_rests_30 rfl rfl ?_
    refine ax_iconst (q := 33) dX11_rests_32 rfl ki_1 ?_
    refine ax_ishr (q := 34) dX11_rests_33 rfl ?_
    refine ax_istore (q := 36) (lv2 := [some (ax_r 0), some (ax_i x1), some (ax_i x2), some (ax_i x3), some (ax_i x4), some (ax_i x5), some (ax_i x6), some (ax_i (x6 >>> ((1 : Int32) &&& 31))), none]) dX11_rests_34 rfl (by decide) rfl rfl ?_
    refine ax_iload (q := 38) dX11_rests_36 rfl rfl ?_
    refine ax_iconst (q := 39) dX11_rests_38 rfl ki_1 ?_
    refine ax_iand (q := 40) dX11_rests_39 rfl ?_
    refine ax_istore (q := 42) (lv2 := [some (ax_r 0), some (ax_i x1), some (ax_i x2), some (ax_i x3), some (ax_i x4), some (ax_i x5), some (ax_i x6), some (ax_i (x6 >>> ((1 : Int32) &&& 31))), some (ax_i (x6 &&& (1 : Int32)))]) dX11_rests_40 rfl (by decide) rfl rfl ?_
    refine ax_aload_n (q := 43) (i := 0) dX11_rests_42 rfl rfl rfl ?_
    refine ax_iload_n (q := 44) (i := 1) dX11_rests_43 rfl rfl rfl ?_
    refine ax_iload_n (q := 45) (i := 2) dX11_rests_44 rfl rfl rfl ?_
    refine ax_iload_n (q := 46) (i := 3) dX11_rests_45 rfl rfl rfl ?_
    refine ax_iload (q := 48) dX11_rests_46 rfl rfl ?_
    refine ax_iload (q := 50) dX11_rests_48 rfl rfl ?_
    exact ax_callVci (q := 53) (As := [ax_i x1, ax_i x2, ax_i x3, ax_i (x6 >>> ((1 : Int32) &&& 31)), ax_i (x6 &&& (1 : Int32))]) (st := []) dX11_rests_50 rfl lk_X11_396 shC_0 rfl rfl rfl rfl (Nat.le_of_ble_eq_true rfl) (k2 c1)
set_option maxRecDepth 20000 in
theorem s_X11_rests_53 {d : Nat} (hd : 0 ≤ d) {Q : Option ax_V → ax_S → Prop} (σ : ax_S) (x1 : Int32) (x2 : Int32) (x3 : Int32) (x4 : Int32) (x5 : Int32) (x6 : Int32) (x7 : Int32) (x8 : Int32) (rr : Int32) (k1 : (¬ rr = 0) → (¬ x5 = x4) → ax_W shC (d + 1) mX11_rests Q 24 [some (ax_r 0), some (ax_i x1), some (ax_i x2), some (ax_i x3), some (ax_i x4), some (ax_i (x5 + (1 : Int32))), some (ax_i (x6 + (1 : Int32))), none, none] [] σ) (k2 : (¬ rr = 0) → (¬ (¬ x5 = x4)) → Q (some (ax_i (((10 : Int32) * x7) + x8))) σ) (k3 : (¬ (¬ rr = 0)) → ax_W shC (d + 1) mX11_rests Q 24 [some (ax_r 0), some (ax_i x1), some (ax_i x2), some (ax_i x3), some (ax_i x4), some (ax_i x5), some (ax_i (x6 + (1 : Int32))), none, none] [] σ) : ax_W shC (d + 1) mX11_rests Q 53 [some (ax_r 0), some (ax_i x1), some (ax_i x2), some (ax_i x3), some (ax_i x4), some (ax_i x5), some (ax_i x6), some (ax_i x7), some (ax_i x8)] [ax_i rr] σ := by
  refine ax_if_ne (tgt := 59) (q := 56) dX11_rests_53 (by decide) rfl (fun c1 => ?_) (fun c1 => ?_)
  · refine ax_iload (q := 61) dX11_rests_59 rfl rfl ?_
    refine ax_iload (q := 63) dX11_rests_61 rfl rfl ?_
    refine ax_icmp_ne (tgt := 75) (q := 66) dX11_rests_63 (by decide) rfl (fun c2 => ?_) (fun c2 => ?_)
    · refine ax_iincK (q := 78) (lv2 := [some (ax_r 0), some (ax_i x1), some (ax_i x2), some (ax_i x3), some (ax_i x4), some (ax_i (x5 + (1 : Int32))), some (ax_i x6), some (ax_i x7), some (ax_i x8)]) dX11_rests_75 rfl rfl ki_1 (by decide) rfl rfl ?_
      refine ax_iincK (q := 81) (lv2 := [some (ax_r 0), some (ax_i x1), some (ax_i x2), some (ax_i x3), some (ax_i x4), some (ax_i (x5 + (1 : Int32))), some (ax_i (x6 + (1 : Int32))), some (ax_i x7), some (ax_i x8)]) dX11_rests_78 rfl rfl ki_1 (by decide) rfl rfl ?_
      refine ax_goto (tgt := 24) dX11_rests_81 (by decide) ?_
      refine ax_fg (lv2 := [some (ax_r 0), some (ax_i x1), some (ax_i x2), some (ax_i x3), some (ax_i x4), some (ax_i (x5 + (1 : Int32))), some (ax_i (x6 + (1 : Int32))), none, none]) ⟨rfl, rfl, rfl, rfl, rfl, rfl, rfl, trivial⟩ ?_
      exact (k1 c1 c2)
    · refine ax_bipush (q := 68) dX11_rests_66 rfl kb_10 ?_
      refine ax_iload (q := 70) dX11_rests_68 rfl rfl ?_
      refine ax_imul (q := 71) dX11_rests_70 rfl ?_
      refine ax_iload (q := 73) dX11_rests_71 rfl rfl ?_
      refine ax_iadd (q := 74) dX11_rests_73 rfl ?_
      exact ax_iret dX11_rests_74 rfl rfl (k2 c1 c2)
  · refine ax_goto (tgt := 78) dX11_rests_56 (by decide) ?_
    refine ax_iincK (q := 81) (lv2 := [some (ax_r 0), some (ax_i x1), some (ax_i x2), some (ax_i x3), some (ax_i x4), some (ax_i x5), some (ax_i (x6 + (1 : Int32))), some (ax_i x7), some (ax_i x8)]) dX11_rests_78 rfl rfl ki_1 (by decide) rfl rfl ?_
    refine ax_goto (tgt := 24) dX11_rests_81 (by decide) ?_
    refine ax_fg (lv2 := [some (ax_r 0), some (ax_i x1), some (ax_i x2), some (ax_i x3), some (ax_i x4), some (ax_i x5), some (ax_i (x6 + (1 : Int32))), none, none]) ⟨rfl, rfl, rfl, rfl, rfl, rfl, rfl, trivial⟩ ?_
    exact (k3 c1)
set_option maxRecDepth 20000 in
theorem s_X11_wouldLeave_0 {d : Nat} (hd : 0 ≤ d) {Q : Option ax_V → ax_S → Prop} (σ : ax_S) (a0 : Int32) (a1 : Int32) (a2 : Int32) (h1 : vp_in a1 17) (k2 : ax_Ct shC d mX11_mostKept [ax_r 0, ax_i (a0 &&& (((1 : Int32) <<< (a1 &&& 31)) ^^^ (-1 : Int32))), ax_i (σ.1 28 (Int32.toNatClampNeg a1)), ax_i (σ.1 29 (Int32.toNatClampNeg a1)), ax_i a2] (fun r u => ∃ x : Int32, r = some (ax_i x) ∧ ax_W shC (d + 1) mX11_wouldLeave Q 42 [some (ax_r 0), some (ax_i a0), none, some (ax_i a2), some (ax_i (σ.1 28 (Int32.toNatClampNeg a1))), some (ax_i (σ.1 29 (Int32.toNatClampNeg a1))), some (ax_i (a0 &&& (((1 : Int32) <<< (a1 &&& 31)) ^^^ (-1 : Int32))))] (ax_i x :: []) u) σ) : ax_W shC (d + 1) mX11_wouldLeave Q 0 [some (ax_r 0), some (ax_i a0), some (ax_i a1), some (ax_i a2), none, none, none] [] σ := by
  refine ax_aload_n (q := 1) (i := 0) dX11_wouldLeave_0 rfl rfl rfl ?_
  refine ax_get (q := 4) (k := 0) (j := 4) (v := ax_r 5) dX11_wouldLeave_1 rfl shC_0 rfl rfl rfl (by decide) fl_X11_42 ?_
  refine ax_get (q := 7) (k := 5) (j := 5) (v := ax_r 28) dX11_wouldLeave_4 rfl shC_5 rfl rfl rfl (by decide) fl_X11_203 ?_
  refine ax_iload_n (q := 8) (i := 2) dX11_wouldLeave_7 rfl rfl rfl ?_
  refine ax_iald (q := 9) (a := (Int32.toNatClampNeg a1)) (v := (σ.1 28 (Int32.toNatClampNeg a1))) dX11_wouldLeave_8 rfl shC_28 h1 rfl rfl ?_
  refine ax_istore (q := 11) (lv2 := [some (ax_r 0), some (ax_i a0), some (ax_i a1), some (ax_i a2), some (ax_i (σ.1 28 (Int32.toNatClampNeg a1))), none, none]) dX11_wouldLeave_9 rfl (by decide) rfl rfl ?_
  refine ax_aload_n (q := 12) (i := 0) dX11_wouldLeave_11 rfl rfl rfl ?_
  refine ax_get (q := 15) (k := 0) (j := 4) (v := ax_r 5) dX11_wouldLeave_12 rfl shC_0 rfl rfl rfl (by decide) fl_X11_42 ?_
  refine ax_get (q := 18) (k := 5) (j := 6) (v := ax_r 29) dX11_wouldLeave_15 rfl shC_5 rfl rfl rfl (by decide) fl_X11_206 ?_
  refine ax_iload_n (q := 19) (i := 2) dX11_wouldLeave_18 rfl rfl rfl ?_
  refine ax_iald (q := 20) (a := (Int32.toNatClampNeg a1)) (v := (σ.1 29 (Int32.toNatClampNeg a1))) dX11_wouldLeave_19 rfl shC_29 h1 rfl rfl ?_
  refine ax_istore (q := 22) (lv2 := [some (ax_r 0), some (ax_i a0), some (ax_i a1), some (ax_i a2), some (ax_i (σ.1 28 (Int32.toNatClampNeg a1))), some (ax_i (σ.1 29 (Int32.toNatClampNeg a1))), none]) dX11_wouldLeave_20 rfl (by decide) rfl rfl ?_
  refine ax_iload_n (q := 23) (i := 1) dX11_wouldLeave_22 rfl rfl rfl ?_
  refine ax_iconst (q := 24) dX11_wouldLeave_23 rfl ki_1 ?_
  refine ax_iload_n (q := 25) (i := 2) dX11_wouldLeave_24 rfl rfl rfl ?_
  refine ax_ishl (q := 26) dX11_wouldLeave_25 rfl ?_
  refine ax_iconst (q := 27) dX11_wouldLeave_26 rfl ki_m1 ?_
  refine ax_ixor (q := 28) dX11_wouldLeave_27 rfl ?_
  refine ax_iand (q := 29) dX11_wouldLeave_28 rfl ?_
  refine ax_istore (q := 31) (lv2 := [some (ax_r 0), some (ax_i a0), some (ax_i a1), some (ax_i a2), some (ax_i (σ.1 28 (Int32.toNatClampNeg a1))), some (ax_i (σ.1 29 (Int32.toNatClampNeg a1))), some (ax_i (a0 &&& (((1 : Int32) <<< (a1 &&& 31)) ^^^ (-1 : Int32))))]) dX11_wouldLeave_29 rfl (by decide) rfl rfl ?_
  refine ax_aload_n (q := 32) (i := 0) dX11_wouldLeave_31 rfl rfl rfl ?_
  refine ax_iload (q := 34) dX11_wouldLeave_32 rfl rfl ?_
  refine ax_iload (q := 36) dX11_wouldLeave_34 rfl rfl ?_
  refine ax_iload (q := 38) dX11_wouldLeave_36 rfl rfl ?_
  refine ax_iload_n (q := 39) (i := 3) dX11_wouldLeave_38 rfl rfl rfl ?_
  refine ax_fg (lv2 := [some (ax_r 0), some (ax_i a0), none, some (ax_i a2), some (ax_i (σ.1 28 (Int32.toNatClampNeg a1))), some (ax_i (σ.1 29 (Int32.toNatClampNeg a1))), some (ax_i (a0 &&& (((1 : Int32) <<< (a1 &&& 31)) ^^^ (-1 : Int32))))]) ⟨rfl, rfl, rfl, rfl, rfl, rfl, trivial⟩ ?_
  exact ax_callVci (q := 42) (As := [ax_i (a0 &&& (((1 : Int32) <<< (a1 &&& 31)) ^^^ (-1 : Int32))), ax_i (σ.1 28 (Int32.toNatClampNeg a1)), ax_i (σ.1 29 (Int32.toNatClampNeg a1)), ax_i a2]) (st := []) dX11_wouldLeave_39 rfl lk_X11_454 shC_0 rfl rfl rfl rfl (Nat.le_of_ble_eq_true rfl) k2
set_option maxRecDepth 20000 in
theorem s_X11_wouldLeave_42 {d : Nat} (hd : 0 ≤ d) {Q : Option ax_V → ax_S → Prop} (σ : ax_S) (x1 : Int32) (x3 : Int32) (x4 : Int32) (x5 : Int32) (x6 : Int32) (rr : Int32) (k1 : ax_Ct shC d mX11_mostKept [ax_r 0, ax_i x1, ax_i x4, ax_i x5, ax_i x3] (fun r u => ∃ x : Int32, r = some (ax_i x) ∧ ax_W shC (d + 1) mX11_wouldLeave Q 52 [some (ax_r 0), some (ax_i x1), none, some (ax_i x3), some (ax_i x4), some (ax_i x5), some (ax_i x6)] (ax_i x :: [ax_i rr]) u) σ) : ax_W shC (d + 1) mX11_wouldLeave Q 42 [some (ax_r 0), some (ax_i x1), none, some (ax_i x3), some (ax_i x4), some (ax_i x5), some (ax_i x6)] [ax_i rr] σ := by
  refine ax_aload_n (q := 43) (i := 0) dX11_wouldLeave_42 rfl rfl rfl ?_
  refine ax_iload_n (q := 44) (i := 1) dX11_wouldLeave_43 rfl rfl rfl ?_
  refine ax_iload (q := 46) dX11_wouldLeave_44 rfl rfl ?_
  refine ax_iload (q := 48) dX11_wouldLeave_46 rfl rfl ?_
  refine ax_iload_n (q := 49) (i := 3) dX11_wouldLeave_48 rfl rfl rfl ?_
  exact ax_callVci (q := 52) (As := [ax_i x1, ax_i x4, ax_i x5, ax_i x3]) (st := [ax_i rr]) dX11_wouldLeave_49 rfl lk_X11_454 shC_0 rfl rfl rfl rfl (Nat.le_of_ble_eq_true rfl) k1
set_option maxRecDepth 20000 in
theorem s_X11_wouldLeave_52 {d : Nat} (hd : 0 ≤ d) {Q : Option ax_V → ax_S → Prop} (σ : ax_S) (x1 : Int32) (x3 : Int32) (x4 : Int32) (x5 : Int32) (x6 : Int32) (rr : Int32) (y0 : Int32) (k1 : (y0 < rr) → Q (some (ax_i (1 : Int32))) σ) (k2 : (¬ (y0 < rr)) → ax_Ct shC d mX11_mostKept [ax_r 0, ax_i x6, ax_i x5, ax_i x4, ax_i x3] (fun r u => ∃ x : Int32, r = some (ax_i x) ∧ ax_W shC (d + 1) mX11_wouldLeave Q 66 [some (ax_r 0), some (ax_i x1), none, some (ax_i x3), some (ax_i x4), some (ax_i x5), none] (ax_i x :: []) u) σ) : ax_W shC (d + 1) mX11_wouldLeave Q 52 [some (ax_r 0), some (ax_i x1), none, some (ax_i x3), some (ax_i x4), some (ax_i x5), some (ax_i x6)] [ax_i rr, ax_i y0] σ := by
  refine ax_icmp_lt (tgt := 79) (q := 55) dX11_wouldLeave_52 (by decide) rfl (fun c1 => ?_) (fun c1 => ?_)
  · refine ax_iconst (q := 80) dX11_wouldLeave_79 rfl ki_1 ?_
    refine ax_goto (tgt := 84) dX11_wouldLeave_80 (by decide) ?_
    exact ax_iret dX11_wouldLeave_84 rfl rfl (k1 c1)
  · refine ax_aload_n (q := 56) (i := 0) dX11_wouldLeave_55 rfl rfl rfl ?_
    refine ax_iload (q := 58) dX11_wouldLeave_56 rfl rfl ?_
    refine ax_iload (q := 60) dX11_wouldLeave_58 rfl rfl ?_
    refine ax_iload (q := 62) dX11_wouldLeave_60 rfl rfl ?_
    refine ax_iload_n (q := 63) (i := 3) dX11_wouldLeave_62 rfl rfl rfl ?_
    refine ax_fg (lv2 := [some (ax_r 0), some (ax_i x1), none, some (ax_i x3), some (ax_i x4), some (ax_i x5), none]) ⟨rfl, rfl, rfl, rfl, rfl, trivial⟩ ?_
    exact ax_callVci (q := 66) (As := [ax_i x6, ax_i x5, ax_i x4, ax_i x3]) (st := []) dX11_wouldLeave_63 rfl lk_X11_454 shC_0 rfl rfl rfl rfl (Nat.le_of_ble_eq_true rfl) (k2 c1)
set_option maxRecDepth 20000 in
theorem s_X11_wouldLeave_66 {d : Nat} (hd : 0 ≤ d) {Q : Option ax_V → ax_S → Prop} (σ : ax_S) (x1 : Int32) (x3 : Int32) (x4 : Int32) (x5 : Int32) (rr : Int32) (k1 : ax_Ct shC d mX11_mostKept [ax_r 0, ax_i x1, ax_i x5, ax_i x4, ax_i x3] (fun r u => ∃ x : Int32, r = some (ax_i x) ∧ ax_W shC (d + 1) mX11_wouldLeave Q 76 [none, none, none, none, none, none, none] (ax_i x :: [ax_i rr]) u) σ) : ax_W shC (d + 1) mX11_wouldLeave Q 66 [some (ax_r 0), some (ax_i x1), none, some (ax_i x3), some (ax_i x4), some (ax_i x5), none] [ax_i rr] σ := by
  refine ax_aload_n (q := 67) (i := 0) dX11_wouldLeave_66 rfl rfl rfl ?_
  refine ax_iload_n (q := 68) (i := 1) dX11_wouldLeave_67 rfl rfl rfl ?_
  refine ax_iload (q := 70) dX11_wouldLeave_68 rfl rfl ?_
  refine ax_iload (q := 72) dX11_wouldLeave_70 rfl rfl ?_
  refine ax_iload_n (q := 73) (i := 3) dX11_wouldLeave_72 rfl rfl rfl ?_
  refine ax_fg (lv2 := [none, none, none, none, none, none, none]) trivial ?_
  exact ax_callVci (q := 76) (As := [ax_i x1, ax_i x5, ax_i x4, ax_i x3]) (st := [ax_i rr]) dX11_wouldLeave_73 rfl lk_X11_454 shC_0 rfl rfl rfl rfl (Nat.le_of_ble_eq_true rfl) k1
set_option maxRecDepth 20000 in
theorem s_X11_wouldLeave_76 {d : Nat} (hd : 0 ≤ d) {Q : Option ax_V → ax_S → Prop} (σ : ax_S) (rr : Int32) (y0 : Int32) (k1 : Q (some (ax_i (if (¬ (rr ≤ y0)) then (1 : Int32) else 0))) σ) : ax_W shC (d + 1) mX11_wouldLeave Q 76 [none, none, none, none, none, none, none] [ax_i rr, ax_i y0] σ := by
  have K2 : ax_W shC (d + 1) mX11_wouldLeave Q 84 [none, none, none, none, none, none, none] [ax_i (if (¬ (rr ≤ y0)) then (1 : Int32) else 0)] σ := by
    exact ax_iret dX11_wouldLeave_84 rfl (ax_nb _) k1
  refine ax_icmp_ge (tgt := 83) (q := 79) dX11_wouldLeave_76 (by decide) rfl (fun c1 => ?_) (fun c1 => ?_)
  · refine ax_iconst (q := 84) dX11_wouldLeave_83 rfl ki_0 ?_
    exact ax_cv (if_neg (fun y => y c1)) K2
  · refine ax_iconst (q := 80) dX11_wouldLeave_79 rfl ki_1 ?_
    refine ax_goto (tgt := 84) dX11_wouldLeave_80 (by decide) ?_
    exact ax_cv (if_pos c1) K2
set_option maxRecDepth 20000 in
theorem s_X11_leaves_0 {d : Nat} (hd : 1 ≤ d) {Q : Option ax_V → ax_S → Prop} (σ : ax_S) (a0 : Int32) (k1 : (¬ (¬ ((σ.1 5 9) ≤ 0))) → Q (some (ax_i (-1 : Int32))) σ) (k2 : (¬ ((σ.1 5 9) ≤ 0)) → ((¬ (a0 < (1 : Int32))) ∧ (¬ ((999 : Int32) < a0))) → ax_Ct shC d mX0_live [ax_r 5] (fun r u => ∃ x : Int32, r = some (ax_i x) ∧ ax_W shC (d + 1) mX11_leaves Q 23 [some (ax_r 0), some (ax_i a0), none, none, none] (ax_i x :: []) u) σ) (k3 : (¬ ((σ.1 5 9) ≤ 0)) → (¬ ((¬ (a0 < (1 : Int32))) ∧ (¬ ((999 : Int32) < a0)))) → Q (some (ax_i (-1 : Int32))) σ) : ax_W shC (d + 1) mX11_leaves Q 0 [some (ax_r 0), some (ax_i a0), none, none, none] [] σ := by
  refine ax_aload_n (q := 1) (i := 0) dX11_leaves_0 rfl rfl rfl ?_
  refine ax_callVfi (q := 4) (As := []) (st := []) (x := (if (¬ ((σ.1 5 9) ≤ 0)) then (1 : Int32) else 0)) (σ2 := σ) dX11_leaves_1 rfl lk_X11_274 shC_0 rfl rfl rfl rfl (Nat.le_of_ble_eq_true rfl) (f_X11_hasBelt σ   (d := d) (by omega)) ?_
  refine ax_if_eqB (tgt := 14) (q := 7) dX11_leaves_4 (by decide) rfl (fun c1 => ?_) (fun c1 => ?_)
  · refine ax_iconst (q := 15) dX11_leaves_14 rfl ki_m1 ?_
    exact ax_iret dX11_leaves_15 rfl rfl (k1 c1)
  · refine ax_iload_n (q := 8) (i := 1) dX11_leaves_7 rfl rfl rfl ?_
    refine ax_callSfi (q := 11) (As := [ax_i a0]) (st := []) (x := (if ((¬ (a0 < (1 : Int32))) ∧ (¬ ((999 : Int32) < a0))) then (1 : Int32) else 0)) (σ2 := σ) dX11_leaves_8 rfl lk_X11_245 rfl rfl (Nat.le_of_ble_eq_true rfl) (f_X11_isStroke (sh := shC) σ a0  (d := d) (by omega)) ?_
    refine ax_if_neB (tgt := 16) (q := 14) dX11_leaves_11 (by decide) rfl (fun c2 => ?_) (fun c2 => ?_)
    · refine ax_aload_n (q := 17) (i := 0) dX11_leaves_16 rfl rfl rfl ?_
      refine ax_get (q := 20) (k := 0) (j := 4) (v := ax_r 5) dX11_leaves_17 rfl shC_0 rfl rfl rfl (by decide) fl_X11_42 ?_
      exact ax_callVci (q := 23) (As := []) (st := []) dX11_leaves_20 rfl lk_X11_185 shC_5 rfl rfl rfl rfl (Nat.le_of_ble_eq_true rfl) (k2 c1 c2)
    · refine ax_iconst (q := 15) dX11_leaves_14 rfl ki_m1 ?_
      exact ax_iret dX11_leaves_15 rfl rfl (k3 c1 c2)
set_option maxRecDepth 20000 in
theorem s_X11_leaves_23 {d : Nat} (hd : 0 ≤ d) {Q : Option ax_V → ax_S → Prop} (σ : ax_S) (x1 : Int32) (rr : Int32) (k1 : ax_W shC (d + 1) mX11_leaves Q 29 [some (ax_r 0), some (ax_i x1), some (ax_i rr), some (ax_i (0 : Int32)), some (ax_i (0 : Int32))] [] σ) : ax_W shC (d + 1) mX11_leaves Q 23 [some (ax_r 0), some (ax_i x1), none, none, none] [ax_i rr] σ := by
  refine ax_istore_n (q := 24) (i := 2) (lv2 := [some (ax_r 0), some (ax_i x1), some (ax_i rr), none, none]) dX11_leaves_23 rfl rfl (by decide) rfl rfl ?_
  refine ax_iconst (q := 25) dX11_leaves_24 rfl ki_0 ?_
  refine ax_istore_n (q := 26) (i := 3) (lv2 := [some (ax_r 0), some (ax_i x1), some (ax_i rr), some (ax_i (0 : Int32)), none]) dX11_leaves_25 rfl rfl (by decide) rfl rfl ?_
  refine ax_iconst (q := 27) dX11_leaves_26 rfl ki_0 ?_
  refine ax_istore (q := 29) (lv2 := [some (ax_r 0), some (ax_i x1), some (ax_i rr), some (ax_i (0 : Int32)), some (ax_i (0 : Int32))]) dX11_leaves_27 rfl (by decide) rfl rfl ?_
  exact k1
set_option maxRecDepth 20000 in
theorem s_X11_leaves_29 {d : Nat} (hd : 1 ≤ d) {Q : Option ax_V → ax_S → Prop} (σ : ax_S) (x1 : Int32) (x2 : Int32) (x3 : Int32) (x4 : Int32) (k1 : ((σ.1 5 10) ≤ x4) → Q (some (ax_i x3)) σ) (k2 : (¬ ((σ.1 5 10) ≤ x4)) → (¬ ((x2 >>> (x4 &&& 31)) &&& (1 : Int32)) = (1 : Int32)) → ax_W shC (d + 1) mX11_leaves Q 29 [some (ax_r 0), some (ax_i x1), some (ax_i x2), some (ax_i x3), some (ax_i (x4 + (1 : Int32)))] [] σ) (k3 : (¬ ((σ.1 5 10) ≤ x4)) → (¬ (¬ ((x2 >>> (x4 &&& 31)) &&& (1 : Int32)) = (1 : Int32))) → ax_Ct shC d mX11_wouldLeave [ax_r 0, ax_i x2, ax_i x4, ax_i x1] (fun r u => ∃ x : Int32, r = some (ax_i x) ∧ ax_W shC (d + 1) mX11_leaves Q 59 [some (ax_r 0), some (ax_i x1), some (ax_i x2), some (ax_i x3), some (ax_i x4)] (ax_i x :: []) u) σ) : ax_W shC (d + 1) mX11_leaves Q 29 [some (ax_r 0), some (ax_i x1), some (ax_i x2), some (ax_i x3), some (ax_i x4)] [] σ := by
  refine ax_iload (q := 31) dX11_leaves_29 rfl rfl ?_
  refine ax_aload_n (q := 32) (i := 0) dX11_leaves_31 rfl rfl rfl ?_
  refine ax_get (q := 35) (k := 0) (j := 4) (v := ax_r 5) dX11_leaves_32 rfl shC_0 rfl rfl rfl (by decide) fl_X11_42 ?_
  refine ax_get (q := 38) (k := 5) (j := 10) (v := ax_i (σ.1 5 10)) dX11_leaves_35 rfl shC_5 rfl rfl rfl (by decide) fl_X11_221 ?_
  refine ax_icmp_ge (tgt := 75) (q := 41) dX11_leaves_38 (by decide) rfl (fun c1 => ?_) (fun c1 => ?_)
  · refine ax_iload_n (q := 76) (i := 3) dX11_leaves_75 rfl rfl rfl ?_
    exact ax_iret dX11_leaves_76 rfl rfl (k1 c1)
  · refine ax_iload_n (q := 42) (i := 2) dX11_leaves_41 rfl rfl rfl ?_
    refine ax_iload (q := 44) dX11_leaves_42 rfl rfl ?_
    refine ax_callSfi (q := 47) (As := [ax_i x2, ax_i x4]) (st := []) (x := ((x2 >>> (x4 &&& 31)) &&& (1 : Int32))) (σ2 := σ) dX11_leaves_44 rfl lk_X11_215 rfl rfl (Nat.le_of_ble_eq_true rfl) (f_X11_bitOf (sh := shC) σ x2 x4  (d := d) (by omega)) ?_
    refine ax_iconst (q := 48) dX11_leaves_47 rfl ki_1 ?_
    refine ax_icmp_ne (tgt := 69) (q := 51) dX11_leaves_48 (by decide) rfl (fun c2 => ?_) (fun c2 => ?_)
    · refine ax_iincK (q := 72) (lv2 := [some (ax_r 0), some (ax_i x1), some (ax_i x2), some (ax_i x3), some (ax_i (x4 + (1 : Int32)))]) dX11_leaves_69 rfl rfl ki_1 (by decide) rfl rfl ?_
      refine ax_goto (tgt := 29) dX11_leaves_72 (by decide) ?_
      exact (k2 c1 c2)
    · refine ax_aload_n (q := 52) (i := 0) dX11_leaves_51 rfl rfl rfl ?_
      refine ax_iload_n (q := 53) (i := 2) dX11_leaves_52 rfl rfl rfl ?_
      refine ax_iload (q := 55) dX11_leaves_53 rfl rfl ?_
      refine ax_iload_n (q := 56) (i := 1) dX11_leaves_55 rfl rfl rfl ?_
      exact ax_callVci (q := 59) (As := [ax_i x2, ax_i x4, ax_i x1]) (st := []) dX11_leaves_56 rfl lk_X11_400 shC_0 rfl rfl rfl rfl (Nat.le_of_ble_eq_true rfl) (k3 c1 c2)
set_option maxRecDepth 20000 in
theorem s_X11_leaves_59 {d : Nat} (hd : 0 ≤ d) {Q : Option ax_V → ax_S → Prop} (σ : ax_S) (x1 : Int32) (x2 : Int32) (x3 : Int32) (x4 : Int32) (rr : Int32) (k1 : (rr = 0) → ax_W shC (d + 1) mX11_leaves Q 29 [some (ax_r 0), some (ax_i x1), some (ax_i x2), some (ax_i x3), some (ax_i (x4 + (1 : Int32)))] [] σ) (k2 : (¬ (rr = 0)) → ax_W shC (d + 1) mX11_leaves Q 29 [some (ax_r 0), some (ax_i x1), some (ax_i x2), some (ax_i (x3 ||| ((1 : Int32) <<< (x4 &&& 31)))), some (ax_i (x4 + (1 : Int32)))] [] σ) : ax_W shC (d + 1) mX11_leaves Q 59 [some (ax_r 0), some (ax_i x1), some (ax_i x2), some (ax_i x3), some (ax_i x4)] [ax_i rr] σ := by
  refine ax_if_eq (tgt := 69) (q := 62) dX11_leaves_59 (by decide) rfl (fun c1 => ?_) (fun c1 => ?_)
  · refine ax_iincK (q := 72) (lv2 := [some (ax_r 0), some (ax_i x1), some (ax_i x2), some (ax_i x3), some (ax_i (x4 + (1 : Int32)))]) dX11_leaves_69 rfl rfl ki_1 (by decide) rfl rfl ?_
    refine ax_goto (tgt := 29) dX11_leaves_72 (by decide) ?_
    exact (k1 c1)
  · refine ax_iload_n (q := 63) (i := 3) dX11_leaves_62 rfl rfl rfl ?_
    refine ax_iconst (q := 64) dX11_leaves_63 rfl ki_1 ?_
    refine ax_iload (q := 66) dX11_leaves_64 rfl rfl ?_
    refine ax_ishl (q := 67) dX11_leaves_66 rfl ?_
    refine ax_ior (q := 68) dX11_leaves_67 rfl ?_
    refine ax_istore_n (q := 69) (i := 3) (lv2 := [some (ax_r 0), some (ax_i x1), some (ax_i x2), some (ax_i (x3 ||| ((1 : Int32) <<< (x4 &&& 31)))), some (ax_i x4)]) dX11_leaves_68 rfl rfl (by decide) rfl rfl ?_
    refine ax_iincK (q := 72) (lv2 := [some (ax_r 0), some (ax_i x1), some (ax_i x2), some (ax_i (x3 ||| ((1 : Int32) <<< (x4 &&& 31)))), some (ax_i (x4 + (1 : Int32)))]) dX11_leaves_69 rfl rfl ki_1 (by decide) rfl rfl ?_
    refine ax_goto (tgt := 29) dX11_leaves_72 (by decide) ?_
    exact (k2 c1)
